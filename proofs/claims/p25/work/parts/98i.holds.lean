-- ===== PURE: what holds in each evening, by the loops =====
theorem p_0 (n : Nat) : nI n + 0 = nI n := nI_add n 0
section HO
variable {M : gMem} {S : SS} {B k p s c : Nat} {a : EVN} {x1 x2 x3 x4 x5 x7 x8 x10 x11 : Int32}
theorem h_card (h : DI M S) (hV : DV B S) (hc : c < 32) : f_Law_holds_s55 M (nI (S.1 0 5)) (nI (fb_ct (fun c => decide (S.1 6 c ≠ 4294967295)) c)) (nI (fb_ct (fun c => decide (aH S.1 c = 4294967295)) c)) x4 x5 1 (nI c) = some (.inl (nI (fb_ct (fun c => decide (S.1 6 c ≠ 4294967295)) (c + 1)), nI (fb_ct (fun c => decide (aH S.1 c = 4294967295)) (c + 1)), 1, nI (c + 1), M)) := by
  have hVV := hV.1.1
  have hX := hV.1.2.1
  obtain ⟨g1, g2, g3, g4⟩ := hVV.2.2.1
  obtain ⟨v1, v2, v3, v4, v5, v6, v7, v8, v9, v10, v11⟩ := hVV.2.1
  have e0 : f_Law_call M 3 (nI c) 0 0 = some (nI (aH S.1 c), M) := r_card (w := 0) h hV hc (by omega)
  have e1 : f_Law_call M 3 (nI c) 1 0 = some (nI (S.1 5 c), M) := r_card (w := 1) h hV hc (by omega)
  have e2 : f_Law_call M 3 (nI c) 2 0 = some (nI (S.1 6 c), M) := r_card (w := 2) h hV hc (by omega)
  have c5 := g3 c hc
  have c6 := g2 c hc
  have cH : (S.1 6 c = 4294967295 ∧ aH S.1 c = S.1 5 c) ∨ (S.1 6 c ≠ 4294967295 ∧ aH S.1 c = 4294967295) := by
    unfold aH
    by_cases q : S.1 6 c = 4294967295
    · rw [if_pos q]; exact Or.inl ⟨q, rfl⟩
    · rw [if_neg q]; exact Or.inr ⟨q, rfl⟩
  have L0 : ∀ (t x2 x3 : Int32), f_Law_holds_b148_55 M (nI (S.1 0 5)) x2 x3 x4 x5 (nI c) (nI (aH S.1 c)) (nI (S.1 5 c)) (nI (S.1 6 c)) t t = some (.inl (x2, x3, 1, nI (c + 1), M)) := by
    intro t x2 x3
    have fin : f_Law_holds_b185_55 M (nI (S.1 0 5)) x2 x3 x4 x5 (nI c) = some (.inl (x2, x3, 1, nI (c + 1), M)) := by
      unfold f_Law_holds_b185_55 f_Law_holds_b190_55
      rw [nI_1]
    unfold f_Law_holds_b148_55
    rw [if_pos rfl, z_m1]
    rcases cH with ⟨q1, q2⟩ | ⟨q1, q2⟩
    · rw [q1, if_pos rfl, q2, if_pos rfl]
      exact fin
    · have hw : S.1 6 c < S.1 1 3 := c6.resolve_left q1
      have hph : 2 ≤ S.1 0 5 := by
        refine Decidable.of_not_not fun z => ?_
        have := v9 (by omega)
        omega
      rw [if_neg (z_ne (by omega) (by omega) q1), q2, if_pos rfl, if_neg (show ¬ 32 ≤ nI (S.1 6 c) from nI_ge (b := 32) (by omega) (by omega)), if_neg (show ¬ nI (S.1 0 5) < 2 from nI_nlt (b := 2) hph (by omega))]
      exact fin
  have L1 : ∀ (s0 s1 x3 : Int32), f_Law_holds_b126_55 M (nI (S.1 0 5)) x3 x4 x5 (nI c) (nI (aH S.1 c)) (nI (S.1 5 c)) (nI (S.1 6 c)) s0 s1 = some (.inl (s1 + s0, x3, 1, nI (c + 1), M)) := by
    intro s0 s1 x3
    unfold f_Law_holds_b126_55
    by_cases q : S.1 0 5 = 0
    · rw [if_pos (show nI (S.1 0 5) = 0 from by rw [q]; rfl)]
      unfold f_Law_holds_b137_55
      rw [if_pos (show nI (S.1 5 c) = -1 from by rw [(hX.2.2.1 q).1 c hc]; exact z_N)]
      exact L0 _ _ _
    · have := g4 q c hc
      rw [if_neg (show ¬ nI (S.1 0 5) = 0 from z_ne (y := 0) (by omega) (by omega) q)]
      unfold f_Law_holds_b137_55
      rw [z_m1, if_neg (z_ne (by omega) (by omega) (by omega))]
      exact L0 _ _ _
  have ct6 : ∀ g : Nat, (if nI (S.1 6 c) = -1 then f_Law_holds_b126_55 M (nI (S.1 0 5)) (nI g) x4 x5 (nI c) (nI (aH S.1 c)) (nI (S.1 5 c)) (nI (S.1 6 c)) 0 (nI (fb_ct (fun c => decide (S.1 6 c ≠ 4294967295)) c)) else f_Law_holds_b126_55 M (nI (S.1 0 5)) (nI g) x4 x5 (nI c) (nI (aH S.1 c)) (nI (S.1 5 c)) (nI (S.1 6 c)) 1 (nI (fb_ct (fun c => decide (S.1 6 c ≠ 4294967295)) c))) = some (.inl (nI (fb_ct (fun c => decide (S.1 6 c ≠ 4294967295)) (c + 1)), nI g, 1, nI (c + 1), M)) := by
    intro g
    rw [L1, L1, z_m1, p_0, nI_1]
    by_cases q : S.1 6 c = 4294967295
    · rw [if_pos (by rw [q]), ← ct_0 (fun c => decide (S.1 6 c ≠ 4294967295)) c (fun z => of_decide_eq_true z q)]
    · rw [if_neg (z_ne (by omega) (by omega) q), ct_1 (fun c => decide (S.1 6 c ≠ 4294967295)) c (decide_eq_true q)]
  have hHb : aH S.1 c < 4294967296 := aH_b hVV.1 c
  unfold f_Law_holds_s55
  rw [if_neg (show ¬ 32 ≤ nI c from nI_ge (b := 32) hc (by omega)), if_neg (by decide), e0, pB]
  dsimp only
  rw [e1, pB]
  dsimp only
  rw [e2, pB]
  dsimp only
  unfold f_Law_holds_b112_55
  rw [p_0, nI_1, ct6, ct6, z_m1]
  by_cases q : aH S.1 c = 4294967295
  · rw [if_pos (by rw [q]), ct_1 (fun c => decide (aH S.1 c = 4294967295)) c (decide_eq_true q)]
  · rw [if_neg (z_ne (by omega) (by omega) q), ← ct_0 (fun c => decide (aH S.1 c = 4294967295)) c (fun z => q (of_decide_eq_true z))]
theorem h_suit (h : DI M S) (hV : DV B S) (hp : p < 4) (hs : s < 4) : f_Law_holds_s227 M x1 x2 x3 x4 x5 1 (nI (fb_sm (fun k => S.1 8 k) (4 * p + s))) (nI (fb_ct (fun k => decide (S.1 10 k ≠ 0)) (4 * p + s))) (nI p) (nI (fb_sm (fun s => aHd S.1 p s) s)) (nI (fb_sm (fun s => aDl S.1 p s) s)) (nI s) = some (.inl (1, nI (fb_sm (fun k => S.1 8 k) (4 * p + (s + 1))), nI (fb_ct (fun k => decide (S.1 10 k ≠ 0)) (4 * p + (s + 1))), nI (fb_sm (fun s => aHd S.1 p s) (s + 1)), nI (fb_sm (fun s => aDl S.1 p s) (s + 1)), nI (s + 1), M)) := by
  have hVV := hV.1.1
  have hX := hV.1.2.1
  obtain ⟨w1, w2, w3, w4, w5⟩ := hVV.2.2.2.1
  have x5' := hX.2.2.2.2.1 p s hp hs
  have x6' := hX.2.2.2.2.2.1 (4 * p + s) (by omega)
  have x7' := hX.2.2.2.2.2.2.1 p s hp hs
  have d8 := aHd_le S.1 p s
  have hdl : aHd S.1 p s ≤ aDl S.1 p s := aHd_dl hp
  have dl8 : aDl S.1 p s ≤ 8 := fb_ct_le _ 8
  have t2 := w4 (4 * p + s) (by omega)
  have n11 := w5 (4 * p + s) (by omega)
  have b8 := w2 (4 * p + s)
  have e0 : f_Law_call M 4 (nI p) (nI s) 0 = some (nI (aHd S.1 p s), M) := r_told (w := 0) h hV hp hs (by omega)
  have e1 : f_Law_call M 4 (nI p) (nI s) 1 = some (nI (aDl S.1 p s), M) := r_told (w := 1) h hV hp hs (by omega)
  have e2 : f_Law_call M 4 (nI p) (nI s) 2 = some (nI (S.1 8 (4 * p + s)), M) := r_told (w := 2) h hV hp hs (by omega)
  have e3 : f_Law_call M 4 (nI p) (nI s) 3 = some (nI (S.1 10 (4 * p + s)), M) := r_told (w := 3) h hV hp hs (by omega)
  have e4 : f_Law_call M 4 (nI p) (nI s) 4 = some (nI (aTr S.1 p s), M) := r_told (w := 4) h hV hp hs (by omega)
  have e5 : f_Law_call M 4 (nI p) (nI s) 5 = some (nI (S.1 11 (4 * p + s)), M) := r_told (w := 5) h hV hp hs (by omega)
  have L402 : ∀ (t x7 x8 x10 x11 : Int32), f_Law_holds_b402_227 M x1 x2 x3 x4 x5 x7 x8 (nI p) x10 x11 (nI s) (nI (aHd S.1 p s)) t t = some (.inl (1, x7, x8, x10, x11, nI (s + 1), M)) := by
    intro t x7 x8 x10 x11
    have fin : f_Law_holds_b423_227 M x1 x2 x3 x4 x5 x7 x8 (nI p) x10 x11 (nI s) = some (.inl (1, x7, x8, x10, x11, nI (s + 1), M)) := by
      unfold f_Law_holds_b423_227 f_Law_holds_b428_227
      rw [nI_1]
    unfold f_Law_holds_b402_227
    rw [if_pos rfl, e5, pB]
    dsimp only
    by_cases q : S.1 11 (4 * p + s) = 0
    · rw [if_pos (show nI (S.1 11 (4 * p + s)) = 0 from by rw [q]; rfl)]; exact fin
    · rw [if_neg (show ¬ nI (S.1 11 (4 * p + s)) = 0 from z_ne (y := 0) (by omega) (by omega) q), if_pos (show nI (aHd S.1 p s) = 0 from by rw [x7' (by omega)]; rfl)]; exact fin
  have L372 : ∀ (t x7 x8 x10 x11 : Int32), f_Law_holds_b372_227 M x1 x2 x3 x4 x5 x7 x8 (nI p) x10 x11 (nI s) (nI (aHd S.1 p s)) (nI (aDl S.1 p s)) (nI (S.1 10 (4 * p + s))) (nI (aTr S.1 p s)) t t = some (.inl (1, x7, x8, x10, x11, nI (s + 1), M)) := by
    intro t x7 x8 x10 x11
    have r1 : gRem (nI (S.1 10 (4 * p + s))) 2 = nI (S.1 10 (4 * p + s) % 2) := z_rem (d := 2) (by omega) (by omega) (by omega)
    have r2 : gRem (nI (aDl S.1 p s)) 2 = nI (aDl S.1 p s % 2) := z_rem (d := 2) (by omega) (by omega) (by omega)
    unfold f_Law_holds_b372_227
    rw [if_pos rfl, r1, r2, z_m1]
    unfold aTr
    by_cases q : S.1 10 (4 * p + s) = 0
    · rw [if_pos (show nI (S.1 10 (4 * p + s)) = 0 from by rw [q]; rfl), if_pos q]
      exact L402 _ _ _ _ _
    · rw [if_neg (show ¬ nI (S.1 10 (4 * p + s)) = 0 from z_ne (y := 0) (by omega) (by omega) q), if_neg q]
      by_cases q2 : S.1 10 (4 * p + s) % 2 = aDl S.1 p s % 2
      · rw [if_pos (by rw [q2]), if_pos (show S.1 10 (4 * p + s) = if aDl S.1 p s % 2 = 0 then 2 else 1 from by split <;> omega)]
        exact L402 _ _ _ _ _
      · rw [if_neg (z_ne (by omega) (by omega) q2), if_neg (show ¬ S.1 10 (4 * p + s) = if aDl S.1 p s % 2 = 0 then 2 else 1 from by split <;> omega)]
        exact L402 _ _ _ _ _
  have L331 : ∀ (s0 s1 x7 x10 x11 : Int32), f_Law_holds_b331_227 M x1 x2 x3 x4 x5 x7 (nI p) x10 x11 (nI s) (nI (aHd S.1 p s)) (nI (aDl S.1 p s)) (nI (S.1 8 (4 * p + s))) (nI (S.1 10 (4 * p + s))) (nI (aTr S.1 p s)) s0 s1 = some (.inl (1, x7, s1 + s0, x10, x11, nI (s + 1), M)) := by
    intro s0 s1 x7 x10 x11
    unfold f_Law_holds_b331_227
    rw [if_neg (nI_nlt hdl (by omega)), pk_sub hdl, if_neg (nI_nlt (by omega) (by omega))]
    by_cases q : S.1 10 (4 * p + s) = 0
    · rw [if_pos (show nI (S.1 10 (4 * p + s)) ≤ 0 from nI_le (b := 0) (by omega) (by omega))]
      unfold f_Law_holds_b361_227
      rw [if_pos (show nI (S.1 8 (4 * p + s)) ≤ 1 from nI_le (b := 1) (by omega) (by omega))]
      exact L372 _ _ _ _ _
    · rw [if_neg (show ¬ nI (S.1 10 (4 * p + s)) ≤ 0 from nI_ge (a := 0) (by omega) (by omega))]
      unfold f_Law_holds_b361_227
      rw [if_neg (show ¬ nI (S.1 8 (4 * p + s)) ≤ 1 from nI_ge (a := 1) (by omega) (by omega))]
      exact L372 _ _ _ _ _
  unfold f_Law_holds_s227
  rw [if_neg (show ¬ 4 ≤ nI s from nI_ge (b := 4) hs (by omega)), if_neg (by decide), e0, pB]
  dsimp only
  rw [e1, pB]
  dsimp only
  rw [e2, pB]
  dsimp only
  rw [e3, pB]
  dsimp only
  rw [e4, pB]
  dsimp only
  rw [L331, L331, nI_add, nI_add, nI_add, p_0, nI_1]
  have en : 4 * p + (s + 1) = (4 * p + s) + 1 := by omega
  rw [en, fb_sm_succ (fun k => S.1 8 k), fb_sm_succ (fun s => aHd S.1 p s), fb_sm_succ (fun s => aDl S.1 p s)]
  by_cases q : S.1 10 (4 * p + s) = 0
  · rw [if_pos (show nI (S.1 10 (4 * p + s)) = 0 from by rw [q]; rfl), ← ct_0 (fun k => decide (S.1 10 k ≠ 0)) (4 * p + s) (fun z => of_decide_eq_true z q)]
  · rw [if_neg (show ¬ nI (S.1 10 (4 * p + s)) = 0 from z_ne (y := 0) (by omega) (by omega) q), ct_1 (fun k => decide (S.1 10 k ≠ 0)) (4 * p + s) (decide_eq_true q)]
theorem h_player (h : DI M S) (hV : DV B S) (hp : p < 4) : f_Law_holds_s207 M (nI (S.1 0 5)) x2 x3 x4 x5 1 (nI (fb_sm (fun k => S.1 8 k) (4 * p))) (nI (fb_ct (fun k => decide (S.1 10 k ≠ 0)) (4 * p))) (nI p) = some (.inl (1, nI (fb_sm (fun k => S.1 8 k) (4 * (p + 1))), nI (fb_ct (fun k => decide (S.1 10 k ≠ 0)) (4 * (p + 1))), nI (p + 1), M)) := by
  have hX := hV.1.2.1
  have h53 := hV.1.1.2.1.1
  have hl : f_Law_holds_l227 (nI (S.1 0 5)) x2 x3 x4 x5 (nI p) 5 (1, nI (fb_sm (fun k => S.1 8 k) (4 * p)), nI (fb_ct (fun k => decide (S.1 10 k ≠ 0)) (4 * p)), 0, 0, 0, M) = some (1, nI (fb_sm (fun k => S.1 8 k) (4 * p + 4)), nI (fb_ct (fun k => decide (S.1 10 k ≠ 0)) (4 * p + 4)), nI (fb_sm (fun s => aHd S.1 p s) 4), nI (fb_sm (fun s => aDl S.1 p s) 4), nI 4, M) := by
    unfold f_Law_holds_l227
    refine it_for (fun i => (1, nI (fb_sm (fun k => S.1 8 k) (4 * p + i)), nI (fb_ct (fun k => decide (S.1 10 k ≠ 0)) (4 * p + i)), nI (fb_sm (fun s => aHd S.1 p s) i), nI (fb_sm (fun s => aDl S.1 p s) i), nI i, M)) 4 rfl (fun i hi => ?_) ?_
    · exact h_suit h hV hp hi
    · show f_Law_holds_s227 M (nI (S.1 0 5)) x2 x3 x4 x5 1 _ _ (nI p) _ _ (nI 4) = _
      unfold f_Law_holds_s227
      rw [if_pos (by decide)]
  have eo := h_own (a := S.1) p
  have ho8 : aOwn S.1 p ≤ 32 := fb_ct_le _ 32
  have hcd : fb_sm (fun s => aHd S.1 p s) 4 ≤ aOwn S.1 p := by
    rw [← eo]
    exact fb_sm_le fun s _ => aHd_dl hp
  have L453 : ∀ t : Int32, f_Law_holds_b453_207 M (nI (S.1 0 5)) x2 x3 x4 x5 (nI (fb_sm (fun k => S.1 8 k) (4 * p + 4))) (nI (fb_ct (fun k => decide (S.1 10 k ≠ 0)) (4 * p + 4))) (nI p) (nI (fb_sm (fun s => aHd S.1 p s) 4)) (nI (aOwn S.1 p)) t t = some (.inl (1, nI (fb_sm (fun k => S.1 8 k) (4 * (p + 1))), nI (fb_ct (fun k => decide (S.1 10 k ≠ 0)) (4 * (p + 1))), nI (p + 1), M)) := by
    intro t
    unfold f_Law_holds_b453_207
    rw [if_pos rfl, if_neg (nI_nlt hcd (by omega))]
    unfold f_Law_holds_b468_207
    rw [nI_1]
    rfl
  unfold f_Law_holds_s207
  rw [if_neg (show ¬ 4 ≤ nI p from nI_ge (b := 4) hp (by omega)), if_neg (by decide), hl, pB]
  dsimp only
  rw [if_neg (by decide), eo]
  by_cases q : S.1 0 5 = 0
  · rw [if_pos (show nI (S.1 0 5) = 0 from by rw [q]; rfl)]
    have eo0 : nI (aOwn S.1 p) = 0 := by rw [h_own0 hX q hp]; rfl
    have := L453 (nI (aOwn S.1 p))
    rw [eo0] at this ⊢
    exact this
  · rw [if_neg (show ¬ nI (S.1 0 5) = 0 from z_ne (y := 0) (by omega) (by omega) q)]
    have eo8 : nI (aOwn S.1 p) = 8 := by rw [hX.2.2.2.1 q p hp]; rfl
    have := L453 (nI (aOwn S.1 p))
    rw [eo8] at this ⊢
    exact this
theorem h_trick (h : DI M S) (hV : DV B S) (hk : k < 4) : f_Law_holds_s479 M x1 x2 x3 (nI (S.1 1 3 / 4)) (nI (if k < S.1 1 3 % 4 then k else S.1 1 3 % 4)) 1 x7 x8 (nI k) = some (.inl (nI (if k + 1 < S.1 1 3 % 4 then k + 1 else S.1 1 3 % 4), 1, nI (k + 1), M)) := by
  obtain ⟨g1, g2, g3, g4⟩ := hV.1.1.2.2.1
  have hl := hV.1.1.2.1.2.2.2.2.2.2.2.2.2.1
  have e0 : f_Law_call M 5 (nI k) 0 0 = some (nI (aTrk S.1 k), M) := r_trick h hV hk
  unfold f_Law_holds_s479
  rw [if_neg (show ¬ 4 ≤ nI k from nI_ge (b := 4) hk (by omega)), if_neg (by decide), e0, pB]
  dsimp only
  rw [z_m1]
  unfold aTrk
  by_cases q : k < S.1 1 3 % 4
  · obtain ⟨t, ht⟩ : ∃ t, t = S.1 1 3 - S.1 1 3 % 4 + k := ⟨_, rfl⟩
    obtain ⟨t1, t2⟩ := g1 t (by omega)
    rw [if_pos q, if_pos q, ← ht, if_neg (z_ne (by omega) (by omega) (by omega))]
    have e2 : f_Law_call M 3 (nI (S.1 7 t)) 2 0 = some (nI (S.1 6 (S.1 7 t)), M) := r_card (w := 2) h hV t1 (by omega)
    unfold f_Law_holds_b514_479
    rw [z_m1, if_neg (z_ne (by omega) (by omega) (by omega)), if_pos rfl, e2, pB]
    dsimp only
    rw [t2, show (4 : Int32) * nI (S.1 1 3 / 4) = nI (4 * (S.1 1 3 / 4)) from pk_mul 4 _, nI_add, if_pos (by congr 1; omega)]
    unfold f_Law_holds_b560_479
    rw [nI_1, show (if k + 1 < S.1 1 3 % 4 then k + 1 else S.1 1 3 % 4) = k + 1 by split <;> omega]
  · rw [if_neg q, if_neg q, if_pos rfl]
    unfold f_Law_holds_b514_479
    rw [z_m1, if_pos rfl]
    unfold f_Law_holds_b560_479
    rw [nI_1, p_0, if_neg (show ¬ k + 1 < S.1 1 3 % 4 by omega)]
end HO
