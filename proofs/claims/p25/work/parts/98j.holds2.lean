-- ===== PURE: the legal cards; what holds in each evening, whole =====
theorem m1_nle : ∀ y : Fin 32, ¬ nI y ≤ -1 := by decide
section HP
variable {M : gMem} {S : SS} {B k C I : Nat} {x1 x2 x3 x4 x5 x7 x8 : Int32}
def lgF (a : EVN) (C I : Nat) : Prop := (∀ k, k < C → a 0 5 = 2 ∧ aLg a k < 32 ∧ aOk a (aLg a k) = true ∧ fb_ct (aOk a) (aLg a k) = k) ∧ (∀ k, C ≤ k → aLg a k = 4294967295) ∧ C ≤ 8 ∧ (0 < C ↔ a 0 5 = 2) ∧ (∀ k, k < C → (aLg a k = aAv a ↔ k = I)) ∧ (I < C ∨ I = 100 ∧ C = 0)
theorem lgF_ex (hV : DV B S) : ∃ C I, lgF S.1 C I := by
  by_cases q : S.1 0 5 = 2
  · obtain ⟨c1, c2⟩ := h_ct8 hV.1.1 q
    obtain ⟨d1, d2⟩ := h_adv hV.1.1 q
    have hk : ∀ k, k < fb_ct (aOk S.1) 32 → aLg S.1 k < 32 ∧ aOk S.1 (aLg S.1 k) = true ∧ fb_ct (aOk S.1) (aLg S.1 k) = k := by
      intro k hk
      obtain ⟨w, w1, w2, w3⟩ := fb_ct_kth hk
      unfold aLg
      rw [if_pos q, kth_yes w2 w3 32 w1]
      exact ⟨w1, w2, w3⟩
    have eav : aAv S.1 = aAd S.1 := if_pos q
    have hI : fb_ct (aOk S.1) (aAd S.1) < fb_ct (aOk S.1) 32 := ct_lt d2 d1
    refine ⟨fb_ct (aOk S.1) 32, fb_ct (aOk S.1) (aAd S.1), fun k h => ⟨q, hk k h⟩, fun k h => ?_, c2, ⟨fun _ => q, fun _ => c1⟩, fun k h => ?_, Or.inl hI⟩
    · unfold aLg
      rw [if_pos q]
      exact kth_no 32 h
    · obtain ⟨k1, k2, k3⟩ := hk k h
      rw [eav]
      constructor
      · intro z
        rw [← z]
        exact k3.symm
      · intro z
        exact fb_ct_kth_one k2 d2 (k3.trans z)
  · refine ⟨0, 100, fun k h => absurd h (by omega), fun k _ => if_neg q, by omega, ⟨fun z => absurd z (by omega), fun z => absurd z q⟩, fun k h => absurd h (by omega), Or.inr ⟨rfl, rfl⟩⟩
theorem h_legal (h : DI M S) (hV : DV B S) (hL : lgF S.1 C I) (hk : k < 8) : f_Law_holds_s580 M (nI (S.1 0 5)) x2 x3 x4 x5 1 x7 x8 (nI (if k < C then k else C)) (nI (if k = 0 then 4294967295 else aLg S.1 (k - 1))) (nI (if I < k then 1 else 0)) (nI k) = some (.inl (1, nI (if k + 1 < C then k + 1 else C), nI (if k + 1 = 0 then 4294967295 else aLg S.1 (k + 1 - 1)), nI (if I < k + 1 then 1 else 0), nI (k + 1), M)) := by
  obtain ⟨l1, l2, l3, l4, l5, l6⟩ := hL
  have e0 : f_Law_call M 10 (nI k) 0 0 = some (nI (aLg S.1 k), M) := r_legal h hV hk
  have eA : f_DS_advice M = some (nI (aAv S.1)) := r_advice h hV
  rw [if_neg (show ¬ k + 1 = 0 by omega), show k + 1 - 1 = k by omega]
  have key : ∀ (n adv : Nat) (x10 : Int32), ((aLg S.1 k = 4294967295) ∨ (k < C ∧ n = k + 1 ∧ x10 = nI (if k = 0 then 4294967295 else aLg S.1 (k - 1)))) → f_Law_holds_b645_580 M (nI (S.1 0 5)) x2 x3 x4 x5 x7 x8 (nI n) x10 (nI k) (nI (aLg S.1 k)) (nI adv) = some (.inl (1, nI n, nI (aLg S.1 k), nI adv, nI (k + 1), M)) := by
    intro n adv x10 hc
    have fin : f_Law_holds_b694_580 M (nI (S.1 0 5)) x2 x3 x4 x5 x7 x8 (nI n) (nI adv) (nI k) (nI (aLg S.1 k)) = some (.inl (1, nI n, nI (aLg S.1 k), nI adv, nI (k + 1), M)) := by
      unfold f_Law_holds_b694_580 f_Law_holds_b699_580
      rw [nI_1]
    unfold f_Law_holds_b645_580
    by_cases q : aLg S.1 k = 4294967295
    · rw [q, if_pos (show nI 4294967295 = -1 from z_N)]
      rw [q] at fin
      exact fin
    · obtain ⟨hkC, hn, hx⟩ := hc.resolve_left q
      obtain ⟨y1, y2, y3, y4⟩ := l1 k hkC
      have hle : ¬ nI (aLg S.1 k) ≤ x10 := by
        rw [hx]
        by_cases z : k = 0
        · rw [if_pos z]
          have := m1_nle ⟨aLg S.1 k, y2⟩
          rw [z_m1] at this
          exact this
        · rw [if_neg z]
          obtain ⟨u1, u2, u3, u4⟩ := l1 (k - 1) (by omega)
          refine nI_ge ?_ (by omega)
          refine Decidable.of_not_not fun w => ?_
          have := fb_ct_mono (aOk S.1) (show aLg S.1 k ≤ aLg S.1 (k - 1) by omega)
          omega
      have e1 : f_Law_call M 3 (nI (aLg S.1 k)) 0 0 = some (nI (aH S.1 (aLg S.1 k)), M) := r_card (w := 0) h hV y2 (by omega)
      have e2 : f_Law_call M 2 2 0 0 = some (nI (S.1 0 6), M) := r_about (w := 2) h hV (by omega)
      rw [z_m1, if_neg (z_ne (by omega) (by omega) q), if_neg hle, e1, pB]
      dsimp only
      rw [e2, pB]
      dsimp only
      rw [(aOk_iff.mp y3).1, if_pos rfl, y1, if_pos (show nI 2 = 2 from rfl), hn, nI_1, if_pos rfl]
      rw [y1, hn] at fin
      exact fin
  have key2 : ∀ (n adv' : Nat) (x11 : Int32) , ((aLg S.1 k = 4294967295) ∨ (k < C ∧ n = k + 1)) → (x11 = 0 → adv' = if aLg S.1 k ≠ 4294967295 ∧ aLg S.1 k = aAv S.1 then 1 else 0) → (x11 ≠ 0 → adv' = 1) → ∀ s0 s1 : Int32, s1 + s0 = nI n → f_Law_holds_b617_580 M (nI (S.1 0 5)) x2 x3 x4 x5 x7 x8 (nI (if k = 0 then 4294967295 else aLg S.1 (k - 1))) x11 (nI k) (nI (aLg S.1 k)) s0 s1 = some (.inl (1, nI n, nI (aLg S.1 k), nI adv', nI (k + 1), M)) := by
    intro n adv' x11 hc ha hb s0 s1 hs
    have kk : ∀ adv, f_Law_holds_b645_580 M (nI (S.1 0 5)) x2 x3 x4 x5 x7 x8 (nI n) (nI (if k = 0 then 4294967295 else aLg S.1 (k - 1))) (nI k) (nI (aLg S.1 k)) (nI adv) = some (.inl (1, nI n, nI (aLg S.1 k), nI adv, nI (k + 1), M)) := fun adv => key n adv _ (hc.imp_right fun t => ⟨t.1, t.2, rfl⟩)
    have hav : aAv S.1 < 4294967296 := by
      rcases av_in hV.1.1 with t | t <;> omega
    have hlb : aLg S.1 k < 4294967296 := by
      rcases lg_in (a := S.1) (k := k) with t | t <;> omega
    unfold f_Law_holds_b617_580
    rw [hs]
    by_cases q : x11 = 0
    · have ha := ha q
      rw [if_pos q, z_m1]
      by_cases q1 : aLg S.1 k = 4294967295
      · rw [if_neg (fun t => t.1 q1)] at ha
        rw [if_pos (show nI (aLg S.1 k) = nI 4294967295 from by rw [q1])]
        unfold f_Law_holds_b644_580
        rw [ha]
        exact kk 0
      · rw [if_neg (z_ne hlb (by omega) q1), eA, pB]
        by_cases q2 : aLg S.1 k = aAv S.1
        · rw [if_pos ⟨q1, q2⟩] at ha
          rw [if_pos (by rw [q2])]
          unfold f_Law_holds_b640_580
          rw [ha]
          exact kk 1
        · rw [if_neg (fun t => q2 t.2)] at ha
          rw [if_neg (z_ne hlb hav q2)]
          unfold f_Law_holds_b644_580
          rw [ha]
          exact kk 0
    · rw [if_neg q]
      unfold f_Law_holds_b640_580
      rw [hb q]
      exact kk 1
  have hA : ∀ n : Nat, nI (if I < n then 1 else 0) = 0 ↔ ¬ I < n := by
    intro n
    by_cases z : I < n
    · rw [if_pos z]
      exact ⟨fun t => absurd t (by decide), fun t => absurd z t⟩
    · rw [if_neg z]
      exact ⟨fun _ => z, fun _ => rfl⟩
  unfold f_Law_holds_s580
  rw [if_neg (show ¬ 8 ≤ nI k from nI_ge (b := 8) hk (by omega)), if_neg (by decide), e0, pB]
  dsimp only
  rw [z_m1]
  by_cases q : k < C
  · obtain ⟨y1, y2, y3, y4⟩ := l1 k q
    rw [if_neg (z_ne (by omega) (by omega) (by omega)), if_pos q]
    refine key2 (if k + 1 < C then k + 1 else C) (if I < k + 1 then 1 else 0) _ (Or.inr ⟨q, by split <;> omega⟩) (fun t => ?_) (fun t => ?_) _ _ ?_
    · have t := (hA k).mp t
      have := l5 k q
      by_cases z : k = I
      · rw [if_pos (show I < k + 1 by omega), if_pos ⟨by omega, this.mpr z⟩]
      · rw [if_neg (show ¬ I < k + 1 by omega), if_neg (fun w => z (this.mp w.2))]
    · have t : I < k := Decidable.of_not_not fun w => t ((hA k).mpr w)
      rw [if_pos (show I < k + 1 by omega)]
    · rw [nI_1]
      congr 1
      split <;> omega
  · have l2 := l2 k (by omega)
    rw [if_pos (show nI (aLg S.1 k) = nI 4294967295 from by rw [l2]), if_neg q]
    refine key2 (if k + 1 < C then k + 1 else C) (if I < k + 1 then 1 else 0) _ (Or.inl l2) (fun t => ?_) (fun t => ?_) _ _ ?_
    · have t := (hA k).mp t
      rw [if_neg (show ¬ I < k + 1 by omega), if_neg (fun w => w.1 l2)]
    · have t : I < k := Decidable.of_not_not fun w => t ((hA k).mpr w)
      rw [if_pos (show I < k + 1 by omega)]
    · rw [p_0]
      congr 1
      rw [if_neg (by omega)]
/-- the end of it -/
theorem h_873 (h : DI M S) (hV : DV B S) (t : Int32) : f_Law_holds_b873 M (nI (S.1 0 5)) (nI (S.1 1 3 / 4)) t t = some (1, M) := by
  obtain ⟨v1, v2, v3, v4, v5, v6, v7, v8, v9, v10, v11⟩ := hV.1.1.2.1
  have x8 := hV.1.2.1.2.2.2.2.2.2.2.1
  have e2 : f_Law_call M 2 2 0 0 = some (nI (S.1 0 6), M) := r_about (w := 2) h hV (by omega)
  have e3 : f_Law_call M 2 3 0 0 = some (nI (10 * S.1 0 7 + S.1 0 8), M) := r_about (w := 3) h hV (by omega)
  have r3 : gRem (nI (S.1 0 5)) 3 = nI (S.1 0 5 % 3) := z_rem (d := 3) (by omega) (by omega) (by omega)
  have L904 : ∀ t : Int32, f_Law_holds_b904 M (nI (S.1 0 5)) (nI (S.1 1 3 / 4)) t t = some (1, M) := by
    intro t
    unfold f_Law_holds_b904
    rw [if_pos rfl]
    by_cases q : S.1 0 5 = 3
    · rw [if_pos (show nI (S.1 0 5) = 3 from by rw [q]; rfl)]
      by_cases q2 : S.1 1 3 / 4 = 8
      · rw [if_pos (show nI (S.1 1 3 / 4) = 8 from by rw [q2]; rfl), gBl_1, pB]
      · rw [if_neg (show ¬ nI (S.1 1 3 / 4) = 8 from z_ne (y := 8) (by omega) (by omega) q2), e3, pB]
        dsimp only
        have := x8 q
        rw [if_pos (show nI (10 * S.1 0 7 + S.1 0 8) = 0 from by rw [show 10 * S.1 0 7 + S.1 0 8 = 0 by omega]; rfl), gBl_1, pB]
    · rw [if_neg (show ¬ nI (S.1 0 5) = 3 from z_ne (y := 3) (by omega) (by omega) q), gBl_1, pB]
  unfold f_Law_holds_b873
  rw [if_pos rfl, e2, pB]
  dsimp only
  rw [z_m1]
  by_cases q : S.1 0 5 % 3 = 0
  · rw [v3 (by omega), if_pos rfl]
    unfold f_Law_holds_b893
    rw [r3, if_pos (show nI (S.1 0 5 % 3) = 0 from by rw [q]; rfl)]
    exact L904 _
  · have := v2 (by omega)
    rw [if_neg (z_ne (by omega) (by omega) (by omega))]
    unfold f_Law_holds_b893
    rw [r3, if_neg (show ¬ nI (S.1 0 5 % 3) = 0 from z_ne (y := 0) (by omega) (by omega) q)]
    exact L904 _
theorem h_808 (h : DI M S) (hV : DV B S) (hB : B < 2 ^ 31) : f_Law_holds_b808 M (nI (S.1 0 5)) (nI (S.1 1 3)) (nI (S.1 1 3 / 4)) (nI (fb_sm (fun k => S.1 8 k) 16)) (nI (fb_ct (fun k => decide (S.1 10 k ≠ 0)) 16)) (nI (S.1 0 11)) = some (1, M) := by
  obtain ⟨v1, v2, v3, v4, v5, v6, v7, v8, v9, v10, v11⟩ := hV.1.1.2.1
  have hX := hV.1.2.1
  have x3 := hX.2.2.1
  obtain ⟨x9, x10⟩ := hX.2.2.2.2.2.2.2.2
  have h11 := hV.1.2.2.2.2
  have hd := h_drops hV.1.1 hX
  have e3 : f_Law_call M 2 3 0 0 = some (nI (10 * S.1 0 7 + S.1 0 8), M) := r_about (w := 3) h hV (by omega)
  have e4 : f_Law_call M 2 4 0 0 = some (nI (if S.1 0 5 = 1 then 4294967295 else S.1 0 9), M) := r_about (w := 4) h hV (by omega)
  have e10 : f_Law_call M 2 10 0 0 = some (nI (S.1 0 12), M) := r_about (w := 10) h hV (by omega)
  have x9 : fb_ct (fun k => decide (S.1 10 k ≠ 0)) 16 ≤ S.1 0 11 := x9
  unfold f_Law_holds_b808
  rw [if_neg (nI_nlt x9 (by omega)), e10, pB]
  dsimp only
  rw [if_neg (nI_nlt x10 (by omega)), if_neg (nI_nlt hd (by omega)), e4, pB]
  dsimp only
  rw [z_m1]
  by_cases q : S.1 0 5 < 2
  · have en : (if S.1 0 5 = 1 then 4294967295 else S.1 0 9) = 4294967295 := by
      by_cases z : S.1 0 5 = 1
      · rw [if_pos z]
      · rw [if_neg z]
        exact (x3 (by omega)).2
    rw [en, if_pos rfl]
    unfold f_Law_holds_b852
    rw [if_pos (show nI (S.1 0 5) < 2 from nI_lt (b := 2) q (by omega))]
    exact h_873 h hV 1
  · rw [if_neg (show ¬ S.1 0 5 = 1 by omega)]
    have q2 : ¬ nI (S.1 0 5) < 2 := nI_nlt (b := 2) (by omega) (by omega)
    by_cases z : S.1 0 9 = 4294967295
    · rw [if_pos (by rw [z])]
      unfold f_Law_holds_b852
      rw [if_neg q2, e3, pB]
      dsimp only
      rw [if_pos (show nI (10 * S.1 0 7 + S.1 0 8) = 0 from by rw [show 10 * S.1 0 7 + S.1 0 8 = 0 by omega]; rfl)]
      exact h_873 h hV 1
    · rw [if_neg (z_ne (by omega) (by omega) z)]
      unfold f_Law_holds_b852
      rw [if_neg q2, e3, pB]
      dsimp only
      rw [if_neg (show ¬ nI (10 * S.1 0 7 + S.1 0 8) = 0 from z_ne (y := 0) (by omega) (by omega) (by omega))]
      exact h_873 h hV 0
theorem h_738 (h : DI M S) (hV : DV B S) (hB : B < 2 ^ 31) (hL : lgF S.1 C I) (t : Int32) : f_Law_holds_b738 M (nI (S.1 0 5)) (nI (S.1 1 3)) (nI (S.1 1 3 / 4)) (nI (S.1 1 3 % 4)) (nI (fb_sm (fun k => S.1 8 k) 16)) (nI (fb_ct (fun k => decide (S.1 10 k ≠ 0)) 16)) (nI C) (nI (if I < 8 then 1 else 0)) (nI (S.1 0 11)) t t = some (1, M) := by
  obtain ⟨v1, v2, v3, v4, v5, v6, v7, v8, v9, v10, v11⟩ := hV.1.1.2.1
  obtain ⟨l1, l2, l3, l4, l5, l6⟩ := hL
  have h8 := h_808 h hV hB
  unfold f_Law_holds_b738
  rw [if_pos rfl, show (4 : Int32) * nI (S.1 1 3 / 4) = nI (4 * (S.1 1 3 / 4)) from pk_mul 4 _, nI_add, if_pos (by congr 1; omega), if_neg (show ¬ 4 ≤ nI (S.1 1 3 % 4) from nI_ge (b := 4) (by omega) (by omega))]
  by_cases q : S.1 0 5 = 2
  · have hC := l4.mpr q
    have q2 : nI (S.1 0 5) = 2 := by rw [q]; rfl
    rw [if_pos q2]
    unfold f_Law_holds_b768
    rw [if_neg (show ¬ nI C ≤ 0 from nI_ge (a := 0) (by omega) (by omega))]
    unfold f_Law_holds_b778
    rw [if_pos rfl, if_pos q2]
    unfold f_Law_holds_b791
    rw [if_pos (show I < 8 by omega), if_pos (show (1 : Int32) = nI 1 from rfl), if_pos q2, if_neg (show ¬ 8 ≤ nI (S.1 1 3 / 4) from nI_ge (b := 8) (by have := (v8 q).2; omega) (by omega))]
    exact h8
  · have hC : C = 0 := by
      refine Decidable.of_not_not fun z => q (l4.mp (by omega))
    have q2 : ¬ nI (S.1 0 5) = 2 := z_ne (y := 2) (by omega) (by omega) q
    rw [if_neg q2]
    unfold f_Law_holds_b768
    rw [if_pos (show nI C ≤ 0 from nI_le (b := 0) (by omega) (by omega))]
    unfold f_Law_holds_b778
    rw [if_pos rfl, if_neg q2]
    unfold f_Law_holds_b791
    rw [if_neg (show ¬ I < 8 by omega), if_pos (show (0 : Int32) = nI 0 from rfl), if_neg q2]
    exact h8
theorem holds_ok (h : DI M S) (hV : DV B S) (hB : B < 2 ^ 31) : f_Law_holds M = some (1, M) := by
  obtain ⟨C, I, hL⟩ := lgF_ex hV
  obtain ⟨v1, v2, v3, v4, v5, v6, v7, v8, v9, v10, v11⟩ := hV.1.1.2.1
  have hX := hV.1.2.1
  have e1 : f_Law_call M 2 1 0 0 = some (nI (S.1 0 5), M) := r_about (w := 1) h hV (by omega)
  have a5 : f_Law_call M 2 5 0 0 = some (nI (S.1 3 0), M) := r_about (w := 5) h hV (by omega)
  have a6 : f_Law_call M 2 6 0 0 = some (nI (S.1 3 1), M) := r_about (w := 6) h hV (by omega)
  have e9 : f_Law_call M 2 9 0 0 = some (nI (S.1 0 11), M) := r_about (w := 9) h hV (by omega)
  obtain ⟨gn, hgn⟩ : ∃ gn, gn = fb_ct (fun c => decide (aH S.1 c = 4294967295)) 32 := ⟨_, rfl⟩
  have l55 : f_Law_holds_l55 (nI (S.1 0 5)) (nI (S.1 1 3 / 4)) 0 33 (0, 0, 1, 0, M) = some (nI (S.1 1 3), nI gn, 1, nI 32, M) := by
    unfold f_Law_holds_l55
    rw [← h_played hV.1.1 hX, hgn]
    refine it_for (fun i => (nI (fb_ct (fun c => decide (S.1 6 c ≠ 4294967295)) i), nI (fb_ct (fun c => decide (aH S.1 c = 4294967295)) i), 1, nI i, M)) 32 rfl (fun c hc => ?_) ?_
    · exact h_card h hV hc
    · show f_Law_holds_s55 M (nI (S.1 0 5)) _ _ _ _ 1 (nI 32) = _
      unfold f_Law_holds_s55
      rw [if_pos (by decide)]
  have l207 : f_Law_holds_l207 (nI (S.1 0 5)) (nI (S.1 1 3)) (nI gn) (nI (S.1 1 3 / 4)) 0 5 (1, 0, 0, 0, M) = some (1, nI (fb_sm (fun k => S.1 8 k) 16), nI (fb_ct (fun k => decide (S.1 10 k ≠ 0)) 16), nI 4, M) := by
    unfold f_Law_holds_l207
    refine it_for (fun i => (1, nI (fb_sm (fun k => S.1 8 k) (4 * i)), nI (fb_ct (fun k => decide (S.1 10 k ≠ 0)) (4 * i)), nI i, M)) 4 rfl (fun p hp => ?_) ?_
    · exact h_player h hV hp
    · show f_Law_holds_s207 M (nI (S.1 0 5)) _ _ _ _ 1 _ _ (nI 4) = _
      unfold f_Law_holds_s207
      rw [if_pos (by decide)]
  have l479 : f_Law_holds_l479 (nI (S.1 0 5)) (nI (S.1 1 3)) (nI gn) (nI (S.1 1 3 / 4)) (nI (fb_sm (fun k => S.1 8 k) 16)) (nI (fb_ct (fun k => decide (S.1 10 k ≠ 0)) 16)) 5 (0, 1, 0, M) = some (nI (S.1 1 3 % 4), 1, nI 4, M) := by
    unfold f_Law_holds_l479
    refine it_for (fun i => (nI (if i < S.1 1 3 % 4 then i else S.1 1 3 % 4), 1, nI i, M)) 4 ?_ (fun k hk => ?_) ?_
    · show ((0 : Int32), (1 : Int32), (0 : Int32), M) = (nI (if 0 < S.1 1 3 % 4 then 0 else S.1 1 3 % 4), 1, nI 0, M)
      rw [show (if 0 < S.1 1 3 % 4 then 0 else S.1 1 3 % 4) = 0 by split <;> omega]
      rfl
    · exact h_trick h hV hk
    · show f_Law_holds_s479 M (nI (S.1 0 5)) _ _ _ (nI (if 4 < S.1 1 3 % 4 then 4 else S.1 1 3 % 4)) 1 _ _ (nI 4) = _
      unfold f_Law_holds_s479
      rw [if_pos (by decide), if_neg (by omega)]
  have l580 : f_Law_holds_l580 (nI (S.1 0 5)) (nI (S.1 1 3)) (nI gn) (nI (S.1 1 3 / 4)) (nI (S.1 1 3 % 4)) (nI (fb_sm (fun k => S.1 8 k) 16)) (nI (fb_ct (fun k => decide (S.1 10 k ≠ 0)) 16)) 9 (1, 0, -1, 0, 0, M) = some (1, nI C, nI (aLg S.1 7), nI (if I < 8 then 1 else 0), nI 8, M) := by
    unfold f_Law_holds_l580
    refine it_for (fun k => (1, nI (if k < C then k else C), nI (if k = 0 then 4294967295 else aLg S.1 (k - 1)), nI (if I < k then 1 else 0), nI k, M)) 8 ?_ (fun k hk => ?_) ?_
    · show ((1 : Int32), (0 : Int32), (-1 : Int32), (0 : Int32), (0 : Int32), M) = (1, nI (if 0 < C then 0 else C), nI 4294967295, nI (if I < 0 then 1 else 0), nI 0, M)
      rw [show (if 0 < C then 0 else C) = 0 by split <;> omega, z_N, if_neg (show ¬ I < 0 by omega)]
      rfl
    · exact h_legal h hV hL hk
    · show f_Law_holds_s580 M (nI (S.1 0 5)) _ _ _ _ 1 _ _ (nI (if 8 < C then 8 else C)) (nI (if 8 = 0 then 4294967295 else aLg S.1 (8 - 1))) (nI (if I < 8 then 1 else 0)) (nI 8) = _
      unfold f_Law_holds_s580
      rw [if_pos (by decide), if_neg (show ¬ 8 < C by have := hL.2.2.1; omega), if_neg (show ¬ 8 = 0 by omega)]
  have h738 := h_738 h hV hB hL
  unfold f_Law_holds
  rw [e1, pB]
  dsimp only
  rw [a5, pB]
  dsimp only
  rw [a6, pB]
  dsimp only
  rw [if_neg (nI_pos (by omega)), if_neg (show ¬ 4 ≤ nI (S.1 0 5) from nI_ge (b := 4) (by omega) (by omega)), nI_add, hX.1]
  unfold f_Law_holds_b50
  rw [l55, pB]
  dsimp only
  rw [l207, pB]
  dsimp only
  rw [l479, pB]
  dsimp only
  rw [l580, pB]
  dsimp only
  rw [e9, pB]
  dsimp only
  rw [if_neg (by decide)]
  by_cases q : S.1 0 5 = 0
  · rw [if_pos (show nI (S.1 0 5) = 0 from by rw [q]; rfl), hgn, h_gone0 hX q]
    exact h738 32
  · rw [if_neg (show ¬ nI (S.1 0 5) = 0 from z_ne (y := 0) (by omega) (by omega) q), hgn, h_gone hV.1.1 hX q]
    exact h738 _
end HP
