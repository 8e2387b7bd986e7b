-- ===== PURE: most, bestCard, by both; two cases of the law =====
section MO
variable {M M' W : gMem} {E : Nat → Nat → Nat → Nat} {n c k : Nat} {u : Nat → Nat} {l : Nat} {t r d q : Nat → Nat} {a : Nat → Nat → Nat} {v : Int32}
theorem aMx_if2 (f : Nat → Nat) (b : Nat) : ∀ i, aMx f i ≤ b ↔ ∀ p, p < i → f p ≤ b
  | 0 => ⟨fun _ p hp => absurd hp (by omega), fun _ => Nat.zero_le b⟩
  | i + 1 => by
    have ih := aMx_if2 f b i
    unfold aMx
    constructor
    · intro h p hp
      split at h
      · by_cases z : p = i
        · rw [z]; exact h
        · exact ih.mp (by omega) p (by omega)
      · by_cases z : p = i
        · rw [z]; omega
        · exact ih.mp h p (by omega)
    · intro h
      have h1 := ih.mpr (fun p hp => h p (by omega))
      have h2 := h i (by omega)
      split <;> omega
def few (a : Nat → Nat → Nat) : Prop := a 0 5 = 2 ∧ aMx (aHs a) 4 ≤ 3
theorem k_few (h0 : M 0 = eN a) (hV : aV a) : (few a → f_DS_checkFewCards M = some (.inr ())) ∧ (¬ few a → f_DS_checkFewCards M = some (.inl 2)) := by
  have h53 := hV.2.1.1
  have lh := p_largestHand (M := M) (e := 0) hV.1
  rw [aW_self h0] at lh
  have hle := aMx_le (aHs a) 32 (aHs_le a) 4
  have e5 : M 0 0 5 = nI (a 0 5) := by rw [h0]; rfl
  unfold f_DS_checkFewCards few
  rw [e5]
  by_cases z : a 0 5 = 2
  · rw [if_pos (by rw [z]; rfl), lh, pB]
    by_cases y : aMx (aHs a) 4 ≤ 3
    · rw [if_pos (show nI (aMx (aHs a) 4) ≤ 3 from nI_le (b := 3) y (by omega))]
      exact ⟨fun _ => rfl, fun q => absurd ⟨z, y⟩ q⟩
    · rw [if_neg (show ¬ nI (aMx (aHs a) 4) ≤ 3 from nI_ge (a := 3) (by omega) (by omega))]
      exact ⟨fun q => absurd q.2 y, fun _ => rfl⟩
  · rw [if_neg (show ¬ nI (a 0 5) = 2 from z_ne (y := 2) (by omega) (by omega) z)]
    exact ⟨fun q => absurd q.1 z, fun _ => rfl⟩
theorem q_near (h2 : W 19 2 = fun j => nI (r j)) (hR : RM a r) (hV : aV a) : (few a → f_Mo_isNearEnd W = some 1) ∧ (¬ few a → f_Mo_isNearEnd W = some 0) := by
  have h53 := hV.2.1.1
  have hand : ∀ p, p < 4 → f_Mo_hand 19 2 197 W (nI p) = some (nI (aHs a p)) := fun p hp => by
    have g := q_hand (M := W) (k := 2) (p := p) hR hV.1 (by omega)
    rwa [rW_self h2] at g
  have stop : ∀ x : Int32, (x = 0 ∨ x = 1) → ∀ j, 4 ≤ j → j < 1000 → f_Mo_isNearEnd_l18 W (x, nI j) = some x := fun x hx j hj hj2 => by
    refine pLx ?_
    show f_Mo_isNearEnd_s18 W x (nI j) = _
    unfold f_Mo_isNearEnd_s18 gBl
    rw [if_pos (show (4 : Int32) ≤ nI j from nI_le (a := 4) hj (by omega)), if_pos hx, pB]
  have zero : ∀ m j, j + m = 4 → f_Mo_isNearEnd_l18 W (0, nI j) = some 0 := by
    intro m
    induction m with
    | zero => intro j hj; exact stop 0 (Or.inl rfl) j (by omega) (by omega)
    | succ m ih =>
      intro j hj
      refine (pLp (step := fun s => f_Mo_isNearEnd_s18 W s.1 s.2) (s := (0, nI j)) (s' := (0, nI (j + 1))) ?_).trans (ih (j + 1) (by omega))
      show f_Mo_isNearEnd_s18 W 0 (nI j) = _
      unfold f_Mo_isNearEnd_s18 f_Mo_isNearEnd_b43 f_Mo_isNearEnd_b44
      rw [if_neg (show ¬ (4 : Int32) ≤ nI j from nI_ge (b := 4) (by omega) (by omega)), if_pos rfl, nI_1]
  have one : ∀ m j, j + m = 4 → (∀ p, p < j → aHs a p ≤ 3) → f_Mo_isNearEnd_l18 W (1, nI j) = some (if aMx (aHs a) 4 ≤ 3 then 1 else 0) := by
    intro m
    induction m with
    | zero =>
      intro j hj hh
      rw [stop 1 (Or.inr rfl) j (by omega) (by omega), if_pos ((aMx_if2 _ _ 4).mpr (fun p hp => hh p (by omega)))]
    | succ m ih =>
      intro j hj hh
      have hs := aHs_le a j
      have s : f_Mo_isNearEnd_s18 W 1 (nI j) = if aHs a j ≤ 3 then some (.inl (1, nI (j + 1))) else some (.inl (0, nI (j + 1))) := by
        unfold f_Mo_isNearEnd_s18 f_Mo_isNearEnd_b43 f_Mo_isNearEnd_b44
        rw [if_neg (show ¬ (4 : Int32) ≤ nI j from nI_ge (b := 4) (by omega) (by omega)), if_neg (show ¬ (1 : Int32) = 0 by decide), hand j (by omega), pB, nI_1]
        by_cases z : aHs a j ≤ 3
        · rw [if_neg (show ¬ (3 : Int32) < nI (aHs a j) from nI_nlt (a := 3) z (by omega)), if_pos z]
        · rw [if_pos (show (3 : Int32) < nI (aHs a j) from nI_lt (a := 3) (by omega) (by omega)), if_neg z]
      by_cases z : aHs a j ≤ 3
      · rw [if_pos z] at s
        refine (pLp (step := fun s => f_Mo_isNearEnd_s18 W s.1 s.2) (s := (1, nI j)) s).trans (ih (j + 1) (by omega) (fun p hp => ?_))
        by_cases y : p = j
        · rw [y]; exact z
        · exact hh p (by omega)
      · rw [if_neg z] at s
        refine (pLp (step := fun s => f_Mo_isNearEnd_s18 W s.1 s.2) (s := (1, nI j)) s).trans ((zero m (j + 1) (by omega)).trans ?_)
        rw [if_neg (fun y => z ((aMx_if2 _ _ 4).mp y j (by omega)))]
  unfold f_Mo_isNearEnd f_Mo_isNearEnd_b15 few
  rw [h2, show gRd 197 (fun j => nI (r j)) 1 = some (nI (r 1)) from pRd _ (show 1 < 197 by omega) (by omega), pB, hR.r1]
  by_cases z : a 0 5 = 2
  · rw [if_pos (by rw [z]; rfl), show f_Mo_isNearEnd_l18 W (1, 0) = _ from one 4 0 rfl (fun p hp => absurd hp (by omega))]
    refine ⟨fun q => by rw [if_pos q.2], fun q => by rw [if_neg (fun y => q ⟨z, y⟩)]⟩
  · rw [if_neg (show ¬ nI (a 0 5) = 2 from z_ne (y := 2) (by omega) (by omega) z), show f_Mo_isNearEnd_l18 W (0, 0) = _ from zero 4 0 rfl]
    exact ⟨fun q => absurd q.1 z, fun _ => rfl⟩
/-- a call that worked on cells that don't count -/
theorem calc_call {b : Int32} {Mc : gMem} {C D : gMem → Option (Int32 × gMem)} (hI : Inv k M) (h1 : C M = some (0, gUp Mc 20 0 (gOut (Int32.toInt64 b)))) (h2 : IS M Mc) (h3 : Mc 19 = M 19) (h5 : ∀ W, W 19 = M 19 → ∃ W', D W = some (b, W') ∧ W' 19 0 0 = 0 ∧ (∀ g, g ≠ 19 → W' g = W g) ∧ IS W W') : CALL k M C D := by
  have o : ∀ g, g ≠ 20 → gUp Mc 20 0 (gOut (Int32.toInt64 b)) g = Mc g := fun g hg => funext fun c => gUp_n _ _ (fun z => hg z.1)
  obtain ⟨W', w1, w2, w3, w4⟩ := h5 (gUp Mc 20 0 (gOut (Int32.toInt64 b))) ((o 19 (by omega)).trans h3)
  refine ⟨0, _, b, W', h1, w1, w2, fun _ => ?_, hI.same ((h2.tr (IS_up Mc (g := 20) (c := 0) _ (Or.inl rfl))).tr w4)⟩
  have e : gGO W' = gGO (gUp Mc 20 0 (gOut (Int32.toInt64 b))) := by
    unfold gGO
    rw [w3 20 (by omega)]
  rw [e, gGO_u]
theorem IS_18 (h : ∀ g c, ¬ (g = 18 ∧ (c = 8 ∨ c = 9 ∨ c = 10)) → M' g c = M g c) : IS M M' :=
  ⟨fun e he => funext fun c => h e c (by omega), fun c hc => h 18 c (by omega), fun c hc => h 19 c (by omega), congrFun (h 19 0 (by omega)) 2, congrFun (h 19 0 (by omega)) 11⟩
theorem IS_19 (h : ∀ g c, ¬ (g = 19 ∧ (c = 3 ∨ c = 4 ∨ c = 5 ∨ c = 6 ∨ c = 7)) → M' g c = M g c) : IS M M' :=
  ⟨fun e he => funext fun c => h e c (by omega), fun c hc => h 18 c (by omega), fun c hc => h 19 c (by omega), congrFun (h 19 0 (by omega)) 2, congrFun (h 19 0 (by omega)) 11⟩
/-- the class: most -/
theorem p_most (h0 : M 0 = eN a) (hV : aV a) (hf : few a) {cu : Nat} (hcu : cu ≤ 1) : ∃ M', f_DS_most_b27 M (nI cu) = some (.inr (nI (TS (a 0 6 % 2) (32 - a 1 3) a - a 3 (a 0 6 % 2)), M')) ∧ ∀ g c, ¬ (g = 18 ∧ (c = 8 ∨ c = 9 ∨ c = 10)) → M' g c = M g c := by
  have h3 : ∀ p, p < 4 → aHs a p ≤ 3 := (aMx_if2 _ _ 4).mp hf.2
  obtain ⟨f1, f2, f3⟩ := few_cards hV hf.1 h3
  obtain ⟨M1, b, t1, t2, t3, t4, t5⟩ := p_take h0 hV hf.1 h3 hcu
  have hs2 : a 0 6 % 2 < 2 := by omega
  have n12 : 32 - a 1 3 ≤ 12 := by omega
  obtain ⟨rr, M2, g1, g2, g3, g4⟩ := TFS_all (32 - a 1 3) 30 (by omega) M1 _ a (a 1 3 % 4) (a 1 3 % 4 + (32 - a 1 3)) (a 0 6 % 2) cu (nI (aLead a)) (-1) 9 hV (Or.inl hf.1) ⟨by omega, by omega, by omega, rfl, f2⟩ hs2 hcu t2 (HS_HR h3).1 (fun _ => rfl) (by omega) (by omega) (by omega) (by omega) (fun _ => by omega)
  have hb := TS_b hs2 (32 - a 1 3) a hV (Or.inl ⟨hf.1, by omega, by omega⟩)
  have er : rr = TS (a 0 6 % 2) (32 - a 1 3) a - a 3 (a 0 6 % 2) := by
    rcases (show cu = 0 ∨ cu = 1 by omega) with z | z
    · have := g3.1 z
      omega
    · have h1 := (g3.2 z).1 (by omega)
      have h2 := (g3.2 z).2 (by omega)
      omega
  refine ⟨M2, ?_, fun g c z => (g4.2.2 g c (by omega)).trans (t5 g c z)⟩
  unfold f_DS_most_b27 f_Open_mostTricks
  rw [t1, pB, t3, t4, show (gTF 30).1 M1 (nI (a 1 3 % 4)) (nI (aLead a)) (-1) 9 = some (nI rr, M2) from g1, pB, pB, er]
theorem most_call (hI : Inv k M) (v : Int32) : CALL k M (fun M => f_Law_most M v) (fun M => f_Mo_most M v) := by
  have hI0 := hI
  obtain ⟨E, n, c, u, l, t, r, d, q, hC, hM, hV⟩ := hI
  have hG := hV.2.2.2.2.2.2.1.1
  have h0 := hC.1 0 (by omega)
  have hR := hM.2.2.2.1
  rcases i_cases v 2 (by omega) with h | ⟨w, hw, rfl⟩
  · refine throw_call (cd := 1) hI0 (by decide) ?_ ?_
    · show f_Law_most M v = _
      unfold f_Law_most f_DS_most
      rw [show (1 : Int32) = nI 1 from rfl, k_what0 (by omega) h]
      rfl
    · show f_Mo_most M v = _
      unfold f_Mo_most
      rw [show (1 : Int64) = lN 1 from rfl, q_in0 (by omega) h, pB, if_pos rfl]
      unfold f_Mo_most_b27
      rw [q_ref1 _ (by decide), pB, if_neg (show ¬ (1 : Int32) = 0 by decide)]
  · have cl : f_DS_most M (nI w) = gSq (f_DS_checkFewCards M) fun q2 => if nI w = 1 then f_DS_most_b27 M 1 else f_DS_most_b27 M 0 := by
      unfold f_DS_most
      rw [show f_DS_checkWhat (nI w) 1 = some (.inr ()) from k_what1 (n := 1) (by omega) (by omega)]
      rfl
    have mo : ∀ W : gMem, f_Mo_most W (nI w) = (f_Mo_isNearEnd W).bind fun q2 => if q2 = 0 then f_Mo_most_b27 W 2 else f_Mo_most_b27 W 0 := fun W => by
      unfold f_Mo_most
      rw [show (1 : Int64) = lN 1 from rfl, q_in1 (by omega) (by omega), pB, if_neg (by decide)]
    by_cases hf : few (E 0)
    · have h3 : ∀ p, p < 4 → aHs (E 0) p ≤ 3 := (aMx_if2 _ _ 4).mp hf.2
      obtain ⟨f1, f2, f3⟩ := few_cards hG hf.1 h3
      have hs2 : E 0 0 6 % 2 < 2 := by omega
      have ht := hG.2.1.2.1 (Or.inr hf.1)
      have hb := TS_b hs2 (32 - E 0 1 3) (E 0) hG (Or.inl ⟨hf.1, by omega, by omega⟩)
      obtain ⟨Mc, g1, g2⟩ := p_most h0 hG hf (cu := w) (by omega)
      have c1 : f_DS_most M (nI w) = some (.inr (nI (TS (E 0 0 6 % 2) (32 - E 0 1 3) (E 0) - E 0 3 (E 0 0 6 % 2)), Mc)) := by
        rw [cl, (k_few h0 hG).1 hf, ← g1]
        rcases (show w = 0 ∨ w = 1 by omega) with z | z <;> rw [z] <;> rfl
      refine calc_call (b := nI (TS (E 0 0 6 % 2) (32 - E 0 1 3) (E 0) - E 0 3 (E 0 0 6 % 2))) (Mc := Mc) hI0 ?_ (IS_18 g2) (funext fun c => g2 19 c (by omega)) (fun W hW => ?_)
      · show f_Law_most M (nI w) = _
        unfold f_Law_most
        rw [c1]
        rfl
      · have hW2 : gSt W 19 0 0 0 19 2 = fun j => nI (r j) := by rw [st_n _ _ _ (by omega)]; exact (hM.c19 hW).1
        obtain ⟨W', s1, s2⟩ := q_searched (W := gSt W 19 0 0 0) (c0 := 2) (sd := E 0 0 6 % 2) (n := 32 - E 0 1 3) (Or.inl rfl) hW2 hR hG hs2 (by omega) (by omega) (Or.inl ⟨hf.1, by omega⟩)
        have e5 : ∀ sd, sd < 2 → r (5 + sd) = E 0 3 sd := fun sd hsd => by
          rcases (show sd = 0 ∨ sd = 1 by omega) with k | k <;> rw [k]
          · exact hR.1.2.2.2.2.2.1
          · exact hR.1.2.2.2.2.2.2.1
        refine ⟨W', ?_, ?_, fun g hg => ?_, (IS_st W (k := 0) 0 (by omega)).tr (IS_19 (fun g c z => s2 g c (by omega)))⟩
        · show f_Mo_most W (nI w) = _
          rw [mo, (q_near (hM.c19 hW).1 hR hG).1 hf, pB, if_neg (show ¬ (1 : Int32) = 0 by decide)]
          unfold f_Mo_most_b27
          rw [q_ref0, pB, if_pos rfl]
          dsimp only
          rw [hW2, show gRd 197 (fun j => nI (r j)) 2 = some (nI (r 2)) from pRd _ (show 2 < 197 by omega) (by omega), pB, hR.r2 (Or.inr hf.1), show gRem (nI (E 0 0 6)) 2 = nI (E 0 0 6 % 2) from z_rem (d := 2) (by omega) (by omega) (by omega), s1, pB]
          dsimp only
          rw [s2 19 2 (by omega), hW2, show (5 : Int32) = nI 5 from rfl, nI_add, pRd _ (show 5 + E 0 0 6 % 2 < 197 by omega) (by omega), pB, e5 _ hs2, pk_sub hb.1]
        · rw [s2 19 0 (by omega), st_00]
        · funext c0
          rw [s2 g c0 (by omega)]
          exact gUp_n _ _ (by omega)
    · refine throw_call (cd := 2) hI0 (by decide) ?_ ?_
      · show f_Law_most M (nI w) = _
        unfold f_Law_most
        rw [cl, (k_few h0 hG).2 hf]
        rfl
      · show f_Mo_most M (nI w) = _
        rw [mo, (q_near hM.1 hR hG).2 hf, pB, if_pos rfl]
        unfold f_Mo_most_b27
        rw [q_ref1 _ (by decide), pB, if_neg (show ¬ (1 : Int32) = 0 by decide)]
theorem s_c16 {Ls : Nat} {xs : Nat → Int32} (hL : Ls ≤ 2560) (hk : 5 * k + 5 ≤ Ls) (hI : Inv k M) : ∃ M', f_law_c16 Ls xs M (nI (5 * k)) = some M' ∧ Inv (k + 1) M' := by
  obtain ⟨cd, M1, b, M2, h1, h2, h3, h4, h5⟩ := most_call hI (xs (5 * k + 1))
  dsimp only at h1 h2
  refine ⟨M2, ?_, h5⟩
  unfold f_law_c16
  rw [sc_1 hL hk, pB, h1, pB, pB, h2, pB]
  exact c_tail (q := (b, M2)) h3 h4
end MO
