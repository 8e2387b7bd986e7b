-- ===== PURE: mayHave of both =====
section MAY2
variable {M : gMem} {E : Nat → Nat → Nat → Nat} {n c k : Nat} {u : Nat → Nat} {l : Nat} {t r d q : Nat → Nat} {v v2 v3 : Int32}
theorem mayHave_ro (hC : IC M E n c u l t) (hM : IM M E n c u l t r d q) (hV : IV k E n c u l t) {rd : Nat} (hrd : rd ≤ 1) : RO M (fun M => f_Law_mayHave M v v2 v3 (nI rd)) (fun M => f_Mo_mayHave M v v2 v3 (nI rd)) := by
  have hG := hV.2.2.2.2.2.2.1.1
  have hw0 := aW_self (hC.1 0 (by omega))
  have hR := hM.2.2.2.1
  have h5 : E 0 0 5 ≤ 3 := hG.2.1.1
  have m0 : M 0 0 5 = nI (E 0 0 5) := by rw [hC.1 0 (by omega)]; rfl
  have b77 : ∀ M', ∀ x : Int32, ¬ x ≤ 0 → f_Mo_mayHave_b77 M' v v2 v3 (nI rd) x = some (0, gSt M' 19 0 0 x) := fun M' x hx => by
    unfold f_Mo_mayHave_b77
    rw [q_ref1 _ hx, pB, if_neg (show ¬ (1 : Int32) = 0 by decide)]
  have b40 : ∀ M', f_Mo_mayHave_b40 M' v v2 v3 (nI rd) = some (0, gSt M' 19 0 0 1) := fun M' => by
    unfold f_Mo_mayHave_b40 f_Mo_mayHave_b41
    rw [if_pos rfl]
    exact b77 M' 1 (by decide)
  rcases i_cases v 4 (by omega) with h | ⟨w, hw, rfl⟩
  · left
    refine ⟨1, by decide, ?_, fun M' hs => ?_⟩
    · show f_Law_mayHave M v v2 v3 (nI rd) = _
      unfold f_Law_mayHave f_DS_mayHave
      rw [show (4 : Int32) = nI 4 from rfl, k_place0 (by omega) h]
      rfl
    · show f_Mo_mayHave M' v v2 v3 (nI rd) = _
      unfold f_Mo_mayHave
      rw [show (3 : Int64) = lN 3 from rfl, q_in0 (by omega) h, pB, if_pos rfl]
      exact b40 M'
  rcases i_cases v2 4 (by omega) with h | ⟨p, hp, rfl⟩
  · left
    refine ⟨1, by decide, ?_, fun M' hs => ?_⟩
    · show f_Law_mayHave M (nI w) v2 v3 (nI rd) = _
      unfold f_Law_mayHave f_DS_mayHave
      rw [show (4 : Int32) = nI 4 from rfl, k_place1 (by omega) hw, k_place0 (by omega) h]
      rfl
    · show f_Mo_mayHave M' (nI w) v2 v3 (nI rd) = _
      unfold f_Mo_mayHave
      rw [show (3 : Int64) = lN 3 from rfl, q_in1 (by omega) (by omega), pB, if_neg (by decide), q_in0 (by omega) h, pB, if_pos rfl]
      exact b40 M'
  rcases i_cases v3 4 (by omega) with h | ⟨s, hs4, rfl⟩
  · left
    refine ⟨1, by decide, ?_, fun M' hs => ?_⟩
    · show f_Law_mayHave M (nI w) (nI p) v3 (nI rd) = _
      unfold f_Law_mayHave f_DS_mayHave
      rw [show (4 : Int32) = nI 4 from rfl, k_place1 (by omega) hw, k_place1 (by omega) hp, k_place0 (by omega) h]
      rfl
    · show f_Mo_mayHave M' (nI w) (nI p) v3 (nI rd) = _
      unfold f_Mo_mayHave
      rw [show (3 : Int64) = lN 3 from rfl, q_in1 (by omega) (by omega), pB, if_neg (by decide), q_in1 (by omega) (by omega), pB, if_neg (by decide), q_in0 (by omega) h, pB, if_pos rfl]
      exact b40 M'
  have cl : f_DS_mayHave M (nI w) (nI p) (nI s) (nI rd) = if nI w = nI p then some (.inl 1) else gSq (f_DS_checkInPlay M) fun q4 => (f_Ev_possible 0 M (nI w) (nI p) (nI s) (nI rd)).bind fun q5 => some (.inr q5) := by
    unfold f_DS_mayHave
    rw [show (4 : Int32) = nI 4 from rfl, k_place1 (by omega) hw, k_place1 (by omega) hp, k_place1 (by omega) hs4]
    rfl
  have mo : ∀ M', f_Mo_mayHave M' (nI w) (nI p) (nI s) (nI rd) = f_Mo_mayHave_b41 M' (nI w) (nI p) (nI s) (nI rd) 1 := fun M' => by
    unfold f_Mo_mayHave
    rw [show (3 : Int64) = lN 3 from rfl, q_in1 (by omega) (by omega), pB, if_neg (by decide), q_in1 (by omega) (by omega), pB, if_neg (by decide), q_in1 (by omega) (by omega), pB, if_neg (by decide)]
  by_cases z : w = p
  · left
    refine ⟨2, by decide, ?_, fun M' hs => ?_⟩
    · show f_Law_mayHave M (nI w) (nI p) (nI s) (nI rd) = _
      unfold f_Law_mayHave
      rw [cl, if_pos (by rw [z])]
      rfl
    · show f_Mo_mayHave M' (nI w) (nI p) (nI s) (nI rd) = _
      rw [mo]
      unfold f_Mo_mayHave_b41
      rw [if_neg (show ¬ (1 : Int32) = 0 by decide), if_pos (by rw [z])]
      exact b77 M' 2 (by decide)
  · by_cases z2 : E 0 0 5 = 2
    · right
      have h10 : E 0 10 (4 * p + s) ≤ 2 := hG.2.2.2.1.2.2.2.1 _ (by omega)
      have h11 : ∀ q, q < 4 → E 0 11 (4 * q + s) ≤ 1 := fun q hq => hG.2.2.2.1.2.2.2.2 _ (by omega)
      refine ⟨nI (aMs (aMay (E 0) w p s (if rd = 0 then 0 else E 0 10 (4 * p + s))) 9), ?_, fun M' hs => ?_⟩
      · show f_Law_mayHave M (nI w) (nI p) (nI s) (nI rd) = _
        have e := p_possible (M := M) (e := 0) hG.1 hw hp hs4 hrd h10 h11
        rw [hw0] at e
        unfold f_Law_mayHave
        rw [cl, if_neg (z_ne (by omega) (by omega) z)]
        unfold f_DS_checkInPlay
        rw [m0, z2, if_pos (show nI 2 = 2 from rfl), e]
        rfl
      · show f_Mo_mayHave M' (nI w) (nI p) (nI s) (nI rd) = _
        have h2 := hM.row hs 0
        rw [mo]
        unfold f_Mo_mayHave_b41
        rw [if_neg (show ¬ (1 : Int32) = 0 by decide), if_neg (z_ne (by omega) (by omega) z), show gRd 197 (M' 19 2) 1 = some (nI (r 1)) from row_rd (hM.same hs).1 (show 1 < 197 by omega), pB, hR.r1, z2, if_pos (show nI 2 = 2 from rfl)]
        unfold f_Mo_mayHave_b77
        rw [q_ref0, pB, if_pos rfl]
        exact q_possible h2 hR hG.1 hw hp hs4 hrd h10 h11
    · left
      refine ⟨3, by decide, ?_, fun M' hs => ?_⟩
      · show f_Law_mayHave M (nI w) (nI p) (nI s) (nI rd) = _
        unfold f_Law_mayHave
        rw [cl, if_neg (z_ne (by omega) (by omega) z)]
        unfold f_DS_checkInPlay
        rw [m0, if_neg (show ¬ nI (E 0 0 5) = 2 from z_ne (y := 2) (by omega) (by omega) z2)]
        rfl
      · show f_Mo_mayHave M' (nI w) (nI p) (nI s) (nI rd) = _
        rw [mo]
        unfold f_Mo_mayHave_b41
        rw [if_neg (show ¬ (1 : Int32) = 0 by decide), if_neg (z_ne (by omega) (by omega) z), show gRd 197 (M' 19 2) 1 = some (nI (r 1)) from row_rd (hM.same hs).1 (show 1 < 197 by omega), pB, hR.r1, if_neg (show ¬ nI (E 0 0 5) = 2 from z_ne (y := 2) (by omega) (by omega) z2)]
        exact b77 M' 3 (by decide)
end MAY2
-- ===== PURE: the law's cases that only read =====
section LC
variable {Ls : Nat} {xs : Nat → Int32} {M : gMem} {k : Nat}
theorem sc_0 (hL : Ls ≤ 2560) (hk : 5 * k + 5 ≤ Ls) : gSc Ls xs (nI (5 * k)) = some (xs (5 * k)) := pRd xs (by omega) (by omega)
theorem sc_1 (hL : Ls ≤ 2560) (hk : 5 * k + 5 ≤ Ls) : gSc Ls xs (nI (5 * k) + 1) = some (xs (5 * k + 1)) := by
  rw [nI_1]
  exact pRd xs (by omega) (by omega)
theorem sc_2 (hL : Ls ≤ 2560) (hk : 5 * k + 5 ≤ Ls) : gSc Ls xs (nI (5 * k) + 2) = some (xs (5 * k + 2)) := by
  rw [show nI (5 * k) + 2 = nI (5 * k + 2) from nI_add _ 2]
  exact pRd xs (by omega) (by omega)
theorem sc_3 (hL : Ls ≤ 2560) (hk : 5 * k + 5 ≤ Ls) : gSc Ls xs (nI (5 * k) + 3) = some (xs (5 * k + 3)) := by
  rw [show nI (5 * k) + 3 = nI (5 * k + 3) from nI_add _ 3]
  exact pRd xs (by omega) (by omega)
theorem sc_4 (hL : Ls ≤ 2560) (hk : 5 * k + 5 ≤ Ls) : gSc Ls xs (nI (5 * k) + 4) = some (xs (5 * k + 4)) := by
  rw [show nI (5 * k) + 4 = nI (5 * k + 4) from nI_add _ 4]
  exact pRd xs (by omega) (by omega)
theorem RO.inv {C D : gMem → Option (Int32 × gMem)} (hI : Inv k M) (h : ∀ E n c u l t r d q, IC M E n c u l t → IM M E n c u l t r d q → IV k E n c u l t → RO M C D) : CALL k M C D := by
  obtain ⟨E, n, c, u, l, t, r, d, q, h1, h2, h3⟩ := hI
  exact (h E n c u l t r d q h1 h2 h3).call ⟨E, n, c, u, l, t, r, d, q, h1, h2, h3⟩
theorem s_c4 (hL : Ls ≤ 2560) (hk : 5 * k + 5 ≤ Ls) (hI : Inv k M) : ∃ M', f_law_c4 Ls xs M (nI (5 * k)) = some M' ∧ Inv (k + 1) M' := by
  obtain ⟨cd, M1, b, M2, h1, h2, h3, h4, h5⟩ := RO.inv hI (C := fun M => f_Law_about M (xs (5 * k + 1))) (D := fun M => f_Mo_about M (xs (5 * k + 1))) (fun _ _ _ _ _ _ _ _ _ a b c => about_ro a b c)
  dsimp only at h1 h2
  refine ⟨M2, ?_, h5⟩
  unfold f_law_c4
  rw [sc_1 hL hk, pB, h1, pB, pB, h2, pB]
  exact c_tail (q := (b, M2)) h3 h4
theorem s_c5 (hL : Ls ≤ 2560) (hk : 5 * k + 5 ≤ Ls) (hI : Inv k M) : ∃ M', f_law_c5 Ls xs M (nI (5 * k)) = some M' ∧ Inv (k + 1) M' := by
  obtain ⟨cd, M1, b, M2, h1, h2, h3, h4, h5⟩ := RO.inv hI (C := fun M => f_Law_cardOf M (xs (5 * k + 1)) (xs (5 * k + 2))) (D := fun M => f_Mo_cardOf M (xs (5 * k + 1)) (xs (5 * k + 2))) (fun _ _ _ _ _ _ _ _ _ a b c => cardOf_ro a b c)
  dsimp only at h1 h2
  refine ⟨M2, ?_, h5⟩
  unfold f_law_c5
  rw [sc_1 hL hk, pB, sc_2 hL hk, pB, h1, pB, pB, pB, h2, pB]
  exact c_tail (q := (b, M2)) h3 h4
theorem s_c6 (hL : Ls ≤ 2560) (hk : 5 * k + 5 ≤ Ls) (hI : Inv k M) : ∃ M', f_law_c6 Ls xs M (nI (5 * k)) = some M' ∧ Inv (k + 1) M' := by
  obtain ⟨cd, M1, b, M2, h1, h2, h3, h4, h5⟩ := RO.inv hI (C := fun M => f_Law_suitOf M (xs (5 * k + 1)) (xs (5 * k + 2)) (xs (5 * k + 3))) (D := fun M => f_Mo_suitOf M (xs (5 * k + 1)) (xs (5 * k + 2)) (xs (5 * k + 3))) (fun _ _ _ _ _ _ _ _ _ a b c => suitOf_ro a b c)
  dsimp only at h1 h2
  refine ⟨M2, ?_, h5⟩
  unfold f_law_c6
  rw [sc_1 hL hk, pB, sc_2 hL hk, pB, sc_3 hL hk, pB, h1, pB, pB, pB, pB, h2, pB]
  exact c_tail (q := (b, M2)) h3 h4
theorem s_c7 (hL : Ls ≤ 2560) (hk : 5 * k + 5 ≤ Ls) (hI : Inv k M) : ∃ M', f_law_c7 Ls xs M (nI (5 * k)) = some M' ∧ Inv (k + 1) M' := by
  obtain ⟨cd, M1, b, M2, h1, h2, h3, h4, h5⟩ := RO.inv hI (C := fun M => f_Law_trick M (xs (5 * k + 1))) (D := fun M => f_Mo_trick M (xs (5 * k + 1))) (fun _ _ _ _ _ _ _ _ _ a b c => trick_ro a b c)
  dsimp only at h1 h2
  refine ⟨M2, ?_, h5⟩
  unfold f_law_c7
  rw [sc_1 hL hk, pB, h1, pB, pB, h2, pB]
  exact c_tail (q := (b, M2)) h3 h4
theorem s_c13 (hL : Ls ≤ 2560) (hk : 5 * k + 5 ≤ Ls) (hI : Inv k M) : ∃ M', f_law_c13 Ls xs M (nI (5 * k)) = some M' ∧ Inv (k + 1) M' := by
  obtain ⟨cd, M1, b, M2, h1, h2, h3, h4, h5⟩ := RO.inv hI (C := fun M => f_Law_legal M (xs (5 * k + 1))) (D := fun M => f_Mo_legal M (xs (5 * k + 1))) (fun _ _ _ _ _ _ _ _ _ a b c => legal_ro a b c)
  dsimp only at h1 h2
  refine ⟨M2, ?_, h5⟩
  unfold f_law_c13
  rw [sc_1 hL hk, pB, h1, pB, pB, h2, pB]
  exact c_tail (q := (b, M2)) h3 h4
theorem s_c14 (hI : Inv k M) (x : Int32) : ∃ M', f_law_c14 Ls xs M x = some M' ∧ Inv (k + 1) M' := by
  have hI0 := hI
  obtain ⟨E, n, c, u, l, t, r, d, q, h1, h2, h3⟩ := hI
  obtain ⟨y, e1, e2⟩ := advice_ro h1 h2 h3
  refine ⟨_, ?_, hI0.same (IS_st M (k := 0) 0 (by omega))⟩
  unfold f_law_c14
  rw [e1, pB, e2, pB, if_pos rfl]
theorem s_c15 (hL : Ls ≤ 2560) (hk : 5 * k + 5 ≤ Ls) (hI : Inv k M) : ∃ M', f_law_c15 Ls xs M (nI (5 * k)) = some M' ∧ Inv (k + 1) M' := by
  unfold f_law_c15
  rw [sc_1 hL hk, pB, sc_2 hL hk, pB, sc_3 hL hk, pB, sc_4 hL hk, pB]
  by_cases z : xs (5 * k + 4) = 0
  · obtain ⟨cd, M1, b, M2, h1, h2, h3, h4, h5⟩ := RO.inv hI (C := fun M => f_Law_mayHave M (xs (5 * k + 1)) (xs (5 * k + 2)) (xs (5 * k + 3)) (nI 0)) (D := fun M => f_Mo_mayHave M (xs (5 * k + 1)) (xs (5 * k + 2)) (xs (5 * k + 3)) (nI 0)) (fun _ _ _ _ _ _ _ _ _ a b c => mayHave_ro a b c (by omega))
    refine ⟨M2, ?_, h5⟩
    rw [if_pos z, show f_Law_mayHave M (xs (5 * k + 1)) (xs (5 * k + 2)) (xs (5 * k + 3)) 0 = some (cd, M1) from h1, pB, pB, pB, pB, pB, if_pos z, show f_Mo_mayHave (cd, M1).2 (xs (5 * k + 1)) (xs (5 * k + 2)) (xs (5 * k + 3)) 0 = some (b, M2) from h2, pB]
    exact c_tail (q := (b, M2)) h3 h4
  · obtain ⟨cd, M1, b, M2, h1, h2, h3, h4, h5⟩ := RO.inv hI (C := fun M => f_Law_mayHave M (xs (5 * k + 1)) (xs (5 * k + 2)) (xs (5 * k + 3)) (nI 1)) (D := fun M => f_Mo_mayHave M (xs (5 * k + 1)) (xs (5 * k + 2)) (xs (5 * k + 3)) (nI 1)) (fun _ _ _ _ _ _ _ _ _ a b c => mayHave_ro a b c (by omega))
    refine ⟨M2, ?_, h5⟩
    rw [if_neg z, show f_Law_mayHave M (xs (5 * k + 1)) (xs (5 * k + 2)) (xs (5 * k + 3)) 1 = some (cd, M1) from h1, pB, pB, pB, pB, pB, if_neg z, show f_Mo_mayHave (cd, M1).2 (xs (5 * k + 1)) (xs (5 * k + 2)) (xs (5 * k + 3)) 1 = some (b, M2) from h2, pB]
    exact c_tail (q := (b, M2)) h3 h4
end LC
