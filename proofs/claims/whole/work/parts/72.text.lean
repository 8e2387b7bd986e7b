-- ===== PURE: the text's signs; cases of the law =====
section TX
variable {M M' W : gMem} {E : Nat → Nat → Nat → Nat} {n c k n' c' : Nat} {u : Nat → Nat} {l : Nat} {t r d q r' d' : Nat → Nat} {a : Nat → Nat → Nat} {e : Nat}
theorem IM.text (h : IM M E n c u l t r d q) {l' : Nat} {t' : Nat → Nat} {f : Nat → Int32} (hf : ∀ j, j < l' → f j = nI (t' j)) : IM (gSt (gUp M 19 1 f) 19 0 2 (nI l')) E n c u l' t' r d q := by
  have o : ∀ g c0, ¬ (g = 19 ∧ (c0 = 0 ∨ c0 = 1)) → gSt (gUp M 19 1 f) 19 0 2 (nI l') g c0 = M g c0 := fun g c0 z => by
    unfold gSt
    rw [gUp_n _ _ (by omega), gUp_n _ _ (by omega)]
  refine ⟨(o 19 2 (by omega)).trans h.1, (o 19 9 (by omega)).trans h.2.1, (o 19 10 (by omega)).trans h.2.2.1, h.2.2.2.1, h.2.2.2.2.1, h.2.2.2.2.2.1, ?_, fun i hi => (congrFun (o 19 11 (by omega)) i).trans (h.2.2.2.2.2.2.2.1 i hi), ?_, fun j hj => ?_⟩
  · unfold gSt
    rw [gUp_s, pk_un (by omega), gUp_n _ _ (by omega)]
    exact h.2.2.2.2.2.2.1
  · unfold gSt
    rw [gUp_s, pk_us]
  · unfold gSt
    rw [gUp_n _ _ (by omega), gUp_s]
    exact hf j hj
theorem append_call (hI : Inv k M) (v : Int32) : CALL k M (fun M => f_Law_append M v) (fun M => f_Mo_append M v) := by
  have hI0 := hI
  obtain ⟨E, n, c, u, l, t, r, d, q, hC, hM, hV⟩ := hI
  have hl := hV.2.2.1
  have l0 : ∀ W : gMem, W 19 = M 19 → W 19 0 2 = nI l := fun W hW => (hM.c19 hW).2.2.2.2.2.2.2.2.1
  rcases i_cases v 256 (by omega) with h | ⟨w, hw, rfl⟩
  · refine throw_call (cd := 1) hI0 (by decide) ?_ ?_
    · show f_Law_append M v = _
      unfold f_Law_append f_DS_append
      by_cases z : v < 0
      · rw [if_pos z]; rfl
      · rcases h with h | h
        · exact absurd h z
        · rw [if_neg z, show (255 : Int32) = nI 255 from rfl, if_neg (fun q => by rw [fa_le, pN (by omega)] at h q; omega)]; rfl
    · show f_Mo_append M v = _
      unfold f_Mo_append
      rw [show (255 : Int64) = lN 255 from rfl, q_in0 (by omega) h, pB, if_pos rfl]
      unfold f_Mo_append_b31
      rw [q_ref1 _ (by decide), pB, if_neg (show ¬ (1 : Int32) = 0 by decide)]
  · have cl : f_DS_append M (nI w) = if nI l < 120 then (f_Wri_add M (nI w)).bind fun q2 => some (.inr (q2.1, q2.2)) else some (.inl 2) := by
      unfold f_DS_append f_Wri_length
      rw [if_neg (nI_pos (by omega)), show (255 : Int32) = nI 255 from rfl, if_pos (nI_le (by omega) (by omega)), pB, hC.2.2.2.2.1]
    have mo : ∀ W : gMem, W 19 = M 19 → f_Mo_append W (nI w) = if l = 120 then f_Mo_append_b31 W (nI w) 2 else f_Mo_append_b31 W (nI w) 0 := fun W hW => by
      unfold f_Mo_append
      rw [show (255 : Int64) = lN 255 from rfl, q_in1 (by omega) (by omega), pB, if_neg (by decide), l0 W hW]
      by_cases z : l = 120
      · rw [if_pos z, if_pos (by rw [z]; rfl)]
      · rw [if_neg z, if_neg (show ¬ nI l = 120 from z_ne (y := 120) (by omega) (by omega) z)]
    by_cases z : l = 120
    · refine throw_call (cd := 2) hI0 (by decide) ?_ ?_
      · show f_Law_append M (nI w) = _
        unfold f_Law_append
        rw [cl, z, if_neg (by decide)]
        rfl
      · show f_Mo_append M (nI w) = _
        rw [mo M rfl, if_pos z]
        unfold f_Mo_append_b31
        rw [q_ref1 _ (by decide), pB, if_neg (show ¬ (1 : Int32) = 0 by decide)]
    · obtain ⟨t', ht'⟩ : ∃ t', t' = fU t l w := ⟨_, rfl⟩
      have hf : ∀ f : Nat → Int32, (∀ j, j < l → f j = nI (t j)) → ∀ j, j < l + 1 → upd f l (nI w) j = nI (t' j) := fun f hf j hj => by
        rw [ht']
        by_cases y : j = l
        · rw [y, pk_us, fU_s]
        · rw [pk_un y, fU_n _ _ y]
          exact hf j (by omega)
      have hV2 : IV k E n c u (l + 1) t' := ⟨hV.1, hV.2.1, by omega, fun j hj => by
        rw [ht']
        by_cases y : j = l
        · rw [y, fU_s]; omega
        · rw [fU_n _ _ y]; exact hV.2.2.2.1 j (by omega), hV.2.2.2.2⟩
      have hc1 := hC.text (l' := l + 1) (t' := t') (hf (M 18 7) hC.2.2.2.2.2)
      refine mu_call (b := nI (l + 1)) (Mc := gSt (gUp M 18 7 (upd (M 18 7) l (nI w))) 18 6 1 (nI (l + 1))) ?_ hc1 ?_ hV2.up (fun W hW => ?_)
      · show f_Law_append M (nI w) = _
        unfold f_Law_append
        rw [cl, if_pos (show nI l < 120 from nI_lt (b := 120) (by omega) (by omega))]
        unfold f_Wri_add f_DS_put
        have e6 : gUp M 18 7 (upd (M 18 7) l (nI w)) 18 6 1 = nI l := by rw [gUp_n _ _ (by omega), hC.2.2.2.2.1]
        rw [hC.2.2.2.2.1, if_neg (nI_pos (by omega)), z_ofn, if_neg (nI_ge (by omega) (by omega)), pWr _ _ _ _ (by omega) (by omega), pB, pB, e6]
        unfold gSO
        rw [nI_1, pB, hc1.2.2.2.2.1]
        rfl
      · funext c0
        unfold gSt
        rw [gUp_n _ _ (by omega), gUp_n _ _ (by omega)]
      · have m := (hM.c19 hW).same (IS_st W (k := 0) 0 (by omega))
        have m2 := m.text (l' := l + 1) (t' := t') (hf _ m.2.2.2.2.2.2.2.2.2)
        refine ⟨_, r, d, q, ?_, ?_, fun g hg => ?_, m2⟩
        · show f_Mo_append W (nI w) = _
          rw [mo W hW, if_neg z]
          unfold f_Mo_append_b31
          rw [q_ref0, pB, if_pos rfl]
          dsimp only
          have e6 : gUp (gSt W 19 0 0 0) 19 1 (upd (gSt W 19 0 0 0 19 1) l (nI w)) 19 0 2 = nI l := by
            rw [gUp_n _ _ (by omega)]
            exact m.2.2.2.2.2.2.2.2.1
          rw [m.2.2.2.2.2.2.2.2.1, pWr _ _ _ _ (by omega) (by omega), pB, e6]
          unfold gSO
          rw [nI_1, pB, m2.2.2.2.2.2.2.2.2.1]
        · unfold gSt
          rw [gUp_s, pk_un (by omega), gUp_n _ _ (by omega), gUp_s, pk_us]
        · funext c0
          unfold gSt
          rw [gUp_n _ _ (by omega), gUp_n _ _ (by omega), gUp_n _ _ (by omega)]
theorem s_c0 {Ls : Nat} {xs : Nat → Int32} (hL : Ls ≤ 2560) (hk : 5 * k + 5 ≤ Ls) (hI : Inv k M) : ∃ M', f_law_c0 Ls xs M (nI (5 * k)) = some M' ∧ Inv (k + 1) M' := by
  obtain ⟨cd, M1, b, M2, h1, h2, h3, h4, h5⟩ := append_call hI (xs (5 * k + 1))
  dsimp only at h1 h2
  refine ⟨M2, ?_, h5⟩
  unfold f_law_c0
  rw [sc_1 hL hk, pB, h1, pB, pB, h2, pB]
  exact c_tail (q := (b, M2)) h3 h4
theorem s_c20 {Ls : Nat} {xs : Nat → Int32} (hL : Ls ≤ 2560) (hk : 5 * k + 5 ≤ Ls) (hI : Inv k M) : ∃ M', f_law_c20 Ls xs M (nI (5 * k)) = some M' ∧ Inv (k + 1) M' := by
  obtain ⟨cd, M1, b, M2, h1, h2, h3, h4, h5⟩ := save_call (by omega) hI (xs (5 * k + 1))
  dsimp only at h1 h2
  refine ⟨M2, ?_, h5⟩
  unfold f_law_c20
  rw [sc_1 hL hk, pB, h1, pB, pB, h2, pB]
  exact c_tail (q := (b, M2)) h3 h4
theorem s_c21 {Ls : Nat} {xs : Nat → Int32} (hL : Ls ≤ 2560) (hk : 5 * k + 5 ≤ Ls) (hI : Inv k M) : ∃ M', f_law_c21 Ls xs M (nI (5 * k)) = some M' ∧ Inv (k + 1) M' := by
  obtain ⟨cd, M1, b, M2, h1, h2, h3, h4, h5⟩ := restore_call (by omega) hI (xs (5 * k + 1))
  dsimp only at h1 h2
  refine ⟨M2, ?_, h5⟩
  unfold f_law_c21
  rw [sc_1 hL hk, pB, h1, pB, pB, h2, pB]
  exact c_tail (q := (b, M2)) h3 h4
theorem s_c1 {Ls : Nat} {xs : Nat → Int32} (x : Int32) (hI : Inv k M) : ∃ M', f_law_c1 Ls xs M x = some M' ∧ Inv (k + 1) M' := by
  obtain ⟨E, n, c, u, l, t, r, d, q, hC, hM, hV⟩ := hI
  have hV2 : IV (k + 1) E n c u 0 t := ⟨hV.up.1, hV.up.2.1, by omega, fun j hj => absurd hj (by omega), hV.up.2.2.2.2⟩
  have hc1 := hC.text (l' := 0) (t' := t) (f := M 18 7) (fun j hj => absurd hj (by omega))
  rw [pUpS] at hc1
  have e19 : gSt M 18 6 1 (nI 0) 19 = M 19 := by
    funext c0
    unfold gSt
    rw [gUp_n _ _ (by omega)]
  have m := (hM.c19 e19).same (IS_st _ (k := 0) 0 (by omega))
  have m2 := m.text (l' := 0) (t' := t) (f := gSt (gSt M 18 6 1 (nI 0)) 19 0 0 0 19 1) (fun j hj => absurd hj (by omega))
  rw [pUpS] at m2
  refine ⟨gSt (gSt (gSt M 18 6 1 (nI 0)) 19 0 0 0) 19 0 2 (nI 0), ?_, E, n, c, u, 0, t, r, d, q, hc1.c18 (fun g hg => ?_), m2, hV2⟩
  · unfold f_law_c1 f_DS_clearText f_Wri_clear f_Mo_clearText gSO
    rw [pB, pB, pB, pB, pB, pB]
    dsimp only
    have e1 : gSt (gSt M 18 6 1 0) 19 0 0 0 19 0 2 = nI l := m.2.2.2.2.2.2.2.2.1
    rw [hC.2.2.2.2.1, e1, if_pos rfl]
    rfl
  · funext c0
    unfold gSt
    rw [gUp_n _ _ (by omega), gUp_n _ _ (by omega)]
end TX
