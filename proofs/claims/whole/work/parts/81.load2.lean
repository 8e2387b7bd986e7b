-- ===== PURE: errorPosition, load; two cases of the law =====
section L2
variable {M M' W : gMem} {E : Nat → Nat → Nat → Nat} {n c k : Nat} {u : Nat → Nat} {l : Nat} {t r d q r' : Nat → Nat} {a : Nat → Nat → Nat}
theorem IC.tx (h : IC M E n c u l t) (hV : IV k E n c u l t) : tx7 M l t := ⟨h.2.2.2.2.1, h.2.2.2.2.2, hV.2.2.1, hV.2.2.2.1⟩
theorem IM.tx (h : IM M E n c u l t r d q) (hV : IV k E n c u l t) : tx1 M l t := ⟨h.2.2.2.2.2.2.2.2.1, h.2.2.2.2.2.2.2.2.2, hV.2.2.1, hV.2.2.2.1⟩
/-- the model reads the text: what counts stays -/
theorem read_is (h1 : ∀ g c, ¬ (g = 19 ∧ (c = 0 ∨ c = 3 ∨ c = 8)) → M' g c = M g c) (h2 : ∀ j, j ≠ 14 → j ≠ 15 → M' 19 0 j = M 19 0 j) : IS M M' :=
  ⟨fun e he => funext fun c => h1 e c (by omega), fun c hc => h1 18 c (by omega), fun c hc => h1 19 c (by omega), h2 2 (by omega) (by omega), h2 11 (by omega) (by omega)⟩
theorem s_c2 {Ls : Nat} {xs : Nat → Int32} (x : Int32) (hI : Inv k M) : ∃ M', f_law_c2 Ls xs M x = some M' ∧ Inv (k + 1) M' := by
  have hI0 := hI
  obtain ⟨E, n, c, u, l, t, r, d, q, hC, hM, hV⟩ := hI
  have s0 := IS_st M (k := 0) 0 (by omega)
  have hJ := hV.2.2.2.2.2.1 0 (by omega)
  obtain ⟨W', k1, k2, k3, -⟩ := q_readText ((hM.same s0).tx hV) hJ.1 hJ.2
  refine ⟨W', ?_, hI0.same (s0.tr (read_is k2 k3))⟩
  unfold f_law_c2 f_DS_errorPosition f_Mo_errorPosition gSO
  rw [p_firstError (hC.tx hV), pB, pB, pB, k1, pB, pB, if_pos rfl]
theorem p_slotsEmpty (h : IC M E n c u l t) : ∃ M2, f_Slots_empty M = some M2 ∧ IC M2 E n c (fU (fU u 0 0) 1 0) l t ∧ ∀ g c, ¬ (g = 18 ∧ c = 5) → M2 g c = M g c := by
  obtain ⟨M1, hM1⟩ : ∃ M1, M1 = gUp M 18 5 (upd (M 18 5) 0 (nI 0)) := ⟨_, rfl⟩
  obtain ⟨M2, hM2⟩ : ∃ M2, M2 = gUp M1 18 5 (upd (M1 18 5) 1 (nI 0)) := ⟨_, rfl⟩
  have i1 := h.used (s := 0) 0
  rw [← hM1] at i1
  have i2 := i1.used (s := 1) 0
  rw [← hM2] at i2
  refine ⟨M2, ?_, i2, fun g c0 hg => by rw [hM2, gUp_n _ _ (by omega), hM1, gUp_n _ _ (by omega)]⟩
  unfold f_Slots_empty f_Slots_empty_l2
  have s1 : f_Slots_empty_s2 M 0 = some (.inl (nI 1, M1)) := by
    unfold f_Slots_empty_s2 gBl
    rw [z_ofn, if_neg (by decide), if_pos (Or.inl rfl), pB, show gWr M 18 5 2 0 0 = some (gUp M 18 5 (upd (M 18 5) 0 (nI 0))) from pWr (n := 2) (k := 0) _ _ _ _ (by omega) (by omega), pB, ← hM1]
    rfl
  have s2 : f_Slots_empty_s2 M1 (nI 1) = some (.inl (nI 2, M2)) := by
    unfold f_Slots_empty_s2 gBl
    rw [z_ofn, if_neg (by decide), if_pos (Or.inl rfl), pB, show gWr M1 18 5 2 (nI 1) 0 = some (gUp M1 18 5 (upd (M1 18 5) 1 (nI 0))) from pWr (n := 2) (k := 1) _ _ _ _ (by omega) (by omega), pB, ← hM2]
    rfl
  have s3 : f_Slots_empty_s2 M2 (nI 2) = some (.inr M2) := by
    unfold f_Slots_empty_s2
    rw [z_ofn, if_pos (by decide)]
  exact (pLp (step := fun s => f_Slots_empty_s2 s.2 s.1) (s := (0, M)) s1).trans ((pLp (step := fun s => f_Slots_empty_s2 s.2 s.1) (s := (nI 1, M1)) s2).trans (pLx (step := fun s => f_Slots_empty_s2 s.2 s.1) (s := (nI 2, M2)) s3))
theorem load_call (hk : k ≤ 600) (hI : Inv k M) : CALL k M f_Law_load f_Mo_load := by
  have hI0 := hI
  obtain ⟨E, n, c, u, l, t, r, d, q, hC, hM, hV⟩ := hI
  have hJ := hV.2.2.2.2.2.1 0 (by omega)
  have hl := hV.2.2.1
  have hx := hC.tx hV
  have fe := p_firstError hx
  by_cases z : tW t l = 1000
  · rw [if_pos z] at fe
    have hw : l ≠ 0 ∧ t 0 = 86 ∧ tE t l l 1 = 1000 := by
      unfold tW at z
      by_cases y : l = 0
      · rw [if_pos y] at z; omega
      · rw [if_neg y] at z
        by_cases y2 : t 0 = 86
        · rw [if_pos y2] at z
          exact ⟨y, y2, z⟩
        · rw [if_neg y2] at z; omega
    have hVc := aV_clear hJ.1 hJ.2
    have h4 : aCl (E 0) 0 4 = 0 := by rw [aCl_0 4 (by omega)]; rfl
    obtain ⟨a', ha'⟩ : ∃ a', a' = (tA t l l 1 (aCl (E 0), 0)).1 := ⟨_, rfl⟩
    obtain ⟨o', ho'⟩ : ∃ o', o' = (tA t l l 1 (aCl (E 0), 0)).2 := ⟨_, rfl⟩
    have hVa := tA_v hl l 1 (aCl (E 0)) 0 (by omega) hw.2.2 (by omega) hVc (by omega)
    rw [← ha'] at hVa
    -- the class
    have c1 := hC.ev (e := 0) (a := aCl (E 0)) (by omega)
    have c2 := c1.st (n' := n) (c' := 0) 2 (nI 0) (fun z => absurd z (by omega)) (fun _ => rfl) (fun _ => rfl) (fun z => absurd rfl z)
    obtain ⟨M4, e4, c4, o4⟩ := p_slotsEmpty c2
    have x4 : tx7 M4 l t := ⟨c4.2.2.2.2.1, c4.2.2.2.2.2, hl, hV.2.2.2.1⟩
    have l4 := p_load x4 l 1 (aCl (E 0)) 0 (by omega) (by omega) hw.2.2 hVc (by omega)
    rw [← ha', ← ho', aW_self (by have := c4.1 0 (by omega); rwa [fU_s] at this)] at l4
    have c5 := c4.ev (e := 0) (a := a') (by omega)
    have e3 := p_clear M 0 (E 0)
    rw [aW_self (hC.1 0 (by omega))] at e3
    have hV2 : IV (k + 1) (fU (fU E 0 (aCl (E 0))) 0 a') n 0 (fU (fU u 0 0) 1 0) l t := by
      have u0 : ∀ s, s < 2 → fU (fU u 0 0) 1 0 s = 0 := fun s hs => by
        rcases (show s = 0 ∨ s = 1 by omega) with rfl | rfl
        · rw [fU_n _ _ (by omega), fU_s]
        · rw [fU_s]
      refine ⟨hV.1, by omega, hl, hV.2.2.2.1, fun s hs => by rw [u0 s hs]; omega, fun e he => ?_, ?_, fun i hi => absurd hi (by omega), fun s hs hu => by rw [u0 s hs] at hu; omega⟩
      · by_cases y : e = 0
        · rw [y, fU_s]; exact hVa.1.J
        · rw [fU_n _ _ y, fU_n _ _ y]; exact hV.2.2.2.2.2.1 e he
      · rw [fU_s]
        exact ⟨hVa.1, by omega⟩
    refine mu_call (b := nI o') (Mc := aW M4 0 a') ?_ c5 ?_ hV2 (fun W hW => ?_)
    · unfold f_Law_load f_DS_load
      rw [fe, pB, if_pos rfl, e3, pB]
      unfold f_Mem_forget gSO
      rw [pB, pB, show (0 : Int32) = nI 0 from rfl, e4, pB]
      rw [show f_DS_load_l46 (nI 0, 1, M4) = some (.inr (nI o', aW M4 0 a')) from l4]
      rfl
    · rw [aW_n _ _ (by omega)]
      funext c0
      rw [o4 19 c0 (by omega)]
      unfold gSt
      rw [gUp_n _ _ (by omega), aW_n2 _ _ _ (by omega)]
    · have m := hM.c19 hW
      obtain ⟨W', k1, k2, k3, k4⟩ := q_readText (m.tx hV) hJ.1 hJ.2
      obtain ⟨r', g1, g2, g3⟩ := k4 z
      rw [← ho'] at g2
      rw [← ha'] at g3
      rw [if_pos z] at k1
      have m2 := ((m.same (read_is k2 k3)).same (IS_st W' (k := 0) 0 (by omega)))
      have g1' : gSt W' 19 0 0 0 19 3 = fun j => nI (r' j) := by rw [st_n _ _ _ (by omega)]; exact g1
      have e1 := q_copy (M := gSt W' 19 0 0 0) (c0 := 3) (n0 := 197) (c1 := 2) (n1 := 197) (i := 0) (j := 0) (f := r') (r := r) (by omega) g1' (by omega) (by omega) (by omega) (by omega)
      rw [rW_self m2.1] at e1
      have e1 : f_Mo_copyState 19 3 197 19 2 197 (gSt W' 19 0 0 0) 0 0 = some (rW (gSt W' 19 0 0 0) 2 (rCp r' r 0 0 197)) := e1
      have hR : RM a' (rCp r' r 0 0 197) := by
        refine RM_cong hVa.1.O.2.1 (fun j hj => ?_) g3
        unfold rCp
        rw [if_pos (by omega)]
        refine congrArg r' ?_
        omega
      obtain ⟨W2, hW2⟩ : ∃ W2, W2 = rW (gSt W' 19 0 0 0) 2 (rCp r' r 0 0 197) := ⟨_, rfl⟩
      rw [← hW2] at e1
      obtain ⟨W3, hW3⟩ : ∃ W3, W3 = gSt W2 19 0 11 (nI 0) := ⟨_, rfl⟩
      obtain ⟨W4, hW4⟩ : ∃ W4, W4 = gUp W3 19 11 (upd (W3 19 11) 0 (nI 0)) := ⟨_, rfl⟩
      obtain ⟨W5, hW5⟩ : ∃ W5, W5 = gUp W4 19 11 (upd (W4 19 11) 1 (nI 0)) := ⟨_, rfl⟩
      have o5 : ∀ g c0, ¬ (g = 19 ∧ (c0 = 0 ∨ c0 = 2 ∨ c0 = 11)) → W5 g c0 = W' g c0 := fun g c0 hg => by
        rw [hW5, gUp_n _ _ (by omega), hW4, gUp_n _ _ (by omega), hW3]
        unfold gSt
        rw [gUp_n _ _ (by omega), hW2]
        unfold rW
        rw [gUp_n _ _ (by omega)]
        unfold gSt
        rw [gUp_n _ _ (by omega)]
      have o0 : ∀ j, j ≠ 11 → W5 19 0 j = gSt W' 19 0 0 0 19 0 j := fun j hj => by
        rw [hW5, gUp_n _ _ (by omega), hW4, gUp_n _ _ (by omega), hW3]
        unfold gSt
        rw [gUp_s, pk_un hj, hW2]
        unfold rW
        rw [gUp_n _ _ (by omega)]
        rfl
      have o11 : W5 19 0 11 = nI 0 := by
        rw [hW5, gUp_n _ _ (by omega), hW4, gUp_n _ _ (by omega), hW3]
        unfold gSt
        rw [gUp_s, pk_us]
      have o2 : W5 19 2 = fun j => nI (rCp r' r 0 0 197 j) := by
        rw [hW5, gUp_n _ _ (by omega), hW4, gUp_n _ _ (by omega), hW3, st_n _ _ _ (by omega), hW2, rW_r]
      have ou : ∀ s, s < 2 → W5 19 11 s = nI (fU (fU u 0 0) 1 0 s) := fun s hs => by
        rcases (show s = 0 ∨ s = 1 by omega) with rfl | rfl
        · rw [hW5, gUp_s, pk_un (by omega), hW4, gUp_s, pk_us, fU_n _ _ (by omega), fU_s]
        · rw [hW5, gUp_s, pk_us, fU_s]
      have u0 : ∀ s, s < 2 → fU (fU u 0 0) 1 0 s = 0 := fun s hs => by
        rcases (show s = 0 ∨ s = 1 by omega) with rfl | rfl
        · rw [fU_n _ _ (by omega), fU_s]
        · rw [fU_s]
      have o15 : W5 19 0 15 = nI o' := by
        rw [o0 15 (by omega)]
        unfold gSt
        rw [gUp_s, pk_un (by omega)]
        exact g2
      have o14 : ∀ j, j ≠ 0 → gSt W' 19 0 0 0 19 0 j = W' 19 0 j := fun j hj => by
        unfold gSt
        rw [gUp_s, pk_un hj]
      refine ⟨W5, rCp r' r 0 0 197, d, q, ?_, ?_, fun g hg => ?_, ⟨o2, (o5 19 9 (by omega)).trans ((k2 19 9 (by omega)).trans m.2.1), (o5 19 10 (by omega)).trans ((k2 19 10 (by omega)).trans m.2.2.1), by rw [fU_s]; exact hR, fun i hi => absurd hi (by omega), fun s hs hu => by rw [u0 s hs] at hu; omega, o11, ou, ?_, fun j hj => ?_⟩⟩
      · unfold f_Mo_load
        rw [k1, pB, if_pos rfl]
        unfold f_Mo_load_b18 gSO gBl
        rw [q_ref0, pB, if_pos rfl]
        dsimp only
        rw [e1, pB, pB, if_pos (Or.inl rfl), pB, show (0 : Int32) = nI 0 from rfl, ← hW3, show gWr W3 19 11 2 (nI 0) (nI 0) = some (gUp W3 19 11 (upd (W3 19 11) 0 (nI 0))) from pWr (n := 2) (k := 0) _ _ _ _ (by omega) (by omega), pB, ← hW4, pB, show gWr W4 19 11 2 1 (nI 0) = some (gUp W4 19 11 (upd (W4 19 11) 1 (nI 0))) from pWr (n := 2) (k := 1) _ _ _ _ (by omega) (by omega), pB, ← hW5, o15]
      · rw [o0 0 (by omega), st_00]
      · funext c0
        rw [o5 g c0 (by omega), k2 g c0 (by omega)]
      · rw [o0 2 (by omega), o14 2 (by omega), k3 2 (by omega) (by omega)]
        exact m.2.2.2.2.2.2.2.2.1
      · rw [o5 19 1 (by omega), k2 19 1 (by omega)]
        exact m.2.2.2.2.2.2.2.2.2 j hj
  · rw [if_neg z] at fe
    have hne : tW t l ≤ 120 ∨ tW t l > 1000 ∨ tW t l ≤ 999 := by omega
    have bnd : ∀ f i, i ≤ l → tE t l f i ≤ 1000 := by
      intro f
      induction f with
      | zero => intro i _; exact Nat.le_refl _
      | succ f ih =>
        intro i hi
        unfold tE
        by_cases y : l ≤ i
        · rw [if_pos y]; omega
        · rw [if_neg y]
          by_cases y2 : cE t l i = 1000
          · rw [if_pos y2]
            refine ih _ ?_
            rcases cE_ok y2 (by omega) hl with hd | ⟨hd, h2l, -⟩ <;> omega
          · rw [if_neg y2]
            unfold cE
            (repeat' split) <;> omega
    have hb : tW t l ≤ 1000 := by
      unfold tW
      by_cases y : l = 0
      · rw [if_pos y]; omega
      · rw [if_neg y]
        split
        · exact bnd l 1 (by omega)
        · omega
    have nm : ¬ nI (tW t l) = -1 := z_ne (y := 4294967295) (by omega) (by omega) (by omega)
    obtain ⟨W', k1, k2, k3, -⟩ := q_readText (hM.tx hV) hJ.1 hJ.2
    rw [if_neg z] at k1
    refine ⟨1, M, 0, gSt W' 19 0 0 1, ?_, ?_, st_00 W' 1, fun y => absurd y (by decide), hI0.same ((read_is k2 k3).tr (IS_st W' (k := 0) 1 (by omega)))⟩
    · unfold f_Law_load f_DS_load
      rw [fe, pB, if_neg nm]
      rfl
    · unfold f_Mo_load
      rw [k1, pB, if_neg nm]
      unfold f_Mo_load_b18
      rw [q_ref1 _ (by decide), pB, if_neg (show ¬ (1 : Int32) = 0 by decide)]
theorem s_c3 {Ls : Nat} {xs : Nat → Int32} (x : Int32) (hk : k ≤ 600) (hI : Inv k M) : ∃ M', f_law_c3 Ls xs M x = some M' ∧ Inv (k + 1) M' := by
  obtain ⟨cd, M1, b, M2, h1, h2, h3, h4, h5⟩ := load_call hk hI
  refine ⟨M2, ?_, h5⟩
  unfold f_law_c3
  rw [h1, pB, h2, pB]
  exact c_tail (q := (b, M2)) h3 h4
end L2
