-- ===== PURE: the slots, the text's signs =====
section SL
variable {M M' W : gMem} {E : Nat → Nat → Nat → Nat} {n c k n' c' : Nat} {u : Nat → Nat} {l : Nat} {t r d q r' d' : Nat → Nat} {a : Nat → Nat → Nat} {e : Nat}
theorem IC.used (h : IC M E n c u l t) {s : Nat} (x : Nat) : IC (gUp M 18 5 (upd (M 18 5) s (nI x))) E n c (fU u s x) l t := by
  refine ⟨fun e he => (funext fun c => gUp_n _ _ (by omega)).trans (h.1 e he), ?_, ?_, fun i hi => ?_, ?_, fun i hi => ?_⟩
  · rw [gUp_n _ _ (by omega)]
    exact h.2.1
  · rw [gUp_n _ _ (by omega)]
    exact h.2.2.1
  · rw [gUp_s]
    by_cases z : i = s
    · rw [z, pk_us, fU_s]
    · rw [pk_un z, fU_n _ _ z]
      exact h.2.2.2.1 i hi
  · rw [gUp_n _ _ (by omega)]
    exact h.2.2.2.2.1
  · rw [gUp_n _ _ (by omega)]
    exact h.2.2.2.2.2 i hi
theorem IC.text (h : IC M E n c u l t) {l' : Nat} {t' : Nat → Nat} {f : Nat → Int32} (hf : ∀ j, j < l' → f j = nI (t' j)) : IC (gSt (gUp M 18 7 f) 18 6 1 (nI l')) E n c u l' t' := by
  have o : ∀ g c0, ¬ (g = 18 ∧ (c0 = 6 ∨ c0 = 7)) → gSt (gUp M 18 7 f) 18 6 1 (nI l') g c0 = M g c0 := fun g c0 z => by
    unfold gSt
    rw [gUp_n _ _ (by omega), gUp_n _ _ (by omega)]
  refine ⟨fun e he => (funext fun c => o e c (by omega)).trans (h.1 e he), by rw [o 18 1 (by omega)]; exact h.2.1, by rw [o 18 1 (by omega)]; exact h.2.2.1, fun i hi => by rw [o 18 5 (by omega)]; exact h.2.2.2.1 i hi, ?_, fun i hi => ?_⟩
  · unfold gSt
    rw [gUp_s, pk_us]
  · unfold gSt
    rw [gUp_n _ _ (by omega), gUp_s]
    exact hf i hi
theorem save_call (hk : k ≤ 600) (hI : Inv k M) (v : Int32) : CALL k M (fun M => f_Law_save M v) (fun M => f_Mo_save M v) := by
  have hI0 := hI
  obtain ⟨E, n, c, u, l, t, r, d, q, hC, hM, hV⟩ := hI
  obtain ⟨hn, hc, hl, ht, hu, hJ, h0, hr, hs⟩ := hV
  rcases i_cases v 2 (by omega) with h | ⟨s, hs2, rfl⟩
  · refine throw_call (cd := 1) hI0 (by decide) ?_ ?_
    · show f_Law_save M v = _
      unfold f_Law_save f_DS_save
      rw [show (2 : Int32) = nI 2 from rfl, k_place0 (by omega) h]
      rfl
    · show f_Mo_save M v = _
      unfold f_Mo_save
      rw [show (1 : Int64) = lN 1 from rfl, q_in0 (by omega) h, pB, if_pos rfl]
      unfold f_Mo_save_b16
      rw [q_ref1 _ (by decide), pB, if_neg (show ¬ (1 : Int32) = 0 by decide)]
  · obtain ⟨a, ha⟩ : ∃ a, a = aCp (E (16 + s)) (E 0) := ⟨_, rfl⟩
    have hG : aG k a := by rw [ha]; exact ⟨aV_cp (hJ _ (by omega)) h0.1, by rw [aCp_4]; exact h0.2⟩
    have hc1 := (hC.ev (e := 16 + s) (a := a) (by omega)).used (s := s) 1
    have hV2 : IV k (fU E (16 + s) a) n c (fU u s 1) l t := by
      refine ⟨hn, hc, hl, ht, fun i hi => ?_, fun e he => ?_, by rw [fU_n _ _ (by omega)]; exact h0, fun i hi => ?_, fun i hi h3 => ?_⟩
      · by_cases z : i = s
        · rw [z, fU_s]; omega
        · rw [fU_n _ _ z]; exact hu i hi
      · by_cases z : e = 16 + s
        · rw [z, fU_s]; exact hG.1.J
        · rw [fU_n _ _ z]; exact hJ e he
      · have := rg_lt n c i
        rw [fU_n _ _ (by omega)]
        exact hr i hi
      · by_cases z : i = s
        · rw [z, fU_s]; exact hG
        · rw [fU_n _ _ (by omega)]
          rw [fU_n _ _ z] at h3
          exact hs i hi h3
    have e4 : a 0 4 = E 0 0 4 := by rw [ha, aCp_4]
    refine mu_call (b := nI (E 0 0 4)) (Mc := gUp (aW M (16 + s) a) 18 5 (upd (aW M (16 + s) a 18 5) s (nI 1))) ?_ hc1 ?_ hV2.up (fun W hW => ?_)
    · show f_Law_save M (nI s) = _
      unfold f_Law_save f_DS_save f_Slots_store
      have e1 := p_copyFrom (M := M) (e := 16 + s) (e0 := 0) (a := E (16 + s)) (by omega) (hC.1 0 (by omega))
      rw [aW_self (hC.1 (16 + s) (by omega)), ← ha] at e1
      rw [show (2 : Int32) = nI 2 from rfl, k_place1 (by omega) hs2, if_neg (nI_pos (by omega)), z_ofn, if_neg (nI_ge hs2 (by omega)), if_neg (nI_ge hs2 (by omega))]
      unfold gIn gBl
      rw [pN (by omega), if_pos (by omega), pNc (by omega), pB, pB, e1, pB, if_pos (Or.inr rfl), pB, show (1 : Int32) = nI 1 from rfl, pWr _ _ _ _ hs2 (by omega), pB]
      have e0 : gUp (aW M (16 + s) a) 18 5 (upd (aW M (16 + s) a 18 5) s (nI 1)) 0 0 4 = nI (E 0 0 4) := by
        rw [gUp_n _ _ (by omega), aW_n2 _ _ _ (by omega), hC.1 0 (by omega)]
        rfl
      show ((some (gUp (aW M (16 + s) a) 18 5 (upd (aW M (16 + s) a 18 5) s (nI 1)))).bind fun q2 => some (Sum.inr ((q2 0 0 4), q2))).bind _ = _
      rw [pB, e0]
      rfl
    · funext c0
      rw [gUp_n _ _ (by omega), aW_n2 _ _ _ (by omega)]
    · have m := (hM.c19 hW).same (IS_st W (k := 0) 0 (by omega))
      obtain ⟨W1, hW1⟩ : ∃ W1, W1 = rW (gSt W 19 0 0 0) 10 (rCp r q 0 (197 * s) 197) := ⟨_, rfl⟩
      have o1 : ∀ g c0, ¬ (g = 19 ∧ c0 = 10) → W1 g c0 = gSt W 19 0 0 0 g c0 := fun g c0 z => by
        rw [hW1]
        unfold rW
        rw [gUp_n _ _ z]
      have e1 := q_copy (M := gSt W 19 0 0 0) (c0 := 2) (n0 := 197) (c1 := 10) (n1 := 394) (i := 0) (j := 197 * s) (f := r) (r := q) (by omega) m.1 (by omega) (by omega) (by omega) (by omega)
      rw [rW_self m.2.2.1, ← hW1] at e1
      have e1 : f_Mo_copyState 19 2 197 19 10 394 (gSt W 19 0 0 0) 0 (nI (197 * s)) = some W1 := e1
      obtain ⟨W2, hW2⟩ : ∃ W2, W2 = gUp W1 19 11 (upd (W1 19 11) s (nI 1)) := ⟨_, rfl⟩
      have o2 : ∀ g c0, ¬ (g = 19 ∧ (c0 = 10 ∨ c0 = 11)) → W2 g c0 = gSt W 19 0 0 0 g c0 := fun g c0 z => by
        rw [hW2, gUp_n _ _ (by omega), o1 g c0 (by omega)]
      have row : gRd 197 (W2 19 2) 0 = some (nI (E 0 0 4)) := by
        have : W2 19 2 = fun j => nI (r j) := (o2 19 2 (by omega)).trans m.1
        rw [show gRd 197 (W2 19 2) 0 = some (nI (r 0)) from row_rd this (show 0 < 197 by omega), m.2.2.2.1.1.1]
      refine ⟨W2, r, d, rCp r q 0 (197 * s) 197, ?_, ?_, fun g hg => ?_, ?_⟩
      · show f_Mo_save W (nI s) = _
        unfold f_Mo_save
        rw [show (1 : Int64) = lN 1 from rfl, q_in1 (by omega) (by omega), pB, if_neg (by decide)]
        unfold f_Mo_save_b16 gBl
        rw [q_ref0, pB, if_pos rfl]
        dsimp only
        rw [show (197 : Int32) = nI 197 from rfl, pk_mul, e1, pB, if_pos (Or.inr rfl), pB, show (1 : Int32) = nI 1 from rfl, pWr _ _ _ _ hs2 (by omega), pB, ← hW2, row, pB]
      · rw [o2 19 0 (by omega), st_00]
      · funext c0
        rw [o2 g c0 (by omega)]
        exact gUp_n _ _ (by omega)
      · refine ⟨(o2 19 2 (by omega)).trans m.1, (o2 19 9 (by omega)).trans m.2.1, ?_, by rw [fU_n _ _ (by omega)]; exact m.2.2.2.1, fun i hi => ?_, fun i hi h3 => ?_, (congrFun (o2 19 0 (by omega)) 11).trans m.2.2.2.2.2.2.1, fun i hi => ?_, (congrFun (o2 19 0 (by omega)) 2).trans m.2.2.2.2.2.2.2.2.1, fun j hj => (congrFun (o2 19 1 (by omega)) j).trans (m.2.2.2.2.2.2.2.2.2 j hj)⟩
        · rw [hW2, gUp_n _ _ (by omega), hW1, rW_r]
        · have := rg_lt n c i
          rw [fU_n _ _ (by omega)]
          exact m.2.2.2.2.1 i hi
        · by_cases z : i = s
          · rw [z, fU_s, ha]
            refine RM_cong (r := r) (by rw [(aCp_eq _ _).2.1]; exact h0.1.O.2.1) (fun j hj => ?_) (RM_cp _ h0.1 m.2.2.2.1)
            unfold rCp
            rw [if_pos (by omega)]
            refine congrArg r ?_
            omega
          · rw [fU_n _ _ (by omega)]
            rw [fU_n _ _ z] at h3
            refine RM_cong (hs i hi h3).1.O.2.1 (fun j hj => ?_) (m.2.2.2.2.2.1 i hi h3)
            unfold rCp
            rw [if_neg (by omega)]
        · rw [hW2, gUp_s]
          by_cases z : i = s
          · rw [z, pk_us, fU_s]
          · rw [pk_un z, fU_n _ _ z, o1 19 11 (by omega)]
            exact m.2.2.2.2.2.2.2.1 i hi
theorem restore_call (hk : k ≤ 600) (hI : Inv k M) (v : Int32) : CALL k M (fun M => f_Law_restore M v) (fun M => f_Mo_restore M v) := by
  have hI0 := hI
  obtain ⟨E, n, c, u, l, t, r, d, q, hC, hM, hV⟩ := hI
  obtain ⟨hn, hc, hl, ht, hu, hJ, h0, hr, hs⟩ := hV
  rcases i_cases v 2 (by omega) with h | ⟨s, hs2, rfl⟩
  · refine throw_call (cd := 1) hI0 (by decide) ?_ ?_
    · show f_Law_restore M v = _
      unfold f_Law_restore f_DS_restore
      rw [show (2 : Int32) = nI 2 from rfl, k_place0 (by omega) h]
      rfl
    · show f_Mo_restore M v = _
      unfold f_Mo_restore
      rw [show (1 : Int64) = lN 1 from rfl, q_in0 (by omega) h, pB, if_pos rfl]
      unfold f_Mo_restore_b29
      rw [q_ref1 _ (by decide), pB, if_neg (show ¬ (1 : Int32) = 0 by decide)]
  · have cl : f_DS_restore M (nI s) = (f_Slots_isUsed M (nI s)).bind fun q2 => if q2 = 0 then some (.inl 2) else (f_Slots_fetch 0 M (nI s)).bind fun q3 => (f_Mem_forget q3).bind fun q4 => some (.inr ((q4 0 0 4), q4)) := by
      unfold f_DS_restore
      rw [show (2 : Int32) = nI 2 from rfl, k_place1 (by omega) hs2]
      rfl
    have us : f_Slots_isUsed M (nI s) = some (nI (u s)) := by
      unfold f_Slots_isUsed
      rw [if_neg (nI_pos (by omega)), z_ofn, if_neg (nI_ge hs2 (by omega)), pRd _ hs2 (by omega), pB, hC.2.2.2.1 s hs2]
      have := hu s hs2
      rcases (show u s = 0 ∨ u s = 1 by omega) with z | z <;> rw [z] <;> rfl
    have mu : ∀ W : gMem, W 19 = M 19 → f_Mo_restore W (nI s) = if u s = 0 then f_Mo_restore_b29 W (nI s) 2 else f_Mo_restore_b29 W (nI s) 0 := fun W hW => by
      unfold f_Mo_restore
      rw [show (1 : Int64) = lN 1 from rfl, q_in1 (by omega) (by omega), pB, if_neg (by decide), pRd _ hs2 (by omega), pB, (hM.c19 hW).2.2.2.2.2.2.2.1 s hs2]
      have := hu s hs2
      rcases (show u s = 0 ∨ u s = 1 by omega) with z | z <;> rw [z] <;> rfl
    have hus := hu s hs2
    by_cases z : u s = 0
    · refine throw_call (cd := 2) hI0 (by decide) ?_ ?_
      · show f_Law_restore M (nI s) = _
        unfold f_Law_restore
        rw [cl, us, pB, z, if_pos (show nI 0 = 0 from rfl)]
        rfl
      · show f_Mo_restore M (nI s) = _
        rw [mu M rfl, if_pos z]
        unfold f_Mo_restore_b29
        rw [q_ref1 _ (by decide), pB, if_neg (show ¬ (1 : Int32) = 0 by decide)]
    · have h1 : u s = 1 := by omega
      have hSl := hs s hs2 h1
      obtain ⟨a, ha⟩ : ∃ a, a = aCp (E 0) (E (16 + s)) := ⟨_, rfl⟩
      have hG : aG (k + 1) a := by rw [ha]; exact ⟨aV_cp (hJ 0 (by omega)) hSl.1, by rw [aCp_4]; have := hSl.2; omega⟩
      have e4 : a 0 4 = E (16 + s) 0 4 := by rw [ha, aCp_4]
      have hc1 := (hC.ev (e := 0) (a := a) (by omega)).st (n' := n) (c' := 0) 2 (nI 0) (fun z => absurd z (by omega)) (fun _ => rfl) (fun _ => rfl) (fun z => absurd rfl z)
      have hV1 : IV k E n 0 u l t := ⟨hn, by omega, hl, ht, hu, hJ, h0, fun i hi => absurd hi (by omega), hs⟩
      refine mu_call (b := nI (a 0 4)) (Mc := gSt (aW M 0 a) 18 1 2 (nI 0)) ?_ hc1 ?_ (hV1.now hG) (fun W hW => ?_)
      · show f_Law_restore M (nI s) = _
        unfold f_Law_restore
        rw [cl, us, pB, h1, if_neg (show ¬ nI 1 = 0 by decide)]
        unfold f_Slots_fetch f_Mem_forget gSO
        have e1 := p_copyFrom (M := M) (e := 0) (e0 := 16 + s) (a := E 0) (by omega) (hC.1 (16 + s) (by omega))
        rw [aW_self (hC.1 0 (by omega)), ← ha] at e1
        rw [if_neg (nI_pos (by omega)), z_ofn, if_neg (nI_ge hs2 (by omega))]
        unfold gIn
        rw [pN (by omega), if_pos (by omega), pNc (by omega), pB, pB, e1, pB, pB, pB, pB]
        have e0 : gSt (aW M 0 a) 18 1 2 0 0 0 4 = nI (a 0 4) := by
          unfold gSt
          rw [gUp_n _ _ (by omega), aW_r]
        rw [e0]
        rfl
      · funext c0
        unfold gSt
        rw [gUp_n _ _ (by omega), aW_n2 _ _ _ (by omega)]
      · have m := (hM.c19 hW).same (IS_st W (k := 0) 0 (by omega))
        have e1 := q_copy (M := gSt W 19 0 0 0) (c0 := 10) (n0 := 394) (c1 := 2) (n1 := 197) (i := 197 * s) (j := 0) (f := q) (r := r) (by omega) m.2.2.1 (by omega) (by omega) (by omega) (by omega)
        rw [rW_self m.1] at e1
        have e1 : f_Mo_copyState 19 10 394 19 2 197 (gSt W 19 0 0 0) (nI (197 * s)) 0 = some (rW (gSt W 19 0 0 0) 2 (rCp q r (197 * s) 0 197)) := e1
        have hR : RM a (rCp q r (197 * s) 0 197) := by
          rw [ha]
          refine RM_cong (by rw [(aCp_eq _ _).2.1]; exact hSl.1.O.2.1) (fun j hj => ?_) (RM_cp _ hSl.1 (m.2.2.2.2.2.1 s hs2 h1))
          unfold rCp
          rw [if_pos (by omega)]
          rfl
        have m2 := m.now hR
        obtain ⟨W1, hW1⟩ : ∃ W1, W1 = gSt (rW (gSt W 19 0 0 0) 2 (rCp q r (197 * s) 0 197)) 19 0 11 (nI 0) := ⟨_, rfl⟩
        have o9 : ∀ c0, c0 ≠ 0 → W1 19 c0 = rW (gSt W 19 0 0 0) 2 (rCp q r (197 * s) 0 197) 19 c0 := fun c0 h => by rw [hW1]; exact st_n _ _ _ (by omega)
        have o0 : ∀ i, i ≠ 11 → W1 19 0 i = rW (gSt W 19 0 0 0) 2 (rCp q r (197 * s) 0 197) 19 0 i := fun i h => by
          rw [hW1]
          unfold gSt
          rw [gUp_s, pk_un h]
        have o11 : W1 19 0 11 = nI 0 := by
          rw [hW1]
          unfold gSt
          rw [gUp_s, pk_us]
        have row : gRd 197 (W1 19 2) 0 = some (nI (a 0 4)) := by
          have : W1 19 2 = fun j => nI (rCp q r (197 * s) 0 197 j) := (o9 2 (by omega)).trans m2.1
          rw [show gRd 197 (W1 19 2) 0 = some (nI (rCp q r (197 * s) 0 197 0)) from row_rd this (show 0 < 197 by omega), hR.1.1]
        refine ⟨W1, _, d, q, ?_, ?_, fun g hg => ?_, ⟨(o9 2 (by omega)).trans m2.1, (o9 9 (by omega)).trans m2.2.1, (o9 10 (by omega)).trans m2.2.2.1, m2.2.2.2.1, fun i hi => absurd hi (by omega), m2.2.2.2.2.2.1, o11, fun s h2 => (congrFun (o9 11 (by omega)) s).trans (m2.2.2.2.2.2.2.2.1 s h2), (o0 2 (by omega)).trans m2.2.2.2.2.2.2.2.2.1, fun j hj => (congrFun (o9 1 (by omega)) j).trans (m2.2.2.2.2.2.2.2.2.2 j hj)⟩⟩
        · show f_Mo_restore W (nI s) = _
          rw [mu W hW, if_neg z]
          unfold f_Mo_restore_b29 gSO
          rw [q_ref0, pB, if_pos rfl]
          dsimp only
          rw [show (197 : Int32) = nI 197 from rfl, pk_mul, e1, pB, pB]
          show ((gRd 197 (gSt (rW (gSt W 19 0 0 0) 2 (rCp q r (197 * s) 0 197)) 19 0 11 (nI 0) 19 2) 0).bind fun v6 => some (v6, gSt (rW (gSt W 19 0 0 0) 2 (rCp q r (197 * s) 0 197)) 19 0 11 (nI 0))) = _
          rw [← hW1, row, pB]
        · rw [o0 0 (by omega)]
          unfold rW
          rw [gUp_n _ _ (by omega), st_00]
        · funext c0
          rw [hW1]
          unfold gSt rW
          rw [gUp_n _ _ (by omega), gUp_n _ _ (by omega), gUp_n _ _ (by omega)]
end SL
