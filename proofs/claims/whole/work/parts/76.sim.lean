-- ===== PURE: simulations, by both; two cases of the law =====
section SI
variable {M M' W : gMem} {E : Nat → Nat → Nat → Nat} {n c k B s m : Nat} {u : Nat → Nat} {l : Nat} {t r d q r' d' ρ : Nat → Nat} {a : Nat → Nat → Nat}
theorem I_assoc (x y z : Int32) : x + (y - z) = x + y - z := by rw [Int32.sub_eq_add_neg, Int32.sub_eq_add_neg, Int32.add_assoc]
def sV (a : Nat → Nat → Nat) (x y z : Int32) : Int32 := (((10000 * (nI (a 0 11) - x)) + (100 * (nI (a 0 12) - y))) + (nI (a 0 4) - z))
theorem sim_loop (hm : m ≤ 1000) (hB : B < 100000) : ∀ mm i a r W x, i + mm = m → PR (B + i) a r → W 19 2 = (fun j => nI (ρ j)) → ∃ a' r' W1, (∀ M, f_DS_simulate_l39 (nI m) (x, nI i, aW M 1 a) = some (.inr (sV a' (M 0 0 11) (M 0 0 12) (M 0 0 4), aW M 1 a'))) ∧ f_Mo_simulate_l45 (nI m) (x, nI i, rW W 3 r) = some (sV a' (nI (ρ 9)) (nI (ρ 10)) (nI (ρ 0)), rW W1 3 r') ∧ aJ a' ∧ W8 W W1 := by
  intro mm
  induction mm with
  | zero =>
    intro i a r W x him h hW
    refine ⟨a, r, W, fun M => ?_, ?_, h.2.1.J, W8.rf W⟩
    · refine pLx ?_
      show f_DS_simulate_s39 (aW M 1 a) (nI m) x (nI i) = _
      unfold f_DS_simulate_s39
      rw [if_pos (nI_le (by omega) (by omega)), aW_r, aW_r, aW_r, aW_n M a (by omega)]
      rfl
    · refine pLx ?_
      show f_Mo_simulate_s45 (rW W 3 r) (nI m) x (nI i) = _
      have hW2 : rW W 3 r 19 2 = fun j => nI (ρ j) := by
        unfold rW
        rw [gUp_n _ _ (by omega)]
        exact hW
      have rd : ∀ j, j < 197 → gRd 197 (rW W 3 r 19 2) (nI j) = some (nI (ρ j)) := fun j hj => row_rd hW2 hj
      unfold f_Mo_simulate_s45
      rw [if_pos (nI_le (by omega) (by omega)), show gRd 197 (rW W 3 r 19 3) 9 = some (nI (r 9)) from q_rd (show 9 < 197 by omega) (by omega), pB, show gRd 197 (rW W 3 r 19 2) 9 = some (nI (ρ 9)) from rd 9 (by omega), pB, show gRd 197 (rW W 3 r 19 3) 10 = some (nI (r 10)) from q_rd (show 10 < 197 by omega) (by omega), pB, show gRd 197 (rW W 3 r 19 2) 10 = some (nI (ρ 10)) from rd 10 (by omega), pB, show gRd 197 (rW W 3 r 19 3) 0 = some (nI (r 0)) from q_rd (show 0 < 197 by omega) (by omega), pB, show gRd 197 (rW W 3 r 19 2) 0 = some (nI (ρ 0)) from rd 0 (by omega), pB]
      have e9 : r 9 = a 0 11 := h.1.1.2.2.2.2.2.2.2.2.2.1
      have e10 : r 10 = a 0 12 := h.1.1.2.2.2.2.2.2.2.2.2.2.1
      rw [e9, e10, h.1.1.1]
      unfold sV
      rw [I_assoc]
  | succ mm ih =>
    intro i a r W x him h hW
    obtain ⟨a1, r1, W1, t1, t2, t3, t4⟩ := turn_both (W := W) (c := 3) rfl h (by omega) (up_lt (fol x))
    have hW1 : W1 19 2 = fun j => nI (ρ j) := (t4 19 2 (by omega)).trans hW
    obtain ⟨a', r', W2, k1, k2, k3, k4⟩ := ih (i + 1) a1 r1 W1 (fol x) (by omega) t3 hW1
    refine ⟨a', r', W2, fun M => ?_, ?_, k3, t4.tr k4⟩
    · have s1 : f_DS_simulate_s39 (aW M 1 a) (nI m) x (nI i) = some (.inl (fol x, nI (i + 1), aW M 1 a1)) := by
        unfold f_DS_simulate_s39 f_DS_following f_DS_upperBits
        rw [if_neg (nI_ge (by omega) (by omega)), pB]
        show ((some (Int64.toInt32 (gUsh (fol x) 33))).bind fun q3 => (f_Scr_doTurn 1 (aW M 1 a) q3).bind fun q4 => some (Sum.inl (fol x, (nI i + 1), q4))) = _
        rw [pB, up_eq, t1, pB, nI_1]
      exact (pLp (step := fun s0 => f_DS_simulate_s39 s0.2.2 (nI m) s0.1 s0.2.1) (s := (x, nI i, aW M 1 a)) s1).trans (k1 M)
    · have s1 : f_Mo_simulate_s45 (rW W 3 r) (nI m) x (nI i) = some (.inl (fol x, nI (i + 1), rW W1 3 r1)) := by
        unfold f_Mo_simulate_s45
        rw [if_neg (nI_ge (by omega) (by omega))]
        show ((f_Mo_turnOf 19 3 197 (rW W 3 r) (Int64.toInt32 (gUsh (fol x) 33))).bind fun q10 => some (Sum.inl (fol x, (nI i + 1), q10))) = _
        rw [up_eq, t2, pB, nI_1]
      exact (pLp (step := fun s0 => f_Mo_simulate_s45 s0.2.2 (nI m) s0.1 s0.2.1) (s := (x, nI i, rW W 3 r)) s1).trans k2
theorem simulate_call (hk : k ≤ 600) (hI : Inv k M) (x : Int64) (v : Int32) : CALL k M (fun M => f_Law_simulate M x v) (fun M => f_Mo_simulate M x v) := by
  have i1 : (1 : Int32).toInt = 1 := rfl
  have i2 : (200 : Int32).toInt = 200 := rfl
  by_cases hv : v < 1 ∨ ¬ v ≤ 200
  · refine throw_call (cd := 1) hI (by decide) ?_ ?_
    · show f_Law_simulate M x v = _
      unfold f_Law_simulate f_DS_simulate
      by_cases z : v < 1
      · rw [if_pos z]; rfl
      · rw [if_neg z, if_neg (hv.resolve_left z)]; rfl
    · show f_Mo_simulate M x v = _
      unfold f_Mo_simulate
      have e : f_Mo_in (Int32.toInt64 v) 1 200 = some 0 := by
        have g := q_inl v (m := 1) (n := 200) (by omega) (by omega)
        rw [if_neg] at g
        · exact g
        · rintro ⟨g1, g2⟩
          rcases hv with z | z
          · exact g1 z
          · exact z g2
      rw [e, pB, if_pos rfl]
      unfold f_Mo_simulate_b18
      rw [q_ref1 _ (by decide), pB, if_neg (show ¬ (1 : Int32) = 0 by decide)]
  · obtain ⟨m, hm1, hm2, rfl⟩ : ∃ m, 1 ≤ m ∧ m ≤ 200 ∧ v = nI m := by
      have z1 : ¬ v < 1 := fun z => hv (Or.inl z)
      have z2 : v ≤ 200 := Decidable.of_not_not (fun z => hv (Or.inr z))
      rw [fa_lt] at z1
      rw [fa_le] at z2
      refine ⟨v.toInt.toNat, by omega, by omega, ?_⟩
      rw [fa_eq, pN (by omega)]
      omega
    have c1 : ¬ nI m < 1 := nI_nlt (b := 1) hm1 (by omega)
    have c2 : nI m ≤ 200 := nI_le (b := 200) hm2 (by omega)
    have inn : f_Mo_in (Int32.toInt64 (nI m)) 1 200 = some 1 := by
      have g := q_inl (nI m) (m := 1) (n := 200) (by omega) (by omega)
      rw [if_pos ⟨c1, c2⟩] at g
      exact g
    refine trial_call (b := 0) hI (fun E n c u l t r d q hC hM hV => ?_)
    obtain ⟨a0, r0, k1, -, k3, -⟩ := copy_both hC hM hV
    obtain ⟨a', -, -, g1, -, g3, -⟩ := sim_loop (B := 40 + k) (m := m) (ρ := r) (by omega) (by omega) m 0 a0 r0 M x (by omega) k3 hM.1
    have hR := hM.2.2.2.1
    have z0 : M 0 = eN (E 0) := hC.1 0 (by omega)
    have e9 : r 9 = E 0 0 11 := hR.1.2.2.2.2.2.2.2.2.2.1
    have e10 : r 10 = E 0 0 12 := hR.1.2.2.2.2.2.2.2.2.2.2.1
    have e0 : r 0 = E 0 0 4 := hR.1.1
    refine ⟨sV a' (M 0 0 11) (M 0 0 12) (M 0 0 4), a', g3, ?_, fun W hW => ?_⟩
    · show f_Law_simulate M x (nI m) = _
      unfold f_Law_simulate f_DS_simulate
      rw [if_neg c1, if_pos c2, k1, pB, show f_DS_simulate_l39 (nI m) (x, 0, aW M 1 a0) = _ from g1 M]
      rfl
    · have mm := (hM.c19 hW).same (IS_st W (k := 0) 0 (by omega))
      obtain ⟨a2, r2, j1, j2, j3, -⟩ := copy_both hC mm hV
      have ea : aW M 1 a2 = aW M 1 a0 := Option.some.inj (j1.symm.trans k1)
      obtain ⟨a3, r3, W1, f1, f2, -, f4⟩ := sim_loop (B := 40 + k) (m := m) (ρ := r) (by omega) (by omega) m 0 a2 r2 (gSt W 19 0 0 0) x (by omega) j3 mm.1
      have eb : sV a3 (M 0 0 11) (M 0 0 12) (M 0 0 4) = sV a' (M 0 0 11) (M 0 0 12) (M 0 0 4) := by
        have h1 := f1 M
        have h2 := g1 M
        rw [← ea, h1] at h2
        exact (Prod.mk.inj (Sum.inr.inj (Option.some.inj h2))).1
      have ev : sV a3 (nI (r 9)) (nI (r 10)) (nI (r 0)) = sV a3 (M 0 0 11) (M 0 0 12) (M 0 0 4) := by
        rw [e9, e10, e0, z0]
        rfl
      refine ⟨W1, r3, ?_, f4⟩
      show f_Mo_simulate W x (nI m) = _
      unfold f_Mo_simulate
      rw [inn, pB, if_neg (show ¬ (1 : Int32) = 0 by decide)]
      unfold f_Mo_simulate_b18
      rw [q_ref0, pB, if_pos rfl, j2, pB, ← eb, ← ev]
      exact f2
theorem s_c18 {Ls : Nat} {xs : Nat → Int32} (hL : Ls ≤ 2560) (hk : 5 * k + 5 ≤ Ls) (hI : Inv k M) : ∃ M', f_law_c18 Ls xs M (nI (5 * k)) = some M' ∧ Inv (k + 1) M' := by
  obtain ⟨cd, M1, b, M2, h1, h2, h3, h4, h5⟩ := runScript_call (by omega) hI (xs (5 * k + 1)) ((gShl (Int32.toInt64 (xs (5 * k + 2))) 32) ||| ((Int32.toInt64 (xs (5 * k + 3))) &&& (4294967295)))
  dsimp only at h1 h2
  refine ⟨M2, ?_, h5⟩
  unfold f_law_c18
  rw [sc_1 hL hk, pB, sc_2 hL hk, pB, sc_3 hL hk, pB, h1, pB, pB, pB, pB, h2, pB]
  exact c_tail (q := (b, M2)) h3 h4
theorem s_c19 {Ls : Nat} {xs : Nat → Int32} (hL : Ls ≤ 2560) (hk : 5 * k + 5 ≤ Ls) (hI : Inv k M) : ∃ M', f_law_c19 Ls xs M (nI (5 * k)) = some M' ∧ Inv (k + 1) M' := by
  obtain ⟨cd, M1, b, M2, h1, h2, h3, h4, h5⟩ := simulate_call (by omega) hI ((gShl (Int32.toInt64 (xs (5 * k + 1))) 32) ||| ((Int32.toInt64 (xs (5 * k + 2))) &&& (4294967295))) (xs (5 * k + 3))
  dsimp only at h1 h2
  refine ⟨M2, ?_, h5⟩
  unfold f_law_c19
  rw [sc_1 hL hk, pB, sc_2 hL hk, pB, sc_3 hL hk, pB, h1, pB, pB, pB, pB, h2, pB]
  exact c_tail (q := (b, M2)) h3 h4
end SI
