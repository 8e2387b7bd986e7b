-- ===== PURE: scripts, simulations, by both =====
section SC
variable {M M' W : gMem} {E : Nat → Nat → Nat → Nat} {n c k B s : Nat} {u : Nat → Nat} {l : Nat} {t r d q r' d' : Nat → Nat} {a : Nat → Nat → Nat}
theorem L_cases (x : Int64) : x < 0 ∨ ∃ s, s < 2 ^ 63 ∧ x = lN s := by
  by_cases h : x < 0
  · exact Or.inl h
  · right
    rw [Int64.lt_iff_toInt_lt] at h
    have h0 : (0 : Int64).toInt = 0 := rfl
    have h1 := Int64.toInt_lt x
    refine ⟨x.toInt.toNat, by omega, ?_⟩
    rw [← Int64.toInt_inj]
    unfold lN
    rw [Int64.toInt_ofNat_of_lt (by omega)]
    omega
theorem L_toInt (h : s < 2 ^ 63) : (lN s).toInt = (s : Int) := Int64.toInt_ofNat_of_lt h
theorem p_without (hs : s < 2 ^ 63) (hn : n < 1000) : f_DS_withoutGroups (lN s) (nI n) = some (lN (s / 10000 ^ n)) := by
  unfold f_DS_withoutGroups f_DS_withoutGroups_l5
  refine pFor0 (fun i => (lN (s / 10000 ^ i), nI i)) n ?_ ?_ ?_
  · show (lN s, 0) = (lN (s / 10000 ^ 0), nI 0)
    rw [show s / 10000 ^ 0 = s by omega]
    rfl
  · intro i hi
    show f_DS_withoutGroups_s5 (nI n) (lN (s / 10000 ^ i)) (nI i) = _
    unfold f_DS_withoutGroups_s5
    have : s / 10000 ^ i ≤ s := Nat.div_le_self _ _
    rw [if_neg (nI_ge hi (by omega)), show (10000 : Int64) = lN 10000 from rfl, pk_lDiv (by omega) (by omega) (by omega), nI_1, Nat.div_div_eq_div_mul, Nat.pow_succ]
  · exact pLx (by
      show f_DS_withoutGroups_s5 (nI n) (lN (s / 10000 ^ n)) (nI n) = _
      unfold f_DS_withoutGroups_s5
      rw [if_pos (nI_le (Nat.le_refl _) (by omega))])
theorem pw_le {i j : Nat} (h : i ≤ j) : 10000 ^ i ≤ 10000 ^ j := Nat.pow_le_pow_right (by omega) h
theorem IV.copy (h : IV k E n c u l t) (ha : aJ a) : IV k (fU E 1 a) n c u l t := by
  obtain ⟨hn, hc, hl, ht, hu, hJ, h0, hr, hs⟩ := h
  refine ⟨hn, hc, hl, ht, hu, fun e he => ?_, by rw [fU_n _ _ (by omega)]; exact h0, fun i hi => ?_, fun s h2 h3 => ?_⟩
  · by_cases z : e = 1
    · rw [z, fU_s]; exact ha
    · rw [fU_n _ _ z]; exact hJ e he
  · have := rg_lt n c i
    rw [fU_n _ _ (by omega)]
    exact hr i hi
  · rw [fU_n _ _ (by omega)]
    exact hs s h2 h3
end SC
