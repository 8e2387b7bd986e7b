-- ===== PURE: the deal: both sides agree =====
theorem aOw_at (b : Nat → Nat → Nat) {f : Nat → Nat} : ∀ n i, i < n → (∀ u v, u < n → v < n → f u = f v → u = v) → aOw b f n 5 (f i) = i % 4
  | 0, i, hi, _ => absurd hi (Nat.not_lt_zero i)
  | n + 1, i, hi, h => by
    show aS (aOw b f n) 5 (f n) (n % 4) 5 (f i) = _
    rw [aS_at]
    by_cases q : f i = f n
    · rw [if_pos q, h i n hi (by omega) q]
    · rw [if_neg q]
      have : i ≠ n := fun z => q (by rw [z])
      exact aOw_at b n i (by omega) (fun u v hu hv => h u v (by omega) (by omega))
theorem rOw_at (r : Nat → Nat) {f : Nat → Nat} : ∀ n i, i < n → n ≤ 32 → (∀ t, t < 32 → f t < 32) → (∀ u v, u < n → v < n → f u = f v → u = v) → rOw r f n (21 + f i) = i % 4 ∧ rOw r f n (53 + f i) = i % 4
  | 0, i, hi, _, _, _ => absurd hi (Nat.not_lt_zero i)
  | n + 1, i, hi, hn, hf, h => by
    have h1 := hf n (by omega)
    have h2 := hf i (by omega)
    show rS (rS (rOw r f n) (21 + f n) (n % 4)) (53 + f n) (n % 4) (21 + f i) = _ ∧ rS (rS (rOw r f n) (21 + f n) (n % 4)) (53 + f n) (n % 4) (53 + f i) = _
    rw [rS_at, rS_at, rS_at, rS_at, if_neg (show ¬ 21 + f i = 53 + f n by omega), if_neg (show ¬ 53 + f i = 21 + f n by omega)]
    by_cases q : f i = f n
    · rw [if_pos (by omega), if_pos (by omega), h i n hi (by omega) q]
      exact ⟨rfl, rfl⟩
    · rw [if_neg (by omega), if_neg (by omega)]
      have : i ≠ n := fun z => q (by rw [z])
      exact rOw_at r n i (by omega) (by omega) hf (fun u v hu hv => h u v (by omega) (by omega))
section DR
variable {M : gMem} {c : Nat} {r : Nat → Nat} {a : Nat → Nat → Nat} {x : Int64}
theorem pi_lt (x : Int64) : ∀ j, j < 32 → shP 31 x id j < 32 := shP_lt 31 x id (by omega) (fun j hj => hj)
theorem pi_inj (x : Int64) : ∀ u v, u < 32 → v < 32 → shP 31 x id u = shP 31 x id v → u = v := shP_inj 31 x id (by omega) (fun u v _ _ h => h)
theorem pi_onto (x : Int64) (hc : c < 32) : ∃ i, i < 32 ∧ shP 31 x id i = c := fb_onto (pi_lt x) (fun i j hij hj h => by have := pi_inj x i j (by omega) hj h; omega) hc
theorem aDeal_o (c j : Nat) (h : c ≠ 0 ∧ c ≠ 1 ∧ c ≠ 3 ∧ c ≠ 5 ∧ c ≠ 6 ∧ c ≠ 7 ∧ c ≠ 8 ∧ c ≠ 9 ∧ c ≠ 10 ∧ c ≠ 11) : aDeal a x c j = a c j := by
  unfold aDeal
  rw [aS_c _ _ (by omega), aS_c _ _ (by omega), aS_c _ _ (by omega), aSh_c _ _ _ _ (by omega)]
  unfold aCd
  simp (disch := omega) only [aS_c, aFl_c]
theorem aDeal_0 (j : Nat) (h : j ≠ 4 ∧ j ≠ 5 ∧ j ≠ 6) : aDeal a x 0 j = aCd a 0 j := by
  unfold aDeal
  rw [aS_k _ (by omega), aS_k _ (by omega), aS_k _ (by omega), aSh_c _ _ _ _ (by omega)]
theorem aDeal_4 : aDeal a x 0 4 = a 0 4 + 1 := aS_s _ _ _ _
theorem aDeal_6 : aDeal a x 0 6 = a 0 4 % 4 := by unfold aDeal; rw [aS_k _ (by omega), aS_s]
theorem aDeal_5 : aDeal a x 0 5 = 1 := by unfold aDeal; rw [aS_k _ (by omega), aS_k _ (by omega), aS_s]
theorem aDeal_7 : aDeal a x 0 7 = 0 := by rw [aDeal_0 _ (by omega)]; unfold aCd; simp (disch := omega) only [aS_k, aS_s]
theorem aDeal_8 : aDeal a x 0 8 = 0 := by rw [aDeal_0 _ (by omega)]; unfold aCd; simp (disch := omega) only [aS_k, aS_s]
theorem aDeal_9 : aDeal a x 0 9 = 4294967295 := by rw [aDeal_0 _ (by omega)]; unfold aCd; simp (disch := omega) only [aS_k, aS_s]
theorem aDeal_10 : aDeal a x 0 10 = 0 := by rw [aDeal_0 _ (by omega)]; unfold aCd; exact aS_s _ _ _ _
theorem aDeal_13 : aDeal a x 1 3 = 0 := by
  unfold aDeal aSh
  rw [aS_c _ _ (by omega), aS_c _ _ (by omega), aS_c _ _ (by omega), aS_s]
theorem aDeal_t {j : Nat} (h : j < 2) : aDeal a x 3 j = 0 := by
  unfold aDeal
  rw [aS_c _ _ (by omega), aS_c _ _ (by omega), aS_c _ _ (by omega), aSh_c _ _ _ _ (by omega)]
  unfold aCd
  simp (disch := omega) only [aS_c]
  exact aFl_in _ _ h
theorem aDeal_own {i : Nat} (h : i < 32) : aDeal a x 5 (shP 31 x id i) = i % 4 := by
  unfold aDeal aSh
  simp (disch := omega) only [aS_c, aFl_c]
  exact aOw_at _ 32 i h (pi_inj x)
theorem aDeal_tm {j : Nat} (h : j < 32) : aDeal a x 6 j = 4294967295 := by
  unfold aDeal aSh
  simp (disch := omega) only [aS_c, aFl_c]
  exact aFl_in _ _ h
theorem aDeal_d {j : Nat} (h : j < 16) : aDeal a x 8 j = 0 ∧ aDeal a x 9 j = 4294967295 ∧ aDeal a x 10 j = 0 ∧ aDeal a x 11 j = 0 := by
  have e : ∀ c', c' = 8 ∨ c' = 9 ∨ c' = 10 ∨ c' = 11 → aDeal a x c' j = aCd a c' j := fun c' hc' => by
    unfold aDeal
    rw [aS_c _ _ (by omega), aS_c _ _ (by omega), aS_c _ _ (by omega), aSh_c _ _ _ _ (by omega)]
  rw [e 8 (by omega), e 9 (by omega), e 10 (by omega), e 11 (by omega)]
  unfold aCd
  simp (disch := omega) only [aS_c, aFl_c, aFl_in]
  exact ⟨trivial, trivial, trivial, trivial⟩
theorem rNd_at (j : Nat) : rNd r j = if (117 ≤ j ∧ j < 133) ∨ (149 ≤ j ∧ j < 165) ∨ (181 ≤ j ∧ j < 197) then 0 else if (133 ≤ j ∧ j < 149) ∨ (165 ≤ j ∧ j < 181) then 4294967295 else if (21 ≤ j ∧ j < 53) ∨ (53 ≤ j ∧ j < 85) ∨ (85 ≤ j ∧ j < 117) then 4294967295 else rC r j := rfl
end DR
