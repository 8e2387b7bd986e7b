-- ===== PURE: a cleared evening is valid, and is the cleared row =====
section CL
variable {a : Nat → Nat → Nat} {r : Nat → Nat}
theorem aCl_0 (j : Nat) (h : j < 14 ∧ 4 ≤ j) : aCl a 0 j = if j = 6 ∨ j = 9 then 4294967295 else 0 := by
  obtain ⟨h1, h2⟩ := h
  unfold aCl aCd
  rcases (show j = 4 ∨ j = 5 ∨ j = 6 ∨ j = 7 ∨ j = 8 ∨ j = 9 ∨ j = 10 ∨ j = 11 ∨ j = 12 ∨ j = 13 by omega) with rfl | rfl | rfl | rfl | rfl | rfl | rfl | rfl | rfl | rfl <;> simp (disch := omega) only [aS_k, aS_s, aFl_c] <;> rfl
theorem aCl_13 : aCl a 1 3 = 0 := by
  unfold aCl aCd
  simp (disch := omega) only [aS_c, aS_s, aFl_c]
theorem aCl_s {c j : Nat} (h : c = 3 ∨ c = 4) (hj : j < 2) : aCl a c j = 0 := by
  unfold aCl aCd
  rcases h with rfl | rfl <;> simp (disch := omega) only [aS_c, aFl_c, aFl_in]
theorem aCl_c {c j : Nat} (h : c = 5 ∨ c = 6 ∨ c = 7) (hj : j < 32) : aCl a c j = 4294967295 := by
  unfold aCl aCd
  rcases h with rfl | rfl | rfl <;> simp (disch := omega) only [aS_c, aFl_c, aFl_in]
theorem aCl_d {j : Nat} (hj : j < 16) : aCl a 8 j = 0 ∧ aCl a 9 j = 4294967295 ∧ aCl a 10 j = 0 ∧ aCl a 11 j = 0 := by
  unfold aCl aCd
  simp (disch := omega) only [aS_c, aFl_c, aFl_in]
  exact ⟨trivial, trivial, trivial, trivial⟩
end CL
