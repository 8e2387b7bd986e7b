-- ===== PURE: the cleared row is the cleared evening =====
theorem RM_clear (a : Nat → Nat → Nat) (r : Nat → Nat) : RM (aCl a) (rNd (r0 r 197)) := by
  have l0 : aCl a 1 3 = 0 := aCl_13
  have e5 : aCl a 0 5 = 0 := aCl_0 5 (by omega)
  have hz : ∀ j, j < 197 → r0 r 197 j = 0 := fun j h => if_pos h
  have low : ∀ j, j < 21 → rNd (r0 r 197) j = rC (r0 r 197) j := fun j h => by
    rw [rNd_at, if_neg (by omega), if_neg (by omega), if_neg (by omega)]
  refine ⟨⟨?_, ?_, ?_, ?_, ?_, ?_, ?_, ?_, ?_, ?_, ?_, ?_, ?_, ?_, ?_, ?_, ?_⟩, fun j hj => by omega, fun c hc => ?_, fun p s hp hs => ?_⟩
  · rw [low 0 (by omega), aCl_0 4 (by omega)]; unfold rC; simp (disch := omega) only [rS_n, hz]; rfl
  · rw [low 1 (by omega), e5]; unfold rC; simp (disch := omega) only [rS_n, hz]
  · intro q; omega
  · rw [low 3 (by omega), aCl_0 7 (by omega), aCl_0 8 (by omega)]; unfold rC; simp (disch := omega) only [rS_n, rS_s]; rfl
  · rw [low 4 (by omega), e5, aCl_0 9 (by omega)]; unfold rC; simp (disch := omega) only [rS_n, rS_s]; rfl
  · rw [low 5 (by omega), aCl_s (by omega) (by omega)]; unfold rC; simp (disch := omega) only [rS_n, rS_s]
  · rw [low 6 (by omega), aCl_s (by omega) (by omega)]; unfold rC; simp (disch := omega) only [rS_n, rS_s]
  · rw [low 7 (by omega), aCl_s (by omega) (by omega)]; unfold rC; simp (disch := omega) only [rS_n, hz]
  · rw [low 8 (by omega), aCl_s (by omega) (by omega)]; unfold rC; simp (disch := omega) only [rS_n, hz]
  · rw [low 9 (by omega), aCl_0 11 (by omega)]; unfold rC; simp (disch := omega) only [rS_n, hz]; rfl
  · rw [low 10 (by omega), aCl_0 12 (by omega)]; unfold rC; simp (disch := omega) only [rS_n, hz]; rfl
  · rw [low 11 (by omega), aCl_0 13 (by omega)]; unfold rC; simp (disch := omega) only [rS_n, hz]; rfl
  · rw [low 12 (by omega), aCl_0 10 (by omega)]; unfold rC; simp (disch := omega) only [rS_n, rS_s]; rfl
  · rw [low 13 (by omega), aCl_0 9 (by omega)]; unfold rC; simp (disch := omega) only [rS_n, rS_s]; rfl
  · rw [low 14 (by omega), l0]; unfold rC; simp (disch := omega) only [rS_n, rS_s]
  · rw [low 15 (by omega), l0]; unfold rC; simp (disch := omega) only [rS_s]
  · intro q; omega
  · unfold aH
    rw [aCl_c (by omega) hc, aCl_c (by omega) hc, if_pos rfl, rNd_at, rNd_at, rNd_at]
    refine ⟨?_, ?_, ?_⟩ <;> rw [if_neg (by omega), if_neg (by omega), if_pos (by omega)]
  · obtain ⟨d1, d2, d3, d4⟩ := aCl_d (a := a) (j := 4 * p + s) (by omega)
    unfold aTr
    rw [d1, d2, d3, d4, if_pos rfl]
    refine ⟨?_, ?_, ?_, ?_, ?_⟩
    · rw [rNd_at, if_pos (by omega)]
    · rw [rNd_at, if_neg (by omega), if_pos (by omega)]
    · rw [rNd_at, if_pos (by omega)]
    · rw [rNd_at, if_neg (by omega), if_pos (by omega)]
    · rw [rNd_at, if_pos (by omega)]
