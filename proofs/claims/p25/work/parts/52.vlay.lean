-- ===== PURE: a card that is laid keeps the evening valid =====
section VL
variable {a : Nat → Nat → Nat} {c l p : Nat}
theorem aNt_3 (h : aV3 a) (hl : a 1 3 < 32) (ht : a 0 6 < 4) (hlv : l = 4294967295 ∨ l < 4) (hc : c < 32) : (∀ k, aNt a l c 8 k ≤ 32) ∧ (∀ k, k < 16 → aNt a l c 8 k ≤ a 1 3 + 1) ∧ (∀ k, k < 16 → aNt a l c 10 k ≤ 2) ∧ (∀ k, k < 16 → aNt a l c 11 k ≤ 1) ∧ (∀ k, k < 16 → aNt a l c 8 k ≠ 0 → aNt a l c 9 k = c ∨ (a 8 k ≠ 0 ∧ aNt a l c 9 k = a 9 k)) := by
  obtain ⟨w1, w2, w3, w4, w5⟩ := h
  unfold aNt
  rcases hlv with q | q
  · rw [if_pos q]
    exact ⟨w2, fun k hk => by have := w3 k hk; omega, w4, w5, fun k hk z => Or.inr ⟨z, rfl⟩⟩
  · rw [if_neg (by omega)]
    have hK : 4 * a 0 6 + l < 16 := by omega
    have k3 := w3 _ hK
    split
    · split
      · unfold aDrop
        split
        · rename_i z0
          refine ⟨fun k => ?_, fun k hk => ?_, fun k hk => ?_, fun k hk => ?_, fun k hk => ?_⟩
          · rw [aS_c _ _ (by omega), aS_at]
            have := w2 k
            split <;> omega
          · rw [aS_c _ _ (by omega), aS_at]
            have := w3 k hk
            split <;> omega
          · simp (disch := omega) only [aS_c]
            exact w4 k hk
          · simp (disch := omega) only [aS_c]
            exact w5 k hk
          · rw [aS_c _ _ (by omega), aS_at, aS_at, aS_c _ _ (by omega)]
            by_cases z : k = 4 * a 0 6 + l
            · rw [if_pos z, if_pos z]
              exact fun _ => Or.inl rfl
            · rw [if_neg z, if_neg z]
              exact fun z2 => Or.inr ⟨z2, rfl⟩
        · rename_i z0
          split
          · rename_i z1
            refine ⟨fun k => ?_, fun k hk => ?_, fun k hk => ?_, fun k hk => ?_, fun k hk => ?_⟩
            · rw [aS_c _ _ (by omega), aS_c _ _ (by omega), aS_c _ _ (by omega), aS_at]
              have := w2 k
              split <;> omega
            · rw [aS_c _ _ (by omega), aS_c _ _ (by omega), aS_c _ _ (by omega), aS_at]
              have := w3 k hk
              split <;> omega
            · rw [aS_c _ _ (by omega), aS_c _ _ (by omega), aS_at, aS_c _ _ (by omega)]
              have := w4 k hk
              (repeat' split) <;> omega
            · simp (disch := omega) only [aS_c]
              exact w5 k hk
            · rw [aS_c _ _ (by omega), aS_c _ _ (by omega), aS_c _ _ (by omega), aS_at]
              simp (disch := omega) only [aS_c]
              by_cases z : k = 4 * a 0 6 + l
              · rw [if_pos z, z]
                exact fun _ => Or.inr ⟨z0, trivial⟩
              · rw [if_neg z]
                exact fun z2 => Or.inr ⟨z2, trivial⟩
          · refine ⟨fun k => ?_, fun k hk => ?_, fun k hk => ?_, fun k hk => ?_, fun k hk => ?_⟩
            · rw [aS_at]
              have := w2 k
              split <;> omega
            · rw [aS_at]
              have := w3 k hk
              split <;> omega
            · simp (disch := omega) only [aS_c]
              exact w4 k hk
            · simp (disch := omega) only [aS_c]
              exact w5 k hk
            · rw [aS_at]
              simp (disch := omega) only [aS_c]
              by_cases z : k = 4 * a 0 6 + l
              · rw [if_pos z, z]
                exact fun _ => Or.inr ⟨z0, trivial⟩
              · rw [if_neg z]
                exact fun z2 => Or.inr ⟨z2, trivial⟩
      · exact ⟨w2, fun k hk => by have := w3 k hk; omega, w4, w5, fun k hk z => Or.inr ⟨z, rfl⟩⟩
    · refine ⟨fun k => ?_, fun k hk => ?_, fun k hk => ?_, fun k hk => ?_, fun k hk z => ?_⟩
      · rw [aS_c _ _ (by omega)]; exact w2 k
      · rw [aS_c _ _ (by omega)]; have := w3 k hk; omega
      · rw [aS_c _ _ (by omega)]; exact w4 k hk
      · rw [aS_at]
        have := w5 k hk
        split <;> omega
      · rw [aS_c _ _ (by omega)] at z
        exact Or.inr ⟨z, aS_c _ _ (by omega)⟩
end VL
