-- ===== PURE: a cleared evening is valid, and is the cleared row: the end =====
section CM
variable {a : Nat → Nat → Nat} {r : Nat → Nat}
theorem aCl_b (hb : aB a) : aB (aCl a) := by
  unfold aCl aCd
  refine aS_b0 (aS_b0 (aS_b0 (aS_b0 (aS_b0 (aS_b0 (aFl_b (aS_b0 (aS_b0 (aS_b0 (aS_b0 ?_ _ _ _ (by omega)) _ _ _ (by omega)) _ _ _ (by omega)) _ _ _ (by omega)) _ _ _ (by omega)) _ _ _ (by omega)) _ _ _ (by omega)) _ _ _ (by omega)) _ _ _ (by omega)) _ _ _ (by omega)) _ _ _ (by omega)
  refine aFl_b (aFl_b (aFl_b (aFl_b (aFl_b (aS_b0 ?_ _ _ _ (by omega)) _ _ _ (by omega)) _ _ _ (by omega)) _ _ _ (by omega)) _ _ _ (by omega)) _ _ _ (by omega)
  exact aFl_b (aFl_b (aFl_b hb _ _ _ (by omega)) _ _ _ (by omega)) _ _ _ (by omega)
theorem aV_clear (hb : aB a) (h8 : ∀ k, a 8 k ≤ 32) : aV (aCl a) := by
  have l0 : aCl a 1 3 = 0 := aCl_13
  have e5 : aCl a 0 5 = 0 := aCl_0 5 (by omega)
  refine ⟨aCl_b hb, ?_, ⟨fun t ht => by omega, fun c hc => Or.inl (aCl_c (by omega) hc), fun c hc => Or.inr (aCl_c (by omega) hc), fun q => absurd e5 q⟩, ⟨fun p s hp hs q => absurd (aCl_d (by omega)).1 q, fun k => ?_, fun k hk => ?_, fun k hk => ?_, fun k hk => ?_⟩, fun q => by omega⟩
  · unfold aV1
    rw [e5, aCl_0 6 (by omega), aCl_0 7 (by omega), aCl_0 8 (by omega), aCl_0 9 (by omega), aCl_0 10 (by omega), l0, aCl_s (by omega) (by omega), aCl_s (by omega) (by omega)]
    simp
  · by_cases z : k < 16
    · rw [(aCl_d z).1]; omega
    · have e : aCl a 8 k = a 8 k := by
        unfold aCl aCd
        simp (disch := omega) only [aS_c, aFl_c]
        exact (if_neg (fun q => z q.2)).trans (by simp (disch := omega) only [aS_c, aFl_c])
      rw [e]
      exact h8 k
  · rw [(aCl_d hk).1]; omega
  · rw [(aCl_d hk).2.2.1]; omega
  · rw [(aCl_d hk).2.2.2]; omega
end CM
