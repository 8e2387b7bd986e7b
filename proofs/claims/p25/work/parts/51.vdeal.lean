-- ===== PURE: a fresh deal is valid: everybody has eight cards =====
theorem ct_inj {q : Nat → Bool} {n m : Nat} (g : Nat → Nat) (h : ∀ t, t < m → g t < n ∧ q (g t) = true) (hi : ∀ t u, t < m → u < m → g t = g u → t = u) : m ≤ fb_ct q n := by
  refine fb_holes (fb_ct q n) m (fun t => fb_ct q (g t)) (fun t ht => ct_lt (h t ht).2 (h t ht).1) (fun t u htu hu e => ?_)
  have := hi t u (by omega) hu (fb_ct_kth_one (h t (by omega)).2 (h u hu).2 e)
  omega
theorem ct_four (f : Nat → Nat) (n : Nat) : fb_ct (fun c => decide (f c = 0)) n + fb_ct (fun c => decide (f c = 1)) n + fb_ct (fun c => decide (f c = 2)) n + fb_ct (fun c => decide (f c = 3)) n ≤ n := by
  induction n with
  | zero => exact Nat.le_refl 0
  | succ n ih =>
    simp only [fb_ct_succ, decide_eq_true_iff]
    (repeat' split) <;> omega
section VD
variable {a : Nat → Nat → Nat} {x : Int64}
theorem aDeal_H {i : Nat} (h : i < 32) : aH (aDeal a x) (shP 31 x id i) = i % 4 := by
  unfold aH
  rw [aDeal_tm (pi_lt x i h), if_pos rfl, aDeal_own h]
theorem aDeal_hs {p : Nat} (hp : p < 4) : aHs (aDeal a x) p = 8 := by
  have ge : ∀ p, p < 4 → 8 ≤ aHs (aDeal a x) p := fun p hp => ct_inj (fun t => shP 31 x id (4 * t + p)) (fun t ht => ⟨pi_lt x _ (by omega), decide_eq_true (by rw [aDeal_H (by omega)]; omega)⟩) (fun t u ht hu e => by
    have := pi_inj x _ _ (by omega) (by omega) e
    omega)
  have h4 := ct_four (aH (aDeal a x)) 32
  have g0 := ge 0 (by omega)
  have g1 := ge 1 (by omega)
  have g2 := ge 2 (by omega)
  have g3 := ge 3 (by omega)
  unfold aHs at g0 g1 g2 g3 ⊢
  rcases (show p = 0 ∨ p = 1 ∨ p = 2 ∨ p = 3 by omega) with rfl | rfl | rfl | rfl <;> omega
theorem aOw_b {b : Nat → Nat → Nat} (hb : aB b) (f : Nat → Nat) : ∀ i, aB (aOw b f i)
  | 0 => hb
  | i + 1 => fun c j h => by
    show aS (aOw b f i) 5 (f i) (i % 4) c j < _
    unfold aS
    split
    · omega
    · exact aOw_b hb f i c j h
theorem aFl_b {b : Nat → Nat → Nat} (hb : aB b) (c n v : Nat) (hv : v < 4294967296) : aB (aFl b c n v) := fun c' j h => by
  unfold aFl
  split
  · exact hv
  · exact hb c' j h
theorem aS_b0 {b : Nat → Nat → Nat} (hb : aB b) (c k v : Nat) (h : c < 5 ∨ v < 4294967296) : aB (aS b c k v) := fun c' j h2 => by
  unfold aS
  split
  · omega
  · exact hb c' j h2
theorem aDeal_b (hb : aB a) : aB (aDeal a x) := by
  have h1 : aB (aCd a) := by
    unfold aCd
    refine aS_b0 (aS_b0 (aS_b0 (aS_b0 ?_ _ _ _ (by omega)) _ _ _ (by omega)) _ _ _ (by omega)) _ _ _ (by omega)
    exact aFl_b (aFl_b (aFl_b (aFl_b (aFl_b hb _ _ _ (by omega)) _ _ _ (by omega)) _ _ _ (by omega)) _ _ _ (by omega)) _ _ _ (by omega)
  have h2 : aB (aR (aCd a) (shP 31 x id)) := fun c j h => by
    unfold aR
    split
    · rename_i q
      have := pi_lt x j q.2
      omega
    · exact h1 c j h
  unfold aDeal aSh
  refine aS_b0 (aS_b0 (aS_b0 (aS_b0 ?_ _ _ _ (by omega)) _ _ _ (by omega)) _ _ _ (by omega)) _ _ _ (by omega)
  exact aFl_b (aFl_b (aOw_b h2 _ _) _ _ _ (by omega)) _ _ _ (by omega)
theorem aV_deal (h : aV a) : aV (aDeal a x) := by
  obtain ⟨hb, h1, h2, ⟨w1, w2, w3, w4, w5⟩, h4⟩ := h
  have l0 : aDeal a x 1 3 = 0 := aDeal_13
  have own : ∀ c, c < 32 → aDeal a x 5 c < 4 := fun c hc => by
    obtain ⟨i, hi, rfl⟩ := pi_onto x hc
    rw [aDeal_own hi]
    omega
  refine ⟨aDeal_b hb, ?_, ⟨fun t ht => ?_, fun c hc => ?_, fun c hc => Or.inl (own c hc), fun _ c hc => own c hc⟩, ⟨fun p s hp hs q => ?_, fun k => ?_, fun k hk => ?_, fun k hk => ?_, fun k hk => ?_⟩, fun _ p hp => ?_⟩
  · unfold aV1
    rw [aDeal_5, aDeal_6, aDeal_7, aDeal_8, aDeal_9, aDeal_10, l0, aDeal_t (by omega), aDeal_t (by omega)]
    omega
  · omega
  · exact Or.inl (aDeal_tm hc)
  · exact absurd (aDeal_d (by omega)).1 q
  · by_cases z : k < 16
    · rw [(aDeal_d z).1]
      omega
    · have e : aDeal a x 8 k = a 8 k := by
        unfold aDeal
        rw [aS_c _ _ (by omega), aS_c _ _ (by omega), aS_c _ _ (by omega), aSh_c _ _ _ _ (by omega)]
        unfold aCd
        simp (disch := omega) only [aS_c, aFl_c]
        exact if_neg (fun q => z q.2)
      rw [e]
      exact w2 k
  · rw [(aDeal_d hk).1]
    omega
  · rw [(aDeal_d hk).2.2.1]
    omega
  · rw [(aDeal_d hk).2.2.2]
    omega
  · rw [aDeal_hs hp]
    unfold aHz
    rw [l0, if_neg (by omega)]
end VD
