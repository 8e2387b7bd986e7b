-- ===== PURE: what more holds of every evening =====
def aOwn (a : Nat → Nat → Nat) (p : Nat) : Nat := fb_ct (fun c => decide (a 5 c = p)) 32
def aSn (a : Nat → Nat → Nat) : Nat := fb_ct (fun k => decide (a 10 k ≠ 0)) 16
def aX (a : Nat → Nat → Nat) : Prop :=
  a 3 0 + a 3 1 = a 1 3 / 4 ∧
  (∀ c, c < 32 → a 6 c ≠ 4294967295 → a 7 (a 6 c) = c) ∧
  (a 0 5 = 0 → (∀ c, c < 32 → a 5 c = 4294967295) ∧ a 0 9 = 4294967295) ∧
  (a 0 5 ≠ 0 → ∀ p, p < 4 → aOwn a p = 8) ∧
  (∀ p s, p < 4 → s < 4 → a 8 (4 * p + s) + aHd a p s ≤ aDl a p s) ∧
  (∀ k, k < 16 → (a 10 k ≠ 0 ↔ 2 ≤ a 8 k)) ∧
  (∀ p s, p < 4 → s < 4 → a 11 (4 * p + s) = 1 → aHd a p s = 0) ∧
  (a 0 5 = 3 → a 1 3 = 32 ∨ a 0 9 = 4294967295) ∧
  aSn a ≤ a 0 11 ∧ a 0 12 ≤ a 0 11
section XX
variable {a b : Nat → Nat → Nat} {c l s p : Nat} {x : Int64}
/-- the cells from 1 on as they were -/
theorem aX_same (h : aX a) (hc : ∀ c j, c ≠ 0 → b c j = a c j) (h11 : b 0 11 = a 0 11) (h12 : b 0 12 = a 0 12) (h5 : b 0 5 ≠ 0 ∧ a 0 5 ≠ 0 ∨ b 0 5 = 0 ∧ a 0 5 = 0 ∧ b 0 9 = a 0 9) (h3 : b 0 5 = 3 → b 1 3 = 32 ∨ b 0 9 = 4294967295) : aX b := by
  obtain ⟨x1, x2, x3, x4, x5, x6, x7, x8, x9, x10⟩ := h
  have r : ∀ c, c ≠ 0 → b c = a c := fun c h => funext fun j => hc c j h
  have eO : ∀ p, aOwn b p = aOwn a p := fun p => by unfold aOwn; rw [r 5 (by omega)]
  have eD : ∀ p s, aDl b p s = aDl a p s := fun p s => by unfold aDl; rw [r 5 (by omega)]
  have eHd : ∀ p s, aHd b p s = aHd a p s := fun p s => by unfold aHd aH; rw [r 5 (by omega), r 6 (by omega)]
  have eS : aSn b = aSn a := by unfold aSn; rw [r 10 (by omega)]
  refine ⟨?_, fun c hc => ?_, fun q => ?_, fun q p hp => ?_, fun p s hp hs => ?_, fun k hk => ?_, fun p s hp hs => ?_, h3, ?_, ?_⟩
  · rw [r 3 (by omega), r 1 (by omega)]; exact x1
  · rw [r 6 (by omega), r 7 (by omega)]; exact x2 c hc
  · rw [r 5 (by omega)]
    rcases h5 with y | ⟨y1, y2, y3⟩
    · exact absurd q y.1
    · rw [y3]; exact x3 y2
  · rw [eO]
    rcases h5 with y | ⟨y1, y2, y3⟩
    · exact x4 y.2 p hp
    · exact absurd y1 q
  · rw [r 8 (by omega), eHd, eD]; exact x5 p s hp hs
  · rw [r 8 (by omega), r 10 (by omega)]; exact x6 k hk
  · rw [r 11 (by omega), eHd]; exact x7 p s hp hs
  · rw [eS, h11]; exact x9
  · rw [h11, h12]; exact x10
theorem aX_bid (h : aX a) (hp : a 0 5 = 1) : aX (aBid a l s) := by
  have hc : ∀ c j, c ≠ 0 → aBid a l s c j = a c j := fun c j h => by unfold aBid; simp (disch := omega) only [aS_c]
  have e5 : aBid a l s 0 5 = 1 := by unfold aBid; simp (disch := omega) only [aS_k, hp]
  refine aX_same h hc ?_ ?_ (Or.inl ⟨by omega, by omega⟩) (fun z => by omega)
  · unfold aBid; simp (disch := omega) only [aS_k]
  · unfold aBid; simp (disch := omega) only [aS_k]
theorem pass_ph (hp : a 0 5 = 1) : (aPass a 0 5 = 3 ∧ a 0 9 = 4294967295 ∨ aPass a 0 5 = 2 ∨ aPass a 0 5 = 1) ∧ (∀ j, j = 4 ∨ j = 9 ∨ j = 11 ∨ j = 12 → aPass a 0 j = a 0 j) ∧ ∀ c j, c ≠ 0 → aPass a c j = a c j := by
  refine ⟨?_, fun j hj => ?_, fun c j h => ?_⟩
  · unfold aPass aPs1
    by_cases q : a 0 9 = 4294967295
    · rw [if_pos q]
      by_cases q2 : a 0 10 + 1 = 4
      · rw [if_pos q2]
        simp (disch := omega) only [aS_k, aS_s]
        exact Or.inl ⟨trivial, q⟩
      · rw [if_neg q2]
        simp (disch := omega) only [aS_k, hp]
        exact Or.inr (Or.inr trivial)
    · rw [if_neg q]
      by_cases q2 : a 0 10 + 1 = 3
      · rw [if_pos q2]
        simp (disch := omega) only [aS_k, aS_s]
        exact Or.inr (Or.inl trivial)
      · rw [if_neg q2]
        simp (disch := omega) only [aS_k, hp]
        exact Or.inr (Or.inr trivial)
  · unfold aPass aPs1
    (repeat' split) <;> simp (disch := omega) only [aS_k]
  · unfold aPass aPs1
    (repeat' split) <;> simp (disch := omega) only [aS_c]
theorem aX_pass (h : aX a) (hp : a 0 5 = 1) : aX (aPass a) := by
  obtain ⟨h1, h2, h3⟩ := pass_ph hp
  refine aX_same h h3 (h2 11 (by omega)) (h2 12 (by omega)) (Or.inl ⟨by omega, by omega⟩) (fun z => Or.inr ?_)
  rw [h2 9 (by omega)]
  omega
theorem aX_rf (h : aX a) : aX (aRf a) := by
  have hc : ∀ c j, c ≠ 0 → aRf a c j = a c j := fun c j h => aS_c _ _ h
  have h0 : ∀ j, j ≠ 13 → aRf a 0 j = a 0 j := fun j h => aS_k _ h
  have h8 := h.2.2.2.2.2.2.2.1
  refine aX_same h hc (h0 11 (by omega)) (h0 12 (by omega)) ?_ (fun z => ?_)
  · rw [h0 5 (by omega), h0 9 (by omega)]
    by_cases z : a 0 5 = 0
    · exact Or.inr ⟨z, z, rfl⟩
    · exact Or.inl ⟨z, z⟩
  · rw [h0 5 (by omega)] at z
    rw [h0 9 (by omega), hc 1 3 (by omega)]
    exact h8 z
theorem aX_deal (h : aX a) : aX (aDeal a x) := by
  have hd := fun {j : Nat} (h : j < 16) => aDeal_d (a := a) (x := x) h
  have e11 : aDeal a x 0 11 = a 0 11 := by rw [aDeal_0 _ (by omega), aCd_0 _ _ (by omega)]
  have e12 : aDeal a x 0 12 = a 0 12 := by rw [aDeal_0 _ (by omega), aCd_0 _ _ (by omega)]
  obtain ⟨x1, x2, x3, x4, x5, x6, x7, x8, x9, x10⟩ := h
  refine ⟨?_, fun c hc q => ?_, fun q => ?_, fun q p hp => ?_, fun p s hp hs => ?_, fun k hk => ?_, fun p s hp hs q => ?_, fun q => ?_, ?_, ?_⟩
  · rw [aDeal_t (by omega), aDeal_t (by omega), aDeal_13]
  · exact absurd (aDeal_tm hc) q
  · rw [aDeal_5] at q; omega
  · have e := aDeal_hs (a := a) (x := x) hp
    unfold aHs at e
    rw [← e]
    unfold aOwn
    refine fb_ct_cong fun c hc => ?_
    unfold aH
    rw [aDeal_tm hc, if_pos rfl]
  · rw [(hd (by omega)).1, Nat.zero_add]
    exact aHd_dl hp
  · rw [(hd hk).1, (hd hk).2.2.1]
    omega
  · rw [(hd (by omega)).2.2.2] at q; omega
  · rw [aDeal_5] at q; omega
  · have : aSn (aDeal a x) = 0 := fb_ct_zero.mpr fun k hk => by
      rw [(hd hk).2.2.1]
      rfl
    omega
  · rw [e11, e12]; exact x10
end XX
