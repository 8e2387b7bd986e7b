-- ===== PURE: what holds of every evening =====
/-- how many cards a player has in play, by the cards that lie and the turn -/
def aHz (a : Nat → Nat → Nat) (p : Nat) : Nat := 8 - a 1 3 / 4 - (if (p + 4 - (a 0 6 + 4 - a 1 3 % 4) % 4) % 4 < a 1 3 % 4 then 1 else 0)
def aV1 (a : Nat → Nat → Nat) : Prop := a 0 5 ≤ 3 ∧ (a 0 5 = 1 ∨ a 0 5 = 2 → a 0 6 < 4) ∧ (a 0 5 = 0 ∨ a 0 5 = 3 → a 0 6 = 4294967295) ∧ a 0 7 ≤ 4 ∧ a 0 8 ≤ 4 ∧ (a 0 9 < 4 ∧ 1 ≤ a 0 7 ∨ a 0 9 = 4294967295 ∧ a 0 7 = 0 ∧ a 0 8 = 0) ∧ (a 0 5 = 1 → (a 0 9 < 4 → a 0 10 ≤ 2) ∧ a 0 10 ≤ 3) ∧ (a 0 5 = 2 → a 0 9 < 4 ∧ a 1 3 < 32) ∧ (a 0 5 = 0 ∨ a 0 5 = 1 → a 1 3 = 0) ∧ a 1 3 ≤ 32 ∧ a 3 0 + a 3 1 ≤ a 1 3 / 4
def aV2 (a : Nat → Nat → Nat) : Prop := (∀ t, t < a 1 3 → a 7 t < 32 ∧ a 6 (a 7 t) = t) ∧ (∀ c, c < 32 → a 6 c = 4294967295 ∨ a 6 c < a 1 3) ∧ (∀ c, c < 32 → a 5 c < 4 ∨ a 5 c = 4294967295) ∧ (a 0 5 ≠ 0 → ∀ c, c < 32 → a 5 c < 4)
def aV3 (a : Nat → Nat → Nat) : Prop := aF a ∧ (∀ k, a 8 k ≤ 32) ∧ (∀ k, k < 16 → a 8 k ≤ a 1 3) ∧ (∀ k, k < 16 → a 10 k ≤ 2) ∧ (∀ k, k < 16 → a 11 k ≤ 1)
def aV (a : Nat → Nat → Nat) : Prop := aB a ∧ aV1 a ∧ aV2 a ∧ aV3 a ∧ (a 0 5 = 1 ∨ a 0 5 = 2 → ∀ p, p < 4 → aHs a p = aHz a p)
section VA
variable {a : Nat → Nat → Nat} {x : Int64} {l s : Nat}
theorem aV.O (h : aV a) : aO a := ⟨h.1, h.2.1.2.2.2.2.2.2.2.2.2.1, fun t ht => (h.2.2.1.1 t ht).1⟩
theorem aV.P (h : aV a) (hp : a 0 5 = 2) : aP a := by
  have hO := h.O
  obtain ⟨hb, ⟨v1, v2, v3, v4, v5, v6, v7, v8, v9, v10, v11⟩, h2, ⟨w1, w2, w3, w4, w5⟩, h4⟩ := h
  refine ⟨hO, w1, hp, v2 (Or.inr hp), (v8 hp).2, v5, v4, (v8 hp).1, fun j hj => ?_, fun k => ?_⟩
  · rcases (show j = 0 ∨ j = 1 by omega) with rfl | rfl <;> omega
  · have := w2 k
    omega
/-- the cells from 1 on as they were, the turn and the laid cards too: hands, order, drops stay -/
theorem aV_same {b : Nat → Nat → Nat} (h : aV a) (hc : ∀ c j, c ≠ 0 → b c j = a c j) (h1 : aV1 b) (h5 : b 0 5 ≠ 0 → a 0 5 ≠ 0) (hh : b 0 5 = 1 ∨ b 0 5 = 2 → (a 0 5 = 1 ∨ a 0 5 = 2) ∧ (∀ p, p < 4 → aHz b p = aHz a p)) : aV b := by
  obtain ⟨hb, -, ⟨g1, g2, g3, g4⟩, ⟨w1, w2, w3, w4, w5⟩, h4⟩ := h
  have e13 := hc 1 3 (by omega)
  have eH : ∀ p, aHs b p = aHs a p := fun p => by
    unfold aHs
    refine fb_ct_cong fun c _ => ?_
    rw [aH_cong (b := a) (hc 5 c (by omega)) (hc 6 c (by omega))]
  refine ⟨fun c j hcj => by rw [hc c j (by omega)]; exact hb c j hcj, h1, ⟨fun t ht => ?_, fun c hcc => ?_, fun c hcc => ?_, fun q c hcc => ?_⟩, ⟨fun p s hp hs => ?_, fun k => ?_, fun k hk => ?_, fun k hk => ?_, fun k hk => ?_⟩, fun q p hp => ?_⟩
  · rw [e13] at ht
    rw [hc 7 t (by omega), hc 6 _ (by omega)]
    exact g1 t ht
  · rw [hc 6 c (by omega), e13]; exact g2 c hcc
  · rw [hc 5 c (by omega)]; exact g3 c hcc
  · rw [hc 5 c (by omega)]; exact g4 (h5 q) c hcc
  · rw [hc 8 _ (by omega), hc 9 _ (by omega), hc 6 _ (by omega)]; exact w1 p s hp hs
  · rw [hc 8 k (by omega)]; exact w2 k
  · rw [hc 8 k (by omega), e13]; exact w3 k hk
  · rw [hc 10 k (by omega)]; exact w4 k hk
  · rw [hc 11 k (by omega)]; exact w5 k hk
  · rw [eH, (hh q).2 p hp]; exact h4 (hh q).1 p hp
theorem aV_bid (h : aV a) (hp : a 0 5 = 1) (hl : 1 ≤ l) (hl2 : l ≤ 4) (hs : s ≤ 4) : aV (aBid a l s) := by
  have hV := h
  obtain ⟨hb, ⟨v1, v2, v3, v4, v5, v6, v7, v8, v9, v10, v11⟩, -, -, -⟩ := h
  have hc : ∀ c j, c ≠ 0 → aBid a l s c j = a c j := fun c j h => by unfold aBid; simp (disch := omega) only [aS_c]
  have e5 : aBid a l s 0 5 = 1 := by unfold aBid; simp (disch := omega) only [aS_k, hp]
  have e6 : aBid a l s 0 6 = (a 0 6 + 1) % 4 := aS_s _ _ _ _
  have e7 : aBid a l s 0 7 = l := by unfold aBid; simp (disch := omega) only [aS_k, aS_s]
  have e8 : aBid a l s 0 8 = s := by unfold aBid; simp (disch := omega) only [aS_k, aS_s]
  have e9 : aBid a l s 0 9 = a 0 6 := by unfold aBid; simp (disch := omega) only [aS_k, aS_s]
  have e10 : aBid a l s 0 10 = 0 := by unfold aBid; simp (disch := omega) only [aS_k, aS_s]
  have e13 := hc 1 3 (by omega)
  have t := v2 (Or.inl hp)
  have l0 := v9 (Or.inr hp)
  refine aV_same hV hc ?_ (fun _ => by omega) (fun _ => ⟨Or.inl hp, fun p hp4 => ?_⟩)
  · unfold aV1
    rw [e5, e6, e7, e8, e9, e10, e13, hc 3 0 (by omega), hc 3 1 (by omega)]
    omega
  · unfold aHz
    rw [e6, e13, l0, if_neg (by omega), if_neg (by omega)]
theorem aV_pass (h : aV a) (hp : a 0 5 = 1) : aV (aPass a) := by
  have hV := h
  obtain ⟨hb, ⟨v1, v2, v3, v4, v5, v6, v7, v8, v9, v10, v11⟩, -, -, -⟩ := h
  have t := v2 (Or.inl hp)
  have l0 := v9 (Or.inr hp)
  have y := v7 hp
  have h3 : a 3 0 + a 3 1 ≤ a 1 3 / 4 := v11
  have hc : ∀ c j, c ≠ 0 → aPass a c j = a c j := fun c j h => by
    unfold aPass aPs1
    (repeat' split) <;> simp (disch := omega) only [aS_c]
  have e7 : aPass a 0 7 = a 0 7 := by
    unfold aPass aPs1
    (repeat' split) <;> simp (disch := omega) only [aS_k]
  have e8 : aPass a 0 8 = a 0 8 := by
    unfold aPass aPs1
    (repeat' split) <;> simp (disch := omega) only [aS_k]
  have e9 : aPass a 0 9 = a 0 9 := by
    unfold aPass aPs1
    (repeat' split) <;> simp (disch := omega) only [aS_k]
  have e10 : aPass a 0 10 = a 0 10 + 1 := by
    unfold aPass aPs1
    (repeat' split) <;> simp (disch := omega) only [aS_k, aS_s]
  have e56 : (a 0 9 = 4294967295 ∧ a 0 10 + 1 = 4 ∧ aPass a 0 5 = 3 ∧ aPass a 0 6 = 4294967295) ∨ (a 0 9 < 4 ∧ a 0 10 + 1 = 3 ∧ aPass a 0 5 = 2 ∧ aPass a 0 6 = (a 0 9 + 1) % 4) ∨ ((a 0 9 = 4294967295 ∧ a 0 10 + 1 ≠ 4 ∨ a 0 9 < 4 ∧ a 0 10 + 1 ≠ 3) ∧ aPass a 0 5 = 1 ∧ aPass a 0 6 = (a 0 6 + 1) % 4) := by
    unfold aPass aPs1
    by_cases q : a 0 9 = 4294967295
    · rw [if_pos q]
      by_cases q2 : a 0 10 + 1 = 4
      · rw [if_pos q2]
        simp (disch := omega) only [aS_k, aS_s]
        exact Or.inl ⟨q, q2, trivial, trivial⟩
      · rw [if_neg q2]
        simp (disch := omega) only [aS_k, aS_s, hp]
        exact Or.inr (Or.inr ⟨Or.inl ⟨q, q2⟩, trivial, trivial⟩)
    · rw [if_neg q]
      by_cases q2 : a 0 10 + 1 = 3
      · rw [if_pos q2]
        simp (disch := omega) only [aS_k, aS_s]
        exact Or.inr (Or.inl ⟨by omega, q2, trivial, trivial⟩)
      · rw [if_neg q2]
        simp (disch := omega) only [aS_k, aS_s, hp]
        exact Or.inr (Or.inr ⟨Or.inr ⟨by omega, q2⟩, trivial, trivial⟩)
  have e13 := hc 1 3 (by omega)
  refine aV_same hV hc ?_ (fun _ => by omega) (fun q => ⟨Or.inl hp, fun p hp4 => ?_⟩)
  · unfold aV1
    rw [e7, e8, e9, e10, e13, hc 3 0 (by omega), hc 3 1 (by omega)]
    generalize aPass a 0 5 = u at *
    generalize aPass a 0 6 = w at *
    omega
  · unfold aHz
    rw [e13, l0, if_neg (by omega), if_neg (by omega)]
theorem aV_rf (h : aV a) : aV (aRf a) := by
  have hV := h
  obtain ⟨hb, h1, -, -, -⟩ := h
  have hc : ∀ c j, c ≠ 0 → aRf a c j = a c j := fun c j h => aS_c _ _ h
  have h0 : ∀ j, j ≠ 13 → aRf a 0 j = a 0 j := fun j h => aS_k _ h
  refine aV_same hV hc ?_ (fun q => by rw [h0 5 (by omega)] at q; exact q) (fun q => ⟨by rw [h0 5 (by omega)] at q; exact q, fun p hp4 => ?_⟩)
  · unfold aV1
    rw [h0 5 (by omega), h0 6 (by omega), h0 7 (by omega), h0 8 (by omega), h0 9 (by omega), h0 10 (by omega), hc 1 3 (by omega), hc 3 0 (by omega), hc 3 1 (by omega)]
    exact h1
  · unfold aHz
    rw [h0 6 (by omega), hc 1 3 (by omega)]
end VA
