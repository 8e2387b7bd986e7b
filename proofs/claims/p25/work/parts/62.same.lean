-- ===== PURE: what holds of an evening holds of those that agree with it =====
section EQ
variable {a b : Nat → Nat → Nat} {r : Nat → Nat} {p s c : Nat}
theorem aEq_H (h : aEq a b) (hc : c < 32) : aH a c = aH b c := aH_cong (h.2.2.2.1 5 c (Or.inl rfl) hc) (h.2.2.2.1 6 c (Or.inr (Or.inl rfl)) hc)
theorem aEq_hs (h : aEq a b) : aHs a p = aHs b p := by
  unfold aHs
  exact fb_ct_cong fun k hk => by rw [aEq_H h hk]
theorem aEq_0 (h : aEq a b) {j : Nat} (h1 : 4 ≤ j ∧ j < 14) : a 0 j = b 0 j := h.1 j h1.1 h1.2
theorem aEq_hz (h : aEq a b) : aHz a p = aHz b p := by
  unfold aHz
  rw [h.2.1, aEq_0 h (j := 6) (by omega)]
/-- what holds of every evening of the class's, also of those that are not looked at -/
def aJ (a : Nat → Nat → Nat) : Prop := aB a ∧ ∀ k, a 8 k ≤ 32
theorem aV.J (h : aV a) : aJ a := ⟨h.1, h.2.2.2.1.2.1⟩
theorem aV_eq (hj : aJ a) (h : aEq a b) (hV : aV b) : aV a := by
  obtain ⟨hb, v1, ⟨g1, g2, g3, g4⟩, ⟨w1, w2, w3, w4, w5⟩, h4⟩ := hV
  have h13 := h.2.1
  have hl := v1.2.2.2.2.2.2.2.2.2.1
  refine ⟨hj.1, ?_, ⟨?_, ?_, ?_, ?_⟩, ⟨?_, hj.2, ?_, ?_, ?_⟩, ?_⟩
  · unfold aV1
    rw [aEq_0 h (j := 5) (by omega), aEq_0 h (j := 6) (by omega), aEq_0 h (j := 7) (by omega), aEq_0 h (j := 8) (by omega), aEq_0 h (j := 9) (by omega), aEq_0 h (j := 10) (by omega), h13, h.2.2.1 3 0 (Or.inl rfl) (by omega), h.2.2.1 3 1 (Or.inl rfl) (by omega)]
    exact v1
  · intro t ht
    rw [h13] at ht
    have e7 := h.2.2.2.1 7 t (by omega) (by omega)
    have := g1 t ht
    rw [e7, h.2.2.2.1 6 _ (by omega) this.1]
    exact this
  · intro c hc
    rw [h13, h.2.2.2.1 6 c (by omega) hc]
    exact g2 c hc
  · intro c hc
    rw [h.2.2.2.1 5 c (by omega) hc]
    exact g3 c hc
  · rw [aEq_0 h (j := 5) (by omega)]
    intro h5 c hc
    rw [h.2.2.2.1 5 c (by omega) hc]
    exact g4 h5 c hc
  · intro p s hp hs
    rw [h.2.2.2.2 8 _ (by omega) (by omega) (show 4 * p + s < 16 by omega), h.2.2.2.2 9 _ (by omega) (by omega) (show 4 * p + s < 16 by omega)]
    intro h8
    have := w1 p s hp hs h8
    rw [h.2.2.2.1 6 _ (by omega) this.1]
    exact this
  · intro k hk
    rw [h.2.2.2.2 8 _ (by omega) (by omega) hk, h13]
    exact w3 k hk
  · intro k hk
    rw [h.2.2.2.2 10 _ (by omega) (by omega) hk]
    exact w4 k hk
  · intro k hk
    rw [h.2.2.2.2 11 _ (by omega) (by omega) hk]
    exact w5 k hk
  · rw [aEq_0 h (j := 5) (by omega)]
    intro h5 p hp
    rw [aEq_hs h, aEq_hz h]
    exact h4 h5 p hp
theorem aCw_b (ha : aB a) (hb : aB b) (c n : Nat) : aB (aCw a b c n) := fun c' j h => by
  unfold aCw
  split
  · rename_i q
    exact hb c j (by omega)
  · exact ha c' j h
theorem aCp_b (ha : aB a) (hb : aB b) : aB (aCp a b) := by
  unfold aCp
  repeat' first
    | exact ha
    | exact hb
    | refine aS_b0 ?_ _ _ _ (Or.inl (by omega))
    | refine aCw_b ?_ hb _ _
theorem aCp_8 (a b : Nat → Nat → Nat) (k : Nat) : aCp a b 8 k = if k < 16 then b 8 k else a 8 k := by
  have o : ∀ (d : Nat → Nat → Nat) {c n c' : Nat} (j : Nat), c' ≠ c → aCw d b c n c' j = d c' j := fun d c n c' j h => if_neg (fun q => h q.1)
  have g : ∀ (d : Nat → Nat → Nat) (c n j : Nat), aCw d b c n c j = if j < n then b c j else d c j := fun d c n j => by
    unfold aCw
    by_cases q : j < n
    · rw [if_pos ⟨rfl, q⟩, if_pos q]
    · rw [if_neg (fun z => q z.2), if_neg q]
  unfold aCp
  simp (disch := omega) only [aS_c, o, g]
theorem aJ_cp (ha : aJ a) (hb : aJ b) : aJ (aCp a b) := by
  refine ⟨aCp_b ha.1 hb.1, fun k => ?_⟩
  rw [aCp_8]
  split
  · exact hb.2 k
  · exact ha.2 k
theorem aV_cp (ha : aJ a) (hb : aV b) : aV (aCp a b) := aV_eq (aJ_cp ha hb.J) (aCp_eq a b) hb
theorem aCp_4 (a b : Nat → Nat → Nat) : aCp a b 0 4 = b 0 4 := aEq_0 (aCp_eq a b) (by omega)
end EQ
-- ===== PURE: a row is copied: the model =====
/-- the row f from the place i on, put into the row r from the place j on -/
def rCp (f r : Nat → Nat) (i j : Nat) (n : Nat) : Nat → Nat := fun x => if j ≤ x ∧ x < j + n then f (i + (x - j)) else r x
