-- ===== PURE: evenings that agree on all places that count =====
def aEq (a b : Nat → Nat → Nat) : Prop := (∀ j, 4 ≤ j → j < 14 → a 0 j = b 0 j) ∧ a 1 3 = b 1 3 ∧ (∀ c j, c = 3 ∨ c = 4 → j < 2 → a c j = b c j) ∧ (∀ c j, c = 5 ∨ c = 6 ∨ c = 7 → j < 32 → a c j = b c j) ∧ (∀ c j, 8 ≤ c → c < 12 → j < 16 → a c j = b c j)
theorem aCp_eq (a b : Nat → Nat → Nat) : aEq (aCp a b) b := by
  have w : ∀ (d : Nat → Nat → Nat) {c n j : Nat}, j < n → aCw d b c n c j = b c j := fun d c n j h => if_pos ⟨rfl, h⟩
  have o : ∀ (d : Nat → Nat → Nat) {c n c' : Nat} (j : Nat), c' ≠ c → aCw d b c n c' j = d c' j := fun d c n c' j h => if_neg (fun q => h q.1)
  unfold aCp
  refine ⟨fun j h1 h2 => ?_, ?_, fun c j hc hj => ?_, fun c j hc hj => ?_, fun c j hc hc2 hj => ?_⟩
  · rcases (show j = 4 ∨ j = 5 ∨ j = 6 ∨ j = 7 ∨ j = 8 ∨ j = 9 ∨ j = 10 ∨ j = 11 ∨ j = 12 ∨ j = 13 by omega) with rfl | rfl | rfl | rfl | rfl | rfl | rfl | rfl | rfl | rfl <;> simp (disch := omega) only [aS_k, aS_s]
  · simp (disch := omega) only [aS_c, aS_s, o]
  · rcases hc with rfl | rfl <;> simp (disch := omega) only [aS_c, o, w]
  · rcases hc with rfl | rfl | rfl <;> simp (disch := omega) only [aS_c, o, w]
  · rcases (show c = 8 ∨ c = 9 ∨ c = 10 ∨ c = 11 by omega) with rfl | rfl | rfl | rfl <;> simp (disch := omega) only [aS_c, o, w]
