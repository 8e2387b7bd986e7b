-- ===== PURE: an evening is copied, whole: the class =====
def aCp (a b : Nat → Nat → Nat) : Nat → Nat → Nat :=
  let d := aCw (aCw (aCw (aCw (aS (aCw (aCw (aCw a b 5 32) b 6 32) b 7 32) 1 3 (b 1 3)) b 8 16) b 9 16) b 10 16) b 11 16
  aS (aS (aS (aS (aS (aS (aS (aS (aS (aS (aCw (aCw d b 3 2) b 4 2) 0 4 (b 0 4)) 0 5 (b 0 5)) 0 6 (b 0 6)) 0 7 (b 0 7)) 0 8 (b 0 8)) 0 9 (b 0 9)) 0 10 (b 0 10)) 0 11 (b 0 11)) 0 12 (b 0 12)) 0 13 (b 0 13)
theorem p_copyFrom {M : gMem} {e e0 : Nat} {a b : Nat → Nat → Nat} (he : e0 ≠ e) (hM : M e0 = eN b) : f_Ev_copyFrom e e0 (aW M e a) = some (aW M e (aCp a b)) := by
  have rd : ∀ (d : Nat → Nat → Nat) (c k : Nat), aW M e d e0 c k = nI (b c k) := fun d c k => by rw [aW_n M d he, hM]; rfl
  unfold f_Ev_copyFrom f_Cards_copyFrom f_Drops_copyFrom aCp
  rw [p_copyRow he hM (by omega), pB, p_copyRow he hM (by omega), pB, p_copyRow he hM (by omega), pB, rd, p_SO, pB, pB, p_copyRow he hM (by omega), pB, p_copyRow he hM (by omega), pB, p_copyRow he hM (by omega), pB, p_copyRow he hM (by omega), pB, pB, p_copyRow he hM (by omega), pB, p_copyRow he hM (by omega), pB, rd, p_SO, pB, rd, p_SO, pB, rd, p_SO, pB, rd, p_SO, pB, rd, p_SO, pB, rd, p_SO, pB, rd, p_SO, pB, rd, p_SO, pB, rd, p_SO, pB, rd, p_SO, pB]
