-- ===== PURE: a card is put: the model, second half =====
section PU
variable {M : gMem} {k p s c : Nat} {r : Nat → Nat} {a : Nat → Nat → Nat}
/-- what putting a card does to the row before the trick is looked at -/
def rPut (a : Nat → Nat → Nat) (r : Nat → Nat) (c : Nat) : Nat → Nat := rS (rS (rS (rS (rS (rS r (21 + c) 4294967295) (85 + c) (a 1 3)) 14 (a 1 3 + 1)) (16 + a 1 3 % 4) c) 15 (a 1 3 % 4 + 1)) 2 ((a 0 6 + 1) % 4)
theorem aL1_o (a : Nat → Nat → Nat) (c c' j : Nat) (h : c' ≠ 7 ∧ c' ≠ 6 ∧ c' ≠ 1) : aL1 a c c' j = a c' j := by
  unfold aL1
  simp (disch := omega) only [aS_c]
theorem aL1_13 (a : Nat → Nat → Nat) (c : Nat) : aL1 a c 1 3 = a 1 3 + 1 := by unfold aL1; exact aS_s _ _ _ _
theorem aL1_7 (a : Nat → Nat → Nat) (c j : Nat) : aL1 a c 7 j = if j = a 1 3 then c else a 7 j := by
  unfold aL1
  simp (disch := omega) only [aS_c]
  exact aS_at _ _ _ _ _
theorem aWn_cong {f h : Nat → Nat} {t : Nat} : ∀ n, (∀ j, j ≤ n → f j = h j) → aWn f t n = aWn h t n
  | 0, _ => rfl
  | n + 1, q => by
    have ih := aWn_cong (t := t) n (fun j hj => q j (by omega))
    have hw := aWn_le h t n
    unfold aWn
    rw [ih, q (n + 1) (by omega), q (aWn h t n) (by omega)]
end PU
