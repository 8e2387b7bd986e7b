-- ===== PURE: the trick is over; a card is put, whole =====
section PV
variable {M : gMem} {k p s c : Nat} {r : Nat → Nat} {a : Nat → Nat → Nat}
/-- the first block of the row -/
def RM1 (a : Nat → Nat → Nat) (r : Nat → Nat) : Prop := r 0 = a 0 4 ∧ r 1 = a 0 5 ∧ (a 0 5 = 1 ∨ a 0 5 = 2 → r 2 = a 0 6) ∧ r 3 = 10 * a 0 7 + a 0 8 ∧ r 4 = (if a 0 5 = 1 then 4294967295 else a 0 9) ∧ r 5 = a 3 0 ∧ r 6 = a 3 1 ∧ r 7 = a 4 0 ∧ r 8 = a 4 1 ∧ r 9 = a 0 11 ∧ r 10 = a 0 12 ∧ r 11 = a 0 13 ∧ r 12 = a 0 10 ∧ r 13 = a 0 9 ∧ r 14 = a 1 3 ∧ r 15 = a 1 3 % 4 ∧ (a 0 5 = 2 → r 20 = (a 0 6 + 4 - a 1 3 % 4) % 4)
/-- the row behind a trick -/
def rTk (r : Nat → Nat) (p : Nat) : Nat → Nat := rS (rS (rS (rS r (5 + p % 2) (r (5 + p % 2) + 1)) 15 0) 20 p) 2 p
/-- the deal is over -/
def rOv (a : Nat → Nat → Nat) (r : Nat → Nat) : Nat → Nat :=
  if a 3 (a 0 9 % 2) < 4 + a 0 7 then rS (rS (rS r 1 3) (7 + a 0 9 % 2) (a 4 (a 0 9 % 2))) (8 - a 0 9 % 2) (a 4 (1 - a 0 9 % 2) + 10 * (4 + a 0 7 - a 3 (a 0 9 % 2)))
  else rS (rS (rS r 1 3) (7 + a 0 9 % 2) (a 4 (a 0 9 % 2) + (10 * a 0 7 + 2 * (a 3 (a 0 9 % 2) - (4 + a 0 7))))) (8 - a 0 9 % 2) (a 4 (1 - a 0 9 % 2))
end PV
