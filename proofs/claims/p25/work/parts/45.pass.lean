-- ===== PURE: the model's pass; plays that are refused; the advice that is played =====
section PS
variable {M : gMem} {e k l s c : Nat} {r : Nat → Nat} {a : Nat → Nat → Nat}
def aRf (a : Nat → Nat → Nat) : Nat → Nat → Nat := aS a 0 13 (a 0 13 + 1)
end PS
