-- ===== PURE: simulations, by both; two cases of the law =====
section SI
variable {M M' W : gMem} {E : Nat → Nat → Nat → Nat} {n c k B s m : Nat} {u : Nat → Nat} {l : Nat} {t r d q r' d' ρ : Nat → Nat} {a : Nat → Nat → Nat}
theorem I_assoc (x y z : Int32) : x + (y - z) = x + y - z := by rw [Int32.sub_eq_add_neg, Int32.sub_eq_add_neg, Int32.add_assoc]
def sV (a : Nat → Nat → Nat) (x y z : Int32) : Int32 := (((10000 * (nI (a 0 11) - x)) + (100 * (nI (a 0 12) - y))) + (nI (a 0 4) - z))
end SI
