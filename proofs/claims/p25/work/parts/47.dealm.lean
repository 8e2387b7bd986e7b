-- ===== PURE: the deal: the model =====
theorem z_of (x : Int32) : x = nI x.toBitVec.toNat := by
  unfold nI
  apply Int32.toBitVec_inj.mp
  show _ = (BitVec.ofNat 32 _)
  rw [BitVec.ofNat_toNat, BitVec.setWidth_eq]
def rA (r : Nat → Nat) (i : Nat) : Nat → Nat := fun j => if (21 ≤ j ∧ j < 21 + i) ∨ (53 ≤ j ∧ j < 53 + i) ∨ (85 ≤ j ∧ j < 85 + i) then 4294967295 else r j
def rB (r : Nat → Nat) (i : Nat) : Nat → Nat := fun j => if (117 ≤ j ∧ j < 117 + i) ∨ (149 ≤ j ∧ j < 149 + i) ∨ (181 ≤ j ∧ j < 181 + i) then 0 else if (133 ≤ j ∧ j < 133 + i) ∨ (165 ≤ j ∧ j < 165 + i) then 4294967295 else r j
def rC (r : Nat → Nat) : Nat → Nat := rS (rS (rS (rS (rS (rS (rS (rS r 3 0) 4 4294967295) 12 0) 13 4294967295) 5 0) 6 0) 14 0) 15 0
def rNd (r : Nat → Nat) : Nat → Nat := rB (rA (rC r) 32) 16
theorem rA_s (r : Nat → Nat) {i : Nat} (hi : i < 32) : rS (rS (rS (rA r i) (21 + i) 4294967295) (53 + i) 4294967295) (85 + i) 4294967295 = rA r (i + 1) := by
  funext j
  unfold rS rA
  by_cases q : (21 ≤ j ∧ j < 21 + (i + 1)) ∨ (53 ≤ j ∧ j < 53 + (i + 1)) ∨ (85 ≤ j ∧ j < 85 + (i + 1))
  · rw [if_pos q]
    by_cases q1 : j = 85 + i
    · rw [if_pos q1]
    · rw [if_neg q1]
      by_cases q2 : j = 53 + i
      · rw [if_pos q2]
      · rw [if_neg q2]
        by_cases q3 : j = 21 + i
        · rw [if_pos q3]
        · rw [if_neg q3, if_pos (by omega)]
  · rw [if_neg q, if_neg (by omega), if_neg (by omega), if_neg (by omega), if_neg (by omega)]
theorem rB_s (r : Nat → Nat) {i : Nat} (hi : i < 16) : rS (rS (rS (rS (rS (rB r i) (117 + i) 0) (133 + i) 4294967295) (149 + i) 0) (165 + i) 4294967295) (181 + i) 0 = rB r (i + 1) := by
  funext j
  unfold rS rB
  by_cases q1 : j = 181 + i
  · rw [if_pos q1, if_pos (by omega)]
  · rw [if_neg q1]
    by_cases q2 : j = 165 + i
    · rw [if_pos q2, if_neg (by omega), if_pos (by omega)]
    · rw [if_neg q2]
      by_cases q3 : j = 149 + i
      · rw [if_pos q3, if_pos (by omega)]
      · rw [if_neg q3]
        by_cases q4 : j = 133 + i
        · rw [if_pos q4, if_neg (by omega), if_pos (by omega)]
        · rw [if_neg q4]
          by_cases q5 : j = 117 + i
          · rw [if_pos q5, if_pos (by omega)]
          · rw [if_neg q5]
            by_cases q6 : (117 ≤ j ∧ j < 117 + i) ∨ (149 ≤ j ∧ j < 149 + i) ∨ (181 ≤ j ∧ j < 181 + i)
            · rw [if_pos q6, if_pos (by omega)]
            · rw [if_neg q6]
              by_cases q7 : (133 ≤ j ∧ j < 133 + i) ∨ (165 ≤ j ∧ j < 165 + i)
              · rw [if_pos q7, if_neg (by omega), if_pos (by omega)]
              · rw [if_neg q7, if_neg (by omega), if_neg (by omega)]
section DM
variable {M : gMem} {k : Nat} {r : Nat → Nat} {a : Nat → Nat → Nat}
end DM
