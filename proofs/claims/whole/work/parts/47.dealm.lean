-- ===== PURE: the deal: the model =====
theorem z_of (x : Int32) : x = nI x.toBitVec.toNat := by
  unfold nI
  apply Int32.toBitVec_inj.mp
  show _ = (BitVec.ofNat 32 _)
  rw [BitVec.ofNat_toNat, BitVec.setWidth_eq]
def rA (r : Nat → Nat) (i : Nat) : Nat → Nat := fun j => if (21 ≤ j ∧ j < 21 + i) ∨ (53 ≤ j ∧ j < 53 + i) ∨ (85 ≤ j ∧ j < 85 + i) then 4294967295 else r j
def rB (r : Nat → Nat) (i : Nat) : Nat → Nat := fun j => if (117 ≤ j ∧ j < 117 + i) ∨ (149 ≤ j ∧ j < 149 + i) ∨ (181 ≤ j ∧ j < 181 + i) then 0 else if (133 ≤ j ∧ j < 133 + i) ∨ (165 ≤ j ∧ j < 165 + i) then 4294967295 else r j
def rC (r : Nat → Nat) : Nat → Nat := rS (rS (rS (rS (rS (rS (rS (rS r 3 0) 4 4294967295) 12 0) 13 4294967295) 5 0) 6 0) 14 0) 15 0
def rNd (r : Nat → Nat) : Nat → Nat := rB (rA (rC r) 32) 16
theorem rA_s (r : Nat → Nat) {i : Nat} (hi : i < 32) : rS (rS (rS (rA r i) (21 + i) 4294967295) (53 + i) 4294967295) (85 + i) 4294967295 = rA r (i + 1) := by
  funext j
  unfold rS rA
  by_cases q : (21 ≤ j ∧ j < 21 + (i + 1)) ∨ (53 ≤ j ∧ j < 53 + (i + 1)) ∨ (85 ≤ j ∧ j < 85 + (i + 1))
  · rw [if_pos q]
    by_cases q1 : j = 85 + i
    · rw [if_pos q1]
    · rw [if_neg q1]
      by_cases q2 : j = 53 + i
      · rw [if_pos q2]
      · rw [if_neg q2]
        by_cases q3 : j = 21 + i
        · rw [if_pos q3]
        · rw [if_neg q3, if_pos (by omega)]
  · rw [if_neg q, if_neg (by omega), if_neg (by omega), if_neg (by omega), if_neg (by omega)]
theorem rB_s (r : Nat → Nat) {i : Nat} (hi : i < 16) : rS (rS (rS (rS (rS (rB r i) (117 + i) 0) (133 + i) 4294967295) (149 + i) 0) (165 + i) 4294967295) (181 + i) 0 = rB r (i + 1) := by
  funext j
  unfold rS rB
  by_cases q1 : j = 181 + i
  · rw [if_pos q1, if_pos (by omega)]
  · rw [if_neg q1]
    by_cases q2 : j = 165 + i
    · rw [if_pos q2, if_neg (by omega), if_pos (by omega)]
    · rw [if_neg q2]
      by_cases q3 : j = 149 + i
      · rw [if_pos q3, if_pos (by omega)]
      · rw [if_neg q3]
        by_cases q4 : j = 133 + i
        · rw [if_pos q4, if_neg (by omega), if_pos (by omega)]
        · rw [if_neg q4]
          by_cases q5 : j = 117 + i
          · rw [if_pos q5, if_pos (by omega)]
          · rw [if_neg q5]
            by_cases q6 : (117 ≤ j ∧ j < 117 + i) ∨ (149 ≤ j ∧ j < 149 + i) ∨ (181 ≤ j ∧ j < 181 + i)
            · rw [if_pos q6, if_pos (by omega)]
            · rw [if_neg q6]
              by_cases q7 : (133 ≤ j ∧ j < 133 + i) ∨ (165 ≤ j ∧ j < 165 + i)
              · rw [if_pos q7, if_neg (by omega), if_pos (by omega)]
              · rw [if_neg q7, if_neg (by omega), if_neg (by omega)]
section DM
variable {M : gMem} {k : Nat} {r : Nat → Nat} {a : Nat → Nat → Nat}
theorem q_noDeal : f_Mo_noDeal 19 k 197 (rW M k r) = some (rW M k (rNd r)) := by
  unfold f_Mo_noDeal
  rw [z_m1, show (0 : Int32) = nI 0 from rfl, show (3 : Int32) = nI 3 from rfl, q_wr (by omega) (by omega), pB, show (4 : Int32) = nI 4 from rfl, q_wr (by omega) (by omega), pB, show (12 : Int32) = nI 12 from rfl, q_wr (by omega) (by omega), pB, show (13 : Int32) = nI 13 from rfl, q_wr (by omega) (by omega), pB, show (5 : Int32) = nI 5 from rfl, q_wr (by omega) (by omega), pB, show (6 : Int32) = nI 6 from rfl, q_wr (by omega) (by omega), pB, show (14 : Int32) = nI 14 from rfl, q_wr (by omega) (by omega), pB, show (15 : Int32) = nI 15 from rfl, q_wr (by omega) (by omega), pB]
  rw [show rS (rS (rS (rS (rS (rS (rS (rS r 3 0) 4 4294967295) 12 0) 13 4294967295) 5 0) 6 0) 14 0) 15 0 = rC r from rfl]
  have eA : rA (rC r) 0 = rC r := by
    funext j
    unfold rA
    rw [if_neg (by omega)]
  have eB : ∀ r1, rB r1 0 = r1 := fun r1 => by
    funext j
    unfold rB
    rw [if_neg (by omega), if_neg (by omega)]
  unfold f_Mo_noDeal_l39
  refine pFor0 (fun i => (nI i, rW M k (rA (rC r) i))) 32 (by rw [eA]) (fun i hi => ?_) (pLx ?_)
  · show f_Mo_noDeal_s39 19 k 197 (rW M k (rA (rC r) i)) (nI i) = _
    unfold f_Mo_noDeal_s39
    rw [show (32 : Int32) = nI 32 from rfl, if_neg (nI_ge hi (by omega)), z_m1, show (21 : Int32) = nI 21 from rfl, nI_add, q_wr (by omega) (by omega), pB, show (53 : Int32) = nI 53 from rfl, nI_add, q_wr (by omega) (by omega), pB, show (85 : Int32) = nI 85 from rfl, nI_add, q_wr (by omega) (by omega), pB, rA_s _ hi, nI_1]
  · show f_Mo_noDeal_s39 19 k 197 (rW M k (rA (rC r) 32)) (nI 32) = _
    unfold f_Mo_noDeal_s39
    rw [show (32 : Int32) = nI 32 from rfl, if_pos (nI_le (Nat.le_refl _) (by omega))]
    have h74 : f_Mo_noDeal_l74 19 k 197 (0, rW M k (rA (rC r) 32)) = some (rW M k (rNd r)) := by
      unfold f_Mo_noDeal_l74
      refine pFor0 (fun i => (nI i, rW M k (rB (rA (rC r) 32) i))) 16 (by rw [eB]; rfl) (fun i hi => ?_) (pLx ?_)
      · show f_Mo_noDeal_s74 19 k 197 (rW M k (rB (rA (rC r) 32) i)) (nI i) = _
        unfold f_Mo_noDeal_s74
        rw [show (16 : Int32) = nI 16 from rfl, if_neg (nI_ge hi (by omega)), z_m1, show (0 : Int32) = nI 0 from rfl, show (117 : Int32) = nI 117 from rfl, nI_add, q_wr (by omega) (by omega), pB, show (133 : Int32) = nI 133 from rfl, nI_add, q_wr (by omega) (by omega), pB, show (149 : Int32) = nI 149 from rfl, nI_add, q_wr (by omega) (by omega), pB, show (165 : Int32) = nI 165 from rfl, nI_add, q_wr (by omega) (by omega), pB, show (181 : Int32) = nI 181 from rfl, nI_add, q_wr (by omega) (by omega), pB, rB_s _ hi, nI_1]
      · show f_Mo_noDeal_s74 19 k 197 (rW M k (rB (rA (rC r) 32) 16)) (nI 16) = _
        unfold f_Mo_noDeal_s74
        rw [show (16 : Int32) = nI 16 from rfl, if_pos (nI_le (Nat.le_refl _) (by omega))]
        rfl
    rw [show (0 : Int32) = nI 0 from rfl] at h74
    rw [show (0 : Int32) = nI 0 from rfl, h74]
    rfl
/-- the model's world with its row of cards for a deal -/
def dW (M : gMem) (k : Nat) (r : Nat → Nat) (f : Nat → Nat) : gMem := rW (gUp M 19 8 (fun j => nI (f j))) k r
theorem dW_0 (M : gMem) (k : Nat) (r : Nat → Nat) : rW M k r = dW M k r (fun j => (M 19 8 j).toBitVec.toNat) := by
  unfold dW
  have e : (fun j => nI (M 19 8 j).toBitVec.toNat) = M 19 8 := funext fun j => (z_of _).symm
  rw [e, pUpS]
theorem dW_8 (hk : k ≠ 8) (f : Nat → Nat) : dW M k r f 19 8 = fun j => nI (f j) := by
  unfold dW rW
  rw [gUp_n _ _ (by omega), gUp_s]
theorem d_rd {f : Nat → Nat} {j : Nat} (hk : k ≠ 8) (h : j < 32) : gRd 32 (dW M k r f 19 8) (nI j) = some (nI (f j)) := by rw [dW_8 hk, pRd _ h (by omega)]
theorem d_wr {f : Nat → Nat} {j v : Nat} (hk : k ≠ 8) (h : j < 32) : gWr (dW M k r f) 19 8 32 (nI j) (nI v) = some (dW M k r (fun i => if i = j then v else f i)) := by
  rw [pWr _ _ _ _ h (by omega), dW_8 hk]
  congr 1
  funext g c
  unfold dW rW gUp
  by_cases q : g = 19 ∧ c = 8
  · rw [if_pos q, if_neg (by omega), if_pos q]
    funext i
    unfold upd
    show _ = nI (if i = j then v else f i)
    split <;> rfl
  · rw [if_neg q]
    by_cases q2 : g = 19 ∧ c = k
    · rw [if_pos q2, if_pos q2]
    · rw [if_neg q2, if_neg q2, if_neg q, if_neg q]
end DM
