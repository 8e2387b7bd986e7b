-- ===== PURE: bids and passes on both sides =====
def aBid (a : Nat → Nat → Nat) (l s : Nat) : Nat → Nat → Nat := aS (aS (aS (aS (aS a 0 7 l) 0 8 s) 0 9 (a 0 6)) 0 10 0) 0 6 ((a 0 6 + 1) % 4)
def aPs1 (a : Nat → Nat → Nat) : Nat → Nat → Nat := aS (aS a 0 10 (a 0 10 + 1)) 0 6 ((a 0 6 + 1) % 4)
def aPass (a : Nat → Nat → Nat) : Nat → Nat → Nat :=
  if a 0 9 = 4294967295 then (if a 0 10 + 1 = 4 then aS (aS (aPs1 a) 0 5 3) 0 6 4294967295 else aPs1 a)
  else if a 0 10 + 1 = 3 then aS (aS (aPs1 a) 0 5 2) 0 6 ((a 0 9 + 1) % 4) else aPs1 a
section BD
variable {M : gMem} {e k l s : Nat} {r : Nat → Nat} {a : Nat → Nat → Nat}
theorem p_isBid (hl : l < 1000) (hs : s < 1000) : f_DS_isBid (nI l) (nI s) = some (nI (if 1 ≤ l ∧ l ≤ 4 ∧ s ≤ 4 then 1 else 0)) := by
  unfold f_DS_isBid
  rw [show (1 : Int32) = nI 1 from rfl, show (4 : Int32) = nI 4 from rfl]
  by_cases q1 : l < 1
  · rw [if_pos (nI_lt q1 (by omega)), if_neg (by omega)]; rfl
  · rw [if_neg (nI_nlt (by omega) (by omega))]
    by_cases q2 : 4 < l
    · rw [if_pos (nI_lt q2 (by omega)), if_neg (by omega)]; rfl
    · rw [if_neg (nI_nlt (by omega) (by omega)), if_neg (nI_pos (by omega))]
      by_cases q3 : 4 < s
      · rw [if_pos (nI_lt q3 (by omega)), if_neg (by omega)]; rfl
      · rw [if_neg (nI_nlt (by omega) (by omega)), if_pos (by omega)]
theorem p_mayBid (hl : l < 1000) (hs : s < 1000) (hp : a 0 5 < 4294967296) (hlv : a 0 7 ≤ 4) (hsu : a 0 8 ≤ 4) : f_Ev_mayBid e (aW M e a) (nI l) (nI s) = some (nI (if a 0 5 = 1 ∧ (1 ≤ l ∧ l ≤ 4 ∧ s ≤ 4) ∧ 5 * a 0 7 + a 0 8 < 5 * l + s then 1 else 0)) := by
  unfold f_Ev_mayBid
  rw [aW_r]
  by_cases q : a 0 5 = 1
  · rw [if_pos (show nI (a 0 5) = 1 by rw [q]; rfl), p_isBid hl hs, pB]
    by_cases q2 : 1 ≤ l ∧ l ≤ 4 ∧ s ≤ 4
    · rw [if_pos q2, if_neg (show ¬ nI 1 = 0 by decide), aW_r, aW_r, show (5 : Int32) = nI 5 from rfl, pk_mul, pk_mul, nI_add, nI_add]
      by_cases q3 : 5 * a 0 7 + a 0 8 < 5 * l + s
      · rw [if_neg (nI_ge q3 (by omega)), if_pos ⟨q, q2, q3⟩]; rfl
      · rw [if_pos (nI_le (by omega) (by omega)), if_neg (fun z => q3 z.2.2)]; rfl
    · rw [if_neg q2, if_pos (show nI 0 = 0 from rfl), if_neg (fun z => q2 z.2.1)]; rfl
  · rw [if_neg (show ¬ nI (a 0 5) = 1 from fun z => q ((z_inj (y := 1) hp (by omega)).mp z)), if_neg (fun z => q z.1)]; rfl
theorem p_makeBid (ht : a 0 6 < 4) : f_Ev_makeBid e (aW M e a) (nI l) (nI s) = some (aW M e (aBid a l s)) := by
  unfold f_Ev_makeBid aBid
  rw [p_SO, pB, p_SO, pB, aW_r, show aS (aS a 0 7 l) 0 8 s 0 6 = a 0 6 by simp (disch := omega) only [aS_k], p_SO, pB, show (0 : Int32) = nI 0 from rfl, p_SO, pB, aW_r, show aS (aS (aS (aS a 0 7 l) 0 8 s) 0 9 (a 0 6)) 0 10 0 0 6 = a 0 6 by simp (disch := omega) only [aS_k], p_nextP (by omega), pB, p_SO, pB]
theorem p_makePass (ht : a 0 6 < 4) (hbd : a 0 9 < 4 ∨ a 0 9 = 4294967295) (hps : a 0 10 < 1000) : f_Ev_makePass e (aW M e a) = some (aW M e (aPass a)) := by
  unfold f_Ev_makePass
  have x10 : aPs1 a 0 10 = a 0 10 + 1 := by unfold aPs1; rw [aS_k _ (by omega), aS_s]
  have x9 : aPs1 a 0 9 = a 0 9 := by unfold aPs1; simp (disch := omega) only [aS_k]
  rw [aW_r, nI_1, p_SO, pB, aW_r, show aS a 0 10 (a 0 10 + 1) 0 6 = a 0 6 from aS_k a (by omega), p_nextP (by omega), pB, p_SO, pB, show aS (aS a 0 10 (a 0 10 + 1)) 0 6 ((a 0 6 + 1) % 4) = aPs1 a from rfl, aW_r, x9, aW_r, x10, z_m1]
  unfold f_Ev_makePass_b50
  rw [aW_r, x9, aW_r, x10, z_m1]
  unfold aPass
  rcases hbd with q | q
  · have n : ¬ nI (a 0 9) = nI 4294967295 := fun z => by have := (z_inj (by omega) (by omega)).mp z; omega
    rw [if_neg n, if_neg n, if_neg (show ¬ a 0 9 = 4294967295 by omega)]
    by_cases q2 : a 0 10 + 1 = 3
    · rw [if_pos (show nI (a 0 10 + 1) = 3 by rw [q2]; rfl), if_pos q2, show (2 : Int32) = nI 2 from rfl, p_SO, pB, aW_r, show aS (aPs1 a) 0 5 2 0 9 = a 0 9 from (aS_k _ (by omega)).trans x9, p_nextP (by omega), pB, p_SO, pB]
    · rw [if_neg (show ¬ nI (a 0 10 + 1) = 3 from fun z => q2 ((z_inj (y := 3) (by omega) (by omega)).mp z)), if_neg q2]
  · have n : nI (a 0 9) = nI 4294967295 := by rw [q]
    rw [if_pos n, if_pos q]
    by_cases q2 : a 0 10 + 1 = 4
    · rw [if_pos (show nI (a 0 10 + 1) = 4 by rw [q2]; rfl), if_pos q2, show (3 : Int32) = nI 3 from rfl, p_SO, pB, p_SO, pB]
    · rw [if_neg (show ¬ nI (a 0 10 + 1) = 4 from fun z => q2 ((z_inj (y := 4) (by omega) (by omega)).mp z)), if_neg q2, if_pos n]
end BD
