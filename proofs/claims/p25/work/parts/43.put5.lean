-- ===== PURE: a card is put, whole: both sides agree =====
theorem aS_comm (a : Nat → Nat → Nat) {c1 c2 : Nat} (k1 v1 k2 v2 : Nat) (h : c1 ≠ c2) : aS (aS a c1 k1 v1) c2 k2 v2 = aS (aS a c2 k2 v2) c1 k1 v1 := by
  funext c' j
  unfold aS
  by_cases h1 : c' = c1 ∧ j = k1
  · rw [if_pos h1, if_neg (by omega), if_pos h1]
  · rw [if_neg h1, if_neg h1]
theorem aL1_S (a : Nat → Nat → Nat) {c' : Nat} (k v c : Nat) (h : c' ≠ 7 ∧ c' ≠ 6 ∧ c' ≠ 1) : aL1 (aS a c' k v) c = aS (aL1 a c) c' k v := by
  unfold aL1
  rw [aS_c a 3 (by omega), aS_comm a k v (a 1 3) c h.1, aS_comm _ k v c (a 1 3) h.2.1, aS_comm _ k v 3 (a 1 3 + 1) h.2.2]
section PX
variable {M : gMem} {k p s c l : Nat} {r : Nat → Nat} {a : Nat → Nat → Nat}
theorem aNt_L1 (hl : l = 4294967295 ∨ l < 4) : aNt (aL1 a c) l c = aL1 (aNt a l c) c := by
  have x6 := aL1_o a c 0 6 (by omega)
  have x8 := fun j => aL1_o a c 8 j (by omega)
  have x9 := fun j => aL1_o a c 9 j (by omega)
  have x11 := aL1_o a c 0 11 (by omega)
  have x12 := aL1_o a c 0 12 (by omega)
  unfold aNt
  rcases hl with q | q
  · rw [if_pos q, if_pos q]
  · have xd : aDl (aL1 a c) (a 0 6) l = aDl a (a 0 6) l := aDl_cong (fun j _ => aL1_o a c 5 j (by omega)) q
    have ne : ¬ l = 4294967295 := by omega
    rw [if_neg ne, if_neg ne, x6]
    split
    · split
      · unfold aDrop
        rw [x8, x9, x11, x12, xd]
        split
        · rw [aL1_S _ _ _ _ (by omega), aL1_S _ _ _ _ (by omega)]
        · split
          · rw [aL1_S _ _ _ _ (by omega), aL1_S _ _ _ _ (by omega), aL1_S _ _ _ _ (by omega), aL1_S _ _ _ _ (by omega)]
          · rw [aL1_S _ _ _ _ (by omega)]
      · rfl
    · rw [aL1_S _ _ _ _ (by omega)]
theorem aLay_eq (h : aP a) (c : Nat) : aLay a c = aNx (aL1 (aNt a (aLed a) c) c) := by
  unfold aLay
  rw [aNt_L1 (aLed_lt h.1.2.1 h.1.2.2)]
end PX
