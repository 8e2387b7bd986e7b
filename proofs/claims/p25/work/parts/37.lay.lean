-- ===== PURE: a card is laid down: the class =====
def aDrop (a : Nat → Nat → Nat) (p s c : Nat) : Nat → Nat → Nat :=
  if a 8 (4 * p + s) = 0 then aS (aS a 8 (4 * p + s) 1) 9 (4 * p + s) c
  else if a 8 (4 * p + s) = 1 then aS (aS (aS (aS a 8 (4 * p + s) 2) 10 (4 * p + s) (if c < a 9 (4 * p + s) then 2 else 1)) 0 11 (a 0 11 + 1)) 0 12 (a 0 12 + (if (if c < a 9 (4 * p + s) then 2 else 1) = (if aDl a p s % 2 = 0 then 2 else 1) then 1 else 0))
  else aS a 8 (4 * p + s) (a 8 (4 * p + s) + 1)
def aNt (a : Nat → Nat → Nat) (l c : Nat) : Nat → Nat → Nat :=
  if l = 4294967295 then a else if c / 8 = l then (if c % 8 < 4 then aDrop a (a 0 6) l c else a) else aS a 11 (4 * a 0 6 + l) 1
def aL1 (a : Nat → Nat → Nat) (c : Nat) : Nat → Nat → Nat := aS (aS (aS a 7 (a 1 3) c) 6 c (a 1 3)) 1 3 (a 1 3 + 1)
/-- which of four cards wins -/
def aBt (c b t : Nat) : Bool := if c / 8 = b / 8 then decide (b < c) else decide (c / 8 = t)
def aWn (f : Nat → Nat) (t : Nat) : Nat → Nat
  | 0 => 0
  | i + 1 => if aBt (f (i + 1)) (f (aWn f t i)) t = true then i + 1 else aWn f t i
theorem aWn_le (f : Nat → Nat) (t : Nat) : ∀ i, aWn f t i ≤ i
  | 0 => Nat.le_refl 0
  | i + 1 => by
    have h := aWn_le f t i
    unfold aWn
    split <;> omega
/-- the winner's place in the last four cards that lie -/
def aWi (a : Nat → Nat → Nat) : Nat := aWn (fun j => a 7 (a 1 3 - 4 + j)) (a 0 8) 3
def aSc (a : Nat → Nat → Nat) : Nat → Nat → Nat :=
  if a 3 (a 0 9 % 2) < 4 + a 0 7 then aS a 4 (1 - a 0 9 % 2) (a 4 (1 - a 0 9 % 2) + 10 * (4 + a 0 7 - a 3 (a 0 9 % 2)))
  else aS a 4 (a 0 9 % 2) (a 4 (a 0 9 % 2) + (10 * a 0 7 + 2 * (a 3 (a 0 9 % 2) - (4 + a 0 7))))
def aPw (a : Nat → Nat → Nat) : Nat := ((a 0 6 + 1) % 4 + aWi a) % 4
def aTk (a : Nat → Nat → Nat) (p : Nat) : Nat → Nat → Nat := aS (aS a 3 (p % 2) (a 3 (p % 2) + 1)) 0 6 p
def aEt (a : Nat → Nat → Nat) : Nat → Nat → Nat :=
  if a 1 3 = 32 then aSc (aS (aS (aTk a (aPw a)) 0 5 3) 0 6 4294967295) else aTk a (aPw a)
def aNx (a : Nat → Nat → Nat) : Nat → Nat → Nat := if a 1 3 % 4 = 0 then aEt a else aS a 0 6 ((a 0 6 + 1) % 4)
def aLay (a : Nat → Nat → Nat) (c : Nat) : Nat → Nat → Nat := aNx (aNt (aL1 a c) (aLed a) c)
section LY
variable {M : gMem} {e k p s c : Nat} {a : Nat → Nat → Nat}
theorem p_lay (hl : a 1 3 < 32) (hc : c < 32) : f_Cards_lay e (aW M e a) (nI c) = some (aW M e (aL1 a c)) := by
  unfold f_Cards_lay aL1
  rw [aW_r, p_put hl (by omega), pB, aW_r, show aS a 7 (a 1 3) c 1 3 = a 1 3 from aS_c a 3 (by omega), p_put hc (by omega), pB, aW_r, show aS (aS a 7 (a 1 3) c) 6 c (a 1 3) 1 3 = a 1 3 from (aS_c _ 3 (by omega)).trans (aS_c a 3 (by omega)), nI_1, p_SO, pB]
theorem p_add (hb : aB a) (hp : p < 4) (hs : s < 4) (hc : c < 32) (h8 : a 8 (4 * p + s) < 1000) (hf : a 8 (4 * p + s) = 1 → a 9 (4 * p + s) < 32) : f_Drops_add e (aW M e a) (nI p) (nI s) (nI c) = some (nI (if a 8 (4 * p + s) = 1 then (if c < a 9 (4 * p + s) then 2 else 1) else 0), aW M e (if a 8 (4 * p + s) = 0 then aS (aS a 8 (4 * p + s) 1) 9 (4 * p + s) c else if a 8 (4 * p + s) = 1 then aS (aS a 8 (4 * p + s) 2) 10 (4 * p + s) (if c < a 9 (4 * p + s) then 2 else 1) else aS a 8 (4 * p + s) (a 8 (4 * p + s) + 1))) := by
  unfold f_Drops_add
  rw [p_place, pB, show (1 : Int32) = nI 1 from rfl, p_addAt (by omega) (by omega), pB, p_at (by omega) (by omega), pB, aS_s]
  unfold f_Drops_add_b44
  by_cases q0 : a 8 (4 * p + s) = 0
  · rw [if_pos (show nI (a 8 (4 * p + s) + 1) = nI 1 by rw [q0]), p_put (by omega) (by omega), pB, if_neg (show ¬ nI (a 8 (4 * p + s) + 1) = 2 from fun z => by have := (z_inj (y := 2) (by omega) (by omega)).mp z; omega), if_neg (by omega), if_pos q0, q0]
    rfl
  · rw [if_neg (show ¬ nI (a 8 (4 * p + s) + 1) = nI 1 from fun z => by have := (z_inj (by omega) (by omega)).mp z; omega), if_neg q0]
    by_cases q1 : a 8 (4 * p + s) = 1
    · have h9 := hf q1
      rw [if_pos (show nI (a 8 (4 * p + s) + 1) = 2 by rw [q1]; rfl), p_at (by omega) (by omega), pB, aS_c a _ (by omega), p_told (by omega) (by omega), pB, p_put (by omega) (by omega), pB, if_pos q1, if_pos q1, q1]
    · rw [if_neg (show ¬ nI (a 8 (4 * p + s) + 1) = 2 from fun z => by have := (z_inj (y := 2) (by omega) (by omega)).mp z; omega), if_neg q1, if_neg q1]
      rfl
theorem aDl_cong {b : Nat → Nat → Nat} (h : ∀ j, j < 32 → a 5 j = b 5 j) (hs : s < 4) : aDl a p s = aDl b p s := by
  unfold aDl
  refine fb_ct_cong fun j hj => ?_
  rw [h _ (by omega)]
theorem p_countSignal {x y : Nat} (hx : x ≤ 2) (hy : y ≤ 2) : f_Ev_countSignal e (aW M e a) (nI x) (nI y) = some (aW M e (if x = 0 then a else aS (aS a 0 11 (a 0 11 + 1)) 0 12 (a 0 12 + (if x = y then 1 else 0)))) := by
  unfold f_Ev_countSignal f_Ev_countSignal_b29
  by_cases q : x = 0
  · rw [if_pos (show nI x = 0 by rw [q]; rfl), if_pos q]
  · rw [if_neg (show ¬ nI x = 0 from fun z => q ((z_inj (y := 0) (by omega) (by omega)).mp z)), if_neg q, aW_r, nI_1, p_SO, pB, aW_r, show aS a 0 11 (a 0 11 + 1) 0 12 = a 0 12 from aS_k a (by omega)]
    by_cases q2 : x = y
    · rw [if_pos (show nI x = nI y by rw [q2]), if_pos q2, nI_1, p_SO, pB]
    · rw [if_neg (show ¬ nI x = nI y from fun z => q2 ((z_inj (by omega) (by omega)).mp z)), if_neg q2, show (0 : Int32) = nI 0 from rfl, nI_add, p_SO, pB]
theorem p_note (hb : aB a) (hp : a 0 6 < 4) (hs : s < 4) (hc : c < 32) (h8 : a 8 (4 * a 0 6 + s) < 1000) (hf : a 8 (4 * a 0 6 + s) = 1 → a 9 (4 * a 0 6 + s) < 32) : f_Ev_noteBehindLead e (aW M e a) (nI s) (nI c) = some (aW M e (aNt a s c)) := by
  unfold f_Ev_noteBehindLead aNt
  rw [if_neg (show ¬ s = 4294967295 by omega), show (8 : Int32) = nI 8 from rfl, z_div (by omega) (by omega) (by omega)]
  by_cases q : c / 8 = s
  · rw [if_pos (show nI (c / 8) = nI s by rw [q]), if_pos q, p_isSmall hc, pB]
    by_cases q2 : c % 8 < 4
    · rw [if_pos q2, if_neg (show ¬ nI 1 = 0 by decide), if_pos q2, aW_r, p_add hb hp hs hc h8 hf, pB]
      have hd := aDl_le a (a 0 6) s
      unfold aDrop
      by_cases q0 : a 8 (4 * a 0 6 + s) = 0
      · have hb2 : aB (aS (aS a 8 (4 * a 0 6 + s) 1) 9 (4 * a 0 6 + s) c) := fun c' j hcj => by
          unfold aS
          split
          · omega
          · split
            · omega
            · exact hb c' j hcj
        have ed : aDl (aS (aS a 8 (4 * a 0 6 + s) 1) 9 (4 * a 0 6 + s) c) (a 0 6) s = aDl a (a 0 6) s := aDl_cong (fun j _ => (aS_c _ j (by omega)).trans (aS_c a j (by omega))) hs
        simp only [if_pos q0, if_neg (show ¬ a 8 (4 * a 0 6 + s) = 1 by omega)]
        rw [aW_r, show aS (aS a 8 (4 * a 0 6 + s) 1) 9 (4 * a 0 6 + s) c 0 6 = a 0 6 from (aS_c _ 6 (by omega)).trans (aS_c a 6 (by omega)), p_dealt hb2 hs (by omega), pB, ed, p_truthFor (by omega), pB, p_countSignal (by omega) (by split <;> omega), pB, if_pos rfl]
      · by_cases q1 : a 8 (4 * a 0 6 + s) = 1
        · have hb2 : aB (aS (aS a 8 (4 * a 0 6 + s) 2) 10 (4 * a 0 6 + s) (if c < a 9 (4 * a 0 6 + s) then 2 else 1)) := fun c' j hcj => by
            unfold aS
            split
            · split <;> omega
            · split
              · omega
              · exact hb c' j hcj
          have ed : aDl (aS (aS a 8 (4 * a 0 6 + s) 2) 10 (4 * a 0 6 + s) (if c < a 9 (4 * a 0 6 + s) then 2 else 1)) (a 0 6) s = aDl a (a 0 6) s := aDl_cong (fun j _ => (aS_c _ j (by omega)).trans (aS_c a j (by omega))) hs
          simp only [if_neg q0, if_pos q1]
          have hsig : (if c < a 9 (4 * a 0 6 + s) then 2 else 1) ≤ 2 ∧ ¬ (if c < a 9 (4 * a 0 6 + s) then 2 else 1) = 0 := by split <;> omega
          rw [aW_r, show aS (aS a 8 (4 * a 0 6 + s) 2) 10 (4 * a 0 6 + s) (if c < a 9 (4 * a 0 6 + s) then 2 else 1) 0 6 = a 0 6 from (aS_c _ 6 (by omega)).trans (aS_c a 6 (by omega)), p_dealt hb2 hs (by omega), pB, ed, p_truthFor (by omega), pB, p_countSignal hsig.1 (by split <;> omega), pB, if_neg hsig.2]
          rw [show aS (aS a 8 (4 * a 0 6 + s) 2) 10 (4 * a 0 6 + s) (if c < a 9 (4 * a 0 6 + s) then 2 else 1) 0 11 = a 0 11 from (aS_c _ 11 (by omega)).trans (aS_c a 11 (by omega)), show aS (aS a 8 (4 * a 0 6 + s) 2) 10 (4 * a 0 6 + s) (if c < a 9 (4 * a 0 6 + s) then 2 else 1) 0 12 = a 0 12 from (aS_c _ 12 (by omega)).trans (aS_c a 12 (by omega))]
        · have hb2 : aB (aS a 8 (4 * a 0 6 + s) (a 8 (4 * a 0 6 + s) + 1)) := fun c' j hcj => by
            unfold aS
            split
            · omega
            · exact hb c' j hcj
          have ed : aDl (aS a 8 (4 * a 0 6 + s) (a 8 (4 * a 0 6 + s) + 1)) (a 0 6) s = aDl a (a 0 6) s := aDl_cong (fun j _ => aS_c a j (by omega)) hs
          simp only [if_neg q0, if_neg q1]
          rw [aW_r, show aS a 8 (4 * a 0 6 + s) (a 8 (4 * a 0 6 + s) + 1) 0 6 = a 0 6 from aS_c a 6 (by omega), p_dealt hb2 hs (by omega), pB, ed, p_truthFor (by omega), pB, p_countSignal (by omega) (by split <;> omega), pB, if_pos rfl]
    · rw [if_neg q2, if_pos (show nI 0 = 0 from rfl), if_neg q2]
  · rw [if_neg (show ¬ nI (c / 8) = nI s from fun z => q ((z_inj (by omega) (by omega)).mp z)), if_neg q, aW_r, p_showNone hp hs, pB]
end LY
