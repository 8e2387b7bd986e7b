-- ===== PURE: a card is laid down: the class, second half =====
section LZ
variable {M : gMem} {e k p s c : Nat} {a : Nat → Nat → Nat}
theorem p_beats {x y t : Nat} (hx : x < 2 ^ 31) (hy : y < 2 ^ 31) (ht : t < 2 ^ 31) : f_DS_beats (nI x) (nI y) (nI t) = some (nI (if aBt x y t = true then 1 else 0)) := by
  unfold f_DS_beats aBt
  rw [show (8 : Int32) = nI 8 from rfl, z_div hx (by omega) (by omega), z_div hy (by omega) (by omega)]
  by_cases q : x / 8 = y / 8
  · rw [if_pos (show nI (x / 8) = nI (y / 8) by rw [q]), if_pos q]
    by_cases q2 : y < x
    · rw [if_neg (nI_ge q2 hx), if_pos (decide_eq_true q2)]; rfl
    · rw [if_pos (nI_le (by omega) hy), if_neg (fun z => q2 (of_decide_eq_true z))]; rfl
  · rw [if_neg (show ¬ nI (x / 8) = nI (y / 8) from fun z => q ((z_inj (by omega) (by omega)).mp z)), if_neg q]
    by_cases q2 : x / 8 = t
    · rw [if_pos (show nI (x / 8) = nI t by rw [q2]), if_pos (decide_eq_true q2)]; rfl
    · rw [if_neg (show ¬ nI (x / 8) = nI t from fun z => q2 ((z_inj (by omega) (by omega)).mp z)), if_neg (fun z => q2 (of_decide_eq_true z))]; rfl
/-- on any row of cards: four places from 'from' on -/
theorem p_winning {g c0 n f t : Nat} {h : Nat → Nat} (hM : ∀ j, j < 4 → f_DS_at g c0 n M (nI (f + j)) = some (nI (h j))) (hh : ∀ j, j < 4 → h j < 2 ^ 31) (ht : t < 2 ^ 31) : f_DS_winningPlace g c0 n M (nI f) (nI t) = some (nI (aWn h t 3)) := by
  unfold f_DS_winningPlace f_DS_winningPlace_l5
  refine pFor0 (fun i => (nI (aWn h t i), nI (i + 1))) 3 rfl (fun i hi => ?_) (pLx ?_)
  · show f_DS_winningPlace_s5 g c0 n M (nI f) (nI t) (nI (aWn h t i)) (nI (i + 1)) = _
    unfold f_DS_winningPlace_s5 f_DS_winningPlace_b36
    have hw := aWn_le h t i
    rw [show (4 : Int32) = nI 4 from rfl, if_neg (nI_ge (by omega) (by omega)), nI_add, hM (i + 1) (by omega), pB, nI_add, hM _ (by omega), pB, p_beats (hh _ (by omega)) (hh _ (by omega)) ht, pB]
    show _ = some (Sum.inl (nI (if _ then _ else _), nI (i + 1 + 1)))
    by_cases q : aBt (h (i + 1)) (h (aWn h t i)) t = true
    · rw [if_pos q, if_neg (show ¬ nI 1 = 0 by decide), if_pos q, nI_1]
    · rw [if_neg q, if_pos (show nI 0 = 0 from rfl), if_neg q, nI_1]
  · show f_DS_winningPlace_s5 g c0 n M (nI f) (nI t) (nI (aWn h t 3)) (nI (3 + 1)) = _
    unfold f_DS_winningPlace_s5
    rw [show (4 : Int32) = nI 4 from rfl, if_pos (nI_le (by omega) (by omega))]
theorem p_addScore (hbd : a 0 9 < 4) (hlv : a 0 7 ≤ 4) (htr : a 3 (a 0 9 % 2) < 1000) : f_Ev_addScore e (aW M e a) = some (aW M e (aSc a)) := by
  unfold f_Ev_addScore aSc
  rw [aW_r, show (2 : Int32) = nI 2 from rfl, z_rem (by omega) (by omega) (by omega), p_at (by omega) (by omega), pB, aW_r, show (4 : Int32) = nI 4 from rfl, nI_add]
  by_cases q : a 3 (a 0 9 % 2) < 4 + a 0 7
  · rw [if_pos (nI_lt q (by omega)), if_pos q, pk_sub (by omega), show (10 : Int32) = nI 10 from rfl, pk_mul, show (1 : Int32) = nI 1 from rfl, pk_sub (by omega), p_addAt (by omega) (by omega), pB]
  · rw [if_neg (nI_nlt (by omega) (by omega)), if_neg q, pk_sub (by omega), show (10 : Int32) = nI 10 from rfl, pk_mul, pk_mul, nI_add, p_addAt (by omega) (by omega), pB]
theorem p_endTrick (hb : aB a) (ht : a 0 6 < 4) (hl : 4 ≤ a 1 3) (hl2 : a 1 3 ≤ 32) (ho : ∀ t, t < a 1 3 → a 7 t < 32) (hsu : a 0 8 ≤ 4) (hlv : a 0 7 ≤ 4) (hbd : a 0 9 < 4) (htr : ∀ j, j < 2 → a 3 j < 900) : f_Ev_endTrick e (aW M e a) = some (aW M e (aEt a)) := by
  unfold f_Ev_endTrick aEt
  have hw := aWn_le (fun j => a 7 (a 1 3 - 4 + j)) (a 0 8) 3
  have hwi : aWi a ≤ 3 := hw
  have hpw : aPw a < 4 := by unfold aPw; omega
  rw [aW_r, p_nextP (by omega), pB, aW_r, show (4 : Int32) = nI 4 from rfl, pk_sub hl, aW_r, p_winning (h := fun j => a 7 (a 1 3 - 4 + j)) (fun j hj => p_at (by omega) (by omega)) (fun j hj => by have := ho (a 1 3 - 4 + j) (by omega); show a 7 (a 1 3 - 4 + j) < _; omega) (by omega), pB]
  rw [show aWn (fun j => a 7 (a 1 3 - 4 + j)) (a 0 8) 3 = aWi a from rfl, nI_add, z_rem (by omega) (by omega) (by omega), show ((a 0 6 + 1) % 4 + aWi a) % 4 = aPw a from rfl, show (2 : Int32) = nI 2 from rfl, z_rem (by omega) (by omega) (by omega), show (1 : Int32) = nI 1 from rfl, p_addAt (by omega) (by omega), pB, p_SO, pB, aW_r]
  rw [show aS (aS a 3 (aPw a % 2) (a 3 (aPw a % 2) + 1)) 0 6 (aPw a) = aTk a (aPw a) from rfl]
  have e13 : aTk a (aPw a) 1 3 = a 1 3 := (aS_c _ 3 (by omega)).trans (aS_c a 3 (by omega))
  rw [e13]
  by_cases q : a 1 3 = 32
  · rw [if_pos (show nI (a 1 3) = 32 by rw [q]; rfl), if_pos q, show (3 : Int32) = nI 3 from rfl, p_SO, pB, z_n1, p_SO, pB]
    have e9 : aS (aS (aTk a (aPw a)) 0 5 3) 0 6 4294967295 0 9 = a 0 9 := by
      unfold aTk
      simp (disch := omega) only [aS_k, aS_c]
    have e7 : aS (aS (aTk a (aPw a)) 0 5 3) 0 6 4294967295 0 7 = a 0 7 := by
      unfold aTk
      simp (disch := omega) only [aS_k, aS_c]
    have e3 : aS (aS (aTk a (aPw a)) 0 5 3) 0 6 4294967295 3 (a 0 9 % 2) < 1000 := by
      have h1 := htr (a 0 9 % 2) (by omega)
      have h2 := htr (aPw a % 2) (by omega)
      unfold aTk
      simp (disch := omega) only [aS_c]
      rw [aS_at]
      split <;> omega
    rw [p_addScore (by omega) (by omega) (by rw [e9]; exact e3), pB]
  · rw [if_neg (show ¬ nI (a 1 3) = 32 from fun z => q ((z_inj (y := 32) (by omega) (by omega)).mp z)), if_neg q]
theorem p_next (hb : aB a) (ht : a 0 6 < 4) (hl : 1 ≤ a 1 3) (hl2 : a 1 3 ≤ 32) (ho : ∀ t, t < a 1 3 → a 7 t < 32) (hsu : a 0 8 ≤ 4) (hlv : a 0 7 ≤ 4) (hbd : a 0 9 < 4) (htr : ∀ j, j < 2 → a 3 j < 900) : f_Ev_layDown_b27 e (aW M e a) = some (aW M e (aNx a)) := by
  unfold f_Ev_layDown_b27 aNx
  rw [p_trickSize hl2, pB]
  by_cases q : a 1 3 % 4 = 0
  · rw [if_pos (show nI (a 1 3 % 4) = 0 by rw [q]; rfl), if_pos q, p_endTrick hb ht (by omega) hl2 ho hsu hlv hbd htr, pB]
  · rw [if_neg (show ¬ nI (a 1 3 % 4) = 0 from fun z => q ((z_inj (y := 0) (by omega) (by omega)).mp z)), if_neg q, aW_r, p_nextP (by omega), pB, p_SO, pB]
theorem aNt_c (a : Nat → Nat → Nat) (l c c' j : Nat) (h : c' ≠ 8 ∧ c' ≠ 9 ∧ c' ≠ 10 ∧ c' ≠ 11) (h0 : c' = 0 → j ≠ 11 ∧ j ≠ 12) : aNt a l c c' j = a c' j := by
  have k0 : ∀ (b : Nat → Nat → Nat) (j' v : Nat), (j' = 11 ∨ j' = 12) → aS b 0 j' v c' j = b c' j := by
    intro b j' v hj
    by_cases q : c' = 0
    · subst q
      have := h0 rfl
      exact aS_k b (by omega)
    · exact aS_c b j q
  unfold aNt aDrop
  split
  · rfl
  · split
    · split
      · split
        · rw [aS_c _ _ (by omega), aS_c _ _ (by omega)]
        · split
          · rw [k0 _ _ _ (Or.inr rfl), k0 _ _ _ (Or.inl rfl), aS_c _ _ (by omega), aS_c _ _ (by omega)]
          · rw [aS_c _ _ (by omega)]
      · rfl
    · rw [aS_c _ _ (by omega)]
theorem aNt_b (hb : aB a) (l : Nat) (hc : c < 32) (h8 : ∀ k, a 8 k < 1000) : aB (aNt a l c) := by
  intro c' j hcj
  have h := hb c' j hcj
  unfold aNt aDrop
  split
  · exact h
  · split
    · split
      · split
        · rw [aS, aS]; repeat' split
          all_goals omega
        · split
          · rw [aS, aS, aS, aS]; repeat' split
            all_goals omega
          · have := h8 (4 * a 0 6 + l)
            rw [aS]; split
            all_goals omega
      · exact h
    · rw [aS]; split
      all_goals omega
theorem aL1_b (hb : aB a) (hl : a 1 3 < 32) (hc : c < 32) : aB (aL1 a c) := by
  intro c' j hcj
  have h := hb c' j hcj
  unfold aL1
  rw [aS, aS, aS]
  repeat' split
  all_goals omega
/-- what a play needs -/
def aP (a : Nat → Nat → Nat) : Prop := aO a ∧ aF a ∧ a 0 5 = 2 ∧ a 0 6 < 4 ∧ a 1 3 < 32 ∧ a 0 8 ≤ 4 ∧ a 0 7 ≤ 4 ∧ a 0 9 < 4 ∧ (∀ j, j < 2 → a 3 j < 900) ∧ (∀ k, a 8 k < 900)
theorem p_layDown (h : aP a) (hc : c < 32) : f_Ev_layDown e (aW M e a) (nI c) = some (aW M e (aLay a c)) := by
  obtain ⟨ho, hF, hp, ht, hl, hsu, hlv, hbd, htr, h8⟩ := h
  unfold f_Ev_layDown aLay
  rw [p_ledSuit ho.2.1 ho.2.2, pB, p_lay hl hc, pB, z_m1]
  have x6 : aL1 a c 0 6 = a 0 6 := by unfold aL1; simp (disch := omega) only [aS_c]
  have x8 : ∀ j, aL1 a c 8 j = a 8 j := fun j => by unfold aL1; simp (disch := omega) only [aS_c]
  have x9 : ∀ j, aL1 a c 9 j = a 9 j := fun j => by unfold aL1; simp (disch := omega) only [aS_c]
  have xb := aL1_b ho.1 hl hc
  have x13 : aL1 a c 1 3 = a 1 3 + 1 := by unfold aL1; exact aS_s _ _ _ _
  have x7 : ∀ t, t < a 1 3 + 1 → aL1 a c 7 t < 32 := fun t q => by
    unfold aL1
    simp (disch := omega) only [aS_c]
    rw [aS_at]
    split
    · exact hc
    · exact ho.2.2 t (by omega)
  have xo : ∀ c' j, c' ≠ 7 → c' ≠ 6 → c' ≠ 1 → aL1 a c c' j = a c' j := fun c' j h1 h2 h3 => by
    unfold aL1
    rw [aS_c _ _ h3, aS_c _ _ h2, aS_c _ _ h1]
  have fin : ∀ b, aB b → b 0 6 = a 0 6 → b 1 3 = a 1 3 + 1 → (∀ t, t < a 1 3 + 1 → b 7 t < 32) → b 0 8 = a 0 8 → b 0 7 = a 0 7 → b 0 9 = a 0 9 → (∀ j, b 3 j = a 3 j) → f_Ev_layDown_b27 e (aW M e b) = some (aW M e (aNx b)) := fun b y1 y2 y3 y4 y5 y6 y7 y8 => p_next y1 (by omega) (by omega) (by omega) (by rw [y3]; exact y4) (by omega) (by omega) (by omega) (fun j hj => by rw [y8]; exact htr j hj)
  rcases aLed_lt ho.2.1 ho.2.2 with q | q
  · rw [if_pos (show nI (aLed a) = nI 4294967295 by rw [q]), show aNt (aL1 a c) (aLed a) c = aL1 a c by unfold aNt; rw [if_pos q]]
    exact fin _ xb x6 x13 x7 (xo 0 8 (by omega) (by omega) (by omega)) (xo 0 7 (by omega) (by omega) (by omega)) (xo 0 9 (by omega) (by omega) (by omega)) (fun j => xo 3 j (by omega) (by omega) (by omega))
  · rw [if_neg (show ¬ nI (aLed a) = nI 4294967295 from fun z => by have := (z_inj (by omega) (by omega)).mp z; omega), p_note xb (by omega) q hc (by rw [x6, x8]; have := h8 (4 * a 0 6 + aLed a); omega) (by rw [x6, x8, x9]; exact fun z => (hF _ _ ht q (by omega)).1), pB]
    have y : ∀ c' j, (c' ≠ 8 ∧ c' ≠ 9 ∧ c' ≠ 10 ∧ c' ≠ 11) → (c' = 0 → j ≠ 11 ∧ j ≠ 12) → aNt (aL1 a c) (aLed a) c c' j = aL1 a c c' j := fun c' j h1 h2 => aNt_c _ _ _ _ _ h1 h2
    exact fin _ (aNt_b xb _ hc (fun k => by rw [x8]; have := h8 k; omega)) ((y 0 6 (by omega) (by omega)).trans x6) ((y 1 3 (by omega) (by omega)).trans x13) (fun t q2 => by rw [y 7 t (by omega) (by omega)]; exact x7 t q2) ((y 0 8 (by omega) (by omega)).trans (xo 0 8 (by omega) (by omega) (by omega))) ((y 0 7 (by omega) (by omega)).trans (xo 0 7 (by omega) (by omega) (by omega))) ((y 0 9 (by omega) (by omega)).trans (xo 0 9 (by omega) (by omega) (by omega))) (fun j => (y 3 j (by omega) (by omega)).trans (xo 3 j (by omega) (by omega) (by omega)))
end LZ
