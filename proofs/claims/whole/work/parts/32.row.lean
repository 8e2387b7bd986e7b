-- ===== PURE: the model's row, against an evening in numbers; its readers =====
def rW (M : gMem) (c : Nat) (r : Nat → Nat) : gMem := gUp M 19 c (fun j => nI (r j))
def rS (r : Nat → Nat) (k v : Nat) : Nat → Nat := fun j => if j = k then v else r j
theorem rS_s (r : Nat → Nat) (k v : Nat) : rS r k v k = v := by unfold rS; rw [if_pos rfl]
theorem rS_n (r : Nat → Nat) {k v j : Nat} (h : j ≠ k) : rS r k v j = r j := by unfold rS; rw [if_neg h]
theorem rW_r (M : gMem) (c : Nat) (r : Nat → Nat) : rW M c r 19 c = fun j => nI (r j) := by unfold rW; rw [gUp_s]
theorem q_rd {M : gMem} {c n k : Nat} {r : Nat → Nat} (h : k < n) (hn : n < 2 ^ 31) : gRd n (rW M c r 19 c) (nI k) = some (nI (r k)) := by rw [pRd _ h hn, rW_r]
theorem q_wr {M : gMem} {c n k v : Nat} {r : Nat → Nat} (h : k < n) (hn : n < 2 ^ 31) : gWr (rW M c r) 19 c n (nI k) (nI v) = some (rW M c (rS r k v)) := by
  rw [pWr _ _ _ _ h hn, rW_r]
  unfold rW
  rw [pUp2]
  congr 2
  funext j
  unfold upd rS
  split <;> rfl
/-- the row r is the evening a -/
def RM (a : Nat → Nat → Nat) (r : Nat → Nat) : Prop :=
  (r 0 = a 0 4 ∧ r 1 = a 0 5 ∧ (a 0 5 = 1 ∨ a 0 5 = 2 → r 2 = a 0 6) ∧ r 3 = 10 * a 0 7 + a 0 8 ∧ r 4 = (if a 0 5 = 1 then 4294967295 else a 0 9) ∧ r 5 = a 3 0 ∧ r 6 = a 3 1 ∧ r 7 = a 4 0 ∧ r 8 = a 4 1 ∧ r 9 = a 0 11 ∧ r 10 = a 0 12 ∧ r 11 = a 0 13 ∧ r 12 = a 0 10 ∧ r 13 = a 0 9 ∧ r 14 = a 1 3 ∧ r 15 = a 1 3 % 4 ∧ (a 0 5 = 2 → r 20 = (a 0 6 + 4 - a 1 3 % 4) % 4))
  ∧ (∀ j, j < a 1 3 % 4 → r (16 + j) = a 7 (a 1 3 - a 1 3 % 4 + j))
  ∧ (∀ c, c < 32 → r (21 + c) = aH a c ∧ r (53 + c) = a 5 c ∧ r (85 + c) = a 6 c)
  ∧ (∀ p s, p < 4 → s < 4 → r (117 + (4 * p + s)) = a 8 (4 * p + s) ∧ r (133 + (4 * p + s)) = a 9 (4 * p + s) ∧ r (149 + (4 * p + s)) = a 10 (4 * p + s) ∧ r (165 + (4 * p + s)) = aTr a p s ∧ r (181 + (4 * p + s)) = a 11 (4 * p + s))
/-- what every evening has: numbers of 32 bits, at most 32 cards laid, each a card -/
def aO (a : Nat → Nat → Nat) : Prop := aB a ∧ a 1 3 ≤ 32 ∧ (∀ t, t < a 1 3 → a 7 t < 32)
theorem q_holds {M : gMem} {k p s : Nat} {r : Nat → Nat} {a : Nat → Nat → Nat} (hR : RM a r) (hb : aB a) (hs : s < 4) (hp : p < 4294967296) : f_Mo_holds 19 k 197 (rW M k r) (nI p) (nI s) = some (nI (aHd a p s)) := by
  unfold f_Mo_holds f_Mo_holds_l8
  refine pFor0 (fun i => (nI (fb_ct (fun r => decide (aH a (8 * s + r) = p)) i), nI (8 * s + i))) 8 ?_ ?_ ?_
  · show (0, 8 * nI s) = (nI 0, nI (8 * s + 0))
    rw [show (8 : Int32) = nI 8 from rfl, pk_mul]; rfl
  · intro i hi
    show f_Mo_holds_s8 19 k 197 (rW M k r) (nI p) (nI s) _ (nI (8 * s + i)) = _
    unfold f_Mo_holds_s8 f_Mo_holds_b37
    rw [show (8 : Int32) = nI 8 from rfl, pk_mul, nI_add, if_neg (nI_ge (by omega) (by omega)), show (21 : Int32) = nI 21 from rfl, nI_add, q_rd (by omega) (by omega), pB, (hR.2.2.1 (8 * s + i) (by omega)).1]
    have h5 := aH_b hb (8 * s + i)
    by_cases q : aH a (8 * s + i) = p
    · rw [if_pos (by rw [q]), nI_1, nI_1, ct_1 (fun r => decide (aH a (8 * s + r) = p)) i (decide_eq_true q)]; rfl
    · rw [if_neg (fun z => q ((z_inj h5 hp).mp z)), nI_1, show (0 : Int32) = nI 0 from rfl, nI_add, ← ct_0 (fun r => decide (aH a (8 * s + r) = p)) i (fun z => q (of_decide_eq_true z))]; rfl
  · exact pLx (by
      show f_Mo_holds_s8 19 k 197 (rW M k r) (nI p) (nI s) _ (nI (8 * s + 8)) = _
      unfold f_Mo_holds_s8
      rw [show (8 : Int32) = nI 8 from rfl, pk_mul, nI_add, if_pos (nI_le (Nat.le_refl _) (by omega))]
      rfl)
theorem q_wasDealt {M : gMem} {k p s : Nat} {r : Nat → Nat} {a : Nat → Nat → Nat} (hR : RM a r) (hb : aB a) (hs : s < 4) (hp : p < 4294967296) : f_Mo_wasDealt 19 k 197 (rW M k r) (nI p) (nI s) = some (nI (aDl a p s)) := by
  unfold f_Mo_wasDealt f_Mo_wasDealt_l8
  refine pFor0 (fun i => (nI (fb_ct (fun r => decide (a 5 (8 * s + r) = p)) i), nI (8 * s + i))) 8 ?_ ?_ ?_
  · show (0, 8 * nI s) = (nI 0, nI (8 * s + 0))
    rw [show (8 : Int32) = nI 8 from rfl, pk_mul]; rfl
  · intro i hi
    show f_Mo_wasDealt_s8 19 k 197 (rW M k r) (nI p) (nI s) _ (nI (8 * s + i)) = _
    unfold f_Mo_wasDealt_s8 f_Mo_wasDealt_b37
    rw [show (8 : Int32) = nI 8 from rfl, pk_mul, nI_add, if_neg (nI_ge (by omega) (by omega)), show (53 : Int32) = nI 53 from rfl, nI_add, q_rd (by omega) (by omega), pB, (hR.2.2.1 (8 * s + i) (by omega)).2.1]
    have h5 := hb 5 (8 * s + i) (by omega)
    by_cases q : a 5 (8 * s + i) = p
    · rw [if_pos (by rw [q]), nI_1, nI_1, ct_1 (fun r => decide (a 5 (8 * s + r) = p)) i (decide_eq_true q)]; rfl
    · rw [if_neg (fun z => q ((z_inj h5 hp).mp z)), nI_1, show (0 : Int32) = nI 0 from rfl, nI_add, ← ct_0 (fun r => decide (a 5 (8 * s + r) = p)) i (fun z => q (of_decide_eq_true z))]; rfl
  · exact pLx (by
      show f_Mo_wasDealt_s8 19 k 197 (rW M k r) (nI p) (nI s) _ (nI (8 * s + 8)) = _
      unfold f_Mo_wasDealt_s8
      rw [show (8 : Int32) = nI 8 from rfl, pk_mul, nI_add, if_pos (nI_le (Nat.le_refl _) (by omega))]
      rfl)
theorem aHs_sm (a : Nat → Nat → Nat) (p : Nat) : fb_sm (fun s => aHd a p s) 4 = aHs a p := by
  have e : ∀ n, fb_sm (fun s => aHd a p s) n = fb_ct (fun c => decide (aH a c = p)) (8 * n) := by
    intro n
    induction n with
    | zero => rfl
    | succ n ih =>
      rw [fb_sm_succ, ih, show 8 * (n + 1) = 8 * n + 8 by omega, fb_ct_split]
      rfl
  exact e 4
section RQ
variable {M : gMem} {k p s c : Nat} {r : Nat → Nat} {a : Nat → Nat → Nat}
theorem q_hand (hR : RM a r) (hb : aB a) (hp : p < 4294967296) : f_Mo_hand 19 k 197 (rW M k r) (nI p) = some (nI (aHs a p)) := by
  unfold f_Mo_hand f_Mo_hand_l4
  rw [← aHs_sm]
  refine pFor0 (fun i => (nI (fb_sm (fun s => aHd a p s) i), nI i)) 4 rfl ?_ ?_
  · intro i hi
    show f_Mo_hand_s4 19 k 197 (rW M k r) (nI p) _ (nI i) = _
    unfold f_Mo_hand_s4
    rw [show (4 : Int32) = nI 4 from rfl, if_neg (nI_ge hi (by omega)), q_holds hR hb hi hp, pB, nI_1, nI_add]
    rfl
  · exact pLx (by
      show f_Mo_hand_s4 19 k 197 (rW M k r) (nI p) _ (nI 4) = _
      unfold f_Mo_hand_s4
      rw [show (4 : Int32) = nI 4 from rfl, if_pos (nI_le (Nat.le_refl _) (by omega))])
theorem q_suit (h : c < 2 ^ 31) : f_Mo_suit (nI c) = some (nI (c / 8)) := by
  unfold f_Mo_suit
  rw [show (8 : Int32) = nI 8 from rfl, z_div h (by omega) (by omega)]
theorem q_rank (h : c < 2 ^ 31) : f_Mo_rank (nI c) = some (nI (c % 8)) := by
  unfold f_Mo_rank
  rw [show (8 : Int32) = nI 8 from rfl, z_rem h (by omega) (by omega)]
theorem q_isSmall (h : c < 2 ^ 31) : f_Mo_isSmall (nI c) = some (nI (if c % 8 < 4 then 1 else 0)) := by
  unfold f_Mo_isSmall
  rw [q_rank h, pB, show (4 : Int32) = nI 4 from rfl]
  by_cases q : c % 8 < 4
  · rw [if_neg (nI_ge q (by omega)), if_pos q]; rfl
  · rw [if_pos (nI_le (by omega) (by omega)), if_neg q]; rfl
theorem RM.r15 (hR : RM a r) : r 15 = a 1 3 % 4 := hR.1.2.2.2.2.2.2.2.2.2.2.2.2.2.2.2.1
theorem RM.r14 (hR : RM a r) : r 14 = a 1 3 := hR.1.2.2.2.2.2.2.2.2.2.2.2.2.2.2.1
theorem RM.r2 (hR : RM a r) (h : a 0 5 = 1 ∨ a 0 5 = 2) : r 2 = a 0 6 := hR.1.2.2.1 h
theorem RM.r1 (hR : RM a r) : r 1 = a 0 5 := hR.1.2.1
theorem RM.r3 (hR : RM a r) : r 3 = 10 * a 0 7 + a 0 8 := hR.1.2.2.2.1
theorem q_led (hR : RM a r) (ho : aO a) : f_Mo_led 19 k 197 (rW M k r) = some (nI (aLed a)) := by
  unfold f_Mo_led aLed
  rw [show (15 : Int32) = nI 15 from rfl, q_rd (by omega) (by omega), pB, hR.r15, show (0 : Int32) = nI 0 from rfl]
  by_cases q : a 1 3 % 4 = 0
  · rw [if_pos (by rw [q]), if_pos q, z_m1]
  · have h1 := hR.2.1 0 (by omega)
    have h2 := ho.2.2 (a 1 3 - a 1 3 % 4) (by omega)
    rw [if_neg (fun z => q ((z_inj (by omega) (by omega)).mp z)), if_neg q, show (16 : Int32) = nI 16 from rfl, q_rd (by omega) (by omega), pB, show r 16 = a 7 (a 1 3 - a 1 3 % 4) from h1, q_suit (by omega), pB]
theorem q_follows (hR : RM a r) (ho : aO a) (hp : a 0 5 = 1 ∨ a 0 5 = 2) (ht : a 0 6 < 4) : f_Mo_follows 19 k 197 (rW M k r) = some (nI (if aFw a = 4294967295 then 0 else 1)) := by
  unfold f_Mo_follows
  have hl := ho.2.1
  rw [show (15 : Int32) = nI 15 from rfl, q_rd (by omega) (by omega), pB, hR.r15, show (0 : Int32) = nI 0 from rfl]
  by_cases q : a 1 3 % 4 = 0
  · have h0 : aFw a = 4294967295 := by unfold aFw aLed; rw [if_pos q, if_pos rfl]
    rw [if_pos (nI_le (by omega) (by omega)), if_pos h0]
  · have h1 : aLed a < 4 := by
      rcases aLed_lt ho.2.1 ho.2.2 with z | z
      · unfold aLed at z
        rw [if_neg q] at z
        have := ho.2.2 (a 1 3 - a 1 3 % 4) (by omega)
        omega
      · exact z
    have hd := aHd_le a (a 0 6) (aLed a)
    rw [if_neg (nI_ge (by omega) (by omega)), show (2 : Int32) = nI 2 from rfl, q_rd (by omega) (by omega), pB, hR.r2 hp, q_led hR ho, pB, q_holds hR ho.1 h1 (by omega), pB]
    unfold aFw
    rw [if_neg (show ¬ aLed a = 4294967295 by omega)]
    by_cases q2 : aHd a (a 0 6) (aLed a) = 0
    · rw [if_pos (nI_le (by omega) (by omega)), if_pos q2, if_pos rfl]
    · rw [if_neg (nI_ge (by omega) (by omega)), if_neg q2, if_neg (by omega)]; rfl
theorem q_reason (hR : RM a r) (ho : aO a) (hp : a 0 5 = 1 ∨ a 0 5 = 2) (ht : a 0 6 < 4) (hc : c < 32) : f_Mo_reason 19 k 197 (rW M k r) (nI c) = some (nI (aRs a c)) := by
  unfold f_Mo_reason aRs
  have hh := aH_b ho.1 c
  rw [show (21 : Int32) = nI 21 from rfl, nI_add, q_rd (by omega) (by omega), pB, show (2 : Int32) = nI 2 from rfl, q_rd (by omega) (by omega), pB, hR.r2 hp, (hR.2.2.1 c hc).1]
  by_cases q : aH a c = a 0 6
  · rw [if_pos (by rw [q]), if_pos q, q_follows hR ho hp ht, pB]
    rcases aFw_lt ho.2.1 ho.2.2 with q2 | ⟨q2, q3⟩
    · rw [if_pos q2, if_pos (show nI 0 = 0 from rfl), if_pos (Or.inl q2)]; rfl
    · rw [if_neg (show ¬ aFw a = 4294967295 by omega), if_neg (show ¬ nI 1 = 0 by decide), q_suit (by omega), pB, q_led hR ho, pB, ← q3]
      by_cases q4 : c / 8 = aFw a
      · rw [if_pos (by rw [q4]), if_pos (Or.inr q4)]; rfl
      · rw [if_neg (fun z => q4 ((z_inj (by omega) (by omega)).mp z)), if_neg (show ¬ (aFw a = 4294967295 ∨ c / 8 = aFw a) by omega)]
  · rw [if_neg (fun z => q ((z_inj hh (by omega)).mp z)), if_neg q]; rfl
end RQ
