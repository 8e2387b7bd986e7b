-- ===== PURE: an evening's readers =====
theorem p_nextP {p : Nat} (h : p < 2147483647) : f_DS_nextPlayer (nI p) = some (nI ((p + 1) % 4)) := by
  unfold f_DS_nextPlayer
  rw [nI_1, show (4 : Int32) = nI 4 from rfl, z_rem (by omega) (by omega) (by omega)]
theorem p_isSmall {c : Nat} (h : c < 32) : f_DS_isSmall (nI c) = some (nI (if c % 8 < 4 then 1 else 0)) := by
  unfold f_DS_isSmall
  rw [if_neg (nI_pos (by omega)), show (8 : Int32) = nI 8 from rfl, z_rem (by omega) (by omega) (by omega), show (4 : Int32) = nI 4 from rfl]
  by_cases q : c % 8 < 4
  · rw [if_neg (nI_ge q (by omega)), if_pos q]; rfl
  · rw [if_pos (nI_le (by omega) (by omega)), if_neg q]; rfl
theorem p_told {x y : Nat} (hx : x < 2 ^ 31) (hy : y < 2 ^ 31) : f_Drops_told (nI x) (nI y) = some (nI (if y < x then 2 else 1)) := by
  unfold f_Drops_told
  by_cases q : y < x
  · rw [if_neg (nI_ge q hx), if_pos q]; rfl
  · rw [if_pos (nI_le (by omega) hy), if_neg q]; rfl
theorem p_truthFor {x : Nat} (hx : x < 2 ^ 31) : f_Drops_truthFor (nI x) = some (nI (if x % 2 = 0 then 2 else 1)) := by
  unfold f_Drops_truthFor
  rw [show (2 : Int32) = nI 2 from rfl, z_rem hx (by omega) (by omega), show (0 : Int32) = nI 0 from rfl]
  by_cases q : x % 2 = 0
  · rw [if_pos (by rw [q]), if_pos q]
  · rw [if_neg (fun z => q ((z_inj (by omega) (by omega)).mp z)), if_neg q]; rfl
theorem p_place (p s : Nat) : f_Drops_place (nI p) (nI s) = some (nI (4 * p + s)) := by
  unfold f_Drops_place
  rw [show (4 : Int32) = nI 4 from rfl, pk_mul, nI_add, Nat.mul_comm]
section RD
variable {M : gMem} {e : Nat} {a : Nat → Nat → Nat} {p s c : Nat}
theorem p_count (hp : p < 4) (hs : s < 4) : f_Drops_count e (aW M e a) (nI p) (nI s) = some (nI (a 8 (4 * p + s))) := by
  unfold f_Drops_count
  rw [p_place, pB, p_at (by omega) (by omega), pB]
theorem p_first (hp : p < 4) (hs : s < 4) : f_Drops_first e (aW M e a) (nI p) (nI s) = some (nI (a 9 (4 * p + s))) := by
  unfold f_Drops_first
  rw [p_place, pB, p_at (by omega) (by omega), pB]
theorem p_signal (hp : p < 4) (hs : s < 4) : f_Drops_signal e (aW M e a) (nI p) (nI s) = some (nI (a 10 (4 * p + s))) := by
  unfold f_Drops_signal
  rw [p_place, pB, p_at (by omega) (by omega), pB]
theorem p_showedNone (hb : aB a) (hp : p < 4) (hs : s < 4) : f_Drops_showedNone e (aW M e a) (nI p) (nI s) = some (nI (if a 11 (4 * p + s) = 1 then 1 else 0)) := by
  unfold f_Drops_showedNone
  rw [p_place, pB, p_at (by omega) (by omega), pB, show (1 : Int32) = nI 1 from rfl]
  have h := hb 11 (4 * p + s) (by omega)
  by_cases q : a 11 (4 * p + s) = 1
  · rw [if_pos (by rw [q]), if_pos q]
  · rw [if_neg (fun z => q ((z_inj h (by omega)).mp z)), if_neg q]; rfl
theorem p_showNone (hp : p < 4) (hs : s < 4) : f_Drops_showNone e (aW M e a) (nI p) (nI s) = some (aW M e (aS a 11 (4 * p + s) 1)) := by
  unfold f_Drops_showNone
  rw [p_place, pB, show (1 : Int32) = nI 1 from rfl, p_put (by omega) (by omega), pB]
theorem p_trickSize (hl : a 1 3 ≤ 32) : f_Cards_trickSize e (aW M e a) = some (nI (a 1 3 % 4)) := by
  unfold f_Cards_trickSize
  rw [aW_r, show (4 : Int32) = nI 4 from rfl, z_rem (by omega) (by omega) (by omega)]
def aLed (a : Nat → Nat → Nat) : Nat := if a 1 3 % 4 = 0 then 4294967295 else a 7 (a 1 3 - a 1 3 % 4) / 8
theorem p_ledSuit (hl : a 1 3 ≤ 32) (ho : ∀ t, t < a 1 3 → a 7 t < 32) : f_Cards_ledSuit e (aW M e a) = some (nI (aLed a)) := by
  unfold f_Cards_ledSuit aLed
  rw [aW_r, show (4 : Int32) = nI 4 from rfl, z_rem (by omega) (by omega) (by omega), show (0 : Int32) = nI 0 from rfl]
  by_cases q : a 1 3 % 4 = 0
  · rw [if_pos (by rw [q]), if_pos q, z_m1]
  · have h := ho (a 1 3 - a 1 3 % 4) (by omega)
    rw [if_neg (fun z => q ((z_inj (by omega) (by omega)).mp z)), if_neg q, pk_sub (by omega), p_at (by omega) (by omega), pB, show (8 : Int32) = nI 8 from rfl, z_div (by omega) (by omega) (by omega)]
theorem aLed_lt (hl : a 1 3 ≤ 32) (ho : ∀ t, t < a 1 3 → a 7 t < 32) : aLed a = 4294967295 ∨ aLed a < 4 := by
  unfold aLed
  by_cases q : a 1 3 % 4 = 0
  · rw [if_pos q]; exact Or.inl rfl
  · rw [if_neg q]
    have h := ho (a 1 3 - a 1 3 % 4) (by omega)
    right
    omega
theorem p_inTrick {k : Nat} (hl : a 1 3 ≤ 32) (hk : k < 4) : f_Cards_inTrick e (aW M e a) (nI k) = some (nI (if k < a 1 3 % 4 then a 7 (a 1 3 - a 1 3 % 4 + k) else 4294967295)) := by
  unfold f_Cards_inTrick
  rw [if_neg (nI_pos (by omega)), p_trickSize hl, pB]
  by_cases q : k < a 1 3 % 4
  · rw [if_neg (nI_ge q (by omega)), if_pos q, pB, aW_r, pk_sub (by omega), nI_add, p_at (by omega) (by omega), pB]
  · rw [if_pos (nI_le (by omega) (by omega)), if_neg q, z_m1]
def aMx (f : Nat → Nat) : Nat → Nat
  | 0 => 0
  | n + 1 => if aMx f n < f n then f n else aMx f n
theorem aMx_le (f : Nat → Nat) (b : Nat) (h : ∀ i, f i ≤ b) : ∀ n, aMx f n ≤ b
  | 0 => Nat.zero_le _
  | n + 1 => by
    show (if aMx f n < f n then f n else aMx f n) ≤ b
    split
    · exact h n
    · exact aMx_le f b h n
theorem aMx_iff (f : Nat → Nat) (b : Nat) : ∀ n, aMx f n ≤ b ↔ ∀ i, i < n → f i ≤ b
  | 0 => ⟨fun _ i hi => absurd hi (Nat.not_lt_zero i), fun _ => Nat.zero_le _⟩
  | n + 1 => by
    have ih := aMx_iff f b n
    show (if aMx f n < f n then f n else aMx f n) ≤ b ↔ _
    constructor
    · intro h i hi
      split at h
      · rcases Nat.lt_or_ge i n with q | q
        · exact ih.mp (by omega) i q
        · rw [show i = n by omega]; exact h
      · rcases Nat.lt_or_ge i n with q | q
        · exact ih.mp h i q
        · rw [show i = n by omega]; omega
    · intro h
      have h1 := ih.mpr fun i hi => h i (by omega)
      have h2 := h n (by omega)
      split <;> omega
theorem aHs_le (a : Nat → Nat → Nat) (p : Nat) : aHs a p ≤ 32 := fb_ct_le _ 32
theorem aHd_le (a : Nat → Nat → Nat) (p s : Nat) : aHd a p s ≤ 8 := fb_ct_le _ 8
theorem aDl_le (a : Nat → Nat → Nat) (p s : Nat) : aDl a p s ≤ 8 := fb_ct_le _ 8
theorem p_largestHand (hb : aB a) : f_Cards_largestHand e (aW M e a) = some (nI (aMx (aHs a) 4)) := by
  unfold f_Cards_largestHand f_Cards_largestHand_l4
  refine pFor0 (fun i => (nI (aMx (aHs a) i), nI i)) 4 rfl ?_ ?_
  · intro i hi
    show f_Cards_largestHand_s4 e (aW M e a) (nI (aMx (aHs a) i)) (nI i) = _
    unfold f_Cards_largestHand_s4
    rw [show (4 : Int32) = nI 4 from rfl, if_neg (nI_ge hi (by omega)), p_handSize hb (by omega), pB, nI_1]
    have h1 := aMx_le (aHs a) 32 (aHs_le a) i
    have h2 := aHs_le a i
    show _ = some (Sum.inl (nI (if aMx (aHs a) i < aHs a i then aHs a i else aMx (aHs a) i), nI (i + 1)))
    by_cases q : aMx (aHs a) i < aHs a i
    · rw [if_pos (nI_lt q (by omega)), if_pos q]
    · rw [if_neg (nI_nlt (by omega) (by omega)), if_neg q]
  · exact pLx (by
      show f_Cards_largestHand_s4 e (aW M e a) (nI (aMx (aHs a) 4)) (nI 4) = _
      unfold f_Cards_largestHand_s4
      rw [show (4 : Int32) = nI 4 from rfl, if_pos (nI_le (Nat.le_refl 4) (by omega))])
def aUn (a : Nat → Nat → Nat) (v s : Nat) : Nat := fb_sm (fun q => if q = v then 0 else aHd a q s) 4
theorem p_unseen {v : Nat} (hb : aB a) (hv : v < 4) (hs : s < 4) : f_Cards_unseen e (aW M e a) (nI v) (nI s) = some (nI (aUn a v s)) := by
  unfold f_Cards_unseen f_Cards_unseen_l5
  refine pFor0 (fun i => (nI (fb_sm (fun q => if q = v then 0 else aHd a q s) i), nI i)) 4 rfl ?_ ?_
  · intro i hi
    show f_Cards_unseen_s5 e (aW M e a) (nI v) (nI s) _ (nI i) = _
    unfold f_Cards_unseen_s5 f_Cards_unseen_b27
    rw [show (4 : Int32) = nI 4 from rfl, if_neg (nI_ge hi (by omega)), p_held hb hs (by omega), pB]
    by_cases q : i = v
    · rw [if_pos (by rw [q]), nI_1, fb_sm_succ, if_pos q]; rfl
    · rw [if_neg (fun z => q ((z_inj (by omega) (by omega)).mp z)), nI_1, nI_add, fb_sm_succ, if_neg q]
  · exact pLx (by
      show f_Cards_unseen_s5 e (aW M e a) (nI v) (nI s) _ (nI 4) = _
      unfold f_Cards_unseen_s5
      rw [show (4 : Int32) = nI 4 from rfl, if_pos (nI_le (Nat.le_refl 4) (by omega))]
      rfl)
def aTr (a : Nat → Nat → Nat) (p s : Nat) : Nat := if a 10 (4 * p + s) = 0 then 4294967295 else if a 10 (4 * p + s) = (if aDl a p s % 2 = 0 then 2 else 1) then 1 else 0
theorem p_truth (hb : aB a) (hp : p < 4) (hs : s < 4) : f_Ev_truth e (aW M e a) (nI p) (nI s) = some (nI (aTr a p s)) := by
  unfold f_Ev_truth aTr
  have h := hb 10 (4 * p + s) (by omega)
  have h2 := aDl_le a p s
  rw [p_signal hp hs, pB, show (0 : Int32) = nI 0 from rfl]
  by_cases q : a 10 (4 * p + s) = 0
  · rw [if_pos (by rw [q]), if_pos q, z_m1]
  · rw [if_neg (fun z => q ((z_inj h (by omega)).mp z)), if_neg q, p_dealt hb hs (by omega), pB, p_truthFor (by omega), pB]
    by_cases q2 : a 10 (4 * p + s) = (if aDl a p s % 2 = 0 then 2 else 1)
    · rw [if_pos (by rw [q2]), if_pos q2]; rfl
    · rw [if_neg (fun z => q2 ((z_inj h (by split <;> omega)).mp z)), if_neg q2]
def aFw (a : Nat → Nat → Nat) : Nat := if aLed a = 4294967295 then 4294967295 else if aHd a (a 0 6) (aLed a) = 0 then 4294967295 else aLed a
theorem p_suitToFollow (hb : aB a) (hl : a 1 3 ≤ 32) (ho : ∀ t, t < a 1 3 → a 7 t < 32) (ht : a 0 6 < 4) : f_Ev_suitToFollow e (aW M e a) = some (nI (aFw a)) := by
  unfold f_Ev_suitToFollow aFw
  rw [p_ledSuit hl ho, pB, z_m1]
  rcases aLed_lt hl ho with q | q
  · rw [if_pos (by rw [q]), if_pos q]
  · have hd := aHd_le a (a 0 6) (aLed a)
    rw [if_neg (fun z => by have := (z_inj (by omega) (by omega)).mp z; omega), if_neg (by omega), aW_r, p_held hb q (by omega), pB, show (0 : Int32) = nI 0 from rfl]
    by_cases q2 : aHd a (a 0 6) (aLed a) = 0
    · rw [if_pos (nI_le (by omega) (by omega)), if_pos q2]
    · rw [if_neg (nI_ge (by omega) (by omega)), if_neg q2]
theorem aFw_lt (hl : a 1 3 ≤ 32) (ho : ∀ t, t < a 1 3 → a 7 t < 32) : aFw a = 4294967295 ∨ (aFw a < 4 ∧ aFw a = aLed a) := by
  unfold aFw
  rcases aLed_lt hl ho with q | q
  · rw [if_pos q]; exact Or.inl rfl
  · rw [if_neg (by omega)]
    split
    · exact Or.inl rfl
    · exact Or.inr ⟨q, rfl⟩
/-- why a card cannot be played -/
def aRs (a : Nat → Nat → Nat) (c : Nat) : Nat := if aH a c = a 0 6 then (if aFw a = 4294967295 ∨ c / 8 = aFw a then 0 else 2) else 1
theorem p_reason (hb : aB a) (hl : a 1 3 ≤ 32) (ho : ∀ t, t < a 1 3 → a 7 t < 32) (ht : a 0 6 < 4) (hc : c < 32) : f_Ev_reasonAgainst e (aW M e a) (nI c) = some (nI (aRs a c)) := by
  unfold f_Ev_reasonAgainst aRs
  have hh := aH_b hb c
  rw [p_holder hb hc, pB, aW_r]
  by_cases q : aH a c = a 0 6
  · rw [if_pos (by rw [q]), if_pos q, p_suitToFollow hb hl ho ht, pB, z_m1]
    rcases aFw_lt hl ho with q2 | ⟨q2, -⟩
    · rw [if_pos (by rw [q2]), if_pos (Or.inl q2)]; rfl
    · rw [if_neg (fun z => by have := (z_inj (by omega) (by omega)).mp z; omega), show (8 : Int32) = nI 8 from rfl, z_div (by omega) (by omega) (by omega)]
      by_cases q3 : c / 8 = aFw a
      · rw [if_pos (by rw [q3]), if_pos (Or.inr q3)]; rfl
      · rw [if_neg (fun z => q3 ((z_inj (by omega) (by omega)).mp z)), if_neg (by omega)]; rfl
  · rw [if_neg (fun z => q ((z_inj hh (by omega)).mp z)), if_neg q]; rfl
end RD
