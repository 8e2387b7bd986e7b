-- ===== PURE: an evening in natural numbers =====
abbrev NN : Nat := 4294967295
def eN (a : Nat → Nat → Nat) : Nat → Nat → Int32 := fun c j => nI (a c j)
def aS (a : Nat → Nat → Nat) (c k v : Nat) : Nat → Nat → Nat := fun c' j => if c' = c ∧ j = k then v else a c' j
theorem aS_s (a : Nat → Nat → Nat) (c k v : Nat) : aS a c k v c k = v := by unfold aS; rw [if_pos ⟨rfl, rfl⟩]
theorem aS_c (a : Nat → Nat → Nat) {c k v c' : Nat} (j : Nat) (h : c' ≠ c) : aS a c k v c' j = a c' j := by unfold aS; rw [if_neg (fun q => h q.1)]
theorem aS_k (a : Nat → Nat → Nat) {c k v j : Nat} (h : j ≠ k) : aS a c k v c j = a c j := by unfold aS; rw [if_neg (fun q => h q.2)]
theorem aS_at (a : Nat → Nat → Nat) (c k v j : Nat) : aS a c k v c j = if j = k then v else a c j := by
  unfold aS
  by_cases h : j = k
  · rw [if_pos ⟨rfl, h⟩, if_pos h]
  · rw [if_neg (fun q => h q.2), if_neg h]
theorem z_ofn (n : Nat) : Int32.ofNat n = nI n := rfl
theorem z_N : nI 4294967295 = -1 := by decide
theorem z_m1 : (-1 : Int32) = nI 4294967295 := by decide
theorem z_n1 : -(nI 1) = nI 4294967295 := by decide
theorem z_inj {x y : Nat} (hx : x < 4294967296) (hy : y < 4294967296) : nI x = nI y ↔ x = y := by
  constructor
  · intro h
    have h1 : (nI x).toBitVec.toNat = (nI y).toBitVec.toNat := by rw [h]
    rwa [pk_tn (by omega), pk_tn (by omega)] at h1
  · intro h
    rw [h]
theorem z_rem {x d : Nat} (hx : x < 2 ^ 31) (h0 : 0 < d) (hd : d < 2 ^ 31) : gRem (nI x) (nI d) = nI (x % d) := pk_rem hx h0 hd
theorem z_div {x d : Nat} (hx : x < 2 ^ 31) (h0 : 0 < d) (hd : d < 2 ^ 31) : nI x / nI d = nI (x / d) := pk_div hx h0 hd
theorem z_lt0 : nI 4294967295 < 0 := by decide
theorem z_ltN {x : Nat} (h : x < 2 ^ 31) : nI 4294967295 < nI x := by
  rw [Int32.lt_iff_toInt_lt, nI_toInt h]
  have : (nI 4294967295).toInt = -1 := by decide
  omega
theorem z_nltN {x : Nat} (h : x < 2 ^ 31) : ¬ nI x < nI 4294967295 := by
  rw [Int32.lt_iff_toInt_lt, nI_toInt h]
  have : (nI 4294967295).toInt = -1 := by decide
  omega
theorem z_leN {x : Nat} (h : x < 2 ^ 31) : nI 4294967295 ≤ nI x := by
  rw [Int32.le_iff_toInt_le, nI_toInt h]
  have : (nI 4294967295).toInt = -1 := by decide
  omega
theorem z_nleN {x : Nat} (h : x < 2 ^ 31) : ¬ nI x ≤ nI 4294967295 := by
  rw [Int32.le_iff_toInt_le, nI_toInt h]
  have : (nI 4294967295).toInt = -1 := by decide
  omega
theorem k_St (a : Nat → Nat → Nat) (c k v : Nat) : kSt (eN a) c k (nI v) = eN (aS a c k v) := by
  funext c' j
  rw [kSt_at]
  unfold eN aS
  by_cases h : c' = c
  · subst h
    by_cases h2 : j = k
    · rw [if_pos rfl, if_pos h2, if_pos ⟨rfl, h2⟩]
    · rw [if_pos rfl, if_neg h2, if_neg (fun q => h2 q.2)]
  · rw [if_neg h, if_neg (fun q => h q.1)]
/-- the world M, the evening e of it given in numbers -/
def aW (M : gMem) (e : Nat) (a : Nat → Nat → Nat) : gMem := eUp M e (eN a)
theorem aW_r (M : gMem) (e : Nat) (a : Nat → Nat → Nat) (c k : Nat) : aW M e a e c k = nI (a c k) := by unfold aW; rw [eUp_s]; rfl
theorem aW_c (M : gMem) (e : Nat) (a : Nat → Nat → Nat) (c : Nat) : aW M e a e c = fun j => nI (a c j) := by unfold aW; rw [eUp_s]; rfl
theorem aW_n (M : gMem) {e g : Nat} (a : Nat → Nat → Nat) (h : g ≠ e) : aW M e a g = M g := eUp_n M _ h
theorem aW_up (M : gMem) (e : Nat) (a : Nat → Nat → Nat) (c k v : Nat) : gUp (aW M e a) e c (upd (fun j => nI (a c j)) k (nI v)) = aW M e (aS a c k v) := by
  unfold aW
  rw [gUp_e, ← k_St]
  rfl
theorem p_SO (M : gMem) (e : Nat) (a : Nat → Nat → Nat) (c k v : Nat) : gSO (aW M e a) e c k (nI v) = some (aW M e (aS a c k v)) := by
  unfold gSO gSt
  rw [aW_c, aW_up]
theorem p_rdE {M : gMem} {e : Nat} {a : Nat → Nat → Nat} {c n k : Nat} (h : k < n) (hn : n < 2 ^ 31) : gRd n (aW M e a e c) (nI k) = some (nI (a c k)) := by rw [pRd _ h hn, aW_r]
theorem p_at {M : gMem} {e : Nat} {a : Nat → Nat → Nat} {c n k : Nat} (h : k < n) (hn : n < 2 ^ 31) : f_DS_at e c n (aW M e a) (nI k) = some (nI (a c k)) := by
  unfold f_DS_at
  rw [if_neg (nI_pos (by omega)), z_ofn, if_neg (nI_ge h hn), p_rdE h hn, pB]
theorem p_atN {M : gMem} {g c n : Nat} : f_DS_at g c n M (nI 4294967295) = some (nI 4294967295) := by
  unfold f_DS_at
  rw [if_pos z_lt0, ← z_m1]
theorem p_put {M : gMem} {e : Nat} {a : Nat → Nat → Nat} {c n k v : Nat} (h : k < n) (hn : n < 2 ^ 31) : f_DS_put e c n (aW M e a) (nI k) (nI v) = some (aW M e (aS a c k v)) := by
  unfold f_DS_put
  rw [if_neg (nI_pos (by omega)), z_ofn, if_neg (nI_ge h hn), pWr _ _ _ _ h hn, pB, aW_c, aW_up]
theorem p_addAt {M : gMem} {e : Nat} {a : Nat → Nat → Nat} {c n k v : Nat} (h : k < n) (hn : n < 2 ^ 31) : f_DS_addAt e c n (aW M e a) (nI k) (nI v) = some (aW M e (aS a c k (a c k + v))) := by
  unfold f_DS_addAt
  rw [if_neg (nI_pos (by omega)), z_ofn, if_neg (nI_ge h hn), p_rdE h hn, pB, nI_add, pWr _ _ _ _ h hn, pB, aW_c, aW_up]
/-- the cells that hold cards, times, players: numbers of 32 bits -/
def aB (a : Nat → Nat → Nat) : Prop := ∀ c j, 5 ≤ c → a c j < 4294967296
def aH (a : Nat → Nat → Nat) (c : Nat) : Nat := if a 6 c = 4294967295 then a 5 c else 4294967295
theorem aH_b {a : Nat → Nat → Nat} (hb : aB a) (c : Nat) : aH a c < 4294967296 := by
  unfold aH
  split
  · exact hb 5 c (by omega)
  · omega
def aDl (a : Nat → Nat → Nat) (p s : Nat) : Nat := fb_ct (fun r => decide (a 5 (8 * s + r) = p)) 8
def aHd (a : Nat → Nat → Nat) (p s : Nat) : Nat := fb_ct (fun r => decide (aH a (8 * s + r) = p)) 8
def aHs (a : Nat → Nat → Nat) (p : Nat) : Nat := fb_ct (fun c => decide (aH a c = p)) 32
theorem p_dealtTo {M : gMem} {e : Nat} {a : Nat → Nat → Nat} {c : Nat} (h : c < 32) : f_Cards_dealtTo e (aW M e a) (nI c) = some (nI (a 5 c)) := by
  unfold f_Cards_dealtTo
  rw [if_neg (nI_pos (by omega)), z_ofn, if_neg (nI_ge h (by omega)), p_rdE h (by omega), pB]
theorem p_playedAt {M : gMem} {e : Nat} {a : Nat → Nat → Nat} {c : Nat} (h : c < 32) : f_Cards_playedAt e (aW M e a) (nI c) = some (nI (a 6 c)) := by
  unfold f_Cards_playedAt
  rw [p_at h (by omega), pB]
theorem p_holder {M : gMem} {e : Nat} {a : Nat → Nat → Nat} {c : Nat} (hb : aB a) (h : c < 32) : f_Cards_holder e (aW M e a) (nI c) = some (nI (aH a c)) := by
  unfold f_Cards_holder aH
  rw [if_neg (nI_pos (by omega)), z_ofn, if_neg (nI_ge h (by omega)), if_neg (nI_ge h (by omega)), p_rdE h (by omega), pB, z_m1]
  have h6 := hb 6 c (by omega)
  by_cases q : a 6 c = 4294967295
  · rw [if_pos (by rw [q]), if_pos q, p_rdE h (by omega), pB]
  · rw [if_neg (fun z => q ((z_inj h6 (by omega)).mp z)), if_neg q]
theorem ct_1 (p : Nat → Bool) (i : Nat) (h : p i = true) : fb_ct p i + 1 = fb_ct p (i + 1) := by rw [fb_ct_succ, if_pos h]
theorem ct_0 (p : Nat → Bool) (i : Nat) (h : ¬ p i = true) : fb_ct p i = fb_ct p (i + 1) := by rw [fb_ct_succ, if_neg h]; rfl
theorem p_dealt {M : gMem} {e : Nat} {a : Nat → Nat → Nat} {p s : Nat} (hb : aB a) (hs : s < 4) (hp : p < 4294967296) : f_Cards_dealt e (aW M e a) (nI p) (nI s) = some (nI (aDl a p s)) := by
  unfold f_Cards_dealt f_Cards_dealt_l5
  refine pFor0 (fun i => (nI (fb_ct (fun r => decide (a 5 (8 * s + r) = p)) i), nI i)) 8 rfl ?_ ?_
  · intro i hi
    show f_Cards_dealt_s5 e (aW M e a) (nI p) (nI s) _ (nI i) = _
    unfold f_Cards_dealt_s5
    have e1 : nI s * 8 + nI i = nI (8 * s + i) := by
      rw [show (8 : Int32) = nI 8 from rfl, pk_mul, nI_add, Nat.mul_comm]
    rw [show (8 : Int32) = nI 8 from rfl, if_neg (nI_ge hi (by omega))]
    rw [show nI s * nI 8 + nI i = nI (8 * s + i) from e1, p_dealtTo (by omega), pB]
    have h5 := hb 5 (8 * s + i) (by omega)
    unfold f_Cards_dealt_b30
    by_cases q : a 5 (8 * s + i) = p
    · rw [if_pos (by rw [q]), nI_1, nI_1, ct_1 (fun r => decide (a 5 (8 * s + r) = p)) i (decide_eq_true q)]
    · rw [if_neg (fun z => q ((z_inj h5 hp).mp z)), nI_1, ct_0 (fun r => decide (a 5 (8 * s + r) = p)) i (fun z => q (of_decide_eq_true z))]
  · exact pLx (by
      show f_Cards_dealt_s5 e (aW M e a) (nI p) (nI s) _ (nI 8) = _
      unfold f_Cards_dealt_s5
      rw [show (8 : Int32) = nI 8 from rfl, if_pos (nI_le (Nat.le_refl 8) (by omega))]
      rfl)
theorem p_held {M : gMem} {e : Nat} {a : Nat → Nat → Nat} {p s : Nat} (hb : aB a) (hs : s < 4) (hp : p < 4294967296) : f_Cards_held e (aW M e a) (nI p) (nI s) = some (nI (aHd a p s)) := by
  unfold f_Cards_held f_Cards_held_l5
  refine pFor0 (fun i => (nI (fb_ct (fun r => decide (aH a (8 * s + r) = p)) i), nI i)) 8 rfl ?_ ?_
  · intro i hi
    show f_Cards_held_s5 e (aW M e a) (nI p) (nI s) _ (nI i) = _
    unfold f_Cards_held_s5
    have e1 : nI s * 8 + nI i = nI (8 * s + i) := by
      rw [show (8 : Int32) = nI 8 from rfl, pk_mul, nI_add, Nat.mul_comm]
    rw [show (8 : Int32) = nI 8 from rfl, if_neg (nI_ge hi (by omega))]
    rw [show nI s * nI 8 + nI i = nI (8 * s + i) from e1, p_holder hb (by omega), pB]
    have h5 := aH_b hb (8 * s + i)
    unfold f_Cards_held_b30
    by_cases q : aH a (8 * s + i) = p
    · rw [if_pos (by rw [q]), nI_1, nI_1, ct_1 (fun r => decide (aH a (8 * s + r) = p)) i (decide_eq_true q)]
    · rw [if_neg (fun z => q ((z_inj h5 hp).mp z)), nI_1, ct_0 (fun r => decide (aH a (8 * s + r) = p)) i (fun z => q (of_decide_eq_true z))]
  · exact pLx (by
      show f_Cards_held_s5 e (aW M e a) (nI p) (nI s) _ (nI 8) = _
      unfold f_Cards_held_s5
      rw [show (8 : Int32) = nI 8 from rfl, if_pos (nI_le (Nat.le_refl 8) (by omega))]
      rfl)
theorem p_handSize {M : gMem} {e : Nat} {a : Nat → Nat → Nat} {p : Nat} (hb : aB a) (hp : p < 4294967296) : f_Cards_handSize e (aW M e a) (nI p) = some (nI (aHs a p)) := by
  unfold f_Cards_handSize f_Cards_handSize_l4
  refine pFor0 (fun i => (nI (fb_ct (fun c => decide (aH a c = p)) i), nI i)) 32 rfl ?_ ?_
  · intro i hi
    show f_Cards_handSize_s4 e (aW M e a) (nI p) _ (nI i) = _
    unfold f_Cards_handSize_s4
    rw [show (32 : Int32) = nI 32 from rfl, if_neg (nI_ge hi (by omega)), p_holder hb hi, pB]
    have h5 := aH_b hb i
    unfold f_Cards_handSize_b22
    by_cases q : aH a i = p
    · rw [if_pos (by rw [q]), nI_1, nI_1, ct_1 (fun c => decide (aH a c = p)) i (decide_eq_true q)]
    · rw [if_neg (fun z => q ((z_inj h5 hp).mp z)), nI_1, ct_0 (fun c => decide (aH a c = p)) i (fun z => q (of_decide_eq_true z))]
  · exact pLx (by
      show f_Cards_handSize_s4 e (aW M e a) (nI p) _ (nI 32) = _
      unfold f_Cards_handSize_s4
      rw [show (32 : Int32) = nI 32 from rfl, if_pos (nI_le (Nat.le_refl 32) (by omega))]
      rfl)
theorem ct_le (p : Nat → Bool) (n : Nat) : fb_ct p n ≤ n := fb_ct_le p n
