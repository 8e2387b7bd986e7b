-- ===== PURE: the deal: the class =====
def upN (x : Int64) : Nat := (Int64.toInt32 (gUsh x 33)).toBitVec.toNat
theorem up_eq (x : Int64) : Int64.toInt32 (gUsh x 33) = nI (upN x) := by
  unfold upN nI
  apply Int32.toBitVec_inj.mp
  show _ = (BitVec.ofNat 32 _)
  rw [BitVec.ofNat_toNat, BitVec.setWidth_eq]
theorem up_lt (x : Int64) : upN x < 2147483648 := by
  unfold upN gUsh
  have e : ((33 : Int32).toInt64.toUInt64 &&& Int64.toUInt64 63) = 33 := by decide
  rw [e]
  have h1 : (x.toUInt64 >>> (33 : UInt64)).toNat < 2147483648 := by
    rw [UInt64.toNat_shiftRight, show (33 : UInt64).toNat % 64 = 33 from rfl, Nat.shiftRight_eq_div_pow]
    have := UInt64.toNat_lt x.toUInt64
    omega
  rw [Int64.toBitVec_toInt32, BitVec.signExtend_eq_setWidth_of_le _ (by omega), BitVec.toNat_setWidth]
  refine Nat.lt_of_le_of_lt (Nat.mod_le _ _) ?_
  exact h1
def fol (x : Int64) : Int64 := x * 6364136223846793005 + 1442695040888963407
def swp (f : Nat → Nat) (i o : Nat) : Nat → Nat := fun j => if j = o then f i else if j = i then f o else f j
def shP : Nat → Int64 → (Nat → Nat) → Nat → Nat
  | 0, _, f => f
  | k + 1, x, f => shP k (fol x) (swp f (k + 1) (upN (fol x) % (k + 2)))
def aR (a : Nat → Nat → Nat) (f : Nat → Nat) : Nat → Nat → Nat := fun c j => if c = 7 ∧ j < 32 then f j else a c j
theorem aR_cong (a : Nat → Nat → Nat) {f g : Nat → Nat} (h : ∀ j, j < 32 → f j = g j) : aR a f = aR a g := by
  funext c j
  unfold aR
  by_cases q : c = 7 ∧ j < 32
  · rw [if_pos q, if_pos q, h j q.2]
  · rw [if_neg q, if_neg q]
theorem aR_7 (a : Nat → Nat → Nat) (f : Nat → Nat) {j : Nat} (h : j < 32) : aR a f 7 j = f j := if_pos ⟨rfl, h⟩
theorem aR_c (a : Nat → Nat → Nat) (f : Nat → Nat) {c : Nat} (j : Nat) (h : c ≠ 7) : aR a f c j = a c j := if_neg (fun q => h q.1)
theorem aR_S (a : Nat → Nat → Nat) (f : Nat → Nat) {k : Nat} (v : Nat) (h : k < 32) : aS (aR a f) 7 k v = aR a (fun j => if j = k then v else f j) := by
  funext c j
  unfold aS aR
  by_cases q : c = 7 ∧ j = k
  · rw [if_pos q, if_pos ⟨q.1, by omega⟩]
    exact (if_pos q.2).symm
  · rw [if_neg q]
    by_cases q2 : c = 7 ∧ j < 32
    · rw [if_pos q2, if_pos q2]
      exact (if_neg (by omega)).symm
    · rw [if_neg q2, if_neg q2]
def aFl (a : Nat → Nat → Nat) (c n v : Nat) : Nat → Nat → Nat := fun c' j => if c' = c ∧ j < n then v else a c' j
theorem aFl_in (a : Nat → Nat → Nat) {c n j : Nat} (v : Nat) (h : j < n) : aFl a c n v c j = v := if_pos ⟨rfl, h⟩
theorem aFl_c (a : Nat → Nat → Nat) {c n c' : Nat} (v j : Nat) (h : c' ≠ c) : aFl a c n v c' j = a c' j := if_neg (fun q => h q.1)
theorem p_fillA (M : gMem) (e : Nat) (a : Nat → Nat → Nat) (c n v : Nat) (hn : n < 2 ^ 31) : f_JA_fill e c n (aW M e a) (nI v) = some (aW M e (aFl a c n v)) := by
  unfold aW
  rw [p_fillE M e _ c n _ hn]
  congr 2
  funext c' j
  unfold cUp pFl eN aFl
  by_cases q : c' = c
  · subst q
    by_cases q2 : j < n
    · rw [if_pos rfl, if_pos q2, if_pos ⟨rfl, q2⟩]
    · rw [if_pos rfl, if_neg q2, if_neg (fun z => q2 z.2)]
  · rw [if_neg q, if_neg (fun z => q z.1)]
def aOw (b : Nat → Nat → Nat) (f : Nat → Nat) : Nat → Nat → Nat → Nat
  | 0 => b
  | i + 1 => aS (aOw b f i) 5 (f i) (i % 4)
theorem aOw_c (b : Nat → Nat → Nat) (f : Nat → Nat) {c : Nat} (j : Nat) (h : c ≠ 5) : ∀ i, aOw b f i c j = b c j
  | 0 => rfl
  | i + 1 => (aS_c _ j h).trans (aOw_c b f j h i)
def aSh (a : Nat → Nat → Nat) (f : Nat → Nat) : Nat → Nat → Nat := aS (aFl (aFl (aOw (aR a f) f 32) 6 32 4294967295) 7 32 4294967295) 1 3 0
section DL
variable {M : gMem} {e k : Nat} {a : Nat → Nat → Nat}
theorem p_shuf99 {f : Nat → Nat} (hf : ∀ j, j < 32 → f j < 32) : f_Cards_shuffle_l99 e (0, aW M e (aR a f)) = some (aW M e (aSh a f)) := by
  unfold f_Cards_shuffle_l99
  refine pFor0 (fun i => (nI i, aW M e (aOw (aR a f) f i))) 32 rfl (fun i hi => ?_) (pLx ?_)
  · show f_Cards_shuffle_s99 e (aW M e (aOw (aR a f) f i)) (nI i) = _
    unfold f_Cards_shuffle_s99
    rw [show (32 : Int32) = nI 32 from rfl, if_neg (nI_ge hi (by omega)), p_at hi (by omega), pB, aOw_c _ _ _ (by omega), aR_7 a f hi, show (4 : Int32) = nI 4 from rfl, z_rem (by omega) (by omega) (by omega), p_put (hf i hi) (by omega), pB, nI_1]
    rfl
  · show f_Cards_shuffle_s99 e (aW M e (aOw (aR a f) f 32)) (nI 32) = _
    unfold f_Cards_shuffle_s99
    rw [show (32 : Int32) = nI 32 from rfl, if_pos (nI_le (Nat.le_refl _) (by omega)), z_m1, p_fillA _ _ _ _ _ _ (by omega), pB, p_fillA _ _ _ _ _ _ (by omega), pB, show (0 : Int32) = nI 0 from rfl, p_SO, pB]
    rfl
theorem swp_lt {f : Nat → Nat} {i o : Nat} (hf : ∀ j, j < 32 → f j < 32) (hi : i < 32) (ho : o < 32) : ∀ j, j < 32 → swp f i o j < 32 := by
  intro j hj
  unfold swp
  split
  · exact hf i hi
  · split
    · exact hf o ho
    · exact hf j hj
theorem p_shuf29 : ∀ (k : Nat) (x : Int64) (f : Nat → Nat), k ≤ 31 → (∀ j, j < 32 → f j < 32) → f_Cards_shuffle_l29 e (x, nI k, aW M e (aR a f)) = some (aW M e (aSh a (shP k x f)))
  | 0, x, f, _, hf => by
    unfold f_Cards_shuffle_l29
    refine pLx ?_
    show f_Cards_shuffle_s29 e (aW M e (aR a f)) x (nI 0) = _
    unfold f_Cards_shuffle_s29
    rw [if_pos (show nI 0 ≤ 0 by decide), p_shuf99 hf]
    rfl
  | k + 1, x, f, hk, hf => by
    have hu := up_lt (fol x)
    have ho : upN (fol x) % (k + 2) < k + 2 := Nat.mod_lt _ (by omega)
    have ih := p_shuf29 k (fol x) (swp f (k + 1) (upN (fol x) % (k + 2))) (by omega) (swp_lt hf (by omega) (by omega))
    unfold f_Cards_shuffle_l29 at ih ⊢
    rw [pLp (s' := (fol x, nI k, aW M e (aR a (swp f (k + 1) (upN (fol x) % (k + 2))))))]
    · exact ih
    · show f_Cards_shuffle_s29 e (aW M e (aR a f)) x (nI (k + 1)) = _
      unfold f_Cards_shuffle_s29 f_DS_following f_DS_upperBits
      rw [if_neg (nI_nle (by omega) (by omega)), pB, show x * 6364136223846793005 + 1442695040888963407 = fol x from rfl, pB, up_eq, nI_1, show k + 1 + 1 = k + 2 from rfl]
      unfold gNz
      rw [if_neg (nI_ne0 (by omega) (by omega)), pB, p_at (by omega) (by omega), pB, z_rem (by omega) (by omega) (by omega), p_at (by omega) (by omega), pB, aR_7 a f (by omega), aR_7 a f (by omega), p_put (by omega) (by omega), pB, p_put (by omega) (by omega), pB, aR_S a f _ (by omega), aR_S a _ _ (by omega), pk_m1]
      rfl
theorem p_shuffle (x : Int64) : f_Cards_shuffle e (aW M e a) x = some (aW M e (aSh a (shP 31 x id))) := by
  unfold f_Cards_shuffle f_Cards_shuffle_l2
  have e0 : aR a (fun j => if j < 0 then j else a 7 j) = a := by
    funext c j
    unfold aR
    by_cases q : c = 7 ∧ j < 32
    · rw [if_pos q]
      exact (if_neg (Nat.not_lt_zero j)).trans (by rw [q.1])
    · rw [if_neg q]
  refine pFor0 (fun i => (nI i, aW M e (aR a (fun j => if j < i then j else a 7 j)))) 32 (by rw [e0]; rfl) (fun i hi => ?_) (pLx ?_)
  · show f_Cards_shuffle_s2 e (aW M e (aR a _)) x (nI i) = _
    unfold f_Cards_shuffle_s2
    rw [show (32 : Int32) = nI 32 from rfl, if_neg (nI_ge hi (by omega)), p_put hi (by omega), pB, aR_S a _ _ hi, nI_1]
    refine congrArg (fun z => some (Sum.inl (nI (i + 1), aW M e z))) (aR_cong a fun j hj => ?_)
    show (if j = i then i else if j < i then j else a 7 j) = if j < i + 1 then j else a 7 j
    by_cases q : j = i
    · rw [if_pos q, if_pos (by omega), q]
    · rw [if_neg q]
      by_cases q2 : j < i
      · rw [if_pos q2, if_pos (by omega)]
      · rw [if_neg q2, if_neg (by omega)]
  · show f_Cards_shuffle_s2 e (aW M e (aR a _)) x (nI 32) = _
    unfold f_Cards_shuffle_s2
    rw [show (32 : Int32) = nI 32 from rfl, if_pos (nI_le (Nat.le_refl _) (by omega)), aR_cong a (f := fun j => if j < 32 then j else a 7 j) (g := id) (fun j hj => if_pos hj), show (31 : Int32) = nI 31 from rfl, p_shuf29 31 x id (by omega) (fun j hj => hj)]
    rfl
def aCd (a : Nat → Nat → Nat) : Nat → Nat → Nat := aS (aS (aS (aS (aFl (aFl (aFl (aFl (aFl a 8 16 0) 9 16 4294967295) 10 16 0) 11 16 0) 3 2 0) 0 7 0) 0 8 0) 0 9 4294967295) 0 10 0
theorem p_clearDeal : f_Ev_clearDeal e (aW M e a) = some (aW M e (aCd a)) := by
  unfold f_Ev_clearDeal f_Drops_clear aCd
  rw [z_m1, show (0 : Int32) = nI 0 from rfl, p_fillA _ _ _ _ _ _ (by omega), pB, p_fillA _ _ _ _ _ _ (by omega), pB, p_fillA _ _ _ _ _ _ (by omega), pB, p_fillA _ _ _ _ _ _ (by omega), pB, pB, p_fillA _ _ _ _ _ _ (by omega), pB, p_SO, pB, p_SO, pB, p_SO, pB, p_SO, pB]
def aDeal (a : Nat → Nat → Nat) (x : Int64) : Nat → Nat → Nat := aS (aS (aS (aSh (aCd a) (shP 31 x id)) 0 5 1) 0 6 (a 0 4 % 4)) 0 4 (a 0 4 + 1)
theorem aSh_c (a : Nat → Nat → Nat) (f : Nat → Nat) (c j : Nat) (h : c ≠ 5 ∧ c ≠ 6 ∧ c ≠ 7 ∧ c ≠ 1) : aSh a f c j = a c j := by
  unfold aSh
  rw [aS_c _ _ (by omega), aFl_c _ _ _ (by omega), aFl_c _ _ _ (by omega), aOw_c _ _ _ (by omega), aR_c _ _ _ (by omega)]
theorem aCd_0 (a : Nat → Nat → Nat) (j : Nat) (h : j ≠ 7 ∧ j ≠ 8 ∧ j ≠ 9 ∧ j ≠ 10) : aCd a 0 j = a 0 j := by
  unfold aCd
  simp (disch := omega) only [aS_k, aFl_c]
theorem p_dealWith (x : Int64) (hd : a 0 4 < 2147483648) : f_Ev_dealWith e (aW M e a) x = some (aW M e (aDeal a x)) := by
  unfold f_Ev_dealWith aDeal
  have x4 : aSh (aCd a) (shP 31 x id) 0 4 = a 0 4 := (aSh_c _ _ _ _ (by omega)).trans (aCd_0 a 4 (by omega))
  rw [p_clearDeal, pB, p_shuffle, pB, show (1 : Int32) = nI 1 from rfl, p_SO, pB, aW_r, aS_k _ (by omega), x4, show (4 : Int32) = nI 4 from rfl, z_rem hd (by omega) (by omega), p_SO, pB, aW_r, aS_k _ (by omega), aS_k _ (by omega), x4, nI_add, p_SO, pB]
end DL
