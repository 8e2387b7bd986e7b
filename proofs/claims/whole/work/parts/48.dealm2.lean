-- ===== PURE: the deal: the model, its loops =====
def rOw (r : Nat → Nat) (f : Nat → Nat) : Nat → Nat → Nat
  | 0 => r
  | i + 1 => rS (rS (rOw r f i) (21 + f i) (i % 4)) (53 + f i) (i % 4)
def rDl (r : Nat → Nat) (f : Nat → Nat) : Nat → Nat := rS (rS (rS (rOw (rNd r) f 32) 2 (r 0 % 4)) 0 (r 0 + 1)) 1 1
theorem rOw_o (r : Nat → Nat) {f : Nat → Nat} {j : Nat} (h : j < 21 ∨ 85 ≤ j) : ∀ i, i ≤ 32 → (∀ t, t < 32 → f t < 32) → rOw r f i j = r j
  | 0, _, _ => rfl
  | i + 1, hi, hf => by
    have h1 := hf i (by omega)
    show rS (rS (rOw r f i) (21 + f i) (i % 4)) (53 + f i) (i % 4) j = _
    rw [rS_n _ (by omega), rS_n _ (by omega)]
    exact rOw_o r h i (by omega) hf
theorem rNd_0 (r : Nat → Nat) : rNd r 0 = r 0 := by
  unfold rNd rB rA rC
  rw [if_neg (by omega), if_neg (by omega), if_neg (by omega)]
  simp (disch := omega) only [rS_n]
section DN
variable {M : gMem} {c : Nat} {r : Nat → Nat} {a : Nat → Nat → Nat}
theorem q_deal107 {f : Nat → Nat} (hc : c ≠ 8) (hf : ∀ j, j < 32 → f j < 32) (hd : r 0 < 2147483648) : f_Mo_dealOn_l107 19 c 197 (0, dW M c (rNd r) f) = some (nI (r 0 + 1), dW M c (rDl r f) f) := by
  unfold f_Mo_dealOn_l107
  refine pFor0 (fun i => (nI i, dW M c (rOw (rNd r) f i) f)) 32 rfl (fun i hi => ?_) (pLx ?_)
  · show f_Mo_dealOn_s107 19 c 197 (dW M c (rOw (rNd r) f i) f) (nI i) = _
    unfold f_Mo_dealOn_s107
    have h1 := hf i hi
    rw [show (32 : Int32) = nI 32 from rfl, if_neg (nI_ge hi (by omega)), d_rd hc hi, pB, show (21 : Int32) = nI 21 from rfl, nI_add, show (4 : Int32) = nI 4 from rfl, z_rem (by omega) (by omega) (by omega)]
    rw [show gWr (dW M c (rOw (rNd r) f i) f) 19 c 197 (nI (21 + f i)) (nI (i % 4)) = some (dW M c (rS (rOw (rNd r) f i) (21 + f i) (i % 4)) f) from q_wr (by omega) (by omega), pB, d_rd hc hi, pB, show (53 : Int32) = nI 53 from rfl, nI_add]
    rw [show gWr (dW M c (rS (rOw (rNd r) f i) (21 + f i) (i % 4)) f) 19 c 197 (nI (53 + f i)) (nI (i % 4)) = some (dW M c (rOw (rNd r) f (i + 1)) f) from q_wr (by omega) (by omega), pB, nI_1]
  · show f_Mo_dealOn_s107 19 c 197 (dW M c (rOw (rNd r) f 32) f) (nI 32) = _
    unfold f_Mo_dealOn_s107
    have h0 : rOw (rNd r) f 32 0 = r 0 := (rOw_o _ (by omega) 32 (Nat.le_refl _) hf).trans (rNd_0 r)
    rw [show (32 : Int32) = nI 32 from rfl, if_pos (nI_le (Nat.le_refl _) (by omega)), show (0 : Int32) = nI 0 from rfl]
    unfold dW
    rw [q_rd (by omega) (by omega), pB, h0, show (4 : Int32) = nI 4 from rfl, z_rem hd (by omega) (by omega), show (2 : Int32) = nI 2 from rfl, q_wr (by omega) (by omega), pB, q_rd (by omega) (by omega), pB, rS_n _ (by omega), h0, nI_1, q_wr (by omega) (by omega), pB, show (1 : Int32) = nI 1 from rfl, q_wr (by omega) (by omega), pB, q_rd (by omega) (by omega), pB, rS_n _ (by omega), rS_s]
    rfl
theorem q_deal36 (hc : c ≠ 8) (hd : r 0 < 2147483648) : ∀ (k : Nat) (x : Int64) (f : Nat → Nat), k ≤ 31 → (∀ j, j < 32 → f j < 32) → f_Mo_dealOn_l36 19 c 197 (x, nI k, dW M c (rNd r) f) = some (nI (r 0 + 1), dW M c (rDl r (shP k x f)) (shP k x f))
  | 0, x, f, _, hf => by
    unfold f_Mo_dealOn_l36
    refine pLx ?_
    show f_Mo_dealOn_s36 19 c 197 (dW M c (rNd r) f) x (nI 0) = _
    unfold f_Mo_dealOn_s36
    rw [if_pos (show nI 0 ≤ 0 by decide), q_deal107 hc hf hd]
    rfl
  | k + 1, x, f, hk, hf => by
    have hu := up_lt (fol x)
    have ho : upN (fol x) % (k + 2) < k + 2 := Nat.mod_lt _ (by omega)
    have ih := q_deal36 hc hd k (fol x) (swp f (k + 1) (upN (fol x) % (k + 2))) (by omega) (swp_lt hf (by omega) (by omega))
    unfold f_Mo_dealOn_l36 at ih ⊢
    rw [pLp (s' := (fol x, nI k, dW M c (rNd r) (swp f (k + 1) (upN (fol x) % (k + 2)))))]
    · exact ih
    · show f_Mo_dealOn_s36 19 c 197 (dW M c (rNd r) f) x (nI (k + 1)) = _
      unfold f_Mo_dealOn_s36
      rw [if_neg (nI_nle (by omega) (by omega)), show x * 6364136223846793005 + 1442695040888963407 = fol x from rfl, up_eq, nI_1, show k + 1 + 1 = k + 2 from rfl]
      unfold gNz
      rw [if_neg (nI_ne0 (by omega) (by omega)), pB, d_rd hc (by omega), pB, z_rem (by omega) (by omega) (by omega), d_rd hc (by omega), pB, d_wr hc (by omega), pB, d_wr hc (by omega), pB, pk_m1]
      rfl
theorem shP_cong : ∀ (k : Nat) (x : Int64) (f g : Nat → Nat), k ≤ 31 → (∀ j, j < 32 → f j = g j) → ∀ j, j < 32 → shP k x f j = shP k x g j
  | 0, _, _, _, _, h, j, hj => h j hj
  | k + 1, x, f, g, hk, h, j, hj => by
    have ho : upN (fol x) % (k + 2) < k + 2 := Nat.mod_lt _ (by omega)
    refine shP_cong k (fol x) _ _ (by omega) (fun i hi => ?_) j hj
    unfold swp
    rw [h (k + 1) (by omega), h (upN (fol x) % (k + 2)) (by omega), h i hi]
theorem shP_lt : ∀ (k : Nat) (x : Int64) (f : Nat → Nat), k ≤ 31 → (∀ j, j < 32 → f j < 32) → ∀ j, j < 32 → shP k x f j < 32
  | 0, _, _, _, h, j, hj => h j hj
  | k + 1, x, f, hk, h, j, hj => by
    have ho : upN (fol x) % (k + 2) < k + 2 := Nat.mod_lt _ (by omega)
    exact shP_lt k (fol x) _ (by omega) (swp_lt h (by omega) (by omega)) j hj
theorem swp_inj {f : Nat → Nat} {i o : Nat} (h : ∀ u v, u < 32 → v < 32 → f u = f v → u = v) (hi : i < 32) (ho : o < 32) : ∀ u v, u < 32 → v < 32 → swp f i o u = swp f i o v → u = v := by
  intro u v hu hv
  unfold swp
  by_cases a1 : u = o <;> by_cases a2 : v = o
  · exact fun _ => a1.trans a2.symm
  · rw [if_pos a1, if_neg a2]
    by_cases a3 : v = i
    · rw [if_pos a3]
      exact fun q => by have := h i o hi ho q; omega
    · rw [if_neg a3]
      exact fun q => by have := h i v hi hv q; omega
  · rw [if_neg a1, if_pos a2]
    by_cases a3 : u = i
    · rw [if_pos a3]
      exact fun q => by have := h o i ho hi q; omega
    · rw [if_neg a3]
      exact fun q => by have := h u i hu hi q; omega
  · rw [if_neg a1, if_neg a2]
    by_cases a3 : u = i <;> by_cases a4 : v = i
    · exact fun _ => a3.trans a4.symm
    · rw [if_pos a3, if_neg a4]
      exact fun q => by have := h o v ho hv q; omega
    · rw [if_neg a3, if_pos a4]
      exact fun q => by have := h u o hu ho q; omega
    · rw [if_neg a3, if_neg a4]
      exact h u v hu hv
theorem shP_inj : ∀ (k : Nat) (x : Int64) (f : Nat → Nat), k ≤ 31 → (∀ u v, u < 32 → v < 32 → f u = f v → u = v) → ∀ u v, u < 32 → v < 32 → shP k x f u = shP k x f v → u = v
  | 0, _, _, _, h => h
  | k + 1, x, f, hk, h => by
    have ho : upN (fol x) % (k + 2) < k + 2 := Nat.mod_lt _ (by omega)
    exact shP_inj k (fol x) _ (by omega) (swp_inj h (by omega) (by omega))
theorem rOw_cong (r : Nat → Nat) {f g : Nat → Nat} : ∀ i, (∀ j, j < i → f j = g j) → rOw r f i = rOw r g i
  | 0, _ => rfl
  | i + 1, h => by
    show rS (rS (rOw r f i) (21 + f i) (i % 4)) (53 + f i) (i % 4) = rS (rS (rOw r g i) (21 + g i) (i % 4)) (53 + g i) (i % 4)
    rw [rOw_cong r i (fun j hj => h j (by omega)), h i (by omega)]
/-- the model's deal: what it answers, and its row then -/
theorem q_dealOn (hc : c ≠ 8) (hd : r 0 < 2147483648) (x : Int64) : ∃ M', (∀ g c', ¬ (g = 19 ∧ c' = 8) → M' g c' = M g c') ∧ f_Mo_dealOn 19 c 197 (rW M c r) x = some (nI (r 0 + 1), rW M' c (rDl r (shP 31 x id))) := by
  unfold f_Mo_dealOn
  rw [q_noDeal, pB, dW_0]
  generalize (fun j => (M 19 8 j).toBitVec.toNat) = f0
  have fin : f_Mo_dealOn_l7 19 c 197 x (0, dW M c (rNd r) f0) = some (nI (r 0 + 1), dW M c (rDl r (shP 31 x (fun j => if j < 32 then j else f0 j))) (shP 31 x (fun j => if j < 32 then j else f0 j))) := by
    unfold f_Mo_dealOn_l7
    refine pFor0 (fun i => (nI i, dW M c (rNd r) (fun j => if j < i then j else f0 j))) 32 ?_ (fun i hi => ?_) (pLx ?_)
    · have e : (fun j => if j < 0 then j else f0 j) = f0 := funext fun j => if_neg (Nat.not_lt_zero j)
      rw [e]; rfl
    · show f_Mo_dealOn_s7 19 c 197 (dW M c (rNd r) _) x (nI i) = _
      unfold f_Mo_dealOn_s7
      rw [show (32 : Int32) = nI 32 from rfl, if_neg (nI_ge hi (by omega)), d_wr hc hi, pB, nI_1]
      refine congrArg (fun z => some (Sum.inl (nI (i + 1), dW M c (rNd r) z))) (funext fun j => ?_)
      show (if j = i then i else if j < i then j else f0 j) = if j < i + 1 then j else f0 j
      by_cases q : j = i
      · rw [if_pos q, if_pos (by omega), q]
      · rw [if_neg q]
        by_cases q2 : j < i
        · rw [if_pos q2, if_pos (by omega)]
        · rw [if_neg q2, if_neg (by omega)]
    · show f_Mo_dealOn_s7 19 c 197 (dW M c (rNd r) _) x (nI 32) = _
      unfold f_Mo_dealOn_s7
      rw [show (32 : Int32) = nI 32 from rfl, if_pos (nI_le (Nat.le_refl _) (by omega)), show (31 : Int32) = nI 31 from rfl, q_deal36 hc hd 31 x _ (by omega) (fun j hj => by show (if j < 32 then j else f0 j) < 32; rw [if_pos hj]; exact hj)]
      rfl
  have hcg : ∀ j, j < 32 → shP 31 x (fun j => if j < 32 then j else f0 j) j = shP 31 x id j := shP_cong 31 x _ _ (by omega) (fun j hj => if_pos hj)
  refine ⟨gUp M 19 8 (fun j => nI (shP 31 x (fun j => if j < 32 then j else f0 j) j)), fun g c' h => gUp_n _ _ h, ?_⟩
  rw [fin]
  unfold dW rDl
  rw [rOw_cong _ 32 hcg]
end DN
