-- ===== PURE: the deal: the model, its loops =====
def rOw (r : Nat → Nat) (f : Nat → Nat) : Nat → Nat → Nat
  | 0 => r
  | i + 1 => rS (rS (rOw r f i) (21 + f i) (i % 4)) (53 + f i) (i % 4)
def rDl (r : Nat → Nat) (f : Nat → Nat) : Nat → Nat := rS (rS (rS (rOw (rNd r) f 32) 2 (r 0 % 4)) 0 (r 0 + 1)) 1 1
theorem rOw_o (r : Nat → Nat) {f : Nat → Nat} {j : Nat} (h : j < 21 ∨ 85 ≤ j) : ∀ i, i ≤ 32 → (∀ t, t < 32 → f t < 32) → rOw r f i j = r j
  | 0, _, _ => rfl
  | i + 1, hi, hf => by
    have h1 := hf i (by omega)
    show rS (rS (rOw r f i) (21 + f i) (i % 4)) (53 + f i) (i % 4) j = _
    rw [rS_n _ (by omega), rS_n _ (by omega)]
    exact rOw_o r h i (by omega) hf
theorem rNd_0 (r : Nat → Nat) : rNd r 0 = r 0 := by
  unfold rNd rB rA rC
  rw [if_neg (by omega), if_neg (by omega), if_neg (by omega)]
  simp (disch := omega) only [rS_n]
section DN
variable {M : gMem} {c : Nat} {r : Nat → Nat} {a : Nat → Nat → Nat}
theorem shP_cong : ∀ (k : Nat) (x : Int64) (f g : Nat → Nat), k ≤ 31 → (∀ j, j < 32 → f j = g j) → ∀ j, j < 32 → shP k x f j = shP k x g j
  | 0, _, _, _, _, h, j, hj => h j hj
  | k + 1, x, f, g, hk, h, j, hj => by
    have ho : upN (fol x) % (k + 2) < k + 2 := Nat.mod_lt _ (by omega)
    refine shP_cong k (fol x) _ _ (by omega) (fun i hi => ?_) j hj
    unfold swp
    rw [h (k + 1) (by omega), h (upN (fol x) % (k + 2)) (by omega), h i hi]
theorem shP_lt : ∀ (k : Nat) (x : Int64) (f : Nat → Nat), k ≤ 31 → (∀ j, j < 32 → f j < 32) → ∀ j, j < 32 → shP k x f j < 32
  | 0, _, _, _, h, j, hj => h j hj
  | k + 1, x, f, hk, h, j, hj => by
    have ho : upN (fol x) % (k + 2) < k + 2 := Nat.mod_lt _ (by omega)
    exact shP_lt k (fol x) _ (by omega) (swp_lt h (by omega) (by omega)) j hj
theorem swp_inj {f : Nat → Nat} {i o : Nat} (h : ∀ u v, u < 32 → v < 32 → f u = f v → u = v) (hi : i < 32) (ho : o < 32) : ∀ u v, u < 32 → v < 32 → swp f i o u = swp f i o v → u = v := by
  intro u v hu hv
  unfold swp
  by_cases a1 : u = o <;> by_cases a2 : v = o
  · exact fun _ => a1.trans a2.symm
  · rw [if_pos a1, if_neg a2]
    by_cases a3 : v = i
    · rw [if_pos a3]
      exact fun q => by have := h i o hi ho q; omega
    · rw [if_neg a3]
      exact fun q => by have := h i v hi hv q; omega
  · rw [if_neg a1, if_pos a2]
    by_cases a3 : u = i
    · rw [if_pos a3]
      exact fun q => by have := h o i ho hi q; omega
    · rw [if_neg a3]
      exact fun q => by have := h u i hu hi q; omega
  · rw [if_neg a1, if_neg a2]
    by_cases a3 : u = i <;> by_cases a4 : v = i
    · exact fun _ => a3.trans a4.symm
    · rw [if_pos a3, if_neg a4]
      exact fun q => by have := h o v ho hv q; omega
    · rw [if_neg a3, if_pos a4]
      exact fun q => by have := h u o hu ho q; omega
    · rw [if_neg a3, if_neg a4]
      exact h u v hu hv
theorem shP_inj : ∀ (k : Nat) (x : Int64) (f : Nat → Nat), k ≤ 31 → (∀ u v, u < 32 → v < 32 → f u = f v → u = v) → ∀ u v, u < 32 → v < 32 → shP k x f u = shP k x f v → u = v
  | 0, _, _, _, h => h
  | k + 1, x, f, hk, h => by
    have ho : upN (fol x) % (k + 2) < k + 2 := Nat.mod_lt _ (by omega)
    exact shP_inj k (fol x) _ (by omega) (swp_inj h (by omega) (by omega))
theorem rOw_cong (r : Nat → Nat) {f g : Nat → Nat} : ∀ i, (∀ j, j < i → f j = g j) → rOw r f i = rOw r g i
  | 0, _ => rfl
  | i + 1, h => by
    show rS (rS (rOw r f i) (21 + f i) (i % 4)) (53 + f i) (i % 4) = rS (rS (rOw r g i) (21 + g i) (i % 4)) (53 + g i) (i % 4)
    rw [rOw_cong r i (fun j hj => h j (by omega)), h i (by omega)]
end DN
