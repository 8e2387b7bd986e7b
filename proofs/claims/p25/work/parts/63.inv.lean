-- ===== PURE: what holds of the world between two calls =====
def fU {α : Type} (E : Nat → α) (e : Nat) (x : α) : Nat → α := fun i => if i = e then x else E i
theorem fU_s {α : Type} (E : Nat → α) (e : Nat) (x : α) : fU E e x e = x := if_pos rfl
theorem fU_n {α : Type} (E : Nat → α) {e i : Nat} (x : α) (h : i ≠ e) : fU E e x i = E i := if_neg h
/-- the ring's place of the i-th remembered state, from 0 for the oldest one -/
def rg (n c i : Nat) : Nat := 2 + (n + 14 - c + i) % 14
/-- the class: its evenings, the ring, the slots, the text -/
def IC (M : gMem) (E : Nat → Nat → Nat → Nat) (n c : Nat) (u : Nat → Nat) (l : Nat) (t : Nat → Nat) : Prop :=
  (∀ e, e < 18 → M e = eN (E e)) ∧ M 18 1 1 = nI n ∧ M 18 1 2 = nI c ∧ (∀ s, s < 2 → M 18 5 s = nI (u s)) ∧ M 18 6 1 = nI l ∧ (∀ j, j < l → M 18 7 j = nI (t j))
def aG (k : Nat) (a : Nat → Nat → Nat) : Prop := aV a ∧ a 0 4 ≤ 40 + k
/-- what is true of them -/
def IV (k : Nat) (E : Nat → Nat → Nat → Nat) (n c : Nat) (u : Nat → Nat) (l : Nat) (t : Nat → Nat) : Prop :=
  n < 14 ∧ c ≤ 14 ∧ l ≤ 120 ∧ (∀ j, j < l → t j ≤ 255) ∧ (∀ s, s < 2 → u s ≤ 1) ∧ (∀ e, e < 18 → aJ (E e)) ∧ aG k (E 0) ∧ (∀ i, i < c → aG k (E (rg n c i))) ∧ (∀ s, s < 2 → u s = 1 → aG k (E (16 + s)))
theorem aG.up {k : Nat} {a : Nat → Nat → Nat} (h : aG k a) : aG (k + 1) a := ⟨h.1, by have := h.2; omega⟩
theorem IV.up {k : Nat} {E : Nat → Nat → Nat → Nat} {n c : Nat} {u : Nat → Nat} {l : Nat} {t : Nat → Nat} (h : IV k E n c u l t) : IV (k + 1) E n c u l t :=
  ⟨h.1, h.2.1, h.2.2.1, h.2.2.2.1, h.2.2.2.2.1, h.2.2.2.2.2.1, h.2.2.2.2.2.2.1.up, fun i hi => (h.2.2.2.2.2.2.2.1 i hi).up, fun s hs hu => (h.2.2.2.2.2.2.2.2 s hs hu).up⟩
section II
variable {M M' : gMem} {E : Nat → Nat → Nat → Nat} {n c k : Nat} {u : Nat → Nat} {l : Nat} {t r d q : Nat → Nat}
theorem aW_self {a : Nat → Nat → Nat} {e : Nat} (h : M e = eN a) : aW M e a = M := by
  unfold aW
  rw [← h, eUp_0]
end II
-- ===== PURE: a call of both =====
/-- any int is a number from 0 on below a limit, or not -/
theorem i_cases (v : Int32) (n : Nat) (hn : n < 2 ^ 31) : (v < 0 ∨ nI n ≤ v) ∨ ∃ w, w < n ∧ v = nI w := by
  by_cases h : v < 0
  · exact Or.inl (Or.inl h)
  · by_cases h2 : nI n ≤ v
    · exact Or.inl (Or.inr h2)
    · right
      rw [fa_lt] at h
      rw [fa_le, pN hn] at h2
      have h0 : (0 : Int32).toInt = 0 := rfl
      refine ⟨v.toInt.toNat, by omega, ?_⟩
      rw [fa_eq, pN (by omega)]
      omega
