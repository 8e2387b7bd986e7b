-- ===== PURE: what holds of the world between two calls =====
def fU {α : Type} (E : Nat → α) (e : Nat) (x : α) : Nat → α := fun i => if i = e then x else E i
theorem fU_s {α : Type} (E : Nat → α) (e : Nat) (x : α) : fU E e x e = x := if_pos rfl
theorem fU_n {α : Type} (E : Nat → α) {e i : Nat} (x : α) (h : i ≠ e) : fU E e x i = E i := if_neg h
/-- the ring's place of the i-th remembered state, from 0 for the oldest one -/
def rg (n c i : Nat) : Nat := 2 + (n + 14 - c + i) % 14
/-- the class: its evenings, the ring, the slots, the text -/
def IC (M : gMem) (E : Nat → Nat → Nat → Nat) (n c : Nat) (u : Nat → Nat) (l : Nat) (t : Nat → Nat) : Prop :=
  (∀ e, e < 18 → M e = eN (E e)) ∧ M 18 1 1 = nI n ∧ M 18 1 2 = nI c ∧ (∀ s, s < 2 → M 18 5 s = nI (u s)) ∧ M 18 6 1 = nI l ∧ (∀ j, j < l → M 18 7 j = nI (t j))
/-- the model: its rows -/
def IM (M : gMem) (E : Nat → Nat → Nat → Nat) (n c : Nat) (u : Nat → Nat) (l : Nat) (t : Nat → Nat) (r d q : Nat → Nat) : Prop :=
  M 19 2 = (fun j => nI (r j)) ∧ M 19 9 = (fun j => nI (d j)) ∧ M 19 10 = (fun j => nI (q j)) ∧ RM (E 0) r ∧ (∀ i, i < c → RM (E (rg n c i)) (fun j => d (197 * i + j))) ∧ (∀ s, s < 2 → u s = 1 → RM (E (16 + s)) (fun j => q (197 * s + j))) ∧ M 19 0 11 = nI c ∧ (∀ s, s < 2 → M 19 11 s = nI (u s)) ∧ M 19 0 2 = nI l ∧ (∀ j, j < l → M 19 1 j = nI (t j))
def aG (k : Nat) (a : Nat → Nat → Nat) : Prop := aV a ∧ a 0 4 ≤ 40 + k
/-- what is true of them -/
def IV (k : Nat) (E : Nat → Nat → Nat → Nat) (n c : Nat) (u : Nat → Nat) (l : Nat) (t : Nat → Nat) : Prop :=
  n < 14 ∧ c ≤ 14 ∧ l ≤ 120 ∧ (∀ j, j < l → t j ≤ 255) ∧ (∀ s, s < 2 → u s ≤ 1) ∧ (∀ e, e < 18 → aJ (E e)) ∧ aG k (E 0) ∧ (∀ i, i < c → aG k (E (rg n c i))) ∧ (∀ s, s < 2 → u s = 1 → aG k (E (16 + s)))
def Inv (k : Nat) (M : gMem) : Prop := ∃ E n c u l t r d q, IC M E n c u l t ∧ IM M E n c u l t r d q ∧ IV k E n c u l t
theorem aG.up {k : Nat} {a : Nat → Nat → Nat} (h : aG k a) : aG (k + 1) a := ⟨h.1, by have := h.2; omega⟩
theorem IV.up {k : Nat} {E : Nat → Nat → Nat → Nat} {n c : Nat} {u : Nat → Nat} {l : Nat} {t : Nat → Nat} (h : IV k E n c u l t) : IV (k + 1) E n c u l t :=
  ⟨h.1, h.2.1, h.2.2.1, h.2.2.2.1, h.2.2.2.2.1, h.2.2.2.2.2.1, h.2.2.2.2.2.2.1.up, fun i hi => (h.2.2.2.2.2.2.2.1 i hi).up, fun s hs hu => (h.2.2.2.2.2.2.2.2 s hs hu).up⟩
/-- two worlds that agree on what counts -/
def IS (M M' : gMem) : Prop := (∀ e, e < 18 → M' e = M e) ∧ (∀ c, c = 1 ∨ c = 5 ∨ c = 6 ∨ c = 7 → M' 18 c = M 18 c) ∧ (∀ c, c = 1 ∨ c = 2 ∨ c = 9 ∨ c = 10 ∨ c = 11 → M' 19 c = M 19 c) ∧ M' 19 0 2 = M 19 0 2 ∧ M' 19 0 11 = M 19 0 11
theorem IS.rf (M : gMem) : IS M M := ⟨fun _ _ => rfl, fun _ _ => rfl, fun _ _ => rfl, rfl, rfl⟩
theorem IS.tr {M M' M2 : gMem} (h : IS M M') (h2 : IS M' M2) : IS M M2 :=
  ⟨fun e he => (h2.1 e he).trans (h.1 e he), fun c hc => (h2.2.1 c hc).trans (h.2.1 c hc), fun c hc => (h2.2.2.1 c hc).trans (h.2.2.1 c hc), h2.2.2.2.1.trans h.2.2.2.1, h2.2.2.2.2.trans h.2.2.2.2⟩
/-- a cell that doesn't count is changed -/
theorem IS_up (M : gMem) {g c : Nat} (f : Nat → Int32) (h : g = 20 ∨ (g = 18 ∧ c ≠ 1 ∧ c ≠ 5 ∧ c ≠ 6 ∧ c ≠ 7) ∨ (g = 19 ∧ c ≠ 0 ∧ c ≠ 1 ∧ c ≠ 2 ∧ c ≠ 9 ∧ c ≠ 10 ∧ c ≠ 11)) : IS M (gUp M g c f) := by
  refine ⟨fun e he => funext fun c' => gUp_n _ _ (by omega), fun c' hc => gUp_n _ _ (by omega), fun c' hc => gUp_n _ _ (by omega), ?_, ?_⟩
  · rw [gUp_n _ _ (by omega)]
  · rw [gUp_n _ _ (by omega)]
/-- the model's object: a field that doesn't count -/
theorem IS_st (M : gMem) {k : Nat} (x : Int32) (h : k ≠ 2 ∧ k ≠ 11) : IS M (gSt M 19 0 k x) := by
  unfold gSt
  refine ⟨fun e he => funext fun c' => gUp_n _ _ (by omega), fun c' hc => gUp_n _ _ (by omega), fun c' hc => gUp_n _ _ (by omega), ?_, ?_⟩
  · rw [gUp_s]
    exact pk_un (by omega)
  · rw [gUp_s]
    exact pk_un (by omega)
section II
variable {M M' : gMem} {E : Nat → Nat → Nat → Nat} {n c k : Nat} {u : Nat → Nat} {l : Nat} {t r d q : Nat → Nat}
theorem IC.same (h : IC M E n c u l t) (s : IS M M') : IC M' E n c u l t :=
  ⟨fun e he => (s.1 e he).trans (h.1 e he), (congrFun (s.2.1 1 (by omega)) 1).trans h.2.1, (congrFun (s.2.1 1 (by omega)) 2).trans h.2.2.1, fun i hi => (congrFun (s.2.1 5 (by omega)) i).trans (h.2.2.2.1 i hi), (congrFun (s.2.1 6 (by omega)) 1).trans h.2.2.2.2.1, fun j hj => (congrFun (s.2.1 7 (by omega)) j).trans (h.2.2.2.2.2 j hj)⟩
theorem IM.same (h : IM M E n c u l t r d q) (s : IS M M') : IM M' E n c u l t r d q :=
  ⟨(s.2.2.1 2 (by omega)).trans h.1, (s.2.2.1 9 (by omega)).trans h.2.1, (s.2.2.1 10 (by omega)).trans h.2.2.1, h.2.2.2.1, h.2.2.2.2.1, h.2.2.2.2.2.1, s.2.2.2.2.trans h.2.2.2.2.2.2.1, fun i hi => (congrFun (s.2.2.1 11 (by omega)) i).trans (h.2.2.2.2.2.2.2.1 i hi), s.2.2.2.1.trans h.2.2.2.2.2.2.2.2.1, fun j hj => (congrFun (s.2.2.1 1 (by omega)) j).trans (h.2.2.2.2.2.2.2.2.2 j hj)⟩
theorem Inv.same (h : Inv k M) (s : IS M M') : Inv (k + 1) M' := by
  obtain ⟨E, n, c, u, l, t, r, d, q, h1, h2, h3⟩ := h
  exact ⟨E, n, c, u, l, t, r, d, q, h1.same s, h2.same s, h3.up⟩
theorem aW_self {a : Nat → Nat → Nat} {e : Nat} (h : M e = eN a) : aW M e a = M := by
  unfold aW
  rw [← h, eUp_0]
theorem rW_self {c : Nat} (h : M 19 c = fun j => nI (r j)) : rW M c r = M := by
  unfold rW
  rw [← h, pUpS]
end II
-- ===== PURE: a call of both =====
def CALL (k : Nat) (M : gMem) (C D : gMem → Option (Int32 × gMem)) : Prop := ∃ cd M1 b M2, C M = some (cd, M1) ∧ D M1 = some (b, M2) ∧ M2 19 0 0 = cd ∧ (cd = 0 → gGO M2 = Int32.toInt64 b) ∧ Inv (k + 1) M2
theorem c_tail {k : Int32} {q : Int32 × gMem} (h0 : q.2 19 0 0 = k) (h1 : k = 0 → gGO q.2 = Int32.toInt64 q.1) : ((f_Mo_thrown q.2).bind fun z => if z = k then if k = 0 then if (lg_cmp (gGO q.2) (Int32.toInt64 q.1)) = 0 then some q.2 else none else some q.2 else none) = some q.2 := by
  unfold f_Mo_thrown
  rw [pB, if_pos h0]
  by_cases z : k = 0
  · rw [if_pos z, if_pos ((lg_cmp_eq _ _).mpr (h1 z))]
  · rw [if_neg z]
theorem q_ref (M : gMem) {k : Nat} (h : k < 100) : f_Mo_refused M (nI k) = some (if k = 0 then 0 else 1, gSt M 19 0 0 (nI k)) := by
  unfold f_Mo_refused gSO
  rw [pB, show (0 : Int32) = nI 0 from rfl]
  by_cases z : k = 0
  · rw [if_pos z, if_pos (nI_le (by omega) (by omega))]
  · rw [if_neg z, if_neg (nI_ge (by omega) (by omega))]
theorem st_00 (M : gMem) (x : Int32) : gSt M 19 0 0 x 19 0 0 = x := by
  unfold gSt
  rw [gUp_s]
  exact pk_us
/-- any int is a number from 0 on below a limit, or not -/
theorem i_cases (v : Int32) (n : Nat) (hn : n < 2 ^ 31) : (v < 0 ∨ nI n ≤ v) ∨ ∃ w, w < n ∧ v = nI w := by
  by_cases h : v < 0
  · exact Or.inl (Or.inl h)
  · by_cases h2 : nI n ≤ v
    · exact Or.inl (Or.inr h2)
    · right
      rw [fa_lt] at h
      rw [fa_le, pN hn] at h2
      have h0 : (0 : Int32).toInt = 0 := rfl
      refine ⟨v.toInt.toNat, by omega, ?_⟩
      rw [fa_eq, pN (by omega)]
      omega
theorem q_in (v : Int32) {n : Nat} (h : n < 2 ^ 31) : f_Mo_in (Int32.toInt64 v) 0 (lN n) = some (if ¬ v < 0 ∧ v ≤ nI n then 1 else 0) := by
  unfold f_Mo_in
  have e0 : (0 : Int64) = Int32.toInt64 0 := rfl
  have en : lN n = Int32.toInt64 (nI n) := (nI_l h).symm
  by_cases z : v < 0
  · rw [if_pos ((lg_cmp_lt _ _).mpr (by rw [e0, fa_wide_lt]; exact z)), if_neg (fun q => q.1 z)]
  · rw [if_neg (fun q => z (by rw [lg_cmp_lt, e0, fa_wide_lt] at q; exact q))]
    by_cases z2 : v ≤ nI n
    · rw [if_neg (fun q => by rw [lg_cmp_gt, en, fa_wide_lt, fa_lt] at q; rw [fa_le] at z2; omega), if_pos ⟨z, z2⟩]
    · rw [if_pos ((lg_cmp_gt _ _).mpr (by rw [en, fa_wide_lt, fa_lt]; rw [fa_le] at z2; omega)), if_neg (fun q => z2 q.2)]
