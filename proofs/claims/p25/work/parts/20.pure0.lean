-- ===== PURE: what the decompiled functions answer =====
theorem pB {α β : Type} (x : α) (f : α → Option β) : (some x).bind f = f x := rfl
theorem pN {n : Nat} (h : n < 2 ^ 31) : (nI n).toInt = (n : Int) := nI_toInt h
theorem pNc {n : Nat} (h : n < 2 ^ 31) : (nI n).toNatClampNeg = n := nI_clamp h
theorem pRd {n k : Nat} (f : Nat → Int32) (h : k < n) (hn : n < 2 ^ 31) : gRd n f (nI k) = some (f k) := by
  unfold gRd
  rw [pN (by omega), pNc (by omega), if_pos (by omega)]
theorem pWr {n k : Nat} (M : gMem) (g c : Nat) (x : Int32) (h : k < n) (hn : n < 2 ^ 31) : gWr M g c n (nI k) x = some (gUp M g c (upd (M g c) k x)) := by
  unfold gWr
  rw [pN (by omega), pNc (by omega), if_pos (by omega)]
theorem pLp {σ ρ : Type} {step : σ → Option (σ ⊕ ρ)} {s s' : σ} (h : step s = some (.inl s')) : gLp step s = gLp step s' := by
  rw [gLp_eq, h]
theorem pLx {σ ρ : Type} {step : σ → Option (σ ⊕ ρ)} {s : σ} {r : ρ} (h : step s = some (.inr r)) : gLp step s = some r := by
  rw [gLp_eq, h]
/-- a counted loop: from i to e, with the state that belongs to each i -/
theorem pFor {σ ρ : Type} {step : σ → Option (σ ⊕ ρ)} (S : Nat → σ) (e : Nat) (r : Option ρ) (hs : ∀ i, i < e → step (S i) = some (.inl (S (i + 1)))) (hx : gLp step (S e) = r) : ∀ i, i ≤ e → gLp step (S i) = r := by
  intro i hi
  obtain ⟨n, hn⟩ : ∃ n, n = e - i := ⟨_, rfl⟩
  induction n generalizing i with
  | zero =>
    have : i = e := by omega
    subst this
    exact hx
  | succ n ih =>
    rw [pLp (hs i (by omega))]
    exact ih (i + 1) (by omega) (by omega)
theorem pFor0 {σ ρ : Type} {step : σ → Option (σ ⊕ ρ)} (S : Nat → σ) (e : Nat) {r : Option ρ} {s0 : σ} (h0 : s0 = S 0) (hs : ∀ i, i < e → step (S i) = some (.inl (S (i + 1)))) (hx : gLp step (S e) = r) : gLp step s0 = r := by
  rw [h0]
  exact pFor S e r hs hx 0 (Nat.zero_le _)
theorem pUp2 (M : gMem) (g c : Nat) (f h : Nat → Int32) : gUp (gUp M g c f) g c h = gUp M g c h := by
  funext g' c'
  unfold gUp
  by_cases q : g' = g ∧ c' = c
  · rw [if_pos q, if_pos q]
  · rw [if_neg q, if_neg q, if_neg q]
theorem pUpS (M : gMem) (g c : Nat) : gUp M g c (M g c) = M := by
  funext g' c'
  unfold gUp
  by_cases q : g' = g ∧ c' = c
  · rw [if_pos q, q.1, q.2]
  · rw [if_neg q]
/-- the first n places hold v -/
def pFl (f : Nat → Int32) (v : Int32) (n : Nat) : Nat → Int32 := fun j => if j < n then v else f j
theorem p_fill (g c n : Nat) (M : gMem) (v : Int32) (hn : n < 2 ^ 31) : f_JA_fill g c n M v = some (gUp M g c (pFl (M g c) v n)) := by
  unfold f_JA_fill f_JA_fill_l5
  refine pFor0 (fun i => (nI i, gUp M g c (pFl (M g c) v i))) n ?_ ?_ ?_
  · show (0, M) = (nI 0, gUp M g c (pFl (M g c) v 0))
    have e : pFl (M g c) v 0 = M g c := by
      funext j
      unfold pFl
      rw [if_neg (Nat.not_lt_zero j)]
    rw [e, pUpS, nI_0]
  · intro i hi
    show f_JA_fill_s5 g c n (gUp M g c (pFl (M g c) v i)) v (nI i) (nI n) = _
    unfold f_JA_fill_s5
    rw [if_neg (nI_ge hi hn), pWr _ _ _ _ hi hn, pB, nI_1, gUp_s, pUp2]
    congr 4
    funext j
    unfold upd pFl
    by_cases h1 : j = i
    · subst h1
      rw [if_pos rfl, if_pos (by omega)]
    · rw [if_neg h1]
      by_cases h2 : j < i
      · rw [if_pos h2, if_pos (by omega)]
      · rw [if_neg h2, if_neg (by omega)]
  · exact pLx (by
      show f_JA_fill_s5 g c n (gUp M g c (pFl (M g c) v n)) v (nI n) (nI n) = _
      unfold f_JA_fill_s5
      rw [if_pos (nI_le (Nat.le_refl _) hn)])
