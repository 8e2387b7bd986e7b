-- ===== PURE: bids, undo, the slots, the text's signs =====
section ACT2
variable {M M' W : gMem} {E : Nat → Nat → Nat → Nat} {n c k n' c' : Nat} {u : Nat → Nat} {l : Nat} {t r d q r' d' : Nat → Nat} {a : Nat → Nat → Nat} {e : Nat}
theorem aBid_4 (a : Nat → Nat → Nat) (l s : Nat) : aBid a l s 0 4 = a 0 4 := by
  unfold aBid
  simp (disch := omega) only [aS_k]
-- undo
def px (n : Nat) : Nat := (n + 13) % 14
theorem rg_p (hn : n < 14) (hc : c ≤ 14) (h0 : c ≠ 0) : 2 + px n = rg n c (c - 1) ∧ ∀ i, i < c - 1 → rg (px n) (c - 1) i = rg n c i := by
  have hpx : px n = n - 1 ∧ 1 ≤ n ∨ px n = 13 ∧ n = 0 := by
    unfold px
    omega
  unfold rg
  refine ⟨?_, fun i hi => ?_⟩
  · rcases hpx with ⟨h1, h2⟩ | ⟨h1, h2⟩ <;> omega
  · rcases hpx with ⟨h1, h2⟩ | ⟨h1, h2⟩ <;> omega
end ACT2
