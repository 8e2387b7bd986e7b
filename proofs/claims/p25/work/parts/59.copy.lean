-- ===== PURE: an evening is copied: the class =====
def aCw (a b : Nat → Nat → Nat) (c n : Nat) : Nat → Nat → Nat := fun c' j => if c' = c ∧ j < n then b c j else a c' j
theorem p_copyRow {M : gMem} {e e0 c n : Nat} {a b : Nat → Nat → Nat} (he : e0 ≠ e) (hM : M e0 = eN b) (hn : n < 2 ^ 31) : f_DS_copyRow e0 c n e c n (aW M e a) = some (aW M e (aCw a b c n)) := by
  unfold f_DS_copyRow gCp
  rw [z_ofn, if_neg (show ¬ nI n < nI n from nI_nlt (Nat.le_refl n) hn)]
  rw [if_pos ⟨⟨by decide, by decide, nI_pos hn⟩, by rw [nI_clamp hn]; show 0 + n ≤ n; omega, by rw [nI_clamp hn]; show 0 + n ≤ n; omega⟩, pB]
  rw [nI_clamp hn, aW_n M a he, hM, aW_c]
  unfold aW
  rw [gUp_e]
  refine congrArg (fun z => some (eUp M e z)) (funext fun c' => funext fun j => ?_)
  unfold cUp
  by_cases q : c' = c
  · subst q
    rw [if_pos rfl]
    by_cases q2 : j < n
    · have h1 := pk_cpy_in (f := eN b c') (g := fun j => nI (a c' j)) (sp := 0) (dp := 0) (n := n) (j := j) (Nat.zero_le _) (by omega)
      exact h1.trans (by unfold eN aCw; rw [if_pos ⟨rfl, q2⟩, show 0 + (j - 0) = j by omega])
    · have h1 := pk_cpy_out (f := eN b c') (g := fun j => nI (a c' j)) (sp := 0) (dp := 0) (n := n) (j := j) (Or.inr (by omega))
      exact h1.trans (by unfold eN aCw; rw [if_neg (fun z => q2 z.2)])
  · rw [if_neg q]
    unfold eN aCw
    rw [if_neg (fun z => q z.1)]
