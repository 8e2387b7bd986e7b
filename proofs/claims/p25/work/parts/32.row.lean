-- ===== PURE: the model's row, against an evening in numbers; its readers =====
def rS (r : Nat → Nat) (k v : Nat) : Nat → Nat := fun j => if j = k then v else r j
theorem rS_s (r : Nat → Nat) (k v : Nat) : rS r k v k = v := by unfold rS; rw [if_pos rfl]
theorem rS_n (r : Nat → Nat) {k v j : Nat} (h : j ≠ k) : rS r k v j = r j := by unfold rS; rw [if_neg h]
/-- what every evening has: numbers of 32 bits, at most 32 cards laid, each a card -/
def aO (a : Nat → Nat → Nat) : Prop := aB a ∧ a 1 3 ≤ 32 ∧ (∀ t, t < a 1 3 → a 7 t < 32)
theorem aHs_sm (a : Nat → Nat → Nat) (p : Nat) : fb_sm (fun s => aHd a p s) 4 = aHs a p := by
  have e : ∀ n, fb_sm (fun s => aHd a p s) n = fb_ct (fun c => decide (aH a c = p)) (8 * n) := by
    intro n
    induction n with
    | zero => rfl
    | succ n ih =>
      rw [fb_sm_succ, ih, show 8 * (n + 1) = 8 * n + 8 by omega, fb_ct_split]
      rfl
  exact e 4
section RQ
variable {M : gMem} {k p s c : Nat} {r : Nat → Nat} {a : Nat → Nat → Nat}
end RQ
