-- ===== PURE: a card is put: the model, first half: what is noted =====
section PT
variable {M : gMem} {k p s c : Nat} {r : Nat → Nat} {a : Nat → Nat → Nat}
theorem rS_at (r : Nat → Nat) (i v j : Nat) : rS r i v j = if j = i then v else r j := rfl
theorem aH_cong {b : Nat → Nat → Nat} (h5 : a 5 c = b 5 c) (h6 : a 6 c = b 6 c) : aH a c = aH b c := by unfold aH; rw [h5, h6]
theorem aTr_cong {b : Nat → Nat → Nat} (h5 : ∀ j, j < 32 → a 5 j = b 5 j) (h10 : a 10 (4 * p + s) = b 10 (4 * p + s)) (hs : s < 4) : aTr a p s = aTr b p s := by
  unfold aTr
  rw [h10, aDl_cong h5 hs]
end PT
