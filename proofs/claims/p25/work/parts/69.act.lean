-- ===== PURE: calls that change =====
section ACT
variable {M M' W : gMem} {E : Nat → Nat → Nat → Nat} {n c k n' c' : Nat} {u : Nat → Nat} {l : Nat} {t r d q r' d' : Nat → Nat} {a : Nat → Nat → Nat} {e : Nat} {C D : gMem → Option (Int32 × gMem)}
theorem aG_deal (h : aG k a) (x : Int64) : aG (k + 1) (aDeal a x) := ⟨aV_deal h.1, by rw [aDeal_4]; have := h.2; omega⟩
theorem aRf_4 (a : Nat → Nat → Nat) : aRf a 0 4 = a 0 4 := by unfold aRf; rw [aS_k _ (by omega)]
end ACT
