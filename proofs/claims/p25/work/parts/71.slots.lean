-- ===== PURE: the slots, the text's signs =====
section SL
variable {M M' W : gMem} {E : Nat → Nat → Nat → Nat} {n c k n' c' : Nat} {u : Nat → Nat} {l : Nat} {t r d q r' d' : Nat → Nat} {a : Nat → Nat → Nat} {e : Nat}
theorem IC.used (h : IC M E n c u l t) {s : Nat} (x : Nat) : IC (gUp M 18 5 (upd (M 18 5) s (nI x))) E n c (fU u s x) l t := by
  refine ⟨fun e he => (funext fun c => gUp_n _ _ (by omega)).trans (h.1 e he), ?_, ?_, fun i hi => ?_, ?_, fun i hi => ?_⟩
  · rw [gUp_n _ _ (by omega)]
    exact h.2.1
  · rw [gUp_n _ _ (by omega)]
    exact h.2.2.1
  · rw [gUp_s]
    by_cases z : i = s
    · rw [z, pk_us, fU_s]
    · rw [pk_un z, fU_n _ _ z]
      exact h.2.2.2.1 i hi
  · rw [gUp_n _ _ (by omega)]
    exact h.2.2.2.2.1
  · rw [gUp_n _ _ (by omega)]
    exact h.2.2.2.2.2 i hi
theorem IC.text (h : IC M E n c u l t) {l' : Nat} {t' : Nat → Nat} {f : Nat → Int32} (hf : ∀ j, j < l' → f j = nI (t' j)) : IC (gSt (gUp M 18 7 f) 18 6 1 (nI l')) E n c u l' t' := by
  have o : ∀ g c0, ¬ (g = 18 ∧ (c0 = 6 ∨ c0 = 7)) → gSt (gUp M 18 7 f) 18 6 1 (nI l') g c0 = M g c0 := fun g c0 z => by
    unfold gSt
    rw [gUp_n _ _ (by omega), gUp_n _ _ (by omega)]
  refine ⟨fun e he => (funext fun c => o e c (by omega)).trans (h.1 e he), by rw [o 18 1 (by omega)]; exact h.2.1, by rw [o 18 1 (by omega)]; exact h.2.2.1, fun i hi => by rw [o 18 5 (by omega)]; exact h.2.2.2.1 i hi, ?_, fun i hi => ?_⟩
  · unfold gSt
    rw [gUp_s, pk_us]
  · unfold gSt
    rw [gUp_n _ _ (by omega), gUp_s]
    exact hf i hi
end SL
