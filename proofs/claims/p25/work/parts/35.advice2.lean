-- ===== PURE: the second signal's card; the model's small cards; the advice on both sides =====
def aF (a : Nat → Nat → Nat) : Prop := ∀ p s, p < 4 → s < 4 → a 8 (4 * p + s) ≠ 0 → a 9 (4 * p + s) < 32 ∧ a 6 (a 9 (4 * p + s)) ≠ 4294967295
section AE
variable {M : gMem} {e k p s c : Nat} {r : Nat → Nat} {a : Nat → Nat → Nat}
def a2nd (a : Nat → Nat → Nat) (s c : Nat) : Bool := aIs a c && decide ((if c < a 9 (4 * a 0 6 + s) then 2 else 1) = (if aDl a (a 0 6) s % 2 = 0 then 2 else 1))
theorem a2nd_iff : a2nd a s c = true ↔ aH a c = a 0 6 ∧ (c < a 9 (4 * a 0 6 + s) ↔ aDl a (a 0 6) s % 2 = 0) := by
  unfold a2nd aIs
  rw [Bool.and_eq_true, decide_eq_true_iff, decide_eq_true_iff]
  by_cases q1 : c < a 9 (4 * a 0 6 + s) <;> by_cases q2 : aDl a (a 0 6) s % 2 = 0 <;> simp [q1, q2]
theorem p_secondCard (ho : aO a) (ht : a 0 6 < 4) (hs : s < 4) (hf : a 9 (4 * a 0 6 + s) < 32) : f_Ev_secondSignalCard e (aW M e a) (nI s) = some (nI (fSm (a2nd a s) false (8 * s) 4)) := by
  unfold f_Ev_secondSignalCard
  have hd := aDl_le a (a 0 6) s
  rw [aW_r, p_dealt ho.1 hs (by omega), pB, p_truthFor (by omega), pB]
  have key : ∀ i, i < 4 → f_Ev_secondSignalCard_s21 e (aW M e a) (nI s) (nI (if aDl a (a 0 6) s % 2 = 0 then 2 else 1)) (nI (8 * s + i)) = if a2nd a s (8 * s + i) = true then some (.inr (nI (8 * s + i))) else some (.inl (nI (8 * s + (i + 1)))) := by
    intro i hi
    unfold f_Ev_secondSignalCard_s21 f_Ev_secondSignalCard_b68
    have hh := aH_b ho.1 (8 * s + i)
    rw [show (8 : Int32) = nI 8 from rfl, show (4 : Int32) = nI 4 from rfl, pk_mul, nI_add, Nat.mul_comm s 8, if_neg (nI_ge (by omega) (by omega)), p_holder ho.1 (by omega), pB, aW_r]
    by_cases q : aH a (8 * s + i) = a 0 6
    · rw [if_pos (by rw [q]), p_first ht hs, pB, p_told (by omega) (by omega), pB, nI_1]
      by_cases q2 : a2nd a s (8 * s + i) = true
      · rw [if_pos q2, if_pos]
        have := (a2nd_iff.mp q2).2
        by_cases q3 : aDl a (a 0 6) s % 2 = 0
        · rw [if_pos q3, if_pos (this.mpr q3)]
        · rw [if_neg q3, if_neg (fun z => q3 (this.mp z))]
      · rw [if_neg q2, if_neg]
        · rfl
        · intro z
          have z2 := (z_inj (by split <;> omega) (by split <;> omega)).mp z
          refine q2 (a2nd_iff.mpr ⟨q, ?_⟩)
          by_cases q3 : aDl a (a 0 6) s % 2 = 0 <;> by_cases q4 : 8 * s + i < a 9 (4 * a 0 6 + s)
          · exact ⟨fun _ => q3, fun _ => q4⟩
          · rw [if_pos q3, if_neg q4] at z2; omega
          · rw [if_neg q3, if_pos q4] at z2; omega
          · exact ⟨fun h => absurd h q4, fun h => absurd h q3⟩
    · rw [if_neg (fun z => q ((z_inj hh (by omega)).mp z)), if_neg (fun z => q (a2nd_iff.mp z).1), nI_1]; rfl
  have e0 : nI s * 8 = nI (8 * s + 0) := by rw [show (8 : Int32) = nI 8 from rfl, pk_mul, Nat.mul_comm]; rfl
  unfold f_Ev_secondSignalCard_l21
  by_cases hx : ∃ x, x < 4 ∧ a2nd a s (8 * s + x) = true
  · obtain ⟨x, hx1, hx2, hx3⟩ := fb_first hx
    rw [fSm_yes (a2nd a s) (8 * s) x hx2 hx3 (by omega) 4 hx1]
    refine pFor0 (fun i => nI (8 * s + i)) x e0 (fun i hi => ?_) (pLx ?_)
    · exact (key i (by omega)).trans (if_neg (hx3 i hi))
    · exact (key x hx1).trans (if_pos hx2)
  · have hn : ∀ i, i < 4 → ¬ a2nd a s (8 * s + i) = true := fun i hi z => hx ⟨i, hi, z⟩
    rw [fSm_no (a2nd a s) (8 * s) 4 hn]
    refine pFor0 (fun i => nI (8 * s + i)) 4 e0 (fun i hi => ?_) (pLx ?_)
    · exact (key i hi).trans (if_neg (hn i hi))
    · show f_Ev_secondSignalCard_s21 e (aW M e a) (nI s) _ (nI (8 * s + 4)) = _
      unfold f_Ev_secondSignalCard_s21
      rw [show (8 : Int32) = nI 8 from rfl, show (4 : Int32) = nI 4 from rfl, pk_mul, nI_add, Nat.mul_comm s 8, if_pos (nI_le (Nat.le_refl _) (by omega)), z_m1]
theorem fSm_cong {g h : Nat → Bool} {hi : Bool} {b : Nat} : ∀ n, (∀ i, i < n → g (b + i) = h (b + i)) → fSm g hi b n = fSm h hi b n
  | 0, _ => rfl
  | n + 1, q => by
    unfold fSm
    rw [fSm_cong n (fun i hi => q i (by omega)), q n (by omega)]
end AE
