-- ===== PURE: the cards that can be played, on both sides =====
def aOk (a : Nat → Nat → Nat) (c : Nat) : Bool := decide (aRs a c = 0)
theorem aOk_iff {a : Nat → Nat → Nat} {c : Nat} : aOk a c = true ↔ aH a c = a 0 6 ∧ (aFw a = 4294967295 ∨ c / 8 = aFw a) := by
  unfold aOk aRs
  rw [decide_eq_true_iff]
  by_cases q : aH a c = a 0 6
  · rw [if_pos q]
    by_cases q2 : aFw a = 4294967295 ∨ c / 8 = aFw a
    · rw [if_pos q2]; exact ⟨fun _ => ⟨q, q2⟩, fun _ => rfl⟩
    · rw [if_neg q2]; exact ⟨fun h => absurd h (by decide), fun h => absurd h.2 q2⟩
  · rw [if_neg q]; exact ⟨fun h => absurd h (by decide), fun h => absurd h.1 q⟩
theorem ct_lt {p : Nat → Bool} {i j : Nat} (hp : p i = true) (hij : i < j) : fb_ct p i < fb_ct p j := by
  have h1 := ct_1 p i hp
  have h2 := fb_ct_mono p (m := i + 1) (n := j) hij
  omega
section LG
variable {M : gMem} {e k p s c : Nat} {r : Nat → Nat} {a : Nat → Nat → Nat}
theorem aRs_le (a : Nat → Nat → Nat) (c : Nat) : aRs a c ≤ 2 := by
  unfold aRs
  split
  · split <;> omega
  · omega
theorem ok_many (hf : aFw a = 4294967295 ∨ aFw a < 4) : fb_ct (aOk a) 32 = if aFw a = 4294967295 then aHs a (a 0 6) else aHd a (a 0 6) (aFw a) := by
  by_cases q : aFw a = 4294967295
  · rw [if_pos q]
    refine fb_ct_cong fun c _ => ?_
    rw [Bool.eq_iff_iff, aOk_iff, decide_eq_true_iff]
    exact ⟨fun h => h.1, fun h => ⟨h, Or.inl q⟩⟩
  · rw [if_neg q]
    have hf2 : aFw a < 4 := by omega
    have e1 : ∀ n, fb_ct (aOk a) (8 * n) = if aFw a < n then aHd a (a 0 6) (aFw a) else 0 := by
      intro n
      induction n with
      | zero => rfl
      | succ n ih =>
        rw [show 8 * (n + 1) = 8 * n + 8 by omega, fb_ct_split, ih]
        by_cases q2 : aFw a = n
        · rw [if_neg (by omega), if_pos (by omega), Nat.zero_add]
          refine fb_ct_cong fun j hj => ?_
          rw [Bool.eq_iff_iff, aOk_iff, decide_eq_true_iff, q2]
          exact ⟨fun h => h.1, fun h => ⟨h, Or.inr (by omega)⟩⟩
        · have z : fb_ct (fun j => aOk a (8 * n + j)) 8 = 0 := by
            refine fb_ct_zero.mpr fun j hj => ?_
            rw [← Bool.not_eq_true, aOk_iff]
            rintro ⟨-, h | h⟩ <;> omega
          rw [z, Nat.add_zero]
          by_cases q3 : aFw a < n
          · rw [if_pos q3, if_pos (by omega)]
          · rw [if_neg q3, if_neg (by omega)]
    have := e1 4
    rw [if_pos hf2] at this
    exact this
theorem p_playableCount (ho : aO a) (hp : a 0 5 = 2) (ht : a 0 6 < 4) : f_Ev_playableCount e (aW M e a) = some (nI (fb_ct (aOk a) 32)) := by
  have hf := aFw_lt ho.2.1 ho.2.2
  rw [ok_many (hf.imp id (fun h => h.1))]
  unfold f_Ev_playableCount
  rw [aW_r, hp, if_pos (show nI 2 = 2 from rfl), p_suitToFollow ho.1 ho.2.1 ho.2.2 ht, pB, aW_r]
  rcases hf with q | ⟨q, -⟩
  · rw [if_pos (show nI (aFw a) = -1 by rw [q, ← z_m1]), if_pos q, p_handSize ho.1 (by omega), pB]
  · rw [if_neg (show ¬ nI (aFw a) = -1 from fun z => by rw [z_m1] at z; have := (z_inj (by omega) (by omega)).mp z; omega), if_neg (by omega), p_held ho.1 q (by omega), pB]
end LG
