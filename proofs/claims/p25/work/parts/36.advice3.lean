-- ===== PURE: the advice on both sides =====
def aSg (a : Nat → Nat → Nat) : Nat :=
  if a 8 (4 * a 0 6 + aFw a) = 0 then (if fSm (aIs a) false (8 * aFw a) 4 = fSm (aIs a) true (8 * aFw a) 4 then 4294967295 else if aDl a (a 0 6) (aFw a) % 2 = 0 then fSm (aIs a) true (8 * aFw a) 4 else fSm (aIs a) false (8 * aFw a) 4)
  else if a 8 (4 * a 0 6 + aFw a) = 1 then fSm (a2nd a (aFw a)) false (8 * aFw a) 4 else 4294967295
def aAd (a : Nat → Nat → Nat) : Nat := if aFw a = 4294967295 then aLw (aOk a) 32 else if aSg a = 4294967295 then aLw (aOk a) 32 else aSg a
section AF
variable {M : gMem} {e k p s c : Nat} {r : Nat → Nat} {a : Nat → Nat → Nat}
theorem aSg_in (hf : aFw a < 4) : aSg a = 4294967295 ∨ aSg a < 32 ∧ aRs a (aSg a) = 0 := by
  have fit : ∀ c, 8 * aFw a ≤ c → c < 8 * aFw a + 4 → aH a c = a 0 6 → c < 32 ∧ aRs a c = 0 := by
    intro c h1 h2 h3
    refine ⟨by omega, ?_⟩
    unfold aRs
    rw [if_pos h3, if_pos (Or.inr (by omega))]
  have l1 := fSm_in (aIs a) false (8 * aFw a) 4
  have l2 := fSm_in (aIs a) true (8 * aFw a) 4
  have l3 := fSm_in (a2nd a (aFw a)) false (8 * aFw a) 4
  unfold aSg
  split
  · split
    · exact Or.inl rfl
    · split
      · exact l2.imp id (fun h => fit _ h.1 h.2.1 (of_decide_eq_true h.2.2))
      · exact l1.imp id (fun h => fit _ h.1 h.2.1 (of_decide_eq_true h.2.2))
  · split
    · exact l3.imp id (fun h => fit _ h.1 h.2.1 (a2nd_iff.mp h.2.2).1)
    · exact Or.inl rfl
theorem aAd_in (ho : aO a) : aAd a = 4294967295 ∨ aAd a < 32 ∧ aRs a (aAd a) = 0 := by
  have l := aLw_in (aOk a) 32
  have l' : aLw (aOk a) 32 = 4294967295 ∨ aLw (aOk a) 32 < 32 ∧ aRs a (aLw (aOk a) 32) = 0 := l.imp id (fun h => ⟨h.1, of_decide_eq_true h.2⟩)
  unfold aAd
  split
  · exact l'
  · rename_i q
    split
    · exact l'
    · rcases aFw_lt ho.2.1 ho.2.2 with h | ⟨h, -⟩
      · exact absurd h q
      · exact aSg_in h
theorem p_advised0 (hp : a 0 5 < 4294967296) (h : a 0 5 ≠ 2) : f_Ev_advised e (aW M e a) = some (nI 4294967295) := by
  unfold f_Ev_advised
  rw [aW_r, if_neg (show ¬ nI (a 0 5) = 2 from fun z => h ((z_inj (y := 2) hp (by omega)).mp z)), z_m1]
theorem p_advised (ho : aO a) (hF : aF a) (hp : a 0 5 = 2) (ht : a 0 6 < 4) : f_Ev_advised e (aW M e a) = some (nI (aAd a)) := by
  unfold f_Ev_advised aAd
  have l := aLw_in (aOk a) 32
  rw [aW_r, hp, if_pos (show nI 2 = 2 from rfl), p_suitToFollow ho.1 ho.2.1 ho.2.2 ht, pB, z_m1]
  have b73 : ∀ x, x < 4294967296 → f_Ev_advised_b73 e (aW M e a) (nI (aFw a)) (nI x) = some (nI (if x = 4294967295 then aLw (aOk a) 32 else x)) := by
    intro x hx
    unfold f_Ev_advised_b73
    by_cases q : x = 4294967295
    · rw [if_pos (show nI x = -1 by rw [q, ← z_m1]), if_pos q, p_lowest ho ht, pB]
    · rw [if_neg (show ¬ nI x = -1 from fun z => by rw [z_m1] at z; exact q ((z_inj hx (by omega)).mp z)), if_neg q]
  rcases aFw_lt ho.2.1 ho.2.2 with q | ⟨q, -⟩
  · rw [if_pos (show nI (aFw a) = nI 4294967295 by rw [q]), if_pos q]
    unfold f_Ev_advised_b46
    rw [if_pos (show nI (aFw a) = -1 by rw [q, ← z_m1]), b73 _ (by omega), if_pos rfl]
  · have hb8 := ho.1 8 (4 * a 0 6 + aFw a) (by omega)
    have hs1 := fSm_in (aIs a) false (8 * aFw a) 4
    have hs2 := fSm_in (aIs a) true (8 * aFw a) 4
    have hs3 := fSm_in (a2nd a (aFw a)) false (8 * aFw a) 4
    rw [if_neg (show ¬ nI (aFw a) = nI 4294967295 from fun z => by have := (z_inj (by omega) (by omega)).mp z; omega), if_neg (show ¬ aFw a = 4294967295 by omega), aW_r, p_count ht q, pB]
    unfold aSg
    by_cases q0 : a 8 (4 * a 0 6 + aFw a) = 0
    · rw [if_pos (show nI (a 8 (4 * a 0 6 + aFw a)) = 0 by rw [q0]; rfl), if_pos q0, p_firstCard ho ht q, pB]
      exact b73 _ (by (repeat' split) <;> omega)
    · rw [if_neg (show ¬ nI (a 8 (4 * a 0 6 + aFw a)) = 0 from fun z => q0 ((z_inj (y := 0) hb8 (by omega)).mp z)), if_neg q0]
      unfold f_Ev_advised_b46
      rw [if_neg (show ¬ nI (aFw a) = -1 from fun z => by rw [z_m1] at z; have := (z_inj (by omega) (by omega)).mp z; omega), aW_r, p_count ht q, pB]
      by_cases q1 : a 8 (4 * a 0 6 + aFw a) = 1
      · rw [if_pos (show nI (a 8 (4 * a 0 6 + aFw a)) = 1 by rw [q1]; rfl), if_pos q1, p_secondCard ho ht q (hF _ _ ht q (by omega)).1, pB]
        exact b73 _ (by omega)
      · rw [if_neg (show ¬ nI (a 8 (4 * a 0 6 + aFw a)) = 1 from fun z => q1 ((z_inj (y := 1) hb8 (by omega)).mp z)), if_neg q1]
        exact b73 _ (by omega)
end AF
