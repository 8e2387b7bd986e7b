-- ===== PURE: the advice on both sides =====
def aSg (a : Nat → Nat → Nat) : Nat :=
  if a 8 (4 * a 0 6 + aFw a) = 0 then (if fSm (aIs a) false (8 * aFw a) 4 = fSm (aIs a) true (8 * aFw a) 4 then 4294967295 else if aDl a (a 0 6) (aFw a) % 2 = 0 then fSm (aIs a) true (8 * aFw a) 4 else fSm (aIs a) false (8 * aFw a) 4)
  else if a 8 (4 * a 0 6 + aFw a) = 1 then fSm (a2nd a (aFw a)) false (8 * aFw a) 4 else 4294967295
def aAd (a : Nat → Nat → Nat) : Nat := if aFw a = 4294967295 then aLw (aOk a) 32 else if aSg a = 4294967295 then aLw (aOk a) 32 else aSg a
section AF
variable {M : gMem} {e k p s c : Nat} {r : Nat → Nat} {a : Nat → Nat → Nat}
theorem aSg_in (hf : aFw a < 4) : aSg a = 4294967295 ∨ aSg a < 32 ∧ aRs a (aSg a) = 0 := by
  have fit : ∀ c, 8 * aFw a ≤ c → c < 8 * aFw a + 4 → aH a c = a 0 6 → c < 32 ∧ aRs a c = 0 := by
    intro c h1 h2 h3
    refine ⟨by omega, ?_⟩
    unfold aRs
    rw [if_pos h3, if_pos (Or.inr (by omega))]
  have l1 := fSm_in (aIs a) false (8 * aFw a) 4
  have l2 := fSm_in (aIs a) true (8 * aFw a) 4
  have l3 := fSm_in (a2nd a (aFw a)) false (8 * aFw a) 4
  unfold aSg
  split
  · split
    · exact Or.inl rfl
    · split
      · exact l2.imp id (fun h => fit _ h.1 h.2.1 (of_decide_eq_true h.2.2))
      · exact l1.imp id (fun h => fit _ h.1 h.2.1 (of_decide_eq_true h.2.2))
  · split
    · exact l3.imp id (fun h => fit _ h.1 h.2.1 (a2nd_iff.mp h.2.2).1)
    · exact Or.inl rfl
theorem aAd_in (ho : aO a) : aAd a = 4294967295 ∨ aAd a < 32 ∧ aRs a (aAd a) = 0 := by
  have l := aLw_in (aOk a) 32
  have l' : aLw (aOk a) 32 = 4294967295 ∨ aLw (aOk a) 32 < 32 ∧ aRs a (aLw (aOk a) 32) = 0 := l.imp id (fun h => ⟨h.1, of_decide_eq_true h.2⟩)
  unfold aAd
  split
  · exact l'
  · rename_i q
    split
    · exact l'
    · rcases aFw_lt ho.2.1 ho.2.2 with h | ⟨h, -⟩
      · exact absurd h q
      · exact aSg_in h
theorem p_advised0 (hp : a 0 5 < 4294967296) (h : a 0 5 ≠ 2) : f_Ev_advised e (aW M e a) = some (nI 4294967295) := by
  unfold f_Ev_advised
  rw [aW_r, if_neg (show ¬ nI (a 0 5) = 2 from fun z => h ((z_inj (y := 2) hp (by omega)).mp z)), z_m1]
theorem p_advised (ho : aO a) (hF : aF a) (hp : a 0 5 = 2) (ht : a 0 6 < 4) : f_Ev_advised e (aW M e a) = some (nI (aAd a)) := by
  unfold f_Ev_advised aAd
  have l := aLw_in (aOk a) 32
  rw [aW_r, hp, if_pos (show nI 2 = 2 from rfl), p_suitToFollow ho.1 ho.2.1 ho.2.2 ht, pB, z_m1]
  have b73 : ∀ x, x < 4294967296 → f_Ev_advised_b73 e (aW M e a) (nI (aFw a)) (nI x) = some (nI (if x = 4294967295 then aLw (aOk a) 32 else x)) := by
    intro x hx
    unfold f_Ev_advised_b73
    by_cases q : x = 4294967295
    · rw [if_pos (show nI x = -1 by rw [q, ← z_m1]), if_pos q, p_lowest ho ht, pB]
    · rw [if_neg (show ¬ nI x = -1 from fun z => by rw [z_m1] at z; exact q ((z_inj hx (by omega)).mp z)), if_neg q]
  rcases aFw_lt ho.2.1 ho.2.2 with q | ⟨q, -⟩
  · rw [if_pos (show nI (aFw a) = nI 4294967295 by rw [q]), if_pos q]
    unfold f_Ev_advised_b46
    rw [if_pos (show nI (aFw a) = -1 by rw [q, ← z_m1]), b73 _ (by omega), if_pos rfl]
  · have hb8 := ho.1 8 (4 * a 0 6 + aFw a) (by omega)
    have hs1 := fSm_in (aIs a) false (8 * aFw a) 4
    have hs2 := fSm_in (aIs a) true (8 * aFw a) 4
    have hs3 := fSm_in (a2nd a (aFw a)) false (8 * aFw a) 4
    rw [if_neg (show ¬ nI (aFw a) = nI 4294967295 from fun z => by have := (z_inj (by omega) (by omega)).mp z; omega), if_neg (show ¬ aFw a = 4294967295 by omega), aW_r, p_count ht q, pB]
    unfold aSg
    by_cases q0 : a 8 (4 * a 0 6 + aFw a) = 0
    · rw [if_pos (show nI (a 8 (4 * a 0 6 + aFw a)) = 0 by rw [q0]; rfl), if_pos q0, p_firstCard ho ht q, pB]
      exact b73 _ (by (repeat' split) <;> omega)
    · rw [if_neg (show ¬ nI (a 8 (4 * a 0 6 + aFw a)) = 0 from fun z => q0 ((z_inj (y := 0) hb8 (by omega)).mp z)), if_neg q0]
      unfold f_Ev_advised_b46
      rw [if_neg (show ¬ nI (aFw a) = -1 from fun z => by rw [z_m1] at z; have := (z_inj (by omega) (by omega)).mp z; omega), aW_r, p_count ht q, pB]
      by_cases q1 : a 8 (4 * a 0 6 + aFw a) = 1
      · rw [if_pos (show nI (a 8 (4 * a 0 6 + aFw a)) = 1 by rw [q1]; rfl), if_pos q1, p_secondCard ho ht q (hF _ _ ht q (by omega)).1, pB]
        exact b73 _ (by omega)
      · rw [if_neg (show ¬ nI (a 8 (4 * a 0 6 + aFw a)) = 1 from fun z => q1 ((z_inj (y := 1) hb8 (by omega)).mp z)), if_neg q1]
        exact b73 _ (by omega)
theorem q_advised0 (hR : RM a r) (hp : a 0 5 < 4294967296) (h : a 0 5 ≠ 2) : f_Mo_advised 19 k 197 (rW M k r) = some (nI 4294967295) := by
  unfold f_Mo_advised
  rw [show (1 : Int32) = nI 1 from rfl, q_rd (by omega) (by omega), pB, hR.r1, if_neg (show ¬ nI (a 0 5) = 2 from fun z => h ((z_inj (y := 2) hp (by omega)).mp z)), z_n1]
theorem q_advised (hR : RM a r) (ho : aO a) (hF : aF a) (hp : a 0 5 = 2) (ht : a 0 6 < 4) : f_Mo_advised 19 k 197 (rW M k r) = some (nI (aAd a)) := by
  unfold f_Mo_advised aAd
  have l := aLw_in (aOk a) 32
  have hd := aDl_le a (a 0 6) (aFw a)
  rw [show (1 : Int32) = nI 1 from rfl, q_rd (by omega) (by omega), pB, hR.r1, hp, if_pos (show nI 2 = 2 from rfl), show (2 : Int32) = nI 2 from rfl, q_rd (by omega) (by omega), pB, hR.r2 (Or.inr hp), q_follows hR ho (Or.inr hp) ht, pB]
  have b144 : ∀ x, x < 4294967296 → f_Mo_advised_b144 19 k 197 (rW M k r) (nI x) = some (nI (if x = 4294967295 then aLw (aOk a) 32 else x)) := by
    intro x hx
    unfold f_Mo_advised_b144
    by_cases q : x = 4294967295
    · rw [if_pos (show nI x = -1 by rw [q, ← z_m1]), if_pos q, q_lowest hR ho (Or.inr hp) ht, pB]
    · rw [if_neg (show ¬ nI x = -1 from fun z => by rw [z_m1] at z; exact q ((z_inj hx (by omega)).mp z)), if_neg q]
  rcases aFw_lt ho.2.1 ho.2.2 with q | ⟨q, q'⟩
  · rw [if_pos q, if_pos q, if_pos (show nI 0 = 0 from rfl), q_lowest hR ho (Or.inr hp) ht, pB]
  · have hb8 := ho.1 8 (4 * a 0 6 + aFw a) (by omega)
    have hs1 := fSm_in (aIs a) false (8 * aFw a) 4
    have hs2 := fSm_in (aIs a) true (8 * aFw a) 4
    have hs3 := fSm_in (a2nd a (aFw a)) false (8 * aFw a) 4
    have h2 := fSm_two (aIs a) (8 * aFw a) (by omega)
    have hct := fb_ct_le (fun i => aIs a (8 * aFw a + i)) 4
    have hd8 := (hR.2.2.2 _ _ ht q).1
    have hf9 := (hR.2.2.2 _ _ ht q).2.1
    rw [if_neg (show ¬ aFw a = 4294967295 by omega), if_neg (show ¬ aFw a = 4294967295 by omega), if_neg (show ¬ nI 1 = 0 by decide), q_led hR ho, pB, ← q', q_wasDealt hR ho.1 q (by omega), pB, show (4 : Int32) = nI 4 from rfl, pk_mul, nI_add, z_rem (by omega) (by omega) (by omega)]
    have b52 : ∀ (hi : Bool), (hi = true ↔ aDl a (a 0 6) (aFw a) % 2 = 0) → f_Mo_advised_b52 19 k 197 (rW M k r) (nI (a 0 6)) (nI (aFw a)) (nI (4 * a 0 6 + aFw a)) (if hi then 1 else 0) = some (nI (if aSg a = 4294967295 then aLw (aOk a) 32 else aSg a)) := by
      intro hi hhi
      unfold f_Mo_advised_b52 aSg
      rw [show (117 : Int32) = nI 117 from rfl, nI_add, q_rd (by omega) (by omega), pB, hd8]
      have b92 : a 8 (4 * a 0 6 + aFw a) ≠ 1 → f_Mo_advised_b92 19 k 197 (rW M k r) (nI (a 0 6)) (nI (aFw a)) (nI (4 * a 0 6 + aFw a)) (if hi then 1 else 0) (-1) = some (nI (aLw (aOk a) 32)) := by
        intro q1
        unfold f_Mo_advised_b92
        rw [show (117 : Int32) = nI 117 from rfl, nI_add, q_rd (by omega) (by omega), pB, hd8, if_neg (show ¬ nI (a 8 (4 * a 0 6 + aFw a)) = 1 from fun z => q1 ((z_inj (y := 1) hb8 (by omega)).mp z)), z_m1, b144 _ (by omega), if_pos rfl]
      by_cases q0 : a 8 (4 * a 0 6 + aFw a) = 0
      · rw [if_pos (show nI (a 8 (4 * a 0 6 + aFw a)) = 0 by rw [q0]; rfl), if_pos q0, q_smallMany hR ho.1 q ht, pB, show (1 : Int32) = nI 1 from rfl]
        by_cases q1 : fb_ct (fun i => aIs a (8 * aFw a + i)) 4 ≤ 1
        · rw [if_pos (nI_le q1 (by omega)), if_pos (h2.mpr q1), if_pos rfl]
          exact b92 (by omega)
        · rw [if_neg (nI_ge (by omega) (by omega)), if_neg (fun z => q1 (h2.mp z)), z_n1]
          have hsm := q_smallOf (M := M) (k := k) (hi := hi) hR ho.1 q ht (ab := 4294967295) (be := 32) (fun _ => true) (fun c hc => ⟨fun z => absurd z (z_nleN (by omega)), fun z => absurd rfl z⟩) (Nat.le_refl _)
          rw [show (32 : Int32) = nI 32 from rfl, show (nI 1) = (1 : Int32) from rfl, hsm, pB]
          have hc : fSm (fun c => aIs a c && (true && decide (c < 32))) hi (8 * aFw a) 4 = fSm (aIs a) hi (8 * aFw a) 4 := fSm_cong 4 (fun i hi2 => by
            show (aIs a (8 * aFw a + i) && (true && decide (8 * aFw a + i < 32))) = aIs a (8 * aFw a + i)
            rw [decide_eq_true (show 8 * aFw a + i < 32 by omega)]; simp)
          rw [hc]
          have h3 := fSm_in (aIs a) hi (8 * aFw a) 4
          rw [b144 _ (by omega)]
          by_cases q3 : aDl a (a 0 6) (aFw a) % 2 = 0
          · rw [if_pos q3, hhi.mpr q3]
          · have : hi = false := by
              cases hi
              · rfl
              · exact absurd (hhi.mp rfl) q3
            rw [if_neg q3, this]
      · rw [if_neg (show ¬ nI (a 8 (4 * a 0 6 + aFw a)) = 0 from fun z => q0 ((z_inj (y := 0) hb8 (by omega)).mp z)), if_neg q0]
        by_cases q1 : a 8 (4 * a 0 6 + aFw a) = 1
        · obtain ⟨f1, f2⟩ := hF _ _ ht q (by omega)
          have f3 : aH a (a 9 (4 * a 0 6 + aFw a)) = 4294967295 := by unfold aH; rw [if_neg f2]
          rw [if_pos q1]
          unfold f_Mo_advised_b92
          rw [show (117 : Int32) = nI 117 from rfl, nI_add, q_rd (by omega) (by omega), pB, hd8, if_pos (show nI (a 8 (4 * a 0 6 + aFw a)) = 1 by rw [q1]; rfl)]
          cases hi
          · have q3 : ¬ aDl a (a 0 6) (aFw a) % 2 = 0 := fun z => by cases hhi.mpr z
            rw [if_neg (show ¬ false = true by decide), if_pos rfl, show (133 : Int32) = nI 133 from rfl, nI_add, q_rd (by omega) (by omega), pB, hf9]
            unfold f_Mo_advised_b121 f_Mo_advised_b138
            have hsm := q_smallOf (M := M) (k := k) (hi := false) hR ho.1 q ht (ab := a 9 (4 * a 0 6 + aFw a)) (be := 32) (fun c => decide (a 9 (4 * a 0 6 + aFw a) < c)) (fun c hc => by rw [nI_leI (by omega) (by omega), decide_eq_true_iff]; omega) (Nat.le_refl _)
            rw [if_pos rfl, show (32 : Int32) = nI 32 from rfl, show (0 : Int32) = (if false = true then 1 else 0) from rfl, hsm, pB]
            have hc : fSm (fun c => aIs a c && (decide (a 9 (4 * a 0 6 + aFw a) < c) && decide (c < 32))) false (8 * aFw a) 4 = fSm (a2nd a (aFw a)) false (8 * aFw a) 4 := fSm_cong 4 (fun i hi2 => by
              rw [Bool.eq_iff_iff, a2nd_iff]
              show (aIs a (8 * aFw a + i) && (decide (a 9 (4 * a 0 6 + aFw a) < 8 * aFw a + i) && decide (8 * aFw a + i < 32))) = true ↔ _
              rw [Bool.and_eq_true, Bool.and_eq_true, decide_eq_true_iff, decide_eq_true_iff]
              unfold aIs
              rw [decide_eq_true_iff]
              constructor
              · rintro ⟨z1, z2, z3⟩
                exact ⟨z1, fun z => by omega, fun z => absurd z q3⟩
              · rintro ⟨z1, z2⟩
                have z3 : ¬ 8 * aFw a + i < a 9 (4 * a 0 6 + aFw a) := fun z => q3 (z2.mp z)
                have z4 : 8 * aFw a + i ≠ a 9 (4 * a 0 6 + aFw a) := fun z => by rw [z, f3] at z1; omega
                exact ⟨z1, by omega, by omega⟩)
            rw [hc]
            exact b144 _ (by omega)
          · have q3 : aDl a (a 0 6) (aFw a) % 2 = 0 := hhi.mp rfl
            rw [if_pos rfl, if_neg (by decide)]
            unfold f_Mo_advised_b121 f_Mo_advised_b138
            have hsm := q_smallOf (M := M) (k := k) (hi := false) hR ho.1 q ht (ab := 4294967295) (be := a 9 (4 * a 0 6 + aFw a)) (fun _ => true) (fun c hc => ⟨fun z => absurd z (z_nleN (by omega)), fun z => absurd rfl z⟩) (by omega)
            rw [if_neg (by decide), show (133 : Int32) = nI 133 from rfl, nI_add, q_rd (by omega) (by omega), pB, hf9, z_m1, show (0 : Int32) = (if false = true then 1 else 0) from rfl, hsm, pB]
            have hc : fSm (fun c => aIs a c && (true && decide (c < a 9 (4 * a 0 6 + aFw a)))) false (8 * aFw a) 4 = fSm (a2nd a (aFw a)) false (8 * aFw a) 4 := fSm_cong 4 (fun i hi2 => by
              rw [Bool.eq_iff_iff, a2nd_iff]
              show (aIs a (8 * aFw a + i) && (true && decide (8 * aFw a + i < a 9 (4 * a 0 6 + aFw a)))) = true ↔ _
              rw [Bool.and_eq_true, Bool.and_eq_true, decide_eq_true_iff]
              unfold aIs
              rw [decide_eq_true_iff]
              exact ⟨fun z => ⟨z.1, fun _ => q3, fun _ => z.2.2⟩, fun z => ⟨z.1, rfl, z.2.mpr q3⟩⟩)
            rw [hc]
            exact b144 _ (by omega)
        · rw [if_neg q1, if_pos rfl]
          exact b92 q1
    by_cases q3 : aDl a (a 0 6) (aFw a) % 2 = 0
    · rw [if_pos (show nI (aDl a (a 0 6) (aFw a) % 2) = 0 by rw [q3]; rfl)]
      exact b52 true ⟨fun _ => q3, fun _ => rfl⟩
    · rw [if_neg (show ¬ nI (aDl a (a 0 6) (aFw a) % 2) = 0 from fun z => q3 ((z_inj (y := 0) (by omega) (by omega)).mp z))]
      exact b52 false ⟨fun z => (nomatch z), fun z => absurd z q3⟩
end AF
