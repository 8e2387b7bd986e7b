-- ===== PURE: the model's pass; plays that are refused; the advice that is played =====
section PS
variable {M : gMem} {e k l s c : Nat} {r : Nat → Nat} {a : Nat → Nat → Nat}
theorem q_passOn (hR : RM a r) (hp : a 0 5 = 1) (ht : a 0 6 < 4) (hbd : a 0 9 < 4 ∧ 1 ≤ a 0 7 ∧ a 0 10 ≤ 2 ∨ a 0 9 = 4294967295 ∧ a 0 7 = 0 ∧ a 0 8 = 0 ∧ a 0 10 ≤ 3) (hlv : a 0 7 ≤ 4) (hsu : a 0 8 ≤ 4) (hl : a 1 3 = 0) : ∃ r', f_Mo_passOn 19 k 197 (rW M k r) = some (nI (aPass a 0 5), rW M k r') ∧ RM (aPass a) r' := by
  have f2 := hR.r2 (Or.inl hp)
  have hR0 := hR
  obtain ⟨⟨f0, f1, -, f3, f4, f5, f6, f7, f8, f9, f10, f11, f12, f13, f14, f15, f20⟩, -⟩ := hR0
  rw [hp, if_pos rfl] at f4
  rw [hp] at f1
  unfold f_Mo_passOn
  rw [show (12 : Int32) = nI 12 from rfl, q_rd (by omega) (by omega), pB, nI_1, q_wr (by omega) (by omega), pB, show (2 : Int32) = nI 2 from rfl, q_rd (by omega) (by omega), pB, rS_n _ (by omega), f2, nI_1, show (4 : Int32) = nI 4 from rfl, z_rem (by omega) (by omega) (by omega), q_wr (by omega) (by omega), pB, show (3 : Int32) = nI 3 from rfl, q_rd (by omega) (by omega), pB, f12]
  have s3 : rS (rS r 12 (a 0 10 + 1)) 2 ((a 0 6 + 1) % 4) 3 = 10 * a 0 7 + a 0 8 := by simp (disch := omega) only [rS_n, f3]
  have s12 : rS (rS r 12 (a 0 10 + 1)) 2 ((a 0 6 + 1) % 4) 12 = a 0 10 + 1 := by simp (disch := omega) only [rS_n, rS_s]
  have s1 : rS (rS r 12 (a 0 10 + 1)) 2 ((a 0 6 + 1) % 4) 1 = 1 := by simp (disch := omega) only [rS_n, f1]
  have s13 : rS (rS r 12 (a 0 10 + 1)) 2 ((a 0 6 + 1) % 4) 13 = a 0 9 := by simp (disch := omega) only [rS_n, f13]
  rw [s3, show (0 : Int32) = nI 0 from rfl]
  -- the plain pass
  have plain : aPs1 a 0 5 = 1 ∧ RM (aPs1 a) (rS (rS r 12 (a 0 10 + 1)) 2 ((a 0 6 + 1) % 4)) := by
    have b05 : aPs1 a 0 5 = 1 := by unfold aPs1; simp (disch := omega) only [aS_k, hp]
    refine ⟨b05, RM_sc hR (fun c' j h => ?_) (fun j h1 h2 => ?_) ?_ ?_⟩
    · unfold aPs1
      simp (disch := omega) only [aS_c]
    · simp (disch := omega) only [rS_n]
    · unfold aPs1
      simp (disch := omega) only [aS_c]
    · unfold RM1
      rw [b05]
      unfold aPs1
      simp (disch := omega) only [aS_k, aS_c, aS_s, rS_n, rS_s]
      exact ⟨f0, f1, fun _ => trivial, f3, by rw [if_pos trivial]; exact f4, f5, f6, f7, f8, f9, f10, f11, trivial, f13, f14, f15, fun z => absurd z (by omega)⟩
  have b64 : a 0 10 + 1 ≠ 4 → f_Mo_passOn_b64 19 k 197 (rW M k (rS (rS r 12 (a 0 10 + 1)) 2 ((a 0 6 + 1) % 4))) = some (nI 1, rW M k (rS (rS r 12 (a 0 10 + 1)) 2 ((a 0 6 + 1) % 4))) := by
    intro hne
    unfold f_Mo_passOn_b64 f_Mo_passOn_b76
    rw [show (12 : Int32) = nI 12 from rfl, q_rd (by omega) (by omega), pB, s12, if_neg (show ¬ nI (a 0 10 + 1) = 4 from fun z => hne ((z_inj (y := 4) (by omega) (by omega)).mp z)), show (1 : Int32) = nI 1 from rfl, q_rd (by omega) (by omega), pB, s1]
  unfold aPass
  rcases hbd with ⟨q, q2, q3⟩ | ⟨q, q2, q3, q4⟩
  · rw [if_neg (nI_ge (by omega) (by omega)), q_rd (by omega) (by omega), pB, s12, if_neg (show ¬ a 0 9 = 4294967295 by omega)]
    by_cases z : a 0 10 + 1 = 3
    · rw [if_pos (show nI (a 0 10 + 1) = nI 3 by rw [z]), if_pos z, show (1 : Int32) = nI 1 from rfl, q_wr (by omega) (by omega), pB, show (13 : Int32) = nI 13 from rfl, q_rd (by omega) (by omega), pB, rS_n _ (by omega), s13, q_wr (by omega) (by omega), pB, q_rd (by omega) (by omega), pB]
      have s13' : rS (rS (rS (rS r 12 (a 0 10 + 1)) 2 ((a 0 6 + 1) % 4)) 1 2) 4 (a 0 9) 13 = a 0 9 := by simp (disch := omega) only [rS_n, f13]
      rw [s13', nI_add, z_rem (by omega) (by omega) (by omega), q_wr (by omega) (by omega), pB, q_rd (by omega) (by omega), pB, rS_s, show (20 : Int32) = nI 20 from rfl, q_wr (by omega) (by omega), pB]
      unfold f_Mo_passOn_b76
      rw [show (1 : Int32) = nI 1 from rfl, q_rd (by omega) (by omega), pB]
      have t1 : rS (rS (rS (rS (rS (rS r 12 (a 0 10 + 1)) 2 ((a 0 6 + 1) % 4)) 1 2) 4 (a 0 9)) 2 ((a 0 9 + 1) % 4)) 20 ((a 0 9 + 1) % 4) 1 = 2 := by simp (disch := omega) only [rS_n, rS_s]
      have b05 : aS (aS (aPs1 a) 0 5 2) 0 6 ((a 0 9 + 1) % 4) 0 5 = 2 := by simp (disch := omega) only [aS_k, aS_s]
      rw [t1, b05]
      refine ⟨_, rfl, RM_sc hR (fun c' j h => ?_) (fun j h1 h2 => ?_) ?_ ?_⟩
      · unfold aPs1
        simp (disch := omega) only [aS_c]
      · simp (disch := omega) only [rS_n]
      · unfold aPs1
        simp (disch := omega) only [aS_c]
      · unfold RM1
        rw [b05]
        unfold aPs1
        simp (disch := omega) only [aS_k, aS_c, aS_s, rS_n, rS_s]
        refine ⟨f0, trivial, fun _ => trivial, f3, ?_, f5, f6, f7, f8, f9, f10, f11, trivial, f13, f14, f15, fun _ => ?_⟩
        · rw [if_neg (by omega)]
        · rw [hl]; omega
    · rw [if_neg (show ¬ nI (a 0 10 + 1) = nI 3 from fun h => z ((z_inj (by omega) (by omega)).mp h)), if_neg z, b64 (by omega), plain.1]
      exact ⟨_, rfl, plain.2⟩
  · rw [if_pos (show nI (10 * a 0 7 + a 0 8) ≤ nI 0 by rw [q2, q3]; exact nI_le (Nat.le_refl _) (by omega)), if_pos q]
    by_cases z : a 0 10 + 1 = 4
    · rw [if_pos z]
      unfold f_Mo_passOn_b64 f_Mo_passOn_b76
      rw [show (12 : Int32) = nI 12 from rfl, q_rd (by omega) (by omega), pB, s12, if_pos (show nI (a 0 10 + 1) = 4 by rw [z]; rfl), show (1 : Int32) = nI 1 from rfl, show (3 : Int32) = nI 3 from rfl, q_wr (by omega) (by omega), pB, q_rd (by omega) (by omega), pB, rS_s]
      have b05 : aS (aS (aPs1 a) 0 5 3) 0 6 4294967295 0 5 = 3 := by simp (disch := omega) only [aS_k, aS_s]
      rw [b05]
      refine ⟨_, rfl, RM_sc hR (fun c' j h => ?_) (fun j h1 h2 => ?_) ?_ ?_⟩
      · unfold aPs1
        simp (disch := omega) only [aS_c]
      · simp (disch := omega) only [rS_n]
      · unfold aPs1
        simp (disch := omega) only [aS_c]
      · unfold RM1
        rw [b05]
        unfold aPs1
        simp (disch := omega) only [aS_k, aS_c, aS_s, rS_n, rS_s]
        refine ⟨f0, trivial, fun z => by omega, f3, ?_, f5, f6, f7, f8, f9, f10, f11, trivial, f13, f14, f15, fun z => by omega⟩
        rw [if_neg (by omega), f4, q]
    · rw [if_neg z, b64 z, plain.1]
      exact ⟨_, rfl, plain.2⟩
def aRf (a : Nat → Nat → Nat) : Nat → Nat → Nat := aS a 0 13 (a 0 13 + 1)
theorem q_playOn (hR : RM a r) (h : aP a) (hc : c < 32) : ∃ r', f_Mo_playOn 19 k 197 (rW M k r) (nI c) = some (nI (aRs a c), rW M k r') ∧ RM (if aRs a c = 0 then aLay a c else aRf a) r' := by
  have hr := aRs_le a c
  unfold f_Mo_playOn f_Mo_playOn_b26
  rw [q_reason hR h.1 (Or.inr h.2.2.1) h.2.2.2.1 hc, pB]
  by_cases q : aRs a c = 0
  · rw [if_pos (show nI (aRs a c) = 0 by rw [q]; rfl), if_pos q]
    obtain ⟨r', e1, e2⟩ := q_put (M := M) (k := k) hR h hc
    rw [e1, pB]
    exact ⟨r', rfl, e2⟩
  · rw [if_neg (show ¬ nI (aRs a c) = 0 from fun z => q ((z_inj (y := 0) (by omega) (by omega)).mp z)), if_neg q, show (11 : Int32) = nI 11 from rfl, q_rd (by omega) (by omega), pB, nI_1, q_wr (by omega) (by omega), pB]
    refine ⟨_, rfl, ?_⟩
    have hR0 := hR
    obtain ⟨⟨f0, f1, f2, f3, f4, f5, f6, f7, f8, f9, f10, f11, f12, f13, f14, f15, f20⟩, -⟩ := hR0
    refine RM_sc hR (fun c' j h => ?_) (fun j h1 h2 => ?_) ?_ ?_
    · unfold aRf
      simp (disch := omega) only [aS_c]
    · simp (disch := omega) only [rS_n]
    · unfold aRf
      simp (disch := omega) only [aS_c]
    · unfold RM1 aRf
      simp (disch := omega) only [aS_k, aS_c, aS_s, rS_n, rS_s]
      exact ⟨f0, f1, f2, f3, f4, f5, f6, f7, f8, f9, f10, by rw [f11], f12, f13, f14, f15, f20⟩
theorem q_playAdvice0 (hR : RM a r) (hp : a 0 5 < 4294967296) (h : a 0 5 ≠ 2) : f_Mo_playAdvice 19 k 197 (rW M k r) = some (0, rW M k r) := by
  unfold f_Mo_playAdvice f_Mo_playAdvice_b15
  rw [q_advised0 hR hp h, pB, ← z_m1, if_pos rfl, if_pos rfl]
theorem q_playAdvice (hR : RM a r) (h : aP a) : ∃ r', f_Mo_playAdvice 19 k 197 (rW M k r) = some (nI (if aAd a = 4294967295 then 0 else 1), rW M k r') ∧ RM (if aAd a = 4294967295 then a else aLay a (aAd a)) r' := by
  unfold f_Mo_playAdvice f_Mo_playAdvice_b15
  rw [q_advised hR h.1 h.2.1 h.2.2.1 h.2.2.2.1, pB, z_m1]
  rcases aAd_in h.1 with q | ⟨q, -⟩
  · rw [if_pos (show nI (aAd a) = nI 4294967295 by rw [q]), if_pos q, if_pos q]
    exact ⟨r, if_pos (by rw [q]), hR⟩
  · have n : ¬ nI (aAd a) = nI 4294967295 := fun z => by have := (z_inj (by omega) (by omega)).mp z; omega
    have n2 : ¬ aAd a = 4294967295 := by omega
    rw [if_neg n, if_neg n2, if_neg n2]
    obtain ⟨r', e1, e2⟩ := q_put (M := M) (k := k) hR h q
    rw [e1, pB]
    exact ⟨r', if_neg n, e2⟩
end PS
