-- ===== PURE: a card is put, whole: the model =====
section PW
variable {M : gMem} {k p s c : Nat} {r : Nat → Nat} {a : Nat → Nat → Nat}
/-- the model's end of a trick, on any row that is like the evening b behind it -/
theorem q_over {b : Nat → Nat → Nat} (hR : RM b (rTk r p)) (hp2 : b 0 5 = 2) (hp : p < 4) (h15 : r 15 = 4) (hpw : f_Mo_winner 19 k 197 (rW M k r) = some (nI s)) (hs : s < 4) (h20 : r 20 < 4) (hps : (r 20 + s) % 4 = p) (hbd : b 0 9 < 4) (hlv : b 0 7 ≤ 4) (hsu : b 0 8 ≤ 4) (htr : ∀ j, j < 2 → b 3 j < 1000) (hl : b 1 3 ≤ 32) : f_Mo_trickOver 19 k 197 (rW M k r) = some (rW M k (if b 1 3 = 32 then rOv b (rTk r p) else rTk r p)) := by
  obtain ⟨⟨f0, f1, f2, f3, f4, f5, f6, f7, f8, f9, f10, f11, f12, f13, f14, f15, f20⟩, -⟩ := hR
  unfold f_Mo_trickOver
  rw [show (20 : Int32) = nI 20 from rfl, q_rd (by omega) (by omega), pB, hpw, pB, nI_add, show (4 : Int32) = nI 4 from rfl, z_rem (by omega) (by omega) (by omega), hps, show (2 : Int32) = nI 2 from rfl, z_rem (by omega) (by omega) (by omega), show (5 : Int32) = nI 5 from rfl, nI_add, q_rd (by omega) (by omega), pB, nI_1, q_wr (by omega) (by omega), pB, show (15 : Int32) = nI 15 from rfl, show (0 : Int32) = nI 0 from rfl, q_wr (by omega) (by omega), pB, q_wr (by omega) (by omega), pB, q_wr (by omega) (by omega), pB]
  rw [show rS (rS (rS (rS r (5 + p % 2) (r (5 + p % 2) + 1)) 15 0) 20 p) 2 p = rTk r p from rfl]
  generalize hq : rTk r p = q at *
  rw [show (14 : Int32) = nI 14 from rfl, q_rd (by omega) (by omega), pB, f14]
  by_cases z : b 1 3 = 32
  · rw [if_pos (show nI (b 1 3) = 32 by rw [z]; rfl), if_pos z, show nI 4 = (4 : Int32) from rfl, show (4 : Int32) = nI 4 from rfl, q_rd (by omega) (by omega), pB, f4, if_neg (show ¬ b 0 5 = 1 by omega), z_rem (by omega) (by omega) (by omega), nI_add, q_rd (by omega) (by omega), pB, show (3 : Int32) = nI 3 from rfl, q_rd (by omega) (by omega), pB, f3, show (1 : Int32) = nI 1 from rfl, q_wr (by omega) (by omega), pB, show (7 : Int32) = nI 7 from rfl, nI_add, q_rd (by omega) (by omega), pB, show (10 : Int32) = nI 10 from rfl, z_div (by omega) (by omega) (by omega), show (10 * b 0 7 + b 0 8) / 10 = b 0 7 by omega, nI_add]
    have x5 : ∀ j, j < 2 → q (5 + j) = b 3 j := fun j hj => by
      rcases (show j = 0 ∨ j = 1 by omega) with rfl | rfl
      · exact f5
      · exact f6
    have x7 : ∀ j, j < 2 → rS q 1 3 (7 + j) = b 4 j := fun j hj => by
      rw [rS_n _ (by omega)]
      rcases (show j = 0 ∨ j = 1 by omega) with rfl | rfl
      · exact f7
      · exact f8
    have ht := htr (b 0 9 % 2) (by omega)
    rw [x5 _ (by omega), x7 _ (by omega)]
    have x8 : ∀ v, rS (rS q 1 3) (7 + b 0 9 % 2) v (8 - b 0 9 % 2) = b 4 (1 - b 0 9 % 2) := fun v => by
      rw [rS_n _ (by omega), show 8 - b 0 9 % 2 = 7 + (1 - b 0 9 % 2) by omega]
      exact x7 _ (by omega)
    unfold rOv
    by_cases w : b 3 (b 0 9 % 2) < 4 + b 0 7
    · rw [if_pos (nI_lt w (by omega)), if_pos w]
      unfold f_Mo_trickOver_b103 f_Mo_trickOver_b133
      rw [show nI 0 = (0 : Int32) from rfl, show (0 : Int32) = nI 0 from rfl, nI_add, Nat.add_zero, q_wr (by omega) (by omega), pB, show (8 : Int32) = nI 8 from rfl, pk_sub (by omega), q_rd (by omega) (by omega), pB, x8, show (4 : Int32) = nI 4 from rfl, nI_add, if_pos (nI_lt w (by omega)), pk_sub (by omega), show (10 : Int32) = nI 10 from rfl, pk_mul, nI_add, q_wr (by omega) (by omega), pB]
    · rw [if_neg (nI_nlt (by omega) (by omega)), if_neg w]
      unfold f_Mo_trickOver_b103 f_Mo_trickOver_b133
      rw [pk_sub (by omega), pk_sub (by omega), pk_mul, pk_mul, nI_add, nI_add, q_wr (by omega) (by omega), pB, show (8 : Int32) = nI 8 from rfl, pk_sub (by omega), q_rd (by omega) (by omega), pB, x8, show (4 : Int32) = nI 4 from rfl, nI_add, if_neg (nI_nlt (by omega) (by omega)), show (0 : Int32) = nI 0 from rfl, nI_add, Nat.add_zero, q_wr (by omega) (by omega), pB, show b 3 (b 0 9 % 2) - 4 - b 0 7 = b 3 (b 0 9 % 2) - (4 + b 0 7) by omega]
  · rw [if_neg (show ¬ nI (b 1 3) = 32 from fun h => z ((z_inj (y := 32) (by omega) (by omega)).mp h)), if_neg z]
theorem q_put60 (hR : RM a r) (ho : aO a) (hp2 : a 0 5 = 2) (ht : a 0 6 < 4) (hl : a 1 3 < 32) (hc : c < 32) (hbd : a 0 9 < 4) (hlv : a 0 7 ≤ 4) (hsu : a 0 8 ≤ 4) (htr : ∀ j, j < 2 → a 3 j < 900) : ∃ r', f_Mo_put_b60 19 k 197 (rW M k r) (nI c) (nI (a 0 6)) = some (rW M k r') ∧ RM (aNx (aL1 a c)) r' := by
  have f14 := hR.r14
  have f15 := hR.r15
  have f20 := hR.1.2.2.2.2.2.2.2.2.2.2.2.2.2.2.2.2 hp2
  have f3 := hR.r3
  unfold f_Mo_put_b60
  rw [show (21 : Int32) = nI 21 from rfl, nI_add, z_m1, q_wr (by omega) (by omega), pB, show (14 : Int32) = nI 14 from rfl, q_rd (by omega) (by omega), pB, rS_n _ (by omega), f14, show (85 : Int32) = nI 85 from rfl, nI_add, q_wr (by omega) (by omega), pB, q_rd (by omega) (by omega), pB]
  have s14 : rS (rS r (21 + c) 4294967295) (85 + c) (a 1 3) 14 = a 1 3 := by simp (disch := omega) only [rS_n, f14]
  rw [s14, nI_1, q_wr (by omega) (by omega), pB, show (15 : Int32) = nI 15 from rfl, q_rd (by omega) (by omega), pB]
  have s15 : rS (rS (rS r (21 + c) 4294967295) (85 + c) (a 1 3)) 14 (a 1 3 + 1) 15 = a 1 3 % 4 := by simp (disch := omega) only [rS_n, f15]
  rw [s15, show (16 : Int32) = nI 16 from rfl, nI_add, q_wr (by omega) (by omega), pB, q_rd (by omega) (by omega), pB, rS_n _ (by omega), s15, nI_1, q_wr (by omega) (by omega), pB, nI_1, show (4 : Int32) = nI 4 from rfl, z_rem (by omega) (by omega) (by omega), show (2 : Int32) = nI 2 from rfl, q_wr (by omega) (by omega), pB, q_rd (by omega) (by omega), pB, rS_n _ (by omega), rS_s]
  rw [show rS (rS (rS (rS (rS (rS r (21 + c) 4294967295) (85 + c) (a 1 3)) 14 (a 1 3 + 1)) (16 + a 1 3 % 4) c) 15 (a 1 3 % 4 + 1)) 2 ((a 0 6 + 1) % 4) = rPut a r c from rfl]
  have x13 := aL1_13 a c
  unfold aNx
  rw [x13]
  by_cases q : (a 1 3 + 1) % 4 = 0
  · rw [if_pos (show nI (a 1 3 % 4 + 1) = nI 4 by rw [show a 1 3 % 4 + 1 = 4 by omega]), if_pos q]
    have hw := aWn_le (fun j => aL1 a c 7 (aL1 a c 1 3 - 4 + j)) (aL1 a c 0 8) 3
    have hwi : aWi (aL1 a c) ≤ 3 := hw
    have hpw : aPw (aL1 a c) < 4 := by unfold aPw; omega
    have c7 : ∀ j, j < 4 → rPut a r c (16 + j) = aL1 a c 7 (aL1 a c 1 3 - 4 + j) := fun j hj => by
      rw [x13, aL1_7]
      unfold rPut
      by_cases z : j = a 1 3 % 4
      · rw [if_pos (by omega), z]
        simp (disch := omega) only [rS_n, rS_s]
      · rw [if_neg (by omega)]
        simp (disch := omega) only [rS_n]
        rw [hR.2.1 j (by omega)]
        congr 1
        omega
    have c7b : ∀ j, j < 4 → aL1 a c 7 (aL1 a c 1 3 - 4 + j) < 32 := fun j hj => by
      rw [x13, aL1_7]
      split
      · exact hc
      · exact ho.2.2 _ (by omega)
    have p3 : rPut a r c 3 = 10 * a 0 7 + aL1 a c 0 8 := by
      rw [aL1_o _ _ _ _ (by omega)]
      unfold rPut
      simp (disch := omega) only [rS_n, f3]
    have hwin := q_winner (M := M) (k := k) c7 c7b p3 (by rw [aL1_o _ _ _ _ (by omega)]; omega) (by omega)
    have p20 : rPut a r c 20 = (a 0 6 + 1) % 4 := by
      unfold rPut
      simp (disch := omega) only [rS_n, f20]
      omega
    have p15 : rPut a r c 15 = 4 := by
      unfold rPut
      simp (disch := omega) only [rS_n, rS_s]
      omega
    have hT := RM_tk hR hp2 hl hc q hpw
    have t0 : ∀ j, j ≠ 6 → aTk (aL1 a c) (aPw (aL1 a c)) 0 j = a 0 j := fun j h => by
      unfold aTk
      rw [aS_k _ h, aS_c _ _ (by omega), aL1_o _ _ _ _ (by omega)]
    have t3 : ∀ j, j < 2 → aTk (aL1 a c) (aPw (aL1 a c)) 3 j < 1000 := fun j hj => by
      have h1 := htr j hj
      have h2 := htr (aPw (aL1 a c) % 2) (by omega)
      unfold aTk
      rw [aS_c _ _ (by omega), aS_at, aL1_o _ _ 3 _ (by omega), aL1_o _ _ 3 _ (by omega)]
      split <;> omega
    have t13 : aTk (aL1 a c) (aPw (aL1 a c)) 1 3 = a 1 3 + 1 := by
      unfold aTk
      rw [aS_c _ _ (by omega), aS_c _ _ (by omega), x13]
    have hov := q_over (M := M) (k := k) hT (by rw [t0 5 (by omega)]; exact hp2) hpw p15 hwin (by exact Nat.lt_of_le_of_lt hwi (by omega)) (by rw [p20]; omega) (by rw [p20]; unfold aPw; rw [aL1_o _ _ 0 6 (by omega)]; rfl) (by rw [t0 9 (by omega)]; exact hbd) (by rw [t0 7 (by omega)]; exact hlv) (by rw [t0 8 (by omega)]; exact hsu) t3 (by rw [t13]; omega)
    rw [hov, pB]
    refine ⟨_, rfl, ?_⟩
    unfold aEt
    rw [t13, x13]
    by_cases z : a 1 3 + 1 = 32
    · rw [if_pos z, if_pos z]
      exact RM_ov hT (by rw [t0 5 (by omega)]; exact hp2) (by rw [t0 9 (by omega)]; exact hbd)
    · rw [if_neg z, if_neg z]
      exact hT
  · rw [if_neg (show ¬ nI (a 1 3 % 4 + 1) = nI 4 from fun z => by have := (z_inj (by omega) (by omega)).mp z; omega), if_neg q]
    refine ⟨_, rfl, ?_⟩
    rw [aL1_o a c 0 6 (by omega)]
    exact RM_on hR hp2 ht hl hc q
end PW
