-- ===== PURE: the trick is over; a card is put, whole =====
section PV
variable {M : gMem} {k p s c : Nat} {r : Nat → Nat} {a : Nat → Nat → Nat}
/-- the first block of the row -/
def RM1 (a : Nat → Nat → Nat) (r : Nat → Nat) : Prop := r 0 = a 0 4 ∧ r 1 = a 0 5 ∧ (a 0 5 = 1 ∨ a 0 5 = 2 → r 2 = a 0 6) ∧ r 3 = 10 * a 0 7 + a 0 8 ∧ r 4 = (if a 0 5 = 1 then 4294967295 else a 0 9) ∧ r 5 = a 3 0 ∧ r 6 = a 3 1 ∧ r 7 = a 4 0 ∧ r 8 = a 4 1 ∧ r 9 = a 0 11 ∧ r 10 = a 0 12 ∧ r 11 = a 0 13 ∧ r 12 = a 0 10 ∧ r 13 = a 0 9 ∧ r 14 = a 1 3 ∧ r 15 = a 1 3 % 4 ∧ (a 0 5 = 2 → r 20 = (a 0 6 + 4 - a 1 3 % 4) % 4)
theorem RM_sc {b : Nat → Nat → Nat} {r' : Nat → Nat} (hR : RM a r) (hc : ∀ c' j, 5 ≤ c' → b c' j = a c' j) (hr : ∀ j, 16 ≤ j → j ≠ 20 → r' j = r j) (h13 : b 1 3 = a 1 3) (h1 : RM1 b r') : RM b r' := by
  obtain ⟨-, g1, g2, g3⟩ := hR
  refine ⟨h1, fun j hj => ?_, fun c hcc => ?_, fun p s hp hs => ?_⟩
  · rw [h13] at hj ⊢
    rw [hr _ (by omega) (by omega), hc 7 _ (by omega)]
    exact g1 j hj
  · rw [hr _ (by omega) (by omega), hr _ (by omega) (by omega), hr _ (by omega) (by omega), aH_cong (hc 5 c (by omega)) (hc 6 c (by omega)), hc 5 c (by omega), hc 6 c (by omega)]
    exact g2 c hcc
  · rw [hr _ (by omega) (by omega), hr _ (by omega) (by omega), hr _ (by omega) (by omega), hr _ (by omega) (by omega), hr _ (by omega) (by omega), aTr_cong (b := a) (fun j _ => hc 5 j (by omega)) (hc 10 _ (by omega)) hs, hc 8 _ (by omega), hc 9 _ (by omega), hc 10 _ (by omega), hc 11 _ (by omega)]
    exact g3 p s hp hs
/-- the row behind a trick -/
def rTk (r : Nat → Nat) (p : Nat) : Nat → Nat := rS (rS (rS (rS r (5 + p % 2) (r (5 + p % 2) + 1)) 15 0) 20 p) 2 p
theorem RM_tk (hR : RM a r) (hp2 : a 0 5 = 2) (hl : a 1 3 < 32) (hc : c < 32) (hq : (a 1 3 + 1) % 4 = 0) (hpw : p < 4) : RM (aTk (aL1 a c) p) (rTk (rPut a r c) p) := by
  obtain ⟨B1, B2⟩ := rPut_blocks (c := c) hR hl hc
  obtain ⟨⟨f0, f1, f2, f3, f4, f5, f6, f7, f8, f9, f10, f11, f12, f13, f14, f15, f20⟩, g1, -, -⟩ := hR
  have ho : ∀ c' j, c' ≠ 0 → c' ≠ 3 → aTk (aL1 a c) p c' j = aL1 a c c' j := fun c' j h h2 => by
    unfold aTk
    rw [aS_c _ _ h, aS_c _ _ h2]
  have h0 : ∀ j, j ≠ 6 → aTk (aL1 a c) p 0 j = a 0 j := fun j h => by
    unfold aTk
    rw [aS_k _ h, aS_c _ _ (by omega), aL1_o _ _ _ _ (by omega)]
  have h06 : aTk (aL1 a c) p 0 6 = p := aS_s _ _ _ _
  have h3 : ∀ j, aTk (aL1 a c) p 3 j = if j = p % 2 then a 3 j + 1 else a 3 j := fun j => by
    unfold aTk
    rw [aS_c _ _ (by omega), aS_at]
    by_cases z : j = p % 2
    · rw [if_pos z, if_pos z, aL1_o _ _ _ _ (by omega), z]
    · rw [if_neg z, if_neg z, aL1_o _ _ _ _ (by omega)]
  have h13 : aTk (aL1 a c) p 1 3 = a 1 3 + 1 := (ho 1 3 (by omega) (by omega)).trans (aL1_13 a c)
  have h4 : ∀ j, aTk (aL1 a c) p 4 j = a 4 j := fun j => (ho 4 j (by omega) (by omega)).trans (aL1_o _ _ _ _ (by omega))
  have rr : ∀ j, j < 16 → j ≠ 2 → j ≠ 5 → j ≠ 6 → j ≠ 14 → j ≠ 15 → rTk (rPut a r c) p j = r j := fun j h1 h2 h3 h4 h5 h6 => by
    unfold rTk rPut
    simp (disch := omega) only [rS_n]
  have r5 : ∀ j, j < 2 → rTk (rPut a r c) p (5 + j) = if j = p % 2 then r (5 + j) + 1 else r (5 + j) := fun j hj => by
    unfold rTk
    simp (disch := omega) only [rS_n]
    rw [rS_at]
    by_cases z : j = p % 2
    · rw [if_pos (by omega), if_pos z, ← z]
      unfold rPut
      simp (disch := omega) only [rS_n]
    · rw [if_neg (by omega), if_neg z]
      unfold rPut
      simp (disch := omega) only [rS_n]
  have rb : ∀ j, 21 ≤ j → rTk (rPut a r c) p j = rPut a r c j := fun j h => by
    unfold rTk
    simp (disch := omega) only [rS_n]
  refine ⟨⟨?_, ?_, ?_, ?_, ?_, ?_, ?_, ?_, ?_, ?_, ?_, ?_, ?_, ?_, ?_, ?_, ?_⟩, ?_, ?_, ?_⟩
  · rw [rr 0 (by omega) (by omega) (by omega) (by omega) (by omega) (by omega), h0 4 (by omega)]; exact f0
  · rw [rr 1 (by omega) (by omega) (by omega) (by omega) (by omega) (by omega), h0 5 (by omega)]; exact f1
  · intro _
    rw [h06]
    exact rS_s _ _ _
  · rw [rr 3 (by omega) (by omega) (by omega) (by omega) (by omega) (by omega), h0 7 (by omega), h0 8 (by omega)]; exact f3
  · rw [rr 4 (by omega) (by omega) (by omega) (by omega) (by omega) (by omega), h0 5 (by omega), h0 9 (by omega)]; exact f4
  · rw [r5 0 (by omega), h3 0]
    show (if 0 = p % 2 then r 5 + 1 else r 5) = _
    rw [f5]
  · rw [r5 1 (by omega), h3 1]
    show (if 1 = p % 2 then r 6 + 1 else r 6) = _
    rw [f6]
  · rw [rr 7 (by omega) (by omega) (by omega) (by omega) (by omega) (by omega), h4]; exact f7
  · rw [rr 8 (by omega) (by omega) (by omega) (by omega) (by omega) (by omega), h4]; exact f8
  · rw [rr 9 (by omega) (by omega) (by omega) (by omega) (by omega) (by omega), h0 11 (by omega)]; exact f9
  · rw [rr 10 (by omega) (by omega) (by omega) (by omega) (by omega) (by omega), h0 12 (by omega)]; exact f10
  · rw [rr 11 (by omega) (by omega) (by omega) (by omega) (by omega) (by omega), h0 13 (by omega)]; exact f11
  · rw [rr 12 (by omega) (by omega) (by omega) (by omega) (by omega) (by omega), h0 10 (by omega)]; exact f12
  · rw [rr 13 (by omega) (by omega) (by omega) (by omega) (by omega) (by omega), h0 9 (by omega)]; exact f13
  · rw [h13]
    unfold rTk rPut
    simp (disch := omega) only [rS_n, rS_s]
  · rw [h13]
    unfold rTk
    simp (disch := omega) only [rS_n, rS_s]
    omega
  · intro _
    rw [h06, h13]
    unfold rTk
    simp (disch := omega) only [rS_n, rS_s]
    omega
  · intro j hj
    rw [h13] at hj
    omega
  · intro c' hc'
    obtain ⟨u1, u2, u3⟩ := B1 c' hc'
    rw [aH_cong (b := aL1 a c) (ho 5 _ (by omega) (by omega)) (ho 6 _ (by omega) (by omega)), ho 5 _ (by omega) (by omega), ho 6 _ (by omega) (by omega), rb _ (by omega), rb _ (by omega), rb _ (by omega)]
    exact ⟨u1, u2, u3⟩
  · intro p' s' hp hs
    rw [aTr_cong (b := aL1 a c) (fun j _ => ho 5 j (by omega) (by omega)) (ho 10 _ (by omega) (by omega)) hs, ho 8 _ (by omega) (by omega), ho 9 _ (by omega) (by omega), ho 10 _ (by omega) (by omega), ho 11 _ (by omega) (by omega), rb _ (by omega), rb _ (by omega), rb _ (by omega), rb _ (by omega), rb _ (by omega)]
    exact B2 p' s' hp hs
/-- the deal is over -/
def rOv (a : Nat → Nat → Nat) (r : Nat → Nat) : Nat → Nat :=
  if a 3 (a 0 9 % 2) < 4 + a 0 7 then rS (rS (rS r 1 3) (7 + a 0 9 % 2) (a 4 (a 0 9 % 2))) (8 - a 0 9 % 2) (a 4 (1 - a 0 9 % 2) + 10 * (4 + a 0 7 - a 3 (a 0 9 % 2)))
  else rS (rS (rS r 1 3) (7 + a 0 9 % 2) (a 4 (a 0 9 % 2) + (10 * a 0 7 + 2 * (a 3 (a 0 9 % 2) - (4 + a 0 7))))) (8 - a 0 9 % 2) (a 4 (1 - a 0 9 % 2))
theorem RM_ov (hR : RM a r) (hp2 : a 0 5 = 2) (hbd : a 0 9 < 4) : RM (aSc (aS (aS a 0 5 3) 0 6 4294967295)) (rOv a r) := by
  have hR0 := hR
  obtain ⟨⟨f0, f1, f2, f3, f4, f5, f6, f7, f8, f9, f10, f11, f12, f13, f14, f15, f20⟩, -⟩ := hR0
  have e3 : ∀ j, aS (aS a 0 5 3) 0 6 4294967295 3 j = a 3 j := fun j => by simp (disch := omega) only [aS_c]
  have e4 : ∀ j, aS (aS a 0 5 3) 0 6 4294967295 4 j = a 4 j := fun j => by simp (disch := omega) only [aS_c]
  have e09 : aS (aS a 0 5 3) 0 6 4294967295 0 9 = a 0 9 := by simp (disch := omega) only [aS_k]
  have e07 : aS (aS a 0 5 3) 0 6 4294967295 0 7 = a 0 7 := by simp (disch := omega) only [aS_k]
  have hb : ∀ c' j, c' ≠ 4 → aSc (aS (aS a 0 5 3) 0 6 4294967295) c' j = aS (aS a 0 5 3) 0 6 4294967295 c' j := fun c' j h => by
    unfold aSc
    split <;> exact aS_c _ _ h
  have hb4 : ∀ j, j < 2 → aSc (aS (aS a 0 5 3) 0 6 4294967295) 4 j = if a 3 (a 0 9 % 2) < 4 + a 0 7 then (if j = 1 - a 0 9 % 2 then a 4 j + 10 * (4 + a 0 7 - a 3 (a 0 9 % 2)) else a 4 j) else (if j = a 0 9 % 2 then a 4 j + (10 * a 0 7 + 2 * (a 3 (a 0 9 % 2) - (4 + a 0 7))) else a 4 j) := fun j hj => by
    unfold aSc
    rw [e09, e07, e3]
    by_cases z : a 3 (a 0 9 % 2) < 4 + a 0 7
    · rw [if_pos z, if_pos z, aS_at, e4, e4]
      by_cases z2 : j = 1 - a 0 9 % 2
      · rw [if_pos z2, if_pos z2, z2]
      · rw [if_neg z2, if_neg z2]
    · rw [if_neg z, if_neg z, aS_at, e4, e4]
      by_cases z2 : j = a 0 9 % 2
      · rw [if_pos z2, if_pos z2, z2]
      · rw [if_neg z2, if_neg z2]
  have h0 : ∀ j, j ≠ 5 → j ≠ 6 → aSc (aS (aS a 0 5 3) 0 6 4294967295) 0 j = a 0 j := fun j h1 h2 => by
    rw [hb 0 j (by omega), aS_k _ h2, aS_k _ h1]
  have h05 : aSc (aS (aS a 0 5 3) 0 6 4294967295) 0 5 = 3 := by
    rw [hb 0 5 (by omega), aS_k _ (by omega), aS_s]
  have hx : ∀ c' j, c' ≠ 4 → c' ≠ 0 → aSc (aS (aS a 0 5 3) 0 6 4294967295) c' j = a c' j := fun c' j h1 h2 => by
    rw [hb c' j h1, aS_c _ _ h2, aS_c _ _ h2]
  have rr : ∀ j, j ≠ 1 → j ≠ 7 → j ≠ 8 → rOv a r j = r j := fun j h1 h2 h3 => by
    unfold rOv
    split <;> simp (disch := omega) only [rS_n]
  refine RM_sc hR (fun c' j h => hx c' j (by omega) (by omega)) (fun j h1 h2 => rr j (by omega) (by omega) (by omega)) (hx 1 3 (by omega) (by omega)) ?_
  refine ⟨?_, ?_, ?_, ?_, ?_, ?_, ?_, ?_, ?_, ?_, ?_, ?_, ?_, ?_, ?_, ?_, ?_⟩
  · rw [rr 0 (by omega) (by omega) (by omega), h0 4 (by omega) (by omega)]; exact f0
  · rw [h05]
    unfold rOv
    split <;> simp (disch := omega) only [rS_n, rS_s]
  · rw [h05]
    intro z
    omega
  · rw [rr 3 (by omega) (by omega) (by omega), h0 7 (by omega) (by omega), h0 8 (by omega) (by omega)]; exact f3
  · rw [rr 4 (by omega) (by omega) (by omega), h05, h0 9 (by omega) (by omega), if_neg (by omega), f4, if_neg (by omega)]
  · rw [rr 5 (by omega) (by omega) (by omega), hx 3 0 (by omega) (by omega)]; exact f5
  · rw [rr 6 (by omega) (by omega) (by omega), hx 3 1 (by omega) (by omega)]; exact f6
  · rw [hb4 0 (by omega)]
    unfold rOv
    rcases (show a 0 9 % 2 = 0 ∨ a 0 9 % 2 = 1 by omega) with z | z <;> rw [z] <;> split <;> simp (disch := omega) only [rS_n, rS_s] <;> rfl
  · rw [hb4 1 (by omega)]
    unfold rOv
    rcases (show a 0 9 % 2 = 0 ∨ a 0 9 % 2 = 1 by omega) with z | z <;> rw [z] <;> split <;> simp (disch := omega) only [rS_n, rS_s] <;> rfl
  · rw [rr 9 (by omega) (by omega) (by omega), h0 11 (by omega) (by omega)]; exact f9
  · rw [rr 10 (by omega) (by omega) (by omega), h0 12 (by omega) (by omega)]; exact f10
  · rw [rr 11 (by omega) (by omega) (by omega), h0 13 (by omega) (by omega)]; exact f11
  · rw [rr 12 (by omega) (by omega) (by omega), h0 10 (by omega) (by omega)]; exact f12
  · rw [rr 13 (by omega) (by omega) (by omega), h0 9 (by omega) (by omega)]; exact f13
  · rw [rr 14 (by omega) (by omega) (by omega), hx 1 3 (by omega) (by omega)]; exact f14
  · rw [rr 15 (by omega) (by omega) (by omega), hx 1 3 (by omega) (by omega)]; exact f15
  · rw [h05]
    intro z
    omega
end PV
