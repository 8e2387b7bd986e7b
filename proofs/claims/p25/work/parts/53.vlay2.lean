-- ===== PURE: a card that is laid keeps the evening valid, whole =====
section VM
variable {a : Nat → Nat → Nat} {c l p : Nat}
theorem aRs_0 (h : aRs a c = 0) : aH a c = a 0 6 := by
  unfold aRs at h
  split at h
  · rename_i q; exact q
  · omega
/-- the cells behind a play, from 5 on -/
theorem aLay_5 (h : aP a) (c c' j : Nat) (h5 : 5 ≤ c') : aLay a c c' j = aL1 (aNt a (aLed a) c) c c' j := by
  rw [aLay_eq h]
  generalize aL1 (aNt a (aLed a) c) c = d
  unfold aNx aEt aSc aTk
  (repeat' split) <;> simp (disch := omega) only [aS_c]
theorem aLay_hs (hV : aV a) (hp2 : a 0 5 = 2) (hc : c < 32) (hr : aRs a c = 0) (hp : p < 4) : aHs (aLay a c) p + (if p = a 0 6 then 1 else 0) = aHs a p := by
  have hP := hV.P hp2
  have hO := hV.O
  have ht := hP.2.2.2.1
  have hH := aRs_0 hr
  have e5 : ∀ j, aLay a c 5 j = a 5 j := fun j => by
    rw [aLay_5 hP c 5 j (by omega), aL1_o _ _ _ _ (by omega), aNt_c _ _ _ _ _ (by omega) (by omega)]
  have e6 : ∀ j, aLay a c 6 j = if j = c then a 1 3 else a 6 j := fun j => by
    rw [aLay_5 hP c 6 j (by omega)]
    unfold aL1
    rw [aS_c _ _ (by omega), aS_at, aS_c _ _ (by omega), aNt_c _ _ _ _ _ (by omega) (by omega), aNt_c _ _ _ _ _ (by omega) (by omega)]
  have eH : ∀ j, aH (aLay a c) j = if j = c then 4294967295 else aH a j := fun j => by
    unfold aH
    rw [e5, e6]
    by_cases z : j = c
    · rw [if_pos z, if_pos z, if_neg (by have := hP.2.2.2.2.1; omega)]
    · rw [if_neg z, if_neg z]
  unfold aHs
  have hu := fb_ct_upd (fun j => decide (aH a j = p)) (decide (4294967295 = p)) (i := c) (n := 32) hc
  have e : fb_ct (fun j => decide (aH (aLay a c) j = p)) 32 = fb_ct (fun k => if k = c then decide (4294967295 = p) else decide (aH a k = p)) 32 := fb_ct_cong fun j _ => by
    show decide (aH (aLay a c) j = p) = if j = c then decide (4294967295 = p) else decide (aH a j = p)
    rw [eH]
    by_cases z : j = c
    · rw [if_pos z, if_pos z]
    · rw [if_neg z, if_neg z]
  rw [e]
  rw [show decide (4294967295 = p) = false from decide_eq_false (by omega)] at hu ⊢
  rw [hH] at hu
  by_cases z : p = a 0 6
  · rw [if_pos (show decide (a 0 6 = p) = true from decide_eq_true z.symm)] at hu
    rw [if_pos z]
    simpa using hu
  · rw [if_neg (show ¬ decide (a 0 6 = p) = true from fun q => z (of_decide_eq_true q).symm)] at hu
    rw [if_neg z]
    simpa using hu
/-- phase, turn, tricks behind a play -/
theorem aLay_0 (hV : aV a) (hp2 : a 0 5 = 2) (hc : c < 32) : aLay a c 1 3 = a 1 3 + 1 ∧ aLay a c 0 7 = a 0 7 ∧ aLay a c 0 8 = a 0 8 ∧ aLay a c 0 9 = a 0 9 ∧ aLay a c 0 10 = a 0 10 ∧ aLay a c 0 4 = a 0 4 ∧ ((a 1 3 + 1) % 4 ≠ 0 ∧ aLay a c 0 5 = 2 ∧ aLay a c 0 6 = (a 0 6 + 1) % 4 ∧ aLay a c 3 0 = a 3 0 ∧ aLay a c 3 1 = a 3 1 ∨ (a 1 3 + 1) % 4 = 0 ∧ aLay a c 3 0 + aLay a c 3 1 = a 3 0 + a 3 1 + 1 ∧ (a 1 3 + 1 ≠ 32 ∧ aLay a c 0 5 = 2 ∧ aLay a c 0 6 < 4 ∨ a 1 3 + 1 = 32 ∧ aLay a c 0 5 = 3 ∧ aLay a c 0 6 = 4294967295)) := by
  have hP := hV.P hp2
  have ht := hP.2.2.2.1
  rw [aLay_eq hP]
  have y : ∀ c' j, (c' ≠ 8 ∧ c' ≠ 9 ∧ c' ≠ 10 ∧ c' ≠ 11) → (c' = 0 → j ≠ 11 ∧ j ≠ 12) → aNt a (aLed a) c c' j = a c' j := fun c' j h1 h2 => aNt_c _ _ _ _ _ h1 h2
  have d13 : aL1 (aNt a (aLed a) c) c 1 3 = a 1 3 + 1 := by rw [aL1_13, y 1 3 (by omega) (by omega)]
  have d0 : ∀ j, j ≠ 11 ∧ j ≠ 12 → aL1 (aNt a (aLed a) c) c 0 j = a 0 j := fun j h => by rw [aL1_o _ _ _ _ (by omega), y 0 j (by omega) (by omega)]
  have d3 : ∀ j, aL1 (aNt a (aLed a) c) c 3 j = a 3 j := fun j => by rw [aL1_o _ _ _ _ (by omega), y 3 j (by omega) (by omega)]
  generalize aL1 (aNt a (aLed a) c) c = d at d13 d0 d3
  have sc : ∀ (b : Nat → Nat → Nat) c' j, c' ≠ 4 → aSc b c' j = b c' j := fun b c' j h => by
    unfold aSc
    split <;> exact aS_c _ _ h
  have hpw : aPw d < 4 := by unfold aPw; omega
  unfold aNx
  rw [d13]
  by_cases q : (a 1 3 + 1) % 4 = 0
  · rw [if_pos q]
    unfold aEt
    rw [d13]
    have t0 : ∀ j, j ≠ 6 → aTk d (aPw d) 0 j = d 0 j := fun j h => by unfold aTk; rw [aS_k _ h, aS_c _ _ (by omega)]
    have t6 : aTk d (aPw d) 0 6 = aPw d := aS_s _ _ _ _
    have t13 : aTk d (aPw d) 1 3 = d 1 3 := by unfold aTk; simp (disch := omega) only [aS_c]
    have t3 : aTk d (aPw d) 3 0 + aTk d (aPw d) 3 1 = a 3 0 + a 3 1 + 1 := by
      have tj : ∀ j, aTk d (aPw d) 3 j = if j = aPw d % 2 then a 3 (aPw d % 2) + 1 else a 3 j := fun j => by
        unfold aTk
        rw [aS_c _ j (show (3 : Nat) ≠ 0 by omega), aS_at, d3, d3]
      rw [tj 0, tj 1]
      rcases (show aPw d % 2 = 0 ∨ aPw d % 2 = 1 by omega) with z | z
      · rw [z, if_pos rfl, if_neg (by omega)]
        omega
      · rw [z, if_neg (by omega), if_pos rfl]
        omega
    by_cases z : a 1 3 + 1 = 32
    · rw [if_pos z]
      simp (disch := omega) only [sc]
      simp (disch := omega) only [aS_k, aS_c, aS_s]
      rw [t13, t0 7 (by omega), t0 8 (by omega), t0 9 (by omega), t0 10 (by omega), t0 4 (by omega), d13, d0 7 (by omega), d0 8 (by omega), d0 9 (by omega), d0 10 (by omega), d0 4 (by omega), t3]
      exact ⟨rfl, rfl, rfl, rfl, rfl, rfl, Or.inr ⟨q, rfl, Or.inr ⟨z, trivial, trivial⟩⟩⟩
    · rw [if_neg z, t13, t0 7 (by omega), t0 8 (by omega), t0 9 (by omega), t0 10 (by omega), t0 4 (by omega), t0 5 (by omega), t6, t3, d13, d0 7 (by omega), d0 8 (by omega), d0 9 (by omega), d0 10 (by omega), d0 4 (by omega), d0 5 (by omega)]
      exact ⟨rfl, rfl, rfl, rfl, rfl, rfl, Or.inr ⟨q, rfl, Or.inl ⟨z, hp2, hpw⟩⟩⟩
  · rw [if_neg q]
    simp (disch := omega) only [aS_k, aS_c, aS_s]
    rw [d13, d0 7 (by omega), d0 8 (by omega), d0 9 (by omega), d0 10 (by omega), d0 4 (by omega), d0 5 (by omega), d0 6 (by omega), d3, d3]
    exact ⟨rfl, rfl, rfl, rfl, rfl, rfl, Or.inl ⟨q, hp2, rfl, rfl, rfl⟩⟩
end VM
