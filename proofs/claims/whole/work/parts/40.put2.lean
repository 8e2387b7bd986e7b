-- ===== PURE: a card is put: the model, second half =====
section PU
variable {M : gMem} {k p s c : Nat} {r : Nat → Nat} {a : Nat → Nat → Nat}
/-- what putting a card does to the row before the trick is looked at -/
def rPut (a : Nat → Nat → Nat) (r : Nat → Nat) (c : Nat) : Nat → Nat := rS (rS (rS (rS (rS (rS r (21 + c) 4294967295) (85 + c) (a 1 3)) 14 (a 1 3 + 1)) (16 + a 1 3 % 4) c) 15 (a 1 3 % 4 + 1)) 2 ((a 0 6 + 1) % 4)
/-- the places that stay as they were when a card is laid: all but the trick, the turn, who leads -/
theorem rPut_blocks (hR : RM a r) (hl : a 1 3 < 32) (hc : c < 32) : (∀ c', c' < 32 → rPut a r c (21 + c') = aH (aL1 a c) c' ∧ rPut a r c (53 + c') = aL1 a c 5 c' ∧ rPut a r c (85 + c') = aL1 a c 6 c') ∧ (∀ p s, p < 4 → s < 4 → rPut a r c (117 + (4 * p + s)) = aL1 a c 8 (4 * p + s) ∧ rPut a r c (133 + (4 * p + s)) = aL1 a c 9 (4 * p + s) ∧ rPut a r c (149 + (4 * p + s)) = aL1 a c 10 (4 * p + s) ∧ rPut a r c (165 + (4 * p + s)) = aTr (aL1 a c) p s ∧ rPut a r c (181 + (4 * p + s)) = aL1 a c 11 (4 * p + s)) := by
  constructor
  · intro c' hc'
    obtain ⟨u1, u2, u3⟩ := hR.2.2.1 c' hc'
    unfold rPut aH aL1
    by_cases q : c' = c
    · subst q
      simp (disch := omega) only [rS_n, rS_s, aS_c, aS_s]
      exact ⟨(if_neg (by omega)).symm, u2, trivial⟩
    · simp (disch := omega) only [rS_n, aS_c, aS_k]
      exact ⟨u1, u2, u3⟩
  · intro p s hp hs
    obtain ⟨u1, u2, u3, u4, u5⟩ := hR.2.2.2 p s hp hs
    rw [aTr_cong (b := a) (fun j _ => by unfold aL1; simp (disch := omega) only [aS_c]) (by unfold aL1; simp (disch := omega) only [aS_c]) hs]
    unfold rPut aL1
    simp (disch := omega) only [rS_n, aS_c]
    exact ⟨u1, u2, u3, u4, u5⟩
theorem aL1_o (a : Nat → Nat → Nat) (c c' j : Nat) (h : c' ≠ 7 ∧ c' ≠ 6 ∧ c' ≠ 1) : aL1 a c c' j = a c' j := by
  unfold aL1
  simp (disch := omega) only [aS_c]
theorem aL1_13 (a : Nat → Nat → Nat) (c : Nat) : aL1 a c 1 3 = a 1 3 + 1 := by unfold aL1; exact aS_s _ _ _ _
theorem aL1_7 (a : Nat → Nat → Nat) (c j : Nat) : aL1 a c 7 j = if j = a 1 3 then c else a 7 j := by
  unfold aL1
  simp (disch := omega) only [aS_c]
  exact aS_at _ _ _ _ _
theorem q_winner {h : Nat → Nat} {t b : Nat} (hr : ∀ j, j < 4 → r (16 + j) = h j) (hh : ∀ j, j < 4 → h j < 32) (h3 : r 3 = 10 * b + t) (ht : t < 10) (hb : b < 1000) : f_Mo_winner 19 k 197 (rW M k r) = some (nI (aWn h t 3)) := by
  unfold f_Mo_winner f_Mo_winner_l4
  refine pFor0 (fun i => (nI (aWn h t i), nI (i + 1))) 3 rfl (fun i hi => ?_) (pLx ?_)
  · show f_Mo_winner_s4 19 k 197 (rW M k r) (nI (aWn h t i)) (nI (i + 1)) = _
    unfold f_Mo_winner_s4
    have hw := aWn_le h t i
    have x1 := hh (i + 1) (by omega)
    have x2 := hh (aWn h t i) (by omega)
    have hm : (10 * b + t) % 10 = t := by omega
    have hs : aWn h t (i + 1) = if aBt (h (i + 1)) (h (aWn h t i)) t = true then i + 1 else aWn h t i := rfl
    rw [show (4 : Int32) = nI 4 from rfl, if_neg (nI_ge (by omega) (by omega)), show (16 : Int32) = nI 16 from rfl, nI_add, q_rd (by omega) (by omega), pB, nI_add, q_rd (by omega) (by omega), pB, hr (i + 1) (by omega), hr _ (by omega), q_suit (by omega), pB, show (3 : Int32) = nI 3 from rfl, q_rd (by omega) (by omega), pB, h3, show (10 : Int32) = nI 10 from rfl, z_rem (by omega) (by omega) (by omega), hm]
    have yes : aBt (h (i + 1)) (h (aWn h t i)) t = true → f_Mo_winner_b81 19 k 197 (rW M k r) (nI (i + 1)) = some (.inl (nI (aWn h t (i + 1)), nI (i + 1 + 1))) := by
      intro z
      unfold f_Mo_winner_b81 f_Mo_winner_b86
      rw [hs, if_pos z, nI_1]
    have no : ¬ aBt (h (i + 1)) (h (aWn h t i)) t = true → f_Mo_winner_b85 19 k 197 (rW M k r) (nI (aWn h t i)) (nI (i + 1)) = some (.inl (nI (aWn h t (i + 1)), nI (i + 1 + 1))) := by
      intro z
      unfold f_Mo_winner_b85 f_Mo_winner_b86
      rw [hs, if_neg z, nI_1]
    have b55 : (h (i + 1) / 8 = h (aWn h t i) / 8 ∨ h (i + 1) / 8 ≠ t) → f_Mo_winner_b55 19 k 197 (rW M k r) (nI (aWn h t i)) (nI (i + 1)) (nI (h (i + 1))) (nI (h (aWn h t i))) = some (.inl (nI (aWn h t (i + 1)), nI (i + 1 + 1))) := by
      intro z
      unfold f_Mo_winner_b55 f_Mo_winner_b56
      rw [if_pos rfl, q_suit (by omega), pB, q_suit (by omega), pB]
      by_cases q : h (i + 1) / 8 = h (aWn h t i) / 8
      · rw [if_pos (show nI (h (i + 1) / 8) = nI (h (aWn h t i) / 8) by rw [q])]
        by_cases q2 : h (aWn h t i) < h (i + 1)
        · rw [if_neg (nI_ge q2 (by omega))]
          exact yes (by unfold aBt; rw [if_pos q]; exact decide_eq_true q2)
        · rw [if_pos (nI_le (by omega) (by omega))]
          exact no (by unfold aBt; rw [if_pos q]; exact fun z => q2 (of_decide_eq_true z))
      · rw [if_neg (show ¬ nI (h (i + 1) / 8) = nI (h (aWn h t i) / 8) from fun z => q ((z_inj (by omega) (by omega)).mp z))]
        have z2 : h (i + 1) / 8 ≠ t := by
          rcases z with z | z
          · exact absurd z q
          · exact z
        exact no (by unfold aBt; rw [if_neg q]; exact fun z => z2 (of_decide_eq_true z))
    by_cases q : h (i + 1) / 8 = t
    · rw [if_pos (show nI (h (i + 1) / 8) = nI t by rw [q]), q_suit (by omega), pB, pB, z_rem (by omega) (by omega) (by omega), hm]
      by_cases q2 : h (aWn h t i) / 8 = t
      · rw [if_pos (show nI (h (aWn h t i) / 8) = nI t by rw [q2])]
        exact b55 (Or.inl (q.trans q2.symm))
      · rw [if_neg (show ¬ nI (h (aWn h t i) / 8) = nI t from fun z => q2 ((z_inj (by omega) (by omega)).mp z))]
        unfold f_Mo_winner_b56
        rw [if_neg (by decide)]
        exact yes (by unfold aBt; rw [if_neg (by omega)]; exact decide_eq_true q)
    · rw [if_neg (show ¬ nI (h (i + 1) / 8) = nI t from fun z => q ((z_inj (by omega) (by omega)).mp z))]
      exact b55 (Or.inr q)
  · show f_Mo_winner_s4 19 k 197 (rW M k r) (nI (aWn h t 3)) (nI (3 + 1)) = _
    unfold f_Mo_winner_s4
    rw [show (4 : Int32) = nI 4 from rfl, if_pos (nI_le (by omega) (by omega))]
theorem aWn_cong {f h : Nat → Nat} {t : Nat} : ∀ n, (∀ j, j ≤ n → f j = h j) → aWn f t n = aWn h t n
  | 0, _ => rfl
  | n + 1, q => by
    have ih := aWn_cong (t := t) n (fun j hj => q j (by omega))
    have hw := aWn_le h t n
    unfold aWn
    rw [ih, q (n + 1) (by omega), q (aWn h t n) (by omega)]
/-- the trick goes on -/
theorem RM_on (hR : RM a r) (hp2 : a 0 5 = 2) (ht : a 0 6 < 4) (hl : a 1 3 < 32) (hc : c < 32) (hq : ¬ (a 1 3 + 1) % 4 = 0) : RM (aS (aL1 a c) 0 6 ((a 0 6 + 1) % 4)) (rPut a r c) := by
  obtain ⟨B1, B2⟩ := rPut_blocks (c := c) hR hl hc
  obtain ⟨⟨f0, f1, f2, f3, f4, f5, f6, f7, f8, f9, f10, f11, f12, f13, f14, f15, f20⟩, g1, -, -⟩ := hR
  have e : ∀ c' j, (c' ≠ 7 ∧ c' ≠ 6 ∧ c' ≠ 1) → (c' = 0 → j ≠ 6) → aS (aL1 a c) 0 6 ((a 0 6 + 1) % 4) c' j = a c' j := by
    intro c' j h1 h2
    by_cases z : c' = 0
    · subst z
      have := h2 rfl
      rw [aS_k _ (by omega), aL1_o _ _ _ _ (by omega)]
    · rw [aS_c _ _ z, aL1_o _ _ _ _ h1]
  have e06 : aS (aL1 a c) 0 6 ((a 0 6 + 1) % 4) 0 6 = (a 0 6 + 1) % 4 := aS_s _ _ _ _
  have e13 : aS (aL1 a c) 0 6 ((a 0 6 + 1) % 4) 1 3 = a 1 3 + 1 := (aS_c _ _ (by omega)).trans (aL1_13 a c)
  have ho : ∀ c' j, c' ≠ 0 → aS (aL1 a c) 0 6 ((a 0 6 + 1) % 4) c' j = aL1 a c c' j := fun c' j h => aS_c _ _ h
  have rr : ∀ j, j < 16 → j ≠ 2 → j ≠ 14 → j ≠ 15 → rPut a r c j = r j := fun j h1 h2 h3 h4 => by
    unfold rPut
    simp (disch := omega) only [rS_n]
  have r20 : rPut a r c 20 = r 20 := by unfold rPut; simp (disch := omega) only [rS_n]
  refine ⟨⟨?_, ?_, ?_, ?_, ?_, ?_, ?_, ?_, ?_, ?_, ?_, ?_, ?_, ?_, ?_, ?_, ?_⟩, ?_, ?_, ?_⟩
  · rw [rr 0 (by omega) (by omega) (by omega) (by omega), e 0 4 (by omega) (by omega)]; exact f0
  · rw [rr 1 (by omega) (by omega) (by omega) (by omega), e 0 5 (by omega) (by omega)]; exact f1
  · intro _
    rw [e06]
    unfold rPut
    exact rS_s _ _ _
  · rw [rr 3 (by omega) (by omega) (by omega) (by omega), e 0 7 (by omega) (by omega), e 0 8 (by omega) (by omega)]; exact f3
  · rw [rr 4 (by omega) (by omega) (by omega) (by omega), e 0 5 (by omega) (by omega), e 0 9 (by omega) (by omega)]; exact f4
  · rw [rr 5 (by omega) (by omega) (by omega) (by omega), e 3 0 (by omega) (by omega)]; exact f5
  · rw [rr 6 (by omega) (by omega) (by omega) (by omega), e 3 1 (by omega) (by omega)]; exact f6
  · rw [rr 7 (by omega) (by omega) (by omega) (by omega), e 4 0 (by omega) (by omega)]; exact f7
  · rw [rr 8 (by omega) (by omega) (by omega) (by omega), e 4 1 (by omega) (by omega)]; exact f8
  · rw [rr 9 (by omega) (by omega) (by omega) (by omega), e 0 11 (by omega) (by omega)]; exact f9
  · rw [rr 10 (by omega) (by omega) (by omega) (by omega), e 0 12 (by omega) (by omega)]; exact f10
  · rw [rr 11 (by omega) (by omega) (by omega) (by omega), e 0 13 (by omega) (by omega)]; exact f11
  · rw [rr 12 (by omega) (by omega) (by omega) (by omega), e 0 10 (by omega) (by omega)]; exact f12
  · rw [rr 13 (by omega) (by omega) (by omega) (by omega), e 0 9 (by omega) (by omega)]; exact f13
  · rw [e13]
    unfold rPut
    simp (disch := omega) only [rS_n, rS_s]
  · rw [e13]
    unfold rPut
    simp (disch := omega) only [rS_n, rS_s]
    omega
  · intro _
    rw [e06, e13, r20, f20 hp2]
    omega
  · intro j hj
    rw [e13] at hj ⊢
    rw [ho 7 _ (by omega), aL1_7]
    unfold rPut
    by_cases z : j = a 1 3 % 4
    · rw [if_pos (by omega), z]
      simp (disch := omega) only [rS_n, rS_s]
    · rw [if_neg (by omega)]
      simp (disch := omega) only [rS_n]
      rw [g1 j (by omega)]
      congr 1
      omega
  · intro c' hc'
    obtain ⟨u1, u2, u3⟩ := B1 c' hc'
    rw [aH_cong (b := aL1 a c) (ho 5 _ (by omega)) (ho 6 _ (by omega)), ho 5 _ (by omega), ho 6 _ (by omega)]
    exact ⟨u1, u2, u3⟩
  · intro p s hp hs
    rw [aTr_cong (b := aL1 a c) (fun j _ => ho 5 j (by omega)) (ho 10 _ (by omega)) hs, ho 8 _ (by omega), ho 9 _ (by omega), ho 10 _ (by omega), ho 11 _ (by omega)]
    exact B2 p s hp hs
end PU
