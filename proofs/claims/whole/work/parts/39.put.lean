-- ===== PURE: a card is put: the model, first half: what is noted =====
section PT
variable {M : gMem} {k p s c : Nat} {r : Nat → Nat} {a : Nat → Nat → Nat}
theorem rS_at (r : Nat → Nat) (i v j : Nat) : rS r i v j = if j = i then v else r j := rfl
theorem aH_cong {b : Nat → Nat → Nat} (h5 : a 5 c = b 5 c) (h6 : a 6 c = b 6 c) : aH a c = aH b c := by unfold aH; rw [h5, h6]
/-- a note in the cells 8, 9, 10, 11 and the two counters: the rest of the row stays -/
theorem RM_note {b : Nat → Nat → Nat} {r' : Nat → Nat} (hR : RM a r) (ha : ∀ c' j, (c' ≠ 8 ∧ c' ≠ 9 ∧ c' ≠ 10 ∧ c' ≠ 11) → (c' = 0 → j ≠ 11 ∧ j ≠ 12) → b c' j = a c' j) (hr : ∀ j, j < 117 → j ≠ 9 → j ≠ 10 → r' j = r j) (h9 : r' 9 = b 0 11) (h10 : r' 10 = b 0 12) (h4 : ∀ p s, p < 4 → s < 4 → r' (117 + (4 * p + s)) = b 8 (4 * p + s) ∧ r' (133 + (4 * p + s)) = b 9 (4 * p + s) ∧ r' (149 + (4 * p + s)) = b 10 (4 * p + s) ∧ r' (165 + (4 * p + s)) = aTr b p s ∧ r' (181 + (4 * p + s)) = b 11 (4 * p + s)) : RM b r' := by
  obtain ⟨⟨f0, f1, f2, f3, f4, f5, f6, f7, f8, f9, f10, f11, f12, f13, f14, f15, f20⟩, g1, g2, g3⟩ := hR
  have e : ∀ c' j, (c' ≠ 8 ∧ c' ≠ 9 ∧ c' ≠ 10 ∧ c' ≠ 11) → (c' = 0 → j ≠ 11 ∧ j ≠ 12) → b c' j = a c' j := ha
  have e05 := e 0 5 (by omega) (by omega)
  have e06 := e 0 6 (by omega) (by omega)
  have e13 := e 1 3 (by omega) (by omega)
  refine ⟨⟨?_, ?_, ?_, ?_, ?_, ?_, ?_, ?_, ?_, h9, h10, ?_, ?_, ?_, ?_, ?_, ?_⟩, ?_, ?_, h4⟩
  · rw [hr 0 (by omega) (by omega) (by omega), e 0 4 (by omega) (by omega)]; exact f0
  · rw [hr 1 (by omega) (by omega) (by omega), e05]; exact f1
  · rw [hr 2 (by omega) (by omega) (by omega), e05, e06]; exact f2
  · rw [hr 3 (by omega) (by omega) (by omega), e 0 7 (by omega) (by omega), e 0 8 (by omega) (by omega)]; exact f3
  · rw [hr 4 (by omega) (by omega) (by omega), e05, e 0 9 (by omega) (by omega)]; exact f4
  · rw [hr 5 (by omega) (by omega) (by omega), e 3 0 (by omega) (by omega)]; exact f5
  · rw [hr 6 (by omega) (by omega) (by omega), e 3 1 (by omega) (by omega)]; exact f6
  · rw [hr 7 (by omega) (by omega) (by omega), e 4 0 (by omega) (by omega)]; exact f7
  · rw [hr 8 (by omega) (by omega) (by omega), e 4 1 (by omega) (by omega)]; exact f8
  · rw [hr 11 (by omega) (by omega) (by omega), e 0 13 (by omega) (by omega)]; exact f11
  · rw [hr 12 (by omega) (by omega) (by omega), e 0 10 (by omega) (by omega)]; exact f12
  · rw [hr 13 (by omega) (by omega) (by omega), e 0 9 (by omega) (by omega)]; exact f13
  · rw [hr 14 (by omega) (by omega) (by omega), e13]; exact f14
  · rw [hr 15 (by omega) (by omega) (by omega), e13]; exact f15
  · rw [hr 20 (by omega) (by omega) (by omega), e05, e06, e13]; exact f20
  · intro j hj
    rw [e13] at hj ⊢
    rw [hr (16 + j) (by omega) (by omega) (by omega), e 7 _ (by omega) (by omega)]
    exact g1 j hj
  · intro c hc
    have h5 := e 5 c (by omega) (by omega)
    have h6 := e 6 c (by omega) (by omega)
    rw [hr (21 + c) (by omega) (by omega) (by omega), hr (53 + c) (by omega) (by omega) (by omega), hr (85 + c) (by omega) (by omega) (by omega), h5, h6, aH_cong h5 h6]
    exact g2 c hc
theorem aTr_cong {b : Nat → Nat → Nat} (h5 : ∀ j, j < 32 → a 5 j = b 5 j) (h10 : a 10 (4 * p + s) = b 10 (4 * p + s)) (hs : s < 4) : aTr a p s = aTr b p s := by
  unfold aTr
  rw [h10, aDl_cong h5 hs]
theorem q_drop (hR : RM a r) (hb : aB a) (hp : p < 4) (hc : c < 32) (h8 : a 8 (4 * p + c / 8) < 1000) (hf : a 8 (4 * p + c / 8) = 1 → a 9 (4 * p + c / 8) < 32) : ∃ r', f_Mo_drop 19 k 197 (rW M k r) (nI p) (nI c) = some (rW M k r') ∧ RM (aDrop a p (c / 8) c) r' := by
  unfold f_Mo_drop
  have hs : c / 8 < 4 := by omega
  have g3 := hR.2.2.2
  obtain ⟨t1, t2, t3, t4, t5⟩ := g3 p (c / 8) hp hs
  have hd := aDl_le a p (c / 8)
  generalize hK : 4 * p + c / 8 = K at h8 hf t1 t2 t3 t4 t5
  have hK2 : K < 16 := by omega
  rw [q_suit (by omega), pB, show (4 : Int32) = nI 4 from rfl, pk_mul, nI_add, hK, show (117 : Int32) = nI 117 from rfl, nI_add, q_rd (by omega) (by omega), pB, nI_1, q_wr (by omega) (by omega), pB, q_rd (by omega) (by omega), pB, rS_s, t1]
  have uniq : ∀ p' s', p' < 4 → s' < 4 → 4 * p' + s' = K → p' = p ∧ s' = c / 8 := fun p' s' h1 h2 h3 => by omega
  have sub5 : ∀ (b : Nat → Nat → Nat), (∀ j, b 5 j = a 5 j) → ∀ p' s', s' < 4 → b 10 (4 * p' + s') = a 10 (4 * p' + s') → aTr b p' s' = aTr a p' s' := fun b h1 p' s' h2 h3 => aTr_cong (fun j _ => h1 j) h3 h2
  unfold aDrop
  rw [hK]
  by_cases q0 : a 8 K = 0
  · rw [if_pos (show nI (a 8 K + 1) = 1 by rw [q0]; rfl), show (133 : Int32) = nI 133 from rfl, nI_add, q_wr (by omega) (by omega), pB, if_pos q0]
    refine ⟨_, rfl, RM_note hR (fun c' j h1 h2 => ?_) (fun j h1 h2 h3 => ?_) ?_ ?_ (fun p' s' h1 h2 => ?_)⟩
    · rw [aS_c _ _ (by omega), aS_c _ _ (by omega)]
    · rw [rS_n _ (by omega), rS_n _ (by omega)]
    · simp (disch := omega) only [rS_n, aS_c, hR.1.2.2.2.2.2.2.2.2.2.1]
    · simp (disch := omega) only [rS_n, aS_c, hR.1.2.2.2.2.2.2.2.2.2.2.1]
    · obtain ⟨u1, u2, u3, u4, u5⟩ := g3 p' s' h1 h2
      rw [sub5 _ (fun j => by simp (disch := omega) only [aS_c]) p' s' h2 (by simp (disch := omega) only [aS_c])]
      by_cases hq : 4 * p' + s' = K
      · rw [hq] at u1 u2 u3 u4 u5 ⊢
        simp (disch := omega) only [rS_n, rS_s, aS_c, aS_s]
        exact ⟨by omega, trivial, u3, u4, u5⟩
      · simp (disch := omega) only [rS_n, aS_c, aS_k]
        exact ⟨u1, u2, u3, u4, u5⟩
  · rw [if_neg (show ¬ nI (a 8 K + 1) = 1 from fun z => by have := (z_inj (y := 1) (by omega) (by omega)).mp z; omega), pB, if_neg q0]
    by_cases q1 : a 8 K = 1
    · have h9 := hf q1
      rw [if_pos (show nI (a 8 K + 1) = 2 by rw [q1]; rfl), show (133 : Int32) = nI 133 from rfl, nI_add, q_rd (by omega) (by omega), pB, rS_n _ (by omega), t2, if_pos q1, q1]
      -- the row where only the count has changed is read for the dealt cards
      have hwd : f_Mo_wasDealt 19 k 197 (rW M k (rS r (117 + K) (1 + 1))) (nI p) (nI (c / 8)) = some (nI (aDl a p (c / 8))) := by
        have hR2 : RM (aS a 8 K (1 + 1)) (rS r (117 + K) (1 + 1)) := by
          refine RM_note hR (fun c' j h1 h2 => aS_c _ _ (by omega)) (fun j h1 h2 h3 => rS_n _ (by omega)) ?_ ?_ (fun p' s' h1 h2 => ?_)
          · simp (disch := omega) only [rS_n, aS_c, hR.1.2.2.2.2.2.2.2.2.2.1]
          · simp (disch := omega) only [rS_n, aS_c, hR.1.2.2.2.2.2.2.2.2.2.2.1]
          · obtain ⟨u1, u2, u3, u4, u5⟩ := g3 p' s' h1 h2
            rw [sub5 _ (fun j => by simp (disch := omega) only [aS_c]) p' s' h2 (by simp (disch := omega) only [aS_c])]
            by_cases hq : 4 * p' + s' = K
            · rw [hq] at u1 u2 u3 u4 u5 ⊢
              simp (disch := omega) only [rS_n, rS_s, aS_c, aS_s]
              exact ⟨trivial, u2, u3, u4, u5⟩
            · simp (disch := omega) only [rS_n, aS_c, aS_k]
              exact ⟨u1, u2, u3, u4, u5⟩
        have hb2 : aB (aS a 8 K (1 + 1)) := fun c' j hj => by
          unfold aS
          split
          · omega
          · exact hb c' j hj
        rw [q_wasDealt hR2 hb2 hs (by omega), aDl_cong (fun j _ => aS_c a j (by omega)) hs]
      have fin : ∀ (ev tr : Nat), ev ≤ 1 → tr ≤ 1 → (ev = 1 ↔ c < a 9 K) → (tr = 1 ↔ (c < a 9 K ↔ aDl a p (c / 8) % 2 = 0)) → ∃ r', f_Mo_drop_b97 19 k 197 (rW M k (rS r (117 + K) (1 + 1))) (nI K) (nI ev) (nI tr) = some (rW M k r') ∧ RM (aS (aS (aS (aS a 8 K 2) 10 K (if c < a 9 K then 2 else 1)) 0 11 (a 0 11 + 1)) 0 12 (a 0 12 + (if (if c < a 9 K then 2 else 1) = (if aDl a p (c / 8) % 2 = 0 then 2 else 1) then 1 else 0))) r' := by
        intro ev tr hev htr hE hT
        have htr2 : (if (if c < a 9 K then 2 else 1) = (if aDl a p (c / 8) % 2 = 0 then 2 else 1) then 1 else 0) = tr := by
          by_cases z1 : c < a 9 K <;> by_cases z2 : aDl a p (c / 8) % 2 = 0 <;> simp [z1, z2] at hT ⊢ <;> omega
        have hsg : (if c < a 9 K then 2 else 1) = ev + 1 := by
          by_cases z1 : c < a 9 K <;> simp [z1] at hE ⊢ <;> omega
        rw [htr2]
        refine ⟨rS (rS (rS (rS (rS r (117 + K) 2) (149 + K) (ev + 1)) (165 + K) tr) 9 (a 0 11 + 1)) 10 (a 0 12 + tr), ?_, ?_⟩
        · have st : ∀ x, x = ev + 1 → f_Mo_drop_b115 19 k 197 (rW M k (rS r (117 + K) (1 + 1))) (nI K) (nI tr) (nI x) (149 + nI K) = some (rW M k (rS (rS (rS (rS (rS r (117 + K) 2) (149 + K) (ev + 1)) (165 + K) tr) 9 (a 0 11 + 1)) 10 (a 0 12 + tr))) := by
            rintro x rfl
            unfold f_Mo_drop_b115
            rw [show (149 : Int32) = nI 149 from rfl, nI_add, q_wr (by omega) (by omega), pB]
            have st2 : f_Mo_drop_b132 19 k 197 (rW M k (rS (rS r (117 + K) (1 + 1)) (149 + K) (ev + 1))) (nI tr) (nI tr) (nI (165 + K)) = some (rW M k (rS (rS (rS (rS (rS r (117 + K) 2) (149 + K) (ev + 1)) (165 + K) tr) 9 (a 0 11 + 1)) 10 (a 0 12 + tr))) := by
              unfold f_Mo_drop_b132
              rw [q_wr (by omega) (by omega), pB, show (9 : Int32) = nI 9 from rfl, q_rd (by omega) (by omega), pB, nI_1, q_wr (by omega) (by omega), pB, show (10 : Int32) = nI 10 from rfl, q_rd (by omega) (by omega), pB]
              simp (disch := omega) only [rS_n, hR.1.2.2.2.2.2.2.2.2.2.1, hR.1.2.2.2.2.2.2.2.2.2.2.1]
              unfold f_Mo_drop_b156
              rcases (show tr = 0 ∨ tr = 1 by omega) with z | z
              · rw [if_pos (show nI tr = 0 by rw [z]; rfl), show (0 : Int32) = nI 0 from rfl, nI_add, q_wr (by omega) (by omega), pB, z]
              · rw [if_neg (show ¬ nI tr = 0 by rw [z]; decide), nI_1, q_wr (by omega) (by omega), pB, z]
            rw [show (165 : Int32) = nI 165 from rfl, nI_add]
            rcases (show tr = 0 ∨ tr = 1 by omega) with z | z
            · rw [if_pos (show nI tr = 0 by rw [z]; rfl), show (0 : Int32) = nI tr by rw [z]; rfl]; exact st2
            · rw [if_neg (show ¬ nI tr = 0 by rw [z]; decide), show (1 : Int32) = nI tr by rw [z]; rfl]; exact st2
          unfold f_Mo_drop_b97
          rcases (show ev = 0 ∨ ev = 1 by omega) with z | z
          · rw [if_pos (show nI ev = 0 by rw [z]; rfl)]; exact st 1 (by omega)
          · rw [if_neg (show ¬ nI ev = 0 by rw [z]; decide)]; exact st 2 (by omega)
        · refine RM_note hR (fun c' j h1 h2 => ?_) (fun j h1 h2 h3 => ?_) ?_ ?_ (fun p' s' h1 h2 => ?_)
          · by_cases z : c' = 0
            · subst z
              have := h2 rfl
              simp (disch := omega) only [aS_c, aS_k]
            · simp (disch := omega) only [aS_c]
          · simp (disch := omega) only [rS_n]
          · simp (disch := omega) only [rS_n, rS_s, aS_c, aS_k, aS_s]
          · simp (disch := omega) only [rS_n, rS_s, aS_c, aS_k, aS_s]
          · obtain ⟨u1, u2, u3, u4, u5⟩ := g3 p' s' h1 h2
            by_cases hq : 4 * p' + s' = K
            · obtain ⟨rfl, rfl⟩ := uniq p' s' h1 h2 hq
              have hdl : aDl (aS (aS (aS (aS a 8 K 2) 10 K (if c < a 9 K then 2 else 1)) 0 11 (a 0 11 + 1)) 0 12 (a 0 12 + tr)) p' (c / 8) = aDl a p' (c / 8) := aDl_cong (fun j _ => by simp (disch := omega) only [aS_c]) hs
              unfold aTr
              rw [hdl]
              rw [hq] at u1 u2 u3 u4 u5 ⊢
              simp (disch := omega) only [rS_n, rS_s, aS_c, aS_s]
              refine ⟨trivial, u2, hsg.symm, ?_, u5⟩
              rw [if_neg (show ¬ (if c < a 9 K then 2 else 1) = 0 by split <;> omega), htr2]
            · rw [sub5 _ (fun j => by simp (disch := omega) only [aS_c]) p' s' h2 (by simp (disch := omega) only [aS_c, aS_k])]
              simp (disch := omega) only [rS_n, aS_c, aS_k]
              exact ⟨u1, u2, u3, u4, u5⟩
      have b66 : ∀ ev, ev ≤ 1 → (ev = 1 ↔ c < a 9 K) → ∃ r', f_Mo_drop_b66 19 k 197 (rW M k (rS r (117 + K) (1 + 1))) (nI p) (nI c) (nI K) (nI ev) = some (rW M k r') ∧ RM (aS (aS (aS (aS a 8 K 2) 10 K (if c < a 9 K then 2 else 1)) 0 11 (a 0 11 + 1)) 0 12 (a 0 12 + (if (if c < a 9 K then 2 else 1) = (if aDl a p (c / 8) % 2 = 0 then 2 else 1) then 1 else 0))) r' := by
        intro ev hev hE
        unfold f_Mo_drop_b66
        rw [q_suit (by omega), pB, hwd, pB, show (2 : Int32) = nI 2 from rfl, z_rem (by omega) (by omega) (by omega)]
        unfold f_Mo_drop_b89
        by_cases z2 : aDl a p (c / 8) % 2 = 0
        · rw [if_pos (show nI (aDl a p (c / 8) % 2) = 0 by rw [z2]; rfl)]
          rcases (show ev = 0 ∨ ev = 1 by omega) with z | z
          · rw [if_neg (show ¬ nI ev = 1 by rw [z]; decide)]
            exact fin ev 0 hev (by omega) hE (by constructor <;> intro h <;> omega)
          · rw [if_pos (show nI ev = 1 by rw [z]; rfl)]
            exact fin ev 1 hev (by omega) hE (by constructor <;> intro h <;> omega)
        · rw [if_neg (show ¬ nI (aDl a p (c / 8) % 2) = 0 from fun z => z2 ((z_inj (y := 0) (by omega) (by omega)).mp z))]
          rcases (show ev = 0 ∨ ev = 1 by omega) with z | z
          · rw [if_pos (show nI ev = 0 by rw [z]; rfl)]
            exact fin ev 1 hev (by omega) hE (by constructor <;> intro h <;> omega)
          · rw [if_neg (show ¬ nI ev = 0 by rw [z]; decide)]
            exact fin ev 0 hev (by omega) hE (by constructor <;> intro h <;> omega)
      by_cases z1 : c < a 9 K
      · rw [if_neg (nI_ge z1 (by omega))]
        exact b66 1 (by omega) ⟨fun _ => z1, fun _ => rfl⟩
      · rw [if_pos (nI_le (by omega) (by omega))]
        exact b66 0 (by omega) ⟨fun z => by omega, fun z => absurd z z1⟩
    · rw [if_neg (show ¬ nI (a 8 K + 1) = 2 from fun z => by have := (z_inj (y := 2) (by omega) (by omega)).mp z; omega), if_neg q1]
      refine ⟨_, rfl, RM_note hR (fun c' j h1 h2 => aS_c _ _ (by omega)) (fun j h1 h2 h3 => rS_n _ (by omega)) ?_ ?_ (fun p' s' h1 h2 => ?_)⟩
      · simp (disch := omega) only [rS_n, aS_c, hR.1.2.2.2.2.2.2.2.2.2.1]
      · simp (disch := omega) only [rS_n, aS_c, hR.1.2.2.2.2.2.2.2.2.2.2.1]
      · obtain ⟨u1, u2, u3, u4, u5⟩ := g3 p' s' h1 h2
        rw [sub5 _ (fun j => by simp (disch := omega) only [aS_c]) p' s' h2 (by simp (disch := omega) only [aS_c])]
        by_cases hq : 4 * p' + s' = K
        · rw [hq] at u1 u2 u3 u4 u5 ⊢
          simp (disch := omega) only [rS_n, rS_s, aS_c, aS_s]
          exact ⟨trivial, u2, u3, u4, u5⟩
        · simp (disch := omega) only [rS_n, aS_c, aS_k]
          exact ⟨u1, u2, u3, u4, u5⟩
end PT
