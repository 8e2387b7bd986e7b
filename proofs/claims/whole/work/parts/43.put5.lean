-- ===== PURE: a card is put, whole: both sides agree =====
theorem aS_comm (a : Nat → Nat → Nat) {c1 c2 : Nat} (k1 v1 k2 v2 : Nat) (h : c1 ≠ c2) : aS (aS a c1 k1 v1) c2 k2 v2 = aS (aS a c2 k2 v2) c1 k1 v1 := by
  funext c' j
  unfold aS
  by_cases h1 : c' = c1 ∧ j = k1
  · rw [if_pos h1, if_neg (by omega), if_pos h1]
  · rw [if_neg h1, if_neg h1]
theorem aL1_S (a : Nat → Nat → Nat) {c' : Nat} (k v c : Nat) (h : c' ≠ 7 ∧ c' ≠ 6 ∧ c' ≠ 1) : aL1 (aS a c' k v) c = aS (aL1 a c) c' k v := by
  unfold aL1
  rw [aS_c a 3 (by omega), aS_comm a k v (a 1 3) c h.1, aS_comm _ k v c (a 1 3) h.2.1, aS_comm _ k v 3 (a 1 3 + 1) h.2.2]
section PX
variable {M : gMem} {k p s c l : Nat} {r : Nat → Nat} {a : Nat → Nat → Nat}
theorem aNt_L1 (hl : l = 4294967295 ∨ l < 4) : aNt (aL1 a c) l c = aL1 (aNt a l c) c := by
  have x6 := aL1_o a c 0 6 (by omega)
  have x8 := fun j => aL1_o a c 8 j (by omega)
  have x9 := fun j => aL1_o a c 9 j (by omega)
  have x11 := aL1_o a c 0 11 (by omega)
  have x12 := aL1_o a c 0 12 (by omega)
  unfold aNt
  rcases hl with q | q
  · rw [if_pos q, if_pos q]
  · have xd : aDl (aL1 a c) (a 0 6) l = aDl a (a 0 6) l := aDl_cong (fun j _ => aL1_o a c 5 j (by omega)) q
    have ne : ¬ l = 4294967295 := by omega
    rw [if_neg ne, if_neg ne, x6]
    split
    · split
      · unfold aDrop
        rw [x8, x9, x11, x12, xd]
        split
        · rw [aL1_S _ _ _ _ (by omega), aL1_S _ _ _ _ (by omega)]
        · split
          · rw [aL1_S _ _ _ _ (by omega), aL1_S _ _ _ _ (by omega), aL1_S _ _ _ _ (by omega), aL1_S _ _ _ _ (by omega)]
          · rw [aL1_S _ _ _ _ (by omega)]
      · rfl
    · rw [aL1_S _ _ _ _ (by omega)]
theorem aLay_eq (h : aP a) (c : Nat) : aLay a c = aNx (aL1 (aNt a (aLed a) c) c) := by
  unfold aLay
  rw [aNt_L1 (aLed_lt h.1.2.1 h.1.2.2)]
theorem q_put (hR : RM a r) (h : aP a) (hc : c < 32) : ∃ r', f_Mo_put 19 k 197 (rW M k r) (nI c) = some (rW M k r') ∧ RM (aLay a c) r' := by
  rw [aLay_eq h]
  obtain ⟨ho, hF, hp, ht, hl, hsu, hlv, hbd, htr, h8⟩ := h
  -- behind a note b, the rest is the same
  have rest : ∀ r1, RM (aNt a (aLed a) c) r1 → ∃ r', f_Mo_put_b60 19 k 197 (rW M k r1) (nI c) (nI (a 0 6)) = some (rW M k r') ∧ RM (aNx (aL1 (aNt a (aLed a) c) c)) r' := by
    intro r1 hR1
    have y : ∀ c' j, (c' ≠ 8 ∧ c' ≠ 9 ∧ c' ≠ 10 ∧ c' ≠ 11) → (c' = 0 → j ≠ 11 ∧ j ≠ 12) → aNt a (aLed a) c c' j = a c' j := fun c' j h1 h2 => aNt_c _ _ _ _ _ h1 h2
    have y6 := y 0 6 (by omega) (by omega)
    have y13 := y 1 3 (by omega) (by omega)
    have hb2 : aB (aNt a (aLed a) c) := aNt_b ho.1 _ hc (fun k => by have := h8 k; omega)
    have := q_put60 (M := M) (k := k) hR1 ⟨hb2, by omega, fun t q => by rw [y 7 t (by omega) (by omega)]; exact ho.2.2 t (by omega)⟩ ((y 0 5 (by omega) (by omega)).trans hp) (by omega) (by omega) hc (by rw [y 0 9 (by omega) (by omega)]; exact hbd) (by rw [y 0 7 (by omega) (by omega)]; exact hlv) (by rw [y 0 8 (by omega) (by omega)]; exact hsu) (fun j hj => by rw [y 3 j (by omega) (by omega)]; exact htr j hj)
    rwa [y6] at this
  have hld := aLed_lt ho.2.1 ho.2.2
  have f15 := hR.r15
  unfold f_Mo_put
  rw [show (2 : Int32) = nI 2 from rfl, q_rd (by omega) (by omega), pB, hR.r2 (Or.inr hp), show (15 : Int32) = nI 15 from rfl, q_rd (by omega) (by omega), pB, f15, show (0 : Int32) = nI 0 from rfl]
  by_cases q : a 1 3 % 4 = 0
  · have hn : aLed a = 4294967295 := by unfold aLed; rw [if_pos q]
    rw [if_pos (nI_le (by omega) (by omega))]
    unfold f_Mo_put_b40
    rw [show (15 : Int32) = nI 15 from rfl, q_rd (by omega) (by omega), pB, f15, show (0 : Int32) = nI 0 from rfl, if_pos (nI_le (by omega) (by omega))]
    exact rest r (by unfold aNt; rw [if_pos hn]; exact hR)
  · have hn : aLed a < 4 := by
      rcases hld with z | z
      · unfold aLed at z
        rw [if_neg q] at z
        have := ho.2.2 (a 1 3 - a 1 3 % 4) (by omega)
        omega
      · exact z
    rw [if_neg (nI_ge (by omega) (by omega)), q_suit (by omega), pB, q_led hR ho, pB]
    by_cases q2 : c / 8 = aLed a
    · rw [if_pos (show nI (c / 8) = nI (aLed a) by rw [q2])]
      unfold f_Mo_put_b40
      rw [show (15 : Int32) = nI 15 from rfl, q_rd (by omega) (by omega), pB, f15, show (0 : Int32) = nI 0 from rfl, if_neg (nI_ge (by omega) (by omega)), q_isSmall (by omega), pB]
      by_cases q3 : c % 8 < 4
      · rw [if_pos q3, if_neg (show ¬ nI 1 = nI 0 by decide)]
        obtain ⟨r1, e1, e2⟩ := q_drop (M := M) (k := k) (p := a 0 6) (c := c) hR ho.1 ht hc (by have := h8 (4 * a 0 6 + c / 8); omega) (fun z => (hF _ _ ht (by omega) (by omega)).1)
        rw [e1, pB]
        exact rest r1 (by unfold aNt; rw [if_neg (by omega), if_pos q2, if_pos q3, ← q2]; exact e2)
      · rw [if_neg q3, if_pos rfl]
        exact rest r (by unfold aNt; rw [if_neg (by omega), if_pos q2, if_neg q3]; exact hR)
    · rw [if_neg (show ¬ nI (c / 8) = nI (aLed a) from fun z => q2 ((z_inj (by omega) (by omega)).mp z)), pB, show (4 : Int32) = nI 4 from rfl, pk_mul, show (181 : Int32) = nI 181 from rfl, nI_add, nI_add, show (1 : Int32) = nI 1 from rfl, q_wr (by omega) (by omega), pB]
      refine rest _ ?_
      unfold aNt
      rw [if_neg (by omega), if_neg q2]
      refine RM_note hR (fun c' j h1 h2 => aS_c _ _ (by omega)) (fun j h1 h2 h3 => rS_n _ (by omega)) ?_ ?_ (fun p' s' h1 h2 => ?_)
      · simp (disch := omega) only [rS_n, aS_c, hR.1.2.2.2.2.2.2.2.2.2.1]
      · simp (disch := omega) only [rS_n, aS_c, hR.1.2.2.2.2.2.2.2.2.2.2.1]
      · obtain ⟨u1, u2, u3, u4, u5⟩ := hR.2.2.2 p' s' h1 h2
        rw [aTr_cong (b := a) (fun j _ => aS_c a j (by omega)) (aS_c a _ (by omega)) h2]
        by_cases hq : 4 * p' + s' = 4 * a 0 6 + aLed a
        · rw [show 181 + (4 * p' + s') = 181 + 4 * a 0 6 + aLed a by omega, hq]
          rw [hq] at u1 u2 u3 u4
          simp (disch := omega) only [rS_n, rS_s, aS_c, aS_s]
          exact ⟨u1, u2, u3, u4, trivial⟩
        · simp (disch := omega) only [rS_n, aS_c, aS_k]
          exact ⟨u1, u2, u3, u4, u5⟩
end PX
