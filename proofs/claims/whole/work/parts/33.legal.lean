-- ===== PURE: the cards that can be played, on both sides =====
def aOk (a : Nat → Nat → Nat) (c : Nat) : Bool := decide (aRs a c = 0)
theorem aOk_iff {a : Nat → Nat → Nat} {c : Nat} : aOk a c = true ↔ aH a c = a 0 6 ∧ (aFw a = 4294967295 ∨ c / 8 = aFw a) := by
  unfold aOk aRs
  rw [decide_eq_true_iff]
  by_cases q : aH a c = a 0 6
  · rw [if_pos q]
    by_cases q2 : aFw a = 4294967295 ∨ c / 8 = aFw a
    · rw [if_pos q2]; exact ⟨fun _ => ⟨q, q2⟩, fun _ => rfl⟩
    · rw [if_neg q2]; exact ⟨fun h => absurd h (by decide), fun h => absurd h.2 q2⟩
  · rw [if_neg q]; exact ⟨fun h => absurd h (by decide), fun h => absurd h.1 q⟩
theorem ct_lt {p : Nat → Bool} {i j : Nat} (hp : p i = true) (hij : i < j) : fb_ct p i < fb_ct p j := by
  have h1 := ct_1 p i hp
  have h2 := fb_ct_mono p (m := i + 1) (n := j) hij
  omega
section LG
variable {M : gMem} {e k p s c : Nat} {r : Nat → Nat} {a : Nat → Nat → Nat}
theorem aRs_le (a : Nat → Nat → Nat) (c : Nat) : aRs a c ≤ 2 := by
  unfold aRs
  split
  · split <;> omega
  · omega
theorem q_legalMany (hR : RM a r) (ho : aO a) (hp : a 0 5 = 1 ∨ a 0 5 = 2) (ht : a 0 6 < 4) : f_Mo_legalMany 19 k 197 (rW M k r) = some (nI (fb_ct (aOk a) 32)) := by
  unfold f_Mo_legalMany f_Mo_legalMany_l4
  refine pFor0 (fun i => (nI (fb_ct (aOk a) i), nI i)) 32 rfl ?_ ?_
  · intro i hi
    show f_Mo_legalMany_s4 19 k 197 (rW M k r) _ (nI i) = _
    unfold f_Mo_legalMany_s4 f_Mo_legalMany_b24
    have hr := aRs_le a i
    rw [show (32 : Int32) = nI 32 from rfl, if_neg (nI_ge hi (by omega)), q_reason hR ho hp ht hi, pB]
    by_cases q : aRs a i = 0
    · rw [if_pos (show nI (aRs a i) = 0 by rw [q]; rfl), nI_1, nI_1, ct_1 (aOk a) i (decide_eq_true q)]
    · rw [if_neg (show ¬ nI (aRs a i) = 0 from fun z => q ((z_inj (y := 0) (by omega) (by omega)).mp z)), nI_1, show (0 : Int32) = nI 0 from rfl, nI_add, ← ct_0 (aOk a) i (fun z => q (of_decide_eq_true z))]; rfl
  · exact pLx (by
      show f_Mo_legalMany_s4 19 k 197 (rW M k r) _ (nI 32) = _
      unfold f_Mo_legalMany_s4
      rw [show (32 : Int32) = nI 32 from rfl, if_pos (nI_le (Nat.le_refl _) (by omega))])
theorem ok_many (hf : aFw a = 4294967295 ∨ aFw a < 4) : fb_ct (aOk a) 32 = if aFw a = 4294967295 then aHs a (a 0 6) else aHd a (a 0 6) (aFw a) := by
  by_cases q : aFw a = 4294967295
  · rw [if_pos q]
    refine fb_ct_cong fun c _ => ?_
    rw [Bool.eq_iff_iff, aOk_iff, decide_eq_true_iff]
    exact ⟨fun h => h.1, fun h => ⟨h, Or.inl q⟩⟩
  · rw [if_neg q]
    have hf2 : aFw a < 4 := by omega
    have e1 : ∀ n, fb_ct (aOk a) (8 * n) = if aFw a < n then aHd a (a 0 6) (aFw a) else 0 := by
      intro n
      induction n with
      | zero => rfl
      | succ n ih =>
        rw [show 8 * (n + 1) = 8 * n + 8 by omega, fb_ct_split, ih]
        by_cases q2 : aFw a = n
        · rw [if_neg (by omega), if_pos (by omega), Nat.zero_add]
          refine fb_ct_cong fun j hj => ?_
          rw [Bool.eq_iff_iff, aOk_iff, decide_eq_true_iff, q2]
          exact ⟨fun h => h.1, fun h => ⟨h, Or.inr (by omega)⟩⟩
        · have z : fb_ct (fun j => aOk a (8 * n + j)) 8 = 0 := by
            refine fb_ct_zero.mpr fun j hj => ?_
            rw [← Bool.not_eq_true, aOk_iff]
            rintro ⟨-, h | h⟩ <;> omega
          rw [z, Nat.add_zero]
          by_cases q3 : aFw a < n
          · rw [if_pos q3, if_pos (by omega)]
          · rw [if_neg q3, if_neg (by omega)]
    have := e1 4
    rw [if_pos hf2] at this
    exact this
theorem p_playableCount (ho : aO a) (hp : a 0 5 = 2) (ht : a 0 6 < 4) : f_Ev_playableCount e (aW M e a) = some (nI (fb_ct (aOk a) 32)) := by
  have hf := aFw_lt ho.2.1 ho.2.2
  rw [ok_many (hf.imp id (fun h => h.1))]
  unfold f_Ev_playableCount
  rw [aW_r, hp, if_pos (show nI 2 = 2 from rfl), p_suitToFollow ho.1 ho.2.1 ho.2.2 ht, pB, aW_r]
  rcases hf with q | ⟨q, -⟩
  · rw [if_pos (show nI (aFw a) = -1 by rw [q, ← z_m1]), if_pos q, p_handSize ho.1 (by omega), pB]
  · rw [if_neg (show ¬ nI (aFw a) = -1 from fun z => by rw [z_m1] at z; have := (z_inj (by omega) (by omega)).mp z; omega), if_neg (by omega), p_held ho.1 q (by omega), pB]
/-- the k-th card that can be played: one number for both sides -/
theorem legal_both (ho : aO a) (hp : a 0 5 = 2) (ht : a 0 6 < 4) (hk : k < 32) : ∃ x, (∀ (M : gMem) (e : Nat), f_Ev_playable e (aW M e a) (nI k) = some (nI x)) ∧ (∀ (M : gMem) (c : Nat) (r : Nat → Nat), RM a r → f_Mo_legalAt 19 c 197 (rW M c r) (nI k) = some (nI x)) ∧ (x = 4294967295 ∧ fb_ct (aOk a) 32 ≤ k ∨ x < 32 ∧ aRs a x = 0) := by
  have hf := aFw_lt ho.2.1 ho.2.2
  -- one round of the class's loop
  have key : ∀ (M : gMem) (e i : Nat), i < 32 → f_Ev_playable_s20 e (aW M e a) (nI k) (nI (aFw a)) (nI (fb_ct (aOk a) i)) (nI i) = if aOk a i = true ∧ fb_ct (aOk a) i = k then some (.inr (nI i)) else some (.inl (nI (fb_ct (aOk a) (i + 1)), nI (i + 1))) := by
    intro M e i hi
    unfold f_Ev_playable_s20
    have hh := aH_b ho.1 i
    have hc := fb_ct_le (aOk a) i
    have hb57 : aOk a i = true → f_Ev_playable_b57 e (aW M e a) (nI k) (nI (aFw a)) (nI (fb_ct (aOk a) i)) (nI i) = if aOk a i = true ∧ fb_ct (aOk a) i = k then some (.inr (nI i)) else some (.inl (nI (fb_ct (aOk a) (i + 1)), nI (i + 1))) := by
      intro h1
      unfold f_Ev_playable_b57 f_Ev_playable_b68
      by_cases q : fb_ct (aOk a) i = k
      · rw [if_pos (by rw [q]), if_pos ⟨h1, q⟩]
      · rw [if_neg (fun z => q ((z_inj (by omega) (by omega)).mp z)), if_neg (fun z => q z.2), nI_1, nI_1, ct_1 _ _ h1]
    have hb68 : ¬ aOk a i = true → f_Ev_playable_b68 e (aW M e a) (nI k) (nI (aFw a)) (nI (fb_ct (aOk a) i)) (nI i) = if aOk a i = true ∧ fb_ct (aOk a) i = k then some (.inr (nI i)) else some (.inl (nI (fb_ct (aOk a) (i + 1)), nI (i + 1))) := by
      intro h1
      unfold f_Ev_playable_b68
      rw [if_neg (fun z => h1 z.1), nI_1, ← ct_0 _ _ h1]
    rw [show (32 : Int32) = nI 32 from rfl, if_neg (nI_ge hi (by omega)), p_holder ho.1 hi, pB, aW_r]
    by_cases q : aH a i = a 0 6
    · rw [if_pos (by rw [q]), z_m1]
      rcases hf with q2 | ⟨q2, -⟩
      · rw [if_pos (show nI (aFw a) = nI 4294967295 by rw [q2])]
        exact hb57 (aOk_iff.mpr ⟨q, Or.inl q2⟩)
      · rw [if_neg (show ¬ nI (aFw a) = nI 4294967295 from fun z => by have := (z_inj (by omega) (by omega)).mp z; omega), show (8 : Int32) = nI 8 from rfl, z_div (by omega) (by omega) (by omega)]
        by_cases q3 : i / 8 = aFw a
        · rw [if_pos (show nI (i / 8) = nI (aFw a) by rw [q3])]
          exact hb57 (aOk_iff.mpr ⟨q, Or.inr q3⟩)
        · rw [if_neg (show ¬ nI (i / 8) = nI (aFw a) from fun z => q3 ((z_inj (by omega) (by omega)).mp z))]
          exact hb68 (fun z => by rcases (aOk_iff.mp z).2 with z2 | z2 <;> omega)
    · rw [if_neg (fun z => q ((z_inj hh (by omega)).mp z))]
      exact hb68 (fun z => q (aOk_iff.mp z).1)
  -- one round of the model's loop
  have keyM : ∀ (M : gMem) (c : Nat) (r : Nat → Nat), RM a r → ∀ i, i < 32 → fb_ct (aOk a) i ≤ k → f_Mo_legalAt_s4 19 c 197 (rW M c r) (nI (k - fb_ct (aOk a) i)) (nI i) = if aOk a i = true ∧ fb_ct (aOk a) i = k then some (.inr (nI i)) else some (.inl (nI (k - fb_ct (aOk a) (i + 1)), nI (i + 1))) := by
    intro M c r hR i hi hle
    unfold f_Mo_legalAt_s4 f_Mo_legalAt_b27
    have hr := aRs_le a i
    rw [show (32 : Int32) = nI 32 from rfl, if_neg (nI_ge hi (by omega)), q_reason hR ho (Or.inr hp) ht hi, pB]
    by_cases q : aRs a i = 0
    · have h1 : aOk a i = true := decide_eq_true q
      rw [if_pos (show nI (aRs a i) = 0 by rw [q]; rfl)]
      by_cases q2 : fb_ct (aOk a) i = k
      · rw [if_pos (show nI (k - fb_ct (aOk a) i) = 0 by rw [q2, Nat.sub_self]; rfl), if_pos ⟨h1, q2⟩]
      · rw [if_neg (show ¬ nI (k - fb_ct (aOk a) i) = 0 from fun z => by have := (z_inj (y := 0) (by omega) (by omega)).mp z; omega), if_neg (fun z => q2 z.2), ← ct_1 _ _ h1, nI_1, show k - fb_ct (aOk a) i = (k - (fb_ct (aOk a) i + 1)) + 1 by omega, pk_m1]
    · have h1 : ¬ aOk a i = true := fun z => q (of_decide_eq_true z)
      rw [if_neg (show ¬ nI (aRs a i) = 0 from fun z => q ((z_inj (y := 0) (by omega) (by omega)).mp z)), if_neg (fun z => h1 z.1), nI_1, ← ct_0 _ _ h1]
  have cl : ∀ (M : gMem) (e : Nat), f_Ev_playable e (aW M e a) (nI k) = f_Ev_playable_l20 e (aW M e a) (nI k) (nI (aFw a)) (0, 0) := by
    intro M e
    unfold f_Ev_playable
    rw [aW_r, hp, if_pos (show nI 2 = 2 from rfl), p_suitToFollow ho.1 ho.2.1 ho.2.2 ht, pB]
  by_cases hk2 : k < fb_ct (aOk a) 32
  · obtain ⟨x, hx1, hx2, hx3⟩ := fb_ct_kth hk2
    have hno : ∀ i, i < x → ¬ (aOk a i = true ∧ fb_ct (aOk a) i = k) := by
      rintro i hi ⟨z1, z2⟩
      have := ct_lt z1 hi
      omega
    refine ⟨x, fun M e => ?_, fun M c r hR => ?_, Or.inr ⟨hx1, of_decide_eq_true hx2⟩⟩
    · rw [cl]
      unfold f_Ev_playable_l20
      refine pFor0 (fun i => (nI (fb_ct (aOk a) i), nI i)) x rfl (fun i hi => ?_) (pLx ?_)
      · exact (key M e i (by omega)).trans (if_neg (hno i hi))
      · exact (key M e x hx1).trans (if_pos ⟨hx2, hx3⟩)
    · unfold f_Mo_legalAt f_Mo_legalAt_l4
      refine pFor0 (fun i => (nI (k - fb_ct (aOk a) i), nI i)) x rfl (fun i hi => ?_) (pLx ?_)
      · have h1 := fb_ct_mono (aOk a) (m := i) (n := x) (by omega)
        exact (keyM M c r hR i (by omega) (by omega)).trans (if_neg (hno i hi))
      · exact (keyM M c r hR x hx1 (by omega)).trans (if_pos ⟨hx2, hx3⟩)
  · have hno : ∀ i, i < 32 → ¬ (aOk a i = true ∧ fb_ct (aOk a) i = k) := by
      rintro i hi ⟨z1, z2⟩
      have := ct_lt z1 hi
      omega
    refine ⟨4294967295, fun M e => ?_, fun M c r hR => ?_, Or.inl ⟨rfl, by omega⟩⟩
    · rw [cl]
      unfold f_Ev_playable_l20
      refine pFor0 (fun i => (nI (fb_ct (aOk a) i), nI i)) 32 rfl (fun i hi => ?_) (pLx ?_)
      · exact (key M e i (by omega)).trans (if_neg (hno i hi))
      · show f_Ev_playable_s20 e (aW M e a) (nI k) (nI (aFw a)) _ (nI 32) = _
        unfold f_Ev_playable_s20
        rw [show (32 : Int32) = nI 32 from rfl, if_pos (nI_le (Nat.le_refl _) (by omega)), z_m1]
    · unfold f_Mo_legalAt f_Mo_legalAt_l4
      refine pFor0 (fun i => (nI (k - fb_ct (aOk a) i), nI i)) 32 rfl (fun i hi => ?_) (pLx ?_)
      · have h1 := fb_ct_mono (aOk a) (m := i) (n := 32) (by omega)
        exact (keyM M c r hR i (by omega) (by omega)).trans (if_neg (hno i hi))
      · show f_Mo_legalAt_s4 19 c 197 (rW M c r) _ (nI 32) = _
        unfold f_Mo_legalAt_s4
        rw [show (32 : Int32) = nI 32 from rfl, if_pos (nI_le (Nat.le_refl _) (by omega)), z_m1]
end LG
