-- ===== PURE: everything as in a new object: both sides =====
def aCl (a : Nat → Nat → Nat) : Nat → Nat → Nat := aS (aS (aS (aS (aS (aS (aFl (aCd (aS (aFl (aFl (aFl a 5 32 4294967295) 6 32 4294967295) 7 32 4294967295) 1 3 0)) 4 2 0) 0 4 0) 0 5 0) 0 6 4294967295) 0 11 0) 0 12 0) 0 13 0
theorem p_clear (M : gMem) (e : Nat) (a : Nat → Nat → Nat) : f_Ev_clear e (aW M e a) = some (aW M e (aCl a)) := by
  unfold f_Ev_clear f_Cards_clear aCl
  rw [z_m1, show (0 : Int32) = nI 0 from rfl, p_fillA _ _ _ _ _ _ (by omega), pB, p_fillA _ _ _ _ _ _ (by omega), pB, p_fillA _ _ _ _ _ _ (by omega), pB, p_SO, pB, pB, p_clearDeal, pB, p_fillA _ _ _ _ _ _ (by omega), pB, p_SO, pB, p_SO, pB, p_SO, pB, p_SO, pB, p_SO, pB, p_SO, pB]
def r0 (r : Nat → Nat) (n : Nat) : Nat → Nat := fun j => if j < n then 0 else r j
theorem q_clear (M : gMem) (k : Nat) (r : Nat → Nat) : f_Mo_clear 19 k 197 (rW M k r) = some (rW M k (rNd (r0 r 197))) := by
  unfold f_Mo_clear f_Mo_clear_l2
  have e0 : r0 r 0 = r := funext fun j => if_neg (Nat.not_lt_zero j)
  refine pFor0 (fun i => (nI i, rW M k (r0 r i))) 197 (by rw [e0]; rfl) (fun i hi => ?_) (pLx ?_)
  · show f_Mo_clear_s2 19 k 197 (rW M k (r0 r i)) (nI i) = _
    unfold f_Mo_clear_s2
    rw [show (197 : Int32) = nI 197 from rfl, if_neg (nI_ge hi (by omega)), show (0 : Int32) = nI 0 from rfl, q_wr hi (by omega), pB, nI_1]
    refine congrArg (fun z => some (Sum.inl (nI (i + 1), rW M k z))) (funext fun j => ?_)
    unfold rS r0
    by_cases q : j = i
    · rw [if_pos q, if_pos (by omega)]
    · rw [if_neg q]
      by_cases q2 : j < i
      · rw [if_pos q2, if_pos (by omega)]
      · rw [if_neg q2, if_neg (by omega)]
  · show f_Mo_clear_s2 19 k 197 (rW M k (r0 r 197)) (nI 197) = _
    unfold f_Mo_clear_s2
    rw [show (197 : Int32) = nI 197 from rfl, if_pos (nI_le (Nat.le_refl _) (by omega)), q_noDeal, pB]
theorem q_clear0 : f_Mo_clear 19 2 197 gM0 = some (rW gM0 2 (rNd (r0 (fun _ => 0) 197))) := by
  have e : gM0 = rW gM0 2 (fun _ => 0) := by
    unfold rW
    rw [show (fun _ : Nat => nI 0) = gM0 19 2 from rfl, pUpS]
  have h := q_clear gM0 2 (fun _ => 0)
  rw [← e] at h
  exact h
