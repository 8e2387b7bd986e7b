-- ===== PURE: the advised card, on both sides =====
def aLw (p : Nat → Bool) : Nat → Nat
  | 0 => 4294967295
  | i + 1 => if p i = true ∧ (aLw p i = 4294967295 ∨ i % 8 < aLw p i % 8) then i else aLw p i
theorem aLw_in (p : Nat → Bool) : ∀ n, aLw p n = 4294967295 ∨ (aLw p n < n ∧ p (aLw p n) = true)
  | 0 => Or.inl rfl
  | n + 1 => by
    unfold aLw
    split
    · rename_i h
      exact Or.inr ⟨by omega, h.1⟩
    · rcases aLw_in p n with h | ⟨h1, h2⟩
      · exact Or.inl h
      · exact Or.inr ⟨by omega, h2⟩
/-- of the small ones of a row the lowest or the highest -/
def fSm (h : Nat → Bool) (hi : Bool) (b : Nat) : Nat → Nat
  | 0 => 4294967295
  | i + 1 => if h (b + i) = true ∧ (fSm h hi b i = 4294967295 ∨ hi = true) then b + i else fSm h hi b i
theorem fSm_in (h : Nat → Bool) (hi : Bool) (b : Nat) : ∀ n, fSm h hi b n = 4294967295 ∨ (b ≤ fSm h hi b n ∧ fSm h hi b n < b + n ∧ h (fSm h hi b n) = true)
  | 0 => Or.inl rfl
  | n + 1 => by
    unfold fSm
    split
    · rename_i q
      exact Or.inr ⟨by omega, by omega, q.1⟩
    · rcases fSm_in h hi b n with q | ⟨q1, q2, q3⟩
      · exact Or.inl q
      · exact Or.inr ⟨q1, by omega, q3⟩
theorem fSm_no (h : Nat → Bool) (b : Nat) : ∀ n, (∀ i, i < n → ¬ h (b + i) = true) → fSm h false b n = 4294967295
  | 0, _ => rfl
  | n + 1, hn => by
    unfold fSm
    rw [if_neg (fun q => hn n (by omega) q.1)]
    exact fSm_no h b n (fun i hi => hn i (by omega))
theorem fSm_yes (h : Nat → Bool) (b x : Nat) (hx : h (b + x) = true) (hn : ∀ i, i < x → ¬ h (b + i) = true) (hb : b + x < 4294967295) : ∀ n, x < n → fSm h false b n = b + x
  | 0, q => absurd q (Nat.not_lt_zero x)
  | n + 1, q => by
    unfold fSm
    rcases Nat.lt_or_ge x n with q2 | q2
    · rw [fSm_yes h b x hx hn hb n q2, if_neg]
      rintro ⟨-, z | z⟩
      · omega
      · cases z
    · have e : x = n := by omega
      subst e
      rw [fSm_no h b x hn, if_pos ⟨hx, Or.inl rfl⟩]
theorem fSm_two (h : Nat → Bool) (b : Nat) (hb : b < 1000) : fSm h false b 4 = fSm h true b 4 ↔ fb_ct (fun i => h (b + i)) 4 ≤ 1 := by
  have n0 : ¬ b = 4294967295 := by omega
  have n1 : ¬ b + 1 = 4294967295 := by omega
  have n2 : ¬ b + 2 = 4294967295 := by omega
  have n3 : ¬ b + 3 = 4294967295 := by omega
  cases e0 : h b <;> cases e1 : h (b + 1) <;> cases e2 : h (b + 2) <;> cases e3 : h (b + 3) <;> simp [fSm, fb_ct, e0, e1, e2, e3, n0, n1, n2, n3]
section AD
variable {M : gMem} {e k p s c : Nat} {r : Nat → Nat} {a : Nat → Nat → Nat}
theorem p_lowest (ho : aO a) (ht : a 0 6 < 4) : f_Ev_lowestPlayable e (aW M e a) (nI (aFw a)) = some (nI (aLw (aOk a) 32)) := by
  have hf := aFw_lt ho.2.1 ho.2.2
  unfold f_Ev_lowestPlayable f_Ev_lowestPlayable_l4
  refine pFor0 (fun i => (nI (aLw (aOk a) i), nI i)) 32 (by show ((-1 : Int32), (0 : Int32)) = (nI 4294967295, nI 0); rw [z_m1]; rfl) (fun i hi => ?_) (pLx ?_)
  · show f_Ev_lowestPlayable_s4 e (aW M e a) (nI (aFw a)) _ (nI i) = _
    unfold f_Ev_lowestPlayable_s4 f_Ev_lowestPlayable_b42 f_Ev_lowestPlayable_b38
    have hh := aH_b ho.1 i
    have hl := aLw_in (aOk a) i
    have b0 : ¬ aOk a i = true → f_Ev_lowestPlayable_b43 e (aW M e a) (nI (aFw a)) (nI (aLw (aOk a) i)) (nI i) 0 = some (.inl (nI (aLw (aOk a) (i + 1)), nI (i + 1))) := by
      intro h1
      unfold f_Ev_lowestPlayable_b43 f_Ev_lowestPlayable_b68
      rw [if_pos rfl, nI_1, show aLw (aOk a) (i + 1) = aLw (aOk a) i from if_neg (fun z => h1 z.1)]
    have b1 : aOk a i = true → f_Ev_lowestPlayable_b43 e (aW M e a) (nI (aFw a)) (nI (aLw (aOk a) i)) (nI i) 1 = some (.inl (nI (aLw (aOk a) (i + 1)), nI (i + 1))) := by
      intro h1
      unfold f_Ev_lowestPlayable_b43 f_Ev_lowestPlayable_b66 f_Ev_lowestPlayable_b68
      rw [if_neg (by decide), z_m1]
      rcases hl with q | ⟨q, -⟩
      · rw [if_pos (by rw [q]), nI_1, show aLw (aOk a) (i + 1) = i from if_pos ⟨h1, Or.inl q⟩]
      · rw [if_neg (fun z => by have := (z_inj (by omega) (by omega)).mp z; omega), show (8 : Int32) = nI 8 from rfl, z_rem (by omega) (by omega) (by omega), z_rem (by omega) (by omega) (by omega)]
        by_cases q2 : i % 8 < aLw (aOk a) i % 8
        · rw [if_neg (nI_ge q2 (by omega)), nI_1, show aLw (aOk a) (i + 1) = i from if_pos ⟨h1, Or.inr q2⟩]
        · rw [if_pos (nI_le (by omega) (by omega)), nI_1, show aLw (aOk a) (i + 1) = aLw (aOk a) i from if_neg (fun z => by rcases z.2 with z2 | z2 <;> omega)]
    rw [show (32 : Int32) = nI 32 from rfl, if_neg (nI_ge hi (by omega)), p_holder ho.1 hi, pB, aW_r]
    by_cases q : aH a i = a 0 6
    · rw [if_pos (by rw [q]), z_m1]
      rcases hf with q2 | ⟨q2, -⟩
      · rw [if_pos (show nI (aFw a) = nI 4294967295 by rw [q2])]
        exact b1 (aOk_iff.mpr ⟨q, Or.inl q2⟩)
      · rw [if_neg (show ¬ nI (aFw a) = nI 4294967295 from fun z => by have := (z_inj (by omega) (by omega)).mp z; omega), show (8 : Int32) = nI 8 from rfl, z_div (by omega) (by omega) (by omega)]
        by_cases q3 : i / 8 = aFw a
        · rw [if_pos (show nI (i / 8) = nI (aFw a) by rw [q3])]
          exact b1 (aOk_iff.mpr ⟨q, Or.inr q3⟩)
        · rw [if_neg (show ¬ nI (i / 8) = nI (aFw a) from fun z => q3 ((z_inj (by omega) (by omega)).mp z))]
          exact b0 (fun z => by rcases (aOk_iff.mp z).2 with z2 | z2 <;> omega)
    · rw [if_neg (fun z => q ((z_inj hh (by omega)).mp z))]
      exact b0 (fun z => q (aOk_iff.mp z).1)
  · show f_Ev_lowestPlayable_s4 e (aW M e a) (nI (aFw a)) _ (nI 32) = _
    unfold f_Ev_lowestPlayable_s4
    rw [show (32 : Int32) = nI 32 from rfl, if_pos (nI_le (Nat.le_refl _) (by omega))]
def aIs (a : Nat → Nat → Nat) (c : Nat) : Bool := decide (aH a c = a 0 6)
theorem p_firstCard (ho : aO a) (ht : a 0 6 < 4) (hs : s < 4) : f_Ev_firstSignalCard e (aW M e a) (nI s) = some (nI (if fSm (aIs a) false (8 * s) 4 = fSm (aIs a) true (8 * s) 4 then 4294967295 else if aDl a (a 0 6) s % 2 = 0 then fSm (aIs a) true (8 * s) 4 else fSm (aIs a) false (8 * s) 4)) := by
  unfold f_Ev_firstSignalCard f_Ev_firstSignalCard_l10
  have hd := aDl_le a (a 0 6) s
  refine pFor0 (fun i => (nI (fSm (aIs a) false (8 * s) i), nI (fSm (aIs a) true (8 * s) i), nI (8 * s + i))) 4 ?_ (fun i hi => ?_) (pLx ?_)
  · show ((-1 : Int32), (-1 : Int32), nI s * 8) = (nI 4294967295, nI 4294967295, nI (8 * s + 0))
    rw [z_m1, show (8 : Int32) = nI 8 from rfl, pk_mul, Nat.mul_comm]; rfl
  · show f_Ev_firstSignalCard_s10 e (aW M e a) (nI s) _ _ (nI (8 * s + i)) = _
    unfold f_Ev_firstSignalCard_s10 f_Ev_firstSignalCard_b48 f_Ev_firstSignalCard_b52
    have hh := aH_b ho.1 (8 * s + i)
    have hl := fSm_in (aIs a) false (8 * s) i
    rw [show (8 : Int32) = nI 8 from rfl, show (4 : Int32) = nI 4 from rfl, pk_mul, nI_add, Nat.mul_comm s 8, if_neg (nI_ge (by omega) (by omega)), p_holder ho.1 (by omega), pB, aW_r]
    by_cases q : aH a (8 * s + i) = a 0 6
    · have h1 : aIs a (8 * s + i) = true := decide_eq_true q
      rw [if_pos (by rw [q]), z_m1, nI_1]
      show _ = some (Sum.inl (nI (if _ then _ else _), nI (if _ then _ else _), nI (8 * s + (i + 1))))
      rw [if_pos (show aIs a (8 * s + i) = true ∧ (fSm (aIs a) true (8 * s) i = 4294967295 ∨ true = true) from ⟨h1, Or.inr rfl⟩)]
      rcases hl with q2 | ⟨-, q2, -⟩
      · rw [if_pos (show nI (fSm (aIs a) false (8 * s) i) = nI 4294967295 by rw [q2]), if_pos (show aIs a (8 * s + i) = true ∧ (fSm (aIs a) false (8 * s) i = 4294967295 ∨ false = true) from ⟨h1, Or.inl q2⟩)]; rfl
      · rw [if_neg (show ¬ nI (fSm (aIs a) false (8 * s) i) = nI 4294967295 from fun z => by have := (z_inj (by omega) (by omega)).mp z; omega), if_neg (show ¬ (aIs a (8 * s + i) = true ∧ (fSm (aIs a) false (8 * s) i = 4294967295 ∨ false = true)) from fun z => by
          rcases z.2 with z2 | z2
          · omega
          · cases z2)]; rfl
    · have h1 : ¬ aIs a (8 * s + i) = true := fun z => q (of_decide_eq_true z)
      rw [if_neg (fun z => q ((z_inj hh (by omega)).mp z)), nI_1]
      show _ = some (Sum.inl (nI (if _ then _ else _), nI (if _ then _ else _), nI (8 * s + (i + 1))))
      rw [if_neg (fun z => h1 z.1), if_neg (fun z => h1 z.1)]; rfl
  · show f_Ev_firstSignalCard_s10 e (aW M e a) (nI s) _ _ (nI (8 * s + 4)) = _
    unfold f_Ev_firstSignalCard_s10
    have hl := fSm_in (aIs a) false (8 * s) 4
    have hl2 := fSm_in (aIs a) true (8 * s) 4
    rw [show (8 : Int32) = nI 8 from rfl, show (4 : Int32) = nI 4 from rfl, pk_mul, nI_add, Nat.mul_comm s 8, if_pos (nI_le (Nat.le_refl _) (by omega)), z_m1]
    by_cases q : fSm (aIs a) false (8 * s) 4 = fSm (aIs a) true (8 * s) 4
    · rw [if_pos (by rw [q]), if_pos q]
    · rw [if_neg (fun z => q ((z_inj (by omega) (by omega)).mp z)), if_neg q, aW_r, p_dealt ho.1 hs (by omega), pB, show (2 : Int32) = nI 2 from rfl, z_rem (by omega) (by omega) (by omega)]
      by_cases q2 : aDl a (a 0 6) s % 2 = 0
      · rw [if_pos (show nI (aDl a (a 0 6) s % 2) = 0 by rw [q2]; rfl), if_pos q2]
      · rw [if_neg (show ¬ nI (aDl a (a 0 6) s % 2) = 0 from fun z => q2 ((z_inj (y := 0) (by omega) (by omega)).mp z)), if_neg q2]
end AD
