-- ===== PURE: one turn, one advice, on a copy by both =====
/-- the world W1 is W but for the row of cards -/
def W8 (W W1 : gMem) : Prop := ∀ g c, ¬ (g = 19 ∧ c = 8) → W1 g c = W g c
theorem W8.rf (W : gMem) : W8 W W := fun _ _ _ => rfl
theorem W8.tr {W W1 W2 : gMem} (h : W8 W W1) (h2 : W8 W1 W2) : W8 W W2 := fun g c z => (h2 g c z).trans (h g c z)
def fA (a : Nat → Nat → Nat) : Nat := if a 0 5 = 2 then (if aAd a = 4294967295 then 0 else 1) else 0
def aA1 (a : Nat → Nat → Nat) : Nat → Nat → Nat := if a 0 5 = 2 then (if aAd a = 4294967295 then a else aLay a (aAd a)) else a
section TU
variable {M W : gMem} {e c B : Nat} {a : Nat → Nat → Nat} {r : Nat → Nat}
theorem aAd_4 (hV : aV a) : aAd a = 4294967295 ∨ aAd a < 32 ∧ aRs a (aAd a) = 0 := aAd_in hV.O
theorem aV_A1 (hV : aV a) : aV (aA1 a) ∧ aA1 a 0 4 = a 0 4 := by
  unfold aA1
  by_cases z : a 0 5 = 2
  · rw [if_pos z]
    rcases aAd_4 hV with y | ⟨y1, y2⟩
    · rw [if_pos y]
      exact ⟨hV, rfl⟩
    · rw [if_neg (show ¬ aAd a = 4294967295 by omega)]
      exact ⟨aV_lay hV z y1 y2, (aLay_0 hV z y1).2.2.2.2.2.1⟩
  · rw [if_neg z]
    exact ⟨hV, rfl⟩
theorem p_adviceStep (hV : aV a) {i n : Nat} (hi : i < n) (hn : n < 2 ^ 31) : f_Scr_tryAdvices_s2 e (aW M e a) (nI n) (nI i) = if fA a = 1 then some (.inl (nI (i + 1), aW M e (aA1 a))) else some (.inr (0, aW M e (aA1 a))) := by
  have h53 := hV.2.1.1
  unfold f_Scr_tryAdvices_s2 fA aA1
  rw [if_neg (nI_ge hi hn)]
  by_cases z : a 0 5 = 2
  · rw [if_pos z, if_pos z, p_advised hV.O hV.2.2.2.1.1 z (hV.2.1.2.1 (Or.inr z)), pB, z_m1]
    rcases aAd_4 hV with y | ⟨y1, y2⟩
    · rw [if_pos y, if_pos y, y, if_pos rfl, if_neg (by decide)]
    · have ny : ¬ aAd a = 4294967295 := by omega
      rw [if_neg ny, if_neg ny, if_neg (z_ne (by omega) (by omega) ny), if_pos rfl, p_layDown (hV.P z) y1, pB, nI_1]
  · rw [if_neg z, if_neg z, p_advised0 (by omega) z, pB, z_m1, if_pos rfl, if_neg (by decide)]
theorem p_advice1 (hV : aV a) : f_Scr_tryAdvices e (aW M e a) 1 = some (nI (fA a), aW M e (aA1 a)) := by
  unfold f_Scr_tryAdvices f_Scr_tryAdvices_l2
  have s := p_adviceStep (M := M) (e := e) hV (i := 0) (n := 1) (by omega) (by omega)
  by_cases z : fA a = 1
  · rw [if_pos z] at s
    rw [z]
    refine (pLp (step := fun s => f_Scr_tryAdvices_s2 e s.2 1 s.1) (s := (0, aW M e a)) (s' := (nI (0 + 1), aW M e (aA1 a))) s).trans (pLx ?_)
    show f_Scr_tryAdvices_s2 e (aW M e (aA1 a)) 1 (nI 1) = _
    unfold f_Scr_tryAdvices_s2
    rw [if_pos (by decide)]
    rfl
  · rw [if_neg z] at s
    have : fA a = 0 := by
      unfold fA at z ⊢
      (repeat' split) <;> first | rfl | (exfalso; simp_all)
    rw [this]
    exact pLx (step := fun s => f_Scr_tryAdvices_s2 e s.2 1 s.1) (s := (0, aW M e a)) s
/-- in play there is a card that can be played -/
theorem ok_some (hV : aV a) (hp : a 0 5 = 2) : 0 < fb_ct (aOk a) 32 := by
  have hf := aFw_lt hV.O.2.1 hV.O.2.2
  have ht := hV.2.1.2.1 (Or.inr hp)
  have hl := (hV.2.1.2.2.2.2.2.2.2.1 hp).2
  rw [ok_many (by rcases hf with h | h; exact Or.inl h; exact Or.inr h.1)]
  by_cases z : aFw a = 4294967295
  · rw [if_pos z, hV.2.2.2.2 (Or.inr hp) _ ht]
    unfold aHz
    rw [if_neg (by omega)]
    omega
  · rw [if_neg z]
    have h2 : aFw a = aLed a := by rcases hf with h | h; exact absurd h z; exact h.2
    rw [h2]
    unfold aFw at z
    by_cases y : aLed a = 4294967295
    · rw [if_pos y] at z
      exact absurd rfl z
    · rw [if_neg y] at z
      by_cases y2 : aHd a (a 0 6) (aLed a) = 0
      · rw [if_pos y2] at z
        exact absurd rfl z
      · omega
theorem p_tryBid {l s : Nat} (hV : aV a) (hl : l < 1000) (hs : s < 1000) : f_Scr_tryBid e (aW M e a) (nI l) (nI s) = if a 0 5 = 1 ∧ (1 ≤ l ∧ l ≤ 4 ∧ s ≤ 4) ∧ 5 * a 0 7 + a 0 8 < 5 * l + s then some (1, aW M e (aBid a l s)) else some (0, aW M e a) := by
  obtain ⟨v1, v2, v3, v4, v5, -⟩ := hV.2.1
  unfold f_Scr_tryBid
  rw [p_mayBid hl hs (by omega) v4 v5, pB]
  by_cases z : a 0 5 = 1 ∧ (1 ≤ l ∧ l ≤ 4 ∧ s ≤ 4) ∧ 5 * a 0 7 + a 0 8 < 5 * l + s
  · rw [if_pos z, if_pos z, if_neg (by decide), p_makeBid (v2 (Or.inl z.1)), pB]
  · rw [if_neg z, if_neg z, if_pos (by decide)]
theorem p_tryPass (hV : aV a) : f_Scr_tryPass e (aW M e a) = if a 0 5 = 1 then some (1, aW M e (aPass a)) else some (0, aW M e a) := by
  obtain ⟨v1, v2, v3, v4, v5, v6, v7, -⟩ := hV.2.1
  unfold f_Scr_tryPass
  rw [aW_r]
  by_cases z : a 0 5 = 1
  · have h7 := v7 z
    rw [if_pos (by rw [z]; rfl), if_pos z, p_makePass (v2 (Or.inl z)) (by omega) (by omega), pB]
  · rw [if_neg (show ¬ nI (a 0 5) = 1 from z_ne (y := 1) (by omega) (by omega) z), if_neg z]
theorem p_tryCard {w : Nat} (hV : aV a) (hw : w < 2 ^ 31) : f_Scr_tryCard e (aW M e a) (nI w) = if a 0 5 = 2 ∧ w < 32 ∧ aRs a w = 0 then some (1, aW M e (aLay a w)) else some (0, aW M e a) := by
  obtain ⟨v1, v2, -⟩ := hV.2.1
  unfold f_Scr_tryCard
  rw [aW_r]
  by_cases z : a 0 5 = 2
  · rw [if_pos (by rw [z]; rfl), if_neg (nI_pos hw), show (32 : Int32) = nI 32 from rfl]
    by_cases y : w < 32
    · have hle := aRs_le a w
      rw [if_neg (nI_ge y (by omega)), p_reason hV.1 hV.O.2.1 hV.O.2.2 (v2 (Or.inr z)) y, pB]
      by_cases x : aRs a w = 0
      · rw [if_pos (by rw [x]; rfl), if_pos ⟨z, y, x⟩, p_layDown (hV.P z) y, pB]
      · rw [if_neg (show ¬ nI (aRs a w) = 0 from z_ne (y := 0) (by omega) (by omega) x), if_neg (fun q => x q.2.2)]
    · rw [if_pos (nI_le (by omega) (by omega)), if_neg (fun q => y q.2.1)]
  · rw [if_neg (show ¬ nI (a 0 5) = 2 from z_ne (y := 2) (by omega) (by omega) z), if_neg (fun q => z q.1)]
theorem aPass_4 (a : Nat → Nat → Nat) : aPass a 0 4 = a 0 4 := by
  unfold aPass aPs1
  (repeat' split) <;> simp (disch := omega) only [aS_k]
end TU
