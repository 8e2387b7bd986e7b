-- ===== PURE: one turn, one advice, on a copy by both =====
def PR (B : Nat) (a : Nat → Nat → Nat) (r : Nat → Nat) : Prop := RM a r ∧ aV a ∧ a 0 4 ≤ B
/-- the world W1 is W but for the row of cards -/
def W8 (W W1 : gMem) : Prop := ∀ g c, ¬ (g = 19 ∧ c = 8) → W1 g c = W g c
theorem W8.rf (W : gMem) : W8 W W := fun _ _ _ => rfl
theorem W8.tr {W W1 W2 : gMem} (h : W8 W W1) (h2 : W8 W1 W2) : W8 W W2 := fun g c z => (h2 g c z).trans (h g c z)
def fA (a : Nat → Nat → Nat) : Nat := if a 0 5 = 2 then (if aAd a = 4294967295 then 0 else 1) else 0
def aA1 (a : Nat → Nat → Nat) : Nat → Nat → Nat := if a 0 5 = 2 then (if aAd a = 4294967295 then a else aLay a (aAd a)) else a
section TU
variable {M W : gMem} {e c B : Nat} {a : Nat → Nat → Nat} {r : Nat → Nat}
theorem PR.up (h : PR B a r) : PR (B + 1) a r := ⟨h.1, h.2.1, by have := h.2.2; omega⟩
theorem aAd_4 (hV : aV a) : aAd a = 4294967295 ∨ aAd a < 32 ∧ aRs a (aAd a) = 0 := aAd_in hV.O
theorem aV_A1 (hV : aV a) : aV (aA1 a) ∧ aA1 a 0 4 = a 0 4 := by
  unfold aA1
  by_cases z : a 0 5 = 2
  · rw [if_pos z]
    rcases aAd_4 hV with y | ⟨y1, y2⟩
    · rw [if_pos y]
      exact ⟨hV, rfl⟩
    · rw [if_neg (show ¬ aAd a = 4294967295 by omega)]
      exact ⟨aV_lay hV z y1 y2, (aLay_0 hV z y1).2.2.2.2.2.1⟩
  · rw [if_neg z]
    exact ⟨hV, rfl⟩
theorem q_advice1 (hR : RM a r) (hV : aV a) : ∃ r', f_Mo_playAdvice 19 c 197 (rW W c r) = some (nI (fA a), rW W c r') ∧ RM (aA1 a) r' := by
  have h53 := hV.2.1.1
  unfold fA aA1
  by_cases z : a 0 5 = 2
  · rw [if_pos z, if_pos z]
    exact q_playAdvice hR (hV.P z)
  · rw [if_neg z, if_neg z]
    exact ⟨r, q_playAdvice0 hR (by omega) z, hR⟩
theorem p_adviceStep (hV : aV a) {i n : Nat} (hi : i < n) (hn : n < 2 ^ 31) : f_Scr_tryAdvices_s2 e (aW M e a) (nI n) (nI i) = if fA a = 1 then some (.inl (nI (i + 1), aW M e (aA1 a))) else some (.inr (0, aW M e (aA1 a))) := by
  have h53 := hV.2.1.1
  unfold f_Scr_tryAdvices_s2 fA aA1
  rw [if_neg (nI_ge hi hn)]
  by_cases z : a 0 5 = 2
  · rw [if_pos z, if_pos z, p_advised hV.O hV.2.2.2.1.1 z (hV.2.1.2.1 (Or.inr z)), pB, z_m1]
    rcases aAd_4 hV with y | ⟨y1, y2⟩
    · rw [if_pos y, if_pos y, y, if_pos rfl, if_neg (by decide)]
    · have ny : ¬ aAd a = 4294967295 := by omega
      rw [if_neg ny, if_neg ny, if_neg (z_ne (by omega) (by omega) ny), if_pos rfl, p_layDown (hV.P z) y1, pB, nI_1]
  · rw [if_neg z, if_neg z, p_advised0 (by omega) z, pB, z_m1, if_pos rfl, if_neg (by decide)]
theorem p_advice1 (hV : aV a) : f_Scr_tryAdvices e (aW M e a) 1 = some (nI (fA a), aW M e (aA1 a)) := by
  unfold f_Scr_tryAdvices f_Scr_tryAdvices_l2
  have s := p_adviceStep (M := M) (e := e) hV (i := 0) (n := 1) (by omega) (by omega)
  by_cases z : fA a = 1
  · rw [if_pos z] at s
    rw [z]
    refine (pLp (step := fun s => f_Scr_tryAdvices_s2 e s.2 1 s.1) (s := (0, aW M e a)) (s' := (nI (0 + 1), aW M e (aA1 a))) s).trans (pLx ?_)
    show f_Scr_tryAdvices_s2 e (aW M e (aA1 a)) 1 (nI 1) = _
    unfold f_Scr_tryAdvices_s2
    rw [if_pos (by decide)]
    rfl
  · rw [if_neg z] at s
    have : fA a = 0 := by
      unfold fA at z ⊢
      (repeat' split) <;> first | rfl | (exfalso; simp_all)
    rw [this]
    exact pLx (step := fun s => f_Scr_tryAdvices_s2 e s.2 1 s.1) (s := (0, aW M e a)) s
/-- in play there is a card that can be played -/
theorem ok_some (hV : aV a) (hp : a 0 5 = 2) : 0 < fb_ct (aOk a) 32 := by
  have hf := aFw_lt hV.O.2.1 hV.O.2.2
  have ht := hV.2.1.2.1 (Or.inr hp)
  have hl := (hV.2.1.2.2.2.2.2.2.2.1 hp).2
  rw [ok_many (by rcases hf with h | h; exact Or.inl h; exact Or.inr h.1)]
  by_cases z : aFw a = 4294967295
  · rw [if_pos z, hV.2.2.2.2 (Or.inr hp) _ ht]
    unfold aHz
    rw [if_neg (by omega)]
    omega
  · rw [if_neg z]
    have h2 : aFw a = aLed a := by rcases hf with h | h; exact absurd h z; exact h.2
    rw [h2]
    unfold aFw at z
    by_cases y : aLed a = 4294967295
    · rw [if_pos y] at z
      exact absurd rfl z
    · rw [if_neg y] at z
      by_cases y2 : aHd a (a 0 6) (aLed a) = 0
      · rw [if_pos y2] at z
        exact absurd rfl z
      · omega
theorem p_tryBid {l s : Nat} (hV : aV a) (hl : l < 1000) (hs : s < 1000) : f_Scr_tryBid e (aW M e a) (nI l) (nI s) = if a 0 5 = 1 ∧ (1 ≤ l ∧ l ≤ 4 ∧ s ≤ 4) ∧ 5 * a 0 7 + a 0 8 < 5 * l + s then some (1, aW M e (aBid a l s)) else some (0, aW M e a) := by
  obtain ⟨v1, v2, v3, v4, v5, -⟩ := hV.2.1
  unfold f_Scr_tryBid
  rw [p_mayBid hl hs (by omega) v4 v5, pB]
  by_cases z : a 0 5 = 1 ∧ (1 ≤ l ∧ l ≤ 4 ∧ s ≤ 4) ∧ 5 * a 0 7 + a 0 8 < 5 * l + s
  · rw [if_pos z, if_pos z, if_neg (by decide), p_makeBid (v2 (Or.inl z.1)), pB]
  · rw [if_neg z, if_neg z, if_pos (by decide)]
theorem p_tryPass (hV : aV a) : f_Scr_tryPass e (aW M e a) = if a 0 5 = 1 then some (1, aW M e (aPass a)) else some (0, aW M e a) := by
  obtain ⟨v1, v2, v3, v4, v5, v6, v7, -⟩ := hV.2.1
  unfold f_Scr_tryPass
  rw [aW_r]
  by_cases z : a 0 5 = 1
  · have h7 := v7 z
    rw [if_pos (by rw [z]; rfl), if_pos z, p_makePass (v2 (Or.inl z)) (by omega) (by omega), pB]
  · rw [if_neg (show ¬ nI (a 0 5) = 1 from z_ne (y := 1) (by omega) (by omega) z), if_neg z]
theorem p_tryCard {w : Nat} (hV : aV a) (hw : w < 2 ^ 31) : f_Scr_tryCard e (aW M e a) (nI w) = if a 0 5 = 2 ∧ w < 32 ∧ aRs a w = 0 then some (1, aW M e (aLay a w)) else some (0, aW M e a) := by
  obtain ⟨v1, v2, -⟩ := hV.2.1
  unfold f_Scr_tryCard
  rw [aW_r]
  by_cases z : a 0 5 = 2
  · rw [if_pos (by rw [z]; rfl), if_neg (nI_pos hw), show (32 : Int32) = nI 32 from rfl]
    by_cases y : w < 32
    · have hle := aRs_le a w
      rw [if_neg (nI_ge y (by omega)), p_reason hV.1 hV.O.2.1 hV.O.2.2 (v2 (Or.inr z)) y, pB]
      by_cases x : aRs a w = 0
      · rw [if_pos (by rw [x]; rfl), if_pos ⟨z, y, x⟩, p_layDown (hV.P z) y, pB]
      · rw [if_neg (show ¬ nI (aRs a w) = 0 from z_ne (y := 0) (by omega) (by omega) x), if_neg (fun q => x q.2.2)]
    · rw [if_pos (nI_le (by omega) (by omega)), if_neg (fun q => y q.2.1)]
  · rw [if_neg (show ¬ nI (a 0 5) = 2 from z_ne (y := 2) (by omega) (by omega) z), if_neg (fun q => z q.1)]
theorem aPass_4 (a : Nat → Nat → Nat) : aPass a 0 4 = a 0 4 := by
  unfold aPass aPs1
  (repeat' split) <;> simp (disch := omega) only [aS_k]
theorem q_passOn' (hR : RM a r) (hV : aV a) (hp : a 0 5 = 1) : ∃ r', f_Mo_passOn 19 c 197 (rW W c r) = some (nI (aPass a 0 5), rW W c r') ∧ RM (aPass a) r' := by
  obtain ⟨v1, v2, v3, v4, v5, v6, v7, v8, v9, v10, v11⟩ := hV.2.1
  have h7 := v7 hp
  refine q_passOn hR hp (v2 (Or.inl hp)) ?_ v4 v5 (v9 (Or.inr hp))
  rcases v6 with y | y
  · exact Or.inl ⟨y.1, y.2, h7.1 y.1⟩
  · exact Or.inr ⟨y.1, y.2.1, y.2.2, h7.2⟩
theorem q_dealOn' (hc : c ≠ 8) (h : PR B a r) (hB : B < 1000000) (x : Int64) : ∃ W1 r', f_Mo_dealOn 19 c 197 (rW W c r) x = some (nI (a 0 4 + 1), rW W1 c r') ∧ PR (B + 1) (aDeal a x) r' ∧ W8 W W1 := by
  have h4 := h.2.2
  obtain ⟨W1, g1, g2⟩ := q_dealOn (M := W) (r := r) hc (by rw [h.1.1.1]; omega) x
  rw [h.1.1.1] at g2
  exact ⟨W1, _, g2, ⟨RM_deal h.1, aV_deal h.2.1, by rw [aDeal_4]; omega⟩, g1⟩
theorem turn_both (hc : c = 3) (h : PR B a r) (hB : B < 1000000) {x : Nat} (hx : x < 2147483648) : ∃ a' r' W1, (∀ (M : gMem) (e : Nat), f_Scr_doTurn e (aW M e a) (nI x) = some (aW M e a')) ∧ f_Mo_turnOf 19 c 197 (rW W c r) (nI x) = some (rW W1 c r') ∧ PR (B + 1) a' r' ∧ W8 W W1 := by
  obtain ⟨hR, hV, hd⟩ := h
  have hv := hV.2.1
  have h53 := hv.1
  have e16 : gRem (nI x) 16 = nI (x % 16) := z_rem (d := 16) (by omega) (by omega) (by omega)
  have eq : nI x / 16 = nI (x / 16) := z_div (d := 16) (by omega) (by omega) (by omega)
  have r1 : ∀ W, gRd 197 (rW W c r 19 c) 1 = some (nI (a 0 5)) := fun W => by
    rw [show gRd 197 (rW W c r 19 c) 1 = some (nI (r 1)) from q_rd (show 1 < 197 by omega) (by omega), hR.r1]
  rcases (show a 0 5 = 0 ∨ a 0 5 = 3 ∨ a 0 5 = 1 ∨ a 0 5 = 2 by omega) with z | z | z | z
  · obtain ⟨W1, r', g1, g2, g3⟩ := q_dealOn' (W := W) (c := c) (by omega) ⟨hR, hV, hd⟩ hB (Int32.toInt64 (nI (x / 16)))
    refine ⟨_, r', W1, fun M e => ?_, ?_, g2, g3⟩
    · unfold f_Scr_doTurn
      rw [aW_r, z, if_neg (by decide), if_neg (by decide), eq, p_dealWith _ (by omega), pB]
    · unfold f_Mo_turnOf f_Mo_turnOf_b18
      rw [r1, pB, z, if_pos (by decide), eq, g1, pB]
  · obtain ⟨W1, r', g1, g2, g3⟩ := q_dealOn' (W := W) (c := c) (by omega) ⟨hR, hV, hd⟩ hB (Int32.toInt64 (nI (x / 16)))
    refine ⟨_, r', W1, fun M e => ?_, ?_, g2, g3⟩
    · unfold f_Scr_doTurn
      rw [aW_r, z, if_neg (by decide), if_neg (by decide), eq, p_dealWith _ (by omega), pB]
    · unfold f_Mo_turnOf f_Mo_turnOf_b18
      rw [r1, pB, z, if_neg (by decide), pB, if_pos (by decide), eq, g1, pB]
  · have ht := hv.2.1 (Or.inl z)
    by_cases y : x % 16 < 6
    · obtain ⟨l, hl⟩ : ∃ l, l = 1 + x / 16 % 4 := ⟨_, rfl⟩
      obtain ⟨s, hs⟩ : ∃ s, s = x / 16 / 4 % 5 := ⟨_, rfl⟩
      have el : 1 + gRem (nI (x / 16)) 4 = nI l := by
        rw [show gRem (nI (x / 16)) 4 = nI (x / 16 % 4) from z_rem (d := 4) (by omega) (by omega) (by omega), show (1 : Int32) = nI 1 from rfl, nI_add, hl]
      have es : gRem (nI (x / 16) / 4) 5 = nI s := by
        rw [show nI (x / 16) / 4 = nI (x / 16 / 4) from z_div (d := 4) (by omega) (by omega) (by omega), show gRem (nI (x / 16 / 4)) 5 = nI (x / 16 / 4 % 5) from z_rem (d := 5) (by omega) (by omega) (by omega), hs]
      have cls : ∀ (M : gMem) (e : Nat), f_Scr_doTurn e (aW M e a) (nI x) = some (aW M e (if 5 * a 0 7 + a 0 8 < 5 * l + s then aBid a l s else a)) := fun M e => by
        unfold f_Scr_doTurn
        rw [aW_r, z, if_pos (by decide), e16, if_neg (show ¬ (6 : Int32) ≤ nI (x % 16) from nI_ge (b := 6) y (by omega)), eq, el, es, p_tryBid hV (by omega) (by omega)]
        by_cases w : 5 * a 0 7 + a 0 8 < 5 * l + s
        · rw [if_pos ⟨z, ⟨by omega, by omega, by omega⟩, w⟩, if_pos w, pB]
        · rw [if_neg (fun q => w q.2.2), if_neg w, pB]
      have mo : ∀ W, f_Mo_turnOf 19 c 197 (rW W c r) (nI x) = (f_Mo_canBid 19 c 197 (rW W c r) (nI l) (nI s)).bind fun q11 => if q11 = 0 then some (rW W c r) else (f_Mo_bidOn 19 c 197 (rW W c r) (nI l) (nI s)).bind fun q12 => some q12.2 := fun W => by
        unfold f_Mo_turnOf
        rw [r1, pB, z, if_neg (by decide), pB, if_neg (by decide), pB, if_pos (by decide), e16, if_pos (show nI (x % 16) ≤ (5 : Int32) from nI_le (b := 5) (by omega) (by omega)), eq, el, es]
      have ec := q_canBid (M := W) (k := c) (l := l) (s := s) hR (by omega) (by omega) (by omega) (by omega) hv.2.2.2.1 hv.2.2.2.2.1
      by_cases w : 5 * a 0 7 + a 0 8 < 5 * l + s
      · obtain ⟨r', g1, g2⟩ := q_bidOn (M := W) (k := c) (l := l) (s := s) hR z ht (by omega)
        refine ⟨_, r', W, cls, ?_, ?_, W8.rf W⟩
        · rw [if_pos ⟨z, w⟩] at ec
          rw [mo, ec, pB, if_neg (by decide), g1, pB]
        · rw [if_pos w]
          exact ⟨g2, aV_bid hV z (by omega) (by omega) (by omega), by rw [aBid_4]; omega⟩
      · refine ⟨_, r, W, cls, ?_, ?_, W8.rf W⟩
        · rw [if_neg (fun q => w q.2)] at ec
          rw [mo, ec, pB, if_pos (by decide)]
        · rw [if_neg w]
          exact ⟨hR, hV, by omega⟩
    · obtain ⟨r', g1, g2⟩ := q_passOn' (W := W) (c := c) hR hV z
      refine ⟨aPass a, r', W, fun M e => ?_, ?_, ⟨g2, aV_pass hV z, by rw [aPass_4]; omega⟩, W8.rf W⟩
      · unfold f_Scr_doTurn
        rw [aW_r, z, if_pos (by decide), e16, if_pos (show (6 : Int32) ≤ nI (x % 16) from nI_le (a := 6) (by omega) (by omega)), p_tryPass hV, if_pos z, pB]
      · unfold f_Mo_turnOf
        rw [r1, pB, z, if_neg (by decide), pB, if_neg (by decide), pB, if_pos (by decide), e16, if_neg (show ¬ nI (x % 16) ≤ (5 : Int32) from nI_ge (a := 5) (by omega) (by omega)), g1, pB]
  · have ht := hv.2.1 (Or.inr z)
    have hn := ok_some hV z
    have hn2 := ct_le (aOk a) 32
    have pc : ∀ (M : gMem) (e : Nat), f_Ev_playableCount e (aW M e a) = some (nI (fb_ct (aOk a) 32)) := fun M e => p_playableCount hV.O z ht
    by_cases y : 8 ≤ x % 16
    · obtain ⟨r', g1, g2⟩ := q_advice1 (W := W) (c := c) hR hV
      have h4 := aV_A1 hV
      refine ⟨aA1 a, r', W, fun M e => ?_, ?_, ⟨g2, h4.1, by rw [h4.2]; omega⟩, W8.rf W⟩
      · unfold f_Scr_doTurn f_Scr_doTurn_b89
        rw [aW_r, z, if_neg (by decide), if_pos (by decide), pc, pB, e16, if_pos (show (8 : Int32) ≤ nI (x % 16) from nI_le (a := 8) y (by omega)), p_advice1 hV, pB]
      · unfold f_Mo_turnOf
        rw [r1, pB, z, if_neg (by decide), pB, if_neg (by decide), pB, if_neg (by decide), e16, if_pos (show (8 : Int32) ≤ nI (x % 16) from nI_le (a := 8) y (by omega)), g1, pB]
    · have hk : x / 16 % fb_ct (aOk a) 32 < fb_ct (aOk a) 32 := Nat.mod_lt _ hn
      obtain ⟨w, g1, g2, g3⟩ := legal_both (k := x / 16 % fb_ct (aOk a) 32) hV.O z ht (by omega)
      have hw : w < 32 ∧ aRs a w = 0 := by
        rcases g3 with g3 | g3
        · omega
        · exact g3
      obtain ⟨r', f1, f2⟩ := q_put (M := W) (k := c) hR (hV.P z) hw.1
      have nz : gNz (nI (fb_ct (aOk a) 32)) = some (nI (fb_ct (aOk a) 32)) := by
        unfold gNz
        rw [if_neg (show ¬ nI (fb_ct (aOk a) 32) = 0 from z_ne (y := 0) (by omega) (by omega) (by omega))]
      have em : gRem (nI (x / 16)) (nI (fb_ct (aOk a) 32)) = nI (x / 16 % fb_ct (aOk a) 32) := z_rem (by omega) hn (by omega)
      refine ⟨aLay a w, r', W, fun M e => ?_, ?_, ⟨f2, aV_lay hV z hw.1 hw.2, by rw [(aLay_0 hV z hw.1).2.2.2.2.2.1]; omega⟩, W8.rf W⟩
      · unfold f_Scr_doTurn
        rw [aW_r, z, if_neg (by decide), if_pos (by decide), pc, pB, e16, if_neg (show ¬ (8 : Int32) ≤ nI (x % 16) from nI_ge (b := 8) (by omega) (by omega)), if_neg (show ¬ nI (fb_ct (aOk a) 32) ≤ 0 from nI_ge (a := 0) hn (by omega)), nz, pB, eq, em, g1, pB, p_tryCard hV (by omega), if_pos ⟨z, hw.1, hw.2⟩, pB]
      · unfold f_Mo_turnOf
        rw [r1, pB, z, if_neg (by decide), pB, if_neg (by decide), pB, if_neg (by decide), e16, if_neg (show ¬ (8 : Int32) ≤ nI (x % 16) from nI_ge (b := 8) (by omega) (by omega)), q_legalMany hR hV.O (Or.inr z) ht, pB, nz, pB, eq, em, g2 W c r hR, pB, f1, pB]
end TU
