-- ===== PURE: the best cards win what was told; undone, all is as before =====
theorem it_inv {σ ρ : Type} {step : σ → Option (σ ⊕ ρ)} (P : Nat → σ → Prop) (Q : ρ → Prop) (n : Nat) (hs : ∀ i s, i < n → P i s → ∃ s', step s = some (.inl s') ∧ P (i + 1) s') (hx : ∀ s, P n s → ∃ r, step s = some (.inr r) ∧ Q r) {s0 : σ} (h0 : P 0 s0) : ∃ r, gIt step (n + 1) s0 = some r ∧ Q r := by
  have key : ∀ m i s, i + m = n → P i s → ∃ r, gIt step (m + 1) s = some r ∧ Q r := by
    intro m
    induction m with
    | zero =>
      intro i s hi hP
      rw [show i = n by omega] at hP
      obtain ⟨r, h1, h2⟩ := hx s hP
      refine ⟨r, ?_, h2⟩
      unfold gIt
      rw [h1]
    | succ m ih =>
      intro i s hi hP
      obtain ⟨s', h1, h2⟩ := hs i s (by omega) hP
      obtain ⟨r, h3, h4⟩ := ih (i + 1) s' (by omega) h2
      refine ⟨r, ?_, h4⟩
      unfold gIt
      rw [h1]
      exact h3
  exact key n 0 s0 (by omega) h0
theorem z_x1 : (-9999001 : Int32) = nI 4284968295 := by decide
theorem z_x2 : (-9999002 : Int32) = nI 4284968294 := by decide
theorem z_x3 : (-9999003 : Int32) = nI 4284968293 := by decide
theorem thrown_0 {n : Nat} (h : n < 1000) : f_Law_thrown (nI n) = some 0 := by
  unfold f_Law_thrown
  rw [z_x1, z_x2, z_x3, if_neg (z_ne (by omega) (by omega) (by omega)), if_neg (z_ne (by omega) (by omega) (by omega)), if_neg (z_ne (by omega) (by omega) (by omega))]
def Fw (S : SS) (B sd F n i : Nat) (Si : SS) : Prop := DV (B + i) Si ∧ (i < n → few Si.1) ∧ (i = n → Si.1 0 5 = 3) ∧ Si.1 1 3 + (n - i) = 32 ∧ TS sd (n - i) Si.1 = F ∧ S.1 3 sd ≤ Si.1 3 sd ∧ lS (popN i Si) S ∧ i ≤ Si.2.1
section BE
variable {M : gMem} {S Si : SS} {B X k m n i sd x y F mo : Nat} {a : EVN} {x2 : Int32}
theorem play2 (h : R2 M S S) (hV : DV B S) (hx : x < 32) (hp : S.1 0 5 = 2) (hr : aRs S.1 x = 0) : ∃ M1 M2, f_Law_call M 8 (nI x) 0 0 = some (0, M1) ∧ onQ (fun M => f_Law_call M 8 (nI x) 0 0) M1 = some (0, M2) ∧ R2 M2 (sPush S (aLay S.1 x)) (sPush S (aLay S.1 x)) := by
  have hd := c_play0 (y := 0) (z := 0) hV hx hp hr
  obtain ⟨M1, e1, e2⟩ := h.o hd
  obtain ⟨M2, e3, e4⟩ := e2.q hd
  exact ⟨M1, M2, e1, e3, e4⟩
theorem undo2 (h : R2 M S S) (hc : S.2.1 ≠ 0) : ∃ M1 M2, f_Law_call M 9 0 0 0 = some (nI (S.2.1 - 1), M1) ∧ onQ (fun M => f_Law_call M 9 0 0 0) M1 = some (nI (S.2.1 - 1), M2) ∧ R2 M2 (sPop S) (sPop S) := by
  have hd := c_undo (v := 0) (y := 0) (z := 0) hc
  obtain ⟨M1, e1, e2⟩ := h.o hd
  obtain ⟨M2, e3, e4⟩ := e2.q hd
  exact ⟨M1, M2, e1, e3, e4⟩
theorem most1 (h : R2 M S S) (hV : DV B S) (hf : few S.1) (w : Nat) (hw : w < 2) : ∃ M', f_Law_call M 11 (nI w) 0 0 = some (nI (tmost S.1), M') ∧ R2 M' S S := by
  obtain ⟨M', e1, e2, e3⟩ := c_most (y := 0) (z := 0) h.1 hV hw hf
  exact ⟨M', e1, e2, h.2.same (sw_FR e3)⟩
theorem best1 (h : R2 M S S) (hV : DV B S) (hf : few S.1) : ∃ x M', f_Law_call M 12 0 0 0 = some (nI x, M') ∧ isB S.1 (S.1 0 6 % 2) (32 - S.1 1 3 - 1) x ∧ R2 M' S S := by
  obtain ⟨x, M', e1, e0, e2, e3⟩ := c_best (v := 0) (y := 0) (z := 0) h.1 hV hf
  exact ⟨x, M', e1, e0, e2, h.2.same (sw_FR e3)⟩
theorem r_side (h : DI M S) (hV : DV B S) (hs : sd < 2) : f_Law_call M 2 (5 + nI sd) 0 0 = some (nI (S.1 3 sd), M) := by
  have e : (5 : Int32) + nI sd = nI (5 + sd) := nI_add 5 sd
  rw [e]
  have := r_about (w := 5 + sd) (y := 0) (z := 0) h hV (by omega)
  rcases (show sd = 0 ∨ sd = 1 by omega) with rfl | rfl <;> exact this
theorem Fw_s (h : Fw S B sd F n i Si) (hn : n ≤ 12) (hs : sd < 2) (hi : i < n) (hb : isB Si.1 (Si.1 0 6 % 2) (32 - Si.1 1 3 - 1) x) : Fw S B sd F n (i + 1) (sPush Si (aLay Si.1 x)) := by
  obtain ⟨h1, h2, h3, h4, h5, h6, h7, h8⟩ := h
  have hf := h2 hi
  have hV := h1.1.1
  have hr := ok_rs.mp hb.2.1
  have hl := lay_ph hV hf.1 hb.1
  have en : 32 - Si.1 1 3 - 1 = n - (i + 1) := by omega
  rw [en] at hb
  refine ⟨h1.push (gX_lay h1.1 hf.1 hb.1 hr), fun hi2 => few_lay hV hf hb.1 (by show aLay Si.1 x 0 5 = 2; omega), fun hi2 => ?_, ?_, ?_, ?_, lS_push h7, ?_⟩
  · show aLay Si.1 x 0 5 = 3
    omega
  · show aLay Si.1 x 1 3 + (n - (i + 1)) = 32
    omega
  · show TS sd (n - (i + 1)) (aLay Si.1 x) = F
    rw [TS_isB hV h1.1.2.1 hf.1 (by omega) hs hb, ← h5]
    congr 1
    omega
  · show S.1 3 sd ≤ aLay Si.1 x 3 sd
    have := lay_3 hV hf.1 hb.1 hs
    omega
  · show i + 1 ≤ cx Si.2.1
    unfold cx
    split <;> omega
theorem bs_271 (hR : R2 M Si Si) (hV : DV B Si) (hf : few Si.1) (hx : x < 32) (ho : aOk Si.1 x = true) {x4 x5 x7 s0 s1 : Int32} (he : s1 + s0 = x7) : ∃ M', f_Law_best_b271_155 M x2 x4 x5 x7 (nI i) (nI x) s0 s1 = some (.inl (1, nI (i + 1), M')) ∧ R2 M' (sPush Si (aLay Si.1 x)) (sPush Si (aLay Si.1 x)) := by
  obtain ⟨M1, M2, e1, e2, e3⟩ := play2 hR hV hx hf.1 (ok_rs.mp ho)
  refine ⟨M2, ?_, e3⟩
  unfold f_Law_best_b271_155
  rw [if_pos he, e1, pB, if_pos rfl, e2, pB, if_pos rfl]
  unfold f_Law_best_b308_155
  rw [nI_1]
theorem bs_155 (hF : Fw S B sd F n i Si) (hR : R2 M Si Si) (hn : n ≤ 12) (hs : sd < 2) (hi : i < n) (hm : mo = F - S.1 3 sd) : ∃ M' S', f_Law_best_s155 M x2 (nI sd) (nI (S.1 3 sd)) (nI mo) 1 (nI i) = some (.inl (1, nI (i + 1), M')) ∧ R2 M' S' S' ∧ Fw S B sd F n (i + 1) S' := by
  have hF0 := hF
  obtain ⟨hV, h2, h3, h4, h5, h6, h7, h8⟩ := hF
  have hf := h2 hi
  have hT := TS_t hV.1.1 hV.1.2.1 hf hs
  rw [show 32 - Si.1 1 3 = n - i by omega, h5] at hT
  obtain ⟨t1, t2, t3, t4, t5, t6⟩ := hT
  have ht := hV.1.1.2.1.2.1 (Or.inr hf.1)
  obtain ⟨M1, e1, e2⟩ := most1 hR hV hf 0 (by omega)
  obtain ⟨x, M2, e3, e4, e5⟩ := best1 e2 hV hf
  have a1 : f_Law_call M 2 1 0 0 = some (nI (Si.1 0 5), M) := r_about (w := 1) hR.1 hV (by omega)
  have a2 : f_Law_call M 2 2 0 0 = some (nI (Si.1 0 6), M) := r_about (w := 2) hR.1 hV (by omega)
  have a3 : f_Law_call M 11 0 0 0 = some (nI (tmost Si.1), M1) := e1
  have a4 : f_Law_call M1 2 (5 + nI sd) 0 0 = some (nI (Si.1 3 sd), M1) := r_side e2.1 hV hs
  have a5 : f_Law_call M1 2 5 0 0 = some (nI (Si.1 3 0), M1) := r_about (w := 5) e2.1 hV (by omega)
  have a6 : f_Law_call M1 2 6 0 0 = some (nI (Si.1 3 1), M1) := r_about (w := 6) e2.1 hV (by omega)
  have r2 : gRem (nI (Si.1 0 6)) 2 = nI (Si.1 0 6 % 2) := z_rem (d := 2) (by omega) (by omega) (by omega)
  have w1 : nI (Si.1 3 sd) - nI (S.1 3 sd) = nI (Si.1 3 sd - S.1 3 sd) := pk_sub h6
  have w2 : (8 : Int32) - nI (Si.1 3 0) - nI (Si.1 3 1) - nI (tmost Si.1) = nI (8 - Si.1 3 0 - Si.1 3 1 - tmost Si.1) := by
    rw [show (8 : Int32) = nI 8 from rfl, pk_sub (by omega), pk_sub (by omega), pk_sub (by omega)]
  have key : ∀ s0 : Int32, nI (Si.1 3 sd - S.1 3 sd) + s0 = nI mo → ∃ M' S', f_Law_best_b271_155 M2 x2 (nI sd) (nI (S.1 3 sd)) (nI mo) (nI i) (nI x) s0 (nI (Si.1 3 sd - S.1 3 sd)) = some (.inl (1, nI (i + 1), M')) ∧ R2 M' S' S' ∧ Fw S B sd F n (i + 1) S' := by
    intro s0 hs0
    obtain ⟨M', g1, g2⟩ := bs_271 (i := i) (x2 := x2) (x4 := nI sd) (x5 := nI (S.1 3 sd)) e5 hV hf e4.1 e4.2.1 hs0
    exact ⟨M', _, g1, g2, Fw_s hF0 hn hs hi e4⟩
  have e0 : f_Law_best_s155 M x2 (nI sd) (nI (S.1 3 sd)) (nI mo) 1 (nI i) = if nI (Si.1 0 6 % 2) = nI sd then f_Law_best_b271_155 M2 x2 (nI sd) (nI (S.1 3 sd)) (nI mo) (nI i) (nI x) (nI (tmost Si.1)) (nI (Si.1 3 sd - S.1 3 sd)) else f_Law_best_b271_155 M2 x2 (nI sd) (nI (S.1 3 sd)) (nI mo) (nI i) (nI x) (nI (8 - Si.1 3 0 - Si.1 3 1 - tmost Si.1)) (nI (Si.1 3 sd - S.1 3 sd)) := by
    unfold f_Law_best_s155
    rw [if_neg (by decide), a1, pB]
    dsimp only
    rw [hf.1, if_pos (show nI 2 = 2 from rfl), if_neg (show ¬ 12 ≤ nI i from nI_ge (b := 12) (by omega) (by omega)), a2, pB]
    dsimp only
    rw [a3, pB]
    dsimp only
    rw [a4, pB]
    dsimp only
    rw [a5, pB]
    dsimp only
    rw [a6, pB]
    dsimp only
    rw [e3, pB]
    dsimp only
    rw [r2, w1, w2]
  rw [e0]
  by_cases q : Si.1 0 6 % 2 = sd
  · rw [if_pos (by rw [q])]
    refine key _ ?_
    rw [nI_add]
    have := t5 q
    congr 1
    omega
  · rw [if_neg (z_ne (by omega) (by omega) q)]
    refine key _ ?_
    rw [nI_add]
    have := t6 q
    congr 1
    omega
theorem bs_350 (hR : R2 M (popN i Si) (popN i Si)) (hV : DV B Si) (hi : i < n) (hn : n ≤ 12) (hc : n ≤ Si.2.1) {x4 x5 x7 : Int32} : ∃ M', f_Law_best_s350 M x2 x4 x5 x7 1 (nI n) (nI i) = some (.inl (1, nI (i + 1), M')) ∧ R2 M' (popN (i + 1) Si) (popN (i + 1) Si) := by
  have h14 := hV.2.2.2
  obtain ⟨M1, M2, e1, e2, e3⟩ := undo2 hR (show Si.2.1 - i ≠ 0 by omega)
  have ec : (popN i Si).2.1 - 1 = Si.2.1 - i - 1 := rfl
  rw [popN_s] at e3
  refine ⟨M2, ?_, e3⟩
  unfold f_Law_best_s350
  rw [if_neg (nI_ge hi (by omega)), if_neg (by decide), e1, pB]
  dsimp only
  rw [ec, thrown_0 (by omega), pB, if_pos rfl, e2, pB]
  dsimp only
  rw [ec, thrown_0 (by omega), pB, if_pos rfl]
  unfold f_Law_best_b397_350
  rw [nI_1]
/-- how many cards are legal -/
theorem bs_408 (h : DI M S) (hV : DV B S) (hf : few S.1) {x4 x5 x7 x8 : Int32} : 0 < fb_ct (aOk S.1) 32 ∧ fb_ct (aOk S.1) 32 ≤ 3 ∧ f_Law_best_l408 x2 x4 x5 x7 x8 9 (0, M) = some (nI (fb_ct (aOk S.1) 32), M) := by
  have ht := hV.1.1.2.1.2.1 (Or.inr hf.1)
  have c1 : 0 < fb_ct (aOk S.1) 32 := ok_some hV.1.1 hf.1
  have c2 : fb_ct (aOk S.1) 32 ≤ 3 := by
    have h1 : fb_ct (aOk S.1) 32 ≤ aHs S.1 (S.1 0 6) := by
      unfold aHs
      refine fb_ct_sub fun c _ hc => ?_
      exact decide_eq_true (aOk_iff.mp hc).1
    exact Nat.le_trans h1 ((aMx_if2 _ _ 4).mp hf.2 _ ht)
  refine ⟨c1, c2, ?_⟩
  have lg : ∀ k, k < 8 → f_Law_call M 10 (nI k) 0 0 = some (nI (kth (aOk S.1) k 32), M) := by
    intro k hk
    have := r_legal (y := 0) (z := 0) h hV hk
    unfold aLg at this
    rwa [if_pos hf.1] at this
  unfold f_Law_best_l408
  refine gIt_le _ (show fb_ct (aOk S.1) 32 + 1 ≤ 9 by omega) ?_
  refine it_for (fun i => (nI i, M)) (fb_ct (aOk S.1) 32) rfl (fun k hk => ?_) ?_
  · show f_Law_best_s408 M x2 x4 x5 x7 x8 (nI k) = _
    obtain ⟨w, w1, w2, w3⟩ := fb_ct_kth hk
    unfold f_Law_best_s408
    rw [if_neg (show ¬ 8 ≤ nI k from nI_ge (b := 8) (by omega) (by omega)), lg k (by omega), pB]
    dsimp only
    rw [kth_yes w2 w3 32 w1, z_m1, if_neg (z_ne (by omega) (by omega) (by omega)), nI_1]
  · show f_Law_best_s408 M x2 x4 x5 x7 x8 (nI (fb_ct (aOk S.1) 32)) = _
    unfold f_Law_best_s408
    rw [if_neg (show ¬ 8 ≤ nI (fb_ct (aOk S.1) 32) from nI_ge (b := 8) (by omega) (by omega)), lg _ (by omega), pB]
    dsimp only
    rw [kth_no 32 (Nat.le_refl _), z_m1, if_pos rfl]
end BE
