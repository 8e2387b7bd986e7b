-- ===== PURE: best, whole =====
section BF
variable {M : gMem} {S : SS} {B X m n sd x y mo : Nat} {a b : EVN} {x2 : Int32}
theorem bs_636 (hR : R2 M (sPush S b) (sPush S b)) (hV : DV B S) (hf : few S.1) (hs : sd < 2) (hm : mo = tmost S.1) : ∃ M' S', f_Law_best_b636 M (nI sd) (nI (S.1 3 sd)) (nI mo) = some (1, M') ∧ R2 M' S' S' ∧ lS S' S := by
  have h14 := hV.2.2.2
  have hcx : cx S.2.1 ≠ 0 ∧ cx S.2.1 ≤ 15 ∧ cx S.2.1 - 1 ≤ S.2.1 := by
    unfold cx
    split <;> omega
  obtain ⟨M1, M2, e1, e2, e3⟩ := undo2 hR (show (sPush S b).2.1 ≠ 0 from hcx.1)
  have ec : (sPush S b).2.1 - 1 = cx S.2.1 - 1 := rfl
  have hl : lS (sPop (sPush S b)) S := ⟨rfl, hcx.2.2, rfl⟩
  have hV2 := hl.DV hV
  have a4 : f_Law_call M2 2 (5 + nI sd) 0 0 = some (nI (S.1 3 sd), M2) := r_side (S := sPop (sPush S b)) e3.1 hV2 hs
  obtain ⟨M3, e4, e5⟩ := most1 e3 hV2 (show few S.1 from hf) 0 (by omega)
  have e4 : f_Law_call M2 11 0 0 0 = some (nI (tmost S.1), M3) := e4
  refine ⟨M3, _, ?_, e5, hl⟩
  unfold f_Law_best_b636
  rw [e1, pB]
  dsimp only
  rw [ec, thrown_0 (by omega), pB, if_pos rfl, e2, pB]
  dsimp only
  rw [ec, thrown_0 (by omega), pB, if_pos rfl, a4, pB]
  dsimp only
  rw [if_pos rfl, e4, pB]
  dsimp only
  rw [hm, if_pos rfl, gBl_1, pB]
theorem bs_608 {v : Nat} (hR : R2 M (sPush S b) (sPush S b)) (hV : DV B S) (hf : few S.1) (hs : sd < 2) (hm : mo = tmost S.1) (hmo : mo ≤ 8) (hv : v ≤ mo) (hx : x < 32) (hy : y < 32) (hxy : v = mo → x ≤ y) : ∃ M' S', f_Law_best_b608 M (nI sd) (nI (S.1 3 sd)) (nI mo) 1 (nI y) (nI x) (nI v) = some (1, M') ∧ R2 M' S' S' ∧ lS S' S := by
  obtain ⟨M', S', e1, e2, e3⟩ := bs_636 hR hV hf hs hm
  refine ⟨M', S', ?_, e2, e3⟩
  unfold f_Law_best_b608
  rw [if_neg (by decide)]
  by_cases q : v < mo
  · rw [if_pos (nI_lt q (by omega))]; exact e1
  · have q2 : v = mo := by omega
    rw [if_neg (nI_nlt (by omega) (by omega)), if_pos (by rw [q2]), if_neg (nI_nlt (hxy q2) (by omega))]
    exact e1
theorem bs_505 (hV : DV B S) (hf : few S.1) (hsd : sd = S.1 0 6 % 2) (hm : mo = tmost S.1) (hy : y < 32) (ho : aOk S.1 y = true) (hb : isB S.1 (S.1 0 6 % 2) (32 - S.1 1 3 - 1) x) (hR : R2 M (sPush S (aLay S.1 y)) (sPush S (aLay S.1 y))) : ∃ M' S', f_Law_best_b505 M (nI sd) (nI (S.1 3 sd)) (nI mo) (nI y) (nI x) 1 = some (1, M') ∧ R2 M' S' S' ∧ lS S' S := by
  have hs : sd < 2 := by omega
  have hp := hf.1
  have hr := ok_rs.mp ho
  have hl13 := (hV.1.1.2.1.2.2.2.2.2.2.2.1 hp).2
  have hl := lay_ph hV.1.1 hp hy
  have h3 := lay_3 hV.1.1 hp hy hs
  have hT := TS_t hV.1.1 hV.1.2.1 hf hs
  obtain ⟨t1, t2, t3, t4, t5, t6⟩ := hT
  have t5 := t5 hsd.symm
  have eN : 32 - S.1 1 3 = (32 - S.1 1 3 - 1) + 1 := by omega
  have hany : TS sd (32 - S.1 1 3 - 1) (aLay S.1 y) ≤ TS sd (32 - S.1 1 3) S.1 := by
    rw [eN]
    exact TS_any hsd.symm hy ho
  have hxy : TS sd (32 - S.1 1 3 - 1) (aLay S.1 y) = TS sd (32 - S.1 1 3) S.1 → x ≤ y := by
    intro q
    refine Decidable.of_not_not fun z => ?_
    refine hb.2.2.2 y (by omega) ho ?_
    rw [← hsd, q]
    congr 1
  have hV1 : DV (B + 1) (sPush S (aLay S.1 y)) := hV.push (gX_lay hV.1 hp hy hr)
  have h5 : aLay S.1 y 0 5 = 2 ∨ aLay S.1 y 0 5 = 3 := by omega
  obtain ⟨a1, ha1⟩ : ∃ a1, a1 = aLay S.1 y := ⟨_, rfl⟩
  rw [← ha1] at hR hV1 hl h3 hany hxy h5
  have g1 := hV1.1.1
  have gX1 := hV1.1.2.1
  have x1 : a1 3 0 + a1 3 1 = a1 1 3 / 4 := gX1.1
  have x3 : a1 3 sd ≤ 8 := by rcases (show sd = 0 ∨ sd = 1 by omega) with rfl | rfl <;> omega
  have a4 : f_Law_call M 2 (5 + nI sd) 0 0 = some (nI (a1 3 sd), M) := r_side hR.1 hV1 hs
  have a5 : f_Law_call M 2 5 0 0 = some (nI (a1 3 0), M) := r_about (w := 5) hR.1 hV1 (by omega)
  have a6 : f_Law_call M 2 6 0 0 = some (nI (a1 3 1), M) := r_about (w := 6) hR.1 hV1 (by omega)
  have e1 : f_Law_call M 2 1 0 0 = some (nI (a1 0 5), M) := r_about (w := 1) hR.1 hV1 (by omega)
  have e2 : f_Law_call M 2 2 0 0 = some (nI (a1 0 6), M) := r_about (w := 2) hR.1 hV1 (by omega)
  have w1 : nI (a1 3 sd) - nI (S.1 3 sd) = nI (a1 3 sd - S.1 3 sd) := pk_sub h3.1
  have hge : a1 3 sd ≤ TS sd (32 - S.1 1 3 - 1) a1 := (TS_b hs _ a1 g1 (by omega)).1
  have fin : ∀ M', R2 M' (sPush S a1) (sPush S a1) → ∃ M2 S', f_Law_best_b608 M' (nI sd) (nI (S.1 3 sd)) (nI mo) 1 (nI y) (nI x) (nI (TS sd (32 - S.1 1 3 - 1) a1 - S.1 3 sd)) = some (1, M2) ∧ R2 M2 S' S' ∧ lS S' S := by
    intro M' hR'
    exact bs_608 hR' hV hf hs hm (by omega) (by omega) hb.1 hy (fun q => hxy (by omega))
  have e0 : f_Law_best_b505 M (nI sd) (nI (S.1 3 sd)) (nI mo) (nI y) (nI x) 1 = if nI (a1 0 5) = 3 then f_Law_best_b608 M (nI sd) (nI (S.1 3 sd)) (nI mo) 1 (nI y) (nI x) (nI (a1 3 sd - S.1 3 sd)) else (f_Law_call M 2 2 0 0).bind fun q46 => if (gRem q46.1 2) = nI sd then (f_Law_call q46.2 11 0 0 0).bind fun q70 => f_Law_best_b608 q70.2 (nI sd) (nI (S.1 3 sd)) (nI mo) 1 (nI y) (nI x) (nI (a1 3 sd - S.1 3 sd) + q70.1) else (f_Law_call q46.2 11 0 0 0).bind fun q47 => f_Law_best_b608 q47.2 (nI sd) (nI (S.1 3 sd)) (nI mo) 1 (nI y) (nI x) ((nI (a1 3 sd - S.1 3 sd) + ((8 - nI (a1 3 0)) - nI (a1 3 1))) - q47.1) := by
    unfold f_Law_best_b505
    rw [a4, pB]
    dsimp only
    rw [a5, pB]
    dsimp only
    rw [a6, pB]
    dsimp only
    rw [e1, pB]
    dsimp only
    rw [w1]
  rw [e0]
  rcases h5 with h5 | h5
  · have hl2 : a1 1 3 = S.1 1 3 + 1 ∧ S.1 1 3 + 1 < 32 := by omega
    have hf1 : few a1 := by
      rw [ha1]
      exact few_lay hV.1.1 hf hy (by rw [← ha1]; exact h5)
    obtain ⟨u1, u2, u3, u4, u5, u6⟩ := TS_t g1 gX1 hf1 hs
    rw [show 32 - (sPush S a1).1 1 3 = 32 - S.1 1 3 - 1 from by show 32 - a1 1 3 = _; omega] at u1 u2 u5 u6
    have u1 : a1 3 sd ≤ TS sd (32 - S.1 1 3 - 1) a1 := u1
    have u2 : TS sd (32 - S.1 1 3 - 1) a1 ≤ 8 := u2
    have u3 : a1 3 0 + a1 3 1 ≤ 8 := u3
    have u4 : tmost a1 ≤ 8 - a1 3 0 - a1 3 1 := u4
    have u5 : a1 0 6 % 2 = sd → a1 3 sd + tmost a1 = TS sd (32 - S.1 1 3 - 1) a1 := u5
    have u6 : ¬ a1 0 6 % 2 = sd → a1 3 sd + (8 - a1 3 0 - a1 3 1 - tmost a1) = TS sd (32 - S.1 1 3 - 1) a1 := u6
    have ht : a1 0 6 < 4 := g1.2.1.2.1 (Or.inr h5)
    have r2 : gRem (nI (a1 0 6)) 2 = nI (a1 0 6 % 2) := z_rem (d := 2) (by omega) (by omega) (by omega)
    obtain ⟨M1, m1, m2⟩ := most1 hR hV1 (show few a1 from hf1) 0 (by omega)
    have m1 : f_Law_call M 11 0 0 0 = some (nI (tmost a1), M1) := m1
    obtain ⟨M2, S', k1, k2, k3⟩ := fin M1 m2
    refine ⟨M2, S', ?_, k2, k3⟩
    rw [h5, if_neg (show ¬ nI 2 = 3 by decide), e2, pB]
    dsimp only
    rw [r2]
    by_cases q : a1 0 6 % 2 = sd
    · have := u5 q
      rw [if_pos (by rw [q]), m1, pB]
      dsimp only
      rw [nI_add, show a1 3 sd - S.1 3 sd + tmost a1 = TS sd (32 - S.1 1 3 - 1) a1 - S.1 3 sd by omega]
      exact k1
    · have := u6 q
      rw [if_neg (z_ne (by omega) (by omega) q), m1, pB]
      dsimp only
      rw [show (8 : Int32) = nI 8 from rfl, pk_sub (by omega), pk_sub (by omega), nI_add, pk_sub (by omega), show a1 3 sd - S.1 3 sd + (8 - a1 3 0 - a1 3 1) - tmost a1 = TS sd (32 - S.1 1 3 - 1) a1 - S.1 3 sd by omega]
      exact k1
  · have hl2 : 32 - S.1 1 3 - 1 = 0 := by omega
    obtain ⟨M2, S', k1, k2, k3⟩ := fin M hR
    refine ⟨M2, S', ?_, k2, k3⟩
    rw [h5, if_pos (show nI 3 = 3 from rfl)]
    rw [hl2] at k1
    exact k1
theorem bs_450 (hV : DV B S) (hf : few S.1) (hsd : sd = S.1 0 6 % 2) (hm : mo = tmost S.1) (hR : R2 M S S) (hX : X < 2 ^ 31) : ∃ M' S', f_Law_best_b450 M (nI sd) (nI (S.1 3 sd)) (nI mo) 1 (nI (fb_ct (aOk S.1) 32)) (nI X) 10 = some (1, M') ∧ R2 M' S' S' ∧ lS S' S := by
  obtain ⟨c1, c2, -⟩ := bs_408 (x2 := 0) (x4 := 0) (x5 := 0) (x7 := 0) (x8 := 0) hR.1 hV hf
  have hk : X % fb_ct (aOk S.1) 32 < fb_ct (aOk S.1) 32 := Nat.mod_lt _ c1
  obtain ⟨y, y1, y2, y3⟩ := fb_ct_kth hk
  have lg : f_Law_call M 10 (nI (X % fb_ct (aOk S.1) 32)) 0 0 = some (nI y, M) := by
    have := r_legal (y := 0) (z := 0) hR.1 hV (show X % fb_ct (aOk S.1) 32 < 8 by omega)
    unfold aLg at this
    rwa [if_pos hf.1, kth_yes y2 y3 32 y1] at this
  obtain ⟨x, M1, b1, b2, b3⟩ := best1 hR hV hf
  obtain ⟨M2, M3, p1, p2, p3⟩ := play2 b3 hV y1 hf.1 (ok_rs.mp y2)
  obtain ⟨M4, S', k1, k2, k3⟩ := bs_505 hV hf hsd hm y1 y2 b2 p3
  refine ⟨M4, S', ?_, k2, k3⟩
  have enz : gNz (nI (fb_ct (aOk S.1) 32)) = some (nI (fb_ct (aOk S.1) 32)) := if_neg (z_ne (y := 0) (by omega) (by omega) (by omega))
  unfold f_Law_best_b450
  rw [enz, pB, z_rem hX c1 (by omega), lg, pB]
  dsimp only
  rw [b1, pB]
  dsimp only
  rw [if_neg (by decide), p1, pB, if_pos rfl]
  dsimp only
  rw [p2, pB, if_pos rfl]
  exact k1
theorem bs_150 (hV : DV B S) (hf : few S.1) (hsd : sd = S.1 0 6 % 2) (hm : mo = tmost S.1) (hR : R2 M S S) (hX : X < 2 ^ 31) : ∃ M' S', f_Law_best_b150 M (nI X) (nI sd) (nI (S.1 3 sd)) (nI mo) 1 = some (1, M') ∧ R2 M' S' S' ∧ lS S' S := by
  have hs : sd < 2 := by omega
  obtain ⟨f1, f2, f3⟩ := few_cards hV.1.1 hf.1 ((aMx_if2 _ _ 4).mp hf.2)
  obtain ⟨t1, t2, t3, t4, t5, -⟩ := TS_t hV.1.1 hV.1.2.1 hf hs
  have t5 := t5 hsd.symm
  obtain ⟨F, hF⟩ : ∃ F, F = TS sd (32 - S.1 1 3) S.1 := ⟨_, rfl⟩
  obtain ⟨n, hn⟩ : ∃ n, n = 32 - S.1 1 3 := ⟨_, rfl⟩
  rw [← hn] at hF t1 t2 t5
  have hmF : mo = F - S.1 3 sd := by omega
  have hF0 : Fw S B sd F n 0 S := ⟨hV, fun _ => hf, fun z => by omega, by omega, hF.symm, Nat.le_refl _, lS.rf S, Nat.zero_le _⟩
  have l155 : ∃ r, f_Law_best_l155 (nI X) (nI sd) (nI (S.1 3 sd)) (nI mo) 13 (1, 0, M) = some r ∧ ∃ M1 S1, r = (1, nI n, M1) ∧ R2 M1 S1 S1 ∧ Fw S B sd F n n S1 := by
    obtain ⟨r, r1, r2⟩ := it_inv (step := fun s : Int32 × Int32 × gMem => f_Law_best_s155 s.2.2 (nI X) (nI sd) (nI (S.1 3 sd)) (nI mo) s.1 s.2.1) (fun i s => ∃ M1 S1, s = (1, nI i, M1) ∧ R2 M1 S1 S1 ∧ Fw S B sd F n i S1) (fun r => ∃ M1 S1, r = (1, nI n, M1) ∧ R2 M1 S1 S1 ∧ Fw S B sd F n n S1) n (fun i s hi hP => by
      obtain ⟨M1, S1, rfl, h1, h2⟩ := hP
      obtain ⟨M2, S2, g1, g2, g3⟩ := bs_155 (x2 := nI X) h2 h1 (by omega) hs hi hmF
      exact ⟨_, g1, M2, S2, rfl, g2, g3⟩) (fun s hP => by
      obtain ⟨M1, S1, rfl, h1, h2⟩ := hP
      refine ⟨_, ?_, M1, S1, rfl, h1, h2⟩
      have a1 : f_Law_call M1 2 1 0 0 = some (nI (S1.1 0 5), M1) := r_about (w := 1) h1.1 h2.1 (by omega)
      show f_Law_best_s155 M1 (nI X) (nI sd) (nI (S.1 3 sd)) (nI mo) 1 (nI n) = _
      unfold f_Law_best_s155
      rw [if_neg (by decide), a1, pB]
      dsimp only
      rw [h2.2.2.1 rfl, if_neg (show ¬ nI 3 = 2 by decide)]) ⟨M, S, rfl, hR, hF0⟩
    exact ⟨r, gIt_le _ (by omega) r1, r2⟩
  obtain ⟨r, r1, M1, S1, rfl, h1, h2⟩ := l155
  obtain ⟨d1, d2, d3, d4, d5, d6, d7, d8⟩ := h2
  rw [Nat.sub_self] at d5
  have d5 : S1.1 3 sd = F := d5
  have l350 : ∃ r, f_Law_best_l350 (nI X) (nI sd) (nI (S.1 3 sd)) (nI mo) (nI n) 13 (1, 0, M1) = some r ∧ ∃ M2, r = (1, nI n, M2) ∧ R2 M2 (popN n S1) (popN n S1) := by
    obtain ⟨r, r1, r2⟩ := it_inv (step := fun s : Int32 × Int32 × gMem => f_Law_best_s350 s.2.2 (nI X) (nI sd) (nI (S.1 3 sd)) (nI mo) s.1 (nI n) s.2.1) (fun i s => ∃ M2, s = (1, nI i, M2) ∧ R2 M2 (popN i S1) (popN i S1)) (fun r => ∃ M2, r = (1, nI n, M2) ∧ R2 M2 (popN n S1) (popN n S1)) n (fun i s hi hP => by
      obtain ⟨M2, rfl, g1⟩ := hP
      obtain ⟨M3, k1, k2⟩ := bs_350 (x2 := nI X) (x4 := nI sd) (x5 := nI (S.1 3 sd)) (x7 := nI mo) g1 d1 hi (by omega) d8
      exact ⟨_, k1, M3, rfl, k2⟩) (fun s hP => by
      obtain ⟨M2, rfl, g1⟩ := hP
      refine ⟨_, ?_, M2, rfl, g1⟩
      show f_Law_best_s350 M2 (nI X) (nI sd) (nI (S.1 3 sd)) (nI mo) 1 (nI n) (nI n) = _
      unfold f_Law_best_s350
      rw [if_pos (nI_le (Nat.le_refl _) (by omega))]) ⟨M1, rfl, h1⟩
    exact ⟨r, gIt_le _ (by omega) r1, r2⟩
  obtain ⟨r2, r3, M2, rfl, h3⟩ := l350
  obtain ⟨S0, hS0⟩ : ∃ S0, S0 = popN n S1 := ⟨_, rfl⟩
  rw [← hS0] at h3 d7
  have hV0 := d7.DV hV
  have q1 : S0.1 = S.1 := d7.1
  obtain ⟨c1, c2, c3⟩ := bs_408 (x2 := nI X) (x4 := nI sd) (x5 := nI (S.1 3 sd)) (x7 := nI mo) (x8 := 1) h3.1 hV0 (by rw [q1]; exact hf)
  obtain ⟨M4, S', k1, k2, k3⟩ := bs_450 (sd := sd) (mo := mo) hV0 (by rw [q1]; exact hf) (by rw [q1]; exact hsd) (by rw [q1]; exact hm) h3 hX
  rw [q1] at c1 c2 c3 k1
  refine ⟨M4, S', ?_, k2, k3.tr d7⟩
  have a4 : f_Law_call M1 2 (5 + nI sd) 0 0 = some (nI (S1.1 3 sd), M1) := r_side h1.1 d1 hs
  unfold f_Law_best_b150
  rw [r1, pB]
  dsimp only
  rw [if_neg (by decide), a4, pB]
  dsimp only
  rw [nI_add, d5, if_pos (by congr 1; omega)]
  unfold f_Law_best_b345
  rw [r3, pB]
  dsimp only
  rw [c3, pB]
  dsimp only
  rw [if_neg (show ¬ nI (fb_ct (aOk S.1) 32) ≤ 0 from nI_ge (b := fb_ct (aOk S.1) 32) (a := 0) (by omega) (by omega))]
  exact k1
theorem best_ok (hV : DV B S) (hR : R2 M S S) (hX : X < 2 ^ 31) : ∃ M' S', f_Law_best M (nI X) = some (1, M') ∧ R2 M' S' S' ∧ lS S' S := by
  have h5 := hV.V.2.1.1
  have e1 : f_Law_call M 2 1 0 0 = some (nI (S.1 0 5), M) := r_about (w := 1) hR.1 hV (by omega)
  have hmx := aMx_le (aHs S.1) 32 (aHs_le S.1) 4
  by_cases q : S.1 0 5 = 2
  · by_cases hm : aMx (aHs S.1) 4 ≤ 3
    · have hf : few S.1 := ⟨q, hm⟩
      have ht := hV.1.1.2.1.2.1 (Or.inr q)
      obtain ⟨sd, hsd⟩ : ∃ sd, sd = S.1 0 6 % 2 := ⟨_, rfl⟩
      have hs : sd < 2 := by omega
      obtain ⟨t1, t2, t3, t4, t5, -⟩ := TS_t hV.1.1 hV.1.2.1 hf hs
      have e2 : f_Law_call M 2 2 0 0 = some (nI (S.1 0 6), M) := r_about (w := 2) hR.1 hV (by omega)
      have r2 : gRem (nI (S.1 0 6)) 2 = nI sd := by rw [hsd]; exact z_rem (d := 2) (by omega) (by omega) (by omega)
      have a4 : f_Law_call M 2 (5 + nI sd) 0 0 = some (nI (S.1 3 sd), M) := r_side hR.1 hV hs
      have a5 : f_Law_call M 2 5 0 0 = some (nI (S.1 3 0), M) := r_about (w := 5) hR.1 hV (by omega)
      have a6 : f_Law_call M 2 6 0 0 = some (nI (S.1 3 1), M) := r_about (w := 6) hR.1 hV (by omega)
      obtain ⟨M1, m1, m2⟩ := most1 hR hV hf 0 (by omega)
      obtain ⟨M2, m3, m4⟩ := most1 m2 hV hf 1 (by omega)
      have m1 : f_Law_call M 11 0 0 0 = some (nI (tmost S.1), M1) := m1
      have m3 : f_Law_call M1 11 1 0 0 = some (nI (tmost S.1), M2) := m3
      obtain ⟨M3, S', k1, k2, k3⟩ := bs_150 (sd := sd) (mo := tmost S.1) hV hf hsd rfl m4 hX
      refine ⟨M3, S', ?_, k2, k3⟩
      unfold f_Law_best
      rw [e1, pB]
      dsimp only
      rw [q, if_pos (show nI 2 = 2 from rfl), few_ok hR.1 hV, pB]
      dsimp only
      rw [if_pos (show nI (aMx (aHs S.1) 4) ≤ 3 from nI_le (b := 3) hm (by omega)), e2, pB]
      dsimp only
      rw [r2, a4, pB]
      dsimp only
      rw [a5, pB]
      dsimp only
      rw [a6, pB]
      dsimp only
      rw [m1, pB]
      dsimp only
      rw [m3, pB]
      dsimp only
      rw [if_pos rfl, if_neg (nI_pos (by omega)), nI_add, show (8 : Int32) = nI 8 from rfl, pk_sub (by omega), if_neg (nI_nlt (by omega) (by omega))]
      exact k1
    · have hf : ¬ few S.1 := fun z => hm z.2
      have r2 : gRem (nI X) 2 = nI (X % 2) := z_rem (d := 2) (by omega) (by omega) (by omega)
      refine ⟨M, S, ?_, hR, lS.rf S⟩
      unfold f_Law_best
      rw [e1, pB]
      dsimp only
      rw [q, if_pos (show nI 2 = 2 from rfl), few_ok hR.1 hV, pB]
      dsimp only
      rw [if_neg (show ¬ nI (aMx (aHs S.1) 4) ≤ 3 from nI_ge (a := 3) (by omega) (by omega)), r2, x_most2 hR.1 hV (by omega) hf, pB, if_pos rfl]
      dsimp only
      rw [x_best hR.1 hV hf, pB, if_pos rfl, gBl_1, pB]
  · refine ⟨M, S, ?_, hR, lS.rf S⟩
    unfold f_Law_best
    rw [e1, pB]
    dsimp only
    rw [if_neg (show ¬ nI (S.1 0 5) = 2 from z_ne (y := 2) (by omega) (by omega) q), gBl_1, pB]
end BF
