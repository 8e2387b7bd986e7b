-- ===== PURE: calls that change =====
section ACT
variable {M M' W : gMem} {E : Nat → Nat → Nat → Nat} {n c k n' c' : Nat} {u : Nat → Nat} {l : Nat} {t r d q r' d' : Nat → Nat} {a : Nat → Nat → Nat} {e : Nat} {C D : gMem → Option (Int32 × gMem)}
theorem IM.now (h : IM W E n c u l t r d q) (hR : RM a r') : IM (rW W 2 r') (fU E 0 a) n c u l t r' d q := by
  obtain ⟨m2, m9, m10, mR, mD, mK, m11, mu, ml, mt⟩ := h
  have o : ∀ c0, c0 ≠ 2 → rW W 2 r' 19 c0 = W 19 c0 := fun c0 h => gUp_n _ _ (fun z => h z.2)
  refine ⟨rW_r _ _ _, (o 9 (by omega)).trans m9, (o 10 (by omega)).trans m10, by rw [fU_s]; exact hR, fun i hi => ?_, fun s h2 h3 => ?_, (congrFun (o 0 (by omega)) 11).trans m11, fun s h2 => (congrFun (o 11 (by omega)) s).trans (mu s h2), (congrFun (o 0 (by omega)) 2).trans ml, fun j hj => (congrFun (o 1 (by omega)) j).trans (mt j hj)⟩
  · have := rg_lt n c i
    rw [fU_n _ _ (by omega)]
    exact mD i hi
  · rw [fU_n _ _ (by omega)]
    exact mK s h2 h3
theorem IV.now (h : IV k E n c u l t) (ha : aG (k + 1) a) : IV (k + 1) (fU E 0 a) n c u l t := by
  obtain ⟨hn, hc, hl, ht, hu, hJ, h0, hr, hs⟩ := h.up
  refine ⟨hn, hc, hl, ht, hu, fun e he => ?_, by rw [fU_s]; exact ha, fun i hi => ?_, fun s h2 h3 => ?_⟩
  · by_cases z : e = 0
    · rw [z, fU_s]
      exact ha.1.J
    · rw [fU_n _ _ z]
      exact hJ e he
  · have := rg_lt n c i
    rw [fU_n _ _ (by omega)]
    exact hr i hi
  · rw [fU_n _ _ (by omega)]
    exact hs s h2 h3
/-- a call that throws -/
theorem throw_call {cd : Int32} (hI : Inv k M) (h0 : cd ≠ 0) (h1 : C M = some (cd, M)) (h2 : D M = some (0, gSt M 19 0 0 cd)) : CALL k M C D :=
  ⟨cd, M, 0, _, h1, h2, st_00 M cd, fun z => absurd z h0, hI.same (IS_st M cd (by omega))⟩
/-- a call that answers, the class first -/
theorem mu_call {b : Int32} {Mc : gMem} (h1 : C M = some (0, gUp Mc 20 0 (gOut (Int32.toInt64 b)))) (h2 : IC Mc E n c u l t) (h3 : Mc 19 = M 19) (h4 : IV (k + 1) E n c u l t) (h5 : ∀ W, W 19 = M 19 → ∃ W' r d q, D W = some (b, W') ∧ W' 19 0 0 = 0 ∧ (∀ g, g ≠ 19 → W' g = W g) ∧ IM W' E n c u l t r d q) : CALL k M C D := by
  have o : ∀ g, g ≠ 20 → gUp Mc 20 0 (gOut (Int32.toInt64 b)) g = Mc g := fun g hg => funext fun c => gUp_n _ _ (fun z => hg z.1)
  obtain ⟨W', r, d, q, w1, w2, w3, w4⟩ := h5 (gUp Mc 20 0 (gOut (Int32.toInt64 b))) ((o 19 (by omega)).trans h3)
  refine ⟨0, _, b, W', h1, w1, w2, fun _ => ?_, E, n, c, u, l, t, r, d, q, ?_, w4, h4⟩
  · have e : gGO W' = gGO (gUp Mc 20 0 (gOut (Int32.toInt64 b))) := by
      unfold gGO
      rw [w3 20 (by omega)]
    rw [e, gGO_u]
  · exact h2.c18 (fun g hg => (w3 g (by omega)).trans (o g (by omega)))
/-- an action: the state is remembered, then the evening becomes a -/
theorem act_core {b : Int32} {op : gMem → Option (Int32 × gMem)} (hC : IC M E n c u l t) (hM : IM M E n c u l t r d q) (hV : IV k E n c u l t) (ha : aG (k + 1) a)
    (hm : ∀ W r, W 19 2 = (fun j => nI (r j)) → RM (E 0) r → ∃ W1 r', op W = some (b, rW W1 2 r') ∧ RM a r' ∧ ∀ g c, ¬ (g = 19 ∧ c = 8) → W1 g c = W g c) :
    ∃ Mc, f_Mem_remember 0 M = some Mc ∧ Mc 0 = eN (E 0) ∧ IC (aW Mc 0 a) (fU (Er E n) 0 a) (nx n) (cx c) u l t ∧ (∀ g, 19 ≤ g → aW Mc 0 a g = M g) ∧ IV (k + 1) (fU (Er E n) 0 a) (nx n) (cx c) u l t ∧ ∀ W, W 19 = M 19 → ∃ W3 W4 r' d', f_Mo_remember (gSt W 19 0 0 0) = some W3 ∧ op W3 = some (b, W4) ∧ W4 19 0 0 = 0 ∧ (∀ g, g ≠ 19 → W4 g = W g) ∧ IM W4 (fU (Er E n) 0 a) (nx n) (cx c) u l t r' d' q := by
  obtain ⟨Mc, e1, e2, e3⟩ := p_remember hC hV.1 hV.2.1
  refine ⟨Mc, e1, ?_, e2.ev (by omega), fun g hg => (aW_n Mc a (by omega)).trans (e3 g hg), hV.rem.now ha, fun W hW => ?_⟩
  · have := e2.1 0 (by omega)
    rwa [Er_0] at this
  · obtain ⟨W3, f1, f2, f3, f4⟩ := ((hM.c19 hW).same (IS_st W (k := 0) 0 (by omega))).rem hV
    have f5 := f2.2.2.2.1
    rw [Er_0] at f5
    obtain ⟨W1, r', g1, g2, g3⟩ := hm W3 r f2.1 f5
    have is : IS W3 W1 := ⟨fun e he => funext fun c => g3 e c (by omega), fun c hc => g3 18 c (by omega), fun c hc => g3 19 c (by omega), congrFun (g3 19 0 (by omega)) 2, congrFun (g3 19 0 (by omega)) 11⟩
    refine ⟨W3, rW W1 2 r', r', dX d r c, f1, g1, ?_, fun g hg => ?_, (f2.same is).now g2⟩
    · unfold rW
      rw [gUp_n _ _ (by omega), g3 19 0 (by omega), f3]
      exact st_00 W 0
    · have e : gSt W 19 0 0 0 g = W g := funext fun c => gUp_n _ _ (by omega)
      rw [← e, ← f4 g hg]
      funext c
      unfold rW
      rw [gUp_n _ _ (by omega), g3 g c (by omega)]
theorem aG_deal (h : aG k a) (x : Int64) : aG (k + 1) (aDeal a x) := ⟨aV_deal h.1, by rw [aDeal_4]; have := h.2; omega⟩
theorem deal_both (hk : k ≤ 600) (hI : Inv k M) (x : Int64) : ∃ b M1 M2, f_DS_deal M x = some (b, M1) ∧ f_Mo_deal M1 x = some (b, M2) ∧ Inv (k + 1) M2 := by
  obtain ⟨E, n, c, u, l, t, r, d, q, hC, hM, hV⟩ := hI
  have h0 := hV.2.2.2.2.2.2.1
  have hd := h0.2
  obtain ⟨Mc, c1, c2, c3, c4, c5, c6⟩ := act_core (b := nI (E 0 0 4 + 1)) (op := fun W => f_Mo_dealOn 19 2 197 W x) hC hM hV (aG_deal h0 x) (fun W r hW hR => by
    obtain ⟨W1, g1, g2⟩ := q_dealOn (M := W) (c := 2) (r := r) (by omega) (by rw [hR.1.1]; omega) x
    rw [rW_self hW] at g2
    refine ⟨W1, _, ?_, RM_deal hR, g1⟩
    rw [g2, hR.1.1])
  obtain ⟨W3, W4, r', d', w1, w2, w3, w4, w5⟩ := c6 (aW Mc 0 (aDeal (E 0) x)) (c4 19 (by omega))
  try dsimp only at w2
  refine ⟨nI (E 0 0 4 + 1), aW Mc 0 (aDeal (E 0) x), W4, ?_, ?_, fU (Er E n) 0 (aDeal (E 0) x), nx n, cx c, u, l, t, r', d', q, c3.c18 (fun g hg => w4 g (by omega)), w5, c5⟩
  · unfold f_DS_deal
    have e := p_dealWith (M := Mc) (e := 0) (a := E 0) x (by omega)
    rw [aW_self c2] at e
    rw [c1, pB, e, pB, aW_r, aDeal_4]
  · unfold f_Mo_deal gSO
    rw [pB, w1, pB, w2, pB]
theorem s_c8 {Ls : Nat} {xs : Nat → Int32} (hL : Ls ≤ 2560) (hk : 5 * k + 5 ≤ Ls) (hI : Inv k M) : ∃ M', f_law_c8 Ls xs M (nI (5 * k)) = some M' ∧ Inv (k + 1) M' := by
  obtain ⟨b, M1, M2, h1, h2, h3⟩ := deal_both (by omega) hI ((gShl (Int32.toInt64 (xs (5 * k + 1))) 32) ||| ((Int32.toInt64 (xs (5 * k + 2))) &&& (4294967295)))
  refine ⟨M2, ?_, h3⟩
  unfold f_law_c8
  rw [sc_1 hL hk, pB, sc_2 hL hk, pB, h1, pB, pB, pB, h2, pB, if_pos rfl]
theorem pass_call (hk : k ≤ 600) (hI : Inv k M) : CALL k M f_Law_pass f_Mo_pass := by
  have hI0 := hI
  obtain ⟨E, n, c, u, l, t, r, d, q, hC, hM, hV⟩ := hI
  have h0 := hV.2.2.2.2.2.2.1
  have h53 := h0.1.2.1.1
  have m0 : M 0 0 5 = nI (E 0 0 5) := by rw [hC.1 0 (by omega)]; rfl
  have r1 : ∀ W : gMem, W 19 = M 19 → gRd 197 (W 19 2) 1 = some (nI (E 0 0 5)) := fun W hW => by
    rw [show gRd 197 (W 19 2) 1 = some (nI (r 1)) from row_rd (hM.c19 hW).1 (show 1 < 197 by omega), hM.2.2.2.1.r1]
  by_cases z : E 0 0 5 = 1
  · obtain ⟨v1, v2, v3, v4, v5, v6, v7, v8, v9, v10, v11⟩ := h0.1.2.1
    have ht := v2 (Or.inl z)
    have h7 := v7 z
    have h9 := v9 (Or.inr z)
    have hbd : E 0 0 9 < 4 ∧ 1 ≤ E 0 0 7 ∧ E 0 0 10 ≤ 2 ∨ E 0 0 9 = 4294967295 ∧ E 0 0 7 = 0 ∧ E 0 0 8 = 0 ∧ E 0 0 10 ≤ 3 := by
      rcases v6 with y | y
      · exact Or.inl ⟨y.1, y.2, h7.1 y.1⟩
      · exact Or.inr ⟨y.1, y.2.1, y.2.2, h7.2⟩
    have e4 : aPass (E 0) 0 4 = E 0 0 4 := by
      unfold aPass aPs1
      (repeat' split) <;> simp (disch := omega) only [aS_k]
    obtain ⟨Mc, c1, c2, c3, c4, c5, c6⟩ := act_core (a := aPass (E 0)) (b := nI (aPass (E 0) 0 5)) (op := fun W => f_Mo_passOn 19 2 197 W) hC hM hV ⟨aV_pass h0.1 z, by rw [e4]; have := h0.2; omega⟩ (fun W r hW hR => by
      obtain ⟨r', g1, g2⟩ := q_passOn (M := W) (k := 2) hR z ht hbd v4 v5 h9
      rw [rW_self hW] at g1
      exact ⟨W, r', g1, g2, fun _ _ _ => rfl⟩)
    refine mu_call (b := nI (aPass (E 0) 0 5)) (Mc := aW Mc 0 (aPass (E 0))) ?_ c3 (c4 19 (by omega)) c5 (fun W hW => ?_)
    · unfold f_Law_pass f_DS_pass
      have e := p_makePass (M := Mc) (e := 0) (a := E 0) ht (by omega) (by omega)
      rw [aW_self c2] at e
      rw [m0, z, if_pos (show nI 1 = 1 from rfl), c1, pB, e, pB, aW_r]
      rfl
    · obtain ⟨W3, W4, r', d', w1, w2, w3, w4, w5⟩ := c6 W hW
      try dsimp only at w2
      refine ⟨W4, r', d', q, ?_, w3, w4, w5⟩
      unfold f_Mo_pass
      rw [r1 W hW, pB, z, if_pos (show nI 1 = 1 from rfl)]
      unfold f_Mo_pass_b16
      rw [q_ref0, pB, if_pos rfl, w1, pB, w2, pB]
  · refine throw_call (cd := 1) hI0 (by decide) ?_ ?_
    · unfold f_Law_pass f_DS_pass
      rw [m0, if_neg (show ¬ nI (E 0 0 5) = 1 from z_ne (y := 1) (by omega) (by omega) z)]
      rfl
    · unfold f_Mo_pass
      rw [r1 M rfl, pB, if_neg (show ¬ nI (E 0 0 5) = 1 from z_ne (y := 1) (by omega) (by omega) z)]
      unfold f_Mo_pass_b16
      rw [q_ref1 _ (by decide), pB, if_neg (show ¬ (1 : Int32) = 0 by decide)]
theorem s_c10 {Ls : Nat} {xs : Nat → Int32} (hL : Ls ≤ 2560) (hk : 5 * k + 5 ≤ Ls) (hI : Inv k M) : ∃ M', f_law_c10 Ls xs M (nI (5 * k)) = some M' ∧ Inv (k + 1) M' := by
  obtain ⟨cd, M1, b, M2, h1, h2, h3, h4, h5⟩ := pass_call (by omega) hI
  refine ⟨M2, ?_, h5⟩
  unfold f_law_c10
  rw [h1, pB, h2, pB]
  exact c_tail (q := (b, M2)) h3 h4
theorem aRf_4 (a : Nat → Nat → Nat) : aRf a 0 4 = a 0 4 := by unfold aRf; rw [aS_k _ (by omega)]
theorem play_call (hk : k ≤ 600) (hI : Inv k M) (v : Int32) : CALL k M (fun M => f_Law_play M v) (fun M => f_Mo_play M v) := by
  have hI0 := hI
  obtain ⟨E, n, c, u, l, t, r, d, q, hC, hM, hV⟩ := hI
  have h0 := hV.2.2.2.2.2.2.1
  have h53 := h0.1.2.1.1
  have m0 : M 0 0 5 = nI (E 0 0 5) := by rw [hC.1 0 (by omega)]; rfl
  have r1 : ∀ W : gMem, W 19 = M 19 → gRd 197 (W 19 2) 1 = some (nI (E 0 0 5)) := fun W hW => by
    rw [show gRd 197 (W 19 2) 1 = some (nI (r 1)) from row_rd (hM.c19 hW).1 (show 1 < 197 by omega), hM.2.2.2.1.r1]
  rcases i_cases v 32 (by omega) with h | ⟨w, hw, rfl⟩
  · refine throw_call (cd := 1) hI0 (by decide) ?_ ?_
    · show f_Law_play M v = _
      unfold f_Law_play f_DS_play
      rw [show (32 : Int32) = nI 32 from rfl, k_place0 (by omega) h]
      rfl
    · show f_Mo_play M v = _
      unfold f_Mo_play
      rw [show (31 : Int64) = lN 31 from rfl, q_in0 (by omega) h, pB, if_pos rfl]
      unfold f_Mo_play_b32
      rw [q_ref1 _ (by decide), pB, if_neg (show ¬ (1 : Int32) = 0 by decide)]
  · have cl : f_DS_play M (nI w) = gSq (f_DS_checkInPlay M) fun q2 => (f_Mem_remember 0 M).bind fun q3 => (f_Ev_reasonAgainst 0 q3 (nI w)).bind fun q4 => if q4 = 0 then (f_Ev_layDown 0 q3 (nI w)).bind fun q6 => f_DS_play_b58 q6 q4 else (gSO q3 0 0 13 ((q3 0 0 13) + 1)).bind fun M5 => f_DS_play_b58 M5 q4 := by
      unfold f_DS_play
      rw [show (32 : Int32) = nI 32 from rfl, k_place1 (by omega) hw]
      rfl
    by_cases z : E 0 0 5 = 2
    · have hP := h0.1.P z
      have ht := h0.1.2.1.2.1 (Or.inr z)
      have hO := h0.1.O
      obtain ⟨b, hb⟩ : ∃ b, b = (if aRs (E 0) w = 0 then aLay (E 0) w else aRf (E 0)) := ⟨_, rfl⟩
      have hG : aG (k + 1) b := by
        rw [hb]
        by_cases y : aRs (E 0) w = 0
        · rw [if_pos y]
          exact ⟨aV_lay h0.1 z hw y, by rw [(aLay_0 h0.1 z hw).2.2.2.2.2.1]; have := h0.2; omega⟩
        · rw [if_neg y]
          exact ⟨aV_rf h0.1, by rw [aRf_4]; have := h0.2; omega⟩
      obtain ⟨Mc, c1, c2, c3, c4, c5, c6⟩ := act_core (a := b) (b := nI (aRs (E 0) w)) (op := fun W => f_Mo_playOn 19 2 197 W (nI w)) hC hM hV hG (fun W r hW hR => by
        obtain ⟨r', g1, g2⟩ := q_playOn (M := W) (k := 2) hR hP hw
        rw [rW_self hW] at g1
        exact ⟨W, r', g1, by rw [hb]; exact g2, fun _ _ _ => rfl⟩)
      refine mu_call (b := nI (aRs (E 0) w)) (Mc := aW Mc 0 b) ?_ c3 (c4 19 (by omega)) c5 (fun W hW => ?_)
      · show f_Law_play M (nI w) = _
        unfold f_Law_play
        rw [cl]
        unfold f_DS_checkInPlay
        rw [m0, z, if_pos (show nI 2 = 2 from rfl), c1]
        show ((f_Ev_reasonAgainst 0 Mc (nI w)).bind fun q4 => if q4 = 0 then (f_Ev_layDown 0 Mc (nI w)).bind fun q6 => f_DS_play_b58 q6 q4 else (gSO Mc 0 0 13 ((Mc 0 0 13) + 1)).bind fun M5 => f_DS_play_b58 M5 q4).bind _ = _
        have e := p_reason (M := Mc) (e := 0) hO.1 hO.2.1 hO.2.2 ht hw
        have e2 := p_layDown (M := Mc) (e := 0) hP hw
        rw [aW_self c2] at e e2
        rw [e, pB, hb]
        have hle := aRs_le (E 0) w
        by_cases y : aRs (E 0) w = 0
        · rw [if_pos y, y, if_pos (show nI 0 = 0 from rfl), e2]
          rfl
        · rw [if_neg y, if_neg (show ¬ nI (aRs (E 0) w) = 0 from z_ne (y := 0) (by omega) (by omega) y)]
          have e3 : gSO Mc 0 0 13 (Mc 0 0 13 + 1) = some (aW Mc 0 (aRf (E 0))) := by
            have g := p_SO Mc 0 (E 0) 0 13 (E 0 0 13 + 1)
            rw [aW_self c2] at g
            rw [← show Mc 0 0 13 + 1 = nI (E 0 0 13 + 1) from by rw [c2, ← nI_1]; rfl] at g
            exact g
          rw [e3]
          rfl
      · obtain ⟨W3, W4, r', d', w1, w2, w3, w4, w5⟩ := c6 W hW
        try dsimp only at w2
        refine ⟨W4, r', d', q, ?_, w3, w4, w5⟩
        show f_Mo_play W (nI w) = _
        unfold f_Mo_play
        rw [show (31 : Int64) = lN 31 from rfl, q_in1 (by omega) (by omega), pB, if_neg (by decide), r1 W hW, pB, z, if_pos (show nI 2 = 2 from rfl)]
        unfold f_Mo_play_b32
        rw [q_ref0, pB, if_pos rfl, w1, pB, w2, pB]
    · refine throw_call (cd := 2) hI0 (by decide) ?_ ?_
      · show f_Law_play M (nI w) = _
        unfold f_Law_play
        rw [cl]
        unfold f_DS_checkInPlay
        rw [m0, if_neg (show ¬ nI (E 0 0 5) = 2 from z_ne (y := 2) (by omega) (by omega) z)]
        rfl
      · show f_Mo_play M (nI w) = _
        unfold f_Mo_play
        rw [show (31 : Int64) = lN 31 from rfl, q_in1 (by omega) (by omega), pB, if_neg (by decide), r1 M rfl, pB, if_neg (show ¬ nI (E 0 0 5) = 2 from z_ne (y := 2) (by omega) (by omega) z)]
        unfold f_Mo_play_b32
        rw [q_ref1 _ (by decide), pB, if_neg (show ¬ (1 : Int32) = 0 by decide)]
theorem s_c11 {Ls : Nat} {xs : Nat → Int32} (hL : Ls ≤ 2560) (hk : 5 * k + 5 ≤ Ls) (hI : Inv k M) : ∃ M', f_law_c11 Ls xs M (nI (5 * k)) = some M' ∧ Inv (k + 1) M' := by
  obtain ⟨cd, M1, b, M2, h1, h2, h3, h4, h5⟩ := play_call (by omega) hI (xs (5 * k + 1))
  dsimp only at h1 h2
  refine ⟨M2, ?_, h5⟩
  unfold f_law_c11
  rw [sc_1 hL hk, pB, h1, pB, pB, h2, pB]
  exact c_tail (q := (b, M2)) h3 h4
end ACT
