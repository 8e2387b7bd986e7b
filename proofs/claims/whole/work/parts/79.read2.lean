-- ===== PURE: one command of the text, the model =====
section RC
variable {W0 W W1 : gMem} {i o l : Nat} {r r' t : Nat → Nat} {a : Nat → Nat → Nat}
theorem fd_98a (h : t i = 98) : fOk t l (i + 1) 1 4 0 1 ↔ i + 1 < l ∧ dOk (t i) true 0 (t (i + 1)) = true := by
  unfold fOk dOk
  rw [if_pos h, decide_eq_true_iff, if_pos rfl]
  omega
theorem fd_98b (h : t i = 98) : fOk t l (i + 2) 0 4 0 1 ↔ i + 2 < l ∧ dOk (t i) false (t (i + 1)) (t (i + 2)) = true := by
  unfold fOk dOk
  rw [if_pos h, decide_eq_true_iff, if_neg (by decide)]
  omega
theorem fd_99a (h : t i = 99) : fOk t l (i + 1) 0 31 0 10 ↔ i + 1 < l ∧ dOk (t i) true 0 (t (i + 1)) = true := by
  unfold fOk dOk
  rw [if_neg (by omega), if_pos h, decide_eq_true_iff, if_pos rfl]
  omega
theorem fd_99b (h : t i = 99) (h1 : dOk (t i) true 0 (t (i + 1)) = true) : fOk t l (i + 2) 0 31 (10 * (t (i + 1) - 48)) 1 ↔ i + 2 < l ∧ dOk (t i) false (t (i + 1)) (t (i + 2)) = true := by
  unfold dOk at h1
  rw [if_neg (by omega), if_pos h, decide_eq_true_iff, if_pos rfl] at h1
  unfold fOk dOk
  rw [if_neg (by omega), if_pos h, decide_eq_true_iff, if_neg (by decide)]
  split <;> omega
theorem fd_100a (h : t i = 100) : fOk t l (i + 1) 0 99 0 10 ↔ i + 1 < l ∧ dOk (t i) true 0 (t (i + 1)) = true := by
  unfold fOk dOk
  rw [if_neg (by omega), if_neg (by omega), if_pos h, decide_eq_true_iff]
  omega
theorem fd_100b (h : t i = 100) (h1 : dOk (t i) true 0 (t (i + 1)) = true) : fOk t l (i + 2) 0 99 (10 * (t (i + 1) - 48)) 1 ↔ i + 2 < l ∧ dOk (t i) false (t (i + 1)) (t (i + 2)) = true := by
  unfold dOk at h1
  rw [if_neg (by omega), if_neg (by omega), if_pos h, decide_eq_true_iff] at h1
  unfold fOk dOk
  rw [if_neg (by omega), if_neg (by omega), if_pos h, decide_eq_true_iff]
  omega
theorem cE_2 (h : dgs (t i) = 2) : cE t l i = if ¬ (i + 1 < l ∧ dOk (t i) true 0 (t (i + 1)) = true) then i + 1 else if ¬ (i + 2 < l ∧ dOk (t i) false (t (i + 1)) (t (i + 2)) = true) then i + 2 else 1000 := by
  unfold cE
  rw [if_neg (by omega), if_neg (by omega)]
theorem cE_0 (h : dgs (t i) = 0) : cE t l i = 1000 := by
  unfold cE
  rw [if_neg (by omega), if_pos h]
theorem cA_112 (h : t i = 112) : cA t i a = (if a 0 5 = 1 then aPass a else a) ∧ cF t i a = (if a 0 5 = 1 then 0 else 1) := by
  refine ⟨?_, ?_⟩
  · unfold cA
    rw [if_neg (by omega), if_neg (by omega), if_neg (by omega), if_neg (by omega)]
  · unfold cF
    rw [if_neg (by omega), if_neg (by omega), if_neg (by omega), if_neg (by omega)]
theorem cA_97 (h : t i = 97) : cA t i a = aA1 a ∧ cF t i a = 0 := by
  refine ⟨?_, ?_⟩
  · unfold cA
    rw [if_pos h]
  · unfold cF
    rw [if_pos h]
theorem cA_98 (h : t i = 98) : cA t i a = (if a 0 5 = 1 ∧ 5 * a 0 7 + a 0 8 < 5 * cHi t i + cLo t i then aBid a (cHi t i) (cLo t i) else a) ∧ cF t i a = (if a 0 5 = 1 ∧ 5 * a 0 7 + a 0 8 < 5 * cHi t i + cLo t i then 0 else 1) := by
  refine ⟨?_, ?_⟩
  · unfold cA
    rw [if_neg (by omega), if_pos h]
  · unfold cF
    rw [if_neg (by omega), if_pos h]
theorem cA_99 (h : t i = 99) : cA t i a = (if a 0 5 = 2 ∧ aRs a (cTwo t i) = 0 then aLay a (cTwo t i) else a) ∧ cF t i a = (if a 0 5 = 2 ∧ aRs a (cTwo t i) = 0 then 0 else 1) := by
  refine ⟨?_, ?_⟩
  · unfold cA
    rw [if_neg (by omega), if_neg (by omega), if_pos h]
  · unfold cF
    rw [if_neg (by omega), if_neg (by omega), if_pos h]
theorem cA_100 (h : t i = 100) : cA t i a = aDeal a (Int32.toInt64 (nI (cTwo t i))) ∧ cF t i a = 0 := by
  refine ⟨?_, ?_⟩
  · unfold cA
    rw [if_neg (by omega), if_neg (by omega), if_neg (by omega), if_pos h]
  · unfold cF
    rw [if_neg (by omega), if_neg (by omega), if_neg (by omega), if_pos h]
def QC (W0 W : gMem) (l : Nat) (t : Nat → Nat) (i o : Nat) (a : Nat → Nat → Nat) (r : Nat → Nat) : Prop := (cE t l i = 1000 → ∃ W' r', f_Mo_readCommand 19 3 197 W = some (1, W') ∧ WT W0 W' (i + 1 + dgs (t i)) (o + cF t i a) r' ∧ RM (cA t i a) r') ∧ (cE t l i ≠ 1000 → ∃ W', f_Mo_readCommand 19 3 197 W = some (0, W') ∧ WT W0 W' (cE t l i) o r)
theorem q_pre (hT : WT W0 W i o r) (ht : tx1 W0 l t) (hi : i < l) : ∃ W1, gSt W 19 0 14 (nI (i + 1)) = W1 ∧ WT W0 W1 (i + 1) o r ∧ gRd 120 (W 19 1) (W 19 0 14) = some (nI (t i)) ∧ gSO W 19 0 14 ((W 19 0 14) + 1) = some W1 := by
  have hx := hT.tx ht
  have hl := ht.2.2.1
  refine ⟨_, rfl, hT.spot (i + 1), ?_, ?_⟩
  · rw [hT.2.1, pRd _ (by omega) (by omega), hx.2.1 i hi]
  · unfold gSO
    rw [hT.2.1, nI_1]
/-- behind the number: what is done, and what is counted -/
theorem q_b (hT : WT W0 W i o r) (b : Nat) (hb : b ≤ 1) : (f_Mo_readCommand_b166 19 3 197 W (nI b) = some (1, gSt W 19 0 15 (nI (o + (1 - b))))) ∧ (f_Mo_readCommand_b246 19 3 197 W (nI b) = some (1, gSt W 19 0 15 (nI (o + (1 - b))))) ∧ (f_Mo_readCommand_b103 19 3 197 W (nI b) = some (1, gSt W 19 0 15 (nI (o + (1 - b))))) ∧ (f_Mo_readCommand_b198 19 3 197 W (nI b) = some (1, gSt W 19 0 15 (nI (o + (1 - b))))) := by
  unfold f_Mo_readCommand_b166 f_Mo_readCommand_b246 f_Mo_readCommand_b103 f_Mo_readCommand_b198 gBl
  rw [q_done hT b hb, pB, pB]
  dsimp only
  rw [if_neg (show ¬ (1 : Int32) = 0 by decide), if_pos (Or.inr rfl), pB]
  exact ⟨rfl, rfl, rfl, rfl⟩
theorem q_cmd97 (hT : WT W0 W i o r) (ht : tx1 W0 l t) (hi : i < l) (hR : RM a r) (hV : aV a) (hc : t i = 97) : QC W0 W l t i o a r := by
  obtain ⟨W1, hW1, T1, e1, e2⟩ := q_pre hT ht hi
  have hd : dgs (t i) = 0 := by rw [hc]; rfl
  refine ⟨fun _ => ?_, fun q => absurd (cE_0 hd) q⟩
  obtain ⟨r', g1, g2⟩ := q_advice1 (W := W1) (c := 3) hR hV
  rw [rW_self T1.1] at g1
  refine ⟨rW W1 3 r', r', ?_, ?_, ?_⟩
  · unfold f_Mo_readCommand
    rw [e1, pB, e2, pB, if_pos (by rw [hc]; rfl), g1, pB]
  · rw [hd, (cA_97 hc).2]
    exact T1.op (W8.rf W1)
  · rw [(cA_97 hc).1]
    exact g2
theorem q_cmd112 (hT : WT W0 W i o r) (ht : tx1 W0 l t) (hi : i < l) (hR : RM a r) (hV : aV a) (hc : t i = 112) : QC W0 W l t i o a r := by
  obtain ⟨W1, hW1, T1, e1, e2⟩ := q_pre hT ht hi
  have hd : dgs (t i) = 0 := by rw [hc]; rfl
  have h53 := hV.2.1.1
  refine ⟨fun _ => ?_, fun q => absurd (cE_0 hd) q⟩
  have r1 : gRd 197 (W1 19 3) 1 = some (nI (a 0 5)) := by
    rw [T1.1, show gRd 197 (fun j => nI (r j)) 1 = some (nI (r 1)) from pRd _ (show 1 < 197 by omega) (by omega), hR.r1]
  have cm : f_Mo_readCommand 19 3 197 W = if a 0 5 = 1 then (f_Mo_passOn 19 3 197 W1).bind fun q37 => if q37.1 ≤ 0 then f_Mo_readCommand_b197 19 3 197 q37.2 else f_Mo_readCommand_b198 19 3 197 q37.2 1 else f_Mo_readCommand_b197 19 3 197 W1 := by
    unfold f_Mo_readCommand
    rw [e1, pB, e2, pB, hc, if_neg (by decide), if_neg (by decide), if_neg (by decide), if_neg (by decide), if_pos (by decide), r1, pB]
    by_cases z : a 0 5 = 1
    · rw [if_pos z, if_pos (by rw [z]; rfl)]
    · rw [if_neg z, if_neg (show ¬ nI (a 0 5) = 1 from z_ne (y := 1) (by omega) (by omega) z)]
  rw [(cA_112 hc).1, (cA_112 hc).2, hd, cm]
  by_cases z : a 0 5 = 1
  · rw [if_pos z, if_pos z, if_pos z]
    obtain ⟨r', g1, g2⟩ := q_passOn' (W := W1) (c := 3) hR hV z
    rw [rW_self T1.1] at g1
    have h5 := aPass_5 z
    have h6 := (aV_pass hV z).2.1.1
    have T2 : WT W0 (rW W1 3 r') (i + 1) o r' := T1.op (W8.rf W1)
    have hb := (q_b T2 1 (by omega)).2.2.2
    refine ⟨_, r', ?_, T2.out (o + (1 - 1)), g2⟩
    rw [g1, pB, if_neg (show ¬ nI (aPass a 0 5) ≤ 0 from nI_ge (a := 0) (by omega) (by omega))]
    exact hb
  · rw [if_neg z, if_neg z, if_neg z]
    have hb := (q_b T1 0 (by omega)).2.2.2
    exact ⟨_, r, hb, T1.out (o + (1 - 0)), hR⟩
theorem q_cmd98 (hT : WT W0 W i o r) (ht : tx1 W0 l t) (hi : i < l) (hR : RM a r) (hV : aV a) (hc : t i = 98) : QC W0 W l t i o a r := by
  obtain ⟨W1, hW1, T1, e1, e2⟩ := q_pre hT ht hi
  have hd : dgs (t i) = 2 := by rw [hc]; rfl
  have hl := ht.2.2.1
  have hv := hV.2.1
  have h53 := hv.1
  have x1 := T1.tx ht
  obtain ⟨f1, f2⟩ := q_fig1 x1 T1.2.1 (by omega) (x1 := 0) (by decide) (lo := 1) (hi := 4) (by omega) (by omega)
  have cm : f_Mo_readCommand 19 3 197 W = (f_Mo_figures W1 0 1 (nI 1) (nI 4)).bind fun q6 => (f_Mo_figures q6.2 q6.1 1 (nI 0) (nI 4)).bind fun q7 => if q7.1 = (-1) then some (0, q7.2) else (f_Mo_canBid 19 3 197 q7.2 q6.1 q7.1).bind fun q8 => if q8 = 0 then f_Mo_readCommand_b165 19 3 197 q7.2 else (f_Mo_bidOn 19 3 197 q7.2 q6.1 q7.1).bind fun q11 => if q11.1 < 0 then f_Mo_readCommand_b165 19 3 197 q11.2 else f_Mo_readCommand_b166 19 3 197 q11.2 1 := by
    unfold f_Mo_readCommand
    rw [e1, pB, e2, pB, hc, if_neg (by decide), if_pos (by decide)]
    rfl
  unfold QC
  rw [cE_2 hd]
  by_cases A : i + 1 < l ∧ dOk (t i) true 0 (t (i + 1)) = true
  · have A' := (fd_98a hc).mpr A
    have hA := A'
    unfold fOk at hA
    rw [if_neg (fun q => q A)]
    have T2 := T1.spot (i + 2)
    have x2 := T2.tx ht
    have n1 : ¬ nI (t (i + 1) - 48) = -1 := z_ne (y := 4294967295) (by omega) (by omega) (by omega)
    obtain ⟨k1, k2⟩ := q_fig1 x2 T2.2.1 (by omega) n1 (lo := 0) (hi := 4) (by omega) (by omega)
    have cm2 := cm
    rw [f1 A', pB] at cm2
    dsimp only at cm2
    by_cases B : i + 2 < l ∧ dOk (t i) false (t (i + 1)) (t (i + 2)) = true
    · have B' := (fd_98b hc).mpr B
      have hB := B'
      unfold fOk at hB
      rw [if_neg (fun q => q B)]
      refine ⟨fun _ => ?_, fun q => absurd rfl q⟩
      have T3 := T2.spot (i + 3)
      rw [k1 B', pB] at cm2
      dsimp only at cm2
      rw [if_neg (show ¬ nI (t (i + 2) - 48) = -1 from z_ne (y := 4294967295) (by omega) (by omega) (by omega))] at cm2
      have cb := q_canBid (M := gSt (gSt W1 19 0 14 (nI (i + 2))) 19 0 14 (nI (i + 3))) (k := 3) (l := t (i + 1) - 48) (s := t (i + 2) - 48) hR (by omega) (by omega) (by omega) (by omega) hv.2.2.2.1 hv.2.2.2.2.1
      rw [rW_self T3.1] at cb
      rw [hd, (cA_98 hc).1, (cA_98 hc).2]
      unfold cHi cLo
      by_cases z : a 0 5 = 1 ∧ 5 * a 0 7 + a 0 8 < 5 * (t (i + 1) - 48) + (t (i + 2) - 48)
      · rw [if_pos z] at cb
        rw [if_pos z, if_pos z]
        obtain ⟨r', g1, g2⟩ := q_bidOn (M := gSt (gSt W1 19 0 14 (nI (i + 2))) 19 0 14 (nI (i + 3))) (k := 3) (l := t (i + 1) - 48) (s := t (i + 2) - 48) hR z.1 (hv.2.1 (Or.inl z.1)) (by omega)
        rw [rW_self T3.1] at g1
        have T4 : WT W0 (rW (gSt (gSt W1 19 0 14 (nI (i + 2))) 19 0 14 (nI (i + 3))) 3 r') (i + 3) o r' := T3.op (W8.rf _)
        refine ⟨_, r', ?_, T4.out (o + (1 - 1)), g2⟩
        rw [cm2]
        rw [show f_Mo_canBid 19 3 197 (gSt (gSt W1 19 0 14 (nI (i + 2))) 19 0 14 (nI (i + 2 + 1))) (nI (t (i + 1) - 48)) (nI (t (i + 2) - 48)) = some (nI 1) from cb, pB, if_neg (by decide)]
        rw [show f_Mo_bidOn 19 3 197 (gSt (gSt W1 19 0 14 (nI (i + 2))) 19 0 14 (nI (i + 2 + 1))) (nI (t (i + 1) - 48)) (nI (t (i + 2) - 48)) = some (nI ((a 0 6 + 1) % 4), rW (gSt (gSt W1 19 0 14 (nI (i + 2))) 19 0 14 (nI (i + 3))) 3 r') from g1, pB, if_neg (nI_pos (by omega))]
        exact (q_b T4 1 (by omega)).1
      · rw [if_neg z] at cb
        rw [if_neg z, if_neg z]
        refine ⟨_, r, ?_, T3.out (o + (1 - 0)), hR⟩
        rw [cm2]
        rw [show f_Mo_canBid 19 3 197 (gSt (gSt W1 19 0 14 (nI (i + 2))) 19 0 14 (nI (i + 2 + 1))) (nI (t (i + 1) - 48)) (nI (t (i + 2) - 48)) = some (nI 0) from cb, pB, if_pos (by decide)]
        exact (q_b T3 0 (by omega)).1
    · rw [if_pos B]
      refine ⟨fun q => absurd q (by omega), fun _ => ⟨_, ?_, T2⟩⟩
      rw [k2 (fun q => B ((fd_98b hc).mp q)), pB, if_pos rfl] at cm2
      exact cm2
  · rw [if_pos A]
    refine ⟨fun q => absurd q (by omega), fun _ => ⟨W1, ?_, T1⟩⟩
    rw [cm, f2 (fun q => A ((fd_98a hc).mp q)), pB, q_fig0, pB, if_pos rfl]
/-- two digits, behind a letter -/
theorem q_two (T1 : WT W0 W1 (i + 1) o r) (ht : tx1 W0 l t) (hi : i < l) (hd : dgs (t i) = 2) {hi' : Nat} (hh : hi' < 1000) (fa : fOk t l (i + 1) 0 hi' 0 10 ↔ i + 1 < l ∧ dOk (t i) true 0 (t (i + 1)) = true) (fb : dOk (t i) true 0 (t (i + 1)) = true → (fOk t l (i + 2) 0 hi' (10 * (t (i + 1) - 48)) 1 ↔ i + 2 < l ∧ dOk (t i) false (t (i + 1)) (t (i + 2)) = true)) : (cE t l i = 1000 → cTwo t i ≤ hi' ∧ ∃ W3, f_Mo_figures W1 0 2 (nI 0) (nI hi') = some (nI (cTwo t i), W3) ∧ WT W0 W3 (i + 1 + dgs (t i)) o r) ∧ (cE t l i ≠ 1000 → ∃ W3, f_Mo_figures W1 0 2 (nI 0) (nI hi') = some (-1, W3) ∧ WT W0 W3 (cE t l i) o r) := by
  have hl := ht.2.2.1
  obtain ⟨g1, g2, g3⟩ := q_fig2 (T1.tx ht) T1.2.1 (by omega) hh
  rw [cE_2 hd]
  by_cases A : i + 1 < l ∧ dOk (t i) true 0 (t (i + 1)) = true
  · rw [if_neg (fun q => q A)]
    by_cases B : i + 2 < l ∧ dOk (t i) false (t (i + 1)) (t (i + 2)) = true
    · rw [if_neg (fun q => q B)]
      refine ⟨fun _ => ?_, fun q => absurd rfl q⟩
      have B' := (fb A.2).mpr B
      have hB := B'
      unfold fOk at hB
      have e3 := g3 (fa.mpr A) B'
      refine ⟨by unfold cTwo cHi cLo; omega, _, e3, ?_⟩
      rw [hd]
      exact (T1.spot (i + 2)).spot (i + 3)
    · rw [if_pos B]
      exact ⟨fun q => absurd q (by omega), fun _ => ⟨_, g2 (fa.mpr A) (fun q => B ((fb A.2).mp q)), T1.spot (i + 2)⟩⟩
  · rw [if_pos A]
    exact ⟨fun q => absurd q (by omega), fun _ => ⟨_, g1 (fun q => A (fa.mp q)), T1⟩⟩
theorem q_cmd99 (hT : WT W0 W i o r) (ht : tx1 W0 l t) (hi : i < l) (hR : RM a r) (hV : aV a) (hc : t i = 99) : QC W0 W l t i o a r := by
  obtain ⟨W1, hW1, T1, e1, e2⟩ := q_pre hT ht hi
  have hd : dgs (t i) = 2 := by rw [hc]; rfl
  have hv := hV.2.1
  have h53 := hv.1
  obtain ⟨g1, g2⟩ := q_two T1 ht hi hd (hi' := 31) (by omega) (fd_99a hc) (fd_99b hc)
  have cm : f_Mo_readCommand 19 3 197 W = (f_Mo_figures W1 0 2 (nI 0) (nI 31)).bind fun q16 => if q16.1 = (-1) then some (0, q16.2) else (gRd 197 (q16.2 19 3) 1).bind fun v17 => if v17 = 2 then (f_Mo_reason 19 3 197 q16.2 q16.1).bind fun q20 => if q20 = 0 then (f_Mo_playOn 19 3 197 q16.2 q16.1).bind fun q21 => if q21.1 = 0 then f_Mo_readCommand_b246 19 3 197 q21.2 1 else f_Mo_readCommand_b245 19 3 197 q21.2 else f_Mo_readCommand_b245 19 3 197 q16.2 else f_Mo_readCommand_b245 19 3 197 q16.2 := by
    unfold f_Mo_readCommand
    rw [e1, pB, e2, pB, hc, if_neg (by decide), if_neg (by decide), if_pos (by decide)]
    rfl
  refine ⟨fun q => ?_, fun q => ?_⟩
  · obtain ⟨hlt, W3, k1, T3⟩ := g1 q
    rw [k1, pB] at cm
    dsimp only at cm
    have r1 : gRd 197 (W3 19 3) 1 = some (nI (a 0 5)) := by
      rw [T3.1, show gRd 197 (fun j => nI (r j)) 1 = some (nI (r 1)) from pRd _ (show 1 < 197 by omega) (by omega), hR.r1]
    rw [if_neg (show ¬ nI (cTwo t i) = -1 from z_ne (y := 4294967295) (by omega) (by omega) (by omega)), r1, pB] at cm
    rw [(cA_99 hc).1, (cA_99 hc).2]
    by_cases z : a 0 5 = 2
    · rw [if_pos (by rw [z]; rfl)] at cm
      have er := q_reason (M := W3) (k := 3) hR hV.O (Or.inr z) (hv.2.1 (Or.inr z)) (show cTwo t i < 32 by omega)
      rw [rW_self T3.1] at er
      rw [er, pB] at cm
      have hle := aRs_le a (cTwo t i)
      by_cases y : aRs a (cTwo t i) = 0
      · rw [if_pos (by rw [y]; rfl)] at cm
        obtain ⟨r', p1, p2⟩ := q_playOn (M := W3) (k := 3) hR (hV.P z) (show cTwo t i < 32 by omega)
        rw [rW_self T3.1, y] at p1
        rw [if_pos y] at p2
        have T4 : WT W0 (rW W3 3 r') (i + 1 + dgs (t i)) o r' := T3.op (W8.rf _)
        rw [p1, pB, if_pos (show nI 0 = 0 from rfl)] at cm
        rw [if_pos ⟨z, y⟩, if_pos ⟨z, y⟩]
        exact ⟨_, r', cm.trans (q_b T4 1 (by omega)).2.1, T4.out (o + (1 - 1)), p2⟩
      · rw [if_neg (show ¬ nI (aRs a (cTwo t i)) = 0 from z_ne (y := 0) (by omega) (by omega) y)] at cm
        rw [if_neg (fun k => y k.2), if_neg (fun k => y k.2)]
        exact ⟨_, r, cm.trans (q_b T3 0 (by omega)).2.1, T3.out (o + (1 - 0)), hR⟩
    · rw [if_neg (show ¬ nI (a 0 5) = 2 from z_ne (y := 2) (by omega) (by omega) z)] at cm
      rw [if_neg (fun k => z k.1), if_neg (fun k => z k.1)]
      exact ⟨_, r, cm.trans (q_b T3 0 (by omega)).2.1, T3.out (o + (1 - 0)), hR⟩
  · obtain ⟨W3, k1, T3⟩ := g2 q
    rw [k1, pB, if_pos rfl] at cm
    exact ⟨W3, cm, T3⟩
theorem q_cmd100 (hT : WT W0 W i o r) (ht : tx1 W0 l t) (hi : i < l) (hR : RM a r) (hV : aV a) (hd4 : a 0 4 ≤ 1000) (hc : t i = 100) : QC W0 W l t i o a r := by
  obtain ⟨W1, hW1, T1, e1, e2⟩ := q_pre hT ht hi
  have hd : dgs (t i) = 2 := by rw [hc]; rfl
  obtain ⟨g1, g2⟩ := q_two T1 ht hi hd (hi' := 99) (by omega) (fd_100a hc) (fd_100b hc)
  have cm : f_Mo_readCommand 19 3 197 W = (f_Mo_figures W1 0 2 (nI 0) (nI 99)).bind fun q27 => if q27.1 = (-1) then some (0, q27.2) else (f_Mo_dealOn 19 3 197 q27.2 (Int32.toInt64 q27.1)).bind fun q28 => if q28.1 ≤ 0 then f_Mo_readCommand_b103 19 3 197 q28.2 0 else f_Mo_readCommand_b103 19 3 197 q28.2 1 := by
    unfold f_Mo_readCommand
    rw [e1, pB, e2, pB, hc, if_neg (by decide), if_neg (by decide), if_neg (by decide), if_pos (by decide)]
    rfl
  refine ⟨fun q => ?_, fun q => ?_⟩
  · obtain ⟨hlt, W3, k1, T3⟩ := g1 q
    rw [k1, pB] at cm
    dsimp only at cm
    rw [if_neg (show ¬ nI (cTwo t i) = -1 from z_ne (y := 4294967295) (by omega) (by omega) (by omega))] at cm
    obtain ⟨W4, r', p1, p2, p3⟩ := q_dealOn' (W := W3) (c := 3) (B := 1000) (by omega) ⟨hR, hV, hd4⟩ (by omega) (Int32.toInt64 (nI (cTwo t i)))
    rw [rW_self T3.1] at p1
    have T4 : WT W0 (rW W4 3 r') (i + 1 + dgs (t i)) o r' := T3.op p3
    rw [p1, pB, if_neg (show ¬ nI (a 0 4 + 1) ≤ 0 from nI_ge (a := 0) (by omega) (by omega))] at cm
    rw [(cA_100 hc).1, (cA_100 hc).2]
    exact ⟨_, r', cm.trans (q_b T4 1 (by omega)).2.2.1, T4.out (o + (1 - 1)), p2.1⟩
  · obtain ⟨W3, k1, T3⟩ := g2 q
    rw [k1, pB, if_pos rfl] at cm
    exact ⟨W3, cm, T3⟩
theorem q_cmdElse (hT : WT W0 W i o r) (ht : tx1 W0 l t) (hi : i < l) (hd : dgs (t i) = 9) : QC W0 W l t i o a r := by
  obtain ⟨W1, hW1, T1, e1, e2⟩ := q_pre hT ht hi
  have hl := ht.2.2.1
  have ht255 := ht.2.2.2 i hi
  have hce : cE t l i = i := by unfold cE; rw [if_pos hd]
  refine ⟨fun q => absurd q (by omega), fun _ => ⟨gSt W1 19 0 14 (nI i), ?_, by rw [hce]; exact T1.spot i⟩⟩
  have ne : ∀ y : Nat, (y = 97 ∨ y = 98 ∨ y = 99 ∨ y = 100 ∨ y = 112) → ¬ nI (t i) = nI y := fun y hy => z_ne (by omega) (by omega) (fun z => by
    rw [z] at hd
    rcases hy with rfl | rfl | rfl | rfl | rfl <;> exact absurd hd (by decide))
  unfold f_Mo_readCommand
  rw [e1, pB, e2, pB, if_neg (show ¬ nI (t i) = 97 from ne 97 (by omega)), if_neg (show ¬ nI (t i) = 98 from ne 98 (by omega)), if_neg (show ¬ nI (t i) = 99 from ne 99 (by omega)), if_neg (show ¬ nI (t i) = 100 from ne 100 (by omega)), if_neg (show ¬ nI (t i) = 112 from ne 112 (by omega))]
  unfold gSO
  rw [T1.2.1, pB, show (1 : Int32) = nI 1 from rfl, pk_sub (by omega)]
  rfl
theorem q_cmd (hT : WT W0 W i o r) (ht : tx1 W0 l t) (hi : i < l) (hR : RM a r) (hV : aV a) (hd4 : a 0 4 ≤ 1000) : QC W0 W l t i o a r := by
  by_cases z1 : t i = 97
  · exact q_cmd97 hT ht hi hR hV z1
  by_cases z2 : t i = 98
  · exact q_cmd98 hT ht hi hR hV z2
  by_cases z3 : t i = 99
  · exact q_cmd99 hT ht hi hR hV z3
  by_cases z4 : t i = 100
  · exact q_cmd100 hT ht hi hR hV hd4 z4
  by_cases z5 : t i = 112
  · exact q_cmd112 hT ht hi hR hV z5
  refine q_cmdElse hT ht hi ?_
  unfold dgs
  rw [if_neg (by omega), if_neg (by omega)]
end RC
