-- ===== PURE: what is done in an evening =====
theorem DO.of {f g : gMem → Option (Int32 × gMem)} {S S' : SS} {v : Int32} (h : ∀ M, DI M S → f M = g M) (hg : DO g S v S') : DO f S v S' := fun M hM => by
  obtain ⟨M', e1, e2, e3⟩ := hg M hM
  exact ⟨M', (h M hM).trans e1, e2, e3⟩
section AC
variable {M : gMem} {S : SS} {B X y P : Nat}
theorem lg_in {a : EVN} {k : Nat} : aLg a k = 4294967295 ∨ (a 0 5 = 2 ∧ aLg a k < 32 ∧ aRs a (aLg a k) = 0) := by
  unfold aLg
  by_cases q : a 0 5 = 2
  · rw [if_pos q]
    by_cases hk : k < fb_ct (aOk a) 32
    · obtain ⟨w, w1, w2, w3⟩ := fb_ct_kth hk
      rw [kth_yes w2 w3 32 w1]
      exact Or.inr ⟨q, w1, ok_rs.mp w2⟩
    · exact Or.inl (kth_no 32 (by omega))
  · rw [if_neg q]; exact Or.inl rfl
theorem av_in {a : EVN} (hV : aV a) : aAv a = 4294967295 ∨ (a 0 5 = 2 ∧ aAv a < 32 ∧ aRs a (aAv a) = 0) := by
  unfold aAv
  by_cases q : a 0 5 = 2
  · rw [if_pos q]
    rcases aAd_4 hV with h | h
    · exact Or.inl h
    · exact Or.inr ⟨q, h⟩
  · rw [if_neg q]; exact Or.inl rfl
/-- a card is played, if there is one -/
theorem ac_b210 (hV : DV B S) {cd i : Nat} (hcd : cd = 4294967295 ∨ (S.1 0 5 = 2 ∧ cd < 32 ∧ aRs S.1 cd = 0)) (x2 x5 sum : Int32) : ∃ w S1, DV (B + 1) S1 ∧ ∀ M, DI M S → ∃ M1, f_Law_act_b210_178 M x2 sum x5 (nI i) (nI cd) = some (.inl (3 * sum + w, nI (i + 1), M1)) ∧ DI M1 S1 ∧ FR M M1 := by
  rcases hcd with q | ⟨q1, q2, q3⟩
  · refine ⟨7, S, hV.up (by omega), fun M hM => ⟨M, ?_, hM, fun _ _ => rfl⟩⟩
    unfold f_Law_act_b210_178 f_Law_act_b237_178
    rw [q, if_pos (show nI 4294967295 = -1 from z_N), nI_1]
  · refine ⟨0, sPush S (aLay S.1 cd), hV.push (gX_lay hV.1 q1 q2 q3), fun M hM => ?_⟩
    obtain ⟨M1, e1, e2, e3⟩ := c_play0 (y := 0) (z := 0) hV q2 q1 q3 M hM
    refine ⟨M1, ?_, e2, e3⟩
    have e1 : f_Law_call M 8 (nI cd) 0 0 = some (0, M1) := e1
    unfold f_Law_act_b210_178 f_Law_act_b237_178
    rw [if_neg (show ¬ nI cd = -1 by rw [z_m1]; exact z_ne (by omega) (by omega) (by omega)), e1, pB, nI_1]
theorem ac_loop (hy : y < 2 ^ 31) (hP : P ≤ 6) : ∀ n i B S (sum : Int32), i + n = P → DV B S → ∃ v S', DV (B + n) S' ∧ ∀ M, DI M S → ∃ M', gIt (fun s => f_Law_act_s178 s.2.2 (nI y) s.1 (nI P) s.2.1) (n + 1) (sum, nI i, M) = some (v, nI P, M') ∧ DI M' S' ∧ FR M M' := by
  intro n
  induction n with
  | zero =>
    intro i B S sum hi hV
    refine ⟨sum, S, hV, fun M hM => ⟨M, ?_, hM, fun _ _ => rfl⟩⟩
    have e : f_Law_act_s178 M (nI y) sum (nI P) (nI i) = some (.inr (sum, nI P, M)) := by
      unfold f_Law_act_s178
      rw [if_pos (nI_le (by omega) (by omega)), show i = P by omega]
    unfold gIt
    dsimp only
    rw [e]
  | succ n ih =>
    intro i B S sum hi hV
    obtain ⟨cd, hcd, hst⟩ : ∃ cd, (cd = 4294967295 ∨ (S.1 0 5 = 2 ∧ cd < 32 ∧ aRs S.1 cd = 0)) ∧ ∀ M, DI M S → f_Law_act_s178 M (nI y) sum (nI P) (nI i) = f_Law_act_b210_178 M (nI y) sum (nI P) (nI i) (nI cd) := by
      have e8 : nI y / 8 = nI (y / 8) := z_div (d := 8) hy (by omega) (by omega)
      have e3 : gRem (nI (y / 8)) 3 = nI (y / 8 % 3) := z_rem (d := 3) (by omega) (by omega) (by omega)
      by_cases q : y / 8 % 3 = 0
      · refine ⟨aAv S.1, av_in hV.V, fun M hM => ?_⟩
        unfold f_Law_act_s178
        rw [if_neg (nI_ge (by omega) (by omega)), e8, e3, q, if_pos (show nI 0 = 0 from rfl), r_advice hM hV, pB]
      · refine ⟨aLg S.1 0, lg_in, fun M hM => ?_⟩
        have e1 : f_Law_call M 10 0 0 0 = some (nI (aLg S.1 0), M) := r_legal (w := 0) hM hV (by omega)
        unfold f_Law_act_s178
        rw [if_neg (nI_ge (by omega) (by omega)), e8, e3, if_neg (show ¬ nI (y / 8 % 3) = 0 from z_ne (y := 0) (by omega) (by omega) q), e1, pB]
    obtain ⟨w, S1, h1, h2⟩ := ac_b210 hV hcd (i := i) (nI y) (nI P) sum
    obtain ⟨v, S', h3, h4⟩ := ih (i + 1) (B + 1) S1 (3 * sum + w) (by omega) h1
    refine ⟨v, S', by rw [show B + (n + 1) = B + 1 + n by omega]; exact h3, fun M hM => ?_⟩
    obtain ⟨M1, e1, e2, e3⟩ := h2 M hM
    obtain ⟨M2, g1, g2, g3⟩ := h4 M1 e2
    refine ⟨M2, ?_, g2, e3.tr g3⟩
    unfold gIt
    dsimp only
    rw [hst M hM, e1]
    exact g1
/-- what is done is a matter of the state alone -/
theorem act_ok (hV : DV B S) (hB : B < 1000000) (hX : X < 2 ^ 31) : ∃ v S', DV (B + 6) S' ∧ DO (fun M => f_Law_act M (nI X)) S v S' := by
  have h53 := hV.V.2.1.1
  have e1 : ∀ M, DI M S → f_Law_call M 2 1 0 0 = some (nI (S.1 0 5), M) := fun M hM => r_about (w := 1) hM hV (by omega)
  have e16 : nI X / 16 = nI (X / 16) := z_div (d := 16) hX (by omega) (by omega)
  have r32 : gRem (nI X) 32 = nI (X % 32) := z_rem (d := 32) hX (by omega) (by omega)
  have r64 : gRem (nI X) 64 = nI (X % 64) := z_rem (d := 64) hX (by omega) (by omega)
  have r3 : gRem (nI X) 3 = nI (X % 3) := z_rem (d := 3) hX (by omega) (by omega)
  have p3 : gRem (nI (S.1 0 5)) 3 = nI (S.1 0 5 % 3) := z_rem (d := 3) (by omega) (by omega) (by omega)
  have y2 : gRem (nI (X / 16)) 2 = nI (X / 16 % 2) := z_rem (d := 2) (by omega) (by omega) (by omega)
  have ne : ∀ {a b : Nat}, a < 4294967296 → b < 4294967296 → a ≠ b → ¬ nI a = nI b := fun h1 h2 h => z_ne h1 h2 h
  by_cases q31 : X % 32 = 31
  · refine ⟨_, _, (hV.keep (s := X / 16 % 2)).up (by omega), DO.of (fun M hM => ?_) (c_keep (y := 0) (z := 0) (S := S) (s := X / 16 % 2) (by omega))⟩
    unfold f_Law_act
    rw [e1 M hM, pB, r32, q31, if_pos (show nI 31 = 31 from rfl), e16, y2]
    exact bind_eta _
  have n31 : ¬ nI (X % 32) = 31 := ne (b := 31) (by omega) (by omega) q31
  by_cases q30 : X % 32 = 30
  · have eq : ∀ M, DI M S → f_Law_act M (nI X) = f_Law_call M 14 (nI (X / 16 % 2)) 0 0 := fun M hM => by
      unfold f_Law_act
      rw [e1 M hM, pB, r32, if_neg n31, q30, if_pos (show nI 30 = 30 from rfl), e16, y2]
      exact bind_eta _
    by_cases hu : S.2.2.2.1 (X / 16 % 2) = 1
    · exact ⟨_, _, (hV.back (by omega) hu).up (by omega), DO.of eq (c_back (by omega) hu)⟩
    · exact ⟨_, _, hV.up (by omega), DO.of eq (DO.rd fun M hM => x_back2 hM (by omega) hu)⟩
  have n30 : ¬ nI (X % 32) = 30 := ne (b := 30) (by omega) (by omega) q30
  by_cases qd : S.1 0 5 % 3 = 0 ∨ X % 64 = 61
  · refine ⟨_, _, (hV.push (gX_deal hV.1 ((Int32.toInt64 (nI (X / 16))) * (4294967437)))).up (by omega), DO.of (fun M hM => ?_) (c_deal hV hB ((Int32.toInt64 (nI (X / 16))) * (4294967437)))⟩
    have eb : f_Law_act_b71 M (nI (X / 16)) = f_DS_deal M ((Int32.toInt64 (nI (X / 16))) * (4294967437)) := by
      unfold f_Law_act_b71
      exact bind_eta _
    unfold f_Law_act
    rw [e1 M hM, pB, r32, if_neg n31, if_neg n30, e16]
    dsimp only
    rw [p3]
    by_cases q : S.1 0 5 % 3 = 0
    · rw [q, if_pos (show nI 0 = 0 from rfl)]
      exact eb
    · rw [if_neg (show ¬ nI (S.1 0 5 % 3) = 0 from ne (b := 0) (by omega) (by omega) q), r64, qd.resolve_left q, if_pos (show nI 61 = 61 from rfl)]
      exact eb
  have q3 : S.1 0 5 % 3 ≠ 0 := fun t => qd (Or.inl t)
  have q61 : X % 64 ≠ 61 := fun t => qd (Or.inr t)
  have n3 : ¬ nI (S.1 0 5 % 3) = 0 := ne (b := 0) (by omega) (by omega) q3
  have n61 : ¬ nI (X % 64) = 61 := ne (b := 61) (by omega) (by omega) q61
  by_cases q1 : S.1 0 5 = 1
  · by_cases qb : X % 3 = 0
    · have b4 : 1 + gRem (nI (X / 16)) 4 = nI (1 + X / 16 % 4) := by
        rw [show gRem (nI (X / 16)) 4 = nI (X / 16 % 4) from z_rem (d := 4) (by omega) (by omega) (by omega), show (1 : Int32) = nI 1 from rfl, nI_add]
      have b5 : gRem (nI (X / 16) / 4) 5 = nI (X / 16 / 4 % 5) := by
        rw [show nI (X / 16) / 4 = nI (X / 16 / 4) from z_div (d := 4) (by omega) (by omega) (by omega), show gRem (nI (X / 16 / 4)) 5 = nI (X / 16 / 4 % 5) from z_rem (d := 5) (by omega) (by omega) (by omega)]
      have eq : ∀ M, DI M S → f_Law_act M (nI X) = f_Law_call M 6 (nI (1 + X / 16 % 4)) (nI (X / 16 / 4 % 5)) 0 := fun M hM => by
        unfold f_Law_act
        rw [e1 M hM, pB, r32, if_neg n31, if_neg n30]
        dsimp only
        rw [p3, if_neg n3, r64, if_neg n61, q1, if_pos (show nI 1 = 1 from rfl), r3, qb, if_pos (show nI 0 = 0 from rfl), e16, b4, b5]
        exact bind_eta _
      by_cases hq : S.1 0 5 = 1 ∧ 5 * S.1 0 7 + S.1 0 8 < 5 * (1 + X / 16 % 4) + X / 16 / 4 % 5
      · exact ⟨_, _, (hV.push (gX_bid hV.1 q1 (by omega) (by omega) (by omega))).up (by omega), DO.of eq (c_bid hV (by omega) (by omega) (by omega) hq)⟩
      · exact ⟨_, _, hV.up (by omega), DO.of eq (DO.rd fun M hM => x_bid2 hM hV (by omega) (by omega) (by omega) hq)⟩
    · refine ⟨_, _, (hV.push (gX_pass hV.1 q1)).up (by omega), DO.of (fun M hM => ?_) (c_pass (v := 0) (y := 0) (z := 0) hV q1)⟩
      unfold f_Law_act
      rw [e1 M hM, pB, r32, if_neg n31, if_neg n30]
      dsimp only
      rw [p3, if_neg n3, r64, if_neg n61, q1, if_pos (show nI 1 = 1 from rfl), r3, if_neg (show ¬ nI (X % 3) = 0 from ne (b := 0) (by omega) (by omega) qb)]
      exact bind_eta _
  have n1 : ¬ nI (S.1 0 5) = 1 := ne (b := 1) (by omega) (by omega) q1
  have q2 : S.1 0 5 = 2 := by omega
  by_cases q28 : X % 32 = 28
  · have eq : ∀ M, DI M S → f_Law_act M (nI X) = f_Law_call M 9 0 0 0 := fun M hM => by
      unfold f_Law_act
      rw [e1 M hM, pB, r32, if_neg n31, if_neg n30]
      dsimp only
      rw [p3, if_neg n3, r64, if_neg n61, if_neg n1, q28, if_pos (show nI 28 = 28 from rfl)]
      exact bind_eta _
    by_cases hc : S.2.1 = 0
    · exact ⟨_, _, hV.up (by omega), DO.of eq (DO.rd fun M hM => x_undo hM hc)⟩
    · exact ⟨_, _, (hV.pop hc).up (by omega), DO.of eq (c_undo hc)⟩
  have n28 : ¬ nI (X % 32) = 28 := ne (b := 28) (by omega) (by omega) q28
  by_cases q27 : X % 32 = 27
  · have eq : ∀ M, DI M S → f_Law_act M (nI X) = f_Law_call M 8 (nI (X / 16 % 32)) 0 0 := fun M hM => by
      unfold f_Law_act
      rw [e1 M hM, pB, r32, if_neg n31, if_neg n30]
      dsimp only
      rw [p3, if_neg n3, r64, if_neg n61, if_neg n1, if_neg n28, q27, if_pos (show nI 27 = 27 from rfl), e16, show gRem (nI (X / 16)) 32 = nI (X / 16 % 32) from z_rem (d := 32) (by omega) (by omega) (by omega)]
      exact bind_eta _
    by_cases hr : aRs S.1 (X / 16 % 32) = 0
    · exact ⟨_, _, (hV.push (gX_lay hV.1 q2 (by omega) hr)).up (by omega), DO.of eq (c_play0 hV (by omega) q2 hr)⟩
    · exact ⟨_, _, (hV.push (gX_rf hV.1)).up (by omega), DO.of eq (c_play1 hV (by omega) q2 hr)⟩
  have n27 : ¬ nI (X % 32) = 27 := ne (b := 27) (by omega) (by omega) q27
  have eP : 1 + gRem (nI (X / 16)) 6 = nI (1 + X / 16 % 6) := by
    rw [show gRem (nI (X / 16)) 6 = nI (X / 16 % 6) from z_rem (d := 6) (by omega) (by omega) (by omega), show (1 : Int32) = nI 1 from rfl, nI_add]
  obtain ⟨v, S', h1, h2⟩ := ac_loop (y := X / 16) (P := 1 + X / 16 % 6) (by omega) (by omega) (1 + X / 16 % 6) 0 B S 0 (by omega) hV
  refine ⟨v, S', h1.up (by omega), fun M hM => ?_⟩
  obtain ⟨M', g1, g2, g3⟩ := h2 M hM
  refine ⟨M', ?_, g2, g3⟩
  show f_Law_act M (nI X) = _
  unfold f_Law_act
  rw [e1 M hM, pB, r32, if_neg n31, if_neg n30]
  dsimp only
  rw [p3, if_neg n3, r64, if_neg n61, if_neg n1, if_neg n28, if_neg n27, e16, eP]
  have g0 : f_Law_act_l178 (nI (X / 16)) (nI (1 + X / 16 % 6)) 7 (0, 0, M) = some (v, nI (1 + X / 16 % 6), M') := gIt_le _ (by omega) g1
  rw [g0]
  rfl
end AC
