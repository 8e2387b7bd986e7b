-- ===== PURE: cards, suits, the trick, what can be played, the advice, told by both =====
section RO2
variable {M : gMem} {E : Nat → Nat → Nat → Nat} {n c k : Nat} {u : Nat → Nat} {l : Nat} {t r d q : Nat → Nat} {v v2 v3 : Int32}
theorem cardOf_ro (hC : IC M E n c u l t) (hM : IM M E n c u l t r d q) (hV : IV k E n c u l t) : RO M (fun M => f_Law_cardOf M v v2) (fun M => f_Mo_cardOf M v v2) := by
  have hG := hV.2.2.2.2.2.2.1.1
  have hw0 := aW_self (hC.1 0 (by omega))
  rcases i_cases v 32 (by omega) with h | ⟨w, hw, rfl⟩
  · left
    refine ⟨1, by decide, ?_, fun M' hs => ?_⟩
    · show f_Law_cardOf M v v2 = _
      unfold f_Law_cardOf f_DS_cardOf
      rw [show (32 : Int32) = nI 32 from rfl, k_place0 (by omega) h]
      rfl
    · show f_Mo_cardOf M' v v2 = _
      unfold f_Mo_cardOf
      rw [show (31 : Int64) = lN 31 from rfl, q_in0 (by omega) h, pB, if_pos rfl]
      unfold f_Mo_cardOf_b34
      rw [q_ref1 _ (by decide), pB, if_neg (show ¬ (1 : Int32) = 0 by decide)]
  · rcases i_cases v2 3 (by omega) with h | ⟨w2, hw2, rfl⟩
    · left
      refine ⟨2, by decide, ?_, fun M' hs => ?_⟩
      · show f_Law_cardOf M (nI w) v2 = _
        unfold f_Law_cardOf f_DS_cardOf
        rw [show (32 : Int32) = nI 32 from rfl, k_place1 (by omega) hw, show (2 : Int32) = nI 2 from rfl, k_what0 (by omega) h]
        rfl
      · show f_Mo_cardOf M' (nI w) v2 = _
        unfold f_Mo_cardOf
        rw [show (31 : Int64) = lN 31 from rfl, q_in1 (by omega) (by omega), pB, if_neg (by decide), show (2 : Int64) = lN 2 from rfl, q_in0 (by omega) h, pB, if_pos rfl]
        unfold f_Mo_cardOf_b34
        rw [q_ref1 _ (by decide), pB, if_neg (show ¬ (1 : Int32) = 0 by decide)]
    · right
      refine ⟨nI (if w2 = 0 then aH (E 0) w else if w2 = 1 then E 0 5 w else E 0 6 w), ?_, fun M' hs => ?_⟩
      · show f_Law_cardOf M (nI w) (nI w2) = _
        unfold f_Law_cardOf f_DS_cardOf
        rw [show (32 : Int32) = nI 32 from rfl, k_place1 (by omega) hw, show (2 : Int32) = nI 2 from rfl, k_what1 (by omega) (by omega)]
        show (if nI w2 = 0 then (f_Cards_holder 0 M (nI w)).bind fun q4 => some (Sum.inr q4) else if nI w2 = 1 then (f_Cards_dealtTo 0 M (nI w)).bind fun q6 => some (Sum.inr q6) else (f_Cards_playedAt 0 M (nI w)).bind fun q7 => some (Sum.inr q7) : Option (Nat ⊕ Int32)).bind _ = _
        have e1 := p_holder (M := M) (e := 0) hG.1 hw
        have e2 := p_dealtTo (M := M) (e := 0) (a := E 0) hw
        have e3 := p_playedAt (M := M) (e := 0) (a := E 0) hw
        rw [hw0] at e1 e2 e3
        rw [e1, e2, e3]
        rcases (show w2 = 0 ∨ w2 = 1 ∨ w2 = 2 by omega) with rfl | rfl | rfl
        · rw [if_pos (show nI 0 = 0 from rfl), if_pos rfl]; rfl
        · rw [if_neg (show ¬ nI 1 = 0 by decide), if_pos (show nI 1 = 1 from rfl), if_neg (show ¬ 1 = 0 by decide), if_pos rfl]; rfl
        · rw [if_neg (show ¬ nI 2 = 0 by decide), if_neg (show ¬ nI 2 = 1 by decide), if_neg (show ¬ 2 = 0 by decide), if_neg (show ¬ 2 = 1 by decide)]; rfl
      · have h2 := hM.row hs 0
        show f_Mo_cardOf M' (nI w) (nI w2) = _
        unfold f_Mo_cardOf
        rw [show (31 : Int64) = lN 31 from rfl, q_in1 (by omega) (by omega), pB, if_neg (by decide), show (2 : Int64) = lN 2 from rfl, q_in1 (by omega) (by omega), pB, if_neg (by decide)]
        unfold f_Mo_cardOf_b34
        rw [q_ref0, pB, if_pos rfl, show (21 : Int32) = nI 21 from rfl, show (32 : Int32) = nI 32 from rfl, pk_mul, nI_add, nI_add, row_rd h2 (by omega), pB]
        have hc := hM.2.2.2.1.2.2.1 w hw
        rcases (show w2 = 0 ∨ w2 = 1 ∨ w2 = 2 by omega) with rfl | rfl | rfl
        · rw [if_pos rfl, show 21 + 32 * 0 + w = 21 + w by omega, hc.1]
        · rw [if_neg (show ¬ 1 = 0 by decide), if_pos rfl, show 21 + 32 * 1 + w = 53 + w by omega, hc.2.1]
        · rw [if_neg (show ¬ 2 = 0 by decide), if_neg (show ¬ 2 = 1 by decide), show 21 + 32 * 2 + w = 85 + w by omega, hc.2.2]
theorem trick_ro (hC : IC M E n c u l t) (hM : IM M E n c u l t r d q) (hV : IV k E n c u l t) : RO M (fun M => f_Law_trick M v) (fun M => f_Mo_trick M v) := by
  have hG := hV.2.2.2.2.2.2.1.1
  have hw0 := aW_self (hC.1 0 (by omega))
  rcases i_cases v 4 (by omega) with h | ⟨w, hw, rfl⟩
  · left
    refine ⟨1, by decide, ?_, fun M' hs => ?_⟩
    · show f_Law_trick M v = _
      unfold f_Law_trick f_DS_trick
      rw [show (4 : Int32) = nI 4 from rfl, k_place0 (by omega) h]
      rfl
    · show f_Mo_trick M' v = _
      unfold f_Mo_trick
      rw [show (3 : Int64) = lN 3 from rfl, q_in0 (by omega) h, pB, if_pos rfl]
      unfold f_Mo_trick_b18
      rw [q_ref1 _ (by decide), pB, if_neg (show ¬ (1 : Int32) = 0 by decide)]
  · right
    refine ⟨nI (if w < E 0 1 3 % 4 then E 0 7 (E 0 1 3 - E 0 1 3 % 4 + w) else 4294967295), ?_, fun M' hs => ?_⟩
    · show f_Law_trick M (nI w) = _
      unfold f_Law_trick f_DS_trick
      have e := p_inTrick (M := M) (e := 0) hG.O.2.1 hw
      rw [hw0] at e
      rw [show (4 : Int32) = nI 4 from rfl, k_place1 (by omega) hw]
      show ((f_Cards_inTrick 0 M (nI w)).bind fun q2 => some (Sum.inr q2)).bind _ = _
      rw [e]
      rfl
    · have h2 := hM.row hs 0
      have hR := hM.2.2.2.1
      show f_Mo_trick M' (nI w) = _
      unfold f_Mo_trick
      rw [show (3 : Int64) = lN 3 from rfl, q_in1 (by omega) (by omega), pB, if_neg (by decide)]
      unfold f_Mo_trick_b18
      rw [q_ref0, pB, if_pos rfl, show (15 : Int32) = nI 15 from rfl, row_rd h2 (by omega), pB, hR.r15]
      by_cases z : w < E 0 1 3 % 4
      · rw [if_neg (nI_ge z (by omega)), if_pos z, show (16 : Int32) = nI 16 from rfl, nI_add, row_rd h2 (by omega), pB, hR.2.1 w z]
      · rw [if_pos (nI_le (by omega) (by omega)), if_neg z, z_m1]
theorem p_playable0 {e : Nat} {a : Nat → Nat → Nat} (hp : a 0 5 < 4294967296) (h : a 0 5 ≠ 2) (x : Int32) : f_Ev_playable e (aW M e a) x = some (nI 4294967295) := by
  unfold f_Ev_playable
  rw [aW_r, show (2 : Int32) = nI 2 from rfl, if_neg (fun z => h ((z_inj hp (by omega)).mp z)), z_m1]
theorem legal_ro (hC : IC M E n c u l t) (hM : IM M E n c u l t r d q) (hV : IV k E n c u l t) : RO M (fun M => f_Law_legal M v) (fun M => f_Mo_legal M v) := by
  have hG := hV.2.2.2.2.2.2.1.1
  have hw0 := aW_self (hC.1 0 (by omega))
  have hR := hM.2.2.2.1
  have h5 : E 0 0 5 < 4294967296 := by have := hG.2.1.1; omega
  rcases i_cases v 8 (by omega) with h | ⟨w, hw, rfl⟩
  · left
    refine ⟨1, by decide, ?_, fun M' hs => ?_⟩
    · show f_Law_legal M v = _
      unfold f_Law_legal f_DS_legal
      rw [show (8 : Int32) = nI 8 from rfl, k_place0 (by omega) h]
      rfl
    · show f_Mo_legal M' v = _
      unfold f_Mo_legal
      rw [show (7 : Int64) = lN 7 from rfl, q_in0 (by omega) h, pB, if_pos rfl]
      unfold f_Mo_legal_b18
      rw [q_ref1 _ (by decide), pB, if_neg (show ¬ (1 : Int32) = 0 by decide)]
  · right
    obtain ⟨x, hx, hx2⟩ : ∃ x, f_Ev_playable 0 M (nI w) = some (nI x) ∧ ∀ M', IS M M' → (if nI (r 1) = 2 then (f_Mo_legalAt 19 2 197 (gSt M' 19 0 0 0) (nI w)).bind fun q4 => some (q4, gSt M' 19 0 0 0) else some ((-1), gSt M' 19 0 0 0)) = some (nI x, gSt M' 19 0 0 0) := by
      rw [hR.r1]
      by_cases z : E 0 0 5 = 2
      · obtain ⟨x, g1, g2, -⟩ := legal_both (k := w) hG.O z (hG.2.1.2.1 (Or.inr z)) (by omega)
        refine ⟨x, ?_, fun M' hs => ?_⟩
        · have e := g1 M 0
          rw [hw0] at e
          exact e
        · have e := g2 (gSt M' 19 0 0 0) 2 r hR
          rw [rW_self (hM.row hs 0)] at e
          rw [if_pos (by rw [z]; rfl), e]
          rfl
      · refine ⟨4294967295, ?_, fun M' hs => ?_⟩
        · have e := p_playable0 (M := M) (e := 0) h5 z (nI w)
          rw [hw0] at e
          exact e
        · rw [if_neg (show ¬ nI (E 0 0 5) = 2 from z_ne (y := 2) h5 (by omega) z), z_m1]
    refine ⟨nI x, ?_, fun M' hs => ?_⟩
    · show f_Law_legal M (nI w) = _
      unfold f_Law_legal f_DS_legal
      rw [show (8 : Int32) = nI 8 from rfl, k_place1 (by omega) hw]
      show ((f_Ev_playable 0 M (nI w)).bind fun q2 => some (Sum.inr q2)).bind _ = _
      rw [hx]
      rfl
    · show f_Mo_legal M' (nI w) = _
      unfold f_Mo_legal
      rw [show (7 : Int64) = lN 7 from rfl, q_in1 (by omega) (by omega), pB, if_neg (by decide)]
      unfold f_Mo_legal_b18
      rw [q_ref0, pB, if_pos rfl, show (1 : Int32) = nI 1 from rfl, row_rd (hM.row hs 0) (by omega), pB]
      exact hx2 M' hs
theorem advice_ro (hC : IC M E n c u l t) (hM : IM M E n c u l t r d q) (hV : IV k E n c u l t) : ∃ x, f_DS_advice M = some x ∧ f_Mo_advice M = some (x, gSt M 19 0 0 0) := by
  have hG := hV.2.2.2.2.2.2.1.1
  have hw0 := aW_self (hC.1 0 (by omega))
  have hR := hM.2.2.2.1
  have h5 : E 0 0 5 < 4294967296 := by have := hG.2.1.1; omega
  have hw2 := rW_self (hM.row (IS.rf M) 0)
  unfold f_DS_advice f_Mo_advice gSO
  rw [pB]
  by_cases z : E 0 0 5 = 2
  · have e := p_advised (M := M) (e := 0) hG.O hG.2.2.2.1.1 z (hG.2.1.2.1 (Or.inr z))
    have e2 := q_advised (M := gSt M 19 0 0 0) (k := 2) hR hG.O hG.2.2.2.1.1 z (hG.2.1.2.1 (Or.inr z))
    rw [hw0] at e
    rw [hw2] at e2
    rw [e, e2]
    exact ⟨_, rfl, rfl⟩
  · have e := p_advised0 (M := M) (e := 0) h5 z
    have e2 := q_advised0 (M := gSt M 19 0 0 0) (k := 2) hR h5 z
    rw [hw0] at e
    rw [hw2] at e2
    rw [e, e2]
    exact ⟨_, rfl, rfl⟩
theorem suitOf_ro (hC : IC M E n c u l t) (hM : IM M E n c u l t r d q) (hV : IV k E n c u l t) : RO M (fun M => f_Law_suitOf M v v2 v3) (fun M => f_Mo_suitOf M v v2 v3) := by
  have hG := hV.2.2.2.2.2.2.1.1
  have hw0 := aW_self (hC.1 0 (by omega))
  have hR := hM.2.2.2.1
  have bad : ∀ M', f_Mo_suitOf_b25 M' v v2 v3 = some (0, gSt M' 19 0 0 1) := fun M' => by
    unfold f_Mo_suitOf_b25 f_Mo_suitOf_b46
    rw [q_ref1 _ (by decide), pB, if_neg (show ¬ (1 : Int32) = 0 by decide)]
  rcases i_cases v 4 (by omega) with h | ⟨p, hp, rfl⟩
  · left
    refine ⟨1, by decide, ?_, fun M' hs => ?_⟩
    · show f_Law_suitOf M v v2 v3 = _
      unfold f_Law_suitOf f_DS_suitOf
      rw [show (4 : Int32) = nI 4 from rfl, k_place0 (by omega) h]
      rfl
    · show f_Mo_suitOf M' v v2 v3 = _
      unfold f_Mo_suitOf
      rw [show (3 : Int64) = lN 3 from rfl, q_in0 (by omega) h, pB, if_pos rfl]
      exact bad M'
  rcases i_cases v2 4 (by omega) with h | ⟨s, hs4, rfl⟩
  · left
    refine ⟨1, by decide, ?_, fun M' hs => ?_⟩
    · show f_Law_suitOf M (nI p) v2 v3 = _
      unfold f_Law_suitOf f_DS_suitOf
      rw [show (4 : Int32) = nI 4 from rfl, k_place1 (by omega) hp, k_place0 (by omega) h]
      rfl
    · show f_Mo_suitOf M' (nI p) v2 v3 = _
      unfold f_Mo_suitOf
      rw [show (3 : Int64) = lN 3 from rfl, q_in1 (by omega) (by omega), pB, if_neg (by decide), q_in0 (by omega) h, pB, if_pos rfl]
      exact bad M'
  rcases i_cases v3 6 (by omega) with h | ⟨w, hw, rfl⟩
  · left
    refine ⟨2, by decide, ?_, fun M' hs => ?_⟩
    · show f_Law_suitOf M (nI p) (nI s) v3 = _
      unfold f_Law_suitOf f_DS_suitOf
      rw [show (4 : Int32) = nI 4 from rfl, k_place1 (by omega) hp, k_place1 (by omega) hs4, show (5 : Int32) = nI 5 from rfl, k_what0 (by omega) h]
      rfl
    · show f_Mo_suitOf M' (nI p) (nI s) v3 = _
      unfold f_Mo_suitOf
      rw [show (3 : Int64) = lN 3 from rfl, q_in1 (by omega) (by omega), pB, if_neg (by decide), q_in1 (by omega) (by omega), pB, if_neg (by decide), show (5 : Int64) = lN 5 from rfl, q_in0 (by omega) h, pB, if_pos rfl]
      unfold f_Mo_suitOf_b46
      rw [q_ref1 _ (by decide), pB, if_neg (show ¬ (1 : Int32) = 0 by decide)]
  · right
    have h4 := hR.2.2.2 p s hp hs4
    have h11 : E 0 11 (4 * p + s) ≤ 1 := hG.2.2.2.1.2.2.2.2 _ (by omega)
    have mo : ∀ M', IS M M' → f_Mo_suitOf M' (nI p) (nI s) (nI w) = f_Mo_suitOf_b46 M' (nI p) (nI s) (nI w) 0 := fun M' hs => by
      unfold f_Mo_suitOf
      rw [show (3 : Int64) = lN 3 from rfl, q_in1 (by omega) (by omega), pB, if_neg (by decide), q_in1 (by omega) (by omega), pB, if_neg (by decide), show (5 : Int64) = lN 5 from rfl, q_in1 (by omega) (by omega), pB, if_neg (by decide)]
    have e0 := p_held (M := M) (e := 0) (s := s) hG.1 hs4 (show p < 4294967296 by omega)
    have e1 := p_dealt (M := M) (e := 0) (s := s) hG.1 hs4 (show p < 4294967296 by omega)
    have e2 := p_count (M := M) (e := 0) (a := E 0) hp hs4
    have e3 := p_signal (M := M) (e := 0) (a := E 0) hp hs4
    have e4 := p_truth (M := M) (e := 0) hG.1 hp hs4
    have e5 := p_showedNone (M := M) (e := 0) hG.1 hp hs4
    rw [hw0] at e0 e1 e2 e3 e4 e5
    have cl : f_DS_suitOf M (nI p) (nI s) (nI w) = if nI w = 0 then (f_Cards_held 0 M (nI p) (nI s)).bind fun q5 => some (Sum.inr q5) else if nI w = 1 then (f_Cards_dealt 0 M (nI p) (nI s)).bind fun q7 => some (Sum.inr q7) else if nI w = 2 then (f_Drops_count 0 M (nI p) (nI s)).bind fun q9 => some (Sum.inr q9) else if nI w = 3 then (f_Drops_signal 0 M (nI p) (nI s)).bind fun q11 => some (Sum.inr q11) else if nI w = 4 then (f_Ev_truth 0 M (nI p) (nI s)).bind fun q13 => some (Sum.inr q13) else (f_Drops_showedNone 0 M (nI p) (nI s)).bind fun q14 => if q14 = 0 then some (Sum.inr 0) else some (Sum.inr 1) := by
      unfold f_DS_suitOf
      rw [show (4 : Int32) = nI 4 from rfl, k_place1 (by omega) hp, k_place1 (by omega) hs4, show (5 : Int32) = nI 5 from rfl, k_what1 (by omega) (by omega)]
      rfl
    rw [e0, e1, e2, e3, e4, e5] at cl
    have rd : ∀ M', IS M M' → ∀ b i, b + i < 197 → gRd 197 (gSt M' 19 0 0 0 19 2) (nI b + nI i) = some (nI (r (b + i))) := fun M' hs b i hb => by rw [nI_add, row_rd (hM.row hs 0) hb]
    rcases (show w = 0 ∨ w = 1 ∨ w = 2 ∨ w = 3 ∨ w = 4 ∨ w = 5 by omega) with rfl | rfl | rfl | rfl | rfl | rfl
    · refine ⟨nI (aHd (E 0) p s), ?_, fun M' hs => ?_⟩
      · show f_Law_suitOf M (nI p) (nI s) (nI 0) = _
        unfold f_Law_suitOf
        rw [cl, if_pos (by decide)]; rfl
      · show f_Mo_suitOf M' (nI p) (nI s) (nI 0) = _
        have g := q_holds (M := gSt M' 19 0 0 0) (k := 2) (s := s) hR hG.1 hs4 (show p < 4294967296 by omega)
        rw [rW_self (hM.row hs 0)] at g
        rw [mo M' hs]
        unfold f_Mo_suitOf_b46
        rw [q_ref0, pB, if_pos rfl, if_pos (by decide), g]
        rfl
    · refine ⟨nI (aDl (E 0) p s), ?_, fun M' hs => ?_⟩
      · show f_Law_suitOf M (nI p) (nI s) (nI 1) = _
        unfold f_Law_suitOf
        rw [cl, if_neg (by decide), if_pos (by decide)]; rfl
      · show f_Mo_suitOf M' (nI p) (nI s) (nI 1) = _
        have g := q_wasDealt (M := gSt M' 19 0 0 0) (k := 2) (s := s) hR hG.1 hs4 (show p < 4294967296 by omega)
        rw [rW_self (hM.row hs 0)] at g
        rw [mo M' hs]
        unfold f_Mo_suitOf_b46
        rw [q_ref0, pB, if_pos rfl, if_neg (by decide), if_pos (by decide), g]
        rfl
    · refine ⟨nI (E 0 8 (4 * p + s)), ?_, fun M' hs => ?_⟩
      · show f_Law_suitOf M (nI p) (nI s) (nI 2) = _
        unfold f_Law_suitOf
        rw [cl, if_neg (by decide), if_neg (by decide), if_pos (by decide)]; rfl
      · show f_Mo_suitOf M' (nI p) (nI s) (nI 2) = _
        rw [mo M' hs]
        unfold f_Mo_suitOf_b46
        rw [q_ref0, pB, if_pos rfl, if_neg (by decide), if_neg (by decide), if_pos (by decide), show (4 : Int32) = nI 4 from rfl, pk_mul, nI_add, show (117 : Int32) = nI 117 from rfl, rd M' hs _ _ (by omega), h4.1]
        rfl
    · refine ⟨nI (E 0 10 (4 * p + s)), ?_, fun M' hs => ?_⟩
      · show f_Law_suitOf M (nI p) (nI s) (nI 3) = _
        unfold f_Law_suitOf
        rw [cl, if_neg (by decide), if_neg (by decide), if_neg (by decide), if_pos (by decide)]; rfl
      · show f_Mo_suitOf M' (nI p) (nI s) (nI 3) = _
        rw [mo M' hs]
        unfold f_Mo_suitOf_b46
        rw [q_ref0, pB, if_pos rfl, if_neg (by decide), if_neg (by decide), if_neg (by decide), if_pos (by decide), show (4 : Int32) = nI 4 from rfl, pk_mul, nI_add, show (149 : Int32) = nI 149 from rfl, rd M' hs _ _ (by omega), h4.2.2.1]
        rfl
    · refine ⟨nI (aTr (E 0) p s), ?_, fun M' hs => ?_⟩
      · show f_Law_suitOf M (nI p) (nI s) (nI 4) = _
        unfold f_Law_suitOf
        rw [cl, if_neg (by decide), if_neg (by decide), if_neg (by decide), if_neg (by decide), if_pos (by decide)]; rfl
      · show f_Mo_suitOf M' (nI p) (nI s) (nI 4) = _
        rw [mo M' hs]
        unfold f_Mo_suitOf_b46
        rw [q_ref0, pB, if_pos rfl, if_neg (by decide), if_neg (by decide), if_neg (by decide), if_neg (by decide), if_pos (by decide), show (4 : Int32) = nI 4 from rfl, pk_mul, nI_add, show (165 : Int32) = nI 165 from rfl, rd M' hs _ _ (by omega), h4.2.2.2.1]
        rfl
    · refine ⟨nI (E 0 11 (4 * p + s)), ?_, fun M' hs => ?_⟩
      · show f_Law_suitOf M (nI p) (nI s) (nI 5) = _
        unfold f_Law_suitOf
        rw [cl, if_neg (by decide), if_neg (by decide), if_neg (by decide), if_neg (by decide), if_neg (by decide), pB]
        rcases (show E 0 11 (4 * p + s) = 0 ∨ E 0 11 (4 * p + s) = 1 by omega) with z | z <;> rw [z] <;> rfl
      · show f_Mo_suitOf M' (nI p) (nI s) (nI 5) = _
        rw [mo M' hs]
        unfold f_Mo_suitOf_b46
        rw [q_ref0, pB, if_pos rfl, if_neg (by decide), if_neg (by decide), if_neg (by decide), if_neg (by decide), if_neg (by decide), show (4 : Int32) = nI 4 from rfl, pk_mul, nI_add, show (181 : Int32) = nI 181 from rfl, rd M' hs _ _ (by omega), h4.2.2.2.2]
        rfl
end RO2
