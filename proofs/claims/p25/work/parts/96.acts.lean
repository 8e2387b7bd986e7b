-- ===== PURE: the calls that change =====
section AA
variable {M : gMem} {S : SS} {B k s w l c : Nat} {v v2 y z : Int32} {a : EVN}
theorem isBid_no (h : v < 1 ∨ nI 5 ≤ v ∨ v2 < 0 ∨ nI 5 ≤ v2) : f_DS_isBid v v2 = some 0 := by
  unfold f_DS_isBid
  have n5 : (nI 5).toInt = 5 := rfl
  have n4 : (4 : Int32).toInt = 4 := rfl
  by_cases q1 : v < 1
  · rw [if_pos q1]
  · rw [if_neg q1]
    by_cases q2 : 4 < v
    · rw [if_pos q2]
    · rw [if_neg q2]
      by_cases q3 : v2 < 0
      · rw [if_pos q3]
      · rw [if_neg q3, if_pos]
        rcases h with h | h | h | h
        · exact absurd h q1
        · rw [fa_le] at h
          rw [fa_lt] at q2
          omega
        · exact absurd h q3
        · rw [fa_le] at h
          rw [fa_lt]
          omega
theorem x_bid1 (h : v < 1 ∨ nI 5 ≤ v ∨ v2 < 0 ∨ nI 5 ≤ v2) : f_Law_call M 6 v v2 z = some (-9999002, M) := by
  rw [k_call6]
  unfold f_Law_tryBid f_DS_bid
  rw [isBid_no h, pB, if_pos rfl]
  rfl
theorem bid_cl (h : DI M S) (hV : DV B S) (hl : 1 ≤ l) (hl4 : l ≤ 4) (hs : s ≤ 4) : f_DS_bid M (nI l) (nI s) = if S.1 0 5 = 1 ∧ 5 * S.1 0 7 + S.1 0 8 < 5 * l + s then (f_Mem_remember 0 M).bind fun q3 => (f_Ev_makeBid 0 q3 (nI l) (nI s)).bind fun q4 => some (.inr ((q4 0 0 6), q4)) else some (.inl 2) := by
  have hv := hV.V.2.1
  have b1 := p_isBid (l := l) (s := s) (by omega) (by omega)
  rw [if_pos ⟨hl, hl4, hs⟩] at b1
  have e1 := p_mayBid (M := M) (e := 0) (a := S.1) (l := l) (s := s) (by omega) (by omega) (by have := hv.1; omega) hv.2.2.2.1 hv.2.2.2.2.1
  rw [aW_self h.now] at e1
  unfold f_DS_bid
  rw [b1, pB, if_neg (by decide), e1, pB]
  by_cases q : S.1 0 5 = 1 ∧ 5 * S.1 0 7 + S.1 0 8 < 5 * l + s
  · rw [if_pos q, if_pos (show S.1 0 5 = 1 ∧ (1 ≤ l ∧ l ≤ 4 ∧ s ≤ 4) ∧ 5 * S.1 0 7 + S.1 0 8 < 5 * l + s from ⟨q.1, ⟨hl, hl4, hs⟩, q.2⟩), if_neg (by decide)]
  · rw [if_neg q, if_neg (show ¬ (S.1 0 5 = 1 ∧ (1 ≤ l ∧ l ≤ 4 ∧ s ≤ 4) ∧ 5 * S.1 0 7 + S.1 0 8 < 5 * l + s) from fun t => q ⟨t.1, t.2.2⟩), if_pos (by decide)]
theorem x_bid2 (h : DI M S) (hV : DV B S) (hl : 1 ≤ l) (hl4 : l ≤ 4) (hs : s ≤ 4) (hq : ¬ (S.1 0 5 = 1 ∧ 5 * S.1 0 7 + S.1 0 8 < 5 * l + s)) : f_Law_call M 6 (nI l) (nI s) z = some (-9999003, M) := by
  rw [k_call6]
  unfold f_Law_tryBid
  rw [bid_cl h hV hl hl4 hs, if_neg hq]
  rfl
theorem c_bid (hV : DV B S) (hl : 1 ≤ l) (hl4 : l ≤ 4) (hs : s ≤ 4) (hq : S.1 0 5 = 1 ∧ 5 * S.1 0 7 + S.1 0 8 < 5 * l + s) : DO (fun M => f_Law_call M 6 (nI l) (nI s) z) S (nI ((S.1 0 6 + 1) % 4)) (sPush S (aBid S.1 l s)) := by
  intro M hM
  obtain ⟨Mc, e1, e2, e3, e4⟩ := d_push hM
  have ht := hV.V.2.1.2.1 (Or.inl hq.1)
  refine ⟨aW Mc 0 (aBid S.1 l s), ?_, e3 _ (aZ_bid hV.1.2.2.1), fun g hg => (aW_n Mc _ (by omega)).trans (e4 g hg)⟩
  show f_Law_call M 6 (nI l) (nI s) z = _
  rw [k_call6]
  unfold f_Law_tryBid
  rw [bid_cl hM hV hl hl4 hs, if_pos hq]
  have e := p_makeBid (M := Mc) (e := 0) (a := S.1) (l := l) (s := s) ht
  rw [aW_self e2] at e
  have e6 : aBid S.1 l s 0 6 = (S.1 0 6 + 1) % 4 := by unfold aBid; exact aS_s _ _ _ _
  rw [e1, pB, e, pB, aW_r, e6]
  rfl
theorem c_deal (hV : DV B S) (hB : B < 1000000) (x : Int64) : DO (fun M => f_DS_deal M x) S (nI (S.1 0 4 + 1)) (sPush S (aDeal S.1 x)) := by
  intro M hM
  obtain ⟨Mc, e1, e2, e3, e4⟩ := d_push hM
  refine ⟨aW Mc 0 (aDeal S.1 x), ?_, e3 _ (aZ_deal hV.1.2.2.1), fun g hg => (aW_n Mc _ (by omega)).trans (e4 g hg)⟩
  show f_DS_deal M x = _
  unfold f_DS_deal
  have e := p_dealWith (M := Mc) (e := 0) (a := S.1) x (by have := hV.1.2.2.2.1; omega)
  rw [aW_self e2] at e
  rw [e1, pB, e, pB, aW_r, aDeal_4]
theorem x_pass (h : DI M S) (hV : DV B S) (hp : S.1 0 5 ≠ 1) : f_Law_call M 7 v y z = some (-9999003, M) := by
  have h5 := hV.V.2.1.1
  rw [k_call7]
  unfold f_Law_tryPass f_DS_pass
  rw [show M 0 0 5 = nI (S.1 0 5) from by rw [h.now]; rfl, if_neg (show ¬ nI (S.1 0 5) = 1 from z_ne (y := 1) (by omega) (by omega) hp)]
  rfl
theorem c_pass (hV : DV B S) (hp : S.1 0 5 = 1) : DO (fun M => f_Law_call M 7 v y z) S (nI (aPass S.1 0 5)) (sPush S (aPass S.1)) := by
  intro M hM
  obtain ⟨Mc, e1, e2, e3, e4⟩ := d_push hM
  obtain ⟨v1, v2, v3, v4, v5, v6, v7, v8, v9, v10, v11⟩ := hV.V.2.1
  have ht := v2 (Or.inl hp)
  have h7 := v7 hp
  refine ⟨aW Mc 0 (aPass S.1), ?_, e3 _ (aZ_pass hV.1.2.2.1), fun g hg => (aW_n Mc _ (by omega)).trans (e4 g hg)⟩
  show f_Law_call M 7 v y z = _
  rw [k_call7]
  unfold f_Law_tryPass f_DS_pass
  have e := p_makePass (M := Mc) (e := 0) (a := S.1) ht (by omega) (by omega)
  rw [aW_self e2] at e
  rw [show M 0 0 5 = nI (S.1 0 5) from by rw [hM.now]; rfl, hp, if_pos (show nI 1 = 1 from rfl), e1, pB, e, pB, aW_r]
  rfl
theorem play_cl (hw : w < 32) : f_DS_play M (nI w) = gSq (f_DS_checkInPlay M) fun q2 => (f_Mem_remember 0 M).bind fun q3 => (f_Ev_reasonAgainst 0 q3 (nI w)).bind fun q4 => if q4 = 0 then (f_Ev_layDown 0 q3 (nI w)).bind fun q6 => f_DS_play_b58 q6 q4 else (gSO q3 0 0 13 ((q3 0 0 13) + 1)).bind fun M5 => f_DS_play_b58 M5 q4 := by
  unfold f_DS_play
  rw [show (32 : Int32) = nI 32 from rfl, k_place1 (by omega) hw]
  rfl
theorem x_play1 (h : v < 0 ∨ nI 32 ≤ v) : f_Law_call M 8 v y z = some (-9999001, M) := by
  rw [k_call8]
  unfold f_Law_tryPlay f_DS_play
  rw [show (32 : Int32) = nI 32 from rfl, k_place0 (by omega) h]
  rfl
theorem x_play2 (h : DI M S) (hV : DV B S) (hw : w < 32) (hp : S.1 0 5 ≠ 2) : f_Law_call M 8 (nI w) y z = some (-9999003, M) := by
  have h5 := hV.V.2.1.1
  rw [k_call8]
  unfold f_Law_tryPlay
  rw [play_cl hw]
  unfold f_DS_checkInPlay
  rw [show M 0 0 5 = nI (S.1 0 5) from by rw [h.now]; rfl, if_neg (show ¬ nI (S.1 0 5) = 2 from z_ne (y := 2) (by omega) (by omega) hp)]
  rfl
theorem c_play0 (hV : DV B S) (hw : w < 32) (hp : S.1 0 5 = 2) (hr : aRs S.1 w = 0) : DO (fun M => f_Law_call M 8 (nI w) y z) S 0 (sPush S (aLay S.1 w)) := by
  intro M hM
  obtain ⟨Mc, e1, e2, e3, e4⟩ := d_push hM
  have hP := hV.V.P hp
  have hO := hV.V.O
  have ht := hP.2.2.2.1
  refine ⟨aW Mc 0 (aLay S.1 w), ?_, e3 _ (aZ_lay hV.1.2.2.1 hV.V hp hw), fun g hg => (aW_n Mc _ (by omega)).trans (e4 g hg)⟩
  show f_Law_call M 8 (nI w) y z = _
  rw [k_call8]
  unfold f_Law_tryPlay
  rw [play_cl hw]
  unfold f_DS_checkInPlay
  rw [show M 0 0 5 = nI (S.1 0 5) from by rw [hM.now]; rfl, hp, if_pos (show nI 2 = 2 from rfl), e1]
  show ((f_Ev_reasonAgainst 0 Mc (nI w)).bind fun q4 => if q4 = 0 then (f_Ev_layDown 0 Mc (nI w)).bind fun q6 => f_DS_play_b58 q6 q4 else (gSO Mc 0 0 13 ((Mc 0 0 13) + 1)).bind fun M5 => f_DS_play_b58 M5 q4).bind _ = _
  have e := p_reason (M := Mc) (e := 0) hO.1 hO.2.1 hO.2.2 ht hw
  have e5 := p_layDown (M := Mc) (e := 0) hP hw
  rw [aW_self e2] at e e5
  rw [e, pB, hr, if_pos (show nI 0 = 0 from rfl), e5]
  rfl
theorem c_play1 (hV : DV B S) (hw : w < 32) (hp : S.1 0 5 = 2) (hr : aRs S.1 w ≠ 0) : DO (fun M => f_Law_call M 8 (nI w) y z) S (nI (aRs S.1 w)) (sPush S (aRf S.1)) := by
  intro M hM
  obtain ⟨Mc, e1, e2, e3, e4⟩ := d_push hM
  have hP := hV.V.P hp
  have hO := hV.V.O
  have ht := hP.2.2.2.1
  refine ⟨aW Mc 0 (aRf S.1), ?_, e3 _ (aZ_rf hV.1.2.2.1), fun g hg => (aW_n Mc _ (by omega)).trans (e4 g hg)⟩
  show f_Law_call M 8 (nI w) y z = _
  rw [k_call8]
  unfold f_Law_tryPlay
  rw [play_cl hw]
  unfold f_DS_checkInPlay
  rw [show M 0 0 5 = nI (S.1 0 5) from by rw [hM.now]; rfl, hp, if_pos (show nI 2 = 2 from rfl), e1]
  show ((f_Ev_reasonAgainst 0 Mc (nI w)).bind fun q4 => if q4 = 0 then (f_Ev_layDown 0 Mc (nI w)).bind fun q6 => f_DS_play_b58 q6 q4 else (gSO Mc 0 0 13 ((Mc 0 0 13) + 1)).bind fun M5 => f_DS_play_b58 M5 q4).bind _ = _
  have e := p_reason (M := Mc) (e := 0) hO.1 hO.2.1 hO.2.2 ht hw
  rw [aW_self e2] at e
  have hle := aRs_le S.1 w
  rw [e, pB, if_neg (show ¬ nI (aRs S.1 w) = 0 from z_ne (y := 0) (by omega) (by omega) hr)]
  have e5 : gSO Mc 0 0 13 (Mc 0 0 13 + 1) = some (aW Mc 0 (aRf S.1)) := by
    have g := p_SO Mc 0 S.1 0 13 (S.1 0 13 + 1)
    rw [aW_self e2] at g
    rw [← show Mc 0 0 13 + 1 = nI (S.1 0 13 + 1) from by rw [e2, ← nI_1]; rfl] at g
    exact g
  rw [e5]
  rfl
theorem x_undo (h : DI M S) (hc : S.2.1 = 0) : f_Law_call M 9 v y z = some (-9999003, M) := by
  obtain ⟨E, n, h1, -⟩ := h
  rw [k_call9]
  have e2 : f_Mem_count M = some (nI S.2.1) := by unfold f_Mem_count; rw [h1.2.2.1]
  unfold f_Law_tryUndo f_DS_undo
  rw [e2, pB, hc, if_pos (show nI 0 = 0 from rfl)]
  rfl
theorem c_undo (hc0 : S.2.1 ≠ 0) : DO (fun M => f_Law_call M 9 v y z) S (nI (S.2.1 - 1)) (sPop S) := by
  rintro M ⟨E, n, h1, hn, hc, h4, h5, h6, h7⟩
  obtain ⟨hp1, hp2⟩ := rg_p hn hc hc0
  have hpn : px n < 14 := by unfold px; omega
  have hc1 := h1.st (n' := px n) (c' := S.2.1) 1 (nI (px n)) (fun _ => rfl) (fun z => absurd z (by omega)) (fun z => absurd rfl z) (fun _ => rfl)
  have hc2 := hc1.st (n' := px n) (c' := S.2.1 - 1) 2 (nI (S.2.1 - 1)) (fun z => absurd z (by omega)) (fun _ => rfl) (fun _ => rfl) (fun z => absurd rfl z)
  have hc3 := hc2.ev (e := 0) (a := aCp (E 0) (E (2 + px n))) (by omega)
  have ecp : aCp (E 0) (E (2 + px n)) = S.2.2.1 0 := by
    rw [aZ_cp (h7 0 (by omega)) (h7 _ (by omega)), hp1]
    exact h5 0 (by omega)
  have nz : ¬ nI S.2.1 = 0 := show ¬ nI S.2.1 = nI 0 from z_ne (by omega) (by omega) hc0
  have e2 : f_Mem_count M = some (nI S.2.1) := by unfold f_Mem_count; rw [h1.2.2.1]
  refine ⟨aW (gSt (gSt M 18 1 1 (nI (px n))) 18 1 2 (nI (S.2.1 - 1))) 0 (aCp (E 0) (E (2 + px n))), ?_, ⟨fU E 0 (aCp (E 0) (E (2 + px n))), px n, hc3, hpn, ?_, ?_, fun j hj => ?_, fun s hs => ⟨(h6 s hs).1, fun hu => ?_⟩, fun e he => ?_⟩, fun g hg => ?_⟩
  · show f_Law_call M 9 v y z = _
    rw [k_call9]
    unfold f_Law_tryUndo f_DS_undo
    rw [e2, pB, if_neg nz]
    unfold f_Mem_takeBack gSO
    rw [pB, h1.2.1, show (14 : Int32) = nI 14 from rfl, nI_add, show (1 : Int32) = nI 1 from rfl, pk_sub (by omega), show n + 14 - 1 = n + 13 by omega, z_rem (by omega) (by omega) (by omega), show (n + 13) % 14 = px n from rfl, pB, hc1.2.2.1, pk_sub (by omega), hc2.2.1, if_neg (nI_pos (by omega)), z_ofn, if_neg (nI_ge hpn (by omega))]
    unfold gIn
    rw [pN (by omega), if_pos (by omega), pNc (by omega), pB, pB]
    have e1 := p_copyFrom (M := gSt (gSt M 18 1 1 (nI (px n))) 18 1 2 (nI (S.2.1 - 1))) (e := 0) (e0 := 2 + px n) (a := E 0) (by omega) (hc2.1 (2 + px n) (by omega))
    rw [aW_self (hc2.1 0 (by omega))] at e1
    rw [e1, pB]
    unfold f_Mem_takeBack_b70
    rw [hc3.2.2.1]
    rfl
  · show S.2.1 - 1 ≤ 14
    omega
  · rw [fU_s]; exact ecp
  · have hj' : j < S.2.1 - 1 := hj
    show fU E 0 _ (rg (px n) (S.2.1 - 1) (S.2.1 - 1 - 1 - j)) = S.2.2.1 (j + 1)
    have hr := rg_lt (px n) (S.2.1 - 1) (S.2.1 - 1 - 1 - j)
    rw [fU_n _ _ (by omega), hp2 _ (by omega), show S.2.1 - 1 - 1 - j = S.2.1 - 1 - (j + 1) by omega]
    exact h5 (j + 1) (by omega)
  · rw [fU_n _ _ (by omega)]
    exact (h6 s hs).2 hu
  · by_cases q : e = 0
    · rw [q, fU_s, aZ_cp (h7 0 (by omega)) (h7 _ (by omega))]
      exact h7 _ (by omega)
    · rw [fU_n _ _ q]; exact h7 e he
  · rw [aW_n _ _ (by omega)]
    funext c0
    unfold gSt
    rw [gUp_n _ _ (by omega), gUp_n _ _ (by omega)]
theorem x_keep (h : v < 0 ∨ nI 2 ≤ v) : f_Law_call M 13 v y z = some (-9999001, M) := by
  rw [k_call13]
  unfold f_Law_tryKeep f_DS_save
  rw [show (2 : Int32) = nI 2 from rfl, k_place0 (by omega) h]
  rfl
theorem c_keep (hs2 : s < 2) : DO (fun M => f_Law_call M 13 (nI s) y z) S (nI (S.1 0 4)) (sKeep S s) := by
  rintro M ⟨E, n, h1, hn, hc, h4, h5, h6, h7⟩
  obtain ⟨a, ha⟩ : ∃ a, a = aCp (E (16 + s)) (E 0) := ⟨_, rfl⟩
  have ea : a = S.1 := by rw [ha, aZ_cp (h7 _ (by omega)) (h7 0 (by omega)), h4]
  have hc1 := (h1.ev (e := 16 + s) (a := a) (by omega)).used (s := s) 1
  refine ⟨gUp (aW M (16 + s) a) 18 5 (upd (aW M (16 + s) a 18 5) s (nI 1)), ?_, ⟨fU E (16 + s) a, n, hc1, hn, hc, ?_, fun j hj => ?_, fun i hi => ⟨?_, fun hu => ?_⟩, fun e he => ?_⟩, fun g hg => ?_⟩
  · show f_Law_call M 13 (nI s) y z = _
    rw [k_call13]
    unfold f_Law_tryKeep f_DS_save f_Slots_store
    have e1 := p_copyFrom (M := M) (e := 16 + s) (e0 := 0) (a := E (16 + s)) (by omega) (h1.1 0 (by omega))
    rw [aW_self (h1.1 (16 + s) (by omega)), ← ha] at e1
    rw [show (2 : Int32) = nI 2 from rfl, k_place1 (by omega) hs2, if_neg (nI_pos (by omega)), z_ofn, if_neg (nI_ge hs2 (by omega)), if_neg (nI_ge hs2 (by omega))]
    unfold gIn gBl
    rw [pN (by omega), if_pos (by omega), pNc (by omega), pB, pB, e1, pB, if_pos (Or.inr rfl), pB, show (1 : Int32) = nI 1 from rfl, pWr _ _ _ _ hs2 (by omega), pB]
    have e0 : gUp (aW M (16 + s) a) 18 5 (upd (aW M (16 + s) a 18 5) s (nI 1)) 0 0 4 = nI (S.1 0 4) := by
      rw [gUp_n _ _ (by omega), aW_n2 _ _ _ (by omega), h1.1 0 (by omega), h4]
      rfl
    show ((some (gUp (aW M (16 + s) a) 18 5 (upd (aW M (16 + s) a 18 5) s (nI 1)))).bind fun q2 => some (Sum.inr ((q2 0 0 4), q2))).bind _ = _
    rw [pB, e0]
    rfl
  · rw [fU_n _ _ (by omega)]; exact h4
  · have hr := rg_lt n S.2.1 (S.2.1 - 1 - j)
    show fU E (16 + s) a (rg n S.2.1 (S.2.1 - 1 - j)) = S.2.2.1 j
    rw [fU_n _ _ (by omega)]
    exact h5 j hj
  · show fU S.2.2.2.1 s 1 i ≤ 1
    by_cases q : i = s
    · rw [q, fU_s]; omega
    · rw [fU_n _ _ q]; exact (h6 i hi).1
  · have hu' : fU S.2.2.2.1 s 1 i = 1 := hu
    show fU E (16 + s) a (16 + i) = fU S.2.2.2.2 s S.1 i
    by_cases q : i = s
    · rw [q, fU_s, fU_s, ea]
    · rw [fU_n _ _ q] at hu' ⊢
      rw [fU_n _ _ (by omega)]
      exact (h6 i hi).2 hu'
  · by_cases q : e = 16 + s
    · rw [q, fU_s, ea, ← h4]; exact h7 0 (by omega)
    · rw [fU_n _ _ q]; exact h7 e he
  · funext c0
    rw [gUp_n _ _ (by omega), aW_n2 _ _ _ (by omega)]
theorem x_back1 (h : v < 0 ∨ nI 2 ≤ v) : f_Law_call M 14 v y z = some (-9999001, M) := by
  rw [k_call14]
  unfold f_Law_tryBack f_DS_restore
  rw [show (2 : Int32) = nI 2 from rfl, k_place0 (by omega) h]
  rfl
theorem back_cl (hs2 : s < 2) : f_DS_restore M (nI s) = (f_Slots_isUsed M (nI s)).bind fun q2 => if q2 = 0 then some (.inl 2) else (f_Slots_fetch 0 M (nI s)).bind fun q3 => (f_Mem_forget q3).bind fun q4 => some (.inr ((q4 0 0 4), q4)) := by
  unfold f_DS_restore
  rw [show (2 : Int32) = nI 2 from rfl, k_place1 (by omega) hs2]
  rfl
theorem back_us (h : DI M S) (hs2 : s < 2) : f_Slots_isUsed M (nI s) = some (nI (S.2.2.2.1 s)) := by
  obtain ⟨E, n, h1, hn, hc, h4, h5, h6, h7⟩ := h
  unfold f_Slots_isUsed
  rw [if_neg (nI_pos (by omega)), z_ofn, if_neg (nI_ge hs2 (by omega)), pRd _ hs2 (by omega), pB, h1.2.2.2.1 s hs2]
  have := (h6 s hs2).1
  rcases (show S.2.2.2.1 s = 0 ∨ S.2.2.2.1 s = 1 by omega) with z | z <;> rw [z] <;> rfl
theorem x_back2 (h : DI M S) (hs2 : s < 2) (hu : S.2.2.2.1 s ≠ 1) : f_Law_call M 14 (nI s) y z = some (-9999003, M) := by
  have e := back_us h hs2
  obtain ⟨E, n, h1, hn, hc, h4, h5, h6, h7⟩ := h
  have := (h6 s hs2).1
  rw [k_call14]
  unfold f_Law_tryBack
  rw [back_cl hs2, e, pB, show S.2.2.2.1 s = 0 by omega, if_pos (show nI 0 = 0 from rfl)]
  rfl
theorem c_back (hs2 : s < 2) (hu : S.2.2.2.1 s = 1) : DO (fun M => f_Law_call M 14 (nI s) y z) S (nI (S.2.2.2.2 s 0 4)) (sBack S s) := by
  intro M hM
  have eu := back_us hM hs2
  obtain ⟨E, n, h1, hn, hc, h4, h5, h6, h7⟩ := hM
  obtain ⟨a, ha⟩ : ∃ a, a = aCp (E 0) (E (16 + s)) := ⟨_, rfl⟩
  have ea : a = S.2.2.2.2 s := by rw [ha, aZ_cp (h7 0 (by omega)) (h7 _ (by omega)), (h6 s hs2).2 hu]
  have hc1 := (h1.ev (e := 0) (a := a) (by omega)).st (n' := n) (c' := 0) 2 (nI 0) (fun z => absurd z (by omega)) (fun _ => rfl) (fun _ => rfl) (fun z => absurd rfl z)
  refine ⟨gSt (aW M 0 a) 18 1 2 (nI 0), ?_, ⟨fU E 0 a, n, hc1, hn, Nat.zero_le _, ?_, fun j hj => absurd (show j < 0 from hj) (by omega), fun i hi => ⟨(h6 i hi).1, fun hu => ?_⟩, fun e he => ?_⟩, fun g hg => ?_⟩
  · show f_Law_call M 14 (nI s) y z = _
    rw [k_call14]
    unfold f_Law_tryBack
    rw [back_cl hs2, eu, pB, hu, if_neg (show ¬ nI 1 = 0 by decide)]
    unfold f_Slots_fetch f_Mem_forget gSO
    have e1 := p_copyFrom (M := M) (e := 0) (e0 := 16 + s) (a := E 0) (by omega) (h1.1 (16 + s) (by omega))
    rw [aW_self (h1.1 0 (by omega)), ← ha] at e1
    rw [if_neg (nI_pos (by omega)), z_ofn, if_neg (nI_ge hs2 (by omega))]
    unfold gIn
    rw [pN (by omega), if_pos (by omega), pNc (by omega), pB, pB, e1, pB, pB, pB, pB]
    have e0 : gSt (aW M 0 a) 18 1 2 0 0 0 4 = nI (S.2.2.2.2 s 0 4) := by
      unfold gSt
      rw [gUp_n _ _ (by omega), aW_r, ea]
    rw [e0]
    rfl
  · rw [fU_s]; exact ea
  · show fU E 0 a (16 + i) = S.2.2.2.2 i
    rw [fU_n _ _ (by omega)]
    exact (h6 i hi).2 hu
  · by_cases q : e = 0
    · rw [q, fU_s, ea, ← (h6 s hs2).2 hu]; exact h7 _ (by omega)
    · rw [fU_n _ _ q]; exact h7 e he
  · funext c0
    unfold gSt
    rw [gUp_n _ _ (by omega), aW_n2 _ _ _ (by omega)]
end AA
