-- ===== PURE: bids, undo, the slots, the text's signs =====
section ACT2
variable {M M' W : gMem} {E : Nat → Nat → Nat → Nat} {n c k n' c' : Nat} {u : Nat → Nat} {l : Nat} {t r d q r' d' : Nat → Nat} {a : Nat → Nat → Nat} {e : Nat}
theorem q_inl (v : Int32) {m n : Nat} (hm : m < 2 ^ 31) (h : n < 2 ^ 31) : f_Mo_in (Int32.toInt64 v) (lN m) (lN n) = some (if ¬ v < nI m ∧ v ≤ nI n then 1 else 0) := by
  unfold f_Mo_in
  have em : lN m = Int32.toInt64 (nI m) := (nI_l hm).symm
  have en : lN n = Int32.toInt64 (nI n) := (nI_l h).symm
  by_cases z : v < nI m
  · rw [if_pos ((lg_cmp_lt _ _).mpr (by rw [em, fa_wide_lt]; exact z)), if_neg (fun q => q.1 z)]
  · rw [if_neg (fun q => z (by rw [lg_cmp_lt, em, fa_wide_lt] at q; exact q))]
    by_cases z2 : v ≤ nI n
    · rw [if_neg (fun q => by rw [lg_cmp_gt, en, fa_wide_lt, fa_lt] at q; rw [fa_le] at z2; omega), if_pos ⟨z, z2⟩]
    · rw [if_pos ((lg_cmp_gt _ _).mpr (by rw [en, fa_wide_lt, fa_lt]; rw [fa_le] at z2; omega)), if_neg (fun q => z2 q.2)]
theorem isBid_both (v v2 : Int32) : (f_DS_isBid v v2 = some 0 ∧ f_Mo_isBid v v2 = some 0) ∨ ∃ l s, 1 ≤ l ∧ l ≤ 4 ∧ s ≤ 4 ∧ v = nI l ∧ v2 = nI s ∧ f_DS_isBid v v2 = some 1 ∧ f_Mo_isBid v v2 = some 1 := by
  unfold f_DS_isBid f_Mo_isBid
  rw [show (1 : Int64) = lN 1 from rfl, show (4 : Int64) = lN 4 from rfl, q_inl v (by omega) (by omega), pB, q_in v2 (by omega), pB, show (4 : Int32) = nI 4 from rfl]
  have h1 : (1 : Int32).toInt = 1 := rfl
  have h0 : (0 : Int32).toInt = 0 := rfl
  have n1 : (nI 1).toInt = 1 := rfl
  have n4 : (nI 4).toInt = 4 := rfl
  by_cases P : ¬ v < nI 1 ∧ v ≤ nI 4
  · have p1 : ¬ v < 1 := P.1
    have p2 : ¬ nI 4 < v := by have := P.2; rw [fa_le] at this; rw [fa_lt]; omega
    by_cases Q : ¬ v2 < 0 ∧ v2 ≤ nI 4
    · have q2 : ¬ nI 4 < v2 := by have := Q.2; rw [fa_le] at this; rw [fa_lt]; omega
      right
      rw [if_pos P, if_pos Q, if_neg p1, if_neg p2, if_neg Q.1, if_neg q2, if_neg (show ¬ (1 : Int32) = 0 by decide), if_neg (show ¬ (1 : Int32) = 0 by decide)]
      have g1 := P.1
      have g2 := P.2
      have g3 := Q.1
      have g4 := Q.2
      rw [fa_lt] at g1 g3
      rw [fa_le] at g2 g4
      exact ⟨v.toInt.toNat, v2.toInt.toNat, by omega, by omega, by omega, by rw [fa_eq, pN (by omega)]; omega, by rw [fa_eq, pN (by omega)]; omega, rfl, rfl⟩
    · left
      rw [if_pos P, if_neg Q, if_neg p1, if_neg p2, if_neg (show ¬ (1 : Int32) = 0 by decide), if_pos rfl]
      refine ⟨?_, rfl⟩
      by_cases y : v2 < 0
      · rw [if_pos y]
      · rw [if_neg y, if_pos (by rw [fa_lt]; have : ¬ v2 ≤ nI 4 := fun z => Q ⟨y, z⟩; rw [fa_le] at this; omega)]
  · left
    rw [if_neg P, if_pos rfl]
    refine ⟨?_, rfl⟩
    by_cases y : v < 1
    · rw [if_pos y]
    · rw [if_neg y, if_pos (by rw [fa_lt]; have : ¬ v ≤ nI 4 := fun z => P ⟨y, z⟩; rw [fa_le] at this; omega)]
theorem aBid_4 (a : Nat → Nat → Nat) (l s : Nat) : aBid a l s 0 4 = a 0 4 := by
  unfold aBid
  simp (disch := omega) only [aS_k]
theorem bid_call (hk : k ≤ 600) (hI : Inv k M) (v v2 : Int32) : CALL k M (fun M => f_Law_bid M v v2) (fun M => f_Mo_bid M v v2) := by
  have hI0 := hI
  obtain ⟨E, n, c, u, l, t, r, d, q, hC, hM, hV⟩ := hI
  have h0 := hV.2.2.2.2.2.2.1
  have hw0 := aW_self (hC.1 0 (by omega))
  obtain ⟨v1, w2, v3, v4, v5, v6, v7, v8, v9, v10, v11⟩ := h0.1.2.1
  rcases isBid_both v v2 with ⟨b1, b2⟩ | ⟨x, s, hx, hx4, hs, rfl, rfl, b1, b2⟩
  · refine throw_call (cd := 1) hI0 (by decide) ?_ ?_
    · show f_Law_bid M v v2 = _
      unfold f_Law_bid f_DS_bid
      rw [b1, pB, if_pos rfl]
      rfl
    · show f_Mo_bid M v v2 = _
      unfold f_Mo_bid
      rw [b2, pB, if_pos rfl]
      unfold f_Mo_bid_b30
      rw [q_ref1 _ (by decide), pB, if_neg (show ¬ (1 : Int32) = 0 by decide)]
  · have e1 := p_mayBid (M := M) (e := 0) (a := E 0) (l := x) (s := s) (by omega) (by omega) (by omega) v4 v5
    rw [hw0] at e1
    have e2 : ∀ W : gMem, W 19 = M 19 → f_Mo_canBid 19 2 197 W (nI x) (nI s) = some (nI (if E 0 0 5 = 1 ∧ 5 * E 0 0 7 + E 0 0 8 < 5 * x + s then 1 else 0)) := fun W hW => by
      have g := q_canBid (M := W) (k := 2) (l := x) (s := s) hM.2.2.2.1 hx (by omega) (by omega) (by omega) v4 v5
      rwa [rW_self (hM.c19 hW).1] at g
    by_cases z : E 0 0 5 = 1 ∧ 5 * E 0 0 7 + E 0 0 8 < 5 * x + s
    · rw [if_pos ⟨z.1, ⟨hx, hx4, hs⟩, z.2⟩] at e1
      have e2 : ∀ W : gMem, W 19 = M 19 → f_Mo_canBid 19 2 197 W (nI x) (nI s) = some (nI 1) := fun W hW => by rw [e2 W hW, if_pos z]
      have ht := w2 (Or.inl z.1)
      obtain ⟨Mc, c1, c2, c3, c4, c5, c6⟩ := act_core (a := aBid (E 0) x s) (b := nI ((E 0 0 6 + 1) % 4)) (op := fun W => f_Mo_bidOn 19 2 197 W (nI x) (nI s)) hC hM hV ⟨aV_bid h0.1 z.1 hx hx4 hs, by rw [aBid_4]; have := h0.2; omega⟩ (fun W r hW hR => by
        obtain ⟨r', g1, g2⟩ := q_bidOn (M := W) (k := 2) (l := x) (s := s) hR z.1 ht hs
        rw [rW_self hW] at g1
        exact ⟨W, r', g1, g2, fun _ _ _ => rfl⟩)
      refine mu_call (b := nI ((E 0 0 6 + 1) % 4)) (Mc := aW Mc 0 (aBid (E 0) x s)) ?_ c3 (c4 19 (by omega)) c5 (fun W hW => ?_)
      · show f_Law_bid M (nI x) (nI s) = _
        unfold f_Law_bid f_DS_bid
        have e := p_makeBid (M := Mc) (e := 0) (a := E 0) (l := x) (s := s) ht
        rw [aW_self c2] at e
        have e6 : aBid (E 0) x s 0 6 = (E 0 0 6 + 1) % 4 := by unfold aBid; exact aS_s _ _ _ _
        rw [b1, pB, if_neg (by decide), e1, pB, if_neg (by decide), c1, pB, e, pB, aW_r, e6]
        rfl
      · obtain ⟨W3, W4, r', d', w1, w2, w3, w4, w5⟩ := c6 W hW
        try dsimp only at w2
        refine ⟨W4, r', d', q, ?_, w3, w4, w5⟩
        show f_Mo_bid W (nI x) (nI s) = _
        unfold f_Mo_bid
        rw [b2, pB, if_neg (by decide), e2 W hW, pB, if_neg (by decide)]
        unfold f_Mo_bid_b30
        rw [q_ref0, pB, if_pos rfl, w1, pB, w2, pB]
    · rw [if_neg (fun y => z ⟨y.1, y.2.2⟩)] at e1
      have e2 : ∀ W : gMem, W 19 = M 19 → f_Mo_canBid 19 2 197 W (nI x) (nI s) = some (nI 0) := fun W hW => by rw [e2 W hW, if_neg z]
      refine throw_call (cd := 2) hI0 (by decide) ?_ ?_
      · show f_Law_bid M (nI x) (nI s) = _
        unfold f_Law_bid f_DS_bid
        rw [b1, pB, if_neg (by decide), e1, pB, if_pos (by decide)]
        rfl
      · show f_Mo_bid M (nI x) (nI s) = _
        unfold f_Mo_bid
        rw [b2, pB, if_neg (by decide), e2 M rfl, pB, if_pos (by decide)]
        unfold f_Mo_bid_b30
        rw [q_ref1 _ (by decide), pB, if_neg (show ¬ (1 : Int32) = 0 by decide)]
theorem s_c9 {Ls : Nat} {xs : Nat → Int32} (hL : Ls ≤ 2560) (hk : 5 * k + 5 ≤ Ls) (hI : Inv k M) : ∃ M', f_law_c9 Ls xs M (nI (5 * k)) = some M' ∧ Inv (k + 1) M' := by
  obtain ⟨cd, M1, b, M2, h1, h2, h3, h4, h5⟩ := bid_call (by omega) hI (xs (5 * k + 1)) (xs (5 * k + 2))
  dsimp only at h1 h2
  refine ⟨M2, ?_, h5⟩
  unfold f_law_c9
  rw [sc_1 hL hk, pB, sc_2 hL hk, pB, h1, pB, pB, pB, h2, pB]
  exact c_tail (q := (b, M2)) h3 h4
-- undo
def px (n : Nat) : Nat := (n + 13) % 14
theorem rg_p (hn : n < 14) (hc : c ≤ 14) (h0 : c ≠ 0) : 2 + px n = rg n c (c - 1) ∧ ∀ i, i < c - 1 → rg (px n) (c - 1) i = rg n c i := by
  have hpx : px n = n - 1 ∧ 1 ≤ n ∨ px n = 13 ∧ n = 0 := by
    unfold px
    omega
  unfold rg
  refine ⟨?_, fun i hi => ?_⟩
  · rcases hpx with ⟨h1, h2⟩ | ⟨h1, h2⟩ <;> omega
  · rcases hpx with ⟨h1, h2⟩ | ⟨h1, h2⟩ <;> omega
theorem undo_call (hI : Inv k M) : CALL k M f_Law_undo f_Mo_undo := by
  have hI0 := hI
  obtain ⟨E, n, c, u, l, t, r, d, q, hC, hM, hV⟩ := hI
  have hV0 := hV
  obtain ⟨hn, hc, hl, ht, hu, hJ, h0, hr, hs⟩ := hV
  have e2 : f_Mem_count M = some (nI c) := by unfold f_Mem_count; rw [hC.2.2.1]
  have e11 : ∀ W : gMem, W 19 = M 19 → W 19 0 11 = nI c := fun W hW => (hM.c19 hW).2.2.2.2.2.2.1
  by_cases z : c = 0
  · refine throw_call (cd := 1) hI0 (by decide) ?_ ?_
    · unfold f_Law_undo f_DS_undo
      rw [e2, pB, z, if_pos (show nI 0 = 0 from rfl)]
      rfl
    · unfold f_Mo_undo
      rw [e11 M rfl, z, if_pos (show nI 0 = 0 from rfl)]
      unfold f_Mo_undo_b13
      rw [q_ref1 _ (by decide), pB, if_neg (show ¬ (1 : Int32) = 0 by decide)]
  · have nz : ¬ nI c = 0 := show ¬ nI c = nI 0 from z_ne (by omega) (by omega) z
    obtain ⟨hp1, hp2⟩ := rg_p hn hc z
    have hpn : px n < 14 := by unfold px; omega
    have hc1 := hC.st (n' := px n) (c' := c) 1 (nI (px n)) (fun _ => rfl) (fun z => absurd z (by omega)) (fun z => absurd rfl z) (fun _ => rfl)
    have hc2 := hc1.st (n' := px n) (c' := c - 1) 2 (nI (c - 1)) (fun z => absurd z (by omega)) (fun _ => rfl) (fun _ => rfl) (fun z => absurd rfl z)
    have hc3 := hc2.ev (e := 0) (a := aCp (E 0) (E (2 + px n))) (by omega)
    have hlast := hr (c - 1) (by omega)
    rw [← hp1] at hlast
    have hG : aG (k + 1) (aCp (E 0) (E (2 + px n))) := ⟨aV_cp (hJ 0 (by omega)) hlast.1, by rw [aCp_4]; have := hlast.2; omega⟩
    have hV2 : IV k E (px n) (c - 1) u l t := ⟨hpn, by omega, hl, ht, hu, hJ, h0, fun i hi => by rw [hp2 i hi]; exact hr i (by omega), hs⟩
    refine mu_call (b := nI (c - 1)) (Mc := aW (gSt (gSt M 18 1 1 (nI (px n))) 18 1 2 (nI (c - 1))) 0 (aCp (E 0) (E (2 + px n)))) ?_ hc3 ?_ (hV2.now hG) (fun W hW => ?_)
    · unfold f_Law_undo f_DS_undo
      rw [e2, pB, if_neg nz]
      unfold f_Mem_takeBack gSO
      rw [pB, hC.2.1, show (14 : Int32) = nI 14 from rfl, nI_add, show (1 : Int32) = nI 1 from rfl, pk_sub (by omega), show n + 14 - 1 = n + 13 by omega, z_rem (by omega) (by omega) (by omega), show (n + 13) % 14 = px n from rfl, pB, hc1.2.2.1, pk_sub (by omega), hc2.2.1, if_neg (nI_pos (by omega)), z_ofn, if_neg (nI_ge hpn (by omega))]
      unfold gIn
      rw [pN (by omega), if_pos (by omega), pNc (by omega), pB, pB]
      have e1 := p_copyFrom (M := gSt (gSt M 18 1 1 (nI (px n))) 18 1 2 (nI (c - 1))) (e := 0) (e0 := 2 + px n) (a := E 0) (by omega) (hc2.1 (2 + px n) (by omega))
      rw [aW_self (hc2.1 0 (by omega))] at e1
      rw [e1, pB]
      unfold f_Mem_takeBack_b70
      rw [hc3.2.2.1]
      rfl
    · rw [aW_n _ _ (by omega)]
      funext c0
      unfold gSt
      rw [gUp_n _ _ (by omega), gUp_n _ _ (by omega)]
    · have m := (hM.c19 hW).same (IS_st W (k := 0) 0 (by omega))
      have m11 : gSt W 19 0 0 0 19 0 11 = nI c := m.2.2.2.2.2.2.1
      obtain ⟨W1, hW1⟩ : ∃ W1, W1 = gSt (gSt W 19 0 0 0) 19 0 11 (nI (c - 1)) := ⟨_, rfl⟩
      have o9 : ∀ c0, c0 ≠ 0 → W1 19 c0 = gSt W 19 0 0 0 19 c0 := fun c0 h => by rw [hW1]; exact st_n _ _ _ (by omega)
      have o0 : ∀ i, i ≠ 11 → W1 19 0 i = gSt W 19 0 0 0 19 0 i := fun i h => by
        rw [hW1]
        unfold gSt
        rw [gUp_s, pk_un h]
      have o11 : W1 19 0 11 = nI (c - 1) := by
        rw [hW1]
        unfold gSt
        rw [gUp_s, pk_us]
      have mm : IM W1 E (px n) (c - 1) u l t r d q := ⟨(o9 2 (by omega)).trans m.1, (o9 9 (by omega)).trans m.2.1, (o9 10 (by omega)).trans m.2.2.1, m.2.2.2.1, fun i hi => by rw [hp2 i hi]; exact m.2.2.2.2.1 i (by omega), m.2.2.2.2.2.1, o11, fun s h2 => (congrFun (o9 11 (by omega)) s).trans (m.2.2.2.2.2.2.2.1 s h2), (o0 2 (by omega)).trans m.2.2.2.2.2.2.2.2.1, fun j hj => (congrFun (o9 1 (by omega)) j).trans (m.2.2.2.2.2.2.2.2.2 j hj)⟩
      have e1 := q_copy (M := W1) (c0 := 9) (n0 := 2758) (c1 := 2) (n1 := 197) (i := 197 * (c - 1)) (j := 0) (f := d) (r := r) (by omega) mm.2.1 (by omega) (by omega) (by omega) (by omega)
      rw [rW_self mm.1] at e1
      have hR : RM (aCp (E 0) (E (2 + px n))) (rCp d r (197 * (c - 1)) 0 197) := by
        have hD := m.2.2.2.2.1 (c - 1) (by omega)
        rw [← hp1] at hD
        refine RM_cong (by rw [(aCp_eq _ _).2.1]; exact hlast.1.O.2.1) (fun j hj => ?_) (RM_cp _ hlast.1 hD)
        unfold rCp
        rw [if_pos (by omega)]
        rfl
      refine ⟨rW W1 2 (rCp d r (197 * (c - 1)) 0 197), _, _, _, ?_, ?_, fun g hg => ?_, mm.now hR⟩
      · unfold f_Mo_undo
        rw [e11 W hW, if_neg nz]
        unfold f_Mo_undo_b13
        rw [q_ref0, pB, if_pos rfl]
        unfold gSO
        rw [pB]
        dsimp only
        rw [m11, show (1 : Int32) = nI 1 from rfl, pk_sub (by omega), ← hW1, o11, show (197 : Int32) = nI 197 from rfl, pk_mul, show (0 : Int32) = nI 0 from rfl, e1, pB]
        have : rW W1 2 (rCp d r (197 * (c - 1)) 0 197) 19 0 11 = nI (c - 1) := by
          unfold rW
          rw [gUp_n _ _ (by omega), o11]
        rw [this]
      · unfold rW
        rw [gUp_n _ _ (by omega), o0 0 (by omega), st_00]
      · funext c0
        unfold rW
        rw [gUp_n _ _ (by omega), hW1]
        unfold gSt
        rw [gUp_n _ _ (by omega), gUp_n _ _ (by omega)]
theorem s_c12 {Ls : Nat} {xs : Nat → Int32} (x : Int32) (hI : Inv k M) : ∃ M', f_law_c12 Ls xs M x = some M' ∧ Inv (k + 1) M' := by
  obtain ⟨cd, M1, b, M2, h1, h2, h3, h4, h5⟩ := undo_call hI
  refine ⟨M2, ?_, h5⟩
  unfold f_law_c12
  rw [h1, pB, h2, pB]
  exact c_tail (q := (b, M2)) h3 h4
end ACT2
