-- ===== PURE: the text is read by both =====
def tA (t : Nat → Nat) (l : Nat) : Nat → Nat → (Nat → Nat → Nat) × Nat → (Nat → Nat → Nat) × Nat
  | 0, _, s => s
  | f + 1, i, s => if l ≤ i then s else tA t l f (i + 1 + dgs (t i)) (cA t i s.1, s.2 + cF t i s.1)
section LD
variable {M W0 W W1 : gMem} {i o l : Nat} {r r' t : Nat → Nat} {a : Nat → Nat → Nat}
theorem dgs_0 (h : dgs (t i) = 0) : t i = 97 ∨ t i = 112 := by
  unfold dgs at h
  by_cases z : t i = 98 ∨ t i = 99 ∨ t i = 100
  · rw [if_pos z] at h; omega
  · rw [if_neg z] at h
    by_cases z2 : t i = 97 ∨ t i = 112
    · exact z2
    · rw [if_neg z2] at h; omega
theorem dgs_2 (h : dgs (t i) = 2) : t i = 98 ∨ t i = 99 ∨ t i = 100 := by
  unfold dgs at h
  by_cases z : t i = 98 ∨ t i = 99 ∨ t i = 100
  · exact z
  · rw [if_neg z] at h
    split at h <;> omega
/-- what the digits say -/
theorem dig_98 (h : t i = 98) (h1 : dOk (t i) true 0 (t (i + 1)) = true) (h2 : dOk (t i) false (t (i + 1)) (t (i + 2)) = true) : (49 ≤ t (i + 1) ∧ t (i + 1) ≤ 52) ∧ 48 ≤ t (i + 2) ∧ t (i + 2) ≤ 52 := by
  unfold dOk at h1 h2
  rw [if_pos h, decide_eq_true_iff, if_pos rfl] at h1
  rw [if_pos h, decide_eq_true_iff, if_neg (by decide)] at h2
  exact ⟨h1, h2⟩
theorem dig_99 (h : t i = 99) (h1 : dOk (t i) true 0 (t (i + 1)) = true) (h2 : dOk (t i) false (t (i + 1)) (t (i + 2)) = true) : (48 ≤ t (i + 1) ∧ t (i + 1) ≤ 51) ∧ 48 ≤ t (i + 2) ∧ t (i + 2) ≤ 57 ∧ (t (i + 1) = 51 → t (i + 2) ≤ 49) := by
  unfold dOk at h1 h2
  rw [if_neg (by omega), if_pos h, decide_eq_true_iff, if_pos rfl] at h1
  rw [if_neg (by omega), if_pos h, decide_eq_true_iff, if_neg (by decide)] at h2
  refine ⟨h1, h2.1, ?_, fun z => ?_⟩
  · have := h2.2
    split at this <;> omega
  · have := h2.2
    rw [if_pos z] at this
    exact this
theorem dig_100 (h : t i = 100) (h1 : dOk (t i) true 0 (t (i + 1)) = true) (h2 : dOk (t i) false (t (i + 1)) (t (i + 2)) = true) : (48 ≤ t (i + 1) ∧ t (i + 1) ≤ 57) ∧ 48 ≤ t (i + 2) ∧ t (i + 2) ≤ 57 := by
  unfold dOk at h1 h2
  rw [if_neg (by omega), if_neg (by omega), if_pos h, decide_eq_true_iff] at h1 h2
  exact ⟨h1, h2⟩
theorem cA_v (hce : cE t l i = 1000) (hi : i < l) (hl : l ≤ 120) (hV : aV a) (h3 : 3 * a 0 4 ≤ i) : aV (cA t i a) ∧ 3 * cA t i a 0 4 ≤ i + 1 + dgs (t i) ∧ cF t i a ≤ 1 := by
  rcases cE_ok hce hi hl with hd | ⟨hd, h2l, d1, d2⟩
  · rcases dgs_0 hd with z | z
    · rw [(cA_97 z).1, (cA_97 z).2, (aV_A1 hV).2]
      exact ⟨(aV_A1 hV).1, by omega, by omega⟩
    · rw [(cA_112 z).1, (cA_112 z).2]
      by_cases y : a 0 5 = 1
      · rw [if_pos y, if_pos y, aPass_4]
        exact ⟨aV_pass hV y, by omega, by omega⟩
      · rw [if_neg y, if_neg y]
        exact ⟨hV, by omega, by omega⟩
  · rw [hd]
    rcases dgs_2 hd with z | z | z
    · have hg := dig_98 z d1 d2
      rw [(cA_98 z).1, (cA_98 z).2]
      by_cases y : a 0 5 = 1 ∧ 5 * a 0 7 + a 0 8 < 5 * cHi t i + cLo t i
      · rw [if_pos y, if_pos y, aBid_4]
        exact ⟨aV_bid hV y.1 (by unfold cHi; omega) (by unfold cHi; omega) (by unfold cLo; omega), by omega, by omega⟩
      · rw [if_neg y, if_neg y]
        exact ⟨hV, by omega, by omega⟩
    · have hg := dig_99 z d1 d2
      rw [(cA_99 z).1, (cA_99 z).2]
      have hc : cTwo t i < 32 := by unfold cTwo cHi cLo; omega
      by_cases y : a 0 5 = 2 ∧ aRs a (cTwo t i) = 0
      · rw [if_pos y, if_pos y, (aLay_0 hV y.1 hc).2.2.2.2.2.1]
        exact ⟨aV_lay hV y.1 hc y.2, by omega, by omega⟩
      · rw [if_neg y, if_neg y]
        exact ⟨hV, by omega, by omega⟩
    · rw [(cA_100 z).1, (cA_100 z).2, aDeal_4]
      exact ⟨aV_deal hV, by omega, by omega⟩
theorem tA_v (hl : l ≤ 120) : ∀ f i a o, i ≤ l → tE t l f i = 1000 → l ≤ i + f → aV a → 3 * a 0 4 ≤ i → aV (tA t l f i (a, o)).1 ∧ 3 * (tA t l f i (a, o)).1 0 4 ≤ l := by
  intro f
  induction f with
  | zero =>
    intro i a o h1 h2 h3 h4 h5
    exact ⟨h4, by show 3 * a 0 4 ≤ l; omega⟩
  | succ f ih =>
    intro i a o h1 h2 h3 h4 h5
    unfold tE at h2
    unfold tA
    by_cases z : l ≤ i
    · rw [if_pos z]
      exact ⟨h4, by show 3 * a 0 4 ≤ l; omega⟩
    · rw [if_neg z] at h2 ⊢
      by_cases y : cE t l i = 1000
      · rw [if_pos y] at h2
        obtain ⟨k1, k2, -⟩ := cA_v y (by omega) hl h4 h5
        have hb : i + 1 + dgs (t i) ≤ l := by
          rcases cE_ok y (by omega) hl with hd | ⟨hd, h2l, -⟩ <;> omega
        exact ih _ _ _ hb h2 (by omega) k1 k2
      · rw [if_neg y] at h2
        exact absurd h2 y
theorem q_read (ht : tx1 W0 l t) : ∀ f i a o r W, i ≤ l → l ≤ i + f → WT W0 W i o r → RM a r → aV a → 3 * a 0 4 ≤ i → (tE t l f i = 1000 → ∃ W' r', f_Mo_readText_l39 19 3 197 W = some (-1, W') ∧ WT W0 W' l (tA t l f i (a, o)).2 r' ∧ RM (tA t l f i (a, o)).1 r') ∧ (tE t l f i ≠ 1000 → ∃ W' o' r', f_Mo_readText_l39 19 3 197 W = some (nI (tE t l f i), W') ∧ WT W0 W' (tE t l f i) o' r') := by
  have hl := ht.2.2.1
  have stop : ∀ i o r W, l ≤ i → i ≤ l → WT W0 W i o r → f_Mo_readText_l39 19 3 197 W = some (-1, W) := by
    intro i o r W h1 h2 hT
    refine pLx ?_
    show f_Mo_readText_s39 19 3 197 W = _
    unfold f_Mo_readText_s39
    rw [(hT.tx ht).1, hT.2.1, if_pos (nI_le h1 (by omega))]
  intro f
  induction f with
  | zero =>
    intro i a o r W h1 h2 hT hR hV h3
    refine ⟨fun _ => ⟨W, r, stop i o r W (by omega) h1 hT, ?_, hR⟩, fun q => absurd rfl q⟩
    rw [show l = i by omega]
    exact hT
  | succ f ih =>
    intro i a o r W h1 h2 hT hR hV h3
    unfold tE tA
    by_cases z : l ≤ i
    · rw [if_pos z, if_pos z]
      refine ⟨fun _ => ⟨W, r, stop i o r W z h1 hT, ?_, hR⟩, fun q => absurd rfl q⟩
      rw [show l = i by omega]
      exact hT
    · rw [if_neg z, if_neg z]
      obtain ⟨c1, c2⟩ := q_cmd hT ht (by omega) hR hV (by omega)
      have st : f_Mo_readText_s39 19 3 197 W = (f_Mo_readCommand 19 3 197 W).bind fun q6 => if q6.1 = 0 then some (.inr ((q6.2 19 0 14), q6.2)) else some (.inl q6.2) := by
        unfold f_Mo_readText_s39
        rw [(hT.tx ht).1, hT.2.1, if_neg (nI_ge (by omega) (by omega))]
      by_cases y : cE t l i = 1000
      · rw [if_pos y]
        obtain ⟨W', r', k1, k2, k3⟩ := c1 y
        obtain ⟨v1, v2, -⟩ := cA_v y (by omega) hl hV h3
        have hb : i + 1 + dgs (t i) ≤ l := by
          rcases cE_ok y (by omega) hl with hd | ⟨hd, h2l, -⟩ <;> omega
        have := ih (i + 1 + dgs (t i)) (cA t i a) (o + cF t i a) r' W' hb (by omega) k2 k3 v1 v2
        rw [k1, pB, if_neg (show ¬ (1 : Int32) = 0 by decide)] at st
        rw [show f_Mo_readText_l39 19 3 197 W = f_Mo_readText_l39 19 3 197 W' from pLp (step := fun s => f_Mo_readText_s39 19 3 197 s) (s := W) st]
        exact this
      · rw [if_neg y]
        obtain ⟨W', k1, k2⟩ := c2 y
        refine ⟨fun q => absurd q y, fun _ => ⟨W', o, r, ?_, k2⟩⟩
        rw [k1, pB, if_pos rfl] at st
        dsimp only at st
        rw [k2.2.1] at st
        exact pLx (step := fun s => f_Mo_readText_s39 19 3 197 s) (s := W) st
/-- the whole text, the model -/
theorem q_readText (ht : tx1 W l t) (hb : aB a) (h8 : ∀ k, a 8 k ≤ 32) : ∃ W', f_Mo_readText 19 3 197 W = some ((if tW t l = 1000 then -1 else nI (tW t l)), W') ∧ (∀ g c, ¬ (g = 19 ∧ (c = 0 ∨ c = 3 ∨ c = 8)) → W' g c = W g c) ∧ (∀ j, j ≠ 14 → j ≠ 15 → W' 19 0 j = W 19 0 j) ∧ (tW t l = 1000 → ∃ r', W' 19 3 = (fun j => nI (r' j)) ∧ W' 19 0 15 = nI (tA t l l 1 (aCl a, 0)).2 ∧ RM (tA t l l 1 (aCl a, 0)).1 r') := by
  have hl := ht.2.2.1
  obtain ⟨r3, h3⟩ : ∃ r3 : Nat → Nat, W 19 3 = fun j => nI (r3 j) := ⟨fun j => (W 19 3 j).toBitVec.toNat, funext fun j => z_of _⟩
  have e1 := q_clear W 3 r3
  rw [rW_self h3] at e1
  obtain ⟨rc, hrc⟩ : ∃ rc, rc = rNd (r0 r3 197) := ⟨_, rfl⟩
  rw [← hrc] at e1
  have hR : RM (aCl a) rc := by rw [hrc]; exact RM_clear a r3
  obtain ⟨W3, hW3⟩ : ∃ W3, W3 = gSt (gSt (rW W 3 rc) 19 0 15 (nI 0)) 19 0 14 (nI 0) := ⟨_, rfl⟩
  have T0 : WT W W3 0 0 rc := by
    rw [hW3]
    refine ⟨?_, ?_, ?_, fun g c hg => ?_, fun j h1 h2 => ?_⟩
    · rw [st_n _ _ _ (by omega), st_n _ _ _ (by omega), rW_r]
    · unfold gSt; rw [gUp_s]; exact pk_us
    · unfold gSt; rw [gUp_s, pk_un (by omega), gUp_s]; exact pk_us
    · unfold gSt rW; rw [gUp_n _ _ (by omega), gUp_n _ _ (by omega), gUp_n _ _ (by omega)]
    · unfold gSt rW; rw [gUp_s, pk_un h1, gUp_s, pk_un h2, gUp_n _ _ (by omega)]
  have x0 := T0.tx ht
  have hV := aV_clear hb h8
  have h4 : aCl a 0 4 = 0 := by rw [aCl_0 4 (by omega)]; rfl
  unfold f_Mo_readText gSO
  rw [e1, pB, pB, pB, show (0 : Int32) = nI 0 from rfl, ← hW3, x0.1]
  unfold tW
  by_cases z : l = 0
  · rw [if_pos (show nI l = nI 0 by rw [z]), if_pos z, if_neg (by omega)]
    exact ⟨W3, rfl, T0.2.2.2.1, T0.2.2.2.2, fun q => absurd q (by omega)⟩
  · have ht0 := ht.2.2.2 0 (by omega)
    rw [if_neg (z_ne (by omega) (by omega) z), if_neg z, pRd _ (by omega) (by omega), pB, x0.2.1 0 (by omega)]
    by_cases y : t 0 = 86
    · rw [if_pos (by rw [y]; rfl), if_pos y, pB]
      have T1 := T0.spot 1
      obtain ⟨g1, g2⟩ := q_read ht l 1 (aCl a) 0 rc _ (by omega) (by omega) T1 hR hV (by omega)
      by_cases w : tE t l l 1 = 1000
      · rw [if_pos w]
        obtain ⟨W', r', k1, k2, k3⟩ := g1 w
        exact ⟨W', k1, k2.2.2.2.1, k2.2.2.2.2, fun _ => ⟨r', k2.1, k2.2.2.1, k3⟩⟩
      · rw [if_neg w]
        obtain ⟨W', o', r', k1, k2⟩ := g2 w
        exact ⟨W', k1, k2.2.2.2.1, k2.2.2.2.2, fun q => absurd q w⟩
    · rw [if_neg (show ¬ nI (t 0) = 86 from z_ne (y := 86) (by omega) (by omega) y), if_neg y, if_neg (by omega)]
      exact ⟨W3, rfl, T0.2.2.2.1, T0.2.2.2.2, fun q => absurd q (by omega)⟩
-- the class
theorem tx7.aw (h : tx7 M l t) (a : Nat → Nat → Nat) : tx7 (aW M 0 a) l t := by
  unfold tx7
  rw [aW_n M a (by omega)]
  exact h
theorem p_letter (h : tx7 M l t) (hi : i < l) : f_Wri_isLetter M (nI i) = some (nI (if dgs (t i) = 9 then 0 else 1)) := by
  have ht := h.2.2.2 i hi
  have hd : dgs (t i) < 10 := by unfold dgs; (repeat' split) <;> omega
  unfold f_Wri_isLetter
  rw [at7 h hi, pB, p_dgs ht, pB]
  by_cases y : dgs (t i) = 9
  · rw [if_pos y, if_pos y, if_pos rfl]; rfl
  · rw [if_neg y, if_neg y, if_neg (show ¬ nI (dgs (t i)) = -1 from z_ne (y := 4294967295) (by omega) (by omega) (by omega))]; rfl
theorem p_done (h : tx7 M l t) (hi : i < l) (hce : cE t l i = 1000) (hV : aV a) (h4 : a 0 4 ≤ 1000) : f_Wri_isDone 0 (aW M 0 a) (nI i) = some (nI (1 - cF t i a), aW M 0 (cA t i a)) := by
  have hl := h.2.2.1
  have hx := h.aw a
  have a1 : nI i + 1 = nI (i + 1) := nI_1 i
  have a2 : nI i + 2 = nI (i + 2) := nI_add i 2
  rcases cE_ok hce hi hl with hd | ⟨hd, h2l, d1, d2⟩
  · obtain ⟨y1, k1⟩ := at7_any (aW M 0 a) (show i + 1 < 1000 by omega)
    obtain ⟨y2, k2⟩ := at7_any (aW M 0 a) (show i + 2 < 1000 by omega)
    unfold f_Wri_isDone
    rw [a1, k1, pB, a2, k2, pB, at7 hx hi, pB]
    rcases dgs_0 hd with z | z
    · rw [z, if_neg (by decide), if_neg (by decide), if_neg (by decide), if_neg (by decide), p_advice1 hV, pB, (cA_97 z).1, (cA_97 z).2]
      rfl
    · rw [z, if_neg (by decide), if_neg (by decide), if_neg (by decide), if_pos (by decide), p_tryPass hV, (cA_112 z).1, (cA_112 z).2]
      by_cases y : a 0 5 = 1
      · rw [if_pos y, if_pos y, if_pos y, pB]; rfl
      · rw [if_neg y, if_neg y, if_neg y, pB]; rfl
  · have k1 := at7 hx (show i + 1 < l by omega)
    have k2 := at7 hx h2l
    unfold f_Wri_isDone
    rw [a1, k1, pB, a2, k2, pB, at7 hx hi, pB]
    have dd : 48 ≤ t (i + 1) ∧ 48 ≤ t (i + 2) := by
      rcases dgs_2 hd with z | z | z
      · have := dig_98 z d1 d2; omega
      · have := dig_99 z d1 d2; omega
      · have := dig_100 z d1 d2; omega
    have s1 : nI (t (i + 1)) - 48 = nI (cHi t i) := pk_sub (b := 48) dd.1
    have s2 : nI (t (i + 2)) - 48 = nI (cLo t i) := pk_sub (b := 48) dd.2
    rw [s1, s2]
    rcases dgs_2 hd with z | z | z
    · have hg := dig_98 z d1 d2
      rw [z, if_pos (by decide), p_tryBid hV (by unfold cHi; omega) (by unfold cLo; omega), (cA_98 z).1, (cA_98 z).2]
      by_cases y : a 0 5 = 1 ∧ 5 * a 0 7 + a 0 8 < 5 * cHi t i + cLo t i
      · rw [if_pos y, if_pos y, if_pos ⟨y.1, ⟨by unfold cHi; omega, by unfold cHi; omega, by unfold cLo; omega⟩, y.2⟩, pB]; rfl
      · rw [if_neg y, if_neg y, if_neg (fun q => y ⟨q.1, q.2.2⟩), pB]; rfl
    · have hg := dig_99 z d1 d2
      have hc : cTwo t i < 32 := by unfold cTwo cHi cLo; omega
      rw [z, if_neg (by decide), if_pos (by decide), show (10 : Int32) = nI 10 from rfl, pk_mul, nI_add, show 10 * cHi t i + cLo t i = cTwo t i from rfl, p_tryCard hV (by omega), (cA_99 z).1, (cA_99 z).2]
      by_cases y : a 0 5 = 2 ∧ aRs a (cTwo t i) = 0
      · rw [if_pos y, if_pos y, if_pos ⟨y.1, hc, y.2⟩, pB]; rfl
      · rw [if_neg y, if_neg y, if_neg (fun q => y ⟨q.1, q.2.2⟩), pB]; rfl
    · have hg := dig_100 z d1 d2
      rw [z, if_neg (by decide), if_neg (by decide), if_pos (by decide), show (10 : Int32) = nI 10 from rfl, pk_mul, nI_add, show 10 * cHi t i + cLo t i = cTwo t i from rfl, p_dealWith _ (by omega), pB, (cA_100 z).1, (cA_100 z).2]
      rfl
theorem p_load (h : tx7 M l t) : ∀ f i a o, i ≤ l → l ≤ i + f → tE t l f i = 1000 → aV a → 3 * a 0 4 ≤ i → f_DS_load_l46 (nI o, nI i, aW M 0 a) = some (.inr (nI (tA t l f i (a, o)).2, aW M 0 (tA t l f i (a, o)).1)) := by
  have hl := h.2.2.1
  have stop : ∀ i a o, l ≤ i → i ≤ l → f_DS_load_l46 (nI o, nI i, aW M 0 a) = some (.inr (nI o, aW M 0 a)) := by
    intro i a o h1 h2
    refine pLx ?_
    show f_DS_load_s46 (aW M 0 a) (nI o) (nI i) = _
    unfold f_DS_load_s46 f_Wri_length
    rw [pB, (h.aw a).1, if_pos (nI_le h1 (by omega))]
  have skip : ∀ j b o, j < l → dgs (t j) = 9 → f_DS_load_l46 (nI o, nI j, aW M 0 b) = f_DS_load_l46 (nI o, nI (j + 1), aW M 0 b) := by
    intro j b o hj hd
    refine pLp (step := fun s => f_DS_load_s46 s.2.2 s.1 s.2.1) ?_
    show f_DS_load_s46 (aW M 0 b) (nI o) (nI j) = _
    unfold f_DS_load_s46 f_Wri_length f_DS_load_b86
    rw [pB, (h.aw b).1, if_neg (nI_ge hj (by omega)), p_letter (h.aw b) hj, pB, if_pos hd, if_pos (by decide), nI_1]
  intro f
  induction f with
  | zero =>
    intro i a o h1 h2 _ _ _
    exact stop i a o (by omega) h1
  | succ f ih =>
    intro i a o h1 h2 hE hV h3
    unfold tE at hE
    unfold tA
    by_cases z : l ≤ i
    · rw [if_pos z]
      exact stop i a o z h1
    · rw [if_neg z] at hE ⊢
      by_cases y : cE t l i = 1000
      · rw [if_pos y] at hE
        obtain ⟨v1, v2, v3⟩ := cA_v y (by omega) hl hV h3
        have hdg : dgs (t i) ≠ 9 := by
          rcases cE_ok y (by omega) hl with hd | ⟨hd, -⟩ <;> omega
        have st : f_DS_load_l46 (nI o, nI i, aW M 0 a) = f_DS_load_l46 (nI (o + cF t i a), nI (i + 1), aW M 0 (cA t i a)) := by
          refine pLp (step := fun s => f_DS_load_s46 s.2.2 s.1 s.2.1) ?_
          show f_DS_load_s46 (aW M 0 a) (nI o) (nI i) = _
          unfold f_DS_load_s46 f_Wri_length f_DS_load_b86
          rw [pB, (h.aw a).1, if_neg (nI_ge (by omega) (by omega)), p_letter (h.aw a) (by omega), pB, if_neg hdg, if_neg (by decide), p_done h (by omega) y hV (by omega), pB]
          rcases (show cF t i a = 0 ∨ cF t i a = 1 by omega) with w | w
          · rw [w, if_neg (show ¬ nI (1 - 0) = 0 by decide), nI_1]; rfl
          · rw [w, if_pos (show nI (1 - 1) = 0 by decide), nI_1, nI_1]
        rw [st]
        rcases cE_ok y (by omega) hl with hd | ⟨hd, h2l, d1, d2⟩
        · have := ih (i + 1 + dgs (t i)) (cA t i a) (o + cF t i a) (by omega) (by omega) hE v1 v2
          rw [hd] at this ⊢
          exact this
        · have dd : ∀ j, (j = i + 1 ∨ j = i + 2) → dgs (t j) = 9 := by
            have b : (48 ≤ t (i + 1) ∧ t (i + 1) ≤ 57) ∧ (48 ≤ t (i + 2) ∧ t (i + 2) ≤ 57) := by
              rcases dgs_2 hd with z | z | z
              · have := dig_98 z d1 d2; omega
              · have := dig_99 z d1 d2; omega
              · have := dig_100 z d1 d2; omega
            intro j hj
            have : 48 ≤ t j ∧ t j ≤ 57 := by rcases hj with rfl | rfl <;> omega
            unfold dgs
            rw [if_neg (by omega), if_neg (by omega)]
          have := ih (i + 1 + dgs (t i)) (cA t i a) (o + cF t i a) (by omega) (by omega) hE v1 v2
          rw [hd] at this ⊢
          rw [skip (i + 1) _ _ (by omega) (dd _ (Or.inl rfl)), skip (i + 1 + 1) _ _ (by omega) (dd _ (Or.inr rfl))]
          exact this
      · rw [if_neg y] at hE
        exact absurd hE y
end LD
