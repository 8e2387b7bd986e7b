-- ===== PURE: scripts, simulations, by both =====
section SC
variable {M M' W : gMem} {E : Nat → Nat → Nat → Nat} {n c k B s : Nat} {u : Nat → Nat} {l : Nat} {t r d q r' d' : Nat → Nat} {a : Nat → Nat → Nat}
theorem L_cases (x : Int64) : x < 0 ∨ ∃ s, s < 2 ^ 63 ∧ x = lN s := by
  by_cases h : x < 0
  · exact Or.inl h
  · right
    rw [Int64.lt_iff_toInt_lt] at h
    have h0 : (0 : Int64).toInt = 0 := rfl
    have h1 := Int64.toInt_lt x
    refine ⟨x.toInt.toNat, by omega, ?_⟩
    rw [← Int64.toInt_inj]
    unfold lN
    rw [Int64.toInt_ofNat_of_lt (by omega)]
    omega
theorem L_toInt (h : s < 2 ^ 63) : (lN s).toInt = (s : Int) := Int64.toInt_ofNat_of_lt h
theorem p_without (hs : s < 2 ^ 63) (hn : n < 1000) : f_DS_withoutGroups (lN s) (nI n) = some (lN (s / 10000 ^ n)) := by
  unfold f_DS_withoutGroups f_DS_withoutGroups_l5
  refine pFor0 (fun i => (lN (s / 10000 ^ i), nI i)) n ?_ ?_ ?_
  · show (lN s, 0) = (lN (s / 10000 ^ 0), nI 0)
    rw [show s / 10000 ^ 0 = s by omega]
    rfl
  · intro i hi
    show f_DS_withoutGroups_s5 (nI n) (lN (s / 10000 ^ i)) (nI i) = _
    unfold f_DS_withoutGroups_s5
    have : s / 10000 ^ i ≤ s := Nat.div_le_self _ _
    rw [if_neg (nI_ge hi (by omega)), show (10000 : Int64) = lN 10000 from rfl, pk_lDiv (by omega) (by omega) (by omega), nI_1, Nat.div_div_eq_div_mul, Nat.pow_succ]
  · exact pLx (by
      show f_DS_withoutGroups_s5 (nI n) (lN (s / 10000 ^ n)) (nI n) = _
      unfold f_DS_withoutGroups_s5
      rw [if_pos (nI_le (Nat.le_refl _) (by omega))])
theorem pw_le {i j : Nat} (h : i ≤ j) : 10000 ^ i ≤ 10000 ^ j := Nat.pow_le_pow_right (by omega) h
theorem script_loop (hs : s < 2 ^ 63) (hn4 : n ≤ 4) (hB : B < 100000) : ∀ m i a r W, i + m = n → PR (B + i) a r → ∃ b a' r' W1, (∀ M, f_DS_runScript_l50 (nI n) (lN s) (nI i, aW M 1 a) = some (.inr (b, aW M 1 a'))) ∧ f_Mo_runScript_l86 (nI n) (lN s) (lN (10000 ^ (n - i)), nI i, rW W 3 r) = some (b, rW W1 3 r') ∧ aJ a' ∧ W8 W W1 := by
  intro m
  induction m with
  | zero =>
    intro i a r W him h
    refine ⟨-1, a, r, W, fun M => ?_, ?_, h.2.1.J, W8.rf W⟩
    · refine pLx ?_
      show f_DS_runScript_s50 (aW M 1 a) (nI n) (lN s) (nI i) = _
      unfold f_DS_runScript_s50
      rw [if_pos (nI_le (by omega) (by omega))]
    · refine pLx ?_
      show f_Mo_runScript_s86 (rW W 3 r) (nI n) (lN s) (lN (10000 ^ (n - i))) (nI i) = _
      unfold f_Mo_runScript_s86
      rw [if_pos (nI_le (by omega) (by omega))]
  | succ m ih =>
    intro i a r W him h
    have p16 : 10000 ^ (n - i) ≤ 10000 ^ 4 := pw_le (by omega)
    have p16' : 10000 ^ (n - 1 - i) ≤ 10000 ^ 4 := pw_le (by omega)
    have ppos : 0 < 10000 ^ (n - 1 - i) := Nat.pow_pos (by omega)
    have e44 : 10000 ^ 4 = 10000000000000000 := by decide
    have epw : 10000 ^ (n - i) / 10000 = 10000 ^ (n - 1 - i) := by
      rw [show n - i = (n - 1 - i) + 1 by omega, Nat.pow_succ]
      omega
    obtain ⟨g, hg⟩ : ∃ g, g = s / 10000 ^ (n - 1 - i) % 10000 := ⟨_, rfl⟩
    have hgl : g < 10000 := by omega
    have hdl : s / 10000 ^ (n - 1 - i) ≤ s := Nat.div_le_self _ _
    have eg : Int64.toInt32 (gRemL (lN (s / 10000 ^ (n - 1 - i))) 10000) = nI g := by
      unfold gRemL
      rw [show (10000 : Int64) = lN 10000 from rfl, pk_lRem (by omega) (by omega) (by omega), lN_i, hg]
    obtain ⟨b, a', r', W1, b1, b2, b3, b4, b5, b6⟩ := command_both (W := W) h (by omega) hgl
    have cs : ∀ M, f_DS_runScript_s50 (aW M 1 a) (nI n) (lN s) (nI i) = if b = 0 then some (.inr (.inr (nI i, aW M 1 a'))) else some (.inl (nI (i + 1), aW M 1 a')) := fun M => by
      unfold f_DS_runScript_s50
      rw [if_neg (nI_ge (by omega) (by omega)), show (1 : Int32) = nI 1 from rfl, pk_sub (by omega), pk_sub (by omega), p_without hs (by omega), pB, eg, b2, pB]
      rcases (show b = 0 ∨ b = 1 by omega) with z | z
      · rw [z, if_pos (show nI 0 = 0 from rfl), if_pos rfl]
      · rw [z, if_neg (show ¬ nI 1 = 0 by decide), if_neg (show ¬ 1 = 0 by decide), nI_add]
    have ms : f_Mo_runScript_s86 (rW W 3 r) (nI n) (lN s) (lN (10000 ^ (n - i))) (nI i) = if b = 0 then some (.inr (nI i, rW W1 3 r')) else some (.inl (lN (10000 ^ (n - 1 - i)), nI (i + 1), rW W1 3 r')) := by
      unfold f_Mo_runScript_s86
      have ed : lN (10000 ^ (n - i)) / 10000 = lN (10000 ^ (n - 1 - i)) := by
        rw [show (10000 : Int64) = lN 10000 from rfl, pk_lDiv (by omega) (by omega) (by omega), epw]
      have nz : gNzL (lN (10000 ^ (n - 1 - i))) = some (lN (10000 ^ (n - 1 - i))) := by
        unfold gNzL
        rw [if_neg]
        intro z
        have := (fb_lN_inj (b := 0) (by omega) (by omega)).mp z
        omega
      have e2 : gRem (nI g) 1000 = nI (g % 1000) := z_rem (d := 1000) (by omega) (by omega) (by omega)
      have e3 : nI g / 1000 = nI (g / 1000) := z_div (d := 1000) (by omega) (by omega) (by omega)
      rw [if_neg (nI_ge (by omega) (by omega)), ed, nz, pB, pk_lDiv hs ppos (by omega), eg, e2, e3, b3, pB]
      rcases (show b = 0 ∨ b = 1 by omega) with z | z
      · rw [z, if_pos (show nI 0 = 0 from rfl), if_pos rfl]
      · rw [z, if_neg (show ¬ nI 1 = 0 by decide), if_neg (show ¬ 1 = 0 by decide), nI_1]
    by_cases z : b = 0
    · rw [if_pos z] at ms
      refine ⟨nI i, a', r', W1, fun M => ?_, pLx (step := fun s0 => f_Mo_runScript_s86 s0.2.2 (nI n) (lN s) s0.1 s0.2.1) (s := (lN (10000 ^ (n - i)), nI i, rW W 3 r)) ms, b4, b6⟩
      have s1 := cs M
      rw [if_pos z] at s1
      exact pLx (step := fun s0 => f_DS_runScript_s50 s0.2 (nI n) (lN s) s0.1) (s := (nI i, aW M 1 a)) s1
    · rw [if_neg z] at ms
      obtain ⟨b', a2, r2, W2, k1, k2, k3, k4⟩ := ih (i + 1) a' r' W1 (by omega) (b5 (by omega))
      refine ⟨b', a2, r2, W2, fun M => ?_, ?_, k3, b6.tr k4⟩
      · have s1 := cs M
        rw [if_neg z] at s1
        exact (pLp (step := fun s0 => f_DS_runScript_s50 s0.2 (nI n) (lN s) s0.1) (s := (nI i, aW M 1 a)) s1).trans (k1 M)
      · rw [show n - (i + 1) = n - 1 - i by omega] at k2
        exact (pLp (step := fun s0 => f_Mo_runScript_s86 s0.2.2 (nI n) (lN s) s0.1 s0.2.1) (s := (lN (10000 ^ (n - i)), nI i, rW W 3 r)) ms).trans k2
/-- the model's own limit of a script -/
theorem q_script6 (v : Int32) (x : Int64) {j : Nat} (hj : j ≤ 4) (h1 : ∀ i, i < j → ¬ v ≤ nI i) (h2 : v ≤ nI j ∨ j = 4) : f_Mo_runScript M v x = f_Mo_runScript_b32 M v x (lN (10000 ^ j)) := by
  unfold f_Mo_runScript f_Mo_runScript_l6
  refine pFor0 (fun i => (lN (10000 ^ i), nI i)) j rfl ?_ ?_
  · intro i hi
    show f_Mo_runScript_s6 M v x (lN (10000 ^ i)) (nI i) = _
    unfold f_Mo_runScript_s6
    rw [if_neg (h1 i hi), if_neg (show ¬ (4 : Int32) ≤ nI i from nI_ge (b := 4) (by omega) (by omega)), show (10000 : Int64) = lN 10000 from rfl, lN_mul, nI_1, Nat.pow_succ]
  · refine pLm ?_
    show f_Mo_runScript_s6 M v x (lN (10000 ^ j)) (nI j) = _
    unfold f_Mo_runScript_s6
    by_cases z : v ≤ nI j
    · rw [if_pos z]
    · rw [if_neg z, if_pos (show (4 : Int32) ≤ nI j from nI_le (a := 4) (by have := h2.resolve_left z; omega) (by omega))]
theorem IV.copy (h : IV k E n c u l t) (ha : aJ a) : IV k (fU E 1 a) n c u l t := by
  obtain ⟨hn, hc, hl, ht, hu, hJ, h0, hr, hs⟩ := h
  refine ⟨hn, hc, hl, ht, hu, fun e he => ?_, by rw [fU_n _ _ (by omega)]; exact h0, fun i hi => ?_, fun s h2 h3 => ?_⟩
  · by_cases z : e = 1
    · rw [z, fU_s]; exact ha
    · rw [fU_n _ _ z]; exact hJ e he
  · have := rg_lt n c i
    rw [fU_n _ _ (by omega)]
    exact hr i hi
  · rw [fU_n _ _ (by omega)]
    exact hs s h2 h3
theorem IM.copy (h : IM W E n c u l t r d q) : IM W (fU E 1 a) n c u l t r d q := by
  obtain ⟨m2, m9, m10, mR, mD, mK, m11, mu, ml, mt⟩ := h
  refine ⟨m2, m9, m10, by rw [fU_n _ _ (by omega)]; exact mR, fun i hi => ?_, fun s h2 h3 => ?_, m11, mu, ml, mt⟩
  · have := rg_lt n c i
    rw [fU_n _ _ (by omega)]
    exact mD i hi
  · rw [fU_n _ _ (by omega)]
    exact mK s h2 h3
/-- the copy and the trial row are made -/
theorem copy_both (hC : IC M E n c u l t) (hM : IM W E n c u l t r d q) (hV : IV k E n c u l t) : ∃ a r', f_Ev_copyFrom 1 0 M = some (aW M 1 a) ∧ f_Mo_copyState 19 2 197 19 3 197 W 0 0 = some (rW W 3 r') ∧ PR (40 + k) a r' ∧ a 0 11 = E 0 0 11 ∧ a 0 12 = E 0 0 12 ∧ a 0 4 = E 0 0 4 := by
  have h0 := hV.2.2.2.2.2.2.1
  have e1 := p_copyFrom (M := M) (e := 1) (e0 := 0) (a := E 1) (by omega) (hC.1 0 (by omega))
  rw [aW_self (hC.1 1 (by omega))] at e1
  obtain ⟨r3, h3⟩ : ∃ r3 : Nat → Nat, W 19 3 = fun j => nI (r3 j) := ⟨fun j => (W 19 3 j).toBitVec.toNat, funext fun j => z_of _⟩
  have e2 := q_copy (M := W) (c0 := 2) (n0 := 197) (c1 := 3) (n1 := 197) (i := 0) (j := 0) (f := r) (r := r3) (by omega) hM.1 (by omega) (by omega) (by omega) (by omega)
  rw [rW_self h3] at e2
  refine ⟨_, _, e1, e2, ⟨RM_cong (r := r) (by rw [(aCp_eq _ _).2.1]; exact h0.1.O.2.1) (fun j hj => ?_) (RM_cp _ h0.1 hM.2.2.2.1), aV_cp (hV.2.2.2.2.2.1 1 (by omega)) h0.1, by rw [aCp_4]; exact h0.2⟩, aEq_0 (aCp_eq _ _) (by omega), aEq_0 (aCp_eq _ _) (by omega), aCp_4 _ _⟩
  unfold rCp
  rw [if_pos (by omega)]
  refine congrArg r ?_
  omega
/-- behind a call that worked on copies alone -/
theorem trial_call {b : Int32} {C D : gMem → Option (Int32 × gMem)} (hI : Inv k M) (hc : ∀ E n c u l t r d q, IC M E n c u l t → IM M E n c u l t r d q → IV k E n c u l t → ∃ b a, aJ a ∧ C M = some (0, gUp (aW M 1 a) 20 0 (gOut (Int32.toInt64 b))) ∧ ∀ W, W 19 = M 19 → ∃ W1 r', D W = some (b, rW W1 3 r') ∧ W8 (gSt W 19 0 0 0) W1) : CALL k M C D := by
  obtain ⟨E, n, c, u, l, t, r, d, q, hC, hM, hV⟩ := hI
  obtain ⟨b, a, ha, h1, h2⟩ := hc E n c u l t r d q hC hM hV
  refine mu_call h1 (hC.ev (e := 1) (a := a) (by omega)) (by rw [aW_n _ _ (by omega)]) (hV.copy ha).up (fun W hW => ?_)
  obtain ⟨W1, r', w1, w2⟩ := h2 W hW
  have o : ∀ g c0, ¬ (g = 19 ∧ (c0 = 3 ∨ c0 = 8)) → rW W1 3 r' g c0 = gSt W 19 0 0 0 g c0 := fun g c0 z => by
    unfold rW
    rw [gUp_n _ _ (by omega), w2 g c0 (by omega)]
  have is : IS (gSt W 19 0 0 0) (rW W1 3 r') := ⟨fun e he => funext fun c => o e c (by omega), fun c hc => o 18 c (by omega), fun c hc => o 19 c (by omega), congrFun (o 19 0 (by omega)) 2, congrFun (o 19 0 (by omega)) 11⟩
  have m := (((hM.c19 hW).same (IS_st W (k := 0) 0 (by omega))).same is).copy (a := a)
  refine ⟨_, r, d, q, w1, ?_, fun g hg => ?_, m⟩
  · rw [o 19 0 (by omega), st_00]
  · funext c0
    rw [o g c0 (by omega)]
    exact gUp_n _ _ (by omega)
theorem runScript_call (hk : k ≤ 600) (hI : Inv k M) (v : Int32) (x : Int64) : CALL k M (fun M => f_Law_runScript M v x) (fun M => f_Mo_runScript M v x) := by
  have bad : ∀ (W : gMem) (z : Int64), f_Mo_runScript_b61 W v x z = some (0, gSt W 19 0 0 1) := fun W z => by
    unfold f_Mo_runScript_b61 f_Mo_runScript_b62
    rw [q_ref1 _ (by decide), pB, if_neg (show ¬ (1 : Int32) = 0 by decide)]
  have i1 : (1 : Int32).toInt = 1 := rfl
  have i4 : (4 : Int32).toInt = 4 := rfl
  by_cases hv : v < 1 ∨ 4 < v
  · refine throw_call (cd := 1) hI (by decide) ?_ ?_
    · show f_Law_runScript M v x = _
      unfold f_Law_runScript f_DS_runScript
      by_cases z : v < 1
      · rw [if_pos z]; rfl
      · rw [if_neg z, if_pos (hv.resolve_left z)]; rfl
    · show f_Mo_runScript M v x = _
      obtain ⟨j, hj, h1, h2⟩ : ∃ j, j ≤ 4 ∧ (∀ i, i < j → ¬ v ≤ nI i) ∧ (v ≤ nI j ∨ j = 4) := by
        rcases hv with z | z
        · refine ⟨0, by omega, fun i hi => absurd hi (by omega), Or.inl ?_⟩
          rw [fa_le, pN (by omega)]
          rw [fa_lt] at z
          omega
        · refine ⟨4, by omega, fun i hi => ?_, Or.inr rfl⟩
          rw [fa_le, pN (by omega)]
          rw [fa_lt] at z
          omega
      rw [q_script6 v x hj h1 h2]
      unfold f_Mo_runScript_b32
      have e : f_Mo_in (Int32.toInt64 v) 1 4 = some 0 := by
        have g := q_inl v (m := 1) (n := 4) (by omega) (by omega)
        rw [if_neg] at g
        · exact g
        · rintro ⟨g1, g2⟩
          rw [fa_lt, pN (by omega)] at g1
          rw [fa_le, pN (by omega)] at g2
          rcases hv with z | z
          · rw [fa_lt] at z; omega
          · rw [fa_lt] at z; omega
      rw [e, pB, if_pos rfl, bad]
  · obtain ⟨n, hn1, hn4, rfl⟩ : ∃ n, 1 ≤ n ∧ n ≤ 4 ∧ v = nI n := by
      have z1 : ¬ v < 1 := fun z => hv (Or.inl z)
      have z2 : ¬ 4 < v := fun z => hv (Or.inr z)
      rw [fa_lt] at z1 z2
      refine ⟨v.toInt.toNat, by omega, by omega, ?_⟩
      rw [fa_eq, pN (by omega)]
      omega
    have mo : ∀ W : gMem, f_Mo_runScript W (nI n) x = f_Mo_runScript_b32 W (nI n) x (lN (10000 ^ n)) := fun W => q_script6 _ x hn4 (fun i hi => nI_ge hi (by omega)) (Or.inl (nI_le (Nat.le_refl _) (by omega)))
    have inn : f_Mo_in (Int32.toInt64 (nI n)) 1 4 = some 1 := by
      have g := q_inl (nI n) (m := 1) (n := 4) (by omega) (by omega)
      rw [if_pos ⟨nI_nlt hn1 (by omega), nI_le hn4 (by omega)⟩] at g
      exact g
    have p16 : 10000 ^ n ≤ 10000 ^ 4 := pw_le hn4
    have ppos : 0 < 10000 ^ n := Nat.pow_pos (by omega)
    have e44 : 10000 ^ 4 = 10000000000000000 := by decide
    have em1 : lN (10000 ^ n) - 1 = lN (10000 ^ n - 1) := lN_sub (b := 1) ppos
    have c0 : ¬ nI n < 1 := nI_nlt (b := 1) hn1 (by omega)
    have c4 : ¬ 4 < nI n := nI_nlt (a := 4) hn4 (by omega)
    have L0 : (0 : Int64).toInt = 0 := rfl
    rcases L_cases x with hx | ⟨s, hs, rfl⟩
    · refine throw_call (cd := 1) hI (by decide) ?_ ?_
      · show f_Law_runScript M (nI n) x = _
        unfold f_Law_runScript f_DS_runScript
        rw [if_neg c0, if_neg c4, if_pos ((lg_cmp_lt _ _).mpr hx)]
        rfl
      · show f_Mo_runScript M (nI n) x = _
        rw [mo]
        unfold f_Mo_runScript_b32 f_Mo_in
        unfold f_Mo_in at inn
        rw [inn, pB, if_neg (show ¬ (1 : Int32) = 0 by decide), if_pos ((lg_cmp_lt _ _).mpr hx), pB, if_pos rfl, bad]
    · have hx0 : ¬ lN s < 0 := by rw [Int64.lt_iff_toInt_lt, L_toInt hs, L0]; omega
      have cl : f_DS_runScript M (nI n) (lN s) = if s / 10000 ^ n = 0 then (f_Ev_copyFrom 1 0 M).bind fun q2 => f_DS_runScript_l50 (nI n) (lN s) (0, q2) else some (.inl 1) := by
        unfold f_DS_runScript
        rw [if_neg c0, if_neg c4, if_neg (fun z => hx0 ((lg_cmp_lt _ _).mp z)), p_without hs (by omega), pB]
        have : s / 10000 ^ n ≤ s := Nat.div_le_self _ _
        by_cases z : s / 10000 ^ n = 0
        · rw [if_pos z, if_pos ((lg_cmp_eq _ _).mpr (by rw [z]; rfl))]
        · rw [if_neg z, if_neg (show ¬ lg_cmp (lN (s / 10000 ^ n)) 0 = 0 from fun y => z ((fb_lN_inj (b := 0) (by omega) (by omega)).mp ((lg_cmp_eq _ _).mp y)))]
      have mi : f_Mo_in (lN s) 0 (lN (10000 ^ n) - 1) = some (if s < 10000 ^ n then 1 else 0) := by
        unfold f_Mo_in
        rw [if_neg (fun z => hx0 ((lg_cmp_lt _ _).mp z)), em1]
        by_cases z : s < 10000 ^ n
        · rw [if_pos z, if_neg (fun y => by rw [lg_cmp_gt, Int64.lt_iff_toInt_lt, L_toInt hs, L_toInt (by omega)] at y; omega)]
        · rw [if_neg z, if_pos ((lg_cmp_gt _ _).mpr (by rw [Int64.lt_iff_toInt_lt, L_toInt hs, L_toInt (by omega)]; omega))]
      have hdiv : s / 10000 ^ n = 0 ↔ s < 10000 ^ n := by
        rw [Nat.div_eq_zero_iff]
        constructor
        · rintro (z | z)
          · omega
          · exact z
        · exact Or.inr
      by_cases z : s < 10000 ^ n
      · rw [if_pos z] at mi
        rw [if_pos (hdiv.mpr z)] at cl
        refine trial_call (b := 0) hI (fun E n' c u l t r d q hC hM hV => ?_)
        obtain ⟨a0, r0, k1, -, k3, -⟩ := copy_both hC hM hV
        obtain ⟨b, a', -, -, g1, -, g3, -⟩ := script_loop (B := 40 + k) (n := n) hs hn4 (by omega) n 0 a0 r0 M (by omega) k3
        refine ⟨b, a', g3, ?_, fun W hW => ?_⟩
        · show f_Law_runScript M (nI n) (lN s) = _
          unfold f_Law_runScript
          rw [cl, k1, pB, show f_DS_runScript_l50 (nI n) (lN s) (0, aW M 1 a0) = some (.inr (b, aW M 1 a')) from g1 M]
          rfl
        · have m := (hM.c19 hW).same (IS_st W (k := 0) 0 (by omega))
          obtain ⟨a2, r2, j1, j2, j3, -⟩ := copy_both hC m hV
          have ea : aW M 1 a2 = aW M 1 a0 := Option.some.inj (j1.symm.trans k1)
          obtain ⟨b2, a3, r3, W1, f1, f2, -, f4⟩ := script_loop (B := 40 + k) (n := n) hs hn4 (by omega) n 0 a2 r2 (gSt W 19 0 0 0) (by omega) j3
          have eb : b2 = b := by
            have h1 := f1 M
            have h2 := g1 M
            rw [← ea, h1] at h2
            exact (Prod.mk.inj (Sum.inr.inj (Option.some.inj h2))).1
          refine ⟨W1, r3, ?_, f4⟩
          show f_Mo_runScript W (nI n) (lN s) = _
          rw [mo]
          unfold f_Mo_runScript_b32
          rw [inn, pB, if_neg (show ¬ (1 : Int32) = 0 by decide), mi, pB, if_neg (show ¬ (1 : Int32) = 0 by decide)]
          unfold f_Mo_runScript_b62
          rw [q_ref0, pB, if_pos rfl, j2, pB, ← eb]
          exact f2
      · rw [if_neg z] at mi
        rw [if_neg (fun y => z (hdiv.mp y))] at cl
        refine throw_call (cd := 1) hI (by decide) ?_ ?_
        · show f_Law_runScript M (nI n) (lN s) = _
          unfold f_Law_runScript
          rw [cl]
          rfl
        · show f_Mo_runScript M (nI n) (lN s) = _
          rw [mo]
          unfold f_Mo_runScript_b32
          rw [inn, pB, if_neg (show ¬ (1 : Int32) = 0 by decide), mi, pB, if_pos rfl, bad]
end SC
