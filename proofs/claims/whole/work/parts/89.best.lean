-- ===== PURE: bestCard, by both =====
section BC
variable {M M' W : gMem} {E : Nat → Nat → Nat → Nat} {n c k : Nat} {u : Nat → Nat} {l : Nat} {t r d q : Nat → Nat} {a : Nat → Nat → Nat} {H : Nat → Nat} {dp tot sd : Nat}
/-- the card that is told: the lowest one with the most tricks -/
def isB (a : Nat → Nat → Nat) (sd n x : Nat) : Prop := x < 32 ∧ aOk a x = true ∧ TS sd n (aLay a x) = TS sd (n + 1) a ∧ ∀ y, y < x → aOk a y = true → TS sd n (aLay a y) ≠ TS sd (n + 1) a
theorem p_bestLoop (hV : aV a) (hp : a 0 5 = 2) (hP : PO a dp tot (n + 1)) (hH : HR H a) (ho : a 0 6 % 2 = sd) (hord : ∀ p k k', p < 4 → k < k' → k' < 3 → H (3 * p + k) ≠ 4294967295 → H (3 * p + k') ≠ 4294967295 → H (3 * p + k) < H (3 * p + k')) (e2 : ∀ M', stays M M' dp → M' 18 8 2 = nI dp ∧ M' 18 8 4 = nI (aLead a)) : ∀ m k (best : Int) (x : Nat) W, k + m = 3 → CHm W H a dp tot sd 1 → stays M W dp → ((∀ j, j < k → ¬ fitk H a j) ∧ best = -1 ∧ x = 4294967295 ∨ ∃ j0, j0 < k ∧ fitk H a j0 ∧ best = Tk H a sd n j0 ∧ 0 ≤ best ∧ best ≤ 4 ∧ x = H (3 * a 0 6 + j0) ∧ (∀ j, j < k → fitk H a j → Tk H a sd n j ≤ best) ∧ ∀ j, j < j0 → fitk H a j → Tk H a sd n j < best) → ∃ x' M', f_Open_lowestBest_l30 (nI (a 0 6)) (nI (aFw a)) (zI best, nI x, nI k, W) = some (nI x', M') ∧ isB a sd n x' ∧ stays M M' dp := by
  have hs2 : sd < 2 := by omega
  have ht := hV.2.1.2.1 (Or.inr hp)
  have hO := hV.O
  have hfw := aFw_lt hO.2.1 hO.2.2
  have hfw2 : aFw a = 4294967295 ∨ aFw a < 4 := hfw.elim Or.inl (fun h => Or.inr h.1)
  have n12 : n + 1 ≤ 12 := by have := hP.2.2.2.1; have := hP.2.2.2.2; omega
  obtain ⟨v1, kv, v2, v3, v4⟩ := V_own (n := n) hV hp hH ho
  intro m
  induction m with
  | zero =>
    intro k best x W hkm hC hS hinv
    have hk : k = 3 := by omega
    subst hk
    rcases hinv with ⟨h, -⟩ | ⟨j0, j1, j2, j3, j4, j5, j6, j7, j8⟩
    · exact absurd v3 (h kv v2)
    · refine ⟨x, W, pLx ?_, ?_, hS⟩
      · show f_Open_lowestBest_s30 W (nI (a 0 6)) (nI (aFw a)) (zI best) (nI x) (nI 3) = _
        unfold f_Open_lowestBest_s30
        rw [if_pos (by decide)]
      · have hfo := fit_ok hV hp hH j1 j2
        have hbv : best = (TS sd (n + 1) a : Int) - a 3 sd := by
          have := j7 kv v2 v3
          have := v1 j0 j1 j2
          omega
        rw [j6]
        refine ⟨hfo.1, hfo.2, ?_, fun y hy hoy => ?_⟩
        · unfold Tk at j3
          omega
        · obtain ⟨j, i1, i2, i3⟩ := fit_all hV hp hH (show y < 32 by omega) hoy
          have hlt : j < j0 := by
            rcases Nat.lt_trichotomy j j0 with w | w | w
            · exact w
            · rw [← w, i2] at hy; omega
            · have := hord (a 0 6) j0 j ht w i1 j2.1 i3.1
              omega
          have := j8 j hlt i3
          unfold Tk at this
          rw [i2] at this
          omega
  | succ m ih =>
    intro k best x W hkm hC hS hinv
    have hb : -1 ≤ best ∧ best ≤ 4 := by rcases hinv with ⟨-, h, -⟩ | ⟨_, _, _, _, h1, h2, _⟩ <;> omega
    have hk2 := hH.1 (a 0 6) k ht (show k < 3 by omega)
    have ft := p_fits (x := H (3 * a 0 6 + k)) (y := aFw a) (hk2.elim Or.inl (fun h => Or.inr h.1)) hfw2
    have fit : (H (3 * a 0 6 + k) ≠ 4294967295 ∧ (aFw a = 4294967295 ∨ H (3 * a 0 6 + k) / 8 = aFw a)) ↔ fitk H a k := by
      unfold fitk aRs
      constructor
      · rintro ⟨q1, q2⟩
        refine ⟨q1, ?_⟩
        rw [if_pos (hk2.resolve_left q1).2, if_pos q2]
      · rintro ⟨q1, q2⟩
        refine ⟨q1, ?_⟩
        rw [if_pos (hk2.resolve_left q1).2] at q2
        by_cases w : aFw a = 4294967295 ∨ H (3 * a 0 6 + k) / 8 = aFw a
        · exact w
        · rw [if_neg w] at q2; omega
    have pre : f_Open_lowestBest_s30 W (nI (a 0 6)) (nI (aFw a)) (zI best) (nI x) (nI k) = (f_Open_fits (nI (H (3 * a 0 6 + k))) (nI (aFw a))).bind fun q3 => if q3 = 0 then f_Open_lowestBest_b96 W (nI (a 0 6)) (nI (aFw a)) (zI best) (nI x) (nI k) else (f_Open_tricksWith (gTF 29).1 W (nI (3 * a 0 6 + k)) (nI dp) (nI (aLead a)) (zI best) (zI 9)).bind fun q4 => if q4.1 ≤ zI best then f_Open_lowestBest_b96 q4.2 (nI (a 0 6)) (nI (aFw a)) (zI best) (nI x) (nI k) else f_Open_lowestBest_b96 q4.2 (nI (a 0 6)) (nI (aFw a)) q4.1 (nI (H (3 * a 0 6 + k))) (nI k) := by
      unfold f_Open_lowestBest_s30
      rw [show (3 : Int32) = nI 3 from rfl, if_neg (nI_ge (by omega) (by omega)), pk_mul, nI_add, x_at (by omega) (by omega), pB, hC.1, show a 0 6 * 3 + k = 3 * a 0 6 + k by omega, (e2 W hS).1, (e2 W hS).2]
      rfl
    by_cases w : fitk H a k
    · rw [if_pos (fit.mpr w)] at ft
      obtain ⟨R, M', t1, t2, t3, t4⟩ := tw_step (TFS_all n 29 (by omega)) (lo := best) (hi := 9) hV hp hP hs2 (by omega) hC hH (show k < 3 by omega) w.1 w.2 (by omega) (by omega) (by omega) (by omega) (fun _ => by omega)
      have hR4 : R ≤ 4 := by omega
      have A := (t3.2 rfl).1 (by omega)
      have B := (t3.2 rfl).2
      have hTk : Tk H a sd n k = (TS sd n (aLay a (H (3 * a 0 6 + k))) : Int) - a 3 sd := rfl
      rw [← hTk] at A B
      rw [ft, pB, if_neg (show ¬ nI 1 = 0 by decide), t1, pB] at pre
      dsimp only at pre
      rw [← zI_nat (show R ≤ 1000 by omega)] at pre
      have hS' := hS.tr t4
      by_cases y : (R : Int) ≤ best
      · rw [if_pos (show zI (R : Int) ≤ zI best by rw [fa_le, zI_toInt (by omega), zI_toInt (by omega)]; exact y)] at pre
        unfold f_Open_lowestBest_b96 at pre
        rw [nI_1] at pre
        have hinv2 : ((∀ j, j < k + 1 → ¬ fitk H a j) ∧ best = -1 ∧ x = 4294967295 ∨ ∃ j0, j0 < k + 1 ∧ fitk H a j0 ∧ best = Tk H a sd n j0 ∧ 0 ≤ best ∧ best ≤ 4 ∧ x = H (3 * a 0 6 + j0) ∧ (∀ j, j < k + 1 → fitk H a j → Tk H a sd n j ≤ best) ∧ ∀ j, j < j0 → fitk H a j → Tk H a sd n j < best) := by
          rcases hinv with ⟨-, h, -⟩ | ⟨j0, j1, j2, j3, j4, j5, j6, j7, j8⟩
          · omega
          · refine Or.inr ⟨j0, by omega, j2, j3, j4, j5, j6, fun j hj hf => ?_, j8⟩
            by_cases z : j = k
            · rw [z]; omega
            · exact j7 j (by omega) hf
        obtain ⟨x', M2, g1, g2, g3⟩ := ih (k + 1) best x M' (by omega) (hC.st t4) hS' hinv2
        exact ⟨x', M2, (pLp (step := fun s => f_Open_lowestBest_s30 s.2.2.2 (nI (a 0 6)) (nI (aFw a)) s.1 s.2.1 s.2.2.1) (s := (zI best, nI x, nI k, W)) pre).trans g1, g2, g3⟩
      · rw [if_neg (show ¬ zI (R : Int) ≤ zI best by rw [fa_le, zI_toInt (by omega), zI_toInt (by omega)]; exact y)] at pre
        unfold f_Open_lowestBest_b96 at pre
        rw [nI_1] at pre
        have hB := B (by omega)
        have hinv2 : ((∀ j, j < k + 1 → ¬ fitk H a j) ∧ (R : Int) = -1 ∧ H (3 * a 0 6 + k) = 4294967295 ∨ ∃ j0, j0 < k + 1 ∧ fitk H a j0 ∧ (R : Int) = Tk H a sd n j0 ∧ 0 ≤ (R : Int) ∧ (R : Int) ≤ 4 ∧ H (3 * a 0 6 + k) = H (3 * a 0 6 + j0) ∧ (∀ j, j < k + 1 → fitk H a j → Tk H a sd n j ≤ (R : Int)) ∧ ∀ j, j < j0 → fitk H a j → Tk H a sd n j < (R : Int)) := by
          refine Or.inr ⟨k, by omega, w, by omega, by omega, by omega, rfl, fun j hj hf => ?_, fun j hj hf => ?_⟩
          · by_cases z : j = k
            · rw [z]; omega
            · rcases hinv with ⟨h, -⟩ | ⟨j0, j1, j2, j3, j4, j5, j6, j7, j8⟩
              · exact absurd hf (h j (by omega))
              · have := j7 j (by omega) hf
                omega
          · rcases hinv with ⟨h, -⟩ | ⟨j0, j1, j2, j3, j4, j5, j6, j7, j8⟩
            · exact absurd hf (h j hj)
            · have := j7 j hj hf
              omega
        obtain ⟨x', M2, g1, g2, g3⟩ := ih (k + 1) (R : Int) (H (3 * a 0 6 + k)) M' (by omega) (hC.st t4) hS' hinv2
        exact ⟨x', M2, (pLp (step := fun s => f_Open_lowestBest_s30 s.2.2.2 (nI (a 0 6)) (nI (aFw a)) s.1 s.2.1 s.2.2.1) (s := (zI best, nI x, nI k, W)) pre).trans g1, g2, g3⟩
    · rw [if_neg (fun z => w (fit.mp z))] at ft
      rw [ft, pB, if_pos (show nI 0 = 0 from rfl)] at pre
      unfold f_Open_lowestBest_b96 at pre
      rw [nI_1] at pre
      have nk : ∀ j, j < k + 1 → fitk H a j → j < k := fun j hj hf => by
        by_cases z : j = k
        · rw [z] at hf; exact absurd hf w
        · omega
      have hinv2 : ((∀ j, j < k + 1 → ¬ fitk H a j) ∧ best = -1 ∧ x = 4294967295 ∨ ∃ j0, j0 < k + 1 ∧ fitk H a j0 ∧ best = Tk H a sd n j0 ∧ 0 ≤ best ∧ best ≤ 4 ∧ x = H (3 * a 0 6 + j0) ∧ (∀ j, j < k + 1 → fitk H a j → Tk H a sd n j ≤ best) ∧ ∀ j, j < j0 → fitk H a j → Tk H a sd n j < best) := by
        rcases hinv with ⟨h, h1, h2⟩ | ⟨j0, j1, j2, j3, j4, j5, j6, j7, j8⟩
        · exact Or.inl ⟨fun j hj hf => h j (nk j hj hf) hf, h1, h2⟩
        · exact Or.inr ⟨j0, by omega, j2, j3, j4, j5, j6, fun j hj hf => j7 j (nk j hj hf) hf, j8⟩
      obtain ⟨x', M2, g1, g2, g3⟩ := ih (k + 1) best x W (by omega) hC hS hinv2
      exact ⟨x', M2, (pLp (step := fun s => f_Open_lowestBest_s30 s.2.2.2 (nI (a 0 6)) (nI (aFw a)) s.1 s.2.1 s.2.2.1) (s := (zI best, nI x, nI k, W)) pre).trans g1, g2, g3⟩
theorem p_best (h0 : M 0 = eN a) (hV : aV a) (hf : few a) : ∃ x M', f_DS_bestCard M = some (.inr (nI x, M')) ∧ isB a (a 0 6 % 2) (32 - a 1 3 - 1) x ∧ ∀ g c, ¬ (g = 18 ∧ (c = 8 ∨ c = 9 ∨ c = 10)) → M' g c = M g c := by
  have h3 : ∀ p, p < 4 → aHs a p ≤ 3 := (aMx_if2 _ _ 4).mp hf.2
  obtain ⟨f1, f2, f3⟩ := few_cards hV hf.1 h3
  have ht := hV.2.1.2.1 (Or.inr hf.1)
  obtain ⟨M1, b, t1, t2, t3, t4, t5⟩ := p_take h0 hV hf.1 h3 (cu := 1) (by omega)
  obtain ⟨hH, hord⟩ := HS_HR (b := b) h3
  have hP : PO a (a 1 3 % 4) (a 1 3 % 4 + (32 - a 1 3)) (32 - a 1 3 - 1 + 1) := ⟨by omega, by omega, by omega, by omega, f2⟩
  obtain ⟨x, M2, g1, g2, g3⟩ := p_bestLoop (M := M1) hV hf.1 hP hH rfl hord (fun M' hs => by
    have e8 : M' 18 8 = M1 18 8 := hs.2.2 18 8 (by omega)
    rw [e8]
    exact ⟨t3, t4⟩) 3 0 (-1) 4294967295 M1 rfl t2 (stays.rf M1 _) (Or.inl ⟨fun j hj => absurd hj (by omega), rfl, rfl⟩)
  refine ⟨x, M2, ?_, g2, fun g c z => (g3.2.2 g c (by omega)).trans (t5 g c z)⟩
  have epl : gRem (nI (aLead a) + nI (a 1 3 % 4)) 4 = nI (a 0 6) := by
    rw [nI_add]
    have : aLead a < 4 := by unfold aLead; omega
    rw [show gRem (nI (aLead a + a 1 3 % 4)) 4 = nI ((aLead a + a 1 3 % 4) % 4) from z_rem (d := 4) (by omega) (by omega) (by omega)]
    congr 1
    unfold aLead
    omega
  have fo := p_oFollow t2 hH hV hf.1 hP
  unfold f_DS_bestCard
  rw [(k_few h0 hV).1 hf]
  show ((f_Open_take 0 M 1).bind fun q2 => (f_Open_lowestBest q2).bind fun q3 => some (Sum.inr (q3.1, q3.2))) = _
  rw [show f_Open_take 0 M 1 = some M1 from t1, pB]
  unfold f_Open_lowestBest
  rw [t3, t4, epl, fo, pB, show f_Open_lowestBest_l30 (nI (a 0 6)) (nI (aFw a)) (-1, -1, 0, M1) = some (nI x, M2) from g1, pB]
/-- the model's loop -/
theorem q_bestLoop (hR : RM a r) (hV : aV a) (hp : a 0 5 = 2) (hn : a 1 3 + (n + 1) = 32) (hn12 : n + 1 ≤ 12) (hs : sd < 2) {x : Nat} (hx : isB a sd n x) : ∀ m c W, c + m = x → W 19 2 = (fun j => nI (r j)) → ∃ W', f_Mo_bestCard_l42 (nI sd) (nI (TS sd (n + 1) a)) (nI c, W) = some (nI x, W') ∧ ∀ g c, ¬ (g = 19 ∧ (c = 3 ∨ c = 4 ∨ c = 5 ∨ c = 6 ∨ c = 7)) → W' g c = W g c := by
  have ht := hV.2.1.2.1 (Or.inr hp)
  have hbT := TS_b hs (n + 1) a hV (Or.inl ⟨hp, hn, by omega⟩)
  have h11 := hV.2.1.2.2.2.2.2.2.2.2.2.2
  have h10 := hV.2.1.2.2.2.2.2.2.2.2.2.1
  have hV98 : TS sd (n + 1) a ≤ 98 := by
    rcases (show sd = 0 ∨ sd = 1 by omega) with k | k <;> rw [k] at hbT ⊢ <;> omega
  -- one card
  have one : ∀ c W, c < 32 → W 19 2 = (fun j => nI (r j)) → aOk a c = true → ∃ W', f_Mo_bestCard_s42 W (nI sd) (nI (TS sd (n + 1) a)) (nI c) = (if TS sd n (aLay a c) = TS sd (n + 1) a then some (.inr (nI c, W')) else some (.inl (nI (c + 1), W'))) ∧ ∀ g c, ¬ (g = 19 ∧ (c = 3 ∨ c = 4 ∨ c = 5 ∨ c = 6 ∨ c = 7)) → W' g c = W g c := by
    intro c W hc hW ho
    have hr := ok_rs.mp ho
    have hV' := aV_lay hV hp hc hr
    have hph := lay_ph hV hp hc
    have er := q_reason (M := W) (k := 2) hR hV.O (Or.inr hp) ht hc
    rw [rW_self hW, hr] at er
    obtain ⟨r3, h3⟩ : ∃ r3 : Nat → Nat, W 19 3 = fun j => nI (r3 j) := ⟨fun j => (W 19 3 j).toBitVec.toNat, funext fun j => z_of _⟩
    have e2 := q_copy (M := W) (c0 := 2) (n0 := 197) (c1 := 3) (n1 := 197) (i := 0) (j := 0) (f := r) (r := r3) (by omega) hW (by omega) (by omega) (by omega) (by omega)
    rw [rW_self h3] at e2
    have hRc : RM a (rCp r r3 0 0 197) := RM_cong hV.O.2.1 (fun j hj => by
      unfold rCp
      rw [if_pos (by omega)]
      refine congrArg r ?_
      omega) hR
    obtain ⟨r', p1, p2⟩ := q_put (M := W) (k := 3) hRc (hV.P hp) hc
    obtain ⟨W', s1, s2⟩ := q_searched (W := rW W 3 r') (c0 := 3) (sd := sd) (n := n) (Or.inr rfl) (rW_r _ _ _) p2 hV' hs (by omega) (by omega) (by omega)
    refine ⟨W', ?_, fun g c0 z => ?_⟩
    · unfold f_Mo_bestCard_s42 f_Mo_bestCard_b95
      have h98 := TS_98 hs hV hp hn c hc ho
      rw [if_neg (show ¬ (32 : Int32) ≤ nI c from nI_ge (b := 32) hc (by omega)), er, pB, if_pos (show nI 0 = 0 from rfl), show f_Mo_copyState 19 2 197 19 3 197 W 0 0 = some (rW W 3 (rCp r r3 0 0 197)) from e2, pB, p1, pB, s1, pB]
      dsimp only
      rw [nI_1]
      by_cases y : TS sd n (aLay a c) = TS sd (n + 1) a
      · rw [if_pos (by rw [y]), if_pos y]
      · rw [if_neg (z_ne (by omega) (by omega) y), if_neg y]
    · rw [s2 g c0 (by omega)]
      unfold rW
      rw [gUp_n _ _ (by omega)]
  intro m
  induction m with
  | zero =>
    intro c W hcm hW
    have hcx : c = x := by omega
    subst hcx
    obtain ⟨W', s1, s2⟩ := one c W hx.1 hW hx.2.1
    rw [if_pos hx.2.2.1] at s1
    exact ⟨W', pLx (step := fun s => f_Mo_bestCard_s42 s.2 (nI sd) (nI (TS sd (n + 1) a)) s.1) (s := (nI c, W)) s1, s2⟩
  | succ m ih =>
    intro c W hcm hW
    have hx32 := hx.1
    by_cases z : aOk a c = true
    · obtain ⟨W', s1, s2⟩ := one c W (by omega) hW z
      rw [if_neg (hx.2.2.2 c (by omega) z)] at s1
      obtain ⟨W2, g1, g2⟩ := ih (c + 1) W' (by omega) ((s2 19 2 (by omega)).trans hW)
      exact ⟨W2, (pLp (step := fun s => f_Mo_bestCard_s42 s.2 (nI sd) (nI (TS sd (n + 1) a)) s.1) (s := (nI c, W)) s1).trans g1, fun g c0 zz => (g2 g c0 zz).trans (s2 g c0 zz)⟩
    · have hr : aRs a c ≠ 0 := fun q => z (ok_rs.mpr q)
      have hle := aRs_le a c
      have er := q_reason (M := W) (k := 2) hR hV.O (Or.inr hp) ht (show c < 32 by omega)
      rw [rW_self hW] at er
      have s1 : f_Mo_bestCard_s42 W (nI sd) (nI (TS sd (n + 1) a)) (nI c) = some (.inl (nI (c + 1), W)) := by
        unfold f_Mo_bestCard_s42 f_Mo_bestCard_b95
        rw [if_neg (show ¬ (32 : Int32) ≤ nI c from nI_ge (b := 32) (by omega) (by omega)), er, pB, if_neg (show ¬ nI (aRs a c) = 0 from z_ne (y := 0) (by omega) (by omega) hr), nI_1]
      obtain ⟨W2, g1, g2⟩ := ih (c + 1) W (by omega) hW
      exact ⟨W2, (pLp (step := fun s => f_Mo_bestCard_s42 s.2 (nI sd) (nI (TS sd (n + 1) a)) s.1) (s := (nI c, W)) s1).trans g1, g2⟩
theorem best_call (hI : Inv k M) : CALL k M f_Law_bestCard f_Mo_bestCard := by
  have hI0 := hI
  obtain ⟨E, n, c, u, l, t, r, d, q, hC, hM, hV⟩ := hI
  have hG := hV.2.2.2.2.2.2.1.1
  have h0 := hC.1 0 (by omega)
  have hR := hM.2.2.2.1
  by_cases hf : few (E 0)
  · have h3 : ∀ p, p < 4 → aHs (E 0) p ≤ 3 := (aMx_if2 _ _ 4).mp hf.2
    obtain ⟨f1, f2, f3⟩ := few_cards hG hf.1 h3
    have hs2 : E 0 0 6 % 2 < 2 := by omega
    have ht := hG.2.1.2.1 (Or.inr hf.1)
    obtain ⟨x, Mc, g1, g2, g3⟩ := p_best h0 hG hf
    obtain ⟨n1, hn1⟩ : ∃ n1, n1 = 32 - E 0 1 3 - 1 := ⟨_, rfl⟩
    rw [← hn1] at g2
    refine calc_call (b := nI x) (Mc := Mc) hI0 ?_ (IS_18 g3) (funext fun c => g3 19 c (by omega)) (fun W hW => ?_)
    · unfold f_Law_bestCard
      rw [g1]
      rfl
    · have hW2 : gSt W 19 0 0 0 19 2 = fun j => nI (r j) := by rw [st_n _ _ _ (by omega)]; exact (hM.c19 hW).1
      obtain ⟨W1, s1, s2⟩ := q_searched (W := gSt W 19 0 0 0) (c0 := 2) (sd := E 0 0 6 % 2) (n := n1 + 1) (Or.inl rfl) hW2 hR hG hs2 (by omega) (by omega) (Or.inl ⟨hf.1, by omega⟩)
      obtain ⟨W', b1, b2⟩ := q_bestLoop hR hG hf.1 (show E 0 1 3 + (n1 + 1) = 32 by omega) (by omega) hs2 g2 x 0 W1 (by omega) ((s2 19 2 (by omega)).trans hW2)
      have o : ∀ g c, ¬ (g = 19 ∧ (c = 3 ∨ c = 4 ∨ c = 5 ∨ c = 6 ∨ c = 7)) → W' g c = gSt W 19 0 0 0 g c := fun g c z => (b2 g c z).trans (s2 g c (by omega))
      refine ⟨W', ?_, ?_, fun g hg => ?_, (IS_st W (k := 0) 0 (by omega)).tr (IS_19 o)⟩
      · unfold f_Mo_bestCard
        rw [(q_near (hM.c19 hW).1 hR hG).1 hf, pB, if_neg (show ¬ (1 : Int32) = 0 by decide)]
        unfold f_Mo_bestCard_b13
        rw [q_ref0, pB, if_pos rfl]
        dsimp only
        rw [hW2, show gRd 197 (fun j => nI (r j)) 2 = some (nI (r 2)) from pRd _ (show 2 < 197 by omega) (by omega), pB, hR.r2 (Or.inr hf.1), show gRem (nI (E 0 0 6)) 2 = nI (E 0 0 6 % 2) from z_rem (d := 2) (by omega) (by omega) (by omega), s1, pB]
        exact b1
      · rw [o 19 0 (by omega), st_00]
      · funext c0
        rw [o g c0 (by omega)]
        exact gUp_n _ _ (by omega)
  · refine throw_call (cd := 1) hI0 (by decide) ?_ ?_
    · unfold f_Law_bestCard f_DS_bestCard
      rw [(k_few h0 hG).2 hf]
      rfl
    · unfold f_Mo_bestCard
      rw [(q_near hM.1 hR hG).2 hf, pB, if_pos rfl]
      unfold f_Mo_bestCard_b13
      rw [q_ref1 _ (by decide), pB, if_neg (show ¬ (1 : Int32) = 0 by decide)]
theorem s_c17 {Ls : Nat} {xs : Nat → Int32} (x : Int32) (hI : Inv k M) : ∃ M', f_law_c17 Ls xs M x = some M' ∧ Inv (k + 1) M' := by
  obtain ⟨cd, M1, b, M2, h1, h2, h3, h4, h5⟩ := best_call hI
  refine ⟨M2, ?_, h5⟩
  unfold f_law_c17
  rw [h1, pB, h2, pB]
  exact c_tail (q := (b, M2)) h3 h4
end BC
