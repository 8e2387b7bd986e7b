-- ===== PURE: bestCard, by both =====
section BC
variable {M M' W : gMem} {E : Nat → Nat → Nat → Nat} {n c k : Nat} {u : Nat → Nat} {l : Nat} {t r d q : Nat → Nat} {a : Nat → Nat → Nat} {H : Nat → Nat} {dp tot sd : Nat}
/-- the card that is told: the lowest one with the most tricks -/
def isB (a : Nat → Nat → Nat) (sd n x : Nat) : Prop := x < 32 ∧ aOk a x = true ∧ TS sd n (aLay a x) = TS sd (n + 1) a ∧ ∀ y, y < x → aOk a y = true → TS sd n (aLay a y) ≠ TS sd (n + 1) a
theorem p_bestLoop (hV : aV a) (hp : a 0 5 = 2) (hP : PO a dp tot (n + 1)) (hH : HR H a) (ho : a 0 6 % 2 = sd) (hord : ∀ p k k', p < 4 → k < k' → k' < 3 → H (3 * p + k) ≠ 4294967295 → H (3 * p + k') ≠ 4294967295 → H (3 * p + k) < H (3 * p + k')) (e2 : ∀ M', stays M M' dp → M' 18 8 2 = nI dp ∧ M' 18 8 4 = nI (aLead a)) : ∀ m k (best : Int) (x : Nat) W, k + m = 3 → CHm W H a dp tot sd 1 → stays M W dp → ((∀ j, j < k → ¬ fitk H a j) ∧ best = -1 ∧ x = 4294967295 ∨ ∃ j0, j0 < k ∧ fitk H a j0 ∧ best = Tk H a sd n j0 ∧ 0 ≤ best ∧ best ≤ 4 ∧ x = H (3 * a 0 6 + j0) ∧ (∀ j, j < k → fitk H a j → Tk H a sd n j ≤ best) ∧ ∀ j, j < j0 → fitk H a j → Tk H a sd n j < best) → ∃ x' M', f_Open_lowestBest_l30 (nI (a 0 6)) (nI (aFw a)) (zI best, nI x, nI k, W) = some (nI x', M') ∧ isB a sd n x' ∧ stays M M' dp := by
  have hs2 : sd < 2 := by omega
  have ht := hV.2.1.2.1 (Or.inr hp)
  have hO := hV.O
  have hfw := aFw_lt hO.2.1 hO.2.2
  have hfw2 : aFw a = 4294967295 ∨ aFw a < 4 := hfw.elim Or.inl (fun h => Or.inr h.1)
  have n12 : n + 1 ≤ 12 := by have := hP.2.2.2.1; have := hP.2.2.2.2; omega
  obtain ⟨v1, kv, v2, v3, v4⟩ := V_own (n := n) hV hp hH ho
  intro m
  induction m with
  | zero =>
    intro k best x W hkm hC hS hinv
    have hk : k = 3 := by omega
    subst hk
    rcases hinv with ⟨h, -⟩ | ⟨j0, j1, j2, j3, j4, j5, j6, j7, j8⟩
    · exact absurd v3 (h kv v2)
    · refine ⟨x, W, pLx ?_, ?_, hS⟩
      · show f_Open_lowestBest_s30 W (nI (a 0 6)) (nI (aFw a)) (zI best) (nI x) (nI 3) = _
        unfold f_Open_lowestBest_s30
        rw [if_pos (by decide)]
      · have hfo := fit_ok hV hp hH j1 j2
        have hbv : best = (TS sd (n + 1) a : Int) - a 3 sd := by
          have := j7 kv v2 v3
          have := v1 j0 j1 j2
          omega
        rw [j6]
        refine ⟨hfo.1, hfo.2, ?_, fun y hy hoy => ?_⟩
        · unfold Tk at j3
          omega
        · obtain ⟨j, i1, i2, i3⟩ := fit_all hV hp hH (show y < 32 by omega) hoy
          have hlt : j < j0 := by
            rcases Nat.lt_trichotomy j j0 with w | w | w
            · exact w
            · rw [← w, i2] at hy; omega
            · have := hord (a 0 6) j0 j ht w i1 j2.1 i3.1
              omega
          have := j8 j hlt i3
          unfold Tk at this
          rw [i2] at this
          omega
  | succ m ih =>
    intro k best x W hkm hC hS hinv
    have hb : -1 ≤ best ∧ best ≤ 4 := by rcases hinv with ⟨-, h, -⟩ | ⟨_, _, _, _, h1, h2, _⟩ <;> omega
    have hk2 := hH.1 (a 0 6) k ht (show k < 3 by omega)
    have ft := p_fits (x := H (3 * a 0 6 + k)) (y := aFw a) (hk2.elim Or.inl (fun h => Or.inr h.1)) hfw2
    have fit : (H (3 * a 0 6 + k) ≠ 4294967295 ∧ (aFw a = 4294967295 ∨ H (3 * a 0 6 + k) / 8 = aFw a)) ↔ fitk H a k := by
      unfold fitk aRs
      constructor
      · rintro ⟨q1, q2⟩
        refine ⟨q1, ?_⟩
        rw [if_pos (hk2.resolve_left q1).2, if_pos q2]
      · rintro ⟨q1, q2⟩
        refine ⟨q1, ?_⟩
        rw [if_pos (hk2.resolve_left q1).2] at q2
        by_cases w : aFw a = 4294967295 ∨ H (3 * a 0 6 + k) / 8 = aFw a
        · exact w
        · rw [if_neg w] at q2; omega
    have pre : f_Open_lowestBest_s30 W (nI (a 0 6)) (nI (aFw a)) (zI best) (nI x) (nI k) = (f_Open_fits (nI (H (3 * a 0 6 + k))) (nI (aFw a))).bind fun q3 => if q3 = 0 then f_Open_lowestBest_b96 W (nI (a 0 6)) (nI (aFw a)) (zI best) (nI x) (nI k) else (f_Open_tricksWith (gTF 29).1 W (nI (3 * a 0 6 + k)) (nI dp) (nI (aLead a)) (zI best) (zI 9)).bind fun q4 => if q4.1 ≤ zI best then f_Open_lowestBest_b96 q4.2 (nI (a 0 6)) (nI (aFw a)) (zI best) (nI x) (nI k) else f_Open_lowestBest_b96 q4.2 (nI (a 0 6)) (nI (aFw a)) q4.1 (nI (H (3 * a 0 6 + k))) (nI k) := by
      unfold f_Open_lowestBest_s30
      rw [show (3 : Int32) = nI 3 from rfl, if_neg (nI_ge (by omega) (by omega)), pk_mul, nI_add, x_at (by omega) (by omega), pB, hC.1, show a 0 6 * 3 + k = 3 * a 0 6 + k by omega, (e2 W hS).1, (e2 W hS).2]
      rfl
    by_cases w : fitk H a k
    · rw [if_pos (fit.mpr w)] at ft
      obtain ⟨R, M', t1, t2, t3, t4⟩ := tw_step (TFS_all n 29 (by omega)) (lo := best) (hi := 9) hV hp hP hs2 (by omega) hC hH (show k < 3 by omega) w.1 w.2 (by omega) (by omega) (by omega) (by omega) (fun _ => by omega)
      have hR4 : R ≤ 4 := by omega
      have A := (t3.2 rfl).1 (by omega)
      have B := (t3.2 rfl).2
      have hTk : Tk H a sd n k = (TS sd n (aLay a (H (3 * a 0 6 + k))) : Int) - a 3 sd := rfl
      rw [← hTk] at A B
      rw [ft, pB, if_neg (show ¬ nI 1 = 0 by decide), t1, pB] at pre
      dsimp only at pre
      rw [← zI_nat (show R ≤ 1000 by omega)] at pre
      have hS' := hS.tr t4
      by_cases y : (R : Int) ≤ best
      · rw [if_pos (show zI (R : Int) ≤ zI best by rw [fa_le, zI_toInt (by omega), zI_toInt (by omega)]; exact y)] at pre
        unfold f_Open_lowestBest_b96 at pre
        rw [nI_1] at pre
        have hinv2 : ((∀ j, j < k + 1 → ¬ fitk H a j) ∧ best = -1 ∧ x = 4294967295 ∨ ∃ j0, j0 < k + 1 ∧ fitk H a j0 ∧ best = Tk H a sd n j0 ∧ 0 ≤ best ∧ best ≤ 4 ∧ x = H (3 * a 0 6 + j0) ∧ (∀ j, j < k + 1 → fitk H a j → Tk H a sd n j ≤ best) ∧ ∀ j, j < j0 → fitk H a j → Tk H a sd n j < best) := by
          rcases hinv with ⟨-, h, -⟩ | ⟨j0, j1, j2, j3, j4, j5, j6, j7, j8⟩
          · omega
          · refine Or.inr ⟨j0, by omega, j2, j3, j4, j5, j6, fun j hj hf => ?_, j8⟩
            by_cases z : j = k
            · rw [z]; omega
            · exact j7 j (by omega) hf
        obtain ⟨x', M2, g1, g2, g3⟩ := ih (k + 1) best x M' (by omega) (hC.st t4) hS' hinv2
        exact ⟨x', M2, (pLp (step := fun s => f_Open_lowestBest_s30 s.2.2.2 (nI (a 0 6)) (nI (aFw a)) s.1 s.2.1 s.2.2.1) (s := (zI best, nI x, nI k, W)) pre).trans g1, g2, g3⟩
      · rw [if_neg (show ¬ zI (R : Int) ≤ zI best by rw [fa_le, zI_toInt (by omega), zI_toInt (by omega)]; exact y)] at pre
        unfold f_Open_lowestBest_b96 at pre
        rw [nI_1] at pre
        have hB := B (by omega)
        have hinv2 : ((∀ j, j < k + 1 → ¬ fitk H a j) ∧ (R : Int) = -1 ∧ H (3 * a 0 6 + k) = 4294967295 ∨ ∃ j0, j0 < k + 1 ∧ fitk H a j0 ∧ (R : Int) = Tk H a sd n j0 ∧ 0 ≤ (R : Int) ∧ (R : Int) ≤ 4 ∧ H (3 * a 0 6 + k) = H (3 * a 0 6 + j0) ∧ (∀ j, j < k + 1 → fitk H a j → Tk H a sd n j ≤ (R : Int)) ∧ ∀ j, j < j0 → fitk H a j → Tk H a sd n j < (R : Int)) := by
          refine Or.inr ⟨k, by omega, w, by omega, by omega, by omega, rfl, fun j hj hf => ?_, fun j hj hf => ?_⟩
          · by_cases z : j = k
            · rw [z]; omega
            · rcases hinv with ⟨h, -⟩ | ⟨j0, j1, j2, j3, j4, j5, j6, j7, j8⟩
              · exact absurd hf (h j (by omega))
              · have := j7 j (by omega) hf
                omega
          · rcases hinv with ⟨h, -⟩ | ⟨j0, j1, j2, j3, j4, j5, j6, j7, j8⟩
            · exact absurd hf (h j hj)
            · have := j7 j hj hf
              omega
        obtain ⟨x', M2, g1, g2, g3⟩ := ih (k + 1) (R : Int) (H (3 * a 0 6 + k)) M' (by omega) (hC.st t4) hS' hinv2
        exact ⟨x', M2, (pLp (step := fun s => f_Open_lowestBest_s30 s.2.2.2 (nI (a 0 6)) (nI (aFw a)) s.1 s.2.1 s.2.2.1) (s := (zI best, nI x, nI k, W)) pre).trans g1, g2, g3⟩
    · rw [if_neg (fun z => w (fit.mp z))] at ft
      rw [ft, pB, if_pos (show nI 0 = 0 from rfl)] at pre
      unfold f_Open_lowestBest_b96 at pre
      rw [nI_1] at pre
      have nk : ∀ j, j < k + 1 → fitk H a j → j < k := fun j hj hf => by
        by_cases z : j = k
        · rw [z] at hf; exact absurd hf w
        · omega
      have hinv2 : ((∀ j, j < k + 1 → ¬ fitk H a j) ∧ best = -1 ∧ x = 4294967295 ∨ ∃ j0, j0 < k + 1 ∧ fitk H a j0 ∧ best = Tk H a sd n j0 ∧ 0 ≤ best ∧ best ≤ 4 ∧ x = H (3 * a 0 6 + j0) ∧ (∀ j, j < k + 1 → fitk H a j → Tk H a sd n j ≤ best) ∧ ∀ j, j < j0 → fitk H a j → Tk H a sd n j < best) := by
        rcases hinv with ⟨h, h1, h2⟩ | ⟨j0, j1, j2, j3, j4, j5, j6, j7, j8⟩
        · exact Or.inl ⟨fun j hj hf => h j (nk j hj hf) hf, h1, h2⟩
        · exact Or.inr ⟨j0, by omega, j2, j3, j4, j5, j6, fun j hj hf => j7 j (nk j hj hf) hf, j8⟩
      obtain ⟨x', M2, g1, g2, g3⟩ := ih (k + 1) best x W (by omega) hC hS hinv2
      exact ⟨x', M2, (pLp (step := fun s => f_Open_lowestBest_s30 s.2.2.2 (nI (a 0 6)) (nI (aFw a)) s.1 s.2.1 s.2.2.1) (s := (zI best, nI x, nI k, W)) pre).trans g1, g2, g3⟩
theorem p_best (h0 : M 0 = eN a) (hV : aV a) (hf : few a) : ∃ x M', f_DS_bestCard M = some (.inr (nI x, M')) ∧ isB a (a 0 6 % 2) (32 - a 1 3 - 1) x ∧ ∀ g c, ¬ (g = 18 ∧ (c = 8 ∨ c = 9 ∨ c = 10)) → M' g c = M g c := by
  have h3 : ∀ p, p < 4 → aHs a p ≤ 3 := (aMx_if2 _ _ 4).mp hf.2
  obtain ⟨f1, f2, f3⟩ := few_cards hV hf.1 h3
  have ht := hV.2.1.2.1 (Or.inr hf.1)
  obtain ⟨M1, b, t1, t2, t3, t4, t5⟩ := p_take h0 hV hf.1 h3 (cu := 1) (by omega)
  obtain ⟨hH, hord⟩ := HS_HR (b := b) h3
  have hP : PO a (a 1 3 % 4) (a 1 3 % 4 + (32 - a 1 3)) (32 - a 1 3 - 1 + 1) := ⟨by omega, by omega, by omega, by omega, f2⟩
  obtain ⟨x, M2, g1, g2, g3⟩ := p_bestLoop (M := M1) hV hf.1 hP hH rfl hord (fun M' hs => by
    have e8 : M' 18 8 = M1 18 8 := hs.2.2 18 8 (by omega)
    rw [e8]
    exact ⟨t3, t4⟩) 3 0 (-1) 4294967295 M1 rfl t2 (stays.rf M1 _) (Or.inl ⟨fun j hj => absurd hj (by omega), rfl, rfl⟩)
  refine ⟨x, M2, ?_, g2, fun g c z => (g3.2.2 g c (by omega)).trans (t5 g c z)⟩
  have epl : gRem (nI (aLead a) + nI (a 1 3 % 4)) 4 = nI (a 0 6) := by
    rw [nI_add]
    have : aLead a < 4 := by unfold aLead; omega
    rw [show gRem (nI (aLead a + a 1 3 % 4)) 4 = nI ((aLead a + a 1 3 % 4) % 4) from z_rem (d := 4) (by omega) (by omega) (by omega)]
    congr 1
    unfold aLead
    omega
  have fo := p_oFollow t2 hH hV hf.1 hP
  unfold f_DS_bestCard
  rw [(k_few h0 hV).1 hf]
  show ((f_Open_take 0 M 1).bind fun q2 => (f_Open_lowestBest q2).bind fun q3 => some (Sum.inr (q3.1, q3.2))) = _
  rw [show f_Open_take 0 M 1 = some M1 from t1, pB]
  unfold f_Open_lowestBest
  rw [t3, t4, epl, fo, pB, show f_Open_lowestBest_l30 (nI (a 0 6)) (nI (aFw a)) (-1, -1, 0, M1) = some (nI x, M2) from g1, pB]
end BC
