-- ===== PURE: simulations, the search, what they refuse =====
def tmost (a : EVN) : Nat := TS (a 0 6 % 2) (32 - a 1 3) a - a 3 (a 0 6 % 2)
section CA
variable {M : gMem} {S : SS} {B k s w l c e m : Nat} {v v2 y z : Int32} {a : EVN}
theorem aZ_A1 (hV : aV a) (h : aZ a) : aZ (aA1 a) := by
  unfold aA1
  by_cases z : a 0 5 = 2
  · rw [if_pos z]
    rcases aAd_4 hV with y | ⟨y1, y2⟩
    · rw [if_pos y]; exact h
    · rw [if_neg (show ¬ aAd a = 4294967295 by omega)]
      exact aZ_lay h hV z y1
  · rw [if_neg z]; exact h
/-- one turn of a simulation -/
theorem p_turn (hV : aV a) (hZ : aZ a) (hd : a 0 4 ≤ B) (hB : B < 1000000) {x : Nat} (hx : x < 2147483648) : ∃ a', (∀ (M : gMem) (e : Nat), f_Scr_doTurn e (aW M e a) (nI x) = some (aW M e a')) ∧ aV a' ∧ aZ a' ∧ a' 0 4 ≤ B + 1 := by
  have hv := hV.2.1
  have h53 := hv.1
  have e16 : gRem (nI x) 16 = nI (x % 16) := z_rem (d := 16) (by omega) (by omega) (by omega)
  have eq : nI x / 16 = nI (x / 16) := z_div (d := 16) (by omega) (by omega) (by omega)
  rcases (show a 0 5 = 0 ∨ a 0 5 = 3 ∨ a 0 5 = 1 ∨ a 0 5 = 2 by omega) with z | z | z | z
  · refine ⟨aDeal a (Int32.toInt64 (nI (x / 16))), fun M e => ?_, aV_deal hV, aZ_deal hZ, by rw [aDeal_4]; omega⟩
    unfold f_Scr_doTurn
    rw [aW_r, z, if_neg (by decide), if_neg (by decide), eq, p_dealWith _ (by omega), pB]
  · refine ⟨aDeal a (Int32.toInt64 (nI (x / 16))), fun M e => ?_, aV_deal hV, aZ_deal hZ, by rw [aDeal_4]; omega⟩
    unfold f_Scr_doTurn
    rw [aW_r, z, if_neg (by decide), if_neg (by decide), eq, p_dealWith _ (by omega), pB]
  · by_cases y : x % 16 < 6
    · obtain ⟨l, hl⟩ : ∃ l, l = 1 + x / 16 % 4 := ⟨_, rfl⟩
      obtain ⟨s, hs⟩ : ∃ s, s = x / 16 / 4 % 5 := ⟨_, rfl⟩
      have el : 1 + gRem (nI (x / 16)) 4 = nI l := by
        rw [show gRem (nI (x / 16)) 4 = nI (x / 16 % 4) from z_rem (d := 4) (by omega) (by omega) (by omega), show (1 : Int32) = nI 1 from rfl, nI_add, hl]
      have es : gRem (nI (x / 16) / 4) 5 = nI s := by
        rw [show nI (x / 16) / 4 = nI (x / 16 / 4) from z_div (d := 4) (by omega) (by omega) (by omega), show gRem (nI (x / 16 / 4)) 5 = nI (x / 16 / 4 % 5) from z_rem (d := 5) (by omega) (by omega) (by omega), hs]
      refine ⟨if 5 * a 0 7 + a 0 8 < 5 * l + s then aBid a l s else a, fun M e => ?_, ?_, ?_, ?_⟩
      · unfold f_Scr_doTurn
        rw [aW_r, z, if_pos (by decide), e16, if_neg (show ¬ (6 : Int32) ≤ nI (x % 16) from nI_ge (b := 6) y (by omega)), eq, el, es, p_tryBid hV (by omega) (by omega)]
        by_cases w : 5 * a 0 7 + a 0 8 < 5 * l + s
        · rw [if_pos ⟨z, ⟨by omega, by omega, by omega⟩, w⟩, if_pos w, pB]
        · rw [if_neg (fun q => w q.2.2), if_neg w, pB]
      · split
        · exact aV_bid hV z (by omega) (by omega) (by omega)
        · exact hV
      · split
        · exact aZ_bid hZ
        · exact hZ
      · split
        · rw [aBid_4]; omega
        · omega
    · refine ⟨aPass a, fun M e => ?_, aV_pass hV z, aZ_pass hZ, by rw [aPass_4]; omega⟩
      unfold f_Scr_doTurn
      rw [aW_r, z, if_pos (by decide), e16, if_pos (show (6 : Int32) ≤ nI (x % 16) from nI_le (a := 6) (by omega) (by omega)), p_tryPass hV, if_pos z, pB]
  · have ht := hv.2.1 (Or.inr z)
    have hn := ok_some hV z
    have hn2 := ct_le (aOk a) 32
    have pc : ∀ (M : gMem) (e : Nat), f_Ev_playableCount e (aW M e a) = some (nI (fb_ct (aOk a) 32)) := fun M e => p_playableCount hV.O z ht
    by_cases y : 8 ≤ x % 16
    · have h4 := aV_A1 hV
      refine ⟨aA1 a, fun M e => ?_, h4.1, aZ_A1 hV hZ, by rw [h4.2]; omega⟩
      unfold f_Scr_doTurn f_Scr_doTurn_b89
      rw [aW_r, z, if_neg (by decide), if_pos (by decide), pc, pB, e16, if_pos (show (8 : Int32) ≤ nI (x % 16) from nI_le (a := 8) y (by omega)), p_advice1 hV, pB]
    · have hk : x / 16 % fb_ct (aOk a) 32 < fb_ct (aOk a) 32 := Nat.mod_lt _ hn
      obtain ⟨w, w1, w2, w3⟩ := fb_ct_kth hk
      have ew : kth (aOk a) (x / 16 % fb_ct (aOk a) 32) 32 = w := kth_yes w2 w3 32 w1
      have hr : aRs a w = 0 := ok_rs.mp w2
      have nz : gNz (nI (fb_ct (aOk a) 32)) = some (nI (fb_ct (aOk a) 32)) := by
        unfold gNz
        rw [if_neg (show ¬ nI (fb_ct (aOk a) 32) = 0 from z_ne (y := 0) (by omega) (by omega) (by omega))]
      have em : gRem (nI (x / 16)) (nI (fb_ct (aOk a) 32)) = nI (x / 16 % fb_ct (aOk a) 32) := z_rem (by omega) hn (by omega)
      refine ⟨aLay a w, fun M e => ?_, aV_lay hV z w1 hr, aZ_lay hZ hV z w1, by rw [(aLay_0 hV z w1).2.2.2.2.2.1]; omega⟩
      unfold f_Scr_doTurn
      rw [aW_r, z, if_neg (by decide), if_pos (by decide), pc, pB, e16, if_neg (show ¬ (8 : Int32) ≤ nI (x % 16) from nI_ge (b := 8) (by omega) (by omega)), if_neg (show ¬ nI (fb_ct (aOk a) 32) ≤ 0 from nI_ge (a := 0) hn (by omega)), nz, pB, eq, em, p_legal hV.O z ht (by omega), ew, pB, p_tryCard hV (by omega), if_pos ⟨z, w1, hr⟩, pB]
theorem p_simLoop (hm : m ≤ 1000) (hB : B < 100000) : ∀ mm i a x, i + mm = m → aV a → aZ a → a 0 4 ≤ B + i → ∃ a', aZ a' ∧ ∀ M, f_DS_simulate_l39 (nI m) (x, nI i, aW M 1 a) = some (.inr (sV a' (M 0 0 11) (M 0 0 12) (M 0 0 4), aW M 1 a')) := by
  intro mm
  induction mm with
  | zero =>
    intro i a x him hV hZ hd
    refine ⟨a, hZ, fun M => pLx ?_⟩
    show f_DS_simulate_s39 (aW M 1 a) (nI m) x (nI i) = _
    unfold f_DS_simulate_s39
    rw [if_pos (nI_le (by omega) (by omega)), aW_r, aW_r, aW_r, aW_n M a (by omega)]
    rfl
  | succ mm ih =>
    intro i a x him hV hZ hd
    obtain ⟨a1, t1, t2, t3, t4⟩ := p_turn hV hZ hd (by omega) (up_lt (fol x))
    obtain ⟨a', k1, k2⟩ := ih (i + 1) a1 (fol x) (by omega) t2 t3 (by omega)
    refine ⟨a', k1, fun M => ?_⟩
    have s1 : f_DS_simulate_s39 (aW M 1 a) (nI m) x (nI i) = some (.inl (fol x, nI (i + 1), aW M 1 a1)) := by
      unfold f_DS_simulate_s39 f_DS_following f_DS_upperBits
      rw [if_neg (nI_ge (by omega) (by omega)), pB]
      show ((some (Int64.toInt32 (gUsh (fol x) 33))).bind fun q3 => (f_Scr_doTurn 1 (aW M 1 a) q3).bind fun q4 => some (Sum.inl (fol x, (nI i + 1), q4))) = _
      rw [pB, up_eq, t1, pB, nI_1]
    exact (pLp (step := fun s0 => f_DS_simulate_s39 s0.2.2 (nI m) s0.1 s0.2.1) (s := (x, nI i, aW M 1 a)) s1).trans (k2 M)
theorem c_sim (hV : DV B S) (hB : B < 100000) (hm1 : 1 ≤ m) (hm2 : m ≤ 200) (x : Int64) : ∃ v, DO (fun M => f_Law_doSimulate M x (nI m)) S v S := by
  have hG := hV.1
  obtain ⟨a', k1, k2⟩ := p_simLoop (B := B) (m := m) (by omega) hB m 0 S.1 x (by omega) hG.1 hG.2.2.1 hG.2.2.2.1
  refine ⟨sV a' (nI (S.1 0 11)) (nI (S.1 0 12)) (nI (S.1 0 4)), ?_⟩
  intro M hM
  have h0 := hM.now
  obtain ⟨E, n, h1, hn, hc, h4, h5, h6, h7⟩ := hM
  have e1 := p_copyFrom (M := M) (e := 1) (e0 := 0) (a := E 1) (by omega) (h1.1 0 (by omega))
  rw [aW_self (h1.1 1 (by omega)), aZ_cp (h7 1 (by omega)) (h7 0 (by omega)), h4] at e1
  refine ⟨aW M 1 a', ?_, ⟨fU E 1 a', n, h1.ev (by omega), hn, hc, by rw [fU_n _ _ (by omega)]; exact h4, fun j hj => ?_, fun s hs => ⟨(h6 s hs).1, fun hu => by rw [fU_n _ _ (by omega)]; exact (h6 s hs).2 hu⟩, fun e he => ?_⟩, fun g hg => aW_n _ _ (by omega)⟩
  · show f_Law_doSimulate M x (nI m) = _
    unfold f_Law_doSimulate f_DS_simulate
    rw [if_neg (show ¬ nI m < 1 from nI_nlt (b := 1) hm1 (by omega)), if_pos (show nI m ≤ 200 from nI_le (b := 200) hm2 (by omega)), e1, pB, show f_DS_simulate_l39 (nI m) (x, 0, aW M 1 S.1) = _ from k2 M, h0]
    rfl
  · have := rg_lt n S.2.1 (S.2.1 - 1 - j)
    rw [fU_n _ _ (by omega)]
    exact h5 j hj
  · by_cases q : e = 1
    · rw [q, fU_s]; exact k1
    · rw [fU_n _ _ q]; exact h7 e he
theorem x_sim (x : Int64) (h : v < 1 ∨ nI 201 ≤ v) : f_Law_doSimulate M x v = some (-9999002, M) := by
  unfold f_Law_doSimulate f_DS_simulate
  by_cases q : v < 1
  · rw [if_pos q]; rfl
  · rw [if_neg q, if_neg]
    · rfl
    · intro t
      have n1 : (nI 201).toInt = 201 := rfl
      have n2 : (200 : Int32).toInt = 200 := rfl
      rcases h with h | h
      · exact q h
      · rw [fa_le] at h t
        omega
theorem x_script0 (x : Int64) : f_Law_doScript M 0 x = some (-9999002, M) := by
  unfold f_Law_doScript f_DS_runScript
  rw [if_pos (by decide)]
  rfl
theorem x_script1 (h1 : 10000 ≤ s) (h2 : s < 2 ^ 63) : f_Law_doScript M 1 (lN s) = some (-9999002, M) := by
  unfold f_Law_doScript f_DS_runScript
  have e := p_without (s := s) (n := 1) h2 (by omega)
  have h0 : (lN s).toInt = (s : Int) := L_toInt h2
  have hq : s / 10000 ^ 1 < 2 ^ 63 := Nat.lt_of_le_of_lt (Nat.div_le_self _ _) h2
  rw [if_neg (by decide), if_neg (by decide), if_neg (fun t => by
    rw [lg_cmp_lt, Int64.lt_iff_toInt_lt, h0] at t
    have : (0 : Int64).toInt = 0 := rfl
    omega), show f_DS_withoutGroups (lN s) 1 = _ from e, pB, if_neg (fun t => by
    rw [lg_cmp_eq] at t
    have t2 := (fb_lN_inj hq (show 0 < 2 ^ 63 by omega)).mp t
    omega)]
  rfl
theorem x_append (h : v < 0 ∨ nI 256 ≤ v) : f_Law_call M 0 v y z = some (-9999002, M) := by
  rw [k_call0]
  unfold f_Law_tryAppend f_DS_append
  by_cases q : v < 0
  · rw [if_pos q]; rfl
  · rw [if_neg q, if_neg]
    · rfl
    · intro t
      have n1 : (nI 256).toInt = 256 := rfl
      have n2 : (255 : Int32).toInt = 255 := rfl
      rcases h with h | h
      · exact q h
      · rw [fa_le] at h t
        omega
-- the search
theorem x_most1 (h : v < 0 ∨ nI 2 ≤ v) : f_Law_call M 11 v y z = some (-9999002, M) := by
  rw [k_call11]
  unfold f_Law_tryMost f_DS_most
  rw [show (1 : Int32) = nI 1 from rfl, k_what0 (by omega) h]
  rfl
theorem most_cl (hw : w < 2) : f_DS_most M (nI w) = gSq (f_DS_checkFewCards M) fun q2 => if nI w = 1 then f_DS_most_b27 M 1 else f_DS_most_b27 M 0 := by
  unfold f_DS_most
  rw [show f_DS_checkWhat (nI w) 1 = some (.inr ()) from k_what1 (n := 1) (by omega) (by omega)]
  rfl
theorem x_most2 (h : DI M S) (hV : DV B S) (hw : w < 2) (hf : ¬ few S.1) : f_Law_call M 11 (nI w) y z = some (-9999003, M) := by
  rw [k_call11]
  unfold f_Law_tryMost
  rw [most_cl hw, (k_few h.now hV.V).2 hf]
  rfl
theorem c_most (h : DI M S) (hV : DV B S) (hw : w < 2) (hf : few S.1) : ∃ M', f_Law_call M 11 (nI w) y z = some (nI (tmost S.1), M') ∧ DI M' S ∧ FR M M' := by
  obtain ⟨M', g1, g2⟩ := p_most h.now hV.V hf (cu := w) (by omega)
  refine ⟨M', ?_, h.oc g2, FR.oc g2⟩
  rw [k_call11]
  unfold f_Law_tryMost
  have c1 : f_DS_most M (nI w) = some (.inr (nI (tmost S.1), M')) := by
    rw [most_cl hw, (k_few h.now hV.V).1 hf]
    show (if nI w = 1 then f_DS_most_b27 M 1 else f_DS_most_b27 M 0) = _
    rcases (show w = 0 ∨ w = 1 by omega) with q | q
    · rw [q] at g1 ⊢
      rw [if_neg (by decide)]
      exact g1
    · rw [q] at g1 ⊢
      rw [if_pos (by decide)]
      exact g1
  rw [c1]
  rfl
theorem x_best (h : DI M S) (hV : DV B S) (hf : ¬ few S.1) : f_Law_call M 12 v y z = some (-9999003, M) := by
  rw [k_call12]
  unfold f_Law_tryBest f_DS_bestCard
  rw [(k_few h.now hV.V).2 hf]
  rfl
theorem c_best (h : DI M S) (hV : DV B S) (hf : few S.1) : ∃ x M', f_Law_call M 12 v y z = some (nI x, M') ∧ isB S.1 (S.1 0 6 % 2) (32 - S.1 1 3 - 1) x ∧ DI M' S ∧ FR M M' := by
  obtain ⟨x, M', g1, g2, g3⟩ := p_best h.now hV.V hf
  refine ⟨x, M', ?_, g2, h.oc g3, FR.oc g3⟩
  rw [k_call12]
  unfold f_Law_tryBest
  rw [g1]
  rfl
end CA
