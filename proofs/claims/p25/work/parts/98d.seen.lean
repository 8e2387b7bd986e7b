-- ===== PURE: what a player may have holds what the player has =====
theorem aMs_bit (f : Nat → Bool) (i : Nat) : ∀ n, (aMs f n).testBit i = (decide (i < n) && f i)
  | 0 => by
    show (0 : Nat).testBit i = _
    rw [Nat.zero_testBit, show decide (i < 0) = false from decide_eq_false (by omega)]
    rfl
  | n + 1 => by
    show (aMs f n ||| (if f n then 2 ^ n else 0)).testBit i = _
    rw [Nat.testBit_or, aMs_bit f i n]
    have e : (if f n then 2 ^ n else 0 : Nat).testBit i = (decide (n = i) && f n) := by
      by_cases q : f n = true
      · rw [if_pos q, Nat.testBit_two_pow, q, Bool.and_true]
      · rw [if_neg q, Nat.zero_testBit, show f n = false from Bool.eq_false_iff.mpr q, Bool.and_false]
    rw [e]
    by_cases h1 : i < n
    · rw [decide_eq_true h1, decide_eq_true (show i < n + 1 by omega), decide_eq_false (show ¬ n = i by omega), Bool.false_and, Bool.or_false]
    · by_cases h2 : n = i
      · rw [← h2, decide_eq_false (show ¬ n < n by omega), decide_eq_true rfl, decide_eq_true (show n < n + 1 by omega), Bool.false_and, Bool.false_or]
      · rw [decide_eq_false h1, decide_eq_false h2, decide_eq_false (show ¬ i < n + 1 by omega), Bool.false_and, Bool.false_and, Bool.false_or]
theorem aMs_lt (f : Nat → Bool) : ∀ n, aMs f n < 2 ^ n
  | 0 => Nat.one_pos
  | n + 1 => by
    show aMs f n ||| (if f n then 2 ^ n else 0) < 2 ^ (n + 1)
    have h := aMs_lt f n
    have h2 : 2 ^ (n + 1) = 2 * 2 ^ n := by rw [Nat.pow_succ, Nat.mul_comm]
    refine Nat.or_lt_two_pow (by omega) ?_
    have := Nat.two_pow_pos n
    split <;> omega
theorem z_shr : ∀ m : Fin 512, ∀ h : Fin 9, ((nI m >>> (nI h &&& 31)) &&& 1) = nI (if (m : Nat).testBit h then 1 else 0) := by decide +kernel
theorem z_bit {f : Nat → Bool} {h : Nat} (hh : h ≤ 8) : ((nI (aMs f 9) >>> (nI h &&& 31)) &&& 1) = nI (if f h then 1 else 0) := by
  have := z_shr ⟨aMs f 9, aMs_lt f 9⟩ ⟨h, by omega⟩
  refine this.trans ?_
  show nI (if (aMs f 9).testBit h then 1 else 0) = _
  rw [aMs_bit, decide_eq_true (show h < 9 by omega), Bool.true_and]
theorem z_sub {f g : Nat → Bool} (hfg : ∀ i, g i = true → f i = true) : (nI (aMs g 9) &&& (nI (aMs f 9) ^^^ -1)) = 0 := by
  rw [z_m1, fb_xorI, fa_and]
  have : aMs g 9 &&& (aMs f 9 ^^^ 4294967295) = 0 := by
    refine Nat.eq_of_testBit_eq fun i => ?_
    rw [Nat.testBit_and, Nat.testBit_xor, aMs_bit, aMs_bit, Nat.zero_testBit]
    by_cases h1 : i < 9
    · by_cases h2 : g i = true
      · have e : ∀ i : Fin 9, (4294967295 : Nat).testBit i = true := by decide
        rw [h2, hfg i h2, decide_eq_true h1, show (4294967295 : Nat).testBit i = true from e ⟨i, h1⟩]
        rfl
      · rw [show g i = false from Bool.eq_false_iff.mpr h2, Bool.and_false, Bool.false_and]
    · rw [decide_eq_false h1, Bool.false_and, Bool.false_and]
  rw [this]
  rfl
section SE
variable {M : gMem} {S : SS} {B X v p s : Nat} {a : EVN}
theorem hd_hs (hs : s < 4) : aHd a p s ≤ aHs a p := by
  rw [← aHs_sm]
  have := fb_sm_part (fun s => aHd a p s) hs
  omega
/-- the cards a player has are among those that may be had -/
theorem may_has (hV : aV a) (hX : aX a) (hp : p < 4) (hs : s < 4) (hpv : p ≠ v) : (aHd a p s = 0 ∨ a 11 (4 * p + s) = 0) ∧ aHd a p s ≤ aHs a p ∧ aHd a p s ≤ aUn a v s ∧ aUn a v s - aHd a p s ≤ aRm a v p s := by
  have x7 := hX.2.2.2.2.2.2.1
  have w5 := hV.2.2.2.1.2.2.2.2
  refine ⟨?_, hd_hs hs, ?_, ?_⟩
  · have := w5 (4 * p + s) (by omega)
    by_cases q : a 11 (4 * p + s) = 1
    · exact Or.inl (x7 p s hp hs q)
    · exact Or.inr (by omega)
  · unfold aUn
    have := fb_sm_part (fun q => if q = v then 0 else aHd a q s) hp
    rw [if_neg hpv] at this
    omega
  · have e := fb_sm_upd (fun q => if q = v then 0 else aHd a q s) 0 hp
    rw [if_neg hpv] at e
    have l : fb_sm (fun k => if k = p then 0 else if k = v then 0 else aHd a k s) 4 ≤ aRm a v p s := by
      unfold aRm
      refine fb_sm_le fun k hk => ?_
      by_cases q1 : k = p
      · rw [if_pos q1]; exact Nat.zero_le _
      · rw [if_neg q1]
        by_cases q2 : k = v
        · rw [if_pos q2]; exact Nat.zero_le _
        · rw [if_neg q2]
          by_cases q3 : a 11 (4 * k + s) = 1
          · rw [x7 k s hk hs q3]; exact Nat.zero_le _
          · rw [if_neg (by omega)]
            exact hd_hs hs
    unfold aUn
    omega
theorem seen_step (h : DI M S) (hV : DV B S) (h2 : S.1 0 5 = 2) (hv : v < 4) (hp : p < 4) (hs : s < 4) (hpv : p ≠ v) : f_Law_seen_s36 M (nI v) 1 (nI p) (nI s) = some (.inl (1, nI (s + 1), M)) := by
  obtain ⟨a, ha⟩ : ∃ a, a = S.1 := ⟨_, rfl⟩
  have aV' : aV a := by rw [ha]; exact hV.1.1
  have hX : aX a := by rw [ha]; exact hV.1.2.1
  obtain ⟨m1, m2, m3, m4⟩ := may_has (v := v) aV' hX hp hs hpv
  have hdl : aHd a p s ≤ aDl a p s := aHd_dl hp
  have hd8 := aHd_le a p s
  obtain ⟨td, htd⟩ : ∃ td, td = a 10 (4 * p + s) := ⟨_, rfl⟩
  have td2 : td ≤ 2 := by rw [htd]; exact aV'.2.2.2.1.2.2.2.1 _ (by omega)
  have n11 : a 11 (4 * p + s) ≤ 1 := aV'.2.2.2.1.2.2.2.2 _ (by omega)
  have eS : f_Law_may M (nI v) (nI p) (nI s) 0 = some (nI (aMs (aMay a v p s 0) 9), M) := by
    rw [ha]; exact r_may (rd := 0) h hV h2 hv hp hs (fun t => hpv t.symm) (by omega)
  have eR : f_Law_may M (nI v) (nI p) (nI s) 1 = some (nI (aMs (aMay a v p s td) 9), M) := by
    rw [htd, ha]; exact r_may (rd := 1) h hV h2 hv hp hs (fun t => hpv t.symm) (by omega)
  have e0 : f_Law_call M 4 (nI p) (nI s) 0 = some (nI (aHd a p s), M) := by rw [ha]; exact r_told (w := 0) h hV hp hs (by omega)
  have e3 : f_Law_call M 4 (nI p) (nI s) 3 = some (nI td, M) := by rw [htd, ha]; exact r_told (w := 3) h hV hp hs (by omega)
  have e4 : f_Law_call M 4 (nI p) (nI s) 4 = some (nI (aTr a p s), M) := by rw [ha]; exact r_told (w := 4) h hV hp hs (by omega)
  have e5 : f_Law_call M 4 (nI p) (nI s) 5 = some (nI (a 11 (4 * p + s)), M) := by rw [ha]; exact r_told (w := 5) h hV hp hs (by omega)
  have fS : aMay a v p s 0 (aHd a p s) = true := decide_eq_true ⟨⟨m1, m2, m3, m4⟩, Or.inl rfl⟩
  have b157 : ∀ x6 : Int32, (a 11 (4 * p + s) = 1 → x6 = 1) → f_Law_seen_b157_36 M (nI v) (nI p) (nI s) x6 = some (.inl (1, nI (s + 1), M)) := by
    intro x6 hx
    have fin : f_Law_seen_b176_36 M (nI v) (nI p) (nI s) = some (.inl (1, nI (s + 1), M)) := by
      unfold f_Law_seen_b176_36 f_Law_seen_b181_36
      rw [nI_1]
    unfold f_Law_seen_b157_36
    rw [e5, pB]
    dsimp only
    by_cases q : a 11 (4 * p + s) = 0
    · rw [q, if_pos (show nI 0 = 0 from rfl)]; exact fin
    · rw [if_neg (show ¬ nI (a 11 (4 * p + s)) = 0 from z_ne (y := 0) (by omega) (by omega) q), if_pos (hx (by omega))]; exact fin
  have h1S : a 11 (4 * p + s) = 1 → nI (aMs (aMay a v p s 0) 9) = 1 := by
    intro q
    have hd0 : aHd a p s = 0 := hX.2.2.2.2.2.2.1 p s hp hs q
    have : aMs (aMay a v p s 0) 9 = aMs (fun n => decide (n = 0)) 9 := by
      refine aMs_cong 9 fun i _ => ?_
      by_cases z : i = 0
      · rw [decide_eq_true z, z]
        rw [hd0] at fS
        exact fS
      · rw [decide_eq_false z]
        refine decide_eq_false fun t => ?_
        have := t.1.1
        omega
    rw [this]
    decide
  have b134 : ∀ (s0 s1 : Int32), s1 = s0 → f_Law_seen_b134_36 M (nI v) (nI p) (nI s) (nI (aMs (aMay a v p s 0) 9)) (nI (aMs (aMay a v p s td) 9)) s0 s1 = some (.inl (1, nI (s + 1), M)) := by
    intro s0 s1 hs01
    unfold f_Law_seen_b134_36
    rw [if_pos hs01, e3, pB]
    dsimp only
    by_cases q : td = 0
    · rw [q, if_neg (show ¬ (0 : Int32) < nI 0 by decide), if_pos rfl]
      exact b157 _ h1S
    · rw [if_pos (show (0 : Int32) < nI td from nI_lt (a := 0) (by omega) (by omega))]
      exact b157 _ h1S
  unfold f_Law_seen_s36
  rw [if_neg (show ¬ 4 ≤ nI s from nI_ge (b := 4) hs (by omega)), if_neg (by decide), if_neg (show ¬ nI p = nI v from z_ne (by omega) (by omega) hpv), eS, pB]
  dsimp only
  rw [eR, pB]
  dsimp only
  rw [e0, pB]
  dsimp only
  rw [z_bit (by omega), fS, if_pos (show nI (if true = true then 1 else 0) = 1 from rfl), z_sub (fun i hi => by
    have := of_decide_eq_true hi
    exact decide_eq_true ⟨this.1, Or.inl rfl⟩), if_pos rfl, e4, pB]
  dsimp only
  rw [z_bit (by omega)]
  have fR : aMay a v p s td (aHd a p s) = decide (td = 0 ∨ td = if aDl a p s % 2 = 0 then 2 else 1) := by
    unfold aMay
    rw [show aHd a p s + (aDl a p s - aHd a p s) = aDl a p s by omega]
    by_cases q : td = 0 ∨ td = if aDl a p s % 2 = 0 then 2 else 1
    · rw [decide_eq_true q]; exact decide_eq_true ⟨⟨m1, m2, m3, m4⟩, q⟩
    · rw [decide_eq_false q]; exact decide_eq_false (fun t => q t.2)
  rw [fR]
  unfold aTr
  rw [← htd]
  by_cases q1 : td = 0
  · rw [if_pos q1, if_neg (show ¬ nI 4294967295 = 0 by decide)]
    refine b134 _ _ ?_
    rw [decide_eq_true (Or.inl q1)]
    rfl
  · rw [if_neg q1]
    by_cases q2 : td = if aDl a p s % 2 = 0 then 2 else 1
    · rw [if_pos q2, if_neg (show ¬ nI 1 = 0 by decide)]
      refine b134 _ _ ?_
      rw [decide_eq_true (Or.inr q2)]
      rfl
    · rw [if_neg q2, if_pos (show nI 0 = 0 from rfl)]
      refine b134 _ _ ?_
      rw [decide_eq_false (by omega)]
      rfl
theorem seen_ok (h : DI M S) (hV : DV B S) (hX : X < 2 ^ 31) : f_Law_seen M (nI X) = some (1, M) := by
  have e1 : f_Law_call M 2 1 0 0 = some (nI (S.1 0 5), M) := r_about (w := 1) h hV (by omega)
  have h5 := hV.V.2.1.1
  have r4 : gRem (nI X) 4 = nI (X % 4) := z_rem (d := 4) (by omega) (by omega) (by omega)
  unfold f_Law_seen
  rw [e1, pB]
  dsimp only
  by_cases q : S.1 0 5 = 2
  · rw [q, if_pos (show nI 2 = 2 from rfl), r4]
    have hl : f_Law_seen_l23 (nI (X % 4)) 5 (1, 0, M) = some (1, nI 4, M) := by
      unfold f_Law_seen_l23
      refine it_for (fun i => (1, nI i, M)) 4 rfl (fun p hp => ?_) ?_
      · show f_Law_seen_s23 M (nI (X % 4)) 1 (nI p) = _
        have hin : ∃ y, f_Law_seen_l36 (nI (X % 4)) (nI p) 5 (1, 0, M) = some (1, y, M) := by
          unfold f_Law_seen_l36
          by_cases z : p = X % 4
          · refine ⟨0, ?_⟩
            have : f_Law_seen_s36 M (nI (X % 4)) 1 (nI p) 0 = some (.inr (1, 0, M)) := by
              unfold f_Law_seen_s36
              rw [if_neg (by decide), if_neg (by decide), if_pos (by rw [z])]
            unfold gIt
            rw [this]
          · refine ⟨nI 4, it_for (fun i => (1, nI i, M)) 4 rfl (fun s hs => ?_) ?_⟩
            · exact seen_step h hV q (by omega) hp hs z
            · show f_Law_seen_s36 M (nI (X % 4)) 1 (nI p) (nI 4) = _
              unfold f_Law_seen_s36
              rw [if_pos (by decide)]
        obtain ⟨y, hy⟩ := hin
        unfold f_Law_seen_s23
        rw [if_neg (show ¬ 4 ≤ nI p from nI_ge (b := 4) hp (by omega)), if_neg (by decide), hy, pB, nI_1]
      · show f_Law_seen_s23 M (nI (X % 4)) 1 (nI 4) = _
        unfold f_Law_seen_s23
        rw [if_pos (by decide)]
    rw [hl, pB, gBl_1, pB]
  · rw [if_neg (show ¬ nI (S.1 0 5) = 2 from z_ne (y := 2) (by omega) (by omega) q), gBl_1, pB]
end SE
