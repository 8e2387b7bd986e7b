-- ===== PURE: the numbers of an evening go together =====
theorem aLw_no (p : Nat → Bool) : ∀ n, n < 4294967295 → aLw p n = 4294967295 → ∀ i, i < n → ¬ p i = true
  | 0, _, _, i, hi => absurd hi (by omega)
  | n + 1, hn, h, i, hi => by
    unfold aLw at h
    by_cases q : p n = true ∧ (aLw p n = 4294967295 ∨ n % 8 < aLw p n % 8)
    · rw [if_pos q] at h
      omega
    · rw [if_neg q] at h
      have ih := aLw_no p n (by omega) h
      by_cases z : i = n
      · intro t
        rw [z] at t
        exact q ⟨t, Or.inl h⟩
      · exact ih i (by omega)
theorem fb_sm_blk (g : Nat → Nat → Nat) : ∀ n, fb_sm (fun k => g (k / 4) (k % 4)) (4 * n) = fb_sm (fun p => fb_sm (g p) 4) n
  | 0 => rfl
  | n + 1 => by
    rw [fb_sm_succ, ← fb_sm_blk g n, show 4 * (n + 1) = 4 * n + 4 by omega, fb_sm_split]
    congr 1
    refine fb_sm_cong fun k hk => ?_
    rw [show (4 * n + k) / 4 = n by omega, show (4 * n + k) % 4 = k by omega]
section NU
variable {a : EVN} {p s k c : Nat}
theorem h_played (hV : aV a) (hX : aX a) : fb_ct (fun c => decide (a 6 c ≠ 4294967295)) 32 = a 1 3 := by
  obtain ⟨g1, g2, g3, g4⟩ := hV.2.2.1
  have hl := hV.2.1.2.2.2.2.2.2.2.2.2.1
  have h1 : a 1 3 ≤ fb_ct (fun c => decide (a 6 c ≠ 4294967295)) 32 := by
    refine ct_inj (fun t => a 7 t) (fun t ht => ⟨(g1 t ht).1, decide_eq_true ?_⟩) (fun t u ht hu e => ?_)
    · have := (g1 t ht).2
      omega
    · have e : a 7 t = a 7 u := e
      have e1 := (g1 t ht).2
      have e2 := (g1 u hu).2
      rw [e] at e1
      omega
  obtain ⟨q, hq⟩ : ∃ q, q = fun c => decide (a 6 c ≠ 4294967295) := ⟨_, rfl⟩
  rw [← hq] at h1 ⊢
  have hk : ∀ i, i < fb_ct q 32 → kth q i 32 < 32 ∧ a 6 (kth q i 32) ≠ 4294967295 ∧ fb_ct q (kth q i 32) = i := by
    intro i hi
    obtain ⟨w, w1, w2, w3⟩ := fb_ct_kth hi
    rw [kth_yes w2 w3 32 w1]
    refine ⟨w1, ?_, w3⟩
    rw [hq] at w2
    exact of_decide_eq_true w2
  have h2 : fb_ct q 32 ≤ a 1 3 := by
    refine fb_holes (a 1 3) (fb_ct q 32) (fun i => a 6 (kth q i 32)) (fun i hi => ?_) (fun i j hij hj e => ?_)
    · obtain ⟨k1, k2, k3⟩ := hk i hi
      exact (g2 _ k1).resolve_left k2
    · obtain ⟨k1, k2, k3⟩ := hk i (by omega)
      obtain ⟨m1, m2, m3⟩ := hk j hj
      have x1 := hX.2.1 _ k1 k2
      have x2 := hX.2.1 _ m1 m2
      have e : a 6 (kth q i 32) = a 6 (kth q j 32) := e
      rw [e, x2] at x1
      rw [x1] at m3
      omega
  omega
theorem h_gone0 (hX : aX a) (h0 : a 0 5 = 0) : fb_ct (fun c => decide (aH a c = 4294967295)) 32 = 32 := by
  refine fb_ct_all.mpr fun c hc => decide_eq_true ?_
  have := (hX.2.2.1 h0).1 c hc
  unfold aH
  split
  · exact this
  · rfl
theorem h_gone (hV : aV a) (hX : aX a) (h0 : a 0 5 ≠ 0) : fb_ct (fun c => decide (aH a c = 4294967295)) 32 = a 1 3 := by
  rw [← h_played hV hX]
  refine fb_ct_cong fun c hc => ?_
  have := hV.2.2.1.2.2.2 h0 c hc
  unfold aH
  by_cases q : a 6 c = 4294967295
  · rw [if_pos q, decide_eq_false (by omega), decide_eq_false (by omega)]
  · rw [if_neg q, decide_eq_true rfl, decide_eq_true q]
theorem h_own (p : Nat) : fb_sm (fun s => aDl a p s) 4 = aOwn a p := by
  have e : ∀ n, fb_sm (fun s => aDl a p s) n = fb_ct (fun c => decide (a 5 c = p)) (8 * n) := by
    intro n
    induction n with
    | zero => rfl
    | succ n ih =>
      rw [fb_sm_succ, ih, show 8 * (n + 1) = 8 * n + 8 by omega, fb_ct_split]
      rfl
  exact e 4
theorem h_own0 (hX : aX a) (h0 : a 0 5 = 0) (hp : p < 4) : aOwn a p = 0 := by
  unfold aOwn
  refine fb_ct_zero.mpr fun c hc => decide_eq_false ?_
  have := (hX.2.2.1 h0).1 c hc
  omega
/-- the cards in the hands and those that were played are all -/
theorem h_hands (hV : aV a) (h0 : a 0 5 ≠ 0) : ∀ n, n ≤ 32 → fb_ct (fun c => decide (aH a c = 0)) n + fb_ct (fun c => decide (aH a c = 1)) n + fb_ct (fun c => decide (aH a c = 2)) n + fb_ct (fun c => decide (aH a c = 3)) n + fb_ct (fun c => decide (a 6 c ≠ 4294967295)) n = n := by
  intro n
  induction n with
  | zero => intro _; rfl
  | succ n ih =>
    intro hn
    have ih := ih (by omega)
    have h5 := hV.2.2.1.2.2.2 h0 n (by omega)
    rw [fb_ct_succ, fb_ct_succ, fb_ct_succ, fb_ct_succ, fb_ct_succ]
    generalize fb_ct (fun c => decide (aH a c = 0)) n = A at ih ⊢
    generalize fb_ct (fun c => decide (aH a c = 1)) n = A1 at ih ⊢
    generalize fb_ct (fun c => decide (aH a c = 2)) n = A2 at ih ⊢
    generalize fb_ct (fun c => decide (aH a c = 3)) n = A3 at ih ⊢
    generalize fb_ct (fun c => decide (a 6 c ≠ 4294967295)) n = A4 at ih ⊢
    by_cases q : a 6 n = 4294967295
    · have e : aH a n = a 5 n := if_pos q
      rw [decide_eq_false (show ¬ a 6 n ≠ 4294967295 from fun z => z q), e]
      rcases (show a 5 n = 0 ∨ a 5 n = 1 ∨ a 5 n = 2 ∨ a 5 n = 3 by omega) with z | z | z | z <;> rw [z] <;> simp <;> omega
    · have e : aH a n = 4294967295 := if_neg q
      rw [decide_eq_true q, e]
      simp
      omega
theorem h_drops (hV : aV a) (hX : aX a) : fb_sm (fun k => a 8 k) 16 ≤ a 1 3 := by
  have x5 := hX.2.2.2.2.1
  have e1 : fb_sm (fun k => a 8 k) 16 + fb_sm (fun k => aHd a (k / 4) (k % 4)) (4 * 4) ≤ fb_sm (fun k => aDl a (k / 4) (k % 4)) (4 * 4) := by
    rw [show 4 * 4 = 16 from rfl, ← fb_sm_add]
    refine fb_sm_le fun k hk => ?_
    have := x5 (k / 4) (k % 4) (by omega) (by omega)
    rwa [show 4 * (k / 4) + k % 4 = k by omega] at this
  have e2 : fb_sm (fun k => aHd a (k / 4) (k % 4)) (4 * 4) = aHs a 0 + aHs a 1 + aHs a 2 + aHs a 3 := by
    rw [fb_sm_blk (fun p s => aHd a p s) 4, fb_sm_succ, fb_sm_succ, fb_sm_succ, fb_sm_succ]
    have e : ∀ p, fb_sm ((fun p s => aHd a p s) p) 4 = aHs a p := fun p => aHs_sm a p
    rw [e, e, e, e]
    show 0 + _ + _ + _ + _ = _
    omega
  have e3 : fb_sm (fun k => aDl a (k / 4) (k % 4)) (4 * 4) = aOwn a 0 + aOwn a 1 + aOwn a 2 + aOwn a 3 := by
    rw [fb_sm_blk (fun p s => aDl a p s) 4, fb_sm_succ, fb_sm_succ, fb_sm_succ, fb_sm_succ]
    have e : ∀ p, fb_sm ((fun p s => aDl a p s) p) 4 = aOwn a p := fun p => h_own p
    rw [e, e, e, e]
    show 0 + _ + _ + _ + _ = _
    omega
  rw [e2, e3] at e1
  by_cases h0 : a 0 5 = 0
  · have o := fun p (hp : p < 4) => h_own0 hX h0 hp
    rw [o 0 (by omega), o 1 (by omega), o 2 (by omega), o 3 (by omega)] at e1
    omega
  · have o := hX.2.2.2.1 h0
    rw [o 0 (by omega), o 1 (by omega), o 2 (by omega), o 3 (by omega)] at e1
    have := h_hands hV h0 32 (Nat.le_refl _)
    rw [h_played hV hX] at this
    have u : aHs a 0 + aHs a 1 + aHs a 2 + aHs a 3 + a 1 3 = 32 := this
    omega
/-- the advised card is one of the legal -/
theorem h_adv (hV : aV a) (h2 : a 0 5 = 2) : aAd a < 32 ∧ aOk a (aAd a) = true := by
  have key : aAd a ≠ 4294967295 := by
    have hl : aLw (aOk a) 32 ≠ 4294967295 := fun z => by
      obtain ⟨k, k1, k2⟩ := ok_ex hV h2
      exact aLw_no _ 32 (by omega) z k k1 k2
    unfold aAd
    split
    · exact hl
    · split
      · exact hl
      · assumption
  rcases aAd_4 hV with h | ⟨h1, h3⟩
  · exact absurd h key
  · exact ⟨h1, ok_rs.mpr h3⟩
theorem h_ct8 (hV : aV a) (h2 : a 0 5 = 2) : 0 < fb_ct (aOk a) 32 ∧ fb_ct (aOk a) 32 ≤ 8 := by
  have ht := hV.2.1.2.1 (Or.inr h2)
  refine ⟨ok_some hV h2, ?_⟩
  have h1 : fb_ct (aOk a) 32 ≤ aHs a (a 0 6) := by
    unfold aHs
    refine fb_ct_sub fun c _ hc => ?_
    exact decide_eq_true (aOk_iff.mp hc).1
  have h3 := hV.2.2.2.2 (Or.inr h2) _ ht
  unfold aHz at h3
  split at h3 <;> omega
end NU
