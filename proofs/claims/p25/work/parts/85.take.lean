-- ===== PURE: the class lays the cards open =====
def pc (a : Nat → Nat → Nat) (p : Nat) : Nat → Bool := fun c => decide (aH a c = p)
def hF (a : Nat → Nat → Nat) (p k : Nat) : Nat → Nat
  | 0 => 4294967295
  | i + 1 => if aH a i = p ∧ fb_ct (pc a p) i = k then i else hF a p k i
def HS (b : Nat → Nat) (a : Nat → Nat → Nat) (p i j : Nat) : Nat := if 12 ≤ j then b j else if j < 3 * p then hF a (j / 3) (j % 3) 32 else if j < 3 * p + 3 then hF a p (j - 3 * p) i else 4294967295
section TK
variable {M M' : gMem} {b H : Nat → Nat} {a : Nat → Nat → Nat} {p k c i dp tot sd cu n : Nat}
theorem hF_in : ∀ i, hF a p k i = 4294967295 ∨ (hF a p k i < i ∧ aH a (hF a p k i) = p ∧ fb_ct (pc a p) (hF a p k i) = k)
  | 0 => Or.inl rfl
  | i + 1 => by
    unfold hF
    by_cases z : aH a i = p ∧ fb_ct (pc a p) i = k
    · rw [if_pos z]
      exact Or.inr ⟨by omega, z⟩
    · rw [if_neg z]
      rcases hF_in i with h | ⟨h1, h2, h3⟩
      · exact Or.inl h
      · exact Or.inr ⟨by omega, h2, h3⟩
theorem hF_yes (hc : aH a c = p) (hk : fb_ct (pc a p) c = k) : ∀ i, c < i → hF a p k i = c
  | 0, h => absurd h (by omega)
  | i + 1, h => by
    unfold hF
    by_cases z : aH a i = p ∧ fb_ct (pc a p) i = k
    · rw [if_pos z]
      exact fb_ct_kth_one (p := pc a p) (decide_eq_true z.1) (decide_eq_true hc) (z.2.trans hk.symm)
    · rw [if_neg z]
      have : c ≠ i := fun q => z (q ▸ ⟨hc, hk⟩)
      exact hF_yes hc hk i (by omega)
theorem HS_next (hp : p < 4) : HS b a p 32 = HS b a (p + 1) 0 := by
  funext j
  unfold HS
  by_cases z : 12 ≤ j
  · rw [if_pos z, if_pos z]
  · rw [if_neg z, if_neg z]
    by_cases z1 : j < 3 * p
    · rw [if_pos z1, if_pos (by omega)]
    · rw [if_neg z1]
      by_cases z2 : j < 3 * p + 3
      · rw [if_pos z2, if_pos (by omega), show j / 3 = p by omega, show j % 3 = j - 3 * p by omega]
      · rw [if_neg z2, if_neg (by omega)]
        split <;> rfl
theorem p_takeHand (h0 : M 0 = eN a) (hb : aB a) (hp : p < 4) (h3 : aHs a p ≤ 3) (h9 : M 18 9 = fun j => nI (HS b a p 0 j)) : f_Open_takeHand 0 M (nI p) = some (nI (aHs a p), gUp M 18 9 (fun j => nI (HS b a (p + 1) 0 j))) := by
  unfold f_Open_takeHand f_Open_takeHand_l5
  refine pFor0 (fun i => (nI (fb_ct (pc a p) i), nI i, gUp M 18 9 (fun j => nI (HS b a p i j)))) 32 ?_ ?_ ?_
  · show (0, 0, M) = (nI (fb_ct (pc a p) 0), nI 0, gUp M 18 9 (fun j => nI (HS b a p 0 j)))
    rw [← h9, pUpS]
    rfl
  · intro i hi
    show f_Open_takeHand_s5 0 (gUp M 18 9 (fun j => nI (HS b a p i j))) (nI p) (nI (fb_ct (pc a p) i)) (nI i) = _
    have hc3 : fb_ct (pc a p) i ≤ 3 := Nat.le_trans (fb_ct_mono (pc a p) (show i ≤ 32 by omega)) h3
    have e0 : gUp M 18 9 (fun j => nI (HS b a p i j)) 0 = eN a := (funext fun c => gUp_n _ _ (by omega)).trans h0
    have hh := p_holder (M := gUp M 18 9 (fun j => nI (HS b a p i j))) (e := 0) hb hi
    rw [aW_self e0] at hh
    have hH := aH_b hb i
    have skip : ¬ aH a i = p → HS b a p (i + 1) = HS b a p i := by
      intro z
      funext j
      unfold HS
      by_cases w : 12 ≤ j
      · rw [if_pos w, if_pos w]
      · rw [if_neg w, if_neg w]
        by_cases w1 : j < 3 * p
        · rw [if_pos w1, if_pos w1]
        · rw [if_neg w1, if_neg w1]
          by_cases w2 : j < 3 * p + 3
          · rw [if_pos w2, if_pos w2]
            show (if aH a i = p ∧ fb_ct (pc a p) i = j - 3 * p then i else _) = _
            rw [if_neg (fun q => z q.1)]
          · rw [if_neg w2, if_neg w2]
    unfold f_Open_takeHand_s5 f_Open_takeHand_b44
    rw [show (32 : Int32) = nI 32 from rfl, if_neg (nI_ge hi (by omega)), nI_1]
    by_cases y : 3 ≤ fb_ct (pc a p) i
    · have nz : ¬ aH a i = p := fun q => by
        have h1 : fb_ct (pc a p) (i + 1) = fb_ct (pc a p) i + 1 := (ct_1 _ _ (decide_eq_true q)).symm
        have h2 := fb_ct_mono (pc a p) (show i + 1 ≤ 32 by omega)
        have h4 : fb_ct (pc a p) 32 = aHs a p := rfl
        omega
      rw [if_pos (show (3 : Int32) ≤ nI (fb_ct (pc a p) i) from nI_le (a := 3) y (by omega)), skip nz, ct_0 (pc a p) i (fun q => nz (of_decide_eq_true q))]
    · rw [if_neg (show ¬ (3 : Int32) ≤ nI (fb_ct (pc a p) i) from nI_ge (b := 3) (by omega) (by omega)), hh, pB]
      by_cases z : aH a i = p
      · rw [if_pos (by rw [z]), show (3 : Int32) = nI 3 from rfl, pk_mul, nI_add, x_put (by omega) (by omega), pB, gUp_s, pUp2, nI_1, ct_1 (pc a p) i (decide_eq_true z)]
        have e : upd (fun j => nI (HS b a p i j)) (p * 3 + fb_ct (pc a p) i) (nI i) = fun j => nI (HS b a p (i + 1) j) := by
          funext j
          unfold upd HS
          by_cases w0 : j = p * 3 + fb_ct (pc a p) i
          · rw [if_pos w0, if_neg (by omega), if_neg (by omega), if_pos (by omega)]
            show nI i = nI (if aH a i = p ∧ fb_ct (pc a p) i = j - 3 * p then i else _)
            rw [if_pos ⟨z, by omega⟩]
          · rw [if_neg w0]
            dsimp only
            by_cases w : 12 ≤ j
            · rw [if_pos w, if_pos w]
            · rw [if_neg w, if_neg w]
              by_cases w1 : j < 3 * p
              · rw [if_pos w1, if_pos w1]
              · rw [if_neg w1, if_neg w1]
                by_cases w2 : j < 3 * p + 3
                · rw [if_pos w2, if_pos w2]
                  show _ = nI (if aH a i = p ∧ fb_ct (pc a p) i = j - 3 * p then i else _)
                  rw [if_neg (fun q => by omega)]
                · rw [if_neg w2, if_neg w2]
        rw [e]
      · rw [if_neg (z_ne hH (by omega) z), skip z, ct_0 (pc a p) i (fun q => z (of_decide_eq_true q))]
  · refine pLx ?_
    show f_Open_takeHand_s5 0 (gUp M 18 9 (fun j => nI (HS b a p 32 j))) (nI p) (nI (fb_ct (pc a p) 32)) (nI 32) = _
    unfold f_Open_takeHand_s5
    rw [if_pos (by decide), HS_next hp]
    rfl
/-- the hands behind the taking -/
theorem HS_HR (h3 : ∀ p, p < 4 → aHs a p ≤ 3) : HR (HS b a 4 0) a ∧ ∀ p k k', p < 4 → k < k' → k' < 3 → HS b a 4 0 (3 * p + k) ≠ 4294967295 → HS b a 4 0 (3 * p + k') ≠ 4294967295 → HS b a 4 0 (3 * p + k) < HS b a 4 0 (3 * p + k') := by
  have v : ∀ p k, p < 4 → k < 3 → HS b a 4 0 (3 * p + k) = hF a p k 32 := fun p k hp hk => by
    unfold HS
    rw [if_neg (by omega), if_pos (by omega), show (3 * p + k) / 3 = p by omega, show (3 * p + k) % 3 = k by omega]
  refine ⟨⟨fun p k hp hk => ?_, fun c p hc hp h => ?_, fun i j hi hj h h2 => ?_⟩, fun p k k' hp hk hk' h1 h2 => ?_⟩
  · rw [v p k hp hk]
    rcases hF_in (a := a) (p := p) (k := k) 32 with w | ⟨w1, w2, -⟩
    · exact Or.inl w
    · exact Or.inr ⟨w1, w2⟩
  · have hk : fb_ct (pc a p) c < 3 := by
      have h1 : fb_ct (pc a p) c < fb_ct (pc a p) 32 := ct_lt (decide_eq_true h) hc
      have h4 : fb_ct (pc a p) 32 = aHs a p := rfl
      have := h3 p hp
      omega
    exact ⟨fb_ct (pc a p) c, hk, (v p _ hp hk).trans (hF_yes h rfl 32 hc)⟩
  · have e1 : HS b a 4 0 i = hF a (i / 3) (i % 3) 32 := by
      have := v (i / 3) (i % 3) (by omega) (by omega)
      rwa [show 3 * (i / 3) + i % 3 = i by omega] at this
    have e2 : HS b a 4 0 j = hF a (j / 3) (j % 3) 32 := by
      have := v (j / 3) (j % 3) (by omega) (by omega)
      rwa [show 3 * (j / 3) + j % 3 = j by omega] at this
    rw [e1] at h h2
    rw [e2] at h
    rcases hF_in (a := a) (p := i / 3) (k := i % 3) 32 with w | ⟨w1, w2, w3⟩
    · exact absurd w h2
    · rcases hF_in (a := a) (p := j / 3) (k := j % 3) 32 with y | ⟨y1, y2, y3⟩
      · exact absurd (h.trans y) h2
      · rw [← h] at y2 y3
        have p1 : i / 3 = j / 3 := w2.symm.trans y2
        rw [← p1] at y3
        have k1 : i % 3 = j % 3 := w3.symm.trans y3
        omega
  · rw [v p k hp (by omega)] at h1 ⊢
    rw [v p k' hp hk'] at h2 ⊢
    have w := (hF_in (a := a) (p := p) (k := k) 32).resolve_left h1
    have y := (hF_in (a := a) (p := p) (k := k') 32).resolve_left h2
    refine Decidable.of_not_not (fun q => ?_)
    have := fb_ct_mono (pc a p) (show hF a p k' 32 ≤ hF a p k 32 by omega)
    omega
/-- few cards: how many are left -/
theorem few_cards (hV : aV a) (hp : a 0 5 = 2) (h3 : ∀ p, p < 4 → aHs a p ≤ 3) : fb_sm (aHs a) 4 = 32 - a 1 3 ∧ a 1 3 % 4 + (32 - a 1 3) ≤ 12 ∧ a 1 3 < 32 := by
  have ht := hV.2.1.2.1 (Or.inr hp)
  have hl := (hV.2.1.2.2.2.2.2.2.2.1 hp).2
  have hz := hV.2.2.2.2 (Or.inr hp)
  have e : fb_sm (aHs a) 4 = aHz a 0 + aHz a 1 + aHz a 2 + aHz a 3 := by
    rw [fb_sm_succ, fb_sm_succ, fb_sm_succ, fb_sm_succ, hz 0 (by omega), hz 1 (by omega), hz 2 (by omega), hz 3 (by omega)]
    show 0 + _ + _ + _ + _ = _
    omega
  have t := h3 (a 0 6) ht
  rw [hz _ ht] at t
  rw [e]
  unfold aHz at t ⊢
  have hr : a 1 3 % 4 = 0 ∨ a 1 3 % 4 = 1 ∨ a 1 3 % 4 = 2 ∨ a 1 3 % 4 = 3 := by omega
  have hq : a 0 6 = 0 ∨ a 0 6 = 1 ∨ a 0 6 = 2 ∨ a 0 6 = 3 := by omega
  rcases hr with r | r | r | r <;> rcases hq with q | q | q | q <;> rw [r, q] at t <;> rw [r, q] <;> simp at t ⊢ <;> omega
theorem p_take (h0 : M 0 = eN a) (hV : aV a) (hp : a 0 5 = 2) (h3 : ∀ p, p < 4 → aHs a p ≤ 3) (hcu : cu ≤ 1) : ∃ M' b, f_Open_take 0 M (nI cu) = some M' ∧ CHm M' (HS b a 4 0) a (a 1 3 % 4) (a 1 3 % 4 + (32 - a 1 3)) (a 0 6 % 2) cu ∧ M' 18 8 2 = nI (a 1 3 % 4) ∧ M' 18 8 4 = nI (aLead a) ∧ ∀ g c, ¬ (g = 18 ∧ (c = 8 ∨ c = 9 ∨ c = 10)) → M' g c = M g c := by
  have ht := hV.2.1.2.1 (Or.inr hp)
  have hO := hV.O
  have hl := (hV.2.1.2.2.2.2.2.2.2.1 hp).2
  obtain ⟨f1, f2, f3⟩ := few_cards hV hp h3
  obtain ⟨b, hb⟩ : ∃ b : Nat → Nat, M 18 9 = fun j => nI (b j) := ⟨fun j => (M 18 9 j).toBitVec.toNat, funext fun j => z_of _⟩
  obtain ⟨dp, hdp⟩ : ∃ dp, dp = a 1 3 % 4 := ⟨_, rfl⟩
  -- the loop over the players
  have l69 : ∀ m p W, p + m = 4 → W 0 = eN a → W 18 9 = (fun j => nI (HS b a p 0 j)) → (∀ j, j < dp → W 18 10 j = nI (a 7 (a 1 3 - dp + j))) → W 18 8 3 = nI (dp + fb_sm (aHs a) p) → W 18 8 2 = nI dp → (∀ g c, ¬ (g = 18 ∧ (c = 8 ∨ c = 9 ∨ c = 10)) → W g c = M g c) → ∃ M', f_Open_take_l69 0 (nI cu) (nI p, W) = some M' ∧ CHm M' (HS b a 4 0) a dp (dp + (32 - a 1 3)) (a 0 6 % 2) cu ∧ M' 18 8 2 = nI dp ∧ M' 18 8 4 = nI (aLead a) ∧ ∀ g c, ¬ (g = 18 ∧ (c = 8 ∨ c = 9 ∨ c = 10)) → M' g c = M g c := by
    intro m
    induction m with
    | zero =>
      intro p W hpm w0 w9 w10 w3 w2 wo
      have hp4 : p = 4 := by omega
      subst hp4
      have ev : ∀ W' : gMem, W' 0 = W 0 → W' 0 0 6 = nI (a 0 6) ∧ W' 0 0 8 = nI (a 0 8) := fun W' h => by rw [h, w0]; exact ⟨rfl, rfl⟩
      have e4 : gRem (W 0 0 6 + 4 - W 18 8 2) 4 = nI (aLead a) := by
        rw [(ev W rfl).1, w2, show nI (a 0 6) + 4 = nI (a 0 6 + 4) from nI_add _ 4, pk_sub (by omega), show gRem (nI (a 0 6 + 4 - dp)) 4 = nI ((a 0 6 + 4 - dp) % 4) from z_rem (d := 4) (by omega) (by omega) (by omega), hdp]
        rfl
      obtain ⟨W1, hW1⟩ : ∃ W1, W1 = gSt W 18 8 4 (nI (aLead a)) := ⟨_, rfl⟩
      obtain ⟨W2, hW2⟩ : ∃ W2, W2 = gSt W1 18 8 5 (nI (a 0 6 % 2)) := ⟨_, rfl⟩
      obtain ⟨W3, hW3⟩ : ∃ W3, W3 = gSt W2 18 8 6 (nI (a 0 8)) := ⟨_, rfl⟩
      obtain ⟨W4, hW4⟩ : ∃ W4, W4 = gSt W3 18 8 7 (nI cu) := ⟨_, rfl⟩
      have o1 : W1 0 = W 0 := by rw [hW1]; funext c; exact gUp_n _ _ (by omega)
      have o2 : W2 0 = W 0 := by rw [hW2]; exact (funext fun c => gUp_n _ _ (by omega)).trans o1
      have o4 : ∀ g c, ¬ (g = 18 ∧ c = 8) → W4 g c = W g c := fun g c z => by
        rw [hW4, hW3, hW2, hW1]
        unfold gSt
        rw [gUp_n _ _ z, gUp_n _ _ z, gUp_n _ _ z, gUp_n _ _ z]
      have f8 : ∀ j, W4 18 8 j = if j = 7 then nI cu else if j = 6 then nI (a 0 8) else if j = 5 then nI (a 0 6 % 2) else if j = 4 then nI (aLead a) else W 18 8 j := fun j => by
        rw [hW4, hW3, hW2, hW1]
        unfold gSt
        rw [gUp_s, gUp_s, gUp_s, gUp_s]
        rfl
      refine ⟨W4, pLx ?_, ⟨(o4 18 9 (by omega)).trans w9, fun j hj => (congrFun (o4 18 10 (by omega)) j).trans (w10 j hj), ?_, ?_, ?_, ?_⟩, ?_, ?_, fun g c z => (o4 g c (by omega)).trans (wo g c z)⟩
      · show f_Open_take_s69 0 W (nI cu) (nI 4) = _
        unfold f_Open_take_s69 gSO gBl
        rw [if_pos (by decide), e4, pB, ← hW1, (ev W1 o1).1, show gRem (nI (a 0 6)) 2 = nI (a 0 6 % 2) from z_rem (d := 2) (by omega) (by omega) (by omega), pB, ← hW2, (ev W2 o2).2, pB, ← hW3, if_pos (show nI cu = 0 ∨ nI cu = 1 by rcases (show cu = 0 ∨ cu = 1 by omega) with z | z <;> rw [z]; exact Or.inl rfl; exact Or.inr rfl), pB, pB, ← hW4]
      · rw [f8, if_neg (by decide), if_neg (by decide), if_neg (by decide), if_neg (by decide), w3, f1]
      · rw [f8, if_neg (by decide), if_neg (by decide), if_pos rfl]
      · rw [f8, if_neg (by decide), if_pos rfl]
      · rw [f8, if_pos rfl]
      · rw [f8, if_neg (by decide), if_neg (by decide), if_neg (by decide), if_neg (by decide), w2]
      · rw [f8, if_neg (by decide), if_neg (by decide), if_neg (by decide), if_pos rfl]
    | succ m ih =>
      intro p W hpm w0 w9 w10 w3 w2 wo
      have th := p_takeHand w0 hV.1 (show p < 4 by omega) (h3 p (by omega)) w9
      obtain ⟨W1, hW1⟩ : ∃ W1, W1 = gUp W 18 9 (fun j => nI (HS b a (p + 1) 0 j)) := ⟨_, rfl⟩
      rw [← hW1] at th
      obtain ⟨W2, hW2⟩ : ∃ W2, W2 = gSt W1 18 8 3 (nI (dp + fb_sm (aHs a) (p + 1))) := ⟨_, rfl⟩
      have s : f_Open_take_s69 0 W (nI cu) (nI p) = some (.inl (nI (p + 1), W2)) := by
        unfold f_Open_take_s69 gSO
        rw [if_neg (show ¬ (4 : Int32) ≤ nI p from nI_ge (b := 4) (by omega) (by omega)), th, pB, pB, w3, nI_1]
        dsimp only
        rw [nI_add, show dp + fb_sm (aHs a) p + aHs a p = dp + fb_sm (aHs a) (p + 1) by rw [fb_sm_succ]; omega, ← hW2]
      have o : ∀ g c, ¬ (g = 18 ∧ (c = 8 ∨ c = 9)) → W2 g c = W g c := fun g c z => by
        rw [hW2]
        unfold gSt
        rw [gUp_n _ _ (by omega), hW1, gUp_n _ _ (by omega)]
      obtain ⟨M', g1, g2⟩ := ih (p + 1) W2 (by omega) ((funext fun c => o 0 c (by omega)).trans w0) (by
        rw [hW2]
        unfold gSt
        rw [gUp_n _ _ (by omega), hW1, gUp_s]) (fun j hj => (congrFun (o 18 10 (by omega)) j).trans (w10 j hj)) (by
        rw [hW2]
        unfold gSt
        rw [gUp_s]
        exact pk_us) (by
        rw [hW2]
        unfold gSt
        rw [gUp_s, pk_un (by omega), hW1, gUp_n _ _ (by omega)]
        exact w2) (fun g c z => (o g c (by omega)).trans (wo g c z))
      exact ⟨M', (pLp (step := fun s => f_Open_take_s69 0 s.2 (nI cu) s.1) (s := (nI p, W)) s).trans g1, g2⟩
  -- the loop over the trick
  have l37 : ∀ m i W, i + m = dp → W 0 = eN a → W 18 9 = (fun j => nI (HS b a 0 0 j)) → (∀ j, j < i → W 18 10 j = nI (a 7 (a 1 3 - dp + j))) → W 18 8 3 = nI dp → W 18 8 2 = nI dp → (∀ g c, ¬ (g = 18 ∧ (c = 8 ∨ c = 9 ∨ c = 10)) → W g c = M g c) → ∃ M', f_Open_take_l37 0 (nI cu) (nI i, W) = some M' ∧ CHm M' (HS b a 4 0) a dp (dp + (32 - a 1 3)) (a 0 6 % 2) cu ∧ M' 18 8 2 = nI dp ∧ M' 18 8 4 = nI (aLead a) ∧ ∀ g c, ¬ (g = 18 ∧ (c = 8 ∨ c = 9 ∨ c = 10)) → M' g c = M g c := by
    intro m
    induction m with
    | zero =>
      intro i W him w0 w9 w10 w3 w2 wo
      obtain ⟨M', g1, g2⟩ := l69 4 0 W rfl w0 w9 (fun j hj => w10 j (by omega)) (by rw [w3]; rfl) w2 wo
      refine ⟨M', ?_, g2⟩
      rw [← g1]
      refine pLm ?_
      show f_Open_take_s37 0 W (nI cu) (nI i) = _
      unfold f_Open_take_s37
      rw [w2, if_pos (nI_le (by omega) (by omega))]
      rfl
    | succ m ih =>
      intro i W him w0 w9 w10 w3 w2 wo
      have it := p_inTrick (M := W) (e := 0) (a := a) (k := i) (by omega) (by omega)
      rw [aW_self w0, if_pos (by omega), ← hdp] at it
      obtain ⟨W1, hW1⟩ : ∃ W1, W1 = gUp W 18 10 (upd (W 18 10) i (nI (a 7 (a 1 3 - dp + i)))) := ⟨_, rfl⟩
      have s : f_Open_take_s37 0 W (nI cu) (nI i) = some (.inl (nI (i + 1), W1)) := by
        unfold f_Open_take_s37
        rw [w2, if_neg (nI_ge (by omega) (by omega)), it, pB, x_put (by omega) (by omega), pB, ← hW1, nI_1]
      have o : ∀ g c, ¬ (g = 18 ∧ c = 10) → W1 g c = W g c := fun g c z => by rw [hW1, gUp_n _ _ z]
      obtain ⟨M', g1, g2⟩ := ih (i + 1) W1 (by omega) ((funext fun c => o 0 c (by omega)).trans w0) ((o 18 9 (by omega)).trans w9) (fun j hj => by
        rw [hW1, gUp_s]
        by_cases y : j = i
        · rw [y, pk_us]
        · rw [pk_un y]
          exact w10 j (by omega)) ((congrFun (o 18 8 (by omega)) 3).trans w3) ((congrFun (o 18 8 (by omega)) 2).trans w2) (fun g c z => (o g c (by omega)).trans (wo g c z))
      exact ⟨M', (pLp (step := fun s => f_Open_take_s37 0 s.2 (nI cu) s.1) (s := (nI i, W)) s).trans g1, g2⟩
  obtain ⟨W1, hW1⟩ : ∃ W1, W1 = gUp M 18 9 (pFl (M 18 9) (-1) 12) := ⟨_, rfl⟩
  obtain ⟨W2, hW2⟩ : ∃ W2, W2 = gUp W1 18 10 (pFl (W1 18 10) (-1) 12) := ⟨_, rfl⟩
  obtain ⟨W3, hW3⟩ : ∃ W3, W3 = gSt W2 18 8 2 (nI dp) := ⟨_, rfl⟩
  obtain ⟨W4, hW4⟩ : ∃ W4, W4 = gSt W3 18 8 3 (nI dp) := ⟨_, rfl⟩
  have o2 : ∀ g c, ¬ (g = 18 ∧ (c = 9 ∨ c = 10)) → W2 g c = M g c := fun g c z => by rw [hW2, gUp_n _ _ (by omega), hW1, gUp_n _ _ (by omega)]
  have o4 : ∀ g c, ¬ (g = 18 ∧ c = 8) → W4 g c = W2 g c := fun g c z => by
    rw [hW4, hW3]
    unfold gSt
    rw [gUp_n _ _ z, gUp_n _ _ z]
  have z2 : W2 0 = eN a := (funext fun c => o2 0 c (by omega)).trans h0
  have e32 : W3 18 8 2 = nI dp := by rw [hW3]; unfold gSt; rw [gUp_s]; exact pk_us
  obtain ⟨M', g1, g2⟩ := l37 dp 0 W4 (by omega) ((funext fun c => o4 0 c (by omega)).trans z2) (by
    rw [o4 18 9 (by omega), hW2, gUp_n _ _ (by omega), hW1, gUp_s, hb]
    funext j
    unfold pFl HS
    by_cases y : j < 12
    · rw [if_pos y, if_neg (by omega), if_neg (by omega)]
      split
      · exact z_m1
      · exact z_m1
    · rw [if_neg y, if_pos (by omega)]) (fun j hj => absurd hj (by omega)) (by
    rw [hW4]
    unfold gSt
    rw [gUp_s]
    exact pk_us) (by
    rw [hW4]
    unfold gSt
    rw [gUp_s, pk_un (by omega)]
    exact e32) (fun g c z => (o4 g c (by omega)).trans (o2 g c (by omega)))
  rw [← hdp]
  refine ⟨M', b, ?_, g2⟩
  unfold f_Open_take gSO
  have ts := p_trickSize (M := W2) (e := 0) (a := a) (by omega)
  rw [aW_self z2, ← hdp] at ts
  rw [p_fill _ _ _ _ _ (by omega), pB, ← hW1, p_fill _ _ _ _ _ (by omega), pB, ← hW2, ts, pB, pB, ← hW3, e32, pB, ← hW4]
  exact g1
end TK
