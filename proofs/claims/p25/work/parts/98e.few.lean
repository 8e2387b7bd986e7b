-- ===== PURE: the fewest cards; the tricks of both sides; what is taken back =====
/-- the state without so many -/
def popN (m : Nat) (S : SS) : SS := (if m = 0 then S.1 else S.2.2.1 (m - 1), S.2.1 - m, fun j => S.2.2.1 (j + m), S.2.2.2)
/-- the same, but that less is remembered -/
def lS (S' S : SS) : Prop := S'.1 = S.1 ∧ S'.2.1 ≤ S.2.1 ∧ S'.2.2 = S.2.2
section FE
variable {M : gMem} {S S' S2 : SS} {B X k m n sd x y : Nat} {a b : EVN}
theorem lS.rf (S : SS) : lS S S := ⟨rfl, Nat.le_refl _, rfl⟩
theorem lS.tr (h : lS S2 S') (h2 : lS S' S) : lS S2 S := ⟨h.1.trans h2.1, Nat.le_trans h.2.1 h2.2.1, h.2.2.trans h2.2.2⟩
theorem lS.DV (h : lS S' S) (hV : DV B S) : DV B S' := by
  obtain ⟨a, c, r⟩ := S'
  obtain ⟨h1, h2, h3⟩ := h
  cases h1
  cases h3
  exact ⟨hV.1, fun j hj => hV.2.1 j (Nat.lt_of_lt_of_le hj h2), hV.2.2.1, Nat.le_trans h2 hV.2.2.2⟩
theorem popN_s (m : Nat) (S : SS) : sPop (popN m S) = popN (m + 1) S := by
  refine Prod.ext ?_ (Prod.ext ?_ (Prod.ext ?_ rfl))
  · show S.2.2.1 (0 + m) = if m + 1 = 0 then S.1 else S.2.2.1 (m + 1 - 1)
    rw [if_neg (by omega), Nat.zero_add]
    rfl
  · show S.2.1 - m - 1 = S.2.1 - (m + 1)
    omega
  · show (fun j => S.2.2.1 (j + 1 + m)) = fun j => S.2.2.1 (j + (m + 1))
    funext j
    rw [show j + 1 + m = j + (m + 1) by omega]
theorem lS_push (h : lS (popN m S2) S) : lS (popN (m + 1) (sPush S2 b)) S := by
  obtain ⟨h1, h2, h3⟩ := h
  refine ⟨?_, ?_, ?_⟩
  · show (if m + 1 = 0 then b else pu S2.1 S2.2.2.1 (m + 1 - 1)) = S.1
    rw [if_neg (by omega), ← h1]
    show pu S2.1 S2.2.2.1 m = if m = 0 then S2.1 else S2.2.2.1 (m - 1)
    cases m with
    | zero => rfl
    | succ m => rw [if_neg (by omega)]; rfl
  · show cx S2.2.1 - (m + 1) ≤ S.2.1
    have : S2.2.1 - m ≤ S.2.1 := h2
    unfold cx
    split <;> omega
  · exact h3
theorem few_ok (h : DI M S) (hV : DV B S) : f_Law_few M = some (nI (aMx (aHs S.1) 4), M) := by
  have hl : f_Law_few_l4 5 (0, 0, M) = some (nI (aMx (aHs S.1) 4), nI 4, M) := by
    unfold f_Law_few_l4
    refine it_for (fun i => (nI (aMx (aHs S.1) i), nI i, M)) 4 rfl (fun p hp => ?_) ?_
    · show f_Law_few_s4 M (nI (aMx (aHs S.1) p)) (nI p) = _
      have e0 : f_Law_call M 4 (nI p) 0 0 = some (nI (aHd S.1 p 0), M) := r_told (s := 0) (w := 0) h hV hp (by omega) (by omega)
      have e1 : f_Law_call M 4 (nI p) 1 0 = some (nI (aHd S.1 p 1), M) := r_told (s := 1) (w := 0) h hV hp (by omega) (by omega)
      have e2 : f_Law_call M 4 (nI p) 2 0 = some (nI (aHd S.1 p 2), M) := r_told (s := 2) (w := 0) h hV hp (by omega) (by omega)
      have e3 : f_Law_call M 4 (nI p) 3 0 = some (nI (aHd S.1 p 3), M) := r_told (s := 3) (w := 0) h hV hp (by omega) (by omega)
      have es : aHd S.1 p 0 + aHd S.1 p 1 + aHd S.1 p 2 + aHd S.1 p 3 = aHs S.1 p := by
        rw [← aHs_sm, fb_sm_succ, fb_sm_succ, fb_sm_succ, fb_sm_succ]
        show _ = 0 + _ + _ + _ + _
        omega
      have hm := aMx_le (aHs S.1) 32 (aHs_le S.1) p
      have hh := aHs_le S.1 p
      unfold f_Law_few_s4
      rw [if_neg (show ¬ 4 ≤ nI p from nI_ge (b := 4) hp (by omega)), e0, pB]
      dsimp only
      rw [e1, pB]
      dsimp only
      rw [e2, pB]
      dsimp only
      rw [e3, pB]
      dsimp only
      rw [nI_add, nI_add, nI_add, es]
      unfold f_Law_few_b55_4
      show _ = some (Sum.inl (nI (if aMx (aHs S.1) p < aHs S.1 p then aHs S.1 p else aMx (aHs S.1) p), nI (p + 1), M))
      by_cases q : aMx (aHs S.1) p < aHs S.1 p
      · rw [if_pos q, if_neg (nI_ge q (by omega)), nI_1]
      · rw [if_neg q, if_pos (nI_le (by omega) (by omega)), nI_1]
    · show f_Law_few_s4 M (nI (aMx (aHs S.1) 4)) (nI 4) = _
      unfold f_Law_few_s4
      rw [if_pos (by decide)]
  unfold f_Law_few
  rw [hl, pB]
theorem mx_mn {f g : Nat → Nat} {ok : Nat → Bool} (h : ∀ k, k < 32 → ok k = true → f k + g k = 8) (he : ∃ k, k < 32 ∧ ok k = true) : mxF f ok 32 + mnF g ok 32 = 8 := by
  obtain ⟨i, i1, i2, i3⟩ := mxF_ex (f := f) 32 he
  obtain ⟨j, j1, j2, j3⟩ := mnF_ex2 (f := g) 32 (fun k hk ho => by have := h k hk ho; omega) he
  have h1 := h i i1 i2
  have h2 := h j j1 j2
  have h3 := mxF_ge (f := f) j1 j2
  have h4 := mnF_le (f := g) i1 i2
  omega
/-- the tricks of both sides are all the tricks -/
theorem TS_zs : ∀ n a, aV a → aX a → (a 0 5 = 2 ∨ n = 0) → a 1 3 + n = 32 → TS 0 n a + TS 1 n a = 8 := by
  intro n
  induction n with
  | zero =>
    intro a hV hX _ hn
    have := hX.1
    show a 3 0 + a 3 1 = 8
    omega
  | succ n ih =>
    intro a hV hX hp hn
    have hp2 := hp.resolve_right (by omega)
    have kid : ∀ c, c < 32 → aOk a c = true → TS 0 n (aLay a c) + TS 1 n (aLay a c) = 8 := by
      intro c hc ho
      have hr := ok_rs.mp ho
      have h1 := lay_ph hV hp2 hc
      exact ih _ (aV_lay hV hp2 hc hr) (aX_lay hV hX hp2 hc hr) (by omega) (by omega)
    have he := ok_ex hV hp2
    unfold TS
    by_cases z : a 0 6 % 2 = 0
    · rw [if_pos z, if_neg (by omega)]
      exact mx_mn kid he
    · rw [if_neg z, if_pos (by omega), Nat.add_comm]
      exact mx_mn (fun k hk ho => by have := kid k hk ho; omega) he
/-- the card that is told keeps the tricks of both sides -/
theorem TS_isB (hV : aV a) (hX : aX a) (hp : a 0 5 = 2) (hn : a 1 3 + (n + 1) = 32) (hs : sd < 2) (hb : isB a (a 0 6 % 2) n x) : TS sd n (aLay a x) = TS sd (n + 1) a := by
  obtain ⟨b1, b2, b3, -⟩ := hb
  have hr := ok_rs.mp b2
  have h1 := lay_ph hV hp b1
  have z1 := TS_zs (n + 1) a hV hX (Or.inl hp) hn
  have z2 := TS_zs n (aLay a x) (aV_lay hV hp b1 hr) (aX_lay hV hX hp b1 hr) (by omega) (by omega)
  rcases (show a 0 6 % 2 = 0 ∨ a 0 6 % 2 = 1 by omega) with z | z <;> rw [z] at b3 <;> rcases (show sd = 0 ∨ sd = 1 by omega) with rfl | rfl <;> omega
theorem TS_any (hs : a 0 6 % 2 = sd) (hy : y < 32) (ho : aOk a y = true) : TS sd n (aLay a y) ≤ TS sd (n + 1) a := by
  show _ ≤ if a 0 6 % 2 = sd then mxF (fun c => TS sd n (aLay a c)) (aOk a) 32 else mnF (fun c => TS sd n (aLay a c)) (aOk a) 32
  rw [if_pos hs]
  exact mxF_ge (f := fun c => TS sd n (aLay a c)) hy ho
theorem few_lay (hV : aV a) (hf : few a) (hx : x < 32) (h5 : aLay a x 0 5 = 2) : few (aLay a x) := by
  refine ⟨h5, (aMx_if2 _ _ 4).mpr fun p hp => ?_⟩
  have h := (aMx_if2 _ _ 4).mp hf.2 p hp
  refine Nat.le_trans ?_ h
  unfold aHs
  refine fb_ct_sub fun c _ hc => ?_
  have := of_decide_eq_true hc
  rw [lay_H hV hf.1] at this
  refine decide_eq_true ?_
  split at this
  · omega
  · exact this
/-- what is told, by the side that is asked for -/
theorem TS_t (hV : aV a) (hX : aX a) (hf : few a) (hs : sd < 2) : a 3 sd ≤ TS sd (32 - a 1 3) a ∧ TS sd (32 - a 1 3) a ≤ 8 ∧ a 3 0 + a 3 1 ≤ 8 ∧ tmost a ≤ 8 - a 3 0 - a 3 1 ∧ (a 0 6 % 2 = sd → a 3 sd + tmost a = TS sd (32 - a 1 3) a) ∧ (¬ a 0 6 % 2 = sd → a 3 sd + (8 - a 3 0 - a 3 1 - tmost a) = TS sd (32 - a 1 3) a) := by
  have hl := (hV.2.1.2.2.2.2.2.2.2.1 hf.1).2
  have b0 := TS_b (sd := 0) (by omega) (32 - a 1 3) a hV (Or.inl ⟨hf.1, by omega, by omega⟩)
  have b1 := TS_b (sd := 1) (by omega) (32 - a 1 3) a hV (Or.inl ⟨hf.1, by omega, by omega⟩)
  have z := TS_zs (32 - a 1 3) a hV hX (Or.inl hf.1) (by omega)
  have x1 := hX.1
  unfold tmost
  rcases (show a 0 6 % 2 = 0 ∨ a 0 6 % 2 = 1 by omega) with t | t <;> rw [t] <;> rcases (show sd = 0 ∨ sd = 1 by omega) with rfl | rfl <;> omega
end FE
