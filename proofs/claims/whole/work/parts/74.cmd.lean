-- ===== PURE: a script's commands on a copy by both =====
section CM
variable {M W : gMem} {e c B : Nat} {a : Nat → Nat → Nat} {r : Nat → Nat}
theorem advices_both {n : Nat} (hn : n < 1000) : ∀ m i a r, i + m = n → PR B a r → ∃ b a' r', b ≤ 1 ∧ (∀ (M : gMem) (e : Nat), f_Scr_tryAdvices_l2 e (nI n) (nI i, aW M e a) = some (nI b, aW M e a')) ∧ f_Mo_playsAdvice_l4 (nI n) (1, nI i, rW W 3 r) = some (nI b, rW W 3 r') ∧ PR B a' r' := by
  intro m
  induction m with
  | zero =>
    intro i a r him h
    refine ⟨1, a, r, by omega, fun M e => ?_, ?_, h⟩
    · refine pLx ?_
      show f_Scr_tryAdvices_s2 e (aW M e a) (nI n) (nI i) = _
      unfold f_Scr_tryAdvices_s2
      rw [if_pos (nI_le (by omega) (by omega))]
      rfl
    · refine pLx ?_
      show f_Mo_playsAdvice_s4 (rW W 3 r) (nI n) 1 (nI i) = _
      unfold f_Mo_playsAdvice_s4 f_Mo_playsAdvice_b27 gBl
      rw [if_pos (nI_le (by omega) (by omega)), if_pos (Or.inr rfl)]
      rfl
  | succ m ih =>
    intro i a r him h
    obtain ⟨r1, g1, g2⟩ := q_advice1 (W := W) (c := 3) h.1 h.2.1
    have h4 := aV_A1 h.2.1
    have h1 : PR B (aA1 a) r1 := ⟨g2, h4.1, by rw [h4.2]; exact h.2.2⟩
    have mo : f_Mo_playsAdvice_s4 (rW W 3 r) (nI n) 1 (nI i) = some (.inl (nI (fA a), nI (i + 1), rW W 3 r1)) := by
      unfold f_Mo_playsAdvice_s4
      rw [if_neg (nI_ge (by omega) (by omega)), if_neg (show ¬ (1 : Int32) = 0 by decide), g1, pB, nI_1]
    have cs : ∀ (M : gMem) (e : Nat), f_Scr_tryAdvices_s2 e (aW M e a) (nI n) (nI i) = _ := fun M e => p_adviceStep h.2.1 (show i < n by omega) (by omega)
    by_cases z : fA a = 1
    · obtain ⟨b, a', r', k1, k2, k3, k4⟩ := ih (i + 1) (aA1 a) r1 (by omega) h1
      refine ⟨b, a', r', k1, fun M e => ?_, ?_, k4⟩
      · have s := cs M e
        rw [if_pos z] at s
        exact (pLp (step := fun s => f_Scr_tryAdvices_s2 e s.2 (nI n) s.1) (s := (nI i, aW M e a)) (s' := (nI (i + 1), aW M e (aA1 a))) s).trans (k2 M e)
      · rw [z] at mo
        exact (pLp (step := fun s => f_Mo_playsAdvice_s4 s.2.2 (nI n) s.1 s.2.1) (s := (1, nI i, rW W 3 r)) (s' := (nI 1, nI (i + 1), rW W 3 r1)) mo).trans k3
    · have z0 : fA a = 0 := by
        unfold fA at z ⊢
        (repeat' split) <;> first | rfl | (exfalso; simp_all)
      refine ⟨0, aA1 a, r1, by omega, fun M e => ?_, ?_, h1⟩
      · have s := cs M e
        rw [if_neg z] at s
        exact pLx (step := fun s => f_Scr_tryAdvices_s2 e s.2 (nI n) s.1) (s := (nI i, aW M e a)) s
      · rw [z0] at mo
        refine (pLp (step := fun s => f_Mo_playsAdvice_s4 s.2.2 (nI n) s.1 s.2.1) (s := (1, nI i, rW W 3 r)) (s' := (nI 0, nI (i + 1), rW W 3 r1)) mo).trans (pLx ?_)
        show f_Mo_playsAdvice_s4 (rW W 3 r1) (nI n) (nI 0) (nI (i + 1)) = _
        unfold f_Mo_playsAdvice_s4 f_Mo_playsAdvice_b27 gBl
        rw [if_pos (show nI 0 = 0 ∨ nI 0 = 1 from Or.inl rfl), if_pos (show nI 0 = 0 from rfl)]
        split <;> rfl
theorem q_isBid {x y : Nat} (hx : x < 1000) (hy : y < 1000) : f_Mo_isBid (nI x) (nI y) = some (nI (if 1 ≤ x ∧ x ≤ 4 ∧ y ≤ 4 then 1 else 0)) := by
  rw [← p_isBid hx hy]
  rcases isBid_both (nI x) (nI y) with ⟨b1, b2⟩ | ⟨_, _, _, _, _, _, _, b1, b2⟩
  · rw [b1, b2]
  · rw [b1, b2]
theorem aPass_5 (h : a 0 5 = 1) : 1 ≤ aPass a 0 5 := by
  have e : aPs1 a 0 5 = 1 := by unfold aPs1; rw [aS_k _ (by omega), aS_k _ (by omega), h]
  unfold aPass
  by_cases c1 : a 0 9 = 4294967295
  · rw [if_pos c1]
    by_cases c2 : a 0 10 + 1 = 4
    · rw [if_pos c2, aS_k _ (by omega), aS_s]
      omega
    · rw [if_neg c2, e]
      exact Nat.le_refl 1
  · rw [if_neg c1]
    by_cases c2 : a 0 10 + 1 = 3
    · rw [if_pos c2, aS_k _ (by omega), aS_s]
      omega
    · rw [if_neg c2, e]
      exact Nat.le_refl 1
/-- what a command does, told by both -/
def CB (B : Nat) (W : gMem) (a : Nat → Nat → Nat) (r : Nat → Nat) (g : Nat) : Prop := ∃ b a' r' W1, b ≤ 1 ∧ (∀ (M : gMem) (e : Nat), f_Scr_succeeds e (aW M e a) (nI g) = some (nI b, aW M e a')) ∧ f_Mo_command (rW W 3 r) (nI (g / 1000)) (nI (g % 1000)) = some (nI b, rW W1 3 r') ∧ aJ a' ∧ (b = 1 → PR (B + 1) a' r') ∧ W8 W W1
section CMD
variable {g x y z t h3 : Nat}
theorem cmd_1 (h : PR B a r) (hB : B < 1000000) (hg : g < 10000) (hx : x = g / 100 % 10) (hy : y = g / 10 % 10) (hz : z = g % 10) (ht : t = g % 100) (ho : g / 1000 = 1) : CB B W a r g := by
  have c1 : nI g / 1000 = nI 1 := (z_div (d := 1000) (by omega) (by omega) (by omega)).trans (by rw [ho])
  have c2 : gRem (nI g / 100) 10 = nI x := by rw [show nI g / 100 = nI (g / 100) from z_div (d := 100) (by omega) (by omega) (by omega), hx]; exact z_rem (d := 10) (by omega) (by omega) (by omega)
  have c3 : gRem (nI g / 10) 10 = nI y := by rw [show nI g / 10 = nI (g / 10) from z_div (d := 10) (by omega) (by omega) (by omega), hy]; exact z_rem (d := 10) (by omega) (by omega) (by omega)
  have c4 : gRem (nI g) 10 = nI z := by rw [hz]; exact z_rem (d := 10) (by omega) (by omega) (by omega)
  have c5 : gRem (nI g) 100 = nI t := by rw [ht]; exact z_rem (d := 100) (by omega) (by omega) (by omega)
  have m2 : nI (g % 1000) / 100 = nI x := (z_div (d := 100) (by omega) (by omega) (by omega)).trans (by rw [show g % 1000 / 100 = x by omega])
  have m3 : gRem (nI (g % 1000) / 10) 10 = nI y := by rw [show nI (g % 1000) / 10 = nI (g % 1000 / 10) from z_div (d := 10) (by omega) (by omega) (by omega), show y = g % 1000 / 10 % 10 by omega]; exact z_rem (d := 10) (by omega) (by omega) (by omega)
  have m4 : gRem (nI (g % 1000)) 10 = nI z := by rw [show z = g % 1000 % 10 by omega]; exact z_rem (d := 10) (by omega) (by omega) (by omega)
  have m5 : gRem (nI (g % 1000)) 100 = nI t := by rw [show t = g % 1000 % 100 by omega]; exact z_rem (d := 100) (by omega) (by omega) (by omega)
  have ex : ∀ v : Nat, v < 1000 → (nI v = 0 ↔ v = 0) := fun v hv => z_inj (y := 0) (by omega) (by omega)
  have hJ := h.2.1.J
  have hv := h.2.1.2.1
  have h53 := hv.1
  have r1 : gRd 197 (rW W 3 r 19 3) 1 = some (nI (a 0 5)) := by
    rw [show gRd 197 (rW W 3 r 19 3) 1 = some (nI (r 1)) from q_rd (show 1 < 197 by omega) (by omega), h.1.r1]
  by_cases q : x = 0
  · obtain ⟨W1, r', g1, g2, g3⟩ := q_dealOn' (W := W) (c := 3) (by omega) h hB (Int32.toInt64 (nI t))
    have hd := h.2.2
    refine ⟨1, _, r', W1, by omega, fun M e => ?_, ?_, g2.2.1.J, fun _ => g2, g3⟩
    · unfold f_Scr_succeeds
      rw [c1, if_pos (show nI 1 = 1 from rfl), c2, if_pos ((ex x (by omega)).mpr q), c5]
      unfold f_Scr_tryDeal
      rw [p_dealWith _ (by omega), pB, pB, if_neg (show ¬ (1 : Int32) = 0 by decide)]
      rfl
    · unfold f_Mo_command
      rw [ho, if_pos (show nI 1 = 1 from rfl), m2, if_pos ((ex x (by omega)).mpr q), m5, g1, pB, if_neg (show ¬ nI (a 0 4 + 1) ≤ 0 from nI_ge (a := 0) (by omega) (by omega))]
      rfl
  · refine ⟨0, a, r, W, by omega, fun M e => ?_, ?_, hJ, fun q => absurd q (by omega), W8.rf W⟩
    · unfold f_Scr_succeeds
      rw [c1, if_pos (show nI 1 = 1 from rfl), c2, if_neg (fun w => q ((ex x (by omega)).mp w))]
      rfl
    · unfold f_Mo_command
      rw [ho, if_pos (show nI 1 = 1 from rfl), m2, if_neg (fun w => q ((ex x (by omega)).mp w))]
      rfl
theorem cmd_2 (h : PR B a r) (hB : B < 1000000) (hg : g < 10000) (hx : x = g / 100 % 10) (hy : y = g / 10 % 10) (hz : z = g % 10) (ht : t = g % 100) (ho : g / 1000 = 2) : CB B W a r g := by
  have c1 : nI g / 1000 = nI 2 := (z_div (d := 1000) (by omega) (by omega) (by omega)).trans (by rw [ho])
  have c2 : gRem (nI g / 100) 10 = nI x := by rw [show nI g / 100 = nI (g / 100) from z_div (d := 100) (by omega) (by omega) (by omega), hx]; exact z_rem (d := 10) (by omega) (by omega) (by omega)
  have c3 : gRem (nI g / 10) 10 = nI y := by rw [show nI g / 10 = nI (g / 10) from z_div (d := 10) (by omega) (by omega) (by omega), hy]; exact z_rem (d := 10) (by omega) (by omega) (by omega)
  have c4 : gRem (nI g) 10 = nI z := by rw [hz]; exact z_rem (d := 10) (by omega) (by omega) (by omega)
  have c5 : gRem (nI g) 100 = nI t := by rw [ht]; exact z_rem (d := 100) (by omega) (by omega) (by omega)
  have m2 : nI (g % 1000) / 100 = nI x := (z_div (d := 100) (by omega) (by omega) (by omega)).trans (by rw [show g % 1000 / 100 = x by omega])
  have m3 : gRem (nI (g % 1000) / 10) 10 = nI y := by rw [show nI (g % 1000) / 10 = nI (g % 1000 / 10) from z_div (d := 10) (by omega) (by omega) (by omega), show y = g % 1000 / 10 % 10 by omega]; exact z_rem (d := 10) (by omega) (by omega) (by omega)
  have m4 : gRem (nI (g % 1000)) 10 = nI z := by rw [show z = g % 1000 % 10 by omega]; exact z_rem (d := 10) (by omega) (by omega) (by omega)
  have m5 : gRem (nI (g % 1000)) 100 = nI t := by rw [show t = g % 1000 % 100 by omega]; exact z_rem (d := 100) (by omega) (by omega) (by omega)
  have ex : ∀ v : Nat, v < 1000 → (nI v = 0 ↔ v = 0) := fun v hv => z_inj (y := 0) (by omega) (by omega)
  have hJ := h.2.1.J
  have hv := h.2.1.2.1
  have h53 := hv.1
  have r1 : gRd 197 (rW W 3 r 19 3) 1 = some (nI (a 0 5)) := by
    rw [show gRd 197 (rW W 3 r 19 3) 1 = some (nI (r 1)) from q_rd (show 1 < 197 by omega) (by omega), h.1.r1]
  by_cases q : z = 0
  · have ib := q_isBid (x := x) (y := y) (by omega) (by omega)
    have tb := fun (M : gMem) (e : Nat) => p_tryBid (M := M) (e := e) (l := x) (s := y) h.2.1 (by omega) (by omega)
    by_cases w : a 0 5 = 1 ∧ (1 ≤ x ∧ x ≤ 4 ∧ y ≤ 4) ∧ 5 * a 0 7 + a 0 8 < 5 * x + y
    · have cb := q_canBid (M := W) (k := 3) (l := x) (s := y) h.1 w.2.1.1 (by omega) (by omega) (by omega) hv.2.2.2.1 hv.2.2.2.2.1
      obtain ⟨r', g1, g2⟩ := q_bidOn (M := W) (k := 3) (l := x) (s := y) h.1 w.1 (hv.2.1 (Or.inl w.1)) w.2.1.2.2
      rw [if_pos ⟨w.1, w.2.2⟩] at cb
      rw [if_pos w.2.1] at ib
      have hV' := aV_bid h.2.1 w.1 w.2.1.1 w.2.1.2.1 w.2.1.2.2
      refine ⟨1, aBid a x y, r', W, by omega, fun M e => ?_, ?_, hV'.J, fun _ => ⟨g2, hV', by rw [aBid_4]; have := h.2.2; omega⟩, W8.rf W⟩
      · unfold f_Scr_succeeds
        rw [c1, if_neg (show ¬ nI 2 = 1 by decide), if_pos (show nI 2 = 2 from rfl), c4, if_pos ((ex z (by omega)).mpr q), c2, c3, tb, if_pos w, pB, if_neg (show ¬ (1 : Int32) = 0 by decide)]
        rfl
      · unfold f_Mo_command
        rw [ho, if_neg (show ¬ nI 2 = 1 by decide), if_pos (show nI 2 = 2 from rfl), m4, if_pos ((ex z (by omega)).mpr q), m2, m3, ib, pB, if_neg (by decide), cb, pB, if_neg (by decide), g1, pB, if_neg (nI_pos (by omega))]
        rfl
    · refine ⟨0, a, r, W, by omega, fun M e => ?_, ?_, hJ, fun q => absurd q (by omega), W8.rf W⟩
      · unfold f_Scr_succeeds
        rw [c1, if_neg (show ¬ nI 2 = 1 by decide), if_pos (show nI 2 = 2 from rfl), c4, if_pos ((ex z (by omega)).mpr q), c2, c3, tb, if_neg w, pB, if_pos rfl]
        rfl
      · unfold f_Mo_command
        rw [ho, if_neg (show ¬ nI 2 = 1 by decide), if_pos (show nI 2 = 2 from rfl), m4, if_pos ((ex z (by omega)).mpr q), m2, m3, ib, pB]
        by_cases w2 : 1 ≤ x ∧ x ≤ 4 ∧ y ≤ 4
        · have cb := q_canBid (M := W) (k := 3) (l := x) (s := y) h.1 w2.1 (by omega) (by omega) (by omega) hv.2.2.2.1 hv.2.2.2.2.1
          rw [if_neg (fun k => w ⟨k.1, w2, k.2⟩)] at cb
          rw [if_pos w2, if_neg (by decide), cb, pB, if_pos (by decide)]
          rfl
        · rw [if_neg w2, if_pos (by decide)]
          rfl
  · refine ⟨0, a, r, W, by omega, fun M e => ?_, ?_, hJ, fun q => absurd q (by omega), W8.rf W⟩
    · unfold f_Scr_succeeds
      rw [c1, if_neg (show ¬ nI 2 = 1 by decide), if_pos (show nI 2 = 2 from rfl), c4, if_neg (fun w => q ((ex z (by omega)).mp w))]
      rfl
    · unfold f_Mo_command
      rw [ho, if_neg (show ¬ nI 2 = 1 by decide), if_pos (show nI 2 = 2 from rfl), m4, if_neg (fun w => q ((ex z (by omega)).mp w))]
      rfl
theorem cmd_3 (h : PR B a r) (hB : B < 1000000) (hg : g < 10000) (hx : x = g / 100 % 10) (hy : y = g / 10 % 10) (hz : z = g % 10) (ht : t = g % 100) (ho : g / 1000 = 3) : CB B W a r g := by
  have c1 : nI g / 1000 = nI 3 := (z_div (d := 1000) (by omega) (by omega) (by omega)).trans (by rw [ho])
  have c2 : gRem (nI g / 100) 10 = nI x := by rw [show nI g / 100 = nI (g / 100) from z_div (d := 100) (by omega) (by omega) (by omega), hx]; exact z_rem (d := 10) (by omega) (by omega) (by omega)
  have c3 : gRem (nI g / 10) 10 = nI y := by rw [show nI g / 10 = nI (g / 10) from z_div (d := 10) (by omega) (by omega) (by omega), hy]; exact z_rem (d := 10) (by omega) (by omega) (by omega)
  have c4 : gRem (nI g) 10 = nI z := by rw [hz]; exact z_rem (d := 10) (by omega) (by omega) (by omega)
  have c5 : gRem (nI g) 100 = nI t := by rw [ht]; exact z_rem (d := 100) (by omega) (by omega) (by omega)
  have m2 : nI (g % 1000) / 100 = nI x := (z_div (d := 100) (by omega) (by omega) (by omega)).trans (by rw [show g % 1000 / 100 = x by omega])
  have m3 : gRem (nI (g % 1000) / 10) 10 = nI y := by rw [show nI (g % 1000) / 10 = nI (g % 1000 / 10) from z_div (d := 10) (by omega) (by omega) (by omega), show y = g % 1000 / 10 % 10 by omega]; exact z_rem (d := 10) (by omega) (by omega) (by omega)
  have m4 : gRem (nI (g % 1000)) 10 = nI z := by rw [show z = g % 1000 % 10 by omega]; exact z_rem (d := 10) (by omega) (by omega) (by omega)
  have m5 : gRem (nI (g % 1000)) 100 = nI t := by rw [show t = g % 1000 % 100 by omega]; exact z_rem (d := 100) (by omega) (by omega) (by omega)
  have ex : ∀ v : Nat, v < 1000 → (nI v = 0 ↔ v = 0) := fun v hv => z_inj (y := 0) (by omega) (by omega)
  have hJ := h.2.1.J
  have hv := h.2.1.2.1
  have h53 := hv.1
  have r1 : gRd 197 (rW W 3 r 19 3) 1 = some (nI (a 0 5)) := by
    rw [show gRd 197 (rW W 3 r 19 3) 1 = some (nI (r 1)) from q_rd (show 1 < 197 by omega) (by omega), h.1.r1]
  by_cases q : g % 1000 = 0
  · have x0 : x = 0 := by omega
    have t0 : t = 0 := by omega
    by_cases w : a 0 5 = 1
    · obtain ⟨r', g1, g2⟩ := q_passOn' (W := W) (c := 3) h.1 h.2.1 w
      have hV' := aV_pass h.2.1 w
      have h5 := aPass_5 w
      have h6 := hV'.2.1.1
      refine ⟨1, aPass a, r', W, by omega, fun M e => ?_, ?_, hV'.J, fun _ => ⟨g2, hV', by rw [aPass_4]; have := h.2.2; omega⟩, W8.rf W⟩
      · unfold f_Scr_succeeds
        rw [c1, if_neg (show ¬ nI 3 = 1 by decide), if_neg (show ¬ nI 3 = 2 by decide), if_pos (show nI 3 = 3 from rfl), c2, if_pos ((ex x (by omega)).mpr x0), c5, if_pos ((ex t (by omega)).mpr t0), p_tryPass h.2.1, if_pos w, pB, if_neg (show ¬ (1 : Int32) = 0 by decide)]
        rfl
      · unfold f_Mo_command
        rw [ho, if_neg (show ¬ nI 3 = 1 by decide), if_neg (show ¬ nI 3 = 2 by decide), if_pos (show nI 3 = 3 from rfl), if_pos ((ex _ (by omega)).mpr q), r1, pB, w, if_pos (show nI 1 = 1 from rfl), g1, pB, if_neg (show ¬ nI (aPass a 0 5) ≤ 0 from nI_ge (a := 0) (by omega) (by omega))]
        rfl
    · refine ⟨0, a, r, W, by omega, fun M e => ?_, ?_, hJ, fun q => absurd q (by omega), W8.rf W⟩
      · unfold f_Scr_succeeds
        rw [c1, if_neg (show ¬ nI 3 = 1 by decide), if_neg (show ¬ nI 3 = 2 by decide), if_pos (show nI 3 = 3 from rfl), c2, if_pos ((ex x (by omega)).mpr x0), c5, if_pos ((ex t (by omega)).mpr t0), p_tryPass h.2.1, if_neg w, pB, if_pos rfl]
        rfl
      · unfold f_Mo_command
        rw [ho, if_neg (show ¬ nI 3 = 1 by decide), if_neg (show ¬ nI 3 = 2 by decide), if_pos (show nI 3 = 3 from rfl), if_pos ((ex _ (by omega)).mpr q), r1, pB, if_neg (show ¬ nI (a 0 5) = 1 from z_ne (y := 1) (by omega) (by omega) w)]
        rfl
  · refine ⟨0, a, r, W, by omega, fun M e => ?_, ?_, hJ, fun q => absurd q (by omega), W8.rf W⟩
    · unfold f_Scr_succeeds
      rw [c1, if_neg (show ¬ nI 3 = 1 by decide), if_neg (show ¬ nI 3 = 2 by decide), if_pos (show nI 3 = 3 from rfl), c2, c5]
      by_cases x0 : x = 0
      · rw [if_pos ((ex x (by omega)).mpr x0), if_neg (fun w => by have := (ex t (by omega)).mp w; omega)]
        rfl
      · rw [if_neg (fun w => x0 ((ex x (by omega)).mp w))]
        rfl
    · unfold f_Mo_command
      rw [ho, if_neg (show ¬ nI 3 = 1 by decide), if_neg (show ¬ nI 3 = 2 by decide), if_pos (show nI 3 = 3 from rfl), if_neg (fun w => q ((ex _ (by omega)).mp w))]
      rfl
theorem cmd_4 (h : PR B a r) (hB : B < 1000000) (hg : g < 10000) (hx : x = g / 100 % 10) (hy : y = g / 10 % 10) (hz : z = g % 10) (ht : t = g % 100) (ho : g / 1000 = 4) : CB B W a r g := by
  have c1 : nI g / 1000 = nI 4 := (z_div (d := 1000) (by omega) (by omega) (by omega)).trans (by rw [ho])
  have c2 : gRem (nI g / 100) 10 = nI x := by rw [show nI g / 100 = nI (g / 100) from z_div (d := 100) (by omega) (by omega) (by omega), hx]; exact z_rem (d := 10) (by omega) (by omega) (by omega)
  have c3 : gRem (nI g / 10) 10 = nI y := by rw [show nI g / 10 = nI (g / 10) from z_div (d := 10) (by omega) (by omega) (by omega), hy]; exact z_rem (d := 10) (by omega) (by omega) (by omega)
  have c4 : gRem (nI g) 10 = nI z := by rw [hz]; exact z_rem (d := 10) (by omega) (by omega) (by omega)
  have c5 : gRem (nI g) 100 = nI t := by rw [ht]; exact z_rem (d := 100) (by omega) (by omega) (by omega)
  have m2 : nI (g % 1000) / 100 = nI x := (z_div (d := 100) (by omega) (by omega) (by omega)).trans (by rw [show g % 1000 / 100 = x by omega])
  have m3 : gRem (nI (g % 1000) / 10) 10 = nI y := by rw [show nI (g % 1000) / 10 = nI (g % 1000 / 10) from z_div (d := 10) (by omega) (by omega) (by omega), show y = g % 1000 / 10 % 10 by omega]; exact z_rem (d := 10) (by omega) (by omega) (by omega)
  have m4 : gRem (nI (g % 1000)) 10 = nI z := by rw [show z = g % 1000 % 10 by omega]; exact z_rem (d := 10) (by omega) (by omega) (by omega)
  have m5 : gRem (nI (g % 1000)) 100 = nI t := by rw [show t = g % 1000 % 100 by omega]; exact z_rem (d := 100) (by omega) (by omega) (by omega)
  have ex : ∀ v : Nat, v < 1000 → (nI v = 0 ↔ v = 0) := fun v hv => z_inj (y := 0) (by omega) (by omega)
  have hJ := h.2.1.J
  have hv := h.2.1.2.1
  have h53 := hv.1
  have r1 : gRd 197 (rW W 3 r 19 3) 1 = some (nI (a 0 5)) := by
    rw [show gRd 197 (rW W 3 r 19 3) 1 = some (nI (r 1)) from q_rd (show 1 < 197 by omega) (by omega), h.1.r1]
  by_cases q : x = 0
  · by_cases w : a 0 5 = 2 ∧ t < 32 ∧ aRs a t = 0
    · obtain ⟨r', g1, g2⟩ := q_playOn (M := W) (k := 3) h.1 (h.2.1.P w.1) w.2.1
      rw [w.2.2] at g1
      rw [if_pos w.2.2] at g2
      have hV' := aV_lay h.2.1 w.1 w.2.1 w.2.2
      refine ⟨1, aLay a t, r', W, by omega, fun M e => ?_, ?_, hV'.J, fun _ => ⟨g2, hV', by rw [(aLay_0 h.2.1 w.1 w.2.1).2.2.2.2.2.1]; have := h.2.2; omega⟩, W8.rf W⟩
      · unfold f_Scr_succeeds
        rw [c1, if_neg (show ¬ nI 4 = 1 by decide), if_neg (show ¬ nI 4 = 2 by decide), if_neg (show ¬ nI 4 = 3 by decide), if_pos (show nI 4 = 4 from rfl), c2, if_pos ((ex x (by omega)).mpr q), c5, p_tryCard h.2.1 (by omega), if_pos w, pB, if_neg (show ¬ (1 : Int32) = 0 by decide)]
        rfl
      · unfold f_Mo_command
        rw [ho, if_neg (show ¬ nI 4 = 1 by decide), if_neg (show ¬ nI 4 = 2 by decide), if_neg (show ¬ nI 4 = 3 by decide), if_pos (show nI 4 = 4 from rfl), m2, if_pos ((ex x (by omega)).mpr q), m5, if_neg (show ¬ (32 : Int32) ≤ nI t from nI_ge (b := 32) w.2.1 (by omega)), r1, pB, w.1, if_pos (show nI 2 = 2 from rfl), g1, pB, if_pos (show nI 0 = 0 from rfl)]
        rfl
    · have tc := fun (M : gMem) (e : Nat) => p_tryCard (M := M) (e := e) (w := t) h.2.1 (by omega)
      by_cases w2 : t < 32
      · by_cases w3 : a 0 5 = 2
        · have nr : ¬ aRs a t = 0 := fun k => w ⟨w3, w2, k⟩
          have hle := aRs_le a t
          obtain ⟨r', g1, g2⟩ := q_playOn (M := W) (k := 3) h.1 (h.2.1.P w3) w2
          refine ⟨0, a, r', W, by omega, fun M e => ?_, ?_, hJ, fun q => absurd q (by omega), W8.rf W⟩
          · unfold f_Scr_succeeds
            rw [c1, if_neg (show ¬ nI 4 = 1 by decide), if_neg (show ¬ nI 4 = 2 by decide), if_neg (show ¬ nI 4 = 3 by decide), if_pos (show nI 4 = 4 from rfl), c2, if_pos ((ex x (by omega)).mpr q), c5, tc, if_neg w, pB, if_pos rfl]
            rfl
          · unfold f_Mo_command
            rw [ho, if_neg (show ¬ nI 4 = 1 by decide), if_neg (show ¬ nI 4 = 2 by decide), if_neg (show ¬ nI 4 = 3 by decide), if_pos (show nI 4 = 4 from rfl), m2, if_pos ((ex x (by omega)).mpr q), m5, if_neg (show ¬ (32 : Int32) ≤ nI t from nI_ge (b := 32) w2 (by omega)), r1, pB, w3, if_pos (show nI 2 = 2 from rfl), g1, pB, if_neg (show ¬ nI (aRs a t) = 0 from z_ne (y := 0) (by omega) (by omega) nr)]
            rfl
        · refine ⟨0, a, r, W, by omega, fun M e => ?_, ?_, hJ, fun q => absurd q (by omega), W8.rf W⟩
          · unfold f_Scr_succeeds
            rw [c1, if_neg (show ¬ nI 4 = 1 by decide), if_neg (show ¬ nI 4 = 2 by decide), if_neg (show ¬ nI 4 = 3 by decide), if_pos (show nI 4 = 4 from rfl), c2, if_pos ((ex x (by omega)).mpr q), c5, tc, if_neg w, pB, if_pos rfl]
            rfl
          · unfold f_Mo_command
            rw [ho, if_neg (show ¬ nI 4 = 1 by decide), if_neg (show ¬ nI 4 = 2 by decide), if_neg (show ¬ nI 4 = 3 by decide), if_pos (show nI 4 = 4 from rfl), m2, if_pos ((ex x (by omega)).mpr q), m5, if_neg (show ¬ (32 : Int32) ≤ nI t from nI_ge (b := 32) w2 (by omega)), r1, pB, if_neg (show ¬ nI (a 0 5) = 2 from z_ne (y := 2) (by omega) (by omega) w3)]
            rfl
      · refine ⟨0, a, r, W, by omega, fun M e => ?_, ?_, hJ, fun q => absurd q (by omega), W8.rf W⟩
        · unfold f_Scr_succeeds
          rw [c1, if_neg (show ¬ nI 4 = 1 by decide), if_neg (show ¬ nI 4 = 2 by decide), if_neg (show ¬ nI 4 = 3 by decide), if_pos (show nI 4 = 4 from rfl), c2, if_pos ((ex x (by omega)).mpr q), c5, tc, if_neg w, pB, if_pos rfl]
          rfl
        · unfold f_Mo_command
          rw [ho, if_neg (show ¬ nI 4 = 1 by decide), if_neg (show ¬ nI 4 = 2 by decide), if_neg (show ¬ nI 4 = 3 by decide), if_pos (show nI 4 = 4 from rfl), m2, if_pos ((ex x (by omega)).mpr q), m5, if_pos (show (32 : Int32) ≤ nI t from nI_le (a := 32) (by omega) (by omega))]
          rfl
  · refine ⟨0, a, r, W, by omega, fun M e => ?_, ?_, hJ, fun q => absurd q (by omega), W8.rf W⟩
    · unfold f_Scr_succeeds
      rw [c1, if_neg (show ¬ nI 4 = 1 by decide), if_neg (show ¬ nI 4 = 2 by decide), if_neg (show ¬ nI 4 = 3 by decide), if_pos (show nI 4 = 4 from rfl), c2, if_neg (fun w => q ((ex x (by omega)).mp w))]
      rfl
    · unfold f_Mo_command
      rw [ho, if_neg (show ¬ nI 4 = 1 by decide), if_neg (show ¬ nI 4 = 2 by decide), if_neg (show ¬ nI 4 = 3 by decide), if_pos (show nI 4 = 4 from rfl), m2, if_neg (fun w => q ((ex x (by omega)).mp w))]
      rfl
theorem cmd_5 (h : PR B a r) (hB : B < 1000000) (hg : g < 10000) (hx : x = g / 100 % 10) (hy : y = g / 10 % 10) (hz : z = g % 10) (ht : t = g % 100) (ho : g / 1000 = 5) : CB B W a r g := by
  have c1 : nI g / 1000 = nI 5 := (z_div (d := 1000) (by omega) (by omega) (by omega)).trans (by rw [ho])
  have c2 : gRem (nI g / 100) 10 = nI x := by rw [show nI g / 100 = nI (g / 100) from z_div (d := 100) (by omega) (by omega) (by omega), hx]; exact z_rem (d := 10) (by omega) (by omega) (by omega)
  have c3 : gRem (nI g / 10) 10 = nI y := by rw [show nI g / 10 = nI (g / 10) from z_div (d := 10) (by omega) (by omega) (by omega), hy]; exact z_rem (d := 10) (by omega) (by omega) (by omega)
  have c4 : gRem (nI g) 10 = nI z := by rw [hz]; exact z_rem (d := 10) (by omega) (by omega) (by omega)
  have c5 : gRem (nI g) 100 = nI t := by rw [ht]; exact z_rem (d := 100) (by omega) (by omega) (by omega)
  have m2 : nI (g % 1000) / 100 = nI x := (z_div (d := 100) (by omega) (by omega) (by omega)).trans (by rw [show g % 1000 / 100 = x by omega])
  have m3 : gRem (nI (g % 1000) / 10) 10 = nI y := by rw [show nI (g % 1000) / 10 = nI (g % 1000 / 10) from z_div (d := 10) (by omega) (by omega) (by omega), show y = g % 1000 / 10 % 10 by omega]; exact z_rem (d := 10) (by omega) (by omega) (by omega)
  have m4 : gRem (nI (g % 1000)) 10 = nI z := by rw [show z = g % 1000 % 10 by omega]; exact z_rem (d := 10) (by omega) (by omega) (by omega)
  have m5 : gRem (nI (g % 1000)) 100 = nI t := by rw [show t = g % 1000 % 100 by omega]; exact z_rem (d := 100) (by omega) (by omega) (by omega)
  have ex : ∀ v : Nat, v < 1000 → (nI v = 0 ↔ v = 0) := fun v hv => z_inj (y := 0) (by omega) (by omega)
  have hJ := h.2.1.J
  have hv := h.2.1.2.1
  have h53 := hv.1
  have r1 : gRd 197 (rW W 3 r 19 3) 1 = some (nI (a 0 5)) := by
    rw [show gRd 197 (rW W 3 r 19 3) 1 = some (nI (r 1)) from q_rd (show 1 < 197 by omega) (by omega), h.1.r1]
  by_cases q : g % 1000 < 10
  · have x0 : x = 0 := by omega
    have y0 : y = 0 := by omega
    obtain ⟨b, a', r', k1, k2, k3, k4⟩ := advices_both (W := W) (n := z) (by omega) z 0 a r (by omega) h
    refine ⟨b, a', r', W, k1, fun M e => ?_, ?_, k4.2.1.J, fun _ => k4.up, W8.rf W⟩
    · unfold f_Scr_succeeds
      rw [c1, if_neg (show ¬ nI 5 = 1 by decide), if_neg (show ¬ nI 5 = 2 by decide), if_neg (show ¬ nI 5 = 3 by decide), if_neg (show ¬ nI 5 = 4 by decide), if_pos (show nI 5 = 5 from rfl), c2, if_pos ((ex x (by omega)).mpr x0), c3, if_pos ((ex y (by omega)).mpr y0), c4, show f_Scr_tryAdvices e (aW M e a) (nI z) = some (nI b, aW M e a') from k2 M e, pB]
      rcases (show b = 0 ∨ b = 1 by omega) with w | w <;> rw [w] <;> rfl
    · unfold f_Mo_command
      rw [ho, if_neg (show ¬ nI 5 = 1 by decide), if_neg (show ¬ nI 5 = 2 by decide), if_neg (show ¬ nI 5 = 3 by decide), if_neg (show ¬ nI 5 = 4 by decide), if_pos (show nI 5 = 5 from rfl), if_neg (show ¬ (10 : Int32) ≤ nI (g % 1000) from nI_ge (b := 10) q (by omega)), m4, show f_Mo_playsAdvice (rW W 3 r) (nI z) = some (nI b, rW W 3 r') from k3, pB]
      rcases (show b = 0 ∨ b = 1 by omega) with w | w <;> rw [w] <;> rfl
  · refine ⟨0, a, r, W, by omega, fun M e => ?_, ?_, hJ, fun q => absurd q (by omega), W8.rf W⟩
    · unfold f_Scr_succeeds
      rw [c1, if_neg (show ¬ nI 5 = 1 by decide), if_neg (show ¬ nI 5 = 2 by decide), if_neg (show ¬ nI 5 = 3 by decide), if_neg (show ¬ nI 5 = 4 by decide), if_pos (show nI 5 = 5 from rfl), c2, c3]
      by_cases x0 : x = 0
      · rw [if_pos ((ex x (by omega)).mpr x0), if_neg (fun w => by have := (ex y (by omega)).mp w; omega)]
        rfl
      · rw [if_neg (fun w => x0 ((ex x (by omega)).mp w))]
        rfl
    · unfold f_Mo_command
      rw [ho, if_neg (show ¬ nI 5 = 1 by decide), if_neg (show ¬ nI 5 = 2 by decide), if_neg (show ¬ nI 5 = 3 by decide), if_neg (show ¬ nI 5 = 4 by decide), if_pos (show nI 5 = 5 from rfl), if_pos (show (10 : Int32) ≤ nI (g % 1000) from nI_le (a := 10) (by omega) (by omega))]
      rfl
theorem cmd_6 (h : PR B a r) (hB : B < 1000000) (hg : g < 10000) (hx : x = g / 100 % 10) (hy : y = g / 10 % 10) (hz : z = g % 10) (ht : t = g % 100) (ho : g / 1000 = 6) : CB B W a r g := by
  have c1 : nI g / 1000 = nI 6 := (z_div (d := 1000) (by omega) (by omega) (by omega)).trans (by rw [ho])
  have c2 : gRem (nI g / 100) 10 = nI x := by rw [show nI g / 100 = nI (g / 100) from z_div (d := 100) (by omega) (by omega) (by omega), hx]; exact z_rem (d := 10) (by omega) (by omega) (by omega)
  have c3 : gRem (nI g / 10) 10 = nI y := by rw [show nI g / 10 = nI (g / 10) from z_div (d := 10) (by omega) (by omega) (by omega), hy]; exact z_rem (d := 10) (by omega) (by omega) (by omega)
  have c4 : gRem (nI g) 10 = nI z := by rw [hz]; exact z_rem (d := 10) (by omega) (by omega) (by omega)
  have c5 : gRem (nI g) 100 = nI t := by rw [ht]; exact z_rem (d := 100) (by omega) (by omega) (by omega)
  have m2 : nI (g % 1000) / 100 = nI x := (z_div (d := 100) (by omega) (by omega) (by omega)).trans (by rw [show g % 1000 / 100 = x by omega])
  have m3 : gRem (nI (g % 1000) / 10) 10 = nI y := by rw [show nI (g % 1000) / 10 = nI (g % 1000 / 10) from z_div (d := 10) (by omega) (by omega) (by omega), show y = g % 1000 / 10 % 10 by omega]; exact z_rem (d := 10) (by omega) (by omega) (by omega)
  have m4 : gRem (nI (g % 1000)) 10 = nI z := by rw [show z = g % 1000 % 10 by omega]; exact z_rem (d := 10) (by omega) (by omega) (by omega)
  have m5 : gRem (nI (g % 1000)) 100 = nI t := by rw [show t = g % 1000 % 100 by omega]; exact z_rem (d := 100) (by omega) (by omega) (by omega)
  have ex : ∀ v : Nat, v < 1000 → (nI v = 0 ↔ v = 0) := fun v hv => z_inj (y := 0) (by omega) (by omega)
  have hJ := h.2.1.J
  have hv := h.2.1.2.1
  have h53 := hv.1
  have r1 : gRd 197 (rW W 3 r 19 3) 1 = some (nI (a 0 5)) := by
    rw [show gRd 197 (rW W 3 r 19 3) 1 = some (nI (r 1)) from q_rd (show 1 < 197 by omega) (by omega), h.1.r1]
  have tn : a 0 6 < 4 ∨ a 0 6 = 4294967295 := by
    rcases (show (a 0 5 = 1 ∨ a 0 5 = 2) ∨ (a 0 5 = 0 ∨ a 0 5 = 3) by omega) with k | k
    · exact Or.inl (hv.2.1 k)
    · exact Or.inr (hv.2.2.1 k)
  have cl : ∀ (M : gMem) (e : Nat), f_Scr_succeeds e (aW M e a) (nI g) = some (nI (if g % 1000 < 10 ∧ a 0 6 = z then 1 else 0), aW M e a) := fun M e => by
    unfold f_Scr_succeeds
    rw [c1, if_neg (show ¬ nI 6 = 1 by decide), if_neg (show ¬ nI 6 = 2 by decide), if_neg (show ¬ nI 6 = 3 by decide), if_neg (show ¬ nI 6 = 4 by decide), if_neg (show ¬ nI 6 = 5 by decide), if_pos (show nI 6 = 6 from rfl), c2, c3, c4, aW_r]
    by_cases q : g % 1000 < 10
    · rw [if_pos ((ex x (by omega)).mpr (by omega)), if_pos ((ex y (by omega)).mpr (by omega))]
      by_cases w : a 0 6 = z
      · rw [if_pos (by rw [w]), if_pos ⟨q, w⟩]
        rfl
      · rw [if_neg (z_ne (by omega) (by omega) w), if_neg (fun k => w k.2)]
        rfl
    · rw [show (if g % 1000 < 10 ∧ a 0 6 = z then 1 else 0) = 0 from if_neg (fun k => q k.1)]
      by_cases x0 : x = 0
      · rw [if_pos ((ex x (by omega)).mpr x0), if_neg (fun w => by have := (ex y (by omega)).mp w; omega)]
        rfl
      · rw [if_neg (fun w => x0 ((ex x (by omega)).mp w))]
        rfl
  refine ⟨if g % 1000 < 10 ∧ a 0 6 = z then 1 else 0, a, r, W, by split <;> omega, cl, ?_, hJ, fun _ => h.up, W8.rf W⟩
  unfold f_Mo_command
  rw [ho, if_neg (show ¬ nI 6 = 1 by decide), if_neg (show ¬ nI 6 = 2 by decide), if_neg (show ¬ nI 6 = 3 by decide), if_neg (show ¬ nI 6 = 4 by decide), if_neg (show ¬ nI 6 = 5 by decide), if_pos (show nI 6 = 6 from rfl)]
  by_cases q : g % 1000 < 4
  · rw [if_neg (show ¬ (4 : Int32) ≤ nI (g % 1000) from nI_ge (b := 4) q (by omega)), m4]
    have it : f_Mo_isTurn (rW W 3 r) (nI z) = some (nI (if a 0 6 = z then 1 else 0)) := by
      have b20 : (a 0 5 = 1 ∨ a 0 5 = 2) → f_Mo_isTurn_b20 (rW W 3 r) (nI z) = some (nI (if a 0 6 = z then 1 else 0)) := fun k => by
        unfold f_Mo_isTurn_b20
        rw [show gRd 197 (rW W 3 r 19 3) 2 = some (nI (r 2)) from q_rd (show 2 < 197 by omega) (by omega), h.1.r2 k, pB]
        have t4 := hv.2.1 k
        by_cases w : a 0 6 = z
        · rw [if_pos (by rw [w]), if_pos w]
          rfl
        · rw [if_neg (z_ne (by omega) (by omega) w), if_neg w]
          rfl
      unfold f_Mo_isTurn
      rw [r1, pB]
      by_cases w1 : a 0 5 = 1
      · rw [if_pos (by rw [w1]; rfl)]
        exact b20 (Or.inl w1)
      · rw [if_neg (show ¬ nI (a 0 5) = 1 from z_ne (y := 1) (by omega) (by omega) w1), pB]
        by_cases w2 : a 0 5 = 2
        · rw [if_pos (by rw [w2]; rfl)]
          exact b20 (Or.inr w2)
        · rw [if_neg (show ¬ nI (a 0 5) = 2 from z_ne (y := 2) (by omega) (by omega) w2), if_neg (by have := hv.2.2.1 (by omega); omega)]
          rfl
    rw [it, pB]
    by_cases w : a 0 6 = z
    · rw [if_pos w, if_neg (by decide), if_pos ⟨by omega, w⟩]
      rfl
    · rw [if_neg w, if_pos (by decide), if_neg (fun k => w k.2)]
      rfl
  · rw [if_pos (show (4 : Int32) ≤ nI (g % 1000) from nI_le (a := 4) (by omega) (by omega)), if_neg (by omega)]
    rfl
theorem cmd_7 (h : PR B a r) (hB : B < 1000000) (hg : g < 10000) (hx : x = g / 100 % 10) (hy : y = g / 10 % 10) (hz : z = g % 10) (ht : t = g % 100) (ho : g / 1000 = 7) : CB B W a r g := by
  have c1 : nI g / 1000 = nI 7 := (z_div (d := 1000) (by omega) (by omega) (by omega)).trans (by rw [ho])
  have c2 : gRem (nI g / 100) 10 = nI x := by rw [show nI g / 100 = nI (g / 100) from z_div (d := 100) (by omega) (by omega) (by omega), hx]; exact z_rem (d := 10) (by omega) (by omega) (by omega)
  have c3 : gRem (nI g / 10) 10 = nI y := by rw [show nI g / 10 = nI (g / 10) from z_div (d := 10) (by omega) (by omega) (by omega), hy]; exact z_rem (d := 10) (by omega) (by omega) (by omega)
  have c4 : gRem (nI g) 10 = nI z := by rw [hz]; exact z_rem (d := 10) (by omega) (by omega) (by omega)
  have c5 : gRem (nI g) 100 = nI t := by rw [ht]; exact z_rem (d := 100) (by omega) (by omega) (by omega)
  have m2 : nI (g % 1000) / 100 = nI x := (z_div (d := 100) (by omega) (by omega) (by omega)).trans (by rw [show g % 1000 / 100 = x by omega])
  have m3 : gRem (nI (g % 1000) / 10) 10 = nI y := by rw [show nI (g % 1000) / 10 = nI (g % 1000 / 10) from z_div (d := 10) (by omega) (by omega) (by omega), show y = g % 1000 / 10 % 10 by omega]; exact z_rem (d := 10) (by omega) (by omega) (by omega)
  have m4 : gRem (nI (g % 1000)) 10 = nI z := by rw [show z = g % 1000 % 10 by omega]; exact z_rem (d := 10) (by omega) (by omega) (by omega)
  have m5 : gRem (nI (g % 1000)) 100 = nI t := by rw [show t = g % 1000 % 100 by omega]; exact z_rem (d := 100) (by omega) (by omega) (by omega)
  have ex : ∀ v : Nat, v < 1000 → (nI v = 0 ↔ v = 0) := fun v hv => z_inj (y := 0) (by omega) (by omega)
  have hJ := h.2.1.J
  have hv := h.2.1.2.1
  have h53 := hv.1
  have r1 : gRd 197 (rW W 3 r 19 3) 1 = some (nI (a 0 5)) := by
    rw [show gRd 197 (rW W 3 r 19 3) 1 = some (nI (r 1)) from q_rd (show 1 < 197 by omega) (by omega), h.1.r1]
  have h13 := hv.2.2.2.2.2.2.2.2.2.2
  have h32 := hv.2.2.2.2.2.2.2.2.2.1
  have tk : ∀ j, j < 2 → a 3 j < 100 := fun j hj => by
    rcases (show j = 0 ∨ j = 1 by omega) with rfl | rfl <;> omega
  refine ⟨if y = 0 ∧ x < 2 ∧ z ≤ a 3 x then 1 else 0, a, r, W, by split <;> omega, fun M e => ?_, ?_, hJ, fun _ => h.up, W8.rf W⟩
  · unfold f_Scr_succeeds
    rw [c1, if_neg (show ¬ nI 7 = 1 by decide), if_neg (show ¬ nI 7 = 2 by decide), if_neg (show ¬ nI 7 = 3 by decide), if_neg (show ¬ nI 7 = 4 by decide), if_neg (show ¬ nI 7 = 5 by decide), if_neg (show ¬ nI 7 = 6 by decide), if_pos (show nI 7 = 7 from rfl), c2, c3, c4]
    by_cases q : y = 0
    · rw [if_pos ((ex y (by omega)).mpr q)]
      by_cases w : x < 2
      · have := tk x w
        rw [if_neg (show ¬ (2 : Int32) ≤ nI x from nI_ge (b := 2) w (by omega)), p_at w (by omega), pB]
        by_cases k : z ≤ a 3 x
        · rw [if_neg (nI_nlt k (by omega)), if_pos ⟨q, w, k⟩]
          rfl
        · rw [if_pos (nI_lt (by omega) (by omega)), if_neg (fun j => k j.2.2)]
          rfl
      · rw [if_pos (show (2 : Int32) ≤ nI x from nI_le (a := 2) (by omega) (by omega)), if_neg (fun j => w j.2.1)]
        rfl
    · rw [if_neg (fun w => q ((ex y (by omega)).mp w)), if_neg (fun j => q j.1)]
      rfl
  · unfold f_Mo_command
    rw [ho, if_neg (show ¬ nI 7 = 1 by decide), if_neg (show ¬ nI 7 = 2 by decide), if_neg (show ¬ nI 7 = 3 by decide), if_neg (show ¬ nI 7 = 4 by decide), if_neg (show ¬ nI 7 = 5 by decide), if_neg (show ¬ nI 7 = 6 by decide), if_pos (show nI 7 = 7 from rfl), m2, m3, m4]
    by_cases w : x < 2
    · have := tk x w
      rw [if_neg (show ¬ (2 : Int32) ≤ nI x from nI_ge (b := 2) w (by omega))]
      by_cases q : y = 0
      · have e5 : r (5 + x) = a 3 x := by
          rcases (show x = 0 ∨ x = 1 by omega) with k | k <;> rw [k]
          · exact h.1.1.2.2.2.2.2.1
          · exact h.1.1.2.2.2.2.2.2.1
        rw [if_pos ((ex y (by omega)).mpr q), show (5 : Int32) = nI 5 from rfl, nI_add, q_rd (by omega) (by omega), pB, e5]
        by_cases k : z ≤ a 3 x
        · rw [if_neg (nI_nlt k (by omega)), if_pos ⟨q, w, k⟩]
          rfl
        · rw [if_pos (nI_lt (by omega) (by omega)), if_neg (fun j => k j.2.2)]
          rfl
      · rw [if_neg (fun w => q ((ex y (by omega)).mp w)), if_neg (fun j => q j.1)]
        rfl
    · rw [if_pos (show (2 : Int32) ≤ nI x from nI_le (a := 2) (by omega) (by omega)), if_neg (fun j => w j.2.1)]
      rfl
theorem cmd_8 (h : PR B a r) (hB : B < 1000000) (hg : g < 10000) (hx : x = g / 100 % 10) (hy : y = g / 10 % 10) (hz : z = g % 10) (ht : t = g % 100) (ho : g / 1000 = 8) : CB B W a r g := by
  have c1 : nI g / 1000 = nI 8 := (z_div (d := 1000) (by omega) (by omega) (by omega)).trans (by rw [ho])
  have c2 : gRem (nI g / 100) 10 = nI x := by rw [show nI g / 100 = nI (g / 100) from z_div (d := 100) (by omega) (by omega) (by omega), hx]; exact z_rem (d := 10) (by omega) (by omega) (by omega)
  have c3 : gRem (nI g / 10) 10 = nI y := by rw [show nI g / 10 = nI (g / 10) from z_div (d := 10) (by omega) (by omega) (by omega), hy]; exact z_rem (d := 10) (by omega) (by omega) (by omega)
  have c4 : gRem (nI g) 10 = nI z := by rw [hz]; exact z_rem (d := 10) (by omega) (by omega) (by omega)
  have c5 : gRem (nI g) 100 = nI t := by rw [ht]; exact z_rem (d := 100) (by omega) (by omega) (by omega)
  have m2 : nI (g % 1000) / 100 = nI x := (z_div (d := 100) (by omega) (by omega) (by omega)).trans (by rw [show g % 1000 / 100 = x by omega])
  have m3 : gRem (nI (g % 1000) / 10) 10 = nI y := by rw [show nI (g % 1000) / 10 = nI (g % 1000 / 10) from z_div (d := 10) (by omega) (by omega) (by omega), show y = g % 1000 / 10 % 10 by omega]; exact z_rem (d := 10) (by omega) (by omega) (by omega)
  have m4 : gRem (nI (g % 1000)) 10 = nI z := by rw [show z = g % 1000 % 10 by omega]; exact z_rem (d := 10) (by omega) (by omega) (by omega)
  have m5 : gRem (nI (g % 1000)) 100 = nI t := by rw [show t = g % 1000 % 100 by omega]; exact z_rem (d := 100) (by omega) (by omega) (by omega)
  have ex : ∀ v : Nat, v < 1000 → (nI v = 0 ↔ v = 0) := fun v hv => z_inj (y := 0) (by omega) (by omega)
  have hJ := h.2.1.J
  have hv := h.2.1.2.1
  have h53 := hv.1
  have r1 : gRd 197 (rW W 3 r 19 3) 1 = some (nI (a 0 5)) := by
    rw [show gRd 197 (rW W 3 r 19 3) 1 = some (nI (r 1)) from q_rd (show 1 < 197 by omega) (by omega), h.1.r1]
  refine ⟨if x < 4 ∧ y < 4 ∧ a 10 (4 * x + y) = z then 1 else 0, a, r, W, by split <;> omega, fun M e => ?_, ?_, hJ, fun _ => h.up, W8.rf W⟩
  · unfold f_Scr_succeeds
    rw [c1, if_neg (show ¬ nI 8 = 1 by decide), if_neg (show ¬ nI 8 = 2 by decide), if_neg (show ¬ nI 8 = 3 by decide), if_neg (show ¬ nI 8 = 4 by decide), if_neg (show ¬ nI 8 = 5 by decide), if_neg (show ¬ nI 8 = 6 by decide), if_neg (show ¬ nI 8 = 7 by decide), if_pos (show nI 8 = 8 from rfl), c2, c3, c4]
    by_cases q : x < 4
    · rw [if_neg (show ¬ (4 : Int32) ≤ nI x from nI_ge (b := 4) q (by omega))]
      by_cases w : y < 4
      · have h10 := h.2.1.2.2.2.1.2.2.2.1 (4 * x + y) (by omega)
        rw [if_neg (show ¬ (4 : Int32) ≤ nI y from nI_ge (b := 4) w (by omega)), p_signal q w, pB]
        by_cases k : a 10 (4 * x + y) = z
        · rw [if_pos (by rw [k]), if_pos ⟨q, w, k⟩]
          rfl
        · rw [if_neg (z_ne (by omega) (by omega) k), if_neg (fun j => k j.2.2)]
          rfl
      · rw [if_pos (show (4 : Int32) ≤ nI y from nI_le (a := 4) (by omega) (by omega)), if_neg (fun j => w j.2.1)]
        rfl
    · rw [if_pos (show (4 : Int32) ≤ nI x from nI_le (a := 4) (by omega) (by omega)), if_neg (fun j => q j.1)]
      rfl
  · unfold f_Mo_command
    rw [ho, if_neg (show ¬ nI 8 = 1 by decide), if_neg (show ¬ nI 8 = 2 by decide), if_neg (show ¬ nI 8 = 3 by decide), if_neg (show ¬ nI 8 = 4 by decide), if_neg (show ¬ nI 8 = 5 by decide), if_neg (show ¬ nI 8 = 6 by decide), if_neg (show ¬ nI 8 = 7 by decide), if_pos (show nI 8 = 8 from rfl), m2, m3, m4]
    by_cases q : x < 4
    · rw [if_neg (show ¬ (4 : Int32) ≤ nI x from nI_ge (b := 4) q (by omega))]
      by_cases w : y < 4
      · have h10 := h.2.1.2.2.2.1.2.2.2.1 (4 * x + y) (by omega)
        rw [if_neg (show ¬ (4 : Int32) ≤ nI y from nI_ge (b := 4) w (by omega))]
        by_cases v : z < 3
        · rw [if_neg (show ¬ (3 : Int32) ≤ nI z from nI_ge (b := 3) v (by omega)), show (4 : Int32) = nI 4 from rfl, pk_mul, show (149 : Int32) = nI 149 from rfl, nI_add, nI_add, q_rd (by omega) (by omega), pB, show 149 + 4 * x + y = 149 + (4 * x + y) by omega, (h.1.2.2.2 x y q w).2.2.1]
          by_cases k : a 10 (4 * x + y) = z
          · rw [if_pos (by rw [k]), if_pos ⟨q, w, k⟩]
            rfl
          · rw [if_neg (z_ne (by omega) (by omega) k), if_neg (fun j => k j.2.2)]
            rfl
        · rw [if_pos (show (3 : Int32) ≤ nI z from nI_le (a := 3) (by omega) (by omega)), if_neg (fun j => by have := j.2.2; omega)]
          rfl
      · rw [if_pos (show (4 : Int32) ≤ nI y from nI_le (a := 4) (by omega) (by omega)), if_neg (fun j => w j.2.1)]
        rfl
    · rw [if_pos (show (4 : Int32) ≤ nI x from nI_le (a := 4) (by omega) (by omega)), if_neg (fun j => q j.1)]
      rfl
theorem cmd_9 (h : PR B a r) (hB : B < 1000000) (hg : g < 10000) (hx : x = g / 100 % 10) (hy : y = g / 10 % 10) (hz : z = g % 10) (ht : t = g % 100) (ho : g / 1000 = 9) : CB B W a r g := by
  have c1 : nI g / 1000 = nI 9 := (z_div (d := 1000) (by omega) (by omega) (by omega)).trans (by rw [ho])
  have c2 : gRem (nI g / 100) 10 = nI x := by rw [show nI g / 100 = nI (g / 100) from z_div (d := 100) (by omega) (by omega) (by omega), hx]; exact z_rem (d := 10) (by omega) (by omega) (by omega)
  have c3 : gRem (nI g / 10) 10 = nI y := by rw [show nI g / 10 = nI (g / 10) from z_div (d := 10) (by omega) (by omega) (by omega), hy]; exact z_rem (d := 10) (by omega) (by omega) (by omega)
  have c4 : gRem (nI g) 10 = nI z := by rw [hz]; exact z_rem (d := 10) (by omega) (by omega) (by omega)
  have c5 : gRem (nI g) 100 = nI t := by rw [ht]; exact z_rem (d := 100) (by omega) (by omega) (by omega)
  have m2 : nI (g % 1000) / 100 = nI x := (z_div (d := 100) (by omega) (by omega) (by omega)).trans (by rw [show g % 1000 / 100 = x by omega])
  have m3 : gRem (nI (g % 1000) / 10) 10 = nI y := by rw [show nI (g % 1000) / 10 = nI (g % 1000 / 10) from z_div (d := 10) (by omega) (by omega) (by omega), show y = g % 1000 / 10 % 10 by omega]; exact z_rem (d := 10) (by omega) (by omega) (by omega)
  have m4 : gRem (nI (g % 1000)) 10 = nI z := by rw [show z = g % 1000 % 10 by omega]; exact z_rem (d := 10) (by omega) (by omega) (by omega)
  have m5 : gRem (nI (g % 1000)) 100 = nI t := by rw [show t = g % 1000 % 100 by omega]; exact z_rem (d := 100) (by omega) (by omega) (by omega)
  have ex : ∀ v : Nat, v < 1000 → (nI v = 0 ↔ v = 0) := fun v hv => z_inj (y := 0) (by omega) (by omega)
  have hJ := h.2.1.J
  have hv := h.2.1.2.1
  have h53 := hv.1
  have r1 : gRd 197 (rW W 3 r 19 3) 1 = some (nI (a 0 5)) := by
    rw [show gRd 197 (rW W 3 r 19 3) 1 = some (nI (r 1)) from q_rd (show 1 < 197 by omega) (by omega), h.1.r1]
  refine ⟨if x < 4 ∧ t < 32 ∧ aH a t = x then 1 else 0, a, r, W, by split <;> omega, fun M e => ?_, ?_, hJ, fun _ => h.up, W8.rf W⟩
  · unfold f_Scr_succeeds
    rw [c1, if_neg (show ¬ nI 9 = 1 by decide), if_neg (show ¬ nI 9 = 2 by decide), if_neg (show ¬ nI 9 = 3 by decide), if_neg (show ¬ nI 9 = 4 by decide), if_neg (show ¬ nI 9 = 5 by decide), if_neg (show ¬ nI 9 = 6 by decide), if_neg (show ¬ nI 9 = 7 by decide), if_neg (show ¬ nI 9 = 8 by decide), if_pos (show nI 9 = 9 from rfl), c2, c5]
    by_cases q : x < 4
    · rw [if_neg (show ¬ (4 : Int32) ≤ nI x from nI_ge (b := 4) q (by omega))]
      by_cases w : t < 32
      · have hh := aH_b hJ.1 t
        rw [if_neg (show ¬ (32 : Int32) ≤ nI t from nI_ge (b := 32) w (by omega)), p_holder hJ.1 w, pB]
        by_cases k : aH a t = x
        · rw [if_pos (by rw [k]), if_pos ⟨q, w, k⟩]
          rfl
        · rw [if_neg (z_ne hh (by omega) k), if_neg (fun j => k j.2.2)]
          rfl
      · rw [if_pos (show (32 : Int32) ≤ nI t from nI_le (a := 32) (by omega) (by omega)), if_neg (fun j => w j.2.1)]
        rfl
    · rw [if_pos (show (4 : Int32) ≤ nI x from nI_le (a := 4) (by omega) (by omega)), if_neg (fun j => q j.1)]
      rfl
  · unfold f_Mo_command
    rw [ho, if_neg (show ¬ nI 9 = 1 by decide), if_neg (show ¬ nI 9 = 2 by decide), if_neg (show ¬ nI 9 = 3 by decide), if_neg (show ¬ nI 9 = 4 by decide), if_neg (show ¬ nI 9 = 5 by decide), if_neg (show ¬ nI 9 = 6 by decide), if_neg (show ¬ nI 9 = 7 by decide), if_neg (show ¬ nI 9 = 8 by decide), if_pos (show nI 9 = 9 from rfl), m2, m5]
    by_cases q : x < 4
    · rw [if_neg (show ¬ (4 : Int32) ≤ nI x from nI_ge (b := 4) q (by omega))]
      by_cases w : t < 32
      · have hh := aH_b hJ.1 t
        rw [if_neg (show ¬ (32 : Int32) ≤ nI t from nI_ge (b := 32) w (by omega)), show (21 : Int32) = nI 21 from rfl, nI_add, q_rd (by omega) (by omega), pB, (h.1.2.2.1 t w).1]
        by_cases k : aH a t = x
        · rw [if_pos (by rw [k]), if_pos ⟨q, w, k⟩]
          rfl
        · rw [if_neg (z_ne hh (by omega) k), if_neg (fun j => k j.2.2)]
          rfl
      · rw [if_pos (show (32 : Int32) ≤ nI t from nI_le (a := 32) (by omega) (by omega)), if_neg (fun j => w j.2.1)]
        rfl
    · rw [if_pos (show (4 : Int32) ≤ nI x from nI_le (a := 4) (by omega) (by omega)), if_neg (fun j => q j.1)]
      rfl
theorem cmd_0 (h : PR B a r) (hB : B < 1000000) (hg : g < 10000) (hx : x = g / 100 % 10) (hy : y = g / 10 % 10) (hz : z = g % 10) (ht : t = g % 100) (ho : g / 1000 = 0) : CB B W a r g := by
  have c1 : nI g / 1000 = nI 0 := (z_div (d := 1000) (by omega) (by omega) (by omega)).trans (by rw [ho])
  have c2 : gRem (nI g / 100) 10 = nI x := by rw [show nI g / 100 = nI (g / 100) from z_div (d := 100) (by omega) (by omega) (by omega), hx]; exact z_rem (d := 10) (by omega) (by omega) (by omega)
  have c3 : gRem (nI g / 10) 10 = nI y := by rw [show nI g / 10 = nI (g / 10) from z_div (d := 10) (by omega) (by omega) (by omega), hy]; exact z_rem (d := 10) (by omega) (by omega) (by omega)
  have c4 : gRem (nI g) 10 = nI z := by rw [hz]; exact z_rem (d := 10) (by omega) (by omega) (by omega)
  have c5 : gRem (nI g) 100 = nI t := by rw [ht]; exact z_rem (d := 100) (by omega) (by omega) (by omega)
  have m2 : nI (g % 1000) / 100 = nI x := (z_div (d := 100) (by omega) (by omega) (by omega)).trans (by rw [show g % 1000 / 100 = x by omega])
  have m3 : gRem (nI (g % 1000) / 10) 10 = nI y := by rw [show nI (g % 1000) / 10 = nI (g % 1000 / 10) from z_div (d := 10) (by omega) (by omega) (by omega), show y = g % 1000 / 10 % 10 by omega]; exact z_rem (d := 10) (by omega) (by omega) (by omega)
  have m4 : gRem (nI (g % 1000)) 10 = nI z := by rw [show z = g % 1000 % 10 by omega]; exact z_rem (d := 10) (by omega) (by omega) (by omega)
  have m5 : gRem (nI (g % 1000)) 100 = nI t := by rw [show t = g % 1000 % 100 by omega]; exact z_rem (d := 100) (by omega) (by omega) (by omega)
  have ex : ∀ v : Nat, v < 1000 → (nI v = 0 ↔ v = 0) := fun v hv => z_inj (y := 0) (by omega) (by omega)
  have hJ := h.2.1.J
  have hv := h.2.1.2.1
  have h53 := hv.1
  have r1 : gRd 197 (rW W 3 r 19 3) 1 = some (nI (a 0 5)) := by
    rw [show gRd 197 (rW W 3 r 19 3) 1 = some (nI (r 1)) from q_rd (show 1 < 197 by omega) (by omega), h.1.r1]
  refine ⟨0, a, r, W, by omega, fun M e => ?_, ?_, hJ, fun q => absurd q (by omega), W8.rf W⟩
  · unfold f_Scr_succeeds
    rw [c1, if_neg (show ¬ nI 0 = 1 by decide), if_neg (show ¬ nI 0 = 2 by decide), if_neg (show ¬ nI 0 = 3 by decide), if_neg (show ¬ nI 0 = 4 by decide), if_neg (show ¬ nI 0 = 5 by decide), if_neg (show ¬ nI 0 = 6 by decide), if_neg (show ¬ nI 0 = 7 by decide), if_neg (show ¬ nI 0 = 8 by decide), if_neg (show ¬ nI 0 = 9 by decide)]
    rfl
  · unfold f_Mo_command
    rw [ho, if_neg (show ¬ nI 0 = 1 by decide), if_neg (show ¬ nI 0 = 2 by decide), if_neg (show ¬ nI 0 = 3 by decide), if_neg (show ¬ nI 0 = 4 by decide), if_neg (show ¬ nI 0 = 5 by decide), if_neg (show ¬ nI 0 = 6 by decide), if_neg (show ¬ nI 0 = 7 by decide), if_neg (show ¬ nI 0 = 8 by decide), if_neg (show ¬ nI 0 = 9 by decide)]
    rfl
theorem command_both (h : PR B a r) (hB : B < 1000000) (hg : g < 10000) : CB B W a r g := by
  rcases (show g / 1000 = 0 ∨ g / 1000 = 1 ∨ g / 1000 = 2 ∨ g / 1000 = 3 ∨ g / 1000 = 4 ∨ g / 1000 = 5 ∨ g / 1000 = 6 ∨ g / 1000 = 7 ∨ g / 1000 = 8 ∨ g / 1000 = 9 by omega) with k | k | k | k | k | k | k | k | k | k
  · exact cmd_0 h hB hg rfl rfl rfl rfl k
  · exact cmd_1 h hB hg rfl rfl rfl rfl k
  · exact cmd_2 h hB hg rfl rfl rfl rfl k
  · exact cmd_3 h hB hg rfl rfl rfl rfl k
  · exact cmd_4 h hB hg rfl rfl rfl rfl k
  · exact cmd_5 h hB hg rfl rfl rfl rfl k
  · exact cmd_6 h hB hg rfl rfl rfl rfl k
  · exact cmd_7 h hB hg rfl rfl rfl rfl k
  · exact cmd_8 h hB hg rfl rfl rfl rfl k
  · exact cmd_9 h hB hg rfl rfl rfl rfl k
end CMD
end CM
