-- ===== PURE: a card that is laid keeps it =====
section XL
variable {a : Nat → Nat → Nat} {c l p s : Nat}
/-- what lies behind the lead is noted: the drops, the signals -/
theorem aNt_x (l c : Nat) : (l ≠ 4294967295 ∧ c / 8 = l ∧ c % 8 < 4 ∧ aNt a l c = aDrop a (a 0 6) l c) ∨ (l ≠ 4294967295 ∧ c / 8 ≠ l ∧ aNt a l c = aS a 11 (4 * a 0 6 + l) 1) ∨ ((l = 4294967295 ∨ c / 8 = l) ∧ aNt a l c = a) := by
  unfold aNt
  by_cases q : l = 4294967295
  · rw [if_pos q]; exact Or.inr (Or.inr ⟨Or.inl q, rfl⟩)
  · rw [if_neg q]
    by_cases q2 : c / 8 = l
    · rw [if_pos q2]
      by_cases q3 : c % 8 < 4
      · rw [if_pos q3]; exact Or.inl ⟨q, q2, q3, rfl⟩
      · rw [if_neg q3]; exact Or.inr (Or.inr ⟨Or.inr q2, rfl⟩)
    · rw [if_neg q2]; exact Or.inr (Or.inl ⟨q, q2, rfl⟩)
theorem lay_8 (hV : aV a) (hp2 : a 0 5 = 2) (c' j : Nat) (h : 8 ≤ c') : aLay a c c' j = aNt a (aLed a) c c' j := by
  rw [aLay_5 (hV.P hp2) c c' j (by omega), aL1_o _ _ _ _ (by omega)]
theorem lay_011 (hV : aV a) (hp2 : a 0 5 = 2) (j : Nat) (hj : j = 11 ∨ j = 12) : aLay a c 0 j = aNt a (aLed a) c 0 j := by
  rw [aLay_eq (hV.P hp2)]
  have e : aL1 (aNt a (aLed a) c) c 0 j = aNt a (aLed a) c 0 j := aL1_o _ _ _ _ (by omega)
  rw [← e]
  generalize aL1 (aNt a (aLed a) c) c = d
  unfold aNx aEt aSc aTk
  (repeat' split) <;> simp (disch := omega) only [aS_c, aS_k]
/-- the cards of a suit that a player has, behind a play -/
theorem lay_Hd (hV : aV a) (hp2 : a 0 5 = 2) (hc : c < 32) (hr : aRs a c = 0) (hp : p < 4) (hs : s < 4) : aHd (aLay a c) p s + (if p = a 0 6 ∧ c / 8 = s then 1 else 0) = aHd a p s := by
  have hH := aRs_0 hr
  by_cases z : c / 8 = s
  · have hu := fb_ct_upd (fun r => decide (aH a (8 * s + r) = p)) (decide (4294967295 = p)) (i := c % 8) (n := 8) (by omega)
    have e : aHd (aLay a c) p s = fb_ct (fun k => if k = c % 8 then decide (4294967295 = p) else decide (aH a (8 * s + k) = p)) 8 := fb_ct_cong fun j hj => by
      show decide (aH (aLay a c) (8 * s + j) = p) = _
      rw [lay_H hV hp2]
      by_cases y : j = c % 8
      · rw [if_pos (show 8 * s + j = c by omega), if_pos y]
      · rw [if_neg (show ¬ 8 * s + j = c by omega), if_neg y]
    rw [e]
    unfold aHd
    rw [show decide (4294967295 = p) = false from decide_eq_false (by omega)] at hu ⊢
    rw [show 8 * s + c % 8 = c by omega, hH] at hu
    by_cases w : p = a 0 6
    · rw [if_pos (show decide (a 0 6 = p) = true from decide_eq_true w.symm)] at hu
      rw [if_pos ⟨w, z⟩]
      simpa using hu
    · rw [if_neg (show ¬ decide (a 0 6 = p) = true from fun q => w (of_decide_eq_true q).symm)] at hu
      rw [if_neg (fun q => w q.1)]
      simpa using hu
  · rw [if_neg (fun q => z q.2)]
    unfold aHd
    refine fb_ct_cong fun j hj => ?_
    rw [lay_H hV hp2, if_neg (by omega)]
theorem lay_Dl (hV : aV a) (hp2 : a 0 5 = 2) : aDl (aLay a c) p s = aDl a p s := by
  unfold aDl
  exact fb_ct_cong fun j hj => by rw [lay_5 hV hp2]
/-- one more drop, at its place -/
theorem aDrop_x (x6 : ∀ k, k < 16 → (a 10 k ≠ 0 ↔ 2 ≤ a 8 k)) (hK : 4 * p + s < 16) : (∀ k, aDrop a p s c 8 k = a 8 k + (if k = 4 * p + s then 1 else 0)) ∧ (∀ k, k < 16 → (aDrop a p s c 10 k ≠ 0 ↔ 2 ≤ aDrop a p s c 8 k)) ∧ (∀ k, aDrop a p s c 11 k = a 11 k) ∧ (aSn (aDrop a p s c) + a 0 11 = aSn a + aDrop a p s c 0 11) ∧ aDrop a p s c 0 12 + a 0 11 ≤ a 0 12 + aDrop a p s c 0 11 := by
  unfold aDrop
  by_cases q0 : a 8 (4 * p + s) = 0
  · rw [if_pos q0]
    have e8 : ∀ k, aS (aS a 8 (4 * p + s) 1) 9 (4 * p + s) c 8 k = a 8 k + (if k = 4 * p + s then 1 else 0) := fun k => by
      rw [aS_c _ _ (by omega), aS_at]
      by_cases z : k = 4 * p + s
      · rw [if_pos z, if_pos z, z, q0]
      · rw [if_neg z, if_neg z]; rfl
    have e10 : ∀ k, aS (aS a 8 (4 * p + s) 1) 9 (4 * p + s) c 10 k = a 10 k := fun k => by simp (disch := omega) only [aS_c]
    refine ⟨e8, fun k hk => ?_, fun k => by simp (disch := omega) only [aS_c], ?_, ?_⟩
    · rw [e10, e8, x6 k hk]
      by_cases z : k = 4 * p + s
      · rw [if_pos z, z, q0]; omega
      · rw [if_neg z]; omega
    · have : aSn (aS (aS a 8 (4 * p + s) 1) 9 (4 * p + s) c) = aSn a := by
        unfold aSn
        exact fb_ct_cong fun k _ => by rw [e10]
      rw [this]
      simp (disch := omega) only [aS_c]
    · simp (disch := omega) only [aS_c]
      omega
  · rw [if_neg q0]
    by_cases q1 : a 8 (4 * p + s) = 1
    · rw [if_pos q1]
      obtain ⟨w, hw, hw0⟩ : ∃ w, (if c < a 9 (4 * p + s) then 2 else 1) = w ∧ w ≠ 0 := ⟨_, rfl, by split <;> omega⟩
      rw [hw]
      obtain ⟨v, hv, hv1⟩ : ∃ v, (if w = (if aDl a p s % 2 = 0 then 2 else 1) then 1 else 0) = v ∧ v ≤ 1 := ⟨_, rfl, by generalize (if aDl a p s % 2 = 0 then 2 else 1) = q; split <;> omega⟩
      rw [hv]
      obtain ⟨d, hd⟩ : ∃ d, d = aS (aS (aS (aS a 8 (4 * p + s) 2) 10 (4 * p + s) w) 0 11 (a 0 11 + 1)) 0 12 (a 0 12 + v) := ⟨_, rfl⟩
      rw [← hd]
      have e8 : ∀ k, d 8 k = a 8 k + (if k = 4 * p + s then 1 else 0) := fun k => by
        rw [hd, aS_c _ _ (by omega), aS_c _ _ (by omega), aS_c _ _ (by omega), aS_at]
        by_cases z : k = 4 * p + s
        · rw [if_pos z, if_pos z, z, q1]
        · rw [if_neg z, if_neg z]; rfl
      have e10 : ∀ k, d 10 k = if k = 4 * p + s then w else a 10 k := fun k => by
        rw [hd, aS_c _ _ (by omega), aS_c _ _ (by omega), aS_at, aS_c _ _ (by omega)]
      have e11 : d 0 11 = a 0 11 + 1 := by rw [hd, aS_k _ (by omega), aS_s]
      have e12 : d 0 12 = a 0 12 + v := by rw [hd, aS_s]
      refine ⟨e8, fun k hk => ?_, fun k => by rw [hd]; simp (disch := omega) only [aS_c], ?_, ?_⟩
      · rw [e10, e8]
        by_cases z : k = 4 * p + s
        · rw [if_pos z, if_pos z, z, q1]
          exact ⟨fun _ => by omega, fun _ => hw0⟩
        · rw [if_neg z, if_neg z, x6 k hk]; omega
      · have h10 : a 10 (4 * p + s) = 0 := Decidable.of_not_not fun q => by have := (x6 _ hK).mp q; omega
        have hu := fb_ct_upd (fun k => decide (a 10 k ≠ 0)) (decide (w ≠ 0)) (i := 4 * p + s) (n := 16) hK
        have e : aSn d = fb_ct (fun k => if k = 4 * p + s then decide (w ≠ 0) else decide (a 10 k ≠ 0)) 16 := fb_ct_cong fun k _ => by
          show decide (d 10 k ≠ 0) = _
          rw [e10]
          by_cases z : k = 4 * p + s
          · rw [if_pos z, if_pos z]
          · rw [if_neg z, if_neg z]
        rw [e, e11]
        rw [if_neg (show ¬ decide (a 10 (4 * p + s) ≠ 0) = true from fun q => of_decide_eq_true q h10), if_pos (show decide (w ≠ 0) = true from decide_eq_true hw0)] at hu
        unfold aSn
        omega
      · rw [e11, e12]; omega
    · rw [if_neg q1]
      have e8 : ∀ k, aS a 8 (4 * p + s) (a 8 (4 * p + s) + 1) 8 k = a 8 k + (if k = 4 * p + s then 1 else 0) := fun k => by
        rw [aS_at]
        by_cases z : k = 4 * p + s
        · rw [if_pos z, if_pos z, z]
        · rw [if_neg z, if_neg z]; rfl
      have e10 : ∀ k, aS a 8 (4 * p + s) (a 8 (4 * p + s) + 1) 10 k = a 10 k := fun k => aS_c _ _ (by omega)
      refine ⟨e8, fun k hk => ?_, fun k => aS_c _ _ (by omega), ?_, ?_⟩
      · rw [e10, e8, x6 k hk]
        by_cases z : k = 4 * p + s
        · rw [if_pos z, z]; omega
        · rw [if_neg z]; omega
      · have : aSn (aS a 8 (4 * p + s) (a 8 (4 * p + s) + 1)) = aSn a := by
          unfold aSn
          exact fb_ct_cong fun k _ => by rw [e10]
        rw [this]
        simp (disch := omega) only [aS_c]
      · simp (disch := omega) only [aS_c]
        omega
theorem aX_lay (hV : aV a) (h : aX a) (hp2 : a 0 5 = 2) (hc : c < 32) (hr : aRs a c = 0) : aX (aLay a c) := by
  have hP := hV.P hp2
  have hO := hV.O
  have ht := hP.2.2.2.1
  have hl := hP.2.2.2.2.1
  have hld := aLed_lt hO.2.1 hO.2.2
  have hHd := fun {p s : Nat} (hp : p < 4) (hs : s < 4) => lay_Hd (p := p) (s := s) hV hp2 hc hr hp hs
  have e0 := aLay_0 (c := c) hV hp2 hc
  have hH := aRs_0 hr
  have hc6 : a 6 c = 4294967295 := by
    have : aH a c < 4 := by omega
    unfold aH at this
    split at this
    · assumption
    · omega
  obtain ⟨x1, x2, x3, x4, x5, x6, x7, x8, x9, x10⟩ := h
  obtain ⟨y13, y7, y8, y9, y10, y4, yy⟩ := e0
  have g1 := hV.2.2.1.2.1
  -- the noted things
  have key : (∀ p s, p < 4 → s < 4 → aLay a c 8 (4 * p + s) + aHd (aLay a c) p s ≤ aDl a p s) ∧ (∀ k, k < 16 → (aLay a c 10 k ≠ 0 ↔ 2 ≤ aLay a c 8 k)) ∧ (∀ p s, p < 4 → s < 4 → aLay a c 11 (4 * p + s) = 1 → aHd (aLay a c) p s = 0) ∧ aSn (aLay a c) ≤ aLay a c 0 11 ∧ aLay a c 0 12 ≤ aLay a c 0 11 := by
    have e8 : ∀ k, aLay a c 8 k = aNt a (aLed a) c 8 k := fun k => lay_8 hV hp2 8 k (by omega)
    have e10 : ∀ k, aLay a c 10 k = aNt a (aLed a) c 10 k := fun k => lay_8 hV hp2 10 k (by omega)
    have e11 : ∀ k, aLay a c 11 k = aNt a (aLed a) c 11 k := fun k => lay_8 hV hp2 11 k (by omega)
    have f11 := lay_011 (c := c) hV hp2 11 (by omega)
    have f12 := lay_011 (c := c) hV hp2 12 (by omega)
    have eS : aSn (aLay a c) = aSn (aNt a (aLed a) c) := by
      unfold aSn
      exact fb_ct_cong fun k _ => by rw [e10]
    rw [eS, f11, f12]
    rcases aNt_x (a := a) (aLed a) c with ⟨q1, q2, q3, q4⟩ | ⟨q1, q2, q4⟩ | ⟨q1, q4⟩
    · have hl4 : aLed a < 4 := by omega
      obtain ⟨d1, d2, d3, d4, d5⟩ := aDrop_x (a := a) (p := a 0 6) (s := aLed a) (c := c) x6 (by omega)
      rw [q4] at e8 e10 e11 ⊢
      refine ⟨fun p s hp hs => ?_, fun k hk => ?_, fun p s hp hs z => ?_, by omega, by omega⟩
      · have h1 := hHd hp hs
        have h2 := x5 p s hp hs
        rw [e8, d1]
        by_cases w : p = a 0 6 ∧ aLed a = s
        · rw [if_pos (show p = a 0 6 ∧ c / 8 = s from ⟨w.1, by omega⟩)] at h1
          rw [if_pos (by rw [w.1, w.2])]
          omega
        · rw [if_neg (show ¬ (p = a 0 6 ∧ c / 8 = s) from fun q => w ⟨q.1, by omega⟩)] at h1
          rw [if_neg (by omega)]
          omega
      · rw [e10, e8]; exact d2 k hk
      · rw [e11, d3] at z
        have h1 := hHd hp hs
        have := x7 p s hp hs z
        omega
    · have hl4 : aLed a < 4 := by omega
      rw [q4] at e8 e10 e11 ⊢
      have b8 : ∀ k, aS a 11 (4 * a 0 6 + aLed a) 1 8 k = a 8 k := fun k => aS_c _ _ (by omega)
      have b10 : ∀ k, aS a 11 (4 * a 0 6 + aLed a) 1 10 k = a 10 k := fun k => aS_c _ _ (by omega)
      have bS : aSn (aS a 11 (4 * a 0 6 + aLed a) 1) = aSn a := by
        unfold aSn
        exact fb_ct_cong fun k _ => by rw [b10]
      -- nobody throws off who can follow
      have h0 : aHd a (a 0 6) (aLed a) = 0 := by
        unfold aRs at hr
        rw [if_pos hH] at hr
        have hF : aFw a = 4294967295 ∨ c / 8 = aFw a := Decidable.of_not_not fun q => by rw [if_neg q] at hr; omega
        unfold aFw at hF
        rw [if_neg q1] at hF
        by_cases w : aHd a (a 0 6) (aLed a) = 0
        · exact w
        · rw [if_neg w] at hF; omega
      refine ⟨fun p s hp hs => ?_, fun k hk => ?_, fun p s hp hs z => ?_, ?_, ?_⟩
      · have h1 := hHd hp hs
        have h2 := x5 p s hp hs
        rw [e8, b8]
        split at h1 <;> omega
      · rw [e10, e8, b8, b10]; exact x6 k hk
      · rw [e11, aS_at] at z
        have h1 := hHd hp hs
        by_cases w : 4 * p + s = 4 * a 0 6 + aLed a
        · have w1 : p = a 0 6 := by omega
          have w2 : s = aLed a := by omega
          rw [← w1, ← w2] at h0
          omega
        · rw [if_neg w] at z
          have := x7 p s hp hs z
          omega
      · rw [bS, aS_c _ _ (by omega)]; exact x9
      · rw [aS_c _ _ (by omega), aS_c _ _ (by omega)]; exact x10
    · rw [q4] at e8 e10 e11 ⊢
      refine ⟨fun p s hp hs => ?_, fun k hk => ?_, fun p s hp hs z => ?_, x9, x10⟩
      · have h1 := hHd hp hs
        have h2 := x5 p s hp hs
        rw [e8]
        split at h1 <;> omega
      · rw [e10, e8]; exact x6 k hk
      · rw [e11] at z
        have h1 := hHd hp hs
        have := x7 p s hp hs z
        omega
  obtain ⟨k5, k6, k7, k9, k10⟩ := key
  refine ⟨?_, fun j hj q => ?_, fun q => ?_, fun q p hp => ?_, fun p s hp hs => ?_, k6, k7, fun q => ?_, k9, k10⟩
  · rw [y13]
    rcases yy with ⟨k1, k2, k3, k4, k5'⟩ | ⟨k1, k2, k3⟩
    · rw [k4, k5', x1]; omega
    · rw [k2, x1]; omega
  · rw [lay_6 hV hp2] at q ⊢
    rw [lay_7 hV hp2]
    by_cases z : j = c
    · rw [if_pos z, if_pos rfl, z]
    · rw [if_neg z] at q ⊢
      have := g1 j hj
      rw [if_neg (by omega)]
      exact x2 j hj q
  · have : aLay a c 0 5 = 2 ∨ aLay a c 0 5 = 3 := by omega
    omega
  · have e : aOwn (aLay a c) p = aOwn a p := by
      unfold aOwn
      exact fb_ct_cong fun j _ => by rw [lay_5 hV hp2]
    rw [e]
    exact x4 (by omega) p hp
  · rw [lay_Dl hV hp2]; exact k5 p s hp hs
  · left
    rw [y13]
    omega
end XL
