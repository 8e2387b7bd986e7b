-- ===== PURE: a card that is laid keeps the evening valid: the end =====
section VN
variable {a : Nat → Nat → Nat} {c : Nat}
theorem aV_lay (hV : aV a) (hp2 : a 0 5 = 2) (hc : c < 32) (hr : aRs a c = 0) : aV (aLay a c) := by
  have hP := hV.P hp2
  have hO := hV.O
  have ht := hP.2.2.2.1
  have hl := hP.2.2.2.2.1
  have hH := aRs_0 hr
  have hld := aLed_lt hO.2.1 hO.2.2
  have hs := fun p hp => aLay_hs (p := p) hV hp2 hc hr hp
  have e0 := aLay_0 (c := c) hV hp2 hc
  obtain ⟨hb, hV1, ⟨g1, g2, g3, g4⟩, hV3, h4⟩ := hV
  obtain ⟨v1, v2, v3, v4, v5, v6, v7, v8, v9, v10, v11⟩ := hV1
  obtain ⟨n1, n2, n3, n4, n5⟩ := aNt_3 (l := aLed a) hV3 hl ht hld hc
  have hc6 : a 6 c = 4294967295 := by
    have : aH a c < 4 := by omega
    unfold aH at this
    split at this
    · assumption
    · omega
  have y : ∀ c' j, (c' ≠ 8 ∧ c' ≠ 9 ∧ c' ≠ 10 ∧ c' ≠ 11) → (c' = 0 → j ≠ 11 ∧ j ≠ 12) → aNt a (aLed a) c c' j = a c' j := fun c' j h1 h2 => aNt_c _ _ _ _ _ h1 h2
  have e5 : ∀ j, aLay a c 5 j = a 5 j := fun j => by
    rw [aLay_5 hP c 5 j (by omega), aL1_o _ _ _ _ (by omega), y _ _ (by omega) (by omega)]
  have e6 : ∀ j, aLay a c 6 j = if j = c then a 1 3 else a 6 j := fun j => by
    rw [aLay_5 hP c 6 j (by omega)]
    unfold aL1
    rw [aS_c _ _ (by omega), aS_at, aS_c _ _ (by omega), y _ _ (by omega) (by omega), y _ _ (by omega) (by omega)]
  have e7 : ∀ j, aLay a c 7 j = if j = a 1 3 then c else a 7 j := fun j => by
    rw [aLay_5 hP c 7 j (by omega), aL1_7, y _ _ (by omega) (by omega), y _ _ (by omega) (by omega)]
  have e8 : ∀ c' j, 8 ≤ c' → aLay a c c' j = aNt a (aLed a) c c' j := fun c' j h => by
    rw [aLay_5 hP c c' j (by omega), aL1_o _ _ _ _ (by omega)]
  have hbL : aB (aLay a c) := fun c' j h => by
    rw [aLay_5 hP c c' j h]
    exact aL1_b (aNt_b hb _ hc (fun k => by have := hV3.2.1 k; omega)) (by rw [y 1 3 (by omega) (by omega)]; exact hl) hc c' j h
  obtain ⟨x13, x7, x8, x9, x10, x4, xx⟩ := e0
  have hnz := v8 hp2
  refine ⟨hbL, ?_, ⟨fun t h => ?_, fun j hj => ?_, fun j hj => ?_, fun _ j hj => ?_⟩, ⟨fun p s hp hs2 h => ?_, fun k => ?_, fun k hk => ?_, fun k hk => ?_, fun k hk => ?_⟩, fun q p hp => ?_⟩
  · unfold aV1
    rw [x13, x7, x8, x9, x10]
    clear e5 e6 e7 e8 hbL y n1 n2 n3 n4 n5 hs g1 g2 g3 g4 h4 hH hc6 hr hld hV3
    rcases xx with ⟨k1, k2, k3, k4, k5⟩ | ⟨k1, k2, ⟨k3, k4, k5⟩ | ⟨k3, k4, k5⟩⟩
    · rw [k2, k3, k4, k5]
      exact ⟨by omega, fun _ => by omega, fun z => by omega, v4, v5, v6, fun z => by omega, fun _ => ⟨hnz.1, by omega⟩, fun z => by omega, by omega, by omega⟩
    · rw [k4]
      exact ⟨by omega, fun _ => k5, fun z => by omega, v4, v5, v6, fun z => by omega, fun _ => ⟨hnz.1, by omega⟩, fun z => by omega, by omega, by omega⟩
    · rw [k4, k5]
      exact ⟨by omega, fun z => by omega, fun _ => rfl, v4, v5, v6, fun z => by omega, fun z => by omega, fun z => by omega, by omega, by omega⟩
  · rw [x13] at h
    by_cases z : t = a 1 3
    · rw [e7, if_pos z, e6, if_pos rfl]
      exact ⟨hc, z.symm⟩
    · have := g1 t (by omega)
      rw [e7, if_neg z, e6, if_neg (fun q => by rw [q, hc6] at this; omega)]
      exact this
  · rw [e6, x13]
    by_cases z : j = c
    · rw [if_pos z]; omega
    · rw [if_neg z]
      have := g2 j hj
      omega
  · rw [e5]; exact g3 j hj
  · rw [e5]; exact g4 (by omega) j hj
  · rw [e8 8 _ (by omega)] at h
    rw [e8 9 _ (by omega)]
    rcases n5 _ (by omega) h with z | ⟨z1, z2⟩
    · rw [z, e6, if_pos rfl]
      exact ⟨hc, by omega⟩
    · rw [z2]
      have := hV3.1 p s hp hs2 z1
      refine ⟨this.1, ?_⟩
      rw [e6]
      split
      · omega
      · exact this.2
  · rw [e8 8 _ (by omega)]; exact n1 k
  · rw [e8 8 _ (by omega), x13]; exact n2 k hk
  · rw [e8 10 _ (by omega)]; exact n3 k hk
  · rw [e8 11 _ (by omega)]; exact n4 k hk
  · have h1 := hs p hp
    rw [h4 (Or.inr hp2) p hp] at h1
    clear e5 e6 e7 e8 hbL y n1 n2 n3 n4 n5 hs g1 g2 g3 g4 h4 hH hc6 hr hld hV3
    unfold aHz at h1 ⊢
    rw [x13]
    obtain ⟨m, w, hw, hm⟩ : ∃ m w, w < 4 ∧ a 1 3 = 4 * m + w := ⟨a 1 3 / 4, a 1 3 % 4, by omega, by omega⟩
    generalize aHs (aLay a c) p = hh at *
    generalize aLay a c 0 6 = w6 at *
    generalize aLay a c 0 5 = w5 at *
    have d1 : a 1 3 / 4 = m := by omega
    have d2 : a 1 3 % 4 = w := by omega
    rw [d1, d2] at h1
    have key : ∀ t, t = a 0 6 → t < 4 → hh = 8 - (a 1 3 + 1) / 4 - (if (p + 4 - (w6 + 4 - (a 1 3 + 1) % 4) % 4) % 4 < (a 1 3 + 1) % 4 then 1 else 0) := by
      intro t e ht4
      rw [← e] at h1 xx
      rcases (show w = 0 ∨ w = 1 ∨ w = 2 ∨ w = 3 by omega) with rfl | rfl | rfl | rfl <;>
      rcases (show t = 0 ∨ t = 1 ∨ t = 2 ∨ t = 3 by omega) with rfl | rfl | rfl | rfl <;>
      rcases (show p = 0 ∨ p = 1 ∨ p = 2 ∨ p = 3 by omega) with rfl | rfl | rfl | rfl <;>
      simp at h1 <;>
      (rcases xx with ⟨k1, k2, k3, k4, k5⟩ | ⟨k1, k2, ⟨k3, k4, k5⟩ | ⟨k3, k4, k5⟩⟩) <;>
      first
      | omega
      | (rw [k3, show (a 1 3 + 1) % 4 = 1 by omega, show (a 1 3 + 1) / 4 = m by omega]; simp; omega)
      | (rw [k3, show (a 1 3 + 1) % 4 = 2 by omega, show (a 1 3 + 1) / 4 = m by omega]; simp; omega)
      | (rw [k3, show (a 1 3 + 1) % 4 = 3 by omega, show (a 1 3 + 1) / 4 = m by omega]; simp; omega)
      | (rw [k1, if_neg (Nat.not_lt_zero _)]; omega)
    exact key (a 0 6) rfl ht
end VN
