-- ===== PURE: places that nobody looks at hold nothing; so a copy is the same =====
def inR (c j : Nat) : Prop := (c = 0 ∧ 4 ≤ j ∧ j < 14) ∨ (c = 1 ∧ j = 3) ∨ ((c = 3 ∨ c = 4) ∧ j < 2) ∨ ((c = 5 ∨ c = 6 ∨ c = 7) ∧ j < 32) ∨ (8 ≤ c ∧ c < 12 ∧ j < 16)
def aZ (a : Nat → Nat → Nat) : Prop := ∀ c j, ¬ inR c j → a c j = 0
section ZZ
variable {a b : Nat → Nat → Nat} {c l s p : Nat} {x : Int64}
theorem aZ_S (h : aZ a) (c k v : Nat) (hr : inR c k) : aZ (aS a c k v) := fun c' j hn => by
  unfold aS
  split
  · rename_i q
    rw [q.1, q.2] at hn
    exact absurd hr hn
  · exact h c' j hn
theorem aZ_F (h : aZ a) (c n v : Nat) (hr : ∀ j, j < n → inR c j) : aZ (aFl a c n v) := fun c' j hn => by
  unfold aFl
  split
  · rename_i q
    rw [q.1] at hn
    exact absurd (hr j q.2) hn
  · exact h c' j hn
theorem aZ_W (ha : aZ a) (hb : aZ b) (c n : Nat) : aZ (aCw a b c n) := fun c' j hn => by
  unfold aCw
  split
  · rename_i q
    rw [q.1] at hn
    exact hb c j hn
  · exact ha c' j hn
theorem aZ_eq (ha : aZ a) (hb : aZ b) (h : aEq a b) : a = b := by
  funext c j
  by_cases hr : inR c j
  · rcases hr with ⟨rfl, h1, h2⟩ | ⟨rfl, rfl⟩ | ⟨hc, hj⟩ | ⟨hc, hj⟩ | ⟨h1, h2, h3⟩
    · exact h.1 j h1 h2
    · exact h.2.1
    · exact h.2.2.1 c j hc hj
    · exact h.2.2.2.1 c j hc hj
    · exact h.2.2.2.2 c j h1 h2 h3
  · rw [ha c j hr, hb c j hr]
theorem aZ_cp0 (ha : aZ a) (hb : aZ b) : aZ (aCp a b) := by
  unfold aCp
  repeat' first
    | exact ha
    | exact hb
    | refine aZ_S ?_ _ _ _ (by unfold inR; omega)
    | refine aZ_W ?_ hb _ _
theorem aZ_cp (ha : aZ a) (hb : aZ b) : aCp a b = b := aZ_eq (aZ_cp0 ha hb) hb (aCp_eq a b)
theorem aZ_bid (h : aZ a) : aZ (aBid a l s) := by
  unfold aBid
  repeat' first
    | exact h
    | refine aZ_S ?_ _ _ _ (by unfold inR; omega)
theorem aZ_pass (h : aZ a) : aZ (aPass a) := by
  have h1 : aZ (aPs1 a) := by
    unfold aPs1
    exact aZ_S (aZ_S h _ _ _ (by unfold inR; omega)) _ _ _ (by unfold inR; omega)
  unfold aPass
  (repeat' split) <;> first | exact h1 | exact aZ_S (aZ_S h1 _ _ _ (by unfold inR; omega)) _ _ _ (by unfold inR; omega)
theorem aZ_rf (h : aZ a) : aZ (aRf a) := aZ_S h _ _ _ (by unfold inR; omega)
theorem aZ_ow (h : aZ b) {f : Nat → Nat} (hf : ∀ j, j < 32 → f j < 32) : ∀ i, i ≤ 32 → aZ (aOw b f i)
  | 0, _ => h
  | i + 1, hi => aZ_S (aZ_ow h hf i (by omega)) _ _ _ (by have := hf i (by omega); unfold inR; omega)
theorem aZ_deal (h : aZ a) : aZ (aDeal a x) := by
  have h1 : aZ (aCd a) := by
    unfold aCd
    repeat' first
      | exact h
      | refine aZ_S ?_ _ _ _ (by unfold inR; omega)
      | refine aZ_F ?_ _ _ _ (fun j hj => by unfold inR; omega)
  have h2 : aZ (aR (aCd a) (shP 31 x id)) := fun c j hn => by
    unfold aR
    split
    · rename_i q
      exact absurd (show inR c j by unfold inR; omega) hn
    · exact h1 c j hn
  unfold aDeal aSh
  refine aZ_S (aZ_S (aZ_S (aZ_S ?_ _ _ _ (by unfold inR; omega)) _ _ _ (by unfold inR; omega)) _ _ _ (by unfold inR; omega)) _ _ _ (by unfold inR; omega)
  exact aZ_F (aZ_F (aZ_ow h2 (pi_lt x) 32 (Nat.le_refl _)) _ _ _ (fun j hj => by unfold inR; omega)) _ _ _ (fun j hj => by unfold inR; omega)
theorem aZ_drop (h : aZ a) (hK : 4 * p + s < 16) : aZ (aDrop a p s c) := by
  unfold aDrop
  (repeat' split) <;> (repeat' first
    | exact h
    | refine aZ_S ?_ _ _ _ (by unfold inR; omega))
theorem aZ_nx (h : aZ a) : aZ (aNx a) := by
  have hs : ∀ d : Nat → Nat → Nat, aZ d → aZ (aSc d) := fun d hd => by
    unfold aSc
    split <;> exact aZ_S hd _ _ _ (by unfold inR; omega)
  have ht : ∀ p, aZ (aTk a p) := fun p => by
    unfold aTk
    exact aZ_S (aZ_S h _ _ _ (by unfold inR; omega)) _ _ _ (by unfold inR; omega)
  unfold aNx aEt
  (repeat' split) <;> first
    | exact hs _ (aZ_S (aZ_S (ht _) _ _ _ (by unfold inR; omega)) _ _ _ (by unfold inR; omega))
    | exact ht _
    | exact aZ_S h _ _ _ (by unfold inR; omega)
theorem aZ_lay (h : aZ a) (hV : aV a) (hp2 : a 0 5 = 2) (hc : c < 32) : aZ (aLay a c) := by
  have hP := hV.P hp2
  have ht := hP.2.2.2.1
  have hl := hP.2.2.2.2.1
  have hld := aLed_lt hV.O.2.1 hV.O.2.2
  have hn : aZ (aNt a (aLed a) c) := by
    rcases aNt_x (a := a) (aLed a) c with ⟨q1, q2, q3, q4⟩ | ⟨q1, q2, q4⟩ | ⟨q1, q4⟩
    · rw [q4]; exact aZ_drop h (by omega)
    · rw [q4]; exact aZ_S h _ _ _ (by unfold inR; omega)
    · rw [q4]; exact h
  have e13 : aNt a (aLed a) c 1 3 = a 1 3 := aNt_c _ _ _ _ _ (by omega) (by omega)
  rw [aLay_eq hP]
  refine aZ_nx ?_
  unfold aL1
  rw [e13]
  exact aZ_S (aZ_S (aZ_S hn _ _ _ (by unfold inR; omega)) _ _ _ (by unfold inR; omega)) _ _ _ (by unfold inR; omega)
end ZZ
/-- what holds of every evening that counts -/
def gX (B : Nat) (a : Nat → Nat → Nat) : Prop := aV a ∧ aX a ∧ aZ a ∧ a 0 4 ≤ B ∧ a 0 11 ≤ B
section GX
variable {B : Nat} {a : Nat → Nat → Nat} {c l s : Nat}
theorem gX.up {B' : Nat} (h : gX B a) (hB : B ≤ B') : gX B' a := ⟨h.1, h.2.1, h.2.2.1, Nat.le_trans h.2.2.2.1 hB, Nat.le_trans h.2.2.2.2 hB⟩
theorem gX_deal (h : gX B a) (x : Int64) : gX (B + 1) (aDeal a x) := by
  obtain ⟨h1, h2, h3, h4, h5⟩ := h
  refine ⟨aV_deal h1, aX_deal h2, aZ_deal h3, by rw [aDeal_4]; omega, ?_⟩
  rw [aDeal_0 _ (by omega), aCd_0 _ _ (by omega)]
  omega
theorem gX_bid (h : gX B a) (hp : a 0 5 = 1) (hl : 1 ≤ l) (hl2 : l ≤ 4) (hs : s ≤ 4) : gX (B + 1) (aBid a l s) := by
  obtain ⟨h1, h2, h3, h4, h5⟩ := h
  refine ⟨aV_bid h1 hp hl hl2 hs, aX_bid h2 hp, aZ_bid h3, by rw [aBid_4]; omega, ?_⟩
  have : aBid a l s 0 11 = a 0 11 := by unfold aBid; simp (disch := omega) only [aS_k]
  omega
theorem gX_pass (h : gX B a) (hp : a 0 5 = 1) : gX (B + 1) (aPass a) := by
  obtain ⟨h1, h2, h3, h4, h5⟩ := h
  have e := (pass_ph hp).2.1
  exact ⟨aV_pass h1 hp, aX_pass h2 hp, aZ_pass h3, by rw [e 4 (by omega)]; omega, by rw [e 11 (by omega)]; omega⟩
theorem gX_rf (h : gX B a) : gX (B + 1) (aRf a) := by
  obtain ⟨h1, h2, h3, h4, h5⟩ := h
  have h0 : ∀ j, j ≠ 13 → aRf a 0 j = a 0 j := fun j h => aS_k _ h
  exact ⟨aV_rf h1, aX_rf h2, aZ_rf h3, by rw [h0 4 (by omega)]; omega, by rw [h0 11 (by omega)]; omega⟩
theorem drop_11 (p s : Nat) : aDrop a p s c 0 11 ≤ a 0 11 + 1 := by
  unfold aDrop
  (repeat' split) <;> simp (disch := omega) only [aS_c, aS_k, aS_s] <;> omega
theorem gX_lay (h : gX B a) (hp2 : a 0 5 = 2) (hc : c < 32) (hr : aRs a c = 0) : gX (B + 1) (aLay a c) := by
  obtain ⟨h1, h2, h3, h4, h5⟩ := h
  refine ⟨aV_lay h1 hp2 hc hr, aX_lay h1 h2 hp2 hc hr, aZ_lay h3 h1 hp2 hc, by rw [(aLay_0 h1 hp2 hc).2.2.2.2.2.1]; omega, ?_⟩
  rw [lay_011 h1 hp2 11 (by omega)]
  rcases aNt_x (a := a) (aLed a) c with ⟨q1, q2, q3, q4⟩ | ⟨q1, q2, q4⟩ | ⟨q1, q4⟩
  · rw [q4]
    have := drop_11 (a := a) (c := c) (a 0 6) (aLed a)
    omega
  · rw [q4, aS_c _ _ (by omega)]; omega
  · rw [q4]; omega
end GX
