-- ===== PURE: the start =====
def aI : Nat → Nat → Nat := fun c j => if (c = 0 ∧ (j = 6 ∨ j = 9)) ∨ ((c = 5 ∨ c = 6 ∨ c = 7) ∧ j < 32) ∨ (c = 9 ∧ j < 16) then 4294967295 else 0
theorem aI_e (c : Nat) : eIni c = eN aI c := by
  funext j
  show eIni c j = nI (aI c j)
  have one : ∀ P : Prop, [Decidable P] → (aI c j = if P then 4294967295 else 0) → (if P then (-1 : Int32) else 0) = nI (aI c j) := fun P _ h => by
    rw [h]
    by_cases y : P
    · rw [if_pos y, if_pos y, z_m1]
    · rw [if_neg y, if_neg y]
      rfl
  by_cases h0 : c = 0
  · subst h0
    refine one _ ?_
    unfold aI
    by_cases y : j = 6 ∨ j = 9
    · rw [if_pos (Or.inl ⟨rfl, y⟩), if_pos y]
    · rw [if_neg (by omega), if_neg y]
  by_cases h5 : c = 5 ∨ c = 6 ∨ c = 7
  · have e : eIni c j = if j < 32 then -1 else 0 := by rcases h5 with rfl | rfl | rfl <;> rfl
    rw [e]
    refine one _ ?_
    unfold aI
    by_cases y : j < 32
    · rw [if_pos (Or.inr (Or.inl ⟨h5, y⟩)), if_pos y]
    · rw [if_neg (by omega), if_neg y]
  by_cases h9 : c = 9
  · subst h9
    refine one _ ?_
    unfold aI
    by_cases y : j < 16
    · rw [if_pos (Or.inr (Or.inr ⟨rfl, y⟩)), if_pos y]
    · rw [if_neg (by omega), if_neg y]
  have e : eIni c j = 0 := by
    unfold eIni
    split <;> first | rfl | (exfalso; omega)
  rw [e]
  unfold aI
  rw [if_neg (by omega)]
  rfl
theorem aI_8 (k : Nat) : aI 8 k = 0 ∧ aI 10 k = 0 ∧ aI 11 k = 0 := ⟨if_neg (by omega), if_neg (by omega), if_neg (by omega)⟩
theorem aI_5 {c : Nat} (hc : c < 32) : aI 5 c = 4294967295 ∧ aI 6 c = 4294967295 := ⟨if_pos (Or.inr (Or.inl ⟨Or.inl rfl, hc⟩)), if_pos (Or.inr (Or.inl ⟨Or.inr (Or.inl rfl), hc⟩))⟩
theorem aI_z : aI 0 4 = 0 ∧ aI 0 5 = 0 ∧ aI 0 6 = 4294967295 ∧ aI 0 7 = 0 ∧ aI 0 8 = 0 ∧ aI 0 9 = 4294967295 ∧ aI 0 10 = 0 ∧ aI 0 11 = 0 ∧ aI 0 12 = 0 ∧ aI 1 3 = 0 ∧ aI 3 0 = 0 ∧ aI 3 1 = 0 := by decide
theorem aI_V : aV aI := by
  obtain ⟨z4, z5, z6, z7, z8, z9, z10, z11, z12, z13, z30, z31⟩ := aI_z
  refine ⟨fun c j _ => ?_, ?_, ⟨fun t ht => by omega, fun c hc => Or.inl (aI_5 hc).2, fun c hc => Or.inr (aI_5 hc).1, fun h => absurd z5 h⟩, ⟨fun p s _ _ h => absurd (aI_8 _).1 h, fun k => by rw [(aI_8 k).1]; omega, fun k _ => by rw [(aI_8 k).1]; omega, fun k _ => by rw [(aI_8 k).2.1]; omega, fun k _ => by rw [(aI_8 k).2.2]; omega⟩, fun h => by omega⟩
  · unfold aI
    split <;> omega
  · unfold aV1
    omega
theorem aI_X : aX aI := by
  obtain ⟨z4, z5, z6, z7, z8, z9, z10, z11, z12, z13, z30, z31⟩ := aI_z
  refine ⟨by omega, fun c hc h => absurd (aI_5 hc).2 h, fun _ => ⟨fun c hc => (aI_5 hc).1, z9⟩, fun h => absurd z5 h, fun p s hp hs => ?_, fun k _ => ?_, fun p s _ _ h => ?_, fun h => by omega, ?_, by omega⟩
  · rw [(aI_8 _).1, Nat.zero_add]
    exact aHd_dl hp
  · have := aI_8 k
    omega
  · have := (aI_8 (4 * p + s)).2.2
    omega
  · have : aSn aI = 0 := fb_ct_zero.mpr fun k _ => decide_eq_false (fun h => h (aI_8 k).2.1)
    omega
theorem aI_Z : aZ aI := fun c j h => if_neg (by
  unfold inR at h
  omega)
theorem gX_I : gX 0 aI := ⟨aI_V, aI_X, aI_Z, by decide, by decide⟩
def S0 : SS := (aI, 0, fun _ => aI, fun _ => 0, fun _ => aI)
theorem DV_0 : DV 0 S0 := ⟨gX_I, fun j hj => absurd (show j < 0 from hj) (by omega), fun s _ hu => absurd (show (0 : Nat) = 1 from hu) (by omega), Nat.zero_le _⟩
theorem gM2_e {e : Nat} (he : e < 18) : gM2 e = eN aI := by
  funext c
  rw [← aI_e]
  unfold gM2
  rw [if_pos (by omega)]
  exact gM0_e he c
theorem gM2_18 : gM2 18 = fun _ _ => 0 := by
  unfold gM2
  rw [if_pos (by omega)]
  funext c
  unfold gM0
  rw [if_neg (by omega)]
theorem gM2_sw : swM gM2 = gM2 := by
  funext g
  unfold swM gM2 sw
  by_cases h1 : g < 19
  · rw [if_pos h1, if_neg (by omega), if_pos (by omega)]
    congr 1
  · rw [if_neg h1]
    by_cases h2 : 20 ≤ g ∧ g < 39
    · rw [if_pos h2, if_pos (by omega), if_neg (by omega)]
    · rw [if_neg h2]
theorem DI_0 : DI gM2 S0 := by
  refine ⟨fun _ => aI, 0, ⟨fun e he => gM2_e he, ?_, ?_, fun s _ => ?_, ?_, fun j hj => absurd hj (by omega)⟩, by omega, Nat.zero_le _, rfl, fun j hj => absurd (show j < 0 from hj) (by omega), fun s _ => ⟨Nat.zero_le _, fun hu => absurd (show (0 : Nat) = 1 from hu) (by omega)⟩, fun e _ => aI_Z⟩
  · rw [gM2_18]; rfl
  · rw [gM2_18]; rfl
  · rw [gM2_18]; rfl
  · rw [gM2_18]; rfl
theorem R2_0 : R2 gM2 S0 S0 := ⟨DI_0, by rw [gM2_sw]; exact DI_0⟩
