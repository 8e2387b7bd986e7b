-- ===== PURE: the start, and all rounds =====
def aI : Nat → Nat → Nat := fun c j => if (c = 0 ∧ (j = 6 ∨ j = 9)) ∨ ((c = 5 ∨ c = 6 ∨ c = 7) ∧ j < 32) ∨ (c = 9 ∧ j < 16) then 4294967295 else 0
theorem aI_e (c : Nat) : eIni c = eN aI c := by
  funext j
  show eIni c j = nI (aI c j)
  have one : ∀ P : Prop, [Decidable P] → (aI c j = if P then 4294967295 else 0) → (if P then (-1 : Int32) else 0) = nI (aI c j) := fun P _ h => by
    rw [h]
    by_cases y : P
    · rw [if_pos y, if_pos y, z_m1]
    · rw [if_neg y, if_neg y]
      rfl
  by_cases h0 : c = 0
  · subst h0
    refine one _ ?_
    unfold aI
    by_cases y : j = 6 ∨ j = 9
    · rw [if_pos (Or.inl ⟨rfl, y⟩), if_pos y]
    · rw [if_neg (by omega), if_neg y]
  by_cases h5 : c = 5 ∨ c = 6 ∨ c = 7
  · have e : eIni c j = if j < 32 then -1 else 0 := by rcases h5 with rfl | rfl | rfl <;> rfl
    rw [e]
    refine one _ ?_
    unfold aI
    by_cases y : j < 32
    · rw [if_pos (Or.inr (Or.inl ⟨h5, y⟩)), if_pos y]
    · rw [if_neg (by omega), if_neg y]
  by_cases h9 : c = 9
  · subst h9
    refine one _ ?_
    unfold aI
    by_cases y : j < 16
    · rw [if_pos (Or.inr (Or.inr ⟨rfl, y⟩)), if_pos y]
    · rw [if_neg (by omega), if_neg y]
  have e : eIni c j = 0 := by
    unfold eIni
    split <;> first | rfl | (exfalso; omega)
  rw [e]
  unfold aI
  rw [if_neg (by omega)]
  rfl
theorem aI_J : aJ aI := by
  refine ⟨fun c j _ => ?_, fun k => ?_⟩
  · unfold aI; split <;> omega
  · unfold aI; rw [if_neg (by omega)]; omega
theorem aI_eq : aEq aI (aCl (fun _ _ => 0)) := by
  refine ⟨fun j h1 h2 => ?_, ?_, fun c j hc hj => ?_, fun c j hc hj => ?_, fun c j hc hc2 hj => ?_⟩
  · rw [aCl_0 j ⟨h2, h1⟩]
    unfold aI
    by_cases z : j = 6 ∨ j = 9
    · rw [if_pos z, if_pos (Or.inl ⟨rfl, z⟩)]
    · rw [if_neg z, if_neg (by omega)]
  · rw [aCl_13]
    unfold aI
    rw [if_neg (by omega)]
  · rw [aCl_s hc hj]
    unfold aI
    rw [if_neg (by omega)]
  · rw [aCl_c hc hj]
    unfold aI
    rw [if_pos (Or.inr (Or.inl ⟨hc, hj⟩))]
  · have h := aCl_d (a := fun _ _ => 0) hj
    rcases (show c = 8 ∨ c = 9 ∨ c = 10 ∨ c = 11 by omega) with rfl | rfl | rfl | rfl
    · rw [h.1]; unfold aI; rw [if_neg (by omega)]
    · rw [h.2.1]; unfold aI; rw [if_pos (Or.inr (Or.inr ⟨rfl, hj⟩))]
    · rw [h.2.2.1]; unfold aI; rw [if_neg (by omega)]
    · rw [h.2.2.2]; unfold aI; rw [if_neg (by omega)]
theorem aI_V : aV aI := aV_eq aI_J aI_eq (aV_clear (fun _ _ _ => by omega) (fun _ => by omega))
theorem aI_R (r : Nat → Nat) : RM aI (rNd (r0 r 197)) := RM_eq aI_eq (by rw [aCl_13]; omega) (RM_clear _ r)
theorem inv_0 : Inv 0 (rW gM0 2 (rNd (r0 (fun _ => 0) 197))) := by
  have o : ∀ g c, ¬ (g = 19 ∧ c = 2) → rW gM0 2 (rNd (r0 (fun _ => 0) 197)) g c = gM0 g c := fun g c z => gUp_n _ _ z
  have z : ∀ g c, 18 ≤ g → gM0 g c = fun _ => 0 := fun g c hg => by unfold gM0; rw [if_neg (by omega)]
  have hG : aG 0 aI := ⟨aI_V, by show (if _ then _ else _) ≤ 40 + 0; rw [if_neg (by omega)]; omega⟩
  refine ⟨fun _ => aI, 0, 0, fun _ => 0, 0, fun _ => 0, rNd (r0 (fun _ => 0) 197), fun _ => 0, fun _ => 0, ⟨fun e he => funext fun c => ?_, ?_, ?_, fun s _ => ?_, ?_, fun j hj => absurd hj (by omega)⟩, ⟨rW_r _ _ _, ?_, ?_, aI_R _, fun i hi => absurd hi (by omega), fun s _ hu => absurd (show (0 : Nat) = 1 from hu) (by omega), ?_, fun s _ => ?_, ?_, fun j hj => absurd hj (by omega)⟩, ⟨by omega, by omega, by omega, fun j hj => absurd hj (by omega), fun s _ => Nat.zero_le 1, fun e _ => aI_J, hG, fun i hi => absurd hi (by omega), fun s _ hu => absurd (show (0 : Nat) = 1 from hu) (by omega)⟩⟩
  · rw [o e c (by omega), gM0_e he, aI_e]
  · rw [o 18 1 (by omega), z 18 1 (by omega)]; rfl
  · rw [o 18 1 (by omega), z 18 1 (by omega)]; rfl
  · rw [o 18 5 (by omega), z 18 5 (by omega)]; rfl
  · rw [o 18 6 (by omega), z 18 6 (by omega)]; rfl
  · rw [o 19 9 (by omega), z 19 9 (by omega)]; rfl
  · rw [o 19 10 (by omega), z 19 10 (by omega)]; rfl
  · rw [o 19 0 (by omega), z 19 0 (by omega)]; rfl
  · rw [o 19 11 (by omega), z 19 11 (by omega)]; rfl
  · rw [o 19 0 (by omega), z 19 0 (by omega)]; rfl
theorem inv_step {Ls : Nat} {xs : Nat → Int32} (hL : Ls ≤ 2560) {k : Nat} {M : gMem} (hk : 5 * k + 5 ≤ Ls) (hI : Inv k M) : ∃ M', f_law_step Ls xs M (nI (5 * k)) = some M' ∧ Inv (k + 1) M' := by
  unfold f_law_step
  rw [sc_0 hL hk, pB]
  generalize xs (5 * k) &&& 31 = w
  by_cases z0 : w = 0
  · rw [if_pos z0]; exact s_c0 hL hk hI
  rw [if_neg z0]
  by_cases z1 : w = 1
  · rw [if_pos z1]; exact s_c1 _ hI
  rw [if_neg z1]
  by_cases z2 : w = 2
  · rw [if_pos z2]; exact s_c2 _ hI
  rw [if_neg z2]
  by_cases z3 : w = 3
  · rw [if_pos z3]; exact s_c3 _ (by omega) hI
  rw [if_neg z3]
  by_cases z4 : w = 4
  · rw [if_pos z4]; exact s_c4 hL hk hI
  rw [if_neg z4]
  by_cases z5 : w = 5
  · rw [if_pos z5]; exact s_c5 hL hk hI
  rw [if_neg z5]
  by_cases z6 : w = 6
  · rw [if_pos z6]; exact s_c6 hL hk hI
  rw [if_neg z6]
  by_cases z7 : w = 7
  · rw [if_pos z7]; exact s_c7 hL hk hI
  rw [if_neg z7]
  by_cases z8 : w = 8
  · rw [if_pos z8]; exact s_c8 hL hk hI
  rw [if_neg z8]
  by_cases z9 : w = 9
  · rw [if_pos z9]; exact s_c9 hL hk hI
  rw [if_neg z9]
  by_cases z10 : w = 10
  · rw [if_pos z10]; exact s_c10 hL hk hI
  rw [if_neg z10]
  by_cases z11 : w = 11
  · rw [if_pos z11]; exact s_c11 hL hk hI
  rw [if_neg z11]
  by_cases z12 : w = 12
  · rw [if_pos z12]; exact s_c12 _ hI
  rw [if_neg z12]
  by_cases z13 : w = 13
  · rw [if_pos z13]; exact s_c13 hL hk hI
  rw [if_neg z13]
  by_cases z14 : w = 14
  · rw [if_pos z14]; exact s_c14 hI _
  rw [if_neg z14]
  by_cases z15 : w = 15
  · rw [if_pos z15]; exact s_c15 hL hk hI
  rw [if_neg z15]
  by_cases z16 : w = 16
  · rw [if_pos z16]; exact s_c16 hL hk hI
  rw [if_neg z16]
  by_cases z17 : w = 17
  · rw [if_pos z17]; exact s_c17 _ hI
  rw [if_neg z17]
  by_cases z18 : w = 18
  · rw [if_pos z18]; exact s_c18 hL hk hI
  rw [if_neg z18]
  by_cases z19 : w = 19
  · rw [if_pos z19]; exact s_c19 hL hk hI
  rw [if_neg z19]
  by_cases z20 : w = 20
  · rw [if_pos z20]; exact s_c20 hL hk hI
  rw [if_neg z20]
  by_cases z21 : w = 21
  · rw [if_pos z21]; exact s_c21 hL hk hI
  rw [if_neg z21]
  exact ⟨M, rfl, hI.same (IS.rf M)⟩
theorem e_pure : e_Pure := ⟨_, q_clear0, fun g c hg => gUp_n _ _ (fun z => hg z.1), Inv, inv_0, fun Ls xs hL k M hk hI => inv_step hL hk hI⟩
