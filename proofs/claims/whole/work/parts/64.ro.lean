-- ===== PURE: calls that only read =====
/-- a call that only reads: it throws, or answers -/
def RO (M : gMem) (C D : gMem → Option (Int32 × gMem)) : Prop :=
  (∃ cd : Int32, cd ≠ 0 ∧ C M = some (cd, M) ∧ ∀ M', IS M M' → D M' = some (0, gSt M' 19 0 0 cd)) ∨
  (∃ b : Int32, C M = some (0, gUp M 20 0 (gOut (Int32.toInt64 b))) ∧ ∀ M', IS M M' → D M' = some (b, gSt M' 19 0 0 0))
theorem st_n (M : gMem) (k : Nat) (x : Int32) {g c : Nat} (h : ¬ (g = 19 ∧ c = 0)) : gSt M 19 0 k x g c = M g c := gUp_n _ _ h
theorem RO.call {k : Nat} {M : gMem} {C D : gMem → Option (Int32 × gMem)} (h : RO M C D) (hI : Inv k M) : CALL k M C D := by
  rcases h with ⟨cd, h0, h1, h2⟩ | ⟨b, h1, h2⟩
  · exact ⟨cd, M, 0, _, h1, h2 M (IS.rf M), st_00 M cd, fun z => absurd z h0, hI.same (IS_st M cd (by omega))⟩
  · have s1 := IS_up M (g := 20) (c := 0) (gOut (Int32.toInt64 b)) (Or.inl rfl)
    refine ⟨0, _, b, _, h1, h2 _ s1, st_00 _ 0, fun _ => ?_, hI.same (s1.tr (IS_st _ 0 (by omega)))⟩
    have e : gGO (gSt (gUp M 20 0 (gOut (Int32.toInt64 b))) 19 0 0 0) = gGO (gUp M 20 0 (gOut (Int32.toInt64 b))) := by
      unfold gGO
      rw [st_n _ _ _ (by omega)]
    rw [e, gGO_u]
theorem z_ne {x y : Nat} (hx : x < 4294967296) (hy : y < 4294967296) (h : x ≠ y) : ¬ nI x = nI y := fun q => h ((z_inj hx hy).mp q)
section CK
variable {v : Int32} {n w : Nat}
theorem k_what0 (hn : n + 1 < 2 ^ 31) (h : v < 0 ∨ nI (n + 1) ≤ v) : f_DS_checkWhat v (nI n) = some (.inl 1) := by
  unfold f_DS_checkWhat
  by_cases z : v < 0
  · rw [if_pos z]
  · rcases h with h | h
    · exact absurd h z
    · rw [if_neg z, if_neg (fun q => by rw [fa_le, pN (by omega)] at h q; omega)]
theorem k_what1 (hn : n < 2 ^ 31) (h : w ≤ n) : f_DS_checkWhat (nI w) (nI n) = some (.inr ()) := by
  unfold f_DS_checkWhat
  rw [if_neg (nI_pos (by omega)), if_pos (nI_le h hn)]
theorem k_place0 (hn : n < 2 ^ 31) (h : v < 0 ∨ nI n ≤ v) : f_DS_checkPlace v (nI n) = some (.inl 3) := by
  unfold f_DS_checkPlace
  by_cases z : v < 0
  · rw [if_pos z]
  · rcases h with h | h
    · exact absurd h z
    · rw [if_neg z, if_neg (fun q => by rw [fa_le, pN (by omega)] at h; rw [fa_lt, pN (by omega)] at q; omega)]
theorem k_place1 (hn : n < 2 ^ 31) (h : w < n) : f_DS_checkPlace (nI w) (nI n) = some (.inr ()) := by
  unfold f_DS_checkPlace
  rw [if_neg (nI_pos (by omega)), if_pos (nI_lt h hn)]
theorem q_in0 (hn : n + 1 < 2 ^ 31) (h : v < 0 ∨ nI (n + 1) ≤ v) : f_Mo_in (Int32.toInt64 v) 0 (lN n) = some 0 := by
  rw [q_in v (by omega), if_neg]
  rintro ⟨h1, h2⟩
  rcases h with h | h
  · exact h1 h
  · rw [fa_le, pN (by omega)] at h h2
    omega
theorem q_in1 (hn : n < 2 ^ 31) (h : w ≤ n) : f_Mo_in (Int32.toInt64 (nI w)) 0 (lN n) = some 1 := by
  rw [q_in _ (by omega), if_pos ⟨nI_pos (by omega), nI_le h hn⟩]
theorem q_ref0 (M : gMem) : f_Mo_refused M 0 = some (0, gSt M 19 0 0 0) := by
  unfold f_Mo_refused gSO
  rw [pB, if_pos (by decide)]
theorem q_ref1 (M : gMem) {x : Int32} (h : ¬ x ≤ 0) : f_Mo_refused M x = some (1, gSt M 19 0 0 x) := by
  unfold f_Mo_refused gSO
  rw [pB, if_neg h]
end CK
section RO1
variable {M : gMem} {E : Nat → Nat → Nat → Nat} {n c k : Nat} {u : Nat → Nat} {l : Nat} {t r d q : Nat → Nat} {v v2 v3 : Int32}
/-- the model's row in a world that agrees, its refusal set -/
theorem IM.row (h : IM M E n c u l t r d q) {M' : gMem} (s : IS M M') (x : Int32) : gSt M' 19 0 0 x 19 2 = fun j => nI (r j) := by
  rw [st_n _ _ _ (by omega)]
  exact (h.same s).1
theorem row_rd {W : gMem} {i : Nat} (h : W 19 2 = fun j => nI (r j)) (hi : i < 197) : gRd 197 (W 19 2) (nI i) = some (nI (r i)) := by rw [pRd _ hi (by omega), h]
def aAb (a : Nat → Nat → Nat) (w : Nat) : Nat := if w = 0 then a 0 4 else if w = 1 then a 0 5 else if w = 2 then a 0 6 else if w = 3 then 10 * a 0 7 + a 0 8 else if w = 4 then (if a 0 5 = 1 then 4294967295 else a 0 9) else if w = 5 then a 3 0 else if w = 6 then a 3 1 else if w = 7 then a 4 0 else if w = 8 then a 4 1 else if w = 9 then a 0 11 else if w = 10 then a 0 12 else a 0 13
theorem p_number {e w : Nat} {a : Nat → Nat → Nat} (hp : a 0 5 < 4294967296) (hw : w < 12) : f_Ev_number e (aW M e a) (nI w) = some (nI (aAb a w)) := by
  unfold f_Ev_number
  rcases (show w = 0 ∨ w = 1 ∨ w = 2 ∨ w = 3 ∨ w = 4 ∨ w = 5 ∨ w = 6 ∨ w = 7 ∨ w = 8 ∨ w = 9 ∨ w = 10 ∨ w = 11 by omega) with rfl | rfl | rfl | rfl | rfl | rfl | rfl | rfl | rfl | rfl | rfl | rfl
  · rw [if_pos (by decide), aW_r]; rfl
  · rw [if_neg (by decide), if_pos (by decide), aW_r]; rfl
  · rw [if_neg (by decide), if_neg (by decide), if_pos (by decide), aW_r]; rfl
  · rw [if_neg (by decide), if_neg (by decide), if_neg (by decide), if_pos (by decide), aW_r, aW_r, show (10 : Int32) = nI 10 from rfl, pk_mul, nI_add]; rfl
  · rw [if_neg (by decide), if_neg (by decide), if_neg (by decide), if_neg (by decide), if_pos (by decide), aW_r, aW_r, show (1 : Int32) = nI 1 from rfl]
    show _ = some (nI (if a 0 5 = 1 then 4294967295 else a 0 9))
    by_cases z : a 0 5 = 1
    · rw [if_pos (by rw [z]), if_pos z]; rfl
    · rw [if_neg (fun q => z ((z_inj hp (by omega)).mp q)), if_neg z]
  · rw [if_neg (by decide), if_neg (by decide), if_neg (by decide), if_neg (by decide), if_neg (by decide), if_pos (by decide)]
    unfold f_Ev_number_b105
    rw [show nI 5 - 5 = nI 0 from by decide, p_at (by omega) (by omega), pB]; rfl
  · rw [if_neg (by decide), if_neg (by decide), if_neg (by decide), if_neg (by decide), if_neg (by decide), if_neg (by decide), if_pos (by decide)]
    unfold f_Ev_number_b105
    rw [show nI 6 - 5 = nI 1 from by decide, p_at (by omega) (by omega), pB]; rfl
  · rw [if_neg (by decide), if_neg (by decide), if_neg (by decide), if_neg (by decide), if_neg (by decide), if_neg (by decide), if_neg (by decide), if_pos (by decide)]
    unfold f_Ev_number_b116
    rw [show nI 7 - 7 = nI 0 from by decide, p_at (by omega) (by omega), pB]; rfl
  · rw [if_neg (by decide), if_neg (by decide), if_neg (by decide), if_neg (by decide), if_neg (by decide), if_neg (by decide), if_neg (by decide), if_neg (by decide), if_pos (by decide)]
    unfold f_Ev_number_b116
    rw [show nI 8 - 7 = nI 1 from by decide, p_at (by omega) (by omega), pB]; rfl
  · rw [if_neg (by decide), if_neg (by decide), if_neg (by decide), if_neg (by decide), if_neg (by decide), if_neg (by decide), if_neg (by decide), if_neg (by decide), if_neg (by decide), if_pos (by decide), aW_r]; rfl
  · rw [if_neg (by decide), if_neg (by decide), if_neg (by decide), if_neg (by decide), if_neg (by decide), if_neg (by decide), if_neg (by decide), if_neg (by decide), if_neg (by decide), if_neg (by decide), if_pos (by decide), aW_r]; rfl
  · rw [if_neg (by decide), if_neg (by decide), if_neg (by decide), if_neg (by decide), if_neg (by decide), if_neg (by decide), if_neg (by decide), if_neg (by decide), if_neg (by decide), if_neg (by decide), if_neg (by decide), aW_r]; rfl
theorem RM.ab {a : Nat → Nat → Nat} (hR : RM a r) {w : Nat} (hw : w < 12) (h : w = 2 → a 0 5 = 1 ∨ a 0 5 = 2) : r w = aAb a w := by
  obtain ⟨⟨f0, f1, f2, f3, f4, f5, f6, f7, f8, f9, f10, f11, -⟩, -⟩ := hR
  rcases (show w = 0 ∨ w = 1 ∨ w = 2 ∨ w = 3 ∨ w = 4 ∨ w = 5 ∨ w = 6 ∨ w = 7 ∨ w = 8 ∨ w = 9 ∨ w = 10 ∨ w = 11 by omega) with rfl | rfl | rfl | rfl | rfl | rfl | rfl | rfl | rfl | rfl | rfl | rfl
  · exact f0
  · exact f1
  · exact f2 (h rfl)
  · exact f3
  · exact f4
  · exact f5
  · exact f6
  · exact f7
  · exact f8
  · exact f9
  · exact f10
  · exact f11
theorem q_about {W : gMem} {a : Nat → Nat → Nat} (hW : W 19 2 = fun j => nI (r j)) (hR : RM a r) (hV : aV a) {w : Nat} (hw : w < 12) : f_Mo_about W (nI w) = some (nI (aAb a w), gSt W 19 0 0 0) := by
  have h2 : gSt W 19 0 0 0 19 2 = fun j => nI (r j) := by rw [st_n _ _ _ (by omega)]; exact hW
  obtain ⟨-, v1, -⟩ := hV
  have h53 := v1.1
  unfold f_Mo_about
  rw [show (11 : Int64) = lN 11 from rfl, q_in1 (by omega) (by omega), pB, if_neg (by decide)]
  unfold f_Mo_about_b18
  rw [q_ref0, pB, if_pos rfl]
  have r1 := row_rd h2 (show 1 < 197 by omega)
  have key : (a 0 5 = 1 ∨ a 0 5 = 2) → f_Mo_about_b46 (gSt W 19 0 0 0) (nI w) = some (nI (aAb a w), gSt W 19 0 0 0) := by
    intro hp
    unfold f_Mo_about_b46 f_Mo_about_b51 f_Mo_about_b65
    rw [row_rd h2 (by omega), hR.ab hw (fun _ => hp)]
    rw [if_neg (show ¬ (1 : Int32) = 0 by decide)]
    split <;> rfl
  rw [show gRd 197 (gSt W 19 0 0 0 19 2) 1 = some (nI (r 1)) from r1, hR.r1, pB, pB]
  by_cases z1 : a 0 5 = 1
  · rw [if_pos (by rw [z1]; rfl)]
    exact key (Or.inl z1)
  · rw [if_neg (show ¬ nI (a 0 5) = 1 from z_ne (y := 1) (by omega) (by omega) z1)]
    by_cases z2 : a 0 5 = 2
    · rw [if_pos (by rw [z2]; rfl)]
      exact key (Or.inr z2)
    · rw [if_neg (show ¬ nI (a 0 5) = 2 from z_ne (y := 2) (by omega) (by omega) z2)]
      unfold f_Mo_about_b51
      by_cases z3 : w = 2
      · subst z3
        rw [if_pos (by decide), if_pos rfl]
        have : a 0 6 = 4294967295 := v1.2.2.1 (by omega)
        show _ = some (nI (a 0 6), _)
        rw [this]
        rfl
      · rw [if_neg (show ¬ nI w = 2 from z_ne (y := 2) (by omega) (by omega) z3)]
        unfold f_Mo_about_b65
        rw [row_rd h2 (by omega), hR.ab hw (fun z => absurd z z3)]
        rfl
theorem about_ro (hC : IC M E n c u l t) (hM : IM M E n c u l t r d q) (hV : IV k E n c u l t) : RO M (fun M => f_Law_about M v) (fun M => f_Mo_about M v) := by
  rcases i_cases v 12 (by omega) with h | ⟨w, hw, rfl⟩
  · left
    refine ⟨1, by decide, ?_, fun M' hs => ?_⟩
    · show f_Law_about M v = _
      unfold f_Law_about f_DS_about
      rw [show (11 : Int32) = nI 11 from rfl, k_what0 (by omega) h]
      rfl
    · show f_Mo_about M' v = _
      unfold f_Mo_about
      rw [show (11 : Int64) = lN 11 from rfl, q_in0 (by omega) h, pB, if_pos rfl]
      unfold f_Mo_about_b18
      rw [q_ref1 _ (by decide), pB, if_neg (show ¬ (1 : Int32) = 0 by decide)]
  · right
    have hG := hV.2.2.2.2.2.2.1
    refine ⟨nI (aAb (E 0) w), ?_, fun M' hs => q_about (hM.same hs).1 hM.2.2.2.1 hG.1 hw⟩
    show f_Law_about M (nI w) = _
    unfold f_Law_about f_DS_about
    have e := p_number (M := M) (e := 0) (a := E 0) (by have := hG.1.2.1.1; omega) hw
    rw [aW_self (hC.1 0 (by omega))] at e
    rw [show (11 : Int32) = nI 11 from rfl, k_what1 (by omega) (by omega)]
    show ((f_Ev_number 0 M (nI w)).bind fun q2 => some (Sum.inr q2)).bind _ = _
    rw [e]
    rfl
end RO1
