-- ===== PURE: a state is remembered: the ring and the diary =====
theorem RM_cong {a : Nat → Nat → Nat} {r r' : Nat → Nat} (h13 : a 1 3 ≤ 32) (h : ∀ j, j < 197 → r' j = r j) (hR : RM a r) : RM a r' := by
  obtain ⟨q1, q2, q3, q4⟩ := hR
  refine ⟨?_, fun j hj => ?_, fun c hc => ?_, fun p s hp hs => ?_⟩
  · rw [h 0 (by omega), h 1 (by omega), h 2 (by omega), h 3 (by omega), h 4 (by omega), h 5 (by omega), h 6 (by omega), h 7 (by omega), h 8 (by omega), h 9 (by omega), h 10 (by omega), h 11 (by omega), h 12 (by omega), h 13 (by omega), h 14 (by omega), h 15 (by omega), h 20 (by omega)]
    exact q1
  · rw [h _ (by omega)]
    exact q2 j hj
  · rw [h _ (by omega), h _ (by omega), h _ (by omega)]
    exact q3 c hc
  · rw [h _ (by omega), h _ (by omega), h _ (by omega), h _ (by omega), h _ (by omega)]
    exact q4 p s hp hs
theorem pLm {σ ρ : Type} {step : σ → Option (σ ⊕ ρ)} {s : σ} {o : Option ρ} (h : step s = o.map Sum.inr) : gLp step s = o := by
  cases o with
  | none =>
    rw [gLp_eq, h]
    rfl
  | some r => exact pLx h
section REM
variable {M M' W : gMem} {E : Nat → Nat → Nat → Nat} {n c k n' c' : Nat} {u : Nat → Nat} {l : Nat} {t r d q r' d' : Nat → Nat} {a : Nat → Nat → Nat} {e : Nat}
theorem IC.c18 (h : IC M E n c u l t) (hM : ∀ g, g ≤ 18 → M' g = M g) : IC M' E n c u l t := by
  have h18 := hM 18 (by omega)
  unfold IC
  rw [h18]
  exact ⟨fun e he => (hM e (by omega)).trans (h.1 e he), h.2⟩
theorem IM.c19 (h : IM M E n c u l t r d q) (hM : M' 19 = M 19) : IM M' E n c u l t r d q := by
  unfold IM
  rw [hM]
  exact h
theorem aW_n2 (M : gMem) {e g : Nat} (a : Nat → Nat → Nat) (c : Nat) (h : g ≠ e) : aW M e a g c = M g c := congrFun (aW_n M a h) c
theorem IC.ev (h : IC M E n c u l t) (he : e < 18) : IC (aW M e a) (fU E e a) n c u l t := by
  have h18 : aW M e a 18 = M 18 := aW_n M a (by omega)
  unfold IC
  rw [h18]
  refine ⟨fun i hi => ?_, h.2⟩
  by_cases z : i = e
  · subst z
    rw [fU_s]
    unfold aW
    rw [eUp_s]
  · rw [fU_n _ _ z, aW_n M a z]
    exact h.1 i hi
theorem IC.st (h : IC M E n c u l t) (j : Nat) (x : Int32) (h1 : j = 1 → x = nI n') (h2 : j = 2 → x = nI c') (h3 : j ≠ 1 → n' = n) (h4 : j ≠ 2 → c' = c) : IC (gSt M 18 1 j x) E n' c' u l t := by
  refine ⟨fun e he => (funext fun c => gUp_n _ _ (by omega)).trans (h.1 e he), ?_, ?_, fun s hs => ?_, ?_, fun i hi => ?_⟩
  · unfold gSt
    rw [gUp_s]
    by_cases z : j = 1
    · rw [z, pk_us, ← h1 z]
    · rw [pk_un (by omega), h3 z]
      exact h.2.1
  · unfold gSt
    rw [gUp_s]
    by_cases z : j = 2
    · rw [z, pk_us, ← h2 z]
    · rw [pk_un (by omega), h4 z]
      exact h.2.2.1
  · unfold gSt
    rw [gUp_n _ _ (by omega)]
    exact h.2.2.2.1 s hs
  · unfold gSt
    rw [gUp_n _ _ (by omega)]
    exact h.2.2.2.2.1
  · unfold gSt
    rw [gUp_n _ _ (by omega)]
    exact h.2.2.2.2.2 i hi
/-- the ring behind one more -/
def nx (n : Nat) : Nat := (n + 1) % 14
def cx (c : Nat) : Nat := if c = 14 then 14 else c + 1
def Er (E : Nat → Nat → Nat → Nat) (n : Nat) : Nat → Nat → Nat → Nat := fU E (2 + n) (aCp (E (2 + n)) (E 0))
theorem p_remember (h : IC M E n c u l t) (hn : n < 14) (hc : c ≤ 14) : ∃ Mc, f_Mem_remember 0 M = some Mc ∧ IC Mc (Er E n) (nx n) (cx c) u l t ∧ ∀ g, 19 ≤ g → Mc g = M g := by
  have e1 : f_Ev_copyFrom (2 + n) 0 M = some (aW M (2 + n) (aCp (E (2 + n)) (E 0))) := by
    have g := p_copyFrom (M := M) (e := 2 + n) (e0 := 0) (a := E (2 + n)) (by omega) (h.1 0 (by omega))
    rwa [aW_self (h.1 (2 + n) (by omega))] at g
  have hc1 := h.ev (e := 2 + n) (a := aCp (E (2 + n)) (E 0)) (by omega)
  have hc2 := hc1.st (n' := nx n) (c' := c) 1 (nI (nx n)) (fun _ => rfl) (fun z => absurd z (by omega)) (fun z => absurd rfl z) (fun _ => rfl)
  have hc3 := hc2.st (n' := nx n) (c' := cx c) 2 (nI (cx c)) (fun z => absurd z (by omega)) (fun _ => rfl) (fun _ => rfl) (fun z => absurd rfl z)
  refine ⟨_, ?_, hc3, fun g hg => ?_⟩
  · unfold f_Mem_remember f_Mem_store
    rw [h.2.1, if_neg (nI_pos (by omega)), z_ofn, if_neg (nI_ge hn (by omega))]
    unfold gIn
    rw [pN (by omega), if_pos (by omega), pNc (by omega), pB, pB, e1, pB, pB]
    unfold gSO
    rw [pB, hc1.2.1, nI_1, show (14 : Int32) = nI 14 from rfl, z_rem (by omega) (by omega) (by omega)]
    rw [pB, show (n + 1) % 14 = nx n from rfl, hc2.2.2.1, nI_1]
    have e2 : (if nI 14 < nI (c + 1) then nI 14 else nI (c + 1)) = nI (cx c) := by
      unfold cx
      by_cases z : c = 14
      · rw [if_pos (nI_lt (by omega) (by omega)), if_pos z]
      · rw [if_neg (nI_nlt (by omega) (by omega)), if_neg z]
    rw [e2]
  · unfold gSt
    funext c0
    rw [gUp_n _ _ (by omega), gUp_n _ _ (by omega), aW_n2 _ _ _ (by omega)]
/-- the diary, all rows down by one -/
def dSh (d : Nat → Nat) (i : Nat) : Nat → Nat := fun j => if j < i then d (j + 197) else d j
def dX (d r : Nat → Nat) (c : Nat) : Nat → Nat := if c = 14 then rCp r (dSh d 2561) 0 2561 197 else rCp r d 0 (197 * c) 197
theorem q_rem50 {f : Nat → Nat} {m : Nat} (h2 : W 19 2 = fun j => nI (r j)) (h9 : W 19 9 = fun j => nI (f j)) (h11 : W 19 0 11 = nI m) (hm : m ≤ 13) : f_Mo_remember_b50 W = some (gSt (rW W 9 (rCp r f 0 (197 * m) 197)) 19 0 11 (nI (m + 1))) := by
  unfold f_Mo_remember_b50
  have e1 := q_copy (M := W) (c0 := 2) (n0 := 197) (c1 := 9) (n1 := 2758) (i := 0) (j := 197 * m) (f := r) (r := f) (by omega) h2 (by omega) (by omega) (by omega) (by omega)
  rw [rW_self h9] at e1
  rw [h11, show (197 : Int32) = nI 197 from rfl, pk_mul, show (0 : Int32) = nI 0 from rfl, e1, pB]
  unfold gSO
  rw [pB]
  have e2 : rW W 9 (rCp r f 0 (197 * m) 197) 19 0 11 = nI m := by
    unfold rW
    rw [gUp_n _ _ (by omega)]
    exact h11
  rw [e2, nI_1]
theorem q_remember (h2 : W 19 2 = fun j => nI (r j)) (h9 : W 19 9 = fun j => nI (d j)) (h11 : W 19 0 11 = nI c) (hc : c ≤ 14) : ∃ W', f_Mo_remember W = some W' ∧ W' 19 9 = (fun j => nI (dX d r c j)) ∧ W' 19 0 11 = nI (cx c) ∧ (∀ i, i ≠ 11 → W' 19 0 i = W 19 0 i) ∧ (∀ c0, c0 ≠ 0 → c0 ≠ 9 → W' 19 c0 = W 19 c0) ∧ ∀ g, g ≠ 19 → W' g = W g := by
  unfold f_Mo_remember
  rw [h11]
  by_cases z : c = 14
  · subst z
    rw [if_pos (show nI 14 = 14 from rfl)]
    have lp : f_Mo_remember_l11 (0, W) = (f_Mo_remember_b50 (gSt (rW W 9 (dSh d 2561)) 19 0 11 (nI 13))) := by
      unfold f_Mo_remember_l11
      refine pFor0 (fun i => (nI i, rW W 9 (dSh d i))) 2561 ?_ ?_ ?_
      · show (0, W) = (nI 0, rW W 9 (dSh d 0))
        have : dSh d 0 = d := funext fun j => if_neg (by omega)
        rw [this, rW_self h9]
        rfl
      · intro i hi
        show f_Mo_remember_s11 (rW W 9 (dSh d i)) (nI i) = _
        unfold f_Mo_remember_s11
        rw [show (2561 : Int32) = nI 2561 from rfl, if_neg (nI_ge hi (by omega)), show (197 : Int32) = nI 197 from rfl, nI_add, q_rd (by omega) (by omega), pB, q_wr (by omega) (by omega), pB, nI_1]
        refine congrArg (fun z => some (Sum.inl (nI (i + 1), rW W 9 z))) (funext fun j => ?_)
        unfold rS dSh
        by_cases y : j = i
        · rw [if_pos y, if_neg (by omega), if_pos (by omega), y]
        · rw [if_neg y]
          by_cases y2 : j < i
          · rw [if_pos y2, if_pos (by omega)]
          · rw [if_neg y2, if_neg (by omega)]
      · refine pLm ?_
        show f_Mo_remember_s11 (rW W 9 (dSh d 2561)) (nI 2561) = _
        unfold f_Mo_remember_s11
        have e11 : rW W 9 (dSh d 2561) 19 0 11 = nI 14 := by
          unfold rW
          rw [gUp_n _ _ (by omega)]
          exact h11
        rw [if_pos (by decide), e11]
        unfold gSO
        rw [pB, show nI 14 - 1 = nI 13 from by decide]
    have h2' : gSt (rW W 9 (dSh d 2561)) 19 0 11 (nI 13) 19 2 = fun j => nI (r j) := by
      rw [st_n _ _ _ (by omega)]
      unfold rW
      rw [gUp_n _ _ (by omega)]
      exact h2
    have h9' : gSt (rW W 9 (dSh d 2561)) 19 0 11 (nI 13) 19 9 = fun j => nI (dSh d 2561 j) := by
      rw [st_n _ _ _ (by omega), rW_r]
    have h11' : gSt (rW W 9 (dSh d 2561)) 19 0 11 (nI 13) 19 0 11 = nI 13 := by
      unfold gSt
      rw [gUp_s]
      exact pk_us
    rw [lp, q_rem50 h2' h9' h11' (by omega)]
    refine ⟨_, rfl, ?_, ?_, fun i hi => ?_, fun c0 h0 h9 => ?_, fun g hg => ?_⟩
    · rw [st_n _ _ _ (by omega), rW_r]
      rfl
    · unfold gSt
      rw [gUp_s]
      exact pk_us
    · unfold gSt rW
      rw [gUp_s, pk_un hi, gUp_n _ _ (by omega), gUp_s, pk_un hi, gUp_n _ _ (by omega)]
    · unfold gSt rW
      rw [gUp_n _ _ (by omega), gUp_n _ _ (by omega), gUp_n _ _ (by omega), gUp_n _ _ (by omega)]
    · funext c0
      unfold gSt rW
      rw [gUp_n _ _ (by omega), gUp_n _ _ (by omega), gUp_n _ _ (by omega), gUp_n _ _ (by omega)]
  · rw [if_neg (show ¬ nI c = 14 from z_ne (y := 14) (by omega) (by omega) z), q_rem50 h2 h9 h11 (by omega)]
    refine ⟨_, rfl, ?_, ?_, fun i hi => ?_, fun c0 h0 h9 => ?_, fun g hg => ?_⟩
    · rw [st_n _ _ _ (by omega), rW_r]
      unfold dX
      rw [if_neg z]
    · unfold gSt cx
      rw [gUp_s, if_neg z]
      exact pk_us
    · unfold gSt rW
      rw [gUp_s, pk_un hi, gUp_n _ _ (by omega)]
    · unfold gSt rW
      rw [gUp_n _ _ (by omega), gUp_n _ _ (by omega)]
    · funext c0
      unfold gSt rW
      rw [gUp_n _ _ (by omega), gUp_n _ _ (by omega)]
/-- the places of the ring behind one more -/
theorem rg_x (hn : n < 14) (hc : c ≤ 14) {i : Nat} (hi : i < cx c) : (i + 1 = cx c ∧ rg (nx n) (cx c) i = 2 + n) ∨ (i + 1 < cx c ∧ rg (nx n) (cx c) i ≠ 2 + n ∧ (if c = 14 then i + 1 else i) < c ∧ rg (nx n) (cx c) i = rg n c (if c = 14 then i + 1 else i)) := by
  have hnx : nx n = n + 1 ∧ n < 13 ∨ nx n = 0 ∧ n = 13 := by
    unfold nx
    omega
  unfold rg
  by_cases z : c = 14
  · have : cx c = 14 := if_pos z
    rw [this] at hi ⊢
    rw [if_pos z]
    rcases hnx with ⟨h1, h2⟩ | ⟨h1, h2⟩ <;> omega
  · have : cx c = c + 1 := if_neg z
    rw [this] at hi ⊢
    rw [if_neg z]
    rcases hnx with ⟨h1, h2⟩ | ⟨h1, h2⟩ <;> omega
theorem rg_lt (n c i : Nat) : 2 ≤ rg n c i ∧ rg n c i < 16 := by
  unfold rg
  omega
theorem Er_0 (E : Nat → Nat → Nat → Nat) (n : Nat) : Er E n 0 = E 0 := fU_n _ _ (by omega)
theorem Er_s (E : Nat → Nat → Nat → Nat) (n s : Nat) (hn : n < 14) : Er E n (16 + s) = E (16 + s) := fU_n _ _ (by omega)
theorem IV.rem (h : IV k E n c u l t) : IV k (Er E n) (nx n) (cx c) u l t := by
  obtain ⟨hn, hc, hl, ht, hu, hJ, h0, hr, hs⟩ := h
  have hne : aG k (Er E n (2 + n)) := by
    unfold Er
    rw [fU_s]
    exact ⟨aV_cp (hJ (2 + n) (by omega)) h0.1, by rw [aCp_4]; exact h0.2⟩
  refine ⟨by unfold nx; omega, by unfold cx; split <;> omega, hl, ht, hu, fun e he => ?_, by rw [Er_0]; exact h0, fun i hi => ?_, fun s h2 hu => by rw [Er_s _ _ _ hn]; exact hs s h2 hu⟩
  · by_cases z : e = 2 + n
    · rw [z]
      exact hne.1.J
    · unfold Er
      rw [fU_n _ _ z]
      exact hJ e he
  · rcases rg_x hn hc hi with ⟨-, h2⟩ | ⟨-, h2, h3, h4⟩
    · rw [h2]
      exact hne
    · unfold Er
      rw [fU_n _ _ h2, h4]
      exact hr _ h3
theorem IM.rem (h : IM W E n c u l t r d q) (hV : IV k E n c u l t) : ∃ W', f_Mo_remember W = some W' ∧ IM W' (Er E n) (nx n) (cx c) u l t r (dX d r c) q ∧ W' 19 0 0 = W 19 0 0 ∧ ∀ g, g ≠ 19 → W' g = W g := by
  obtain ⟨hn, hc, hl, ht, hu, hJ, h0, hr, hs⟩ := hV
  obtain ⟨m2, m9, m10, mR, mD, mK, m11, mu, ml, mt⟩ := h
  obtain ⟨W', e1, e2, e3, e4, e5, e6⟩ := q_remember m2 m9 m11 hc
  refine ⟨W', e1, ⟨(e5 2 (by omega) (by omega)).trans m2, e2, (e5 10 (by omega) (by omega)).trans m10, by rw [Er_0]; exact mR, fun i hi => ?_, fun s h2 h3 => by rw [Er_s _ _ _ hn]; exact mK s h2 h3, e3, fun s h2 => (congrFun (e5 11 (by omega) (by omega)) s).trans (mu s h2), (e4 2 (by omega)).trans ml, fun j hj => (congrFun (e5 1 (by omega) (by omega)) j).trans (mt j hj)⟩, e4 0 (by omega), e6⟩
  rcases rg_x hn hc hi with ⟨h1, h2⟩ | ⟨h1, h2, h3, h4⟩
  · rw [h2]
    unfold Er
    rw [fU_s]
    refine RM_cong (r := r) (by rw [(aCp_eq _ _).2.1]; exact h0.1.O.2.1) (fun j hj => ?_) (RM_cp _ h0.1 mR)
    unfold dX
    by_cases z : c = 14
    · have : cx c = 14 := if_pos z
      rw [if_pos z]
      unfold rCp
      rw [if_pos (by omega)]
      refine congrArg r ?_
      omega
    · have : cx c = c + 1 := if_neg z
      rw [if_neg z]
      unfold rCp
      rw [if_pos (by omega)]
      refine congrArg r ?_
      omega
  · unfold Er
    rw [fU_n _ _ h2, h4]
    refine RM_cong (hr _ h3).1.O.2.1 (fun j hj => ?_) (mD _ h3)
    unfold dX
    by_cases z : c = 14
    · have : cx c = 14 := if_pos z
      rw [if_pos z, if_pos z]
      unfold rCp dSh
      rw [if_neg (by omega), if_pos (by omega)]
      refine congrArg d ?_
      omega
    · have : cx c = c + 1 := if_neg z
      rw [if_neg z, if_neg z]
      unfold rCp
      rw [if_neg (by omega)]
end REM
