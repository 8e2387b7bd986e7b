-- ===== PURE: a state is remembered: the ring and the diary =====
theorem pLm {σ ρ : Type} {step : σ → Option (σ ⊕ ρ)} {s : σ} {o : Option ρ} (h : step s = o.map Sum.inr) : gLp step s = o := by
  cases o with
  | none =>
    rw [gLp_eq, h]
    rfl
  | some r => exact pLx h
section REM
variable {M M' W : gMem} {E : Nat → Nat → Nat → Nat} {n c k n' c' : Nat} {u : Nat → Nat} {l : Nat} {t r d q r' d' : Nat → Nat} {a : Nat → Nat → Nat} {e : Nat}
theorem IC.c18 (h : IC M E n c u l t) (hM : ∀ g, g ≤ 18 → M' g = M g) : IC M' E n c u l t := by
  have h18 := hM 18 (by omega)
  unfold IC
  rw [h18]
  exact ⟨fun e he => (hM e (by omega)).trans (h.1 e he), h.2⟩
theorem aW_n2 (M : gMem) {e g : Nat} (a : Nat → Nat → Nat) (c : Nat) (h : g ≠ e) : aW M e a g c = M g c := congrFun (aW_n M a h) c
theorem IC.ev (h : IC M E n c u l t) (he : e < 18) : IC (aW M e a) (fU E e a) n c u l t := by
  have h18 : aW M e a 18 = M 18 := aW_n M a (by omega)
  unfold IC
  rw [h18]
  refine ⟨fun i hi => ?_, h.2⟩
  by_cases z : i = e
  · subst z
    rw [fU_s]
    unfold aW
    rw [eUp_s]
  · rw [fU_n _ _ z, aW_n M a z]
    exact h.1 i hi
theorem IC.st (h : IC M E n c u l t) (j : Nat) (x : Int32) (h1 : j = 1 → x = nI n') (h2 : j = 2 → x = nI c') (h3 : j ≠ 1 → n' = n) (h4 : j ≠ 2 → c' = c) : IC (gSt M 18 1 j x) E n' c' u l t := by
  refine ⟨fun e he => (funext fun c => gUp_n _ _ (by omega)).trans (h.1 e he), ?_, ?_, fun s hs => ?_, ?_, fun i hi => ?_⟩
  · unfold gSt
    rw [gUp_s]
    by_cases z : j = 1
    · rw [z, pk_us, ← h1 z]
    · rw [pk_un (by omega), h3 z]
      exact h.2.1
  · unfold gSt
    rw [gUp_s]
    by_cases z : j = 2
    · rw [z, pk_us, ← h2 z]
    · rw [pk_un (by omega), h4 z]
      exact h.2.2.1
  · unfold gSt
    rw [gUp_n _ _ (by omega)]
    exact h.2.2.2.1 s hs
  · unfold gSt
    rw [gUp_n _ _ (by omega)]
    exact h.2.2.2.2.1
  · unfold gSt
    rw [gUp_n _ _ (by omega)]
    exact h.2.2.2.2.2 i hi
/-- the ring behind one more -/
def nx (n : Nat) : Nat := (n + 1) % 14
def cx (c : Nat) : Nat := if c = 14 then 14 else c + 1
def Er (E : Nat → Nat → Nat → Nat) (n : Nat) : Nat → Nat → Nat → Nat := fU E (2 + n) (aCp (E (2 + n)) (E 0))
theorem p_remember (h : IC M E n c u l t) (hn : n < 14) (hc : c ≤ 14) : ∃ Mc, f_Mem_remember 0 M = some Mc ∧ IC Mc (Er E n) (nx n) (cx c) u l t ∧ ∀ g, 19 ≤ g → Mc g = M g := by
  have e1 : f_Ev_copyFrom (2 + n) 0 M = some (aW M (2 + n) (aCp (E (2 + n)) (E 0))) := by
    have g := p_copyFrom (M := M) (e := 2 + n) (e0 := 0) (a := E (2 + n)) (by omega) (h.1 0 (by omega))
    rwa [aW_self (h.1 (2 + n) (by omega))] at g
  have hc1 := h.ev (e := 2 + n) (a := aCp (E (2 + n)) (E 0)) (by omega)
  have hc2 := hc1.st (n' := nx n) (c' := c) 1 (nI (nx n)) (fun _ => rfl) (fun z => absurd z (by omega)) (fun z => absurd rfl z) (fun _ => rfl)
  have hc3 := hc2.st (n' := nx n) (c' := cx c) 2 (nI (cx c)) (fun z => absurd z (by omega)) (fun _ => rfl) (fun _ => rfl) (fun z => absurd rfl z)
  refine ⟨_, ?_, hc3, fun g hg => ?_⟩
  · unfold f_Mem_remember f_Mem_store
    rw [h.2.1, if_neg (nI_pos (by omega)), z_ofn, if_neg (nI_ge hn (by omega))]
    unfold gIn
    rw [pN (by omega), if_pos (by omega), pNc (by omega), pB, pB, e1, pB, pB]
    unfold gSO
    rw [pB, hc1.2.1, nI_1, show (14 : Int32) = nI 14 from rfl, z_rem (by omega) (by omega) (by omega)]
    rw [pB, show (n + 1) % 14 = nx n from rfl, hc2.2.2.1, nI_1]
    have e2 : (if nI 14 < nI (c + 1) then nI 14 else nI (c + 1)) = nI (cx c) := by
      unfold cx
      by_cases z : c = 14
      · rw [if_pos (nI_lt (by omega) (by omega)), if_pos z]
      · rw [if_neg (nI_nlt (by omega) (by omega)), if_neg z]
    rw [e2]
  · unfold gSt
    funext c0
    rw [gUp_n _ _ (by omega), gUp_n _ _ (by omega), aW_n2 _ _ _ (by omega)]
/-- the diary, all rows down by one -/
def dSh (d : Nat → Nat) (i : Nat) : Nat → Nat := fun j => if j < i then d (j + 197) else d j
def dX (d r : Nat → Nat) (c : Nat) : Nat → Nat := if c = 14 then rCp r (dSh d 2561) 0 2561 197 else rCp r d 0 (197 * c) 197
/-- the places of the ring behind one more -/
theorem rg_x (hn : n < 14) (hc : c ≤ 14) {i : Nat} (hi : i < cx c) : (i + 1 = cx c ∧ rg (nx n) (cx c) i = 2 + n) ∨ (i + 1 < cx c ∧ rg (nx n) (cx c) i ≠ 2 + n ∧ (if c = 14 then i + 1 else i) < c ∧ rg (nx n) (cx c) i = rg n c (if c = 14 then i + 1 else i)) := by
  have hnx : nx n = n + 1 ∧ n < 13 ∨ nx n = 0 ∧ n = 13 := by
    unfold nx
    omega
  unfold rg
  by_cases z : c = 14
  · have : cx c = 14 := if_pos z
    rw [this] at hi ⊢
    rw [if_pos z]
    rcases hnx with ⟨h1, h2⟩ | ⟨h1, h2⟩ <;> omega
  · have : cx c = c + 1 := if_neg z
    rw [this] at hi ⊢
    rw [if_neg z]
    rcases hnx with ⟨h1, h2⟩ | ⟨h1, h2⟩ <;> omega
theorem rg_lt (n c i : Nat) : 2 ≤ rg n c i ∧ rg n c i < 16 := by
  unfold rg
  omega
theorem Er_0 (E : Nat → Nat → Nat → Nat) (n : Nat) : Er E n 0 = E 0 := fU_n _ _ (by omega)
theorem Er_s (E : Nat → Nat → Nat → Nat) (n s : Nat) (hn : n < 14) : Er E n (16 + s) = E (16 + s) := fU_n _ _ (by omega)
theorem IV.rem (h : IV k E n c u l t) : IV k (Er E n) (nx n) (cx c) u l t := by
  obtain ⟨hn, hc, hl, ht, hu, hJ, h0, hr, hs⟩ := h
  have hne : aG k (Er E n (2 + n)) := by
    unfold Er
    rw [fU_s]
    exact ⟨aV_cp (hJ (2 + n) (by omega)) h0.1, by rw [aCp_4]; exact h0.2⟩
  refine ⟨by unfold nx; omega, by unfold cx; split <;> omega, hl, ht, hu, fun e he => ?_, by rw [Er_0]; exact h0, fun i hi => ?_, fun s h2 hu => by rw [Er_s _ _ _ hn]; exact hs s h2 hu⟩
  · by_cases z : e = 2 + n
    · rw [z]
      exact hne.1.J
    · unfold Er
      rw [fU_n _ _ z]
      exact hJ e he
  · rcases rg_x hn hc hi with ⟨-, h2⟩ | ⟨-, h2, h3, h4⟩
    · rw [h2]
      exact hne
    · unfold Er
      rw [fU_n _ _ h2, h4]
      exact hr _ h3
end REM
