-- ===== PURE: an object's state, and what its calls do to it =====
abbrev EVN := Nat → Nat → Nat
/-- the evening; how many are remembered, which (0: the newest); the slots: used, what they hold -/
abbrev SS := EVN × Nat × (Nat → EVN) × (Nat → Nat) × (Nat → EVN)
def DI (M : gMem) (S : SS) : Prop := ∃ (E : Nat → EVN) (n : Nat), IC M E n S.2.1 S.2.2.2.1 0 (fun _ => 0) ∧ n < 14 ∧ S.2.1 ≤ 14 ∧ E 0 = S.1 ∧ (∀ j, j < S.2.1 → E (rg n S.2.1 (S.2.1 - 1 - j)) = S.2.2.1 j) ∧ (∀ s, s < 2 → S.2.2.2.1 s ≤ 1 ∧ (S.2.2.2.1 s = 1 → E (16 + s) = S.2.2.2.2 s)) ∧ ∀ e, e < 18 → aZ (E e)
def DV (B : Nat) (S : SS) : Prop := gX B S.1 ∧ (∀ j, j < S.2.1 → gX B (S.2.2.1 j)) ∧ (∀ s, s < 2 → S.2.2.2.1 s = 1 → gX B (S.2.2.2.2 s)) ∧ S.2.1 ≤ 14
def FR (M M' : gMem) : Prop := ∀ g, 19 ≤ g → M' g = M g
def DO (f : gMem → Option (Int32 × gMem)) (S : SS) (v : Int32) (S' : SS) : Prop := ∀ M, DI M S → ∃ M', f M = some (v, M') ∧ DI M' S' ∧ FR M M'
def pu (a : EVN) (T : Nat → EVN) : Nat → EVN
  | 0 => a
  | j + 1 => T j
def sPush (S : SS) (b : EVN) : SS := (b, cx S.2.1, pu S.1 S.2.2.1, S.2.2.2)
def sPop (S : SS) : SS := (S.2.2.1 0, S.2.1 - 1, fun j => S.2.2.1 (j + 1), S.2.2.2)
def sKeep (S : SS) (s : Nat) : SS := (S.1, S.2.1, S.2.2.1, fU S.2.2.2.1 s 1, fU S.2.2.2.2 s S.1)
def sBack (S : SS) (s : Nat) : SS := (S.2.2.2.2 s, 0, S.2.2.1, S.2.2.2)
section ST
variable {M M' : gMem} {S S' S2 : SS} {B k s : Nat} {v v2 : Int32} {a b : EVN} {f : gMem → Option (Int32 × gMem)} {g : Int32 → gMem → Option (Int32 × gMem)}
theorem FR.tr {M2 : gMem} (h : FR M M') (h2 : FR M' M2) : FR M M2 := fun g hg => (h2 g hg).trans (h g hg)
theorem DV.up {B' : Nat} (h : DV B S) (hB : B ≤ B') : DV B' S := ⟨h.1.up hB, fun j hj => (h.2.1 j hj).up hB, fun s hs hu => (h.2.2.1 s hs hu).up hB, h.2.2.2⟩
theorem DI.same (h : DI M S) (hM : ∀ g, g ≤ 18 → M' g = M g) : DI M' S := by
  obtain ⟨E, n, h1, h2⟩ := h
  exact ⟨E, n, h1.c18 hM, h2⟩
/-- cells that nobody looks at between calls are changed -/
theorem DI.oc (h : DI M S) (hM : ∀ g c, ¬ (g = 18 ∧ (c = 8 ∨ c = 9 ∨ c = 10)) → M' g c = M g c) : DI M' S := by
  obtain ⟨E, n, h1, h2⟩ := h
  refine ⟨E, n, ⟨fun e he => ?_, ?_, ?_, fun s hs => ?_, ?_, fun j hj => ?_⟩, h2⟩
  · rw [← h1.1 e he]
    exact funext fun c => hM e c (by omega)
  · rw [hM 18 1 (by omega)]; exact h1.2.1
  · rw [hM 18 1 (by omega)]; exact h1.2.2.1
  · rw [hM 18 5 (by omega)]; exact h1.2.2.2.1 s hs
  · rw [hM 18 6 (by omega)]; exact h1.2.2.2.2.1
  · rw [hM 18 7 (by omega)]; exact h1.2.2.2.2.2 j hj
theorem FR.oc (hM : ∀ g c, ¬ (g = 18 ∧ (c = 8 ∨ c = 9 ∨ c = 10)) → M' g c = M g c) : FR M M' := fun g hg => funext fun c => hM g c (by omega)
theorem DI.now (h : DI M S) : M 0 = eN S.1 := by
  obtain ⟨E, n, h1, -, -, h4, -⟩ := h
  rw [← h4]
  exact h1.1 0 (by omega)
theorem DO.seq (h : DO f S v S') (h2 : DO (g v) S' v2 S2) : DO (fun M => (f M).bind fun q => g q.1 q.2) S v2 S2 := by
  intro M hM
  obtain ⟨M1, e1, h3, h4⟩ := h M hM
  obtain ⟨M2, e2, h5, h6⟩ := h2 M1 h3
  refine ⟨M2, ?_, h5, h4.tr h6⟩
  show (f M).bind _ = _
  rw [e1, pB]
  exact e2
theorem DO.rd (h : ∀ M, DI M S → f M = some (v, M)) : DO f S v S := fun M hM => ⟨M, h M hM, hM, fun _ _ => rfl⟩
/-- the state is remembered; what becomes of the evening then -/
theorem d_push (h : DI M S) : ∃ Mc, f_Mem_remember 0 M = some Mc ∧ Mc 0 = eN S.1 ∧ (∀ b, aZ b → DI (aW Mc 0 b) (sPush S b)) ∧ FR M Mc := by
  obtain ⟨E, n, h1, hn, hc, h4, h5, h6, h7⟩ := h
  obtain ⟨Mc, e1, e2, e3⟩ := p_remember h1 hn hc
  have z0 : E 0 = Er E n 0 := (Er_0 E n).symm
  have ecp : aCp (E (2 + n)) (E 0) = E 0 := aZ_cp (h7 _ (by omega)) (h7 0 (by omega))
  refine ⟨Mc, e1, ?_, fun b hb => ?_, e3⟩
  · have := e2.1 0 (by omega)
    rwa [Er_0, h4] at this
  · refine ⟨fU (Er E n) 0 b, nx n, e2.ev (by omega), by unfold nx; omega, ?_, fU_s _ _ _, fun j hj => ?_, fun s hs => ⟨(h6 s hs).1, fun hu => ?_⟩, fun e he => ?_⟩
    · show cx S.2.1 ≤ 14
      unfold cx
      split <;> omega
    · have hj' : j < cx S.2.1 := hj
      show fU (Er E n) 0 b (rg (nx n) (cx S.2.1) (cx S.2.1 - 1 - j)) = pu S.1 S.2.2.1 j
      have hr := rg_lt (nx n) (cx S.2.1) (cx S.2.1 - 1 - j)
      rw [fU_n _ _ (by omega)]
      rcases rg_x hn hc (i := cx S.2.1 - 1 - j) (by omega) with ⟨q1, q2⟩ | ⟨q1, q2, q3, q4⟩
      · rw [q2]
        unfold Er
        rw [fU_s, ecp, h4, show j = 0 by omega]
        rfl
      · unfold Er
        rw [fU_n _ _ q2, q4]
        obtain ⟨i, rfl⟩ : ∃ i, j = i + 1 := ⟨j - 1, by omega⟩
        show _ = S.2.2.1 i
        have hcx : cx S.2.1 = if S.2.1 = 14 then 14 else S.2.1 + 1 := rfl
        have hi : (if S.2.1 = 14 then cx S.2.1 - 1 - (i + 1) + 1 else cx S.2.1 - 1 - (i + 1)) = S.2.1 - 1 - i := by
          split at hcx <;> rename_i q
          · rw [if_pos q]; omega
          · rw [if_neg q]; omega
        rw [hi] at q3 ⊢
        refine h5 i ?_
        split at hcx <;> omega
    · show fU (Er E n) 0 b (16 + s) = _
      rw [fU_n _ _ (by omega), Er_s _ _ _ hn]
      exact (h6 s hs).2 hu
    · by_cases z : e = 0
      · rw [z, fU_s]; exact hb
      · rw [fU_n _ _ z]
        unfold Er
        by_cases z2 : e = 2 + n
        · rw [z2, fU_s, ecp]; exact h7 0 (by omega)
        · rw [fU_n _ _ z2]; exact h7 e he
theorem DV.push (h : DV B S) (hb : gX (B + 1) b) : DV (B + 1) (sPush S b) := by
  obtain ⟨h1, h2, h3, h4⟩ := h
  refine ⟨hb, fun j hj => ?_, fun s hs hu => (h3 s hs hu).up (by omega), ?_⟩
  · have hj' : j < cx S.2.1 := hj
    cases j with
    | zero => exact h1.up (by omega)
    | succ j =>
      refine (h2 j ?_).up (by omega)
      unfold cx at hj'
      split at hj' <;> omega
  · show cx S.2.1 ≤ 14
    unfold cx
    split <;> omega
theorem DV.pop (h : DV B S) (hc : S.2.1 ≠ 0) : DV B (sPop S) :=
  ⟨h.2.1 0 (by omega), fun j hj => h.2.1 (j + 1) (by have : j < S.2.1 - 1 := hj; omega), h.2.2.1, by have := h.2.2.2; show S.2.1 - 1 ≤ 14; omega⟩
theorem DV.keep (h : DV B S) : DV B (sKeep S s) := by
  refine ⟨h.1, h.2.1, fun i hi hu => ?_, h.2.2.2⟩
  show gX B (fU S.2.2.2.2 s S.1 i)
  have hu' : fU S.2.2.2.1 s 1 i = 1 := hu
  by_cases z : i = s
  · rw [z, fU_s]; exact h.1
  · rw [fU_n _ _ z] at hu' ⊢
    exact h.2.2.1 i hi hu'
theorem DV.back (h : DV B S) (hs : s < 2) (hu : S.2.2.2.1 s = 1) : DV B (sBack S s) :=
  ⟨h.2.2.1 s hs hu, fun j hj => absurd (show j < 0 from hj) (by omega), h.2.2.1, Nat.zero_le _⟩
-- what the law's own call answers
theorem bind_eta {α β : Type} (o : Option (α × β)) : (o.bind fun q => some (q.1, q.2)) = o := by
  cases o <;> rfl
theorem k_call0 (M : gMem) (x y z : Int32) : f_Law_call M 0 x y z = f_Law_tryAppend M x := by
  unfold f_Law_call
  rw [if_pos (by decide)]
  exact bind_eta _
theorem k_call2 (M : gMem) (x y z : Int32) : f_Law_call M 2 x y z = f_Law_tryAbout M x := by
  unfold f_Law_call
  rw [if_neg (by decide), if_neg (by decide), if_pos (by decide)]
  exact bind_eta _
theorem k_call3 (M : gMem) (x y z : Int32) : f_Law_call M 3 x y z = f_Law_tryCard M x y := by
  unfold f_Law_call
  rw [if_neg (by decide), if_neg (by decide), if_neg (by decide), if_pos (by decide)]
  exact bind_eta _
theorem k_call4 (M : gMem) (x y z : Int32) : f_Law_call M 4 x y z = f_Law_tryTold M x y z := by
  unfold f_Law_call
  rw [if_neg (by decide), if_neg (by decide), if_neg (by decide), if_neg (by decide), if_pos (by decide)]
  exact bind_eta _
theorem k_call5 (M : gMem) (x y z : Int32) : f_Law_call M 5 x y z = f_Law_tryTrick M x := by
  unfold f_Law_call
  rw [if_neg (by decide), if_neg (by decide), if_neg (by decide), if_neg (by decide), if_neg (by decide), if_pos (by decide)]
  exact bind_eta _
theorem k_call6 (M : gMem) (x y z : Int32) : f_Law_call M 6 x y z = f_Law_tryBid M x y := by
  unfold f_Law_call
  rw [if_neg (by decide), if_neg (by decide), if_neg (by decide), if_neg (by decide), if_neg (by decide), if_neg (by decide), if_pos (by decide)]
  exact bind_eta _
theorem k_call7 (M : gMem) (x y z : Int32) : f_Law_call M 7 x y z = f_Law_tryPass M := by
  unfold f_Law_call
  rw [if_neg (by decide), if_neg (by decide), if_neg (by decide), if_neg (by decide), if_neg (by decide), if_neg (by decide), if_neg (by decide), if_pos (by decide)]
  exact bind_eta _
theorem k_call8 (M : gMem) (x y z : Int32) : f_Law_call M 8 x y z = f_Law_tryPlay M x := by
  unfold f_Law_call
  rw [if_neg (by decide), if_neg (by decide), if_neg (by decide), if_neg (by decide), if_neg (by decide), if_neg (by decide), if_neg (by decide), if_neg (by decide), if_pos (by decide)]
  exact bind_eta _
theorem k_call9 (M : gMem) (x y z : Int32) : f_Law_call M 9 x y z = f_Law_tryUndo M := by
  unfold f_Law_call
  rw [if_neg (by decide), if_neg (by decide), if_neg (by decide), if_neg (by decide), if_neg (by decide), if_neg (by decide), if_neg (by decide), if_neg (by decide), if_neg (by decide), if_pos (by decide)]
  exact bind_eta _
theorem k_call10 (M : gMem) (x y z : Int32) : f_Law_call M 10 x y z = f_Law_tryLegal M x := by
  unfold f_Law_call
  rw [if_neg (by decide), if_neg (by decide), if_neg (by decide), if_neg (by decide), if_neg (by decide), if_neg (by decide), if_neg (by decide), if_neg (by decide), if_neg (by decide), if_neg (by decide), if_pos (by decide)]
  exact bind_eta _
theorem k_call11 (M : gMem) (x y z : Int32) : f_Law_call M 11 x y z = f_Law_tryMost M x := by
  unfold f_Law_call
  rw [if_neg (by decide), if_neg (by decide), if_neg (by decide), if_neg (by decide), if_neg (by decide), if_neg (by decide), if_neg (by decide), if_neg (by decide), if_neg (by decide), if_neg (by decide), if_neg (by decide), if_pos (by decide)]
  exact bind_eta _
theorem k_call12 (M : gMem) (x y z : Int32) : f_Law_call M 12 x y z = f_Law_tryBest M := by
  unfold f_Law_call
  rw [if_neg (by decide), if_neg (by decide), if_neg (by decide), if_neg (by decide), if_neg (by decide), if_neg (by decide), if_neg (by decide), if_neg (by decide), if_neg (by decide), if_neg (by decide), if_neg (by decide), if_neg (by decide), if_pos (by decide)]
  exact bind_eta _
theorem k_call13 (M : gMem) (x y z : Int32) : f_Law_call M 13 x y z = f_Law_tryKeep M x := by
  unfold f_Law_call
  rw [if_neg (by decide), if_neg (by decide), if_neg (by decide), if_neg (by decide), if_neg (by decide), if_neg (by decide), if_neg (by decide), if_neg (by decide), if_neg (by decide), if_neg (by decide), if_neg (by decide), if_neg (by decide), if_neg (by decide), if_pos (by decide)]
  exact bind_eta _
theorem k_call14 (M : gMem) (x y z : Int32) : f_Law_call M 14 x y z = f_Law_tryBack M x := by
  unfold f_Law_call
  rw [if_neg (by decide), if_neg (by decide), if_neg (by decide), if_neg (by decide), if_neg (by decide), if_neg (by decide), if_neg (by decide), if_neg (by decide), if_neg (by decide), if_neg (by decide), if_neg (by decide), if_neg (by decide), if_neg (by decide), if_neg (by decide)]
  exact bind_eta _
end ST
