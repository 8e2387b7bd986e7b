-- ===== PURE: the text's commands, and where it is wrong: the class =====
def dgs (x : Nat) : Nat := if x = 98 ∨ x = 99 ∨ x = 100 then 2 else if x = 97 ∨ x = 112 then 0 else 9
def dOk (x : Nat) (first : Bool) (prev ch : Nat) : Bool :=
  if x = 98 then decide ((if first then 49 else 48) ≤ ch ∧ ch ≤ 52)
  else if x = 99 then decide (48 ≤ ch ∧ ch ≤ if first then 51 else if prev = 51 then 49 else 57)
  else if x = 100 then decide (48 ≤ ch ∧ ch ≤ 57) else false
/-- where the command at a place is wrong; 1000: nowhere -/
def cE (t : Nat → Nat) (l i : Nat) : Nat :=
  if dgs (t i) = 9 then i else if dgs (t i) = 0 then 1000
  else if ¬ (i + 1 < l ∧ dOk (t i) true 0 (t (i + 1)) = true) then i + 1
  else if ¬ (i + 2 < l ∧ dOk (t i) false (t (i + 1)) (t (i + 2)) = true) then i + 2 else 1000
def tE (t : Nat → Nat) (l : Nat) : Nat → Nat → Nat
  | 0, _ => 1000
  | f + 1, i => if l ≤ i then 1000 else if cE t l i = 1000 then tE t l f (i + 1 + dgs (t i)) else cE t l i
section PA
variable {M : gMem} {t : Nat → Nat} {l : Nat}
/-- the class's signs -/
def tx7 (M : gMem) (l : Nat) (t : Nat → Nat) : Prop := M 18 6 1 = nI l ∧ (∀ j, j < l → M 18 7 j = nI (t j)) ∧ l ≤ 120 ∧ ∀ j, j < l → t j ≤ 255
theorem at7 (h : tx7 M l t) {j : Nat} (hj : j < l) : f_DS_at 18 7 120 M (nI j) = some (nI (t j)) := by
  have h3 := h.2.2.1
  unfold f_DS_at
  rw [if_neg (nI_pos (by omega)), z_ofn, if_neg (nI_ge (by omega) (by omega)), pRd _ (by omega) (by omega), pB, h.2.1 j hj]
theorem at7_any (M : gMem) {j : Nat} (hj : j < 1000) : ∃ x, f_DS_at 18 7 120 M (nI j) = some x := by
  unfold f_DS_at
  rw [if_neg (nI_pos (by omega)), z_ofn]
  by_cases z : 120 ≤ j
  · rw [if_pos (nI_le z (by omega))]
    exact ⟨_, rfl⟩
  · rw [if_neg (nI_ge (by omega) (by omega)), pRd _ (by omega) (by omega), pB]
    exact ⟨_, rfl⟩
theorem p_dgs {x : Nat} (hx : x ≤ 255) : f_Wri_digitsBehind (nI x) = some (if dgs x = 9 then -1 else nI (dgs x)) := by
  have key : ∀ x : Fin 256, f_Wri_digitsBehind (nI x) = some (if dgs x = 9 then -1 else nI (dgs x)) := by
    intro x
    have n : ∀ y : Nat, y < 256 → ((x : Nat) = y ↔ nI x = nI y) := fun y hy => (z_inj (by omega) (by omega)).symm
    unfold f_Wri_digitsBehind dgs
    by_cases z1 : (x : Nat) = 97
    · rw [z1]; rfl
    by_cases z2 : (x : Nat) = 98
    · rw [z2]; rfl
    by_cases z3 : (x : Nat) = 99
    · rw [z3]; rfl
    by_cases z4 : (x : Nat) = 100
    · rw [z4]; rfl
    by_cases z5 : (x : Nat) = 112
    · rw [z5]; rfl
    rw [if_neg (show ¬ nI x = 97 from fun q => z1 ((n 97 (by omega)).mpr q)), if_neg (show ¬ nI x = 98 from fun q => z2 ((n 98 (by omega)).mpr q)), if_neg (show ¬ nI x = 99 from fun q => z3 ((n 99 (by omega)).mpr q)), if_neg (show ¬ nI x = 100 from fun q => z4 ((n 100 (by omega)).mpr q)), if_neg (show ¬ nI x = 112 from fun q => z5 ((n 112 (by omega)).mpr q)), if_neg (show ¬ ((x : Nat) = 98 ∨ (x : Nat) = 99 ∨ (x : Nat) = 100) by omega), if_neg (show ¬ ((x : Nat) = 97 ∨ (x : Nat) = 112) by omega)]
    rfl
  exact key ⟨x, by omega⟩
theorem p_between (h : tx7 M l t) {i lo hi : Nat} (hi' : i < l) (h1 : lo < 1000) (h2 : hi < 1000) : f_Wri_isBetween M (nI i) (nI lo) (nI hi) = some (nI (if lo ≤ t i ∧ t i ≤ hi then 1 else 0)) := by
  have ht := h.2.2.2 i hi'
  unfold f_Wri_isBetween
  rw [at7 h hi', pB]
  by_cases z : lo ≤ t i
  · rw [if_neg (nI_nlt z (by omega)), pB]
    by_cases z2 : t i ≤ hi
    · rw [if_neg (nI_nlt z2 (by omega)), if_pos ⟨z, z2⟩]; rfl
    · rw [if_pos (nI_lt (by omega) (by omega)), if_neg (fun q => z2 q.2)]; rfl
  · rw [if_pos (nI_lt (by omega) (by omega)), if_neg (fun q => z q.1)]; rfl
theorem bl_01 (c : Prop) [Decidable c] : gBl (nI (if c then 1 else 0)) = some (nI (if c then 1 else 0)) := by
  unfold gBl
  by_cases z : c
  · rw [if_pos z]; rfl
  · rw [if_neg z]; rfl
theorem p_digit (h : tx7 M l t) {s i : Nat} (hi : i < l) (hs : i = s + 1 ∨ i = s + 2) (hd : dgs (t s) = 2) : f_Wri_isDigitAllowed M (nI s) (nI i) = some (nI (if dOk (t s) (decide (i = s + 1)) (t (s + 1)) (t i) = true then 1 else 0)) := by
  have hl := h.2.2.1
  have h7 := at7 h (show s < l by omega)
  have b12 : ∀ f : Nat, f ≤ 1 → (f = 1 ↔ i = s + 1) → f_Wri_isDigitAllowed_b12 M (nI s) (nI i) (nI f) = some (nI (if dOk (t s) (decide (i = s + 1)) (t (s + 1)) (t i) = true then 1 else 0)) := by
    intro f hf hiff
    have hts : t s = 98 ∨ t s = 99 ∨ t s = 100 := by
      unfold dgs at hd
      by_cases z : t s = 98 ∨ t s = 99 ∨ t s = 100
      · exact z
      · rw [if_neg z] at hd
        split at hd <;> omega
    unfold f_Wri_isDigitAllowed_b12 f_Wri_isDigitAllowed_b124
    rw [h7, pB]
    rcases hts with z | z | z
    · rw [z, if_pos (show nI 98 = 98 from rfl)]
      unfold dOk
      rw [if_pos rfl]
      by_cases y : i = s + 1
      · rw [if_neg (show ¬ nI f = 0 by rw [hiff.mpr y]; decide), show (49 : Int32) = nI 49 from rfl, show (52 : Int32) = nI 52 from rfl, p_between h hi (by omega) (by omega), pB, bl_01, pB]
        congr 3
        rw [decide_eq_true y]
        simp
      · rw [if_pos (show nI f = 0 by rw [show f = 0 by omega]; rfl), show (48 : Int32) = nI 48 from rfl, show (52 : Int32) = nI 52 from rfl, p_between h hi (by omega) (by omega), pB, bl_01, pB]
        congr 3
        rw [decide_eq_false y]
        simp
    · rw [z, if_neg (show ¬ nI 99 = 98 by decide), if_pos (show nI 99 = 99 from rfl)]
      unfold dOk
      rw [if_neg (show ¬ 99 = 98 by decide), if_pos rfl]
      by_cases y : i = s + 1
      · rw [if_neg (show ¬ nI f = 0 by rw [hiff.mpr y]; decide), show (48 : Int32) = nI 48 from rfl, show (51 : Int32) = nI 51 from rfl, p_between h hi (by omega) (by omega), pB, bl_01, pB]
        congr 3
        rw [decide_eq_true y]
        simp
      · have y2 : i - 1 = s + 1 := by omega
        have ht := h.2.2.2 (s + 1) (by omega)
        rw [if_pos (show nI f = 0 by rw [show f = 0 by omega]; rfl), show (1 : Int32) = nI 1 from rfl, pk_sub (by omega), y2, at7 h (by omega), pB]
        by_cases w : t (s + 1) = 51
        · rw [if_pos (by rw [w]; rfl), show (48 : Int32) = nI 48 from rfl, show (49 : Int32) = nI 49 from rfl, p_between h hi (by omega) (by omega), pB, bl_01, pB]
          congr 3
          rw [decide_eq_false y, w]
          simp
        · rw [if_neg (show ¬ nI (t (s + 1)) = 51 from z_ne (y := 51) (by omega) (by omega) w), show (48 : Int32) = nI 48 from rfl, show (57 : Int32) = nI 57 from rfl, p_between h hi (by omega) (by omega), pB, bl_01, pB]
          congr 3
          rw [decide_eq_false y, if_neg w]
          simp
    · rw [z, if_neg (show ¬ nI 100 = 98 by decide), if_neg (show ¬ nI 100 = 99 by decide), if_pos (show nI 100 = 100 from rfl)]
      unfold dOk
      rw [if_neg (show ¬ 100 = 98 by decide), if_neg (show ¬ 100 = 99 by decide), if_pos rfl, show (48 : Int32) = nI 48 from rfl, show (57 : Int32) = nI 57 from rfl, p_between h hi (by omega) (by omega), pB, bl_01, pB]
      congr 3
      simp
  unfold f_Wri_isDigitAllowed
  rw [nI_1]
  by_cases y : i = s + 1
  · rw [if_pos (by rw [y])]
    exact b12 1 (by omega) ⟨fun _ => y, fun _ => rfl⟩
  · rw [if_neg (z_ne (by omega) (by omega) y)]
    exact b12 0 (by omega) ⟨fun q => absurd q (by omega), fun q => absurd q y⟩
theorem cE_ok {i : Nat} (h : cE t l i = 1000) (hi : i < l) (hl : l ≤ 120) : dgs (t i) = 0 ∨ dgs (t i) = 2 ∧ i + 2 < l ∧ dOk (t i) true 0 (t (i + 1)) = true ∧ dOk (t i) false (t (i + 1)) (t (i + 2)) = true := by
  unfold cE at h
  by_cases z : dgs (t i) = 9
  · rw [if_pos z] at h; omega
  · rw [if_neg z] at h
    by_cases z2 : dgs (t i) = 0
    · exact Or.inl z2
    · rw [if_neg z2] at h
      right
      by_cases z3 : i + 1 < l ∧ dOk (t i) true 0 (t (i + 1)) = true
      · rw [if_neg (fun q => q z3)] at h
        by_cases z4 : i + 2 < l ∧ dOk (t i) false (t (i + 1)) (t (i + 2)) = true
        · refine ⟨?_, z4.1, z3.2, z4.2⟩
          unfold dgs at z z2 ⊢
          (repeat' split) <;> first | rfl | (exfalso; simp_all)
        · rw [if_pos z4] at h; omega
      · rw [if_pos z3] at h; omega
theorem dOk_prev {x y z ch : Nat} : dOk x true y ch = dOk x true z ch := by
  unfold dOk
  rfl
theorem p_firstErr (h : tx7 M l t) : ∀ f i x1, i ≤ l → l ≤ i + f → f_Wri_firstError_l28 M (x1, 0, nI i) = some (if tE t l f i = 1000 then -1 else nI (tE t l f i)) := by
  have hl := h.2.2.1
  have ext : ∀ i x1, l ≤ i → i ≤ l → f_Wri_firstError_l28 M (x1, 0, nI i) = some (-1) := by
    intro i x1 h1 h2
    refine pLx ?_
    show f_Wri_firstError_s28 M x1 0 (nI i) = _
    unfold f_Wri_firstError_s28
    rw [h.1, if_pos (nI_le h1 (by omega)), if_pos rfl]
  intro f
  induction f with
  | zero =>
    intro i x1 h1 h2
    rw [ext i x1 (by omega) h1]
    unfold tE
    rw [if_pos rfl]
  | succ f ih =>
    intro i x1 h1 h2
    by_cases z : l ≤ i
    · rw [ext i x1 z h1]
      unfold tE
      rw [if_pos z, if_pos rfl]
    · have ht := h.2.2.2 i (by omega)
      have st : f_Wri_firstError_s28 M x1 0 (nI i) = if dgs (t i) = 9 then some (.inr (nI i)) else some (.inl (nI i, nI (dgs (t i)), nI (i + 1))) := by
        unfold f_Wri_firstError_s28 f_Wri_firstError_b78
        rw [h.1, if_neg (nI_ge (by omega) (by omega)), if_pos (by decide), at7 h (by omega), pB, p_dgs ht, pB]
        by_cases y : dgs (t i) = 9
        · rw [if_pos y, if_pos y, if_pos rfl]
        · rw [if_neg y, if_neg y, z_m1]
          have : dgs (t i) < 10 := by unfold dgs; (repeat' split) <;> omega
          rw [if_neg (z_ne (by omega) (by omega) (by omega)), nI_1]
      have go : ∀ {x : (Int32 × Int32 × Int32)}, f_Wri_firstError_s28 M x1 0 (nI i) = some (.inl x) → f_Wri_firstError_l28 M (x1, 0, nI i) = f_Wri_firstError_l28 M x := fun e => pLp (step := fun s => f_Wri_firstError_s28 M s.1 s.2.1 s.2.2) (s := (x1, 0, nI i)) e
      have fin : ∀ {x}, f_Wri_firstError_s28 M x1 0 (nI i) = some (.inr x) → f_Wri_firstError_l28 M (x1, 0, nI i) = some x := fun e => pLx (step := fun s => f_Wri_firstError_s28 M s.1 s.2.1 s.2.2) (s := (x1, 0, nI i)) e
      have uE : tE t l (f + 1) i = if cE t l i = 1000 then tE t l f (i + 1 + dgs (t i)) else cE t l i := by
        show (if l ≤ i then 1000 else _) = _
        rw [if_neg z]
      rw [uE]
      by_cases y : dgs (t i) = 9
      · have : cE t l i = i := by unfold cE; rw [if_pos y]
        rw [if_pos y] at st
        rw [fin st, this, if_neg (show ¬ i = 1000 by omega), if_neg (show ¬ i = 1000 by omega)]
      · rw [if_neg y] at st
        by_cases y0 : dgs (t i) = 0
        · have : cE t l i = 1000 := by unfold cE; rw [if_neg y, if_pos y0]
          rw [go st, this, if_pos rfl, y0]
          exact ih (i + 1) (nI i) (by omega) (by omega)
        · have y2 : dgs (t i) = 2 := by
            unfold dgs at y y0 ⊢
            (repeat' split) <;> first | rfl | (exfalso; simp_all)
          rw [y2] at st
          have sd : ∀ (k due : Nat), (k = i + 1 ∧ due = 2) ∨ (k = i + 2 ∧ due = 1) → f_Wri_firstError_s28 M (nI i) (nI due) (nI k) = if ¬ (k < l ∧ dOk (t i) (decide (k = i + 1)) (t (i + 1)) (t k) = true) then some (.inr (nI (if k < l then k else l))) else some (.inl (nI i, nI (due - 1), nI (k + 1))) := by
            intro k due hk
            unfold f_Wri_firstError_s28 f_Wri_firstError_b78
            rw [h.1]
            by_cases w : k < l
            · rw [if_neg (nI_ge w (by omega)), if_neg (show ¬ nI due ≤ 0 from nI_ge (a := 0) (by omega) (by omega)), p_digit h w (by omega) y2, pB]
              by_cases w2 : dOk (t i) (decide (k = i + 1)) (t (i + 1)) (t k) = true
              · rw [if_pos w2, if_neg (by decide), if_neg (fun q => q ⟨w, w2⟩), nI_1, show nI due + -1 = nI (due - 1) from by
                  rcases hk with ⟨-, rfl⟩ | ⟨-, rfl⟩ <;> decide]
              · rw [if_neg w2, if_pos (by decide), if_pos (fun q => w2 q.2), if_pos w]
            · rw [if_pos (nI_le (by omega) (by omega)), if_neg (show ¬ nI due = 0 from z_ne (y := 0) (by omega) (by omega) (by omega)), if_pos (fun q => w q.1), if_neg w]
          have s1 := sd (i + 1) 2 (Or.inl ⟨rfl, rfl⟩)
          have s2 := sd (i + 2) 1 (Or.inr ⟨rfl, rfl⟩)
          rw [decide_eq_true rfl, dOk_prev (z := 0)] at s1
          rw [decide_eq_false (show ¬ i + 2 = i + 1 by omega)] at s2
          have uc : cE t l i = if ¬ (i + 1 < l ∧ dOk (t i) true 0 (t (i + 1)) = true) then i + 1 else if ¬ (i + 2 < l ∧ dOk (t i) false (t (i + 1)) (t (i + 2)) = true) then i + 2 else 1000 := by
            unfold cE
            rw [if_neg y, if_neg y0]
          rw [go st]
          by_cases w1 : i + 1 < l ∧ dOk (t i) true 0 (t (i + 1)) = true
          · rw [if_neg (fun q => q w1)] at s1 uc
            rw [show f_Wri_firstError_l28 M (nI i, nI 2, nI (i + 1)) = f_Wri_firstError_l28 M (nI i, nI (2 - 1), nI (i + 1 + 1)) from pLp (step := fun s => f_Wri_firstError_s28 M s.1 s.2.1 s.2.2) (s := (nI i, nI 2, nI (i + 1))) s1]
            by_cases w2 : i + 2 < l ∧ dOk (t i) false (t (i + 1)) (t (i + 2)) = true
            · rw [if_neg (fun q => q w2)] at s2 uc
              rw [show f_Wri_firstError_l28 M (nI i, nI (2 - 1), nI (i + 1 + 1)) = f_Wri_firstError_l28 M (nI i, nI (1 - 1), nI (i + 2 + 1)) from pLp (step := fun s => f_Wri_firstError_s28 M s.1 s.2.1 s.2.2) (s := (nI i, nI 1, nI (i + 2))) s2]
              rw [uc, if_pos rfl, y2]
              exact ih (i + 2 + 1) (nI i) (by omega) (by omega)
            · rw [if_pos w2] at s2 uc
              rw [show f_Wri_firstError_l28 M (nI i, nI (2 - 1), nI (i + 1 + 1)) = some (nI (if i + 2 < l then i + 2 else l)) from pLx (step := fun s => f_Wri_firstError_s28 M s.1 s.2.1 s.2.2) (s := (nI i, nI 1, nI (i + 2))) s2]
              rw [uc, if_neg (show ¬ i + 2 = 1000 by omega), if_neg (show ¬ i + 2 = 1000 by omega), show (if i + 2 < l then i + 2 else l) = i + 2 by split <;> omega]
          · rw [if_pos w1] at s1 uc
            rw [show f_Wri_firstError_l28 M (nI i, nI 2, nI (i + 1)) = some (nI (if i + 1 < l then i + 1 else l)) from pLx (step := fun s => f_Wri_firstError_s28 M s.1 s.2.1 s.2.2) (s := (nI i, nI 2, nI (i + 1))) s1]
            rw [uc, if_neg (show ¬ i + 1 = 1000 by omega), if_neg (show ¬ i + 1 = 1000 by omega), show (if i + 1 < l then i + 1 else l) = i + 1 by split <;> omega]
/-- where the text is wrong; 1000: nowhere -/
def tW (t : Nat → Nat) (l : Nat) : Nat := if l = 0 then 0 else if t 0 = 86 then tE t l l 1 else 0
theorem p_firstError (h : tx7 M l t) : f_Wri_firstError M = some (if tW t l = 1000 then -1 else nI (tW t l)) := by
  have hl := h.2.2.1
  unfold f_Wri_firstError tW
  rw [h.1]
  by_cases z : l = 0
  · rw [if_pos (by rw [z]; rfl), if_pos z, if_neg (by omega)]
    rfl
  · have ht := h.2.2.2 0 (by omega)
    rw [if_neg (show ¬ nI l = 0 from z_ne (y := 0) (by omega) (by omega) z), if_neg z, show f_DS_at 18 7 120 M 0 = some (nI (t 0)) from at7 h (show 0 < l by omega), pB]
    by_cases y : t 0 = 86
    · rw [if_pos (by rw [y]; rfl), if_pos y]
      exact p_firstErr h l 1 0 (by omega) (by omega)
    · rw [if_neg (show ¬ nI (t 0) = 86 from z_ne (y := 86) (by omega) (by omega) y), if_neg y, if_neg (by omega)]
      rfl
end PA
