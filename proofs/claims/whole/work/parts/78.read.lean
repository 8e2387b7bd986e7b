-- ===== PURE: the text's commands: the model =====
def WT (W0 W : gMem) (i o : Nat) (r : Nat → Nat) : Prop := W 19 3 = (fun j => nI (r j)) ∧ W 19 0 14 = nI i ∧ W 19 0 15 = nI o ∧ (∀ g c, ¬ (g = 19 ∧ (c = 0 ∨ c = 3 ∨ c = 8)) → W g c = W0 g c) ∧ (∀ j, j ≠ 14 → j ≠ 15 → W 19 0 j = W0 19 0 j)
def tx1 (W : gMem) (l : Nat) (t : Nat → Nat) : Prop := W 19 0 2 = nI l ∧ (∀ j, j < l → W 19 1 j = nI (t j)) ∧ l ≤ 120 ∧ ∀ j, j < l → t j ≤ 255
/-- what a command does -/
def cHi (t : Nat → Nat) (i : Nat) : Nat := t (i + 1) - 48
def cLo (t : Nat → Nat) (i : Nat) : Nat := t (i + 2) - 48
def cTwo (t : Nat → Nat) (i : Nat) : Nat := 10 * cHi t i + cLo t i
def cA (t : Nat → Nat) (i : Nat) (a : Nat → Nat → Nat) : Nat → Nat → Nat :=
  if t i = 97 then aA1 a
  else if t i = 98 then (if a 0 5 = 1 ∧ 5 * a 0 7 + a 0 8 < 5 * cHi t i + cLo t i then aBid a (cHi t i) (cLo t i) else a)
  else if t i = 99 then (if a 0 5 = 2 ∧ aRs a (cTwo t i) = 0 then aLay a (cTwo t i) else a)
  else if t i = 100 then aDeal a (Int32.toInt64 (nI (cTwo t i)))
  else (if a 0 5 = 1 then aPass a else a)
/-- whether it is left out -/
def cF (t : Nat → Nat) (i : Nat) (a : Nat → Nat → Nat) : Nat :=
  if t i = 97 then 0
  else if t i = 98 then (if a 0 5 = 1 ∧ 5 * a 0 7 + a 0 8 < 5 * cHi t i + cLo t i then 0 else 1)
  else if t i = 99 then (if a 0 5 = 2 ∧ aRs a (cTwo t i) = 0 then 0 else 1)
  else if t i = 100 then 0
  else (if a 0 5 = 1 then 0 else 1)
section RD2
variable {W0 W W1 : gMem} {i o l : Nat} {r r' t : Nat → Nat} {a : Nat → Nat → Nat}
theorem WT.tx (h : WT W0 W i o r) (ht : tx1 W0 l t) : tx1 W l t := ⟨(h.2.2.2.2 2 (by omega) (by omega)).trans ht.1, fun j hj => by rw [h.2.2.2.1 19 1 (by omega)]; exact ht.2.1 j hj, ht.2.2.1, ht.2.2.2⟩
theorem WT.spot (h : WT W0 W i o r) (i' : Nat) : WT W0 (gSt W 19 0 14 (nI i')) i' o r := by
  refine ⟨(st_n _ _ _ (by omega)).trans h.1, ?_, ?_, fun g c hg => (st_n _ _ _ (by omega)).trans (h.2.2.2.1 g c hg), fun j h1 h2 => ?_⟩
  · unfold gSt; rw [gUp_s]; exact pk_us
  · unfold gSt; rw [gUp_s, pk_un (by omega)]; exact h.2.2.1
  · unfold gSt; rw [gUp_s, pk_un h1]; exact h.2.2.2.2 j h1 h2
theorem WT.out (h : WT W0 W i o r) (o' : Nat) : WT W0 (gSt W 19 0 15 (nI o')) i o' r := by
  refine ⟨(st_n _ _ _ (by omega)).trans h.1, ?_, ?_, fun g c hg => (st_n _ _ _ (by omega)).trans (h.2.2.2.1 g c hg), fun j h1 h2 => ?_⟩
  · unfold gSt; rw [gUp_s, pk_un (by omega)]; exact h.2.1
  · unfold gSt; rw [gUp_s]; exact pk_us
  · unfold gSt; rw [gUp_s, pk_un h2]; exact h.2.2.2.2 j h1 h2
theorem WT.op (h : WT W0 W i o r) (h8 : W8 W W1) : WT W0 (rW W1 3 r') i o r' := by
  have e0 : rW W1 3 r' 19 0 = W 19 0 := by
    unfold rW
    rw [gUp_n _ _ (by omega), h8 19 0 (by omega)]
  refine ⟨rW_r _ _ _, (congrFun e0 14).trans h.2.1, (congrFun e0 15).trans h.2.2.1, fun g c hg => ?_, fun j h1 h2 => (congrFun e0 j).trans (h.2.2.2.2 j h1 h2)⟩
  unfold rW
  rw [gUp_n _ _ (by omega), h8 g c (by omega)]
  exact h.2.2.2.1 g c hg
/-- one digit -/
def fOk (t : Nat → Nat) (l i lo hi v un : Nat) : Prop := i < l ∧ 48 ≤ t i ∧ t i ≤ 57 ∧ v + (t i - 48) * un ≤ hi ∧ lo + 1 ≤ v + (t i - 48) * un + un
theorem q_fig16 (hT : tx1 W l t) (h14 : W 19 0 14 = nI i) (hil : i ≤ 200) {x1 : Int32} (hx : ¬ x1 = -1) {lo hi v un : Nat} (hu : un = 1 ∨ un = 10) (hlo : lo < 1000) (hhi : hi < 1000) (hv : v < 1000) : (fOk t l i lo hi v un → f_Mo_figures_s16 W x1 (nI lo) (nI hi) (nI v) (nI un) = some (.inl (nI (v + (t i - 48) * un), nI (un / 10), gSt W 19 0 14 (nI (i + 1))))) ∧ (¬ fOk t l i lo hi v un → f_Mo_figures_s16 W x1 (nI lo) (nI hi) (nI v) (nI un) = some (.inr (-1, W))) := by
  have hl := hT.2.2.1
  have u0 : ¬ nI un ≤ 0 := nI_ge (a := 0) (by omega) (by omega)
  unfold f_Mo_figures_s16
  rw [if_neg u0, if_neg hx, hT.1, h14]
  by_cases z : l ≤ i
  · rw [if_pos (nI_le z (by omega))]
    refine ⟨fun q => absurd q.1 (by omega), fun _ => ?_⟩
    unfold f_Mo_figures_b53
    rw [show (9 : Int64) = lN 9 from rfl, q_in0 (by omega) (Or.inl (by decide)), pB, if_pos rfl]
  · have ht := hT.2.2.2 i (by omega)
    rw [if_neg (nI_ge (by omega) (by omega)), pRd _ (by omega) (by omega), pB, hT.2.1 i (by omega), show (48 : Int32) = nI 48 from rfl]
    unfold f_Mo_figures_b53
    rw [show (9 : Int64) = lN 9 from rfl]
    by_cases z1 : 48 ≤ t i
    · rw [pk_sub z1]
      by_cases z2 : t i ≤ 57
      · rw [q_in1 (by omega) (by omega), pB, if_neg (by decide), pk_mul, nI_add, nI_add, show (1 : Int32) = nI 1 from rfl, pk_sub (by omega)]
        have m57 : (t i - 48) * un ≤ 90 := by
          rcases hu with rfl | rfl <;> omega
        by_cases z3 : v + (t i - 48) * un ≤ hi
        · rw [if_neg (nI_nlt z3 (by omega))]
          by_cases z4 : lo + 1 ≤ v + (t i - 48) * un + un
          · rw [if_pos (nI_le (by omega) (by omega)), h14, nI_add, show (10 : Int32) = nI 10 from rfl, z_div (by omega) (by omega) (by omega)]
            exact ⟨fun _ => rfl, fun q => absurd ⟨by omega, z1, z2, z3, z4⟩ q⟩
          · rw [if_neg (nI_ge (by omega) (by omega))]
            exact ⟨fun q => absurd q.2.2.2.2 z4, fun _ => rfl⟩
        · rw [if_pos (nI_lt (by omega) (by omega))]
          exact ⟨fun q => absurd q.2.2.2.1 z3, fun _ => rfl⟩
      · rw [q_in0 (by omega) (Or.inr (nI_le (a := 9 + 1) (by omega) (by omega))), pB, if_pos rfl]
        exact ⟨fun q => absurd q.2.2.1 z2, fun _ => rfl⟩
    · rw [q_in0 (by omega) (Or.inl (pk_sneg (by omega) (by omega))), pB, if_pos rfl]
      exact ⟨fun q => absurd q.2.1 z1, fun _ => rfl⟩
theorem q_figEnd {x1 x3 x4 : Int32} (hx : ¬ x1 = -1) (v : Nat) : f_Mo_figures_l16 x1 x3 x4 (nI v, nI 0, W) = some (nI v, W) := by
  refine pLx ?_
  show f_Mo_figures_s16 W x1 x3 x4 (nI v) (nI 0) = _
  unfold f_Mo_figures_s16 f_Mo_figures_b122
  rw [if_pos (by decide), if_neg hx]
  rfl
theorem tx1.spot (h : tx1 W l t) (x : Int32) : tx1 (gSt W 19 0 14 x) l t := ⟨by unfold gSt; rw [gUp_s, pk_un (by omega)]; exact h.1, fun j hj => by rw [st_n _ _ _ (by omega)]; exact h.2.1 j hj, h.2.2⟩
/-- one number of one digit -/
theorem q_fig1 (hT : tx1 W l t) (h14 : W 19 0 14 = nI i) (hil : i ≤ 200) {x1 : Int32} (hx : ¬ x1 = -1) {lo hi : Nat} (hlo : lo < 1000) (hhi : hi < 1000) : (fOk t l i lo hi 0 1 → f_Mo_figures W x1 1 (nI lo) (nI hi) = some (nI (t i - 48), gSt W 19 0 14 (nI (i + 1)))) ∧ (¬ fOk t l i lo hi 0 1 → f_Mo_figures W x1 1 (nI lo) (nI hi) = some (-1, W)) := by
  obtain ⟨g1, g2⟩ := q_fig16 hT h14 hil hx (lo := lo) (hi := hi) (v := 0) (un := 1) (Or.inl rfl) hlo hhi (by omega)
  unfold f_Mo_figures f_Mo_figures_b14
  rw [if_neg (by decide)]
  refine ⟨fun q => ?_, fun q => ?_⟩
  · refine (pLp (step := fun s => f_Mo_figures_s16 s.2.2 x1 (nI lo) (nI hi) s.1 s.2.1) (s := (0, 1, W)) (g1 q)).trans ?_
    rw [show 0 + (t i - 48) * 1 = t i - 48 by omega]
    exact q_figEnd hx _
  · exact pLx (step := fun s => f_Mo_figures_s16 s.2.2 x1 (nI lo) (nI hi) s.1 s.2.1) (s := (0, 1, W)) (g2 q)
theorem q_fig0 {x3 x4 : Int32} : f_Mo_figures W (-1) 1 x3 x4 = some (-1, W) := by
  unfold f_Mo_figures f_Mo_figures_b14
  rw [if_neg (by decide)]
  refine pLx ?_
  show f_Mo_figures_s16 W (-1) x3 x4 0 1 = _
  unfold f_Mo_figures_s16 f_Mo_figures_b122
  rw [if_neg (by decide), if_pos rfl, if_pos rfl]
  rfl
/-- one number of two digits -/
theorem q_fig2 (hT : tx1 W l t) (h14 : W 19 0 14 = nI i) (hil : i ≤ 150) {hi : Nat} (hhi : hi < 1000) : (¬ fOk t l i 0 hi 0 10 → f_Mo_figures W 0 2 0 (nI hi) = some (-1, W)) ∧ (fOk t l i 0 hi 0 10 → ¬ fOk t l (i + 1) 0 hi (10 * (t i - 48)) 1 → f_Mo_figures W 0 2 0 (nI hi) = some (-1, gSt W 19 0 14 (nI (i + 1)))) ∧ (fOk t l i 0 hi 0 10 → fOk t l (i + 1) 0 hi (10 * (t i - 48)) 1 → f_Mo_figures W 0 2 0 (nI hi) = some (nI (10 * (t i - 48) + (t (i + 1) - 48)), gSt (gSt W 19 0 14 (nI (i + 1))) 19 0 14 (nI (i + 2)))) := by
  have hx : ¬ (0 : Int32) = -1 := by decide
  obtain ⟨g1, g2⟩ := q_fig16 hT h14 (by omega) hx (lo := 0) (hi := hi) (v := 0) (un := 10) (Or.inr rfl) (by omega) hhi (by omega)
  have h14' : gSt W 19 0 14 (nI (i + 1)) 19 0 14 = nI (i + 1) := by unfold gSt; rw [gUp_s]; exact pk_us
  unfold f_Mo_figures f_Mo_figures_b14
  rw [if_pos rfl]
  have go : fOk t l i 0 hi 0 10 → f_Mo_figures_l16 0 0 (nI hi) (0, 10, W) = f_Mo_figures_l16 0 0 (nI hi) (nI (10 * (t i - 48)), 1, gSt W 19 0 14 (nI (i + 1))) := fun q => by
    have e := g1 q
    rw [show 0 + (t i - 48) * 10 = 10 * (t i - 48) by omega] at e
    exact pLp (step := fun s => f_Mo_figures_s16 s.2.2 0 0 (nI hi) s.1 s.2.1) (s := (0, 10, W)) e
  refine ⟨fun q => pLx (step := fun s => f_Mo_figures_s16 s.2.2 0 0 (nI hi) s.1 s.2.1) (s := (0, 10, W)) (g2 q), fun q q2 => ?_, fun q q2 => ?_⟩
  · have hq := q.2.2.1
    obtain ⟨-, k2⟩ := q_fig16 (hT.spot (nI (i + 1))) h14' (by omega) hx (lo := 0) (hi := hi) (v := 10 * (t i - 48)) (un := 1) (Or.inl rfl) (by omega) hhi (by omega)
    rw [go q]
    exact pLx (step := fun s => f_Mo_figures_s16 s.2.2 0 0 (nI hi) s.1 s.2.1) (s := (nI (10 * (t i - 48)), 1, gSt W 19 0 14 (nI (i + 1)))) (k2 q2)
  · have hq := q.2.2.1
    obtain ⟨k1, -⟩ := q_fig16 (hT.spot (nI (i + 1))) h14' (by omega) hx (lo := 0) (hi := hi) (v := 10 * (t i - 48)) (un := 1) (Or.inl rfl) (by omega) hhi (by omega)
    rw [go q]
    refine (pLp (step := fun s => f_Mo_figures_s16 s.2.2 0 0 (nI hi) s.1 s.2.1) (s := (nI (10 * (t i - 48)), 1, gSt W 19 0 14 (nI (i + 1)))) (k1 q2)).trans ?_
    rw [show 10 * (t i - 48) + (t (i + 1) - 48) * 1 = 10 * (t i - 48) + (t (i + 1) - 48) by omega]
    exact q_figEnd hx _
theorem q_done (h : WT W0 W i o r) (b : Nat) (hb : b ≤ 1) : f_Mo_done W (nI b) = some (1, gSt W 19 0 15 (nI (o + (1 - b)))) := by
  unfold f_Mo_done f_Mo_done_b14 gSO
  rw [h.2.2.1]
  rcases (show b = 0 ∨ b = 1 by omega) with z | z
  · rw [z, if_pos (by decide), nI_1, pB]
  · rw [z, if_neg (by decide), show (0 : Int32) = nI 0 from rfl, nI_add, pB]
end RD2
