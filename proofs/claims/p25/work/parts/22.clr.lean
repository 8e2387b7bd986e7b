-- ===== PURE: one evening's cells as a thing; clearing =====
def eUp (M : gMem) (e : Nat) (E : Nat → Nat → Int32) : gMem := fun g c => if g = e then E c else M g c
def cUp (E : Nat → Nat → Int32) (c : Nat) (f : Nat → Int32) : Nat → Nat → Int32 := fun c' => if c' = c then f else E c'
theorem eUp_s (M : gMem) (e : Nat) (E : Nat → Nat → Int32) : eUp M e E e = E := by unfold eUp; funext c; rw [if_pos rfl]
theorem eUp_n (M : gMem) {e g : Nat} (E : Nat → Nat → Int32) (h : g ≠ e) : eUp M e E g = M g := by unfold eUp; funext c; rw [if_neg h]
theorem eUp_0 (M : gMem) (e : Nat) : eUp M e (M e) = M := by
  funext g c
  unfold eUp
  by_cases h : g = e
  · rw [if_pos h, h]
  · rw [if_neg h]
theorem eUp_2 (M : gMem) (e : Nat) (E F : Nat → Nat → Int32) : eUp (eUp M e E) e F = eUp M e F := by
  funext g c
  unfold eUp
  by_cases h : g = e
  · rw [if_pos h, if_pos h]
  · rw [if_neg h, if_neg h, if_neg h]
theorem gUp_e (M : gMem) (e : Nat) (E : Nat → Nat → Int32) (c : Nat) (f : Nat → Int32) : gUp (eUp M e E) e c f = eUp M e (cUp E c f) := by
  funext g c'
  unfold gUp eUp cUp
  by_cases h : g = e
  · subst h
    rw [if_pos rfl, if_pos rfl]
    by_cases h2 : c' = c
    · rw [if_pos ⟨rfl, h2⟩, if_pos h2]
    · rw [if_neg (fun q => h2 q.2), if_neg h2]
  · rw [if_neg (fun q => h q.1), if_neg h, if_neg h]
theorem cUp_s (E : Nat → Nat → Int32) (c : Nat) (f : Nat → Int32) : cUp E c f c = f := by unfold cUp; rw [if_pos rfl]
theorem cUp_n (E : Nat → Nat → Int32) {c c' : Nat} (f : Nat → Int32) (h : c' ≠ c) : cUp E c f c' = E c' := by unfold cUp; rw [if_neg h]
theorem p_fillE (M : gMem) (e : Nat) (E : Nat → Nat → Int32) (c n : Nat) (v : Int32) (hn : n < 2 ^ 31) : f_JA_fill e c n (eUp M e E) v = some (eUp M e (cUp E c (pFl (E c) v n))) := by
  rw [p_fill e c n _ v hn, gUp_e, eUp_s]
theorem p_SOE (M : gMem) (e : Nat) (E : Nat → Nat → Int32) (c k : Nat) (x : Int32) : gSO (eUp M e E) e c k x = some (eUp M e (cUp E c (upd (E c) k x))) := by
  unfold gSO gSt
  rw [gUp_e, eUp_s]
def kFl (E : Nat → Nat → Int32) (c n : Nat) (v : Int32) : Nat → Nat → Int32 := cUp E c (pFl (E c) v n)
def kSt (E : Nat → Nat → Int32) (c k : Nat) (x : Int32) : Nat → Nat → Int32 := cUp E c (upd (E c) k x)
def kCd (E : Nat → Nat → Int32) : Nat → Nat → Int32 := kSt (kFl (kFl (kFl E 5 32 (-1)) 6 32 (-1)) 7 32 (-1)) 1 3 0
def kDr (E : Nat → Nat → Int32) : Nat → Nat → Int32 := kFl (kFl (kFl (kFl E 8 16 0) 9 16 (-1)) 10 16 0) 11 16 0
def kDl (E : Nat → Nat → Int32) : Nat → Nat → Int32 := kSt (kSt (kSt (kSt (kFl (kDr E) 3 2 0) 0 7 0) 0 8 0) 0 9 (-1)) 0 10 0
def kEv (E : Nat → Nat → Int32) : Nat → Nat → Int32 := kSt (kSt (kSt (kSt (kSt (kSt (kFl (kDl (kCd E)) 4 2 0) 0 4 0) 0 5 0) 0 6 (-1)) 0 11 0) 0 12 0) 0 13 0
theorem p_Cards_clear (M : gMem) (e : Nat) (E : Nat → Nat → Int32) : f_Cards_clear e (eUp M e E) = some (eUp M e (kCd E)) := by
  unfold f_Cards_clear kCd kFl kSt
  simp only [p_fillE, p_SOE, pB, Nat.reduceLT, Nat.reducePow]
theorem p_Drops_clear (M : gMem) (e : Nat) (E : Nat → Nat → Int32) : f_Drops_clear e (eUp M e E) = some (eUp M e (kDr E)) := by
  unfold f_Drops_clear kDr kFl
  simp only [p_fillE, pB, Nat.reduceLT, Nat.reducePow]
theorem p_Ev_clearDeal (M : gMem) (e : Nat) (E : Nat → Nat → Int32) : f_Ev_clearDeal e (eUp M e E) = some (eUp M e (kDl E)) := by
  unfold f_Ev_clearDeal kDl kFl kSt
  simp only [p_fillE, p_SOE, pB, p_Drops_clear, Nat.reduceLT, Nat.reducePow]
theorem p_Ev_clear (M : gMem) (e : Nat) (E : Nat → Nat → Int32) : f_Ev_clear e (eUp M e E) = some (eUp M e (kEv E)) := by
  unfold f_Ev_clear kEv kFl kSt
  simp only [p_fillE, p_SOE, pB, p_Cards_clear, p_Ev_clearDeal, Nat.reduceLT, Nat.reducePow]
def eIni (c j : Nat) : Int32 := match c with
  | 0 => if j = 6 ∨ j = 9 then -1 else 0
  | 5 => if j < 32 then -1 else 0
  | 6 => if j < 32 then -1 else 0
  | 7 => if j < 32 then -1 else 0
  | 9 => if j < 16 then -1 else 0
  | _ => 0
def gK1 (E : Nat → Nat → Int32) : gMem := fun _ => E
theorem gK1_e (E : Nat → Nat → Int32) (e : Nat) : eUp (gK1 E) e E = gK1 E := eUp_0 (gK1 E) e
theorem gW_cong {ε : gEnv} {M M1 : gMem} (h : ∀ p ∈ ε.2.2.2, M p.1 p.2 = M1 p.1 p.2) : gW ε M = gW ε M1 := by
  unfold gW
  exact List.map_congr_left fun p hp => gK_cong ε (h p hp)
/-- what an evening holds before it is cleared for the first time -/
def eZ (c : Nat) : Nat → Int32 := if c = 0 then (fun _ => 0) else eIni c
theorem kFl_at (E : Nat → Nat → Int32) (c n : Nat) (v : Int32) (c' j : Nat) : kFl E c n v c' j = if c' = c then (if j < n then v else E c j) else E c' j := by
  unfold kFl cUp pFl
  split <;> rfl
theorem kSt_at (E : Nat → Nat → Int32) (c k : Nat) (x : Int32) (c' j : Nat) : kSt E c k x c' j = if c' = c then (if j = k then x else E c j) else E c' j := by
  unfold kSt cUp upd
  split <;> rfl
theorem z_Cards : ∀ c, c = 1 ∨ c = 5 ∨ c = 6 ∨ c = 7 → kCd (fun _ _ => 0) c = eIni c := by
  rintro c (rfl | rfl | rfl | rfl) <;> funext j <;> simp [kCd, kFl_at, kSt_at, eIni]
theorem z_Drops : ∀ c, c = 2 ∨ c = 8 ∨ c = 9 ∨ c = 10 ∨ c = 11 → kDr (fun _ _ => 0) c = eIni c := by
  rintro c (rfl | rfl | rfl | rfl | rfl) <;> funext j <;> simp [kDr, kFl_at, eIni]
theorem z_Ev : ∀ c, c < 12 → kEv eZ c = eIni c := by
  intro c hc
  rcases (show c = 0 ∨ c = 1 ∨ c = 2 ∨ c = 3 ∨ c = 4 ∨ c = 5 ∨ c = 6 ∨ c = 7 ∨ c = 8 ∨ c = 9 ∨ c = 10 ∨ c = 11 by omega) with rfl | rfl | rfl | rfl | rfl | rfl | rfl | rfl | rfl | rfl | rfl | rfl <;> funext j <;> simp [kEv, kDl, kDr, kCd, kFl_at, kSt_at, eZ, eIni] <;> (repeat' split) <;> first | rfl | omega | simp_all
