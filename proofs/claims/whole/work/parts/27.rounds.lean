-- ===== THE LAW'S LOOP, AND ITS WHOLE START OUT OF AN INVARIANT =====
theorem e_rounds {l : Launch} {ε : gEnv} {b : Nat} (hl0 : l.stackTraces = false) (hX : gXw ε) (hM : gMo ε) (hO : gHas ε 20 0 (4, 1, [])) (Ls : Nat) (xs : Nat → Int32) (hL : Ls ≤ 2560) (Inv : Nat → gMem → Prop) (hst : ∀ k M, 5 * k + 5 ≤ Ls → Inv k M → ∃ M', f_law_step Ls xs M (nI (5 * k)) = some M' ∧ Inv (k + 1) M') : ∀ (n k : Nat) (M : gMem), n + k = Ls / 5 → Inv k M → gGo l ε k_law room_1 (gFm b Ls xs (240 + k) (10231 + 6 * k)) 23 [(0, .ref b), (1, .ref (ε.2.2.1 18 0)), (2, .ref (ε.2.2.1 19 0)), (3, .ref (ε.2.2.1 20 0)), (4, .int (nI (5 * k)))] [] M := by
  intro n
  induction n with
  | zero =>
    intro k M hk _
    refine t_law_end (by omega) (by omega) ?_
    rw [Int32.lt_iff_toInt_lt, nI_toInt (by omega)]
    have h1 : (Int32.ofNat Ls - 5).toInt = (Ls : Int) - (5 : Nat) := pk_sub_toInt (a := Ls) (b := 5) (by omega) (by omega)
    rw [h1]
    omega
  | succ n ih =>
    intro k M hk hI
    obtain ⟨M', h1, h2⟩ := hst k M (by omega) hI
    refine t_law_step hl0 hX hM hO Ls xs (by omega) (by omega) M (nI (5 * k)) M' ?_ h1 ?_
    · rw [Int32.lt_iff_toInt_lt, nI_toInt (by omega)]
      have h3 : (Int32.ofNat Ls - 5).toInt = (Ls : Int) - (5 : Nat) := pk_sub_toInt (a := Ls) (b := 5) (by omega) (by omega)
      rw [h3]
      omega
    · refine t_law_inc ?_
      rw [show nI (5 * k) + 5 = nI (5 * (k + 1)) from nI_add (5 * k) 5]
      exact ih (k + 1) M' (by omega) h2
/-- what the walk leaves to show: an invariant of the rounds' worlds -/
def e_Pure : Prop := ∃ M1 : gMem, f_Mo_clear 19 2 197 gM0 = some M1 ∧ (∀ g c, g ≠ 19 → M1 g c = gM0 g c) ∧ ∃ Inv : Nat → gMem → Prop, Inv 0 M1 ∧ ∀ (Ls : Nat) (xs : Nat → Int32), Ls ≤ 2560 → ∀ k M, 5 * k + 5 ≤ Ls → Inv k M → ∃ M', f_law_step Ls xs M (nI (5 * k)) = some M' ∧ Inv (k + 1) M'
theorem e_whole (hp : e_Pure) {p : Program} {e : Env} {s : State} {m : MethodId} {below : List Frame} {meth : Method} {c : Code} (l : Launch) (hflags : l.flags = flags0) {b L : Nat} {xs : Nat → Int32} (hL : L ≤ 2560) (C0 : lw_At p s m meth c b L xs) : W p l e room_1 s m #[Value.ref b] below meth c s.heap [] 0 0 (lw_Z below #[Value.ref b] s) (entryFrame m ([Value.ref b] : List Value).toArray 7) := by
  obtain ⟨M1, hclr, hM, Inv, hI, hst⟩ := hp
  obtain ⟨hx, hcode, hret, hml, hown, hts, hX, hbl, hlk, hgv⟩ := C0
  have hl0 : l.stackTraces = false := by
    unfold Launch.stackTraces
    rw [hflags]
    decide +kernel
  obtain ⟨D, cA, hK⟩ := e_K hts
  have hgs : ∀ w ∈ gWs, w.before #[Value.ref b] s = true := fun w hw => hts w (List.mem_filter.mp hw).1
  have hgf : ∀ w ∈ flatC (Jvm.Cond.and given_1 narrow_1), w.before #[Value.ref b] s = true := flat_of_before _ hgv
  have go := e_start (l := l) (D := D) (cA := cA) (b := b) (Ls := L) (xs := xs) s.heap.size hclr hM (fun ε hX1 hM1 hO1 => e_rounds hl0 hX1 hM1 hO1 L xs hL Inv (hst L xs hL) (L / 5) 0 M1 (by omega) hI)
  have hl := lv_entry [.ref b] (n := 7) (Nat.le_of_ble_eq_true rfl)
  rw [lg_entry_eq]
  have w0 := go p e s m #[Value.ref b] below meth c s.heap [] _ ⟨hx, hcode, hret, hml, hown, hgs, e_nw hts, hK, hlk, fun h => absurd h (by decide), (va_AO.of (hts _ (e_tb 197 (by decide +kernel)))), Nat.zero_le _, Nat.zero_le _⟩ (fun i x hi => (nomatch hi)) ⟨fun i j x y hi => (nomatch hi), fun i x hi => (nomatch hi)⟩ va_S.rf hl
  intro T hT X
  obtain ⟨t, a1, b1⟩ := w0 T hT X
  exact ⟨t, a1, b1 ⟨rfl, hl0, e_th hts hgf, fun A hA => e_zq hts hgf A hA, hX, hbl, rfl⟩⟩
