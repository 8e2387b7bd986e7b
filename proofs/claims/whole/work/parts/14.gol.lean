-- ===== GO for the law's own methods: they catch; and the cell of one long that they answer into =====
def gTl (hh : List (Nat × Nat × Nat × Nat)) : Launch → (Nat → Prop) → State → Code → Prop := fun l A s c => l.stackTraces = false ∧ c.exceptionTable.toList = tableOf hh ∧ gTh s ∧ gZq A s s.heap
def gFw (ε : gEnv) (hh : List (Nat × Nat × Nat × Nat)) (k n : Nat) (rv : Option Value) (M' : gMem) : gFin := (gTl hh, (k, n), fun below args s => MQ below (gQ ε rv M' s.heap.size) args s 1 6 (gA ε s.heap.size))
def gMwL (κ : gMD) (hh : List (Nat × Nat × Nat × Nat)) : List Cond := .codeWith κ.1 κ.2.1 κ.2.2.1 κ.2.2.2 hh :: gWs
/-- a method's contract: it returns, whatever it caught on the way -/
def gCtL (l : Launch) (ε : gEnv) (κ : gMD) (hh : List (Nat × Nat × Nat × Nat)) (f n : Nat) (av : List Value) (M : gMem) (rv : Option Value) (M' : gMem) : Prop :=
  ∀ sz, Met l κ.1 (gMwL κ hh) (gRX f n) (gPcX ε av M sz) (gQ ε rv M' sz) 1 6 (gA ε sz)
theorem gCtL_of {l : Launch} {ε : gEnv} {κ : gMD} {hh : List (Nat × Nat × Nat × Nat)} {f n : Nat} {av : List Value} {M M' : gMem} {rv : Option Value} (hl0 : l.stackTraces = false) (hy : plainName κ.1.cls = true) (hlen : (lg_sl av).length ≤ κ.2.2.1) {L : List (Nat × Value)} (hL : lv_args 0 av = L) (h : gGo l ε κ (gRX f n) (gFw ε hh 0 0 rv M') 0 L [] M) : gCtL l ε κ hh f n av M rv M' := by
  intro sz
  refine va_MetW (cc := κ.2.1) (maxL := κ.2.2.1) (ret := κ.2.2.2) (hh := hh) hy rfl ?_
  intro p e s m args below meth c s₁ B hml hv
  obtain ⟨rfl, ⟨hsz, hP, hK, hN, hD⟩, hT, hZ⟩ := hv
  have hts := atoms_spec (ws := gMwL κ hh) B.pre
  have htab := vx_table (x := κ.1) B (hts _ List.mem_cons_self)
  have hl := lv_entry av (n := κ.2.2.1) hlen
  rw [lg_entry_eq]
  subst hsz
  rw [hL] at hl
  exact h p e s m _ below meth c s.heap [] _ ⟨B.exec, B.bytes, B.returns, hml, findClass_of_methodNamed B.named, fun w hw => hts w (List.mem_cons_of_mem _ hw), hN, hK, B.notSynchronized, hD, ⟨hl0, htab, hT, hZ⟩, Nat.zero_le _, Nat.zero_le _⟩ hP va_S.rf hl
/-- the long that was answered, as two ints -/
def gOut (x : Int64) : Nat → Int32 := fun j => if j = 0 then gHi x else gLo x
def gUO (M : gMem) (x : Int64) : Option gMem := some (gUp M 20 0 (gOut x))
def gGO (M : gMem) : Int64 := gL (M 20 0 0) (M 20 0 1)
theorem gGO_u (M : gMem) (x : Int64) : gGO (gUp M 20 0 (gOut x)) = x := by
  unfold gGO
  rw [gUp_s]
  exact gL_hl x
section GOL
variable {l : Launch} {ε : gEnv} {κ : gMD} {R : Room} {F : gFin} {pc : Nat} {L : List (Nat × Value)} {st : List Value} {M M1 : gMem}
theorem g_lastore {x : Int64} (d : decode κ.2.1 pc = .ok (.lastore, 1)) (hh : gHas ε 20 0 (4, 1, [])) (hr : gUO M x = some M1) (kk : gGo l ε κ R F (pc + 1) L st M1) : gGo l ε κ R F pc L (.long x :: .int 0 :: .ref (ε.2.2.1 20 0) :: st) M := by
  intro p e s m args below meth c H locs ls C hP hS h
  obtain ⟨j, hj, hw⟩ := gW_at M hh
  cases hr
  refine va_last (D := ε.1) C.1 C.2.1 C.2.2.2.2.2.2.2.1 hP (gD_of C.2.2.2.2.2.2.2.2.2.1 M s.heap.size) hS j 3 hw rfl (vp_in_nI (n := 0) (by decide) (by decide)) d (fun H1 locs1 hP1 _ hS1 => ?_)
  refine kk p e s m args below meth c H1 locs1 ls C ?_ hS1 h
  have e2 := gW_set C.2.2.2.2.2.2.2.2.2.1 M hj (gOut x)
  rw [gK_s ε M hh] at e2
  rw [← e2]
  have e3 : gE ε (4, 1, []) (gOut x) = .inl (ε.2.1 4, 1, .inr (.inl (vp_updL (fun j => if j = 0 then gL (M 20 0 0) (M 20 0 1) else 0) (0 : Int32).toNatClampNeg x))) := by
    show (Sum.inl (ε.2.1 4, 1, .inr (.inl (fun j => if j = 0 then gL (gOut x 0) (gOut x 1) else 0))) : va_E) = _
    refine congrArg (fun z => Sum.inl (ε.2.1 4, 1, Sum.inr (Sum.inl z))) ?_
    funext k
    show (if k = 0 then gL (gOut x 0) (gOut x 1) else 0) = (if k = (0 : Int32).toNatClampNeg then x else (if k = 0 then gL (M 20 0 0) (M 20 0 1) else 0))
    rw [sb_cl0]
    by_cases hk : k = 0
    · rw [if_pos hk, if_pos hk]
      exact gL_hl x
    · rw [if_neg hk, if_neg hk, if_neg hk]
  rw [e3]
  exact hP1
theorem g_laload (d : decode κ.2.1 pc = .ok (.laload, 1)) (hh : gHas ε 20 0 (4, 1, [])) (kk : gGo l ε κ R F (pc + 1) L (.long (gGO M) :: st) M) : gGo l ε κ R F pc L (.int 0 :: .ref (ε.2.2.1 20 0) :: st) M := by
  intro p e s m args below meth c H locs ls C hP hS h
  obtain ⟨j, hj, hw⟩ := gW_at M hh
  exact va_lald (D := ε.1) C.1 C.2.1 C.2.2.2.2.2.2.2.1 hP j 3 hw rfl (vp_in_nI (n := 0) (by decide) (by decide)) d (kk p e s m args below meth c H locs ls C hP hS h)
/-- what was made is counted generously -/
theorem g_iretL {hh : List (Nat × Nat × Nat × Nat)} {k n : Nat} {v : Int32} (d : decode κ.2.1 pc = .ok (.ireturn, 1)) (hret : κ.2.2.2 = some .int) (hk : k ≤ 1) (hn : n ≤ 6) : gGo l ε κ R (gFw ε hh k n (some (.int v)) M) pc L [.int v] M :=
  fun p e s m args below meth c H locs ls C hP hS h => W.widen hk hn (W.iret C.1 C.2.1 (C.2.2.1.trans hret) (fun t ht hW => g_end rfl hP hS ht) hS.2.2 d C.2.2.2.2.2.2.2.2.1)
variable {f' n' : Nat}
/-- a call that throws, and is caught by the row x of the table -/
theorem g_callC {hh : List (Nat × Nat × Nat × Nat)} {rv : Option Value} {M2 : gMem} {E : String} {κ' : gMD} {As rest : List Value} {idx k g c0 ci : Nat} {fs : List (Option (Nat × Nat))} (pre : List ExceptionTableEntry) (x : ExceptionTableEntry) (suf : List ExceptionTableEntry) (hκ : κ.1.cls = "DropSignalsLaw") (ct : l.stackTraces = false → gCtX l ε κ' f' n' (.ref (ε.2.2.1 g c0) :: As) M E M1) (d : decode κ.2.1 pc = .ok (.invokevirtual idx, 3)) (ca : gCaV κ' k) (hl : Cond.methodLink κ.1.cls idx κ'.1 ∈ gWs) (hh0 : gHas ε g c0 (3, ci, fs)) (hci : (gCl[ci]?).map (fun q => q.1) = some κ'.1.cls) (hn : As.length = k) (hst : st = As.reverse ++ .ref (ε.2.2.1 g c0) :: rest) (hW : (rest.map fun v => v.category).sum ≤ 8) (hR : f' + 1 ≤ R.frames ∧ 8 + (κ'.2.2.1 + 11) + n' ≤ R.locals) (hRc : 1 ≤ R.cells) (hRs : 6 ≤ R.slots)
    (hsplit : tableOf hh = pre ++ x :: suf) (hpass : ∀ z ∈ pre, z.catchType ≠ 0 ∧ ∃ nm : String, Cond.classLink "DropSignalsLaw" z.catchType nm ∈ gWs ∧ nm ∈ gXs3 ∧ E ≠ nm) (hE : E ∈ gXs3) (hx : covers x pc = true) (h0 : x.catchType ≠ 0) (hlink : Cond.classLink "DropSignalsLaw" x.catchType E ∈ gWs) (hcast : Cond.castable E E ∈ lw_tbl)
    (kk : ∀ q : Nat, gGo l ε κ R (gFw ε hh 1 6 rv M2) x.handlerPc L [.ref q] M1) : gGo l ε κ R (gFw ε hh 0 0 rv M2) pc L st M := by
  intro p e s m args below meth c H locs ls C hP hS h
  obtain ⟨hl0, htab, hT, hZ⟩ := C.2.2.2.2.2.2.2.2.2.2.1
  have hw := C.2.2.2.2.2.1
  have hown := C.2.2.2.2.1
  rw [hκ] at hown
  obtain ⟨⟨c1, c2, c3⟩, c4, c5⟩ := ca
  obtain ⟨i, hi, hwi⟩ := gW_at M hh0
  obtain ⟨q, hq, hq1⟩ : ∃ q, gCl[ci]? = some q ∧ q.1 = κ'.1.cls := by
    cases hc : gCl[ci]? with
    | none => rw [hc] at hci; cases hci
    | some q => rw [hc] at hci; exact ⟨q, rfl, Option.some.inj hci⟩
  have hrecv := va_recv C.2.2.2.2.2.2.2.1 hP (ci := ci) hq hwi
  rw [hq1] at hrecv
  have hr := vx_runV (p := p) (l := l) (e := e) (R := R) (s := s) (m := m) (args := args) (below := below) (meth := meth) (c := c) (H := H) (locs := locs) (cells := 0) (slots := 0) (g := F0 m pc ls st) (As := As) (rest := rest) ⟨C.1, C.2.1, C.2.2.2.1, C.2.2.2.2.1, hw⟩ (ct hl0 H.size) ⟨callB_of k hw (gGood c1) rfl rfl rfl (hw _ c2) (hw _ hl) c3 hR, hw _ c4, hw _ c5⟩ ⟨gPcX_blind, hrecv, g_preX C hT hZ hP hS _⟩ rfl hn h.1 hst (lv_room hW) d ⟨by omega, by omega⟩
  intro T hT1 X
  rcases hr T hT1 X with ⟨v, st₀, t, T', L, h0', X', hL, e1, e2, hq, st⟩ | ⟨q, st₀, t, T', L, E', ce, h0', X', hL, e1, e2, ⟨⟨rfl, hp⟩, hF⟩, hce, hcv, hcl, st⟩
  · exact hq.elim
  · obtain ⟨k1, k2, k3⟩ := vx_keep h0' e1 hS (fun q _ h => gA_mono hS.1 h) (fun q h => gA_mono hS.1 h) hL hF
    have hP1 : va_P ε.1 gCl (gW ε M1) T'.heap := by rw [e1]; exact hp
    have C1 : gCx l ε κ R (gFw ε hh 1 6 rv M2) p s m args meth c := ⟨C.1, C.2.1, C.2.2.1, C.2.2.2.1, C.2.2.2.2.1, C.2.2.2.2.2.1, C.2.2.2.2.2.2.1, C.2.2.2.2.2.2.2.1, C.2.2.2.2.2.2.2.2.1, C.2.2.2.2.2.2.2.2.2.1, C.2.2.2.2.2.2.2.2.2.2.1, hRc, hRs⟩
    have kw := kk q p e s m args below meth c T'.heap _ ls C1 hP1 k3 h
    obtain ⟨t2, a1, b1⟩ := vx_catch hown pre x suf (htab.trans hsplit) (fun z hz => by
      obtain ⟨z0, nm, z1, z2, z3⟩ := hpass z hz
      exact Or.inr ⟨z0, nm, hw _ z1, hT.2.2 _ hE _ z2 z3⟩) hx h0 (hw _ hlink) (va_Nw.use rfl (hT.1 _ hcast rfl)) (by rw [e1]; exact hce) hcv hcl kw T' rfl X'
    exact ⟨t2, st.trans a1, b1⟩
end GOL
