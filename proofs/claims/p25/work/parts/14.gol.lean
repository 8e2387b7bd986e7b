-- ===== GO for the law's own methods: they catch; and the cell of one long that they answer into =====
def gTl (hh : List (Nat × Nat × Nat × Nat)) : Launch → (Nat → Prop) → State → Code → Prop := fun l A s c => l.stackTraces = false ∧ c.exceptionTable.toList = tableOf hh ∧ gTh s ∧ gZq A s s.heap
def gFw (ε : gEnv) (hh : List (Nat × Nat × Nat × Nat)) (k n : Nat) (rv : Option Value) (M' : gMem) : gFin := (gTl hh, (k, n), fun below args s => MQ below (gQ ε rv M' s.heap.size) args s 1 6 (gA ε s.heap.size))
def gMwL (κ : gMD) (hh : List (Nat × Nat × Nat × Nat)) : List Cond := .codeWith κ.1 κ.2.1 κ.2.2.1 κ.2.2.2 hh :: gWs
/-- a method's contract: it returns, whatever it caught on the way -/
def gCtL (l : Launch) (ε : gEnv) (κ : gMD) (hh : List (Nat × Nat × Nat × Nat)) (f n : Nat) (av : List Value) (M : gMem) (rv : Option Value) (M' : gMem) : Prop :=
  ∀ sz, Met l κ.1 (gMwL κ hh) (gRX f n) (gPcX ε av M sz) (gQ ε rv M' sz) 1 6 (gA ε sz)
theorem gCtL_of {l : Launch} {ε : gEnv} {κ : gMD} {hh : List (Nat × Nat × Nat × Nat)} {f n : Nat} {av : List Value} {M M' : gMem} {rv : Option Value} (hl0 : l.stackTraces = false) (hy : plainName κ.1.cls = true) (hlen : (lg_sl av).length ≤ κ.2.2.1) {L : List (Nat × Value)} (hL : lv_args 0 av = L) (h : gGo l ε κ (gRX f n) (gFw ε hh 0 0 rv M') 0 L [] M) : gCtL l ε κ hh f n av M rv M' := by
  intro sz
  refine va_MetW (cc := κ.2.1) (maxL := κ.2.2.1) (ret := κ.2.2.2) (hh := hh) hy rfl ?_
  intro p e s m args below meth c s₁ B hml hv
  obtain ⟨rfl, ⟨hsz, hP, hK, hN, hD⟩, hT, hZ⟩ := hv
  have hts := atoms_spec (ws := gMwL κ hh) B.pre
  have htab := vx_table (x := κ.1) B (hts _ List.mem_cons_self)
  have hl := lv_entry av (n := κ.2.2.1) hlen
  rw [lg_entry_eq]
  subst hsz
  rw [hL] at hl
  exact h p e s m _ below meth c s.heap [] _ ⟨B.exec, B.bytes, B.returns, hml, findClass_of_methodNamed B.named, fun w hw => hts w (List.mem_cons_of_mem _ hw), hN, hK, B.notSynchronized, hD, ⟨hl0, htab, hT, hZ⟩, Nat.zero_le _, Nat.zero_le _⟩ hP va_S.rf hl
section GOL
variable {l : Launch} {ε : gEnv} {κ : gMD} {R : Room} {F : gFin} {pc : Nat} {L : List (Nat × Value)} {st : List Value} {M M1 : gMem}
/-- what was made is counted generously -/
theorem g_iretL {hh : List (Nat × Nat × Nat × Nat)} {k n : Nat} {v : Int32} (d : decode κ.2.1 pc = .ok (.ireturn, 1)) (hret : κ.2.2.2 = some .int) (hk : k ≤ 1) (hn : n ≤ 6) : gGo l ε κ R (gFw ε hh k n (some (.int v)) M) pc L [.int v] M :=
  fun p e s m args below meth c H locs ls C hP hS h => W.widen hk hn (W.iret C.1 C.2.1 (C.2.2.1.trans hret) (fun t ht hW => g_end rfl hP hS ht) hS.2.2 d C.2.2.2.2.2.2.2.2.1)
variable {f' n' : Nat}
/-- a call that throws, and is caught by the row x of the table -/
theorem g_callC {hh : List (Nat × Nat × Nat × Nat)} {rv : Option Value} {M2 : gMem} {E : String} {κ' : gMD} {As rest : List Value} {idx k g c0 ci : Nat} {fs : List (Option (Nat × Nat))} (pre : List ExceptionTableEntry) (x : ExceptionTableEntry) (suf : List ExceptionTableEntry) (hκ : κ.1.cls = "DropSignalsLaw") (ct : l.stackTraces = false → gCtX l ε κ' f' n' (.ref (ε.2.2.1 g c0) :: As) M E M1) (d : decode κ.2.1 pc = .ok (.invokevirtual idx, 3)) (ca : gCaV κ' k) (hl : Cond.methodLink κ.1.cls idx κ'.1 ∈ gWs) (hh0 : gHas ε g c0 (3, ci, fs)) (hci : (gCl[ci]?).map (fun q => q.1) = some κ'.1.cls) (hn : As.length = k) (hst : st = As.reverse ++ .ref (ε.2.2.1 g c0) :: rest) (hW : (rest.map fun v => v.category).sum ≤ 8) (hR : f' + 1 ≤ R.frames ∧ 8 + (κ'.2.2.1 + 11) + n' ≤ R.locals) (hRc : 1 ≤ R.cells) (hRs : 6 ≤ R.slots)
    (hsplit : tableOf hh = pre ++ x :: suf) (hpass : ∀ z ∈ pre, z.catchType ≠ 0 ∧ ∃ nm : String, Cond.classLink "DropSignalsLaw" z.catchType nm ∈ gWs ∧ nm ∈ gXs3 ∧ E ≠ nm) (hE : E ∈ gXs3) (hx : covers x pc = true) (h0 : x.catchType ≠ 0) (hlink : Cond.classLink "DropSignalsLaw" x.catchType E ∈ gWs) (hcast : Cond.castable E E ∈ lw_tbl)
    (kk : ∀ q : Nat, gGo l ε κ R (gFw ε hh 1 6 rv M2) x.handlerPc L [.ref q] M1) : gGo l ε κ R (gFw ε hh 0 0 rv M2) pc L st M := by
  intro p e s m args below meth c H locs ls C hP hS h
  obtain ⟨hl0, htab, hT, hZ⟩ := C.2.2.2.2.2.2.2.2.2.2.1
  have hw := C.2.2.2.2.2.1
  have hown := C.2.2.2.2.1
  rw [hκ] at hown
  obtain ⟨⟨c1, c2, c3⟩, c4, c5⟩ := ca
  obtain ⟨i, hi, hwi⟩ := gW_at M hh0
  obtain ⟨q, hq, hq1⟩ : ∃ q, gCl[ci]? = some q ∧ q.1 = κ'.1.cls := by
    cases hc : gCl[ci]? with
    | none => rw [hc] at hci; cases hci
    | some q => rw [hc] at hci; exact ⟨q, rfl, Option.some.inj hci⟩
  have hrecv := va_recv C.2.2.2.2.2.2.2.1 hP (ci := ci) hq hwi
  rw [hq1] at hrecv
  have hr := vx_runV (p := p) (l := l) (e := e) (R := R) (s := s) (m := m) (args := args) (below := below) (meth := meth) (c := c) (H := H) (locs := locs) (cells := 0) (slots := 0) (g := F0 m pc ls st) (As := As) (rest := rest) ⟨C.1, C.2.1, C.2.2.2.1, C.2.2.2.2.1, hw⟩ (ct hl0 H.size) ⟨callB_of k hw (gGood c1) rfl rfl rfl (hw _ c2) (hw _ hl) c3 hR, hw _ c4, hw _ c5⟩ ⟨gPcX_blind, hrecv, g_preX C hT hZ hP hS _⟩ rfl hn h.1 hst (lv_room hW) d ⟨by omega, by omega⟩
  intro T hT1 X
  rcases hr T hT1 X with ⟨v, st₀, t, T', L, h0', X', hL, e1, e2, hq, st⟩ | ⟨q, st₀, t, T', L, E', ce, h0', X', hL, e1, e2, ⟨⟨rfl, hp⟩, hF⟩, hce, hcv, hcl, st⟩
  · exact hq.elim
  · obtain ⟨k1, k2, k3⟩ := vx_keep h0' e1 hS (fun q _ h => gA_mono hS.1 h) (fun q h => gA_mono hS.1 h) hL hF
    have hP1 : va_P ε.1 gCl (gW ε M1) T'.heap := by rw [e1]; exact hp
    have C1 : gCx l ε κ R (gFw ε hh 1 6 rv M2) p s m args meth c := ⟨C.1, C.2.1, C.2.2.1, C.2.2.2.1, C.2.2.2.2.1, C.2.2.2.2.2.1, C.2.2.2.2.2.2.1, C.2.2.2.2.2.2.2.1, C.2.2.2.2.2.2.2.2.1, C.2.2.2.2.2.2.2.2.2.1, C.2.2.2.2.2.2.2.2.2.2.1, hRc, hRs⟩
    have kw := kk q p e s m args below meth c T'.heap _ ls C1 hP1 k3 h
    obtain ⟨t2, a1, b1⟩ := vx_catch hown pre x suf (htab.trans hsplit) (fun z hz => by
      obtain ⟨z0, nm, z1, z2, z3⟩ := hpass z hz
      exact Or.inr ⟨z0, nm, hw _ z1, hT.2.2 _ hE _ z2 z3⟩) hx h0 (hw _ hlink) (va_Nw.use rfl (hT.1 _ hcast rfl)) (by rw [e1]; exact hce) hcv hcl kw T' rfl X'
    exact ⟨t2, st.trans a1, b1⟩
end GOL
-- ===== GO for the law's own methods that call: how much they use is counted =====
abbrev gTT := Launch → (Nat → Prop) → State → Code → Prop
abbrev gZZ := List Frame → Array Value → State → State → Prop
def gTk : gTT := fun l A s _ => l.stackTraces = false ∧ gTh s ∧ gZq A s s.heap
def gTok (T : gTT) : Prop := ∀ l A s c, T l A s c → l.stackTraces = false ∧ gTh s ∧ gZq A s s.heap
theorem gTk_ok : gTok gTk := fun _ _ _ _ h => h
def gFg (T : gTT) (Z : gZZ) (k0 n0 k : Nat) : gFin := (T, (k0 + k, n0 + 6 * k), Z)
def gZk (ε : gEnv) (K : Nat) (rv : Option Value) (M' : gMem) : gZZ := fun below args s => MQ below (gQ ε rv M' s.heap.size) args s K (6 * K) (gA ε s.heap.size)
abbrev gFk (ε : gEnv) (K : Nat) (rv : Option Value) (M' : gMem) (k : Nat) : gFin := gFg gTk (gZk ε K rv M') 0 0 k
def gRK (f n K : Nat) : Room := { frames := f, cells := K, slots := 6 * K, locals := n }
/-- room enough -/
def gRm (R : Room) (k0 n0 K f n : Nat) : Prop := k0 + K ≤ R.cells ∧ n0 + 6 * K ≤ R.slots ∧ f ≤ R.frames ∧ n ≤ R.locals
theorem gRm_K (f n K : Nat) : gRm (gRK f n K) 0 0 K f n := ⟨Nat.le_of_eq (Nat.zero_add K), Nat.le_of_eq (Nat.zero_add _), Nat.le_refl f, Nat.le_refl n⟩
/-- a method's contract: it returns, whatever was caught on the way -/
def gCtK (l : Launch) (ε : gEnv) (κ : gMD) (f n K : Nat) (av : List Value) (M : gMem) (rv : Option Value) (M' : gMem) : Prop :=
  ∀ sz, Met l κ.1 (gMw κ) (gRK f n K) (gPcX ε av M sz) (gQ ε rv M' sz) K (6 * K) (gA ε sz)
theorem gCtK_of {l : Launch} {ε : gEnv} {κ : gMD} {f n K : Nat} {av : List Value} {M M' : gMem} {rv : Option Value} (hl0 : l.stackTraces = false) (hy : plainName κ.1.cls = true) (hlen : (lg_sl av).length ≤ κ.2.2.1) {L : List (Nat × Value)} (hL : lv_args 0 av = L) (h : gGo l ε κ (gRK f n K) (gFk ε K rv M' 0) 0 L [] M) : gCtK l ε κ f n K av M rv M' := by
  intro sz
  refine Met.ofW (cc := κ.2.1) (maxL := κ.2.2.1) (ret := κ.2.2.2) hy rfl ?_
  intro p e s m args below meth c s₁ B hml hv
  obtain ⟨rfl, ⟨hsz, hP, hK, hN, hD⟩, hT, hZ⟩ := hv
  have hts := atoms_spec (ws := gMw κ) B.pre
  have hl := lv_entry av (n := κ.2.2.1) hlen
  rw [lg_entry_eq]
  subst hsz
  rw [hL] at hl
  exact h p e s m _ below meth c s.heap [] _ ⟨B.exec, B.bytes, B.returns, hml, findClass_of_methodNamed B.named, fun w hw => hts w (List.mem_cons_of_mem _ hw), hN, hK, B.notSynchronized, hD, ⟨hl0, hT, hZ⟩, Nat.zero_le _, Nat.zero_le _⟩ hP va_S.rf hl
theorem gLe {a u c K : Nat} (h : a + c ≤ K) (hu : u ≤ c) : a + u ≤ K := Nat.le_trans (Nat.add_le_add_left hu a) h
theorem gLe0 {a c K : Nat} (h : a + c ≤ K) : a ≤ K := by omega
theorem gLe2 {a u c d K : Nat} (h : a + c ≤ K) (hu : u + d ≤ c) : a + u + d ≤ K := by omega
section GOK
variable {l : Launch} {ε : gEnv} {κ : gMD} {R : Room} {F : gFin} {pc : Nat} {L : List (Nat × Value)} {st : List Value} {M M1 : gMem} {T : gTT} {Z : gZZ} {k0 n0 K ka kb fR nR : Nat}
/-- behind a call of the law's own -/
theorem g_runL {p : Program} {e : Env} {s : State} {m : MethodId} {args : Array Value} {below : List Frame} {meth : Method} {c : Code} {H : Heap} {locs : List Loc} {Q : State → Prop} {ls : Array Slot} {st0 rest : List Value} {a : Array Value} {cs sl mc ms : Nat} {rv : Option Value} (hr : va_Run p l e R s m args below meth c H locs cs sl mc ms (F0 m pc ls st0) rest (gQ ε rv M1 H.size a) (gA ε H.size)) (hS : va_S (gA ε s.heap.size) s.heap H locs)
    (kk : ∀ (H1 : Heap) (locs1 : List Loc), va_P ε.1 gCl (gW ε M1) H1 → va_S (gA ε s.heap.size) s.heap H1 locs1 → W p l e R s m args below meth c H1 locs1 (cs + mc) (sl + ms) Q (F0 m (pc + 3) ls (rv.toList ++ rest))) : W p l e R s m args below meth c H locs cs sl Q (F0 m pc ls st0) := by
  intro T hT X
  obtain ⟨v, st₀, t, T', L, h0, X', hL, e1, e2, ⟨⟨hv, hp⟩, hz, hk⟩, st⟩ := hr T hT X
  cases hv
  rw [h0] at hz hk
  have hA : ∀ q, gA ε H.size q → gA ε s.heap.size q := fun q h => gA_mono hS.1 h
  obtain ⟨t2, a1, b1⟩ := kk T'.heap (locs ++ L) (by rw [e1]; exact hp)
    ⟨Nat.le_trans hS.1 (by rw [e1]; exact hz), fun q h1 h2 => by rw [e1, hk q (Nat.lt_of_lt_of_le h1 hS.1) (fun z => h2 (hA q z))]; exact hS.2.1 q h1 h2, fun q hq => by
      rcases List.mem_append.mp hq with h | h
      · exact hS.2.2 q h
      · exact hA _ (hL q h)⟩ T' rfl X'
  exact ⟨t2, st t2 a1, b1⟩
/-- more may be counted as used -/
theorem g_useK (hR : gRm R k0 n0 K fR nR) (hk : ka ≤ kb) (hb : kb ≤ K) (kk : gGo l ε κ R (gFg T Z k0 n0 kb) pc L st M) : gGo l ε κ R (gFg T Z k0 n0 ka) pc L st M := by
  obtain ⟨r1, r2, -, -⟩ := hR
  exact fun p e s m args below meth c H locs ls C hP hS h => W.widen (show k0 + ka ≤ k0 + kb by omega) (show n0 + 6 * ka ≤ n0 + 6 * kb by omega) (kk p e s m args below meth c H locs ls ⟨C.1, C.2.1, C.2.2.1, C.2.2.2.1, C.2.2.2.2.1, C.2.2.2.2.2.1, C.2.2.2.2.2.2.1, C.2.2.2.2.2.2.2.1, C.2.2.2.2.2.2.2.2.1, C.2.2.2.2.2.2.2.2.2.1, C.2.2.2.2.2.2.2.2.2.2.1, (show k0 + kb ≤ R.cells by omega), (show n0 + 6 * kb ≤ R.slots by omega)⟩ hP hS h)
theorem g_callK {κ' : gMD} {f' n' c j idx : Nat} {As rest : List Value} {r : Int32} (hT : gTok T) (hR : gRm R k0 n0 K fR nR) (ct : l.stackTraces = false → gCtK l ε κ' f' n' c As M (some (.int r)) M1) (d : decode κ.2.1 pc = .ok (.invokestatic idx, 3)) (ca : gCaS κ' j) (hl : Cond.methodLink κ.1.cls idx κ'.1 ∈ gWs) (hn : As.length = j) (hst : st = As.reverse ++ rest) (hW : (rest.map fun v => v.category).sum ≤ 8) (hf : f' + 1 ≤ fR ∧ 8 + (κ'.2.2.1 + 11) + n' ≤ nR) (hk : ka + c ≤ kb) (hb : kb ≤ K)
    (kk : gGo l ε κ R (gFg T Z k0 n0 kb) (pc + 3) L (.int r :: rest) M1) : gGo l ε κ R (gFg T Z k0 n0 ka) pc L st M := by
  have kk2 : gGo l ε κ R (gFg T Z k0 n0 (ka + c)) (pc + 3) L (.int r :: rest) M1 := g_useK hR hk hb kk
  obtain ⟨r1, r2, r3, r4⟩ := hR
  intro p e s m args below meth c0 H locs ls C hP hS h
  obtain ⟨hl0, hTh, hZ⟩ := hT _ _ _ _ C.2.2.2.2.2.2.2.2.2.2.1
  have hw := C.2.2.2.2.2.1
  obtain ⟨⟨c1, c2, c3⟩, c4⟩ := ca
  have q1 : k0 + ka + c ≤ R.cells := by omega
  have q2 : n0 + 6 * ka + 6 * c ≤ R.slots := by omega
  have q3 : k0 + (ka + c) ≤ R.cells := by omega
  have q4 : n0 + 6 * (ka + c) ≤ R.slots := by omega
  have key := g_runL (va_runS (p := p) (e := e) (R := R) (s := s) (m := m) (args := args) (below := below) (meth := meth) (H := H) (locs := locs) (cells := k0 + ka) (slots := n0 + 6 * ka) (g := F0 m pc ls st) (As := As) (rest := rest) ⟨C.1, C.2.1, C.2.2.2.1, C.2.2.2.2.1, hw⟩ (ct hl0 H.size) ⟨callB_of j hw (gGood c1) rfl rfl rfl (hw _ c2) (hw _ hl) c3 ⟨Nat.le_trans hf.1 r3, Nat.le_trans hf.2 r4⟩, hw _ c4⟩ ⟨gPcX_blind, g_preX C hTh hZ hP hS _⟩ rfl hn h.1 hst (lv_room hW) d ⟨q1, q2⟩) hS
    (fun H1 locs1 hP1 hS1 => by
      have := kk2 p e s m args below meth c0 H1 locs1 ls ⟨C.1, C.2.1, C.2.2.1, C.2.2.2.1, C.2.2.2.2.1, C.2.2.2.2.2.1, C.2.2.2.2.2.2.1, C.2.2.2.2.2.2.2.1, C.2.2.2.2.2.2.2.2.1, C.2.2.2.2.2.2.2.2.2.1, C.2.2.2.2.2.2.2.2.2.2.1, q3, q4⟩ hP1 hS1 h
      have e1 : k0 + ka + c = k0 + (ka + c) := by omega
      have e2 : n0 + 6 * ka + 6 * c = n0 + 6 * (ka + c) := by omega
      rw [e1, e2]
      exact this)
  exact key
theorem g_callT {κ' : gMD} {hh : List (Nat × Nat × Nat × Nat)} {f' n' j idx : Nat} {As rest : List Value} {r : Int32} (hT : gTok T) (hR : gRm R k0 n0 K fR nR) (ct : l.stackTraces = false → gCtL l ε κ' hh f' n' As M (some (.int r)) M1) (d : decode κ.2.1 pc = .ok (.invokestatic idx, 3)) (cw : Cond.codeWith κ'.1 κ'.2.1 κ'.2.2.1 κ'.2.2.2 hh ∈ gWs) (w1 : Cond.initialized κ'.1.cls ∈ gWs) (w2 : Cond.static κ'.1 ∈ gWs) (hl : Cond.methodLink κ.1.cls idx κ'.1 ∈ gWs) (hd : κ'.1.cls ≠ "java/lang/invoke/MethodHandle" ∧ κ'.1.cls ≠ "java/lang/invoke/VarHandle" ∧ (parseMethodDescriptor κ'.1.desc).map (fun d => d.parameters.length) = some j) (hn : As.length = j) (hst : st = As.reverse ++ rest) (hW : (rest.map fun v => v.category).sum ≤ 8) (hf : f' + 1 ≤ fR ∧ 8 + (κ'.2.2.1 + 11) + n' ≤ nR) (hk : ka + 1 ≤ kb) (hb : kb ≤ K)
    (kk : gGo l ε κ R (gFg T Z k0 n0 kb) (pc + 3) L (.int r :: rest) M1) : gGo l ε κ R (gFg T Z k0 n0 ka) pc L st M := by
  have kk2 : gGo l ε κ R (gFg T Z k0 n0 (ka + 1)) (pc + 3) L (.int r :: rest) M1 := g_useK hR hk hb kk
  obtain ⟨r1, r2, r3, r4⟩ := hR
  intro p e s m args below meth c0 H locs ls C hP hS h
  obtain ⟨hl0, hTh, hZ⟩ := hT _ _ _ _ C.2.2.2.2.2.2.2.2.2.2.1
  have hw := C.2.2.2.2.2.1
  have hG : GoodIn gWs (gMwL κ' hh) := by
    intro w hw
    rcases List.mem_cons.mp hw with rfl | h
    · exact ⟨cw, good_of_word (List.mem_filter.mp cw).2⟩
    · exact ⟨h, good_of_word (List.mem_filter.mp h).2⟩
  have cs : vx_CSW R s args κ.1.cls idx κ'.1 κ'.2.1 κ'.2.2.1 κ'.2.2.2 hh (gMwL κ' hh) (gRX f' n') 1 6 j := by
    refine ⟨⟨rfl, rfl, Nat.le_trans hf.1 r3, Nat.le_trans hf.2 r4, pay_in hw hG, List.mem_cons_self⟩, hw _ cw, hw _ w1, ⟨hd.1, hd.2.1⟩, fun sig hsig => ?_, hw _ hl, hw _ w2⟩
    have h2 := hd.2.2
    rw [hsig] at h2
    exact (Option.some.inj h2).symm
  have q1 : k0 + ka + 1 ≤ R.cells := by omega
  have q2 : n0 + 6 * ka + 6 ≤ R.slots := by omega
  exact g_runL (vx_runSW (As := As) (rest := rest) ⟨C.1, C.2.1, C.2.2.2.1, C.2.2.2.2.1, hw⟩ (ct hl0 H.size) cs ⟨gPcX_blind, g_preX C hTh hZ hP hS _⟩ rfl hn h.1 hst (lv_room hW) d ⟨q1, q2⟩) hS
    (fun H1 locs1 hP1 hS1 => kk2 p e s m args below meth c0 H1 locs1 ls ⟨C.1, C.2.1, C.2.2.1, C.2.2.2.1, C.2.2.2.2.1, C.2.2.2.2.2.1, C.2.2.2.2.2.2.1, C.2.2.2.2.2.2.2.1, C.2.2.2.2.2.2.2.2.1, C.2.2.2.2.2.2.2.2.2.1, C.2.2.2.2.2.2.2.2.2.2.1, q1, q2⟩ hP1 hS1 h)
theorem g_iretK {v : Int32} (hR : gRm R 0 0 K fR nR) (d : decode κ.2.1 pc = .ok (.ireturn, 1)) (hret : κ.2.2.2 = some .int) (hk : ka ≤ K) : gGo l ε κ R (gFk ε K (some (.int v)) M ka) pc L [.int v] M :=
  fun p e s m args below meth c H locs ls C hP hS h => W.widen (show 0 + ka ≤ K by omega) (show 0 + 6 * ka ≤ 6 * K by omega) (W.iret C.1 C.2.1 (C.2.2.1.trans hret) (fun t ht hW => g_end rfl hP hS ht) hS.2.2 d C.2.2.2.2.2.2.2.2.1)
theorem g_zretK {v v' : Int32} (hR : gRm R 0 0 K fR nR) (d : decode κ.2.1 pc = .ok (.ireturn, 1)) (hret : κ.2.2.2 = some .boolean) (hb : gBl v = some v') (hk : ka ≤ K) : gGo l ε κ R (gFk ε K (some (.int v)) M ka) pc L [.int v] M :=
  fun p e s m args below meth c H locs ls C hP hS h => W.widen (show 0 + ka ≤ K by omega) (show 0 + 6 * ka ≤ 6 * K by omega) (W.zret C.1 C.2.1 (C.2.2.1.trans hret) (gB_n (gBl_s hb).2) (fun t ht hW => g_end rfl hP hS ht) hS.2.2 d C.2.2.2.2.2.2.2.2.1)
theorem gIt_s {σ ρ : Type} {step : σ → Option (σ ⊕ ρ)} {j : Nat} {s : σ} {r : ρ} (h : gIt step (j + 1) s = some r) : (∃ s1, step s = some (.inl s1) ∧ gIt step j s1 = some r) ∨ step s = some (.inr r) := by
  unfold gIt at h
  cases hs : step s with
  | none => rw [hs] at h; cases h
  | some x =>
    rw [hs] at h
    cases x with
    | inl s1 => exact Or.inl ⟨s1, rfl, h⟩
    | inr r1 => cases Option.some.inj h; exact Or.inr rfl
end GOK
-- ===== the two objects change places =====
def sw (g : Nat) : Nat := if g < 19 then g + 20 else if 20 ≤ g ∧ g < 39 then g - 20 else g
theorem sw_sw (g : Nat) : sw (sw g) = g := by
  unfold sw
  (repeat' split) <;> omega
def swM (M : gMem) : gMem := fun g => M (sw g)
theorem swM_swM (M : gMem) : swM (swM M) = M := funext fun g => by unfold swM; rw [sw_sw]
def swE (ε : gEnv) : gEnv := (ε.1, ε.2.1, fun g c => ε.2.2.1 (sw g) c, ε.2.2.2.map (fun p => (sw p.1, p.2)))
theorem gE_swv {ad ad' : Nat → Nat → Nat} {b b' : Nat} (h : ∀ c, ad' b' c = ad b c) (ε : gEnv) (c : Nat) (f : Nat → Int32) : gE (ε.1, ε.2.1, ad', ε.2.2.2) (gEvS b' c) f = gE (ε.1, ε.2.1, ad, ε.2.2.2) (gEvS b c) f := by
  rcases (show c = 0 ∨ c = 1 ∨ c = 2 ∨ c = 3 ∨ c = 4 ∨ c = 5 ∨ c = 6 ∨ c = 7 ∨ 8 ≤ c by omega) with rfl | rfl | rfl | rfl | rfl | rfl | rfl | rfl | hc
  · simp only [gEvS, gE, gVals, h]
  · simp only [gEvS, gE, gVals, h]
  · simp only [gEvS, gE, gVals, h]
  · rfl
  · rfl
  · rfl
  · rfl
  · rfl
  · obtain ⟨k, rfl⟩ : ∃ k, c = k + 8 := ⟨c - 8, by omega⟩
    rfl
theorem gE_rows {ad ad' : Nat → Nat → Nat} {n b b' : Nat} (ε : gEnv) (f : Nat → Int32) (h : ∀ j, j < n → ad (b + j) 0 = ad' (b' + j) 0) : gE (ε.1, ε.2.1, ad, ε.2.2.2) (2, n, [some (b, 0)]) f = gE (ε.1, ε.2.1, ad', ε.2.2.2) (2, n, [some (b', 0)]) f := by
  refine congrArg (fun f => (Sum.inl (ε.2.1 2, n, Sum.inr (Sum.inr (Sum.inr (Sum.inr f)))) : va_E)) ?_
  funext j
  by_cases hj : j < n
  · simp only [if_pos hj]
    exact congrArg some (h j hj)
  · simp only [if_neg hj]
theorem gE_swc {ad ad' : Nat → Nat → Nat} (h : ∀ g c, g < 19 → ad' (g + 20) c = ad g c) (ε : gEnv) (c : Nat) (f : Nat → Int32) : gE (ε.1, ε.2.1, ad', ε.2.2.2) (gCT c) f = gE (ε.1, ε.2.1, ad, ε.2.2.2) (gCS c) f := by
  have e0 : ∀ c, ad' 20 c = ad 0 c := fun c => h 0 c (by omega)
  have e1 : ∀ c, ad' 21 c = ad 1 c := fun c => h 1 c (by omega)
  have e18 : ∀ c, ad' 38 c = ad 18 c := fun c => h 18 c (by omega)
  rcases (show c = 0 ∨ c = 1 ∨ c = 2 ∨ c = 3 ∨ c = 4 ∨ c = 5 ∨ c = 6 ∨ c = 7 ∨ c = 8 ∨ c = 9 ∨ 10 ≤ c by omega) with rfl | rfl | rfl | rfl | rfl | rfl | rfl | rfl | rfl | rfl | hc
  · simp only [gCT, gCS, gE, gVals, e0, e1, e18]
  · simp only [gCT, gCS, gE, gVals, e18]
  · exact gE_rows (b := 22) (b' := 2) ε f (fun j hj => by rw [show 22 + j = (2 + j) + 20 by omega]; exact h _ 0 (by omega))
  · simp only [gCT, gCS, gE, gVals, e18]
  · exact gE_rows (b := 36) (b' := 16) ε f (fun j hj => by rw [show 36 + j = (16 + j) + 20 by omega]; exact h _ 0 (by omega))
  · rfl
  · simp only [gCT, gCS, gE, gVals, e18]
  · rfl
  · simp only [gCT, gCS, gE, gVals, e18]
  · rfl
  · obtain ⟨k, rfl⟩ : ∃ k, c = k + 10 := ⟨c - 10, by omega⟩
    rfl
theorem gE_sw (ε : gEnv) (g c : Nat) (f : Nat → Int32) : gE (swE ε) (gS (sw g) c) f = gE ε (gS g c) f := by
  have hE : ∀ S, gE (swE ε) S f = gE (ε.1, ε.2.1, (fun g c => ε.2.2.1 (sw g) c), ε.2.2.2) S f := fun S => rfl
  have hE0 : ∀ S, gE ε S f = gE (ε.1, ε.2.1, ε.2.2.1, ε.2.2.2) S f := fun S => rfl
  have s1 : ∀ g, g < 19 → sw g = g + 20 := fun g h => if_pos h
  have s2 : ∀ g, g < 19 → sw (g + 20) = g := fun g h => by rw [← s1 g h, sw_sw]
  rw [hE, hE0]
  rcases (show g < 18 ∨ g = 18 ∨ (20 ≤ g ∧ g < 38) ∨ g = 38 ∨ g = 19 ∨ 39 ≤ g by omega) with h | rfl | h | rfl | rfl | h
  · have e1 : gS (sw g) c = gEvS (g + 20) c := by
      rw [s1 g (by omega)]
      unfold gS
      rw [if_neg (by omega), if_neg (by omega), if_pos (by omega)]
    rw [e1, show gS g c = gEvS g c from if_pos h]
    exact gE_swv (b := g) (b' := g + 20) (fun c => by rw [s2 g (by omega)]) ε c f
  · exact gE_swc (fun g c h => by rw [s2 g h]) ε c f
  · obtain ⟨k, rfl⟩ : ∃ k, g = k + 20 := ⟨g - 20, by omega⟩
    have e1 : gS (k + 20) c = gEvS (k + 20) c := by
      unfold gS
      rw [if_neg (by omega), if_neg (by omega), if_pos (by omega)]
    rw [e1, s2 k (by omega), show gS k c = gEvS k c from if_pos (by omega)]
    exact gE_swv (b := k + 20) (b' := k) (fun c => by rw [s1 k (by omega)]) ε c f
  · exact (gE_swc (ad := fun g c => ε.2.2.1 (sw g) c) (ad' := ε.2.2.1) (fun g c h => by rw [s1 g h]) ε c f).symm
  · rfl
  · have e1 : sw g = g := by unfold sw; rw [if_neg (by omega), if_neg (by omega)]
    have e2 : gS g c = (0, 0, []) := by
      unfold gS
      rw [if_neg (by omega), if_neg (by omega), if_neg (by omega), if_neg (by omega)]
    rw [e1, e2]
    rfl
theorem gK_sw (ε : gEnv) (M : gMem) (p : Nat × Nat) : gK (swE ε) (swM M) (sw p.1, p.2) = gK ε M p := by
  unfold gK
  show (ε.2.2.1 (sw (sw p.1)) p.2, gE (swE ε) (gS (sw p.1) p.2) (M (sw (sw p.1)) p.2)) = _
  rw [gE_sw, sw_sw]
theorem gW_sw (ε : gEnv) (M : gMem) : gW (swE ε) (swM M) = gW ε M := by
  unfold gW
  show (ε.2.2.2.map (fun p => (sw p.1, p.2))).map _ = _
  rw [List.map_map]
  exact List.map_congr_left fun p _ => gK_sw ε M p
theorem gA_sw (ε : gEnv) (sz : Nat) : gA (swE ε) sz = gA ε sz := by
  funext q
  refine propext ⟨fun h => ?_, fun h => ?_⟩
  · rcases h with ⟨p, hp, rfl⟩ | h
    · obtain ⟨x, hx, rfl⟩ := List.mem_map.mp hp
      refine Or.inl ⟨x, hx, ?_⟩
      show ε.2.2.1 (sw (sw x.1)) x.2 = _
      rw [sw_sw]
    · exact Or.inr h
  · rcases h with ⟨p, hp, rfl⟩ | h
    · refine Or.inl ⟨(sw p.1, p.2), List.mem_map.mpr ⟨p, hp, rfl⟩, ?_⟩
      show _ = ε.2.2.1 (sw (sw p.1)) p.2
      rw [sw_sw]
    · exact Or.inr h
theorem gDj_sw (ε : gEnv) : gDj (swE ε) = gDj ε := by
  have g : ∀ (i : Nat) (p : Nat × Nat), (swE ε).2.2.2[i]? = some p ↔ ε.2.2.2[i]? = some (sw p.1, p.2) := fun i p => by
    show (ε.2.2.2.map _)[i]? = _ ↔ _
    rw [List.getElem?_map]
    constructor
    · intro h
      cases hx : ε.2.2.2[i]? with
      | none => rw [hx] at h; cases h
      | some x =>
        rw [hx] at h
        cases Option.some.inj h
        show some x = some (sw (sw x.1), x.2)
        rw [sw_sw]
    · intro h
      rw [h]
      show some (sw (sw p.1), p.2) = some p
      rw [sw_sw]
  refine propext ⟨fun h i j p q hi hj hpq => ?_, fun h i j p q hi hj hpq => ?_⟩
  · refine h i j (sw p.1, p.2) (sw q.1, q.2) ((g _ _).mpr ?_) ((g _ _).mpr ?_) ?_
    · show _ = some (sw (sw p.1), p.2)
      rw [sw_sw]; exact hi
    · show _ = some (sw (sw q.1), q.2)
      rw [sw_sw]; exact hj
    · show ε.2.2.1 (sw (sw p.1)) p.2 = ε.2.2.1 (sw (sw q.1)) q.2
      rw [sw_sw, sw_sw]; exact hpq
  · exact h i j _ _ ((g _ _).mp hi) ((g _ _).mp hj) hpq
section SWC
variable {l : Launch} {ε : gEnv} {κ : gMD} {f n K : Nat} {av : List Value} {M M' : gMem} {rv : Option Value} {hh : List (Nat × Nat × Nat × Nat)}
theorem gPcX_sw (sz : Nat) : gPcX (swE ε) av (swM M) sz = gPcX ε av M sz := by
  unfold gPcX
  rw [gW_sw, gA_sw, gDj_sw]
  rfl
theorem gPc_sw (sz : Nat) : gPc (swE ε) av (swM M) sz = gPc ε av M sz := by
  unfold gPc
  rw [gW_sw, gDj_sw]
  rfl
theorem gQ_sw (sz : Nat) : gQ (swE ε) rv (swM M) sz = gQ ε rv M sz := by
  unfold gQ
  rw [gW_sw, gA_sw]
  rfl
/-- what holds of the first object's call holds of the second one's -/
theorem gCtK_sw (h : gCtK l (swE ε) κ f n K av (swM M) rv (swM M')) : gCtK l ε κ f n K av M rv M' := by
  intro sz
  have := h sz
  rw [gPcX_sw, gA_sw, gQ_sw] at this
  exact this
theorem gCtL_sw (h : gCtL l (swE ε) κ hh f n av (swM M) rv (swM M')) : gCtL l ε κ hh f n av M rv M' := by
  intro sz
  have := h sz
  rw [gPcX_sw, gA_sw, gQ_sw] at this
  exact this
theorem gCt_sw (h : gCt l (swE ε) κ f n av (swM M) rv (swM M')) : gCt l ε κ f n av M rv M' := by
  intro sz
  have := h sz
  rw [gPc_sw, gA_sw, gQ_sw] at this
  exact this
end SWC
/-- the second object's call -/
def onQ (f : gMem → Option (Int32 × gMem)) (M : gMem) : Option (Int32 × gMem) := (f (swM M)).map (fun r => (r.1, swM r.2))
theorem onQ_s {f : gMem → Option (Int32 × gMem)} {M : gMem} {q : Int32 × gMem} (h : onQ f M = some q) : f (swM M) = some (q.1, swM q.2) := by
  unfold onQ at h
  obtain ⟨r, h1, h2⟩ := gOm h
  rw [← h2, h1]
  show some r = some (r.1, swM (swM r.2))
  rw [swM_swM]
theorem gXw_q0 {ε : gEnv} (h : gXw (swE ε)) : gHas ε 38 0 (3, 7, [some (20, 0), some (21, 0), some (38, 1), some (38, 3), some (38, 6), some (38, 8)]) := by
  refine ⟨?_, rfl⟩
  have h1 : (18, 0) ∈ ε.2.2.2.map (fun p => (sw p.1, p.2)) := h.2 0 (by decide)
  obtain ⟨p, hp, e⟩ := List.mem_map.mp h1
  have e1 : sw p.1 = 18 := congrArg Prod.fst e
  have e2 : p.2 = 0 := congrArg Prod.snd e
  have e3 : p.1 = 38 := by rw [← sw_sw p.1, e1]; rfl
  have : p = (38, 0) := by rw [← e3, ← e2]
  rw [← this]
  exact hp
