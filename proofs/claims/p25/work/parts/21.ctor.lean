-- ===== making the worlds: constructors; the object that is made stands first, what is made for it behind =====
def gTyA (cA : Nat → ClassId) : List (ClassId × FieldType) := [(cA 0, .int), (cA 1, .boolean), (cA 2, .object "DropSignals$Evening")]
def cA0 (h0 sz : Nat) : Nat → Prop := fun q => q = h0 ∨ sz ≤ q
def cCx (l : Launch) (D : va_G) (cA : Nat → ClassId) (κ : gMD) (R : Room) (h0 k n : Nat) (p : Program) (s : State) (m : MethodId) (args : Array Value) (meth : Method) (c : Code) : Prop :=
  p.tables.exec = Jvm.exec ∧ c.code = κ.2.1 ∧ meth.sig.returnType = κ.2.2.2 ∧ c.maxLocals = κ.2.2.1 ∧ s.vm.findClass κ.1.cls = some m.cls ∧ (∀ w ∈ gWs, w.before args s = true) ∧ gNw s ∧ va_K D gCl (gTyA cA) s ∧ meth.locks = false ∧ (κ.1.name = "<init>" → meth.name = "<init>") ∧ va_AO "DropSignals$Evening" s ∧ k ≤ R.cells ∧ n ≤ R.slots
abbrev cFin := List Frame → Array Value → State → State → Prop
def cGo (l : Launch) (D : va_G) (cA : Nat → ClassId) (κ : gMD) (R : Room) (h0 : Nat) (Q : cFin) (pc : Nat) (L : List (Nat × Value)) (st : List Value) (ws : va_W) (k n : Nat) : Prop :=
  ∀ (p : Program) (e : Env) (s : State) (m : MethodId) (args : Array Value) (below : List Frame) (meth : Method) (c : Code) (H : Heap) (locs : List Loc) (ls : Array Slot), cCx l D cA κ R h0 k n p s m args meth c → va_P D gCl ws H → va_D (cA0 h0 s.heap.size) ws → va_S (cA0 h0 s.heap.size) s.heap H locs → lv_has ls κ.2.2.1 L → W p l e R s m args below meth c H locs k n (Q below args s) (F0 m pc ls st)
def cQ (D : va_G) (h0 sz : Nat) (Post : va_W → Prop) : Array Value → State → Outcome → State → Prop := fun _ st o t => (o = .returned none ∧ ∃ ws, Post ws ∧ va_P D gCl ws t.heap ∧ va_D (cA0 h0 sz) ws) ∧ va_F (cA0 h0 sz) st t
def cRm (f n mc ms : Nat) : Room := { frames := f, cells := mc, slots := ms, locals := n }
def cPc (D : va_G) (cA : Nat → ClassId) (h0 sz : Nat) (e0 : va_E) : Array Value → State → Prop := va_Pc [.ref h0] (fun U => U.heap.size = sz ∧ va_P D gCl [(h0, e0)] U.heap ∧ va_K D gCl (gTyA cA) U ∧ gNw U ∧ va_AO "DropSignals$Evening" U)
def cCt (l : Launch) (D : va_G) (cA : Nat → ClassId) (κ : gMD) (f n mc ms : Nat) (h0 : Nat) (e0 : va_E) (Post : va_W → Prop) : Prop :=
  ∀ sz, Met l κ.1 (gMw κ) (cRm f n mc ms) (cPc D cA h0 sz e0) (cQ D h0 sz Post) mc ms (cA0 h0 sz)
def cFn (D : va_G) (h0 mc ms : Nat) (Post : va_W → Prop) : cFin := fun below args s => MQ below (cQ D h0 s.heap.size Post) args s mc ms (cA0 h0 s.heap.size)
theorem cPc_blind {D : va_G} {cA : Nat → ClassId} {h0 sz : Nat} {e0 : va_E} : FrameBlind (cPc D cA h0 sz e0) := by
  intro a U g mk q
  obtain ⟨q0, q1, qP, qK, qN, qO⟩ := q
  exact ⟨q0, q1, qP, va_K.moved (u := U) (U := U.calling g mk a) (Vm.Alike.refl U.vm) qK, gNw.same (s := U) (U := U.calling g mk a) rfl qN, va_AO.moved (u := U) (U := U.calling g mk a) (Vm.Alike.refl U.vm) qO⟩
theorem cCt_of {l : Launch} {D : va_G} {cA : Nat → ClassId} {κ : gMD} {f n mc ms h0 : Nat} {e0 : va_E} {Post : va_W → Prop} (hy : plainName κ.1.cls = true) (hin : κ.1.name = "<init>") (hlen : 1 ≤ κ.2.2.1) (h : cGo l D cA κ (cRm f n mc ms) h0 (cFn D h0 mc ms Post) 0 [(0, .ref h0)] [] [(h0, e0)] 0 0) : cCt l D cA κ f n mc ms h0 e0 Post := by
  intro sz
  refine Met.ofW (cc := κ.2.1) (maxL := κ.2.2.1) (ret := κ.2.2.2) hy rfl ?_
  intro p e s m args below meth c s₁ B hml hv
  obtain ⟨rfl, hsz, hP, hK, hN, hO⟩ := hv
  have hts := atoms_spec (ws := gMw κ) B.pre
  have hl := lv_entry [.ref h0] (n := κ.2.2.1) hlen
  rw [lg_entry_eq]
  subst hsz
  have hnm : meth.name = "<init>" := (name_of_methodNamed B.named B.method).1.trans hin
  exact h p e s m _ below meth c s.heap [] _ ⟨B.exec, B.bytes, B.returns, hml, findClass_of_methodNamed B.named, fun w hw => hts w (List.mem_cons_of_mem _ hw), hN, hK, B.notSynchronized, fun _ => hnm, hO, Nat.zero_le _, Nat.zero_le _⟩ hP
    ⟨fun i j x y hi hj _ => by
      have h1 : i < 1 := (List.getElem?_eq_some_iff.mp hi).1
      have h2 : j < 1 := (List.getElem?_eq_some_iff.mp hj).1
      omega, fun i q hi => by
      have h1 : i < 1 := (List.getElem?_eq_some_iff.mp hi).1
      rw [show i = 0 by omega] at hi
      cases hi
      exact Or.inl rfl⟩ va_S.rf hl
section CTOR
variable {l : Launch} {D : va_G} {cA : Nat → ClassId} {κ : gMD} {R : Room} {h0 : Nat} {Q : cFin} {pc : Nat} {L : List (Nat × Value)} {st : List Value} {ws rest : va_W} {k n : Nat}
theorem c_aload_n {k0 : Fin 4} {i : Nat} {x : Nat} (d : decode κ.2.1 pc = .ok (.aload_n k0, 1)) (hi : (k0 : Nat) = i) (j : Nat) (hj : L[j]? = some (i, .ref x)) (kk : cGo l D cA κ R h0 Q (pc + 1) L (.ref x :: st) ws k n) : cGo l D cA κ R h0 Q pc L st ws k n :=
  fun p e s m args below meth c H locs ls C hP hD hS h => lv_aload_n C.1 C.2.1 d hi (lv_at h j hj) (kk p e s m args below meth c H locs ls C hP hD hS h)
theorem c_iload_n {k0 : Fin 4} {i : Nat} {x : Int32} (d : decode κ.2.1 pc = .ok (.iload_n k0, 1)) (hi : (k0 : Nat) = i) (j : Nat) (hj : L[j]? = some (i, .int x)) (kk : cGo l D cA κ R h0 Q (pc + 1) L (.int x :: st) ws k n) : cGo l D cA κ R h0 Q pc L st ws k n :=
  fun p e s m args below meth c H locs ls C hP hD hS h => lv_iload_n C.1 C.2.1 d hi (lv_at h j hj) (kk p e s m args below meth c H locs ls C hP hD hS h)
theorem c_istore_n {k0 : Fin 4} {i : Nat} {x : Int32} {L' : List (Nat × Value)} (d : decode κ.2.1 pc = .ok (.istore_n k0, 1)) (hi : (k0 : Nat) = i) (hn : i < κ.2.2.1) (hl : (i, Value.int x) :: L.filter (fun q => !(q.1 == i) && !(q.1 + 1 == i && q.2.category == 2)) = L') (kk : cGo l D cA κ R h0 Q (pc + 1) L' st ws k n) : cGo l D cA κ R h0 Q pc L (.int x :: st) ws k n :=
  fun p e s m args below meth c H locs ls C hP hD hS h => lv_istore_n C.1 C.2.1 d hi h hn hl (fun ls h => kk p e s m args below meth c H locs ls C hP hD hS h)
theorem c_iinc {i j : Nat} {z : Int} {x v : Int32} {L' : List (Nat × Value)} (d : decode κ.2.1 pc = .ok (.iinc i z, 3)) (hj : L[j]? = some (i, .int x)) (hv : x + Int32.ofInt z = v) (hn : i < κ.2.2.1) (hl : (i, Value.int v) :: L.filter (fun q => !(q.1 == i) && !(q.1 + 1 == i && q.2.category == 2)) = L') (kk : cGo l D cA κ R h0 Q (pc + 3) L' st ws k n) : cGo l D cA κ R h0 Q pc L st ws k n :=
  fun p e s m args below meth c H locs ls C hP hD hS h => lv_iinc C.1 C.2.1 d h hj hv hn hl (fun ls h => kk p e s m args below meth c H locs ls C hP hD hS h)
theorem c_iconst {z : Int} {v : Int32} (d : decode κ.2.1 pc = .ok (.iconst z, 1)) (hv : Int32.ofInt z = v) (kk : cGo l D cA κ R h0 Q (pc + 1) L (.int v :: st) ws k n) : cGo l D cA κ R h0 Q pc L st ws k n :=
  fun p e s m args below meth c H locs ls C hP hD hS h => lv_iconst C.1 C.2.1 d hv (kk p e s m args below meth c H locs ls C hP hD hS h)
theorem c_bipush {z : Int} {v : Int32} (d : decode κ.2.1 pc = .ok (.bipush z, 2)) (hv : (Int8.ofInt z).toInt32 = v) (kk : cGo l D cA κ R h0 Q (pc + 2) L (.int v :: st) ws k n) : cGo l D cA κ R h0 Q pc L st ws k n :=
  fun p e s m args below meth c H locs ls C hP hD hS h => lv_bipush C.1 C.2.1 d hv (kk p e s m args below meth c H locs ls C hP hD hS h)
theorem c_sipush {z : Int} {v : Int32} (d : decode κ.2.1 pc = .ok (.sipush z, 3)) (hv : (Int16.ofInt z).toInt32 = v) (kk : cGo l D cA κ R h0 Q (pc + 3) L (.int v :: st) ws k n) : cGo l D cA κ R h0 Q pc L st ws k n :=
  fun p e s m args below meth c H locs ls C hP hD hS h => lv_sipush C.1 C.2.1 d hv (kk p e s m args below meth c H locs ls C hP hD hS h)
theorem c_goto {off : Int} {tgt : Nat} (d : decode κ.2.1 pc = .ok (.goto off, 3)) (ht : (pc : Int) + off = (tgt : Int)) (kk : cGo l D cA κ R h0 Q tgt L st ws k n) : cGo l D cA κ R h0 Q pc L st ws k n :=
  fun p e s m args below meth c H locs ls C hP hD hS h => lv_goto C.1 C.2.1 d ht (kk p e s m args below meth c H locs ls C hP hD hS h)
theorem c_icmp_ge {x y : Int32} {off : Int} {tgt : Nat} (d : decode κ.2.1 pc = .ok (.if_icmp .ge off, 3)) (ht : (pc : Int) + off = (tgt : Int)) (kt : y ≤ x → cGo l D cA κ R h0 Q tgt L st ws k n) (kf : ¬ y ≤ x → cGo l D cA κ R h0 Q (pc + 3) L st ws k n) : cGo l D cA κ R h0 Q pc L (.int y :: .int x :: st) ws k n :=
  fun p e s m args below meth c H locs ls C hP hD hS h => lv_icmp_ge C.1 C.2.1 d ht (fun q => kt q p e s m args below meth c H locs ls C hP hD hS h) (fun q => kf q p e s m args below meth c H locs ls C hP hD hS h)
theorem c_dup {v : Value} (d : decode κ.2.1 pc = .ok (.dup, 1)) (hv : v.category = 1) (kk : cGo l D cA κ R h0 Q (pc + 1) L (v :: v :: st) ws k n) : cGo l D cA κ R h0 Q pc L (v :: st) ws k n :=
  fun p e s m args below meth c H locs ls C hP hD hS h => lv_dup C.1 C.2.1 d hv (kk p e s m args below meth c H locs ls C hP hD hS h)
theorem c_obj {idx : Nat} {a : Nat} (d : decode κ.2.1 pc = .ok (.invokespecial idx, 3)) (w1 : Cond.methodLink κ.1.cls idx objectInit ∈ gWs) (w2 : Cond.instanceMethod objectInit ∈ gWs) (w3 : Cond.code objectInit ⟨#[0xb1]⟩ 1 none ∈ gWs) (hf : 1 ≤ R.frames) (hl : (st.map fun v => v.category).sum + 12 ≤ R.locals) (kk : cGo l D cA κ R h0 Q (pc + 3) L st ws k n) : cGo l D cA κ R h0 Q pc L (.ref a :: st) ws k n := by
  intro p e s m args below meth c H locs ls C hP hD hS h
  have hw := C.2.2.2.2.2.1
  refine W.objInit C.1 C.2.1 C.2.2.2.2.1 (hw _ w1) (hw _ w2) (hw _ w3) rfl (h.1.trans C.2.2.2.1.symm) rfl d hf (by show 2 * 0 + _ + 12 ≤ _; omega) ?_
  exact kk p e s m args below meth c H locs ls C hP hD hS h
theorem c_prim {s : State} {cA' : ClassId} (z : Nat) {ty : FieldType} {tys : List (ClassId × FieldType)} (hK : va_K D gCl (gTyA cA) s) (hK' : va_K D gCl (gTyA cA ++ [(cA', ty)]) s) (hz : (gTyA cA)[z]? = some (cA z, ty)) (hp : ∀ C, ty ≠ .object C) : cA' = cA z := by
  have h1 := (hK.2 z _ hz).2
  have h2 := (hK'.2 3 (cA', ty) rfl).2
  cases ty <;> first | exact absurd rfl (hp _) | exact (Option.some.inj (h1.symm.trans h2)).symm
theorem c_newI {z : Int32} {N : Nat} (d : decode κ.2.1 pc = .ok (.newarray .int, 2)) (w : Cond.arrayClass .int ∈ gWs) (hz : ¬ z < 0) (hN : z.toNatClampNeg = N) (hb : N * componentBytes .int ≤ 536870912) (hc : k + 1 ≤ R.cells) (hs : n + N ≤ R.slots) (kk : ∀ q, cGo l D cA κ R h0 Q (pc + 2) L (.ref q :: st) (ws ++ [(q, .inl (cA 0, N, .inl (fun _ => 0)))]) (k + 1) (n + N)) : cGo l D cA κ R h0 Q pc L (.int z :: st) ws k n := by
  intro p e s m args below meth c H locs ls C hP hD hS h
  refine va_newa (D := D) (atype := .int) (a0 := (N, .inl (fun _ => 0))) C.1 C.2.1 (C.2.2.2.2.2.1 _ w) rfl C.2.2.2.2.2.2.2.1 hP hD hS (fun q hq => Or.inr hq) (fun _ => rfl) hz hN hb hc hs d (fun q cA' H1 hK' hP' hD' hS' => ?_)
  have e1 : cA' = cA 0 := c_prim (tys := []) 0 C.2.2.2.2.2.2.2.1 hK' rfl (fun C h => nomatch h)
  subst e1
  exact kk q p e s m args below meth c H1 locs ls ⟨C.1, C.2.1, C.2.2.1, C.2.2.2.1, C.2.2.2.2.1, C.2.2.2.2.2.1, C.2.2.2.2.2.2.1, C.2.2.2.2.2.2.2.1, C.2.2.2.2.2.2.2.2.1, C.2.2.2.2.2.2.2.2.2.1, C.2.2.2.2.2.2.2.2.2.2.1, hc, hs⟩ hP' hD' hS' h
theorem c_newZ {z : Int32} {N : Nat} (d : decode κ.2.1 pc = .ok (.newarray .boolean, 2)) (w : Cond.arrayClass .boolean ∈ gWs) (hz : ¬ z < 0) (hN : z.toNatClampNeg = N) (hb : N * componentBytes .boolean ≤ 536870912) (hc : k + 1 ≤ R.cells) (hs : n + N ≤ R.slots) (kk : ∀ q, cGo l D cA κ R h0 Q (pc + 2) L (.ref q :: st) (ws ++ [(q, .inl (cA 1, N, .inl (fun _ => 0)))]) (k + 1) (n + N)) : cGo l D cA κ R h0 Q pc L (.int z :: st) ws k n := by
  intro p e s m args below meth c H locs ls C hP hD hS h
  refine va_newa (D := D) (atype := .boolean) (a0 := (N, .inl (fun _ => 0))) C.1 C.2.1 (C.2.2.2.2.2.1 _ w) rfl C.2.2.2.2.2.2.2.1 hP hD hS (fun q hq => Or.inr hq) (fun _ => rfl) hz hN hb hc hs d (fun q cA' H1 hK' hP' hD' hS' => ?_)
  have e1 : cA' = cA 1 := c_prim (tys := []) 1 C.2.2.2.2.2.2.2.1 hK' rfl (fun C h => nomatch h)
  subst e1
  exact kk q p e s m args below meth c H1 locs ls ⟨C.1, C.2.1, C.2.2.1, C.2.2.2.1, C.2.2.2.2.1, C.2.2.2.2.2.1, C.2.2.2.2.2.2.1, C.2.2.2.2.2.2.2.1, C.2.2.2.2.2.2.2.2.1, C.2.2.2.2.2.2.2.2.2.1, C.2.2.2.2.2.2.2.2.2.2.1, hc, hs⟩ hP' hD' hS' h
theorem c_newE {z : Int32} {N idx : Nat} (d : decode κ.2.1 pc = .ok (.anewarray idx, 3)) (w : Cond.classLink κ.1.cls idx "DropSignals$Evening" ∈ gWs) (hz : ¬ z < 0) (hN : z.toNatClampNeg = N) (hb : N * 4 ≤ 536870912) (hc : k + 1 ≤ R.cells) (hs : n + N ≤ R.slots) (kk : ∀ q, cGo l D cA κ R h0 Q (pc + 3) L (.ref q :: st) (ws ++ [(q, .inl (cA 2, N, .inr (.inr (.inr (.inr (fun _ => none))))))]) (k + 1) (n + N)) : cGo l D cA κ R h0 Q pc L (.int z :: st) ws k n := by
  intro p e s m args below meth c H locs ls C hP hD hS h
  refine va_newq (D := D) C.1 C.2.1 C.2.2.2.2.1 (C.2.2.2.2.2.1 _ w) C.2.2.2.2.2.2.2.2.2.2.1 C.2.2.2.2.2.2.2.1 hP hD hS (fun q hq => Or.inr hq) hz hN hb hc hs d (fun q cA' H1 hK' hP' hD' hS' => ?_)
  have e1 : cA' = cA 2 := by
    obtain ⟨_, _, _, _, _, h1⟩ := (C.2.2.2.2.2.2.2.1.2 2 (cA 2, .object "DropSignals$Evening") rfl).2
    obtain ⟨_, _, _, _, _, h2⟩ := (hK'.2 3 (cA', .object "DropSignals$Evening") rfl).2
    exact (Option.some.inj (h1.symm.trans h2)).symm
  subst e1
  exact kk q p e s m args below meth c H1 locs ls ⟨C.1, C.2.1, C.2.2.1, C.2.2.2.1, C.2.2.2.2.1, C.2.2.2.2.2.1, C.2.2.2.2.2.2.1, C.2.2.2.2.2.2.2.1, C.2.2.2.2.2.2.2.2.1, C.2.2.2.2.2.2.2.2.2.1, C.2.2.2.2.2.2.2.2.2.2.1, hc, hs⟩ hP' hD' hS' h
/-- a new object of the class ci, its fields at their defaults -/
def gNo (own : String) (idx ci : Nat) (fs : List Value) : Prop := ∃ (C : String) (T : u_T) (N : Nat) (t : Nat → FieldType), gCl[ci]? = some (C, T, N) ∧ (∀ w ∈ u_ws C T N, w ∈ gWs) ∧ (∀ k, k < N → parseFieldDescriptor (T k).2.2.1 = some (t k)) ∧ Cond.classLink own idx C ∈ gWs ∧ Cond.instantiable C N ∈ gWs ∧ Cond.initialized C ∈ gWs ∧ (∀ j, j < N → defaultValue (t j) = vp_V fs j) ∧ fs.length = N
theorem c_new {idx ci : Nat} {fs : List Value} (d : decode κ.2.1 pc = .ok (.new idx, 3)) (hn : gNo κ.1.cls idx ci fs) (hc : k + 1 ≤ R.cells) (hs : n + fs.length ≤ R.slots) (kk : ∀ q, cGo l D cA κ R h0 Q (pc + 3) L (.ref q :: st) (ws ++ [(q, .inr (ci, fs))]) (k + 1) (n + fs.length)) : cGo l D cA κ R h0 Q pc L st ws k n := by
  intro p e s m args below meth c H locs ls C hP hD hS h
  obtain ⟨C0, T, N, t, h1, h2, h3, h4, h5, h6, h7, h8⟩ := hn
  have hw := C.2.2.2.2.2.1
  subst h8
  refine va_new (D := D) C.1 C.2.1 hw h2 t h3 C.2.2.2.2.1 (hw _ h4) (hw _ h5) (hw _ h6) C.2.2.2.2.2.2.2.1 hP hD hS (fun q hq => Or.inr hq) h1 h7 hc hs d (fun q H1 hP' hD' hS' => ?_)
  exact kk q p e s m args below meth c H1 locs ls ⟨C.1, C.2.1, C.2.2.1, C.2.2.2.1, C.2.2.2.2.1, C.2.2.2.2.2.1, C.2.2.2.2.2.2.1, C.2.2.2.2.2.2.2.1, C.2.2.2.2.2.2.2.2.1, C.2.2.2.2.2.2.2.2.2.1, C.2.2.2.2.2.2.2.2.2.2.1, hc, hs⟩ hP' hD' hS' h
/-- a final field that holds a reference -/
def gFf (own : String) (idx ci k : Nat) (ty : FieldType) : Prop := ∃ (C : String) (T : u_T) (N : Nat), gCl[ci]? = some (C, T, N) ∧ (∀ w ∈ u_ws C T N, w ∈ gWs) ∧ k < N ∧ Cond.fieldLink own idx (T k).1 (T k).2.1 (T k).2.2.1 ∈ gWs ∧ (∃ t : Nat → FieldType, ∀ k, k < N → parseFieldDescriptor (T k).2.2.1 = some (t k)) ∧ (∀ a, a < N → ∀ b, b < N → a ≠ b → (T a).2.1 ≠ (T b).2.1) ∧ (T k).2.2.2 = true ∧ (T k).1 = own ∧ parseFieldDescriptor (T k).2.2.1 = some ty
theorem c_putR {idx ci j v : Nat} {ty : FieldType} {fs fs' : List Value} (d : decode κ.2.1 pc = .ok (.putfield idx, 3)) (hf : gFf κ.1.cls idx ci j ty) (hn : narrow ty (.ref v) = .ref v) (hfit : fits ty (.ref v) = true) (hl : j < fs.length) (he : fs.set j (.ref v) = fs') (kk : cGo l D cA κ R h0 Q (pc + 3) L st ((h0, .inr (ci, fs')) :: rest) k n) (hκ : κ.1.name = "<init>" := by rfl) : cGo l D cA κ R h0 Q pc L (.ref v :: .ref h0 :: st) ((h0, .inr (ci, fs)) :: rest) k n := by
  intro p e s m args below meth c H locs ls C hP hD hS h
  obtain ⟨C0, T, N, h1, h2, h3, h4, ⟨ty0, h5⟩, h6, h7, h8, h9⟩ := hf
  have hw := C.2.2.2.2.2.1
  refine va_putF (D := D) (ref := (T j).1) C.1 C.2.1 hw h2 ty0 h5 h6 C.2.2.2.2.1 C.2.2.2.2.2.2.2.1 hP hD hS 0 rfl h1 j h3 (hw _ h4) (fun _ x => x) h7 (C.2.2.2.2.2.2.2.2.2.1 hκ) h8 h9 hn hfit hl d (fun H1 locs1 hP' hD' hS' => ?_)
  subst he
  exact kk p e s m args below meth c H1 locs1 ls C hP' hD' hS' h
/-- the first object's field, a reference -/
theorem c_getR {idx ci j v : Nat} {fs : List Value} (d : decode κ.2.1 pc = .ok (.getfield idx, 3)) (hf : gFl κ.1.cls idx ci j) (hv : fs[j]? = some (.ref v)) (kk : cGo l D cA κ R h0 Q (pc + 3) L (.ref v :: st) ((h0, .inr (ci, fs)) :: rest) k n) : cGo l D cA κ R h0 Q pc L (.ref h0 :: st) ((h0, .inr (ci, fs)) :: rest) k n := by
  intro p e s m args below meth c H locs ls C hP hD hS h
  obtain ⟨C0, T, N, h1, h2, h3, h4⟩ := hf
  exact va_get (D := D) (ref := (T j).1) C.1 C.2.1 C.2.2.2.2.2.1 h2 C.2.2.2.2.1 C.2.2.2.2.2.2.2.1 hP 0 rfl h1 j h3 (C.2.2.2.2.2.1 _ h4) (fun _ x => x) hv d (kk p e s m args below meth c H locs ls C hP hD hS h)
/-- the row of references that stands second: its length; a place of it is set -/
theorem c_alenE {q N : Nat} {f : Nat → Option Nat} {e1 : Nat × va_E} (d : decode κ.2.1 pc = .ok (.arraylength, 1)) (kk : cGo l D cA κ R h0 Q (pc + 1) L (.int (Int32.ofNat N) :: st) (e1 :: (q, .inl (cA 2, N, .inr (.inr (.inr (.inr f))))) :: rest) k n) : cGo l D cA κ R h0 Q pc L (.ref q :: st) (e1 :: (q, .inl (cA 2, N, .inr (.inr (.inr (.inr f))))) :: rest) k n := by
  intro p e s m args below meth c H locs ls C hP hD hS h
  exact va_alen (D := D) C.1 C.2.1 C.2.2.2.2.2.2.2.1 hP 1 2 rfl (ty := .object "DropSignals$Evening") rfl rfl d (kk p e s m args below meth c H locs ls C hP hD hS h)
theorem c_aastE {q N v j qk : Nat} {f : Nat → Option Nat} {e1 : Nat × va_E} {vs : List Value} {i : Int32} (d : decode κ.2.1 pc = .ok (.aastore, 1)) (hi : i = nI j) (hj : j < N) (hN : N < 2 ^ 31) (hk : rest[qk]? = some (v, .inr (2, vs))) (kk : cGo l D cA κ R h0 Q (pc + 1) L st (e1 :: (q, .inl (cA 2, N, .inr (.inr (.inr (.inr (va_up f j (some v))))))) :: rest) k n) : cGo l D cA κ R h0 Q pc L (.ref v :: .int i :: .ref q :: st) (e1 :: (q, .inl (cA 2, N, .inr (.inr (.inr (.inr f))))) :: rest) k n := by
  intro p e s m args below meth c H locs ls C hP hD hS h
  subst hi
  refine va_astq (D := D) (r := (gN2, gF2, 14)) C.1 C.2.1 C.2.2.2.2.2.2.2.1 hP hD hS 1 2 (qk + 2) 2 rfl rfl hk rfl (vp_in_nI hj hN) d (fun H1 locs1 hP' hD' hS' => ?_)
  rw [nI_clamp (by omega)] at hP' hD'
  exact kk p e s m args below meth c H1 locs1 ls C hP' hD' hS' h
theorem va_D_left {A : Nat → Prop} {w1 w2 : va_W} (h : va_D A (w1 ++ w2)) : va_D A w1 :=
  ⟨fun i j x y hi hj => h.1 i j x y (by rw [List.getElem?_append_left (List.getElem?_eq_some_iff.mp hi).1]; exact hi) (by rw [List.getElem?_append_left (List.getElem?_eq_some_iff.mp hj).1]; exact hj),
   fun i x hi => h.2 i x (by rw [List.getElem?_append_left (List.getElem?_eq_some_iff.mp hi).1]; exact hi)⟩
theorem va_P_left {w1 w2 : va_W} {H : Heap} (h : va_P D gCl (w1 ++ w2) H) : va_P D gCl w1 H :=
  fun i x hi => h i x (by rw [List.getElem?_append_left (List.getElem?_eq_some_iff.mp hi).1]; exact hi)
theorem va_P_right {w1 w2 : va_W} {H : Heap} (h : va_P D gCl (w1 ++ w2) H) : va_P D gCl w2 H :=
  fun i x hi => h (w1.length + i) x (by rw [List.getElem?_append_right (by omega), show w1.length + i - w1.length = i by omega]; exact hi)
theorem c_join {A0 : Nat → Prop} {wr w1 : va_W} {q : Nat} {e0 : va_E} {H H1 : Heap} (hP : va_P D gCl (wr ++ [(q, e0)]) H) (hD : va_D A0 (wr ++ [(q, e0)])) (hA : ∀ x, H.size ≤ x → A0 x) (hk : ∀ x : Nat, x < H.size → ¬ cA0 q H.size x → H1[x]? = H[x]?) (hP1 : va_P D gCl w1 H1) (hD1 : va_D (cA0 q H.size) w1) : va_P D gCl (wr ++ w1) H1 ∧ va_D A0 (wr ++ w1) := by
  have hlast : (wr ++ [(q, e0)])[wr.length]? = some (q, e0) := by rw [List.getElem?_append_right (Nat.le_refl _)]; simp
  have hin : ∀ x, cA0 q H.size x → A0 x := by
    rintro x (rfl | h)
    · exact hD.2 _ _ hlast
    · exact hA x h
  have apart : ∀ (i : Nat) (x : Nat × va_E), wr[i]? = some x → x.1 < H.size ∧ ¬ cA0 q H.size x.1 := by
    intro i x hi
    have hil := (List.getElem?_eq_some_iff.mp hi).1
    have hi2 : (wr ++ [(q, e0)])[i]? = some x := by rw [List.getElem?_append_left hil]; exact hi
    have hl := (hP i x hi2).lt
    refine ⟨hl, ?_⟩
    rintro (h | h)
    · have := hD.1 i wr.length x (q, e0) hi2 hlast h
      omega
    · omega
  refine ⟨va_P.app (fun i x hi => ?_) hP1, va_D.app (va_D_left hD) (hD1.weaken (fun i x _ h => hin x.1 h)) (fun i j x y hx hy hxy => ?_)⟩
  · obtain ⟨g1, g2⟩ := apart i x hi
    exact (va_P_left hP i x hi).kept (hk x.1 g1 g2)
  · exact (apart i x hx).2 (by rw [hxy]; exact hD1.2 j y hy)
theorem c_run {p : Program} {e : Env} {s : State} {m : MethodId} {args : Array Value} {below : List Frame} {meth : Method} {c : Code} {H : Heap} {locs : List Loc} {Q0 : State → Prop} {ls : Array Slot} {st0 sr : List Value} {a : Array Value} {mc ms q : Nat} {e0 : va_E} {Post : va_W → Prop} (hr : va_Run p l e R s m args below meth c H locs k n mc ms (F0 m pc ls st0) sr (cQ D q H.size Post a) (cA0 q H.size)) (hP : va_P D gCl (ws ++ [(q, e0)]) H) (hD : va_D (cA0 h0 s.heap.size) (ws ++ [(q, e0)])) (hS : va_S (cA0 h0 s.heap.size) s.heap H locs)
    (kk : ∀ (w1 : va_W) (H1 : Heap) (locs1 : List Loc), Post w1 → va_P D gCl (ws ++ w1) H1 → va_D (cA0 h0 s.heap.size) (ws ++ w1) → va_S (cA0 h0 s.heap.size) s.heap H1 locs1 → W p l e R s m args below meth c H1 locs1 (k + mc) (n + ms) Q0 (F0 m (pc + 3) ls sr)) : W p l e R s m args below meth c H locs k n Q0 (F0 m pc ls st0) := by
  intro T hT X
  obtain ⟨v, st₀, t, T', L, h0', X', hL, e1, e2, ⟨⟨hv, w1, hw1, hp1, hd1⟩, hz, hk⟩, st⟩ := hr T hT X
  cases hv
  rw [h0'] at hz hk
  have hA : ∀ x, H.size ≤ x → cA0 h0 s.heap.size x := fun x hx => Or.inr (Nat.le_trans hS.1 hx)
  have hlast : (ws ++ [(q, e0)])[ws.length]? = some (q, e0) := by rw [List.getElem?_append_right (Nat.le_refl _)]; simp
  have hin : ∀ x, cA0 q H.size x → cA0 h0 s.heap.size x := by
    rintro x (rfl | h)
    · exact hD.2 _ _ hlast
    · exact hA x h
  obtain ⟨j1, j2⟩ := c_join hP hD hA (H1 := T'.heap) (fun x h1 h2 => by rw [e1]; exact hk x h1 h2) (by rw [e1]; exact hp1) hd1
  obtain ⟨t2, a1, b1⟩ := kk w1 T'.heap (locs ++ L) hw1 j1 j2
    ⟨Nat.le_trans hS.1 (by rw [e1]; exact hz), fun x h1 h2 => by rw [e1, hk x (Nat.lt_of_lt_of_le h1 hS.1) (fun z => h2 (hin x z))]; exact hS.2.1 x h1 h2, fun x hx => by
      rcases List.mem_append.mp hx with h | h
      · exact hS.2.2 x h
      · exact hin _ (hL x h)⟩ T' rfl X'
  exact ⟨t2, st t2 a1, b1⟩
theorem c_pre {s : State} {H : Heap} {args : Array Value} {p : Program} {m : MethodId} {meth : Method} {c : Code} {q : Nat} {e0 : va_E} (C : cCx l D cA κ R h0 k n p s m args meth c) (hP : va_P D gCl (ws ++ [(q, e0)]) H) : ∀ U : State, U.heap = H → s.WarmedH U.vm → cPc D cA q H.size e0 [Value.ref q].toArray U :=
  fun U hU hW => ⟨rfl, by rw [hU], by rw [hU]; exact va_P_right hP, va_K.moved hW.alike C.2.2.2.2.2.2.2.1, C.2.2.2.2.2.2.1.warm hW, va_AO.moved hW.alike C.2.2.2.2.2.2.2.2.2.2.1⟩
/-- a constructor's words -/
def gCaI (κ : gMD) : Prop := gCal κ 0 ∧ κ.1.name = "<init>" ∧ Cond.instanceMethod κ.1 ∈ gWs ∧ κ.2.2.2 = none
theorem c_init {κ' : gMD} {f' n' mc ms q idx : Nat} {e0 : va_E} {Post : va_W → Prop} (ct : cCt l D cA κ' f' n' mc ms q e0 Post) (d : decode κ.2.1 pc = .ok (.invokespecial idx, 3)) (ca : gCaI κ') (hl : Cond.methodLink κ.1.cls idx κ'.1 ∈ gWs) (hW : (st.map fun v => v.category).sum ≤ 8) (hR : f' + 1 ≤ R.frames ∧ 8 + (κ'.2.2.1 + 11) + n' ≤ R.locals) (hc : k + mc ≤ R.cells) (hs : n + ms ≤ R.slots)
    (kk : ∀ w1, Post w1 → cGo l D cA κ R h0 Q (pc + 3) L st (ws ++ w1) (k + mc) (n + ms)) : cGo l D cA κ R h0 Q pc L (.ref q :: st) (ws ++ [(q, e0)]) k n := by
  intro p e s m args below meth c H locs ls C hP hD hS h
  have hw := C.2.2.2.2.2.1
  obtain ⟨⟨c1, c2, c3⟩, c4, c5, c6⟩ := ca
  have ct1 := ct H.size
  obtain ⟨y', b', m', r'⟩ := κ'
  cases c6
  exact c_run (va_runI (As := []) (rest := st) ⟨C.1, C.2.1, C.2.2.2.1, C.2.2.2.2.1, hw⟩ ct1 ⟨callB_of 0 hw (gGood c1) rfl rfl rfl (hw _ c2) (hw _ hl) c3 hR, c4, hw _ c5⟩ ⟨cPc_blind, c_pre C hP⟩ rfl rfl h.1 rfl (lv_room hW) d ⟨hc, hs⟩) hP hD hS
    (fun w1 H1 locs1 hw1 hP1 hD1 hS1 => kk w1 hw1 p e s m args below meth c H1 locs1 ls ⟨C.1, C.2.1, C.2.2.1, C.2.2.2.1, C.2.2.2.2.1, C.2.2.2.2.2.1, C.2.2.2.2.2.2.1, C.2.2.2.2.2.2.2.1, C.2.2.2.2.2.2.2.2.1, C.2.2.2.2.2.2.2.2.2.1, C.2.2.2.2.2.2.2.2.2.2.1, hc, hs⟩ hP1 hD1 hS1 h)
theorem c_initN {κ' : gMD} {f' n' mc ms q idx j : Nat} {e0 : va_E} {Post : va_W → Prop} {host : String} (ct : cCt l D cA κ' f' n' mc ms q e0 Post) (d : decode κ.2.1 pc = .ok (.invokespecial idx, 3)) (ca : gCaI κ') (hl : lw_tbl[j]? = some (Cond.methodLinkNest κ.1.cls idx κ'.1 host)) (hW : (st.map fun v => v.category).sum ≤ 8) (hR : f' + 1 ≤ R.frames ∧ 8 + (κ'.2.2.1 + 11) + n' ≤ R.locals) (hc : k + mc ≤ R.cells) (hs : n + ms ≤ R.slots)
    (kk : ∀ w1, Post w1 → cGo l D cA κ R h0 Q (pc + 3) L st (ws ++ w1) (k + mc) (n + ms)) : cGo l D cA κ R h0 Q pc L (.ref q :: st) (ws ++ [(q, e0)]) k n := by
  intro p e s m args below meth c H locs ls C hP hD hS h
  have hw := C.2.2.2.2.2.1
  obtain ⟨⟨c1, c2, c3⟩, c4, c5, c6⟩ := ca
  have ct1 := ct H.size
  obtain ⟨y', b', m', r'⟩ := κ'
  cases c6
  exact c_run (va_runIN (As := []) (rest := st) (host := host) ⟨C.1, C.2.1, C.2.2.2.1, C.2.2.2.2.1, hw⟩ ct1 ⟨va_cnB 0 hw (gGood c1) rfl rfl rfl (C.2.2.2.2.2.2.1 _ (List.mem_of_getElem? hl) rfl) (hw _ c2) c3 hR, c4, hw _ c5⟩ ⟨cPc_blind, c_pre C hP⟩ rfl rfl h.1 rfl (lv_room hW) d ⟨hc, hs⟩) hP hD hS
    (fun w1 H1 locs1 hw1 hP1 hD1 hS1 => kk w1 hw1 p e s m args below meth c H1 locs1 ls ⟨C.1, C.2.1, C.2.2.1, C.2.2.2.1, C.2.2.2.2.1, C.2.2.2.2.2.1, C.2.2.2.2.2.2.1, C.2.2.2.2.2.2.2.1, C.2.2.2.2.2.2.2.2.1, C.2.2.2.2.2.2.2.2.2.1, C.2.2.2.2.2.2.2.2.2.2.1, hc, hs⟩ hP1 hD1 hS1 h)
theorem c_vret {mc ms : Nat} {Post : va_W → Prop} (d : decode κ.2.1 pc = .ok (.return_, 1)) (hret : κ.2.2.2 = none) (hk : k ≤ mc) (hn : n ≤ ms) (hp : Post ws) : cGo l D cA κ R h0 (cFn D h0 mc ms Post) pc L [] ws k n :=
  fun p e s m args below meth c H locs ls C hP hD hS h => W.widen hk hn (W.vret C.1 C.2.1 (C.2.2.1.trans hret) (fun t ht hW => ⟨⟨rfl, ws, hp, by rw [ht]; exact hP, hD⟩, hS.F ht⟩) hS.2.2 d C.2.2.2.2.2.2.2.2.1)
/-- a whole world of the fixed shape: on in the other logic -/
def cFg (D : va_G) (h0 mc ms k n : Nat) (Post : va_W → Prop) : gFin := (fun l A s c => ∀ q, A q → cA0 h0 s.heap.size q, (k, n), cFn D h0 mc ms Post)
theorem c_go {ε : gEnv} {M : gMem} {mc ms : Nat} {Post : va_W → Prop} (e1 : ε.1 = D) (e2 : ε.2.1 = cA) (hw : ws = gW ε M) (hh : ∃ p ∈ ε.2.2.2, h0 = ε.2.2.1 p.1 p.2) (kk : gGo l ε κ R (cFg D h0 mc ms k n Post) pc L st M) : cGo l D cA κ R h0 (cFn D h0 mc ms Post) pc L st ws k n := by
  intro p e s m args below meth c H locs ls C hP hD hS h
  subst hw
  subst e1
  subst e2
  have hA : ∀ q, cA0 h0 s.heap.size q → gA ε s.heap.size q := by
    rintro q (rfl | hq)
    · exact Or.inl hh
    · exact Or.inr hq
  have hB : ∀ q, gA ε s.heap.size q → cA0 h0 s.heap.size q := by
    rintro q (⟨x, hx, rfl⟩ | hq)
    · obtain ⟨i, hi⟩ := List.getElem?_of_mem hx
      exact hD.2 i (gK ε M x) (by unfold gW; rw [List.getElem?_map, hi]; rfl)
    · exact Or.inr hq
  have hdj : gDj ε := fun i j x y hi hj hxy => hD.1 i j (gK ε M x) (gK ε M y) (by unfold gW; rw [List.getElem?_map, hi]; rfl) (by unfold gW; rw [List.getElem?_map, hj]; rfl) hxy
  exact kk p e s m args below meth c H locs ls ⟨C.1, C.2.1, C.2.2.1, C.2.2.2.1, C.2.2.2.2.1, C.2.2.2.2.2.1, C.2.2.2.2.2.2.1, C.2.2.2.2.2.2.2.1, C.2.2.2.2.2.2.2.2.1, hdj, hB, C.2.2.2.2.2.2.2.2.2.2.2.1, C.2.2.2.2.2.2.2.2.2.2.2.2⟩ hP ⟨hS.1, fun q h1 h2 => hS.2.1 q h1 (fun z => h2 (hA q z)), fun x hx => hA _ (hS.2.2 x hx)⟩ h
theorem c_goRet {ε : gEnv} {M : gMem} {mc ms : Nat} {Post : va_W → Prop} (d : decode κ.2.1 pc = .ok (.return_, 1)) (hret : κ.2.2.2 = none) (e1 : ε.1 = D) (hk : k ≤ mc) (hn : n ≤ ms) (hp : Post (gW ε M)) : gGo l ε κ R (cFg D h0 mc ms k n Post) pc L [] M := by
  intro p e s m args below meth c H locs ls C hP hS h
  subst e1
  have hB := C.2.2.2.2.2.2.2.2.2.2.1
  have hD := gD_of C.2.2.2.2.2.2.2.2.2.1 M s.heap.size
  have hS' : va_S (cA0 h0 s.heap.size) s.heap H locs := ⟨hS.1, fun q h1 h2 => hS.2.1 q h1 (fun z => h2 (hB q z)), fun x hx => hB _ (hS.2.2 x hx)⟩
  exact W.widen hk hn (W.vret C.1 C.2.1 (C.2.2.1.trans hret) (fun t ht hW => ⟨⟨rfl, gW ε M, hp, by rw [ht]; exact hP, hD.weaken (fun _ x _ hx => hB x.1 hx)⟩, hS'.F ht⟩) hS'.2.2 d C.2.2.2.2.2.2.2.2.1)
end CTOR
