-- ===== GO for the law's entry: the script, the room that is used up call by call, the end =====
def gTm (b Ls : Nat) (xs : Nat → Int32) : Launch → (Nat → Prop) → State → Code → Prop := fun l A s c => l.stackTraces = false ∧ gTh s ∧ gZq A s s.heap ∧ va_X b Ls xs s s.heap ∧ b < s.heap.size ∧ (∀ q, A q → s.heap.size ≤ q)
def gFm (b Ls : Nat) (xs : Nat → Int32) (k n : Nat) : gFin := (gTm b Ls xs, (k, n), fun below args s t => args = #[Value.ref b] → lw_Z below #[Value.ref b] s t)
def k_law : gMD := (x, code, 7, ret)
/-- the script's int at the place i -/
def gSc (Ls : Nat) (xs : Nat → Int32) (i : Int32) : Option Int32 := gRd Ls xs i
section GOLAW
variable {l : Launch} {ε : gEnv} {κ : gMD} {R : Room} {F : gFin} {pc : Nat} {L : List (Nat × Value)} {st : List Value} {M M1 : gMem} {b Ls : Nat} {xs : Nat → Int32} {ka na : Nat}
theorem g_sld {i r : Int32} (d : decode κ.2.1 pc = .ok (.iaload, 1)) (hr : gSc Ls xs i = some r) (kk : gGo l ε κ R (gFm b Ls xs ka na) (pc + 1) L (.int r :: st) M) : gGo l ε κ R (gFm b Ls xs ka na) pc L (.int i :: .ref b :: st) M := by
  intro p e s m args below meth c H locs ls C hP hS h
  obtain ⟨hl0, hT, hZ, hX, hb, hA⟩ := C.2.2.2.2.2.2.2.2.2.2.1
  obtain ⟨hin, rfl⟩ := gRd_s hr
  exact va_sld C.1 C.2.1 hX hb (fun q => Nat.not_le.mpr hb (hA b q)) hS hin d (kk p e s m args below meth c H locs ls C hP hS h)
theorem g_slen (d : decode κ.2.1 pc = .ok (.arraylength, 1)) (kk : gGo l ε κ R (gFm b Ls xs ka na) (pc + 1) L (.int (Int32.ofNat Ls) :: st) M) : gGo l ε κ R (gFm b Ls xs ka na) pc L (.ref b :: st) M := by
  intro p e s m args below meth c H locs ls C hP hS h
  obtain ⟨hl0, hT, hZ, hX, hb, hA⟩ := C.2.2.2.2.2.2.2.2.2.2.1
  exact va_slen C.1 C.2.1 hX hb (fun q => Nat.not_le.mpr hb (hA b q)) hS d (kk p e s m args below meth c H locs ls C hP hS h)
/-- room may be counted as used -/
theorem g_use {k2 n2 : Nat} (h1 : ka ≤ k2) (h2 : na ≤ n2) (h3 : k2 ≤ R.cells) (h4 : n2 ≤ R.slots) (kk : gGo l ε κ R (gFm b Ls xs k2 n2) pc L st M) : gGo l ε κ R (gFm b Ls xs ka na) pc L st M :=
  fun p e s m args below meth c H locs ls C hP hS h => W.widen h1 h2 (kk p e s m args below meth c H locs ls ⟨C.1, C.2.1, C.2.2.1, C.2.2.2.1, C.2.2.2.2.1, C.2.2.2.2.2.1, C.2.2.2.2.2.2.1, C.2.2.2.2.2.2.2.1, C.2.2.2.2.2.2.2.2.1, C.2.2.2.2.2.2.2.2.2.1, C.2.2.2.2.2.2.2.2.2.2.1, h3, h4⟩ hP hS h)
/-- behind a call of the law's own -/
theorem g_runL {p : Program} {e : Env} {s : State} {m : MethodId} {args : Array Value} {below : List Frame} {meth : Method} {c : Code} {H : Heap} {locs : List Loc} {Q : State → Prop} {ls : Array Slot} {st0 rest : List Value} {a : Array Value} {cs sl mc ms : Nat} {rv : Option Value} (hr : va_Run p l e R s m args below meth c H locs cs sl mc ms (F0 m pc ls st0) rest (gQ ε rv M1 H.size a) (gA ε H.size)) (hS : va_S (gA ε s.heap.size) s.heap H locs)
    (kk : ∀ (H1 : Heap) (locs1 : List Loc), va_P ε.1 gCl (gW ε M1) H1 → va_S (gA ε s.heap.size) s.heap H1 locs1 → W p l e R s m args below meth c H1 locs1 (cs + mc) (sl + ms) Q (F0 m (pc + 3) ls (rv.toList ++ rest))) : W p l e R s m args below meth c H locs cs sl Q (F0 m pc ls st0) := by
  intro T hT X
  obtain ⟨v, st₀, t, T', L, h0, X', hL, e1, e2, ⟨⟨hv, hp⟩, hz, hk⟩, st⟩ := hr T hT X
  cases hv
  rw [h0] at hz hk
  have hA : ∀ q, gA ε H.size q → gA ε s.heap.size q := fun q h => gA_mono hS.1 h
  obtain ⟨t2, a1, b1⟩ := kk T'.heap (locs ++ L) (by rw [e1]; exact hp)
    ⟨Nat.le_trans hS.1 (by rw [e1]; exact hz), fun q h1 h2 => by rw [e1, hk q (Nat.lt_of_lt_of_le h1 hS.1) (fun z => h2 (hA q z))]; exact hS.2.1 q h1 h2, fun q hq => by
      rcases List.mem_append.mp hq with h | h
      · exact hS.2.2 q h
      · exact hA _ (hL q h)⟩ T' rfl X'
  exact ⟨t2, st t2 a1, b1⟩
theorem g_callLaw {κ' : gMD} {hh : List (Nat × Nat × Nat × Nat)} {f' n' : Nat} {As rest : List Value} {idx k : Nat} {r : Int32} (ct : l.stackTraces = false → gCtL l ε κ' hh f' n' As M (some (.int r)) M1) (d : decode κ.2.1 pc = .ok (.invokestatic idx, 3)) (cw : Cond.codeWith κ'.1 κ'.2.1 κ'.2.2.1 κ'.2.2.2 hh ∈ gWs) (w1 : Cond.initialized κ'.1.cls ∈ gWs) (w2 : Cond.static κ'.1 ∈ gWs) (hl : Cond.methodLink κ.1.cls idx κ'.1 ∈ gWs) (hd : κ'.1.cls ≠ "java/lang/invoke/MethodHandle" ∧ κ'.1.cls ≠ "java/lang/invoke/VarHandle" ∧ (parseMethodDescriptor κ'.1.desc).map (fun d => d.parameters.length) = some k) (hn : As.length = k) (hst : st = As.reverse ++ rest) (hW : (rest.map fun v => v.category).sum ≤ 8) (hR : f' + 1 ≤ R.frames ∧ 8 + (κ'.2.2.1 + 11) + n' ≤ R.locals) (hc : ka + 1 ≤ R.cells) (hs : na + 6 ≤ R.slots)
    (kk : gGo l ε κ R (gFm b Ls xs (ka + 1) (na + 6)) (pc + 3) L (.int r :: rest) M1) : gGo l ε κ R (gFm b Ls xs ka na) pc L st M := by
  intro p e s m args below meth c H locs ls C hP hS h
  obtain ⟨hl0, hT, hZ, hX, hb, hA⟩ := C.2.2.2.2.2.2.2.2.2.2.1
  have hw := C.2.2.2.2.2.1
  have hG : GoodIn gWs (gMwL κ' hh) := by
    intro w hw
    rcases List.mem_cons.mp hw with rfl | h
    · exact ⟨cw, good_of_word (List.mem_filter.mp cw).2⟩
    · exact ⟨h, good_of_word (List.mem_filter.mp h).2⟩
  have cs : vx_CSW R s args κ.1.cls idx κ'.1 κ'.2.1 κ'.2.2.1 κ'.2.2.2 hh (gMwL κ' hh) (gRX f' n') 1 6 k := by
    refine ⟨⟨rfl, rfl, hR.1, hR.2, pay_in hw hG, List.mem_cons_self⟩, hw _ cw, hw _ w1, ⟨hd.1, hd.2.1⟩, fun sig hsig => ?_, hw _ hl, hw _ w2⟩
    have h2 := hd.2.2
    rw [hsig] at h2
    exact (Option.some.inj h2).symm
  exact g_runL (vx_runSW (As := As) (rest := rest) ⟨C.1, C.2.1, C.2.2.2.1, C.2.2.2.2.1, hw⟩ (ct hl0 H.size) cs ⟨gPcX_blind, g_preX C hT hZ hP hS _⟩ rfl hn h.1 hst (lv_room hW) d ⟨hc, hs⟩) hS
    (fun H1 locs1 hP1 hS1 => kk p e s m args below meth c H1 locs1 ls ⟨C.1, C.2.1, C.2.2.1, C.2.2.2.1, C.2.2.2.2.1, C.2.2.2.2.2.1, C.2.2.2.2.2.2.1, C.2.2.2.2.2.2.2.1, C.2.2.2.2.2.2.2.2.1, C.2.2.2.2.2.2.2.2.2.1, C.2.2.2.2.2.2.2.2.2.2.1, hc, hs⟩ hP1 hS1 h)
/-- the law answers true -/
theorem g_lawEnd (d : decode code pc = .ok (.ireturn, 1)) (h1 : ka ≤ 601024) (h2 : na ≤ 7293034) : gGo l ε k_law room_1 (gFm b Ls xs ka na) pc L [.int 1] M := by
  intro p e s m args below meth c H locs ls C hP hS h
  obtain ⟨hl0, hT, hZ, hX, hb, hA⟩ := C.2.2.2.2.2.2.2.2.2.2.1
  by_cases ha : args = #[Value.ref b]
  · subst ha
    have key : W p l e room_1 s m #[Value.ref b] below meth c H locs ka na (lw_Z below #[Value.ref b] s) (F0 m pc ls [.int 1]) := by
      refine va_forget (fun q hq => hA _ (hS.2.2 q hq)) ?_
      refine W.widen h1 h2 ?_
      exact lw_ret C.1 C.2.1 C.2.2.1 C.2.2.2.2.2.2.2.2.1 d
    intro T hT1 X
    obtain ⟨t, a1, b1⟩ := key T hT1 X
    exact ⟨t, a1, fun _ => b1⟩
  · intro T hT1 X
    exact ⟨_, Steps.refl _, fun q => absurd q ha⟩
end GOLAW
