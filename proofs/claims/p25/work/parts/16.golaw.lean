-- ===== GO for the law's entry: the script, the end =====
def gTm (b Ls : Nat) (xs : Nat → Int32) : gTT := fun l A s _ => l.stackTraces = false ∧ gTh s ∧ gZq A s s.heap ∧ va_X b Ls xs s s.heap ∧ b < s.heap.size ∧ (∀ q, A q → s.heap.size ≤ q)
def gZm (b : Nat) : gZZ := fun below args s t => args = #[Value.ref b] → lw_Z below #[Value.ref b] s t
abbrev gFm (b Ls : Nat) (xs : Nat → Int32) (k0 n0 k : Nat) : gFin := gFg (gTm b Ls xs) (gZm b) k0 n0 k
def k_law : gMD := (x, code, 8, ret)
/-- the script's int at the place i -/
def gSc (Ls : Nat) (xs : Nat → Int32) (i : Int32) : Option Int32 := gRd Ls xs i
def gTokX (T : gTT) (b Ls : Nat) (xs : Nat → Int32) : Prop := ∀ l A s c, T l A s c → va_X b Ls xs s s.heap ∧ b < s.heap.size ∧ ¬ A b
theorem gTm_ok (b Ls : Nat) (xs : Nat → Int32) : gTok (gTm b Ls xs) := fun _ _ _ _ h => ⟨h.1, h.2.1, h.2.2.1⟩
theorem gTm_okX (b Ls : Nat) (xs : Nat → Int32) : gTokX (gTm b Ls xs) b Ls xs := fun _ _ _ _ h => ⟨h.2.2.2.1, h.2.2.2.2.1, fun q => Nat.not_le.mpr h.2.2.2.2.1 (h.2.2.2.2.2 b q)⟩
/-- what is given in the method that reads the script -/
def gTc (b Ls : Nat) (xs : Nat → Int32) : gTT := fun _ A s _ => va_X b Ls xs s s.heap ∧ b < s.heap.size ∧ ¬ A b
theorem gTc_ok (b Ls : Nat) (xs : Nat → Int32) : gTokX (gTc b Ls xs) b Ls xs := fun _ _ _ _ h => h
def gFc (ε : gEnv) (b Ls : Nat) (xs : Nat → Int32) (rv : Option Value) (M' : gMem) : gFin := (gTc b Ls xs, (0, 0), fun below args s => MQ below (gQ ε rv M' s.heap.size) args s 0 0 (gA ε s.heap.size))
def gPcC (ε : gEnv) (b Ls : Nat) (xs : Nat → Int32) (av : List Value) (M : gMem) (sz : Nat) : Array Value → State → Prop := va_Pc av (fun U => (U.heap.size = sz ∧ va_P ε.1 gCl (gW ε M) U.heap ∧ va_K ε.1 gCl (gTy ε) U ∧ gNw U ∧ gDj ε) ∧ va_X b Ls xs U U.heap ∧ b < U.heap.size ∧ ¬ gA ε sz b)
def gCtC (l : Launch) (ε : gEnv) (κ : gMD) (f n b Ls : Nat) (xs : Nat → Int32) (av : List Value) (M : gMem) (rv : Option Value) : Prop :=
  ∀ sz, Met l κ.1 (gMw κ) (gR f n) (gPcC ε b Ls xs av M sz) (gQ ε rv M sz) 0 0 (gA ε sz)
theorem gPcC_blind {ε : gEnv} {b Ls : Nat} {xs : Nat → Int32} {av : List Value} {M : gMem} {sz : Nat} : FrameBlind (gPcC ε b Ls xs av M sz) := by
  intro a U g mk q
  obtain ⟨q0, ⟨q1, qP, qK, qN, qD⟩, qX, qb, qA⟩ := q
  exact ⟨q0, ⟨q1, qP, va_K.moved (u := U) (U := U.calling g mk a) (Vm.Alike.refl U.vm) qK, gNw.same (s := U) (U := U.calling g mk a) rfl qN, qD⟩, va_X.moved (u := U) (U := U.calling g mk a) (Vm.Alike.refl U.vm) qX, qb, qA⟩
theorem gCtC_of {l : Launch} {ε : gEnv} {κ : gMD} {f n b Ls : Nat} {xs : Nat → Int32} {av : List Value} {M : gMem} {rv : Option Value} (hy : plainName κ.1.cls = true) (hlen : (lg_sl av).length ≤ κ.2.2.1) {L : List (Nat × Value)} (hL : lv_args 0 av = L) (h : gGo l ε κ (gR f n) (gFc ε b Ls xs rv M) 0 L [] M) : gCtC l ε κ f n b Ls xs av M rv := by
  intro sz
  refine Met.ofW (cc := κ.2.1) (maxL := κ.2.2.1) (ret := κ.2.2.2) hy rfl ?_
  intro p e s m args below meth c s₁ B hml hv
  obtain ⟨rfl, ⟨hsz, hP, hK, hN, hD⟩, hX⟩ := hv
  have hts := atoms_spec (ws := gMw κ) B.pre
  have hl := lv_entry av (n := κ.2.2.1) hlen
  rw [lg_entry_eq]
  subst hsz
  rw [hL] at hl
  exact h p e s m _ below meth c s.heap [] _ ⟨B.exec, B.bytes, B.returns, hml, findClass_of_methodNamed B.named, fun w hw => hts w (List.mem_cons_of_mem _ hw), hN, hK, B.notSynchronized, hD, hX, Nat.zero_le _, Nat.zero_le _⟩ hP va_S.rf hl
section GOLAW
variable {l : Launch} {ε : gEnv} {κ : gMD} {R : Room} {F : gFin} {pc : Nat} {L : List (Nat × Value)} {st : List Value} {M M1 : gMem} {b Ls : Nat} {xs : Nat → Int32} {T : gTT} {Z : gZZ} {k0 n0 ka : Nat}
theorem g_sld {i r : Int32} (hF : gTokX F.1 b Ls xs) (d : decode κ.2.1 pc = .ok (.iaload, 1)) (hr : gSc Ls xs i = some r) (kk : gGo l ε κ R F (pc + 1) L (.int r :: st) M) : gGo l ε κ R F pc L (.int i :: .ref b :: st) M := by
  intro p e s m args below meth c H locs ls C hP hS h
  obtain ⟨hX, hb, hA⟩ := hF _ _ _ _ C.2.2.2.2.2.2.2.2.2.2.1
  obtain ⟨hin, rfl⟩ := gRd_s hr
  exact va_sld C.1 C.2.1 hX hb hA hS hin d (kk p e s m args below meth c H locs ls C hP hS h)
theorem g_slen (hF : gTokX F.1 b Ls xs) (d : decode κ.2.1 pc = .ok (.arraylength, 1)) (kk : gGo l ε κ R F (pc + 1) L (.int (Int32.ofNat Ls) :: st) M) : gGo l ε κ R F pc L (.ref b :: st) M := by
  intro p e s m args below meth c H locs ls C hP hS h
  obtain ⟨hX, hb, hA⟩ := hF _ _ _ _ C.2.2.2.2.2.2.2.2.2.2.1
  exact va_slen C.1 C.2.1 hX hb hA hS d (kk p e s m args below meth c H locs ls C hP hS h)
theorem g_iretC {v : Int32} (d : decode κ.2.1 pc = .ok (.ireturn, 1)) (hret : κ.2.2.2 = some .int) : gGo l ε κ R (gFc ε b Ls xs (some (.int v)) M) pc L [.int v] M :=
  fun p e s m args below meth c H locs ls C hP hS h => W.iret C.1 C.2.1 (C.2.2.1.trans hret) (fun t ht hW => g_end rfl hP hS ht) hS.2.2 d C.2.2.2.2.2.2.2.2.1
theorem g_callCell {κ' : gMD} {f' n' j idx : Nat} {As rest : List Value} {r : Int32} (hT : gTok T) (hTX : gTokX T b Ls xs) (ct : gCtC l ε κ' f' n' b Ls xs As M (some (.int r))) (d : decode κ.2.1 pc = .ok (.invokestatic idx, 3)) (ca : gCaS κ' j) (hl : Cond.methodLink κ.1.cls idx κ'.1 ∈ gWs) (hn : As.length = j) (hst : st = As.reverse ++ rest) (hW : (rest.map fun v => v.category).sum ≤ 8) (hR : f' + 1 ≤ R.frames ∧ 8 + (κ'.2.2.1 + 11) + n' ≤ R.locals)
    (kk : gGo l ε κ R (gFg T Z k0 n0 ka) (pc + 3) L (.int r :: rest) M) : gGo l ε κ R (gFg T Z k0 n0 ka) pc L st M := by
  intro p e s m args below meth c H locs ls C hP hS h
  obtain ⟨hX, hb, hA⟩ := hTX _ _ _ _ C.2.2.2.2.2.2.2.2.2.2.1
  have hw := C.2.2.2.2.2.1
  obtain ⟨⟨c1, c2, c3⟩, c4⟩ := ca
  have pre : ∀ U : State, U.heap = H → s.WarmedH U.vm → gPcC ε b Ls xs As M H.size As.toArray U := fun U hU hW => ⟨rfl, ⟨by rw [hU], by rw [hU]; exact hP, va_K.moved hW.alike C.2.2.2.2.2.2.2.1, C.2.2.2.2.2.2.1.warm hW, C.2.2.2.2.2.2.2.2.2.1⟩, by rw [hU]; exact va_X.moved hW.alike (va_X.kept hX (hS.2.1 b hb hA)), by rw [hU]; exact Nat.lt_of_lt_of_le hb hS.1, fun q => hA (gA_mono hS.1 q)⟩
  exact g_run (va_runS (As := As) (rest := rest) ⟨C.1, C.2.1, C.2.2.2.1, C.2.2.2.2.1, hw⟩ (ct H.size) ⟨callB_of j hw (gGood c1) rfl rfl rfl (hw _ c2) (hw _ hl) c3 hR, hw _ c4⟩ ⟨gPcC_blind, pre⟩ rfl hn h.1 hst (lv_room hW) d ⟨C.2.2.2.2.2.2.2.2.2.2.2.1, C.2.2.2.2.2.2.2.2.2.2.2.2⟩) hS
    (fun H1 locs1 hP1 hS1 => kk p e s m args below meth c H1 locs1 ls C hP1 hS1 h)
/-- the law answers true -/
theorem g_lawEnd (d : decode code pc = .ok (.ireturn, 1)) (h1 : k0 + ka ≤ 1200104) (h2 : n0 + 6 * ka ≤ 5501314) : gGo l ε k_law room_1 (gFm b Ls xs k0 n0 ka) pc L [.int 1] M := by
  intro p e s m args below meth c H locs ls C hP hS h
  obtain ⟨hl0, hT, hZ, hX, hb, hA⟩ := C.2.2.2.2.2.2.2.2.2.2.1
  by_cases ha : args = #[Value.ref b]
  · subst ha
    have key : W p l e room_1 s m #[Value.ref b] below meth c H locs (k0 + ka) (n0 + 6 * ka) (lw_Z below #[Value.ref b] s) (F0 m pc ls [.int 1]) := by
      refine va_forget (fun q hq => hA _ (hS.2.2 q hq)) ?_
      refine W.widen h1 h2 ?_
      exact lw_ret C.1 C.2.1 C.2.2.1 C.2.2.2.2.2.2.2.2.1 d
    intro T hT1 X
    obtain ⟨t, a1, b1⟩ := key T hT1 X
    exact ⟨t, a1, fun _ => b1⟩
  · intro T hT1 X
    exact ⟨_, Steps.refl _, fun q => absurd q ha⟩
end GOLAW

theorem d_Law_cell_0 : decode method_21_code 0 = .ok (.iload_n 1, 1) := by decide +kernel
theorem d_Law_cell_1 : decode method_21_code 1 = .ok (.aload_n 0, 1) := by decide +kernel
theorem d_Law_cell_2 : decode method_21_code 2 = .ok (.arraylength, 1) := by decide +kernel
theorem d_Law_cell_3 : decode method_21_code 3 = .ok (.if_icmp .ge 9, 3) := by decide +kernel
theorem d_Law_cell_6 : decode method_21_code 6 = .ok (.aload_n 0, 1) := by decide +kernel
theorem d_Law_cell_7 : decode method_21_code 7 = .ok (.iload_n 1, 1) := by decide +kernel
theorem d_Law_cell_8 : decode method_21_code 8 = .ok (.iaload, 1) := by decide +kernel
theorem d_Law_cell_9 : decode method_21_code 9 = .ok (.goto 13, 3) := by decide +kernel
theorem d_Law_cell_12 : decode method_21_code 12 = .ok (.ldc 130, 2) := by decide +kernel
theorem d_Law_cell_14 : decode method_21_code 14 = .ok (.iload_n 1, 1) := by decide +kernel
theorem d_Law_cell_15 : decode method_21_code 15 = .ok (.iconst 3, 1) := by decide +kernel
theorem d_Law_cell_16 : decode method_21_code 16 = .ok (.iadd, 1) := by decide +kernel
theorem d_Law_cell_17 : decode method_21_code 17 = .ok (.imul, 1) := by decide +kernel
theorem d_Law_cell_18 : decode method_21_code 18 = .ok (.sipush 11903, 3) := by decide +kernel
theorem d_Law_cell_21 : decode method_21_code 21 = .ok (.iadd, 1) := by decide +kernel
theorem d_Law_cell_22 : decode method_21_code 22 = .ok (.ldc 131, 2) := by decide +kernel
theorem d_Law_cell_24 : decode method_21_code 24 = .ok (.iand, 1) := by decide +kernel
theorem d_Law_cell_25 : decode method_21_code 25 = .ok (.ireturn, 1) := by decide +kernel
abbrev k_Law_cell : gMD := (⟨"DropSignalsLaw", "cell", "([II)I"⟩, method_21_code, 2, (some .int))
theorem w_274 : Cond.static ⟨"DropSignalsLaw", "cell", "([II)I"⟩ ∈ gWs := gWs_in (i := 274) (by decide +kernel) rfl
set_option maxRecDepth 100000 in
theorem ca_Law_cell : gCaS k_Law_cell 2 := ⟨⟨gWs_in (i := 275) rfl rfl, w_19, by decide, by decide, by decide +kernel⟩, w_274⟩
theorem w_276 : Cond.constant "DropSignalsLaw" 130 15519937 ∈ gWs := gWs_in (i := 276) (by decide +kernel) rfl
theorem w_277 : Cond.constant "DropSignalsLaw" 131 2147483647 ∈ gWs := gWs_in (i := 277) (by decide +kernel) rfl

noncomputable def f_Law_cell (Ls : Nat) (xs : Nat → Int32) (a1 : Int32) : Option Int32 :=
  if Int32.ofNat Ls ≤ a1 then some ((15519937 * (a1 + 3) + 11903) &&& 2147483647) else (gSc Ls xs a1).bind fun v => some (v &&& 2147483647)
theorem ct_Law_cell {l : Launch} {ε : gEnv} {b Ls : Nat} {xs : Nat → Int32} {M : gMem} (a1 : Int32) (r : Int32) (h : f_Law_cell Ls xs a1 = some r) : gCtC l ε k_Law_cell 0 0 b Ls xs [.ref b, .int a1] M (some (.int r)) := by
  refine gCtC_of (by decide) (Nat.le_of_ble_eq_true rfl) rfl ?_
  have hX : gTokX (gFc ε b Ls xs (some (.int r)) M).1 b Ls xs := gTc_ok b Ls xs
  refine g_iload_n d_Law_cell_0 rfl 1 rfl ?_
  refine g_aload_n d_Law_cell_1 rfl 0 rfl ?_
  refine g_slen hX d_Law_cell_2 ?_
  unfold f_Law_cell at h
  refine g_icmp_ge (tgt := 12) d_Law_cell_3 (by decide) (fun c => ?_) (fun c => ?_)
  · rw [if_pos c] at h
    obtain rfl := Option.some.inj h
    refine g_ldc d_Law_cell_12 w_276 ?_
    refine g_iload_n d_Law_cell_14 rfl 1 rfl ?_
    refine g_iconst (v := 3) d_Law_cell_15 (by decide) ?_
    refine g_iadd d_Law_cell_16 ?_
    refine g_imul d_Law_cell_17 ?_
    refine g_sipush (v := 11903) d_Law_cell_18 (by decide) ?_
    refine g_iadd d_Law_cell_21 ?_
    refine g_ldc d_Law_cell_22 w_277 ?_
    refine g_iand d_Law_cell_24 ?_
    exact g_iretC d_Law_cell_25 rfl
  · rw [if_neg c] at h
    obtain ⟨v, hv, h⟩ := gOb h
    obtain rfl := Option.some.inj h
    refine g_aload_n d_Law_cell_6 rfl 0 rfl ?_
    refine g_iload_n d_Law_cell_7 rfl 1 rfl ?_
    refine g_sld hX d_Law_cell_8 hv ?_
    refine g_goto (tgt := 22) d_Law_cell_9 (by decide) ?_
    refine g_ldc d_Law_cell_22 w_277 ?_
    refine g_iand d_Law_cell_24 ?_
    exact g_iretC d_Law_cell_25 rfl

