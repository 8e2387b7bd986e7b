-- ===== GO with exceptions that leave a method =====
/-- the words that the tables say once, beside the good ones -/
def gIsT : Cond → Bool
  | .castable .. => true
  | .declares _ => true
  | _ => false
def gXs3 : List String := ["java/lang/IllegalArgumentException", "java/lang/IllegalStateException", "java/lang/IndexOutOfBoundsException"]
def gNm : List String := ["java/lang/RuntimeException", "java/lang/Exception"]
def gXn : Nat → String
  | 1 => "java/lang/IllegalArgumentException"
  | 2 => "java/lang/IllegalStateException"
  | _ => "java/lang/IndexOutOfBoundsException"
def gTh (U : State) : Prop := (∀ w ∈ lw_tbl, gIsT w = true → va_Nw w U) ∧ (∀ (k : Nat) (tx : String), Cond.stringRef "DropSignals" k tx ∈ lw_tbl → ∃ sa, vk_R "DropSignals" k tx sa U) ∧ (∀ a ∈ gXs3, ∀ b ∈ gXs3, a ≠ b → va_Nc a b U)
theorem gTh.warm {s U : State} (hW : s.WarmedH U.vm) (h : gTh s) : gTh U := by
  obtain ⟨h1, h2, h3⟩ := h
  refine ⟨fun w hw hn => ?_, fun k tx hk => ?_, fun a ha b hb hab => va_Nc.moved hW.alike (h3 a ha b hb hab)⟩
  · cases w <;> first | (simp [gIsT] at hn; done) | exact va_Nw.warmC hW (h1 _ hw hn) | exact va_Nw.warmD hW (h1 _ hw hn)
  · obtain ⟨sa, hs⟩ := h2 k tx hk
    exact ⟨sa, vk_R.warm hW hs⟩
def gZq (A : Nat → Prop) (U : State) (H : Heap) : Prop := vx_Zq Bundle.tN "UNASSIGNED_STACK" Bundle.steD A U H ∧ vx_Zq Bundle.tN "SUPPRESSED_SENTINEL" Bundle.listD A U H
theorem gZq.at' {A B : Nat → Prop} {s U : State} {H : Heap} (hv : s.vm.Alike U.vm) (h : gZq A s s.heap) (hk : ∀ a : Nat, a < s.heap.size → ¬ A a → H[a]? = s.heap[a]?) (hAB : ∀ q, B q → A q) : gZq B U H :=
  ⟨((h.1.kept hk).moved hv).narrow hAB, ((h.2.kept hk).moved hv).narrow hAB⟩
def gTx : Launch → (Nat → Prop) → State → Code → Prop := fun l A s c => l.stackTraces = false ∧ (∀ x ∈ c.exceptionTable.toList, False) ∧ gTh s ∧ gZq A s s.heap
def gXC (ε : gEnv) (E : String) (M' : gMem) (sz : Nat) : String → State → State → Prop := fun E' st t => (E' = E ∧ va_P ε.1 gCl (gW ε M') t.heap) ∧ va_F (gA ε sz) st t
def gFx (ε : gEnv) (E : String) (M' : gMem) : gFin := (gTx, (0, 0), fun below args s => vx_MQ below (fun _ _ _ _ => False) (gXC ε E M' s.heap.size) args s 1 6 (gA ε s.heap.size))
def gRX (f n : Nat) : Room := { frames := f, cells := 1, slots := 6, locals := n }
def gPcX (ε : gEnv) (av : List Value) (M : gMem) (sz : Nat) : Array Value → State → Prop := va_Pc av (fun U => (U.heap.size = sz ∧ va_P ε.1 gCl (gW ε M) U.heap ∧ va_K ε.1 gCl (gTy ε) U ∧ gNw U ∧ gDj ε) ∧ gTh U ∧ gZq (gA ε sz) U U.heap)
/-- a method's contract: from the world M, with these arguments, it throws E, and the world is M' -/
def gCtX (l : Launch) (ε : gEnv) (κ : gMD) (f n : Nat) (av : List Value) (M : gMem) (E : String) (M' : gMem) : Prop :=
  ∀ sz, vx_Met l κ.1 (gMw κ) (gRX f n) (gPcX ε av M sz) (fun _ _ _ _ => False) (gXC ε E M' sz) 1 6 (gA ε sz)
theorem gPcX_blind {ε : gEnv} {av : List Value} {M : gMem} {sz : Nat} : FrameBlind (gPcX ε av M sz) := by
  intro a U g mk q
  obtain ⟨q0, ⟨q1, qP, qK, qN, qD⟩, qT, qZ⟩ := q
  have hW : U.WarmedH (U.calling g mk a).vm := State.WarmedH.refl U
  exact ⟨q0, ⟨q1, qP, va_K.moved (u := U) (U := U.calling g mk a) (Vm.Alike.refl U.vm) qK, gNw.same (s := U) (U := U.calling g mk a) rfl qN, qD⟩, gTh.warm (s := U) (U := U.calling g mk a) hW qT, gZq.at' (s := U) (U := U.calling g mk a) (Vm.Alike.refl U.vm) qZ (fun _ _ _ => rfl) (fun _ h => h)⟩
theorem gCtX_of {l : Launch} {ε : gEnv} {κ : gMD} {f n : Nat} {av : List Value} {M M' : gMem} {E : String} (hl0 : l.stackTraces = false) (hy : plainName κ.1.cls = true) (hlen : (lg_sl av).length ≤ κ.2.2.1) {L : List (Nat × Value)} (hL : lv_args 0 av = L) (h : gGo l ε κ (gRX f n) (gFx ε E M') 0 L [] M) : gCtX l ε κ f n av M E M' := by
  intro sz
  refine vx_ofW (cc := κ.2.1) (maxL := κ.2.2.1) (ret := κ.2.2.2) hy rfl ?_
  intro p e s m args below meth c s₁ B hml htab hv
  obtain ⟨rfl, ⟨hsz, hP, hK, hN, hD⟩, hT, hZ⟩ := hv
  have hts := atoms_spec (ws := gMw κ) B.pre
  have hl := lv_entry av (n := κ.2.2.1) hlen
  rw [lg_entry_eq]
  subst hsz
  rw [hL] at hl
  exact h p e s m _ below meth c s.heap [] _ ⟨B.exec, B.bytes, B.returns, hml, findClass_of_methodNamed B.named, fun w hw => hts w (List.mem_cons_of_mem _ hw), hN, hK, B.notSynchronized, hD, ⟨hl0, htab, hT, hZ⟩, Nat.zero_le _, Nat.zero_le _⟩ hP va_S.rf hl
theorem g_hat {s : State} {args : Array Value} {own X : String} {ic : Nat} {names : List String} (h1 : ∀ w ∈ gWs, w.before args s = true) (h2 : gTh s) (h : (vx_atS own ic X names).all (fun w => decide (w ∈ lw_tbl) && (goodWord w || gIsT w)) = true) : ∀ w ∈ vx_atS own ic X names, w.before args s = true := by
  intro w hw
  have h3 := List.all_eq_true.mp h w hw
  simp only [Bool.and_eq_true, Bool.or_eq_true, decide_eq_true_eq] at h3
  obtain ⟨h4, h5 | h5⟩ := h3
  · exact h1 w (List.mem_filter.mpr ⟨h4, h5⟩)
  · have h6 := h2.1 w h4 h5
    cases w <;> first | (simp [gIsT] at h5; done) | exact va_Nw.use rfl h6
section GOX
variable {l : Launch} {ε : gEnv} {κ : gMD} {R : Room} {pc : Nat} {L : List (Nat × Value)} {st : List Value} {M M1 : gMem}
theorem g_thrX {s t : State} {H : Heap} {locs : List Loc} {X : String} (hP : va_P ε.1 gCl (gW ε M) H) (hS : va_S (gA ε s.heap.size) s.heap H locs) (h1 : H.size ≤ t.heap.size) (h2 : ∀ q : Nat, q < H.size → t.heap[q]? = H[q]?) : gXC ε X M s.heap.size X s t :=
  ⟨⟨rfl, hP.kept (fun k x hx => h2 x.1 (hP k x hx).lt)⟩, Nat.le_trans hS.1 h1, fun q q1 q2 => (h2 q (Nat.lt_of_lt_of_le q1 hS.1)).trans (hS.2.1 q q1 q2)⟩
theorem g_throw {ik is ic : Nat} {X text : String} (hκ : κ.1.cls = "DropSignals") (d0 : decode κ.2.1 pc = .ok (.new ik, 3)) (d3 : decode κ.2.1 (pc + 3) = .ok (.dup, 1)) (d4 : decode κ.2.1 (pc + 4) = .ok (.ldc is, 2)) (d6 : decode κ.2.1 (pc + 6) = .ok (.invokespecial ic, 3)) (d9 : decode κ.2.1 (pc + 9) = .ok (.athrow, 1))
    (w1 : Cond.classLink "DropSignals" ik X ∈ gWs) (w2 : Cond.initialized X ∈ gWs) (w3 : Cond.stringRef "DropSignals" is text ∈ lw_tbl) (hat : (vx_atS "DropSignals" ic X gNm).all (fun w => decide (w ∈ lw_tbl) && (goodWord w || gIsT w)) = true) (hgood : ∀ w ∈ Cond.classLink "DropSignals" ik X :: Cond.initialized X :: vx_atS "DropSignals" ic X gNm, vx_ot w = true) (hfit : Bundle.fit X = true)
    (hRf : 6 ≤ R.frames) (hRl : (st.map fun v => v.category).sum + 82 ≤ R.locals) (hRc : 1 ≤ R.cells) (hRs : 6 ≤ R.slots) : gGo l ε κ R (gFx ε X M) pc L st M := by
  intro p e s m args below meth c H locs ls C hP hS h
  obtain ⟨hl0, htab, hT, hZ⟩ := C.2.2.2.2.2.2.2.2.2.2.1
  have hw := C.2.2.2.2.2.1
  obtain ⟨sa, hsa⟩ := hT.2.1 is text w3
  have hown := C.2.2.2.2.1
  rw [hκ] at hown
  exact vx_throwS (own := "DropSignals") (names := gNm) C.1 C.2.1 hl0 hown hfit (by decide) (hw _ w1) (hw _ w2) hsa (g_hat hw hT hat) hgood hZ.1 hZ.2 hS (h.1.trans C.2.2.2.1.symm) d0 d3 d4 d6 d9 (fun x hx => (htab x hx).elim) hRf hRl (show 0 + 1 ≤ R.cells by omega) (show 0 + 6 ≤ R.slots by omega) C.2.2.2.2.2.2.2.2.1
    (fun t _ h1 h2 => g_thrX hP hS h1 h2) hS.2.2 (Nat.le_refl _) (Nat.le_refl _)
theorem g_throwW {ik is ic : Nat} {X text : String} (hκ : κ.1.cls = "DropSignals") (d0 : decode κ.2.1 pc = .ok (.new ik, 3)) (d3 : decode κ.2.1 (pc + 3) = .ok (.dup, 1)) (d4 : decode κ.2.1 (pc + 4) = .ok (.ldc_w is, 3)) (d6 : decode κ.2.1 (pc + 7) = .ok (.invokespecial ic, 3)) (d9 : decode κ.2.1 (pc + 10) = .ok (.athrow, 1))
    (w1 : Cond.classLink "DropSignals" ik X ∈ gWs) (w2 : Cond.initialized X ∈ gWs) (w3 : Cond.stringRef "DropSignals" is text ∈ lw_tbl) (hat : (vx_atS "DropSignals" ic X gNm).all (fun w => decide (w ∈ lw_tbl) && (goodWord w || gIsT w)) = true) (hgood : ∀ w ∈ Cond.classLink "DropSignals" ik X :: Cond.initialized X :: vx_atS "DropSignals" ic X gNm, vx_ot w = true) (hfit : Bundle.fit X = true)
    (hRf : 6 ≤ R.frames) (hRl : (st.map fun v => v.category).sum + 82 ≤ R.locals) (hRc : 1 ≤ R.cells) (hRs : 6 ≤ R.slots) : gGo l ε κ R (gFx ε X M) pc L st M := by
  intro p e s m args below meth c H locs ls C hP hS h
  obtain ⟨hl0, htab, hT, hZ⟩ := C.2.2.2.2.2.2.2.2.2.2.1
  have hw := C.2.2.2.2.2.1
  obtain ⟨sa, hsa⟩ := hT.2.1 is text w3
  have hown := C.2.2.2.2.1
  rw [hκ] at hown
  exact vx_throwSW (own := "DropSignals") (names := gNm) C.1 C.2.1 hl0 hown hfit (by decide) (hw _ w1) (hw _ w2) hsa (g_hat hw hT hat) hgood hZ.1 hZ.2 hS (h.1.trans C.2.2.2.1.symm) d0 d3 d4 d6 d9 (fun x hx => (htab x hx).elim) hRf hRl (show 0 + 1 ≤ R.cells by omega) (show 0 + 6 ≤ R.slots by omega) C.2.2.2.2.2.2.2.2.1
    (fun t _ h1 h2 => g_thrX hP hS h1 h2) hS.2.2 (Nat.le_refl _) (Nat.le_refl _)
theorem g_preX {F : gFin} {s : State} {H : Heap} {locs : List Loc} {args : Array Value} {κ0 : gMD} {p : Program} {m : MethodId} {meth : Method} {c : Code} (C : gCx l ε κ0 R F p s m args meth c) (hT : gTh s) (hZ : gZq (gA ε s.heap.size) s s.heap) (hP : va_P ε.1 gCl (gW ε M) H) (hS : va_S (gA ε s.heap.size) s.heap H locs) (av : List Value) : ∀ U : State, U.heap = H → s.WarmedH U.vm → gPcX ε av M H.size av.toArray U :=
  fun U hU hW => ⟨rfl, ⟨by rw [hU], by rw [hU]; exact hP, va_K.moved hW.alike C.2.2.2.2.2.2.2.1, C.2.2.2.2.2.2.1.warm hW, C.2.2.2.2.2.2.2.2.2.1⟩, hT.warm hW, by rw [hU]; exact hZ.at' hW.alike hS.2.1 (fun q h => gA_mono hS.1 h)⟩
/-- behind a call that threw: on to the caller, where nothing is caught -/
theorem g_runX {p : Program} {e : Env} {s : State} {m : MethodId} {args : Array Value} {below : List Frame} {meth : Method} {c : Code} {H : Heap} {locs : List Loc} {ls : Array Slot} {st0 rest : List Value} {E : String} (hr : vx_Run p l e R s m args below meth c H locs 0 0 1 6 (F0 m pc ls st0) rest (fun _ _ _ => False) (gXC ε E M1 H.size) (gA ε H.size)) (hS : va_S (gA ε s.heap.size) s.heap H locs) (htab : ∀ x ∈ c.exceptionTable.toList, False) (hlocks : meth.locks = false) : W p l e R s m args below meth c H locs 0 0 ((gFx ε E M1).2.2 below args s) (F0 m pc ls st0) := by
  intro T hT X
  rcases hr T hT X with ⟨v, st₀, t, T', L, h0, X', hL, e1, e2, hq, st⟩ | ⟨q, st₀, t, T', L, E', ce, h0, X', hL, e1, e2, ⟨⟨rfl, hp⟩, hF⟩, hce, hcv, hcl, st⟩
  · exact hq.elim
  · obtain ⟨k1, k2, k3⟩ := vx_keep h0 e1 hS (fun q _ h => gA_mono hS.1 h) (fun q h => gA_mono hS.1 h) hL hF
    have hx : ∀ t2 : State, t2.heap = T'.heap → s.vm.Alike t2.vm → gXC ε E' M1 s.heap.size E' s t2 := fun t2 h2 _ => ⟨⟨rfl, by rw [h2, e1]; exact hp⟩, k3.F h2⟩
    obtain ⟨t2, a1, b1⟩ := vx_out (Qc := fun _ _ _ _ => False) (XC := gXC ε E' M1 s.heap.size) (mc := 1) (ms := 6) (free := gA ε s.heap.size) (fun x hx => (htab x hx).elim) hlocks (by rw [e1]; exact hce) hcv hcl hx k3.2.2 (Nat.le_refl _) (Nat.le_refl _) T' rfl X'
    exact ⟨t2, st.trans a1, b1⟩
variable {f' n' : Nat} {E : String}
theorem g_callXS {κ' : gMD} {As rest : List Value} {idx k : Nat} (ct : l.stackTraces = false → gCtX l ε κ' f' n' As M E M1) (d : decode κ.2.1 pc = .ok (.invokestatic idx, 3)) (ca : gCaS κ' k) (hl : Cond.methodLink κ.1.cls idx κ'.1 ∈ gWs) (hn : As.length = k) (hst : st = As.reverse ++ rest) (hW : (rest.map fun v => v.category).sum ≤ 8) (hR : f' + 1 ≤ R.frames ∧ 8 + (κ'.2.2.1 + 11) + n' ≤ R.locals) (hRc : 1 ≤ R.cells) (hRs : 6 ≤ R.slots) : gGo l ε κ R (gFx ε E M1) pc L st M := by
  intro p e s m args below meth c H locs ls C hP hS h
  obtain ⟨hl0, htab, hT, hZ⟩ := C.2.2.2.2.2.2.2.2.2.2.1
  have hw := C.2.2.2.2.2.1
  obtain ⟨⟨c1, c2, c3⟩, c4⟩ := ca
  exact g_runX (vx_runS (As := As) (rest := rest) ⟨C.1, C.2.1, C.2.2.2.1, C.2.2.2.2.1, hw⟩ (ct hl0 H.size) ⟨callB_of k hw (gGood c1) rfl rfl rfl (hw _ c2) (hw _ hl) c3 hR, hw _ c4⟩ ⟨gPcX_blind, g_preX C hT hZ hP hS _⟩ rfl hn h.1 hst (lv_room hW) d ⟨by omega, by omega⟩) hS htab C.2.2.2.2.2.2.2.2.1
theorem g_callXV {κ' : gMD} {As rest : List Value} {idx k g c0 ci : Nat} {fs : List (Option (Nat × Nat))} (ct : l.stackTraces = false → gCtX l ε κ' f' n' (.ref (ε.2.2.1 g c0) :: As) M E M1) (d : decode κ.2.1 pc = .ok (.invokevirtual idx, 3)) (ca : gCaV κ' k) (hl : Cond.methodLink κ.1.cls idx κ'.1 ∈ gWs) (hh : gHas ε g c0 (3, ci, fs)) (hci : (gCl[ci]?).map (fun q => q.1) = some κ'.1.cls) (hn : As.length = k) (hst : st = As.reverse ++ .ref (ε.2.2.1 g c0) :: rest) (hW : (rest.map fun v => v.category).sum ≤ 8) (hR : f' + 1 ≤ R.frames ∧ 8 + (κ'.2.2.1 + 11) + n' ≤ R.locals) (hRc : 1 ≤ R.cells) (hRs : 6 ≤ R.slots) : gGo l ε κ R (gFx ε E M1) pc L st M := by
  intro p e s m args below meth c H locs ls C hP hS h
  obtain ⟨hl0, htab, hT, hZ⟩ := C.2.2.2.2.2.2.2.2.2.2.1
  have hw := C.2.2.2.2.2.1
  obtain ⟨⟨c1, c2, c3⟩, c4, c5⟩ := ca
  obtain ⟨i, hi, hwi⟩ := gW_at M hh
  obtain ⟨q, hq, hq1⟩ : ∃ q, gCl[ci]? = some q ∧ q.1 = κ'.1.cls := by
    cases hc : gCl[ci]? with
    | none => rw [hc] at hci; cases hci
    | some q => rw [hc] at hci; exact ⟨q, rfl, Option.some.inj hci⟩
  have hrecv := va_recv C.2.2.2.2.2.2.2.1 hP (ci := ci) hq hwi
  rw [hq1] at hrecv
  exact g_runX (vx_runV (As := As) (rest := rest) ⟨C.1, C.2.1, C.2.2.2.1, C.2.2.2.2.1, hw⟩ (ct hl0 H.size) ⟨callB_of k hw (gGood c1) rfl rfl rfl (hw _ c2) (hw _ hl) c3 hR, hw _ c4, hw _ c5⟩ ⟨gPcX_blind, hrecv, g_preX C hT hZ hP hS _⟩ rfl hn h.1 hst (lv_room hW) d ⟨by omega, by omega⟩) hS htab C.2.2.2.2.2.2.2.2.1
end GOX
/-- an answer that is an exception's number or a value: what is owed, and the room -/
def gFT (ε : gEnv) (M : gMem) {α : Type} (g : α → gFin) : Nat ⊕ α → gFin
  | .inl x => gFx ε (gXn x) M
  | .inr r => g r
def gRT {α : Type} (f n : Nat) : Nat ⊕ α → Room
  | .inl _ => gRX f n
  | .inr _ => gR f n
theorem gRT_f {α : Type} {f n : Nat} (r : Nat ⊕ α) : (gRT f n r).frames = f := by cases r <;> rfl
theorem gRT_l {α : Type} {f n : Nat} (r : Nat ⊕ α) : (gRT f n r).locals = n := by cases r <;> rfl
def gSq {α β : Type} (o : Option (Nat ⊕ α)) (f : α → Option (Nat ⊕ β)) : Option (Nat ⊕ β) := match o with
  | none => none
  | some (.inl x) => some (.inl x)
  | some (.inr v) => f v
theorem gSq_o {α β : Type} {o : Option (Nat ⊕ α)} {f : α → Option (Nat ⊕ β)} {r : Nat ⊕ β} (h : gSq o f = some r) : (∃ x, o = some (.inl x) ∧ r = .inl x) ∨ (∃ v, o = some (.inr v) ∧ f v = some r) := by
  unfold gSq at h
  split at h
  · cases h
  · exact Or.inl ⟨_, rfl, (Option.some.inj h).symm⟩
  · exact Or.inr ⟨_, rfl, h⟩
