-- ===== THE LAW FROM ITS FIRST INSTRUCTION TO ITS END =====
theorem d_Law_law_e0 : decode code 0 = .ok (.new 8, 3) := by decide +kernel
theorem d_Law_law_e3 : decode code 3 = .ok (.dup, 1) := by decide +kernel
theorem d_Law_law_e4 : decode code 4 = .ok (.invokespecial 159, 3) := by decide +kernel
theorem d_Law_law_e7 : decode code 7 = .ok (.astore_n 1, 1) := by decide +kernel
theorem d_Law_law_e8 : decode code 8 = .ok (.new 8, 3) := by decide +kernel
theorem d_Law_law_e11 : decode code 11 = .ok (.dup, 1) := by decide +kernel
theorem d_Law_law_e12 : decode code 12 = .ok (.invokespecial 159, 3) := by decide +kernel
theorem d_Law_law_e15 : decode code 15 = .ok (.astore_n 2, 1) := by decide +kernel
theorem d_Law_law_e16 : decode code 16 = .ok (.bipush 16, 2) := by decide +kernel
theorem d_Law_law_e18 : decode code 18 = .ok (.aload_n 0, 1) := by decide +kernel
theorem d_Law_law_e19 : decode code 19 = .ok (.iconst 0, 1) := by decide +kernel
theorem d_Law_law_e20 : decode code 20 = .ok (.invokestatic 160, 3) := by decide +kernel
theorem d_Law_law_e23 : decode code 23 = .ok (.bipush 29, 2) := by decide +kernel
theorem d_Law_law_e25 : decode code 25 = .ok (.irem, 1) := by decide +kernel
theorem d_Law_law_e26 : decode code 26 = .ok (.iadd, 1) := by decide +kernel
theorem d_Law_law_e27 : decode code 27 = .ok (.istore_n 3, 1) := by decide +kernel
theorem d_Law_law_e28 : decode code 28 = .ok (.iconst 1, 1) := by decide +kernel
theorem d_Law_law_e29 : decode code 29 = .ok (.istore 4, 2) := by decide +kernel
theorem d_Law_law_e31 : decode code 31 = .ok (.iconst 0, 1) := by decide +kernel
theorem d_Law_law_e32 : decode code 32 = .ok (.istore 5, 2) := by decide +kernel
theorem d_Law_law_e175 : decode code 175 = .ok (.iload 4, 2) := by decide +kernel
theorem d_Law_law_e177 : decode code 177 = .ok (.ireturn, 1) := by decide +kernel
theorem w_38 : Cond.classLink "DropSignalsLaw" 8 "DropSignals" ∈ gWs := gWs_in (i := 38) (by decide +kernel) rfl
theorem w_39 : Cond.instantiable "DropSignals" 6 ∈ gWs := gWs_in (i := 39) (by decide +kernel) rfl
theorem w_40 : Cond.methodLink "DropSignalsLaw" 159 ⟨"DropSignals", "<init>", "()V"⟩ ∈ gWs := gWs_in (i := 40) (by decide +kernel) rfl
theorem no_Law_n : gNo "DropSignalsLaw" 8 7 [.null, .null, .null, .null, .null, .null] := ⟨gN7, gF7, 6, gX7, rfl, uw_7, gY7, w_38, w_39, w_20, fun j hj => by rcases (show j = 0 ∨ j = 1 ∨ j = 2 ∨ j = 3 ∨ j = 4 ∨ j = 5 by omega) with rfl | rfl | rfl | rfl | rfl | rfl <;> rfl, rfl⟩
theorem e_gXw {ε : gEnv} (h : ε.2.2.2 = gGl) : gXw ε := by
  unfold gXw gEv
  rw [h]
  exact ⟨fun e he => ⟨he, fun c hc => (show ∀ e : Fin 18, ∀ c : Fin 12, ((e : Nat), (c : Nat)) ∈ gGl by decide +kernel) ⟨e, he⟩ ⟨c, hc⟩⟩, fun c hc => (show ∀ c : Fin 11, (18, (c : Nat)) ∈ gGl by decide +kernel) ⟨c, hc⟩⟩
theorem e_gXq {ε : gEnv} (h : ε.2.2.2 = gGl) : gXw (swE ε) := by
  have h1 : (swE ε).2.2.2 = gGl.map (fun p => (sw p.1, p.2)) := by rw [← h]; rfl
  unfold gXw gEv
  rw [h1]
  exact ⟨fun e he => ⟨he, fun c hc => (show ∀ e : Fin 18, ∀ c : Fin 12, ((e : Nat), (c : Nat)) ∈ gGl.map (fun p => (sw p.1, p.2)) by decide +kernel) ⟨e, he⟩ ⟨c, hc⟩⟩, fun c hc => (show ∀ c : Fin 11, (18, (c : Nat)) ∈ gGl.map (fun p => (sw p.1, p.2)) by decide +kernel) ⟨c, hc⟩⟩
theorem e_ws {D : va_G} {cA : Nat → ClassId} {ax aq : Nat → Nat → Nat} : ([] ++ gW (D, cA, ax, gGx) gM0) ++ gW (D, cA, aq, gGx) gM0 = gW (D, cA, adL ax aq, gGl) gM2 := by
  have h1 : gW (D, cA, ax, gGx) gM0 = gW (D, cA, adL ax aq, gGx) gM2 := by
    refine (gW_ad (ad' := adL ax aq) fun p hp => gK_18 gM0 (fun g c hg => ?_) p (gGx_in p hp)).trans (gW_cong fun p hp => ?_)
    · unfold adL
      rw [if_pos (by omega)]
    · have := gGx_in p hp
      unfold gM2
      rw [if_pos (by omega)]
  have h2 : gW (D, cA, aq, gGx) gM0 = gW (D, cA, adL ax aq, gGx.map (fun p => (p.1 + 20, p.2))) gM2 := by
    unfold gW
    show gGx.map _ = (gGx.map (fun p => (p.1 + 20, p.2))).map _
    rw [List.map_map]
    refine List.map_congr_left fun p hp => ?_
    refine (gK_20 (fun g c hg => ?_) (fun g c hg => ?_) p (gGx_in p hp)).symm
    · unfold adL
      rw [if_neg (by omega)]
      congr 1
    · unfold gM2
      rw [if_neg (by omega)]
      congr 1
  rw [h1, h2]
  unfold gGl
  rw [gW_app]
  rfl
/-- what the walk leaves to show -/
def e_Pure : Prop := ∀ (Ls : Nat) (xs : Nat → Int32), Ls ≤ 260 → ∃ (c k : Int32) (M' : gMem), f_Law_cell Ls xs 0 = some c ∧ f_Law_law_l34 Ls xs (16 + gRem c 29) 45 (1, 0, gM2) = some (1, k, M')
set_option maxRecDepth 100000 in
theorem e_start {l : Launch} {D : va_G} {cA : Nat → ClassId} {b Ls : Nat} {xs : Nat → Int32} (hl0 : l.stackTraces = false) (h0 : Nat) {c k : Int32} {M' : gMem} (hc : f_Law_cell Ls xs 0 = some c) (hl : f_Law_law_l34 Ls xs (16 + gRem c 29) 45 (1, 0, gM2) = some (1, k, M')) : cGo l D cA k_law room_1 h0 (eQ l b Ls xs h0) 0 [(0, .ref b)] [] [] 0 0 := by
  refine c_new d_Law_law_e0 no_Law_n (Nat.le_of_ble_eq_true rfl) (Nat.le_of_ble_eq_true rfl) (fun q1 => ?_)
  refine c_dup d_Law_law_e3 rfl ?_
  refine c_init (ct_iDS q1) d_Law_law_e4 ci_DS_init w_40 (Nat.le_of_ble_eq_true rfl) ⟨Nat.le_of_ble_eq_true rfl, Nat.le_of_ble_eq_true rfl⟩ (Nat.le_of_ble_eq_true rfl) (Nat.le_of_ble_eq_true rfl) (fun w1 hw1 => ?_)
  refine c_astore_n (L' := [(1, .ref q1), (0, .ref b)]) d_Law_law_e7 rfl (by decide) rfl ?_
  refine c_new d_Law_law_e8 no_Law_n (Nat.le_of_ble_eq_true rfl) (Nat.le_of_ble_eq_true rfl) (fun q2 => ?_)
  refine c_dup d_Law_law_e11 rfl ?_
  refine c_init (ct_iDS q2) d_Law_law_e12 ci_DS_init w_40 (Nat.le_of_ble_eq_true rfl) ⟨Nat.le_of_ble_eq_true rfl, Nat.le_of_ble_eq_true rfl⟩ (Nat.le_of_ble_eq_true rfl) (Nat.le_of_ble_eq_true rfl) (fun w2 hw2 => ?_)
  refine c_astore_n (L' := [(2, .ref q2), (1, .ref q1), (0, .ref b)]) d_Law_law_e15 rfl (by decide) rfl ?_
  obtain ⟨ax, rfl, rfl⟩ := hw1
  obtain ⟨aq, rfl, rfl⟩ := hw2
  refine e_go (k := 454) (n := 7062) (ε := (D, cA, adL ax aq, gGl)) (M := gM2) rfl rfl e_ws ?_
  have hX : gXw (D, cA, adL ax aq, gGl) := e_gXw rfl
  have hY : gXw (swE (D, cA, adL ax aq, gGl)) := e_gXq rfl
  refine g_bipush (v := 16) d_Law_law_e16 (by decide) ?_
  refine g_aload_n d_Law_law_e18 rfl 2 rfl ?_
  refine g_iconst (v := 0) d_Law_law_e19 (by decide) ?_
  refine g_callCell (As := [.ref b, .int 0]) (rest := [.int 16]) (gTm_ok b Ls xs) (gTm_okX b Ls xs) (ct_Law_cell 0 _ hc) d_Law_law_e20 ca_Law_cell w_273 rfl rfl (Nat.le_of_ble_eq_true rfl) ⟨Nat.le_of_ble_eq_true rfl, Nat.le_of_ble_eq_true rfl⟩ ?_
  refine g_bipush (v := 29) d_Law_law_e23 (by decide) ?_
  refine g_rem d_Law_law_e25 (by decide) ?_
  refine g_iadd d_Law_law_e26 ?_
  refine g_istore_n (L' := [(3, .int (16 + gRem c 29)), (2, .ref (aq 18 0)), (1, .ref (ax 18 0)), (0, .ref b)]) d_Law_law_e27 rfl (by decide) rfl ?_
  refine g_iconst (v := 1) d_Law_law_e28 (by decide) ?_
  refine g_istore (L' := [(4, .int 1), (3, .int (16 + gRem c 29)), (2, .ref (aq 18 0)), (1, .ref (ax 18 0)), (0, .ref b)]) d_Law_law_e29 (by decide) rfl ?_
  refine g_iconst (v := 0) d_Law_law_e31 (by decide) ?_
  refine g_istore (L' := [(5, .int 0), (4, .int 1), (3, .int (16 + gRem c 29)), (2, .ref (aq 18 0)), (1, .ref (ax 18 0)), (0, .ref b)]) d_Law_law_e32 (by decide) rfl ?_
  refine gGo_sub [5, 4, 3, 2, 1, 0] rfl ?_
  refine t_Law_law_l34 (K := 44820) hl0 hX hY Ls xs (gTm_ok b Ls xs) (gTm_okX b Ls xs) ⟨Nat.le_of_ble_eq_true rfl, Nat.le_of_ble_eq_true rfl, Nat.le_of_ble_eq_true rfl, Nat.le_of_ble_eq_true rfl⟩ (16 + gRem c 29) 45 (1, 0, gM2) (1, k, M') 0 hl (Nat.le_of_ble_eq_true rfl) ?_
  refine g_iload d_Law_law_e175 4 rfl ?_
  exact g_lawEnd d_Law_law_e177 (Nat.le_of_ble_eq_true rfl) (Nat.le_of_ble_eq_true rfl)
theorem e_whole (hp : e_Pure) {p : Program} {e : Env} {s : State} {m : MethodId} {below : List Frame} {meth : Method} {c : Code} (l : Launch) (hflags : l.flags = flags0) {b L : Nat} {xs : Nat → Int32} (hL : L ≤ 260) (C0 : lw_At p s m meth c b L xs) : W p l e room_1 s m #[Value.ref b] below meth c s.heap [] 0 0 (lw_Z below #[Value.ref b] s) (entryFrame m ([Value.ref b] : List Value).toArray 8) := by
  obtain ⟨c0, k0, M', hc, hlp⟩ := hp L xs hL
  obtain ⟨hx, hcode, hret, hml, hown, hts, hX, hbl, hlk, hgv⟩ := C0
  have hl0 : l.stackTraces = false := by
    unfold Launch.stackTraces
    rw [hflags]
    decide +kernel
  obtain ⟨D, cA, hK⟩ := e_K hts
  have hgs : ∀ w ∈ gWs, w.before #[Value.ref b] s = true := fun w hw => hts w (List.mem_filter.mp hw).1
  have hgf : ∀ w ∈ flatC (Jvm.Cond.and given_1 narrow_1), w.before #[Value.ref b] s = true := flat_of_before _ hgv
  have go := e_start (l := l) (D := D) (cA := cA) (b := b) (Ls := L) (xs := xs) hl0 s.heap.size hc hlp
  have hl := lv_entry [.ref b] (n := 8) (Nat.le_of_ble_eq_true rfl)
  rw [lg_entry_eq]
  have w0 := go p e s m #[Value.ref b] below meth c s.heap [] _ ⟨hx, hcode, hret, hml, hown, hgs, e_nw hts, hK, hlk, fun h => absurd h (by decide), (va_AO.of (hts _ (e_tb 182 (by decide +kernel)))), Nat.zero_le _, Nat.zero_le _⟩ (fun i x hi => (nomatch hi)) ⟨fun i j x y hi => (nomatch hi), fun i x hi => (nomatch hi)⟩ va_S.rf hl
  intro T hT X
  obtain ⟨t, a1, b1⟩ := w0 T hT X
  exact ⟨t, a1, b1 ⟨rfl, hl0, e_th hts hgf, fun A hA => e_zq hts hgf A hA, hX, hbl, rfl⟩⟩
