abbrev k_Law_may : gMD := (⟨"DropSignalsLaw", "may", "(LDropSignals;IIIZ)I"⟩, method_2_code, 6, some .int)
theorem w_19 : Cond.initialized "DropSignalsLaw" ∈ gWs := gWs_in (i := 19) (by decide +kernel) rfl
theorem w_874 : Cond.static ⟨"DropSignalsLaw", "may", "(LDropSignals;IIIZ)I"⟩ ∈ gWs := gWs_in (i := 874) (by decide +kernel) rfl
set_option maxRecDepth 100000 in
theorem cw_Law_may : Cond.codeWith k_Law_may.1 k_Law_may.2.1 k_Law_may.2.2.1 k_Law_may.2.2.2 [(0, 9, 10, 13), (0, 9, 15, 16), (0, 9, 20, 19)] ∈ gWs := gWs_in (i := 875) rfl rfl
theorem d_Law_may_0 : decode method_2_code 0 = .ok (.aload_n 0, 1) := by decide +kernel
theorem d_Law_may_1 : decode method_2_code 1 = .ok (.iload_n 1, 1) := by decide +kernel
theorem d_Law_may_2 : decode method_2_code 2 = .ok (.iload_n 2, 1) := by decide +kernel
theorem d_Law_may_3 : decode method_2_code 3 = .ok (.iload_n 3, 1) := by decide +kernel
theorem d_Law_may_4 : decode method_2_code 4 = .ok (.iload 4, 2) := by decide +kernel
theorem d_Law_may_6 : decode method_2_code 6 = .ok (.invokevirtual 7, 3) := by decide +kernel
theorem d_Law_may_9 : decode method_2_code 9 = .ok (.ireturn, 1) := by decide +kernel
theorem w_876 : Cond.methodLink "DropSignalsLaw" 7 ⟨"DropSignals", "mayHave", "(IIIZ)I"⟩ ∈ gWs := gWs_in (i := 876) (by decide +kernel) rfl
theorem w_645 : Cond.constant "DropSignalsLaw" 15 (-9999001) ∈ gWs := gWs_in (i := 645) (by decide +kernel) rfl
theorem d_Law_may_10 : decode method_2_code 10 = .ok (.astore 5, 2) := by decide +kernel
theorem d_Law_may_12 : decode method_2_code 12 = .ok (.ldc 15, 2) := by decide +kernel
theorem d_Law_may_14 : decode method_2_code 14 = .ok (.ireturn, 1) := by decide +kernel
theorem w_388 : Cond.constant "DropSignalsLaw" 18 (-9999002) ∈ gWs := gWs_in (i := 388) (by decide +kernel) rfl
theorem d_Law_may_15 : decode method_2_code 15 = .ok (.astore 5, 2) := by decide +kernel
theorem d_Law_may_17 : decode method_2_code 17 = .ok (.ldc 18, 2) := by decide +kernel
theorem d_Law_may_19 : decode method_2_code 19 = .ok (.ireturn, 1) := by decide +kernel
theorem w_389 : Cond.constant "DropSignalsLaw" 21 (-9999003) ∈ gWs := gWs_in (i := 389) (by decide +kernel) rfl
theorem d_Law_may_20 : decode method_2_code 20 = .ok (.astore 5, 2) := by decide +kernel
theorem d_Law_may_22 : decode method_2_code 22 = .ok (.ldc 21, 2) := by decide +kernel
theorem d_Law_may_24 : decode method_2_code 24 = .ok (.ireturn, 1) := by decide +kernel
theorem w_615 : Cond.classLink "DropSignalsLaw" 13 "java/lang/IndexOutOfBoundsException" ∈ gWs := gWs_in (i := 615) (by decide +kernel) rfl
theorem wc_3 : Cond.castable "java/lang/IndexOutOfBoundsException" "java/lang/IndexOutOfBoundsException" ∈ lw_tbl := List.mem_of_getElem? (i := 625) (by decide +kernel)
theorem w_287 : Cond.classLink "DropSignalsLaw" 16 "java/lang/IllegalArgumentException" ∈ gWs := gWs_in (i := 287) (by decide +kernel) rfl
theorem wc_1 : Cond.castable "java/lang/IllegalArgumentException" "java/lang/IllegalArgumentException" ∈ lw_tbl := List.mem_of_getElem? (i := 295) (by decide +kernel)
theorem w_288 : Cond.classLink "DropSignalsLaw" 19 "java/lang/IllegalStateException" ∈ gWs := gWs_in (i := 288) (by decide +kernel) rfl
theorem wc_2 : Cond.castable "java/lang/IllegalStateException" "java/lang/IllegalStateException" ∈ lw_tbl := List.mem_of_getElem? (i := 367) (by decide +kernel)
noncomputable def f_Law_may (M : gMem) (a1 : Int32) (a2 : Int32) (a3 : Int32) (a4 : Int32) : Option (Int32 × gMem) :=
  (f_DS_mayHave M a1 a2 a3 a4).bind fun q => match q with
    | .inl 3 => some ((-9999001), M)
    | .inl 1 => some ((-9999002), M)
    | .inl 2 => some ((-9999003), M)
    | .inl _ => none
    | .inr q => some (q, M)
theorem t_Law_may {l : Launch} {ε : gEnv} (hX : gXw ε) (M : gMem) (a1 : Int32) (a2 : Int32) (a3 : Int32) (a4 : Int32) (r : Int32 × gMem) (h : f_Law_may M a1 a2 a3 a4 = some r) : gGo l ε k_Law_may (gRX 10 165) (gFw ε [(0, 9, 10, 13), (0, 9, 15, 16), (0, 9, 20, 19)] 0 0 (some (.int r.1)) r.2) 0 [(0, .ref (ε.2.2.1 18 0)), (1, .int a1), (2, .int a2), (3, .int a3), (4, .int a4)] [] M := by
  unfold f_Law_may at h
  refine g_aload_n d_Law_may_0 rfl 0 rfl ?_
  refine g_iload_n d_Law_may_1 rfl 1 rfl ?_
  refine g_iload_n d_Law_may_2 rfl 2 rfl ?_
  refine g_iload_n d_Law_may_3 rfl 3 rfl ?_
  refine g_iload d_Law_may_4 4 rfl ?_
  obtain ⟨q, hq, h⟩ := gOb h
  cases q with
  | inr q =>
    obtain rfl := Option.some.inj h
    refine g_callV_i (As := [.int a1, .int a2, .int a3, .int a4]) (rest := []) (ctn_DS_mayHave hX M a1 a2 a3 a4 q hq) d_Law_may_6 ca_DS_mayHave w_876 (gXw_h0 hX) rfl rfl rfl (Nat.le_of_ble_eq_true rfl) ⟨(Nat.le_of_ble_eq_true rfl), (Nat.le_of_ble_eq_true rfl)⟩ ?_
    exact g_iretL d_Law_may_9 rfl (by decide) (by decide)
  | inl x =>
    by_cases c0 : x = 3
    · subst c0
      obtain rfl := Option.some.inj h
      refine g_callC (As := [.int a1, .int a2, .int a3, .int a4]) (rest := []) [] ⟨0, 9, 10, 13⟩ [⟨0, 9, 15, 16⟩, ⟨0, 9, 20, 19⟩] rfl (fun hl0 => ctx_DS_mayHave hl0 hX M a1 a2 a3 a4 3 hq) d_Law_may_6 ca_DS_mayHave w_876 (gXw_h0 hX) rfl rfl rfl (Nat.le_of_ble_eq_true rfl) ⟨(Nat.le_of_ble_eq_true rfl), (Nat.le_of_ble_eq_true rfl)⟩ (Nat.le_refl _) (Nat.le_refl _) rfl (fun z hz => nomatch hz) (by decide) rfl (by decide) w_615 wc_3 (fun q => ?_)
      refine gGo_sub [] rfl ?_
      refine g_astore (L' := [(5, .ref q)]) d_Law_may_10 (by decide) rfl ?_
      refine g_ldc d_Law_may_12 w_645 ?_
      exact g_iretL d_Law_may_14 rfl (Nat.le_refl _) (Nat.le_refl _)
    by_cases c1 : x = 1
    · subst c1
      obtain rfl := Option.some.inj h
      refine g_callC (As := [.int a1, .int a2, .int a3, .int a4]) (rest := []) [⟨0, 9, 10, 13⟩] ⟨0, 9, 15, 16⟩ [⟨0, 9, 20, 19⟩] rfl (fun hl0 => ctx_DS_mayHave hl0 hX M a1 a2 a3 a4 1 hq) d_Law_may_6 ca_DS_mayHave w_876 (gXw_h0 hX) rfl rfl rfl (Nat.le_of_ble_eq_true rfl) ⟨(Nat.le_of_ble_eq_true rfl), (Nat.le_of_ble_eq_true rfl)⟩ (Nat.le_refl _) (Nat.le_refl _) rfl (List.forall_mem_cons.mpr ⟨⟨by decide, "java/lang/IndexOutOfBoundsException", w_615, by decide, by decide⟩, fun _ h => nomatch h⟩) (by decide) rfl (by decide) w_287 wc_1 (fun q => ?_)
      refine gGo_sub [] rfl ?_
      refine g_astore (L' := [(5, .ref q)]) d_Law_may_15 (by decide) rfl ?_
      refine g_ldc d_Law_may_17 w_388 ?_
      exact g_iretL d_Law_may_19 rfl (Nat.le_refl _) (Nat.le_refl _)
    by_cases c2 : x = 2
    · subst c2
      obtain rfl := Option.some.inj h
      refine g_callC (As := [.int a1, .int a2, .int a3, .int a4]) (rest := []) [⟨0, 9, 10, 13⟩, ⟨0, 9, 15, 16⟩] ⟨0, 9, 20, 19⟩ [] rfl (fun hl0 => ctx_DS_mayHave hl0 hX M a1 a2 a3 a4 2 hq) d_Law_may_6 ca_DS_mayHave w_876 (gXw_h0 hX) rfl rfl rfl (Nat.le_of_ble_eq_true rfl) ⟨(Nat.le_of_ble_eq_true rfl), (Nat.le_of_ble_eq_true rfl)⟩ (Nat.le_refl _) (Nat.le_refl _) rfl (List.forall_mem_cons.mpr ⟨⟨by decide, "java/lang/IndexOutOfBoundsException", w_615, by decide, by decide⟩, List.forall_mem_cons.mpr ⟨⟨by decide, "java/lang/IllegalArgumentException", w_287, by decide, by decide⟩, fun _ h => nomatch h⟩⟩) (by decide) rfl (by decide) w_288 wc_2 (fun q => ?_)
      refine gGo_sub [] rfl ?_
      refine g_astore (L' := [(5, .ref q)]) d_Law_may_20 (by decide) rfl ?_
      refine g_ldc d_Law_may_22 w_389 ?_
      exact g_iretL d_Law_may_24 rfl (Nat.le_refl _) (Nat.le_refl _)
    exfalso
    revert h
    split
    · rename_i e9
      exact fun _ => c0 (Sum.inl.inj e9)
    · rename_i e9
      exact fun _ => c1 (Sum.inl.inj e9)
    · rename_i e9
      exact fun _ => c2 (Sum.inl.inj e9)
    · exact fun h => nomatch h
    · rename_i e9
      exact nomatch e9
theorem ctl_Law_may {l : Launch} {ε : gEnv} (hl0 : l.stackTraces = false) (hX : gXw ε) (M : gMem) (a1 : Int32) (a2 : Int32) (a3 : Int32) (a4 : Int32) (r : Int32 × gMem) (h : f_Law_may M a1 a2 a3 a4 = some r) : gCtL l ε k_Law_may [(0, 9, 10, 13), (0, 9, 15, 16), (0, 9, 20, 19)] 10 165 [.ref (ε.2.2.1 18 0), .int a1, .int a2, .int a3, .int a4] M (some (.int r.1)) r.2 :=
  gCtL_of hl0 (by decide) (Nat.le_of_ble_eq_true rfl) rfl (t_Law_may hX M a1 a2 a3 a4 r h)
theorem ctlq_Law_may {l : Launch} {ε : gEnv} (hl0 : l.stackTraces = false) (hY : gXw (swE ε)) (M : gMem) (a1 : Int32) (a2 : Int32) (a3 : Int32) (a4 : Int32) (q : Int32 × gMem) (h : onQ (fun M => f_Law_may M a1 a2 a3 a4) M = some q) : gCtL l ε k_Law_may [(0, 9, 10, 13), (0, 9, 15, 16), (0, 9, 20, 19)] 10 165 [.ref (ε.2.2.1 38 0), .int a1, .int a2, .int a3, .int a4] M (some (.int q.1)) q.2 :=
  gCtL_sw (ctl_Law_may hl0 hY (swM M) a1 a2 a3 a4 (q.1, swM q.2) (onQ_s h))
abbrev k_Law_doScript : gMD := (⟨"DropSignalsLaw", "doScript", "(LDropSignals;IJ)I"⟩, method_3_code, 5, some .int)
theorem w_894 : Cond.static ⟨"DropSignalsLaw", "doScript", "(LDropSignals;IJ)I"⟩ ∈ gWs := gWs_in (i := 894) (by decide +kernel) rfl
set_option maxRecDepth 100000 in
theorem cw_Law_doScript : Cond.codeWith k_Law_doScript.1 k_Law_doScript.2.1 k_Law_doScript.2.2.1 k_Law_doScript.2.2.2 [(0, 6, 7, 16)] ∈ gWs := gWs_in (i := 895) rfl rfl
theorem d_Law_doScript_0 : decode method_3_code 0 = .ok (.aload_n 0, 1) := by decide +kernel
theorem d_Law_doScript_1 : decode method_3_code 1 = .ok (.iload_n 1, 1) := by decide +kernel
theorem d_Law_doScript_2 : decode method_3_code 2 = .ok (.lload_n 2, 1) := by decide +kernel
theorem d_Law_doScript_3 : decode method_3_code 3 = .ok (.invokevirtual 22, 3) := by decide +kernel
theorem d_Law_doScript_6 : decode method_3_code 6 = .ok (.ireturn, 1) := by decide +kernel
theorem w_896 : Cond.methodLink "DropSignalsLaw" 22 ⟨"DropSignals", "runScript", "(IJ)I"⟩ ∈ gWs := gWs_in (i := 896) (by decide +kernel) rfl
theorem d_Law_doScript_7 : decode method_3_code 7 = .ok (.astore 4, 2) := by decide +kernel
theorem d_Law_doScript_9 : decode method_3_code 9 = .ok (.ldc 18, 2) := by decide +kernel
theorem d_Law_doScript_11 : decode method_3_code 11 = .ok (.ireturn, 1) := by decide +kernel
noncomputable def f_Law_doScript (M : gMem) (a1 : Int32) (a2 : Int64) : Option (Int32 × gMem) :=
  (f_DS_runScript M a1 a2).bind fun q => match q with
    | .inl 1 => some ((-9999002), M)
    | .inl _ => none
    | .inr q => some (q.1, q.2)
theorem t_Law_doScript {l : Launch} {ε : gEnv} (hX : gXw ε) (M : gMem) (a1 : Int32) (a2 : Int64) (r : Int32 × gMem) (h : f_Law_doScript M a1 a2 = some r) : gGo l ε k_Law_doScript (gRX 9 165) (gFw ε [(0, 6, 7, 16)] 0 0 (some (.int r.1)) r.2) 0 [(0, .ref (ε.2.2.1 18 0)), (1, .int a1), (2, .long a2)] [] M := by
  unfold f_Law_doScript at h
  refine g_aload_n d_Law_doScript_0 rfl 0 rfl ?_
  refine g_iload_n d_Law_doScript_1 rfl 1 rfl ?_
  refine g_lload_n d_Law_doScript_2 rfl 2 rfl ?_
  obtain ⟨q, hq, h⟩ := gOb h
  cases q with
  | inr q =>
    obtain rfl := Option.some.inj h
    refine g_callV_i (As := [.int a1, .long a2]) (rest := []) (ctn_DS_runScript hX M a1 a2 q hq) d_Law_doScript_3 ca_DS_runScript w_896 (gXw_h0 hX) rfl rfl rfl (Nat.le_of_ble_eq_true rfl) ⟨(Nat.le_of_ble_eq_true rfl), (Nat.le_of_ble_eq_true rfl)⟩ ?_
    exact g_iretL d_Law_doScript_6 rfl (by decide) (by decide)
  | inl x =>
    by_cases c0 : x = 1
    · subst c0
      obtain rfl := Option.some.inj h
      refine g_callC (As := [.int a1, .long a2]) (rest := []) [] ⟨0, 6, 7, 16⟩ [] rfl (fun hl0 => ctx_DS_runScript hl0 hX M a1 a2 1 hq) d_Law_doScript_3 ca_DS_runScript w_896 (gXw_h0 hX) rfl rfl rfl (Nat.le_of_ble_eq_true rfl) ⟨(Nat.le_of_ble_eq_true rfl), (Nat.le_of_ble_eq_true rfl)⟩ (Nat.le_refl _) (Nat.le_refl _) rfl (fun z hz => nomatch hz) (by decide) rfl (by decide) w_287 wc_1 (fun q => ?_)
      refine gGo_sub [] rfl ?_
      refine g_astore (L' := [(4, .ref q)]) d_Law_doScript_7 (by decide) rfl ?_
      refine g_ldc d_Law_doScript_9 w_388 ?_
      exact g_iretL d_Law_doScript_11 rfl (Nat.le_refl _) (Nat.le_refl _)
    exfalso
    revert h
    split
    · rename_i e9
      exact fun _ => c0 (Sum.inl.inj e9)
    · exact fun h => nomatch h
    · rename_i e9
      exact nomatch e9
theorem ctl_Law_doScript {l : Launch} {ε : gEnv} (hl0 : l.stackTraces = false) (hX : gXw ε) (M : gMem) (a1 : Int32) (a2 : Int64) (r : Int32 × gMem) (h : f_Law_doScript M a1 a2 = some r) : gCtL l ε k_Law_doScript [(0, 6, 7, 16)] 9 165 [.ref (ε.2.2.1 18 0), .int a1, .long a2] M (some (.int r.1)) r.2 :=
  gCtL_of hl0 (by decide) (Nat.le_of_ble_eq_true rfl) rfl (t_Law_doScript hX M a1 a2 r h)
theorem ctlq_Law_doScript {l : Launch} {ε : gEnv} (hl0 : l.stackTraces = false) (hY : gXw (swE ε)) (M : gMem) (a1 : Int32) (a2 : Int64) (q : Int32 × gMem) (h : onQ (fun M => f_Law_doScript M a1 a2) M = some q) : gCtL l ε k_Law_doScript [(0, 6, 7, 16)] 9 165 [.ref (ε.2.2.1 38 0), .int a1, .long a2] M (some (.int q.1)) q.2 :=
  gCtL_sw (ctl_Law_doScript hl0 hY (swM M) a1 a2 (q.1, swM q.2) (onQ_s h))
abbrev k_Law_doSimulate : gMD := (⟨"DropSignalsLaw", "doSimulate", "(LDropSignals;JI)I"⟩, method_4_code, 5, some .int)
theorem w_922 : Cond.static ⟨"DropSignalsLaw", "doSimulate", "(LDropSignals;JI)I"⟩ ∈ gWs := gWs_in (i := 922) (by decide +kernel) rfl
set_option maxRecDepth 100000 in
theorem cw_Law_doSimulate : Cond.codeWith k_Law_doSimulate.1 k_Law_doSimulate.2.1 k_Law_doSimulate.2.2.1 k_Law_doSimulate.2.2.2 [(0, 6, 7, 16)] ∈ gWs := gWs_in (i := 923) rfl rfl
theorem d_Law_doSimulate_0 : decode method_4_code 0 = .ok (.aload_n 0, 1) := by decide +kernel
theorem d_Law_doSimulate_1 : decode method_4_code 1 = .ok (.lload_n 1, 1) := by decide +kernel
theorem d_Law_doSimulate_2 : decode method_4_code 2 = .ok (.iload_n 3, 1) := by decide +kernel
theorem d_Law_doSimulate_3 : decode method_4_code 3 = .ok (.invokevirtual 26, 3) := by decide +kernel
theorem d_Law_doSimulate_6 : decode method_4_code 6 = .ok (.ireturn, 1) := by decide +kernel
theorem w_924 : Cond.methodLink "DropSignalsLaw" 26 ⟨"DropSignals", "simulate", "(JI)I"⟩ ∈ gWs := gWs_in (i := 924) (by decide +kernel) rfl
theorem d_Law_doSimulate_7 : decode method_4_code 7 = .ok (.astore 4, 2) := by decide +kernel
theorem d_Law_doSimulate_9 : decode method_4_code 9 = .ok (.ldc 18, 2) := by decide +kernel
theorem d_Law_doSimulate_11 : decode method_4_code 11 = .ok (.ireturn, 1) := by decide +kernel
noncomputable def f_Law_doSimulate (M : gMem) (a1 : Int64) (a2 : Int32) : Option (Int32 × gMem) :=
  (f_DS_simulate M a1 a2).bind fun q => match q with
    | .inl 1 => some ((-9999002), M)
    | .inl _ => none
    | .inr q => some (q.1, q.2)
theorem t_Law_doSimulate {l : Launch} {ε : gEnv} (hX : gXw ε) (M : gMem) (a1 : Int64) (a2 : Int32) (r : Int32 × gMem) (h : f_Law_doSimulate M a1 a2 = some r) : gGo l ε k_Law_doSimulate (gRX 9 164) (gFw ε [(0, 6, 7, 16)] 0 0 (some (.int r.1)) r.2) 0 [(0, .ref (ε.2.2.1 18 0)), (1, .long a1), (3, .int a2)] [] M := by
  unfold f_Law_doSimulate at h
  refine g_aload_n d_Law_doSimulate_0 rfl 0 rfl ?_
  refine g_lload_n d_Law_doSimulate_1 rfl 1 rfl ?_
  refine g_iload_n d_Law_doSimulate_2 rfl 2 rfl ?_
  obtain ⟨q, hq, h⟩ := gOb h
  cases q with
  | inr q =>
    obtain rfl := Option.some.inj h
    refine g_callV_i (As := [.long a1, .int a2]) (rest := []) (ctn_DS_simulate hX M a1 a2 q hq) d_Law_doSimulate_3 ca_DS_simulate w_924 (gXw_h0 hX) rfl rfl rfl (Nat.le_of_ble_eq_true rfl) ⟨(Nat.le_of_ble_eq_true rfl), (Nat.le_of_ble_eq_true rfl)⟩ ?_
    exact g_iretL d_Law_doSimulate_6 rfl (by decide) (by decide)
  | inl x =>
    by_cases c0 : x = 1
    · subst c0
      obtain rfl := Option.some.inj h
      refine g_callC (As := [.long a1, .int a2]) (rest := []) [] ⟨0, 6, 7, 16⟩ [] rfl (fun hl0 => ctx_DS_simulate hl0 hX M a1 a2 1 hq) d_Law_doSimulate_3 ca_DS_simulate w_924 (gXw_h0 hX) rfl rfl rfl (Nat.le_of_ble_eq_true rfl) ⟨(Nat.le_of_ble_eq_true rfl), (Nat.le_of_ble_eq_true rfl)⟩ (Nat.le_refl _) (Nat.le_refl _) rfl (fun z hz => nomatch hz) (by decide) rfl (by decide) w_287 wc_1 (fun q => ?_)
      refine gGo_sub [] rfl ?_
      refine g_astore (L' := [(4, .ref q)]) d_Law_doSimulate_7 (by decide) rfl ?_
      refine g_ldc d_Law_doSimulate_9 w_388 ?_
      exact g_iretL d_Law_doSimulate_11 rfl (Nat.le_refl _) (Nat.le_refl _)
    exfalso
    revert h
    split
    · rename_i e9
      exact fun _ => c0 (Sum.inl.inj e9)
    · exact fun h => nomatch h
    · rename_i e9
      exact nomatch e9
theorem ctl_Law_doSimulate {l : Launch} {ε : gEnv} (hl0 : l.stackTraces = false) (hX : gXw ε) (M : gMem) (a1 : Int64) (a2 : Int32) (r : Int32 × gMem) (h : f_Law_doSimulate M a1 a2 = some r) : gCtL l ε k_Law_doSimulate [(0, 6, 7, 16)] 9 164 [.ref (ε.2.2.1 18 0), .long a1, .int a2] M (some (.int r.1)) r.2 :=
  gCtL_of hl0 (by decide) (Nat.le_of_ble_eq_true rfl) rfl (t_Law_doSimulate hX M a1 a2 r h)
theorem ctlq_Law_doSimulate {l : Launch} {ε : gEnv} (hl0 : l.stackTraces = false) (hY : gXw (swE ε)) (M : gMem) (a1 : Int64) (a2 : Int32) (q : Int32 × gMem) (h : onQ (fun M => f_Law_doSimulate M a1 a2) M = some q) : gCtL l ε k_Law_doSimulate [(0, 6, 7, 16)] 9 164 [.ref (ε.2.2.1 38 0), .long a1, .int a2] M (some (.int q.1)) q.2 :=
  gCtL_sw (ctl_Law_doSimulate hl0 hY (swM M) a1 a2 (q.1, swM q.2) (onQ_s h))
abbrev k_Law_tryAppend : gMD := (⟨"DropSignalsLaw", "tryAppend", "(LDropSignals;I)I"⟩, method_5_code, 3, some .int)
theorem w_285 : Cond.static ⟨"DropSignalsLaw", "tryAppend", "(LDropSignals;I)I"⟩ ∈ gWs := gWs_in (i := 285) (by decide +kernel) rfl
set_option maxRecDepth 100000 in
theorem cw_Law_tryAppend : Cond.codeWith k_Law_tryAppend.1 k_Law_tryAppend.2.1 k_Law_tryAppend.2.2.1 k_Law_tryAppend.2.2.2 [(0, 5, 6, 16), (0, 5, 10, 19)] ∈ gWs := gWs_in (i := 286) rfl rfl
theorem d_Law_tryAppend_0 : decode method_5_code 0 = .ok (.aload_n 0, 1) := by decide +kernel
theorem d_Law_tryAppend_1 : decode method_5_code 1 = .ok (.iload_n 1, 1) := by decide +kernel
theorem d_Law_tryAppend_2 : decode method_5_code 2 = .ok (.invokevirtual 30, 3) := by decide +kernel
theorem d_Law_tryAppend_5 : decode method_5_code 5 = .ok (.ireturn, 1) := by decide +kernel
theorem w_289 : Cond.methodLink "DropSignalsLaw" 30 ⟨"DropSignals", "append", "(I)I"⟩ ∈ gWs := gWs_in (i := 289) (by decide +kernel) rfl
theorem d_Law_tryAppend_6 : decode method_5_code 6 = .ok (.astore_n 2, 1) := by decide +kernel
theorem d_Law_tryAppend_7 : decode method_5_code 7 = .ok (.ldc 18, 2) := by decide +kernel
theorem d_Law_tryAppend_9 : decode method_5_code 9 = .ok (.ireturn, 1) := by decide +kernel
theorem d_Law_tryAppend_10 : decode method_5_code 10 = .ok (.astore_n 2, 1) := by decide +kernel
theorem d_Law_tryAppend_11 : decode method_5_code 11 = .ok (.ldc 21, 2) := by decide +kernel
theorem d_Law_tryAppend_13 : decode method_5_code 13 = .ok (.ireturn, 1) := by decide +kernel
noncomputable def f_Law_tryAppend (M : gMem) (a1 : Int32) : Option (Int32 × gMem) :=
  (f_DS_append M a1).bind fun q => match q with
    | .inl 1 => some ((-9999002), M)
    | .inl 2 => some ((-9999003), M)
    | .inl _ => none
    | .inr q => some (q.1, q.2)
theorem t_Law_tryAppend {l : Launch} {ε : gEnv} (hX : gXw ε) (M : gMem) (a1 : Int32) (r : Int32 × gMem) (h : f_Law_tryAppend M a1 = some r) : gGo l ε k_Law_tryAppend (gRX 9 141) (gFw ε [(0, 5, 6, 16), (0, 5, 10, 19)] 0 0 (some (.int r.1)) r.2) 0 [(0, .ref (ε.2.2.1 18 0)), (1, .int a1)] [] M := by
  unfold f_Law_tryAppend at h
  refine g_aload_n d_Law_tryAppend_0 rfl 0 rfl ?_
  refine g_iload_n d_Law_tryAppend_1 rfl 1 rfl ?_
  obtain ⟨q, hq, h⟩ := gOb h
  cases q with
  | inr q =>
    obtain rfl := Option.some.inj h
    refine g_callV_i (As := [.int a1]) (rest := []) (ctn_DS_append hX M a1 q hq) d_Law_tryAppend_2 ca_DS_append w_289 (gXw_h0 hX) rfl rfl rfl (Nat.le_of_ble_eq_true rfl) ⟨(Nat.le_of_ble_eq_true rfl), (Nat.le_of_ble_eq_true rfl)⟩ ?_
    exact g_iretL d_Law_tryAppend_5 rfl (by decide) (by decide)
  | inl x =>
    by_cases c0 : x = 1
    · subst c0
      obtain rfl := Option.some.inj h
      refine g_callC (As := [.int a1]) (rest := []) [] ⟨0, 5, 6, 16⟩ [⟨0, 5, 10, 19⟩] rfl (fun hl0 => ctx_DS_append hl0 hX M a1 1 hq) d_Law_tryAppend_2 ca_DS_append w_289 (gXw_h0 hX) rfl rfl rfl (Nat.le_of_ble_eq_true rfl) ⟨(Nat.le_of_ble_eq_true rfl), (Nat.le_of_ble_eq_true rfl)⟩ (Nat.le_refl _) (Nat.le_refl _) rfl (fun z hz => nomatch hz) (by decide) rfl (by decide) w_287 wc_1 (fun q => ?_)
      refine gGo_sub [] rfl ?_
      refine g_astore_n (L' := [(2, .ref q)]) d_Law_tryAppend_6 rfl (by decide) rfl ?_
      refine g_ldc d_Law_tryAppend_7 w_388 ?_
      exact g_iretL d_Law_tryAppend_9 rfl (Nat.le_refl _) (Nat.le_refl _)
    by_cases c1 : x = 2
    · subst c1
      obtain rfl := Option.some.inj h
      refine g_callC (As := [.int a1]) (rest := []) [⟨0, 5, 6, 16⟩] ⟨0, 5, 10, 19⟩ [] rfl (fun hl0 => ctx_DS_append hl0 hX M a1 2 hq) d_Law_tryAppend_2 ca_DS_append w_289 (gXw_h0 hX) rfl rfl rfl (Nat.le_of_ble_eq_true rfl) ⟨(Nat.le_of_ble_eq_true rfl), (Nat.le_of_ble_eq_true rfl)⟩ (Nat.le_refl _) (Nat.le_refl _) rfl (List.forall_mem_cons.mpr ⟨⟨by decide, "java/lang/IllegalArgumentException", w_287, by decide, by decide⟩, fun _ h => nomatch h⟩) (by decide) rfl (by decide) w_288 wc_2 (fun q => ?_)
      refine gGo_sub [] rfl ?_
      refine g_astore_n (L' := [(2, .ref q)]) d_Law_tryAppend_10 rfl (by decide) rfl ?_
      refine g_ldc d_Law_tryAppend_11 w_389 ?_
      exact g_iretL d_Law_tryAppend_13 rfl (Nat.le_refl _) (Nat.le_refl _)
    exfalso
    revert h
    split
    · rename_i e9
      exact fun _ => c0 (Sum.inl.inj e9)
    · rename_i e9
      exact fun _ => c1 (Sum.inl.inj e9)
    · exact fun h => nomatch h
    · rename_i e9
      exact nomatch e9
theorem ctl_Law_tryAppend {l : Launch} {ε : gEnv} (hl0 : l.stackTraces = false) (hX : gXw ε) (M : gMem) (a1 : Int32) (r : Int32 × gMem) (h : f_Law_tryAppend M a1 = some r) : gCtL l ε k_Law_tryAppend [(0, 5, 6, 16), (0, 5, 10, 19)] 9 141 [.ref (ε.2.2.1 18 0), .int a1] M (some (.int r.1)) r.2 :=
  gCtL_of hl0 (by decide) (Nat.le_of_ble_eq_true rfl) rfl (t_Law_tryAppend hX M a1 r h)
theorem ctlq_Law_tryAppend {l : Launch} {ε : gEnv} (hl0 : l.stackTraces = false) (hY : gXw (swE ε)) (M : gMem) (a1 : Int32) (q : Int32 × gMem) (h : onQ (fun M => f_Law_tryAppend M a1) M = some q) : gCtL l ε k_Law_tryAppend [(0, 5, 6, 16), (0, 5, 10, 19)] 9 141 [.ref (ε.2.2.1 38 0), .int a1] M (some (.int q.1)) q.2 :=
  gCtL_sw (ctl_Law_tryAppend hl0 hY (swM M) a1 (q.1, swM q.2) (onQ_s h))
abbrev k_Law_tryLoad : gMD := (⟨"DropSignalsLaw", "tryLoad", "(LDropSignals;)I"⟩, method_6_code, 2, some .int)
theorem w_391 : Cond.static ⟨"DropSignalsLaw", "tryLoad", "(LDropSignals;)I"⟩ ∈ gWs := gWs_in (i := 391) (by decide +kernel) rfl
set_option maxRecDepth 100000 in
theorem cw_Law_tryLoad : Cond.codeWith k_Law_tryLoad.1 k_Law_tryLoad.2.1 k_Law_tryLoad.2.2.1 k_Law_tryLoad.2.2.2 [(0, 4, 5, 19)] ∈ gWs := gWs_in (i := 392) rfl rfl
theorem d_Law_tryLoad_0 : decode method_6_code 0 = .ok (.aload_n 0, 1) := by decide +kernel
theorem d_Law_tryLoad_1 : decode method_6_code 1 = .ok (.invokevirtual 34, 3) := by decide +kernel
theorem d_Law_tryLoad_4 : decode method_6_code 4 = .ok (.ireturn, 1) := by decide +kernel
theorem w_393 : Cond.methodLink "DropSignalsLaw" 34 ⟨"DropSignals", "load", "()I"⟩ ∈ gWs := gWs_in (i := 393) (by decide +kernel) rfl
theorem d_Law_tryLoad_5 : decode method_6_code 5 = .ok (.astore_n 1, 1) := by decide +kernel
theorem d_Law_tryLoad_6 : decode method_6_code 6 = .ok (.ldc 21, 2) := by decide +kernel
theorem d_Law_tryLoad_8 : decode method_6_code 8 = .ok (.ireturn, 1) := by decide +kernel
noncomputable def f_Law_tryLoad (M : gMem) : Option (Int32 × gMem) :=
  (f_DS_load M).bind fun q => match q with
    | .inl 2 => some ((-9999003), M)
    | .inl _ => none
    | .inr q => some (q.1, q.2)
theorem t_Law_tryLoad {l : Launch} {ε : gEnv} (hX : gXw ε) (M : gMem) (r : Int32 × gMem) (h : f_Law_tryLoad M = some r) : gGo l ε k_Law_tryLoad (gRX 9 161) (gFw ε [(0, 4, 5, 19)] 0 0 (some (.int r.1)) r.2) 0 [(0, .ref (ε.2.2.1 18 0))] [] M := by
  unfold f_Law_tryLoad at h
  refine g_aload_n d_Law_tryLoad_0 rfl 0 rfl ?_
  obtain ⟨q, hq, h⟩ := gOb h
  cases q with
  | inr q =>
    obtain rfl := Option.some.inj h
    refine g_callV_i (As := []) (rest := []) (ctn_DS_load hX M q hq) d_Law_tryLoad_1 ca_DS_load w_393 (gXw_h0 hX) rfl rfl rfl (Nat.le_of_ble_eq_true rfl) ⟨(Nat.le_of_ble_eq_true rfl), (Nat.le_of_ble_eq_true rfl)⟩ ?_
    exact g_iretL d_Law_tryLoad_4 rfl (by decide) (by decide)
  | inl x =>
    by_cases c0 : x = 2
    · subst c0
      obtain rfl := Option.some.inj h
      refine g_callC (As := []) (rest := []) [] ⟨0, 4, 5, 19⟩ [] rfl (fun hl0 => ctx_DS_load hl0 hX M 2 hq) d_Law_tryLoad_1 ca_DS_load w_393 (gXw_h0 hX) rfl rfl rfl (Nat.le_of_ble_eq_true rfl) ⟨(Nat.le_of_ble_eq_true rfl), (Nat.le_of_ble_eq_true rfl)⟩ (Nat.le_refl _) (Nat.le_refl _) rfl (fun z hz => nomatch hz) (by decide) rfl (by decide) w_288 wc_2 (fun q => ?_)
      refine gGo_sub [] rfl ?_
      refine g_astore_n (L' := [(1, .ref q)]) d_Law_tryLoad_5 rfl (by decide) rfl ?_
      refine g_ldc d_Law_tryLoad_6 w_389 ?_
      exact g_iretL d_Law_tryLoad_8 rfl (Nat.le_refl _) (Nat.le_refl _)
    exfalso
    revert h
    split
    · rename_i e9
      exact fun _ => c0 (Sum.inl.inj e9)
    · exact fun h => nomatch h
    · rename_i e9
      exact nomatch e9
theorem ctl_Law_tryLoad {l : Launch} {ε : gEnv} (hl0 : l.stackTraces = false) (hX : gXw ε) (M : gMem) (r : Int32 × gMem) (h : f_Law_tryLoad M = some r) : gCtL l ε k_Law_tryLoad [(0, 4, 5, 19)] 9 161 [.ref (ε.2.2.1 18 0)] M (some (.int r.1)) r.2 :=
  gCtL_of hl0 (by decide) (Nat.le_of_ble_eq_true rfl) rfl (t_Law_tryLoad hX M r h)
theorem ctlq_Law_tryLoad {l : Launch} {ε : gEnv} (hl0 : l.stackTraces = false) (hY : gXw (swE ε)) (M : gMem) (q : Int32 × gMem) (h : onQ (fun M => f_Law_tryLoad M) M = some q) : gCtL l ε k_Law_tryLoad [(0, 4, 5, 19)] 9 161 [.ref (ε.2.2.1 38 0)] M (some (.int q.1)) q.2 :=
  gCtL_sw (ctl_Law_tryLoad hl0 hY (swM M) (q.1, swM q.2) (onQ_s h))
abbrev k_Law_tryAbout : gMD := (⟨"DropSignalsLaw", "tryAbout", "(LDropSignals;I)I"⟩, method_7_code, 3, some .int)
theorem w_598 : Cond.static ⟨"DropSignalsLaw", "tryAbout", "(LDropSignals;I)I"⟩ ∈ gWs := gWs_in (i := 598) (by decide +kernel) rfl
set_option maxRecDepth 100000 in
theorem cw_Law_tryAbout : Cond.codeWith k_Law_tryAbout.1 k_Law_tryAbout.2.1 k_Law_tryAbout.2.2.1 k_Law_tryAbout.2.2.2 [(0, 5, 6, 16)] ∈ gWs := gWs_in (i := 599) rfl rfl
theorem d_Law_tryAbout_0 : decode method_7_code 0 = .ok (.aload_n 0, 1) := by decide +kernel
theorem d_Law_tryAbout_1 : decode method_7_code 1 = .ok (.iload_n 1, 1) := by decide +kernel
theorem d_Law_tryAbout_2 : decode method_7_code 2 = .ok (.invokevirtual 38, 3) := by decide +kernel
theorem d_Law_tryAbout_5 : decode method_7_code 5 = .ok (.ireturn, 1) := by decide +kernel
theorem w_600 : Cond.methodLink "DropSignalsLaw" 38 ⟨"DropSignals", "about", "(I)I"⟩ ∈ gWs := gWs_in (i := 600) (by decide +kernel) rfl
theorem d_Law_tryAbout_6 : decode method_7_code 6 = .ok (.astore_n 2, 1) := by decide +kernel
theorem d_Law_tryAbout_7 : decode method_7_code 7 = .ok (.ldc 18, 2) := by decide +kernel
theorem d_Law_tryAbout_9 : decode method_7_code 9 = .ok (.ireturn, 1) := by decide +kernel
noncomputable def f_Law_tryAbout (M : gMem) (a1 : Int32) : Option (Int32 × gMem) :=
  (f_DS_about M a1).bind fun q => match q with
    | .inl 1 => some ((-9999002), M)
    | .inl _ => none
    | .inr q => some (q, M)
theorem t_Law_tryAbout {l : Launch} {ε : gEnv} (hX : gXw ε) (M : gMem) (a1 : Int32) (r : Int32 × gMem) (h : f_Law_tryAbout M a1 = some r) : gGo l ε k_Law_tryAbout (gRX 10 162) (gFw ε [(0, 5, 6, 16)] 0 0 (some (.int r.1)) r.2) 0 [(0, .ref (ε.2.2.1 18 0)), (1, .int a1)] [] M := by
  unfold f_Law_tryAbout at h
  refine g_aload_n d_Law_tryAbout_0 rfl 0 rfl ?_
  refine g_iload_n d_Law_tryAbout_1 rfl 1 rfl ?_
  obtain ⟨q, hq, h⟩ := gOb h
  cases q with
  | inr q =>
    obtain rfl := Option.some.inj h
    refine g_callV_i (As := [.int a1]) (rest := []) (ctn_DS_about hX M a1 q hq) d_Law_tryAbout_2 ca_DS_about w_600 (gXw_h0 hX) rfl rfl rfl (Nat.le_of_ble_eq_true rfl) ⟨(Nat.le_of_ble_eq_true rfl), (Nat.le_of_ble_eq_true rfl)⟩ ?_
    exact g_iretL d_Law_tryAbout_5 rfl (by decide) (by decide)
  | inl x =>
    by_cases c0 : x = 1
    · subst c0
      obtain rfl := Option.some.inj h
      refine g_callC (As := [.int a1]) (rest := []) [] ⟨0, 5, 6, 16⟩ [] rfl (fun hl0 => ctx_DS_about hl0 hX M a1 1 hq) d_Law_tryAbout_2 ca_DS_about w_600 (gXw_h0 hX) rfl rfl rfl (Nat.le_of_ble_eq_true rfl) ⟨(Nat.le_of_ble_eq_true rfl), (Nat.le_of_ble_eq_true rfl)⟩ (Nat.le_refl _) (Nat.le_refl _) rfl (fun z hz => nomatch hz) (by decide) rfl (by decide) w_287 wc_1 (fun q => ?_)
      refine gGo_sub [] rfl ?_
      refine g_astore_n (L' := [(2, .ref q)]) d_Law_tryAbout_6 rfl (by decide) rfl ?_
      refine g_ldc d_Law_tryAbout_7 w_388 ?_
      exact g_iretL d_Law_tryAbout_9 rfl (Nat.le_refl _) (Nat.le_refl _)
    exfalso
    revert h
    split
    · rename_i e9
      exact fun _ => c0 (Sum.inl.inj e9)
    · exact fun h => nomatch h
    · rename_i e9
      exact nomatch e9
theorem ctl_Law_tryAbout {l : Launch} {ε : gEnv} (hl0 : l.stackTraces = false) (hX : gXw ε) (M : gMem) (a1 : Int32) (r : Int32 × gMem) (h : f_Law_tryAbout M a1 = some r) : gCtL l ε k_Law_tryAbout [(0, 5, 6, 16)] 10 162 [.ref (ε.2.2.1 18 0), .int a1] M (some (.int r.1)) r.2 :=
  gCtL_of hl0 (by decide) (Nat.le_of_ble_eq_true rfl) rfl (t_Law_tryAbout hX M a1 r h)
theorem ctlq_Law_tryAbout {l : Launch} {ε : gEnv} (hl0 : l.stackTraces = false) (hY : gXw (swE ε)) (M : gMem) (a1 : Int32) (q : Int32 × gMem) (h : onQ (fun M => f_Law_tryAbout M a1) M = some q) : gCtL l ε k_Law_tryAbout [(0, 5, 6, 16)] 10 162 [.ref (ε.2.2.1 38 0), .int a1] M (some (.int q.1)) q.2 :=
  gCtL_sw (ctl_Law_tryAbout hl0 hY (swM M) a1 (q.1, swM q.2) (onQ_s h))
abbrev k_Law_tryCard : gMD := (⟨"DropSignalsLaw", "tryCard", "(LDropSignals;II)I"⟩, method_8_code, 4, some .int)
theorem w_613 : Cond.static ⟨"DropSignalsLaw", "tryCard", "(LDropSignals;II)I"⟩ ∈ gWs := gWs_in (i := 613) (by decide +kernel) rfl
set_option maxRecDepth 100000 in
theorem cw_Law_tryCard : Cond.codeWith k_Law_tryCard.1 k_Law_tryCard.2.1 k_Law_tryCard.2.2.1 k_Law_tryCard.2.2.2 [(0, 6, 7, 13), (0, 6, 11, 16)] ∈ gWs := gWs_in (i := 614) rfl rfl
theorem d_Law_tryCard_0 : decode method_8_code 0 = .ok (.aload_n 0, 1) := by decide +kernel
theorem d_Law_tryCard_1 : decode method_8_code 1 = .ok (.iload_n 1, 1) := by decide +kernel
theorem d_Law_tryCard_2 : decode method_8_code 2 = .ok (.iload_n 2, 1) := by decide +kernel
theorem d_Law_tryCard_3 : decode method_8_code 3 = .ok (.invokevirtual 41, 3) := by decide +kernel
theorem d_Law_tryCard_6 : decode method_8_code 6 = .ok (.ireturn, 1) := by decide +kernel
theorem w_616 : Cond.methodLink "DropSignalsLaw" 41 ⟨"DropSignals", "cardOf", "(II)I"⟩ ∈ gWs := gWs_in (i := 616) (by decide +kernel) rfl
theorem d_Law_tryCard_7 : decode method_8_code 7 = .ok (.astore_n 3, 1) := by decide +kernel
theorem d_Law_tryCard_8 : decode method_8_code 8 = .ok (.ldc 15, 2) := by decide +kernel
theorem d_Law_tryCard_10 : decode method_8_code 10 = .ok (.ireturn, 1) := by decide +kernel
theorem d_Law_tryCard_11 : decode method_8_code 11 = .ok (.astore_n 3, 1) := by decide +kernel
theorem d_Law_tryCard_12 : decode method_8_code 12 = .ok (.ldc 18, 2) := by decide +kernel
theorem d_Law_tryCard_14 : decode method_8_code 14 = .ok (.ireturn, 1) := by decide +kernel
noncomputable def f_Law_tryCard (M : gMem) (a1 : Int32) (a2 : Int32) : Option (Int32 × gMem) :=
  (f_DS_cardOf M a1 a2).bind fun q => match q with
    | .inl 3 => some ((-9999001), M)
    | .inl 1 => some ((-9999002), M)
    | .inl _ => none
    | .inr q => some (q, M)
theorem t_Law_tryCard {l : Launch} {ε : gEnv} (hX : gXw ε) (M : gMem) (a1 : Int32) (a2 : Int32) (r : Int32 × gMem) (h : f_Law_tryCard M a1 a2 = some r) : gGo l ε k_Law_tryCard (gRX 10 163) (gFw ε [(0, 6, 7, 13), (0, 6, 11, 16)] 0 0 (some (.int r.1)) r.2) 0 [(0, .ref (ε.2.2.1 18 0)), (1, .int a1), (2, .int a2)] [] M := by
  unfold f_Law_tryCard at h
  refine g_aload_n d_Law_tryCard_0 rfl 0 rfl ?_
  refine g_iload_n d_Law_tryCard_1 rfl 1 rfl ?_
  refine g_iload_n d_Law_tryCard_2 rfl 2 rfl ?_
  obtain ⟨q, hq, h⟩ := gOb h
  cases q with
  | inr q =>
    obtain rfl := Option.some.inj h
    refine g_callV_i (As := [.int a1, .int a2]) (rest := []) (ctn_DS_cardOf hX M a1 a2 q hq) d_Law_tryCard_3 ca_DS_cardOf w_616 (gXw_h0 hX) rfl rfl rfl (Nat.le_of_ble_eq_true rfl) ⟨(Nat.le_of_ble_eq_true rfl), (Nat.le_of_ble_eq_true rfl)⟩ ?_
    exact g_iretL d_Law_tryCard_6 rfl (by decide) (by decide)
  | inl x =>
    by_cases c0 : x = 3
    · subst c0
      obtain rfl := Option.some.inj h
      refine g_callC (As := [.int a1, .int a2]) (rest := []) [] ⟨0, 6, 7, 13⟩ [⟨0, 6, 11, 16⟩] rfl (fun hl0 => ctx_DS_cardOf hl0 hX M a1 a2 3 hq) d_Law_tryCard_3 ca_DS_cardOf w_616 (gXw_h0 hX) rfl rfl rfl (Nat.le_of_ble_eq_true rfl) ⟨(Nat.le_of_ble_eq_true rfl), (Nat.le_of_ble_eq_true rfl)⟩ (Nat.le_refl _) (Nat.le_refl _) rfl (fun z hz => nomatch hz) (by decide) rfl (by decide) w_615 wc_3 (fun q => ?_)
      refine gGo_sub [] rfl ?_
      refine g_astore_n (L' := [(3, .ref q)]) d_Law_tryCard_7 rfl (by decide) rfl ?_
      refine g_ldc d_Law_tryCard_8 w_645 ?_
      exact g_iretL d_Law_tryCard_10 rfl (Nat.le_refl _) (Nat.le_refl _)
    by_cases c1 : x = 1
    · subst c1
      obtain rfl := Option.some.inj h
      refine g_callC (As := [.int a1, .int a2]) (rest := []) [⟨0, 6, 7, 13⟩] ⟨0, 6, 11, 16⟩ [] rfl (fun hl0 => ctx_DS_cardOf hl0 hX M a1 a2 1 hq) d_Law_tryCard_3 ca_DS_cardOf w_616 (gXw_h0 hX) rfl rfl rfl (Nat.le_of_ble_eq_true rfl) ⟨(Nat.le_of_ble_eq_true rfl), (Nat.le_of_ble_eq_true rfl)⟩ (Nat.le_refl _) (Nat.le_refl _) rfl (List.forall_mem_cons.mpr ⟨⟨by decide, "java/lang/IndexOutOfBoundsException", w_615, by decide, by decide⟩, fun _ h => nomatch h⟩) (by decide) rfl (by decide) w_287 wc_1 (fun q => ?_)
      refine gGo_sub [] rfl ?_
      refine g_astore_n (L' := [(3, .ref q)]) d_Law_tryCard_11 rfl (by decide) rfl ?_
      refine g_ldc d_Law_tryCard_12 w_388 ?_
      exact g_iretL d_Law_tryCard_14 rfl (Nat.le_refl _) (Nat.le_refl _)
    exfalso
    revert h
    split
    · rename_i e9
      exact fun _ => c0 (Sum.inl.inj e9)
    · rename_i e9
      exact fun _ => c1 (Sum.inl.inj e9)
    · exact fun h => nomatch h
    · rename_i e9
      exact nomatch e9
theorem ctl_Law_tryCard {l : Launch} {ε : gEnv} (hl0 : l.stackTraces = false) (hX : gXw ε) (M : gMem) (a1 : Int32) (a2 : Int32) (r : Int32 × gMem) (h : f_Law_tryCard M a1 a2 = some r) : gCtL l ε k_Law_tryCard [(0, 6, 7, 13), (0, 6, 11, 16)] 10 163 [.ref (ε.2.2.1 18 0), .int a1, .int a2] M (some (.int r.1)) r.2 :=
  gCtL_of hl0 (by decide) (Nat.le_of_ble_eq_true rfl) rfl (t_Law_tryCard hX M a1 a2 r h)
theorem ctlq_Law_tryCard {l : Launch} {ε : gEnv} (hl0 : l.stackTraces = false) (hY : gXw (swE ε)) (M : gMem) (a1 : Int32) (a2 : Int32) (q : Int32 × gMem) (h : onQ (fun M => f_Law_tryCard M a1 a2) M = some q) : gCtL l ε k_Law_tryCard [(0, 6, 7, 13), (0, 6, 11, 16)] 10 163 [.ref (ε.2.2.1 38 0), .int a1, .int a2] M (some (.int q.1)) q.2 :=
  gCtL_sw (ctl_Law_tryCard hl0 hY (swM M) a1 a2 (q.1, swM q.2) (onQ_s h))
abbrev k_Law_tryTold : gMD := (⟨"DropSignalsLaw", "tryTold", "(LDropSignals;III)I"⟩, method_9_code, 5, some .int)
theorem w_647 : Cond.static ⟨"DropSignalsLaw", "tryTold", "(LDropSignals;III)I"⟩ ∈ gWs := gWs_in (i := 647) (by decide +kernel) rfl
set_option maxRecDepth 100000 in
theorem cw_Law_tryTold : Cond.codeWith k_Law_tryTold.1 k_Law_tryTold.2.1 k_Law_tryTold.2.2.1 k_Law_tryTold.2.2.2 [(0, 7, 8, 13), (0, 7, 13, 16)] ∈ gWs := gWs_in (i := 648) rfl rfl
theorem d_Law_tryTold_0 : decode method_9_code 0 = .ok (.aload_n 0, 1) := by decide +kernel
theorem d_Law_tryTold_1 : decode method_9_code 1 = .ok (.iload_n 1, 1) := by decide +kernel
theorem d_Law_tryTold_2 : decode method_9_code 2 = .ok (.iload_n 2, 1) := by decide +kernel
theorem d_Law_tryTold_3 : decode method_9_code 3 = .ok (.iload_n 3, 1) := by decide +kernel
theorem d_Law_tryTold_4 : decode method_9_code 4 = .ok (.invokevirtual 45, 3) := by decide +kernel
theorem d_Law_tryTold_7 : decode method_9_code 7 = .ok (.ireturn, 1) := by decide +kernel
theorem w_649 : Cond.methodLink "DropSignalsLaw" 45 ⟨"DropSignals", "suitOf", "(III)I"⟩ ∈ gWs := gWs_in (i := 649) (by decide +kernel) rfl
theorem d_Law_tryTold_8 : decode method_9_code 8 = .ok (.astore 4, 2) := by decide +kernel
theorem d_Law_tryTold_10 : decode method_9_code 10 = .ok (.ldc 15, 2) := by decide +kernel
theorem d_Law_tryTold_12 : decode method_9_code 12 = .ok (.ireturn, 1) := by decide +kernel
theorem d_Law_tryTold_13 : decode method_9_code 13 = .ok (.astore 4, 2) := by decide +kernel
theorem d_Law_tryTold_15 : decode method_9_code 15 = .ok (.ldc 18, 2) := by decide +kernel
theorem d_Law_tryTold_17 : decode method_9_code 17 = .ok (.ireturn, 1) := by decide +kernel
noncomputable def f_Law_tryTold (M : gMem) (a1 : Int32) (a2 : Int32) (a3 : Int32) : Option (Int32 × gMem) :=
  (f_DS_suitOf M a1 a2 a3).bind fun q => match q with
    | .inl 3 => some ((-9999001), M)
    | .inl 1 => some ((-9999002), M)
    | .inl _ => none
    | .inr q => some (q, M)
theorem t_Law_tryTold {l : Launch} {ε : gEnv} (hX : gXw ε) (M : gMem) (a1 : Int32) (a2 : Int32) (a3 : Int32) (r : Int32 × gMem) (h : f_Law_tryTold M a1 a2 a3 = some r) : gGo l ε k_Law_tryTold (gRX 10 164) (gFw ε [(0, 7, 8, 13), (0, 7, 13, 16)] 0 0 (some (.int r.1)) r.2) 0 [(0, .ref (ε.2.2.1 18 0)), (1, .int a1), (2, .int a2), (3, .int a3)] [] M := by
  unfold f_Law_tryTold at h
  refine g_aload_n d_Law_tryTold_0 rfl 0 rfl ?_
  refine g_iload_n d_Law_tryTold_1 rfl 1 rfl ?_
  refine g_iload_n d_Law_tryTold_2 rfl 2 rfl ?_
  refine g_iload_n d_Law_tryTold_3 rfl 3 rfl ?_
  obtain ⟨q, hq, h⟩ := gOb h
  cases q with
  | inr q =>
    obtain rfl := Option.some.inj h
    refine g_callV_i (As := [.int a1, .int a2, .int a3]) (rest := []) (ctn_DS_suitOf hX M a1 a2 a3 q hq) d_Law_tryTold_4 ca_DS_suitOf w_649 (gXw_h0 hX) rfl rfl rfl (Nat.le_of_ble_eq_true rfl) ⟨(Nat.le_of_ble_eq_true rfl), (Nat.le_of_ble_eq_true rfl)⟩ ?_
    exact g_iretL d_Law_tryTold_7 rfl (by decide) (by decide)
  | inl x =>
    by_cases c0 : x = 3
    · subst c0
      obtain rfl := Option.some.inj h
      refine g_callC (As := [.int a1, .int a2, .int a3]) (rest := []) [] ⟨0, 7, 8, 13⟩ [⟨0, 7, 13, 16⟩] rfl (fun hl0 => ctx_DS_suitOf hl0 hX M a1 a2 a3 3 hq) d_Law_tryTold_4 ca_DS_suitOf w_649 (gXw_h0 hX) rfl rfl rfl (Nat.le_of_ble_eq_true rfl) ⟨(Nat.le_of_ble_eq_true rfl), (Nat.le_of_ble_eq_true rfl)⟩ (Nat.le_refl _) (Nat.le_refl _) rfl (fun z hz => nomatch hz) (by decide) rfl (by decide) w_615 wc_3 (fun q => ?_)
      refine gGo_sub [] rfl ?_
      refine g_astore (L' := [(4, .ref q)]) d_Law_tryTold_8 (by decide) rfl ?_
      refine g_ldc d_Law_tryTold_10 w_645 ?_
      exact g_iretL d_Law_tryTold_12 rfl (Nat.le_refl _) (Nat.le_refl _)
    by_cases c1 : x = 1
    · subst c1
      obtain rfl := Option.some.inj h
      refine g_callC (As := [.int a1, .int a2, .int a3]) (rest := []) [⟨0, 7, 8, 13⟩] ⟨0, 7, 13, 16⟩ [] rfl (fun hl0 => ctx_DS_suitOf hl0 hX M a1 a2 a3 1 hq) d_Law_tryTold_4 ca_DS_suitOf w_649 (gXw_h0 hX) rfl rfl rfl (Nat.le_of_ble_eq_true rfl) ⟨(Nat.le_of_ble_eq_true rfl), (Nat.le_of_ble_eq_true rfl)⟩ (Nat.le_refl _) (Nat.le_refl _) rfl (List.forall_mem_cons.mpr ⟨⟨by decide, "java/lang/IndexOutOfBoundsException", w_615, by decide, by decide⟩, fun _ h => nomatch h⟩) (by decide) rfl (by decide) w_287 wc_1 (fun q => ?_)
      refine gGo_sub [] rfl ?_
      refine g_astore (L' := [(4, .ref q)]) d_Law_tryTold_13 (by decide) rfl ?_
      refine g_ldc d_Law_tryTold_15 w_388 ?_
      exact g_iretL d_Law_tryTold_17 rfl (Nat.le_refl _) (Nat.le_refl _)
    exfalso
    revert h
    split
    · rename_i e9
      exact fun _ => c0 (Sum.inl.inj e9)
    · rename_i e9
      exact fun _ => c1 (Sum.inl.inj e9)
    · exact fun h => nomatch h
    · rename_i e9
      exact nomatch e9
theorem ctl_Law_tryTold {l : Launch} {ε : gEnv} (hl0 : l.stackTraces = false) (hX : gXw ε) (M : gMem) (a1 : Int32) (a2 : Int32) (a3 : Int32) (r : Int32 × gMem) (h : f_Law_tryTold M a1 a2 a3 = some r) : gCtL l ε k_Law_tryTold [(0, 7, 8, 13), (0, 7, 13, 16)] 10 164 [.ref (ε.2.2.1 18 0), .int a1, .int a2, .int a3] M (some (.int r.1)) r.2 :=
  gCtL_of hl0 (by decide) (Nat.le_of_ble_eq_true rfl) rfl (t_Law_tryTold hX M a1 a2 a3 r h)
theorem ctlq_Law_tryTold {l : Launch} {ε : gEnv} (hl0 : l.stackTraces = false) (hY : gXw (swE ε)) (M : gMem) (a1 : Int32) (a2 : Int32) (a3 : Int32) (q : Int32 × gMem) (h : onQ (fun M => f_Law_tryTold M a1 a2 a3) M = some q) : gCtL l ε k_Law_tryTold [(0, 7, 8, 13), (0, 7, 13, 16)] 10 164 [.ref (ε.2.2.1 38 0), .int a1, .int a2, .int a3] M (some (.int q.1)) q.2 :=
  gCtL_sw (ctl_Law_tryTold hl0 hY (swM M) a1 a2 a3 (q.1, swM q.2) (onQ_s h))
abbrev k_Law_tryTrick : gMD := (⟨"DropSignalsLaw", "tryTrick", "(LDropSignals;I)I"⟩, method_10_code, 3, some .int)
theorem w_670 : Cond.static ⟨"DropSignalsLaw", "tryTrick", "(LDropSignals;I)I"⟩ ∈ gWs := gWs_in (i := 670) (by decide +kernel) rfl
set_option maxRecDepth 100000 in
theorem cw_Law_tryTrick : Cond.codeWith k_Law_tryTrick.1 k_Law_tryTrick.2.1 k_Law_tryTrick.2.2.1 k_Law_tryTrick.2.2.2 [(0, 5, 6, 13)] ∈ gWs := gWs_in (i := 671) rfl rfl
theorem d_Law_tryTrick_0 : decode method_10_code 0 = .ok (.aload_n 0, 1) := by decide +kernel
theorem d_Law_tryTrick_1 : decode method_10_code 1 = .ok (.iload_n 1, 1) := by decide +kernel
theorem d_Law_tryTrick_2 : decode method_10_code 2 = .ok (.invokevirtual 49, 3) := by decide +kernel
theorem d_Law_tryTrick_5 : decode method_10_code 5 = .ok (.ireturn, 1) := by decide +kernel
theorem w_672 : Cond.methodLink "DropSignalsLaw" 49 ⟨"DropSignals", "trick", "(I)I"⟩ ∈ gWs := gWs_in (i := 672) (by decide +kernel) rfl
theorem d_Law_tryTrick_6 : decode method_10_code 6 = .ok (.astore_n 2, 1) := by decide +kernel
theorem d_Law_tryTrick_7 : decode method_10_code 7 = .ok (.ldc 15, 2) := by decide +kernel
theorem d_Law_tryTrick_9 : decode method_10_code 9 = .ok (.ireturn, 1) := by decide +kernel
noncomputable def f_Law_tryTrick (M : gMem) (a1 : Int32) : Option (Int32 × gMem) :=
  (f_DS_trick M a1).bind fun q => match q with
    | .inl 3 => some ((-9999001), M)
    | .inl _ => none
    | .inr q => some (q, M)
theorem t_Law_tryTrick {l : Launch} {ε : gEnv} (hX : gXw ε) (M : gMem) (a1 : Int32) (r : Int32 × gMem) (h : f_Law_tryTrick M a1 = some r) : gGo l ε k_Law_tryTrick (gRX 10 162) (gFw ε [(0, 5, 6, 13)] 0 0 (some (.int r.1)) r.2) 0 [(0, .ref (ε.2.2.1 18 0)), (1, .int a1)] [] M := by
  unfold f_Law_tryTrick at h
  refine g_aload_n d_Law_tryTrick_0 rfl 0 rfl ?_
  refine g_iload_n d_Law_tryTrick_1 rfl 1 rfl ?_
  obtain ⟨q, hq, h⟩ := gOb h
  cases q with
  | inr q =>
    obtain rfl := Option.some.inj h
    refine g_callV_i (As := [.int a1]) (rest := []) (ctn_DS_trick hX M a1 q hq) d_Law_tryTrick_2 ca_DS_trick w_672 (gXw_h0 hX) rfl rfl rfl (Nat.le_of_ble_eq_true rfl) ⟨(Nat.le_of_ble_eq_true rfl), (Nat.le_of_ble_eq_true rfl)⟩ ?_
    exact g_iretL d_Law_tryTrick_5 rfl (by decide) (by decide)
  | inl x =>
    by_cases c0 : x = 3
    · subst c0
      obtain rfl := Option.some.inj h
      refine g_callC (As := [.int a1]) (rest := []) [] ⟨0, 5, 6, 13⟩ [] rfl (fun hl0 => ctx_DS_trick hl0 hX M a1 3 hq) d_Law_tryTrick_2 ca_DS_trick w_672 (gXw_h0 hX) rfl rfl rfl (Nat.le_of_ble_eq_true rfl) ⟨(Nat.le_of_ble_eq_true rfl), (Nat.le_of_ble_eq_true rfl)⟩ (Nat.le_refl _) (Nat.le_refl _) rfl (fun z hz => nomatch hz) (by decide) rfl (by decide) w_615 wc_3 (fun q => ?_)
      refine gGo_sub [] rfl ?_
      refine g_astore_n (L' := [(2, .ref q)]) d_Law_tryTrick_6 rfl (by decide) rfl ?_
      refine g_ldc d_Law_tryTrick_7 w_645 ?_
      exact g_iretL d_Law_tryTrick_9 rfl (Nat.le_refl _) (Nat.le_refl _)
    exfalso
    revert h
    split
    · rename_i e9
      exact fun _ => c0 (Sum.inl.inj e9)
    · exact fun h => nomatch h
    · rename_i e9
      exact nomatch e9
theorem ctl_Law_tryTrick {l : Launch} {ε : gEnv} (hl0 : l.stackTraces = false) (hX : gXw ε) (M : gMem) (a1 : Int32) (r : Int32 × gMem) (h : f_Law_tryTrick M a1 = some r) : gCtL l ε k_Law_tryTrick [(0, 5, 6, 13)] 10 162 [.ref (ε.2.2.1 18 0), .int a1] M (some (.int r.1)) r.2 :=
  gCtL_of hl0 (by decide) (Nat.le_of_ble_eq_true rfl) rfl (t_Law_tryTrick hX M a1 r h)
theorem ctlq_Law_tryTrick {l : Launch} {ε : gEnv} (hl0 : l.stackTraces = false) (hY : gXw (swE ε)) (M : gMem) (a1 : Int32) (q : Int32 × gMem) (h : onQ (fun M => f_Law_tryTrick M a1) M = some q) : gCtL l ε k_Law_tryTrick [(0, 5, 6, 13)] 10 162 [.ref (ε.2.2.1 38 0), .int a1] M (some (.int q.1)) q.2 :=
  gCtL_sw (ctl_Law_tryTrick hl0 hY (swM M) a1 (q.1, swM q.2) (onQ_s h))
abbrev k_Law_tryBid : gMD := (⟨"DropSignalsLaw", "tryBid", "(LDropSignals;II)I"⟩, method_11_code, 4, some .int)
theorem w_682 : Cond.static ⟨"DropSignalsLaw", "tryBid", "(LDropSignals;II)I"⟩ ∈ gWs := gWs_in (i := 682) (by decide +kernel) rfl
set_option maxRecDepth 100000 in
theorem cw_Law_tryBid : Cond.codeWith k_Law_tryBid.1 k_Law_tryBid.2.1 k_Law_tryBid.2.2.1 k_Law_tryBid.2.2.2 [(0, 6, 7, 16), (0, 6, 11, 19)] ∈ gWs := gWs_in (i := 683) rfl rfl
theorem d_Law_tryBid_0 : decode method_11_code 0 = .ok (.aload_n 0, 1) := by decide +kernel
theorem d_Law_tryBid_1 : decode method_11_code 1 = .ok (.iload_n 1, 1) := by decide +kernel
theorem d_Law_tryBid_2 : decode method_11_code 2 = .ok (.iload_n 2, 1) := by decide +kernel
theorem d_Law_tryBid_3 : decode method_11_code 3 = .ok (.invokevirtual 52, 3) := by decide +kernel
theorem d_Law_tryBid_6 : decode method_11_code 6 = .ok (.ireturn, 1) := by decide +kernel
theorem w_684 : Cond.methodLink "DropSignalsLaw" 52 ⟨"DropSignals", "bid", "(II)I"⟩ ∈ gWs := gWs_in (i := 684) (by decide +kernel) rfl
theorem d_Law_tryBid_7 : decode method_11_code 7 = .ok (.astore_n 3, 1) := by decide +kernel
theorem d_Law_tryBid_8 : decode method_11_code 8 = .ok (.ldc 18, 2) := by decide +kernel
theorem d_Law_tryBid_10 : decode method_11_code 10 = .ok (.ireturn, 1) := by decide +kernel
theorem d_Law_tryBid_11 : decode method_11_code 11 = .ok (.astore_n 3, 1) := by decide +kernel
theorem d_Law_tryBid_12 : decode method_11_code 12 = .ok (.ldc 21, 2) := by decide +kernel
theorem d_Law_tryBid_14 : decode method_11_code 14 = .ok (.ireturn, 1) := by decide +kernel
noncomputable def f_Law_tryBid (M : gMem) (a1 : Int32) (a2 : Int32) : Option (Int32 × gMem) :=
  (f_DS_bid M a1 a2).bind fun q => match q with
    | .inl 1 => some ((-9999002), M)
    | .inl 2 => some ((-9999003), M)
    | .inl _ => none
    | .inr q => some (q.1, q.2)
theorem t_Law_tryBid {l : Launch} {ε : gEnv} (hX : gXw ε) (M : gMem) (a1 : Int32) (a2 : Int32) (r : Int32 × gMem) (h : f_Law_tryBid M a1 a2 = some r) : gGo l ε k_Law_tryBid (gRX 9 158) (gFw ε [(0, 6, 7, 16), (0, 6, 11, 19)] 0 0 (some (.int r.1)) r.2) 0 [(0, .ref (ε.2.2.1 18 0)), (1, .int a1), (2, .int a2)] [] M := by
  unfold f_Law_tryBid at h
  refine g_aload_n d_Law_tryBid_0 rfl 0 rfl ?_
  refine g_iload_n d_Law_tryBid_1 rfl 1 rfl ?_
  refine g_iload_n d_Law_tryBid_2 rfl 2 rfl ?_
  obtain ⟨q, hq, h⟩ := gOb h
  cases q with
  | inr q =>
    obtain rfl := Option.some.inj h
    refine g_callV_i (As := [.int a1, .int a2]) (rest := []) (ctn_DS_bid hX M a1 a2 q hq) d_Law_tryBid_3 ca_DS_bid w_684 (gXw_h0 hX) rfl rfl rfl (Nat.le_of_ble_eq_true rfl) ⟨(Nat.le_of_ble_eq_true rfl), (Nat.le_of_ble_eq_true rfl)⟩ ?_
    exact g_iretL d_Law_tryBid_6 rfl (by decide) (by decide)
  | inl x =>
    by_cases c0 : x = 1
    · subst c0
      obtain rfl := Option.some.inj h
      refine g_callC (As := [.int a1, .int a2]) (rest := []) [] ⟨0, 6, 7, 16⟩ [⟨0, 6, 11, 19⟩] rfl (fun hl0 => ctx_DS_bid hl0 hX M a1 a2 1 hq) d_Law_tryBid_3 ca_DS_bid w_684 (gXw_h0 hX) rfl rfl rfl (Nat.le_of_ble_eq_true rfl) ⟨(Nat.le_of_ble_eq_true rfl), (Nat.le_of_ble_eq_true rfl)⟩ (Nat.le_refl _) (Nat.le_refl _) rfl (fun z hz => nomatch hz) (by decide) rfl (by decide) w_287 wc_1 (fun q => ?_)
      refine gGo_sub [] rfl ?_
      refine g_astore_n (L' := [(3, .ref q)]) d_Law_tryBid_7 rfl (by decide) rfl ?_
      refine g_ldc d_Law_tryBid_8 w_388 ?_
      exact g_iretL d_Law_tryBid_10 rfl (Nat.le_refl _) (Nat.le_refl _)
    by_cases c1 : x = 2
    · subst c1
      obtain rfl := Option.some.inj h
      refine g_callC (As := [.int a1, .int a2]) (rest := []) [⟨0, 6, 7, 16⟩] ⟨0, 6, 11, 19⟩ [] rfl (fun hl0 => ctx_DS_bid hl0 hX M a1 a2 2 hq) d_Law_tryBid_3 ca_DS_bid w_684 (gXw_h0 hX) rfl rfl rfl (Nat.le_of_ble_eq_true rfl) ⟨(Nat.le_of_ble_eq_true rfl), (Nat.le_of_ble_eq_true rfl)⟩ (Nat.le_refl _) (Nat.le_refl _) rfl (List.forall_mem_cons.mpr ⟨⟨by decide, "java/lang/IllegalArgumentException", w_287, by decide, by decide⟩, fun _ h => nomatch h⟩) (by decide) rfl (by decide) w_288 wc_2 (fun q => ?_)
      refine gGo_sub [] rfl ?_
      refine g_astore_n (L' := [(3, .ref q)]) d_Law_tryBid_11 rfl (by decide) rfl ?_
      refine g_ldc d_Law_tryBid_12 w_389 ?_
      exact g_iretL d_Law_tryBid_14 rfl (Nat.le_refl _) (Nat.le_refl _)
    exfalso
    revert h
    split
    · rename_i e9
      exact fun _ => c0 (Sum.inl.inj e9)
    · rename_i e9
      exact fun _ => c1 (Sum.inl.inj e9)
    · exact fun h => nomatch h
    · rename_i e9
      exact nomatch e9
theorem ctl_Law_tryBid {l : Launch} {ε : gEnv} (hl0 : l.stackTraces = false) (hX : gXw ε) (M : gMem) (a1 : Int32) (a2 : Int32) (r : Int32 × gMem) (h : f_Law_tryBid M a1 a2 = some r) : gCtL l ε k_Law_tryBid [(0, 6, 7, 16), (0, 6, 11, 19)] 9 158 [.ref (ε.2.2.1 18 0), .int a1, .int a2] M (some (.int r.1)) r.2 :=
  gCtL_of hl0 (by decide) (Nat.le_of_ble_eq_true rfl) rfl (t_Law_tryBid hX M a1 a2 r h)
theorem ctlq_Law_tryBid {l : Launch} {ε : gEnv} (hl0 : l.stackTraces = false) (hY : gXw (swE ε)) (M : gMem) (a1 : Int32) (a2 : Int32) (q : Int32 × gMem) (h : onQ (fun M => f_Law_tryBid M a1 a2) M = some q) : gCtL l ε k_Law_tryBid [(0, 6, 7, 16), (0, 6, 11, 19)] 9 158 [.ref (ε.2.2.1 38 0), .int a1, .int a2] M (some (.int q.1)) q.2 :=
  gCtL_sw (ctl_Law_tryBid hl0 hY (swM M) a1 a2 (q.1, swM q.2) (onQ_s h))
abbrev k_Law_tryPass : gMD := (⟨"DropSignalsLaw", "tryPass", "(LDropSignals;)I"⟩, method_12_code, 2, some .int)
theorem w_726 : Cond.static ⟨"DropSignalsLaw", "tryPass", "(LDropSignals;)I"⟩ ∈ gWs := gWs_in (i := 726) (by decide +kernel) rfl
set_option maxRecDepth 100000 in
theorem cw_Law_tryPass : Cond.codeWith k_Law_tryPass.1 k_Law_tryPass.2.1 k_Law_tryPass.2.2.1 k_Law_tryPass.2.2.2 [(0, 4, 5, 19)] ∈ gWs := gWs_in (i := 727) rfl rfl
theorem d_Law_tryPass_0 : decode method_12_code 0 = .ok (.aload_n 0, 1) := by decide +kernel
theorem d_Law_tryPass_1 : decode method_12_code 1 = .ok (.invokevirtual 55, 3) := by decide +kernel
theorem d_Law_tryPass_4 : decode method_12_code 4 = .ok (.ireturn, 1) := by decide +kernel
theorem w_728 : Cond.methodLink "DropSignalsLaw" 55 ⟨"DropSignals", "pass", "()I"⟩ ∈ gWs := gWs_in (i := 728) (by decide +kernel) rfl
theorem d_Law_tryPass_5 : decode method_12_code 5 = .ok (.astore_n 1, 1) := by decide +kernel
theorem d_Law_tryPass_6 : decode method_12_code 6 = .ok (.ldc 21, 2) := by decide +kernel
theorem d_Law_tryPass_8 : decode method_12_code 8 = .ok (.ireturn, 1) := by decide +kernel
noncomputable def f_Law_tryPass (M : gMem) : Option (Int32 × gMem) :=
  (f_DS_pass M).bind fun q => match q with
    | .inl 2 => some ((-9999003), M)
    | .inl _ => none
    | .inr q => some (q.1, q.2)
theorem t_Law_tryPass {l : Launch} {ε : gEnv} (hX : gXw ε) (M : gMem) (r : Int32 × gMem) (h : f_Law_tryPass M = some r) : gGo l ε k_Law_tryPass (gRX 9 156) (gFw ε [(0, 4, 5, 19)] 0 0 (some (.int r.1)) r.2) 0 [(0, .ref (ε.2.2.1 18 0))] [] M := by
  unfold f_Law_tryPass at h
  refine g_aload_n d_Law_tryPass_0 rfl 0 rfl ?_
  obtain ⟨q, hq, h⟩ := gOb h
  cases q with
  | inr q =>
    obtain rfl := Option.some.inj h
    refine g_callV_i (As := []) (rest := []) (ctn_DS_pass hX M q hq) d_Law_tryPass_1 ca_DS_pass w_728 (gXw_h0 hX) rfl rfl rfl (Nat.le_of_ble_eq_true rfl) ⟨(Nat.le_of_ble_eq_true rfl), (Nat.le_of_ble_eq_true rfl)⟩ ?_
    exact g_iretL d_Law_tryPass_4 rfl (by decide) (by decide)
  | inl x =>
    by_cases c0 : x = 2
    · subst c0
      obtain rfl := Option.some.inj h
      refine g_callC (As := []) (rest := []) [] ⟨0, 4, 5, 19⟩ [] rfl (fun hl0 => ctx_DS_pass hl0 hX M 2 hq) d_Law_tryPass_1 ca_DS_pass w_728 (gXw_h0 hX) rfl rfl rfl (Nat.le_of_ble_eq_true rfl) ⟨(Nat.le_of_ble_eq_true rfl), (Nat.le_of_ble_eq_true rfl)⟩ (Nat.le_refl _) (Nat.le_refl _) rfl (fun z hz => nomatch hz) (by decide) rfl (by decide) w_288 wc_2 (fun q => ?_)
      refine gGo_sub [] rfl ?_
      refine g_astore_n (L' := [(1, .ref q)]) d_Law_tryPass_5 rfl (by decide) rfl ?_
      refine g_ldc d_Law_tryPass_6 w_389 ?_
      exact g_iretL d_Law_tryPass_8 rfl (Nat.le_refl _) (Nat.le_refl _)
    exfalso
    revert h
    split
    · rename_i e9
      exact fun _ => c0 (Sum.inl.inj e9)
    · exact fun h => nomatch h
    · rename_i e9
      exact nomatch e9
theorem ctl_Law_tryPass {l : Launch} {ε : gEnv} (hl0 : l.stackTraces = false) (hX : gXw ε) (M : gMem) (r : Int32 × gMem) (h : f_Law_tryPass M = some r) : gCtL l ε k_Law_tryPass [(0, 4, 5, 19)] 9 156 [.ref (ε.2.2.1 18 0)] M (some (.int r.1)) r.2 :=
  gCtL_of hl0 (by decide) (Nat.le_of_ble_eq_true rfl) rfl (t_Law_tryPass hX M r h)
theorem ctlq_Law_tryPass {l : Launch} {ε : gEnv} (hl0 : l.stackTraces = false) (hY : gXw (swE ε)) (M : gMem) (q : Int32 × gMem) (h : onQ (fun M => f_Law_tryPass M) M = some q) : gCtL l ε k_Law_tryPass [(0, 4, 5, 19)] 9 156 [.ref (ε.2.2.1 38 0)] M (some (.int q.1)) q.2 :=
  gCtL_sw (ctl_Law_tryPass hl0 hY (swM M) (q.1, swM q.2) (onQ_s h))
abbrev k_Law_tryPlay : gMD := (⟨"DropSignalsLaw", "tryPlay", "(LDropSignals;I)I"⟩, method_13_code, 3, some .int)
theorem w_735 : Cond.static ⟨"DropSignalsLaw", "tryPlay", "(LDropSignals;I)I"⟩ ∈ gWs := gWs_in (i := 735) (by decide +kernel) rfl
set_option maxRecDepth 100000 in
theorem cw_Law_tryPlay : Cond.codeWith k_Law_tryPlay.1 k_Law_tryPlay.2.1 k_Law_tryPlay.2.2.1 k_Law_tryPlay.2.2.2 [(0, 5, 6, 13), (0, 5, 10, 19)] ∈ gWs := gWs_in (i := 736) rfl rfl
theorem d_Law_tryPlay_0 : decode method_13_code 0 = .ok (.aload_n 0, 1) := by decide +kernel
theorem d_Law_tryPlay_1 : decode method_13_code 1 = .ok (.iload_n 1, 1) := by decide +kernel
theorem d_Law_tryPlay_2 : decode method_13_code 2 = .ok (.invokevirtual 58, 3) := by decide +kernel
theorem d_Law_tryPlay_5 : decode method_13_code 5 = .ok (.ireturn, 1) := by decide +kernel
theorem w_737 : Cond.methodLink "DropSignalsLaw" 58 ⟨"DropSignals", "play", "(I)I"⟩ ∈ gWs := gWs_in (i := 737) (by decide +kernel) rfl
theorem d_Law_tryPlay_6 : decode method_13_code 6 = .ok (.astore_n 2, 1) := by decide +kernel
theorem d_Law_tryPlay_7 : decode method_13_code 7 = .ok (.ldc 15, 2) := by decide +kernel
theorem d_Law_tryPlay_9 : decode method_13_code 9 = .ok (.ireturn, 1) := by decide +kernel
theorem d_Law_tryPlay_10 : decode method_13_code 10 = .ok (.astore_n 2, 1) := by decide +kernel
theorem d_Law_tryPlay_11 : decode method_13_code 11 = .ok (.ldc 21, 2) := by decide +kernel
theorem d_Law_tryPlay_13 : decode method_13_code 13 = .ok (.ireturn, 1) := by decide +kernel
noncomputable def f_Law_tryPlay (M : gMem) (a1 : Int32) : Option (Int32 × gMem) :=
  (f_DS_play M a1).bind fun q => match q with
    | .inl 3 => some ((-9999001), M)
    | .inl 2 => some ((-9999003), M)
    | .inl _ => none
    | .inr q => some (q.1, q.2)
theorem t_Law_tryPlay {l : Launch} {ε : gEnv} (hX : gXw ε) (M : gMem) (a1 : Int32) (r : Int32 × gMem) (h : f_Law_tryPlay M a1 = some r) : gGo l ε k_Law_tryPlay (gRX 10 163) (gFw ε [(0, 5, 6, 13), (0, 5, 10, 19)] 0 0 (some (.int r.1)) r.2) 0 [(0, .ref (ε.2.2.1 18 0)), (1, .int a1)] [] M := by
  unfold f_Law_tryPlay at h
  refine g_aload_n d_Law_tryPlay_0 rfl 0 rfl ?_
  refine g_iload_n d_Law_tryPlay_1 rfl 1 rfl ?_
  obtain ⟨q, hq, h⟩ := gOb h
  cases q with
  | inr q =>
    obtain rfl := Option.some.inj h
    refine g_callV_i (As := [.int a1]) (rest := []) (ctn_DS_play hX M a1 q hq) d_Law_tryPlay_2 ca_DS_play w_737 (gXw_h0 hX) rfl rfl rfl (Nat.le_of_ble_eq_true rfl) ⟨(Nat.le_of_ble_eq_true rfl), (Nat.le_of_ble_eq_true rfl)⟩ ?_
    exact g_iretL d_Law_tryPlay_5 rfl (by decide) (by decide)
  | inl x =>
    by_cases c0 : x = 3
    · subst c0
      obtain rfl := Option.some.inj h
      refine g_callC (As := [.int a1]) (rest := []) [] ⟨0, 5, 6, 13⟩ [⟨0, 5, 10, 19⟩] rfl (fun hl0 => ctx_DS_play hl0 hX M a1 3 hq) d_Law_tryPlay_2 ca_DS_play w_737 (gXw_h0 hX) rfl rfl rfl (Nat.le_of_ble_eq_true rfl) ⟨(Nat.le_of_ble_eq_true rfl), (Nat.le_of_ble_eq_true rfl)⟩ (Nat.le_refl _) (Nat.le_refl _) rfl (fun z hz => nomatch hz) (by decide) rfl (by decide) w_615 wc_3 (fun q => ?_)
      refine gGo_sub [] rfl ?_
      refine g_astore_n (L' := [(2, .ref q)]) d_Law_tryPlay_6 rfl (by decide) rfl ?_
      refine g_ldc d_Law_tryPlay_7 w_645 ?_
      exact g_iretL d_Law_tryPlay_9 rfl (Nat.le_refl _) (Nat.le_refl _)
    by_cases c1 : x = 2
    · subst c1
      obtain rfl := Option.some.inj h
      refine g_callC (As := [.int a1]) (rest := []) [⟨0, 5, 6, 13⟩] ⟨0, 5, 10, 19⟩ [] rfl (fun hl0 => ctx_DS_play hl0 hX M a1 2 hq) d_Law_tryPlay_2 ca_DS_play w_737 (gXw_h0 hX) rfl rfl rfl (Nat.le_of_ble_eq_true rfl) ⟨(Nat.le_of_ble_eq_true rfl), (Nat.le_of_ble_eq_true rfl)⟩ (Nat.le_refl _) (Nat.le_refl _) rfl (List.forall_mem_cons.mpr ⟨⟨by decide, "java/lang/IndexOutOfBoundsException", w_615, by decide, by decide⟩, fun _ h => nomatch h⟩) (by decide) rfl (by decide) w_288 wc_2 (fun q => ?_)
      refine gGo_sub [] rfl ?_
      refine g_astore_n (L' := [(2, .ref q)]) d_Law_tryPlay_10 rfl (by decide) rfl ?_
      refine g_ldc d_Law_tryPlay_11 w_389 ?_
      exact g_iretL d_Law_tryPlay_13 rfl (Nat.le_refl _) (Nat.le_refl _)
    exfalso
    revert h
    split
    · rename_i e9
      exact fun _ => c0 (Sum.inl.inj e9)
    · rename_i e9
      exact fun _ => c1 (Sum.inl.inj e9)
    · exact fun h => nomatch h
    · rename_i e9
      exact nomatch e9
theorem ctl_Law_tryPlay {l : Launch} {ε : gEnv} (hl0 : l.stackTraces = false) (hX : gXw ε) (M : gMem) (a1 : Int32) (r : Int32 × gMem) (h : f_Law_tryPlay M a1 = some r) : gCtL l ε k_Law_tryPlay [(0, 5, 6, 13), (0, 5, 10, 19)] 10 163 [.ref (ε.2.2.1 18 0), .int a1] M (some (.int r.1)) r.2 :=
  gCtL_of hl0 (by decide) (Nat.le_of_ble_eq_true rfl) rfl (t_Law_tryPlay hX M a1 r h)
theorem ctlq_Law_tryPlay {l : Launch} {ε : gEnv} (hl0 : l.stackTraces = false) (hY : gXw (swE ε)) (M : gMem) (a1 : Int32) (q : Int32 × gMem) (h : onQ (fun M => f_Law_tryPlay M a1) M = some q) : gCtL l ε k_Law_tryPlay [(0, 5, 6, 13), (0, 5, 10, 19)] 10 163 [.ref (ε.2.2.1 38 0), .int a1] M (some (.int q.1)) q.2 :=
  gCtL_sw (ctl_Law_tryPlay hl0 hY (swM M) a1 (q.1, swM q.2) (onQ_s h))
abbrev k_Law_tryUndo : gMD := (⟨"DropSignalsLaw", "tryUndo", "(LDropSignals;)I"⟩, method_14_code, 2, some .int)
theorem w_749 : Cond.static ⟨"DropSignalsLaw", "tryUndo", "(LDropSignals;)I"⟩ ∈ gWs := gWs_in (i := 749) (by decide +kernel) rfl
set_option maxRecDepth 100000 in
theorem cw_Law_tryUndo : Cond.codeWith k_Law_tryUndo.1 k_Law_tryUndo.2.1 k_Law_tryUndo.2.2.1 k_Law_tryUndo.2.2.2 [(0, 4, 5, 19)] ∈ gWs := gWs_in (i := 750) rfl rfl
theorem d_Law_tryUndo_0 : decode method_14_code 0 = .ok (.aload_n 0, 1) := by decide +kernel
theorem d_Law_tryUndo_1 : decode method_14_code 1 = .ok (.invokevirtual 61, 3) := by decide +kernel
theorem d_Law_tryUndo_4 : decode method_14_code 4 = .ok (.ireturn, 1) := by decide +kernel
theorem w_751 : Cond.methodLink "DropSignalsLaw" 61 ⟨"DropSignals", "undo", "()I"⟩ ∈ gWs := gWs_in (i := 751) (by decide +kernel) rfl
theorem d_Law_tryUndo_5 : decode method_14_code 5 = .ok (.astore_n 1, 1) := by decide +kernel
theorem d_Law_tryUndo_6 : decode method_14_code 6 = .ok (.ldc 21, 2) := by decide +kernel
theorem d_Law_tryUndo_8 : decode method_14_code 8 = .ok (.ireturn, 1) := by decide +kernel
noncomputable def f_Law_tryUndo (M : gMem) : Option (Int32 × gMem) :=
  (f_DS_undo M).bind fun q => match q with
    | .inl 2 => some ((-9999003), M)
    | .inl _ => none
    | .inr q => some (q.1, q.2)
theorem t_Law_tryUndo {l : Launch} {ε : gEnv} (hX : gXw ε) (M : gMem) (r : Int32 × gMem) (h : f_Law_tryUndo M = some r) : gGo l ε k_Law_tryUndo (gRX 9 140) (gFw ε [(0, 4, 5, 19)] 0 0 (some (.int r.1)) r.2) 0 [(0, .ref (ε.2.2.1 18 0))] [] M := by
  unfold f_Law_tryUndo at h
  refine g_aload_n d_Law_tryUndo_0 rfl 0 rfl ?_
  obtain ⟨q, hq, h⟩ := gOb h
  cases q with
  | inr q =>
    obtain rfl := Option.some.inj h
    refine g_callV_i (As := []) (rest := []) (ctn_DS_undo hX M q hq) d_Law_tryUndo_1 ca_DS_undo w_751 (gXw_h0 hX) rfl rfl rfl (Nat.le_of_ble_eq_true rfl) ⟨(Nat.le_of_ble_eq_true rfl), (Nat.le_of_ble_eq_true rfl)⟩ ?_
    exact g_iretL d_Law_tryUndo_4 rfl (by decide) (by decide)
  | inl x =>
    by_cases c0 : x = 2
    · subst c0
      obtain rfl := Option.some.inj h
      refine g_callC (As := []) (rest := []) [] ⟨0, 4, 5, 19⟩ [] rfl (fun hl0 => ctx_DS_undo hl0 hX M 2 hq) d_Law_tryUndo_1 ca_DS_undo w_751 (gXw_h0 hX) rfl rfl rfl (Nat.le_of_ble_eq_true rfl) ⟨(Nat.le_of_ble_eq_true rfl), (Nat.le_of_ble_eq_true rfl)⟩ (Nat.le_refl _) (Nat.le_refl _) rfl (fun z hz => nomatch hz) (by decide) rfl (by decide) w_288 wc_2 (fun q => ?_)
      refine gGo_sub [] rfl ?_
      refine g_astore_n (L' := [(1, .ref q)]) d_Law_tryUndo_5 rfl (by decide) rfl ?_
      refine g_ldc d_Law_tryUndo_6 w_389 ?_
      exact g_iretL d_Law_tryUndo_8 rfl (Nat.le_refl _) (Nat.le_refl _)
    exfalso
    revert h
    split
    · rename_i e9
      exact fun _ => c0 (Sum.inl.inj e9)
    · exact fun h => nomatch h
    · rename_i e9
      exact nomatch e9
theorem ctl_Law_tryUndo {l : Launch} {ε : gEnv} (hl0 : l.stackTraces = false) (hX : gXw ε) (M : gMem) (r : Int32 × gMem) (h : f_Law_tryUndo M = some r) : gCtL l ε k_Law_tryUndo [(0, 4, 5, 19)] 9 140 [.ref (ε.2.2.1 18 0)] M (some (.int r.1)) r.2 :=
  gCtL_of hl0 (by decide) (Nat.le_of_ble_eq_true rfl) rfl (t_Law_tryUndo hX M r h)
theorem ctlq_Law_tryUndo {l : Launch} {ε : gEnv} (hl0 : l.stackTraces = false) (hY : gXw (swE ε)) (M : gMem) (q : Int32 × gMem) (h : onQ (fun M => f_Law_tryUndo M) M = some q) : gCtL l ε k_Law_tryUndo [(0, 4, 5, 19)] 9 140 [.ref (ε.2.2.1 38 0)] M (some (.int q.1)) q.2 :=
  gCtL_sw (ctl_Law_tryUndo hl0 hY (swM M) (q.1, swM q.2) (onQ_s h))
abbrev k_Law_tryLegal : gMD := (⟨"DropSignalsLaw", "tryLegal", "(LDropSignals;I)I"⟩, method_15_code, 3, some .int)
theorem w_765 : Cond.static ⟨"DropSignalsLaw", "tryLegal", "(LDropSignals;I)I"⟩ ∈ gWs := gWs_in (i := 765) (by decide +kernel) rfl
set_option maxRecDepth 100000 in
theorem cw_Law_tryLegal : Cond.codeWith k_Law_tryLegal.1 k_Law_tryLegal.2.1 k_Law_tryLegal.2.2.1 k_Law_tryLegal.2.2.2 [(0, 5, 6, 13)] ∈ gWs := gWs_in (i := 766) rfl rfl
theorem d_Law_tryLegal_0 : decode method_15_code 0 = .ok (.aload_n 0, 1) := by decide +kernel
theorem d_Law_tryLegal_1 : decode method_15_code 1 = .ok (.iload_n 1, 1) := by decide +kernel
theorem d_Law_tryLegal_2 : decode method_15_code 2 = .ok (.invokevirtual 64, 3) := by decide +kernel
theorem d_Law_tryLegal_5 : decode method_15_code 5 = .ok (.ireturn, 1) := by decide +kernel
theorem w_767 : Cond.methodLink "DropSignalsLaw" 64 ⟨"DropSignals", "legal", "(I)I"⟩ ∈ gWs := gWs_in (i := 767) (by decide +kernel) rfl
theorem d_Law_tryLegal_6 : decode method_15_code 6 = .ok (.astore_n 2, 1) := by decide +kernel
theorem d_Law_tryLegal_7 : decode method_15_code 7 = .ok (.ldc 15, 2) := by decide +kernel
theorem d_Law_tryLegal_9 : decode method_15_code 9 = .ok (.ireturn, 1) := by decide +kernel
noncomputable def f_Law_tryLegal (M : gMem) (a1 : Int32) : Option (Int32 × gMem) :=
  (f_DS_legal M a1).bind fun q => match q with
    | .inl 3 => some ((-9999001), M)
    | .inl _ => none
    | .inr q => some (q, M)
theorem t_Law_tryLegal {l : Launch} {ε : gEnv} (hX : gXw ε) (M : gMem) (a1 : Int32) (r : Int32 × gMem) (h : f_Law_tryLegal M a1 = some r) : gGo l ε k_Law_tryLegal (gRX 10 162) (gFw ε [(0, 5, 6, 13)] 0 0 (some (.int r.1)) r.2) 0 [(0, .ref (ε.2.2.1 18 0)), (1, .int a1)] [] M := by
  unfold f_Law_tryLegal at h
  refine g_aload_n d_Law_tryLegal_0 rfl 0 rfl ?_
  refine g_iload_n d_Law_tryLegal_1 rfl 1 rfl ?_
  obtain ⟨q, hq, h⟩ := gOb h
  cases q with
  | inr q =>
    obtain rfl := Option.some.inj h
    refine g_callV_i (As := [.int a1]) (rest := []) (ctn_DS_legal hX M a1 q hq) d_Law_tryLegal_2 ca_DS_legal w_767 (gXw_h0 hX) rfl rfl rfl (Nat.le_of_ble_eq_true rfl) ⟨(Nat.le_of_ble_eq_true rfl), (Nat.le_of_ble_eq_true rfl)⟩ ?_
    exact g_iretL d_Law_tryLegal_5 rfl (by decide) (by decide)
  | inl x =>
    by_cases c0 : x = 3
    · subst c0
      obtain rfl := Option.some.inj h
      refine g_callC (As := [.int a1]) (rest := []) [] ⟨0, 5, 6, 13⟩ [] rfl (fun hl0 => ctx_DS_legal hl0 hX M a1 3 hq) d_Law_tryLegal_2 ca_DS_legal w_767 (gXw_h0 hX) rfl rfl rfl (Nat.le_of_ble_eq_true rfl) ⟨(Nat.le_of_ble_eq_true rfl), (Nat.le_of_ble_eq_true rfl)⟩ (Nat.le_refl _) (Nat.le_refl _) rfl (fun z hz => nomatch hz) (by decide) rfl (by decide) w_615 wc_3 (fun q => ?_)
      refine gGo_sub [] rfl ?_
      refine g_astore_n (L' := [(2, .ref q)]) d_Law_tryLegal_6 rfl (by decide) rfl ?_
      refine g_ldc d_Law_tryLegal_7 w_645 ?_
      exact g_iretL d_Law_tryLegal_9 rfl (Nat.le_refl _) (Nat.le_refl _)
    exfalso
    revert h
    split
    · rename_i e9
      exact fun _ => c0 (Sum.inl.inj e9)
    · exact fun h => nomatch h
    · rename_i e9
      exact nomatch e9
theorem ctl_Law_tryLegal {l : Launch} {ε : gEnv} (hl0 : l.stackTraces = false) (hX : gXw ε) (M : gMem) (a1 : Int32) (r : Int32 × gMem) (h : f_Law_tryLegal M a1 = some r) : gCtL l ε k_Law_tryLegal [(0, 5, 6, 13)] 10 162 [.ref (ε.2.2.1 18 0), .int a1] M (some (.int r.1)) r.2 :=
  gCtL_of hl0 (by decide) (Nat.le_of_ble_eq_true rfl) rfl (t_Law_tryLegal hX M a1 r h)
theorem ctlq_Law_tryLegal {l : Launch} {ε : gEnv} (hl0 : l.stackTraces = false) (hY : gXw (swE ε)) (M : gMem) (a1 : Int32) (q : Int32 × gMem) (h : onQ (fun M => f_Law_tryLegal M a1) M = some q) : gCtL l ε k_Law_tryLegal [(0, 5, 6, 13)] 10 162 [.ref (ε.2.2.1 38 0), .int a1] M (some (.int q.1)) q.2 :=
  gCtL_sw (ctl_Law_tryLegal hl0 hY (swM M) a1 (q.1, swM q.2) (onQ_s h))
abbrev k_Law_tryMost : gMD := (⟨"DropSignalsLaw", "tryMost", "(LDropSignals;I)I"⟩, method_16_code, 3, some .int)
theorem w_776 : Cond.static ⟨"DropSignalsLaw", "tryMost", "(LDropSignals;I)I"⟩ ∈ gWs := gWs_in (i := 776) (by decide +kernel) rfl
set_option maxRecDepth 100000 in
theorem cw_Law_tryMost : Cond.codeWith k_Law_tryMost.1 k_Law_tryMost.2.1 k_Law_tryMost.2.2.1 k_Law_tryMost.2.2.2 [(0, 5, 6, 16), (0, 5, 10, 19)] ∈ gWs := gWs_in (i := 777) rfl rfl
theorem d_Law_tryMost_0 : decode method_16_code 0 = .ok (.aload_n 0, 1) := by decide +kernel
theorem d_Law_tryMost_1 : decode method_16_code 1 = .ok (.iload_n 1, 1) := by decide +kernel
theorem d_Law_tryMost_2 : decode method_16_code 2 = .ok (.invokevirtual 67, 3) := by decide +kernel
theorem d_Law_tryMost_5 : decode method_16_code 5 = .ok (.ireturn, 1) := by decide +kernel
theorem w_778 : Cond.methodLink "DropSignalsLaw" 67 ⟨"DropSignals", "most", "(I)I"⟩ ∈ gWs := gWs_in (i := 778) (by decide +kernel) rfl
theorem d_Law_tryMost_6 : decode method_16_code 6 = .ok (.astore_n 2, 1) := by decide +kernel
theorem d_Law_tryMost_7 : decode method_16_code 7 = .ok (.ldc 18, 2) := by decide +kernel
theorem d_Law_tryMost_9 : decode method_16_code 9 = .ok (.ireturn, 1) := by decide +kernel
theorem d_Law_tryMost_10 : decode method_16_code 10 = .ok (.astore_n 2, 1) := by decide +kernel
theorem d_Law_tryMost_11 : decode method_16_code 11 = .ok (.ldc 21, 2) := by decide +kernel
theorem d_Law_tryMost_13 : decode method_16_code 13 = .ok (.ireturn, 1) := by decide +kernel
noncomputable def f_Law_tryMost (M : gMem) (a1 : Int32) : Option (Int32 × gMem) :=
  (f_DS_most M a1).bind fun q => match q with
    | .inl 1 => some ((-9999002), M)
    | .inl 2 => some ((-9999003), M)
    | .inl _ => none
    | .inr q => some (q.1, q.2)
theorem t_Law_tryMost {l : Launch} {ε : gEnv} (hX : gXw ε) (M : gMem) (a1 : Int32) (r : Int32 × gMem) (h : f_Law_tryMost M a1 = some r) : gGo l ε k_Law_tryMost (gRX 153 6074) (gFw ε [(0, 5, 6, 16), (0, 5, 10, 19)] 0 0 (some (.int r.1)) r.2) 0 [(0, .ref (ε.2.2.1 18 0)), (1, .int a1)] [] M := by
  unfold f_Law_tryMost at h
  refine g_aload_n d_Law_tryMost_0 rfl 0 rfl ?_
  refine g_iload_n d_Law_tryMost_1 rfl 1 rfl ?_
  obtain ⟨q, hq, h⟩ := gOb h
  cases q with
  | inr q =>
    obtain rfl := Option.some.inj h
    refine g_callV_i (As := [.int a1]) (rest := []) (ctn_DS_most hX M a1 q hq) d_Law_tryMost_2 ca_DS_most w_778 (gXw_h0 hX) rfl rfl rfl (Nat.le_of_ble_eq_true rfl) ⟨(Nat.le_of_ble_eq_true rfl), (Nat.le_of_ble_eq_true rfl)⟩ ?_
    exact g_iretL d_Law_tryMost_5 rfl (by decide) (by decide)
  | inl x =>
    by_cases c0 : x = 1
    · subst c0
      obtain rfl := Option.some.inj h
      refine g_callC (As := [.int a1]) (rest := []) [] ⟨0, 5, 6, 16⟩ [⟨0, 5, 10, 19⟩] rfl (fun hl0 => ctx_DS_most hl0 hX M a1 1 hq) d_Law_tryMost_2 ca_DS_most w_778 (gXw_h0 hX) rfl rfl rfl (Nat.le_of_ble_eq_true rfl) ⟨(Nat.le_of_ble_eq_true rfl), (Nat.le_of_ble_eq_true rfl)⟩ (Nat.le_refl _) (Nat.le_refl _) rfl (fun z hz => nomatch hz) (by decide) rfl (by decide) w_287 wc_1 (fun q => ?_)
      refine gGo_sub [] rfl ?_
      refine g_astore_n (L' := [(2, .ref q)]) d_Law_tryMost_6 rfl (by decide) rfl ?_
      refine g_ldc d_Law_tryMost_7 w_388 ?_
      exact g_iretL d_Law_tryMost_9 rfl (Nat.le_refl _) (Nat.le_refl _)
    by_cases c1 : x = 2
    · subst c1
      obtain rfl := Option.some.inj h
      refine g_callC (As := [.int a1]) (rest := []) [⟨0, 5, 6, 16⟩] ⟨0, 5, 10, 19⟩ [] rfl (fun hl0 => ctx_DS_most hl0 hX M a1 2 hq) d_Law_tryMost_2 ca_DS_most w_778 (gXw_h0 hX) rfl rfl rfl (Nat.le_of_ble_eq_true rfl) ⟨(Nat.le_of_ble_eq_true rfl), (Nat.le_of_ble_eq_true rfl)⟩ (Nat.le_refl _) (Nat.le_refl _) rfl (List.forall_mem_cons.mpr ⟨⟨by decide, "java/lang/IllegalArgumentException", w_287, by decide, by decide⟩, fun _ h => nomatch h⟩) (by decide) rfl (by decide) w_288 wc_2 (fun q => ?_)
      refine gGo_sub [] rfl ?_
      refine g_astore_n (L' := [(2, .ref q)]) d_Law_tryMost_10 rfl (by decide) rfl ?_
      refine g_ldc d_Law_tryMost_11 w_389 ?_
      exact g_iretL d_Law_tryMost_13 rfl (Nat.le_refl _) (Nat.le_refl _)
    exfalso
    revert h
    split
    · rename_i e9
      exact fun _ => c0 (Sum.inl.inj e9)
    · rename_i e9
      exact fun _ => c1 (Sum.inl.inj e9)
    · exact fun h => nomatch h
    · rename_i e9
      exact nomatch e9
theorem ctl_Law_tryMost {l : Launch} {ε : gEnv} (hl0 : l.stackTraces = false) (hX : gXw ε) (M : gMem) (a1 : Int32) (r : Int32 × gMem) (h : f_Law_tryMost M a1 = some r) : gCtL l ε k_Law_tryMost [(0, 5, 6, 16), (0, 5, 10, 19)] 153 6074 [.ref (ε.2.2.1 18 0), .int a1] M (some (.int r.1)) r.2 :=
  gCtL_of hl0 (by decide) (Nat.le_of_ble_eq_true rfl) rfl (t_Law_tryMost hX M a1 r h)
theorem ctlq_Law_tryMost {l : Launch} {ε : gEnv} (hl0 : l.stackTraces = false) (hY : gXw (swE ε)) (M : gMem) (a1 : Int32) (q : Int32 × gMem) (h : onQ (fun M => f_Law_tryMost M a1) M = some q) : gCtL l ε k_Law_tryMost [(0, 5, 6, 16), (0, 5, 10, 19)] 153 6074 [.ref (ε.2.2.1 38 0), .int a1] M (some (.int q.1)) q.2 :=
  gCtL_sw (ctl_Law_tryMost hl0 hY (swM M) a1 (q.1, swM q.2) (onQ_s h))
abbrev k_Law_tryBest : gMD := (⟨"DropSignalsLaw", "tryBest", "(LDropSignals;)I"⟩, method_17_code, 2, some .int)
theorem w_835 : Cond.static ⟨"DropSignalsLaw", "tryBest", "(LDropSignals;)I"⟩ ∈ gWs := gWs_in (i := 835) (by decide +kernel) rfl
set_option maxRecDepth 100000 in
theorem cw_Law_tryBest : Cond.codeWith k_Law_tryBest.1 k_Law_tryBest.2.1 k_Law_tryBest.2.2.1 k_Law_tryBest.2.2.2 [(0, 4, 5, 19)] ∈ gWs := gWs_in (i := 836) rfl rfl
theorem d_Law_tryBest_0 : decode method_17_code 0 = .ok (.aload_n 0, 1) := by decide +kernel
theorem d_Law_tryBest_1 : decode method_17_code 1 = .ok (.invokevirtual 70, 3) := by decide +kernel
theorem d_Law_tryBest_4 : decode method_17_code 4 = .ok (.ireturn, 1) := by decide +kernel
theorem w_837 : Cond.methodLink "DropSignalsLaw" 70 ⟨"DropSignals", "bestCard", "()I"⟩ ∈ gWs := gWs_in (i := 837) (by decide +kernel) rfl
theorem d_Law_tryBest_5 : decode method_17_code 5 = .ok (.astore_n 1, 1) := by decide +kernel
theorem d_Law_tryBest_6 : decode method_17_code 6 = .ok (.ldc 21, 2) := by decide +kernel
theorem d_Law_tryBest_8 : decode method_17_code 8 = .ok (.ireturn, 1) := by decide +kernel
noncomputable def f_Law_tryBest (M : gMem) : Option (Int32 × gMem) :=
  (f_DS_bestCard M).bind fun q => match q with
    | .inl 2 => some ((-9999003), M)
    | .inl _ => none
    | .inr q => some (q.1, q.2)
theorem t_Law_tryBest {l : Launch} {ε : gEnv} (hX : gXw ε) (M : gMem) (r : Int32 × gMem) (h : f_Law_tryBest M = some r) : gGo l ε k_Law_tryBest (gRX 153 6076) (gFw ε [(0, 4, 5, 19)] 0 0 (some (.int r.1)) r.2) 0 [(0, .ref (ε.2.2.1 18 0))] [] M := by
  unfold f_Law_tryBest at h
  refine g_aload_n d_Law_tryBest_0 rfl 0 rfl ?_
  obtain ⟨q, hq, h⟩ := gOb h
  cases q with
  | inr q =>
    obtain rfl := Option.some.inj h
    refine g_callV_i (As := []) (rest := []) (ctn_DS_bestCard hX M q hq) d_Law_tryBest_1 ca_DS_bestCard w_837 (gXw_h0 hX) rfl rfl rfl (Nat.le_of_ble_eq_true rfl) ⟨(Nat.le_of_ble_eq_true rfl), (Nat.le_of_ble_eq_true rfl)⟩ ?_
    exact g_iretL d_Law_tryBest_4 rfl (by decide) (by decide)
  | inl x =>
    by_cases c0 : x = 2
    · subst c0
      obtain rfl := Option.some.inj h
      refine g_callC (As := []) (rest := []) [] ⟨0, 4, 5, 19⟩ [] rfl (fun hl0 => ctx_DS_bestCard hl0 hX M 2 hq) d_Law_tryBest_1 ca_DS_bestCard w_837 (gXw_h0 hX) rfl rfl rfl (Nat.le_of_ble_eq_true rfl) ⟨(Nat.le_of_ble_eq_true rfl), (Nat.le_of_ble_eq_true rfl)⟩ (Nat.le_refl _) (Nat.le_refl _) rfl (fun z hz => nomatch hz) (by decide) rfl (by decide) w_288 wc_2 (fun q => ?_)
      refine gGo_sub [] rfl ?_
      refine g_astore_n (L' := [(1, .ref q)]) d_Law_tryBest_5 rfl (by decide) rfl ?_
      refine g_ldc d_Law_tryBest_6 w_389 ?_
      exact g_iretL d_Law_tryBest_8 rfl (Nat.le_refl _) (Nat.le_refl _)
    exfalso
    revert h
    split
    · rename_i e9
      exact fun _ => c0 (Sum.inl.inj e9)
    · exact fun h => nomatch h
    · rename_i e9
      exact nomatch e9
theorem ctl_Law_tryBest {l : Launch} {ε : gEnv} (hl0 : l.stackTraces = false) (hX : gXw ε) (M : gMem) (r : Int32 × gMem) (h : f_Law_tryBest M = some r) : gCtL l ε k_Law_tryBest [(0, 4, 5, 19)] 153 6076 [.ref (ε.2.2.1 18 0)] M (some (.int r.1)) r.2 :=
  gCtL_of hl0 (by decide) (Nat.le_of_ble_eq_true rfl) rfl (t_Law_tryBest hX M r h)
theorem ctlq_Law_tryBest {l : Launch} {ε : gEnv} (hl0 : l.stackTraces = false) (hY : gXw (swE ε)) (M : gMem) (q : Int32 × gMem) (h : onQ (fun M => f_Law_tryBest M) M = some q) : gCtL l ε k_Law_tryBest [(0, 4, 5, 19)] 153 6076 [.ref (ε.2.2.1 38 0)] M (some (.int q.1)) q.2 :=
  gCtL_sw (ctl_Law_tryBest hl0 hY (swM M) (q.1, swM q.2) (onQ_s h))
abbrev k_Law_tryKeep : gMD := (⟨"DropSignalsLaw", "tryKeep", "(LDropSignals;I)I"⟩, method_18_code, 3, some .int)
theorem w_846 : Cond.static ⟨"DropSignalsLaw", "tryKeep", "(LDropSignals;I)I"⟩ ∈ gWs := gWs_in (i := 846) (by decide +kernel) rfl
set_option maxRecDepth 100000 in
theorem cw_Law_tryKeep : Cond.codeWith k_Law_tryKeep.1 k_Law_tryKeep.2.1 k_Law_tryKeep.2.2.1 k_Law_tryKeep.2.2.2 [(0, 5, 6, 13)] ∈ gWs := gWs_in (i := 847) rfl rfl
theorem d_Law_tryKeep_0 : decode method_18_code 0 = .ok (.aload_n 0, 1) := by decide +kernel
theorem d_Law_tryKeep_1 : decode method_18_code 1 = .ok (.iload_n 1, 1) := by decide +kernel
theorem d_Law_tryKeep_2 : decode method_18_code 2 = .ok (.invokevirtual 73, 3) := by decide +kernel
theorem d_Law_tryKeep_5 : decode method_18_code 5 = .ok (.ireturn, 1) := by decide +kernel
theorem w_848 : Cond.methodLink "DropSignalsLaw" 73 ⟨"DropSignals", "save", "(I)I"⟩ ∈ gWs := gWs_in (i := 848) (by decide +kernel) rfl
theorem d_Law_tryKeep_6 : decode method_18_code 6 = .ok (.astore_n 2, 1) := by decide +kernel
theorem d_Law_tryKeep_7 : decode method_18_code 7 = .ok (.ldc 15, 2) := by decide +kernel
theorem d_Law_tryKeep_9 : decode method_18_code 9 = .ok (.ireturn, 1) := by decide +kernel
noncomputable def f_Law_tryKeep (M : gMem) (a1 : Int32) : Option (Int32 × gMem) :=
  (f_DS_save M a1).bind fun q => match q with
    | .inl 3 => some ((-9999001), M)
    | .inl _ => none
    | .inr q => some (q.1, q.2)
theorem t_Law_tryKeep {l : Launch} {ε : gEnv} (hX : gXw ε) (M : gMem) (a1 : Int32) (r : Int32 × gMem) (h : f_Law_tryKeep M a1 = some r) : gGo l ε k_Law_tryKeep (gRX 10 162) (gFw ε [(0, 5, 6, 13)] 0 0 (some (.int r.1)) r.2) 0 [(0, .ref (ε.2.2.1 18 0)), (1, .int a1)] [] M := by
  unfold f_Law_tryKeep at h
  refine g_aload_n d_Law_tryKeep_0 rfl 0 rfl ?_
  refine g_iload_n d_Law_tryKeep_1 rfl 1 rfl ?_
  obtain ⟨q, hq, h⟩ := gOb h
  cases q with
  | inr q =>
    obtain rfl := Option.some.inj h
    refine g_callV_i (As := [.int a1]) (rest := []) (ctn_DS_save hX M a1 q hq) d_Law_tryKeep_2 ca_DS_save w_848 (gXw_h0 hX) rfl rfl rfl (Nat.le_of_ble_eq_true rfl) ⟨(Nat.le_of_ble_eq_true rfl), (Nat.le_of_ble_eq_true rfl)⟩ ?_
    exact g_iretL d_Law_tryKeep_5 rfl (by decide) (by decide)
  | inl x =>
    by_cases c0 : x = 3
    · subst c0
      obtain rfl := Option.some.inj h
      refine g_callC (As := [.int a1]) (rest := []) [] ⟨0, 5, 6, 13⟩ [] rfl (fun hl0 => ctx_DS_save hl0 hX M a1 3 hq) d_Law_tryKeep_2 ca_DS_save w_848 (gXw_h0 hX) rfl rfl rfl (Nat.le_of_ble_eq_true rfl) ⟨(Nat.le_of_ble_eq_true rfl), (Nat.le_of_ble_eq_true rfl)⟩ (Nat.le_refl _) (Nat.le_refl _) rfl (fun z hz => nomatch hz) (by decide) rfl (by decide) w_615 wc_3 (fun q => ?_)
      refine gGo_sub [] rfl ?_
      refine g_astore_n (L' := [(2, .ref q)]) d_Law_tryKeep_6 rfl (by decide) rfl ?_
      refine g_ldc d_Law_tryKeep_7 w_645 ?_
      exact g_iretL d_Law_tryKeep_9 rfl (Nat.le_refl _) (Nat.le_refl _)
    exfalso
    revert h
    split
    · rename_i e9
      exact fun _ => c0 (Sum.inl.inj e9)
    · exact fun h => nomatch h
    · rename_i e9
      exact nomatch e9
theorem ctl_Law_tryKeep {l : Launch} {ε : gEnv} (hl0 : l.stackTraces = false) (hX : gXw ε) (M : gMem) (a1 : Int32) (r : Int32 × gMem) (h : f_Law_tryKeep M a1 = some r) : gCtL l ε k_Law_tryKeep [(0, 5, 6, 13)] 10 162 [.ref (ε.2.2.1 18 0), .int a1] M (some (.int r.1)) r.2 :=
  gCtL_of hl0 (by decide) (Nat.le_of_ble_eq_true rfl) rfl (t_Law_tryKeep hX M a1 r h)
theorem ctlq_Law_tryKeep {l : Launch} {ε : gEnv} (hl0 : l.stackTraces = false) (hY : gXw (swE ε)) (M : gMem) (a1 : Int32) (q : Int32 × gMem) (h : onQ (fun M => f_Law_tryKeep M a1) M = some q) : gCtL l ε k_Law_tryKeep [(0, 5, 6, 13)] 10 162 [.ref (ε.2.2.1 38 0), .int a1] M (some (.int q.1)) q.2 :=
  gCtL_sw (ctl_Law_tryKeep hl0 hY (swM M) a1 (q.1, swM q.2) (onQ_s h))
abbrev k_Law_tryBack : gMD := (⟨"DropSignalsLaw", "tryBack", "(LDropSignals;I)I"⟩, method_19_code, 3, some .int)
theorem w_858 : Cond.static ⟨"DropSignalsLaw", "tryBack", "(LDropSignals;I)I"⟩ ∈ gWs := gWs_in (i := 858) (by decide +kernel) rfl
set_option maxRecDepth 100000 in
theorem cw_Law_tryBack : Cond.codeWith k_Law_tryBack.1 k_Law_tryBack.2.1 k_Law_tryBack.2.2.1 k_Law_tryBack.2.2.2 [(0, 5, 6, 13), (0, 5, 10, 19)] ∈ gWs := gWs_in (i := 859) rfl rfl
theorem d_Law_tryBack_0 : decode method_19_code 0 = .ok (.aload_n 0, 1) := by decide +kernel
theorem d_Law_tryBack_1 : decode method_19_code 1 = .ok (.iload_n 1, 1) := by decide +kernel
theorem d_Law_tryBack_2 : decode method_19_code 2 = .ok (.invokevirtual 76, 3) := by decide +kernel
theorem d_Law_tryBack_5 : decode method_19_code 5 = .ok (.ireturn, 1) := by decide +kernel
theorem w_860 : Cond.methodLink "DropSignalsLaw" 76 ⟨"DropSignals", "restore", "(I)I"⟩ ∈ gWs := gWs_in (i := 860) (by decide +kernel) rfl
theorem d_Law_tryBack_6 : decode method_19_code 6 = .ok (.astore_n 2, 1) := by decide +kernel
theorem d_Law_tryBack_7 : decode method_19_code 7 = .ok (.ldc 15, 2) := by decide +kernel
theorem d_Law_tryBack_9 : decode method_19_code 9 = .ok (.ireturn, 1) := by decide +kernel
theorem d_Law_tryBack_10 : decode method_19_code 10 = .ok (.astore_n 2, 1) := by decide +kernel
theorem d_Law_tryBack_11 : decode method_19_code 11 = .ok (.ldc 21, 2) := by decide +kernel
theorem d_Law_tryBack_13 : decode method_19_code 13 = .ok (.ireturn, 1) := by decide +kernel
noncomputable def f_Law_tryBack (M : gMem) (a1 : Int32) : Option (Int32 × gMem) :=
  (f_DS_restore M a1).bind fun q => match q with
    | .inl 3 => some ((-9999001), M)
    | .inl 2 => some ((-9999003), M)
    | .inl _ => none
    | .inr q => some (q.1, q.2)
theorem t_Law_tryBack {l : Launch} {ε : gEnv} (hX : gXw ε) (M : gMem) (a1 : Int32) (r : Int32 × gMem) (h : f_Law_tryBack M a1 = some r) : gGo l ε k_Law_tryBack (gRX 10 162) (gFw ε [(0, 5, 6, 13), (0, 5, 10, 19)] 0 0 (some (.int r.1)) r.2) 0 [(0, .ref (ε.2.2.1 18 0)), (1, .int a1)] [] M := by
  unfold f_Law_tryBack at h
  refine g_aload_n d_Law_tryBack_0 rfl 0 rfl ?_
  refine g_iload_n d_Law_tryBack_1 rfl 1 rfl ?_
  obtain ⟨q, hq, h⟩ := gOb h
  cases q with
  | inr q =>
    obtain rfl := Option.some.inj h
    refine g_callV_i (As := [.int a1]) (rest := []) (ctn_DS_restore hX M a1 q hq) d_Law_tryBack_2 ca_DS_restore w_860 (gXw_h0 hX) rfl rfl rfl (Nat.le_of_ble_eq_true rfl) ⟨(Nat.le_of_ble_eq_true rfl), (Nat.le_of_ble_eq_true rfl)⟩ ?_
    exact g_iretL d_Law_tryBack_5 rfl (by decide) (by decide)
  | inl x =>
    by_cases c0 : x = 3
    · subst c0
      obtain rfl := Option.some.inj h
      refine g_callC (As := [.int a1]) (rest := []) [] ⟨0, 5, 6, 13⟩ [⟨0, 5, 10, 19⟩] rfl (fun hl0 => ctx_DS_restore hl0 hX M a1 3 hq) d_Law_tryBack_2 ca_DS_restore w_860 (gXw_h0 hX) rfl rfl rfl (Nat.le_of_ble_eq_true rfl) ⟨(Nat.le_of_ble_eq_true rfl), (Nat.le_of_ble_eq_true rfl)⟩ (Nat.le_refl _) (Nat.le_refl _) rfl (fun z hz => nomatch hz) (by decide) rfl (by decide) w_615 wc_3 (fun q => ?_)
      refine gGo_sub [] rfl ?_
      refine g_astore_n (L' := [(2, .ref q)]) d_Law_tryBack_6 rfl (by decide) rfl ?_
      refine g_ldc d_Law_tryBack_7 w_645 ?_
      exact g_iretL d_Law_tryBack_9 rfl (Nat.le_refl _) (Nat.le_refl _)
    by_cases c1 : x = 2
    · subst c1
      obtain rfl := Option.some.inj h
      refine g_callC (As := [.int a1]) (rest := []) [⟨0, 5, 6, 13⟩] ⟨0, 5, 10, 19⟩ [] rfl (fun hl0 => ctx_DS_restore hl0 hX M a1 2 hq) d_Law_tryBack_2 ca_DS_restore w_860 (gXw_h0 hX) rfl rfl rfl (Nat.le_of_ble_eq_true rfl) ⟨(Nat.le_of_ble_eq_true rfl), (Nat.le_of_ble_eq_true rfl)⟩ (Nat.le_refl _) (Nat.le_refl _) rfl (List.forall_mem_cons.mpr ⟨⟨by decide, "java/lang/IndexOutOfBoundsException", w_615, by decide, by decide⟩, fun _ h => nomatch h⟩) (by decide) rfl (by decide) w_288 wc_2 (fun q => ?_)
      refine gGo_sub [] rfl ?_
      refine g_astore_n (L' := [(2, .ref q)]) d_Law_tryBack_10 rfl (by decide) rfl ?_
      refine g_ldc d_Law_tryBack_11 w_389 ?_
      exact g_iretL d_Law_tryBack_13 rfl (Nat.le_refl _) (Nat.le_refl _)
    exfalso
    revert h
    split
    · rename_i e9
      exact fun _ => c0 (Sum.inl.inj e9)
    · rename_i e9
      exact fun _ => c1 (Sum.inl.inj e9)
    · exact fun h => nomatch h
    · rename_i e9
      exact nomatch e9
theorem ctl_Law_tryBack {l : Launch} {ε : gEnv} (hl0 : l.stackTraces = false) (hX : gXw ε) (M : gMem) (a1 : Int32) (r : Int32 × gMem) (h : f_Law_tryBack M a1 = some r) : gCtL l ε k_Law_tryBack [(0, 5, 6, 13), (0, 5, 10, 19)] 10 162 [.ref (ε.2.2.1 18 0), .int a1] M (some (.int r.1)) r.2 :=
  gCtL_of hl0 (by decide) (Nat.le_of_ble_eq_true rfl) rfl (t_Law_tryBack hX M a1 r h)
theorem ctlq_Law_tryBack {l : Launch} {ε : gEnv} (hl0 : l.stackTraces = false) (hY : gXw (swE ε)) (M : gMem) (a1 : Int32) (q : Int32 × gMem) (h : onQ (fun M => f_Law_tryBack M a1) M = some q) : gCtL l ε k_Law_tryBack [(0, 5, 6, 13), (0, 5, 10, 19)] 10 162 [.ref (ε.2.2.1 38 0), .int a1] M (some (.int q.1)) q.2 :=
  gCtL_sw (ctl_Law_tryBack hl0 hY (swM M) a1 (q.1, swM q.2) (onQ_s h))
abbrev k_Law_thrown : gMD := (⟨"DropSignalsLaw", "thrown", "(I)Z"⟩, method_22_code, 1, (some .boolean))
theorem w_969 : Cond.static ⟨"DropSignalsLaw", "thrown", "(I)Z"⟩ ∈ gWs := gWs_in (i := 969) (by decide +kernel) rfl
set_option maxRecDepth 100000 in
theorem ca_Law_thrown : gCaS k_Law_thrown 1 := ⟨⟨gWs_in (i := 970) rfl rfl, w_19, by decide, by decide, by decide +kernel⟩, w_969⟩
theorem d_Law_thrown_0 : decode method_22_code 0 = .ok (.iload_n 0, 1) := by decide +kernel
theorem d_Law_thrown_1 : decode method_22_code 1 = .ok (.ldc 15, 2) := by decide +kernel
theorem d_Law_thrown_3 : decode method_22_code 3 = .ok (.if_icmp .eq 15, 3) := by decide +kernel
theorem d_Law_thrown_6 : decode method_22_code 6 = .ok (.iload_n 0, 1) := by decide +kernel
theorem d_Law_thrown_7 : decode method_22_code 7 = .ok (.ldc 18, 2) := by decide +kernel
theorem d_Law_thrown_9 : decode method_22_code 9 = .ok (.if_icmp .eq 9, 3) := by decide +kernel
theorem d_Law_thrown_12 : decode method_22_code 12 = .ok (.iload_n 0, 1) := by decide +kernel
theorem d_Law_thrown_13 : decode method_22_code 13 = .ok (.ldc 21, 2) := by decide +kernel
theorem d_Law_thrown_15 : decode method_22_code 15 = .ok (.if_icmp .ne 7, 3) := by decide +kernel
theorem d_Law_thrown_18 : decode method_22_code 18 = .ok (.iconst 1, 1) := by decide +kernel
theorem d_Law_thrown_19 : decode method_22_code 19 = .ok (.goto 4, 3) := by decide +kernel
theorem d_Law_thrown_22 : decode method_22_code 22 = .ok (.iconst 0, 1) := by decide +kernel
theorem d_Law_thrown_23 : decode method_22_code 23 = .ok (.ireturn, 1) := by decide +kernel
noncomputable def f_Law_thrown (a0 : Int32) : Option Int32 :=
  if a0 = (-9999001) then
    some 1
  else
    if a0 = (-9999002) then
      some 1
    else
      if a0 = (-9999003) then
        some 1
      else
        some 0
theorem t_Law_thrown {l : Launch} {ε : gEnv} (M : gMem) (a0 : Int32) (r : Int32) (h : f_Law_thrown a0 = some r) : gGo l ε k_Law_thrown (gR 0 0) (gFn ε (some (.int r)) M) 0 [(0, .int a0)] [] M := by
  unfold f_Law_thrown at h
  refine g_iload_n d_Law_thrown_0 rfl 0 rfl ?_
  refine g_ldc d_Law_thrown_1 w_645 ?_
  refine g_icmp_eq (tgt := 18) d_Law_thrown_3 (by decide) (fun c3 => ?_) (fun c3 => ?_)
  · rw [if_pos c3] at h
    refine g_iconst (v := 1) d_Law_thrown_18 (by decide) ?_
    refine g_goto (tgt := 23) d_Law_thrown_19 (by decide) ?_
    obtain rfl := Option.some.inj h
    exact g_zret d_Law_thrown_23 rfl gZ1
  · rw [if_neg c3] at h
    refine g_iload_n d_Law_thrown_6 rfl 0 rfl ?_
    refine g_ldc d_Law_thrown_7 w_388 ?_
    refine g_icmp_eq (tgt := 18) d_Law_thrown_9 (by decide) (fun c2 => ?_) (fun c2 => ?_)
    · rw [if_pos c2] at h
      refine g_iconst (v := 1) d_Law_thrown_18 (by decide) ?_
      refine g_goto (tgt := 23) d_Law_thrown_19 (by decide) ?_
      obtain rfl := Option.some.inj h
      exact g_zret d_Law_thrown_23 rfl gZ1
    · rw [if_neg c2] at h
      refine g_iload_n d_Law_thrown_12 rfl 0 rfl ?_
      refine g_ldc d_Law_thrown_13 w_389 ?_
      refine g_icmp_ne (tgt := 22) d_Law_thrown_15 (by decide) (fun c1 => ?_) (fun c1 => ?_)
      · rw [if_neg c1] at h
        refine g_iconst (v := 0) d_Law_thrown_22 (by decide) ?_
        obtain rfl := Option.some.inj h
        exact g_zret d_Law_thrown_23 rfl gZ0
      · rw [if_pos c1] at h
        refine g_iconst (v := 1) d_Law_thrown_18 (by decide) ?_
        refine g_goto (tgt := 23) d_Law_thrown_19 (by decide) ?_
        obtain rfl := Option.some.inj h
        exact g_zret d_Law_thrown_23 rfl gZ1
theorem ct_Law_thrown {l : Launch} {ε : gEnv} (M : gMem) (a0 : Int32) (r : Int32) (h : f_Law_thrown a0 = some r) : gCt l ε k_Law_thrown 0 0 [.int a0] M (some (.int r)) M :=
  gCt_of (by decide) (Nat.le_of_ble_eq_true rfl) rfl (t_Law_thrown M a0 r h)
theorem ctq_DS_advice {l : Launch} {ε : gEnv} (hY : gXw (swE ε)) (M : gMem) (r : Int32) (h : f_DS_advice (swM M) = some r) : gCt l ε k_DS_advice 4 91 [.ref (ε.2.2.1 38 0)] M (some (.int r)) M :=
  gCt_sw (ct_DS_advice hY (swM M) r h)
