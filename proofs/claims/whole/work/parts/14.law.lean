abbrev k_Law_append : gMD := (⟨"DropSignalsLaw", "append", "(LDropSignals;I[J)I"⟩, method_3_code, 4, some .int)
theorem w_33 : Cond.initialized "DropSignalsLaw" ∈ gWs := gWs_in (i := 33) (by decide +kernel) rfl
theorem w_438 : Cond.static ⟨"DropSignalsLaw", "append", "(LDropSignals;I[J)I"⟩ ∈ gWs := gWs_in (i := 438) (by decide +kernel) rfl
set_option maxRecDepth 100000 in
theorem cw_Law_append : Cond.codeWith k_Law_append.1 k_Law_append.2.1 k_Law_append.2.2.1 k_Law_append.2.2.2 [(0, 9, 12, 13), (0, 9, 15, 15)] ∈ gWs := gWs_in (i := 439) rfl rfl
theorem d_Law_append_0 : decode method_3_code 0 = .ok (.aload_n 2, 1) := by decide +kernel
theorem d_Law_append_1 : decode method_3_code 1 = .ok (.iconst 0, 1) := by decide +kernel
theorem d_Law_append_2 : decode method_3_code 2 = .ok (.aload_n 0, 1) := by decide +kernel
theorem d_Law_append_3 : decode method_3_code 3 = .ok (.iload_n 1, 1) := by decide +kernel
theorem d_Law_append_4 : decode method_3_code 4 = .ok (.invokevirtual 7, 3) := by decide +kernel
theorem d_Law_append_7 : decode method_3_code 7 = .ok (.i2l, 1) := by decide +kernel
theorem d_Law_append_8 : decode method_3_code 8 = .ok (.lastore, 1) := by decide +kernel
theorem d_Law_append_9 : decode method_3_code 9 = .ok (.goto 9, 3) := by decide +kernel
theorem d_Law_append_18 : decode method_3_code 18 = .ok (.iconst 0, 1) := by decide +kernel
theorem d_Law_append_19 : decode method_3_code 19 = .ok (.ireturn, 1) := by decide +kernel
theorem w_442 : Cond.methodLink "DropSignalsLaw" 7 ⟨"DropSignals", "append", "(I)I"⟩ ∈ gWs := gWs_in (i := 442) (by decide +kernel) rfl
theorem d_Law_append_12 : decode method_3_code 12 = .ok (.astore_n 3, 1) := by decide +kernel
theorem d_Law_append_13 : decode method_3_code 13 = .ok (.iconst 1, 1) := by decide +kernel
theorem d_Law_append_14 : decode method_3_code 14 = .ok (.ireturn, 1) := by decide +kernel
theorem d_Law_append_15 : decode method_3_code 15 = .ok (.astore_n 3, 1) := by decide +kernel
theorem d_Law_append_16 : decode method_3_code 16 = .ok (.iconst 2, 1) := by decide +kernel
theorem d_Law_append_17 : decode method_3_code 17 = .ok (.ireturn, 1) := by decide +kernel
theorem w_440 : Cond.classLink "DropSignalsLaw" 13 "java/lang/IllegalArgumentException" ∈ gWs := gWs_in (i := 440) (by decide +kernel) rfl
theorem wc_1 : Cond.castable "java/lang/IllegalArgumentException" "java/lang/IllegalArgumentException" ∈ lw_tbl := List.mem_of_getElem? (i := 448) (by decide +kernel)
theorem w_441 : Cond.classLink "DropSignalsLaw" 15 "java/lang/IllegalStateException" ∈ gWs := gWs_in (i := 441) (by decide +kernel) rfl
theorem wc_2 : Cond.castable "java/lang/IllegalStateException" "java/lang/IllegalStateException" ∈ lw_tbl := List.mem_of_getElem? (i := 520) (by decide +kernel)
noncomputable def f_Law_append (M : gMem) (a1 : Int32) : Option (Int32 × gMem) :=
  (f_DS_append M a1).bind fun q => match q with
    | .inl 1 => some (1, M)
    | .inl 2 => some (2, M)
    | .inl _ => none
    | .inr q => (gUO q.2 (Int32.toInt64 q.1)).bind fun M1 => some (0, M1)
theorem t_Law_append {l : Launch} {ε : gEnv} (hX : gXw ε) (hO : gHas ε 20 0 (4, 1, [])) (M : gMem) (a1 : Int32) (r : Int32 × gMem) (h : f_Law_append M a1 = some r) : gGo l ε k_Law_append (gRX 9 141) (gFw ε [(0, 9, 12, 13), (0, 9, 15, 15)] 0 0 (some (.int r.1)) r.2) 0 [(0, .ref (ε.2.2.1 18 0)), (1, .int a1), (2, .ref (ε.2.2.1 20 0))] [] M := by
  unfold f_Law_append at h
  refine g_aload_n d_Law_append_0 rfl 2 rfl ?_
  refine g_iconst (v := 0) d_Law_append_1 (by decide) ?_
  refine g_aload_n d_Law_append_2 rfl 0 rfl ?_
  refine g_iload_n d_Law_append_3 rfl 1 rfl ?_
  obtain ⟨q, hq, h⟩ := gOb h
  cases q with
  | inr q =>
    obtain ⟨M1, hM1, h⟩ := gOb h
    obtain rfl := Option.some.inj h
    refine g_callV_i (As := [.int a1]) (rest := [.int 0, .ref (ε.2.2.1 20 0)]) (ctn_DS_append hX M a1 q hq) d_Law_append_4 ca_DS_append w_442 (gXw_h0 hX) rfl rfl rfl (Nat.le_of_ble_eq_true rfl) ⟨Nat.le_of_ble_eq_true rfl, Nat.le_of_ble_eq_true rfl⟩ ?_
    refine g_i2l d_Law_append_7 ?_
    refine g_lastore d_Law_append_8 hO hM1 ?_
    refine g_goto (tgt := 18) d_Law_append_9 (by decide) ?_
    refine g_iconst (v := 0) d_Law_append_18 (by decide) ?_
    exact g_iretL d_Law_append_19 rfl (by decide) (by decide)
  | inl x =>
    by_cases c0 : x = 1
    · subst c0
      obtain rfl := Option.some.inj h
      refine g_callC (As := [.int a1]) (rest := [.int 0, .ref (ε.2.2.1 20 0)]) [] ⟨0, 9, 12, 13⟩ [⟨0, 9, 15, 15⟩] rfl (fun hl0 => ctx_DS_append hl0 hX M a1 1 hq) d_Law_append_4 ca_DS_append w_442 (gXw_h0 hX) rfl rfl rfl (Nat.le_of_ble_eq_true rfl) ⟨Nat.le_of_ble_eq_true rfl, Nat.le_of_ble_eq_true rfl⟩ (Nat.le_refl _) (Nat.le_refl _) rfl (fun z hz => nomatch hz) (by decide) rfl (by decide) w_440 wc_1 (fun q => ?_)
      refine g_astore_n (L' := [(3, .ref q), (0, .ref (ε.2.2.1 18 0)), (1, .int a1), (2, .ref (ε.2.2.1 20 0))]) d_Law_append_12 rfl (by decide) rfl ?_
      refine g_iconst (v := 1) d_Law_append_13 (by decide) ?_
      exact g_iretL d_Law_append_14 rfl (Nat.le_refl _) (Nat.le_refl _)
    by_cases c1 : x = 2
    · subst c1
      obtain rfl := Option.some.inj h
      refine g_callC (As := [.int a1]) (rest := [.int 0, .ref (ε.2.2.1 20 0)]) [⟨0, 9, 12, 13⟩] ⟨0, 9, 15, 15⟩ [] rfl (fun hl0 => ctx_DS_append hl0 hX M a1 2 hq) d_Law_append_4 ca_DS_append w_442 (gXw_h0 hX) rfl rfl rfl (Nat.le_of_ble_eq_true rfl) ⟨Nat.le_of_ble_eq_true rfl, Nat.le_of_ble_eq_true rfl⟩ (Nat.le_refl _) (Nat.le_refl _) rfl (List.forall_mem_cons.mpr ⟨⟨by decide, "java/lang/IllegalArgumentException", w_440, by decide, by decide⟩, fun _ h => nomatch h⟩) (by decide) rfl (by decide) w_441 wc_2 (fun q => ?_)
      refine g_astore_n (L' := [(3, .ref q), (0, .ref (ε.2.2.1 18 0)), (1, .int a1), (2, .ref (ε.2.2.1 20 0))]) d_Law_append_15 rfl (by decide) rfl ?_
      refine g_iconst (v := 2) d_Law_append_16 (by decide) ?_
      exact g_iretL d_Law_append_17 rfl (Nat.le_refl _) (Nat.le_refl _)
    exfalso
    revert h
    split
    · rename_i e9
      exact fun _ => c0 (Sum.inl.inj e9)
    · rename_i e9
      exact fun _ => c1 (Sum.inl.inj e9)
    · exact fun h => nomatch h
    · rename_i e9
      exact nomatch e9
theorem ctl_Law_append {l : Launch} {ε : gEnv} (hl0 : l.stackTraces = false) (hX : gXw ε) (hO : gHas ε 20 0 (4, 1, [])) (M : gMem) (a1 : Int32) (r : Int32 × gMem) (h : f_Law_append M a1 = some r) : gCtL l ε k_Law_append [(0, 9, 12, 13), (0, 9, 15, 15)] 9 141 [.ref (ε.2.2.1 18 0), .int a1, .ref (ε.2.2.1 20 0)] M (some (.int r.1)) r.2 :=
  gCtL_of hl0 (by decide) (Nat.le_of_ble_eq_true rfl) rfl (t_Law_append hX hO M a1 r h)
abbrev k_Law_load : gMD := (⟨"DropSignalsLaw", "load", "(LDropSignals;[J)I"⟩, method_4_code, 3, some .int)
theorem w_540 : Cond.static ⟨"DropSignalsLaw", "load", "(LDropSignals;[J)I"⟩ ∈ gWs := gWs_in (i := 540) (by decide +kernel) rfl
set_option maxRecDepth 100000 in
theorem cw_Law_load : Cond.codeWith k_Law_load.1 k_Law_load.2.1 k_Law_load.2.2.1 k_Law_load.2.2.2 [(0, 8, 11, 15)] ∈ gWs := gWs_in (i := 541) rfl rfl
theorem d_Law_load_0 : decode method_4_code 0 = .ok (.aload_n 1, 1) := by decide +kernel
theorem d_Law_load_1 : decode method_4_code 1 = .ok (.iconst 0, 1) := by decide +kernel
theorem d_Law_load_2 : decode method_4_code 2 = .ok (.aload_n 0, 1) := by decide +kernel
theorem d_Law_load_3 : decode method_4_code 3 = .ok (.invokevirtual 17, 3) := by decide +kernel
theorem d_Law_load_6 : decode method_4_code 6 = .ok (.i2l, 1) := by decide +kernel
theorem d_Law_load_7 : decode method_4_code 7 = .ok (.lastore, 1) := by decide +kernel
theorem d_Law_load_8 : decode method_4_code 8 = .ok (.goto 6, 3) := by decide +kernel
theorem d_Law_load_14 : decode method_4_code 14 = .ok (.iconst 0, 1) := by decide +kernel
theorem d_Law_load_15 : decode method_4_code 15 = .ok (.ireturn, 1) := by decide +kernel
theorem w_542 : Cond.methodLink "DropSignalsLaw" 17 ⟨"DropSignals", "load", "()I"⟩ ∈ gWs := gWs_in (i := 542) (by decide +kernel) rfl
theorem d_Law_load_11 : decode method_4_code 11 = .ok (.astore_n 2, 1) := by decide +kernel
theorem d_Law_load_12 : decode method_4_code 12 = .ok (.iconst 1, 1) := by decide +kernel
theorem d_Law_load_13 : decode method_4_code 13 = .ok (.ireturn, 1) := by decide +kernel
noncomputable def f_Law_load (M : gMem) : Option (Int32 × gMem) :=
  (f_DS_load M).bind fun q => match q with
    | .inl 2 => some (1, M)
    | .inl _ => none
    | .inr q => (gUO q.2 (Int32.toInt64 q.1)).bind fun M1 => some (0, M1)
theorem t_Law_load {l : Launch} {ε : gEnv} (hX : gXw ε) (hO : gHas ε 20 0 (4, 1, [])) (M : gMem) (r : Int32 × gMem) (h : f_Law_load M = some r) : gGo l ε k_Law_load (gRX 9 161) (gFw ε [(0, 8, 11, 15)] 0 0 (some (.int r.1)) r.2) 0 [(0, .ref (ε.2.2.1 18 0)), (1, .ref (ε.2.2.1 20 0))] [] M := by
  unfold f_Law_load at h
  refine g_aload_n d_Law_load_0 rfl 1 rfl ?_
  refine g_iconst (v := 0) d_Law_load_1 (by decide) ?_
  refine g_aload_n d_Law_load_2 rfl 0 rfl ?_
  obtain ⟨q, hq, h⟩ := gOb h
  cases q with
  | inr q =>
    obtain ⟨M1, hM1, h⟩ := gOb h
    obtain rfl := Option.some.inj h
    refine g_callV_i (As := []) (rest := [.int 0, .ref (ε.2.2.1 20 0)]) (ctn_DS_load hX M q hq) d_Law_load_3 ca_DS_load w_542 (gXw_h0 hX) rfl rfl rfl (Nat.le_of_ble_eq_true rfl) ⟨Nat.le_of_ble_eq_true rfl, Nat.le_of_ble_eq_true rfl⟩ ?_
    refine g_i2l d_Law_load_6 ?_
    refine g_lastore d_Law_load_7 hO hM1 ?_
    refine g_goto (tgt := 14) d_Law_load_8 (by decide) ?_
    refine g_iconst (v := 0) d_Law_load_14 (by decide) ?_
    exact g_iretL d_Law_load_15 rfl (by decide) (by decide)
  | inl x =>
    by_cases c0 : x = 2
    · subst c0
      obtain rfl := Option.some.inj h
      refine g_callC (As := []) (rest := [.int 0, .ref (ε.2.2.1 20 0)]) [] ⟨0, 8, 11, 15⟩ [] rfl (fun hl0 => ctx_DS_load hl0 hX M 2 hq) d_Law_load_3 ca_DS_load w_542 (gXw_h0 hX) rfl rfl rfl (Nat.le_of_ble_eq_true rfl) ⟨Nat.le_of_ble_eq_true rfl, Nat.le_of_ble_eq_true rfl⟩ (Nat.le_refl _) (Nat.le_refl _) rfl (fun z hz => nomatch hz) (by decide) rfl (by decide) w_441 wc_2 (fun q => ?_)
      refine g_astore_n (L' := [(2, .ref q), (0, .ref (ε.2.2.1 18 0)), (1, .ref (ε.2.2.1 20 0))]) d_Law_load_11 rfl (by decide) rfl ?_
      refine g_iconst (v := 1) d_Law_load_12 (by decide) ?_
      exact g_iretL d_Law_load_13 rfl (Nat.le_refl _) (Nat.le_refl _)
    exfalso
    revert h
    split
    · rename_i e9
      exact fun _ => c0 (Sum.inl.inj e9)
    · exact fun h => nomatch h
    · rename_i e9
      exact nomatch e9
theorem ctl_Law_load {l : Launch} {ε : gEnv} (hl0 : l.stackTraces = false) (hX : gXw ε) (hO : gHas ε 20 0 (4, 1, [])) (M : gMem) (r : Int32 × gMem) (h : f_Law_load M = some r) : gCtL l ε k_Law_load [(0, 8, 11, 15)] 9 161 [.ref (ε.2.2.1 18 0), .ref (ε.2.2.1 20 0)] M (some (.int r.1)) r.2 :=
  gCtL_of hl0 (by decide) (Nat.le_of_ble_eq_true rfl) rfl (t_Law_load hX hO M r h)
abbrev k_Law_about : gMD := (⟨"DropSignalsLaw", "about", "(LDropSignals;I[J)I"⟩, method_5_code, 4, some .int)
theorem w_654 : Cond.static ⟨"DropSignalsLaw", "about", "(LDropSignals;I[J)I"⟩ ∈ gWs := gWs_in (i := 654) (by decide +kernel) rfl
set_option maxRecDepth 100000 in
theorem cw_Law_about : Cond.codeWith k_Law_about.1 k_Law_about.2.1 k_Law_about.2.2.1 k_Law_about.2.2.2 [(0, 9, 12, 13)] ∈ gWs := gWs_in (i := 655) rfl rfl
theorem d_Law_about_0 : decode method_5_code 0 = .ok (.aload_n 2, 1) := by decide +kernel
theorem d_Law_about_1 : decode method_5_code 1 = .ok (.iconst 0, 1) := by decide +kernel
theorem d_Law_about_2 : decode method_5_code 2 = .ok (.aload_n 0, 1) := by decide +kernel
theorem d_Law_about_3 : decode method_5_code 3 = .ok (.iload_n 1, 1) := by decide +kernel
theorem d_Law_about_4 : decode method_5_code 4 = .ok (.invokevirtual 21, 3) := by decide +kernel
theorem d_Law_about_7 : decode method_5_code 7 = .ok (.i2l, 1) := by decide +kernel
theorem d_Law_about_8 : decode method_5_code 8 = .ok (.lastore, 1) := by decide +kernel
theorem d_Law_about_9 : decode method_5_code 9 = .ok (.goto 6, 3) := by decide +kernel
theorem d_Law_about_15 : decode method_5_code 15 = .ok (.iconst 0, 1) := by decide +kernel
theorem d_Law_about_16 : decode method_5_code 16 = .ok (.ireturn, 1) := by decide +kernel
theorem w_656 : Cond.methodLink "DropSignalsLaw" 21 ⟨"DropSignals", "about", "(I)I"⟩ ∈ gWs := gWs_in (i := 656) (by decide +kernel) rfl
theorem d_Law_about_12 : decode method_5_code 12 = .ok (.astore_n 3, 1) := by decide +kernel
theorem d_Law_about_13 : decode method_5_code 13 = .ok (.iconst 1, 1) := by decide +kernel
theorem d_Law_about_14 : decode method_5_code 14 = .ok (.ireturn, 1) := by decide +kernel
noncomputable def f_Law_about (M : gMem) (a1 : Int32) : Option (Int32 × gMem) :=
  (f_DS_about M a1).bind fun q => match q with
    | .inl 1 => some (1, M)
    | .inl _ => none
    | .inr q => (gUO M (Int32.toInt64 q)).bind fun M1 => some (0, M1)
theorem t_Law_about {l : Launch} {ε : gEnv} (hX : gXw ε) (hO : gHas ε 20 0 (4, 1, [])) (M : gMem) (a1 : Int32) (r : Int32 × gMem) (h : f_Law_about M a1 = some r) : gGo l ε k_Law_about (gRX 10 162) (gFw ε [(0, 9, 12, 13)] 0 0 (some (.int r.1)) r.2) 0 [(0, .ref (ε.2.2.1 18 0)), (1, .int a1), (2, .ref (ε.2.2.1 20 0))] [] M := by
  unfold f_Law_about at h
  refine g_aload_n d_Law_about_0 rfl 2 rfl ?_
  refine g_iconst (v := 0) d_Law_about_1 (by decide) ?_
  refine g_aload_n d_Law_about_2 rfl 0 rfl ?_
  refine g_iload_n d_Law_about_3 rfl 1 rfl ?_
  obtain ⟨q, hq, h⟩ := gOb h
  cases q with
  | inr q =>
    obtain ⟨M1, hM1, h⟩ := gOb h
    obtain rfl := Option.some.inj h
    refine g_callV_i (As := [.int a1]) (rest := [.int 0, .ref (ε.2.2.1 20 0)]) (ctn_DS_about hX M a1 q hq) d_Law_about_4 ca_DS_about w_656 (gXw_h0 hX) rfl rfl rfl (Nat.le_of_ble_eq_true rfl) ⟨Nat.le_of_ble_eq_true rfl, Nat.le_of_ble_eq_true rfl⟩ ?_
    refine g_i2l d_Law_about_7 ?_
    refine g_lastore d_Law_about_8 hO hM1 ?_
    refine g_goto (tgt := 15) d_Law_about_9 (by decide) ?_
    refine g_iconst (v := 0) d_Law_about_15 (by decide) ?_
    exact g_iretL d_Law_about_16 rfl (by decide) (by decide)
  | inl x =>
    by_cases c0 : x = 1
    · subst c0
      obtain rfl := Option.some.inj h
      refine g_callC (As := [.int a1]) (rest := [.int 0, .ref (ε.2.2.1 20 0)]) [] ⟨0, 9, 12, 13⟩ [] rfl (fun hl0 => ctx_DS_about hl0 hX M a1 1 hq) d_Law_about_4 ca_DS_about w_656 (gXw_h0 hX) rfl rfl rfl (Nat.le_of_ble_eq_true rfl) ⟨Nat.le_of_ble_eq_true rfl, Nat.le_of_ble_eq_true rfl⟩ (Nat.le_refl _) (Nat.le_refl _) rfl (fun z hz => nomatch hz) (by decide) rfl (by decide) w_440 wc_1 (fun q => ?_)
      refine g_astore_n (L' := [(3, .ref q), (0, .ref (ε.2.2.1 18 0)), (1, .int a1), (2, .ref (ε.2.2.1 20 0))]) d_Law_about_12 rfl (by decide) rfl ?_
      refine g_iconst (v := 1) d_Law_about_13 (by decide) ?_
      exact g_iretL d_Law_about_14 rfl (Nat.le_refl _) (Nat.le_refl _)
    exfalso
    revert h
    split
    · rename_i e9
      exact fun _ => c0 (Sum.inl.inj e9)
    · exact fun h => nomatch h
    · rename_i e9
      exact nomatch e9
theorem ctl_Law_about {l : Launch} {ε : gEnv} (hl0 : l.stackTraces = false) (hX : gXw ε) (hO : gHas ε 20 0 (4, 1, [])) (M : gMem) (a1 : Int32) (r : Int32 × gMem) (h : f_Law_about M a1 = some r) : gCtL l ε k_Law_about [(0, 9, 12, 13)] 10 162 [.ref (ε.2.2.1 18 0), .int a1, .ref (ε.2.2.1 20 0)] M (some (.int r.1)) r.2 :=
  gCtL_of hl0 (by decide) (Nat.le_of_ble_eq_true rfl) rfl (t_Law_about hX hO M a1 r h)
abbrev k_Law_cardOf : gMD := (⟨"DropSignalsLaw", "cardOf", "(LDropSignals;II[J)I"⟩, method_6_code, 5, some .int)
theorem w_669 : Cond.static ⟨"DropSignalsLaw", "cardOf", "(LDropSignals;II[J)I"⟩ ∈ gWs := gWs_in (i := 669) (by decide +kernel) rfl
set_option maxRecDepth 100000 in
theorem cw_Law_cardOf : Cond.codeWith k_Law_cardOf.1 k_Law_cardOf.2.1 k_Law_cardOf.2.2.1 k_Law_cardOf.2.2.2 [(0, 10, 13, 28), (0, 10, 17, 13)] ∈ gWs := gWs_in (i := 670) rfl rfl
theorem d_Law_cardOf_0 : decode method_6_code 0 = .ok (.aload_n 3, 1) := by decide +kernel
theorem d_Law_cardOf_1 : decode method_6_code 1 = .ok (.iconst 0, 1) := by decide +kernel
theorem d_Law_cardOf_2 : decode method_6_code 2 = .ok (.aload_n 0, 1) := by decide +kernel
theorem d_Law_cardOf_3 : decode method_6_code 3 = .ok (.iload_n 1, 1) := by decide +kernel
theorem d_Law_cardOf_4 : decode method_6_code 4 = .ok (.iload_n 2, 1) := by decide +kernel
theorem d_Law_cardOf_5 : decode method_6_code 5 = .ok (.invokevirtual 24, 3) := by decide +kernel
theorem d_Law_cardOf_8 : decode method_6_code 8 = .ok (.i2l, 1) := by decide +kernel
theorem d_Law_cardOf_9 : decode method_6_code 9 = .ok (.lastore, 1) := by decide +kernel
theorem d_Law_cardOf_10 : decode method_6_code 10 = .ok (.goto 11, 3) := by decide +kernel
theorem d_Law_cardOf_21 : decode method_6_code 21 = .ok (.iconst 0, 1) := by decide +kernel
theorem d_Law_cardOf_22 : decode method_6_code 22 = .ok (.ireturn, 1) := by decide +kernel
theorem w_672 : Cond.methodLink "DropSignalsLaw" 24 ⟨"DropSignals", "cardOf", "(II)I"⟩ ∈ gWs := gWs_in (i := 672) (by decide +kernel) rfl
theorem d_Law_cardOf_13 : decode method_6_code 13 = .ok (.astore 4, 2) := by decide +kernel
theorem d_Law_cardOf_15 : decode method_6_code 15 = .ok (.iconst 1, 1) := by decide +kernel
theorem d_Law_cardOf_16 : decode method_6_code 16 = .ok (.ireturn, 1) := by decide +kernel
theorem d_Law_cardOf_17 : decode method_6_code 17 = .ok (.astore 4, 2) := by decide +kernel
theorem d_Law_cardOf_19 : decode method_6_code 19 = .ok (.iconst 2, 1) := by decide +kernel
theorem d_Law_cardOf_20 : decode method_6_code 20 = .ok (.ireturn, 1) := by decide +kernel
theorem w_671 : Cond.classLink "DropSignalsLaw" 28 "java/lang/IndexOutOfBoundsException" ∈ gWs := gWs_in (i := 671) (by decide +kernel) rfl
theorem wc_3 : Cond.castable "java/lang/IndexOutOfBoundsException" "java/lang/IndexOutOfBoundsException" ∈ lw_tbl := List.mem_of_getElem? (i := 681) (by decide +kernel)
noncomputable def f_Law_cardOf (M : gMem) (a1 : Int32) (a2 : Int32) : Option (Int32 × gMem) :=
  (f_DS_cardOf M a1 a2).bind fun q => match q with
    | .inl 3 => some (1, M)
    | .inl 1 => some (2, M)
    | .inl _ => none
    | .inr q => (gUO M (Int32.toInt64 q)).bind fun M1 => some (0, M1)
theorem t_Law_cardOf {l : Launch} {ε : gEnv} (hX : gXw ε) (hO : gHas ε 20 0 (4, 1, [])) (M : gMem) (a1 : Int32) (a2 : Int32) (r : Int32 × gMem) (h : f_Law_cardOf M a1 a2 = some r) : gGo l ε k_Law_cardOf (gRX 10 163) (gFw ε [(0, 10, 13, 28), (0, 10, 17, 13)] 0 0 (some (.int r.1)) r.2) 0 [(0, .ref (ε.2.2.1 18 0)), (1, .int a1), (2, .int a2), (3, .ref (ε.2.2.1 20 0))] [] M := by
  unfold f_Law_cardOf at h
  refine g_aload_n d_Law_cardOf_0 rfl 3 rfl ?_
  refine g_iconst (v := 0) d_Law_cardOf_1 (by decide) ?_
  refine g_aload_n d_Law_cardOf_2 rfl 0 rfl ?_
  refine g_iload_n d_Law_cardOf_3 rfl 1 rfl ?_
  refine g_iload_n d_Law_cardOf_4 rfl 2 rfl ?_
  obtain ⟨q, hq, h⟩ := gOb h
  cases q with
  | inr q =>
    obtain ⟨M1, hM1, h⟩ := gOb h
    obtain rfl := Option.some.inj h
    refine g_callV_i (As := [.int a1, .int a2]) (rest := [.int 0, .ref (ε.2.2.1 20 0)]) (ctn_DS_cardOf hX M a1 a2 q hq) d_Law_cardOf_5 ca_DS_cardOf w_672 (gXw_h0 hX) rfl rfl rfl (Nat.le_of_ble_eq_true rfl) ⟨Nat.le_of_ble_eq_true rfl, Nat.le_of_ble_eq_true rfl⟩ ?_
    refine g_i2l d_Law_cardOf_8 ?_
    refine g_lastore d_Law_cardOf_9 hO hM1 ?_
    refine g_goto (tgt := 21) d_Law_cardOf_10 (by decide) ?_
    refine g_iconst (v := 0) d_Law_cardOf_21 (by decide) ?_
    exact g_iretL d_Law_cardOf_22 rfl (by decide) (by decide)
  | inl x =>
    by_cases c0 : x = 3
    · subst c0
      obtain rfl := Option.some.inj h
      refine g_callC (As := [.int a1, .int a2]) (rest := [.int 0, .ref (ε.2.2.1 20 0)]) [] ⟨0, 10, 13, 28⟩ [⟨0, 10, 17, 13⟩] rfl (fun hl0 => ctx_DS_cardOf hl0 hX M a1 a2 3 hq) d_Law_cardOf_5 ca_DS_cardOf w_672 (gXw_h0 hX) rfl rfl rfl (Nat.le_of_ble_eq_true rfl) ⟨Nat.le_of_ble_eq_true rfl, Nat.le_of_ble_eq_true rfl⟩ (Nat.le_refl _) (Nat.le_refl _) rfl (fun z hz => nomatch hz) (by decide) rfl (by decide) w_671 wc_3 (fun q => ?_)
      refine g_astore (L' := [(4, .ref q), (0, .ref (ε.2.2.1 18 0)), (1, .int a1), (2, .int a2), (3, .ref (ε.2.2.1 20 0))]) d_Law_cardOf_13 (by decide) rfl ?_
      refine g_iconst (v := 1) d_Law_cardOf_15 (by decide) ?_
      exact g_iretL d_Law_cardOf_16 rfl (Nat.le_refl _) (Nat.le_refl _)
    by_cases c1 : x = 1
    · subst c1
      obtain rfl := Option.some.inj h
      refine g_callC (As := [.int a1, .int a2]) (rest := [.int 0, .ref (ε.2.2.1 20 0)]) [⟨0, 10, 13, 28⟩] ⟨0, 10, 17, 13⟩ [] rfl (fun hl0 => ctx_DS_cardOf hl0 hX M a1 a2 1 hq) d_Law_cardOf_5 ca_DS_cardOf w_672 (gXw_h0 hX) rfl rfl rfl (Nat.le_of_ble_eq_true rfl) ⟨Nat.le_of_ble_eq_true rfl, Nat.le_of_ble_eq_true rfl⟩ (Nat.le_refl _) (Nat.le_refl _) rfl (List.forall_mem_cons.mpr ⟨⟨by decide, "java/lang/IndexOutOfBoundsException", w_671, by decide, by decide⟩, fun _ h => nomatch h⟩) (by decide) rfl (by decide) w_440 wc_1 (fun q => ?_)
      refine g_astore (L' := [(4, .ref q), (0, .ref (ε.2.2.1 18 0)), (1, .int a1), (2, .int a2), (3, .ref (ε.2.2.1 20 0))]) d_Law_cardOf_17 (by decide) rfl ?_
      refine g_iconst (v := 2) d_Law_cardOf_19 (by decide) ?_
      exact g_iretL d_Law_cardOf_20 rfl (Nat.le_refl _) (Nat.le_refl _)
    exfalso
    revert h
    split
    · rename_i e9
      exact fun _ => c0 (Sum.inl.inj e9)
    · rename_i e9
      exact fun _ => c1 (Sum.inl.inj e9)
    · exact fun h => nomatch h
    · rename_i e9
      exact nomatch e9
theorem ctl_Law_cardOf {l : Launch} {ε : gEnv} (hl0 : l.stackTraces = false) (hX : gXw ε) (hO : gHas ε 20 0 (4, 1, [])) (M : gMem) (a1 : Int32) (a2 : Int32) (r : Int32 × gMem) (h : f_Law_cardOf M a1 a2 = some r) : gCtL l ε k_Law_cardOf [(0, 10, 13, 28), (0, 10, 17, 13)] 10 163 [.ref (ε.2.2.1 18 0), .int a1, .int a2, .ref (ε.2.2.1 20 0)] M (some (.int r.1)) r.2 :=
  gCtL_of hl0 (by decide) (Nat.le_of_ble_eq_true rfl) rfl (t_Law_cardOf hX hO M a1 a2 r h)
abbrev k_Law_suitOf : gMD := (⟨"DropSignalsLaw", "suitOf", "(LDropSignals;III[J)I"⟩, method_7_code, 6, some .int)
theorem w_702 : Cond.static ⟨"DropSignalsLaw", "suitOf", "(LDropSignals;III[J)I"⟩ ∈ gWs := gWs_in (i := 702) (by decide +kernel) rfl
set_option maxRecDepth 100000 in
theorem cw_Law_suitOf : Cond.codeWith k_Law_suitOf.1 k_Law_suitOf.2.1 k_Law_suitOf.2.2.1 k_Law_suitOf.2.2.2 [(0, 12, 15, 28), (0, 12, 19, 13)] ∈ gWs := gWs_in (i := 703) rfl rfl
theorem d_Law_suitOf_0 : decode method_7_code 0 = .ok (.aload 4, 2) := by decide +kernel
theorem d_Law_suitOf_2 : decode method_7_code 2 = .ok (.iconst 0, 1) := by decide +kernel
theorem d_Law_suitOf_3 : decode method_7_code 3 = .ok (.aload_n 0, 1) := by decide +kernel
theorem d_Law_suitOf_4 : decode method_7_code 4 = .ok (.iload_n 1, 1) := by decide +kernel
theorem d_Law_suitOf_5 : decode method_7_code 5 = .ok (.iload_n 2, 1) := by decide +kernel
theorem d_Law_suitOf_6 : decode method_7_code 6 = .ok (.iload_n 3, 1) := by decide +kernel
theorem d_Law_suitOf_7 : decode method_7_code 7 = .ok (.invokevirtual 30, 3) := by decide +kernel
theorem d_Law_suitOf_10 : decode method_7_code 10 = .ok (.i2l, 1) := by decide +kernel
theorem d_Law_suitOf_11 : decode method_7_code 11 = .ok (.lastore, 1) := by decide +kernel
theorem d_Law_suitOf_12 : decode method_7_code 12 = .ok (.goto 11, 3) := by decide +kernel
theorem d_Law_suitOf_23 : decode method_7_code 23 = .ok (.iconst 0, 1) := by decide +kernel
theorem d_Law_suitOf_24 : decode method_7_code 24 = .ok (.ireturn, 1) := by decide +kernel
theorem w_704 : Cond.methodLink "DropSignalsLaw" 30 ⟨"DropSignals", "suitOf", "(III)I"⟩ ∈ gWs := gWs_in (i := 704) (by decide +kernel) rfl
theorem d_Law_suitOf_15 : decode method_7_code 15 = .ok (.astore 5, 2) := by decide +kernel
theorem d_Law_suitOf_17 : decode method_7_code 17 = .ok (.iconst 1, 1) := by decide +kernel
theorem d_Law_suitOf_18 : decode method_7_code 18 = .ok (.ireturn, 1) := by decide +kernel
theorem d_Law_suitOf_19 : decode method_7_code 19 = .ok (.astore 5, 2) := by decide +kernel
theorem d_Law_suitOf_21 : decode method_7_code 21 = .ok (.iconst 2, 1) := by decide +kernel
theorem d_Law_suitOf_22 : decode method_7_code 22 = .ok (.ireturn, 1) := by decide +kernel
noncomputable def f_Law_suitOf (M : gMem) (a1 : Int32) (a2 : Int32) (a3 : Int32) : Option (Int32 × gMem) :=
  (f_DS_suitOf M a1 a2 a3).bind fun q => match q with
    | .inl 3 => some (1, M)
    | .inl 1 => some (2, M)
    | .inl _ => none
    | .inr q => (gUO M (Int32.toInt64 q)).bind fun M1 => some (0, M1)
theorem t_Law_suitOf {l : Launch} {ε : gEnv} (hX : gXw ε) (hO : gHas ε 20 0 (4, 1, [])) (M : gMem) (a1 : Int32) (a2 : Int32) (a3 : Int32) (r : Int32 × gMem) (h : f_Law_suitOf M a1 a2 a3 = some r) : gGo l ε k_Law_suitOf (gRX 10 164) (gFw ε [(0, 12, 15, 28), (0, 12, 19, 13)] 0 0 (some (.int r.1)) r.2) 0 [(0, .ref (ε.2.2.1 18 0)), (1, .int a1), (2, .int a2), (3, .int a3), (4, .ref (ε.2.2.1 20 0))] [] M := by
  unfold f_Law_suitOf at h
  refine g_aload d_Law_suitOf_0 4 rfl ?_
  refine g_iconst (v := 0) d_Law_suitOf_2 (by decide) ?_
  refine g_aload_n d_Law_suitOf_3 rfl 0 rfl ?_
  refine g_iload_n d_Law_suitOf_4 rfl 1 rfl ?_
  refine g_iload_n d_Law_suitOf_5 rfl 2 rfl ?_
  refine g_iload_n d_Law_suitOf_6 rfl 3 rfl ?_
  obtain ⟨q, hq, h⟩ := gOb h
  cases q with
  | inr q =>
    obtain ⟨M1, hM1, h⟩ := gOb h
    obtain rfl := Option.some.inj h
    refine g_callV_i (As := [.int a1, .int a2, .int a3]) (rest := [.int 0, .ref (ε.2.2.1 20 0)]) (ctn_DS_suitOf hX M a1 a2 a3 q hq) d_Law_suitOf_7 ca_DS_suitOf w_704 (gXw_h0 hX) rfl rfl rfl (Nat.le_of_ble_eq_true rfl) ⟨Nat.le_of_ble_eq_true rfl, Nat.le_of_ble_eq_true rfl⟩ ?_
    refine g_i2l d_Law_suitOf_10 ?_
    refine g_lastore d_Law_suitOf_11 hO hM1 ?_
    refine g_goto (tgt := 23) d_Law_suitOf_12 (by decide) ?_
    refine g_iconst (v := 0) d_Law_suitOf_23 (by decide) ?_
    exact g_iretL d_Law_suitOf_24 rfl (by decide) (by decide)
  | inl x =>
    by_cases c0 : x = 3
    · subst c0
      obtain rfl := Option.some.inj h
      refine g_callC (As := [.int a1, .int a2, .int a3]) (rest := [.int 0, .ref (ε.2.2.1 20 0)]) [] ⟨0, 12, 15, 28⟩ [⟨0, 12, 19, 13⟩] rfl (fun hl0 => ctx_DS_suitOf hl0 hX M a1 a2 a3 3 hq) d_Law_suitOf_7 ca_DS_suitOf w_704 (gXw_h0 hX) rfl rfl rfl (Nat.le_of_ble_eq_true rfl) ⟨Nat.le_of_ble_eq_true rfl, Nat.le_of_ble_eq_true rfl⟩ (Nat.le_refl _) (Nat.le_refl _) rfl (fun z hz => nomatch hz) (by decide) rfl (by decide) w_671 wc_3 (fun q => ?_)
      refine g_astore (L' := [(5, .ref q), (0, .ref (ε.2.2.1 18 0)), (1, .int a1), (2, .int a2), (3, .int a3), (4, .ref (ε.2.2.1 20 0))]) d_Law_suitOf_15 (by decide) rfl ?_
      refine g_iconst (v := 1) d_Law_suitOf_17 (by decide) ?_
      exact g_iretL d_Law_suitOf_18 rfl (Nat.le_refl _) (Nat.le_refl _)
    by_cases c1 : x = 1
    · subst c1
      obtain rfl := Option.some.inj h
      refine g_callC (As := [.int a1, .int a2, .int a3]) (rest := [.int 0, .ref (ε.2.2.1 20 0)]) [⟨0, 12, 15, 28⟩] ⟨0, 12, 19, 13⟩ [] rfl (fun hl0 => ctx_DS_suitOf hl0 hX M a1 a2 a3 1 hq) d_Law_suitOf_7 ca_DS_suitOf w_704 (gXw_h0 hX) rfl rfl rfl (Nat.le_of_ble_eq_true rfl) ⟨Nat.le_of_ble_eq_true rfl, Nat.le_of_ble_eq_true rfl⟩ (Nat.le_refl _) (Nat.le_refl _) rfl (List.forall_mem_cons.mpr ⟨⟨by decide, "java/lang/IndexOutOfBoundsException", w_671, by decide, by decide⟩, fun _ h => nomatch h⟩) (by decide) rfl (by decide) w_440 wc_1 (fun q => ?_)
      refine g_astore (L' := [(5, .ref q), (0, .ref (ε.2.2.1 18 0)), (1, .int a1), (2, .int a2), (3, .int a3), (4, .ref (ε.2.2.1 20 0))]) d_Law_suitOf_19 (by decide) rfl ?_
      refine g_iconst (v := 2) d_Law_suitOf_21 (by decide) ?_
      exact g_iretL d_Law_suitOf_22 rfl (Nat.le_refl _) (Nat.le_refl _)
    exfalso
    revert h
    split
    · rename_i e9
      exact fun _ => c0 (Sum.inl.inj e9)
    · rename_i e9
      exact fun _ => c1 (Sum.inl.inj e9)
    · exact fun h => nomatch h
    · rename_i e9
      exact nomatch e9
theorem ctl_Law_suitOf {l : Launch} {ε : gEnv} (hl0 : l.stackTraces = false) (hX : gXw ε) (hO : gHas ε 20 0 (4, 1, [])) (M : gMem) (a1 : Int32) (a2 : Int32) (a3 : Int32) (r : Int32 × gMem) (h : f_Law_suitOf M a1 a2 a3 = some r) : gCtL l ε k_Law_suitOf [(0, 12, 15, 28), (0, 12, 19, 13)] 10 164 [.ref (ε.2.2.1 18 0), .int a1, .int a2, .int a3, .ref (ε.2.2.1 20 0)] M (some (.int r.1)) r.2 :=
  gCtL_of hl0 (by decide) (Nat.le_of_ble_eq_true rfl) rfl (t_Law_suitOf hX hO M a1 a2 a3 r h)
abbrev k_Law_trick : gMD := (⟨"DropSignalsLaw", "trick", "(LDropSignals;I[J)I"⟩, method_8_code, 4, some .int)
theorem w_725 : Cond.static ⟨"DropSignalsLaw", "trick", "(LDropSignals;I[J)I"⟩ ∈ gWs := gWs_in (i := 725) (by decide +kernel) rfl
set_option maxRecDepth 100000 in
theorem cw_Law_trick : Cond.codeWith k_Law_trick.1 k_Law_trick.2.1 k_Law_trick.2.2.1 k_Law_trick.2.2.2 [(0, 9, 12, 28)] ∈ gWs := gWs_in (i := 726) rfl rfl
theorem d_Law_trick_0 : decode method_8_code 0 = .ok (.aload_n 2, 1) := by decide +kernel
theorem d_Law_trick_1 : decode method_8_code 1 = .ok (.iconst 0, 1) := by decide +kernel
theorem d_Law_trick_2 : decode method_8_code 2 = .ok (.aload_n 0, 1) := by decide +kernel
theorem d_Law_trick_3 : decode method_8_code 3 = .ok (.iload_n 1, 1) := by decide +kernel
theorem d_Law_trick_4 : decode method_8_code 4 = .ok (.invokevirtual 34, 3) := by decide +kernel
theorem d_Law_trick_7 : decode method_8_code 7 = .ok (.i2l, 1) := by decide +kernel
theorem d_Law_trick_8 : decode method_8_code 8 = .ok (.lastore, 1) := by decide +kernel
theorem d_Law_trick_9 : decode method_8_code 9 = .ok (.goto 6, 3) := by decide +kernel
theorem d_Law_trick_15 : decode method_8_code 15 = .ok (.iconst 0, 1) := by decide +kernel
theorem d_Law_trick_16 : decode method_8_code 16 = .ok (.ireturn, 1) := by decide +kernel
theorem w_727 : Cond.methodLink "DropSignalsLaw" 34 ⟨"DropSignals", "trick", "(I)I"⟩ ∈ gWs := gWs_in (i := 727) (by decide +kernel) rfl
theorem d_Law_trick_12 : decode method_8_code 12 = .ok (.astore_n 3, 1) := by decide +kernel
theorem d_Law_trick_13 : decode method_8_code 13 = .ok (.iconst 1, 1) := by decide +kernel
theorem d_Law_trick_14 : decode method_8_code 14 = .ok (.ireturn, 1) := by decide +kernel
noncomputable def f_Law_trick (M : gMem) (a1 : Int32) : Option (Int32 × gMem) :=
  (f_DS_trick M a1).bind fun q => match q with
    | .inl 3 => some (1, M)
    | .inl _ => none
    | .inr q => (gUO M (Int32.toInt64 q)).bind fun M1 => some (0, M1)
theorem t_Law_trick {l : Launch} {ε : gEnv} (hX : gXw ε) (hO : gHas ε 20 0 (4, 1, [])) (M : gMem) (a1 : Int32) (r : Int32 × gMem) (h : f_Law_trick M a1 = some r) : gGo l ε k_Law_trick (gRX 10 162) (gFw ε [(0, 9, 12, 28)] 0 0 (some (.int r.1)) r.2) 0 [(0, .ref (ε.2.2.1 18 0)), (1, .int a1), (2, .ref (ε.2.2.1 20 0))] [] M := by
  unfold f_Law_trick at h
  refine g_aload_n d_Law_trick_0 rfl 2 rfl ?_
  refine g_iconst (v := 0) d_Law_trick_1 (by decide) ?_
  refine g_aload_n d_Law_trick_2 rfl 0 rfl ?_
  refine g_iload_n d_Law_trick_3 rfl 1 rfl ?_
  obtain ⟨q, hq, h⟩ := gOb h
  cases q with
  | inr q =>
    obtain ⟨M1, hM1, h⟩ := gOb h
    obtain rfl := Option.some.inj h
    refine g_callV_i (As := [.int a1]) (rest := [.int 0, .ref (ε.2.2.1 20 0)]) (ctn_DS_trick hX M a1 q hq) d_Law_trick_4 ca_DS_trick w_727 (gXw_h0 hX) rfl rfl rfl (Nat.le_of_ble_eq_true rfl) ⟨Nat.le_of_ble_eq_true rfl, Nat.le_of_ble_eq_true rfl⟩ ?_
    refine g_i2l d_Law_trick_7 ?_
    refine g_lastore d_Law_trick_8 hO hM1 ?_
    refine g_goto (tgt := 15) d_Law_trick_9 (by decide) ?_
    refine g_iconst (v := 0) d_Law_trick_15 (by decide) ?_
    exact g_iretL d_Law_trick_16 rfl (by decide) (by decide)
  | inl x =>
    by_cases c0 : x = 3
    · subst c0
      obtain rfl := Option.some.inj h
      refine g_callC (As := [.int a1]) (rest := [.int 0, .ref (ε.2.2.1 20 0)]) [] ⟨0, 9, 12, 28⟩ [] rfl (fun hl0 => ctx_DS_trick hl0 hX M a1 3 hq) d_Law_trick_4 ca_DS_trick w_727 (gXw_h0 hX) rfl rfl rfl (Nat.le_of_ble_eq_true rfl) ⟨Nat.le_of_ble_eq_true rfl, Nat.le_of_ble_eq_true rfl⟩ (Nat.le_refl _) (Nat.le_refl _) rfl (fun z hz => nomatch hz) (by decide) rfl (by decide) w_671 wc_3 (fun q => ?_)
      refine g_astore_n (L' := [(3, .ref q), (0, .ref (ε.2.2.1 18 0)), (1, .int a1), (2, .ref (ε.2.2.1 20 0))]) d_Law_trick_12 rfl (by decide) rfl ?_
      refine g_iconst (v := 1) d_Law_trick_13 (by decide) ?_
      exact g_iretL d_Law_trick_14 rfl (Nat.le_refl _) (Nat.le_refl _)
    exfalso
    revert h
    split
    · rename_i e9
      exact fun _ => c0 (Sum.inl.inj e9)
    · exact fun h => nomatch h
    · rename_i e9
      exact nomatch e9
theorem ctl_Law_trick {l : Launch} {ε : gEnv} (hl0 : l.stackTraces = false) (hX : gXw ε) (hO : gHas ε 20 0 (4, 1, [])) (M : gMem) (a1 : Int32) (r : Int32 × gMem) (h : f_Law_trick M a1 = some r) : gCtL l ε k_Law_trick [(0, 9, 12, 28)] 10 162 [.ref (ε.2.2.1 18 0), .int a1, .ref (ε.2.2.1 20 0)] M (some (.int r.1)) r.2 :=
  gCtL_of hl0 (by decide) (Nat.le_of_ble_eq_true rfl) rfl (t_Law_trick hX hO M a1 r h)
abbrev k_Law_bid : gMD := (⟨"DropSignalsLaw", "bid", "(LDropSignals;II[J)I"⟩, method_9_code, 5, some .int)
theorem w_737 : Cond.static ⟨"DropSignalsLaw", "bid", "(LDropSignals;II[J)I"⟩ ∈ gWs := gWs_in (i := 737) (by decide +kernel) rfl
set_option maxRecDepth 100000 in
theorem cw_Law_bid : Cond.codeWith k_Law_bid.1 k_Law_bid.2.1 k_Law_bid.2.2.1 k_Law_bid.2.2.2 [(0, 10, 13, 13), (0, 10, 17, 15)] ∈ gWs := gWs_in (i := 738) rfl rfl
theorem d_Law_bid_0 : decode method_9_code 0 = .ok (.aload_n 3, 1) := by decide +kernel
theorem d_Law_bid_1 : decode method_9_code 1 = .ok (.iconst 0, 1) := by decide +kernel
theorem d_Law_bid_2 : decode method_9_code 2 = .ok (.aload_n 0, 1) := by decide +kernel
theorem d_Law_bid_3 : decode method_9_code 3 = .ok (.iload_n 1, 1) := by decide +kernel
theorem d_Law_bid_4 : decode method_9_code 4 = .ok (.iload_n 2, 1) := by decide +kernel
theorem d_Law_bid_5 : decode method_9_code 5 = .ok (.invokevirtual 37, 3) := by decide +kernel
theorem d_Law_bid_8 : decode method_9_code 8 = .ok (.i2l, 1) := by decide +kernel
theorem d_Law_bid_9 : decode method_9_code 9 = .ok (.lastore, 1) := by decide +kernel
theorem d_Law_bid_10 : decode method_9_code 10 = .ok (.goto 11, 3) := by decide +kernel
theorem d_Law_bid_21 : decode method_9_code 21 = .ok (.iconst 0, 1) := by decide +kernel
theorem d_Law_bid_22 : decode method_9_code 22 = .ok (.ireturn, 1) := by decide +kernel
theorem w_739 : Cond.methodLink "DropSignalsLaw" 37 ⟨"DropSignals", "bid", "(II)I"⟩ ∈ gWs := gWs_in (i := 739) (by decide +kernel) rfl
theorem d_Law_bid_13 : decode method_9_code 13 = .ok (.astore 4, 2) := by decide +kernel
theorem d_Law_bid_15 : decode method_9_code 15 = .ok (.iconst 1, 1) := by decide +kernel
theorem d_Law_bid_16 : decode method_9_code 16 = .ok (.ireturn, 1) := by decide +kernel
theorem d_Law_bid_17 : decode method_9_code 17 = .ok (.astore 4, 2) := by decide +kernel
theorem d_Law_bid_19 : decode method_9_code 19 = .ok (.iconst 2, 1) := by decide +kernel
theorem d_Law_bid_20 : decode method_9_code 20 = .ok (.ireturn, 1) := by decide +kernel
noncomputable def f_Law_bid (M : gMem) (a1 : Int32) (a2 : Int32) : Option (Int32 × gMem) :=
  (f_DS_bid M a1 a2).bind fun q => match q with
    | .inl 1 => some (1, M)
    | .inl 2 => some (2, M)
    | .inl _ => none
    | .inr q => (gUO q.2 (Int32.toInt64 q.1)).bind fun M1 => some (0, M1)
theorem t_Law_bid {l : Launch} {ε : gEnv} (hX : gXw ε) (hO : gHas ε 20 0 (4, 1, [])) (M : gMem) (a1 : Int32) (a2 : Int32) (r : Int32 × gMem) (h : f_Law_bid M a1 a2 = some r) : gGo l ε k_Law_bid (gRX 9 158) (gFw ε [(0, 10, 13, 13), (0, 10, 17, 15)] 0 0 (some (.int r.1)) r.2) 0 [(0, .ref (ε.2.2.1 18 0)), (1, .int a1), (2, .int a2), (3, .ref (ε.2.2.1 20 0))] [] M := by
  unfold f_Law_bid at h
  refine g_aload_n d_Law_bid_0 rfl 3 rfl ?_
  refine g_iconst (v := 0) d_Law_bid_1 (by decide) ?_
  refine g_aload_n d_Law_bid_2 rfl 0 rfl ?_
  refine g_iload_n d_Law_bid_3 rfl 1 rfl ?_
  refine g_iload_n d_Law_bid_4 rfl 2 rfl ?_
  obtain ⟨q, hq, h⟩ := gOb h
  cases q with
  | inr q =>
    obtain ⟨M1, hM1, h⟩ := gOb h
    obtain rfl := Option.some.inj h
    refine g_callV_i (As := [.int a1, .int a2]) (rest := [.int 0, .ref (ε.2.2.1 20 0)]) (ctn_DS_bid hX M a1 a2 q hq) d_Law_bid_5 ca_DS_bid w_739 (gXw_h0 hX) rfl rfl rfl (Nat.le_of_ble_eq_true rfl) ⟨Nat.le_of_ble_eq_true rfl, Nat.le_of_ble_eq_true rfl⟩ ?_
    refine g_i2l d_Law_bid_8 ?_
    refine g_lastore d_Law_bid_9 hO hM1 ?_
    refine g_goto (tgt := 21) d_Law_bid_10 (by decide) ?_
    refine g_iconst (v := 0) d_Law_bid_21 (by decide) ?_
    exact g_iretL d_Law_bid_22 rfl (by decide) (by decide)
  | inl x =>
    by_cases c0 : x = 1
    · subst c0
      obtain rfl := Option.some.inj h
      refine g_callC (As := [.int a1, .int a2]) (rest := [.int 0, .ref (ε.2.2.1 20 0)]) [] ⟨0, 10, 13, 13⟩ [⟨0, 10, 17, 15⟩] rfl (fun hl0 => ctx_DS_bid hl0 hX M a1 a2 1 hq) d_Law_bid_5 ca_DS_bid w_739 (gXw_h0 hX) rfl rfl rfl (Nat.le_of_ble_eq_true rfl) ⟨Nat.le_of_ble_eq_true rfl, Nat.le_of_ble_eq_true rfl⟩ (Nat.le_refl _) (Nat.le_refl _) rfl (fun z hz => nomatch hz) (by decide) rfl (by decide) w_440 wc_1 (fun q => ?_)
      refine g_astore (L' := [(4, .ref q), (0, .ref (ε.2.2.1 18 0)), (1, .int a1), (2, .int a2), (3, .ref (ε.2.2.1 20 0))]) d_Law_bid_13 (by decide) rfl ?_
      refine g_iconst (v := 1) d_Law_bid_15 (by decide) ?_
      exact g_iretL d_Law_bid_16 rfl (Nat.le_refl _) (Nat.le_refl _)
    by_cases c1 : x = 2
    · subst c1
      obtain rfl := Option.some.inj h
      refine g_callC (As := [.int a1, .int a2]) (rest := [.int 0, .ref (ε.2.2.1 20 0)]) [⟨0, 10, 13, 13⟩] ⟨0, 10, 17, 15⟩ [] rfl (fun hl0 => ctx_DS_bid hl0 hX M a1 a2 2 hq) d_Law_bid_5 ca_DS_bid w_739 (gXw_h0 hX) rfl rfl rfl (Nat.le_of_ble_eq_true rfl) ⟨Nat.le_of_ble_eq_true rfl, Nat.le_of_ble_eq_true rfl⟩ (Nat.le_refl _) (Nat.le_refl _) rfl (List.forall_mem_cons.mpr ⟨⟨by decide, "java/lang/IllegalArgumentException", w_440, by decide, by decide⟩, fun _ h => nomatch h⟩) (by decide) rfl (by decide) w_441 wc_2 (fun q => ?_)
      refine g_astore (L' := [(4, .ref q), (0, .ref (ε.2.2.1 18 0)), (1, .int a1), (2, .int a2), (3, .ref (ε.2.2.1 20 0))]) d_Law_bid_17 (by decide) rfl ?_
      refine g_iconst (v := 2) d_Law_bid_19 (by decide) ?_
      exact g_iretL d_Law_bid_20 rfl (Nat.le_refl _) (Nat.le_refl _)
    exfalso
    revert h
    split
    · rename_i e9
      exact fun _ => c0 (Sum.inl.inj e9)
    · rename_i e9
      exact fun _ => c1 (Sum.inl.inj e9)
    · exact fun h => nomatch h
    · rename_i e9
      exact nomatch e9
theorem ctl_Law_bid {l : Launch} {ε : gEnv} (hl0 : l.stackTraces = false) (hX : gXw ε) (hO : gHas ε 20 0 (4, 1, [])) (M : gMem) (a1 : Int32) (a2 : Int32) (r : Int32 × gMem) (h : f_Law_bid M a1 a2 = some r) : gCtL l ε k_Law_bid [(0, 10, 13, 13), (0, 10, 17, 15)] 9 158 [.ref (ε.2.2.1 18 0), .int a1, .int a2, .ref (ε.2.2.1 20 0)] M (some (.int r.1)) r.2 :=
  gCtL_of hl0 (by decide) (Nat.le_of_ble_eq_true rfl) rfl (t_Law_bid hX hO M a1 a2 r h)
abbrev k_Law_pass : gMD := (⟨"DropSignalsLaw", "pass", "(LDropSignals;[J)I"⟩, method_10_code, 3, some .int)
theorem w_749 : Cond.static ⟨"DropSignalsLaw", "pass", "(LDropSignals;[J)I"⟩ ∈ gWs := gWs_in (i := 749) (by decide +kernel) rfl
set_option maxRecDepth 100000 in
theorem cw_Law_pass : Cond.codeWith k_Law_pass.1 k_Law_pass.2.1 k_Law_pass.2.2.1 k_Law_pass.2.2.2 [(0, 8, 11, 15)] ∈ gWs := gWs_in (i := 750) rfl rfl
theorem d_Law_pass_0 : decode method_10_code 0 = .ok (.aload_n 1, 1) := by decide +kernel
theorem d_Law_pass_1 : decode method_10_code 1 = .ok (.iconst 0, 1) := by decide +kernel
theorem d_Law_pass_2 : decode method_10_code 2 = .ok (.aload_n 0, 1) := by decide +kernel
theorem d_Law_pass_3 : decode method_10_code 3 = .ok (.invokevirtual 40, 3) := by decide +kernel
theorem d_Law_pass_6 : decode method_10_code 6 = .ok (.i2l, 1) := by decide +kernel
theorem d_Law_pass_7 : decode method_10_code 7 = .ok (.lastore, 1) := by decide +kernel
theorem d_Law_pass_8 : decode method_10_code 8 = .ok (.goto 6, 3) := by decide +kernel
theorem d_Law_pass_14 : decode method_10_code 14 = .ok (.iconst 0, 1) := by decide +kernel
theorem d_Law_pass_15 : decode method_10_code 15 = .ok (.ireturn, 1) := by decide +kernel
theorem w_751 : Cond.methodLink "DropSignalsLaw" 40 ⟨"DropSignals", "pass", "()I"⟩ ∈ gWs := gWs_in (i := 751) (by decide +kernel) rfl
theorem d_Law_pass_11 : decode method_10_code 11 = .ok (.astore_n 2, 1) := by decide +kernel
theorem d_Law_pass_12 : decode method_10_code 12 = .ok (.iconst 1, 1) := by decide +kernel
theorem d_Law_pass_13 : decode method_10_code 13 = .ok (.ireturn, 1) := by decide +kernel
noncomputable def f_Law_pass (M : gMem) : Option (Int32 × gMem) :=
  (f_DS_pass M).bind fun q => match q with
    | .inl 2 => some (1, M)
    | .inl _ => none
    | .inr q => (gUO q.2 (Int32.toInt64 q.1)).bind fun M1 => some (0, M1)
theorem t_Law_pass {l : Launch} {ε : gEnv} (hX : gXw ε) (hO : gHas ε 20 0 (4, 1, [])) (M : gMem) (r : Int32 × gMem) (h : f_Law_pass M = some r) : gGo l ε k_Law_pass (gRX 9 156) (gFw ε [(0, 8, 11, 15)] 0 0 (some (.int r.1)) r.2) 0 [(0, .ref (ε.2.2.1 18 0)), (1, .ref (ε.2.2.1 20 0))] [] M := by
  unfold f_Law_pass at h
  refine g_aload_n d_Law_pass_0 rfl 1 rfl ?_
  refine g_iconst (v := 0) d_Law_pass_1 (by decide) ?_
  refine g_aload_n d_Law_pass_2 rfl 0 rfl ?_
  obtain ⟨q, hq, h⟩ := gOb h
  cases q with
  | inr q =>
    obtain ⟨M1, hM1, h⟩ := gOb h
    obtain rfl := Option.some.inj h
    refine g_callV_i (As := []) (rest := [.int 0, .ref (ε.2.2.1 20 0)]) (ctn_DS_pass hX M q hq) d_Law_pass_3 ca_DS_pass w_751 (gXw_h0 hX) rfl rfl rfl (Nat.le_of_ble_eq_true rfl) ⟨Nat.le_of_ble_eq_true rfl, Nat.le_of_ble_eq_true rfl⟩ ?_
    refine g_i2l d_Law_pass_6 ?_
    refine g_lastore d_Law_pass_7 hO hM1 ?_
    refine g_goto (tgt := 14) d_Law_pass_8 (by decide) ?_
    refine g_iconst (v := 0) d_Law_pass_14 (by decide) ?_
    exact g_iretL d_Law_pass_15 rfl (by decide) (by decide)
  | inl x =>
    by_cases c0 : x = 2
    · subst c0
      obtain rfl := Option.some.inj h
      refine g_callC (As := []) (rest := [.int 0, .ref (ε.2.2.1 20 0)]) [] ⟨0, 8, 11, 15⟩ [] rfl (fun hl0 => ctx_DS_pass hl0 hX M 2 hq) d_Law_pass_3 ca_DS_pass w_751 (gXw_h0 hX) rfl rfl rfl (Nat.le_of_ble_eq_true rfl) ⟨Nat.le_of_ble_eq_true rfl, Nat.le_of_ble_eq_true rfl⟩ (Nat.le_refl _) (Nat.le_refl _) rfl (fun z hz => nomatch hz) (by decide) rfl (by decide) w_441 wc_2 (fun q => ?_)
      refine g_astore_n (L' := [(2, .ref q), (0, .ref (ε.2.2.1 18 0)), (1, .ref (ε.2.2.1 20 0))]) d_Law_pass_11 rfl (by decide) rfl ?_
      refine g_iconst (v := 1) d_Law_pass_12 (by decide) ?_
      exact g_iretL d_Law_pass_13 rfl (Nat.le_refl _) (Nat.le_refl _)
    exfalso
    revert h
    split
    · rename_i e9
      exact fun _ => c0 (Sum.inl.inj e9)
    · exact fun h => nomatch h
    · rename_i e9
      exact nomatch e9
theorem ctl_Law_pass {l : Launch} {ε : gEnv} (hl0 : l.stackTraces = false) (hX : gXw ε) (hO : gHas ε 20 0 (4, 1, [])) (M : gMem) (r : Int32 × gMem) (h : f_Law_pass M = some r) : gCtL l ε k_Law_pass [(0, 8, 11, 15)] 9 156 [.ref (ε.2.2.1 18 0), .ref (ε.2.2.1 20 0)] M (some (.int r.1)) r.2 :=
  gCtL_of hl0 (by decide) (Nat.le_of_ble_eq_true rfl) rfl (t_Law_pass hX hO M r h)
abbrev k_Law_play : gMD := (⟨"DropSignalsLaw", "play", "(LDropSignals;I[J)I"⟩, method_11_code, 4, some .int)
theorem w_758 : Cond.static ⟨"DropSignalsLaw", "play", "(LDropSignals;I[J)I"⟩ ∈ gWs := gWs_in (i := 758) (by decide +kernel) rfl
set_option maxRecDepth 100000 in
theorem cw_Law_play : Cond.codeWith k_Law_play.1 k_Law_play.2.1 k_Law_play.2.2.1 k_Law_play.2.2.2 [(0, 9, 12, 28), (0, 9, 15, 15)] ∈ gWs := gWs_in (i := 759) rfl rfl
theorem d_Law_play_0 : decode method_11_code 0 = .ok (.aload_n 2, 1) := by decide +kernel
theorem d_Law_play_1 : decode method_11_code 1 = .ok (.iconst 0, 1) := by decide +kernel
theorem d_Law_play_2 : decode method_11_code 2 = .ok (.aload_n 0, 1) := by decide +kernel
theorem d_Law_play_3 : decode method_11_code 3 = .ok (.iload_n 1, 1) := by decide +kernel
theorem d_Law_play_4 : decode method_11_code 4 = .ok (.invokevirtual 43, 3) := by decide +kernel
theorem d_Law_play_7 : decode method_11_code 7 = .ok (.i2l, 1) := by decide +kernel
theorem d_Law_play_8 : decode method_11_code 8 = .ok (.lastore, 1) := by decide +kernel
theorem d_Law_play_9 : decode method_11_code 9 = .ok (.goto 9, 3) := by decide +kernel
theorem d_Law_play_18 : decode method_11_code 18 = .ok (.iconst 0, 1) := by decide +kernel
theorem d_Law_play_19 : decode method_11_code 19 = .ok (.ireturn, 1) := by decide +kernel
theorem w_760 : Cond.methodLink "DropSignalsLaw" 43 ⟨"DropSignals", "play", "(I)I"⟩ ∈ gWs := gWs_in (i := 760) (by decide +kernel) rfl
theorem d_Law_play_12 : decode method_11_code 12 = .ok (.astore_n 3, 1) := by decide +kernel
theorem d_Law_play_13 : decode method_11_code 13 = .ok (.iconst 1, 1) := by decide +kernel
theorem d_Law_play_14 : decode method_11_code 14 = .ok (.ireturn, 1) := by decide +kernel
theorem d_Law_play_15 : decode method_11_code 15 = .ok (.astore_n 3, 1) := by decide +kernel
theorem d_Law_play_16 : decode method_11_code 16 = .ok (.iconst 2, 1) := by decide +kernel
theorem d_Law_play_17 : decode method_11_code 17 = .ok (.ireturn, 1) := by decide +kernel
noncomputable def f_Law_play (M : gMem) (a1 : Int32) : Option (Int32 × gMem) :=
  (f_DS_play M a1).bind fun q => match q with
    | .inl 3 => some (1, M)
    | .inl 2 => some (2, M)
    | .inl _ => none
    | .inr q => (gUO q.2 (Int32.toInt64 q.1)).bind fun M1 => some (0, M1)
theorem t_Law_play {l : Launch} {ε : gEnv} (hX : gXw ε) (hO : gHas ε 20 0 (4, 1, [])) (M : gMem) (a1 : Int32) (r : Int32 × gMem) (h : f_Law_play M a1 = some r) : gGo l ε k_Law_play (gRX 10 163) (gFw ε [(0, 9, 12, 28), (0, 9, 15, 15)] 0 0 (some (.int r.1)) r.2) 0 [(0, .ref (ε.2.2.1 18 0)), (1, .int a1), (2, .ref (ε.2.2.1 20 0))] [] M := by
  unfold f_Law_play at h
  refine g_aload_n d_Law_play_0 rfl 2 rfl ?_
  refine g_iconst (v := 0) d_Law_play_1 (by decide) ?_
  refine g_aload_n d_Law_play_2 rfl 0 rfl ?_
  refine g_iload_n d_Law_play_3 rfl 1 rfl ?_
  obtain ⟨q, hq, h⟩ := gOb h
  cases q with
  | inr q =>
    obtain ⟨M1, hM1, h⟩ := gOb h
    obtain rfl := Option.some.inj h
    refine g_callV_i (As := [.int a1]) (rest := [.int 0, .ref (ε.2.2.1 20 0)]) (ctn_DS_play hX M a1 q hq) d_Law_play_4 ca_DS_play w_760 (gXw_h0 hX) rfl rfl rfl (Nat.le_of_ble_eq_true rfl) ⟨Nat.le_of_ble_eq_true rfl, Nat.le_of_ble_eq_true rfl⟩ ?_
    refine g_i2l d_Law_play_7 ?_
    refine g_lastore d_Law_play_8 hO hM1 ?_
    refine g_goto (tgt := 18) d_Law_play_9 (by decide) ?_
    refine g_iconst (v := 0) d_Law_play_18 (by decide) ?_
    exact g_iretL d_Law_play_19 rfl (by decide) (by decide)
  | inl x =>
    by_cases c0 : x = 3
    · subst c0
      obtain rfl := Option.some.inj h
      refine g_callC (As := [.int a1]) (rest := [.int 0, .ref (ε.2.2.1 20 0)]) [] ⟨0, 9, 12, 28⟩ [⟨0, 9, 15, 15⟩] rfl (fun hl0 => ctx_DS_play hl0 hX M a1 3 hq) d_Law_play_4 ca_DS_play w_760 (gXw_h0 hX) rfl rfl rfl (Nat.le_of_ble_eq_true rfl) ⟨Nat.le_of_ble_eq_true rfl, Nat.le_of_ble_eq_true rfl⟩ (Nat.le_refl _) (Nat.le_refl _) rfl (fun z hz => nomatch hz) (by decide) rfl (by decide) w_671 wc_3 (fun q => ?_)
      refine g_astore_n (L' := [(3, .ref q), (0, .ref (ε.2.2.1 18 0)), (1, .int a1), (2, .ref (ε.2.2.1 20 0))]) d_Law_play_12 rfl (by decide) rfl ?_
      refine g_iconst (v := 1) d_Law_play_13 (by decide) ?_
      exact g_iretL d_Law_play_14 rfl (Nat.le_refl _) (Nat.le_refl _)
    by_cases c1 : x = 2
    · subst c1
      obtain rfl := Option.some.inj h
      refine g_callC (As := [.int a1]) (rest := [.int 0, .ref (ε.2.2.1 20 0)]) [⟨0, 9, 12, 28⟩] ⟨0, 9, 15, 15⟩ [] rfl (fun hl0 => ctx_DS_play hl0 hX M a1 2 hq) d_Law_play_4 ca_DS_play w_760 (gXw_h0 hX) rfl rfl rfl (Nat.le_of_ble_eq_true rfl) ⟨Nat.le_of_ble_eq_true rfl, Nat.le_of_ble_eq_true rfl⟩ (Nat.le_refl _) (Nat.le_refl _) rfl (List.forall_mem_cons.mpr ⟨⟨by decide, "java/lang/IndexOutOfBoundsException", w_671, by decide, by decide⟩, fun _ h => nomatch h⟩) (by decide) rfl (by decide) w_441 wc_2 (fun q => ?_)
      refine g_astore_n (L' := [(3, .ref q), (0, .ref (ε.2.2.1 18 0)), (1, .int a1), (2, .ref (ε.2.2.1 20 0))]) d_Law_play_15 rfl (by decide) rfl ?_
      refine g_iconst (v := 2) d_Law_play_16 (by decide) ?_
      exact g_iretL d_Law_play_17 rfl (Nat.le_refl _) (Nat.le_refl _)
    exfalso
    revert h
    split
    · rename_i e9
      exact fun _ => c0 (Sum.inl.inj e9)
    · rename_i e9
      exact fun _ => c1 (Sum.inl.inj e9)
    · exact fun h => nomatch h
    · rename_i e9
      exact nomatch e9
theorem ctl_Law_play {l : Launch} {ε : gEnv} (hl0 : l.stackTraces = false) (hX : gXw ε) (hO : gHas ε 20 0 (4, 1, [])) (M : gMem) (a1 : Int32) (r : Int32 × gMem) (h : f_Law_play M a1 = some r) : gCtL l ε k_Law_play [(0, 9, 12, 28), (0, 9, 15, 15)] 10 163 [.ref (ε.2.2.1 18 0), .int a1, .ref (ε.2.2.1 20 0)] M (some (.int r.1)) r.2 :=
  gCtL_of hl0 (by decide) (Nat.le_of_ble_eq_true rfl) rfl (t_Law_play hX hO M a1 r h)
abbrev k_Law_undo : gMD := (⟨"DropSignalsLaw", "undo", "(LDropSignals;[J)I"⟩, method_12_code, 3, some .int)
theorem w_772 : Cond.static ⟨"DropSignalsLaw", "undo", "(LDropSignals;[J)I"⟩ ∈ gWs := gWs_in (i := 772) (by decide +kernel) rfl
set_option maxRecDepth 100000 in
theorem cw_Law_undo : Cond.codeWith k_Law_undo.1 k_Law_undo.2.1 k_Law_undo.2.2.1 k_Law_undo.2.2.2 [(0, 8, 11, 15)] ∈ gWs := gWs_in (i := 773) rfl rfl
theorem d_Law_undo_0 : decode method_12_code 0 = .ok (.aload_n 1, 1) := by decide +kernel
theorem d_Law_undo_1 : decode method_12_code 1 = .ok (.iconst 0, 1) := by decide +kernel
theorem d_Law_undo_2 : decode method_12_code 2 = .ok (.aload_n 0, 1) := by decide +kernel
theorem d_Law_undo_3 : decode method_12_code 3 = .ok (.invokevirtual 46, 3) := by decide +kernel
theorem d_Law_undo_6 : decode method_12_code 6 = .ok (.i2l, 1) := by decide +kernel
theorem d_Law_undo_7 : decode method_12_code 7 = .ok (.lastore, 1) := by decide +kernel
theorem d_Law_undo_8 : decode method_12_code 8 = .ok (.goto 6, 3) := by decide +kernel
theorem d_Law_undo_14 : decode method_12_code 14 = .ok (.iconst 0, 1) := by decide +kernel
theorem d_Law_undo_15 : decode method_12_code 15 = .ok (.ireturn, 1) := by decide +kernel
theorem w_774 : Cond.methodLink "DropSignalsLaw" 46 ⟨"DropSignals", "undo", "()I"⟩ ∈ gWs := gWs_in (i := 774) (by decide +kernel) rfl
theorem d_Law_undo_11 : decode method_12_code 11 = .ok (.astore_n 2, 1) := by decide +kernel
theorem d_Law_undo_12 : decode method_12_code 12 = .ok (.iconst 1, 1) := by decide +kernel
theorem d_Law_undo_13 : decode method_12_code 13 = .ok (.ireturn, 1) := by decide +kernel
noncomputable def f_Law_undo (M : gMem) : Option (Int32 × gMem) :=
  (f_DS_undo M).bind fun q => match q with
    | .inl 2 => some (1, M)
    | .inl _ => none
    | .inr q => (gUO q.2 (Int32.toInt64 q.1)).bind fun M1 => some (0, M1)
theorem t_Law_undo {l : Launch} {ε : gEnv} (hX : gXw ε) (hO : gHas ε 20 0 (4, 1, [])) (M : gMem) (r : Int32 × gMem) (h : f_Law_undo M = some r) : gGo l ε k_Law_undo (gRX 9 140) (gFw ε [(0, 8, 11, 15)] 0 0 (some (.int r.1)) r.2) 0 [(0, .ref (ε.2.2.1 18 0)), (1, .ref (ε.2.2.1 20 0))] [] M := by
  unfold f_Law_undo at h
  refine g_aload_n d_Law_undo_0 rfl 1 rfl ?_
  refine g_iconst (v := 0) d_Law_undo_1 (by decide) ?_
  refine g_aload_n d_Law_undo_2 rfl 0 rfl ?_
  obtain ⟨q, hq, h⟩ := gOb h
  cases q with
  | inr q =>
    obtain ⟨M1, hM1, h⟩ := gOb h
    obtain rfl := Option.some.inj h
    refine g_callV_i (As := []) (rest := [.int 0, .ref (ε.2.2.1 20 0)]) (ctn_DS_undo hX M q hq) d_Law_undo_3 ca_DS_undo w_774 (gXw_h0 hX) rfl rfl rfl (Nat.le_of_ble_eq_true rfl) ⟨Nat.le_of_ble_eq_true rfl, Nat.le_of_ble_eq_true rfl⟩ ?_
    refine g_i2l d_Law_undo_6 ?_
    refine g_lastore d_Law_undo_7 hO hM1 ?_
    refine g_goto (tgt := 14) d_Law_undo_8 (by decide) ?_
    refine g_iconst (v := 0) d_Law_undo_14 (by decide) ?_
    exact g_iretL d_Law_undo_15 rfl (by decide) (by decide)
  | inl x =>
    by_cases c0 : x = 2
    · subst c0
      obtain rfl := Option.some.inj h
      refine g_callC (As := []) (rest := [.int 0, .ref (ε.2.2.1 20 0)]) [] ⟨0, 8, 11, 15⟩ [] rfl (fun hl0 => ctx_DS_undo hl0 hX M 2 hq) d_Law_undo_3 ca_DS_undo w_774 (gXw_h0 hX) rfl rfl rfl (Nat.le_of_ble_eq_true rfl) ⟨Nat.le_of_ble_eq_true rfl, Nat.le_of_ble_eq_true rfl⟩ (Nat.le_refl _) (Nat.le_refl _) rfl (fun z hz => nomatch hz) (by decide) rfl (by decide) w_441 wc_2 (fun q => ?_)
      refine g_astore_n (L' := [(2, .ref q), (0, .ref (ε.2.2.1 18 0)), (1, .ref (ε.2.2.1 20 0))]) d_Law_undo_11 rfl (by decide) rfl ?_
      refine g_iconst (v := 1) d_Law_undo_12 (by decide) ?_
      exact g_iretL d_Law_undo_13 rfl (Nat.le_refl _) (Nat.le_refl _)
    exfalso
    revert h
    split
    · rename_i e9
      exact fun _ => c0 (Sum.inl.inj e9)
    · exact fun h => nomatch h
    · rename_i e9
      exact nomatch e9
theorem ctl_Law_undo {l : Launch} {ε : gEnv} (hl0 : l.stackTraces = false) (hX : gXw ε) (hO : gHas ε 20 0 (4, 1, [])) (M : gMem) (r : Int32 × gMem) (h : f_Law_undo M = some r) : gCtL l ε k_Law_undo [(0, 8, 11, 15)] 9 140 [.ref (ε.2.2.1 18 0), .ref (ε.2.2.1 20 0)] M (some (.int r.1)) r.2 :=
  gCtL_of hl0 (by decide) (Nat.le_of_ble_eq_true rfl) rfl (t_Law_undo hX hO M r h)
abbrev k_Law_legal : gMD := (⟨"DropSignalsLaw", "legal", "(LDropSignals;I[J)I"⟩, method_13_code, 4, some .int)
theorem w_788 : Cond.static ⟨"DropSignalsLaw", "legal", "(LDropSignals;I[J)I"⟩ ∈ gWs := gWs_in (i := 788) (by decide +kernel) rfl
set_option maxRecDepth 100000 in
theorem cw_Law_legal : Cond.codeWith k_Law_legal.1 k_Law_legal.2.1 k_Law_legal.2.2.1 k_Law_legal.2.2.2 [(0, 9, 12, 28)] ∈ gWs := gWs_in (i := 789) rfl rfl
theorem d_Law_legal_0 : decode method_13_code 0 = .ok (.aload_n 2, 1) := by decide +kernel
theorem d_Law_legal_1 : decode method_13_code 1 = .ok (.iconst 0, 1) := by decide +kernel
theorem d_Law_legal_2 : decode method_13_code 2 = .ok (.aload_n 0, 1) := by decide +kernel
theorem d_Law_legal_3 : decode method_13_code 3 = .ok (.iload_n 1, 1) := by decide +kernel
theorem d_Law_legal_4 : decode method_13_code 4 = .ok (.invokevirtual 49, 3) := by decide +kernel
theorem d_Law_legal_7 : decode method_13_code 7 = .ok (.i2l, 1) := by decide +kernel
theorem d_Law_legal_8 : decode method_13_code 8 = .ok (.lastore, 1) := by decide +kernel
theorem d_Law_legal_9 : decode method_13_code 9 = .ok (.goto 6, 3) := by decide +kernel
theorem d_Law_legal_15 : decode method_13_code 15 = .ok (.iconst 0, 1) := by decide +kernel
theorem d_Law_legal_16 : decode method_13_code 16 = .ok (.ireturn, 1) := by decide +kernel
theorem w_790 : Cond.methodLink "DropSignalsLaw" 49 ⟨"DropSignals", "legal", "(I)I"⟩ ∈ gWs := gWs_in (i := 790) (by decide +kernel) rfl
theorem d_Law_legal_12 : decode method_13_code 12 = .ok (.astore_n 3, 1) := by decide +kernel
theorem d_Law_legal_13 : decode method_13_code 13 = .ok (.iconst 1, 1) := by decide +kernel
theorem d_Law_legal_14 : decode method_13_code 14 = .ok (.ireturn, 1) := by decide +kernel
noncomputable def f_Law_legal (M : gMem) (a1 : Int32) : Option (Int32 × gMem) :=
  (f_DS_legal M a1).bind fun q => match q with
    | .inl 3 => some (1, M)
    | .inl _ => none
    | .inr q => (gUO M (Int32.toInt64 q)).bind fun M1 => some (0, M1)
theorem t_Law_legal {l : Launch} {ε : gEnv} (hX : gXw ε) (hO : gHas ε 20 0 (4, 1, [])) (M : gMem) (a1 : Int32) (r : Int32 × gMem) (h : f_Law_legal M a1 = some r) : gGo l ε k_Law_legal (gRX 10 162) (gFw ε [(0, 9, 12, 28)] 0 0 (some (.int r.1)) r.2) 0 [(0, .ref (ε.2.2.1 18 0)), (1, .int a1), (2, .ref (ε.2.2.1 20 0))] [] M := by
  unfold f_Law_legal at h
  refine g_aload_n d_Law_legal_0 rfl 2 rfl ?_
  refine g_iconst (v := 0) d_Law_legal_1 (by decide) ?_
  refine g_aload_n d_Law_legal_2 rfl 0 rfl ?_
  refine g_iload_n d_Law_legal_3 rfl 1 rfl ?_
  obtain ⟨q, hq, h⟩ := gOb h
  cases q with
  | inr q =>
    obtain ⟨M1, hM1, h⟩ := gOb h
    obtain rfl := Option.some.inj h
    refine g_callV_i (As := [.int a1]) (rest := [.int 0, .ref (ε.2.2.1 20 0)]) (ctn_DS_legal hX M a1 q hq) d_Law_legal_4 ca_DS_legal w_790 (gXw_h0 hX) rfl rfl rfl (Nat.le_of_ble_eq_true rfl) ⟨Nat.le_of_ble_eq_true rfl, Nat.le_of_ble_eq_true rfl⟩ ?_
    refine g_i2l d_Law_legal_7 ?_
    refine g_lastore d_Law_legal_8 hO hM1 ?_
    refine g_goto (tgt := 15) d_Law_legal_9 (by decide) ?_
    refine g_iconst (v := 0) d_Law_legal_15 (by decide) ?_
    exact g_iretL d_Law_legal_16 rfl (by decide) (by decide)
  | inl x =>
    by_cases c0 : x = 3
    · subst c0
      obtain rfl := Option.some.inj h
      refine g_callC (As := [.int a1]) (rest := [.int 0, .ref (ε.2.2.1 20 0)]) [] ⟨0, 9, 12, 28⟩ [] rfl (fun hl0 => ctx_DS_legal hl0 hX M a1 3 hq) d_Law_legal_4 ca_DS_legal w_790 (gXw_h0 hX) rfl rfl rfl (Nat.le_of_ble_eq_true rfl) ⟨Nat.le_of_ble_eq_true rfl, Nat.le_of_ble_eq_true rfl⟩ (Nat.le_refl _) (Nat.le_refl _) rfl (fun z hz => nomatch hz) (by decide) rfl (by decide) w_671 wc_3 (fun q => ?_)
      refine g_astore_n (L' := [(3, .ref q), (0, .ref (ε.2.2.1 18 0)), (1, .int a1), (2, .ref (ε.2.2.1 20 0))]) d_Law_legal_12 rfl (by decide) rfl ?_
      refine g_iconst (v := 1) d_Law_legal_13 (by decide) ?_
      exact g_iretL d_Law_legal_14 rfl (Nat.le_refl _) (Nat.le_refl _)
    exfalso
    revert h
    split
    · rename_i e9
      exact fun _ => c0 (Sum.inl.inj e9)
    · exact fun h => nomatch h
    · rename_i e9
      exact nomatch e9
theorem ctl_Law_legal {l : Launch} {ε : gEnv} (hl0 : l.stackTraces = false) (hX : gXw ε) (hO : gHas ε 20 0 (4, 1, [])) (M : gMem) (a1 : Int32) (r : Int32 × gMem) (h : f_Law_legal M a1 = some r) : gCtL l ε k_Law_legal [(0, 9, 12, 28)] 10 162 [.ref (ε.2.2.1 18 0), .int a1, .ref (ε.2.2.1 20 0)] M (some (.int r.1)) r.2 :=
  gCtL_of hl0 (by decide) (Nat.le_of_ble_eq_true rfl) rfl (t_Law_legal hX hO M a1 r h)
abbrev k_Law_mayHave : gMD := (⟨"DropSignalsLaw", "mayHave", "(LDropSignals;IIIZ[J)I"⟩, method_14_code, 7, some .int)
theorem w_799 : Cond.static ⟨"DropSignalsLaw", "mayHave", "(LDropSignals;IIIZ[J)I"⟩ ∈ gWs := gWs_in (i := 799) (by decide +kernel) rfl
set_option maxRecDepth 100000 in
theorem cw_Law_mayHave : Cond.codeWith k_Law_mayHave.1 k_Law_mayHave.2.1 k_Law_mayHave.2.2.1 k_Law_mayHave.2.2.2 [(0, 14, 17, 28), (0, 14, 21, 13), (0, 14, 25, 15)] ∈ gWs := gWs_in (i := 800) rfl rfl
theorem d_Law_mayHave_0 : decode method_14_code 0 = .ok (.aload 5, 2) := by decide +kernel
theorem d_Law_mayHave_2 : decode method_14_code 2 = .ok (.iconst 0, 1) := by decide +kernel
theorem d_Law_mayHave_3 : decode method_14_code 3 = .ok (.aload_n 0, 1) := by decide +kernel
theorem d_Law_mayHave_4 : decode method_14_code 4 = .ok (.iload_n 1, 1) := by decide +kernel
theorem d_Law_mayHave_5 : decode method_14_code 5 = .ok (.iload_n 2, 1) := by decide +kernel
theorem d_Law_mayHave_6 : decode method_14_code 6 = .ok (.iload_n 3, 1) := by decide +kernel
theorem d_Law_mayHave_7 : decode method_14_code 7 = .ok (.iload 4, 2) := by decide +kernel
theorem d_Law_mayHave_9 : decode method_14_code 9 = .ok (.invokevirtual 52, 3) := by decide +kernel
theorem d_Law_mayHave_12 : decode method_14_code 12 = .ok (.i2l, 1) := by decide +kernel
theorem d_Law_mayHave_13 : decode method_14_code 13 = .ok (.lastore, 1) := by decide +kernel
theorem d_Law_mayHave_14 : decode method_14_code 14 = .ok (.goto 15, 3) := by decide +kernel
theorem d_Law_mayHave_29 : decode method_14_code 29 = .ok (.iconst 0, 1) := by decide +kernel
theorem d_Law_mayHave_30 : decode method_14_code 30 = .ok (.ireturn, 1) := by decide +kernel
theorem w_801 : Cond.methodLink "DropSignalsLaw" 52 ⟨"DropSignals", "mayHave", "(IIIZ)I"⟩ ∈ gWs := gWs_in (i := 801) (by decide +kernel) rfl
theorem d_Law_mayHave_17 : decode method_14_code 17 = .ok (.astore 6, 2) := by decide +kernel
theorem d_Law_mayHave_19 : decode method_14_code 19 = .ok (.iconst 1, 1) := by decide +kernel
theorem d_Law_mayHave_20 : decode method_14_code 20 = .ok (.ireturn, 1) := by decide +kernel
theorem d_Law_mayHave_21 : decode method_14_code 21 = .ok (.astore 6, 2) := by decide +kernel
theorem d_Law_mayHave_23 : decode method_14_code 23 = .ok (.iconst 2, 1) := by decide +kernel
theorem d_Law_mayHave_24 : decode method_14_code 24 = .ok (.ireturn, 1) := by decide +kernel
theorem d_Law_mayHave_25 : decode method_14_code 25 = .ok (.astore 6, 2) := by decide +kernel
theorem d_Law_mayHave_27 : decode method_14_code 27 = .ok (.iconst 3, 1) := by decide +kernel
theorem d_Law_mayHave_28 : decode method_14_code 28 = .ok (.ireturn, 1) := by decide +kernel
noncomputable def f_Law_mayHave (M : gMem) (a1 : Int32) (a2 : Int32) (a3 : Int32) (a4 : Int32) : Option (Int32 × gMem) :=
  (f_DS_mayHave M a1 a2 a3 a4).bind fun q => match q with
    | .inl 3 => some (1, M)
    | .inl 1 => some (2, M)
    | .inl 2 => some (3, M)
    | .inl _ => none
    | .inr q => (gUO M (Int32.toInt64 q)).bind fun M1 => some (0, M1)
theorem t_Law_mayHave {l : Launch} {ε : gEnv} (hX : gXw ε) (hO : gHas ε 20 0 (4, 1, [])) (M : gMem) (a1 : Int32) (a2 : Int32) (a3 : Int32) (a4 : Int32) (r : Int32 × gMem) (h : f_Law_mayHave M a1 a2 a3 a4 = some r) : gGo l ε k_Law_mayHave (gRX 10 165) (gFw ε [(0, 14, 17, 28), (0, 14, 21, 13), (0, 14, 25, 15)] 0 0 (some (.int r.1)) r.2) 0 [(0, .ref (ε.2.2.1 18 0)), (1, .int a1), (2, .int a2), (3, .int a3), (4, .int a4), (5, .ref (ε.2.2.1 20 0))] [] M := by
  unfold f_Law_mayHave at h
  refine g_aload d_Law_mayHave_0 5 rfl ?_
  refine g_iconst (v := 0) d_Law_mayHave_2 (by decide) ?_
  refine g_aload_n d_Law_mayHave_3 rfl 0 rfl ?_
  refine g_iload_n d_Law_mayHave_4 rfl 1 rfl ?_
  refine g_iload_n d_Law_mayHave_5 rfl 2 rfl ?_
  refine g_iload_n d_Law_mayHave_6 rfl 3 rfl ?_
  refine g_iload d_Law_mayHave_7 4 rfl ?_
  obtain ⟨q, hq, h⟩ := gOb h
  cases q with
  | inr q =>
    obtain ⟨M1, hM1, h⟩ := gOb h
    obtain rfl := Option.some.inj h
    refine g_callV_i (As := [.int a1, .int a2, .int a3, .int a4]) (rest := [.int 0, .ref (ε.2.2.1 20 0)]) (ctn_DS_mayHave hX M a1 a2 a3 a4 q hq) d_Law_mayHave_9 ca_DS_mayHave w_801 (gXw_h0 hX) rfl rfl rfl (Nat.le_of_ble_eq_true rfl) ⟨Nat.le_of_ble_eq_true rfl, Nat.le_of_ble_eq_true rfl⟩ ?_
    refine g_i2l d_Law_mayHave_12 ?_
    refine g_lastore d_Law_mayHave_13 hO hM1 ?_
    refine g_goto (tgt := 29) d_Law_mayHave_14 (by decide) ?_
    refine g_iconst (v := 0) d_Law_mayHave_29 (by decide) ?_
    exact g_iretL d_Law_mayHave_30 rfl (by decide) (by decide)
  | inl x =>
    by_cases c0 : x = 3
    · subst c0
      obtain rfl := Option.some.inj h
      refine g_callC (As := [.int a1, .int a2, .int a3, .int a4]) (rest := [.int 0, .ref (ε.2.2.1 20 0)]) [] ⟨0, 14, 17, 28⟩ [⟨0, 14, 21, 13⟩, ⟨0, 14, 25, 15⟩] rfl (fun hl0 => ctx_DS_mayHave hl0 hX M a1 a2 a3 a4 3 hq) d_Law_mayHave_9 ca_DS_mayHave w_801 (gXw_h0 hX) rfl rfl rfl (Nat.le_of_ble_eq_true rfl) ⟨Nat.le_of_ble_eq_true rfl, Nat.le_of_ble_eq_true rfl⟩ (Nat.le_refl _) (Nat.le_refl _) rfl (fun z hz => nomatch hz) (by decide) rfl (by decide) w_671 wc_3 (fun q => ?_)
      refine g_astore (L' := [(6, .ref q), (0, .ref (ε.2.2.1 18 0)), (1, .int a1), (2, .int a2), (3, .int a3), (4, .int a4), (5, .ref (ε.2.2.1 20 0))]) d_Law_mayHave_17 (by decide) rfl ?_
      refine g_iconst (v := 1) d_Law_mayHave_19 (by decide) ?_
      exact g_iretL d_Law_mayHave_20 rfl (Nat.le_refl _) (Nat.le_refl _)
    by_cases c1 : x = 1
    · subst c1
      obtain rfl := Option.some.inj h
      refine g_callC (As := [.int a1, .int a2, .int a3, .int a4]) (rest := [.int 0, .ref (ε.2.2.1 20 0)]) [⟨0, 14, 17, 28⟩] ⟨0, 14, 21, 13⟩ [⟨0, 14, 25, 15⟩] rfl (fun hl0 => ctx_DS_mayHave hl0 hX M a1 a2 a3 a4 1 hq) d_Law_mayHave_9 ca_DS_mayHave w_801 (gXw_h0 hX) rfl rfl rfl (Nat.le_of_ble_eq_true rfl) ⟨Nat.le_of_ble_eq_true rfl, Nat.le_of_ble_eq_true rfl⟩ (Nat.le_refl _) (Nat.le_refl _) rfl (List.forall_mem_cons.mpr ⟨⟨by decide, "java/lang/IndexOutOfBoundsException", w_671, by decide, by decide⟩, fun _ h => nomatch h⟩) (by decide) rfl (by decide) w_440 wc_1 (fun q => ?_)
      refine g_astore (L' := [(6, .ref q), (0, .ref (ε.2.2.1 18 0)), (1, .int a1), (2, .int a2), (3, .int a3), (4, .int a4), (5, .ref (ε.2.2.1 20 0))]) d_Law_mayHave_21 (by decide) rfl ?_
      refine g_iconst (v := 2) d_Law_mayHave_23 (by decide) ?_
      exact g_iretL d_Law_mayHave_24 rfl (Nat.le_refl _) (Nat.le_refl _)
    by_cases c2 : x = 2
    · subst c2
      obtain rfl := Option.some.inj h
      refine g_callC (As := [.int a1, .int a2, .int a3, .int a4]) (rest := [.int 0, .ref (ε.2.2.1 20 0)]) [⟨0, 14, 17, 28⟩, ⟨0, 14, 21, 13⟩] ⟨0, 14, 25, 15⟩ [] rfl (fun hl0 => ctx_DS_mayHave hl0 hX M a1 a2 a3 a4 2 hq) d_Law_mayHave_9 ca_DS_mayHave w_801 (gXw_h0 hX) rfl rfl rfl (Nat.le_of_ble_eq_true rfl) ⟨Nat.le_of_ble_eq_true rfl, Nat.le_of_ble_eq_true rfl⟩ (Nat.le_refl _) (Nat.le_refl _) rfl (List.forall_mem_cons.mpr ⟨⟨by decide, "java/lang/IndexOutOfBoundsException", w_671, by decide, by decide⟩, List.forall_mem_cons.mpr ⟨⟨by decide, "java/lang/IllegalArgumentException", w_440, by decide, by decide⟩, fun _ h => nomatch h⟩⟩) (by decide) rfl (by decide) w_441 wc_2 (fun q => ?_)
      refine g_astore (L' := [(6, .ref q), (0, .ref (ε.2.2.1 18 0)), (1, .int a1), (2, .int a2), (3, .int a3), (4, .int a4), (5, .ref (ε.2.2.1 20 0))]) d_Law_mayHave_25 (by decide) rfl ?_
      refine g_iconst (v := 3) d_Law_mayHave_27 (by decide) ?_
      exact g_iretL d_Law_mayHave_28 rfl (Nat.le_refl _) (Nat.le_refl _)
    exfalso
    revert h
    split
    · rename_i e9
      exact fun _ => c0 (Sum.inl.inj e9)
    · rename_i e9
      exact fun _ => c1 (Sum.inl.inj e9)
    · rename_i e9
      exact fun _ => c2 (Sum.inl.inj e9)
    · exact fun h => nomatch h
    · rename_i e9
      exact nomatch e9
theorem ctl_Law_mayHave {l : Launch} {ε : gEnv} (hl0 : l.stackTraces = false) (hX : gXw ε) (hO : gHas ε 20 0 (4, 1, [])) (M : gMem) (a1 : Int32) (a2 : Int32) (a3 : Int32) (a4 : Int32) (r : Int32 × gMem) (h : f_Law_mayHave M a1 a2 a3 a4 = some r) : gCtL l ε k_Law_mayHave [(0, 14, 17, 28), (0, 14, 21, 13), (0, 14, 25, 15)] 10 165 [.ref (ε.2.2.1 18 0), .int a1, .int a2, .int a3, .int a4, .ref (ε.2.2.1 20 0)] M (some (.int r.1)) r.2 :=
  gCtL_of hl0 (by decide) (Nat.le_of_ble_eq_true rfl) rfl (t_Law_mayHave hX hO M a1 a2 a3 a4 r h)
abbrev k_Law_most : gMD := (⟨"DropSignalsLaw", "most", "(LDropSignals;I[J)I"⟩, method_15_code, 4, some .int)
theorem w_822 : Cond.static ⟨"DropSignalsLaw", "most", "(LDropSignals;I[J)I"⟩ ∈ gWs := gWs_in (i := 822) (by decide +kernel) rfl
set_option maxRecDepth 100000 in
theorem cw_Law_most : Cond.codeWith k_Law_most.1 k_Law_most.2.1 k_Law_most.2.2.1 k_Law_most.2.2.2 [(0, 9, 12, 13), (0, 9, 15, 15)] ∈ gWs := gWs_in (i := 823) rfl rfl
theorem d_Law_most_0 : decode method_15_code 0 = .ok (.aload_n 2, 1) := by decide +kernel
theorem d_Law_most_1 : decode method_15_code 1 = .ok (.iconst 0, 1) := by decide +kernel
theorem d_Law_most_2 : decode method_15_code 2 = .ok (.aload_n 0, 1) := by decide +kernel
theorem d_Law_most_3 : decode method_15_code 3 = .ok (.iload_n 1, 1) := by decide +kernel
theorem d_Law_most_4 : decode method_15_code 4 = .ok (.invokevirtual 56, 3) := by decide +kernel
theorem d_Law_most_7 : decode method_15_code 7 = .ok (.i2l, 1) := by decide +kernel
theorem d_Law_most_8 : decode method_15_code 8 = .ok (.lastore, 1) := by decide +kernel
theorem d_Law_most_9 : decode method_15_code 9 = .ok (.goto 9, 3) := by decide +kernel
theorem d_Law_most_18 : decode method_15_code 18 = .ok (.iconst 0, 1) := by decide +kernel
theorem d_Law_most_19 : decode method_15_code 19 = .ok (.ireturn, 1) := by decide +kernel
theorem w_824 : Cond.methodLink "DropSignalsLaw" 56 ⟨"DropSignals", "most", "(I)I"⟩ ∈ gWs := gWs_in (i := 824) (by decide +kernel) rfl
theorem d_Law_most_12 : decode method_15_code 12 = .ok (.astore_n 3, 1) := by decide +kernel
theorem d_Law_most_13 : decode method_15_code 13 = .ok (.iconst 1, 1) := by decide +kernel
theorem d_Law_most_14 : decode method_15_code 14 = .ok (.ireturn, 1) := by decide +kernel
theorem d_Law_most_15 : decode method_15_code 15 = .ok (.astore_n 3, 1) := by decide +kernel
theorem d_Law_most_16 : decode method_15_code 16 = .ok (.iconst 2, 1) := by decide +kernel
theorem d_Law_most_17 : decode method_15_code 17 = .ok (.ireturn, 1) := by decide +kernel
noncomputable def f_Law_most (M : gMem) (a1 : Int32) : Option (Int32 × gMem) :=
  (f_DS_most M a1).bind fun q => match q with
    | .inl 1 => some (1, M)
    | .inl 2 => some (2, M)
    | .inl _ => none
    | .inr q => (gUO q.2 (Int32.toInt64 q.1)).bind fun M1 => some (0, M1)
theorem t_Law_most {l : Launch} {ε : gEnv} (hX : gXw ε) (hO : gHas ε 20 0 (4, 1, [])) (M : gMem) (a1 : Int32) (r : Int32 × gMem) (h : f_Law_most M a1 = some r) : gGo l ε k_Law_most (gRX 153 6074) (gFw ε [(0, 9, 12, 13), (0, 9, 15, 15)] 0 0 (some (.int r.1)) r.2) 0 [(0, .ref (ε.2.2.1 18 0)), (1, .int a1), (2, .ref (ε.2.2.1 20 0))] [] M := by
  unfold f_Law_most at h
  refine g_aload_n d_Law_most_0 rfl 2 rfl ?_
  refine g_iconst (v := 0) d_Law_most_1 (by decide) ?_
  refine g_aload_n d_Law_most_2 rfl 0 rfl ?_
  refine g_iload_n d_Law_most_3 rfl 1 rfl ?_
  obtain ⟨q, hq, h⟩ := gOb h
  cases q with
  | inr q =>
    obtain ⟨M1, hM1, h⟩ := gOb h
    obtain rfl := Option.some.inj h
    refine g_callV_i (As := [.int a1]) (rest := [.int 0, .ref (ε.2.2.1 20 0)]) (ctn_DS_most hX M a1 q hq) d_Law_most_4 ca_DS_most w_824 (gXw_h0 hX) rfl rfl rfl (Nat.le_of_ble_eq_true rfl) ⟨Nat.le_of_ble_eq_true rfl, Nat.le_of_ble_eq_true rfl⟩ ?_
    refine g_i2l d_Law_most_7 ?_
    refine g_lastore d_Law_most_8 hO hM1 ?_
    refine g_goto (tgt := 18) d_Law_most_9 (by decide) ?_
    refine g_iconst (v := 0) d_Law_most_18 (by decide) ?_
    exact g_iretL d_Law_most_19 rfl (by decide) (by decide)
  | inl x =>
    by_cases c0 : x = 1
    · subst c0
      obtain rfl := Option.some.inj h
      refine g_callC (As := [.int a1]) (rest := [.int 0, .ref (ε.2.2.1 20 0)]) [] ⟨0, 9, 12, 13⟩ [⟨0, 9, 15, 15⟩] rfl (fun hl0 => ctx_DS_most hl0 hX M a1 1 hq) d_Law_most_4 ca_DS_most w_824 (gXw_h0 hX) rfl rfl rfl (Nat.le_of_ble_eq_true rfl) ⟨Nat.le_of_ble_eq_true rfl, Nat.le_of_ble_eq_true rfl⟩ (Nat.le_refl _) (Nat.le_refl _) rfl (fun z hz => nomatch hz) (by decide) rfl (by decide) w_440 wc_1 (fun q => ?_)
      refine g_astore_n (L' := [(3, .ref q), (0, .ref (ε.2.2.1 18 0)), (1, .int a1), (2, .ref (ε.2.2.1 20 0))]) d_Law_most_12 rfl (by decide) rfl ?_
      refine g_iconst (v := 1) d_Law_most_13 (by decide) ?_
      exact g_iretL d_Law_most_14 rfl (Nat.le_refl _) (Nat.le_refl _)
    by_cases c1 : x = 2
    · subst c1
      obtain rfl := Option.some.inj h
      refine g_callC (As := [.int a1]) (rest := [.int 0, .ref (ε.2.2.1 20 0)]) [⟨0, 9, 12, 13⟩] ⟨0, 9, 15, 15⟩ [] rfl (fun hl0 => ctx_DS_most hl0 hX M a1 2 hq) d_Law_most_4 ca_DS_most w_824 (gXw_h0 hX) rfl rfl rfl (Nat.le_of_ble_eq_true rfl) ⟨Nat.le_of_ble_eq_true rfl, Nat.le_of_ble_eq_true rfl⟩ (Nat.le_refl _) (Nat.le_refl _) rfl (List.forall_mem_cons.mpr ⟨⟨by decide, "java/lang/IllegalArgumentException", w_440, by decide, by decide⟩, fun _ h => nomatch h⟩) (by decide) rfl (by decide) w_441 wc_2 (fun q => ?_)
      refine g_astore_n (L' := [(3, .ref q), (0, .ref (ε.2.2.1 18 0)), (1, .int a1), (2, .ref (ε.2.2.1 20 0))]) d_Law_most_15 rfl (by decide) rfl ?_
      refine g_iconst (v := 2) d_Law_most_16 (by decide) ?_
      exact g_iretL d_Law_most_17 rfl (Nat.le_refl _) (Nat.le_refl _)
    exfalso
    revert h
    split
    · rename_i e9
      exact fun _ => c0 (Sum.inl.inj e9)
    · rename_i e9
      exact fun _ => c1 (Sum.inl.inj e9)
    · exact fun h => nomatch h
    · rename_i e9
      exact nomatch e9
theorem ctl_Law_most {l : Launch} {ε : gEnv} (hl0 : l.stackTraces = false) (hX : gXw ε) (hO : gHas ε 20 0 (4, 1, [])) (M : gMem) (a1 : Int32) (r : Int32 × gMem) (h : f_Law_most M a1 = some r) : gCtL l ε k_Law_most [(0, 9, 12, 13), (0, 9, 15, 15)] 153 6074 [.ref (ε.2.2.1 18 0), .int a1, .ref (ε.2.2.1 20 0)] M (some (.int r.1)) r.2 :=
  gCtL_of hl0 (by decide) (Nat.le_of_ble_eq_true rfl) rfl (t_Law_most hX hO M a1 r h)
abbrev k_Law_bestCard : gMD := (⟨"DropSignalsLaw", "bestCard", "(LDropSignals;[J)I"⟩, method_16_code, 3, some .int)
theorem w_878 : Cond.static ⟨"DropSignalsLaw", "bestCard", "(LDropSignals;[J)I"⟩ ∈ gWs := gWs_in (i := 878) (by decide +kernel) rfl
set_option maxRecDepth 100000 in
theorem cw_Law_bestCard : Cond.codeWith k_Law_bestCard.1 k_Law_bestCard.2.1 k_Law_bestCard.2.2.1 k_Law_bestCard.2.2.2 [(0, 8, 11, 15)] ∈ gWs := gWs_in (i := 879) rfl rfl
theorem d_Law_bestCard_0 : decode method_16_code 0 = .ok (.aload_n 1, 1) := by decide +kernel
theorem d_Law_bestCard_1 : decode method_16_code 1 = .ok (.iconst 0, 1) := by decide +kernel
theorem d_Law_bestCard_2 : decode method_16_code 2 = .ok (.aload_n 0, 1) := by decide +kernel
theorem d_Law_bestCard_3 : decode method_16_code 3 = .ok (.invokevirtual 59, 3) := by decide +kernel
theorem d_Law_bestCard_6 : decode method_16_code 6 = .ok (.i2l, 1) := by decide +kernel
theorem d_Law_bestCard_7 : decode method_16_code 7 = .ok (.lastore, 1) := by decide +kernel
theorem d_Law_bestCard_8 : decode method_16_code 8 = .ok (.goto 6, 3) := by decide +kernel
theorem d_Law_bestCard_14 : decode method_16_code 14 = .ok (.iconst 0, 1) := by decide +kernel
theorem d_Law_bestCard_15 : decode method_16_code 15 = .ok (.ireturn, 1) := by decide +kernel
theorem w_880 : Cond.methodLink "DropSignalsLaw" 59 ⟨"DropSignals", "bestCard", "()I"⟩ ∈ gWs := gWs_in (i := 880) (by decide +kernel) rfl
theorem d_Law_bestCard_11 : decode method_16_code 11 = .ok (.astore_n 2, 1) := by decide +kernel
theorem d_Law_bestCard_12 : decode method_16_code 12 = .ok (.iconst 1, 1) := by decide +kernel
theorem d_Law_bestCard_13 : decode method_16_code 13 = .ok (.ireturn, 1) := by decide +kernel
noncomputable def f_Law_bestCard (M : gMem) : Option (Int32 × gMem) :=
  (f_DS_bestCard M).bind fun q => match q with
    | .inl 2 => some (1, M)
    | .inl _ => none
    | .inr q => (gUO q.2 (Int32.toInt64 q.1)).bind fun M1 => some (0, M1)
theorem t_Law_bestCard {l : Launch} {ε : gEnv} (hX : gXw ε) (hO : gHas ε 20 0 (4, 1, [])) (M : gMem) (r : Int32 × gMem) (h : f_Law_bestCard M = some r) : gGo l ε k_Law_bestCard (gRX 153 6076) (gFw ε [(0, 8, 11, 15)] 0 0 (some (.int r.1)) r.2) 0 [(0, .ref (ε.2.2.1 18 0)), (1, .ref (ε.2.2.1 20 0))] [] M := by
  unfold f_Law_bestCard at h
  refine g_aload_n d_Law_bestCard_0 rfl 1 rfl ?_
  refine g_iconst (v := 0) d_Law_bestCard_1 (by decide) ?_
  refine g_aload_n d_Law_bestCard_2 rfl 0 rfl ?_
  obtain ⟨q, hq, h⟩ := gOb h
  cases q with
  | inr q =>
    obtain ⟨M1, hM1, h⟩ := gOb h
    obtain rfl := Option.some.inj h
    refine g_callV_i (As := []) (rest := [.int 0, .ref (ε.2.2.1 20 0)]) (ctn_DS_bestCard hX M q hq) d_Law_bestCard_3 ca_DS_bestCard w_880 (gXw_h0 hX) rfl rfl rfl (Nat.le_of_ble_eq_true rfl) ⟨Nat.le_of_ble_eq_true rfl, Nat.le_of_ble_eq_true rfl⟩ ?_
    refine g_i2l d_Law_bestCard_6 ?_
    refine g_lastore d_Law_bestCard_7 hO hM1 ?_
    refine g_goto (tgt := 14) d_Law_bestCard_8 (by decide) ?_
    refine g_iconst (v := 0) d_Law_bestCard_14 (by decide) ?_
    exact g_iretL d_Law_bestCard_15 rfl (by decide) (by decide)
  | inl x =>
    by_cases c0 : x = 2
    · subst c0
      obtain rfl := Option.some.inj h
      refine g_callC (As := []) (rest := [.int 0, .ref (ε.2.2.1 20 0)]) [] ⟨0, 8, 11, 15⟩ [] rfl (fun hl0 => ctx_DS_bestCard hl0 hX M 2 hq) d_Law_bestCard_3 ca_DS_bestCard w_880 (gXw_h0 hX) rfl rfl rfl (Nat.le_of_ble_eq_true rfl) ⟨Nat.le_of_ble_eq_true rfl, Nat.le_of_ble_eq_true rfl⟩ (Nat.le_refl _) (Nat.le_refl _) rfl (fun z hz => nomatch hz) (by decide) rfl (by decide) w_441 wc_2 (fun q => ?_)
      refine g_astore_n (L' := [(2, .ref q), (0, .ref (ε.2.2.1 18 0)), (1, .ref (ε.2.2.1 20 0))]) d_Law_bestCard_11 rfl (by decide) rfl ?_
      refine g_iconst (v := 1) d_Law_bestCard_12 (by decide) ?_
      exact g_iretL d_Law_bestCard_13 rfl (Nat.le_refl _) (Nat.le_refl _)
    exfalso
    revert h
    split
    · rename_i e9
      exact fun _ => c0 (Sum.inl.inj e9)
    · exact fun h => nomatch h
    · rename_i e9
      exact nomatch e9
theorem ctl_Law_bestCard {l : Launch} {ε : gEnv} (hl0 : l.stackTraces = false) (hX : gXw ε) (hO : gHas ε 20 0 (4, 1, [])) (M : gMem) (r : Int32 × gMem) (h : f_Law_bestCard M = some r) : gCtL l ε k_Law_bestCard [(0, 8, 11, 15)] 153 6076 [.ref (ε.2.2.1 18 0), .ref (ε.2.2.1 20 0)] M (some (.int r.1)) r.2 :=
  gCtL_of hl0 (by decide) (Nat.le_of_ble_eq_true rfl) rfl (t_Law_bestCard hX hO M r h)
abbrev k_Law_runScript : gMD := (⟨"DropSignalsLaw", "runScript", "(LDropSignals;IJ[J)I"⟩, method_17_code, 6, some .int)
theorem w_889 : Cond.static ⟨"DropSignalsLaw", "runScript", "(LDropSignals;IJ[J)I"⟩ ∈ gWs := gWs_in (i := 889) (by decide +kernel) rfl
set_option maxRecDepth 100000 in
theorem cw_Law_runScript : Cond.codeWith k_Law_runScript.1 k_Law_runScript.2.1 k_Law_runScript.2.2.1 k_Law_runScript.2.2.2 [(0, 11, 14, 13)] ∈ gWs := gWs_in (i := 890) rfl rfl
theorem d_Law_runScript_0 : decode method_17_code 0 = .ok (.aload 4, 2) := by decide +kernel
theorem d_Law_runScript_2 : decode method_17_code 2 = .ok (.iconst 0, 1) := by decide +kernel
theorem d_Law_runScript_3 : decode method_17_code 3 = .ok (.aload_n 0, 1) := by decide +kernel
theorem d_Law_runScript_4 : decode method_17_code 4 = .ok (.iload_n 1, 1) := by decide +kernel
theorem d_Law_runScript_5 : decode method_17_code 5 = .ok (.lload_n 2, 1) := by decide +kernel
theorem d_Law_runScript_6 : decode method_17_code 6 = .ok (.invokevirtual 62, 3) := by decide +kernel
theorem d_Law_runScript_9 : decode method_17_code 9 = .ok (.i2l, 1) := by decide +kernel
theorem d_Law_runScript_10 : decode method_17_code 10 = .ok (.lastore, 1) := by decide +kernel
theorem d_Law_runScript_11 : decode method_17_code 11 = .ok (.goto 7, 3) := by decide +kernel
theorem d_Law_runScript_18 : decode method_17_code 18 = .ok (.iconst 0, 1) := by decide +kernel
theorem d_Law_runScript_19 : decode method_17_code 19 = .ok (.ireturn, 1) := by decide +kernel
theorem w_891 : Cond.methodLink "DropSignalsLaw" 62 ⟨"DropSignals", "runScript", "(IJ)I"⟩ ∈ gWs := gWs_in (i := 891) (by decide +kernel) rfl
theorem d_Law_runScript_14 : decode method_17_code 14 = .ok (.astore 5, 2) := by decide +kernel
theorem d_Law_runScript_16 : decode method_17_code 16 = .ok (.iconst 1, 1) := by decide +kernel
theorem d_Law_runScript_17 : decode method_17_code 17 = .ok (.ireturn, 1) := by decide +kernel
noncomputable def f_Law_runScript (M : gMem) (a1 : Int32) (a2 : Int64) : Option (Int32 × gMem) :=
  (f_DS_runScript M a1 a2).bind fun q => match q with
    | .inl 1 => some (1, M)
    | .inl _ => none
    | .inr q => (gUO q.2 (Int32.toInt64 q.1)).bind fun M1 => some (0, M1)
theorem t_Law_runScript {l : Launch} {ε : gEnv} (hX : gXw ε) (hO : gHas ε 20 0 (4, 1, [])) (M : gMem) (a1 : Int32) (a2 : Int64) (r : Int32 × gMem) (h : f_Law_runScript M a1 a2 = some r) : gGo l ε k_Law_runScript (gRX 9 165) (gFw ε [(0, 11, 14, 13)] 0 0 (some (.int r.1)) r.2) 0 [(0, .ref (ε.2.2.1 18 0)), (1, .int a1), (2, .long a2), (4, .ref (ε.2.2.1 20 0))] [] M := by
  unfold f_Law_runScript at h
  refine g_aload d_Law_runScript_0 3 rfl ?_
  refine g_iconst (v := 0) d_Law_runScript_2 (by decide) ?_
  refine g_aload_n d_Law_runScript_3 rfl 0 rfl ?_
  refine g_iload_n d_Law_runScript_4 rfl 1 rfl ?_
  refine g_lload_n d_Law_runScript_5 rfl 2 rfl ?_
  obtain ⟨q, hq, h⟩ := gOb h
  cases q with
  | inr q =>
    obtain ⟨M1, hM1, h⟩ := gOb h
    obtain rfl := Option.some.inj h
    refine g_callV_i (As := [.int a1, .long a2]) (rest := [.int 0, .ref (ε.2.2.1 20 0)]) (ctn_DS_runScript hX M a1 a2 q hq) d_Law_runScript_6 ca_DS_runScript w_891 (gXw_h0 hX) rfl rfl rfl (Nat.le_of_ble_eq_true rfl) ⟨Nat.le_of_ble_eq_true rfl, Nat.le_of_ble_eq_true rfl⟩ ?_
    refine g_i2l d_Law_runScript_9 ?_
    refine g_lastore d_Law_runScript_10 hO hM1 ?_
    refine g_goto (tgt := 18) d_Law_runScript_11 (by decide) ?_
    refine g_iconst (v := 0) d_Law_runScript_18 (by decide) ?_
    exact g_iretL d_Law_runScript_19 rfl (by decide) (by decide)
  | inl x =>
    by_cases c0 : x = 1
    · subst c0
      obtain rfl := Option.some.inj h
      refine g_callC (As := [.int a1, .long a2]) (rest := [.int 0, .ref (ε.2.2.1 20 0)]) [] ⟨0, 11, 14, 13⟩ [] rfl (fun hl0 => ctx_DS_runScript hl0 hX M a1 a2 1 hq) d_Law_runScript_6 ca_DS_runScript w_891 (gXw_h0 hX) rfl rfl rfl (Nat.le_of_ble_eq_true rfl) ⟨Nat.le_of_ble_eq_true rfl, Nat.le_of_ble_eq_true rfl⟩ (Nat.le_refl _) (Nat.le_refl _) rfl (fun z hz => nomatch hz) (by decide) rfl (by decide) w_440 wc_1 (fun q => ?_)
      refine g_astore (L' := [(5, .ref q), (0, .ref (ε.2.2.1 18 0)), (1, .int a1), (2, .long a2), (4, .ref (ε.2.2.1 20 0))]) d_Law_runScript_14 (by decide) rfl ?_
      refine g_iconst (v := 1) d_Law_runScript_16 (by decide) ?_
      exact g_iretL d_Law_runScript_17 rfl (Nat.le_refl _) (Nat.le_refl _)
    exfalso
    revert h
    split
    · rename_i e9
      exact fun _ => c0 (Sum.inl.inj e9)
    · exact fun h => nomatch h
    · rename_i e9
      exact nomatch e9
theorem ctl_Law_runScript {l : Launch} {ε : gEnv} (hl0 : l.stackTraces = false) (hX : gXw ε) (hO : gHas ε 20 0 (4, 1, [])) (M : gMem) (a1 : Int32) (a2 : Int64) (r : Int32 × gMem) (h : f_Law_runScript M a1 a2 = some r) : gCtL l ε k_Law_runScript [(0, 11, 14, 13)] 9 165 [.ref (ε.2.2.1 18 0), .int a1, .long a2, .ref (ε.2.2.1 20 0)] M (some (.int r.1)) r.2 :=
  gCtL_of hl0 (by decide) (Nat.le_of_ble_eq_true rfl) rfl (t_Law_runScript hX hO M a1 a2 r h)
abbrev k_Law_simulate : gMD := (⟨"DropSignalsLaw", "simulate", "(LDropSignals;JI[J)I"⟩, method_18_code, 6, some .int)
theorem w_916 : Cond.static ⟨"DropSignalsLaw", "simulate", "(LDropSignals;JI[J)I"⟩ ∈ gWs := gWs_in (i := 916) (by decide +kernel) rfl
set_option maxRecDepth 100000 in
theorem cw_Law_simulate : Cond.codeWith k_Law_simulate.1 k_Law_simulate.2.1 k_Law_simulate.2.2.1 k_Law_simulate.2.2.2 [(0, 11, 14, 13)] ∈ gWs := gWs_in (i := 917) rfl rfl
theorem d_Law_simulate_0 : decode method_18_code 0 = .ok (.aload 4, 2) := by decide +kernel
theorem d_Law_simulate_2 : decode method_18_code 2 = .ok (.iconst 0, 1) := by decide +kernel
theorem d_Law_simulate_3 : decode method_18_code 3 = .ok (.aload_n 0, 1) := by decide +kernel
theorem d_Law_simulate_4 : decode method_18_code 4 = .ok (.lload_n 1, 1) := by decide +kernel
theorem d_Law_simulate_5 : decode method_18_code 5 = .ok (.iload_n 3, 1) := by decide +kernel
theorem d_Law_simulate_6 : decode method_18_code 6 = .ok (.invokevirtual 66, 3) := by decide +kernel
theorem d_Law_simulate_9 : decode method_18_code 9 = .ok (.i2l, 1) := by decide +kernel
theorem d_Law_simulate_10 : decode method_18_code 10 = .ok (.lastore, 1) := by decide +kernel
theorem d_Law_simulate_11 : decode method_18_code 11 = .ok (.goto 7, 3) := by decide +kernel
theorem d_Law_simulate_18 : decode method_18_code 18 = .ok (.iconst 0, 1) := by decide +kernel
theorem d_Law_simulate_19 : decode method_18_code 19 = .ok (.ireturn, 1) := by decide +kernel
theorem w_918 : Cond.methodLink "DropSignalsLaw" 66 ⟨"DropSignals", "simulate", "(JI)I"⟩ ∈ gWs := gWs_in (i := 918) (by decide +kernel) rfl
theorem d_Law_simulate_14 : decode method_18_code 14 = .ok (.astore 5, 2) := by decide +kernel
theorem d_Law_simulate_16 : decode method_18_code 16 = .ok (.iconst 1, 1) := by decide +kernel
theorem d_Law_simulate_17 : decode method_18_code 17 = .ok (.ireturn, 1) := by decide +kernel
noncomputable def f_Law_simulate (M : gMem) (a1 : Int64) (a2 : Int32) : Option (Int32 × gMem) :=
  (f_DS_simulate M a1 a2).bind fun q => match q with
    | .inl 1 => some (1, M)
    | .inl _ => none
    | .inr q => (gUO q.2 (Int32.toInt64 q.1)).bind fun M1 => some (0, M1)
theorem t_Law_simulate {l : Launch} {ε : gEnv} (hX : gXw ε) (hO : gHas ε 20 0 (4, 1, [])) (M : gMem) (a1 : Int64) (a2 : Int32) (r : Int32 × gMem) (h : f_Law_simulate M a1 a2 = some r) : gGo l ε k_Law_simulate (gRX 9 164) (gFw ε [(0, 11, 14, 13)] 0 0 (some (.int r.1)) r.2) 0 [(0, .ref (ε.2.2.1 18 0)), (1, .long a1), (3, .int a2), (4, .ref (ε.2.2.1 20 0))] [] M := by
  unfold f_Law_simulate at h
  refine g_aload d_Law_simulate_0 3 rfl ?_
  refine g_iconst (v := 0) d_Law_simulate_2 (by decide) ?_
  refine g_aload_n d_Law_simulate_3 rfl 0 rfl ?_
  refine g_lload_n d_Law_simulate_4 rfl 1 rfl ?_
  refine g_iload_n d_Law_simulate_5 rfl 2 rfl ?_
  obtain ⟨q, hq, h⟩ := gOb h
  cases q with
  | inr q =>
    obtain ⟨M1, hM1, h⟩ := gOb h
    obtain rfl := Option.some.inj h
    refine g_callV_i (As := [.long a1, .int a2]) (rest := [.int 0, .ref (ε.2.2.1 20 0)]) (ctn_DS_simulate hX M a1 a2 q hq) d_Law_simulate_6 ca_DS_simulate w_918 (gXw_h0 hX) rfl rfl rfl (Nat.le_of_ble_eq_true rfl) ⟨Nat.le_of_ble_eq_true rfl, Nat.le_of_ble_eq_true rfl⟩ ?_
    refine g_i2l d_Law_simulate_9 ?_
    refine g_lastore d_Law_simulate_10 hO hM1 ?_
    refine g_goto (tgt := 18) d_Law_simulate_11 (by decide) ?_
    refine g_iconst (v := 0) d_Law_simulate_18 (by decide) ?_
    exact g_iretL d_Law_simulate_19 rfl (by decide) (by decide)
  | inl x =>
    by_cases c0 : x = 1
    · subst c0
      obtain rfl := Option.some.inj h
      refine g_callC (As := [.long a1, .int a2]) (rest := [.int 0, .ref (ε.2.2.1 20 0)]) [] ⟨0, 11, 14, 13⟩ [] rfl (fun hl0 => ctx_DS_simulate hl0 hX M a1 a2 1 hq) d_Law_simulate_6 ca_DS_simulate w_918 (gXw_h0 hX) rfl rfl rfl (Nat.le_of_ble_eq_true rfl) ⟨Nat.le_of_ble_eq_true rfl, Nat.le_of_ble_eq_true rfl⟩ (Nat.le_refl _) (Nat.le_refl _) rfl (fun z hz => nomatch hz) (by decide) rfl (by decide) w_440 wc_1 (fun q => ?_)
      refine g_astore (L' := [(5, .ref q), (0, .ref (ε.2.2.1 18 0)), (1, .long a1), (3, .int a2), (4, .ref (ε.2.2.1 20 0))]) d_Law_simulate_14 (by decide) rfl ?_
      refine g_iconst (v := 1) d_Law_simulate_16 (by decide) ?_
      exact g_iretL d_Law_simulate_17 rfl (Nat.le_refl _) (Nat.le_refl _)
    exfalso
    revert h
    split
    · rename_i e9
      exact fun _ => c0 (Sum.inl.inj e9)
    · exact fun h => nomatch h
    · rename_i e9
      exact nomatch e9
theorem ctl_Law_simulate {l : Launch} {ε : gEnv} (hl0 : l.stackTraces = false) (hX : gXw ε) (hO : gHas ε 20 0 (4, 1, [])) (M : gMem) (a1 : Int64) (a2 : Int32) (r : Int32 × gMem) (h : f_Law_simulate M a1 a2 = some r) : gCtL l ε k_Law_simulate [(0, 11, 14, 13)] 9 164 [.ref (ε.2.2.1 18 0), .long a1, .int a2, .ref (ε.2.2.1 20 0)] M (some (.int r.1)) r.2 :=
  gCtL_of hl0 (by decide) (Nat.le_of_ble_eq_true rfl) rfl (t_Law_simulate hX hO M a1 a2 r h)
abbrev k_Law_save : gMD := (⟨"DropSignalsLaw", "save", "(LDropSignals;I[J)I"⟩, method_19_code, 4, some .int)
theorem w_934 : Cond.static ⟨"DropSignalsLaw", "save", "(LDropSignals;I[J)I"⟩ ∈ gWs := gWs_in (i := 934) (by decide +kernel) rfl
set_option maxRecDepth 100000 in
theorem cw_Law_save : Cond.codeWith k_Law_save.1 k_Law_save.2.1 k_Law_save.2.2.1 k_Law_save.2.2.2 [(0, 9, 12, 28)] ∈ gWs := gWs_in (i := 935) rfl rfl
theorem d_Law_save_0 : decode method_19_code 0 = .ok (.aload_n 2, 1) := by decide +kernel
theorem d_Law_save_1 : decode method_19_code 1 = .ok (.iconst 0, 1) := by decide +kernel
theorem d_Law_save_2 : decode method_19_code 2 = .ok (.aload_n 0, 1) := by decide +kernel
theorem d_Law_save_3 : decode method_19_code 3 = .ok (.iload_n 1, 1) := by decide +kernel
theorem d_Law_save_4 : decode method_19_code 4 = .ok (.invokevirtual 70, 3) := by decide +kernel
theorem d_Law_save_7 : decode method_19_code 7 = .ok (.i2l, 1) := by decide +kernel
theorem d_Law_save_8 : decode method_19_code 8 = .ok (.lastore, 1) := by decide +kernel
theorem d_Law_save_9 : decode method_19_code 9 = .ok (.goto 6, 3) := by decide +kernel
theorem d_Law_save_15 : decode method_19_code 15 = .ok (.iconst 0, 1) := by decide +kernel
theorem d_Law_save_16 : decode method_19_code 16 = .ok (.ireturn, 1) := by decide +kernel
theorem w_936 : Cond.methodLink "DropSignalsLaw" 70 ⟨"DropSignals", "save", "(I)I"⟩ ∈ gWs := gWs_in (i := 936) (by decide +kernel) rfl
theorem d_Law_save_12 : decode method_19_code 12 = .ok (.astore_n 3, 1) := by decide +kernel
theorem d_Law_save_13 : decode method_19_code 13 = .ok (.iconst 1, 1) := by decide +kernel
theorem d_Law_save_14 : decode method_19_code 14 = .ok (.ireturn, 1) := by decide +kernel
noncomputable def f_Law_save (M : gMem) (a1 : Int32) : Option (Int32 × gMem) :=
  (f_DS_save M a1).bind fun q => match q with
    | .inl 3 => some (1, M)
    | .inl _ => none
    | .inr q => (gUO q.2 (Int32.toInt64 q.1)).bind fun M1 => some (0, M1)
theorem t_Law_save {l : Launch} {ε : gEnv} (hX : gXw ε) (hO : gHas ε 20 0 (4, 1, [])) (M : gMem) (a1 : Int32) (r : Int32 × gMem) (h : f_Law_save M a1 = some r) : gGo l ε k_Law_save (gRX 10 162) (gFw ε [(0, 9, 12, 28)] 0 0 (some (.int r.1)) r.2) 0 [(0, .ref (ε.2.2.1 18 0)), (1, .int a1), (2, .ref (ε.2.2.1 20 0))] [] M := by
  unfold f_Law_save at h
  refine g_aload_n d_Law_save_0 rfl 2 rfl ?_
  refine g_iconst (v := 0) d_Law_save_1 (by decide) ?_
  refine g_aload_n d_Law_save_2 rfl 0 rfl ?_
  refine g_iload_n d_Law_save_3 rfl 1 rfl ?_
  obtain ⟨q, hq, h⟩ := gOb h
  cases q with
  | inr q =>
    obtain ⟨M1, hM1, h⟩ := gOb h
    obtain rfl := Option.some.inj h
    refine g_callV_i (As := [.int a1]) (rest := [.int 0, .ref (ε.2.2.1 20 0)]) (ctn_DS_save hX M a1 q hq) d_Law_save_4 ca_DS_save w_936 (gXw_h0 hX) rfl rfl rfl (Nat.le_of_ble_eq_true rfl) ⟨Nat.le_of_ble_eq_true rfl, Nat.le_of_ble_eq_true rfl⟩ ?_
    refine g_i2l d_Law_save_7 ?_
    refine g_lastore d_Law_save_8 hO hM1 ?_
    refine g_goto (tgt := 15) d_Law_save_9 (by decide) ?_
    refine g_iconst (v := 0) d_Law_save_15 (by decide) ?_
    exact g_iretL d_Law_save_16 rfl (by decide) (by decide)
  | inl x =>
    by_cases c0 : x = 3
    · subst c0
      obtain rfl := Option.some.inj h
      refine g_callC (As := [.int a1]) (rest := [.int 0, .ref (ε.2.2.1 20 0)]) [] ⟨0, 9, 12, 28⟩ [] rfl (fun hl0 => ctx_DS_save hl0 hX M a1 3 hq) d_Law_save_4 ca_DS_save w_936 (gXw_h0 hX) rfl rfl rfl (Nat.le_of_ble_eq_true rfl) ⟨Nat.le_of_ble_eq_true rfl, Nat.le_of_ble_eq_true rfl⟩ (Nat.le_refl _) (Nat.le_refl _) rfl (fun z hz => nomatch hz) (by decide) rfl (by decide) w_671 wc_3 (fun q => ?_)
      refine g_astore_n (L' := [(3, .ref q), (0, .ref (ε.2.2.1 18 0)), (1, .int a1), (2, .ref (ε.2.2.1 20 0))]) d_Law_save_12 rfl (by decide) rfl ?_
      refine g_iconst (v := 1) d_Law_save_13 (by decide) ?_
      exact g_iretL d_Law_save_14 rfl (Nat.le_refl _) (Nat.le_refl _)
    exfalso
    revert h
    split
    · rename_i e9
      exact fun _ => c0 (Sum.inl.inj e9)
    · exact fun h => nomatch h
    · rename_i e9
      exact nomatch e9
theorem ctl_Law_save {l : Launch} {ε : gEnv} (hl0 : l.stackTraces = false) (hX : gXw ε) (hO : gHas ε 20 0 (4, 1, [])) (M : gMem) (a1 : Int32) (r : Int32 × gMem) (h : f_Law_save M a1 = some r) : gCtL l ε k_Law_save [(0, 9, 12, 28)] 10 162 [.ref (ε.2.2.1 18 0), .int a1, .ref (ε.2.2.1 20 0)] M (some (.int r.1)) r.2 :=
  gCtL_of hl0 (by decide) (Nat.le_of_ble_eq_true rfl) rfl (t_Law_save hX hO M a1 r h)
abbrev k_Law_restore : gMD := (⟨"DropSignalsLaw", "restore", "(LDropSignals;I[J)I"⟩, method_20_code, 4, some .int)
theorem w_946 : Cond.static ⟨"DropSignalsLaw", "restore", "(LDropSignals;I[J)I"⟩ ∈ gWs := gWs_in (i := 946) (by decide +kernel) rfl
set_option maxRecDepth 100000 in
theorem cw_Law_restore : Cond.codeWith k_Law_restore.1 k_Law_restore.2.1 k_Law_restore.2.2.1 k_Law_restore.2.2.2 [(0, 9, 12, 28), (0, 9, 15, 15)] ∈ gWs := gWs_in (i := 947) rfl rfl
theorem d_Law_restore_0 : decode method_20_code 0 = .ok (.aload_n 2, 1) := by decide +kernel
theorem d_Law_restore_1 : decode method_20_code 1 = .ok (.iconst 0, 1) := by decide +kernel
theorem d_Law_restore_2 : decode method_20_code 2 = .ok (.aload_n 0, 1) := by decide +kernel
theorem d_Law_restore_3 : decode method_20_code 3 = .ok (.iload_n 1, 1) := by decide +kernel
theorem d_Law_restore_4 : decode method_20_code 4 = .ok (.invokevirtual 73, 3) := by decide +kernel
theorem d_Law_restore_7 : decode method_20_code 7 = .ok (.i2l, 1) := by decide +kernel
theorem d_Law_restore_8 : decode method_20_code 8 = .ok (.lastore, 1) := by decide +kernel
theorem d_Law_restore_9 : decode method_20_code 9 = .ok (.goto 9, 3) := by decide +kernel
theorem d_Law_restore_18 : decode method_20_code 18 = .ok (.iconst 0, 1) := by decide +kernel
theorem d_Law_restore_19 : decode method_20_code 19 = .ok (.ireturn, 1) := by decide +kernel
theorem w_948 : Cond.methodLink "DropSignalsLaw" 73 ⟨"DropSignals", "restore", "(I)I"⟩ ∈ gWs := gWs_in (i := 948) (by decide +kernel) rfl
theorem d_Law_restore_12 : decode method_20_code 12 = .ok (.astore_n 3, 1) := by decide +kernel
theorem d_Law_restore_13 : decode method_20_code 13 = .ok (.iconst 1, 1) := by decide +kernel
theorem d_Law_restore_14 : decode method_20_code 14 = .ok (.ireturn, 1) := by decide +kernel
theorem d_Law_restore_15 : decode method_20_code 15 = .ok (.astore_n 3, 1) := by decide +kernel
theorem d_Law_restore_16 : decode method_20_code 16 = .ok (.iconst 2, 1) := by decide +kernel
theorem d_Law_restore_17 : decode method_20_code 17 = .ok (.ireturn, 1) := by decide +kernel
noncomputable def f_Law_restore (M : gMem) (a1 : Int32) : Option (Int32 × gMem) :=
  (f_DS_restore M a1).bind fun q => match q with
    | .inl 3 => some (1, M)
    | .inl 2 => some (2, M)
    | .inl _ => none
    | .inr q => (gUO q.2 (Int32.toInt64 q.1)).bind fun M1 => some (0, M1)
theorem t_Law_restore {l : Launch} {ε : gEnv} (hX : gXw ε) (hO : gHas ε 20 0 (4, 1, [])) (M : gMem) (a1 : Int32) (r : Int32 × gMem) (h : f_Law_restore M a1 = some r) : gGo l ε k_Law_restore (gRX 10 162) (gFw ε [(0, 9, 12, 28), (0, 9, 15, 15)] 0 0 (some (.int r.1)) r.2) 0 [(0, .ref (ε.2.2.1 18 0)), (1, .int a1), (2, .ref (ε.2.2.1 20 0))] [] M := by
  unfold f_Law_restore at h
  refine g_aload_n d_Law_restore_0 rfl 2 rfl ?_
  refine g_iconst (v := 0) d_Law_restore_1 (by decide) ?_
  refine g_aload_n d_Law_restore_2 rfl 0 rfl ?_
  refine g_iload_n d_Law_restore_3 rfl 1 rfl ?_
  obtain ⟨q, hq, h⟩ := gOb h
  cases q with
  | inr q =>
    obtain ⟨M1, hM1, h⟩ := gOb h
    obtain rfl := Option.some.inj h
    refine g_callV_i (As := [.int a1]) (rest := [.int 0, .ref (ε.2.2.1 20 0)]) (ctn_DS_restore hX M a1 q hq) d_Law_restore_4 ca_DS_restore w_948 (gXw_h0 hX) rfl rfl rfl (Nat.le_of_ble_eq_true rfl) ⟨Nat.le_of_ble_eq_true rfl, Nat.le_of_ble_eq_true rfl⟩ ?_
    refine g_i2l d_Law_restore_7 ?_
    refine g_lastore d_Law_restore_8 hO hM1 ?_
    refine g_goto (tgt := 18) d_Law_restore_9 (by decide) ?_
    refine g_iconst (v := 0) d_Law_restore_18 (by decide) ?_
    exact g_iretL d_Law_restore_19 rfl (by decide) (by decide)
  | inl x =>
    by_cases c0 : x = 3
    · subst c0
      obtain rfl := Option.some.inj h
      refine g_callC (As := [.int a1]) (rest := [.int 0, .ref (ε.2.2.1 20 0)]) [] ⟨0, 9, 12, 28⟩ [⟨0, 9, 15, 15⟩] rfl (fun hl0 => ctx_DS_restore hl0 hX M a1 3 hq) d_Law_restore_4 ca_DS_restore w_948 (gXw_h0 hX) rfl rfl rfl (Nat.le_of_ble_eq_true rfl) ⟨Nat.le_of_ble_eq_true rfl, Nat.le_of_ble_eq_true rfl⟩ (Nat.le_refl _) (Nat.le_refl _) rfl (fun z hz => nomatch hz) (by decide) rfl (by decide) w_671 wc_3 (fun q => ?_)
      refine g_astore_n (L' := [(3, .ref q), (0, .ref (ε.2.2.1 18 0)), (1, .int a1), (2, .ref (ε.2.2.1 20 0))]) d_Law_restore_12 rfl (by decide) rfl ?_
      refine g_iconst (v := 1) d_Law_restore_13 (by decide) ?_
      exact g_iretL d_Law_restore_14 rfl (Nat.le_refl _) (Nat.le_refl _)
    by_cases c1 : x = 2
    · subst c1
      obtain rfl := Option.some.inj h
      refine g_callC (As := [.int a1]) (rest := [.int 0, .ref (ε.2.2.1 20 0)]) [⟨0, 9, 12, 28⟩] ⟨0, 9, 15, 15⟩ [] rfl (fun hl0 => ctx_DS_restore hl0 hX M a1 2 hq) d_Law_restore_4 ca_DS_restore w_948 (gXw_h0 hX) rfl rfl rfl (Nat.le_of_ble_eq_true rfl) ⟨Nat.le_of_ble_eq_true rfl, Nat.le_of_ble_eq_true rfl⟩ (Nat.le_refl _) (Nat.le_refl _) rfl (List.forall_mem_cons.mpr ⟨⟨by decide, "java/lang/IndexOutOfBoundsException", w_671, by decide, by decide⟩, fun _ h => nomatch h⟩) (by decide) rfl (by decide) w_441 wc_2 (fun q => ?_)
      refine g_astore_n (L' := [(3, .ref q), (0, .ref (ε.2.2.1 18 0)), (1, .int a1), (2, .ref (ε.2.2.1 20 0))]) d_Law_restore_15 rfl (by decide) rfl ?_
      refine g_iconst (v := 2) d_Law_restore_16 (by decide) ?_
      exact g_iretL d_Law_restore_17 rfl (Nat.le_refl _) (Nat.le_refl _)
    exfalso
    revert h
    split
    · rename_i e9
      exact fun _ => c0 (Sum.inl.inj e9)
    · rename_i e9
      exact fun _ => c1 (Sum.inl.inj e9)
    · exact fun h => nomatch h
    · rename_i e9
      exact nomatch e9
theorem ctl_Law_restore {l : Launch} {ε : gEnv} (hl0 : l.stackTraces = false) (hX : gXw ε) (hO : gHas ε 20 0 (4, 1, [])) (M : gMem) (a1 : Int32) (r : Int32 × gMem) (h : f_Law_restore M a1 = some r) : gCtL l ε k_Law_restore [(0, 9, 12, 28), (0, 9, 15, 15)] 10 162 [.ref (ε.2.2.1 18 0), .int a1, .ref (ε.2.2.1 20 0)] M (some (.int r.1)) r.2 :=
  gCtL_of hl0 (by decide) (Nat.le_of_ble_eq_true rfl) rfl (t_Law_restore hX hO M a1 r h)
