abbrev k_Mo_append : gMD := (⟨"DropSignalsModel", "append", "(I)I"⟩, prog_11_method_34_code, 2, (some .int))
theorem w_1027 : Cond.instanceMethod ⟨"DropSignalsModel", "append", "(I)I"⟩ ∈ gWs := gWs_in (i := 1027) (by decide +kernel) rfl
theorem w_1028 : Cond.selects "DropSignalsModel" ⟨"DropSignalsModel", "append", "(I)I"⟩ ⟨"DropSignalsModel", "append", "(I)I"⟩ ∈ gWs := gWs_in (i := 1028) (by decide +kernel) rfl
set_option maxRecDepth 100000 in
theorem ca_Mo_append : gCaV k_Mo_append 1 := ⟨⟨gWs_in (i := 1029) rfl rfl, w_43, by decide, by decide, by decide +kernel⟩, w_1027, w_1028⟩
theorem d_Mo_append_0 : decode prog_11_method_34_code 0 = .ok (.aload_n 0, 1) := by decide +kernel
theorem d_Mo_append_1 : decode prog_11_method_34_code 1 = .ok (.iload_n 1, 1) := by decide +kernel
theorem d_Mo_append_2 : decode prog_11_method_34_code 2 = .ok (.i2l, 1) := by decide +kernel
theorem d_Mo_append_3 : decode prog_11_method_34_code 3 = .ok (.lconst 0, 1) := by decide +kernel
theorem d_Mo_append_4 : decode prog_11_method_34_code 4 = .ok (.ldc2_w 122, 3) := by decide +kernel
theorem d_Mo_append_7 : decode prog_11_method_34_code 7 = .ok (.invokestatic 84, 3) := by decide +kernel
theorem d_Mo_append_10 : decode prog_11_method_34_code 10 = .ok (.ifCond .ne 7, 3) := by decide +kernel
theorem d_Mo_append_13 : decode prog_11_method_34_code 13 = .ok (.iconst 1, 1) := by decide +kernel
theorem d_Mo_append_14 : decode prog_11_method_34_code 14 = .ok (.goto 17, 3) := by decide +kernel
theorem d_Mo_append_17 : decode prog_11_method_34_code 17 = .ok (.aload_n 0, 1) := by decide +kernel
theorem d_Mo_append_18 : decode prog_11_method_34_code 18 = .ok (.getfield 124, 3) := by decide +kernel
theorem d_Mo_append_21 : decode prog_11_method_34_code 21 = .ok (.bipush 120, 2) := by decide +kernel
theorem d_Mo_append_23 : decode prog_11_method_34_code 23 = .ok (.if_icmp .ne 7, 3) := by decide +kernel
theorem d_Mo_append_26 : decode prog_11_method_34_code 26 = .ok (.iconst 2, 1) := by decide +kernel
theorem d_Mo_append_27 : decode prog_11_method_34_code 27 = .ok (.goto 4, 3) := by decide +kernel
theorem d_Mo_append_30 : decode prog_11_method_34_code 30 = .ok (.iconst 0, 1) := by decide +kernel
theorem d_Mo_append_31 : decode prog_11_method_34_code 31 = .ok (.invokevirtual 127, 3) := by decide +kernel
theorem d_Mo_append_34 : decode prog_11_method_34_code 34 = .ok (.ifCond .eq 5, 3) := by decide +kernel
theorem d_Mo_append_37 : decode prog_11_method_34_code 37 = .ok (.iconst 0, 1) := by decide +kernel
theorem d_Mo_append_38 : decode prog_11_method_34_code 38 = .ok (.ireturn, 1) := by decide +kernel
theorem d_Mo_append_39 : decode prog_11_method_34_code 39 = .ok (.aload_n 0, 1) := by decide +kernel
theorem d_Mo_append_40 : decode prog_11_method_34_code 40 = .ok (.getfield 7, 3) := by decide +kernel
theorem d_Mo_append_43 : decode prog_11_method_34_code 43 = .ok (.aload_n 0, 1) := by decide +kernel
theorem d_Mo_append_44 : decode prog_11_method_34_code 44 = .ok (.getfield 124, 3) := by decide +kernel
theorem d_Mo_append_47 : decode prog_11_method_34_code 47 = .ok (.iload_n 1, 1) := by decide +kernel
theorem d_Mo_append_48 : decode prog_11_method_34_code 48 = .ok (.iastore, 1) := by decide +kernel
theorem d_Mo_append_49 : decode prog_11_method_34_code 49 = .ok (.aload_n 0, 1) := by decide +kernel
theorem d_Mo_append_50 : decode prog_11_method_34_code 50 = .ok (.dup, 1) := by decide +kernel
theorem d_Mo_append_51 : decode prog_11_method_34_code 51 = .ok (.getfield 124, 3) := by decide +kernel
theorem d_Mo_append_54 : decode prog_11_method_34_code 54 = .ok (.iconst 1, 1) := by decide +kernel
theorem d_Mo_append_55 : decode prog_11_method_34_code 55 = .ok (.iadd, 1) := by decide +kernel
theorem d_Mo_append_56 : decode prog_11_method_34_code 56 = .ok (.putfield 124, 3) := by decide +kernel
theorem d_Mo_append_59 : decode prog_11_method_34_code 59 = .ok (.aload_n 0, 1) := by decide +kernel
theorem d_Mo_append_60 : decode prog_11_method_34_code 60 = .ok (.getfield 124, 3) := by decide +kernel
theorem d_Mo_append_63 : decode prog_11_method_34_code 63 = .ok (.ireturn, 1) := by decide +kernel
theorem w_1030 : Cond.constantLong "DropSignalsModel" 122 (255) ∈ gWs := gWs_in (i := 1030) (by decide +kernel) rfl
theorem w_975 : Cond.fieldLink "DropSignalsModel" 124 "DropSignalsModel" "size" "I" ∈ gWs := gWs_in (i := 975) (by decide +kernel) rfl
theorem fl_Mo_124 : gFl "DropSignalsModel" 124 8 2 := ⟨gN8, gF8, 16, rfl, uw_8, by decide, w_975⟩
theorem w_1034 : Cond.methodLink "DropSignalsModel" 127 ⟨"DropSignalsModel", "refused", "(I)Z"⟩ ∈ gWs := gWs_in (i := 1034) (by decide +kernel) rfl
theorem w_974 : Cond.fieldLink "DropSignalsModel" 7 "DropSignalsModel" "text" "[I" ∈ gWs := gWs_in (i := 974) (by decide +kernel) rfl
theorem fl_Mo_7 : gFl "DropSignalsModel" 7 8 1 := ⟨gN8, gF8, 16, rfl, uw_8, by decide, w_974⟩
theorem fp_Mo_124 : gFp "DropSignalsModel" 124 8 2 .int := ⟨gN8, gF8, 16, rfl, uw_8, by decide, w_975, ⟨gX8, gY8⟩, gD8, rfl, by decide +kernel⟩
noncomputable def f_Mo_append_b31 (M : gMem) (x1 : Int32) (s0 : Int32) : Option (Int32 × gMem) :=
  (f_Mo_refused M s0).bind fun q2 =>
  if q2.1 = 0 then
    (gWr q2.2 19 1 120 (q2.2 19 0 2) x1).bind fun M3 =>
    (gSO M3 19 0 2 ((M3 19 0 2) + 1)).bind fun M4 =>
    some ((M4 19 0 2), M4)
  else
    some (0, q2.2)
theorem t_Mo_append_b31 {l : Launch} {ε : gEnv} (hM : gMo ε) (M : gMem) (x1 : Int32) (s0 : Int32) (r : (Int32 × gMem)) (h : f_Mo_append_b31 M x1 s0 = some r) : gGo l ε k_Mo_append (gR 1 25) (gFn ε (some (.int r.1)) r.2) 31 [(0, .ref (ε.2.2.1 19 0)), (1, .int x1)] [.int s0, .ref (ε.2.2.1 19 0)] M := by
  unfold f_Mo_append_b31 at h
  obtain ⟨q2, hq2, h⟩ := gOb h
  refine g_callV_i (As := [.int s0]) (rest := []) (ct_Mo_refused hM M s0 _ hq2) d_Mo_append_31 ca_Mo_refused w_1034 (gMo_h0 hM) rfl rfl rfl (Nat.le_of_ble_eq_true rfl) ⟨(Nat.le_of_ble_eq_true rfl), (Nat.le_of_ble_eq_true rfl)⟩ ?_
  refine g_if_eq (tgt := 39) d_Mo_append_34 (by decide) (fun c5 => ?_) (fun c5 => ?_)
  · rw [if_pos c5] at h
    refine g_aload_n d_Mo_append_39 rfl 0 rfl ?_
    refine g_getR d_Mo_append_40 fl_Mo_7 (gMo_h0 hM) rfl ?_
    refine g_aload_n d_Mo_append_43 rfl 0 rfl ?_
    refine g_getI d_Mo_append_44 fl_Mo_124 (gMo_h0 hM) rfl ?_
    refine g_iload_n d_Mo_append_47 rfl 1 rfl ?_
    obtain ⟨M3, hM3, h⟩ := gOb h
    refine g_iastore d_Mo_append_48 (gMo_h1 hM) hM3 ?_
    refine g_aload_n d_Mo_append_49 rfl 0 rfl ?_
    refine g_dup d_Mo_append_50 rfl ?_
    refine g_getI d_Mo_append_51 fl_Mo_124 (gMo_h0 hM) rfl ?_
    refine g_iconst (v := 1) d_Mo_append_54 (by decide) ?_
    refine g_iadd d_Mo_append_55 ?_
    obtain ⟨M4, hM4, h⟩ := gOb h
    refine g_putO d_Mo_append_56 fp_Mo_124 (gMo_h0 hM) rfl hM4 ?_
    refine g_aload_n d_Mo_append_59 rfl 0 rfl ?_
    refine g_getI d_Mo_append_60 fl_Mo_124 (gMo_h0 hM) rfl ?_
    obtain rfl := Option.some.inj h
    exact g_iret d_Mo_append_63 rfl
  · rw [if_neg c5] at h
    refine g_iconst (v := 0) d_Mo_append_37 (by decide) ?_
    obtain rfl := Option.some.inj h
    exact g_iret d_Mo_append_38 rfl
noncomputable def f_Mo_append (M : gMem) (a0 : Int32) : Option (Int32 × gMem) :=
  (f_Mo_in (Int32.toInt64 a0) 0 (255)).bind fun q1 =>
  if q1 = 0 then
    f_Mo_append_b31 M a0 1
  else
    if (M 19 0 2) = 120 then
      f_Mo_append_b31 M a0 2
    else
      f_Mo_append_b31 M a0 0
theorem t_Mo_append {l : Launch} {ε : gEnv} (hM : gMo ε) (M : gMem) (a0 : Int32) (r : (Int32 × gMem)) (h : f_Mo_append M a0 = some r) : gGo l ε k_Mo_append (gR 1 25) (gFn ε (some (.int r.1)) r.2) 0 [(0, .ref (ε.2.2.1 19 0)), (1, .int a0)] [] M := by
  unfold f_Mo_append at h
  refine g_aload_n d_Mo_append_0 rfl 0 rfl ?_
  refine g_iload_n d_Mo_append_1 rfl 1 rfl ?_
  refine g_i2l d_Mo_append_2 ?_
  refine g_lconst (v := 0) d_Mo_append_3 (by decide) ?_
  refine g_ldc2 d_Mo_append_4 w_1030 ?_
  obtain ⟨q1, hq1, h⟩ := gOb h
  refine g_callS_i (As := [.long (Int32.toInt64 a0), .long 0, .long (255)]) (rest := [.ref (ε.2.2.1 19 0)]) (ct_Mo_in M (Int32.toInt64 a0) 0 (255) _ hq1) d_Mo_append_7 ca_Mo_in w_1031 rfl rfl (Nat.le_of_ble_eq_true rfl) ⟨(Nat.le_of_ble_eq_true rfl), (Nat.le_of_ble_eq_true rfl)⟩ ?_
  refine g_if_ne (tgt := 17) d_Mo_append_10 (by decide) (fun c7 => ?_) (fun c7 => ?_)
  · rw [if_neg c7] at h
    refine g_aload_n d_Mo_append_17 rfl 0 rfl ?_
    refine g_getI d_Mo_append_18 fl_Mo_124 (gMo_h0 hM) rfl ?_
    refine g_bipush (v := 120) d_Mo_append_21 (by decide) ?_
    refine g_icmp_ne (tgt := 30) d_Mo_append_23 (by decide) (fun c6 => ?_) (fun c6 => ?_)
    · rw [if_neg c6] at h
      refine g_iconst (v := 0) d_Mo_append_30 (by decide) ?_
      exact t_Mo_append_b31 hM M a0 0 _ h
    · rw [if_pos c6] at h
      refine g_iconst (v := 2) d_Mo_append_26 (by decide) ?_
      refine g_goto (tgt := 31) d_Mo_append_27 (by decide) ?_
      exact t_Mo_append_b31 hM M a0 2 _ h
  · rw [if_pos c7] at h
    refine g_iconst (v := 1) d_Mo_append_13 (by decide) ?_
    refine g_goto (tgt := 31) d_Mo_append_14 (by decide) ?_
    exact t_Mo_append_b31 hM M a0 1 _ h
theorem ct_Mo_append {l : Launch} {ε : gEnv} (hM : gMo ε) (M : gMem) (a0 : Int32) (r : (Int32 × gMem)) (h : f_Mo_append M a0 = some r) : gCt l ε k_Mo_append 1 25 [.ref (ε.2.2.1 19 0), .int a0] M (some (.int r.1)) r.2 :=
  gCt_of (by decide) (Nat.le_of_ble_eq_true rfl) rfl (t_Mo_append hM M a0 r h)
abbrev k_Mo_clearText : gMD := (⟨"DropSignalsModel", "clearText", "()I"⟩, prog_11_method_35_code, 2, (some .int))
theorem w_1039 : Cond.instanceMethod ⟨"DropSignalsModel", "clearText", "()I"⟩ ∈ gWs := gWs_in (i := 1039) (by decide +kernel) rfl
theorem w_1040 : Cond.selects "DropSignalsModel" ⟨"DropSignalsModel", "clearText", "()I"⟩ ⟨"DropSignalsModel", "clearText", "()I"⟩ ∈ gWs := gWs_in (i := 1040) (by decide +kernel) rfl
set_option maxRecDepth 100000 in
theorem ca_Mo_clearText : gCaV k_Mo_clearText 0 := ⟨⟨gWs_in (i := 1041) rfl rfl, w_43, by decide, by decide, by decide +kernel⟩, w_1039, w_1040⟩
theorem d_Mo_clearText_0 : decode prog_11_method_35_code 0 = .ok (.aload_n 0, 1) := by decide +kernel
theorem d_Mo_clearText_1 : decode prog_11_method_35_code 1 = .ok (.iconst 0, 1) := by decide +kernel
theorem d_Mo_clearText_2 : decode prog_11_method_35_code 2 = .ok (.putfield 48, 3) := by decide +kernel
theorem d_Mo_clearText_5 : decode prog_11_method_35_code 5 = .ok (.aload_n 0, 1) := by decide +kernel
theorem d_Mo_clearText_6 : decode prog_11_method_35_code 6 = .ok (.getfield 124, 3) := by decide +kernel
theorem d_Mo_clearText_9 : decode prog_11_method_35_code 9 = .ok (.istore_n 1, 1) := by decide +kernel
theorem d_Mo_clearText_10 : decode prog_11_method_35_code 10 = .ok (.aload_n 0, 1) := by decide +kernel
theorem d_Mo_clearText_11 : decode prog_11_method_35_code 11 = .ok (.iconst 0, 1) := by decide +kernel
theorem d_Mo_clearText_12 : decode prog_11_method_35_code 12 = .ok (.putfield 124, 3) := by decide +kernel
theorem d_Mo_clearText_15 : decode prog_11_method_35_code 15 = .ok (.iload_n 1, 1) := by decide +kernel
theorem d_Mo_clearText_16 : decode prog_11_method_35_code 16 = .ok (.ireturn, 1) := by decide +kernel
noncomputable def f_Mo_clearText (M : gMem) : Option (Int32 × gMem) :=
  (gSO M 19 0 0 0).bind fun M1 =>
  (gSO M1 19 0 2 0).bind fun M2 =>
  some ((M1 19 0 2), M2)
theorem t_Mo_clearText {l : Launch} {ε : gEnv} (hM : gMo ε) (M : gMem) (r : (Int32 × gMem)) (h : f_Mo_clearText M = some r) : gGo l ε k_Mo_clearText (gR 0 0) (gFn ε (some (.int r.1)) r.2) 0 [(0, .ref (ε.2.2.1 19 0))] [] M := by
  unfold f_Mo_clearText at h
  refine g_aload_n d_Mo_clearText_0 rfl 0 rfl ?_
  refine g_iconst (v := 0) d_Mo_clearText_1 (by decide) ?_
  obtain ⟨M1, hM1, h⟩ := gOb h
  refine g_putO d_Mo_clearText_2 fp_Mo_48 (gMo_h0 hM) rfl hM1 ?_
  refine g_aload_n d_Mo_clearText_5 rfl 0 rfl ?_
  refine g_getI d_Mo_clearText_6 fl_Mo_124 (gMo_h0 hM) rfl ?_
  refine g_istore_n (L' := [(1, .int (M1 19 0 2)), (0, .ref (ε.2.2.1 19 0))]) d_Mo_clearText_9 rfl (by decide) rfl ?_
  refine g_aload_n d_Mo_clearText_10 rfl 1 rfl ?_
  refine g_iconst (v := 0) d_Mo_clearText_11 (by decide) ?_
  obtain ⟨M2, hM2, h⟩ := gOb h
  refine g_putO d_Mo_clearText_12 fp_Mo_124 (gMo_h0 hM) rfl hM2 ?_
  refine g_iload_n d_Mo_clearText_15 rfl 0 rfl ?_
  obtain rfl := Option.some.inj h
  exact g_iret d_Mo_clearText_16 rfl
theorem ct_Mo_clearText {l : Launch} {ε : gEnv} (hM : gMo ε) (M : gMem) (r : (Int32 × gMem)) (h : f_Mo_clearText M = some r) : gCt l ε k_Mo_clearText 0 0 [.ref (ε.2.2.1 19 0)] M (some (.int r.1)) r.2 :=
  gCt_of (by decide) (Nat.le_of_ble_eq_true rfl) rfl (t_Mo_clearText hM M r h)
abbrev k_Mo_figures : gMD := (⟨"DropSignalsModel", "figures", "(IIII)I"⟩, prog_11_method_36_code, 9, (some .int))
theorem w_1056 : Cond.instanceMethod ⟨"DropSignalsModel", "figures", "(IIII)I"⟩ ∈ gWs := gWs_in (i := 1056) (by decide +kernel) rfl
theorem w_22 : Cond.selects "DropSignalsModel" ⟨"DropSignalsModel", "figures", "(IIII)I"⟩ ⟨"DropSignalsModel", "figures", "(IIII)I"⟩ ∈ gWs := gWs_in (i := 22) (by decide +kernel) rfl
set_option maxRecDepth 100000 in
theorem ca_Mo_figures : gCaV k_Mo_figures 4 := ⟨⟨gWs_in (i := 1057) rfl rfl, w_43, by decide, by decide, by decide +kernel⟩, w_1056, w_22⟩
theorem d_Mo_figures_0 : decode prog_11_method_36_code 0 = .ok (.iconst 0, 1) := by decide +kernel
theorem d_Mo_figures_1 : decode prog_11_method_36_code 1 = .ok (.istore 5, 2) := by decide +kernel
theorem d_Mo_figures_3 : decode prog_11_method_36_code 3 = .ok (.iload_n 2, 1) := by decide +kernel
theorem d_Mo_figures_4 : decode prog_11_method_36_code 4 = .ok (.iconst 2, 1) := by decide +kernel
theorem d_Mo_figures_5 : decode prog_11_method_36_code 5 = .ok (.if_icmp .ne 8, 3) := by decide +kernel
theorem d_Mo_figures_8 : decode prog_11_method_36_code 8 = .ok (.bipush 10, 2) := by decide +kernel
theorem d_Mo_figures_10 : decode prog_11_method_36_code 10 = .ok (.goto 4, 3) := by decide +kernel
theorem d_Mo_figures_13 : decode prog_11_method_36_code 13 = .ok (.iconst 1, 1) := by decide +kernel
theorem d_Mo_figures_14 : decode prog_11_method_36_code 14 = .ok (.istore 6, 2) := by decide +kernel
theorem d_Mo_figures_16 : decode prog_11_method_36_code 16 = .ok (.iload 6, 2) := by decide +kernel
theorem d_Mo_figures_18 : decode prog_11_method_36_code 18 = .ok (.ifCond .le 104, 3) := by decide +kernel
theorem d_Mo_figures_21 : decode prog_11_method_36_code 21 = .ok (.iload_n 1, 1) := by decide +kernel
theorem d_Mo_figures_22 : decode prog_11_method_36_code 22 = .ok (.iconst (-1), 1) := by decide +kernel
theorem d_Mo_figures_23 : decode prog_11_method_36_code 23 = .ok (.if_icmp .eq 99, 3) := by decide +kernel
theorem d_Mo_figures_26 : decode prog_11_method_36_code 26 = .ok (.aload_n 0, 1) := by decide +kernel
theorem d_Mo_figures_27 : decode prog_11_method_36_code 27 = .ok (.getfield 130, 3) := by decide +kernel
theorem d_Mo_figures_30 : decode prog_11_method_36_code 30 = .ok (.aload_n 0, 1) := by decide +kernel
theorem d_Mo_figures_31 : decode prog_11_method_36_code 31 = .ok (.getfield 124, 3) := by decide +kernel
theorem d_Mo_figures_34 : decode prog_11_method_36_code 34 = .ok (.if_icmp .ge 18, 3) := by decide +kernel
theorem d_Mo_figures_37 : decode prog_11_method_36_code 37 = .ok (.aload_n 0, 1) := by decide +kernel
theorem d_Mo_figures_38 : decode prog_11_method_36_code 38 = .ok (.getfield 7, 3) := by decide +kernel
theorem d_Mo_figures_41 : decode prog_11_method_36_code 41 = .ok (.aload_n 0, 1) := by decide +kernel
theorem d_Mo_figures_42 : decode prog_11_method_36_code 42 = .ok (.getfield 130, 3) := by decide +kernel
theorem d_Mo_figures_45 : decode prog_11_method_36_code 45 = .ok (.iaload, 1) := by decide +kernel
theorem d_Mo_figures_46 : decode prog_11_method_36_code 46 = .ok (.bipush 48, 2) := by decide +kernel
theorem d_Mo_figures_48 : decode prog_11_method_36_code 48 = .ok (.isub, 1) := by decide +kernel
theorem d_Mo_figures_49 : decode prog_11_method_36_code 49 = .ok (.goto 4, 3) := by decide +kernel
theorem d_Mo_figures_52 : decode prog_11_method_36_code 52 = .ok (.iconst (-1), 1) := by decide +kernel
theorem d_Mo_figures_53 : decode prog_11_method_36_code 53 = .ok (.istore 7, 2) := by decide +kernel
theorem d_Mo_figures_55 : decode prog_11_method_36_code 55 = .ok (.iload 5, 2) := by decide +kernel
theorem d_Mo_figures_57 : decode prog_11_method_36_code 57 = .ok (.iload 7, 2) := by decide +kernel
theorem d_Mo_figures_59 : decode prog_11_method_36_code 59 = .ok (.iload 6, 2) := by decide +kernel
theorem d_Mo_figures_61 : decode prog_11_method_36_code 61 = .ok (.imul, 1) := by decide +kernel
theorem d_Mo_figures_62 : decode prog_11_method_36_code 62 = .ok (.iadd, 1) := by decide +kernel
theorem d_Mo_figures_63 : decode prog_11_method_36_code 63 = .ok (.istore 8, 2) := by decide +kernel
theorem d_Mo_figures_65 : decode prog_11_method_36_code 65 = .ok (.iload 7, 2) := by decide +kernel
theorem d_Mo_figures_67 : decode prog_11_method_36_code 67 = .ok (.i2l, 1) := by decide +kernel
theorem d_Mo_figures_68 : decode prog_11_method_36_code 68 = .ok (.lconst 0, 1) := by decide +kernel
theorem d_Mo_figures_69 : decode prog_11_method_36_code 69 = .ok (.ldc2_w 133, 3) := by decide +kernel
theorem d_Mo_figures_72 : decode prog_11_method_36_code 72 = .ok (.invokestatic 84, 3) := by decide +kernel
theorem d_Mo_figures_75 : decode prog_11_method_36_code 75 = .ok (.ifCond .eq 21, 3) := by decide +kernel
theorem d_Mo_figures_78 : decode prog_11_method_36_code 78 = .ok (.iload 8, 2) := by decide +kernel
theorem d_Mo_figures_80 : decode prog_11_method_36_code 80 = .ok (.iload 4, 2) := by decide +kernel
theorem d_Mo_figures_82 : decode prog_11_method_36_code 82 = .ok (.if_icmp .gt 14, 3) := by decide +kernel
theorem d_Mo_figures_85 : decode prog_11_method_36_code 85 = .ok (.iload 8, 2) := by decide +kernel
theorem d_Mo_figures_87 : decode prog_11_method_36_code 87 = .ok (.iload 6, 2) := by decide +kernel
theorem d_Mo_figures_89 : decode prog_11_method_36_code 89 = .ok (.iadd, 1) := by decide +kernel
theorem d_Mo_figures_90 : decode prog_11_method_36_code 90 = .ok (.iconst 1, 1) := by decide +kernel
theorem d_Mo_figures_91 : decode prog_11_method_36_code 91 = .ok (.isub, 1) := by decide +kernel
theorem d_Mo_figures_92 : decode prog_11_method_36_code 92 = .ok (.iload_n 3, 1) := by decide +kernel
theorem d_Mo_figures_93 : decode prog_11_method_36_code 93 = .ok (.if_icmp .ge 5, 3) := by decide +kernel
theorem d_Mo_figures_96 : decode prog_11_method_36_code 96 = .ok (.iconst (-1), 1) := by decide +kernel
theorem d_Mo_figures_97 : decode prog_11_method_36_code 97 = .ok (.ireturn, 1) := by decide +kernel
theorem d_Mo_figures_98 : decode prog_11_method_36_code 98 = .ok (.iload 8, 2) := by decide +kernel
theorem d_Mo_figures_100 : decode prog_11_method_36_code 100 = .ok (.istore 5, 2) := by decide +kernel
theorem d_Mo_figures_102 : decode prog_11_method_36_code 102 = .ok (.aload_n 0, 1) := by decide +kernel
theorem d_Mo_figures_103 : decode prog_11_method_36_code 103 = .ok (.dup, 1) := by decide +kernel
theorem d_Mo_figures_104 : decode prog_11_method_36_code 104 = .ok (.getfield 130, 3) := by decide +kernel
theorem d_Mo_figures_107 : decode prog_11_method_36_code 107 = .ok (.iconst 1, 1) := by decide +kernel
theorem d_Mo_figures_108 : decode prog_11_method_36_code 108 = .ok (.iadd, 1) := by decide +kernel
theorem d_Mo_figures_109 : decode prog_11_method_36_code 109 = .ok (.putfield 130, 3) := by decide +kernel
theorem d_Mo_figures_112 : decode prog_11_method_36_code 112 = .ok (.iload 6, 2) := by decide +kernel
theorem d_Mo_figures_114 : decode prog_11_method_36_code 114 = .ok (.bipush 10, 2) := by decide +kernel
theorem d_Mo_figures_116 : decode prog_11_method_36_code 116 = .ok (.idiv, 1) := by decide +kernel
theorem d_Mo_figures_117 : decode prog_11_method_36_code 117 = .ok (.istore 6, 2) := by decide +kernel
theorem d_Mo_figures_119 : decode prog_11_method_36_code 119 = .ok (.goto (-103), 3) := by decide +kernel
theorem d_Mo_figures_122 : decode prog_11_method_36_code 122 = .ok (.iload_n 1, 1) := by decide +kernel
theorem d_Mo_figures_123 : decode prog_11_method_36_code 123 = .ok (.iconst (-1), 1) := by decide +kernel
theorem d_Mo_figures_124 : decode prog_11_method_36_code 124 = .ok (.if_icmp .ne 7, 3) := by decide +kernel
theorem d_Mo_figures_127 : decode prog_11_method_36_code 127 = .ok (.iconst (-1), 1) := by decide +kernel
theorem d_Mo_figures_128 : decode prog_11_method_36_code 128 = .ok (.goto 5, 3) := by decide +kernel
theorem d_Mo_figures_131 : decode prog_11_method_36_code 131 = .ok (.iload 5, 2) := by decide +kernel
theorem d_Mo_figures_133 : decode prog_11_method_36_code 133 = .ok (.ireturn, 1) := by decide +kernel
theorem w_987 : Cond.fieldLink "DropSignalsModel" 130 "DropSignalsModel" "spot" "I" ∈ gWs := gWs_in (i := 987) (by decide +kernel) rfl
theorem fl_Mo_130 : gFl "DropSignalsModel" 130 8 14 := ⟨gN8, gF8, 16, rfl, uw_8, by decide, w_987⟩
theorem w_1058 : Cond.constantLong "DropSignalsModel" 133 (9) ∈ gWs := gWs_in (i := 1058) (by decide +kernel) rfl
theorem fp_Mo_130 : gFp "DropSignalsModel" 130 8 14 .int := ⟨gN8, gF8, 16, rfl, uw_8, by decide, w_987, ⟨gX8, gY8⟩, gD8, rfl, by decide +kernel⟩
noncomputable def f_Mo_figures_b122 (M : gMem) (x1 : Int32) (x5 : Int32) : Option (Int32 × gMem) :=
  if x1 = (-1) then
    some ((-1), M)
  else
    some (x5, M)
theorem t_Mo_figures_b122 {l : Launch} {ε : gEnv} (hM : gMo ε) (M : gMem) (x1 : Int32) (x5 : Int32) (r : (Int32 × gMem)) (h : f_Mo_figures_b122 M x1 x5 = some r) : gGo l ε k_Mo_figures (gR 1 25) (gFn ε (some (.int r.1)) r.2) 122 [(1, .int x1), (5, .int x5)] [] M := by
  unfold f_Mo_figures_b122 at h
  refine g_iload_n d_Mo_figures_122 rfl 0 rfl ?_
  refine g_iconst (v := -1) d_Mo_figures_123 (by decide) ?_
  refine g_icmp_ne (tgt := 131) d_Mo_figures_124 (by decide) (fun c1 => ?_) (fun c1 => ?_)
  · rw [if_neg c1] at h
    refine g_iload d_Mo_figures_131 1 rfl ?_
    obtain rfl := Option.some.inj h
    exact g_iret d_Mo_figures_133 rfl
  · rw [if_pos c1] at h
    refine g_iconst (v := -1) d_Mo_figures_127 (by decide) ?_
    refine g_goto (tgt := 133) d_Mo_figures_128 (by decide) ?_
    obtain rfl := Option.some.inj h
    exact g_iret d_Mo_figures_133 rfl
noncomputable def f_Mo_figures_b53 (M : gMem) (x1 : Int32) (x3 : Int32) (x4 : Int32) (x5 : Int32) (x6 : Int32) (s0 : Int32) : Option ((Int32 × Int32 × gMem) ⊕ (Int32 × gMem)) :=
  (f_Mo_in (Int32.toInt64 s0) 0 (9)).bind fun q2 =>
  if q2 = 0 then
    some (.inr ((-1), M))
  else
    if x4 < (x5 + (s0 * x6)) then
      some (.inr ((-1), M))
    else
      if x3 ≤ (((x5 + (s0 * x6)) + x6) - 1) then
        (gSO M 19 0 14 ((M 19 0 14) + 1)).bind fun M3 =>
        some (.inl ((x5 + (s0 * x6)), (x6 / 10), M3))
      else
        some (.inr ((-1), M))
theorem t_Mo_figures_b53 {l : Launch} {ε : gEnv} (hM : gMo ε) (M : gMem) (x1 : Int32) (x3 : Int32) (x4 : Int32) (x5 : Int32) (x6 : Int32) (s0 : Int32) (res : ((Int32 × Int32 × gMem) ⊕ (Int32 × gMem))) (h : f_Mo_figures_b53 M x1 x3 x4 x5 x6 s0 = some res) (r : (Int32 × gMem)) (k1 : ∀ s0 : (Int32 × Int32 × gMem), res = .inl s0 → gGo l ε k_Mo_figures (gR 1 25) (gFn ε (some (.int r.1)) r.2) 16 [(0, .ref (ε.2.2.1 19 0)), (1, .int x1), (3, .int x3), (4, .int x4), (5, .int s0.1), (6, .int s0.2.1)] [] s0.2.2) (k2 : ∀ r', res = .inr r' → r' = r) : gGo l ε k_Mo_figures (gR 1 25) (gFn ε (some (.int r.1)) r.2) 53 [(0, .ref (ε.2.2.1 19 0)), (1, .int x1), (3, .int x3), (4, .int x4), (5, .int x5), (6, .int x6)] [.int s0] M := by
  unfold f_Mo_figures_b53 at h
  refine g_istore (L' := [(7, .int s0), (0, .ref (ε.2.2.1 19 0)), (1, .int x1), (3, .int x3), (4, .int x4), (5, .int x5), (6, .int x6)]) d_Mo_figures_53 (by decide) rfl ?_
  refine g_iload d_Mo_figures_55 5 rfl ?_
  refine g_iload d_Mo_figures_57 0 rfl ?_
  refine g_iload d_Mo_figures_59 6 rfl ?_
  refine g_imul d_Mo_figures_61 ?_
  refine g_iadd d_Mo_figures_62 ?_
  refine g_istore (L' := [(8, .int (x5 + (s0 * x6))), (7, .int s0), (0, .ref (ε.2.2.1 19 0)), (1, .int x1), (3, .int x3), (4, .int x4), (5, .int x5), (6, .int x6)]) d_Mo_figures_63 (by decide) rfl ?_
  refine g_iload d_Mo_figures_65 1 rfl ?_
  refine g_i2l d_Mo_figures_67 ?_
  refine g_lconst (v := 0) d_Mo_figures_68 (by decide) ?_
  refine g_ldc2 d_Mo_figures_69 w_1058 ?_
  obtain ⟨q2, hq2, h⟩ := gOb h
  refine g_callS_i (As := [.long (Int32.toInt64 s0), .long 0, .long (9)]) (rest := []) (ct_Mo_in M (Int32.toInt64 s0) 0 (9) _ hq2) d_Mo_figures_72 ca_Mo_in w_1031 rfl rfl (Nat.le_of_ble_eq_true rfl) ⟨(Nat.le_of_ble_eq_true rfl), (Nat.le_of_ble_eq_true rfl)⟩ ?_
  refine g_if_eq (tgt := 96) d_Mo_figures_75 (by decide) (fun c6 => ?_) (fun c6 => ?_)
  · rw [if_pos c6] at h
    refine g_iconst (v := -1) d_Mo_figures_96 (by decide) ?_
    obtain rfl := Option.some.inj h
    have e9 := k2 _ rfl
    subst e9
    exact g_iret d_Mo_figures_97 rfl
  · rw [if_neg c6] at h
    refine g_iload d_Mo_figures_78 0 rfl ?_
    refine g_iload d_Mo_figures_80 5 rfl ?_
    refine g_icmp_gt (tgt := 96) d_Mo_figures_82 (by decide) (fun c5 => ?_) (fun c5 => ?_)
    · rw [if_pos c5] at h
      refine g_iconst (v := -1) d_Mo_figures_96 (by decide) ?_
      obtain rfl := Option.some.inj h
      have e9 := k2 _ rfl
      subst e9
      exact g_iret d_Mo_figures_97 rfl
    · rw [if_neg c5] at h
      refine g_iload d_Mo_figures_85 0 rfl ?_
      refine g_iload d_Mo_figures_87 7 rfl ?_
      refine g_iadd d_Mo_figures_89 ?_
      refine g_iconst (v := 1) d_Mo_figures_90 (by decide) ?_
      refine g_isub d_Mo_figures_91 ?_
      refine g_iload_n d_Mo_figures_92 rfl 4 rfl ?_
      refine g_icmp_ge (tgt := 98) d_Mo_figures_93 (by decide) (fun c4 => ?_) (fun c4 => ?_)
      · rw [if_pos c4] at h
        refine g_iload d_Mo_figures_98 0 rfl ?_
        refine g_istore (L' := [(5, .int (x5 + (s0 * x6))), (8, .int (x5 + (s0 * x6))), (7, .int s0), (0, .ref (ε.2.2.1 19 0)), (1, .int x1), (3, .int x3), (4, .int x4), (6, .int x6)]) d_Mo_figures_100 (by decide) rfl ?_
        refine g_aload_n d_Mo_figures_102 rfl 3 rfl ?_
        refine g_dup d_Mo_figures_103 rfl ?_
        refine g_getI d_Mo_figures_104 fl_Mo_130 (gMo_h0 hM) rfl ?_
        refine g_iconst (v := 1) d_Mo_figures_107 (by decide) ?_
        refine g_iadd d_Mo_figures_108 ?_
        obtain ⟨M3, hM3, h⟩ := gOb h
        refine g_putO d_Mo_figures_109 fp_Mo_130 (gMo_h0 hM) rfl hM3 ?_
        refine g_iload d_Mo_figures_112 7 rfl ?_
        refine g_bipush (v := 10) d_Mo_figures_114 (by decide) ?_
        refine g_idiv d_Mo_figures_116 (by decide) ?_
        refine g_istore (L' := [(6, .int (x6 / 10)), (5, .int (x5 + (s0 * x6))), (8, .int (x5 + (s0 * x6))), (7, .int s0), (0, .ref (ε.2.2.1 19 0)), (1, .int x1), (3, .int x3), (4, .int x4)]) d_Mo_figures_117 (by decide) rfl ?_
        refine g_goto (tgt := 16) d_Mo_figures_119 (by decide) ?_
        refine gGo_sub [4, 5, 6, 7, 1, 0] rfl ?_
        obtain rfl := Option.some.inj h
        exact k1 ((x5 + (s0 * x6)), (x6 / 10), M3) rfl
      · rw [if_neg c4] at h
        refine g_iconst (v := -1) d_Mo_figures_96 (by decide) ?_
        obtain rfl := Option.some.inj h
        have e9 := k2 _ rfl
        subst e9
        exact g_iret d_Mo_figures_97 rfl
noncomputable def f_Mo_figures_s16 (M : gMem) (x1 : Int32) (x3 : Int32) (x4 : Int32) (x5 : Int32) (x6 : Int32) : Option ((Int32 × Int32 × gMem) ⊕ (Int32 × gMem)) :=
  if x6 ≤ 0 then
    (f_Mo_figures_b122 M x1 x5).map .inr
  else
    if x1 = (-1) then
      (f_Mo_figures_b122 M x1 x5).map .inr
    else
      if (M 19 0 2) ≤ (M 19 0 14) then
        f_Mo_figures_b53 M x1 x3 x4 x5 x6 (-1)
      else
        (gRd 120 (M 19 1) (M 19 0 14)).bind fun v7 =>
        f_Mo_figures_b53 M x1 x3 x4 x5 x6 (v7 - 48)
theorem t_Mo_figures_s16 {l : Launch} {ε : gEnv} (hM : gMo ε) (M : gMem) (x1 : Int32) (x3 : Int32) (x4 : Int32) (x5 : Int32) (x6 : Int32) (res : ((Int32 × Int32 × gMem) ⊕ (Int32 × gMem))) (h : f_Mo_figures_s16 M x1 x3 x4 x5 x6 = some res) (r : (Int32 × gMem)) (k1 : ∀ s0 : (Int32 × Int32 × gMem), res = .inl s0 → gGo l ε k_Mo_figures (gR 1 25) (gFn ε (some (.int r.1)) r.2) 16 [(0, .ref (ε.2.2.1 19 0)), (1, .int x1), (3, .int x3), (4, .int x4), (5, .int s0.1), (6, .int s0.2.1)] [] s0.2.2) (k2 : ∀ r', res = .inr r' → r' = r) : gGo l ε k_Mo_figures (gR 1 25) (gFn ε (some (.int r.1)) r.2) 16 [(0, .ref (ε.2.2.1 19 0)), (1, .int x1), (3, .int x3), (4, .int x4), (5, .int x5), (6, .int x6)] [] M := by
  unfold f_Mo_figures_s16 at h
  refine g_iload d_Mo_figures_16 5 rfl ?_
  refine g_if_le (tgt := 122) d_Mo_figures_18 (by decide) (fun c10 => ?_) (fun c10 => ?_)
  · rw [if_pos c10] at h
    refine gGo_sub [1, 4] rfl ?_
    obtain ⟨r9, h9, h8⟩ := gOm h
    cases h8
    have e9 := k2 _ rfl
    subst e9
    exact t_Mo_figures_b122 hM M x1 x5 _ h9
  · rw [if_neg c10] at h
    refine g_iload_n d_Mo_figures_21 rfl 1 rfl ?_
    refine g_iconst (v := -1) d_Mo_figures_22 (by decide) ?_
    refine g_icmp_eq (tgt := 122) d_Mo_figures_23 (by decide) (fun c9 => ?_) (fun c9 => ?_)
    · rw [if_pos c9] at h
      refine gGo_sub [1, 4] rfl ?_
      obtain ⟨r9, h9, h8⟩ := gOm h
      cases h8
      have e9 := k2 _ rfl
      subst e9
      exact t_Mo_figures_b122 hM M x1 x5 _ h9
    · rw [if_neg c9] at h
      refine g_aload_n d_Mo_figures_26 rfl 0 rfl ?_
      refine g_getI d_Mo_figures_27 fl_Mo_130 (gMo_h0 hM) rfl ?_
      refine g_aload_n d_Mo_figures_30 rfl 0 rfl ?_
      refine g_getI d_Mo_figures_31 fl_Mo_124 (gMo_h0 hM) rfl ?_
      refine g_icmp_ge (tgt := 52) d_Mo_figures_34 (by decide) (fun c8 => ?_) (fun c8 => ?_)
      · rw [if_pos c8] at h
        refine g_iconst (v := -1) d_Mo_figures_52 (by decide) ?_
        exact t_Mo_figures_b53 hM M x1 x3 x4 x5 x6 (-1) _ h r k1 k2
      · rw [if_neg c8] at h
        refine g_aload_n d_Mo_figures_37 rfl 0 rfl ?_
        refine g_getR d_Mo_figures_38 fl_Mo_7 (gMo_h0 hM) rfl ?_
        refine g_aload_n d_Mo_figures_41 rfl 0 rfl ?_
        refine g_getI d_Mo_figures_42 fl_Mo_130 (gMo_h0 hM) rfl ?_
        obtain ⟨v7, hv7, h⟩ := gOb h
        refine g_iaload d_Mo_figures_45 (gMo_h1 hM) hv7 ?_
        refine g_bipush (v := 48) d_Mo_figures_46 (by decide) ?_
        refine g_isub d_Mo_figures_48 ?_
        refine g_goto (tgt := 53) d_Mo_figures_49 (by decide) ?_
        exact t_Mo_figures_b53 hM M x1 x3 x4 x5 x6 (v7 - 48) _ h r k1 k2
noncomputable def f_Mo_figures_l16 (x1 : Int32) (x3 : Int32) (x4 : Int32) (s : (Int32 × Int32 × gMem)) : Option (Int32 × gMem) := gLp (fun s => f_Mo_figures_s16 s.2.2 x1 x3 x4 s.1 s.2.1) s
theorem t_Mo_figures_l16 {l : Launch} {ε : gEnv} (hM : gMo ε) (x1 : Int32) (x3 : Int32) (x4 : Int32) (s : (Int32 × Int32 × gMem)) (r : (Int32 × gMem)) (h : f_Mo_figures_l16 x1 x3 x4 s = some r) : gGo l ε k_Mo_figures (gR 1 25) (gFn ε (some (.int r.1)) r.2) 16 [(0, .ref (ε.2.2.1 19 0)), (1, .int x1), (3, .int x3), (4, .int x4), (5, .int s.1), (6, .int s.2.1)] [] s.2.2 :=
  g_loop _ (fun r s => gGo l ε k_Mo_figures (gR 1 25) (gFn ε (some (.int r.1)) r.2) 16 [(0, .ref (ε.2.2.1 19 0)), (1, .int x1), (3, .int x3), (4, .int x4), (5, .int s.1), (6, .int s.2.1)] [] s.2.2) (fun s res h r k1 k2 => t_Mo_figures_s16 hM s.2.2 x1 x3 x4 s.1 s.2.1 res h r k1 k2) s r h
noncomputable def f_Mo_figures_b14 (M : gMem) (x1 : Int32) (x3 : Int32) (x4 : Int32) (x5 : Int32) (s0 : Int32) : Option (Int32 × gMem) :=
  f_Mo_figures_l16 x1 x3 x4 (x5, s0, M)
theorem t_Mo_figures_b14 {l : Launch} {ε : gEnv} (hM : gMo ε) (M : gMem) (x1 : Int32) (x3 : Int32) (x4 : Int32) (x5 : Int32) (s0 : Int32) (r : (Int32 × gMem)) (h : f_Mo_figures_b14 M x1 x3 x4 x5 s0 = some r) : gGo l ε k_Mo_figures (gR 1 25) (gFn ε (some (.int r.1)) r.2) 14 [(0, .ref (ε.2.2.1 19 0)), (1, .int x1), (3, .int x3), (4, .int x4), (5, .int x5)] [.int s0] M := by
  unfold f_Mo_figures_b14 at h
  refine g_istore (L' := [(6, .int s0), (0, .ref (ε.2.2.1 19 0)), (1, .int x1), (3, .int x3), (4, .int x4), (5, .int x5)]) d_Mo_figures_14 (by decide) rfl ?_
  refine gGo_sub [1, 2, 3, 4, 5, 0] rfl ?_
  exact t_Mo_figures_l16 hM x1 x3 x4 (x5, s0, M) _ h
noncomputable def f_Mo_figures (M : gMem) (a0 : Int32) (a1 : Int32) (a2 : Int32) (a3 : Int32) : Option (Int32 × gMem) :=
  if a1 = 2 then
    f_Mo_figures_b14 M a0 a2 a3 0 10
  else
    f_Mo_figures_b14 M a0 a2 a3 0 1
theorem t_Mo_figures {l : Launch} {ε : gEnv} (hM : gMo ε) (M : gMem) (a0 : Int32) (a1 : Int32) (a2 : Int32) (a3 : Int32) (r : (Int32 × gMem)) (h : f_Mo_figures M a0 a1 a2 a3 = some r) : gGo l ε k_Mo_figures (gR 1 25) (gFn ε (some (.int r.1)) r.2) 0 [(0, .ref (ε.2.2.1 19 0)), (1, .int a0), (2, .int a1), (3, .int a2), (4, .int a3)] [] M := by
  unfold f_Mo_figures at h
  refine g_iconst (v := 0) d_Mo_figures_0 (by decide) ?_
  refine g_istore (L' := [(5, .int 0), (0, .ref (ε.2.2.1 19 0)), (1, .int a0), (2, .int a1), (3, .int a2), (4, .int a3)]) d_Mo_figures_1 (by decide) rfl ?_
  refine g_iload_n d_Mo_figures_3 rfl 3 rfl ?_
  refine g_iconst (v := 2) d_Mo_figures_4 (by decide) ?_
  refine g_icmp_ne (tgt := 13) d_Mo_figures_5 (by decide) (fun c11 => ?_) (fun c11 => ?_)
  · rw [if_neg c11] at h
    refine g_iconst (v := 1) d_Mo_figures_13 (by decide) ?_
    refine gGo_sub [1, 2, 4, 5, 0] rfl ?_
    exact t_Mo_figures_b14 hM M a0 a2 a3 0 1 _ h
  · rw [if_pos c11] at h
    refine g_bipush (v := 10) d_Mo_figures_8 (by decide) ?_
    refine g_goto (tgt := 14) d_Mo_figures_10 (by decide) ?_
    refine gGo_sub [1, 2, 4, 5, 0] rfl ?_
    exact t_Mo_figures_b14 hM M a0 a2 a3 0 10 _ h
theorem ct_Mo_figures {l : Launch} {ε : gEnv} (hM : gMo ε) (M : gMem) (a0 : Int32) (a1 : Int32) (a2 : Int32) (a3 : Int32) (r : (Int32 × gMem)) (h : f_Mo_figures M a0 a1 a2 a3 = some r) : gCt l ε k_Mo_figures 1 25 [.ref (ε.2.2.1 19 0), .int a0, .int a1, .int a2, .int a3] M (some (.int r.1)) r.2 :=
  gCt_of (by decide) (Nat.le_of_ble_eq_true rfl) rfl (t_Mo_figures hM M a0 a1 a2 a3 r h)
abbrev k_Mo_done : gMD := (⟨"DropSignalsModel", "done", "(Z)Z"⟩, prog_11_method_37_code, 2, (some .boolean))
theorem w_1067 : Cond.instanceMethod ⟨"DropSignalsModel", "done", "(Z)Z"⟩ ∈ gWs := gWs_in (i := 1067) (by decide +kernel) rfl
theorem w_24 : Cond.selects "DropSignalsModel" ⟨"DropSignalsModel", "done", "(Z)Z"⟩ ⟨"DropSignalsModel", "done", "(Z)Z"⟩ ∈ gWs := gWs_in (i := 24) (by decide +kernel) rfl
set_option maxRecDepth 100000 in
theorem ca_Mo_done : gCaV k_Mo_done 1 := ⟨⟨gWs_in (i := 1068) rfl rfl, w_43, by decide, by decide, by decide +kernel⟩, w_1067, w_24⟩
theorem d_Mo_done_0 : decode prog_11_method_37_code 0 = .ok (.aload_n 0, 1) := by decide +kernel
theorem d_Mo_done_1 : decode prog_11_method_37_code 1 = .ok (.dup, 1) := by decide +kernel
theorem d_Mo_done_2 : decode prog_11_method_37_code 2 = .ok (.getfield 135, 3) := by decide +kernel
theorem d_Mo_done_5 : decode prog_11_method_37_code 5 = .ok (.iload_n 1, 1) := by decide +kernel
theorem d_Mo_done_6 : decode prog_11_method_37_code 6 = .ok (.ifCond .eq 7, 3) := by decide +kernel
theorem d_Mo_done_9 : decode prog_11_method_37_code 9 = .ok (.iconst 0, 1) := by decide +kernel
theorem d_Mo_done_10 : decode prog_11_method_37_code 10 = .ok (.goto 4, 3) := by decide +kernel
theorem d_Mo_done_13 : decode prog_11_method_37_code 13 = .ok (.iconst 1, 1) := by decide +kernel
theorem d_Mo_done_14 : decode prog_11_method_37_code 14 = .ok (.iadd, 1) := by decide +kernel
theorem d_Mo_done_15 : decode prog_11_method_37_code 15 = .ok (.putfield 135, 3) := by decide +kernel
theorem d_Mo_done_18 : decode prog_11_method_37_code 18 = .ok (.iconst 1, 1) := by decide +kernel
theorem d_Mo_done_19 : decode prog_11_method_37_code 19 = .ok (.ireturn, 1) := by decide +kernel
theorem w_988 : Cond.fieldLink "DropSignalsModel" 135 "DropSignalsModel" "out" "I" ∈ gWs := gWs_in (i := 988) (by decide +kernel) rfl
theorem fl_Mo_135 : gFl "DropSignalsModel" 135 8 15 := ⟨gN8, gF8, 16, rfl, uw_8, by decide, w_988⟩
theorem fp_Mo_135 : gFp "DropSignalsModel" 135 8 15 .int := ⟨gN8, gF8, 16, rfl, uw_8, by decide, w_988, ⟨gX8, gY8⟩, gD8, rfl, by decide +kernel⟩
noncomputable def f_Mo_done_b14 (M : gMem) (s0 : Int32) (s1 : Int32) : Option (Int32 × gMem) :=
  (gSO M 19 0 15 (s1 + s0)).bind fun M1 =>
  some (1, M1)
theorem t_Mo_done_b14 {l : Launch} {ε : gEnv} (hM : gMo ε) (M : gMem) (s0 : Int32) (s1 : Int32) (r : (Int32 × gMem)) (h : f_Mo_done_b14 M s0 s1 = some r) : gGo l ε k_Mo_done (gR 0 0) (gFn ε (some (.int r.1)) r.2) 14 [] [.int s0, .int s1, .ref (ε.2.2.1 19 0)] M := by
  unfold f_Mo_done_b14 at h
  refine g_iadd d_Mo_done_14 ?_
  obtain ⟨M1, hM1, h⟩ := gOb h
  refine g_putO d_Mo_done_15 fp_Mo_135 (gMo_h0 hM) rfl hM1 ?_
  refine g_iconst (v := 1) d_Mo_done_18 (by decide) ?_
  obtain rfl := Option.some.inj h
  exact g_zret d_Mo_done_19 rfl gZ1
noncomputable def f_Mo_done (M : gMem) (a0 : Int32) : Option (Int32 × gMem) :=
  if a0 = 0 then
    f_Mo_done_b14 M 1 (M 19 0 15)
  else
    f_Mo_done_b14 M 0 (M 19 0 15)
theorem t_Mo_done {l : Launch} {ε : gEnv} (hM : gMo ε) (M : gMem) (a0 : Int32) (r : (Int32 × gMem)) (h : f_Mo_done M a0 = some r) : gGo l ε k_Mo_done (gR 0 0) (gFn ε (some (.int r.1)) r.2) 0 [(0, .ref (ε.2.2.1 19 0)), (1, .int a0)] [] M := by
  unfold f_Mo_done at h
  refine g_aload_n d_Mo_done_0 rfl 0 rfl ?_
  refine g_dup d_Mo_done_1 rfl ?_
  refine g_getI d_Mo_done_2 fl_Mo_135 (gMo_h0 hM) rfl ?_
  refine g_iload_n d_Mo_done_5 rfl 1 rfl ?_
  refine g_if_eq (tgt := 13) d_Mo_done_6 (by decide) (fun c2 => ?_) (fun c2 => ?_)
  · rw [if_pos c2] at h
    refine g_iconst (v := 1) d_Mo_done_13 (by decide) ?_
    refine gGo_sub [] rfl ?_
    exact t_Mo_done_b14 hM M 1 (M 19 0 15) _ h
  · rw [if_neg c2] at h
    refine g_iconst (v := 0) d_Mo_done_9 (by decide) ?_
    refine g_goto (tgt := 14) d_Mo_done_10 (by decide) ?_
    refine gGo_sub [] rfl ?_
    exact t_Mo_done_b14 hM M 0 (M 19 0 15) _ h
theorem ct_Mo_done {l : Launch} {ε : gEnv} (hM : gMo ε) (M : gMem) (a0 : Int32) (r : (Int32 × gMem)) (h : f_Mo_done M a0 = some r) : gCt l ε k_Mo_done 0 0 [.ref (ε.2.2.1 19 0), .int a0] M (some (.int r.1)) r.2 :=
  gCt_of (by decide) (Nat.le_of_ble_eq_true rfl) rfl (t_Mo_done hM M a0 r h)
abbrev k_Mo_readCommand : gMD := (⟨"DropSignalsModel", "readCommand", "([I)Z"⟩, prog_11_method_38_code, 5, (some .boolean))
theorem w_1052 : Cond.instanceMethod ⟨"DropSignalsModel", "readCommand", "([I)Z"⟩ ∈ gWs := gWs_in (i := 1052) (by decide +kernel) rfl
theorem w_21 : Cond.selects "DropSignalsModel" ⟨"DropSignalsModel", "readCommand", "([I)Z"⟩ ⟨"DropSignalsModel", "readCommand", "([I)Z"⟩ ∈ gWs := gWs_in (i := 21) (by decide +kernel) rfl
set_option maxRecDepth 100000 in
theorem ca_Mo_readCommand : gCaV k_Mo_readCommand 1 := ⟨⟨gWs_in (i := 1053) rfl rfl, w_43, by decide, by decide, by decide +kernel⟩, w_1052, w_21⟩
theorem d_Mo_readCommand_0 : decode prog_11_method_38_code 0 = .ok (.aload_n 0, 1) := by decide +kernel
theorem d_Mo_readCommand_1 : decode prog_11_method_38_code 1 = .ok (.getfield 7, 3) := by decide +kernel
theorem d_Mo_readCommand_4 : decode prog_11_method_38_code 4 = .ok (.aload_n 0, 1) := by decide +kernel
theorem d_Mo_readCommand_5 : decode prog_11_method_38_code 5 = .ok (.getfield 130, 3) := by decide +kernel
theorem d_Mo_readCommand_8 : decode prog_11_method_38_code 8 = .ok (.iaload, 1) := by decide +kernel
theorem d_Mo_readCommand_9 : decode prog_11_method_38_code 9 = .ok (.istore_n 2, 1) := by decide +kernel
theorem d_Mo_readCommand_10 : decode prog_11_method_38_code 10 = .ok (.aload_n 0, 1) := by decide +kernel
theorem d_Mo_readCommand_11 : decode prog_11_method_38_code 11 = .ok (.dup, 1) := by decide +kernel
theorem d_Mo_readCommand_12 : decode prog_11_method_38_code 12 = .ok (.getfield 130, 3) := by decide +kernel
theorem d_Mo_readCommand_15 : decode prog_11_method_38_code 15 = .ok (.iconst 1, 1) := by decide +kernel
theorem d_Mo_readCommand_16 : decode prog_11_method_38_code 16 = .ok (.iadd, 1) := by decide +kernel
theorem d_Mo_readCommand_17 : decode prog_11_method_38_code 17 = .ok (.putfield 130, 3) := by decide +kernel
theorem d_Mo_readCommand_20 : decode prog_11_method_38_code 20 = .ok (.iload_n 2, 1) := by decide +kernel
theorem d_Mo_readCommand_21 : decode prog_11_method_38_code 21 = .ok (.lookupswitch 244 #[(97, 237), (98, 94), (99, 181), (100, 51), (112, 157)], 51) := by decide +kernel
theorem d_Mo_readCommand_72 : decode prog_11_method_38_code 72 = .ok (.aload_n 0, 1) := by decide +kernel
theorem d_Mo_readCommand_73 : decode prog_11_method_38_code 73 = .ok (.iconst 0, 1) := by decide +kernel
theorem d_Mo_readCommand_74 : decode prog_11_method_38_code 74 = .ok (.iconst 2, 1) := by decide +kernel
theorem d_Mo_readCommand_75 : decode prog_11_method_38_code 75 = .ok (.iconst 0, 1) := by decide +kernel
theorem d_Mo_readCommand_76 : decode prog_11_method_38_code 76 = .ok (.bipush 99, 2) := by decide +kernel
theorem d_Mo_readCommand_78 : decode prog_11_method_38_code 78 = .ok (.invokevirtual 138, 3) := by decide +kernel
theorem d_Mo_readCommand_81 : decode prog_11_method_38_code 81 = .ok (.istore_n 3, 1) := by decide +kernel
theorem d_Mo_readCommand_82 : decode prog_11_method_38_code 82 = .ok (.iload_n 3, 1) := by decide +kernel
theorem d_Mo_readCommand_83 : decode prog_11_method_38_code 83 = .ok (.iconst (-1), 1) := by decide +kernel
theorem d_Mo_readCommand_84 : decode prog_11_method_38_code 84 = .ok (.if_icmp .eq 29, 3) := by decide +kernel
theorem d_Mo_readCommand_87 : decode prog_11_method_38_code 87 = .ok (.aload_n 0, 1) := by decide +kernel
theorem d_Mo_readCommand_88 : decode prog_11_method_38_code 88 = .ok (.aload_n 0, 1) := by decide +kernel
theorem d_Mo_readCommand_89 : decode prog_11_method_38_code 89 = .ok (.aload_n 1, 1) := by decide +kernel
theorem d_Mo_readCommand_90 : decode prog_11_method_38_code 90 = .ok (.iload_n 3, 1) := by decide +kernel
theorem d_Mo_readCommand_91 : decode prog_11_method_38_code 91 = .ok (.i2l, 1) := by decide +kernel
theorem d_Mo_readCommand_92 : decode prog_11_method_38_code 92 = .ok (.invokevirtual 142, 3) := by decide +kernel
theorem d_Mo_readCommand_95 : decode prog_11_method_38_code 95 = .ok (.ifCond .le 7, 3) := by decide +kernel
theorem d_Mo_readCommand_98 : decode prog_11_method_38_code 98 = .ok (.iconst 1, 1) := by decide +kernel
theorem d_Mo_readCommand_99 : decode prog_11_method_38_code 99 = .ok (.goto 4, 3) := by decide +kernel
theorem d_Mo_readCommand_102 : decode prog_11_method_38_code 102 = .ok (.iconst 0, 1) := by decide +kernel
theorem d_Mo_readCommand_103 : decode prog_11_method_38_code 103 = .ok (.invokevirtual 146, 3) := by decide +kernel
theorem d_Mo_readCommand_106 : decode prog_11_method_38_code 106 = .ok (.ifCond .eq 7, 3) := by decide +kernel
theorem d_Mo_readCommand_109 : decode prog_11_method_38_code 109 = .ok (.iconst 1, 1) := by decide +kernel
theorem d_Mo_readCommand_110 : decode prog_11_method_38_code 110 = .ok (.goto 4, 3) := by decide +kernel
theorem d_Mo_readCommand_113 : decode prog_11_method_38_code 113 = .ok (.iconst 0, 1) := by decide +kernel
theorem d_Mo_readCommand_114 : decode prog_11_method_38_code 114 = .ok (.ireturn, 1) := by decide +kernel
theorem d_Mo_readCommand_115 : decode prog_11_method_38_code 115 = .ok (.aload_n 0, 1) := by decide +kernel
theorem d_Mo_readCommand_116 : decode prog_11_method_38_code 116 = .ok (.iconst 0, 1) := by decide +kernel
theorem d_Mo_readCommand_117 : decode prog_11_method_38_code 117 = .ok (.iconst 1, 1) := by decide +kernel
theorem d_Mo_readCommand_118 : decode prog_11_method_38_code 118 = .ok (.iconst 1, 1) := by decide +kernel
theorem d_Mo_readCommand_119 : decode prog_11_method_38_code 119 = .ok (.iconst 4, 1) := by decide +kernel
theorem d_Mo_readCommand_120 : decode prog_11_method_38_code 120 = .ok (.invokevirtual 138, 3) := by decide +kernel
theorem d_Mo_readCommand_123 : decode prog_11_method_38_code 123 = .ok (.istore_n 3, 1) := by decide +kernel
theorem d_Mo_readCommand_124 : decode prog_11_method_38_code 124 = .ok (.aload_n 0, 1) := by decide +kernel
theorem d_Mo_readCommand_125 : decode prog_11_method_38_code 125 = .ok (.iload_n 3, 1) := by decide +kernel
theorem d_Mo_readCommand_126 : decode prog_11_method_38_code 126 = .ok (.iconst 1, 1) := by decide +kernel
theorem d_Mo_readCommand_127 : decode prog_11_method_38_code 127 = .ok (.iconst 0, 1) := by decide +kernel
theorem d_Mo_readCommand_128 : decode prog_11_method_38_code 128 = .ok (.iconst 4, 1) := by decide +kernel
theorem d_Mo_readCommand_129 : decode prog_11_method_38_code 129 = .ok (.invokevirtual 138, 3) := by decide +kernel
theorem d_Mo_readCommand_132 : decode prog_11_method_38_code 132 = .ok (.istore 4, 2) := by decide +kernel
theorem d_Mo_readCommand_134 : decode prog_11_method_38_code 134 = .ok (.iload 4, 2) := by decide +kernel
theorem d_Mo_readCommand_136 : decode prog_11_method_38_code 136 = .ok (.iconst (-1), 1) := by decide +kernel
theorem d_Mo_readCommand_137 : decode prog_11_method_38_code 137 = .ok (.if_icmp .eq 39, 3) := by decide +kernel
theorem d_Mo_readCommand_140 : decode prog_11_method_38_code 140 = .ok (.aload_n 0, 1) := by decide +kernel
theorem d_Mo_readCommand_141 : decode prog_11_method_38_code 141 = .ok (.aload_n 1, 1) := by decide +kernel
theorem d_Mo_readCommand_142 : decode prog_11_method_38_code 142 = .ok (.iload_n 3, 1) := by decide +kernel
theorem d_Mo_readCommand_143 : decode prog_11_method_38_code 143 = .ok (.iload 4, 2) := by decide +kernel
theorem d_Mo_readCommand_145 : decode prog_11_method_38_code 145 = .ok (.invokestatic 150, 3) := by decide +kernel
theorem d_Mo_readCommand_148 : decode prog_11_method_38_code 148 = .ok (.ifCond .eq 17, 3) := by decide +kernel
theorem d_Mo_readCommand_151 : decode prog_11_method_38_code 151 = .ok (.aload_n 1, 1) := by decide +kernel
theorem d_Mo_readCommand_152 : decode prog_11_method_38_code 152 = .ok (.iload_n 3, 1) := by decide +kernel
theorem d_Mo_readCommand_153 : decode prog_11_method_38_code 153 = .ok (.iload 4, 2) := by decide +kernel
theorem d_Mo_readCommand_155 : decode prog_11_method_38_code 155 = .ok (.invokestatic 154, 3) := by decide +kernel
theorem d_Mo_readCommand_158 : decode prog_11_method_38_code 158 = .ok (.ifCond .lt 7, 3) := by decide +kernel
theorem d_Mo_readCommand_161 : decode prog_11_method_38_code 161 = .ok (.iconst 1, 1) := by decide +kernel
theorem d_Mo_readCommand_162 : decode prog_11_method_38_code 162 = .ok (.goto 4, 3) := by decide +kernel
theorem d_Mo_readCommand_165 : decode prog_11_method_38_code 165 = .ok (.iconst 0, 1) := by decide +kernel
theorem d_Mo_readCommand_166 : decode prog_11_method_38_code 166 = .ok (.invokevirtual 146, 3) := by decide +kernel
theorem d_Mo_readCommand_169 : decode prog_11_method_38_code 169 = .ok (.ifCond .eq 7, 3) := by decide +kernel
theorem d_Mo_readCommand_172 : decode prog_11_method_38_code 172 = .ok (.iconst 1, 1) := by decide +kernel
theorem d_Mo_readCommand_173 : decode prog_11_method_38_code 173 = .ok (.goto 4, 3) := by decide +kernel
theorem d_Mo_readCommand_176 : decode prog_11_method_38_code 176 = .ok (.iconst 0, 1) := by decide +kernel
theorem d_Mo_readCommand_177 : decode prog_11_method_38_code 177 = .ok (.ireturn, 1) := by decide +kernel
theorem d_Mo_readCommand_178 : decode prog_11_method_38_code 178 = .ok (.aload_n 0, 1) := by decide +kernel
theorem d_Mo_readCommand_179 : decode prog_11_method_38_code 179 = .ok (.aload_n 1, 1) := by decide +kernel
theorem d_Mo_readCommand_180 : decode prog_11_method_38_code 180 = .ok (.iconst 1, 1) := by decide +kernel
theorem d_Mo_readCommand_181 : decode prog_11_method_38_code 181 = .ok (.iaload, 1) := by decide +kernel
theorem d_Mo_readCommand_182 : decode prog_11_method_38_code 182 = .ok (.iconst 1, 1) := by decide +kernel
theorem d_Mo_readCommand_183 : decode prog_11_method_38_code 183 = .ok (.if_icmp .ne 14, 3) := by decide +kernel
theorem d_Mo_readCommand_186 : decode prog_11_method_38_code 186 = .ok (.aload_n 1, 1) := by decide +kernel
theorem d_Mo_readCommand_187 : decode prog_11_method_38_code 187 = .ok (.invokestatic 157, 3) := by decide +kernel
theorem d_Mo_readCommand_190 : decode prog_11_method_38_code 190 = .ok (.ifCond .le 7, 3) := by decide +kernel
theorem d_Mo_readCommand_193 : decode prog_11_method_38_code 193 = .ok (.iconst 1, 1) := by decide +kernel
theorem d_Mo_readCommand_194 : decode prog_11_method_38_code 194 = .ok (.goto 4, 3) := by decide +kernel
theorem d_Mo_readCommand_197 : decode prog_11_method_38_code 197 = .ok (.iconst 0, 1) := by decide +kernel
theorem d_Mo_readCommand_198 : decode prog_11_method_38_code 198 = .ok (.invokevirtual 146, 3) := by decide +kernel
theorem d_Mo_readCommand_201 : decode prog_11_method_38_code 201 = .ok (.ireturn, 1) := by decide +kernel
theorem d_Mo_readCommand_202 : decode prog_11_method_38_code 202 = .ok (.aload_n 0, 1) := by decide +kernel
theorem d_Mo_readCommand_203 : decode prog_11_method_38_code 203 = .ok (.iconst 0, 1) := by decide +kernel
theorem d_Mo_readCommand_204 : decode prog_11_method_38_code 204 = .ok (.iconst 2, 1) := by decide +kernel
theorem d_Mo_readCommand_205 : decode prog_11_method_38_code 205 = .ok (.iconst 0, 1) := by decide +kernel
theorem d_Mo_readCommand_206 : decode prog_11_method_38_code 206 = .ok (.bipush 31, 2) := by decide +kernel
theorem d_Mo_readCommand_208 : decode prog_11_method_38_code 208 = .ok (.invokevirtual 138, 3) := by decide +kernel
theorem d_Mo_readCommand_211 : decode prog_11_method_38_code 211 = .ok (.istore_n 3, 1) := by decide +kernel
theorem d_Mo_readCommand_212 : decode prog_11_method_38_code 212 = .ok (.iload_n 3, 1) := by decide +kernel
theorem d_Mo_readCommand_213 : decode prog_11_method_38_code 213 = .ok (.iconst (-1), 1) := by decide +kernel
theorem d_Mo_readCommand_214 : decode prog_11_method_38_code 214 = .ok (.if_icmp .eq 42, 3) := by decide +kernel
theorem d_Mo_readCommand_217 : decode prog_11_method_38_code 217 = .ok (.aload_n 0, 1) := by decide +kernel
theorem d_Mo_readCommand_218 : decode prog_11_method_38_code 218 = .ok (.aload_n 1, 1) := by decide +kernel
theorem d_Mo_readCommand_219 : decode prog_11_method_38_code 219 = .ok (.iconst 1, 1) := by decide +kernel
theorem d_Mo_readCommand_220 : decode prog_11_method_38_code 220 = .ok (.iaload, 1) := by decide +kernel
theorem d_Mo_readCommand_221 : decode prog_11_method_38_code 221 = .ok (.iconst 2, 1) := by decide +kernel
theorem d_Mo_readCommand_222 : decode prog_11_method_38_code 222 = .ok (.if_icmp .ne 23, 3) := by decide +kernel
theorem d_Mo_readCommand_225 : decode prog_11_method_38_code 225 = .ok (.aload_n 1, 1) := by decide +kernel
theorem d_Mo_readCommand_226 : decode prog_11_method_38_code 226 = .ok (.iload_n 3, 1) := by decide +kernel
theorem d_Mo_readCommand_227 : decode prog_11_method_38_code 227 = .ok (.invokestatic 74, 3) := by decide +kernel
theorem d_Mo_readCommand_230 : decode prog_11_method_38_code 230 = .ok (.ifCond .ne 15, 3) := by decide +kernel
theorem d_Mo_readCommand_233 : decode prog_11_method_38_code 233 = .ok (.aload_n 1, 1) := by decide +kernel
theorem d_Mo_readCommand_234 : decode prog_11_method_38_code 234 = .ok (.iload_n 3, 1) := by decide +kernel
theorem d_Mo_readCommand_235 : decode prog_11_method_38_code 235 = .ok (.invokestatic 160, 3) := by decide +kernel
theorem d_Mo_readCommand_238 : decode prog_11_method_38_code 238 = .ok (.ifCond .ne 7, 3) := by decide +kernel
theorem d_Mo_readCommand_241 : decode prog_11_method_38_code 241 = .ok (.iconst 1, 1) := by decide +kernel
theorem d_Mo_readCommand_242 : decode prog_11_method_38_code 242 = .ok (.goto 4, 3) := by decide +kernel
theorem d_Mo_readCommand_245 : decode prog_11_method_38_code 245 = .ok (.iconst 0, 1) := by decide +kernel
theorem d_Mo_readCommand_246 : decode prog_11_method_38_code 246 = .ok (.invokevirtual 146, 3) := by decide +kernel
theorem d_Mo_readCommand_249 : decode prog_11_method_38_code 249 = .ok (.ifCond .eq 7, 3) := by decide +kernel
theorem d_Mo_readCommand_252 : decode prog_11_method_38_code 252 = .ok (.iconst 1, 1) := by decide +kernel
theorem d_Mo_readCommand_253 : decode prog_11_method_38_code 253 = .ok (.goto 4, 3) := by decide +kernel
theorem d_Mo_readCommand_256 : decode prog_11_method_38_code 256 = .ok (.iconst 0, 1) := by decide +kernel
theorem d_Mo_readCommand_257 : decode prog_11_method_38_code 257 = .ok (.ireturn, 1) := by decide +kernel
theorem d_Mo_readCommand_258 : decode prog_11_method_38_code 258 = .ok (.aload_n 1, 1) := by decide +kernel
theorem d_Mo_readCommand_259 : decode prog_11_method_38_code 259 = .ok (.invokestatic 163, 3) := by decide +kernel
theorem d_Mo_readCommand_262 : decode prog_11_method_38_code 262 = .ok (.pop, 1) := by decide +kernel
theorem d_Mo_readCommand_263 : decode prog_11_method_38_code 263 = .ok (.iconst 1, 1) := by decide +kernel
theorem d_Mo_readCommand_264 : decode prog_11_method_38_code 264 = .ok (.ireturn, 1) := by decide +kernel
theorem d_Mo_readCommand_265 : decode prog_11_method_38_code 265 = .ok (.aload_n 0, 1) := by decide +kernel
theorem d_Mo_readCommand_266 : decode prog_11_method_38_code 266 = .ok (.dup, 1) := by decide +kernel
theorem d_Mo_readCommand_267 : decode prog_11_method_38_code 267 = .ok (.getfield 130, 3) := by decide +kernel
theorem d_Mo_readCommand_270 : decode prog_11_method_38_code 270 = .ok (.iconst 1, 1) := by decide +kernel
theorem d_Mo_readCommand_271 : decode prog_11_method_38_code 271 = .ok (.isub, 1) := by decide +kernel
theorem d_Mo_readCommand_272 : decode prog_11_method_38_code 272 = .ok (.putfield 130, 3) := by decide +kernel
theorem d_Mo_readCommand_275 : decode prog_11_method_38_code 275 = .ok (.iconst 0, 1) := by decide +kernel
theorem d_Mo_readCommand_276 : decode prog_11_method_38_code 276 = .ok (.ireturn, 1) := by decide +kernel
theorem w_1117 : Cond.methodLink "DropSignalsModel" 163 ⟨"DropSignalsModel", "playAdvice", "([I)Z"⟩ ∈ gWs := gWs_in (i := 1117) (by decide +kernel) rfl
theorem w_1054 : Cond.methodLink "DropSignalsModel" 138 ⟨"DropSignalsModel", "figures", "(IIII)I"⟩ ∈ gWs := gWs_in (i := 1054) (by decide +kernel) rfl
theorem w_1069 : Cond.methodLink "DropSignalsModel" 150 ⟨"DropSignalsModel", "canBid", "([III)Z"⟩ ∈ gWs := gWs_in (i := 1069) (by decide +kernel) rfl
theorem w_1065 : Cond.methodLink "DropSignalsModel" 146 ⟨"DropSignalsModel", "done", "(Z)Z"⟩ ∈ gWs := gWs_in (i := 1065) (by decide +kernel) rfl
theorem w_1072 : Cond.methodLink "DropSignalsModel" 154 ⟨"DropSignalsModel", "bidOn", "([III)I"⟩ ∈ gWs := gWs_in (i := 1072) (by decide +kernel) rfl
theorem w_1093 : Cond.methodLink "DropSignalsModel" 160 ⟨"DropSignalsModel", "playOn", "([II)I"⟩ ∈ gWs := gWs_in (i := 1093) (by decide +kernel) rfl
theorem w_1059 : Cond.methodLink "DropSignalsModel" 142 ⟨"DropSignalsModel", "dealOn", "([IJ)I"⟩ ∈ gWs := gWs_in (i := 1059) (by decide +kernel) rfl
theorem w_1075 : Cond.methodLink "DropSignalsModel" 157 ⟨"DropSignalsModel", "passOn", "([I)I"⟩ ∈ gWs := gWs_in (i := 1075) (by decide +kernel) rfl
noncomputable def f_Mo_readCommand_b166 (g0 : Nat) (c0 : Nat) (n0 : Nat) (M : gMem) (s0 : Int32) : Option (Int32 × gMem) :=
  (f_Mo_done M s0).bind fun q9 =>
  if q9.1 = 0 then
    some (0, q9.2)
  else
    some (1, q9.2)
theorem t_Mo_readCommand_b166 {l : Launch} {ε : gEnv} (g0 : Nat) (c0 : Nat) (n0 : Nat) (hM : gMo ε) (h0 : gHas ε g0 c0 (0, n0, [])) (M : gMem) (s0 : Int32) (r : (Int32 × gMem)) (h : f_Mo_readCommand_b166 g0 c0 n0 M s0 = some r) : gGo l ε k_Mo_readCommand (gR 7 150) (gFn ε (some (.int r.1)) r.2) 166 [] [.int s0, .ref (ε.2.2.1 19 0)] M := by
  unfold f_Mo_readCommand_b166 at h
  obtain ⟨q9, hq9, h⟩ := gOb h
  refine g_callV_i (As := [.int s0]) (rest := []) (ct_Mo_done hM M s0 _ hq9) d_Mo_readCommand_166 ca_Mo_done w_1065 (gMo_h0 hM) rfl rfl rfl (Nat.le_of_ble_eq_true rfl) ⟨(Nat.le_of_ble_eq_true rfl), (Nat.le_of_ble_eq_true rfl)⟩ ?_
  refine g_if_eq (tgt := 176) d_Mo_readCommand_169 (by decide) (fun c10 => ?_) (fun c10 => ?_)
  · rw [if_pos c10] at h
    refine g_iconst (v := 0) d_Mo_readCommand_176 (by decide) ?_
    obtain rfl := Option.some.inj h
    exact g_zret d_Mo_readCommand_177 rfl gZ0
  · rw [if_neg c10] at h
    refine g_iconst (v := 1) d_Mo_readCommand_172 (by decide) ?_
    refine g_goto (tgt := 177) d_Mo_readCommand_173 (by decide) ?_
    obtain rfl := Option.some.inj h
    exact g_zret d_Mo_readCommand_177 rfl gZ1
noncomputable def f_Mo_readCommand_b165 (g0 : Nat) (c0 : Nat) (n0 : Nat) (M : gMem) : Option (Int32 × gMem) :=
  f_Mo_readCommand_b166 g0 c0 n0 M 0
theorem t_Mo_readCommand_b165 {l : Launch} {ε : gEnv} (g0 : Nat) (c0 : Nat) (n0 : Nat) (hM : gMo ε) (h0 : gHas ε g0 c0 (0, n0, [])) (M : gMem) (r : (Int32 × gMem)) (h : f_Mo_readCommand_b165 g0 c0 n0 M = some r) : gGo l ε k_Mo_readCommand (gR 7 150) (gFn ε (some (.int r.1)) r.2) 165 [] [.ref (ε.2.2.1 19 0)] M := by
  unfold f_Mo_readCommand_b165 at h
  refine g_iconst (v := 0) d_Mo_readCommand_165 (by decide) ?_
  exact t_Mo_readCommand_b166 g0 c0 n0 hM h0 M 0 _ h
noncomputable def f_Mo_readCommand_b246 (g0 : Nat) (c0 : Nat) (n0 : Nat) (M : gMem) (s0 : Int32) : Option (Int32 × gMem) :=
  (f_Mo_done M s0).bind fun q18 =>
  if q18.1 = 0 then
    some (0, q18.2)
  else
    some (1, q18.2)
theorem t_Mo_readCommand_b246 {l : Launch} {ε : gEnv} (g0 : Nat) (c0 : Nat) (n0 : Nat) (hM : gMo ε) (h0 : gHas ε g0 c0 (0, n0, [])) (M : gMem) (s0 : Int32) (r : (Int32 × gMem)) (h : f_Mo_readCommand_b246 g0 c0 n0 M s0 = some r) : gGo l ε k_Mo_readCommand (gR 7 150) (gFn ε (some (.int r.1)) r.2) 246 [] [.int s0, .ref (ε.2.2.1 19 0)] M := by
  unfold f_Mo_readCommand_b246 at h
  obtain ⟨q18, hq18, h⟩ := gOb h
  refine g_callV_i (As := [.int s0]) (rest := []) (ct_Mo_done hM M s0 _ hq18) d_Mo_readCommand_246 ca_Mo_done w_1065 (gMo_h0 hM) rfl rfl rfl (Nat.le_of_ble_eq_true rfl) ⟨(Nat.le_of_ble_eq_true rfl), (Nat.le_of_ble_eq_true rfl)⟩ ?_
  refine g_if_eq (tgt := 256) d_Mo_readCommand_249 (by decide) (fun c19 => ?_) (fun c19 => ?_)
  · rw [if_pos c19] at h
    refine g_iconst (v := 0) d_Mo_readCommand_256 (by decide) ?_
    obtain rfl := Option.some.inj h
    exact g_zret d_Mo_readCommand_257 rfl gZ0
  · rw [if_neg c19] at h
    refine g_iconst (v := 1) d_Mo_readCommand_252 (by decide) ?_
    refine g_goto (tgt := 257) d_Mo_readCommand_253 (by decide) ?_
    obtain rfl := Option.some.inj h
    exact g_zret d_Mo_readCommand_257 rfl gZ1
noncomputable def f_Mo_readCommand_b245 (g0 : Nat) (c0 : Nat) (n0 : Nat) (M : gMem) : Option (Int32 × gMem) :=
  f_Mo_readCommand_b246 g0 c0 n0 M 0
theorem t_Mo_readCommand_b245 {l : Launch} {ε : gEnv} (g0 : Nat) (c0 : Nat) (n0 : Nat) (hM : gMo ε) (h0 : gHas ε g0 c0 (0, n0, [])) (M : gMem) (r : (Int32 × gMem)) (h : f_Mo_readCommand_b245 g0 c0 n0 M = some r) : gGo l ε k_Mo_readCommand (gR 7 150) (gFn ε (some (.int r.1)) r.2) 245 [] [.ref (ε.2.2.1 19 0)] M := by
  unfold f_Mo_readCommand_b245 at h
  refine g_iconst (v := 0) d_Mo_readCommand_245 (by decide) ?_
  exact t_Mo_readCommand_b246 g0 c0 n0 hM h0 M 0 _ h
noncomputable def f_Mo_readCommand_b103 (g0 : Nat) (c0 : Nat) (n0 : Nat) (M : gMem) (s0 : Int32) : Option (Int32 × gMem) :=
  (f_Mo_done M s0).bind fun q29 =>
  if q29.1 = 0 then
    some (0, q29.2)
  else
    some (1, q29.2)
theorem t_Mo_readCommand_b103 {l : Launch} {ε : gEnv} (g0 : Nat) (c0 : Nat) (n0 : Nat) (hM : gMo ε) (h0 : gHas ε g0 c0 (0, n0, [])) (M : gMem) (s0 : Int32) (r : (Int32 × gMem)) (h : f_Mo_readCommand_b103 g0 c0 n0 M s0 = some r) : gGo l ε k_Mo_readCommand (gR 7 150) (gFn ε (some (.int r.1)) r.2) 103 [] [.int s0, .ref (ε.2.2.1 19 0)] M := by
  unfold f_Mo_readCommand_b103 at h
  obtain ⟨q29, hq29, h⟩ := gOb h
  refine g_callV_i (As := [.int s0]) (rest := []) (ct_Mo_done hM M s0 _ hq29) d_Mo_readCommand_103 ca_Mo_done w_1065 (gMo_h0 hM) rfl rfl rfl (Nat.le_of_ble_eq_true rfl) ⟨(Nat.le_of_ble_eq_true rfl), (Nat.le_of_ble_eq_true rfl)⟩ ?_
  refine g_if_eq (tgt := 113) d_Mo_readCommand_106 (by decide) (fun c30 => ?_) (fun c30 => ?_)
  · rw [if_pos c30] at h
    refine g_iconst (v := 0) d_Mo_readCommand_113 (by decide) ?_
    obtain rfl := Option.some.inj h
    exact g_zret d_Mo_readCommand_114 rfl gZ0
  · rw [if_neg c30] at h
    refine g_iconst (v := 1) d_Mo_readCommand_109 (by decide) ?_
    refine g_goto (tgt := 114) d_Mo_readCommand_110 (by decide) ?_
    obtain rfl := Option.some.inj h
    exact g_zret d_Mo_readCommand_114 rfl gZ1
noncomputable def f_Mo_readCommand_b198 (g0 : Nat) (c0 : Nat) (n0 : Nat) (M : gMem) (s0 : Int32) : Option (Int32 × gMem) :=
  (f_Mo_done M s0).bind fun q35 =>
  (gBl q35.1).bind fun _ =>
  some (q35.1, q35.2)
theorem t_Mo_readCommand_b198 {l : Launch} {ε : gEnv} (g0 : Nat) (c0 : Nat) (n0 : Nat) (hM : gMo ε) (h0 : gHas ε g0 c0 (0, n0, [])) (M : gMem) (s0 : Int32) (r : (Int32 × gMem)) (h : f_Mo_readCommand_b198 g0 c0 n0 M s0 = some r) : gGo l ε k_Mo_readCommand (gR 7 150) (gFn ε (some (.int r.1)) r.2) 198 [] [.int s0, .ref (ε.2.2.1 19 0)] M := by
  unfold f_Mo_readCommand_b198 at h
  obtain ⟨q35, hq35, h⟩ := gOb h
  refine g_callV_i (As := [.int s0]) (rest := []) (ct_Mo_done hM M s0 _ hq35) d_Mo_readCommand_198 ca_Mo_done w_1065 (gMo_h0 hM) rfl rfl rfl (Nat.le_of_ble_eq_true rfl) ⟨(Nat.le_of_ble_eq_true rfl), (Nat.le_of_ble_eq_true rfl)⟩ ?_
  obtain ⟨z36, hz36, h⟩ := gOb h
  obtain rfl := Option.some.inj h
  exact g_zretO d_Mo_readCommand_201 rfl hz36
noncomputable def f_Mo_readCommand_b197 (g0 : Nat) (c0 : Nat) (n0 : Nat) (M : gMem) : Option (Int32 × gMem) :=
  f_Mo_readCommand_b198 g0 c0 n0 M 0
theorem t_Mo_readCommand_b197 {l : Launch} {ε : gEnv} (g0 : Nat) (c0 : Nat) (n0 : Nat) (hM : gMo ε) (h0 : gHas ε g0 c0 (0, n0, [])) (M : gMem) (r : (Int32 × gMem)) (h : f_Mo_readCommand_b197 g0 c0 n0 M = some r) : gGo l ε k_Mo_readCommand (gR 7 150) (gFn ε (some (.int r.1)) r.2) 197 [] [.ref (ε.2.2.1 19 0)] M := by
  unfold f_Mo_readCommand_b197 at h
  refine g_iconst (v := 0) d_Mo_readCommand_197 (by decide) ?_
  exact t_Mo_readCommand_b198 g0 c0 n0 hM h0 M 0 _ h
noncomputable def f_Mo_readCommand (g0 : Nat) (c0 : Nat) (n0 : Nat) (M : gMem) : Option (Int32 × gMem) :=
  (gRd 120 (M 19 1) (M 19 0 14)).bind fun v1 =>
  (gSO M 19 0 14 ((M 19 0 14) + 1)).bind fun M2 =>
  if v1 = 97 then
    (f_Mo_playAdvice g0 c0 n0 M2).bind fun q4 =>
    some (1, q4.2)
  else
  if v1 = 98 then
    (f_Mo_figures M2 0 1 1 4).bind fun q6 =>
    (f_Mo_figures q6.2 q6.1 1 0 4).bind fun q7 =>
    if q7.1 = (-1) then
      some (0, q7.2)
    else
      (f_Mo_canBid g0 c0 n0 q7.2 q6.1 q7.1).bind fun q8 =>
      if q8 = 0 then
        f_Mo_readCommand_b165 g0 c0 n0 q7.2
      else
        (f_Mo_bidOn g0 c0 n0 q7.2 q6.1 q7.1).bind fun q11 =>
        if q11.1 < 0 then
          f_Mo_readCommand_b165 g0 c0 n0 q11.2
        else
          f_Mo_readCommand_b166 g0 c0 n0 q11.2 1
  else
  if v1 = 99 then
    (f_Mo_figures M2 0 2 0 31).bind fun q16 =>
    if q16.1 = (-1) then
      some (0, q16.2)
    else
      (gRd n0 (q16.2 g0 c0) 1).bind fun v17 =>
      if v17 = 2 then
        (f_Mo_reason g0 c0 n0 q16.2 q16.1).bind fun q20 =>
        if q20 = 0 then
          (f_Mo_playOn g0 c0 n0 q16.2 q16.1).bind fun q21 =>
          if q21.1 = 0 then
            f_Mo_readCommand_b246 g0 c0 n0 q21.2 1
          else
            f_Mo_readCommand_b245 g0 c0 n0 q21.2
        else
          f_Mo_readCommand_b245 g0 c0 n0 q16.2
      else
        f_Mo_readCommand_b245 g0 c0 n0 q16.2
  else
  if v1 = 100 then
    (f_Mo_figures M2 0 2 0 99).bind fun q27 =>
    if q27.1 = (-1) then
      some (0, q27.2)
    else
      (f_Mo_dealOn g0 c0 n0 q27.2 (Int32.toInt64 q27.1)).bind fun q28 =>
      if q28.1 ≤ 0 then
        f_Mo_readCommand_b103 g0 c0 n0 q28.2 0
      else
        f_Mo_readCommand_b103 g0 c0 n0 q28.2 1
  else
  if v1 = 112 then
    (gRd n0 (M2 g0 c0) 1).bind fun v34 =>
    if v34 = 1 then
      (f_Mo_passOn g0 c0 n0 M2).bind fun q37 =>
      if q37.1 ≤ 0 then
        f_Mo_readCommand_b197 g0 c0 n0 q37.2
      else
        f_Mo_readCommand_b198 g0 c0 n0 q37.2 1
    else
      f_Mo_readCommand_b197 g0 c0 n0 M2
  else
  (gSO M2 19 0 14 ((M2 19 0 14) - 1)).bind fun M40 =>
  some (0, M40)
theorem t_Mo_readCommand {l : Launch} {ε : gEnv} (g0 : Nat) (c0 : Nat) (n0 : Nat) (hM : gMo ε) (h0 : gHas ε g0 c0 (0, n0, [])) (M : gMem) (r : (Int32 × gMem)) (h : f_Mo_readCommand g0 c0 n0 M = some r) : gGo l ε k_Mo_readCommand (gR 7 150) (gFn ε (some (.int r.1)) r.2) 0 [(0, .ref (ε.2.2.1 19 0)), (1, .ref (ε.2.2.1 g0 c0))] [] M := by
  unfold f_Mo_readCommand at h
  refine g_aload_n d_Mo_readCommand_0 rfl 0 rfl ?_
  refine g_getR d_Mo_readCommand_1 fl_Mo_7 (gMo_h0 hM) rfl ?_
  refine g_aload_n d_Mo_readCommand_4 rfl 0 rfl ?_
  refine g_getI d_Mo_readCommand_5 fl_Mo_130 (gMo_h0 hM) rfl ?_
  obtain ⟨v1, hv1, h⟩ := gOb h
  refine g_iaload d_Mo_readCommand_8 (gMo_h1 hM) hv1 ?_
  refine g_istore_n (L' := [(2, .int v1), (0, .ref (ε.2.2.1 19 0)), (1, .ref (ε.2.2.1 g0 c0))]) d_Mo_readCommand_9 rfl (by decide) rfl ?_
  refine g_aload_n d_Mo_readCommand_10 rfl 1 rfl ?_
  refine g_dup d_Mo_readCommand_11 rfl ?_
  refine g_getI d_Mo_readCommand_12 fl_Mo_130 (gMo_h0 hM) rfl ?_
  refine g_iconst (v := 1) d_Mo_readCommand_15 (by decide) ?_
  refine g_iadd d_Mo_readCommand_16 ?_
  obtain ⟨M2, hM2, h⟩ := gOb h
  refine g_putO d_Mo_readCommand_17 fp_Mo_130 (gMo_h0 hM) rfl hM2 ?_
  refine g_iload_n d_Mo_readCommand_20 rfl 0 rfl ?_
  by_cases c3 : v1 = 97
  · rw [if_pos c3] at h
    refine g_lookup (off := 237) (tgt := 258) d_Mo_readCommand_21 rfl (by rw [c3]; rfl) (by decide) ?_
    refine g_aload_n d_Mo_readCommand_258 rfl 2 rfl ?_
    obtain ⟨q4, hq4, h⟩ := gOb h
    refine g_callS_i (As := [.ref (ε.2.2.1 g0 c0)]) (rest := []) (ct_Mo_playAdvice g0 c0 n0 h0 M2 _ hq4) d_Mo_readCommand_259 ca_Mo_playAdvice w_1117 rfl rfl (Nat.le_of_ble_eq_true rfl) ⟨(Nat.le_of_ble_eq_true rfl), (Nat.le_of_ble_eq_true rfl)⟩ ?_
    refine g_pop d_Mo_readCommand_262 rfl ?_
    refine g_iconst (v := 1) d_Mo_readCommand_263 (by decide) ?_
    obtain rfl := Option.some.inj h
    exact g_zret d_Mo_readCommand_264 rfl gZ1
  rw [if_neg c3] at h
  by_cases c5 : v1 = 98
  · rw [if_pos c5] at h
    refine g_lookup (off := 94) (tgt := 115) d_Mo_readCommand_21 rfl (by rw [c5]; rfl) (by decide) ?_
    refine g_aload_n d_Mo_readCommand_115 rfl 1 rfl ?_
    refine g_iconst (v := 0) d_Mo_readCommand_116 (by decide) ?_
    refine g_iconst (v := 1) d_Mo_readCommand_117 (by decide) ?_
    refine g_iconst (v := 1) d_Mo_readCommand_118 (by decide) ?_
    refine g_iconst (v := 4) d_Mo_readCommand_119 (by decide) ?_
    obtain ⟨q6, hq6, h⟩ := gOb h
    refine g_callV_i (As := [.int 0, .int 1, .int 1, .int 4]) (rest := []) (ct_Mo_figures hM M2 0 1 1 4 _ hq6) d_Mo_readCommand_120 ca_Mo_figures w_1054 (gMo_h0 hM) rfl rfl rfl (Nat.le_of_ble_eq_true rfl) ⟨(Nat.le_of_ble_eq_true rfl), (Nat.le_of_ble_eq_true rfl)⟩ ?_
    refine g_istore_n (L' := [(3, .int q6.1), (2, .int v1), (0, .ref (ε.2.2.1 19 0)), (1, .ref (ε.2.2.1 g0 c0))]) d_Mo_readCommand_123 rfl (by decide) rfl ?_
    refine g_aload_n d_Mo_readCommand_124 rfl 2 rfl ?_
    refine g_iload_n d_Mo_readCommand_125 rfl 0 rfl ?_
    refine g_iconst (v := 1) d_Mo_readCommand_126 (by decide) ?_
    refine g_iconst (v := 0) d_Mo_readCommand_127 (by decide) ?_
    refine g_iconst (v := 4) d_Mo_readCommand_128 (by decide) ?_
    obtain ⟨q7, hq7, h⟩ := gOb h
    refine g_callV_i (As := [.int q6.1, .int 1, .int 0, .int 4]) (rest := []) (ct_Mo_figures hM q6.2 q6.1 1 0 4 _ hq7) d_Mo_readCommand_129 ca_Mo_figures w_1054 (gMo_h0 hM) rfl rfl rfl (Nat.le_of_ble_eq_true rfl) ⟨(Nat.le_of_ble_eq_true rfl), (Nat.le_of_ble_eq_true rfl)⟩ ?_
    refine g_istore (L' := [(4, .int q7.1), (3, .int q6.1), (2, .int v1), (0, .ref (ε.2.2.1 19 0)), (1, .ref (ε.2.2.1 g0 c0))]) d_Mo_readCommand_132 (by decide) rfl ?_
    refine g_iload d_Mo_readCommand_134 0 rfl ?_
    refine g_iconst (v := -1) d_Mo_readCommand_136 (by decide) ?_
    refine g_icmp_eq (tgt := 176) d_Mo_readCommand_137 (by decide) (fun c14 => ?_) (fun c14 => ?_)
    · rw [if_pos c14] at h
      refine g_iconst (v := 0) d_Mo_readCommand_176 (by decide) ?_
      obtain rfl := Option.some.inj h
      exact g_zret d_Mo_readCommand_177 rfl gZ0
    · rw [if_neg c14] at h
      refine g_aload_n d_Mo_readCommand_140 rfl 3 rfl ?_
      refine g_aload_n d_Mo_readCommand_141 rfl 4 rfl ?_
      refine g_iload_n d_Mo_readCommand_142 rfl 1 rfl ?_
      refine g_iload d_Mo_readCommand_143 0 rfl ?_
      obtain ⟨q8, hq8, h⟩ := gOb h
      refine g_callS_i (As := [.ref (ε.2.2.1 g0 c0), .int q6.1, .int q7.1]) (rest := [.ref (ε.2.2.1 19 0)]) (ct_Mo_canBid g0 c0 n0 h0 q7.2 q6.1 q7.1 _ hq8) d_Mo_readCommand_145 ca_Mo_canBid w_1069 rfl rfl (Nat.le_of_ble_eq_true rfl) ⟨(Nat.le_of_ble_eq_true rfl), (Nat.le_of_ble_eq_true rfl)⟩ ?_
      refine g_if_eq (tgt := 165) d_Mo_readCommand_148 (by decide) (fun c13 => ?_) (fun c13 => ?_)
      · rw [if_pos c13] at h
        refine gGo_sub [] rfl ?_
        exact t_Mo_readCommand_b165 g0 c0 n0 hM h0 q7.2 _ h
      · rw [if_neg c13] at h
        refine g_aload_n d_Mo_readCommand_151 rfl 4 rfl ?_
        refine g_iload_n d_Mo_readCommand_152 rfl 1 rfl ?_
        refine g_iload d_Mo_readCommand_153 0 rfl ?_
        obtain ⟨q11, hq11, h⟩ := gOb h
        refine g_callS_i (As := [.ref (ε.2.2.1 g0 c0), .int q6.1, .int q7.1]) (rest := [.ref (ε.2.2.1 19 0)]) (ct_Mo_bidOn g0 c0 n0 h0 q7.2 q6.1 q7.1 _ hq11) d_Mo_readCommand_155 ca_Mo_bidOn w_1072 rfl rfl (Nat.le_of_ble_eq_true rfl) ⟨(Nat.le_of_ble_eq_true rfl), (Nat.le_of_ble_eq_true rfl)⟩ ?_
        refine g_if_lt (tgt := 165) d_Mo_readCommand_158 (by decide) (fun c12 => ?_) (fun c12 => ?_)
        · rw [if_pos c12] at h
          refine gGo_sub [] rfl ?_
          exact t_Mo_readCommand_b165 g0 c0 n0 hM h0 q11.2 _ h
        · rw [if_neg c12] at h
          refine g_iconst (v := 1) d_Mo_readCommand_161 (by decide) ?_
          refine g_goto (tgt := 166) d_Mo_readCommand_162 (by decide) ?_
          refine gGo_sub [] rfl ?_
          exact t_Mo_readCommand_b166 g0 c0 n0 hM h0 q11.2 1 _ h
  rw [if_neg c5] at h
  by_cases c15 : v1 = 99
  · rw [if_pos c15] at h
    refine g_lookup (off := 181) (tgt := 202) d_Mo_readCommand_21 rfl (by rw [c15]; rfl) (by decide) ?_
    refine g_aload_n d_Mo_readCommand_202 rfl 1 rfl ?_
    refine g_iconst (v := 0) d_Mo_readCommand_203 (by decide) ?_
    refine g_iconst (v := 2) d_Mo_readCommand_204 (by decide) ?_
    refine g_iconst (v := 0) d_Mo_readCommand_205 (by decide) ?_
    refine g_bipush (v := 31) d_Mo_readCommand_206 (by decide) ?_
    obtain ⟨q16, hq16, h⟩ := gOb h
    refine g_callV_i (As := [.int 0, .int 2, .int 0, .int 31]) (rest := []) (ct_Mo_figures hM M2 0 2 0 31 _ hq16) d_Mo_readCommand_208 ca_Mo_figures w_1054 (gMo_h0 hM) rfl rfl rfl (Nat.le_of_ble_eq_true rfl) ⟨(Nat.le_of_ble_eq_true rfl), (Nat.le_of_ble_eq_true rfl)⟩ ?_
    refine g_istore_n (L' := [(3, .int q16.1), (2, .int v1), (0, .ref (ε.2.2.1 19 0)), (1, .ref (ε.2.2.1 g0 c0))]) d_Mo_readCommand_211 rfl (by decide) rfl ?_
    refine g_iload_n d_Mo_readCommand_212 rfl 0 rfl ?_
    refine g_iconst (v := -1) d_Mo_readCommand_213 (by decide) ?_
    refine g_icmp_eq (tgt := 256) d_Mo_readCommand_214 (by decide) (fun c25 => ?_) (fun c25 => ?_)
    · rw [if_pos c25] at h
      refine g_iconst (v := 0) d_Mo_readCommand_256 (by decide) ?_
      obtain rfl := Option.some.inj h
      exact g_zret d_Mo_readCommand_257 rfl gZ0
    · rw [if_neg c25] at h
      refine g_aload_n d_Mo_readCommand_217 rfl 2 rfl ?_
      refine g_aload_n d_Mo_readCommand_218 rfl 3 rfl ?_
      refine g_iconst (v := 1) d_Mo_readCommand_219 (by decide) ?_
      obtain ⟨v17, hv17, h⟩ := gOb h
      refine g_iaload d_Mo_readCommand_220 h0 hv17 ?_
      refine g_iconst (v := 2) d_Mo_readCommand_221 (by decide) ?_
      refine g_icmp_ne (tgt := 245) d_Mo_readCommand_222 (by decide) (fun c24 => ?_) (fun c24 => ?_)
      · rw [if_neg c24] at h
        refine gGo_sub [] rfl ?_
        exact t_Mo_readCommand_b245 g0 c0 n0 hM h0 q16.2 _ h
      · rw [if_pos c24] at h
        refine g_aload_n d_Mo_readCommand_225 rfl 3 rfl ?_
        refine g_iload_n d_Mo_readCommand_226 rfl 0 rfl ?_
        obtain ⟨q20, hq20, h⟩ := gOb h
        refine g_callS_i (As := [.ref (ε.2.2.1 g0 c0), .int q16.1]) (rest := [.ref (ε.2.2.1 19 0)]) (ct_Mo_reason g0 c0 n0 h0 q16.2 q16.1 _ hq20) d_Mo_readCommand_227 ca_Mo_reason w_1078 rfl rfl (Nat.le_of_ble_eq_true rfl) ⟨(Nat.le_of_ble_eq_true rfl), (Nat.le_of_ble_eq_true rfl)⟩ ?_
        refine g_if_ne (tgt := 245) d_Mo_readCommand_230 (by decide) (fun c23 => ?_) (fun c23 => ?_)
        · rw [if_neg c23] at h
          refine gGo_sub [] rfl ?_
          exact t_Mo_readCommand_b245 g0 c0 n0 hM h0 q16.2 _ h
        · rw [if_pos c23] at h
          refine g_aload_n d_Mo_readCommand_233 rfl 3 rfl ?_
          refine g_iload_n d_Mo_readCommand_234 rfl 0 rfl ?_
          obtain ⟨q21, hq21, h⟩ := gOb h
          refine g_callS_i (As := [.ref (ε.2.2.1 g0 c0), .int q16.1]) (rest := [.ref (ε.2.2.1 19 0)]) (ct_Mo_playOn g0 c0 n0 h0 q16.2 q16.1 _ hq21) d_Mo_readCommand_235 ca_Mo_playOn w_1093 rfl rfl (Nat.le_of_ble_eq_true rfl) ⟨(Nat.le_of_ble_eq_true rfl), (Nat.le_of_ble_eq_true rfl)⟩ ?_
          refine g_if_ne (tgt := 245) d_Mo_readCommand_238 (by decide) (fun c22 => ?_) (fun c22 => ?_)
          · rw [if_neg c22] at h
            refine gGo_sub [] rfl ?_
            exact t_Mo_readCommand_b245 g0 c0 n0 hM h0 q21.2 _ h
          · rw [if_pos c22] at h
            refine g_iconst (v := 1) d_Mo_readCommand_241 (by decide) ?_
            refine g_goto (tgt := 246) d_Mo_readCommand_242 (by decide) ?_
            refine gGo_sub [] rfl ?_
            exact t_Mo_readCommand_b246 g0 c0 n0 hM h0 q21.2 1 _ h
  rw [if_neg c15] at h
  by_cases c26 : v1 = 100
  · rw [if_pos c26] at h
    refine g_lookup (off := 51) (tgt := 72) d_Mo_readCommand_21 rfl (by rw [c26]; rfl) (by decide) ?_
    refine g_aload_n d_Mo_readCommand_72 rfl 1 rfl ?_
    refine g_iconst (v := 0) d_Mo_readCommand_73 (by decide) ?_
    refine g_iconst (v := 2) d_Mo_readCommand_74 (by decide) ?_
    refine g_iconst (v := 0) d_Mo_readCommand_75 (by decide) ?_
    refine g_bipush (v := 99) d_Mo_readCommand_76 (by decide) ?_
    obtain ⟨q27, hq27, h⟩ := gOb h
    refine g_callV_i (As := [.int 0, .int 2, .int 0, .int 99]) (rest := []) (ct_Mo_figures hM M2 0 2 0 99 _ hq27) d_Mo_readCommand_78 ca_Mo_figures w_1054 (gMo_h0 hM) rfl rfl rfl (Nat.le_of_ble_eq_true rfl) ⟨(Nat.le_of_ble_eq_true rfl), (Nat.le_of_ble_eq_true rfl)⟩ ?_
    refine g_istore_n (L' := [(3, .int q27.1), (2, .int v1), (0, .ref (ε.2.2.1 19 0)), (1, .ref (ε.2.2.1 g0 c0))]) d_Mo_readCommand_81 rfl (by decide) rfl ?_
    refine g_iload_n d_Mo_readCommand_82 rfl 0 rfl ?_
    refine g_iconst (v := -1) d_Mo_readCommand_83 (by decide) ?_
    refine g_icmp_eq (tgt := 113) d_Mo_readCommand_84 (by decide) (fun c32 => ?_) (fun c32 => ?_)
    · rw [if_pos c32] at h
      refine g_iconst (v := 0) d_Mo_readCommand_113 (by decide) ?_
      obtain rfl := Option.some.inj h
      exact g_zret d_Mo_readCommand_114 rfl gZ0
    · rw [if_neg c32] at h
      refine g_aload_n d_Mo_readCommand_87 rfl 2 rfl ?_
      refine g_aload_n d_Mo_readCommand_88 rfl 2 rfl ?_
      refine g_aload_n d_Mo_readCommand_89 rfl 3 rfl ?_
      refine g_iload_n d_Mo_readCommand_90 rfl 0 rfl ?_
      refine g_i2l d_Mo_readCommand_91 ?_
      obtain ⟨q28, hq28, h⟩ := gOb h
      refine g_callV_i (As := [.ref (ε.2.2.1 g0 c0), .long (Int32.toInt64 q27.1)]) (rest := [.ref (ε.2.2.1 19 0)]) (ct_Mo_dealOn hM g0 c0 n0 h0 q27.2 (Int32.toInt64 q27.1) _ hq28) d_Mo_readCommand_92 ca_Mo_dealOn w_1059 (gMo_h0 hM) rfl rfl rfl (Nat.le_of_ble_eq_true rfl) ⟨(Nat.le_of_ble_eq_true rfl), (Nat.le_of_ble_eq_true rfl)⟩ ?_
      refine g_if_le (tgt := 102) d_Mo_readCommand_95 (by decide) (fun c31 => ?_) (fun c31 => ?_)
      · rw [if_pos c31] at h
        refine g_iconst (v := 0) d_Mo_readCommand_102 (by decide) ?_
        refine gGo_sub [] rfl ?_
        exact t_Mo_readCommand_b103 g0 c0 n0 hM h0 q28.2 0 _ h
      · rw [if_neg c31] at h
        refine g_iconst (v := 1) d_Mo_readCommand_98 (by decide) ?_
        refine g_goto (tgt := 103) d_Mo_readCommand_99 (by decide) ?_
        refine gGo_sub [] rfl ?_
        exact t_Mo_readCommand_b103 g0 c0 n0 hM h0 q28.2 1 _ h
  rw [if_neg c26] at h
  by_cases c33 : v1 = 112
  · rw [if_pos c33] at h
    refine g_lookup (off := 157) (tgt := 178) d_Mo_readCommand_21 rfl (by rw [c33]; rfl) (by decide) ?_
    refine g_aload_n d_Mo_readCommand_178 rfl 1 rfl ?_
    refine g_aload_n d_Mo_readCommand_179 rfl 2 rfl ?_
    refine g_iconst (v := 1) d_Mo_readCommand_180 (by decide) ?_
    obtain ⟨v34, hv34, h⟩ := gOb h
    refine g_iaload d_Mo_readCommand_181 h0 hv34 ?_
    refine g_iconst (v := 1) d_Mo_readCommand_182 (by decide) ?_
    refine g_icmp_ne (tgt := 197) d_Mo_readCommand_183 (by decide) (fun c39 => ?_) (fun c39 => ?_)
    · rw [if_neg c39] at h
      refine gGo_sub [] rfl ?_
      exact t_Mo_readCommand_b197 g0 c0 n0 hM h0 M2 _ h
    · rw [if_pos c39] at h
      refine g_aload_n d_Mo_readCommand_186 rfl 2 rfl ?_
      obtain ⟨q37, hq37, h⟩ := gOb h
      refine g_callS_i (As := [.ref (ε.2.2.1 g0 c0)]) (rest := [.ref (ε.2.2.1 19 0)]) (ct_Mo_passOn g0 c0 n0 h0 M2 _ hq37) d_Mo_readCommand_187 ca_Mo_passOn w_1075 rfl rfl (Nat.le_of_ble_eq_true rfl) ⟨(Nat.le_of_ble_eq_true rfl), (Nat.le_of_ble_eq_true rfl)⟩ ?_
      refine g_if_le (tgt := 197) d_Mo_readCommand_190 (by decide) (fun c38 => ?_) (fun c38 => ?_)
      · rw [if_pos c38] at h
        refine gGo_sub [] rfl ?_
        exact t_Mo_readCommand_b197 g0 c0 n0 hM h0 q37.2 _ h
      · rw [if_neg c38] at h
        refine g_iconst (v := 1) d_Mo_readCommand_193 (by decide) ?_
        refine g_goto (tgt := 198) d_Mo_readCommand_194 (by decide) ?_
        refine gGo_sub [] rfl ?_
        exact t_Mo_readCommand_b198 g0 c0 n0 hM h0 q37.2 1 _ h
  rw [if_neg c33] at h
  refine g_lookup (off := 244) (tgt := 265) d_Mo_readCommand_21 rfl (by show Op.lookupswitch.offset [(97, 237), (98, 94), (99, 181), (100, 51), (112, 157)] 244 (Int32.toInt v1) = 244; rw [lv_osw (a := 97) c3 rfl, lv_osw (a := 98) c5 rfl, lv_osw (a := 99) c15 rfl, lv_osw (a := 100) c26 rfl, lv_osw (a := 112) c33 rfl]; rfl) (by decide) ?_
  refine g_aload_n d_Mo_readCommand_265 rfl 1 rfl ?_
  refine g_dup d_Mo_readCommand_266 rfl ?_
  refine g_getI d_Mo_readCommand_267 fl_Mo_130 (gMo_h0 hM) rfl ?_
  refine g_iconst (v := 1) d_Mo_readCommand_270 (by decide) ?_
  refine g_isub d_Mo_readCommand_271 ?_
  obtain ⟨M40, hM40, h⟩ := gOb h
  refine g_putO d_Mo_readCommand_272 fp_Mo_130 (gMo_h0 hM) rfl hM40 ?_
  refine g_iconst (v := 0) d_Mo_readCommand_275 (by decide) ?_
  obtain rfl := Option.some.inj h
  exact g_zret d_Mo_readCommand_276 rfl gZ0
theorem ct_Mo_readCommand {l : Launch} {ε : gEnv} (hM : gMo ε) (g0 : Nat) (c0 : Nat) (n0 : Nat) (h0 : gHas ε g0 c0 (0, n0, [])) (M : gMem) (r : (Int32 × gMem)) (h : f_Mo_readCommand g0 c0 n0 M = some r) : gCt l ε k_Mo_readCommand 7 150 [.ref (ε.2.2.1 19 0), .ref (ε.2.2.1 g0 c0)] M (some (.int r.1)) r.2 :=
  gCt_of (by decide) (Nat.le_of_ble_eq_true rfl) rfl (t_Mo_readCommand g0 c0 n0 hM h0 M r h)
abbrev k_Mo_readText : gMD := (⟨"DropSignalsModel", "readText", "([I)I"⟩, prog_11_method_39_code, 2, (some .int))
theorem w_1048 : Cond.instanceMethod ⟨"DropSignalsModel", "readText", "([I)I"⟩ ∈ gWs := gWs_in (i := 1048) (by decide +kernel) rfl
theorem w_20 : Cond.selects "DropSignalsModel" ⟨"DropSignalsModel", "readText", "([I)I"⟩ ⟨"DropSignalsModel", "readText", "([I)I"⟩ ∈ gWs := gWs_in (i := 20) (by decide +kernel) rfl
set_option maxRecDepth 100000 in
theorem ca_Mo_readText : gCaV k_Mo_readText 1 := ⟨⟨gWs_in (i := 1049) rfl rfl, w_43, by decide, by decide, by decide +kernel⟩, w_1048, w_20⟩
theorem d_Mo_readText_0 : decode prog_11_method_39_code 0 = .ok (.aload_n 1, 1) := by decide +kernel
theorem d_Mo_readText_1 : decode prog_11_method_39_code 1 = .ok (.invokestatic 44, 3) := by decide +kernel
theorem d_Mo_readText_4 : decode prog_11_method_39_code 4 = .ok (.aload_n 0, 1) := by decide +kernel
theorem d_Mo_readText_5 : decode prog_11_method_39_code 5 = .ok (.iconst 0, 1) := by decide +kernel
theorem d_Mo_readText_6 : decode prog_11_method_39_code 6 = .ok (.putfield 135, 3) := by decide +kernel
theorem d_Mo_readText_9 : decode prog_11_method_39_code 9 = .ok (.aload_n 0, 1) := by decide +kernel
theorem d_Mo_readText_10 : decode prog_11_method_39_code 10 = .ok (.iconst 0, 1) := by decide +kernel
theorem d_Mo_readText_11 : decode prog_11_method_39_code 11 = .ok (.putfield 130, 3) := by decide +kernel
theorem d_Mo_readText_14 : decode prog_11_method_39_code 14 = .ok (.aload_n 0, 1) := by decide +kernel
theorem d_Mo_readText_15 : decode prog_11_method_39_code 15 = .ok (.getfield 124, 3) := by decide +kernel
theorem d_Mo_readText_18 : decode prog_11_method_39_code 18 = .ok (.ifCond .eq 14, 3) := by decide +kernel
theorem d_Mo_readText_21 : decode prog_11_method_39_code 21 = .ok (.aload_n 0, 1) := by decide +kernel
theorem d_Mo_readText_22 : decode prog_11_method_39_code 22 = .ok (.getfield 7, 3) := by decide +kernel
theorem d_Mo_readText_25 : decode prog_11_method_39_code 25 = .ok (.iconst 0, 1) := by decide +kernel
theorem d_Mo_readText_26 : decode prog_11_method_39_code 26 = .ok (.iaload, 1) := by decide +kernel
theorem d_Mo_readText_27 : decode prog_11_method_39_code 27 = .ok (.bipush 86, 2) := by decide +kernel
theorem d_Mo_readText_29 : decode prog_11_method_39_code 29 = .ok (.if_icmp .eq 5, 3) := by decide +kernel
theorem d_Mo_readText_32 : decode prog_11_method_39_code 32 = .ok (.iconst 0, 1) := by decide +kernel
theorem d_Mo_readText_33 : decode prog_11_method_39_code 33 = .ok (.ireturn, 1) := by decide +kernel
theorem d_Mo_readText_34 : decode prog_11_method_39_code 34 = .ok (.aload_n 0, 1) := by decide +kernel
theorem d_Mo_readText_35 : decode prog_11_method_39_code 35 = .ok (.iconst 1, 1) := by decide +kernel
theorem d_Mo_readText_36 : decode prog_11_method_39_code 36 = .ok (.putfield 130, 3) := by decide +kernel
theorem d_Mo_readText_39 : decode prog_11_method_39_code 39 = .ok (.aload_n 0, 1) := by decide +kernel
theorem d_Mo_readText_40 : decode prog_11_method_39_code 40 = .ok (.getfield 130, 3) := by decide +kernel
theorem d_Mo_readText_43 : decode prog_11_method_39_code 43 = .ok (.aload_n 0, 1) := by decide +kernel
theorem d_Mo_readText_44 : decode prog_11_method_39_code 44 = .ok (.getfield 124, 3) := by decide +kernel
theorem d_Mo_readText_47 : decode prog_11_method_39_code 47 = .ok (.if_icmp .ge 16, 3) := by decide +kernel
theorem d_Mo_readText_50 : decode prog_11_method_39_code 50 = .ok (.aload_n 0, 1) := by decide +kernel
theorem d_Mo_readText_51 : decode prog_11_method_39_code 51 = .ok (.aload_n 1, 1) := by decide +kernel
theorem d_Mo_readText_52 : decode prog_11_method_39_code 52 = .ok (.invokevirtual 166, 3) := by decide +kernel
theorem d_Mo_readText_55 : decode prog_11_method_39_code 55 = .ok (.ifCond .ne (-16), 3) := by decide +kernel
theorem d_Mo_readText_58 : decode prog_11_method_39_code 58 = .ok (.aload_n 0, 1) := by decide +kernel
theorem d_Mo_readText_59 : decode prog_11_method_39_code 59 = .ok (.getfield 130, 3) := by decide +kernel
theorem d_Mo_readText_62 : decode prog_11_method_39_code 62 = .ok (.ireturn, 1) := by decide +kernel
theorem d_Mo_readText_63 : decode prog_11_method_39_code 63 = .ok (.iconst (-1), 1) := by decide +kernel
theorem d_Mo_readText_64 : decode prog_11_method_39_code 64 = .ok (.ireturn, 1) := by decide +kernel
theorem w_967 : Cond.methodLink "DropSignalsModel" 44 ⟨"DropSignalsModel", "clear", "([I)V"⟩ ∈ gWs := gWs_in (i := 967) (by decide +kernel) rfl
theorem w_1050 : Cond.methodLink "DropSignalsModel" 166 ⟨"DropSignalsModel", "readCommand", "([I)Z"⟩ ∈ gWs := gWs_in (i := 1050) (by decide +kernel) rfl
noncomputable def f_Mo_readText_s39 (g0 : Nat) (c0 : Nat) (n0 : Nat) (M : gMem) : Option (gMem ⊕ (Int32 × gMem)) :=
  if (M 19 0 2) ≤ (M 19 0 14) then
    some (.inr ((-1), M))
  else
    (f_Mo_readCommand g0 c0 n0 M).bind fun q6 =>
    if q6.1 = 0 then
      some (.inr ((q6.2 19 0 14), q6.2))
    else
      some (.inl q6.2)
theorem t_Mo_readText_s39 {l : Launch} {ε : gEnv} (g0 : Nat) (c0 : Nat) (n0 : Nat) (hM : gMo ε) (h0 : gHas ε g0 c0 (0, n0, [])) (M : gMem) (res : (gMem ⊕ (Int32 × gMem))) (h : f_Mo_readText_s39 g0 c0 n0 M = some res) (r : (Int32 × gMem)) (k1 : ∀ s0 : gMem, res = .inl s0 → gGo l ε k_Mo_readText (gR 8 174) (gFn ε (some (.int r.1)) r.2) 39 [(0, .ref (ε.2.2.1 19 0)), (1, .ref (ε.2.2.1 g0 c0))] [] s0) (k2 : ∀ r', res = .inr r' → r' = r) : gGo l ε k_Mo_readText (gR 8 174) (gFn ε (some (.int r.1)) r.2) 39 [(0, .ref (ε.2.2.1 19 0)), (1, .ref (ε.2.2.1 g0 c0))] [] M := by
  unfold f_Mo_readText_s39 at h
  refine g_aload_n d_Mo_readText_39 rfl 0 rfl ?_
  refine g_getI d_Mo_readText_40 fl_Mo_130 (gMo_h0 hM) rfl ?_
  refine g_aload_n d_Mo_readText_43 rfl 0 rfl ?_
  refine g_getI d_Mo_readText_44 fl_Mo_124 (gMo_h0 hM) rfl ?_
  refine g_icmp_ge (tgt := 63) d_Mo_readText_47 (by decide) (fun c8 => ?_) (fun c8 => ?_)
  · rw [if_pos c8] at h
    refine g_iconst (v := -1) d_Mo_readText_63 (by decide) ?_
    obtain rfl := Option.some.inj h
    have e9 := k2 _ rfl
    subst e9
    exact g_iret d_Mo_readText_64 rfl
  · rw [if_neg c8] at h
    refine g_aload_n d_Mo_readText_50 rfl 0 rfl ?_
    refine g_aload_n d_Mo_readText_51 rfl 1 rfl ?_
    obtain ⟨q6, hq6, h⟩ := gOb h
    refine g_callV_i (As := [.ref (ε.2.2.1 g0 c0)]) (rest := []) (ct_Mo_readCommand hM g0 c0 n0 h0 M _ hq6) d_Mo_readText_52 ca_Mo_readCommand w_1050 (gMo_h0 hM) rfl rfl rfl (Nat.le_of_ble_eq_true rfl) ⟨(Nat.le_of_ble_eq_true rfl), (Nat.le_of_ble_eq_true rfl)⟩ ?_
    refine g_if_ne (tgt := 39) d_Mo_readText_55 (by decide) (fun c7 => ?_) (fun c7 => ?_)
    · rw [if_neg c7] at h
      obtain rfl := Option.some.inj h
      exact k1 q6.2 rfl
    · rw [if_pos c7] at h
      refine g_aload_n d_Mo_readText_58 rfl 0 rfl ?_
      refine g_getI d_Mo_readText_59 fl_Mo_130 (gMo_h0 hM) rfl ?_
      obtain rfl := Option.some.inj h
      have e9 := k2 _ rfl
      subst e9
      exact g_iret d_Mo_readText_62 rfl
noncomputable def f_Mo_readText_l39 (g0 : Nat) (c0 : Nat) (n0 : Nat) (s : gMem) : Option (Int32 × gMem) := gLp (fun s => f_Mo_readText_s39 g0 c0 n0 s) s
theorem t_Mo_readText_l39 {l : Launch} {ε : gEnv} (g0 : Nat) (c0 : Nat) (n0 : Nat) (hM : gMo ε) (h0 : gHas ε g0 c0 (0, n0, [])) (s : gMem) (r : (Int32 × gMem)) (h : f_Mo_readText_l39 g0 c0 n0 s = some r) : gGo l ε k_Mo_readText (gR 8 174) (gFn ε (some (.int r.1)) r.2) 39 [(0, .ref (ε.2.2.1 19 0)), (1, .ref (ε.2.2.1 g0 c0))] [] s :=
  g_loop _ (fun r s => gGo l ε k_Mo_readText (gR 8 174) (gFn ε (some (.int r.1)) r.2) 39 [(0, .ref (ε.2.2.1 19 0)), (1, .ref (ε.2.2.1 g0 c0))] [] s) (fun s res h r k1 k2 => t_Mo_readText_s39 g0 c0 n0 hM h0 s res h r k1 k2) s r h
noncomputable def f_Mo_readText (g0 : Nat) (c0 : Nat) (n0 : Nat) (M : gMem) : Option (Int32 × gMem) :=
  (f_Mo_clear g0 c0 n0 M).bind fun q1 =>
  (gSO q1 19 0 15 0).bind fun M2 =>
  (gSO M2 19 0 14 0).bind fun M3 =>
  if (M3 19 0 2) = 0 then
    some (0, M3)
  else
    (gRd 120 (M3 19 1) 0).bind fun v4 =>
    if v4 = 86 then
      (gSO M3 19 0 14 1).bind fun M5 =>
      f_Mo_readText_l39 g0 c0 n0 M5
    else
      some (0, M3)
theorem t_Mo_readText {l : Launch} {ε : gEnv} (g0 : Nat) (c0 : Nat) (n0 : Nat) (hM : gMo ε) (h0 : gHas ε g0 c0 (0, n0, [])) (M : gMem) (r : (Int32 × gMem)) (h : f_Mo_readText g0 c0 n0 M = some r) : gGo l ε k_Mo_readText (gR 8 174) (gFn ε (some (.int r.1)) r.2) 0 [(0, .ref (ε.2.2.1 19 0)), (1, .ref (ε.2.2.1 g0 c0))] [] M := by
  unfold f_Mo_readText at h
  refine g_aload_n d_Mo_readText_0 rfl 1 rfl ?_
  obtain ⟨q1, hq1, h⟩ := gOb h
  refine g_callS_v (As := [.ref (ε.2.2.1 g0 c0)]) (rest := []) (ct_Mo_clear g0 c0 n0 h0 M _ hq1) d_Mo_readText_1 ca_Mo_clear w_967 rfl rfl (Nat.le_of_ble_eq_true rfl) ⟨(Nat.le_of_ble_eq_true rfl), (Nat.le_of_ble_eq_true rfl)⟩ ?_
  refine g_aload_n d_Mo_readText_4 rfl 0 rfl ?_
  refine g_iconst (v := 0) d_Mo_readText_5 (by decide) ?_
  obtain ⟨M2, hM2, h⟩ := gOb h
  refine g_putO d_Mo_readText_6 fp_Mo_135 (gMo_h0 hM) rfl hM2 ?_
  refine g_aload_n d_Mo_readText_9 rfl 0 rfl ?_
  refine g_iconst (v := 0) d_Mo_readText_10 (by decide) ?_
  obtain ⟨M3, hM3, h⟩ := gOb h
  refine g_putO d_Mo_readText_11 fp_Mo_130 (gMo_h0 hM) rfl hM3 ?_
  refine g_aload_n d_Mo_readText_14 rfl 0 rfl ?_
  refine g_getI d_Mo_readText_15 fl_Mo_124 (gMo_h0 hM) rfl ?_
  refine g_if_eq (tgt := 32) d_Mo_readText_18 (by decide) (fun c10 => ?_) (fun c10 => ?_)
  · rw [if_pos c10] at h
    refine g_iconst (v := 0) d_Mo_readText_32 (by decide) ?_
    obtain rfl := Option.some.inj h
    exact g_iret d_Mo_readText_33 rfl
  · rw [if_neg c10] at h
    refine g_aload_n d_Mo_readText_21 rfl 0 rfl ?_
    refine g_getR d_Mo_readText_22 fl_Mo_7 (gMo_h0 hM) rfl ?_
    refine g_iconst (v := 0) d_Mo_readText_25 (by decide) ?_
    obtain ⟨v4, hv4, h⟩ := gOb h
    refine g_iaload d_Mo_readText_26 (gMo_h1 hM) hv4 ?_
    refine g_bipush (v := 86) d_Mo_readText_27 (by decide) ?_
    refine g_icmp_eq (tgt := 34) d_Mo_readText_29 (by decide) (fun c9 => ?_) (fun c9 => ?_)
    · rw [if_pos c9] at h
      refine g_aload_n d_Mo_readText_34 rfl 0 rfl ?_
      refine g_iconst (v := 1) d_Mo_readText_35 (by decide) ?_
      obtain ⟨M5, hM5, h⟩ := gOb h
      refine g_putO d_Mo_readText_36 fp_Mo_130 (gMo_h0 hM) rfl hM5 ?_
      exact t_Mo_readText_l39 g0 c0 n0 hM h0 M5 _ h
    · rw [if_neg c9] at h
      refine g_iconst (v := 0) d_Mo_readText_32 (by decide) ?_
      obtain rfl := Option.some.inj h
      exact g_iret d_Mo_readText_33 rfl
theorem ct_Mo_readText {l : Launch} {ε : gEnv} (hM : gMo ε) (g0 : Nat) (c0 : Nat) (n0 : Nat) (h0 : gHas ε g0 c0 (0, n0, [])) (M : gMem) (r : (Int32 × gMem)) (h : f_Mo_readText g0 c0 n0 M = some r) : gCt l ε k_Mo_readText 8 174 [.ref (ε.2.2.1 19 0), .ref (ε.2.2.1 g0 c0)] M (some (.int r.1)) r.2 :=
  gCt_of (by decide) (Nat.le_of_ble_eq_true rfl) rfl (t_Mo_readText g0 c0 n0 hM h0 M r h)
abbrev k_Mo_errorPosition : gMD := (⟨"DropSignalsModel", "errorPosition", "()I"⟩, prog_11_method_40_code, 1, (some .int))
theorem w_1043 : Cond.instanceMethod ⟨"DropSignalsModel", "errorPosition", "()I"⟩ ∈ gWs := gWs_in (i := 1043) (by decide +kernel) rfl
theorem w_1044 : Cond.selects "DropSignalsModel" ⟨"DropSignalsModel", "errorPosition", "()I"⟩ ⟨"DropSignalsModel", "errorPosition", "()I"⟩ ∈ gWs := gWs_in (i := 1044) (by decide +kernel) rfl
set_option maxRecDepth 100000 in
theorem ca_Mo_errorPosition : gCaV k_Mo_errorPosition 0 := ⟨⟨gWs_in (i := 1045) rfl rfl, w_43, by decide, by decide, by decide +kernel⟩, w_1043, w_1044⟩
theorem d_Mo_errorPosition_0 : decode prog_11_method_40_code 0 = .ok (.aload_n 0, 1) := by decide +kernel
theorem d_Mo_errorPosition_1 : decode prog_11_method_40_code 1 = .ok (.iconst 0, 1) := by decide +kernel
theorem d_Mo_errorPosition_2 : decode prog_11_method_40_code 2 = .ok (.putfield 48, 3) := by decide +kernel
theorem d_Mo_errorPosition_5 : decode prog_11_method_40_code 5 = .ok (.aload_n 0, 1) := by decide +kernel
theorem d_Mo_errorPosition_6 : decode prog_11_method_40_code 6 = .ok (.aload_n 0, 1) := by decide +kernel
theorem d_Mo_errorPosition_7 : decode prog_11_method_40_code 7 = .ok (.getfield 16, 3) := by decide +kernel
theorem d_Mo_errorPosition_10 : decode prog_11_method_40_code 10 = .ok (.invokevirtual 169, 3) := by decide +kernel
theorem d_Mo_errorPosition_13 : decode prog_11_method_40_code 13 = .ok (.ireturn, 1) := by decide +kernel
theorem w_977 : Cond.fieldLink "DropSignalsModel" 16 "DropSignalsModel" "trial" "[I" ∈ gWs := gWs_in (i := 977) (by decide +kernel) rfl
theorem fl_Mo_16 : gFl "DropSignalsModel" 16 8 4 := ⟨gN8, gF8, 16, rfl, uw_8, by decide, w_977⟩
theorem w_1046 : Cond.methodLink "DropSignalsModel" 169 ⟨"DropSignalsModel", "readText", "([I)I"⟩ ∈ gWs := gWs_in (i := 1046) (by decide +kernel) rfl
noncomputable def f_Mo_errorPosition (M : gMem) : Option (Int32 × gMem) :=
  (gSO M 19 0 0 0).bind fun M1 =>
  (f_Mo_readText 19 3 197 M1).bind fun q2 =>
  some (q2.1, q2.2)
theorem t_Mo_errorPosition {l : Launch} {ε : gEnv} (hM : gMo ε) (M : gMem) (r : (Int32 × gMem)) (h : f_Mo_errorPosition M = some r) : gGo l ε k_Mo_errorPosition (gR 9 195) (gFn ε (some (.int r.1)) r.2) 0 [(0, .ref (ε.2.2.1 19 0))] [] M := by
  unfold f_Mo_errorPosition at h
  refine g_aload_n d_Mo_errorPosition_0 rfl 0 rfl ?_
  refine g_iconst (v := 0) d_Mo_errorPosition_1 (by decide) ?_
  obtain ⟨M1, hM1, h⟩ := gOb h
  refine g_putO d_Mo_errorPosition_2 fp_Mo_48 (gMo_h0 hM) rfl hM1 ?_
  refine g_aload_n d_Mo_errorPosition_5 rfl 0 rfl ?_
  refine g_aload_n d_Mo_errorPosition_6 rfl 0 rfl ?_
  refine g_getR d_Mo_errorPosition_7 fl_Mo_16 (gMo_h0 hM) rfl ?_
  obtain ⟨q2, hq2, h⟩ := gOb h
  refine g_callV_i (As := [.ref (ε.2.2.1 19 3)]) (rest := []) (ct_Mo_readText hM 19 3 197 (gMo_h3 hM) M1 _ hq2) d_Mo_errorPosition_10 ca_Mo_readText w_1046 (gMo_h0 hM) rfl rfl rfl (Nat.le_of_ble_eq_true rfl) ⟨(Nat.le_of_ble_eq_true rfl), (Nat.le_of_ble_eq_true rfl)⟩ ?_
  obtain rfl := Option.some.inj h
  exact g_iret d_Mo_errorPosition_13 rfl
theorem ct_Mo_errorPosition {l : Launch} {ε : gEnv} (hM : gMo ε) (M : gMem) (r : (Int32 × gMem)) (h : f_Mo_errorPosition M = some r) : gCt l ε k_Mo_errorPosition 9 195 [.ref (ε.2.2.1 19 0)] M (some (.int r.1)) r.2 :=
  gCt_of (by decide) (Nat.le_of_ble_eq_true rfl) rfl (t_Mo_errorPosition hM M r h)
abbrev k_Mo_load : gMD := (⟨"DropSignalsModel", "load", "()I"⟩, prog_11_method_41_code, 1, (some .int))
theorem w_1133 : Cond.instanceMethod ⟨"DropSignalsModel", "load", "()I"⟩ ∈ gWs := gWs_in (i := 1133) (by decide +kernel) rfl
theorem w_1134 : Cond.selects "DropSignalsModel" ⟨"DropSignalsModel", "load", "()I"⟩ ⟨"DropSignalsModel", "load", "()I"⟩ ∈ gWs := gWs_in (i := 1134) (by decide +kernel) rfl
set_option maxRecDepth 100000 in
theorem ca_Mo_load : gCaV k_Mo_load 0 := ⟨⟨gWs_in (i := 1135) rfl rfl, w_43, by decide, by decide, by decide +kernel⟩, w_1133, w_1134⟩
theorem d_Mo_load_0 : decode prog_11_method_41_code 0 = .ok (.aload_n 0, 1) := by decide +kernel
theorem d_Mo_load_1 : decode prog_11_method_41_code 1 = .ok (.aload_n 0, 1) := by decide +kernel
theorem d_Mo_load_2 : decode prog_11_method_41_code 2 = .ok (.aload_n 0, 1) := by decide +kernel
theorem d_Mo_load_3 : decode prog_11_method_41_code 3 = .ok (.getfield 16, 3) := by decide +kernel
theorem d_Mo_load_6 : decode prog_11_method_41_code 6 = .ok (.invokevirtual 169, 3) := by decide +kernel
theorem d_Mo_load_9 : decode prog_11_method_41_code 9 = .ok (.iconst (-1), 1) := by decide +kernel
theorem d_Mo_load_10 : decode prog_11_method_41_code 10 = .ok (.if_icmp .ne 7, 3) := by decide +kernel
theorem d_Mo_load_13 : decode prog_11_method_41_code 13 = .ok (.iconst 0, 1) := by decide +kernel
theorem d_Mo_load_14 : decode prog_11_method_41_code 14 = .ok (.goto 4, 3) := by decide +kernel
theorem d_Mo_load_17 : decode prog_11_method_41_code 17 = .ok (.iconst 1, 1) := by decide +kernel
theorem d_Mo_load_18 : decode prog_11_method_41_code 18 = .ok (.invokevirtual 127, 3) := by decide +kernel
theorem d_Mo_load_21 : decode prog_11_method_41_code 21 = .ok (.ifCond .eq 5, 3) := by decide +kernel
theorem d_Mo_load_24 : decode prog_11_method_41_code 24 = .ok (.iconst 0, 1) := by decide +kernel
theorem d_Mo_load_25 : decode prog_11_method_41_code 25 = .ok (.ireturn, 1) := by decide +kernel
theorem d_Mo_load_26 : decode prog_11_method_41_code 26 = .ok (.aload_n 0, 1) := by decide +kernel
theorem d_Mo_load_27 : decode prog_11_method_41_code 27 = .ok (.getfield 16, 3) := by decide +kernel
theorem d_Mo_load_30 : decode prog_11_method_41_code 30 = .ok (.iconst 0, 1) := by decide +kernel
theorem d_Mo_load_31 : decode prog_11_method_41_code 31 = .ok (.aload_n 0, 1) := by decide +kernel
theorem d_Mo_load_32 : decode prog_11_method_41_code 32 = .ok (.getfield 13, 3) := by decide +kernel
theorem d_Mo_load_35 : decode prog_11_method_41_code 35 = .ok (.iconst 0, 1) := by decide +kernel
theorem d_Mo_load_36 : decode prog_11_method_41_code 36 = .ok (.invokestatic 172, 3) := by decide +kernel
theorem d_Mo_load_39 : decode prog_11_method_41_code 39 = .ok (.aload_n 0, 1) := by decide +kernel
theorem d_Mo_load_40 : decode prog_11_method_41_code 40 = .ok (.iconst 0, 1) := by decide +kernel
theorem d_Mo_load_41 : decode prog_11_method_41_code 41 = .ok (.putfield 176, 3) := by decide +kernel
theorem d_Mo_load_44 : decode prog_11_method_41_code 44 = .ok (.aload_n 0, 1) := by decide +kernel
theorem d_Mo_load_45 : decode prog_11_method_41_code 45 = .ok (.getfield 40, 3) := by decide +kernel
theorem d_Mo_load_48 : decode prog_11_method_41_code 48 = .ok (.iconst 0, 1) := by decide +kernel
theorem d_Mo_load_49 : decode prog_11_method_41_code 49 = .ok (.iconst 0, 1) := by decide +kernel
theorem d_Mo_load_50 : decode prog_11_method_41_code 50 = .ok (.bastore, 1) := by decide +kernel
theorem d_Mo_load_51 : decode prog_11_method_41_code 51 = .ok (.aload_n 0, 1) := by decide +kernel
theorem d_Mo_load_52 : decode prog_11_method_41_code 52 = .ok (.getfield 40, 3) := by decide +kernel
theorem d_Mo_load_55 : decode prog_11_method_41_code 55 = .ok (.iconst 1, 1) := by decide +kernel
theorem d_Mo_load_56 : decode prog_11_method_41_code 56 = .ok (.iconst 0, 1) := by decide +kernel
theorem d_Mo_load_57 : decode prog_11_method_41_code 57 = .ok (.bastore, 1) := by decide +kernel
theorem d_Mo_load_58 : decode prog_11_method_41_code 58 = .ok (.aload_n 0, 1) := by decide +kernel
theorem d_Mo_load_59 : decode prog_11_method_41_code 59 = .ok (.getfield 135, 3) := by decide +kernel
theorem d_Mo_load_62 : decode prog_11_method_41_code 62 = .ok (.ireturn, 1) := by decide +kernel
theorem w_976 : Cond.fieldLink "DropSignalsModel" 13 "DropSignalsModel" "now" "[I" ∈ gWs := gWs_in (i := 976) (by decide +kernel) rfl
theorem fl_Mo_13 : gFl "DropSignalsModel" 13 8 3 := ⟨gN8, gF8, 16, rfl, uw_8, by decide, w_976⟩
theorem w_1136 : Cond.methodLink "DropSignalsModel" 172 ⟨"DropSignalsModel", "copyState", "([II[II)V"⟩ ∈ gWs := gWs_in (i := 1136) (by decide +kernel) rfl
theorem w_984 : Cond.fieldLink "DropSignalsModel" 176 "DropSignalsModel" "acts" "I" ∈ gWs := gWs_in (i := 984) (by decide +kernel) rfl
theorem fl_Mo_176 : gFl "DropSignalsModel" 176 8 11 := ⟨gN8, gF8, 16, rfl, uw_8, by decide, w_984⟩
theorem fp_Mo_176 : gFp "DropSignalsModel" 176 8 11 .int := ⟨gN8, gF8, 16, rfl, uw_8, by decide, w_984, ⟨gX8, gY8⟩, gD8, rfl, by decide +kernel⟩
theorem w_986 : Cond.fieldLink "DropSignalsModel" 40 "DropSignalsModel" "isKept" "[Z" ∈ gWs := gWs_in (i := 986) (by decide +kernel) rfl
theorem fl_Mo_40 : gFl "DropSignalsModel" 40 8 13 := ⟨gN8, gF8, 16, rfl, uw_8, by decide, w_986⟩
noncomputable def f_Mo_load_b18 (M : gMem) (s0 : Int32) : Option (Int32 × gMem) :=
  (f_Mo_refused M s0).bind fun q2 =>
  if q2.1 = 0 then
    (f_Mo_copyState 19 3 197 19 2 197 q2.2 0 0).bind fun q3 =>
    (gSO q3 19 0 11 0).bind fun M4 =>
    (gBl 0).bind fun _ =>
    (gWr M4 19 11 2 0 0).bind fun M5 =>
    (gBl 0).bind fun _ =>
    (gWr M5 19 11 2 1 0).bind fun M7 =>
    some ((M7 19 0 15), M7)
  else
    some (0, q2.2)
theorem t_Mo_load_b18 {l : Launch} {ε : gEnv} (hM : gMo ε) (M : gMem) (s0 : Int32) (r : (Int32 × gMem)) (h : f_Mo_load_b18 M s0 = some r) : gGo l ε k_Mo_load (gR 9 195) (gFn ε (some (.int r.1)) r.2) 18 [(0, .ref (ε.2.2.1 19 0))] [.int s0, .ref (ε.2.2.1 19 0)] M := by
  unfold f_Mo_load_b18 at h
  obtain ⟨q2, hq2, h⟩ := gOb h
  refine g_callV_i (As := [.int s0]) (rest := []) (ct_Mo_refused hM M s0 _ hq2) d_Mo_load_18 ca_Mo_refused w_1034 (gMo_h0 hM) rfl rfl rfl (Nat.le_of_ble_eq_true rfl) ⟨(Nat.le_of_ble_eq_true rfl), (Nat.le_of_ble_eq_true rfl)⟩ ?_
  refine g_if_eq (tgt := 26) d_Mo_load_21 (by decide) (fun c9 => ?_) (fun c9 => ?_)
  · rw [if_pos c9] at h
    refine g_aload_n d_Mo_load_26 rfl 0 rfl ?_
    refine g_getR d_Mo_load_27 fl_Mo_16 (gMo_h0 hM) rfl ?_
    refine g_iconst (v := 0) d_Mo_load_30 (by decide) ?_
    refine g_aload_n d_Mo_load_31 rfl 0 rfl ?_
    refine g_getR d_Mo_load_32 fl_Mo_13 (gMo_h0 hM) rfl ?_
    refine g_iconst (v := 0) d_Mo_load_35 (by decide) ?_
    obtain ⟨q3, hq3, h⟩ := gOb h
    refine g_callS_v (As := [.ref (ε.2.2.1 19 3), .int 0, .ref (ε.2.2.1 19 2), .int 0]) (rest := []) (ct_Mo_copyState 19 3 197 19 2 197 (gMo_h3 hM) (gMo_h2 hM) q2.2 0 0 _ hq3) d_Mo_load_36 ca_Mo_copyState w_1136 rfl rfl (Nat.le_of_ble_eq_true rfl) ⟨(Nat.le_of_ble_eq_true rfl), (Nat.le_of_ble_eq_true rfl)⟩ ?_
    refine g_aload_n d_Mo_load_39 rfl 0 rfl ?_
    refine g_iconst (v := 0) d_Mo_load_40 (by decide) ?_
    obtain ⟨M4, hM4, h⟩ := gOb h
    refine g_putO d_Mo_load_41 fp_Mo_176 (gMo_h0 hM) rfl hM4 ?_
    refine g_aload_n d_Mo_load_44 rfl 0 rfl ?_
    refine g_getR d_Mo_load_45 fl_Mo_40 (gMo_h0 hM) rfl ?_
    refine g_iconst (v := 0) d_Mo_load_48 (by decide) ?_
    refine g_iconst (v := 0) d_Mo_load_49 (by decide) ?_
    obtain ⟨z6, hz6, h⟩ := gOb h
    obtain ⟨M5, hM5, h⟩ := gOb h
    refine g_bastoreO d_Mo_load_50 (gMo_h11 hM) hz6 hM5 ?_
    refine g_aload_n d_Mo_load_51 rfl 0 rfl ?_
    refine g_getR d_Mo_load_52 fl_Mo_40 (gMo_h0 hM) rfl ?_
    refine g_iconst (v := 1) d_Mo_load_55 (by decide) ?_
    refine g_iconst (v := 0) d_Mo_load_56 (by decide) ?_
    obtain ⟨z8, hz8, h⟩ := gOb h
    obtain ⟨M7, hM7, h⟩ := gOb h
    refine g_bastoreO d_Mo_load_57 (gMo_h11 hM) hz8 hM7 ?_
    refine g_aload_n d_Mo_load_58 rfl 0 rfl ?_
    refine g_getI d_Mo_load_59 fl_Mo_135 (gMo_h0 hM) rfl ?_
    obtain rfl := Option.some.inj h
    exact g_iret d_Mo_load_62 rfl
  · rw [if_neg c9] at h
    refine g_iconst (v := 0) d_Mo_load_24 (by decide) ?_
    obtain rfl := Option.some.inj h
    exact g_iret d_Mo_load_25 rfl
noncomputable def f_Mo_load (M : gMem) : Option (Int32 × gMem) :=
  (f_Mo_readText 19 3 197 M).bind fun q1 =>
  if q1.1 = (-1) then
    f_Mo_load_b18 q1.2 0
  else
    f_Mo_load_b18 q1.2 1
theorem t_Mo_load {l : Launch} {ε : gEnv} (hM : gMo ε) (M : gMem) (r : (Int32 × gMem)) (h : f_Mo_load M = some r) : gGo l ε k_Mo_load (gR 9 195) (gFn ε (some (.int r.1)) r.2) 0 [(0, .ref (ε.2.2.1 19 0))] [] M := by
  unfold f_Mo_load at h
  refine g_aload_n d_Mo_load_0 rfl 0 rfl ?_
  refine g_aload_n d_Mo_load_1 rfl 0 rfl ?_
  refine g_aload_n d_Mo_load_2 rfl 0 rfl ?_
  refine g_getR d_Mo_load_3 fl_Mo_16 (gMo_h0 hM) rfl ?_
  obtain ⟨q1, hq1, h⟩ := gOb h
  refine g_callV_i (As := [.ref (ε.2.2.1 19 3)]) (rest := [.ref (ε.2.2.1 19 0)]) (ct_Mo_readText hM 19 3 197 (gMo_h3 hM) M _ hq1) d_Mo_load_6 ca_Mo_readText w_1046 (gMo_h0 hM) rfl rfl rfl (Nat.le_of_ble_eq_true rfl) ⟨(Nat.le_of_ble_eq_true rfl), (Nat.le_of_ble_eq_true rfl)⟩ ?_
  refine g_iconst (v := -1) d_Mo_load_9 (by decide) ?_
  refine g_icmp_ne (tgt := 17) d_Mo_load_10 (by decide) (fun c10 => ?_) (fun c10 => ?_)
  · rw [if_neg c10] at h
    refine g_iconst (v := 1) d_Mo_load_17 (by decide) ?_
    exact t_Mo_load_b18 hM q1.2 1 _ h
  · rw [if_pos c10] at h
    refine g_iconst (v := 0) d_Mo_load_13 (by decide) ?_
    refine g_goto (tgt := 18) d_Mo_load_14 (by decide) ?_
    exact t_Mo_load_b18 hM q1.2 0 _ h
theorem ct_Mo_load {l : Launch} {ε : gEnv} (hM : gMo ε) (M : gMem) (r : (Int32 × gMem)) (h : f_Mo_load M = some r) : gCt l ε k_Mo_load 9 195 [.ref (ε.2.2.1 19 0)] M (some (.int r.1)) r.2 :=
  gCt_of (by decide) (Nat.le_of_ble_eq_true rfl) rfl (t_Mo_load hM M r h)
abbrev k_Mo_about : gMD := (⟨"DropSignalsModel", "about", "(I)I"⟩, prog_11_method_42_code, 3, (some .int))
theorem w_1140 : Cond.instanceMethod ⟨"DropSignalsModel", "about", "(I)I"⟩ ∈ gWs := gWs_in (i := 1140) (by decide +kernel) rfl
theorem w_1141 : Cond.selects "DropSignalsModel" ⟨"DropSignalsModel", "about", "(I)I"⟩ ⟨"DropSignalsModel", "about", "(I)I"⟩ ∈ gWs := gWs_in (i := 1141) (by decide +kernel) rfl
set_option maxRecDepth 100000 in
theorem ca_Mo_about : gCaV k_Mo_about 1 := ⟨⟨gWs_in (i := 1142) rfl rfl, w_43, by decide, by decide, by decide +kernel⟩, w_1140, w_1141⟩
theorem d_Mo_about_0 : decode prog_11_method_42_code 0 = .ok (.aload_n 0, 1) := by decide +kernel
theorem d_Mo_about_1 : decode prog_11_method_42_code 1 = .ok (.iload_n 1, 1) := by decide +kernel
theorem d_Mo_about_2 : decode prog_11_method_42_code 2 = .ok (.i2l, 1) := by decide +kernel
theorem d_Mo_about_3 : decode prog_11_method_42_code 3 = .ok (.lconst 0, 1) := by decide +kernel
theorem d_Mo_about_4 : decode prog_11_method_42_code 4 = .ok (.ldc2_w 179, 3) := by decide +kernel
theorem d_Mo_about_7 : decode prog_11_method_42_code 7 = .ok (.invokestatic 84, 3) := by decide +kernel
theorem d_Mo_about_10 : decode prog_11_method_42_code 10 = .ok (.ifCond .eq 7, 3) := by decide +kernel
theorem d_Mo_about_13 : decode prog_11_method_42_code 13 = .ok (.iconst 0, 1) := by decide +kernel
theorem d_Mo_about_14 : decode prog_11_method_42_code 14 = .ok (.goto 4, 3) := by decide +kernel
theorem d_Mo_about_17 : decode prog_11_method_42_code 17 = .ok (.iconst 1, 1) := by decide +kernel
theorem d_Mo_about_18 : decode prog_11_method_42_code 18 = .ok (.invokevirtual 127, 3) := by decide +kernel
theorem d_Mo_about_21 : decode prog_11_method_42_code 21 = .ok (.ifCond .eq 5, 3) := by decide +kernel
theorem d_Mo_about_24 : decode prog_11_method_42_code 24 = .ok (.iconst 0, 1) := by decide +kernel
theorem d_Mo_about_25 : decode prog_11_method_42_code 25 = .ok (.ireturn, 1) := by decide +kernel
theorem d_Mo_about_26 : decode prog_11_method_42_code 26 = .ok (.aload_n 0, 1) := by decide +kernel
theorem d_Mo_about_27 : decode prog_11_method_42_code 27 = .ok (.getfield 13, 3) := by decide +kernel
theorem d_Mo_about_30 : decode prog_11_method_42_code 30 = .ok (.iconst 1, 1) := by decide +kernel
theorem d_Mo_about_31 : decode prog_11_method_42_code 31 = .ok (.iaload, 1) := by decide +kernel
theorem d_Mo_about_32 : decode prog_11_method_42_code 32 = .ok (.iconst 1, 1) := by decide +kernel
theorem d_Mo_about_33 : decode prog_11_method_42_code 33 = .ok (.if_icmp .eq 13, 3) := by decide +kernel
theorem d_Mo_about_36 : decode prog_11_method_42_code 36 = .ok (.aload_n 0, 1) := by decide +kernel
theorem d_Mo_about_37 : decode prog_11_method_42_code 37 = .ok (.getfield 13, 3) := by decide +kernel
theorem d_Mo_about_40 : decode prog_11_method_42_code 40 = .ok (.iconst 1, 1) := by decide +kernel
theorem d_Mo_about_41 : decode prog_11_method_42_code 41 = .ok (.iaload, 1) := by decide +kernel
theorem d_Mo_about_42 : decode prog_11_method_42_code 42 = .ok (.iconst 2, 1) := by decide +kernel
theorem d_Mo_about_43 : decode prog_11_method_42_code 43 = .ok (.if_icmp .ne 7, 3) := by decide +kernel
theorem d_Mo_about_46 : decode prog_11_method_42_code 46 = .ok (.iconst 1, 1) := by decide +kernel
theorem d_Mo_about_47 : decode prog_11_method_42_code 47 = .ok (.goto 4, 3) := by decide +kernel
theorem d_Mo_about_50 : decode prog_11_method_42_code 50 = .ok (.iconst 0, 1) := by decide +kernel
theorem d_Mo_about_51 : decode prog_11_method_42_code 51 = .ok (.istore_n 2, 1) := by decide +kernel
theorem d_Mo_about_52 : decode prog_11_method_42_code 52 = .ok (.iload_n 1, 1) := by decide +kernel
theorem d_Mo_about_53 : decode prog_11_method_42_code 53 = .ok (.iconst 2, 1) := by decide +kernel
theorem d_Mo_about_54 : decode prog_11_method_42_code 54 = .ok (.if_icmp .ne 11, 3) := by decide +kernel
theorem d_Mo_about_57 : decode prog_11_method_42_code 57 = .ok (.iload_n 2, 1) := by decide +kernel
theorem d_Mo_about_58 : decode prog_11_method_42_code 58 = .ok (.ifCond .ne 7, 3) := by decide +kernel
theorem d_Mo_about_61 : decode prog_11_method_42_code 61 = .ok (.iconst (-1), 1) := by decide +kernel
theorem d_Mo_about_62 : decode prog_11_method_42_code 62 = .ok (.goto 9, 3) := by decide +kernel
theorem d_Mo_about_65 : decode prog_11_method_42_code 65 = .ok (.aload_n 0, 1) := by decide +kernel
theorem d_Mo_about_66 : decode prog_11_method_42_code 66 = .ok (.getfield 13, 3) := by decide +kernel
theorem d_Mo_about_69 : decode prog_11_method_42_code 69 = .ok (.iload_n 1, 1) := by decide +kernel
theorem d_Mo_about_70 : decode prog_11_method_42_code 70 = .ok (.iaload, 1) := by decide +kernel
theorem d_Mo_about_71 : decode prog_11_method_42_code 71 = .ok (.ireturn, 1) := by decide +kernel
theorem w_1143 : Cond.constantLong "DropSignalsModel" 179 (11) ∈ gWs := gWs_in (i := 1143) (by decide +kernel) rfl
noncomputable def f_Mo_about_b65 (M : gMem) (x1 : Int32) : Option (Int32 × gMem) :=
  (gRd 197 (M 19 2) x1).bind fun v4 =>
  some (v4, M)
theorem t_Mo_about_b65 {l : Launch} {ε : gEnv} (hM : gMo ε) (M : gMem) (x1 : Int32) (r : (Int32 × gMem)) (h : f_Mo_about_b65 M x1 = some r) : gGo l ε k_Mo_about (gR 1 25) (gFn ε (some (.int r.1)) r.2) 65 [(0, .ref (ε.2.2.1 19 0)), (1, .int x1)] [] M := by
  unfold f_Mo_about_b65 at h
  refine g_aload_n d_Mo_about_65 rfl 0 rfl ?_
  refine g_getR d_Mo_about_66 fl_Mo_13 (gMo_h0 hM) rfl ?_
  refine g_iload_n d_Mo_about_69 rfl 1 rfl ?_
  obtain ⟨v4, hv4, h⟩ := gOb h
  refine g_iaload d_Mo_about_70 (gMo_h2 hM) hv4 ?_
  obtain rfl := Option.some.inj h
  exact g_iret d_Mo_about_71 rfl
noncomputable def f_Mo_about_b51 (M : gMem) (x1 : Int32) (s0 : Int32) : Option (Int32 × gMem) :=
  if x1 = 2 then
    if s0 = 0 then
      some ((-1), M)
    else
      f_Mo_about_b65 M x1
  else
    f_Mo_about_b65 M x1
theorem t_Mo_about_b51 {l : Launch} {ε : gEnv} (hM : gMo ε) (M : gMem) (x1 : Int32) (s0 : Int32) (r : (Int32 × gMem)) (h : f_Mo_about_b51 M x1 s0 = some r) : gGo l ε k_Mo_about (gR 1 25) (gFn ε (some (.int r.1)) r.2) 51 [(0, .ref (ε.2.2.1 19 0)), (1, .int x1)] [.int s0] M := by
  unfold f_Mo_about_b51 at h
  refine g_istore_n (L' := [(2, .int s0), (0, .ref (ε.2.2.1 19 0)), (1, .int x1)]) d_Mo_about_51 rfl (by decide) rfl ?_
  refine g_iload_n d_Mo_about_52 rfl 2 rfl ?_
  refine g_iconst (v := 2) d_Mo_about_53 (by decide) ?_
  refine g_icmp_ne (tgt := 65) d_Mo_about_54 (by decide) (fun c6 => ?_) (fun c6 => ?_)
  · rw [if_neg c6] at h
    refine gGo_sub [1, 2] rfl ?_
    exact t_Mo_about_b65 hM M x1 _ h
  · rw [if_pos c6] at h
    refine g_iload_n d_Mo_about_57 rfl 0 rfl ?_
    refine g_if_ne (tgt := 65) d_Mo_about_58 (by decide) (fun c5 => ?_) (fun c5 => ?_)
    · rw [if_neg c5] at h
      refine gGo_sub [1, 2] rfl ?_
      exact t_Mo_about_b65 hM M x1 _ h
    · rw [if_pos c5] at h
      refine g_iconst (v := -1) d_Mo_about_61 (by decide) ?_
      refine g_goto (tgt := 71) d_Mo_about_62 (by decide) ?_
      obtain rfl := Option.some.inj h
      exact g_iret d_Mo_about_71 rfl
noncomputable def f_Mo_about_b46 (M : gMem) (x1 : Int32) : Option (Int32 × gMem) :=
  f_Mo_about_b51 M x1 1
theorem t_Mo_about_b46 {l : Launch} {ε : gEnv} (hM : gMo ε) (M : gMem) (x1 : Int32) (r : (Int32 × gMem)) (h : f_Mo_about_b46 M x1 = some r) : gGo l ε k_Mo_about (gR 1 25) (gFn ε (some (.int r.1)) r.2) 46 [(0, .ref (ε.2.2.1 19 0)), (1, .int x1)] [] M := by
  unfold f_Mo_about_b46 at h
  refine g_iconst (v := 1) d_Mo_about_46 (by decide) ?_
  refine g_goto (tgt := 51) d_Mo_about_47 (by decide) ?_
  exact t_Mo_about_b51 hM M x1 1 _ h
noncomputable def f_Mo_about_b18 (M : gMem) (x1 : Int32) (s0 : Int32) : Option (Int32 × gMem) :=
  (f_Mo_refused M s0).bind fun q2 =>
  if q2.1 = 0 then
    (gRd 197 (q2.2 19 2) 1).bind fun v3 =>
    if v3 = 1 then
      f_Mo_about_b46 q2.2 x1
    else
      (gRd 197 (q2.2 19 2) 1).bind fun v7 =>
      if v7 = 2 then
        f_Mo_about_b46 q2.2 x1
      else
        f_Mo_about_b51 q2.2 x1 0
  else
    some (0, q2.2)
theorem t_Mo_about_b18 {l : Launch} {ε : gEnv} (hM : gMo ε) (M : gMem) (x1 : Int32) (s0 : Int32) (r : (Int32 × gMem)) (h : f_Mo_about_b18 M x1 s0 = some r) : gGo l ε k_Mo_about (gR 1 25) (gFn ε (some (.int r.1)) r.2) 18 [(0, .ref (ε.2.2.1 19 0)), (1, .int x1)] [.int s0, .ref (ε.2.2.1 19 0)] M := by
  unfold f_Mo_about_b18 at h
  obtain ⟨q2, hq2, h⟩ := gOb h
  refine g_callV_i (As := [.int s0]) (rest := []) (ct_Mo_refused hM M s0 _ hq2) d_Mo_about_18 ca_Mo_refused w_1034 (gMo_h0 hM) rfl rfl rfl (Nat.le_of_ble_eq_true rfl) ⟨(Nat.le_of_ble_eq_true rfl), (Nat.le_of_ble_eq_true rfl)⟩ ?_
  refine g_if_eq (tgt := 26) d_Mo_about_21 (by decide) (fun c10 => ?_) (fun c10 => ?_)
  · rw [if_pos c10] at h
    refine g_aload_n d_Mo_about_26 rfl 0 rfl ?_
    refine g_getR d_Mo_about_27 fl_Mo_13 (gMo_h0 hM) rfl ?_
    refine g_iconst (v := 1) d_Mo_about_30 (by decide) ?_
    obtain ⟨v3, hv3, h⟩ := gOb h
    refine g_iaload d_Mo_about_31 (gMo_h2 hM) hv3 ?_
    refine g_iconst (v := 1) d_Mo_about_32 (by decide) ?_
    refine g_icmp_eq (tgt := 46) d_Mo_about_33 (by decide) (fun c9 => ?_) (fun c9 => ?_)
    · rw [if_pos c9] at h
      exact t_Mo_about_b46 hM q2.2 x1 _ h
    · rw [if_neg c9] at h
      refine g_aload_n d_Mo_about_36 rfl 0 rfl ?_
      refine g_getR d_Mo_about_37 fl_Mo_13 (gMo_h0 hM) rfl ?_
      refine g_iconst (v := 1) d_Mo_about_40 (by decide) ?_
      obtain ⟨v7, hv7, h⟩ := gOb h
      refine g_iaload d_Mo_about_41 (gMo_h2 hM) hv7 ?_
      refine g_iconst (v := 2) d_Mo_about_42 (by decide) ?_
      refine g_icmp_ne (tgt := 50) d_Mo_about_43 (by decide) (fun c8 => ?_) (fun c8 => ?_)
      · rw [if_neg c8] at h
        refine g_iconst (v := 0) d_Mo_about_50 (by decide) ?_
        exact t_Mo_about_b51 hM q2.2 x1 0 _ h
      · rw [if_pos c8] at h
        exact t_Mo_about_b46 hM q2.2 x1 _ h
  · rw [if_neg c10] at h
    refine g_iconst (v := 0) d_Mo_about_24 (by decide) ?_
    obtain rfl := Option.some.inj h
    exact g_iret d_Mo_about_25 rfl
noncomputable def f_Mo_about (M : gMem) (a0 : Int32) : Option (Int32 × gMem) :=
  (f_Mo_in (Int32.toInt64 a0) 0 (11)).bind fun q1 =>
  if q1 = 0 then
    f_Mo_about_b18 M a0 1
  else
    f_Mo_about_b18 M a0 0
theorem t_Mo_about {l : Launch} {ε : gEnv} (hM : gMo ε) (M : gMem) (a0 : Int32) (r : (Int32 × gMem)) (h : f_Mo_about M a0 = some r) : gGo l ε k_Mo_about (gR 1 25) (gFn ε (some (.int r.1)) r.2) 0 [(0, .ref (ε.2.2.1 19 0)), (1, .int a0)] [] M := by
  unfold f_Mo_about at h
  refine g_aload_n d_Mo_about_0 rfl 0 rfl ?_
  refine g_iload_n d_Mo_about_1 rfl 1 rfl ?_
  refine g_i2l d_Mo_about_2 ?_
  refine g_lconst (v := 0) d_Mo_about_3 (by decide) ?_
  refine g_ldc2 d_Mo_about_4 w_1143 ?_
  obtain ⟨q1, hq1, h⟩ := gOb h
  refine g_callS_i (As := [.long (Int32.toInt64 a0), .long 0, .long (11)]) (rest := [.ref (ε.2.2.1 19 0)]) (ct_Mo_in M (Int32.toInt64 a0) 0 (11) _ hq1) d_Mo_about_7 ca_Mo_in w_1031 rfl rfl (Nat.le_of_ble_eq_true rfl) ⟨(Nat.le_of_ble_eq_true rfl), (Nat.le_of_ble_eq_true rfl)⟩ ?_
  refine g_if_eq (tgt := 17) d_Mo_about_10 (by decide) (fun c11 => ?_) (fun c11 => ?_)
  · rw [if_pos c11] at h
    refine g_iconst (v := 1) d_Mo_about_17 (by decide) ?_
    exact t_Mo_about_b18 hM M a0 1 _ h
  · rw [if_neg c11] at h
    refine g_iconst (v := 0) d_Mo_about_13 (by decide) ?_
    refine g_goto (tgt := 18) d_Mo_about_14 (by decide) ?_
    exact t_Mo_about_b18 hM M a0 0 _ h
theorem ct_Mo_about {l : Launch} {ε : gEnv} (hM : gMo ε) (M : gMem) (a0 : Int32) (r : (Int32 × gMem)) (h : f_Mo_about M a0 = some r) : gCt l ε k_Mo_about 1 25 [.ref (ε.2.2.1 19 0), .int a0] M (some (.int r.1)) r.2 :=
  gCt_of (by decide) (Nat.le_of_ble_eq_true rfl) rfl (t_Mo_about hM M a0 r h)
abbrev k_Mo_cardOf : gMD := (⟨"DropSignalsModel", "cardOf", "(II)I"⟩, prog_11_method_43_code, 3, (some .int))
theorem w_1145 : Cond.instanceMethod ⟨"DropSignalsModel", "cardOf", "(II)I"⟩ ∈ gWs := gWs_in (i := 1145) (by decide +kernel) rfl
theorem w_1146 : Cond.selects "DropSignalsModel" ⟨"DropSignalsModel", "cardOf", "(II)I"⟩ ⟨"DropSignalsModel", "cardOf", "(II)I"⟩ ∈ gWs := gWs_in (i := 1146) (by decide +kernel) rfl
set_option maxRecDepth 100000 in
theorem ca_Mo_cardOf : gCaV k_Mo_cardOf 2 := ⟨⟨gWs_in (i := 1147) rfl rfl, w_43, by decide, by decide, by decide +kernel⟩, w_1145, w_1146⟩
theorem d_Mo_cardOf_0 : decode prog_11_method_43_code 0 = .ok (.aload_n 0, 1) := by decide +kernel
theorem d_Mo_cardOf_1 : decode prog_11_method_43_code 1 = .ok (.iload_n 1, 1) := by decide +kernel
theorem d_Mo_cardOf_2 : decode prog_11_method_43_code 2 = .ok (.i2l, 1) := by decide +kernel
theorem d_Mo_cardOf_3 : decode prog_11_method_43_code 3 = .ok (.lconst 0, 1) := by decide +kernel
theorem d_Mo_cardOf_4 : decode prog_11_method_43_code 4 = .ok (.ldc2_w 181, 3) := by decide +kernel
theorem d_Mo_cardOf_7 : decode prog_11_method_43_code 7 = .ok (.invokestatic 84, 3) := by decide +kernel
theorem d_Mo_cardOf_10 : decode prog_11_method_43_code 10 = .ok (.ifCond .ne 7, 3) := by decide +kernel
theorem d_Mo_cardOf_13 : decode prog_11_method_43_code 13 = .ok (.iconst 1, 1) := by decide +kernel
theorem d_Mo_cardOf_14 : decode prog_11_method_43_code 14 = .ok (.goto 20, 3) := by decide +kernel
theorem d_Mo_cardOf_17 : decode prog_11_method_43_code 17 = .ok (.iload_n 2, 1) := by decide +kernel
theorem d_Mo_cardOf_18 : decode prog_11_method_43_code 18 = .ok (.i2l, 1) := by decide +kernel
theorem d_Mo_cardOf_19 : decode prog_11_method_43_code 19 = .ok (.lconst 0, 1) := by decide +kernel
theorem d_Mo_cardOf_20 : decode prog_11_method_43_code 20 = .ok (.ldc2_w 183, 3) := by decide +kernel
theorem d_Mo_cardOf_23 : decode prog_11_method_43_code 23 = .ok (.invokestatic 84, 3) := by decide +kernel
theorem d_Mo_cardOf_26 : decode prog_11_method_43_code 26 = .ok (.ifCond .eq 7, 3) := by decide +kernel
theorem d_Mo_cardOf_29 : decode prog_11_method_43_code 29 = .ok (.iconst 0, 1) := by decide +kernel
theorem d_Mo_cardOf_30 : decode prog_11_method_43_code 30 = .ok (.goto 4, 3) := by decide +kernel
theorem d_Mo_cardOf_33 : decode prog_11_method_43_code 33 = .ok (.iconst 2, 1) := by decide +kernel
theorem d_Mo_cardOf_34 : decode prog_11_method_43_code 34 = .ok (.invokevirtual 127, 3) := by decide +kernel
theorem d_Mo_cardOf_37 : decode prog_11_method_43_code 37 = .ok (.ifCond .eq 5, 3) := by decide +kernel
theorem d_Mo_cardOf_40 : decode prog_11_method_43_code 40 = .ok (.iconst 0, 1) := by decide +kernel
theorem d_Mo_cardOf_41 : decode prog_11_method_43_code 41 = .ok (.ireturn, 1) := by decide +kernel
theorem d_Mo_cardOf_42 : decode prog_11_method_43_code 42 = .ok (.aload_n 0, 1) := by decide +kernel
theorem d_Mo_cardOf_43 : decode prog_11_method_43_code 43 = .ok (.getfield 13, 3) := by decide +kernel
theorem d_Mo_cardOf_46 : decode prog_11_method_43_code 46 = .ok (.bipush 21, 2) := by decide +kernel
theorem d_Mo_cardOf_48 : decode prog_11_method_43_code 48 = .ok (.bipush 32, 2) := by decide +kernel
theorem d_Mo_cardOf_50 : decode prog_11_method_43_code 50 = .ok (.iload_n 2, 1) := by decide +kernel
theorem d_Mo_cardOf_51 : decode prog_11_method_43_code 51 = .ok (.imul, 1) := by decide +kernel
theorem d_Mo_cardOf_52 : decode prog_11_method_43_code 52 = .ok (.iadd, 1) := by decide +kernel
theorem d_Mo_cardOf_53 : decode prog_11_method_43_code 53 = .ok (.iload_n 1, 1) := by decide +kernel
theorem d_Mo_cardOf_54 : decode prog_11_method_43_code 54 = .ok (.iadd, 1) := by decide +kernel
theorem d_Mo_cardOf_55 : decode prog_11_method_43_code 55 = .ok (.iaload, 1) := by decide +kernel
theorem d_Mo_cardOf_56 : decode prog_11_method_43_code 56 = .ok (.ireturn, 1) := by decide +kernel
theorem w_1148 : Cond.constantLong "DropSignalsModel" 181 (31) ∈ gWs := gWs_in (i := 1148) (by decide +kernel) rfl
theorem w_1149 : Cond.constantLong "DropSignalsModel" 183 (2) ∈ gWs := gWs_in (i := 1149) (by decide +kernel) rfl
noncomputable def f_Mo_cardOf_b34 (M : gMem) (x1 : Int32) (x2 : Int32) (s0 : Int32) : Option (Int32 × gMem) :=
  (f_Mo_refused M s0).bind fun q3 =>
  if q3.1 = 0 then
    (gRd 197 (q3.2 19 2) ((21 + (32 * x2)) + x1)).bind fun v4 =>
    some (v4, q3.2)
  else
    some (0, q3.2)
theorem t_Mo_cardOf_b34 {l : Launch} {ε : gEnv} (hM : gMo ε) (M : gMem) (x1 : Int32) (x2 : Int32) (s0 : Int32) (r : (Int32 × gMem)) (h : f_Mo_cardOf_b34 M x1 x2 s0 = some r) : gGo l ε k_Mo_cardOf (gR 1 25) (gFn ε (some (.int r.1)) r.2) 34 [(0, .ref (ε.2.2.1 19 0)), (1, .int x1), (2, .int x2)] [.int s0, .ref (ε.2.2.1 19 0)] M := by
  unfold f_Mo_cardOf_b34 at h
  obtain ⟨q3, hq3, h⟩ := gOb h
  refine g_callV_i (As := [.int s0]) (rest := []) (ct_Mo_refused hM M s0 _ hq3) d_Mo_cardOf_34 ca_Mo_refused w_1034 (gMo_h0 hM) rfl rfl rfl (Nat.le_of_ble_eq_true rfl) ⟨(Nat.le_of_ble_eq_true rfl), (Nat.le_of_ble_eq_true rfl)⟩ ?_
  refine g_if_eq (tgt := 42) d_Mo_cardOf_37 (by decide) (fun c5 => ?_) (fun c5 => ?_)
  · rw [if_pos c5] at h
    refine g_aload_n d_Mo_cardOf_42 rfl 0 rfl ?_
    refine g_getR d_Mo_cardOf_43 fl_Mo_13 (gMo_h0 hM) rfl ?_
    refine g_bipush (v := 21) d_Mo_cardOf_46 (by decide) ?_
    refine g_bipush (v := 32) d_Mo_cardOf_48 (by decide) ?_
    refine g_iload_n d_Mo_cardOf_50 rfl 2 rfl ?_
    refine g_imul d_Mo_cardOf_51 ?_
    refine g_iadd d_Mo_cardOf_52 ?_
    refine g_iload_n d_Mo_cardOf_53 rfl 1 rfl ?_
    refine g_iadd d_Mo_cardOf_54 ?_
    obtain ⟨v4, hv4, h⟩ := gOb h
    refine g_iaload d_Mo_cardOf_55 (gMo_h2 hM) hv4 ?_
    obtain rfl := Option.some.inj h
    exact g_iret d_Mo_cardOf_56 rfl
  · rw [if_neg c5] at h
    refine g_iconst (v := 0) d_Mo_cardOf_40 (by decide) ?_
    obtain rfl := Option.some.inj h
    exact g_iret d_Mo_cardOf_41 rfl
noncomputable def f_Mo_cardOf (M : gMem) (a0 : Int32) (a1 : Int32) : Option (Int32 × gMem) :=
  (f_Mo_in (Int32.toInt64 a0) 0 (31)).bind fun q1 =>
  if q1 = 0 then
    f_Mo_cardOf_b34 M a0 a1 1
  else
    (f_Mo_in (Int32.toInt64 a1) 0 (2)).bind fun q2 =>
    if q2 = 0 then
      f_Mo_cardOf_b34 M a0 a1 2
    else
      f_Mo_cardOf_b34 M a0 a1 0
theorem t_Mo_cardOf {l : Launch} {ε : gEnv} (hM : gMo ε) (M : gMem) (a0 : Int32) (a1 : Int32) (r : (Int32 × gMem)) (h : f_Mo_cardOf M a0 a1 = some r) : gGo l ε k_Mo_cardOf (gR 1 25) (gFn ε (some (.int r.1)) r.2) 0 [(0, .ref (ε.2.2.1 19 0)), (1, .int a0), (2, .int a1)] [] M := by
  unfold f_Mo_cardOf at h
  refine g_aload_n d_Mo_cardOf_0 rfl 0 rfl ?_
  refine g_iload_n d_Mo_cardOf_1 rfl 1 rfl ?_
  refine g_i2l d_Mo_cardOf_2 ?_
  refine g_lconst (v := 0) d_Mo_cardOf_3 (by decide) ?_
  refine g_ldc2 d_Mo_cardOf_4 w_1148 ?_
  obtain ⟨q1, hq1, h⟩ := gOb h
  refine g_callS_i (As := [.long (Int32.toInt64 a0), .long 0, .long (31)]) (rest := [.ref (ε.2.2.1 19 0)]) (ct_Mo_in M (Int32.toInt64 a0) 0 (31) _ hq1) d_Mo_cardOf_7 ca_Mo_in w_1031 rfl rfl (Nat.le_of_ble_eq_true rfl) ⟨(Nat.le_of_ble_eq_true rfl), (Nat.le_of_ble_eq_true rfl)⟩ ?_
  refine g_if_ne (tgt := 17) d_Mo_cardOf_10 (by decide) (fun c7 => ?_) (fun c7 => ?_)
  · rw [if_neg c7] at h
    refine g_iload_n d_Mo_cardOf_17 rfl 2 rfl ?_
    refine g_i2l d_Mo_cardOf_18 ?_
    refine g_lconst (v := 0) d_Mo_cardOf_19 (by decide) ?_
    refine g_ldc2 d_Mo_cardOf_20 w_1149 ?_
    obtain ⟨q2, hq2, h⟩ := gOb h
    refine g_callS_i (As := [.long (Int32.toInt64 a1), .long 0, .long (2)]) (rest := [.ref (ε.2.2.1 19 0)]) (ct_Mo_in M (Int32.toInt64 a1) 0 (2) _ hq2) d_Mo_cardOf_23 ca_Mo_in w_1031 rfl rfl (Nat.le_of_ble_eq_true rfl) ⟨(Nat.le_of_ble_eq_true rfl), (Nat.le_of_ble_eq_true rfl)⟩ ?_
    refine g_if_eq (tgt := 33) d_Mo_cardOf_26 (by decide) (fun c6 => ?_) (fun c6 => ?_)
    · rw [if_pos c6] at h
      refine g_iconst (v := 2) d_Mo_cardOf_33 (by decide) ?_
      exact t_Mo_cardOf_b34 hM M a0 a1 2 _ h
    · rw [if_neg c6] at h
      refine g_iconst (v := 0) d_Mo_cardOf_29 (by decide) ?_
      refine g_goto (tgt := 34) d_Mo_cardOf_30 (by decide) ?_
      exact t_Mo_cardOf_b34 hM M a0 a1 0 _ h
  · rw [if_pos c7] at h
    refine g_iconst (v := 1) d_Mo_cardOf_13 (by decide) ?_
    refine g_goto (tgt := 34) d_Mo_cardOf_14 (by decide) ?_
    exact t_Mo_cardOf_b34 hM M a0 a1 1 _ h
theorem ct_Mo_cardOf {l : Launch} {ε : gEnv} (hM : gMo ε) (M : gMem) (a0 : Int32) (a1 : Int32) (r : (Int32 × gMem)) (h : f_Mo_cardOf M a0 a1 = some r) : gCt l ε k_Mo_cardOf 1 25 [.ref (ε.2.2.1 19 0), .int a0, .int a1] M (some (.int r.1)) r.2 :=
  gCt_of (by decide) (Nat.le_of_ble_eq_true rfl) rfl (t_Mo_cardOf hM M a0 a1 r h)
abbrev k_Mo_suitOf : gMD := (⟨"DropSignalsModel", "suitOf", "(III)I"⟩, prog_11_method_44_code, 5, (some .int))
theorem w_1151 : Cond.instanceMethod ⟨"DropSignalsModel", "suitOf", "(III)I"⟩ ∈ gWs := gWs_in (i := 1151) (by decide +kernel) rfl
theorem w_1152 : Cond.selects "DropSignalsModel" ⟨"DropSignalsModel", "suitOf", "(III)I"⟩ ⟨"DropSignalsModel", "suitOf", "(III)I"⟩ ∈ gWs := gWs_in (i := 1152) (by decide +kernel) rfl
set_option maxRecDepth 100000 in
theorem ca_Mo_suitOf : gCaV k_Mo_suitOf 3 := ⟨⟨gWs_in (i := 1153) rfl rfl, w_43, by decide, by decide, by decide +kernel⟩, w_1151, w_1152⟩
theorem d_Mo_suitOf_0 : decode prog_11_method_44_code 0 = .ok (.aload_n 0, 1) := by decide +kernel
theorem d_Mo_suitOf_1 : decode prog_11_method_44_code 1 = .ok (.iload_n 1, 1) := by decide +kernel
theorem d_Mo_suitOf_2 : decode prog_11_method_44_code 2 = .ok (.i2l, 1) := by decide +kernel
theorem d_Mo_suitOf_3 : decode prog_11_method_44_code 3 = .ok (.lconst 0, 1) := by decide +kernel
theorem d_Mo_suitOf_4 : decode prog_11_method_44_code 4 = .ok (.ldc2_w 185, 3) := by decide +kernel
theorem d_Mo_suitOf_7 : decode prog_11_method_44_code 7 = .ok (.invokestatic 84, 3) := by decide +kernel
theorem d_Mo_suitOf_10 : decode prog_11_method_44_code 10 = .ok (.ifCond .eq 15, 3) := by decide +kernel
theorem d_Mo_suitOf_13 : decode prog_11_method_44_code 13 = .ok (.iload_n 2, 1) := by decide +kernel
theorem d_Mo_suitOf_14 : decode prog_11_method_44_code 14 = .ok (.i2l, 1) := by decide +kernel
theorem d_Mo_suitOf_15 : decode prog_11_method_44_code 15 = .ok (.lconst 0, 1) := by decide +kernel
theorem d_Mo_suitOf_16 : decode prog_11_method_44_code 16 = .ok (.ldc2_w 185, 3) := by decide +kernel
theorem d_Mo_suitOf_19 : decode prog_11_method_44_code 19 = .ok (.invokestatic 84, 3) := by decide +kernel
theorem d_Mo_suitOf_22 : decode prog_11_method_44_code 22 = .ok (.ifCond .ne 7, 3) := by decide +kernel
theorem d_Mo_suitOf_25 : decode prog_11_method_44_code 25 = .ok (.iconst 1, 1) := by decide +kernel
theorem d_Mo_suitOf_26 : decode prog_11_method_44_code 26 = .ok (.goto 20, 3) := by decide +kernel
theorem d_Mo_suitOf_29 : decode prog_11_method_44_code 29 = .ok (.iload_n 3, 1) := by decide +kernel
theorem d_Mo_suitOf_30 : decode prog_11_method_44_code 30 = .ok (.i2l, 1) := by decide +kernel
theorem d_Mo_suitOf_31 : decode prog_11_method_44_code 31 = .ok (.lconst 0, 1) := by decide +kernel
theorem d_Mo_suitOf_32 : decode prog_11_method_44_code 32 = .ok (.ldc2_w 187, 3) := by decide +kernel
theorem d_Mo_suitOf_35 : decode prog_11_method_44_code 35 = .ok (.invokestatic 84, 3) := by decide +kernel
theorem d_Mo_suitOf_38 : decode prog_11_method_44_code 38 = .ok (.ifCond .eq 7, 3) := by decide +kernel
theorem d_Mo_suitOf_41 : decode prog_11_method_44_code 41 = .ok (.iconst 0, 1) := by decide +kernel
theorem d_Mo_suitOf_42 : decode prog_11_method_44_code 42 = .ok (.goto 4, 3) := by decide +kernel
theorem d_Mo_suitOf_45 : decode prog_11_method_44_code 45 = .ok (.iconst 2, 1) := by decide +kernel
theorem d_Mo_suitOf_46 : decode prog_11_method_44_code 46 = .ok (.invokevirtual 127, 3) := by decide +kernel
theorem d_Mo_suitOf_49 : decode prog_11_method_44_code 49 = .ok (.ifCond .eq 5, 3) := by decide +kernel
theorem d_Mo_suitOf_52 : decode prog_11_method_44_code 52 = .ok (.iconst 0, 1) := by decide +kernel
theorem d_Mo_suitOf_53 : decode prog_11_method_44_code 53 = .ok (.ireturn, 1) := by decide +kernel
theorem d_Mo_suitOf_54 : decode prog_11_method_44_code 54 = .ok (.iconst 4, 1) := by decide +kernel
theorem d_Mo_suitOf_55 : decode prog_11_method_44_code 55 = .ok (.iload_n 1, 1) := by decide +kernel
theorem d_Mo_suitOf_56 : decode prog_11_method_44_code 56 = .ok (.imul, 1) := by decide +kernel
theorem d_Mo_suitOf_57 : decode prog_11_method_44_code 57 = .ok (.iload_n 2, 1) := by decide +kernel
theorem d_Mo_suitOf_58 : decode prog_11_method_44_code 58 = .ok (.iadd, 1) := by decide +kernel
theorem d_Mo_suitOf_59 : decode prog_11_method_44_code 59 = .ok (.istore 4, 2) := by decide +kernel
theorem d_Mo_suitOf_61 : decode prog_11_method_44_code 61 = .ok (.iload_n 3, 1) := by decide +kernel
theorem d_Mo_suitOf_62 : decode prog_11_method_44_code 62 = .ok (.tableswitch 89 0 4 #[34, 44, 54, 65, 77], 34) := by decide +kernel
theorem d_Mo_suitOf_96 : decode prog_11_method_44_code 96 = .ok (.aload_n 0, 1) := by decide +kernel
theorem d_Mo_suitOf_97 : decode prog_11_method_44_code 97 = .ok (.getfield 13, 3) := by decide +kernel
theorem d_Mo_suitOf_100 : decode prog_11_method_44_code 100 = .ok (.iload_n 1, 1) := by decide +kernel
theorem d_Mo_suitOf_101 : decode prog_11_method_44_code 101 = .ok (.iload_n 2, 1) := by decide +kernel
theorem d_Mo_suitOf_102 : decode prog_11_method_44_code 102 = .ok (.invokestatic 59, 3) := by decide +kernel
theorem d_Mo_suitOf_105 : decode prog_11_method_44_code 105 = .ok (.ireturn, 1) := by decide +kernel
theorem d_Mo_suitOf_106 : decode prog_11_method_44_code 106 = .ok (.aload_n 0, 1) := by decide +kernel
theorem d_Mo_suitOf_107 : decode prog_11_method_44_code 107 = .ok (.getfield 13, 3) := by decide +kernel
theorem d_Mo_suitOf_110 : decode prog_11_method_44_code 110 = .ok (.iload_n 1, 1) := by decide +kernel
theorem d_Mo_suitOf_111 : decode prog_11_method_44_code 111 = .ok (.iload_n 2, 1) := by decide +kernel
theorem d_Mo_suitOf_112 : decode prog_11_method_44_code 112 = .ok (.invokestatic 88, 3) := by decide +kernel
theorem d_Mo_suitOf_115 : decode prog_11_method_44_code 115 = .ok (.ireturn, 1) := by decide +kernel
theorem d_Mo_suitOf_116 : decode prog_11_method_44_code 116 = .ok (.aload_n 0, 1) := by decide +kernel
theorem d_Mo_suitOf_117 : decode prog_11_method_44_code 117 = .ok (.getfield 13, 3) := by decide +kernel
theorem d_Mo_suitOf_120 : decode prog_11_method_44_code 120 = .ok (.bipush 117, 2) := by decide +kernel
theorem d_Mo_suitOf_122 : decode prog_11_method_44_code 122 = .ok (.iload 4, 2) := by decide +kernel
theorem d_Mo_suitOf_124 : decode prog_11_method_44_code 124 = .ok (.iadd, 1) := by decide +kernel
theorem d_Mo_suitOf_125 : decode prog_11_method_44_code 125 = .ok (.iaload, 1) := by decide +kernel
theorem d_Mo_suitOf_126 : decode prog_11_method_44_code 126 = .ok (.ireturn, 1) := by decide +kernel
theorem d_Mo_suitOf_127 : decode prog_11_method_44_code 127 = .ok (.aload_n 0, 1) := by decide +kernel
theorem d_Mo_suitOf_128 : decode prog_11_method_44_code 128 = .ok (.getfield 13, 3) := by decide +kernel
theorem d_Mo_suitOf_131 : decode prog_11_method_44_code 131 = .ok (.sipush 149, 3) := by decide +kernel
theorem d_Mo_suitOf_134 : decode prog_11_method_44_code 134 = .ok (.iload 4, 2) := by decide +kernel
theorem d_Mo_suitOf_136 : decode prog_11_method_44_code 136 = .ok (.iadd, 1) := by decide +kernel
theorem d_Mo_suitOf_137 : decode prog_11_method_44_code 137 = .ok (.iaload, 1) := by decide +kernel
theorem d_Mo_suitOf_138 : decode prog_11_method_44_code 138 = .ok (.ireturn, 1) := by decide +kernel
theorem d_Mo_suitOf_139 : decode prog_11_method_44_code 139 = .ok (.aload_n 0, 1) := by decide +kernel
theorem d_Mo_suitOf_140 : decode prog_11_method_44_code 140 = .ok (.getfield 13, 3) := by decide +kernel
theorem d_Mo_suitOf_143 : decode prog_11_method_44_code 143 = .ok (.sipush 165, 3) := by decide +kernel
theorem d_Mo_suitOf_146 : decode prog_11_method_44_code 146 = .ok (.iload 4, 2) := by decide +kernel
theorem d_Mo_suitOf_148 : decode prog_11_method_44_code 148 = .ok (.iadd, 1) := by decide +kernel
theorem d_Mo_suitOf_149 : decode prog_11_method_44_code 149 = .ok (.iaload, 1) := by decide +kernel
theorem d_Mo_suitOf_150 : decode prog_11_method_44_code 150 = .ok (.ireturn, 1) := by decide +kernel
theorem d_Mo_suitOf_151 : decode prog_11_method_44_code 151 = .ok (.aload_n 0, 1) := by decide +kernel
theorem d_Mo_suitOf_152 : decode prog_11_method_44_code 152 = .ok (.getfield 13, 3) := by decide +kernel
theorem d_Mo_suitOf_155 : decode prog_11_method_44_code 155 = .ok (.sipush 181, 3) := by decide +kernel
theorem d_Mo_suitOf_158 : decode prog_11_method_44_code 158 = .ok (.iload 4, 2) := by decide +kernel
theorem d_Mo_suitOf_160 : decode prog_11_method_44_code 160 = .ok (.iadd, 1) := by decide +kernel
theorem d_Mo_suitOf_161 : decode prog_11_method_44_code 161 = .ok (.iaload, 1) := by decide +kernel
theorem d_Mo_suitOf_162 : decode prog_11_method_44_code 162 = .ok (.ireturn, 1) := by decide +kernel
theorem w_1154 : Cond.constantLong "DropSignalsModel" 185 (3) ∈ gWs := gWs_in (i := 1154) (by decide +kernel) rfl
theorem w_1155 : Cond.constantLong "DropSignalsModel" 187 (5) ∈ gWs := gWs_in (i := 1155) (by decide +kernel) rfl
noncomputable def f_Mo_suitOf_b46 (M : gMem) (x1 : Int32) (x2 : Int32) (x3 : Int32) (s0 : Int32) : Option (Int32 × gMem) :=
  (f_Mo_refused M s0).bind fun q2 =>
  if q2.1 = 0 then
    if x3 = 0 then
      (f_Mo_holds 19 2 197 q2.2 x1 x2).bind fun q4 =>
      some (q4, q2.2)
    else
    if x3 = 1 then
      (f_Mo_wasDealt 19 2 197 q2.2 x1 x2).bind fun q6 =>
      some (q6, q2.2)
    else
    if x3 = 2 then
      (gRd 197 (q2.2 19 2) (117 + ((4 * x1) + x2))).bind fun v8 =>
      some (v8, q2.2)
    else
    if x3 = 3 then
      (gRd 197 (q2.2 19 2) (149 + ((4 * x1) + x2))).bind fun v10 =>
      some (v10, q2.2)
    else
    if x3 = 4 then
      (gRd 197 (q2.2 19 2) (165 + ((4 * x1) + x2))).bind fun v12 =>
      some (v12, q2.2)
    else
    (gRd 197 (q2.2 19 2) (181 + ((4 * x1) + x2))).bind fun v13 =>
    some (v13, q2.2)
  else
    some (0, q2.2)
theorem t_Mo_suitOf_b46 {l : Launch} {ε : gEnv} (hM : gMo ε) (M : gMem) (x1 : Int32) (x2 : Int32) (x3 : Int32) (s0 : Int32) (r : (Int32 × gMem)) (h : f_Mo_suitOf_b46 M x1 x2 x3 s0 = some r) : gGo l ε k_Mo_suitOf (gR 1 25) (gFn ε (some (.int r.1)) r.2) 46 [(0, .ref (ε.2.2.1 19 0)), (1, .int x1), (2, .int x2), (3, .int x3)] [.int s0, .ref (ε.2.2.1 19 0)] M := by
  unfold f_Mo_suitOf_b46 at h
  obtain ⟨q2, hq2, h⟩ := gOb h
  refine g_callV_i (As := [.int s0]) (rest := []) (ct_Mo_refused hM M s0 _ hq2) d_Mo_suitOf_46 ca_Mo_refused w_1034 (gMo_h0 hM) rfl rfl rfl (Nat.le_of_ble_eq_true rfl) ⟨(Nat.le_of_ble_eq_true rfl), (Nat.le_of_ble_eq_true rfl)⟩ ?_
  refine g_if_eq (tgt := 54) d_Mo_suitOf_49 (by decide) (fun c14 => ?_) (fun c14 => ?_)
  · rw [if_pos c14] at h
    refine g_iconst (v := 4) d_Mo_suitOf_54 (by decide) ?_
    refine g_iload_n d_Mo_suitOf_55 rfl 1 rfl ?_
    refine g_imul d_Mo_suitOf_56 ?_
    refine g_iload_n d_Mo_suitOf_57 rfl 2 rfl ?_
    refine g_iadd d_Mo_suitOf_58 ?_
    refine g_istore (L' := [(4, .int ((4 * x1) + x2)), (0, .ref (ε.2.2.1 19 0)), (1, .int x1), (2, .int x2), (3, .int x3)]) d_Mo_suitOf_59 (by decide) rfl ?_
    refine g_iload_n d_Mo_suitOf_61 rfl 4 rfl ?_
    by_cases c3 : x3 = 0
    · rw [if_pos c3] at h
      refine g_tabIn (off := 34) (tgt := 96) d_Mo_suitOf_62 (by rw [c3]; decide) (by rw [c3]; decide) (by rw [c3]; rfl) (by decide) ?_
      refine g_aload_n d_Mo_suitOf_96 rfl 1 rfl ?_
      refine g_getR d_Mo_suitOf_97 fl_Mo_13 (gMo_h0 hM) rfl ?_
      refine g_iload_n d_Mo_suitOf_100 rfl 2 rfl ?_
      refine g_iload_n d_Mo_suitOf_101 rfl 3 rfl ?_
      obtain ⟨q4, hq4, h⟩ := gOb h
      refine g_callS_i (As := [.ref (ε.2.2.1 19 2), .int x1, .int x2]) (rest := []) (ct_Mo_holds 19 2 197 (gMo_h2 hM) q2.2 x1 x2 _ hq4) d_Mo_suitOf_102 ca_Mo_holds w_1090 rfl rfl (Nat.le_of_ble_eq_true rfl) ⟨(Nat.le_of_ble_eq_true rfl), (Nat.le_of_ble_eq_true rfl)⟩ ?_
      obtain rfl := Option.some.inj h
      exact g_iret d_Mo_suitOf_105 rfl
    rw [if_neg c3] at h
    by_cases c5 : x3 = 1
    · rw [if_pos c5] at h
      refine g_tabIn (off := 44) (tgt := 106) d_Mo_suitOf_62 (by rw [c5]; decide) (by rw [c5]; decide) (by rw [c5]; rfl) (by decide) ?_
      refine g_aload_n d_Mo_suitOf_106 rfl 1 rfl ?_
      refine g_getR d_Mo_suitOf_107 fl_Mo_13 (gMo_h0 hM) rfl ?_
      refine g_iload_n d_Mo_suitOf_110 rfl 2 rfl ?_
      refine g_iload_n d_Mo_suitOf_111 rfl 3 rfl ?_
      obtain ⟨q6, hq6, h⟩ := gOb h
      refine g_callS_i (As := [.ref (ε.2.2.1 19 2), .int x1, .int x2]) (rest := []) (ct_Mo_wasDealt 19 2 197 (gMo_h2 hM) q2.2 x1 x2 _ hq6) d_Mo_suitOf_112 ca_Mo_wasDealt w_1108 rfl rfl (Nat.le_of_ble_eq_true rfl) ⟨(Nat.le_of_ble_eq_true rfl), (Nat.le_of_ble_eq_true rfl)⟩ ?_
      obtain rfl := Option.some.inj h
      exact g_iret d_Mo_suitOf_115 rfl
    rw [if_neg c5] at h
    by_cases c7 : x3 = 2
    · rw [if_pos c7] at h
      refine g_tabIn (off := 54) (tgt := 116) d_Mo_suitOf_62 (by rw [c7]; decide) (by rw [c7]; decide) (by rw [c7]; rfl) (by decide) ?_
      refine g_aload_n d_Mo_suitOf_116 rfl 1 rfl ?_
      refine g_getR d_Mo_suitOf_117 fl_Mo_13 (gMo_h0 hM) rfl ?_
      refine g_bipush (v := 117) d_Mo_suitOf_120 (by decide) ?_
      refine g_iload d_Mo_suitOf_122 0 rfl ?_
      refine g_iadd d_Mo_suitOf_124 ?_
      obtain ⟨v8, hv8, h⟩ := gOb h
      refine g_iaload d_Mo_suitOf_125 (gMo_h2 hM) hv8 ?_
      obtain rfl := Option.some.inj h
      exact g_iret d_Mo_suitOf_126 rfl
    rw [if_neg c7] at h
    by_cases c9 : x3 = 3
    · rw [if_pos c9] at h
      refine g_tabIn (off := 65) (tgt := 127) d_Mo_suitOf_62 (by rw [c9]; decide) (by rw [c9]; decide) (by rw [c9]; rfl) (by decide) ?_
      refine g_aload_n d_Mo_suitOf_127 rfl 1 rfl ?_
      refine g_getR d_Mo_suitOf_128 fl_Mo_13 (gMo_h0 hM) rfl ?_
      refine g_sipush (v := 149) d_Mo_suitOf_131 (by decide) ?_
      refine g_iload d_Mo_suitOf_134 0 rfl ?_
      refine g_iadd d_Mo_suitOf_136 ?_
      obtain ⟨v10, hv10, h⟩ := gOb h
      refine g_iaload d_Mo_suitOf_137 (gMo_h2 hM) hv10 ?_
      obtain rfl := Option.some.inj h
      exact g_iret d_Mo_suitOf_138 rfl
    rw [if_neg c9] at h
    by_cases c11 : x3 = 4
    · rw [if_pos c11] at h
      refine g_tabIn (off := 77) (tgt := 139) d_Mo_suitOf_62 (by rw [c11]; decide) (by rw [c11]; decide) (by rw [c11]; rfl) (by decide) ?_
      refine g_aload_n d_Mo_suitOf_139 rfl 1 rfl ?_
      refine g_getR d_Mo_suitOf_140 fl_Mo_13 (gMo_h0 hM) rfl ?_
      refine g_sipush (v := 165) d_Mo_suitOf_143 (by decide) ?_
      refine g_iload d_Mo_suitOf_146 0 rfl ?_
      refine g_iadd d_Mo_suitOf_148 ?_
      obtain ⟨v12, hv12, h⟩ := gOb h
      refine g_iaload d_Mo_suitOf_149 (gMo_h2 hM) hv12 ?_
      obtain rfl := Option.some.inj h
      exact g_iret d_Mo_suitOf_150 rfl
    rw [if_neg c11] at h
    refine g_tabOut (tgt := 151) d_Mo_suitOf_62 (by have nc3 := lv_neT (a := 0) c3 rfl; have nc5 := lv_neT (a := 1) c5 rfl; have nc7 := lv_neT (a := 2) c7 rfl; have nc9 := lv_neT (a := 3) c9 rfl; have nc11 := lv_neT (a := 4) c11 rfl; omega) (by decide) ?_
    refine g_aload_n d_Mo_suitOf_151 rfl 1 rfl ?_
    refine g_getR d_Mo_suitOf_152 fl_Mo_13 (gMo_h0 hM) rfl ?_
    refine g_sipush (v := 181) d_Mo_suitOf_155 (by decide) ?_
    refine g_iload d_Mo_suitOf_158 0 rfl ?_
    refine g_iadd d_Mo_suitOf_160 ?_
    obtain ⟨v13, hv13, h⟩ := gOb h
    refine g_iaload d_Mo_suitOf_161 (gMo_h2 hM) hv13 ?_
    obtain rfl := Option.some.inj h
    exact g_iret d_Mo_suitOf_162 rfl
  · rw [if_neg c14] at h
    refine g_iconst (v := 0) d_Mo_suitOf_52 (by decide) ?_
    obtain rfl := Option.some.inj h
    exact g_iret d_Mo_suitOf_53 rfl
noncomputable def f_Mo_suitOf_b25 (M : gMem) (x1 : Int32) (x2 : Int32) (x3 : Int32) : Option (Int32 × gMem) :=
  f_Mo_suitOf_b46 M x1 x2 x3 1
theorem t_Mo_suitOf_b25 {l : Launch} {ε : gEnv} (hM : gMo ε) (M : gMem) (x1 : Int32) (x2 : Int32) (x3 : Int32) (r : (Int32 × gMem)) (h : f_Mo_suitOf_b25 M x1 x2 x3 = some r) : gGo l ε k_Mo_suitOf (gR 1 25) (gFn ε (some (.int r.1)) r.2) 25 [(0, .ref (ε.2.2.1 19 0)), (1, .int x1), (2, .int x2), (3, .int x3)] [.ref (ε.2.2.1 19 0)] M := by
  unfold f_Mo_suitOf_b25 at h
  refine g_iconst (v := 1) d_Mo_suitOf_25 (by decide) ?_
  refine g_goto (tgt := 46) d_Mo_suitOf_26 (by decide) ?_
  exact t_Mo_suitOf_b46 hM M x1 x2 x3 1 _ h
noncomputable def f_Mo_suitOf (M : gMem) (a0 : Int32) (a1 : Int32) (a2 : Int32) : Option (Int32 × gMem) :=
  (f_Mo_in (Int32.toInt64 a0) 0 (3)).bind fun q1 =>
  if q1 = 0 then
    f_Mo_suitOf_b25 M a0 a1 a2
  else
    (f_Mo_in (Int32.toInt64 a1) 0 (3)).bind fun q15 =>
    if q15 = 0 then
      f_Mo_suitOf_b25 M a0 a1 a2
    else
      (f_Mo_in (Int32.toInt64 a2) 0 (5)).bind fun q16 =>
      if q16 = 0 then
        f_Mo_suitOf_b46 M a0 a1 a2 2
      else
        f_Mo_suitOf_b46 M a0 a1 a2 0
theorem t_Mo_suitOf {l : Launch} {ε : gEnv} (hM : gMo ε) (M : gMem) (a0 : Int32) (a1 : Int32) (a2 : Int32) (r : (Int32 × gMem)) (h : f_Mo_suitOf M a0 a1 a2 = some r) : gGo l ε k_Mo_suitOf (gR 1 25) (gFn ε (some (.int r.1)) r.2) 0 [(0, .ref (ε.2.2.1 19 0)), (1, .int a0), (2, .int a1), (3, .int a2)] [] M := by
  unfold f_Mo_suitOf at h
  refine g_aload_n d_Mo_suitOf_0 rfl 0 rfl ?_
  refine g_iload_n d_Mo_suitOf_1 rfl 1 rfl ?_
  refine g_i2l d_Mo_suitOf_2 ?_
  refine g_lconst (v := 0) d_Mo_suitOf_3 (by decide) ?_
  refine g_ldc2 d_Mo_suitOf_4 w_1154 ?_
  obtain ⟨q1, hq1, h⟩ := gOb h
  refine g_callS_i (As := [.long (Int32.toInt64 a0), .long 0, .long (3)]) (rest := [.ref (ε.2.2.1 19 0)]) (ct_Mo_in M (Int32.toInt64 a0) 0 (3) _ hq1) d_Mo_suitOf_7 ca_Mo_in w_1031 rfl rfl (Nat.le_of_ble_eq_true rfl) ⟨(Nat.le_of_ble_eq_true rfl), (Nat.le_of_ble_eq_true rfl)⟩ ?_
  refine g_if_eq (tgt := 25) d_Mo_suitOf_10 (by decide) (fun c19 => ?_) (fun c19 => ?_)
  · rw [if_pos c19] at h
    exact t_Mo_suitOf_b25 hM M a0 a1 a2 _ h
  · rw [if_neg c19] at h
    refine g_iload_n d_Mo_suitOf_13 rfl 2 rfl ?_
    refine g_i2l d_Mo_suitOf_14 ?_
    refine g_lconst (v := 0) d_Mo_suitOf_15 (by decide) ?_
    refine g_ldc2 d_Mo_suitOf_16 w_1154 ?_
    obtain ⟨q15, hq15, h⟩ := gOb h
    refine g_callS_i (As := [.long (Int32.toInt64 a1), .long 0, .long (3)]) (rest := [.ref (ε.2.2.1 19 0)]) (ct_Mo_in M (Int32.toInt64 a1) 0 (3) _ hq15) d_Mo_suitOf_19 ca_Mo_in w_1031 rfl rfl (Nat.le_of_ble_eq_true rfl) ⟨(Nat.le_of_ble_eq_true rfl), (Nat.le_of_ble_eq_true rfl)⟩ ?_
    refine g_if_ne (tgt := 29) d_Mo_suitOf_22 (by decide) (fun c18 => ?_) (fun c18 => ?_)
    · rw [if_neg c18] at h
      refine g_iload_n d_Mo_suitOf_29 rfl 3 rfl ?_
      refine g_i2l d_Mo_suitOf_30 ?_
      refine g_lconst (v := 0) d_Mo_suitOf_31 (by decide) ?_
      refine g_ldc2 d_Mo_suitOf_32 w_1155 ?_
      obtain ⟨q16, hq16, h⟩ := gOb h
      refine g_callS_i (As := [.long (Int32.toInt64 a2), .long 0, .long (5)]) (rest := [.ref (ε.2.2.1 19 0)]) (ct_Mo_in M (Int32.toInt64 a2) 0 (5) _ hq16) d_Mo_suitOf_35 ca_Mo_in w_1031 rfl rfl (Nat.le_of_ble_eq_true rfl) ⟨(Nat.le_of_ble_eq_true rfl), (Nat.le_of_ble_eq_true rfl)⟩ ?_
      refine g_if_eq (tgt := 45) d_Mo_suitOf_38 (by decide) (fun c17 => ?_) (fun c17 => ?_)
      · rw [if_pos c17] at h
        refine g_iconst (v := 2) d_Mo_suitOf_45 (by decide) ?_
        exact t_Mo_suitOf_b46 hM M a0 a1 a2 2 _ h
      · rw [if_neg c17] at h
        refine g_iconst (v := 0) d_Mo_suitOf_41 (by decide) ?_
        refine g_goto (tgt := 46) d_Mo_suitOf_42 (by decide) ?_
        exact t_Mo_suitOf_b46 hM M a0 a1 a2 0 _ h
    · rw [if_pos c18] at h
      exact t_Mo_suitOf_b25 hM M a0 a1 a2 _ h
theorem ct_Mo_suitOf {l : Launch} {ε : gEnv} (hM : gMo ε) (M : gMem) (a0 : Int32) (a1 : Int32) (a2 : Int32) (r : (Int32 × gMem)) (h : f_Mo_suitOf M a0 a1 a2 = some r) : gCt l ε k_Mo_suitOf 1 25 [.ref (ε.2.2.1 19 0), .int a0, .int a1, .int a2] M (some (.int r.1)) r.2 :=
  gCt_of (by decide) (Nat.le_of_ble_eq_true rfl) rfl (t_Mo_suitOf hM M a0 a1 a2 r h)
abbrev k_Mo_trick : gMD := (⟨"DropSignalsModel", "trick", "(I)I"⟩, prog_11_method_45_code, 2, (some .int))
theorem w_1157 : Cond.instanceMethod ⟨"DropSignalsModel", "trick", "(I)I"⟩ ∈ gWs := gWs_in (i := 1157) (by decide +kernel) rfl
theorem w_1158 : Cond.selects "DropSignalsModel" ⟨"DropSignalsModel", "trick", "(I)I"⟩ ⟨"DropSignalsModel", "trick", "(I)I"⟩ ∈ gWs := gWs_in (i := 1158) (by decide +kernel) rfl
set_option maxRecDepth 100000 in
theorem ca_Mo_trick : gCaV k_Mo_trick 1 := ⟨⟨gWs_in (i := 1159) rfl rfl, w_43, by decide, by decide, by decide +kernel⟩, w_1157, w_1158⟩
theorem d_Mo_trick_0 : decode prog_11_method_45_code 0 = .ok (.aload_n 0, 1) := by decide +kernel
theorem d_Mo_trick_1 : decode prog_11_method_45_code 1 = .ok (.iload_n 1, 1) := by decide +kernel
theorem d_Mo_trick_2 : decode prog_11_method_45_code 2 = .ok (.i2l, 1) := by decide +kernel
theorem d_Mo_trick_3 : decode prog_11_method_45_code 3 = .ok (.lconst 0, 1) := by decide +kernel
theorem d_Mo_trick_4 : decode prog_11_method_45_code 4 = .ok (.ldc2_w 185, 3) := by decide +kernel
theorem d_Mo_trick_7 : decode prog_11_method_45_code 7 = .ok (.invokestatic 84, 3) := by decide +kernel
theorem d_Mo_trick_10 : decode prog_11_method_45_code 10 = .ok (.ifCond .eq 7, 3) := by decide +kernel
theorem d_Mo_trick_13 : decode prog_11_method_45_code 13 = .ok (.iconst 0, 1) := by decide +kernel
theorem d_Mo_trick_14 : decode prog_11_method_45_code 14 = .ok (.goto 4, 3) := by decide +kernel
theorem d_Mo_trick_17 : decode prog_11_method_45_code 17 = .ok (.iconst 1, 1) := by decide +kernel
theorem d_Mo_trick_18 : decode prog_11_method_45_code 18 = .ok (.invokevirtual 127, 3) := by decide +kernel
theorem d_Mo_trick_21 : decode prog_11_method_45_code 21 = .ok (.ifCond .eq 5, 3) := by decide +kernel
theorem d_Mo_trick_24 : decode prog_11_method_45_code 24 = .ok (.iconst 0, 1) := by decide +kernel
theorem d_Mo_trick_25 : decode prog_11_method_45_code 25 = .ok (.ireturn, 1) := by decide +kernel
theorem d_Mo_trick_26 : decode prog_11_method_45_code 26 = .ok (.iload_n 1, 1) := by decide +kernel
theorem d_Mo_trick_27 : decode prog_11_method_45_code 27 = .ok (.aload_n 0, 1) := by decide +kernel
theorem d_Mo_trick_28 : decode prog_11_method_45_code 28 = .ok (.getfield 13, 3) := by decide +kernel
theorem d_Mo_trick_31 : decode prog_11_method_45_code 31 = .ok (.bipush 15, 2) := by decide +kernel
theorem d_Mo_trick_33 : decode prog_11_method_45_code 33 = .ok (.iaload, 1) := by decide +kernel
theorem d_Mo_trick_34 : decode prog_11_method_45_code 34 = .ok (.if_icmp .ge 15, 3) := by decide +kernel
theorem d_Mo_trick_37 : decode prog_11_method_45_code 37 = .ok (.aload_n 0, 1) := by decide +kernel
theorem d_Mo_trick_38 : decode prog_11_method_45_code 38 = .ok (.getfield 13, 3) := by decide +kernel
theorem d_Mo_trick_41 : decode prog_11_method_45_code 41 = .ok (.bipush 16, 2) := by decide +kernel
theorem d_Mo_trick_43 : decode prog_11_method_45_code 43 = .ok (.iload_n 1, 1) := by decide +kernel
theorem d_Mo_trick_44 : decode prog_11_method_45_code 44 = .ok (.iadd, 1) := by decide +kernel
theorem d_Mo_trick_45 : decode prog_11_method_45_code 45 = .ok (.iaload, 1) := by decide +kernel
theorem d_Mo_trick_46 : decode prog_11_method_45_code 46 = .ok (.goto 4, 3) := by decide +kernel
theorem d_Mo_trick_49 : decode prog_11_method_45_code 49 = .ok (.iconst (-1), 1) := by decide +kernel
theorem d_Mo_trick_50 : decode prog_11_method_45_code 50 = .ok (.ireturn, 1) := by decide +kernel
noncomputable def f_Mo_trick_b18 (M : gMem) (x1 : Int32) (s0 : Int32) : Option (Int32 × gMem) :=
  (f_Mo_refused M s0).bind fun q2 =>
  if q2.1 = 0 then
    (gRd 197 (q2.2 19 2) 15).bind fun v3 =>
    if v3 ≤ x1 then
      some ((-1), q2.2)
    else
      (gRd 197 (q2.2 19 2) (16 + x1)).bind fun v4 =>
      some (v4, q2.2)
  else
    some (0, q2.2)
theorem t_Mo_trick_b18 {l : Launch} {ε : gEnv} (hM : gMo ε) (M : gMem) (x1 : Int32) (s0 : Int32) (r : (Int32 × gMem)) (h : f_Mo_trick_b18 M x1 s0 = some r) : gGo l ε k_Mo_trick (gR 1 25) (gFn ε (some (.int r.1)) r.2) 18 [(0, .ref (ε.2.2.1 19 0)), (1, .int x1)] [.int s0, .ref (ε.2.2.1 19 0)] M := by
  unfold f_Mo_trick_b18 at h
  obtain ⟨q2, hq2, h⟩ := gOb h
  refine g_callV_i (As := [.int s0]) (rest := []) (ct_Mo_refused hM M s0 _ hq2) d_Mo_trick_18 ca_Mo_refused w_1034 (gMo_h0 hM) rfl rfl rfl (Nat.le_of_ble_eq_true rfl) ⟨(Nat.le_of_ble_eq_true rfl), (Nat.le_of_ble_eq_true rfl)⟩ ?_
  refine g_if_eq (tgt := 26) d_Mo_trick_21 (by decide) (fun c6 => ?_) (fun c6 => ?_)
  · rw [if_pos c6] at h
    refine g_iload_n d_Mo_trick_26 rfl 1 rfl ?_
    refine g_aload_n d_Mo_trick_27 rfl 0 rfl ?_
    refine g_getR d_Mo_trick_28 fl_Mo_13 (gMo_h0 hM) rfl ?_
    refine g_bipush (v := 15) d_Mo_trick_31 (by decide) ?_
    obtain ⟨v3, hv3, h⟩ := gOb h
    refine g_iaload d_Mo_trick_33 (gMo_h2 hM) hv3 ?_
    refine g_icmp_ge (tgt := 49) d_Mo_trick_34 (by decide) (fun c5 => ?_) (fun c5 => ?_)
    · rw [if_pos c5] at h
      refine g_iconst (v := -1) d_Mo_trick_49 (by decide) ?_
      obtain rfl := Option.some.inj h
      exact g_iret d_Mo_trick_50 rfl
    · rw [if_neg c5] at h
      refine g_aload_n d_Mo_trick_37 rfl 0 rfl ?_
      refine g_getR d_Mo_trick_38 fl_Mo_13 (gMo_h0 hM) rfl ?_
      refine g_bipush (v := 16) d_Mo_trick_41 (by decide) ?_
      refine g_iload_n d_Mo_trick_43 rfl 1 rfl ?_
      refine g_iadd d_Mo_trick_44 ?_
      obtain ⟨v4, hv4, h⟩ := gOb h
      refine g_iaload d_Mo_trick_45 (gMo_h2 hM) hv4 ?_
      refine g_goto (tgt := 50) d_Mo_trick_46 (by decide) ?_
      obtain rfl := Option.some.inj h
      exact g_iret d_Mo_trick_50 rfl
  · rw [if_neg c6] at h
    refine g_iconst (v := 0) d_Mo_trick_24 (by decide) ?_
    obtain rfl := Option.some.inj h
    exact g_iret d_Mo_trick_25 rfl
noncomputable def f_Mo_trick (M : gMem) (a0 : Int32) : Option (Int32 × gMem) :=
  (f_Mo_in (Int32.toInt64 a0) 0 (3)).bind fun q1 =>
  if q1 = 0 then
    f_Mo_trick_b18 M a0 1
  else
    f_Mo_trick_b18 M a0 0
theorem t_Mo_trick {l : Launch} {ε : gEnv} (hM : gMo ε) (M : gMem) (a0 : Int32) (r : (Int32 × gMem)) (h : f_Mo_trick M a0 = some r) : gGo l ε k_Mo_trick (gR 1 25) (gFn ε (some (.int r.1)) r.2) 0 [(0, .ref (ε.2.2.1 19 0)), (1, .int a0)] [] M := by
  unfold f_Mo_trick at h
  refine g_aload_n d_Mo_trick_0 rfl 0 rfl ?_
  refine g_iload_n d_Mo_trick_1 rfl 1 rfl ?_
  refine g_i2l d_Mo_trick_2 ?_
  refine g_lconst (v := 0) d_Mo_trick_3 (by decide) ?_
  refine g_ldc2 d_Mo_trick_4 w_1154 ?_
  obtain ⟨q1, hq1, h⟩ := gOb h
  refine g_callS_i (As := [.long (Int32.toInt64 a0), .long 0, .long (3)]) (rest := [.ref (ε.2.2.1 19 0)]) (ct_Mo_in M (Int32.toInt64 a0) 0 (3) _ hq1) d_Mo_trick_7 ca_Mo_in w_1031 rfl rfl (Nat.le_of_ble_eq_true rfl) ⟨(Nat.le_of_ble_eq_true rfl), (Nat.le_of_ble_eq_true rfl)⟩ ?_
  refine g_if_eq (tgt := 17) d_Mo_trick_10 (by decide) (fun c7 => ?_) (fun c7 => ?_)
  · rw [if_pos c7] at h
    refine g_iconst (v := 1) d_Mo_trick_17 (by decide) ?_
    exact t_Mo_trick_b18 hM M a0 1 _ h
  · rw [if_neg c7] at h
    refine g_iconst (v := 0) d_Mo_trick_13 (by decide) ?_
    refine g_goto (tgt := 18) d_Mo_trick_14 (by decide) ?_
    exact t_Mo_trick_b18 hM M a0 0 _ h
theorem ct_Mo_trick {l : Launch} {ε : gEnv} (hM : gMo ε) (M : gMem) (a0 : Int32) (r : (Int32 × gMem)) (h : f_Mo_trick M a0 = some r) : gCt l ε k_Mo_trick 1 25 [.ref (ε.2.2.1 19 0), .int a0] M (some (.int r.1)) r.2 :=
  gCt_of (by decide) (Nat.le_of_ble_eq_true rfl) rfl (t_Mo_trick hM M a0 r h)
abbrev k_Mo_remember : gMD := (⟨"DropSignalsModel", "remember", "()V"⟩, prog_11_method_46_code, 2, none)
theorem w_1166 : Cond.instanceMethod ⟨"DropSignalsModel", "remember", "()V"⟩ ∈ gWs := gWs_in (i := 1166) (by decide +kernel) rfl
theorem w_25 : Cond.selects "DropSignalsModel" ⟨"DropSignalsModel", "remember", "()V"⟩ ⟨"DropSignalsModel", "remember", "()V"⟩ ∈ gWs := gWs_in (i := 25) (by decide +kernel) rfl
set_option maxRecDepth 100000 in
theorem ca_Mo_remember : gCaV k_Mo_remember 0 := ⟨⟨gWs_in (i := 1167) rfl rfl, w_43, by decide, by decide, by decide +kernel⟩, w_1166, w_25⟩
theorem d_Mo_remember_0 : decode prog_11_method_46_code 0 = .ok (.aload_n 0, 1) := by decide +kernel
theorem d_Mo_remember_1 : decode prog_11_method_46_code 1 = .ok (.getfield 176, 3) := by decide +kernel
theorem d_Mo_remember_4 : decode prog_11_method_46_code 4 = .ok (.bipush 14, 2) := by decide +kernel
theorem d_Mo_remember_6 : decode prog_11_method_46_code 6 = .ok (.if_icmp .ne 44, 3) := by decide +kernel
theorem d_Mo_remember_9 : decode prog_11_method_46_code 9 = .ok (.iconst 0, 1) := by decide +kernel
theorem d_Mo_remember_10 : decode prog_11_method_46_code 10 = .ok (.istore_n 1, 1) := by decide +kernel
theorem d_Mo_remember_11 : decode prog_11_method_46_code 11 = .ok (.iload_n 1, 1) := by decide +kernel
theorem d_Mo_remember_12 : decode prog_11_method_46_code 12 = .ok (.sipush 2561, 3) := by decide +kernel
theorem d_Mo_remember_15 : decode prog_11_method_46_code 15 = .ok (.if_icmp .ge 25, 3) := by decide +kernel
theorem d_Mo_remember_18 : decode prog_11_method_46_code 18 = .ok (.aload_n 0, 1) := by decide +kernel
theorem d_Mo_remember_19 : decode prog_11_method_46_code 19 = .ok (.getfield 34, 3) := by decide +kernel
theorem d_Mo_remember_22 : decode prog_11_method_46_code 22 = .ok (.iload_n 1, 1) := by decide +kernel
theorem d_Mo_remember_23 : decode prog_11_method_46_code 23 = .ok (.aload_n 0, 1) := by decide +kernel
theorem d_Mo_remember_24 : decode prog_11_method_46_code 24 = .ok (.getfield 34, 3) := by decide +kernel
theorem d_Mo_remember_27 : decode prog_11_method_46_code 27 = .ok (.iload_n 1, 1) := by decide +kernel
theorem d_Mo_remember_28 : decode prog_11_method_46_code 28 = .ok (.sipush 197, 3) := by decide +kernel
theorem d_Mo_remember_31 : decode prog_11_method_46_code 31 = .ok (.iadd, 1) := by decide +kernel
theorem d_Mo_remember_32 : decode prog_11_method_46_code 32 = .ok (.iaload, 1) := by decide +kernel
theorem d_Mo_remember_33 : decode prog_11_method_46_code 33 = .ok (.iastore, 1) := by decide +kernel
theorem d_Mo_remember_34 : decode prog_11_method_46_code 34 = .ok (.iinc 1 1, 3) := by decide +kernel
theorem d_Mo_remember_37 : decode prog_11_method_46_code 37 = .ok (.goto (-26), 3) := by decide +kernel
theorem d_Mo_remember_40 : decode prog_11_method_46_code 40 = .ok (.aload_n 0, 1) := by decide +kernel
theorem d_Mo_remember_41 : decode prog_11_method_46_code 41 = .ok (.dup, 1) := by decide +kernel
theorem d_Mo_remember_42 : decode prog_11_method_46_code 42 = .ok (.getfield 176, 3) := by decide +kernel
theorem d_Mo_remember_45 : decode prog_11_method_46_code 45 = .ok (.iconst 1, 1) := by decide +kernel
theorem d_Mo_remember_46 : decode prog_11_method_46_code 46 = .ok (.isub, 1) := by decide +kernel
theorem d_Mo_remember_47 : decode prog_11_method_46_code 47 = .ok (.putfield 176, 3) := by decide +kernel
theorem d_Mo_remember_50 : decode prog_11_method_46_code 50 = .ok (.aload_n 0, 1) := by decide +kernel
theorem d_Mo_remember_51 : decode prog_11_method_46_code 51 = .ok (.getfield 13, 3) := by decide +kernel
theorem d_Mo_remember_54 : decode prog_11_method_46_code 54 = .ok (.iconst 0, 1) := by decide +kernel
theorem d_Mo_remember_55 : decode prog_11_method_46_code 55 = .ok (.aload_n 0, 1) := by decide +kernel
theorem d_Mo_remember_56 : decode prog_11_method_46_code 56 = .ok (.getfield 34, 3) := by decide +kernel
theorem d_Mo_remember_59 : decode prog_11_method_46_code 59 = .ok (.sipush 197, 3) := by decide +kernel
theorem d_Mo_remember_62 : decode prog_11_method_46_code 62 = .ok (.aload_n 0, 1) := by decide +kernel
theorem d_Mo_remember_63 : decode prog_11_method_46_code 63 = .ok (.getfield 176, 3) := by decide +kernel
theorem d_Mo_remember_66 : decode prog_11_method_46_code 66 = .ok (.imul, 1) := by decide +kernel
theorem d_Mo_remember_67 : decode prog_11_method_46_code 67 = .ok (.invokestatic 172, 3) := by decide +kernel
theorem d_Mo_remember_70 : decode prog_11_method_46_code 70 = .ok (.aload_n 0, 1) := by decide +kernel
theorem d_Mo_remember_71 : decode prog_11_method_46_code 71 = .ok (.dup, 1) := by decide +kernel
theorem d_Mo_remember_72 : decode prog_11_method_46_code 72 = .ok (.getfield 176, 3) := by decide +kernel
theorem d_Mo_remember_75 : decode prog_11_method_46_code 75 = .ok (.iconst 1, 1) := by decide +kernel
theorem d_Mo_remember_76 : decode prog_11_method_46_code 76 = .ok (.iadd, 1) := by decide +kernel
theorem d_Mo_remember_77 : decode prog_11_method_46_code 77 = .ok (.putfield 176, 3) := by decide +kernel
theorem d_Mo_remember_80 : decode prog_11_method_46_code 80 = .ok (.return_, 1) := by decide +kernel
theorem w_983 : Cond.fieldLink "DropSignalsModel" 34 "DropSignalsModel" "diary" "[I" ∈ gWs := gWs_in (i := 983) (by decide +kernel) rfl
theorem fl_Mo_34 : gFl "DropSignalsModel" 34 8 10 := ⟨gN8, gF8, 16, rfl, uw_8, by decide, w_983⟩
noncomputable def f_Mo_remember_b50 (M : gMem) : Option gMem :=
  (f_Mo_copyState 19 2 197 19 9 2758 M 0 (197 * (M 19 0 11))).bind fun q1 =>
  (gSO q1 19 0 11 ((q1 19 0 11) + 1)).bind fun M2 =>
  some M2
theorem t_Mo_remember_b50 {l : Launch} {ε : gEnv} (hM : gMo ε) (M : gMem) (r : gMem) (h : f_Mo_remember_b50 M = some r) : gGo l ε k_Mo_remember (gR 1 24) (gFn ε none r) 50 [(0, .ref (ε.2.2.1 19 0))] [] M := by
  unfold f_Mo_remember_b50 at h
  refine g_aload_n d_Mo_remember_50 rfl 0 rfl ?_
  refine g_getR d_Mo_remember_51 fl_Mo_13 (gMo_h0 hM) rfl ?_
  refine g_iconst (v := 0) d_Mo_remember_54 (by decide) ?_
  refine g_aload_n d_Mo_remember_55 rfl 0 rfl ?_
  refine g_getR d_Mo_remember_56 fl_Mo_34 (gMo_h0 hM) rfl ?_
  refine g_sipush (v := 197) d_Mo_remember_59 (by decide) ?_
  refine g_aload_n d_Mo_remember_62 rfl 0 rfl ?_
  refine g_getI d_Mo_remember_63 fl_Mo_176 (gMo_h0 hM) rfl ?_
  refine g_imul d_Mo_remember_66 ?_
  obtain ⟨q1, hq1, h⟩ := gOb h
  refine g_callS_v (As := [.ref (ε.2.2.1 19 2), .int 0, .ref (ε.2.2.1 19 9), .int (197 * (M 19 0 11))]) (rest := []) (ct_Mo_copyState 19 2 197 19 9 2758 (gMo_h2 hM) (gMo_h9 hM) M 0 (197 * (M 19 0 11)) _ hq1) d_Mo_remember_67 ca_Mo_copyState w_1136 rfl rfl (Nat.le_of_ble_eq_true rfl) ⟨(Nat.le_of_ble_eq_true rfl), (Nat.le_of_ble_eq_true rfl)⟩ ?_
  refine g_aload_n d_Mo_remember_70 rfl 0 rfl ?_
  refine g_dup d_Mo_remember_71 rfl ?_
  refine g_getI d_Mo_remember_72 fl_Mo_176 (gMo_h0 hM) rfl ?_
  refine g_iconst (v := 1) d_Mo_remember_75 (by decide) ?_
  refine g_iadd d_Mo_remember_76 ?_
  obtain ⟨M2, hM2, h⟩ := gOb h
  refine g_putO d_Mo_remember_77 fp_Mo_176 (gMo_h0 hM) rfl hM2 ?_
  obtain rfl := Option.some.inj h
  exact g_vret d_Mo_remember_80 rfl
noncomputable def f_Mo_remember_s11 (M : gMem) (x1 : Int32) : Option ((Int32 × gMem) ⊕ gMem) :=
  if 2561 ≤ x1 then
    (gSO M 19 0 11 ((M 19 0 11) - 1)).bind fun M3 =>
    (f_Mo_remember_b50 M3).map .inr
  else
    (gRd 2758 (M 19 9) (x1 + 197)).bind fun v4 =>
    (gWr M 19 9 2758 x1 v4).bind fun M5 =>
    some (.inl ((x1 + 1), M5))
theorem t_Mo_remember_s11 {l : Launch} {ε : gEnv} (hM : gMo ε) (M : gMem) (x1 : Int32) (res : ((Int32 × gMem) ⊕ gMem)) (h : f_Mo_remember_s11 M x1 = some res) (r : gMem) (k1 : ∀ s0 : (Int32 × gMem), res = .inl s0 → gGo l ε k_Mo_remember (gR 1 24) (gFn ε none r) 11 [(0, .ref (ε.2.2.1 19 0)), (1, .int s0.1)] [] s0.2) (k2 : ∀ r', res = .inr r' → r' = r) : gGo l ε k_Mo_remember (gR 1 24) (gFn ε none r) 11 [(0, .ref (ε.2.2.1 19 0)), (1, .int x1)] [] M := by
  unfold f_Mo_remember_s11 at h
  refine g_iload_n d_Mo_remember_11 rfl 1 rfl ?_
  refine g_sipush (v := 2561) d_Mo_remember_12 (by decide) ?_
  refine g_icmp_ge (tgt := 40) d_Mo_remember_15 (by decide) (fun c6 => ?_) (fun c6 => ?_)
  · rw [if_pos c6] at h
    refine g_aload_n d_Mo_remember_40 rfl 0 rfl ?_
    refine g_dup d_Mo_remember_41 rfl ?_
    refine g_getI d_Mo_remember_42 fl_Mo_176 (gMo_h0 hM) rfl ?_
    refine g_iconst (v := 1) d_Mo_remember_45 (by decide) ?_
    refine g_isub d_Mo_remember_46 ?_
    obtain ⟨M3, hM3, h⟩ := gOb h
    refine g_putO d_Mo_remember_47 fp_Mo_176 (gMo_h0 hM) rfl hM3 ?_
    refine gGo_sub [0] rfl ?_
    obtain ⟨r9, h9, h8⟩ := gOm h
    cases h8
    have e9 := k2 _ rfl
    subst e9
    exact t_Mo_remember_b50 hM M3 _ h9
  · rw [if_neg c6] at h
    refine g_aload_n d_Mo_remember_18 rfl 0 rfl ?_
    refine g_getR d_Mo_remember_19 fl_Mo_34 (gMo_h0 hM) rfl ?_
    refine g_iload_n d_Mo_remember_22 rfl 1 rfl ?_
    refine g_aload_n d_Mo_remember_23 rfl 0 rfl ?_
    refine g_getR d_Mo_remember_24 fl_Mo_34 (gMo_h0 hM) rfl ?_
    refine g_iload_n d_Mo_remember_27 rfl 1 rfl ?_
    refine g_sipush (v := 197) d_Mo_remember_28 (by decide) ?_
    refine g_iadd d_Mo_remember_31 ?_
    obtain ⟨v4, hv4, h⟩ := gOb h
    refine g_iaload d_Mo_remember_32 (gMo_h9 hM) hv4 ?_
    obtain ⟨M5, hM5, h⟩ := gOb h
    refine g_iastore d_Mo_remember_33 (gMo_h9 hM) hM5 ?_
    refine g_iinc (v := (x1 + 1)) (L' := [(1, .int (x1 + 1)), (0, .ref (ε.2.2.1 19 0))]) d_Mo_remember_34 (j := 1) rfl rfl (by decide) rfl ?_
    refine g_goto (tgt := 11) d_Mo_remember_37 (by decide) ?_
    refine gGo_sub [1, 0] rfl ?_
    obtain rfl := Option.some.inj h
    exact k1 ((x1 + 1), M5) rfl
noncomputable def f_Mo_remember_l11 (s : (Int32 × gMem)) : Option gMem := gLp (fun s => f_Mo_remember_s11 s.2 s.1) s
theorem t_Mo_remember_l11 {l : Launch} {ε : gEnv} (hM : gMo ε) (s : (Int32 × gMem)) (r : gMem) (h : f_Mo_remember_l11 s = some r) : gGo l ε k_Mo_remember (gR 1 24) (gFn ε none r) 11 [(0, .ref (ε.2.2.1 19 0)), (1, .int s.1)] [] s.2 :=
  g_loop _ (fun r s => gGo l ε k_Mo_remember (gR 1 24) (gFn ε none r) 11 [(0, .ref (ε.2.2.1 19 0)), (1, .int s.1)] [] s.2) (fun s res h r k1 k2 => t_Mo_remember_s11 hM s.2 s.1 res h r k1 k2) s r h
noncomputable def f_Mo_remember (M : gMem) : Option gMem :=
  if (M 19 0 11) = 14 then
    f_Mo_remember_l11 (0, M)
  else
    f_Mo_remember_b50 M
theorem t_Mo_remember {l : Launch} {ε : gEnv} (hM : gMo ε) (M : gMem) (r : gMem) (h : f_Mo_remember M = some r) : gGo l ε k_Mo_remember (gR 1 24) (gFn ε none r) 0 [(0, .ref (ε.2.2.1 19 0))] [] M := by
  unfold f_Mo_remember at h
  refine g_aload_n d_Mo_remember_0 rfl 0 rfl ?_
  refine g_getI d_Mo_remember_1 fl_Mo_176 (gMo_h0 hM) rfl ?_
  refine g_bipush (v := 14) d_Mo_remember_4 (by decide) ?_
  refine g_icmp_ne (tgt := 50) d_Mo_remember_6 (by decide) (fun c7 => ?_) (fun c7 => ?_)
  · rw [if_neg c7] at h
    exact t_Mo_remember_b50 hM M _ h
  · rw [if_pos c7] at h
    refine g_iconst (v := 0) d_Mo_remember_9 (by decide) ?_
    refine g_istore_n (L' := [(1, .int 0), (0, .ref (ε.2.2.1 19 0))]) d_Mo_remember_10 rfl (by decide) rfl ?_
    refine gGo_sub [1, 0] rfl ?_
    exact t_Mo_remember_l11 hM (0, M) _ h
theorem ct_Mo_remember {l : Launch} {ε : gEnv} (hM : gMo ε) (M : gMem) (r : gMem) (h : f_Mo_remember M = some r) : gCt l ε k_Mo_remember 1 24 [.ref (ε.2.2.1 19 0)] M none r :=
  gCt_of (by decide) (Nat.le_of_ble_eq_true rfl) rfl (t_Mo_remember hM M r h)
abbrev k_Mo_deal : gMD := (⟨"DropSignalsModel", "deal", "(J)I"⟩, prog_11_method_47_code, 3, (some .int))
theorem w_1161 : Cond.instanceMethod ⟨"DropSignalsModel", "deal", "(J)I"⟩ ∈ gWs := gWs_in (i := 1161) (by decide +kernel) rfl
theorem w_1162 : Cond.selects "DropSignalsModel" ⟨"DropSignalsModel", "deal", "(J)I"⟩ ⟨"DropSignalsModel", "deal", "(J)I"⟩ ∈ gWs := gWs_in (i := 1162) (by decide +kernel) rfl
set_option maxRecDepth 100000 in
theorem ca_Mo_deal : gCaV k_Mo_deal 1 := ⟨⟨gWs_in (i := 1163) rfl rfl, w_43, by decide, by decide, by decide +kernel⟩, w_1161, w_1162⟩
theorem d_Mo_deal_0 : decode prog_11_method_47_code 0 = .ok (.aload_n 0, 1) := by decide +kernel
theorem d_Mo_deal_1 : decode prog_11_method_47_code 1 = .ok (.iconst 0, 1) := by decide +kernel
theorem d_Mo_deal_2 : decode prog_11_method_47_code 2 = .ok (.putfield 48, 3) := by decide +kernel
theorem d_Mo_deal_5 : decode prog_11_method_47_code 5 = .ok (.aload_n 0, 1) := by decide +kernel
theorem d_Mo_deal_6 : decode prog_11_method_47_code 6 = .ok (.invokevirtual 189, 3) := by decide +kernel
theorem d_Mo_deal_9 : decode prog_11_method_47_code 9 = .ok (.aload_n 0, 1) := by decide +kernel
theorem d_Mo_deal_10 : decode prog_11_method_47_code 10 = .ok (.aload_n 0, 1) := by decide +kernel
theorem d_Mo_deal_11 : decode prog_11_method_47_code 11 = .ok (.getfield 13, 3) := by decide +kernel
theorem d_Mo_deal_14 : decode prog_11_method_47_code 14 = .ok (.lload_n 1, 1) := by decide +kernel
theorem d_Mo_deal_15 : decode prog_11_method_47_code 15 = .ok (.invokevirtual 142, 3) := by decide +kernel
theorem d_Mo_deal_18 : decode prog_11_method_47_code 18 = .ok (.ireturn, 1) := by decide +kernel
theorem w_1164 : Cond.methodLink "DropSignalsModel" 189 ⟨"DropSignalsModel", "remember", "()V"⟩ ∈ gWs := gWs_in (i := 1164) (by decide +kernel) rfl
noncomputable def f_Mo_deal (M : gMem) (a0 : Int64) : Option (Int32 × gMem) :=
  (gSO M 19 0 0 0).bind fun M1 =>
  (f_Mo_remember M1).bind fun q2 =>
  (f_Mo_dealOn 19 2 197 q2 a0).bind fun q3 =>
  some (q3.1, q3.2)
theorem t_Mo_deal {l : Launch} {ε : gEnv} (hM : gMo ε) (M : gMem) (a0 : Int64) (r : (Int32 × gMem)) (h : f_Mo_deal M a0 = some r) : gGo l ε k_Mo_deal (gR 2 49) (gFn ε (some (.int r.1)) r.2) 0 [(0, .ref (ε.2.2.1 19 0)), (1, .long a0)] [] M := by
  unfold f_Mo_deal at h
  refine g_aload_n d_Mo_deal_0 rfl 0 rfl ?_
  refine g_iconst (v := 0) d_Mo_deal_1 (by decide) ?_
  obtain ⟨M1, hM1, h⟩ := gOb h
  refine g_putO d_Mo_deal_2 fp_Mo_48 (gMo_h0 hM) rfl hM1 ?_
  refine g_aload_n d_Mo_deal_5 rfl 0 rfl ?_
  obtain ⟨q2, hq2, h⟩ := gOb h
  refine g_callV_v (As := []) (rest := []) (ct_Mo_remember hM M1 _ hq2) d_Mo_deal_6 ca_Mo_remember w_1164 (gMo_h0 hM) rfl rfl rfl (Nat.le_of_ble_eq_true rfl) ⟨(Nat.le_of_ble_eq_true rfl), (Nat.le_of_ble_eq_true rfl)⟩ ?_
  refine g_aload_n d_Mo_deal_9 rfl 0 rfl ?_
  refine g_aload_n d_Mo_deal_10 rfl 0 rfl ?_
  refine g_getR d_Mo_deal_11 fl_Mo_13 (gMo_h0 hM) rfl ?_
  refine g_lload_n d_Mo_deal_14 rfl 1 rfl ?_
  obtain ⟨q3, hq3, h⟩ := gOb h
  refine g_callV_i (As := [.ref (ε.2.2.1 19 2), .long a0]) (rest := []) (ct_Mo_dealOn hM 19 2 197 (gMo_h2 hM) q2 a0 _ hq3) d_Mo_deal_15 ca_Mo_dealOn w_1059 (gMo_h0 hM) rfl rfl rfl (Nat.le_of_ble_eq_true rfl) ⟨(Nat.le_of_ble_eq_true rfl), (Nat.le_of_ble_eq_true rfl)⟩ ?_
  obtain rfl := Option.some.inj h
  exact g_iret d_Mo_deal_18 rfl
theorem ct_Mo_deal {l : Launch} {ε : gEnv} (hM : gMo ε) (M : gMem) (a0 : Int64) (r : (Int32 × gMem)) (h : f_Mo_deal M a0 = some r) : gCt l ε k_Mo_deal 2 49 [.ref (ε.2.2.1 19 0), .long a0] M (some (.int r.1)) r.2 :=
  gCt_of (by decide) (Nat.le_of_ble_eq_true rfl) rfl (t_Mo_deal hM M a0 r h)
abbrev k_Mo_bid : gMD := (⟨"DropSignalsModel", "bid", "(II)I"⟩, prog_11_method_48_code, 3, (some .int))
theorem w_1169 : Cond.instanceMethod ⟨"DropSignalsModel", "bid", "(II)I"⟩ ∈ gWs := gWs_in (i := 1169) (by decide +kernel) rfl
theorem w_1170 : Cond.selects "DropSignalsModel" ⟨"DropSignalsModel", "bid", "(II)I"⟩ ⟨"DropSignalsModel", "bid", "(II)I"⟩ ∈ gWs := gWs_in (i := 1170) (by decide +kernel) rfl
set_option maxRecDepth 100000 in
theorem ca_Mo_bid : gCaV k_Mo_bid 2 := ⟨⟨gWs_in (i := 1171) rfl rfl, w_43, by decide, by decide, by decide +kernel⟩, w_1169, w_1170⟩
theorem d_Mo_bid_0 : decode prog_11_method_48_code 0 = .ok (.aload_n 0, 1) := by decide +kernel
theorem d_Mo_bid_1 : decode prog_11_method_48_code 1 = .ok (.iload_n 1, 1) := by decide +kernel
theorem d_Mo_bid_2 : decode prog_11_method_48_code 2 = .ok (.iload_n 2, 1) := by decide +kernel
theorem d_Mo_bid_3 : decode prog_11_method_48_code 3 = .ok (.invokestatic 192, 3) := by decide +kernel
theorem d_Mo_bid_6 : decode prog_11_method_48_code 6 = .ok (.ifCond .ne 7, 3) := by decide +kernel
theorem d_Mo_bid_9 : decode prog_11_method_48_code 9 = .ok (.iconst 1, 1) := by decide +kernel
theorem d_Mo_bid_10 : decode prog_11_method_48_code 10 = .ok (.goto 20, 3) := by decide +kernel
theorem d_Mo_bid_13 : decode prog_11_method_48_code 13 = .ok (.aload_n 0, 1) := by decide +kernel
theorem d_Mo_bid_14 : decode prog_11_method_48_code 14 = .ok (.getfield 13, 3) := by decide +kernel
theorem d_Mo_bid_17 : decode prog_11_method_48_code 17 = .ok (.iload_n 1, 1) := by decide +kernel
theorem d_Mo_bid_18 : decode prog_11_method_48_code 18 = .ok (.iload_n 2, 1) := by decide +kernel
theorem d_Mo_bid_19 : decode prog_11_method_48_code 19 = .ok (.invokestatic 150, 3) := by decide +kernel
theorem d_Mo_bid_22 : decode prog_11_method_48_code 22 = .ok (.ifCond .eq 7, 3) := by decide +kernel
theorem d_Mo_bid_25 : decode prog_11_method_48_code 25 = .ok (.iconst 0, 1) := by decide +kernel
theorem d_Mo_bid_26 : decode prog_11_method_48_code 26 = .ok (.goto 4, 3) := by decide +kernel
theorem d_Mo_bid_29 : decode prog_11_method_48_code 29 = .ok (.iconst 2, 1) := by decide +kernel
theorem d_Mo_bid_30 : decode prog_11_method_48_code 30 = .ok (.invokevirtual 127, 3) := by decide +kernel
theorem d_Mo_bid_33 : decode prog_11_method_48_code 33 = .ok (.ifCond .eq 5, 3) := by decide +kernel
theorem d_Mo_bid_36 : decode prog_11_method_48_code 36 = .ok (.iconst 0, 1) := by decide +kernel
theorem d_Mo_bid_37 : decode prog_11_method_48_code 37 = .ok (.ireturn, 1) := by decide +kernel
theorem d_Mo_bid_38 : decode prog_11_method_48_code 38 = .ok (.aload_n 0, 1) := by decide +kernel
theorem d_Mo_bid_39 : decode prog_11_method_48_code 39 = .ok (.invokevirtual 189, 3) := by decide +kernel
theorem d_Mo_bid_42 : decode prog_11_method_48_code 42 = .ok (.aload_n 0, 1) := by decide +kernel
theorem d_Mo_bid_43 : decode prog_11_method_48_code 43 = .ok (.getfield 13, 3) := by decide +kernel
theorem d_Mo_bid_46 : decode prog_11_method_48_code 46 = .ok (.iload_n 1, 1) := by decide +kernel
theorem d_Mo_bid_47 : decode prog_11_method_48_code 47 = .ok (.iload_n 2, 1) := by decide +kernel
theorem d_Mo_bid_48 : decode prog_11_method_48_code 48 = .ok (.invokestatic 154, 3) := by decide +kernel
theorem d_Mo_bid_51 : decode prog_11_method_48_code 51 = .ok (.ireturn, 1) := by decide +kernel
theorem w_1172 : Cond.methodLink "DropSignalsModel" 192 ⟨"DropSignalsModel", "isBid", "(II)Z"⟩ ∈ gWs := gWs_in (i := 1172) (by decide +kernel) rfl
noncomputable def f_Mo_bid_b30 (M : gMem) (x1 : Int32) (x2 : Int32) (s0 : Int32) : Option (Int32 × gMem) :=
  (f_Mo_refused M s0).bind fun q3 =>
  if q3.1 = 0 then
    (f_Mo_remember q3.2).bind fun q4 =>
    (f_Mo_bidOn 19 2 197 q4 x1 x2).bind fun q5 =>
    some (q5.1, q5.2)
  else
    some (0, q3.2)
theorem t_Mo_bid_b30 {l : Launch} {ε : gEnv} (hM : gMo ε) (M : gMem) (x1 : Int32) (x2 : Int32) (s0 : Int32) (r : (Int32 × gMem)) (h : f_Mo_bid_b30 M x1 x2 s0 = some r) : gGo l ε k_Mo_bid (gR 2 46) (gFn ε (some (.int r.1)) r.2) 30 [(0, .ref (ε.2.2.1 19 0)), (1, .int x1), (2, .int x2)] [.int s0, .ref (ε.2.2.1 19 0)] M := by
  unfold f_Mo_bid_b30 at h
  obtain ⟨q3, hq3, h⟩ := gOb h
  refine g_callV_i (As := [.int s0]) (rest := []) (ct_Mo_refused hM M s0 _ hq3) d_Mo_bid_30 ca_Mo_refused w_1034 (gMo_h0 hM) rfl rfl rfl (Nat.le_of_ble_eq_true rfl) ⟨(Nat.le_of_ble_eq_true rfl), (Nat.le_of_ble_eq_true rfl)⟩ ?_
  refine g_if_eq (tgt := 38) d_Mo_bid_33 (by decide) (fun c6 => ?_) (fun c6 => ?_)
  · rw [if_pos c6] at h
    refine g_aload_n d_Mo_bid_38 rfl 0 rfl ?_
    obtain ⟨q4, hq4, h⟩ := gOb h
    refine g_callV_v (As := []) (rest := []) (ct_Mo_remember hM q3.2 _ hq4) d_Mo_bid_39 ca_Mo_remember w_1164 (gMo_h0 hM) rfl rfl rfl (Nat.le_of_ble_eq_true rfl) ⟨(Nat.le_of_ble_eq_true rfl), (Nat.le_of_ble_eq_true rfl)⟩ ?_
    refine g_aload_n d_Mo_bid_42 rfl 0 rfl ?_
    refine g_getR d_Mo_bid_43 fl_Mo_13 (gMo_h0 hM) rfl ?_
    refine g_iload_n d_Mo_bid_46 rfl 1 rfl ?_
    refine g_iload_n d_Mo_bid_47 rfl 2 rfl ?_
    obtain ⟨q5, hq5, h⟩ := gOb h
    refine g_callS_i (As := [.ref (ε.2.2.1 19 2), .int x1, .int x2]) (rest := []) (ct_Mo_bidOn 19 2 197 (gMo_h2 hM) q4 x1 x2 _ hq5) d_Mo_bid_48 ca_Mo_bidOn w_1072 rfl rfl (Nat.le_of_ble_eq_true rfl) ⟨(Nat.le_of_ble_eq_true rfl), (Nat.le_of_ble_eq_true rfl)⟩ ?_
    obtain rfl := Option.some.inj h
    exact g_iret d_Mo_bid_51 rfl
  · rw [if_neg c6] at h
    refine g_iconst (v := 0) d_Mo_bid_36 (by decide) ?_
    obtain rfl := Option.some.inj h
    exact g_iret d_Mo_bid_37 rfl
noncomputable def f_Mo_bid (M : gMem) (a0 : Int32) (a1 : Int32) : Option (Int32 × gMem) :=
  (f_Mo_isBid a0 a1).bind fun q1 =>
  if q1 = 0 then
    f_Mo_bid_b30 M a0 a1 1
  else
    (f_Mo_canBid 19 2 197 M a0 a1).bind fun q2 =>
    if q2 = 0 then
      f_Mo_bid_b30 M a0 a1 2
    else
      f_Mo_bid_b30 M a0 a1 0
theorem t_Mo_bid {l : Launch} {ε : gEnv} (hM : gMo ε) (M : gMem) (a0 : Int32) (a1 : Int32) (r : (Int32 × gMem)) (h : f_Mo_bid M a0 a1 = some r) : gGo l ε k_Mo_bid (gR 2 46) (gFn ε (some (.int r.1)) r.2) 0 [(0, .ref (ε.2.2.1 19 0)), (1, .int a0), (2, .int a1)] [] M := by
  unfold f_Mo_bid at h
  refine g_aload_n d_Mo_bid_0 rfl 0 rfl ?_
  refine g_iload_n d_Mo_bid_1 rfl 1 rfl ?_
  refine g_iload_n d_Mo_bid_2 rfl 2 rfl ?_
  obtain ⟨q1, hq1, h⟩ := gOb h
  refine g_callS_i (As := [.int a0, .int a1]) (rest := [.ref (ε.2.2.1 19 0)]) (ct_Mo_isBid M a0 a1 _ hq1) d_Mo_bid_3 ca_Mo_isBid w_1172 rfl rfl (Nat.le_of_ble_eq_true rfl) ⟨(Nat.le_of_ble_eq_true rfl), (Nat.le_of_ble_eq_true rfl)⟩ ?_
  refine g_if_ne (tgt := 13) d_Mo_bid_6 (by decide) (fun c8 => ?_) (fun c8 => ?_)
  · rw [if_neg c8] at h
    refine g_aload_n d_Mo_bid_13 rfl 0 rfl ?_
    refine g_getR d_Mo_bid_14 fl_Mo_13 (gMo_h0 hM) rfl ?_
    refine g_iload_n d_Mo_bid_17 rfl 1 rfl ?_
    refine g_iload_n d_Mo_bid_18 rfl 2 rfl ?_
    obtain ⟨q2, hq2, h⟩ := gOb h
    refine g_callS_i (As := [.ref (ε.2.2.1 19 2), .int a0, .int a1]) (rest := [.ref (ε.2.2.1 19 0)]) (ct_Mo_canBid 19 2 197 (gMo_h2 hM) M a0 a1 _ hq2) d_Mo_bid_19 ca_Mo_canBid w_1069 rfl rfl (Nat.le_of_ble_eq_true rfl) ⟨(Nat.le_of_ble_eq_true rfl), (Nat.le_of_ble_eq_true rfl)⟩ ?_
    refine g_if_eq (tgt := 29) d_Mo_bid_22 (by decide) (fun c7 => ?_) (fun c7 => ?_)
    · rw [if_pos c7] at h
      refine g_iconst (v := 2) d_Mo_bid_29 (by decide) ?_
      exact t_Mo_bid_b30 hM M a0 a1 2 _ h
    · rw [if_neg c7] at h
      refine g_iconst (v := 0) d_Mo_bid_25 (by decide) ?_
      refine g_goto (tgt := 30) d_Mo_bid_26 (by decide) ?_
      exact t_Mo_bid_b30 hM M a0 a1 0 _ h
  · rw [if_pos c8] at h
    refine g_iconst (v := 1) d_Mo_bid_9 (by decide) ?_
    refine g_goto (tgt := 30) d_Mo_bid_10 (by decide) ?_
    exact t_Mo_bid_b30 hM M a0 a1 1 _ h
theorem ct_Mo_bid {l : Launch} {ε : gEnv} (hM : gMo ε) (M : gMem) (a0 : Int32) (a1 : Int32) (r : (Int32 × gMem)) (h : f_Mo_bid M a0 a1 = some r) : gCt l ε k_Mo_bid 2 46 [.ref (ε.2.2.1 19 0), .int a0, .int a1] M (some (.int r.1)) r.2 :=
  gCt_of (by decide) (Nat.le_of_ble_eq_true rfl) rfl (t_Mo_bid hM M a0 a1 r h)
abbrev k_Mo_pass : gMD := (⟨"DropSignalsModel", "pass", "()I"⟩, prog_11_method_49_code, 1, (some .int))
theorem w_1177 : Cond.instanceMethod ⟨"DropSignalsModel", "pass", "()I"⟩ ∈ gWs := gWs_in (i := 1177) (by decide +kernel) rfl
theorem w_1178 : Cond.selects "DropSignalsModel" ⟨"DropSignalsModel", "pass", "()I"⟩ ⟨"DropSignalsModel", "pass", "()I"⟩ ∈ gWs := gWs_in (i := 1178) (by decide +kernel) rfl
set_option maxRecDepth 100000 in
theorem ca_Mo_pass : gCaV k_Mo_pass 0 := ⟨⟨gWs_in (i := 1179) rfl rfl, w_43, by decide, by decide, by decide +kernel⟩, w_1177, w_1178⟩
theorem d_Mo_pass_0 : decode prog_11_method_49_code 0 = .ok (.aload_n 0, 1) := by decide +kernel
theorem d_Mo_pass_1 : decode prog_11_method_49_code 1 = .ok (.aload_n 0, 1) := by decide +kernel
theorem d_Mo_pass_2 : decode prog_11_method_49_code 2 = .ok (.getfield 13, 3) := by decide +kernel
theorem d_Mo_pass_5 : decode prog_11_method_49_code 5 = .ok (.iconst 1, 1) := by decide +kernel
theorem d_Mo_pass_6 : decode prog_11_method_49_code 6 = .ok (.iaload, 1) := by decide +kernel
theorem d_Mo_pass_7 : decode prog_11_method_49_code 7 = .ok (.iconst 1, 1) := by decide +kernel
theorem d_Mo_pass_8 : decode prog_11_method_49_code 8 = .ok (.if_icmp .ne 7, 3) := by decide +kernel
theorem d_Mo_pass_11 : decode prog_11_method_49_code 11 = .ok (.iconst 0, 1) := by decide +kernel
theorem d_Mo_pass_12 : decode prog_11_method_49_code 12 = .ok (.goto 4, 3) := by decide +kernel
theorem d_Mo_pass_15 : decode prog_11_method_49_code 15 = .ok (.iconst 1, 1) := by decide +kernel
theorem d_Mo_pass_16 : decode prog_11_method_49_code 16 = .ok (.invokevirtual 127, 3) := by decide +kernel
theorem d_Mo_pass_19 : decode prog_11_method_49_code 19 = .ok (.ifCond .eq 5, 3) := by decide +kernel
theorem d_Mo_pass_22 : decode prog_11_method_49_code 22 = .ok (.iconst 0, 1) := by decide +kernel
theorem d_Mo_pass_23 : decode prog_11_method_49_code 23 = .ok (.ireturn, 1) := by decide +kernel
theorem d_Mo_pass_24 : decode prog_11_method_49_code 24 = .ok (.aload_n 0, 1) := by decide +kernel
theorem d_Mo_pass_25 : decode prog_11_method_49_code 25 = .ok (.invokevirtual 189, 3) := by decide +kernel
theorem d_Mo_pass_28 : decode prog_11_method_49_code 28 = .ok (.aload_n 0, 1) := by decide +kernel
theorem d_Mo_pass_29 : decode prog_11_method_49_code 29 = .ok (.getfield 13, 3) := by decide +kernel
theorem d_Mo_pass_32 : decode prog_11_method_49_code 32 = .ok (.invokestatic 157, 3) := by decide +kernel
theorem d_Mo_pass_35 : decode prog_11_method_49_code 35 = .ok (.ireturn, 1) := by decide +kernel
noncomputable def f_Mo_pass_b16 (M : gMem) (s0 : Int32) : Option (Int32 × gMem) :=
  (f_Mo_refused M s0).bind fun q2 =>
  if q2.1 = 0 then
    (f_Mo_remember q2.2).bind fun q3 =>
    (f_Mo_passOn 19 2 197 q3).bind fun q4 =>
    some (q4.1, q4.2)
  else
    some (0, q2.2)
theorem t_Mo_pass_b16 {l : Launch} {ε : gEnv} (hM : gMo ε) (M : gMem) (s0 : Int32) (r : (Int32 × gMem)) (h : f_Mo_pass_b16 M s0 = some r) : gGo l ε k_Mo_pass (gR 2 45) (gFn ε (some (.int r.1)) r.2) 16 [(0, .ref (ε.2.2.1 19 0))] [.int s0, .ref (ε.2.2.1 19 0)] M := by
  unfold f_Mo_pass_b16 at h
  obtain ⟨q2, hq2, h⟩ := gOb h
  refine g_callV_i (As := [.int s0]) (rest := []) (ct_Mo_refused hM M s0 _ hq2) d_Mo_pass_16 ca_Mo_refused w_1034 (gMo_h0 hM) rfl rfl rfl (Nat.le_of_ble_eq_true rfl) ⟨(Nat.le_of_ble_eq_true rfl), (Nat.le_of_ble_eq_true rfl)⟩ ?_
  refine g_if_eq (tgt := 24) d_Mo_pass_19 (by decide) (fun c5 => ?_) (fun c5 => ?_)
  · rw [if_pos c5] at h
    refine g_aload_n d_Mo_pass_24 rfl 0 rfl ?_
    obtain ⟨q3, hq3, h⟩ := gOb h
    refine g_callV_v (As := []) (rest := []) (ct_Mo_remember hM q2.2 _ hq3) d_Mo_pass_25 ca_Mo_remember w_1164 (gMo_h0 hM) rfl rfl rfl (Nat.le_of_ble_eq_true rfl) ⟨(Nat.le_of_ble_eq_true rfl), (Nat.le_of_ble_eq_true rfl)⟩ ?_
    refine g_aload_n d_Mo_pass_28 rfl 0 rfl ?_
    refine g_getR d_Mo_pass_29 fl_Mo_13 (gMo_h0 hM) rfl ?_
    obtain ⟨q4, hq4, h⟩ := gOb h
    refine g_callS_i (As := [.ref (ε.2.2.1 19 2)]) (rest := []) (ct_Mo_passOn 19 2 197 (gMo_h2 hM) q3 _ hq4) d_Mo_pass_32 ca_Mo_passOn w_1075 rfl rfl (Nat.le_of_ble_eq_true rfl) ⟨(Nat.le_of_ble_eq_true rfl), (Nat.le_of_ble_eq_true rfl)⟩ ?_
    obtain rfl := Option.some.inj h
    exact g_iret d_Mo_pass_35 rfl
  · rw [if_neg c5] at h
    refine g_iconst (v := 0) d_Mo_pass_22 (by decide) ?_
    obtain rfl := Option.some.inj h
    exact g_iret d_Mo_pass_23 rfl
noncomputable def f_Mo_pass (M : gMem) : Option (Int32 × gMem) :=
  (gRd 197 (M 19 2) 1).bind fun v1 =>
  if v1 = 1 then
    f_Mo_pass_b16 M 0
  else
    f_Mo_pass_b16 M 1
theorem t_Mo_pass {l : Launch} {ε : gEnv} (hM : gMo ε) (M : gMem) (r : (Int32 × gMem)) (h : f_Mo_pass M = some r) : gGo l ε k_Mo_pass (gR 2 45) (gFn ε (some (.int r.1)) r.2) 0 [(0, .ref (ε.2.2.1 19 0))] [] M := by
  unfold f_Mo_pass at h
  refine g_aload_n d_Mo_pass_0 rfl 0 rfl ?_
  refine g_aload_n d_Mo_pass_1 rfl 0 rfl ?_
  refine g_getR d_Mo_pass_2 fl_Mo_13 (gMo_h0 hM) rfl ?_
  refine g_iconst (v := 1) d_Mo_pass_5 (by decide) ?_
  obtain ⟨v1, hv1, h⟩ := gOb h
  refine g_iaload d_Mo_pass_6 (gMo_h2 hM) hv1 ?_
  refine g_iconst (v := 1) d_Mo_pass_7 (by decide) ?_
  refine g_icmp_ne (tgt := 15) d_Mo_pass_8 (by decide) (fun c6 => ?_) (fun c6 => ?_)
  · rw [if_neg c6] at h
    refine g_iconst (v := 1) d_Mo_pass_15 (by decide) ?_
    exact t_Mo_pass_b16 hM M 1 _ h
  · rw [if_pos c6] at h
    refine g_iconst (v := 0) d_Mo_pass_11 (by decide) ?_
    refine g_goto (tgt := 16) d_Mo_pass_12 (by decide) ?_
    exact t_Mo_pass_b16 hM M 0 _ h
theorem ct_Mo_pass {l : Launch} {ε : gEnv} (hM : gMo ε) (M : gMem) (r : (Int32 × gMem)) (h : f_Mo_pass M = some r) : gCt l ε k_Mo_pass 2 45 [.ref (ε.2.2.1 19 0)] M (some (.int r.1)) r.2 :=
  gCt_of (by decide) (Nat.le_of_ble_eq_true rfl) rfl (t_Mo_pass hM M r h)
abbrev k_Mo_play : gMD := (⟨"DropSignalsModel", "play", "(I)I"⟩, prog_11_method_50_code, 2, (some .int))
theorem w_1181 : Cond.instanceMethod ⟨"DropSignalsModel", "play", "(I)I"⟩ ∈ gWs := gWs_in (i := 1181) (by decide +kernel) rfl
theorem w_1182 : Cond.selects "DropSignalsModel" ⟨"DropSignalsModel", "play", "(I)I"⟩ ⟨"DropSignalsModel", "play", "(I)I"⟩ ∈ gWs := gWs_in (i := 1182) (by decide +kernel) rfl
set_option maxRecDepth 100000 in
theorem ca_Mo_play : gCaV k_Mo_play 1 := ⟨⟨gWs_in (i := 1183) rfl rfl, w_43, by decide, by decide, by decide +kernel⟩, w_1181, w_1182⟩
theorem d_Mo_play_0 : decode prog_11_method_50_code 0 = .ok (.aload_n 0, 1) := by decide +kernel
theorem d_Mo_play_1 : decode prog_11_method_50_code 1 = .ok (.iload_n 1, 1) := by decide +kernel
theorem d_Mo_play_2 : decode prog_11_method_50_code 2 = .ok (.i2l, 1) := by decide +kernel
theorem d_Mo_play_3 : decode prog_11_method_50_code 3 = .ok (.lconst 0, 1) := by decide +kernel
theorem d_Mo_play_4 : decode prog_11_method_50_code 4 = .ok (.ldc2_w 181, 3) := by decide +kernel
theorem d_Mo_play_7 : decode prog_11_method_50_code 7 = .ok (.invokestatic 84, 3) := by decide +kernel
theorem d_Mo_play_10 : decode prog_11_method_50_code 10 = .ok (.ifCond .ne 7, 3) := by decide +kernel
theorem d_Mo_play_13 : decode prog_11_method_50_code 13 = .ok (.iconst 1, 1) := by decide +kernel
theorem d_Mo_play_14 : decode prog_11_method_50_code 14 = .ok (.goto 18, 3) := by decide +kernel
theorem d_Mo_play_17 : decode prog_11_method_50_code 17 = .ok (.aload_n 0, 1) := by decide +kernel
theorem d_Mo_play_18 : decode prog_11_method_50_code 18 = .ok (.getfield 13, 3) := by decide +kernel
theorem d_Mo_play_21 : decode prog_11_method_50_code 21 = .ok (.iconst 1, 1) := by decide +kernel
theorem d_Mo_play_22 : decode prog_11_method_50_code 22 = .ok (.iaload, 1) := by decide +kernel
theorem d_Mo_play_23 : decode prog_11_method_50_code 23 = .ok (.iconst 2, 1) := by decide +kernel
theorem d_Mo_play_24 : decode prog_11_method_50_code 24 = .ok (.if_icmp .ne 7, 3) := by decide +kernel
theorem d_Mo_play_27 : decode prog_11_method_50_code 27 = .ok (.iconst 0, 1) := by decide +kernel
theorem d_Mo_play_28 : decode prog_11_method_50_code 28 = .ok (.goto 4, 3) := by decide +kernel
theorem d_Mo_play_31 : decode prog_11_method_50_code 31 = .ok (.iconst 2, 1) := by decide +kernel
theorem d_Mo_play_32 : decode prog_11_method_50_code 32 = .ok (.invokevirtual 127, 3) := by decide +kernel
theorem d_Mo_play_35 : decode prog_11_method_50_code 35 = .ok (.ifCond .eq 5, 3) := by decide +kernel
theorem d_Mo_play_38 : decode prog_11_method_50_code 38 = .ok (.iconst 0, 1) := by decide +kernel
theorem d_Mo_play_39 : decode prog_11_method_50_code 39 = .ok (.ireturn, 1) := by decide +kernel
theorem d_Mo_play_40 : decode prog_11_method_50_code 40 = .ok (.aload_n 0, 1) := by decide +kernel
theorem d_Mo_play_41 : decode prog_11_method_50_code 41 = .ok (.invokevirtual 189, 3) := by decide +kernel
theorem d_Mo_play_44 : decode prog_11_method_50_code 44 = .ok (.aload_n 0, 1) := by decide +kernel
theorem d_Mo_play_45 : decode prog_11_method_50_code 45 = .ok (.getfield 13, 3) := by decide +kernel
theorem d_Mo_play_48 : decode prog_11_method_50_code 48 = .ok (.iload_n 1, 1) := by decide +kernel
theorem d_Mo_play_49 : decode prog_11_method_50_code 49 = .ok (.invokestatic 160, 3) := by decide +kernel
theorem d_Mo_play_52 : decode prog_11_method_50_code 52 = .ok (.ireturn, 1) := by decide +kernel
noncomputable def f_Mo_play_b32 (M : gMem) (x1 : Int32) (s0 : Int32) : Option (Int32 × gMem) :=
  (f_Mo_refused M s0).bind fun q3 =>
  if q3.1 = 0 then
    (f_Mo_remember q3.2).bind fun q4 =>
    (f_Mo_playOn 19 2 197 q4 x1).bind fun q5 =>
    some (q5.1, q5.2)
  else
    some (0, q3.2)
theorem t_Mo_play_b32 {l : Launch} {ε : gEnv} (hM : gMo ε) (M : gMem) (x1 : Int32) (s0 : Int32) (r : (Int32 × gMem)) (h : f_Mo_play_b32 M x1 s0 = some r) : gGo l ε k_Mo_play (gR 5 113) (gFn ε (some (.int r.1)) r.2) 32 [(0, .ref (ε.2.2.1 19 0)), (1, .int x1)] [.int s0, .ref (ε.2.2.1 19 0)] M := by
  unfold f_Mo_play_b32 at h
  obtain ⟨q3, hq3, h⟩ := gOb h
  refine g_callV_i (As := [.int s0]) (rest := []) (ct_Mo_refused hM M s0 _ hq3) d_Mo_play_32 ca_Mo_refused w_1034 (gMo_h0 hM) rfl rfl rfl (Nat.le_of_ble_eq_true rfl) ⟨(Nat.le_of_ble_eq_true rfl), (Nat.le_of_ble_eq_true rfl)⟩ ?_
  refine g_if_eq (tgt := 40) d_Mo_play_35 (by decide) (fun c6 => ?_) (fun c6 => ?_)
  · rw [if_pos c6] at h
    refine g_aload_n d_Mo_play_40 rfl 0 rfl ?_
    obtain ⟨q4, hq4, h⟩ := gOb h
    refine g_callV_v (As := []) (rest := []) (ct_Mo_remember hM q3.2 _ hq4) d_Mo_play_41 ca_Mo_remember w_1164 (gMo_h0 hM) rfl rfl rfl (Nat.le_of_ble_eq_true rfl) ⟨(Nat.le_of_ble_eq_true rfl), (Nat.le_of_ble_eq_true rfl)⟩ ?_
    refine g_aload_n d_Mo_play_44 rfl 0 rfl ?_
    refine g_getR d_Mo_play_45 fl_Mo_13 (gMo_h0 hM) rfl ?_
    refine g_iload_n d_Mo_play_48 rfl 1 rfl ?_
    obtain ⟨q5, hq5, h⟩ := gOb h
    refine g_callS_i (As := [.ref (ε.2.2.1 19 2), .int x1]) (rest := []) (ct_Mo_playOn 19 2 197 (gMo_h2 hM) q4 x1 _ hq5) d_Mo_play_49 ca_Mo_playOn w_1093 rfl rfl (Nat.le_of_ble_eq_true rfl) ⟨(Nat.le_of_ble_eq_true rfl), (Nat.le_of_ble_eq_true rfl)⟩ ?_
    obtain rfl := Option.some.inj h
    exact g_iret d_Mo_play_52 rfl
  · rw [if_neg c6] at h
    refine g_iconst (v := 0) d_Mo_play_38 (by decide) ?_
    obtain rfl := Option.some.inj h
    exact g_iret d_Mo_play_39 rfl
noncomputable def f_Mo_play (M : gMem) (a0 : Int32) : Option (Int32 × gMem) :=
  (f_Mo_in (Int32.toInt64 a0) 0 (31)).bind fun q1 =>
  if q1 = 0 then
    f_Mo_play_b32 M a0 1
  else
    (gRd 197 (M 19 2) 1).bind fun v2 =>
    if v2 = 2 then
      f_Mo_play_b32 M a0 0
    else
      f_Mo_play_b32 M a0 2
theorem t_Mo_play {l : Launch} {ε : gEnv} (hM : gMo ε) (M : gMem) (a0 : Int32) (r : (Int32 × gMem)) (h : f_Mo_play M a0 = some r) : gGo l ε k_Mo_play (gR 5 113) (gFn ε (some (.int r.1)) r.2) 0 [(0, .ref (ε.2.2.1 19 0)), (1, .int a0)] [] M := by
  unfold f_Mo_play at h
  refine g_aload_n d_Mo_play_0 rfl 0 rfl ?_
  refine g_iload_n d_Mo_play_1 rfl 1 rfl ?_
  refine g_i2l d_Mo_play_2 ?_
  refine g_lconst (v := 0) d_Mo_play_3 (by decide) ?_
  refine g_ldc2 d_Mo_play_4 w_1148 ?_
  obtain ⟨q1, hq1, h⟩ := gOb h
  refine g_callS_i (As := [.long (Int32.toInt64 a0), .long 0, .long (31)]) (rest := [.ref (ε.2.2.1 19 0)]) (ct_Mo_in M (Int32.toInt64 a0) 0 (31) _ hq1) d_Mo_play_7 ca_Mo_in w_1031 rfl rfl (Nat.le_of_ble_eq_true rfl) ⟨(Nat.le_of_ble_eq_true rfl), (Nat.le_of_ble_eq_true rfl)⟩ ?_
  refine g_if_ne (tgt := 17) d_Mo_play_10 (by decide) (fun c8 => ?_) (fun c8 => ?_)
  · rw [if_neg c8] at h
    refine g_aload_n d_Mo_play_17 rfl 0 rfl ?_
    refine g_getR d_Mo_play_18 fl_Mo_13 (gMo_h0 hM) rfl ?_
    refine g_iconst (v := 1) d_Mo_play_21 (by decide) ?_
    obtain ⟨v2, hv2, h⟩ := gOb h
    refine g_iaload d_Mo_play_22 (gMo_h2 hM) hv2 ?_
    refine g_iconst (v := 2) d_Mo_play_23 (by decide) ?_
    refine g_icmp_ne (tgt := 31) d_Mo_play_24 (by decide) (fun c7 => ?_) (fun c7 => ?_)
    · rw [if_neg c7] at h
      refine g_iconst (v := 2) d_Mo_play_31 (by decide) ?_
      exact t_Mo_play_b32 hM M a0 2 _ h
    · rw [if_pos c7] at h
      refine g_iconst (v := 0) d_Mo_play_27 (by decide) ?_
      refine g_goto (tgt := 32) d_Mo_play_28 (by decide) ?_
      exact t_Mo_play_b32 hM M a0 0 _ h
  · rw [if_pos c8] at h
    refine g_iconst (v := 1) d_Mo_play_13 (by decide) ?_
    refine g_goto (tgt := 32) d_Mo_play_14 (by decide) ?_
    exact t_Mo_play_b32 hM M a0 1 _ h
theorem ct_Mo_play {l : Launch} {ε : gEnv} (hM : gMo ε) (M : gMem) (a0 : Int32) (r : (Int32 × gMem)) (h : f_Mo_play M a0 = some r) : gCt l ε k_Mo_play 5 113 [.ref (ε.2.2.1 19 0), .int a0] M (some (.int r.1)) r.2 :=
  gCt_of (by decide) (Nat.le_of_ble_eq_true rfl) rfl (t_Mo_play hM M a0 r h)
abbrev k_Mo_undo : gMD := (⟨"DropSignalsModel", "undo", "()I"⟩, prog_11_method_51_code, 1, (some .int))
theorem w_1185 : Cond.instanceMethod ⟨"DropSignalsModel", "undo", "()I"⟩ ∈ gWs := gWs_in (i := 1185) (by decide +kernel) rfl
theorem w_1186 : Cond.selects "DropSignalsModel" ⟨"DropSignalsModel", "undo", "()I"⟩ ⟨"DropSignalsModel", "undo", "()I"⟩ ∈ gWs := gWs_in (i := 1186) (by decide +kernel) rfl
set_option maxRecDepth 100000 in
theorem ca_Mo_undo : gCaV k_Mo_undo 0 := ⟨⟨gWs_in (i := 1187) rfl rfl, w_43, by decide, by decide, by decide +kernel⟩, w_1185, w_1186⟩
theorem d_Mo_undo_0 : decode prog_11_method_51_code 0 = .ok (.aload_n 0, 1) := by decide +kernel
theorem d_Mo_undo_1 : decode prog_11_method_51_code 1 = .ok (.aload_n 0, 1) := by decide +kernel
theorem d_Mo_undo_2 : decode prog_11_method_51_code 2 = .ok (.getfield 176, 3) := by decide +kernel
theorem d_Mo_undo_5 : decode prog_11_method_51_code 5 = .ok (.ifCond .ne 7, 3) := by decide +kernel
theorem d_Mo_undo_8 : decode prog_11_method_51_code 8 = .ok (.iconst 1, 1) := by decide +kernel
theorem d_Mo_undo_9 : decode prog_11_method_51_code 9 = .ok (.goto 4, 3) := by decide +kernel
theorem d_Mo_undo_12 : decode prog_11_method_51_code 12 = .ok (.iconst 0, 1) := by decide +kernel
theorem d_Mo_undo_13 : decode prog_11_method_51_code 13 = .ok (.invokevirtual 127, 3) := by decide +kernel
theorem d_Mo_undo_16 : decode prog_11_method_51_code 16 = .ok (.ifCond .eq 5, 3) := by decide +kernel
theorem d_Mo_undo_19 : decode prog_11_method_51_code 19 = .ok (.iconst 0, 1) := by decide +kernel
theorem d_Mo_undo_20 : decode prog_11_method_51_code 20 = .ok (.ireturn, 1) := by decide +kernel
theorem d_Mo_undo_21 : decode prog_11_method_51_code 21 = .ok (.aload_n 0, 1) := by decide +kernel
theorem d_Mo_undo_22 : decode prog_11_method_51_code 22 = .ok (.dup, 1) := by decide +kernel
theorem d_Mo_undo_23 : decode prog_11_method_51_code 23 = .ok (.getfield 176, 3) := by decide +kernel
theorem d_Mo_undo_26 : decode prog_11_method_51_code 26 = .ok (.iconst 1, 1) := by decide +kernel
theorem d_Mo_undo_27 : decode prog_11_method_51_code 27 = .ok (.isub, 1) := by decide +kernel
theorem d_Mo_undo_28 : decode prog_11_method_51_code 28 = .ok (.putfield 176, 3) := by decide +kernel
theorem d_Mo_undo_31 : decode prog_11_method_51_code 31 = .ok (.aload_n 0, 1) := by decide +kernel
theorem d_Mo_undo_32 : decode prog_11_method_51_code 32 = .ok (.getfield 34, 3) := by decide +kernel
theorem d_Mo_undo_35 : decode prog_11_method_51_code 35 = .ok (.sipush 197, 3) := by decide +kernel
theorem d_Mo_undo_38 : decode prog_11_method_51_code 38 = .ok (.aload_n 0, 1) := by decide +kernel
theorem d_Mo_undo_39 : decode prog_11_method_51_code 39 = .ok (.getfield 176, 3) := by decide +kernel
theorem d_Mo_undo_42 : decode prog_11_method_51_code 42 = .ok (.imul, 1) := by decide +kernel
theorem d_Mo_undo_43 : decode prog_11_method_51_code 43 = .ok (.aload_n 0, 1) := by decide +kernel
theorem d_Mo_undo_44 : decode prog_11_method_51_code 44 = .ok (.getfield 13, 3) := by decide +kernel
theorem d_Mo_undo_47 : decode prog_11_method_51_code 47 = .ok (.iconst 0, 1) := by decide +kernel
theorem d_Mo_undo_48 : decode prog_11_method_51_code 48 = .ok (.invokestatic 172, 3) := by decide +kernel
theorem d_Mo_undo_51 : decode prog_11_method_51_code 51 = .ok (.aload_n 0, 1) := by decide +kernel
theorem d_Mo_undo_52 : decode prog_11_method_51_code 52 = .ok (.getfield 176, 3) := by decide +kernel
theorem d_Mo_undo_55 : decode prog_11_method_51_code 55 = .ok (.ireturn, 1) := by decide +kernel
noncomputable def f_Mo_undo_b13 (M : gMem) (s0 : Int32) : Option (Int32 × gMem) :=
  (f_Mo_refused M s0).bind fun q1 =>
  if q1.1 = 0 then
    (gSO q1.2 19 0 11 ((q1.2 19 0 11) - 1)).bind fun M2 =>
    (f_Mo_copyState 19 9 2758 19 2 197 M2 (197 * (M2 19 0 11)) 0).bind fun q3 =>
    some ((q3 19 0 11), q3)
  else
    some (0, q1.2)
theorem t_Mo_undo_b13 {l : Launch} {ε : gEnv} (hM : gMo ε) (M : gMem) (s0 : Int32) (r : (Int32 × gMem)) (h : f_Mo_undo_b13 M s0 = some r) : gGo l ε k_Mo_undo (gR 1 24) (gFn ε (some (.int r.1)) r.2) 13 [(0, .ref (ε.2.2.1 19 0))] [.int s0, .ref (ε.2.2.1 19 0)] M := by
  unfold f_Mo_undo_b13 at h
  obtain ⟨q1, hq1, h⟩ := gOb h
  refine g_callV_i (As := [.int s0]) (rest := []) (ct_Mo_refused hM M s0 _ hq1) d_Mo_undo_13 ca_Mo_refused w_1034 (gMo_h0 hM) rfl rfl rfl (Nat.le_of_ble_eq_true rfl) ⟨(Nat.le_of_ble_eq_true rfl), (Nat.le_of_ble_eq_true rfl)⟩ ?_
  refine g_if_eq (tgt := 21) d_Mo_undo_16 (by decide) (fun c4 => ?_) (fun c4 => ?_)
  · rw [if_pos c4] at h
    refine g_aload_n d_Mo_undo_21 rfl 0 rfl ?_
    refine g_dup d_Mo_undo_22 rfl ?_
    refine g_getI d_Mo_undo_23 fl_Mo_176 (gMo_h0 hM) rfl ?_
    refine g_iconst (v := 1) d_Mo_undo_26 (by decide) ?_
    refine g_isub d_Mo_undo_27 ?_
    obtain ⟨M2, hM2, h⟩ := gOb h
    refine g_putO d_Mo_undo_28 fp_Mo_176 (gMo_h0 hM) rfl hM2 ?_
    refine g_aload_n d_Mo_undo_31 rfl 0 rfl ?_
    refine g_getR d_Mo_undo_32 fl_Mo_34 (gMo_h0 hM) rfl ?_
    refine g_sipush (v := 197) d_Mo_undo_35 (by decide) ?_
    refine g_aload_n d_Mo_undo_38 rfl 0 rfl ?_
    refine g_getI d_Mo_undo_39 fl_Mo_176 (gMo_h0 hM) rfl ?_
    refine g_imul d_Mo_undo_42 ?_
    refine g_aload_n d_Mo_undo_43 rfl 0 rfl ?_
    refine g_getR d_Mo_undo_44 fl_Mo_13 (gMo_h0 hM) rfl ?_
    refine g_iconst (v := 0) d_Mo_undo_47 (by decide) ?_
    obtain ⟨q3, hq3, h⟩ := gOb h
    refine g_callS_v (As := [.ref (ε.2.2.1 19 9), .int (197 * (M2 19 0 11)), .ref (ε.2.2.1 19 2), .int 0]) (rest := []) (ct_Mo_copyState 19 9 2758 19 2 197 (gMo_h9 hM) (gMo_h2 hM) M2 (197 * (M2 19 0 11)) 0 _ hq3) d_Mo_undo_48 ca_Mo_copyState w_1136 rfl rfl (Nat.le_of_ble_eq_true rfl) ⟨(Nat.le_of_ble_eq_true rfl), (Nat.le_of_ble_eq_true rfl)⟩ ?_
    refine g_aload_n d_Mo_undo_51 rfl 0 rfl ?_
    refine g_getI d_Mo_undo_52 fl_Mo_176 (gMo_h0 hM) rfl ?_
    obtain rfl := Option.some.inj h
    exact g_iret d_Mo_undo_55 rfl
  · rw [if_neg c4] at h
    refine g_iconst (v := 0) d_Mo_undo_19 (by decide) ?_
    obtain rfl := Option.some.inj h
    exact g_iret d_Mo_undo_20 rfl
noncomputable def f_Mo_undo (M : gMem) : Option (Int32 × gMem) :=
  if (M 19 0 11) = 0 then
    f_Mo_undo_b13 M 1
  else
    f_Mo_undo_b13 M 0
theorem t_Mo_undo {l : Launch} {ε : gEnv} (hM : gMo ε) (M : gMem) (r : (Int32 × gMem)) (h : f_Mo_undo M = some r) : gGo l ε k_Mo_undo (gR 1 24) (gFn ε (some (.int r.1)) r.2) 0 [(0, .ref (ε.2.2.1 19 0))] [] M := by
  unfold f_Mo_undo at h
  refine g_aload_n d_Mo_undo_0 rfl 0 rfl ?_
  refine g_aload_n d_Mo_undo_1 rfl 0 rfl ?_
  refine g_getI d_Mo_undo_2 fl_Mo_176 (gMo_h0 hM) rfl ?_
  refine g_if_ne (tgt := 12) d_Mo_undo_5 (by decide) (fun c5 => ?_) (fun c5 => ?_)
  · rw [if_neg c5] at h
    refine g_iconst (v := 0) d_Mo_undo_12 (by decide) ?_
    exact t_Mo_undo_b13 hM M 0 _ h
  · rw [if_pos c5] at h
    refine g_iconst (v := 1) d_Mo_undo_8 (by decide) ?_
    refine g_goto (tgt := 13) d_Mo_undo_9 (by decide) ?_
    exact t_Mo_undo_b13 hM M 1 _ h
theorem ct_Mo_undo {l : Launch} {ε : gEnv} (hM : gMo ε) (M : gMem) (r : (Int32 × gMem)) (h : f_Mo_undo M = some r) : gCt l ε k_Mo_undo 1 24 [.ref (ε.2.2.1 19 0)] M (some (.int r.1)) r.2 :=
  gCt_of (by decide) (Nat.le_of_ble_eq_true rfl) rfl (t_Mo_undo hM M r h)
abbrev k_Mo_legal : gMD := (⟨"DropSignalsModel", "legal", "(I)I"⟩, prog_11_method_52_code, 2, (some .int))
theorem w_1189 : Cond.instanceMethod ⟨"DropSignalsModel", "legal", "(I)I"⟩ ∈ gWs := gWs_in (i := 1189) (by decide +kernel) rfl
theorem w_1190 : Cond.selects "DropSignalsModel" ⟨"DropSignalsModel", "legal", "(I)I"⟩ ⟨"DropSignalsModel", "legal", "(I)I"⟩ ∈ gWs := gWs_in (i := 1190) (by decide +kernel) rfl
set_option maxRecDepth 100000 in
theorem ca_Mo_legal : gCaV k_Mo_legal 1 := ⟨⟨gWs_in (i := 1191) rfl rfl, w_43, by decide, by decide, by decide +kernel⟩, w_1189, w_1190⟩
theorem d_Mo_legal_0 : decode prog_11_method_52_code 0 = .ok (.aload_n 0, 1) := by decide +kernel
theorem d_Mo_legal_1 : decode prog_11_method_52_code 1 = .ok (.iload_n 1, 1) := by decide +kernel
theorem d_Mo_legal_2 : decode prog_11_method_52_code 2 = .ok (.i2l, 1) := by decide +kernel
theorem d_Mo_legal_3 : decode prog_11_method_52_code 3 = .ok (.lconst 0, 1) := by decide +kernel
theorem d_Mo_legal_4 : decode prog_11_method_52_code 4 = .ok (.ldc2_w 196, 3) := by decide +kernel
theorem d_Mo_legal_7 : decode prog_11_method_52_code 7 = .ok (.invokestatic 84, 3) := by decide +kernel
theorem d_Mo_legal_10 : decode prog_11_method_52_code 10 = .ok (.ifCond .eq 7, 3) := by decide +kernel
theorem d_Mo_legal_13 : decode prog_11_method_52_code 13 = .ok (.iconst 0, 1) := by decide +kernel
theorem d_Mo_legal_14 : decode prog_11_method_52_code 14 = .ok (.goto 4, 3) := by decide +kernel
theorem d_Mo_legal_17 : decode prog_11_method_52_code 17 = .ok (.iconst 1, 1) := by decide +kernel
theorem d_Mo_legal_18 : decode prog_11_method_52_code 18 = .ok (.invokevirtual 127, 3) := by decide +kernel
theorem d_Mo_legal_21 : decode prog_11_method_52_code 21 = .ok (.ifCond .eq 5, 3) := by decide +kernel
theorem d_Mo_legal_24 : decode prog_11_method_52_code 24 = .ok (.iconst 0, 1) := by decide +kernel
theorem d_Mo_legal_25 : decode prog_11_method_52_code 25 = .ok (.ireturn, 1) := by decide +kernel
theorem d_Mo_legal_26 : decode prog_11_method_52_code 26 = .ok (.aload_n 0, 1) := by decide +kernel
theorem d_Mo_legal_27 : decode prog_11_method_52_code 27 = .ok (.getfield 13, 3) := by decide +kernel
theorem d_Mo_legal_30 : decode prog_11_method_52_code 30 = .ok (.iconst 1, 1) := by decide +kernel
theorem d_Mo_legal_31 : decode prog_11_method_52_code 31 = .ok (.iaload, 1) := by decide +kernel
theorem d_Mo_legal_32 : decode prog_11_method_52_code 32 = .ok (.iconst 2, 1) := by decide +kernel
theorem d_Mo_legal_33 : decode prog_11_method_52_code 33 = .ok (.if_icmp .ne 14, 3) := by decide +kernel
theorem d_Mo_legal_36 : decode prog_11_method_52_code 36 = .ok (.aload_n 0, 1) := by decide +kernel
theorem d_Mo_legal_37 : decode prog_11_method_52_code 37 = .ok (.getfield 13, 3) := by decide +kernel
theorem d_Mo_legal_40 : decode prog_11_method_52_code 40 = .ok (.iload_n 1, 1) := by decide +kernel
theorem d_Mo_legal_41 : decode prog_11_method_52_code 41 = .ok (.invokestatic 198, 3) := by decide +kernel
theorem d_Mo_legal_44 : decode prog_11_method_52_code 44 = .ok (.goto 4, 3) := by decide +kernel
theorem d_Mo_legal_47 : decode prog_11_method_52_code 47 = .ok (.iconst (-1), 1) := by decide +kernel
theorem d_Mo_legal_48 : decode prog_11_method_52_code 48 = .ok (.ireturn, 1) := by decide +kernel
theorem w_1192 : Cond.constantLong "DropSignalsModel" 196 (7) ∈ gWs := gWs_in (i := 1192) (by decide +kernel) rfl
theorem w_1193 : Cond.methodLink "DropSignalsModel" 198 ⟨"DropSignalsModel", "legalAt", "([II)I"⟩ ∈ gWs := gWs_in (i := 1193) (by decide +kernel) rfl
noncomputable def f_Mo_legal_b18 (M : gMem) (x1 : Int32) (s0 : Int32) : Option (Int32 × gMem) :=
  (f_Mo_refused M s0).bind fun q2 =>
  if q2.1 = 0 then
    (gRd 197 (q2.2 19 2) 1).bind fun v3 =>
    if v3 = 2 then
      (f_Mo_legalAt 19 2 197 q2.2 x1).bind fun q4 =>
      some (q4, q2.2)
    else
      some ((-1), q2.2)
  else
    some (0, q2.2)
theorem t_Mo_legal_b18 {l : Launch} {ε : gEnv} (hM : gMo ε) (M : gMem) (x1 : Int32) (s0 : Int32) (r : (Int32 × gMem)) (h : f_Mo_legal_b18 M x1 s0 = some r) : gGo l ε k_Mo_legal (gR 5 104) (gFn ε (some (.int r.1)) r.2) 18 [(0, .ref (ε.2.2.1 19 0)), (1, .int x1)] [.int s0, .ref (ε.2.2.1 19 0)] M := by
  unfold f_Mo_legal_b18 at h
  obtain ⟨q2, hq2, h⟩ := gOb h
  refine g_callV_i (As := [.int s0]) (rest := []) (ct_Mo_refused hM M s0 _ hq2) d_Mo_legal_18 ca_Mo_refused w_1034 (gMo_h0 hM) rfl rfl rfl (Nat.le_of_ble_eq_true rfl) ⟨(Nat.le_of_ble_eq_true rfl), (Nat.le_of_ble_eq_true rfl)⟩ ?_
  refine g_if_eq (tgt := 26) d_Mo_legal_21 (by decide) (fun c6 => ?_) (fun c6 => ?_)
  · rw [if_pos c6] at h
    refine g_aload_n d_Mo_legal_26 rfl 0 rfl ?_
    refine g_getR d_Mo_legal_27 fl_Mo_13 (gMo_h0 hM) rfl ?_
    refine g_iconst (v := 1) d_Mo_legal_30 (by decide) ?_
    obtain ⟨v3, hv3, h⟩ := gOb h
    refine g_iaload d_Mo_legal_31 (gMo_h2 hM) hv3 ?_
    refine g_iconst (v := 2) d_Mo_legal_32 (by decide) ?_
    refine g_icmp_ne (tgt := 47) d_Mo_legal_33 (by decide) (fun c5 => ?_) (fun c5 => ?_)
    · rw [if_neg c5] at h
      refine g_iconst (v := -1) d_Mo_legal_47 (by decide) ?_
      obtain rfl := Option.some.inj h
      exact g_iret d_Mo_legal_48 rfl
    · rw [if_pos c5] at h
      refine g_aload_n d_Mo_legal_36 rfl 0 rfl ?_
      refine g_getR d_Mo_legal_37 fl_Mo_13 (gMo_h0 hM) rfl ?_
      refine g_iload_n d_Mo_legal_40 rfl 1 rfl ?_
      obtain ⟨q4, hq4, h⟩ := gOb h
      refine g_callS_i (As := [.ref (ε.2.2.1 19 2), .int x1]) (rest := []) (ct_Mo_legalAt 19 2 197 (gMo_h2 hM) q2.2 x1 _ hq4) d_Mo_legal_41 ca_Mo_legalAt w_1193 rfl rfl (Nat.le_of_ble_eq_true rfl) ⟨(Nat.le_of_ble_eq_true rfl), (Nat.le_of_ble_eq_true rfl)⟩ ?_
      refine g_goto (tgt := 48) d_Mo_legal_44 (by decide) ?_
      obtain rfl := Option.some.inj h
      exact g_iret d_Mo_legal_48 rfl
  · rw [if_neg c6] at h
    refine g_iconst (v := 0) d_Mo_legal_24 (by decide) ?_
    obtain rfl := Option.some.inj h
    exact g_iret d_Mo_legal_25 rfl
noncomputable def f_Mo_legal (M : gMem) (a0 : Int32) : Option (Int32 × gMem) :=
  (f_Mo_in (Int32.toInt64 a0) 0 (7)).bind fun q1 =>
  if q1 = 0 then
    f_Mo_legal_b18 M a0 1
  else
    f_Mo_legal_b18 M a0 0
theorem t_Mo_legal {l : Launch} {ε : gEnv} (hM : gMo ε) (M : gMem) (a0 : Int32) (r : (Int32 × gMem)) (h : f_Mo_legal M a0 = some r) : gGo l ε k_Mo_legal (gR 5 104) (gFn ε (some (.int r.1)) r.2) 0 [(0, .ref (ε.2.2.1 19 0)), (1, .int a0)] [] M := by
  unfold f_Mo_legal at h
  refine g_aload_n d_Mo_legal_0 rfl 0 rfl ?_
  refine g_iload_n d_Mo_legal_1 rfl 1 rfl ?_
  refine g_i2l d_Mo_legal_2 ?_
  refine g_lconst (v := 0) d_Mo_legal_3 (by decide) ?_
  refine g_ldc2 d_Mo_legal_4 w_1192 ?_
  obtain ⟨q1, hq1, h⟩ := gOb h
  refine g_callS_i (As := [.long (Int32.toInt64 a0), .long 0, .long (7)]) (rest := [.ref (ε.2.2.1 19 0)]) (ct_Mo_in M (Int32.toInt64 a0) 0 (7) _ hq1) d_Mo_legal_7 ca_Mo_in w_1031 rfl rfl (Nat.le_of_ble_eq_true rfl) ⟨(Nat.le_of_ble_eq_true rfl), (Nat.le_of_ble_eq_true rfl)⟩ ?_
  refine g_if_eq (tgt := 17) d_Mo_legal_10 (by decide) (fun c7 => ?_) (fun c7 => ?_)
  · rw [if_pos c7] at h
    refine g_iconst (v := 1) d_Mo_legal_17 (by decide) ?_
    exact t_Mo_legal_b18 hM M a0 1 _ h
  · rw [if_neg c7] at h
    refine g_iconst (v := 0) d_Mo_legal_13 (by decide) ?_
    refine g_goto (tgt := 18) d_Mo_legal_14 (by decide) ?_
    exact t_Mo_legal_b18 hM M a0 0 _ h
theorem ct_Mo_legal {l : Launch} {ε : gEnv} (hM : gMo ε) (M : gMem) (a0 : Int32) (r : (Int32 × gMem)) (h : f_Mo_legal M a0 = some r) : gCt l ε k_Mo_legal 5 104 [.ref (ε.2.2.1 19 0), .int a0] M (some (.int r.1)) r.2 :=
  gCt_of (by decide) (Nat.le_of_ble_eq_true rfl) rfl (t_Mo_legal hM M a0 r h)
abbrev k_Mo_advice : gMD := (⟨"DropSignalsModel", "advice", "()I"⟩, prog_11_method_53_code, 1, (some .int))
theorem w_1197 : Cond.instanceMethod ⟨"DropSignalsModel", "advice", "()I"⟩ ∈ gWs := gWs_in (i := 1197) (by decide +kernel) rfl
theorem w_1198 : Cond.selects "DropSignalsModel" ⟨"DropSignalsModel", "advice", "()I"⟩ ⟨"DropSignalsModel", "advice", "()I"⟩ ∈ gWs := gWs_in (i := 1198) (by decide +kernel) rfl
set_option maxRecDepth 100000 in
theorem ca_Mo_advice : gCaV k_Mo_advice 0 := ⟨⟨gWs_in (i := 1199) rfl rfl, w_43, by decide, by decide, by decide +kernel⟩, w_1197, w_1198⟩
theorem d_Mo_advice_0 : decode prog_11_method_53_code 0 = .ok (.aload_n 0, 1) := by decide +kernel
theorem d_Mo_advice_1 : decode prog_11_method_53_code 1 = .ok (.iconst 0, 1) := by decide +kernel
theorem d_Mo_advice_2 : decode prog_11_method_53_code 2 = .ok (.putfield 48, 3) := by decide +kernel
theorem d_Mo_advice_5 : decode prog_11_method_53_code 5 = .ok (.aload_n 0, 1) := by decide +kernel
theorem d_Mo_advice_6 : decode prog_11_method_53_code 6 = .ok (.getfield 13, 3) := by decide +kernel
theorem d_Mo_advice_9 : decode prog_11_method_53_code 9 = .ok (.invokestatic 119, 3) := by decide +kernel
theorem d_Mo_advice_12 : decode prog_11_method_53_code 12 = .ok (.ireturn, 1) := by decide +kernel
noncomputable def f_Mo_advice (M : gMem) : Option (Int32 × gMem) :=
  (gSO M 19 0 0 0).bind fun M1 =>
  (f_Mo_advised 19 2 197 M1).bind fun q2 =>
  some (q2, M1)
theorem t_Mo_advice {l : Launch} {ε : gEnv} (hM : gMo ε) (M : gMem) (r : (Int32 × gMem)) (h : f_Mo_advice M = some r) : gGo l ε k_Mo_advice (gR 6 129) (gFn ε (some (.int r.1)) r.2) 0 [(0, .ref (ε.2.2.1 19 0))] [] M := by
  unfold f_Mo_advice at h
  refine g_aload_n d_Mo_advice_0 rfl 0 rfl ?_
  refine g_iconst (v := 0) d_Mo_advice_1 (by decide) ?_
  obtain ⟨M1, hM1, h⟩ := gOb h
  refine g_putO d_Mo_advice_2 fp_Mo_48 (gMo_h0 hM) rfl hM1 ?_
  refine g_aload_n d_Mo_advice_5 rfl 0 rfl ?_
  refine g_getR d_Mo_advice_6 fl_Mo_13 (gMo_h0 hM) rfl ?_
  obtain ⟨q2, hq2, h⟩ := gOb h
  refine g_callS_i (As := [.ref (ε.2.2.1 19 2)]) (rest := []) (ct_Mo_advised 19 2 197 (gMo_h2 hM) M1 _ hq2) d_Mo_advice_9 ca_Mo_advised w_1120 rfl rfl (Nat.le_of_ble_eq_true rfl) ⟨(Nat.le_of_ble_eq_true rfl), (Nat.le_of_ble_eq_true rfl)⟩ ?_
  obtain rfl := Option.some.inj h
  exact g_iret d_Mo_advice_12 rfl
theorem ct_Mo_advice {l : Launch} {ε : gEnv} (hM : gMo ε) (M : gMem) (r : (Int32 × gMem)) (h : f_Mo_advice M = some r) : gCt l ε k_Mo_advice 6 129 [.ref (ε.2.2.1 19 0)] M (some (.int r.1)) r.2 :=
  gCt_of (by decide) (Nat.le_of_ble_eq_true rfl) rfl (t_Mo_advice hM M r h)
abbrev k_Mo_mayHave : gMD := (⟨"DropSignalsModel", "mayHave", "(IIIZ)I"⟩, prog_11_method_54_code, 14, (some .int))
theorem w_1201 : Cond.instanceMethod ⟨"DropSignalsModel", "mayHave", "(IIIZ)I"⟩ ∈ gWs := gWs_in (i := 1201) (by decide +kernel) rfl
theorem w_1202 : Cond.selects "DropSignalsModel" ⟨"DropSignalsModel", "mayHave", "(IIIZ)I"⟩ ⟨"DropSignalsModel", "mayHave", "(IIIZ)I"⟩ ∈ gWs := gWs_in (i := 1202) (by decide +kernel) rfl
set_option maxRecDepth 100000 in
theorem ca_Mo_mayHave : gCaV k_Mo_mayHave 4 := ⟨⟨gWs_in (i := 1203) rfl rfl, w_43, by decide, by decide, by decide +kernel⟩, w_1201, w_1202⟩
theorem d_Mo_mayHave_0 : decode prog_11_method_54_code 0 = .ok (.iload_n 1, 1) := by decide +kernel
theorem d_Mo_mayHave_1 : decode prog_11_method_54_code 1 = .ok (.i2l, 1) := by decide +kernel
theorem d_Mo_mayHave_2 : decode prog_11_method_54_code 2 = .ok (.lconst 0, 1) := by decide +kernel
theorem d_Mo_mayHave_3 : decode prog_11_method_54_code 3 = .ok (.ldc2_w 185, 3) := by decide +kernel
theorem d_Mo_mayHave_6 : decode prog_11_method_54_code 6 = .ok (.invokestatic 84, 3) := by decide +kernel
theorem d_Mo_mayHave_9 : decode prog_11_method_54_code 9 = .ok (.ifCond .eq 31, 3) := by decide +kernel
theorem d_Mo_mayHave_12 : decode prog_11_method_54_code 12 = .ok (.iload_n 2, 1) := by decide +kernel
theorem d_Mo_mayHave_13 : decode prog_11_method_54_code 13 = .ok (.i2l, 1) := by decide +kernel
theorem d_Mo_mayHave_14 : decode prog_11_method_54_code 14 = .ok (.lconst 0, 1) := by decide +kernel
theorem d_Mo_mayHave_15 : decode prog_11_method_54_code 15 = .ok (.ldc2_w 185, 3) := by decide +kernel
theorem d_Mo_mayHave_18 : decode prog_11_method_54_code 18 = .ok (.invokestatic 84, 3) := by decide +kernel
theorem d_Mo_mayHave_21 : decode prog_11_method_54_code 21 = .ok (.ifCond .eq 19, 3) := by decide +kernel
theorem d_Mo_mayHave_24 : decode prog_11_method_54_code 24 = .ok (.iload_n 3, 1) := by decide +kernel
theorem d_Mo_mayHave_25 : decode prog_11_method_54_code 25 = .ok (.i2l, 1) := by decide +kernel
theorem d_Mo_mayHave_26 : decode prog_11_method_54_code 26 = .ok (.lconst 0, 1) := by decide +kernel
theorem d_Mo_mayHave_27 : decode prog_11_method_54_code 27 = .ok (.ldc2_w 185, 3) := by decide +kernel
theorem d_Mo_mayHave_30 : decode prog_11_method_54_code 30 = .ok (.invokestatic 84, 3) := by decide +kernel
theorem d_Mo_mayHave_33 : decode prog_11_method_54_code 33 = .ok (.ifCond .eq 7, 3) := by decide +kernel
theorem d_Mo_mayHave_36 : decode prog_11_method_54_code 36 = .ok (.iconst 1, 1) := by decide +kernel
theorem d_Mo_mayHave_37 : decode prog_11_method_54_code 37 = .ok (.goto 4, 3) := by decide +kernel
theorem d_Mo_mayHave_40 : decode prog_11_method_54_code 40 = .ok (.iconst 0, 1) := by decide +kernel
theorem d_Mo_mayHave_41 : decode prog_11_method_54_code 41 = .ok (.istore 5, 2) := by decide +kernel
theorem d_Mo_mayHave_43 : decode prog_11_method_54_code 43 = .ok (.aload_n 0, 1) := by decide +kernel
theorem d_Mo_mayHave_44 : decode prog_11_method_54_code 44 = .ok (.iload 5, 2) := by decide +kernel
theorem d_Mo_mayHave_46 : decode prog_11_method_54_code 46 = .ok (.ifCond .ne 7, 3) := by decide +kernel
theorem d_Mo_mayHave_49 : decode prog_11_method_54_code 49 = .ok (.iconst 1, 1) := by decide +kernel
theorem d_Mo_mayHave_50 : decode prog_11_method_54_code 50 = .ok (.goto 27, 3) := by decide +kernel
theorem d_Mo_mayHave_53 : decode prog_11_method_54_code 53 = .ok (.iload_n 1, 1) := by decide +kernel
theorem d_Mo_mayHave_54 : decode prog_11_method_54_code 54 = .ok (.iload_n 2, 1) := by decide +kernel
theorem d_Mo_mayHave_55 : decode prog_11_method_54_code 55 = .ok (.if_icmp .ne 7, 3) := by decide +kernel
theorem d_Mo_mayHave_58 : decode prog_11_method_54_code 58 = .ok (.iconst 2, 1) := by decide +kernel
theorem d_Mo_mayHave_59 : decode prog_11_method_54_code 59 = .ok (.goto 18, 3) := by decide +kernel
theorem d_Mo_mayHave_62 : decode prog_11_method_54_code 62 = .ok (.aload_n 0, 1) := by decide +kernel
theorem d_Mo_mayHave_63 : decode prog_11_method_54_code 63 = .ok (.getfield 13, 3) := by decide +kernel
theorem d_Mo_mayHave_66 : decode prog_11_method_54_code 66 = .ok (.iconst 1, 1) := by decide +kernel
theorem d_Mo_mayHave_67 : decode prog_11_method_54_code 67 = .ok (.iaload, 1) := by decide +kernel
theorem d_Mo_mayHave_68 : decode prog_11_method_54_code 68 = .ok (.iconst 2, 1) := by decide +kernel
theorem d_Mo_mayHave_69 : decode prog_11_method_54_code 69 = .ok (.if_icmp .ne 7, 3) := by decide +kernel
theorem d_Mo_mayHave_72 : decode prog_11_method_54_code 72 = .ok (.iconst 0, 1) := by decide +kernel
theorem d_Mo_mayHave_73 : decode prog_11_method_54_code 73 = .ok (.goto 4, 3) := by decide +kernel
theorem d_Mo_mayHave_76 : decode prog_11_method_54_code 76 = .ok (.iconst 3, 1) := by decide +kernel
theorem d_Mo_mayHave_77 : decode prog_11_method_54_code 77 = .ok (.invokevirtual 127, 3) := by decide +kernel
theorem d_Mo_mayHave_80 : decode prog_11_method_54_code 80 = .ok (.ifCond .eq 5, 3) := by decide +kernel
theorem d_Mo_mayHave_83 : decode prog_11_method_54_code 83 = .ok (.iconst 0, 1) := by decide +kernel
theorem d_Mo_mayHave_84 : decode prog_11_method_54_code 84 = .ok (.ireturn, 1) := by decide +kernel
theorem d_Mo_mayHave_85 : decode prog_11_method_54_code 85 = .ok (.iconst 0, 1) := by decide +kernel
theorem d_Mo_mayHave_86 : decode prog_11_method_54_code 86 = .ok (.istore 6, 2) := by decide +kernel
theorem d_Mo_mayHave_88 : decode prog_11_method_54_code 88 = .ok (.iconst 0, 1) := by decide +kernel
theorem d_Mo_mayHave_89 : decode prog_11_method_54_code 89 = .ok (.istore 7, 2) := by decide +kernel
theorem d_Mo_mayHave_91 : decode prog_11_method_54_code 91 = .ok (.iload 7, 2) := by decide +kernel
theorem d_Mo_mayHave_93 : decode prog_11_method_54_code 93 = .ok (.iconst 4, 1) := by decide +kernel
theorem d_Mo_mayHave_94 : decode prog_11_method_54_code 94 = .ok (.if_icmp .ge 34, 3) := by decide +kernel
theorem d_Mo_mayHave_97 : decode prog_11_method_54_code 97 = .ok (.iload 6, 2) := by decide +kernel
theorem d_Mo_mayHave_99 : decode prog_11_method_54_code 99 = .ok (.iload 7, 2) := by decide +kernel
theorem d_Mo_mayHave_101 : decode prog_11_method_54_code 101 = .ok (.iload_n 1, 1) := by decide +kernel
theorem d_Mo_mayHave_102 : decode prog_11_method_54_code 102 = .ok (.if_icmp .ne 7, 3) := by decide +kernel
theorem d_Mo_mayHave_105 : decode prog_11_method_54_code 105 = .ok (.iconst 0, 1) := by decide +kernel
theorem d_Mo_mayHave_106 : decode prog_11_method_54_code 106 = .ok (.goto 13, 3) := by decide +kernel
theorem d_Mo_mayHave_109 : decode prog_11_method_54_code 109 = .ok (.aload_n 0, 1) := by decide +kernel
theorem d_Mo_mayHave_110 : decode prog_11_method_54_code 110 = .ok (.getfield 13, 3) := by decide +kernel
theorem d_Mo_mayHave_113 : decode prog_11_method_54_code 113 = .ok (.iload 7, 2) := by decide +kernel
theorem d_Mo_mayHave_115 : decode prog_11_method_54_code 115 = .ok (.iload_n 3, 1) := by decide +kernel
theorem d_Mo_mayHave_116 : decode prog_11_method_54_code 116 = .ok (.invokestatic 59, 3) := by decide +kernel
theorem d_Mo_mayHave_119 : decode prog_11_method_54_code 119 = .ok (.iadd, 1) := by decide +kernel
theorem d_Mo_mayHave_120 : decode prog_11_method_54_code 120 = .ok (.istore 6, 2) := by decide +kernel
theorem d_Mo_mayHave_122 : decode prog_11_method_54_code 122 = .ok (.iinc 7 1, 3) := by decide +kernel
theorem d_Mo_mayHave_125 : decode prog_11_method_54_code 125 = .ok (.goto (-34), 3) := by decide +kernel
theorem d_Mo_mayHave_128 : decode prog_11_method_54_code 128 = .ok (.iconst 0, 1) := by decide +kernel
theorem d_Mo_mayHave_129 : decode prog_11_method_54_code 129 = .ok (.istore 7, 2) := by decide +kernel
theorem d_Mo_mayHave_131 : decode prog_11_method_54_code 131 = .ok (.iconst 0, 1) := by decide +kernel
theorem d_Mo_mayHave_132 : decode prog_11_method_54_code 132 = .ok (.istore 8, 2) := by decide +kernel
theorem d_Mo_mayHave_134 : decode prog_11_method_54_code 134 = .ok (.iload 8, 2) := by decide +kernel
theorem d_Mo_mayHave_136 : decode prog_11_method_54_code 136 = .ok (.iconst 4, 1) := by decide +kernel
theorem d_Mo_mayHave_137 : decode prog_11_method_54_code 137 = .ok (.if_icmp .ge 58, 3) := by decide +kernel
theorem d_Mo_mayHave_140 : decode prog_11_method_54_code 140 = .ok (.iload 7, 2) := by decide +kernel
theorem d_Mo_mayHave_142 : decode prog_11_method_54_code 142 = .ok (.iload 8, 2) := by decide +kernel
theorem d_Mo_mayHave_144 : decode prog_11_method_54_code 144 = .ok (.iload_n 1, 1) := by decide +kernel
theorem d_Mo_mayHave_145 : decode prog_11_method_54_code 145 = .ok (.if_icmp .eq 28, 3) := by decide +kernel
theorem d_Mo_mayHave_148 : decode prog_11_method_54_code 148 = .ok (.iload 8, 2) := by decide +kernel
theorem d_Mo_mayHave_150 : decode prog_11_method_54_code 150 = .ok (.iload_n 2, 1) := by decide +kernel
theorem d_Mo_mayHave_151 : decode prog_11_method_54_code 151 = .ok (.if_icmp .eq 22, 3) := by decide +kernel
theorem d_Mo_mayHave_154 : decode prog_11_method_54_code 154 = .ok (.aload_n 0, 1) := by decide +kernel
theorem d_Mo_mayHave_155 : decode prog_11_method_54_code 155 = .ok (.getfield 13, 3) := by decide +kernel
theorem d_Mo_mayHave_158 : decode prog_11_method_54_code 158 = .ok (.sipush 181, 3) := by decide +kernel
theorem d_Mo_mayHave_161 : decode prog_11_method_54_code 161 = .ok (.iconst 4, 1) := by decide +kernel
theorem d_Mo_mayHave_162 : decode prog_11_method_54_code 162 = .ok (.iload 8, 2) := by decide +kernel
theorem d_Mo_mayHave_164 : decode prog_11_method_54_code 164 = .ok (.imul, 1) := by decide +kernel
theorem d_Mo_mayHave_165 : decode prog_11_method_54_code 165 = .ok (.iadd, 1) := by decide +kernel
theorem d_Mo_mayHave_166 : decode prog_11_method_54_code 166 = .ok (.iload_n 3, 1) := by decide +kernel
theorem d_Mo_mayHave_167 : decode prog_11_method_54_code 167 = .ok (.iadd, 1) := by decide +kernel
theorem d_Mo_mayHave_168 : decode prog_11_method_54_code 168 = .ok (.iaload, 1) := by decide +kernel
theorem d_Mo_mayHave_169 : decode prog_11_method_54_code 169 = .ok (.iconst 1, 1) := by decide +kernel
theorem d_Mo_mayHave_170 : decode prog_11_method_54_code 170 = .ok (.if_icmp .ne 7, 3) := by decide +kernel
theorem d_Mo_mayHave_173 : decode prog_11_method_54_code 173 = .ok (.iconst 0, 1) := by decide +kernel
theorem d_Mo_mayHave_174 : decode prog_11_method_54_code 174 = .ok (.goto 12, 3) := by decide +kernel
theorem d_Mo_mayHave_177 : decode prog_11_method_54_code 177 = .ok (.aload_n 0, 1) := by decide +kernel
theorem d_Mo_mayHave_178 : decode prog_11_method_54_code 178 = .ok (.getfield 13, 3) := by decide +kernel
theorem d_Mo_mayHave_181 : decode prog_11_method_54_code 181 = .ok (.iload 8, 2) := by decide +kernel
theorem d_Mo_mayHave_183 : decode prog_11_method_54_code 183 = .ok (.invokestatic 201, 3) := by decide +kernel
theorem d_Mo_mayHave_186 : decode prog_11_method_54_code 186 = .ok (.iadd, 1) := by decide +kernel
theorem d_Mo_mayHave_187 : decode prog_11_method_54_code 187 = .ok (.istore 7, 2) := by decide +kernel
theorem d_Mo_mayHave_189 : decode prog_11_method_54_code 189 = .ok (.iinc 8 1, 3) := by decide +kernel
theorem d_Mo_mayHave_192 : decode prog_11_method_54_code 192 = .ok (.goto (-58), 3) := by decide +kernel
theorem d_Mo_mayHave_195 : decode prog_11_method_54_code 195 = .ok (.iconst 4, 1) := by decide +kernel
theorem d_Mo_mayHave_196 : decode prog_11_method_54_code 196 = .ok (.iload_n 2, 1) := by decide +kernel
theorem d_Mo_mayHave_197 : decode prog_11_method_54_code 197 = .ok (.imul, 1) := by decide +kernel
theorem d_Mo_mayHave_198 : decode prog_11_method_54_code 198 = .ok (.iload_n 3, 1) := by decide +kernel
theorem d_Mo_mayHave_199 : decode prog_11_method_54_code 199 = .ok (.iadd, 1) := by decide +kernel
theorem d_Mo_mayHave_200 : decode prog_11_method_54_code 200 = .ok (.istore 8, 2) := by decide +kernel
theorem d_Mo_mayHave_202 : decode prog_11_method_54_code 202 = .ok (.aload_n 0, 1) := by decide +kernel
theorem d_Mo_mayHave_203 : decode prog_11_method_54_code 203 = .ok (.getfield 13, 3) := by decide +kernel
theorem d_Mo_mayHave_206 : decode prog_11_method_54_code 206 = .ok (.iload_n 2, 1) := by decide +kernel
theorem d_Mo_mayHave_207 : decode prog_11_method_54_code 207 = .ok (.iload_n 3, 1) := by decide +kernel
theorem d_Mo_mayHave_208 : decode prog_11_method_54_code 208 = .ok (.invokestatic 88, 3) := by decide +kernel
theorem d_Mo_mayHave_211 : decode prog_11_method_54_code 211 = .ok (.aload_n 0, 1) := by decide +kernel
theorem d_Mo_mayHave_212 : decode prog_11_method_54_code 212 = .ok (.getfield 13, 3) := by decide +kernel
theorem d_Mo_mayHave_215 : decode prog_11_method_54_code 215 = .ok (.iload_n 2, 1) := by decide +kernel
theorem d_Mo_mayHave_216 : decode prog_11_method_54_code 216 = .ok (.iload_n 3, 1) := by decide +kernel
theorem d_Mo_mayHave_217 : decode prog_11_method_54_code 217 = .ok (.invokestatic 59, 3) := by decide +kernel
theorem d_Mo_mayHave_220 : decode prog_11_method_54_code 220 = .ok (.isub, 1) := by decide +kernel
theorem d_Mo_mayHave_221 : decode prog_11_method_54_code 221 = .ok (.istore 9, 2) := by decide +kernel
theorem d_Mo_mayHave_223 : decode prog_11_method_54_code 223 = .ok (.iconst 0, 1) := by decide +kernel
theorem d_Mo_mayHave_224 : decode prog_11_method_54_code 224 = .ok (.istore 10, 2) := by decide +kernel
theorem d_Mo_mayHave_226 : decode prog_11_method_54_code 226 = .ok (.iconst 0, 1) := by decide +kernel
theorem d_Mo_mayHave_227 : decode prog_11_method_54_code 227 = .ok (.istore 11, 2) := by decide +kernel
theorem d_Mo_mayHave_229 : decode prog_11_method_54_code 229 = .ok (.iload 11, 2) := by decide +kernel
theorem d_Mo_mayHave_231 : decode prog_11_method_54_code 231 = .ok (.bipush 8, 2) := by decide +kernel
theorem d_Mo_mayHave_233 : decode prog_11_method_54_code 233 = .ok (.if_icmp .gt 137, 3) := by decide +kernel
theorem d_Mo_mayHave_236 : decode prog_11_method_54_code 236 = .ok (.iload 11, 2) := by decide +kernel
theorem d_Mo_mayHave_238 : decode prog_11_method_54_code 238 = .ok (.ifCond .eq 17, 3) := by decide +kernel
theorem d_Mo_mayHave_241 : decode prog_11_method_54_code 241 = .ok (.aload_n 0, 1) := by decide +kernel
theorem d_Mo_mayHave_242 : decode prog_11_method_54_code 242 = .ok (.getfield 13, 3) := by decide +kernel
theorem d_Mo_mayHave_245 : decode prog_11_method_54_code 245 = .ok (.sipush 181, 3) := by decide +kernel
theorem d_Mo_mayHave_248 : decode prog_11_method_54_code 248 = .ok (.iload 8, 2) := by decide +kernel
theorem d_Mo_mayHave_250 : decode prog_11_method_54_code 250 = .ok (.iadd, 1) := by decide +kernel
theorem d_Mo_mayHave_251 : decode prog_11_method_54_code 251 = .ok (.iaload, 1) := by decide +kernel
theorem d_Mo_mayHave_252 : decode prog_11_method_54_code 252 = .ok (.ifCond .ne 37, 3) := by decide +kernel
theorem d_Mo_mayHave_255 : decode prog_11_method_54_code 255 = .ok (.iload 11, 2) := by decide +kernel
theorem d_Mo_mayHave_257 : decode prog_11_method_54_code 257 = .ok (.aload_n 0, 1) := by decide +kernel
theorem d_Mo_mayHave_258 : decode prog_11_method_54_code 258 = .ok (.getfield 13, 3) := by decide +kernel
theorem d_Mo_mayHave_261 : decode prog_11_method_54_code 261 = .ok (.iload_n 2, 1) := by decide +kernel
theorem d_Mo_mayHave_262 : decode prog_11_method_54_code 262 = .ok (.invokestatic 201, 3) := by decide +kernel
theorem d_Mo_mayHave_265 : decode prog_11_method_54_code 265 = .ok (.if_icmp .gt 24, 3) := by decide +kernel
theorem d_Mo_mayHave_268 : decode prog_11_method_54_code 268 = .ok (.iload 11, 2) := by decide +kernel
theorem d_Mo_mayHave_270 : decode prog_11_method_54_code 270 = .ok (.iload 6, 2) := by decide +kernel
theorem d_Mo_mayHave_272 : decode prog_11_method_54_code 272 = .ok (.if_icmp .gt 17, 3) := by decide +kernel
theorem d_Mo_mayHave_275 : decode prog_11_method_54_code 275 = .ok (.iload 6, 2) := by decide +kernel
theorem d_Mo_mayHave_277 : decode prog_11_method_54_code 277 = .ok (.iload 11, 2) := by decide +kernel
theorem d_Mo_mayHave_279 : decode prog_11_method_54_code 279 = .ok (.isub, 1) := by decide +kernel
theorem d_Mo_mayHave_280 : decode prog_11_method_54_code 280 = .ok (.iload 7, 2) := by decide +kernel
theorem d_Mo_mayHave_282 : decode prog_11_method_54_code 282 = .ok (.if_icmp .gt 7, 3) := by decide +kernel
theorem d_Mo_mayHave_285 : decode prog_11_method_54_code 285 = .ok (.iconst 1, 1) := by decide +kernel
theorem d_Mo_mayHave_286 : decode prog_11_method_54_code 286 = .ok (.goto 4, 3) := by decide +kernel
theorem d_Mo_mayHave_289 : decode prog_11_method_54_code 289 = .ok (.iconst 0, 1) := by decide +kernel
theorem d_Mo_mayHave_290 : decode prog_11_method_54_code 290 = .ok (.istore 12, 2) := by decide +kernel
theorem d_Mo_mayHave_292 : decode prog_11_method_54_code 292 = .ok (.iload 4, 2) := by decide +kernel
theorem d_Mo_mayHave_294 : decode prog_11_method_54_code 294 = .ok (.ifCond .eq 40, 3) := by decide +kernel
theorem d_Mo_mayHave_297 : decode prog_11_method_54_code 297 = .ok (.aload_n 0, 1) := by decide +kernel
theorem d_Mo_mayHave_298 : decode prog_11_method_54_code 298 = .ok (.getfield 13, 3) := by decide +kernel
theorem d_Mo_mayHave_301 : decode prog_11_method_54_code 301 = .ok (.sipush 149, 3) := by decide +kernel
theorem d_Mo_mayHave_304 : decode prog_11_method_54_code 304 = .ok (.iload 8, 2) := by decide +kernel
theorem d_Mo_mayHave_306 : decode prog_11_method_54_code 306 = .ok (.iadd, 1) := by decide +kernel
theorem d_Mo_mayHave_307 : decode prog_11_method_54_code 307 = .ok (.iaload, 1) := by decide +kernel
theorem d_Mo_mayHave_308 : decode prog_11_method_54_code 308 = .ok (.ifCond .eq 26, 3) := by decide +kernel
theorem d_Mo_mayHave_311 : decode prog_11_method_54_code 311 = .ok (.iload 11, 2) := by decide +kernel
theorem d_Mo_mayHave_313 : decode prog_11_method_54_code 313 = .ok (.iload 9, 2) := by decide +kernel
theorem d_Mo_mayHave_315 : decode prog_11_method_54_code 315 = .ok (.iadd, 1) := by decide +kernel
theorem d_Mo_mayHave_316 : decode prog_11_method_54_code 316 = .ok (.iconst 2, 1) := by decide +kernel
theorem d_Mo_mayHave_317 : decode prog_11_method_54_code 317 = .ok (.irem, 1) := by decide +kernel
theorem d_Mo_mayHave_318 : decode prog_11_method_54_code 318 = .ok (.aload_n 0, 1) := by decide +kernel
theorem d_Mo_mayHave_319 : decode prog_11_method_54_code 319 = .ok (.getfield 13, 3) := by decide +kernel
theorem d_Mo_mayHave_322 : decode prog_11_method_54_code 322 = .ok (.sipush 149, 3) := by decide +kernel
theorem d_Mo_mayHave_325 : decode prog_11_method_54_code 325 = .ok (.iload 8, 2) := by decide +kernel
theorem d_Mo_mayHave_327 : decode prog_11_method_54_code 327 = .ok (.iadd, 1) := by decide +kernel
theorem d_Mo_mayHave_328 : decode prog_11_method_54_code 328 = .ok (.iaload, 1) := by decide +kernel
theorem d_Mo_mayHave_329 : decode prog_11_method_54_code 329 = .ok (.iconst 2, 1) := by decide +kernel
theorem d_Mo_mayHave_330 : decode prog_11_method_54_code 330 = .ok (.irem, 1) := by decide +kernel
theorem d_Mo_mayHave_331 : decode prog_11_method_54_code 331 = .ok (.if_icmp .ne 7, 3) := by decide +kernel
theorem d_Mo_mayHave_334 : decode prog_11_method_54_code 334 = .ok (.iconst 1, 1) := by decide +kernel
theorem d_Mo_mayHave_335 : decode prog_11_method_54_code 335 = .ok (.goto 4, 3) := by decide +kernel
theorem d_Mo_mayHave_338 : decode prog_11_method_54_code 338 = .ok (.iconst 0, 1) := by decide +kernel
theorem d_Mo_mayHave_339 : decode prog_11_method_54_code 339 = .ok (.istore 13, 2) := by decide +kernel
theorem d_Mo_mayHave_341 : decode prog_11_method_54_code 341 = .ok (.iload 10, 2) := by decide +kernel
theorem d_Mo_mayHave_343 : decode prog_11_method_54_code 343 = .ok (.iload 12, 2) := by decide +kernel
theorem d_Mo_mayHave_345 : decode prog_11_method_54_code 345 = .ok (.ifCond .eq 15, 3) := by decide +kernel
theorem d_Mo_mayHave_348 : decode prog_11_method_54_code 348 = .ok (.iload 13, 2) := by decide +kernel
theorem d_Mo_mayHave_350 : decode prog_11_method_54_code 350 = .ok (.ifCond .eq 10, 3) := by decide +kernel
theorem d_Mo_mayHave_353 : decode prog_11_method_54_code 353 = .ok (.iconst 1, 1) := by decide +kernel
theorem d_Mo_mayHave_354 : decode prog_11_method_54_code 354 = .ok (.iload 11, 2) := by decide +kernel
theorem d_Mo_mayHave_356 : decode prog_11_method_54_code 356 = .ok (.ishl, 1) := by decide +kernel
theorem d_Mo_mayHave_357 : decode prog_11_method_54_code 357 = .ok (.goto 4, 3) := by decide +kernel
theorem d_Mo_mayHave_360 : decode prog_11_method_54_code 360 = .ok (.iconst 0, 1) := by decide +kernel
theorem d_Mo_mayHave_361 : decode prog_11_method_54_code 361 = .ok (.ior, 1) := by decide +kernel
theorem d_Mo_mayHave_362 : decode prog_11_method_54_code 362 = .ok (.istore 10, 2) := by decide +kernel
theorem d_Mo_mayHave_364 : decode prog_11_method_54_code 364 = .ok (.iinc 11 1, 3) := by decide +kernel
theorem d_Mo_mayHave_367 : decode prog_11_method_54_code 367 = .ok (.goto (-138), 3) := by decide +kernel
theorem d_Mo_mayHave_370 : decode prog_11_method_54_code 370 = .ok (.iload 10, 2) := by decide +kernel
theorem d_Mo_mayHave_372 : decode prog_11_method_54_code 372 = .ok (.ireturn, 1) := by decide +kernel
theorem w_1204 : Cond.methodLink "DropSignalsModel" 201 ⟨"DropSignalsModel", "hand", "([II)I"⟩ ∈ gWs := gWs_in (i := 1204) (by decide +kernel) rfl
noncomputable def f_Mo_mayHave_b361 (M : gMem) (x2 : Int32) (x4 : Int32) (x6 : Int32) (x7 : Int32) (x8 : Int32) (x9 : Int32) (x11 : Int32) (s0 : Int32) (s1 : Int32) : Option ((Int32 × Int32) ⊕ (Int32 × gMem)) :=
  some (.inl ((s1 ||| s0), (x11 + 1)))
theorem t_Mo_mayHave_b361 {l : Launch} {ε : gEnv} (hM : gMo ε) (M : gMem) (x2 : Int32) (x4 : Int32) (x6 : Int32) (x7 : Int32) (x8 : Int32) (x9 : Int32) (x11 : Int32) (s0 : Int32) (s1 : Int32) (res : ((Int32 × Int32) ⊕ (Int32 × gMem))) (h : f_Mo_mayHave_b361 M x2 x4 x6 x7 x8 x9 x11 s0 s1 = some res) (r : (Int32 × gMem)) (k1 : ∀ s0 : (Int32 × Int32), res = .inl s0 → gGo l ε k_Mo_mayHave (gR 2 47) (gFn ε (some (.int r.1)) r.2) 229 [(0, .ref (ε.2.2.1 19 0)), (2, .int x2), (4, .int x4), (6, .int x6), (7, .int x7), (8, .int x8), (9, .int x9), (10, .int s0.1), (11, .int s0.2)] [] M) (k2 : ∀ r', res = .inr r' → r' = r) : gGo l ε k_Mo_mayHave (gR 2 47) (gFn ε (some (.int r.1)) r.2) 361 [(0, .ref (ε.2.2.1 19 0)), (2, .int x2), (4, .int x4), (6, .int x6), (7, .int x7), (8, .int x8), (9, .int x9), (11, .int x11)] [.int s0, .int s1] M := by
  unfold f_Mo_mayHave_b361 at h
  refine g_ior d_Mo_mayHave_361 ?_
  refine g_istore (L' := [(10, .int (s1 ||| s0)), (0, .ref (ε.2.2.1 19 0)), (2, .int x2), (4, .int x4), (6, .int x6), (7, .int x7), (8, .int x8), (9, .int x9), (11, .int x11)]) d_Mo_mayHave_362 (by decide) rfl ?_
  refine g_iinc (v := (x11 + 1)) (L' := [(11, .int (x11 + 1)), (10, .int (s1 ||| s0)), (0, .ref (ε.2.2.1 19 0)), (2, .int x2), (4, .int x4), (6, .int x6), (7, .int x7), (8, .int x8), (9, .int x9)]) d_Mo_mayHave_364 (j := 8) rfl rfl (by decide) rfl ?_
  refine g_goto (tgt := 229) d_Mo_mayHave_367 (by decide) ?_
  refine gGo_sub [2, 3, 4, 5, 6, 7, 8, 1, 0] rfl ?_
  obtain rfl := Option.some.inj h
  exact k1 ((s1 ||| s0), (x11 + 1)) rfl
noncomputable def f_Mo_mayHave_b360 (M : gMem) (x2 : Int32) (x4 : Int32) (x6 : Int32) (x7 : Int32) (x8 : Int32) (x9 : Int32) (x11 : Int32) (s0 : Int32) : Option ((Int32 × Int32) ⊕ (Int32 × gMem)) :=
  f_Mo_mayHave_b361 M x2 x4 x6 x7 x8 x9 x11 0 s0
theorem t_Mo_mayHave_b360 {l : Launch} {ε : gEnv} (hM : gMo ε) (M : gMem) (x2 : Int32) (x4 : Int32) (x6 : Int32) (x7 : Int32) (x8 : Int32) (x9 : Int32) (x11 : Int32) (s0 : Int32) (res : ((Int32 × Int32) ⊕ (Int32 × gMem))) (h : f_Mo_mayHave_b360 M x2 x4 x6 x7 x8 x9 x11 s0 = some res) (r : (Int32 × gMem)) (k1 : ∀ s0 : (Int32 × Int32), res = .inl s0 → gGo l ε k_Mo_mayHave (gR 2 47) (gFn ε (some (.int r.1)) r.2) 229 [(0, .ref (ε.2.2.1 19 0)), (2, .int x2), (4, .int x4), (6, .int x6), (7, .int x7), (8, .int x8), (9, .int x9), (10, .int s0.1), (11, .int s0.2)] [] M) (k2 : ∀ r', res = .inr r' → r' = r) : gGo l ε k_Mo_mayHave (gR 2 47) (gFn ε (some (.int r.1)) r.2) 360 [(0, .ref (ε.2.2.1 19 0)), (2, .int x2), (4, .int x4), (6, .int x6), (7, .int x7), (8, .int x8), (9, .int x9), (11, .int x11)] [.int s0] M := by
  unfold f_Mo_mayHave_b360 at h
  refine g_iconst (v := 0) d_Mo_mayHave_360 (by decide) ?_
  exact t_Mo_mayHave_b361 hM M x2 x4 x6 x7 x8 x9 x11 0 s0 _ h r k1 k2
noncomputable def f_Mo_mayHave_b339 (M : gMem) (x2 : Int32) (x4 : Int32) (x6 : Int32) (x7 : Int32) (x8 : Int32) (x9 : Int32) (x10 : Int32) (x11 : Int32) (x12 : Int32) (s0 : Int32) : Option ((Int32 × Int32) ⊕ (Int32 × gMem)) :=
  if x12 = 0 then
    f_Mo_mayHave_b360 M x2 x4 x6 x7 x8 x9 x11 x10
  else
    if s0 = 0 then
      f_Mo_mayHave_b360 M x2 x4 x6 x7 x8 x9 x11 x10
    else
      f_Mo_mayHave_b361 M x2 x4 x6 x7 x8 x9 x11 (gIsh 1 x11) x10
theorem t_Mo_mayHave_b339 {l : Launch} {ε : gEnv} (hM : gMo ε) (M : gMem) (x2 : Int32) (x4 : Int32) (x6 : Int32) (x7 : Int32) (x8 : Int32) (x9 : Int32) (x10 : Int32) (x11 : Int32) (x12 : Int32) (s0 : Int32) (res : ((Int32 × Int32) ⊕ (Int32 × gMem))) (h : f_Mo_mayHave_b339 M x2 x4 x6 x7 x8 x9 x10 x11 x12 s0 = some res) (r : (Int32 × gMem)) (k1 : ∀ s0 : (Int32 × Int32), res = .inl s0 → gGo l ε k_Mo_mayHave (gR 2 47) (gFn ε (some (.int r.1)) r.2) 229 [(0, .ref (ε.2.2.1 19 0)), (2, .int x2), (4, .int x4), (6, .int x6), (7, .int x7), (8, .int x8), (9, .int x9), (10, .int s0.1), (11, .int s0.2)] [] M) (k2 : ∀ r', res = .inr r' → r' = r) : gGo l ε k_Mo_mayHave (gR 2 47) (gFn ε (some (.int r.1)) r.2) 339 [(0, .ref (ε.2.2.1 19 0)), (2, .int x2), (4, .int x4), (6, .int x6), (7, .int x7), (8, .int x8), (9, .int x9), (10, .int x10), (11, .int x11), (12, .int x12)] [.int s0] M := by
  unfold f_Mo_mayHave_b339 at h
  refine g_istore (L' := [(13, .int s0), (0, .ref (ε.2.2.1 19 0)), (2, .int x2), (4, .int x4), (6, .int x6), (7, .int x7), (8, .int x8), (9, .int x9), (10, .int x10), (11, .int x11), (12, .int x12)]) d_Mo_mayHave_339 (by decide) rfl ?_
  refine g_iload d_Mo_mayHave_341 8 rfl ?_
  refine g_iload d_Mo_mayHave_343 10 rfl ?_
  refine g_if_eq (tgt := 360) d_Mo_mayHave_345 (by decide) (fun c8 => ?_) (fun c8 => ?_)
  · rw [if_pos c8] at h
    refine gGo_sub [1, 2, 3, 4, 5, 6, 7, 9] rfl ?_
    exact t_Mo_mayHave_b360 hM M x2 x4 x6 x7 x8 x9 x11 x10 _ h r k1 k2
  · rw [if_neg c8] at h
    refine g_iload d_Mo_mayHave_348 0 rfl ?_
    refine g_if_eq (tgt := 360) d_Mo_mayHave_350 (by decide) (fun c7 => ?_) (fun c7 => ?_)
    · rw [if_pos c7] at h
      refine gGo_sub [1, 2, 3, 4, 5, 6, 7, 9] rfl ?_
      exact t_Mo_mayHave_b360 hM M x2 x4 x6 x7 x8 x9 x11 x10 _ h r k1 k2
    · rw [if_neg c7] at h
      refine g_iconst (v := 1) d_Mo_mayHave_353 (by decide) ?_
      refine g_iload d_Mo_mayHave_354 9 rfl ?_
      refine g_ish d_Mo_mayHave_356 ?_
      refine g_goto (tgt := 361) d_Mo_mayHave_357 (by decide) ?_
      refine gGo_sub [1, 2, 3, 4, 5, 6, 7, 9] rfl ?_
      exact t_Mo_mayHave_b361 hM M x2 x4 x6 x7 x8 x9 x11 (gIsh 1 x11) x10 _ h r k1 k2
noncomputable def f_Mo_mayHave_b334 (M : gMem) (x2 : Int32) (x4 : Int32) (x6 : Int32) (x7 : Int32) (x8 : Int32) (x9 : Int32) (x10 : Int32) (x11 : Int32) (x12 : Int32) : Option ((Int32 × Int32) ⊕ (Int32 × gMem)) :=
  f_Mo_mayHave_b339 M x2 x4 x6 x7 x8 x9 x10 x11 x12 1
theorem t_Mo_mayHave_b334 {l : Launch} {ε : gEnv} (hM : gMo ε) (M : gMem) (x2 : Int32) (x4 : Int32) (x6 : Int32) (x7 : Int32) (x8 : Int32) (x9 : Int32) (x10 : Int32) (x11 : Int32) (x12 : Int32) (res : ((Int32 × Int32) ⊕ (Int32 × gMem))) (h : f_Mo_mayHave_b334 M x2 x4 x6 x7 x8 x9 x10 x11 x12 = some res) (r : (Int32 × gMem)) (k1 : ∀ s0 : (Int32 × Int32), res = .inl s0 → gGo l ε k_Mo_mayHave (gR 2 47) (gFn ε (some (.int r.1)) r.2) 229 [(0, .ref (ε.2.2.1 19 0)), (2, .int x2), (4, .int x4), (6, .int x6), (7, .int x7), (8, .int x8), (9, .int x9), (10, .int s0.1), (11, .int s0.2)] [] M) (k2 : ∀ r', res = .inr r' → r' = r) : gGo l ε k_Mo_mayHave (gR 2 47) (gFn ε (some (.int r.1)) r.2) 334 [(0, .ref (ε.2.2.1 19 0)), (2, .int x2), (4, .int x4), (6, .int x6), (7, .int x7), (8, .int x8), (9, .int x9), (10, .int x10), (11, .int x11), (12, .int x12)] [] M := by
  unfold f_Mo_mayHave_b334 at h
  refine g_iconst (v := 1) d_Mo_mayHave_334 (by decide) ?_
  refine g_goto (tgt := 339) d_Mo_mayHave_335 (by decide) ?_
  exact t_Mo_mayHave_b339 hM M x2 x4 x6 x7 x8 x9 x10 x11 x12 1 _ h r k1 k2
noncomputable def f_Mo_mayHave_b290 (M : gMem) (x2 : Int32) (x4 : Int32) (x6 : Int32) (x7 : Int32) (x8 : Int32) (x9 : Int32) (x10 : Int32) (x11 : Int32) (s0 : Int32) : Option ((Int32 × Int32) ⊕ (Int32 × gMem)) :=
  if x4 = 0 then
    f_Mo_mayHave_b334 M x2 x4 x6 x7 x8 x9 x10 x11 s0
  else
    (gRd 197 (M 19 2) (149 + x8)).bind fun v9 =>
    if v9 = 0 then
      f_Mo_mayHave_b334 M x2 x4 x6 x7 x8 x9 x10 x11 s0
    else
      (gRd 197 (M 19 2) (149 + x8)).bind fun v10 =>
      if (gRem (x11 + x9) 2) = (gRem v10 2) then
        f_Mo_mayHave_b334 M x2 x4 x6 x7 x8 x9 x10 x11 s0
      else
        f_Mo_mayHave_b339 M x2 x4 x6 x7 x8 x9 x10 x11 s0 0
theorem t_Mo_mayHave_b290 {l : Launch} {ε : gEnv} (hM : gMo ε) (M : gMem) (x2 : Int32) (x4 : Int32) (x6 : Int32) (x7 : Int32) (x8 : Int32) (x9 : Int32) (x10 : Int32) (x11 : Int32) (s0 : Int32) (res : ((Int32 × Int32) ⊕ (Int32 × gMem))) (h : f_Mo_mayHave_b290 M x2 x4 x6 x7 x8 x9 x10 x11 s0 = some res) (r : (Int32 × gMem)) (k1 : ∀ s0 : (Int32 × Int32), res = .inl s0 → gGo l ε k_Mo_mayHave (gR 2 47) (gFn ε (some (.int r.1)) r.2) 229 [(0, .ref (ε.2.2.1 19 0)), (2, .int x2), (4, .int x4), (6, .int x6), (7, .int x7), (8, .int x8), (9, .int x9), (10, .int s0.1), (11, .int s0.2)] [] M) (k2 : ∀ r', res = .inr r' → r' = r) : gGo l ε k_Mo_mayHave (gR 2 47) (gFn ε (some (.int r.1)) r.2) 290 [(0, .ref (ε.2.2.1 19 0)), (2, .int x2), (4, .int x4), (6, .int x6), (7, .int x7), (8, .int x8), (9, .int x9), (10, .int x10), (11, .int x11)] [.int s0] M := by
  unfold f_Mo_mayHave_b290 at h
  refine g_istore (L' := [(12, .int s0), (0, .ref (ε.2.2.1 19 0)), (2, .int x2), (4, .int x4), (6, .int x6), (7, .int x7), (8, .int x8), (9, .int x9), (10, .int x10), (11, .int x11)]) d_Mo_mayHave_290 (by decide) rfl ?_
  refine g_iload d_Mo_mayHave_292 3 rfl ?_
  refine g_if_eq (tgt := 334) d_Mo_mayHave_294 (by decide) (fun c13 => ?_) (fun c13 => ?_)
  · rw [if_pos c13] at h
    refine gGo_sub [1, 2, 3, 4, 5, 6, 7, 8, 9, 0] rfl ?_
    exact t_Mo_mayHave_b334 hM M x2 x4 x6 x7 x8 x9 x10 x11 s0 _ h r k1 k2
  · rw [if_neg c13] at h
    refine g_aload_n d_Mo_mayHave_297 rfl 1 rfl ?_
    refine g_getR d_Mo_mayHave_298 fl_Mo_13 (gMo_h0 hM) rfl ?_
    refine g_sipush (v := 149) d_Mo_mayHave_301 (by decide) ?_
    refine g_iload d_Mo_mayHave_304 6 rfl ?_
    refine g_iadd d_Mo_mayHave_306 ?_
    obtain ⟨v9, hv9, h⟩ := gOb h
    refine g_iaload d_Mo_mayHave_307 (gMo_h2 hM) hv9 ?_
    refine g_if_eq (tgt := 334) d_Mo_mayHave_308 (by decide) (fun c12 => ?_) (fun c12 => ?_)
    · rw [if_pos c12] at h
      refine gGo_sub [1, 2, 3, 4, 5, 6, 7, 8, 9, 0] rfl ?_
      exact t_Mo_mayHave_b334 hM M x2 x4 x6 x7 x8 x9 x10 x11 s0 _ h r k1 k2
    · rw [if_neg c12] at h
      refine g_iload d_Mo_mayHave_311 9 rfl ?_
      refine g_iload d_Mo_mayHave_313 7 rfl ?_
      refine g_iadd d_Mo_mayHave_315 ?_
      refine g_iconst (v := 2) d_Mo_mayHave_316 (by decide) ?_
      refine g_rem d_Mo_mayHave_317 (by decide) ?_
      refine g_aload_n d_Mo_mayHave_318 rfl 1 rfl ?_
      refine g_getR d_Mo_mayHave_319 fl_Mo_13 (gMo_h0 hM) rfl ?_
      refine g_sipush (v := 149) d_Mo_mayHave_322 (by decide) ?_
      refine g_iload d_Mo_mayHave_325 6 rfl ?_
      refine g_iadd d_Mo_mayHave_327 ?_
      obtain ⟨v10, hv10, h⟩ := gOb h
      refine g_iaload d_Mo_mayHave_328 (gMo_h2 hM) hv10 ?_
      refine g_iconst (v := 2) d_Mo_mayHave_329 (by decide) ?_
      refine g_rem d_Mo_mayHave_330 (by decide) ?_
      refine g_icmp_ne (tgt := 338) d_Mo_mayHave_331 (by decide) (fun c11 => ?_) (fun c11 => ?_)
      · rw [if_neg c11] at h
        refine g_iconst (v := 0) d_Mo_mayHave_338 (by decide) ?_
        refine gGo_sub [1, 2, 3, 4, 5, 6, 7, 8, 9, 0] rfl ?_
        exact t_Mo_mayHave_b339 hM M x2 x4 x6 x7 x8 x9 x10 x11 s0 0 _ h r k1 k2
      · rw [if_pos c11] at h
        refine gGo_sub [1, 2, 3, 4, 5, 6, 7, 8, 9, 0] rfl ?_
        exact t_Mo_mayHave_b334 hM M x2 x4 x6 x7 x8 x9 x10 x11 s0 _ h r k1 k2
noncomputable def f_Mo_mayHave_b289 (M : gMem) (x2 : Int32) (x4 : Int32) (x6 : Int32) (x7 : Int32) (x8 : Int32) (x9 : Int32) (x10 : Int32) (x11 : Int32) : Option ((Int32 × Int32) ⊕ (Int32 × gMem)) :=
  f_Mo_mayHave_b290 M x2 x4 x6 x7 x8 x9 x10 x11 0
theorem t_Mo_mayHave_b289 {l : Launch} {ε : gEnv} (hM : gMo ε) (M : gMem) (x2 : Int32) (x4 : Int32) (x6 : Int32) (x7 : Int32) (x8 : Int32) (x9 : Int32) (x10 : Int32) (x11 : Int32) (res : ((Int32 × Int32) ⊕ (Int32 × gMem))) (h : f_Mo_mayHave_b289 M x2 x4 x6 x7 x8 x9 x10 x11 = some res) (r : (Int32 × gMem)) (k1 : ∀ s0 : (Int32 × Int32), res = .inl s0 → gGo l ε k_Mo_mayHave (gR 2 47) (gFn ε (some (.int r.1)) r.2) 229 [(0, .ref (ε.2.2.1 19 0)), (2, .int x2), (4, .int x4), (6, .int x6), (7, .int x7), (8, .int x8), (9, .int x9), (10, .int s0.1), (11, .int s0.2)] [] M) (k2 : ∀ r', res = .inr r' → r' = r) : gGo l ε k_Mo_mayHave (gR 2 47) (gFn ε (some (.int r.1)) r.2) 289 [(0, .ref (ε.2.2.1 19 0)), (2, .int x2), (4, .int x4), (6, .int x6), (7, .int x7), (8, .int x8), (9, .int x9), (10, .int x10), (11, .int x11)] [] M := by
  unfold f_Mo_mayHave_b289 at h
  refine g_iconst (v := 0) d_Mo_mayHave_289 (by decide) ?_
  exact t_Mo_mayHave_b290 hM M x2 x4 x6 x7 x8 x9 x10 x11 0 _ h r k1 k2
noncomputable def f_Mo_mayHave_b255 (M : gMem) (x2 : Int32) (x4 : Int32) (x6 : Int32) (x7 : Int32) (x8 : Int32) (x9 : Int32) (x10 : Int32) (x11 : Int32) : Option ((Int32 × Int32) ⊕ (Int32 × gMem)) :=
  (f_Mo_hand 19 2 197 M x2).bind fun q6 =>
  if q6 < x11 then
    f_Mo_mayHave_b289 M x2 x4 x6 x7 x8 x9 x10 x11
  else
    if x6 < x11 then
      f_Mo_mayHave_b289 M x2 x4 x6 x7 x8 x9 x10 x11
    else
      if x7 < (x6 - x11) then
        f_Mo_mayHave_b289 M x2 x4 x6 x7 x8 x9 x10 x11
      else
        f_Mo_mayHave_b290 M x2 x4 x6 x7 x8 x9 x10 x11 1
theorem t_Mo_mayHave_b255 {l : Launch} {ε : gEnv} (hM : gMo ε) (M : gMem) (x2 : Int32) (x4 : Int32) (x6 : Int32) (x7 : Int32) (x8 : Int32) (x9 : Int32) (x10 : Int32) (x11 : Int32) (res : ((Int32 × Int32) ⊕ (Int32 × gMem))) (h : f_Mo_mayHave_b255 M x2 x4 x6 x7 x8 x9 x10 x11 = some res) (r : (Int32 × gMem)) (k1 : ∀ s0 : (Int32 × Int32), res = .inl s0 → gGo l ε k_Mo_mayHave (gR 2 47) (gFn ε (some (.int r.1)) r.2) 229 [(0, .ref (ε.2.2.1 19 0)), (2, .int x2), (4, .int x4), (6, .int x6), (7, .int x7), (8, .int x8), (9, .int x9), (10, .int s0.1), (11, .int s0.2)] [] M) (k2 : ∀ r', res = .inr r' → r' = r) : gGo l ε k_Mo_mayHave (gR 2 47) (gFn ε (some (.int r.1)) r.2) 255 [(0, .ref (ε.2.2.1 19 0)), (2, .int x2), (4, .int x4), (6, .int x6), (7, .int x7), (8, .int x8), (9, .int x9), (10, .int x10), (11, .int x11)] [] M := by
  unfold f_Mo_mayHave_b255 at h
  refine g_iload d_Mo_mayHave_255 8 rfl ?_
  refine g_aload_n d_Mo_mayHave_257 rfl 0 rfl ?_
  refine g_getR d_Mo_mayHave_258 fl_Mo_13 (gMo_h0 hM) rfl ?_
  refine g_iload_n d_Mo_mayHave_261 rfl 1 rfl ?_
  obtain ⟨q6, hq6, h⟩ := gOb h
  refine g_callS_i (As := [.ref (ε.2.2.1 19 2), .int x2]) (rest := [.int x11]) (ct_Mo_hand 19 2 197 (gMo_h2 hM) M x2 _ hq6) d_Mo_mayHave_262 ca_Mo_hand w_1204 rfl rfl (Nat.le_of_ble_eq_true rfl) ⟨(Nat.le_of_ble_eq_true rfl), (Nat.le_of_ble_eq_true rfl)⟩ ?_
  refine g_icmp_gt (tgt := 289) d_Mo_mayHave_265 (by decide) (fun c16 => ?_) (fun c16 => ?_)
  · rw [if_pos c16] at h
    exact t_Mo_mayHave_b289 hM M x2 x4 x6 x7 x8 x9 x10 x11 _ h r k1 k2
  · rw [if_neg c16] at h
    refine g_iload d_Mo_mayHave_268 8 rfl ?_
    refine g_iload d_Mo_mayHave_270 3 rfl ?_
    refine g_icmp_gt (tgt := 289) d_Mo_mayHave_272 (by decide) (fun c15 => ?_) (fun c15 => ?_)
    · rw [if_pos c15] at h
      exact t_Mo_mayHave_b289 hM M x2 x4 x6 x7 x8 x9 x10 x11 _ h r k1 k2
    · rw [if_neg c15] at h
      refine g_iload d_Mo_mayHave_275 3 rfl ?_
      refine g_iload d_Mo_mayHave_277 8 rfl ?_
      refine g_isub d_Mo_mayHave_279 ?_
      refine g_iload d_Mo_mayHave_280 4 rfl ?_
      refine g_icmp_gt (tgt := 289) d_Mo_mayHave_282 (by decide) (fun c14 => ?_) (fun c14 => ?_)
      · rw [if_pos c14] at h
        exact t_Mo_mayHave_b289 hM M x2 x4 x6 x7 x8 x9 x10 x11 _ h r k1 k2
      · rw [if_neg c14] at h
        refine g_iconst (v := 1) d_Mo_mayHave_285 (by decide) ?_
        refine g_goto (tgt := 290) d_Mo_mayHave_286 (by decide) ?_
        exact t_Mo_mayHave_b290 hM M x2 x4 x6 x7 x8 x9 x10 x11 1 _ h r k1 k2
noncomputable def f_Mo_mayHave_s229 (M : gMem) (x2 : Int32) (x4 : Int32) (x6 : Int32) (x7 : Int32) (x8 : Int32) (x9 : Int32) (x10 : Int32) (x11 : Int32) : Option ((Int32 × Int32) ⊕ (Int32 × gMem)) :=
  if 8 < x11 then
    some (.inr (x10, M))
  else
    if x11 = 0 then
      f_Mo_mayHave_b255 M x2 x4 x6 x7 x8 x9 x10 x11
    else
      (gRd 197 (M 19 2) (181 + x8)).bind fun v17 =>
      if v17 = 0 then
        f_Mo_mayHave_b255 M x2 x4 x6 x7 x8 x9 x10 x11
      else
        f_Mo_mayHave_b289 M x2 x4 x6 x7 x8 x9 x10 x11
theorem t_Mo_mayHave_s229 {l : Launch} {ε : gEnv} (hM : gMo ε) (M : gMem) (x2 : Int32) (x4 : Int32) (x6 : Int32) (x7 : Int32) (x8 : Int32) (x9 : Int32) (x10 : Int32) (x11 : Int32) (res : ((Int32 × Int32) ⊕ (Int32 × gMem))) (h : f_Mo_mayHave_s229 M x2 x4 x6 x7 x8 x9 x10 x11 = some res) (r : (Int32 × gMem)) (k1 : ∀ s0 : (Int32 × Int32), res = .inl s0 → gGo l ε k_Mo_mayHave (gR 2 47) (gFn ε (some (.int r.1)) r.2) 229 [(0, .ref (ε.2.2.1 19 0)), (2, .int x2), (4, .int x4), (6, .int x6), (7, .int x7), (8, .int x8), (9, .int x9), (10, .int s0.1), (11, .int s0.2)] [] M) (k2 : ∀ r', res = .inr r' → r' = r) : gGo l ε k_Mo_mayHave (gR 2 47) (gFn ε (some (.int r.1)) r.2) 229 [(0, .ref (ε.2.2.1 19 0)), (2, .int x2), (4, .int x4), (6, .int x6), (7, .int x7), (8, .int x8), (9, .int x9), (10, .int x10), (11, .int x11)] [] M := by
  unfold f_Mo_mayHave_s229 at h
  refine g_iload d_Mo_mayHave_229 8 rfl ?_
  refine g_bipush (v := 8) d_Mo_mayHave_231 (by decide) ?_
  refine g_icmp_gt (tgt := 370) d_Mo_mayHave_233 (by decide) (fun c20 => ?_) (fun c20 => ?_)
  · rw [if_pos c20] at h
    refine g_iload d_Mo_mayHave_370 7 rfl ?_
    obtain rfl := Option.some.inj h
    have e9 := k2 _ rfl
    subst e9
    exact g_iret d_Mo_mayHave_372 rfl
  · rw [if_neg c20] at h
    refine g_iload d_Mo_mayHave_236 8 rfl ?_
    refine g_if_eq (tgt := 255) d_Mo_mayHave_238 (by decide) (fun c19 => ?_) (fun c19 => ?_)
    · rw [if_pos c19] at h
      exact t_Mo_mayHave_b255 hM M x2 x4 x6 x7 x8 x9 x10 x11 _ h r k1 k2
    · rw [if_neg c19] at h
      refine g_aload_n d_Mo_mayHave_241 rfl 0 rfl ?_
      refine g_getR d_Mo_mayHave_242 fl_Mo_13 (gMo_h0 hM) rfl ?_
      refine g_sipush (v := 181) d_Mo_mayHave_245 (by decide) ?_
      refine g_iload d_Mo_mayHave_248 5 rfl ?_
      refine g_iadd d_Mo_mayHave_250 ?_
      obtain ⟨v17, hv17, h⟩ := gOb h
      refine g_iaload d_Mo_mayHave_251 (gMo_h2 hM) hv17 ?_
      refine g_if_ne (tgt := 289) d_Mo_mayHave_252 (by decide) (fun c18 => ?_) (fun c18 => ?_)
      · rw [if_neg c18] at h
        exact t_Mo_mayHave_b289 hM M x2 x4 x6 x7 x8 x9 x10 x11 _ h r k1 k2
      · rw [if_pos c18] at h
        exact t_Mo_mayHave_b255 hM M x2 x4 x6 x7 x8 x9 x10 x11 _ h r k1 k2
noncomputable def f_Mo_mayHave_l229 (M : gMem) (x2 : Int32) (x4 : Int32) (x6 : Int32) (x7 : Int32) (x8 : Int32) (x9 : Int32) (s : (Int32 × Int32)) : Option (Int32 × gMem) := gLp (fun s => f_Mo_mayHave_s229 M x2 x4 x6 x7 x8 x9 s.1 s.2) s
theorem t_Mo_mayHave_l229 {l : Launch} {ε : gEnv} (hM : gMo ε) (M : gMem) (x2 : Int32) (x4 : Int32) (x6 : Int32) (x7 : Int32) (x8 : Int32) (x9 : Int32) (s : (Int32 × Int32)) (r : (Int32 × gMem)) (h : f_Mo_mayHave_l229 M x2 x4 x6 x7 x8 x9 s = some r) : gGo l ε k_Mo_mayHave (gR 2 47) (gFn ε (some (.int r.1)) r.2) 229 [(0, .ref (ε.2.2.1 19 0)), (2, .int x2), (4, .int x4), (6, .int x6), (7, .int x7), (8, .int x8), (9, .int x9), (10, .int s.1), (11, .int s.2)] [] M :=
  g_loop _ (fun r s => gGo l ε k_Mo_mayHave (gR 2 47) (gFn ε (some (.int r.1)) r.2) 229 [(0, .ref (ε.2.2.1 19 0)), (2, .int x2), (4, .int x4), (6, .int x6), (7, .int x7), (8, .int x8), (9, .int x9), (10, .int s.1), (11, .int s.2)] [] M) (fun s res h r k1 k2 => t_Mo_mayHave_s229 hM M x2 x4 x6 x7 x8 x9 s.1 s.2 res h r k1 k2) s r h
noncomputable def f_Mo_mayHave_b186 (M : gMem) (x1 : Int32) (x2 : Int32) (x3 : Int32) (x4 : Int32) (x6 : Int32) (x8 : Int32) (s0 : Int32) (s1 : Int32) : Option ((Int32 × Int32) ⊕ (Int32 × gMem)) :=
  some (.inl ((s1 + s0), (x8 + 1)))
theorem t_Mo_mayHave_b186 {l : Launch} {ε : gEnv} (hM : gMo ε) (M : gMem) (x1 : Int32) (x2 : Int32) (x3 : Int32) (x4 : Int32) (x6 : Int32) (x8 : Int32) (s0 : Int32) (s1 : Int32) (res : ((Int32 × Int32) ⊕ (Int32 × gMem))) (h : f_Mo_mayHave_b186 M x1 x2 x3 x4 x6 x8 s0 s1 = some res) (r : (Int32 × gMem)) (k1 : ∀ s0 : (Int32 × Int32), res = .inl s0 → gGo l ε k_Mo_mayHave (gR 2 47) (gFn ε (some (.int r.1)) r.2) 134 [(0, .ref (ε.2.2.1 19 0)), (1, .int x1), (2, .int x2), (3, .int x3), (4, .int x4), (6, .int x6), (7, .int s0.1), (8, .int s0.2)] [] M) (k2 : ∀ r', res = .inr r' → r' = r) : gGo l ε k_Mo_mayHave (gR 2 47) (gFn ε (some (.int r.1)) r.2) 186 [(0, .ref (ε.2.2.1 19 0)), (1, .int x1), (2, .int x2), (3, .int x3), (4, .int x4), (6, .int x6), (8, .int x8)] [.int s0, .int s1] M := by
  unfold f_Mo_mayHave_b186 at h
  refine g_iadd d_Mo_mayHave_186 ?_
  refine g_istore (L' := [(7, .int (s1 + s0)), (0, .ref (ε.2.2.1 19 0)), (1, .int x1), (2, .int x2), (3, .int x3), (4, .int x4), (6, .int x6), (8, .int x8)]) d_Mo_mayHave_187 (by decide) rfl ?_
  refine g_iinc (v := (x8 + 1)) (L' := [(8, .int (x8 + 1)), (7, .int (s1 + s0)), (0, .ref (ε.2.2.1 19 0)), (1, .int x1), (2, .int x2), (3, .int x3), (4, .int x4), (6, .int x6)]) d_Mo_mayHave_189 (j := 7) rfl rfl (by decide) rfl ?_
  refine g_goto (tgt := 134) d_Mo_mayHave_192 (by decide) ?_
  refine gGo_sub [2, 3, 4, 5, 6, 7, 1, 0] rfl ?_
  obtain rfl := Option.some.inj h
  exact k1 ((s1 + s0), (x8 + 1)) rfl
noncomputable def f_Mo_mayHave_b173 (M : gMem) (x1 : Int32) (x2 : Int32) (x3 : Int32) (x4 : Int32) (x6 : Int32) (x8 : Int32) (s0 : Int32) : Option ((Int32 × Int32) ⊕ (Int32 × gMem)) :=
  f_Mo_mayHave_b186 M x1 x2 x3 x4 x6 x8 0 s0
theorem t_Mo_mayHave_b173 {l : Launch} {ε : gEnv} (hM : gMo ε) (M : gMem) (x1 : Int32) (x2 : Int32) (x3 : Int32) (x4 : Int32) (x6 : Int32) (x8 : Int32) (s0 : Int32) (res : ((Int32 × Int32) ⊕ (Int32 × gMem))) (h : f_Mo_mayHave_b173 M x1 x2 x3 x4 x6 x8 s0 = some res) (r : (Int32 × gMem)) (k1 : ∀ s0 : (Int32 × Int32), res = .inl s0 → gGo l ε k_Mo_mayHave (gR 2 47) (gFn ε (some (.int r.1)) r.2) 134 [(0, .ref (ε.2.2.1 19 0)), (1, .int x1), (2, .int x2), (3, .int x3), (4, .int x4), (6, .int x6), (7, .int s0.1), (8, .int s0.2)] [] M) (k2 : ∀ r', res = .inr r' → r' = r) : gGo l ε k_Mo_mayHave (gR 2 47) (gFn ε (some (.int r.1)) r.2) 173 [(0, .ref (ε.2.2.1 19 0)), (1, .int x1), (2, .int x2), (3, .int x3), (4, .int x4), (6, .int x6), (8, .int x8)] [.int s0] M := by
  unfold f_Mo_mayHave_b173 at h
  refine g_iconst (v := 0) d_Mo_mayHave_173 (by decide) ?_
  refine g_goto (tgt := 186) d_Mo_mayHave_174 (by decide) ?_
  exact t_Mo_mayHave_b186 hM M x1 x2 x3 x4 x6 x8 0 s0 _ h r k1 k2
noncomputable def f_Mo_mayHave_s134 (M : gMem) (x1 : Int32) (x2 : Int32) (x3 : Int32) (x4 : Int32) (x6 : Int32) (x7 : Int32) (x8 : Int32) : Option ((Int32 × Int32) ⊕ (Int32 × gMem)) :=
  if 4 ≤ x8 then
    (f_Mo_wasDealt 19 2 197 M x2 x3).bind fun q4 =>
    (f_Mo_holds 19 2 197 M x2 x3).bind fun q5 =>
    (f_Mo_mayHave_l229 M x2 x4 x6 x7 ((4 * x2) + x3) (q4 - q5) (0, 0)).map .inr
  else
    if x8 = x1 then
      f_Mo_mayHave_b173 M x1 x2 x3 x4 x6 x8 x7
    else
      if x8 = x2 then
        f_Mo_mayHave_b173 M x1 x2 x3 x4 x6 x8 x7
      else
        (gRd 197 (M 19 2) ((181 + (4 * x8)) + x3)).bind fun v21 =>
        if v21 = 1 then
          f_Mo_mayHave_b173 M x1 x2 x3 x4 x6 x8 x7
        else
          (f_Mo_hand 19 2 197 M x8).bind fun q22 =>
          f_Mo_mayHave_b186 M x1 x2 x3 x4 x6 x8 q22 x7
theorem t_Mo_mayHave_s134 {l : Launch} {ε : gEnv} (hM : gMo ε) (M : gMem) (x1 : Int32) (x2 : Int32) (x3 : Int32) (x4 : Int32) (x6 : Int32) (x7 : Int32) (x8 : Int32) (res : ((Int32 × Int32) ⊕ (Int32 × gMem))) (h : f_Mo_mayHave_s134 M x1 x2 x3 x4 x6 x7 x8 = some res) (r : (Int32 × gMem)) (k1 : ∀ s0 : (Int32 × Int32), res = .inl s0 → gGo l ε k_Mo_mayHave (gR 2 47) (gFn ε (some (.int r.1)) r.2) 134 [(0, .ref (ε.2.2.1 19 0)), (1, .int x1), (2, .int x2), (3, .int x3), (4, .int x4), (6, .int x6), (7, .int s0.1), (8, .int s0.2)] [] M) (k2 : ∀ r', res = .inr r' → r' = r) : gGo l ε k_Mo_mayHave (gR 2 47) (gFn ε (some (.int r.1)) r.2) 134 [(0, .ref (ε.2.2.1 19 0)), (1, .int x1), (2, .int x2), (3, .int x3), (4, .int x4), (6, .int x6), (7, .int x7), (8, .int x8)] [] M := by
  unfold f_Mo_mayHave_s134 at h
  refine g_iload d_Mo_mayHave_134 7 rfl ?_
  refine g_iconst (v := 4) d_Mo_mayHave_136 (by decide) ?_
  refine g_icmp_ge (tgt := 195) d_Mo_mayHave_137 (by decide) (fun c26 => ?_) (fun c26 => ?_)
  · rw [if_pos c26] at h
    refine g_iconst (v := 4) d_Mo_mayHave_195 (by decide) ?_
    refine g_iload_n d_Mo_mayHave_196 rfl 2 rfl ?_
    refine g_imul d_Mo_mayHave_197 ?_
    refine g_iload_n d_Mo_mayHave_198 rfl 3 rfl ?_
    refine g_iadd d_Mo_mayHave_199 ?_
    refine g_istore (L' := [(8, .int ((4 * x2) + x3)), (0, .ref (ε.2.2.1 19 0)), (1, .int x1), (2, .int x2), (3, .int x3), (4, .int x4), (6, .int x6), (7, .int x7)]) d_Mo_mayHave_200 (by decide) rfl ?_
    refine g_aload_n d_Mo_mayHave_202 rfl 1 rfl ?_
    refine g_getR d_Mo_mayHave_203 fl_Mo_13 (gMo_h0 hM) rfl ?_
    refine g_iload_n d_Mo_mayHave_206 rfl 3 rfl ?_
    refine g_iload_n d_Mo_mayHave_207 rfl 4 rfl ?_
    obtain ⟨q4, hq4, h⟩ := gOb h
    refine g_callS_i (As := [.ref (ε.2.2.1 19 2), .int x2, .int x3]) (rest := []) (ct_Mo_wasDealt 19 2 197 (gMo_h2 hM) M x2 x3 _ hq4) d_Mo_mayHave_208 ca_Mo_wasDealt w_1108 rfl rfl (Nat.le_of_ble_eq_true rfl) ⟨(Nat.le_of_ble_eq_true rfl), (Nat.le_of_ble_eq_true rfl)⟩ ?_
    refine g_aload_n d_Mo_mayHave_211 rfl 1 rfl ?_
    refine g_getR d_Mo_mayHave_212 fl_Mo_13 (gMo_h0 hM) rfl ?_
    refine g_iload_n d_Mo_mayHave_215 rfl 3 rfl ?_
    refine g_iload_n d_Mo_mayHave_216 rfl 4 rfl ?_
    obtain ⟨q5, hq5, h⟩ := gOb h
    refine g_callS_i (As := [.ref (ε.2.2.1 19 2), .int x2, .int x3]) (rest := [.int q4]) (ct_Mo_holds 19 2 197 (gMo_h2 hM) M x2 x3 _ hq5) d_Mo_mayHave_217 ca_Mo_holds w_1090 rfl rfl (Nat.le_of_ble_eq_true rfl) ⟨(Nat.le_of_ble_eq_true rfl), (Nat.le_of_ble_eq_true rfl)⟩ ?_
    refine g_isub d_Mo_mayHave_220 ?_
    refine g_istore (L' := [(9, .int (q4 - q5)), (8, .int ((4 * x2) + x3)), (0, .ref (ε.2.2.1 19 0)), (1, .int x1), (2, .int x2), (3, .int x3), (4, .int x4), (6, .int x6), (7, .int x7)]) d_Mo_mayHave_221 (by decide) rfl ?_
    refine g_iconst (v := 0) d_Mo_mayHave_223 (by decide) ?_
    refine g_istore (L' := [(10, .int 0), (9, .int (q4 - q5)), (8, .int ((4 * x2) + x3)), (0, .ref (ε.2.2.1 19 0)), (1, .int x1), (2, .int x2), (3, .int x3), (4, .int x4), (6, .int x6), (7, .int x7)]) d_Mo_mayHave_224 (by decide) rfl ?_
    refine g_iconst (v := 0) d_Mo_mayHave_226 (by decide) ?_
    refine g_istore (L' := [(11, .int 0), (10, .int 0), (9, .int (q4 - q5)), (8, .int ((4 * x2) + x3)), (0, .ref (ε.2.2.1 19 0)), (1, .int x1), (2, .int x2), (3, .int x3), (4, .int x4), (6, .int x6), (7, .int x7)]) d_Mo_mayHave_227 (by decide) rfl ?_
    refine gGo_sub [4, 6, 8, 9, 10, 3, 2, 1, 0] rfl ?_
    obtain ⟨r9, h9, h8⟩ := gOm h
    cases h8
    have e9 := k2 _ rfl
    subst e9
    exact t_Mo_mayHave_l229 hM M x2 x4 x6 x7 ((4 * x2) + x3) (q4 - q5) (0, 0) _ h9
  · rw [if_neg c26] at h
    refine g_iload d_Mo_mayHave_140 6 rfl ?_
    refine g_iload d_Mo_mayHave_142 7 rfl ?_
    refine g_iload_n d_Mo_mayHave_144 rfl 1 rfl ?_
    refine g_icmp_eq (tgt := 173) d_Mo_mayHave_145 (by decide) (fun c25 => ?_) (fun c25 => ?_)
    · rw [if_pos c25] at h
      refine gGo_sub [0, 1, 2, 3, 4, 5, 7] rfl ?_
      exact t_Mo_mayHave_b173 hM M x1 x2 x3 x4 x6 x8 x7 _ h r k1 k2
    · rw [if_neg c25] at h
      refine g_iload d_Mo_mayHave_148 7 rfl ?_
      refine g_iload_n d_Mo_mayHave_150 rfl 2 rfl ?_
      refine g_icmp_eq (tgt := 173) d_Mo_mayHave_151 (by decide) (fun c24 => ?_) (fun c24 => ?_)
      · rw [if_pos c24] at h
        refine gGo_sub [0, 1, 2, 3, 4, 5, 7] rfl ?_
        exact t_Mo_mayHave_b173 hM M x1 x2 x3 x4 x6 x8 x7 _ h r k1 k2
      · rw [if_neg c24] at h
        refine g_aload_n d_Mo_mayHave_154 rfl 0 rfl ?_
        refine g_getR d_Mo_mayHave_155 fl_Mo_13 (gMo_h0 hM) rfl ?_
        refine g_sipush (v := 181) d_Mo_mayHave_158 (by decide) ?_
        refine g_iconst (v := 4) d_Mo_mayHave_161 (by decide) ?_
        refine g_iload d_Mo_mayHave_162 7 rfl ?_
        refine g_imul d_Mo_mayHave_164 ?_
        refine g_iadd d_Mo_mayHave_165 ?_
        refine g_iload_n d_Mo_mayHave_166 rfl 3 rfl ?_
        refine g_iadd d_Mo_mayHave_167 ?_
        obtain ⟨v21, hv21, h⟩ := gOb h
        refine g_iaload d_Mo_mayHave_168 (gMo_h2 hM) hv21 ?_
        refine g_iconst (v := 1) d_Mo_mayHave_169 (by decide) ?_
        refine g_icmp_ne (tgt := 177) d_Mo_mayHave_170 (by decide) (fun c23 => ?_) (fun c23 => ?_)
        · rw [if_neg c23] at h
          refine g_aload_n d_Mo_mayHave_177 rfl 0 rfl ?_
          refine g_getR d_Mo_mayHave_178 fl_Mo_13 (gMo_h0 hM) rfl ?_
          refine g_iload d_Mo_mayHave_181 7 rfl ?_
          obtain ⟨q22, hq22, h⟩ := gOb h
          refine g_callS_i (As := [.ref (ε.2.2.1 19 2), .int x8]) (rest := [.int x7]) (ct_Mo_hand 19 2 197 (gMo_h2 hM) M x8 _ hq22) d_Mo_mayHave_183 ca_Mo_hand w_1204 rfl rfl (Nat.le_of_ble_eq_true rfl) ⟨(Nat.le_of_ble_eq_true rfl), (Nat.le_of_ble_eq_true rfl)⟩ ?_
          refine gGo_sub [0, 1, 2, 3, 4, 5, 7] rfl ?_
          exact t_Mo_mayHave_b186 hM M x1 x2 x3 x4 x6 x8 q22 x7 _ h r k1 k2
        · rw [if_pos c23] at h
          refine gGo_sub [0, 1, 2, 3, 4, 5, 7] rfl ?_
          exact t_Mo_mayHave_b173 hM M x1 x2 x3 x4 x6 x8 x7 _ h r k1 k2
noncomputable def f_Mo_mayHave_l134 (M : gMem) (x1 : Int32) (x2 : Int32) (x3 : Int32) (x4 : Int32) (x6 : Int32) (s : (Int32 × Int32)) : Option (Int32 × gMem) := gLp (fun s => f_Mo_mayHave_s134 M x1 x2 x3 x4 x6 s.1 s.2) s
theorem t_Mo_mayHave_l134 {l : Launch} {ε : gEnv} (hM : gMo ε) (M : gMem) (x1 : Int32) (x2 : Int32) (x3 : Int32) (x4 : Int32) (x6 : Int32) (s : (Int32 × Int32)) (r : (Int32 × gMem)) (h : f_Mo_mayHave_l134 M x1 x2 x3 x4 x6 s = some r) : gGo l ε k_Mo_mayHave (gR 2 47) (gFn ε (some (.int r.1)) r.2) 134 [(0, .ref (ε.2.2.1 19 0)), (1, .int x1), (2, .int x2), (3, .int x3), (4, .int x4), (6, .int x6), (7, .int s.1), (8, .int s.2)] [] M :=
  g_loop _ (fun r s => gGo l ε k_Mo_mayHave (gR 2 47) (gFn ε (some (.int r.1)) r.2) 134 [(0, .ref (ε.2.2.1 19 0)), (1, .int x1), (2, .int x2), (3, .int x3), (4, .int x4), (6, .int x6), (7, .int s.1), (8, .int s.2)] [] M) (fun s res h r k1 k2 => t_Mo_mayHave_s134 hM M x1 x2 x3 x4 x6 s.1 s.2 res h r k1 k2) s r h
noncomputable def f_Mo_mayHave_b119 (M : gMem) (x1 : Int32) (x2 : Int32) (x3 : Int32) (x4 : Int32) (x7 : Int32) (s0 : Int32) (s1 : Int32) : Option ((Int32 × Int32) ⊕ (Int32 × gMem)) :=
  some (.inl ((s1 + s0), (x7 + 1)))
theorem t_Mo_mayHave_b119 {l : Launch} {ε : gEnv} (hM : gMo ε) (M : gMem) (x1 : Int32) (x2 : Int32) (x3 : Int32) (x4 : Int32) (x7 : Int32) (s0 : Int32) (s1 : Int32) (res : ((Int32 × Int32) ⊕ (Int32 × gMem))) (h : f_Mo_mayHave_b119 M x1 x2 x3 x4 x7 s0 s1 = some res) (r : (Int32 × gMem)) (k1 : ∀ s0 : (Int32 × Int32), res = .inl s0 → gGo l ε k_Mo_mayHave (gR 2 47) (gFn ε (some (.int r.1)) r.2) 91 [(0, .ref (ε.2.2.1 19 0)), (1, .int x1), (2, .int x2), (3, .int x3), (4, .int x4), (6, .int s0.1), (7, .int s0.2)] [] M) (k2 : ∀ r', res = .inr r' → r' = r) : gGo l ε k_Mo_mayHave (gR 2 47) (gFn ε (some (.int r.1)) r.2) 119 [(0, .ref (ε.2.2.1 19 0)), (1, .int x1), (2, .int x2), (3, .int x3), (4, .int x4), (7, .int x7)] [.int s0, .int s1] M := by
  unfold f_Mo_mayHave_b119 at h
  refine g_iadd d_Mo_mayHave_119 ?_
  refine g_istore (L' := [(6, .int (s1 + s0)), (0, .ref (ε.2.2.1 19 0)), (1, .int x1), (2, .int x2), (3, .int x3), (4, .int x4), (7, .int x7)]) d_Mo_mayHave_120 (by decide) rfl ?_
  refine g_iinc (v := (x7 + 1)) (L' := [(7, .int (x7 + 1)), (6, .int (s1 + s0)), (0, .ref (ε.2.2.1 19 0)), (1, .int x1), (2, .int x2), (3, .int x3), (4, .int x4)]) d_Mo_mayHave_122 (j := 6) rfl rfl (by decide) rfl ?_
  refine g_goto (tgt := 91) d_Mo_mayHave_125 (by decide) ?_
  refine gGo_sub [2, 3, 4, 5, 6, 1, 0] rfl ?_
  obtain rfl := Option.some.inj h
  exact k1 ((s1 + s0), (x7 + 1)) rfl
noncomputable def f_Mo_mayHave_s91 (M : gMem) (x1 : Int32) (x2 : Int32) (x3 : Int32) (x4 : Int32) (x6 : Int32) (x7 : Int32) : Option ((Int32 × Int32) ⊕ (Int32 × gMem)) :=
  if 4 ≤ x7 then
    (f_Mo_mayHave_l134 M x1 x2 x3 x4 x6 (0, 0)).map .inr
  else
    if x7 = x1 then
      f_Mo_mayHave_b119 M x1 x2 x3 x4 x7 0 x6
    else
      (f_Mo_holds 19 2 197 M x7 x3).bind fun q27 =>
      f_Mo_mayHave_b119 M x1 x2 x3 x4 x7 q27 x6
theorem t_Mo_mayHave_s91 {l : Launch} {ε : gEnv} (hM : gMo ε) (M : gMem) (x1 : Int32) (x2 : Int32) (x3 : Int32) (x4 : Int32) (x6 : Int32) (x7 : Int32) (res : ((Int32 × Int32) ⊕ (Int32 × gMem))) (h : f_Mo_mayHave_s91 M x1 x2 x3 x4 x6 x7 = some res) (r : (Int32 × gMem)) (k1 : ∀ s0 : (Int32 × Int32), res = .inl s0 → gGo l ε k_Mo_mayHave (gR 2 47) (gFn ε (some (.int r.1)) r.2) 91 [(0, .ref (ε.2.2.1 19 0)), (1, .int x1), (2, .int x2), (3, .int x3), (4, .int x4), (6, .int s0.1), (7, .int s0.2)] [] M) (k2 : ∀ r', res = .inr r' → r' = r) : gGo l ε k_Mo_mayHave (gR 2 47) (gFn ε (some (.int r.1)) r.2) 91 [(0, .ref (ε.2.2.1 19 0)), (1, .int x1), (2, .int x2), (3, .int x3), (4, .int x4), (6, .int x6), (7, .int x7)] [] M := by
  unfold f_Mo_mayHave_s91 at h
  refine g_iload d_Mo_mayHave_91 6 rfl ?_
  refine g_iconst (v := 4) d_Mo_mayHave_93 (by decide) ?_
  refine g_icmp_ge (tgt := 128) d_Mo_mayHave_94 (by decide) (fun c29 => ?_) (fun c29 => ?_)
  · rw [if_pos c29] at h
    refine g_iconst (v := 0) d_Mo_mayHave_128 (by decide) ?_
    refine g_istore (L' := [(7, .int 0), (0, .ref (ε.2.2.1 19 0)), (1, .int x1), (2, .int x2), (3, .int x3), (4, .int x4), (6, .int x6)]) d_Mo_mayHave_129 (by decide) rfl ?_
    refine g_iconst (v := 0) d_Mo_mayHave_131 (by decide) ?_
    refine g_istore (L' := [(8, .int 0), (7, .int 0), (0, .ref (ε.2.2.1 19 0)), (1, .int x1), (2, .int x2), (3, .int x3), (4, .int x4), (6, .int x6)]) d_Mo_mayHave_132 (by decide) rfl ?_
    refine gGo_sub [2, 3, 4, 5, 6, 7, 1, 0] rfl ?_
    obtain ⟨r9, h9, h8⟩ := gOm h
    cases h8
    have e9 := k2 _ rfl
    subst e9
    exact t_Mo_mayHave_l134 hM M x1 x2 x3 x4 x6 (0, 0) _ h9
  · rw [if_neg c29] at h
    refine g_iload d_Mo_mayHave_97 5 rfl ?_
    refine g_iload d_Mo_mayHave_99 6 rfl ?_
    refine g_iload_n d_Mo_mayHave_101 rfl 1 rfl ?_
    refine g_icmp_ne (tgt := 109) d_Mo_mayHave_102 (by decide) (fun c28 => ?_) (fun c28 => ?_)
    · rw [if_neg c28] at h
      refine g_aload_n d_Mo_mayHave_109 rfl 0 rfl ?_
      refine g_getR d_Mo_mayHave_110 fl_Mo_13 (gMo_h0 hM) rfl ?_
      refine g_iload d_Mo_mayHave_113 6 rfl ?_
      refine g_iload_n d_Mo_mayHave_115 rfl 3 rfl ?_
      obtain ⟨q27, hq27, h⟩ := gOb h
      refine g_callS_i (As := [.ref (ε.2.2.1 19 2), .int x7, .int x3]) (rest := [.int x6]) (ct_Mo_holds 19 2 197 (gMo_h2 hM) M x7 x3 _ hq27) d_Mo_mayHave_116 ca_Mo_holds w_1090 rfl rfl (Nat.le_of_ble_eq_true rfl) ⟨(Nat.le_of_ble_eq_true rfl), (Nat.le_of_ble_eq_true rfl)⟩ ?_
      refine gGo_sub [0, 1, 2, 3, 4, 6] rfl ?_
      exact t_Mo_mayHave_b119 hM M x1 x2 x3 x4 x7 q27 x6 _ h r k1 k2
    · rw [if_pos c28] at h
      refine g_iconst (v := 0) d_Mo_mayHave_105 (by decide) ?_
      refine g_goto (tgt := 119) d_Mo_mayHave_106 (by decide) ?_
      refine gGo_sub [0, 1, 2, 3, 4, 6] rfl ?_
      exact t_Mo_mayHave_b119 hM M x1 x2 x3 x4 x7 0 x6 _ h r k1 k2
noncomputable def f_Mo_mayHave_l91 (M : gMem) (x1 : Int32) (x2 : Int32) (x3 : Int32) (x4 : Int32) (s : (Int32 × Int32)) : Option (Int32 × gMem) := gLp (fun s => f_Mo_mayHave_s91 M x1 x2 x3 x4 s.1 s.2) s
theorem t_Mo_mayHave_l91 {l : Launch} {ε : gEnv} (hM : gMo ε) (M : gMem) (x1 : Int32) (x2 : Int32) (x3 : Int32) (x4 : Int32) (s : (Int32 × Int32)) (r : (Int32 × gMem)) (h : f_Mo_mayHave_l91 M x1 x2 x3 x4 s = some r) : gGo l ε k_Mo_mayHave (gR 2 47) (gFn ε (some (.int r.1)) r.2) 91 [(0, .ref (ε.2.2.1 19 0)), (1, .int x1), (2, .int x2), (3, .int x3), (4, .int x4), (6, .int s.1), (7, .int s.2)] [] M :=
  g_loop _ (fun r s => gGo l ε k_Mo_mayHave (gR 2 47) (gFn ε (some (.int r.1)) r.2) 91 [(0, .ref (ε.2.2.1 19 0)), (1, .int x1), (2, .int x2), (3, .int x3), (4, .int x4), (6, .int s.1), (7, .int s.2)] [] M) (fun s res h r k1 k2 => t_Mo_mayHave_s91 hM M x1 x2 x3 x4 s.1 s.2 res h r k1 k2) s r h
noncomputable def f_Mo_mayHave_b77 (M : gMem) (x1 : Int32) (x2 : Int32) (x3 : Int32) (x4 : Int32) (s0 : Int32) : Option (Int32 × gMem) :=
  (f_Mo_refused M s0).bind fun q3 =>
  if q3.1 = 0 then
    f_Mo_mayHave_l91 q3.2 x1 x2 x3 x4 (0, 0)
  else
    some (0, q3.2)
theorem t_Mo_mayHave_b77 {l : Launch} {ε : gEnv} (hM : gMo ε) (M : gMem) (x1 : Int32) (x2 : Int32) (x3 : Int32) (x4 : Int32) (s0 : Int32) (r : (Int32 × gMem)) (h : f_Mo_mayHave_b77 M x1 x2 x3 x4 s0 = some r) : gGo l ε k_Mo_mayHave (gR 2 47) (gFn ε (some (.int r.1)) r.2) 77 [(0, .ref (ε.2.2.1 19 0)), (1, .int x1), (2, .int x2), (3, .int x3), (4, .int x4)] [.int s0, .ref (ε.2.2.1 19 0)] M := by
  unfold f_Mo_mayHave_b77 at h
  obtain ⟨q3, hq3, h⟩ := gOb h
  refine g_callV_i (As := [.int s0]) (rest := []) (ct_Mo_refused hM M s0 _ hq3) d_Mo_mayHave_77 ca_Mo_refused w_1034 (gMo_h0 hM) rfl rfl rfl (Nat.le_of_ble_eq_true rfl) ⟨(Nat.le_of_ble_eq_true rfl), (Nat.le_of_ble_eq_true rfl)⟩ ?_
  refine g_if_eq (tgt := 85) d_Mo_mayHave_80 (by decide) (fun c30 => ?_) (fun c30 => ?_)
  · rw [if_pos c30] at h
    refine g_iconst (v := 0) d_Mo_mayHave_85 (by decide) ?_
    refine g_istore (L' := [(6, .int 0), (0, .ref (ε.2.2.1 19 0)), (1, .int x1), (2, .int x2), (3, .int x3), (4, .int x4)]) d_Mo_mayHave_86 (by decide) rfl ?_
    refine g_iconst (v := 0) d_Mo_mayHave_88 (by decide) ?_
    refine g_istore (L' := [(7, .int 0), (6, .int 0), (0, .ref (ε.2.2.1 19 0)), (1, .int x1), (2, .int x2), (3, .int x3), (4, .int x4)]) d_Mo_mayHave_89 (by decide) rfl ?_
    refine gGo_sub [2, 3, 4, 5, 6, 1, 0] rfl ?_
    exact t_Mo_mayHave_l91 hM q3.2 x1 x2 x3 x4 (0, 0) _ h
  · rw [if_neg c30] at h
    refine g_iconst (v := 0) d_Mo_mayHave_83 (by decide) ?_
    obtain rfl := Option.some.inj h
    exact g_iret d_Mo_mayHave_84 rfl
noncomputable def f_Mo_mayHave_b41 (M : gMem) (x1 : Int32) (x2 : Int32) (x3 : Int32) (x4 : Int32) (s0 : Int32) : Option (Int32 × gMem) :=
  if s0 = 0 then
    f_Mo_mayHave_b77 M x1 x2 x3 x4 1
  else
    if x1 = x2 then
      f_Mo_mayHave_b77 M x1 x2 x3 x4 2
    else
      (gRd 197 (M 19 2) 1).bind fun v2 =>
      if v2 = 2 then
        f_Mo_mayHave_b77 M x1 x2 x3 x4 0
      else
        f_Mo_mayHave_b77 M x1 x2 x3 x4 3
theorem t_Mo_mayHave_b41 {l : Launch} {ε : gEnv} (hM : gMo ε) (M : gMem) (x1 : Int32) (x2 : Int32) (x3 : Int32) (x4 : Int32) (s0 : Int32) (r : (Int32 × gMem)) (h : f_Mo_mayHave_b41 M x1 x2 x3 x4 s0 = some r) : gGo l ε k_Mo_mayHave (gR 2 47) (gFn ε (some (.int r.1)) r.2) 41 [(0, .ref (ε.2.2.1 19 0)), (1, .int x1), (2, .int x2), (3, .int x3), (4, .int x4)] [.int s0] M := by
  unfold f_Mo_mayHave_b41 at h
  refine g_istore (L' := [(5, .int s0), (0, .ref (ε.2.2.1 19 0)), (1, .int x1), (2, .int x2), (3, .int x3), (4, .int x4)]) d_Mo_mayHave_41 (by decide) rfl ?_
  refine g_aload_n d_Mo_mayHave_43 rfl 1 rfl ?_
  refine g_iload d_Mo_mayHave_44 0 rfl ?_
  refine g_if_ne (tgt := 53) d_Mo_mayHave_46 (by decide) (fun c33 => ?_) (fun c33 => ?_)
  · rw [if_neg c33] at h
    refine g_iload_n d_Mo_mayHave_53 rfl 2 rfl ?_
    refine g_iload_n d_Mo_mayHave_54 rfl 3 rfl ?_
    refine g_icmp_ne (tgt := 62) d_Mo_mayHave_55 (by decide) (fun c32 => ?_) (fun c32 => ?_)
    · rw [if_neg c32] at h
      refine g_aload_n d_Mo_mayHave_62 rfl 1 rfl ?_
      refine g_getR d_Mo_mayHave_63 fl_Mo_13 (gMo_h0 hM) rfl ?_
      refine g_iconst (v := 1) d_Mo_mayHave_66 (by decide) ?_
      obtain ⟨v2, hv2, h⟩ := gOb h
      refine g_iaload d_Mo_mayHave_67 (gMo_h2 hM) hv2 ?_
      refine g_iconst (v := 2) d_Mo_mayHave_68 (by decide) ?_
      refine g_icmp_ne (tgt := 76) d_Mo_mayHave_69 (by decide) (fun c31 => ?_) (fun c31 => ?_)
      · rw [if_neg c31] at h
        refine g_iconst (v := 3) d_Mo_mayHave_76 (by decide) ?_
        refine gGo_sub [1, 2, 3, 4, 5] rfl ?_
        exact t_Mo_mayHave_b77 hM M x1 x2 x3 x4 3 _ h
      · rw [if_pos c31] at h
        refine g_iconst (v := 0) d_Mo_mayHave_72 (by decide) ?_
        refine g_goto (tgt := 77) d_Mo_mayHave_73 (by decide) ?_
        refine gGo_sub [1, 2, 3, 4, 5] rfl ?_
        exact t_Mo_mayHave_b77 hM M x1 x2 x3 x4 0 _ h
    · rw [if_pos c32] at h
      refine g_iconst (v := 2) d_Mo_mayHave_58 (by decide) ?_
      refine g_goto (tgt := 77) d_Mo_mayHave_59 (by decide) ?_
      refine gGo_sub [1, 2, 3, 4, 5] rfl ?_
      exact t_Mo_mayHave_b77 hM M x1 x2 x3 x4 2 _ h
  · rw [if_pos c33] at h
    refine g_iconst (v := 1) d_Mo_mayHave_49 (by decide) ?_
    refine g_goto (tgt := 77) d_Mo_mayHave_50 (by decide) ?_
    refine gGo_sub [1, 2, 3, 4, 5] rfl ?_
    exact t_Mo_mayHave_b77 hM M x1 x2 x3 x4 1 _ h
noncomputable def f_Mo_mayHave_b40 (M : gMem) (x1 : Int32) (x2 : Int32) (x3 : Int32) (x4 : Int32) : Option (Int32 × gMem) :=
  f_Mo_mayHave_b41 M x1 x2 x3 x4 0
theorem t_Mo_mayHave_b40 {l : Launch} {ε : gEnv} (hM : gMo ε) (M : gMem) (x1 : Int32) (x2 : Int32) (x3 : Int32) (x4 : Int32) (r : (Int32 × gMem)) (h : f_Mo_mayHave_b40 M x1 x2 x3 x4 = some r) : gGo l ε k_Mo_mayHave (gR 2 47) (gFn ε (some (.int r.1)) r.2) 40 [(0, .ref (ε.2.2.1 19 0)), (1, .int x1), (2, .int x2), (3, .int x3), (4, .int x4)] [] M := by
  unfold f_Mo_mayHave_b40 at h
  refine g_iconst (v := 0) d_Mo_mayHave_40 (by decide) ?_
  exact t_Mo_mayHave_b41 hM M x1 x2 x3 x4 0 _ h
noncomputable def f_Mo_mayHave (M : gMem) (a0 : Int32) (a1 : Int32) (a2 : Int32) (a3 : Int32) : Option (Int32 × gMem) :=
  (f_Mo_in (Int32.toInt64 a0) 0 (3)).bind fun q1 =>
  if q1 = 0 then
    f_Mo_mayHave_b40 M a0 a1 a2 a3
  else
    (f_Mo_in (Int32.toInt64 a1) 0 (3)).bind fun q34 =>
    if q34 = 0 then
      f_Mo_mayHave_b40 M a0 a1 a2 a3
    else
      (f_Mo_in (Int32.toInt64 a2) 0 (3)).bind fun q35 =>
      if q35 = 0 then
        f_Mo_mayHave_b40 M a0 a1 a2 a3
      else
        f_Mo_mayHave_b41 M a0 a1 a2 a3 1
theorem t_Mo_mayHave {l : Launch} {ε : gEnv} (hM : gMo ε) (M : gMem) (a0 : Int32) (a1 : Int32) (a2 : Int32) (a3 : Int32) (r : (Int32 × gMem)) (h : f_Mo_mayHave M a0 a1 a2 a3 = some r) : gGo l ε k_Mo_mayHave (gR 2 47) (gFn ε (some (.int r.1)) r.2) 0 [(0, .ref (ε.2.2.1 19 0)), (1, .int a0), (2, .int a1), (3, .int a2), (4, .int a3)] [] M := by
  unfold f_Mo_mayHave at h
  refine g_iload_n d_Mo_mayHave_0 rfl 1 rfl ?_
  refine g_i2l d_Mo_mayHave_1 ?_
  refine g_lconst (v := 0) d_Mo_mayHave_2 (by decide) ?_
  refine g_ldc2 d_Mo_mayHave_3 w_1154 ?_
  obtain ⟨q1, hq1, h⟩ := gOb h
  refine g_callS_i (As := [.long (Int32.toInt64 a0), .long 0, .long (3)]) (rest := []) (ct_Mo_in M (Int32.toInt64 a0) 0 (3) _ hq1) d_Mo_mayHave_6 ca_Mo_in w_1031 rfl rfl (Nat.le_of_ble_eq_true rfl) ⟨(Nat.le_of_ble_eq_true rfl), (Nat.le_of_ble_eq_true rfl)⟩ ?_
  refine g_if_eq (tgt := 40) d_Mo_mayHave_9 (by decide) (fun c38 => ?_) (fun c38 => ?_)
  · rw [if_pos c38] at h
    exact t_Mo_mayHave_b40 hM M a0 a1 a2 a3 _ h
  · rw [if_neg c38] at h
    refine g_iload_n d_Mo_mayHave_12 rfl 2 rfl ?_
    refine g_i2l d_Mo_mayHave_13 ?_
    refine g_lconst (v := 0) d_Mo_mayHave_14 (by decide) ?_
    refine g_ldc2 d_Mo_mayHave_15 w_1154 ?_
    obtain ⟨q34, hq34, h⟩ := gOb h
    refine g_callS_i (As := [.long (Int32.toInt64 a1), .long 0, .long (3)]) (rest := []) (ct_Mo_in M (Int32.toInt64 a1) 0 (3) _ hq34) d_Mo_mayHave_18 ca_Mo_in w_1031 rfl rfl (Nat.le_of_ble_eq_true rfl) ⟨(Nat.le_of_ble_eq_true rfl), (Nat.le_of_ble_eq_true rfl)⟩ ?_
    refine g_if_eq (tgt := 40) d_Mo_mayHave_21 (by decide) (fun c37 => ?_) (fun c37 => ?_)
    · rw [if_pos c37] at h
      exact t_Mo_mayHave_b40 hM M a0 a1 a2 a3 _ h
    · rw [if_neg c37] at h
      refine g_iload_n d_Mo_mayHave_24 rfl 3 rfl ?_
      refine g_i2l d_Mo_mayHave_25 ?_
      refine g_lconst (v := 0) d_Mo_mayHave_26 (by decide) ?_
      refine g_ldc2 d_Mo_mayHave_27 w_1154 ?_
      obtain ⟨q35, hq35, h⟩ := gOb h
      refine g_callS_i (As := [.long (Int32.toInt64 a2), .long 0, .long (3)]) (rest := []) (ct_Mo_in M (Int32.toInt64 a2) 0 (3) _ hq35) d_Mo_mayHave_30 ca_Mo_in w_1031 rfl rfl (Nat.le_of_ble_eq_true rfl) ⟨(Nat.le_of_ble_eq_true rfl), (Nat.le_of_ble_eq_true rfl)⟩ ?_
      refine g_if_eq (tgt := 40) d_Mo_mayHave_33 (by decide) (fun c36 => ?_) (fun c36 => ?_)
      · rw [if_pos c36] at h
        exact t_Mo_mayHave_b40 hM M a0 a1 a2 a3 _ h
      · rw [if_neg c36] at h
        refine g_iconst (v := 1) d_Mo_mayHave_36 (by decide) ?_
        refine g_goto (tgt := 41) d_Mo_mayHave_37 (by decide) ?_
        exact t_Mo_mayHave_b41 hM M a0 a1 a2 a3 1 _ h
theorem ct_Mo_mayHave {l : Launch} {ε : gEnv} (hM : gMo ε) (M : gMem) (a0 : Int32) (a1 : Int32) (a2 : Int32) (a3 : Int32) (r : (Int32 × gMem)) (h : f_Mo_mayHave M a0 a1 a2 a3 = some r) : gCt l ε k_Mo_mayHave 2 47 [.ref (ε.2.2.1 19 0), .int a0, .int a1, .int a2, .int a3] M (some (.int r.1)) r.2 :=
  gCt_of (by decide) (Nat.le_of_ble_eq_true rfl) rfl (t_Mo_mayHave hM M a0 a1 a2 a3 r h)
abbrev k_Mo_isNearEnd : gMD := (⟨"DropSignalsModel", "isNearEnd", "()Z"⟩, prog_11_method_55_code, 3, (some .boolean))
theorem w_1213 : Cond.instanceMethod ⟨"DropSignalsModel", "isNearEnd", "()Z"⟩ ∈ gWs := gWs_in (i := 1213) (by decide +kernel) rfl
theorem w_26 : Cond.selects "DropSignalsModel" ⟨"DropSignalsModel", "isNearEnd", "()Z"⟩ ⟨"DropSignalsModel", "isNearEnd", "()Z"⟩ ∈ gWs := gWs_in (i := 26) (by decide +kernel) rfl
set_option maxRecDepth 100000 in
theorem ca_Mo_isNearEnd : gCaV k_Mo_isNearEnd 0 := ⟨⟨gWs_in (i := 1214) rfl rfl, w_43, by decide, by decide, by decide +kernel⟩, w_1213, w_26⟩
theorem d_Mo_isNearEnd_0 : decode prog_11_method_55_code 0 = .ok (.aload_n 0, 1) := by decide +kernel
theorem d_Mo_isNearEnd_1 : decode prog_11_method_55_code 1 = .ok (.getfield 13, 3) := by decide +kernel
theorem d_Mo_isNearEnd_4 : decode prog_11_method_55_code 4 = .ok (.iconst 1, 1) := by decide +kernel
theorem d_Mo_isNearEnd_5 : decode prog_11_method_55_code 5 = .ok (.iaload, 1) := by decide +kernel
theorem d_Mo_isNearEnd_6 : decode prog_11_method_55_code 6 = .ok (.iconst 2, 1) := by decide +kernel
theorem d_Mo_isNearEnd_7 : decode prog_11_method_55_code 7 = .ok (.if_icmp .ne 7, 3) := by decide +kernel
theorem d_Mo_isNearEnd_10 : decode prog_11_method_55_code 10 = .ok (.iconst 1, 1) := by decide +kernel
theorem d_Mo_isNearEnd_11 : decode prog_11_method_55_code 11 = .ok (.goto 4, 3) := by decide +kernel
theorem d_Mo_isNearEnd_14 : decode prog_11_method_55_code 14 = .ok (.iconst 0, 1) := by decide +kernel
theorem d_Mo_isNearEnd_15 : decode prog_11_method_55_code 15 = .ok (.istore_n 1, 1) := by decide +kernel
theorem d_Mo_isNearEnd_16 : decode prog_11_method_55_code 16 = .ok (.iconst 0, 1) := by decide +kernel
theorem d_Mo_isNearEnd_17 : decode prog_11_method_55_code 17 = .ok (.istore_n 2, 1) := by decide +kernel
theorem d_Mo_isNearEnd_18 : decode prog_11_method_55_code 18 = .ok (.iload_n 2, 1) := by decide +kernel
theorem d_Mo_isNearEnd_19 : decode prog_11_method_55_code 19 = .ok (.iconst 4, 1) := by decide +kernel
theorem d_Mo_isNearEnd_20 : decode prog_11_method_55_code 20 = .ok (.if_icmp .ge 31, 3) := by decide +kernel
theorem d_Mo_isNearEnd_23 : decode prog_11_method_55_code 23 = .ok (.iload_n 1, 1) := by decide +kernel
theorem d_Mo_isNearEnd_24 : decode prog_11_method_55_code 24 = .ok (.ifCond .eq 19, 3) := by decide +kernel
theorem d_Mo_isNearEnd_27 : decode prog_11_method_55_code 27 = .ok (.aload_n 0, 1) := by decide +kernel
theorem d_Mo_isNearEnd_28 : decode prog_11_method_55_code 28 = .ok (.getfield 13, 3) := by decide +kernel
theorem d_Mo_isNearEnd_31 : decode prog_11_method_55_code 31 = .ok (.iload_n 2, 1) := by decide +kernel
theorem d_Mo_isNearEnd_32 : decode prog_11_method_55_code 32 = .ok (.invokestatic 201, 3) := by decide +kernel
theorem d_Mo_isNearEnd_35 : decode prog_11_method_55_code 35 = .ok (.iconst 3, 1) := by decide +kernel
theorem d_Mo_isNearEnd_36 : decode prog_11_method_55_code 36 = .ok (.if_icmp .gt 7, 3) := by decide +kernel
theorem d_Mo_isNearEnd_39 : decode prog_11_method_55_code 39 = .ok (.iconst 1, 1) := by decide +kernel
theorem d_Mo_isNearEnd_40 : decode prog_11_method_55_code 40 = .ok (.goto 4, 3) := by decide +kernel
theorem d_Mo_isNearEnd_43 : decode prog_11_method_55_code 43 = .ok (.iconst 0, 1) := by decide +kernel
theorem d_Mo_isNearEnd_44 : decode prog_11_method_55_code 44 = .ok (.istore_n 1, 1) := by decide +kernel
theorem d_Mo_isNearEnd_45 : decode prog_11_method_55_code 45 = .ok (.iinc 2 1, 3) := by decide +kernel
theorem d_Mo_isNearEnd_48 : decode prog_11_method_55_code 48 = .ok (.goto (-30), 3) := by decide +kernel
theorem d_Mo_isNearEnd_51 : decode prog_11_method_55_code 51 = .ok (.iload_n 1, 1) := by decide +kernel
theorem d_Mo_isNearEnd_52 : decode prog_11_method_55_code 52 = .ok (.ireturn, 1) := by decide +kernel
noncomputable def f_Mo_isNearEnd_b44 (M : gMem) (x2 : Int32) (s0 : Int32) : Option ((Int32 × Int32) ⊕ Int32) :=
  some (.inl (s0, (x2 + 1)))
theorem t_Mo_isNearEnd_b44 {l : Launch} {ε : gEnv} (hM : gMo ε) (M : gMem) (x2 : Int32) (s0 : Int32) (res : ((Int32 × Int32) ⊕ Int32)) (h : f_Mo_isNearEnd_b44 M x2 s0 = some res) (r : Int32) (k1 : ∀ s0 : (Int32 × Int32), res = .inl s0 → gGo l ε k_Mo_isNearEnd (gR 2 47) (gFn ε (some (.int r)) M) 18 [(0, .ref (ε.2.2.1 19 0)), (1, .int s0.1), (2, .int s0.2)] [] M) (k2 : ∀ r', res = .inr r' → r' = r) : gGo l ε k_Mo_isNearEnd (gR 2 47) (gFn ε (some (.int r)) M) 44 [(0, .ref (ε.2.2.1 19 0)), (2, .int x2)] [.int s0] M := by
  unfold f_Mo_isNearEnd_b44 at h
  refine g_istore_n (L' := [(1, .int s0), (0, .ref (ε.2.2.1 19 0)), (2, .int x2)]) d_Mo_isNearEnd_44 rfl (by decide) rfl ?_
  refine g_iinc (v := (x2 + 1)) (L' := [(2, .int (x2 + 1)), (1, .int s0), (0, .ref (ε.2.2.1 19 0))]) d_Mo_isNearEnd_45 (j := 2) rfl rfl (by decide) rfl ?_
  refine g_goto (tgt := 18) d_Mo_isNearEnd_48 (by decide) ?_
  refine gGo_sub [2, 1, 0] rfl ?_
  obtain rfl := Option.some.inj h
  exact k1 (s0, (x2 + 1)) rfl
noncomputable def f_Mo_isNearEnd_b43 (M : gMem) (x2 : Int32) : Option ((Int32 × Int32) ⊕ Int32) :=
  f_Mo_isNearEnd_b44 M x2 0
theorem t_Mo_isNearEnd_b43 {l : Launch} {ε : gEnv} (hM : gMo ε) (M : gMem) (x2 : Int32) (res : ((Int32 × Int32) ⊕ Int32)) (h : f_Mo_isNearEnd_b43 M x2 = some res) (r : Int32) (k1 : ∀ s0 : (Int32 × Int32), res = .inl s0 → gGo l ε k_Mo_isNearEnd (gR 2 47) (gFn ε (some (.int r)) M) 18 [(0, .ref (ε.2.2.1 19 0)), (1, .int s0.1), (2, .int s0.2)] [] M) (k2 : ∀ r', res = .inr r' → r' = r) : gGo l ε k_Mo_isNearEnd (gR 2 47) (gFn ε (some (.int r)) M) 43 [(0, .ref (ε.2.2.1 19 0)), (2, .int x2)] [] M := by
  unfold f_Mo_isNearEnd_b43 at h
  refine g_iconst (v := 0) d_Mo_isNearEnd_43 (by decide) ?_
  exact t_Mo_isNearEnd_b44 hM M x2 0 _ h r k1 k2
noncomputable def f_Mo_isNearEnd_s18 (M : gMem) (x1 : Int32) (x2 : Int32) : Option ((Int32 × Int32) ⊕ Int32) :=
  if 4 ≤ x2 then
    (gBl x1).bind fun _ =>
    some (.inr x1)
  else
    if x1 = 0 then
      f_Mo_isNearEnd_b43 M x2
    else
      (f_Mo_hand 19 2 197 M x2).bind fun q3 =>
      if 3 < q3 then
        f_Mo_isNearEnd_b43 M x2
      else
        f_Mo_isNearEnd_b44 M x2 1
theorem t_Mo_isNearEnd_s18 {l : Launch} {ε : gEnv} (hM : gMo ε) (M : gMem) (x1 : Int32) (x2 : Int32) (res : ((Int32 × Int32) ⊕ Int32)) (h : f_Mo_isNearEnd_s18 M x1 x2 = some res) (r : Int32) (k1 : ∀ s0 : (Int32 × Int32), res = .inl s0 → gGo l ε k_Mo_isNearEnd (gR 2 47) (gFn ε (some (.int r)) M) 18 [(0, .ref (ε.2.2.1 19 0)), (1, .int s0.1), (2, .int s0.2)] [] M) (k2 : ∀ r', res = .inr r' → r' = r) : gGo l ε k_Mo_isNearEnd (gR 2 47) (gFn ε (some (.int r)) M) 18 [(0, .ref (ε.2.2.1 19 0)), (1, .int x1), (2, .int x2)] [] M := by
  unfold f_Mo_isNearEnd_s18 at h
  refine g_iload_n d_Mo_isNearEnd_18 rfl 2 rfl ?_
  refine g_iconst (v := 4) d_Mo_isNearEnd_19 (by decide) ?_
  refine g_icmp_ge (tgt := 51) d_Mo_isNearEnd_20 (by decide) (fun c6 => ?_) (fun c6 => ?_)
  · rw [if_pos c6] at h
    refine g_iload_n d_Mo_isNearEnd_51 rfl 1 rfl ?_
    obtain ⟨z2, hz2, h⟩ := gOb h
    obtain rfl := Option.some.inj h
    have e9 := k2 _ rfl
    subst e9
    exact g_zretO d_Mo_isNearEnd_52 rfl hz2
  · rw [if_neg c6] at h
    refine g_iload_n d_Mo_isNearEnd_23 rfl 1 rfl ?_
    refine g_if_eq (tgt := 43) d_Mo_isNearEnd_24 (by decide) (fun c5 => ?_) (fun c5 => ?_)
    · rw [if_pos c5] at h
      refine gGo_sub [0, 2] rfl ?_
      exact t_Mo_isNearEnd_b43 hM M x2 _ h r k1 k2
    · rw [if_neg c5] at h
      refine g_aload_n d_Mo_isNearEnd_27 rfl 0 rfl ?_
      refine g_getR d_Mo_isNearEnd_28 fl_Mo_13 (gMo_h0 hM) rfl ?_
      refine g_iload_n d_Mo_isNearEnd_31 rfl 2 rfl ?_
      obtain ⟨q3, hq3, h⟩ := gOb h
      refine g_callS_i (As := [.ref (ε.2.2.1 19 2), .int x2]) (rest := []) (ct_Mo_hand 19 2 197 (gMo_h2 hM) M x2 _ hq3) d_Mo_isNearEnd_32 ca_Mo_hand w_1204 rfl rfl (Nat.le_of_ble_eq_true rfl) ⟨(Nat.le_of_ble_eq_true rfl), (Nat.le_of_ble_eq_true rfl)⟩ ?_
      refine g_iconst (v := 3) d_Mo_isNearEnd_35 (by decide) ?_
      refine g_icmp_gt (tgt := 43) d_Mo_isNearEnd_36 (by decide) (fun c4 => ?_) (fun c4 => ?_)
      · rw [if_pos c4] at h
        refine gGo_sub [0, 2] rfl ?_
        exact t_Mo_isNearEnd_b43 hM M x2 _ h r k1 k2
      · rw [if_neg c4] at h
        refine g_iconst (v := 1) d_Mo_isNearEnd_39 (by decide) ?_
        refine g_goto (tgt := 44) d_Mo_isNearEnd_40 (by decide) ?_
        refine gGo_sub [0, 2] rfl ?_
        exact t_Mo_isNearEnd_b44 hM M x2 1 _ h r k1 k2
noncomputable def f_Mo_isNearEnd_l18 (M : gMem) (s : (Int32 × Int32)) : Option Int32 := gLp (fun s => f_Mo_isNearEnd_s18 M s.1 s.2) s
theorem t_Mo_isNearEnd_l18 {l : Launch} {ε : gEnv} (hM : gMo ε) (M : gMem) (s : (Int32 × Int32)) (r : Int32) (h : f_Mo_isNearEnd_l18 M s = some r) : gGo l ε k_Mo_isNearEnd (gR 2 47) (gFn ε (some (.int r)) M) 18 [(0, .ref (ε.2.2.1 19 0)), (1, .int s.1), (2, .int s.2)] [] M :=
  g_loop _ (fun r s => gGo l ε k_Mo_isNearEnd (gR 2 47) (gFn ε (some (.int r)) M) 18 [(0, .ref (ε.2.2.1 19 0)), (1, .int s.1), (2, .int s.2)] [] M) (fun s res h r k1 k2 => t_Mo_isNearEnd_s18 hM M s.1 s.2 res h r k1 k2) s r h
noncomputable def f_Mo_isNearEnd_b15 (M : gMem) (s0 : Int32) : Option Int32 :=
  f_Mo_isNearEnd_l18 M (s0, 0)
theorem t_Mo_isNearEnd_b15 {l : Launch} {ε : gEnv} (hM : gMo ε) (M : gMem) (s0 : Int32) (r : Int32) (h : f_Mo_isNearEnd_b15 M s0 = some r) : gGo l ε k_Mo_isNearEnd (gR 2 47) (gFn ε (some (.int r)) M) 15 [(0, .ref (ε.2.2.1 19 0))] [.int s0] M := by
  unfold f_Mo_isNearEnd_b15 at h
  refine g_istore_n (L' := [(1, .int s0), (0, .ref (ε.2.2.1 19 0))]) d_Mo_isNearEnd_15 rfl (by decide) rfl ?_
  refine g_iconst (v := 0) d_Mo_isNearEnd_16 (by decide) ?_
  refine g_istore_n (L' := [(2, .int 0), (1, .int s0), (0, .ref (ε.2.2.1 19 0))]) d_Mo_isNearEnd_17 rfl (by decide) rfl ?_
  refine gGo_sub [2, 1, 0] rfl ?_
  exact t_Mo_isNearEnd_l18 hM M (s0, 0) _ h
noncomputable def f_Mo_isNearEnd (M : gMem) : Option Int32 :=
  (gRd 197 (M 19 2) 1).bind fun v1 =>
  if v1 = 2 then
    f_Mo_isNearEnd_b15 M 1
  else
    f_Mo_isNearEnd_b15 M 0
theorem t_Mo_isNearEnd {l : Launch} {ε : gEnv} (hM : gMo ε) (M : gMem) (r : Int32) (h : f_Mo_isNearEnd M = some r) : gGo l ε k_Mo_isNearEnd (gR 2 47) (gFn ε (some (.int r)) M) 0 [(0, .ref (ε.2.2.1 19 0))] [] M := by
  unfold f_Mo_isNearEnd at h
  refine g_aload_n d_Mo_isNearEnd_0 rfl 0 rfl ?_
  refine g_getR d_Mo_isNearEnd_1 fl_Mo_13 (gMo_h0 hM) rfl ?_
  refine g_iconst (v := 1) d_Mo_isNearEnd_4 (by decide) ?_
  obtain ⟨v1, hv1, h⟩ := gOb h
  refine g_iaload d_Mo_isNearEnd_5 (gMo_h2 hM) hv1 ?_
  refine g_iconst (v := 2) d_Mo_isNearEnd_6 (by decide) ?_
  refine g_icmp_ne (tgt := 14) d_Mo_isNearEnd_7 (by decide) (fun c7 => ?_) (fun c7 => ?_)
  · rw [if_neg c7] at h
    refine g_iconst (v := 0) d_Mo_isNearEnd_14 (by decide) ?_
    exact t_Mo_isNearEnd_b15 hM M 0 _ h
  · rw [if_pos c7] at h
    refine g_iconst (v := 1) d_Mo_isNearEnd_10 (by decide) ?_
    refine g_goto (tgt := 15) d_Mo_isNearEnd_11 (by decide) ?_
    exact t_Mo_isNearEnd_b15 hM M 1 _ h
theorem ct_Mo_isNearEnd {l : Launch} {ε : gEnv} (hM : gMo ε) (M : gMem) (r : Int32) (h : f_Mo_isNearEnd M = some r) : gCt l ε k_Mo_isNearEnd 2 47 [.ref (ε.2.2.1 19 0)] M (some (.int r)) M :=
  gCt_of (by decide) (Nat.le_of_ble_eq_true rfl) rfl (t_Mo_isNearEnd hM M r h)
abbrev k_Mo_nextLegal : gMD := (⟨"DropSignalsModel", "nextLegal", "([II)I"⟩, prog_11_method_56_code, 3, (some .int))
theorem w_1224 : Cond.static ⟨"DropSignalsModel", "nextLegal", "([II)I"⟩ ∈ gWs := gWs_in (i := 1224) (by decide +kernel) rfl
set_option maxRecDepth 100000 in
theorem ca_Mo_nextLegal : gCaS k_Mo_nextLegal 2 := ⟨⟨gWs_in (i := 1225) rfl rfl, w_43, by decide, by decide, by decide +kernel⟩, w_1224⟩
theorem d_Mo_nextLegal_0 : decode prog_11_method_56_code 0 = .ok (.iload_n 1, 1) := by decide +kernel
theorem d_Mo_nextLegal_1 : decode prog_11_method_56_code 1 = .ok (.istore_n 2, 1) := by decide +kernel
theorem d_Mo_nextLegal_2 : decode prog_11_method_56_code 2 = .ok (.iload_n 2, 1) := by decide +kernel
theorem d_Mo_nextLegal_3 : decode prog_11_method_56_code 3 = .ok (.bipush 32, 2) := by decide +kernel
theorem d_Mo_nextLegal_5 : decode prog_11_method_56_code 5 = .ok (.if_icmp .ge 17, 3) := by decide +kernel
theorem d_Mo_nextLegal_8 : decode prog_11_method_56_code 8 = .ok (.aload_n 0, 1) := by decide +kernel
theorem d_Mo_nextLegal_9 : decode prog_11_method_56_code 9 = .ok (.iload_n 2, 1) := by decide +kernel
theorem d_Mo_nextLegal_10 : decode prog_11_method_56_code 10 = .ok (.invokestatic 74, 3) := by decide +kernel
theorem d_Mo_nextLegal_13 : decode prog_11_method_56_code 13 = .ok (.ifCond .eq 9, 3) := by decide +kernel
theorem d_Mo_nextLegal_16 : decode prog_11_method_56_code 16 = .ok (.iinc 2 1, 3) := by decide +kernel
theorem d_Mo_nextLegal_19 : decode prog_11_method_56_code 19 = .ok (.goto (-17), 3) := by decide +kernel
theorem d_Mo_nextLegal_22 : decode prog_11_method_56_code 22 = .ok (.iload_n 2, 1) := by decide +kernel
theorem d_Mo_nextLegal_23 : decode prog_11_method_56_code 23 = .ok (.ireturn, 1) := by decide +kernel
noncomputable def f_Mo_nextLegal_b22 (g0 : Nat) (c0 : Nat) (n0 : Nat) (M : gMem) (x2 : Int32) : Option Int32 :=
  some x2
theorem t_Mo_nextLegal_b22 {l : Launch} {ε : gEnv} (g0 : Nat) (c0 : Nat) (n0 : Nat) (h0 : gHas ε g0 c0 (0, n0, [])) (M : gMem) (x2 : Int32) (r : Int32) (h : f_Mo_nextLegal_b22 g0 c0 n0 M x2 = some r) : gGo l ε k_Mo_nextLegal (gR 4 81) (gFn ε (some (.int r)) M) 22 [(2, .int x2)] [] M := by
  unfold f_Mo_nextLegal_b22 at h
  refine g_iload_n d_Mo_nextLegal_22 rfl 0 rfl ?_
  obtain rfl := Option.some.inj h
  exact g_iret d_Mo_nextLegal_23 rfl
noncomputable def f_Mo_nextLegal_s2 (g0 : Nat) (c0 : Nat) (n0 : Nat) (M : gMem) (x2 : Int32) : Option (Int32 ⊕ Int32) :=
  if 32 ≤ x2 then
    (f_Mo_nextLegal_b22 g0 c0 n0 M x2).map .inr
  else
    (f_Mo_reason g0 c0 n0 M x2).bind fun q1 =>
    if q1 = 0 then
      (f_Mo_nextLegal_b22 g0 c0 n0 M x2).map .inr
    else
      some (.inl (x2 + 1))
theorem t_Mo_nextLegal_s2 {l : Launch} {ε : gEnv} (g0 : Nat) (c0 : Nat) (n0 : Nat) (h0 : gHas ε g0 c0 (0, n0, [])) (M : gMem) (x2 : Int32) (res : (Int32 ⊕ Int32)) (h : f_Mo_nextLegal_s2 g0 c0 n0 M x2 = some res) (r : Int32) (k1 : ∀ s0 : Int32, res = .inl s0 → gGo l ε k_Mo_nextLegal (gR 4 81) (gFn ε (some (.int r)) M) 2 [(0, .ref (ε.2.2.1 g0 c0)), (2, .int s0)] [] M) (k2 : ∀ r', res = .inr r' → r' = r) : gGo l ε k_Mo_nextLegal (gR 4 81) (gFn ε (some (.int r)) M) 2 [(0, .ref (ε.2.2.1 g0 c0)), (2, .int x2)] [] M := by
  unfold f_Mo_nextLegal_s2 at h
  refine g_iload_n d_Mo_nextLegal_2 rfl 1 rfl ?_
  refine g_bipush (v := 32) d_Mo_nextLegal_3 (by decide) ?_
  refine g_icmp_ge (tgt := 22) d_Mo_nextLegal_5 (by decide) (fun c3 => ?_) (fun c3 => ?_)
  · rw [if_pos c3] at h
    refine gGo_sub [1] rfl ?_
    obtain ⟨r9, h9, h8⟩ := gOm h
    cases h8
    have e9 := k2 _ rfl
    subst e9
    exact t_Mo_nextLegal_b22 g0 c0 n0 h0 M x2 _ h9
  · rw [if_neg c3] at h
    refine g_aload_n d_Mo_nextLegal_8 rfl 0 rfl ?_
    refine g_iload_n d_Mo_nextLegal_9 rfl 1 rfl ?_
    obtain ⟨q1, hq1, h⟩ := gOb h
    refine g_callS_i (As := [.ref (ε.2.2.1 g0 c0), .int x2]) (rest := []) (ct_Mo_reason g0 c0 n0 h0 M x2 _ hq1) d_Mo_nextLegal_10 ca_Mo_reason w_1078 rfl rfl (Nat.le_of_ble_eq_true rfl) ⟨(Nat.le_of_ble_eq_true rfl), (Nat.le_of_ble_eq_true rfl)⟩ ?_
    refine g_if_eq (tgt := 22) d_Mo_nextLegal_13 (by decide) (fun c2 => ?_) (fun c2 => ?_)
    · rw [if_pos c2] at h
      refine gGo_sub [1] rfl ?_
      obtain ⟨r9, h9, h8⟩ := gOm h
      cases h8
      have e9 := k2 _ rfl
      subst e9
      exact t_Mo_nextLegal_b22 g0 c0 n0 h0 M x2 _ h9
    · rw [if_neg c2] at h
      refine g_iinc (v := (x2 + 1)) (L' := [(2, .int (x2 + 1)), (0, .ref (ε.2.2.1 g0 c0))]) d_Mo_nextLegal_16 (j := 1) rfl rfl (by decide) rfl ?_
      refine g_goto (tgt := 2) d_Mo_nextLegal_19 (by decide) ?_
      refine gGo_sub [1, 0] rfl ?_
      obtain rfl := Option.some.inj h
      exact k1 (x2 + 1) rfl
noncomputable def f_Mo_nextLegal_l2 (g0 : Nat) (c0 : Nat) (n0 : Nat) (M : gMem) (s : Int32) : Option Int32 := gLp (fun s => f_Mo_nextLegal_s2 g0 c0 n0 M s) s
theorem t_Mo_nextLegal_l2 {l : Launch} {ε : gEnv} (g0 : Nat) (c0 : Nat) (n0 : Nat) (h0 : gHas ε g0 c0 (0, n0, [])) (M : gMem) (s : Int32) (r : Int32) (h : f_Mo_nextLegal_l2 g0 c0 n0 M s = some r) : gGo l ε k_Mo_nextLegal (gR 4 81) (gFn ε (some (.int r)) M) 2 [(0, .ref (ε.2.2.1 g0 c0)), (2, .int s)] [] M :=
  g_loop _ (fun r s => gGo l ε k_Mo_nextLegal (gR 4 81) (gFn ε (some (.int r)) M) 2 [(0, .ref (ε.2.2.1 g0 c0)), (2, .int s)] [] M) (fun s res h r k1 k2 => t_Mo_nextLegal_s2 g0 c0 n0 h0 M s res h r k1 k2) s r h
noncomputable def f_Mo_nextLegal (g0 : Nat) (c0 : Nat) (n0 : Nat) (M : gMem) (a1 : Int32) : Option Int32 :=
  f_Mo_nextLegal_l2 g0 c0 n0 M a1
theorem t_Mo_nextLegal {l : Launch} {ε : gEnv} (g0 : Nat) (c0 : Nat) (n0 : Nat) (h0 : gHas ε g0 c0 (0, n0, [])) (M : gMem) (a1 : Int32) (r : Int32) (h : f_Mo_nextLegal g0 c0 n0 M a1 = some r) : gGo l ε k_Mo_nextLegal (gR 4 81) (gFn ε (some (.int r)) M) 0 [(0, .ref (ε.2.2.1 g0 c0)), (1, .int a1)] [] M := by
  unfold f_Mo_nextLegal at h
  refine g_iload_n d_Mo_nextLegal_0 rfl 1 rfl ?_
  refine g_istore_n (L' := [(2, .int a1), (0, .ref (ε.2.2.1 g0 c0)), (1, .int a1)]) d_Mo_nextLegal_1 rfl (by decide) rfl ?_
  refine gGo_sub [1, 0] rfl ?_
  exact t_Mo_nextLegal_l2 g0 c0 n0 h0 M a1 _ h
theorem ct_Mo_nextLegal {l : Launch} {ε : gEnv} (g0 : Nat) (c0 : Nat) (n0 : Nat) (h0 : gHas ε g0 c0 (0, n0, [])) (M : gMem) (a1 : Int32) (r : Int32) (h : f_Mo_nextLegal g0 c0 n0 M a1 = some r) : gCt l ε k_Mo_nextLegal 4 81 [.ref (ε.2.2.1 g0 c0), .int a1] M (some (.int r)) M :=
  gCt_of (by decide) (Nat.le_of_ble_eq_true rfl) rfl (t_Mo_nextLegal g0 c0 n0 h0 M a1 r h)
abbrev k_Mo_push : gMD := (⟨"DropSignalsModel", "push", "([III)V"⟩, prog_11_method_57_code, 4, none)
theorem w_1221 : Cond.instanceMethod ⟨"DropSignalsModel", "push", "([III)V"⟩ ∈ gWs := gWs_in (i := 1221) (by decide +kernel) rfl
theorem w_28 : Cond.selects "DropSignalsModel" ⟨"DropSignalsModel", "push", "([III)V"⟩ ⟨"DropSignalsModel", "push", "([III)V"⟩ ∈ gWs := gWs_in (i := 28) (by decide +kernel) rfl
set_option maxRecDepth 100000 in
theorem ca_Mo_push : gCaV k_Mo_push 3 := ⟨⟨gWs_in (i := 1222) rfl rfl, w_43, by decide, by decide, by decide +kernel⟩, w_1221, w_28⟩
theorem d_Mo_push_0 : decode prog_11_method_57_code 0 = .ok (.aload_n 1, 1) := by decide +kernel
theorem d_Mo_push_1 : decode prog_11_method_57_code 1 = .ok (.iconst 0, 1) := by decide +kernel
theorem d_Mo_push_2 : decode prog_11_method_57_code 2 = .ok (.aload_n 0, 1) := by decide +kernel
theorem d_Mo_push_3 : decode prog_11_method_57_code 3 = .ok (.getfield 22, 3) := by decide +kernel
theorem d_Mo_push_6 : decode prog_11_method_57_code 6 = .ok (.sipush 197, 3) := by decide +kernel
theorem d_Mo_push_9 : decode prog_11_method_57_code 9 = .ok (.iload_n 2, 1) := by decide +kernel
theorem d_Mo_push_10 : decode prog_11_method_57_code 10 = .ok (.imul, 1) := by decide +kernel
theorem d_Mo_push_11 : decode prog_11_method_57_code 11 = .ok (.invokestatic 172, 3) := by decide +kernel
theorem d_Mo_push_14 : decode prog_11_method_57_code 14 = .ok (.aload_n 0, 1) := by decide +kernel
theorem d_Mo_push_15 : decode prog_11_method_57_code 15 = .ok (.getfield 25, 3) := by decide +kernel
theorem d_Mo_push_18 : decode prog_11_method_57_code 18 = .ok (.iload_n 2, 1) := by decide +kernel
theorem d_Mo_push_19 : decode prog_11_method_57_code 19 = .ok (.iconst 0, 1) := by decide +kernel
theorem d_Mo_push_20 : decode prog_11_method_57_code 20 = .ok (.iastore, 1) := by decide +kernel
theorem d_Mo_push_21 : decode prog_11_method_57_code 21 = .ok (.aload_n 0, 1) := by decide +kernel
theorem d_Mo_push_22 : decode prog_11_method_57_code 22 = .ok (.getfield 28, 3) := by decide +kernel
theorem d_Mo_push_25 : decode prog_11_method_57_code 25 = .ok (.iload_n 2, 1) := by decide +kernel
theorem d_Mo_push_26 : decode prog_11_method_57_code 26 = .ok (.aload_n 1, 1) := by decide +kernel
theorem d_Mo_push_27 : decode prog_11_method_57_code 27 = .ok (.iconst 1, 1) := by decide +kernel
theorem d_Mo_push_28 : decode prog_11_method_57_code 28 = .ok (.iaload, 1) := by decide +kernel
theorem d_Mo_push_29 : decode prog_11_method_57_code 29 = .ok (.iconst 2, 1) := by decide +kernel
theorem d_Mo_push_30 : decode prog_11_method_57_code 30 = .ok (.if_icmp .ne 21, 3) := by decide +kernel
theorem d_Mo_push_33 : decode prog_11_method_57_code 33 = .ok (.aload_n 1, 1) := by decide +kernel
theorem d_Mo_push_34 : decode prog_11_method_57_code 34 = .ok (.iconst 2, 1) := by decide +kernel
theorem d_Mo_push_35 : decode prog_11_method_57_code 35 = .ok (.iaload, 1) := by decide +kernel
theorem d_Mo_push_36 : decode prog_11_method_57_code 36 = .ok (.iconst 2, 1) := by decide +kernel
theorem d_Mo_push_37 : decode prog_11_method_57_code 37 = .ok (.irem, 1) := by decide +kernel
theorem d_Mo_push_38 : decode prog_11_method_57_code 38 = .ok (.iload_n 3, 1) := by decide +kernel
theorem d_Mo_push_39 : decode prog_11_method_57_code 39 = .ok (.if_icmp .ne 7, 3) := by decide +kernel
theorem d_Mo_push_42 : decode prog_11_method_57_code 42 = .ok (.iconst (-1), 1) := by decide +kernel
theorem d_Mo_push_43 : decode prog_11_method_57_code 43 = .ok (.goto 13, 3) := by decide +kernel
theorem d_Mo_push_46 : decode prog_11_method_57_code 46 = .ok (.bipush 99, 2) := by decide +kernel
theorem d_Mo_push_48 : decode prog_11_method_57_code 48 = .ok (.goto 8, 3) := by decide +kernel
theorem d_Mo_push_51 : decode prog_11_method_57_code 51 = .ok (.aload_n 1, 1) := by decide +kernel
theorem d_Mo_push_52 : decode prog_11_method_57_code 52 = .ok (.iconst 5, 1) := by decide +kernel
theorem d_Mo_push_53 : decode prog_11_method_57_code 53 = .ok (.iload_n 3, 1) := by decide +kernel
theorem d_Mo_push_54 : decode prog_11_method_57_code 54 = .ok (.iadd, 1) := by decide +kernel
theorem d_Mo_push_55 : decode prog_11_method_57_code 55 = .ok (.iaload, 1) := by decide +kernel
theorem d_Mo_push_56 : decode prog_11_method_57_code 56 = .ok (.iastore, 1) := by decide +kernel
theorem d_Mo_push_57 : decode prog_11_method_57_code 57 = .ok (.return_, 1) := by decide +kernel
theorem w_979 : Cond.fieldLink "DropSignalsModel" 22 "DropSignalsModel" "pile" "[I" ∈ gWs := gWs_in (i := 979) (by decide +kernel) rfl
theorem fl_Mo_22 : gFl "DropSignalsModel" 22 8 6 := ⟨gN8, gF8, 16, rfl, uw_8, by decide, w_979⟩
theorem w_980 : Cond.fieldLink "DropSignalsModel" 25 "DropSignalsModel" "next" "[I" ∈ gWs := gWs_in (i := 980) (by decide +kernel) rfl
theorem fl_Mo_25 : gFl "DropSignalsModel" 25 8 7 := ⟨gN8, gF8, 16, rfl, uw_8, by decide, w_980⟩
theorem w_981 : Cond.fieldLink "DropSignalsModel" 28 "DropSignalsModel" "best" "[I" ∈ gWs := gWs_in (i := 981) (by decide +kernel) rfl
theorem fl_Mo_28 : gFl "DropSignalsModel" 28 8 8 := ⟨gN8, gF8, 16, rfl, uw_8, by decide, w_981⟩
noncomputable def f_Mo_push_b56 (g0 : Nat) (c0 : Nat) (n0 : Nat) (M : gMem) (s0 : Int32) (s1 : Int32) : Option gMem :=
  (gWr M 19 7 14 s1 s0).bind fun M5 =>
  some M5
theorem t_Mo_push_b56 {l : Launch} {ε : gEnv} (g0 : Nat) (c0 : Nat) (n0 : Nat) (hM : gMo ε) (h0 : gHas ε g0 c0 (0, n0, [])) (M : gMem) (s0 : Int32) (s1 : Int32) (r : gMem) (h : f_Mo_push_b56 g0 c0 n0 M s0 s1 = some r) : gGo l ε k_Mo_push (gR 1 24) (gFn ε none r) 56 [] [.int s0, .int s1, .ref (ε.2.2.1 19 7)] M := by
  unfold f_Mo_push_b56 at h
  obtain ⟨M5, hM5, h⟩ := gOb h
  refine g_iastore d_Mo_push_56 (gMo_h7 hM) hM5 ?_
  obtain rfl := Option.some.inj h
  exact g_vret d_Mo_push_57 rfl
noncomputable def f_Mo_push (g0 : Nat) (c0 : Nat) (n0 : Nat) (M : gMem) (a1 : Int32) (a2 : Int32) : Option gMem :=
  (f_Mo_copyState g0 c0 n0 19 5 2758 M 0 (197 * a1)).bind fun q1 =>
  (gWr q1 19 6 14 a1 0).bind fun M2 =>
  (gRd n0 (M2 g0 c0) 1).bind fun v3 =>
  if v3 = 2 then
    (gRd n0 (M2 g0 c0) 2).bind fun v6 =>
    if (gRem v6 2) = a2 then
      f_Mo_push_b56 g0 c0 n0 M2 (-1) a1
    else
      f_Mo_push_b56 g0 c0 n0 M2 99 a1
  else
    (gRd n0 (M2 g0 c0) (5 + a2)).bind fun v4 =>
    f_Mo_push_b56 g0 c0 n0 M2 v4 a1
theorem t_Mo_push {l : Launch} {ε : gEnv} (g0 : Nat) (c0 : Nat) (n0 : Nat) (hM : gMo ε) (h0 : gHas ε g0 c0 (0, n0, [])) (M : gMem) (a1 : Int32) (a2 : Int32) (r : gMem) (h : f_Mo_push g0 c0 n0 M a1 a2 = some r) : gGo l ε k_Mo_push (gR 1 24) (gFn ε none r) 0 [(0, .ref (ε.2.2.1 19 0)), (1, .ref (ε.2.2.1 g0 c0)), (2, .int a1), (3, .int a2)] [] M := by
  unfold f_Mo_push at h
  refine g_aload_n d_Mo_push_0 rfl 1 rfl ?_
  refine g_iconst (v := 0) d_Mo_push_1 (by decide) ?_
  refine g_aload_n d_Mo_push_2 rfl 0 rfl ?_
  refine g_getR d_Mo_push_3 fl_Mo_22 (gMo_h0 hM) rfl ?_
  refine g_sipush (v := 197) d_Mo_push_6 (by decide) ?_
  refine g_iload_n d_Mo_push_9 rfl 2 rfl ?_
  refine g_imul d_Mo_push_10 ?_
  obtain ⟨q1, hq1, h⟩ := gOb h
  refine g_callS_v (As := [.ref (ε.2.2.1 g0 c0), .int 0, .ref (ε.2.2.1 19 5), .int (197 * a1)]) (rest := []) (ct_Mo_copyState g0 c0 n0 19 5 2758 h0 (gMo_h5 hM) M 0 (197 * a1) _ hq1) d_Mo_push_11 ca_Mo_copyState w_1136 rfl rfl (Nat.le_of_ble_eq_true rfl) ⟨(Nat.le_of_ble_eq_true rfl), (Nat.le_of_ble_eq_true rfl)⟩ ?_
  refine g_aload_n d_Mo_push_14 rfl 0 rfl ?_
  refine g_getR d_Mo_push_15 fl_Mo_25 (gMo_h0 hM) rfl ?_
  refine g_iload_n d_Mo_push_18 rfl 2 rfl ?_
  refine g_iconst (v := 0) d_Mo_push_19 (by decide) ?_
  obtain ⟨M2, hM2, h⟩ := gOb h
  refine g_iastore d_Mo_push_20 (gMo_h6 hM) hM2 ?_
  refine g_aload_n d_Mo_push_21 rfl 0 rfl ?_
  refine g_getR d_Mo_push_22 fl_Mo_28 (gMo_h0 hM) rfl ?_
  refine g_iload_n d_Mo_push_25 rfl 2 rfl ?_
  refine g_aload_n d_Mo_push_26 rfl 1 rfl ?_
  refine g_iconst (v := 1) d_Mo_push_27 (by decide) ?_
  obtain ⟨v3, hv3, h⟩ := gOb h
  refine g_iaload d_Mo_push_28 h0 hv3 ?_
  refine g_iconst (v := 2) d_Mo_push_29 (by decide) ?_
  refine g_icmp_ne (tgt := 51) d_Mo_push_30 (by decide) (fun c8 => ?_) (fun c8 => ?_)
  · rw [if_neg c8] at h
    refine g_aload_n d_Mo_push_51 rfl 1 rfl ?_
    refine g_iconst (v := 5) d_Mo_push_52 (by decide) ?_
    refine g_iload_n d_Mo_push_53 rfl 3 rfl ?_
    refine g_iadd d_Mo_push_54 ?_
    obtain ⟨v4, hv4, h⟩ := gOb h
    refine g_iaload d_Mo_push_55 h0 hv4 ?_
    refine gGo_sub [] rfl ?_
    exact t_Mo_push_b56 g0 c0 n0 hM h0 M2 v4 a1 _ h
  · rw [if_pos c8] at h
    refine g_aload_n d_Mo_push_33 rfl 1 rfl ?_
    refine g_iconst (v := 2) d_Mo_push_34 (by decide) ?_
    obtain ⟨v6, hv6, h⟩ := gOb h
    refine g_iaload d_Mo_push_35 h0 hv6 ?_
    refine g_iconst (v := 2) d_Mo_push_36 (by decide) ?_
    refine g_rem d_Mo_push_37 (by decide) ?_
    refine g_iload_n d_Mo_push_38 rfl 3 rfl ?_
    refine g_icmp_ne (tgt := 46) d_Mo_push_39 (by decide) (fun c7 => ?_) (fun c7 => ?_)
    · rw [if_neg c7] at h
      refine g_bipush (v := 99) d_Mo_push_46 (by decide) ?_
      refine g_goto (tgt := 56) d_Mo_push_48 (by decide) ?_
      refine gGo_sub [] rfl ?_
      exact t_Mo_push_b56 g0 c0 n0 hM h0 M2 99 a1 _ h
    · rw [if_pos c7] at h
      refine g_iconst (v := -1) d_Mo_push_42 (by decide) ?_
      refine g_goto (tgt := 56) d_Mo_push_43 (by decide) ?_
      refine gGo_sub [] rfl ?_
      exact t_Mo_push_b56 g0 c0 n0 hM h0 M2 (-1) a1 _ h
theorem ct_Mo_push {l : Launch} {ε : gEnv} (hM : gMo ε) (g0 : Nat) (c0 : Nat) (n0 : Nat) (h0 : gHas ε g0 c0 (0, n0, [])) (M : gMem) (a1 : Int32) (a2 : Int32) (r : gMem) (h : f_Mo_push g0 c0 n0 M a1 a2 = some r) : gCt l ε k_Mo_push 1 24 [.ref (ε.2.2.1 19 0), .ref (ε.2.2.1 g0 c0), .int a1, .int a2] M none r :=
  gCt_of (by decide) (Nat.le_of_ble_eq_true rfl) rfl (t_Mo_push g0 c0 n0 hM h0 M a1 a2 r h)
abbrev k_Mo_searched : gMD := (⟨"DropSignalsModel", "searched", "([II)I"⟩, prog_11_method_58_code, 7, (some .int))
theorem w_1217 : Cond.instanceMethod ⟨"DropSignalsModel", "searched", "([II)I"⟩ ∈ gWs := gWs_in (i := 1217) (by decide +kernel) rfl
theorem w_27 : Cond.selects "DropSignalsModel" ⟨"DropSignalsModel", "searched", "([II)I"⟩ ⟨"DropSignalsModel", "searched", "([II)I"⟩ ∈ gWs := gWs_in (i := 27) (by decide +kernel) rfl
set_option maxRecDepth 100000 in
theorem ca_Mo_searched : gCaV k_Mo_searched 2 := ⟨⟨gWs_in (i := 1218) rfl rfl, w_43, by decide, by decide, by decide +kernel⟩, w_1217, w_27⟩
theorem d_Mo_searched_0 : decode prog_11_method_58_code 0 = .ok (.aload_n 0, 1) := by decide +kernel
theorem d_Mo_searched_1 : decode prog_11_method_58_code 1 = .ok (.aload_n 1, 1) := by decide +kernel
theorem d_Mo_searched_2 : decode prog_11_method_58_code 2 = .ok (.iconst 0, 1) := by decide +kernel
theorem d_Mo_searched_3 : decode prog_11_method_58_code 3 = .ok (.iload_n 2, 1) := by decide +kernel
theorem d_Mo_searched_4 : decode prog_11_method_58_code 4 = .ok (.invokevirtual 204, 3) := by decide +kernel
theorem d_Mo_searched_7 : decode prog_11_method_58_code 7 = .ok (.iconst 0, 1) := by decide +kernel
theorem d_Mo_searched_8 : decode prog_11_method_58_code 8 = .ok (.istore_n 3, 1) := by decide +kernel
theorem d_Mo_searched_9 : decode prog_11_method_58_code 9 = .ok (.iload_n 3, 1) := by decide +kernel
theorem d_Mo_searched_10 : decode prog_11_method_58_code 10 = .ok (.ifCond .lt 186, 3) := by decide +kernel
theorem d_Mo_searched_13 : decode prog_11_method_58_code 13 = .ok (.aload_n 0, 1) := by decide +kernel
theorem d_Mo_searched_14 : decode prog_11_method_58_code 14 = .ok (.getfield 22, 3) := by decide +kernel
theorem d_Mo_searched_17 : decode prog_11_method_58_code 17 = .ok (.sipush 197, 3) := by decide +kernel
theorem d_Mo_searched_20 : decode prog_11_method_58_code 20 = .ok (.iload_n 3, 1) := by decide +kernel
theorem d_Mo_searched_21 : decode prog_11_method_58_code 21 = .ok (.imul, 1) := by decide +kernel
theorem d_Mo_searched_22 : decode prog_11_method_58_code 22 = .ok (.aload_n 0, 1) := by decide +kernel
theorem d_Mo_searched_23 : decode prog_11_method_58_code 23 = .ok (.getfield 19, 3) := by decide +kernel
theorem d_Mo_searched_26 : decode prog_11_method_58_code 26 = .ok (.iconst 0, 1) := by decide +kernel
theorem d_Mo_searched_27 : decode prog_11_method_58_code 27 = .ok (.invokestatic 172, 3) := by decide +kernel
theorem d_Mo_searched_30 : decode prog_11_method_58_code 30 = .ok (.aload_n 0, 1) := by decide +kernel
theorem d_Mo_searched_31 : decode prog_11_method_58_code 31 = .ok (.getfield 19, 3) := by decide +kernel
theorem d_Mo_searched_34 : decode prog_11_method_58_code 34 = .ok (.iconst 1, 1) := by decide +kernel
theorem d_Mo_searched_35 : decode prog_11_method_58_code 35 = .ok (.iaload, 1) := by decide +kernel
theorem d_Mo_searched_36 : decode prog_11_method_58_code 36 = .ok (.iconst 2, 1) := by decide +kernel
theorem d_Mo_searched_37 : decode prog_11_method_58_code 37 = .ok (.if_icmp .ne 19, 3) := by decide +kernel
theorem d_Mo_searched_40 : decode prog_11_method_58_code 40 = .ok (.aload_n 0, 1) := by decide +kernel
theorem d_Mo_searched_41 : decode prog_11_method_58_code 41 = .ok (.getfield 19, 3) := by decide +kernel
theorem d_Mo_searched_44 : decode prog_11_method_58_code 44 = .ok (.aload_n 0, 1) := by decide +kernel
theorem d_Mo_searched_45 : decode prog_11_method_58_code 45 = .ok (.getfield 25, 3) := by decide +kernel
theorem d_Mo_searched_48 : decode prog_11_method_58_code 48 = .ok (.iload_n 3, 1) := by decide +kernel
theorem d_Mo_searched_49 : decode prog_11_method_58_code 49 = .ok (.iaload, 1) := by decide +kernel
theorem d_Mo_searched_50 : decode prog_11_method_58_code 50 = .ok (.invokestatic 207, 3) := by decide +kernel
theorem d_Mo_searched_53 : decode prog_11_method_58_code 53 = .ok (.goto 5, 3) := by decide +kernel
theorem d_Mo_searched_56 : decode prog_11_method_58_code 56 = .ok (.bipush 32, 2) := by decide +kernel
theorem d_Mo_searched_58 : decode prog_11_method_58_code 58 = .ok (.istore 4, 2) := by decide +kernel
theorem d_Mo_searched_60 : decode prog_11_method_58_code 60 = .ok (.iload 4, 2) := by decide +kernel
theorem d_Mo_searched_62 : decode prog_11_method_58_code 62 = .ok (.bipush 32, 2) := by decide +kernel
theorem d_Mo_searched_64 : decode prog_11_method_58_code 64 = .ok (.if_icmp .ge 38, 3) := by decide +kernel
theorem d_Mo_searched_67 : decode prog_11_method_58_code 67 = .ok (.aload_n 0, 1) := by decide +kernel
theorem d_Mo_searched_68 : decode prog_11_method_58_code 68 = .ok (.getfield 25, 3) := by decide +kernel
theorem d_Mo_searched_71 : decode prog_11_method_58_code 71 = .ok (.iload_n 3, 1) := by decide +kernel
theorem d_Mo_searched_72 : decode prog_11_method_58_code 72 = .ok (.iload 4, 2) := by decide +kernel
theorem d_Mo_searched_74 : decode prog_11_method_58_code 74 = .ok (.iconst 1, 1) := by decide +kernel
theorem d_Mo_searched_75 : decode prog_11_method_58_code 75 = .ok (.iadd, 1) := by decide +kernel
theorem d_Mo_searched_76 : decode prog_11_method_58_code 76 = .ok (.iastore, 1) := by decide +kernel
theorem d_Mo_searched_77 : decode prog_11_method_58_code 77 = .ok (.aload_n 0, 1) := by decide +kernel
theorem d_Mo_searched_78 : decode prog_11_method_58_code 78 = .ok (.getfield 19, 3) := by decide +kernel
theorem d_Mo_searched_81 : decode prog_11_method_58_code 81 = .ok (.iload 4, 2) := by decide +kernel
theorem d_Mo_searched_83 : decode prog_11_method_58_code 83 = .ok (.invokestatic 105, 3) := by decide +kernel
theorem d_Mo_searched_86 : decode prog_11_method_58_code 86 = .ok (.iinc 3 1, 3) := by decide +kernel
theorem d_Mo_searched_89 : decode prog_11_method_58_code 89 = .ok (.aload_n 0, 1) := by decide +kernel
theorem d_Mo_searched_90 : decode prog_11_method_58_code 90 = .ok (.aload_n 0, 1) := by decide +kernel
theorem d_Mo_searched_91 : decode prog_11_method_58_code 91 = .ok (.getfield 19, 3) := by decide +kernel
theorem d_Mo_searched_94 : decode prog_11_method_58_code 94 = .ok (.iload_n 3, 1) := by decide +kernel
theorem d_Mo_searched_95 : decode prog_11_method_58_code 95 = .ok (.iload_n 2, 1) := by decide +kernel
theorem d_Mo_searched_96 : decode prog_11_method_58_code 96 = .ok (.invokevirtual 204, 3) := by decide +kernel
theorem d_Mo_searched_99 : decode prog_11_method_58_code 99 = .ok (.goto 94, 3) := by decide +kernel
theorem d_Mo_searched_102 : decode prog_11_method_58_code 102 = .ok (.iinc 3 (-1), 3) := by decide +kernel
theorem d_Mo_searched_105 : decode prog_11_method_58_code 105 = .ok (.iload_n 3, 1) := by decide +kernel
theorem d_Mo_searched_106 : decode prog_11_method_58_code 106 = .ok (.ifCond .lt 87, 3) := by decide +kernel
theorem d_Mo_searched_109 : decode prog_11_method_58_code 109 = .ok (.aload_n 0, 1) := by decide +kernel
theorem d_Mo_searched_110 : decode prog_11_method_58_code 110 = .ok (.getfield 22, 3) := by decide +kernel
theorem d_Mo_searched_113 : decode prog_11_method_58_code 113 = .ok (.sipush 197, 3) := by decide +kernel
theorem d_Mo_searched_116 : decode prog_11_method_58_code 116 = .ok (.iload_n 3, 1) := by decide +kernel
theorem d_Mo_searched_117 : decode prog_11_method_58_code 117 = .ok (.imul, 1) := by decide +kernel
theorem d_Mo_searched_118 : decode prog_11_method_58_code 118 = .ok (.iconst 2, 1) := by decide +kernel
theorem d_Mo_searched_119 : decode prog_11_method_58_code 119 = .ok (.iadd, 1) := by decide +kernel
theorem d_Mo_searched_120 : decode prog_11_method_58_code 120 = .ok (.iaload, 1) := by decide +kernel
theorem d_Mo_searched_121 : decode prog_11_method_58_code 121 = .ok (.iconst 2, 1) := by decide +kernel
theorem d_Mo_searched_122 : decode prog_11_method_58_code 122 = .ok (.irem, 1) := by decide +kernel
theorem d_Mo_searched_123 : decode prog_11_method_58_code 123 = .ok (.iload_n 2, 1) := by decide +kernel
theorem d_Mo_searched_124 : decode prog_11_method_58_code 124 = .ok (.if_icmp .ne 7, 3) := by decide +kernel
theorem d_Mo_searched_127 : decode prog_11_method_58_code 127 = .ok (.iconst 1, 1) := by decide +kernel
theorem d_Mo_searched_128 : decode prog_11_method_58_code 128 = .ok (.goto 4, 3) := by decide +kernel
theorem d_Mo_searched_131 : decode prog_11_method_58_code 131 = .ok (.iconst 0, 1) := by decide +kernel
theorem d_Mo_searched_132 : decode prog_11_method_58_code 132 = .ok (.istore 5, 2) := by decide +kernel
theorem d_Mo_searched_134 : decode prog_11_method_58_code 134 = .ok (.aload_n 0, 1) := by decide +kernel
theorem d_Mo_searched_135 : decode prog_11_method_58_code 135 = .ok (.getfield 28, 3) := by decide +kernel
theorem d_Mo_searched_138 : decode prog_11_method_58_code 138 = .ok (.iload_n 3, 1) := by decide +kernel
theorem d_Mo_searched_139 : decode prog_11_method_58_code 139 = .ok (.iconst 1, 1) := by decide +kernel
theorem d_Mo_searched_140 : decode prog_11_method_58_code 140 = .ok (.iadd, 1) := by decide +kernel
theorem d_Mo_searched_141 : decode prog_11_method_58_code 141 = .ok (.iaload, 1) := by decide +kernel
theorem d_Mo_searched_142 : decode prog_11_method_58_code 142 = .ok (.istore 6, 2) := by decide +kernel
theorem d_Mo_searched_144 : decode prog_11_method_58_code 144 = .ok (.aload_n 0, 1) := by decide +kernel
theorem d_Mo_searched_145 : decode prog_11_method_58_code 145 = .ok (.getfield 28, 3) := by decide +kernel
theorem d_Mo_searched_148 : decode prog_11_method_58_code 148 = .ok (.iload_n 3, 1) := by decide +kernel
theorem d_Mo_searched_149 : decode prog_11_method_58_code 149 = .ok (.iload 5, 2) := by decide +kernel
theorem d_Mo_searched_151 : decode prog_11_method_58_code 151 = .ok (.iload 6, 2) := by decide +kernel
theorem d_Mo_searched_153 : decode prog_11_method_58_code 153 = .ok (.aload_n 0, 1) := by decide +kernel
theorem d_Mo_searched_154 : decode prog_11_method_58_code 154 = .ok (.getfield 28, 3) := by decide +kernel
theorem d_Mo_searched_157 : decode prog_11_method_58_code 157 = .ok (.iload_n 3, 1) := by decide +kernel
theorem d_Mo_searched_158 : decode prog_11_method_58_code 158 = .ok (.iaload, 1) := by decide +kernel
theorem d_Mo_searched_159 : decode prog_11_method_58_code 159 = .ok (.if_icmp .le 7, 3) := by decide +kernel
theorem d_Mo_searched_162 : decode prog_11_method_58_code 162 = .ok (.iconst 1, 1) := by decide +kernel
theorem d_Mo_searched_163 : decode prog_11_method_58_code 163 = .ok (.goto 4, 3) := by decide +kernel
theorem d_Mo_searched_166 : decode prog_11_method_58_code 166 = .ok (.iconst 0, 1) := by decide +kernel
theorem d_Mo_searched_167 : decode prog_11_method_58_code 167 = .ok (.if_icmp .ne 19, 3) := by decide +kernel
theorem d_Mo_searched_170 : decode prog_11_method_58_code 170 = .ok (.iload 6, 2) := by decide +kernel
theorem d_Mo_searched_172 : decode prog_11_method_58_code 172 = .ok (.aload_n 0, 1) := by decide +kernel
theorem d_Mo_searched_173 : decode prog_11_method_58_code 173 = .ok (.getfield 28, 3) := by decide +kernel
theorem d_Mo_searched_176 : decode prog_11_method_58_code 176 = .ok (.iload_n 3, 1) := by decide +kernel
theorem d_Mo_searched_177 : decode prog_11_method_58_code 177 = .ok (.iaload, 1) := by decide +kernel
theorem d_Mo_searched_178 : decode prog_11_method_58_code 178 = .ok (.if_icmp .eq 8, 3) := by decide +kernel
theorem d_Mo_searched_181 : decode prog_11_method_58_code 181 = .ok (.iload 6, 2) := by decide +kernel
theorem d_Mo_searched_183 : decode prog_11_method_58_code 183 = .ok (.goto 9, 3) := by decide +kernel
theorem d_Mo_searched_186 : decode prog_11_method_58_code 186 = .ok (.aload_n 0, 1) := by decide +kernel
theorem d_Mo_searched_187 : decode prog_11_method_58_code 187 = .ok (.getfield 28, 3) := by decide +kernel
theorem d_Mo_searched_190 : decode prog_11_method_58_code 190 = .ok (.iload_n 3, 1) := by decide +kernel
theorem d_Mo_searched_191 : decode prog_11_method_58_code 191 = .ok (.iaload, 1) := by decide +kernel
theorem d_Mo_searched_192 : decode prog_11_method_58_code 192 = .ok (.iastore, 1) := by decide +kernel
theorem d_Mo_searched_193 : decode prog_11_method_58_code 193 = .ok (.goto (-184), 3) := by decide +kernel
theorem d_Mo_searched_196 : decode prog_11_method_58_code 196 = .ok (.aload_n 0, 1) := by decide +kernel
theorem d_Mo_searched_197 : decode prog_11_method_58_code 197 = .ok (.getfield 28, 3) := by decide +kernel
theorem d_Mo_searched_200 : decode prog_11_method_58_code 200 = .ok (.iconst 0, 1) := by decide +kernel
theorem d_Mo_searched_201 : decode prog_11_method_58_code 201 = .ok (.iaload, 1) := by decide +kernel
theorem d_Mo_searched_202 : decode prog_11_method_58_code 202 = .ok (.ireturn, 1) := by decide +kernel
theorem w_1219 : Cond.methodLink "DropSignalsModel" 204 ⟨"DropSignalsModel", "push", "([III)V"⟩ ∈ gWs := gWs_in (i := 1219) (by decide +kernel) rfl
theorem w_978 : Cond.fieldLink "DropSignalsModel" 19 "DropSignalsModel" "line" "[I" ∈ gWs := gWs_in (i := 978) (by decide +kernel) rfl
theorem fl_Mo_19 : gFl "DropSignalsModel" 19 8 5 := ⟨gN8, gF8, 16, rfl, uw_8, by decide, w_978⟩
theorem w_1223 : Cond.methodLink "DropSignalsModel" 207 ⟨"DropSignalsModel", "nextLegal", "([II)I"⟩ ∈ gWs := gWs_in (i := 1223) (by decide +kernel) rfl
noncomputable def f_Mo_searched_b193 (g0 : Nat) (c0 : Nat) (n0 : Nat) (M : gMem) (x2 : Int32) (x3 : Int32) : Option ((Int32 × gMem) ⊕ (Int32 × gMem)) :=
  some (.inl (x3, M))
theorem t_Mo_searched_b193 {l : Launch} {ε : gEnv} (g0 : Nat) (c0 : Nat) (n0 : Nat) (hM : gMo ε) (h0 : gHas ε g0 c0 (0, n0, [])) (M : gMem) (x2 : Int32) (x3 : Int32) (res : ((Int32 × gMem) ⊕ (Int32 × gMem))) (h : f_Mo_searched_b193 g0 c0 n0 M x2 x3 = some res) (r : (Int32 × gMem)) (k1 : ∀ s0 : (Int32 × gMem), res = .inl s0 → gGo l ε k_Mo_searched (gR 5 103) (gFn ε (some (.int r.1)) r.2) 9 [(0, .ref (ε.2.2.1 19 0)), (2, .int x2), (3, .int s0.1)] [] s0.2) (k2 : ∀ r', res = .inr r' → r' = r) : gGo l ε k_Mo_searched (gR 5 103) (gFn ε (some (.int r.1)) r.2) 193 [(0, .ref (ε.2.2.1 19 0)), (2, .int x2), (3, .int x3)] [] M := by
  unfold f_Mo_searched_b193 at h
  refine g_goto (tgt := 9) d_Mo_searched_193 (by decide) ?_
  obtain rfl := Option.some.inj h
  exact k1 (x3, M) rfl
noncomputable def f_Mo_searched_b192 (g0 : Nat) (c0 : Nat) (n0 : Nat) (M : gMem) (x2 : Int32) (x3 : Int32) (s0 : Int32) (s1 : Int32) : Option ((Int32 × gMem) ⊕ (Int32 × gMem)) :=
  (gWr M 19 7 14 s1 s0).bind fun M9 =>
  f_Mo_searched_b193 g0 c0 n0 M9 x2 x3
theorem t_Mo_searched_b192 {l : Launch} {ε : gEnv} (g0 : Nat) (c0 : Nat) (n0 : Nat) (hM : gMo ε) (h0 : gHas ε g0 c0 (0, n0, [])) (M : gMem) (x2 : Int32) (x3 : Int32) (s0 : Int32) (s1 : Int32) (res : ((Int32 × gMem) ⊕ (Int32 × gMem))) (h : f_Mo_searched_b192 g0 c0 n0 M x2 x3 s0 s1 = some res) (r : (Int32 × gMem)) (k1 : ∀ s0 : (Int32 × gMem), res = .inl s0 → gGo l ε k_Mo_searched (gR 5 103) (gFn ε (some (.int r.1)) r.2) 9 [(0, .ref (ε.2.2.1 19 0)), (2, .int x2), (3, .int s0.1)] [] s0.2) (k2 : ∀ r', res = .inr r' → r' = r) : gGo l ε k_Mo_searched (gR 5 103) (gFn ε (some (.int r.1)) r.2) 192 [(0, .ref (ε.2.2.1 19 0)), (2, .int x2), (3, .int x3)] [.int s0, .int s1, .ref (ε.2.2.1 19 7)] M := by
  unfold f_Mo_searched_b192 at h
  obtain ⟨M9, hM9, h⟩ := gOb h
  refine g_iastore d_Mo_searched_192 (gMo_h7 hM) hM9 ?_
  exact t_Mo_searched_b193 g0 c0 n0 hM h0 M9 x2 x3 _ h r k1 k2
noncomputable def f_Mo_searched_b186 (g0 : Nat) (c0 : Nat) (n0 : Nat) (M : gMem) (x2 : Int32) (x3 : Int32) (s0 : Int32) : Option ((Int32 × gMem) ⊕ (Int32 × gMem)) :=
  (gRd 14 (M 19 7) x3).bind fun v8 =>
  f_Mo_searched_b192 g0 c0 n0 M x2 x3 v8 s0
theorem t_Mo_searched_b186 {l : Launch} {ε : gEnv} (g0 : Nat) (c0 : Nat) (n0 : Nat) (hM : gMo ε) (h0 : gHas ε g0 c0 (0, n0, [])) (M : gMem) (x2 : Int32) (x3 : Int32) (s0 : Int32) (res : ((Int32 × gMem) ⊕ (Int32 × gMem))) (h : f_Mo_searched_b186 g0 c0 n0 M x2 x3 s0 = some res) (r : (Int32 × gMem)) (k1 : ∀ s0 : (Int32 × gMem), res = .inl s0 → gGo l ε k_Mo_searched (gR 5 103) (gFn ε (some (.int r.1)) r.2) 9 [(0, .ref (ε.2.2.1 19 0)), (2, .int x2), (3, .int s0.1)] [] s0.2) (k2 : ∀ r', res = .inr r' → r' = r) : gGo l ε k_Mo_searched (gR 5 103) (gFn ε (some (.int r.1)) r.2) 186 [(0, .ref (ε.2.2.1 19 0)), (2, .int x2), (3, .int x3)] [.int s0, .ref (ε.2.2.1 19 7)] M := by
  unfold f_Mo_searched_b186 at h
  refine g_aload_n d_Mo_searched_186 rfl 0 rfl ?_
  refine g_getR d_Mo_searched_187 fl_Mo_28 (gMo_h0 hM) rfl ?_
  refine g_iload_n d_Mo_searched_190 rfl 2 rfl ?_
  obtain ⟨v8, hv8, h⟩ := gOb h
  refine g_iaload d_Mo_searched_191 (gMo_h7 hM) hv8 ?_
  exact t_Mo_searched_b192 g0 c0 n0 hM h0 M x2 x3 v8 s0 _ h r k1 k2
noncomputable def f_Mo_searched_b167 (g0 : Nat) (c0 : Nat) (n0 : Nat) (M : gMem) (x2 : Int32) (x3 : Int32) (x6 : Int32) (s0 : Int32) (s1 : Int32) (s2 : Int32) : Option ((Int32 × gMem) ⊕ (Int32 × gMem)) :=
  if s1 = s0 then
    (gRd 14 (M 19 7) x3).bind fun v10 =>
    if x6 = v10 then
      f_Mo_searched_b186 g0 c0 n0 M x2 x3 s2
    else
      f_Mo_searched_b192 g0 c0 n0 M x2 x3 x6 s2
  else
    f_Mo_searched_b186 g0 c0 n0 M x2 x3 s2
theorem t_Mo_searched_b167 {l : Launch} {ε : gEnv} (g0 : Nat) (c0 : Nat) (n0 : Nat) (hM : gMo ε) (h0 : gHas ε g0 c0 (0, n0, [])) (M : gMem) (x2 : Int32) (x3 : Int32) (x6 : Int32) (s0 : Int32) (s1 : Int32) (s2 : Int32) (res : ((Int32 × gMem) ⊕ (Int32 × gMem))) (h : f_Mo_searched_b167 g0 c0 n0 M x2 x3 x6 s0 s1 s2 = some res) (r : (Int32 × gMem)) (k1 : ∀ s0 : (Int32 × gMem), res = .inl s0 → gGo l ε k_Mo_searched (gR 5 103) (gFn ε (some (.int r.1)) r.2) 9 [(0, .ref (ε.2.2.1 19 0)), (2, .int x2), (3, .int s0.1)] [] s0.2) (k2 : ∀ r', res = .inr r' → r' = r) : gGo l ε k_Mo_searched (gR 5 103) (gFn ε (some (.int r.1)) r.2) 167 [(0, .ref (ε.2.2.1 19 0)), (2, .int x2), (3, .int x3), (6, .int x6)] [.int s0, .int s1, .int s2, .ref (ε.2.2.1 19 7)] M := by
  unfold f_Mo_searched_b167 at h
  refine g_icmp_ne (tgt := 186) d_Mo_searched_167 (by decide) (fun c12 => ?_) (fun c12 => ?_)
  · rw [if_neg c12] at h
    refine gGo_sub [0, 1, 2] rfl ?_
    exact t_Mo_searched_b186 g0 c0 n0 hM h0 M x2 x3 s2 _ h r k1 k2
  · rw [if_pos c12] at h
    refine g_iload d_Mo_searched_170 3 rfl ?_
    refine g_aload_n d_Mo_searched_172 rfl 0 rfl ?_
    refine g_getR d_Mo_searched_173 fl_Mo_28 (gMo_h0 hM) rfl ?_
    refine g_iload_n d_Mo_searched_176 rfl 2 rfl ?_
    obtain ⟨v10, hv10, h⟩ := gOb h
    refine g_iaload d_Mo_searched_177 (gMo_h7 hM) hv10 ?_
    refine g_icmp_eq (tgt := 186) d_Mo_searched_178 (by decide) (fun c11 => ?_) (fun c11 => ?_)
    · rw [if_pos c11] at h
      refine gGo_sub [0, 1, 2] rfl ?_
      exact t_Mo_searched_b186 g0 c0 n0 hM h0 M x2 x3 s2 _ h r k1 k2
    · rw [if_neg c11] at h
      refine g_iload d_Mo_searched_181 3 rfl ?_
      refine g_goto (tgt := 192) d_Mo_searched_183 (by decide) ?_
      refine gGo_sub [0, 1, 2] rfl ?_
      exact t_Mo_searched_b192 g0 c0 n0 hM h0 M x2 x3 x6 s2 _ h r k1 k2
noncomputable def f_Mo_searched_b132 (g0 : Nat) (c0 : Nat) (n0 : Nat) (M : gMem) (x2 : Int32) (x3 : Int32) (s0 : Int32) : Option ((Int32 × gMem) ⊕ (Int32 × gMem)) :=
  (gRd 14 (M 19 7) (x3 + 1)).bind fun v6 =>
  (gRd 14 (M 19 7) x3).bind fun v7 =>
  if v6 ≤ v7 then
    f_Mo_searched_b167 g0 c0 n0 M x2 x3 v6 0 s0 x3
  else
    f_Mo_searched_b167 g0 c0 n0 M x2 x3 v6 1 s0 x3
theorem t_Mo_searched_b132 {l : Launch} {ε : gEnv} (g0 : Nat) (c0 : Nat) (n0 : Nat) (hM : gMo ε) (h0 : gHas ε g0 c0 (0, n0, [])) (M : gMem) (x2 : Int32) (x3 : Int32) (s0 : Int32) (res : ((Int32 × gMem) ⊕ (Int32 × gMem))) (h : f_Mo_searched_b132 g0 c0 n0 M x2 x3 s0 = some res) (r : (Int32 × gMem)) (k1 : ∀ s0 : (Int32 × gMem), res = .inl s0 → gGo l ε k_Mo_searched (gR 5 103) (gFn ε (some (.int r.1)) r.2) 9 [(0, .ref (ε.2.2.1 19 0)), (2, .int x2), (3, .int s0.1)] [] s0.2) (k2 : ∀ r', res = .inr r' → r' = r) : gGo l ε k_Mo_searched (gR 5 103) (gFn ε (some (.int r.1)) r.2) 132 [(0, .ref (ε.2.2.1 19 0)), (2, .int x2), (3, .int x3)] [.int s0] M := by
  unfold f_Mo_searched_b132 at h
  refine g_istore (L' := [(5, .int s0), (0, .ref (ε.2.2.1 19 0)), (2, .int x2), (3, .int x3)]) d_Mo_searched_132 (by decide) rfl ?_
  refine g_aload_n d_Mo_searched_134 rfl 1 rfl ?_
  refine g_getR d_Mo_searched_135 fl_Mo_28 (gMo_h0 hM) rfl ?_
  refine g_iload_n d_Mo_searched_138 rfl 3 rfl ?_
  refine g_iconst (v := 1) d_Mo_searched_139 (by decide) ?_
  refine g_iadd d_Mo_searched_140 ?_
  obtain ⟨v6, hv6, h⟩ := gOb h
  refine g_iaload d_Mo_searched_141 (gMo_h7 hM) hv6 ?_
  refine g_istore (L' := [(6, .int v6), (5, .int s0), (0, .ref (ε.2.2.1 19 0)), (2, .int x2), (3, .int x3)]) d_Mo_searched_142 (by decide) rfl ?_
  refine g_aload_n d_Mo_searched_144 rfl 2 rfl ?_
  refine g_getR d_Mo_searched_145 fl_Mo_28 (gMo_h0 hM) rfl ?_
  refine g_iload_n d_Mo_searched_148 rfl 4 rfl ?_
  refine g_iload d_Mo_searched_149 1 rfl ?_
  refine g_iload d_Mo_searched_151 0 rfl ?_
  refine g_aload_n d_Mo_searched_153 rfl 2 rfl ?_
  refine g_getR d_Mo_searched_154 fl_Mo_28 (gMo_h0 hM) rfl ?_
  refine g_iload_n d_Mo_searched_157 rfl 4 rfl ?_
  obtain ⟨v7, hv7, h⟩ := gOb h
  refine g_iaload d_Mo_searched_158 (gMo_h7 hM) hv7 ?_
  refine g_icmp_le (tgt := 166) d_Mo_searched_159 (by decide) (fun c13 => ?_) (fun c13 => ?_)
  · rw [if_pos c13] at h
    refine g_iconst (v := 0) d_Mo_searched_166 (by decide) ?_
    refine gGo_sub [2, 3, 4, 0] rfl ?_
    exact t_Mo_searched_b167 g0 c0 n0 hM h0 M x2 x3 v6 0 s0 x3 _ h r k1 k2
  · rw [if_neg c13] at h
    refine g_iconst (v := 1) d_Mo_searched_162 (by decide) ?_
    refine g_goto (tgt := 167) d_Mo_searched_163 (by decide) ?_
    refine gGo_sub [2, 3, 4, 0] rfl ?_
    exact t_Mo_searched_b167 g0 c0 n0 hM h0 M x2 x3 v6 1 s0 x3 _ h r k1 k2
noncomputable def f_Mo_searched_b58 (g0 : Nat) (c0 : Nat) (n0 : Nat) (M : gMem) (x2 : Int32) (x3 : Int32) (s0 : Int32) : Option ((Int32 × gMem) ⊕ (Int32 × gMem)) :=
  if 32 ≤ s0 then
    if (x3 + (-1)) < 0 then
      f_Mo_searched_b193 g0 c0 n0 M x2 (x3 + (-1))
    else
      (gRd 2758 (M 19 5) ((197 * (x3 + (-1))) + 2)).bind fun v5 =>
      if (gRem v5 2) = x2 then
        f_Mo_searched_b132 g0 c0 n0 M x2 (x3 + (-1)) 1
      else
        f_Mo_searched_b132 g0 c0 n0 M x2 (x3 + (-1)) 0
  else
    (gWr M 19 6 14 x3 (s0 + 1)).bind fun M16 =>
    (f_Mo_put 19 4 197 M16 s0).bind fun q17 =>
    (f_Mo_push 19 4 197 q17 (x3 + 1) x2).bind fun q18 =>
    f_Mo_searched_b193 g0 c0 n0 q18 x2 (x3 + 1)
theorem t_Mo_searched_b58 {l : Launch} {ε : gEnv} (g0 : Nat) (c0 : Nat) (n0 : Nat) (hM : gMo ε) (h0 : gHas ε g0 c0 (0, n0, [])) (M : gMem) (x2 : Int32) (x3 : Int32) (s0 : Int32) (res : ((Int32 × gMem) ⊕ (Int32 × gMem))) (h : f_Mo_searched_b58 g0 c0 n0 M x2 x3 s0 = some res) (r : (Int32 × gMem)) (k1 : ∀ s0 : (Int32 × gMem), res = .inl s0 → gGo l ε k_Mo_searched (gR 5 103) (gFn ε (some (.int r.1)) r.2) 9 [(0, .ref (ε.2.2.1 19 0)), (2, .int x2), (3, .int s0.1)] [] s0.2) (k2 : ∀ r', res = .inr r' → r' = r) : gGo l ε k_Mo_searched (gR 5 103) (gFn ε (some (.int r.1)) r.2) 58 [(0, .ref (ε.2.2.1 19 0)), (2, .int x2), (3, .int x3)] [.int s0] M := by
  unfold f_Mo_searched_b58 at h
  refine g_istore (L' := [(4, .int s0), (0, .ref (ε.2.2.1 19 0)), (2, .int x2), (3, .int x3)]) d_Mo_searched_58 (by decide) rfl ?_
  refine g_iload d_Mo_searched_60 0 rfl ?_
  refine g_bipush (v := 32) d_Mo_searched_62 (by decide) ?_
  refine g_icmp_ge (tgt := 102) d_Mo_searched_64 (by decide) (fun c19 => ?_) (fun c19 => ?_)
  · rw [if_pos c19] at h
    refine g_iinc (v := (x3 + (-1))) (L' := [(3, .int (x3 + (-1))), (4, .int s0), (0, .ref (ε.2.2.1 19 0)), (2, .int x2)]) d_Mo_searched_102 (j := 3) rfl rfl (by decide) rfl ?_
    refine g_iload_n d_Mo_searched_105 rfl 0 rfl ?_
    refine g_if_lt (tgt := 193) d_Mo_searched_106 (by decide) (fun c15 => ?_) (fun c15 => ?_)
    · rw [if_pos c15] at h
      refine gGo_sub [2, 3, 0] rfl ?_
      exact t_Mo_searched_b193 g0 c0 n0 hM h0 M x2 (x3 + (-1)) _ h r k1 k2
    · rw [if_neg c15] at h
      refine g_aload_n d_Mo_searched_109 rfl 2 rfl ?_
      refine g_getR d_Mo_searched_110 fl_Mo_22 (gMo_h0 hM) rfl ?_
      refine g_sipush (v := 197) d_Mo_searched_113 (by decide) ?_
      refine g_iload_n d_Mo_searched_116 rfl 0 rfl ?_
      refine g_imul d_Mo_searched_117 ?_
      refine g_iconst (v := 2) d_Mo_searched_118 (by decide) ?_
      refine g_iadd d_Mo_searched_119 ?_
      obtain ⟨v5, hv5, h⟩ := gOb h
      refine g_iaload d_Mo_searched_120 (gMo_h5 hM) hv5 ?_
      refine g_iconst (v := 2) d_Mo_searched_121 (by decide) ?_
      refine g_rem d_Mo_searched_122 (by decide) ?_
      refine g_iload_n d_Mo_searched_123 rfl 3 rfl ?_
      refine g_icmp_ne (tgt := 131) d_Mo_searched_124 (by decide) (fun c14 => ?_) (fun c14 => ?_)
      · rw [if_neg c14] at h
        refine g_iconst (v := 0) d_Mo_searched_131 (by decide) ?_
        refine gGo_sub [2, 3, 0] rfl ?_
        exact t_Mo_searched_b132 g0 c0 n0 hM h0 M x2 (x3 + (-1)) 0 _ h r k1 k2
      · rw [if_pos c14] at h
        refine g_iconst (v := 1) d_Mo_searched_127 (by decide) ?_
        refine g_goto (tgt := 132) d_Mo_searched_128 (by decide) ?_
        refine gGo_sub [2, 3, 0] rfl ?_
        exact t_Mo_searched_b132 g0 c0 n0 hM h0 M x2 (x3 + (-1)) 1 _ h r k1 k2
  · rw [if_neg c19] at h
    refine g_aload_n d_Mo_searched_67 rfl 1 rfl ?_
    refine g_getR d_Mo_searched_68 fl_Mo_25 (gMo_h0 hM) rfl ?_
    refine g_iload_n d_Mo_searched_71 rfl 3 rfl ?_
    refine g_iload d_Mo_searched_72 0 rfl ?_
    refine g_iconst (v := 1) d_Mo_searched_74 (by decide) ?_
    refine g_iadd d_Mo_searched_75 ?_
    obtain ⟨M16, hM16, h⟩ := gOb h
    refine g_iastore d_Mo_searched_76 (gMo_h6 hM) hM16 ?_
    refine g_aload_n d_Mo_searched_77 rfl 1 rfl ?_
    refine g_getR d_Mo_searched_78 fl_Mo_19 (gMo_h0 hM) rfl ?_
    refine g_iload d_Mo_searched_81 0 rfl ?_
    obtain ⟨q17, hq17, h⟩ := gOb h
    refine g_callS_v (As := [.ref (ε.2.2.1 19 4), .int s0]) (rest := []) (ct_Mo_put 19 4 197 (gMo_h4 hM) M16 s0 _ hq17) d_Mo_searched_83 ca_Mo_put w_1096 rfl rfl (Nat.le_of_ble_eq_true rfl) ⟨(Nat.le_of_ble_eq_true rfl), (Nat.le_of_ble_eq_true rfl)⟩ ?_
    refine g_iinc (v := (x3 + 1)) (L' := [(3, .int (x3 + 1)), (4, .int s0), (0, .ref (ε.2.2.1 19 0)), (2, .int x2)]) d_Mo_searched_86 (j := 3) rfl rfl (by decide) rfl ?_
    refine g_aload_n d_Mo_searched_89 rfl 2 rfl ?_
    refine g_aload_n d_Mo_searched_90 rfl 2 rfl ?_
    refine g_getR d_Mo_searched_91 fl_Mo_19 (gMo_h0 hM) rfl ?_
    refine g_iload_n d_Mo_searched_94 rfl 0 rfl ?_
    refine g_iload_n d_Mo_searched_95 rfl 3 rfl ?_
    obtain ⟨q18, hq18, h⟩ := gOb h
    refine g_callV_v (As := [.ref (ε.2.2.1 19 4), .int (x3 + 1), .int x2]) (rest := []) (ct_Mo_push hM 19 4 197 (gMo_h4 hM) q17 (x3 + 1) x2 _ hq18) d_Mo_searched_96 ca_Mo_push w_1219 (gMo_h0 hM) rfl rfl rfl (Nat.le_of_ble_eq_true rfl) ⟨(Nat.le_of_ble_eq_true rfl), (Nat.le_of_ble_eq_true rfl)⟩ ?_
    refine g_goto (tgt := 193) d_Mo_searched_99 (by decide) ?_
    refine gGo_sub [2, 3, 0] rfl ?_
    exact t_Mo_searched_b193 g0 c0 n0 hM h0 q18 x2 (x3 + 1) _ h r k1 k2
noncomputable def f_Mo_searched_s9 (g0 : Nat) (c0 : Nat) (n0 : Nat) (M : gMem) (x2 : Int32) (x3 : Int32) : Option ((Int32 × gMem) ⊕ (Int32 × gMem)) :=
  if x3 < 0 then
    (gRd 14 (M 19 7) 0).bind fun v2 =>
    some (.inr (v2, M))
  else
    (f_Mo_copyState 19 5 2758 19 4 197 M (197 * x3) 0).bind fun q3 =>
    (gRd 197 (q3 19 4) 1).bind fun v4 =>
    if v4 = 2 then
      (gRd 14 (q3 19 6) x3).bind fun v20 =>
      (f_Mo_nextLegal 19 4 197 q3 v20).bind fun q21 =>
      f_Mo_searched_b58 g0 c0 n0 q3 x2 x3 q21
    else
      f_Mo_searched_b58 g0 c0 n0 q3 x2 x3 32
theorem t_Mo_searched_s9 {l : Launch} {ε : gEnv} (g0 : Nat) (c0 : Nat) (n0 : Nat) (hM : gMo ε) (h0 : gHas ε g0 c0 (0, n0, [])) (M : gMem) (x2 : Int32) (x3 : Int32) (res : ((Int32 × gMem) ⊕ (Int32 × gMem))) (h : f_Mo_searched_s9 g0 c0 n0 M x2 x3 = some res) (r : (Int32 × gMem)) (k1 : ∀ s0 : (Int32 × gMem), res = .inl s0 → gGo l ε k_Mo_searched (gR 5 103) (gFn ε (some (.int r.1)) r.2) 9 [(0, .ref (ε.2.2.1 19 0)), (2, .int x2), (3, .int s0.1)] [] s0.2) (k2 : ∀ r', res = .inr r' → r' = r) : gGo l ε k_Mo_searched (gR 5 103) (gFn ε (some (.int r.1)) r.2) 9 [(0, .ref (ε.2.2.1 19 0)), (2, .int x2), (3, .int x3)] [] M := by
  unfold f_Mo_searched_s9 at h
  refine g_iload_n d_Mo_searched_9 rfl 2 rfl ?_
  refine g_if_lt (tgt := 196) d_Mo_searched_10 (by decide) (fun c23 => ?_) (fun c23 => ?_)
  · rw [if_pos c23] at h
    refine g_aload_n d_Mo_searched_196 rfl 0 rfl ?_
    refine g_getR d_Mo_searched_197 fl_Mo_28 (gMo_h0 hM) rfl ?_
    refine g_iconst (v := 0) d_Mo_searched_200 (by decide) ?_
    obtain ⟨v2, hv2, h⟩ := gOb h
    refine g_iaload d_Mo_searched_201 (gMo_h7 hM) hv2 ?_
    obtain rfl := Option.some.inj h
    have e9 := k2 _ rfl
    subst e9
    exact g_iret d_Mo_searched_202 rfl
  · rw [if_neg c23] at h
    refine g_aload_n d_Mo_searched_13 rfl 0 rfl ?_
    refine g_getR d_Mo_searched_14 fl_Mo_22 (gMo_h0 hM) rfl ?_
    refine g_sipush (v := 197) d_Mo_searched_17 (by decide) ?_
    refine g_iload_n d_Mo_searched_20 rfl 2 rfl ?_
    refine g_imul d_Mo_searched_21 ?_
    refine g_aload_n d_Mo_searched_22 rfl 0 rfl ?_
    refine g_getR d_Mo_searched_23 fl_Mo_19 (gMo_h0 hM) rfl ?_
    refine g_iconst (v := 0) d_Mo_searched_26 (by decide) ?_
    obtain ⟨q3, hq3, h⟩ := gOb h
    refine g_callS_v (As := [.ref (ε.2.2.1 19 5), .int (197 * x3), .ref (ε.2.2.1 19 4), .int 0]) (rest := []) (ct_Mo_copyState 19 5 2758 19 4 197 (gMo_h5 hM) (gMo_h4 hM) M (197 * x3) 0 _ hq3) d_Mo_searched_27 ca_Mo_copyState w_1136 rfl rfl (Nat.le_of_ble_eq_true rfl) ⟨(Nat.le_of_ble_eq_true rfl), (Nat.le_of_ble_eq_true rfl)⟩ ?_
    refine g_aload_n d_Mo_searched_30 rfl 0 rfl ?_
    refine g_getR d_Mo_searched_31 fl_Mo_19 (gMo_h0 hM) rfl ?_
    refine g_iconst (v := 1) d_Mo_searched_34 (by decide) ?_
    obtain ⟨v4, hv4, h⟩ := gOb h
    refine g_iaload d_Mo_searched_35 (gMo_h4 hM) hv4 ?_
    refine g_iconst (v := 2) d_Mo_searched_36 (by decide) ?_
    refine g_icmp_ne (tgt := 56) d_Mo_searched_37 (by decide) (fun c22 => ?_) (fun c22 => ?_)
    · rw [if_neg c22] at h
      refine g_bipush (v := 32) d_Mo_searched_56 (by decide) ?_
      exact t_Mo_searched_b58 g0 c0 n0 hM h0 q3 x2 x3 32 _ h r k1 k2
    · rw [if_pos c22] at h
      refine g_aload_n d_Mo_searched_40 rfl 0 rfl ?_
      refine g_getR d_Mo_searched_41 fl_Mo_19 (gMo_h0 hM) rfl ?_
      refine g_aload_n d_Mo_searched_44 rfl 0 rfl ?_
      refine g_getR d_Mo_searched_45 fl_Mo_25 (gMo_h0 hM) rfl ?_
      refine g_iload_n d_Mo_searched_48 rfl 2 rfl ?_
      obtain ⟨v20, hv20, h⟩ := gOb h
      refine g_iaload d_Mo_searched_49 (gMo_h6 hM) hv20 ?_
      obtain ⟨q21, hq21, h⟩ := gOb h
      refine g_callS_i (As := [.ref (ε.2.2.1 19 4), .int v20]) (rest := []) (ct_Mo_nextLegal 19 4 197 (gMo_h4 hM) q3 v20 _ hq21) d_Mo_searched_50 ca_Mo_nextLegal w_1223 rfl rfl (Nat.le_of_ble_eq_true rfl) ⟨(Nat.le_of_ble_eq_true rfl), (Nat.le_of_ble_eq_true rfl)⟩ ?_
      refine g_goto (tgt := 58) d_Mo_searched_53 (by decide) ?_
      exact t_Mo_searched_b58 g0 c0 n0 hM h0 q3 x2 x3 q21 _ h r k1 k2
noncomputable def f_Mo_searched_l9 (g0 : Nat) (c0 : Nat) (n0 : Nat) (x2 : Int32) (s : (Int32 × gMem)) : Option (Int32 × gMem) := gLp (fun s => f_Mo_searched_s9 g0 c0 n0 s.2 x2 s.1) s
theorem t_Mo_searched_l9 {l : Launch} {ε : gEnv} (g0 : Nat) (c0 : Nat) (n0 : Nat) (hM : gMo ε) (h0 : gHas ε g0 c0 (0, n0, [])) (x2 : Int32) (s : (Int32 × gMem)) (r : (Int32 × gMem)) (h : f_Mo_searched_l9 g0 c0 n0 x2 s = some r) : gGo l ε k_Mo_searched (gR 5 103) (gFn ε (some (.int r.1)) r.2) 9 [(0, .ref (ε.2.2.1 19 0)), (2, .int x2), (3, .int s.1)] [] s.2 :=
  g_loop _ (fun r s => gGo l ε k_Mo_searched (gR 5 103) (gFn ε (some (.int r.1)) r.2) 9 [(0, .ref (ε.2.2.1 19 0)), (2, .int x2), (3, .int s.1)] [] s.2) (fun s res h r k1 k2 => t_Mo_searched_s9 g0 c0 n0 hM h0 s.2 x2 s.1 res h r k1 k2) s r h
noncomputable def f_Mo_searched (g0 : Nat) (c0 : Nat) (n0 : Nat) (M : gMem) (a1 : Int32) : Option (Int32 × gMem) :=
  (f_Mo_push g0 c0 n0 M 0 a1).bind fun q1 =>
  f_Mo_searched_l9 g0 c0 n0 a1 (0, q1)
theorem t_Mo_searched {l : Launch} {ε : gEnv} (g0 : Nat) (c0 : Nat) (n0 : Nat) (hM : gMo ε) (h0 : gHas ε g0 c0 (0, n0, [])) (M : gMem) (a1 : Int32) (r : (Int32 × gMem)) (h : f_Mo_searched g0 c0 n0 M a1 = some r) : gGo l ε k_Mo_searched (gR 5 103) (gFn ε (some (.int r.1)) r.2) 0 [(0, .ref (ε.2.2.1 19 0)), (1, .ref (ε.2.2.1 g0 c0)), (2, .int a1)] [] M := by
  unfold f_Mo_searched at h
  refine g_aload_n d_Mo_searched_0 rfl 0 rfl ?_
  refine g_aload_n d_Mo_searched_1 rfl 1 rfl ?_
  refine g_iconst (v := 0) d_Mo_searched_2 (by decide) ?_
  refine g_iload_n d_Mo_searched_3 rfl 2 rfl ?_
  obtain ⟨q1, hq1, h⟩ := gOb h
  refine g_callV_v (As := [.ref (ε.2.2.1 g0 c0), .int 0, .int a1]) (rest := []) (ct_Mo_push hM g0 c0 n0 h0 M 0 a1 _ hq1) d_Mo_searched_4 ca_Mo_push w_1219 (gMo_h0 hM) rfl rfl rfl (Nat.le_of_ble_eq_true rfl) ⟨(Nat.le_of_ble_eq_true rfl), (Nat.le_of_ble_eq_true rfl)⟩ ?_
  refine g_iconst (v := 0) d_Mo_searched_7 (by decide) ?_
  refine g_istore_n (L' := [(3, .int 0), (0, .ref (ε.2.2.1 19 0)), (1, .ref (ε.2.2.1 g0 c0)), (2, .int a1)]) d_Mo_searched_8 rfl (by decide) rfl ?_
  refine gGo_sub [1, 3, 0] rfl ?_
  exact t_Mo_searched_l9 g0 c0 n0 hM h0 a1 (0, q1) _ h
theorem ct_Mo_searched {l : Launch} {ε : gEnv} (hM : gMo ε) (g0 : Nat) (c0 : Nat) (n0 : Nat) (h0 : gHas ε g0 c0 (0, n0, [])) (M : gMem) (a1 : Int32) (r : (Int32 × gMem)) (h : f_Mo_searched g0 c0 n0 M a1 = some r) : gCt l ε k_Mo_searched 5 103 [.ref (ε.2.2.1 19 0), .ref (ε.2.2.1 g0 c0), .int a1] M (some (.int r.1)) r.2 :=
  gCt_of (by decide) (Nat.le_of_ble_eq_true rfl) rfl (t_Mo_searched g0 c0 n0 hM h0 M a1 r h)
abbrev k_Mo_most : gMD := (⟨"DropSignalsModel", "most", "(I)I"⟩, prog_11_method_59_code, 3, (some .int))
theorem w_1208 : Cond.instanceMethod ⟨"DropSignalsModel", "most", "(I)I"⟩ ∈ gWs := gWs_in (i := 1208) (by decide +kernel) rfl
theorem w_1209 : Cond.selects "DropSignalsModel" ⟨"DropSignalsModel", "most", "(I)I"⟩ ⟨"DropSignalsModel", "most", "(I)I"⟩ ∈ gWs := gWs_in (i := 1209) (by decide +kernel) rfl
set_option maxRecDepth 100000 in
theorem ca_Mo_most : gCaV k_Mo_most 1 := ⟨⟨gWs_in (i := 1210) rfl rfl, w_43, by decide, by decide, by decide +kernel⟩, w_1208, w_1209⟩
theorem d_Mo_most_0 : decode prog_11_method_59_code 0 = .ok (.aload_n 0, 1) := by decide +kernel
theorem d_Mo_most_1 : decode prog_11_method_59_code 1 = .ok (.iload_n 1, 1) := by decide +kernel
theorem d_Mo_most_2 : decode prog_11_method_59_code 2 = .ok (.i2l, 1) := by decide +kernel
theorem d_Mo_most_3 : decode prog_11_method_59_code 3 = .ok (.lconst 0, 1) := by decide +kernel
theorem d_Mo_most_4 : decode prog_11_method_59_code 4 = .ok (.lconst 1, 1) := by decide +kernel
theorem d_Mo_most_5 : decode prog_11_method_59_code 5 = .ok (.invokestatic 84, 3) := by decide +kernel
theorem d_Mo_most_8 : decode prog_11_method_59_code 8 = .ok (.ifCond .ne 7, 3) := by decide +kernel
theorem d_Mo_most_11 : decode prog_11_method_59_code 11 = .ok (.iconst 1, 1) := by decide +kernel
theorem d_Mo_most_12 : decode prog_11_method_59_code 12 = .ok (.goto 15, 3) := by decide +kernel
theorem d_Mo_most_15 : decode prog_11_method_59_code 15 = .ok (.aload_n 0, 1) := by decide +kernel
theorem d_Mo_most_16 : decode prog_11_method_59_code 16 = .ok (.invokevirtual 210, 3) := by decide +kernel
theorem d_Mo_most_19 : decode prog_11_method_59_code 19 = .ok (.ifCond .eq 7, 3) := by decide +kernel
theorem d_Mo_most_22 : decode prog_11_method_59_code 22 = .ok (.iconst 0, 1) := by decide +kernel
theorem d_Mo_most_23 : decode prog_11_method_59_code 23 = .ok (.goto 4, 3) := by decide +kernel
theorem d_Mo_most_26 : decode prog_11_method_59_code 26 = .ok (.iconst 2, 1) := by decide +kernel
theorem d_Mo_most_27 : decode prog_11_method_59_code 27 = .ok (.invokevirtual 127, 3) := by decide +kernel
theorem d_Mo_most_30 : decode prog_11_method_59_code 30 = .ok (.ifCond .eq 5, 3) := by decide +kernel
theorem d_Mo_most_33 : decode prog_11_method_59_code 33 = .ok (.iconst 0, 1) := by decide +kernel
theorem d_Mo_most_34 : decode prog_11_method_59_code 34 = .ok (.ireturn, 1) := by decide +kernel
theorem d_Mo_most_35 : decode prog_11_method_59_code 35 = .ok (.aload_n 0, 1) := by decide +kernel
theorem d_Mo_most_36 : decode prog_11_method_59_code 36 = .ok (.getfield 13, 3) := by decide +kernel
theorem d_Mo_most_39 : decode prog_11_method_59_code 39 = .ok (.iconst 2, 1) := by decide +kernel
theorem d_Mo_most_40 : decode prog_11_method_59_code 40 = .ok (.iaload, 1) := by decide +kernel
theorem d_Mo_most_41 : decode prog_11_method_59_code 41 = .ok (.iconst 2, 1) := by decide +kernel
theorem d_Mo_most_42 : decode prog_11_method_59_code 42 = .ok (.irem, 1) := by decide +kernel
theorem d_Mo_most_43 : decode prog_11_method_59_code 43 = .ok (.istore_n 2, 1) := by decide +kernel
theorem d_Mo_most_44 : decode prog_11_method_59_code 44 = .ok (.aload_n 0, 1) := by decide +kernel
theorem d_Mo_most_45 : decode prog_11_method_59_code 45 = .ok (.aload_n 0, 1) := by decide +kernel
theorem d_Mo_most_46 : decode prog_11_method_59_code 46 = .ok (.getfield 13, 3) := by decide +kernel
theorem d_Mo_most_49 : decode prog_11_method_59_code 49 = .ok (.iload_n 2, 1) := by decide +kernel
theorem d_Mo_most_50 : decode prog_11_method_59_code 50 = .ok (.invokevirtual 214, 3) := by decide +kernel
theorem d_Mo_most_53 : decode prog_11_method_59_code 53 = .ok (.aload_n 0, 1) := by decide +kernel
theorem d_Mo_most_54 : decode prog_11_method_59_code 54 = .ok (.getfield 13, 3) := by decide +kernel
theorem d_Mo_most_57 : decode prog_11_method_59_code 57 = .ok (.iconst 5, 1) := by decide +kernel
theorem d_Mo_most_58 : decode prog_11_method_59_code 58 = .ok (.iload_n 2, 1) := by decide +kernel
theorem d_Mo_most_59 : decode prog_11_method_59_code 59 = .ok (.iadd, 1) := by decide +kernel
theorem d_Mo_most_60 : decode prog_11_method_59_code 60 = .ok (.iaload, 1) := by decide +kernel
theorem d_Mo_most_61 : decode prog_11_method_59_code 61 = .ok (.isub, 1) := by decide +kernel
theorem d_Mo_most_62 : decode prog_11_method_59_code 62 = .ok (.ireturn, 1) := by decide +kernel
theorem w_1211 : Cond.methodLink "DropSignalsModel" 210 ⟨"DropSignalsModel", "isNearEnd", "()Z"⟩ ∈ gWs := gWs_in (i := 1211) (by decide +kernel) rfl
theorem w_1215 : Cond.methodLink "DropSignalsModel" 214 ⟨"DropSignalsModel", "searched", "([II)I"⟩ ∈ gWs := gWs_in (i := 1215) (by decide +kernel) rfl
noncomputable def f_Mo_most_b27 (M : gMem) (s0 : Int32) : Option (Int32 × gMem) :=
  (f_Mo_refused M s0).bind fun q3 =>
  if q3.1 = 0 then
    (gRd 197 (q3.2 19 2) 2).bind fun v4 =>
    (f_Mo_searched 19 2 197 q3.2 (gRem v4 2)).bind fun q5 =>
    (gRd 197 (q5.2 19 2) (5 + (gRem v4 2))).bind fun v6 =>
    some ((q5.1 - v6), q5.2)
  else
    some (0, q3.2)
theorem t_Mo_most_b27 {l : Launch} {ε : gEnv} (hM : gMo ε) (M : gMem) (s0 : Int32) (r : (Int32 × gMem)) (h : f_Mo_most_b27 M s0 = some r) : gGo l ε k_Mo_most (gR 6 129) (gFn ε (some (.int r.1)) r.2) 27 [(0, .ref (ε.2.2.1 19 0))] [.int s0, .ref (ε.2.2.1 19 0)] M := by
  unfold f_Mo_most_b27 at h
  obtain ⟨q3, hq3, h⟩ := gOb h
  refine g_callV_i (As := [.int s0]) (rest := []) (ct_Mo_refused hM M s0 _ hq3) d_Mo_most_27 ca_Mo_refused w_1034 (gMo_h0 hM) rfl rfl rfl (Nat.le_of_ble_eq_true rfl) ⟨(Nat.le_of_ble_eq_true rfl), (Nat.le_of_ble_eq_true rfl)⟩ ?_
  refine g_if_eq (tgt := 35) d_Mo_most_30 (by decide) (fun c7 => ?_) (fun c7 => ?_)
  · rw [if_pos c7] at h
    refine g_aload_n d_Mo_most_35 rfl 0 rfl ?_
    refine g_getR d_Mo_most_36 fl_Mo_13 (gMo_h0 hM) rfl ?_
    refine g_iconst (v := 2) d_Mo_most_39 (by decide) ?_
    obtain ⟨v4, hv4, h⟩ := gOb h
    refine g_iaload d_Mo_most_40 (gMo_h2 hM) hv4 ?_
    refine g_iconst (v := 2) d_Mo_most_41 (by decide) ?_
    refine g_rem d_Mo_most_42 (by decide) ?_
    refine g_istore_n (L' := [(2, .int (gRem v4 2)), (0, .ref (ε.2.2.1 19 0))]) d_Mo_most_43 rfl (by decide) rfl ?_
    refine g_aload_n d_Mo_most_44 rfl 1 rfl ?_
    refine g_aload_n d_Mo_most_45 rfl 1 rfl ?_
    refine g_getR d_Mo_most_46 fl_Mo_13 (gMo_h0 hM) rfl ?_
    refine g_iload_n d_Mo_most_49 rfl 0 rfl ?_
    obtain ⟨q5, hq5, h⟩ := gOb h
    refine g_callV_i (As := [.ref (ε.2.2.1 19 2), .int (gRem v4 2)]) (rest := []) (ct_Mo_searched hM 19 2 197 (gMo_h2 hM) q3.2 (gRem v4 2) _ hq5) d_Mo_most_50 ca_Mo_searched w_1215 (gMo_h0 hM) rfl rfl rfl (Nat.le_of_ble_eq_true rfl) ⟨(Nat.le_of_ble_eq_true rfl), (Nat.le_of_ble_eq_true rfl)⟩ ?_
    refine g_aload_n d_Mo_most_53 rfl 1 rfl ?_
    refine g_getR d_Mo_most_54 fl_Mo_13 (gMo_h0 hM) rfl ?_
    refine g_iconst (v := 5) d_Mo_most_57 (by decide) ?_
    refine g_iload_n d_Mo_most_58 rfl 0 rfl ?_
    refine g_iadd d_Mo_most_59 ?_
    obtain ⟨v6, hv6, h⟩ := gOb h
    refine g_iaload d_Mo_most_60 (gMo_h2 hM) hv6 ?_
    refine g_isub d_Mo_most_61 ?_
    obtain rfl := Option.some.inj h
    exact g_iret d_Mo_most_62 rfl
  · rw [if_neg c7] at h
    refine g_iconst (v := 0) d_Mo_most_33 (by decide) ?_
    obtain rfl := Option.some.inj h
    exact g_iret d_Mo_most_34 rfl
noncomputable def f_Mo_most (M : gMem) (a0 : Int32) : Option (Int32 × gMem) :=
  (f_Mo_in (Int32.toInt64 a0) 0 1).bind fun q1 =>
  if q1 = 0 then
    f_Mo_most_b27 M 1
  else
    (f_Mo_isNearEnd M).bind fun q2 =>
    if q2 = 0 then
      f_Mo_most_b27 M 2
    else
      f_Mo_most_b27 M 0
theorem t_Mo_most {l : Launch} {ε : gEnv} (hM : gMo ε) (M : gMem) (a0 : Int32) (r : (Int32 × gMem)) (h : f_Mo_most M a0 = some r) : gGo l ε k_Mo_most (gR 6 129) (gFn ε (some (.int r.1)) r.2) 0 [(0, .ref (ε.2.2.1 19 0)), (1, .int a0)] [] M := by
  unfold f_Mo_most at h
  refine g_aload_n d_Mo_most_0 rfl 0 rfl ?_
  refine g_iload_n d_Mo_most_1 rfl 1 rfl ?_
  refine g_i2l d_Mo_most_2 ?_
  refine g_lconst (v := 0) d_Mo_most_3 (by decide) ?_
  refine g_lconst (v := 1) d_Mo_most_4 (by decide) ?_
  obtain ⟨q1, hq1, h⟩ := gOb h
  refine g_callS_i (As := [.long (Int32.toInt64 a0), .long 0, .long 1]) (rest := [.ref (ε.2.2.1 19 0)]) (ct_Mo_in M (Int32.toInt64 a0) 0 1 _ hq1) d_Mo_most_5 ca_Mo_in w_1031 rfl rfl (Nat.le_of_ble_eq_true rfl) ⟨(Nat.le_of_ble_eq_true rfl), (Nat.le_of_ble_eq_true rfl)⟩ ?_
  refine g_if_ne (tgt := 15) d_Mo_most_8 (by decide) (fun c9 => ?_) (fun c9 => ?_)
  · rw [if_neg c9] at h
    refine g_aload_n d_Mo_most_15 rfl 0 rfl ?_
    obtain ⟨q2, hq2, h⟩ := gOb h
    refine g_callV_i (As := []) (rest := [.ref (ε.2.2.1 19 0)]) (ct_Mo_isNearEnd hM M _ hq2) d_Mo_most_16 ca_Mo_isNearEnd w_1211 (gMo_h0 hM) rfl rfl rfl (Nat.le_of_ble_eq_true rfl) ⟨(Nat.le_of_ble_eq_true rfl), (Nat.le_of_ble_eq_true rfl)⟩ ?_
    refine g_if_eq (tgt := 26) d_Mo_most_19 (by decide) (fun c8 => ?_) (fun c8 => ?_)
    · rw [if_pos c8] at h
      refine g_iconst (v := 2) d_Mo_most_26 (by decide) ?_
      refine gGo_sub [0] rfl ?_
      exact t_Mo_most_b27 hM M 2 _ h
    · rw [if_neg c8] at h
      refine g_iconst (v := 0) d_Mo_most_22 (by decide) ?_
      refine g_goto (tgt := 27) d_Mo_most_23 (by decide) ?_
      refine gGo_sub [0] rfl ?_
      exact t_Mo_most_b27 hM M 0 _ h
  · rw [if_pos c9] at h
    refine g_iconst (v := 1) d_Mo_most_11 (by decide) ?_
    refine g_goto (tgt := 27) d_Mo_most_12 (by decide) ?_
    refine gGo_sub [0] rfl ?_
    exact t_Mo_most_b27 hM M 1 _ h
theorem ct_Mo_most {l : Launch} {ε : gEnv} (hM : gMo ε) (M : gMem) (a0 : Int32) (r : (Int32 × gMem)) (h : f_Mo_most M a0 = some r) : gCt l ε k_Mo_most 6 129 [.ref (ε.2.2.1 19 0), .int a0] M (some (.int r.1)) r.2 :=
  gCt_of (by decide) (Nat.le_of_ble_eq_true rfl) rfl (t_Mo_most hM M a0 r h)
abbrev k_Mo_bestCard : gMD := (⟨"DropSignalsModel", "bestCard", "()I"⟩, prog_11_method_60_code, 4, (some .int))
theorem w_1227 : Cond.instanceMethod ⟨"DropSignalsModel", "bestCard", "()I"⟩ ∈ gWs := gWs_in (i := 1227) (by decide +kernel) rfl
theorem w_1228 : Cond.selects "DropSignalsModel" ⟨"DropSignalsModel", "bestCard", "()I"⟩ ⟨"DropSignalsModel", "bestCard", "()I"⟩ ∈ gWs := gWs_in (i := 1228) (by decide +kernel) rfl
set_option maxRecDepth 100000 in
theorem ca_Mo_bestCard : gCaV k_Mo_bestCard 0 := ⟨⟨gWs_in (i := 1229) rfl rfl, w_43, by decide, by decide, by decide +kernel⟩, w_1227, w_1228⟩
theorem d_Mo_bestCard_0 : decode prog_11_method_60_code 0 = .ok (.aload_n 0, 1) := by decide +kernel
theorem d_Mo_bestCard_1 : decode prog_11_method_60_code 1 = .ok (.aload_n 0, 1) := by decide +kernel
theorem d_Mo_bestCard_2 : decode prog_11_method_60_code 2 = .ok (.invokevirtual 210, 3) := by decide +kernel
theorem d_Mo_bestCard_5 : decode prog_11_method_60_code 5 = .ok (.ifCond .eq 7, 3) := by decide +kernel
theorem d_Mo_bestCard_8 : decode prog_11_method_60_code 8 = .ok (.iconst 0, 1) := by decide +kernel
theorem d_Mo_bestCard_9 : decode prog_11_method_60_code 9 = .ok (.goto 4, 3) := by decide +kernel
theorem d_Mo_bestCard_12 : decode prog_11_method_60_code 12 = .ok (.iconst 1, 1) := by decide +kernel
theorem d_Mo_bestCard_13 : decode prog_11_method_60_code 13 = .ok (.invokevirtual 127, 3) := by decide +kernel
theorem d_Mo_bestCard_16 : decode prog_11_method_60_code 16 = .ok (.ifCond .eq 5, 3) := by decide +kernel
theorem d_Mo_bestCard_19 : decode prog_11_method_60_code 19 = .ok (.iconst 0, 1) := by decide +kernel
theorem d_Mo_bestCard_20 : decode prog_11_method_60_code 20 = .ok (.ireturn, 1) := by decide +kernel
theorem d_Mo_bestCard_21 : decode prog_11_method_60_code 21 = .ok (.aload_n 0, 1) := by decide +kernel
theorem d_Mo_bestCard_22 : decode prog_11_method_60_code 22 = .ok (.getfield 13, 3) := by decide +kernel
theorem d_Mo_bestCard_25 : decode prog_11_method_60_code 25 = .ok (.iconst 2, 1) := by decide +kernel
theorem d_Mo_bestCard_26 : decode prog_11_method_60_code 26 = .ok (.iaload, 1) := by decide +kernel
theorem d_Mo_bestCard_27 : decode prog_11_method_60_code 27 = .ok (.iconst 2, 1) := by decide +kernel
theorem d_Mo_bestCard_28 : decode prog_11_method_60_code 28 = .ok (.irem, 1) := by decide +kernel
theorem d_Mo_bestCard_29 : decode prog_11_method_60_code 29 = .ok (.istore_n 1, 1) := by decide +kernel
theorem d_Mo_bestCard_30 : decode prog_11_method_60_code 30 = .ok (.aload_n 0, 1) := by decide +kernel
theorem d_Mo_bestCard_31 : decode prog_11_method_60_code 31 = .ok (.aload_n 0, 1) := by decide +kernel
theorem d_Mo_bestCard_32 : decode prog_11_method_60_code 32 = .ok (.getfield 13, 3) := by decide +kernel
theorem d_Mo_bestCard_35 : decode prog_11_method_60_code 35 = .ok (.iload_n 1, 1) := by decide +kernel
theorem d_Mo_bestCard_36 : decode prog_11_method_60_code 36 = .ok (.invokevirtual 214, 3) := by decide +kernel
theorem d_Mo_bestCard_39 : decode prog_11_method_60_code 39 = .ok (.istore_n 2, 1) := by decide +kernel
theorem d_Mo_bestCard_40 : decode prog_11_method_60_code 40 = .ok (.iconst 0, 1) := by decide +kernel
theorem d_Mo_bestCard_41 : decode prog_11_method_60_code 41 = .ok (.istore_n 3, 1) := by decide +kernel
theorem d_Mo_bestCard_42 : decode prog_11_method_60_code 42 = .ok (.iload_n 3, 1) := by decide +kernel
theorem d_Mo_bestCard_43 : decode prog_11_method_60_code 43 = .ok (.bipush 32, 2) := by decide +kernel
theorem d_Mo_bestCard_45 : decode prog_11_method_60_code 45 = .ok (.if_icmp .ge 56, 3) := by decide +kernel
theorem d_Mo_bestCard_48 : decode prog_11_method_60_code 48 = .ok (.aload_n 0, 1) := by decide +kernel
theorem d_Mo_bestCard_49 : decode prog_11_method_60_code 49 = .ok (.getfield 13, 3) := by decide +kernel
theorem d_Mo_bestCard_52 : decode prog_11_method_60_code 52 = .ok (.iload_n 3, 1) := by decide +kernel
theorem d_Mo_bestCard_53 : decode prog_11_method_60_code 53 = .ok (.invokestatic 74, 3) := by decide +kernel
theorem d_Mo_bestCard_56 : decode prog_11_method_60_code 56 = .ok (.ifCond .ne 39, 3) := by decide +kernel
theorem d_Mo_bestCard_59 : decode prog_11_method_60_code 59 = .ok (.aload_n 0, 1) := by decide +kernel
theorem d_Mo_bestCard_60 : decode prog_11_method_60_code 60 = .ok (.getfield 13, 3) := by decide +kernel
theorem d_Mo_bestCard_63 : decode prog_11_method_60_code 63 = .ok (.iconst 0, 1) := by decide +kernel
theorem d_Mo_bestCard_64 : decode prog_11_method_60_code 64 = .ok (.aload_n 0, 1) := by decide +kernel
theorem d_Mo_bestCard_65 : decode prog_11_method_60_code 65 = .ok (.getfield 16, 3) := by decide +kernel
theorem d_Mo_bestCard_68 : decode prog_11_method_60_code 68 = .ok (.iconst 0, 1) := by decide +kernel
theorem d_Mo_bestCard_69 : decode prog_11_method_60_code 69 = .ok (.invokestatic 172, 3) := by decide +kernel
theorem d_Mo_bestCard_72 : decode prog_11_method_60_code 72 = .ok (.aload_n 0, 1) := by decide +kernel
theorem d_Mo_bestCard_73 : decode prog_11_method_60_code 73 = .ok (.getfield 16, 3) := by decide +kernel
theorem d_Mo_bestCard_76 : decode prog_11_method_60_code 76 = .ok (.iload_n 3, 1) := by decide +kernel
theorem d_Mo_bestCard_77 : decode prog_11_method_60_code 77 = .ok (.invokestatic 105, 3) := by decide +kernel
theorem d_Mo_bestCard_80 : decode prog_11_method_60_code 80 = .ok (.aload_n 0, 1) := by decide +kernel
theorem d_Mo_bestCard_81 : decode prog_11_method_60_code 81 = .ok (.aload_n 0, 1) := by decide +kernel
theorem d_Mo_bestCard_82 : decode prog_11_method_60_code 82 = .ok (.getfield 16, 3) := by decide +kernel
theorem d_Mo_bestCard_85 : decode prog_11_method_60_code 85 = .ok (.iload_n 1, 1) := by decide +kernel
theorem d_Mo_bestCard_86 : decode prog_11_method_60_code 86 = .ok (.invokevirtual 214, 3) := by decide +kernel
theorem d_Mo_bestCard_89 : decode prog_11_method_60_code 89 = .ok (.iload_n 2, 1) := by decide +kernel
theorem d_Mo_bestCard_90 : decode prog_11_method_60_code 90 = .ok (.if_icmp .ne 5, 3) := by decide +kernel
theorem d_Mo_bestCard_93 : decode prog_11_method_60_code 93 = .ok (.iload_n 3, 1) := by decide +kernel
theorem d_Mo_bestCard_94 : decode prog_11_method_60_code 94 = .ok (.ireturn, 1) := by decide +kernel
theorem d_Mo_bestCard_95 : decode prog_11_method_60_code 95 = .ok (.iinc 3 1, 3) := by decide +kernel
theorem d_Mo_bestCard_98 : decode prog_11_method_60_code 98 = .ok (.goto (-56), 3) := by decide +kernel
theorem d_Mo_bestCard_101 : decode prog_11_method_60_code 101 = .ok (.iconst (-1), 1) := by decide +kernel
theorem d_Mo_bestCard_102 : decode prog_11_method_60_code 102 = .ok (.ireturn, 1) := by decide +kernel
noncomputable def f_Mo_bestCard_b95 (M : gMem) (x1 : Int32) (x2 : Int32) (x3 : Int32) : Option ((Int32 × gMem) ⊕ (Int32 × gMem)) :=
  some (.inl ((x3 + 1), M))
theorem t_Mo_bestCard_b95 {l : Launch} {ε : gEnv} (hM : gMo ε) (M : gMem) (x1 : Int32) (x2 : Int32) (x3 : Int32) (res : ((Int32 × gMem) ⊕ (Int32 × gMem))) (h : f_Mo_bestCard_b95 M x1 x2 x3 = some res) (r : (Int32 × gMem)) (k1 : ∀ s0 : (Int32 × gMem), res = .inl s0 → gGo l ε k_Mo_bestCard (gR 6 129) (gFn ε (some (.int r.1)) r.2) 42 [(0, .ref (ε.2.2.1 19 0)), (1, .int x1), (2, .int x2), (3, .int s0.1)] [] s0.2) (k2 : ∀ r', res = .inr r' → r' = r) : gGo l ε k_Mo_bestCard (gR 6 129) (gFn ε (some (.int r.1)) r.2) 95 [(0, .ref (ε.2.2.1 19 0)), (1, .int x1), (2, .int x2), (3, .int x3)] [] M := by
  unfold f_Mo_bestCard_b95 at h
  refine g_iinc (v := (x3 + 1)) (L' := [(3, .int (x3 + 1)), (0, .ref (ε.2.2.1 19 0)), (1, .int x1), (2, .int x2)]) d_Mo_bestCard_95 (j := 3) rfl rfl (by decide) rfl ?_
  refine g_goto (tgt := 42) d_Mo_bestCard_98 (by decide) ?_
  refine gGo_sub [1, 2, 3, 0] rfl ?_
  obtain rfl := Option.some.inj h
  exact k1 ((x3 + 1), M) rfl
noncomputable def f_Mo_bestCard_s42 (M : gMem) (x1 : Int32) (x2 : Int32) (x3 : Int32) : Option ((Int32 × gMem) ⊕ (Int32 × gMem)) :=
  if 32 ≤ x3 then
    some (.inr ((-1), M))
  else
    (f_Mo_reason 19 2 197 M x3).bind fun q5 =>
    if q5 = 0 then
      (f_Mo_copyState 19 2 197 19 3 197 M 0 0).bind fun q6 =>
      (f_Mo_put 19 3 197 q6 x3).bind fun q7 =>
      (f_Mo_searched 19 3 197 q7 x1).bind fun q8 =>
      if q8.1 = x2 then
        some (.inr (x3, q8.2))
      else
        f_Mo_bestCard_b95 q8.2 x1 x2 x3
    else
      f_Mo_bestCard_b95 M x1 x2 x3
theorem t_Mo_bestCard_s42 {l : Launch} {ε : gEnv} (hM : gMo ε) (M : gMem) (x1 : Int32) (x2 : Int32) (x3 : Int32) (res : ((Int32 × gMem) ⊕ (Int32 × gMem))) (h : f_Mo_bestCard_s42 M x1 x2 x3 = some res) (r : (Int32 × gMem)) (k1 : ∀ s0 : (Int32 × gMem), res = .inl s0 → gGo l ε k_Mo_bestCard (gR 6 129) (gFn ε (some (.int r.1)) r.2) 42 [(0, .ref (ε.2.2.1 19 0)), (1, .int x1), (2, .int x2), (3, .int s0.1)] [] s0.2) (k2 : ∀ r', res = .inr r' → r' = r) : gGo l ε k_Mo_bestCard (gR 6 129) (gFn ε (some (.int r.1)) r.2) 42 [(0, .ref (ε.2.2.1 19 0)), (1, .int x1), (2, .int x2), (3, .int x3)] [] M := by
  unfold f_Mo_bestCard_s42 at h
  refine g_iload_n d_Mo_bestCard_42 rfl 3 rfl ?_
  refine g_bipush (v := 32) d_Mo_bestCard_43 (by decide) ?_
  refine g_icmp_ge (tgt := 101) d_Mo_bestCard_45 (by decide) (fun c11 => ?_) (fun c11 => ?_)
  · rw [if_pos c11] at h
    refine g_iconst (v := -1) d_Mo_bestCard_101 (by decide) ?_
    obtain rfl := Option.some.inj h
    have e9 := k2 _ rfl
    subst e9
    exact g_iret d_Mo_bestCard_102 rfl
  · rw [if_neg c11] at h
    refine g_aload_n d_Mo_bestCard_48 rfl 0 rfl ?_
    refine g_getR d_Mo_bestCard_49 fl_Mo_13 (gMo_h0 hM) rfl ?_
    refine g_iload_n d_Mo_bestCard_52 rfl 3 rfl ?_
    obtain ⟨q5, hq5, h⟩ := gOb h
    refine g_callS_i (As := [.ref (ε.2.2.1 19 2), .int x3]) (rest := []) (ct_Mo_reason 19 2 197 (gMo_h2 hM) M x3 _ hq5) d_Mo_bestCard_53 ca_Mo_reason w_1078 rfl rfl (Nat.le_of_ble_eq_true rfl) ⟨(Nat.le_of_ble_eq_true rfl), (Nat.le_of_ble_eq_true rfl)⟩ ?_
    refine g_if_ne (tgt := 95) d_Mo_bestCard_56 (by decide) (fun c10 => ?_) (fun c10 => ?_)
    · rw [if_neg c10] at h
      exact t_Mo_bestCard_b95 hM M x1 x2 x3 _ h r k1 k2
    · rw [if_pos c10] at h
      refine g_aload_n d_Mo_bestCard_59 rfl 0 rfl ?_
      refine g_getR d_Mo_bestCard_60 fl_Mo_13 (gMo_h0 hM) rfl ?_
      refine g_iconst (v := 0) d_Mo_bestCard_63 (by decide) ?_
      refine g_aload_n d_Mo_bestCard_64 rfl 0 rfl ?_
      refine g_getR d_Mo_bestCard_65 fl_Mo_16 (gMo_h0 hM) rfl ?_
      refine g_iconst (v := 0) d_Mo_bestCard_68 (by decide) ?_
      obtain ⟨q6, hq6, h⟩ := gOb h
      refine g_callS_v (As := [.ref (ε.2.2.1 19 2), .int 0, .ref (ε.2.2.1 19 3), .int 0]) (rest := []) (ct_Mo_copyState 19 2 197 19 3 197 (gMo_h2 hM) (gMo_h3 hM) M 0 0 _ hq6) d_Mo_bestCard_69 ca_Mo_copyState w_1136 rfl rfl (Nat.le_of_ble_eq_true rfl) ⟨(Nat.le_of_ble_eq_true rfl), (Nat.le_of_ble_eq_true rfl)⟩ ?_
      refine g_aload_n d_Mo_bestCard_72 rfl 0 rfl ?_
      refine g_getR d_Mo_bestCard_73 fl_Mo_16 (gMo_h0 hM) rfl ?_
      refine g_iload_n d_Mo_bestCard_76 rfl 3 rfl ?_
      obtain ⟨q7, hq7, h⟩ := gOb h
      refine g_callS_v (As := [.ref (ε.2.2.1 19 3), .int x3]) (rest := []) (ct_Mo_put 19 3 197 (gMo_h3 hM) q6 x3 _ hq7) d_Mo_bestCard_77 ca_Mo_put w_1096 rfl rfl (Nat.le_of_ble_eq_true rfl) ⟨(Nat.le_of_ble_eq_true rfl), (Nat.le_of_ble_eq_true rfl)⟩ ?_
      refine g_aload_n d_Mo_bestCard_80 rfl 0 rfl ?_
      refine g_aload_n d_Mo_bestCard_81 rfl 0 rfl ?_
      refine g_getR d_Mo_bestCard_82 fl_Mo_16 (gMo_h0 hM) rfl ?_
      refine g_iload_n d_Mo_bestCard_85 rfl 1 rfl ?_
      obtain ⟨q8, hq8, h⟩ := gOb h
      refine g_callV_i (As := [.ref (ε.2.2.1 19 3), .int x1]) (rest := []) (ct_Mo_searched hM 19 3 197 (gMo_h3 hM) q7 x1 _ hq8) d_Mo_bestCard_86 ca_Mo_searched w_1215 (gMo_h0 hM) rfl rfl rfl (Nat.le_of_ble_eq_true rfl) ⟨(Nat.le_of_ble_eq_true rfl), (Nat.le_of_ble_eq_true rfl)⟩ ?_
      refine g_iload_n d_Mo_bestCard_89 rfl 2 rfl ?_
      refine g_icmp_ne (tgt := 95) d_Mo_bestCard_90 (by decide) (fun c9 => ?_) (fun c9 => ?_)
      · rw [if_neg c9] at h
        exact t_Mo_bestCard_b95 hM q8.2 x1 x2 x3 _ h r k1 k2
      · rw [if_pos c9] at h
        refine g_iload_n d_Mo_bestCard_93 rfl 3 rfl ?_
        obtain rfl := Option.some.inj h
        have e9 := k2 _ rfl
        subst e9
        exact g_iret d_Mo_bestCard_94 rfl
noncomputable def f_Mo_bestCard_l42 (x1 : Int32) (x2 : Int32) (s : (Int32 × gMem)) : Option (Int32 × gMem) := gLp (fun s => f_Mo_bestCard_s42 s.2 x1 x2 s.1) s
theorem t_Mo_bestCard_l42 {l : Launch} {ε : gEnv} (hM : gMo ε) (x1 : Int32) (x2 : Int32) (s : (Int32 × gMem)) (r : (Int32 × gMem)) (h : f_Mo_bestCard_l42 x1 x2 s = some r) : gGo l ε k_Mo_bestCard (gR 6 129) (gFn ε (some (.int r.1)) r.2) 42 [(0, .ref (ε.2.2.1 19 0)), (1, .int x1), (2, .int x2), (3, .int s.1)] [] s.2 :=
  g_loop _ (fun r s => gGo l ε k_Mo_bestCard (gR 6 129) (gFn ε (some (.int r.1)) r.2) 42 [(0, .ref (ε.2.2.1 19 0)), (1, .int x1), (2, .int x2), (3, .int s.1)] [] s.2) (fun s res h r k1 k2 => t_Mo_bestCard_s42 hM s.2 x1 x2 s.1 res h r k1 k2) s r h
noncomputable def f_Mo_bestCard_b13 (M : gMem) (s0 : Int32) : Option (Int32 × gMem) :=
  (f_Mo_refused M s0).bind fun q2 =>
  if q2.1 = 0 then
    (gRd 197 (q2.2 19 2) 2).bind fun v3 =>
    (f_Mo_searched 19 2 197 q2.2 (gRem v3 2)).bind fun q4 =>
    f_Mo_bestCard_l42 (gRem v3 2) q4.1 (0, q4.2)
  else
    some (0, q2.2)
theorem t_Mo_bestCard_b13 {l : Launch} {ε : gEnv} (hM : gMo ε) (M : gMem) (s0 : Int32) (r : (Int32 × gMem)) (h : f_Mo_bestCard_b13 M s0 = some r) : gGo l ε k_Mo_bestCard (gR 6 129) (gFn ε (some (.int r.1)) r.2) 13 [(0, .ref (ε.2.2.1 19 0))] [.int s0, .ref (ε.2.2.1 19 0)] M := by
  unfold f_Mo_bestCard_b13 at h
  obtain ⟨q2, hq2, h⟩ := gOb h
  refine g_callV_i (As := [.int s0]) (rest := []) (ct_Mo_refused hM M s0 _ hq2) d_Mo_bestCard_13 ca_Mo_refused w_1034 (gMo_h0 hM) rfl rfl rfl (Nat.le_of_ble_eq_true rfl) ⟨(Nat.le_of_ble_eq_true rfl), (Nat.le_of_ble_eq_true rfl)⟩ ?_
  refine g_if_eq (tgt := 21) d_Mo_bestCard_16 (by decide) (fun c12 => ?_) (fun c12 => ?_)
  · rw [if_pos c12] at h
    refine g_aload_n d_Mo_bestCard_21 rfl 0 rfl ?_
    refine g_getR d_Mo_bestCard_22 fl_Mo_13 (gMo_h0 hM) rfl ?_
    refine g_iconst (v := 2) d_Mo_bestCard_25 (by decide) ?_
    obtain ⟨v3, hv3, h⟩ := gOb h
    refine g_iaload d_Mo_bestCard_26 (gMo_h2 hM) hv3 ?_
    refine g_iconst (v := 2) d_Mo_bestCard_27 (by decide) ?_
    refine g_rem d_Mo_bestCard_28 (by decide) ?_
    refine g_istore_n (L' := [(1, .int (gRem v3 2)), (0, .ref (ε.2.2.1 19 0))]) d_Mo_bestCard_29 rfl (by decide) rfl ?_
    refine g_aload_n d_Mo_bestCard_30 rfl 1 rfl ?_
    refine g_aload_n d_Mo_bestCard_31 rfl 1 rfl ?_
    refine g_getR d_Mo_bestCard_32 fl_Mo_13 (gMo_h0 hM) rfl ?_
    refine g_iload_n d_Mo_bestCard_35 rfl 0 rfl ?_
    obtain ⟨q4, hq4, h⟩ := gOb h
    refine g_callV_i (As := [.ref (ε.2.2.1 19 2), .int (gRem v3 2)]) (rest := []) (ct_Mo_searched hM 19 2 197 (gMo_h2 hM) q2.2 (gRem v3 2) _ hq4) d_Mo_bestCard_36 ca_Mo_searched w_1215 (gMo_h0 hM) rfl rfl rfl (Nat.le_of_ble_eq_true rfl) ⟨(Nat.le_of_ble_eq_true rfl), (Nat.le_of_ble_eq_true rfl)⟩ ?_
    refine g_istore_n (L' := [(2, .int q4.1), (1, .int (gRem v3 2)), (0, .ref (ε.2.2.1 19 0))]) d_Mo_bestCard_39 rfl (by decide) rfl ?_
    refine g_iconst (v := 0) d_Mo_bestCard_40 (by decide) ?_
    refine g_istore_n (L' := [(3, .int 0), (2, .int q4.1), (1, .int (gRem v3 2)), (0, .ref (ε.2.2.1 19 0))]) d_Mo_bestCard_41 rfl (by decide) rfl ?_
    refine gGo_sub [3, 2, 1, 0] rfl ?_
    exact t_Mo_bestCard_l42 hM (gRem v3 2) q4.1 (0, q4.2) _ h
  · rw [if_neg c12] at h
    refine g_iconst (v := 0) d_Mo_bestCard_19 (by decide) ?_
    obtain rfl := Option.some.inj h
    exact g_iret d_Mo_bestCard_20 rfl
noncomputable def f_Mo_bestCard (M : gMem) : Option (Int32 × gMem) :=
  (f_Mo_isNearEnd M).bind fun q1 =>
  if q1 = 0 then
    f_Mo_bestCard_b13 M 1
  else
    f_Mo_bestCard_b13 M 0
theorem t_Mo_bestCard {l : Launch} {ε : gEnv} (hM : gMo ε) (M : gMem) (r : (Int32 × gMem)) (h : f_Mo_bestCard M = some r) : gGo l ε k_Mo_bestCard (gR 6 129) (gFn ε (some (.int r.1)) r.2) 0 [(0, .ref (ε.2.2.1 19 0))] [] M := by
  unfold f_Mo_bestCard at h
  refine g_aload_n d_Mo_bestCard_0 rfl 0 rfl ?_
  refine g_aload_n d_Mo_bestCard_1 rfl 0 rfl ?_
  obtain ⟨q1, hq1, h⟩ := gOb h
  refine g_callV_i (As := []) (rest := [.ref (ε.2.2.1 19 0)]) (ct_Mo_isNearEnd hM M _ hq1) d_Mo_bestCard_2 ca_Mo_isNearEnd w_1211 (gMo_h0 hM) rfl rfl rfl (Nat.le_of_ble_eq_true rfl) ⟨(Nat.le_of_ble_eq_true rfl), (Nat.le_of_ble_eq_true rfl)⟩ ?_
  refine g_if_eq (tgt := 12) d_Mo_bestCard_5 (by decide) (fun c13 => ?_) (fun c13 => ?_)
  · rw [if_pos c13] at h
    refine g_iconst (v := 1) d_Mo_bestCard_12 (by decide) ?_
    exact t_Mo_bestCard_b13 hM M 1 _ h
  · rw [if_neg c13] at h
    refine g_iconst (v := 0) d_Mo_bestCard_8 (by decide) ?_
    refine g_goto (tgt := 13) d_Mo_bestCard_9 (by decide) ?_
    exact t_Mo_bestCard_b13 hM M 0 _ h
theorem ct_Mo_bestCard {l : Launch} {ε : gEnv} (hM : gMo ε) (M : gMem) (r : (Int32 × gMem)) (h : f_Mo_bestCard M = some r) : gCt l ε k_Mo_bestCard 6 129 [.ref (ε.2.2.1 19 0)] M (some (.int r.1)) r.2 :=
  gCt_of (by decide) (Nat.le_of_ble_eq_true rfl) rfl (t_Mo_bestCard hM M r h)
abbrev k_Mo_playsAdvice : gMD := (⟨"DropSignalsModel", "playsAdvice", "(I)Z"⟩, prog_11_method_61_code, 4, (some .boolean))
theorem w_1241 : Cond.instanceMethod ⟨"DropSignalsModel", "playsAdvice", "(I)Z"⟩ ∈ gWs := gWs_in (i := 1241) (by decide +kernel) rfl
theorem w_30 : Cond.selects "DropSignalsModel" ⟨"DropSignalsModel", "playsAdvice", "(I)Z"⟩ ⟨"DropSignalsModel", "playsAdvice", "(I)Z"⟩ ∈ gWs := gWs_in (i := 30) (by decide +kernel) rfl
set_option maxRecDepth 100000 in
theorem ca_Mo_playsAdvice : gCaV k_Mo_playsAdvice 1 := ⟨⟨gWs_in (i := 1242) rfl rfl, w_43, by decide, by decide, by decide +kernel⟩, w_1241, w_30⟩
theorem d_Mo_playsAdvice_0 : decode prog_11_method_61_code 0 = .ok (.iconst 1, 1) := by decide +kernel
theorem d_Mo_playsAdvice_1 : decode prog_11_method_61_code 1 = .ok (.istore_n 2, 1) := by decide +kernel
theorem d_Mo_playsAdvice_2 : decode prog_11_method_61_code 2 = .ok (.iconst 0, 1) := by decide +kernel
theorem d_Mo_playsAdvice_3 : decode prog_11_method_61_code 3 = .ok (.istore_n 3, 1) := by decide +kernel
theorem d_Mo_playsAdvice_4 : decode prog_11_method_61_code 4 = .ok (.iload_n 3, 1) := by decide +kernel
theorem d_Mo_playsAdvice_5 : decode prog_11_method_61_code 5 = .ok (.iload_n 1, 1) := by decide +kernel
theorem d_Mo_playsAdvice_6 : decode prog_11_method_61_code 6 = .ok (.if_icmp .ge 21, 3) := by decide +kernel
theorem d_Mo_playsAdvice_9 : decode prog_11_method_61_code 9 = .ok (.iload_n 2, 1) := by decide +kernel
theorem d_Mo_playsAdvice_10 : decode prog_11_method_61_code 10 = .ok (.ifCond .eq 17, 3) := by decide +kernel
theorem d_Mo_playsAdvice_13 : decode prog_11_method_61_code 13 = .ok (.aload_n 0, 1) := by decide +kernel
theorem d_Mo_playsAdvice_14 : decode prog_11_method_61_code 14 = .ok (.getfield 16, 3) := by decide +kernel
theorem d_Mo_playsAdvice_17 : decode prog_11_method_61_code 17 = .ok (.invokestatic 163, 3) := by decide +kernel
theorem d_Mo_playsAdvice_20 : decode prog_11_method_61_code 20 = .ok (.istore_n 2, 1) := by decide +kernel
theorem d_Mo_playsAdvice_21 : decode prog_11_method_61_code 21 = .ok (.iinc 3 1, 3) := by decide +kernel
theorem d_Mo_playsAdvice_24 : decode prog_11_method_61_code 24 = .ok (.goto (-20), 3) := by decide +kernel
theorem d_Mo_playsAdvice_27 : decode prog_11_method_61_code 27 = .ok (.iload_n 2, 1) := by decide +kernel
theorem d_Mo_playsAdvice_28 : decode prog_11_method_61_code 28 = .ok (.ireturn, 1) := by decide +kernel
noncomputable def f_Mo_playsAdvice_b27 (M : gMem) (x2 : Int32) : Option (Int32 × gMem) :=
  (gBl x2).bind fun _ =>
  some (x2, M)
theorem t_Mo_playsAdvice_b27 {l : Launch} {ε : gEnv} (hM : gMo ε) (M : gMem) (x2 : Int32) (r : (Int32 × gMem)) (h : f_Mo_playsAdvice_b27 M x2 = some r) : gGo l ε k_Mo_playsAdvice (gR 7 150) (gFn ε (some (.int r.1)) r.2) 27 [(2, .int x2)] [] M := by
  unfold f_Mo_playsAdvice_b27 at h
  refine g_iload_n d_Mo_playsAdvice_27 rfl 0 rfl ?_
  obtain ⟨z1, hz1, h⟩ := gOb h
  obtain rfl := Option.some.inj h
  exact g_zretO d_Mo_playsAdvice_28 rfl hz1
noncomputable def f_Mo_playsAdvice_s4 (M : gMem) (x1 : Int32) (x2 : Int32) (x3 : Int32) : Option ((Int32 × Int32 × gMem) ⊕ (Int32 × gMem)) :=
  if x1 ≤ x3 then
    (f_Mo_playsAdvice_b27 M x2).map .inr
  else
    if x2 = 0 then
      (f_Mo_playsAdvice_b27 M x2).map .inr
    else
      (f_Mo_playAdvice 19 3 197 M).bind fun q2 =>
      some (.inl (q2.1, (x3 + 1), q2.2))
theorem t_Mo_playsAdvice_s4 {l : Launch} {ε : gEnv} (hM : gMo ε) (M : gMem) (x1 : Int32) (x2 : Int32) (x3 : Int32) (res : ((Int32 × Int32 × gMem) ⊕ (Int32 × gMem))) (h : f_Mo_playsAdvice_s4 M x1 x2 x3 = some res) (r : (Int32 × gMem)) (k1 : ∀ s0 : (Int32 × Int32 × gMem), res = .inl s0 → gGo l ε k_Mo_playsAdvice (gR 7 150) (gFn ε (some (.int r.1)) r.2) 4 [(0, .ref (ε.2.2.1 19 0)), (1, .int x1), (2, .int s0.1), (3, .int s0.2.1)] [] s0.2.2) (k2 : ∀ r', res = .inr r' → r' = r) : gGo l ε k_Mo_playsAdvice (gR 7 150) (gFn ε (some (.int r.1)) r.2) 4 [(0, .ref (ε.2.2.1 19 0)), (1, .int x1), (2, .int x2), (3, .int x3)] [] M := by
  unfold f_Mo_playsAdvice_s4 at h
  refine g_iload_n d_Mo_playsAdvice_4 rfl 3 rfl ?_
  refine g_iload_n d_Mo_playsAdvice_5 rfl 1 rfl ?_
  refine g_icmp_ge (tgt := 27) d_Mo_playsAdvice_6 (by decide) (fun c4 => ?_) (fun c4 => ?_)
  · rw [if_pos c4] at h
    refine gGo_sub [2] rfl ?_
    obtain ⟨r9, h9, h8⟩ := gOm h
    cases h8
    have e9 := k2 _ rfl
    subst e9
    exact t_Mo_playsAdvice_b27 hM M x2 _ h9
  · rw [if_neg c4] at h
    refine g_iload_n d_Mo_playsAdvice_9 rfl 2 rfl ?_
    refine g_if_eq (tgt := 27) d_Mo_playsAdvice_10 (by decide) (fun c3 => ?_) (fun c3 => ?_)
    · rw [if_pos c3] at h
      refine gGo_sub [2] rfl ?_
      obtain ⟨r9, h9, h8⟩ := gOm h
      cases h8
      have e9 := k2 _ rfl
      subst e9
      exact t_Mo_playsAdvice_b27 hM M x2 _ h9
    · rw [if_neg c3] at h
      refine g_aload_n d_Mo_playsAdvice_13 rfl 0 rfl ?_
      refine g_getR d_Mo_playsAdvice_14 fl_Mo_16 (gMo_h0 hM) rfl ?_
      obtain ⟨q2, hq2, h⟩ := gOb h
      refine g_callS_i (As := [.ref (ε.2.2.1 19 3)]) (rest := []) (ct_Mo_playAdvice 19 3 197 (gMo_h3 hM) M _ hq2) d_Mo_playsAdvice_17 ca_Mo_playAdvice w_1117 rfl rfl (Nat.le_of_ble_eq_true rfl) ⟨(Nat.le_of_ble_eq_true rfl), (Nat.le_of_ble_eq_true rfl)⟩ ?_
      refine g_istore_n (L' := [(2, .int q2.1), (0, .ref (ε.2.2.1 19 0)), (1, .int x1), (3, .int x3)]) d_Mo_playsAdvice_20 rfl (by decide) rfl ?_
      refine g_iinc (v := (x3 + 1)) (L' := [(3, .int (x3 + 1)), (2, .int q2.1), (0, .ref (ε.2.2.1 19 0)), (1, .int x1)]) d_Mo_playsAdvice_21 (j := 3) rfl rfl (by decide) rfl ?_
      refine g_goto (tgt := 4) d_Mo_playsAdvice_24 (by decide) ?_
      refine gGo_sub [2, 3, 1, 0] rfl ?_
      obtain rfl := Option.some.inj h
      exact k1 (q2.1, (x3 + 1), q2.2) rfl
noncomputable def f_Mo_playsAdvice_l4 (x1 : Int32) (s : (Int32 × Int32 × gMem)) : Option (Int32 × gMem) := gLp (fun s => f_Mo_playsAdvice_s4 s.2.2 x1 s.1 s.2.1) s
theorem t_Mo_playsAdvice_l4 {l : Launch} {ε : gEnv} (hM : gMo ε) (x1 : Int32) (s : (Int32 × Int32 × gMem)) (r : (Int32 × gMem)) (h : f_Mo_playsAdvice_l4 x1 s = some r) : gGo l ε k_Mo_playsAdvice (gR 7 150) (gFn ε (some (.int r.1)) r.2) 4 [(0, .ref (ε.2.2.1 19 0)), (1, .int x1), (2, .int s.1), (3, .int s.2.1)] [] s.2.2 :=
  g_loop _ (fun r s => gGo l ε k_Mo_playsAdvice (gR 7 150) (gFn ε (some (.int r.1)) r.2) 4 [(0, .ref (ε.2.2.1 19 0)), (1, .int x1), (2, .int s.1), (3, .int s.2.1)] [] s.2.2) (fun s res h r k1 k2 => t_Mo_playsAdvice_s4 hM s.2.2 x1 s.1 s.2.1 res h r k1 k2) s r h
noncomputable def f_Mo_playsAdvice (M : gMem) (a0 : Int32) : Option (Int32 × gMem) :=
  f_Mo_playsAdvice_l4 a0 (1, 0, M)
theorem t_Mo_playsAdvice {l : Launch} {ε : gEnv} (hM : gMo ε) (M : gMem) (a0 : Int32) (r : (Int32 × gMem)) (h : f_Mo_playsAdvice M a0 = some r) : gGo l ε k_Mo_playsAdvice (gR 7 150) (gFn ε (some (.int r.1)) r.2) 0 [(0, .ref (ε.2.2.1 19 0)), (1, .int a0)] [] M := by
  unfold f_Mo_playsAdvice at h
  refine g_iconst (v := 1) d_Mo_playsAdvice_0 (by decide) ?_
  refine g_istore_n (L' := [(2, .int 1), (0, .ref (ε.2.2.1 19 0)), (1, .int a0)]) d_Mo_playsAdvice_1 rfl (by decide) rfl ?_
  refine g_iconst (v := 0) d_Mo_playsAdvice_2 (by decide) ?_
  refine g_istore_n (L' := [(3, .int 0), (2, .int 1), (0, .ref (ε.2.2.1 19 0)), (1, .int a0)]) d_Mo_playsAdvice_3 rfl (by decide) rfl ?_
  refine gGo_sub [2, 3, 1, 0] rfl ?_
  exact t_Mo_playsAdvice_l4 hM a0 (1, 0, M) _ h
theorem ct_Mo_playsAdvice {l : Launch} {ε : gEnv} (hM : gMo ε) (M : gMem) (a0 : Int32) (r : (Int32 × gMem)) (h : f_Mo_playsAdvice M a0 = some r) : gCt l ε k_Mo_playsAdvice 7 150 [.ref (ε.2.2.1 19 0), .int a0] M (some (.int r.1)) r.2 :=
  gCt_of (by decide) (Nat.le_of_ble_eq_true rfl) rfl (t_Mo_playsAdvice hM M a0 r h)
abbrev k_Mo_isTurn : gMD := (⟨"DropSignalsModel", "isTurn", "(I)Z"⟩, prog_11_method_62_code, 2, (some .boolean))
theorem w_1245 : Cond.instanceMethod ⟨"DropSignalsModel", "isTurn", "(I)Z"⟩ ∈ gWs := gWs_in (i := 1245) (by decide +kernel) rfl
theorem w_31 : Cond.selects "DropSignalsModel" ⟨"DropSignalsModel", "isTurn", "(I)Z"⟩ ⟨"DropSignalsModel", "isTurn", "(I)Z"⟩ ∈ gWs := gWs_in (i := 31) (by decide +kernel) rfl
set_option maxRecDepth 100000 in
theorem ca_Mo_isTurn : gCaV k_Mo_isTurn 1 := ⟨⟨gWs_in (i := 1246) rfl rfl, w_43, by decide, by decide, by decide +kernel⟩, w_1245, w_31⟩
theorem d_Mo_isTurn_0 : decode prog_11_method_62_code 0 = .ok (.aload_n 0, 1) := by decide +kernel
theorem d_Mo_isTurn_1 : decode prog_11_method_62_code 1 = .ok (.getfield 16, 3) := by decide +kernel
theorem d_Mo_isTurn_4 : decode prog_11_method_62_code 4 = .ok (.iconst 1, 1) := by decide +kernel
theorem d_Mo_isTurn_5 : decode prog_11_method_62_code 5 = .ok (.iaload, 1) := by decide +kernel
theorem d_Mo_isTurn_6 : decode prog_11_method_62_code 6 = .ok (.iconst 1, 1) := by decide +kernel
theorem d_Mo_isTurn_7 : decode prog_11_method_62_code 7 = .ok (.if_icmp .eq 13, 3) := by decide +kernel
theorem d_Mo_isTurn_10 : decode prog_11_method_62_code 10 = .ok (.aload_n 0, 1) := by decide +kernel
theorem d_Mo_isTurn_11 : decode prog_11_method_62_code 11 = .ok (.getfield 16, 3) := by decide +kernel
theorem d_Mo_isTurn_14 : decode prog_11_method_62_code 14 = .ok (.iconst 1, 1) := by decide +kernel
theorem d_Mo_isTurn_15 : decode prog_11_method_62_code 15 = .ok (.iaload, 1) := by decide +kernel
theorem d_Mo_isTurn_16 : decode prog_11_method_62_code 16 = .ok (.iconst 2, 1) := by decide +kernel
theorem d_Mo_isTurn_17 : decode prog_11_method_62_code 17 = .ok (.if_icmp .ne 17, 3) := by decide +kernel
theorem d_Mo_isTurn_20 : decode prog_11_method_62_code 20 = .ok (.aload_n 0, 1) := by decide +kernel
theorem d_Mo_isTurn_21 : decode prog_11_method_62_code 21 = .ok (.getfield 16, 3) := by decide +kernel
theorem d_Mo_isTurn_24 : decode prog_11_method_62_code 24 = .ok (.iconst 2, 1) := by decide +kernel
theorem d_Mo_isTurn_25 : decode prog_11_method_62_code 25 = .ok (.iaload, 1) := by decide +kernel
theorem d_Mo_isTurn_26 : decode prog_11_method_62_code 26 = .ok (.iload_n 1, 1) := by decide +kernel
theorem d_Mo_isTurn_27 : decode prog_11_method_62_code 27 = .ok (.if_icmp .ne 7, 3) := by decide +kernel
theorem d_Mo_isTurn_30 : decode prog_11_method_62_code 30 = .ok (.iconst 1, 1) := by decide +kernel
theorem d_Mo_isTurn_31 : decode prog_11_method_62_code 31 = .ok (.goto 4, 3) := by decide +kernel
theorem d_Mo_isTurn_34 : decode prog_11_method_62_code 34 = .ok (.iconst 0, 1) := by decide +kernel
theorem d_Mo_isTurn_35 : decode prog_11_method_62_code 35 = .ok (.ireturn, 1) := by decide +kernel
noncomputable def f_Mo_isTurn_b20 (M : gMem) (x1 : Int32) : Option Int32 :=
  (gRd 197 (M 19 3) 2).bind fun v2 =>
  if v2 = x1 then
    some 1
  else
    some 0
theorem t_Mo_isTurn_b20 {l : Launch} {ε : gEnv} (hM : gMo ε) (M : gMem) (x1 : Int32) (r : Int32) (h : f_Mo_isTurn_b20 M x1 = some r) : gGo l ε k_Mo_isTurn (gR 0 0) (gFn ε (some (.int r)) M) 20 [(0, .ref (ε.2.2.1 19 0)), (1, .int x1)] [] M := by
  unfold f_Mo_isTurn_b20 at h
  refine g_aload_n d_Mo_isTurn_20 rfl 0 rfl ?_
  refine g_getR d_Mo_isTurn_21 fl_Mo_16 (gMo_h0 hM) rfl ?_
  refine g_iconst (v := 2) d_Mo_isTurn_24 (by decide) ?_
  obtain ⟨v2, hv2, h⟩ := gOb h
  refine g_iaload d_Mo_isTurn_25 (gMo_h3 hM) hv2 ?_
  refine g_iload_n d_Mo_isTurn_26 rfl 1 rfl ?_
  refine g_icmp_ne (tgt := 34) d_Mo_isTurn_27 (by decide) (fun c3 => ?_) (fun c3 => ?_)
  · rw [if_neg c3] at h
    refine g_iconst (v := 0) d_Mo_isTurn_34 (by decide) ?_
    obtain rfl := Option.some.inj h
    exact g_zret d_Mo_isTurn_35 rfl gZ0
  · rw [if_pos c3] at h
    refine g_iconst (v := 1) d_Mo_isTurn_30 (by decide) ?_
    refine g_goto (tgt := 35) d_Mo_isTurn_31 (by decide) ?_
    obtain rfl := Option.some.inj h
    exact g_zret d_Mo_isTurn_35 rfl gZ1
noncomputable def f_Mo_isTurn (M : gMem) (a0 : Int32) : Option Int32 :=
  (gRd 197 (M 19 3) 1).bind fun v1 =>
  if v1 = 1 then
    f_Mo_isTurn_b20 M a0
  else
    (gRd 197 (M 19 3) 1).bind fun v4 =>
    if v4 = 2 then
      f_Mo_isTurn_b20 M a0
    else
      some 0
theorem t_Mo_isTurn {l : Launch} {ε : gEnv} (hM : gMo ε) (M : gMem) (a0 : Int32) (r : Int32) (h : f_Mo_isTurn M a0 = some r) : gGo l ε k_Mo_isTurn (gR 0 0) (gFn ε (some (.int r)) M) 0 [(0, .ref (ε.2.2.1 19 0)), (1, .int a0)] [] M := by
  unfold f_Mo_isTurn at h
  refine g_aload_n d_Mo_isTurn_0 rfl 0 rfl ?_
  refine g_getR d_Mo_isTurn_1 fl_Mo_16 (gMo_h0 hM) rfl ?_
  refine g_iconst (v := 1) d_Mo_isTurn_4 (by decide) ?_
  obtain ⟨v1, hv1, h⟩ := gOb h
  refine g_iaload d_Mo_isTurn_5 (gMo_h3 hM) hv1 ?_
  refine g_iconst (v := 1) d_Mo_isTurn_6 (by decide) ?_
  refine g_icmp_eq (tgt := 20) d_Mo_isTurn_7 (by decide) (fun c6 => ?_) (fun c6 => ?_)
  · rw [if_pos c6] at h
    exact t_Mo_isTurn_b20 hM M a0 _ h
  · rw [if_neg c6] at h
    refine g_aload_n d_Mo_isTurn_10 rfl 0 rfl ?_
    refine g_getR d_Mo_isTurn_11 fl_Mo_16 (gMo_h0 hM) rfl ?_
    refine g_iconst (v := 1) d_Mo_isTurn_14 (by decide) ?_
    obtain ⟨v4, hv4, h⟩ := gOb h
    refine g_iaload d_Mo_isTurn_15 (gMo_h3 hM) hv4 ?_
    refine g_iconst (v := 2) d_Mo_isTurn_16 (by decide) ?_
    refine g_icmp_ne (tgt := 34) d_Mo_isTurn_17 (by decide) (fun c5 => ?_) (fun c5 => ?_)
    · rw [if_neg c5] at h
      refine g_iconst (v := 0) d_Mo_isTurn_34 (by decide) ?_
      obtain rfl := Option.some.inj h
      exact g_zret d_Mo_isTurn_35 rfl gZ0
    · rw [if_pos c5] at h
      exact t_Mo_isTurn_b20 hM M a0 _ h
theorem ct_Mo_isTurn {l : Launch} {ε : gEnv} (hM : gMo ε) (M : gMem) (a0 : Int32) (r : Int32) (h : f_Mo_isTurn M a0 = some r) : gCt l ε k_Mo_isTurn 0 0 [.ref (ε.2.2.1 19 0), .int a0] M (some (.int r)) M :=
  gCt_of (by decide) (Nat.le_of_ble_eq_true rfl) rfl (t_Mo_isTurn hM M a0 r h)
abbrev k_Mo_command : gMD := (⟨"DropSignalsModel", "command", "(II)Z"⟩, prog_11_method_63_code, 7, (some .boolean))
theorem w_1237 : Cond.instanceMethod ⟨"DropSignalsModel", "command", "(II)Z"⟩ ∈ gWs := gWs_in (i := 1237) (by decide +kernel) rfl
theorem w_29 : Cond.selects "DropSignalsModel" ⟨"DropSignalsModel", "command", "(II)Z"⟩ ⟨"DropSignalsModel", "command", "(II)Z"⟩ ∈ gWs := gWs_in (i := 29) (by decide +kernel) rfl
set_option maxRecDepth 100000 in
theorem ca_Mo_command : gCaV k_Mo_command 2 := ⟨⟨gWs_in (i := 1238) rfl rfl, w_43, by decide, by decide, by decide +kernel⟩, w_1237, w_29⟩
theorem d_Mo_command_0 : decode prog_11_method_63_code 0 = .ok (.iload_n 2, 1) := by decide +kernel
theorem d_Mo_command_1 : decode prog_11_method_63_code 1 = .ok (.bipush 100, 2) := by decide +kernel
theorem d_Mo_command_3 : decode prog_11_method_63_code 3 = .ok (.idiv, 1) := by decide +kernel
theorem d_Mo_command_4 : decode prog_11_method_63_code 4 = .ok (.istore_n 3, 1) := by decide +kernel
theorem d_Mo_command_5 : decode prog_11_method_63_code 5 = .ok (.iload_n 2, 1) := by decide +kernel
theorem d_Mo_command_6 : decode prog_11_method_63_code 6 = .ok (.bipush 10, 2) := by decide +kernel
theorem d_Mo_command_8 : decode prog_11_method_63_code 8 = .ok (.idiv, 1) := by decide +kernel
theorem d_Mo_command_9 : decode prog_11_method_63_code 9 = .ok (.bipush 10, 2) := by decide +kernel
theorem d_Mo_command_11 : decode prog_11_method_63_code 11 = .ok (.irem, 1) := by decide +kernel
theorem d_Mo_command_12 : decode prog_11_method_63_code 12 = .ok (.istore 4, 2) := by decide +kernel
theorem d_Mo_command_14 : decode prog_11_method_63_code 14 = .ok (.iload_n 2, 1) := by decide +kernel
theorem d_Mo_command_15 : decode prog_11_method_63_code 15 = .ok (.bipush 10, 2) := by decide +kernel
theorem d_Mo_command_17 : decode prog_11_method_63_code 17 = .ok (.irem, 1) := by decide +kernel
theorem d_Mo_command_18 : decode prog_11_method_63_code 18 = .ok (.istore 5, 2) := by decide +kernel
theorem d_Mo_command_20 : decode prog_11_method_63_code 20 = .ok (.iload_n 2, 1) := by decide +kernel
theorem d_Mo_command_21 : decode prog_11_method_63_code 21 = .ok (.bipush 100, 2) := by decide +kernel
theorem d_Mo_command_23 : decode prog_11_method_63_code 23 = .ok (.irem, 1) := by decide +kernel
theorem d_Mo_command_24 : decode prog_11_method_63_code 24 = .ok (.istore 6, 2) := by decide +kernel
theorem d_Mo_command_26 : decode prog_11_method_63_code 26 = .ok (.iload_n 1, 1) := by decide +kernel
theorem d_Mo_command_27 : decode prog_11_method_63_code 27 = .ok (.tableswitch 333 1 9 #[49, 73, 119, 149, 188, 209, 229, 258, 301], 49) := by decide +kernel
theorem d_Mo_command_76 : decode prog_11_method_63_code 76 = .ok (.iload_n 3, 1) := by decide +kernel
theorem d_Mo_command_77 : decode prog_11_method_63_code 77 = .ok (.ifCond .ne 21, 3) := by decide +kernel
theorem d_Mo_command_80 : decode prog_11_method_63_code 80 = .ok (.aload_n 0, 1) := by decide +kernel
theorem d_Mo_command_81 : decode prog_11_method_63_code 81 = .ok (.aload_n 0, 1) := by decide +kernel
theorem d_Mo_command_82 : decode prog_11_method_63_code 82 = .ok (.getfield 16, 3) := by decide +kernel
theorem d_Mo_command_85 : decode prog_11_method_63_code 85 = .ok (.iload 6, 2) := by decide +kernel
theorem d_Mo_command_87 : decode prog_11_method_63_code 87 = .ok (.i2l, 1) := by decide +kernel
theorem d_Mo_command_88 : decode prog_11_method_63_code 88 = .ok (.invokevirtual 142, 3) := by decide +kernel
theorem d_Mo_command_91 : decode prog_11_method_63_code 91 = .ok (.ifCond .le 7, 3) := by decide +kernel
theorem d_Mo_command_94 : decode prog_11_method_63_code 94 = .ok (.iconst 1, 1) := by decide +kernel
theorem d_Mo_command_95 : decode prog_11_method_63_code 95 = .ok (.goto 4, 3) := by decide +kernel
theorem d_Mo_command_98 : decode prog_11_method_63_code 98 = .ok (.iconst 0, 1) := by decide +kernel
theorem d_Mo_command_99 : decode prog_11_method_63_code 99 = .ok (.ireturn, 1) := by decide +kernel
theorem d_Mo_command_100 : decode prog_11_method_63_code 100 = .ok (.iload 5, 2) := by decide +kernel
theorem d_Mo_command_102 : decode prog_11_method_63_code 102 = .ok (.ifCond .ne 42, 3) := by decide +kernel
theorem d_Mo_command_105 : decode prog_11_method_63_code 105 = .ok (.iload_n 3, 1) := by decide +kernel
theorem d_Mo_command_106 : decode prog_11_method_63_code 106 = .ok (.iload 4, 2) := by decide +kernel
theorem d_Mo_command_108 : decode prog_11_method_63_code 108 = .ok (.invokestatic 192, 3) := by decide +kernel
theorem d_Mo_command_111 : decode prog_11_method_63_code 111 = .ok (.ifCond .eq 33, 3) := by decide +kernel
theorem d_Mo_command_114 : decode prog_11_method_63_code 114 = .ok (.aload_n 0, 1) := by decide +kernel
theorem d_Mo_command_115 : decode prog_11_method_63_code 115 = .ok (.getfield 16, 3) := by decide +kernel
theorem d_Mo_command_118 : decode prog_11_method_63_code 118 = .ok (.iload_n 3, 1) := by decide +kernel
theorem d_Mo_command_119 : decode prog_11_method_63_code 119 = .ok (.iload 4, 2) := by decide +kernel
theorem d_Mo_command_121 : decode prog_11_method_63_code 121 = .ok (.invokestatic 150, 3) := by decide +kernel
theorem d_Mo_command_124 : decode prog_11_method_63_code 124 = .ok (.ifCond .eq 20, 3) := by decide +kernel
theorem d_Mo_command_127 : decode prog_11_method_63_code 127 = .ok (.aload_n 0, 1) := by decide +kernel
theorem d_Mo_command_128 : decode prog_11_method_63_code 128 = .ok (.getfield 16, 3) := by decide +kernel
theorem d_Mo_command_131 : decode prog_11_method_63_code 131 = .ok (.iload_n 3, 1) := by decide +kernel
theorem d_Mo_command_132 : decode prog_11_method_63_code 132 = .ok (.iload 4, 2) := by decide +kernel
theorem d_Mo_command_134 : decode prog_11_method_63_code 134 = .ok (.invokestatic 154, 3) := by decide +kernel
theorem d_Mo_command_137 : decode prog_11_method_63_code 137 = .ok (.ifCond .lt 7, 3) := by decide +kernel
theorem d_Mo_command_140 : decode prog_11_method_63_code 140 = .ok (.iconst 1, 1) := by decide +kernel
theorem d_Mo_command_141 : decode prog_11_method_63_code 141 = .ok (.goto 4, 3) := by decide +kernel
theorem d_Mo_command_144 : decode prog_11_method_63_code 144 = .ok (.iconst 0, 1) := by decide +kernel
theorem d_Mo_command_145 : decode prog_11_method_63_code 145 = .ok (.ireturn, 1) := by decide +kernel
theorem d_Mo_command_146 : decode prog_11_method_63_code 146 = .ok (.iload_n 2, 1) := by decide +kernel
theorem d_Mo_command_147 : decode prog_11_method_63_code 147 = .ok (.ifCond .ne 27, 3) := by decide +kernel
theorem d_Mo_command_150 : decode prog_11_method_63_code 150 = .ok (.aload_n 0, 1) := by decide +kernel
theorem d_Mo_command_151 : decode prog_11_method_63_code 151 = .ok (.getfield 16, 3) := by decide +kernel
theorem d_Mo_command_154 : decode prog_11_method_63_code 154 = .ok (.iconst 1, 1) := by decide +kernel
theorem d_Mo_command_155 : decode prog_11_method_63_code 155 = .ok (.iaload, 1) := by decide +kernel
theorem d_Mo_command_156 : decode prog_11_method_63_code 156 = .ok (.iconst 1, 1) := by decide +kernel
theorem d_Mo_command_157 : decode prog_11_method_63_code 157 = .ok (.if_icmp .ne 17, 3) := by decide +kernel
theorem d_Mo_command_160 : decode prog_11_method_63_code 160 = .ok (.aload_n 0, 1) := by decide +kernel
theorem d_Mo_command_161 : decode prog_11_method_63_code 161 = .ok (.getfield 16, 3) := by decide +kernel
theorem d_Mo_command_164 : decode prog_11_method_63_code 164 = .ok (.invokestatic 157, 3) := by decide +kernel
theorem d_Mo_command_167 : decode prog_11_method_63_code 167 = .ok (.ifCond .le 7, 3) := by decide +kernel
theorem d_Mo_command_170 : decode prog_11_method_63_code 170 = .ok (.iconst 1, 1) := by decide +kernel
theorem d_Mo_command_171 : decode prog_11_method_63_code 171 = .ok (.goto 4, 3) := by decide +kernel
theorem d_Mo_command_174 : decode prog_11_method_63_code 174 = .ok (.iconst 0, 1) := by decide +kernel
theorem d_Mo_command_175 : decode prog_11_method_63_code 175 = .ok (.ireturn, 1) := by decide +kernel
theorem d_Mo_command_176 : decode prog_11_method_63_code 176 = .ok (.iload_n 3, 1) := by decide +kernel
theorem d_Mo_command_177 : decode prog_11_method_63_code 177 = .ok (.ifCond .ne 36, 3) := by decide +kernel
theorem d_Mo_command_180 : decode prog_11_method_63_code 180 = .ok (.iload 6, 2) := by decide +kernel
theorem d_Mo_command_182 : decode prog_11_method_63_code 182 = .ok (.bipush 32, 2) := by decide +kernel
theorem d_Mo_command_184 : decode prog_11_method_63_code 184 = .ok (.if_icmp .ge 29, 3) := by decide +kernel
theorem d_Mo_command_187 : decode prog_11_method_63_code 187 = .ok (.aload_n 0, 1) := by decide +kernel
theorem d_Mo_command_188 : decode prog_11_method_63_code 188 = .ok (.getfield 16, 3) := by decide +kernel
theorem d_Mo_command_191 : decode prog_11_method_63_code 191 = .ok (.iconst 1, 1) := by decide +kernel
theorem d_Mo_command_192 : decode prog_11_method_63_code 192 = .ok (.iaload, 1) := by decide +kernel
theorem d_Mo_command_193 : decode prog_11_method_63_code 193 = .ok (.iconst 2, 1) := by decide +kernel
theorem d_Mo_command_194 : decode prog_11_method_63_code 194 = .ok (.if_icmp .ne 19, 3) := by decide +kernel
theorem d_Mo_command_197 : decode prog_11_method_63_code 197 = .ok (.aload_n 0, 1) := by decide +kernel
theorem d_Mo_command_198 : decode prog_11_method_63_code 198 = .ok (.getfield 16, 3) := by decide +kernel
theorem d_Mo_command_201 : decode prog_11_method_63_code 201 = .ok (.iload 6, 2) := by decide +kernel
theorem d_Mo_command_203 : decode prog_11_method_63_code 203 = .ok (.invokestatic 160, 3) := by decide +kernel
theorem d_Mo_command_206 : decode prog_11_method_63_code 206 = .ok (.ifCond .ne 7, 3) := by decide +kernel
theorem d_Mo_command_209 : decode prog_11_method_63_code 209 = .ok (.iconst 1, 1) := by decide +kernel
theorem d_Mo_command_210 : decode prog_11_method_63_code 210 = .ok (.goto 4, 3) := by decide +kernel
theorem d_Mo_command_213 : decode prog_11_method_63_code 213 = .ok (.iconst 0, 1) := by decide +kernel
theorem d_Mo_command_214 : decode prog_11_method_63_code 214 = .ok (.ireturn, 1) := by decide +kernel
theorem d_Mo_command_215 : decode prog_11_method_63_code 215 = .ok (.iload_n 2, 1) := by decide +kernel
theorem d_Mo_command_216 : decode prog_11_method_63_code 216 = .ok (.bipush 10, 2) := by decide +kernel
theorem d_Mo_command_218 : decode prog_11_method_63_code 218 = .ok (.if_icmp .ge 16, 3) := by decide +kernel
theorem d_Mo_command_221 : decode prog_11_method_63_code 221 = .ok (.aload_n 0, 1) := by decide +kernel
theorem d_Mo_command_222 : decode prog_11_method_63_code 222 = .ok (.iload 5, 2) := by decide +kernel
theorem d_Mo_command_224 : decode prog_11_method_63_code 224 = .ok (.invokevirtual 217, 3) := by decide +kernel
theorem d_Mo_command_227 : decode prog_11_method_63_code 227 = .ok (.ifCond .eq 7, 3) := by decide +kernel
theorem d_Mo_command_230 : decode prog_11_method_63_code 230 = .ok (.iconst 1, 1) := by decide +kernel
theorem d_Mo_command_231 : decode prog_11_method_63_code 231 = .ok (.goto 4, 3) := by decide +kernel
theorem d_Mo_command_234 : decode prog_11_method_63_code 234 = .ok (.iconst 0, 1) := by decide +kernel
theorem d_Mo_command_235 : decode prog_11_method_63_code 235 = .ok (.ireturn, 1) := by decide +kernel
theorem d_Mo_command_236 : decode prog_11_method_63_code 236 = .ok (.iload_n 2, 1) := by decide +kernel
theorem d_Mo_command_237 : decode prog_11_method_63_code 237 = .ok (.iconst 4, 1) := by decide +kernel
theorem d_Mo_command_238 : decode prog_11_method_63_code 238 = .ok (.if_icmp .ge 16, 3) := by decide +kernel
theorem d_Mo_command_241 : decode prog_11_method_63_code 241 = .ok (.aload_n 0, 1) := by decide +kernel
theorem d_Mo_command_242 : decode prog_11_method_63_code 242 = .ok (.iload 5, 2) := by decide +kernel
theorem d_Mo_command_244 : decode prog_11_method_63_code 244 = .ok (.invokevirtual 220, 3) := by decide +kernel
theorem d_Mo_command_247 : decode prog_11_method_63_code 247 = .ok (.ifCond .eq 7, 3) := by decide +kernel
theorem d_Mo_command_250 : decode prog_11_method_63_code 250 = .ok (.iconst 1, 1) := by decide +kernel
theorem d_Mo_command_251 : decode prog_11_method_63_code 251 = .ok (.goto 4, 3) := by decide +kernel
theorem d_Mo_command_254 : decode prog_11_method_63_code 254 = .ok (.iconst 0, 1) := by decide +kernel
theorem d_Mo_command_255 : decode prog_11_method_63_code 255 = .ok (.ireturn, 1) := by decide +kernel
theorem d_Mo_command_256 : decode prog_11_method_63_code 256 = .ok (.iload_n 3, 1) := by decide +kernel
theorem d_Mo_command_257 : decode prog_11_method_63_code 257 = .ok (.iconst 2, 1) := by decide +kernel
theorem d_Mo_command_258 : decode prog_11_method_63_code 258 = .ok (.if_icmp .ge 25, 3) := by decide +kernel
theorem d_Mo_command_261 : decode prog_11_method_63_code 261 = .ok (.iload 4, 2) := by decide +kernel
theorem d_Mo_command_263 : decode prog_11_method_63_code 263 = .ok (.ifCond .ne 20, 3) := by decide +kernel
theorem d_Mo_command_266 : decode prog_11_method_63_code 266 = .ok (.aload_n 0, 1) := by decide +kernel
theorem d_Mo_command_267 : decode prog_11_method_63_code 267 = .ok (.getfield 16, 3) := by decide +kernel
theorem d_Mo_command_270 : decode prog_11_method_63_code 270 = .ok (.iconst 5, 1) := by decide +kernel
theorem d_Mo_command_271 : decode prog_11_method_63_code 271 = .ok (.iload_n 3, 1) := by decide +kernel
theorem d_Mo_command_272 : decode prog_11_method_63_code 272 = .ok (.iadd, 1) := by decide +kernel
theorem d_Mo_command_273 : decode prog_11_method_63_code 273 = .ok (.iaload, 1) := by decide +kernel
theorem d_Mo_command_274 : decode prog_11_method_63_code 274 = .ok (.iload 5, 2) := by decide +kernel
theorem d_Mo_command_276 : decode prog_11_method_63_code 276 = .ok (.if_icmp .lt 7, 3) := by decide +kernel
theorem d_Mo_command_279 : decode prog_11_method_63_code 279 = .ok (.iconst 1, 1) := by decide +kernel
theorem d_Mo_command_280 : decode prog_11_method_63_code 280 = .ok (.goto 4, 3) := by decide +kernel
theorem d_Mo_command_283 : decode prog_11_method_63_code 283 = .ok (.iconst 0, 1) := by decide +kernel
theorem d_Mo_command_284 : decode prog_11_method_63_code 284 = .ok (.ireturn, 1) := by decide +kernel
theorem d_Mo_command_285 : decode prog_11_method_63_code 285 = .ok (.iload_n 3, 1) := by decide +kernel
theorem d_Mo_command_286 : decode prog_11_method_63_code 286 = .ok (.iconst 4, 1) := by decide +kernel
theorem d_Mo_command_287 : decode prog_11_method_63_code 287 = .ok (.if_icmp .ge 39, 3) := by decide +kernel
theorem d_Mo_command_290 : decode prog_11_method_63_code 290 = .ok (.iload 4, 2) := by decide +kernel
theorem d_Mo_command_292 : decode prog_11_method_63_code 292 = .ok (.iconst 4, 1) := by decide +kernel
theorem d_Mo_command_293 : decode prog_11_method_63_code 293 = .ok (.if_icmp .ge 33, 3) := by decide +kernel
theorem d_Mo_command_296 : decode prog_11_method_63_code 296 = .ok (.iload 5, 2) := by decide +kernel
theorem d_Mo_command_298 : decode prog_11_method_63_code 298 = .ok (.iconst 3, 1) := by decide +kernel
theorem d_Mo_command_299 : decode prog_11_method_63_code 299 = .ok (.if_icmp .ge 27, 3) := by decide +kernel
theorem d_Mo_command_302 : decode prog_11_method_63_code 302 = .ok (.aload_n 0, 1) := by decide +kernel
theorem d_Mo_command_303 : decode prog_11_method_63_code 303 = .ok (.getfield 16, 3) := by decide +kernel
theorem d_Mo_command_306 : decode prog_11_method_63_code 306 = .ok (.sipush 149, 3) := by decide +kernel
theorem d_Mo_command_309 : decode prog_11_method_63_code 309 = .ok (.iconst 4, 1) := by decide +kernel
theorem d_Mo_command_310 : decode prog_11_method_63_code 310 = .ok (.iload_n 3, 1) := by decide +kernel
theorem d_Mo_command_311 : decode prog_11_method_63_code 311 = .ok (.imul, 1) := by decide +kernel
theorem d_Mo_command_312 : decode prog_11_method_63_code 312 = .ok (.iadd, 1) := by decide +kernel
theorem d_Mo_command_313 : decode prog_11_method_63_code 313 = .ok (.iload 4, 2) := by decide +kernel
theorem d_Mo_command_315 : decode prog_11_method_63_code 315 = .ok (.iadd, 1) := by decide +kernel
theorem d_Mo_command_316 : decode prog_11_method_63_code 316 = .ok (.iaload, 1) := by decide +kernel
theorem d_Mo_command_317 : decode prog_11_method_63_code 317 = .ok (.iload 5, 2) := by decide +kernel
theorem d_Mo_command_319 : decode prog_11_method_63_code 319 = .ok (.if_icmp .ne 7, 3) := by decide +kernel
theorem d_Mo_command_322 : decode prog_11_method_63_code 322 = .ok (.iconst 1, 1) := by decide +kernel
theorem d_Mo_command_323 : decode prog_11_method_63_code 323 = .ok (.goto 4, 3) := by decide +kernel
theorem d_Mo_command_326 : decode prog_11_method_63_code 326 = .ok (.iconst 0, 1) := by decide +kernel
theorem d_Mo_command_327 : decode prog_11_method_63_code 327 = .ok (.ireturn, 1) := by decide +kernel
theorem d_Mo_command_328 : decode prog_11_method_63_code 328 = .ok (.iload_n 3, 1) := by decide +kernel
theorem d_Mo_command_329 : decode prog_11_method_63_code 329 = .ok (.iconst 4, 1) := by decide +kernel
theorem d_Mo_command_330 : decode prog_11_method_63_code 330 = .ok (.if_icmp .ge 28, 3) := by decide +kernel
theorem d_Mo_command_333 : decode prog_11_method_63_code 333 = .ok (.iload 6, 2) := by decide +kernel
theorem d_Mo_command_335 : decode prog_11_method_63_code 335 = .ok (.bipush 32, 2) := by decide +kernel
theorem d_Mo_command_337 : decode prog_11_method_63_code 337 = .ok (.if_icmp .ge 21, 3) := by decide +kernel
theorem d_Mo_command_340 : decode prog_11_method_63_code 340 = .ok (.aload_n 0, 1) := by decide +kernel
theorem d_Mo_command_341 : decode prog_11_method_63_code 341 = .ok (.getfield 16, 3) := by decide +kernel
theorem d_Mo_command_344 : decode prog_11_method_63_code 344 = .ok (.bipush 21, 2) := by decide +kernel
theorem d_Mo_command_346 : decode prog_11_method_63_code 346 = .ok (.iload 6, 2) := by decide +kernel
theorem d_Mo_command_348 : decode prog_11_method_63_code 348 = .ok (.iadd, 1) := by decide +kernel
theorem d_Mo_command_349 : decode prog_11_method_63_code 349 = .ok (.iaload, 1) := by decide +kernel
theorem d_Mo_command_350 : decode prog_11_method_63_code 350 = .ok (.iload_n 3, 1) := by decide +kernel
theorem d_Mo_command_351 : decode prog_11_method_63_code 351 = .ok (.if_icmp .ne 7, 3) := by decide +kernel
theorem d_Mo_command_354 : decode prog_11_method_63_code 354 = .ok (.iconst 1, 1) := by decide +kernel
theorem d_Mo_command_355 : decode prog_11_method_63_code 355 = .ok (.goto 4, 3) := by decide +kernel
theorem d_Mo_command_358 : decode prog_11_method_63_code 358 = .ok (.iconst 0, 1) := by decide +kernel
theorem d_Mo_command_359 : decode prog_11_method_63_code 359 = .ok (.ireturn, 1) := by decide +kernel
theorem d_Mo_command_360 : decode prog_11_method_63_code 360 = .ok (.iconst 0, 1) := by decide +kernel
theorem d_Mo_command_361 : decode prog_11_method_63_code 361 = .ok (.ireturn, 1) := by decide +kernel
theorem w_1239 : Cond.methodLink "DropSignalsModel" 217 ⟨"DropSignalsModel", "playsAdvice", "(I)Z"⟩ ∈ gWs := gWs_in (i := 1239) (by decide +kernel) rfl
theorem w_1243 : Cond.methodLink "DropSignalsModel" 220 ⟨"DropSignalsModel", "isTurn", "(I)Z"⟩ ∈ gWs := gWs_in (i := 1243) (by decide +kernel) rfl
noncomputable def f_Mo_command (M : gMem) (a0 : Int32) (a1 : Int32) : Option (Int32 × gMem) :=
  if a0 = 1 then
    if (a1 / 100) = 0 then
      (f_Mo_dealOn 19 3 197 M (Int32.toInt64 (gRem a1 100))).bind fun q2 =>
      if q2.1 ≤ 0 then
        some (0, q2.2)
      else
        some (1, q2.2)
    else
      some (0, M)
  else
  if a0 = 2 then
    if (gRem a1 10) = 0 then
      (f_Mo_isBid (a1 / 100) (gRem (a1 / 10) 10)).bind fun q6 =>
      if q6 = 0 then
        some (0, M)
      else
        (f_Mo_canBid 19 3 197 M (a1 / 100) (gRem (a1 / 10) 10)).bind fun q7 =>
        if q7 = 0 then
          some (0, M)
        else
          (f_Mo_bidOn 19 3 197 M (a1 / 100) (gRem (a1 / 10) 10)).bind fun q8 =>
          if q8.1 < 0 then
            some (0, q8.2)
          else
            some (1, q8.2)
    else
      some (0, M)
  else
  if a0 = 3 then
    if a1 = 0 then
      (gRd 197 (M 19 3) 1).bind fun v14 =>
      if v14 = 1 then
        (f_Mo_passOn 19 3 197 M).bind fun q15 =>
        if q15.1 ≤ 0 then
          some (0, q15.2)
        else
          some (1, q15.2)
      else
        some (0, M)
    else
      some (0, M)
  else
  if a0 = 4 then
    if (a1 / 100) = 0 then
      if 32 ≤ (gRem a1 100) then
        some (0, M)
      else
        (gRd 197 (M 19 3) 1).bind fun v20 =>
        if v20 = 2 then
          (f_Mo_playOn 19 3 197 M (gRem a1 100)).bind fun q21 =>
          if q21.1 = 0 then
            some (1, q21.2)
          else
            some (0, q21.2)
        else
          some (0, M)
    else
      some (0, M)
  else
  if a0 = 5 then
    if 10 ≤ a1 then
      some (0, M)
    else
      (f_Mo_playsAdvice M (gRem a1 10)).bind fun q27 =>
      if q27.1 = 0 then
        some (0, q27.2)
      else
        some (1, q27.2)
  else
  if a0 = 6 then
    if 4 ≤ a1 then
      some (0, M)
    else
      (f_Mo_isTurn M (gRem a1 10)).bind fun q31 =>
      if q31 = 0 then
        some (0, M)
      else
        some (1, M)
  else
  if a0 = 7 then
    if 2 ≤ (a1 / 100) then
      some (0, M)
    else
      if (gRem (a1 / 10) 10) = 0 then
        (gRd 197 (M 19 3) (5 + (a1 / 100))).bind fun v35 =>
        if v35 < (gRem a1 10) then
          some (0, M)
        else
          some (1, M)
      else
        some (0, M)
  else
  if a0 = 8 then
    if 4 ≤ (a1 / 100) then
      some (0, M)
    else
      if 4 ≤ (gRem (a1 / 10) 10) then
        some (0, M)
      else
        if 3 ≤ (gRem a1 10) then
          some (0, M)
        else
          (gRd 197 (M 19 3) ((149 + (4 * (a1 / 100))) + (gRem (a1 / 10) 10))).bind fun v40 =>
          if v40 = (gRem a1 10) then
            some (1, M)
          else
            some (0, M)
  else
  if a0 = 9 then
    if 4 ≤ (a1 / 100) then
      some (0, M)
    else
      if 32 ≤ (gRem a1 100) then
        some (0, M)
      else
        (gRd 197 (M 19 3) (21 + (gRem a1 100))).bind fun v46 =>
        if v46 = (a1 / 100) then
          some (1, M)
        else
          some (0, M)
  else
  some (0, M)
theorem t_Mo_command {l : Launch} {ε : gEnv} (hM : gMo ε) (M : gMem) (a0 : Int32) (a1 : Int32) (r : (Int32 × gMem)) (h : f_Mo_command M a0 a1 = some r) : gGo l ε k_Mo_command (gR 8 173) (gFn ε (some (.int r.1)) r.2) 0 [(0, .ref (ε.2.2.1 19 0)), (1, .int a0), (2, .int a1)] [] M := by
  unfold f_Mo_command at h
  refine g_iload_n d_Mo_command_0 rfl 2 rfl ?_
  refine g_bipush (v := 100) d_Mo_command_1 (by decide) ?_
  refine g_idiv d_Mo_command_3 (by decide) ?_
  refine g_istore_n (L' := [(3, .int (a1 / 100)), (0, .ref (ε.2.2.1 19 0)), (1, .int a0), (2, .int a1)]) d_Mo_command_4 rfl (by decide) rfl ?_
  refine g_iload_n d_Mo_command_5 rfl 3 rfl ?_
  refine g_bipush (v := 10) d_Mo_command_6 (by decide) ?_
  refine g_idiv d_Mo_command_8 (by decide) ?_
  refine g_bipush (v := 10) d_Mo_command_9 (by decide) ?_
  refine g_rem d_Mo_command_11 (by decide) ?_
  refine g_istore (L' := [(4, .int (gRem (a1 / 10) 10)), (3, .int (a1 / 100)), (0, .ref (ε.2.2.1 19 0)), (1, .int a0), (2, .int a1)]) d_Mo_command_12 (by decide) rfl ?_
  refine g_iload_n d_Mo_command_14 rfl 4 rfl ?_
  refine g_bipush (v := 10) d_Mo_command_15 (by decide) ?_
  refine g_rem d_Mo_command_17 (by decide) ?_
  refine g_istore (L' := [(5, .int (gRem a1 10)), (4, .int (gRem (a1 / 10) 10)), (3, .int (a1 / 100)), (0, .ref (ε.2.2.1 19 0)), (1, .int a0), (2, .int a1)]) d_Mo_command_18 (by decide) rfl ?_
  refine g_iload_n d_Mo_command_20 rfl 5 rfl ?_
  refine g_bipush (v := 100) d_Mo_command_21 (by decide) ?_
  refine g_rem d_Mo_command_23 (by decide) ?_
  refine g_istore (L' := [(6, .int (gRem a1 100)), (5, .int (gRem a1 10)), (4, .int (gRem (a1 / 10) 10)), (3, .int (a1 / 100)), (0, .ref (ε.2.2.1 19 0)), (1, .int a0), (2, .int a1)]) d_Mo_command_24 (by decide) rfl ?_
  refine g_iload_n d_Mo_command_26 rfl 5 rfl ?_
  by_cases c1 : a0 = 1
  · rw [if_pos c1] at h
    refine g_tabIn (off := 49) (tgt := 76) d_Mo_command_27 (by rw [c1]; decide) (by rw [c1]; decide) (by rw [c1]; rfl) (by decide) ?_
    refine g_iload_n d_Mo_command_76 rfl 3 rfl ?_
    refine g_if_ne (tgt := 98) d_Mo_command_77 (by decide) (fun c4 => ?_) (fun c4 => ?_)
    · rw [if_neg c4] at h
      refine g_iconst (v := 0) d_Mo_command_98 (by decide) ?_
      obtain rfl := Option.some.inj h
      exact g_zret d_Mo_command_99 rfl gZ0
    · rw [if_pos c4] at h
      refine g_aload_n d_Mo_command_80 rfl 4 rfl ?_
      refine g_aload_n d_Mo_command_81 rfl 4 rfl ?_
      refine g_getR d_Mo_command_82 fl_Mo_16 (gMo_h0 hM) rfl ?_
      refine g_iload d_Mo_command_85 0 rfl ?_
      refine g_i2l d_Mo_command_87 ?_
      obtain ⟨q2, hq2, h⟩ := gOb h
      refine g_callV_i (As := [.ref (ε.2.2.1 19 3), .long (Int32.toInt64 (gRem a1 100))]) (rest := []) (ct_Mo_dealOn hM 19 3 197 (gMo_h3 hM) M (Int32.toInt64 (gRem a1 100)) _ hq2) d_Mo_command_88 ca_Mo_dealOn w_1059 (gMo_h0 hM) rfl rfl rfl (Nat.le_of_ble_eq_true rfl) ⟨(Nat.le_of_ble_eq_true rfl), (Nat.le_of_ble_eq_true rfl)⟩ ?_
      refine g_if_le (tgt := 98) d_Mo_command_91 (by decide) (fun c3 => ?_) (fun c3 => ?_)
      · rw [if_pos c3] at h
        refine g_iconst (v := 0) d_Mo_command_98 (by decide) ?_
        obtain rfl := Option.some.inj h
        exact g_zret d_Mo_command_99 rfl gZ0
      · rw [if_neg c3] at h
        refine g_iconst (v := 1) d_Mo_command_94 (by decide) ?_
        refine g_goto (tgt := 99) d_Mo_command_95 (by decide) ?_
        obtain rfl := Option.some.inj h
        exact g_zret d_Mo_command_99 rfl gZ1
  rw [if_neg c1] at h
  by_cases c5 : a0 = 2
  · rw [if_pos c5] at h
    refine g_tabIn (off := 73) (tgt := 100) d_Mo_command_27 (by rw [c5]; decide) (by rw [c5]; decide) (by rw [c5]; rfl) (by decide) ?_
    refine g_iload d_Mo_command_100 1 rfl ?_
    refine g_if_ne (tgt := 144) d_Mo_command_102 (by decide) (fun c12 => ?_) (fun c12 => ?_)
    · rw [if_neg c12] at h
      refine g_iconst (v := 0) d_Mo_command_144 (by decide) ?_
      obtain rfl := Option.some.inj h
      exact g_zret d_Mo_command_145 rfl gZ0
    · rw [if_pos c12] at h
      refine g_iload_n d_Mo_command_105 rfl 3 rfl ?_
      refine g_iload d_Mo_command_106 2 rfl ?_
      obtain ⟨q6, hq6, h⟩ := gOb h
      refine g_callS_i (As := [.int (a1 / 100), .int (gRem (a1 / 10) 10)]) (rest := []) (ct_Mo_isBid M (a1 / 100) (gRem (a1 / 10) 10) _ hq6) d_Mo_command_108 ca_Mo_isBid w_1172 rfl rfl (Nat.le_of_ble_eq_true rfl) ⟨(Nat.le_of_ble_eq_true rfl), (Nat.le_of_ble_eq_true rfl)⟩ ?_
      refine g_if_eq (tgt := 144) d_Mo_command_111 (by decide) (fun c11 => ?_) (fun c11 => ?_)
      · rw [if_pos c11] at h
        refine g_iconst (v := 0) d_Mo_command_144 (by decide) ?_
        obtain rfl := Option.some.inj h
        exact g_zret d_Mo_command_145 rfl gZ0
      · rw [if_neg c11] at h
        refine g_aload_n d_Mo_command_114 rfl 4 rfl ?_
        refine g_getR d_Mo_command_115 fl_Mo_16 (gMo_h0 hM) rfl ?_
        refine g_iload_n d_Mo_command_118 rfl 3 rfl ?_
        refine g_iload d_Mo_command_119 2 rfl ?_
        obtain ⟨q7, hq7, h⟩ := gOb h
        refine g_callS_i (As := [.ref (ε.2.2.1 19 3), .int (a1 / 100), .int (gRem (a1 / 10) 10)]) (rest := []) (ct_Mo_canBid 19 3 197 (gMo_h3 hM) M (a1 / 100) (gRem (a1 / 10) 10) _ hq7) d_Mo_command_121 ca_Mo_canBid w_1069 rfl rfl (Nat.le_of_ble_eq_true rfl) ⟨(Nat.le_of_ble_eq_true rfl), (Nat.le_of_ble_eq_true rfl)⟩ ?_
        refine g_if_eq (tgt := 144) d_Mo_command_124 (by decide) (fun c10 => ?_) (fun c10 => ?_)
        · rw [if_pos c10] at h
          refine g_iconst (v := 0) d_Mo_command_144 (by decide) ?_
          obtain rfl := Option.some.inj h
          exact g_zret d_Mo_command_145 rfl gZ0
        · rw [if_neg c10] at h
          refine g_aload_n d_Mo_command_127 rfl 4 rfl ?_
          refine g_getR d_Mo_command_128 fl_Mo_16 (gMo_h0 hM) rfl ?_
          refine g_iload_n d_Mo_command_131 rfl 3 rfl ?_
          refine g_iload d_Mo_command_132 2 rfl ?_
          obtain ⟨q8, hq8, h⟩ := gOb h
          refine g_callS_i (As := [.ref (ε.2.2.1 19 3), .int (a1 / 100), .int (gRem (a1 / 10) 10)]) (rest := []) (ct_Mo_bidOn 19 3 197 (gMo_h3 hM) M (a1 / 100) (gRem (a1 / 10) 10) _ hq8) d_Mo_command_134 ca_Mo_bidOn w_1072 rfl rfl (Nat.le_of_ble_eq_true rfl) ⟨(Nat.le_of_ble_eq_true rfl), (Nat.le_of_ble_eq_true rfl)⟩ ?_
          refine g_if_lt (tgt := 144) d_Mo_command_137 (by decide) (fun c9 => ?_) (fun c9 => ?_)
          · rw [if_pos c9] at h
            refine g_iconst (v := 0) d_Mo_command_144 (by decide) ?_
            obtain rfl := Option.some.inj h
            exact g_zret d_Mo_command_145 rfl gZ0
          · rw [if_neg c9] at h
            refine g_iconst (v := 1) d_Mo_command_140 (by decide) ?_
            refine g_goto (tgt := 145) d_Mo_command_141 (by decide) ?_
            obtain rfl := Option.some.inj h
            exact g_zret d_Mo_command_145 rfl gZ1
  rw [if_neg c5] at h
  by_cases c13 : a0 = 3
  · rw [if_pos c13] at h
    refine g_tabIn (off := 119) (tgt := 146) d_Mo_command_27 (by rw [c13]; decide) (by rw [c13]; decide) (by rw [c13]; rfl) (by decide) ?_
    refine g_iload_n d_Mo_command_146 rfl 6 rfl ?_
    refine g_if_ne (tgt := 174) d_Mo_command_147 (by decide) (fun c18 => ?_) (fun c18 => ?_)
    · rw [if_neg c18] at h
      refine g_iconst (v := 0) d_Mo_command_174 (by decide) ?_
      obtain rfl := Option.some.inj h
      exact g_zret d_Mo_command_175 rfl gZ0
    · rw [if_pos c18] at h
      refine g_aload_n d_Mo_command_150 rfl 4 rfl ?_
      refine g_getR d_Mo_command_151 fl_Mo_16 (gMo_h0 hM) rfl ?_
      refine g_iconst (v := 1) d_Mo_command_154 (by decide) ?_
      obtain ⟨v14, hv14, h⟩ := gOb h
      refine g_iaload d_Mo_command_155 (gMo_h3 hM) hv14 ?_
      refine g_iconst (v := 1) d_Mo_command_156 (by decide) ?_
      refine g_icmp_ne (tgt := 174) d_Mo_command_157 (by decide) (fun c17 => ?_) (fun c17 => ?_)
      · rw [if_neg c17] at h
        refine g_iconst (v := 0) d_Mo_command_174 (by decide) ?_
        obtain rfl := Option.some.inj h
        exact g_zret d_Mo_command_175 rfl gZ0
      · rw [if_pos c17] at h
        refine g_aload_n d_Mo_command_160 rfl 4 rfl ?_
        refine g_getR d_Mo_command_161 fl_Mo_16 (gMo_h0 hM) rfl ?_
        obtain ⟨q15, hq15, h⟩ := gOb h
        refine g_callS_i (As := [.ref (ε.2.2.1 19 3)]) (rest := []) (ct_Mo_passOn 19 3 197 (gMo_h3 hM) M _ hq15) d_Mo_command_164 ca_Mo_passOn w_1075 rfl rfl (Nat.le_of_ble_eq_true rfl) ⟨(Nat.le_of_ble_eq_true rfl), (Nat.le_of_ble_eq_true rfl)⟩ ?_
        refine g_if_le (tgt := 174) d_Mo_command_167 (by decide) (fun c16 => ?_) (fun c16 => ?_)
        · rw [if_pos c16] at h
          refine g_iconst (v := 0) d_Mo_command_174 (by decide) ?_
          obtain rfl := Option.some.inj h
          exact g_zret d_Mo_command_175 rfl gZ0
        · rw [if_neg c16] at h
          refine g_iconst (v := 1) d_Mo_command_170 (by decide) ?_
          refine g_goto (tgt := 175) d_Mo_command_171 (by decide) ?_
          obtain rfl := Option.some.inj h
          exact g_zret d_Mo_command_175 rfl gZ1
  rw [if_neg c13] at h
  by_cases c19 : a0 = 4
  · rw [if_pos c19] at h
    refine g_tabIn (off := 149) (tgt := 176) d_Mo_command_27 (by rw [c19]; decide) (by rw [c19]; decide) (by rw [c19]; rfl) (by decide) ?_
    refine g_iload_n d_Mo_command_176 rfl 3 rfl ?_
    refine g_if_ne (tgt := 213) d_Mo_command_177 (by decide) (fun c25 => ?_) (fun c25 => ?_)
    · rw [if_neg c25] at h
      refine g_iconst (v := 0) d_Mo_command_213 (by decide) ?_
      obtain rfl := Option.some.inj h
      exact g_zret d_Mo_command_214 rfl gZ0
    · rw [if_pos c25] at h
      refine g_iload d_Mo_command_180 0 rfl ?_
      refine g_bipush (v := 32) d_Mo_command_182 (by decide) ?_
      refine g_icmp_ge (tgt := 213) d_Mo_command_184 (by decide) (fun c24 => ?_) (fun c24 => ?_)
      · rw [if_pos c24] at h
        refine g_iconst (v := 0) d_Mo_command_213 (by decide) ?_
        obtain rfl := Option.some.inj h
        exact g_zret d_Mo_command_214 rfl gZ0
      · rw [if_neg c24] at h
        refine g_aload_n d_Mo_command_187 rfl 4 rfl ?_
        refine g_getR d_Mo_command_188 fl_Mo_16 (gMo_h0 hM) rfl ?_
        refine g_iconst (v := 1) d_Mo_command_191 (by decide) ?_
        obtain ⟨v20, hv20, h⟩ := gOb h
        refine g_iaload d_Mo_command_192 (gMo_h3 hM) hv20 ?_
        refine g_iconst (v := 2) d_Mo_command_193 (by decide) ?_
        refine g_icmp_ne (tgt := 213) d_Mo_command_194 (by decide) (fun c23 => ?_) (fun c23 => ?_)
        · rw [if_neg c23] at h
          refine g_iconst (v := 0) d_Mo_command_213 (by decide) ?_
          obtain rfl := Option.some.inj h
          exact g_zret d_Mo_command_214 rfl gZ0
        · rw [if_pos c23] at h
          refine g_aload_n d_Mo_command_197 rfl 4 rfl ?_
          refine g_getR d_Mo_command_198 fl_Mo_16 (gMo_h0 hM) rfl ?_
          refine g_iload d_Mo_command_201 0 rfl ?_
          obtain ⟨q21, hq21, h⟩ := gOb h
          refine g_callS_i (As := [.ref (ε.2.2.1 19 3), .int (gRem a1 100)]) (rest := []) (ct_Mo_playOn 19 3 197 (gMo_h3 hM) M (gRem a1 100) _ hq21) d_Mo_command_203 ca_Mo_playOn w_1093 rfl rfl (Nat.le_of_ble_eq_true rfl) ⟨(Nat.le_of_ble_eq_true rfl), (Nat.le_of_ble_eq_true rfl)⟩ ?_
          refine g_if_ne (tgt := 213) d_Mo_command_206 (by decide) (fun c22 => ?_) (fun c22 => ?_)
          · rw [if_neg c22] at h
            refine g_iconst (v := 0) d_Mo_command_213 (by decide) ?_
            obtain rfl := Option.some.inj h
            exact g_zret d_Mo_command_214 rfl gZ0
          · rw [if_pos c22] at h
            refine g_iconst (v := 1) d_Mo_command_209 (by decide) ?_
            refine g_goto (tgt := 214) d_Mo_command_210 (by decide) ?_
            obtain rfl := Option.some.inj h
            exact g_zret d_Mo_command_214 rfl gZ1
  rw [if_neg c19] at h
  by_cases c26 : a0 = 5
  · rw [if_pos c26] at h
    refine g_tabIn (off := 188) (tgt := 215) d_Mo_command_27 (by rw [c26]; decide) (by rw [c26]; decide) (by rw [c26]; rfl) (by decide) ?_
    refine g_iload_n d_Mo_command_215 rfl 6 rfl ?_
    refine g_bipush (v := 10) d_Mo_command_216 (by decide) ?_
    refine g_icmp_ge (tgt := 234) d_Mo_command_218 (by decide) (fun c29 => ?_) (fun c29 => ?_)
    · rw [if_pos c29] at h
      refine g_iconst (v := 0) d_Mo_command_234 (by decide) ?_
      obtain rfl := Option.some.inj h
      exact g_zret d_Mo_command_235 rfl gZ0
    · rw [if_neg c29] at h
      refine g_aload_n d_Mo_command_221 rfl 4 rfl ?_
      refine g_iload d_Mo_command_222 1 rfl ?_
      obtain ⟨q27, hq27, h⟩ := gOb h
      refine g_callV_i (As := [.int (gRem a1 10)]) (rest := []) (ct_Mo_playsAdvice hM M (gRem a1 10) _ hq27) d_Mo_command_224 ca_Mo_playsAdvice w_1239 (gMo_h0 hM) rfl rfl rfl (Nat.le_of_ble_eq_true rfl) ⟨(Nat.le_of_ble_eq_true rfl), (Nat.le_of_ble_eq_true rfl)⟩ ?_
      refine g_if_eq (tgt := 234) d_Mo_command_227 (by decide) (fun c28 => ?_) (fun c28 => ?_)
      · rw [if_pos c28] at h
        refine g_iconst (v := 0) d_Mo_command_234 (by decide) ?_
        obtain rfl := Option.some.inj h
        exact g_zret d_Mo_command_235 rfl gZ0
      · rw [if_neg c28] at h
        refine g_iconst (v := 1) d_Mo_command_230 (by decide) ?_
        refine g_goto (tgt := 235) d_Mo_command_231 (by decide) ?_
        obtain rfl := Option.some.inj h
        exact g_zret d_Mo_command_235 rfl gZ1
  rw [if_neg c26] at h
  by_cases c30 : a0 = 6
  · rw [if_pos c30] at h
    refine g_tabIn (off := 209) (tgt := 236) d_Mo_command_27 (by rw [c30]; decide) (by rw [c30]; decide) (by rw [c30]; rfl) (by decide) ?_
    refine g_iload_n d_Mo_command_236 rfl 6 rfl ?_
    refine g_iconst (v := 4) d_Mo_command_237 (by decide) ?_
    refine g_icmp_ge (tgt := 254) d_Mo_command_238 (by decide) (fun c33 => ?_) (fun c33 => ?_)
    · rw [if_pos c33] at h
      refine g_iconst (v := 0) d_Mo_command_254 (by decide) ?_
      obtain rfl := Option.some.inj h
      exact g_zret d_Mo_command_255 rfl gZ0
    · rw [if_neg c33] at h
      refine g_aload_n d_Mo_command_241 rfl 4 rfl ?_
      refine g_iload d_Mo_command_242 1 rfl ?_
      obtain ⟨q31, hq31, h⟩ := gOb h
      refine g_callV_i (As := [.int (gRem a1 10)]) (rest := []) (ct_Mo_isTurn hM M (gRem a1 10) _ hq31) d_Mo_command_244 ca_Mo_isTurn w_1243 (gMo_h0 hM) rfl rfl rfl (Nat.le_of_ble_eq_true rfl) ⟨(Nat.le_of_ble_eq_true rfl), (Nat.le_of_ble_eq_true rfl)⟩ ?_
      refine g_if_eq (tgt := 254) d_Mo_command_247 (by decide) (fun c32 => ?_) (fun c32 => ?_)
      · rw [if_pos c32] at h
        refine g_iconst (v := 0) d_Mo_command_254 (by decide) ?_
        obtain rfl := Option.some.inj h
        exact g_zret d_Mo_command_255 rfl gZ0
      · rw [if_neg c32] at h
        refine g_iconst (v := 1) d_Mo_command_250 (by decide) ?_
        refine g_goto (tgt := 255) d_Mo_command_251 (by decide) ?_
        obtain rfl := Option.some.inj h
        exact g_zret d_Mo_command_255 rfl gZ1
  rw [if_neg c30] at h
  by_cases c34 : a0 = 7
  · rw [if_pos c34] at h
    refine g_tabIn (off := 229) (tgt := 256) d_Mo_command_27 (by rw [c34]; decide) (by rw [c34]; decide) (by rw [c34]; rfl) (by decide) ?_
    refine g_iload_n d_Mo_command_256 rfl 3 rfl ?_
    refine g_iconst (v := 2) d_Mo_command_257 (by decide) ?_
    refine g_icmp_ge (tgt := 283) d_Mo_command_258 (by decide) (fun c38 => ?_) (fun c38 => ?_)
    · rw [if_pos c38] at h
      refine g_iconst (v := 0) d_Mo_command_283 (by decide) ?_
      obtain rfl := Option.some.inj h
      exact g_zret d_Mo_command_284 rfl gZ0
    · rw [if_neg c38] at h
      refine g_iload d_Mo_command_261 2 rfl ?_
      refine g_if_ne (tgt := 283) d_Mo_command_263 (by decide) (fun c37 => ?_) (fun c37 => ?_)
      · rw [if_neg c37] at h
        refine g_iconst (v := 0) d_Mo_command_283 (by decide) ?_
        obtain rfl := Option.some.inj h
        exact g_zret d_Mo_command_284 rfl gZ0
      · rw [if_pos c37] at h
        refine g_aload_n d_Mo_command_266 rfl 4 rfl ?_
        refine g_getR d_Mo_command_267 fl_Mo_16 (gMo_h0 hM) rfl ?_
        refine g_iconst (v := 5) d_Mo_command_270 (by decide) ?_
        refine g_iload_n d_Mo_command_271 rfl 3 rfl ?_
        refine g_iadd d_Mo_command_272 ?_
        obtain ⟨v35, hv35, h⟩ := gOb h
        refine g_iaload d_Mo_command_273 (gMo_h3 hM) hv35 ?_
        refine g_iload d_Mo_command_274 1 rfl ?_
        refine g_icmp_lt (tgt := 283) d_Mo_command_276 (by decide) (fun c36 => ?_) (fun c36 => ?_)
        · rw [if_pos c36] at h
          refine g_iconst (v := 0) d_Mo_command_283 (by decide) ?_
          obtain rfl := Option.some.inj h
          exact g_zret d_Mo_command_284 rfl gZ0
        · rw [if_neg c36] at h
          refine g_iconst (v := 1) d_Mo_command_279 (by decide) ?_
          refine g_goto (tgt := 284) d_Mo_command_280 (by decide) ?_
          obtain rfl := Option.some.inj h
          exact g_zret d_Mo_command_284 rfl gZ1
  rw [if_neg c34] at h
  by_cases c39 : a0 = 8
  · rw [if_pos c39] at h
    refine g_tabIn (off := 258) (tgt := 285) d_Mo_command_27 (by rw [c39]; decide) (by rw [c39]; decide) (by rw [c39]; rfl) (by decide) ?_
    refine g_iload_n d_Mo_command_285 rfl 3 rfl ?_
    refine g_iconst (v := 4) d_Mo_command_286 (by decide) ?_
    refine g_icmp_ge (tgt := 326) d_Mo_command_287 (by decide) (fun c44 => ?_) (fun c44 => ?_)
    · rw [if_pos c44] at h
      refine g_iconst (v := 0) d_Mo_command_326 (by decide) ?_
      obtain rfl := Option.some.inj h
      exact g_zret d_Mo_command_327 rfl gZ0
    · rw [if_neg c44] at h
      refine g_iload d_Mo_command_290 2 rfl ?_
      refine g_iconst (v := 4) d_Mo_command_292 (by decide) ?_
      refine g_icmp_ge (tgt := 326) d_Mo_command_293 (by decide) (fun c43 => ?_) (fun c43 => ?_)
      · rw [if_pos c43] at h
        refine g_iconst (v := 0) d_Mo_command_326 (by decide) ?_
        obtain rfl := Option.some.inj h
        exact g_zret d_Mo_command_327 rfl gZ0
      · rw [if_neg c43] at h
        refine g_iload d_Mo_command_296 1 rfl ?_
        refine g_iconst (v := 3) d_Mo_command_298 (by decide) ?_
        refine g_icmp_ge (tgt := 326) d_Mo_command_299 (by decide) (fun c42 => ?_) (fun c42 => ?_)
        · rw [if_pos c42] at h
          refine g_iconst (v := 0) d_Mo_command_326 (by decide) ?_
          obtain rfl := Option.some.inj h
          exact g_zret d_Mo_command_327 rfl gZ0
        · rw [if_neg c42] at h
          refine g_aload_n d_Mo_command_302 rfl 4 rfl ?_
          refine g_getR d_Mo_command_303 fl_Mo_16 (gMo_h0 hM) rfl ?_
          refine g_sipush (v := 149) d_Mo_command_306 (by decide) ?_
          refine g_iconst (v := 4) d_Mo_command_309 (by decide) ?_
          refine g_iload_n d_Mo_command_310 rfl 3 rfl ?_
          refine g_imul d_Mo_command_311 ?_
          refine g_iadd d_Mo_command_312 ?_
          refine g_iload d_Mo_command_313 2 rfl ?_
          refine g_iadd d_Mo_command_315 ?_
          obtain ⟨v40, hv40, h⟩ := gOb h
          refine g_iaload d_Mo_command_316 (gMo_h3 hM) hv40 ?_
          refine g_iload d_Mo_command_317 1 rfl ?_
          refine g_icmp_ne (tgt := 326) d_Mo_command_319 (by decide) (fun c41 => ?_) (fun c41 => ?_)
          · rw [if_neg c41] at h
            refine g_iconst (v := 0) d_Mo_command_326 (by decide) ?_
            obtain rfl := Option.some.inj h
            exact g_zret d_Mo_command_327 rfl gZ0
          · rw [if_pos c41] at h
            refine g_iconst (v := 1) d_Mo_command_322 (by decide) ?_
            refine g_goto (tgt := 327) d_Mo_command_323 (by decide) ?_
            obtain rfl := Option.some.inj h
            exact g_zret d_Mo_command_327 rfl gZ1
  rw [if_neg c39] at h
  by_cases c45 : a0 = 9
  · rw [if_pos c45] at h
    refine g_tabIn (off := 301) (tgt := 328) d_Mo_command_27 (by rw [c45]; decide) (by rw [c45]; decide) (by rw [c45]; rfl) (by decide) ?_
    refine g_iload_n d_Mo_command_328 rfl 3 rfl ?_
    refine g_iconst (v := 4) d_Mo_command_329 (by decide) ?_
    refine g_icmp_ge (tgt := 358) d_Mo_command_330 (by decide) (fun c49 => ?_) (fun c49 => ?_)
    · rw [if_pos c49] at h
      refine g_iconst (v := 0) d_Mo_command_358 (by decide) ?_
      obtain rfl := Option.some.inj h
      exact g_zret d_Mo_command_359 rfl gZ0
    · rw [if_neg c49] at h
      refine g_iload d_Mo_command_333 0 rfl ?_
      refine g_bipush (v := 32) d_Mo_command_335 (by decide) ?_
      refine g_icmp_ge (tgt := 358) d_Mo_command_337 (by decide) (fun c48 => ?_) (fun c48 => ?_)
      · rw [if_pos c48] at h
        refine g_iconst (v := 0) d_Mo_command_358 (by decide) ?_
        obtain rfl := Option.some.inj h
        exact g_zret d_Mo_command_359 rfl gZ0
      · rw [if_neg c48] at h
        refine g_aload_n d_Mo_command_340 rfl 4 rfl ?_
        refine g_getR d_Mo_command_341 fl_Mo_16 (gMo_h0 hM) rfl ?_
        refine g_bipush (v := 21) d_Mo_command_344 (by decide) ?_
        refine g_iload d_Mo_command_346 0 rfl ?_
        refine g_iadd d_Mo_command_348 ?_
        obtain ⟨v46, hv46, h⟩ := gOb h
        refine g_iaload d_Mo_command_349 (gMo_h3 hM) hv46 ?_
        refine g_iload_n d_Mo_command_350 rfl 3 rfl ?_
        refine g_icmp_ne (tgt := 358) d_Mo_command_351 (by decide) (fun c47 => ?_) (fun c47 => ?_)
        · rw [if_neg c47] at h
          refine g_iconst (v := 0) d_Mo_command_358 (by decide) ?_
          obtain rfl := Option.some.inj h
          exact g_zret d_Mo_command_359 rfl gZ0
        · rw [if_pos c47] at h
          refine g_iconst (v := 1) d_Mo_command_354 (by decide) ?_
          refine g_goto (tgt := 359) d_Mo_command_355 (by decide) ?_
          obtain rfl := Option.some.inj h
          exact g_zret d_Mo_command_359 rfl gZ1
  rw [if_neg c45] at h
  refine g_tabOut (tgt := 360) d_Mo_command_27 (by have nc1 := lv_neT (a := 1) c1 rfl; have nc5 := lv_neT (a := 2) c5 rfl; have nc13 := lv_neT (a := 3) c13 rfl; have nc19 := lv_neT (a := 4) c19 rfl; have nc26 := lv_neT (a := 5) c26 rfl; have nc30 := lv_neT (a := 6) c30 rfl; have nc34 := lv_neT (a := 7) c34 rfl; have nc39 := lv_neT (a := 8) c39 rfl; have nc45 := lv_neT (a := 9) c45 rfl; omega) (by decide) ?_
  refine g_iconst (v := 0) d_Mo_command_360 (by decide) ?_
  obtain rfl := Option.some.inj h
  exact g_zret d_Mo_command_361 rfl gZ0
theorem ct_Mo_command {l : Launch} {ε : gEnv} (hM : gMo ε) (M : gMem) (a0 : Int32) (a1 : Int32) (r : (Int32 × gMem)) (h : f_Mo_command M a0 a1 = some r) : gCt l ε k_Mo_command 8 173 [.ref (ε.2.2.1 19 0), .int a0, .int a1] M (some (.int r.1)) r.2 :=
  gCt_of (by decide) (Nat.le_of_ble_eq_true rfl) rfl (t_Mo_command hM M a0 a1 r h)
abbrev k_Mo_runScript : gMD := (⟨"DropSignalsModel", "runScript", "(IJ)I"⟩, prog_11_method_64_code, 8, (some .int))
theorem w_1231 : Cond.instanceMethod ⟨"DropSignalsModel", "runScript", "(IJ)I"⟩ ∈ gWs := gWs_in (i := 1231) (by decide +kernel) rfl
theorem w_1232 : Cond.selects "DropSignalsModel" ⟨"DropSignalsModel", "runScript", "(IJ)I"⟩ ⟨"DropSignalsModel", "runScript", "(IJ)I"⟩ ∈ gWs := gWs_in (i := 1232) (by decide +kernel) rfl
set_option maxRecDepth 100000 in
theorem ca_Mo_runScript : gCaV k_Mo_runScript 2 := ⟨⟨gWs_in (i := 1233) rfl rfl, w_43, by decide, by decide, by decide +kernel⟩, w_1231, w_1232⟩
theorem d_Mo_runScript_0 : decode prog_11_method_64_code 0 = .ok (.lconst 1, 1) := by decide +kernel
theorem d_Mo_runScript_1 : decode prog_11_method_64_code 1 = .ok (.lstore 4, 2) := by decide +kernel
theorem d_Mo_runScript_3 : decode prog_11_method_64_code 3 = .ok (.iconst 0, 1) := by decide +kernel
theorem d_Mo_runScript_4 : decode prog_11_method_64_code 4 = .ok (.istore 6, 2) := by decide +kernel
theorem d_Mo_runScript_6 : decode prog_11_method_64_code 6 = .ok (.iload 6, 2) := by decide +kernel
theorem d_Mo_runScript_8 : decode prog_11_method_64_code 8 = .ok (.iload_n 1, 1) := by decide +kernel
theorem d_Mo_runScript_9 : decode prog_11_method_64_code 9 = .ok (.if_icmp .ge 23, 3) := by decide +kernel
theorem d_Mo_runScript_12 : decode prog_11_method_64_code 12 = .ok (.iload 6, 2) := by decide +kernel
theorem d_Mo_runScript_14 : decode prog_11_method_64_code 14 = .ok (.iconst 4, 1) := by decide +kernel
theorem d_Mo_runScript_15 : decode prog_11_method_64_code 15 = .ok (.if_icmp .ge 17, 3) := by decide +kernel
theorem d_Mo_runScript_18 : decode prog_11_method_64_code 18 = .ok (.lload 4, 2) := by decide +kernel
theorem d_Mo_runScript_20 : decode prog_11_method_64_code 20 = .ok (.ldc2_w 223, 3) := by decide +kernel
theorem d_Mo_runScript_23 : decode prog_11_method_64_code 23 = .ok (.lmul, 1) := by decide +kernel
theorem d_Mo_runScript_24 : decode prog_11_method_64_code 24 = .ok (.lstore 4, 2) := by decide +kernel
theorem d_Mo_runScript_26 : decode prog_11_method_64_code 26 = .ok (.iinc 6 1, 3) := by decide +kernel
theorem d_Mo_runScript_29 : decode prog_11_method_64_code 29 = .ok (.goto (-23), 3) := by decide +kernel
theorem d_Mo_runScript_32 : decode prog_11_method_64_code 32 = .ok (.aload_n 0, 1) := by decide +kernel
theorem d_Mo_runScript_33 : decode prog_11_method_64_code 33 = .ok (.iload_n 1, 1) := by decide +kernel
theorem d_Mo_runScript_34 : decode prog_11_method_64_code 34 = .ok (.i2l, 1) := by decide +kernel
theorem d_Mo_runScript_35 : decode prog_11_method_64_code 35 = .ok (.lconst 1, 1) := by decide +kernel
theorem d_Mo_runScript_36 : decode prog_11_method_64_code 36 = .ok (.ldc2_w 82, 3) := by decide +kernel
theorem d_Mo_runScript_39 : decode prog_11_method_64_code 39 = .ok (.invokestatic 84, 3) := by decide +kernel
theorem d_Mo_runScript_42 : decode prog_11_method_64_code 42 = .ok (.ifCond .eq 19, 3) := by decide +kernel
theorem d_Mo_runScript_45 : decode prog_11_method_64_code 45 = .ok (.lload_n 2, 1) := by decide +kernel
theorem d_Mo_runScript_46 : decode prog_11_method_64_code 46 = .ok (.lconst 0, 1) := by decide +kernel
theorem d_Mo_runScript_47 : decode prog_11_method_64_code 47 = .ok (.lload 4, 2) := by decide +kernel
theorem d_Mo_runScript_49 : decode prog_11_method_64_code 49 = .ok (.lconst 1, 1) := by decide +kernel
theorem d_Mo_runScript_50 : decode prog_11_method_64_code 50 = .ok (.lsub, 1) := by decide +kernel
theorem d_Mo_runScript_51 : decode prog_11_method_64_code 51 = .ok (.invokestatic 84, 3) := by decide +kernel
theorem d_Mo_runScript_54 : decode prog_11_method_64_code 54 = .ok (.ifCond .eq 7, 3) := by decide +kernel
theorem d_Mo_runScript_57 : decode prog_11_method_64_code 57 = .ok (.iconst 0, 1) := by decide +kernel
theorem d_Mo_runScript_58 : decode prog_11_method_64_code 58 = .ok (.goto 4, 3) := by decide +kernel
theorem d_Mo_runScript_61 : decode prog_11_method_64_code 61 = .ok (.iconst 1, 1) := by decide +kernel
theorem d_Mo_runScript_62 : decode prog_11_method_64_code 62 = .ok (.invokevirtual 127, 3) := by decide +kernel
theorem d_Mo_runScript_65 : decode prog_11_method_64_code 65 = .ok (.ifCond .eq 5, 3) := by decide +kernel
theorem d_Mo_runScript_68 : decode prog_11_method_64_code 68 = .ok (.iconst 0, 1) := by decide +kernel
theorem d_Mo_runScript_69 : decode prog_11_method_64_code 69 = .ok (.ireturn, 1) := by decide +kernel
theorem d_Mo_runScript_70 : decode prog_11_method_64_code 70 = .ok (.aload_n 0, 1) := by decide +kernel
theorem d_Mo_runScript_71 : decode prog_11_method_64_code 71 = .ok (.getfield 13, 3) := by decide +kernel
theorem d_Mo_runScript_74 : decode prog_11_method_64_code 74 = .ok (.iconst 0, 1) := by decide +kernel
theorem d_Mo_runScript_75 : decode prog_11_method_64_code 75 = .ok (.aload_n 0, 1) := by decide +kernel
theorem d_Mo_runScript_76 : decode prog_11_method_64_code 76 = .ok (.getfield 16, 3) := by decide +kernel
theorem d_Mo_runScript_79 : decode prog_11_method_64_code 79 = .ok (.iconst 0, 1) := by decide +kernel
theorem d_Mo_runScript_80 : decode prog_11_method_64_code 80 = .ok (.invokestatic 172, 3) := by decide +kernel
theorem d_Mo_runScript_83 : decode prog_11_method_64_code 83 = .ok (.iconst 0, 1) := by decide +kernel
theorem d_Mo_runScript_84 : decode prog_11_method_64_code 84 = .ok (.istore 6, 2) := by decide +kernel
theorem d_Mo_runScript_86 : decode prog_11_method_64_code 86 = .ok (.iload 6, 2) := by decide +kernel
theorem d_Mo_runScript_88 : decode prog_11_method_64_code 88 = .ok (.iload_n 1, 1) := by decide +kernel
theorem d_Mo_runScript_89 : decode prog_11_method_64_code 89 = .ok (.if_icmp .ge 50, 3) := by decide +kernel
theorem d_Mo_runScript_92 : decode prog_11_method_64_code 92 = .ok (.lload 4, 2) := by decide +kernel
theorem d_Mo_runScript_94 : decode prog_11_method_64_code 94 = .ok (.ldc2_w 223, 3) := by decide +kernel
theorem d_Mo_runScript_97 : decode prog_11_method_64_code 97 = .ok (.ldiv, 1) := by decide +kernel
theorem d_Mo_runScript_98 : decode prog_11_method_64_code 98 = .ok (.lstore 4, 2) := by decide +kernel
theorem d_Mo_runScript_100 : decode prog_11_method_64_code 100 = .ok (.lload_n 2, 1) := by decide +kernel
theorem d_Mo_runScript_101 : decode prog_11_method_64_code 101 = .ok (.lload 4, 2) := by decide +kernel
theorem d_Mo_runScript_103 : decode prog_11_method_64_code 103 = .ok (.ldiv, 1) := by decide +kernel
theorem d_Mo_runScript_104 : decode prog_11_method_64_code 104 = .ok (.ldc2_w 223, 3) := by decide +kernel
theorem d_Mo_runScript_107 : decode prog_11_method_64_code 107 = .ok (.lrem, 1) := by decide +kernel
theorem d_Mo_runScript_108 : decode prog_11_method_64_code 108 = .ok (.l2i, 1) := by decide +kernel
theorem d_Mo_runScript_109 : decode prog_11_method_64_code 109 = .ok (.istore 7, 2) := by decide +kernel
theorem d_Mo_runScript_111 : decode prog_11_method_64_code 111 = .ok (.aload_n 0, 1) := by decide +kernel
theorem d_Mo_runScript_112 : decode prog_11_method_64_code 112 = .ok (.iload 7, 2) := by decide +kernel
theorem d_Mo_runScript_114 : decode prog_11_method_64_code 114 = .ok (.sipush 1000, 3) := by decide +kernel
theorem d_Mo_runScript_117 : decode prog_11_method_64_code 117 = .ok (.idiv, 1) := by decide +kernel
theorem d_Mo_runScript_118 : decode prog_11_method_64_code 118 = .ok (.iload 7, 2) := by decide +kernel
theorem d_Mo_runScript_120 : decode prog_11_method_64_code 120 = .ok (.sipush 1000, 3) := by decide +kernel
theorem d_Mo_runScript_123 : decode prog_11_method_64_code 123 = .ok (.irem, 1) := by decide +kernel
theorem d_Mo_runScript_124 : decode prog_11_method_64_code 124 = .ok (.invokevirtual 225, 3) := by decide +kernel
theorem d_Mo_runScript_127 : decode prog_11_method_64_code 127 = .ok (.ifCond .ne 6, 3) := by decide +kernel
theorem d_Mo_runScript_130 : decode prog_11_method_64_code 130 = .ok (.iload 6, 2) := by decide +kernel
theorem d_Mo_runScript_132 : decode prog_11_method_64_code 132 = .ok (.ireturn, 1) := by decide +kernel
theorem d_Mo_runScript_133 : decode prog_11_method_64_code 133 = .ok (.iinc 6 1, 3) := by decide +kernel
theorem d_Mo_runScript_136 : decode prog_11_method_64_code 136 = .ok (.goto (-50), 3) := by decide +kernel
theorem d_Mo_runScript_139 : decode prog_11_method_64_code 139 = .ok (.iconst (-1), 1) := by decide +kernel
theorem d_Mo_runScript_140 : decode prog_11_method_64_code 140 = .ok (.ireturn, 1) := by decide +kernel
theorem w_1234 : Cond.constantLong "DropSignalsModel" 223 (10000) ∈ gWs := gWs_in (i := 1234) (by decide +kernel) rfl
theorem w_1235 : Cond.methodLink "DropSignalsModel" 225 ⟨"DropSignalsModel", "command", "(II)Z"⟩ ∈ gWs := gWs_in (i := 1235) (by decide +kernel) rfl
noncomputable def f_Mo_runScript_s86 (M : gMem) (x1 : Int32) (x2 : Int64) (x4 : Int64) (x6 : Int32) : Option ((Int64 × Int32 × gMem) ⊕ (Int32 × gMem)) :=
  if x1 ≤ x6 then
    some (.inr ((-1), M))
  else
    (gNzL (x4 / (10000))).bind fun _ =>
    (f_Mo_command M ((Int64.toInt32 (gRemL (x2 / (x4 / (10000))) (10000))) / 1000) (gRem (Int64.toInt32 (gRemL (x2 / (x4 / (10000))) (10000))) 1000)).bind fun q5 =>
    if q5.1 = 0 then
      some (.inr (x6, q5.2))
    else
      some (.inl ((x4 / (10000)), (x6 + 1), q5.2))
theorem t_Mo_runScript_s86 {l : Launch} {ε : gEnv} (hM : gMo ε) (M : gMem) (x1 : Int32) (x2 : Int64) (x4 : Int64) (x6 : Int32) (res : ((Int64 × Int32 × gMem) ⊕ (Int32 × gMem))) (h : f_Mo_runScript_s86 M x1 x2 x4 x6 = some res) (r : (Int32 × gMem)) (k1 : ∀ s0 : (Int64 × Int32 × gMem), res = .inl s0 → gGo l ε k_Mo_runScript (gR 9 199) (gFn ε (some (.int r.1)) r.2) 86 [(0, .ref (ε.2.2.1 19 0)), (1, .int x1), (2, .long x2), (4, .long s0.1), (6, .int s0.2.1)] [] s0.2.2) (k2 : ∀ r', res = .inr r' → r' = r) : gGo l ε k_Mo_runScript (gR 9 199) (gFn ε (some (.int r.1)) r.2) 86 [(0, .ref (ε.2.2.1 19 0)), (1, .int x1), (2, .long x2), (4, .long x4), (6, .int x6)] [] M := by
  unfold f_Mo_runScript_s86 at h
  refine g_iload d_Mo_runScript_86 4 rfl ?_
  refine g_iload_n d_Mo_runScript_88 rfl 1 rfl ?_
  refine g_icmp_ge (tgt := 139) d_Mo_runScript_89 (by decide) (fun c7 => ?_) (fun c7 => ?_)
  · rw [if_pos c7] at h
    refine g_iconst (v := -1) d_Mo_runScript_139 (by decide) ?_
    obtain rfl := Option.some.inj h
    have e9 := k2 _ rfl
    subst e9
    exact g_iret d_Mo_runScript_140 rfl
  · rw [if_neg c7] at h
    refine g_lload d_Mo_runScript_92 3 rfl ?_
    refine g_ldc2 d_Mo_runScript_94 w_1234 ?_
    refine g_ldiv d_Mo_runScript_97 (by decide) ?_
    refine g_lstore (L' := [(4, .long (x4 / (10000))), (0, .ref (ε.2.2.1 19 0)), (1, .int x1), (2, .long x2), (6, .int x6)]) d_Mo_runScript_98 (by decide) rfl ?_
    refine g_lload_n d_Mo_runScript_100 rfl 3 rfl ?_
    refine g_lload d_Mo_runScript_101 0 rfl ?_
    obtain ⟨z4, hz4, h⟩ := gOb h
    refine g_ldiv d_Mo_runScript_103 (gNzL_s hz4).2 ?_
    refine g_ldc2 d_Mo_runScript_104 w_1234 ?_
    refine g_remL d_Mo_runScript_107 (by decide) ?_
    refine g_l2i d_Mo_runScript_108 ?_
    refine g_istore (L' := [(7, .int (Int64.toInt32 (gRemL (x2 / (x4 / (10000))) (10000)))), (4, .long (x4 / (10000))), (0, .ref (ε.2.2.1 19 0)), (1, .int x1), (2, .long x2), (6, .int x6)]) d_Mo_runScript_109 (by decide) rfl ?_
    refine g_aload_n d_Mo_runScript_111 rfl 2 rfl ?_
    refine g_iload d_Mo_runScript_112 0 rfl ?_
    refine g_sipush (v := 1000) d_Mo_runScript_114 (by decide) ?_
    refine g_idiv d_Mo_runScript_117 (by decide) ?_
    refine g_iload d_Mo_runScript_118 0 rfl ?_
    refine g_sipush (v := 1000) d_Mo_runScript_120 (by decide) ?_
    refine g_rem d_Mo_runScript_123 (by decide) ?_
    obtain ⟨q5, hq5, h⟩ := gOb h
    refine g_callV_i (As := [.int ((Int64.toInt32 (gRemL (x2 / (x4 / (10000))) (10000))) / 1000), .int (gRem (Int64.toInt32 (gRemL (x2 / (x4 / (10000))) (10000))) 1000)]) (rest := []) (ct_Mo_command hM M ((Int64.toInt32 (gRemL (x2 / (x4 / (10000))) (10000))) / 1000) (gRem (Int64.toInt32 (gRemL (x2 / (x4 / (10000))) (10000))) 1000) _ hq5) d_Mo_runScript_124 ca_Mo_command w_1235 (gMo_h0 hM) rfl rfl rfl (Nat.le_of_ble_eq_true rfl) ⟨(Nat.le_of_ble_eq_true rfl), (Nat.le_of_ble_eq_true rfl)⟩ ?_
    refine g_if_ne (tgt := 133) d_Mo_runScript_127 (by decide) (fun c6 => ?_) (fun c6 => ?_)
    · rw [if_neg c6] at h
      refine g_iinc (v := (x6 + 1)) (L' := [(6, .int (x6 + 1)), (7, .int (Int64.toInt32 (gRemL (x2 / (x4 / (10000))) (10000)))), (4, .long (x4 / (10000))), (0, .ref (ε.2.2.1 19 0)), (1, .int x1), (2, .long x2)]) d_Mo_runScript_133 (j := 5) rfl rfl (by decide) rfl ?_
      refine g_goto (tgt := 86) d_Mo_runScript_136 (by decide) ?_
      refine gGo_sub [3, 4, 5, 2, 0] rfl ?_
      obtain rfl := Option.some.inj h
      exact k1 ((x4 / (10000)), (x6 + 1), q5.2) rfl
    · rw [if_pos c6] at h
      refine g_iload d_Mo_runScript_130 5 rfl ?_
      obtain rfl := Option.some.inj h
      have e9 := k2 _ rfl
      subst e9
      exact g_iret d_Mo_runScript_132 rfl
noncomputable def f_Mo_runScript_l86 (x1 : Int32) (x2 : Int64) (s : (Int64 × Int32 × gMem)) : Option (Int32 × gMem) := gLp (fun s => f_Mo_runScript_s86 s.2.2 x1 x2 s.1 s.2.1) s
theorem t_Mo_runScript_l86 {l : Launch} {ε : gEnv} (hM : gMo ε) (x1 : Int32) (x2 : Int64) (s : (Int64 × Int32 × gMem)) (r : (Int32 × gMem)) (h : f_Mo_runScript_l86 x1 x2 s = some r) : gGo l ε k_Mo_runScript (gR 9 199) (gFn ε (some (.int r.1)) r.2) 86 [(0, .ref (ε.2.2.1 19 0)), (1, .int x1), (2, .long x2), (4, .long s.1), (6, .int s.2.1)] [] s.2.2 :=
  g_loop _ (fun r s => gGo l ε k_Mo_runScript (gR 9 199) (gFn ε (some (.int r.1)) r.2) 86 [(0, .ref (ε.2.2.1 19 0)), (1, .int x1), (2, .long x2), (4, .long s.1), (6, .int s.2.1)] [] s.2.2) (fun s res h r k1 k2 => t_Mo_runScript_s86 hM s.2.2 x1 x2 s.1 s.2.1 res h r k1 k2) s r h
noncomputable def f_Mo_runScript_b62 (M : gMem) (x1 : Int32) (x2 : Int64) (x4 : Int64) (s0 : Int32) : Option (Int32 × gMem) :=
  (f_Mo_refused M s0).bind fun q2 =>
  if q2.1 = 0 then
    (f_Mo_copyState 19 2 197 19 3 197 q2.2 0 0).bind fun q3 =>
    f_Mo_runScript_l86 x1 x2 (x4, 0, q3)
  else
    some (0, q2.2)
theorem t_Mo_runScript_b62 {l : Launch} {ε : gEnv} (hM : gMo ε) (M : gMem) (x1 : Int32) (x2 : Int64) (x4 : Int64) (s0 : Int32) (r : (Int32 × gMem)) (h : f_Mo_runScript_b62 M x1 x2 x4 s0 = some r) : gGo l ε k_Mo_runScript (gR 9 199) (gFn ε (some (.int r.1)) r.2) 62 [(0, .ref (ε.2.2.1 19 0)), (1, .int x1), (2, .long x2), (4, .long x4)] [.int s0, .ref (ε.2.2.1 19 0)] M := by
  unfold f_Mo_runScript_b62 at h
  obtain ⟨q2, hq2, h⟩ := gOb h
  refine g_callV_i (As := [.int s0]) (rest := []) (ct_Mo_refused hM M s0 _ hq2) d_Mo_runScript_62 ca_Mo_refused w_1034 (gMo_h0 hM) rfl rfl rfl (Nat.le_of_ble_eq_true rfl) ⟨(Nat.le_of_ble_eq_true rfl), (Nat.le_of_ble_eq_true rfl)⟩ ?_
  refine g_if_eq (tgt := 70) d_Mo_runScript_65 (by decide) (fun c8 => ?_) (fun c8 => ?_)
  · rw [if_pos c8] at h
    refine g_aload_n d_Mo_runScript_70 rfl 0 rfl ?_
    refine g_getR d_Mo_runScript_71 fl_Mo_13 (gMo_h0 hM) rfl ?_
    refine g_iconst (v := 0) d_Mo_runScript_74 (by decide) ?_
    refine g_aload_n d_Mo_runScript_75 rfl 0 rfl ?_
    refine g_getR d_Mo_runScript_76 fl_Mo_16 (gMo_h0 hM) rfl ?_
    refine g_iconst (v := 0) d_Mo_runScript_79 (by decide) ?_
    obtain ⟨q3, hq3, h⟩ := gOb h
    refine g_callS_v (As := [.ref (ε.2.2.1 19 2), .int 0, .ref (ε.2.2.1 19 3), .int 0]) (rest := []) (ct_Mo_copyState 19 2 197 19 3 197 (gMo_h2 hM) (gMo_h3 hM) q2.2 0 0 _ hq3) d_Mo_runScript_80 ca_Mo_copyState w_1136 rfl rfl (Nat.le_of_ble_eq_true rfl) ⟨(Nat.le_of_ble_eq_true rfl), (Nat.le_of_ble_eq_true rfl)⟩ ?_
    refine g_iconst (v := 0) d_Mo_runScript_83 (by decide) ?_
    refine g_istore (L' := [(6, .int 0), (0, .ref (ε.2.2.1 19 0)), (1, .int x1), (2, .long x2), (4, .long x4)]) d_Mo_runScript_84 (by decide) rfl ?_
    refine gGo_sub [1, 2, 3, 4, 0] rfl ?_
    exact t_Mo_runScript_l86 hM x1 x2 (x4, 0, q3) _ h
  · rw [if_neg c8] at h
    refine g_iconst (v := 0) d_Mo_runScript_68 (by decide) ?_
    obtain rfl := Option.some.inj h
    exact g_iret d_Mo_runScript_69 rfl
noncomputable def f_Mo_runScript_b61 (M : gMem) (x1 : Int32) (x2 : Int64) (x4 : Int64) : Option (Int32 × gMem) :=
  f_Mo_runScript_b62 M x1 x2 x4 1
theorem t_Mo_runScript_b61 {l : Launch} {ε : gEnv} (hM : gMo ε) (M : gMem) (x1 : Int32) (x2 : Int64) (x4 : Int64) (r : (Int32 × gMem)) (h : f_Mo_runScript_b61 M x1 x2 x4 = some r) : gGo l ε k_Mo_runScript (gR 9 199) (gFn ε (some (.int r.1)) r.2) 61 [(0, .ref (ε.2.2.1 19 0)), (1, .int x1), (2, .long x2), (4, .long x4)] [.ref (ε.2.2.1 19 0)] M := by
  unfold f_Mo_runScript_b61 at h
  refine g_iconst (v := 1) d_Mo_runScript_61 (by decide) ?_
  exact t_Mo_runScript_b62 hM M x1 x2 x4 1 _ h
noncomputable def f_Mo_runScript_b32 (M : gMem) (x1 : Int32) (x2 : Int64) (x4 : Int64) : Option (Int32 × gMem) :=
  (f_Mo_in (Int32.toInt64 x1) 1 (4)).bind fun q1 =>
  if q1 = 0 then
    f_Mo_runScript_b61 M x1 x2 x4
  else
    (f_Mo_in x2 0 (x4 - 1)).bind fun q9 =>
    if q9 = 0 then
      f_Mo_runScript_b61 M x1 x2 x4
    else
      f_Mo_runScript_b62 M x1 x2 x4 0
theorem t_Mo_runScript_b32 {l : Launch} {ε : gEnv} (hM : gMo ε) (M : gMem) (x1 : Int32) (x2 : Int64) (x4 : Int64) (r : (Int32 × gMem)) (h : f_Mo_runScript_b32 M x1 x2 x4 = some r) : gGo l ε k_Mo_runScript (gR 9 199) (gFn ε (some (.int r.1)) r.2) 32 [(0, .ref (ε.2.2.1 19 0)), (1, .int x1), (2, .long x2), (4, .long x4)] [] M := by
  unfold f_Mo_runScript_b32 at h
  refine g_aload_n d_Mo_runScript_32 rfl 0 rfl ?_
  refine g_iload_n d_Mo_runScript_33 rfl 1 rfl ?_
  refine g_i2l d_Mo_runScript_34 ?_
  refine g_lconst (v := 1) d_Mo_runScript_35 (by decide) ?_
  refine g_ldc2 d_Mo_runScript_36 w_1175 ?_
  obtain ⟨q1, hq1, h⟩ := gOb h
  refine g_callS_i (As := [.long (Int32.toInt64 x1), .long 1, .long (4)]) (rest := [.ref (ε.2.2.1 19 0)]) (ct_Mo_in M (Int32.toInt64 x1) 1 (4) _ hq1) d_Mo_runScript_39 ca_Mo_in w_1031 rfl rfl (Nat.le_of_ble_eq_true rfl) ⟨(Nat.le_of_ble_eq_true rfl), (Nat.le_of_ble_eq_true rfl)⟩ ?_
  refine g_if_eq (tgt := 61) d_Mo_runScript_42 (by decide) (fun c11 => ?_) (fun c11 => ?_)
  · rw [if_pos c11] at h
    exact t_Mo_runScript_b61 hM M x1 x2 x4 _ h
  · rw [if_neg c11] at h
    refine g_lload_n d_Mo_runScript_45 rfl 2 rfl ?_
    refine g_lconst (v := 0) d_Mo_runScript_46 (by decide) ?_
    refine g_lload d_Mo_runScript_47 3 rfl ?_
    refine g_lconst (v := 1) d_Mo_runScript_49 (by decide) ?_
    refine g_lsub d_Mo_runScript_50 ?_
    obtain ⟨q9, hq9, h⟩ := gOb h
    refine g_callS_i (As := [.long x2, .long 0, .long (x4 - 1)]) (rest := [.ref (ε.2.2.1 19 0)]) (ct_Mo_in M x2 0 (x4 - 1) _ hq9) d_Mo_runScript_51 ca_Mo_in w_1031 rfl rfl (Nat.le_of_ble_eq_true rfl) ⟨(Nat.le_of_ble_eq_true rfl), (Nat.le_of_ble_eq_true rfl)⟩ ?_
    refine g_if_eq (tgt := 61) d_Mo_runScript_54 (by decide) (fun c10 => ?_) (fun c10 => ?_)
    · rw [if_pos c10] at h
      exact t_Mo_runScript_b61 hM M x1 x2 x4 _ h
    · rw [if_neg c10] at h
      refine g_iconst (v := 0) d_Mo_runScript_57 (by decide) ?_
      refine g_goto (tgt := 62) d_Mo_runScript_58 (by decide) ?_
      exact t_Mo_runScript_b62 hM M x1 x2 x4 0 _ h
noncomputable def f_Mo_runScript_s6 (M : gMem) (x1 : Int32) (x2 : Int64) (x4 : Int64) (x6 : Int32) : Option ((Int64 × Int32) ⊕ (Int32 × gMem)) :=
  if x1 ≤ x6 then
    (f_Mo_runScript_b32 M x1 x2 x4).map .inr
  else
    if 4 ≤ x6 then
      (f_Mo_runScript_b32 M x1 x2 x4).map .inr
    else
      some (.inl ((x4 * (10000)), (x6 + 1)))
theorem t_Mo_runScript_s6 {l : Launch} {ε : gEnv} (hM : gMo ε) (M : gMem) (x1 : Int32) (x2 : Int64) (x4 : Int64) (x6 : Int32) (res : ((Int64 × Int32) ⊕ (Int32 × gMem))) (h : f_Mo_runScript_s6 M x1 x2 x4 x6 = some res) (r : (Int32 × gMem)) (k1 : ∀ s0 : (Int64 × Int32), res = .inl s0 → gGo l ε k_Mo_runScript (gR 9 199) (gFn ε (some (.int r.1)) r.2) 6 [(0, .ref (ε.2.2.1 19 0)), (1, .int x1), (2, .long x2), (4, .long s0.1), (6, .int s0.2)] [] M) (k2 : ∀ r', res = .inr r' → r' = r) : gGo l ε k_Mo_runScript (gR 9 199) (gFn ε (some (.int r.1)) r.2) 6 [(0, .ref (ε.2.2.1 19 0)), (1, .int x1), (2, .long x2), (4, .long x4), (6, .int x6)] [] M := by
  unfold f_Mo_runScript_s6 at h
  refine g_iload d_Mo_runScript_6 4 rfl ?_
  refine g_iload_n d_Mo_runScript_8 rfl 1 rfl ?_
  refine g_icmp_ge (tgt := 32) d_Mo_runScript_9 (by decide) (fun c13 => ?_) (fun c13 => ?_)
  · rw [if_pos c13] at h
    refine gGo_sub [0, 1, 2, 3] rfl ?_
    obtain ⟨r9, h9, h8⟩ := gOm h
    cases h8
    have e9 := k2 _ rfl
    subst e9
    exact t_Mo_runScript_b32 hM M x1 x2 x4 _ h9
  · rw [if_neg c13] at h
    refine g_iload d_Mo_runScript_12 4 rfl ?_
    refine g_iconst (v := 4) d_Mo_runScript_14 (by decide) ?_
    refine g_icmp_ge (tgt := 32) d_Mo_runScript_15 (by decide) (fun c12 => ?_) (fun c12 => ?_)
    · rw [if_pos c12] at h
      refine gGo_sub [0, 1, 2, 3] rfl ?_
      obtain ⟨r9, h9, h8⟩ := gOm h
      cases h8
      have e9 := k2 _ rfl
      subst e9
      exact t_Mo_runScript_b32 hM M x1 x2 x4 _ h9
    · rw [if_neg c12] at h
      refine g_lload d_Mo_runScript_18 3 rfl ?_
      refine g_ldc2 d_Mo_runScript_20 w_1234 ?_
      refine g_lmul d_Mo_runScript_23 ?_
      refine g_lstore (L' := [(4, .long (x4 * (10000))), (0, .ref (ε.2.2.1 19 0)), (1, .int x1), (2, .long x2), (6, .int x6)]) d_Mo_runScript_24 (by decide) rfl ?_
      refine g_iinc (v := (x6 + 1)) (L' := [(6, .int (x6 + 1)), (4, .long (x4 * (10000))), (0, .ref (ε.2.2.1 19 0)), (1, .int x1), (2, .long x2)]) d_Mo_runScript_26 (j := 4) rfl rfl (by decide) rfl ?_
      refine g_goto (tgt := 6) d_Mo_runScript_29 (by decide) ?_
      refine gGo_sub [2, 3, 4, 1, 0] rfl ?_
      obtain rfl := Option.some.inj h
      exact k1 ((x4 * (10000)), (x6 + 1)) rfl
noncomputable def f_Mo_runScript_l6 (M : gMem) (x1 : Int32) (x2 : Int64) (s : (Int64 × Int32)) : Option (Int32 × gMem) := gLp (fun s => f_Mo_runScript_s6 M x1 x2 s.1 s.2) s
theorem t_Mo_runScript_l6 {l : Launch} {ε : gEnv} (hM : gMo ε) (M : gMem) (x1 : Int32) (x2 : Int64) (s : (Int64 × Int32)) (r : (Int32 × gMem)) (h : f_Mo_runScript_l6 M x1 x2 s = some r) : gGo l ε k_Mo_runScript (gR 9 199) (gFn ε (some (.int r.1)) r.2) 6 [(0, .ref (ε.2.2.1 19 0)), (1, .int x1), (2, .long x2), (4, .long s.1), (6, .int s.2)] [] M :=
  g_loop _ (fun r s => gGo l ε k_Mo_runScript (gR 9 199) (gFn ε (some (.int r.1)) r.2) 6 [(0, .ref (ε.2.2.1 19 0)), (1, .int x1), (2, .long x2), (4, .long s.1), (6, .int s.2)] [] M) (fun s res h r k1 k2 => t_Mo_runScript_s6 hM M x1 x2 s.1 s.2 res h r k1 k2) s r h
noncomputable def f_Mo_runScript (M : gMem) (a0 : Int32) (a1 : Int64) : Option (Int32 × gMem) :=
  f_Mo_runScript_l6 M a0 a1 (1, 0)
theorem t_Mo_runScript {l : Launch} {ε : gEnv} (hM : gMo ε) (M : gMem) (a0 : Int32) (a1 : Int64) (r : (Int32 × gMem)) (h : f_Mo_runScript M a0 a1 = some r) : gGo l ε k_Mo_runScript (gR 9 199) (gFn ε (some (.int r.1)) r.2) 0 [(0, .ref (ε.2.2.1 19 0)), (1, .int a0), (2, .long a1)] [] M := by
  unfold f_Mo_runScript at h
  refine g_lconst (v := 1) d_Mo_runScript_0 (by decide) ?_
  refine g_lstore (L' := [(4, .long 1), (0, .ref (ε.2.2.1 19 0)), (1, .int a0), (2, .long a1)]) d_Mo_runScript_1 (by decide) rfl ?_
  refine g_iconst (v := 0) d_Mo_runScript_3 (by decide) ?_
  refine g_istore (L' := [(6, .int 0), (4, .long 1), (0, .ref (ε.2.2.1 19 0)), (1, .int a0), (2, .long a1)]) d_Mo_runScript_4 (by decide) rfl ?_
  refine gGo_sub [2, 3, 4, 1, 0] rfl ?_
  exact t_Mo_runScript_l6 hM M a0 a1 (1, 0) _ h
theorem ct_Mo_runScript {l : Launch} {ε : gEnv} (hM : gMo ε) (M : gMem) (a0 : Int32) (a1 : Int64) (r : (Int32 × gMem)) (h : f_Mo_runScript M a0 a1 = some r) : gCt l ε k_Mo_runScript 9 199 [.ref (ε.2.2.1 19 0), .int a0, .long a1] M (some (.int r.1)) r.2 :=
  gCt_of (by decide) (Nat.le_of_ble_eq_true rfl) rfl (t_Mo_runScript hM M a0 a1 r h)
abbrev k_Mo_turnOf : gMD := (⟨"DropSignalsModel", "turnOf", "([II)V"⟩, prog_11_method_65_code, 4, none)
theorem w_1254 : Cond.instanceMethod ⟨"DropSignalsModel", "turnOf", "([II)V"⟩ ∈ gWs := gWs_in (i := 1254) (by decide +kernel) rfl
theorem w_32 : Cond.selects "DropSignalsModel" ⟨"DropSignalsModel", "turnOf", "([II)V"⟩ ⟨"DropSignalsModel", "turnOf", "([II)V"⟩ ∈ gWs := gWs_in (i := 32) (by decide +kernel) rfl
set_option maxRecDepth 100000 in
theorem ca_Mo_turnOf : gCaV k_Mo_turnOf 2 := ⟨⟨gWs_in (i := 1255) rfl rfl, w_43, by decide, by decide, by decide +kernel⟩, w_1254, w_32⟩
theorem d_Mo_turnOf_0 : decode prog_11_method_65_code 0 = .ok (.iload_n 2, 1) := by decide +kernel
theorem d_Mo_turnOf_1 : decode prog_11_method_65_code 1 = .ok (.bipush 16, 2) := by decide +kernel
theorem d_Mo_turnOf_3 : decode prog_11_method_65_code 3 = .ok (.idiv, 1) := by decide +kernel
theorem d_Mo_turnOf_4 : decode prog_11_method_65_code 4 = .ok (.istore_n 3, 1) := by decide +kernel
theorem d_Mo_turnOf_5 : decode prog_11_method_65_code 5 = .ok (.aload_n 1, 1) := by decide +kernel
theorem d_Mo_turnOf_6 : decode prog_11_method_65_code 6 = .ok (.iconst 1, 1) := by decide +kernel
theorem d_Mo_turnOf_7 : decode prog_11_method_65_code 7 = .ok (.iaload, 1) := by decide +kernel
theorem d_Mo_turnOf_8 : decode prog_11_method_65_code 8 = .ok (.ifCond .eq 10, 3) := by decide +kernel
theorem d_Mo_turnOf_11 : decode prog_11_method_65_code 11 = .ok (.aload_n 1, 1) := by decide +kernel
theorem d_Mo_turnOf_12 : decode prog_11_method_65_code 12 = .ok (.iconst 1, 1) := by decide +kernel
theorem d_Mo_turnOf_13 : decode prog_11_method_65_code 13 = .ok (.iaload, 1) := by decide +kernel
theorem d_Mo_turnOf_14 : decode prog_11_method_65_code 14 = .ok (.iconst 3, 1) := by decide +kernel
theorem d_Mo_turnOf_15 : decode prog_11_method_65_code 15 = .ok (.if_icmp .ne 14, 3) := by decide +kernel
theorem d_Mo_turnOf_18 : decode prog_11_method_65_code 18 = .ok (.aload_n 0, 1) := by decide +kernel
theorem d_Mo_turnOf_19 : decode prog_11_method_65_code 19 = .ok (.aload_n 1, 1) := by decide +kernel
theorem d_Mo_turnOf_20 : decode prog_11_method_65_code 20 = .ok (.iload_n 3, 1) := by decide +kernel
theorem d_Mo_turnOf_21 : decode prog_11_method_65_code 21 = .ok (.i2l, 1) := by decide +kernel
theorem d_Mo_turnOf_22 : decode prog_11_method_65_code 22 = .ok (.invokevirtual 142, 3) := by decide +kernel
theorem d_Mo_turnOf_25 : decode prog_11_method_65_code 25 = .ok (.pop, 1) := by decide +kernel
theorem d_Mo_turnOf_26 : decode prog_11_method_65_code 26 = .ok (.goto 92, 3) := by decide +kernel
theorem d_Mo_turnOf_29 : decode prog_11_method_65_code 29 = .ok (.aload_n 1, 1) := by decide +kernel
theorem d_Mo_turnOf_30 : decode prog_11_method_65_code 30 = .ok (.iconst 1, 1) := by decide +kernel
theorem d_Mo_turnOf_31 : decode prog_11_method_65_code 31 = .ok (.iaload, 1) := by decide +kernel
theorem d_Mo_turnOf_32 : decode prog_11_method_65_code 32 = .ok (.iconst 1, 1) := by decide +kernel
theorem d_Mo_turnOf_33 : decode prog_11_method_65_code 33 = .ok (.if_icmp .ne 54, 3) := by decide +kernel
theorem d_Mo_turnOf_36 : decode prog_11_method_65_code 36 = .ok (.iload_n 2, 1) := by decide +kernel
theorem d_Mo_turnOf_37 : decode prog_11_method_65_code 37 = .ok (.bipush 16, 2) := by decide +kernel
theorem d_Mo_turnOf_39 : decode prog_11_method_65_code 39 = .ok (.irem, 1) := by decide +kernel
theorem d_Mo_turnOf_40 : decode prog_11_method_65_code 40 = .ok (.iconst 5, 1) := by decide +kernel
theorem d_Mo_turnOf_41 : decode prog_11_method_65_code 41 = .ok (.if_icmp .le 11, 3) := by decide +kernel
theorem d_Mo_turnOf_44 : decode prog_11_method_65_code 44 = .ok (.aload_n 1, 1) := by decide +kernel
theorem d_Mo_turnOf_45 : decode prog_11_method_65_code 45 = .ok (.invokestatic 157, 3) := by decide +kernel
theorem d_Mo_turnOf_48 : decode prog_11_method_65_code 48 = .ok (.pop, 1) := by decide +kernel
theorem d_Mo_turnOf_49 : decode prog_11_method_65_code 49 = .ok (.goto 69, 3) := by decide +kernel
theorem d_Mo_turnOf_52 : decode prog_11_method_65_code 52 = .ok (.aload_n 1, 1) := by decide +kernel
theorem d_Mo_turnOf_53 : decode prog_11_method_65_code 53 = .ok (.iconst 1, 1) := by decide +kernel
theorem d_Mo_turnOf_54 : decode prog_11_method_65_code 54 = .ok (.iload_n 3, 1) := by decide +kernel
theorem d_Mo_turnOf_55 : decode prog_11_method_65_code 55 = .ok (.iconst 4, 1) := by decide +kernel
theorem d_Mo_turnOf_56 : decode prog_11_method_65_code 56 = .ok (.irem, 1) := by decide +kernel
theorem d_Mo_turnOf_57 : decode prog_11_method_65_code 57 = .ok (.iadd, 1) := by decide +kernel
theorem d_Mo_turnOf_58 : decode prog_11_method_65_code 58 = .ok (.iload_n 3, 1) := by decide +kernel
theorem d_Mo_turnOf_59 : decode prog_11_method_65_code 59 = .ok (.iconst 4, 1) := by decide +kernel
theorem d_Mo_turnOf_60 : decode prog_11_method_65_code 60 = .ok (.idiv, 1) := by decide +kernel
theorem d_Mo_turnOf_61 : decode prog_11_method_65_code 61 = .ok (.iconst 5, 1) := by decide +kernel
theorem d_Mo_turnOf_62 : decode prog_11_method_65_code 62 = .ok (.irem, 1) := by decide +kernel
theorem d_Mo_turnOf_63 : decode prog_11_method_65_code 63 = .ok (.invokestatic 150, 3) := by decide +kernel
theorem d_Mo_turnOf_66 : decode prog_11_method_65_code 66 = .ok (.ifCond .eq 52, 3) := by decide +kernel
theorem d_Mo_turnOf_69 : decode prog_11_method_65_code 69 = .ok (.aload_n 1, 1) := by decide +kernel
theorem d_Mo_turnOf_70 : decode prog_11_method_65_code 70 = .ok (.iconst 1, 1) := by decide +kernel
theorem d_Mo_turnOf_71 : decode prog_11_method_65_code 71 = .ok (.iload_n 3, 1) := by decide +kernel
theorem d_Mo_turnOf_72 : decode prog_11_method_65_code 72 = .ok (.iconst 4, 1) := by decide +kernel
theorem d_Mo_turnOf_73 : decode prog_11_method_65_code 73 = .ok (.irem, 1) := by decide +kernel
theorem d_Mo_turnOf_74 : decode prog_11_method_65_code 74 = .ok (.iadd, 1) := by decide +kernel
theorem d_Mo_turnOf_75 : decode prog_11_method_65_code 75 = .ok (.iload_n 3, 1) := by decide +kernel
theorem d_Mo_turnOf_76 : decode prog_11_method_65_code 76 = .ok (.iconst 4, 1) := by decide +kernel
theorem d_Mo_turnOf_77 : decode prog_11_method_65_code 77 = .ok (.idiv, 1) := by decide +kernel
theorem d_Mo_turnOf_78 : decode prog_11_method_65_code 78 = .ok (.iconst 5, 1) := by decide +kernel
theorem d_Mo_turnOf_79 : decode prog_11_method_65_code 79 = .ok (.irem, 1) := by decide +kernel
theorem d_Mo_turnOf_80 : decode prog_11_method_65_code 80 = .ok (.invokestatic 154, 3) := by decide +kernel
theorem d_Mo_turnOf_83 : decode prog_11_method_65_code 83 = .ok (.pop, 1) := by decide +kernel
theorem d_Mo_turnOf_84 : decode prog_11_method_65_code 84 = .ok (.goto 34, 3) := by decide +kernel
theorem d_Mo_turnOf_87 : decode prog_11_method_65_code 87 = .ok (.iload_n 2, 1) := by decide +kernel
theorem d_Mo_turnOf_88 : decode prog_11_method_65_code 88 = .ok (.bipush 16, 2) := by decide +kernel
theorem d_Mo_turnOf_90 : decode prog_11_method_65_code 90 = .ok (.irem, 1) := by decide +kernel
theorem d_Mo_turnOf_91 : decode prog_11_method_65_code 91 = .ok (.bipush 8, 2) := by decide +kernel
theorem d_Mo_turnOf_93 : decode prog_11_method_65_code 93 = .ok (.if_icmp .ge 20, 3) := by decide +kernel
theorem d_Mo_turnOf_96 : decode prog_11_method_65_code 96 = .ok (.aload_n 1, 1) := by decide +kernel
theorem d_Mo_turnOf_97 : decode prog_11_method_65_code 97 = .ok (.aload_n 1, 1) := by decide +kernel
theorem d_Mo_turnOf_98 : decode prog_11_method_65_code 98 = .ok (.iload_n 3, 1) := by decide +kernel
theorem d_Mo_turnOf_99 : decode prog_11_method_65_code 99 = .ok (.aload_n 1, 1) := by decide +kernel
theorem d_Mo_turnOf_100 : decode prog_11_method_65_code 100 = .ok (.invokestatic 228, 3) := by decide +kernel
theorem d_Mo_turnOf_103 : decode prog_11_method_65_code 103 = .ok (.irem, 1) := by decide +kernel
theorem d_Mo_turnOf_104 : decode prog_11_method_65_code 104 = .ok (.invokestatic 198, 3) := by decide +kernel
theorem d_Mo_turnOf_107 : decode prog_11_method_65_code 107 = .ok (.invokestatic 105, 3) := by decide +kernel
theorem d_Mo_turnOf_110 : decode prog_11_method_65_code 110 = .ok (.goto 8, 3) := by decide +kernel
theorem d_Mo_turnOf_113 : decode prog_11_method_65_code 113 = .ok (.aload_n 1, 1) := by decide +kernel
theorem d_Mo_turnOf_114 : decode prog_11_method_65_code 114 = .ok (.invokestatic 163, 3) := by decide +kernel
theorem d_Mo_turnOf_117 : decode prog_11_method_65_code 117 = .ok (.pop, 1) := by decide +kernel
theorem d_Mo_turnOf_118 : decode prog_11_method_65_code 118 = .ok (.return_, 1) := by decide +kernel
theorem w_1256 : Cond.methodLink "DropSignalsModel" 228 ⟨"DropSignalsModel", "legalMany", "([I)I"⟩ ∈ gWs := gWs_in (i := 1256) (by decide +kernel) rfl
noncomputable def f_Mo_turnOf_b18 (g0 : Nat) (c0 : Nat) (n0 : Nat) (M : gMem) (x3 : Int32) : Option gMem :=
  (f_Mo_dealOn g0 c0 n0 M (Int32.toInt64 x3)).bind fun q2 =>
  some q2.2
theorem t_Mo_turnOf_b18 {l : Launch} {ε : gEnv} (g0 : Nat) (c0 : Nat) (n0 : Nat) (hM : gMo ε) (h0 : gHas ε g0 c0 (0, n0, [])) (M : gMem) (x3 : Int32) (r : gMem) (h : f_Mo_turnOf_b18 g0 c0 n0 M x3 = some r) : gGo l ε k_Mo_turnOf (gR 7 150) (gFn ε none r) 18 [(0, .ref (ε.2.2.1 19 0)), (1, .ref (ε.2.2.1 g0 c0)), (3, .int x3)] [] M := by
  unfold f_Mo_turnOf_b18 at h
  refine g_aload_n d_Mo_turnOf_18 rfl 0 rfl ?_
  refine g_aload_n d_Mo_turnOf_19 rfl 1 rfl ?_
  refine g_iload_n d_Mo_turnOf_20 rfl 2 rfl ?_
  refine g_i2l d_Mo_turnOf_21 ?_
  obtain ⟨q2, hq2, h⟩ := gOb h
  refine g_callV_i (As := [.ref (ε.2.2.1 g0 c0), .long (Int32.toInt64 x3)]) (rest := []) (ct_Mo_dealOn hM g0 c0 n0 h0 M (Int32.toInt64 x3) _ hq2) d_Mo_turnOf_22 ca_Mo_dealOn w_1059 (gMo_h0 hM) rfl rfl rfl (Nat.le_of_ble_eq_true rfl) ⟨(Nat.le_of_ble_eq_true rfl), (Nat.le_of_ble_eq_true rfl)⟩ ?_
  refine g_pop d_Mo_turnOf_25 rfl ?_
  refine g_goto (tgt := 118) d_Mo_turnOf_26 (by decide) ?_
  obtain rfl := Option.some.inj h
  exact g_vret d_Mo_turnOf_118 rfl
noncomputable def f_Mo_turnOf (g0 : Nat) (c0 : Nat) (n0 : Nat) (M : gMem) (a1 : Int32) : Option gMem :=
  (gRd n0 (M g0 c0) 1).bind fun v1 =>
  if v1 = 0 then
    f_Mo_turnOf_b18 g0 c0 n0 M (a1 / 16)
  else
    (gRd n0 (M g0 c0) 1).bind fun v3 =>
    if v3 = 3 then
      f_Mo_turnOf_b18 g0 c0 n0 M (a1 / 16)
    else
      (gRd n0 (M g0 c0) 1).bind fun v4 =>
      if v4 = 1 then
        if (gRem a1 16) ≤ 5 then
          (f_Mo_canBid g0 c0 n0 M (1 + (gRem (a1 / 16) 4)) (gRem ((a1 / 16) / 4) 5)).bind fun q11 =>
          if q11 = 0 then
            some M
          else
            (f_Mo_bidOn g0 c0 n0 M (1 + (gRem (a1 / 16) 4)) (gRem ((a1 / 16) / 4) 5)).bind fun q12 =>
            some q12.2
        else
          (f_Mo_passOn g0 c0 n0 M).bind fun q14 =>
          some q14.2
      else
        if 8 ≤ (gRem a1 16) then
          (f_Mo_playAdvice g0 c0 n0 M).bind fun q5 =>
          some q5.2
        else
          (f_Mo_legalMany g0 c0 n0 M).bind fun q6 =>
          (gNz q6).bind fun _ =>
          (f_Mo_legalAt g0 c0 n0 M (gRem (a1 / 16) q6)).bind fun q8 =>
          (f_Mo_put g0 c0 n0 M q8).bind fun q9 =>
          some q9
theorem t_Mo_turnOf {l : Launch} {ε : gEnv} (g0 : Nat) (c0 : Nat) (n0 : Nat) (hM : gMo ε) (h0 : gHas ε g0 c0 (0, n0, [])) (M : gMem) (a1 : Int32) (r : gMem) (h : f_Mo_turnOf g0 c0 n0 M a1 = some r) : gGo l ε k_Mo_turnOf (gR 7 150) (gFn ε none r) 0 [(0, .ref (ε.2.2.1 19 0)), (1, .ref (ε.2.2.1 g0 c0)), (2, .int a1)] [] M := by
  unfold f_Mo_turnOf at h
  refine g_iload_n d_Mo_turnOf_0 rfl 2 rfl ?_
  refine g_bipush (v := 16) d_Mo_turnOf_1 (by decide) ?_
  refine g_idiv d_Mo_turnOf_3 (by decide) ?_
  refine g_istore_n (L' := [(3, .int (a1 / 16)), (0, .ref (ε.2.2.1 19 0)), (1, .ref (ε.2.2.1 g0 c0)), (2, .int a1)]) d_Mo_turnOf_4 rfl (by decide) rfl ?_
  refine g_aload_n d_Mo_turnOf_5 rfl 2 rfl ?_
  refine g_iconst (v := 1) d_Mo_turnOf_6 (by decide) ?_
  obtain ⟨v1, hv1, h⟩ := gOb h
  refine g_iaload d_Mo_turnOf_7 h0 hv1 ?_
  refine g_if_eq (tgt := 18) d_Mo_turnOf_8 (by decide) (fun c18 => ?_) (fun c18 => ?_)
  · rw [if_pos c18] at h
    refine gGo_sub [1, 2, 0] rfl ?_
    exact t_Mo_turnOf_b18 g0 c0 n0 hM h0 M (a1 / 16) _ h
  · rw [if_neg c18] at h
    refine g_aload_n d_Mo_turnOf_11 rfl 2 rfl ?_
    refine g_iconst (v := 1) d_Mo_turnOf_12 (by decide) ?_
    obtain ⟨v3, hv3, h⟩ := gOb h
    refine g_iaload d_Mo_turnOf_13 h0 hv3 ?_
    refine g_iconst (v := 3) d_Mo_turnOf_14 (by decide) ?_
    refine g_icmp_ne (tgt := 29) d_Mo_turnOf_15 (by decide) (fun c17 => ?_) (fun c17 => ?_)
    · rw [if_neg c17] at h
      refine g_aload_n d_Mo_turnOf_29 rfl 2 rfl ?_
      refine g_iconst (v := 1) d_Mo_turnOf_30 (by decide) ?_
      obtain ⟨v4, hv4, h⟩ := gOb h
      refine g_iaload d_Mo_turnOf_31 h0 hv4 ?_
      refine g_iconst (v := 1) d_Mo_turnOf_32 (by decide) ?_
      refine g_icmp_ne (tgt := 87) d_Mo_turnOf_33 (by decide) (fun c16 => ?_) (fun c16 => ?_)
      · rw [if_neg c16] at h
        refine g_iload_n d_Mo_turnOf_87 rfl 3 rfl ?_
        refine g_bipush (v := 16) d_Mo_turnOf_88 (by decide) ?_
        refine g_rem d_Mo_turnOf_90 (by decide) ?_
        refine g_bipush (v := 8) d_Mo_turnOf_91 (by decide) ?_
        refine g_icmp_ge (tgt := 113) d_Mo_turnOf_93 (by decide) (fun c10 => ?_) (fun c10 => ?_)
        · rw [if_pos c10] at h
          refine g_aload_n d_Mo_turnOf_113 rfl 2 rfl ?_
          obtain ⟨q5, hq5, h⟩ := gOb h
          refine g_callS_i (As := [.ref (ε.2.2.1 g0 c0)]) (rest := []) (ct_Mo_playAdvice g0 c0 n0 h0 M _ hq5) d_Mo_turnOf_114 ca_Mo_playAdvice w_1117 rfl rfl (Nat.le_of_ble_eq_true rfl) ⟨(Nat.le_of_ble_eq_true rfl), (Nat.le_of_ble_eq_true rfl)⟩ ?_
          refine g_pop d_Mo_turnOf_117 rfl ?_
          obtain rfl := Option.some.inj h
          exact g_vret d_Mo_turnOf_118 rfl
        · rw [if_neg c10] at h
          refine g_aload_n d_Mo_turnOf_96 rfl 2 rfl ?_
          refine g_aload_n d_Mo_turnOf_97 rfl 2 rfl ?_
          refine g_iload_n d_Mo_turnOf_98 rfl 0 rfl ?_
          refine g_aload_n d_Mo_turnOf_99 rfl 2 rfl ?_
          obtain ⟨q6, hq6, h⟩ := gOb h
          refine g_callS_i (As := [.ref (ε.2.2.1 g0 c0)]) (rest := [.int (a1 / 16), .ref (ε.2.2.1 g0 c0), .ref (ε.2.2.1 g0 c0)]) (ct_Mo_legalMany g0 c0 n0 h0 M _ hq6) d_Mo_turnOf_100 ca_Mo_legalMany w_1256 rfl rfl (Nat.le_of_ble_eq_true rfl) ⟨(Nat.le_of_ble_eq_true rfl), (Nat.le_of_ble_eq_true rfl)⟩ ?_
          obtain ⟨z7, hz7, h⟩ := gOb h
          refine g_rem d_Mo_turnOf_103 (gNz_s hz7).2 ?_
          obtain ⟨q8, hq8, h⟩ := gOb h
          refine g_callS_i (As := [.ref (ε.2.2.1 g0 c0), .int (gRem (a1 / 16) q6)]) (rest := [.ref (ε.2.2.1 g0 c0)]) (ct_Mo_legalAt g0 c0 n0 h0 M (gRem (a1 / 16) q6) _ hq8) d_Mo_turnOf_104 ca_Mo_legalAt w_1193 rfl rfl (Nat.le_of_ble_eq_true rfl) ⟨(Nat.le_of_ble_eq_true rfl), (Nat.le_of_ble_eq_true rfl)⟩ ?_
          obtain ⟨q9, hq9, h⟩ := gOb h
          refine g_callS_v (As := [.ref (ε.2.2.1 g0 c0), .int q8]) (rest := []) (ct_Mo_put g0 c0 n0 h0 M q8 _ hq9) d_Mo_turnOf_107 ca_Mo_put w_1096 rfl rfl (Nat.le_of_ble_eq_true rfl) ⟨(Nat.le_of_ble_eq_true rfl), (Nat.le_of_ble_eq_true rfl)⟩ ?_
          refine g_goto (tgt := 118) d_Mo_turnOf_110 (by decide) ?_
          obtain rfl := Option.some.inj h
          exact g_vret d_Mo_turnOf_118 rfl
      · rw [if_pos c16] at h
        refine g_iload_n d_Mo_turnOf_36 rfl 3 rfl ?_
        refine g_bipush (v := 16) d_Mo_turnOf_37 (by decide) ?_
        refine g_rem d_Mo_turnOf_39 (by decide) ?_
        refine g_iconst (v := 5) d_Mo_turnOf_40 (by decide) ?_
        refine g_icmp_le (tgt := 52) d_Mo_turnOf_41 (by decide) (fun c15 => ?_) (fun c15 => ?_)
        · rw [if_pos c15] at h
          refine g_aload_n d_Mo_turnOf_52 rfl 2 rfl ?_
          refine g_iconst (v := 1) d_Mo_turnOf_53 (by decide) ?_
          refine g_iload_n d_Mo_turnOf_54 rfl 0 rfl ?_
          refine g_iconst (v := 4) d_Mo_turnOf_55 (by decide) ?_
          refine g_rem d_Mo_turnOf_56 (by decide) ?_
          refine g_iadd d_Mo_turnOf_57 ?_
          refine g_iload_n d_Mo_turnOf_58 rfl 0 rfl ?_
          refine g_iconst (v := 4) d_Mo_turnOf_59 (by decide) ?_
          refine g_idiv d_Mo_turnOf_60 (by decide) ?_
          refine g_iconst (v := 5) d_Mo_turnOf_61 (by decide) ?_
          refine g_rem d_Mo_turnOf_62 (by decide) ?_
          obtain ⟨q11, hq11, h⟩ := gOb h
          refine g_callS_i (As := [.ref (ε.2.2.1 g0 c0), .int (1 + (gRem (a1 / 16) 4)), .int (gRem ((a1 / 16) / 4) 5)]) (rest := []) (ct_Mo_canBid g0 c0 n0 h0 M (1 + (gRem (a1 / 16) 4)) (gRem ((a1 / 16) / 4) 5) _ hq11) d_Mo_turnOf_63 ca_Mo_canBid w_1069 rfl rfl (Nat.le_of_ble_eq_true rfl) ⟨(Nat.le_of_ble_eq_true rfl), (Nat.le_of_ble_eq_true rfl)⟩ ?_
          refine g_if_eq (tgt := 118) d_Mo_turnOf_66 (by decide) (fun c13 => ?_) (fun c13 => ?_)
          · rw [if_pos c13] at h
            obtain rfl := Option.some.inj h
            exact g_vret d_Mo_turnOf_118 rfl
          · rw [if_neg c13] at h
            refine g_aload_n d_Mo_turnOf_69 rfl 2 rfl ?_
            refine g_iconst (v := 1) d_Mo_turnOf_70 (by decide) ?_
            refine g_iload_n d_Mo_turnOf_71 rfl 0 rfl ?_
            refine g_iconst (v := 4) d_Mo_turnOf_72 (by decide) ?_
            refine g_rem d_Mo_turnOf_73 (by decide) ?_
            refine g_iadd d_Mo_turnOf_74 ?_
            refine g_iload_n d_Mo_turnOf_75 rfl 0 rfl ?_
            refine g_iconst (v := 4) d_Mo_turnOf_76 (by decide) ?_
            refine g_idiv d_Mo_turnOf_77 (by decide) ?_
            refine g_iconst (v := 5) d_Mo_turnOf_78 (by decide) ?_
            refine g_rem d_Mo_turnOf_79 (by decide) ?_
            obtain ⟨q12, hq12, h⟩ := gOb h
            refine g_callS_i (As := [.ref (ε.2.2.1 g0 c0), .int (1 + (gRem (a1 / 16) 4)), .int (gRem ((a1 / 16) / 4) 5)]) (rest := []) (ct_Mo_bidOn g0 c0 n0 h0 M (1 + (gRem (a1 / 16) 4)) (gRem ((a1 / 16) / 4) 5) _ hq12) d_Mo_turnOf_80 ca_Mo_bidOn w_1072 rfl rfl (Nat.le_of_ble_eq_true rfl) ⟨(Nat.le_of_ble_eq_true rfl), (Nat.le_of_ble_eq_true rfl)⟩ ?_
            refine g_pop d_Mo_turnOf_83 rfl ?_
            refine g_goto (tgt := 118) d_Mo_turnOf_84 (by decide) ?_
            obtain rfl := Option.some.inj h
            exact g_vret d_Mo_turnOf_118 rfl
        · rw [if_neg c15] at h
          refine g_aload_n d_Mo_turnOf_44 rfl 2 rfl ?_
          obtain ⟨q14, hq14, h⟩ := gOb h
          refine g_callS_i (As := [.ref (ε.2.2.1 g0 c0)]) (rest := []) (ct_Mo_passOn g0 c0 n0 h0 M _ hq14) d_Mo_turnOf_45 ca_Mo_passOn w_1075 rfl rfl (Nat.le_of_ble_eq_true rfl) ⟨(Nat.le_of_ble_eq_true rfl), (Nat.le_of_ble_eq_true rfl)⟩ ?_
          refine g_pop d_Mo_turnOf_48 rfl ?_
          refine g_goto (tgt := 118) d_Mo_turnOf_49 (by decide) ?_
          obtain rfl := Option.some.inj h
          exact g_vret d_Mo_turnOf_118 rfl
    · rw [if_pos c17] at h
      refine gGo_sub [1, 2, 0] rfl ?_
      exact t_Mo_turnOf_b18 g0 c0 n0 hM h0 M (a1 / 16) _ h
theorem ct_Mo_turnOf {l : Launch} {ε : gEnv} (hM : gMo ε) (g0 : Nat) (c0 : Nat) (n0 : Nat) (h0 : gHas ε g0 c0 (0, n0, [])) (M : gMem) (a1 : Int32) (r : gMem) (h : f_Mo_turnOf g0 c0 n0 M a1 = some r) : gCt l ε k_Mo_turnOf 7 150 [.ref (ε.2.2.1 19 0), .ref (ε.2.2.1 g0 c0), .int a1] M none r :=
  gCt_of (by decide) (Nat.le_of_ble_eq_true rfl) rfl (t_Mo_turnOf g0 c0 n0 hM h0 M a1 r h)
abbrev k_Mo_simulate : gMD := (⟨"DropSignalsModel", "simulate", "(JI)I"⟩, prog_11_method_66_code, 7, (some .int))
theorem w_1248 : Cond.instanceMethod ⟨"DropSignalsModel", "simulate", "(JI)I"⟩ ∈ gWs := gWs_in (i := 1248) (by decide +kernel) rfl
theorem w_1249 : Cond.selects "DropSignalsModel" ⟨"DropSignalsModel", "simulate", "(JI)I"⟩ ⟨"DropSignalsModel", "simulate", "(JI)I"⟩ ∈ gWs := gWs_in (i := 1249) (by decide +kernel) rfl
set_option maxRecDepth 100000 in
theorem ca_Mo_simulate : gCaV k_Mo_simulate 2 := ⟨⟨gWs_in (i := 1250) rfl rfl, w_43, by decide, by decide, by decide +kernel⟩, w_1248, w_1249⟩
theorem d_Mo_simulate_0 : decode prog_11_method_66_code 0 = .ok (.aload_n 0, 1) := by decide +kernel
theorem d_Mo_simulate_1 : decode prog_11_method_66_code 1 = .ok (.iload_n 3, 1) := by decide +kernel
theorem d_Mo_simulate_2 : decode prog_11_method_66_code 2 = .ok (.i2l, 1) := by decide +kernel
theorem d_Mo_simulate_3 : decode prog_11_method_66_code 3 = .ok (.lconst 1, 1) := by decide +kernel
theorem d_Mo_simulate_4 : decode prog_11_method_66_code 4 = .ok (.ldc2_w 231, 3) := by decide +kernel
theorem d_Mo_simulate_7 : decode prog_11_method_66_code 7 = .ok (.invokestatic 84, 3) := by decide +kernel
theorem d_Mo_simulate_10 : decode prog_11_method_66_code 10 = .ok (.ifCond .eq 7, 3) := by decide +kernel
theorem d_Mo_simulate_13 : decode prog_11_method_66_code 13 = .ok (.iconst 0, 1) := by decide +kernel
theorem d_Mo_simulate_14 : decode prog_11_method_66_code 14 = .ok (.goto 4, 3) := by decide +kernel
theorem d_Mo_simulate_17 : decode prog_11_method_66_code 17 = .ok (.iconst 1, 1) := by decide +kernel
theorem d_Mo_simulate_18 : decode prog_11_method_66_code 18 = .ok (.invokevirtual 127, 3) := by decide +kernel
theorem d_Mo_simulate_21 : decode prog_11_method_66_code 21 = .ok (.ifCond .eq 5, 3) := by decide +kernel
theorem d_Mo_simulate_24 : decode prog_11_method_66_code 24 = .ok (.iconst 0, 1) := by decide +kernel
theorem d_Mo_simulate_25 : decode prog_11_method_66_code 25 = .ok (.ireturn, 1) := by decide +kernel
theorem d_Mo_simulate_26 : decode prog_11_method_66_code 26 = .ok (.aload_n 0, 1) := by decide +kernel
theorem d_Mo_simulate_27 : decode prog_11_method_66_code 27 = .ok (.getfield 13, 3) := by decide +kernel
theorem d_Mo_simulate_30 : decode prog_11_method_66_code 30 = .ok (.iconst 0, 1) := by decide +kernel
theorem d_Mo_simulate_31 : decode prog_11_method_66_code 31 = .ok (.aload_n 0, 1) := by decide +kernel
theorem d_Mo_simulate_32 : decode prog_11_method_66_code 32 = .ok (.getfield 16, 3) := by decide +kernel
theorem d_Mo_simulate_35 : decode prog_11_method_66_code 35 = .ok (.iconst 0, 1) := by decide +kernel
theorem d_Mo_simulate_36 : decode prog_11_method_66_code 36 = .ok (.invokestatic 172, 3) := by decide +kernel
theorem d_Mo_simulate_39 : decode prog_11_method_66_code 39 = .ok (.lload_n 1, 1) := by decide +kernel
theorem d_Mo_simulate_40 : decode prog_11_method_66_code 40 = .ok (.lstore 4, 2) := by decide +kernel
theorem d_Mo_simulate_42 : decode prog_11_method_66_code 42 = .ok (.iconst 0, 1) := by decide +kernel
theorem d_Mo_simulate_43 : decode prog_11_method_66_code 43 = .ok (.istore 6, 2) := by decide +kernel
theorem d_Mo_simulate_45 : decode prog_11_method_66_code 45 = .ok (.iload 6, 2) := by decide +kernel
theorem d_Mo_simulate_47 : decode prog_11_method_66_code 47 = .ok (.iload_n 3, 1) := by decide +kernel
theorem d_Mo_simulate_48 : decode prog_11_method_66_code 48 = .ok (.if_icmp .ge 35, 3) := by decide +kernel
theorem d_Mo_simulate_51 : decode prog_11_method_66_code 51 = .ok (.lload 4, 2) := by decide +kernel
theorem d_Mo_simulate_53 : decode prog_11_method_66_code 53 = .ok (.ldc2_w 78, 3) := by decide +kernel
theorem d_Mo_simulate_56 : decode prog_11_method_66_code 56 = .ok (.lmul, 1) := by decide +kernel
theorem d_Mo_simulate_57 : decode prog_11_method_66_code 57 = .ok (.ldc2_w 80, 3) := by decide +kernel
theorem d_Mo_simulate_60 : decode prog_11_method_66_code 60 = .ok (.ladd, 1) := by decide +kernel
theorem d_Mo_simulate_61 : decode prog_11_method_66_code 61 = .ok (.lstore 4, 2) := by decide +kernel
theorem d_Mo_simulate_63 : decode prog_11_method_66_code 63 = .ok (.aload_n 0, 1) := by decide +kernel
theorem d_Mo_simulate_64 : decode prog_11_method_66_code 64 = .ok (.aload_n 0, 1) := by decide +kernel
theorem d_Mo_simulate_65 : decode prog_11_method_66_code 65 = .ok (.getfield 16, 3) := by decide +kernel
theorem d_Mo_simulate_68 : decode prog_11_method_66_code 68 = .ok (.lload 4, 2) := by decide +kernel
theorem d_Mo_simulate_70 : decode prog_11_method_66_code 70 = .ok (.bipush 33, 2) := by decide +kernel
theorem d_Mo_simulate_72 : decode prog_11_method_66_code 72 = .ok (.lushr, 1) := by decide +kernel
theorem d_Mo_simulate_73 : decode prog_11_method_66_code 73 = .ok (.l2i, 1) := by decide +kernel
theorem d_Mo_simulate_74 : decode prog_11_method_66_code 74 = .ok (.invokevirtual 233, 3) := by decide +kernel
theorem d_Mo_simulate_77 : decode prog_11_method_66_code 77 = .ok (.iinc 6 1, 3) := by decide +kernel
theorem d_Mo_simulate_80 : decode prog_11_method_66_code 80 = .ok (.goto (-35), 3) := by decide +kernel
theorem d_Mo_simulate_83 : decode prog_11_method_66_code 83 = .ok (.sipush 10000, 3) := by decide +kernel
theorem d_Mo_simulate_86 : decode prog_11_method_66_code 86 = .ok (.aload_n 0, 1) := by decide +kernel
theorem d_Mo_simulate_87 : decode prog_11_method_66_code 87 = .ok (.getfield 16, 3) := by decide +kernel
theorem d_Mo_simulate_90 : decode prog_11_method_66_code 90 = .ok (.bipush 9, 2) := by decide +kernel
theorem d_Mo_simulate_92 : decode prog_11_method_66_code 92 = .ok (.iaload, 1) := by decide +kernel
theorem d_Mo_simulate_93 : decode prog_11_method_66_code 93 = .ok (.aload_n 0, 1) := by decide +kernel
theorem d_Mo_simulate_94 : decode prog_11_method_66_code 94 = .ok (.getfield 13, 3) := by decide +kernel
theorem d_Mo_simulate_97 : decode prog_11_method_66_code 97 = .ok (.bipush 9, 2) := by decide +kernel
theorem d_Mo_simulate_99 : decode prog_11_method_66_code 99 = .ok (.iaload, 1) := by decide +kernel
theorem d_Mo_simulate_100 : decode prog_11_method_66_code 100 = .ok (.isub, 1) := by decide +kernel
theorem d_Mo_simulate_101 : decode prog_11_method_66_code 101 = .ok (.imul, 1) := by decide +kernel
theorem d_Mo_simulate_102 : decode prog_11_method_66_code 102 = .ok (.bipush 100, 2) := by decide +kernel
theorem d_Mo_simulate_104 : decode prog_11_method_66_code 104 = .ok (.aload_n 0, 1) := by decide +kernel
theorem d_Mo_simulate_105 : decode prog_11_method_66_code 105 = .ok (.getfield 16, 3) := by decide +kernel
theorem d_Mo_simulate_108 : decode prog_11_method_66_code 108 = .ok (.bipush 10, 2) := by decide +kernel
theorem d_Mo_simulate_110 : decode prog_11_method_66_code 110 = .ok (.iaload, 1) := by decide +kernel
theorem d_Mo_simulate_111 : decode prog_11_method_66_code 111 = .ok (.aload_n 0, 1) := by decide +kernel
theorem d_Mo_simulate_112 : decode prog_11_method_66_code 112 = .ok (.getfield 13, 3) := by decide +kernel
theorem d_Mo_simulate_115 : decode prog_11_method_66_code 115 = .ok (.bipush 10, 2) := by decide +kernel
theorem d_Mo_simulate_117 : decode prog_11_method_66_code 117 = .ok (.iaload, 1) := by decide +kernel
theorem d_Mo_simulate_118 : decode prog_11_method_66_code 118 = .ok (.isub, 1) := by decide +kernel
theorem d_Mo_simulate_119 : decode prog_11_method_66_code 119 = .ok (.imul, 1) := by decide +kernel
theorem d_Mo_simulate_120 : decode prog_11_method_66_code 120 = .ok (.iadd, 1) := by decide +kernel
theorem d_Mo_simulate_121 : decode prog_11_method_66_code 121 = .ok (.aload_n 0, 1) := by decide +kernel
theorem d_Mo_simulate_122 : decode prog_11_method_66_code 122 = .ok (.getfield 16, 3) := by decide +kernel
theorem d_Mo_simulate_125 : decode prog_11_method_66_code 125 = .ok (.iconst 0, 1) := by decide +kernel
theorem d_Mo_simulate_126 : decode prog_11_method_66_code 126 = .ok (.iaload, 1) := by decide +kernel
theorem d_Mo_simulate_127 : decode prog_11_method_66_code 127 = .ok (.iadd, 1) := by decide +kernel
theorem d_Mo_simulate_128 : decode prog_11_method_66_code 128 = .ok (.aload_n 0, 1) := by decide +kernel
theorem d_Mo_simulate_129 : decode prog_11_method_66_code 129 = .ok (.getfield 13, 3) := by decide +kernel
theorem d_Mo_simulate_132 : decode prog_11_method_66_code 132 = .ok (.iconst 0, 1) := by decide +kernel
theorem d_Mo_simulate_133 : decode prog_11_method_66_code 133 = .ok (.iaload, 1) := by decide +kernel
theorem d_Mo_simulate_134 : decode prog_11_method_66_code 134 = .ok (.isub, 1) := by decide +kernel
theorem d_Mo_simulate_135 : decode prog_11_method_66_code 135 = .ok (.ireturn, 1) := by decide +kernel
theorem w_1251 : Cond.constantLong "DropSignalsModel" 231 (200) ∈ gWs := gWs_in (i := 1251) (by decide +kernel) rfl
theorem w_1252 : Cond.methodLink "DropSignalsModel" 233 ⟨"DropSignalsModel", "turnOf", "([II)V"⟩ ∈ gWs := gWs_in (i := 1252) (by decide +kernel) rfl
noncomputable def f_Mo_simulate_s45 (M : gMem) (x3 : Int32) (x4 : Int64) (x6 : Int32) : Option ((Int64 × Int32 × gMem) ⊕ (Int32 × gMem)) :=
  if x3 ≤ x6 then
    (gRd 197 (M 19 3) 9).bind fun v4 =>
    (gRd 197 (M 19 2) 9).bind fun v5 =>
    (gRd 197 (M 19 3) 10).bind fun v6 =>
    (gRd 197 (M 19 2) 10).bind fun v7 =>
    (gRd 197 (M 19 3) 0).bind fun v8 =>
    (gRd 197 (M 19 2) 0).bind fun v9 =>
    some (.inr (((((10000 * (v4 - v5)) + (100 * (v6 - v7))) + v8) - v9), M))
  else
    (f_Mo_turnOf 19 3 197 M (Int64.toInt32 (gUsh ((x4 * (6364136223846793005)) + (1442695040888963407)) 33))).bind fun q10 =>
    some (.inl (((x4 * (6364136223846793005)) + (1442695040888963407)), (x6 + 1), q10))
theorem t_Mo_simulate_s45 {l : Launch} {ε : gEnv} (hM : gMo ε) (M : gMem) (x3 : Int32) (x4 : Int64) (x6 : Int32) (res : ((Int64 × Int32 × gMem) ⊕ (Int32 × gMem))) (h : f_Mo_simulate_s45 M x3 x4 x6 = some res) (r : (Int32 × gMem)) (k1 : ∀ s0 : (Int64 × Int32 × gMem), res = .inl s0 → gGo l ε k_Mo_simulate (gR 8 173) (gFn ε (some (.int r.1)) r.2) 45 [(0, .ref (ε.2.2.1 19 0)), (3, .int x3), (4, .long s0.1), (6, .int s0.2.1)] [] s0.2.2) (k2 : ∀ r', res = .inr r' → r' = r) : gGo l ε k_Mo_simulate (gR 8 173) (gFn ε (some (.int r.1)) r.2) 45 [(0, .ref (ε.2.2.1 19 0)), (3, .int x3), (4, .long x4), (6, .int x6)] [] M := by
  unfold f_Mo_simulate_s45 at h
  refine g_iload d_Mo_simulate_45 3 rfl ?_
  refine g_iload_n d_Mo_simulate_47 rfl 1 rfl ?_
  refine g_icmp_ge (tgt := 83) d_Mo_simulate_48 (by decide) (fun c11 => ?_) (fun c11 => ?_)
  · rw [if_pos c11] at h
    refine g_sipush (v := 10000) d_Mo_simulate_83 (by decide) ?_
    refine g_aload_n d_Mo_simulate_86 rfl 0 rfl ?_
    refine g_getR d_Mo_simulate_87 fl_Mo_16 (gMo_h0 hM) rfl ?_
    refine g_bipush (v := 9) d_Mo_simulate_90 (by decide) ?_
    obtain ⟨v4, hv4, h⟩ := gOb h
    refine g_iaload d_Mo_simulate_92 (gMo_h3 hM) hv4 ?_
    refine g_aload_n d_Mo_simulate_93 rfl 0 rfl ?_
    refine g_getR d_Mo_simulate_94 fl_Mo_13 (gMo_h0 hM) rfl ?_
    refine g_bipush (v := 9) d_Mo_simulate_97 (by decide) ?_
    obtain ⟨v5, hv5, h⟩ := gOb h
    refine g_iaload d_Mo_simulate_99 (gMo_h2 hM) hv5 ?_
    refine g_isub d_Mo_simulate_100 ?_
    refine g_imul d_Mo_simulate_101 ?_
    refine g_bipush (v := 100) d_Mo_simulate_102 (by decide) ?_
    refine g_aload_n d_Mo_simulate_104 rfl 0 rfl ?_
    refine g_getR d_Mo_simulate_105 fl_Mo_16 (gMo_h0 hM) rfl ?_
    refine g_bipush (v := 10) d_Mo_simulate_108 (by decide) ?_
    obtain ⟨v6, hv6, h⟩ := gOb h
    refine g_iaload d_Mo_simulate_110 (gMo_h3 hM) hv6 ?_
    refine g_aload_n d_Mo_simulate_111 rfl 0 rfl ?_
    refine g_getR d_Mo_simulate_112 fl_Mo_13 (gMo_h0 hM) rfl ?_
    refine g_bipush (v := 10) d_Mo_simulate_115 (by decide) ?_
    obtain ⟨v7, hv7, h⟩ := gOb h
    refine g_iaload d_Mo_simulate_117 (gMo_h2 hM) hv7 ?_
    refine g_isub d_Mo_simulate_118 ?_
    refine g_imul d_Mo_simulate_119 ?_
    refine g_iadd d_Mo_simulate_120 ?_
    refine g_aload_n d_Mo_simulate_121 rfl 0 rfl ?_
    refine g_getR d_Mo_simulate_122 fl_Mo_16 (gMo_h0 hM) rfl ?_
    refine g_iconst (v := 0) d_Mo_simulate_125 (by decide) ?_
    obtain ⟨v8, hv8, h⟩ := gOb h
    refine g_iaload d_Mo_simulate_126 (gMo_h3 hM) hv8 ?_
    refine g_iadd d_Mo_simulate_127 ?_
    refine g_aload_n d_Mo_simulate_128 rfl 0 rfl ?_
    refine g_getR d_Mo_simulate_129 fl_Mo_13 (gMo_h0 hM) rfl ?_
    refine g_iconst (v := 0) d_Mo_simulate_132 (by decide) ?_
    obtain ⟨v9, hv9, h⟩ := gOb h
    refine g_iaload d_Mo_simulate_133 (gMo_h2 hM) hv9 ?_
    refine g_isub d_Mo_simulate_134 ?_
    obtain rfl := Option.some.inj h
    have e9 := k2 _ rfl
    subst e9
    exact g_iret d_Mo_simulate_135 rfl
  · rw [if_neg c11] at h
    refine g_lload d_Mo_simulate_51 2 rfl ?_
    refine g_ldc2 d_Mo_simulate_53 w_1063 ?_
    refine g_lmul d_Mo_simulate_56 ?_
    refine g_ldc2 d_Mo_simulate_57 w_1064 ?_
    refine g_ladd d_Mo_simulate_60 ?_
    refine g_lstore (L' := [(4, .long ((x4 * (6364136223846793005)) + (1442695040888963407))), (0, .ref (ε.2.2.1 19 0)), (3, .int x3), (6, .int x6)]) d_Mo_simulate_61 (by decide) rfl ?_
    refine g_aload_n d_Mo_simulate_63 rfl 1 rfl ?_
    refine g_aload_n d_Mo_simulate_64 rfl 1 rfl ?_
    refine g_getR d_Mo_simulate_65 fl_Mo_16 (gMo_h0 hM) rfl ?_
    refine g_lload d_Mo_simulate_68 0 rfl ?_
    refine g_bipush (v := 33) d_Mo_simulate_70 (by decide) ?_
    refine g_ush d_Mo_simulate_72 ?_
    refine g_l2i d_Mo_simulate_73 ?_
    obtain ⟨q10, hq10, h⟩ := gOb h
    refine g_callV_v (As := [.ref (ε.2.2.1 19 3), .int (Int64.toInt32 (gUsh ((x4 * (6364136223846793005)) + (1442695040888963407)) 33))]) (rest := []) (ct_Mo_turnOf hM 19 3 197 (gMo_h3 hM) M (Int64.toInt32 (gUsh ((x4 * (6364136223846793005)) + (1442695040888963407)) 33)) _ hq10) d_Mo_simulate_74 ca_Mo_turnOf w_1252 (gMo_h0 hM) rfl rfl rfl (Nat.le_of_ble_eq_true rfl) ⟨(Nat.le_of_ble_eq_true rfl), (Nat.le_of_ble_eq_true rfl)⟩ ?_
    refine g_iinc (v := (x6 + 1)) (L' := [(6, .int (x6 + 1)), (4, .long ((x4 * (6364136223846793005)) + (1442695040888963407))), (0, .ref (ε.2.2.1 19 0)), (3, .int x3)]) d_Mo_simulate_77 (j := 3) rfl rfl (by decide) rfl ?_
    refine g_goto (tgt := 45) d_Mo_simulate_80 (by decide) ?_
    refine gGo_sub [2, 3, 1, 0] rfl ?_
    obtain rfl := Option.some.inj h
    exact k1 (((x4 * (6364136223846793005)) + (1442695040888963407)), (x6 + 1), q10) rfl
noncomputable def f_Mo_simulate_l45 (x3 : Int32) (s : (Int64 × Int32 × gMem)) : Option (Int32 × gMem) := gLp (fun s => f_Mo_simulate_s45 s.2.2 x3 s.1 s.2.1) s
theorem t_Mo_simulate_l45 {l : Launch} {ε : gEnv} (hM : gMo ε) (x3 : Int32) (s : (Int64 × Int32 × gMem)) (r : (Int32 × gMem)) (h : f_Mo_simulate_l45 x3 s = some r) : gGo l ε k_Mo_simulate (gR 8 173) (gFn ε (some (.int r.1)) r.2) 45 [(0, .ref (ε.2.2.1 19 0)), (3, .int x3), (4, .long s.1), (6, .int s.2.1)] [] s.2.2 :=
  g_loop _ (fun r s => gGo l ε k_Mo_simulate (gR 8 173) (gFn ε (some (.int r.1)) r.2) 45 [(0, .ref (ε.2.2.1 19 0)), (3, .int x3), (4, .long s.1), (6, .int s.2.1)] [] s.2.2) (fun s res h r k1 k2 => t_Mo_simulate_s45 hM s.2.2 x3 s.1 s.2.1 res h r k1 k2) s r h
noncomputable def f_Mo_simulate_b18 (M : gMem) (x1 : Int64) (x3 : Int32) (s0 : Int32) : Option (Int32 × gMem) :=
  (f_Mo_refused M s0).bind fun q2 =>
  if q2.1 = 0 then
    (f_Mo_copyState 19 2 197 19 3 197 q2.2 0 0).bind fun q3 =>
    f_Mo_simulate_l45 x3 (x1, 0, q3)
  else
    some (0, q2.2)
theorem t_Mo_simulate_b18 {l : Launch} {ε : gEnv} (hM : gMo ε) (M : gMem) (x1 : Int64) (x3 : Int32) (s0 : Int32) (r : (Int32 × gMem)) (h : f_Mo_simulate_b18 M x1 x3 s0 = some r) : gGo l ε k_Mo_simulate (gR 8 173) (gFn ε (some (.int r.1)) r.2) 18 [(0, .ref (ε.2.2.1 19 0)), (1, .long x1), (3, .int x3)] [.int s0, .ref (ε.2.2.1 19 0)] M := by
  unfold f_Mo_simulate_b18 at h
  obtain ⟨q2, hq2, h⟩ := gOb h
  refine g_callV_i (As := [.int s0]) (rest := []) (ct_Mo_refused hM M s0 _ hq2) d_Mo_simulate_18 ca_Mo_refused w_1034 (gMo_h0 hM) rfl rfl rfl (Nat.le_of_ble_eq_true rfl) ⟨(Nat.le_of_ble_eq_true rfl), (Nat.le_of_ble_eq_true rfl)⟩ ?_
  refine g_if_eq (tgt := 26) d_Mo_simulate_21 (by decide) (fun c12 => ?_) (fun c12 => ?_)
  · rw [if_pos c12] at h
    refine g_aload_n d_Mo_simulate_26 rfl 0 rfl ?_
    refine g_getR d_Mo_simulate_27 fl_Mo_13 (gMo_h0 hM) rfl ?_
    refine g_iconst (v := 0) d_Mo_simulate_30 (by decide) ?_
    refine g_aload_n d_Mo_simulate_31 rfl 0 rfl ?_
    refine g_getR d_Mo_simulate_32 fl_Mo_16 (gMo_h0 hM) rfl ?_
    refine g_iconst (v := 0) d_Mo_simulate_35 (by decide) ?_
    obtain ⟨q3, hq3, h⟩ := gOb h
    refine g_callS_v (As := [.ref (ε.2.2.1 19 2), .int 0, .ref (ε.2.2.1 19 3), .int 0]) (rest := []) (ct_Mo_copyState 19 2 197 19 3 197 (gMo_h2 hM) (gMo_h3 hM) q2.2 0 0 _ hq3) d_Mo_simulate_36 ca_Mo_copyState w_1136 rfl rfl (Nat.le_of_ble_eq_true rfl) ⟨(Nat.le_of_ble_eq_true rfl), (Nat.le_of_ble_eq_true rfl)⟩ ?_
    refine g_lload_n d_Mo_simulate_39 rfl 1 rfl ?_
    refine g_lstore (L' := [(4, .long x1), (0, .ref (ε.2.2.1 19 0)), (1, .long x1), (3, .int x3)]) d_Mo_simulate_40 (by decide) rfl ?_
    refine g_iconst (v := 0) d_Mo_simulate_42 (by decide) ?_
    refine g_istore (L' := [(6, .int 0), (4, .long x1), (0, .ref (ε.2.2.1 19 0)), (1, .long x1), (3, .int x3)]) d_Mo_simulate_43 (by decide) rfl ?_
    refine gGo_sub [2, 4, 1, 0] rfl ?_
    exact t_Mo_simulate_l45 hM x3 (x1, 0, q3) _ h
  · rw [if_neg c12] at h
    refine g_iconst (v := 0) d_Mo_simulate_24 (by decide) ?_
    obtain rfl := Option.some.inj h
    exact g_iret d_Mo_simulate_25 rfl
noncomputable def f_Mo_simulate (M : gMem) (a0 : Int64) (a1 : Int32) : Option (Int32 × gMem) :=
  (f_Mo_in (Int32.toInt64 a1) 1 (200)).bind fun q1 =>
  if q1 = 0 then
    f_Mo_simulate_b18 M a0 a1 1
  else
    f_Mo_simulate_b18 M a0 a1 0
theorem t_Mo_simulate {l : Launch} {ε : gEnv} (hM : gMo ε) (M : gMem) (a0 : Int64) (a1 : Int32) (r : (Int32 × gMem)) (h : f_Mo_simulate M a0 a1 = some r) : gGo l ε k_Mo_simulate (gR 8 173) (gFn ε (some (.int r.1)) r.2) 0 [(0, .ref (ε.2.2.1 19 0)), (1, .long a0), (3, .int a1)] [] M := by
  unfold f_Mo_simulate at h
  refine g_aload_n d_Mo_simulate_0 rfl 0 rfl ?_
  refine g_iload_n d_Mo_simulate_1 rfl 2 rfl ?_
  refine g_i2l d_Mo_simulate_2 ?_
  refine g_lconst (v := 1) d_Mo_simulate_3 (by decide) ?_
  refine g_ldc2 d_Mo_simulate_4 w_1251 ?_
  obtain ⟨q1, hq1, h⟩ := gOb h
  refine g_callS_i (As := [.long (Int32.toInt64 a1), .long 1, .long (200)]) (rest := [.ref (ε.2.2.1 19 0)]) (ct_Mo_in M (Int32.toInt64 a1) 1 (200) _ hq1) d_Mo_simulate_7 ca_Mo_in w_1031 rfl rfl (Nat.le_of_ble_eq_true rfl) ⟨(Nat.le_of_ble_eq_true rfl), (Nat.le_of_ble_eq_true rfl)⟩ ?_
  refine g_if_eq (tgt := 17) d_Mo_simulate_10 (by decide) (fun c13 => ?_) (fun c13 => ?_)
  · rw [if_pos c13] at h
    refine g_iconst (v := 1) d_Mo_simulate_17 (by decide) ?_
    exact t_Mo_simulate_b18 hM M a0 a1 1 _ h
  · rw [if_neg c13] at h
    refine g_iconst (v := 0) d_Mo_simulate_13 (by decide) ?_
    refine g_goto (tgt := 18) d_Mo_simulate_14 (by decide) ?_
    exact t_Mo_simulate_b18 hM M a0 a1 0 _ h
theorem ct_Mo_simulate {l : Launch} {ε : gEnv} (hM : gMo ε) (M : gMem) (a0 : Int64) (a1 : Int32) (r : (Int32 × gMem)) (h : f_Mo_simulate M a0 a1 = some r) : gCt l ε k_Mo_simulate 8 173 [.ref (ε.2.2.1 19 0), .long a0, .int a1] M (some (.int r.1)) r.2 :=
  gCt_of (by decide) (Nat.le_of_ble_eq_true rfl) rfl (t_Mo_simulate hM M a0 a1 r h)
abbrev k_Mo_save : gMD := (⟨"DropSignalsModel", "save", "(I)I"⟩, prog_11_method_67_code, 2, (some .int))
theorem w_1260 : Cond.instanceMethod ⟨"DropSignalsModel", "save", "(I)I"⟩ ∈ gWs := gWs_in (i := 1260) (by decide +kernel) rfl
theorem w_1261 : Cond.selects "DropSignalsModel" ⟨"DropSignalsModel", "save", "(I)I"⟩ ⟨"DropSignalsModel", "save", "(I)I"⟩ ∈ gWs := gWs_in (i := 1261) (by decide +kernel) rfl
set_option maxRecDepth 100000 in
theorem ca_Mo_save : gCaV k_Mo_save 1 := ⟨⟨gWs_in (i := 1262) rfl rfl, w_43, by decide, by decide, by decide +kernel⟩, w_1260, w_1261⟩
theorem d_Mo_save_0 : decode prog_11_method_67_code 0 = .ok (.aload_n 0, 1) := by decide +kernel
theorem d_Mo_save_1 : decode prog_11_method_67_code 1 = .ok (.iload_n 1, 1) := by decide +kernel
theorem d_Mo_save_2 : decode prog_11_method_67_code 2 = .ok (.i2l, 1) := by decide +kernel
theorem d_Mo_save_3 : decode prog_11_method_67_code 3 = .ok (.lconst 0, 1) := by decide +kernel
theorem d_Mo_save_4 : decode prog_11_method_67_code 4 = .ok (.lconst 1, 1) := by decide +kernel
theorem d_Mo_save_5 : decode prog_11_method_67_code 5 = .ok (.invokestatic 84, 3) := by decide +kernel
theorem d_Mo_save_8 : decode prog_11_method_67_code 8 = .ok (.ifCond .eq 7, 3) := by decide +kernel
theorem d_Mo_save_11 : decode prog_11_method_67_code 11 = .ok (.iconst 0, 1) := by decide +kernel
theorem d_Mo_save_12 : decode prog_11_method_67_code 12 = .ok (.goto 4, 3) := by decide +kernel
theorem d_Mo_save_15 : decode prog_11_method_67_code 15 = .ok (.iconst 1, 1) := by decide +kernel
theorem d_Mo_save_16 : decode prog_11_method_67_code 16 = .ok (.invokevirtual 127, 3) := by decide +kernel
theorem d_Mo_save_19 : decode prog_11_method_67_code 19 = .ok (.ifCond .eq 5, 3) := by decide +kernel
theorem d_Mo_save_22 : decode prog_11_method_67_code 22 = .ok (.iconst 0, 1) := by decide +kernel
theorem d_Mo_save_23 : decode prog_11_method_67_code 23 = .ok (.ireturn, 1) := by decide +kernel
theorem d_Mo_save_24 : decode prog_11_method_67_code 24 = .ok (.aload_n 0, 1) := by decide +kernel
theorem d_Mo_save_25 : decode prog_11_method_67_code 25 = .ok (.getfield 13, 3) := by decide +kernel
theorem d_Mo_save_28 : decode prog_11_method_67_code 28 = .ok (.iconst 0, 1) := by decide +kernel
theorem d_Mo_save_29 : decode prog_11_method_67_code 29 = .ok (.aload_n 0, 1) := by decide +kernel
theorem d_Mo_save_30 : decode prog_11_method_67_code 30 = .ok (.getfield 37, 3) := by decide +kernel
theorem d_Mo_save_33 : decode prog_11_method_67_code 33 = .ok (.sipush 197, 3) := by decide +kernel
theorem d_Mo_save_36 : decode prog_11_method_67_code 36 = .ok (.iload_n 1, 1) := by decide +kernel
theorem d_Mo_save_37 : decode prog_11_method_67_code 37 = .ok (.imul, 1) := by decide +kernel
theorem d_Mo_save_38 : decode prog_11_method_67_code 38 = .ok (.invokestatic 172, 3) := by decide +kernel
theorem d_Mo_save_41 : decode prog_11_method_67_code 41 = .ok (.aload_n 0, 1) := by decide +kernel
theorem d_Mo_save_42 : decode prog_11_method_67_code 42 = .ok (.getfield 40, 3) := by decide +kernel
theorem d_Mo_save_45 : decode prog_11_method_67_code 45 = .ok (.iload_n 1, 1) := by decide +kernel
theorem d_Mo_save_46 : decode prog_11_method_67_code 46 = .ok (.iconst 1, 1) := by decide +kernel
theorem d_Mo_save_47 : decode prog_11_method_67_code 47 = .ok (.bastore, 1) := by decide +kernel
theorem d_Mo_save_48 : decode prog_11_method_67_code 48 = .ok (.aload_n 0, 1) := by decide +kernel
theorem d_Mo_save_49 : decode prog_11_method_67_code 49 = .ok (.getfield 13, 3) := by decide +kernel
theorem d_Mo_save_52 : decode prog_11_method_67_code 52 = .ok (.iconst 0, 1) := by decide +kernel
theorem d_Mo_save_53 : decode prog_11_method_67_code 53 = .ok (.iaload, 1) := by decide +kernel
theorem d_Mo_save_54 : decode prog_11_method_67_code 54 = .ok (.ireturn, 1) := by decide +kernel
theorem w_985 : Cond.fieldLink "DropSignalsModel" 37 "DropSignalsModel" "kept" "[I" ∈ gWs := gWs_in (i := 985) (by decide +kernel) rfl
theorem fl_Mo_37 : gFl "DropSignalsModel" 37 8 12 := ⟨gN8, gF8, 16, rfl, uw_8, by decide, w_985⟩
noncomputable def f_Mo_save_b16 (M : gMem) (x1 : Int32) (s0 : Int32) : Option (Int32 × gMem) :=
  (f_Mo_refused M s0).bind fun q2 =>
  if q2.1 = 0 then
    (f_Mo_copyState 19 2 197 19 10 394 q2.2 0 (197 * x1)).bind fun q3 =>
    (gBl 1).bind fun _ =>
    (gWr q3 19 11 2 x1 1).bind fun M4 =>
    (gRd 197 (M4 19 2) 0).bind fun v6 =>
    some (v6, M4)
  else
    some (0, q2.2)
theorem t_Mo_save_b16 {l : Launch} {ε : gEnv} (hM : gMo ε) (M : gMem) (x1 : Int32) (s0 : Int32) (r : (Int32 × gMem)) (h : f_Mo_save_b16 M x1 s0 = some r) : gGo l ε k_Mo_save (gR 1 25) (gFn ε (some (.int r.1)) r.2) 16 [(0, .ref (ε.2.2.1 19 0)), (1, .int x1)] [.int s0, .ref (ε.2.2.1 19 0)] M := by
  unfold f_Mo_save_b16 at h
  obtain ⟨q2, hq2, h⟩ := gOb h
  refine g_callV_i (As := [.int s0]) (rest := []) (ct_Mo_refused hM M s0 _ hq2) d_Mo_save_16 ca_Mo_refused w_1034 (gMo_h0 hM) rfl rfl rfl (Nat.le_of_ble_eq_true rfl) ⟨(Nat.le_of_ble_eq_true rfl), (Nat.le_of_ble_eq_true rfl)⟩ ?_
  refine g_if_eq (tgt := 24) d_Mo_save_19 (by decide) (fun c7 => ?_) (fun c7 => ?_)
  · rw [if_pos c7] at h
    refine g_aload_n d_Mo_save_24 rfl 0 rfl ?_
    refine g_getR d_Mo_save_25 fl_Mo_13 (gMo_h0 hM) rfl ?_
    refine g_iconst (v := 0) d_Mo_save_28 (by decide) ?_
    refine g_aload_n d_Mo_save_29 rfl 0 rfl ?_
    refine g_getR d_Mo_save_30 fl_Mo_37 (gMo_h0 hM) rfl ?_
    refine g_sipush (v := 197) d_Mo_save_33 (by decide) ?_
    refine g_iload_n d_Mo_save_36 rfl 1 rfl ?_
    refine g_imul d_Mo_save_37 ?_
    obtain ⟨q3, hq3, h⟩ := gOb h
    refine g_callS_v (As := [.ref (ε.2.2.1 19 2), .int 0, .ref (ε.2.2.1 19 10), .int (197 * x1)]) (rest := []) (ct_Mo_copyState 19 2 197 19 10 394 (gMo_h2 hM) (gMo_h10 hM) q2.2 0 (197 * x1) _ hq3) d_Mo_save_38 ca_Mo_copyState w_1136 rfl rfl (Nat.le_of_ble_eq_true rfl) ⟨(Nat.le_of_ble_eq_true rfl), (Nat.le_of_ble_eq_true rfl)⟩ ?_
    refine g_aload_n d_Mo_save_41 rfl 0 rfl ?_
    refine g_getR d_Mo_save_42 fl_Mo_40 (gMo_h0 hM) rfl ?_
    refine g_iload_n d_Mo_save_45 rfl 1 rfl ?_
    refine g_iconst (v := 1) d_Mo_save_46 (by decide) ?_
    obtain ⟨z5, hz5, h⟩ := gOb h
    obtain ⟨M4, hM4, h⟩ := gOb h
    refine g_bastoreO d_Mo_save_47 (gMo_h11 hM) hz5 hM4 ?_
    refine g_aload_n d_Mo_save_48 rfl 0 rfl ?_
    refine g_getR d_Mo_save_49 fl_Mo_13 (gMo_h0 hM) rfl ?_
    refine g_iconst (v := 0) d_Mo_save_52 (by decide) ?_
    obtain ⟨v6, hv6, h⟩ := gOb h
    refine g_iaload d_Mo_save_53 (gMo_h2 hM) hv6 ?_
    obtain rfl := Option.some.inj h
    exact g_iret d_Mo_save_54 rfl
  · rw [if_neg c7] at h
    refine g_iconst (v := 0) d_Mo_save_22 (by decide) ?_
    obtain rfl := Option.some.inj h
    exact g_iret d_Mo_save_23 rfl
noncomputable def f_Mo_save (M : gMem) (a0 : Int32) : Option (Int32 × gMem) :=
  (f_Mo_in (Int32.toInt64 a0) 0 1).bind fun q1 =>
  if q1 = 0 then
    f_Mo_save_b16 M a0 1
  else
    f_Mo_save_b16 M a0 0
theorem t_Mo_save {l : Launch} {ε : gEnv} (hM : gMo ε) (M : gMem) (a0 : Int32) (r : (Int32 × gMem)) (h : f_Mo_save M a0 = some r) : gGo l ε k_Mo_save (gR 1 25) (gFn ε (some (.int r.1)) r.2) 0 [(0, .ref (ε.2.2.1 19 0)), (1, .int a0)] [] M := by
  unfold f_Mo_save at h
  refine g_aload_n d_Mo_save_0 rfl 0 rfl ?_
  refine g_iload_n d_Mo_save_1 rfl 1 rfl ?_
  refine g_i2l d_Mo_save_2 ?_
  refine g_lconst (v := 0) d_Mo_save_3 (by decide) ?_
  refine g_lconst (v := 1) d_Mo_save_4 (by decide) ?_
  obtain ⟨q1, hq1, h⟩ := gOb h
  refine g_callS_i (As := [.long (Int32.toInt64 a0), .long 0, .long 1]) (rest := [.ref (ε.2.2.1 19 0)]) (ct_Mo_in M (Int32.toInt64 a0) 0 1 _ hq1) d_Mo_save_5 ca_Mo_in w_1031 rfl rfl (Nat.le_of_ble_eq_true rfl) ⟨(Nat.le_of_ble_eq_true rfl), (Nat.le_of_ble_eq_true rfl)⟩ ?_
  refine g_if_eq (tgt := 15) d_Mo_save_8 (by decide) (fun c8 => ?_) (fun c8 => ?_)
  · rw [if_pos c8] at h
    refine g_iconst (v := 1) d_Mo_save_15 (by decide) ?_
    exact t_Mo_save_b16 hM M a0 1 _ h
  · rw [if_neg c8] at h
    refine g_iconst (v := 0) d_Mo_save_11 (by decide) ?_
    refine g_goto (tgt := 16) d_Mo_save_12 (by decide) ?_
    exact t_Mo_save_b16 hM M a0 0 _ h
theorem ct_Mo_save {l : Launch} {ε : gEnv} (hM : gMo ε) (M : gMem) (a0 : Int32) (r : (Int32 × gMem)) (h : f_Mo_save M a0 = some r) : gCt l ε k_Mo_save 1 25 [.ref (ε.2.2.1 19 0), .int a0] M (some (.int r.1)) r.2 :=
  gCt_of (by decide) (Nat.le_of_ble_eq_true rfl) rfl (t_Mo_save hM M a0 r h)
abbrev k_Mo_restore : gMD := (⟨"DropSignalsModel", "restore", "(I)I"⟩, prog_11_method_68_code, 2, (some .int))
theorem w_1264 : Cond.instanceMethod ⟨"DropSignalsModel", "restore", "(I)I"⟩ ∈ gWs := gWs_in (i := 1264) (by decide +kernel) rfl
theorem w_1265 : Cond.selects "DropSignalsModel" ⟨"DropSignalsModel", "restore", "(I)I"⟩ ⟨"DropSignalsModel", "restore", "(I)I"⟩ ∈ gWs := gWs_in (i := 1265) (by decide +kernel) rfl
set_option maxRecDepth 100000 in
theorem ca_Mo_restore : gCaV k_Mo_restore 1 := ⟨⟨gWs_in (i := 1266) rfl rfl, w_43, by decide, by decide, by decide +kernel⟩, w_1264, w_1265⟩
theorem d_Mo_restore_0 : decode prog_11_method_68_code 0 = .ok (.aload_n 0, 1) := by decide +kernel
theorem d_Mo_restore_1 : decode prog_11_method_68_code 1 = .ok (.iload_n 1, 1) := by decide +kernel
theorem d_Mo_restore_2 : decode prog_11_method_68_code 2 = .ok (.i2l, 1) := by decide +kernel
theorem d_Mo_restore_3 : decode prog_11_method_68_code 3 = .ok (.lconst 0, 1) := by decide +kernel
theorem d_Mo_restore_4 : decode prog_11_method_68_code 4 = .ok (.lconst 1, 1) := by decide +kernel
theorem d_Mo_restore_5 : decode prog_11_method_68_code 5 = .ok (.invokestatic 84, 3) := by decide +kernel
theorem d_Mo_restore_8 : decode prog_11_method_68_code 8 = .ok (.ifCond .ne 7, 3) := by decide +kernel
theorem d_Mo_restore_11 : decode prog_11_method_68_code 11 = .ok (.iconst 1, 1) := by decide +kernel
theorem d_Mo_restore_12 : decode prog_11_method_68_code 12 = .ok (.goto 17, 3) := by decide +kernel
theorem d_Mo_restore_15 : decode prog_11_method_68_code 15 = .ok (.aload_n 0, 1) := by decide +kernel
theorem d_Mo_restore_16 : decode prog_11_method_68_code 16 = .ok (.getfield 40, 3) := by decide +kernel
theorem d_Mo_restore_19 : decode prog_11_method_68_code 19 = .ok (.iload_n 1, 1) := by decide +kernel
theorem d_Mo_restore_20 : decode prog_11_method_68_code 20 = .ok (.baload, 1) := by decide +kernel
theorem d_Mo_restore_21 : decode prog_11_method_68_code 21 = .ok (.ifCond .ne 7, 3) := by decide +kernel
theorem d_Mo_restore_24 : decode prog_11_method_68_code 24 = .ok (.iconst 2, 1) := by decide +kernel
theorem d_Mo_restore_25 : decode prog_11_method_68_code 25 = .ok (.goto 4, 3) := by decide +kernel
theorem d_Mo_restore_28 : decode prog_11_method_68_code 28 = .ok (.iconst 0, 1) := by decide +kernel
theorem d_Mo_restore_29 : decode prog_11_method_68_code 29 = .ok (.invokevirtual 127, 3) := by decide +kernel
theorem d_Mo_restore_32 : decode prog_11_method_68_code 32 = .ok (.ifCond .eq 5, 3) := by decide +kernel
theorem d_Mo_restore_35 : decode prog_11_method_68_code 35 = .ok (.iconst 0, 1) := by decide +kernel
theorem d_Mo_restore_36 : decode prog_11_method_68_code 36 = .ok (.ireturn, 1) := by decide +kernel
theorem d_Mo_restore_37 : decode prog_11_method_68_code 37 = .ok (.aload_n 0, 1) := by decide +kernel
theorem d_Mo_restore_38 : decode prog_11_method_68_code 38 = .ok (.getfield 37, 3) := by decide +kernel
theorem d_Mo_restore_41 : decode prog_11_method_68_code 41 = .ok (.sipush 197, 3) := by decide +kernel
theorem d_Mo_restore_44 : decode prog_11_method_68_code 44 = .ok (.iload_n 1, 1) := by decide +kernel
theorem d_Mo_restore_45 : decode prog_11_method_68_code 45 = .ok (.imul, 1) := by decide +kernel
theorem d_Mo_restore_46 : decode prog_11_method_68_code 46 = .ok (.aload_n 0, 1) := by decide +kernel
theorem d_Mo_restore_47 : decode prog_11_method_68_code 47 = .ok (.getfield 13, 3) := by decide +kernel
theorem d_Mo_restore_50 : decode prog_11_method_68_code 50 = .ok (.iconst 0, 1) := by decide +kernel
theorem d_Mo_restore_51 : decode prog_11_method_68_code 51 = .ok (.invokestatic 172, 3) := by decide +kernel
theorem d_Mo_restore_54 : decode prog_11_method_68_code 54 = .ok (.aload_n 0, 1) := by decide +kernel
theorem d_Mo_restore_55 : decode prog_11_method_68_code 55 = .ok (.iconst 0, 1) := by decide +kernel
theorem d_Mo_restore_56 : decode prog_11_method_68_code 56 = .ok (.putfield 176, 3) := by decide +kernel
theorem d_Mo_restore_59 : decode prog_11_method_68_code 59 = .ok (.aload_n 0, 1) := by decide +kernel
theorem d_Mo_restore_60 : decode prog_11_method_68_code 60 = .ok (.getfield 13, 3) := by decide +kernel
theorem d_Mo_restore_63 : decode prog_11_method_68_code 63 = .ok (.iconst 0, 1) := by decide +kernel
theorem d_Mo_restore_64 : decode prog_11_method_68_code 64 = .ok (.iaload, 1) := by decide +kernel
theorem d_Mo_restore_65 : decode prog_11_method_68_code 65 = .ok (.ireturn, 1) := by decide +kernel
noncomputable def f_Mo_restore_b29 (M : gMem) (x1 : Int32) (s0 : Int32) : Option (Int32 × gMem) :=
  (f_Mo_refused M s0).bind fun q3 =>
  if q3.1 = 0 then
    (f_Mo_copyState 19 10 394 19 2 197 q3.2 (197 * x1) 0).bind fun q4 =>
    (gSO q4 19 0 11 0).bind fun M5 =>
    (gRd 197 (M5 19 2) 0).bind fun v6 =>
    some (v6, M5)
  else
    some (0, q3.2)
theorem t_Mo_restore_b29 {l : Launch} {ε : gEnv} (hM : gMo ε) (M : gMem) (x1 : Int32) (s0 : Int32) (r : (Int32 × gMem)) (h : f_Mo_restore_b29 M x1 s0 = some r) : gGo l ε k_Mo_restore (gR 1 25) (gFn ε (some (.int r.1)) r.2) 29 [(0, .ref (ε.2.2.1 19 0)), (1, .int x1)] [.int s0, .ref (ε.2.2.1 19 0)] M := by
  unfold f_Mo_restore_b29 at h
  obtain ⟨q3, hq3, h⟩ := gOb h
  refine g_callV_i (As := [.int s0]) (rest := []) (ct_Mo_refused hM M s0 _ hq3) d_Mo_restore_29 ca_Mo_refused w_1034 (gMo_h0 hM) rfl rfl rfl (Nat.le_of_ble_eq_true rfl) ⟨(Nat.le_of_ble_eq_true rfl), (Nat.le_of_ble_eq_true rfl)⟩ ?_
  refine g_if_eq (tgt := 37) d_Mo_restore_32 (by decide) (fun c7 => ?_) (fun c7 => ?_)
  · rw [if_pos c7] at h
    refine g_aload_n d_Mo_restore_37 rfl 0 rfl ?_
    refine g_getR d_Mo_restore_38 fl_Mo_37 (gMo_h0 hM) rfl ?_
    refine g_sipush (v := 197) d_Mo_restore_41 (by decide) ?_
    refine g_iload_n d_Mo_restore_44 rfl 1 rfl ?_
    refine g_imul d_Mo_restore_45 ?_
    refine g_aload_n d_Mo_restore_46 rfl 0 rfl ?_
    refine g_getR d_Mo_restore_47 fl_Mo_13 (gMo_h0 hM) rfl ?_
    refine g_iconst (v := 0) d_Mo_restore_50 (by decide) ?_
    obtain ⟨q4, hq4, h⟩ := gOb h
    refine g_callS_v (As := [.ref (ε.2.2.1 19 10), .int (197 * x1), .ref (ε.2.2.1 19 2), .int 0]) (rest := []) (ct_Mo_copyState 19 10 394 19 2 197 (gMo_h10 hM) (gMo_h2 hM) q3.2 (197 * x1) 0 _ hq4) d_Mo_restore_51 ca_Mo_copyState w_1136 rfl rfl (Nat.le_of_ble_eq_true rfl) ⟨(Nat.le_of_ble_eq_true rfl), (Nat.le_of_ble_eq_true rfl)⟩ ?_
    refine g_aload_n d_Mo_restore_54 rfl 0 rfl ?_
    refine g_iconst (v := 0) d_Mo_restore_55 (by decide) ?_
    obtain ⟨M5, hM5, h⟩ := gOb h
    refine g_putO d_Mo_restore_56 fp_Mo_176 (gMo_h0 hM) rfl hM5 ?_
    refine g_aload_n d_Mo_restore_59 rfl 0 rfl ?_
    refine g_getR d_Mo_restore_60 fl_Mo_13 (gMo_h0 hM) rfl ?_
    refine g_iconst (v := 0) d_Mo_restore_63 (by decide) ?_
    obtain ⟨v6, hv6, h⟩ := gOb h
    refine g_iaload d_Mo_restore_64 (gMo_h2 hM) hv6 ?_
    obtain rfl := Option.some.inj h
    exact g_iret d_Mo_restore_65 rfl
  · rw [if_neg c7] at h
    refine g_iconst (v := 0) d_Mo_restore_35 (by decide) ?_
    obtain rfl := Option.some.inj h
    exact g_iret d_Mo_restore_36 rfl
noncomputable def f_Mo_restore (M : gMem) (a0 : Int32) : Option (Int32 × gMem) :=
  (f_Mo_in (Int32.toInt64 a0) 0 1).bind fun q1 =>
  if q1 = 0 then
    f_Mo_restore_b29 M a0 1
  else
    (gRd 2 (M 19 11) a0).bind fun v2 =>
    if v2 = 0 then
      f_Mo_restore_b29 M a0 2
    else
      f_Mo_restore_b29 M a0 0
theorem t_Mo_restore {l : Launch} {ε : gEnv} (hM : gMo ε) (M : gMem) (a0 : Int32) (r : (Int32 × gMem)) (h : f_Mo_restore M a0 = some r) : gGo l ε k_Mo_restore (gR 1 25) (gFn ε (some (.int r.1)) r.2) 0 [(0, .ref (ε.2.2.1 19 0)), (1, .int a0)] [] M := by
  unfold f_Mo_restore at h
  refine g_aload_n d_Mo_restore_0 rfl 0 rfl ?_
  refine g_iload_n d_Mo_restore_1 rfl 1 rfl ?_
  refine g_i2l d_Mo_restore_2 ?_
  refine g_lconst (v := 0) d_Mo_restore_3 (by decide) ?_
  refine g_lconst (v := 1) d_Mo_restore_4 (by decide) ?_
  obtain ⟨q1, hq1, h⟩ := gOb h
  refine g_callS_i (As := [.long (Int32.toInt64 a0), .long 0, .long 1]) (rest := [.ref (ε.2.2.1 19 0)]) (ct_Mo_in M (Int32.toInt64 a0) 0 1 _ hq1) d_Mo_restore_5 ca_Mo_in w_1031 rfl rfl (Nat.le_of_ble_eq_true rfl) ⟨(Nat.le_of_ble_eq_true rfl), (Nat.le_of_ble_eq_true rfl)⟩ ?_
  refine g_if_ne (tgt := 15) d_Mo_restore_8 (by decide) (fun c9 => ?_) (fun c9 => ?_)
  · rw [if_neg c9] at h
    refine g_aload_n d_Mo_restore_15 rfl 0 rfl ?_
    refine g_getR d_Mo_restore_16 fl_Mo_40 (gMo_h0 hM) rfl ?_
    refine g_iload_n d_Mo_restore_19 rfl 1 rfl ?_
    obtain ⟨v2, hv2, h⟩ := gOb h
    refine g_baload d_Mo_restore_20 (gMo_h11 hM) hv2 ?_
    refine g_if_ne (tgt := 28) d_Mo_restore_21 (by decide) (fun c8 => ?_) (fun c8 => ?_)
    · rw [if_neg c8] at h
      refine g_iconst (v := 0) d_Mo_restore_28 (by decide) ?_
      exact t_Mo_restore_b29 hM M a0 0 _ h
    · rw [if_pos c8] at h
      refine g_iconst (v := 2) d_Mo_restore_24 (by decide) ?_
      refine g_goto (tgt := 29) d_Mo_restore_25 (by decide) ?_
      exact t_Mo_restore_b29 hM M a0 2 _ h
  · rw [if_pos c9] at h
    refine g_iconst (v := 1) d_Mo_restore_11 (by decide) ?_
    refine g_goto (tgt := 29) d_Mo_restore_12 (by decide) ?_
    exact t_Mo_restore_b29 hM M a0 1 _ h
theorem ct_Mo_restore {l : Launch} {ε : gEnv} (hM : gMo ε) (M : gMem) (a0 : Int32) (r : (Int32 × gMem)) (h : f_Mo_restore M a0 = some r) : gCt l ε k_Mo_restore 1 25 [.ref (ε.2.2.1 19 0), .int a0] M (some (.int r.1)) r.2 :=
  gCt_of (by decide) (Nat.le_of_ble_eq_true rfl) rfl (t_Mo_restore hM M a0 r h)
