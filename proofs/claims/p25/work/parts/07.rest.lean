abbrev k_Mem_count : gMD := (⟨"DropSignals$Memory", "count", "()I"⟩, prog_5_method_2_code, 1, (some .int))
theorem w_25 : Cond.initialized "DropSignals$Memory" ∈ gWs := gWs_in (i := 25) (by decide +kernel) rfl
theorem w_756 : Cond.instanceMethod ⟨"DropSignals$Memory", "count", "()I"⟩ ∈ gWs := gWs_in (i := 756) (by decide +kernel) rfl
theorem w_757 : Cond.selects "DropSignals$Memory" ⟨"DropSignals$Memory", "count", "()I"⟩ ⟨"DropSignals$Memory", "count", "()I"⟩ ∈ gWs := gWs_in (i := 757) (by decide +kernel) rfl
set_option maxRecDepth 100000 in
theorem ca_Mem_count : gCaV k_Mem_count 0 := ⟨⟨gWs_in (i := 758) rfl rfl, w_25, by decide, by decide, by decide +kernel⟩, w_756, w_757⟩
theorem d_Mem_count_0 : decode prog_5_method_2_code 0 = .ok (.aload_n 0, 1) := by decide +kernel
theorem d_Mem_count_1 : decode prog_5_method_2_code 1 = .ok (.getfield 18, 3) := by decide +kernel
theorem d_Mem_count_4 : decode prog_5_method_2_code 4 = .ok (.ireturn, 1) := by decide +kernel
theorem uw_3 : ∀ w ∈ u_ws gN3 gF3 3, w ∈ gWs := by
  intro w hw
  have h := List.all_eq_true.mp (show (u_ws gN3 gF3 3).all (fun w => decide (w ∈ lw_tbl) && goodWord w) = true by decide +kernel) w hw
  simp only [Bool.and_eq_true, decide_eq_true_eq] at h
  exact List.mem_filter.mpr h
theorem w_186 : Cond.fieldLink "DropSignals$Memory" 18 "DropSignals$Memory" "count" "I" ∈ gWs := gWs_in (i := 186) (by decide +kernel) rfl
theorem fl_Mem_18 : gFl "DropSignals$Memory" 18 3 2 := ⟨gN3, gF3, 3, rfl, uw_3, by decide, w_186⟩
noncomputable def f_Mem_count (M : gMem) : Option Int32 :=
  some (M 18 1 2)
theorem t_Mem_count {l : Launch} {ε : gEnv} (hX : gXw ε) (M : gMem) (r : Int32) (h : f_Mem_count M = some r) : gGo l ε k_Mem_count (gR 0 0) (gFn ε (some (.int r)) M) 0 [(0, .ref (ε.2.2.1 18 1))] [] M := by
  unfold f_Mem_count at h
  refine g_aload_n d_Mem_count_0 rfl 0 rfl ?_
  refine g_getI d_Mem_count_1 fl_Mem_18 (gXw_h1 hX) rfl ?_
  obtain rfl := Option.some.inj h
  exact g_iret d_Mem_count_4 rfl
theorem ct_Mem_count {l : Launch} {ε : gEnv} (hX : gXw ε) (M : gMem) (r : Int32) (h : f_Mem_count M = some r) : gCt l ε k_Mem_count 0 0 [.ref (ε.2.2.1 18 1)] M (some (.int r)) M :=
  gCt_of (by decide) (Nat.le_of_ble_eq_true rfl) rfl (t_Mem_count hX M r h)
abbrev k_Mem_forget : gMD := (⟨"DropSignals$Memory", "forget", "()V"⟩, prog_5_method_3_code, 1, none)
theorem w_418 : Cond.instanceMethod ⟨"DropSignals$Memory", "forget", "()V"⟩ ∈ gWs := gWs_in (i := 418) (by decide +kernel) rfl
theorem w_419 : Cond.selects "DropSignals$Memory" ⟨"DropSignals$Memory", "forget", "()V"⟩ ⟨"DropSignals$Memory", "forget", "()V"⟩ ∈ gWs := gWs_in (i := 419) (by decide +kernel) rfl
set_option maxRecDepth 100000 in
theorem ca_Mem_forget : gCaV k_Mem_forget 0 := ⟨⟨gWs_in (i := 420) rfl rfl, w_25, by decide, by decide, by decide +kernel⟩, w_418, w_419⟩
theorem d_Mem_forget_0 : decode prog_5_method_3_code 0 = .ok (.aload_n 0, 1) := by decide +kernel
theorem d_Mem_forget_1 : decode prog_5_method_3_code 1 = .ok (.iconst 0, 1) := by decide +kernel
theorem d_Mem_forget_2 : decode prog_5_method_3_code 2 = .ok (.putfield 18, 3) := by decide +kernel
theorem d_Mem_forget_5 : decode prog_5_method_3_code 5 = .ok (.return_, 1) := by decide +kernel
theorem fp_Mem_18 : gFp "DropSignals$Memory" 18 3 2 .int := ⟨gN3, gF3, 3, rfl, uw_3, by decide, w_186, ⟨gX3, gY3⟩, gD3, rfl, by decide +kernel⟩
noncomputable def f_Mem_forget (M : gMem) : Option gMem :=
  (gSO M 18 1 2 0).bind fun M1 =>
  some M1
theorem t_Mem_forget {l : Launch} {ε : gEnv} (hX : gXw ε) (M : gMem) (r : gMem) (h : f_Mem_forget M = some r) : gGo l ε k_Mem_forget (gR 0 0) (gFn ε none r) 0 [(0, .ref (ε.2.2.1 18 1))] [] M := by
  unfold f_Mem_forget at h
  refine g_aload_n d_Mem_forget_0 rfl 0 rfl ?_
  refine g_iconst (v := 0) d_Mem_forget_1 (by decide) ?_
  obtain ⟨M1, hM1, h⟩ := gOb h
  refine g_putO d_Mem_forget_2 fp_Mem_18 (gXw_h1 hX) rfl hM1 ?_
  obtain rfl := Option.some.inj h
  exact g_vret d_Mem_forget_5 rfl
theorem ct_Mem_forget {l : Launch} {ε : gEnv} (hX : gXw ε) (M : gMem) (r : gMem) (h : f_Mem_forget M = some r) : gCt l ε k_Mem_forget 0 0 [.ref (ε.2.2.1 18 1)] M none r :=
  gCt_of (by decide) (Nat.le_of_ble_eq_true rfl) rfl (t_Mem_forget hX M r h)
abbrev k_Mem_store : gMD := (⟨"DropSignals$Memory", "store", "(ILDropSignals$Evening;)V"⟩, prog_5_method_5_code, 3, none)
theorem w_698 : Cond.instanceMethod ⟨"DropSignals$Memory", "store", "(ILDropSignals$Evening;)V"⟩ ∈ gWs := gWs_in (i := 698) (by decide +kernel) rfl
theorem w_12 : Cond.selects "DropSignals$Memory" ⟨"DropSignals$Memory", "store", "(ILDropSignals$Evening;)V"⟩ ⟨"DropSignals$Memory", "store", "(ILDropSignals$Evening;)V"⟩ ∈ gWs := gWs_in (i := 12) (by decide +kernel) rfl
set_option maxRecDepth 100000 in
theorem ca_Mem_store : gCaV k_Mem_store 2 := ⟨⟨gWs_in (i := 699) rfl rfl, w_25, by decide, by decide, by decide +kernel⟩, w_698, w_12⟩
theorem d_Mem_store_0 : decode prog_5_method_5_code 0 = .ok (.iload_n 1, 1) := by decide +kernel
theorem d_Mem_store_1 : decode prog_5_method_5_code 1 = .ok (.ifCond .lt 31, 3) := by decide +kernel
theorem d_Mem_store_4 : decode prog_5_method_5_code 4 = .ok (.iload_n 1, 1) := by decide +kernel
theorem d_Mem_store_5 : decode prog_5_method_5_code 5 = .ok (.aload_n 0, 1) := by decide +kernel
theorem d_Mem_store_6 : decode prog_5_method_5_code 6 = .ok (.getfield 11, 3) := by decide +kernel
theorem d_Mem_store_9 : decode prog_5_method_5_code 9 = .ok (.arraylength, 1) := by decide +kernel
theorem d_Mem_store_10 : decode prog_5_method_5_code 10 = .ok (.if_icmp .ge 22, 3) := by decide +kernel
theorem d_Mem_store_13 : decode prog_5_method_5_code 13 = .ok (.aload_n 0, 1) := by decide +kernel
theorem d_Mem_store_14 : decode prog_5_method_5_code 14 = .ok (.getfield 11, 3) := by decide +kernel
theorem d_Mem_store_17 : decode prog_5_method_5_code 17 = .ok (.iload_n 1, 1) := by decide +kernel
theorem d_Mem_store_18 : decode prog_5_method_5_code 18 = .ok (.aaload, 1) := by decide +kernel
theorem d_Mem_store_19 : decode prog_5_method_5_code 19 = .ok (.ifnull 13, 3) := by decide +kernel
theorem d_Mem_store_22 : decode prog_5_method_5_code 22 = .ok (.aload_n 0, 1) := by decide +kernel
theorem d_Mem_store_23 : decode prog_5_method_5_code 23 = .ok (.getfield 11, 3) := by decide +kernel
theorem d_Mem_store_26 : decode prog_5_method_5_code 26 = .ok (.iload_n 1, 1) := by decide +kernel
theorem d_Mem_store_27 : decode prog_5_method_5_code 27 = .ok (.aaload, 1) := by decide +kernel
theorem d_Mem_store_28 : decode prog_5_method_5_code 28 = .ok (.aload_n 2, 1) := by decide +kernel
theorem d_Mem_store_29 : decode prog_5_method_5_code 29 = .ok (.invokevirtual 35, 3) := by decide +kernel
theorem d_Mem_store_32 : decode prog_5_method_5_code 32 = .ok (.return_, 1) := by decide +kernel
theorem w_184 : Cond.fieldLink "DropSignals$Memory" 11 "DropSignals$Memory" "states" "[LDropSignals$Evening;" ∈ gWs := gWs_in (i := 184) (by decide +kernel) rfl
theorem fl_Mem_11 : gFl "DropSignals$Memory" 11 3 0 := ⟨gN3, gF3, 3, rfl, uw_3, by decide, w_184⟩
theorem w_700 : Cond.methodLink "DropSignals$Memory" 35 ⟨"DropSignals$Evening", "copyFrom", "(LDropSignals$Evening;)V"⟩ ∈ gWs := gWs_in (i := 700) (by decide +kernel) rfl
noncomputable def f_Mem_store (e1 : Nat) (M : gMem) (a0 : Int32) : Option gMem :=
  if a0 < 0 then
    some M
  else
    if (Int32.ofNat 14) ≤ a0 then
      some M
    else
      (gIn 14 a0).bind fun v1 =>
      (gIn 14 a0).bind fun v2 =>
      (f_Ev_copyFrom (2 + v2) e1 M).bind fun q3 =>
      some q3
theorem t_Mem_store {l : Launch} {ε : gEnv} (e1 : Nat) (hX : gXw ε) (hE1 : gEv ε e1) (M : gMem) (a0 : Int32) (r : gMem) (h : f_Mem_store e1 M a0 = some r) : gGo l ε k_Mem_store (gR 4 93) (gFn ε none r) 0 [(0, .ref (ε.2.2.1 18 1)), (1, .int a0), (2, .ref (ε.2.2.1 e1 0))] [] M := by
  unfold f_Mem_store at h
  refine g_iload_n d_Mem_store_0 rfl 1 rfl ?_
  refine g_if_lt (tgt := 32) d_Mem_store_1 (by decide) (fun c5 => ?_) (fun c5 => ?_)
  · rw [if_pos c5] at h
    obtain rfl := Option.some.inj h
    exact g_vret d_Mem_store_32 rfl
  · rw [if_neg c5] at h
    refine g_iload_n d_Mem_store_4 rfl 1 rfl ?_
    refine g_aload_n d_Mem_store_5 rfl 0 rfl ?_
    refine g_getR d_Mem_store_6 fl_Mem_11 (gXw_h1 hX) rfl ?_
    refine g_alenR d_Mem_store_9 (gXw_h2 hX) ?_
    refine g_icmp_ge (tgt := 32) d_Mem_store_10 (by decide) (fun c4 => ?_) (fun c4 => ?_)
    · rw [if_pos c4] at h
      obtain rfl := Option.some.inj h
      exact g_vret d_Mem_store_32 rfl
    · rw [if_neg c4] at h
      refine g_aload_n d_Mem_store_13 rfl 0 rfl ?_
      refine g_getR d_Mem_store_14 fl_Mem_11 (gXw_h1 hX) rfl ?_
      refine g_iload_n d_Mem_store_17 rfl 1 rfl ?_
      obtain ⟨v1, hv1, h⟩ := gOb h
      have bv1 := (gIn_s hv1).2.2
      have ev1 : gEv ε (2 + v1) := hX.1 (2 + v1) (by omega)
      refine g_aaloadO d_Mem_store_18 (gXw_h2 hX) hv1 ?_
      refine g_ifnull d_Mem_store_19 ?_
      refine g_aload_n d_Mem_store_22 rfl 0 rfl ?_
      refine g_getR d_Mem_store_23 fl_Mem_11 (gXw_h1 hX) rfl ?_
      refine g_iload_n d_Mem_store_26 rfl 1 rfl ?_
      obtain ⟨v2, hv2, h⟩ := gOb h
      have bv2 := (gIn_s hv2).2.2
      have ev2 : gEv ε (2 + v2) := hX.1 (2 + v2) (by omega)
      refine g_aaloadO d_Mem_store_27 (gXw_h2 hX) hv2 ?_
      refine g_aload_n d_Mem_store_28 rfl 2 rfl ?_
      obtain ⟨q3, hq3, h⟩ := gOb h
      refine g_callV_v (As := [.ref (ε.2.2.1 e1 0)]) (rest := []) (ct_Ev_copyFrom (2 + v2) e1 ev2 hE1 M _ hq3) d_Mem_store_29 ca_Ev_copyFrom w_700 (gEv_h0 ev2) rfl rfl rfl (Nat.le_of_ble_eq_true rfl) ⟨(Nat.le_of_ble_eq_true rfl), (Nat.le_of_ble_eq_true rfl)⟩ ?_
      obtain rfl := Option.some.inj h
      exact g_vret d_Mem_store_32 rfl
theorem ct_Mem_store {l : Launch} {ε : gEnv} (hX : gXw ε) (e1 : Nat) (hE1 : gEv ε e1) (M : gMem) (a0 : Int32) (r : gMem) (h : f_Mem_store e1 M a0 = some r) : gCt l ε k_Mem_store 4 93 [.ref (ε.2.2.1 18 1), .int a0, .ref (ε.2.2.1 e1 0)] M none r :=
  gCt_of (by decide) (Nat.le_of_ble_eq_true rfl) rfl (t_Mem_store e1 hX hE1 M a0 r h)
abbrev k_Mem_remember : gMD := (⟨"DropSignals$Memory", "remember", "(LDropSignals$Evening;)V"⟩, prog_5_method_4_code, 2, none)
theorem w_693 : Cond.instanceMethod ⟨"DropSignals$Memory", "remember", "(LDropSignals$Evening;)V"⟩ ∈ gWs := gWs_in (i := 693) (by decide +kernel) rfl
theorem w_694 : Cond.selects "DropSignals$Memory" ⟨"DropSignals$Memory", "remember", "(LDropSignals$Evening;)V"⟩ ⟨"DropSignals$Memory", "remember", "(LDropSignals$Evening;)V"⟩ ∈ gWs := gWs_in (i := 694) (by decide +kernel) rfl
set_option maxRecDepth 100000 in
theorem ca_Mem_remember : gCaV k_Mem_remember 1 := ⟨⟨gWs_in (i := 695) rfl rfl, w_25, by decide, by decide, by decide +kernel⟩, w_693, w_694⟩
theorem d_Mem_remember_0 : decode prog_5_method_4_code 0 = .ok (.aload_n 0, 1) := by decide +kernel
theorem d_Mem_remember_1 : decode prog_5_method_4_code 1 = .ok (.aload_n 0, 1) := by decide +kernel
theorem d_Mem_remember_2 : decode prog_5_method_4_code 2 = .ok (.getfield 22, 3) := by decide +kernel
theorem d_Mem_remember_5 : decode prog_5_method_4_code 5 = .ok (.aload_n 1, 1) := by decide +kernel
theorem d_Mem_remember_6 : decode prog_5_method_4_code 6 = .ok (.invokevirtual 25, 3) := by decide +kernel
theorem d_Mem_remember_9 : decode prog_5_method_4_code 9 = .ok (.aload_n 0, 1) := by decide +kernel
theorem d_Mem_remember_10 : decode prog_5_method_4_code 10 = .ok (.aload_n 0, 1) := by decide +kernel
theorem d_Mem_remember_11 : decode prog_5_method_4_code 11 = .ok (.getfield 22, 3) := by decide +kernel
theorem d_Mem_remember_14 : decode prog_5_method_4_code 14 = .ok (.iconst 1, 1) := by decide +kernel
theorem d_Mem_remember_15 : decode prog_5_method_4_code 15 = .ok (.iadd, 1) := by decide +kernel
theorem d_Mem_remember_16 : decode prog_5_method_4_code 16 = .ok (.bipush 14, 2) := by decide +kernel
theorem d_Mem_remember_18 : decode prog_5_method_4_code 18 = .ok (.irem, 1) := by decide +kernel
theorem d_Mem_remember_19 : decode prog_5_method_4_code 19 = .ok (.putfield 22, 3) := by decide +kernel
theorem d_Mem_remember_22 : decode prog_5_method_4_code 22 = .ok (.aload_n 0, 1) := by decide +kernel
theorem d_Mem_remember_23 : decode prog_5_method_4_code 23 = .ok (.aload_n 0, 1) := by decide +kernel
theorem d_Mem_remember_24 : decode prog_5_method_4_code 24 = .ok (.getfield 18, 3) := by decide +kernel
theorem d_Mem_remember_27 : decode prog_5_method_4_code 27 = .ok (.iconst 1, 1) := by decide +kernel
theorem d_Mem_remember_28 : decode prog_5_method_4_code 28 = .ok (.iadd, 1) := by decide +kernel
theorem d_Mem_remember_29 : decode prog_5_method_4_code 29 = .ok (.bipush 14, 2) := by decide +kernel
theorem d_Mem_remember_31 : decode prog_5_method_4_code 31 = .ok (.invokestatic 29, 3) := by decide +kernel
theorem d_Mem_remember_34 : decode prog_5_method_4_code 34 = .ok (.putfield 18, 3) := by decide +kernel
theorem d_Mem_remember_37 : decode prog_5_method_4_code 37 = .ok (.return_, 1) := by decide +kernel
theorem w_185 : Cond.fieldLink "DropSignals$Memory" 22 "DropSignals$Memory" "next" "I" ∈ gWs := gWs_in (i := 185) (by decide +kernel) rfl
theorem fl_Mem_22 : gFl "DropSignals$Memory" 22 3 1 := ⟨gN3, gF3, 3, rfl, uw_3, by decide, w_185⟩
theorem w_696 : Cond.methodLink "DropSignals$Memory" 25 ⟨"DropSignals$Memory", "store", "(ILDropSignals$Evening;)V"⟩ ∈ gWs := gWs_in (i := 696) (by decide +kernel) rfl
theorem fp_Mem_22 : gFp "DropSignals$Memory" 22 3 1 .int := ⟨gN3, gF3, 3, rfl, uw_3, by decide, w_185, ⟨gX3, gY3⟩, gD3, rfl, by decide +kernel⟩
theorem w_723 : Cond.methodLink "DropSignals$Memory" 29 Lib.Math.min.name ∈ gWs := gWs_in (i := 723) (by decide +kernel) rfl
noncomputable def f_Mem_remember (e0 : Nat) (M : gMem) : Option gMem :=
  (f_Mem_store e0 M (M 18 1 1)).bind fun q1 =>
  (gSO q1 18 1 1 (gRem ((q1 18 1 1) + 1) 14)).bind fun M2 =>
  (gSO M2 18 1 2 (if 14 < ((M2 18 1 2) + 1) then 14 else ((M2 18 1 2) + 1))).bind fun M3 =>
  some M3
theorem t_Mem_remember {l : Launch} {ε : gEnv} (e0 : Nat) (hX : gXw ε) (hE0 : gEv ε e0) (M : gMem) (r : gMem) (h : f_Mem_remember e0 M = some r) : gGo l ε k_Mem_remember (gR 5 115) (gFn ε none r) 0 [(0, .ref (ε.2.2.1 18 1)), (1, .ref (ε.2.2.1 e0 0))] [] M := by
  unfold f_Mem_remember at h
  refine g_aload_n d_Mem_remember_0 rfl 0 rfl ?_
  refine g_aload_n d_Mem_remember_1 rfl 0 rfl ?_
  refine g_getI d_Mem_remember_2 fl_Mem_22 (gXw_h1 hX) rfl ?_
  refine g_aload_n d_Mem_remember_5 rfl 1 rfl ?_
  obtain ⟨q1, hq1, h⟩ := gOb h
  refine g_callV_v (As := [.int (M 18 1 1), .ref (ε.2.2.1 e0 0)]) (rest := []) (ct_Mem_store hX e0 hE0 M (M 18 1 1) _ hq1) d_Mem_remember_6 ca_Mem_store w_696 (gXw_h1 hX) rfl rfl rfl (Nat.le_of_ble_eq_true rfl) ⟨(Nat.le_of_ble_eq_true rfl), (Nat.le_of_ble_eq_true rfl)⟩ ?_
  refine g_aload_n d_Mem_remember_9 rfl 0 rfl ?_
  refine g_aload_n d_Mem_remember_10 rfl 0 rfl ?_
  refine g_getI d_Mem_remember_11 fl_Mem_22 (gXw_h1 hX) rfl ?_
  refine g_iconst (v := 1) d_Mem_remember_14 (by decide) ?_
  refine g_iadd d_Mem_remember_15 ?_
  refine g_bipush (v := 14) d_Mem_remember_16 (by decide) ?_
  refine g_rem d_Mem_remember_18 (by decide) ?_
  obtain ⟨M2, hM2, h⟩ := gOb h
  refine g_putO d_Mem_remember_19 fp_Mem_22 (gXw_h1 hX) rfl hM2 ?_
  refine g_aload_n d_Mem_remember_22 rfl 0 rfl ?_
  refine g_aload_n d_Mem_remember_23 rfl 0 rfl ?_
  refine g_getI d_Mem_remember_24 fl_Mem_18 (gXw_h1 hX) rfl ?_
  refine g_iconst (v := 1) d_Mem_remember_27 (by decide) ?_
  refine g_iadd d_Mem_remember_28 ?_
  refine g_bipush (v := 14) d_Mem_remember_29 (by decide) ?_
  refine g_min d_Mem_remember_31 w_723 w_712 w_36 w_713 (Nat.le_of_ble_eq_true rfl) (Nat.le_of_ble_eq_true rfl) ?_
  obtain ⟨M3, hM3, h⟩ := gOb h
  refine g_putO d_Mem_remember_34 fp_Mem_18 (gXw_h1 hX) rfl hM3 ?_
  obtain rfl := Option.some.inj h
  exact g_vret d_Mem_remember_37 rfl
theorem ct_Mem_remember {l : Launch} {ε : gEnv} (hX : gXw ε) (e0 : Nat) (hE0 : gEv ε e0) (M : gMem) (r : gMem) (h : f_Mem_remember e0 M = some r) : gCt l ε k_Mem_remember 5 115 [.ref (ε.2.2.1 18 1), .ref (ε.2.2.1 e0 0)] M none r :=
  gCt_of (by decide) (Nat.le_of_ble_eq_true rfl) rfl (t_Mem_remember e0 hX hE0 M r h)
abbrev k_Mem_takeBack : gMD := (⟨"DropSignals$Memory", "takeBack", "(LDropSignals$Evening;)I"⟩, prog_5_method_6_code, 2, (some .int))
theorem w_761 : Cond.instanceMethod ⟨"DropSignals$Memory", "takeBack", "(LDropSignals$Evening;)I"⟩ ∈ gWs := gWs_in (i := 761) (by decide +kernel) rfl
theorem w_762 : Cond.selects "DropSignals$Memory" ⟨"DropSignals$Memory", "takeBack", "(LDropSignals$Evening;)I"⟩ ⟨"DropSignals$Memory", "takeBack", "(LDropSignals$Evening;)I"⟩ ∈ gWs := gWs_in (i := 762) (by decide +kernel) rfl
set_option maxRecDepth 100000 in
theorem ca_Mem_takeBack : gCaV k_Mem_takeBack 1 := ⟨⟨gWs_in (i := 763) rfl rfl, w_25, by decide, by decide, by decide +kernel⟩, w_761, w_762⟩
theorem d_Mem_takeBack_0 : decode prog_5_method_6_code 0 = .ok (.aload_n 0, 1) := by decide +kernel
theorem d_Mem_takeBack_1 : decode prog_5_method_6_code 1 = .ok (.aload_n 0, 1) := by decide +kernel
theorem d_Mem_takeBack_2 : decode prog_5_method_6_code 2 = .ok (.getfield 22, 3) := by decide +kernel
theorem d_Mem_takeBack_5 : decode prog_5_method_6_code 5 = .ok (.bipush 14, 2) := by decide +kernel
theorem d_Mem_takeBack_7 : decode prog_5_method_6_code 7 = .ok (.iadd, 1) := by decide +kernel
theorem d_Mem_takeBack_8 : decode prog_5_method_6_code 8 = .ok (.iconst 1, 1) := by decide +kernel
theorem d_Mem_takeBack_9 : decode prog_5_method_6_code 9 = .ok (.isub, 1) := by decide +kernel
theorem d_Mem_takeBack_10 : decode prog_5_method_6_code 10 = .ok (.bipush 14, 2) := by decide +kernel
theorem d_Mem_takeBack_12 : decode prog_5_method_6_code 12 = .ok (.irem, 1) := by decide +kernel
theorem d_Mem_takeBack_13 : decode prog_5_method_6_code 13 = .ok (.putfield 22, 3) := by decide +kernel
theorem d_Mem_takeBack_16 : decode prog_5_method_6_code 16 = .ok (.aload_n 0, 1) := by decide +kernel
theorem d_Mem_takeBack_17 : decode prog_5_method_6_code 17 = .ok (.dup, 1) := by decide +kernel
theorem d_Mem_takeBack_18 : decode prog_5_method_6_code 18 = .ok (.getfield 18, 3) := by decide +kernel
theorem d_Mem_takeBack_21 : decode prog_5_method_6_code 21 = .ok (.iconst 1, 1) := by decide +kernel
theorem d_Mem_takeBack_22 : decode prog_5_method_6_code 22 = .ok (.isub, 1) := by decide +kernel
theorem d_Mem_takeBack_23 : decode prog_5_method_6_code 23 = .ok (.putfield 18, 3) := by decide +kernel
theorem d_Mem_takeBack_26 : decode prog_5_method_6_code 26 = .ok (.aload_n 0, 1) := by decide +kernel
theorem d_Mem_takeBack_27 : decode prog_5_method_6_code 27 = .ok (.getfield 22, 3) := by decide +kernel
theorem d_Mem_takeBack_30 : decode prog_5_method_6_code 30 = .ok (.ifCond .lt 40, 3) := by decide +kernel
theorem d_Mem_takeBack_33 : decode prog_5_method_6_code 33 = .ok (.aload_n 0, 1) := by decide +kernel
theorem d_Mem_takeBack_34 : decode prog_5_method_6_code 34 = .ok (.getfield 22, 3) := by decide +kernel
theorem d_Mem_takeBack_37 : decode prog_5_method_6_code 37 = .ok (.aload_n 0, 1) := by decide +kernel
theorem d_Mem_takeBack_38 : decode prog_5_method_6_code 38 = .ok (.getfield 11, 3) := by decide +kernel
theorem d_Mem_takeBack_41 : decode prog_5_method_6_code 41 = .ok (.arraylength, 1) := by decide +kernel
theorem d_Mem_takeBack_42 : decode prog_5_method_6_code 42 = .ok (.if_icmp .ge 28, 3) := by decide +kernel
theorem d_Mem_takeBack_45 : decode prog_5_method_6_code 45 = .ok (.aload_n 0, 1) := by decide +kernel
theorem d_Mem_takeBack_46 : decode prog_5_method_6_code 46 = .ok (.getfield 11, 3) := by decide +kernel
theorem d_Mem_takeBack_49 : decode prog_5_method_6_code 49 = .ok (.aload_n 0, 1) := by decide +kernel
theorem d_Mem_takeBack_50 : decode prog_5_method_6_code 50 = .ok (.getfield 22, 3) := by decide +kernel
theorem d_Mem_takeBack_53 : decode prog_5_method_6_code 53 = .ok (.aaload, 1) := by decide +kernel
theorem d_Mem_takeBack_54 : decode prog_5_method_6_code 54 = .ok (.ifnull 16, 3) := by decide +kernel
theorem d_Mem_takeBack_57 : decode prog_5_method_6_code 57 = .ok (.aload_n 1, 1) := by decide +kernel
theorem d_Mem_takeBack_58 : decode prog_5_method_6_code 58 = .ok (.aload_n 0, 1) := by decide +kernel
theorem d_Mem_takeBack_59 : decode prog_5_method_6_code 59 = .ok (.getfield 11, 3) := by decide +kernel
theorem d_Mem_takeBack_62 : decode prog_5_method_6_code 62 = .ok (.aload_n 0, 1) := by decide +kernel
theorem d_Mem_takeBack_63 : decode prog_5_method_6_code 63 = .ok (.getfield 22, 3) := by decide +kernel
theorem d_Mem_takeBack_66 : decode prog_5_method_6_code 66 = .ok (.aaload, 1) := by decide +kernel
theorem d_Mem_takeBack_67 : decode prog_5_method_6_code 67 = .ok (.invokevirtual 35, 3) := by decide +kernel
theorem d_Mem_takeBack_70 : decode prog_5_method_6_code 70 = .ok (.aload_n 0, 1) := by decide +kernel
theorem d_Mem_takeBack_71 : decode prog_5_method_6_code 71 = .ok (.getfield 18, 3) := by decide +kernel
theorem d_Mem_takeBack_74 : decode prog_5_method_6_code 74 = .ok (.ireturn, 1) := by decide +kernel
noncomputable def f_Mem_takeBack_b70 (e0 : Nat) (M : gMem) : Option (Int32 × gMem) :=
  some ((M 18 1 2), M)
theorem t_Mem_takeBack_b70 {l : Launch} {ε : gEnv} (e0 : Nat) (hX : gXw ε) (hE0 : gEv ε e0) (M : gMem) (r : (Int32 × gMem)) (h : f_Mem_takeBack_b70 e0 M = some r) : gGo l ε k_Mem_takeBack (gR 4 93) (gFn ε (some (.int r.1)) r.2) 70 [(0, .ref (ε.2.2.1 18 1))] [] M := by
  unfold f_Mem_takeBack_b70 at h
  refine g_aload_n d_Mem_takeBack_70 rfl 0 rfl ?_
  refine g_getI d_Mem_takeBack_71 fl_Mem_18 (gXw_h1 hX) rfl ?_
  obtain rfl := Option.some.inj h
  exact g_iret d_Mem_takeBack_74 rfl
noncomputable def f_Mem_takeBack (e0 : Nat) (M : gMem) : Option (Int32 × gMem) :=
  (gSO M 18 1 1 (gRem (((M 18 1 1) + 14) - 1) 14)).bind fun M1 =>
  (gSO M1 18 1 2 ((M1 18 1 2) - 1)).bind fun M2 =>
  if (M2 18 1 1) < 0 then
    f_Mem_takeBack_b70 e0 M2
  else
    if (Int32.ofNat 14) ≤ (M2 18 1 1) then
      f_Mem_takeBack_b70 e0 M2
    else
      (gIn 14 (M2 18 1 1)).bind fun v3 =>
      (gIn 14 (M2 18 1 1)).bind fun v4 =>
      (f_Ev_copyFrom e0 (2 + v4) M2).bind fun q5 =>
      f_Mem_takeBack_b70 e0 q5
theorem t_Mem_takeBack {l : Launch} {ε : gEnv} (e0 : Nat) (hX : gXw ε) (hE0 : gEv ε e0) (M : gMem) (r : (Int32 × gMem)) (h : f_Mem_takeBack e0 M = some r) : gGo l ε k_Mem_takeBack (gR 4 93) (gFn ε (some (.int r.1)) r.2) 0 [(0, .ref (ε.2.2.1 18 1)), (1, .ref (ε.2.2.1 e0 0))] [] M := by
  unfold f_Mem_takeBack at h
  refine g_aload_n d_Mem_takeBack_0 rfl 0 rfl ?_
  refine g_aload_n d_Mem_takeBack_1 rfl 0 rfl ?_
  refine g_getI d_Mem_takeBack_2 fl_Mem_22 (gXw_h1 hX) rfl ?_
  refine g_bipush (v := 14) d_Mem_takeBack_5 (by decide) ?_
  refine g_iadd d_Mem_takeBack_7 ?_
  refine g_iconst (v := 1) d_Mem_takeBack_8 (by decide) ?_
  refine g_isub d_Mem_takeBack_9 ?_
  refine g_bipush (v := 14) d_Mem_takeBack_10 (by decide) ?_
  refine g_rem d_Mem_takeBack_12 (by decide) ?_
  obtain ⟨M1, hM1, h⟩ := gOb h
  refine g_putO d_Mem_takeBack_13 fp_Mem_22 (gXw_h1 hX) rfl hM1 ?_
  refine g_aload_n d_Mem_takeBack_16 rfl 0 rfl ?_
  refine g_dup d_Mem_takeBack_17 rfl ?_
  refine g_getI d_Mem_takeBack_18 fl_Mem_18 (gXw_h1 hX) rfl ?_
  refine g_iconst (v := 1) d_Mem_takeBack_21 (by decide) ?_
  refine g_isub d_Mem_takeBack_22 ?_
  obtain ⟨M2, hM2, h⟩ := gOb h
  refine g_putO d_Mem_takeBack_23 fp_Mem_18 (gXw_h1 hX) rfl hM2 ?_
  refine g_aload_n d_Mem_takeBack_26 rfl 0 rfl ?_
  refine g_getI d_Mem_takeBack_27 fl_Mem_22 (gXw_h1 hX) rfl ?_
  refine g_if_lt (tgt := 70) d_Mem_takeBack_30 (by decide) (fun c7 => ?_) (fun c7 => ?_)
  · rw [if_pos c7] at h
    refine gGo_sub [0] rfl ?_
    exact t_Mem_takeBack_b70 e0 hX hE0 M2 _ h
  · rw [if_neg c7] at h
    refine g_aload_n d_Mem_takeBack_33 rfl 0 rfl ?_
    refine g_getI d_Mem_takeBack_34 fl_Mem_22 (gXw_h1 hX) rfl ?_
    refine g_aload_n d_Mem_takeBack_37 rfl 0 rfl ?_
    refine g_getR d_Mem_takeBack_38 fl_Mem_11 (gXw_h1 hX) rfl ?_
    refine g_alenR d_Mem_takeBack_41 (gXw_h2 hX) ?_
    refine g_icmp_ge (tgt := 70) d_Mem_takeBack_42 (by decide) (fun c6 => ?_) (fun c6 => ?_)
    · rw [if_pos c6] at h
      refine gGo_sub [0] rfl ?_
      exact t_Mem_takeBack_b70 e0 hX hE0 M2 _ h
    · rw [if_neg c6] at h
      refine g_aload_n d_Mem_takeBack_45 rfl 0 rfl ?_
      refine g_getR d_Mem_takeBack_46 fl_Mem_11 (gXw_h1 hX) rfl ?_
      refine g_aload_n d_Mem_takeBack_49 rfl 0 rfl ?_
      refine g_getI d_Mem_takeBack_50 fl_Mem_22 (gXw_h1 hX) rfl ?_
      obtain ⟨v3, hv3, h⟩ := gOb h
      have bv3 := (gIn_s hv3).2.2
      have ev3 : gEv ε (2 + v3) := hX.1 (2 + v3) (by omega)
      refine g_aaloadO d_Mem_takeBack_53 (gXw_h2 hX) hv3 ?_
      refine g_ifnull d_Mem_takeBack_54 ?_
      refine g_aload_n d_Mem_takeBack_57 rfl 1 rfl ?_
      refine g_aload_n d_Mem_takeBack_58 rfl 0 rfl ?_
      refine g_getR d_Mem_takeBack_59 fl_Mem_11 (gXw_h1 hX) rfl ?_
      refine g_aload_n d_Mem_takeBack_62 rfl 0 rfl ?_
      refine g_getI d_Mem_takeBack_63 fl_Mem_22 (gXw_h1 hX) rfl ?_
      obtain ⟨v4, hv4, h⟩ := gOb h
      have bv4 := (gIn_s hv4).2.2
      have ev4 : gEv ε (2 + v4) := hX.1 (2 + v4) (by omega)
      refine g_aaloadO d_Mem_takeBack_66 (gXw_h2 hX) hv4 ?_
      obtain ⟨q5, hq5, h⟩ := gOb h
      refine g_callV_v (As := [.ref (ε.2.2.1 (2 + v4) 0)]) (rest := []) (ct_Ev_copyFrom e0 (2 + v4) hE0 ev4 M2 _ hq5) d_Mem_takeBack_67 ca_Ev_copyFrom w_700 (gEv_h0 hE0) rfl rfl rfl (Nat.le_of_ble_eq_true rfl) ⟨(Nat.le_of_ble_eq_true rfl), (Nat.le_of_ble_eq_true rfl)⟩ ?_
      refine gGo_sub [0] rfl ?_
      exact t_Mem_takeBack_b70 e0 hX hE0 q5 _ h
theorem ct_Mem_takeBack {l : Launch} {ε : gEnv} (hX : gXw ε) (e0 : Nat) (hE0 : gEv ε e0) (M : gMem) (r : (Int32 × gMem)) (h : f_Mem_takeBack e0 M = some r) : gCt l ε k_Mem_takeBack 4 93 [.ref (ε.2.2.1 18 1), .ref (ε.2.2.1 e0 0)] M (some (.int r.1)) r.2 :=
  gCt_of (by decide) (Nat.le_of_ble_eq_true rfl) rfl (t_Mem_takeBack e0 hX hE0 M r h)
abbrev k_Open_takeHand : gMD := (⟨"DropSignals$OpenCards", "takeHand", "(LDropSignals$Cards;I)I"⟩, prog_6_method_3_code, 5, (some .int))
theorem w_28 : Cond.initialized "DropSignals$OpenCards" ∈ gWs := gWs_in (i := 28) (by decide +kernel) rfl
theorem w_808 : Cond.instanceMethod ⟨"DropSignals$OpenCards", "takeHand", "(LDropSignals$Cards;I)I"⟩ ∈ gWs := gWs_in (i := 808) (by decide +kernel) rfl
theorem w_15 : Cond.selects "DropSignals$OpenCards" ⟨"DropSignals$OpenCards", "takeHand", "(LDropSignals$Cards;I)I"⟩ ⟨"DropSignals$OpenCards", "takeHand", "(LDropSignals$Cards;I)I"⟩ ∈ gWs := gWs_in (i := 15) (by decide +kernel) rfl
set_option maxRecDepth 100000 in
theorem ca_Open_takeHand : gCaV k_Open_takeHand 2 := ⟨⟨gWs_in (i := 809) rfl rfl, w_28, by decide, by decide, by decide +kernel⟩, w_808, w_15⟩
theorem d_Open_takeHand_0 : decode prog_6_method_3_code 0 = .ok (.iconst 0, 1) := by decide +kernel
theorem d_Open_takeHand_1 : decode prog_6_method_3_code 1 = .ok (.istore_n 3, 1) := by decide +kernel
theorem d_Open_takeHand_2 : decode prog_6_method_3_code 2 = .ok (.iconst 0, 1) := by decide +kernel
theorem d_Open_takeHand_3 : decode prog_6_method_3_code 3 = .ok (.istore 4, 2) := by decide +kernel
theorem d_Open_takeHand_5 : decode prog_6_method_3_code 5 = .ok (.iload 4, 2) := by decide +kernel
theorem d_Open_takeHand_7 : decode prog_6_method_3_code 7 = .ok (.bipush 32, 2) := by decide +kernel
theorem d_Open_takeHand_9 : decode prog_6_method_3_code 9 = .ok (.if_icmp .ge 41, 3) := by decide +kernel
theorem d_Open_takeHand_12 : decode prog_6_method_3_code 12 = .ok (.iload_n 3, 1) := by decide +kernel
theorem d_Open_takeHand_13 : decode prog_6_method_3_code 13 = .ok (.iconst 3, 1) := by decide +kernel
theorem d_Open_takeHand_14 : decode prog_6_method_3_code 14 = .ok (.if_icmp .ge 30, 3) := by decide +kernel
theorem d_Open_takeHand_17 : decode prog_6_method_3_code 17 = .ok (.aload_n 1, 1) := by decide +kernel
theorem d_Open_takeHand_18 : decode prog_6_method_3_code 18 = .ok (.iload 4, 2) := by decide +kernel
theorem d_Open_takeHand_20 : decode prog_6_method_3_code 20 = .ok (.invokevirtual 74, 3) := by decide +kernel
theorem d_Open_takeHand_23 : decode prog_6_method_3_code 23 = .ok (.iload_n 2, 1) := by decide +kernel
theorem d_Open_takeHand_24 : decode prog_6_method_3_code 24 = .ok (.if_icmp .ne 20, 3) := by decide +kernel
theorem d_Open_takeHand_27 : decode prog_6_method_3_code 27 = .ok (.aload_n 0, 1) := by decide +kernel
theorem d_Open_takeHand_28 : decode prog_6_method_3_code 28 = .ok (.getfield 9, 3) := by decide +kernel
theorem d_Open_takeHand_31 : decode prog_6_method_3_code 31 = .ok (.iload_n 2, 1) := by decide +kernel
theorem d_Open_takeHand_32 : decode prog_6_method_3_code 32 = .ok (.iconst 3, 1) := by decide +kernel
theorem d_Open_takeHand_33 : decode prog_6_method_3_code 33 = .ok (.imul, 1) := by decide +kernel
theorem d_Open_takeHand_34 : decode prog_6_method_3_code 34 = .ok (.iload_n 3, 1) := by decide +kernel
theorem d_Open_takeHand_35 : decode prog_6_method_3_code 35 = .ok (.iadd, 1) := by decide +kernel
theorem d_Open_takeHand_36 : decode prog_6_method_3_code 36 = .ok (.iload 4, 2) := by decide +kernel
theorem d_Open_takeHand_38 : decode prog_6_method_3_code 38 = .ok (.invokestatic 47, 3) := by decide +kernel
theorem d_Open_takeHand_41 : decode prog_6_method_3_code 41 = .ok (.iinc 3 1, 3) := by decide +kernel
theorem d_Open_takeHand_44 : decode prog_6_method_3_code 44 = .ok (.iinc 4 1, 3) := by decide +kernel
theorem d_Open_takeHand_47 : decode prog_6_method_3_code 47 = .ok (.goto (-42), 3) := by decide +kernel
theorem d_Open_takeHand_50 : decode prog_6_method_3_code 50 = .ok (.iload_n 3, 1) := by decide +kernel
theorem d_Open_takeHand_51 : decode prog_6_method_3_code 51 = .ok (.ireturn, 1) := by decide +kernel
theorem w_810 : Cond.methodLink "DropSignals$OpenCards" 74 ⟨"DropSignals$Cards", "holder", "(I)I"⟩ ∈ gWs := gWs_in (i := 810) (by decide +kernel) rfl
theorem uw_4 : ∀ w ∈ u_ws gN4 gF4 8, w ∈ gWs := by
  intro w hw
  have h := List.all_eq_true.mp (show (u_ws gN4 gF4 8).all (fun w => decide (w ∈ lw_tbl) && goodWord w) = true by decide +kernel) w hw
  simp only [Bool.and_eq_true, decide_eq_true_eq] at h
  exact List.mem_filter.mpr h
theorem w_229 : Cond.fieldLink "DropSignals$OpenCards" 9 "DropSignals$OpenCards" "hands" "[I" ∈ gWs := gWs_in (i := 229) (by decide +kernel) rfl
theorem fl_Open_9 : gFl "DropSignals$OpenCards" 9 4 0 := ⟨gN4, gF4, 8, rfl, uw_4, by decide, w_229⟩
noncomputable def f_Open_takeHand_b44 (e0 : Nat) (M : gMem) (x2 : Int32) (x3 : Int32) (x4 : Int32) : Option ((Int32 × Int32 × gMem) ⊕ (Int32 × gMem)) :=
  some (.inl (x3, (x4 + 1), M))
theorem t_Open_takeHand_b44 {l : Launch} {ε : gEnv} (e0 : Nat) (hX : gXw ε) (hC0 : gCd ε e0) (M : gMem) (x2 : Int32) (x3 : Int32) (x4 : Int32) (res : ((Int32 × Int32 × gMem) ⊕ (Int32 × gMem))) (h : f_Open_takeHand_b44 e0 M x2 x3 x4 = some res) (r : (Int32 × gMem)) (k1 : ∀ s0 : (Int32 × Int32 × gMem), res = .inl s0 → gGo l ε k_Open_takeHand (gR 1 22) (gFn ε (some (.int r.1)) r.2) 5 [(0, .ref (ε.2.2.1 18 8)), (1, .ref (ε.2.2.1 e0 1)), (2, .int x2), (3, .int s0.1), (4, .int s0.2.1)] [] s0.2.2) (k2 : ∀ r', res = .inr r' → r' = r) : gGo l ε k_Open_takeHand (gR 1 22) (gFn ε (some (.int r.1)) r.2) 44 [(0, .ref (ε.2.2.1 18 8)), (1, .ref (ε.2.2.1 e0 1)), (2, .int x2), (3, .int x3), (4, .int x4)] [] M := by
  unfold f_Open_takeHand_b44 at h
  refine g_iinc (v := (x4 + 1)) (L' := [(4, .int (x4 + 1)), (0, .ref (ε.2.2.1 18 8)), (1, .ref (ε.2.2.1 e0 1)), (2, .int x2), (3, .int x3)]) d_Open_takeHand_44 (j := 4) rfl rfl (by decide) rfl ?_
  refine g_goto (tgt := 5) d_Open_takeHand_47 (by decide) ?_
  refine gGo_sub [1, 2, 3, 4, 0] rfl ?_
  obtain rfl := Option.some.inj h
  exact k1 (x3, (x4 + 1), M) rfl
noncomputable def f_Open_takeHand_s5 (e0 : Nat) (M : gMem) (x2 : Int32) (x3 : Int32) (x4 : Int32) : Option ((Int32 × Int32 × gMem) ⊕ (Int32 × gMem)) :=
  if 32 ≤ x4 then
    some (.inr (x3, M))
  else
    if 3 ≤ x3 then
      f_Open_takeHand_b44 e0 M x2 x3 x4
    else
      (f_Cards_holder e0 M x4).bind fun q1 =>
      if q1 = x2 then
        (f_DS_put 18 9 12 M ((x2 * 3) + x3) x4).bind fun q2 =>
        f_Open_takeHand_b44 e0 q2 x2 (x3 + 1) x4
      else
        f_Open_takeHand_b44 e0 M x2 x3 x4
theorem t_Open_takeHand_s5 {l : Launch} {ε : gEnv} (e0 : Nat) (hX : gXw ε) (hC0 : gCd ε e0) (M : gMem) (x2 : Int32) (x3 : Int32) (x4 : Int32) (res : ((Int32 × Int32 × gMem) ⊕ (Int32 × gMem))) (h : f_Open_takeHand_s5 e0 M x2 x3 x4 = some res) (r : (Int32 × gMem)) (k1 : ∀ s0 : (Int32 × Int32 × gMem), res = .inl s0 → gGo l ε k_Open_takeHand (gR 1 22) (gFn ε (some (.int r.1)) r.2) 5 [(0, .ref (ε.2.2.1 18 8)), (1, .ref (ε.2.2.1 e0 1)), (2, .int x2), (3, .int s0.1), (4, .int s0.2.1)] [] s0.2.2) (k2 : ∀ r', res = .inr r' → r' = r) : gGo l ε k_Open_takeHand (gR 1 22) (gFn ε (some (.int r.1)) r.2) 5 [(0, .ref (ε.2.2.1 18 8)), (1, .ref (ε.2.2.1 e0 1)), (2, .int x2), (3, .int x3), (4, .int x4)] [] M := by
  unfold f_Open_takeHand_s5 at h
  refine g_iload d_Open_takeHand_5 4 rfl ?_
  refine g_bipush (v := 32) d_Open_takeHand_7 (by decide) ?_
  refine g_icmp_ge (tgt := 50) d_Open_takeHand_9 (by decide) (fun c5 => ?_) (fun c5 => ?_)
  · rw [if_pos c5] at h
    refine g_iload_n d_Open_takeHand_50 rfl 3 rfl ?_
    obtain rfl := Option.some.inj h
    have e9 := k2 _ rfl
    subst e9
    exact g_iret d_Open_takeHand_51 rfl
  · rw [if_neg c5] at h
    refine g_iload_n d_Open_takeHand_12 rfl 3 rfl ?_
    refine g_iconst (v := 3) d_Open_takeHand_13 (by decide) ?_
    refine g_icmp_ge (tgt := 44) d_Open_takeHand_14 (by decide) (fun c4 => ?_) (fun c4 => ?_)
    · rw [if_pos c4] at h
      exact t_Open_takeHand_b44 e0 hX hC0 M x2 x3 x4 _ h r k1 k2
    · rw [if_neg c4] at h
      refine g_aload_n d_Open_takeHand_17 rfl 1 rfl ?_
      refine g_iload d_Open_takeHand_18 4 rfl ?_
      obtain ⟨q1, hq1, h⟩ := gOb h
      refine g_callV_i (As := [.int x4]) (rest := []) (ct_Cards_holder e0 hC0 M x4 _ hq1) d_Open_takeHand_20 ca_Cards_holder w_810 (gCd_h1 hC0) rfl rfl rfl (Nat.le_of_ble_eq_true rfl) ⟨(Nat.le_of_ble_eq_true rfl), (Nat.le_of_ble_eq_true rfl)⟩ ?_
      refine g_iload_n d_Open_takeHand_23 rfl 2 rfl ?_
      refine g_icmp_ne (tgt := 44) d_Open_takeHand_24 (by decide) (fun c3 => ?_) (fun c3 => ?_)
      · rw [if_neg c3] at h
        exact t_Open_takeHand_b44 e0 hX hC0 M x2 x3 x4 _ h r k1 k2
      · rw [if_pos c3] at h
        refine g_aload_n d_Open_takeHand_27 rfl 0 rfl ?_
        refine g_getR d_Open_takeHand_28 fl_Open_9 (gXw_h8 hX) rfl ?_
        refine g_iload_n d_Open_takeHand_31 rfl 2 rfl ?_
        refine g_iconst (v := 3) d_Open_takeHand_32 (by decide) ?_
        refine g_imul d_Open_takeHand_33 ?_
        refine g_iload_n d_Open_takeHand_34 rfl 3 rfl ?_
        refine g_iadd d_Open_takeHand_35 ?_
        refine g_iload d_Open_takeHand_36 4 rfl ?_
        obtain ⟨q2, hq2, h⟩ := gOb h
        refine g_callN_v (As := [.ref (ε.2.2.1 18 9), .int ((x2 * 3) + x3), .int x4]) (rest := []) (j := 805) (host := "DropSignals") (ct_DS_put 18 9 12 (gXw_h9 hX) M ((x2 * 3) + x3) x4 _ hq2) d_Open_takeHand_38 ca_DS_put (by decide +kernel) rfl rfl (Nat.le_of_ble_eq_true rfl) ⟨(Nat.le_of_ble_eq_true rfl), (Nat.le_of_ble_eq_true rfl)⟩ ?_
        refine g_iinc (v := (x3 + 1)) (L' := [(3, .int (x3 + 1)), (0, .ref (ε.2.2.1 18 8)), (1, .ref (ε.2.2.1 e0 1)), (2, .int x2), (4, .int x4)]) d_Open_takeHand_41 (j := 3) rfl rfl (by decide) rfl ?_
        refine gGo_sub [1, 2, 3, 0, 4] rfl ?_
        exact t_Open_takeHand_b44 e0 hX hC0 q2 x2 (x3 + 1) x4 _ h r k1 k2
noncomputable def f_Open_takeHand_l5 (e0 : Nat) (x2 : Int32) (s : (Int32 × Int32 × gMem)) : Option (Int32 × gMem) := gLp (fun s => f_Open_takeHand_s5 e0 s.2.2 x2 s.1 s.2.1) s
theorem t_Open_takeHand_l5 {l : Launch} {ε : gEnv} (e0 : Nat) (hX : gXw ε) (hC0 : gCd ε e0) (x2 : Int32) (s : (Int32 × Int32 × gMem)) (r : (Int32 × gMem)) (h : f_Open_takeHand_l5 e0 x2 s = some r) : gGo l ε k_Open_takeHand (gR 1 22) (gFn ε (some (.int r.1)) r.2) 5 [(0, .ref (ε.2.2.1 18 8)), (1, .ref (ε.2.2.1 e0 1)), (2, .int x2), (3, .int s.1), (4, .int s.2.1)] [] s.2.2 :=
  g_loop _ (fun r s => gGo l ε k_Open_takeHand (gR 1 22) (gFn ε (some (.int r.1)) r.2) 5 [(0, .ref (ε.2.2.1 18 8)), (1, .ref (ε.2.2.1 e0 1)), (2, .int x2), (3, .int s.1), (4, .int s.2.1)] [] s.2.2) (fun s res h r k1 k2 => t_Open_takeHand_s5 e0 hX hC0 s.2.2 x2 s.1 s.2.1 res h r k1 k2) s r h
noncomputable def f_Open_takeHand (e0 : Nat) (M : gMem) (a1 : Int32) : Option (Int32 × gMem) :=
  f_Open_takeHand_l5 e0 a1 (0, 0, M)
theorem t_Open_takeHand {l : Launch} {ε : gEnv} (e0 : Nat) (hX : gXw ε) (hC0 : gCd ε e0) (M : gMem) (a1 : Int32) (r : (Int32 × gMem)) (h : f_Open_takeHand e0 M a1 = some r) : gGo l ε k_Open_takeHand (gR 1 22) (gFn ε (some (.int r.1)) r.2) 0 [(0, .ref (ε.2.2.1 18 8)), (1, .ref (ε.2.2.1 e0 1)), (2, .int a1)] [] M := by
  unfold f_Open_takeHand at h
  refine g_iconst (v := 0) d_Open_takeHand_0 (by decide) ?_
  refine g_istore_n (L' := [(3, .int 0), (0, .ref (ε.2.2.1 18 8)), (1, .ref (ε.2.2.1 e0 1)), (2, .int a1)]) d_Open_takeHand_1 rfl (by decide) rfl ?_
  refine g_iconst (v := 0) d_Open_takeHand_2 (by decide) ?_
  refine g_istore (L' := [(4, .int 0), (3, .int 0), (0, .ref (ε.2.2.1 18 8)), (1, .ref (ε.2.2.1 e0 1)), (2, .int a1)]) d_Open_takeHand_3 (by decide) rfl ?_
  refine gGo_sub [2, 3, 4, 1, 0] rfl ?_
  exact t_Open_takeHand_l5 e0 hX hC0 a1 (0, 0, M) _ h
theorem ct_Open_takeHand {l : Launch} {ε : gEnv} (hX : gXw ε) (e0 : Nat) (hC0 : gCd ε e0) (M : gMem) (a1 : Int32) (r : (Int32 × gMem)) (h : f_Open_takeHand e0 M a1 = some r) : gCt l ε k_Open_takeHand 1 22 [.ref (ε.2.2.1 18 8), .ref (ε.2.2.1 e0 1), .int a1] M (some (.int r.1)) r.2 :=
  gCt_of (by decide) (Nat.le_of_ble_eq_true rfl) rfl (t_Open_takeHand e0 hX hC0 M a1 r h)
abbrev k_Open_take : gMD := (⟨"DropSignals$OpenCards", "take", "(LDropSignals$Evening;Z)V"⟩, prog_6_method_2_code, 4, none)
theorem w_799 : Cond.instanceMethod ⟨"DropSignals$OpenCards", "take", "(LDropSignals$Evening;Z)V"⟩ ∈ gWs := gWs_in (i := 799) (by decide +kernel) rfl
theorem w_800 : Cond.selects "DropSignals$OpenCards" ⟨"DropSignals$OpenCards", "take", "(LDropSignals$Evening;Z)V"⟩ ⟨"DropSignals$OpenCards", "take", "(LDropSignals$Evening;Z)V"⟩ ∈ gWs := gWs_in (i := 800) (by decide +kernel) rfl
set_option maxRecDepth 100000 in
theorem ca_Open_take : gCaV k_Open_take 2 := ⟨⟨gWs_in (i := 801) rfl rfl, w_28, by decide, by decide, by decide +kernel⟩, w_799, w_800⟩
theorem d_Open_take_0 : decode prog_6_method_2_code 0 = .ok (.aload_n 0, 1) := by decide +kernel
theorem d_Open_take_1 : decode prog_6_method_2_code 1 = .ok (.getfield 9, 3) := by decide +kernel
theorem d_Open_take_4 : decode prog_6_method_2_code 4 = .ok (.iconst (-1), 1) := by decide +kernel
theorem d_Open_take_5 : decode prog_6_method_2_code 5 = .ok (.invokestatic 18, 3) := by decide +kernel
theorem d_Open_take_8 : decode prog_6_method_2_code 8 = .ok (.aload_n 0, 1) := by decide +kernel
theorem d_Open_take_9 : decode prog_6_method_2_code 9 = .ok (.getfield 15, 3) := by decide +kernel
theorem d_Open_take_12 : decode prog_6_method_2_code 12 = .ok (.iconst (-1), 1) := by decide +kernel
theorem d_Open_take_13 : decode prog_6_method_2_code 13 = .ok (.invokestatic 18, 3) := by decide +kernel
theorem d_Open_take_16 : decode prog_6_method_2_code 16 = .ok (.aload_n 0, 1) := by decide +kernel
theorem d_Open_take_17 : decode prog_6_method_2_code 17 = .ok (.aload_n 1, 1) := by decide +kernel
theorem d_Open_take_18 : decode prog_6_method_2_code 18 = .ok (.getfield 24, 3) := by decide +kernel
theorem d_Open_take_21 : decode prog_6_method_2_code 21 = .ok (.invokevirtual 30, 3) := by decide +kernel
theorem d_Open_take_24 : decode prog_6_method_2_code 24 = .ok (.putfield 36, 3) := by decide +kernel
theorem d_Open_take_27 : decode prog_6_method_2_code 27 = .ok (.aload_n 0, 1) := by decide +kernel
theorem d_Open_take_28 : decode prog_6_method_2_code 28 = .ok (.aload_n 0, 1) := by decide +kernel
theorem d_Open_take_29 : decode prog_6_method_2_code 29 = .ok (.getfield 36, 3) := by decide +kernel
theorem d_Open_take_32 : decode prog_6_method_2_code 32 = .ok (.putfield 40, 3) := by decide +kernel
theorem d_Open_take_35 : decode prog_6_method_2_code 35 = .ok (.iconst 0, 1) := by decide +kernel
theorem d_Open_take_36 : decode prog_6_method_2_code 36 = .ok (.istore_n 3, 1) := by decide +kernel
theorem d_Open_take_37 : decode prog_6_method_2_code 37 = .ok (.iload_n 3, 1) := by decide +kernel
theorem d_Open_take_38 : decode prog_6_method_2_code 38 = .ok (.aload_n 0, 1) := by decide +kernel
theorem d_Open_take_39 : decode prog_6_method_2_code 39 = .ok (.getfield 36, 3) := by decide +kernel
theorem d_Open_take_42 : decode prog_6_method_2_code 42 = .ok (.if_icmp .ge 25, 3) := by decide +kernel
theorem d_Open_take_45 : decode prog_6_method_2_code 45 = .ok (.aload_n 0, 1) := by decide +kernel
theorem d_Open_take_46 : decode prog_6_method_2_code 46 = .ok (.getfield 15, 3) := by decide +kernel
theorem d_Open_take_49 : decode prog_6_method_2_code 49 = .ok (.iload_n 3, 1) := by decide +kernel
theorem d_Open_take_50 : decode prog_6_method_2_code 50 = .ok (.aload_n 1, 1) := by decide +kernel
theorem d_Open_take_51 : decode prog_6_method_2_code 51 = .ok (.getfield 24, 3) := by decide +kernel
theorem d_Open_take_54 : decode prog_6_method_2_code 54 = .ok (.iload_n 3, 1) := by decide +kernel
theorem d_Open_take_55 : decode prog_6_method_2_code 55 = .ok (.invokevirtual 43, 3) := by decide +kernel
theorem d_Open_take_58 : decode prog_6_method_2_code 58 = .ok (.invokestatic 47, 3) := by decide +kernel
theorem d_Open_take_61 : decode prog_6_method_2_code 61 = .ok (.iinc 3 1, 3) := by decide +kernel
theorem d_Open_take_64 : decode prog_6_method_2_code 64 = .ok (.goto (-27), 3) := by decide +kernel
theorem d_Open_take_67 : decode prog_6_method_2_code 67 = .ok (.iconst 0, 1) := by decide +kernel
theorem d_Open_take_68 : decode prog_6_method_2_code 68 = .ok (.istore_n 3, 1) := by decide +kernel
theorem d_Open_take_69 : decode prog_6_method_2_code 69 = .ok (.iload_n 3, 1) := by decide +kernel
theorem d_Open_take_70 : decode prog_6_method_2_code 70 = .ok (.iconst 4, 1) := by decide +kernel
theorem d_Open_take_71 : decode prog_6_method_2_code 71 = .ok (.if_icmp .ge 27, 3) := by decide +kernel
theorem d_Open_take_74 : decode prog_6_method_2_code 74 = .ok (.aload_n 0, 1) := by decide +kernel
theorem d_Open_take_75 : decode prog_6_method_2_code 75 = .ok (.dup, 1) := by decide +kernel
theorem d_Open_take_76 : decode prog_6_method_2_code 76 = .ok (.getfield 40, 3) := by decide +kernel
theorem d_Open_take_79 : decode prog_6_method_2_code 79 = .ok (.aload_n 0, 1) := by decide +kernel
theorem d_Open_take_80 : decode prog_6_method_2_code 80 = .ok (.aload_n 1, 1) := by decide +kernel
theorem d_Open_take_81 : decode prog_6_method_2_code 81 = .ok (.getfield 24, 3) := by decide +kernel
theorem d_Open_take_84 : decode prog_6_method_2_code 84 = .ok (.iload_n 3, 1) := by decide +kernel
theorem d_Open_take_85 : decode prog_6_method_2_code 85 = .ok (.invokevirtual 51, 3) := by decide +kernel
theorem d_Open_take_88 : decode prog_6_method_2_code 88 = .ok (.iadd, 1) := by decide +kernel
theorem d_Open_take_89 : decode prog_6_method_2_code 89 = .ok (.putfield 40, 3) := by decide +kernel
theorem d_Open_take_92 : decode prog_6_method_2_code 92 = .ok (.iinc 3 1, 3) := by decide +kernel
theorem d_Open_take_95 : decode prog_6_method_2_code 95 = .ok (.goto (-26), 3) := by decide +kernel
theorem d_Open_take_98 : decode prog_6_method_2_code 98 = .ok (.aload_n 0, 1) := by decide +kernel
theorem d_Open_take_99 : decode prog_6_method_2_code 99 = .ok (.aload_n 1, 1) := by decide +kernel
theorem d_Open_take_100 : decode prog_6_method_2_code 100 = .ok (.getfield 55, 3) := by decide +kernel
theorem d_Open_take_103 : decode prog_6_method_2_code 103 = .ok (.iconst 4, 1) := by decide +kernel
theorem d_Open_take_104 : decode prog_6_method_2_code 104 = .ok (.iadd, 1) := by decide +kernel
theorem d_Open_take_105 : decode prog_6_method_2_code 105 = .ok (.aload_n 0, 1) := by decide +kernel
theorem d_Open_take_106 : decode prog_6_method_2_code 106 = .ok (.getfield 36, 3) := by decide +kernel
theorem d_Open_take_109 : decode prog_6_method_2_code 109 = .ok (.isub, 1) := by decide +kernel
theorem d_Open_take_110 : decode prog_6_method_2_code 110 = .ok (.iconst 4, 1) := by decide +kernel
theorem d_Open_take_111 : decode prog_6_method_2_code 111 = .ok (.irem, 1) := by decide +kernel
theorem d_Open_take_112 : decode prog_6_method_2_code 112 = .ok (.putfield 58, 3) := by decide +kernel
theorem d_Open_take_115 : decode prog_6_method_2_code 115 = .ok (.aload_n 0, 1) := by decide +kernel
theorem d_Open_take_116 : decode prog_6_method_2_code 116 = .ok (.aload_n 1, 1) := by decide +kernel
theorem d_Open_take_117 : decode prog_6_method_2_code 117 = .ok (.getfield 55, 3) := by decide +kernel
theorem d_Open_take_120 : decode prog_6_method_2_code 120 = .ok (.iconst 2, 1) := by decide +kernel
theorem d_Open_take_121 : decode prog_6_method_2_code 121 = .ok (.irem, 1) := by decide +kernel
theorem d_Open_take_122 : decode prog_6_method_2_code 122 = .ok (.putfield 61, 3) := by decide +kernel
theorem d_Open_take_125 : decode prog_6_method_2_code 125 = .ok (.aload_n 0, 1) := by decide +kernel
theorem d_Open_take_126 : decode prog_6_method_2_code 126 = .ok (.aload_n 1, 1) := by decide +kernel
theorem d_Open_take_127 : decode prog_6_method_2_code 127 = .ok (.getfield 64, 3) := by decide +kernel
theorem d_Open_take_130 : decode prog_6_method_2_code 130 = .ok (.putfield 67, 3) := by decide +kernel
theorem d_Open_take_133 : decode prog_6_method_2_code 133 = .ok (.aload_n 0, 1) := by decide +kernel
theorem d_Open_take_134 : decode prog_6_method_2_code 134 = .ok (.iload_n 2, 1) := by decide +kernel
theorem d_Open_take_135 : decode prog_6_method_2_code 135 = .ok (.putfield 70, 3) := by decide +kernel
theorem d_Open_take_138 : decode prog_6_method_2_code 138 = .ok (.return_, 1) := by decide +kernel
theorem w_802 : Cond.methodLink "DropSignals$OpenCards" 18 ⟨"java/util/Arrays", "fill", "([II)V"⟩ ∈ gWs := gWs_in (i := 802) (by decide +kernel) rfl
theorem w_230 : Cond.fieldLink "DropSignals$OpenCards" 15 "DropSignals$OpenCards" "row" "[I" ∈ gWs := gWs_in (i := 230) (by decide +kernel) rfl
theorem fl_Open_15 : gFl "DropSignals$OpenCards" 15 4 1 := ⟨gN4, gF4, 8, rfl, uw_4, by decide, w_230⟩
theorem fl_Open_24 : gFlN "DropSignals$OpenCards" 24 2 0 := ⟨gN2, gF2, 14, 117, "DropSignals", rfl, uw_2, by decide, by decide +kernel⟩
theorem w_803 : Cond.methodLink "DropSignals$OpenCards" 30 ⟨"DropSignals$Cards", "trickSize", "()I"⟩ ∈ gWs := gWs_in (i := 803) (by decide +kernel) rfl
theorem w_231 : Cond.fieldLink "DropSignals$OpenCards" 36 "DropSignals$OpenCards" "placed" "I" ∈ gWs := gWs_in (i := 231) (by decide +kernel) rfl
theorem fl_Open_36 : gFl "DropSignals$OpenCards" 36 4 2 := ⟨gN4, gF4, 8, rfl, uw_4, by decide, w_231⟩
theorem fp_Open_36 : gFp "DropSignals$OpenCards" 36 4 2 .int := ⟨gN4, gF4, 8, rfl, uw_4, by decide, w_231, ⟨gX4, gY4⟩, gD4, rfl, by decide +kernel⟩
theorem w_232 : Cond.fieldLink "DropSignals$OpenCards" 40 "DropSignals$OpenCards" "total" "I" ∈ gWs := gWs_in (i := 232) (by decide +kernel) rfl
theorem fl_Open_40 : gFl "DropSignals$OpenCards" 40 4 3 := ⟨gN4, gF4, 8, rfl, uw_4, by decide, w_232⟩
theorem fp_Open_40 : gFp "DropSignals$OpenCards" 40 4 3 .int := ⟨gN4, gF4, 8, rfl, uw_4, by decide, w_232, ⟨gX4, gY4⟩, gD4, rfl, by decide +kernel⟩
theorem fl_Open_55 : gFlN "DropSignals$OpenCards" 55 2 6 := ⟨gN2, gF2, 14, 132, "DropSignals", rfl, uw_2, by decide, by decide +kernel⟩
theorem w_233 : Cond.fieldLink "DropSignals$OpenCards" 58 "DropSignals$OpenCards" "leader" "I" ∈ gWs := gWs_in (i := 233) (by decide +kernel) rfl
theorem fl_Open_58 : gFl "DropSignals$OpenCards" 58 4 4 := ⟨gN4, gF4, 8, rfl, uw_4, by decide, w_233⟩
theorem fp_Open_58 : gFp "DropSignals$OpenCards" 58 4 4 .int := ⟨gN4, gF4, 8, rfl, uw_4, by decide, w_233, ⟨gX4, gY4⟩, gD4, rfl, by decide +kernel⟩
theorem w_234 : Cond.fieldLink "DropSignals$OpenCards" 61 "DropSignals$OpenCards" "side" "I" ∈ gWs := gWs_in (i := 234) (by decide +kernel) rfl
theorem fl_Open_61 : gFl "DropSignals$OpenCards" 61 4 5 := ⟨gN4, gF4, 8, rfl, uw_4, by decide, w_234⟩
theorem fp_Open_61 : gFp "DropSignals$OpenCards" 61 4 5 .int := ⟨gN4, gF4, 8, rfl, uw_4, by decide, w_234, ⟨gX4, gY4⟩, gD4, rfl, by decide +kernel⟩
theorem fl_Open_64 : gFlN "DropSignals$OpenCards" 64 2 8 := ⟨gN2, gF2, 14, 136, "DropSignals", rfl, uw_2, by decide, by decide +kernel⟩
theorem w_235 : Cond.fieldLink "DropSignals$OpenCards" 67 "DropSignals$OpenCards" "trumps" "I" ∈ gWs := gWs_in (i := 235) (by decide +kernel) rfl
theorem fl_Open_67 : gFl "DropSignals$OpenCards" 67 4 6 := ⟨gN4, gF4, 8, rfl, uw_4, by decide, w_235⟩
theorem fp_Open_67 : gFp "DropSignals$OpenCards" 67 4 6 .int := ⟨gN4, gF4, 8, rfl, uw_4, by decide, w_235, ⟨gX4, gY4⟩, gD4, rfl, by decide +kernel⟩
theorem w_236 : Cond.fieldLink "DropSignals$OpenCards" 70 "DropSignals$OpenCards" "cuts" "Z" ∈ gWs := gWs_in (i := 236) (by decide +kernel) rfl
theorem fl_Open_70 : gFl "DropSignals$OpenCards" 70 4 7 := ⟨gN4, gF4, 8, rfl, uw_4, by decide, w_236⟩
theorem fp_Open_70 : gFp "DropSignals$OpenCards" 70 4 7 .boolean := ⟨gN4, gF4, 8, rfl, uw_4, by decide, w_236, ⟨gX4, gY4⟩, gD4, rfl, by decide +kernel⟩
theorem w_806 : Cond.methodLink "DropSignals$OpenCards" 51 ⟨"DropSignals$OpenCards", "takeHand", "(LDropSignals$Cards;I)I"⟩ ∈ gWs := gWs_in (i := 806) (by decide +kernel) rfl
theorem w_804 : Cond.methodLink "DropSignals$OpenCards" 43 ⟨"DropSignals$Cards", "inTrick", "(I)I"⟩ ∈ gWs := gWs_in (i := 804) (by decide +kernel) rfl
noncomputable def f_Open_take_s69 (e0 : Nat) (M : gMem) (x2 : Int32) (x3 : Int32) : Option ((Int32 × gMem) ⊕ gMem) :=
  if 4 ≤ x3 then
    (gSO M 18 8 4 (gRem (((M e0 0 6) + 4) - (M 18 8 2)) 4)).bind fun M6 =>
    (gSO M6 18 8 5 (gRem (M6 e0 0 6) 2)).bind fun M7 =>
    (gSO M7 18 8 6 (M7 e0 0 8)).bind fun M8 =>
    (gBl x2).bind fun _ =>
    (gSO M8 18 8 7 x2).bind fun M9 =>
    some (.inr M9)
  else
    (f_Open_takeHand e0 M x3).bind fun q11 =>
    (gSO q11.2 18 8 3 ((M 18 8 3) + q11.1)).bind fun M12 =>
    some (.inl ((x3 + 1), M12))
theorem t_Open_take_s69 {l : Launch} {ε : gEnv} (e0 : Nat) (hX : gXw ε) (hE0 : gEv ε e0) (M : gMem) (x2 : Int32) (x3 : Int32) (res : ((Int32 × gMem) ⊕ gMem)) (h : f_Open_take_s69 e0 M x2 x3 = some res) (r : gMem) (k1 : ∀ s0 : (Int32 × gMem), res = .inl s0 → gGo l ε k_Open_take (gR 2 46) (gFn ε none r) 69 [(0, .ref (ε.2.2.1 18 8)), (1, .ref (ε.2.2.1 e0 0)), (2, .int x2), (3, .int s0.1)] [] s0.2) (k2 : ∀ r', res = .inr r' → r' = r) : gGo l ε k_Open_take (gR 2 46) (gFn ε none r) 69 [(0, .ref (ε.2.2.1 18 8)), (1, .ref (ε.2.2.1 e0 0)), (2, .int x2), (3, .int x3)] [] M := by
  unfold f_Open_take_s69 at h
  refine g_iload_n d_Open_take_69 rfl 3 rfl ?_
  refine g_iconst (v := 4) d_Open_take_70 (by decide) ?_
  refine g_icmp_ge (tgt := 98) d_Open_take_71 (by decide) (fun c13 => ?_) (fun c13 => ?_)
  · rw [if_pos c13] at h
    refine g_aload_n d_Open_take_98 rfl 0 rfl ?_
    refine g_aload_n d_Open_take_99 rfl 1 rfl ?_
    refine g_getIN d_Open_take_100 fl_Open_55 (gEv_h0 hE0) rfl ?_
    refine g_iconst (v := 4) d_Open_take_103 (by decide) ?_
    refine g_iadd d_Open_take_104 ?_
    refine g_aload_n d_Open_take_105 rfl 0 rfl ?_
    refine g_getI d_Open_take_106 fl_Open_36 (gXw_h8 hX) rfl ?_
    refine g_isub d_Open_take_109 ?_
    refine g_iconst (v := 4) d_Open_take_110 (by decide) ?_
    refine g_rem d_Open_take_111 (by decide) ?_
    obtain ⟨M6, hM6, h⟩ := gOb h
    refine g_putO d_Open_take_112 fp_Open_58 (gXw_h8 hX) rfl hM6 ?_
    refine g_aload_n d_Open_take_115 rfl 0 rfl ?_
    refine g_aload_n d_Open_take_116 rfl 1 rfl ?_
    refine g_getIN d_Open_take_117 fl_Open_55 (gEv_h0 hE0) rfl ?_
    refine g_iconst (v := 2) d_Open_take_120 (by decide) ?_
    refine g_rem d_Open_take_121 (by decide) ?_
    obtain ⟨M7, hM7, h⟩ := gOb h
    refine g_putO d_Open_take_122 fp_Open_61 (gXw_h8 hX) rfl hM7 ?_
    refine g_aload_n d_Open_take_125 rfl 0 rfl ?_
    refine g_aload_n d_Open_take_126 rfl 1 rfl ?_
    refine g_getIN d_Open_take_127 fl_Open_64 (gEv_h0 hE0) rfl ?_
    obtain ⟨M8, hM8, h⟩ := gOb h
    refine g_putO d_Open_take_130 fp_Open_67 (gXw_h8 hX) rfl hM8 ?_
    refine g_aload_n d_Open_take_133 rfl 0 rfl ?_
    refine g_iload_n d_Open_take_134 rfl 2 rfl ?_
    obtain ⟨z10, hz10, h⟩ := gOb h
    obtain ⟨M9, hM9, h⟩ := gOb h
    refine g_putZ d_Open_take_135 fp_Open_70 (gXw_h8 hX) rfl hz10 hM9 ?_
    obtain rfl := Option.some.inj h
    have e9 := k2 _ rfl
    subst e9
    exact g_vret d_Open_take_138 rfl
  · rw [if_neg c13] at h
    refine g_aload_n d_Open_take_74 rfl 0 rfl ?_
    refine g_dup d_Open_take_75 rfl ?_
    refine g_getI d_Open_take_76 fl_Open_40 (gXw_h8 hX) rfl ?_
    refine g_aload_n d_Open_take_79 rfl 0 rfl ?_
    refine g_aload_n d_Open_take_80 rfl 1 rfl ?_
    refine g_getRN d_Open_take_81 fl_Open_24 (gEv_h0 hE0) rfl ?_
    refine g_iload_n d_Open_take_84 rfl 3 rfl ?_
    obtain ⟨q11, hq11, h⟩ := gOb h
    refine g_callV_i (As := [.ref (ε.2.2.1 e0 1), .int x3]) (rest := [.int (M 18 8 3), .ref (ε.2.2.1 18 8)]) (ct_Open_takeHand hX e0 (gEv_cd hE0) M x3 _ hq11) d_Open_take_85 ca_Open_takeHand w_806 (gXw_h8 hX) rfl rfl rfl (Nat.le_of_ble_eq_true rfl) ⟨(Nat.le_of_ble_eq_true rfl), (Nat.le_of_ble_eq_true rfl)⟩ ?_
    refine g_iadd d_Open_take_88 ?_
    obtain ⟨M12, hM12, h⟩ := gOb h
    refine g_putO d_Open_take_89 fp_Open_40 (gXw_h8 hX) rfl hM12 ?_
    refine g_iinc (v := (x3 + 1)) (L' := [(3, .int (x3 + 1)), (0, .ref (ε.2.2.1 18 8)), (1, .ref (ε.2.2.1 e0 0)), (2, .int x2)]) d_Open_take_92 (j := 3) rfl rfl (by decide) rfl ?_
    refine g_goto (tgt := 69) d_Open_take_95 (by decide) ?_
    refine gGo_sub [1, 2, 3, 0] rfl ?_
    obtain rfl := Option.some.inj h
    exact k1 ((x3 + 1), M12) rfl
noncomputable def f_Open_take_l69 (e0 : Nat) (x2 : Int32) (s : (Int32 × gMem)) : Option gMem := gLp (fun s => f_Open_take_s69 e0 s.2 x2 s.1) s
theorem t_Open_take_l69 {l : Launch} {ε : gEnv} (e0 : Nat) (hX : gXw ε) (hE0 : gEv ε e0) (x2 : Int32) (s : (Int32 × gMem)) (r : gMem) (h : f_Open_take_l69 e0 x2 s = some r) : gGo l ε k_Open_take (gR 2 46) (gFn ε none r) 69 [(0, .ref (ε.2.2.1 18 8)), (1, .ref (ε.2.2.1 e0 0)), (2, .int x2), (3, .int s.1)] [] s.2 :=
  g_loop _ (fun r s => gGo l ε k_Open_take (gR 2 46) (gFn ε none r) 69 [(0, .ref (ε.2.2.1 18 8)), (1, .ref (ε.2.2.1 e0 0)), (2, .int x2), (3, .int s.1)] [] s.2) (fun s res h r k1 k2 => t_Open_take_s69 e0 hX hE0 s.2 x2 s.1 res h r k1 k2) s r h
noncomputable def f_Open_take_s37 (e0 : Nat) (M : gMem) (x2 : Int32) (x3 : Int32) : Option ((Int32 × gMem) ⊕ gMem) :=
  if (M 18 8 2) ≤ x3 then
    (f_Open_take_l69 e0 x2 (0, M)).map .inr
  else
    (f_Cards_inTrick e0 M x3).bind fun q14 =>
    (f_DS_put 18 10 12 M x3 q14).bind fun q15 =>
    some (.inl ((x3 + 1), q15))
theorem t_Open_take_s37 {l : Launch} {ε : gEnv} (e0 : Nat) (hX : gXw ε) (hE0 : gEv ε e0) (M : gMem) (x2 : Int32) (x3 : Int32) (res : ((Int32 × gMem) ⊕ gMem)) (h : f_Open_take_s37 e0 M x2 x3 = some res) (r : gMem) (k1 : ∀ s0 : (Int32 × gMem), res = .inl s0 → gGo l ε k_Open_take (gR 2 46) (gFn ε none r) 37 [(0, .ref (ε.2.2.1 18 8)), (1, .ref (ε.2.2.1 e0 0)), (2, .int x2), (3, .int s0.1)] [] s0.2) (k2 : ∀ r', res = .inr r' → r' = r) : gGo l ε k_Open_take (gR 2 46) (gFn ε none r) 37 [(0, .ref (ε.2.2.1 18 8)), (1, .ref (ε.2.2.1 e0 0)), (2, .int x2), (3, .int x3)] [] M := by
  unfold f_Open_take_s37 at h
  refine g_iload_n d_Open_take_37 rfl 3 rfl ?_
  refine g_aload_n d_Open_take_38 rfl 0 rfl ?_
  refine g_getI d_Open_take_39 fl_Open_36 (gXw_h8 hX) rfl ?_
  refine g_icmp_ge (tgt := 67) d_Open_take_42 (by decide) (fun c16 => ?_) (fun c16 => ?_)
  · rw [if_pos c16] at h
    refine g_iconst (v := 0) d_Open_take_67 (by decide) ?_
    refine g_istore_n (L' := [(3, .int 0), (0, .ref (ε.2.2.1 18 8)), (1, .ref (ε.2.2.1 e0 0)), (2, .int x2)]) d_Open_take_68 rfl (by decide) rfl ?_
    refine gGo_sub [1, 2, 3, 0] rfl ?_
    obtain ⟨r9, h9, h8⟩ := gOm h
    cases h8
    have e9 := k2 _ rfl
    subst e9
    exact t_Open_take_l69 e0 hX hE0 x2 (0, M) _ h9
  · rw [if_neg c16] at h
    refine g_aload_n d_Open_take_45 rfl 0 rfl ?_
    refine g_getR d_Open_take_46 fl_Open_15 (gXw_h8 hX) rfl ?_
    refine g_iload_n d_Open_take_49 rfl 3 rfl ?_
    refine g_aload_n d_Open_take_50 rfl 1 rfl ?_
    refine g_getRN d_Open_take_51 fl_Open_24 (gEv_h0 hE0) rfl ?_
    refine g_iload_n d_Open_take_54 rfl 3 rfl ?_
    obtain ⟨q14, hq14, h⟩ := gOb h
    refine g_callV_i (As := [.int x3]) (rest := [.int x3, .ref (ε.2.2.1 18 10)]) (ct_Cards_inTrick e0 (gEv_cd hE0) M x3 _ hq14) d_Open_take_55 ca_Cards_inTrick w_804 (gEv_h1 hE0) rfl rfl rfl (Nat.le_of_ble_eq_true rfl) ⟨(Nat.le_of_ble_eq_true rfl), (Nat.le_of_ble_eq_true rfl)⟩ ?_
    obtain ⟨q15, hq15, h⟩ := gOb h
    refine g_callN_v (As := [.ref (ε.2.2.1 18 10), .int x3, .int q14]) (rest := []) (j := 805) (host := "DropSignals") (ct_DS_put 18 10 12 (gXw_h10 hX) M x3 q14 _ hq15) d_Open_take_58 ca_DS_put (by decide +kernel) rfl rfl (Nat.le_of_ble_eq_true rfl) ⟨(Nat.le_of_ble_eq_true rfl), (Nat.le_of_ble_eq_true rfl)⟩ ?_
    refine g_iinc (v := (x3 + 1)) (L' := [(3, .int (x3 + 1)), (0, .ref (ε.2.2.1 18 8)), (1, .ref (ε.2.2.1 e0 0)), (2, .int x2)]) d_Open_take_61 (j := 3) rfl rfl (by decide) rfl ?_
    refine g_goto (tgt := 37) d_Open_take_64 (by decide) ?_
    refine gGo_sub [1, 2, 3, 0] rfl ?_
    obtain rfl := Option.some.inj h
    exact k1 ((x3 + 1), q15) rfl
noncomputable def f_Open_take_l37 (e0 : Nat) (x2 : Int32) (s : (Int32 × gMem)) : Option gMem := gLp (fun s => f_Open_take_s37 e0 s.2 x2 s.1) s
theorem t_Open_take_l37 {l : Launch} {ε : gEnv} (e0 : Nat) (hX : gXw ε) (hE0 : gEv ε e0) (x2 : Int32) (s : (Int32 × gMem)) (r : gMem) (h : f_Open_take_l37 e0 x2 s = some r) : gGo l ε k_Open_take (gR 2 46) (gFn ε none r) 37 [(0, .ref (ε.2.2.1 18 8)), (1, .ref (ε.2.2.1 e0 0)), (2, .int x2), (3, .int s.1)] [] s.2 :=
  g_loop _ (fun r s => gGo l ε k_Open_take (gR 2 46) (gFn ε none r) 37 [(0, .ref (ε.2.2.1 18 8)), (1, .ref (ε.2.2.1 e0 0)), (2, .int x2), (3, .int s.1)] [] s.2) (fun s res h r k1 k2 => t_Open_take_s37 e0 hX hE0 s.2 x2 s.1 res h r k1 k2) s r h
noncomputable def f_Open_take (e0 : Nat) (M : gMem) (a1 : Int32) : Option gMem :=
  (f_JA_fill 18 9 12 M (-1)).bind fun q1 =>
  (f_JA_fill 18 10 12 q1 (-1)).bind fun q2 =>
  (f_Cards_trickSize e0 q2).bind fun q3 =>
  (gSO q2 18 8 2 q3).bind fun M4 =>
  (gSO M4 18 8 3 (M4 18 8 2)).bind fun M5 =>
  f_Open_take_l37 e0 a1 (0, M5)
theorem t_Open_take {l : Launch} {ε : gEnv} (e0 : Nat) (hX : gXw ε) (hE0 : gEv ε e0) (M : gMem) (a1 : Int32) (r : gMem) (h : f_Open_take e0 M a1 = some r) : gGo l ε k_Open_take (gR 2 46) (gFn ε none r) 0 [(0, .ref (ε.2.2.1 18 8)), (1, .ref (ε.2.2.1 e0 0)), (2, .int a1)] [] M := by
  unfold f_Open_take at h
  refine g_aload_n d_Open_take_0 rfl 0 rfl ?_
  refine g_getR d_Open_take_1 fl_Open_9 (gXw_h8 hX) rfl ?_
  refine g_iconst (v := -1) d_Open_take_4 (by decide) ?_
  obtain ⟨q1, hq1, h⟩ := gOb h
  refine g_callS_v (As := [.ref (ε.2.2.1 18 9), .int (-1)]) (rest := []) (ct_JA_fill 18 9 12 (gXw_h9 hX) M (-1) _ hq1) d_Open_take_5 ca_JA_fill w_802 rfl rfl (Nat.le_of_ble_eq_true rfl) ⟨(Nat.le_of_ble_eq_true rfl), (Nat.le_of_ble_eq_true rfl)⟩ ?_
  refine g_aload_n d_Open_take_8 rfl 0 rfl ?_
  refine g_getR d_Open_take_9 fl_Open_15 (gXw_h8 hX) rfl ?_
  refine g_iconst (v := -1) d_Open_take_12 (by decide) ?_
  obtain ⟨q2, hq2, h⟩ := gOb h
  refine g_callS_v (As := [.ref (ε.2.2.1 18 10), .int (-1)]) (rest := []) (ct_JA_fill 18 10 12 (gXw_h10 hX) q1 (-1) _ hq2) d_Open_take_13 ca_JA_fill w_802 rfl rfl (Nat.le_of_ble_eq_true rfl) ⟨(Nat.le_of_ble_eq_true rfl), (Nat.le_of_ble_eq_true rfl)⟩ ?_
  refine g_aload_n d_Open_take_16 rfl 0 rfl ?_
  refine g_aload_n d_Open_take_17 rfl 1 rfl ?_
  refine g_getRN d_Open_take_18 fl_Open_24 (gEv_h0 hE0) rfl ?_
  obtain ⟨q3, hq3, h⟩ := gOb h
  refine g_callV_i (As := []) (rest := [.ref (ε.2.2.1 18 8)]) (ct_Cards_trickSize e0 (gEv_cd hE0) q2 _ hq3) d_Open_take_21 ca_Cards_trickSize w_803 (gEv_h1 hE0) rfl rfl rfl (Nat.le_of_ble_eq_true rfl) ⟨(Nat.le_of_ble_eq_true rfl), (Nat.le_of_ble_eq_true rfl)⟩ ?_
  obtain ⟨M4, hM4, h⟩ := gOb h
  refine g_putO d_Open_take_24 fp_Open_36 (gXw_h8 hX) rfl hM4 ?_
  refine g_aload_n d_Open_take_27 rfl 0 rfl ?_
  refine g_aload_n d_Open_take_28 rfl 0 rfl ?_
  refine g_getI d_Open_take_29 fl_Open_36 (gXw_h8 hX) rfl ?_
  obtain ⟨M5, hM5, h⟩ := gOb h
  refine g_putO d_Open_take_32 fp_Open_40 (gXw_h8 hX) rfl hM5 ?_
  refine g_iconst (v := 0) d_Open_take_35 (by decide) ?_
  refine g_istore_n (L' := [(3, .int 0), (0, .ref (ε.2.2.1 18 8)), (1, .ref (ε.2.2.1 e0 0)), (2, .int a1)]) d_Open_take_36 rfl (by decide) rfl ?_
  refine gGo_sub [1, 2, 3, 0] rfl ?_
  exact t_Open_take_l37 e0 hX hE0 a1 (0, M5) _ h
theorem ct_Open_take {l : Launch} {ε : gEnv} (hX : gXw ε) (e0 : Nat) (hE0 : gEv ε e0) (M : gMem) (a1 : Int32) (r : gMem) (h : f_Open_take e0 M a1 = some r) : gCt l ε k_Open_take 2 46 [.ref (ε.2.2.1 18 8), .ref (ε.2.2.1 e0 0), .int a1] M none r :=
  gCt_of (by decide) (Nat.le_of_ble_eq_true rfl) rfl (t_Open_take e0 hX hE0 M a1 r h)
abbrev k_Open_fits : gMD := (⟨"DropSignals$OpenCards", "fits", "(II)Z"⟩, prog_6_method_6_code, 2, (some .boolean))
theorem w_825 : Cond.static ⟨"DropSignals$OpenCards", "fits", "(II)Z"⟩ ∈ gWs := gWs_in (i := 825) (by decide +kernel) rfl
set_option maxRecDepth 100000 in
theorem ca_Open_fits : gCaS k_Open_fits 2 := ⟨⟨gWs_in (i := 826) rfl rfl, w_28, by decide, by decide, by decide +kernel⟩, w_825⟩
theorem d_Open_fits_0 : decode prog_6_method_6_code 0 = .ok (.iload_n 0, 1) := by decide +kernel
theorem d_Open_fits_1 : decode prog_6_method_6_code 1 = .ok (.iconst (-1), 1) := by decide +kernel
theorem d_Open_fits_2 : decode prog_6_method_6_code 2 = .ok (.if_icmp .eq 20, 3) := by decide +kernel
theorem d_Open_fits_5 : decode prog_6_method_6_code 5 = .ok (.iload_n 1, 1) := by decide +kernel
theorem d_Open_fits_6 : decode prog_6_method_6_code 6 = .ok (.iconst (-1), 1) := by decide +kernel
theorem d_Open_fits_7 : decode prog_6_method_6_code 7 = .ok (.if_icmp .eq 11, 3) := by decide +kernel
theorem d_Open_fits_10 : decode prog_6_method_6_code 10 = .ok (.iload_n 0, 1) := by decide +kernel
theorem d_Open_fits_11 : decode prog_6_method_6_code 11 = .ok (.bipush 8, 2) := by decide +kernel
theorem d_Open_fits_13 : decode prog_6_method_6_code 13 = .ok (.idiv, 1) := by decide +kernel
theorem d_Open_fits_14 : decode prog_6_method_6_code 14 = .ok (.iload_n 1, 1) := by decide +kernel
theorem d_Open_fits_15 : decode prog_6_method_6_code 15 = .ok (.if_icmp .ne 7, 3) := by decide +kernel
theorem d_Open_fits_18 : decode prog_6_method_6_code 18 = .ok (.iconst 1, 1) := by decide +kernel
theorem d_Open_fits_19 : decode prog_6_method_6_code 19 = .ok (.goto 4, 3) := by decide +kernel
theorem d_Open_fits_22 : decode prog_6_method_6_code 22 = .ok (.iconst 0, 1) := by decide +kernel
theorem d_Open_fits_23 : decode prog_6_method_6_code 23 = .ok (.ireturn, 1) := by decide +kernel
noncomputable def f_Open_fits (a0 : Int32) (a1 : Int32) : Option Int32 :=
  if a0 = (-1) then
    some 0
  else
    if a1 = (-1) then
      some 1
    else
      if (a0 / 8) = a1 then
        some 1
      else
        some 0
theorem t_Open_fits {l : Launch} {ε : gEnv} (M : gMem) (a0 : Int32) (a1 : Int32) (r : Int32) (h : f_Open_fits a0 a1 = some r) : gGo l ε k_Open_fits (gR 0 0) (gFn ε (some (.int r)) M) 0 [(0, .int a0), (1, .int a1)] [] M := by
  unfold f_Open_fits at h
  refine g_iload_n d_Open_fits_0 rfl 0 rfl ?_
  refine g_iconst (v := -1) d_Open_fits_1 (by decide) ?_
  refine g_icmp_eq (tgt := 22) d_Open_fits_2 (by decide) (fun c3 => ?_) (fun c3 => ?_)
  · rw [if_pos c3] at h
    refine g_iconst (v := 0) d_Open_fits_22 (by decide) ?_
    obtain rfl := Option.some.inj h
    exact g_zret d_Open_fits_23 rfl gZ0
  · rw [if_neg c3] at h
    refine g_iload_n d_Open_fits_5 rfl 1 rfl ?_
    refine g_iconst (v := -1) d_Open_fits_6 (by decide) ?_
    refine g_icmp_eq (tgt := 18) d_Open_fits_7 (by decide) (fun c2 => ?_) (fun c2 => ?_)
    · rw [if_pos c2] at h
      refine g_iconst (v := 1) d_Open_fits_18 (by decide) ?_
      refine g_goto (tgt := 23) d_Open_fits_19 (by decide) ?_
      obtain rfl := Option.some.inj h
      exact g_zret d_Open_fits_23 rfl gZ1
    · rw [if_neg c2] at h
      refine g_iload_n d_Open_fits_10 rfl 0 rfl ?_
      refine g_bipush (v := 8) d_Open_fits_11 (by decide) ?_
      refine g_idiv d_Open_fits_13 (by decide) ?_
      refine g_iload_n d_Open_fits_14 rfl 1 rfl ?_
      refine g_icmp_ne (tgt := 22) d_Open_fits_15 (by decide) (fun c1 => ?_) (fun c1 => ?_)
      · rw [if_neg c1] at h
        refine g_iconst (v := 0) d_Open_fits_22 (by decide) ?_
        obtain rfl := Option.some.inj h
        exact g_zret d_Open_fits_23 rfl gZ0
      · rw [if_pos c1] at h
        refine g_iconst (v := 1) d_Open_fits_18 (by decide) ?_
        refine g_goto (tgt := 23) d_Open_fits_19 (by decide) ?_
        obtain rfl := Option.some.inj h
        exact g_zret d_Open_fits_23 rfl gZ1
theorem ct_Open_fits {l : Launch} {ε : gEnv} (M : gMem) (a0 : Int32) (a1 : Int32) (r : Int32) (h : f_Open_fits a0 a1 = some r) : gCt l ε k_Open_fits 0 0 [.int a0, .int a1] M (some (.int r)) M :=
  gCt_of (by decide) (Nat.le_of_ble_eq_true rfl) rfl (t_Open_fits M a0 a1 r h)
abbrev k_Open_suitToFollow : gMD := (⟨"DropSignals$OpenCards", "suitToFollow", "(II)I"⟩, prog_6_method_7_code, 6, (some .int))
theorem w_821 : Cond.instanceMethod ⟨"DropSignals$OpenCards", "suitToFollow", "(II)I"⟩ ∈ gWs := gWs_in (i := 821) (by decide +kernel) rfl
theorem w_17 : Cond.selects "DropSignals$OpenCards" ⟨"DropSignals$OpenCards", "suitToFollow", "(II)I"⟩ ⟨"DropSignals$OpenCards", "suitToFollow", "(II)I"⟩ ∈ gWs := gWs_in (i := 17) (by decide +kernel) rfl
set_option maxRecDepth 100000 in
theorem ca_Open_suitToFollow : gCaV k_Open_suitToFollow 2 := ⟨⟨gWs_in (i := 822) rfl rfl, w_28, by decide, by decide, by decide +kernel⟩, w_821, w_17⟩
theorem d_Open_suitToFollow_0 : decode prog_6_method_7_code 0 = .ok (.iload_n 2, 1) := by decide +kernel
theorem d_Open_suitToFollow_1 : decode prog_6_method_7_code 1 = .ok (.iconst 4, 1) := by decide +kernel
theorem d_Open_suitToFollow_2 : decode prog_6_method_7_code 2 = .ok (.irem, 1) := by decide +kernel
theorem d_Open_suitToFollow_3 : decode prog_6_method_7_code 3 = .ok (.istore_n 3, 1) := by decide +kernel
theorem d_Open_suitToFollow_4 : decode prog_6_method_7_code 4 = .ok (.iload_n 3, 1) := by decide +kernel
theorem d_Open_suitToFollow_5 : decode prog_6_method_7_code 5 = .ok (.ifCond .ne 5, 3) := by decide +kernel
theorem d_Open_suitToFollow_8 : decode prog_6_method_7_code 8 = .ok (.iconst (-1), 1) := by decide +kernel
theorem d_Open_suitToFollow_9 : decode prog_6_method_7_code 9 = .ok (.ireturn, 1) := by decide +kernel
theorem d_Open_suitToFollow_10 : decode prog_6_method_7_code 10 = .ok (.aload_n 0, 1) := by decide +kernel
theorem d_Open_suitToFollow_11 : decode prog_6_method_7_code 11 = .ok (.getfield 15, 3) := by decide +kernel
theorem d_Open_suitToFollow_14 : decode prog_6_method_7_code 14 = .ok (.iload_n 2, 1) := by decide +kernel
theorem d_Open_suitToFollow_15 : decode prog_6_method_7_code 15 = .ok (.iload_n 3, 1) := by decide +kernel
theorem d_Open_suitToFollow_16 : decode prog_6_method_7_code 16 = .ok (.isub, 1) := by decide +kernel
theorem d_Open_suitToFollow_17 : decode prog_6_method_7_code 17 = .ok (.invokestatic 85, 3) := by decide +kernel
theorem d_Open_suitToFollow_20 : decode prog_6_method_7_code 20 = .ok (.bipush 8, 2) := by decide +kernel
theorem d_Open_suitToFollow_22 : decode prog_6_method_7_code 22 = .ok (.idiv, 1) := by decide +kernel
theorem d_Open_suitToFollow_23 : decode prog_6_method_7_code 23 = .ok (.istore 4, 2) := by decide +kernel
theorem d_Open_suitToFollow_25 : decode prog_6_method_7_code 25 = .ok (.iconst 0, 1) := by decide +kernel
theorem d_Open_suitToFollow_26 : decode prog_6_method_7_code 26 = .ok (.istore 5, 2) := by decide +kernel
theorem d_Open_suitToFollow_28 : decode prog_6_method_7_code 28 = .ok (.iload 5, 2) := by decide +kernel
theorem d_Open_suitToFollow_30 : decode prog_6_method_7_code 30 = .ok (.iconst 3, 1) := by decide +kernel
theorem d_Open_suitToFollow_31 : decode prog_6_method_7_code 31 = .ok (.if_icmp .ge 33, 3) := by decide +kernel
theorem d_Open_suitToFollow_34 : decode prog_6_method_7_code 34 = .ok (.aload_n 0, 1) := by decide +kernel
theorem d_Open_suitToFollow_35 : decode prog_6_method_7_code 35 = .ok (.getfield 9, 3) := by decide +kernel
theorem d_Open_suitToFollow_38 : decode prog_6_method_7_code 38 = .ok (.iload_n 1, 1) := by decide +kernel
theorem d_Open_suitToFollow_39 : decode prog_6_method_7_code 39 = .ok (.iconst 3, 1) := by decide +kernel
theorem d_Open_suitToFollow_40 : decode prog_6_method_7_code 40 = .ok (.imul, 1) := by decide +kernel
theorem d_Open_suitToFollow_41 : decode prog_6_method_7_code 41 = .ok (.iload 5, 2) := by decide +kernel
theorem d_Open_suitToFollow_43 : decode prog_6_method_7_code 43 = .ok (.iadd, 1) := by decide +kernel
theorem d_Open_suitToFollow_44 : decode prog_6_method_7_code 44 = .ok (.invokestatic 85, 3) := by decide +kernel
theorem d_Open_suitToFollow_47 : decode prog_6_method_7_code 47 = .ok (.iload 4, 2) := by decide +kernel
theorem d_Open_suitToFollow_49 : decode prog_6_method_7_code 49 = .ok (.invokestatic 89, 3) := by decide +kernel
theorem d_Open_suitToFollow_52 : decode prog_6_method_7_code 52 = .ok (.ifCond .eq 6, 3) := by decide +kernel
theorem d_Open_suitToFollow_55 : decode prog_6_method_7_code 55 = .ok (.iload 4, 2) := by decide +kernel
theorem d_Open_suitToFollow_57 : decode prog_6_method_7_code 57 = .ok (.ireturn, 1) := by decide +kernel
theorem d_Open_suitToFollow_58 : decode prog_6_method_7_code 58 = .ok (.iinc 5 1, 3) := by decide +kernel
theorem d_Open_suitToFollow_61 : decode prog_6_method_7_code 61 = .ok (.goto (-33), 3) := by decide +kernel
theorem d_Open_suitToFollow_64 : decode prog_6_method_7_code 64 = .ok (.iconst (-1), 1) := by decide +kernel
theorem d_Open_suitToFollow_65 : decode prog_6_method_7_code 65 = .ok (.ireturn, 1) := by decide +kernel
theorem w_824 : Cond.methodLink "DropSignals$OpenCards" 89 ⟨"DropSignals$OpenCards", "fits", "(II)Z"⟩ ∈ gWs := gWs_in (i := 824) (by decide +kernel) rfl
noncomputable def f_Open_suitToFollow_s28 (M : gMem) (x1 : Int32) (x4 : Int32) (x5 : Int32) : Option (Int32 ⊕ Int32) :=
  if 3 ≤ x5 then
    some (.inr (-1))
  else
    (f_DS_at 18 9 12 M ((x1 * 3) + x5)).bind fun q2 =>
    (f_Open_fits q2 x4).bind fun q3 =>
    if q3 = 0 then
      some (.inl (x5 + 1))
    else
      some (.inr x4)
theorem t_Open_suitToFollow_s28 {l : Launch} {ε : gEnv} (hX : gXw ε) (M : gMem) (x1 : Int32) (x4 : Int32) (x5 : Int32) (res : (Int32 ⊕ Int32)) (h : f_Open_suitToFollow_s28 M x1 x4 x5 = some res) (r : Int32) (k1 : ∀ s0 : Int32, res = .inl s0 → gGo l ε k_Open_suitToFollow (gR 1 21) (gFn ε (some (.int r)) M) 28 [(0, .ref (ε.2.2.1 18 8)), (1, .int x1), (4, .int x4), (5, .int s0)] [] M) (k2 : ∀ r', res = .inr r' → r' = r) : gGo l ε k_Open_suitToFollow (gR 1 21) (gFn ε (some (.int r)) M) 28 [(0, .ref (ε.2.2.1 18 8)), (1, .int x1), (4, .int x4), (5, .int x5)] [] M := by
  unfold f_Open_suitToFollow_s28 at h
  refine g_iload d_Open_suitToFollow_28 3 rfl ?_
  refine g_iconst (v := 3) d_Open_suitToFollow_30 (by decide) ?_
  refine g_icmp_ge (tgt := 64) d_Open_suitToFollow_31 (by decide) (fun c5 => ?_) (fun c5 => ?_)
  · rw [if_pos c5] at h
    refine g_iconst (v := -1) d_Open_suitToFollow_64 (by decide) ?_
    obtain rfl := Option.some.inj h
    have e9 := k2 _ rfl
    subst e9
    exact g_iret d_Open_suitToFollow_65 rfl
  · rw [if_neg c5] at h
    refine g_aload_n d_Open_suitToFollow_34 rfl 0 rfl ?_
    refine g_getR d_Open_suitToFollow_35 fl_Open_9 (gXw_h8 hX) rfl ?_
    refine g_iload_n d_Open_suitToFollow_38 rfl 1 rfl ?_
    refine g_iconst (v := 3) d_Open_suitToFollow_39 (by decide) ?_
    refine g_imul d_Open_suitToFollow_40 ?_
    refine g_iload d_Open_suitToFollow_41 3 rfl ?_
    refine g_iadd d_Open_suitToFollow_43 ?_
    obtain ⟨q2, hq2, h⟩ := gOb h
    refine g_callN_i (As := [.ref (ε.2.2.1 18 9), .int ((x1 * 3) + x5)]) (rest := []) (j := 823) (host := "DropSignals") (ct_DS_at 18 9 12 (gXw_h9 hX) M ((x1 * 3) + x5) _ hq2) d_Open_suitToFollow_44 ca_DS_at (by decide +kernel) rfl rfl (Nat.le_of_ble_eq_true rfl) ⟨(Nat.le_of_ble_eq_true rfl), (Nat.le_of_ble_eq_true rfl)⟩ ?_
    refine g_iload d_Open_suitToFollow_47 2 rfl ?_
    obtain ⟨q3, hq3, h⟩ := gOb h
    refine g_callS_i (As := [.int q2, .int x4]) (rest := []) (ct_Open_fits M q2 x4 _ hq3) d_Open_suitToFollow_49 ca_Open_fits w_824 rfl rfl (Nat.le_of_ble_eq_true rfl) ⟨(Nat.le_of_ble_eq_true rfl), (Nat.le_of_ble_eq_true rfl)⟩ ?_
    refine g_if_eq (tgt := 58) d_Open_suitToFollow_52 (by decide) (fun c4 => ?_) (fun c4 => ?_)
    · rw [if_pos c4] at h
      refine g_iinc (v := (x5 + 1)) (L' := [(5, .int (x5 + 1)), (0, .ref (ε.2.2.1 18 8)), (1, .int x1), (4, .int x4)]) d_Open_suitToFollow_58 (j := 3) rfl rfl (by decide) rfl ?_
      refine g_goto (tgt := 28) d_Open_suitToFollow_61 (by decide) ?_
      refine gGo_sub [1, 2, 3, 0] rfl ?_
      obtain rfl := Option.some.inj h
      exact k1 (x5 + 1) rfl
    · rw [if_neg c4] at h
      refine g_iload d_Open_suitToFollow_55 2 rfl ?_
      obtain rfl := Option.some.inj h
      have e9 := k2 _ rfl
      subst e9
      exact g_iret d_Open_suitToFollow_57 rfl
noncomputable def f_Open_suitToFollow_l28 (M : gMem) (x1 : Int32) (x4 : Int32) (s : Int32) : Option Int32 := gLp (fun s => f_Open_suitToFollow_s28 M x1 x4 s) s
theorem t_Open_suitToFollow_l28 {l : Launch} {ε : gEnv} (hX : gXw ε) (M : gMem) (x1 : Int32) (x4 : Int32) (s : Int32) (r : Int32) (h : f_Open_suitToFollow_l28 M x1 x4 s = some r) : gGo l ε k_Open_suitToFollow (gR 1 21) (gFn ε (some (.int r)) M) 28 [(0, .ref (ε.2.2.1 18 8)), (1, .int x1), (4, .int x4), (5, .int s)] [] M :=
  g_loop _ (fun r s => gGo l ε k_Open_suitToFollow (gR 1 21) (gFn ε (some (.int r)) M) 28 [(0, .ref (ε.2.2.1 18 8)), (1, .int x1), (4, .int x4), (5, .int s)] [] M) (fun s res h r k1 k2 => t_Open_suitToFollow_s28 hX M x1 x4 s res h r k1 k2) s r h
noncomputable def f_Open_suitToFollow (M : gMem) (a0 : Int32) (a1 : Int32) : Option Int32 :=
  if (gRem a1 4) = 0 then
    some (-1)
  else
    (f_DS_at 18 10 12 M (a1 - (gRem a1 4))).bind fun q1 =>
    f_Open_suitToFollow_l28 M a0 (q1 / 8) 0
theorem t_Open_suitToFollow {l : Launch} {ε : gEnv} (hX : gXw ε) (M : gMem) (a0 : Int32) (a1 : Int32) (r : Int32) (h : f_Open_suitToFollow M a0 a1 = some r) : gGo l ε k_Open_suitToFollow (gR 1 21) (gFn ε (some (.int r)) M) 0 [(0, .ref (ε.2.2.1 18 8)), (1, .int a0), (2, .int a1)] [] M := by
  unfold f_Open_suitToFollow at h
  refine g_iload_n d_Open_suitToFollow_0 rfl 2 rfl ?_
  refine g_iconst (v := 4) d_Open_suitToFollow_1 (by decide) ?_
  refine g_rem d_Open_suitToFollow_2 (by decide) ?_
  refine g_istore_n (L' := [(3, .int (gRem a1 4)), (0, .ref (ε.2.2.1 18 8)), (1, .int a0), (2, .int a1)]) d_Open_suitToFollow_3 rfl (by decide) rfl ?_
  refine g_iload_n d_Open_suitToFollow_4 rfl 0 rfl ?_
  refine g_if_ne (tgt := 10) d_Open_suitToFollow_5 (by decide) (fun c6 => ?_) (fun c6 => ?_)
  · rw [if_neg c6] at h
    refine g_aload_n d_Open_suitToFollow_10 rfl 1 rfl ?_
    refine g_getR d_Open_suitToFollow_11 fl_Open_15 (gXw_h8 hX) rfl ?_
    refine g_iload_n d_Open_suitToFollow_14 rfl 3 rfl ?_
    refine g_iload_n d_Open_suitToFollow_15 rfl 0 rfl ?_
    refine g_isub d_Open_suitToFollow_16 ?_
    obtain ⟨q1, hq1, h⟩ := gOb h
    refine g_callN_i (As := [.ref (ε.2.2.1 18 10), .int (a1 - (gRem a1 4))]) (rest := []) (j := 823) (host := "DropSignals") (ct_DS_at 18 10 12 (gXw_h10 hX) M (a1 - (gRem a1 4)) _ hq1) d_Open_suitToFollow_17 ca_DS_at (by decide +kernel) rfl rfl (Nat.le_of_ble_eq_true rfl) ⟨(Nat.le_of_ble_eq_true rfl), (Nat.le_of_ble_eq_true rfl)⟩ ?_
    refine g_bipush (v := 8) d_Open_suitToFollow_20 (by decide) ?_
    refine g_idiv d_Open_suitToFollow_22 (by decide) ?_
    refine g_istore (L' := [(4, .int (q1 / 8)), (3, .int (gRem a1 4)), (0, .ref (ε.2.2.1 18 8)), (1, .int a0), (2, .int a1)]) d_Open_suitToFollow_23 (by decide) rfl ?_
    refine g_iconst (v := 0) d_Open_suitToFollow_25 (by decide) ?_
    refine g_istore (L' := [(5, .int 0), (4, .int (q1 / 8)), (3, .int (gRem a1 4)), (0, .ref (ε.2.2.1 18 8)), (1, .int a0), (2, .int a1)]) d_Open_suitToFollow_26 (by decide) rfl ?_
    refine gGo_sub [3, 4, 1, 0] rfl ?_
    exact t_Open_suitToFollow_l28 hX M a0 (q1 / 8) 0 _ h
  · rw [if_pos c6] at h
    refine g_iconst (v := -1) d_Open_suitToFollow_8 (by decide) ?_
    obtain rfl := Option.some.inj h
    exact g_iret d_Open_suitToFollow_9 rfl
theorem ct_Open_suitToFollow {l : Launch} {ε : gEnv} (hX : gXw ε) (M : gMem) (a0 : Int32) (a1 : Int32) (r : Int32) (h : f_Open_suitToFollow M a0 a1 = some r) : gCt l ε k_Open_suitToFollow 1 21 [.ref (ε.2.2.1 18 8), .int a0, .int a1] M (some (.int r)) M :=
  gCt_of (by decide) (Nat.le_of_ble_eq_true rfl) rfl (t_Open_suitToFollow hX M a0 a1 r h)
abbrev k_Scr_tryBid : gMD := (⟨"DropSignals$Scripts", "tryBid", "(LDropSignals$Evening;II)Z"⟩, prog_7_method_2_code, 3, (some .boolean))
theorem w_34 : Cond.initialized "DropSignals$Scripts" ∈ gWs := gWs_in (i := 34) (by decide +kernel) rfl
theorem w_452 : Cond.static ⟨"DropSignals$Scripts", "tryBid", "(LDropSignals$Evening;II)Z"⟩ ∈ gWs := gWs_in (i := 452) (by decide +kernel) rfl
set_option maxRecDepth 100000 in
theorem ca_Scr_tryBid : gCaS k_Scr_tryBid 3 := ⟨⟨gWs_in (i := 453) rfl rfl, w_34, by decide, by decide, by decide +kernel⟩, w_452⟩
theorem d_Scr_tryBid_0 : decode prog_7_method_2_code 0 = .ok (.aload_n 0, 1) := by decide +kernel
theorem d_Scr_tryBid_1 : decode prog_7_method_2_code 1 = .ok (.iload_n 1, 1) := by decide +kernel
theorem d_Scr_tryBid_2 : decode prog_7_method_2_code 2 = .ok (.iload_n 2, 1) := by decide +kernel
theorem d_Scr_tryBid_3 : decode prog_7_method_2_code 3 = .ok (.invokevirtual 9, 3) := by decide +kernel
theorem d_Scr_tryBid_6 : decode prog_7_method_2_code 6 = .ok (.ifCond .ne 5, 3) := by decide +kernel
theorem d_Scr_tryBid_9 : decode prog_7_method_2_code 9 = .ok (.iconst 0, 1) := by decide +kernel
theorem d_Scr_tryBid_10 : decode prog_7_method_2_code 10 = .ok (.ireturn, 1) := by decide +kernel
theorem d_Scr_tryBid_11 : decode prog_7_method_2_code 11 = .ok (.aload_n 0, 1) := by decide +kernel
theorem d_Scr_tryBid_12 : decode prog_7_method_2_code 12 = .ok (.iload_n 1, 1) := by decide +kernel
theorem d_Scr_tryBid_13 : decode prog_7_method_2_code 13 = .ok (.iload_n 2, 1) := by decide +kernel
theorem d_Scr_tryBid_14 : decode prog_7_method_2_code 14 = .ok (.invokevirtual 15, 3) := by decide +kernel
theorem d_Scr_tryBid_17 : decode prog_7_method_2_code 17 = .ok (.iconst 1, 1) := by decide +kernel
theorem d_Scr_tryBid_18 : decode prog_7_method_2_code 18 = .ok (.ireturn, 1) := by decide +kernel
theorem w_454 : Cond.methodLink "DropSignals$Scripts" 9 ⟨"DropSignals$Evening", "mayBid", "(II)Z"⟩ ∈ gWs := gWs_in (i := 454) (by decide +kernel) rfl
theorem w_461 : Cond.methodLink "DropSignals$Scripts" 15 ⟨"DropSignals$Evening", "makeBid", "(II)V"⟩ ∈ gWs := gWs_in (i := 461) (by decide +kernel) rfl
noncomputable def f_Scr_tryBid (e0 : Nat) (M : gMem) (a1 : Int32) (a2 : Int32) : Option (Int32 × gMem) :=
  (f_Ev_mayBid e0 M a1 a2).bind fun q1 =>
  if q1 = 0 then
    some (0, M)
  else
    (f_Ev_makeBid e0 M a1 a2).bind fun q2 =>
    some (1, q2)
theorem t_Scr_tryBid {l : Launch} {ε : gEnv} (e0 : Nat) (hE0 : gEv ε e0) (M : gMem) (a1 : Int32) (a2 : Int32) (r : (Int32 × gMem)) (h : f_Scr_tryBid e0 M a1 a2 = some r) : gGo l ε k_Scr_tryBid (gR 2 43) (gFn ε (some (.int r.1)) r.2) 0 [(0, .ref (ε.2.2.1 e0 0)), (1, .int a1), (2, .int a2)] [] M := by
  unfold f_Scr_tryBid at h
  refine g_aload_n d_Scr_tryBid_0 rfl 0 rfl ?_
  refine g_iload_n d_Scr_tryBid_1 rfl 1 rfl ?_
  refine g_iload_n d_Scr_tryBid_2 rfl 2 rfl ?_
  obtain ⟨q1, hq1, h⟩ := gOb h
  refine g_callV_i (As := [.int a1, .int a2]) (rest := []) (ct_Ev_mayBid e0 hE0 M a1 a2 _ hq1) d_Scr_tryBid_3 ca_Ev_mayBid w_454 (gEv_h0 hE0) rfl rfl rfl (Nat.le_of_ble_eq_true rfl) ⟨(Nat.le_of_ble_eq_true rfl), (Nat.le_of_ble_eq_true rfl)⟩ ?_
  refine g_if_ne (tgt := 11) d_Scr_tryBid_6 (by decide) (fun c3 => ?_) (fun c3 => ?_)
  · rw [if_neg c3] at h
    refine g_aload_n d_Scr_tryBid_11 rfl 0 rfl ?_
    refine g_iload_n d_Scr_tryBid_12 rfl 1 rfl ?_
    refine g_iload_n d_Scr_tryBid_13 rfl 2 rfl ?_
    obtain ⟨q2, hq2, h⟩ := gOb h
    refine g_callV_v (As := [.int a1, .int a2]) (rest := []) (ct_Ev_makeBid e0 hE0 M a1 a2 _ hq2) d_Scr_tryBid_14 ca_Ev_makeBid w_461 (gEv_h0 hE0) rfl rfl rfl (Nat.le_of_ble_eq_true rfl) ⟨(Nat.le_of_ble_eq_true rfl), (Nat.le_of_ble_eq_true rfl)⟩ ?_
    refine g_iconst (v := 1) d_Scr_tryBid_17 (by decide) ?_
    obtain rfl := Option.some.inj h
    exact g_zret d_Scr_tryBid_18 rfl gZ1
  · rw [if_pos c3] at h
    refine g_iconst (v := 0) d_Scr_tryBid_9 (by decide) ?_
    obtain rfl := Option.some.inj h
    exact g_zret d_Scr_tryBid_10 rfl gZ0
theorem ct_Scr_tryBid {l : Launch} {ε : gEnv} (e0 : Nat) (hE0 : gEv ε e0) (M : gMem) (a1 : Int32) (a2 : Int32) (r : (Int32 × gMem)) (h : f_Scr_tryBid e0 M a1 a2 = some r) : gCt l ε k_Scr_tryBid 2 43 [.ref (ε.2.2.1 e0 0), .int a1, .int a2] M (some (.int r.1)) r.2 :=
  gCt_of (by decide) (Nat.le_of_ble_eq_true rfl) rfl (t_Scr_tryBid e0 hE0 M a1 a2 r h)
abbrev k_Scr_tryPass : gMD := (⟨"DropSignals$Scripts", "tryPass", "(LDropSignals$Evening;)Z"⟩, prog_7_method_3_code, 1, (some .boolean))
theorem w_469 : Cond.static ⟨"DropSignals$Scripts", "tryPass", "(LDropSignals$Evening;)Z"⟩ ∈ gWs := gWs_in (i := 469) (by decide +kernel) rfl
set_option maxRecDepth 100000 in
theorem ca_Scr_tryPass : gCaS k_Scr_tryPass 1 := ⟨⟨gWs_in (i := 470) rfl rfl, w_34, by decide, by decide, by decide +kernel⟩, w_469⟩
theorem d_Scr_tryPass_0 : decode prog_7_method_3_code 0 = .ok (.aload_n 0, 1) := by decide +kernel
theorem d_Scr_tryPass_1 : decode prog_7_method_3_code 1 = .ok (.getfield 19, 3) := by decide +kernel
theorem d_Scr_tryPass_4 : decode prog_7_method_3_code 4 = .ok (.iconst 1, 1) := by decide +kernel
theorem d_Scr_tryPass_5 : decode prog_7_method_3_code 5 = .ok (.if_icmp .eq 5, 3) := by decide +kernel
theorem d_Scr_tryPass_8 : decode prog_7_method_3_code 8 = .ok (.iconst 0, 1) := by decide +kernel
theorem d_Scr_tryPass_9 : decode prog_7_method_3_code 9 = .ok (.ireturn, 1) := by decide +kernel
theorem d_Scr_tryPass_10 : decode prog_7_method_3_code 10 = .ok (.aload_n 0, 1) := by decide +kernel
theorem d_Scr_tryPass_11 : decode prog_7_method_3_code 11 = .ok (.invokevirtual 23, 3) := by decide +kernel
theorem d_Scr_tryPass_14 : decode prog_7_method_3_code 14 = .ok (.iconst 1, 1) := by decide +kernel
theorem d_Scr_tryPass_15 : decode prog_7_method_3_code 15 = .ok (.ireturn, 1) := by decide +kernel
theorem fl_Scr_19 : gFlN "DropSignals$Scripts" 19 2 5 := ⟨gN2, gF2, 14, 129, "DropSignals", rfl, uw_2, by decide, by decide +kernel⟩
theorem w_471 : Cond.methodLink "DropSignals$Scripts" 23 ⟨"DropSignals$Evening", "makePass", "()V"⟩ ∈ gWs := gWs_in (i := 471) (by decide +kernel) rfl
noncomputable def f_Scr_tryPass (e0 : Nat) (M : gMem) : Option (Int32 × gMem) :=
  if (M e0 0 5) = 1 then
    (f_Ev_makePass e0 M).bind fun q1 =>
    some (1, q1)
  else
    some (0, M)
theorem t_Scr_tryPass {l : Launch} {ε : gEnv} (e0 : Nat) (hE0 : gEv ε e0) (M : gMem) (r : (Int32 × gMem)) (h : f_Scr_tryPass e0 M = some r) : gGo l ε k_Scr_tryPass (gR 2 40) (gFn ε (some (.int r.1)) r.2) 0 [(0, .ref (ε.2.2.1 e0 0))] [] M := by
  unfold f_Scr_tryPass at h
  refine g_aload_n d_Scr_tryPass_0 rfl 0 rfl ?_
  refine g_getIN d_Scr_tryPass_1 fl_Scr_19 (gEv_h0 hE0) rfl ?_
  refine g_iconst (v := 1) d_Scr_tryPass_4 (by decide) ?_
  refine g_icmp_eq (tgt := 10) d_Scr_tryPass_5 (by decide) (fun c2 => ?_) (fun c2 => ?_)
  · rw [if_pos c2] at h
    refine g_aload_n d_Scr_tryPass_10 rfl 0 rfl ?_
    obtain ⟨q1, hq1, h⟩ := gOb h
    refine g_callV_v (As := []) (rest := []) (ct_Ev_makePass e0 hE0 M _ hq1) d_Scr_tryPass_11 ca_Ev_makePass w_471 (gEv_h0 hE0) rfl rfl rfl (Nat.le_of_ble_eq_true rfl) ⟨(Nat.le_of_ble_eq_true rfl), (Nat.le_of_ble_eq_true rfl)⟩ ?_
    refine g_iconst (v := 1) d_Scr_tryPass_14 (by decide) ?_
    obtain rfl := Option.some.inj h
    exact g_zret d_Scr_tryPass_15 rfl gZ1
  · rw [if_neg c2] at h
    refine g_iconst (v := 0) d_Scr_tryPass_8 (by decide) ?_
    obtain rfl := Option.some.inj h
    exact g_zret d_Scr_tryPass_9 rfl gZ0
theorem ct_Scr_tryPass {l : Launch} {ε : gEnv} (e0 : Nat) (hE0 : gEv ε e0) (M : gMem) (r : (Int32 × gMem)) (h : f_Scr_tryPass e0 M = some r) : gCt l ε k_Scr_tryPass 2 40 [.ref (ε.2.2.1 e0 0)] M (some (.int r.1)) r.2 :=
  gCt_of (by decide) (Nat.le_of_ble_eq_true rfl) rfl (t_Scr_tryPass e0 hE0 M r h)
abbrev k_Scr_tryCard : gMD := (⟨"DropSignals$Scripts", "tryCard", "(LDropSignals$Evening;I)Z"⟩, prog_7_method_4_code, 2, (some .boolean))
theorem w_476 : Cond.static ⟨"DropSignals$Scripts", "tryCard", "(LDropSignals$Evening;I)Z"⟩ ∈ gWs := gWs_in (i := 476) (by decide +kernel) rfl
set_option maxRecDepth 100000 in
theorem ca_Scr_tryCard : gCaS k_Scr_tryCard 2 := ⟨⟨gWs_in (i := 477) rfl rfl, w_34, by decide, by decide, by decide +kernel⟩, w_476⟩
theorem d_Scr_tryCard_0 : decode prog_7_method_4_code 0 = .ok (.aload_n 0, 1) := by decide +kernel
theorem d_Scr_tryCard_1 : decode prog_7_method_4_code 1 = .ok (.getfield 19, 3) := by decide +kernel
theorem d_Scr_tryCard_4 : decode prog_7_method_4_code 4 = .ok (.iconst 2, 1) := by decide +kernel
theorem d_Scr_tryCard_5 : decode prog_7_method_4_code 5 = .ok (.if_icmp .ne 21, 3) := by decide +kernel
theorem d_Scr_tryCard_8 : decode prog_7_method_4_code 8 = .ok (.iload_n 1, 1) := by decide +kernel
theorem d_Scr_tryCard_9 : decode prog_7_method_4_code 9 = .ok (.ifCond .lt 17, 3) := by decide +kernel
theorem d_Scr_tryCard_12 : decode prog_7_method_4_code 12 = .ok (.iload_n 1, 1) := by decide +kernel
theorem d_Scr_tryCard_13 : decode prog_7_method_4_code 13 = .ok (.bipush 32, 2) := by decide +kernel
theorem d_Scr_tryCard_15 : decode prog_7_method_4_code 15 = .ok (.if_icmp .ge 11, 3) := by decide +kernel
theorem d_Scr_tryCard_18 : decode prog_7_method_4_code 18 = .ok (.aload_n 0, 1) := by decide +kernel
theorem d_Scr_tryCard_19 : decode prog_7_method_4_code 19 = .ok (.iload_n 1, 1) := by decide +kernel
theorem d_Scr_tryCard_20 : decode prog_7_method_4_code 20 = .ok (.invokevirtual 26, 3) := by decide +kernel
theorem d_Scr_tryCard_23 : decode prog_7_method_4_code 23 = .ok (.ifCond .eq 5, 3) := by decide +kernel
theorem d_Scr_tryCard_26 : decode prog_7_method_4_code 26 = .ok (.iconst 0, 1) := by decide +kernel
theorem d_Scr_tryCard_27 : decode prog_7_method_4_code 27 = .ok (.ireturn, 1) := by decide +kernel
theorem d_Scr_tryCard_28 : decode prog_7_method_4_code 28 = .ok (.aload_n 0, 1) := by decide +kernel
theorem d_Scr_tryCard_29 : decode prog_7_method_4_code 29 = .ok (.iload_n 1, 1) := by decide +kernel
theorem d_Scr_tryCard_30 : decode prog_7_method_4_code 30 = .ok (.invokevirtual 30, 3) := by decide +kernel
theorem d_Scr_tryCard_33 : decode prog_7_method_4_code 33 = .ok (.iconst 1, 1) := by decide +kernel
theorem d_Scr_tryCard_34 : decode prog_7_method_4_code 34 = .ok (.ireturn, 1) := by decide +kernel
theorem w_478 : Cond.methodLink "DropSignals$Scripts" 26 ⟨"DropSignals$Evening", "reasonAgainst", "(I)I"⟩ ∈ gWs := gWs_in (i := 478) (by decide +kernel) rfl
theorem w_499 : Cond.methodLink "DropSignals$Scripts" 30 ⟨"DropSignals$Evening", "layDown", "(I)V"⟩ ∈ gWs := gWs_in (i := 499) (by decide +kernel) rfl
noncomputable def f_Scr_tryCard (e0 : Nat) (M : gMem) (a1 : Int32) : Option (Int32 × gMem) :=
  if (M e0 0 5) = 2 then
    if a1 < 0 then
      some (0, M)
    else
      if 32 ≤ a1 then
        some (0, M)
      else
        (f_Ev_reasonAgainst e0 M a1).bind fun q1 =>
        if q1 = 0 then
          (f_Ev_layDown e0 M a1).bind fun q2 =>
          some (1, q2)
        else
          some (0, M)
  else
    some (0, M)
theorem t_Scr_tryCard {l : Launch} {ε : gEnv} (e0 : Nat) (hE0 : gEv ε e0) (M : gMem) (a1 : Int32) (r : (Int32 × gMem)) (h : f_Scr_tryCard e0 M a1 = some r) : gGo l ε k_Scr_tryCard (gR 4 92) (gFn ε (some (.int r.1)) r.2) 0 [(0, .ref (ε.2.2.1 e0 0)), (1, .int a1)] [] M := by
  unfold f_Scr_tryCard at h
  refine g_aload_n d_Scr_tryCard_0 rfl 0 rfl ?_
  refine g_getIN d_Scr_tryCard_1 fl_Scr_19 (gEv_h0 hE0) rfl ?_
  refine g_iconst (v := 2) d_Scr_tryCard_4 (by decide) ?_
  refine g_icmp_ne (tgt := 26) d_Scr_tryCard_5 (by decide) (fun c6 => ?_) (fun c6 => ?_)
  · rw [if_neg c6] at h
    refine g_iconst (v := 0) d_Scr_tryCard_26 (by decide) ?_
    obtain rfl := Option.some.inj h
    exact g_zret d_Scr_tryCard_27 rfl gZ0
  · rw [if_pos c6] at h
    refine g_iload_n d_Scr_tryCard_8 rfl 1 rfl ?_
    refine g_if_lt (tgt := 26) d_Scr_tryCard_9 (by decide) (fun c5 => ?_) (fun c5 => ?_)
    · rw [if_pos c5] at h
      refine g_iconst (v := 0) d_Scr_tryCard_26 (by decide) ?_
      obtain rfl := Option.some.inj h
      exact g_zret d_Scr_tryCard_27 rfl gZ0
    · rw [if_neg c5] at h
      refine g_iload_n d_Scr_tryCard_12 rfl 1 rfl ?_
      refine g_bipush (v := 32) d_Scr_tryCard_13 (by decide) ?_
      refine g_icmp_ge (tgt := 26) d_Scr_tryCard_15 (by decide) (fun c4 => ?_) (fun c4 => ?_)
      · rw [if_pos c4] at h
        refine g_iconst (v := 0) d_Scr_tryCard_26 (by decide) ?_
        obtain rfl := Option.some.inj h
        exact g_zret d_Scr_tryCard_27 rfl gZ0
      · rw [if_neg c4] at h
        refine g_aload_n d_Scr_tryCard_18 rfl 0 rfl ?_
        refine g_iload_n d_Scr_tryCard_19 rfl 1 rfl ?_
        obtain ⟨q1, hq1, h⟩ := gOb h
        refine g_callV_i (As := [.int a1]) (rest := []) (ct_Ev_reasonAgainst e0 hE0 M a1 _ hq1) d_Scr_tryCard_20 ca_Ev_reasonAgainst w_478 (gEv_h0 hE0) rfl rfl rfl (Nat.le_of_ble_eq_true rfl) ⟨(Nat.le_of_ble_eq_true rfl), (Nat.le_of_ble_eq_true rfl)⟩ ?_
        refine g_if_eq (tgt := 28) d_Scr_tryCard_23 (by decide) (fun c3 => ?_) (fun c3 => ?_)
        · rw [if_pos c3] at h
          refine g_aload_n d_Scr_tryCard_28 rfl 0 rfl ?_
          refine g_iload_n d_Scr_tryCard_29 rfl 1 rfl ?_
          obtain ⟨q2, hq2, h⟩ := gOb h
          refine g_callV_v (As := [.int a1]) (rest := []) (ct_Ev_layDown e0 hE0 M a1 _ hq2) d_Scr_tryCard_30 ca_Ev_layDown w_499 (gEv_h0 hE0) rfl rfl rfl (Nat.le_of_ble_eq_true rfl) ⟨(Nat.le_of_ble_eq_true rfl), (Nat.le_of_ble_eq_true rfl)⟩ ?_
          refine g_iconst (v := 1) d_Scr_tryCard_33 (by decide) ?_
          obtain rfl := Option.some.inj h
          exact g_zret d_Scr_tryCard_34 rfl gZ1
        · rw [if_neg c3] at h
          refine g_iconst (v := 0) d_Scr_tryCard_26 (by decide) ?_
          obtain rfl := Option.some.inj h
          exact g_zret d_Scr_tryCard_27 rfl gZ0
theorem ct_Scr_tryCard {l : Launch} {ε : gEnv} (e0 : Nat) (hE0 : gEv ε e0) (M : gMem) (a1 : Int32) (r : (Int32 × gMem)) (h : f_Scr_tryCard e0 M a1 = some r) : gCt l ε k_Scr_tryCard 4 92 [.ref (ε.2.2.1 e0 0), .int a1] M (some (.int r.1)) r.2 :=
  gCt_of (by decide) (Nat.le_of_ble_eq_true rfl) rfl (t_Scr_tryCard e0 hE0 M a1 r h)
abbrev k_Scr_tryAdvices : gMD := (⟨"DropSignals$Scripts", "tryAdvices", "(LDropSignals$Evening;I)Z"⟩, prog_7_method_5_code, 4, (some .boolean))
theorem w_570 : Cond.static ⟨"DropSignals$Scripts", "tryAdvices", "(LDropSignals$Evening;I)Z"⟩ ∈ gWs := gWs_in (i := 570) (by decide +kernel) rfl
set_option maxRecDepth 100000 in
theorem ca_Scr_tryAdvices : gCaS k_Scr_tryAdvices 2 := ⟨⟨gWs_in (i := 571) rfl rfl, w_34, by decide, by decide, by decide +kernel⟩, w_570⟩
theorem d_Scr_tryAdvices_0 : decode prog_7_method_5_code 0 = .ok (.iconst 0, 1) := by decide +kernel
theorem d_Scr_tryAdvices_1 : decode prog_7_method_5_code 1 = .ok (.istore_n 2, 1) := by decide +kernel
theorem d_Scr_tryAdvices_2 : decode prog_7_method_5_code 2 = .ok (.iload_n 2, 1) := by decide +kernel
theorem d_Scr_tryAdvices_3 : decode prog_7_method_5_code 3 = .ok (.iload_n 1, 1) := by decide +kernel
theorem d_Scr_tryAdvices_4 : decode prog_7_method_5_code 4 = .ok (.if_icmp .ge 26, 3) := by decide +kernel
theorem d_Scr_tryAdvices_7 : decode prog_7_method_5_code 7 = .ok (.aload_n 0, 1) := by decide +kernel
theorem d_Scr_tryAdvices_8 : decode prog_7_method_5_code 8 = .ok (.invokevirtual 34, 3) := by decide +kernel
theorem d_Scr_tryAdvices_11 : decode prog_7_method_5_code 11 = .ok (.istore_n 3, 1) := by decide +kernel
theorem d_Scr_tryAdvices_12 : decode prog_7_method_5_code 12 = .ok (.iload_n 3, 1) := by decide +kernel
theorem d_Scr_tryAdvices_13 : decode prog_7_method_5_code 13 = .ok (.iconst (-1), 1) := by decide +kernel
theorem d_Scr_tryAdvices_14 : decode prog_7_method_5_code 14 = .ok (.if_icmp .ne 5, 3) := by decide +kernel
theorem d_Scr_tryAdvices_17 : decode prog_7_method_5_code 17 = .ok (.iconst 0, 1) := by decide +kernel
theorem d_Scr_tryAdvices_18 : decode prog_7_method_5_code 18 = .ok (.ireturn, 1) := by decide +kernel
theorem d_Scr_tryAdvices_19 : decode prog_7_method_5_code 19 = .ok (.aload_n 0, 1) := by decide +kernel
theorem d_Scr_tryAdvices_20 : decode prog_7_method_5_code 20 = .ok (.iload_n 3, 1) := by decide +kernel
theorem d_Scr_tryAdvices_21 : decode prog_7_method_5_code 21 = .ok (.invokevirtual 30, 3) := by decide +kernel
theorem d_Scr_tryAdvices_24 : decode prog_7_method_5_code 24 = .ok (.iinc 2 1, 3) := by decide +kernel
theorem d_Scr_tryAdvices_27 : decode prog_7_method_5_code 27 = .ok (.goto (-25), 3) := by decide +kernel
theorem d_Scr_tryAdvices_30 : decode prog_7_method_5_code 30 = .ok (.iconst 1, 1) := by decide +kernel
theorem d_Scr_tryAdvices_31 : decode prog_7_method_5_code 31 = .ok (.ireturn, 1) := by decide +kernel
theorem w_572 : Cond.methodLink "DropSignals$Scripts" 34 ⟨"DropSignals$Evening", "advised", "()I"⟩ ∈ gWs := gWs_in (i := 572) (by decide +kernel) rfl
noncomputable def f_Scr_tryAdvices_s2 (e0 : Nat) (M : gMem) (x1 : Int32) (x2 : Int32) : Option ((Int32 × gMem) ⊕ (Int32 × gMem)) :=
  if x1 ≤ x2 then
    some (.inr (1, M))
  else
    (f_Ev_advised e0 M).bind fun q1 =>
    if q1 = (-1) then
      some (.inr (0, M))
    else
      (f_Ev_layDown e0 M q1).bind fun q2 =>
      some (.inl ((x2 + 1), q2))
theorem t_Scr_tryAdvices_s2 {l : Launch} {ε : gEnv} (e0 : Nat) (hE0 : gEv ε e0) (M : gMem) (x1 : Int32) (x2 : Int32) (res : ((Int32 × gMem) ⊕ (Int32 × gMem))) (h : f_Scr_tryAdvices_s2 e0 M x1 x2 = some res) (r : (Int32 × gMem)) (k1 : ∀ s0 : (Int32 × gMem), res = .inl s0 → gGo l ε k_Scr_tryAdvices (gR 4 92) (gFn ε (some (.int r.1)) r.2) 2 [(0, .ref (ε.2.2.1 e0 0)), (1, .int x1), (2, .int s0.1)] [] s0.2) (k2 : ∀ r', res = .inr r' → r' = r) : gGo l ε k_Scr_tryAdvices (gR 4 92) (gFn ε (some (.int r.1)) r.2) 2 [(0, .ref (ε.2.2.1 e0 0)), (1, .int x1), (2, .int x2)] [] M := by
  unfold f_Scr_tryAdvices_s2 at h
  refine g_iload_n d_Scr_tryAdvices_2 rfl 2 rfl ?_
  refine g_iload_n d_Scr_tryAdvices_3 rfl 1 rfl ?_
  refine g_icmp_ge (tgt := 30) d_Scr_tryAdvices_4 (by decide) (fun c4 => ?_) (fun c4 => ?_)
  · rw [if_pos c4] at h
    refine g_iconst (v := 1) d_Scr_tryAdvices_30 (by decide) ?_
    obtain rfl := Option.some.inj h
    have e9 := k2 _ rfl
    subst e9
    exact g_zret d_Scr_tryAdvices_31 rfl gZ1
  · rw [if_neg c4] at h
    refine g_aload_n d_Scr_tryAdvices_7 rfl 0 rfl ?_
    obtain ⟨q1, hq1, h⟩ := gOb h
    refine g_callV_i (As := []) (rest := []) (ct_Ev_advised e0 hE0 M _ hq1) d_Scr_tryAdvices_8 ca_Ev_advised w_572 (gEv_h0 hE0) rfl rfl rfl (Nat.le_of_ble_eq_true rfl) ⟨(Nat.le_of_ble_eq_true rfl), (Nat.le_of_ble_eq_true rfl)⟩ ?_
    refine g_istore_n (L' := [(3, .int q1), (0, .ref (ε.2.2.1 e0 0)), (1, .int x1), (2, .int x2)]) d_Scr_tryAdvices_11 rfl (by decide) rfl ?_
    refine g_iload_n d_Scr_tryAdvices_12 rfl 0 rfl ?_
    refine g_iconst (v := -1) d_Scr_tryAdvices_13 (by decide) ?_
    refine g_icmp_ne (tgt := 19) d_Scr_tryAdvices_14 (by decide) (fun c3 => ?_) (fun c3 => ?_)
    · rw [if_neg c3] at h
      refine g_aload_n d_Scr_tryAdvices_19 rfl 1 rfl ?_
      refine g_iload_n d_Scr_tryAdvices_20 rfl 0 rfl ?_
      obtain ⟨q2, hq2, h⟩ := gOb h
      refine g_callV_v (As := [.int q1]) (rest := []) (ct_Ev_layDown e0 hE0 M q1 _ hq2) d_Scr_tryAdvices_21 ca_Ev_layDown w_499 (gEv_h0 hE0) rfl rfl rfl (Nat.le_of_ble_eq_true rfl) ⟨(Nat.le_of_ble_eq_true rfl), (Nat.le_of_ble_eq_true rfl)⟩ ?_
      refine g_iinc (v := (x2 + 1)) (L' := [(2, .int (x2 + 1)), (3, .int q1), (0, .ref (ε.2.2.1 e0 0)), (1, .int x1)]) d_Scr_tryAdvices_24 (j := 3) rfl rfl (by decide) rfl ?_
      refine g_goto (tgt := 2) d_Scr_tryAdvices_27 (by decide) ?_
      refine gGo_sub [2, 3, 0] rfl ?_
      obtain rfl := Option.some.inj h
      exact k1 ((x2 + 1), q2) rfl
    · rw [if_pos c3] at h
      refine g_iconst (v := 0) d_Scr_tryAdvices_17 (by decide) ?_
      obtain rfl := Option.some.inj h
      have e9 := k2 _ rfl
      subst e9
      exact g_zret d_Scr_tryAdvices_18 rfl gZ0
noncomputable def f_Scr_tryAdvices_l2 (e0 : Nat) (x1 : Int32) (s : (Int32 × gMem)) : Option (Int32 × gMem) := gLp (fun s => f_Scr_tryAdvices_s2 e0 s.2 x1 s.1) s
theorem t_Scr_tryAdvices_l2 {l : Launch} {ε : gEnv} (e0 : Nat) (hE0 : gEv ε e0) (x1 : Int32) (s : (Int32 × gMem)) (r : (Int32 × gMem)) (h : f_Scr_tryAdvices_l2 e0 x1 s = some r) : gGo l ε k_Scr_tryAdvices (gR 4 92) (gFn ε (some (.int r.1)) r.2) 2 [(0, .ref (ε.2.2.1 e0 0)), (1, .int x1), (2, .int s.1)] [] s.2 :=
  g_loop _ (fun r s => gGo l ε k_Scr_tryAdvices (gR 4 92) (gFn ε (some (.int r.1)) r.2) 2 [(0, .ref (ε.2.2.1 e0 0)), (1, .int x1), (2, .int s.1)] [] s.2) (fun s res h r k1 k2 => t_Scr_tryAdvices_s2 e0 hE0 s.2 x1 s.1 res h r k1 k2) s r h
noncomputable def f_Scr_tryAdvices (e0 : Nat) (M : gMem) (a1 : Int32) : Option (Int32 × gMem) :=
  f_Scr_tryAdvices_l2 e0 a1 (0, M)
theorem t_Scr_tryAdvices {l : Launch} {ε : gEnv} (e0 : Nat) (hE0 : gEv ε e0) (M : gMem) (a1 : Int32) (r : (Int32 × gMem)) (h : f_Scr_tryAdvices e0 M a1 = some r) : gGo l ε k_Scr_tryAdvices (gR 4 92) (gFn ε (some (.int r.1)) r.2) 0 [(0, .ref (ε.2.2.1 e0 0)), (1, .int a1)] [] M := by
  unfold f_Scr_tryAdvices at h
  refine g_iconst (v := 0) d_Scr_tryAdvices_0 (by decide) ?_
  refine g_istore_n (L' := [(2, .int 0), (0, .ref (ε.2.2.1 e0 0)), (1, .int a1)]) d_Scr_tryAdvices_1 rfl (by decide) rfl ?_
  refine gGo_sub [1, 2, 0] rfl ?_
  exact t_Scr_tryAdvices_l2 e0 hE0 a1 (0, M) _ h
theorem ct_Scr_tryAdvices {l : Launch} {ε : gEnv} (e0 : Nat) (hE0 : gEv ε e0) (M : gMem) (a1 : Int32) (r : (Int32 × gMem)) (h : f_Scr_tryAdvices e0 M a1 = some r) : gCt l ε k_Scr_tryAdvices 4 92 [.ref (ε.2.2.1 e0 0), .int a1] M (some (.int r.1)) r.2 :=
  gCt_of (by decide) (Nat.le_of_ble_eq_true rfl) rfl (t_Scr_tryAdvices e0 hE0 M a1 r h)
abbrev k_Scr_tryDeal : gMD := (⟨"DropSignals$Scripts", "tryDeal", "(LDropSignals$Evening;I)Z"⟩, prog_7_method_7_code, 2, (some .boolean))
theorem w_910 : Cond.static ⟨"DropSignals$Scripts", "tryDeal", "(LDropSignals$Evening;I)Z"⟩ ∈ gWs := gWs_in (i := 910) (by decide +kernel) rfl
set_option maxRecDepth 100000 in
theorem ca_Scr_tryDeal : gCaS k_Scr_tryDeal 2 := ⟨⟨gWs_in (i := 911) rfl rfl, w_34, by decide, by decide, by decide +kernel⟩, w_910⟩
theorem d_Scr_tryDeal_0 : decode prog_7_method_7_code 0 = .ok (.aload_n 0, 1) := by decide +kernel
theorem d_Scr_tryDeal_1 : decode prog_7_method_7_code 1 = .ok (.iload_n 1, 1) := by decide +kernel
theorem d_Scr_tryDeal_2 : decode prog_7_method_7_code 2 = .ok (.i2l, 1) := by decide +kernel
theorem d_Scr_tryDeal_3 : decode prog_7_method_7_code 3 = .ok (.invokevirtual 88, 3) := by decide +kernel
theorem d_Scr_tryDeal_6 : decode prog_7_method_7_code 6 = .ok (.iconst 1, 1) := by decide +kernel
theorem d_Scr_tryDeal_7 : decode prog_7_method_7_code 7 = .ok (.ireturn, 1) := by decide +kernel
theorem w_912 : Cond.methodLink "DropSignals$Scripts" 88 ⟨"DropSignals$Evening", "dealWith", "(J)V"⟩ ∈ gWs := gWs_in (i := 912) (by decide +kernel) rfl
noncomputable def f_Scr_tryDeal (e0 : Nat) (M : gMem) (a1 : Int32) : Option (Int32 × gMem) :=
  (f_Ev_dealWith e0 M (Int32.toInt64 a1)).bind fun q1 =>
  some (1, q1)
theorem t_Scr_tryDeal {l : Launch} {ε : gEnv} (e0 : Nat) (hE0 : gEv ε e0) (M : gMem) (a1 : Int32) (r : (Int32 × gMem)) (h : f_Scr_tryDeal e0 M a1 = some r) : gGo l ε k_Scr_tryDeal (gR 4 85) (gFn ε (some (.int r.1)) r.2) 0 [(0, .ref (ε.2.2.1 e0 0)), (1, .int a1)] [] M := by
  unfold f_Scr_tryDeal at h
  refine g_aload_n d_Scr_tryDeal_0 rfl 0 rfl ?_
  refine g_iload_n d_Scr_tryDeal_1 rfl 1 rfl ?_
  refine g_i2l d_Scr_tryDeal_2 ?_
  obtain ⟨q1, hq1, h⟩ := gOb h
  refine g_callV_v (As := [.long (Int32.toInt64 a1)]) (rest := []) (ct_Ev_dealWith e0 hE0 M (Int32.toInt64 a1) _ hq1) d_Scr_tryDeal_3 ca_Ev_dealWith w_912 (gEv_h0 hE0) rfl rfl rfl (Nat.le_of_ble_eq_true rfl) ⟨(Nat.le_of_ble_eq_true rfl), (Nat.le_of_ble_eq_true rfl)⟩ ?_
  refine g_iconst (v := 1) d_Scr_tryDeal_6 (by decide) ?_
  obtain rfl := Option.some.inj h
  exact g_zret d_Scr_tryDeal_7 rfl gZ1
theorem ct_Scr_tryDeal {l : Launch} {ε : gEnv} (e0 : Nat) (hE0 : gEv ε e0) (M : gMem) (a1 : Int32) (r : (Int32 × gMem)) (h : f_Scr_tryDeal e0 M a1 = some r) : gCt l ε k_Scr_tryDeal 4 85 [.ref (ε.2.2.1 e0 0), .int a1] M (some (.int r.1)) r.2 :=
  gCt_of (by decide) (Nat.le_of_ble_eq_true rfl) rfl (t_Scr_tryDeal e0 hE0 M a1 r h)
abbrev k_Scr_succeeds : gMD := (⟨"DropSignals$Scripts", "succeeds", "(LDropSignals$Evening;I)Z"⟩, prog_7_method_6_code, 6, (some .boolean))
theorem w_907 : Cond.static ⟨"DropSignals$Scripts", "succeeds", "(LDropSignals$Evening;I)Z"⟩ ∈ gWs := gWs_in (i := 907) (by decide +kernel) rfl
set_option maxRecDepth 100000 in
theorem ca_Scr_succeeds : gCaS k_Scr_succeeds 2 := ⟨⟨gWs_in (i := 908) rfl rfl, w_34, by decide, by decide, by decide +kernel⟩, w_907⟩
theorem d_Scr_succeeds_0 : decode prog_7_method_6_code 0 = .ok (.iload_n 1, 1) := by decide +kernel
theorem d_Scr_succeeds_1 : decode prog_7_method_6_code 1 = .ok (.bipush 100, 2) := by decide +kernel
theorem d_Scr_succeeds_3 : decode prog_7_method_6_code 3 = .ok (.idiv, 1) := by decide +kernel
theorem d_Scr_succeeds_4 : decode prog_7_method_6_code 4 = .ok (.bipush 10, 2) := by decide +kernel
theorem d_Scr_succeeds_6 : decode prog_7_method_6_code 6 = .ok (.irem, 1) := by decide +kernel
theorem d_Scr_succeeds_7 : decode prog_7_method_6_code 7 = .ok (.istore_n 2, 1) := by decide +kernel
theorem d_Scr_succeeds_8 : decode prog_7_method_6_code 8 = .ok (.iload_n 1, 1) := by decide +kernel
theorem d_Scr_succeeds_9 : decode prog_7_method_6_code 9 = .ok (.bipush 10, 2) := by decide +kernel
theorem d_Scr_succeeds_11 : decode prog_7_method_6_code 11 = .ok (.idiv, 1) := by decide +kernel
theorem d_Scr_succeeds_12 : decode prog_7_method_6_code 12 = .ok (.bipush 10, 2) := by decide +kernel
theorem d_Scr_succeeds_14 : decode prog_7_method_6_code 14 = .ok (.irem, 1) := by decide +kernel
theorem d_Scr_succeeds_15 : decode prog_7_method_6_code 15 = .ok (.istore_n 3, 1) := by decide +kernel
theorem d_Scr_succeeds_16 : decode prog_7_method_6_code 16 = .ok (.iload_n 1, 1) := by decide +kernel
theorem d_Scr_succeeds_17 : decode prog_7_method_6_code 17 = .ok (.bipush 10, 2) := by decide +kernel
theorem d_Scr_succeeds_19 : decode prog_7_method_6_code 19 = .ok (.irem, 1) := by decide +kernel
theorem d_Scr_succeeds_20 : decode prog_7_method_6_code 20 = .ok (.istore 4, 2) := by decide +kernel
theorem d_Scr_succeeds_22 : decode prog_7_method_6_code 22 = .ok (.iload_n 1, 1) := by decide +kernel
theorem d_Scr_succeeds_23 : decode prog_7_method_6_code 23 = .ok (.bipush 100, 2) := by decide +kernel
theorem d_Scr_succeeds_25 : decode prog_7_method_6_code 25 = .ok (.irem, 1) := by decide +kernel
theorem d_Scr_succeeds_26 : decode prog_7_method_6_code 26 = .ok (.istore 5, 2) := by decide +kernel
theorem d_Scr_succeeds_28 : decode prog_7_method_6_code 28 = .ok (.iload_n 1, 1) := by decide +kernel
theorem d_Scr_succeeds_29 : decode prog_7_method_6_code 29 = .ok (.sipush 1000, 3) := by decide +kernel
theorem d_Scr_succeeds_32 : decode prog_7_method_6_code 32 = .ok (.idiv, 1) := by decide +kernel
theorem d_Scr_succeeds_33 : decode prog_7_method_6_code 33 = .ok (.tableswitch 266 1 9 #[51, 70, 90, 112, 131, 154, 177, 205, 235], 51) := by decide +kernel
theorem d_Scr_succeeds_84 : decode prog_7_method_6_code 84 = .ok (.iload_n 2, 1) := by decide +kernel
theorem d_Scr_succeeds_85 : decode prog_7_method_6_code 85 = .ok (.ifCond .ne 16, 3) := by decide +kernel
theorem d_Scr_succeeds_88 : decode prog_7_method_6_code 88 = .ok (.aload_n 0, 1) := by decide +kernel
theorem d_Scr_succeeds_89 : decode prog_7_method_6_code 89 = .ok (.iload 5, 2) := by decide +kernel
theorem d_Scr_succeeds_91 : decode prog_7_method_6_code 91 = .ok (.invokestatic 38, 3) := by decide +kernel
theorem d_Scr_succeeds_94 : decode prog_7_method_6_code 94 = .ok (.ifCond .eq 7, 3) := by decide +kernel
theorem d_Scr_succeeds_97 : decode prog_7_method_6_code 97 = .ok (.iconst 1, 1) := by decide +kernel
theorem d_Scr_succeeds_98 : decode prog_7_method_6_code 98 = .ok (.goto 4, 3) := by decide +kernel
theorem d_Scr_succeeds_101 : decode prog_7_method_6_code 101 = .ok (.iconst 0, 1) := by decide +kernel
theorem d_Scr_succeeds_102 : decode prog_7_method_6_code 102 = .ok (.ireturn, 1) := by decide +kernel
theorem d_Scr_succeeds_103 : decode prog_7_method_6_code 103 = .ok (.iload 4, 2) := by decide +kernel
theorem d_Scr_succeeds_105 : decode prog_7_method_6_code 105 = .ok (.ifCond .ne 16, 3) := by decide +kernel
theorem d_Scr_succeeds_108 : decode prog_7_method_6_code 108 = .ok (.aload_n 0, 1) := by decide +kernel
theorem d_Scr_succeeds_109 : decode prog_7_method_6_code 109 = .ok (.iload_n 2, 1) := by decide +kernel
theorem d_Scr_succeeds_110 : decode prog_7_method_6_code 110 = .ok (.iload_n 3, 1) := by decide +kernel
theorem d_Scr_succeeds_111 : decode prog_7_method_6_code 111 = .ok (.invokestatic 44, 3) := by decide +kernel
theorem d_Scr_succeeds_114 : decode prog_7_method_6_code 114 = .ok (.ifCond .eq 7, 3) := by decide +kernel
theorem d_Scr_succeeds_117 : decode prog_7_method_6_code 117 = .ok (.iconst 1, 1) := by decide +kernel
theorem d_Scr_succeeds_118 : decode prog_7_method_6_code 118 = .ok (.goto 4, 3) := by decide +kernel
theorem d_Scr_succeeds_121 : decode prog_7_method_6_code 121 = .ok (.iconst 0, 1) := by decide +kernel
theorem d_Scr_succeeds_122 : decode prog_7_method_6_code 122 = .ok (.ireturn, 1) := by decide +kernel
theorem d_Scr_succeeds_123 : decode prog_7_method_6_code 123 = .ok (.iload_n 2, 1) := by decide +kernel
theorem d_Scr_succeeds_124 : decode prog_7_method_6_code 124 = .ok (.ifCond .ne 19, 3) := by decide +kernel
theorem d_Scr_succeeds_127 : decode prog_7_method_6_code 127 = .ok (.iload 5, 2) := by decide +kernel
theorem d_Scr_succeeds_129 : decode prog_7_method_6_code 129 = .ok (.ifCond .ne 14, 3) := by decide +kernel
theorem d_Scr_succeeds_132 : decode prog_7_method_6_code 132 = .ok (.aload_n 0, 1) := by decide +kernel
theorem d_Scr_succeeds_133 : decode prog_7_method_6_code 133 = .ok (.invokestatic 48, 3) := by decide +kernel
theorem d_Scr_succeeds_136 : decode prog_7_method_6_code 136 = .ok (.ifCond .eq 7, 3) := by decide +kernel
theorem d_Scr_succeeds_139 : decode prog_7_method_6_code 139 = .ok (.iconst 1, 1) := by decide +kernel
theorem d_Scr_succeeds_140 : decode prog_7_method_6_code 140 = .ok (.goto 4, 3) := by decide +kernel
theorem d_Scr_succeeds_143 : decode prog_7_method_6_code 143 = .ok (.iconst 0, 1) := by decide +kernel
theorem d_Scr_succeeds_144 : decode prog_7_method_6_code 144 = .ok (.ireturn, 1) := by decide +kernel
theorem d_Scr_succeeds_145 : decode prog_7_method_6_code 145 = .ok (.iload_n 2, 1) := by decide +kernel
theorem d_Scr_succeeds_146 : decode prog_7_method_6_code 146 = .ok (.ifCond .ne 16, 3) := by decide +kernel
theorem d_Scr_succeeds_149 : decode prog_7_method_6_code 149 = .ok (.aload_n 0, 1) := by decide +kernel
theorem d_Scr_succeeds_150 : decode prog_7_method_6_code 150 = .ok (.iload 5, 2) := by decide +kernel
theorem d_Scr_succeeds_152 : decode prog_7_method_6_code 152 = .ok (.invokestatic 52, 3) := by decide +kernel
theorem d_Scr_succeeds_155 : decode prog_7_method_6_code 155 = .ok (.ifCond .eq 7, 3) := by decide +kernel
theorem d_Scr_succeeds_158 : decode prog_7_method_6_code 158 = .ok (.iconst 1, 1) := by decide +kernel
theorem d_Scr_succeeds_159 : decode prog_7_method_6_code 159 = .ok (.goto 4, 3) := by decide +kernel
theorem d_Scr_succeeds_162 : decode prog_7_method_6_code 162 = .ok (.iconst 0, 1) := by decide +kernel
theorem d_Scr_succeeds_163 : decode prog_7_method_6_code 163 = .ok (.ireturn, 1) := by decide +kernel
theorem d_Scr_succeeds_164 : decode prog_7_method_6_code 164 = .ok (.iload_n 2, 1) := by decide +kernel
theorem d_Scr_succeeds_165 : decode prog_7_method_6_code 165 = .ok (.ifCond .ne 20, 3) := by decide +kernel
theorem d_Scr_succeeds_168 : decode prog_7_method_6_code 168 = .ok (.iload_n 3, 1) := by decide +kernel
theorem d_Scr_succeeds_169 : decode prog_7_method_6_code 169 = .ok (.ifCond .ne 16, 3) := by decide +kernel
theorem d_Scr_succeeds_172 : decode prog_7_method_6_code 172 = .ok (.aload_n 0, 1) := by decide +kernel
theorem d_Scr_succeeds_173 : decode prog_7_method_6_code 173 = .ok (.iload 4, 2) := by decide +kernel
theorem d_Scr_succeeds_175 : decode prog_7_method_6_code 175 = .ok (.invokestatic 55, 3) := by decide +kernel
theorem d_Scr_succeeds_178 : decode prog_7_method_6_code 178 = .ok (.ifCond .eq 7, 3) := by decide +kernel
theorem d_Scr_succeeds_181 : decode prog_7_method_6_code 181 = .ok (.iconst 1, 1) := by decide +kernel
theorem d_Scr_succeeds_182 : decode prog_7_method_6_code 182 = .ok (.goto 4, 3) := by decide +kernel
theorem d_Scr_succeeds_185 : decode prog_7_method_6_code 185 = .ok (.iconst 0, 1) := by decide +kernel
theorem d_Scr_succeeds_186 : decode prog_7_method_6_code 186 = .ok (.ireturn, 1) := by decide +kernel
theorem d_Scr_succeeds_187 : decode prog_7_method_6_code 187 = .ok (.iload_n 2, 1) := by decide +kernel
theorem d_Scr_succeeds_188 : decode prog_7_method_6_code 188 = .ok (.ifCond .ne 20, 3) := by decide +kernel
theorem d_Scr_succeeds_191 : decode prog_7_method_6_code 191 = .ok (.iload_n 3, 1) := by decide +kernel
theorem d_Scr_succeeds_192 : decode prog_7_method_6_code 192 = .ok (.ifCond .ne 16, 3) := by decide +kernel
theorem d_Scr_succeeds_195 : decode prog_7_method_6_code 195 = .ok (.aload_n 0, 1) := by decide +kernel
theorem d_Scr_succeeds_196 : decode prog_7_method_6_code 196 = .ok (.getfield 58, 3) := by decide +kernel
theorem d_Scr_succeeds_199 : decode prog_7_method_6_code 199 = .ok (.iload 4, 2) := by decide +kernel
theorem d_Scr_succeeds_201 : decode prog_7_method_6_code 201 = .ok (.if_icmp .ne 7, 3) := by decide +kernel
theorem d_Scr_succeeds_204 : decode prog_7_method_6_code 204 = .ok (.iconst 1, 1) := by decide +kernel
theorem d_Scr_succeeds_205 : decode prog_7_method_6_code 205 = .ok (.goto 4, 3) := by decide +kernel
theorem d_Scr_succeeds_208 : decode prog_7_method_6_code 208 = .ok (.iconst 0, 1) := by decide +kernel
theorem d_Scr_succeeds_209 : decode prog_7_method_6_code 209 = .ok (.ireturn, 1) := by decide +kernel
theorem d_Scr_succeeds_210 : decode prog_7_method_6_code 210 = .ok (.iload_n 3, 1) := by decide +kernel
theorem d_Scr_succeeds_211 : decode prog_7_method_6_code 211 = .ok (.ifCond .ne 25, 3) := by decide +kernel
theorem d_Scr_succeeds_214 : decode prog_7_method_6_code 214 = .ok (.iload_n 2, 1) := by decide +kernel
theorem d_Scr_succeeds_215 : decode prog_7_method_6_code 215 = .ok (.iconst 2, 1) := by decide +kernel
theorem d_Scr_succeeds_216 : decode prog_7_method_6_code 216 = .ok (.if_icmp .ge 20, 3) := by decide +kernel
theorem d_Scr_succeeds_219 : decode prog_7_method_6_code 219 = .ok (.aload_n 0, 1) := by decide +kernel
theorem d_Scr_succeeds_220 : decode prog_7_method_6_code 220 = .ok (.getfield 61, 3) := by decide +kernel
theorem d_Scr_succeeds_223 : decode prog_7_method_6_code 223 = .ok (.iload_n 2, 1) := by decide +kernel
theorem d_Scr_succeeds_224 : decode prog_7_method_6_code 224 = .ok (.invokestatic 65, 3) := by decide +kernel
theorem d_Scr_succeeds_227 : decode prog_7_method_6_code 227 = .ok (.iload 4, 2) := by decide +kernel
theorem d_Scr_succeeds_229 : decode prog_7_method_6_code 229 = .ok (.if_icmp .lt 7, 3) := by decide +kernel
theorem d_Scr_succeeds_232 : decode prog_7_method_6_code 232 = .ok (.iconst 1, 1) := by decide +kernel
theorem d_Scr_succeeds_233 : decode prog_7_method_6_code 233 = .ok (.goto 4, 3) := by decide +kernel
theorem d_Scr_succeeds_236 : decode prog_7_method_6_code 236 = .ok (.iconst 0, 1) := by decide +kernel
theorem d_Scr_succeeds_237 : decode prog_7_method_6_code 237 = .ok (.ireturn, 1) := by decide +kernel
theorem d_Scr_succeeds_238 : decode prog_7_method_6_code 238 = .ok (.iload_n 2, 1) := by decide +kernel
theorem d_Scr_succeeds_239 : decode prog_7_method_6_code 239 = .ok (.iconst 4, 1) := by decide +kernel
theorem d_Scr_succeeds_240 : decode prog_7_method_6_code 240 = .ok (.if_icmp .ge 26, 3) := by decide +kernel
theorem d_Scr_succeeds_243 : decode prog_7_method_6_code 243 = .ok (.iload_n 3, 1) := by decide +kernel
theorem d_Scr_succeeds_244 : decode prog_7_method_6_code 244 = .ok (.iconst 4, 1) := by decide +kernel
theorem d_Scr_succeeds_245 : decode prog_7_method_6_code 245 = .ok (.if_icmp .ge 21, 3) := by decide +kernel
theorem d_Scr_succeeds_248 : decode prog_7_method_6_code 248 = .ok (.aload_n 0, 1) := by decide +kernel
theorem d_Scr_succeeds_249 : decode prog_7_method_6_code 249 = .ok (.getfield 69, 3) := by decide +kernel
theorem d_Scr_succeeds_252 : decode prog_7_method_6_code 252 = .ok (.iload_n 2, 1) := by decide +kernel
theorem d_Scr_succeeds_253 : decode prog_7_method_6_code 253 = .ok (.iload_n 3, 1) := by decide +kernel
theorem d_Scr_succeeds_254 : decode prog_7_method_6_code 254 = .ok (.invokevirtual 73, 3) := by decide +kernel
theorem d_Scr_succeeds_257 : decode prog_7_method_6_code 257 = .ok (.iload 4, 2) := by decide +kernel
theorem d_Scr_succeeds_259 : decode prog_7_method_6_code 259 = .ok (.if_icmp .ne 7, 3) := by decide +kernel
theorem d_Scr_succeeds_262 : decode prog_7_method_6_code 262 = .ok (.iconst 1, 1) := by decide +kernel
theorem d_Scr_succeeds_263 : decode prog_7_method_6_code 263 = .ok (.goto 4, 3) := by decide +kernel
theorem d_Scr_succeeds_266 : decode prog_7_method_6_code 266 = .ok (.iconst 0, 1) := by decide +kernel
theorem d_Scr_succeeds_267 : decode prog_7_method_6_code 267 = .ok (.ireturn, 1) := by decide +kernel
theorem d_Scr_succeeds_268 : decode prog_7_method_6_code 268 = .ok (.iload_n 2, 1) := by decide +kernel
theorem d_Scr_succeeds_269 : decode prog_7_method_6_code 269 = .ok (.iconst 4, 1) := by decide +kernel
theorem d_Scr_succeeds_270 : decode prog_7_method_6_code 270 = .ok (.if_icmp .ge 27, 3) := by decide +kernel
theorem d_Scr_succeeds_273 : decode prog_7_method_6_code 273 = .ok (.iload 5, 2) := by decide +kernel
theorem d_Scr_succeeds_275 : decode prog_7_method_6_code 275 = .ok (.bipush 32, 2) := by decide +kernel
theorem d_Scr_succeeds_277 : decode prog_7_method_6_code 277 = .ok (.if_icmp .ge 20, 3) := by decide +kernel
theorem d_Scr_succeeds_280 : decode prog_7_method_6_code 280 = .ok (.aload_n 0, 1) := by decide +kernel
theorem d_Scr_succeeds_281 : decode prog_7_method_6_code 281 = .ok (.getfield 79, 3) := by decide +kernel
theorem d_Scr_succeeds_284 : decode prog_7_method_6_code 284 = .ok (.iload 5, 2) := by decide +kernel
theorem d_Scr_succeeds_286 : decode prog_7_method_6_code 286 = .ok (.invokevirtual 83, 3) := by decide +kernel
theorem d_Scr_succeeds_289 : decode prog_7_method_6_code 289 = .ok (.iload_n 2, 1) := by decide +kernel
theorem d_Scr_succeeds_290 : decode prog_7_method_6_code 290 = .ok (.if_icmp .ne 7, 3) := by decide +kernel
theorem d_Scr_succeeds_293 : decode prog_7_method_6_code 293 = .ok (.iconst 1, 1) := by decide +kernel
theorem d_Scr_succeeds_294 : decode prog_7_method_6_code 294 = .ok (.goto 4, 3) := by decide +kernel
theorem d_Scr_succeeds_297 : decode prog_7_method_6_code 297 = .ok (.iconst 0, 1) := by decide +kernel
theorem d_Scr_succeeds_298 : decode prog_7_method_6_code 298 = .ok (.ireturn, 1) := by decide +kernel
theorem d_Scr_succeeds_299 : decode prog_7_method_6_code 299 = .ok (.iconst 0, 1) := by decide +kernel
theorem d_Scr_succeeds_300 : decode prog_7_method_6_code 300 = .ok (.ireturn, 1) := by decide +kernel
theorem w_909 : Cond.methodLink "DropSignals$Scripts" 38 ⟨"DropSignals$Scripts", "tryDeal", "(LDropSignals$Evening;I)Z"⟩ ∈ gWs := gWs_in (i := 909) (by decide +kernel) rfl
theorem w_913 : Cond.methodLink "DropSignals$Scripts" 44 ⟨"DropSignals$Scripts", "tryBid", "(LDropSignals$Evening;II)Z"⟩ ∈ gWs := gWs_in (i := 913) (by decide +kernel) rfl
theorem w_914 : Cond.methodLink "DropSignals$Scripts" 48 ⟨"DropSignals$Scripts", "tryPass", "(LDropSignals$Evening;)Z"⟩ ∈ gWs := gWs_in (i := 914) (by decide +kernel) rfl
theorem w_915 : Cond.methodLink "DropSignals$Scripts" 52 ⟨"DropSignals$Scripts", "tryCard", "(LDropSignals$Evening;I)Z"⟩ ∈ gWs := gWs_in (i := 915) (by decide +kernel) rfl
theorem w_916 : Cond.methodLink "DropSignals$Scripts" 55 ⟨"DropSignals$Scripts", "tryAdvices", "(LDropSignals$Evening;I)Z"⟩ ∈ gWs := gWs_in (i := 916) (by decide +kernel) rfl
theorem fl_Scr_58 : gFlN "DropSignals$Scripts" 58 2 6 := ⟨gN2, gF2, 14, 133, "DropSignals", rfl, uw_2, by decide, by decide +kernel⟩
theorem fl_Scr_61 : gFlN "DropSignals$Scripts" 61 2 2 := ⟨gN2, gF2, 14, 124, "DropSignals", rfl, uw_2, by decide, by decide +kernel⟩
theorem fl_Scr_69 : gFlN "DropSignals$Scripts" 69 2 1 := ⟨gN2, gF2, 14, 121, "DropSignals", rfl, uw_2, by decide, by decide +kernel⟩
theorem w_918 : Cond.methodLink "DropSignals$Scripts" 73 ⟨"DropSignals$Drops", "signal", "(II)I"⟩ ∈ gWs := gWs_in (i := 918) (by decide +kernel) rfl
theorem fl_Scr_79 : gFlN "DropSignals$Scripts" 79 2 0 := ⟨gN2, gF2, 14, 118, "DropSignals", rfl, uw_2, by decide, by decide +kernel⟩
theorem w_919 : Cond.methodLink "DropSignals$Scripts" 83 ⟨"DropSignals$Cards", "holder", "(I)I"⟩ ∈ gWs := gWs_in (i := 919) (by decide +kernel) rfl
noncomputable def f_Scr_succeeds (e0 : Nat) (M : gMem) (a1 : Int32) : Option (Int32 × gMem) :=
  if (a1 / 1000) = 1 then
    if (gRem (a1 / 100) 10) = 0 then
      (f_Scr_tryDeal e0 M (gRem a1 100)).bind fun q2 =>
      if q2.1 = 0 then
        some (0, q2.2)
      else
        some (1, q2.2)
    else
      some (0, M)
  else
  if (a1 / 1000) = 2 then
    if (gRem a1 10) = 0 then
      (f_Scr_tryBid e0 M (gRem (a1 / 100) 10) (gRem (a1 / 10) 10)).bind fun q6 =>
      if q6.1 = 0 then
        some (0, q6.2)
      else
        some (1, q6.2)
    else
      some (0, M)
  else
  if (a1 / 1000) = 3 then
    if (gRem (a1 / 100) 10) = 0 then
      if (gRem a1 100) = 0 then
        (f_Scr_tryPass e0 M).bind fun q10 =>
        if q10.1 = 0 then
          some (0, q10.2)
        else
          some (1, q10.2)
      else
        some (0, M)
    else
      some (0, M)
  else
  if (a1 / 1000) = 4 then
    if (gRem (a1 / 100) 10) = 0 then
      (f_Scr_tryCard e0 M (gRem a1 100)).bind fun q15 =>
      if q15.1 = 0 then
        some (0, q15.2)
      else
        some (1, q15.2)
    else
      some (0, M)
  else
  if (a1 / 1000) = 5 then
    if (gRem (a1 / 100) 10) = 0 then
      if (gRem (a1 / 10) 10) = 0 then
        (f_Scr_tryAdvices e0 M (gRem a1 10)).bind fun q19 =>
        if q19.1 = 0 then
          some (0, q19.2)
        else
          some (1, q19.2)
      else
        some (0, M)
    else
      some (0, M)
  else
  if (a1 / 1000) = 6 then
    if (gRem (a1 / 100) 10) = 0 then
      if (gRem (a1 / 10) 10) = 0 then
        if (M e0 0 6) = (gRem a1 10) then
          some (1, M)
        else
          some (0, M)
      else
        some (0, M)
    else
      some (0, M)
  else
  if (a1 / 1000) = 7 then
    if (gRem (a1 / 10) 10) = 0 then
      if 2 ≤ (gRem (a1 / 100) 10) then
        some (0, M)
      else
        (f_DS_at e0 3 2 M (gRem (a1 / 100) 10)).bind fun q28 =>
        if q28 < (gRem a1 10) then
          some (0, M)
        else
          some (1, M)
    else
      some (0, M)
  else
  if (a1 / 1000) = 8 then
    if 4 ≤ (gRem (a1 / 100) 10) then
      some (0, M)
    else
      if 4 ≤ (gRem (a1 / 10) 10) then
        some (0, M)
      else
        (f_Drops_signal e0 M (gRem (a1 / 100) 10) (gRem (a1 / 10) 10)).bind fun q33 =>
        if q33 = (gRem a1 10) then
          some (1, M)
        else
          some (0, M)
  else
  if (a1 / 1000) = 9 then
    if 4 ≤ (gRem (a1 / 100) 10) then
      some (0, M)
    else
      if 32 ≤ (gRem a1 100) then
        some (0, M)
      else
        (f_Cards_holder e0 M (gRem a1 100)).bind fun q38 =>
        if q38 = (gRem (a1 / 100) 10) then
          some (1, M)
        else
          some (0, M)
  else
  some (0, M)
theorem t_Scr_succeeds {l : Launch} {ε : gEnv} (e0 : Nat) (hE0 : gEv ε e0) (M : gMem) (a1 : Int32) (r : (Int32 × gMem)) (h : f_Scr_succeeds e0 M a1 = some r) : gGo l ε k_Scr_succeeds (gR 5 115) (gFn ε (some (.int r.1)) r.2) 0 [(0, .ref (ε.2.2.1 e0 0)), (1, .int a1)] [] M := by
  unfold f_Scr_succeeds at h
  refine g_iload_n d_Scr_succeeds_0 rfl 1 rfl ?_
  refine g_bipush (v := 100) d_Scr_succeeds_1 (by decide) ?_
  refine g_idiv d_Scr_succeeds_3 (by decide) ?_
  refine g_bipush (v := 10) d_Scr_succeeds_4 (by decide) ?_
  refine g_rem d_Scr_succeeds_6 (by decide) ?_
  refine g_istore_n (L' := [(2, .int (gRem (a1 / 100) 10)), (0, .ref (ε.2.2.1 e0 0)), (1, .int a1)]) d_Scr_succeeds_7 rfl (by decide) rfl ?_
  refine g_iload_n d_Scr_succeeds_8 rfl 2 rfl ?_
  refine g_bipush (v := 10) d_Scr_succeeds_9 (by decide) ?_
  refine g_idiv d_Scr_succeeds_11 (by decide) ?_
  refine g_bipush (v := 10) d_Scr_succeeds_12 (by decide) ?_
  refine g_rem d_Scr_succeeds_14 (by decide) ?_
  refine g_istore_n (L' := [(3, .int (gRem (a1 / 10) 10)), (2, .int (gRem (a1 / 100) 10)), (0, .ref (ε.2.2.1 e0 0)), (1, .int a1)]) d_Scr_succeeds_15 rfl (by decide) rfl ?_
  refine g_iload_n d_Scr_succeeds_16 rfl 3 rfl ?_
  refine g_bipush (v := 10) d_Scr_succeeds_17 (by decide) ?_
  refine g_rem d_Scr_succeeds_19 (by decide) ?_
  refine g_istore (L' := [(4, .int (gRem a1 10)), (3, .int (gRem (a1 / 10) 10)), (2, .int (gRem (a1 / 100) 10)), (0, .ref (ε.2.2.1 e0 0)), (1, .int a1)]) d_Scr_succeeds_20 (by decide) rfl ?_
  refine g_iload_n d_Scr_succeeds_22 rfl 4 rfl ?_
  refine g_bipush (v := 100) d_Scr_succeeds_23 (by decide) ?_
  refine g_rem d_Scr_succeeds_25 (by decide) ?_
  refine g_istore (L' := [(5, .int (gRem a1 100)), (4, .int (gRem a1 10)), (3, .int (gRem (a1 / 10) 10)), (2, .int (gRem (a1 / 100) 10)), (0, .ref (ε.2.2.1 e0 0)), (1, .int a1)]) d_Scr_succeeds_26 (by decide) rfl ?_
  refine g_iload_n d_Scr_succeeds_28 rfl 5 rfl ?_
  refine g_sipush (v := 1000) d_Scr_succeeds_29 (by decide) ?_
  refine g_idiv d_Scr_succeeds_32 (by decide) ?_
  by_cases c1 : (a1 / 1000) = 1
  · rw [if_pos c1] at h
    refine g_tabIn (off := 51) (tgt := 84) d_Scr_succeeds_33 (by rw [c1]; decide) (by rw [c1]; decide) (by rw [c1]; rfl) (by decide) ?_
    refine g_iload_n d_Scr_succeeds_84 rfl 3 rfl ?_
    refine g_if_ne (tgt := 101) d_Scr_succeeds_85 (by decide) (fun c4 => ?_) (fun c4 => ?_)
    · rw [if_neg c4] at h
      refine g_iconst (v := 0) d_Scr_succeeds_101 (by decide) ?_
      obtain rfl := Option.some.inj h
      exact g_zret d_Scr_succeeds_102 rfl gZ0
    · rw [if_pos c4] at h
      refine g_aload_n d_Scr_succeeds_88 rfl 4 rfl ?_
      refine g_iload d_Scr_succeeds_89 0 rfl ?_
      obtain ⟨q2, hq2, h⟩ := gOb h
      refine g_callS_i (As := [.ref (ε.2.2.1 e0 0), .int (gRem a1 100)]) (rest := []) (ct_Scr_tryDeal e0 hE0 M (gRem a1 100) _ hq2) d_Scr_succeeds_91 ca_Scr_tryDeal w_909 rfl rfl (Nat.le_of_ble_eq_true rfl) ⟨(Nat.le_of_ble_eq_true rfl), (Nat.le_of_ble_eq_true rfl)⟩ ?_
      refine g_if_eq (tgt := 101) d_Scr_succeeds_94 (by decide) (fun c3 => ?_) (fun c3 => ?_)
      · rw [if_pos c3] at h
        refine g_iconst (v := 0) d_Scr_succeeds_101 (by decide) ?_
        obtain rfl := Option.some.inj h
        exact g_zret d_Scr_succeeds_102 rfl gZ0
      · rw [if_neg c3] at h
        refine g_iconst (v := 1) d_Scr_succeeds_97 (by decide) ?_
        refine g_goto (tgt := 102) d_Scr_succeeds_98 (by decide) ?_
        obtain rfl := Option.some.inj h
        exact g_zret d_Scr_succeeds_102 rfl gZ1
  rw [if_neg c1] at h
  by_cases c5 : (a1 / 1000) = 2
  · rw [if_pos c5] at h
    refine g_tabIn (off := 70) (tgt := 103) d_Scr_succeeds_33 (by rw [c5]; decide) (by rw [c5]; decide) (by rw [c5]; rfl) (by decide) ?_
    refine g_iload d_Scr_succeeds_103 1 rfl ?_
    refine g_if_ne (tgt := 121) d_Scr_succeeds_105 (by decide) (fun c8 => ?_) (fun c8 => ?_)
    · rw [if_neg c8] at h
      refine g_iconst (v := 0) d_Scr_succeeds_121 (by decide) ?_
      obtain rfl := Option.some.inj h
      exact g_zret d_Scr_succeeds_122 rfl gZ0
    · rw [if_pos c8] at h
      refine g_aload_n d_Scr_succeeds_108 rfl 4 rfl ?_
      refine g_iload_n d_Scr_succeeds_109 rfl 3 rfl ?_
      refine g_iload_n d_Scr_succeeds_110 rfl 2 rfl ?_
      obtain ⟨q6, hq6, h⟩ := gOb h
      refine g_callS_i (As := [.ref (ε.2.2.1 e0 0), .int (gRem (a1 / 100) 10), .int (gRem (a1 / 10) 10)]) (rest := []) (ct_Scr_tryBid e0 hE0 M (gRem (a1 / 100) 10) (gRem (a1 / 10) 10) _ hq6) d_Scr_succeeds_111 ca_Scr_tryBid w_913 rfl rfl (Nat.le_of_ble_eq_true rfl) ⟨(Nat.le_of_ble_eq_true rfl), (Nat.le_of_ble_eq_true rfl)⟩ ?_
      refine g_if_eq (tgt := 121) d_Scr_succeeds_114 (by decide) (fun c7 => ?_) (fun c7 => ?_)
      · rw [if_pos c7] at h
        refine g_iconst (v := 0) d_Scr_succeeds_121 (by decide) ?_
        obtain rfl := Option.some.inj h
        exact g_zret d_Scr_succeeds_122 rfl gZ0
      · rw [if_neg c7] at h
        refine g_iconst (v := 1) d_Scr_succeeds_117 (by decide) ?_
        refine g_goto (tgt := 122) d_Scr_succeeds_118 (by decide) ?_
        obtain rfl := Option.some.inj h
        exact g_zret d_Scr_succeeds_122 rfl gZ1
  rw [if_neg c5] at h
  by_cases c9 : (a1 / 1000) = 3
  · rw [if_pos c9] at h
    refine g_tabIn (off := 90) (tgt := 123) d_Scr_succeeds_33 (by rw [c9]; decide) (by rw [c9]; decide) (by rw [c9]; rfl) (by decide) ?_
    refine g_iload_n d_Scr_succeeds_123 rfl 3 rfl ?_
    refine g_if_ne (tgt := 143) d_Scr_succeeds_124 (by decide) (fun c13 => ?_) (fun c13 => ?_)
    · rw [if_neg c13] at h
      refine g_iconst (v := 0) d_Scr_succeeds_143 (by decide) ?_
      obtain rfl := Option.some.inj h
      exact g_zret d_Scr_succeeds_144 rfl gZ0
    · rw [if_pos c13] at h
      refine g_iload d_Scr_succeeds_127 0 rfl ?_
      refine g_if_ne (tgt := 143) d_Scr_succeeds_129 (by decide) (fun c12 => ?_) (fun c12 => ?_)
      · rw [if_neg c12] at h
        refine g_iconst (v := 0) d_Scr_succeeds_143 (by decide) ?_
        obtain rfl := Option.some.inj h
        exact g_zret d_Scr_succeeds_144 rfl gZ0
      · rw [if_pos c12] at h
        refine g_aload_n d_Scr_succeeds_132 rfl 4 rfl ?_
        obtain ⟨q10, hq10, h⟩ := gOb h
        refine g_callS_i (As := [.ref (ε.2.2.1 e0 0)]) (rest := []) (ct_Scr_tryPass e0 hE0 M _ hq10) d_Scr_succeeds_133 ca_Scr_tryPass w_914 rfl rfl (Nat.le_of_ble_eq_true rfl) ⟨(Nat.le_of_ble_eq_true rfl), (Nat.le_of_ble_eq_true rfl)⟩ ?_
        refine g_if_eq (tgt := 143) d_Scr_succeeds_136 (by decide) (fun c11 => ?_) (fun c11 => ?_)
        · rw [if_pos c11] at h
          refine g_iconst (v := 0) d_Scr_succeeds_143 (by decide) ?_
          obtain rfl := Option.some.inj h
          exact g_zret d_Scr_succeeds_144 rfl gZ0
        · rw [if_neg c11] at h
          refine g_iconst (v := 1) d_Scr_succeeds_139 (by decide) ?_
          refine g_goto (tgt := 144) d_Scr_succeeds_140 (by decide) ?_
          obtain rfl := Option.some.inj h
          exact g_zret d_Scr_succeeds_144 rfl gZ1
  rw [if_neg c9] at h
  by_cases c14 : (a1 / 1000) = 4
  · rw [if_pos c14] at h
    refine g_tabIn (off := 112) (tgt := 145) d_Scr_succeeds_33 (by rw [c14]; decide) (by rw [c14]; decide) (by rw [c14]; rfl) (by decide) ?_
    refine g_iload_n d_Scr_succeeds_145 rfl 3 rfl ?_
    refine g_if_ne (tgt := 162) d_Scr_succeeds_146 (by decide) (fun c17 => ?_) (fun c17 => ?_)
    · rw [if_neg c17] at h
      refine g_iconst (v := 0) d_Scr_succeeds_162 (by decide) ?_
      obtain rfl := Option.some.inj h
      exact g_zret d_Scr_succeeds_163 rfl gZ0
    · rw [if_pos c17] at h
      refine g_aload_n d_Scr_succeeds_149 rfl 4 rfl ?_
      refine g_iload d_Scr_succeeds_150 0 rfl ?_
      obtain ⟨q15, hq15, h⟩ := gOb h
      refine g_callS_i (As := [.ref (ε.2.2.1 e0 0), .int (gRem a1 100)]) (rest := []) (ct_Scr_tryCard e0 hE0 M (gRem a1 100) _ hq15) d_Scr_succeeds_152 ca_Scr_tryCard w_915 rfl rfl (Nat.le_of_ble_eq_true rfl) ⟨(Nat.le_of_ble_eq_true rfl), (Nat.le_of_ble_eq_true rfl)⟩ ?_
      refine g_if_eq (tgt := 162) d_Scr_succeeds_155 (by decide) (fun c16 => ?_) (fun c16 => ?_)
      · rw [if_pos c16] at h
        refine g_iconst (v := 0) d_Scr_succeeds_162 (by decide) ?_
        obtain rfl := Option.some.inj h
        exact g_zret d_Scr_succeeds_163 rfl gZ0
      · rw [if_neg c16] at h
        refine g_iconst (v := 1) d_Scr_succeeds_158 (by decide) ?_
        refine g_goto (tgt := 163) d_Scr_succeeds_159 (by decide) ?_
        obtain rfl := Option.some.inj h
        exact g_zret d_Scr_succeeds_163 rfl gZ1
  rw [if_neg c14] at h
  by_cases c18 : (a1 / 1000) = 5
  · rw [if_pos c18] at h
    refine g_tabIn (off := 131) (tgt := 164) d_Scr_succeeds_33 (by rw [c18]; decide) (by rw [c18]; decide) (by rw [c18]; rfl) (by decide) ?_
    refine g_iload_n d_Scr_succeeds_164 rfl 3 rfl ?_
    refine g_if_ne (tgt := 185) d_Scr_succeeds_165 (by decide) (fun c22 => ?_) (fun c22 => ?_)
    · rw [if_neg c22] at h
      refine g_iconst (v := 0) d_Scr_succeeds_185 (by decide) ?_
      obtain rfl := Option.some.inj h
      exact g_zret d_Scr_succeeds_186 rfl gZ0
    · rw [if_pos c22] at h
      refine g_iload_n d_Scr_succeeds_168 rfl 2 rfl ?_
      refine g_if_ne (tgt := 185) d_Scr_succeeds_169 (by decide) (fun c21 => ?_) (fun c21 => ?_)
      · rw [if_neg c21] at h
        refine g_iconst (v := 0) d_Scr_succeeds_185 (by decide) ?_
        obtain rfl := Option.some.inj h
        exact g_zret d_Scr_succeeds_186 rfl gZ0
      · rw [if_pos c21] at h
        refine g_aload_n d_Scr_succeeds_172 rfl 4 rfl ?_
        refine g_iload d_Scr_succeeds_173 1 rfl ?_
        obtain ⟨q19, hq19, h⟩ := gOb h
        refine g_callS_i (As := [.ref (ε.2.2.1 e0 0), .int (gRem a1 10)]) (rest := []) (ct_Scr_tryAdvices e0 hE0 M (gRem a1 10) _ hq19) d_Scr_succeeds_175 ca_Scr_tryAdvices w_916 rfl rfl (Nat.le_of_ble_eq_true rfl) ⟨(Nat.le_of_ble_eq_true rfl), (Nat.le_of_ble_eq_true rfl)⟩ ?_
        refine g_if_eq (tgt := 185) d_Scr_succeeds_178 (by decide) (fun c20 => ?_) (fun c20 => ?_)
        · rw [if_pos c20] at h
          refine g_iconst (v := 0) d_Scr_succeeds_185 (by decide) ?_
          obtain rfl := Option.some.inj h
          exact g_zret d_Scr_succeeds_186 rfl gZ0
        · rw [if_neg c20] at h
          refine g_iconst (v := 1) d_Scr_succeeds_181 (by decide) ?_
          refine g_goto (tgt := 186) d_Scr_succeeds_182 (by decide) ?_
          obtain rfl := Option.some.inj h
          exact g_zret d_Scr_succeeds_186 rfl gZ1
  rw [if_neg c18] at h
  by_cases c23 : (a1 / 1000) = 6
  · rw [if_pos c23] at h
    refine g_tabIn (off := 154) (tgt := 187) d_Scr_succeeds_33 (by rw [c23]; decide) (by rw [c23]; decide) (by rw [c23]; rfl) (by decide) ?_
    refine g_iload_n d_Scr_succeeds_187 rfl 3 rfl ?_
    refine g_if_ne (tgt := 208) d_Scr_succeeds_188 (by decide) (fun c26 => ?_) (fun c26 => ?_)
    · rw [if_neg c26] at h
      refine g_iconst (v := 0) d_Scr_succeeds_208 (by decide) ?_
      obtain rfl := Option.some.inj h
      exact g_zret d_Scr_succeeds_209 rfl gZ0
    · rw [if_pos c26] at h
      refine g_iload_n d_Scr_succeeds_191 rfl 2 rfl ?_
      refine g_if_ne (tgt := 208) d_Scr_succeeds_192 (by decide) (fun c25 => ?_) (fun c25 => ?_)
      · rw [if_neg c25] at h
        refine g_iconst (v := 0) d_Scr_succeeds_208 (by decide) ?_
        obtain rfl := Option.some.inj h
        exact g_zret d_Scr_succeeds_209 rfl gZ0
      · rw [if_pos c25] at h
        refine g_aload_n d_Scr_succeeds_195 rfl 4 rfl ?_
        refine g_getIN d_Scr_succeeds_196 fl_Scr_58 (gEv_h0 hE0) rfl ?_
        refine g_iload d_Scr_succeeds_199 1 rfl ?_
        refine g_icmp_ne (tgt := 208) d_Scr_succeeds_201 (by decide) (fun c24 => ?_) (fun c24 => ?_)
        · rw [if_neg c24] at h
          refine g_iconst (v := 0) d_Scr_succeeds_208 (by decide) ?_
          obtain rfl := Option.some.inj h
          exact g_zret d_Scr_succeeds_209 rfl gZ0
        · rw [if_pos c24] at h
          refine g_iconst (v := 1) d_Scr_succeeds_204 (by decide) ?_
          refine g_goto (tgt := 209) d_Scr_succeeds_205 (by decide) ?_
          obtain rfl := Option.some.inj h
          exact g_zret d_Scr_succeeds_209 rfl gZ1
  rw [if_neg c23] at h
  by_cases c27 : (a1 / 1000) = 7
  · rw [if_pos c27] at h
    refine g_tabIn (off := 177) (tgt := 210) d_Scr_succeeds_33 (by rw [c27]; decide) (by rw [c27]; decide) (by rw [c27]; rfl) (by decide) ?_
    refine g_iload_n d_Scr_succeeds_210 rfl 2 rfl ?_
    refine g_if_ne (tgt := 236) d_Scr_succeeds_211 (by decide) (fun c31 => ?_) (fun c31 => ?_)
    · rw [if_neg c31] at h
      refine g_iconst (v := 0) d_Scr_succeeds_236 (by decide) ?_
      obtain rfl := Option.some.inj h
      exact g_zret d_Scr_succeeds_237 rfl gZ0
    · rw [if_pos c31] at h
      refine g_iload_n d_Scr_succeeds_214 rfl 3 rfl ?_
      refine g_iconst (v := 2) d_Scr_succeeds_215 (by decide) ?_
      refine g_icmp_ge (tgt := 236) d_Scr_succeeds_216 (by decide) (fun c30 => ?_) (fun c30 => ?_)
      · rw [if_pos c30] at h
        refine g_iconst (v := 0) d_Scr_succeeds_236 (by decide) ?_
        obtain rfl := Option.some.inj h
        exact g_zret d_Scr_succeeds_237 rfl gZ0
      · rw [if_neg c30] at h
        refine g_aload_n d_Scr_succeeds_219 rfl 4 rfl ?_
        refine g_getRN d_Scr_succeeds_220 fl_Scr_61 (gEv_h0 hE0) rfl ?_
        refine g_iload_n d_Scr_succeeds_223 rfl 3 rfl ?_
        obtain ⟨q28, hq28, h⟩ := gOb h
        refine g_callN_i (As := [.ref (ε.2.2.1 e0 3), .int (gRem (a1 / 100) 10)]) (rest := []) (j := 917) (host := "DropSignals") (ct_DS_at e0 3 2 (gEv_h3 hE0) M (gRem (a1 / 100) 10) _ hq28) d_Scr_succeeds_224 ca_DS_at (by decide +kernel) rfl rfl (Nat.le_of_ble_eq_true rfl) ⟨(Nat.le_of_ble_eq_true rfl), (Nat.le_of_ble_eq_true rfl)⟩ ?_
        refine g_iload d_Scr_succeeds_227 1 rfl ?_
        refine g_icmp_lt (tgt := 236) d_Scr_succeeds_229 (by decide) (fun c29 => ?_) (fun c29 => ?_)
        · rw [if_pos c29] at h
          refine g_iconst (v := 0) d_Scr_succeeds_236 (by decide) ?_
          obtain rfl := Option.some.inj h
          exact g_zret d_Scr_succeeds_237 rfl gZ0
        · rw [if_neg c29] at h
          refine g_iconst (v := 1) d_Scr_succeeds_232 (by decide) ?_
          refine g_goto (tgt := 237) d_Scr_succeeds_233 (by decide) ?_
          obtain rfl := Option.some.inj h
          exact g_zret d_Scr_succeeds_237 rfl gZ1
  rw [if_neg c27] at h
  by_cases c32 : (a1 / 1000) = 8
  · rw [if_pos c32] at h
    refine g_tabIn (off := 205) (tgt := 238) d_Scr_succeeds_33 (by rw [c32]; decide) (by rw [c32]; decide) (by rw [c32]; rfl) (by decide) ?_
    refine g_iload_n d_Scr_succeeds_238 rfl 3 rfl ?_
    refine g_iconst (v := 4) d_Scr_succeeds_239 (by decide) ?_
    refine g_icmp_ge (tgt := 266) d_Scr_succeeds_240 (by decide) (fun c36 => ?_) (fun c36 => ?_)
    · rw [if_pos c36] at h
      refine g_iconst (v := 0) d_Scr_succeeds_266 (by decide) ?_
      obtain rfl := Option.some.inj h
      exact g_zret d_Scr_succeeds_267 rfl gZ0
    · rw [if_neg c36] at h
      refine g_iload_n d_Scr_succeeds_243 rfl 2 rfl ?_
      refine g_iconst (v := 4) d_Scr_succeeds_244 (by decide) ?_
      refine g_icmp_ge (tgt := 266) d_Scr_succeeds_245 (by decide) (fun c35 => ?_) (fun c35 => ?_)
      · rw [if_pos c35] at h
        refine g_iconst (v := 0) d_Scr_succeeds_266 (by decide) ?_
        obtain rfl := Option.some.inj h
        exact g_zret d_Scr_succeeds_267 rfl gZ0
      · rw [if_neg c35] at h
        refine g_aload_n d_Scr_succeeds_248 rfl 4 rfl ?_
        refine g_getRN d_Scr_succeeds_249 fl_Scr_69 (gEv_h0 hE0) rfl ?_
        refine g_iload_n d_Scr_succeeds_252 rfl 3 rfl ?_
        refine g_iload_n d_Scr_succeeds_253 rfl 2 rfl ?_
        obtain ⟨q33, hq33, h⟩ := gOb h
        refine g_callV_i (As := [.int (gRem (a1 / 100) 10), .int (gRem (a1 / 10) 10)]) (rest := []) (ct_Drops_signal e0 (gEv_dr hE0) M (gRem (a1 / 100) 10) (gRem (a1 / 10) 10) _ hq33) d_Scr_succeeds_254 ca_Drops_signal w_918 (gEv_h2 hE0) rfl rfl rfl (Nat.le_of_ble_eq_true rfl) ⟨(Nat.le_of_ble_eq_true rfl), (Nat.le_of_ble_eq_true rfl)⟩ ?_
        refine g_iload d_Scr_succeeds_257 1 rfl ?_
        refine g_icmp_ne (tgt := 266) d_Scr_succeeds_259 (by decide) (fun c34 => ?_) (fun c34 => ?_)
        · rw [if_neg c34] at h
          refine g_iconst (v := 0) d_Scr_succeeds_266 (by decide) ?_
          obtain rfl := Option.some.inj h
          exact g_zret d_Scr_succeeds_267 rfl gZ0
        · rw [if_pos c34] at h
          refine g_iconst (v := 1) d_Scr_succeeds_262 (by decide) ?_
          refine g_goto (tgt := 267) d_Scr_succeeds_263 (by decide) ?_
          obtain rfl := Option.some.inj h
          exact g_zret d_Scr_succeeds_267 rfl gZ1
  rw [if_neg c32] at h
  by_cases c37 : (a1 / 1000) = 9
  · rw [if_pos c37] at h
    refine g_tabIn (off := 235) (tgt := 268) d_Scr_succeeds_33 (by rw [c37]; decide) (by rw [c37]; decide) (by rw [c37]; rfl) (by decide) ?_
    refine g_iload_n d_Scr_succeeds_268 rfl 3 rfl ?_
    refine g_iconst (v := 4) d_Scr_succeeds_269 (by decide) ?_
    refine g_icmp_ge (tgt := 297) d_Scr_succeeds_270 (by decide) (fun c41 => ?_) (fun c41 => ?_)
    · rw [if_pos c41] at h
      refine g_iconst (v := 0) d_Scr_succeeds_297 (by decide) ?_
      obtain rfl := Option.some.inj h
      exact g_zret d_Scr_succeeds_298 rfl gZ0
    · rw [if_neg c41] at h
      refine g_iload d_Scr_succeeds_273 0 rfl ?_
      refine g_bipush (v := 32) d_Scr_succeeds_275 (by decide) ?_
      refine g_icmp_ge (tgt := 297) d_Scr_succeeds_277 (by decide) (fun c40 => ?_) (fun c40 => ?_)
      · rw [if_pos c40] at h
        refine g_iconst (v := 0) d_Scr_succeeds_297 (by decide) ?_
        obtain rfl := Option.some.inj h
        exact g_zret d_Scr_succeeds_298 rfl gZ0
      · rw [if_neg c40] at h
        refine g_aload_n d_Scr_succeeds_280 rfl 4 rfl ?_
        refine g_getRN d_Scr_succeeds_281 fl_Scr_79 (gEv_h0 hE0) rfl ?_
        refine g_iload d_Scr_succeeds_284 0 rfl ?_
        obtain ⟨q38, hq38, h⟩ := gOb h
        refine g_callV_i (As := [.int (gRem a1 100)]) (rest := []) (ct_Cards_holder e0 (gEv_cd hE0) M (gRem a1 100) _ hq38) d_Scr_succeeds_286 ca_Cards_holder w_919 (gEv_h1 hE0) rfl rfl rfl (Nat.le_of_ble_eq_true rfl) ⟨(Nat.le_of_ble_eq_true rfl), (Nat.le_of_ble_eq_true rfl)⟩ ?_
        refine g_iload_n d_Scr_succeeds_289 rfl 3 rfl ?_
        refine g_icmp_ne (tgt := 297) d_Scr_succeeds_290 (by decide) (fun c39 => ?_) (fun c39 => ?_)
        · rw [if_neg c39] at h
          refine g_iconst (v := 0) d_Scr_succeeds_297 (by decide) ?_
          obtain rfl := Option.some.inj h
          exact g_zret d_Scr_succeeds_298 rfl gZ0
        · rw [if_pos c39] at h
          refine g_iconst (v := 1) d_Scr_succeeds_293 (by decide) ?_
          refine g_goto (tgt := 298) d_Scr_succeeds_294 (by decide) ?_
          obtain rfl := Option.some.inj h
          exact g_zret d_Scr_succeeds_298 rfl gZ1
  rw [if_neg c37] at h
  refine g_tabOut (tgt := 299) d_Scr_succeeds_33 (by have nc1 := lv_neT (a := 1) c1 rfl; have nc5 := lv_neT (a := 2) c5 rfl; have nc9 := lv_neT (a := 3) c9 rfl; have nc14 := lv_neT (a := 4) c14 rfl; have nc18 := lv_neT (a := 5) c18 rfl; have nc23 := lv_neT (a := 6) c23 rfl; have nc27 := lv_neT (a := 7) c27 rfl; have nc32 := lv_neT (a := 8) c32 rfl; have nc37 := lv_neT (a := 9) c37 rfl; omega) (by decide) ?_
  refine g_iconst (v := 0) d_Scr_succeeds_299 (by decide) ?_
  obtain rfl := Option.some.inj h
  exact g_zret d_Scr_succeeds_300 rfl gZ0
theorem ct_Scr_succeeds {l : Launch} {ε : gEnv} (e0 : Nat) (hE0 : gEv ε e0) (M : gMem) (a1 : Int32) (r : (Int32 × gMem)) (h : f_Scr_succeeds e0 M a1 = some r) : gCt l ε k_Scr_succeeds 5 115 [.ref (ε.2.2.1 e0 0), .int a1] M (some (.int r.1)) r.2 :=
  gCt_of (by decide) (Nat.le_of_ble_eq_true rfl) rfl (t_Scr_succeeds e0 hE0 M a1 r h)
abbrev k_Scr_doTurn : gMD := (⟨"DropSignals$Scripts", "doTurn", "(LDropSignals$Evening;I)V"⟩, prog_7_method_8_code, 4, none)
theorem w_932 : Cond.static ⟨"DropSignals$Scripts", "doTurn", "(LDropSignals$Evening;I)V"⟩ ∈ gWs := gWs_in (i := 932) (by decide +kernel) rfl
set_option maxRecDepth 100000 in
theorem ca_Scr_doTurn : gCaS k_Scr_doTurn 2 := ⟨⟨gWs_in (i := 933) rfl rfl, w_34, by decide, by decide, by decide +kernel⟩, w_932⟩
theorem d_Scr_doTurn_0 : decode prog_7_method_8_code 0 = .ok (.iload_n 1, 1) := by decide +kernel
theorem d_Scr_doTurn_1 : decode prog_7_method_8_code 1 = .ok (.bipush 16, 2) := by decide +kernel
theorem d_Scr_doTurn_3 : decode prog_7_method_8_code 3 = .ok (.idiv, 1) := by decide +kernel
theorem d_Scr_doTurn_4 : decode prog_7_method_8_code 4 = .ok (.istore_n 2, 1) := by decide +kernel
theorem d_Scr_doTurn_5 : decode prog_7_method_8_code 5 = .ok (.aload_n 0, 1) := by decide +kernel
theorem d_Scr_doTurn_6 : decode prog_7_method_8_code 6 = .ok (.getfield 19, 3) := by decide +kernel
theorem d_Scr_doTurn_9 : decode prog_7_method_8_code 9 = .ok (.iconst 1, 1) := by decide +kernel
theorem d_Scr_doTurn_10 : decode prog_7_method_8_code 10 = .ok (.if_icmp .ne 38, 3) := by decide +kernel
theorem d_Scr_doTurn_13 : decode prog_7_method_8_code 13 = .ok (.iload_n 1, 1) := by decide +kernel
theorem d_Scr_doTurn_14 : decode prog_7_method_8_code 14 = .ok (.bipush 16, 2) := by decide +kernel
theorem d_Scr_doTurn_16 : decode prog_7_method_8_code 16 = .ok (.irem, 1) := by decide +kernel
theorem d_Scr_doTurn_17 : decode prog_7_method_8_code 17 = .ok (.bipush 6, 2) := by decide +kernel
theorem d_Scr_doTurn_19 : decode prog_7_method_8_code 19 = .ok (.if_icmp .ge 21, 3) := by decide +kernel
theorem d_Scr_doTurn_22 : decode prog_7_method_8_code 22 = .ok (.aload_n 0, 1) := by decide +kernel
theorem d_Scr_doTurn_23 : decode prog_7_method_8_code 23 = .ok (.iconst 1, 1) := by decide +kernel
theorem d_Scr_doTurn_24 : decode prog_7_method_8_code 24 = .ok (.iload_n 2, 1) := by decide +kernel
theorem d_Scr_doTurn_25 : decode prog_7_method_8_code 25 = .ok (.iconst 4, 1) := by decide +kernel
theorem d_Scr_doTurn_26 : decode prog_7_method_8_code 26 = .ok (.irem, 1) := by decide +kernel
theorem d_Scr_doTurn_27 : decode prog_7_method_8_code 27 = .ok (.iadd, 1) := by decide +kernel
theorem d_Scr_doTurn_28 : decode prog_7_method_8_code 28 = .ok (.iload_n 2, 1) := by decide +kernel
theorem d_Scr_doTurn_29 : decode prog_7_method_8_code 29 = .ok (.iconst 4, 1) := by decide +kernel
theorem d_Scr_doTurn_30 : decode prog_7_method_8_code 30 = .ok (.idiv, 1) := by decide +kernel
theorem d_Scr_doTurn_31 : decode prog_7_method_8_code 31 = .ok (.iconst 5, 1) := by decide +kernel
theorem d_Scr_doTurn_32 : decode prog_7_method_8_code 32 = .ok (.irem, 1) := by decide +kernel
theorem d_Scr_doTurn_33 : decode prog_7_method_8_code 33 = .ok (.invokestatic 44, 3) := by decide +kernel
theorem d_Scr_doTurn_36 : decode prog_7_method_8_code 36 = .ok (.pop, 1) := by decide +kernel
theorem d_Scr_doTurn_37 : decode prog_7_method_8_code 37 = .ok (.goto 67, 3) := by decide +kernel
theorem d_Scr_doTurn_40 : decode prog_7_method_8_code 40 = .ok (.aload_n 0, 1) := by decide +kernel
theorem d_Scr_doTurn_41 : decode prog_7_method_8_code 41 = .ok (.invokestatic 48, 3) := by decide +kernel
theorem d_Scr_doTurn_44 : decode prog_7_method_8_code 44 = .ok (.pop, 1) := by decide +kernel
theorem d_Scr_doTurn_45 : decode prog_7_method_8_code 45 = .ok (.goto 59, 3) := by decide +kernel
theorem d_Scr_doTurn_48 : decode prog_7_method_8_code 48 = .ok (.aload_n 0, 1) := by decide +kernel
theorem d_Scr_doTurn_49 : decode prog_7_method_8_code 49 = .ok (.getfield 19, 3) := by decide +kernel
theorem d_Scr_doTurn_52 : decode prog_7_method_8_code 52 = .ok (.iconst 2, 1) := by decide +kernel
theorem d_Scr_doTurn_53 : decode prog_7_method_8_code 53 = .ok (.if_icmp .ne 45, 3) := by decide +kernel
theorem d_Scr_doTurn_56 : decode prog_7_method_8_code 56 = .ok (.aload_n 0, 1) := by decide +kernel
theorem d_Scr_doTurn_57 : decode prog_7_method_8_code 57 = .ok (.invokevirtual 92, 3) := by decide +kernel
theorem d_Scr_doTurn_60 : decode prog_7_method_8_code 60 = .ok (.istore_n 3, 1) := by decide +kernel
theorem d_Scr_doTurn_61 : decode prog_7_method_8_code 61 = .ok (.iload_n 1, 1) := by decide +kernel
theorem d_Scr_doTurn_62 : decode prog_7_method_8_code 62 = .ok (.bipush 16, 2) := by decide +kernel
theorem d_Scr_doTurn_64 : decode prog_7_method_8_code 64 = .ok (.irem, 1) := by decide +kernel
theorem d_Scr_doTurn_65 : decode prog_7_method_8_code 65 = .ok (.bipush 8, 2) := by decide +kernel
theorem d_Scr_doTurn_67 : decode prog_7_method_8_code 67 = .ok (.if_icmp .ge 22, 3) := by decide +kernel
theorem d_Scr_doTurn_70 : decode prog_7_method_8_code 70 = .ok (.iload_n 3, 1) := by decide +kernel
theorem d_Scr_doTurn_71 : decode prog_7_method_8_code 71 = .ok (.ifCond .le 18, 3) := by decide +kernel
theorem d_Scr_doTurn_74 : decode prog_7_method_8_code 74 = .ok (.aload_n 0, 1) := by decide +kernel
theorem d_Scr_doTurn_75 : decode prog_7_method_8_code 75 = .ok (.aload_n 0, 1) := by decide +kernel
theorem d_Scr_doTurn_76 : decode prog_7_method_8_code 76 = .ok (.iload_n 2, 1) := by decide +kernel
theorem d_Scr_doTurn_77 : decode prog_7_method_8_code 77 = .ok (.iload_n 3, 1) := by decide +kernel
theorem d_Scr_doTurn_78 : decode prog_7_method_8_code 78 = .ok (.irem, 1) := by decide +kernel
theorem d_Scr_doTurn_79 : decode prog_7_method_8_code 79 = .ok (.invokevirtual 95, 3) := by decide +kernel
theorem d_Scr_doTurn_82 : decode prog_7_method_8_code 82 = .ok (.invokestatic 52, 3) := by decide +kernel
theorem d_Scr_doTurn_85 : decode prog_7_method_8_code 85 = .ok (.pop, 1) := by decide +kernel
theorem d_Scr_doTurn_86 : decode prog_7_method_8_code 86 = .ok (.goto 9, 3) := by decide +kernel
theorem d_Scr_doTurn_89 : decode prog_7_method_8_code 89 = .ok (.aload_n 0, 1) := by decide +kernel
theorem d_Scr_doTurn_90 : decode prog_7_method_8_code 90 = .ok (.iconst 1, 1) := by decide +kernel
theorem d_Scr_doTurn_91 : decode prog_7_method_8_code 91 = .ok (.invokestatic 55, 3) := by decide +kernel
theorem d_Scr_doTurn_94 : decode prog_7_method_8_code 94 = .ok (.pop, 1) := by decide +kernel
theorem d_Scr_doTurn_95 : decode prog_7_method_8_code 95 = .ok (.goto 9, 3) := by decide +kernel
theorem d_Scr_doTurn_98 : decode prog_7_method_8_code 98 = .ok (.aload_n 0, 1) := by decide +kernel
theorem d_Scr_doTurn_99 : decode prog_7_method_8_code 99 = .ok (.iload_n 2, 1) := by decide +kernel
theorem d_Scr_doTurn_100 : decode prog_7_method_8_code 100 = .ok (.i2l, 1) := by decide +kernel
theorem d_Scr_doTurn_101 : decode prog_7_method_8_code 101 = .ok (.invokevirtual 88, 3) := by decide +kernel
theorem d_Scr_doTurn_104 : decode prog_7_method_8_code 104 = .ok (.return_, 1) := by decide +kernel
theorem w_934 : Cond.methodLink "DropSignals$Scripts" 92 ⟨"DropSignals$Evening", "playableCount", "()I"⟩ ∈ gWs := gWs_in (i := 934) (by decide +kernel) rfl
theorem w_938 : Cond.methodLink "DropSignals$Scripts" 95 ⟨"DropSignals$Evening", "playable", "(I)I"⟩ ∈ gWs := gWs_in (i := 938) (by decide +kernel) rfl
noncomputable def f_Scr_doTurn_b89 (e0 : Nat) (M : gMem) : Option gMem :=
  (f_Scr_tryAdvices e0 M 1).bind fun q3 =>
  some q3.2
theorem t_Scr_doTurn_b89 {l : Launch} {ε : gEnv} (e0 : Nat) (hE0 : gEv ε e0) (M : gMem) (r : gMem) (h : f_Scr_doTurn_b89 e0 M = some r) : gGo l ε k_Scr_doTurn (gR 5 115) (gFn ε none r) 89 [(0, .ref (ε.2.2.1 e0 0))] [] M := by
  unfold f_Scr_doTurn_b89 at h
  refine g_aload_n d_Scr_doTurn_89 rfl 0 rfl ?_
  refine g_iconst (v := 1) d_Scr_doTurn_90 (by decide) ?_
  obtain ⟨q3, hq3, h⟩ := gOb h
  refine g_callS_i (As := [.ref (ε.2.2.1 e0 0), .int 1]) (rest := []) (ct_Scr_tryAdvices e0 hE0 M 1 _ hq3) d_Scr_doTurn_91 ca_Scr_tryAdvices w_916 rfl rfl (Nat.le_of_ble_eq_true rfl) ⟨(Nat.le_of_ble_eq_true rfl), (Nat.le_of_ble_eq_true rfl)⟩ ?_
  refine g_pop d_Scr_doTurn_94 rfl ?_
  refine g_goto (tgt := 104) d_Scr_doTurn_95 (by decide) ?_
  obtain rfl := Option.some.inj h
  exact g_vret d_Scr_doTurn_104 rfl
noncomputable def f_Scr_doTurn (e0 : Nat) (M : gMem) (a1 : Int32) : Option gMem :=
  if (M e0 0 5) = 1 then
    if 6 ≤ (gRem a1 16) then
      (f_Scr_tryPass e0 M).bind fun q10 =>
      some q10.2
    else
      (f_Scr_tryBid e0 M (1 + (gRem (a1 / 16) 4)) (gRem ((a1 / 16) / 4) 5)).bind fun q11 =>
      some q11.2
  else
    if (M e0 0 5) = 2 then
      (f_Ev_playableCount e0 M).bind fun q2 =>
      if 8 ≤ (gRem a1 16) then
        f_Scr_doTurn_b89 e0 M
      else
        if q2 ≤ 0 then
          f_Scr_doTurn_b89 e0 M
        else
          (gNz q2).bind fun _ =>
          (f_Ev_playable e0 M (gRem (a1 / 16) q2)).bind fun q5 =>
          (f_Scr_tryCard e0 M q5).bind fun q6 =>
          some q6.2
    else
      (f_Ev_dealWith e0 M (Int32.toInt64 (a1 / 16))).bind fun q1 =>
      some q1
theorem t_Scr_doTurn {l : Launch} {ε : gEnv} (e0 : Nat) (hE0 : gEv ε e0) (M : gMem) (a1 : Int32) (r : gMem) (h : f_Scr_doTurn e0 M a1 = some r) : gGo l ε k_Scr_doTurn (gR 5 115) (gFn ε none r) 0 [(0, .ref (ε.2.2.1 e0 0)), (1, .int a1)] [] M := by
  unfold f_Scr_doTurn at h
  refine g_iload_n d_Scr_doTurn_0 rfl 1 rfl ?_
  refine g_bipush (v := 16) d_Scr_doTurn_1 (by decide) ?_
  refine g_idiv d_Scr_doTurn_3 (by decide) ?_
  refine g_istore_n (L' := [(2, .int (a1 / 16)), (0, .ref (ε.2.2.1 e0 0)), (1, .int a1)]) d_Scr_doTurn_4 rfl (by decide) rfl ?_
  refine g_aload_n d_Scr_doTurn_5 rfl 1 rfl ?_
  refine g_getIN d_Scr_doTurn_6 fl_Scr_19 (gEv_h0 hE0) rfl ?_
  refine g_iconst (v := 1) d_Scr_doTurn_9 (by decide) ?_
  refine g_icmp_ne (tgt := 48) d_Scr_doTurn_10 (by decide) (fun c13 => ?_) (fun c13 => ?_)
  · rw [if_neg c13] at h
    refine g_aload_n d_Scr_doTurn_48 rfl 1 rfl ?_
    refine g_getIN d_Scr_doTurn_49 fl_Scr_19 (gEv_h0 hE0) rfl ?_
    refine g_iconst (v := 2) d_Scr_doTurn_52 (by decide) ?_
    refine g_icmp_ne (tgt := 98) d_Scr_doTurn_53 (by decide) (fun c9 => ?_) (fun c9 => ?_)
    · rw [if_neg c9] at h
      refine g_aload_n d_Scr_doTurn_98 rfl 1 rfl ?_
      refine g_iload_n d_Scr_doTurn_99 rfl 0 rfl ?_
      refine g_i2l d_Scr_doTurn_100 ?_
      obtain ⟨q1, hq1, h⟩ := gOb h
      refine g_callV_v (As := [.long (Int32.toInt64 (a1 / 16))]) (rest := []) (ct_Ev_dealWith e0 hE0 M (Int32.toInt64 (a1 / 16)) _ hq1) d_Scr_doTurn_101 ca_Ev_dealWith w_912 (gEv_h0 hE0) rfl rfl rfl (Nat.le_of_ble_eq_true rfl) ⟨(Nat.le_of_ble_eq_true rfl), (Nat.le_of_ble_eq_true rfl)⟩ ?_
      obtain rfl := Option.some.inj h
      exact g_vret d_Scr_doTurn_104 rfl
    · rw [if_pos c9] at h
      refine g_aload_n d_Scr_doTurn_56 rfl 1 rfl ?_
      obtain ⟨q2, hq2, h⟩ := gOb h
      refine g_callV_i (As := []) (rest := []) (ct_Ev_playableCount e0 hE0 M _ hq2) d_Scr_doTurn_57 ca_Ev_playableCount w_934 (gEv_h0 hE0) rfl rfl rfl (Nat.le_of_ble_eq_true rfl) ⟨(Nat.le_of_ble_eq_true rfl), (Nat.le_of_ble_eq_true rfl)⟩ ?_
      refine g_istore_n (L' := [(3, .int q2), (2, .int (a1 / 16)), (0, .ref (ε.2.2.1 e0 0)), (1, .int a1)]) d_Scr_doTurn_60 rfl (by decide) rfl ?_
      refine g_iload_n d_Scr_doTurn_61 rfl 3 rfl ?_
      refine g_bipush (v := 16) d_Scr_doTurn_62 (by decide) ?_
      refine g_rem d_Scr_doTurn_64 (by decide) ?_
      refine g_bipush (v := 8) d_Scr_doTurn_65 (by decide) ?_
      refine g_icmp_ge (tgt := 89) d_Scr_doTurn_67 (by decide) (fun c8 => ?_) (fun c8 => ?_)
      · rw [if_pos c8] at h
        refine gGo_sub [2] rfl ?_
        exact t_Scr_doTurn_b89 e0 hE0 M _ h
      · rw [if_neg c8] at h
        refine g_iload_n d_Scr_doTurn_70 rfl 0 rfl ?_
        refine g_if_le (tgt := 89) d_Scr_doTurn_71 (by decide) (fun c7 => ?_) (fun c7 => ?_)
        · rw [if_pos c7] at h
          refine gGo_sub [2] rfl ?_
          exact t_Scr_doTurn_b89 e0 hE0 M _ h
        · rw [if_neg c7] at h
          refine g_aload_n d_Scr_doTurn_74 rfl 2 rfl ?_
          refine g_aload_n d_Scr_doTurn_75 rfl 2 rfl ?_
          refine g_iload_n d_Scr_doTurn_76 rfl 1 rfl ?_
          refine g_iload_n d_Scr_doTurn_77 rfl 0 rfl ?_
          obtain ⟨z4, hz4, h⟩ := gOb h
          refine g_rem d_Scr_doTurn_78 (gNz_s hz4).2 ?_
          obtain ⟨q5, hq5, h⟩ := gOb h
          refine g_callV_i (As := [.int (gRem (a1 / 16) q2)]) (rest := [.ref (ε.2.2.1 e0 0)]) (ct_Ev_playable e0 hE0 M (gRem (a1 / 16) q2) _ hq5) d_Scr_doTurn_79 ca_Ev_playable w_938 (gEv_h0 hE0) rfl rfl rfl (Nat.le_of_ble_eq_true rfl) ⟨(Nat.le_of_ble_eq_true rfl), (Nat.le_of_ble_eq_true rfl)⟩ ?_
          obtain ⟨q6, hq6, h⟩ := gOb h
          refine g_callS_i (As := [.ref (ε.2.2.1 e0 0), .int q5]) (rest := []) (ct_Scr_tryCard e0 hE0 M q5 _ hq6) d_Scr_doTurn_82 ca_Scr_tryCard w_915 rfl rfl (Nat.le_of_ble_eq_true rfl) ⟨(Nat.le_of_ble_eq_true rfl), (Nat.le_of_ble_eq_true rfl)⟩ ?_
          refine g_pop d_Scr_doTurn_85 rfl ?_
          refine g_goto (tgt := 95) d_Scr_doTurn_86 (by decide) ?_
          refine g_goto (tgt := 104) d_Scr_doTurn_95 (by decide) ?_
          obtain rfl := Option.some.inj h
          exact g_vret d_Scr_doTurn_104 rfl
  · rw [if_pos c13] at h
    refine g_iload_n d_Scr_doTurn_13 rfl 2 rfl ?_
    refine g_bipush (v := 16) d_Scr_doTurn_14 (by decide) ?_
    refine g_rem d_Scr_doTurn_16 (by decide) ?_
    refine g_bipush (v := 6) d_Scr_doTurn_17 (by decide) ?_
    refine g_icmp_ge (tgt := 40) d_Scr_doTurn_19 (by decide) (fun c12 => ?_) (fun c12 => ?_)
    · rw [if_pos c12] at h
      refine g_aload_n d_Scr_doTurn_40 rfl 1 rfl ?_
      obtain ⟨q10, hq10, h⟩ := gOb h
      refine g_callS_i (As := [.ref (ε.2.2.1 e0 0)]) (rest := []) (ct_Scr_tryPass e0 hE0 M _ hq10) d_Scr_doTurn_41 ca_Scr_tryPass w_914 rfl rfl (Nat.le_of_ble_eq_true rfl) ⟨(Nat.le_of_ble_eq_true rfl), (Nat.le_of_ble_eq_true rfl)⟩ ?_
      refine g_pop d_Scr_doTurn_44 rfl ?_
      refine g_goto (tgt := 104) d_Scr_doTurn_45 (by decide) ?_
      obtain rfl := Option.some.inj h
      exact g_vret d_Scr_doTurn_104 rfl
    · rw [if_neg c12] at h
      refine g_aload_n d_Scr_doTurn_22 rfl 1 rfl ?_
      refine g_iconst (v := 1) d_Scr_doTurn_23 (by decide) ?_
      refine g_iload_n d_Scr_doTurn_24 rfl 0 rfl ?_
      refine g_iconst (v := 4) d_Scr_doTurn_25 (by decide) ?_
      refine g_rem d_Scr_doTurn_26 (by decide) ?_
      refine g_iadd d_Scr_doTurn_27 ?_
      refine g_iload_n d_Scr_doTurn_28 rfl 0 rfl ?_
      refine g_iconst (v := 4) d_Scr_doTurn_29 (by decide) ?_
      refine g_idiv d_Scr_doTurn_30 (by decide) ?_
      refine g_iconst (v := 5) d_Scr_doTurn_31 (by decide) ?_
      refine g_rem d_Scr_doTurn_32 (by decide) ?_
      obtain ⟨q11, hq11, h⟩ := gOb h
      refine g_callS_i (As := [.ref (ε.2.2.1 e0 0), .int (1 + (gRem (a1 / 16) 4)), .int (gRem ((a1 / 16) / 4) 5)]) (rest := []) (ct_Scr_tryBid e0 hE0 M (1 + (gRem (a1 / 16) 4)) (gRem ((a1 / 16) / 4) 5) _ hq11) d_Scr_doTurn_33 ca_Scr_tryBid w_913 rfl rfl (Nat.le_of_ble_eq_true rfl) ⟨(Nat.le_of_ble_eq_true rfl), (Nat.le_of_ble_eq_true rfl)⟩ ?_
      refine g_pop d_Scr_doTurn_36 rfl ?_
      refine g_goto (tgt := 104) d_Scr_doTurn_37 (by decide) ?_
      obtain rfl := Option.some.inj h
      exact g_vret d_Scr_doTurn_104 rfl
theorem ct_Scr_doTurn {l : Launch} {ε : gEnv} (e0 : Nat) (hE0 : gEv ε e0) (M : gMem) (a1 : Int32) (r : gMem) (h : f_Scr_doTurn e0 M a1 = some r) : gCt l ε k_Scr_doTurn 5 115 [.ref (ε.2.2.1 e0 0), .int a1] M none r :=
  gCt_of (by decide) (Nat.le_of_ble_eq_true rfl) rfl (t_Scr_doTurn e0 hE0 M a1 r h)
abbrev k_Slots_empty : gMD := (⟨"DropSignals$Slots", "empty", "()V"⟩, prog_8_method_2_code, 2, none)
theorem w_26 : Cond.initialized "DropSignals$Slots" ∈ gWs := gWs_in (i := 26) (by decide +kernel) rfl
theorem w_422 : Cond.instanceMethod ⟨"DropSignals$Slots", "empty", "()V"⟩ ∈ gWs := gWs_in (i := 422) (by decide +kernel) rfl
theorem w_423 : Cond.selects "DropSignals$Slots" ⟨"DropSignals$Slots", "empty", "()V"⟩ ⟨"DropSignals$Slots", "empty", "()V"⟩ ∈ gWs := gWs_in (i := 423) (by decide +kernel) rfl
set_option maxRecDepth 100000 in
theorem ca_Slots_empty : gCaV k_Slots_empty 0 := ⟨⟨gWs_in (i := 424) rfl rfl, w_26, by decide, by decide, by decide +kernel⟩, w_422, w_423⟩
theorem d_Slots_empty_0 : decode prog_8_method_2_code 0 = .ok (.iconst 0, 1) := by decide +kernel
theorem d_Slots_empty_1 : decode prog_8_method_2_code 1 = .ok (.istore_n 1, 1) := by decide +kernel
theorem d_Slots_empty_2 : decode prog_8_method_2_code 2 = .ok (.iload_n 1, 1) := by decide +kernel
theorem d_Slots_empty_3 : decode prog_8_method_2_code 3 = .ok (.aload_n 0, 1) := by decide +kernel
theorem d_Slots_empty_4 : decode prog_8_method_2_code 4 = .ok (.getfield 17, 3) := by decide +kernel
theorem d_Slots_empty_7 : decode prog_8_method_2_code 7 = .ok (.arraylength, 1) := by decide +kernel
theorem d_Slots_empty_8 : decode prog_8_method_2_code 8 = .ok (.if_icmp .ge 16, 3) := by decide +kernel
theorem d_Slots_empty_11 : decode prog_8_method_2_code 11 = .ok (.aload_n 0, 1) := by decide +kernel
theorem d_Slots_empty_12 : decode prog_8_method_2_code 12 = .ok (.getfield 17, 3) := by decide +kernel
theorem d_Slots_empty_15 : decode prog_8_method_2_code 15 = .ok (.iload_n 1, 1) := by decide +kernel
theorem d_Slots_empty_16 : decode prog_8_method_2_code 16 = .ok (.iconst 0, 1) := by decide +kernel
theorem d_Slots_empty_17 : decode prog_8_method_2_code 17 = .ok (.bastore, 1) := by decide +kernel
theorem d_Slots_empty_18 : decode prog_8_method_2_code 18 = .ok (.iinc 1 1, 3) := by decide +kernel
theorem d_Slots_empty_21 : decode prog_8_method_2_code 21 = .ok (.goto (-19), 3) := by decide +kernel
theorem d_Slots_empty_24 : decode prog_8_method_2_code 24 = .ok (.return_, 1) := by decide +kernel
theorem uw_5 : ∀ w ∈ u_ws gN5 gF5 2, w ∈ gWs := by
  intro w hw
  have h := List.all_eq_true.mp (show (u_ws gN5 gF5 2).all (fun w => decide (w ∈ lw_tbl) && goodWord w) = true by decide +kernel) w hw
  simp only [Bool.and_eq_true, decide_eq_true_eq] at h
  exact List.mem_filter.mpr h
theorem w_203 : Cond.fieldLink "DropSignals$Slots" 17 "DropSignals$Slots" "used" "[Z" ∈ gWs := gWs_in (i := 203) (by decide +kernel) rfl
theorem fl_Slots_17 : gFl "DropSignals$Slots" 17 5 1 := ⟨gN5, gF5, 2, rfl, uw_5, by decide, w_203⟩
noncomputable def f_Slots_empty_s2 (M : gMem) (x1 : Int32) : Option ((Int32 × gMem) ⊕ gMem) :=
  if (Int32.ofNat 2) ≤ x1 then
    some (.inr M)
  else
    (gBl 0).bind fun _ =>
    (gWr M 18 5 2 x1 0).bind fun M1 =>
    some (.inl ((x1 + 1), M1))
theorem t_Slots_empty_s2 {l : Launch} {ε : gEnv} (hX : gXw ε) (M : gMem) (x1 : Int32) (res : ((Int32 × gMem) ⊕ gMem)) (h : f_Slots_empty_s2 M x1 = some res) (r : gMem) (k1 : ∀ s0 : (Int32 × gMem), res = .inl s0 → gGo l ε k_Slots_empty (gR 0 0) (gFn ε none r) 2 [(0, .ref (ε.2.2.1 18 3)), (1, .int s0.1)] [] s0.2) (k2 : ∀ r', res = .inr r' → r' = r) : gGo l ε k_Slots_empty (gR 0 0) (gFn ε none r) 2 [(0, .ref (ε.2.2.1 18 3)), (1, .int x1)] [] M := by
  unfold f_Slots_empty_s2 at h
  refine g_iload_n d_Slots_empty_2 rfl 1 rfl ?_
  refine g_aload_n d_Slots_empty_3 rfl 0 rfl ?_
  refine g_getR d_Slots_empty_4 fl_Slots_17 (gXw_h3 hX) rfl ?_
  refine g_alenZ d_Slots_empty_7 (gXw_h5 hX) ?_
  refine g_icmp_ge (tgt := 24) d_Slots_empty_8 (by decide) (fun c3 => ?_) (fun c3 => ?_)
  · rw [if_pos c3] at h
    obtain rfl := Option.some.inj h
    have e9 := k2 _ rfl
    subst e9
    exact g_vret d_Slots_empty_24 rfl
  · rw [if_neg c3] at h
    refine g_aload_n d_Slots_empty_11 rfl 0 rfl ?_
    refine g_getR d_Slots_empty_12 fl_Slots_17 (gXw_h3 hX) rfl ?_
    refine g_iload_n d_Slots_empty_15 rfl 1 rfl ?_
    refine g_iconst (v := 0) d_Slots_empty_16 (by decide) ?_
    obtain ⟨z2, hz2, h⟩ := gOb h
    obtain ⟨M1, hM1, h⟩ := gOb h
    refine g_bastoreO d_Slots_empty_17 (gXw_h5 hX) hz2 hM1 ?_
    refine g_iinc (v := (x1 + 1)) (L' := [(1, .int (x1 + 1)), (0, .ref (ε.2.2.1 18 3))]) d_Slots_empty_18 (j := 1) rfl rfl (by decide) rfl ?_
    refine g_goto (tgt := 2) d_Slots_empty_21 (by decide) ?_
    refine gGo_sub [1, 0] rfl ?_
    obtain rfl := Option.some.inj h
    exact k1 ((x1 + 1), M1) rfl
noncomputable def f_Slots_empty_l2 (s : (Int32 × gMem)) : Option gMem := gLp (fun s => f_Slots_empty_s2 s.2 s.1) s
theorem t_Slots_empty_l2 {l : Launch} {ε : gEnv} (hX : gXw ε) (s : (Int32 × gMem)) (r : gMem) (h : f_Slots_empty_l2 s = some r) : gGo l ε k_Slots_empty (gR 0 0) (gFn ε none r) 2 [(0, .ref (ε.2.2.1 18 3)), (1, .int s.1)] [] s.2 :=
  g_loop _ (fun r s => gGo l ε k_Slots_empty (gR 0 0) (gFn ε none r) 2 [(0, .ref (ε.2.2.1 18 3)), (1, .int s.1)] [] s.2) (fun s res h r k1 k2 => t_Slots_empty_s2 hX s.2 s.1 res h r k1 k2) s r h
noncomputable def f_Slots_empty (M : gMem) : Option gMem :=
  f_Slots_empty_l2 (0, M)
theorem t_Slots_empty {l : Launch} {ε : gEnv} (hX : gXw ε) (M : gMem) (r : gMem) (h : f_Slots_empty M = some r) : gGo l ε k_Slots_empty (gR 0 0) (gFn ε none r) 0 [(0, .ref (ε.2.2.1 18 3))] [] M := by
  unfold f_Slots_empty at h
  refine g_iconst (v := 0) d_Slots_empty_0 (by decide) ?_
  refine g_istore_n (L' := [(1, .int 0), (0, .ref (ε.2.2.1 18 3))]) d_Slots_empty_1 rfl (by decide) rfl ?_
  refine gGo_sub [1, 0] rfl ?_
  exact t_Slots_empty_l2 hX (0, M) _ h
theorem ct_Slots_empty {l : Launch} {ε : gEnv} (hX : gXw ε) (M : gMem) (r : gMem) (h : f_Slots_empty M = some r) : gCt l ε k_Slots_empty 0 0 [.ref (ε.2.2.1 18 3)] M none r :=
  gCt_of (by decide) (Nat.le_of_ble_eq_true rfl) rfl (t_Slots_empty hX M r h)
abbrev k_Slots_isUsed : gMD := (⟨"DropSignals$Slots", "isUsed", "(I)Z"⟩, prog_8_method_3_code, 2, (some .boolean))
theorem w_865 : Cond.instanceMethod ⟨"DropSignals$Slots", "isUsed", "(I)Z"⟩ ∈ gWs := gWs_in (i := 865) (by decide +kernel) rfl
theorem w_866 : Cond.selects "DropSignals$Slots" ⟨"DropSignals$Slots", "isUsed", "(I)Z"⟩ ⟨"DropSignals$Slots", "isUsed", "(I)Z"⟩ ∈ gWs := gWs_in (i := 866) (by decide +kernel) rfl
set_option maxRecDepth 100000 in
theorem ca_Slots_isUsed : gCaV k_Slots_isUsed 1 := ⟨⟨gWs_in (i := 867) rfl rfl, w_26, by decide, by decide, by decide +kernel⟩, w_865, w_866⟩
theorem d_Slots_isUsed_0 : decode prog_8_method_3_code 0 = .ok (.iload_n 1, 1) := by decide +kernel
theorem d_Slots_isUsed_1 : decode prog_8_method_3_code 1 = .ok (.ifCond .lt 25, 3) := by decide +kernel
theorem d_Slots_isUsed_4 : decode prog_8_method_3_code 4 = .ok (.iload_n 1, 1) := by decide +kernel
theorem d_Slots_isUsed_5 : decode prog_8_method_3_code 5 = .ok (.aload_n 0, 1) := by decide +kernel
theorem d_Slots_isUsed_6 : decode prog_8_method_3_code 6 = .ok (.getfield 17, 3) := by decide +kernel
theorem d_Slots_isUsed_9 : decode prog_8_method_3_code 9 = .ok (.arraylength, 1) := by decide +kernel
theorem d_Slots_isUsed_10 : decode prog_8_method_3_code 10 = .ok (.if_icmp .ge 16, 3) := by decide +kernel
theorem d_Slots_isUsed_13 : decode prog_8_method_3_code 13 = .ok (.aload_n 0, 1) := by decide +kernel
theorem d_Slots_isUsed_14 : decode prog_8_method_3_code 14 = .ok (.getfield 17, 3) := by decide +kernel
theorem d_Slots_isUsed_17 : decode prog_8_method_3_code 17 = .ok (.iload_n 1, 1) := by decide +kernel
theorem d_Slots_isUsed_18 : decode prog_8_method_3_code 18 = .ok (.baload, 1) := by decide +kernel
theorem d_Slots_isUsed_19 : decode prog_8_method_3_code 19 = .ok (.ifCond .eq 7, 3) := by decide +kernel
theorem d_Slots_isUsed_22 : decode prog_8_method_3_code 22 = .ok (.iconst 1, 1) := by decide +kernel
theorem d_Slots_isUsed_23 : decode prog_8_method_3_code 23 = .ok (.goto 4, 3) := by decide +kernel
theorem d_Slots_isUsed_26 : decode prog_8_method_3_code 26 = .ok (.iconst 0, 1) := by decide +kernel
theorem d_Slots_isUsed_27 : decode prog_8_method_3_code 27 = .ok (.ireturn, 1) := by decide +kernel
noncomputable def f_Slots_isUsed (M : gMem) (a0 : Int32) : Option Int32 :=
  if a0 < 0 then
    some 0
  else
    if (Int32.ofNat 2) ≤ a0 then
      some 0
    else
      (gRd 2 (M 18 5) a0).bind fun v1 =>
      if v1 = 0 then
        some 0
      else
        some 1
theorem t_Slots_isUsed {l : Launch} {ε : gEnv} (hX : gXw ε) (M : gMem) (a0 : Int32) (r : Int32) (h : f_Slots_isUsed M a0 = some r) : gGo l ε k_Slots_isUsed (gR 0 0) (gFn ε (some (.int r)) M) 0 [(0, .ref (ε.2.2.1 18 3)), (1, .int a0)] [] M := by
  unfold f_Slots_isUsed at h
  refine g_iload_n d_Slots_isUsed_0 rfl 1 rfl ?_
  refine g_if_lt (tgt := 26) d_Slots_isUsed_1 (by decide) (fun c4 => ?_) (fun c4 => ?_)
  · rw [if_pos c4] at h
    refine g_iconst (v := 0) d_Slots_isUsed_26 (by decide) ?_
    obtain rfl := Option.some.inj h
    exact g_zret d_Slots_isUsed_27 rfl gZ0
  · rw [if_neg c4] at h
    refine g_iload_n d_Slots_isUsed_4 rfl 1 rfl ?_
    refine g_aload_n d_Slots_isUsed_5 rfl 0 rfl ?_
    refine g_getR d_Slots_isUsed_6 fl_Slots_17 (gXw_h3 hX) rfl ?_
    refine g_alenZ d_Slots_isUsed_9 (gXw_h5 hX) ?_
    refine g_icmp_ge (tgt := 26) d_Slots_isUsed_10 (by decide) (fun c3 => ?_) (fun c3 => ?_)
    · rw [if_pos c3] at h
      refine g_iconst (v := 0) d_Slots_isUsed_26 (by decide) ?_
      obtain rfl := Option.some.inj h
      exact g_zret d_Slots_isUsed_27 rfl gZ0
    · rw [if_neg c3] at h
      refine g_aload_n d_Slots_isUsed_13 rfl 0 rfl ?_
      refine g_getR d_Slots_isUsed_14 fl_Slots_17 (gXw_h3 hX) rfl ?_
      refine g_iload_n d_Slots_isUsed_17 rfl 1 rfl ?_
      obtain ⟨v1, hv1, h⟩ := gOb h
      refine g_baload d_Slots_isUsed_18 (gXw_h5 hX) hv1 ?_
      refine g_if_eq (tgt := 26) d_Slots_isUsed_19 (by decide) (fun c2 => ?_) (fun c2 => ?_)
      · rw [if_pos c2] at h
        refine g_iconst (v := 0) d_Slots_isUsed_26 (by decide) ?_
        obtain rfl := Option.some.inj h
        exact g_zret d_Slots_isUsed_27 rfl gZ0
      · rw [if_neg c2] at h
        refine g_iconst (v := 1) d_Slots_isUsed_22 (by decide) ?_
        refine g_goto (tgt := 27) d_Slots_isUsed_23 (by decide) ?_
        obtain rfl := Option.some.inj h
        exact g_zret d_Slots_isUsed_27 rfl gZ1
theorem ct_Slots_isUsed {l : Launch} {ε : gEnv} (hX : gXw ε) (M : gMem) (a0 : Int32) (r : Int32) (h : f_Slots_isUsed M a0 = some r) : gCt l ε k_Slots_isUsed 0 0 [.ref (ε.2.2.1 18 3), .int a0] M (some (.int r)) M :=
  gCt_of (by decide) (Nat.le_of_ble_eq_true rfl) rfl (t_Slots_isUsed hX M a0 r h)
abbrev k_Slots_store : gMD := (⟨"DropSignals$Slots", "store", "(ILDropSignals$Evening;)V"⟩, prog_8_method_4_code, 3, none)
theorem w_853 : Cond.instanceMethod ⟨"DropSignals$Slots", "store", "(ILDropSignals$Evening;)V"⟩ ∈ gWs := gWs_in (i := 853) (by decide +kernel) rfl
theorem w_854 : Cond.selects "DropSignals$Slots" ⟨"DropSignals$Slots", "store", "(ILDropSignals$Evening;)V"⟩ ⟨"DropSignals$Slots", "store", "(ILDropSignals$Evening;)V"⟩ ∈ gWs := gWs_in (i := 854) (by decide +kernel) rfl
set_option maxRecDepth 100000 in
theorem ca_Slots_store : gCaV k_Slots_store 2 := ⟨⟨gWs_in (i := 855) rfl rfl, w_26, by decide, by decide, by decide +kernel⟩, w_853, w_854⟩
theorem d_Slots_store_0 : decode prog_8_method_4_code 0 = .ok (.iload_n 1, 1) := by decide +kernel
theorem d_Slots_store_1 : decode prog_8_method_4_code 1 = .ok (.ifCond .lt 47, 3) := by decide +kernel
theorem d_Slots_store_4 : decode prog_8_method_4_code 4 = .ok (.iload_n 1, 1) := by decide +kernel
theorem d_Slots_store_5 : decode prog_8_method_4_code 5 = .ok (.aload_n 0, 1) := by decide +kernel
theorem d_Slots_store_6 : decode prog_8_method_4_code 6 = .ok (.getfield 11, 3) := by decide +kernel
theorem d_Slots_store_9 : decode prog_8_method_4_code 9 = .ok (.arraylength, 1) := by decide +kernel
theorem d_Slots_store_10 : decode prog_8_method_4_code 10 = .ok (.if_icmp .ge 38, 3) := by decide +kernel
theorem d_Slots_store_13 : decode prog_8_method_4_code 13 = .ok (.iload_n 1, 1) := by decide +kernel
theorem d_Slots_store_14 : decode prog_8_method_4_code 14 = .ok (.aload_n 0, 1) := by decide +kernel
theorem d_Slots_store_15 : decode prog_8_method_4_code 15 = .ok (.getfield 17, 3) := by decide +kernel
theorem d_Slots_store_18 : decode prog_8_method_4_code 18 = .ok (.arraylength, 1) := by decide +kernel
theorem d_Slots_store_19 : decode prog_8_method_4_code 19 = .ok (.if_icmp .ge 29, 3) := by decide +kernel
theorem d_Slots_store_22 : decode prog_8_method_4_code 22 = .ok (.aload_n 0, 1) := by decide +kernel
theorem d_Slots_store_23 : decode prog_8_method_4_code 23 = .ok (.getfield 11, 3) := by decide +kernel
theorem d_Slots_store_26 : decode prog_8_method_4_code 26 = .ok (.iload_n 1, 1) := by decide +kernel
theorem d_Slots_store_27 : decode prog_8_method_4_code 27 = .ok (.aaload, 1) := by decide +kernel
theorem d_Slots_store_28 : decode prog_8_method_4_code 28 = .ok (.ifnull 20, 3) := by decide +kernel
theorem d_Slots_store_31 : decode prog_8_method_4_code 31 = .ok (.aload_n 0, 1) := by decide +kernel
theorem d_Slots_store_32 : decode prog_8_method_4_code 32 = .ok (.getfield 11, 3) := by decide +kernel
theorem d_Slots_store_35 : decode prog_8_method_4_code 35 = .ok (.iload_n 1, 1) := by decide +kernel
theorem d_Slots_store_36 : decode prog_8_method_4_code 36 = .ok (.aaload, 1) := by decide +kernel
theorem d_Slots_store_37 : decode prog_8_method_4_code 37 = .ok (.aload_n 2, 1) := by decide +kernel
theorem d_Slots_store_38 : decode prog_8_method_4_code 38 = .ok (.invokevirtual 22, 3) := by decide +kernel
theorem d_Slots_store_41 : decode prog_8_method_4_code 41 = .ok (.aload_n 0, 1) := by decide +kernel
theorem d_Slots_store_42 : decode prog_8_method_4_code 42 = .ok (.getfield 17, 3) := by decide +kernel
theorem d_Slots_store_45 : decode prog_8_method_4_code 45 = .ok (.iload_n 1, 1) := by decide +kernel
theorem d_Slots_store_46 : decode prog_8_method_4_code 46 = .ok (.iconst 1, 1) := by decide +kernel
theorem d_Slots_store_47 : decode prog_8_method_4_code 47 = .ok (.bastore, 1) := by decide +kernel
theorem d_Slots_store_48 : decode prog_8_method_4_code 48 = .ok (.return_, 1) := by decide +kernel
theorem w_202 : Cond.fieldLink "DropSignals$Slots" 11 "DropSignals$Slots" "states" "[LDropSignals$Evening;" ∈ gWs := gWs_in (i := 202) (by decide +kernel) rfl
theorem fl_Slots_11 : gFl "DropSignals$Slots" 11 5 0 := ⟨gN5, gF5, 2, rfl, uw_5, by decide, w_202⟩
theorem w_856 : Cond.methodLink "DropSignals$Slots" 22 ⟨"DropSignals$Evening", "copyFrom", "(LDropSignals$Evening;)V"⟩ ∈ gWs := gWs_in (i := 856) (by decide +kernel) rfl
noncomputable def f_Slots_store (e1 : Nat) (M : gMem) (a0 : Int32) : Option gMem :=
  if a0 < 0 then
    some M
  else
    if (Int32.ofNat 2) ≤ a0 then
      some M
    else
      if (Int32.ofNat 2) ≤ a0 then
        some M
      else
        (gIn 2 a0).bind fun v1 =>
        (gIn 2 a0).bind fun v2 =>
        (f_Ev_copyFrom (16 + v2) e1 M).bind fun q3 =>
        (gBl 1).bind fun _ =>
        (gWr q3 18 5 2 a0 1).bind fun M4 =>
        some M4
theorem t_Slots_store {l : Launch} {ε : gEnv} (e1 : Nat) (hX : gXw ε) (hE1 : gEv ε e1) (M : gMem) (a0 : Int32) (r : gMem) (h : f_Slots_store e1 M a0 = some r) : gGo l ε k_Slots_store (gR 4 93) (gFn ε none r) 0 [(0, .ref (ε.2.2.1 18 3)), (1, .int a0), (2, .ref (ε.2.2.1 e1 0))] [] M := by
  unfold f_Slots_store at h
  refine g_iload_n d_Slots_store_0 rfl 1 rfl ?_
  refine g_if_lt (tgt := 48) d_Slots_store_1 (by decide) (fun c8 => ?_) (fun c8 => ?_)
  · rw [if_pos c8] at h
    obtain rfl := Option.some.inj h
    exact g_vret d_Slots_store_48 rfl
  · rw [if_neg c8] at h
    refine g_iload_n d_Slots_store_4 rfl 1 rfl ?_
    refine g_aload_n d_Slots_store_5 rfl 0 rfl ?_
    refine g_getR d_Slots_store_6 fl_Slots_11 (gXw_h3 hX) rfl ?_
    refine g_alenR d_Slots_store_9 (gXw_h4 hX) ?_
    refine g_icmp_ge (tgt := 48) d_Slots_store_10 (by decide) (fun c7 => ?_) (fun c7 => ?_)
    · rw [if_pos c7] at h
      obtain rfl := Option.some.inj h
      exact g_vret d_Slots_store_48 rfl
    · rw [if_neg c7] at h
      refine g_iload_n d_Slots_store_13 rfl 1 rfl ?_
      refine g_aload_n d_Slots_store_14 rfl 0 rfl ?_
      refine g_getR d_Slots_store_15 fl_Slots_17 (gXw_h3 hX) rfl ?_
      refine g_alenZ d_Slots_store_18 (gXw_h5 hX) ?_
      refine g_icmp_ge (tgt := 48) d_Slots_store_19 (by decide) (fun c6 => ?_) (fun c6 => ?_)
      · rw [if_pos c6] at h
        obtain rfl := Option.some.inj h
        exact g_vret d_Slots_store_48 rfl
      · rw [if_neg c6] at h
        refine g_aload_n d_Slots_store_22 rfl 0 rfl ?_
        refine g_getR d_Slots_store_23 fl_Slots_11 (gXw_h3 hX) rfl ?_
        refine g_iload_n d_Slots_store_26 rfl 1 rfl ?_
        obtain ⟨v1, hv1, h⟩ := gOb h
        have bv1 := (gIn_s hv1).2.2
        have ev1 : gEv ε (16 + v1) := hX.1 (16 + v1) (by omega)
        refine g_aaloadO d_Slots_store_27 (gXw_h4 hX) hv1 ?_
        refine g_ifnull d_Slots_store_28 ?_
        refine g_aload_n d_Slots_store_31 rfl 0 rfl ?_
        refine g_getR d_Slots_store_32 fl_Slots_11 (gXw_h3 hX) rfl ?_
        refine g_iload_n d_Slots_store_35 rfl 1 rfl ?_
        obtain ⟨v2, hv2, h⟩ := gOb h
        have bv2 := (gIn_s hv2).2.2
        have ev2 : gEv ε (16 + v2) := hX.1 (16 + v2) (by omega)
        refine g_aaloadO d_Slots_store_36 (gXw_h4 hX) hv2 ?_
        refine g_aload_n d_Slots_store_37 rfl 2 rfl ?_
        obtain ⟨q3, hq3, h⟩ := gOb h
        refine g_callV_v (As := [.ref (ε.2.2.1 e1 0)]) (rest := []) (ct_Ev_copyFrom (16 + v2) e1 ev2 hE1 M _ hq3) d_Slots_store_38 ca_Ev_copyFrom w_856 (gEv_h0 ev2) rfl rfl rfl (Nat.le_of_ble_eq_true rfl) ⟨(Nat.le_of_ble_eq_true rfl), (Nat.le_of_ble_eq_true rfl)⟩ ?_
        refine g_aload_n d_Slots_store_41 rfl 0 rfl ?_
        refine g_getR d_Slots_store_42 fl_Slots_17 (gXw_h3 hX) rfl ?_
        refine g_iload_n d_Slots_store_45 rfl 1 rfl ?_
        refine g_iconst (v := 1) d_Slots_store_46 (by decide) ?_
        obtain ⟨z5, hz5, h⟩ := gOb h
        obtain ⟨M4, hM4, h⟩ := gOb h
        refine g_bastoreO d_Slots_store_47 (gXw_h5 hX) hz5 hM4 ?_
        obtain rfl := Option.some.inj h
        exact g_vret d_Slots_store_48 rfl
theorem ct_Slots_store {l : Launch} {ε : gEnv} (hX : gXw ε) (e1 : Nat) (hE1 : gEv ε e1) (M : gMem) (a0 : Int32) (r : gMem) (h : f_Slots_store e1 M a0 = some r) : gCt l ε k_Slots_store 4 93 [.ref (ε.2.2.1 18 3), .int a0, .ref (ε.2.2.1 e1 0)] M none r :=
  gCt_of (by decide) (Nat.le_of_ble_eq_true rfl) rfl (t_Slots_store e1 hX hE1 M a0 r h)
abbrev k_Slots_fetch : gMD := (⟨"DropSignals$Slots", "fetch", "(ILDropSignals$Evening;)V"⟩, prog_8_method_5_code, 3, none)
theorem w_870 : Cond.instanceMethod ⟨"DropSignals$Slots", "fetch", "(ILDropSignals$Evening;)V"⟩ ∈ gWs := gWs_in (i := 870) (by decide +kernel) rfl
theorem w_871 : Cond.selects "DropSignals$Slots" ⟨"DropSignals$Slots", "fetch", "(ILDropSignals$Evening;)V"⟩ ⟨"DropSignals$Slots", "fetch", "(ILDropSignals$Evening;)V"⟩ ∈ gWs := gWs_in (i := 871) (by decide +kernel) rfl
set_option maxRecDepth 100000 in
theorem ca_Slots_fetch : gCaV k_Slots_fetch 2 := ⟨⟨gWs_in (i := 872) rfl rfl, w_26, by decide, by decide, by decide +kernel⟩, w_870, w_871⟩
theorem d_Slots_fetch_0 : decode prog_8_method_5_code 0 = .ok (.iload_n 1, 1) := by decide +kernel
theorem d_Slots_fetch_1 : decode prog_8_method_5_code 1 = .ok (.ifCond .lt 31, 3) := by decide +kernel
theorem d_Slots_fetch_4 : decode prog_8_method_5_code 4 = .ok (.iload_n 1, 1) := by decide +kernel
theorem d_Slots_fetch_5 : decode prog_8_method_5_code 5 = .ok (.aload_n 0, 1) := by decide +kernel
theorem d_Slots_fetch_6 : decode prog_8_method_5_code 6 = .ok (.getfield 11, 3) := by decide +kernel
theorem d_Slots_fetch_9 : decode prog_8_method_5_code 9 = .ok (.arraylength, 1) := by decide +kernel
theorem d_Slots_fetch_10 : decode prog_8_method_5_code 10 = .ok (.if_icmp .ge 22, 3) := by decide +kernel
theorem d_Slots_fetch_13 : decode prog_8_method_5_code 13 = .ok (.aload_n 0, 1) := by decide +kernel
theorem d_Slots_fetch_14 : decode prog_8_method_5_code 14 = .ok (.getfield 11, 3) := by decide +kernel
theorem d_Slots_fetch_17 : decode prog_8_method_5_code 17 = .ok (.iload_n 1, 1) := by decide +kernel
theorem d_Slots_fetch_18 : decode prog_8_method_5_code 18 = .ok (.aaload, 1) := by decide +kernel
theorem d_Slots_fetch_19 : decode prog_8_method_5_code 19 = .ok (.ifnull 13, 3) := by decide +kernel
theorem d_Slots_fetch_22 : decode prog_8_method_5_code 22 = .ok (.aload_n 2, 1) := by decide +kernel
theorem d_Slots_fetch_23 : decode prog_8_method_5_code 23 = .ok (.aload_n 0, 1) := by decide +kernel
theorem d_Slots_fetch_24 : decode prog_8_method_5_code 24 = .ok (.getfield 11, 3) := by decide +kernel
theorem d_Slots_fetch_27 : decode prog_8_method_5_code 27 = .ok (.iload_n 1, 1) := by decide +kernel
theorem d_Slots_fetch_28 : decode prog_8_method_5_code 28 = .ok (.aaload, 1) := by decide +kernel
theorem d_Slots_fetch_29 : decode prog_8_method_5_code 29 = .ok (.invokevirtual 22, 3) := by decide +kernel
theorem d_Slots_fetch_32 : decode prog_8_method_5_code 32 = .ok (.return_, 1) := by decide +kernel
noncomputable def f_Slots_fetch (e1 : Nat) (M : gMem) (a0 : Int32) : Option gMem :=
  if a0 < 0 then
    some M
  else
    if (Int32.ofNat 2) ≤ a0 then
      some M
    else
      (gIn 2 a0).bind fun v1 =>
      (gIn 2 a0).bind fun v2 =>
      (f_Ev_copyFrom e1 (16 + v2) M).bind fun q3 =>
      some q3
theorem t_Slots_fetch {l : Launch} {ε : gEnv} (e1 : Nat) (hX : gXw ε) (hE1 : gEv ε e1) (M : gMem) (a0 : Int32) (r : gMem) (h : f_Slots_fetch e1 M a0 = some r) : gGo l ε k_Slots_fetch (gR 4 93) (gFn ε none r) 0 [(0, .ref (ε.2.2.1 18 3)), (1, .int a0), (2, .ref (ε.2.2.1 e1 0))] [] M := by
  unfold f_Slots_fetch at h
  refine g_iload_n d_Slots_fetch_0 rfl 1 rfl ?_
  refine g_if_lt (tgt := 32) d_Slots_fetch_1 (by decide) (fun c5 => ?_) (fun c5 => ?_)
  · rw [if_pos c5] at h
    obtain rfl := Option.some.inj h
    exact g_vret d_Slots_fetch_32 rfl
  · rw [if_neg c5] at h
    refine g_iload_n d_Slots_fetch_4 rfl 1 rfl ?_
    refine g_aload_n d_Slots_fetch_5 rfl 0 rfl ?_
    refine g_getR d_Slots_fetch_6 fl_Slots_11 (gXw_h3 hX) rfl ?_
    refine g_alenR d_Slots_fetch_9 (gXw_h4 hX) ?_
    refine g_icmp_ge (tgt := 32) d_Slots_fetch_10 (by decide) (fun c4 => ?_) (fun c4 => ?_)
    · rw [if_pos c4] at h
      obtain rfl := Option.some.inj h
      exact g_vret d_Slots_fetch_32 rfl
    · rw [if_neg c4] at h
      refine g_aload_n d_Slots_fetch_13 rfl 0 rfl ?_
      refine g_getR d_Slots_fetch_14 fl_Slots_11 (gXw_h3 hX) rfl ?_
      refine g_iload_n d_Slots_fetch_17 rfl 1 rfl ?_
      obtain ⟨v1, hv1, h⟩ := gOb h
      have bv1 := (gIn_s hv1).2.2
      have ev1 : gEv ε (16 + v1) := hX.1 (16 + v1) (by omega)
      refine g_aaloadO d_Slots_fetch_18 (gXw_h4 hX) hv1 ?_
      refine g_ifnull d_Slots_fetch_19 ?_
      refine g_aload_n d_Slots_fetch_22 rfl 2 rfl ?_
      refine g_aload_n d_Slots_fetch_23 rfl 0 rfl ?_
      refine g_getR d_Slots_fetch_24 fl_Slots_11 (gXw_h3 hX) rfl ?_
      refine g_iload_n d_Slots_fetch_27 rfl 1 rfl ?_
      obtain ⟨v2, hv2, h⟩ := gOb h
      have bv2 := (gIn_s hv2).2.2
      have ev2 : gEv ε (16 + v2) := hX.1 (16 + v2) (by omega)
      refine g_aaloadO d_Slots_fetch_28 (gXw_h4 hX) hv2 ?_
      obtain ⟨q3, hq3, h⟩ := gOb h
      refine g_callV_v (As := [.ref (ε.2.2.1 (16 + v2) 0)]) (rest := []) (ct_Ev_copyFrom e1 (16 + v2) hE1 ev2 M _ hq3) d_Slots_fetch_29 ca_Ev_copyFrom w_856 (gEv_h0 hE1) rfl rfl rfl (Nat.le_of_ble_eq_true rfl) ⟨(Nat.le_of_ble_eq_true rfl), (Nat.le_of_ble_eq_true rfl)⟩ ?_
      obtain rfl := Option.some.inj h
      exact g_vret d_Slots_fetch_32 rfl
theorem ct_Slots_fetch {l : Launch} {ε : gEnv} (hX : gXw ε) (e1 : Nat) (hE1 : gEv ε e1) (M : gMem) (a0 : Int32) (r : gMem) (h : f_Slots_fetch e1 M a0 = some r) : gCt l ε k_Slots_fetch 4 93 [.ref (ε.2.2.1 18 3), .int a0, .ref (ε.2.2.1 e1 0)] M none r :=
  gCt_of (by decide) (Nat.le_of_ble_eq_true rfl) rfl (t_Slots_fetch e1 hX hE1 M a0 r h)
abbrev k_Wri_length : gMD := (⟨"DropSignals$Writing", "length", "()I"⟩, prog_9_method_2_code, 1, (some .int))
theorem w_27 : Cond.initialized "DropSignals$Writing" ∈ gWs := gWs_in (i := 27) (by decide +kernel) rfl
theorem w_362 : Cond.instanceMethod ⟨"DropSignals$Writing", "length", "()I"⟩ ∈ gWs := gWs_in (i := 362) (by decide +kernel) rfl
theorem w_363 : Cond.selects "DropSignals$Writing" ⟨"DropSignals$Writing", "length", "()I"⟩ ⟨"DropSignals$Writing", "length", "()I"⟩ ∈ gWs := gWs_in (i := 363) (by decide +kernel) rfl
set_option maxRecDepth 100000 in
theorem ca_Wri_length : gCaV k_Wri_length 0 := ⟨⟨gWs_in (i := 364) rfl rfl, w_27, by decide, by decide, by decide +kernel⟩, w_362, w_363⟩
theorem d_Wri_length_0 : decode prog_9_method_2_code 0 = .ok (.aload_n 0, 1) := by decide +kernel
theorem d_Wri_length_1 : decode prog_9_method_2_code 1 = .ok (.getfield 15, 3) := by decide +kernel
theorem d_Wri_length_4 : decode prog_9_method_2_code 4 = .ok (.ireturn, 1) := by decide +kernel
theorem uw_6 : ∀ w ∈ u_ws gN6 gF6 2, w ∈ gWs := by
  intro w hw
  have h := List.all_eq_true.mp (show (u_ws gN6 gF6 2).all (fun w => decide (w ∈ lw_tbl) && goodWord w) = true by decide +kernel) w hw
  simp only [Bool.and_eq_true, decide_eq_true_eq] at h
  exact List.mem_filter.mpr h
theorem w_217 : Cond.fieldLink "DropSignals$Writing" 15 "DropSignals$Writing" "length" "I" ∈ gWs := gWs_in (i := 217) (by decide +kernel) rfl
theorem fl_Wri_15 : gFl "DropSignals$Writing" 15 6 1 := ⟨gN6, gF6, 2, rfl, uw_6, by decide, w_217⟩
noncomputable def f_Wri_length (M : gMem) : Option Int32 :=
  some (M 18 6 1)
theorem t_Wri_length {l : Launch} {ε : gEnv} (hX : gXw ε) (M : gMem) (r : Int32) (h : f_Wri_length M = some r) : gGo l ε k_Wri_length (gR 0 0) (gFn ε (some (.int r)) M) 0 [(0, .ref (ε.2.2.1 18 6))] [] M := by
  unfold f_Wri_length at h
  refine g_aload_n d_Wri_length_0 rfl 0 rfl ?_
  refine g_getI d_Wri_length_1 fl_Wri_15 (gXw_h6 hX) rfl ?_
  obtain rfl := Option.some.inj h
  exact g_iret d_Wri_length_4 rfl
theorem ct_Wri_length {l : Launch} {ε : gEnv} (hX : gXw ε) (M : gMem) (r : Int32) (h : f_Wri_length M = some r) : gCt l ε k_Wri_length 0 0 [.ref (ε.2.2.1 18 6)] M (some (.int r)) M :=
  gCt_of (by decide) (Nat.le_of_ble_eq_true rfl) rfl (t_Wri_length hX M r h)
abbrev k_Wri_add : gMD := (⟨"DropSignals$Writing", "add", "(I)I"⟩, prog_9_method_3_code, 2, (some .int))
theorem w_382 : Cond.instanceMethod ⟨"DropSignals$Writing", "add", "(I)I"⟩ ∈ gWs := gWs_in (i := 382) (by decide +kernel) rfl
theorem w_383 : Cond.selects "DropSignals$Writing" ⟨"DropSignals$Writing", "add", "(I)I"⟩ ⟨"DropSignals$Writing", "add", "(I)I"⟩ ∈ gWs := gWs_in (i := 383) (by decide +kernel) rfl
set_option maxRecDepth 100000 in
theorem ca_Wri_add : gCaV k_Wri_add 1 := ⟨⟨gWs_in (i := 384) rfl rfl, w_27, by decide, by decide, by decide +kernel⟩, w_382, w_383⟩
theorem d_Wri_add_0 : decode prog_9_method_3_code 0 = .ok (.aload_n 0, 1) := by decide +kernel
theorem d_Wri_add_1 : decode prog_9_method_3_code 1 = .ok (.getfield 9, 3) := by decide +kernel
theorem d_Wri_add_4 : decode prog_9_method_3_code 4 = .ok (.aload_n 0, 1) := by decide +kernel
theorem d_Wri_add_5 : decode prog_9_method_3_code 5 = .ok (.getfield 15, 3) := by decide +kernel
theorem d_Wri_add_8 : decode prog_9_method_3_code 8 = .ok (.iload_n 1, 1) := by decide +kernel
theorem d_Wri_add_9 : decode prog_9_method_3_code 9 = .ok (.invokestatic 19, 3) := by decide +kernel
theorem d_Wri_add_12 : decode prog_9_method_3_code 12 = .ok (.aload_n 0, 1) := by decide +kernel
theorem d_Wri_add_13 : decode prog_9_method_3_code 13 = .ok (.dup, 1) := by decide +kernel
theorem d_Wri_add_14 : decode prog_9_method_3_code 14 = .ok (.getfield 15, 3) := by decide +kernel
theorem d_Wri_add_17 : decode prog_9_method_3_code 17 = .ok (.iconst 1, 1) := by decide +kernel
theorem d_Wri_add_18 : decode prog_9_method_3_code 18 = .ok (.iadd, 1) := by decide +kernel
theorem d_Wri_add_19 : decode prog_9_method_3_code 19 = .ok (.putfield 15, 3) := by decide +kernel
theorem d_Wri_add_22 : decode prog_9_method_3_code 22 = .ok (.aload_n 0, 1) := by decide +kernel
theorem d_Wri_add_23 : decode prog_9_method_3_code 23 = .ok (.getfield 15, 3) := by decide +kernel
theorem d_Wri_add_26 : decode prog_9_method_3_code 26 = .ok (.ireturn, 1) := by decide +kernel
theorem w_216 : Cond.fieldLink "DropSignals$Writing" 9 "DropSignals$Writing" "signs" "[I" ∈ gWs := gWs_in (i := 216) (by decide +kernel) rfl
theorem fl_Wri_9 : gFl "DropSignals$Writing" 9 6 0 := ⟨gN6, gF6, 2, rfl, uw_6, by decide, w_216⟩
theorem fp_Wri_15 : gFp "DropSignals$Writing" 15 6 1 .int := ⟨gN6, gF6, 2, rfl, uw_6, by decide, w_217, ⟨gX6, gY6⟩, gD6, rfl, by decide +kernel⟩
noncomputable def f_Wri_add (M : gMem) (a0 : Int32) : Option (Int32 × gMem) :=
  (f_DS_put 18 7 120 M (M 18 6 1) a0).bind fun q1 =>
  (gSO q1 18 6 1 ((q1 18 6 1) + 1)).bind fun M2 =>
  some ((M2 18 6 1), M2)
theorem t_Wri_add {l : Launch} {ε : gEnv} (hX : gXw ε) (M : gMem) (a0 : Int32) (r : (Int32 × gMem)) (h : f_Wri_add M a0 = some r) : gGo l ε k_Wri_add (gR 1 22) (gFn ε (some (.int r.1)) r.2) 0 [(0, .ref (ε.2.2.1 18 6)), (1, .int a0)] [] M := by
  unfold f_Wri_add at h
  refine g_aload_n d_Wri_add_0 rfl 0 rfl ?_
  refine g_getR d_Wri_add_1 fl_Wri_9 (gXw_h6 hX) rfl ?_
  refine g_aload_n d_Wri_add_4 rfl 0 rfl ?_
  refine g_getI d_Wri_add_5 fl_Wri_15 (gXw_h6 hX) rfl ?_
  refine g_iload_n d_Wri_add_8 rfl 1 rfl ?_
  obtain ⟨q1, hq1, h⟩ := gOb h
  refine g_callN_v (As := [.ref (ε.2.2.1 18 7), .int (M 18 6 1), .int a0]) (rest := []) (j := 385) (host := "DropSignals") (ct_DS_put 18 7 120 (gXw_h7 hX) M (M 18 6 1) a0 _ hq1) d_Wri_add_9 ca_DS_put (by decide +kernel) rfl rfl (Nat.le_of_ble_eq_true rfl) ⟨(Nat.le_of_ble_eq_true rfl), (Nat.le_of_ble_eq_true rfl)⟩ ?_
  refine g_aload_n d_Wri_add_12 rfl 0 rfl ?_
  refine g_dup d_Wri_add_13 rfl ?_
  refine g_getI d_Wri_add_14 fl_Wri_15 (gXw_h6 hX) rfl ?_
  refine g_iconst (v := 1) d_Wri_add_17 (by decide) ?_
  refine g_iadd d_Wri_add_18 ?_
  obtain ⟨M2, hM2, h⟩ := gOb h
  refine g_putO d_Wri_add_19 fp_Wri_15 (gXw_h6 hX) rfl hM2 ?_
  refine g_aload_n d_Wri_add_22 rfl 0 rfl ?_
  refine g_getI d_Wri_add_23 fl_Wri_15 (gXw_h6 hX) rfl ?_
  obtain rfl := Option.some.inj h
  exact g_iret d_Wri_add_26 rfl
theorem ct_Wri_add {l : Launch} {ε : gEnv} (hX : gXw ε) (M : gMem) (a0 : Int32) (r : (Int32 × gMem)) (h : f_Wri_add M a0 = some r) : gCt l ε k_Wri_add 1 22 [.ref (ε.2.2.1 18 6), .int a0] M (some (.int r.1)) r.2 :=
  gCt_of (by decide) (Nat.le_of_ble_eq_true rfl) rfl (t_Wri_add hX M a0 r h)
abbrev k_Wri_isBetween : gMD := (⟨"DropSignals$Writing", "isBetween", "(III)Z"⟩, prog_9_method_8_code, 4, (some .boolean))
theorem w_410 : Cond.instanceMethod ⟨"DropSignals$Writing", "isBetween", "(III)Z"⟩ ∈ gWs := gWs_in (i := 410) (by decide +kernel) rfl
theorem w_3 : Cond.selects "DropSignals$Writing" ⟨"DropSignals$Writing", "isBetween", "(III)Z"⟩ ⟨"DropSignals$Writing", "isBetween", "(III)Z"⟩ ∈ gWs := gWs_in (i := 3) (by decide +kernel) rfl
set_option maxRecDepth 100000 in
theorem ca_Wri_isBetween : gCaV k_Wri_isBetween 3 := ⟨⟨gWs_in (i := 411) rfl rfl, w_27, by decide, by decide, by decide +kernel⟩, w_410, w_3⟩
theorem d_Wri_isBetween_0 : decode prog_9_method_8_code 0 = .ok (.aload_n 0, 1) := by decide +kernel
theorem d_Wri_isBetween_1 : decode prog_9_method_8_code 1 = .ok (.getfield 9, 3) := by decide +kernel
theorem d_Wri_isBetween_4 : decode prog_9_method_8_code 4 = .ok (.iload_n 1, 1) := by decide +kernel
theorem d_Wri_isBetween_5 : decode prog_9_method_8_code 5 = .ok (.invokestatic 23, 3) := by decide +kernel
theorem d_Wri_isBetween_8 : decode prog_9_method_8_code 8 = .ok (.iload_n 2, 1) := by decide +kernel
theorem d_Wri_isBetween_9 : decode prog_9_method_8_code 9 = .ok (.if_icmp .lt 19, 3) := by decide +kernel
theorem d_Wri_isBetween_12 : decode prog_9_method_8_code 12 = .ok (.aload_n 0, 1) := by decide +kernel
theorem d_Wri_isBetween_13 : decode prog_9_method_8_code 13 = .ok (.getfield 9, 3) := by decide +kernel
theorem d_Wri_isBetween_16 : decode prog_9_method_8_code 16 = .ok (.iload_n 1, 1) := by decide +kernel
theorem d_Wri_isBetween_17 : decode prog_9_method_8_code 17 = .ok (.invokestatic 23, 3) := by decide +kernel
theorem d_Wri_isBetween_20 : decode prog_9_method_8_code 20 = .ok (.iload_n 3, 1) := by decide +kernel
theorem d_Wri_isBetween_21 : decode prog_9_method_8_code 21 = .ok (.if_icmp .gt 7, 3) := by decide +kernel
theorem d_Wri_isBetween_24 : decode prog_9_method_8_code 24 = .ok (.iconst 1, 1) := by decide +kernel
theorem d_Wri_isBetween_25 : decode prog_9_method_8_code 25 = .ok (.goto 4, 3) := by decide +kernel
theorem d_Wri_isBetween_28 : decode prog_9_method_8_code 28 = .ok (.iconst 0, 1) := by decide +kernel
theorem d_Wri_isBetween_29 : decode prog_9_method_8_code 29 = .ok (.ireturn, 1) := by decide +kernel
noncomputable def f_Wri_isBetween (M : gMem) (a0 : Int32) (a1 : Int32) (a2 : Int32) : Option Int32 :=
  (f_DS_at 18 7 120 M a0).bind fun q1 =>
  if q1 < a1 then
    some 0
  else
    (f_DS_at 18 7 120 M a0).bind fun q2 =>
    if a2 < q2 then
      some 0
    else
      some 1
theorem t_Wri_isBetween {l : Launch} {ε : gEnv} (hX : gXw ε) (M : gMem) (a0 : Int32) (a1 : Int32) (a2 : Int32) (r : Int32) (h : f_Wri_isBetween M a0 a1 a2 = some r) : gGo l ε k_Wri_isBetween (gR 1 21) (gFn ε (some (.int r)) M) 0 [(0, .ref (ε.2.2.1 18 6)), (1, .int a0), (2, .int a1), (3, .int a2)] [] M := by
  unfold f_Wri_isBetween at h
  refine g_aload_n d_Wri_isBetween_0 rfl 0 rfl ?_
  refine g_getR d_Wri_isBetween_1 fl_Wri_9 (gXw_h6 hX) rfl ?_
  refine g_iload_n d_Wri_isBetween_4 rfl 1 rfl ?_
  obtain ⟨q1, hq1, h⟩ := gOb h
  refine g_callN_i (As := [.ref (ε.2.2.1 18 7), .int a0]) (rest := []) (j := 401) (host := "DropSignals") (ct_DS_at 18 7 120 (gXw_h7 hX) M a0 _ hq1) d_Wri_isBetween_5 ca_DS_at (by decide +kernel) rfl rfl (Nat.le_of_ble_eq_true rfl) ⟨(Nat.le_of_ble_eq_true rfl), (Nat.le_of_ble_eq_true rfl)⟩ ?_
  refine g_iload_n d_Wri_isBetween_8 rfl 2 rfl ?_
  refine g_icmp_lt (tgt := 28) d_Wri_isBetween_9 (by decide) (fun c4 => ?_) (fun c4 => ?_)
  · rw [if_pos c4] at h
    refine g_iconst (v := 0) d_Wri_isBetween_28 (by decide) ?_
    obtain rfl := Option.some.inj h
    exact g_zret d_Wri_isBetween_29 rfl gZ0
  · rw [if_neg c4] at h
    refine g_aload_n d_Wri_isBetween_12 rfl 0 rfl ?_
    refine g_getR d_Wri_isBetween_13 fl_Wri_9 (gXw_h6 hX) rfl ?_
    refine g_iload_n d_Wri_isBetween_16 rfl 1 rfl ?_
    obtain ⟨q2, hq2, h⟩ := gOb h
    refine g_callN_i (As := [.ref (ε.2.2.1 18 7), .int a0]) (rest := []) (j := 401) (host := "DropSignals") (ct_DS_at 18 7 120 (gXw_h7 hX) M a0 _ hq2) d_Wri_isBetween_17 ca_DS_at (by decide +kernel) rfl rfl (Nat.le_of_ble_eq_true rfl) ⟨(Nat.le_of_ble_eq_true rfl), (Nat.le_of_ble_eq_true rfl)⟩ ?_
    refine g_iload_n d_Wri_isBetween_20 rfl 3 rfl ?_
    refine g_icmp_gt (tgt := 28) d_Wri_isBetween_21 (by decide) (fun c3 => ?_) (fun c3 => ?_)
    · rw [if_pos c3] at h
      refine g_iconst (v := 0) d_Wri_isBetween_28 (by decide) ?_
      obtain rfl := Option.some.inj h
      exact g_zret d_Wri_isBetween_29 rfl gZ0
    · rw [if_neg c3] at h
      refine g_iconst (v := 1) d_Wri_isBetween_24 (by decide) ?_
      refine g_goto (tgt := 29) d_Wri_isBetween_25 (by decide) ?_
      obtain rfl := Option.some.inj h
      exact g_zret d_Wri_isBetween_29 rfl gZ1
theorem ct_Wri_isBetween {l : Launch} {ε : gEnv} (hX : gXw ε) (M : gMem) (a0 : Int32) (a1 : Int32) (a2 : Int32) (r : Int32) (h : f_Wri_isBetween M a0 a1 a2 = some r) : gCt l ε k_Wri_isBetween 1 21 [.ref (ε.2.2.1 18 6), .int a0, .int a1, .int a2] M (some (.int r)) M :=
  gCt_of (by decide) (Nat.le_of_ble_eq_true rfl) rfl (t_Wri_isBetween hX M a0 a1 a2 r h)
abbrev k_Wri_isDigitAllowed : gMD := (⟨"DropSignals$Writing", "isDigitAllowed", "(II)Z"⟩, prog_9_method_7_code, 4, (some .boolean))
theorem w_406 : Cond.instanceMethod ⟨"DropSignals$Writing", "isDigitAllowed", "(II)Z"⟩ ∈ gWs := gWs_in (i := 406) (by decide +kernel) rfl
theorem w_2 : Cond.selects "DropSignals$Writing" ⟨"DropSignals$Writing", "isDigitAllowed", "(II)Z"⟩ ⟨"DropSignals$Writing", "isDigitAllowed", "(II)Z"⟩ ∈ gWs := gWs_in (i := 2) (by decide +kernel) rfl
set_option maxRecDepth 100000 in
theorem ca_Wri_isDigitAllowed : gCaV k_Wri_isDigitAllowed 2 := ⟨⟨gWs_in (i := 407) rfl rfl, w_27, by decide, by decide, by decide +kernel⟩, w_406, w_2⟩
theorem d_Wri_isDigitAllowed_0 : decode prog_9_method_7_code 0 = .ok (.iload_n 2, 1) := by decide +kernel
theorem d_Wri_isDigitAllowed_1 : decode prog_9_method_7_code 1 = .ok (.iload_n 1, 1) := by decide +kernel
theorem d_Wri_isDigitAllowed_2 : decode prog_9_method_7_code 2 = .ok (.iconst 1, 1) := by decide +kernel
theorem d_Wri_isDigitAllowed_3 : decode prog_9_method_7_code 3 = .ok (.iadd, 1) := by decide +kernel
theorem d_Wri_isDigitAllowed_4 : decode prog_9_method_7_code 4 = .ok (.if_icmp .ne 7, 3) := by decide +kernel
theorem d_Wri_isDigitAllowed_7 : decode prog_9_method_7_code 7 = .ok (.iconst 1, 1) := by decide +kernel
theorem d_Wri_isDigitAllowed_8 : decode prog_9_method_7_code 8 = .ok (.goto 4, 3) := by decide +kernel
theorem d_Wri_isDigitAllowed_11 : decode prog_9_method_7_code 11 = .ok (.iconst 0, 1) := by decide +kernel
theorem d_Wri_isDigitAllowed_12 : decode prog_9_method_7_code 12 = .ok (.istore_n 3, 1) := by decide +kernel
theorem d_Wri_isDigitAllowed_13 : decode prog_9_method_7_code 13 = .ok (.aload_n 0, 1) := by decide +kernel
theorem d_Wri_isDigitAllowed_14 : decode prog_9_method_7_code 14 = .ok (.getfield 9, 3) := by decide +kernel
theorem d_Wri_isDigitAllowed_17 : decode prog_9_method_7_code 17 = .ok (.iload_n 1, 1) := by decide +kernel
theorem d_Wri_isDigitAllowed_18 : decode prog_9_method_7_code 18 = .ok (.invokestatic 23, 3) := by decide +kernel
theorem d_Wri_isDigitAllowed_21 : decode prog_9_method_7_code 21 = .ok (.tableswitch 107 98 100 #[37, 63, 27], 27) := by decide +kernel
theorem d_Wri_isDigitAllowed_48 : decode prog_9_method_7_code 48 = .ok (.aload_n 0, 1) := by decide +kernel
theorem d_Wri_isDigitAllowed_49 : decode prog_9_method_7_code 49 = .ok (.iload_n 2, 1) := by decide +kernel
theorem d_Wri_isDigitAllowed_50 : decode prog_9_method_7_code 50 = .ok (.bipush 48, 2) := by decide +kernel
theorem d_Wri_isDigitAllowed_52 : decode prog_9_method_7_code 52 = .ok (.bipush 57, 2) := by decide +kernel
theorem d_Wri_isDigitAllowed_54 : decode prog_9_method_7_code 54 = .ok (.invokevirtual 35, 3) := by decide +kernel
theorem d_Wri_isDigitAllowed_57 : decode prog_9_method_7_code 57 = .ok (.ireturn, 1) := by decide +kernel
theorem d_Wri_isDigitAllowed_58 : decode prog_9_method_7_code 58 = .ok (.iload_n 3, 1) := by decide +kernel
theorem d_Wri_isDigitAllowed_59 : decode prog_9_method_7_code 59 = .ok (.ifCond .eq 15, 3) := by decide +kernel
theorem d_Wri_isDigitAllowed_62 : decode prog_9_method_7_code 62 = .ok (.aload_n 0, 1) := by decide +kernel
theorem d_Wri_isDigitAllowed_63 : decode prog_9_method_7_code 63 = .ok (.iload_n 2, 1) := by decide +kernel
theorem d_Wri_isDigitAllowed_64 : decode prog_9_method_7_code 64 = .ok (.bipush 49, 2) := by decide +kernel
theorem d_Wri_isDigitAllowed_66 : decode prog_9_method_7_code 66 = .ok (.bipush 52, 2) := by decide +kernel
theorem d_Wri_isDigitAllowed_68 : decode prog_9_method_7_code 68 = .ok (.invokevirtual 35, 3) := by decide +kernel
theorem d_Wri_isDigitAllowed_71 : decode prog_9_method_7_code 71 = .ok (.goto 12, 3) := by decide +kernel
theorem d_Wri_isDigitAllowed_74 : decode prog_9_method_7_code 74 = .ok (.aload_n 0, 1) := by decide +kernel
theorem d_Wri_isDigitAllowed_75 : decode prog_9_method_7_code 75 = .ok (.iload_n 2, 1) := by decide +kernel
theorem d_Wri_isDigitAllowed_76 : decode prog_9_method_7_code 76 = .ok (.bipush 48, 2) := by decide +kernel
theorem d_Wri_isDigitAllowed_78 : decode prog_9_method_7_code 78 = .ok (.bipush 52, 2) := by decide +kernel
theorem d_Wri_isDigitAllowed_80 : decode prog_9_method_7_code 80 = .ok (.invokevirtual 35, 3) := by decide +kernel
theorem d_Wri_isDigitAllowed_83 : decode prog_9_method_7_code 83 = .ok (.ireturn, 1) := by decide +kernel
theorem d_Wri_isDigitAllowed_84 : decode prog_9_method_7_code 84 = .ok (.iload_n 3, 1) := by decide +kernel
theorem d_Wri_isDigitAllowed_85 : decode prog_9_method_7_code 85 = .ok (.ifCond .eq 13, 3) := by decide +kernel
theorem d_Wri_isDigitAllowed_88 : decode prog_9_method_7_code 88 = .ok (.aload_n 0, 1) := by decide +kernel
theorem d_Wri_isDigitAllowed_89 : decode prog_9_method_7_code 89 = .ok (.iload_n 2, 1) := by decide +kernel
theorem d_Wri_isDigitAllowed_90 : decode prog_9_method_7_code 90 = .ok (.bipush 48, 2) := by decide +kernel
theorem d_Wri_isDigitAllowed_92 : decode prog_9_method_7_code 92 = .ok (.bipush 51, 2) := by decide +kernel
theorem d_Wri_isDigitAllowed_94 : decode prog_9_method_7_code 94 = .ok (.invokevirtual 35, 3) := by decide +kernel
theorem d_Wri_isDigitAllowed_97 : decode prog_9_method_7_code 97 = .ok (.ireturn, 1) := by decide +kernel
theorem d_Wri_isDigitAllowed_98 : decode prog_9_method_7_code 98 = .ok (.aload_n 0, 1) := by decide +kernel
theorem d_Wri_isDigitAllowed_99 : decode prog_9_method_7_code 99 = .ok (.iload_n 2, 1) := by decide +kernel
theorem d_Wri_isDigitAllowed_100 : decode prog_9_method_7_code 100 = .ok (.bipush 48, 2) := by decide +kernel
theorem d_Wri_isDigitAllowed_102 : decode prog_9_method_7_code 102 = .ok (.aload_n 0, 1) := by decide +kernel
theorem d_Wri_isDigitAllowed_103 : decode prog_9_method_7_code 103 = .ok (.getfield 9, 3) := by decide +kernel
theorem d_Wri_isDigitAllowed_106 : decode prog_9_method_7_code 106 = .ok (.iload_n 2, 1) := by decide +kernel
theorem d_Wri_isDigitAllowed_107 : decode prog_9_method_7_code 107 = .ok (.iconst 1, 1) := by decide +kernel
theorem d_Wri_isDigitAllowed_108 : decode prog_9_method_7_code 108 = .ok (.isub, 1) := by decide +kernel
theorem d_Wri_isDigitAllowed_109 : decode prog_9_method_7_code 109 = .ok (.invokestatic 23, 3) := by decide +kernel
theorem d_Wri_isDigitAllowed_112 : decode prog_9_method_7_code 112 = .ok (.bipush 51, 2) := by decide +kernel
theorem d_Wri_isDigitAllowed_114 : decode prog_9_method_7_code 114 = .ok (.if_icmp .ne 8, 3) := by decide +kernel
theorem d_Wri_isDigitAllowed_117 : decode prog_9_method_7_code 117 = .ok (.bipush 49, 2) := by decide +kernel
theorem d_Wri_isDigitAllowed_119 : decode prog_9_method_7_code 119 = .ok (.goto 5, 3) := by decide +kernel
theorem d_Wri_isDigitAllowed_122 : decode prog_9_method_7_code 122 = .ok (.bipush 57, 2) := by decide +kernel
theorem d_Wri_isDigitAllowed_124 : decode prog_9_method_7_code 124 = .ok (.invokevirtual 35, 3) := by decide +kernel
theorem d_Wri_isDigitAllowed_127 : decode prog_9_method_7_code 127 = .ok (.ireturn, 1) := by decide +kernel
theorem d_Wri_isDigitAllowed_128 : decode prog_9_method_7_code 128 = .ok (.iconst 0, 1) := by decide +kernel
theorem d_Wri_isDigitAllowed_129 : decode prog_9_method_7_code 129 = .ok (.ireturn, 1) := by decide +kernel
theorem w_408 : Cond.methodLink "DropSignals$Writing" 35 ⟨"DropSignals$Writing", "isBetween", "(III)Z"⟩ ∈ gWs := gWs_in (i := 408) (by decide +kernel) rfl
noncomputable def f_Wri_isDigitAllowed_b124 (M : gMem) (s0 : Int32) (s1 : Int32) (s2 : Int32) : Option Int32 :=
  (f_Wri_isBetween M s2 s1 s0).bind fun q10 =>
  (gBl q10).bind fun _ =>
  some q10
theorem t_Wri_isDigitAllowed_b124 {l : Launch} {ε : gEnv} (hX : gXw ε) (M : gMem) (s0 : Int32) (s1 : Int32) (s2 : Int32) (r : Int32) (h : f_Wri_isDigitAllowed_b124 M s0 s1 s2 = some r) : gGo l ε k_Wri_isDigitAllowed (gR 2 44) (gFn ε (some (.int r)) M) 124 [] [.int s0, .int s1, .int s2, .ref (ε.2.2.1 18 6)] M := by
  unfold f_Wri_isDigitAllowed_b124 at h
  obtain ⟨q10, hq10, h⟩ := gOb h
  refine g_callV_i (As := [.int s2, .int s1, .int s0]) (rest := []) (ct_Wri_isBetween hX M s2 s1 s0 _ hq10) d_Wri_isDigitAllowed_124 ca_Wri_isBetween w_408 (gXw_h6 hX) rfl rfl rfl (Nat.le_of_ble_eq_true rfl) ⟨(Nat.le_of_ble_eq_true rfl), (Nat.le_of_ble_eq_true rfl)⟩ ?_
  obtain ⟨z11, hz11, h⟩ := gOb h
  obtain rfl := Option.some.inj h
  exact g_zretO d_Wri_isDigitAllowed_127 rfl hz11
noncomputable def f_Wri_isDigitAllowed_b12 (M : gMem) (x1 : Int32) (x2 : Int32) (s0 : Int32) : Option Int32 :=
  (f_DS_at 18 7 120 M x1).bind fun q1 =>
  if q1 = 98 then
    if s0 = 0 then
      (f_Wri_isBetween M x2 48 52).bind fun q3 =>
      (gBl q3).bind fun _ =>
      some q3
    else
      (f_Wri_isBetween M x2 49 52).bind fun q5 =>
      (gBl q5).bind fun _ =>
      some q5
  else
  if q1 = 99 then
    if s0 = 0 then
      (f_DS_at 18 7 120 M (x2 - 1)).bind fun q9 =>
      if q9 = 51 then
        f_Wri_isDigitAllowed_b124 M 49 48 x2
      else
        f_Wri_isDigitAllowed_b124 M 57 48 x2
    else
      (f_Wri_isBetween M x2 48 51).bind fun q13 =>
      (gBl q13).bind fun _ =>
      some q13
  else
  if q1 = 100 then
    (f_Wri_isBetween M x2 48 57).bind fun q17 =>
    (gBl q17).bind fun _ =>
    some q17
  else
  some 0
theorem t_Wri_isDigitAllowed_b12 {l : Launch} {ε : gEnv} (hX : gXw ε) (M : gMem) (x1 : Int32) (x2 : Int32) (s0 : Int32) (r : Int32) (h : f_Wri_isDigitAllowed_b12 M x1 x2 s0 = some r) : gGo l ε k_Wri_isDigitAllowed (gR 2 44) (gFn ε (some (.int r)) M) 12 [(0, .ref (ε.2.2.1 18 6)), (1, .int x1), (2, .int x2)] [.int s0] M := by
  unfold f_Wri_isDigitAllowed_b12 at h
  refine g_istore_n (L' := [(3, .int s0), (0, .ref (ε.2.2.1 18 6)), (1, .int x1), (2, .int x2)]) d_Wri_isDigitAllowed_12 rfl (by decide) rfl ?_
  refine g_aload_n d_Wri_isDigitAllowed_13 rfl 1 rfl ?_
  refine g_getR d_Wri_isDigitAllowed_14 fl_Wri_9 (gXw_h6 hX) rfl ?_
  refine g_iload_n d_Wri_isDigitAllowed_17 rfl 2 rfl ?_
  obtain ⟨q1, hq1, h⟩ := gOb h
  refine g_callN_i (As := [.ref (ε.2.2.1 18 7), .int x1]) (rest := []) (j := 401) (host := "DropSignals") (ct_DS_at 18 7 120 (gXw_h7 hX) M x1 _ hq1) d_Wri_isDigitAllowed_18 ca_DS_at (by decide +kernel) rfl rfl (Nat.le_of_ble_eq_true rfl) ⟨(Nat.le_of_ble_eq_true rfl), (Nat.le_of_ble_eq_true rfl)⟩ ?_
  by_cases c2 : q1 = 98
  · rw [if_pos c2] at h
    refine g_tabIn (off := 37) (tgt := 58) d_Wri_isDigitAllowed_21 (by rw [c2]; decide) (by rw [c2]; decide) (by rw [c2]; rfl) (by decide) ?_
    refine g_iload_n d_Wri_isDigitAllowed_58 rfl 0 rfl ?_
    refine g_if_eq (tgt := 74) d_Wri_isDigitAllowed_59 (by decide) (fun c7 => ?_) (fun c7 => ?_)
    · rw [if_pos c7] at h
      refine g_aload_n d_Wri_isDigitAllowed_74 rfl 1 rfl ?_
      refine g_iload_n d_Wri_isDigitAllowed_75 rfl 3 rfl ?_
      refine g_bipush (v := 48) d_Wri_isDigitAllowed_76 (by decide) ?_
      refine g_bipush (v := 52) d_Wri_isDigitAllowed_78 (by decide) ?_
      obtain ⟨q3, hq3, h⟩ := gOb h
      refine g_callV_i (As := [.int x2, .int 48, .int 52]) (rest := []) (ct_Wri_isBetween hX M x2 48 52 _ hq3) d_Wri_isDigitAllowed_80 ca_Wri_isBetween w_408 (gXw_h6 hX) rfl rfl rfl (Nat.le_of_ble_eq_true rfl) ⟨(Nat.le_of_ble_eq_true rfl), (Nat.le_of_ble_eq_true rfl)⟩ ?_
      obtain ⟨z4, hz4, h⟩ := gOb h
      obtain rfl := Option.some.inj h
      exact g_zretO d_Wri_isDigitAllowed_83 rfl hz4
    · rw [if_neg c7] at h
      refine g_aload_n d_Wri_isDigitAllowed_62 rfl 1 rfl ?_
      refine g_iload_n d_Wri_isDigitAllowed_63 rfl 3 rfl ?_
      refine g_bipush (v := 49) d_Wri_isDigitAllowed_64 (by decide) ?_
      refine g_bipush (v := 52) d_Wri_isDigitAllowed_66 (by decide) ?_
      obtain ⟨q5, hq5, h⟩ := gOb h
      refine g_callV_i (As := [.int x2, .int 49, .int 52]) (rest := []) (ct_Wri_isBetween hX M x2 49 52 _ hq5) d_Wri_isDigitAllowed_68 ca_Wri_isBetween w_408 (gXw_h6 hX) rfl rfl rfl (Nat.le_of_ble_eq_true rfl) ⟨(Nat.le_of_ble_eq_true rfl), (Nat.le_of_ble_eq_true rfl)⟩ ?_
      refine g_goto (tgt := 83) d_Wri_isDigitAllowed_71 (by decide) ?_
      obtain ⟨z6, hz6, h⟩ := gOb h
      obtain rfl := Option.some.inj h
      exact g_zretO d_Wri_isDigitAllowed_83 rfl hz6
  rw [if_neg c2] at h
  by_cases c8 : q1 = 99
  · rw [if_pos c8] at h
    refine g_tabIn (off := 63) (tgt := 84) d_Wri_isDigitAllowed_21 (by rw [c8]; decide) (by rw [c8]; decide) (by rw [c8]; rfl) (by decide) ?_
    refine g_iload_n d_Wri_isDigitAllowed_84 rfl 0 rfl ?_
    refine g_if_eq (tgt := 98) d_Wri_isDigitAllowed_85 (by decide) (fun c15 => ?_) (fun c15 => ?_)
    · rw [if_pos c15] at h
      refine g_aload_n d_Wri_isDigitAllowed_98 rfl 1 rfl ?_
      refine g_iload_n d_Wri_isDigitAllowed_99 rfl 3 rfl ?_
      refine g_bipush (v := 48) d_Wri_isDigitAllowed_100 (by decide) ?_
      refine g_aload_n d_Wri_isDigitAllowed_102 rfl 1 rfl ?_
      refine g_getR d_Wri_isDigitAllowed_103 fl_Wri_9 (gXw_h6 hX) rfl ?_
      refine g_iload_n d_Wri_isDigitAllowed_106 rfl 3 rfl ?_
      refine g_iconst (v := 1) d_Wri_isDigitAllowed_107 (by decide) ?_
      refine g_isub d_Wri_isDigitAllowed_108 ?_
      obtain ⟨q9, hq9, h⟩ := gOb h
      refine g_callN_i (As := [.ref (ε.2.2.1 18 7), .int (x2 - 1)]) (rest := [.int 48, .int x2, .ref (ε.2.2.1 18 6)]) (j := 401) (host := "DropSignals") (ct_DS_at 18 7 120 (gXw_h7 hX) M (x2 - 1) _ hq9) d_Wri_isDigitAllowed_109 ca_DS_at (by decide +kernel) rfl rfl (Nat.le_of_ble_eq_true rfl) ⟨(Nat.le_of_ble_eq_true rfl), (Nat.le_of_ble_eq_true rfl)⟩ ?_
      refine g_bipush (v := 51) d_Wri_isDigitAllowed_112 (by decide) ?_
      refine g_icmp_ne (tgt := 122) d_Wri_isDigitAllowed_114 (by decide) (fun c12 => ?_) (fun c12 => ?_)
      · rw [if_neg c12] at h
        refine g_bipush (v := 57) d_Wri_isDigitAllowed_122 (by decide) ?_
        refine gGo_sub [] rfl ?_
        exact t_Wri_isDigitAllowed_b124 hX M 57 48 x2 _ h
      · rw [if_pos c12] at h
        refine g_bipush (v := 49) d_Wri_isDigitAllowed_117 (by decide) ?_
        refine g_goto (tgt := 124) d_Wri_isDigitAllowed_119 (by decide) ?_
        refine gGo_sub [] rfl ?_
        exact t_Wri_isDigitAllowed_b124 hX M 49 48 x2 _ h
    · rw [if_neg c15] at h
      refine g_aload_n d_Wri_isDigitAllowed_88 rfl 1 rfl ?_
      refine g_iload_n d_Wri_isDigitAllowed_89 rfl 3 rfl ?_
      refine g_bipush (v := 48) d_Wri_isDigitAllowed_90 (by decide) ?_
      refine g_bipush (v := 51) d_Wri_isDigitAllowed_92 (by decide) ?_
      obtain ⟨q13, hq13, h⟩ := gOb h
      refine g_callV_i (As := [.int x2, .int 48, .int 51]) (rest := []) (ct_Wri_isBetween hX M x2 48 51 _ hq13) d_Wri_isDigitAllowed_94 ca_Wri_isBetween w_408 (gXw_h6 hX) rfl rfl rfl (Nat.le_of_ble_eq_true rfl) ⟨(Nat.le_of_ble_eq_true rfl), (Nat.le_of_ble_eq_true rfl)⟩ ?_
      obtain ⟨z14, hz14, h⟩ := gOb h
      obtain rfl := Option.some.inj h
      exact g_zretO d_Wri_isDigitAllowed_97 rfl hz14
  rw [if_neg c8] at h
  by_cases c16 : q1 = 100
  · rw [if_pos c16] at h
    refine g_tabIn (off := 27) (tgt := 48) d_Wri_isDigitAllowed_21 (by rw [c16]; decide) (by rw [c16]; decide) (by rw [c16]; rfl) (by decide) ?_
    refine g_aload_n d_Wri_isDigitAllowed_48 rfl 1 rfl ?_
    refine g_iload_n d_Wri_isDigitAllowed_49 rfl 3 rfl ?_
    refine g_bipush (v := 48) d_Wri_isDigitAllowed_50 (by decide) ?_
    refine g_bipush (v := 57) d_Wri_isDigitAllowed_52 (by decide) ?_
    obtain ⟨q17, hq17, h⟩ := gOb h
    refine g_callV_i (As := [.int x2, .int 48, .int 57]) (rest := []) (ct_Wri_isBetween hX M x2 48 57 _ hq17) d_Wri_isDigitAllowed_54 ca_Wri_isBetween w_408 (gXw_h6 hX) rfl rfl rfl (Nat.le_of_ble_eq_true rfl) ⟨(Nat.le_of_ble_eq_true rfl), (Nat.le_of_ble_eq_true rfl)⟩ ?_
    obtain ⟨z18, hz18, h⟩ := gOb h
    obtain rfl := Option.some.inj h
    exact g_zretO d_Wri_isDigitAllowed_57 rfl hz18
  rw [if_neg c16] at h
  refine g_tabOut (tgt := 128) d_Wri_isDigitAllowed_21 (by have nc2 := lv_neT (a := 98) c2 rfl; have nc8 := lv_neT (a := 99) c8 rfl; have nc16 := lv_neT (a := 100) c16 rfl; omega) (by decide) ?_
  refine g_iconst (v := 0) d_Wri_isDigitAllowed_128 (by decide) ?_
  obtain rfl := Option.some.inj h
  exact g_zret d_Wri_isDigitAllowed_129 rfl gZ0
noncomputable def f_Wri_isDigitAllowed (M : gMem) (a0 : Int32) (a1 : Int32) : Option Int32 :=
  if a1 = (a0 + 1) then
    f_Wri_isDigitAllowed_b12 M a0 a1 1
  else
    f_Wri_isDigitAllowed_b12 M a0 a1 0
theorem t_Wri_isDigitAllowed {l : Launch} {ε : gEnv} (hX : gXw ε) (M : gMem) (a0 : Int32) (a1 : Int32) (r : Int32) (h : f_Wri_isDigitAllowed M a0 a1 = some r) : gGo l ε k_Wri_isDigitAllowed (gR 2 44) (gFn ε (some (.int r)) M) 0 [(0, .ref (ε.2.2.1 18 6)), (1, .int a0), (2, .int a1)] [] M := by
  unfold f_Wri_isDigitAllowed at h
  refine g_iload_n d_Wri_isDigitAllowed_0 rfl 2 rfl ?_
  refine g_iload_n d_Wri_isDigitAllowed_1 rfl 1 rfl ?_
  refine g_iconst (v := 1) d_Wri_isDigitAllowed_2 (by decide) ?_
  refine g_iadd d_Wri_isDigitAllowed_3 ?_
  refine g_icmp_ne (tgt := 11) d_Wri_isDigitAllowed_4 (by decide) (fun c19 => ?_) (fun c19 => ?_)
  · rw [if_neg c19] at h
    refine g_iconst (v := 0) d_Wri_isDigitAllowed_11 (by decide) ?_
    exact t_Wri_isDigitAllowed_b12 hX M a0 a1 0 _ h
  · rw [if_pos c19] at h
    refine g_iconst (v := 1) d_Wri_isDigitAllowed_7 (by decide) ?_
    refine g_goto (tgt := 12) d_Wri_isDigitAllowed_8 (by decide) ?_
    exact t_Wri_isDigitAllowed_b12 hX M a0 a1 1 _ h
theorem ct_Wri_isDigitAllowed {l : Launch} {ε : gEnv} (hX : gXw ε) (M : gMem) (a0 : Int32) (a1 : Int32) (r : Int32) (h : f_Wri_isDigitAllowed M a0 a1 = some r) : gCt l ε k_Wri_isDigitAllowed 2 44 [.ref (ε.2.2.1 18 6), .int a0, .int a1] M (some (.int r)) M :=
  gCt_of (by decide) (Nat.le_of_ble_eq_true rfl) rfl (t_Wri_isDigitAllowed hX M a0 a1 r h)
abbrev k_Wri_digitsBehind : gMD := (⟨"DropSignals$Writing", "digitsBehind", "(I)I"⟩, prog_9_method_6_code, 1, (some .int))
theorem w_413 : Cond.static ⟨"DropSignals$Writing", "digitsBehind", "(I)I"⟩ ∈ gWs := gWs_in (i := 413) (by decide +kernel) rfl
set_option maxRecDepth 100000 in
theorem ca_Wri_digitsBehind : gCaS k_Wri_digitsBehind 1 := ⟨⟨gWs_in (i := 414) rfl rfl, w_27, by decide, by decide, by decide +kernel⟩, w_413⟩
theorem d_Wri_digitsBehind_0 : decode prog_9_method_6_code 0 = .ok (.iload_n 0, 1) := by decide +kernel
theorem d_Wri_digitsBehind_1 : decode prog_9_method_6_code 1 = .ok (.lookupswitch 55 #[(97, 53), (98, 51), (99, 51), (100, 51), (112, 53)], 51) := by decide +kernel
theorem d_Wri_digitsBehind_52 : decode prog_9_method_6_code 52 = .ok (.iconst 2, 1) := by decide +kernel
theorem d_Wri_digitsBehind_53 : decode prog_9_method_6_code 53 = .ok (.ireturn, 1) := by decide +kernel
theorem d_Wri_digitsBehind_54 : decode prog_9_method_6_code 54 = .ok (.iconst 0, 1) := by decide +kernel
theorem d_Wri_digitsBehind_55 : decode prog_9_method_6_code 55 = .ok (.ireturn, 1) := by decide +kernel
theorem d_Wri_digitsBehind_56 : decode prog_9_method_6_code 56 = .ok (.iconst (-1), 1) := by decide +kernel
theorem d_Wri_digitsBehind_57 : decode prog_9_method_6_code 57 = .ok (.ireturn, 1) := by decide +kernel
noncomputable def f_Wri_digitsBehind (a0 : Int32) : Option Int32 :=
  if a0 = 97 then
    some 0
  else
  if a0 = 98 then
    some 2
  else
  if a0 = 99 then
    some 2
  else
  if a0 = 100 then
    some 2
  else
  if a0 = 112 then
    some 0
  else
  some (-1)
theorem t_Wri_digitsBehind {l : Launch} {ε : gEnv} (M : gMem) (a0 : Int32) (r : Int32) (h : f_Wri_digitsBehind a0 = some r) : gGo l ε k_Wri_digitsBehind (gR 0 0) (gFn ε (some (.int r)) M) 0 [(0, .int a0)] [] M := by
  unfold f_Wri_digitsBehind at h
  refine g_iload_n d_Wri_digitsBehind_0 rfl 0 rfl ?_
  by_cases c1 : a0 = 97
  · rw [if_pos c1] at h
    refine g_lookup (off := 53) (tgt := 54) d_Wri_digitsBehind_1 rfl (by rw [c1]; rfl) (by decide) ?_
    refine g_iconst (v := 0) d_Wri_digitsBehind_54 (by decide) ?_
    obtain rfl := Option.some.inj h
    exact g_iret d_Wri_digitsBehind_55 rfl
  rw [if_neg c1] at h
  by_cases c2 : a0 = 98
  · rw [if_pos c2] at h
    refine g_lookup (off := 51) (tgt := 52) d_Wri_digitsBehind_1 rfl (by rw [c2]; rfl) (by decide) ?_
    refine g_iconst (v := 2) d_Wri_digitsBehind_52 (by decide) ?_
    obtain rfl := Option.some.inj h
    exact g_iret d_Wri_digitsBehind_53 rfl
  rw [if_neg c2] at h
  by_cases c3 : a0 = 99
  · rw [if_pos c3] at h
    refine g_lookup (off := 51) (tgt := 52) d_Wri_digitsBehind_1 rfl (by rw [c3]; rfl) (by decide) ?_
    refine g_iconst (v := 2) d_Wri_digitsBehind_52 (by decide) ?_
    obtain rfl := Option.some.inj h
    exact g_iret d_Wri_digitsBehind_53 rfl
  rw [if_neg c3] at h
  by_cases c4 : a0 = 100
  · rw [if_pos c4] at h
    refine g_lookup (off := 51) (tgt := 52) d_Wri_digitsBehind_1 rfl (by rw [c4]; rfl) (by decide) ?_
    refine g_iconst (v := 2) d_Wri_digitsBehind_52 (by decide) ?_
    obtain rfl := Option.some.inj h
    exact g_iret d_Wri_digitsBehind_53 rfl
  rw [if_neg c4] at h
  by_cases c5 : a0 = 112
  · rw [if_pos c5] at h
    refine g_lookup (off := 53) (tgt := 54) d_Wri_digitsBehind_1 rfl (by rw [c5]; rfl) (by decide) ?_
    refine g_iconst (v := 0) d_Wri_digitsBehind_54 (by decide) ?_
    obtain rfl := Option.some.inj h
    exact g_iret d_Wri_digitsBehind_55 rfl
  rw [if_neg c5] at h
  refine g_lookup (off := 55) (tgt := 56) d_Wri_digitsBehind_1 rfl (by show Op.lookupswitch.offset [(97, 53), (98, 51), (99, 51), (100, 51), (112, 53)] 55 (Int32.toInt a0) = 55; rw [lv_osw (a := 97) c1 rfl, lv_osw (a := 98) c2 rfl, lv_osw (a := 99) c3 rfl, lv_osw (a := 100) c4 rfl, lv_osw (a := 112) c5 rfl]; rfl) (by decide) ?_
  refine g_iconst (v := -1) d_Wri_digitsBehind_56 (by decide) ?_
  obtain rfl := Option.some.inj h
  exact g_iret d_Wri_digitsBehind_57 rfl
theorem ct_Wri_digitsBehind {l : Launch} {ε : gEnv} (M : gMem) (a0 : Int32) (r : Int32) (h : f_Wri_digitsBehind a0 = some r) : gCt l ε k_Wri_digitsBehind 0 0 [.int a0] M (some (.int r)) M :=
  gCt_of (by decide) (Nat.le_of_ble_eq_true rfl) rfl (t_Wri_digitsBehind M a0 r h)
abbrev k_Wri_firstError : gMD := (⟨"DropSignals$Writing", "firstError", "()I"⟩, prog_9_method_5_code, 4, (some .int))
theorem w_398 : Cond.instanceMethod ⟨"DropSignals$Writing", "firstError", "()I"⟩ ∈ gWs := gWs_in (i := 398) (by decide +kernel) rfl
theorem w_399 : Cond.selects "DropSignals$Writing" ⟨"DropSignals$Writing", "firstError", "()I"⟩ ⟨"DropSignals$Writing", "firstError", "()I"⟩ ∈ gWs := gWs_in (i := 399) (by decide +kernel) rfl
set_option maxRecDepth 100000 in
theorem ca_Wri_firstError : gCaV k_Wri_firstError 0 := ⟨⟨gWs_in (i := 400) rfl rfl, w_27, by decide, by decide, by decide +kernel⟩, w_398, w_399⟩
theorem d_Wri_firstError_0 : decode prog_9_method_5_code 0 = .ok (.aload_n 0, 1) := by decide +kernel
theorem d_Wri_firstError_1 : decode prog_9_method_5_code 1 = .ok (.getfield 15, 3) := by decide +kernel
theorem d_Wri_firstError_4 : decode prog_9_method_5_code 4 = .ok (.ifCond .eq 16, 3) := by decide +kernel
theorem d_Wri_firstError_7 : decode prog_9_method_5_code 7 = .ok (.aload_n 0, 1) := by decide +kernel
theorem d_Wri_firstError_8 : decode prog_9_method_5_code 8 = .ok (.getfield 9, 3) := by decide +kernel
theorem d_Wri_firstError_11 : decode prog_9_method_5_code 11 = .ok (.iconst 0, 1) := by decide +kernel
theorem d_Wri_firstError_12 : decode prog_9_method_5_code 12 = .ok (.invokestatic 23, 3) := by decide +kernel
theorem d_Wri_firstError_15 : decode prog_9_method_5_code 15 = .ok (.bipush 86, 2) := by decide +kernel
theorem d_Wri_firstError_17 : decode prog_9_method_5_code 17 = .ok (.if_icmp .eq 5, 3) := by decide +kernel
theorem d_Wri_firstError_20 : decode prog_9_method_5_code 20 = .ok (.iconst 0, 1) := by decide +kernel
theorem d_Wri_firstError_21 : decode prog_9_method_5_code 21 = .ok (.ireturn, 1) := by decide +kernel
theorem d_Wri_firstError_22 : decode prog_9_method_5_code 22 = .ok (.iconst 0, 1) := by decide +kernel
theorem d_Wri_firstError_23 : decode prog_9_method_5_code 23 = .ok (.istore_n 1, 1) := by decide +kernel
theorem d_Wri_firstError_24 : decode prog_9_method_5_code 24 = .ok (.iconst 0, 1) := by decide +kernel
theorem d_Wri_firstError_25 : decode prog_9_method_5_code 25 = .ok (.istore_n 2, 1) := by decide +kernel
theorem d_Wri_firstError_26 : decode prog_9_method_5_code 26 = .ok (.iconst 1, 1) := by decide +kernel
theorem d_Wri_firstError_27 : decode prog_9_method_5_code 27 = .ok (.istore_n 3, 1) := by decide +kernel
theorem d_Wri_firstError_28 : decode prog_9_method_5_code 28 = .ok (.iload_n 3, 1) := by decide +kernel
theorem d_Wri_firstError_29 : decode prog_9_method_5_code 29 = .ok (.aload_n 0, 1) := by decide +kernel
theorem d_Wri_firstError_30 : decode prog_9_method_5_code 30 = .ok (.getfield 15, 3) := by decide +kernel
theorem d_Wri_firstError_33 : decode prog_9_method_5_code 33 = .ok (.if_icmp .ge 51, 3) := by decide +kernel
theorem d_Wri_firstError_36 : decode prog_9_method_5_code 36 = .ok (.iload_n 2, 1) := by decide +kernel
theorem d_Wri_firstError_37 : decode prog_9_method_5_code 37 = .ok (.ifCond .le 20, 3) := by decide +kernel
theorem d_Wri_firstError_40 : decode prog_9_method_5_code 40 = .ok (.aload_n 0, 1) := by decide +kernel
theorem d_Wri_firstError_41 : decode prog_9_method_5_code 41 = .ok (.iload_n 1, 1) := by decide +kernel
theorem d_Wri_firstError_42 : decode prog_9_method_5_code 42 = .ok (.iload_n 3, 1) := by decide +kernel
theorem d_Wri_firstError_43 : decode prog_9_method_5_code 43 = .ok (.invokevirtual 27, 3) := by decide +kernel
theorem d_Wri_firstError_46 : decode prog_9_method_5_code 46 = .ok (.ifCond .ne 5, 3) := by decide +kernel
theorem d_Wri_firstError_49 : decode prog_9_method_5_code 49 = .ok (.iload_n 3, 1) := by decide +kernel
theorem d_Wri_firstError_50 : decode prog_9_method_5_code 50 = .ok (.ireturn, 1) := by decide +kernel
theorem d_Wri_firstError_51 : decode prog_9_method_5_code 51 = .ok (.iinc 2 (-1), 3) := by decide +kernel
theorem d_Wri_firstError_54 : decode prog_9_method_5_code 54 = .ok (.goto 24, 3) := by decide +kernel
theorem d_Wri_firstError_57 : decode prog_9_method_5_code 57 = .ok (.iload_n 3, 1) := by decide +kernel
theorem d_Wri_firstError_58 : decode prog_9_method_5_code 58 = .ok (.istore_n 1, 1) := by decide +kernel
theorem d_Wri_firstError_59 : decode prog_9_method_5_code 59 = .ok (.aload_n 0, 1) := by decide +kernel
theorem d_Wri_firstError_60 : decode prog_9_method_5_code 60 = .ok (.getfield 9, 3) := by decide +kernel
theorem d_Wri_firstError_63 : decode prog_9_method_5_code 63 = .ok (.iload_n 3, 1) := by decide +kernel
theorem d_Wri_firstError_64 : decode prog_9_method_5_code 64 = .ok (.invokestatic 23, 3) := by decide +kernel
theorem d_Wri_firstError_67 : decode prog_9_method_5_code 67 = .ok (.invokestatic 31, 3) := by decide +kernel
theorem d_Wri_firstError_70 : decode prog_9_method_5_code 70 = .ok (.istore_n 2, 1) := by decide +kernel
theorem d_Wri_firstError_71 : decode prog_9_method_5_code 71 = .ok (.iload_n 2, 1) := by decide +kernel
theorem d_Wri_firstError_72 : decode prog_9_method_5_code 72 = .ok (.iconst (-1), 1) := by decide +kernel
theorem d_Wri_firstError_73 : decode prog_9_method_5_code 73 = .ok (.if_icmp .ne 5, 3) := by decide +kernel
theorem d_Wri_firstError_76 : decode prog_9_method_5_code 76 = .ok (.iload_n 3, 1) := by decide +kernel
theorem d_Wri_firstError_77 : decode prog_9_method_5_code 77 = .ok (.ireturn, 1) := by decide +kernel
theorem d_Wri_firstError_78 : decode prog_9_method_5_code 78 = .ok (.iinc 3 1, 3) := by decide +kernel
theorem d_Wri_firstError_81 : decode prog_9_method_5_code 81 = .ok (.goto (-53), 3) := by decide +kernel
theorem d_Wri_firstError_84 : decode prog_9_method_5_code 84 = .ok (.iload_n 2, 1) := by decide +kernel
theorem d_Wri_firstError_85 : decode prog_9_method_5_code 85 = .ok (.ifCond .ne 7, 3) := by decide +kernel
theorem d_Wri_firstError_88 : decode prog_9_method_5_code 88 = .ok (.iconst (-1), 1) := by decide +kernel
theorem d_Wri_firstError_89 : decode prog_9_method_5_code 89 = .ok (.goto 7, 3) := by decide +kernel
theorem d_Wri_firstError_92 : decode prog_9_method_5_code 92 = .ok (.aload_n 0, 1) := by decide +kernel
theorem d_Wri_firstError_93 : decode prog_9_method_5_code 93 = .ok (.getfield 15, 3) := by decide +kernel
theorem d_Wri_firstError_96 : decode prog_9_method_5_code 96 = .ok (.ireturn, 1) := by decide +kernel
theorem w_412 : Cond.methodLink "DropSignals$Writing" 31 ⟨"DropSignals$Writing", "digitsBehind", "(I)I"⟩ ∈ gWs := gWs_in (i := 412) (by decide +kernel) rfl
theorem w_404 : Cond.methodLink "DropSignals$Writing" 27 ⟨"DropSignals$Writing", "isDigitAllowed", "(II)Z"⟩ ∈ gWs := gWs_in (i := 404) (by decide +kernel) rfl
noncomputable def f_Wri_firstError_b78 (M : gMem) (x1 : Int32) (x2 : Int32) (x3 : Int32) : Option ((Int32 × Int32 × Int32) ⊕ Int32) :=
  some (.inl (x1, x2, (x3 + 1)))
theorem t_Wri_firstError_b78 {l : Launch} {ε : gEnv} (hX : gXw ε) (M : gMem) (x1 : Int32) (x2 : Int32) (x3 : Int32) (res : ((Int32 × Int32 × Int32) ⊕ Int32)) (h : f_Wri_firstError_b78 M x1 x2 x3 = some res) (r : Int32) (k1 : ∀ s0 : (Int32 × Int32 × Int32), res = .inl s0 → gGo l ε k_Wri_firstError (gR 3 67) (gFn ε (some (.int r)) M) 28 [(0, .ref (ε.2.2.1 18 6)), (1, .int s0.1), (2, .int s0.2.1), (3, .int s0.2.2)] [] M) (k2 : ∀ r', res = .inr r' → r' = r) : gGo l ε k_Wri_firstError (gR 3 67) (gFn ε (some (.int r)) M) 78 [(0, .ref (ε.2.2.1 18 6)), (1, .int x1), (2, .int x2), (3, .int x3)] [] M := by
  unfold f_Wri_firstError_b78 at h
  refine g_iinc (v := (x3 + 1)) (L' := [(3, .int (x3 + 1)), (0, .ref (ε.2.2.1 18 6)), (1, .int x1), (2, .int x2)]) d_Wri_firstError_78 (j := 3) rfl rfl (by decide) rfl ?_
  refine g_goto (tgt := 28) d_Wri_firstError_81 (by decide) ?_
  refine gGo_sub [1, 2, 3, 0] rfl ?_
  obtain rfl := Option.some.inj h
  exact k1 (x1, x2, (x3 + 1)) rfl
noncomputable def f_Wri_firstError_s28 (M : gMem) (x1 : Int32) (x2 : Int32) (x3 : Int32) : Option ((Int32 × Int32 × Int32) ⊕ Int32) :=
  if (M 18 6 1) ≤ x3 then
    if x2 = 0 then
      some (.inr (-1))
    else
      some (.inr (M 18 6 1))
  else
    if x2 ≤ 0 then
      (f_DS_at 18 7 120 M x3).bind fun q3 =>
      (f_Wri_digitsBehind q3).bind fun q4 =>
      if q4 = (-1) then
        some (.inr x3)
      else
        f_Wri_firstError_b78 M x3 q4 x3
    else
      (f_Wri_isDigitAllowed M x1 x3).bind fun q6 =>
      if q6 = 0 then
        some (.inr x3)
      else
        f_Wri_firstError_b78 M x1 (x2 + (-1)) x3
theorem t_Wri_firstError_s28 {l : Launch} {ε : gEnv} (hX : gXw ε) (M : gMem) (x1 : Int32) (x2 : Int32) (x3 : Int32) (res : ((Int32 × Int32 × Int32) ⊕ Int32)) (h : f_Wri_firstError_s28 M x1 x2 x3 = some res) (r : Int32) (k1 : ∀ s0 : (Int32 × Int32 × Int32), res = .inl s0 → gGo l ε k_Wri_firstError (gR 3 67) (gFn ε (some (.int r)) M) 28 [(0, .ref (ε.2.2.1 18 6)), (1, .int s0.1), (2, .int s0.2.1), (3, .int s0.2.2)] [] M) (k2 : ∀ r', res = .inr r' → r' = r) : gGo l ε k_Wri_firstError (gR 3 67) (gFn ε (some (.int r)) M) 28 [(0, .ref (ε.2.2.1 18 6)), (1, .int x1), (2, .int x2), (3, .int x3)] [] M := by
  unfold f_Wri_firstError_s28 at h
  refine g_iload_n d_Wri_firstError_28 rfl 3 rfl ?_
  refine g_aload_n d_Wri_firstError_29 rfl 0 rfl ?_
  refine g_getI d_Wri_firstError_30 fl_Wri_15 (gXw_h6 hX) rfl ?_
  refine g_icmp_ge (tgt := 84) d_Wri_firstError_33 (by decide) (fun c9 => ?_) (fun c9 => ?_)
  · rw [if_pos c9] at h
    refine g_iload_n d_Wri_firstError_84 rfl 2 rfl ?_
    refine g_if_ne (tgt := 92) d_Wri_firstError_85 (by decide) (fun c2 => ?_) (fun c2 => ?_)
    · rw [if_neg c2] at h
      refine g_aload_n d_Wri_firstError_92 rfl 0 rfl ?_
      refine g_getI d_Wri_firstError_93 fl_Wri_15 (gXw_h6 hX) rfl ?_
      obtain rfl := Option.some.inj h
      have e9 := k2 _ rfl
      subst e9
      exact g_iret d_Wri_firstError_96 rfl
    · rw [if_pos c2] at h
      refine g_iconst (v := -1) d_Wri_firstError_88 (by decide) ?_
      refine g_goto (tgt := 96) d_Wri_firstError_89 (by decide) ?_
      obtain rfl := Option.some.inj h
      have e9 := k2 _ rfl
      subst e9
      exact g_iret d_Wri_firstError_96 rfl
  · rw [if_neg c9] at h
    refine g_iload_n d_Wri_firstError_36 rfl 2 rfl ?_
    refine g_if_le (tgt := 57) d_Wri_firstError_37 (by decide) (fun c8 => ?_) (fun c8 => ?_)
    · rw [if_pos c8] at h
      refine g_iload_n d_Wri_firstError_57 rfl 3 rfl ?_
      refine g_istore_n (L' := [(1, .int x3), (0, .ref (ε.2.2.1 18 6)), (2, .int x2), (3, .int x3)]) d_Wri_firstError_58 rfl (by decide) rfl ?_
      refine g_aload_n d_Wri_firstError_59 rfl 1 rfl ?_
      refine g_getR d_Wri_firstError_60 fl_Wri_9 (gXw_h6 hX) rfl ?_
      refine g_iload_n d_Wri_firstError_63 rfl 3 rfl ?_
      obtain ⟨q3, hq3, h⟩ := gOb h
      refine g_callN_i (As := [.ref (ε.2.2.1 18 7), .int x3]) (rest := []) (j := 401) (host := "DropSignals") (ct_DS_at 18 7 120 (gXw_h7 hX) M x3 _ hq3) d_Wri_firstError_64 ca_DS_at (by decide +kernel) rfl rfl (Nat.le_of_ble_eq_true rfl) ⟨(Nat.le_of_ble_eq_true rfl), (Nat.le_of_ble_eq_true rfl)⟩ ?_
      obtain ⟨q4, hq4, h⟩ := gOb h
      refine g_callS_i (As := [.int q3]) (rest := []) (ct_Wri_digitsBehind M q3 _ hq4) d_Wri_firstError_67 ca_Wri_digitsBehind w_412 rfl rfl (Nat.le_of_ble_eq_true rfl) ⟨(Nat.le_of_ble_eq_true rfl), (Nat.le_of_ble_eq_true rfl)⟩ ?_
      refine g_istore_n (L' := [(2, .int q4), (1, .int x3), (0, .ref (ε.2.2.1 18 6)), (3, .int x3)]) d_Wri_firstError_70 rfl (by decide) rfl ?_
      refine g_iload_n d_Wri_firstError_71 rfl 0 rfl ?_
      refine g_iconst (v := -1) d_Wri_firstError_72 (by decide) ?_
      refine g_icmp_ne (tgt := 78) d_Wri_firstError_73 (by decide) (fun c5 => ?_) (fun c5 => ?_)
      · rw [if_neg c5] at h
        refine gGo_sub [2, 1, 0, 3] rfl ?_
        exact t_Wri_firstError_b78 hX M x3 q4 x3 _ h r k1 k2
      · rw [if_pos c5] at h
        refine g_iload_n d_Wri_firstError_76 rfl 3 rfl ?_
        obtain rfl := Option.some.inj h
        have e9 := k2 _ rfl
        subst e9
        exact g_iret d_Wri_firstError_77 rfl
    · rw [if_neg c8] at h
      refine g_aload_n d_Wri_firstError_40 rfl 0 rfl ?_
      refine g_iload_n d_Wri_firstError_41 rfl 1 rfl ?_
      refine g_iload_n d_Wri_firstError_42 rfl 3 rfl ?_
      obtain ⟨q6, hq6, h⟩ := gOb h
      refine g_callV_i (As := [.int x1, .int x3]) (rest := []) (ct_Wri_isDigitAllowed hX M x1 x3 _ hq6) d_Wri_firstError_43 ca_Wri_isDigitAllowed w_404 (gXw_h6 hX) rfl rfl rfl (Nat.le_of_ble_eq_true rfl) ⟨(Nat.le_of_ble_eq_true rfl), (Nat.le_of_ble_eq_true rfl)⟩ ?_
      refine g_if_ne (tgt := 51) d_Wri_firstError_46 (by decide) (fun c7 => ?_) (fun c7 => ?_)
      · rw [if_neg c7] at h
        refine g_iinc (v := (x2 + (-1))) (L' := [(2, .int (x2 + (-1))), (0, .ref (ε.2.2.1 18 6)), (1, .int x1), (3, .int x3)]) d_Wri_firstError_51 (j := 2) rfl rfl (by decide) rfl ?_
        refine g_goto (tgt := 78) d_Wri_firstError_54 (by decide) ?_
        refine gGo_sub [1, 2, 0, 3] rfl ?_
        exact t_Wri_firstError_b78 hX M x1 (x2 + (-1)) x3 _ h r k1 k2
      · rw [if_pos c7] at h
        refine g_iload_n d_Wri_firstError_49 rfl 3 rfl ?_
        obtain rfl := Option.some.inj h
        have e9 := k2 _ rfl
        subst e9
        exact g_iret d_Wri_firstError_50 rfl
noncomputable def f_Wri_firstError_l28 (M : gMem) (s : (Int32 × Int32 × Int32)) : Option Int32 := gLp (fun s => f_Wri_firstError_s28 M s.1 s.2.1 s.2.2) s
theorem t_Wri_firstError_l28 {l : Launch} {ε : gEnv} (hX : gXw ε) (M : gMem) (s : (Int32 × Int32 × Int32)) (r : Int32) (h : f_Wri_firstError_l28 M s = some r) : gGo l ε k_Wri_firstError (gR 3 67) (gFn ε (some (.int r)) M) 28 [(0, .ref (ε.2.2.1 18 6)), (1, .int s.1), (2, .int s.2.1), (3, .int s.2.2)] [] M :=
  g_loop _ (fun r s => gGo l ε k_Wri_firstError (gR 3 67) (gFn ε (some (.int r)) M) 28 [(0, .ref (ε.2.2.1 18 6)), (1, .int s.1), (2, .int s.2.1), (3, .int s.2.2)] [] M) (fun s res h r k1 k2 => t_Wri_firstError_s28 hX M s.1 s.2.1 s.2.2 res h r k1 k2) s r h
noncomputable def f_Wri_firstError (M : gMem) : Option Int32 :=
  if (M 18 6 1) = 0 then
    some 0
  else
    (f_DS_at 18 7 120 M 0).bind fun q1 =>
    if q1 = 86 then
      f_Wri_firstError_l28 M (0, 0, 1)
    else
      some 0
theorem t_Wri_firstError {l : Launch} {ε : gEnv} (hX : gXw ε) (M : gMem) (r : Int32) (h : f_Wri_firstError M = some r) : gGo l ε k_Wri_firstError (gR 3 67) (gFn ε (some (.int r)) M) 0 [(0, .ref (ε.2.2.1 18 6))] [] M := by
  unfold f_Wri_firstError at h
  refine g_aload_n d_Wri_firstError_0 rfl 0 rfl ?_
  refine g_getI d_Wri_firstError_1 fl_Wri_15 (gXw_h6 hX) rfl ?_
  refine g_if_eq (tgt := 20) d_Wri_firstError_4 (by decide) (fun c11 => ?_) (fun c11 => ?_)
  · rw [if_pos c11] at h
    refine g_iconst (v := 0) d_Wri_firstError_20 (by decide) ?_
    obtain rfl := Option.some.inj h
    exact g_iret d_Wri_firstError_21 rfl
  · rw [if_neg c11] at h
    refine g_aload_n d_Wri_firstError_7 rfl 0 rfl ?_
    refine g_getR d_Wri_firstError_8 fl_Wri_9 (gXw_h6 hX) rfl ?_
    refine g_iconst (v := 0) d_Wri_firstError_11 (by decide) ?_
    obtain ⟨q1, hq1, h⟩ := gOb h
    refine g_callN_i (As := [.ref (ε.2.2.1 18 7), .int 0]) (rest := []) (j := 401) (host := "DropSignals") (ct_DS_at 18 7 120 (gXw_h7 hX) M 0 _ hq1) d_Wri_firstError_12 ca_DS_at (by decide +kernel) rfl rfl (Nat.le_of_ble_eq_true rfl) ⟨(Nat.le_of_ble_eq_true rfl), (Nat.le_of_ble_eq_true rfl)⟩ ?_
    refine g_bipush (v := 86) d_Wri_firstError_15 (by decide) ?_
    refine g_icmp_eq (tgt := 22) d_Wri_firstError_17 (by decide) (fun c10 => ?_) (fun c10 => ?_)
    · rw [if_pos c10] at h
      refine g_iconst (v := 0) d_Wri_firstError_22 (by decide) ?_
      refine g_istore_n (L' := [(1, .int 0), (0, .ref (ε.2.2.1 18 6))]) d_Wri_firstError_23 rfl (by decide) rfl ?_
      refine g_iconst (v := 0) d_Wri_firstError_24 (by decide) ?_
      refine g_istore_n (L' := [(2, .int 0), (1, .int 0), (0, .ref (ε.2.2.1 18 6))]) d_Wri_firstError_25 rfl (by decide) rfl ?_
      refine g_iconst (v := 1) d_Wri_firstError_26 (by decide) ?_
      refine g_istore_n (L' := [(3, .int 1), (2, .int 0), (1, .int 0), (0, .ref (ε.2.2.1 18 6))]) d_Wri_firstError_27 rfl (by decide) rfl ?_
      refine gGo_sub [3, 2, 1, 0] rfl ?_
      exact t_Wri_firstError_l28 hX M (0, 0, 1) _ h
    · rw [if_neg c10] at h
      refine g_iconst (v := 0) d_Wri_firstError_20 (by decide) ?_
      obtain rfl := Option.some.inj h
      exact g_iret d_Wri_firstError_21 rfl
theorem ct_Wri_firstError {l : Launch} {ε : gEnv} (hX : gXw ε) (M : gMem) (r : Int32) (h : f_Wri_firstError M = some r) : gCt l ε k_Wri_firstError 3 67 [.ref (ε.2.2.1 18 6)] M (some (.int r)) M :=
  gCt_of (by decide) (Nat.le_of_ble_eq_true rfl) rfl (t_Wri_firstError hX M r h)
abbrev k_Wri_isLetter : gMD := (⟨"DropSignals$Writing", "isLetter", "(I)Z"⟩, prog_9_method_9_code, 2, (some .boolean))
theorem w_426 : Cond.instanceMethod ⟨"DropSignals$Writing", "isLetter", "(I)Z"⟩ ∈ gWs := gWs_in (i := 426) (by decide +kernel) rfl
theorem w_427 : Cond.selects "DropSignals$Writing" ⟨"DropSignals$Writing", "isLetter", "(I)Z"⟩ ⟨"DropSignals$Writing", "isLetter", "(I)Z"⟩ ∈ gWs := gWs_in (i := 427) (by decide +kernel) rfl
set_option maxRecDepth 100000 in
theorem ca_Wri_isLetter : gCaV k_Wri_isLetter 1 := ⟨⟨gWs_in (i := 428) rfl rfl, w_27, by decide, by decide, by decide +kernel⟩, w_426, w_427⟩
theorem d_Wri_isLetter_0 : decode prog_9_method_9_code 0 = .ok (.aload_n 0, 1) := by decide +kernel
theorem d_Wri_isLetter_1 : decode prog_9_method_9_code 1 = .ok (.getfield 9, 3) := by decide +kernel
theorem d_Wri_isLetter_4 : decode prog_9_method_9_code 4 = .ok (.iload_n 1, 1) := by decide +kernel
theorem d_Wri_isLetter_5 : decode prog_9_method_9_code 5 = .ok (.invokestatic 23, 3) := by decide +kernel
theorem d_Wri_isLetter_8 : decode prog_9_method_9_code 8 = .ok (.invokestatic 31, 3) := by decide +kernel
theorem d_Wri_isLetter_11 : decode prog_9_method_9_code 11 = .ok (.iconst (-1), 1) := by decide +kernel
theorem d_Wri_isLetter_12 : decode prog_9_method_9_code 12 = .ok (.if_icmp .eq 7, 3) := by decide +kernel
theorem d_Wri_isLetter_15 : decode prog_9_method_9_code 15 = .ok (.iconst 1, 1) := by decide +kernel
theorem d_Wri_isLetter_16 : decode prog_9_method_9_code 16 = .ok (.goto 4, 3) := by decide +kernel
theorem d_Wri_isLetter_19 : decode prog_9_method_9_code 19 = .ok (.iconst 0, 1) := by decide +kernel
theorem d_Wri_isLetter_20 : decode prog_9_method_9_code 20 = .ok (.ireturn, 1) := by decide +kernel
noncomputable def f_Wri_isLetter (M : gMem) (a0 : Int32) : Option Int32 :=
  (f_DS_at 18 7 120 M a0).bind fun q1 =>
  (f_Wri_digitsBehind q1).bind fun q2 =>
  if q2 = (-1) then
    some 0
  else
    some 1
theorem t_Wri_isLetter {l : Launch} {ε : gEnv} (hX : gXw ε) (M : gMem) (a0 : Int32) (r : Int32) (h : f_Wri_isLetter M a0 = some r) : gGo l ε k_Wri_isLetter (gR 1 21) (gFn ε (some (.int r)) M) 0 [(0, .ref (ε.2.2.1 18 6)), (1, .int a0)] [] M := by
  unfold f_Wri_isLetter at h
  refine g_aload_n d_Wri_isLetter_0 rfl 0 rfl ?_
  refine g_getR d_Wri_isLetter_1 fl_Wri_9 (gXw_h6 hX) rfl ?_
  refine g_iload_n d_Wri_isLetter_4 rfl 1 rfl ?_
  obtain ⟨q1, hq1, h⟩ := gOb h
  refine g_callN_i (As := [.ref (ε.2.2.1 18 7), .int a0]) (rest := []) (j := 401) (host := "DropSignals") (ct_DS_at 18 7 120 (gXw_h7 hX) M a0 _ hq1) d_Wri_isLetter_5 ca_DS_at (by decide +kernel) rfl rfl (Nat.le_of_ble_eq_true rfl) ⟨(Nat.le_of_ble_eq_true rfl), (Nat.le_of_ble_eq_true rfl)⟩ ?_
  obtain ⟨q2, hq2, h⟩ := gOb h
  refine g_callS_i (As := [.int q1]) (rest := []) (ct_Wri_digitsBehind M q1 _ hq2) d_Wri_isLetter_8 ca_Wri_digitsBehind w_412 rfl rfl (Nat.le_of_ble_eq_true rfl) ⟨(Nat.le_of_ble_eq_true rfl), (Nat.le_of_ble_eq_true rfl)⟩ ?_
  refine g_iconst (v := -1) d_Wri_isLetter_11 (by decide) ?_
  refine g_icmp_eq (tgt := 19) d_Wri_isLetter_12 (by decide) (fun c3 => ?_) (fun c3 => ?_)
  · rw [if_pos c3] at h
    refine g_iconst (v := 0) d_Wri_isLetter_19 (by decide) ?_
    obtain rfl := Option.some.inj h
    exact g_zret d_Wri_isLetter_20 rfl gZ0
  · rw [if_neg c3] at h
    refine g_iconst (v := 1) d_Wri_isLetter_15 (by decide) ?_
    refine g_goto (tgt := 20) d_Wri_isLetter_16 (by decide) ?_
    obtain rfl := Option.some.inj h
    exact g_zret d_Wri_isLetter_20 rfl gZ1
theorem ct_Wri_isLetter {l : Launch} {ε : gEnv} (hX : gXw ε) (M : gMem) (a0 : Int32) (r : Int32) (h : f_Wri_isLetter M a0 = some r) : gCt l ε k_Wri_isLetter 1 21 [.ref (ε.2.2.1 18 6), .int a0] M (some (.int r)) M :=
  gCt_of (by decide) (Nat.le_of_ble_eq_true rfl) rfl (t_Wri_isLetter hX M a0 r h)
abbrev k_Wri_isDone : gMD := (⟨"DropSignals$Writing", "isDone", "(LDropSignals$Evening;I)Z"⟩, prog_9_method_10_code, 5, (some .boolean))
theorem w_430 : Cond.instanceMethod ⟨"DropSignals$Writing", "isDone", "(LDropSignals$Evening;I)Z"⟩ ∈ gWs := gWs_in (i := 430) (by decide +kernel) rfl
theorem w_431 : Cond.selects "DropSignals$Writing" ⟨"DropSignals$Writing", "isDone", "(LDropSignals$Evening;I)Z"⟩ ⟨"DropSignals$Writing", "isDone", "(LDropSignals$Evening;I)Z"⟩ ∈ gWs := gWs_in (i := 431) (by decide +kernel) rfl
set_option maxRecDepth 100000 in
theorem ca_Wri_isDone : gCaV k_Wri_isDone 2 := ⟨⟨gWs_in (i := 432) rfl rfl, w_27, by decide, by decide, by decide +kernel⟩, w_430, w_431⟩
theorem d_Wri_isDone_0 : decode prog_9_method_10_code 0 = .ok (.aload_n 0, 1) := by decide +kernel
theorem d_Wri_isDone_1 : decode prog_9_method_10_code 1 = .ok (.getfield 9, 3) := by decide +kernel
theorem d_Wri_isDone_4 : decode prog_9_method_10_code 4 = .ok (.iload_n 2, 1) := by decide +kernel
theorem d_Wri_isDone_5 : decode prog_9_method_10_code 5 = .ok (.iconst 1, 1) := by decide +kernel
theorem d_Wri_isDone_6 : decode prog_9_method_10_code 6 = .ok (.iadd, 1) := by decide +kernel
theorem d_Wri_isDone_7 : decode prog_9_method_10_code 7 = .ok (.invokestatic 23, 3) := by decide +kernel
theorem d_Wri_isDone_10 : decode prog_9_method_10_code 10 = .ok (.bipush 48, 2) := by decide +kernel
theorem d_Wri_isDone_12 : decode prog_9_method_10_code 12 = .ok (.isub, 1) := by decide +kernel
theorem d_Wri_isDone_13 : decode prog_9_method_10_code 13 = .ok (.istore_n 3, 1) := by decide +kernel
theorem d_Wri_isDone_14 : decode prog_9_method_10_code 14 = .ok (.aload_n 0, 1) := by decide +kernel
theorem d_Wri_isDone_15 : decode prog_9_method_10_code 15 = .ok (.getfield 9, 3) := by decide +kernel
theorem d_Wri_isDone_18 : decode prog_9_method_10_code 18 = .ok (.iload_n 2, 1) := by decide +kernel
theorem d_Wri_isDone_19 : decode prog_9_method_10_code 19 = .ok (.iconst 2, 1) := by decide +kernel
theorem d_Wri_isDone_20 : decode prog_9_method_10_code 20 = .ok (.iadd, 1) := by decide +kernel
theorem d_Wri_isDone_21 : decode prog_9_method_10_code 21 = .ok (.invokestatic 23, 3) := by decide +kernel
theorem d_Wri_isDone_24 : decode prog_9_method_10_code 24 = .ok (.bipush 48, 2) := by decide +kernel
theorem d_Wri_isDone_26 : decode prog_9_method_10_code 26 = .ok (.isub, 1) := by decide +kernel
theorem d_Wri_isDone_27 : decode prog_9_method_10_code 27 = .ok (.istore 4, 2) := by decide +kernel
theorem d_Wri_isDone_29 : decode prog_9_method_10_code 29 = .ok (.aload_n 0, 1) := by decide +kernel
theorem d_Wri_isDone_30 : decode prog_9_method_10_code 30 = .ok (.getfield 9, 3) := by decide +kernel
theorem d_Wri_isDone_33 : decode prog_9_method_10_code 33 = .ok (.iload_n 2, 1) := by decide +kernel
theorem d_Wri_isDone_34 : decode prog_9_method_10_code 34 = .ok (.invokestatic 23, 3) := by decide +kernel
theorem d_Wri_isDone_37 : decode prog_9_method_10_code 37 = .ok (.lookupswitch 82 #[(98, 57), (99, 70), (100, 43), (112, 65)], 43) := by decide +kernel
theorem d_Wri_isDone_80 : decode prog_9_method_10_code 80 = .ok (.aload_n 1, 1) := by decide +kernel
theorem d_Wri_isDone_81 : decode prog_9_method_10_code 81 = .ok (.bipush 10, 2) := by decide +kernel
theorem d_Wri_isDone_83 : decode prog_9_method_10_code 83 = .ok (.iload_n 3, 1) := by decide +kernel
theorem d_Wri_isDone_84 : decode prog_9_method_10_code 84 = .ok (.imul, 1) := by decide +kernel
theorem d_Wri_isDone_85 : decode prog_9_method_10_code 85 = .ok (.iload 4, 2) := by decide +kernel
theorem d_Wri_isDone_87 : decode prog_9_method_10_code 87 = .ok (.iadd, 1) := by decide +kernel
theorem d_Wri_isDone_88 : decode prog_9_method_10_code 88 = .ok (.i2l, 1) := by decide +kernel
theorem d_Wri_isDone_89 : decode prog_9_method_10_code 89 = .ok (.invokevirtual 39, 3) := by decide +kernel
theorem d_Wri_isDone_92 : decode prog_9_method_10_code 92 = .ok (.iconst 1, 1) := by decide +kernel
theorem d_Wri_isDone_93 : decode prog_9_method_10_code 93 = .ok (.ireturn, 1) := by decide +kernel
theorem d_Wri_isDone_94 : decode prog_9_method_10_code 94 = .ok (.aload_n 1, 1) := by decide +kernel
theorem d_Wri_isDone_95 : decode prog_9_method_10_code 95 = .ok (.iload_n 3, 1) := by decide +kernel
theorem d_Wri_isDone_96 : decode prog_9_method_10_code 96 = .ok (.iload 4, 2) := by decide +kernel
theorem d_Wri_isDone_98 : decode prog_9_method_10_code 98 = .ok (.invokestatic 45, 3) := by decide +kernel
theorem d_Wri_isDone_101 : decode prog_9_method_10_code 101 = .ok (.ireturn, 1) := by decide +kernel
theorem d_Wri_isDone_102 : decode prog_9_method_10_code 102 = .ok (.aload_n 1, 1) := by decide +kernel
theorem d_Wri_isDone_103 : decode prog_9_method_10_code 103 = .ok (.invokestatic 51, 3) := by decide +kernel
theorem d_Wri_isDone_106 : decode prog_9_method_10_code 106 = .ok (.ireturn, 1) := by decide +kernel
theorem d_Wri_isDone_107 : decode prog_9_method_10_code 107 = .ok (.aload_n 1, 1) := by decide +kernel
theorem d_Wri_isDone_108 : decode prog_9_method_10_code 108 = .ok (.bipush 10, 2) := by decide +kernel
theorem d_Wri_isDone_110 : decode prog_9_method_10_code 110 = .ok (.iload_n 3, 1) := by decide +kernel
theorem d_Wri_isDone_111 : decode prog_9_method_10_code 111 = .ok (.imul, 1) := by decide +kernel
theorem d_Wri_isDone_112 : decode prog_9_method_10_code 112 = .ok (.iload 4, 2) := by decide +kernel
theorem d_Wri_isDone_114 : decode prog_9_method_10_code 114 = .ok (.iadd, 1) := by decide +kernel
theorem d_Wri_isDone_115 : decode prog_9_method_10_code 115 = .ok (.invokestatic 55, 3) := by decide +kernel
theorem d_Wri_isDone_118 : decode prog_9_method_10_code 118 = .ok (.ireturn, 1) := by decide +kernel
theorem d_Wri_isDone_119 : decode prog_9_method_10_code 119 = .ok (.aload_n 1, 1) := by decide +kernel
theorem d_Wri_isDone_120 : decode prog_9_method_10_code 120 = .ok (.iconst 1, 1) := by decide +kernel
theorem d_Wri_isDone_121 : decode prog_9_method_10_code 121 = .ok (.invokestatic 59, 3) := by decide +kernel
theorem d_Wri_isDone_124 : decode prog_9_method_10_code 124 = .ok (.pop, 1) := by decide +kernel
theorem d_Wri_isDone_125 : decode prog_9_method_10_code 125 = .ok (.iconst 1, 1) := by decide +kernel
theorem d_Wri_isDone_126 : decode prog_9_method_10_code 126 = .ok (.ireturn, 1) := by decide +kernel
theorem w_451 : Cond.methodLink "DropSignals$Writing" 45 ⟨"DropSignals$Scripts", "tryBid", "(LDropSignals$Evening;II)Z"⟩ ∈ gWs := gWs_in (i := 451) (by decide +kernel) rfl
theorem w_475 : Cond.methodLink "DropSignals$Writing" 55 ⟨"DropSignals$Scripts", "tryCard", "(LDropSignals$Evening;I)Z"⟩ ∈ gWs := gWs_in (i := 475) (by decide +kernel) rfl
theorem w_433 : Cond.methodLink "DropSignals$Writing" 39 ⟨"DropSignals$Evening", "dealWith", "(J)V"⟩ ∈ gWs := gWs_in (i := 433) (by decide +kernel) rfl
theorem w_468 : Cond.methodLink "DropSignals$Writing" 51 ⟨"DropSignals$Scripts", "tryPass", "(LDropSignals$Evening;)Z"⟩ ∈ gWs := gWs_in (i := 468) (by decide +kernel) rfl
theorem w_569 : Cond.methodLink "DropSignals$Writing" 59 ⟨"DropSignals$Scripts", "tryAdvices", "(LDropSignals$Evening;I)Z"⟩ ∈ gWs := gWs_in (i := 569) (by decide +kernel) rfl
noncomputable def f_Wri_isDone (e0 : Nat) (M : gMem) (a1 : Int32) : Option (Int32 × gMem) :=
  (f_DS_at 18 7 120 M (a1 + 1)).bind fun q1 =>
  (f_DS_at 18 7 120 M (a1 + 2)).bind fun q2 =>
  (f_DS_at 18 7 120 M a1).bind fun q3 =>
  if q3 = 98 then
    (f_Scr_tryBid e0 M (q1 - 48) (q2 - 48)).bind fun q5 =>
    (gBl q5.1).bind fun _ =>
    some (q5.1, q5.2)
  else
  if q3 = 99 then
    (f_Scr_tryCard e0 M ((10 * (q1 - 48)) + (q2 - 48))).bind fun q8 =>
    (gBl q8.1).bind fun _ =>
    some (q8.1, q8.2)
  else
  if q3 = 100 then
    (f_Ev_dealWith e0 M (Int32.toInt64 ((10 * (q1 - 48)) + (q2 - 48)))).bind fun q11 =>
    some (1, q11)
  else
  if q3 = 112 then
    (f_Scr_tryPass e0 M).bind fun q13 =>
    (gBl q13.1).bind fun _ =>
    some (q13.1, q13.2)
  else
  (f_Scr_tryAdvices e0 M 1).bind fun q15 =>
  some (1, q15.2)
theorem t_Wri_isDone {l : Launch} {ε : gEnv} (e0 : Nat) (hX : gXw ε) (hE0 : gEv ε e0) (M : gMem) (a1 : Int32) (r : (Int32 × gMem)) (h : f_Wri_isDone e0 M a1 = some r) : gGo l ε k_Wri_isDone (gR 5 115) (gFn ε (some (.int r.1)) r.2) 0 [(0, .ref (ε.2.2.1 18 6)), (1, .ref (ε.2.2.1 e0 0)), (2, .int a1)] [] M := by
  unfold f_Wri_isDone at h
  refine g_aload_n d_Wri_isDone_0 rfl 0 rfl ?_
  refine g_getR d_Wri_isDone_1 fl_Wri_9 (gXw_h6 hX) rfl ?_
  refine g_iload_n d_Wri_isDone_4 rfl 2 rfl ?_
  refine g_iconst (v := 1) d_Wri_isDone_5 (by decide) ?_
  refine g_iadd d_Wri_isDone_6 ?_
  obtain ⟨q1, hq1, h⟩ := gOb h
  refine g_callN_i (As := [.ref (ε.2.2.1 18 7), .int (a1 + 1)]) (rest := []) (j := 401) (host := "DropSignals") (ct_DS_at 18 7 120 (gXw_h7 hX) M (a1 + 1) _ hq1) d_Wri_isDone_7 ca_DS_at (by decide +kernel) rfl rfl (Nat.le_of_ble_eq_true rfl) ⟨(Nat.le_of_ble_eq_true rfl), (Nat.le_of_ble_eq_true rfl)⟩ ?_
  refine g_bipush (v := 48) d_Wri_isDone_10 (by decide) ?_
  refine g_isub d_Wri_isDone_12 ?_
  refine g_istore_n (L' := [(3, .int (q1 - 48)), (0, .ref (ε.2.2.1 18 6)), (1, .ref (ε.2.2.1 e0 0)), (2, .int a1)]) d_Wri_isDone_13 rfl (by decide) rfl ?_
  refine g_aload_n d_Wri_isDone_14 rfl 1 rfl ?_
  refine g_getR d_Wri_isDone_15 fl_Wri_9 (gXw_h6 hX) rfl ?_
  refine g_iload_n d_Wri_isDone_18 rfl 3 rfl ?_
  refine g_iconst (v := 2) d_Wri_isDone_19 (by decide) ?_
  refine g_iadd d_Wri_isDone_20 ?_
  obtain ⟨q2, hq2, h⟩ := gOb h
  refine g_callN_i (As := [.ref (ε.2.2.1 18 7), .int (a1 + 2)]) (rest := []) (j := 401) (host := "DropSignals") (ct_DS_at 18 7 120 (gXw_h7 hX) M (a1 + 2) _ hq2) d_Wri_isDone_21 ca_DS_at (by decide +kernel) rfl rfl (Nat.le_of_ble_eq_true rfl) ⟨(Nat.le_of_ble_eq_true rfl), (Nat.le_of_ble_eq_true rfl)⟩ ?_
  refine g_bipush (v := 48) d_Wri_isDone_24 (by decide) ?_
  refine g_isub d_Wri_isDone_26 ?_
  refine g_istore (L' := [(4, .int (q2 - 48)), (3, .int (q1 - 48)), (0, .ref (ε.2.2.1 18 6)), (1, .ref (ε.2.2.1 e0 0)), (2, .int a1)]) d_Wri_isDone_27 (by decide) rfl ?_
  refine g_aload_n d_Wri_isDone_29 rfl 2 rfl ?_
  refine g_getR d_Wri_isDone_30 fl_Wri_9 (gXw_h6 hX) rfl ?_
  refine g_iload_n d_Wri_isDone_33 rfl 4 rfl ?_
  obtain ⟨q3, hq3, h⟩ := gOb h
  refine g_callN_i (As := [.ref (ε.2.2.1 18 7), .int a1]) (rest := []) (j := 401) (host := "DropSignals") (ct_DS_at 18 7 120 (gXw_h7 hX) M a1 _ hq3) d_Wri_isDone_34 ca_DS_at (by decide +kernel) rfl rfl (Nat.le_of_ble_eq_true rfl) ⟨(Nat.le_of_ble_eq_true rfl), (Nat.le_of_ble_eq_true rfl)⟩ ?_
  by_cases c4 : q3 = 98
  · rw [if_pos c4] at h
    refine g_lookup (off := 57) (tgt := 94) d_Wri_isDone_37 rfl (by rw [c4]; rfl) (by decide) ?_
    refine g_aload_n d_Wri_isDone_94 rfl 3 rfl ?_
    refine g_iload_n d_Wri_isDone_95 rfl 1 rfl ?_
    refine g_iload d_Wri_isDone_96 0 rfl ?_
    obtain ⟨q5, hq5, h⟩ := gOb h
    refine g_callS_i (As := [.ref (ε.2.2.1 e0 0), .int (q1 - 48), .int (q2 - 48)]) (rest := []) (ct_Scr_tryBid e0 hE0 M (q1 - 48) (q2 - 48) _ hq5) d_Wri_isDone_98 ca_Scr_tryBid w_451 rfl rfl (Nat.le_of_ble_eq_true rfl) ⟨(Nat.le_of_ble_eq_true rfl), (Nat.le_of_ble_eq_true rfl)⟩ ?_
    obtain ⟨z6, hz6, h⟩ := gOb h
    obtain rfl := Option.some.inj h
    exact g_zretO d_Wri_isDone_101 rfl hz6
  rw [if_neg c4] at h
  by_cases c7 : q3 = 99
  · rw [if_pos c7] at h
    refine g_lookup (off := 70) (tgt := 107) d_Wri_isDone_37 rfl (by rw [c7]; rfl) (by decide) ?_
    refine g_aload_n d_Wri_isDone_107 rfl 3 rfl ?_
    refine g_bipush (v := 10) d_Wri_isDone_108 (by decide) ?_
    refine g_iload_n d_Wri_isDone_110 rfl 1 rfl ?_
    refine g_imul d_Wri_isDone_111 ?_
    refine g_iload d_Wri_isDone_112 0 rfl ?_
    refine g_iadd d_Wri_isDone_114 ?_
    obtain ⟨q8, hq8, h⟩ := gOb h
    refine g_callS_i (As := [.ref (ε.2.2.1 e0 0), .int ((10 * (q1 - 48)) + (q2 - 48))]) (rest := []) (ct_Scr_tryCard e0 hE0 M ((10 * (q1 - 48)) + (q2 - 48)) _ hq8) d_Wri_isDone_115 ca_Scr_tryCard w_475 rfl rfl (Nat.le_of_ble_eq_true rfl) ⟨(Nat.le_of_ble_eq_true rfl), (Nat.le_of_ble_eq_true rfl)⟩ ?_
    obtain ⟨z9, hz9, h⟩ := gOb h
    obtain rfl := Option.some.inj h
    exact g_zretO d_Wri_isDone_118 rfl hz9
  rw [if_neg c7] at h
  by_cases c10 : q3 = 100
  · rw [if_pos c10] at h
    refine g_lookup (off := 43) (tgt := 80) d_Wri_isDone_37 rfl (by rw [c10]; rfl) (by decide) ?_
    refine g_aload_n d_Wri_isDone_80 rfl 3 rfl ?_
    refine g_bipush (v := 10) d_Wri_isDone_81 (by decide) ?_
    refine g_iload_n d_Wri_isDone_83 rfl 1 rfl ?_
    refine g_imul d_Wri_isDone_84 ?_
    refine g_iload d_Wri_isDone_85 0 rfl ?_
    refine g_iadd d_Wri_isDone_87 ?_
    refine g_i2l d_Wri_isDone_88 ?_
    obtain ⟨q11, hq11, h⟩ := gOb h
    refine g_callV_v (As := [.long (Int32.toInt64 ((10 * (q1 - 48)) + (q2 - 48)))]) (rest := []) (ct_Ev_dealWith e0 hE0 M (Int32.toInt64 ((10 * (q1 - 48)) + (q2 - 48))) _ hq11) d_Wri_isDone_89 ca_Ev_dealWith w_433 (gEv_h0 hE0) rfl rfl rfl (Nat.le_of_ble_eq_true rfl) ⟨(Nat.le_of_ble_eq_true rfl), (Nat.le_of_ble_eq_true rfl)⟩ ?_
    refine g_iconst (v := 1) d_Wri_isDone_92 (by decide) ?_
    obtain rfl := Option.some.inj h
    exact g_zret d_Wri_isDone_93 rfl gZ1
  rw [if_neg c10] at h
  by_cases c12 : q3 = 112
  · rw [if_pos c12] at h
    refine g_lookup (off := 65) (tgt := 102) d_Wri_isDone_37 rfl (by rw [c12]; rfl) (by decide) ?_
    refine g_aload_n d_Wri_isDone_102 rfl 3 rfl ?_
    obtain ⟨q13, hq13, h⟩ := gOb h
    refine g_callS_i (As := [.ref (ε.2.2.1 e0 0)]) (rest := []) (ct_Scr_tryPass e0 hE0 M _ hq13) d_Wri_isDone_103 ca_Scr_tryPass w_468 rfl rfl (Nat.le_of_ble_eq_true rfl) ⟨(Nat.le_of_ble_eq_true rfl), (Nat.le_of_ble_eq_true rfl)⟩ ?_
    obtain ⟨z14, hz14, h⟩ := gOb h
    obtain rfl := Option.some.inj h
    exact g_zretO d_Wri_isDone_106 rfl hz14
  rw [if_neg c12] at h
  refine g_lookup (off := 82) (tgt := 119) d_Wri_isDone_37 rfl (by show Op.lookupswitch.offset [(98, 57), (99, 70), (100, 43), (112, 65)] 82 (Int32.toInt q3) = 82; rw [lv_osw (a := 98) c4 rfl, lv_osw (a := 99) c7 rfl, lv_osw (a := 100) c10 rfl, lv_osw (a := 112) c12 rfl]; rfl) (by decide) ?_
  refine g_aload_n d_Wri_isDone_119 rfl 3 rfl ?_
  refine g_iconst (v := 1) d_Wri_isDone_120 (by decide) ?_
  obtain ⟨q15, hq15, h⟩ := gOb h
  refine g_callS_i (As := [.ref (ε.2.2.1 e0 0), .int 1]) (rest := []) (ct_Scr_tryAdvices e0 hE0 M 1 _ hq15) d_Wri_isDone_121 ca_Scr_tryAdvices w_569 rfl rfl (Nat.le_of_ble_eq_true rfl) ⟨(Nat.le_of_ble_eq_true rfl), (Nat.le_of_ble_eq_true rfl)⟩ ?_
  refine g_pop d_Wri_isDone_124 rfl ?_
  refine g_iconst (v := 1) d_Wri_isDone_125 (by decide) ?_
  obtain rfl := Option.some.inj h
  exact g_zret d_Wri_isDone_126 rfl gZ1
theorem ct_Wri_isDone {l : Launch} {ε : gEnv} (hX : gXw ε) (e0 : Nat) (hE0 : gEv ε e0) (M : gMem) (a1 : Int32) (r : (Int32 × gMem)) (h : f_Wri_isDone e0 M a1 = some r) : gCt l ε k_Wri_isDone 5 115 [.ref (ε.2.2.1 18 6), .ref (ε.2.2.1 e0 0), .int a1] M (some (.int r.1)) r.2 :=
  gCt_of (by decide) (Nat.le_of_ble_eq_true rfl) rfl (t_Wri_isDone e0 hX hE0 M a1 r h)
abbrev k_DS_deal : gMD := (⟨"DropSignals", "deal", "(J)I"⟩, prog_1_method_10_code, 3, (some .int))
theorem w_952 : Cond.instanceMethod ⟨"DropSignals", "deal", "(J)I"⟩ ∈ gWs := gWs_in (i := 952) (by decide +kernel) rfl
theorem w_953 : Cond.selects "DropSignals" ⟨"DropSignals", "deal", "(J)I"⟩ ⟨"DropSignals", "deal", "(J)I"⟩ ∈ gWs := gWs_in (i := 953) (by decide +kernel) rfl
set_option maxRecDepth 100000 in
theorem ca_DS_deal : gCaV k_DS_deal 1 := ⟨⟨gWs_in (i := 954) rfl rfl, w_20, by decide, by decide, by decide +kernel⟩, w_952, w_953⟩
theorem d_DS_deal_0 : decode prog_1_method_10_code 0 = .ok (.aload_n 0, 1) := by decide +kernel
theorem d_DS_deal_1 : decode prog_1_method_10_code 1 = .ok (.getfield 22, 3) := by decide +kernel
theorem d_DS_deal_4 : decode prog_1_method_10_code 4 = .ok (.aload_n 0, 1) := by decide +kernel
theorem d_DS_deal_5 : decode prog_1_method_10_code 5 = .ok (.getfield 10, 3) := by decide +kernel
theorem d_DS_deal_8 : decode prog_1_method_10_code 8 = .ok (.invokevirtual 145, 3) := by decide +kernel
theorem d_DS_deal_11 : decode prog_1_method_10_code 11 = .ok (.aload_n 0, 1) := by decide +kernel
theorem d_DS_deal_12 : decode prog_1_method_10_code 12 = .ok (.getfield 10, 3) := by decide +kernel
theorem d_DS_deal_15 : decode prog_1_method_10_code 15 = .ok (.lload_n 1, 1) := by decide +kernel
theorem d_DS_deal_16 : decode prog_1_method_10_code 16 = .ok (.invokevirtual 149, 3) := by decide +kernel
theorem d_DS_deal_19 : decode prog_1_method_10_code 19 = .ok (.aload_n 0, 1) := by decide +kernel
theorem d_DS_deal_20 : decode prog_1_method_10_code 20 = .ok (.getfield 10, 3) := by decide +kernel
theorem d_DS_deal_23 : decode prog_1_method_10_code 23 = .ok (.getfield 153, 3) := by decide +kernel
theorem d_DS_deal_26 : decode prog_1_method_10_code 26 = .ok (.ireturn, 1) := by decide +kernel
theorem uw_7 : ∀ w ∈ u_ws gN7 gF7 6, w ∈ gWs := by
  intro w hw
  have h := List.all_eq_true.mp (show (u_ws gN7 gF7 6).all (fun w => decide (w ∈ lw_tbl) && goodWord w) = true by decide +kernel) w hw
  simp only [Bool.and_eq_true, decide_eq_true_eq] at h
  exact List.mem_filter.mpr h
theorem w_256 : Cond.fieldLink "DropSignals" 22 "DropSignals" "memory" "LDropSignals$Memory;" ∈ gWs := gWs_in (i := 256) (by decide +kernel) rfl
theorem fl_DS_22 : gFl "DropSignals" 22 7 2 := ⟨gN7, gF7, 6, rfl, uw_7, by decide, w_256⟩
theorem w_254 : Cond.fieldLink "DropSignals" 10 "DropSignals" "now" "LDropSignals$Evening;" ∈ gWs := gWs_in (i := 254) (by decide +kernel) rfl
theorem fl_DS_10 : gFl "DropSignals" 10 7 0 := ⟨gN7, gF7, 6, rfl, uw_7, by decide, w_254⟩
theorem w_692 : Cond.methodLink "DropSignals" 145 ⟨"DropSignals$Memory", "remember", "(LDropSignals$Evening;)V"⟩ ∈ gWs := gWs_in (i := 692) (by decide +kernel) rfl
theorem w_955 : Cond.methodLink "DropSignals" 149 ⟨"DropSignals$Evening", "dealWith", "(J)V"⟩ ∈ gWs := gWs_in (i := 955) (by decide +kernel) rfl
theorem fl_DS_153 : gFlN "DropSignals" 153 2 4 := ⟨gN2, gF2, 14, 127, "DropSignals", rfl, uw_2, by decide, by decide +kernel⟩
noncomputable def f_DS_deal (M : gMem) (a0 : Int64) : Option (Int32 × gMem) :=
  (f_Mem_remember 0 M).bind fun q1 =>
  (f_Ev_dealWith 0 q1 a0).bind fun q2 =>
  some ((q2 0 0 4), q2)
theorem t_DS_deal {l : Launch} {ε : gEnv} (hX : gXw ε) (M : gMem) (a0 : Int64) (r : (Int32 × gMem)) (h : f_DS_deal M a0 = some r) : gGo l ε k_DS_deal (gR 6 136) (gFn ε (some (.int r.1)) r.2) 0 [(0, .ref (ε.2.2.1 18 0)), (1, .long a0)] [] M := by
  unfold f_DS_deal at h
  refine g_aload_n d_DS_deal_0 rfl 0 rfl ?_
  refine g_getR d_DS_deal_1 fl_DS_22 (gXw_h0 hX) rfl ?_
  refine g_aload_n d_DS_deal_4 rfl 0 rfl ?_
  refine g_getR d_DS_deal_5 fl_DS_10 (gXw_h0 hX) rfl ?_
  obtain ⟨q1, hq1, h⟩ := gOb h
  refine g_callV_v (As := [.ref (ε.2.2.1 0 0)]) (rest := []) (ct_Mem_remember hX 0 (hX.1 0 (by decide)) M _ hq1) d_DS_deal_8 ca_Mem_remember w_692 (gXw_h1 hX) rfl rfl rfl (Nat.le_of_ble_eq_true rfl) ⟨(Nat.le_of_ble_eq_true rfl), (Nat.le_of_ble_eq_true rfl)⟩ ?_
  refine g_aload_n d_DS_deal_11 rfl 0 rfl ?_
  refine g_getR d_DS_deal_12 fl_DS_10 (gXw_h0 hX) rfl ?_
  refine g_lload_n d_DS_deal_15 rfl 1 rfl ?_
  obtain ⟨q2, hq2, h⟩ := gOb h
  refine g_callV_v (As := [.long a0]) (rest := []) (ct_Ev_dealWith 0 (hX.1 0 (by decide)) q1 a0 _ hq2) d_DS_deal_16 ca_Ev_dealWith w_955 (gEv_h0 (hX.1 0 (by decide))) rfl rfl rfl (Nat.le_of_ble_eq_true rfl) ⟨(Nat.le_of_ble_eq_true rfl), (Nat.le_of_ble_eq_true rfl)⟩ ?_
  refine g_aload_n d_DS_deal_19 rfl 0 rfl ?_
  refine g_getR d_DS_deal_20 fl_DS_10 (gXw_h0 hX) rfl ?_
  refine g_getIN d_DS_deal_23 fl_DS_153 (gEv_h0 (hX.1 0 (by decide))) rfl ?_
  obtain rfl := Option.some.inj h
  exact g_iret d_DS_deal_26 rfl
theorem ct_DS_deal {l : Launch} {ε : gEnv} (hX : gXw ε) (M : gMem) (a0 : Int64) (r : (Int32 × gMem)) (h : f_DS_deal M a0 = some r) : gCt l ε k_DS_deal 6 136 [.ref (ε.2.2.1 18 0), .long a0] M (some (.int r.1)) r.2 :=
  gCt_of (by decide) (Nat.le_of_ble_eq_true rfl) rfl (t_DS_deal hX M a0 r h)
abbrev k_DS_advice : gMD := (⟨"DropSignals", "advice", "()I"⟩, prog_1_method_16_code, 1, (some .int))
theorem w_940 : Cond.instanceMethod ⟨"DropSignals", "advice", "()I"⟩ ∈ gWs := gWs_in (i := 940) (by decide +kernel) rfl
theorem w_941 : Cond.selects "DropSignals" ⟨"DropSignals", "advice", "()I"⟩ ⟨"DropSignals", "advice", "()I"⟩ ∈ gWs := gWs_in (i := 941) (by decide +kernel) rfl
set_option maxRecDepth 100000 in
theorem ca_DS_advice : gCaV k_DS_advice 0 := ⟨⟨gWs_in (i := 942) rfl rfl, w_20, by decide, by decide, by decide +kernel⟩, w_940, w_941⟩
theorem d_DS_advice_0 : decode prog_1_method_16_code 0 = .ok (.aload_n 0, 1) := by decide +kernel
theorem d_DS_advice_1 : decode prog_1_method_16_code 1 = .ok (.getfield 10, 3) := by decide +kernel
theorem d_DS_advice_4 : decode prog_1_method_16_code 4 = .ok (.invokevirtual 205, 3) := by decide +kernel
theorem d_DS_advice_7 : decode prog_1_method_16_code 7 = .ok (.ireturn, 1) := by decide +kernel
theorem w_943 : Cond.methodLink "DropSignals" 205 ⟨"DropSignals$Evening", "advised", "()I"⟩ ∈ gWs := gWs_in (i := 943) (by decide +kernel) rfl
noncomputable def f_DS_advice (M : gMem) : Option Int32 :=
  (f_Ev_advised 0 M).bind fun q1 =>
  some q1
theorem t_DS_advice {l : Launch} {ε : gEnv} (hX : gXw ε) (M : gMem) (r : Int32) (h : f_DS_advice M = some r) : gGo l ε k_DS_advice (gR 4 91) (gFn ε (some (.int r)) M) 0 [(0, .ref (ε.2.2.1 18 0))] [] M := by
  unfold f_DS_advice at h
  refine g_aload_n d_DS_advice_0 rfl 0 rfl ?_
  refine g_getR d_DS_advice_1 fl_DS_10 (gXw_h0 hX) rfl ?_
  obtain ⟨q1, hq1, h⟩ := gOb h
  refine g_callV_i (As := []) (rest := []) (ct_Ev_advised 0 (hX.1 0 (by decide)) M _ hq1) d_DS_advice_4 ca_Ev_advised w_943 (gEv_h0 (hX.1 0 (by decide))) rfl rfl rfl (Nat.le_of_ble_eq_true rfl) ⟨(Nat.le_of_ble_eq_true rfl), (Nat.le_of_ble_eq_true rfl)⟩ ?_
  obtain rfl := Option.some.inj h
  exact g_iret d_DS_advice_7 rfl
theorem ct_DS_advice {l : Launch} {ε : gEnv} (hX : gXw ε) (M : gMem) (r : Int32) (h : f_DS_advice M = some r) : gCt l ε k_DS_advice 4 91 [.ref (ε.2.2.1 18 0)] M (some (.int r)) M :=
  gCt_of (by decide) (Nat.le_of_ble_eq_true rfl) rfl (t_DS_advice hX M r h)
