abbrev k_Ev_clearDeal : gMD := (⟨"DropSignals$Evening", "clearDeal", "()V"⟩, prog_4_method_3_code, 1, none)
theorem w_21 : Cond.initialized "DropSignals$Evening" ∈ gWs := gWs_in (i := 21) (by decide +kernel) rfl
theorem w_112 : Cond.instanceMethod ⟨"DropSignals$Evening", "clearDeal", "()V"⟩ ∈ gWs := gWs_in (i := 112) (by decide +kernel) rfl
theorem w_0 : Cond.selects "DropSignals$Evening" ⟨"DropSignals$Evening", "clearDeal", "()V"⟩ ⟨"DropSignals$Evening", "clearDeal", "()V"⟩ ∈ gWs := gWs_in (i := 0) (by decide +kernel) rfl
set_option maxRecDepth 100000 in
theorem ca_Ev_clearDeal : gCaV k_Ev_clearDeal 0 := ⟨⟨gWs_in (i := 113) rfl rfl, w_21, by decide, by decide, by decide +kernel⟩, w_112, w_0⟩
theorem d_Ev_clearDeal_0 : decode prog_4_method_3_code 0 = .ok (.aload_n 0, 1) := by decide +kernel
theorem d_Ev_clearDeal_1 : decode prog_4_method_3_code 1 = .ok (.getfield 21, 3) := by decide +kernel
theorem d_Ev_clearDeal_4 : decode prog_4_method_3_code 4 = .ok (.invokevirtual 64, 3) := by decide +kernel
theorem d_Ev_clearDeal_7 : decode prog_4_method_3_code 7 = .ok (.aload_n 0, 1) := by decide +kernel
theorem d_Ev_clearDeal_8 : decode prog_4_method_3_code 8 = .ok (.getfield 25, 3) := by decide +kernel
theorem d_Ev_clearDeal_11 : decode prog_4_method_3_code 11 = .ok (.iconst 0, 1) := by decide +kernel
theorem d_Ev_clearDeal_12 : decode prog_4_method_3_code 12 = .ok (.invokestatic 39, 3) := by decide +kernel
theorem d_Ev_clearDeal_15 : decode prog_4_method_3_code 15 = .ok (.aload_n 0, 1) := by decide +kernel
theorem d_Ev_clearDeal_16 : decode prog_4_method_3_code 16 = .ok (.iconst 0, 1) := by decide +kernel
theorem d_Ev_clearDeal_17 : decode prog_4_method_3_code 17 = .ok (.putfield 65, 3) := by decide +kernel
theorem d_Ev_clearDeal_20 : decode prog_4_method_3_code 20 = .ok (.aload_n 0, 1) := by decide +kernel
theorem d_Ev_clearDeal_21 : decode prog_4_method_3_code 21 = .ok (.iconst 0, 1) := by decide +kernel
theorem d_Ev_clearDeal_22 : decode prog_4_method_3_code 22 = .ok (.putfield 68, 3) := by decide +kernel
theorem d_Ev_clearDeal_25 : decode prog_4_method_3_code 25 = .ok (.aload_n 0, 1) := by decide +kernel
theorem d_Ev_clearDeal_26 : decode prog_4_method_3_code 26 = .ok (.iconst (-1), 1) := by decide +kernel
theorem d_Ev_clearDeal_27 : decode prog_4_method_3_code 27 = .ok (.putfield 71, 3) := by decide +kernel
theorem d_Ev_clearDeal_30 : decode prog_4_method_3_code 30 = .ok (.aload_n 0, 1) := by decide +kernel
theorem d_Ev_clearDeal_31 : decode prog_4_method_3_code 31 = .ok (.iconst 0, 1) := by decide +kernel
theorem d_Ev_clearDeal_32 : decode prog_4_method_3_code 32 = .ok (.putfield 74, 3) := by decide +kernel
theorem d_Ev_clearDeal_35 : decode prog_4_method_3_code 35 = .ok (.return_, 1) := by decide +kernel
theorem uw_2 : ∀ w ∈ u_ws gN2 gF2 14, w ∈ gWs := by
  intro w hw
  have h := List.all_eq_true.mp (show (u_ws gN2 gF2 14).all (fun w => decide (w ∈ lw_tbl) && goodWord w) = true by decide +kernel) w hw
  simp only [Bool.and_eq_true, decide_eq_true_eq] at h
  exact List.mem_filter.mpr h
theorem w_120 : Cond.fieldLink "DropSignals$Evening" 21 "DropSignals$Evening" "drops" "LDropSignals$Drops;" ∈ gWs := gWs_in (i := 120) (by decide +kernel) rfl
theorem fl_Ev_21 : gFl "DropSignals$Evening" 21 2 1 := ⟨gN2, gF2, 14, rfl, uw_2, by decide, w_120⟩
theorem w_114 : Cond.methodLink "DropSignals$Evening" 64 ⟨"DropSignals$Drops", "clear", "()V"⟩ ∈ gWs := gWs_in (i := 114) (by decide +kernel) rfl
theorem w_123 : Cond.fieldLink "DropSignals$Evening" 25 "DropSignals$Evening" "tricks" "[I" ∈ gWs := gWs_in (i := 123) (by decide +kernel) rfl
theorem fl_Ev_25 : gFl "DropSignals$Evening" 25 2 2 := ⟨gN2, gF2, 14, rfl, uw_2, by decide, w_123⟩
theorem w_115 : Cond.methodLink "DropSignals$Evening" 39 ⟨"java/util/Arrays", "fill", "([II)V"⟩ ∈ gWs := gWs_in (i := 115) (by decide +kernel) rfl
theorem w_135 : Cond.fieldLink "DropSignals$Evening" 65 "DropSignals$Evening" "level" "I" ∈ gWs := gWs_in (i := 135) (by decide +kernel) rfl
theorem fl_Ev_65 : gFl "DropSignals$Evening" 65 2 7 := ⟨gN2, gF2, 14, rfl, uw_2, by decide, w_135⟩
theorem fp_Ev_65 : gFp "DropSignals$Evening" 65 2 7 .int := ⟨gN2, gF2, 14, rfl, uw_2, by decide, w_135, ⟨gX2, gY2⟩, gD2, rfl, by decide +kernel⟩
theorem w_137 : Cond.fieldLink "DropSignals$Evening" 68 "DropSignals$Evening" "suit" "I" ∈ gWs := gWs_in (i := 137) (by decide +kernel) rfl
theorem fl_Ev_68 : gFl "DropSignals$Evening" 68 2 8 := ⟨gN2, gF2, 14, rfl, uw_2, by decide, w_137⟩
theorem fp_Ev_68 : gFp "DropSignals$Evening" 68 2 8 .int := ⟨gN2, gF2, 14, rfl, uw_2, by decide, w_137, ⟨gX2, gY2⟩, gD2, rfl, by decide +kernel⟩
theorem w_138 : Cond.fieldLink "DropSignals$Evening" 71 "DropSignals$Evening" "bidder" "I" ∈ gWs := gWs_in (i := 138) (by decide +kernel) rfl
theorem fl_Ev_71 : gFl "DropSignals$Evening" 71 2 9 := ⟨gN2, gF2, 14, rfl, uw_2, by decide, w_138⟩
theorem fp_Ev_71 : gFp "DropSignals$Evening" 71 2 9 .int := ⟨gN2, gF2, 14, rfl, uw_2, by decide, w_138, ⟨gX2, gY2⟩, gD2, rfl, by decide +kernel⟩
theorem w_139 : Cond.fieldLink "DropSignals$Evening" 74 "DropSignals$Evening" "passes" "I" ∈ gWs := gWs_in (i := 139) (by decide +kernel) rfl
theorem fl_Ev_74 : gFl "DropSignals$Evening" 74 2 10 := ⟨gN2, gF2, 14, rfl, uw_2, by decide, w_139⟩
theorem fp_Ev_74 : gFp "DropSignals$Evening" 74 2 10 .int := ⟨gN2, gF2, 14, rfl, uw_2, by decide, w_139, ⟨gX2, gY2⟩, gD2, rfl, by decide +kernel⟩
noncomputable def f_Ev_clearDeal (e : Nat) (M : gMem) : Option gMem :=
  (f_Drops_clear e M).bind fun q1 =>
  (f_JA_fill e 3 2 q1 0).bind fun q2 =>
  (gSO q2 e 0 7 0).bind fun M3 =>
  (gSO M3 e 0 8 0).bind fun M4 =>
  (gSO M4 e 0 9 (-1)).bind fun M5 =>
  (gSO M5 e 0 10 0).bind fun M6 =>
  some M6
theorem t_Ev_clearDeal {l : Launch} {ε : gEnv} (e : Nat) (hE : gEv ε e) (M : gMem) (r : gMem) (h : f_Ev_clearDeal e M = some r) : gGo l ε k_Ev_clearDeal (gR 2 43) (gFn ε none r) 0 [(0, .ref (ε.2.2.1 e 0))] [] M := by
  unfold f_Ev_clearDeal at h
  refine g_aload_n d_Ev_clearDeal_0 rfl 0 rfl ?_
  refine g_getR d_Ev_clearDeal_1 fl_Ev_21 (gEv_h0 hE) rfl ?_
  obtain ⟨q1, hq1, h⟩ := gOb h
  refine g_callV_v (As := []) (rest := []) (ct_Drops_clear e (gEv_dr hE) M _ hq1) d_Ev_clearDeal_4 ca_Drops_clear w_114 (gEv_h2 hE) rfl rfl rfl (Nat.le_of_ble_eq_true rfl) ⟨(Nat.le_of_ble_eq_true rfl), (Nat.le_of_ble_eq_true rfl)⟩ ?_
  refine g_aload_n d_Ev_clearDeal_7 rfl 0 rfl ?_
  refine g_getR d_Ev_clearDeal_8 fl_Ev_25 (gEv_h0 hE) rfl ?_
  refine g_iconst (v := 0) d_Ev_clearDeal_11 (by decide) ?_
  obtain ⟨q2, hq2, h⟩ := gOb h
  refine g_callS_v (As := [.ref (ε.2.2.1 e 3), .int 0]) (rest := []) (ct_JA_fill e 3 2 (gEv_h3 hE) q1 0 _ hq2) d_Ev_clearDeal_12 ca_JA_fill w_115 rfl rfl (Nat.le_of_ble_eq_true rfl) ⟨(Nat.le_of_ble_eq_true rfl), (Nat.le_of_ble_eq_true rfl)⟩ ?_
  refine g_aload_n d_Ev_clearDeal_15 rfl 0 rfl ?_
  refine g_iconst (v := 0) d_Ev_clearDeal_16 (by decide) ?_
  obtain ⟨M3, hM3, h⟩ := gOb h
  refine g_putO d_Ev_clearDeal_17 fp_Ev_65 (gEv_h0 hE) rfl hM3 ?_
  refine g_aload_n d_Ev_clearDeal_20 rfl 0 rfl ?_
  refine g_iconst (v := 0) d_Ev_clearDeal_21 (by decide) ?_
  obtain ⟨M4, hM4, h⟩ := gOb h
  refine g_putO d_Ev_clearDeal_22 fp_Ev_68 (gEv_h0 hE) rfl hM4 ?_
  refine g_aload_n d_Ev_clearDeal_25 rfl 0 rfl ?_
  refine g_iconst (v := -1) d_Ev_clearDeal_26 (by decide) ?_
  obtain ⟨M5, hM5, h⟩ := gOb h
  refine g_putO d_Ev_clearDeal_27 fp_Ev_71 (gEv_h0 hE) rfl hM5 ?_
  refine g_aload_n d_Ev_clearDeal_30 rfl 0 rfl ?_
  refine g_iconst (v := 0) d_Ev_clearDeal_31 (by decide) ?_
  obtain ⟨M6, hM6, h⟩ := gOb h
  refine g_putO d_Ev_clearDeal_32 fp_Ev_74 (gEv_h0 hE) rfl hM6 ?_
  obtain rfl := Option.some.inj h
  exact g_vret d_Ev_clearDeal_35 rfl
theorem ct_Ev_clearDeal {l : Launch} {ε : gEnv} (e : Nat) (hE : gEv ε e) (M : gMem) (r : gMem) (h : f_Ev_clearDeal e M = some r) : gCt l ε k_Ev_clearDeal 2 43 [.ref (ε.2.2.1 e 0)] M none r :=
  gCt_of (by decide) (Nat.le_of_ble_eq_true rfl) rfl (t_Ev_clearDeal e hE M r h)
abbrev k_Ev_clear : gMD := (⟨"DropSignals$Evening", "clear", "()V"⟩, prog_4_method_2_code, 1, none)
theorem w_106 : Cond.instanceMethod ⟨"DropSignals$Evening", "clear", "()V"⟩ ∈ gWs := gWs_in (i := 106) (by decide +kernel) rfl
theorem w_107 : Cond.selects "DropSignals$Evening" ⟨"DropSignals$Evening", "clear", "()V"⟩ ⟨"DropSignals$Evening", "clear", "()V"⟩ ∈ gWs := gWs_in (i := 107) (by decide +kernel) rfl
set_option maxRecDepth 100000 in
theorem ca_Ev_clear : gCaV k_Ev_clear 0 := ⟨⟨gWs_in (i := 108) rfl rfl, w_21, by decide, by decide, by decide +kernel⟩, w_106, w_107⟩
theorem d_Ev_clear_0 : decode prog_4_method_2_code 0 = .ok (.aload_n 0, 1) := by decide +kernel
theorem d_Ev_clear_1 : decode prog_4_method_2_code 1 = .ok (.getfield 12, 3) := by decide +kernel
theorem d_Ev_clear_4 : decode prog_4_method_2_code 4 = .ok (.invokevirtual 35, 3) := by decide +kernel
theorem d_Ev_clear_7 : decode prog_4_method_2_code 7 = .ok (.aload_n 0, 1) := by decide +kernel
theorem d_Ev_clear_8 : decode prog_4_method_2_code 8 = .ok (.invokevirtual 36, 3) := by decide +kernel
theorem d_Ev_clear_11 : decode prog_4_method_2_code 11 = .ok (.aload_n 0, 1) := by decide +kernel
theorem d_Ev_clear_12 : decode prog_4_method_2_code 12 = .ok (.getfield 29, 3) := by decide +kernel
theorem d_Ev_clear_15 : decode prog_4_method_2_code 15 = .ok (.iconst 0, 1) := by decide +kernel
theorem d_Ev_clear_16 : decode prog_4_method_2_code 16 = .ok (.invokestatic 39, 3) := by decide +kernel
theorem d_Ev_clear_19 : decode prog_4_method_2_code 19 = .ok (.aload_n 0, 1) := by decide +kernel
theorem d_Ev_clear_20 : decode prog_4_method_2_code 20 = .ok (.iconst 0, 1) := by decide +kernel
theorem d_Ev_clear_21 : decode prog_4_method_2_code 21 = .ok (.putfield 45, 3) := by decide +kernel
theorem d_Ev_clear_24 : decode prog_4_method_2_code 24 = .ok (.aload_n 0, 1) := by decide +kernel
theorem d_Ev_clear_25 : decode prog_4_method_2_code 25 = .ok (.iconst 0, 1) := by decide +kernel
theorem d_Ev_clear_26 : decode prog_4_method_2_code 26 = .ok (.putfield 49, 3) := by decide +kernel
theorem d_Ev_clear_29 : decode prog_4_method_2_code 29 = .ok (.aload_n 0, 1) := by decide +kernel
theorem d_Ev_clear_30 : decode prog_4_method_2_code 30 = .ok (.iconst (-1), 1) := by decide +kernel
theorem d_Ev_clear_31 : decode prog_4_method_2_code 31 = .ok (.putfield 52, 3) := by decide +kernel
theorem d_Ev_clear_34 : decode prog_4_method_2_code 34 = .ok (.aload_n 0, 1) := by decide +kernel
theorem d_Ev_clear_35 : decode prog_4_method_2_code 35 = .ok (.iconst 0, 1) := by decide +kernel
theorem d_Ev_clear_36 : decode prog_4_method_2_code 36 = .ok (.putfield 55, 3) := by decide +kernel
theorem d_Ev_clear_39 : decode prog_4_method_2_code 39 = .ok (.aload_n 0, 1) := by decide +kernel
theorem d_Ev_clear_40 : decode prog_4_method_2_code 40 = .ok (.iconst 0, 1) := by decide +kernel
theorem d_Ev_clear_41 : decode prog_4_method_2_code 41 = .ok (.putfield 58, 3) := by decide +kernel
theorem d_Ev_clear_44 : decode prog_4_method_2_code 44 = .ok (.aload_n 0, 1) := by decide +kernel
theorem d_Ev_clear_45 : decode prog_4_method_2_code 45 = .ok (.iconst 0, 1) := by decide +kernel
theorem d_Ev_clear_46 : decode prog_4_method_2_code 46 = .ok (.putfield 61, 3) := by decide +kernel
theorem d_Ev_clear_49 : decode prog_4_method_2_code 49 = .ok (.return_, 1) := by decide +kernel
theorem w_116 : Cond.fieldLink "DropSignals$Evening" 12 "DropSignals$Evening" "cards" "LDropSignals$Cards;" ∈ gWs := gWs_in (i := 116) (by decide +kernel) rfl
theorem fl_Ev_12 : gFl "DropSignals$Evening" 12 2 0 := ⟨gN2, gF2, 14, rfl, uw_2, by decide, w_116⟩
theorem w_109 : Cond.methodLink "DropSignals$Evening" 35 ⟨"DropSignals$Cards", "clear", "()V"⟩ ∈ gWs := gWs_in (i := 109) (by decide +kernel) rfl
theorem w_110 : Cond.methodLink "DropSignals$Evening" 36 ⟨"DropSignals$Evening", "clearDeal", "()V"⟩ ∈ gWs := gWs_in (i := 110) (by decide +kernel) rfl
theorem w_125 : Cond.fieldLink "DropSignals$Evening" 29 "DropSignals$Evening" "scores" "[I" ∈ gWs := gWs_in (i := 125) (by decide +kernel) rfl
theorem fl_Ev_29 : gFl "DropSignals$Evening" 29 2 3 := ⟨gN2, gF2, 14, rfl, uw_2, by decide, w_125⟩
theorem w_126 : Cond.fieldLink "DropSignals$Evening" 45 "DropSignals$Evening" "deals" "I" ∈ gWs := gWs_in (i := 126) (by decide +kernel) rfl
theorem fl_Ev_45 : gFl "DropSignals$Evening" 45 2 4 := ⟨gN2, gF2, 14, rfl, uw_2, by decide, w_126⟩
theorem fp_Ev_45 : gFp "DropSignals$Evening" 45 2 4 .int := ⟨gN2, gF2, 14, rfl, uw_2, by decide, w_126, ⟨gX2, gY2⟩, gD2, rfl, by decide +kernel⟩
theorem w_128 : Cond.fieldLink "DropSignals$Evening" 49 "DropSignals$Evening" "phase" "I" ∈ gWs := gWs_in (i := 128) (by decide +kernel) rfl
theorem fl_Ev_49 : gFl "DropSignals$Evening" 49 2 5 := ⟨gN2, gF2, 14, rfl, uw_2, by decide, w_128⟩
theorem fp_Ev_49 : gFp "DropSignals$Evening" 49 2 5 .int := ⟨gN2, gF2, 14, rfl, uw_2, by decide, w_128, ⟨gX2, gY2⟩, gD2, rfl, by decide +kernel⟩
theorem w_131 : Cond.fieldLink "DropSignals$Evening" 52 "DropSignals$Evening" "turn" "I" ∈ gWs := gWs_in (i := 131) (by decide +kernel) rfl
theorem fl_Ev_52 : gFl "DropSignals$Evening" 52 2 6 := ⟨gN2, gF2, 14, rfl, uw_2, by decide, w_131⟩
theorem fp_Ev_52 : gFp "DropSignals$Evening" 52 2 6 .int := ⟨gN2, gF2, 14, rfl, uw_2, by decide, w_131, ⟨gX2, gY2⟩, gD2, rfl, by decide +kernel⟩
theorem w_140 : Cond.fieldLink "DropSignals$Evening" 55 "DropSignals$Evening" "signals" "I" ∈ gWs := gWs_in (i := 140) (by decide +kernel) rfl
theorem fl_Ev_55 : gFl "DropSignals$Evening" 55 2 11 := ⟨gN2, gF2, 14, rfl, uw_2, by decide, w_140⟩
theorem fp_Ev_55 : gFp "DropSignals$Evening" 55 2 11 .int := ⟨gN2, gF2, 14, rfl, uw_2, by decide, w_140, ⟨gX2, gY2⟩, gD2, rfl, by decide +kernel⟩
theorem w_142 : Cond.fieldLink "DropSignals$Evening" 58 "DropSignals$Evening" "trueSignals" "I" ∈ gWs := gWs_in (i := 142) (by decide +kernel) rfl
theorem fl_Ev_58 : gFl "DropSignals$Evening" 58 2 12 := ⟨gN2, gF2, 14, rfl, uw_2, by decide, w_142⟩
theorem fp_Ev_58 : gFp "DropSignals$Evening" 58 2 12 .int := ⟨gN2, gF2, 14, rfl, uw_2, by decide, w_142, ⟨gX2, gY2⟩, gD2, rfl, by decide +kernel⟩
theorem w_144 : Cond.fieldLink "DropSignals$Evening" 61 "DropSignals$Evening" "refused" "I" ∈ gWs := gWs_in (i := 144) (by decide +kernel) rfl
theorem fl_Ev_61 : gFl "DropSignals$Evening" 61 2 13 := ⟨gN2, gF2, 14, rfl, uw_2, by decide, w_144⟩
theorem fp_Ev_61 : gFp "DropSignals$Evening" 61 2 13 .int := ⟨gN2, gF2, 14, rfl, uw_2, by decide, w_144, ⟨gX2, gY2⟩, gD2, rfl, by decide +kernel⟩
noncomputable def f_Ev_clear (e : Nat) (M : gMem) : Option gMem :=
  (f_Cards_clear e M).bind fun q1 =>
  (f_Ev_clearDeal e q1).bind fun q2 =>
  (f_JA_fill e 4 2 q2 0).bind fun q3 =>
  (gSO q3 e 0 4 0).bind fun M4 =>
  (gSO M4 e 0 5 0).bind fun M5 =>
  (gSO M5 e 0 6 (-1)).bind fun M6 =>
  (gSO M6 e 0 11 0).bind fun M7 =>
  (gSO M7 e 0 12 0).bind fun M8 =>
  (gSO M8 e 0 13 0).bind fun M9 =>
  some M9
theorem t_Ev_clear {l : Launch} {ε : gEnv} (e : Nat) (hE : gEv ε e) (M : gMem) (r : gMem) (h : f_Ev_clear e M = some r) : gGo l ε k_Ev_clear (gR 3 63) (gFn ε none r) 0 [(0, .ref (ε.2.2.1 e 0))] [] M := by
  unfold f_Ev_clear at h
  refine g_aload_n d_Ev_clear_0 rfl 0 rfl ?_
  refine g_getR d_Ev_clear_1 fl_Ev_12 (gEv_h0 hE) rfl ?_
  obtain ⟨q1, hq1, h⟩ := gOb h
  refine g_callV_v (As := []) (rest := []) (ct_Cards_clear e (gEv_cd hE) M _ hq1) d_Ev_clear_4 ca_Cards_clear w_109 (gEv_h1 hE) rfl rfl rfl (Nat.le_of_ble_eq_true rfl) ⟨(Nat.le_of_ble_eq_true rfl), (Nat.le_of_ble_eq_true rfl)⟩ ?_
  refine g_aload_n d_Ev_clear_7 rfl 0 rfl ?_
  obtain ⟨q2, hq2, h⟩ := gOb h
  refine g_callV_v (As := []) (rest := []) (ct_Ev_clearDeal e hE q1 _ hq2) d_Ev_clear_8 ca_Ev_clearDeal w_110 (gEv_h0 hE) rfl rfl rfl (Nat.le_of_ble_eq_true rfl) ⟨(Nat.le_of_ble_eq_true rfl), (Nat.le_of_ble_eq_true rfl)⟩ ?_
  refine g_aload_n d_Ev_clear_11 rfl 0 rfl ?_
  refine g_getR d_Ev_clear_12 fl_Ev_29 (gEv_h0 hE) rfl ?_
  refine g_iconst (v := 0) d_Ev_clear_15 (by decide) ?_
  obtain ⟨q3, hq3, h⟩ := gOb h
  refine g_callS_v (As := [.ref (ε.2.2.1 e 4), .int 0]) (rest := []) (ct_JA_fill e 4 2 (gEv_h4 hE) q2 0 _ hq3) d_Ev_clear_16 ca_JA_fill w_115 rfl rfl (Nat.le_of_ble_eq_true rfl) ⟨(Nat.le_of_ble_eq_true rfl), (Nat.le_of_ble_eq_true rfl)⟩ ?_
  refine g_aload_n d_Ev_clear_19 rfl 0 rfl ?_
  refine g_iconst (v := 0) d_Ev_clear_20 (by decide) ?_
  obtain ⟨M4, hM4, h⟩ := gOb h
  refine g_putO d_Ev_clear_21 fp_Ev_45 (gEv_h0 hE) rfl hM4 ?_
  refine g_aload_n d_Ev_clear_24 rfl 0 rfl ?_
  refine g_iconst (v := 0) d_Ev_clear_25 (by decide) ?_
  obtain ⟨M5, hM5, h⟩ := gOb h
  refine g_putO d_Ev_clear_26 fp_Ev_49 (gEv_h0 hE) rfl hM5 ?_
  refine g_aload_n d_Ev_clear_29 rfl 0 rfl ?_
  refine g_iconst (v := -1) d_Ev_clear_30 (by decide) ?_
  obtain ⟨M6, hM6, h⟩ := gOb h
  refine g_putO d_Ev_clear_31 fp_Ev_52 (gEv_h0 hE) rfl hM6 ?_
  refine g_aload_n d_Ev_clear_34 rfl 0 rfl ?_
  refine g_iconst (v := 0) d_Ev_clear_35 (by decide) ?_
  obtain ⟨M7, hM7, h⟩ := gOb h
  refine g_putO d_Ev_clear_36 fp_Ev_55 (gEv_h0 hE) rfl hM7 ?_
  refine g_aload_n d_Ev_clear_39 rfl 0 rfl ?_
  refine g_iconst (v := 0) d_Ev_clear_40 (by decide) ?_
  obtain ⟨M8, hM8, h⟩ := gOb h
  refine g_putO d_Ev_clear_41 fp_Ev_58 (gEv_h0 hE) rfl hM8 ?_
  refine g_aload_n d_Ev_clear_44 rfl 0 rfl ?_
  refine g_iconst (v := 0) d_Ev_clear_45 (by decide) ?_
  obtain ⟨M9, hM9, h⟩ := gOb h
  refine g_putO d_Ev_clear_46 fp_Ev_61 (gEv_h0 hE) rfl hM9 ?_
  obtain rfl := Option.some.inj h
  exact g_vret d_Ev_clear_49 rfl
theorem ct_Ev_clear {l : Launch} {ε : gEnv} (e : Nat) (hE : gEv ε e) (M : gMem) (r : gMem) (h : f_Ev_clear e M = some r) : gCt l ε k_Ev_clear 3 63 [.ref (ε.2.2.1 e 0)] M none r :=
  gCt_of (by decide) (Nat.le_of_ble_eq_true rfl) rfl (t_Ev_clear e hE M r h)
abbrev k_Ev_copyFrom : gMD := (⟨"DropSignals$Evening", "copyFrom", "(LDropSignals$Evening;)V"⟩, prog_4_method_4_code, 2, none)
theorem w_701 : Cond.instanceMethod ⟨"DropSignals$Evening", "copyFrom", "(LDropSignals$Evening;)V"⟩ ∈ gWs := gWs_in (i := 701) (by decide +kernel) rfl
theorem w_702 : Cond.selects "DropSignals$Evening" ⟨"DropSignals$Evening", "copyFrom", "(LDropSignals$Evening;)V"⟩ ⟨"DropSignals$Evening", "copyFrom", "(LDropSignals$Evening;)V"⟩ ∈ gWs := gWs_in (i := 702) (by decide +kernel) rfl
set_option maxRecDepth 100000 in
theorem ca_Ev_copyFrom : gCaV k_Ev_copyFrom 1 := ⟨⟨gWs_in (i := 703) rfl rfl, w_21, by decide, by decide, by decide +kernel⟩, w_701, w_702⟩
theorem d_Ev_copyFrom_0 : decode prog_4_method_4_code 0 = .ok (.aload_n 0, 1) := by decide +kernel
theorem d_Ev_copyFrom_1 : decode prog_4_method_4_code 1 = .ok (.getfield 12, 3) := by decide +kernel
theorem d_Ev_copyFrom_4 : decode prog_4_method_4_code 4 = .ok (.aload_n 1, 1) := by decide +kernel
theorem d_Ev_copyFrom_5 : decode prog_4_method_4_code 5 = .ok (.getfield 12, 3) := by decide +kernel
theorem d_Ev_copyFrom_8 : decode prog_4_method_4_code 8 = .ok (.invokevirtual 77, 3) := by decide +kernel
theorem d_Ev_copyFrom_11 : decode prog_4_method_4_code 11 = .ok (.aload_n 0, 1) := by decide +kernel
theorem d_Ev_copyFrom_12 : decode prog_4_method_4_code 12 = .ok (.getfield 21, 3) := by decide +kernel
theorem d_Ev_copyFrom_15 : decode prog_4_method_4_code 15 = .ok (.aload_n 1, 1) := by decide +kernel
theorem d_Ev_copyFrom_16 : decode prog_4_method_4_code 16 = .ok (.getfield 21, 3) := by decide +kernel
theorem d_Ev_copyFrom_19 : decode prog_4_method_4_code 19 = .ok (.invokevirtual 81, 3) := by decide +kernel
theorem d_Ev_copyFrom_22 : decode prog_4_method_4_code 22 = .ok (.aload_n 1, 1) := by decide +kernel
theorem d_Ev_copyFrom_23 : decode prog_4_method_4_code 23 = .ok (.getfield 25, 3) := by decide +kernel
theorem d_Ev_copyFrom_26 : decode prog_4_method_4_code 26 = .ok (.aload_n 0, 1) := by decide +kernel
theorem d_Ev_copyFrom_27 : decode prog_4_method_4_code 27 = .ok (.getfield 25, 3) := by decide +kernel
theorem d_Ev_copyFrom_30 : decode prog_4_method_4_code 30 = .ok (.invokestatic 84, 3) := by decide +kernel
theorem d_Ev_copyFrom_33 : decode prog_4_method_4_code 33 = .ok (.aload_n 1, 1) := by decide +kernel
theorem d_Ev_copyFrom_34 : decode prog_4_method_4_code 34 = .ok (.getfield 29, 3) := by decide +kernel
theorem d_Ev_copyFrom_37 : decode prog_4_method_4_code 37 = .ok (.aload_n 0, 1) := by decide +kernel
theorem d_Ev_copyFrom_38 : decode prog_4_method_4_code 38 = .ok (.getfield 29, 3) := by decide +kernel
theorem d_Ev_copyFrom_41 : decode prog_4_method_4_code 41 = .ok (.invokestatic 84, 3) := by decide +kernel
theorem d_Ev_copyFrom_44 : decode prog_4_method_4_code 44 = .ok (.aload_n 0, 1) := by decide +kernel
theorem d_Ev_copyFrom_45 : decode prog_4_method_4_code 45 = .ok (.aload_n 1, 1) := by decide +kernel
theorem d_Ev_copyFrom_46 : decode prog_4_method_4_code 46 = .ok (.getfield 45, 3) := by decide +kernel
theorem d_Ev_copyFrom_49 : decode prog_4_method_4_code 49 = .ok (.putfield 45, 3) := by decide +kernel
theorem d_Ev_copyFrom_52 : decode prog_4_method_4_code 52 = .ok (.aload_n 0, 1) := by decide +kernel
theorem d_Ev_copyFrom_53 : decode prog_4_method_4_code 53 = .ok (.aload_n 1, 1) := by decide +kernel
theorem d_Ev_copyFrom_54 : decode prog_4_method_4_code 54 = .ok (.getfield 49, 3) := by decide +kernel
theorem d_Ev_copyFrom_57 : decode prog_4_method_4_code 57 = .ok (.putfield 49, 3) := by decide +kernel
theorem d_Ev_copyFrom_60 : decode prog_4_method_4_code 60 = .ok (.aload_n 0, 1) := by decide +kernel
theorem d_Ev_copyFrom_61 : decode prog_4_method_4_code 61 = .ok (.aload_n 1, 1) := by decide +kernel
theorem d_Ev_copyFrom_62 : decode prog_4_method_4_code 62 = .ok (.getfield 52, 3) := by decide +kernel
theorem d_Ev_copyFrom_65 : decode prog_4_method_4_code 65 = .ok (.putfield 52, 3) := by decide +kernel
theorem d_Ev_copyFrom_68 : decode prog_4_method_4_code 68 = .ok (.aload_n 0, 1) := by decide +kernel
theorem d_Ev_copyFrom_69 : decode prog_4_method_4_code 69 = .ok (.aload_n 1, 1) := by decide +kernel
theorem d_Ev_copyFrom_70 : decode prog_4_method_4_code 70 = .ok (.getfield 65, 3) := by decide +kernel
theorem d_Ev_copyFrom_73 : decode prog_4_method_4_code 73 = .ok (.putfield 65, 3) := by decide +kernel
theorem d_Ev_copyFrom_76 : decode prog_4_method_4_code 76 = .ok (.aload_n 0, 1) := by decide +kernel
theorem d_Ev_copyFrom_77 : decode prog_4_method_4_code 77 = .ok (.aload_n 1, 1) := by decide +kernel
theorem d_Ev_copyFrom_78 : decode prog_4_method_4_code 78 = .ok (.getfield 68, 3) := by decide +kernel
theorem d_Ev_copyFrom_81 : decode prog_4_method_4_code 81 = .ok (.putfield 68, 3) := by decide +kernel
theorem d_Ev_copyFrom_84 : decode prog_4_method_4_code 84 = .ok (.aload_n 0, 1) := by decide +kernel
theorem d_Ev_copyFrom_85 : decode prog_4_method_4_code 85 = .ok (.aload_n 1, 1) := by decide +kernel
theorem d_Ev_copyFrom_86 : decode prog_4_method_4_code 86 = .ok (.getfield 71, 3) := by decide +kernel
theorem d_Ev_copyFrom_89 : decode prog_4_method_4_code 89 = .ok (.putfield 71, 3) := by decide +kernel
theorem d_Ev_copyFrom_92 : decode prog_4_method_4_code 92 = .ok (.aload_n 0, 1) := by decide +kernel
theorem d_Ev_copyFrom_93 : decode prog_4_method_4_code 93 = .ok (.aload_n 1, 1) := by decide +kernel
theorem d_Ev_copyFrom_94 : decode prog_4_method_4_code 94 = .ok (.getfield 74, 3) := by decide +kernel
theorem d_Ev_copyFrom_97 : decode prog_4_method_4_code 97 = .ok (.putfield 74, 3) := by decide +kernel
theorem d_Ev_copyFrom_100 : decode prog_4_method_4_code 100 = .ok (.aload_n 0, 1) := by decide +kernel
theorem d_Ev_copyFrom_101 : decode prog_4_method_4_code 101 = .ok (.aload_n 1, 1) := by decide +kernel
theorem d_Ev_copyFrom_102 : decode prog_4_method_4_code 102 = .ok (.getfield 55, 3) := by decide +kernel
theorem d_Ev_copyFrom_105 : decode prog_4_method_4_code 105 = .ok (.putfield 55, 3) := by decide +kernel
theorem d_Ev_copyFrom_108 : decode prog_4_method_4_code 108 = .ok (.aload_n 0, 1) := by decide +kernel
theorem d_Ev_copyFrom_109 : decode prog_4_method_4_code 109 = .ok (.aload_n 1, 1) := by decide +kernel
theorem d_Ev_copyFrom_110 : decode prog_4_method_4_code 110 = .ok (.getfield 58, 3) := by decide +kernel
theorem d_Ev_copyFrom_113 : decode prog_4_method_4_code 113 = .ok (.putfield 58, 3) := by decide +kernel
theorem d_Ev_copyFrom_116 : decode prog_4_method_4_code 116 = .ok (.aload_n 0, 1) := by decide +kernel
theorem d_Ev_copyFrom_117 : decode prog_4_method_4_code 117 = .ok (.aload_n 1, 1) := by decide +kernel
theorem d_Ev_copyFrom_118 : decode prog_4_method_4_code 118 = .ok (.getfield 61, 3) := by decide +kernel
theorem d_Ev_copyFrom_121 : decode prog_4_method_4_code 121 = .ok (.putfield 61, 3) := by decide +kernel
theorem d_Ev_copyFrom_124 : decode prog_4_method_4_code 124 = .ok (.return_, 1) := by decide +kernel
theorem w_704 : Cond.methodLink "DropSignals$Evening" 77 ⟨"DropSignals$Cards", "copyFrom", "(LDropSignals$Cards;)V"⟩ ∈ gWs := gWs_in (i := 704) (by decide +kernel) rfl
theorem w_717 : Cond.methodLink "DropSignals$Evening" 81 ⟨"DropSignals$Drops", "copyFrom", "(LDropSignals$Drops;)V"⟩ ∈ gWs := gWs_in (i := 717) (by decide +kernel) rfl
noncomputable def f_Ev_copyFrom (e : Nat) (e0 : Nat) (M : gMem) : Option gMem :=
  (f_Cards_copyFrom e e0 M).bind fun q1 =>
  (f_Drops_copyFrom e e0 q1).bind fun q2 =>
  (f_DS_copyRow e0 3 2 e 3 2 q2).bind fun q3 =>
  (f_DS_copyRow e0 4 2 e 4 2 q3).bind fun q4 =>
  (gSO q4 e 0 4 (q4 e0 0 4)).bind fun M5 =>
  (gSO M5 e 0 5 (M5 e0 0 5)).bind fun M6 =>
  (gSO M6 e 0 6 (M6 e0 0 6)).bind fun M7 =>
  (gSO M7 e 0 7 (M7 e0 0 7)).bind fun M8 =>
  (gSO M8 e 0 8 (M8 e0 0 8)).bind fun M9 =>
  (gSO M9 e 0 9 (M9 e0 0 9)).bind fun M10 =>
  (gSO M10 e 0 10 (M10 e0 0 10)).bind fun M11 =>
  (gSO M11 e 0 11 (M11 e0 0 11)).bind fun M12 =>
  (gSO M12 e 0 12 (M12 e0 0 12)).bind fun M13 =>
  (gSO M13 e 0 13 (M13 e0 0 13)).bind fun M14 =>
  some M14
theorem t_Ev_copyFrom {l : Launch} {ε : gEnv} (e : Nat) (e0 : Nat) (hE : gEv ε e) (hE0 : gEv ε e0) (M : gMem) (r : gMem) (h : f_Ev_copyFrom e e0 M = some r) : gGo l ε k_Ev_copyFrom (gR 3 72) (gFn ε none r) 0 [(0, .ref (ε.2.2.1 e 0)), (1, .ref (ε.2.2.1 e0 0))] [] M := by
  unfold f_Ev_copyFrom at h
  refine g_aload_n d_Ev_copyFrom_0 rfl 0 rfl ?_
  refine g_getR d_Ev_copyFrom_1 fl_Ev_12 (gEv_h0 hE) rfl ?_
  refine g_aload_n d_Ev_copyFrom_4 rfl 1 rfl ?_
  refine g_getR d_Ev_copyFrom_5 fl_Ev_12 (gEv_h0 hE0) rfl ?_
  obtain ⟨q1, hq1, h⟩ := gOb h
  refine g_callV_v (As := [.ref (ε.2.2.1 e0 1)]) (rest := []) (ct_Cards_copyFrom e e0 (gEv_cd hE) (gEv_cd hE0) M _ hq1) d_Ev_copyFrom_8 ca_Cards_copyFrom w_704 (gEv_h1 hE) rfl rfl rfl (Nat.le_of_ble_eq_true rfl) ⟨(Nat.le_of_ble_eq_true rfl), (Nat.le_of_ble_eq_true rfl)⟩ ?_
  refine g_aload_n d_Ev_copyFrom_11 rfl 0 rfl ?_
  refine g_getR d_Ev_copyFrom_12 fl_Ev_21 (gEv_h0 hE) rfl ?_
  refine g_aload_n d_Ev_copyFrom_15 rfl 1 rfl ?_
  refine g_getR d_Ev_copyFrom_16 fl_Ev_21 (gEv_h0 hE0) rfl ?_
  obtain ⟨q2, hq2, h⟩ := gOb h
  refine g_callV_v (As := [.ref (ε.2.2.1 e0 2)]) (rest := []) (ct_Drops_copyFrom e e0 (gEv_dr hE) (gEv_dr hE0) q1 _ hq2) d_Ev_copyFrom_19 ca_Drops_copyFrom w_717 (gEv_h2 hE) rfl rfl rfl (Nat.le_of_ble_eq_true rfl) ⟨(Nat.le_of_ble_eq_true rfl), (Nat.le_of_ble_eq_true rfl)⟩ ?_
  refine g_aload_n d_Ev_copyFrom_22 rfl 1 rfl ?_
  refine g_getR d_Ev_copyFrom_23 fl_Ev_25 (gEv_h0 hE0) rfl ?_
  refine g_aload_n d_Ev_copyFrom_26 rfl 0 rfl ?_
  refine g_getR d_Ev_copyFrom_27 fl_Ev_25 (gEv_h0 hE) rfl ?_
  obtain ⟨q3, hq3, h⟩ := gOb h
  refine g_callN_v (As := [.ref (ε.2.2.1 e0 3), .ref (ε.2.2.1 e 3)]) (rest := []) (j := 722) (host := "DropSignals") (ct_DS_copyRow e0 3 2 e 3 2 (gEv_h3 hE0) (gEv_h3 hE) q2 _ hq3) d_Ev_copyFrom_30 ca_DS_copyRow (by decide +kernel) rfl rfl (Nat.le_of_ble_eq_true rfl) ⟨(Nat.le_of_ble_eq_true rfl), (Nat.le_of_ble_eq_true rfl)⟩ ?_
  refine g_aload_n d_Ev_copyFrom_33 rfl 1 rfl ?_
  refine g_getR d_Ev_copyFrom_34 fl_Ev_29 (gEv_h0 hE0) rfl ?_
  refine g_aload_n d_Ev_copyFrom_37 rfl 0 rfl ?_
  refine g_getR d_Ev_copyFrom_38 fl_Ev_29 (gEv_h0 hE) rfl ?_
  obtain ⟨q4, hq4, h⟩ := gOb h
  refine g_callN_v (As := [.ref (ε.2.2.1 e0 4), .ref (ε.2.2.1 e 4)]) (rest := []) (j := 722) (host := "DropSignals") (ct_DS_copyRow e0 4 2 e 4 2 (gEv_h4 hE0) (gEv_h4 hE) q3 _ hq4) d_Ev_copyFrom_41 ca_DS_copyRow (by decide +kernel) rfl rfl (Nat.le_of_ble_eq_true rfl) ⟨(Nat.le_of_ble_eq_true rfl), (Nat.le_of_ble_eq_true rfl)⟩ ?_
  refine g_aload_n d_Ev_copyFrom_44 rfl 0 rfl ?_
  refine g_aload_n d_Ev_copyFrom_45 rfl 1 rfl ?_
  refine g_getI d_Ev_copyFrom_46 fl_Ev_45 (gEv_h0 hE0) rfl ?_
  obtain ⟨M5, hM5, h⟩ := gOb h
  refine g_putO d_Ev_copyFrom_49 fp_Ev_45 (gEv_h0 hE) rfl hM5 ?_
  refine g_aload_n d_Ev_copyFrom_52 rfl 0 rfl ?_
  refine g_aload_n d_Ev_copyFrom_53 rfl 1 rfl ?_
  refine g_getI d_Ev_copyFrom_54 fl_Ev_49 (gEv_h0 hE0) rfl ?_
  obtain ⟨M6, hM6, h⟩ := gOb h
  refine g_putO d_Ev_copyFrom_57 fp_Ev_49 (gEv_h0 hE) rfl hM6 ?_
  refine g_aload_n d_Ev_copyFrom_60 rfl 0 rfl ?_
  refine g_aload_n d_Ev_copyFrom_61 rfl 1 rfl ?_
  refine g_getI d_Ev_copyFrom_62 fl_Ev_52 (gEv_h0 hE0) rfl ?_
  obtain ⟨M7, hM7, h⟩ := gOb h
  refine g_putO d_Ev_copyFrom_65 fp_Ev_52 (gEv_h0 hE) rfl hM7 ?_
  refine g_aload_n d_Ev_copyFrom_68 rfl 0 rfl ?_
  refine g_aload_n d_Ev_copyFrom_69 rfl 1 rfl ?_
  refine g_getI d_Ev_copyFrom_70 fl_Ev_65 (gEv_h0 hE0) rfl ?_
  obtain ⟨M8, hM8, h⟩ := gOb h
  refine g_putO d_Ev_copyFrom_73 fp_Ev_65 (gEv_h0 hE) rfl hM8 ?_
  refine g_aload_n d_Ev_copyFrom_76 rfl 0 rfl ?_
  refine g_aload_n d_Ev_copyFrom_77 rfl 1 rfl ?_
  refine g_getI d_Ev_copyFrom_78 fl_Ev_68 (gEv_h0 hE0) rfl ?_
  obtain ⟨M9, hM9, h⟩ := gOb h
  refine g_putO d_Ev_copyFrom_81 fp_Ev_68 (gEv_h0 hE) rfl hM9 ?_
  refine g_aload_n d_Ev_copyFrom_84 rfl 0 rfl ?_
  refine g_aload_n d_Ev_copyFrom_85 rfl 1 rfl ?_
  refine g_getI d_Ev_copyFrom_86 fl_Ev_71 (gEv_h0 hE0) rfl ?_
  obtain ⟨M10, hM10, h⟩ := gOb h
  refine g_putO d_Ev_copyFrom_89 fp_Ev_71 (gEv_h0 hE) rfl hM10 ?_
  refine g_aload_n d_Ev_copyFrom_92 rfl 0 rfl ?_
  refine g_aload_n d_Ev_copyFrom_93 rfl 1 rfl ?_
  refine g_getI d_Ev_copyFrom_94 fl_Ev_74 (gEv_h0 hE0) rfl ?_
  obtain ⟨M11, hM11, h⟩ := gOb h
  refine g_putO d_Ev_copyFrom_97 fp_Ev_74 (gEv_h0 hE) rfl hM11 ?_
  refine g_aload_n d_Ev_copyFrom_100 rfl 0 rfl ?_
  refine g_aload_n d_Ev_copyFrom_101 rfl 1 rfl ?_
  refine g_getI d_Ev_copyFrom_102 fl_Ev_55 (gEv_h0 hE0) rfl ?_
  obtain ⟨M12, hM12, h⟩ := gOb h
  refine g_putO d_Ev_copyFrom_105 fp_Ev_55 (gEv_h0 hE) rfl hM12 ?_
  refine g_aload_n d_Ev_copyFrom_108 rfl 0 rfl ?_
  refine g_aload_n d_Ev_copyFrom_109 rfl 1 rfl ?_
  refine g_getI d_Ev_copyFrom_110 fl_Ev_58 (gEv_h0 hE0) rfl ?_
  obtain ⟨M13, hM13, h⟩ := gOb h
  refine g_putO d_Ev_copyFrom_113 fp_Ev_58 (gEv_h0 hE) rfl hM13 ?_
  refine g_aload_n d_Ev_copyFrom_116 rfl 0 rfl ?_
  refine g_aload_n d_Ev_copyFrom_117 rfl 1 rfl ?_
  refine g_getI d_Ev_copyFrom_118 fl_Ev_61 (gEv_h0 hE0) rfl ?_
  obtain ⟨M14, hM14, h⟩ := gOb h
  refine g_putO d_Ev_copyFrom_121 fp_Ev_61 (gEv_h0 hE) rfl hM14 ?_
  obtain rfl := Option.some.inj h
  exact g_vret d_Ev_copyFrom_124 rfl
theorem ct_Ev_copyFrom {l : Launch} {ε : gEnv} (e : Nat) (e0 : Nat) (hE : gEv ε e) (hE0 : gEv ε e0) (M : gMem) (r : gMem) (h : f_Ev_copyFrom e e0 M = some r) : gCt l ε k_Ev_copyFrom 3 72 [.ref (ε.2.2.1 e 0), .ref (ε.2.2.1 e0 0)] M none r :=
  gCt_of (by decide) (Nat.le_of_ble_eq_true rfl) rfl (t_Ev_copyFrom e e0 hE hE0 M r h)
abbrev k_Ev_number : gMD := (⟨"DropSignals$Evening", "number", "(I)I"⟩, prog_4_method_5_code, 2, (some .int))
theorem w_609 : Cond.instanceMethod ⟨"DropSignals$Evening", "number", "(I)I"⟩ ∈ gWs := gWs_in (i := 609) (by decide +kernel) rfl
theorem w_610 : Cond.selects "DropSignals$Evening" ⟨"DropSignals$Evening", "number", "(I)I"⟩ ⟨"DropSignals$Evening", "number", "(I)I"⟩ ∈ gWs := gWs_in (i := 610) (by decide +kernel) rfl
set_option maxRecDepth 100000 in
theorem ca_Ev_number : gCaV k_Ev_number 1 := ⟨⟨gWs_in (i := 611) rfl rfl, w_21, by decide, by decide, by decide +kernel⟩, w_609, w_610⟩
theorem d_Ev_number_0 : decode prog_4_method_5_code 0 = .ok (.iload_n 1, 1) := by decide +kernel
theorem d_Ev_number_1 : decode prog_4_method_5_code 1 = .ok (.tableswitch 137 0 10 #[59, 64, 69, 74, 87, 104, 104, 115, 115, 127, 132], 59) := by decide +kernel
theorem d_Ev_number_60 : decode prog_4_method_5_code 60 = .ok (.aload_n 0, 1) := by decide +kernel
theorem d_Ev_number_61 : decode prog_4_method_5_code 61 = .ok (.getfield 45, 3) := by decide +kernel
theorem d_Ev_number_64 : decode prog_4_method_5_code 64 = .ok (.ireturn, 1) := by decide +kernel
theorem d_Ev_number_65 : decode prog_4_method_5_code 65 = .ok (.aload_n 0, 1) := by decide +kernel
theorem d_Ev_number_66 : decode prog_4_method_5_code 66 = .ok (.getfield 49, 3) := by decide +kernel
theorem d_Ev_number_69 : decode prog_4_method_5_code 69 = .ok (.ireturn, 1) := by decide +kernel
theorem d_Ev_number_70 : decode prog_4_method_5_code 70 = .ok (.aload_n 0, 1) := by decide +kernel
theorem d_Ev_number_71 : decode prog_4_method_5_code 71 = .ok (.getfield 52, 3) := by decide +kernel
theorem d_Ev_number_74 : decode prog_4_method_5_code 74 = .ok (.ireturn, 1) := by decide +kernel
theorem d_Ev_number_75 : decode prog_4_method_5_code 75 = .ok (.bipush 10, 2) := by decide +kernel
theorem d_Ev_number_77 : decode prog_4_method_5_code 77 = .ok (.aload_n 0, 1) := by decide +kernel
theorem d_Ev_number_78 : decode prog_4_method_5_code 78 = .ok (.getfield 65, 3) := by decide +kernel
theorem d_Ev_number_81 : decode prog_4_method_5_code 81 = .ok (.imul, 1) := by decide +kernel
theorem d_Ev_number_82 : decode prog_4_method_5_code 82 = .ok (.aload_n 0, 1) := by decide +kernel
theorem d_Ev_number_83 : decode prog_4_method_5_code 83 = .ok (.getfield 68, 3) := by decide +kernel
theorem d_Ev_number_86 : decode prog_4_method_5_code 86 = .ok (.iadd, 1) := by decide +kernel
theorem d_Ev_number_87 : decode prog_4_method_5_code 87 = .ok (.ireturn, 1) := by decide +kernel
theorem d_Ev_number_88 : decode prog_4_method_5_code 88 = .ok (.aload_n 0, 1) := by decide +kernel
theorem d_Ev_number_89 : decode prog_4_method_5_code 89 = .ok (.getfield 49, 3) := by decide +kernel
theorem d_Ev_number_92 : decode prog_4_method_5_code 92 = .ok (.iconst 1, 1) := by decide +kernel
theorem d_Ev_number_93 : decode prog_4_method_5_code 93 = .ok (.if_icmp .ne 7, 3) := by decide +kernel
theorem d_Ev_number_96 : decode prog_4_method_5_code 96 = .ok (.iconst (-1), 1) := by decide +kernel
theorem d_Ev_number_97 : decode prog_4_method_5_code 97 = .ok (.goto 7, 3) := by decide +kernel
theorem d_Ev_number_100 : decode prog_4_method_5_code 100 = .ok (.aload_n 0, 1) := by decide +kernel
theorem d_Ev_number_101 : decode prog_4_method_5_code 101 = .ok (.getfield 71, 3) := by decide +kernel
theorem d_Ev_number_104 : decode prog_4_method_5_code 104 = .ok (.ireturn, 1) := by decide +kernel
theorem d_Ev_number_105 : decode prog_4_method_5_code 105 = .ok (.aload_n 0, 1) := by decide +kernel
theorem d_Ev_number_106 : decode prog_4_method_5_code 106 = .ok (.getfield 25, 3) := by decide +kernel
theorem d_Ev_number_109 : decode prog_4_method_5_code 109 = .ok (.iload_n 1, 1) := by decide +kernel
theorem d_Ev_number_110 : decode prog_4_method_5_code 110 = .ok (.iconst 5, 1) := by decide +kernel
theorem d_Ev_number_111 : decode prog_4_method_5_code 111 = .ok (.isub, 1) := by decide +kernel
theorem d_Ev_number_112 : decode prog_4_method_5_code 112 = .ok (.invokestatic 88, 3) := by decide +kernel
theorem d_Ev_number_115 : decode prog_4_method_5_code 115 = .ok (.ireturn, 1) := by decide +kernel
theorem d_Ev_number_116 : decode prog_4_method_5_code 116 = .ok (.aload_n 0, 1) := by decide +kernel
theorem d_Ev_number_117 : decode prog_4_method_5_code 117 = .ok (.getfield 29, 3) := by decide +kernel
theorem d_Ev_number_120 : decode prog_4_method_5_code 120 = .ok (.iload_n 1, 1) := by decide +kernel
theorem d_Ev_number_121 : decode prog_4_method_5_code 121 = .ok (.bipush 7, 2) := by decide +kernel
theorem d_Ev_number_123 : decode prog_4_method_5_code 123 = .ok (.isub, 1) := by decide +kernel
theorem d_Ev_number_124 : decode prog_4_method_5_code 124 = .ok (.invokestatic 88, 3) := by decide +kernel
theorem d_Ev_number_127 : decode prog_4_method_5_code 127 = .ok (.ireturn, 1) := by decide +kernel
theorem d_Ev_number_128 : decode prog_4_method_5_code 128 = .ok (.aload_n 0, 1) := by decide +kernel
theorem d_Ev_number_129 : decode prog_4_method_5_code 129 = .ok (.getfield 55, 3) := by decide +kernel
theorem d_Ev_number_132 : decode prog_4_method_5_code 132 = .ok (.ireturn, 1) := by decide +kernel
theorem d_Ev_number_133 : decode prog_4_method_5_code 133 = .ok (.aload_n 0, 1) := by decide +kernel
theorem d_Ev_number_134 : decode prog_4_method_5_code 134 = .ok (.getfield 58, 3) := by decide +kernel
theorem d_Ev_number_137 : decode prog_4_method_5_code 137 = .ok (.ireturn, 1) := by decide +kernel
theorem d_Ev_number_138 : decode prog_4_method_5_code 138 = .ok (.aload_n 0, 1) := by decide +kernel
theorem d_Ev_number_139 : decode prog_4_method_5_code 139 = .ok (.getfield 61, 3) := by decide +kernel
theorem d_Ev_number_142 : decode prog_4_method_5_code 142 = .ok (.ireturn, 1) := by decide +kernel
noncomputable def f_Ev_number_b105 (e : Nat) (M : gMem) (x1 : Int32) : Option Int32 :=
  (f_DS_at e 3 2 M (x1 - 5)).bind fun q8 =>
  some q8
theorem t_Ev_number_b105 {l : Launch} {ε : gEnv} (e : Nat) (hE : gEv ε e) (M : gMem) (x1 : Int32) (r : Int32) (h : f_Ev_number_b105 e M x1 = some r) : gGo l ε k_Ev_number (gR 1 21) (gFn ε (some (.int r)) M) 105 [(0, .ref (ε.2.2.1 e 0)), (1, .int x1)] [] M := by
  unfold f_Ev_number_b105 at h
  refine g_aload_n d_Ev_number_105 rfl 0 rfl ?_
  refine g_getR d_Ev_number_106 fl_Ev_25 (gEv_h0 hE) rfl ?_
  refine g_iload_n d_Ev_number_109 rfl 1 rfl ?_
  refine g_iconst (v := 5) d_Ev_number_110 (by decide) ?_
  refine g_isub d_Ev_number_111 ?_
  obtain ⟨q8, hq8, h⟩ := gOb h
  refine g_callN_i (As := [.ref (ε.2.2.1 e 3), .int (x1 - 5)]) (rest := []) (j := 568) (host := "DropSignals") (ct_DS_at e 3 2 (gEv_h3 hE) M (x1 - 5) _ hq8) d_Ev_number_112 ca_DS_at (by decide +kernel) rfl rfl (Nat.le_of_ble_eq_true rfl) ⟨(Nat.le_of_ble_eq_true rfl), (Nat.le_of_ble_eq_true rfl)⟩ ?_
  obtain rfl := Option.some.inj h
  exact g_iret d_Ev_number_115 rfl
noncomputable def f_Ev_number_b116 (e : Nat) (M : gMem) (x1 : Int32) : Option Int32 :=
  (f_DS_at e 4 2 M (x1 - 7)).bind fun q11 =>
  some q11
theorem t_Ev_number_b116 {l : Launch} {ε : gEnv} (e : Nat) (hE : gEv ε e) (M : gMem) (x1 : Int32) (r : Int32) (h : f_Ev_number_b116 e M x1 = some r) : gGo l ε k_Ev_number (gR 1 21) (gFn ε (some (.int r)) M) 116 [(0, .ref (ε.2.2.1 e 0)), (1, .int x1)] [] M := by
  unfold f_Ev_number_b116 at h
  refine g_aload_n d_Ev_number_116 rfl 0 rfl ?_
  refine g_getR d_Ev_number_117 fl_Ev_29 (gEv_h0 hE) rfl ?_
  refine g_iload_n d_Ev_number_120 rfl 1 rfl ?_
  refine g_bipush (v := 7) d_Ev_number_121 (by decide) ?_
  refine g_isub d_Ev_number_123 ?_
  obtain ⟨q11, hq11, h⟩ := gOb h
  refine g_callN_i (As := [.ref (ε.2.2.1 e 4), .int (x1 - 7)]) (rest := []) (j := 568) (host := "DropSignals") (ct_DS_at e 4 2 (gEv_h4 hE) M (x1 - 7) _ hq11) d_Ev_number_124 ca_DS_at (by decide +kernel) rfl rfl (Nat.le_of_ble_eq_true rfl) ⟨(Nat.le_of_ble_eq_true rfl), (Nat.le_of_ble_eq_true rfl)⟩ ?_
  obtain rfl := Option.some.inj h
  exact g_iret d_Ev_number_127 rfl
noncomputable def f_Ev_number (e : Nat) (M : gMem) (a0 : Int32) : Option Int32 :=
  if a0 = 0 then
    some (M e 0 4)
  else
  if a0 = 1 then
    some (M e 0 5)
  else
  if a0 = 2 then
    some (M e 0 6)
  else
  if a0 = 3 then
    some ((10 * (M e 0 7)) + (M e 0 8))
  else
  if a0 = 4 then
    if (M e 0 5) = 1 then
      some (-1)
    else
      some (M e 0 9)
  else
  if a0 = 5 then
    f_Ev_number_b105 e M a0
  else
  if a0 = 6 then
    f_Ev_number_b105 e M a0
  else
  if a0 = 7 then
    f_Ev_number_b116 e M a0
  else
  if a0 = 8 then
    f_Ev_number_b116 e M a0
  else
  if a0 = 9 then
    some (M e 0 11)
  else
  if a0 = 10 then
    some (M e 0 12)
  else
  some (M e 0 13)
theorem t_Ev_number {l : Launch} {ε : gEnv} (e : Nat) (hE : gEv ε e) (M : gMem) (a0 : Int32) (r : Int32) (h : f_Ev_number e M a0 = some r) : gGo l ε k_Ev_number (gR 1 21) (gFn ε (some (.int r)) M) 0 [(0, .ref (ε.2.2.1 e 0)), (1, .int a0)] [] M := by
  unfold f_Ev_number at h
  refine g_iload_n d_Ev_number_0 rfl 1 rfl ?_
  by_cases c1 : a0 = 0
  · rw [if_pos c1] at h
    refine g_tabIn (off := 59) (tgt := 60) d_Ev_number_1 (by rw [c1]; decide) (by rw [c1]; decide) (by rw [c1]; rfl) (by decide) ?_
    refine g_aload_n d_Ev_number_60 rfl 0 rfl ?_
    refine g_getI d_Ev_number_61 fl_Ev_45 (gEv_h0 hE) rfl ?_
    obtain rfl := Option.some.inj h
    exact g_iret d_Ev_number_64 rfl
  rw [if_neg c1] at h
  by_cases c2 : a0 = 1
  · rw [if_pos c2] at h
    refine g_tabIn (off := 64) (tgt := 65) d_Ev_number_1 (by rw [c2]; decide) (by rw [c2]; decide) (by rw [c2]; rfl) (by decide) ?_
    refine g_aload_n d_Ev_number_65 rfl 0 rfl ?_
    refine g_getI d_Ev_number_66 fl_Ev_49 (gEv_h0 hE) rfl ?_
    obtain rfl := Option.some.inj h
    exact g_iret d_Ev_number_69 rfl
  rw [if_neg c2] at h
  by_cases c3 : a0 = 2
  · rw [if_pos c3] at h
    refine g_tabIn (off := 69) (tgt := 70) d_Ev_number_1 (by rw [c3]; decide) (by rw [c3]; decide) (by rw [c3]; rfl) (by decide) ?_
    refine g_aload_n d_Ev_number_70 rfl 0 rfl ?_
    refine g_getI d_Ev_number_71 fl_Ev_52 (gEv_h0 hE) rfl ?_
    obtain rfl := Option.some.inj h
    exact g_iret d_Ev_number_74 rfl
  rw [if_neg c3] at h
  by_cases c4 : a0 = 3
  · rw [if_pos c4] at h
    refine g_tabIn (off := 74) (tgt := 75) d_Ev_number_1 (by rw [c4]; decide) (by rw [c4]; decide) (by rw [c4]; rfl) (by decide) ?_
    refine g_bipush (v := 10) d_Ev_number_75 (by decide) ?_
    refine g_aload_n d_Ev_number_77 rfl 0 rfl ?_
    refine g_getI d_Ev_number_78 fl_Ev_65 (gEv_h0 hE) rfl ?_
    refine g_imul d_Ev_number_81 ?_
    refine g_aload_n d_Ev_number_82 rfl 0 rfl ?_
    refine g_getI d_Ev_number_83 fl_Ev_68 (gEv_h0 hE) rfl ?_
    refine g_iadd d_Ev_number_86 ?_
    obtain rfl := Option.some.inj h
    exact g_iret d_Ev_number_87 rfl
  rw [if_neg c4] at h
  by_cases c5 : a0 = 4
  · rw [if_pos c5] at h
    refine g_tabIn (off := 87) (tgt := 88) d_Ev_number_1 (by rw [c5]; decide) (by rw [c5]; decide) (by rw [c5]; rfl) (by decide) ?_
    refine g_aload_n d_Ev_number_88 rfl 0 rfl ?_
    refine g_getI d_Ev_number_89 fl_Ev_49 (gEv_h0 hE) rfl ?_
    refine g_iconst (v := 1) d_Ev_number_92 (by decide) ?_
    refine g_icmp_ne (tgt := 100) d_Ev_number_93 (by decide) (fun c6 => ?_) (fun c6 => ?_)
    · rw [if_neg c6] at h
      refine g_aload_n d_Ev_number_100 rfl 0 rfl ?_
      refine g_getI d_Ev_number_101 fl_Ev_71 (gEv_h0 hE) rfl ?_
      obtain rfl := Option.some.inj h
      exact g_iret d_Ev_number_104 rfl
    · rw [if_pos c6] at h
      refine g_iconst (v := -1) d_Ev_number_96 (by decide) ?_
      refine g_goto (tgt := 104) d_Ev_number_97 (by decide) ?_
      obtain rfl := Option.some.inj h
      exact g_iret d_Ev_number_104 rfl
  rw [if_neg c5] at h
  by_cases c7 : a0 = 5
  · rw [if_pos c7] at h
    refine g_tabIn (off := 104) (tgt := 105) d_Ev_number_1 (by rw [c7]; decide) (by rw [c7]; decide) (by rw [c7]; rfl) (by decide) ?_
    exact t_Ev_number_b105 e hE M a0 _ h
  rw [if_neg c7] at h
  by_cases c9 : a0 = 6
  · rw [if_pos c9] at h
    refine g_tabIn (off := 104) (tgt := 105) d_Ev_number_1 (by rw [c9]; decide) (by rw [c9]; decide) (by rw [c9]; rfl) (by decide) ?_
    exact t_Ev_number_b105 e hE M a0 _ h
  rw [if_neg c9] at h
  by_cases c10 : a0 = 7
  · rw [if_pos c10] at h
    refine g_tabIn (off := 115) (tgt := 116) d_Ev_number_1 (by rw [c10]; decide) (by rw [c10]; decide) (by rw [c10]; rfl) (by decide) ?_
    exact t_Ev_number_b116 e hE M a0 _ h
  rw [if_neg c10] at h
  by_cases c12 : a0 = 8
  · rw [if_pos c12] at h
    refine g_tabIn (off := 115) (tgt := 116) d_Ev_number_1 (by rw [c12]; decide) (by rw [c12]; decide) (by rw [c12]; rfl) (by decide) ?_
    exact t_Ev_number_b116 e hE M a0 _ h
  rw [if_neg c12] at h
  by_cases c13 : a0 = 9
  · rw [if_pos c13] at h
    refine g_tabIn (off := 127) (tgt := 128) d_Ev_number_1 (by rw [c13]; decide) (by rw [c13]; decide) (by rw [c13]; rfl) (by decide) ?_
    refine g_aload_n d_Ev_number_128 rfl 0 rfl ?_
    refine g_getI d_Ev_number_129 fl_Ev_55 (gEv_h0 hE) rfl ?_
    obtain rfl := Option.some.inj h
    exact g_iret d_Ev_number_132 rfl
  rw [if_neg c13] at h
  by_cases c14 : a0 = 10
  · rw [if_pos c14] at h
    refine g_tabIn (off := 132) (tgt := 133) d_Ev_number_1 (by rw [c14]; decide) (by rw [c14]; decide) (by rw [c14]; rfl) (by decide) ?_
    refine g_aload_n d_Ev_number_133 rfl 0 rfl ?_
    refine g_getI d_Ev_number_134 fl_Ev_58 (gEv_h0 hE) rfl ?_
    obtain rfl := Option.some.inj h
    exact g_iret d_Ev_number_137 rfl
  rw [if_neg c14] at h
  refine g_tabOut (tgt := 138) d_Ev_number_1 (by have nc1 := lv_neT (a := 0) c1 rfl; have nc2 := lv_neT (a := 1) c2 rfl; have nc3 := lv_neT (a := 2) c3 rfl; have nc4 := lv_neT (a := 3) c4 rfl; have nc5 := lv_neT (a := 4) c5 rfl; have nc7 := lv_neT (a := 5) c7 rfl; have nc9 := lv_neT (a := 6) c9 rfl; have nc10 := lv_neT (a := 7) c10 rfl; have nc12 := lv_neT (a := 8) c12 rfl; have nc13 := lv_neT (a := 9) c13 rfl; have nc14 := lv_neT (a := 10) c14 rfl; omega) (by decide) ?_
  refine g_aload_n d_Ev_number_138 rfl 0 rfl ?_
  refine g_getI d_Ev_number_139 fl_Ev_61 (gEv_h0 hE) rfl ?_
  obtain rfl := Option.some.inj h
  exact g_iret d_Ev_number_142 rfl
theorem ct_Ev_number {l : Launch} {ε : gEnv} (e : Nat) (hE : gEv ε e) (M : gMem) (a0 : Int32) (r : Int32) (h : f_Ev_number e M a0 = some r) : gCt l ε k_Ev_number 1 21 [.ref (ε.2.2.1 e 0), .int a0] M (some (.int r)) M :=
  gCt_of (by decide) (Nat.le_of_ble_eq_true rfl) rfl (t_Ev_number e hE M a0 r h)
abbrev k_Ev_truth : gMD := (⟨"DropSignals$Evening", "truth", "(II)I"⟩, prog_4_method_6_code, 4, (some .int))
theorem w_661 : Cond.instanceMethod ⟨"DropSignals$Evening", "truth", "(II)I"⟩ ∈ gWs := gWs_in (i := 661) (by decide +kernel) rfl
theorem w_662 : Cond.selects "DropSignals$Evening" ⟨"DropSignals$Evening", "truth", "(II)I"⟩ ⟨"DropSignals$Evening", "truth", "(II)I"⟩ ∈ gWs := gWs_in (i := 662) (by decide +kernel) rfl
set_option maxRecDepth 100000 in
theorem ca_Ev_truth : gCaV k_Ev_truth 2 := ⟨⟨gWs_in (i := 663) rfl rfl, w_21, by decide, by decide, by decide +kernel⟩, w_661, w_662⟩
theorem d_Ev_truth_0 : decode prog_4_method_6_code 0 = .ok (.aload_n 0, 1) := by decide +kernel
theorem d_Ev_truth_1 : decode prog_4_method_6_code 1 = .ok (.getfield 21, 3) := by decide +kernel
theorem d_Ev_truth_4 : decode prog_4_method_6_code 4 = .ok (.iload_n 1, 1) := by decide +kernel
theorem d_Ev_truth_5 : decode prog_4_method_6_code 5 = .ok (.iload_n 2, 1) := by decide +kernel
theorem d_Ev_truth_6 : decode prog_4_method_6_code 6 = .ok (.invokevirtual 92, 3) := by decide +kernel
theorem d_Ev_truth_9 : decode prog_4_method_6_code 9 = .ok (.istore_n 3, 1) := by decide +kernel
theorem d_Ev_truth_10 : decode prog_4_method_6_code 10 = .ok (.iload_n 3, 1) := by decide +kernel
theorem d_Ev_truth_11 : decode prog_4_method_6_code 11 = .ok (.ifCond .ne 5, 3) := by decide +kernel
theorem d_Ev_truth_14 : decode prog_4_method_6_code 14 = .ok (.iconst (-1), 1) := by decide +kernel
theorem d_Ev_truth_15 : decode prog_4_method_6_code 15 = .ok (.ireturn, 1) := by decide +kernel
theorem d_Ev_truth_16 : decode prog_4_method_6_code 16 = .ok (.iload_n 3, 1) := by decide +kernel
theorem d_Ev_truth_17 : decode prog_4_method_6_code 17 = .ok (.aload_n 0, 1) := by decide +kernel
theorem d_Ev_truth_18 : decode prog_4_method_6_code 18 = .ok (.getfield 12, 3) := by decide +kernel
theorem d_Ev_truth_21 : decode prog_4_method_6_code 21 = .ok (.iload_n 1, 1) := by decide +kernel
theorem d_Ev_truth_22 : decode prog_4_method_6_code 22 = .ok (.iload_n 2, 1) := by decide +kernel
theorem d_Ev_truth_23 : decode prog_4_method_6_code 23 = .ok (.invokevirtual 96, 3) := by decide +kernel
theorem d_Ev_truth_26 : decode prog_4_method_6_code 26 = .ok (.invokestatic 99, 3) := by decide +kernel
theorem d_Ev_truth_29 : decode prog_4_method_6_code 29 = .ok (.if_icmp .ne 7, 3) := by decide +kernel
theorem d_Ev_truth_32 : decode prog_4_method_6_code 32 = .ok (.iconst 1, 1) := by decide +kernel
theorem d_Ev_truth_33 : decode prog_4_method_6_code 33 = .ok (.goto 4, 3) := by decide +kernel
theorem d_Ev_truth_36 : decode prog_4_method_6_code 36 = .ok (.iconst 0, 1) := by decide +kernel
theorem d_Ev_truth_37 : decode prog_4_method_6_code 37 = .ok (.ireturn, 1) := by decide +kernel
theorem w_664 : Cond.methodLink "DropSignals$Evening" 92 ⟨"DropSignals$Drops", "signal", "(II)I"⟩ ∈ gWs := gWs_in (i := 664) (by decide +kernel) rfl
theorem w_533 : Cond.methodLink "DropSignals$Evening" 96 ⟨"DropSignals$Cards", "dealt", "(II)I"⟩ ∈ gWs := gWs_in (i := 533) (by decide +kernel) rfl
theorem w_541 : Cond.methodLink "DropSignals$Evening" 99 ⟨"DropSignals$Drops", "truthFor", "(I)I"⟩ ∈ gWs := gWs_in (i := 541) (by decide +kernel) rfl
noncomputable def f_Ev_truth (e : Nat) (M : gMem) (a0 : Int32) (a1 : Int32) : Option Int32 :=
  (f_Drops_signal e M a0 a1).bind fun q1 =>
  if q1 = 0 then
    some (-1)
  else
    (f_Cards_dealt e M a0 a1).bind fun q2 =>
    (f_Drops_truthFor q2).bind fun q3 =>
    if q1 = q3 then
      some 1
    else
      some 0
theorem t_Ev_truth {l : Launch} {ε : gEnv} (e : Nat) (hE : gEv ε e) (M : gMem) (a0 : Int32) (a1 : Int32) (r : Int32) (h : f_Ev_truth e M a0 a1 = some r) : gGo l ε k_Ev_truth (gR 2 45) (gFn ε (some (.int r)) M) 0 [(0, .ref (ε.2.2.1 e 0)), (1, .int a0), (2, .int a1)] [] M := by
  unfold f_Ev_truth at h
  refine g_aload_n d_Ev_truth_0 rfl 0 rfl ?_
  refine g_getR d_Ev_truth_1 fl_Ev_21 (gEv_h0 hE) rfl ?_
  refine g_iload_n d_Ev_truth_4 rfl 1 rfl ?_
  refine g_iload_n d_Ev_truth_5 rfl 2 rfl ?_
  obtain ⟨q1, hq1, h⟩ := gOb h
  refine g_callV_i (As := [.int a0, .int a1]) (rest := []) (ct_Drops_signal e (gEv_dr hE) M a0 a1 _ hq1) d_Ev_truth_6 ca_Drops_signal w_664 (gEv_h2 hE) rfl rfl rfl (Nat.le_of_ble_eq_true rfl) ⟨(Nat.le_of_ble_eq_true rfl), (Nat.le_of_ble_eq_true rfl)⟩ ?_
  refine g_istore_n (L' := [(3, .int q1), (0, .ref (ε.2.2.1 e 0)), (1, .int a0), (2, .int a1)]) d_Ev_truth_9 rfl (by decide) rfl ?_
  refine g_iload_n d_Ev_truth_10 rfl 0 rfl ?_
  refine g_if_ne (tgt := 16) d_Ev_truth_11 (by decide) (fun c5 => ?_) (fun c5 => ?_)
  · rw [if_neg c5] at h
    refine g_iload_n d_Ev_truth_16 rfl 0 rfl ?_
    refine g_aload_n d_Ev_truth_17 rfl 1 rfl ?_
    refine g_getR d_Ev_truth_18 fl_Ev_12 (gEv_h0 hE) rfl ?_
    refine g_iload_n d_Ev_truth_21 rfl 2 rfl ?_
    refine g_iload_n d_Ev_truth_22 rfl 3 rfl ?_
    obtain ⟨q2, hq2, h⟩ := gOb h
    refine g_callV_i (As := [.int a0, .int a1]) (rest := [.int q1]) (ct_Cards_dealt e (gEv_cd hE) M a0 a1 _ hq2) d_Ev_truth_23 ca_Cards_dealt w_533 (gEv_h1 hE) rfl rfl rfl (Nat.le_of_ble_eq_true rfl) ⟨(Nat.le_of_ble_eq_true rfl), (Nat.le_of_ble_eq_true rfl)⟩ ?_
    obtain ⟨q3, hq3, h⟩ := gOb h
    refine g_callS_i (As := [.int q2]) (rest := [.int q1]) (ct_Drops_truthFor M q2 _ hq3) d_Ev_truth_26 ca_Drops_truthFor w_541 rfl rfl (Nat.le_of_ble_eq_true rfl) ⟨(Nat.le_of_ble_eq_true rfl), (Nat.le_of_ble_eq_true rfl)⟩ ?_
    refine g_icmp_ne (tgt := 36) d_Ev_truth_29 (by decide) (fun c4 => ?_) (fun c4 => ?_)
    · rw [if_neg c4] at h
      refine g_iconst (v := 0) d_Ev_truth_36 (by decide) ?_
      obtain rfl := Option.some.inj h
      exact g_iret d_Ev_truth_37 rfl
    · rw [if_pos c4] at h
      refine g_iconst (v := 1) d_Ev_truth_32 (by decide) ?_
      refine g_goto (tgt := 37) d_Ev_truth_33 (by decide) ?_
      obtain rfl := Option.some.inj h
      exact g_iret d_Ev_truth_37 rfl
  · rw [if_pos c5] at h
    refine g_iconst (v := -1) d_Ev_truth_14 (by decide) ?_
    obtain rfl := Option.some.inj h
    exact g_iret d_Ev_truth_15 rfl
theorem ct_Ev_truth {l : Launch} {ε : gEnv} (e : Nat) (hE : gEv ε e) (M : gMem) (a0 : Int32) (a1 : Int32) (r : Int32) (h : f_Ev_truth e M a0 a1 = some r) : gCt l ε k_Ev_truth 2 45 [.ref (ε.2.2.1 e 0), .int a0, .int a1] M (some (.int r)) M :=
  gCt_of (by decide) (Nat.le_of_ble_eq_true rfl) rfl (t_Ev_truth e hE M a0 a1 r h)
abbrev k_Ev_dealWith : gMD := (⟨"DropSignals$Evening", "dealWith", "(J)V"⟩, prog_4_method_7_code, 3, none)
theorem w_434 : Cond.instanceMethod ⟨"DropSignals$Evening", "dealWith", "(J)V"⟩ ∈ gWs := gWs_in (i := 434) (by decide +kernel) rfl
theorem w_435 : Cond.selects "DropSignals$Evening" ⟨"DropSignals$Evening", "dealWith", "(J)V"⟩ ⟨"DropSignals$Evening", "dealWith", "(J)V"⟩ ∈ gWs := gWs_in (i := 435) (by decide +kernel) rfl
set_option maxRecDepth 100000 in
theorem ca_Ev_dealWith : gCaV k_Ev_dealWith 1 := ⟨⟨gWs_in (i := 436) rfl rfl, w_21, by decide, by decide, by decide +kernel⟩, w_434, w_435⟩
theorem d_Ev_dealWith_0 : decode prog_4_method_7_code 0 = .ok (.aload_n 0, 1) := by decide +kernel
theorem d_Ev_dealWith_1 : decode prog_4_method_7_code 1 = .ok (.invokevirtual 36, 3) := by decide +kernel
theorem d_Ev_dealWith_4 : decode prog_4_method_7_code 4 = .ok (.aload_n 0, 1) := by decide +kernel
theorem d_Ev_dealWith_5 : decode prog_4_method_7_code 5 = .ok (.getfield 12, 3) := by decide +kernel
theorem d_Ev_dealWith_8 : decode prog_4_method_7_code 8 = .ok (.lload_n 1, 1) := by decide +kernel
theorem d_Ev_dealWith_9 : decode prog_4_method_7_code 9 = .ok (.invokevirtual 103, 3) := by decide +kernel
theorem d_Ev_dealWith_12 : decode prog_4_method_7_code 12 = .ok (.aload_n 0, 1) := by decide +kernel
theorem d_Ev_dealWith_13 : decode prog_4_method_7_code 13 = .ok (.iconst 1, 1) := by decide +kernel
theorem d_Ev_dealWith_14 : decode prog_4_method_7_code 14 = .ok (.putfield 49, 3) := by decide +kernel
theorem d_Ev_dealWith_17 : decode prog_4_method_7_code 17 = .ok (.aload_n 0, 1) := by decide +kernel
theorem d_Ev_dealWith_18 : decode prog_4_method_7_code 18 = .ok (.aload_n 0, 1) := by decide +kernel
theorem d_Ev_dealWith_19 : decode prog_4_method_7_code 19 = .ok (.getfield 45, 3) := by decide +kernel
theorem d_Ev_dealWith_22 : decode prog_4_method_7_code 22 = .ok (.iconst 4, 1) := by decide +kernel
theorem d_Ev_dealWith_23 : decode prog_4_method_7_code 23 = .ok (.irem, 1) := by decide +kernel
theorem d_Ev_dealWith_24 : decode prog_4_method_7_code 24 = .ok (.putfield 52, 3) := by decide +kernel
theorem d_Ev_dealWith_27 : decode prog_4_method_7_code 27 = .ok (.aload_n 0, 1) := by decide +kernel
theorem d_Ev_dealWith_28 : decode prog_4_method_7_code 28 = .ok (.dup, 1) := by decide +kernel
theorem d_Ev_dealWith_29 : decode prog_4_method_7_code 29 = .ok (.getfield 45, 3) := by decide +kernel
theorem d_Ev_dealWith_32 : decode prog_4_method_7_code 32 = .ok (.iconst 1, 1) := by decide +kernel
theorem d_Ev_dealWith_33 : decode prog_4_method_7_code 33 = .ok (.iadd, 1) := by decide +kernel
theorem d_Ev_dealWith_34 : decode prog_4_method_7_code 34 = .ok (.putfield 45, 3) := by decide +kernel
theorem d_Ev_dealWith_37 : decode prog_4_method_7_code 37 = .ok (.return_, 1) := by decide +kernel
theorem w_437 : Cond.methodLink "DropSignals$Evening" 103 ⟨"DropSignals$Cards", "shuffle", "(J)V"⟩ ∈ gWs := gWs_in (i := 437) (by decide +kernel) rfl
noncomputable def f_Ev_dealWith (e : Nat) (M : gMem) (a0 : Int64) : Option gMem :=
  (f_Ev_clearDeal e M).bind fun q1 =>
  (f_Cards_shuffle e q1 a0).bind fun q2 =>
  (gSO q2 e 0 5 1).bind fun M3 =>
  (gSO M3 e 0 6 (gRem (M3 e 0 4) 4)).bind fun M4 =>
  (gSO M4 e 0 4 ((M4 e 0 4) + 1)).bind fun M5 =>
  some M5
theorem t_Ev_dealWith {l : Launch} {ε : gEnv} (e : Nat) (hE : gEv ε e) (M : gMem) (a0 : Int64) (r : gMem) (h : f_Ev_dealWith e M a0 = some r) : gGo l ε k_Ev_dealWith (gR 3 63) (gFn ε none r) 0 [(0, .ref (ε.2.2.1 e 0)), (1, .long a0)] [] M := by
  unfold f_Ev_dealWith at h
  refine g_aload_n d_Ev_dealWith_0 rfl 0 rfl ?_
  obtain ⟨q1, hq1, h⟩ := gOb h
  refine g_callV_v (As := []) (rest := []) (ct_Ev_clearDeal e hE M _ hq1) d_Ev_dealWith_1 ca_Ev_clearDeal w_110 (gEv_h0 hE) rfl rfl rfl (Nat.le_of_ble_eq_true rfl) ⟨(Nat.le_of_ble_eq_true rfl), (Nat.le_of_ble_eq_true rfl)⟩ ?_
  refine g_aload_n d_Ev_dealWith_4 rfl 0 rfl ?_
  refine g_getR d_Ev_dealWith_5 fl_Ev_12 (gEv_h0 hE) rfl ?_
  refine g_lload_n d_Ev_dealWith_8 rfl 1 rfl ?_
  obtain ⟨q2, hq2, h⟩ := gOb h
  refine g_callV_v (As := [.long a0]) (rest := []) (ct_Cards_shuffle e (gEv_cd hE) q1 a0 _ hq2) d_Ev_dealWith_9 ca_Cards_shuffle w_437 (gEv_h1 hE) rfl rfl rfl (Nat.le_of_ble_eq_true rfl) ⟨(Nat.le_of_ble_eq_true rfl), (Nat.le_of_ble_eq_true rfl)⟩ ?_
  refine g_aload_n d_Ev_dealWith_12 rfl 0 rfl ?_
  refine g_iconst (v := 1) d_Ev_dealWith_13 (by decide) ?_
  obtain ⟨M3, hM3, h⟩ := gOb h
  refine g_putO d_Ev_dealWith_14 fp_Ev_49 (gEv_h0 hE) rfl hM3 ?_
  refine g_aload_n d_Ev_dealWith_17 rfl 0 rfl ?_
  refine g_aload_n d_Ev_dealWith_18 rfl 0 rfl ?_
  refine g_getI d_Ev_dealWith_19 fl_Ev_45 (gEv_h0 hE) rfl ?_
  refine g_iconst (v := 4) d_Ev_dealWith_22 (by decide) ?_
  refine g_rem d_Ev_dealWith_23 (by decide) ?_
  obtain ⟨M4, hM4, h⟩ := gOb h
  refine g_putO d_Ev_dealWith_24 fp_Ev_52 (gEv_h0 hE) rfl hM4 ?_
  refine g_aload_n d_Ev_dealWith_27 rfl 0 rfl ?_
  refine g_dup d_Ev_dealWith_28 rfl ?_
  refine g_getI d_Ev_dealWith_29 fl_Ev_45 (gEv_h0 hE) rfl ?_
  refine g_iconst (v := 1) d_Ev_dealWith_32 (by decide) ?_
  refine g_iadd d_Ev_dealWith_33 ?_
  obtain ⟨M5, hM5, h⟩ := gOb h
  refine g_putO d_Ev_dealWith_34 fp_Ev_45 (gEv_h0 hE) rfl hM5 ?_
  obtain rfl := Option.some.inj h
  exact g_vret d_Ev_dealWith_37 rfl
theorem ct_Ev_dealWith {l : Launch} {ε : gEnv} (e : Nat) (hE : gEv ε e) (M : gMem) (a0 : Int64) (r : gMem) (h : f_Ev_dealWith e M a0 = some r) : gCt l ε k_Ev_dealWith 3 63 [.ref (ε.2.2.1 e 0), .long a0] M none r :=
  gCt_of (by decide) (Nat.le_of_ble_eq_true rfl) rfl (t_Ev_dealWith e hE M a0 r h)
abbrev k_Ev_mayBid : gMD := (⟨"DropSignals$Evening", "mayBid", "(II)Z"⟩, prog_4_method_8_code, 3, (some .boolean))
theorem w_455 : Cond.instanceMethod ⟨"DropSignals$Evening", "mayBid", "(II)Z"⟩ ∈ gWs := gWs_in (i := 455) (by decide +kernel) rfl
theorem w_456 : Cond.selects "DropSignals$Evening" ⟨"DropSignals$Evening", "mayBid", "(II)Z"⟩ ⟨"DropSignals$Evening", "mayBid", "(II)Z"⟩ ∈ gWs := gWs_in (i := 456) (by decide +kernel) rfl
set_option maxRecDepth 100000 in
theorem ca_Ev_mayBid : gCaV k_Ev_mayBid 2 := ⟨⟨gWs_in (i := 457) rfl rfl, w_21, by decide, by decide, by decide +kernel⟩, w_455, w_456⟩
theorem d_Ev_mayBid_0 : decode prog_4_method_8_code 0 = .ok (.aload_n 0, 1) := by decide +kernel
theorem d_Ev_mayBid_1 : decode prog_4_method_8_code 1 = .ok (.getfield 49, 3) := by decide +kernel
theorem d_Ev_mayBid_4 : decode prog_4_method_8_code 4 = .ok (.iconst 1, 1) := by decide +kernel
theorem d_Ev_mayBid_5 : decode prog_4_method_8_code 5 = .ok (.if_icmp .ne 34, 3) := by decide +kernel
theorem d_Ev_mayBid_8 : decode prog_4_method_8_code 8 = .ok (.iload_n 1, 1) := by decide +kernel
theorem d_Ev_mayBid_9 : decode prog_4_method_8_code 9 = .ok (.iload_n 2, 1) := by decide +kernel
theorem d_Ev_mayBid_10 : decode prog_4_method_8_code 10 = .ok (.invokestatic 107, 3) := by decide +kernel
theorem d_Ev_mayBid_13 : decode prog_4_method_8_code 13 = .ok (.ifCond .eq 26, 3) := by decide +kernel
theorem d_Ev_mayBid_16 : decode prog_4_method_8_code 16 = .ok (.iconst 5, 1) := by decide +kernel
theorem d_Ev_mayBid_17 : decode prog_4_method_8_code 17 = .ok (.iload_n 1, 1) := by decide +kernel
theorem d_Ev_mayBid_18 : decode prog_4_method_8_code 18 = .ok (.imul, 1) := by decide +kernel
theorem d_Ev_mayBid_19 : decode prog_4_method_8_code 19 = .ok (.iload_n 2, 1) := by decide +kernel
theorem d_Ev_mayBid_20 : decode prog_4_method_8_code 20 = .ok (.iadd, 1) := by decide +kernel
theorem d_Ev_mayBid_21 : decode prog_4_method_8_code 21 = .ok (.iconst 5, 1) := by decide +kernel
theorem d_Ev_mayBid_22 : decode prog_4_method_8_code 22 = .ok (.aload_n 0, 1) := by decide +kernel
theorem d_Ev_mayBid_23 : decode prog_4_method_8_code 23 = .ok (.getfield 65, 3) := by decide +kernel
theorem d_Ev_mayBid_26 : decode prog_4_method_8_code 26 = .ok (.imul, 1) := by decide +kernel
theorem d_Ev_mayBid_27 : decode prog_4_method_8_code 27 = .ok (.aload_n 0, 1) := by decide +kernel
theorem d_Ev_mayBid_28 : decode prog_4_method_8_code 28 = .ok (.getfield 68, 3) := by decide +kernel
theorem d_Ev_mayBid_31 : decode prog_4_method_8_code 31 = .ok (.iadd, 1) := by decide +kernel
theorem d_Ev_mayBid_32 : decode prog_4_method_8_code 32 = .ok (.if_icmp .le 7, 3) := by decide +kernel
theorem d_Ev_mayBid_35 : decode prog_4_method_8_code 35 = .ok (.iconst 1, 1) := by decide +kernel
theorem d_Ev_mayBid_36 : decode prog_4_method_8_code 36 = .ok (.goto 4, 3) := by decide +kernel
theorem d_Ev_mayBid_39 : decode prog_4_method_8_code 39 = .ok (.iconst 0, 1) := by decide +kernel
theorem d_Ev_mayBid_40 : decode prog_4_method_8_code 40 = .ok (.ireturn, 1) := by decide +kernel
noncomputable def f_Ev_mayBid (e : Nat) (M : gMem) (a0 : Int32) (a1 : Int32) : Option Int32 :=
  if (M e 0 5) = 1 then
    (f_DS_isBid a0 a1).bind fun q1 =>
    if q1 = 0 then
      some 0
    else
      if ((5 * a0) + a1) ≤ ((5 * (M e 0 7)) + (M e 0 8)) then
        some 0
      else
        some 1
  else
    some 0
theorem t_Ev_mayBid {l : Launch} {ε : gEnv} (e : Nat) (hE : gEv ε e) (M : gMem) (a0 : Int32) (a1 : Int32) (r : Int32) (h : f_Ev_mayBid e M a0 a1 = some r) : gGo l ε k_Ev_mayBid (gR 1 21) (gFn ε (some (.int r)) M) 0 [(0, .ref (ε.2.2.1 e 0)), (1, .int a0), (2, .int a1)] [] M := by
  unfold f_Ev_mayBid at h
  refine g_aload_n d_Ev_mayBid_0 rfl 0 rfl ?_
  refine g_getI d_Ev_mayBid_1 fl_Ev_49 (gEv_h0 hE) rfl ?_
  refine g_iconst (v := 1) d_Ev_mayBid_4 (by decide) ?_
  refine g_icmp_ne (tgt := 39) d_Ev_mayBid_5 (by decide) (fun c4 => ?_) (fun c4 => ?_)
  · rw [if_neg c4] at h
    refine g_iconst (v := 0) d_Ev_mayBid_39 (by decide) ?_
    obtain rfl := Option.some.inj h
    exact g_zret d_Ev_mayBid_40 rfl gZ0
  · rw [if_pos c4] at h
    refine g_iload_n d_Ev_mayBid_8 rfl 1 rfl ?_
    refine g_iload_n d_Ev_mayBid_9 rfl 2 rfl ?_
    obtain ⟨q1, hq1, h⟩ := gOb h
    refine g_callN_i (As := [.int a0, .int a1]) (rest := []) (j := 458) (host := "DropSignals") (ct_DS_isBid M a0 a1 _ hq1) d_Ev_mayBid_10 ca_DS_isBid (by decide +kernel) rfl rfl (Nat.le_of_ble_eq_true rfl) ⟨(Nat.le_of_ble_eq_true rfl), (Nat.le_of_ble_eq_true rfl)⟩ ?_
    refine g_if_eq (tgt := 39) d_Ev_mayBid_13 (by decide) (fun c3 => ?_) (fun c3 => ?_)
    · rw [if_pos c3] at h
      refine g_iconst (v := 0) d_Ev_mayBid_39 (by decide) ?_
      obtain rfl := Option.some.inj h
      exact g_zret d_Ev_mayBid_40 rfl gZ0
    · rw [if_neg c3] at h
      refine g_iconst (v := 5) d_Ev_mayBid_16 (by decide) ?_
      refine g_iload_n d_Ev_mayBid_17 rfl 1 rfl ?_
      refine g_imul d_Ev_mayBid_18 ?_
      refine g_iload_n d_Ev_mayBid_19 rfl 2 rfl ?_
      refine g_iadd d_Ev_mayBid_20 ?_
      refine g_iconst (v := 5) d_Ev_mayBid_21 (by decide) ?_
      refine g_aload_n d_Ev_mayBid_22 rfl 0 rfl ?_
      refine g_getI d_Ev_mayBid_23 fl_Ev_65 (gEv_h0 hE) rfl ?_
      refine g_imul d_Ev_mayBid_26 ?_
      refine g_aload_n d_Ev_mayBid_27 rfl 0 rfl ?_
      refine g_getI d_Ev_mayBid_28 fl_Ev_68 (gEv_h0 hE) rfl ?_
      refine g_iadd d_Ev_mayBid_31 ?_
      refine g_icmp_le (tgt := 39) d_Ev_mayBid_32 (by decide) (fun c2 => ?_) (fun c2 => ?_)
      · rw [if_pos c2] at h
        refine g_iconst (v := 0) d_Ev_mayBid_39 (by decide) ?_
        obtain rfl := Option.some.inj h
        exact g_zret d_Ev_mayBid_40 rfl gZ0
      · rw [if_neg c2] at h
        refine g_iconst (v := 1) d_Ev_mayBid_35 (by decide) ?_
        refine g_goto (tgt := 40) d_Ev_mayBid_36 (by decide) ?_
        obtain rfl := Option.some.inj h
        exact g_zret d_Ev_mayBid_40 rfl gZ1
theorem ct_Ev_mayBid {l : Launch} {ε : gEnv} (e : Nat) (hE : gEv ε e) (M : gMem) (a0 : Int32) (a1 : Int32) (r : Int32) (h : f_Ev_mayBid e M a0 a1 = some r) : gCt l ε k_Ev_mayBid 1 21 [.ref (ε.2.2.1 e 0), .int a0, .int a1] M (some (.int r)) M :=
  gCt_of (by decide) (Nat.le_of_ble_eq_true rfl) rfl (t_Ev_mayBid e hE M a0 a1 r h)
abbrev k_Ev_makeBid : gMD := (⟨"DropSignals$Evening", "makeBid", "(II)V"⟩, prog_4_method_9_code, 3, none)
theorem w_462 : Cond.instanceMethod ⟨"DropSignals$Evening", "makeBid", "(II)V"⟩ ∈ gWs := gWs_in (i := 462) (by decide +kernel) rfl
theorem w_463 : Cond.selects "DropSignals$Evening" ⟨"DropSignals$Evening", "makeBid", "(II)V"⟩ ⟨"DropSignals$Evening", "makeBid", "(II)V"⟩ ∈ gWs := gWs_in (i := 463) (by decide +kernel) rfl
set_option maxRecDepth 100000 in
theorem ca_Ev_makeBid : gCaV k_Ev_makeBid 2 := ⟨⟨gWs_in (i := 464) rfl rfl, w_21, by decide, by decide, by decide +kernel⟩, w_462, w_463⟩
theorem d_Ev_makeBid_0 : decode prog_4_method_9_code 0 = .ok (.aload_n 0, 1) := by decide +kernel
theorem d_Ev_makeBid_1 : decode prog_4_method_9_code 1 = .ok (.iload_n 1, 1) := by decide +kernel
theorem d_Ev_makeBid_2 : decode prog_4_method_9_code 2 = .ok (.putfield 65, 3) := by decide +kernel
theorem d_Ev_makeBid_5 : decode prog_4_method_9_code 5 = .ok (.aload_n 0, 1) := by decide +kernel
theorem d_Ev_makeBid_6 : decode prog_4_method_9_code 6 = .ok (.iload_n 2, 1) := by decide +kernel
theorem d_Ev_makeBid_7 : decode prog_4_method_9_code 7 = .ok (.putfield 68, 3) := by decide +kernel
theorem d_Ev_makeBid_10 : decode prog_4_method_9_code 10 = .ok (.aload_n 0, 1) := by decide +kernel
theorem d_Ev_makeBid_11 : decode prog_4_method_9_code 11 = .ok (.aload_n 0, 1) := by decide +kernel
theorem d_Ev_makeBid_12 : decode prog_4_method_9_code 12 = .ok (.getfield 52, 3) := by decide +kernel
theorem d_Ev_makeBid_15 : decode prog_4_method_9_code 15 = .ok (.putfield 71, 3) := by decide +kernel
theorem d_Ev_makeBid_18 : decode prog_4_method_9_code 18 = .ok (.aload_n 0, 1) := by decide +kernel
theorem d_Ev_makeBid_19 : decode prog_4_method_9_code 19 = .ok (.iconst 0, 1) := by decide +kernel
theorem d_Ev_makeBid_20 : decode prog_4_method_9_code 20 = .ok (.putfield 74, 3) := by decide +kernel
theorem d_Ev_makeBid_23 : decode prog_4_method_9_code 23 = .ok (.aload_n 0, 1) := by decide +kernel
theorem d_Ev_makeBid_24 : decode prog_4_method_9_code 24 = .ok (.aload_n 0, 1) := by decide +kernel
theorem d_Ev_makeBid_25 : decode prog_4_method_9_code 25 = .ok (.getfield 52, 3) := by decide +kernel
theorem d_Ev_makeBid_28 : decode prog_4_method_9_code 28 = .ok (.invokestatic 111, 3) := by decide +kernel
theorem d_Ev_makeBid_31 : decode prog_4_method_9_code 31 = .ok (.putfield 52, 3) := by decide +kernel
theorem d_Ev_makeBid_34 : decode prog_4_method_9_code 34 = .ok (.return_, 1) := by decide +kernel
noncomputable def f_Ev_makeBid (e : Nat) (M : gMem) (a0 : Int32) (a1 : Int32) : Option gMem :=
  (gSO M e 0 7 a0).bind fun M1 =>
  (gSO M1 e 0 8 a1).bind fun M2 =>
  (gSO M2 e 0 9 (M2 e 0 6)).bind fun M3 =>
  (gSO M3 e 0 10 0).bind fun M4 =>
  (f_DS_nextPlayer (M4 e 0 6)).bind fun q5 =>
  (gSO M4 e 0 6 q5).bind fun M6 =>
  some M6
theorem t_Ev_makeBid {l : Launch} {ε : gEnv} (e : Nat) (hE : gEv ε e) (M : gMem) (a0 : Int32) (a1 : Int32) (r : gMem) (h : f_Ev_makeBid e M a0 a1 = some r) : gGo l ε k_Ev_makeBid (gR 1 20) (gFn ε none r) 0 [(0, .ref (ε.2.2.1 e 0)), (1, .int a0), (2, .int a1)] [] M := by
  unfold f_Ev_makeBid at h
  refine g_aload_n d_Ev_makeBid_0 rfl 0 rfl ?_
  refine g_iload_n d_Ev_makeBid_1 rfl 1 rfl ?_
  obtain ⟨M1, hM1, h⟩ := gOb h
  refine g_putO d_Ev_makeBid_2 fp_Ev_65 (gEv_h0 hE) rfl hM1 ?_
  refine g_aload_n d_Ev_makeBid_5 rfl 0 rfl ?_
  refine g_iload_n d_Ev_makeBid_6 rfl 2 rfl ?_
  obtain ⟨M2, hM2, h⟩ := gOb h
  refine g_putO d_Ev_makeBid_7 fp_Ev_68 (gEv_h0 hE) rfl hM2 ?_
  refine g_aload_n d_Ev_makeBid_10 rfl 0 rfl ?_
  refine g_aload_n d_Ev_makeBid_11 rfl 0 rfl ?_
  refine g_getI d_Ev_makeBid_12 fl_Ev_52 (gEv_h0 hE) rfl ?_
  obtain ⟨M3, hM3, h⟩ := gOb h
  refine g_putO d_Ev_makeBid_15 fp_Ev_71 (gEv_h0 hE) rfl hM3 ?_
  refine g_aload_n d_Ev_makeBid_18 rfl 0 rfl ?_
  refine g_iconst (v := 0) d_Ev_makeBid_19 (by decide) ?_
  obtain ⟨M4, hM4, h⟩ := gOb h
  refine g_putO d_Ev_makeBid_20 fp_Ev_74 (gEv_h0 hE) rfl hM4 ?_
  refine g_aload_n d_Ev_makeBid_23 rfl 0 rfl ?_
  refine g_aload_n d_Ev_makeBid_24 rfl 0 rfl ?_
  refine g_getI d_Ev_makeBid_25 fl_Ev_52 (gEv_h0 hE) rfl ?_
  obtain ⟨q5, hq5, h⟩ := gOb h
  refine g_callN_i (As := [.int (M4 e 0 6)]) (rest := [.ref (ε.2.2.1 e 0)]) (j := 465) (host := "DropSignals") (ct_DS_nextPlayer M4 (M4 e 0 6) _ hq5) d_Ev_makeBid_28 ca_DS_nextPlayer (by decide +kernel) rfl rfl (Nat.le_of_ble_eq_true rfl) ⟨(Nat.le_of_ble_eq_true rfl), (Nat.le_of_ble_eq_true rfl)⟩ ?_
  obtain ⟨M6, hM6, h⟩ := gOb h
  refine g_putO d_Ev_makeBid_31 fp_Ev_52 (gEv_h0 hE) rfl hM6 ?_
  obtain rfl := Option.some.inj h
  exact g_vret d_Ev_makeBid_34 rfl
theorem ct_Ev_makeBid {l : Launch} {ε : gEnv} (e : Nat) (hE : gEv ε e) (M : gMem) (a0 : Int32) (a1 : Int32) (r : gMem) (h : f_Ev_makeBid e M a0 a1 = some r) : gCt l ε k_Ev_makeBid 1 20 [.ref (ε.2.2.1 e 0), .int a0, .int a1] M none r :=
  gCt_of (by decide) (Nat.le_of_ble_eq_true rfl) rfl (t_Ev_makeBid e hE M a0 a1 r h)
abbrev k_Ev_makePass : gMD := (⟨"DropSignals$Evening", "makePass", "()V"⟩, prog_4_method_10_code, 1, none)
theorem w_472 : Cond.instanceMethod ⟨"DropSignals$Evening", "makePass", "()V"⟩ ∈ gWs := gWs_in (i := 472) (by decide +kernel) rfl
theorem w_473 : Cond.selects "DropSignals$Evening" ⟨"DropSignals$Evening", "makePass", "()V"⟩ ⟨"DropSignals$Evening", "makePass", "()V"⟩ ∈ gWs := gWs_in (i := 473) (by decide +kernel) rfl
set_option maxRecDepth 100000 in
theorem ca_Ev_makePass : gCaV k_Ev_makePass 0 := ⟨⟨gWs_in (i := 474) rfl rfl, w_21, by decide, by decide, by decide +kernel⟩, w_472, w_473⟩
theorem d_Ev_makePass_0 : decode prog_4_method_10_code 0 = .ok (.aload_n 0, 1) := by decide +kernel
theorem d_Ev_makePass_1 : decode prog_4_method_10_code 1 = .ok (.dup, 1) := by decide +kernel
theorem d_Ev_makePass_2 : decode prog_4_method_10_code 2 = .ok (.getfield 74, 3) := by decide +kernel
theorem d_Ev_makePass_5 : decode prog_4_method_10_code 5 = .ok (.iconst 1, 1) := by decide +kernel
theorem d_Ev_makePass_6 : decode prog_4_method_10_code 6 = .ok (.iadd, 1) := by decide +kernel
theorem d_Ev_makePass_7 : decode prog_4_method_10_code 7 = .ok (.putfield 74, 3) := by decide +kernel
theorem d_Ev_makePass_10 : decode prog_4_method_10_code 10 = .ok (.aload_n 0, 1) := by decide +kernel
theorem d_Ev_makePass_11 : decode prog_4_method_10_code 11 = .ok (.aload_n 0, 1) := by decide +kernel
theorem d_Ev_makePass_12 : decode prog_4_method_10_code 12 = .ok (.getfield 52, 3) := by decide +kernel
theorem d_Ev_makePass_15 : decode prog_4_method_10_code 15 = .ok (.invokestatic 111, 3) := by decide +kernel
theorem d_Ev_makePass_18 : decode prog_4_method_10_code 18 = .ok (.putfield 52, 3) := by decide +kernel
theorem d_Ev_makePass_21 : decode prog_4_method_10_code 21 = .ok (.aload_n 0, 1) := by decide +kernel
theorem d_Ev_makePass_22 : decode prog_4_method_10_code 22 = .ok (.getfield 71, 3) := by decide +kernel
theorem d_Ev_makePass_25 : decode prog_4_method_10_code 25 = .ok (.iconst (-1), 1) := by decide +kernel
theorem d_Ev_makePass_26 : decode prog_4_method_10_code 26 = .ok (.if_icmp .ne 24, 3) := by decide +kernel
theorem d_Ev_makePass_29 : decode prog_4_method_10_code 29 = .ok (.aload_n 0, 1) := by decide +kernel
theorem d_Ev_makePass_30 : decode prog_4_method_10_code 30 = .ok (.getfield 74, 3) := by decide +kernel
theorem d_Ev_makePass_33 : decode prog_4_method_10_code 33 = .ok (.iconst 4, 1) := by decide +kernel
theorem d_Ev_makePass_34 : decode prog_4_method_10_code 34 = .ok (.if_icmp .ne 16, 3) := by decide +kernel
theorem d_Ev_makePass_37 : decode prog_4_method_10_code 37 = .ok (.aload_n 0, 1) := by decide +kernel
theorem d_Ev_makePass_38 : decode prog_4_method_10_code 38 = .ok (.iconst 3, 1) := by decide +kernel
theorem d_Ev_makePass_39 : decode prog_4_method_10_code 39 = .ok (.putfield 49, 3) := by decide +kernel
theorem d_Ev_makePass_42 : decode prog_4_method_10_code 42 = .ok (.aload_n 0, 1) := by decide +kernel
theorem d_Ev_makePass_43 : decode prog_4_method_10_code 43 = .ok (.iconst (-1), 1) := by decide +kernel
theorem d_Ev_makePass_44 : decode prog_4_method_10_code 44 = .ok (.putfield 52, 3) := by decide +kernel
theorem d_Ev_makePass_47 : decode prog_4_method_10_code 47 = .ok (.goto 35, 3) := by decide +kernel
theorem d_Ev_makePass_50 : decode prog_4_method_10_code 50 = .ok (.aload_n 0, 1) := by decide +kernel
theorem d_Ev_makePass_51 : decode prog_4_method_10_code 51 = .ok (.getfield 71, 3) := by decide +kernel
theorem d_Ev_makePass_54 : decode prog_4_method_10_code 54 = .ok (.iconst (-1), 1) := by decide +kernel
theorem d_Ev_makePass_55 : decode prog_4_method_10_code 55 = .ok (.if_icmp .eq 27, 3) := by decide +kernel
theorem d_Ev_makePass_58 : decode prog_4_method_10_code 58 = .ok (.aload_n 0, 1) := by decide +kernel
theorem d_Ev_makePass_59 : decode prog_4_method_10_code 59 = .ok (.getfield 74, 3) := by decide +kernel
theorem d_Ev_makePass_62 : decode prog_4_method_10_code 62 = .ok (.iconst 3, 1) := by decide +kernel
theorem d_Ev_makePass_63 : decode prog_4_method_10_code 63 = .ok (.if_icmp .ne 19, 3) := by decide +kernel
theorem d_Ev_makePass_66 : decode prog_4_method_10_code 66 = .ok (.aload_n 0, 1) := by decide +kernel
theorem d_Ev_makePass_67 : decode prog_4_method_10_code 67 = .ok (.iconst 2, 1) := by decide +kernel
theorem d_Ev_makePass_68 : decode prog_4_method_10_code 68 = .ok (.putfield 49, 3) := by decide +kernel
theorem d_Ev_makePass_71 : decode prog_4_method_10_code 71 = .ok (.aload_n 0, 1) := by decide +kernel
theorem d_Ev_makePass_72 : decode prog_4_method_10_code 72 = .ok (.aload_n 0, 1) := by decide +kernel
theorem d_Ev_makePass_73 : decode prog_4_method_10_code 73 = .ok (.getfield 71, 3) := by decide +kernel
theorem d_Ev_makePass_76 : decode prog_4_method_10_code 76 = .ok (.invokestatic 111, 3) := by decide +kernel
theorem d_Ev_makePass_79 : decode prog_4_method_10_code 79 = .ok (.putfield 52, 3) := by decide +kernel
theorem d_Ev_makePass_82 : decode prog_4_method_10_code 82 = .ok (.return_, 1) := by decide +kernel
noncomputable def f_Ev_makePass_b50 (e : Nat) (M : gMem) : Option gMem :=
  if (M e 0 9) = (-1) then
    some M
  else
    if (M e 0 10) = 3 then
      (gSO M e 0 5 2).bind fun M4 =>
      (f_DS_nextPlayer (M4 e 0 9)).bind fun q5 =>
      (gSO M4 e 0 6 q5).bind fun M6 =>
      some M6
    else
      some M
theorem t_Ev_makePass_b50 {l : Launch} {ε : gEnv} (e : Nat) (hE : gEv ε e) (M : gMem) (r : gMem) (h : f_Ev_makePass_b50 e M = some r) : gGo l ε k_Ev_makePass (gR 1 20) (gFn ε none r) 50 [(0, .ref (ε.2.2.1 e 0))] [] M := by
  unfold f_Ev_makePass_b50 at h
  refine g_aload_n d_Ev_makePass_50 rfl 0 rfl ?_
  refine g_getI d_Ev_makePass_51 fl_Ev_71 (gEv_h0 hE) rfl ?_
  refine g_iconst (v := -1) d_Ev_makePass_54 (by decide) ?_
  refine g_icmp_eq (tgt := 82) d_Ev_makePass_55 (by decide) (fun c8 => ?_) (fun c8 => ?_)
  · rw [if_pos c8] at h
    obtain rfl := Option.some.inj h
    exact g_vret d_Ev_makePass_82 rfl
  · rw [if_neg c8] at h
    refine g_aload_n d_Ev_makePass_58 rfl 0 rfl ?_
    refine g_getI d_Ev_makePass_59 fl_Ev_74 (gEv_h0 hE) rfl ?_
    refine g_iconst (v := 3) d_Ev_makePass_62 (by decide) ?_
    refine g_icmp_ne (tgt := 82) d_Ev_makePass_63 (by decide) (fun c7 => ?_) (fun c7 => ?_)
    · rw [if_neg c7] at h
      obtain rfl := Option.some.inj h
      exact g_vret d_Ev_makePass_82 rfl
    · rw [if_pos c7] at h
      refine g_aload_n d_Ev_makePass_66 rfl 0 rfl ?_
      refine g_iconst (v := 2) d_Ev_makePass_67 (by decide) ?_
      obtain ⟨M4, hM4, h⟩ := gOb h
      refine g_putO d_Ev_makePass_68 fp_Ev_49 (gEv_h0 hE) rfl hM4 ?_
      refine g_aload_n d_Ev_makePass_71 rfl 0 rfl ?_
      refine g_aload_n d_Ev_makePass_72 rfl 0 rfl ?_
      refine g_getI d_Ev_makePass_73 fl_Ev_71 (gEv_h0 hE) rfl ?_
      obtain ⟨q5, hq5, h⟩ := gOb h
      refine g_callN_i (As := [.int (M4 e 0 9)]) (rest := [.ref (ε.2.2.1 e 0)]) (j := 465) (host := "DropSignals") (ct_DS_nextPlayer M4 (M4 e 0 9) _ hq5) d_Ev_makePass_76 ca_DS_nextPlayer (by decide +kernel) rfl rfl (Nat.le_of_ble_eq_true rfl) ⟨(Nat.le_of_ble_eq_true rfl), (Nat.le_of_ble_eq_true rfl)⟩ ?_
      obtain ⟨M6, hM6, h⟩ := gOb h
      refine g_putO d_Ev_makePass_79 fp_Ev_52 (gEv_h0 hE) rfl hM6 ?_
      obtain rfl := Option.some.inj h
      exact g_vret d_Ev_makePass_82 rfl
noncomputable def f_Ev_makePass (e : Nat) (M : gMem) : Option gMem :=
  (gSO M e 0 10 ((M e 0 10) + 1)).bind fun M1 =>
  (f_DS_nextPlayer (M1 e 0 6)).bind fun q2 =>
  (gSO M1 e 0 6 q2).bind fun M3 =>
  if (M3 e 0 9) = (-1) then
    if (M3 e 0 10) = 4 then
      (gSO M3 e 0 5 3).bind fun M9 =>
      (gSO M9 e 0 6 (-1)).bind fun M10 =>
      some M10
    else
      f_Ev_makePass_b50 e M3
  else
    f_Ev_makePass_b50 e M3
theorem t_Ev_makePass {l : Launch} {ε : gEnv} (e : Nat) (hE : gEv ε e) (M : gMem) (r : gMem) (h : f_Ev_makePass e M = some r) : gGo l ε k_Ev_makePass (gR 1 20) (gFn ε none r) 0 [(0, .ref (ε.2.2.1 e 0))] [] M := by
  unfold f_Ev_makePass at h
  refine g_aload_n d_Ev_makePass_0 rfl 0 rfl ?_
  refine g_dup d_Ev_makePass_1 rfl ?_
  refine g_getI d_Ev_makePass_2 fl_Ev_74 (gEv_h0 hE) rfl ?_
  refine g_iconst (v := 1) d_Ev_makePass_5 (by decide) ?_
  refine g_iadd d_Ev_makePass_6 ?_
  obtain ⟨M1, hM1, h⟩ := gOb h
  refine g_putO d_Ev_makePass_7 fp_Ev_74 (gEv_h0 hE) rfl hM1 ?_
  refine g_aload_n d_Ev_makePass_10 rfl 0 rfl ?_
  refine g_aload_n d_Ev_makePass_11 rfl 0 rfl ?_
  refine g_getI d_Ev_makePass_12 fl_Ev_52 (gEv_h0 hE) rfl ?_
  obtain ⟨q2, hq2, h⟩ := gOb h
  refine g_callN_i (As := [.int (M1 e 0 6)]) (rest := [.ref (ε.2.2.1 e 0)]) (j := 465) (host := "DropSignals") (ct_DS_nextPlayer M1 (M1 e 0 6) _ hq2) d_Ev_makePass_15 ca_DS_nextPlayer (by decide +kernel) rfl rfl (Nat.le_of_ble_eq_true rfl) ⟨(Nat.le_of_ble_eq_true rfl), (Nat.le_of_ble_eq_true rfl)⟩ ?_
  obtain ⟨M3, hM3, h⟩ := gOb h
  refine g_putO d_Ev_makePass_18 fp_Ev_52 (gEv_h0 hE) rfl hM3 ?_
  refine g_aload_n d_Ev_makePass_21 rfl 0 rfl ?_
  refine g_getI d_Ev_makePass_22 fl_Ev_71 (gEv_h0 hE) rfl ?_
  refine g_iconst (v := -1) d_Ev_makePass_25 (by decide) ?_
  refine g_icmp_ne (tgt := 50) d_Ev_makePass_26 (by decide) (fun c12 => ?_) (fun c12 => ?_)
  · rw [if_neg c12] at h
    exact t_Ev_makePass_b50 e hE M3 _ h
  · rw [if_pos c12] at h
    refine g_aload_n d_Ev_makePass_29 rfl 0 rfl ?_
    refine g_getI d_Ev_makePass_30 fl_Ev_74 (gEv_h0 hE) rfl ?_
    refine g_iconst (v := 4) d_Ev_makePass_33 (by decide) ?_
    refine g_icmp_ne (tgt := 50) d_Ev_makePass_34 (by decide) (fun c11 => ?_) (fun c11 => ?_)
    · rw [if_neg c11] at h
      exact t_Ev_makePass_b50 e hE M3 _ h
    · rw [if_pos c11] at h
      refine g_aload_n d_Ev_makePass_37 rfl 0 rfl ?_
      refine g_iconst (v := 3) d_Ev_makePass_38 (by decide) ?_
      obtain ⟨M9, hM9, h⟩ := gOb h
      refine g_putO d_Ev_makePass_39 fp_Ev_49 (gEv_h0 hE) rfl hM9 ?_
      refine g_aload_n d_Ev_makePass_42 rfl 0 rfl ?_
      refine g_iconst (v := -1) d_Ev_makePass_43 (by decide) ?_
      obtain ⟨M10, hM10, h⟩ := gOb h
      refine g_putO d_Ev_makePass_44 fp_Ev_52 (gEv_h0 hE) rfl hM10 ?_
      refine g_goto (tgt := 82) d_Ev_makePass_47 (by decide) ?_
      obtain rfl := Option.some.inj h
      exact g_vret d_Ev_makePass_82 rfl
theorem ct_Ev_makePass {l : Launch} {ε : gEnv} (e : Nat) (hE : gEv ε e) (M : gMem) (r : gMem) (h : f_Ev_makePass e M = some r) : gCt l ε k_Ev_makePass 1 20 [.ref (ε.2.2.1 e 0)] M none r :=
  gCt_of (by decide) (Nat.le_of_ble_eq_true rfl) rfl (t_Ev_makePass e hE M r h)
abbrev k_Ev_suitToFollow : gMD := (⟨"DropSignals$Evening", "suitToFollow", "()I"⟩, prog_4_method_11_code, 2, (some .int))
theorem w_488 : Cond.instanceMethod ⟨"DropSignals$Evening", "suitToFollow", "()I"⟩ ∈ gWs := gWs_in (i := 488) (by decide +kernel) rfl
theorem w_4 : Cond.selects "DropSignals$Evening" ⟨"DropSignals$Evening", "suitToFollow", "()I"⟩ ⟨"DropSignals$Evening", "suitToFollow", "()I"⟩ ∈ gWs := gWs_in (i := 4) (by decide +kernel) rfl
set_option maxRecDepth 100000 in
theorem ca_Ev_suitToFollow : gCaV k_Ev_suitToFollow 0 := ⟨⟨gWs_in (i := 489) rfl rfl, w_21, by decide, by decide, by decide +kernel⟩, w_488, w_4⟩
theorem d_Ev_suitToFollow_0 : decode prog_4_method_11_code 0 = .ok (.aload_n 0, 1) := by decide +kernel
theorem d_Ev_suitToFollow_1 : decode prog_4_method_11_code 1 = .ok (.getfield 12, 3) := by decide +kernel
theorem d_Ev_suitToFollow_4 : decode prog_4_method_11_code 4 = .ok (.invokevirtual 114, 3) := by decide +kernel
theorem d_Ev_suitToFollow_7 : decode prog_4_method_11_code 7 = .ok (.istore_n 1, 1) := by decide +kernel
theorem d_Ev_suitToFollow_8 : decode prog_4_method_11_code 8 = .ok (.iload_n 1, 1) := by decide +kernel
theorem d_Ev_suitToFollow_9 : decode prog_4_method_11_code 9 = .ok (.iconst (-1), 1) := by decide +kernel
theorem d_Ev_suitToFollow_10 : decode prog_4_method_11_code 10 = .ok (.if_icmp .eq 22, 3) := by decide +kernel
theorem d_Ev_suitToFollow_13 : decode prog_4_method_11_code 13 = .ok (.aload_n 0, 1) := by decide +kernel
theorem d_Ev_suitToFollow_14 : decode prog_4_method_11_code 14 = .ok (.getfield 12, 3) := by decide +kernel
theorem d_Ev_suitToFollow_17 : decode prog_4_method_11_code 17 = .ok (.aload_n 0, 1) := by decide +kernel
theorem d_Ev_suitToFollow_18 : decode prog_4_method_11_code 18 = .ok (.getfield 52, 3) := by decide +kernel
theorem d_Ev_suitToFollow_21 : decode prog_4_method_11_code 21 = .ok (.iload_n 1, 1) := by decide +kernel
theorem d_Ev_suitToFollow_22 : decode prog_4_method_11_code 22 = .ok (.invokevirtual 118, 3) := by decide +kernel
theorem d_Ev_suitToFollow_25 : decode prog_4_method_11_code 25 = .ok (.ifCond .le 7, 3) := by decide +kernel
theorem d_Ev_suitToFollow_28 : decode prog_4_method_11_code 28 = .ok (.iload_n 1, 1) := by decide +kernel
theorem d_Ev_suitToFollow_29 : decode prog_4_method_11_code 29 = .ok (.goto 4, 3) := by decide +kernel
theorem d_Ev_suitToFollow_32 : decode prog_4_method_11_code 32 = .ok (.iconst (-1), 1) := by decide +kernel
theorem d_Ev_suitToFollow_33 : decode prog_4_method_11_code 33 = .ok (.ireturn, 1) := by decide +kernel
theorem w_490 : Cond.methodLink "DropSignals$Evening" 114 ⟨"DropSignals$Cards", "ledSuit", "()I"⟩ ∈ gWs := gWs_in (i := 490) (by decide +kernel) rfl
theorem w_494 : Cond.methodLink "DropSignals$Evening" 118 ⟨"DropSignals$Cards", "held", "(II)I"⟩ ∈ gWs := gWs_in (i := 494) (by decide +kernel) rfl
noncomputable def f_Ev_suitToFollow (e : Nat) (M : gMem) : Option Int32 :=
  (f_Cards_ledSuit e M).bind fun q1 =>
  if q1 = (-1) then
    some (-1)
  else
    (f_Cards_held e M (M e 0 6) q1).bind fun q2 =>
    if q2 ≤ 0 then
      some (-1)
    else
      some q1
theorem t_Ev_suitToFollow {l : Launch} {ε : gEnv} (e : Nat) (hE : gEv ε e) (M : gMem) (r : Int32) (h : f_Ev_suitToFollow e M = some r) : gGo l ε k_Ev_suitToFollow (gR 2 45) (gFn ε (some (.int r)) M) 0 [(0, .ref (ε.2.2.1 e 0))] [] M := by
  unfold f_Ev_suitToFollow at h
  refine g_aload_n d_Ev_suitToFollow_0 rfl 0 rfl ?_
  refine g_getR d_Ev_suitToFollow_1 fl_Ev_12 (gEv_h0 hE) rfl ?_
  obtain ⟨q1, hq1, h⟩ := gOb h
  refine g_callV_i (As := []) (rest := []) (ct_Cards_ledSuit e (gEv_cd hE) M _ hq1) d_Ev_suitToFollow_4 ca_Cards_ledSuit w_490 (gEv_h1 hE) rfl rfl rfl (Nat.le_of_ble_eq_true rfl) ⟨(Nat.le_of_ble_eq_true rfl), (Nat.le_of_ble_eq_true rfl)⟩ ?_
  refine g_istore_n (L' := [(1, .int q1), (0, .ref (ε.2.2.1 e 0))]) d_Ev_suitToFollow_7 rfl (by decide) rfl ?_
  refine g_iload_n d_Ev_suitToFollow_8 rfl 0 rfl ?_
  refine g_iconst (v := -1) d_Ev_suitToFollow_9 (by decide) ?_
  refine g_icmp_eq (tgt := 32) d_Ev_suitToFollow_10 (by decide) (fun c4 => ?_) (fun c4 => ?_)
  · rw [if_pos c4] at h
    refine g_iconst (v := -1) d_Ev_suitToFollow_32 (by decide) ?_
    obtain rfl := Option.some.inj h
    exact g_iret d_Ev_suitToFollow_33 rfl
  · rw [if_neg c4] at h
    refine g_aload_n d_Ev_suitToFollow_13 rfl 1 rfl ?_
    refine g_getR d_Ev_suitToFollow_14 fl_Ev_12 (gEv_h0 hE) rfl ?_
    refine g_aload_n d_Ev_suitToFollow_17 rfl 1 rfl ?_
    refine g_getI d_Ev_suitToFollow_18 fl_Ev_52 (gEv_h0 hE) rfl ?_
    refine g_iload_n d_Ev_suitToFollow_21 rfl 0 rfl ?_
    obtain ⟨q2, hq2, h⟩ := gOb h
    refine g_callV_i (As := [.int (M e 0 6), .int q1]) (rest := []) (ct_Cards_held e (gEv_cd hE) M (M e 0 6) q1 _ hq2) d_Ev_suitToFollow_22 ca_Cards_held w_494 (gEv_h1 hE) rfl rfl rfl (Nat.le_of_ble_eq_true rfl) ⟨(Nat.le_of_ble_eq_true rfl), (Nat.le_of_ble_eq_true rfl)⟩ ?_
    refine g_if_le (tgt := 32) d_Ev_suitToFollow_25 (by decide) (fun c3 => ?_) (fun c3 => ?_)
    · rw [if_pos c3] at h
      refine g_iconst (v := -1) d_Ev_suitToFollow_32 (by decide) ?_
      obtain rfl := Option.some.inj h
      exact g_iret d_Ev_suitToFollow_33 rfl
    · rw [if_neg c3] at h
      refine g_iload_n d_Ev_suitToFollow_28 rfl 0 rfl ?_
      refine g_goto (tgt := 33) d_Ev_suitToFollow_29 (by decide) ?_
      obtain rfl := Option.some.inj h
      exact g_iret d_Ev_suitToFollow_33 rfl
theorem ct_Ev_suitToFollow {l : Launch} {ε : gEnv} (e : Nat) (hE : gEv ε e) (M : gMem) (r : Int32) (h : f_Ev_suitToFollow e M = some r) : gCt l ε k_Ev_suitToFollow 2 45 [.ref (ε.2.2.1 e 0)] M (some (.int r)) M :=
  gCt_of (by decide) (Nat.le_of_ble_eq_true rfl) rfl (t_Ev_suitToFollow e hE M r h)
abbrev k_Ev_reasonAgainst : gMD := (⟨"DropSignals$Evening", "reasonAgainst", "(I)I"⟩, prog_4_method_12_code, 3, (some .int))
theorem w_479 : Cond.instanceMethod ⟨"DropSignals$Evening", "reasonAgainst", "(I)I"⟩ ∈ gWs := gWs_in (i := 479) (by decide +kernel) rfl
theorem w_480 : Cond.selects "DropSignals$Evening" ⟨"DropSignals$Evening", "reasonAgainst", "(I)I"⟩ ⟨"DropSignals$Evening", "reasonAgainst", "(I)I"⟩ ∈ gWs := gWs_in (i := 480) (by decide +kernel) rfl
set_option maxRecDepth 100000 in
theorem ca_Ev_reasonAgainst : gCaV k_Ev_reasonAgainst 1 := ⟨⟨gWs_in (i := 481) rfl rfl, w_21, by decide, by decide, by decide +kernel⟩, w_479, w_480⟩
theorem d_Ev_reasonAgainst_0 : decode prog_4_method_12_code 0 = .ok (.aload_n 0, 1) := by decide +kernel
theorem d_Ev_reasonAgainst_1 : decode prog_4_method_12_code 1 = .ok (.getfield 12, 3) := by decide +kernel
theorem d_Ev_reasonAgainst_4 : decode prog_4_method_12_code 4 = .ok (.iload_n 1, 1) := by decide +kernel
theorem d_Ev_reasonAgainst_5 : decode prog_4_method_12_code 5 = .ok (.invokevirtual 121, 3) := by decide +kernel
theorem d_Ev_reasonAgainst_8 : decode prog_4_method_12_code 8 = .ok (.aload_n 0, 1) := by decide +kernel
theorem d_Ev_reasonAgainst_9 : decode prog_4_method_12_code 9 = .ok (.getfield 52, 3) := by decide +kernel
theorem d_Ev_reasonAgainst_12 : decode prog_4_method_12_code 12 = .ok (.if_icmp .eq 5, 3) := by decide +kernel
theorem d_Ev_reasonAgainst_15 : decode prog_4_method_12_code 15 = .ok (.iconst 1, 1) := by decide +kernel
theorem d_Ev_reasonAgainst_16 : decode prog_4_method_12_code 16 = .ok (.ireturn, 1) := by decide +kernel
theorem d_Ev_reasonAgainst_17 : decode prog_4_method_12_code 17 = .ok (.aload_n 0, 1) := by decide +kernel
theorem d_Ev_reasonAgainst_18 : decode prog_4_method_12_code 18 = .ok (.invokevirtual 124, 3) := by decide +kernel
theorem d_Ev_reasonAgainst_21 : decode prog_4_method_12_code 21 = .ok (.istore_n 2, 1) := by decide +kernel
theorem d_Ev_reasonAgainst_22 : decode prog_4_method_12_code 22 = .ok (.iload_n 2, 1) := by decide +kernel
theorem d_Ev_reasonAgainst_23 : decode prog_4_method_12_code 23 = .ok (.iconst (-1), 1) := by decide +kernel
theorem d_Ev_reasonAgainst_24 : decode prog_4_method_12_code 24 = .ok (.if_icmp .eq 15, 3) := by decide +kernel
theorem d_Ev_reasonAgainst_27 : decode prog_4_method_12_code 27 = .ok (.iload_n 1, 1) := by decide +kernel
theorem d_Ev_reasonAgainst_28 : decode prog_4_method_12_code 28 = .ok (.bipush 8, 2) := by decide +kernel
theorem d_Ev_reasonAgainst_30 : decode prog_4_method_12_code 30 = .ok (.idiv, 1) := by decide +kernel
theorem d_Ev_reasonAgainst_31 : decode prog_4_method_12_code 31 = .ok (.iload_n 2, 1) := by decide +kernel
theorem d_Ev_reasonAgainst_32 : decode prog_4_method_12_code 32 = .ok (.if_icmp .eq 7, 3) := by decide +kernel
theorem d_Ev_reasonAgainst_35 : decode prog_4_method_12_code 35 = .ok (.iconst 2, 1) := by decide +kernel
theorem d_Ev_reasonAgainst_36 : decode prog_4_method_12_code 36 = .ok (.goto 4, 3) := by decide +kernel
theorem d_Ev_reasonAgainst_39 : decode prog_4_method_12_code 39 = .ok (.iconst 0, 1) := by decide +kernel
theorem d_Ev_reasonAgainst_40 : decode prog_4_method_12_code 40 = .ok (.ireturn, 1) := by decide +kernel
theorem w_482 : Cond.methodLink "DropSignals$Evening" 121 ⟨"DropSignals$Cards", "holder", "(I)I"⟩ ∈ gWs := gWs_in (i := 482) (by decide +kernel) rfl
theorem w_486 : Cond.methodLink "DropSignals$Evening" 124 ⟨"DropSignals$Evening", "suitToFollow", "()I"⟩ ∈ gWs := gWs_in (i := 486) (by decide +kernel) rfl
noncomputable def f_Ev_reasonAgainst (e : Nat) (M : gMem) (a0 : Int32) : Option Int32 :=
  (f_Cards_holder e M a0).bind fun q1 =>
  if q1 = (M e 0 6) then
    (f_Ev_suitToFollow e M).bind fun q2 =>
    if q2 = (-1) then
      some 0
    else
      if (a0 / 8) = q2 then
        some 0
      else
        some 2
  else
    some 1
theorem t_Ev_reasonAgainst {l : Launch} {ε : gEnv} (e : Nat) (hE : gEv ε e) (M : gMem) (a0 : Int32) (r : Int32) (h : f_Ev_reasonAgainst e M a0 = some r) : gGo l ε k_Ev_reasonAgainst (gR 3 66) (gFn ε (some (.int r)) M) 0 [(0, .ref (ε.2.2.1 e 0)), (1, .int a0)] [] M := by
  unfold f_Ev_reasonAgainst at h
  refine g_aload_n d_Ev_reasonAgainst_0 rfl 0 rfl ?_
  refine g_getR d_Ev_reasonAgainst_1 fl_Ev_12 (gEv_h0 hE) rfl ?_
  refine g_iload_n d_Ev_reasonAgainst_4 rfl 1 rfl ?_
  obtain ⟨q1, hq1, h⟩ := gOb h
  refine g_callV_i (As := [.int a0]) (rest := []) (ct_Cards_holder e (gEv_cd hE) M a0 _ hq1) d_Ev_reasonAgainst_5 ca_Cards_holder w_482 (gEv_h1 hE) rfl rfl rfl (Nat.le_of_ble_eq_true rfl) ⟨(Nat.le_of_ble_eq_true rfl), (Nat.le_of_ble_eq_true rfl)⟩ ?_
  refine g_aload_n d_Ev_reasonAgainst_8 rfl 0 rfl ?_
  refine g_getI d_Ev_reasonAgainst_9 fl_Ev_52 (gEv_h0 hE) rfl ?_
  refine g_icmp_eq (tgt := 17) d_Ev_reasonAgainst_12 (by decide) (fun c5 => ?_) (fun c5 => ?_)
  · rw [if_pos c5] at h
    refine g_aload_n d_Ev_reasonAgainst_17 rfl 0 rfl ?_
    obtain ⟨q2, hq2, h⟩ := gOb h
    refine g_callV_i (As := []) (rest := []) (ct_Ev_suitToFollow e hE M _ hq2) d_Ev_reasonAgainst_18 ca_Ev_suitToFollow w_486 (gEv_h0 hE) rfl rfl rfl (Nat.le_of_ble_eq_true rfl) ⟨(Nat.le_of_ble_eq_true rfl), (Nat.le_of_ble_eq_true rfl)⟩ ?_
    refine g_istore_n (L' := [(2, .int q2), (0, .ref (ε.2.2.1 e 0)), (1, .int a0)]) d_Ev_reasonAgainst_21 rfl (by decide) rfl ?_
    refine g_iload_n d_Ev_reasonAgainst_22 rfl 0 rfl ?_
    refine g_iconst (v := -1) d_Ev_reasonAgainst_23 (by decide) ?_
    refine g_icmp_eq (tgt := 39) d_Ev_reasonAgainst_24 (by decide) (fun c4 => ?_) (fun c4 => ?_)
    · rw [if_pos c4] at h
      refine g_iconst (v := 0) d_Ev_reasonAgainst_39 (by decide) ?_
      obtain rfl := Option.some.inj h
      exact g_iret d_Ev_reasonAgainst_40 rfl
    · rw [if_neg c4] at h
      refine g_iload_n d_Ev_reasonAgainst_27 rfl 2 rfl ?_
      refine g_bipush (v := 8) d_Ev_reasonAgainst_28 (by decide) ?_
      refine g_idiv d_Ev_reasonAgainst_30 (by decide) ?_
      refine g_iload_n d_Ev_reasonAgainst_31 rfl 0 rfl ?_
      refine g_icmp_eq (tgt := 39) d_Ev_reasonAgainst_32 (by decide) (fun c3 => ?_) (fun c3 => ?_)
      · rw [if_pos c3] at h
        refine g_iconst (v := 0) d_Ev_reasonAgainst_39 (by decide) ?_
        obtain rfl := Option.some.inj h
        exact g_iret d_Ev_reasonAgainst_40 rfl
      · rw [if_neg c3] at h
        refine g_iconst (v := 2) d_Ev_reasonAgainst_35 (by decide) ?_
        refine g_goto (tgt := 40) d_Ev_reasonAgainst_36 (by decide) ?_
        obtain rfl := Option.some.inj h
        exact g_iret d_Ev_reasonAgainst_40 rfl
  · rw [if_neg c5] at h
    refine g_iconst (v := 1) d_Ev_reasonAgainst_15 (by decide) ?_
    obtain rfl := Option.some.inj h
    exact g_iret d_Ev_reasonAgainst_16 rfl
theorem ct_Ev_reasonAgainst {l : Launch} {ε : gEnv} (e : Nat) (hE : gEv ε e) (M : gMem) (a0 : Int32) (r : Int32) (h : f_Ev_reasonAgainst e M a0 = some r) : gCt l ε k_Ev_reasonAgainst 3 66 [.ref (ε.2.2.1 e 0), .int a0] M (some (.int r)) M :=
  gCt_of (by decide) (Nat.le_of_ble_eq_true rfl) rfl (t_Ev_reasonAgainst e hE M a0 r h)
abbrev k_Ev_playableCount : gMD := (⟨"DropSignals$Evening", "playableCount", "()I"⟩, prog_4_method_13_code, 2, (some .int))
theorem w_935 : Cond.instanceMethod ⟨"DropSignals$Evening", "playableCount", "()I"⟩ ∈ gWs := gWs_in (i := 935) (by decide +kernel) rfl
theorem w_936 : Cond.selects "DropSignals$Evening" ⟨"DropSignals$Evening", "playableCount", "()I"⟩ ⟨"DropSignals$Evening", "playableCount", "()I"⟩ ∈ gWs := gWs_in (i := 936) (by decide +kernel) rfl
set_option maxRecDepth 100000 in
theorem ca_Ev_playableCount : gCaV k_Ev_playableCount 0 := ⟨⟨gWs_in (i := 937) rfl rfl, w_21, by decide, by decide, by decide +kernel⟩, w_935, w_936⟩
theorem d_Ev_playableCount_0 : decode prog_4_method_13_code 0 = .ok (.aload_n 0, 1) := by decide +kernel
theorem d_Ev_playableCount_1 : decode prog_4_method_13_code 1 = .ok (.getfield 49, 3) := by decide +kernel
theorem d_Ev_playableCount_4 : decode prog_4_method_13_code 4 = .ok (.iconst 2, 1) := by decide +kernel
theorem d_Ev_playableCount_5 : decode prog_4_method_13_code 5 = .ok (.if_icmp .eq 5, 3) := by decide +kernel
theorem d_Ev_playableCount_8 : decode prog_4_method_13_code 8 = .ok (.iconst 0, 1) := by decide +kernel
theorem d_Ev_playableCount_9 : decode prog_4_method_13_code 9 = .ok (.ireturn, 1) := by decide +kernel
theorem d_Ev_playableCount_10 : decode prog_4_method_13_code 10 = .ok (.aload_n 0, 1) := by decide +kernel
theorem d_Ev_playableCount_11 : decode prog_4_method_13_code 11 = .ok (.invokevirtual 124, 3) := by decide +kernel
theorem d_Ev_playableCount_14 : decode prog_4_method_13_code 14 = .ok (.istore_n 1, 1) := by decide +kernel
theorem d_Ev_playableCount_15 : decode prog_4_method_13_code 15 = .ok (.iload_n 1, 1) := by decide +kernel
theorem d_Ev_playableCount_16 : decode prog_4_method_13_code 16 = .ok (.iconst (-1), 1) := by decide +kernel
theorem d_Ev_playableCount_17 : decode prog_4_method_13_code 17 = .ok (.if_icmp .ne 17, 3) := by decide +kernel
theorem d_Ev_playableCount_20 : decode prog_4_method_13_code 20 = .ok (.aload_n 0, 1) := by decide +kernel
theorem d_Ev_playableCount_21 : decode prog_4_method_13_code 21 = .ok (.getfield 12, 3) := by decide +kernel
theorem d_Ev_playableCount_24 : decode prog_4_method_13_code 24 = .ok (.aload_n 0, 1) := by decide +kernel
theorem d_Ev_playableCount_25 : decode prog_4_method_13_code 25 = .ok (.getfield 52, 3) := by decide +kernel
theorem d_Ev_playableCount_28 : decode prog_4_method_13_code 28 = .ok (.invokevirtual 127, 3) := by decide +kernel
theorem d_Ev_playableCount_31 : decode prog_4_method_13_code 31 = .ok (.goto 15, 3) := by decide +kernel
theorem d_Ev_playableCount_34 : decode prog_4_method_13_code 34 = .ok (.aload_n 0, 1) := by decide +kernel
theorem d_Ev_playableCount_35 : decode prog_4_method_13_code 35 = .ok (.getfield 12, 3) := by decide +kernel
theorem d_Ev_playableCount_38 : decode prog_4_method_13_code 38 = .ok (.aload_n 0, 1) := by decide +kernel
theorem d_Ev_playableCount_39 : decode prog_4_method_13_code 39 = .ok (.getfield 52, 3) := by decide +kernel
theorem d_Ev_playableCount_42 : decode prog_4_method_13_code 42 = .ok (.iload_n 1, 1) := by decide +kernel
theorem d_Ev_playableCount_43 : decode prog_4_method_13_code 43 = .ok (.invokevirtual 118, 3) := by decide +kernel
theorem d_Ev_playableCount_46 : decode prog_4_method_13_code 46 = .ok (.ireturn, 1) := by decide +kernel
theorem w_891 : Cond.methodLink "DropSignals$Evening" 127 ⟨"DropSignals$Cards", "handSize", "(I)I"⟩ ∈ gWs := gWs_in (i := 891) (by decide +kernel) rfl
noncomputable def f_Ev_playableCount (e : Nat) (M : gMem) : Option Int32 :=
  if (M e 0 5) = 2 then
    (f_Ev_suitToFollow e M).bind fun q1 =>
    if q1 = (-1) then
      (f_Cards_handSize e M (M e 0 6)).bind fun q3 =>
      some q3
    else
      (f_Cards_held e M (M e 0 6) q1).bind fun q2 =>
      some q2
  else
    some 0
theorem t_Ev_playableCount {l : Launch} {ε : gEnv} (e : Nat) (hE : gEv ε e) (M : gMem) (r : Int32) (h : f_Ev_playableCount e M = some r) : gGo l ε k_Ev_playableCount (gR 3 66) (gFn ε (some (.int r)) M) 0 [(0, .ref (ε.2.2.1 e 0))] [] M := by
  unfold f_Ev_playableCount at h
  refine g_aload_n d_Ev_playableCount_0 rfl 0 rfl ?_
  refine g_getI d_Ev_playableCount_1 fl_Ev_49 (gEv_h0 hE) rfl ?_
  refine g_iconst (v := 2) d_Ev_playableCount_4 (by decide) ?_
  refine g_icmp_eq (tgt := 10) d_Ev_playableCount_5 (by decide) (fun c5 => ?_) (fun c5 => ?_)
  · rw [if_pos c5] at h
    refine g_aload_n d_Ev_playableCount_10 rfl 0 rfl ?_
    obtain ⟨q1, hq1, h⟩ := gOb h
    refine g_callV_i (As := []) (rest := []) (ct_Ev_suitToFollow e hE M _ hq1) d_Ev_playableCount_11 ca_Ev_suitToFollow w_486 (gEv_h0 hE) rfl rfl rfl (Nat.le_of_ble_eq_true rfl) ⟨(Nat.le_of_ble_eq_true rfl), (Nat.le_of_ble_eq_true rfl)⟩ ?_
    refine g_istore_n (L' := [(1, .int q1), (0, .ref (ε.2.2.1 e 0))]) d_Ev_playableCount_14 rfl (by decide) rfl ?_
    refine g_iload_n d_Ev_playableCount_15 rfl 0 rfl ?_
    refine g_iconst (v := -1) d_Ev_playableCount_16 (by decide) ?_
    refine g_icmp_ne (tgt := 34) d_Ev_playableCount_17 (by decide) (fun c4 => ?_) (fun c4 => ?_)
    · rw [if_neg c4] at h
      refine g_aload_n d_Ev_playableCount_34 rfl 1 rfl ?_
      refine g_getR d_Ev_playableCount_35 fl_Ev_12 (gEv_h0 hE) rfl ?_
      refine g_aload_n d_Ev_playableCount_38 rfl 1 rfl ?_
      refine g_getI d_Ev_playableCount_39 fl_Ev_52 (gEv_h0 hE) rfl ?_
      refine g_iload_n d_Ev_playableCount_42 rfl 0 rfl ?_
      obtain ⟨q2, hq2, h⟩ := gOb h
      refine g_callV_i (As := [.int (M e 0 6), .int q1]) (rest := []) (ct_Cards_held e (gEv_cd hE) M (M e 0 6) q1 _ hq2) d_Ev_playableCount_43 ca_Cards_held w_494 (gEv_h1 hE) rfl rfl rfl (Nat.le_of_ble_eq_true rfl) ⟨(Nat.le_of_ble_eq_true rfl), (Nat.le_of_ble_eq_true rfl)⟩ ?_
      obtain rfl := Option.some.inj h
      exact g_iret d_Ev_playableCount_46 rfl
    · rw [if_pos c4] at h
      refine g_aload_n d_Ev_playableCount_20 rfl 1 rfl ?_
      refine g_getR d_Ev_playableCount_21 fl_Ev_12 (gEv_h0 hE) rfl ?_
      refine g_aload_n d_Ev_playableCount_24 rfl 1 rfl ?_
      refine g_getI d_Ev_playableCount_25 fl_Ev_52 (gEv_h0 hE) rfl ?_
      obtain ⟨q3, hq3, h⟩ := gOb h
      refine g_callV_i (As := [.int (M e 0 6)]) (rest := []) (ct_Cards_handSize e (gEv_cd hE) M (M e 0 6) _ hq3) d_Ev_playableCount_28 ca_Cards_handSize w_891 (gEv_h1 hE) rfl rfl rfl (Nat.le_of_ble_eq_true rfl) ⟨(Nat.le_of_ble_eq_true rfl), (Nat.le_of_ble_eq_true rfl)⟩ ?_
      refine g_goto (tgt := 46) d_Ev_playableCount_31 (by decide) ?_
      obtain rfl := Option.some.inj h
      exact g_iret d_Ev_playableCount_46 rfl
  · rw [if_neg c5] at h
    refine g_iconst (v := 0) d_Ev_playableCount_8 (by decide) ?_
    obtain rfl := Option.some.inj h
    exact g_iret d_Ev_playableCount_9 rfl
theorem ct_Ev_playableCount {l : Launch} {ε : gEnv} (e : Nat) (hE : gEv ε e) (M : gMem) (r : Int32) (h : f_Ev_playableCount e M = some r) : gCt l ε k_Ev_playableCount 3 66 [.ref (ε.2.2.1 e 0)] M (some (.int r)) M :=
  gCt_of (by decide) (Nat.le_of_ble_eq_true rfl) rfl (t_Ev_playableCount e hE M r h)
abbrev k_Ev_playable : gMD := (⟨"DropSignals$Evening", "playable", "(I)I"⟩, prog_4_method_14_code, 5, (some .int))
theorem w_772 : Cond.instanceMethod ⟨"DropSignals$Evening", "playable", "(I)I"⟩ ∈ gWs := gWs_in (i := 772) (by decide +kernel) rfl
theorem w_773 : Cond.selects "DropSignals$Evening" ⟨"DropSignals$Evening", "playable", "(I)I"⟩ ⟨"DropSignals$Evening", "playable", "(I)I"⟩ ∈ gWs := gWs_in (i := 773) (by decide +kernel) rfl
set_option maxRecDepth 100000 in
theorem ca_Ev_playable : gCaV k_Ev_playable 1 := ⟨⟨gWs_in (i := 774) rfl rfl, w_21, by decide, by decide, by decide +kernel⟩, w_772, w_773⟩
theorem d_Ev_playable_0 : decode prog_4_method_14_code 0 = .ok (.aload_n 0, 1) := by decide +kernel
theorem d_Ev_playable_1 : decode prog_4_method_14_code 1 = .ok (.getfield 49, 3) := by decide +kernel
theorem d_Ev_playable_4 : decode prog_4_method_14_code 4 = .ok (.iconst 2, 1) := by decide +kernel
theorem d_Ev_playable_5 : decode prog_4_method_14_code 5 = .ok (.if_icmp .eq 5, 3) := by decide +kernel
theorem d_Ev_playable_8 : decode prog_4_method_14_code 8 = .ok (.iconst (-1), 1) := by decide +kernel
theorem d_Ev_playable_9 : decode prog_4_method_14_code 9 = .ok (.ireturn, 1) := by decide +kernel
theorem d_Ev_playable_10 : decode prog_4_method_14_code 10 = .ok (.aload_n 0, 1) := by decide +kernel
theorem d_Ev_playable_11 : decode prog_4_method_14_code 11 = .ok (.invokevirtual 124, 3) := by decide +kernel
theorem d_Ev_playable_14 : decode prog_4_method_14_code 14 = .ok (.istore_n 2, 1) := by decide +kernel
theorem d_Ev_playable_15 : decode prog_4_method_14_code 15 = .ok (.iconst 0, 1) := by decide +kernel
theorem d_Ev_playable_16 : decode prog_4_method_14_code 16 = .ok (.istore_n 3, 1) := by decide +kernel
theorem d_Ev_playable_17 : decode prog_4_method_14_code 17 = .ok (.iconst 0, 1) := by decide +kernel
theorem d_Ev_playable_18 : decode prog_4_method_14_code 18 = .ok (.istore 4, 2) := by decide +kernel
theorem d_Ev_playable_20 : decode prog_4_method_14_code 20 = .ok (.iload 4, 2) := by decide +kernel
theorem d_Ev_playable_22 : decode prog_4_method_14_code 22 = .ok (.bipush 32, 2) := by decide +kernel
theorem d_Ev_playable_24 : decode prog_4_method_14_code 24 = .ok (.if_icmp .ge 50, 3) := by decide +kernel
theorem d_Ev_playable_27 : decode prog_4_method_14_code 27 = .ok (.aload_n 0, 1) := by decide +kernel
theorem d_Ev_playable_28 : decode prog_4_method_14_code 28 = .ok (.getfield 12, 3) := by decide +kernel
theorem d_Ev_playable_31 : decode prog_4_method_14_code 31 = .ok (.iload 4, 2) := by decide +kernel
theorem d_Ev_playable_33 : decode prog_4_method_14_code 33 = .ok (.invokevirtual 121, 3) := by decide +kernel
theorem d_Ev_playable_36 : decode prog_4_method_14_code 36 = .ok (.aload_n 0, 1) := by decide +kernel
theorem d_Ev_playable_37 : decode prog_4_method_14_code 37 = .ok (.getfield 52, 3) := by decide +kernel
theorem d_Ev_playable_40 : decode prog_4_method_14_code 40 = .ok (.if_icmp .ne 28, 3) := by decide +kernel
theorem d_Ev_playable_43 : decode prog_4_method_14_code 43 = .ok (.iload_n 2, 1) := by decide +kernel
theorem d_Ev_playable_44 : decode prog_4_method_14_code 44 = .ok (.iconst (-1), 1) := by decide +kernel
theorem d_Ev_playable_45 : decode prog_4_method_14_code 45 = .ok (.if_icmp .eq 12, 3) := by decide +kernel
theorem d_Ev_playable_48 : decode prog_4_method_14_code 48 = .ok (.iload 4, 2) := by decide +kernel
theorem d_Ev_playable_50 : decode prog_4_method_14_code 50 = .ok (.bipush 8, 2) := by decide +kernel
theorem d_Ev_playable_52 : decode prog_4_method_14_code 52 = .ok (.idiv, 1) := by decide +kernel
theorem d_Ev_playable_53 : decode prog_4_method_14_code 53 = .ok (.iload_n 2, 1) := by decide +kernel
theorem d_Ev_playable_54 : decode prog_4_method_14_code 54 = .ok (.if_icmp .ne 14, 3) := by decide +kernel
theorem d_Ev_playable_57 : decode prog_4_method_14_code 57 = .ok (.iload_n 3, 1) := by decide +kernel
theorem d_Ev_playable_58 : decode prog_4_method_14_code 58 = .ok (.iload_n 1, 1) := by decide +kernel
theorem d_Ev_playable_59 : decode prog_4_method_14_code 59 = .ok (.if_icmp .ne 6, 3) := by decide +kernel
theorem d_Ev_playable_62 : decode prog_4_method_14_code 62 = .ok (.iload 4, 2) := by decide +kernel
theorem d_Ev_playable_64 : decode prog_4_method_14_code 64 = .ok (.ireturn, 1) := by decide +kernel
theorem d_Ev_playable_65 : decode prog_4_method_14_code 65 = .ok (.iinc 3 1, 3) := by decide +kernel
theorem d_Ev_playable_68 : decode prog_4_method_14_code 68 = .ok (.iinc 4 1, 3) := by decide +kernel
theorem d_Ev_playable_71 : decode prog_4_method_14_code 71 = .ok (.goto (-51), 3) := by decide +kernel
theorem d_Ev_playable_74 : decode prog_4_method_14_code 74 = .ok (.iconst (-1), 1) := by decide +kernel
theorem d_Ev_playable_75 : decode prog_4_method_14_code 75 = .ok (.ireturn, 1) := by decide +kernel
noncomputable def f_Ev_playable_b68 (e : Nat) (M : gMem) (x1 : Int32) (x2 : Int32) (x3 : Int32) (x4 : Int32) : Option ((Int32 × Int32) ⊕ Int32) :=
  some (.inl (x3, (x4 + 1)))
theorem t_Ev_playable_b68 {l : Launch} {ε : gEnv} (e : Nat) (hE : gEv ε e) (M : gMem) (x1 : Int32) (x2 : Int32) (x3 : Int32) (x4 : Int32) (res : ((Int32 × Int32) ⊕ Int32)) (h : f_Ev_playable_b68 e M x1 x2 x3 x4 = some res) (r : Int32) (k1 : ∀ s0 : (Int32 × Int32), res = .inl s0 → gGo l ε k_Ev_playable (gR 3 66) (gFn ε (some (.int r)) M) 20 [(0, .ref (ε.2.2.1 e 0)), (1, .int x1), (2, .int x2), (3, .int s0.1), (4, .int s0.2)] [] M) (k2 : ∀ r', res = .inr r' → r' = r) : gGo l ε k_Ev_playable (gR 3 66) (gFn ε (some (.int r)) M) 68 [(0, .ref (ε.2.2.1 e 0)), (1, .int x1), (2, .int x2), (3, .int x3), (4, .int x4)] [] M := by
  unfold f_Ev_playable_b68 at h
  refine g_iinc (v := (x4 + 1)) (L' := [(4, .int (x4 + 1)), (0, .ref (ε.2.2.1 e 0)), (1, .int x1), (2, .int x2), (3, .int x3)]) d_Ev_playable_68 (j := 4) rfl rfl (by decide) rfl ?_
  refine g_goto (tgt := 20) d_Ev_playable_71 (by decide) ?_
  refine gGo_sub [1, 2, 3, 4, 0] rfl ?_
  obtain rfl := Option.some.inj h
  exact k1 (x3, (x4 + 1)) rfl
noncomputable def f_Ev_playable_b57 (e : Nat) (M : gMem) (x1 : Int32) (x2 : Int32) (x3 : Int32) (x4 : Int32) : Option ((Int32 × Int32) ⊕ Int32) :=
  if x3 = x1 then
    some (.inr x4)
  else
    f_Ev_playable_b68 e M x1 x2 (x3 + 1) x4
theorem t_Ev_playable_b57 {l : Launch} {ε : gEnv} (e : Nat) (hE : gEv ε e) (M : gMem) (x1 : Int32) (x2 : Int32) (x3 : Int32) (x4 : Int32) (res : ((Int32 × Int32) ⊕ Int32)) (h : f_Ev_playable_b57 e M x1 x2 x3 x4 = some res) (r : Int32) (k1 : ∀ s0 : (Int32 × Int32), res = .inl s0 → gGo l ε k_Ev_playable (gR 3 66) (gFn ε (some (.int r)) M) 20 [(0, .ref (ε.2.2.1 e 0)), (1, .int x1), (2, .int x2), (3, .int s0.1), (4, .int s0.2)] [] M) (k2 : ∀ r', res = .inr r' → r' = r) : gGo l ε k_Ev_playable (gR 3 66) (gFn ε (some (.int r)) M) 57 [(0, .ref (ε.2.2.1 e 0)), (1, .int x1), (2, .int x2), (3, .int x3), (4, .int x4)] [] M := by
  unfold f_Ev_playable_b57 at h
  refine g_iload_n d_Ev_playable_57 rfl 3 rfl ?_
  refine g_iload_n d_Ev_playable_58 rfl 1 rfl ?_
  refine g_icmp_ne (tgt := 65) d_Ev_playable_59 (by decide) (fun c3 => ?_) (fun c3 => ?_)
  · rw [if_neg c3] at h
    refine g_iinc (v := (x3 + 1)) (L' := [(3, .int (x3 + 1)), (0, .ref (ε.2.2.1 e 0)), (1, .int x1), (2, .int x2), (4, .int x4)]) d_Ev_playable_65 (j := 3) rfl rfl (by decide) rfl ?_
    refine gGo_sub [1, 2, 3, 0, 4] rfl ?_
    exact t_Ev_playable_b68 e hE M x1 x2 (x3 + 1) x4 _ h r k1 k2
  · rw [if_pos c3] at h
    refine g_iload d_Ev_playable_62 4 rfl ?_
    obtain rfl := Option.some.inj h
    have e9 := k2 _ rfl
    subst e9
    exact g_iret d_Ev_playable_64 rfl
noncomputable def f_Ev_playable_s20 (e : Nat) (M : gMem) (x1 : Int32) (x2 : Int32) (x3 : Int32) (x4 : Int32) : Option ((Int32 × Int32) ⊕ Int32) :=
  if 32 ≤ x4 then
    some (.inr (-1))
  else
    (f_Cards_holder e M x4).bind fun q2 =>
    if q2 = (M e 0 6) then
      if x2 = (-1) then
        f_Ev_playable_b57 e M x1 x2 x3 x4
      else
        if (x4 / 8) = x2 then
          f_Ev_playable_b57 e M x1 x2 x3 x4
        else
          f_Ev_playable_b68 e M x1 x2 x3 x4
    else
      f_Ev_playable_b68 e M x1 x2 x3 x4
theorem t_Ev_playable_s20 {l : Launch} {ε : gEnv} (e : Nat) (hE : gEv ε e) (M : gMem) (x1 : Int32) (x2 : Int32) (x3 : Int32) (x4 : Int32) (res : ((Int32 × Int32) ⊕ Int32)) (h : f_Ev_playable_s20 e M x1 x2 x3 x4 = some res) (r : Int32) (k1 : ∀ s0 : (Int32 × Int32), res = .inl s0 → gGo l ε k_Ev_playable (gR 3 66) (gFn ε (some (.int r)) M) 20 [(0, .ref (ε.2.2.1 e 0)), (1, .int x1), (2, .int x2), (3, .int s0.1), (4, .int s0.2)] [] M) (k2 : ∀ r', res = .inr r' → r' = r) : gGo l ε k_Ev_playable (gR 3 66) (gFn ε (some (.int r)) M) 20 [(0, .ref (ε.2.2.1 e 0)), (1, .int x1), (2, .int x2), (3, .int x3), (4, .int x4)] [] M := by
  unfold f_Ev_playable_s20 at h
  refine g_iload d_Ev_playable_20 4 rfl ?_
  refine g_bipush (v := 32) d_Ev_playable_22 (by decide) ?_
  refine g_icmp_ge (tgt := 74) d_Ev_playable_24 (by decide) (fun c7 => ?_) (fun c7 => ?_)
  · rw [if_pos c7] at h
    refine g_iconst (v := -1) d_Ev_playable_74 (by decide) ?_
    obtain rfl := Option.some.inj h
    have e9 := k2 _ rfl
    subst e9
    exact g_iret d_Ev_playable_75 rfl
  · rw [if_neg c7] at h
    refine g_aload_n d_Ev_playable_27 rfl 0 rfl ?_
    refine g_getR d_Ev_playable_28 fl_Ev_12 (gEv_h0 hE) rfl ?_
    refine g_iload d_Ev_playable_31 4 rfl ?_
    obtain ⟨q2, hq2, h⟩ := gOb h
    refine g_callV_i (As := [.int x4]) (rest := []) (ct_Cards_holder e (gEv_cd hE) M x4 _ hq2) d_Ev_playable_33 ca_Cards_holder w_482 (gEv_h1 hE) rfl rfl rfl (Nat.le_of_ble_eq_true rfl) ⟨(Nat.le_of_ble_eq_true rfl), (Nat.le_of_ble_eq_true rfl)⟩ ?_
    refine g_aload_n d_Ev_playable_36 rfl 0 rfl ?_
    refine g_getI d_Ev_playable_37 fl_Ev_52 (gEv_h0 hE) rfl ?_
    refine g_icmp_ne (tgt := 68) d_Ev_playable_40 (by decide) (fun c6 => ?_) (fun c6 => ?_)
    · rw [if_neg c6] at h
      exact t_Ev_playable_b68 e hE M x1 x2 x3 x4 _ h r k1 k2
    · rw [if_pos c6] at h
      refine g_iload_n d_Ev_playable_43 rfl 2 rfl ?_
      refine g_iconst (v := -1) d_Ev_playable_44 (by decide) ?_
      refine g_icmp_eq (tgt := 57) d_Ev_playable_45 (by decide) (fun c5 => ?_) (fun c5 => ?_)
      · rw [if_pos c5] at h
        exact t_Ev_playable_b57 e hE M x1 x2 x3 x4 _ h r k1 k2
      · rw [if_neg c5] at h
        refine g_iload d_Ev_playable_48 4 rfl ?_
        refine g_bipush (v := 8) d_Ev_playable_50 (by decide) ?_
        refine g_idiv d_Ev_playable_52 (by decide) ?_
        refine g_iload_n d_Ev_playable_53 rfl 2 rfl ?_
        refine g_icmp_ne (tgt := 68) d_Ev_playable_54 (by decide) (fun c4 => ?_) (fun c4 => ?_)
        · rw [if_neg c4] at h
          exact t_Ev_playable_b68 e hE M x1 x2 x3 x4 _ h r k1 k2
        · rw [if_pos c4] at h
          exact t_Ev_playable_b57 e hE M x1 x2 x3 x4 _ h r k1 k2
noncomputable def f_Ev_playable_l20 (e : Nat) (M : gMem) (x1 : Int32) (x2 : Int32) (s : (Int32 × Int32)) : Option Int32 := gLp (fun s => f_Ev_playable_s20 e M x1 x2 s.1 s.2) s
theorem t_Ev_playable_l20 {l : Launch} {ε : gEnv} (e : Nat) (hE : gEv ε e) (M : gMem) (x1 : Int32) (x2 : Int32) (s : (Int32 × Int32)) (r : Int32) (h : f_Ev_playable_l20 e M x1 x2 s = some r) : gGo l ε k_Ev_playable (gR 3 66) (gFn ε (some (.int r)) M) 20 [(0, .ref (ε.2.2.1 e 0)), (1, .int x1), (2, .int x2), (3, .int s.1), (4, .int s.2)] [] M :=
  g_loop _ (fun r s => gGo l ε k_Ev_playable (gR 3 66) (gFn ε (some (.int r)) M) 20 [(0, .ref (ε.2.2.1 e 0)), (1, .int x1), (2, .int x2), (3, .int s.1), (4, .int s.2)] [] M) (fun s res h r k1 k2 => t_Ev_playable_s20 e hE M x1 x2 s.1 s.2 res h r k1 k2) s r h
noncomputable def f_Ev_playable (e : Nat) (M : gMem) (a0 : Int32) : Option Int32 :=
  if (M e 0 5) = 2 then
    (f_Ev_suitToFollow e M).bind fun q1 =>
    f_Ev_playable_l20 e M a0 q1 (0, 0)
  else
    some (-1)
theorem t_Ev_playable {l : Launch} {ε : gEnv} (e : Nat) (hE : gEv ε e) (M : gMem) (a0 : Int32) (r : Int32) (h : f_Ev_playable e M a0 = some r) : gGo l ε k_Ev_playable (gR 3 66) (gFn ε (some (.int r)) M) 0 [(0, .ref (ε.2.2.1 e 0)), (1, .int a0)] [] M := by
  unfold f_Ev_playable at h
  refine g_aload_n d_Ev_playable_0 rfl 0 rfl ?_
  refine g_getI d_Ev_playable_1 fl_Ev_49 (gEv_h0 hE) rfl ?_
  refine g_iconst (v := 2) d_Ev_playable_4 (by decide) ?_
  refine g_icmp_eq (tgt := 10) d_Ev_playable_5 (by decide) (fun c8 => ?_) (fun c8 => ?_)
  · rw [if_pos c8] at h
    refine g_aload_n d_Ev_playable_10 rfl 0 rfl ?_
    obtain ⟨q1, hq1, h⟩ := gOb h
    refine g_callV_i (As := []) (rest := []) (ct_Ev_suitToFollow e hE M _ hq1) d_Ev_playable_11 ca_Ev_suitToFollow w_486 (gEv_h0 hE) rfl rfl rfl (Nat.le_of_ble_eq_true rfl) ⟨(Nat.le_of_ble_eq_true rfl), (Nat.le_of_ble_eq_true rfl)⟩ ?_
    refine g_istore_n (L' := [(2, .int q1), (0, .ref (ε.2.2.1 e 0)), (1, .int a0)]) d_Ev_playable_14 rfl (by decide) rfl ?_
    refine g_iconst (v := 0) d_Ev_playable_15 (by decide) ?_
    refine g_istore_n (L' := [(3, .int 0), (2, .int q1), (0, .ref (ε.2.2.1 e 0)), (1, .int a0)]) d_Ev_playable_16 rfl (by decide) rfl ?_
    refine g_iconst (v := 0) d_Ev_playable_17 (by decide) ?_
    refine g_istore (L' := [(4, .int 0), (3, .int 0), (2, .int q1), (0, .ref (ε.2.2.1 e 0)), (1, .int a0)]) d_Ev_playable_18 (by decide) rfl ?_
    refine gGo_sub [3, 4, 2, 1, 0] rfl ?_
    exact t_Ev_playable_l20 e hE M a0 q1 (0, 0) _ h
  · rw [if_neg c8] at h
    refine g_iconst (v := -1) d_Ev_playable_8 (by decide) ?_
    obtain rfl := Option.some.inj h
    exact g_iret d_Ev_playable_9 rfl
theorem ct_Ev_playable {l : Launch} {ε : gEnv} (e : Nat) (hE : gEv ε e) (M : gMem) (a0 : Int32) (r : Int32) (h : f_Ev_playable e M a0 = some r) : gCt l ε k_Ev_playable 3 66 [.ref (ε.2.2.1 e 0), .int a0] M (some (.int r)) M :=
  gCt_of (by decide) (Nat.le_of_ble_eq_true rfl) rfl (t_Ev_playable e hE M a0 r h)
abbrev k_Ev_firstSignalCard : gMD := (⟨"DropSignals$Evening", "firstSignalCard", "(I)I"⟩, prog_4_method_16_code, 5, (some .int))
theorem w_582 : Cond.instanceMethod ⟨"DropSignals$Evening", "firstSignalCard", "(I)I"⟩ ∈ gWs := gWs_in (i := 582) (by decide +kernel) rfl
theorem w_9 : Cond.selects "DropSignals$Evening" ⟨"DropSignals$Evening", "firstSignalCard", "(I)I"⟩ ⟨"DropSignals$Evening", "firstSignalCard", "(I)I"⟩ ∈ gWs := gWs_in (i := 9) (by decide +kernel) rfl
set_option maxRecDepth 100000 in
theorem ca_Ev_firstSignalCard : gCaV k_Ev_firstSignalCard 1 := ⟨⟨gWs_in (i := 583) rfl rfl, w_21, by decide, by decide, by decide +kernel⟩, w_582, w_9⟩
theorem d_Ev_firstSignalCard_0 : decode prog_4_method_16_code 0 = .ok (.iconst (-1), 1) := by decide +kernel
theorem d_Ev_firstSignalCard_1 : decode prog_4_method_16_code 1 = .ok (.istore_n 2, 1) := by decide +kernel
theorem d_Ev_firstSignalCard_2 : decode prog_4_method_16_code 2 = .ok (.iconst (-1), 1) := by decide +kernel
theorem d_Ev_firstSignalCard_3 : decode prog_4_method_16_code 3 = .ok (.istore_n 3, 1) := by decide +kernel
theorem d_Ev_firstSignalCard_4 : decode prog_4_method_16_code 4 = .ok (.iload_n 1, 1) := by decide +kernel
theorem d_Ev_firstSignalCard_5 : decode prog_4_method_16_code 5 = .ok (.bipush 8, 2) := by decide +kernel
theorem d_Ev_firstSignalCard_7 : decode prog_4_method_16_code 7 = .ok (.imul, 1) := by decide +kernel
theorem d_Ev_firstSignalCard_8 : decode prog_4_method_16_code 8 = .ok (.istore 4, 2) := by decide +kernel
theorem d_Ev_firstSignalCard_10 : decode prog_4_method_16_code 10 = .ok (.iload 4, 2) := by decide +kernel
theorem d_Ev_firstSignalCard_12 : decode prog_4_method_16_code 12 = .ok (.iload_n 1, 1) := by decide +kernel
theorem d_Ev_firstSignalCard_13 : decode prog_4_method_16_code 13 = .ok (.bipush 8, 2) := by decide +kernel
theorem d_Ev_firstSignalCard_15 : decode prog_4_method_16_code 15 = .ok (.imul, 1) := by decide +kernel
theorem d_Ev_firstSignalCard_16 : decode prog_4_method_16_code 16 = .ok (.iconst 4, 1) := by decide +kernel
theorem d_Ev_firstSignalCard_17 : decode prog_4_method_16_code 17 = .ok (.iadd, 1) := by decide +kernel
theorem d_Ev_firstSignalCard_18 : decode prog_4_method_16_code 18 = .ok (.if_icmp .ge 40, 3) := by decide +kernel
theorem d_Ev_firstSignalCard_21 : decode prog_4_method_16_code 21 = .ok (.aload_n 0, 1) := by decide +kernel
theorem d_Ev_firstSignalCard_22 : decode prog_4_method_16_code 22 = .ok (.getfield 12, 3) := by decide +kernel
theorem d_Ev_firstSignalCard_25 : decode prog_4_method_16_code 25 = .ok (.iload 4, 2) := by decide +kernel
theorem d_Ev_firstSignalCard_27 : decode prog_4_method_16_code 27 = .ok (.invokevirtual 121, 3) := by decide +kernel
theorem d_Ev_firstSignalCard_30 : decode prog_4_method_16_code 30 = .ok (.aload_n 0, 1) := by decide +kernel
theorem d_Ev_firstSignalCard_31 : decode prog_4_method_16_code 31 = .ok (.getfield 52, 3) := by decide +kernel
theorem d_Ev_firstSignalCard_34 : decode prog_4_method_16_code 34 = .ok (.if_icmp .ne 18, 3) := by decide +kernel
theorem d_Ev_firstSignalCard_37 : decode prog_4_method_16_code 37 = .ok (.iload_n 2, 1) := by decide +kernel
theorem d_Ev_firstSignalCard_38 : decode prog_4_method_16_code 38 = .ok (.iconst (-1), 1) := by decide +kernel
theorem d_Ev_firstSignalCard_39 : decode prog_4_method_16_code 39 = .ok (.if_icmp .ne 8, 3) := by decide +kernel
theorem d_Ev_firstSignalCard_42 : decode prog_4_method_16_code 42 = .ok (.iload 4, 2) := by decide +kernel
theorem d_Ev_firstSignalCard_44 : decode prog_4_method_16_code 44 = .ok (.goto 4, 3) := by decide +kernel
theorem d_Ev_firstSignalCard_47 : decode prog_4_method_16_code 47 = .ok (.iload_n 2, 1) := by decide +kernel
theorem d_Ev_firstSignalCard_48 : decode prog_4_method_16_code 48 = .ok (.istore_n 2, 1) := by decide +kernel
theorem d_Ev_firstSignalCard_49 : decode prog_4_method_16_code 49 = .ok (.iload 4, 2) := by decide +kernel
theorem d_Ev_firstSignalCard_51 : decode prog_4_method_16_code 51 = .ok (.istore_n 3, 1) := by decide +kernel
theorem d_Ev_firstSignalCard_52 : decode prog_4_method_16_code 52 = .ok (.iinc 4 1, 3) := by decide +kernel
theorem d_Ev_firstSignalCard_55 : decode prog_4_method_16_code 55 = .ok (.goto (-45), 3) := by decide +kernel
theorem d_Ev_firstSignalCard_58 : decode prog_4_method_16_code 58 = .ok (.iload_n 2, 1) := by decide +kernel
theorem d_Ev_firstSignalCard_59 : decode prog_4_method_16_code 59 = .ok (.iload_n 3, 1) := by decide +kernel
theorem d_Ev_firstSignalCard_60 : decode prog_4_method_16_code 60 = .ok (.if_icmp .ne 5, 3) := by decide +kernel
theorem d_Ev_firstSignalCard_63 : decode prog_4_method_16_code 63 = .ok (.iconst (-1), 1) := by decide +kernel
theorem d_Ev_firstSignalCard_64 : decode prog_4_method_16_code 64 = .ok (.ireturn, 1) := by decide +kernel
theorem d_Ev_firstSignalCard_65 : decode prog_4_method_16_code 65 = .ok (.aload_n 0, 1) := by decide +kernel
theorem d_Ev_firstSignalCard_66 : decode prog_4_method_16_code 66 = .ok (.getfield 12, 3) := by decide +kernel
theorem d_Ev_firstSignalCard_69 : decode prog_4_method_16_code 69 = .ok (.aload_n 0, 1) := by decide +kernel
theorem d_Ev_firstSignalCard_70 : decode prog_4_method_16_code 70 = .ok (.getfield 52, 3) := by decide +kernel
theorem d_Ev_firstSignalCard_73 : decode prog_4_method_16_code 73 = .ok (.iload_n 1, 1) := by decide +kernel
theorem d_Ev_firstSignalCard_74 : decode prog_4_method_16_code 74 = .ok (.invokevirtual 96, 3) := by decide +kernel
theorem d_Ev_firstSignalCard_77 : decode prog_4_method_16_code 77 = .ok (.iconst 2, 1) := by decide +kernel
theorem d_Ev_firstSignalCard_78 : decode prog_4_method_16_code 78 = .ok (.irem, 1) := by decide +kernel
theorem d_Ev_firstSignalCard_79 : decode prog_4_method_16_code 79 = .ok (.ifCond .ne 7, 3) := by decide +kernel
theorem d_Ev_firstSignalCard_82 : decode prog_4_method_16_code 82 = .ok (.iload_n 3, 1) := by decide +kernel
theorem d_Ev_firstSignalCard_83 : decode prog_4_method_16_code 83 = .ok (.goto 4, 3) := by decide +kernel
theorem d_Ev_firstSignalCard_86 : decode prog_4_method_16_code 86 = .ok (.iload_n 2, 1) := by decide +kernel
theorem d_Ev_firstSignalCard_87 : decode prog_4_method_16_code 87 = .ok (.ireturn, 1) := by decide +kernel
noncomputable def f_Ev_firstSignalCard_b52 (e : Nat) (M : gMem) (x1 : Int32) (x2 : Int32) (x3 : Int32) (x4 : Int32) : Option ((Int32 × Int32 × Int32) ⊕ Int32) :=
  some (.inl (x2, x3, (x4 + 1)))
theorem t_Ev_firstSignalCard_b52 {l : Launch} {ε : gEnv} (e : Nat) (hE : gEv ε e) (M : gMem) (x1 : Int32) (x2 : Int32) (x3 : Int32) (x4 : Int32) (res : ((Int32 × Int32 × Int32) ⊕ Int32)) (h : f_Ev_firstSignalCard_b52 e M x1 x2 x3 x4 = some res) (r : Int32) (k1 : ∀ s0 : (Int32 × Int32 × Int32), res = .inl s0 → gGo l ε k_Ev_firstSignalCard (gR 2 45) (gFn ε (some (.int r)) M) 10 [(0, .ref (ε.2.2.1 e 0)), (1, .int x1), (2, .int s0.1), (3, .int s0.2.1), (4, .int s0.2.2)] [] M) (k2 : ∀ r', res = .inr r' → r' = r) : gGo l ε k_Ev_firstSignalCard (gR 2 45) (gFn ε (some (.int r)) M) 52 [(0, .ref (ε.2.2.1 e 0)), (1, .int x1), (2, .int x2), (3, .int x3), (4, .int x4)] [] M := by
  unfold f_Ev_firstSignalCard_b52 at h
  refine g_iinc (v := (x4 + 1)) (L' := [(4, .int (x4 + 1)), (0, .ref (ε.2.2.1 e 0)), (1, .int x1), (2, .int x2), (3, .int x3)]) d_Ev_firstSignalCard_52 (j := 4) rfl rfl (by decide) rfl ?_
  refine g_goto (tgt := 10) d_Ev_firstSignalCard_55 (by decide) ?_
  refine gGo_sub [1, 2, 3, 4, 0] rfl ?_
  obtain rfl := Option.some.inj h
  exact k1 (x2, x3, (x4 + 1)) rfl
noncomputable def f_Ev_firstSignalCard_b48 (e : Nat) (M : gMem) (x1 : Int32) (x4 : Int32) (s0 : Int32) : Option ((Int32 × Int32 × Int32) ⊕ Int32) :=
  f_Ev_firstSignalCard_b52 e M x1 s0 x4 x4
theorem t_Ev_firstSignalCard_b48 {l : Launch} {ε : gEnv} (e : Nat) (hE : gEv ε e) (M : gMem) (x1 : Int32) (x4 : Int32) (s0 : Int32) (res : ((Int32 × Int32 × Int32) ⊕ Int32)) (h : f_Ev_firstSignalCard_b48 e M x1 x4 s0 = some res) (r : Int32) (k1 : ∀ s0 : (Int32 × Int32 × Int32), res = .inl s0 → gGo l ε k_Ev_firstSignalCard (gR 2 45) (gFn ε (some (.int r)) M) 10 [(0, .ref (ε.2.2.1 e 0)), (1, .int x1), (2, .int s0.1), (3, .int s0.2.1), (4, .int s0.2.2)] [] M) (k2 : ∀ r', res = .inr r' → r' = r) : gGo l ε k_Ev_firstSignalCard (gR 2 45) (gFn ε (some (.int r)) M) 48 [(0, .ref (ε.2.2.1 e 0)), (1, .int x1), (4, .int x4)] [.int s0] M := by
  unfold f_Ev_firstSignalCard_b48 at h
  refine g_istore_n (L' := [(2, .int s0), (0, .ref (ε.2.2.1 e 0)), (1, .int x1), (4, .int x4)]) d_Ev_firstSignalCard_48 rfl (by decide) rfl ?_
  refine g_iload d_Ev_firstSignalCard_49 3 rfl ?_
  refine g_istore_n (L' := [(3, .int x4), (2, .int s0), (0, .ref (ε.2.2.1 e 0)), (1, .int x1), (4, .int x4)]) d_Ev_firstSignalCard_51 rfl (by decide) rfl ?_
  refine gGo_sub [2, 3, 1, 0, 4] rfl ?_
  exact t_Ev_firstSignalCard_b52 e hE M x1 s0 x4 x4 _ h r k1 k2
noncomputable def f_Ev_firstSignalCard_s10 (e : Nat) (M : gMem) (x1 : Int32) (x2 : Int32) (x3 : Int32) (x4 : Int32) : Option ((Int32 × Int32 × Int32) ⊕ Int32) :=
  if ((x1 * 8) + 4) ≤ x4 then
    if x2 = x3 then
      some (.inr (-1))
    else
      (f_Cards_dealt e M (M e 0 6) x1).bind fun q1 =>
      if (gRem q1 2) = 0 then
        some (.inr x3)
      else
        some (.inr x2)
  else
    (f_Cards_holder e M x4).bind fun q4 =>
    if q4 = (M e 0 6) then
      if x2 = (-1) then
        f_Ev_firstSignalCard_b48 e M x1 x4 x4
      else
        f_Ev_firstSignalCard_b48 e M x1 x4 x2
    else
      f_Ev_firstSignalCard_b52 e M x1 x2 x3 x4
theorem t_Ev_firstSignalCard_s10 {l : Launch} {ε : gEnv} (e : Nat) (hE : gEv ε e) (M : gMem) (x1 : Int32) (x2 : Int32) (x3 : Int32) (x4 : Int32) (res : ((Int32 × Int32 × Int32) ⊕ Int32)) (h : f_Ev_firstSignalCard_s10 e M x1 x2 x3 x4 = some res) (r : Int32) (k1 : ∀ s0 : (Int32 × Int32 × Int32), res = .inl s0 → gGo l ε k_Ev_firstSignalCard (gR 2 45) (gFn ε (some (.int r)) M) 10 [(0, .ref (ε.2.2.1 e 0)), (1, .int x1), (2, .int s0.1), (3, .int s0.2.1), (4, .int s0.2.2)] [] M) (k2 : ∀ r', res = .inr r' → r' = r) : gGo l ε k_Ev_firstSignalCard (gR 2 45) (gFn ε (some (.int r)) M) 10 [(0, .ref (ε.2.2.1 e 0)), (1, .int x1), (2, .int x2), (3, .int x3), (4, .int x4)] [] M := by
  unfold f_Ev_firstSignalCard_s10 at h
  refine g_iload d_Ev_firstSignalCard_10 4 rfl ?_
  refine g_iload_n d_Ev_firstSignalCard_12 rfl 1 rfl ?_
  refine g_bipush (v := 8) d_Ev_firstSignalCard_13 (by decide) ?_
  refine g_imul d_Ev_firstSignalCard_15 ?_
  refine g_iconst (v := 4) d_Ev_firstSignalCard_16 (by decide) ?_
  refine g_iadd d_Ev_firstSignalCard_17 ?_
  refine g_icmp_ge (tgt := 58) d_Ev_firstSignalCard_18 (by decide) (fun c7 => ?_) (fun c7 => ?_)
  · rw [if_pos c7] at h
    refine g_iload_n d_Ev_firstSignalCard_58 rfl 2 rfl ?_
    refine g_iload_n d_Ev_firstSignalCard_59 rfl 3 rfl ?_
    refine g_icmp_ne (tgt := 65) d_Ev_firstSignalCard_60 (by decide) (fun c3 => ?_) (fun c3 => ?_)
    · rw [if_neg c3] at h
      refine g_aload_n d_Ev_firstSignalCard_65 rfl 0 rfl ?_
      refine g_getR d_Ev_firstSignalCard_66 fl_Ev_12 (gEv_h0 hE) rfl ?_
      refine g_aload_n d_Ev_firstSignalCard_69 rfl 0 rfl ?_
      refine g_getI d_Ev_firstSignalCard_70 fl_Ev_52 (gEv_h0 hE) rfl ?_
      refine g_iload_n d_Ev_firstSignalCard_73 rfl 1 rfl ?_
      obtain ⟨q1, hq1, h⟩ := gOb h
      refine g_callV_i (As := [.int (M e 0 6), .int x1]) (rest := []) (ct_Cards_dealt e (gEv_cd hE) M (M e 0 6) x1 _ hq1) d_Ev_firstSignalCard_74 ca_Cards_dealt w_533 (gEv_h1 hE) rfl rfl rfl (Nat.le_of_ble_eq_true rfl) ⟨(Nat.le_of_ble_eq_true rfl), (Nat.le_of_ble_eq_true rfl)⟩ ?_
      refine g_iconst (v := 2) d_Ev_firstSignalCard_77 (by decide) ?_
      refine g_rem d_Ev_firstSignalCard_78 (by decide) ?_
      refine g_if_ne (tgt := 86) d_Ev_firstSignalCard_79 (by decide) (fun c2 => ?_) (fun c2 => ?_)
      · rw [if_neg c2] at h
        refine g_iload_n d_Ev_firstSignalCard_86 rfl 2 rfl ?_
        obtain rfl := Option.some.inj h
        have e9 := k2 _ rfl
        subst e9
        exact g_iret d_Ev_firstSignalCard_87 rfl
      · rw [if_pos c2] at h
        refine g_iload_n d_Ev_firstSignalCard_82 rfl 3 rfl ?_
        refine g_goto (tgt := 87) d_Ev_firstSignalCard_83 (by decide) ?_
        obtain rfl := Option.some.inj h
        have e9 := k2 _ rfl
        subst e9
        exact g_iret d_Ev_firstSignalCard_87 rfl
    · rw [if_pos c3] at h
      refine g_iconst (v := -1) d_Ev_firstSignalCard_63 (by decide) ?_
      obtain rfl := Option.some.inj h
      have e9 := k2 _ rfl
      subst e9
      exact g_iret d_Ev_firstSignalCard_64 rfl
  · rw [if_neg c7] at h
    refine g_aload_n d_Ev_firstSignalCard_21 rfl 0 rfl ?_
    refine g_getR d_Ev_firstSignalCard_22 fl_Ev_12 (gEv_h0 hE) rfl ?_
    refine g_iload d_Ev_firstSignalCard_25 4 rfl ?_
    obtain ⟨q4, hq4, h⟩ := gOb h
    refine g_callV_i (As := [.int x4]) (rest := []) (ct_Cards_holder e (gEv_cd hE) M x4 _ hq4) d_Ev_firstSignalCard_27 ca_Cards_holder w_482 (gEv_h1 hE) rfl rfl rfl (Nat.le_of_ble_eq_true rfl) ⟨(Nat.le_of_ble_eq_true rfl), (Nat.le_of_ble_eq_true rfl)⟩ ?_
    refine g_aload_n d_Ev_firstSignalCard_30 rfl 0 rfl ?_
    refine g_getI d_Ev_firstSignalCard_31 fl_Ev_52 (gEv_h0 hE) rfl ?_
    refine g_icmp_ne (tgt := 52) d_Ev_firstSignalCard_34 (by decide) (fun c6 => ?_) (fun c6 => ?_)
    · rw [if_neg c6] at h
      exact t_Ev_firstSignalCard_b52 e hE M x1 x2 x3 x4 _ h r k1 k2
    · rw [if_pos c6] at h
      refine g_iload_n d_Ev_firstSignalCard_37 rfl 2 rfl ?_
      refine g_iconst (v := -1) d_Ev_firstSignalCard_38 (by decide) ?_
      refine g_icmp_ne (tgt := 47) d_Ev_firstSignalCard_39 (by decide) (fun c5 => ?_) (fun c5 => ?_)
      · rw [if_neg c5] at h
        refine g_iload_n d_Ev_firstSignalCard_47 rfl 2 rfl ?_
        refine gGo_sub [0, 1, 4] rfl ?_
        exact t_Ev_firstSignalCard_b48 e hE M x1 x4 x2 _ h r k1 k2
      · rw [if_pos c5] at h
        refine g_iload d_Ev_firstSignalCard_42 4 rfl ?_
        refine g_goto (tgt := 48) d_Ev_firstSignalCard_44 (by decide) ?_
        refine gGo_sub [0, 1, 4] rfl ?_
        exact t_Ev_firstSignalCard_b48 e hE M x1 x4 x4 _ h r k1 k2
noncomputable def f_Ev_firstSignalCard_l10 (e : Nat) (M : gMem) (x1 : Int32) (s : (Int32 × Int32 × Int32)) : Option Int32 := gLp (fun s => f_Ev_firstSignalCard_s10 e M x1 s.1 s.2.1 s.2.2) s
theorem t_Ev_firstSignalCard_l10 {l : Launch} {ε : gEnv} (e : Nat) (hE : gEv ε e) (M : gMem) (x1 : Int32) (s : (Int32 × Int32 × Int32)) (r : Int32) (h : f_Ev_firstSignalCard_l10 e M x1 s = some r) : gGo l ε k_Ev_firstSignalCard (gR 2 45) (gFn ε (some (.int r)) M) 10 [(0, .ref (ε.2.2.1 e 0)), (1, .int x1), (2, .int s.1), (3, .int s.2.1), (4, .int s.2.2)] [] M :=
  g_loop _ (fun r s => gGo l ε k_Ev_firstSignalCard (gR 2 45) (gFn ε (some (.int r)) M) 10 [(0, .ref (ε.2.2.1 e 0)), (1, .int x1), (2, .int s.1), (3, .int s.2.1), (4, .int s.2.2)] [] M) (fun s res h r k1 k2 => t_Ev_firstSignalCard_s10 e hE M x1 s.1 s.2.1 s.2.2 res h r k1 k2) s r h
noncomputable def f_Ev_firstSignalCard (e : Nat) (M : gMem) (a0 : Int32) : Option Int32 :=
  f_Ev_firstSignalCard_l10 e M a0 ((-1), (-1), (a0 * 8))
theorem t_Ev_firstSignalCard {l : Launch} {ε : gEnv} (e : Nat) (hE : gEv ε e) (M : gMem) (a0 : Int32) (r : Int32) (h : f_Ev_firstSignalCard e M a0 = some r) : gGo l ε k_Ev_firstSignalCard (gR 2 45) (gFn ε (some (.int r)) M) 0 [(0, .ref (ε.2.2.1 e 0)), (1, .int a0)] [] M := by
  unfold f_Ev_firstSignalCard at h
  refine g_iconst (v := -1) d_Ev_firstSignalCard_0 (by decide) ?_
  refine g_istore_n (L' := [(2, .int (-1)), (0, .ref (ε.2.2.1 e 0)), (1, .int a0)]) d_Ev_firstSignalCard_1 rfl (by decide) rfl ?_
  refine g_iconst (v := -1) d_Ev_firstSignalCard_2 (by decide) ?_
  refine g_istore_n (L' := [(3, .int (-1)), (2, .int (-1)), (0, .ref (ε.2.2.1 e 0)), (1, .int a0)]) d_Ev_firstSignalCard_3 rfl (by decide) rfl ?_
  refine g_iload_n d_Ev_firstSignalCard_4 rfl 3 rfl ?_
  refine g_bipush (v := 8) d_Ev_firstSignalCard_5 (by decide) ?_
  refine g_imul d_Ev_firstSignalCard_7 ?_
  refine g_istore (L' := [(4, .int (a0 * 8)), (3, .int (-1)), (2, .int (-1)), (0, .ref (ε.2.2.1 e 0)), (1, .int a0)]) d_Ev_firstSignalCard_8 (by decide) rfl ?_
  refine gGo_sub [3, 4, 2, 1, 0] rfl ?_
  exact t_Ev_firstSignalCard_l10 e hE M a0 ((-1), (-1), (a0 * 8)) _ h
theorem ct_Ev_firstSignalCard {l : Launch} {ε : gEnv} (e : Nat) (hE : gEv ε e) (M : gMem) (a0 : Int32) (r : Int32) (h : f_Ev_firstSignalCard e M a0 = some r) : gCt l ε k_Ev_firstSignalCard 2 45 [.ref (ε.2.2.1 e 0), .int a0] M (some (.int r)) M :=
  gCt_of (by decide) (Nat.le_of_ble_eq_true rfl) rfl (t_Ev_firstSignalCard e hE M a0 r h)
abbrev k_Ev_secondSignalCard : gMD := (⟨"DropSignals$Evening", "secondSignalCard", "(I)I"⟩, prog_4_method_17_code, 4, (some .int))
theorem w_586 : Cond.instanceMethod ⟨"DropSignals$Evening", "secondSignalCard", "(I)I"⟩ ∈ gWs := gWs_in (i := 586) (by decide +kernel) rfl
theorem w_10 : Cond.selects "DropSignals$Evening" ⟨"DropSignals$Evening", "secondSignalCard", "(I)I"⟩ ⟨"DropSignals$Evening", "secondSignalCard", "(I)I"⟩ ∈ gWs := gWs_in (i := 10) (by decide +kernel) rfl
set_option maxRecDepth 100000 in
theorem ca_Ev_secondSignalCard : gCaV k_Ev_secondSignalCard 1 := ⟨⟨gWs_in (i := 587) rfl rfl, w_21, by decide, by decide, by decide +kernel⟩, w_586, w_10⟩
theorem d_Ev_secondSignalCard_0 : decode prog_4_method_17_code 0 = .ok (.aload_n 0, 1) := by decide +kernel
theorem d_Ev_secondSignalCard_1 : decode prog_4_method_17_code 1 = .ok (.getfield 12, 3) := by decide +kernel
theorem d_Ev_secondSignalCard_4 : decode prog_4_method_17_code 4 = .ok (.aload_n 0, 1) := by decide +kernel
theorem d_Ev_secondSignalCard_5 : decode prog_4_method_17_code 5 = .ok (.getfield 52, 3) := by decide +kernel
theorem d_Ev_secondSignalCard_8 : decode prog_4_method_17_code 8 = .ok (.iload_n 1, 1) := by decide +kernel
theorem d_Ev_secondSignalCard_9 : decode prog_4_method_17_code 9 = .ok (.invokevirtual 96, 3) := by decide +kernel
theorem d_Ev_secondSignalCard_12 : decode prog_4_method_17_code 12 = .ok (.invokestatic 99, 3) := by decide +kernel
theorem d_Ev_secondSignalCard_15 : decode prog_4_method_17_code 15 = .ok (.istore_n 2, 1) := by decide +kernel
theorem d_Ev_secondSignalCard_16 : decode prog_4_method_17_code 16 = .ok (.iload_n 1, 1) := by decide +kernel
theorem d_Ev_secondSignalCard_17 : decode prog_4_method_17_code 17 = .ok (.bipush 8, 2) := by decide +kernel
theorem d_Ev_secondSignalCard_19 : decode prog_4_method_17_code 19 = .ok (.imul, 1) := by decide +kernel
theorem d_Ev_secondSignalCard_20 : decode prog_4_method_17_code 20 = .ok (.istore_n 3, 1) := by decide +kernel
theorem d_Ev_secondSignalCard_21 : decode prog_4_method_17_code 21 = .ok (.iload_n 3, 1) := by decide +kernel
theorem d_Ev_secondSignalCard_22 : decode prog_4_method_17_code 22 = .ok (.iload_n 1, 1) := by decide +kernel
theorem d_Ev_secondSignalCard_23 : decode prog_4_method_17_code 23 = .ok (.bipush 8, 2) := by decide +kernel
theorem d_Ev_secondSignalCard_25 : decode prog_4_method_17_code 25 = .ok (.imul, 1) := by decide +kernel
theorem d_Ev_secondSignalCard_26 : decode prog_4_method_17_code 26 = .ok (.iconst 4, 1) := by decide +kernel
theorem d_Ev_secondSignalCard_27 : decode prog_4_method_17_code 27 = .ok (.iadd, 1) := by decide +kernel
theorem d_Ev_secondSignalCard_28 : decode prog_4_method_17_code 28 = .ok (.if_icmp .ge 46, 3) := by decide +kernel
theorem d_Ev_secondSignalCard_31 : decode prog_4_method_17_code 31 = .ok (.aload_n 0, 1) := by decide +kernel
theorem d_Ev_secondSignalCard_32 : decode prog_4_method_17_code 32 = .ok (.getfield 12, 3) := by decide +kernel
theorem d_Ev_secondSignalCard_35 : decode prog_4_method_17_code 35 = .ok (.iload_n 3, 1) := by decide +kernel
theorem d_Ev_secondSignalCard_36 : decode prog_4_method_17_code 36 = .ok (.invokevirtual 121, 3) := by decide +kernel
theorem d_Ev_secondSignalCard_39 : decode prog_4_method_17_code 39 = .ok (.aload_n 0, 1) := by decide +kernel
theorem d_Ev_secondSignalCard_40 : decode prog_4_method_17_code 40 = .ok (.getfield 52, 3) := by decide +kernel
theorem d_Ev_secondSignalCard_43 : decode prog_4_method_17_code 43 = .ok (.if_icmp .ne 25, 3) := by decide +kernel
theorem d_Ev_secondSignalCard_46 : decode prog_4_method_17_code 46 = .ok (.aload_n 0, 1) := by decide +kernel
theorem d_Ev_secondSignalCard_47 : decode prog_4_method_17_code 47 = .ok (.getfield 21, 3) := by decide +kernel
theorem d_Ev_secondSignalCard_50 : decode prog_4_method_17_code 50 = .ok (.aload_n 0, 1) := by decide +kernel
theorem d_Ev_secondSignalCard_51 : decode prog_4_method_17_code 51 = .ok (.getfield 52, 3) := by decide +kernel
theorem d_Ev_secondSignalCard_54 : decode prog_4_method_17_code 54 = .ok (.iload_n 1, 1) := by decide +kernel
theorem d_Ev_secondSignalCard_55 : decode prog_4_method_17_code 55 = .ok (.invokevirtual 142, 3) := by decide +kernel
theorem d_Ev_secondSignalCard_58 : decode prog_4_method_17_code 58 = .ok (.iload_n 3, 1) := by decide +kernel
theorem d_Ev_secondSignalCard_59 : decode prog_4_method_17_code 59 = .ok (.invokestatic 145, 3) := by decide +kernel
theorem d_Ev_secondSignalCard_62 : decode prog_4_method_17_code 62 = .ok (.iload_n 2, 1) := by decide +kernel
theorem d_Ev_secondSignalCard_63 : decode prog_4_method_17_code 63 = .ok (.if_icmp .ne 5, 3) := by decide +kernel
theorem d_Ev_secondSignalCard_66 : decode prog_4_method_17_code 66 = .ok (.iload_n 3, 1) := by decide +kernel
theorem d_Ev_secondSignalCard_67 : decode prog_4_method_17_code 67 = .ok (.ireturn, 1) := by decide +kernel
theorem d_Ev_secondSignalCard_68 : decode prog_4_method_17_code 68 = .ok (.iinc 3 1, 3) := by decide +kernel
theorem d_Ev_secondSignalCard_71 : decode prog_4_method_17_code 71 = .ok (.goto (-50), 3) := by decide +kernel
theorem d_Ev_secondSignalCard_74 : decode prog_4_method_17_code 74 = .ok (.iconst (-1), 1) := by decide +kernel
theorem d_Ev_secondSignalCard_75 : decode prog_4_method_17_code 75 = .ok (.ireturn, 1) := by decide +kernel
theorem w_588 : Cond.methodLink "DropSignals$Evening" 142 ⟨"DropSignals$Drops", "first", "(II)I"⟩ ∈ gWs := gWs_in (i := 588) (by decide +kernel) rfl
theorem w_592 : Cond.methodLink "DropSignals$Evening" 145 ⟨"DropSignals$Drops", "told", "(II)I"⟩ ∈ gWs := gWs_in (i := 592) (by decide +kernel) rfl
noncomputable def f_Ev_secondSignalCard_b68 (e : Nat) (M : gMem) (x1 : Int32) (x2 : Int32) (x3 : Int32) : Option (Int32 ⊕ Int32) :=
  some (.inl (x3 + 1))
theorem t_Ev_secondSignalCard_b68 {l : Launch} {ε : gEnv} (e : Nat) (hE : gEv ε e) (M : gMem) (x1 : Int32) (x2 : Int32) (x3 : Int32) (res : (Int32 ⊕ Int32)) (h : f_Ev_secondSignalCard_b68 e M x1 x2 x3 = some res) (r : Int32) (k1 : ∀ s0 : Int32, res = .inl s0 → gGo l ε k_Ev_secondSignalCard (gR 2 45) (gFn ε (some (.int r)) M) 21 [(0, .ref (ε.2.2.1 e 0)), (1, .int x1), (2, .int x2), (3, .int s0)] [] M) (k2 : ∀ r', res = .inr r' → r' = r) : gGo l ε k_Ev_secondSignalCard (gR 2 45) (gFn ε (some (.int r)) M) 68 [(0, .ref (ε.2.2.1 e 0)), (1, .int x1), (2, .int x2), (3, .int x3)] [] M := by
  unfold f_Ev_secondSignalCard_b68 at h
  refine g_iinc (v := (x3 + 1)) (L' := [(3, .int (x3 + 1)), (0, .ref (ε.2.2.1 e 0)), (1, .int x1), (2, .int x2)]) d_Ev_secondSignalCard_68 (j := 3) rfl rfl (by decide) rfl ?_
  refine g_goto (tgt := 21) d_Ev_secondSignalCard_71 (by decide) ?_
  refine gGo_sub [1, 2, 3, 0] rfl ?_
  obtain rfl := Option.some.inj h
  exact k1 (x3 + 1) rfl
noncomputable def f_Ev_secondSignalCard_s21 (e : Nat) (M : gMem) (x1 : Int32) (x2 : Int32) (x3 : Int32) : Option (Int32 ⊕ Int32) :=
  if ((x1 * 8) + 4) ≤ x3 then
    some (.inr (-1))
  else
    (f_Cards_holder e M x3).bind fun q3 =>
    if q3 = (M e 0 6) then
      (f_Drops_first e M (M e 0 6) x1).bind fun q4 =>
      (f_Drops_told q4 x3).bind fun q5 =>
      if q5 = x2 then
        some (.inr x3)
      else
        f_Ev_secondSignalCard_b68 e M x1 x2 x3
    else
      f_Ev_secondSignalCard_b68 e M x1 x2 x3
theorem t_Ev_secondSignalCard_s21 {l : Launch} {ε : gEnv} (e : Nat) (hE : gEv ε e) (M : gMem) (x1 : Int32) (x2 : Int32) (x3 : Int32) (res : (Int32 ⊕ Int32)) (h : f_Ev_secondSignalCard_s21 e M x1 x2 x3 = some res) (r : Int32) (k1 : ∀ s0 : Int32, res = .inl s0 → gGo l ε k_Ev_secondSignalCard (gR 2 45) (gFn ε (some (.int r)) M) 21 [(0, .ref (ε.2.2.1 e 0)), (1, .int x1), (2, .int x2), (3, .int s0)] [] M) (k2 : ∀ r', res = .inr r' → r' = r) : gGo l ε k_Ev_secondSignalCard (gR 2 45) (gFn ε (some (.int r)) M) 21 [(0, .ref (ε.2.2.1 e 0)), (1, .int x1), (2, .int x2), (3, .int x3)] [] M := by
  unfold f_Ev_secondSignalCard_s21 at h
  refine g_iload_n d_Ev_secondSignalCard_21 rfl 3 rfl ?_
  refine g_iload_n d_Ev_secondSignalCard_22 rfl 1 rfl ?_
  refine g_bipush (v := 8) d_Ev_secondSignalCard_23 (by decide) ?_
  refine g_imul d_Ev_secondSignalCard_25 ?_
  refine g_iconst (v := 4) d_Ev_secondSignalCard_26 (by decide) ?_
  refine g_iadd d_Ev_secondSignalCard_27 ?_
  refine g_icmp_ge (tgt := 74) d_Ev_secondSignalCard_28 (by decide) (fun c8 => ?_) (fun c8 => ?_)
  · rw [if_pos c8] at h
    refine g_iconst (v := -1) d_Ev_secondSignalCard_74 (by decide) ?_
    obtain rfl := Option.some.inj h
    have e9 := k2 _ rfl
    subst e9
    exact g_iret d_Ev_secondSignalCard_75 rfl
  · rw [if_neg c8] at h
    refine g_aload_n d_Ev_secondSignalCard_31 rfl 0 rfl ?_
    refine g_getR d_Ev_secondSignalCard_32 fl_Ev_12 (gEv_h0 hE) rfl ?_
    refine g_iload_n d_Ev_secondSignalCard_35 rfl 3 rfl ?_
    obtain ⟨q3, hq3, h⟩ := gOb h
    refine g_callV_i (As := [.int x3]) (rest := []) (ct_Cards_holder e (gEv_cd hE) M x3 _ hq3) d_Ev_secondSignalCard_36 ca_Cards_holder w_482 (gEv_h1 hE) rfl rfl rfl (Nat.le_of_ble_eq_true rfl) ⟨(Nat.le_of_ble_eq_true rfl), (Nat.le_of_ble_eq_true rfl)⟩ ?_
    refine g_aload_n d_Ev_secondSignalCard_39 rfl 0 rfl ?_
    refine g_getI d_Ev_secondSignalCard_40 fl_Ev_52 (gEv_h0 hE) rfl ?_
    refine g_icmp_ne (tgt := 68) d_Ev_secondSignalCard_43 (by decide) (fun c7 => ?_) (fun c7 => ?_)
    · rw [if_neg c7] at h
      exact t_Ev_secondSignalCard_b68 e hE M x1 x2 x3 _ h r k1 k2
    · rw [if_pos c7] at h
      refine g_aload_n d_Ev_secondSignalCard_46 rfl 0 rfl ?_
      refine g_getR d_Ev_secondSignalCard_47 fl_Ev_21 (gEv_h0 hE) rfl ?_
      refine g_aload_n d_Ev_secondSignalCard_50 rfl 0 rfl ?_
      refine g_getI d_Ev_secondSignalCard_51 fl_Ev_52 (gEv_h0 hE) rfl ?_
      refine g_iload_n d_Ev_secondSignalCard_54 rfl 1 rfl ?_
      obtain ⟨q4, hq4, h⟩ := gOb h
      refine g_callV_i (As := [.int (M e 0 6), .int x1]) (rest := []) (ct_Drops_first e (gEv_dr hE) M (M e 0 6) x1 _ hq4) d_Ev_secondSignalCard_55 ca_Drops_first w_588 (gEv_h2 hE) rfl rfl rfl (Nat.le_of_ble_eq_true rfl) ⟨(Nat.le_of_ble_eq_true rfl), (Nat.le_of_ble_eq_true rfl)⟩ ?_
      refine g_iload_n d_Ev_secondSignalCard_58 rfl 3 rfl ?_
      obtain ⟨q5, hq5, h⟩ := gOb h
      refine g_callS_i (As := [.int q4, .int x3]) (rest := []) (ct_Drops_told M q4 x3 _ hq5) d_Ev_secondSignalCard_59 ca_Drops_told w_592 rfl rfl (Nat.le_of_ble_eq_true rfl) ⟨(Nat.le_of_ble_eq_true rfl), (Nat.le_of_ble_eq_true rfl)⟩ ?_
      refine g_iload_n d_Ev_secondSignalCard_62 rfl 2 rfl ?_
      refine g_icmp_ne (tgt := 68) d_Ev_secondSignalCard_63 (by decide) (fun c6 => ?_) (fun c6 => ?_)
      · rw [if_neg c6] at h
        exact t_Ev_secondSignalCard_b68 e hE M x1 x2 x3 _ h r k1 k2
      · rw [if_pos c6] at h
        refine g_iload_n d_Ev_secondSignalCard_66 rfl 3 rfl ?_
        obtain rfl := Option.some.inj h
        have e9 := k2 _ rfl
        subst e9
        exact g_iret d_Ev_secondSignalCard_67 rfl
noncomputable def f_Ev_secondSignalCard_l21 (e : Nat) (M : gMem) (x1 : Int32) (x2 : Int32) (s : Int32) : Option Int32 := gLp (fun s => f_Ev_secondSignalCard_s21 e M x1 x2 s) s
theorem t_Ev_secondSignalCard_l21 {l : Launch} {ε : gEnv} (e : Nat) (hE : gEv ε e) (M : gMem) (x1 : Int32) (x2 : Int32) (s : Int32) (r : Int32) (h : f_Ev_secondSignalCard_l21 e M x1 x2 s = some r) : gGo l ε k_Ev_secondSignalCard (gR 2 45) (gFn ε (some (.int r)) M) 21 [(0, .ref (ε.2.2.1 e 0)), (1, .int x1), (2, .int x2), (3, .int s)] [] M :=
  g_loop _ (fun r s => gGo l ε k_Ev_secondSignalCard (gR 2 45) (gFn ε (some (.int r)) M) 21 [(0, .ref (ε.2.2.1 e 0)), (1, .int x1), (2, .int x2), (3, .int s)] [] M) (fun s res h r k1 k2 => t_Ev_secondSignalCard_s21 e hE M x1 x2 s res h r k1 k2) s r h
noncomputable def f_Ev_secondSignalCard (e : Nat) (M : gMem) (a0 : Int32) : Option Int32 :=
  (f_Cards_dealt e M (M e 0 6) a0).bind fun q1 =>
  (f_Drops_truthFor q1).bind fun q2 =>
  f_Ev_secondSignalCard_l21 e M a0 q2 (a0 * 8)
theorem t_Ev_secondSignalCard {l : Launch} {ε : gEnv} (e : Nat) (hE : gEv ε e) (M : gMem) (a0 : Int32) (r : Int32) (h : f_Ev_secondSignalCard e M a0 = some r) : gGo l ε k_Ev_secondSignalCard (gR 2 45) (gFn ε (some (.int r)) M) 0 [(0, .ref (ε.2.2.1 e 0)), (1, .int a0)] [] M := by
  unfold f_Ev_secondSignalCard at h
  refine g_aload_n d_Ev_secondSignalCard_0 rfl 0 rfl ?_
  refine g_getR d_Ev_secondSignalCard_1 fl_Ev_12 (gEv_h0 hE) rfl ?_
  refine g_aload_n d_Ev_secondSignalCard_4 rfl 0 rfl ?_
  refine g_getI d_Ev_secondSignalCard_5 fl_Ev_52 (gEv_h0 hE) rfl ?_
  refine g_iload_n d_Ev_secondSignalCard_8 rfl 1 rfl ?_
  obtain ⟨q1, hq1, h⟩ := gOb h
  refine g_callV_i (As := [.int (M e 0 6), .int a0]) (rest := []) (ct_Cards_dealt e (gEv_cd hE) M (M e 0 6) a0 _ hq1) d_Ev_secondSignalCard_9 ca_Cards_dealt w_533 (gEv_h1 hE) rfl rfl rfl (Nat.le_of_ble_eq_true rfl) ⟨(Nat.le_of_ble_eq_true rfl), (Nat.le_of_ble_eq_true rfl)⟩ ?_
  obtain ⟨q2, hq2, h⟩ := gOb h
  refine g_callS_i (As := [.int q1]) (rest := []) (ct_Drops_truthFor M q1 _ hq2) d_Ev_secondSignalCard_12 ca_Drops_truthFor w_541 rfl rfl (Nat.le_of_ble_eq_true rfl) ⟨(Nat.le_of_ble_eq_true rfl), (Nat.le_of_ble_eq_true rfl)⟩ ?_
  refine g_istore_n (L' := [(2, .int q2), (0, .ref (ε.2.2.1 e 0)), (1, .int a0)]) d_Ev_secondSignalCard_15 rfl (by decide) rfl ?_
  refine g_iload_n d_Ev_secondSignalCard_16 rfl 2 rfl ?_
  refine g_bipush (v := 8) d_Ev_secondSignalCard_17 (by decide) ?_
  refine g_imul d_Ev_secondSignalCard_19 ?_
  refine g_istore_n (L' := [(3, .int (a0 * 8)), (2, .int q2), (0, .ref (ε.2.2.1 e 0)), (1, .int a0)]) d_Ev_secondSignalCard_20 rfl (by decide) rfl ?_
  refine gGo_sub [2, 3, 1, 0] rfl ?_
  exact t_Ev_secondSignalCard_l21 e hE M a0 q2 (a0 * 8) _ h
theorem ct_Ev_secondSignalCard {l : Launch} {ε : gEnv} (e : Nat) (hE : gEv ε e) (M : gMem) (a0 : Int32) (r : Int32) (h : f_Ev_secondSignalCard e M a0 = some r) : gCt l ε k_Ev_secondSignalCard 2 45 [.ref (ε.2.2.1 e 0), .int a0] M (some (.int r)) M :=
  gCt_of (by decide) (Nat.le_of_ble_eq_true rfl) rfl (t_Ev_secondSignalCard e hE M a0 r h)
abbrev k_Ev_lowestPlayable : gMD := (⟨"DropSignals$Evening", "lowestPlayable", "(I)I"⟩, prog_4_method_18_code, 5, (some .int))
theorem w_595 : Cond.instanceMethod ⟨"DropSignals$Evening", "lowestPlayable", "(I)I"⟩ ∈ gWs := gWs_in (i := 595) (by decide +kernel) rfl
theorem w_11 : Cond.selects "DropSignals$Evening" ⟨"DropSignals$Evening", "lowestPlayable", "(I)I"⟩ ⟨"DropSignals$Evening", "lowestPlayable", "(I)I"⟩ ∈ gWs := gWs_in (i := 11) (by decide +kernel) rfl
set_option maxRecDepth 100000 in
theorem ca_Ev_lowestPlayable : gCaV k_Ev_lowestPlayable 1 := ⟨⟨gWs_in (i := 596) rfl rfl, w_21, by decide, by decide, by decide +kernel⟩, w_595, w_11⟩
theorem d_Ev_lowestPlayable_0 : decode prog_4_method_18_code 0 = .ok (.iconst (-1), 1) := by decide +kernel
theorem d_Ev_lowestPlayable_1 : decode prog_4_method_18_code 1 = .ok (.istore_n 2, 1) := by decide +kernel
theorem d_Ev_lowestPlayable_2 : decode prog_4_method_18_code 2 = .ok (.iconst 0, 1) := by decide +kernel
theorem d_Ev_lowestPlayable_3 : decode prog_4_method_18_code 3 = .ok (.istore_n 3, 1) := by decide +kernel
theorem d_Ev_lowestPlayable_4 : decode prog_4_method_18_code 4 = .ok (.iload_n 3, 1) := by decide +kernel
theorem d_Ev_lowestPlayable_5 : decode prog_4_method_18_code 5 = .ok (.bipush 32, 2) := by decide +kernel
theorem d_Ev_lowestPlayable_7 : decode prog_4_method_18_code 7 = .ok (.if_icmp .ge 67, 3) := by decide +kernel
theorem d_Ev_lowestPlayable_10 : decode prog_4_method_18_code 10 = .ok (.aload_n 0, 1) := by decide +kernel
theorem d_Ev_lowestPlayable_11 : decode prog_4_method_18_code 11 = .ok (.getfield 12, 3) := by decide +kernel
theorem d_Ev_lowestPlayable_14 : decode prog_4_method_18_code 14 = .ok (.iload_n 3, 1) := by decide +kernel
theorem d_Ev_lowestPlayable_15 : decode prog_4_method_18_code 15 = .ok (.invokevirtual 121, 3) := by decide +kernel
theorem d_Ev_lowestPlayable_18 : decode prog_4_method_18_code 18 = .ok (.aload_n 0, 1) := by decide +kernel
theorem d_Ev_lowestPlayable_19 : decode prog_4_method_18_code 19 = .ok (.getfield 52, 3) := by decide +kernel
theorem d_Ev_lowestPlayable_22 : decode prog_4_method_18_code 22 = .ok (.if_icmp .ne 20, 3) := by decide +kernel
theorem d_Ev_lowestPlayable_25 : decode prog_4_method_18_code 25 = .ok (.iload_n 1, 1) := by decide +kernel
theorem d_Ev_lowestPlayable_26 : decode prog_4_method_18_code 26 = .ok (.iconst (-1), 1) := by decide +kernel
theorem d_Ev_lowestPlayable_27 : decode prog_4_method_18_code 27 = .ok (.if_icmp .eq 11, 3) := by decide +kernel
theorem d_Ev_lowestPlayable_30 : decode prog_4_method_18_code 30 = .ok (.iload_n 3, 1) := by decide +kernel
theorem d_Ev_lowestPlayable_31 : decode prog_4_method_18_code 31 = .ok (.bipush 8, 2) := by decide +kernel
theorem d_Ev_lowestPlayable_33 : decode prog_4_method_18_code 33 = .ok (.idiv, 1) := by decide +kernel
theorem d_Ev_lowestPlayable_34 : decode prog_4_method_18_code 34 = .ok (.iload_n 1, 1) := by decide +kernel
theorem d_Ev_lowestPlayable_35 : decode prog_4_method_18_code 35 = .ok (.if_icmp .ne 7, 3) := by decide +kernel
theorem d_Ev_lowestPlayable_38 : decode prog_4_method_18_code 38 = .ok (.iconst 1, 1) := by decide +kernel
theorem d_Ev_lowestPlayable_39 : decode prog_4_method_18_code 39 = .ok (.goto 4, 3) := by decide +kernel
theorem d_Ev_lowestPlayable_42 : decode prog_4_method_18_code 42 = .ok (.iconst 0, 1) := by decide +kernel
theorem d_Ev_lowestPlayable_43 : decode prog_4_method_18_code 43 = .ok (.istore 4, 2) := by decide +kernel
theorem d_Ev_lowestPlayable_45 : decode prog_4_method_18_code 45 = .ok (.iload 4, 2) := by decide +kernel
theorem d_Ev_lowestPlayable_47 : decode prog_4_method_18_code 47 = .ok (.ifCond .eq 21, 3) := by decide +kernel
theorem d_Ev_lowestPlayable_50 : decode prog_4_method_18_code 50 = .ok (.iload_n 2, 1) := by decide +kernel
theorem d_Ev_lowestPlayable_51 : decode prog_4_method_18_code 51 = .ok (.iconst (-1), 1) := by decide +kernel
theorem d_Ev_lowestPlayable_52 : decode prog_4_method_18_code 52 = .ok (.if_icmp .eq 14, 3) := by decide +kernel
theorem d_Ev_lowestPlayable_55 : decode prog_4_method_18_code 55 = .ok (.iload_n 3, 1) := by decide +kernel
theorem d_Ev_lowestPlayable_56 : decode prog_4_method_18_code 56 = .ok (.bipush 8, 2) := by decide +kernel
theorem d_Ev_lowestPlayable_58 : decode prog_4_method_18_code 58 = .ok (.irem, 1) := by decide +kernel
theorem d_Ev_lowestPlayable_59 : decode prog_4_method_18_code 59 = .ok (.iload_n 2, 1) := by decide +kernel
theorem d_Ev_lowestPlayable_60 : decode prog_4_method_18_code 60 = .ok (.bipush 8, 2) := by decide +kernel
theorem d_Ev_lowestPlayable_62 : decode prog_4_method_18_code 62 = .ok (.irem, 1) := by decide +kernel
theorem d_Ev_lowestPlayable_63 : decode prog_4_method_18_code 63 = .ok (.if_icmp .ge 5, 3) := by decide +kernel
theorem d_Ev_lowestPlayable_66 : decode prog_4_method_18_code 66 = .ok (.iload_n 3, 1) := by decide +kernel
theorem d_Ev_lowestPlayable_67 : decode prog_4_method_18_code 67 = .ok (.istore_n 2, 1) := by decide +kernel
theorem d_Ev_lowestPlayable_68 : decode prog_4_method_18_code 68 = .ok (.iinc 3 1, 3) := by decide +kernel
theorem d_Ev_lowestPlayable_71 : decode prog_4_method_18_code 71 = .ok (.goto (-67), 3) := by decide +kernel
theorem d_Ev_lowestPlayable_74 : decode prog_4_method_18_code 74 = .ok (.iload_n 2, 1) := by decide +kernel
theorem d_Ev_lowestPlayable_75 : decode prog_4_method_18_code 75 = .ok (.ireturn, 1) := by decide +kernel
noncomputable def f_Ev_lowestPlayable_b68 (e : Nat) (M : gMem) (x1 : Int32) (x2 : Int32) (x3 : Int32) : Option ((Int32 × Int32) ⊕ Int32) :=
  some (.inl (x2, (x3 + 1)))
theorem t_Ev_lowestPlayable_b68 {l : Launch} {ε : gEnv} (e : Nat) (hE : gEv ε e) (M : gMem) (x1 : Int32) (x2 : Int32) (x3 : Int32) (res : ((Int32 × Int32) ⊕ Int32)) (h : f_Ev_lowestPlayable_b68 e M x1 x2 x3 = some res) (r : Int32) (k1 : ∀ s0 : (Int32 × Int32), res = .inl s0 → gGo l ε k_Ev_lowestPlayable (gR 1 21) (gFn ε (some (.int r)) M) 4 [(0, .ref (ε.2.2.1 e 0)), (1, .int x1), (2, .int s0.1), (3, .int s0.2)] [] M) (k2 : ∀ r', res = .inr r' → r' = r) : gGo l ε k_Ev_lowestPlayable (gR 1 21) (gFn ε (some (.int r)) M) 68 [(0, .ref (ε.2.2.1 e 0)), (1, .int x1), (2, .int x2), (3, .int x3)] [] M := by
  unfold f_Ev_lowestPlayable_b68 at h
  refine g_iinc (v := (x3 + 1)) (L' := [(3, .int (x3 + 1)), (0, .ref (ε.2.2.1 e 0)), (1, .int x1), (2, .int x2)]) d_Ev_lowestPlayable_68 (j := 3) rfl rfl (by decide) rfl ?_
  refine g_goto (tgt := 4) d_Ev_lowestPlayable_71 (by decide) ?_
  refine gGo_sub [1, 2, 3, 0] rfl ?_
  obtain rfl := Option.some.inj h
  exact k1 (x2, (x3 + 1)) rfl
noncomputable def f_Ev_lowestPlayable_b66 (e : Nat) (M : gMem) (x1 : Int32) (x3 : Int32) : Option ((Int32 × Int32) ⊕ Int32) :=
  f_Ev_lowestPlayable_b68 e M x1 x3 x3
theorem t_Ev_lowestPlayable_b66 {l : Launch} {ε : gEnv} (e : Nat) (hE : gEv ε e) (M : gMem) (x1 : Int32) (x3 : Int32) (res : ((Int32 × Int32) ⊕ Int32)) (h : f_Ev_lowestPlayable_b66 e M x1 x3 = some res) (r : Int32) (k1 : ∀ s0 : (Int32 × Int32), res = .inl s0 → gGo l ε k_Ev_lowestPlayable (gR 1 21) (gFn ε (some (.int r)) M) 4 [(0, .ref (ε.2.2.1 e 0)), (1, .int x1), (2, .int s0.1), (3, .int s0.2)] [] M) (k2 : ∀ r', res = .inr r' → r' = r) : gGo l ε k_Ev_lowestPlayable (gR 1 21) (gFn ε (some (.int r)) M) 66 [(0, .ref (ε.2.2.1 e 0)), (1, .int x1), (3, .int x3)] [] M := by
  unfold f_Ev_lowestPlayable_b66 at h
  refine g_iload_n d_Ev_lowestPlayable_66 rfl 2 rfl ?_
  refine g_istore_n (L' := [(2, .int x3), (0, .ref (ε.2.2.1 e 0)), (1, .int x1), (3, .int x3)]) d_Ev_lowestPlayable_67 rfl (by decide) rfl ?_
  refine gGo_sub [1, 2, 0, 3] rfl ?_
  exact t_Ev_lowestPlayable_b68 e hE M x1 x3 x3 _ h r k1 k2
noncomputable def f_Ev_lowestPlayable_b43 (e : Nat) (M : gMem) (x1 : Int32) (x2 : Int32) (x3 : Int32) (s0 : Int32) : Option ((Int32 × Int32) ⊕ Int32) :=
  if s0 = 0 then
    f_Ev_lowestPlayable_b68 e M x1 x2 x3
  else
    if x2 = (-1) then
      f_Ev_lowestPlayable_b66 e M x1 x3
    else
      if (gRem x2 8) ≤ (gRem x3 8) then
        f_Ev_lowestPlayable_b68 e M x1 x2 x3
      else
        f_Ev_lowestPlayable_b66 e M x1 x3
theorem t_Ev_lowestPlayable_b43 {l : Launch} {ε : gEnv} (e : Nat) (hE : gEv ε e) (M : gMem) (x1 : Int32) (x2 : Int32) (x3 : Int32) (s0 : Int32) (res : ((Int32 × Int32) ⊕ Int32)) (h : f_Ev_lowestPlayable_b43 e M x1 x2 x3 s0 = some res) (r : Int32) (k1 : ∀ s0 : (Int32 × Int32), res = .inl s0 → gGo l ε k_Ev_lowestPlayable (gR 1 21) (gFn ε (some (.int r)) M) 4 [(0, .ref (ε.2.2.1 e 0)), (1, .int x1), (2, .int s0.1), (3, .int s0.2)] [] M) (k2 : ∀ r', res = .inr r' → r' = r) : gGo l ε k_Ev_lowestPlayable (gR 1 21) (gFn ε (some (.int r)) M) 43 [(0, .ref (ε.2.2.1 e 0)), (1, .int x1), (2, .int x2), (3, .int x3)] [.int s0] M := by
  unfold f_Ev_lowestPlayable_b43 at h
  refine g_istore (L' := [(4, .int s0), (0, .ref (ε.2.2.1 e 0)), (1, .int x1), (2, .int x2), (3, .int x3)]) d_Ev_lowestPlayable_43 (by decide) rfl ?_
  refine g_iload d_Ev_lowestPlayable_45 0 rfl ?_
  refine g_if_eq (tgt := 68) d_Ev_lowestPlayable_47 (by decide) (fun c4 => ?_) (fun c4 => ?_)
  · rw [if_pos c4] at h
    refine gGo_sub [1, 2, 3, 4] rfl ?_
    exact t_Ev_lowestPlayable_b68 e hE M x1 x2 x3 _ h r k1 k2
  · rw [if_neg c4] at h
    refine g_iload_n d_Ev_lowestPlayable_50 rfl 3 rfl ?_
    refine g_iconst (v := -1) d_Ev_lowestPlayable_51 (by decide) ?_
    refine g_icmp_eq (tgt := 66) d_Ev_lowestPlayable_52 (by decide) (fun c3 => ?_) (fun c3 => ?_)
    · rw [if_pos c3] at h
      refine gGo_sub [1, 2, 4] rfl ?_
      exact t_Ev_lowestPlayable_b66 e hE M x1 x3 _ h r k1 k2
    · rw [if_neg c3] at h
      refine g_iload_n d_Ev_lowestPlayable_55 rfl 4 rfl ?_
      refine g_bipush (v := 8) d_Ev_lowestPlayable_56 (by decide) ?_
      refine g_rem d_Ev_lowestPlayable_58 (by decide) ?_
      refine g_iload_n d_Ev_lowestPlayable_59 rfl 3 rfl ?_
      refine g_bipush (v := 8) d_Ev_lowestPlayable_60 (by decide) ?_
      refine g_rem d_Ev_lowestPlayable_62 (by decide) ?_
      refine g_icmp_ge (tgt := 68) d_Ev_lowestPlayable_63 (by decide) (fun c2 => ?_) (fun c2 => ?_)
      · rw [if_pos c2] at h
        refine gGo_sub [1, 2, 3, 4] rfl ?_
        exact t_Ev_lowestPlayable_b68 e hE M x1 x2 x3 _ h r k1 k2
      · rw [if_neg c2] at h
        refine gGo_sub [1, 2, 4] rfl ?_
        exact t_Ev_lowestPlayable_b66 e hE M x1 x3 _ h r k1 k2
noncomputable def f_Ev_lowestPlayable_b42 (e : Nat) (M : gMem) (x1 : Int32) (x2 : Int32) (x3 : Int32) : Option ((Int32 × Int32) ⊕ Int32) :=
  f_Ev_lowestPlayable_b43 e M x1 x2 x3 0
theorem t_Ev_lowestPlayable_b42 {l : Launch} {ε : gEnv} (e : Nat) (hE : gEv ε e) (M : gMem) (x1 : Int32) (x2 : Int32) (x3 : Int32) (res : ((Int32 × Int32) ⊕ Int32)) (h : f_Ev_lowestPlayable_b42 e M x1 x2 x3 = some res) (r : Int32) (k1 : ∀ s0 : (Int32 × Int32), res = .inl s0 → gGo l ε k_Ev_lowestPlayable (gR 1 21) (gFn ε (some (.int r)) M) 4 [(0, .ref (ε.2.2.1 e 0)), (1, .int x1), (2, .int s0.1), (3, .int s0.2)] [] M) (k2 : ∀ r', res = .inr r' → r' = r) : gGo l ε k_Ev_lowestPlayable (gR 1 21) (gFn ε (some (.int r)) M) 42 [(0, .ref (ε.2.2.1 e 0)), (1, .int x1), (2, .int x2), (3, .int x3)] [] M := by
  unfold f_Ev_lowestPlayable_b42 at h
  refine g_iconst (v := 0) d_Ev_lowestPlayable_42 (by decide) ?_
  exact t_Ev_lowestPlayable_b43 e hE M x1 x2 x3 0 _ h r k1 k2
noncomputable def f_Ev_lowestPlayable_b38 (e : Nat) (M : gMem) (x1 : Int32) (x2 : Int32) (x3 : Int32) : Option ((Int32 × Int32) ⊕ Int32) :=
  f_Ev_lowestPlayable_b43 e M x1 x2 x3 1
theorem t_Ev_lowestPlayable_b38 {l : Launch} {ε : gEnv} (e : Nat) (hE : gEv ε e) (M : gMem) (x1 : Int32) (x2 : Int32) (x3 : Int32) (res : ((Int32 × Int32) ⊕ Int32)) (h : f_Ev_lowestPlayable_b38 e M x1 x2 x3 = some res) (r : Int32) (k1 : ∀ s0 : (Int32 × Int32), res = .inl s0 → gGo l ε k_Ev_lowestPlayable (gR 1 21) (gFn ε (some (.int r)) M) 4 [(0, .ref (ε.2.2.1 e 0)), (1, .int x1), (2, .int s0.1), (3, .int s0.2)] [] M) (k2 : ∀ r', res = .inr r' → r' = r) : gGo l ε k_Ev_lowestPlayable (gR 1 21) (gFn ε (some (.int r)) M) 38 [(0, .ref (ε.2.2.1 e 0)), (1, .int x1), (2, .int x2), (3, .int x3)] [] M := by
  unfold f_Ev_lowestPlayable_b38 at h
  refine g_iconst (v := 1) d_Ev_lowestPlayable_38 (by decide) ?_
  refine g_goto (tgt := 43) d_Ev_lowestPlayable_39 (by decide) ?_
  exact t_Ev_lowestPlayable_b43 e hE M x1 x2 x3 1 _ h r k1 k2
noncomputable def f_Ev_lowestPlayable_s4 (e : Nat) (M : gMem) (x1 : Int32) (x2 : Int32) (x3 : Int32) : Option ((Int32 × Int32) ⊕ Int32) :=
  if 32 ≤ x3 then
    some (.inr x2)
  else
    (f_Cards_holder e M x3).bind fun q1 =>
    if q1 = (M e 0 6) then
      if x1 = (-1) then
        f_Ev_lowestPlayable_b38 e M x1 x2 x3
      else
        if (x3 / 8) = x1 then
          f_Ev_lowestPlayable_b38 e M x1 x2 x3
        else
          f_Ev_lowestPlayable_b42 e M x1 x2 x3
    else
      f_Ev_lowestPlayable_b42 e M x1 x2 x3
theorem t_Ev_lowestPlayable_s4 {l : Launch} {ε : gEnv} (e : Nat) (hE : gEv ε e) (M : gMem) (x1 : Int32) (x2 : Int32) (x3 : Int32) (res : ((Int32 × Int32) ⊕ Int32)) (h : f_Ev_lowestPlayable_s4 e M x1 x2 x3 = some res) (r : Int32) (k1 : ∀ s0 : (Int32 × Int32), res = .inl s0 → gGo l ε k_Ev_lowestPlayable (gR 1 21) (gFn ε (some (.int r)) M) 4 [(0, .ref (ε.2.2.1 e 0)), (1, .int x1), (2, .int s0.1), (3, .int s0.2)] [] M) (k2 : ∀ r', res = .inr r' → r' = r) : gGo l ε k_Ev_lowestPlayable (gR 1 21) (gFn ε (some (.int r)) M) 4 [(0, .ref (ε.2.2.1 e 0)), (1, .int x1), (2, .int x2), (3, .int x3)] [] M := by
  unfold f_Ev_lowestPlayable_s4 at h
  refine g_iload_n d_Ev_lowestPlayable_4 rfl 3 rfl ?_
  refine g_bipush (v := 32) d_Ev_lowestPlayable_5 (by decide) ?_
  refine g_icmp_ge (tgt := 74) d_Ev_lowestPlayable_7 (by decide) (fun c8 => ?_) (fun c8 => ?_)
  · rw [if_pos c8] at h
    refine g_iload_n d_Ev_lowestPlayable_74 rfl 2 rfl ?_
    obtain rfl := Option.some.inj h
    have e9 := k2 _ rfl
    subst e9
    exact g_iret d_Ev_lowestPlayable_75 rfl
  · rw [if_neg c8] at h
    refine g_aload_n d_Ev_lowestPlayable_10 rfl 0 rfl ?_
    refine g_getR d_Ev_lowestPlayable_11 fl_Ev_12 (gEv_h0 hE) rfl ?_
    refine g_iload_n d_Ev_lowestPlayable_14 rfl 3 rfl ?_
    obtain ⟨q1, hq1, h⟩ := gOb h
    refine g_callV_i (As := [.int x3]) (rest := []) (ct_Cards_holder e (gEv_cd hE) M x3 _ hq1) d_Ev_lowestPlayable_15 ca_Cards_holder w_482 (gEv_h1 hE) rfl rfl rfl (Nat.le_of_ble_eq_true rfl) ⟨(Nat.le_of_ble_eq_true rfl), (Nat.le_of_ble_eq_true rfl)⟩ ?_
    refine g_aload_n d_Ev_lowestPlayable_18 rfl 0 rfl ?_
    refine g_getI d_Ev_lowestPlayable_19 fl_Ev_52 (gEv_h0 hE) rfl ?_
    refine g_icmp_ne (tgt := 42) d_Ev_lowestPlayable_22 (by decide) (fun c7 => ?_) (fun c7 => ?_)
    · rw [if_neg c7] at h
      exact t_Ev_lowestPlayable_b42 e hE M x1 x2 x3 _ h r k1 k2
    · rw [if_pos c7] at h
      refine g_iload_n d_Ev_lowestPlayable_25 rfl 1 rfl ?_
      refine g_iconst (v := -1) d_Ev_lowestPlayable_26 (by decide) ?_
      refine g_icmp_eq (tgt := 38) d_Ev_lowestPlayable_27 (by decide) (fun c6 => ?_) (fun c6 => ?_)
      · rw [if_pos c6] at h
        exact t_Ev_lowestPlayable_b38 e hE M x1 x2 x3 _ h r k1 k2
      · rw [if_neg c6] at h
        refine g_iload_n d_Ev_lowestPlayable_30 rfl 3 rfl ?_
        refine g_bipush (v := 8) d_Ev_lowestPlayable_31 (by decide) ?_
        refine g_idiv d_Ev_lowestPlayable_33 (by decide) ?_
        refine g_iload_n d_Ev_lowestPlayable_34 rfl 1 rfl ?_
        refine g_icmp_ne (tgt := 42) d_Ev_lowestPlayable_35 (by decide) (fun c5 => ?_) (fun c5 => ?_)
        · rw [if_neg c5] at h
          exact t_Ev_lowestPlayable_b42 e hE M x1 x2 x3 _ h r k1 k2
        · rw [if_pos c5] at h
          exact t_Ev_lowestPlayable_b38 e hE M x1 x2 x3 _ h r k1 k2
noncomputable def f_Ev_lowestPlayable_l4 (e : Nat) (M : gMem) (x1 : Int32) (s : (Int32 × Int32)) : Option Int32 := gLp (fun s => f_Ev_lowestPlayable_s4 e M x1 s.1 s.2) s
theorem t_Ev_lowestPlayable_l4 {l : Launch} {ε : gEnv} (e : Nat) (hE : gEv ε e) (M : gMem) (x1 : Int32) (s : (Int32 × Int32)) (r : Int32) (h : f_Ev_lowestPlayable_l4 e M x1 s = some r) : gGo l ε k_Ev_lowestPlayable (gR 1 21) (gFn ε (some (.int r)) M) 4 [(0, .ref (ε.2.2.1 e 0)), (1, .int x1), (2, .int s.1), (3, .int s.2)] [] M :=
  g_loop _ (fun r s => gGo l ε k_Ev_lowestPlayable (gR 1 21) (gFn ε (some (.int r)) M) 4 [(0, .ref (ε.2.2.1 e 0)), (1, .int x1), (2, .int s.1), (3, .int s.2)] [] M) (fun s res h r k1 k2 => t_Ev_lowestPlayable_s4 e hE M x1 s.1 s.2 res h r k1 k2) s r h
noncomputable def f_Ev_lowestPlayable (e : Nat) (M : gMem) (a0 : Int32) : Option Int32 :=
  f_Ev_lowestPlayable_l4 e M a0 ((-1), 0)
theorem t_Ev_lowestPlayable {l : Launch} {ε : gEnv} (e : Nat) (hE : gEv ε e) (M : gMem) (a0 : Int32) (r : Int32) (h : f_Ev_lowestPlayable e M a0 = some r) : gGo l ε k_Ev_lowestPlayable (gR 1 21) (gFn ε (some (.int r)) M) 0 [(0, .ref (ε.2.2.1 e 0)), (1, .int a0)] [] M := by
  unfold f_Ev_lowestPlayable at h
  refine g_iconst (v := -1) d_Ev_lowestPlayable_0 (by decide) ?_
  refine g_istore_n (L' := [(2, .int (-1)), (0, .ref (ε.2.2.1 e 0)), (1, .int a0)]) d_Ev_lowestPlayable_1 rfl (by decide) rfl ?_
  refine g_iconst (v := 0) d_Ev_lowestPlayable_2 (by decide) ?_
  refine g_istore_n (L' := [(3, .int 0), (2, .int (-1)), (0, .ref (ε.2.2.1 e 0)), (1, .int a0)]) d_Ev_lowestPlayable_3 rfl (by decide) rfl ?_
  refine gGo_sub [2, 3, 1, 0] rfl ?_
  exact t_Ev_lowestPlayable_l4 e hE M a0 ((-1), 0) _ h
theorem ct_Ev_lowestPlayable {l : Launch} {ε : gEnv} (e : Nat) (hE : gEv ε e) (M : gMem) (a0 : Int32) (r : Int32) (h : f_Ev_lowestPlayable e M a0 = some r) : gCt l ε k_Ev_lowestPlayable 1 21 [.ref (ε.2.2.1 e 0), .int a0] M (some (.int r)) M :=
  gCt_of (by decide) (Nat.le_of_ble_eq_true rfl) rfl (t_Ev_lowestPlayable e hE M a0 r h)
abbrev k_Ev_advised : gMD := (⟨"DropSignals$Evening", "advised", "()I"⟩, prog_4_method_15_code, 3, (some .int))
theorem w_573 : Cond.instanceMethod ⟨"DropSignals$Evening", "advised", "()I"⟩ ∈ gWs := gWs_in (i := 573) (by decide +kernel) rfl
theorem w_574 : Cond.selects "DropSignals$Evening" ⟨"DropSignals$Evening", "advised", "()I"⟩ ⟨"DropSignals$Evening", "advised", "()I"⟩ ∈ gWs := gWs_in (i := 574) (by decide +kernel) rfl
set_option maxRecDepth 100000 in
theorem ca_Ev_advised : gCaV k_Ev_advised 0 := ⟨⟨gWs_in (i := 575) rfl rfl, w_21, by decide, by decide, by decide +kernel⟩, w_573, w_574⟩
theorem d_Ev_advised_0 : decode prog_4_method_15_code 0 = .ok (.aload_n 0, 1) := by decide +kernel
theorem d_Ev_advised_1 : decode prog_4_method_15_code 1 = .ok (.getfield 49, 3) := by decide +kernel
theorem d_Ev_advised_4 : decode prog_4_method_15_code 4 = .ok (.iconst 2, 1) := by decide +kernel
theorem d_Ev_advised_5 : decode prog_4_method_15_code 5 = .ok (.if_icmp .eq 5, 3) := by decide +kernel
theorem d_Ev_advised_8 : decode prog_4_method_15_code 8 = .ok (.iconst (-1), 1) := by decide +kernel
theorem d_Ev_advised_9 : decode prog_4_method_15_code 9 = .ok (.ireturn, 1) := by decide +kernel
theorem d_Ev_advised_10 : decode prog_4_method_15_code 10 = .ok (.aload_n 0, 1) := by decide +kernel
theorem d_Ev_advised_11 : decode prog_4_method_15_code 11 = .ok (.invokevirtual 124, 3) := by decide +kernel
theorem d_Ev_advised_14 : decode prog_4_method_15_code 14 = .ok (.istore_n 1, 1) := by decide +kernel
theorem d_Ev_advised_15 : decode prog_4_method_15_code 15 = .ok (.iconst (-1), 1) := by decide +kernel
theorem d_Ev_advised_16 : decode prog_4_method_15_code 16 = .ok (.istore_n 2, 1) := by decide +kernel
theorem d_Ev_advised_17 : decode prog_4_method_15_code 17 = .ok (.iload_n 1, 1) := by decide +kernel
theorem d_Ev_advised_18 : decode prog_4_method_15_code 18 = .ok (.iconst (-1), 1) := by decide +kernel
theorem d_Ev_advised_19 : decode prog_4_method_15_code 19 = .ok (.if_icmp .eq 27, 3) := by decide +kernel
theorem d_Ev_advised_22 : decode prog_4_method_15_code 22 = .ok (.aload_n 0, 1) := by decide +kernel
theorem d_Ev_advised_23 : decode prog_4_method_15_code 23 = .ok (.getfield 21, 3) := by decide +kernel
theorem d_Ev_advised_26 : decode prog_4_method_15_code 26 = .ok (.aload_n 0, 1) := by decide +kernel
theorem d_Ev_advised_27 : decode prog_4_method_15_code 27 = .ok (.getfield 52, 3) := by decide +kernel
theorem d_Ev_advised_30 : decode prog_4_method_15_code 30 = .ok (.iload_n 1, 1) := by decide +kernel
theorem d_Ev_advised_31 : decode prog_4_method_15_code 31 = .ok (.invokevirtual 130, 3) := by decide +kernel
theorem d_Ev_advised_34 : decode prog_4_method_15_code 34 = .ok (.ifCond .ne 12, 3) := by decide +kernel
theorem d_Ev_advised_37 : decode prog_4_method_15_code 37 = .ok (.aload_n 0, 1) := by decide +kernel
theorem d_Ev_advised_38 : decode prog_4_method_15_code 38 = .ok (.iload_n 1, 1) := by decide +kernel
theorem d_Ev_advised_39 : decode prog_4_method_15_code 39 = .ok (.invokevirtual 133, 3) := by decide +kernel
theorem d_Ev_advised_42 : decode prog_4_method_15_code 42 = .ok (.istore_n 2, 1) := by decide +kernel
theorem d_Ev_advised_43 : decode prog_4_method_15_code 43 = .ok (.goto 30, 3) := by decide +kernel
theorem d_Ev_advised_46 : decode prog_4_method_15_code 46 = .ok (.iload_n 1, 1) := by decide +kernel
theorem d_Ev_advised_47 : decode prog_4_method_15_code 47 = .ok (.iconst (-1), 1) := by decide +kernel
theorem d_Ev_advised_48 : decode prog_4_method_15_code 48 = .ok (.if_icmp .eq 25, 3) := by decide +kernel
theorem d_Ev_advised_51 : decode prog_4_method_15_code 51 = .ok (.aload_n 0, 1) := by decide +kernel
theorem d_Ev_advised_52 : decode prog_4_method_15_code 52 = .ok (.getfield 21, 3) := by decide +kernel
theorem d_Ev_advised_55 : decode prog_4_method_15_code 55 = .ok (.aload_n 0, 1) := by decide +kernel
theorem d_Ev_advised_56 : decode prog_4_method_15_code 56 = .ok (.getfield 52, 3) := by decide +kernel
theorem d_Ev_advised_59 : decode prog_4_method_15_code 59 = .ok (.iload_n 1, 1) := by decide +kernel
theorem d_Ev_advised_60 : decode prog_4_method_15_code 60 = .ok (.invokevirtual 130, 3) := by decide +kernel
theorem d_Ev_advised_63 : decode prog_4_method_15_code 63 = .ok (.iconst 1, 1) := by decide +kernel
theorem d_Ev_advised_64 : decode prog_4_method_15_code 64 = .ok (.if_icmp .ne 9, 3) := by decide +kernel
theorem d_Ev_advised_67 : decode prog_4_method_15_code 67 = .ok (.aload_n 0, 1) := by decide +kernel
theorem d_Ev_advised_68 : decode prog_4_method_15_code 68 = .ok (.iload_n 1, 1) := by decide +kernel
theorem d_Ev_advised_69 : decode prog_4_method_15_code 69 = .ok (.invokevirtual 136, 3) := by decide +kernel
theorem d_Ev_advised_72 : decode prog_4_method_15_code 72 = .ok (.istore_n 2, 1) := by decide +kernel
theorem d_Ev_advised_73 : decode prog_4_method_15_code 73 = .ok (.iload_n 2, 1) := by decide +kernel
theorem d_Ev_advised_74 : decode prog_4_method_15_code 74 = .ok (.iconst (-1), 1) := by decide +kernel
theorem d_Ev_advised_75 : decode prog_4_method_15_code 75 = .ok (.if_icmp .eq 7, 3) := by decide +kernel
theorem d_Ev_advised_78 : decode prog_4_method_15_code 78 = .ok (.iload_n 2, 1) := by decide +kernel
theorem d_Ev_advised_79 : decode prog_4_method_15_code 79 = .ok (.goto 8, 3) := by decide +kernel
theorem d_Ev_advised_82 : decode prog_4_method_15_code 82 = .ok (.aload_n 0, 1) := by decide +kernel
theorem d_Ev_advised_83 : decode prog_4_method_15_code 83 = .ok (.iload_n 1, 1) := by decide +kernel
theorem d_Ev_advised_84 : decode prog_4_method_15_code 84 = .ok (.invokevirtual 139, 3) := by decide +kernel
theorem d_Ev_advised_87 : decode prog_4_method_15_code 87 = .ok (.ireturn, 1) := by decide +kernel
theorem w_593 : Cond.methodLink "DropSignals$Evening" 139 ⟨"DropSignals$Evening", "lowestPlayable", "(I)I"⟩ ∈ gWs := gWs_in (i := 593) (by decide +kernel) rfl
theorem w_576 : Cond.methodLink "DropSignals$Evening" 130 ⟨"DropSignals$Drops", "count", "(II)I"⟩ ∈ gWs := gWs_in (i := 576) (by decide +kernel) rfl
theorem w_584 : Cond.methodLink "DropSignals$Evening" 136 ⟨"DropSignals$Evening", "secondSignalCard", "(I)I"⟩ ∈ gWs := gWs_in (i := 584) (by decide +kernel) rfl
theorem w_580 : Cond.methodLink "DropSignals$Evening" 133 ⟨"DropSignals$Evening", "firstSignalCard", "(I)I"⟩ ∈ gWs := gWs_in (i := 580) (by decide +kernel) rfl
noncomputable def f_Ev_advised_b73 (e : Nat) (M : gMem) (x1 : Int32) (x2 : Int32) : Option Int32 :=
  if x2 = (-1) then
    (f_Ev_lowestPlayable e M x1).bind fun q2 =>
    some q2
  else
    some x2
theorem t_Ev_advised_b73 {l : Launch} {ε : gEnv} (e : Nat) (hE : gEv ε e) (M : gMem) (x1 : Int32) (x2 : Int32) (r : Int32) (h : f_Ev_advised_b73 e M x1 x2 = some r) : gGo l ε k_Ev_advised (gR 3 69) (gFn ε (some (.int r)) M) 73 [(0, .ref (ε.2.2.1 e 0)), (1, .int x1), (2, .int x2)] [] M := by
  unfold f_Ev_advised_b73 at h
  refine g_iload_n d_Ev_advised_73 rfl 2 rfl ?_
  refine g_iconst (v := -1) d_Ev_advised_74 (by decide) ?_
  refine g_icmp_eq (tgt := 82) d_Ev_advised_75 (by decide) (fun c3 => ?_) (fun c3 => ?_)
  · rw [if_pos c3] at h
    refine g_aload_n d_Ev_advised_82 rfl 0 rfl ?_
    refine g_iload_n d_Ev_advised_83 rfl 1 rfl ?_
    obtain ⟨q2, hq2, h⟩ := gOb h
    refine g_callV_i (As := [.int x1]) (rest := []) (ct_Ev_lowestPlayable e hE M x1 _ hq2) d_Ev_advised_84 ca_Ev_lowestPlayable w_593 (gEv_h0 hE) rfl rfl rfl (Nat.le_of_ble_eq_true rfl) ⟨(Nat.le_of_ble_eq_true rfl), (Nat.le_of_ble_eq_true rfl)⟩ ?_
    obtain rfl := Option.some.inj h
    exact g_iret d_Ev_advised_87 rfl
  · rw [if_neg c3] at h
    refine g_iload_n d_Ev_advised_78 rfl 2 rfl ?_
    refine g_goto (tgt := 87) d_Ev_advised_79 (by decide) ?_
    obtain rfl := Option.some.inj h
    exact g_iret d_Ev_advised_87 rfl
noncomputable def f_Ev_advised_b46 (e : Nat) (M : gMem) (x1 : Int32) (x2 : Int32) : Option Int32 :=
  if x1 = (-1) then
    f_Ev_advised_b73 e M x1 x2
  else
    (f_Drops_count e M (M e 0 6) x1).bind fun q4 =>
    if q4 = 1 then
      (f_Ev_secondSignalCard e M x1).bind fun q5 =>
      f_Ev_advised_b73 e M x1 q5
    else
      f_Ev_advised_b73 e M x1 x2
theorem t_Ev_advised_b46 {l : Launch} {ε : gEnv} (e : Nat) (hE : gEv ε e) (M : gMem) (x1 : Int32) (x2 : Int32) (r : Int32) (h : f_Ev_advised_b46 e M x1 x2 = some r) : gGo l ε k_Ev_advised (gR 3 69) (gFn ε (some (.int r)) M) 46 [(0, .ref (ε.2.2.1 e 0)), (1, .int x1), (2, .int x2)] [] M := by
  unfold f_Ev_advised_b46 at h
  refine g_iload_n d_Ev_advised_46 rfl 1 rfl ?_
  refine g_iconst (v := -1) d_Ev_advised_47 (by decide) ?_
  refine g_icmp_eq (tgt := 73) d_Ev_advised_48 (by decide) (fun c7 => ?_) (fun c7 => ?_)
  · rw [if_pos c7] at h
    exact t_Ev_advised_b73 e hE M x1 x2 _ h
  · rw [if_neg c7] at h
    refine g_aload_n d_Ev_advised_51 rfl 0 rfl ?_
    refine g_getR d_Ev_advised_52 fl_Ev_21 (gEv_h0 hE) rfl ?_
    refine g_aload_n d_Ev_advised_55 rfl 0 rfl ?_
    refine g_getI d_Ev_advised_56 fl_Ev_52 (gEv_h0 hE) rfl ?_
    refine g_iload_n d_Ev_advised_59 rfl 1 rfl ?_
    obtain ⟨q4, hq4, h⟩ := gOb h
    refine g_callV_i (As := [.int (M e 0 6), .int x1]) (rest := []) (ct_Drops_count e (gEv_dr hE) M (M e 0 6) x1 _ hq4) d_Ev_advised_60 ca_Drops_count w_576 (gEv_h2 hE) rfl rfl rfl (Nat.le_of_ble_eq_true rfl) ⟨(Nat.le_of_ble_eq_true rfl), (Nat.le_of_ble_eq_true rfl)⟩ ?_
    refine g_iconst (v := 1) d_Ev_advised_63 (by decide) ?_
    refine g_icmp_ne (tgt := 73) d_Ev_advised_64 (by decide) (fun c6 => ?_) (fun c6 => ?_)
    · rw [if_neg c6] at h
      exact t_Ev_advised_b73 e hE M x1 x2 _ h
    · rw [if_pos c6] at h
      refine g_aload_n d_Ev_advised_67 rfl 0 rfl ?_
      refine g_iload_n d_Ev_advised_68 rfl 1 rfl ?_
      obtain ⟨q5, hq5, h⟩ := gOb h
      refine g_callV_i (As := [.int x1]) (rest := []) (ct_Ev_secondSignalCard e hE M x1 _ hq5) d_Ev_advised_69 ca_Ev_secondSignalCard w_584 (gEv_h0 hE) rfl rfl rfl (Nat.le_of_ble_eq_true rfl) ⟨(Nat.le_of_ble_eq_true rfl), (Nat.le_of_ble_eq_true rfl)⟩ ?_
      refine g_istore_n (L' := [(2, .int q5), (0, .ref (ε.2.2.1 e 0)), (1, .int x1)]) d_Ev_advised_72 rfl (by decide) rfl ?_
      refine gGo_sub [1, 2, 0] rfl ?_
      exact t_Ev_advised_b73 e hE M x1 q5 _ h
noncomputable def f_Ev_advised (e : Nat) (M : gMem) : Option Int32 :=
  if (M e 0 5) = 2 then
    (f_Ev_suitToFollow e M).bind fun q1 =>
    if q1 = (-1) then
      f_Ev_advised_b46 e M q1 (-1)
    else
      (f_Drops_count e M (M e 0 6) q1).bind fun q8 =>
      if q8 = 0 then
        (f_Ev_firstSignalCard e M q1).bind fun q9 =>
        f_Ev_advised_b73 e M q1 q9
      else
        f_Ev_advised_b46 e M q1 (-1)
  else
    some (-1)
theorem t_Ev_advised {l : Launch} {ε : gEnv} (e : Nat) (hE : gEv ε e) (M : gMem) (r : Int32) (h : f_Ev_advised e M = some r) : gGo l ε k_Ev_advised (gR 3 69) (gFn ε (some (.int r)) M) 0 [(0, .ref (ε.2.2.1 e 0))] [] M := by
  unfold f_Ev_advised at h
  refine g_aload_n d_Ev_advised_0 rfl 0 rfl ?_
  refine g_getI d_Ev_advised_1 fl_Ev_49 (gEv_h0 hE) rfl ?_
  refine g_iconst (v := 2) d_Ev_advised_4 (by decide) ?_
  refine g_icmp_eq (tgt := 10) d_Ev_advised_5 (by decide) (fun c12 => ?_) (fun c12 => ?_)
  · rw [if_pos c12] at h
    refine g_aload_n d_Ev_advised_10 rfl 0 rfl ?_
    obtain ⟨q1, hq1, h⟩ := gOb h
    refine g_callV_i (As := []) (rest := []) (ct_Ev_suitToFollow e hE M _ hq1) d_Ev_advised_11 ca_Ev_suitToFollow w_486 (gEv_h0 hE) rfl rfl rfl (Nat.le_of_ble_eq_true rfl) ⟨(Nat.le_of_ble_eq_true rfl), (Nat.le_of_ble_eq_true rfl)⟩ ?_
    refine g_istore_n (L' := [(1, .int q1), (0, .ref (ε.2.2.1 e 0))]) d_Ev_advised_14 rfl (by decide) rfl ?_
    refine g_iconst (v := -1) d_Ev_advised_15 (by decide) ?_
    refine g_istore_n (L' := [(2, .int (-1)), (1, .int q1), (0, .ref (ε.2.2.1 e 0))]) d_Ev_advised_16 rfl (by decide) rfl ?_
    refine g_iload_n d_Ev_advised_17 rfl 1 rfl ?_
    refine g_iconst (v := -1) d_Ev_advised_18 (by decide) ?_
    refine g_icmp_eq (tgt := 46) d_Ev_advised_19 (by decide) (fun c11 => ?_) (fun c11 => ?_)
    · rw [if_pos c11] at h
      refine gGo_sub [2, 1, 0] rfl ?_
      exact t_Ev_advised_b46 e hE M q1 (-1) _ h
    · rw [if_neg c11] at h
      refine g_aload_n d_Ev_advised_22 rfl 2 rfl ?_
      refine g_getR d_Ev_advised_23 fl_Ev_21 (gEv_h0 hE) rfl ?_
      refine g_aload_n d_Ev_advised_26 rfl 2 rfl ?_
      refine g_getI d_Ev_advised_27 fl_Ev_52 (gEv_h0 hE) rfl ?_
      refine g_iload_n d_Ev_advised_30 rfl 1 rfl ?_
      obtain ⟨q8, hq8, h⟩ := gOb h
      refine g_callV_i (As := [.int (M e 0 6), .int q1]) (rest := []) (ct_Drops_count e (gEv_dr hE) M (M e 0 6) q1 _ hq8) d_Ev_advised_31 ca_Drops_count w_576 (gEv_h2 hE) rfl rfl rfl (Nat.le_of_ble_eq_true rfl) ⟨(Nat.le_of_ble_eq_true rfl), (Nat.le_of_ble_eq_true rfl)⟩ ?_
      refine g_if_ne (tgt := 46) d_Ev_advised_34 (by decide) (fun c10 => ?_) (fun c10 => ?_)
      · rw [if_neg c10] at h
        refine gGo_sub [2, 1, 0] rfl ?_
        exact t_Ev_advised_b46 e hE M q1 (-1) _ h
      · rw [if_pos c10] at h
        refine g_aload_n d_Ev_advised_37 rfl 2 rfl ?_
        refine g_iload_n d_Ev_advised_38 rfl 1 rfl ?_
        obtain ⟨q9, hq9, h⟩ := gOb h
        refine g_callV_i (As := [.int q1]) (rest := []) (ct_Ev_firstSignalCard e hE M q1 _ hq9) d_Ev_advised_39 ca_Ev_firstSignalCard w_580 (gEv_h0 hE) rfl rfl rfl (Nat.le_of_ble_eq_true rfl) ⟨(Nat.le_of_ble_eq_true rfl), (Nat.le_of_ble_eq_true rfl)⟩ ?_
        refine g_istore_n (L' := [(2, .int q9), (1, .int q1), (0, .ref (ε.2.2.1 e 0))]) d_Ev_advised_42 rfl (by decide) rfl ?_
        refine g_goto (tgt := 73) d_Ev_advised_43 (by decide) ?_
        refine gGo_sub [2, 1, 0] rfl ?_
        exact t_Ev_advised_b73 e hE M q1 q9 _ h
  · rw [if_neg c12] at h
    refine g_iconst (v := -1) d_Ev_advised_8 (by decide) ?_
    obtain rfl := Option.some.inj h
    exact g_iret d_Ev_advised_9 rfl
theorem ct_Ev_advised {l : Launch} {ε : gEnv} (e : Nat) (hE : gEv ε e) (M : gMem) (r : Int32) (h : f_Ev_advised e M = some r) : gCt l ε k_Ev_advised 3 69 [.ref (ε.2.2.1 e 0)] M (some (.int r)) M :=
  gCt_of (by decide) (Nat.le_of_ble_eq_true rfl) rfl (t_Ev_advised e hE M r h)
abbrev k_Ev_countSignal : gMD := (⟨"DropSignals$Evening", "countSignal", "(II)V"⟩, prog_4_method_21_code, 3, none)
theorem w_546 : Cond.instanceMethod ⟨"DropSignals$Evening", "countSignal", "(II)V"⟩ ∈ gWs := gWs_in (i := 546) (by decide +kernel) rfl
theorem w_6 : Cond.selects "DropSignals$Evening" ⟨"DropSignals$Evening", "countSignal", "(II)V"⟩ ⟨"DropSignals$Evening", "countSignal", "(II)V"⟩ ∈ gWs := gWs_in (i := 6) (by decide +kernel) rfl
set_option maxRecDepth 100000 in
theorem ca_Ev_countSignal : gCaV k_Ev_countSignal 2 := ⟨⟨gWs_in (i := 547) rfl rfl, w_21, by decide, by decide, by decide +kernel⟩, w_546, w_6⟩
theorem d_Ev_countSignal_0 : decode prog_4_method_21_code 0 = .ok (.iload_n 1, 1) := by decide +kernel
theorem d_Ev_countSignal_1 : decode prog_4_method_21_code 1 = .ok (.ifCond .eq 32, 3) := by decide +kernel
theorem d_Ev_countSignal_4 : decode prog_4_method_21_code 4 = .ok (.aload_n 0, 1) := by decide +kernel
theorem d_Ev_countSignal_5 : decode prog_4_method_21_code 5 = .ok (.dup, 1) := by decide +kernel
theorem d_Ev_countSignal_6 : decode prog_4_method_21_code 6 = .ok (.getfield 55, 3) := by decide +kernel
theorem d_Ev_countSignal_9 : decode prog_4_method_21_code 9 = .ok (.iconst 1, 1) := by decide +kernel
theorem d_Ev_countSignal_10 : decode prog_4_method_21_code 10 = .ok (.iadd, 1) := by decide +kernel
theorem d_Ev_countSignal_11 : decode prog_4_method_21_code 11 = .ok (.putfield 55, 3) := by decide +kernel
theorem d_Ev_countSignal_14 : decode prog_4_method_21_code 14 = .ok (.aload_n 0, 1) := by decide +kernel
theorem d_Ev_countSignal_15 : decode prog_4_method_21_code 15 = .ok (.dup, 1) := by decide +kernel
theorem d_Ev_countSignal_16 : decode prog_4_method_21_code 16 = .ok (.getfield 58, 3) := by decide +kernel
theorem d_Ev_countSignal_19 : decode prog_4_method_21_code 19 = .ok (.iload_n 1, 1) := by decide +kernel
theorem d_Ev_countSignal_20 : decode prog_4_method_21_code 20 = .ok (.iload_n 2, 1) := by decide +kernel
theorem d_Ev_countSignal_21 : decode prog_4_method_21_code 21 = .ok (.if_icmp .ne 7, 3) := by decide +kernel
theorem d_Ev_countSignal_24 : decode prog_4_method_21_code 24 = .ok (.iconst 1, 1) := by decide +kernel
theorem d_Ev_countSignal_25 : decode prog_4_method_21_code 25 = .ok (.goto 4, 3) := by decide +kernel
theorem d_Ev_countSignal_28 : decode prog_4_method_21_code 28 = .ok (.iconst 0, 1) := by decide +kernel
theorem d_Ev_countSignal_29 : decode prog_4_method_21_code 29 = .ok (.iadd, 1) := by decide +kernel
theorem d_Ev_countSignal_30 : decode prog_4_method_21_code 30 = .ok (.putfield 58, 3) := by decide +kernel
theorem d_Ev_countSignal_33 : decode prog_4_method_21_code 33 = .ok (.return_, 1) := by decide +kernel
noncomputable def f_Ev_countSignal_b29 (e : Nat) (M : gMem) (s0 : Int32) (s1 : Int32) : Option gMem :=
  (gSO M e 0 12 (s1 + s0)).bind fun M2 =>
  some M2
theorem t_Ev_countSignal_b29 {l : Launch} {ε : gEnv} (e : Nat) (hE : gEv ε e) (M : gMem) (s0 : Int32) (s1 : Int32) (r : gMem) (h : f_Ev_countSignal_b29 e M s0 s1 = some r) : gGo l ε k_Ev_countSignal (gR 0 0) (gFn ε none r) 29 [] [.int s0, .int s1, .ref (ε.2.2.1 e 0)] M := by
  unfold f_Ev_countSignal_b29 at h
  refine g_iadd d_Ev_countSignal_29 ?_
  obtain ⟨M2, hM2, h⟩ := gOb h
  refine g_putO d_Ev_countSignal_30 fp_Ev_58 (gEv_h0 hE) rfl hM2 ?_
  obtain rfl := Option.some.inj h
  exact g_vret d_Ev_countSignal_33 rfl
noncomputable def f_Ev_countSignal (e : Nat) (M : gMem) (a0 : Int32) (a1 : Int32) : Option gMem :=
  if a0 = 0 then
    some M
  else
    (gSO M e 0 11 ((M e 0 11) + 1)).bind fun M1 =>
    if a0 = a1 then
      f_Ev_countSignal_b29 e M1 1 (M1 e 0 12)
    else
      f_Ev_countSignal_b29 e M1 0 (M1 e 0 12)
theorem t_Ev_countSignal {l : Launch} {ε : gEnv} (e : Nat) (hE : gEv ε e) (M : gMem) (a0 : Int32) (a1 : Int32) (r : gMem) (h : f_Ev_countSignal e M a0 a1 = some r) : gGo l ε k_Ev_countSignal (gR 0 0) (gFn ε none r) 0 [(0, .ref (ε.2.2.1 e 0)), (1, .int a0), (2, .int a1)] [] M := by
  unfold f_Ev_countSignal at h
  refine g_iload_n d_Ev_countSignal_0 rfl 1 rfl ?_
  refine g_if_eq (tgt := 33) d_Ev_countSignal_1 (by decide) (fun c4 => ?_) (fun c4 => ?_)
  · rw [if_pos c4] at h
    obtain rfl := Option.some.inj h
    exact g_vret d_Ev_countSignal_33 rfl
  · rw [if_neg c4] at h
    refine g_aload_n d_Ev_countSignal_4 rfl 0 rfl ?_
    refine g_dup d_Ev_countSignal_5 rfl ?_
    refine g_getI d_Ev_countSignal_6 fl_Ev_55 (gEv_h0 hE) rfl ?_
    refine g_iconst (v := 1) d_Ev_countSignal_9 (by decide) ?_
    refine g_iadd d_Ev_countSignal_10 ?_
    obtain ⟨M1, hM1, h⟩ := gOb h
    refine g_putO d_Ev_countSignal_11 fp_Ev_55 (gEv_h0 hE) rfl hM1 ?_
    refine g_aload_n d_Ev_countSignal_14 rfl 0 rfl ?_
    refine g_dup d_Ev_countSignal_15 rfl ?_
    refine g_getI d_Ev_countSignal_16 fl_Ev_58 (gEv_h0 hE) rfl ?_
    refine g_iload_n d_Ev_countSignal_19 rfl 1 rfl ?_
    refine g_iload_n d_Ev_countSignal_20 rfl 2 rfl ?_
    refine g_icmp_ne (tgt := 28) d_Ev_countSignal_21 (by decide) (fun c3 => ?_) (fun c3 => ?_)
    · rw [if_neg c3] at h
      refine g_iconst (v := 0) d_Ev_countSignal_28 (by decide) ?_
      refine gGo_sub [] rfl ?_
      exact t_Ev_countSignal_b29 e hE M1 0 (M1 e 0 12) _ h
    · rw [if_pos c3] at h
      refine g_iconst (v := 1) d_Ev_countSignal_24 (by decide) ?_
      refine g_goto (tgt := 29) d_Ev_countSignal_25 (by decide) ?_
      refine gGo_sub [] rfl ?_
      exact t_Ev_countSignal_b29 e hE M1 1 (M1 e 0 12) _ h
theorem ct_Ev_countSignal {l : Launch} {ε : gEnv} (e : Nat) (hE : gEv ε e) (M : gMem) (a0 : Int32) (a1 : Int32) (r : gMem) (h : f_Ev_countSignal e M a0 a1 = some r) : gCt l ε k_Ev_countSignal 0 0 [.ref (ε.2.2.1 e 0), .int a0, .int a1] M none r :=
  gCt_of (by decide) (Nat.le_of_ble_eq_true rfl) rfl (t_Ev_countSignal e hE M a0 a1 r h)
abbrev k_Ev_noteBehindLead : gMD := (⟨"DropSignals$Evening", "noteBehindLead", "(II)V"⟩, prog_4_method_20_code, 3, none)
theorem w_509 : Cond.instanceMethod ⟨"DropSignals$Evening", "noteBehindLead", "(II)V"⟩ ∈ gWs := gWs_in (i := 509) (by decide +kernel) rfl
theorem w_5 : Cond.selects "DropSignals$Evening" ⟨"DropSignals$Evening", "noteBehindLead", "(II)V"⟩ ⟨"DropSignals$Evening", "noteBehindLead", "(II)V"⟩ ∈ gWs := gWs_in (i := 5) (by decide +kernel) rfl
set_option maxRecDepth 100000 in
theorem ca_Ev_noteBehindLead : gCaV k_Ev_noteBehindLead 2 := ⟨⟨gWs_in (i := 510) rfl rfl, w_21, by decide, by decide, by decide +kernel⟩, w_509, w_5⟩
theorem d_Ev_noteBehindLead_0 : decode prog_4_method_20_code 0 = .ok (.iload_n 2, 1) := by decide +kernel
theorem d_Ev_noteBehindLead_1 : decode prog_4_method_20_code 1 = .ok (.bipush 8, 2) := by decide +kernel
theorem d_Ev_noteBehindLead_3 : decode prog_4_method_20_code 3 = .ok (.idiv, 1) := by decide +kernel
theorem d_Ev_noteBehindLead_4 : decode prog_4_method_20_code 4 = .ok (.iload_n 1, 1) := by decide +kernel
theorem d_Ev_noteBehindLead_5 : decode prog_4_method_20_code 5 = .ok (.if_icmp .eq 18, 3) := by decide +kernel
theorem d_Ev_noteBehindLead_8 : decode prog_4_method_20_code 8 = .ok (.aload_n 0, 1) := by decide +kernel
theorem d_Ev_noteBehindLead_9 : decode prog_4_method_20_code 9 = .ok (.getfield 21, 3) := by decide +kernel
theorem d_Ev_noteBehindLead_12 : decode prog_4_method_20_code 12 = .ok (.aload_n 0, 1) := by decide +kernel
theorem d_Ev_noteBehindLead_13 : decode prog_4_method_20_code 13 = .ok (.getfield 52, 3) := by decide +kernel
theorem d_Ev_noteBehindLead_16 : decode prog_4_method_20_code 16 = .ok (.iload_n 1, 1) := by decide +kernel
theorem d_Ev_noteBehindLead_17 : decode prog_4_method_20_code 17 = .ok (.invokevirtual 162, 3) := by decide +kernel
theorem d_Ev_noteBehindLead_20 : decode prog_4_method_20_code 20 = .ok (.goto 42, 3) := by decide +kernel
theorem d_Ev_noteBehindLead_23 : decode prog_4_method_20_code 23 = .ok (.iload_n 2, 1) := by decide +kernel
theorem d_Ev_noteBehindLead_24 : decode prog_4_method_20_code 24 = .ok (.invokestatic 165, 3) := by decide +kernel
theorem d_Ev_noteBehindLead_27 : decode prog_4_method_20_code 27 = .ok (.ifCond .eq 35, 3) := by decide +kernel
theorem d_Ev_noteBehindLead_30 : decode prog_4_method_20_code 30 = .ok (.aload_n 0, 1) := by decide +kernel
theorem d_Ev_noteBehindLead_31 : decode prog_4_method_20_code 31 = .ok (.aload_n 0, 1) := by decide +kernel
theorem d_Ev_noteBehindLead_32 : decode prog_4_method_20_code 32 = .ok (.getfield 21, 3) := by decide +kernel
theorem d_Ev_noteBehindLead_35 : decode prog_4_method_20_code 35 = .ok (.aload_n 0, 1) := by decide +kernel
theorem d_Ev_noteBehindLead_36 : decode prog_4_method_20_code 36 = .ok (.getfield 52, 3) := by decide +kernel
theorem d_Ev_noteBehindLead_39 : decode prog_4_method_20_code 39 = .ok (.iload_n 1, 1) := by decide +kernel
theorem d_Ev_noteBehindLead_40 : decode prog_4_method_20_code 40 = .ok (.iload_n 2, 1) := by decide +kernel
theorem d_Ev_noteBehindLead_41 : decode prog_4_method_20_code 41 = .ok (.invokevirtual 169, 3) := by decide +kernel
theorem d_Ev_noteBehindLead_44 : decode prog_4_method_20_code 44 = .ok (.aload_n 0, 1) := by decide +kernel
theorem d_Ev_noteBehindLead_45 : decode prog_4_method_20_code 45 = .ok (.getfield 12, 3) := by decide +kernel
theorem d_Ev_noteBehindLead_48 : decode prog_4_method_20_code 48 = .ok (.aload_n 0, 1) := by decide +kernel
theorem d_Ev_noteBehindLead_49 : decode prog_4_method_20_code 49 = .ok (.getfield 52, 3) := by decide +kernel
theorem d_Ev_noteBehindLead_52 : decode prog_4_method_20_code 52 = .ok (.iload_n 1, 1) := by decide +kernel
theorem d_Ev_noteBehindLead_53 : decode prog_4_method_20_code 53 = .ok (.invokevirtual 96, 3) := by decide +kernel
theorem d_Ev_noteBehindLead_56 : decode prog_4_method_20_code 56 = .ok (.invokestatic 99, 3) := by decide +kernel
theorem d_Ev_noteBehindLead_59 : decode prog_4_method_20_code 59 = .ok (.invokevirtual 173, 3) := by decide +kernel
theorem d_Ev_noteBehindLead_62 : decode prog_4_method_20_code 62 = .ok (.return_, 1) := by decide +kernel
theorem w_522 : Cond.methodLink "DropSignals$Evening" 169 ⟨"DropSignals$Drops", "add", "(III)I"⟩ ∈ gWs := gWs_in (i := 522) (by decide +kernel) rfl
theorem w_544 : Cond.methodLink "DropSignals$Evening" 173 ⟨"DropSignals$Evening", "countSignal", "(II)V"⟩ ∈ gWs := gWs_in (i := 544) (by decide +kernel) rfl
theorem w_511 : Cond.methodLink "DropSignals$Evening" 162 ⟨"DropSignals$Drops", "showNone", "(II)V"⟩ ∈ gWs := gWs_in (i := 511) (by decide +kernel) rfl
noncomputable def f_Ev_noteBehindLead (e : Nat) (M : gMem) (a0 : Int32) (a1 : Int32) : Option gMem :=
  if (a1 / 8) = a0 then
    (f_DS_isSmall a1).bind fun q1 =>
    if q1 = 0 then
      some M
    else
      (f_Drops_add e M (M e 0 6) a0 a1).bind fun q2 =>
      (f_Cards_dealt e q2.2 (q2.2 e 0 6) a0).bind fun q3 =>
      (f_Drops_truthFor q3).bind fun q4 =>
      (f_Ev_countSignal e q2.2 q2.1 q4).bind fun q5 =>
      some q5
  else
    (f_Drops_showNone e M (M e 0 6) a0).bind fun q7 =>
    some q7
theorem t_Ev_noteBehindLead {l : Launch} {ε : gEnv} (e : Nat) (hE : gEv ε e) (M : gMem) (a0 : Int32) (a1 : Int32) (r : gMem) (h : f_Ev_noteBehindLead e M a0 a1 = some r) : gGo l ε k_Ev_noteBehindLead (gR 2 48) (gFn ε none r) 0 [(0, .ref (ε.2.2.1 e 0)), (1, .int a0), (2, .int a1)] [] M := by
  unfold f_Ev_noteBehindLead at h
  refine g_iload_n d_Ev_noteBehindLead_0 rfl 2 rfl ?_
  refine g_bipush (v := 8) d_Ev_noteBehindLead_1 (by decide) ?_
  refine g_idiv d_Ev_noteBehindLead_3 (by decide) ?_
  refine g_iload_n d_Ev_noteBehindLead_4 rfl 1 rfl ?_
  refine g_icmp_eq (tgt := 23) d_Ev_noteBehindLead_5 (by decide) (fun c8 => ?_) (fun c8 => ?_)
  · rw [if_pos c8] at h
    refine g_iload_n d_Ev_noteBehindLead_23 rfl 2 rfl ?_
    obtain ⟨q1, hq1, h⟩ := gOb h
    refine g_callN_i (As := [.int a1]) (rest := []) (j := 519) (host := "DropSignals") (ct_DS_isSmall M a1 _ hq1) d_Ev_noteBehindLead_24 ca_DS_isSmall (by decide +kernel) rfl rfl (Nat.le_of_ble_eq_true rfl) ⟨(Nat.le_of_ble_eq_true rfl), (Nat.le_of_ble_eq_true rfl)⟩ ?_
    refine g_if_eq (tgt := 62) d_Ev_noteBehindLead_27 (by decide) (fun c6 => ?_) (fun c6 => ?_)
    · rw [if_pos c6] at h
      obtain rfl := Option.some.inj h
      exact g_vret d_Ev_noteBehindLead_62 rfl
    · rw [if_neg c6] at h
      refine g_aload_n d_Ev_noteBehindLead_30 rfl 0 rfl ?_
      refine g_aload_n d_Ev_noteBehindLead_31 rfl 0 rfl ?_
      refine g_getR d_Ev_noteBehindLead_32 fl_Ev_21 (gEv_h0 hE) rfl ?_
      refine g_aload_n d_Ev_noteBehindLead_35 rfl 0 rfl ?_
      refine g_getI d_Ev_noteBehindLead_36 fl_Ev_52 (gEv_h0 hE) rfl ?_
      refine g_iload_n d_Ev_noteBehindLead_39 rfl 1 rfl ?_
      refine g_iload_n d_Ev_noteBehindLead_40 rfl 2 rfl ?_
      obtain ⟨q2, hq2, h⟩ := gOb h
      refine g_callV_i (As := [.int (M e 0 6), .int a0, .int a1]) (rest := [.ref (ε.2.2.1 e 0)]) (ct_Drops_add e (gEv_dr hE) M (M e 0 6) a0 a1 _ hq2) d_Ev_noteBehindLead_41 ca_Drops_add w_522 (gEv_h2 hE) rfl rfl rfl (Nat.le_of_ble_eq_true rfl) ⟨(Nat.le_of_ble_eq_true rfl), (Nat.le_of_ble_eq_true rfl)⟩ ?_
      refine g_aload_n d_Ev_noteBehindLead_44 rfl 0 rfl ?_
      refine g_getR d_Ev_noteBehindLead_45 fl_Ev_12 (gEv_h0 hE) rfl ?_
      refine g_aload_n d_Ev_noteBehindLead_48 rfl 0 rfl ?_
      refine g_getI d_Ev_noteBehindLead_49 fl_Ev_52 (gEv_h0 hE) rfl ?_
      refine g_iload_n d_Ev_noteBehindLead_52 rfl 1 rfl ?_
      obtain ⟨q3, hq3, h⟩ := gOb h
      refine g_callV_i (As := [.int (q2.2 e 0 6), .int a0]) (rest := [.int q2.1, .ref (ε.2.2.1 e 0)]) (ct_Cards_dealt e (gEv_cd hE) q2.2 (q2.2 e 0 6) a0 _ hq3) d_Ev_noteBehindLead_53 ca_Cards_dealt w_533 (gEv_h1 hE) rfl rfl rfl (Nat.le_of_ble_eq_true rfl) ⟨(Nat.le_of_ble_eq_true rfl), (Nat.le_of_ble_eq_true rfl)⟩ ?_
      obtain ⟨q4, hq4, h⟩ := gOb h
      refine g_callS_i (As := [.int q3]) (rest := [.int q2.1, .ref (ε.2.2.1 e 0)]) (ct_Drops_truthFor q2.2 q3 _ hq4) d_Ev_noteBehindLead_56 ca_Drops_truthFor w_541 rfl rfl (Nat.le_of_ble_eq_true rfl) ⟨(Nat.le_of_ble_eq_true rfl), (Nat.le_of_ble_eq_true rfl)⟩ ?_
      obtain ⟨q5, hq5, h⟩ := gOb h
      refine g_callV_v (As := [.int q2.1, .int q4]) (rest := []) (ct_Ev_countSignal e hE q2.2 q2.1 q4 _ hq5) d_Ev_noteBehindLead_59 ca_Ev_countSignal w_544 (gEv_h0 hE) rfl rfl rfl (Nat.le_of_ble_eq_true rfl) ⟨(Nat.le_of_ble_eq_true rfl), (Nat.le_of_ble_eq_true rfl)⟩ ?_
      obtain rfl := Option.some.inj h
      exact g_vret d_Ev_noteBehindLead_62 rfl
  · rw [if_neg c8] at h
    refine g_aload_n d_Ev_noteBehindLead_8 rfl 0 rfl ?_
    refine g_getR d_Ev_noteBehindLead_9 fl_Ev_21 (gEv_h0 hE) rfl ?_
    refine g_aload_n d_Ev_noteBehindLead_12 rfl 0 rfl ?_
    refine g_getI d_Ev_noteBehindLead_13 fl_Ev_52 (gEv_h0 hE) rfl ?_
    refine g_iload_n d_Ev_noteBehindLead_16 rfl 1 rfl ?_
    obtain ⟨q7, hq7, h⟩ := gOb h
    refine g_callV_v (As := [.int (M e 0 6), .int a0]) (rest := []) (ct_Drops_showNone e (gEv_dr hE) M (M e 0 6) a0 _ hq7) d_Ev_noteBehindLead_17 ca_Drops_showNone w_511 (gEv_h2 hE) rfl rfl rfl (Nat.le_of_ble_eq_true rfl) ⟨(Nat.le_of_ble_eq_true rfl), (Nat.le_of_ble_eq_true rfl)⟩ ?_
    refine g_goto (tgt := 62) d_Ev_noteBehindLead_20 (by decide) ?_
    obtain rfl := Option.some.inj h
    exact g_vret d_Ev_noteBehindLead_62 rfl
theorem ct_Ev_noteBehindLead {l : Launch} {ε : gEnv} (e : Nat) (hE : gEv ε e) (M : gMem) (a0 : Int32) (a1 : Int32) (r : gMem) (h : f_Ev_noteBehindLead e M a0 a1 = some r) : gCt l ε k_Ev_noteBehindLead 2 48 [.ref (ε.2.2.1 e 0), .int a0, .int a1] M none r :=
  gCt_of (by decide) (Nat.le_of_ble_eq_true rfl) rfl (t_Ev_noteBehindLead e hE M a0 a1 r h)
abbrev k_Ev_addScore : gMD := (⟨"DropSignals$Evening", "addScore", "()V"⟩, prog_4_method_23_code, 4, none)
theorem w_566 : Cond.instanceMethod ⟨"DropSignals$Evening", "addScore", "()V"⟩ ∈ gWs := gWs_in (i := 566) (by decide +kernel) rfl
theorem w_8 : Cond.selects "DropSignals$Evening" ⟨"DropSignals$Evening", "addScore", "()V"⟩ ⟨"DropSignals$Evening", "addScore", "()V"⟩ ∈ gWs := gWs_in (i := 8) (by decide +kernel) rfl
set_option maxRecDepth 100000 in
theorem ca_Ev_addScore : gCaV k_Ev_addScore 0 := ⟨⟨gWs_in (i := 567) rfl rfl, w_21, by decide, by decide, by decide +kernel⟩, w_566, w_8⟩
theorem d_Ev_addScore_0 : decode prog_4_method_23_code 0 = .ok (.aload_n 0, 1) := by decide +kernel
theorem d_Ev_addScore_1 : decode prog_4_method_23_code 1 = .ok (.getfield 71, 3) := by decide +kernel
theorem d_Ev_addScore_4 : decode prog_4_method_23_code 4 = .ok (.iconst 2, 1) := by decide +kernel
theorem d_Ev_addScore_5 : decode prog_4_method_23_code 5 = .ok (.irem, 1) := by decide +kernel
theorem d_Ev_addScore_6 : decode prog_4_method_23_code 6 = .ok (.istore_n 1, 1) := by decide +kernel
theorem d_Ev_addScore_7 : decode prog_4_method_23_code 7 = .ok (.iconst 4, 1) := by decide +kernel
theorem d_Ev_addScore_8 : decode prog_4_method_23_code 8 = .ok (.aload_n 0, 1) := by decide +kernel
theorem d_Ev_addScore_9 : decode prog_4_method_23_code 9 = .ok (.getfield 65, 3) := by decide +kernel
theorem d_Ev_addScore_12 : decode prog_4_method_23_code 12 = .ok (.iadd, 1) := by decide +kernel
theorem d_Ev_addScore_13 : decode prog_4_method_23_code 13 = .ok (.istore_n 2, 1) := by decide +kernel
theorem d_Ev_addScore_14 : decode prog_4_method_23_code 14 = .ok (.aload_n 0, 1) := by decide +kernel
theorem d_Ev_addScore_15 : decode prog_4_method_23_code 15 = .ok (.getfield 25, 3) := by decide +kernel
theorem d_Ev_addScore_18 : decode prog_4_method_23_code 18 = .ok (.iload_n 1, 1) := by decide +kernel
theorem d_Ev_addScore_19 : decode prog_4_method_23_code 19 = .ok (.invokestatic 88, 3) := by decide +kernel
theorem d_Ev_addScore_22 : decode prog_4_method_23_code 22 = .ok (.istore_n 3, 1) := by decide +kernel
theorem d_Ev_addScore_23 : decode prog_4_method_23_code 23 = .ok (.iload_n 3, 1) := by decide +kernel
theorem d_Ev_addScore_24 : decode prog_4_method_23_code 24 = .ok (.iload_n 2, 1) := by decide +kernel
theorem d_Ev_addScore_25 : decode prog_4_method_23_code 25 = .ok (.if_icmp .lt 27, 3) := by decide +kernel
theorem d_Ev_addScore_28 : decode prog_4_method_23_code 28 = .ok (.aload_n 0, 1) := by decide +kernel
theorem d_Ev_addScore_29 : decode prog_4_method_23_code 29 = .ok (.getfield 29, 3) := by decide +kernel
theorem d_Ev_addScore_32 : decode prog_4_method_23_code 32 = .ok (.iload_n 1, 1) := by decide +kernel
theorem d_Ev_addScore_33 : decode prog_4_method_23_code 33 = .ok (.bipush 10, 2) := by decide +kernel
theorem d_Ev_addScore_35 : decode prog_4_method_23_code 35 = .ok (.aload_n 0, 1) := by decide +kernel
theorem d_Ev_addScore_36 : decode prog_4_method_23_code 36 = .ok (.getfield 65, 3) := by decide +kernel
theorem d_Ev_addScore_39 : decode prog_4_method_23_code 39 = .ok (.imul, 1) := by decide +kernel
theorem d_Ev_addScore_40 : decode prog_4_method_23_code 40 = .ok (.iconst 2, 1) := by decide +kernel
theorem d_Ev_addScore_41 : decode prog_4_method_23_code 41 = .ok (.iload_n 3, 1) := by decide +kernel
theorem d_Ev_addScore_42 : decode prog_4_method_23_code 42 = .ok (.iload_n 2, 1) := by decide +kernel
theorem d_Ev_addScore_43 : decode prog_4_method_23_code 43 = .ok (.isub, 1) := by decide +kernel
theorem d_Ev_addScore_44 : decode prog_4_method_23_code 44 = .ok (.imul, 1) := by decide +kernel
theorem d_Ev_addScore_45 : decode prog_4_method_23_code 45 = .ok (.iadd, 1) := by decide +kernel
theorem d_Ev_addScore_46 : decode prog_4_method_23_code 46 = .ok (.invokestatic 186, 3) := by decide +kernel
theorem d_Ev_addScore_49 : decode prog_4_method_23_code 49 = .ok (.goto 19, 3) := by decide +kernel
theorem d_Ev_addScore_52 : decode prog_4_method_23_code 52 = .ok (.aload_n 0, 1) := by decide +kernel
theorem d_Ev_addScore_53 : decode prog_4_method_23_code 53 = .ok (.getfield 29, 3) := by decide +kernel
theorem d_Ev_addScore_56 : decode prog_4_method_23_code 56 = .ok (.iconst 1, 1) := by decide +kernel
theorem d_Ev_addScore_57 : decode prog_4_method_23_code 57 = .ok (.iload_n 1, 1) := by decide +kernel
theorem d_Ev_addScore_58 : decode prog_4_method_23_code 58 = .ok (.isub, 1) := by decide +kernel
theorem d_Ev_addScore_59 : decode prog_4_method_23_code 59 = .ok (.bipush 10, 2) := by decide +kernel
theorem d_Ev_addScore_61 : decode prog_4_method_23_code 61 = .ok (.iload_n 2, 1) := by decide +kernel
theorem d_Ev_addScore_62 : decode prog_4_method_23_code 62 = .ok (.iload_n 3, 1) := by decide +kernel
theorem d_Ev_addScore_63 : decode prog_4_method_23_code 63 = .ok (.isub, 1) := by decide +kernel
theorem d_Ev_addScore_64 : decode prog_4_method_23_code 64 = .ok (.imul, 1) := by decide +kernel
theorem d_Ev_addScore_65 : decode prog_4_method_23_code 65 = .ok (.invokestatic 186, 3) := by decide +kernel
theorem d_Ev_addScore_68 : decode prog_4_method_23_code 68 = .ok (.return_, 1) := by decide +kernel
noncomputable def f_Ev_addScore (e : Nat) (M : gMem) : Option gMem :=
  (f_DS_at e 3 2 M (gRem (M e 0 9) 2)).bind fun q1 =>
  if q1 < (4 + (M e 0 7)) then
    (f_DS_addAt e 4 2 M (1 - (gRem (M e 0 9) 2)) (10 * ((4 + (M e 0 7)) - q1))).bind fun q2 =>
    some q2
  else
    (f_DS_addAt e 4 2 M (gRem (M e 0 9) 2) ((10 * (M e 0 7)) + (2 * (q1 - (4 + (M e 0 7)))))).bind fun q3 =>
    some q3
theorem t_Ev_addScore {l : Launch} {ε : gEnv} (e : Nat) (hE : gEv ε e) (M : gMem) (r : gMem) (h : f_Ev_addScore e M = some r) : gGo l ε k_Ev_addScore (gR 1 22) (gFn ε none r) 0 [(0, .ref (ε.2.2.1 e 0))] [] M := by
  unfold f_Ev_addScore at h
  refine g_aload_n d_Ev_addScore_0 rfl 0 rfl ?_
  refine g_getI d_Ev_addScore_1 fl_Ev_71 (gEv_h0 hE) rfl ?_
  refine g_iconst (v := 2) d_Ev_addScore_4 (by decide) ?_
  refine g_rem d_Ev_addScore_5 (by decide) ?_
  refine g_istore_n (L' := [(1, .int (gRem (M e 0 9) 2)), (0, .ref (ε.2.2.1 e 0))]) d_Ev_addScore_6 rfl (by decide) rfl ?_
  refine g_iconst (v := 4) d_Ev_addScore_7 (by decide) ?_
  refine g_aload_n d_Ev_addScore_8 rfl 1 rfl ?_
  refine g_getI d_Ev_addScore_9 fl_Ev_65 (gEv_h0 hE) rfl ?_
  refine g_iadd d_Ev_addScore_12 ?_
  refine g_istore_n (L' := [(2, .int (4 + (M e 0 7))), (1, .int (gRem (M e 0 9) 2)), (0, .ref (ε.2.2.1 e 0))]) d_Ev_addScore_13 rfl (by decide) rfl ?_
  refine g_aload_n d_Ev_addScore_14 rfl 2 rfl ?_
  refine g_getR d_Ev_addScore_15 fl_Ev_25 (gEv_h0 hE) rfl ?_
  refine g_iload_n d_Ev_addScore_18 rfl 1 rfl ?_
  obtain ⟨q1, hq1, h⟩ := gOb h
  refine g_callN_i (As := [.ref (ε.2.2.1 e 3), .int (gRem (M e 0 9) 2)]) (rest := []) (j := 568) (host := "DropSignals") (ct_DS_at e 3 2 (gEv_h3 hE) M (gRem (M e 0 9) 2) _ hq1) d_Ev_addScore_19 ca_DS_at (by decide +kernel) rfl rfl (Nat.le_of_ble_eq_true rfl) ⟨(Nat.le_of_ble_eq_true rfl), (Nat.le_of_ble_eq_true rfl)⟩ ?_
  refine g_istore_n (L' := [(3, .int q1), (2, .int (4 + (M e 0 7))), (1, .int (gRem (M e 0 9) 2)), (0, .ref (ε.2.2.1 e 0))]) d_Ev_addScore_22 rfl (by decide) rfl ?_
  refine g_iload_n d_Ev_addScore_23 rfl 0 rfl ?_
  refine g_iload_n d_Ev_addScore_24 rfl 1 rfl ?_
  refine g_icmp_lt (tgt := 52) d_Ev_addScore_25 (by decide) (fun c4 => ?_) (fun c4 => ?_)
  · rw [if_pos c4] at h
    refine g_aload_n d_Ev_addScore_52 rfl 3 rfl ?_
    refine g_getR d_Ev_addScore_53 fl_Ev_29 (gEv_h0 hE) rfl ?_
    refine g_iconst (v := 1) d_Ev_addScore_56 (by decide) ?_
    refine g_iload_n d_Ev_addScore_57 rfl 2 rfl ?_
    refine g_isub d_Ev_addScore_58 ?_
    refine g_bipush (v := 10) d_Ev_addScore_59 (by decide) ?_
    refine g_iload_n d_Ev_addScore_61 rfl 1 rfl ?_
    refine g_iload_n d_Ev_addScore_62 rfl 0 rfl ?_
    refine g_isub d_Ev_addScore_63 ?_
    refine g_imul d_Ev_addScore_64 ?_
    obtain ⟨q2, hq2, h⟩ := gOb h
    refine g_callN_v (As := [.ref (ε.2.2.1 e 4), .int (1 - (gRem (M e 0 9) 2)), .int (10 * ((4 + (M e 0 7)) - q1))]) (rest := []) (j := 563) (host := "DropSignals") (ct_DS_addAt e 4 2 (gEv_h4 hE) M (1 - (gRem (M e 0 9) 2)) (10 * ((4 + (M e 0 7)) - q1)) _ hq2) d_Ev_addScore_65 ca_DS_addAt (by decide +kernel) rfl rfl (Nat.le_of_ble_eq_true rfl) ⟨(Nat.le_of_ble_eq_true rfl), (Nat.le_of_ble_eq_true rfl)⟩ ?_
    obtain rfl := Option.some.inj h
    exact g_vret d_Ev_addScore_68 rfl
  · rw [if_neg c4] at h
    refine g_aload_n d_Ev_addScore_28 rfl 3 rfl ?_
    refine g_getR d_Ev_addScore_29 fl_Ev_29 (gEv_h0 hE) rfl ?_
    refine g_iload_n d_Ev_addScore_32 rfl 2 rfl ?_
    refine g_bipush (v := 10) d_Ev_addScore_33 (by decide) ?_
    refine g_aload_n d_Ev_addScore_35 rfl 3 rfl ?_
    refine g_getI d_Ev_addScore_36 fl_Ev_65 (gEv_h0 hE) rfl ?_
    refine g_imul d_Ev_addScore_39 ?_
    refine g_iconst (v := 2) d_Ev_addScore_40 (by decide) ?_
    refine g_iload_n d_Ev_addScore_41 rfl 0 rfl ?_
    refine g_iload_n d_Ev_addScore_42 rfl 1 rfl ?_
    refine g_isub d_Ev_addScore_43 ?_
    refine g_imul d_Ev_addScore_44 ?_
    refine g_iadd d_Ev_addScore_45 ?_
    obtain ⟨q3, hq3, h⟩ := gOb h
    refine g_callN_v (As := [.ref (ε.2.2.1 e 4), .int (gRem (M e 0 9) 2), .int ((10 * (M e 0 7)) + (2 * (q1 - (4 + (M e 0 7)))))]) (rest := []) (j := 563) (host := "DropSignals") (ct_DS_addAt e 4 2 (gEv_h4 hE) M (gRem (M e 0 9) 2) ((10 * (M e 0 7)) + (2 * (q1 - (4 + (M e 0 7))))) _ hq3) d_Ev_addScore_46 ca_DS_addAt (by decide +kernel) rfl rfl (Nat.le_of_ble_eq_true rfl) ⟨(Nat.le_of_ble_eq_true rfl), (Nat.le_of_ble_eq_true rfl)⟩ ?_
    refine g_goto (tgt := 68) d_Ev_addScore_49 (by decide) ?_
    obtain rfl := Option.some.inj h
    exact g_vret d_Ev_addScore_68 rfl
theorem ct_Ev_addScore {l : Launch} {ε : gEnv} (e : Nat) (hE : gEv ε e) (M : gMem) (r : gMem) (h : f_Ev_addScore e M = some r) : gCt l ε k_Ev_addScore 1 22 [.ref (ε.2.2.1 e 0)] M none r :=
  gCt_of (by decide) (Nat.le_of_ble_eq_true rfl) rfl (t_Ev_addScore e hE M r h)
abbrev k_Ev_endTrick : gMD := (⟨"DropSignals$Evening", "endTrick", "()V"⟩, prog_4_method_22_code, 3, none)
theorem w_554 : Cond.instanceMethod ⟨"DropSignals$Evening", "endTrick", "()V"⟩ ∈ gWs := gWs_in (i := 554) (by decide +kernel) rfl
theorem w_7 : Cond.selects "DropSignals$Evening" ⟨"DropSignals$Evening", "endTrick", "()V"⟩ ⟨"DropSignals$Evening", "endTrick", "()V"⟩ ∈ gWs := gWs_in (i := 7) (by decide +kernel) rfl
set_option maxRecDepth 100000 in
theorem ca_Ev_endTrick : gCaV k_Ev_endTrick 0 := ⟨⟨gWs_in (i := 555) rfl rfl, w_21, by decide, by decide, by decide +kernel⟩, w_554, w_7⟩
theorem d_Ev_endTrick_0 : decode prog_4_method_22_code 0 = .ok (.aload_n 0, 1) := by decide +kernel
theorem d_Ev_endTrick_1 : decode prog_4_method_22_code 1 = .ok (.getfield 52, 3) := by decide +kernel
theorem d_Ev_endTrick_4 : decode prog_4_method_22_code 4 = .ok (.invokestatic 111, 3) := by decide +kernel
theorem d_Ev_endTrick_7 : decode prog_4_method_22_code 7 = .ok (.istore_n 1, 1) := by decide +kernel
theorem d_Ev_endTrick_8 : decode prog_4_method_22_code 8 = .ok (.iload_n 1, 1) := by decide +kernel
theorem d_Ev_endTrick_9 : decode prog_4_method_22_code 9 = .ok (.aload_n 0, 1) := by decide +kernel
theorem d_Ev_endTrick_10 : decode prog_4_method_22_code 10 = .ok (.getfield 12, 3) := by decide +kernel
theorem d_Ev_endTrick_13 : decode prog_4_method_22_code 13 = .ok (.getfield 176, 3) := by decide +kernel
theorem d_Ev_endTrick_16 : decode prog_4_method_22_code 16 = .ok (.aload_n 0, 1) := by decide +kernel
theorem d_Ev_endTrick_17 : decode prog_4_method_22_code 17 = .ok (.getfield 12, 3) := by decide +kernel
theorem d_Ev_endTrick_20 : decode prog_4_method_22_code 20 = .ok (.getfield 179, 3) := by decide +kernel
theorem d_Ev_endTrick_23 : decode prog_4_method_22_code 23 = .ok (.iconst 4, 1) := by decide +kernel
theorem d_Ev_endTrick_24 : decode prog_4_method_22_code 24 = .ok (.isub, 1) := by decide +kernel
theorem d_Ev_endTrick_25 : decode prog_4_method_22_code 25 = .ok (.aload_n 0, 1) := by decide +kernel
theorem d_Ev_endTrick_26 : decode prog_4_method_22_code 26 = .ok (.getfield 68, 3) := by decide +kernel
theorem d_Ev_endTrick_29 : decode prog_4_method_22_code 29 = .ok (.invokestatic 182, 3) := by decide +kernel
theorem d_Ev_endTrick_32 : decode prog_4_method_22_code 32 = .ok (.iadd, 1) := by decide +kernel
theorem d_Ev_endTrick_33 : decode prog_4_method_22_code 33 = .ok (.iconst 4, 1) := by decide +kernel
theorem d_Ev_endTrick_34 : decode prog_4_method_22_code 34 = .ok (.irem, 1) := by decide +kernel
theorem d_Ev_endTrick_35 : decode prog_4_method_22_code 35 = .ok (.istore_n 2, 1) := by decide +kernel
theorem d_Ev_endTrick_36 : decode prog_4_method_22_code 36 = .ok (.aload_n 0, 1) := by decide +kernel
theorem d_Ev_endTrick_37 : decode prog_4_method_22_code 37 = .ok (.getfield 25, 3) := by decide +kernel
theorem d_Ev_endTrick_40 : decode prog_4_method_22_code 40 = .ok (.iload_n 2, 1) := by decide +kernel
theorem d_Ev_endTrick_41 : decode prog_4_method_22_code 41 = .ok (.iconst 2, 1) := by decide +kernel
theorem d_Ev_endTrick_42 : decode prog_4_method_22_code 42 = .ok (.irem, 1) := by decide +kernel
theorem d_Ev_endTrick_43 : decode prog_4_method_22_code 43 = .ok (.iconst 1, 1) := by decide +kernel
theorem d_Ev_endTrick_44 : decode prog_4_method_22_code 44 = .ok (.invokestatic 186, 3) := by decide +kernel
theorem d_Ev_endTrick_47 : decode prog_4_method_22_code 47 = .ok (.aload_n 0, 1) := by decide +kernel
theorem d_Ev_endTrick_48 : decode prog_4_method_22_code 48 = .ok (.iload_n 2, 1) := by decide +kernel
theorem d_Ev_endTrick_49 : decode prog_4_method_22_code 49 = .ok (.putfield 52, 3) := by decide +kernel
theorem d_Ev_endTrick_52 : decode prog_4_method_22_code 52 = .ok (.aload_n 0, 1) := by decide +kernel
theorem d_Ev_endTrick_53 : decode prog_4_method_22_code 53 = .ok (.getfield 12, 3) := by decide +kernel
theorem d_Ev_endTrick_56 : decode prog_4_method_22_code 56 = .ok (.getfield 179, 3) := by decide +kernel
theorem d_Ev_endTrick_59 : decode prog_4_method_22_code 59 = .ok (.bipush 32, 2) := by decide +kernel
theorem d_Ev_endTrick_61 : decode prog_4_method_22_code 61 = .ok (.if_icmp .ne 17, 3) := by decide +kernel
theorem d_Ev_endTrick_64 : decode prog_4_method_22_code 64 = .ok (.aload_n 0, 1) := by decide +kernel
theorem d_Ev_endTrick_65 : decode prog_4_method_22_code 65 = .ok (.iconst 3, 1) := by decide +kernel
theorem d_Ev_endTrick_66 : decode prog_4_method_22_code 66 = .ok (.putfield 49, 3) := by decide +kernel
theorem d_Ev_endTrick_69 : decode prog_4_method_22_code 69 = .ok (.aload_n 0, 1) := by decide +kernel
theorem d_Ev_endTrick_70 : decode prog_4_method_22_code 70 = .ok (.iconst (-1), 1) := by decide +kernel
theorem d_Ev_endTrick_71 : decode prog_4_method_22_code 71 = .ok (.putfield 52, 3) := by decide +kernel
theorem d_Ev_endTrick_74 : decode prog_4_method_22_code 74 = .ok (.aload_n 0, 1) := by decide +kernel
theorem d_Ev_endTrick_75 : decode prog_4_method_22_code 75 = .ok (.invokevirtual 190, 3) := by decide +kernel
theorem d_Ev_endTrick_78 : decode prog_4_method_22_code 78 = .ok (.return_, 1) := by decide +kernel
theorem fl_Ev_176 : gFlN "DropSignals$Evening" 176 0 2 := ⟨gN0, gF0, 4, 68, "DropSignals", rfl, uw_0, by decide, by decide +kernel⟩
theorem fl_Ev_179 : gFlN "DropSignals$Evening" 179 0 3 := ⟨gN0, gF0, 4, 70, "DropSignals", rfl, uw_0, by decide, by decide +kernel⟩
theorem w_564 : Cond.methodLink "DropSignals$Evening" 190 ⟨"DropSignals$Evening", "addScore", "()V"⟩ ∈ gWs := gWs_in (i := 564) (by decide +kernel) rfl
noncomputable def f_Ev_endTrick (e : Nat) (M : gMem) : Option gMem :=
  (f_DS_nextPlayer (M e 0 6)).bind fun q1 =>
  (f_DS_winningPlace e 7 32 M ((M e 1 3) - 4) (M e 0 8)).bind fun q2 =>
  (f_DS_addAt e 3 2 M (gRem (gRem (q1 + q2) 4) 2) 1).bind fun q3 =>
  (gSO q3 e 0 6 (gRem (q1 + q2) 4)).bind fun M4 =>
  if (M4 e 1 3) = 32 then
    (gSO M4 e 0 5 3).bind fun M5 =>
    (gSO M5 e 0 6 (-1)).bind fun M6 =>
    (f_Ev_addScore e M6).bind fun q7 =>
    some q7
  else
    some M4
theorem t_Ev_endTrick {l : Launch} {ε : gEnv} (e : Nat) (hE : gEv ε e) (M : gMem) (r : gMem) (h : f_Ev_endTrick e M = some r) : gGo l ε k_Ev_endTrick (gR 2 47) (gFn ε none r) 0 [(0, .ref (ε.2.2.1 e 0))] [] M := by
  unfold f_Ev_endTrick at h
  refine g_aload_n d_Ev_endTrick_0 rfl 0 rfl ?_
  refine g_getI d_Ev_endTrick_1 fl_Ev_52 (gEv_h0 hE) rfl ?_
  obtain ⟨q1, hq1, h⟩ := gOb h
  refine g_callN_i (As := [.int (M e 0 6)]) (rest := []) (j := 465) (host := "DropSignals") (ct_DS_nextPlayer M (M e 0 6) _ hq1) d_Ev_endTrick_4 ca_DS_nextPlayer (by decide +kernel) rfl rfl (Nat.le_of_ble_eq_true rfl) ⟨(Nat.le_of_ble_eq_true rfl), (Nat.le_of_ble_eq_true rfl)⟩ ?_
  refine g_istore_n (L' := [(1, .int q1), (0, .ref (ε.2.2.1 e 0))]) d_Ev_endTrick_7 rfl (by decide) rfl ?_
  refine g_iload_n d_Ev_endTrick_8 rfl 0 rfl ?_
  refine g_aload_n d_Ev_endTrick_9 rfl 1 rfl ?_
  refine g_getR d_Ev_endTrick_10 fl_Ev_12 (gEv_h0 hE) rfl ?_
  refine g_getRN d_Ev_endTrick_13 fl_Ev_176 (gEv_h1 hE) rfl ?_
  refine g_aload_n d_Ev_endTrick_16 rfl 1 rfl ?_
  refine g_getR d_Ev_endTrick_17 fl_Ev_12 (gEv_h0 hE) rfl ?_
  refine g_getIN d_Ev_endTrick_20 fl_Ev_179 (gEv_h1 hE) rfl ?_
  refine g_iconst (v := 4) d_Ev_endTrick_23 (by decide) ?_
  refine g_isub d_Ev_endTrick_24 ?_
  refine g_aload_n d_Ev_endTrick_25 rfl 1 rfl ?_
  refine g_getI d_Ev_endTrick_26 fl_Ev_68 (gEv_h0 hE) rfl ?_
  obtain ⟨q2, hq2, h⟩ := gOb h
  refine g_callN_i (As := [.ref (ε.2.2.1 e 7), .int ((M e 1 3) - 4), .int (M e 0 8)]) (rest := [.int q1]) (j := 556) (host := "DropSignals") (ct_DS_winningPlace e 7 32 (gCd_h7 (gEv_cd hE)) M ((M e 1 3) - 4) (M e 0 8) _ hq2) d_Ev_endTrick_29 ca_DS_winningPlace (by decide +kernel) rfl rfl (Nat.le_of_ble_eq_true rfl) ⟨(Nat.le_of_ble_eq_true rfl), (Nat.le_of_ble_eq_true rfl)⟩ ?_
  refine g_iadd d_Ev_endTrick_32 ?_
  refine g_iconst (v := 4) d_Ev_endTrick_33 (by decide) ?_
  refine g_rem d_Ev_endTrick_34 (by decide) ?_
  refine g_istore_n (L' := [(2, .int (gRem (q1 + q2) 4)), (1, .int q1), (0, .ref (ε.2.2.1 e 0))]) d_Ev_endTrick_35 rfl (by decide) rfl ?_
  refine g_aload_n d_Ev_endTrick_36 rfl 2 rfl ?_
  refine g_getR d_Ev_endTrick_37 fl_Ev_25 (gEv_h0 hE) rfl ?_
  refine g_iload_n d_Ev_endTrick_40 rfl 0 rfl ?_
  refine g_iconst (v := 2) d_Ev_endTrick_41 (by decide) ?_
  refine g_rem d_Ev_endTrick_42 (by decide) ?_
  refine g_iconst (v := 1) d_Ev_endTrick_43 (by decide) ?_
  obtain ⟨q3, hq3, h⟩ := gOb h
  refine g_callN_v (As := [.ref (ε.2.2.1 e 3), .int (gRem (gRem (q1 + q2) 4) 2), .int 1]) (rest := []) (j := 563) (host := "DropSignals") (ct_DS_addAt e 3 2 (gEv_h3 hE) M (gRem (gRem (q1 + q2) 4) 2) 1 _ hq3) d_Ev_endTrick_44 ca_DS_addAt (by decide +kernel) rfl rfl (Nat.le_of_ble_eq_true rfl) ⟨(Nat.le_of_ble_eq_true rfl), (Nat.le_of_ble_eq_true rfl)⟩ ?_
  refine g_aload_n d_Ev_endTrick_47 rfl 2 rfl ?_
  refine g_iload_n d_Ev_endTrick_48 rfl 0 rfl ?_
  obtain ⟨M4, hM4, h⟩ := gOb h
  refine g_putO d_Ev_endTrick_49 fp_Ev_52 (gEv_h0 hE) rfl hM4 ?_
  refine g_aload_n d_Ev_endTrick_52 rfl 2 rfl ?_
  refine g_getR d_Ev_endTrick_53 fl_Ev_12 (gEv_h0 hE) rfl ?_
  refine g_getIN d_Ev_endTrick_56 fl_Ev_179 (gEv_h1 hE) rfl ?_
  refine g_bipush (v := 32) d_Ev_endTrick_59 (by decide) ?_
  refine g_icmp_ne (tgt := 78) d_Ev_endTrick_61 (by decide) (fun c8 => ?_) (fun c8 => ?_)
  · rw [if_neg c8] at h
    obtain rfl := Option.some.inj h
    exact g_vret d_Ev_endTrick_78 rfl
  · rw [if_pos c8] at h
    refine g_aload_n d_Ev_endTrick_64 rfl 2 rfl ?_
    refine g_iconst (v := 3) d_Ev_endTrick_65 (by decide) ?_
    obtain ⟨M5, hM5, h⟩ := gOb h
    refine g_putO d_Ev_endTrick_66 fp_Ev_49 (gEv_h0 hE) rfl hM5 ?_
    refine g_aload_n d_Ev_endTrick_69 rfl 2 rfl ?_
    refine g_iconst (v := -1) d_Ev_endTrick_70 (by decide) ?_
    obtain ⟨M6, hM6, h⟩ := gOb h
    refine g_putO d_Ev_endTrick_71 fp_Ev_52 (gEv_h0 hE) rfl hM6 ?_
    refine g_aload_n d_Ev_endTrick_74 rfl 2 rfl ?_
    obtain ⟨q7, hq7, h⟩ := gOb h
    refine g_callV_v (As := []) (rest := []) (ct_Ev_addScore e hE M6 _ hq7) d_Ev_endTrick_75 ca_Ev_addScore w_564 (gEv_h0 hE) rfl rfl rfl (Nat.le_of_ble_eq_true rfl) ⟨(Nat.le_of_ble_eq_true rfl), (Nat.le_of_ble_eq_true rfl)⟩ ?_
    obtain rfl := Option.some.inj h
    exact g_vret d_Ev_endTrick_78 rfl
theorem ct_Ev_endTrick {l : Launch} {ε : gEnv} (e : Nat) (hE : gEv ε e) (M : gMem) (r : gMem) (h : f_Ev_endTrick e M = some r) : gCt l ε k_Ev_endTrick 2 47 [.ref (ε.2.2.1 e 0)] M none r :=
  gCt_of (by decide) (Nat.le_of_ble_eq_true rfl) rfl (t_Ev_endTrick e hE M r h)
abbrev k_Ev_layDown : gMD := (⟨"DropSignals$Evening", "layDown", "(I)V"⟩, prog_4_method_19_code, 3, none)
theorem w_500 : Cond.instanceMethod ⟨"DropSignals$Evening", "layDown", "(I)V"⟩ ∈ gWs := gWs_in (i := 500) (by decide +kernel) rfl
theorem w_501 : Cond.selects "DropSignals$Evening" ⟨"DropSignals$Evening", "layDown", "(I)V"⟩ ⟨"DropSignals$Evening", "layDown", "(I)V"⟩ ∈ gWs := gWs_in (i := 501) (by decide +kernel) rfl
set_option maxRecDepth 100000 in
theorem ca_Ev_layDown : gCaV k_Ev_layDown 1 := ⟨⟨gWs_in (i := 502) rfl rfl, w_21, by decide, by decide, by decide +kernel⟩, w_500, w_501⟩
theorem d_Ev_layDown_0 : decode prog_4_method_19_code 0 = .ok (.aload_n 0, 1) := by decide +kernel
theorem d_Ev_layDown_1 : decode prog_4_method_19_code 1 = .ok (.getfield 12, 3) := by decide +kernel
theorem d_Ev_layDown_4 : decode prog_4_method_19_code 4 = .ok (.invokevirtual 114, 3) := by decide +kernel
theorem d_Ev_layDown_7 : decode prog_4_method_19_code 7 = .ok (.istore_n 2, 1) := by decide +kernel
theorem d_Ev_layDown_8 : decode prog_4_method_19_code 8 = .ok (.aload_n 0, 1) := by decide +kernel
theorem d_Ev_layDown_9 : decode prog_4_method_19_code 9 = .ok (.getfield 12, 3) := by decide +kernel
theorem d_Ev_layDown_12 : decode prog_4_method_19_code 12 = .ok (.iload_n 1, 1) := by decide +kernel
theorem d_Ev_layDown_13 : decode prog_4_method_19_code 13 = .ok (.invokevirtual 148, 3) := by decide +kernel
theorem d_Ev_layDown_16 : decode prog_4_method_19_code 16 = .ok (.iload_n 2, 1) := by decide +kernel
theorem d_Ev_layDown_17 : decode prog_4_method_19_code 17 = .ok (.iconst (-1), 1) := by decide +kernel
theorem d_Ev_layDown_18 : decode prog_4_method_19_code 18 = .ok (.if_icmp .eq 9, 3) := by decide +kernel
theorem d_Ev_layDown_21 : decode prog_4_method_19_code 21 = .ok (.aload_n 0, 1) := by decide +kernel
theorem d_Ev_layDown_22 : decode prog_4_method_19_code 22 = .ok (.iload_n 2, 1) := by decide +kernel
theorem d_Ev_layDown_23 : decode prog_4_method_19_code 23 = .ok (.iload_n 1, 1) := by decide +kernel
theorem d_Ev_layDown_24 : decode prog_4_method_19_code 24 = .ok (.invokevirtual 152, 3) := by decide +kernel
theorem d_Ev_layDown_27 : decode prog_4_method_19_code 27 = .ok (.aload_n 0, 1) := by decide +kernel
theorem d_Ev_layDown_28 : decode prog_4_method_19_code 28 = .ok (.getfield 12, 3) := by decide +kernel
theorem d_Ev_layDown_31 : decode prog_4_method_19_code 31 = .ok (.invokevirtual 156, 3) := by decide +kernel
theorem d_Ev_layDown_34 : decode prog_4_method_19_code 34 = .ok (.ifCond .ne 10, 3) := by decide +kernel
theorem d_Ev_layDown_37 : decode prog_4_method_19_code 37 = .ok (.aload_n 0, 1) := by decide +kernel
theorem d_Ev_layDown_38 : decode prog_4_method_19_code 38 = .ok (.invokevirtual 159, 3) := by decide +kernel
theorem d_Ev_layDown_41 : decode prog_4_method_19_code 41 = .ok (.goto 14, 3) := by decide +kernel
theorem d_Ev_layDown_44 : decode prog_4_method_19_code 44 = .ok (.aload_n 0, 1) := by decide +kernel
theorem d_Ev_layDown_45 : decode prog_4_method_19_code 45 = .ok (.aload_n 0, 1) := by decide +kernel
theorem d_Ev_layDown_46 : decode prog_4_method_19_code 46 = .ok (.getfield 52, 3) := by decide +kernel
theorem d_Ev_layDown_49 : decode prog_4_method_19_code 49 = .ok (.invokestatic 111, 3) := by decide +kernel
theorem d_Ev_layDown_52 : decode prog_4_method_19_code 52 = .ok (.putfield 52, 3) := by decide +kernel
theorem d_Ev_layDown_55 : decode prog_4_method_19_code 55 = .ok (.return_, 1) := by decide +kernel
theorem w_503 : Cond.methodLink "DropSignals$Evening" 148 ⟨"DropSignals$Cards", "lay", "(I)V"⟩ ∈ gWs := gWs_in (i := 503) (by decide +kernel) rfl
theorem w_548 : Cond.methodLink "DropSignals$Evening" 156 ⟨"DropSignals$Cards", "trickSize", "()I"⟩ ∈ gWs := gWs_in (i := 548) (by decide +kernel) rfl
theorem w_552 : Cond.methodLink "DropSignals$Evening" 159 ⟨"DropSignals$Evening", "endTrick", "()V"⟩ ∈ gWs := gWs_in (i := 552) (by decide +kernel) rfl
theorem w_507 : Cond.methodLink "DropSignals$Evening" 152 ⟨"DropSignals$Evening", "noteBehindLead", "(II)V"⟩ ∈ gWs := gWs_in (i := 507) (by decide +kernel) rfl
noncomputable def f_Ev_layDown_b27 (e : Nat) (M : gMem) : Option gMem :=
  (f_Cards_trickSize e M).bind fun q3 =>
  if q3 = 0 then
    (f_Ev_endTrick e M).bind fun q6 =>
    some q6
  else
    (f_DS_nextPlayer (M e 0 6)).bind fun q4 =>
    (gSO M e 0 6 q4).bind fun M5 =>
    some M5
theorem t_Ev_layDown_b27 {l : Launch} {ε : gEnv} (e : Nat) (hE : gEv ε e) (M : gMem) (r : gMem) (h : f_Ev_layDown_b27 e M = some r) : gGo l ε k_Ev_layDown (gR 3 70) (gFn ε none r) 27 [(0, .ref (ε.2.2.1 e 0))] [] M := by
  unfold f_Ev_layDown_b27 at h
  refine g_aload_n d_Ev_layDown_27 rfl 0 rfl ?_
  refine g_getR d_Ev_layDown_28 fl_Ev_12 (gEv_h0 hE) rfl ?_
  obtain ⟨q3, hq3, h⟩ := gOb h
  refine g_callV_i (As := []) (rest := []) (ct_Cards_trickSize e (gEv_cd hE) M _ hq3) d_Ev_layDown_31 ca_Cards_trickSize w_548 (gEv_h1 hE) rfl rfl rfl (Nat.le_of_ble_eq_true rfl) ⟨(Nat.le_of_ble_eq_true rfl), (Nat.le_of_ble_eq_true rfl)⟩ ?_
  refine g_if_ne (tgt := 44) d_Ev_layDown_34 (by decide) (fun c7 => ?_) (fun c7 => ?_)
  · rw [if_neg c7] at h
    refine g_aload_n d_Ev_layDown_44 rfl 0 rfl ?_
    refine g_aload_n d_Ev_layDown_45 rfl 0 rfl ?_
    refine g_getI d_Ev_layDown_46 fl_Ev_52 (gEv_h0 hE) rfl ?_
    obtain ⟨q4, hq4, h⟩ := gOb h
    refine g_callN_i (As := [.int (M e 0 6)]) (rest := [.ref (ε.2.2.1 e 0)]) (j := 465) (host := "DropSignals") (ct_DS_nextPlayer M (M e 0 6) _ hq4) d_Ev_layDown_49 ca_DS_nextPlayer (by decide +kernel) rfl rfl (Nat.le_of_ble_eq_true rfl) ⟨(Nat.le_of_ble_eq_true rfl), (Nat.le_of_ble_eq_true rfl)⟩ ?_
    obtain ⟨M5, hM5, h⟩ := gOb h
    refine g_putO d_Ev_layDown_52 fp_Ev_52 (gEv_h0 hE) rfl hM5 ?_
    obtain rfl := Option.some.inj h
    exact g_vret d_Ev_layDown_55 rfl
  · rw [if_pos c7] at h
    refine g_aload_n d_Ev_layDown_37 rfl 0 rfl ?_
    obtain ⟨q6, hq6, h⟩ := gOb h
    refine g_callV_v (As := []) (rest := []) (ct_Ev_endTrick e hE M _ hq6) d_Ev_layDown_38 ca_Ev_endTrick w_552 (gEv_h0 hE) rfl rfl rfl (Nat.le_of_ble_eq_true rfl) ⟨(Nat.le_of_ble_eq_true rfl), (Nat.le_of_ble_eq_true rfl)⟩ ?_
    refine g_goto (tgt := 55) d_Ev_layDown_41 (by decide) ?_
    obtain rfl := Option.some.inj h
    exact g_vret d_Ev_layDown_55 rfl
noncomputable def f_Ev_layDown (e : Nat) (M : gMem) (a0 : Int32) : Option gMem :=
  (f_Cards_ledSuit e M).bind fun q1 =>
  (f_Cards_lay e M a0).bind fun q2 =>
  if q1 = (-1) then
    f_Ev_layDown_b27 e q2
  else
    (f_Ev_noteBehindLead e q2 q1 a0).bind fun q8 =>
    f_Ev_layDown_b27 e q8
theorem t_Ev_layDown {l : Launch} {ε : gEnv} (e : Nat) (hE : gEv ε e) (M : gMem) (a0 : Int32) (r : gMem) (h : f_Ev_layDown e M a0 = some r) : gGo l ε k_Ev_layDown (gR 3 70) (gFn ε none r) 0 [(0, .ref (ε.2.2.1 e 0)), (1, .int a0)] [] M := by
  unfold f_Ev_layDown at h
  refine g_aload_n d_Ev_layDown_0 rfl 0 rfl ?_
  refine g_getR d_Ev_layDown_1 fl_Ev_12 (gEv_h0 hE) rfl ?_
  obtain ⟨q1, hq1, h⟩ := gOb h
  refine g_callV_i (As := []) (rest := []) (ct_Cards_ledSuit e (gEv_cd hE) M _ hq1) d_Ev_layDown_4 ca_Cards_ledSuit w_490 (gEv_h1 hE) rfl rfl rfl (Nat.le_of_ble_eq_true rfl) ⟨(Nat.le_of_ble_eq_true rfl), (Nat.le_of_ble_eq_true rfl)⟩ ?_
  refine g_istore_n (L' := [(2, .int q1), (0, .ref (ε.2.2.1 e 0)), (1, .int a0)]) d_Ev_layDown_7 rfl (by decide) rfl ?_
  refine g_aload_n d_Ev_layDown_8 rfl 1 rfl ?_
  refine g_getR d_Ev_layDown_9 fl_Ev_12 (gEv_h0 hE) rfl ?_
  refine g_iload_n d_Ev_layDown_12 rfl 2 rfl ?_
  obtain ⟨q2, hq2, h⟩ := gOb h
  refine g_callV_v (As := [.int a0]) (rest := []) (ct_Cards_lay e (gEv_cd hE) M a0 _ hq2) d_Ev_layDown_13 ca_Cards_lay w_503 (gEv_h1 hE) rfl rfl rfl (Nat.le_of_ble_eq_true rfl) ⟨(Nat.le_of_ble_eq_true rfl), (Nat.le_of_ble_eq_true rfl)⟩ ?_
  refine g_iload_n d_Ev_layDown_16 rfl 0 rfl ?_
  refine g_iconst (v := -1) d_Ev_layDown_17 (by decide) ?_
  refine g_icmp_eq (tgt := 27) d_Ev_layDown_18 (by decide) (fun c9 => ?_) (fun c9 => ?_)
  · rw [if_pos c9] at h
    refine gGo_sub [1] rfl ?_
    exact t_Ev_layDown_b27 e hE q2 _ h
  · rw [if_neg c9] at h
    refine g_aload_n d_Ev_layDown_21 rfl 1 rfl ?_
    refine g_iload_n d_Ev_layDown_22 rfl 0 rfl ?_
    refine g_iload_n d_Ev_layDown_23 rfl 2 rfl ?_
    obtain ⟨q8, hq8, h⟩ := gOb h
    refine g_callV_v (As := [.int q1, .int a0]) (rest := []) (ct_Ev_noteBehindLead e hE q2 q1 a0 _ hq8) d_Ev_layDown_24 ca_Ev_noteBehindLead w_507 (gEv_h0 hE) rfl rfl rfl (Nat.le_of_ble_eq_true rfl) ⟨(Nat.le_of_ble_eq_true rfl), (Nat.le_of_ble_eq_true rfl)⟩ ?_
    refine gGo_sub [1] rfl ?_
    exact t_Ev_layDown_b27 e hE q8 _ h
theorem ct_Ev_layDown {l : Launch} {ε : gEnv} (e : Nat) (hE : gEv ε e) (M : gMem) (a0 : Int32) (r : gMem) (h : f_Ev_layDown e M a0 = some r) : gCt l ε k_Ev_layDown 3 70 [.ref (ε.2.2.1 e 0), .int a0] M none r :=
  gCt_of (by decide) (Nat.le_of_ble_eq_true rfl) rfl (t_Ev_layDown e hE M a0 r h)
abbrev k_Ev_possible : gMD := (⟨"DropSignals$Evening", "possible", "(IIIZ)I"⟩, prog_4_method_24_code, 13, (some .int))
theorem w_882 : Cond.instanceMethod ⟨"DropSignals$Evening", "possible", "(IIIZ)I"⟩ ∈ gWs := gWs_in (i := 882) (by decide +kernel) rfl
theorem w_883 : Cond.selects "DropSignals$Evening" ⟨"DropSignals$Evening", "possible", "(IIIZ)I"⟩ ⟨"DropSignals$Evening", "possible", "(IIIZ)I"⟩ ∈ gWs := gWs_in (i := 883) (by decide +kernel) rfl
set_option maxRecDepth 100000 in
theorem ca_Ev_possible : gCaV k_Ev_possible 4 := ⟨⟨gWs_in (i := 884) rfl rfl, w_21, by decide, by decide, by decide +kernel⟩, w_882, w_883⟩
theorem d_Ev_possible_0 : decode prog_4_method_24_code 0 = .ok (.aload_n 0, 1) := by decide +kernel
theorem d_Ev_possible_1 : decode prog_4_method_24_code 1 = .ok (.getfield 12, 3) := by decide +kernel
theorem d_Ev_possible_4 : decode prog_4_method_24_code 4 = .ok (.iload_n 1, 1) := by decide +kernel
theorem d_Ev_possible_5 : decode prog_4_method_24_code 5 = .ok (.iload_n 3, 1) := by decide +kernel
theorem d_Ev_possible_6 : decode prog_4_method_24_code 6 = .ok (.invokevirtual 193, 3) := by decide +kernel
theorem d_Ev_possible_9 : decode prog_4_method_24_code 9 = .ok (.istore 5, 2) := by decide +kernel
theorem d_Ev_possible_11 : decode prog_4_method_24_code 11 = .ok (.iconst 0, 1) := by decide +kernel
theorem d_Ev_possible_12 : decode prog_4_method_24_code 12 = .ok (.istore 6, 2) := by decide +kernel
theorem d_Ev_possible_14 : decode prog_4_method_24_code 14 = .ok (.iconst 0, 1) := by decide +kernel
theorem d_Ev_possible_15 : decode prog_4_method_24_code 15 = .ok (.istore 7, 2) := by decide +kernel
theorem d_Ev_possible_17 : decode prog_4_method_24_code 17 = .ok (.iload 7, 2) := by decide +kernel
theorem d_Ev_possible_19 : decode prog_4_method_24_code 19 = .ok (.iconst 4, 1) := by decide +kernel
theorem d_Ev_possible_20 : decode prog_4_method_24_code 20 = .ok (.if_icmp .ge 48, 3) := by decide +kernel
theorem d_Ev_possible_23 : decode prog_4_method_24_code 23 = .ok (.iload 7, 2) := by decide +kernel
theorem d_Ev_possible_25 : decode prog_4_method_24_code 25 = .ok (.iload_n 1, 1) := by decide +kernel
theorem d_Ev_possible_26 : decode prog_4_method_24_code 26 = .ok (.if_icmp .eq 36, 3) := by decide +kernel
theorem d_Ev_possible_29 : decode prog_4_method_24_code 29 = .ok (.iload 7, 2) := by decide +kernel
theorem d_Ev_possible_31 : decode prog_4_method_24_code 31 = .ok (.iload_n 2, 1) := by decide +kernel
theorem d_Ev_possible_32 : decode prog_4_method_24_code 32 = .ok (.if_icmp .eq 30, 3) := by decide +kernel
theorem d_Ev_possible_35 : decode prog_4_method_24_code 35 = .ok (.aload_n 0, 1) := by decide +kernel
theorem d_Ev_possible_36 : decode prog_4_method_24_code 36 = .ok (.getfield 21, 3) := by decide +kernel
theorem d_Ev_possible_39 : decode prog_4_method_24_code 39 = .ok (.iload 7, 2) := by decide +kernel
theorem d_Ev_possible_41 : decode prog_4_method_24_code 41 = .ok (.iload_n 3, 1) := by decide +kernel
theorem d_Ev_possible_42 : decode prog_4_method_24_code 42 = .ok (.invokevirtual 196, 3) := by decide +kernel
theorem d_Ev_possible_45 : decode prog_4_method_24_code 45 = .ok (.ifCond .ne 17, 3) := by decide +kernel
theorem d_Ev_possible_48 : decode prog_4_method_24_code 48 = .ok (.iload 6, 2) := by decide +kernel
theorem d_Ev_possible_50 : decode prog_4_method_24_code 50 = .ok (.aload_n 0, 1) := by decide +kernel
theorem d_Ev_possible_51 : decode prog_4_method_24_code 51 = .ok (.getfield 12, 3) := by decide +kernel
theorem d_Ev_possible_54 : decode prog_4_method_24_code 54 = .ok (.iload 7, 2) := by decide +kernel
theorem d_Ev_possible_56 : decode prog_4_method_24_code 56 = .ok (.invokevirtual 127, 3) := by decide +kernel
theorem d_Ev_possible_59 : decode prog_4_method_24_code 59 = .ok (.iadd, 1) := by decide +kernel
theorem d_Ev_possible_60 : decode prog_4_method_24_code 60 = .ok (.istore 6, 2) := by decide +kernel
theorem d_Ev_possible_62 : decode prog_4_method_24_code 62 = .ok (.iinc 7 1, 3) := by decide +kernel
theorem d_Ev_possible_65 : decode prog_4_method_24_code 65 = .ok (.goto (-48), 3) := by decide +kernel
theorem d_Ev_possible_68 : decode prog_4_method_24_code 68 = .ok (.aload_n 0, 1) := by decide +kernel
theorem d_Ev_possible_69 : decode prog_4_method_24_code 69 = .ok (.getfield 21, 3) := by decide +kernel
theorem d_Ev_possible_72 : decode prog_4_method_24_code 72 = .ok (.iload_n 2, 1) := by decide +kernel
theorem d_Ev_possible_73 : decode prog_4_method_24_code 73 = .ok (.iload_n 3, 1) := by decide +kernel
theorem d_Ev_possible_74 : decode prog_4_method_24_code 74 = .ok (.invokevirtual 196, 3) := by decide +kernel
theorem d_Ev_possible_77 : decode prog_4_method_24_code 77 = .ok (.ifCond .eq 7, 3) := by decide +kernel
theorem d_Ev_possible_80 : decode prog_4_method_24_code 80 = .ok (.iconst 0, 1) := by decide +kernel
theorem d_Ev_possible_81 : decode prog_4_method_24_code 81 = .ok (.goto 16, 3) := by decide +kernel
theorem d_Ev_possible_84 : decode prog_4_method_24_code 84 = .ok (.aload_n 0, 1) := by decide +kernel
theorem d_Ev_possible_85 : decode prog_4_method_24_code 85 = .ok (.getfield 12, 3) := by decide +kernel
theorem d_Ev_possible_88 : decode prog_4_method_24_code 88 = .ok (.iload_n 2, 1) := by decide +kernel
theorem d_Ev_possible_89 : decode prog_4_method_24_code 89 = .ok (.invokevirtual 127, 3) := by decide +kernel
theorem d_Ev_possible_92 : decode prog_4_method_24_code 92 = .ok (.iload 5, 2) := by decide +kernel
theorem d_Ev_possible_94 : decode prog_4_method_24_code 94 = .ok (.invokestatic 199, 3) := by decide +kernel
theorem d_Ev_possible_97 : decode prog_4_method_24_code 97 = .ok (.istore 7, 2) := by decide +kernel
theorem d_Ev_possible_99 : decode prog_4_method_24_code 99 = .ok (.iload 4, 2) := by decide +kernel
theorem d_Ev_possible_101 : decode prog_4_method_24_code 101 = .ok (.ifCond .eq 15, 3) := by decide +kernel
theorem d_Ev_possible_104 : decode prog_4_method_24_code 104 = .ok (.aload_n 0, 1) := by decide +kernel
theorem d_Ev_possible_105 : decode prog_4_method_24_code 105 = .ok (.getfield 21, 3) := by decide +kernel
theorem d_Ev_possible_108 : decode prog_4_method_24_code 108 = .ok (.iload_n 2, 1) := by decide +kernel
theorem d_Ev_possible_109 : decode prog_4_method_24_code 109 = .ok (.iload_n 3, 1) := by decide +kernel
theorem d_Ev_possible_110 : decode prog_4_method_24_code 110 = .ok (.invokevirtual 92, 3) := by decide +kernel
theorem d_Ev_possible_113 : decode prog_4_method_24_code 113 = .ok (.goto 4, 3) := by decide +kernel
theorem d_Ev_possible_116 : decode prog_4_method_24_code 116 = .ok (.iconst 0, 1) := by decide +kernel
theorem d_Ev_possible_117 : decode prog_4_method_24_code 117 = .ok (.istore 8, 2) := by decide +kernel
theorem d_Ev_possible_119 : decode prog_4_method_24_code 119 = .ok (.aload_n 0, 1) := by decide +kernel
theorem d_Ev_possible_120 : decode prog_4_method_24_code 120 = .ok (.getfield 12, 3) := by decide +kernel
theorem d_Ev_possible_123 : decode prog_4_method_24_code 123 = .ok (.iload_n 2, 1) := by decide +kernel
theorem d_Ev_possible_124 : decode prog_4_method_24_code 124 = .ok (.iload_n 3, 1) := by decide +kernel
theorem d_Ev_possible_125 : decode prog_4_method_24_code 125 = .ok (.invokevirtual 96, 3) := by decide +kernel
theorem d_Ev_possible_128 : decode prog_4_method_24_code 128 = .ok (.aload_n 0, 1) := by decide +kernel
theorem d_Ev_possible_129 : decode prog_4_method_24_code 129 = .ok (.getfield 12, 3) := by decide +kernel
theorem d_Ev_possible_132 : decode prog_4_method_24_code 132 = .ok (.iload_n 2, 1) := by decide +kernel
theorem d_Ev_possible_133 : decode prog_4_method_24_code 133 = .ok (.iload_n 3, 1) := by decide +kernel
theorem d_Ev_possible_134 : decode prog_4_method_24_code 134 = .ok (.invokevirtual 118, 3) := by decide +kernel
theorem d_Ev_possible_137 : decode prog_4_method_24_code 137 = .ok (.isub, 1) := by decide +kernel
theorem d_Ev_possible_138 : decode prog_4_method_24_code 138 = .ok (.istore 9, 2) := by decide +kernel
theorem d_Ev_possible_140 : decode prog_4_method_24_code 140 = .ok (.iconst 0, 1) := by decide +kernel
theorem d_Ev_possible_141 : decode prog_4_method_24_code 141 = .ok (.istore 10, 2) := by decide +kernel
theorem d_Ev_possible_143 : decode prog_4_method_24_code 143 = .ok (.iconst 0, 1) := by decide +kernel
theorem d_Ev_possible_144 : decode prog_4_method_24_code 144 = .ok (.istore 11, 2) := by decide +kernel
theorem d_Ev_possible_146 : decode prog_4_method_24_code 146 = .ok (.iload 11, 2) := by decide +kernel
theorem d_Ev_possible_148 : decode prog_4_method_24_code 148 = .ok (.bipush 8, 2) := by decide +kernel
theorem d_Ev_possible_150 : decode prog_4_method_24_code 150 = .ok (.if_icmp .gt 65, 3) := by decide +kernel
theorem d_Ev_possible_153 : decode prog_4_method_24_code 153 = .ok (.iload 11, 2) := by decide +kernel
theorem d_Ev_possible_155 : decode prog_4_method_24_code 155 = .ok (.iload 7, 2) := by decide +kernel
theorem d_Ev_possible_157 : decode prog_4_method_24_code 157 = .ok (.if_icmp .gt 58, 3) := by decide +kernel
theorem d_Ev_possible_160 : decode prog_4_method_24_code 160 = .ok (.iload 8, 2) := by decide +kernel
theorem d_Ev_possible_162 : decode prog_4_method_24_code 162 = .ok (.ifCond .eq 16, 3) := by decide +kernel
theorem d_Ev_possible_165 : decode prog_4_method_24_code 165 = .ok (.iload 8, 2) := by decide +kernel
theorem d_Ev_possible_167 : decode prog_4_method_24_code 167 = .ok (.iload 11, 2) := by decide +kernel
theorem d_Ev_possible_169 : decode prog_4_method_24_code 169 = .ok (.iload 9, 2) := by decide +kernel
theorem d_Ev_possible_171 : decode prog_4_method_24_code 171 = .ok (.iadd, 1) := by decide +kernel
theorem d_Ev_possible_172 : decode prog_4_method_24_code 172 = .ok (.invokestatic 99, 3) := by decide +kernel
theorem d_Ev_possible_175 : decode prog_4_method_24_code 175 = .ok (.if_icmp .ne 7, 3) := by decide +kernel
theorem d_Ev_possible_178 : decode prog_4_method_24_code 178 = .ok (.iconst 1, 1) := by decide +kernel
theorem d_Ev_possible_179 : decode prog_4_method_24_code 179 = .ok (.goto 4, 3) := by decide +kernel
theorem d_Ev_possible_182 : decode prog_4_method_24_code 182 = .ok (.iconst 0, 1) := by decide +kernel
theorem d_Ev_possible_183 : decode prog_4_method_24_code 183 = .ok (.istore 12, 2) := by decide +kernel
theorem d_Ev_possible_185 : decode prog_4_method_24_code 185 = .ok (.iload 5, 2) := by decide +kernel
theorem d_Ev_possible_187 : decode prog_4_method_24_code 187 = .ok (.iload 11, 2) := by decide +kernel
theorem d_Ev_possible_189 : decode prog_4_method_24_code 189 = .ok (.isub, 1) := by decide +kernel
theorem d_Ev_possible_190 : decode prog_4_method_24_code 190 = .ok (.iload 6, 2) := by decide +kernel
theorem d_Ev_possible_192 : decode prog_4_method_24_code 192 = .ok (.if_icmp .gt 17, 3) := by decide +kernel
theorem d_Ev_possible_195 : decode prog_4_method_24_code 195 = .ok (.iload 12, 2) := by decide +kernel
theorem d_Ev_possible_197 : decode prog_4_method_24_code 197 = .ok (.ifCond .eq 12, 3) := by decide +kernel
theorem d_Ev_possible_200 : decode prog_4_method_24_code 200 = .ok (.iload 10, 2) := by decide +kernel
theorem d_Ev_possible_202 : decode prog_4_method_24_code 202 = .ok (.iconst 1, 1) := by decide +kernel
theorem d_Ev_possible_203 : decode prog_4_method_24_code 203 = .ok (.iload 11, 2) := by decide +kernel
theorem d_Ev_possible_205 : decode prog_4_method_24_code 205 = .ok (.ishl, 1) := by decide +kernel
theorem d_Ev_possible_206 : decode prog_4_method_24_code 206 = .ok (.ior, 1) := by decide +kernel
theorem d_Ev_possible_207 : decode prog_4_method_24_code 207 = .ok (.istore 10, 2) := by decide +kernel
theorem d_Ev_possible_209 : decode prog_4_method_24_code 209 = .ok (.iinc 11 1, 3) := by decide +kernel
theorem d_Ev_possible_212 : decode prog_4_method_24_code 212 = .ok (.goto (-66), 3) := by decide +kernel
theorem d_Ev_possible_215 : decode prog_4_method_24_code 215 = .ok (.iload 10, 2) := by decide +kernel
theorem d_Ev_possible_217 : decode prog_4_method_24_code 217 = .ok (.ireturn, 1) := by decide +kernel
theorem w_885 : Cond.methodLink "DropSignals$Evening" 193 ⟨"DropSignals$Cards", "unseen", "(II)I"⟩ ∈ gWs := gWs_in (i := 885) (by decide +kernel) rfl
theorem w_890 : Cond.methodLink "DropSignals$Evening" 196 ⟨"DropSignals$Drops", "showedNone", "(II)Z"⟩ ∈ gWs := gWs_in (i := 890) (by decide +kernel) rfl
theorem w_892 : Cond.methodLink "DropSignals$Evening" 199 Lib.Math.min.name ∈ gWs := gWs_in (i := 892) (by decide +kernel) rfl
noncomputable def f_Ev_possible_b215 (e : Nat) (M : gMem) (x10 : Int32) : Option Int32 :=
  some x10
theorem t_Ev_possible_b215 {l : Launch} {ε : gEnv} (e : Nat) (hE : gEv ε e) (M : gMem) (x10 : Int32) (r : Int32) (h : f_Ev_possible_b215 e M x10 = some r) : gGo l ε k_Ev_possible (gR 3 69) (gFn ε (some (.int r)) M) 215 [(10, .int x10)] [] M := by
  unfold f_Ev_possible_b215 at h
  refine g_iload d_Ev_possible_215 0 rfl ?_
  obtain rfl := Option.some.inj h
  exact g_iret d_Ev_possible_217 rfl
noncomputable def f_Ev_possible_b209 (e : Nat) (M : gMem) (x5 : Int32) (x6 : Int32) (x7 : Int32) (x8 : Int32) (x9 : Int32) (x10 : Int32) (x11 : Int32) : Option ((Int32 × Int32) ⊕ Int32) :=
  some (.inl (x10, (x11 + 1)))
theorem t_Ev_possible_b209 {l : Launch} {ε : gEnv} (e : Nat) (hE : gEv ε e) (M : gMem) (x5 : Int32) (x6 : Int32) (x7 : Int32) (x8 : Int32) (x9 : Int32) (x10 : Int32) (x11 : Int32) (res : ((Int32 × Int32) ⊕ Int32)) (h : f_Ev_possible_b209 e M x5 x6 x7 x8 x9 x10 x11 = some res) (r : Int32) (k1 : ∀ s0 : (Int32 × Int32), res = .inl s0 → gGo l ε k_Ev_possible (gR 3 69) (gFn ε (some (.int r)) M) 146 [(5, .int x5), (6, .int x6), (7, .int x7), (8, .int x8), (9, .int x9), (10, .int s0.1), (11, .int s0.2)] [] M) (k2 : ∀ r', res = .inr r' → r' = r) : gGo l ε k_Ev_possible (gR 3 69) (gFn ε (some (.int r)) M) 209 [(5, .int x5), (6, .int x6), (7, .int x7), (8, .int x8), (9, .int x9), (10, .int x10), (11, .int x11)] [] M := by
  unfold f_Ev_possible_b209 at h
  refine g_iinc (v := (x11 + 1)) (L' := [(11, .int (x11 + 1)), (5, .int x5), (6, .int x6), (7, .int x7), (8, .int x8), (9, .int x9), (10, .int x10)]) d_Ev_possible_209 (j := 6) rfl rfl (by decide) rfl ?_
  refine g_goto (tgt := 146) d_Ev_possible_212 (by decide) ?_
  refine gGo_sub [1, 2, 3, 4, 5, 6, 0] rfl ?_
  obtain rfl := Option.some.inj h
  exact k1 (x10, (x11 + 1)) rfl
noncomputable def f_Ev_possible_b183 (e : Nat) (M : gMem) (x5 : Int32) (x6 : Int32) (x7 : Int32) (x8 : Int32) (x9 : Int32) (x10 : Int32) (x11 : Int32) (s0 : Int32) : Option ((Int32 × Int32) ⊕ Int32) :=
  if x6 < (x5 - x11) then
    f_Ev_possible_b209 e M x5 x6 x7 x8 x9 x10 x11
  else
    if s0 = 0 then
      f_Ev_possible_b209 e M x5 x6 x7 x8 x9 x10 x11
    else
      f_Ev_possible_b209 e M x5 x6 x7 x8 x9 (x10 ||| (gIsh 1 x11)) x11
theorem t_Ev_possible_b183 {l : Launch} {ε : gEnv} (e : Nat) (hE : gEv ε e) (M : gMem) (x5 : Int32) (x6 : Int32) (x7 : Int32) (x8 : Int32) (x9 : Int32) (x10 : Int32) (x11 : Int32) (s0 : Int32) (res : ((Int32 × Int32) ⊕ Int32)) (h : f_Ev_possible_b183 e M x5 x6 x7 x8 x9 x10 x11 s0 = some res) (r : Int32) (k1 : ∀ s0 : (Int32 × Int32), res = .inl s0 → gGo l ε k_Ev_possible (gR 3 69) (gFn ε (some (.int r)) M) 146 [(5, .int x5), (6, .int x6), (7, .int x7), (8, .int x8), (9, .int x9), (10, .int s0.1), (11, .int s0.2)] [] M) (k2 : ∀ r', res = .inr r' → r' = r) : gGo l ε k_Ev_possible (gR 3 69) (gFn ε (some (.int r)) M) 183 [(5, .int x5), (6, .int x6), (7, .int x7), (8, .int x8), (9, .int x9), (10, .int x10), (11, .int x11)] [.int s0] M := by
  unfold f_Ev_possible_b183 at h
  refine g_istore (L' := [(12, .int s0), (5, .int x5), (6, .int x6), (7, .int x7), (8, .int x8), (9, .int x9), (10, .int x10), (11, .int x11)]) d_Ev_possible_183 (by decide) rfl ?_
  refine g_iload d_Ev_possible_185 1 rfl ?_
  refine g_iload d_Ev_possible_187 7 rfl ?_
  refine g_isub d_Ev_possible_189 ?_
  refine g_iload d_Ev_possible_190 2 rfl ?_
  refine g_icmp_gt (tgt := 209) d_Ev_possible_192 (by decide) (fun c7 => ?_) (fun c7 => ?_)
  · rw [if_pos c7] at h
    refine gGo_sub [1, 2, 3, 4, 5, 6, 7] rfl ?_
    exact t_Ev_possible_b209 e hE M x5 x6 x7 x8 x9 x10 x11 _ h r k1 k2
  · rw [if_neg c7] at h
    refine g_iload d_Ev_possible_195 0 rfl ?_
    refine g_if_eq (tgt := 209) d_Ev_possible_197 (by decide) (fun c6 => ?_) (fun c6 => ?_)
    · rw [if_pos c6] at h
      refine gGo_sub [1, 2, 3, 4, 5, 6, 7] rfl ?_
      exact t_Ev_possible_b209 e hE M x5 x6 x7 x8 x9 x10 x11 _ h r k1 k2
    · rw [if_neg c6] at h
      refine g_iload d_Ev_possible_200 6 rfl ?_
      refine g_iconst (v := 1) d_Ev_possible_202 (by decide) ?_
      refine g_iload d_Ev_possible_203 7 rfl ?_
      refine g_ish d_Ev_possible_205 ?_
      refine g_ior d_Ev_possible_206 ?_
      refine g_istore (L' := [(10, .int (x10 ||| (gIsh 1 x11))), (12, .int s0), (5, .int x5), (6, .int x6), (7, .int x7), (8, .int x8), (9, .int x9), (11, .int x11)]) d_Ev_possible_207 (by decide) rfl ?_
      refine gGo_sub [2, 3, 4, 5, 6, 0, 7] rfl ?_
      exact t_Ev_possible_b209 e hE M x5 x6 x7 x8 x9 (x10 ||| (gIsh 1 x11)) x11 _ h r k1 k2
noncomputable def f_Ev_possible_b178 (e : Nat) (M : gMem) (x5 : Int32) (x6 : Int32) (x7 : Int32) (x8 : Int32) (x9 : Int32) (x10 : Int32) (x11 : Int32) : Option ((Int32 × Int32) ⊕ Int32) :=
  f_Ev_possible_b183 e M x5 x6 x7 x8 x9 x10 x11 1
theorem t_Ev_possible_b178 {l : Launch} {ε : gEnv} (e : Nat) (hE : gEv ε e) (M : gMem) (x5 : Int32) (x6 : Int32) (x7 : Int32) (x8 : Int32) (x9 : Int32) (x10 : Int32) (x11 : Int32) (res : ((Int32 × Int32) ⊕ Int32)) (h : f_Ev_possible_b178 e M x5 x6 x7 x8 x9 x10 x11 = some res) (r : Int32) (k1 : ∀ s0 : (Int32 × Int32), res = .inl s0 → gGo l ε k_Ev_possible (gR 3 69) (gFn ε (some (.int r)) M) 146 [(5, .int x5), (6, .int x6), (7, .int x7), (8, .int x8), (9, .int x9), (10, .int s0.1), (11, .int s0.2)] [] M) (k2 : ∀ r', res = .inr r' → r' = r) : gGo l ε k_Ev_possible (gR 3 69) (gFn ε (some (.int r)) M) 178 [(5, .int x5), (6, .int x6), (7, .int x7), (8, .int x8), (9, .int x9), (10, .int x10), (11, .int x11)] [] M := by
  unfold f_Ev_possible_b178 at h
  refine g_iconst (v := 1) d_Ev_possible_178 (by decide) ?_
  refine g_goto (tgt := 183) d_Ev_possible_179 (by decide) ?_
  exact t_Ev_possible_b183 e hE M x5 x6 x7 x8 x9 x10 x11 1 _ h r k1 k2
noncomputable def f_Ev_possible_s146 (e : Nat) (M : gMem) (x5 : Int32) (x6 : Int32) (x7 : Int32) (x8 : Int32) (x9 : Int32) (x10 : Int32) (x11 : Int32) : Option ((Int32 × Int32) ⊕ Int32) :=
  if 8 < x11 then
    (f_Ev_possible_b215 e M x10).map .inr
  else
    if x7 < x11 then
      (f_Ev_possible_b215 e M x10).map .inr
    else
      if x8 = 0 then
        f_Ev_possible_b178 e M x5 x6 x7 x8 x9 x10 x11
      else
        (f_Drops_truthFor (x11 + x9)).bind fun q8 =>
        if x8 = q8 then
          f_Ev_possible_b178 e M x5 x6 x7 x8 x9 x10 x11
        else
          f_Ev_possible_b183 e M x5 x6 x7 x8 x9 x10 x11 0
theorem t_Ev_possible_s146 {l : Launch} {ε : gEnv} (e : Nat) (hE : gEv ε e) (M : gMem) (x5 : Int32) (x6 : Int32) (x7 : Int32) (x8 : Int32) (x9 : Int32) (x10 : Int32) (x11 : Int32) (res : ((Int32 × Int32) ⊕ Int32)) (h : f_Ev_possible_s146 e M x5 x6 x7 x8 x9 x10 x11 = some res) (r : Int32) (k1 : ∀ s0 : (Int32 × Int32), res = .inl s0 → gGo l ε k_Ev_possible (gR 3 69) (gFn ε (some (.int r)) M) 146 [(5, .int x5), (6, .int x6), (7, .int x7), (8, .int x8), (9, .int x9), (10, .int s0.1), (11, .int s0.2)] [] M) (k2 : ∀ r', res = .inr r' → r' = r) : gGo l ε k_Ev_possible (gR 3 69) (gFn ε (some (.int r)) M) 146 [(5, .int x5), (6, .int x6), (7, .int x7), (8, .int x8), (9, .int x9), (10, .int x10), (11, .int x11)] [] M := by
  unfold f_Ev_possible_s146 at h
  refine g_iload d_Ev_possible_146 6 rfl ?_
  refine g_bipush (v := 8) d_Ev_possible_148 (by decide) ?_
  refine g_icmp_gt (tgt := 215) d_Ev_possible_150 (by decide) (fun c12 => ?_) (fun c12 => ?_)
  · rw [if_pos c12] at h
    refine gGo_sub [5] rfl ?_
    obtain ⟨r9, h9, h8⟩ := gOm h
    cases h8
    have e9 := k2 _ rfl
    subst e9
    exact t_Ev_possible_b215 e hE M x10 _ h9
  · rw [if_neg c12] at h
    refine g_iload d_Ev_possible_153 6 rfl ?_
    refine g_iload d_Ev_possible_155 2 rfl ?_
    refine g_icmp_gt (tgt := 215) d_Ev_possible_157 (by decide) (fun c11 => ?_) (fun c11 => ?_)
    · rw [if_pos c11] at h
      refine gGo_sub [5] rfl ?_
      obtain ⟨r9, h9, h8⟩ := gOm h
      cases h8
      have e9 := k2 _ rfl
      subst e9
      exact t_Ev_possible_b215 e hE M x10 _ h9
    · rw [if_neg c11] at h
      refine g_iload d_Ev_possible_160 3 rfl ?_
      refine g_if_eq (tgt := 178) d_Ev_possible_162 (by decide) (fun c10 => ?_) (fun c10 => ?_)
      · rw [if_pos c10] at h
        exact t_Ev_possible_b178 e hE M x5 x6 x7 x8 x9 x10 x11 _ h r k1 k2
      · rw [if_neg c10] at h
        refine g_iload d_Ev_possible_165 3 rfl ?_
        refine g_iload d_Ev_possible_167 6 rfl ?_
        refine g_iload d_Ev_possible_169 4 rfl ?_
        refine g_iadd d_Ev_possible_171 ?_
        obtain ⟨q8, hq8, h⟩ := gOb h
        refine g_callS_i (As := [.int (x11 + x9)]) (rest := [.int x8]) (ct_Drops_truthFor M (x11 + x9) _ hq8) d_Ev_possible_172 ca_Drops_truthFor w_541 rfl rfl (Nat.le_of_ble_eq_true rfl) ⟨(Nat.le_of_ble_eq_true rfl), (Nat.le_of_ble_eq_true rfl)⟩ ?_
        refine g_icmp_ne (tgt := 182) d_Ev_possible_175 (by decide) (fun c9 => ?_) (fun c9 => ?_)
        · rw [if_neg c9] at h
          refine g_iconst (v := 0) d_Ev_possible_182 (by decide) ?_
          exact t_Ev_possible_b183 e hE M x5 x6 x7 x8 x9 x10 x11 0 _ h r k1 k2
        · rw [if_pos c9] at h
          exact t_Ev_possible_b178 e hE M x5 x6 x7 x8 x9 x10 x11 _ h r k1 k2
noncomputable def f_Ev_possible_l146 (e : Nat) (M : gMem) (x5 : Int32) (x6 : Int32) (x7 : Int32) (x8 : Int32) (x9 : Int32) (s : (Int32 × Int32)) : Option Int32 := gLp (fun s => f_Ev_possible_s146 e M x5 x6 x7 x8 x9 s.1 s.2) s
theorem t_Ev_possible_l146 {l : Launch} {ε : gEnv} (e : Nat) (hE : gEv ε e) (M : gMem) (x5 : Int32) (x6 : Int32) (x7 : Int32) (x8 : Int32) (x9 : Int32) (s : (Int32 × Int32)) (r : Int32) (h : f_Ev_possible_l146 e M x5 x6 x7 x8 x9 s = some r) : gGo l ε k_Ev_possible (gR 3 69) (gFn ε (some (.int r)) M) 146 [(5, .int x5), (6, .int x6), (7, .int x7), (8, .int x8), (9, .int x9), (10, .int s.1), (11, .int s.2)] [] M :=
  g_loop _ (fun r s => gGo l ε k_Ev_possible (gR 3 69) (gFn ε (some (.int r)) M) 146 [(5, .int x5), (6, .int x6), (7, .int x7), (8, .int x8), (9, .int x9), (10, .int s.1), (11, .int s.2)] [] M) (fun s res h r k1 k2 => t_Ev_possible_s146 e hE M x5 x6 x7 x8 x9 s.1 s.2 res h r k1 k2) s r h
noncomputable def f_Ev_possible_b117 (e : Nat) (M : gMem) (x2 : Int32) (x3 : Int32) (x5 : Int32) (x6 : Int32) (x7 : Int32) (s0 : Int32) : Option Int32 :=
  (f_Cards_dealt e M x2 x3).bind fun q4 =>
  (f_Cards_held e M x2 x3).bind fun q5 =>
  f_Ev_possible_l146 e M x5 x6 x7 s0 (q4 - q5) (0, 0)
theorem t_Ev_possible_b117 {l : Launch} {ε : gEnv} (e : Nat) (hE : gEv ε e) (M : gMem) (x2 : Int32) (x3 : Int32) (x5 : Int32) (x6 : Int32) (x7 : Int32) (s0 : Int32) (r : Int32) (h : f_Ev_possible_b117 e M x2 x3 x5 x6 x7 s0 = some r) : gGo l ε k_Ev_possible (gR 3 69) (gFn ε (some (.int r)) M) 117 [(0, .ref (ε.2.2.1 e 0)), (2, .int x2), (3, .int x3), (5, .int x5), (6, .int x6), (7, .int x7)] [.int s0] M := by
  unfold f_Ev_possible_b117 at h
  refine g_istore (L' := [(8, .int s0), (0, .ref (ε.2.2.1 e 0)), (2, .int x2), (3, .int x3), (5, .int x5), (6, .int x6), (7, .int x7)]) d_Ev_possible_117 (by decide) rfl ?_
  refine g_aload_n d_Ev_possible_119 rfl 1 rfl ?_
  refine g_getR d_Ev_possible_120 fl_Ev_12 (gEv_h0 hE) rfl ?_
  refine g_iload_n d_Ev_possible_123 rfl 2 rfl ?_
  refine g_iload_n d_Ev_possible_124 rfl 3 rfl ?_
  obtain ⟨q4, hq4, h⟩ := gOb h
  refine g_callV_i (As := [.int x2, .int x3]) (rest := []) (ct_Cards_dealt e (gEv_cd hE) M x2 x3 _ hq4) d_Ev_possible_125 ca_Cards_dealt w_533 (gEv_h1 hE) rfl rfl rfl (Nat.le_of_ble_eq_true rfl) ⟨(Nat.le_of_ble_eq_true rfl), (Nat.le_of_ble_eq_true rfl)⟩ ?_
  refine g_aload_n d_Ev_possible_128 rfl 1 rfl ?_
  refine g_getR d_Ev_possible_129 fl_Ev_12 (gEv_h0 hE) rfl ?_
  refine g_iload_n d_Ev_possible_132 rfl 2 rfl ?_
  refine g_iload_n d_Ev_possible_133 rfl 3 rfl ?_
  obtain ⟨q5, hq5, h⟩ := gOb h
  refine g_callV_i (As := [.int x2, .int x3]) (rest := [.int q4]) (ct_Cards_held e (gEv_cd hE) M x2 x3 _ hq5) d_Ev_possible_134 ca_Cards_held w_494 (gEv_h1 hE) rfl rfl rfl (Nat.le_of_ble_eq_true rfl) ⟨(Nat.le_of_ble_eq_true rfl), (Nat.le_of_ble_eq_true rfl)⟩ ?_
  refine g_isub d_Ev_possible_137 ?_
  refine g_istore (L' := [(9, .int (q4 - q5)), (8, .int s0), (0, .ref (ε.2.2.1 e 0)), (2, .int x2), (3, .int x3), (5, .int x5), (6, .int x6), (7, .int x7)]) d_Ev_possible_138 (by decide) rfl ?_
  refine g_iconst (v := 0) d_Ev_possible_140 (by decide) ?_
  refine g_istore (L' := [(10, .int 0), (9, .int (q4 - q5)), (8, .int s0), (0, .ref (ε.2.2.1 e 0)), (2, .int x2), (3, .int x3), (5, .int x5), (6, .int x6), (7, .int x7)]) d_Ev_possible_141 (by decide) rfl ?_
  refine g_iconst (v := 0) d_Ev_possible_143 (by decide) ?_
  refine g_istore (L' := [(11, .int 0), (10, .int 0), (9, .int (q4 - q5)), (8, .int s0), (0, .ref (ε.2.2.1 e 0)), (2, .int x2), (3, .int x3), (5, .int x5), (6, .int x6), (7, .int x7)]) d_Ev_possible_144 (by decide) rfl ?_
  refine gGo_sub [7, 8, 9, 3, 2, 1, 0] rfl ?_
  exact t_Ev_possible_l146 e hE M x5 x6 x7 s0 (q4 - q5) (0, 0) _ h
noncomputable def f_Ev_possible_b97 (e : Nat) (M : gMem) (x2 : Int32) (x3 : Int32) (x4 : Int32) (x5 : Int32) (x6 : Int32) (s0 : Int32) : Option Int32 :=
  if x4 = 0 then
    f_Ev_possible_b117 e M x2 x3 x5 x6 s0 0
  else
    (f_Drops_signal e M x2 x3).bind fun q13 =>
    f_Ev_possible_b117 e M x2 x3 x5 x6 s0 q13
theorem t_Ev_possible_b97 {l : Launch} {ε : gEnv} (e : Nat) (hE : gEv ε e) (M : gMem) (x2 : Int32) (x3 : Int32) (x4 : Int32) (x5 : Int32) (x6 : Int32) (s0 : Int32) (r : Int32) (h : f_Ev_possible_b97 e M x2 x3 x4 x5 x6 s0 = some r) : gGo l ε k_Ev_possible (gR 3 69) (gFn ε (some (.int r)) M) 97 [(0, .ref (ε.2.2.1 e 0)), (2, .int x2), (3, .int x3), (4, .int x4), (5, .int x5), (6, .int x6)] [.int s0] M := by
  unfold f_Ev_possible_b97 at h
  refine g_istore (L' := [(7, .int s0), (0, .ref (ε.2.2.1 e 0)), (2, .int x2), (3, .int x3), (4, .int x4), (5, .int x5), (6, .int x6)]) d_Ev_possible_97 (by decide) rfl ?_
  refine g_iload d_Ev_possible_99 4 rfl ?_
  refine g_if_eq (tgt := 116) d_Ev_possible_101 (by decide) (fun c14 => ?_) (fun c14 => ?_)
  · rw [if_pos c14] at h
    refine g_iconst (v := 0) d_Ev_possible_116 (by decide) ?_
    refine gGo_sub [1, 2, 3, 5, 6, 0] rfl ?_
    exact t_Ev_possible_b117 e hE M x2 x3 x5 x6 s0 0 _ h
  · rw [if_neg c14] at h
    refine g_aload_n d_Ev_possible_104 rfl 1 rfl ?_
    refine g_getR d_Ev_possible_105 fl_Ev_21 (gEv_h0 hE) rfl ?_
    refine g_iload_n d_Ev_possible_108 rfl 2 rfl ?_
    refine g_iload_n d_Ev_possible_109 rfl 3 rfl ?_
    obtain ⟨q13, hq13, h⟩ := gOb h
    refine g_callV_i (As := [.int x2, .int x3]) (rest := []) (ct_Drops_signal e (gEv_dr hE) M x2 x3 _ hq13) d_Ev_possible_110 ca_Drops_signal w_664 (gEv_h2 hE) rfl rfl rfl (Nat.le_of_ble_eq_true rfl) ⟨(Nat.le_of_ble_eq_true rfl), (Nat.le_of_ble_eq_true rfl)⟩ ?_
    refine g_goto (tgt := 117) d_Ev_possible_113 (by decide) ?_
    refine gGo_sub [1, 2, 3, 5, 6, 0] rfl ?_
    exact t_Ev_possible_b117 e hE M x2 x3 x5 x6 s0 q13 _ h
noncomputable def f_Ev_possible_b62 (e : Nat) (M : gMem) (x1 : Int32) (x2 : Int32) (x3 : Int32) (x4 : Int32) (x5 : Int32) (x6 : Int32) (x7 : Int32) : Option ((Int32 × Int32) ⊕ Int32) :=
  some (.inl (x6, (x7 + 1)))
theorem t_Ev_possible_b62 {l : Launch} {ε : gEnv} (e : Nat) (hE : gEv ε e) (M : gMem) (x1 : Int32) (x2 : Int32) (x3 : Int32) (x4 : Int32) (x5 : Int32) (x6 : Int32) (x7 : Int32) (res : ((Int32 × Int32) ⊕ Int32)) (h : f_Ev_possible_b62 e M x1 x2 x3 x4 x5 x6 x7 = some res) (r : Int32) (k1 : ∀ s0 : (Int32 × Int32), res = .inl s0 → gGo l ε k_Ev_possible (gR 3 69) (gFn ε (some (.int r)) M) 17 [(0, .ref (ε.2.2.1 e 0)), (1, .int x1), (2, .int x2), (3, .int x3), (4, .int x4), (5, .int x5), (6, .int s0.1), (7, .int s0.2)] [] M) (k2 : ∀ r', res = .inr r' → r' = r) : gGo l ε k_Ev_possible (gR 3 69) (gFn ε (some (.int r)) M) 62 [(0, .ref (ε.2.2.1 e 0)), (1, .int x1), (2, .int x2), (3, .int x3), (4, .int x4), (5, .int x5), (6, .int x6), (7, .int x7)] [] M := by
  unfold f_Ev_possible_b62 at h
  refine g_iinc (v := (x7 + 1)) (L' := [(7, .int (x7 + 1)), (0, .ref (ε.2.2.1 e 0)), (1, .int x1), (2, .int x2), (3, .int x3), (4, .int x4), (5, .int x5), (6, .int x6)]) d_Ev_possible_62 (j := 7) rfl rfl (by decide) rfl ?_
  refine g_goto (tgt := 17) d_Ev_possible_65 (by decide) ?_
  refine gGo_sub [1, 2, 3, 4, 5, 6, 7, 0] rfl ?_
  obtain rfl := Option.some.inj h
  exact k1 (x6, (x7 + 1)) rfl
noncomputable def f_Ev_possible_s17 (e : Nat) (M : gMem) (x1 : Int32) (x2 : Int32) (x3 : Int32) (x4 : Int32) (x5 : Int32) (x6 : Int32) (x7 : Int32) : Option ((Int32 × Int32) ⊕ Int32) :=
  if 4 ≤ x7 then
    (f_Drops_showedNone e M x2 x3).bind fun q2 =>
    if q2 = 0 then
      (f_Cards_handSize e M x2).bind fun q3 =>
      (f_Ev_possible_b97 e M x2 x3 x4 x5 x6 (if x5 < q3 then x5 else q3)).map .inr
    else
      (f_Ev_possible_b97 e M x2 x3 x4 x5 x6 0).map .inr
  else
    if x7 = x1 then
      f_Ev_possible_b62 e M x1 x2 x3 x4 x5 x6 x7
    else
      if x7 = x2 then
        f_Ev_possible_b62 e M x1 x2 x3 x4 x5 x6 x7
      else
        (f_Drops_showedNone e M x7 x3).bind fun q16 =>
        if q16 = 0 then
          (f_Cards_handSize e M x7).bind fun q17 =>
          f_Ev_possible_b62 e M x1 x2 x3 x4 x5 (x6 + q17) x7
        else
          f_Ev_possible_b62 e M x1 x2 x3 x4 x5 x6 x7
theorem t_Ev_possible_s17 {l : Launch} {ε : gEnv} (e : Nat) (hE : gEv ε e) (M : gMem) (x1 : Int32) (x2 : Int32) (x3 : Int32) (x4 : Int32) (x5 : Int32) (x6 : Int32) (x7 : Int32) (res : ((Int32 × Int32) ⊕ Int32)) (h : f_Ev_possible_s17 e M x1 x2 x3 x4 x5 x6 x7 = some res) (r : Int32) (k1 : ∀ s0 : (Int32 × Int32), res = .inl s0 → gGo l ε k_Ev_possible (gR 3 69) (gFn ε (some (.int r)) M) 17 [(0, .ref (ε.2.2.1 e 0)), (1, .int x1), (2, .int x2), (3, .int x3), (4, .int x4), (5, .int x5), (6, .int s0.1), (7, .int s0.2)] [] M) (k2 : ∀ r', res = .inr r' → r' = r) : gGo l ε k_Ev_possible (gR 3 69) (gFn ε (some (.int r)) M) 17 [(0, .ref (ε.2.2.1 e 0)), (1, .int x1), (2, .int x2), (3, .int x3), (4, .int x4), (5, .int x5), (6, .int x6), (7, .int x7)] [] M := by
  unfold f_Ev_possible_s17 at h
  refine g_iload d_Ev_possible_17 7 rfl ?_
  refine g_iconst (v := 4) d_Ev_possible_19 (by decide) ?_
  refine g_icmp_ge (tgt := 68) d_Ev_possible_20 (by decide) (fun c21 => ?_) (fun c21 => ?_)
  · rw [if_pos c21] at h
    refine g_aload_n d_Ev_possible_68 rfl 0 rfl ?_
    refine g_getR d_Ev_possible_69 fl_Ev_21 (gEv_h0 hE) rfl ?_
    refine g_iload_n d_Ev_possible_72 rfl 2 rfl ?_
    refine g_iload_n d_Ev_possible_73 rfl 3 rfl ?_
    obtain ⟨q2, hq2, h⟩ := gOb h
    refine g_callV_i (As := [.int x2, .int x3]) (rest := []) (ct_Drops_showedNone e (gEv_dr hE) M x2 x3 _ hq2) d_Ev_possible_74 ca_Drops_showedNone w_890 (gEv_h2 hE) rfl rfl rfl (Nat.le_of_ble_eq_true rfl) ⟨(Nat.le_of_ble_eq_true rfl), (Nat.le_of_ble_eq_true rfl)⟩ ?_
    refine g_if_eq (tgt := 84) d_Ev_possible_77 (by decide) (fun c15 => ?_) (fun c15 => ?_)
    · rw [if_pos c15] at h
      refine g_aload_n d_Ev_possible_84 rfl 0 rfl ?_
      refine g_getR d_Ev_possible_85 fl_Ev_12 (gEv_h0 hE) rfl ?_
      refine g_iload_n d_Ev_possible_88 rfl 2 rfl ?_
      obtain ⟨q3, hq3, h⟩ := gOb h
      refine g_callV_i (As := [.int x2]) (rest := []) (ct_Cards_handSize e (gEv_cd hE) M x2 _ hq3) d_Ev_possible_89 ca_Cards_handSize w_891 (gEv_h1 hE) rfl rfl rfl (Nat.le_of_ble_eq_true rfl) ⟨(Nat.le_of_ble_eq_true rfl), (Nat.le_of_ble_eq_true rfl)⟩ ?_
      refine g_iload d_Ev_possible_92 5 rfl ?_
      refine g_min d_Ev_possible_94 w_892 w_712 w_36 w_713 (Nat.le_of_ble_eq_true rfl) (Nat.le_of_ble_eq_true rfl) ?_
      refine gGo_sub [0, 2, 3, 4, 5, 6] rfl ?_
      obtain ⟨r9, h9, h8⟩ := gOm h
      cases h8
      have e9 := k2 _ rfl
      subst e9
      exact t_Ev_possible_b97 e hE M x2 x3 x4 x5 x6 (if x5 < q3 then x5 else q3) _ h9
    · rw [if_neg c15] at h
      refine g_iconst (v := 0) d_Ev_possible_80 (by decide) ?_
      refine g_goto (tgt := 97) d_Ev_possible_81 (by decide) ?_
      refine gGo_sub [0, 2, 3, 4, 5, 6] rfl ?_
      obtain ⟨r9, h9, h8⟩ := gOm h
      cases h8
      have e9 := k2 _ rfl
      subst e9
      exact t_Ev_possible_b97 e hE M x2 x3 x4 x5 x6 0 _ h9
  · rw [if_neg c21] at h
    refine g_iload d_Ev_possible_23 7 rfl ?_
    refine g_iload_n d_Ev_possible_25 rfl 1 rfl ?_
    refine g_icmp_eq (tgt := 62) d_Ev_possible_26 (by decide) (fun c20 => ?_) (fun c20 => ?_)
    · rw [if_pos c20] at h
      exact t_Ev_possible_b62 e hE M x1 x2 x3 x4 x5 x6 x7 _ h r k1 k2
    · rw [if_neg c20] at h
      refine g_iload d_Ev_possible_29 7 rfl ?_
      refine g_iload_n d_Ev_possible_31 rfl 2 rfl ?_
      refine g_icmp_eq (tgt := 62) d_Ev_possible_32 (by decide) (fun c19 => ?_) (fun c19 => ?_)
      · rw [if_pos c19] at h
        exact t_Ev_possible_b62 e hE M x1 x2 x3 x4 x5 x6 x7 _ h r k1 k2
      · rw [if_neg c19] at h
        refine g_aload_n d_Ev_possible_35 rfl 0 rfl ?_
        refine g_getR d_Ev_possible_36 fl_Ev_21 (gEv_h0 hE) rfl ?_
        refine g_iload d_Ev_possible_39 7 rfl ?_
        refine g_iload_n d_Ev_possible_41 rfl 3 rfl ?_
        obtain ⟨q16, hq16, h⟩ := gOb h
        refine g_callV_i (As := [.int x7, .int x3]) (rest := []) (ct_Drops_showedNone e (gEv_dr hE) M x7 x3 _ hq16) d_Ev_possible_42 ca_Drops_showedNone w_890 (gEv_h2 hE) rfl rfl rfl (Nat.le_of_ble_eq_true rfl) ⟨(Nat.le_of_ble_eq_true rfl), (Nat.le_of_ble_eq_true rfl)⟩ ?_
        refine g_if_ne (tgt := 62) d_Ev_possible_45 (by decide) (fun c18 => ?_) (fun c18 => ?_)
        · rw [if_neg c18] at h
          exact t_Ev_possible_b62 e hE M x1 x2 x3 x4 x5 x6 x7 _ h r k1 k2
        · rw [if_pos c18] at h
          refine g_iload d_Ev_possible_48 6 rfl ?_
          refine g_aload_n d_Ev_possible_50 rfl 0 rfl ?_
          refine g_getR d_Ev_possible_51 fl_Ev_12 (gEv_h0 hE) rfl ?_
          refine g_iload d_Ev_possible_54 7 rfl ?_
          obtain ⟨q17, hq17, h⟩ := gOb h
          refine g_callV_i (As := [.int x7]) (rest := [.int x6]) (ct_Cards_handSize e (gEv_cd hE) M x7 _ hq17) d_Ev_possible_56 ca_Cards_handSize w_891 (gEv_h1 hE) rfl rfl rfl (Nat.le_of_ble_eq_true rfl) ⟨(Nat.le_of_ble_eq_true rfl), (Nat.le_of_ble_eq_true rfl)⟩ ?_
          refine g_iadd d_Ev_possible_59 ?_
          refine g_istore (L' := [(6, .int (x6 + q17)), (0, .ref (ε.2.2.1 e 0)), (1, .int x1), (2, .int x2), (3, .int x3), (4, .int x4), (5, .int x5), (7, .int x7)]) d_Ev_possible_60 (by decide) rfl ?_
          refine gGo_sub [1, 2, 3, 4, 5, 6, 0, 7] rfl ?_
          exact t_Ev_possible_b62 e hE M x1 x2 x3 x4 x5 (x6 + q17) x7 _ h r k1 k2
noncomputable def f_Ev_possible_l17 (e : Nat) (M : gMem) (x1 : Int32) (x2 : Int32) (x3 : Int32) (x4 : Int32) (x5 : Int32) (s : (Int32 × Int32)) : Option Int32 := gLp (fun s => f_Ev_possible_s17 e M x1 x2 x3 x4 x5 s.1 s.2) s
theorem t_Ev_possible_l17 {l : Launch} {ε : gEnv} (e : Nat) (hE : gEv ε e) (M : gMem) (x1 : Int32) (x2 : Int32) (x3 : Int32) (x4 : Int32) (x5 : Int32) (s : (Int32 × Int32)) (r : Int32) (h : f_Ev_possible_l17 e M x1 x2 x3 x4 x5 s = some r) : gGo l ε k_Ev_possible (gR 3 69) (gFn ε (some (.int r)) M) 17 [(0, .ref (ε.2.2.1 e 0)), (1, .int x1), (2, .int x2), (3, .int x3), (4, .int x4), (5, .int x5), (6, .int s.1), (7, .int s.2)] [] M :=
  g_loop _ (fun r s => gGo l ε k_Ev_possible (gR 3 69) (gFn ε (some (.int r)) M) 17 [(0, .ref (ε.2.2.1 e 0)), (1, .int x1), (2, .int x2), (3, .int x3), (4, .int x4), (5, .int x5), (6, .int s.1), (7, .int s.2)] [] M) (fun s res h r k1 k2 => t_Ev_possible_s17 e hE M x1 x2 x3 x4 x5 s.1 s.2 res h r k1 k2) s r h
noncomputable def f_Ev_possible (e : Nat) (M : gMem) (a0 : Int32) (a1 : Int32) (a2 : Int32) (a3 : Int32) : Option Int32 :=
  (f_Cards_unseen e M a0 a2).bind fun q1 =>
  f_Ev_possible_l17 e M a0 a1 a2 a3 q1 (0, 0)
theorem t_Ev_possible {l : Launch} {ε : gEnv} (e : Nat) (hE : gEv ε e) (M : gMem) (a0 : Int32) (a1 : Int32) (a2 : Int32) (a3 : Int32) (r : Int32) (h : f_Ev_possible e M a0 a1 a2 a3 = some r) : gGo l ε k_Ev_possible (gR 3 69) (gFn ε (some (.int r)) M) 0 [(0, .ref (ε.2.2.1 e 0)), (1, .int a0), (2, .int a1), (3, .int a2), (4, .int a3)] [] M := by
  unfold f_Ev_possible at h
  refine g_aload_n d_Ev_possible_0 rfl 0 rfl ?_
  refine g_getR d_Ev_possible_1 fl_Ev_12 (gEv_h0 hE) rfl ?_
  refine g_iload_n d_Ev_possible_4 rfl 1 rfl ?_
  refine g_iload_n d_Ev_possible_5 rfl 3 rfl ?_
  obtain ⟨q1, hq1, h⟩ := gOb h
  refine g_callV_i (As := [.int a0, .int a2]) (rest := []) (ct_Cards_unseen e (gEv_cd hE) M a0 a2 _ hq1) d_Ev_possible_6 ca_Cards_unseen w_885 (gEv_h1 hE) rfl rfl rfl (Nat.le_of_ble_eq_true rfl) ⟨(Nat.le_of_ble_eq_true rfl), (Nat.le_of_ble_eq_true rfl)⟩ ?_
  refine g_istore (L' := [(5, .int q1), (0, .ref (ε.2.2.1 e 0)), (1, .int a0), (2, .int a1), (3, .int a2), (4, .int a3)]) d_Ev_possible_9 (by decide) rfl ?_
  refine g_iconst (v := 0) d_Ev_possible_11 (by decide) ?_
  refine g_istore (L' := [(6, .int 0), (5, .int q1), (0, .ref (ε.2.2.1 e 0)), (1, .int a0), (2, .int a1), (3, .int a2), (4, .int a3)]) d_Ev_possible_12 (by decide) rfl ?_
  refine g_iconst (v := 0) d_Ev_possible_14 (by decide) ?_
  refine g_istore (L' := [(7, .int 0), (6, .int 0), (5, .int q1), (0, .ref (ε.2.2.1 e 0)), (1, .int a0), (2, .int a1), (3, .int a2), (4, .int a3)]) d_Ev_possible_15 (by decide) rfl ?_
  refine gGo_sub [3, 4, 5, 6, 7, 2, 1, 0] rfl ?_
  exact t_Ev_possible_l17 e hE M a0 a1 a2 a3 q1 (0, 0) _ h
theorem ct_Ev_possible {l : Launch} {ε : gEnv} (e : Nat) (hE : gEv ε e) (M : gMem) (a0 : Int32) (a1 : Int32) (a2 : Int32) (a3 : Int32) (r : Int32) (h : f_Ev_possible e M a0 a1 a2 a3 = some r) : gCt l ε k_Ev_possible 3 69 [.ref (ε.2.2.1 e 0), .int a0, .int a1, .int a2, .int a3] M (some (.int r)) M :=
  gCt_of (by decide) (Nat.le_of_ble_eq_true rfl) rfl (t_Ev_possible e hE M a0 a1 a2 a3 r h)
