abbrev k_DS_append : gMD := (⟨"DropSignals", "append", "(I)I"⟩, prog_1_method_2_code, 2, (some .int))
theorem w_290 : Cond.instanceMethod ⟨"DropSignals", "append", "(I)I"⟩ ∈ gWs := gWs_in (i := 290) (by decide +kernel) rfl
theorem w_291 : Cond.selects "DropSignals" ⟨"DropSignals", "append", "(I)I"⟩ ⟨"DropSignals", "append", "(I)I"⟩ ∈ gWs := gWs_in (i := 291) (by decide +kernel) rfl
set_option maxRecDepth 100000 in
theorem ca_DS_append : gCaV k_DS_append 1 := ⟨⟨gWs_in (i := 292) rfl rfl, w_20, by decide, by decide, by decide +kernel⟩, w_290, w_291⟩
theorem d_DS_append_0 : decode prog_1_method_2_code 0 = .ok (.iload_n 1, 1) := by decide +kernel
theorem d_DS_append_1 : decode prog_1_method_2_code 1 = .ok (.ifCond .lt 10, 3) := by decide +kernel
theorem d_DS_append_4 : decode prog_1_method_2_code 4 = .ok (.iload_n 1, 1) := by decide +kernel
theorem d_DS_append_5 : decode prog_1_method_2_code 5 = .ok (.sipush 255, 3) := by decide +kernel
theorem d_DS_append_8 : decode prog_1_method_2_code 8 = .ok (.if_icmp .le 13, 3) := by decide +kernel
theorem d_DS_append_11 : decode prog_1_method_2_code 11 = .ok (.new 47, 3) := by decide +kernel
theorem d_DS_append_21 : decode prog_1_method_2_code 21 = .ok (.aload_n 0, 1) := by decide +kernel
theorem d_DS_append_22 : decode prog_1_method_2_code 22 = .ok (.getfield 36, 3) := by decide +kernel
theorem d_DS_append_25 : decode prog_1_method_2_code 25 = .ok (.invokevirtual 54, 3) := by decide +kernel
theorem d_DS_append_28 : decode prog_1_method_2_code 28 = .ok (.bipush 120, 2) := by decide +kernel
theorem d_DS_append_30 : decode prog_1_method_2_code 30 = .ok (.if_icmp .lt 13, 3) := by decide +kernel
theorem d_DS_append_33 : decode prog_1_method_2_code 33 = .ok (.new 58, 3) := by decide +kernel
theorem d_DS_append_43 : decode prog_1_method_2_code 43 = .ok (.aload_n 0, 1) := by decide +kernel
theorem d_DS_append_44 : decode prog_1_method_2_code 44 = .ok (.getfield 36, 3) := by decide +kernel
theorem d_DS_append_47 : decode prog_1_method_2_code 47 = .ok (.iload_n 1, 1) := by decide +kernel
theorem d_DS_append_48 : decode prog_1_method_2_code 48 = .ok (.invokevirtual 63, 3) := by decide +kernel
theorem d_DS_append_51 : decode prog_1_method_2_code 51 = .ok (.ireturn, 1) := by decide +kernel
theorem d_DS_append_14 : decode prog_1_method_2_code 14 = .ok (.dup, 1) := by decide +kernel
theorem d_DS_append_15 : decode prog_1_method_2_code 15 = .ok (.ldc 49, 2) := by decide +kernel
theorem d_DS_append_17 : decode prog_1_method_2_code 17 = .ok (.invokespecial 51, 3) := by decide +kernel
theorem d_DS_append_20 : decode prog_1_method_2_code 20 = .ok (.athrow, 1) := by decide +kernel
theorem w_293 : Cond.classLink "DropSignals" 47 "java/lang/IllegalArgumentException" ∈ gWs := gWs_in (i := 293) (by decide +kernel) rfl
theorem w_32 : Cond.initialized "java/lang/IllegalArgumentException" ∈ gWs := gWs_in (i := 32) (by decide +kernel) rfl
theorem ws_49 : Cond.stringRef "DropSignals" 49 "no such character" ∈ lw_tbl := List.mem_of_getElem? (i := 334) (by decide +kernel)
theorem xa_1_51 : (vx_atS "DropSignals" 51 "java/lang/IllegalArgumentException" gNm).all (fun w => decide (w ∈ lw_tbl) && (goodWord w || gIsT w)) = true := by decide +kernel
theorem xg_1_51_47 : ∀ w ∈ Cond.classLink "DropSignals" 47 "java/lang/IllegalArgumentException" :: Cond.initialized "java/lang/IllegalArgumentException" :: vx_atS "DropSignals" 51 "java/lang/IllegalArgumentException" gNm, vx_ot w = true := by decide +kernel
theorem w_258 : Cond.fieldLink "DropSignals" 36 "DropSignals" "writing" "LDropSignals$Writing;" ∈ gWs := gWs_in (i := 258) (by decide +kernel) rfl
theorem fl_DS_36 : gFl "DropSignals" 36 7 4 := ⟨gN7, gF7, 6, rfl, uw_7, by decide, w_258⟩
theorem w_361 : Cond.methodLink "DropSignals" 54 ⟨"DropSignals$Writing", "length", "()I"⟩ ∈ gWs := gWs_in (i := 361) (by decide +kernel) rfl
theorem w_381 : Cond.methodLink "DropSignals" 63 ⟨"DropSignals$Writing", "add", "(I)I"⟩ ∈ gWs := gWs_in (i := 381) (by decide +kernel) rfl
theorem d_DS_append_36 : decode prog_1_method_2_code 36 = .ok (.dup, 1) := by decide +kernel
theorem d_DS_append_37 : decode prog_1_method_2_code 37 = .ok (.ldc 60, 2) := by decide +kernel
theorem d_DS_append_39 : decode prog_1_method_2_code 39 = .ok (.invokespecial 62, 3) := by decide +kernel
theorem d_DS_append_42 : decode prog_1_method_2_code 42 = .ok (.athrow, 1) := by decide +kernel
theorem w_365 : Cond.classLink "DropSignals" 58 "java/lang/IllegalStateException" ∈ gWs := gWs_in (i := 365) (by decide +kernel) rfl
theorem w_33 : Cond.initialized "java/lang/IllegalStateException" ∈ gWs := gWs_in (i := 33) (by decide +kernel) rfl
theorem ws_60 : Cond.stringRef "DropSignals" 60 "the text is full" ∈ lw_tbl := List.mem_of_getElem? (i := 374) (by decide +kernel)
theorem xa_2_62 : (vx_atS "DropSignals" 62 "java/lang/IllegalStateException" gNm).all (fun w => decide (w ∈ lw_tbl) && (goodWord w || gIsT w)) = true := by decide +kernel
theorem xg_2_62_58 : ∀ w ∈ Cond.classLink "DropSignals" 58 "java/lang/IllegalStateException" :: Cond.initialized "java/lang/IllegalStateException" :: vx_atS "DropSignals" 62 "java/lang/IllegalStateException" gNm, vx_ot w = true := by decide +kernel
noncomputable def f_DS_append (M : gMem) (a0 : Int32) : Option (Nat ⊕ (Int32 × gMem)) :=
  if a0 < 0 then
    some (.inl 1)
  else
    if a0 ≤ 255 then
      (f_Wri_length M).bind fun q1 =>
      if q1 < 120 then
        (f_Wri_add M a0).bind fun q2 =>
        some (.inr (q2.1, q2.2))
      else
        some (.inl 2)
    else
      some (.inl 1)
theorem t_DS_append {l : Launch} {ε : gEnv} (hX : gXw ε) (M : gMem) (a0 : Int32) (r : (Nat ⊕ (Int32 × gMem))) (h : f_DS_append M a0 = some r) : gGo l ε k_DS_append (gRT 8 120 r) (gFT ε M (α := (Int32 × gMem)) (fun r => gFn ε (some (.int r.1)) r.2) r) 0 [(0, .ref (ε.2.2.1 18 0)), (1, .int a0)] [] M := by
  unfold f_DS_append at h
  refine g_iload_n d_DS_append_0 rfl 1 rfl ?_
  refine g_if_lt (tgt := 11) d_DS_append_1 (by decide) (fun c5 => ?_) (fun c5 => ?_)
  · rw [if_pos c5] at h
    obtain rfl := Option.some.inj h
    exact g_throw rfl d_DS_append_11 d_DS_append_14 d_DS_append_15 d_DS_append_17 d_DS_append_20 w_293 w_32 ws_49 xa_1_51 xg_1_51_47 (by decide) (Nat.le_of_ble_eq_true rfl) (Nat.le_of_ble_eq_true rfl) (Nat.le_refl _) (Nat.le_refl _)
  · rw [if_neg c5] at h
    refine g_iload_n d_DS_append_4 rfl 1 rfl ?_
    refine g_sipush (v := 255) d_DS_append_5 (by decide) ?_
    refine g_icmp_le (tgt := 21) d_DS_append_8 (by decide) (fun c4 => ?_) (fun c4 => ?_)
    · rw [if_pos c4] at h
      refine g_aload_n d_DS_append_21 rfl 0 rfl ?_
      refine g_getR d_DS_append_22 fl_DS_36 (gXw_h0 hX) rfl ?_
      obtain ⟨q1, hq1, h⟩ := gOb h
      refine g_callV_i (As := []) (rest := []) (ct_Wri_length hX M _ hq1) d_DS_append_25 ca_Wri_length w_361 (gXw_h6 hX) rfl rfl rfl (Nat.le_of_ble_eq_true rfl) ⟨(by rw [gRT_f]; exact Nat.le_of_ble_eq_true rfl), (by rw [gRT_l]; exact Nat.le_of_ble_eq_true rfl)⟩ ?_
      refine g_bipush (v := 120) d_DS_append_28 (by decide) ?_
      refine g_icmp_lt (tgt := 43) d_DS_append_30 (by decide) (fun c3 => ?_) (fun c3 => ?_)
      · rw [if_pos c3] at h
        refine g_aload_n d_DS_append_43 rfl 0 rfl ?_
        refine g_getR d_DS_append_44 fl_DS_36 (gXw_h0 hX) rfl ?_
        refine g_iload_n d_DS_append_47 rfl 1 rfl ?_
        obtain ⟨q2, hq2, h⟩ := gOb h
        refine g_callV_i (As := [.int a0]) (rest := []) (ct_Wri_add hX M a0 _ hq2) d_DS_append_48 ca_Wri_add w_381 (gXw_h6 hX) rfl rfl rfl (Nat.le_of_ble_eq_true rfl) ⟨(by rw [gRT_f]; exact Nat.le_of_ble_eq_true rfl), (by rw [gRT_l]; exact Nat.le_of_ble_eq_true rfl)⟩ ?_
        obtain rfl := Option.some.inj h
        exact g_iret d_DS_append_51 rfl
      · rw [if_neg c3] at h
        obtain rfl := Option.some.inj h
        exact g_throw rfl d_DS_append_33 d_DS_append_36 d_DS_append_37 d_DS_append_39 d_DS_append_42 w_365 w_33 ws_60 xa_2_62 xg_2_62_58 (by decide) (Nat.le_of_ble_eq_true rfl) (Nat.le_of_ble_eq_true rfl) (Nat.le_refl _) (Nat.le_refl _)
    · rw [if_neg c4] at h
      obtain rfl := Option.some.inj h
      exact g_throw rfl d_DS_append_11 d_DS_append_14 d_DS_append_15 d_DS_append_17 d_DS_append_20 w_293 w_32 ws_49 xa_1_51 xg_1_51_47 (by decide) (Nat.le_of_ble_eq_true rfl) (Nat.le_of_ble_eq_true rfl) (Nat.le_refl _) (Nat.le_refl _)
theorem ctn_DS_append {l : Launch} {ε : gEnv} (hX : gXw ε) (M : gMem) (a0 : Int32) (r : (Int32 × gMem)) (h : f_DS_append M a0 = some (.inr r)) : gCt l ε k_DS_append 8 120 [.ref (ε.2.2.1 18 0), .int a0] M (some (.int r.1)) r.2 :=
  gCt_of (by decide) (Nat.le_of_ble_eq_true rfl) rfl (t_DS_append hX M a0 (.inr r) h)
theorem ctx_DS_append {l : Launch} {ε : gEnv} (hl0 : l.stackTraces = false) (hX : gXw ε) (M : gMem) (a0 : Int32) (x : Nat) (h : f_DS_append M a0 = some (.inl x)) : gCtX l ε k_DS_append 8 120 [.ref (ε.2.2.1 18 0), .int a0] M (gXn x) M :=
  gCtX_of hl0 (by decide) (Nat.le_of_ble_eq_true rfl) rfl (t_DS_append hX M a0 (.inl x) h)
abbrev k_DS_load : gMD := (⟨"DropSignals", "load", "()I"⟩, prog_1_method_5_code, 3, (some .int))
theorem w_394 : Cond.instanceMethod ⟨"DropSignals", "load", "()I"⟩ ∈ gWs := gWs_in (i := 394) (by decide +kernel) rfl
theorem w_395 : Cond.selects "DropSignals" ⟨"DropSignals", "load", "()I"⟩ ⟨"DropSignals", "load", "()I"⟩ ∈ gWs := gWs_in (i := 395) (by decide +kernel) rfl
set_option maxRecDepth 100000 in
theorem ca_DS_load : gCaV k_DS_load 0 := ⟨⟨gWs_in (i := 396) rfl rfl, w_20, by decide, by decide, by decide +kernel⟩, w_394, w_395⟩
theorem d_DS_load_0 : decode prog_1_method_5_code 0 = .ok (.aload_n 0, 1) := by decide +kernel
theorem d_DS_load_1 : decode prog_1_method_5_code 1 = .ok (.getfield 36, 3) := by decide +kernel
theorem d_DS_load_4 : decode prog_1_method_5_code 4 = .ok (.invokevirtual 70, 3) := by decide +kernel
theorem d_DS_load_7 : decode prog_1_method_5_code 7 = .ok (.iconst (-1), 1) := by decide +kernel
theorem d_DS_load_8 : decode prog_1_method_5_code 8 = .ok (.if_icmp .eq 13, 3) := by decide +kernel
theorem d_DS_load_11 : decode prog_1_method_5_code 11 = .ok (.new 58, 3) := by decide +kernel
theorem d_DS_load_21 : decode prog_1_method_5_code 21 = .ok (.aload_n 0, 1) := by decide +kernel
theorem d_DS_load_22 : decode prog_1_method_5_code 22 = .ok (.getfield 10, 3) := by decide +kernel
theorem d_DS_load_25 : decode prog_1_method_5_code 25 = .ok (.invokevirtual 75, 3) := by decide +kernel
theorem d_DS_load_28 : decode prog_1_method_5_code 28 = .ok (.aload_n 0, 1) := by decide +kernel
theorem d_DS_load_29 : decode prog_1_method_5_code 29 = .ok (.getfield 22, 3) := by decide +kernel
theorem d_DS_load_32 : decode prog_1_method_5_code 32 = .ok (.invokevirtual 77, 3) := by decide +kernel
theorem d_DS_load_35 : decode prog_1_method_5_code 35 = .ok (.aload_n 0, 1) := by decide +kernel
theorem d_DS_load_36 : decode prog_1_method_5_code 36 = .ok (.getfield 29, 3) := by decide +kernel
theorem d_DS_load_39 : decode prog_1_method_5_code 39 = .ok (.invokevirtual 80, 3) := by decide +kernel
theorem d_DS_load_42 : decode prog_1_method_5_code 42 = .ok (.iconst 0, 1) := by decide +kernel
theorem d_DS_load_43 : decode prog_1_method_5_code 43 = .ok (.istore_n 1, 1) := by decide +kernel
theorem d_DS_load_44 : decode prog_1_method_5_code 44 = .ok (.iconst 1, 1) := by decide +kernel
theorem d_DS_load_45 : decode prog_1_method_5_code 45 = .ok (.istore_n 2, 1) := by decide +kernel
theorem d_DS_load_46 : decode prog_1_method_5_code 46 = .ok (.iload_n 2, 1) := by decide +kernel
theorem d_DS_load_47 : decode prog_1_method_5_code 47 = .ok (.aload_n 0, 1) := by decide +kernel
theorem d_DS_load_48 : decode prog_1_method_5_code 48 = .ok (.getfield 36, 3) := by decide +kernel
theorem d_DS_load_51 : decode prog_1_method_5_code 51 = .ok (.invokevirtual 54, 3) := by decide +kernel
theorem d_DS_load_54 : decode prog_1_method_5_code 54 = .ok (.if_icmp .ge 38, 3) := by decide +kernel
theorem d_DS_load_57 : decode prog_1_method_5_code 57 = .ok (.aload_n 0, 1) := by decide +kernel
theorem d_DS_load_58 : decode prog_1_method_5_code 58 = .ok (.getfield 36, 3) := by decide +kernel
theorem d_DS_load_61 : decode prog_1_method_5_code 61 = .ok (.iload_n 2, 1) := by decide +kernel
theorem d_DS_load_62 : decode prog_1_method_5_code 62 = .ok (.invokevirtual 83, 3) := by decide +kernel
theorem d_DS_load_65 : decode prog_1_method_5_code 65 = .ok (.ifCond .eq 21, 3) := by decide +kernel
theorem d_DS_load_68 : decode prog_1_method_5_code 68 = .ok (.aload_n 0, 1) := by decide +kernel
theorem d_DS_load_69 : decode prog_1_method_5_code 69 = .ok (.getfield 36, 3) := by decide +kernel
theorem d_DS_load_72 : decode prog_1_method_5_code 72 = .ok (.aload_n 0, 1) := by decide +kernel
theorem d_DS_load_73 : decode prog_1_method_5_code 73 = .ok (.getfield 10, 3) := by decide +kernel
theorem d_DS_load_76 : decode prog_1_method_5_code 76 = .ok (.iload_n 2, 1) := by decide +kernel
theorem d_DS_load_77 : decode prog_1_method_5_code 77 = .ok (.invokevirtual 87, 3) := by decide +kernel
theorem d_DS_load_80 : decode prog_1_method_5_code 80 = .ok (.ifCond .ne 6, 3) := by decide +kernel
theorem d_DS_load_83 : decode prog_1_method_5_code 83 = .ok (.iinc 1 1, 3) := by decide +kernel
theorem d_DS_load_86 : decode prog_1_method_5_code 86 = .ok (.iinc 2 1, 3) := by decide +kernel
theorem d_DS_load_89 : decode prog_1_method_5_code 89 = .ok (.goto (-43), 3) := by decide +kernel
theorem d_DS_load_92 : decode prog_1_method_5_code 92 = .ok (.iload_n 1, 1) := by decide +kernel
theorem d_DS_load_93 : decode prog_1_method_5_code 93 = .ok (.ireturn, 1) := by decide +kernel
theorem w_397 : Cond.methodLink "DropSignals" 70 ⟨"DropSignals$Writing", "firstError", "()I"⟩ ∈ gWs := gWs_in (i := 397) (by decide +kernel) rfl
theorem w_416 : Cond.methodLink "DropSignals" 75 ⟨"DropSignals$Evening", "clear", "()V"⟩ ∈ gWs := gWs_in (i := 416) (by decide +kernel) rfl
theorem w_417 : Cond.methodLink "DropSignals" 77 ⟨"DropSignals$Memory", "forget", "()V"⟩ ∈ gWs := gWs_in (i := 417) (by decide +kernel) rfl
theorem w_257 : Cond.fieldLink "DropSignals" 29 "DropSignals" "slots" "LDropSignals$Slots;" ∈ gWs := gWs_in (i := 257) (by decide +kernel) rfl
theorem fl_DS_29 : gFl "DropSignals" 29 7 3 := ⟨gN7, gF7, 6, rfl, uw_7, by decide, w_257⟩
theorem w_421 : Cond.methodLink "DropSignals" 80 ⟨"DropSignals$Slots", "empty", "()V"⟩ ∈ gWs := gWs_in (i := 421) (by decide +kernel) rfl
theorem w_425 : Cond.methodLink "DropSignals" 83 ⟨"DropSignals$Writing", "isLetter", "(I)Z"⟩ ∈ gWs := gWs_in (i := 425) (by decide +kernel) rfl
theorem w_429 : Cond.methodLink "DropSignals" 87 ⟨"DropSignals$Writing", "isDone", "(LDropSignals$Evening;I)Z"⟩ ∈ gWs := gWs_in (i := 429) (by decide +kernel) rfl
theorem d_DS_load_14 : decode prog_1_method_5_code 14 = .ok (.dup, 1) := by decide +kernel
theorem d_DS_load_15 : decode prog_1_method_5_code 15 = .ok (.ldc 73, 2) := by decide +kernel
theorem d_DS_load_17 : decode prog_1_method_5_code 17 = .ok (.invokespecial 62, 3) := by decide +kernel
theorem d_DS_load_20 : decode prog_1_method_5_code 20 = .ok (.athrow, 1) := by decide +kernel
theorem ws_73 : Cond.stringRef "DropSignals" 73 "the text is not an evening" ∈ lw_tbl := List.mem_of_getElem? (i := 415) (by decide +kernel)
noncomputable def f_DS_load_b86 (M : gMem) (x1 : Int32) (x2 : Int32) : Option ((Int32 × Int32 × gMem) ⊕ (Nat ⊕ (Int32 × gMem))) :=
  some (.inl (x1, (x2 + 1), M))
theorem t_DS_load_b86 {l : Launch} {ε : gEnv} (hX : gXw ε) (M0 : gMem) (M : gMem) (x1 : Int32) (x2 : Int32) (res : ((Int32 × Int32 × gMem) ⊕ (Nat ⊕ (Int32 × gMem)))) (h : f_DS_load_b86 M x1 x2 = some res) (r : (Nat ⊕ (Int32 × gMem))) (k1 : ∀ s0 : (Int32 × Int32 × gMem), res = .inl s0 → gGo l ε k_DS_load (gRT 8 139 r) (gFT ε M0 (α := (Int32 × gMem)) (fun r => gFn ε (some (.int r.1)) r.2) r) 46 [(0, .ref (ε.2.2.1 18 0)), (1, .int s0.1), (2, .int s0.2.1)] [] s0.2.2) (k2 : ∀ r', res = .inr r' → r' = r) : gGo l ε k_DS_load (gRT 8 139 r) (gFT ε M0 (α := (Int32 × gMem)) (fun r => gFn ε (some (.int r.1)) r.2) r) 86 [(0, .ref (ε.2.2.1 18 0)), (1, .int x1), (2, .int x2)] [] M := by
  unfold f_DS_load_b86 at h
  refine g_iinc (v := (x2 + 1)) (L' := [(2, .int (x2 + 1)), (0, .ref (ε.2.2.1 18 0)), (1, .int x1)]) d_DS_load_86 (j := 2) rfl rfl (by decide) rfl ?_
  refine g_goto (tgt := 46) d_DS_load_89 (by decide) ?_
  refine gGo_sub [1, 2, 0] rfl ?_
  obtain rfl := Option.some.inj h
  exact k1 (x1, (x2 + 1), M) rfl
noncomputable def f_DS_load_s46 (M : gMem) (x1 : Int32) (x2 : Int32) : Option ((Int32 × Int32 × gMem) ⊕ (Nat ⊕ (Int32 × gMem))) :=
  (f_Wri_length M).bind fun q5 =>
  if q5 ≤ x2 then
    some (.inr (.inr (x1, M)))
  else
    (f_Wri_isLetter M x2).bind fun q6 =>
    if q6 = 0 then
      f_DS_load_b86 M x1 x2
    else
      (f_Wri_isDone 0 M x2).bind fun q7 =>
      if q7.1 = 0 then
        f_DS_load_b86 q7.2 (x1 + 1) x2
      else
        f_DS_load_b86 q7.2 x1 x2
theorem t_DS_load_s46 {l : Launch} {ε : gEnv} (hX : gXw ε) (M0 : gMem) (M : gMem) (x1 : Int32) (x2 : Int32) (res : ((Int32 × Int32 × gMem) ⊕ (Nat ⊕ (Int32 × gMem)))) (h : f_DS_load_s46 M x1 x2 = some res) (r : (Nat ⊕ (Int32 × gMem))) (k1 : ∀ s0 : (Int32 × Int32 × gMem), res = .inl s0 → gGo l ε k_DS_load (gRT 8 139 r) (gFT ε M0 (α := (Int32 × gMem)) (fun r => gFn ε (some (.int r.1)) r.2) r) 46 [(0, .ref (ε.2.2.1 18 0)), (1, .int s0.1), (2, .int s0.2.1)] [] s0.2.2) (k2 : ∀ r', res = .inr r' → r' = r) : gGo l ε k_DS_load (gRT 8 139 r) (gFT ε M0 (α := (Int32 × gMem)) (fun r => gFn ε (some (.int r.1)) r.2) r) 46 [(0, .ref (ε.2.2.1 18 0)), (1, .int x1), (2, .int x2)] [] M := by
  unfold f_DS_load_s46 at h
  refine g_iload_n d_DS_load_46 rfl 2 rfl ?_
  refine g_aload_n d_DS_load_47 rfl 0 rfl ?_
  refine g_getR d_DS_load_48 fl_DS_36 (gXw_h0 hX) rfl ?_
  obtain ⟨q5, hq5, h⟩ := gOb h
  refine g_callV_i (As := []) (rest := [.int x2]) (ct_Wri_length hX M _ hq5) d_DS_load_51 ca_Wri_length w_361 (gXw_h6 hX) rfl rfl rfl (Nat.le_of_ble_eq_true rfl) ⟨(by rw [gRT_f]; exact Nat.le_of_ble_eq_true rfl), (by rw [gRT_l]; exact Nat.le_of_ble_eq_true rfl)⟩ ?_
  refine g_icmp_ge (tgt := 92) d_DS_load_54 (by decide) (fun c10 => ?_) (fun c10 => ?_)
  · rw [if_pos c10] at h
    refine g_iload_n d_DS_load_92 rfl 1 rfl ?_
    obtain rfl := Option.some.inj h
    have e9 := k2 _ rfl
    subst e9
    exact g_iret d_DS_load_93 rfl
  · rw [if_neg c10] at h
    refine g_aload_n d_DS_load_57 rfl 0 rfl ?_
    refine g_getR d_DS_load_58 fl_DS_36 (gXw_h0 hX) rfl ?_
    refine g_iload_n d_DS_load_61 rfl 2 rfl ?_
    obtain ⟨q6, hq6, h⟩ := gOb h
    refine g_callV_i (As := [.int x2]) (rest := []) (ct_Wri_isLetter hX M x2 _ hq6) d_DS_load_62 ca_Wri_isLetter w_425 (gXw_h6 hX) rfl rfl rfl (Nat.le_of_ble_eq_true rfl) ⟨(by rw [gRT_f]; exact Nat.le_of_ble_eq_true rfl), (by rw [gRT_l]; exact Nat.le_of_ble_eq_true rfl)⟩ ?_
    refine g_if_eq (tgt := 86) d_DS_load_65 (by decide) (fun c9 => ?_) (fun c9 => ?_)
    · rw [if_pos c9] at h
      exact t_DS_load_b86 hX M0 M x1 x2 _ h r k1 k2
    · rw [if_neg c9] at h
      refine g_aload_n d_DS_load_68 rfl 0 rfl ?_
      refine g_getR d_DS_load_69 fl_DS_36 (gXw_h0 hX) rfl ?_
      refine g_aload_n d_DS_load_72 rfl 0 rfl ?_
      refine g_getR d_DS_load_73 fl_DS_10 (gXw_h0 hX) rfl ?_
      refine g_iload_n d_DS_load_76 rfl 2 rfl ?_
      obtain ⟨q7, hq7, h⟩ := gOb h
      refine g_callV_i (As := [.ref (ε.2.2.1 0 0), .int x2]) (rest := []) (ct_Wri_isDone hX 0 (hX.1 0 (by decide)) M x2 _ hq7) d_DS_load_77 ca_Wri_isDone w_429 (gXw_h6 hX) rfl rfl rfl (Nat.le_of_ble_eq_true rfl) ⟨(by rw [gRT_f]; exact Nat.le_of_ble_eq_true rfl), (by rw [gRT_l]; exact Nat.le_of_ble_eq_true rfl)⟩ ?_
      refine g_if_ne (tgt := 86) d_DS_load_80 (by decide) (fun c8 => ?_) (fun c8 => ?_)
      · rw [if_neg c8] at h
        exact t_DS_load_b86 hX M0 q7.2 x1 x2 _ h r k1 k2
      · rw [if_pos c8] at h
        refine g_iinc (v := (x1 + 1)) (L' := [(1, .int (x1 + 1)), (0, .ref (ε.2.2.1 18 0)), (2, .int x2)]) d_DS_load_83 (j := 1) rfl rfl (by decide) rfl ?_
        refine gGo_sub [1, 0, 2] rfl ?_
        exact t_DS_load_b86 hX M0 q7.2 (x1 + 1) x2 _ h r k1 k2
noncomputable def f_DS_load_l46 (s : (Int32 × Int32 × gMem)) : Option (Nat ⊕ (Int32 × gMem)) := gLp (fun s => f_DS_load_s46 s.2.2 s.1 s.2.1) s
theorem t_DS_load_l46 {l : Launch} {ε : gEnv} (hX : gXw ε) (M0 : gMem) (s : (Int32 × Int32 × gMem)) (r : (Nat ⊕ (Int32 × gMem))) (h : f_DS_load_l46 s = some r) : gGo l ε k_DS_load (gRT 8 139 r) (gFT ε M0 (α := (Int32 × gMem)) (fun r => gFn ε (some (.int r.1)) r.2) r) 46 [(0, .ref (ε.2.2.1 18 0)), (1, .int s.1), (2, .int s.2.1)] [] s.2.2 :=
  g_loop _ (fun r s => gGo l ε k_DS_load (gRT 8 139 r) (gFT ε M0 (α := (Int32 × gMem)) (fun r => gFn ε (some (.int r.1)) r.2) r) 46 [(0, .ref (ε.2.2.1 18 0)), (1, .int s.1), (2, .int s.2.1)] [] s.2.2) (fun s res h r k1 k2 => t_DS_load_s46 hX M0 s.2.2 s.1 s.2.1 res h r k1 k2) s r h
noncomputable def f_DS_load (M : gMem) : Option (Nat ⊕ (Int32 × gMem)) :=
  (f_Wri_firstError M).bind fun q1 =>
  if q1 = (-1) then
    (f_Ev_clear 0 M).bind fun q2 =>
    (f_Mem_forget q2).bind fun q3 =>
    (f_Slots_empty q3).bind fun q4 =>
    f_DS_load_l46 (0, 1, q4)
  else
    some (.inl 2)
theorem t_DS_load {l : Launch} {ε : gEnv} (hX : gXw ε) (M : gMem) (r : (Nat ⊕ (Int32 × gMem))) (h : f_DS_load M = some r) : gGo l ε k_DS_load (gRT 8 139 r) (gFT ε M (α := (Int32 × gMem)) (fun r => gFn ε (some (.int r.1)) r.2) r) 0 [(0, .ref (ε.2.2.1 18 0))] [] M := by
  unfold f_DS_load at h
  refine g_aload_n d_DS_load_0 rfl 0 rfl ?_
  refine g_getR d_DS_load_1 fl_DS_36 (gXw_h0 hX) rfl ?_
  obtain ⟨q1, hq1, h⟩ := gOb h
  refine g_callV_i (As := []) (rest := []) (ct_Wri_firstError hX M _ hq1) d_DS_load_4 ca_Wri_firstError w_397 (gXw_h6 hX) rfl rfl rfl (Nat.le_of_ble_eq_true rfl) ⟨(by rw [gRT_f]; exact Nat.le_of_ble_eq_true rfl), (by rw [gRT_l]; exact Nat.le_of_ble_eq_true rfl)⟩ ?_
  refine g_iconst (v := -1) d_DS_load_7 (by decide) ?_
  refine g_icmp_eq (tgt := 21) d_DS_load_8 (by decide) (fun c11 => ?_) (fun c11 => ?_)
  · rw [if_pos c11] at h
    refine g_aload_n d_DS_load_21 rfl 0 rfl ?_
    refine g_getR d_DS_load_22 fl_DS_10 (gXw_h0 hX) rfl ?_
    obtain ⟨q2, hq2, h⟩ := gOb h
    refine g_callV_v (As := []) (rest := []) (ct_Ev_clear 0 (hX.1 0 (by decide)) M _ hq2) d_DS_load_25 ca_Ev_clear w_416 (gEv_h0 (hX.1 0 (by decide))) rfl rfl rfl (Nat.le_of_ble_eq_true rfl) ⟨(by rw [gRT_f]; exact Nat.le_of_ble_eq_true rfl), (by rw [gRT_l]; exact Nat.le_of_ble_eq_true rfl)⟩ ?_
    refine g_aload_n d_DS_load_28 rfl 0 rfl ?_
    refine g_getR d_DS_load_29 fl_DS_22 (gXw_h0 hX) rfl ?_
    obtain ⟨q3, hq3, h⟩ := gOb h
    refine g_callV_v (As := []) (rest := []) (ct_Mem_forget hX q2 _ hq3) d_DS_load_32 ca_Mem_forget w_417 (gXw_h1 hX) rfl rfl rfl (Nat.le_of_ble_eq_true rfl) ⟨(by rw [gRT_f]; exact Nat.le_of_ble_eq_true rfl), (by rw [gRT_l]; exact Nat.le_of_ble_eq_true rfl)⟩ ?_
    refine g_aload_n d_DS_load_35 rfl 0 rfl ?_
    refine g_getR d_DS_load_36 fl_DS_29 (gXw_h0 hX) rfl ?_
    obtain ⟨q4, hq4, h⟩ := gOb h
    refine g_callV_v (As := []) (rest := []) (ct_Slots_empty hX q3 _ hq4) d_DS_load_39 ca_Slots_empty w_421 (gXw_h3 hX) rfl rfl rfl (Nat.le_of_ble_eq_true rfl) ⟨(by rw [gRT_f]; exact Nat.le_of_ble_eq_true rfl), (by rw [gRT_l]; exact Nat.le_of_ble_eq_true rfl)⟩ ?_
    refine g_iconst (v := 0) d_DS_load_42 (by decide) ?_
    refine g_istore_n (L' := [(1, .int 0), (0, .ref (ε.2.2.1 18 0))]) d_DS_load_43 rfl (by decide) rfl ?_
    refine g_iconst (v := 1) d_DS_load_44 (by decide) ?_
    refine g_istore_n (L' := [(2, .int 1), (1, .int 0), (0, .ref (ε.2.2.1 18 0))]) d_DS_load_45 rfl (by decide) rfl ?_
    refine gGo_sub [2, 1, 0] rfl ?_
    exact t_DS_load_l46 hX M (0, 1, q4) _ h
  · rw [if_neg c11] at h
    obtain rfl := Option.some.inj h
    exact g_throw rfl d_DS_load_11 d_DS_load_14 d_DS_load_15 d_DS_load_17 d_DS_load_20 w_365 w_33 ws_73 xa_2_62 xg_2_62_58 (by decide) (Nat.le_of_ble_eq_true rfl) (Nat.le_of_ble_eq_true rfl) (Nat.le_refl _) (Nat.le_refl _)
theorem ctn_DS_load {l : Launch} {ε : gEnv} (hX : gXw ε) (M : gMem) (r : (Int32 × gMem)) (h : f_DS_load M = some (.inr r)) : gCt l ε k_DS_load 8 139 [.ref (ε.2.2.1 18 0)] M (some (.int r.1)) r.2 :=
  gCt_of (by decide) (Nat.le_of_ble_eq_true rfl) rfl (t_DS_load hX M (.inr r) h)
theorem ctx_DS_load {l : Launch} {ε : gEnv} (hl0 : l.stackTraces = false) (hX : gXw ε) (M : gMem) (x : Nat) (h : f_DS_load M = some (.inl x)) : gCtX l ε k_DS_load 8 139 [.ref (ε.2.2.1 18 0)] M (gXn x) M :=
  gCtX_of hl0 (by decide) (Nat.le_of_ble_eq_true rfl) rfl (t_DS_load hX M (.inl x) h)
abbrev k_DS_checkWhat : gMD := (⟨"DropSignals", "checkWhat", "(II)V"⟩, prog_1_method_25_code, 2, none)
theorem w_605 : Cond.static ⟨"DropSignals", "checkWhat", "(II)V"⟩ ∈ gWs := gWs_in (i := 605) (by decide +kernel) rfl
set_option maxRecDepth 100000 in
theorem ca_DS_checkWhat : gCaS k_DS_checkWhat 2 := ⟨⟨gWs_in (i := 606) rfl rfl, w_20, by decide, by decide, by decide +kernel⟩, w_605⟩
theorem d_DS_checkWhat_0 : decode prog_1_method_25_code 0 = .ok (.iload_n 0, 1) := by decide +kernel
theorem d_DS_checkWhat_1 : decode prog_1_method_25_code 1 = .ok (.ifCond .lt 8, 3) := by decide +kernel
theorem d_DS_checkWhat_4 : decode prog_1_method_25_code 4 = .ok (.iload_n 0, 1) := by decide +kernel
theorem d_DS_checkWhat_5 : decode prog_1_method_25_code 5 = .ok (.iload_n 1, 1) := by decide +kernel
theorem d_DS_checkWhat_6 : decode prog_1_method_25_code 6 = .ok (.if_icmp .le 14, 3) := by decide +kernel
theorem d_DS_checkWhat_9 : decode prog_1_method_25_code 9 = .ok (.new 47, 3) := by decide +kernel
theorem d_DS_checkWhat_20 : decode prog_1_method_25_code 20 = .ok (.return_, 1) := by decide +kernel
theorem d_DS_checkWhat_12 : decode prog_1_method_25_code 12 = .ok (.dup, 1) := by decide +kernel
theorem d_DS_checkWhat_13 : decode prog_1_method_25_code 13 = .ok (.ldc_w 280, 3) := by decide +kernel
theorem d_DS_checkWhat_16 : decode prog_1_method_25_code 16 = .ok (.invokespecial 51, 3) := by decide +kernel
theorem d_DS_checkWhat_19 : decode prog_1_method_25_code 19 = .ok (.athrow, 1) := by decide +kernel
theorem ws_280 : Cond.stringRef "DropSignals" 280 "no such number" ∈ lw_tbl := List.mem_of_getElem? (i := 607) (by decide +kernel)
noncomputable def f_DS_checkWhat (a0 : Int32) (a1 : Int32) : Option (Nat ⊕ Unit) :=
  if a0 < 0 then
    some (.inl 1)
  else
    if a0 ≤ a1 then
      some (.inr ())
    else
      some (.inl 1)
theorem t_DS_checkWhat {l : Launch} {ε : gEnv} (M : gMem) (a0 : Int32) (a1 : Int32) (r : (Nat ⊕ Unit)) (h : f_DS_checkWhat a0 a1 = some r) : gGo l ε k_DS_checkWhat (gRT 8 120 r) (gFT ε M (α := Unit) (fun _ => gFn ε none M) r) 0 [(0, .int a0), (1, .int a1)] [] M := by
  unfold f_DS_checkWhat at h
  refine g_iload_n d_DS_checkWhat_0 rfl 0 rfl ?_
  refine g_if_lt (tgt := 9) d_DS_checkWhat_1 (by decide) (fun c2 => ?_) (fun c2 => ?_)
  · rw [if_pos c2] at h
    obtain rfl := Option.some.inj h
    exact g_throwW rfl d_DS_checkWhat_9 d_DS_checkWhat_12 d_DS_checkWhat_13 d_DS_checkWhat_16 d_DS_checkWhat_19 w_293 w_32 ws_280 xa_1_51 xg_1_51_47 (by decide) (Nat.le_of_ble_eq_true rfl) (Nat.le_of_ble_eq_true rfl) (Nat.le_refl _) (Nat.le_refl _)
  · rw [if_neg c2] at h
    refine g_iload_n d_DS_checkWhat_4 rfl 0 rfl ?_
    refine g_iload_n d_DS_checkWhat_5 rfl 1 rfl ?_
    refine g_icmp_le (tgt := 20) d_DS_checkWhat_6 (by decide) (fun c1 => ?_) (fun c1 => ?_)
    · rw [if_pos c1] at h
      obtain rfl := Option.some.inj h
      exact g_vret d_DS_checkWhat_20 rfl
    · rw [if_neg c1] at h
      obtain rfl := Option.some.inj h
      exact g_throwW rfl d_DS_checkWhat_9 d_DS_checkWhat_12 d_DS_checkWhat_13 d_DS_checkWhat_16 d_DS_checkWhat_19 w_293 w_32 ws_280 xa_1_51 xg_1_51_47 (by decide) (Nat.le_of_ble_eq_true rfl) (Nat.le_of_ble_eq_true rfl) (Nat.le_refl _) (Nat.le_refl _)
theorem ctn_DS_checkWhat {l : Launch} {ε : gEnv} (M : gMem) (a0 : Int32) (a1 : Int32) (r : Unit) (h : f_DS_checkWhat a0 a1 = some (.inr r)) : gCt l ε k_DS_checkWhat 8 120 [.int a0, .int a1] M none M :=
  gCt_of (by decide) (Nat.le_of_ble_eq_true rfl) rfl (t_DS_checkWhat M a0 a1 (.inr r) h)
theorem ctx_DS_checkWhat {l : Launch} {ε : gEnv} (hl0 : l.stackTraces = false) (M : gMem) (a0 : Int32) (a1 : Int32) (x : Nat) (h : f_DS_checkWhat a0 a1 = some (.inl x)) : gCtX l ε k_DS_checkWhat 8 120 [.int a0, .int a1] M (gXn x) M :=
  gCtX_of hl0 (by decide) (Nat.le_of_ble_eq_true rfl) rfl (t_DS_checkWhat M a0 a1 (.inl x) h)
abbrev k_DS_about : gMD := (⟨"DropSignals", "about", "(I)I"⟩, prog_1_method_6_code, 2, (some .int))
theorem w_601 : Cond.instanceMethod ⟨"DropSignals", "about", "(I)I"⟩ ∈ gWs := gWs_in (i := 601) (by decide +kernel) rfl
theorem w_602 : Cond.selects "DropSignals" ⟨"DropSignals", "about", "(I)I"⟩ ⟨"DropSignals", "about", "(I)I"⟩ ∈ gWs := gWs_in (i := 602) (by decide +kernel) rfl
set_option maxRecDepth 100000 in
theorem ca_DS_about : gCaV k_DS_about 1 := ⟨⟨gWs_in (i := 603) rfl rfl, w_20, by decide, by decide, by decide +kernel⟩, w_601, w_602⟩
theorem d_DS_about_0 : decode prog_1_method_6_code 0 = .ok (.iload_n 1, 1) := by decide +kernel
theorem d_DS_about_1 : decode prog_1_method_6_code 1 = .ok (.bipush 11, 2) := by decide +kernel
theorem d_DS_about_3 : decode prog_1_method_6_code 3 = .ok (.invokestatic 91, 3) := by decide +kernel
theorem d_DS_about_6 : decode prog_1_method_6_code 6 = .ok (.aload_n 0, 1) := by decide +kernel
theorem d_DS_about_7 : decode prog_1_method_6_code 7 = .ok (.getfield 10, 3) := by decide +kernel
theorem d_DS_about_10 : decode prog_1_method_6_code 10 = .ok (.iload_n 1, 1) := by decide +kernel
theorem d_DS_about_11 : decode prog_1_method_6_code 11 = .ok (.invokevirtual 95, 3) := by decide +kernel
theorem d_DS_about_14 : decode prog_1_method_6_code 14 = .ok (.ireturn, 1) := by decide +kernel
theorem w_604 : Cond.methodLink "DropSignals" 91 ⟨"DropSignals", "checkWhat", "(II)V"⟩ ∈ gWs := gWs_in (i := 604) (by decide +kernel) rfl
theorem w_608 : Cond.methodLink "DropSignals" 95 ⟨"DropSignals$Evening", "number", "(I)I"⟩ ∈ gWs := gWs_in (i := 608) (by decide +kernel) rfl
noncomputable def f_DS_about (M : gMem) (a0 : Int32) : Option (Nat ⊕ Int32) :=
  gSq (f_DS_checkWhat a0 11) fun q1 =>
  (f_Ev_number 0 M a0).bind fun q2 =>
  some (.inr q2)
theorem t_DS_about {l : Launch} {ε : gEnv} (hX : gXw ε) (M : gMem) (a0 : Int32) (r : (Nat ⊕ Int32)) (h : f_DS_about M a0 = some r) : gGo l ε k_DS_about (gRT 9 141 r) (gFT ε M (α := Int32) (fun r => gFn ε (some (.int r)) M) r) 0 [(0, .ref (ε.2.2.1 18 0)), (1, .int a0)] [] M := by
  unfold f_DS_about at h
  refine g_iload_n d_DS_about_0 rfl 1 rfl ?_
  refine g_bipush (v := 11) d_DS_about_1 (by decide) ?_
  rcases gSq_o h with ⟨x9, hq1, rfl⟩ | ⟨q1, hq1, h⟩
  · exact g_callXS (As := [.int a0, .int 11]) (rest := []) (fun hl0 => ctx_DS_checkWhat hl0 M a0 11 _ hq1) d_DS_about_3 ca_DS_checkWhat w_604 rfl rfl (Nat.le_of_ble_eq_true rfl) ⟨Nat.le_of_ble_eq_true rfl, Nat.le_of_ble_eq_true rfl⟩ (Nat.le_refl _) (Nat.le_refl _)
  refine g_callS_v (As := [.int a0, .int 11]) (rest := []) (ctn_DS_checkWhat M a0 11 _ hq1) d_DS_about_3 ca_DS_checkWhat w_604 rfl rfl (Nat.le_of_ble_eq_true rfl) ⟨(by rw [gRT_f]; exact Nat.le_of_ble_eq_true rfl), (by rw [gRT_l]; exact Nat.le_of_ble_eq_true rfl)⟩ ?_
  refine g_aload_n d_DS_about_6 rfl 0 rfl ?_
  refine g_getR d_DS_about_7 fl_DS_10 (gXw_h0 hX) rfl ?_
  refine g_iload_n d_DS_about_10 rfl 1 rfl ?_
  obtain ⟨q2, hq2, h⟩ := gOb h
  refine g_callV_i (As := [.int a0]) (rest := []) (ct_Ev_number 0 (hX.1 0 (by decide)) M a0 _ hq2) d_DS_about_11 ca_Ev_number w_608 (gEv_h0 (hX.1 0 (by decide))) rfl rfl rfl (Nat.le_of_ble_eq_true rfl) ⟨(by rw [gRT_f]; exact Nat.le_of_ble_eq_true rfl), (by rw [gRT_l]; exact Nat.le_of_ble_eq_true rfl)⟩ ?_
  obtain rfl := Option.some.inj h
  exact g_iret d_DS_about_14 rfl
theorem ctn_DS_about {l : Launch} {ε : gEnv} (hX : gXw ε) (M : gMem) (a0 : Int32) (r : Int32) (h : f_DS_about M a0 = some (.inr r)) : gCt l ε k_DS_about 9 141 [.ref (ε.2.2.1 18 0), .int a0] M (some (.int r)) M :=
  gCt_of (by decide) (Nat.le_of_ble_eq_true rfl) rfl (t_DS_about hX M a0 (.inr r) h)
theorem ctx_DS_about {l : Launch} {ε : gEnv} (hl0 : l.stackTraces = false) (hX : gXw ε) (M : gMem) (a0 : Int32) (x : Nat) (h : f_DS_about M a0 = some (.inl x)) : gCtX l ε k_DS_about 9 141 [.ref (ε.2.2.1 18 0), .int a0] M (gXn x) M :=
  gCtX_of hl0 (by decide) (Nat.le_of_ble_eq_true rfl) rfl (t_DS_about hX M a0 (.inl x) h)
abbrev k_DS_checkPlace : gMD := (⟨"DropSignals", "checkPlace", "(II)V"⟩, prog_1_method_24_code, 2, none)
theorem w_621 : Cond.static ⟨"DropSignals", "checkPlace", "(II)V"⟩ ∈ gWs := gWs_in (i := 621) (by decide +kernel) rfl
set_option maxRecDepth 100000 in
theorem ca_DS_checkPlace : gCaS k_DS_checkPlace 2 := ⟨⟨gWs_in (i := 622) rfl rfl, w_20, by decide, by decide, by decide +kernel⟩, w_621⟩
theorem d_DS_checkPlace_0 : decode prog_1_method_24_code 0 = .ok (.iload_n 0, 1) := by decide +kernel
theorem d_DS_checkPlace_1 : decode prog_1_method_24_code 1 = .ok (.ifCond .lt 8, 3) := by decide +kernel
theorem d_DS_checkPlace_4 : decode prog_1_method_24_code 4 = .ok (.iload_n 0, 1) := by decide +kernel
theorem d_DS_checkPlace_5 : decode prog_1_method_24_code 5 = .ok (.iload_n 1, 1) := by decide +kernel
theorem d_DS_checkPlace_6 : decode prog_1_method_24_code 6 = .ok (.if_icmp .lt 14, 3) := by decide +kernel
theorem d_DS_checkPlace_9 : decode prog_1_method_24_code 9 = .ok (.new 275, 3) := by decide +kernel
theorem d_DS_checkPlace_20 : decode prog_1_method_24_code 20 = .ok (.return_, 1) := by decide +kernel
theorem d_DS_checkPlace_12 : decode prog_1_method_24_code 12 = .ok (.dup, 1) := by decide +kernel
theorem d_DS_checkPlace_13 : decode prog_1_method_24_code 13 = .ok (.ldc_w 277, 3) := by decide +kernel
theorem d_DS_checkPlace_16 : decode prog_1_method_24_code 16 = .ok (.invokespecial 279, 3) := by decide +kernel
theorem d_DS_checkPlace_19 : decode prog_1_method_24_code 19 = .ok (.athrow, 1) := by decide +kernel
theorem w_623 : Cond.classLink "DropSignals" 275 "java/lang/IndexOutOfBoundsException" ∈ gWs := gWs_in (i := 623) (by decide +kernel) rfl
theorem w_35 : Cond.initialized "java/lang/IndexOutOfBoundsException" ∈ gWs := gWs_in (i := 35) (by decide +kernel) rfl
theorem ws_277 : Cond.stringRef "DropSignals" 277 "no such place" ∈ lw_tbl := List.mem_of_getElem? (i := 632) (by decide +kernel)
theorem xa_3_279 : (vx_atS "DropSignals" 279 "java/lang/IndexOutOfBoundsException" gNm).all (fun w => decide (w ∈ lw_tbl) && (goodWord w || gIsT w)) = true := by decide +kernel
theorem xg_3_279_275 : ∀ w ∈ Cond.classLink "DropSignals" 275 "java/lang/IndexOutOfBoundsException" :: Cond.initialized "java/lang/IndexOutOfBoundsException" :: vx_atS "DropSignals" 279 "java/lang/IndexOutOfBoundsException" gNm, vx_ot w = true := by decide +kernel
noncomputable def f_DS_checkPlace (a0 : Int32) (a1 : Int32) : Option (Nat ⊕ Unit) :=
  if a0 < 0 then
    some (.inl 3)
  else
    if a0 < a1 then
      some (.inr ())
    else
      some (.inl 3)
theorem t_DS_checkPlace {l : Launch} {ε : gEnv} (M : gMem) (a0 : Int32) (a1 : Int32) (r : (Nat ⊕ Unit)) (h : f_DS_checkPlace a0 a1 = some r) : gGo l ε k_DS_checkPlace (gRT 8 120 r) (gFT ε M (α := Unit) (fun _ => gFn ε none M) r) 0 [(0, .int a0), (1, .int a1)] [] M := by
  unfold f_DS_checkPlace at h
  refine g_iload_n d_DS_checkPlace_0 rfl 0 rfl ?_
  refine g_if_lt (tgt := 9) d_DS_checkPlace_1 (by decide) (fun c2 => ?_) (fun c2 => ?_)
  · rw [if_pos c2] at h
    obtain rfl := Option.some.inj h
    exact g_throwW rfl d_DS_checkPlace_9 d_DS_checkPlace_12 d_DS_checkPlace_13 d_DS_checkPlace_16 d_DS_checkPlace_19 w_623 w_35 ws_277 xa_3_279 xg_3_279_275 (by decide) (Nat.le_of_ble_eq_true rfl) (Nat.le_of_ble_eq_true rfl) (Nat.le_refl _) (Nat.le_refl _)
  · rw [if_neg c2] at h
    refine g_iload_n d_DS_checkPlace_4 rfl 0 rfl ?_
    refine g_iload_n d_DS_checkPlace_5 rfl 1 rfl ?_
    refine g_icmp_lt (tgt := 20) d_DS_checkPlace_6 (by decide) (fun c1 => ?_) (fun c1 => ?_)
    · rw [if_pos c1] at h
      obtain rfl := Option.some.inj h
      exact g_vret d_DS_checkPlace_20 rfl
    · rw [if_neg c1] at h
      obtain rfl := Option.some.inj h
      exact g_throwW rfl d_DS_checkPlace_9 d_DS_checkPlace_12 d_DS_checkPlace_13 d_DS_checkPlace_16 d_DS_checkPlace_19 w_623 w_35 ws_277 xa_3_279 xg_3_279_275 (by decide) (Nat.le_of_ble_eq_true rfl) (Nat.le_of_ble_eq_true rfl) (Nat.le_refl _) (Nat.le_refl _)
theorem ctn_DS_checkPlace {l : Launch} {ε : gEnv} (M : gMem) (a0 : Int32) (a1 : Int32) (r : Unit) (h : f_DS_checkPlace a0 a1 = some (.inr r)) : gCt l ε k_DS_checkPlace 8 120 [.int a0, .int a1] M none M :=
  gCt_of (by decide) (Nat.le_of_ble_eq_true rfl) rfl (t_DS_checkPlace M a0 a1 (.inr r) h)
theorem ctx_DS_checkPlace {l : Launch} {ε : gEnv} (hl0 : l.stackTraces = false) (M : gMem) (a0 : Int32) (a1 : Int32) (x : Nat) (h : f_DS_checkPlace a0 a1 = some (.inl x)) : gCtX l ε k_DS_checkPlace 8 120 [.int a0, .int a1] M (gXn x) M :=
  gCtX_of hl0 (by decide) (Nat.le_of_ble_eq_true rfl) rfl (t_DS_checkPlace M a0 a1 (.inl x) h)
abbrev k_DS_cardOf : gMD := (⟨"DropSignals", "cardOf", "(II)I"⟩, prog_1_method_7_code, 3, (some .int))
theorem w_617 : Cond.instanceMethod ⟨"DropSignals", "cardOf", "(II)I"⟩ ∈ gWs := gWs_in (i := 617) (by decide +kernel) rfl
theorem w_618 : Cond.selects "DropSignals" ⟨"DropSignals", "cardOf", "(II)I"⟩ ⟨"DropSignals", "cardOf", "(II)I"⟩ ∈ gWs := gWs_in (i := 618) (by decide +kernel) rfl
set_option maxRecDepth 100000 in
theorem ca_DS_cardOf : gCaV k_DS_cardOf 2 := ⟨⟨gWs_in (i := 619) rfl rfl, w_20, by decide, by decide, by decide +kernel⟩, w_617, w_618⟩
theorem d_DS_cardOf_0 : decode prog_1_method_7_code 0 = .ok (.iload_n 1, 1) := by decide +kernel
theorem d_DS_cardOf_1 : decode prog_1_method_7_code 1 = .ok (.bipush 32, 2) := by decide +kernel
theorem d_DS_cardOf_3 : decode prog_1_method_7_code 3 = .ok (.invokestatic 98, 3) := by decide +kernel
theorem d_DS_cardOf_6 : decode prog_1_method_7_code 6 = .ok (.iload_n 2, 1) := by decide +kernel
theorem d_DS_cardOf_7 : decode prog_1_method_7_code 7 = .ok (.iconst 2, 1) := by decide +kernel
theorem d_DS_cardOf_8 : decode prog_1_method_7_code 8 = .ok (.invokestatic 91, 3) := by decide +kernel
theorem d_DS_cardOf_11 : decode prog_1_method_7_code 11 = .ok (.iload_n 2, 1) := by decide +kernel
theorem d_DS_cardOf_12 : decode prog_1_method_7_code 12 = .ok (.lookupswitch 52 #[(0, 28), (1, 40)], 28) := by decide +kernel
theorem d_DS_cardOf_40 : decode prog_1_method_7_code 40 = .ok (.aload_n 0, 1) := by decide +kernel
theorem d_DS_cardOf_41 : decode prog_1_method_7_code 41 = .ok (.getfield 10, 3) := by decide +kernel
theorem d_DS_cardOf_44 : decode prog_1_method_7_code 44 = .ok (.getfield 101, 3) := by decide +kernel
theorem d_DS_cardOf_47 : decode prog_1_method_7_code 47 = .ok (.iload_n 1, 1) := by decide +kernel
theorem d_DS_cardOf_48 : decode prog_1_method_7_code 48 = .ok (.invokevirtual 105, 3) := by decide +kernel
theorem d_DS_cardOf_51 : decode prog_1_method_7_code 51 = .ok (.ireturn, 1) := by decide +kernel
theorem d_DS_cardOf_52 : decode prog_1_method_7_code 52 = .ok (.aload_n 0, 1) := by decide +kernel
theorem d_DS_cardOf_53 : decode prog_1_method_7_code 53 = .ok (.getfield 10, 3) := by decide +kernel
theorem d_DS_cardOf_56 : decode prog_1_method_7_code 56 = .ok (.getfield 101, 3) := by decide +kernel
theorem d_DS_cardOf_59 : decode prog_1_method_7_code 59 = .ok (.iload_n 1, 1) := by decide +kernel
theorem d_DS_cardOf_60 : decode prog_1_method_7_code 60 = .ok (.invokevirtual 110, 3) := by decide +kernel
theorem d_DS_cardOf_63 : decode prog_1_method_7_code 63 = .ok (.ireturn, 1) := by decide +kernel
theorem d_DS_cardOf_64 : decode prog_1_method_7_code 64 = .ok (.aload_n 0, 1) := by decide +kernel
theorem d_DS_cardOf_65 : decode prog_1_method_7_code 65 = .ok (.getfield 10, 3) := by decide +kernel
theorem d_DS_cardOf_68 : decode prog_1_method_7_code 68 = .ok (.getfield 101, 3) := by decide +kernel
theorem d_DS_cardOf_71 : decode prog_1_method_7_code 71 = .ok (.iload_n 1, 1) := by decide +kernel
theorem d_DS_cardOf_72 : decode prog_1_method_7_code 72 = .ok (.invokevirtual 113, 3) := by decide +kernel
theorem d_DS_cardOf_75 : decode prog_1_method_7_code 75 = .ok (.ireturn, 1) := by decide +kernel
theorem w_620 : Cond.methodLink "DropSignals" 98 ⟨"DropSignals", "checkPlace", "(II)V"⟩ ∈ gWs := gWs_in (i := 620) (by decide +kernel) rfl
theorem fl_DS_101 : gFlN "DropSignals" 101 2 0 := ⟨gN2, gF2, 14, 119, "DropSignals", rfl, uw_2, by decide, by decide +kernel⟩
theorem w_639 : Cond.methodLink "DropSignals" 105 ⟨"DropSignals$Cards", "holder", "(I)I"⟩ ∈ gWs := gWs_in (i := 639) (by decide +kernel) rfl
theorem w_640 : Cond.methodLink "DropSignals" 110 ⟨"DropSignals$Cards", "dealtTo", "(I)I"⟩ ∈ gWs := gWs_in (i := 640) (by decide +kernel) rfl
theorem w_641 : Cond.methodLink "DropSignals" 113 ⟨"DropSignals$Cards", "playedAt", "(I)I"⟩ ∈ gWs := gWs_in (i := 641) (by decide +kernel) rfl
noncomputable def f_DS_cardOf (M : gMem) (a0 : Int32) (a1 : Int32) : Option (Nat ⊕ Int32) :=
  gSq (f_DS_checkPlace a0 32) fun q1 =>
  gSq (f_DS_checkWhat a1 2) fun q2 =>
  if a1 = 0 then
    (f_Cards_holder 0 M a0).bind fun q4 =>
    some (.inr q4)
  else
  if a1 = 1 then
    (f_Cards_dealtTo 0 M a0).bind fun q6 =>
    some (.inr q6)
  else
  (f_Cards_playedAt 0 M a0).bind fun q7 =>
  some (.inr q7)
theorem t_DS_cardOf {l : Launch} {ε : gEnv} (hX : gXw ε) (M : gMem) (a0 : Int32) (a1 : Int32) (r : (Nat ⊕ Int32)) (h : f_DS_cardOf M a0 a1 = some r) : gGo l ε k_DS_cardOf (gRT 9 141 r) (gFT ε M (α := Int32) (fun r => gFn ε (some (.int r)) M) r) 0 [(0, .ref (ε.2.2.1 18 0)), (1, .int a0), (2, .int a1)] [] M := by
  unfold f_DS_cardOf at h
  refine g_iload_n d_DS_cardOf_0 rfl 1 rfl ?_
  refine g_bipush (v := 32) d_DS_cardOf_1 (by decide) ?_
  rcases gSq_o h with ⟨x9, hq1, rfl⟩ | ⟨q1, hq1, h⟩
  · exact g_callXS (As := [.int a0, .int 32]) (rest := []) (fun hl0 => ctx_DS_checkPlace hl0 M a0 32 _ hq1) d_DS_cardOf_3 ca_DS_checkPlace w_620 rfl rfl (Nat.le_of_ble_eq_true rfl) ⟨Nat.le_of_ble_eq_true rfl, Nat.le_of_ble_eq_true rfl⟩ (Nat.le_refl _) (Nat.le_refl _)
  refine g_callS_v (As := [.int a0, .int 32]) (rest := []) (ctn_DS_checkPlace M a0 32 _ hq1) d_DS_cardOf_3 ca_DS_checkPlace w_620 rfl rfl (Nat.le_of_ble_eq_true rfl) ⟨(by rw [gRT_f]; exact Nat.le_of_ble_eq_true rfl), (by rw [gRT_l]; exact Nat.le_of_ble_eq_true rfl)⟩ ?_
  refine g_iload_n d_DS_cardOf_6 rfl 2 rfl ?_
  refine g_iconst (v := 2) d_DS_cardOf_7 (by decide) ?_
  rcases gSq_o h with ⟨x9, hq2, rfl⟩ | ⟨q2, hq2, h⟩
  · exact g_callXS (As := [.int a1, .int 2]) (rest := []) (fun hl0 => ctx_DS_checkWhat hl0 M a1 2 _ hq2) d_DS_cardOf_8 ca_DS_checkWhat w_604 rfl rfl (Nat.le_of_ble_eq_true rfl) ⟨Nat.le_of_ble_eq_true rfl, Nat.le_of_ble_eq_true rfl⟩ (Nat.le_refl _) (Nat.le_refl _)
  refine g_callS_v (As := [.int a1, .int 2]) (rest := []) (ctn_DS_checkWhat M a1 2 _ hq2) d_DS_cardOf_8 ca_DS_checkWhat w_604 rfl rfl (Nat.le_of_ble_eq_true rfl) ⟨(by rw [gRT_f]; exact Nat.le_of_ble_eq_true rfl), (by rw [gRT_l]; exact Nat.le_of_ble_eq_true rfl)⟩ ?_
  refine g_iload_n d_DS_cardOf_11 rfl 2 rfl ?_
  by_cases c3 : a1 = 0
  · rw [if_pos c3] at h
    refine g_lookup (off := 28) (tgt := 40) d_DS_cardOf_12 rfl (by rw [c3]; rfl) (by decide) ?_
    refine g_aload_n d_DS_cardOf_40 rfl 0 rfl ?_
    refine g_getR d_DS_cardOf_41 fl_DS_10 (gXw_h0 hX) rfl ?_
    refine g_getRN d_DS_cardOf_44 fl_DS_101 (gEv_h0 (hX.1 0 (by decide))) rfl ?_
    refine g_iload_n d_DS_cardOf_47 rfl 1 rfl ?_
    obtain ⟨q4, hq4, h⟩ := gOb h
    refine g_callV_i (As := [.int a0]) (rest := []) (ct_Cards_holder 0 (gEv_cd (hX.1 0 (by decide))) M a0 _ hq4) d_DS_cardOf_48 ca_Cards_holder w_639 (gEv_h1 (hX.1 0 (by decide))) rfl rfl rfl (Nat.le_of_ble_eq_true rfl) ⟨(by rw [gRT_f]; exact Nat.le_of_ble_eq_true rfl), (by rw [gRT_l]; exact Nat.le_of_ble_eq_true rfl)⟩ ?_
    obtain rfl := Option.some.inj h
    exact g_iret d_DS_cardOf_51 rfl
  rw [if_neg c3] at h
  by_cases c5 : a1 = 1
  · rw [if_pos c5] at h
    refine g_lookup (off := 40) (tgt := 52) d_DS_cardOf_12 rfl (by rw [c5]; rfl) (by decide) ?_
    refine g_aload_n d_DS_cardOf_52 rfl 0 rfl ?_
    refine g_getR d_DS_cardOf_53 fl_DS_10 (gXw_h0 hX) rfl ?_
    refine g_getRN d_DS_cardOf_56 fl_DS_101 (gEv_h0 (hX.1 0 (by decide))) rfl ?_
    refine g_iload_n d_DS_cardOf_59 rfl 1 rfl ?_
    obtain ⟨q6, hq6, h⟩ := gOb h
    refine g_callV_i (As := [.int a0]) (rest := []) (ct_Cards_dealtTo 0 (gEv_cd (hX.1 0 (by decide))) M a0 _ hq6) d_DS_cardOf_60 ca_Cards_dealtTo w_640 (gEv_h1 (hX.1 0 (by decide))) rfl rfl rfl (Nat.le_of_ble_eq_true rfl) ⟨(by rw [gRT_f]; exact Nat.le_of_ble_eq_true rfl), (by rw [gRT_l]; exact Nat.le_of_ble_eq_true rfl)⟩ ?_
    obtain rfl := Option.some.inj h
    exact g_iret d_DS_cardOf_63 rfl
  rw [if_neg c5] at h
  refine g_lookup (off := 52) (tgt := 64) d_DS_cardOf_12 rfl (by show Op.lookupswitch.offset [(0, 28), (1, 40)] 52 (Int32.toInt a1) = 52; rw [lv_osw (a := 0) c3 rfl, lv_osw (a := 1) c5 rfl]; rfl) (by decide) ?_
  refine g_aload_n d_DS_cardOf_64 rfl 0 rfl ?_
  refine g_getR d_DS_cardOf_65 fl_DS_10 (gXw_h0 hX) rfl ?_
  refine g_getRN d_DS_cardOf_68 fl_DS_101 (gEv_h0 (hX.1 0 (by decide))) rfl ?_
  refine g_iload_n d_DS_cardOf_71 rfl 1 rfl ?_
  obtain ⟨q7, hq7, h⟩ := gOb h
  refine g_callV_i (As := [.int a0]) (rest := []) (ct_Cards_playedAt 0 (gEv_cd (hX.1 0 (by decide))) M a0 _ hq7) d_DS_cardOf_72 ca_Cards_playedAt w_641 (gEv_h1 (hX.1 0 (by decide))) rfl rfl rfl (Nat.le_of_ble_eq_true rfl) ⟨(by rw [gRT_f]; exact Nat.le_of_ble_eq_true rfl), (by rw [gRT_l]; exact Nat.le_of_ble_eq_true rfl)⟩ ?_
  obtain rfl := Option.some.inj h
  exact g_iret d_DS_cardOf_75 rfl
theorem ctn_DS_cardOf {l : Launch} {ε : gEnv} (hX : gXw ε) (M : gMem) (a0 : Int32) (a1 : Int32) (r : Int32) (h : f_DS_cardOf M a0 a1 = some (.inr r)) : gCt l ε k_DS_cardOf 9 141 [.ref (ε.2.2.1 18 0), .int a0, .int a1] M (some (.int r)) M :=
  gCt_of (by decide) (Nat.le_of_ble_eq_true rfl) rfl (t_DS_cardOf hX M a0 a1 (.inr r) h)
theorem ctx_DS_cardOf {l : Launch} {ε : gEnv} (hl0 : l.stackTraces = false) (hX : gXw ε) (M : gMem) (a0 : Int32) (a1 : Int32) (x : Nat) (h : f_DS_cardOf M a0 a1 = some (.inl x)) : gCtX l ε k_DS_cardOf 9 141 [.ref (ε.2.2.1 18 0), .int a0, .int a1] M (gXn x) M :=
  gCtX_of hl0 (by decide) (Nat.le_of_ble_eq_true rfl) rfl (t_DS_cardOf hX M a0 a1 (.inl x) h)
abbrev k_DS_suitOf : gMD := (⟨"DropSignals", "suitOf", "(III)I"⟩, prog_1_method_8_code, 4, (some .int))
theorem w_650 : Cond.instanceMethod ⟨"DropSignals", "suitOf", "(III)I"⟩ ∈ gWs := gWs_in (i := 650) (by decide +kernel) rfl
theorem w_651 : Cond.selects "DropSignals" ⟨"DropSignals", "suitOf", "(III)I"⟩ ⟨"DropSignals", "suitOf", "(III)I"⟩ ∈ gWs := gWs_in (i := 651) (by decide +kernel) rfl
set_option maxRecDepth 100000 in
theorem ca_DS_suitOf : gCaV k_DS_suitOf 3 := ⟨⟨gWs_in (i := 652) rfl rfl, w_20, by decide, by decide, by decide +kernel⟩, w_650, w_651⟩
theorem d_DS_suitOf_0 : decode prog_1_method_8_code 0 = .ok (.iload_n 1, 1) := by decide +kernel
theorem d_DS_suitOf_1 : decode prog_1_method_8_code 1 = .ok (.iconst 4, 1) := by decide +kernel
theorem d_DS_suitOf_2 : decode prog_1_method_8_code 2 = .ok (.invokestatic 98, 3) := by decide +kernel
theorem d_DS_suitOf_5 : decode prog_1_method_8_code 5 = .ok (.iload_n 2, 1) := by decide +kernel
theorem d_DS_suitOf_6 : decode prog_1_method_8_code 6 = .ok (.iconst 4, 1) := by decide +kernel
theorem d_DS_suitOf_7 : decode prog_1_method_8_code 7 = .ok (.invokestatic 98, 3) := by decide +kernel
theorem d_DS_suitOf_10 : decode prog_1_method_8_code 10 = .ok (.iload_n 3, 1) := by decide +kernel
theorem d_DS_suitOf_11 : decode prog_1_method_8_code 11 = .ok (.iconst 5, 1) := by decide +kernel
theorem d_DS_suitOf_12 : decode prog_1_method_8_code 12 = .ok (.invokestatic 91, 3) := by decide +kernel
theorem d_DS_suitOf_15 : decode prog_1_method_8_code 15 = .ok (.iload_n 3, 1) := by decide +kernel
theorem d_DS_suitOf_16 : decode prog_1_method_8_code 16 = .ok (.tableswitch 98 0 4 #[36, 49, 62, 75, 88], 36) := by decide +kernel
theorem d_DS_suitOf_52 : decode prog_1_method_8_code 52 = .ok (.aload_n 0, 1) := by decide +kernel
theorem d_DS_suitOf_53 : decode prog_1_method_8_code 53 = .ok (.getfield 10, 3) := by decide +kernel
theorem d_DS_suitOf_56 : decode prog_1_method_8_code 56 = .ok (.getfield 101, 3) := by decide +kernel
theorem d_DS_suitOf_59 : decode prog_1_method_8_code 59 = .ok (.iload_n 1, 1) := by decide +kernel
theorem d_DS_suitOf_60 : decode prog_1_method_8_code 60 = .ok (.iload_n 2, 1) := by decide +kernel
theorem d_DS_suitOf_61 : decode prog_1_method_8_code 61 = .ok (.invokevirtual 116, 3) := by decide +kernel
theorem d_DS_suitOf_64 : decode prog_1_method_8_code 64 = .ok (.ireturn, 1) := by decide +kernel
theorem d_DS_suitOf_65 : decode prog_1_method_8_code 65 = .ok (.aload_n 0, 1) := by decide +kernel
theorem d_DS_suitOf_66 : decode prog_1_method_8_code 66 = .ok (.getfield 10, 3) := by decide +kernel
theorem d_DS_suitOf_69 : decode prog_1_method_8_code 69 = .ok (.getfield 101, 3) := by decide +kernel
theorem d_DS_suitOf_72 : decode prog_1_method_8_code 72 = .ok (.iload_n 1, 1) := by decide +kernel
theorem d_DS_suitOf_73 : decode prog_1_method_8_code 73 = .ok (.iload_n 2, 1) := by decide +kernel
theorem d_DS_suitOf_74 : decode prog_1_method_8_code 74 = .ok (.invokevirtual 120, 3) := by decide +kernel
theorem d_DS_suitOf_77 : decode prog_1_method_8_code 77 = .ok (.ireturn, 1) := by decide +kernel
theorem d_DS_suitOf_78 : decode prog_1_method_8_code 78 = .ok (.aload_n 0, 1) := by decide +kernel
theorem d_DS_suitOf_79 : decode prog_1_method_8_code 79 = .ok (.getfield 10, 3) := by decide +kernel
theorem d_DS_suitOf_82 : decode prog_1_method_8_code 82 = .ok (.getfield 123, 3) := by decide +kernel
theorem d_DS_suitOf_85 : decode prog_1_method_8_code 85 = .ok (.iload_n 1, 1) := by decide +kernel
theorem d_DS_suitOf_86 : decode prog_1_method_8_code 86 = .ok (.iload_n 2, 1) := by decide +kernel
theorem d_DS_suitOf_87 : decode prog_1_method_8_code 87 = .ok (.invokevirtual 127, 3) := by decide +kernel
theorem d_DS_suitOf_90 : decode prog_1_method_8_code 90 = .ok (.ireturn, 1) := by decide +kernel
theorem d_DS_suitOf_91 : decode prog_1_method_8_code 91 = .ok (.aload_n 0, 1) := by decide +kernel
theorem d_DS_suitOf_92 : decode prog_1_method_8_code 92 = .ok (.getfield 10, 3) := by decide +kernel
theorem d_DS_suitOf_95 : decode prog_1_method_8_code 95 = .ok (.getfield 123, 3) := by decide +kernel
theorem d_DS_suitOf_98 : decode prog_1_method_8_code 98 = .ok (.iload_n 1, 1) := by decide +kernel
theorem d_DS_suitOf_99 : decode prog_1_method_8_code 99 = .ok (.iload_n 2, 1) := by decide +kernel
theorem d_DS_suitOf_100 : decode prog_1_method_8_code 100 = .ok (.invokevirtual 132, 3) := by decide +kernel
theorem d_DS_suitOf_103 : decode prog_1_method_8_code 103 = .ok (.ireturn, 1) := by decide +kernel
theorem d_DS_suitOf_104 : decode prog_1_method_8_code 104 = .ok (.aload_n 0, 1) := by decide +kernel
theorem d_DS_suitOf_105 : decode prog_1_method_8_code 105 = .ok (.getfield 10, 3) := by decide +kernel
theorem d_DS_suitOf_108 : decode prog_1_method_8_code 108 = .ok (.iload_n 1, 1) := by decide +kernel
theorem d_DS_suitOf_109 : decode prog_1_method_8_code 109 = .ok (.iload_n 2, 1) := by decide +kernel
theorem d_DS_suitOf_110 : decode prog_1_method_8_code 110 = .ok (.invokevirtual 135, 3) := by decide +kernel
theorem d_DS_suitOf_113 : decode prog_1_method_8_code 113 = .ok (.ireturn, 1) := by decide +kernel
theorem d_DS_suitOf_114 : decode prog_1_method_8_code 114 = .ok (.aload_n 0, 1) := by decide +kernel
theorem d_DS_suitOf_115 : decode prog_1_method_8_code 115 = .ok (.getfield 10, 3) := by decide +kernel
theorem d_DS_suitOf_118 : decode prog_1_method_8_code 118 = .ok (.getfield 123, 3) := by decide +kernel
theorem d_DS_suitOf_121 : decode prog_1_method_8_code 121 = .ok (.iload_n 1, 1) := by decide +kernel
theorem d_DS_suitOf_122 : decode prog_1_method_8_code 122 = .ok (.iload_n 2, 1) := by decide +kernel
theorem d_DS_suitOf_123 : decode prog_1_method_8_code 123 = .ok (.invokevirtual 138, 3) := by decide +kernel
theorem d_DS_suitOf_126 : decode prog_1_method_8_code 126 = .ok (.ifCond .eq 7, 3) := by decide +kernel
theorem d_DS_suitOf_129 : decode prog_1_method_8_code 129 = .ok (.iconst 1, 1) := by decide +kernel
theorem d_DS_suitOf_130 : decode prog_1_method_8_code 130 = .ok (.goto 4, 3) := by decide +kernel
theorem d_DS_suitOf_133 : decode prog_1_method_8_code 133 = .ok (.iconst 0, 1) := by decide +kernel
theorem d_DS_suitOf_134 : decode prog_1_method_8_code 134 = .ok (.ireturn, 1) := by decide +kernel
theorem w_653 : Cond.methodLink "DropSignals" 116 ⟨"DropSignals$Cards", "held", "(II)I"⟩ ∈ gWs := gWs_in (i := 653) (by decide +kernel) rfl
theorem w_654 : Cond.methodLink "DropSignals" 120 ⟨"DropSignals$Cards", "dealt", "(II)I"⟩ ∈ gWs := gWs_in (i := 654) (by decide +kernel) rfl
theorem fl_DS_123 : gFlN "DropSignals" 123 2 1 := ⟨gN2, gF2, 14, 122, "DropSignals", rfl, uw_2, by decide, by decide +kernel⟩
theorem w_655 : Cond.methodLink "DropSignals" 127 ⟨"DropSignals$Drops", "count", "(II)I"⟩ ∈ gWs := gWs_in (i := 655) (by decide +kernel) rfl
theorem w_656 : Cond.methodLink "DropSignals" 132 ⟨"DropSignals$Drops", "signal", "(II)I"⟩ ∈ gWs := gWs_in (i := 656) (by decide +kernel) rfl
theorem w_660 : Cond.methodLink "DropSignals" 135 ⟨"DropSignals$Evening", "truth", "(II)I"⟩ ∈ gWs := gWs_in (i := 660) (by decide +kernel) rfl
theorem w_665 : Cond.methodLink "DropSignals" 138 ⟨"DropSignals$Drops", "showedNone", "(II)Z"⟩ ∈ gWs := gWs_in (i := 665) (by decide +kernel) rfl
noncomputable def f_DS_suitOf (M : gMem) (a0 : Int32) (a1 : Int32) (a2 : Int32) : Option (Nat ⊕ Int32) :=
  gSq (f_DS_checkPlace a0 4) fun q1 =>
  gSq (f_DS_checkPlace a1 4) fun q2 =>
  gSq (f_DS_checkWhat a2 5) fun q3 =>
  if a2 = 0 then
    (f_Cards_held 0 M a0 a1).bind fun q5 =>
    some (.inr q5)
  else
  if a2 = 1 then
    (f_Cards_dealt 0 M a0 a1).bind fun q7 =>
    some (.inr q7)
  else
  if a2 = 2 then
    (f_Drops_count 0 M a0 a1).bind fun q9 =>
    some (.inr q9)
  else
  if a2 = 3 then
    (f_Drops_signal 0 M a0 a1).bind fun q11 =>
    some (.inr q11)
  else
  if a2 = 4 then
    (f_Ev_truth 0 M a0 a1).bind fun q13 =>
    some (.inr q13)
  else
  (f_Drops_showedNone 0 M a0 a1).bind fun q14 =>
  if q14 = 0 then
    some (.inr 0)
  else
    some (.inr 1)
theorem t_DS_suitOf {l : Launch} {ε : gEnv} (hX : gXw ε) (M : gMem) (a0 : Int32) (a1 : Int32) (a2 : Int32) (r : (Nat ⊕ Int32)) (h : f_DS_suitOf M a0 a1 a2 = some r) : gGo l ε k_DS_suitOf (gRT 9 141 r) (gFT ε M (α := Int32) (fun r => gFn ε (some (.int r)) M) r) 0 [(0, .ref (ε.2.2.1 18 0)), (1, .int a0), (2, .int a1), (3, .int a2)] [] M := by
  unfold f_DS_suitOf at h
  refine g_iload_n d_DS_suitOf_0 rfl 1 rfl ?_
  refine g_iconst (v := 4) d_DS_suitOf_1 (by decide) ?_
  rcases gSq_o h with ⟨x9, hq1, rfl⟩ | ⟨q1, hq1, h⟩
  · exact g_callXS (As := [.int a0, .int 4]) (rest := []) (fun hl0 => ctx_DS_checkPlace hl0 M a0 4 _ hq1) d_DS_suitOf_2 ca_DS_checkPlace w_620 rfl rfl (Nat.le_of_ble_eq_true rfl) ⟨Nat.le_of_ble_eq_true rfl, Nat.le_of_ble_eq_true rfl⟩ (Nat.le_refl _) (Nat.le_refl _)
  refine g_callS_v (As := [.int a0, .int 4]) (rest := []) (ctn_DS_checkPlace M a0 4 _ hq1) d_DS_suitOf_2 ca_DS_checkPlace w_620 rfl rfl (Nat.le_of_ble_eq_true rfl) ⟨(by rw [gRT_f]; exact Nat.le_of_ble_eq_true rfl), (by rw [gRT_l]; exact Nat.le_of_ble_eq_true rfl)⟩ ?_
  refine g_iload_n d_DS_suitOf_5 rfl 2 rfl ?_
  refine g_iconst (v := 4) d_DS_suitOf_6 (by decide) ?_
  rcases gSq_o h with ⟨x9, hq2, rfl⟩ | ⟨q2, hq2, h⟩
  · exact g_callXS (As := [.int a1, .int 4]) (rest := []) (fun hl0 => ctx_DS_checkPlace hl0 M a1 4 _ hq2) d_DS_suitOf_7 ca_DS_checkPlace w_620 rfl rfl (Nat.le_of_ble_eq_true rfl) ⟨Nat.le_of_ble_eq_true rfl, Nat.le_of_ble_eq_true rfl⟩ (Nat.le_refl _) (Nat.le_refl _)
  refine g_callS_v (As := [.int a1, .int 4]) (rest := []) (ctn_DS_checkPlace M a1 4 _ hq2) d_DS_suitOf_7 ca_DS_checkPlace w_620 rfl rfl (Nat.le_of_ble_eq_true rfl) ⟨(by rw [gRT_f]; exact Nat.le_of_ble_eq_true rfl), (by rw [gRT_l]; exact Nat.le_of_ble_eq_true rfl)⟩ ?_
  refine g_iload_n d_DS_suitOf_10 rfl 3 rfl ?_
  refine g_iconst (v := 5) d_DS_suitOf_11 (by decide) ?_
  rcases gSq_o h with ⟨x9, hq3, rfl⟩ | ⟨q3, hq3, h⟩
  · exact g_callXS (As := [.int a2, .int 5]) (rest := []) (fun hl0 => ctx_DS_checkWhat hl0 M a2 5 _ hq3) d_DS_suitOf_12 ca_DS_checkWhat w_604 rfl rfl (Nat.le_of_ble_eq_true rfl) ⟨Nat.le_of_ble_eq_true rfl, Nat.le_of_ble_eq_true rfl⟩ (Nat.le_refl _) (Nat.le_refl _)
  refine g_callS_v (As := [.int a2, .int 5]) (rest := []) (ctn_DS_checkWhat M a2 5 _ hq3) d_DS_suitOf_12 ca_DS_checkWhat w_604 rfl rfl (Nat.le_of_ble_eq_true rfl) ⟨(by rw [gRT_f]; exact Nat.le_of_ble_eq_true rfl), (by rw [gRT_l]; exact Nat.le_of_ble_eq_true rfl)⟩ ?_
  refine g_iload_n d_DS_suitOf_15 rfl 3 rfl ?_
  by_cases c4 : a2 = 0
  · rw [if_pos c4] at h
    refine g_tabIn (off := 36) (tgt := 52) d_DS_suitOf_16 (by rw [c4]; decide) (by rw [c4]; decide) (by rw [c4]; rfl) (by decide) ?_
    refine g_aload_n d_DS_suitOf_52 rfl 0 rfl ?_
    refine g_getR d_DS_suitOf_53 fl_DS_10 (gXw_h0 hX) rfl ?_
    refine g_getRN d_DS_suitOf_56 fl_DS_101 (gEv_h0 (hX.1 0 (by decide))) rfl ?_
    refine g_iload_n d_DS_suitOf_59 rfl 1 rfl ?_
    refine g_iload_n d_DS_suitOf_60 rfl 2 rfl ?_
    obtain ⟨q5, hq5, h⟩ := gOb h
    refine g_callV_i (As := [.int a0, .int a1]) (rest := []) (ct_Cards_held 0 (gEv_cd (hX.1 0 (by decide))) M a0 a1 _ hq5) d_DS_suitOf_61 ca_Cards_held w_653 (gEv_h1 (hX.1 0 (by decide))) rfl rfl rfl (Nat.le_of_ble_eq_true rfl) ⟨(by rw [gRT_f]; exact Nat.le_of_ble_eq_true rfl), (by rw [gRT_l]; exact Nat.le_of_ble_eq_true rfl)⟩ ?_
    obtain rfl := Option.some.inj h
    exact g_iret d_DS_suitOf_64 rfl
  rw [if_neg c4] at h
  by_cases c6 : a2 = 1
  · rw [if_pos c6] at h
    refine g_tabIn (off := 49) (tgt := 65) d_DS_suitOf_16 (by rw [c6]; decide) (by rw [c6]; decide) (by rw [c6]; rfl) (by decide) ?_
    refine g_aload_n d_DS_suitOf_65 rfl 0 rfl ?_
    refine g_getR d_DS_suitOf_66 fl_DS_10 (gXw_h0 hX) rfl ?_
    refine g_getRN d_DS_suitOf_69 fl_DS_101 (gEv_h0 (hX.1 0 (by decide))) rfl ?_
    refine g_iload_n d_DS_suitOf_72 rfl 1 rfl ?_
    refine g_iload_n d_DS_suitOf_73 rfl 2 rfl ?_
    obtain ⟨q7, hq7, h⟩ := gOb h
    refine g_callV_i (As := [.int a0, .int a1]) (rest := []) (ct_Cards_dealt 0 (gEv_cd (hX.1 0 (by decide))) M a0 a1 _ hq7) d_DS_suitOf_74 ca_Cards_dealt w_654 (gEv_h1 (hX.1 0 (by decide))) rfl rfl rfl (Nat.le_of_ble_eq_true rfl) ⟨(by rw [gRT_f]; exact Nat.le_of_ble_eq_true rfl), (by rw [gRT_l]; exact Nat.le_of_ble_eq_true rfl)⟩ ?_
    obtain rfl := Option.some.inj h
    exact g_iret d_DS_suitOf_77 rfl
  rw [if_neg c6] at h
  by_cases c8 : a2 = 2
  · rw [if_pos c8] at h
    refine g_tabIn (off := 62) (tgt := 78) d_DS_suitOf_16 (by rw [c8]; decide) (by rw [c8]; decide) (by rw [c8]; rfl) (by decide) ?_
    refine g_aload_n d_DS_suitOf_78 rfl 0 rfl ?_
    refine g_getR d_DS_suitOf_79 fl_DS_10 (gXw_h0 hX) rfl ?_
    refine g_getRN d_DS_suitOf_82 fl_DS_123 (gEv_h0 (hX.1 0 (by decide))) rfl ?_
    refine g_iload_n d_DS_suitOf_85 rfl 1 rfl ?_
    refine g_iload_n d_DS_suitOf_86 rfl 2 rfl ?_
    obtain ⟨q9, hq9, h⟩ := gOb h
    refine g_callV_i (As := [.int a0, .int a1]) (rest := []) (ct_Drops_count 0 (gEv_dr (hX.1 0 (by decide))) M a0 a1 _ hq9) d_DS_suitOf_87 ca_Drops_count w_655 (gEv_h2 (hX.1 0 (by decide))) rfl rfl rfl (Nat.le_of_ble_eq_true rfl) ⟨(by rw [gRT_f]; exact Nat.le_of_ble_eq_true rfl), (by rw [gRT_l]; exact Nat.le_of_ble_eq_true rfl)⟩ ?_
    obtain rfl := Option.some.inj h
    exact g_iret d_DS_suitOf_90 rfl
  rw [if_neg c8] at h
  by_cases c10 : a2 = 3
  · rw [if_pos c10] at h
    refine g_tabIn (off := 75) (tgt := 91) d_DS_suitOf_16 (by rw [c10]; decide) (by rw [c10]; decide) (by rw [c10]; rfl) (by decide) ?_
    refine g_aload_n d_DS_suitOf_91 rfl 0 rfl ?_
    refine g_getR d_DS_suitOf_92 fl_DS_10 (gXw_h0 hX) rfl ?_
    refine g_getRN d_DS_suitOf_95 fl_DS_123 (gEv_h0 (hX.1 0 (by decide))) rfl ?_
    refine g_iload_n d_DS_suitOf_98 rfl 1 rfl ?_
    refine g_iload_n d_DS_suitOf_99 rfl 2 rfl ?_
    obtain ⟨q11, hq11, h⟩ := gOb h
    refine g_callV_i (As := [.int a0, .int a1]) (rest := []) (ct_Drops_signal 0 (gEv_dr (hX.1 0 (by decide))) M a0 a1 _ hq11) d_DS_suitOf_100 ca_Drops_signal w_656 (gEv_h2 (hX.1 0 (by decide))) rfl rfl rfl (Nat.le_of_ble_eq_true rfl) ⟨(by rw [gRT_f]; exact Nat.le_of_ble_eq_true rfl), (by rw [gRT_l]; exact Nat.le_of_ble_eq_true rfl)⟩ ?_
    obtain rfl := Option.some.inj h
    exact g_iret d_DS_suitOf_103 rfl
  rw [if_neg c10] at h
  by_cases c12 : a2 = 4
  · rw [if_pos c12] at h
    refine g_tabIn (off := 88) (tgt := 104) d_DS_suitOf_16 (by rw [c12]; decide) (by rw [c12]; decide) (by rw [c12]; rfl) (by decide) ?_
    refine g_aload_n d_DS_suitOf_104 rfl 0 rfl ?_
    refine g_getR d_DS_suitOf_105 fl_DS_10 (gXw_h0 hX) rfl ?_
    refine g_iload_n d_DS_suitOf_108 rfl 1 rfl ?_
    refine g_iload_n d_DS_suitOf_109 rfl 2 rfl ?_
    obtain ⟨q13, hq13, h⟩ := gOb h
    refine g_callV_i (As := [.int a0, .int a1]) (rest := []) (ct_Ev_truth 0 (hX.1 0 (by decide)) M a0 a1 _ hq13) d_DS_suitOf_110 ca_Ev_truth w_660 (gEv_h0 (hX.1 0 (by decide))) rfl rfl rfl (Nat.le_of_ble_eq_true rfl) ⟨(by rw [gRT_f]; exact Nat.le_of_ble_eq_true rfl), (by rw [gRT_l]; exact Nat.le_of_ble_eq_true rfl)⟩ ?_
    obtain rfl := Option.some.inj h
    exact g_iret d_DS_suitOf_113 rfl
  rw [if_neg c12] at h
  refine g_tabOut (tgt := 114) d_DS_suitOf_16 (by have nc4 := lv_neT (a := 0) c4 rfl; have nc6 := lv_neT (a := 1) c6 rfl; have nc8 := lv_neT (a := 2) c8 rfl; have nc10 := lv_neT (a := 3) c10 rfl; have nc12 := lv_neT (a := 4) c12 rfl; omega) (by decide) ?_
  refine g_aload_n d_DS_suitOf_114 rfl 0 rfl ?_
  refine g_getR d_DS_suitOf_115 fl_DS_10 (gXw_h0 hX) rfl ?_
  refine g_getRN d_DS_suitOf_118 fl_DS_123 (gEv_h0 (hX.1 0 (by decide))) rfl ?_
  refine g_iload_n d_DS_suitOf_121 rfl 1 rfl ?_
  refine g_iload_n d_DS_suitOf_122 rfl 2 rfl ?_
  obtain ⟨q14, hq14, h⟩ := gOb h
  refine g_callV_i (As := [.int a0, .int a1]) (rest := []) (ct_Drops_showedNone 0 (gEv_dr (hX.1 0 (by decide))) M a0 a1 _ hq14) d_DS_suitOf_123 ca_Drops_showedNone w_665 (gEv_h2 (hX.1 0 (by decide))) rfl rfl rfl (Nat.le_of_ble_eq_true rfl) ⟨(by rw [gRT_f]; exact Nat.le_of_ble_eq_true rfl), (by rw [gRT_l]; exact Nat.le_of_ble_eq_true rfl)⟩ ?_
  refine g_if_eq (tgt := 133) d_DS_suitOf_126 (by decide) (fun c15 => ?_) (fun c15 => ?_)
  · rw [if_pos c15] at h
    refine g_iconst (v := 0) d_DS_suitOf_133 (by decide) ?_
    obtain rfl := Option.some.inj h
    exact g_iret d_DS_suitOf_134 rfl
  · rw [if_neg c15] at h
    refine g_iconst (v := 1) d_DS_suitOf_129 (by decide) ?_
    refine g_goto (tgt := 134) d_DS_suitOf_130 (by decide) ?_
    obtain rfl := Option.some.inj h
    exact g_iret d_DS_suitOf_134 rfl
theorem ctn_DS_suitOf {l : Launch} {ε : gEnv} (hX : gXw ε) (M : gMem) (a0 : Int32) (a1 : Int32) (a2 : Int32) (r : Int32) (h : f_DS_suitOf M a0 a1 a2 = some (.inr r)) : gCt l ε k_DS_suitOf 9 141 [.ref (ε.2.2.1 18 0), .int a0, .int a1, .int a2] M (some (.int r)) M :=
  gCt_of (by decide) (Nat.le_of_ble_eq_true rfl) rfl (t_DS_suitOf hX M a0 a1 a2 (.inr r) h)
theorem ctx_DS_suitOf {l : Launch} {ε : gEnv} (hl0 : l.stackTraces = false) (hX : gXw ε) (M : gMem) (a0 : Int32) (a1 : Int32) (a2 : Int32) (x : Nat) (h : f_DS_suitOf M a0 a1 a2 = some (.inl x)) : gCtX l ε k_DS_suitOf 9 141 [.ref (ε.2.2.1 18 0), .int a0, .int a1, .int a2] M (gXn x) M :=
  gCtX_of hl0 (by decide) (Nat.le_of_ble_eq_true rfl) rfl (t_DS_suitOf hX M a0 a1 a2 (.inl x) h)
abbrev k_DS_trick : gMD := (⟨"DropSignals", "trick", "(I)I"⟩, prog_1_method_9_code, 2, (some .int))
theorem w_673 : Cond.instanceMethod ⟨"DropSignals", "trick", "(I)I"⟩ ∈ gWs := gWs_in (i := 673) (by decide +kernel) rfl
theorem w_674 : Cond.selects "DropSignals" ⟨"DropSignals", "trick", "(I)I"⟩ ⟨"DropSignals", "trick", "(I)I"⟩ ∈ gWs := gWs_in (i := 674) (by decide +kernel) rfl
set_option maxRecDepth 100000 in
theorem ca_DS_trick : gCaV k_DS_trick 1 := ⟨⟨gWs_in (i := 675) rfl rfl, w_20, by decide, by decide, by decide +kernel⟩, w_673, w_674⟩
theorem d_DS_trick_0 : decode prog_1_method_9_code 0 = .ok (.iload_n 1, 1) := by decide +kernel
theorem d_DS_trick_1 : decode prog_1_method_9_code 1 = .ok (.iconst 4, 1) := by decide +kernel
theorem d_DS_trick_2 : decode prog_1_method_9_code 2 = .ok (.invokestatic 98, 3) := by decide +kernel
theorem d_DS_trick_5 : decode prog_1_method_9_code 5 = .ok (.aload_n 0, 1) := by decide +kernel
theorem d_DS_trick_6 : decode prog_1_method_9_code 6 = .ok (.getfield 10, 3) := by decide +kernel
theorem d_DS_trick_9 : decode prog_1_method_9_code 9 = .ok (.getfield 101, 3) := by decide +kernel
theorem d_DS_trick_12 : decode prog_1_method_9_code 12 = .ok (.iload_n 1, 1) := by decide +kernel
theorem d_DS_trick_13 : decode prog_1_method_9_code 13 = .ok (.invokevirtual 142, 3) := by decide +kernel
theorem d_DS_trick_16 : decode prog_1_method_9_code 16 = .ok (.ireturn, 1) := by decide +kernel
theorem w_676 : Cond.methodLink "DropSignals" 142 ⟨"DropSignals$Cards", "inTrick", "(I)I"⟩ ∈ gWs := gWs_in (i := 676) (by decide +kernel) rfl
noncomputable def f_DS_trick (M : gMem) (a0 : Int32) : Option (Nat ⊕ Int32) :=
  gSq (f_DS_checkPlace a0 4) fun q1 =>
  (f_Cards_inTrick 0 M a0).bind fun q2 =>
  some (.inr q2)
theorem t_DS_trick {l : Launch} {ε : gEnv} (hX : gXw ε) (M : gMem) (a0 : Int32) (r : (Nat ⊕ Int32)) (h : f_DS_trick M a0 = some r) : gGo l ε k_DS_trick (gRT 9 141 r) (gFT ε M (α := Int32) (fun r => gFn ε (some (.int r)) M) r) 0 [(0, .ref (ε.2.2.1 18 0)), (1, .int a0)] [] M := by
  unfold f_DS_trick at h
  refine g_iload_n d_DS_trick_0 rfl 1 rfl ?_
  refine g_iconst (v := 4) d_DS_trick_1 (by decide) ?_
  rcases gSq_o h with ⟨x9, hq1, rfl⟩ | ⟨q1, hq1, h⟩
  · exact g_callXS (As := [.int a0, .int 4]) (rest := []) (fun hl0 => ctx_DS_checkPlace hl0 M a0 4 _ hq1) d_DS_trick_2 ca_DS_checkPlace w_620 rfl rfl (Nat.le_of_ble_eq_true rfl) ⟨Nat.le_of_ble_eq_true rfl, Nat.le_of_ble_eq_true rfl⟩ (Nat.le_refl _) (Nat.le_refl _)
  refine g_callS_v (As := [.int a0, .int 4]) (rest := []) (ctn_DS_checkPlace M a0 4 _ hq1) d_DS_trick_2 ca_DS_checkPlace w_620 rfl rfl (Nat.le_of_ble_eq_true rfl) ⟨(by rw [gRT_f]; exact Nat.le_of_ble_eq_true rfl), (by rw [gRT_l]; exact Nat.le_of_ble_eq_true rfl)⟩ ?_
  refine g_aload_n d_DS_trick_5 rfl 0 rfl ?_
  refine g_getR d_DS_trick_6 fl_DS_10 (gXw_h0 hX) rfl ?_
  refine g_getRN d_DS_trick_9 fl_DS_101 (gEv_h0 (hX.1 0 (by decide))) rfl ?_
  refine g_iload_n d_DS_trick_12 rfl 1 rfl ?_
  obtain ⟨q2, hq2, h⟩ := gOb h
  refine g_callV_i (As := [.int a0]) (rest := []) (ct_Cards_inTrick 0 (gEv_cd (hX.1 0 (by decide))) M a0 _ hq2) d_DS_trick_13 ca_Cards_inTrick w_676 (gEv_h1 (hX.1 0 (by decide))) rfl rfl rfl (Nat.le_of_ble_eq_true rfl) ⟨(by rw [gRT_f]; exact Nat.le_of_ble_eq_true rfl), (by rw [gRT_l]; exact Nat.le_of_ble_eq_true rfl)⟩ ?_
  obtain rfl := Option.some.inj h
  exact g_iret d_DS_trick_16 rfl
theorem ctn_DS_trick {l : Launch} {ε : gEnv} (hX : gXw ε) (M : gMem) (a0 : Int32) (r : Int32) (h : f_DS_trick M a0 = some (.inr r)) : gCt l ε k_DS_trick 9 141 [.ref (ε.2.2.1 18 0), .int a0] M (some (.int r)) M :=
  gCt_of (by decide) (Nat.le_of_ble_eq_true rfl) rfl (t_DS_trick hX M a0 (.inr r) h)
theorem ctx_DS_trick {l : Launch} {ε : gEnv} (hl0 : l.stackTraces = false) (hX : gXw ε) (M : gMem) (a0 : Int32) (x : Nat) (h : f_DS_trick M a0 = some (.inl x)) : gCtX l ε k_DS_trick 9 141 [.ref (ε.2.2.1 18 0), .int a0] M (gXn x) M :=
  gCtX_of hl0 (by decide) (Nat.le_of_ble_eq_true rfl) rfl (t_DS_trick hX M a0 (.inl x) h)
abbrev k_DS_bid : gMD := (⟨"DropSignals", "bid", "(II)I"⟩, prog_1_method_11_code, 3, (some .int))
theorem w_685 : Cond.instanceMethod ⟨"DropSignals", "bid", "(II)I"⟩ ∈ gWs := gWs_in (i := 685) (by decide +kernel) rfl
theorem w_686 : Cond.selects "DropSignals" ⟨"DropSignals", "bid", "(II)I"⟩ ⟨"DropSignals", "bid", "(II)I"⟩ ∈ gWs := gWs_in (i := 686) (by decide +kernel) rfl
set_option maxRecDepth 100000 in
theorem ca_DS_bid : gCaV k_DS_bid 2 := ⟨⟨gWs_in (i := 687) rfl rfl, w_20, by decide, by decide, by decide +kernel⟩, w_685, w_686⟩
theorem d_DS_bid_0 : decode prog_1_method_11_code 0 = .ok (.iload_n 1, 1) := by decide +kernel
theorem d_DS_bid_1 : decode prog_1_method_11_code 1 = .ok (.iload_n 2, 1) := by decide +kernel
theorem d_DS_bid_2 : decode prog_1_method_11_code 2 = .ok (.invokestatic 157, 3) := by decide +kernel
theorem d_DS_bid_5 : decode prog_1_method_11_code 5 = .ok (.ifCond .ne 13, 3) := by decide +kernel
theorem d_DS_bid_8 : decode prog_1_method_11_code 8 = .ok (.new 47, 3) := by decide +kernel
theorem d_DS_bid_18 : decode prog_1_method_11_code 18 = .ok (.aload_n 0, 1) := by decide +kernel
theorem d_DS_bid_19 : decode prog_1_method_11_code 19 = .ok (.getfield 10, 3) := by decide +kernel
theorem d_DS_bid_22 : decode prog_1_method_11_code 22 = .ok (.iload_n 1, 1) := by decide +kernel
theorem d_DS_bid_23 : decode prog_1_method_11_code 23 = .ok (.iload_n 2, 1) := by decide +kernel
theorem d_DS_bid_24 : decode prog_1_method_11_code 24 = .ok (.invokevirtual 162, 3) := by decide +kernel
theorem d_DS_bid_27 : decode prog_1_method_11_code 27 = .ok (.ifCond .ne 13, 3) := by decide +kernel
theorem d_DS_bid_30 : decode prog_1_method_11_code 30 = .ok (.new 58, 3) := by decide +kernel
theorem d_DS_bid_40 : decode prog_1_method_11_code 40 = .ok (.aload_n 0, 1) := by decide +kernel
theorem d_DS_bid_41 : decode prog_1_method_11_code 41 = .ok (.getfield 22, 3) := by decide +kernel
theorem d_DS_bid_44 : decode prog_1_method_11_code 44 = .ok (.aload_n 0, 1) := by decide +kernel
theorem d_DS_bid_45 : decode prog_1_method_11_code 45 = .ok (.getfield 10, 3) := by decide +kernel
theorem d_DS_bid_48 : decode prog_1_method_11_code 48 = .ok (.invokevirtual 145, 3) := by decide +kernel
theorem d_DS_bid_51 : decode prog_1_method_11_code 51 = .ok (.aload_n 0, 1) := by decide +kernel
theorem d_DS_bid_52 : decode prog_1_method_11_code 52 = .ok (.getfield 10, 3) := by decide +kernel
theorem d_DS_bid_55 : decode prog_1_method_11_code 55 = .ok (.iload_n 1, 1) := by decide +kernel
theorem d_DS_bid_56 : decode prog_1_method_11_code 56 = .ok (.iload_n 2, 1) := by decide +kernel
theorem d_DS_bid_57 : decode prog_1_method_11_code 57 = .ok (.invokevirtual 167, 3) := by decide +kernel
theorem d_DS_bid_60 : decode prog_1_method_11_code 60 = .ok (.aload_n 0, 1) := by decide +kernel
theorem d_DS_bid_61 : decode prog_1_method_11_code 61 = .ok (.getfield 10, 3) := by decide +kernel
theorem d_DS_bid_64 : decode prog_1_method_11_code 64 = .ok (.getfield 170, 3) := by decide +kernel
theorem d_DS_bid_67 : decode prog_1_method_11_code 67 = .ok (.ireturn, 1) := by decide +kernel
theorem w_688 : Cond.methodLink "DropSignals" 157 ⟨"DropSignals", "isBid", "(II)Z"⟩ ∈ gWs := gWs_in (i := 688) (by decide +kernel) rfl
theorem w_690 : Cond.methodLink "DropSignals" 162 ⟨"DropSignals$Evening", "mayBid", "(II)Z"⟩ ∈ gWs := gWs_in (i := 690) (by decide +kernel) rfl
theorem w_724 : Cond.methodLink "DropSignals" 167 ⟨"DropSignals$Evening", "makeBid", "(II)V"⟩ ∈ gWs := gWs_in (i := 724) (by decide +kernel) rfl
theorem fl_DS_170 : gFlN "DropSignals" 170 2 6 := ⟨gN2, gF2, 14, 134, "DropSignals", rfl, uw_2, by decide, by decide +kernel⟩
theorem d_DS_bid_33 : decode prog_1_method_11_code 33 = .ok (.dup, 1) := by decide +kernel
theorem d_DS_bid_34 : decode prog_1_method_11_code 34 = .ok (.ldc 165, 2) := by decide +kernel
theorem d_DS_bid_36 : decode prog_1_method_11_code 36 = .ok (.invokespecial 62, 3) := by decide +kernel
theorem d_DS_bid_39 : decode prog_1_method_11_code 39 = .ok (.athrow, 1) := by decide +kernel
theorem ws_165 : Cond.stringRef "DropSignals" 165 "no bidding, or the bid is too low" ∈ lw_tbl := List.mem_of_getElem? (i := 691) (by decide +kernel)
theorem d_DS_bid_11 : decode prog_1_method_11_code 11 = .ok (.dup, 1) := by decide +kernel
theorem d_DS_bid_12 : decode prog_1_method_11_code 12 = .ok (.ldc 160, 2) := by decide +kernel
theorem d_DS_bid_14 : decode prog_1_method_11_code 14 = .ok (.invokespecial 51, 3) := by decide +kernel
theorem d_DS_bid_17 : decode prog_1_method_11_code 17 = .ok (.athrow, 1) := by decide +kernel
theorem ws_160 : Cond.stringRef "DropSignals" 160 "no such bid" ∈ lw_tbl := List.mem_of_getElem? (i := 689) (by decide +kernel)
noncomputable def f_DS_bid (M : gMem) (a0 : Int32) (a1 : Int32) : Option (Nat ⊕ (Int32 × gMem)) :=
  (f_DS_isBid a0 a1).bind fun q1 =>
  if q1 = 0 then
    some (.inl 1)
  else
    (f_Ev_mayBid 0 M a0 a1).bind fun q2 =>
    if q2 = 0 then
      some (.inl 2)
    else
      (f_Mem_remember 0 M).bind fun q3 =>
      (f_Ev_makeBid 0 q3 a0 a1).bind fun q4 =>
      some (.inr ((q4 0 0 6), q4))
theorem t_DS_bid {l : Launch} {ε : gEnv} (hX : gXw ε) (M : gMem) (a0 : Int32) (a1 : Int32) (r : (Nat ⊕ (Int32 × gMem))) (h : f_DS_bid M a0 a1 = some r) : gGo l ε k_DS_bid (gRT 8 136 r) (gFT ε M (α := (Int32 × gMem)) (fun r => gFn ε (some (.int r.1)) r.2) r) 0 [(0, .ref (ε.2.2.1 18 0)), (1, .int a0), (2, .int a1)] [] M := by
  unfold f_DS_bid at h
  refine g_iload_n d_DS_bid_0 rfl 1 rfl ?_
  refine g_iload_n d_DS_bid_1 rfl 2 rfl ?_
  obtain ⟨q1, hq1, h⟩ := gOb h
  refine g_callS_i (As := [.int a0, .int a1]) (rest := []) (ct_DS_isBid M a0 a1 _ hq1) d_DS_bid_2 ca_DS_isBid w_688 rfl rfl (Nat.le_of_ble_eq_true rfl) ⟨(by rw [gRT_f]; exact Nat.le_of_ble_eq_true rfl), (by rw [gRT_l]; exact Nat.le_of_ble_eq_true rfl)⟩ ?_
  refine g_if_ne (tgt := 18) d_DS_bid_5 (by decide) (fun c6 => ?_) (fun c6 => ?_)
  · rw [if_neg c6] at h
    refine g_aload_n d_DS_bid_18 rfl 0 rfl ?_
    refine g_getR d_DS_bid_19 fl_DS_10 (gXw_h0 hX) rfl ?_
    refine g_iload_n d_DS_bid_22 rfl 1 rfl ?_
    refine g_iload_n d_DS_bid_23 rfl 2 rfl ?_
    obtain ⟨q2, hq2, h⟩ := gOb h
    refine g_callV_i (As := [.int a0, .int a1]) (rest := []) (ct_Ev_mayBid 0 (hX.1 0 (by decide)) M a0 a1 _ hq2) d_DS_bid_24 ca_Ev_mayBid w_690 (gEv_h0 (hX.1 0 (by decide))) rfl rfl rfl (Nat.le_of_ble_eq_true rfl) ⟨(by rw [gRT_f]; exact Nat.le_of_ble_eq_true rfl), (by rw [gRT_l]; exact Nat.le_of_ble_eq_true rfl)⟩ ?_
    refine g_if_ne (tgt := 40) d_DS_bid_27 (by decide) (fun c5 => ?_) (fun c5 => ?_)
    · rw [if_neg c5] at h
      refine g_aload_n d_DS_bid_40 rfl 0 rfl ?_
      refine g_getR d_DS_bid_41 fl_DS_22 (gXw_h0 hX) rfl ?_
      refine g_aload_n d_DS_bid_44 rfl 0 rfl ?_
      refine g_getR d_DS_bid_45 fl_DS_10 (gXw_h0 hX) rfl ?_
      obtain ⟨q3, hq3, h⟩ := gOb h
      refine g_callV_v (As := [.ref (ε.2.2.1 0 0)]) (rest := []) (ct_Mem_remember hX 0 (hX.1 0 (by decide)) M _ hq3) d_DS_bid_48 ca_Mem_remember w_692 (gXw_h1 hX) rfl rfl rfl (Nat.le_of_ble_eq_true rfl) ⟨(by rw [gRT_f]; exact Nat.le_of_ble_eq_true rfl), (by rw [gRT_l]; exact Nat.le_of_ble_eq_true rfl)⟩ ?_
      refine g_aload_n d_DS_bid_51 rfl 0 rfl ?_
      refine g_getR d_DS_bid_52 fl_DS_10 (gXw_h0 hX) rfl ?_
      refine g_iload_n d_DS_bid_55 rfl 1 rfl ?_
      refine g_iload_n d_DS_bid_56 rfl 2 rfl ?_
      obtain ⟨q4, hq4, h⟩ := gOb h
      refine g_callV_v (As := [.int a0, .int a1]) (rest := []) (ct_Ev_makeBid 0 (hX.1 0 (by decide)) q3 a0 a1 _ hq4) d_DS_bid_57 ca_Ev_makeBid w_724 (gEv_h0 (hX.1 0 (by decide))) rfl rfl rfl (Nat.le_of_ble_eq_true rfl) ⟨(by rw [gRT_f]; exact Nat.le_of_ble_eq_true rfl), (by rw [gRT_l]; exact Nat.le_of_ble_eq_true rfl)⟩ ?_
      refine g_aload_n d_DS_bid_60 rfl 0 rfl ?_
      refine g_getR d_DS_bid_61 fl_DS_10 (gXw_h0 hX) rfl ?_
      refine g_getIN d_DS_bid_64 fl_DS_170 (gEv_h0 (hX.1 0 (by decide))) rfl ?_
      obtain rfl := Option.some.inj h
      exact g_iret d_DS_bid_67 rfl
    · rw [if_pos c5] at h
      obtain rfl := Option.some.inj h
      exact g_throw rfl d_DS_bid_30 d_DS_bid_33 d_DS_bid_34 d_DS_bid_36 d_DS_bid_39 w_365 w_33 ws_165 xa_2_62 xg_2_62_58 (by decide) (Nat.le_of_ble_eq_true rfl) (Nat.le_of_ble_eq_true rfl) (Nat.le_refl _) (Nat.le_refl _)
  · rw [if_pos c6] at h
    obtain rfl := Option.some.inj h
    exact g_throw rfl d_DS_bid_8 d_DS_bid_11 d_DS_bid_12 d_DS_bid_14 d_DS_bid_17 w_293 w_32 ws_160 xa_1_51 xg_1_51_47 (by decide) (Nat.le_of_ble_eq_true rfl) (Nat.le_of_ble_eq_true rfl) (Nat.le_refl _) (Nat.le_refl _)
theorem ctn_DS_bid {l : Launch} {ε : gEnv} (hX : gXw ε) (M : gMem) (a0 : Int32) (a1 : Int32) (r : (Int32 × gMem)) (h : f_DS_bid M a0 a1 = some (.inr r)) : gCt l ε k_DS_bid 8 136 [.ref (ε.2.2.1 18 0), .int a0, .int a1] M (some (.int r.1)) r.2 :=
  gCt_of (by decide) (Nat.le_of_ble_eq_true rfl) rfl (t_DS_bid hX M a0 a1 (.inr r) h)
theorem ctx_DS_bid {l : Launch} {ε : gEnv} (hl0 : l.stackTraces = false) (hX : gXw ε) (M : gMem) (a0 : Int32) (a1 : Int32) (x : Nat) (h : f_DS_bid M a0 a1 = some (.inl x)) : gCtX l ε k_DS_bid 8 136 [.ref (ε.2.2.1 18 0), .int a0, .int a1] M (gXn x) M :=
  gCtX_of hl0 (by decide) (Nat.le_of_ble_eq_true rfl) rfl (t_DS_bid hX M a0 a1 (.inl x) h)
abbrev k_DS_pass : gMD := (⟨"DropSignals", "pass", "()I"⟩, prog_1_method_12_code, 1, (some .int))
theorem w_729 : Cond.instanceMethod ⟨"DropSignals", "pass", "()I"⟩ ∈ gWs := gWs_in (i := 729) (by decide +kernel) rfl
theorem w_730 : Cond.selects "DropSignals" ⟨"DropSignals", "pass", "()I"⟩ ⟨"DropSignals", "pass", "()I"⟩ ∈ gWs := gWs_in (i := 730) (by decide +kernel) rfl
set_option maxRecDepth 100000 in
theorem ca_DS_pass : gCaV k_DS_pass 0 := ⟨⟨gWs_in (i := 731) rfl rfl, w_20, by decide, by decide, by decide +kernel⟩, w_729, w_730⟩
theorem d_DS_pass_0 : decode prog_1_method_12_code 0 = .ok (.aload_n 0, 1) := by decide +kernel
theorem d_DS_pass_1 : decode prog_1_method_12_code 1 = .ok (.getfield 10, 3) := by decide +kernel
theorem d_DS_pass_4 : decode prog_1_method_12_code 4 = .ok (.getfield 173, 3) := by decide +kernel
theorem d_DS_pass_7 : decode prog_1_method_12_code 7 = .ok (.iconst 1, 1) := by decide +kernel
theorem d_DS_pass_8 : decode prog_1_method_12_code 8 = .ok (.if_icmp .eq 13, 3) := by decide +kernel
theorem d_DS_pass_11 : decode prog_1_method_12_code 11 = .ok (.new 58, 3) := by decide +kernel
theorem d_DS_pass_21 : decode prog_1_method_12_code 21 = .ok (.aload_n 0, 1) := by decide +kernel
theorem d_DS_pass_22 : decode prog_1_method_12_code 22 = .ok (.getfield 22, 3) := by decide +kernel
theorem d_DS_pass_25 : decode prog_1_method_12_code 25 = .ok (.aload_n 0, 1) := by decide +kernel
theorem d_DS_pass_26 : decode prog_1_method_12_code 26 = .ok (.getfield 10, 3) := by decide +kernel
theorem d_DS_pass_29 : decode prog_1_method_12_code 29 = .ok (.invokevirtual 145, 3) := by decide +kernel
theorem d_DS_pass_32 : decode prog_1_method_12_code 32 = .ok (.aload_n 0, 1) := by decide +kernel
theorem d_DS_pass_33 : decode prog_1_method_12_code 33 = .ok (.getfield 10, 3) := by decide +kernel
theorem d_DS_pass_36 : decode prog_1_method_12_code 36 = .ok (.invokevirtual 178, 3) := by decide +kernel
theorem d_DS_pass_39 : decode prog_1_method_12_code 39 = .ok (.aload_n 0, 1) := by decide +kernel
theorem d_DS_pass_40 : decode prog_1_method_12_code 40 = .ok (.getfield 10, 3) := by decide +kernel
theorem d_DS_pass_43 : decode prog_1_method_12_code 43 = .ok (.getfield 173, 3) := by decide +kernel
theorem d_DS_pass_46 : decode prog_1_method_12_code 46 = .ok (.ireturn, 1) := by decide +kernel
theorem fl_DS_173 : gFlN "DropSignals" 173 2 5 := ⟨gN2, gF2, 14, 130, "DropSignals", rfl, uw_2, by decide, by decide +kernel⟩
theorem w_733 : Cond.methodLink "DropSignals" 178 ⟨"DropSignals$Evening", "makePass", "()V"⟩ ∈ gWs := gWs_in (i := 733) (by decide +kernel) rfl
theorem d_DS_pass_14 : decode prog_1_method_12_code 14 = .ok (.dup, 1) := by decide +kernel
theorem d_DS_pass_15 : decode prog_1_method_12_code 15 = .ok (.ldc 176, 2) := by decide +kernel
theorem d_DS_pass_17 : decode prog_1_method_12_code 17 = .ok (.invokespecial 62, 3) := by decide +kernel
theorem d_DS_pass_20 : decode prog_1_method_12_code 20 = .ok (.athrow, 1) := by decide +kernel
theorem ws_176 : Cond.stringRef "DropSignals" 176 "no bidding" ∈ lw_tbl := List.mem_of_getElem? (i := 732) (by decide +kernel)
noncomputable def f_DS_pass (M : gMem) : Option (Nat ⊕ (Int32 × gMem)) :=
  if (M 0 0 5) = 1 then
    (f_Mem_remember 0 M).bind fun q1 =>
    (f_Ev_makePass 0 q1).bind fun q2 =>
    some (.inr ((q2 0 0 5), q2))
  else
    some (.inl 2)
theorem t_DS_pass {l : Launch} {ε : gEnv} (hX : gXw ε) (M : gMem) (r : (Nat ⊕ (Int32 × gMem))) (h : f_DS_pass M = some r) : gGo l ε k_DS_pass (gRT 8 136 r) (gFT ε M (α := (Int32 × gMem)) (fun r => gFn ε (some (.int r.1)) r.2) r) 0 [(0, .ref (ε.2.2.1 18 0))] [] M := by
  unfold f_DS_pass at h
  refine g_aload_n d_DS_pass_0 rfl 0 rfl ?_
  refine g_getR d_DS_pass_1 fl_DS_10 (gXw_h0 hX) rfl ?_
  refine g_getIN d_DS_pass_4 fl_DS_173 (gEv_h0 (hX.1 0 (by decide))) rfl ?_
  refine g_iconst (v := 1) d_DS_pass_7 (by decide) ?_
  refine g_icmp_eq (tgt := 21) d_DS_pass_8 (by decide) (fun c3 => ?_) (fun c3 => ?_)
  · rw [if_pos c3] at h
    refine g_aload_n d_DS_pass_21 rfl 0 rfl ?_
    refine g_getR d_DS_pass_22 fl_DS_22 (gXw_h0 hX) rfl ?_
    refine g_aload_n d_DS_pass_25 rfl 0 rfl ?_
    refine g_getR d_DS_pass_26 fl_DS_10 (gXw_h0 hX) rfl ?_
    obtain ⟨q1, hq1, h⟩ := gOb h
    refine g_callV_v (As := [.ref (ε.2.2.1 0 0)]) (rest := []) (ct_Mem_remember hX 0 (hX.1 0 (by decide)) M _ hq1) d_DS_pass_29 ca_Mem_remember w_692 (gXw_h1 hX) rfl rfl rfl (Nat.le_of_ble_eq_true rfl) ⟨(by rw [gRT_f]; exact Nat.le_of_ble_eq_true rfl), (by rw [gRT_l]; exact Nat.le_of_ble_eq_true rfl)⟩ ?_
    refine g_aload_n d_DS_pass_32 rfl 0 rfl ?_
    refine g_getR d_DS_pass_33 fl_DS_10 (gXw_h0 hX) rfl ?_
    obtain ⟨q2, hq2, h⟩ := gOb h
    refine g_callV_v (As := []) (rest := []) (ct_Ev_makePass 0 (hX.1 0 (by decide)) q1 _ hq2) d_DS_pass_36 ca_Ev_makePass w_733 (gEv_h0 (hX.1 0 (by decide))) rfl rfl rfl (Nat.le_of_ble_eq_true rfl) ⟨(by rw [gRT_f]; exact Nat.le_of_ble_eq_true rfl), (by rw [gRT_l]; exact Nat.le_of_ble_eq_true rfl)⟩ ?_
    refine g_aload_n d_DS_pass_39 rfl 0 rfl ?_
    refine g_getR d_DS_pass_40 fl_DS_10 (gXw_h0 hX) rfl ?_
    refine g_getIN d_DS_pass_43 fl_DS_173 (gEv_h0 (hX.1 0 (by decide))) rfl ?_
    obtain rfl := Option.some.inj h
    exact g_iret d_DS_pass_46 rfl
  · rw [if_neg c3] at h
    obtain rfl := Option.some.inj h
    exact g_throw rfl d_DS_pass_11 d_DS_pass_14 d_DS_pass_15 d_DS_pass_17 d_DS_pass_20 w_365 w_33 ws_176 xa_2_62 xg_2_62_58 (by decide) (Nat.le_of_ble_eq_true rfl) (Nat.le_of_ble_eq_true rfl) (Nat.le_refl _) (Nat.le_refl _)
theorem ctn_DS_pass {l : Launch} {ε : gEnv} (hX : gXw ε) (M : gMem) (r : (Int32 × gMem)) (h : f_DS_pass M = some (.inr r)) : gCt l ε k_DS_pass 8 136 [.ref (ε.2.2.1 18 0)] M (some (.int r.1)) r.2 :=
  gCt_of (by decide) (Nat.le_of_ble_eq_true rfl) rfl (t_DS_pass hX M (.inr r) h)
theorem ctx_DS_pass {l : Launch} {ε : gEnv} (hl0 : l.stackTraces = false) (hX : gXw ε) (M : gMem) (x : Nat) (h : f_DS_pass M = some (.inl x)) : gCtX l ε k_DS_pass 8 136 [.ref (ε.2.2.1 18 0)] M (gXn x) M :=
  gCtX_of hl0 (by decide) (Nat.le_of_ble_eq_true rfl) rfl (t_DS_pass hX M (.inl x) h)
abbrev k_DS_checkInPlay : gMD := (⟨"DropSignals", "checkInPlay", "()V"⟩, prog_1_method_26_code, 1, none)
theorem w_743 : Cond.instanceMethod ⟨"DropSignals", "checkInPlay", "()V"⟩ ∈ gWs := gWs_in (i := 743) (by decide +kernel) rfl
theorem w_13 : Cond.selects "DropSignals" ⟨"DropSignals", "checkInPlay", "()V"⟩ ⟨"DropSignals", "checkInPlay", "()V"⟩ ∈ gWs := gWs_in (i := 13) (by decide +kernel) rfl
set_option maxRecDepth 100000 in
theorem ca_DS_checkInPlay : gCaV k_DS_checkInPlay 0 := ⟨⟨gWs_in (i := 744) rfl rfl, w_20, by decide, by decide, by decide +kernel⟩, w_743, w_13⟩
theorem d_DS_checkInPlay_0 : decode prog_1_method_26_code 0 = .ok (.aload_n 0, 1) := by decide +kernel
theorem d_DS_checkInPlay_1 : decode prog_1_method_26_code 1 = .ok (.getfield 10, 3) := by decide +kernel
theorem d_DS_checkInPlay_4 : decode prog_1_method_26_code 4 = .ok (.getfield 173, 3) := by decide +kernel
theorem d_DS_checkInPlay_7 : decode prog_1_method_26_code 7 = .ok (.iconst 2, 1) := by decide +kernel
theorem d_DS_checkInPlay_8 : decode prog_1_method_26_code 8 = .ok (.if_icmp .eq 14, 3) := by decide +kernel
theorem d_DS_checkInPlay_11 : decode prog_1_method_26_code 11 = .ok (.new 58, 3) := by decide +kernel
theorem d_DS_checkInPlay_22 : decode prog_1_method_26_code 22 = .ok (.return_, 1) := by decide +kernel
theorem d_DS_checkInPlay_14 : decode prog_1_method_26_code 14 = .ok (.dup, 1) := by decide +kernel
theorem d_DS_checkInPlay_15 : decode prog_1_method_26_code 15 = .ok (.ldc_w 282, 3) := by decide +kernel
theorem d_DS_checkInPlay_18 : decode prog_1_method_26_code 18 = .ok (.invokespecial 62, 3) := by decide +kernel
theorem d_DS_checkInPlay_21 : decode prog_1_method_26_code 21 = .ok (.athrow, 1) := by decide +kernel
theorem ws_282 : Cond.stringRef "DropSignals" 282 "no play" ∈ lw_tbl := List.mem_of_getElem? (i := 745) (by decide +kernel)
noncomputable def f_DS_checkInPlay (M : gMem) : Option (Nat ⊕ Unit) :=
  if (M 0 0 5) = 2 then
    some (.inr ())
  else
    some (.inl 2)
theorem t_DS_checkInPlay {l : Launch} {ε : gEnv} (hX : gXw ε) (M : gMem) (r : (Nat ⊕ Unit)) (h : f_DS_checkInPlay M = some r) : gGo l ε k_DS_checkInPlay (gRT 8 120 r) (gFT ε M (α := Unit) (fun _ => gFn ε none M) r) 0 [(0, .ref (ε.2.2.1 18 0))] [] M := by
  unfold f_DS_checkInPlay at h
  refine g_aload_n d_DS_checkInPlay_0 rfl 0 rfl ?_
  refine g_getR d_DS_checkInPlay_1 fl_DS_10 (gXw_h0 hX) rfl ?_
  refine g_getIN d_DS_checkInPlay_4 fl_DS_173 (gEv_h0 (hX.1 0 (by decide))) rfl ?_
  refine g_iconst (v := 2) d_DS_checkInPlay_7 (by decide) ?_
  refine g_icmp_eq (tgt := 22) d_DS_checkInPlay_8 (by decide) (fun c1 => ?_) (fun c1 => ?_)
  · rw [if_pos c1] at h
    obtain rfl := Option.some.inj h
    exact g_vret d_DS_checkInPlay_22 rfl
  · rw [if_neg c1] at h
    obtain rfl := Option.some.inj h
    exact g_throwW rfl d_DS_checkInPlay_11 d_DS_checkInPlay_14 d_DS_checkInPlay_15 d_DS_checkInPlay_18 d_DS_checkInPlay_21 w_365 w_33 ws_282 xa_2_62 xg_2_62_58 (by decide) (Nat.le_of_ble_eq_true rfl) (Nat.le_of_ble_eq_true rfl) (Nat.le_refl _) (Nat.le_refl _)
theorem ctn_DS_checkInPlay {l : Launch} {ε : gEnv} (hX : gXw ε) (M : gMem) (r : Unit) (h : f_DS_checkInPlay M = some (.inr r)) : gCt l ε k_DS_checkInPlay 8 120 [.ref (ε.2.2.1 18 0)] M none M :=
  gCt_of (by decide) (Nat.le_of_ble_eq_true rfl) rfl (t_DS_checkInPlay hX M (.inr r) h)
theorem ctx_DS_checkInPlay {l : Launch} {ε : gEnv} (hl0 : l.stackTraces = false) (hX : gXw ε) (M : gMem) (x : Nat) (h : f_DS_checkInPlay M = some (.inl x)) : gCtX l ε k_DS_checkInPlay 8 120 [.ref (ε.2.2.1 18 0)] M (gXn x) M :=
  gCtX_of hl0 (by decide) (Nat.le_of_ble_eq_true rfl) rfl (t_DS_checkInPlay hX M (.inl x) h)
abbrev k_DS_play : gMD := (⟨"DropSignals", "play", "(I)I"⟩, prog_1_method_13_code, 3, (some .int))
theorem w_738 : Cond.instanceMethod ⟨"DropSignals", "play", "(I)I"⟩ ∈ gWs := gWs_in (i := 738) (by decide +kernel) rfl
theorem w_739 : Cond.selects "DropSignals" ⟨"DropSignals", "play", "(I)I"⟩ ⟨"DropSignals", "play", "(I)I"⟩ ∈ gWs := gWs_in (i := 739) (by decide +kernel) rfl
set_option maxRecDepth 100000 in
theorem ca_DS_play : gCaV k_DS_play 1 := ⟨⟨gWs_in (i := 740) rfl rfl, w_20, by decide, by decide, by decide +kernel⟩, w_738, w_739⟩
theorem d_DS_play_0 : decode prog_1_method_13_code 0 = .ok (.iload_n 1, 1) := by decide +kernel
theorem d_DS_play_1 : decode prog_1_method_13_code 1 = .ok (.bipush 32, 2) := by decide +kernel
theorem d_DS_play_3 : decode prog_1_method_13_code 3 = .ok (.invokestatic 98, 3) := by decide +kernel
theorem d_DS_play_6 : decode prog_1_method_13_code 6 = .ok (.aload_n 0, 1) := by decide +kernel
theorem d_DS_play_7 : decode prog_1_method_13_code 7 = .ok (.invokevirtual 181, 3) := by decide +kernel
theorem d_DS_play_10 : decode prog_1_method_13_code 10 = .ok (.aload_n 0, 1) := by decide +kernel
theorem d_DS_play_11 : decode prog_1_method_13_code 11 = .ok (.getfield 22, 3) := by decide +kernel
theorem d_DS_play_14 : decode prog_1_method_13_code 14 = .ok (.aload_n 0, 1) := by decide +kernel
theorem d_DS_play_15 : decode prog_1_method_13_code 15 = .ok (.getfield 10, 3) := by decide +kernel
theorem d_DS_play_18 : decode prog_1_method_13_code 18 = .ok (.invokevirtual 145, 3) := by decide +kernel
theorem d_DS_play_21 : decode prog_1_method_13_code 21 = .ok (.aload_n 0, 1) := by decide +kernel
theorem d_DS_play_22 : decode prog_1_method_13_code 22 = .ok (.getfield 10, 3) := by decide +kernel
theorem d_DS_play_25 : decode prog_1_method_13_code 25 = .ok (.iload_n 1, 1) := by decide +kernel
theorem d_DS_play_26 : decode prog_1_method_13_code 26 = .ok (.invokevirtual 184, 3) := by decide +kernel
theorem d_DS_play_29 : decode prog_1_method_13_code 29 = .ok (.istore_n 2, 1) := by decide +kernel
theorem d_DS_play_30 : decode prog_1_method_13_code 30 = .ok (.iload_n 2, 1) := by decide +kernel
theorem d_DS_play_31 : decode prog_1_method_13_code 31 = .ok (.ifCond .ne 14, 3) := by decide +kernel
theorem d_DS_play_34 : decode prog_1_method_13_code 34 = .ok (.aload_n 0, 1) := by decide +kernel
theorem d_DS_play_35 : decode prog_1_method_13_code 35 = .ok (.getfield 10, 3) := by decide +kernel
theorem d_DS_play_38 : decode prog_1_method_13_code 38 = .ok (.iload_n 1, 1) := by decide +kernel
theorem d_DS_play_39 : decode prog_1_method_13_code 39 = .ok (.invokevirtual 187, 3) := by decide +kernel
theorem d_DS_play_42 : decode prog_1_method_13_code 42 = .ok (.goto 16, 3) := by decide +kernel
theorem d_DS_play_45 : decode prog_1_method_13_code 45 = .ok (.aload_n 0, 1) := by decide +kernel
theorem d_DS_play_46 : decode prog_1_method_13_code 46 = .ok (.getfield 10, 3) := by decide +kernel
theorem d_DS_play_49 : decode prog_1_method_13_code 49 = .ok (.dup, 1) := by decide +kernel
theorem d_DS_play_50 : decode prog_1_method_13_code 50 = .ok (.getfield 191, 3) := by decide +kernel
theorem d_DS_play_53 : decode prog_1_method_13_code 53 = .ok (.iconst 1, 1) := by decide +kernel
theorem d_DS_play_54 : decode prog_1_method_13_code 54 = .ok (.iadd, 1) := by decide +kernel
theorem d_DS_play_55 : decode prog_1_method_13_code 55 = .ok (.putfield 191, 3) := by decide +kernel
theorem d_DS_play_58 : decode prog_1_method_13_code 58 = .ok (.iload_n 2, 1) := by decide +kernel
theorem d_DS_play_59 : decode prog_1_method_13_code 59 = .ok (.ireturn, 1) := by decide +kernel
theorem w_741 : Cond.methodLink "DropSignals" 181 ⟨"DropSignals", "checkInPlay", "()V"⟩ ∈ gWs := gWs_in (i := 741) (by decide +kernel) rfl
theorem w_746 : Cond.methodLink "DropSignals" 184 ⟨"DropSignals$Evening", "reasonAgainst", "(I)I"⟩ ∈ gWs := gWs_in (i := 746) (by decide +kernel) rfl
theorem fl_DS_191 : gFlN "DropSignals" 191 2 13 := ⟨gN2, gF2, 14, 145, "DropSignals", rfl, uw_2, by decide, by decide +kernel⟩
theorem fp_DS_191 : gFpN "DropSignals" 191 2 13 .int := ⟨gN2, gF2, 14, 145, "DropSignals", rfl, uw_2, by decide, by decide +kernel, ⟨gX2, gY2⟩, gD2, rfl, by decide +kernel⟩
theorem w_747 : Cond.methodLink "DropSignals" 187 ⟨"DropSignals$Evening", "layDown", "(I)V"⟩ ∈ gWs := gWs_in (i := 747) (by decide +kernel) rfl
noncomputable def f_DS_play_b58 (M : gMem) (x2 : Int32) : Option (Nat ⊕ (Int32 × gMem)) :=
  some (.inr (x2, M))
theorem t_DS_play_b58 {l : Launch} {ε : gEnv} (hX : gXw ε) (M0 : gMem) (M : gMem) (x2 : Int32) (r : (Nat ⊕ (Int32 × gMem))) (h : f_DS_play_b58 M x2 = some r) : gGo l ε k_DS_play (gRT 9 141 r) (gFT ε M0 (α := (Int32 × gMem)) (fun r => gFn ε (some (.int r.1)) r.2) r) 58 [(2, .int x2)] [] M := by
  unfold f_DS_play_b58 at h
  refine g_iload_n d_DS_play_58 rfl 0 rfl ?_
  obtain rfl := Option.some.inj h
  exact g_iret d_DS_play_59 rfl
noncomputable def f_DS_play (M : gMem) (a0 : Int32) : Option (Nat ⊕ (Int32 × gMem)) :=
  gSq (f_DS_checkPlace a0 32) fun q1 =>
  gSq (f_DS_checkInPlay M) fun q2 =>
  (f_Mem_remember 0 M).bind fun q3 =>
  (f_Ev_reasonAgainst 0 q3 a0).bind fun q4 =>
  if q4 = 0 then
    (f_Ev_layDown 0 q3 a0).bind fun q6 =>
    f_DS_play_b58 q6 q4
  else
    (gSO q3 0 0 13 ((q3 0 0 13) + 1)).bind fun M5 =>
    f_DS_play_b58 M5 q4
theorem t_DS_play {l : Launch} {ε : gEnv} (hX : gXw ε) (M : gMem) (a0 : Int32) (r : (Nat ⊕ (Int32 × gMem))) (h : f_DS_play M a0 = some r) : gGo l ε k_DS_play (gRT 9 141 r) (gFT ε M (α := (Int32 × gMem)) (fun r => gFn ε (some (.int r.1)) r.2) r) 0 [(0, .ref (ε.2.2.1 18 0)), (1, .int a0)] [] M := by
  unfold f_DS_play at h
  refine g_iload_n d_DS_play_0 rfl 1 rfl ?_
  refine g_bipush (v := 32) d_DS_play_1 (by decide) ?_
  rcases gSq_o h with ⟨x9, hq1, rfl⟩ | ⟨q1, hq1, h⟩
  · exact g_callXS (As := [.int a0, .int 32]) (rest := []) (fun hl0 => ctx_DS_checkPlace hl0 M a0 32 _ hq1) d_DS_play_3 ca_DS_checkPlace w_620 rfl rfl (Nat.le_of_ble_eq_true rfl) ⟨Nat.le_of_ble_eq_true rfl, Nat.le_of_ble_eq_true rfl⟩ (Nat.le_refl _) (Nat.le_refl _)
  refine g_callS_v (As := [.int a0, .int 32]) (rest := []) (ctn_DS_checkPlace M a0 32 _ hq1) d_DS_play_3 ca_DS_checkPlace w_620 rfl rfl (Nat.le_of_ble_eq_true rfl) ⟨(by rw [gRT_f]; exact Nat.le_of_ble_eq_true rfl), (by rw [gRT_l]; exact Nat.le_of_ble_eq_true rfl)⟩ ?_
  refine g_aload_n d_DS_play_6 rfl 0 rfl ?_
  rcases gSq_o h with ⟨x9, hq2, rfl⟩ | ⟨q2, hq2, h⟩
  · exact g_callXV (As := []) (rest := []) (fun hl0 => ctx_DS_checkInPlay hl0 hX M _ hq2) d_DS_play_7 ca_DS_checkInPlay w_741 (gXw_h0 hX) rfl rfl rfl (Nat.le_of_ble_eq_true rfl) ⟨Nat.le_of_ble_eq_true rfl, Nat.le_of_ble_eq_true rfl⟩ (Nat.le_refl _) (Nat.le_refl _)
  refine g_callV_v (As := []) (rest := []) (ctn_DS_checkInPlay hX M _ hq2) d_DS_play_7 ca_DS_checkInPlay w_741 (gXw_h0 hX) rfl rfl rfl (Nat.le_of_ble_eq_true rfl) ⟨(by rw [gRT_f]; exact Nat.le_of_ble_eq_true rfl), (by rw [gRT_l]; exact Nat.le_of_ble_eq_true rfl)⟩ ?_
  refine g_aload_n d_DS_play_10 rfl 0 rfl ?_
  refine g_getR d_DS_play_11 fl_DS_22 (gXw_h0 hX) rfl ?_
  refine g_aload_n d_DS_play_14 rfl 0 rfl ?_
  refine g_getR d_DS_play_15 fl_DS_10 (gXw_h0 hX) rfl ?_
  obtain ⟨q3, hq3, h⟩ := gOb h
  refine g_callV_v (As := [.ref (ε.2.2.1 0 0)]) (rest := []) (ct_Mem_remember hX 0 (hX.1 0 (by decide)) M _ hq3) d_DS_play_18 ca_Mem_remember w_692 (gXw_h1 hX) rfl rfl rfl (Nat.le_of_ble_eq_true rfl) ⟨(by rw [gRT_f]; exact Nat.le_of_ble_eq_true rfl), (by rw [gRT_l]; exact Nat.le_of_ble_eq_true rfl)⟩ ?_
  refine g_aload_n d_DS_play_21 rfl 0 rfl ?_
  refine g_getR d_DS_play_22 fl_DS_10 (gXw_h0 hX) rfl ?_
  refine g_iload_n d_DS_play_25 rfl 1 rfl ?_
  obtain ⟨q4, hq4, h⟩ := gOb h
  refine g_callV_i (As := [.int a0]) (rest := []) (ct_Ev_reasonAgainst 0 (hX.1 0 (by decide)) q3 a0 _ hq4) d_DS_play_26 ca_Ev_reasonAgainst w_746 (gEv_h0 (hX.1 0 (by decide))) rfl rfl rfl (Nat.le_of_ble_eq_true rfl) ⟨(by rw [gRT_f]; exact Nat.le_of_ble_eq_true rfl), (by rw [gRT_l]; exact Nat.le_of_ble_eq_true rfl)⟩ ?_
  refine g_istore_n (L' := [(2, .int q4), (0, .ref (ε.2.2.1 18 0)), (1, .int a0)]) d_DS_play_29 rfl (by decide) rfl ?_
  refine g_iload_n d_DS_play_30 rfl 0 rfl ?_
  refine g_if_ne (tgt := 45) d_DS_play_31 (by decide) (fun c7 => ?_) (fun c7 => ?_)
  · rw [if_neg c7] at h
    refine g_aload_n d_DS_play_45 rfl 1 rfl ?_
    refine g_getR d_DS_play_46 fl_DS_10 (gXw_h0 hX) rfl ?_
    refine g_dup d_DS_play_49 rfl ?_
    refine g_getIN d_DS_play_50 fl_DS_191 (gEv_h0 (hX.1 0 (by decide))) rfl ?_
    refine g_iconst (v := 1) d_DS_play_53 (by decide) ?_
    refine g_iadd d_DS_play_54 ?_
    obtain ⟨M5, hM5, h⟩ := gOb h
    refine g_putON d_DS_play_55 fp_DS_191 (gEv_h0 (hX.1 0 (by decide))) rfl hM5 ?_
    refine gGo_sub [0] rfl ?_
    exact t_DS_play_b58 hX M M5 q4 _ h
  · rw [if_pos c7] at h
    refine g_aload_n d_DS_play_34 rfl 1 rfl ?_
    refine g_getR d_DS_play_35 fl_DS_10 (gXw_h0 hX) rfl ?_
    refine g_iload_n d_DS_play_38 rfl 2 rfl ?_
    obtain ⟨q6, hq6, h⟩ := gOb h
    refine g_callV_v (As := [.int a0]) (rest := []) (ct_Ev_layDown 0 (hX.1 0 (by decide)) q3 a0 _ hq6) d_DS_play_39 ca_Ev_layDown w_747 (gEv_h0 (hX.1 0 (by decide))) rfl rfl rfl (Nat.le_of_ble_eq_true rfl) ⟨(by rw [gRT_f]; exact Nat.le_of_ble_eq_true rfl), (by rw [gRT_l]; exact Nat.le_of_ble_eq_true rfl)⟩ ?_
    refine g_goto (tgt := 58) d_DS_play_42 (by decide) ?_
    refine gGo_sub [0] rfl ?_
    exact t_DS_play_b58 hX M q6 q4 _ h
theorem ctn_DS_play {l : Launch} {ε : gEnv} (hX : gXw ε) (M : gMem) (a0 : Int32) (r : (Int32 × gMem)) (h : f_DS_play M a0 = some (.inr r)) : gCt l ε k_DS_play 9 141 [.ref (ε.2.2.1 18 0), .int a0] M (some (.int r.1)) r.2 :=
  gCt_of (by decide) (Nat.le_of_ble_eq_true rfl) rfl (t_DS_play hX M a0 (.inr r) h)
theorem ctx_DS_play {l : Launch} {ε : gEnv} (hl0 : l.stackTraces = false) (hX : gXw ε) (M : gMem) (a0 : Int32) (x : Nat) (h : f_DS_play M a0 = some (.inl x)) : gCtX l ε k_DS_play 9 141 [.ref (ε.2.2.1 18 0), .int a0] M (gXn x) M :=
  gCtX_of hl0 (by decide) (Nat.le_of_ble_eq_true rfl) rfl (t_DS_play hX M a0 (.inl x) h)
abbrev k_DS_undo : gMD := (⟨"DropSignals", "undo", "()I"⟩, prog_1_method_14_code, 1, (some .int))
theorem w_752 : Cond.instanceMethod ⟨"DropSignals", "undo", "()I"⟩ ∈ gWs := gWs_in (i := 752) (by decide +kernel) rfl
theorem w_753 : Cond.selects "DropSignals" ⟨"DropSignals", "undo", "()I"⟩ ⟨"DropSignals", "undo", "()I"⟩ ∈ gWs := gWs_in (i := 753) (by decide +kernel) rfl
set_option maxRecDepth 100000 in
theorem ca_DS_undo : gCaV k_DS_undo 0 := ⟨⟨gWs_in (i := 754) rfl rfl, w_20, by decide, by decide, by decide +kernel⟩, w_752, w_753⟩
theorem d_DS_undo_0 : decode prog_1_method_14_code 0 = .ok (.aload_n 0, 1) := by decide +kernel
theorem d_DS_undo_1 : decode prog_1_method_14_code 1 = .ok (.getfield 22, 3) := by decide +kernel
theorem d_DS_undo_4 : decode prog_1_method_14_code 4 = .ok (.invokevirtual 194, 3) := by decide +kernel
theorem d_DS_undo_7 : decode prog_1_method_14_code 7 = .ok (.ifCond .ne 13, 3) := by decide +kernel
theorem d_DS_undo_10 : decode prog_1_method_14_code 10 = .ok (.new 58, 3) := by decide +kernel
theorem d_DS_undo_20 : decode prog_1_method_14_code 20 = .ok (.aload_n 0, 1) := by decide +kernel
theorem d_DS_undo_21 : decode prog_1_method_14_code 21 = .ok (.getfield 22, 3) := by decide +kernel
theorem d_DS_undo_24 : decode prog_1_method_14_code 24 = .ok (.aload_n 0, 1) := by decide +kernel
theorem d_DS_undo_25 : decode prog_1_method_14_code 25 = .ok (.getfield 10, 3) := by decide +kernel
theorem d_DS_undo_28 : decode prog_1_method_14_code 28 = .ok (.invokevirtual 198, 3) := by decide +kernel
theorem d_DS_undo_31 : decode prog_1_method_14_code 31 = .ok (.ireturn, 1) := by decide +kernel
theorem w_755 : Cond.methodLink "DropSignals" 194 ⟨"DropSignals$Memory", "count", "()I"⟩ ∈ gWs := gWs_in (i := 755) (by decide +kernel) rfl
theorem w_760 : Cond.methodLink "DropSignals" 198 ⟨"DropSignals$Memory", "takeBack", "(LDropSignals$Evening;)I"⟩ ∈ gWs := gWs_in (i := 760) (by decide +kernel) rfl
theorem d_DS_undo_13 : decode prog_1_method_14_code 13 = .ok (.dup, 1) := by decide +kernel
theorem d_DS_undo_14 : decode prog_1_method_14_code 14 = .ok (.ldc 196, 2) := by decide +kernel
theorem d_DS_undo_16 : decode prog_1_method_14_code 16 = .ok (.invokespecial 62, 3) := by decide +kernel
theorem d_DS_undo_19 : decode prog_1_method_14_code 19 = .ok (.athrow, 1) := by decide +kernel
theorem ws_196 : Cond.stringRef "DropSignals" 196 "no state is remembered" ∈ lw_tbl := List.mem_of_getElem? (i := 759) (by decide +kernel)
noncomputable def f_DS_undo (M : gMem) : Option (Nat ⊕ (Int32 × gMem)) :=
  (f_Mem_count M).bind fun q1 =>
  if q1 = 0 then
    some (.inl 2)
  else
    (f_Mem_takeBack 0 M).bind fun q2 =>
    some (.inr (q2.1, q2.2))
theorem t_DS_undo {l : Launch} {ε : gEnv} (hX : gXw ε) (M : gMem) (r : (Nat ⊕ (Int32 × gMem))) (h : f_DS_undo M = some r) : gGo l ε k_DS_undo (gRT 8 120 r) (gFT ε M (α := (Int32 × gMem)) (fun r => gFn ε (some (.int r.1)) r.2) r) 0 [(0, .ref (ε.2.2.1 18 0))] [] M := by
  unfold f_DS_undo at h
  refine g_aload_n d_DS_undo_0 rfl 0 rfl ?_
  refine g_getR d_DS_undo_1 fl_DS_22 (gXw_h0 hX) rfl ?_
  obtain ⟨q1, hq1, h⟩ := gOb h
  refine g_callV_i (As := []) (rest := []) (ct_Mem_count hX M _ hq1) d_DS_undo_4 ca_Mem_count w_755 (gXw_h1 hX) rfl rfl rfl (Nat.le_of_ble_eq_true rfl) ⟨(by rw [gRT_f]; exact Nat.le_of_ble_eq_true rfl), (by rw [gRT_l]; exact Nat.le_of_ble_eq_true rfl)⟩ ?_
  refine g_if_ne (tgt := 20) d_DS_undo_7 (by decide) (fun c3 => ?_) (fun c3 => ?_)
  · rw [if_neg c3] at h
    refine g_aload_n d_DS_undo_20 rfl 0 rfl ?_
    refine g_getR d_DS_undo_21 fl_DS_22 (gXw_h0 hX) rfl ?_
    refine g_aload_n d_DS_undo_24 rfl 0 rfl ?_
    refine g_getR d_DS_undo_25 fl_DS_10 (gXw_h0 hX) rfl ?_
    obtain ⟨q2, hq2, h⟩ := gOb h
    refine g_callV_i (As := [.ref (ε.2.2.1 0 0)]) (rest := []) (ct_Mem_takeBack hX 0 (hX.1 0 (by decide)) M _ hq2) d_DS_undo_28 ca_Mem_takeBack w_760 (gXw_h1 hX) rfl rfl rfl (Nat.le_of_ble_eq_true rfl) ⟨(by rw [gRT_f]; exact Nat.le_of_ble_eq_true rfl), (by rw [gRT_l]; exact Nat.le_of_ble_eq_true rfl)⟩ ?_
    obtain rfl := Option.some.inj h
    exact g_iret d_DS_undo_31 rfl
  · rw [if_pos c3] at h
    obtain rfl := Option.some.inj h
    exact g_throw rfl d_DS_undo_10 d_DS_undo_13 d_DS_undo_14 d_DS_undo_16 d_DS_undo_19 w_365 w_33 ws_196 xa_2_62 xg_2_62_58 (by decide) (Nat.le_of_ble_eq_true rfl) (Nat.le_of_ble_eq_true rfl) (Nat.le_refl _) (Nat.le_refl _)
theorem ctn_DS_undo {l : Launch} {ε : gEnv} (hX : gXw ε) (M : gMem) (r : (Int32 × gMem)) (h : f_DS_undo M = some (.inr r)) : gCt l ε k_DS_undo 8 120 [.ref (ε.2.2.1 18 0)] M (some (.int r.1)) r.2 :=
  gCt_of (by decide) (Nat.le_of_ble_eq_true rfl) rfl (t_DS_undo hX M (.inr r) h)
theorem ctx_DS_undo {l : Launch} {ε : gEnv} (hl0 : l.stackTraces = false) (hX : gXw ε) (M : gMem) (x : Nat) (h : f_DS_undo M = some (.inl x)) : gCtX l ε k_DS_undo 8 120 [.ref (ε.2.2.1 18 0)] M (gXn x) M :=
  gCtX_of hl0 (by decide) (Nat.le_of_ble_eq_true rfl) rfl (t_DS_undo hX M (.inl x) h)
abbrev k_DS_legal : gMD := (⟨"DropSignals", "legal", "(I)I"⟩, prog_1_method_15_code, 2, (some .int))
theorem w_768 : Cond.instanceMethod ⟨"DropSignals", "legal", "(I)I"⟩ ∈ gWs := gWs_in (i := 768) (by decide +kernel) rfl
theorem w_769 : Cond.selects "DropSignals" ⟨"DropSignals", "legal", "(I)I"⟩ ⟨"DropSignals", "legal", "(I)I"⟩ ∈ gWs := gWs_in (i := 769) (by decide +kernel) rfl
set_option maxRecDepth 100000 in
theorem ca_DS_legal : gCaV k_DS_legal 1 := ⟨⟨gWs_in (i := 770) rfl rfl, w_20, by decide, by decide, by decide +kernel⟩, w_768, w_769⟩
theorem d_DS_legal_0 : decode prog_1_method_15_code 0 = .ok (.iload_n 1, 1) := by decide +kernel
theorem d_DS_legal_1 : decode prog_1_method_15_code 1 = .ok (.bipush 8, 2) := by decide +kernel
theorem d_DS_legal_3 : decode prog_1_method_15_code 3 = .ok (.invokestatic 98, 3) := by decide +kernel
theorem d_DS_legal_6 : decode prog_1_method_15_code 6 = .ok (.aload_n 0, 1) := by decide +kernel
theorem d_DS_legal_7 : decode prog_1_method_15_code 7 = .ok (.getfield 10, 3) := by decide +kernel
theorem d_DS_legal_10 : decode prog_1_method_15_code 10 = .ok (.iload_n 1, 1) := by decide +kernel
theorem d_DS_legal_11 : decode prog_1_method_15_code 11 = .ok (.invokevirtual 202, 3) := by decide +kernel
theorem d_DS_legal_14 : decode prog_1_method_15_code 14 = .ok (.ireturn, 1) := by decide +kernel
theorem w_771 : Cond.methodLink "DropSignals" 202 ⟨"DropSignals$Evening", "playable", "(I)I"⟩ ∈ gWs := gWs_in (i := 771) (by decide +kernel) rfl
noncomputable def f_DS_legal (M : gMem) (a0 : Int32) : Option (Nat ⊕ Int32) :=
  gSq (f_DS_checkPlace a0 8) fun q1 =>
  (f_Ev_playable 0 M a0).bind fun q2 =>
  some (.inr q2)
theorem t_DS_legal {l : Launch} {ε : gEnv} (hX : gXw ε) (M : gMem) (a0 : Int32) (r : (Nat ⊕ Int32)) (h : f_DS_legal M a0 = some r) : gGo l ε k_DS_legal (gRT 9 141 r) (gFT ε M (α := Int32) (fun r => gFn ε (some (.int r)) M) r) 0 [(0, .ref (ε.2.2.1 18 0)), (1, .int a0)] [] M := by
  unfold f_DS_legal at h
  refine g_iload_n d_DS_legal_0 rfl 1 rfl ?_
  refine g_bipush (v := 8) d_DS_legal_1 (by decide) ?_
  rcases gSq_o h with ⟨x9, hq1, rfl⟩ | ⟨q1, hq1, h⟩
  · exact g_callXS (As := [.int a0, .int 8]) (rest := []) (fun hl0 => ctx_DS_checkPlace hl0 M a0 8 _ hq1) d_DS_legal_3 ca_DS_checkPlace w_620 rfl rfl (Nat.le_of_ble_eq_true rfl) ⟨Nat.le_of_ble_eq_true rfl, Nat.le_of_ble_eq_true rfl⟩ (Nat.le_refl _) (Nat.le_refl _)
  refine g_callS_v (As := [.int a0, .int 8]) (rest := []) (ctn_DS_checkPlace M a0 8 _ hq1) d_DS_legal_3 ca_DS_checkPlace w_620 rfl rfl (Nat.le_of_ble_eq_true rfl) ⟨(by rw [gRT_f]; exact Nat.le_of_ble_eq_true rfl), (by rw [gRT_l]; exact Nat.le_of_ble_eq_true rfl)⟩ ?_
  refine g_aload_n d_DS_legal_6 rfl 0 rfl ?_
  refine g_getR d_DS_legal_7 fl_DS_10 (gXw_h0 hX) rfl ?_
  refine g_iload_n d_DS_legal_10 rfl 1 rfl ?_
  obtain ⟨q2, hq2, h⟩ := gOb h
  refine g_callV_i (As := [.int a0]) (rest := []) (ct_Ev_playable 0 (hX.1 0 (by decide)) M a0 _ hq2) d_DS_legal_11 ca_Ev_playable w_771 (gEv_h0 (hX.1 0 (by decide))) rfl rfl rfl (Nat.le_of_ble_eq_true rfl) ⟨(by rw [gRT_f]; exact Nat.le_of_ble_eq_true rfl), (by rw [gRT_l]; exact Nat.le_of_ble_eq_true rfl)⟩ ?_
  obtain rfl := Option.some.inj h
  exact g_iret d_DS_legal_14 rfl
theorem ctn_DS_legal {l : Launch} {ε : gEnv} (hX : gXw ε) (M : gMem) (a0 : Int32) (r : Int32) (h : f_DS_legal M a0 = some (.inr r)) : gCt l ε k_DS_legal 9 141 [.ref (ε.2.2.1 18 0), .int a0] M (some (.int r)) M :=
  gCt_of (by decide) (Nat.le_of_ble_eq_true rfl) rfl (t_DS_legal hX M a0 (.inr r) h)
theorem ctx_DS_legal {l : Launch} {ε : gEnv} (hl0 : l.stackTraces = false) (hX : gXw ε) (M : gMem) (a0 : Int32) (x : Nat) (h : f_DS_legal M a0 = some (.inl x)) : gCtX l ε k_DS_legal 9 141 [.ref (ε.2.2.1 18 0), .int a0] M (gXn x) M :=
  gCtX_of hl0 (by decide) (Nat.le_of_ble_eq_true rfl) rfl (t_DS_legal hX M a0 (.inl x) h)
abbrev k_DS_mayHave : gMD := (⟨"DropSignals", "mayHave", "(IIIZ)I"⟩, prog_1_method_17_code, 5, (some .int))
theorem w_877 : Cond.instanceMethod ⟨"DropSignals", "mayHave", "(IIIZ)I"⟩ ∈ gWs := gWs_in (i := 877) (by decide +kernel) rfl
theorem w_878 : Cond.selects "DropSignals" ⟨"DropSignals", "mayHave", "(IIIZ)I"⟩ ⟨"DropSignals", "mayHave", "(IIIZ)I"⟩ ∈ gWs := gWs_in (i := 878) (by decide +kernel) rfl
set_option maxRecDepth 100000 in
theorem ca_DS_mayHave : gCaV k_DS_mayHave 4 := ⟨⟨gWs_in (i := 879) rfl rfl, w_20, by decide, by decide, by decide +kernel⟩, w_877, w_878⟩
theorem d_DS_mayHave_0 : decode prog_1_method_17_code 0 = .ok (.iload_n 1, 1) := by decide +kernel
theorem d_DS_mayHave_1 : decode prog_1_method_17_code 1 = .ok (.iconst 4, 1) := by decide +kernel
theorem d_DS_mayHave_2 : decode prog_1_method_17_code 2 = .ok (.invokestatic 98, 3) := by decide +kernel
theorem d_DS_mayHave_5 : decode prog_1_method_17_code 5 = .ok (.iload_n 2, 1) := by decide +kernel
theorem d_DS_mayHave_6 : decode prog_1_method_17_code 6 = .ok (.iconst 4, 1) := by decide +kernel
theorem d_DS_mayHave_7 : decode prog_1_method_17_code 7 = .ok (.invokestatic 98, 3) := by decide +kernel
theorem d_DS_mayHave_10 : decode prog_1_method_17_code 10 = .ok (.iload_n 3, 1) := by decide +kernel
theorem d_DS_mayHave_11 : decode prog_1_method_17_code 11 = .ok (.iconst 4, 1) := by decide +kernel
theorem d_DS_mayHave_12 : decode prog_1_method_17_code 12 = .ok (.invokestatic 98, 3) := by decide +kernel
theorem d_DS_mayHave_15 : decode prog_1_method_17_code 15 = .ok (.iload_n 1, 1) := by decide +kernel
theorem d_DS_mayHave_16 : decode prog_1_method_17_code 16 = .ok (.iload_n 2, 1) := by decide +kernel
theorem d_DS_mayHave_17 : decode prog_1_method_17_code 17 = .ok (.if_icmp .ne 13, 3) := by decide +kernel
theorem d_DS_mayHave_20 : decode prog_1_method_17_code 20 = .ok (.new 47, 3) := by decide +kernel
theorem d_DS_mayHave_30 : decode prog_1_method_17_code 30 = .ok (.aload_n 0, 1) := by decide +kernel
theorem d_DS_mayHave_31 : decode prog_1_method_17_code 31 = .ok (.invokevirtual 181, 3) := by decide +kernel
theorem d_DS_mayHave_34 : decode prog_1_method_17_code 34 = .ok (.aload_n 0, 1) := by decide +kernel
theorem d_DS_mayHave_35 : decode prog_1_method_17_code 35 = .ok (.getfield 10, 3) := by decide +kernel
theorem d_DS_mayHave_38 : decode prog_1_method_17_code 38 = .ok (.iload_n 1, 1) := by decide +kernel
theorem d_DS_mayHave_39 : decode prog_1_method_17_code 39 = .ok (.iload_n 2, 1) := by decide +kernel
theorem d_DS_mayHave_40 : decode prog_1_method_17_code 40 = .ok (.iload_n 3, 1) := by decide +kernel
theorem d_DS_mayHave_41 : decode prog_1_method_17_code 41 = .ok (.iload 4, 2) := by decide +kernel
theorem d_DS_mayHave_43 : decode prog_1_method_17_code 43 = .ok (.invokevirtual 210, 3) := by decide +kernel
theorem d_DS_mayHave_46 : decode prog_1_method_17_code 46 = .ok (.ireturn, 1) := by decide +kernel
theorem w_881 : Cond.methodLink "DropSignals" 210 ⟨"DropSignals$Evening", "possible", "(IIIZ)I"⟩ ∈ gWs := gWs_in (i := 881) (by decide +kernel) rfl
theorem d_DS_mayHave_23 : decode prog_1_method_17_code 23 = .ok (.dup, 1) := by decide +kernel
theorem d_DS_mayHave_24 : decode prog_1_method_17_code 24 = .ok (.ldc 208, 2) := by decide +kernel
theorem d_DS_mayHave_26 : decode prog_1_method_17_code 26 = .ok (.invokespecial 51, 3) := by decide +kernel
theorem d_DS_mayHave_29 : decode prog_1_method_17_code 29 = .ok (.athrow, 1) := by decide +kernel
theorem ws_208 : Cond.stringRef "DropSignals" 208 "nobody looks on at the own cards" ∈ lw_tbl := List.mem_of_getElem? (i := 880) (by decide +kernel)
noncomputable def f_DS_mayHave (M : gMem) (a0 : Int32) (a1 : Int32) (a2 : Int32) (a3 : Int32) : Option (Nat ⊕ Int32) :=
  gSq (f_DS_checkPlace a0 4) fun q1 =>
  gSq (f_DS_checkPlace a1 4) fun q2 =>
  gSq (f_DS_checkPlace a2 4) fun q3 =>
  if a0 = a1 then
    some (.inl 1)
  else
    gSq (f_DS_checkInPlay M) fun q4 =>
    (f_Ev_possible 0 M a0 a1 a2 a3).bind fun q5 =>
    some (.inr q5)
theorem t_DS_mayHave {l : Launch} {ε : gEnv} (hX : gXw ε) (M : gMem) (a0 : Int32) (a1 : Int32) (a2 : Int32) (a3 : Int32) (r : (Nat ⊕ Int32)) (h : f_DS_mayHave M a0 a1 a2 a3 = some r) : gGo l ε k_DS_mayHave (gRT 9 141 r) (gFT ε M (α := Int32) (fun r => gFn ε (some (.int r)) M) r) 0 [(0, .ref (ε.2.2.1 18 0)), (1, .int a0), (2, .int a1), (3, .int a2), (4, .int a3)] [] M := by
  unfold f_DS_mayHave at h
  refine g_iload_n d_DS_mayHave_0 rfl 1 rfl ?_
  refine g_iconst (v := 4) d_DS_mayHave_1 (by decide) ?_
  rcases gSq_o h with ⟨x9, hq1, rfl⟩ | ⟨q1, hq1, h⟩
  · exact g_callXS (As := [.int a0, .int 4]) (rest := []) (fun hl0 => ctx_DS_checkPlace hl0 M a0 4 _ hq1) d_DS_mayHave_2 ca_DS_checkPlace w_620 rfl rfl (Nat.le_of_ble_eq_true rfl) ⟨Nat.le_of_ble_eq_true rfl, Nat.le_of_ble_eq_true rfl⟩ (Nat.le_refl _) (Nat.le_refl _)
  refine g_callS_v (As := [.int a0, .int 4]) (rest := []) (ctn_DS_checkPlace M a0 4 _ hq1) d_DS_mayHave_2 ca_DS_checkPlace w_620 rfl rfl (Nat.le_of_ble_eq_true rfl) ⟨(by rw [gRT_f]; exact Nat.le_of_ble_eq_true rfl), (by rw [gRT_l]; exact Nat.le_of_ble_eq_true rfl)⟩ ?_
  refine g_iload_n d_DS_mayHave_5 rfl 2 rfl ?_
  refine g_iconst (v := 4) d_DS_mayHave_6 (by decide) ?_
  rcases gSq_o h with ⟨x9, hq2, rfl⟩ | ⟨q2, hq2, h⟩
  · exact g_callXS (As := [.int a1, .int 4]) (rest := []) (fun hl0 => ctx_DS_checkPlace hl0 M a1 4 _ hq2) d_DS_mayHave_7 ca_DS_checkPlace w_620 rfl rfl (Nat.le_of_ble_eq_true rfl) ⟨Nat.le_of_ble_eq_true rfl, Nat.le_of_ble_eq_true rfl⟩ (Nat.le_refl _) (Nat.le_refl _)
  refine g_callS_v (As := [.int a1, .int 4]) (rest := []) (ctn_DS_checkPlace M a1 4 _ hq2) d_DS_mayHave_7 ca_DS_checkPlace w_620 rfl rfl (Nat.le_of_ble_eq_true rfl) ⟨(by rw [gRT_f]; exact Nat.le_of_ble_eq_true rfl), (by rw [gRT_l]; exact Nat.le_of_ble_eq_true rfl)⟩ ?_
  refine g_iload_n d_DS_mayHave_10 rfl 3 rfl ?_
  refine g_iconst (v := 4) d_DS_mayHave_11 (by decide) ?_
  rcases gSq_o h with ⟨x9, hq3, rfl⟩ | ⟨q3, hq3, h⟩
  · exact g_callXS (As := [.int a2, .int 4]) (rest := []) (fun hl0 => ctx_DS_checkPlace hl0 M a2 4 _ hq3) d_DS_mayHave_12 ca_DS_checkPlace w_620 rfl rfl (Nat.le_of_ble_eq_true rfl) ⟨Nat.le_of_ble_eq_true rfl, Nat.le_of_ble_eq_true rfl⟩ (Nat.le_refl _) (Nat.le_refl _)
  refine g_callS_v (As := [.int a2, .int 4]) (rest := []) (ctn_DS_checkPlace M a2 4 _ hq3) d_DS_mayHave_12 ca_DS_checkPlace w_620 rfl rfl (Nat.le_of_ble_eq_true rfl) ⟨(by rw [gRT_f]; exact Nat.le_of_ble_eq_true rfl), (by rw [gRT_l]; exact Nat.le_of_ble_eq_true rfl)⟩ ?_
  refine g_iload_n d_DS_mayHave_15 rfl 1 rfl ?_
  refine g_iload_n d_DS_mayHave_16 rfl 2 rfl ?_
  refine g_icmp_ne (tgt := 30) d_DS_mayHave_17 (by decide) (fun c6 => ?_) (fun c6 => ?_)
  · rw [if_neg c6] at h
    refine g_aload_n d_DS_mayHave_30 rfl 0 rfl ?_
    rcases gSq_o h with ⟨x9, hq4, rfl⟩ | ⟨q4, hq4, h⟩
    · exact g_callXV (As := []) (rest := []) (fun hl0 => ctx_DS_checkInPlay hl0 hX M _ hq4) d_DS_mayHave_31 ca_DS_checkInPlay w_741 (gXw_h0 hX) rfl rfl rfl (Nat.le_of_ble_eq_true rfl) ⟨Nat.le_of_ble_eq_true rfl, Nat.le_of_ble_eq_true rfl⟩ (Nat.le_refl _) (Nat.le_refl _)
    refine g_callV_v (As := []) (rest := []) (ctn_DS_checkInPlay hX M _ hq4) d_DS_mayHave_31 ca_DS_checkInPlay w_741 (gXw_h0 hX) rfl rfl rfl (Nat.le_of_ble_eq_true rfl) ⟨(by rw [gRT_f]; exact Nat.le_of_ble_eq_true rfl), (by rw [gRT_l]; exact Nat.le_of_ble_eq_true rfl)⟩ ?_
    refine g_aload_n d_DS_mayHave_34 rfl 0 rfl ?_
    refine g_getR d_DS_mayHave_35 fl_DS_10 (gXw_h0 hX) rfl ?_
    refine g_iload_n d_DS_mayHave_38 rfl 1 rfl ?_
    refine g_iload_n d_DS_mayHave_39 rfl 2 rfl ?_
    refine g_iload_n d_DS_mayHave_40 rfl 3 rfl ?_
    refine g_iload d_DS_mayHave_41 4 rfl ?_
    obtain ⟨q5, hq5, h⟩ := gOb h
    refine g_callV_i (As := [.int a0, .int a1, .int a2, .int a3]) (rest := []) (ct_Ev_possible 0 (hX.1 0 (by decide)) M a0 a1 a2 a3 _ hq5) d_DS_mayHave_43 ca_Ev_possible w_881 (gEv_h0 (hX.1 0 (by decide))) rfl rfl rfl (Nat.le_of_ble_eq_true rfl) ⟨(by rw [gRT_f]; exact Nat.le_of_ble_eq_true rfl), (by rw [gRT_l]; exact Nat.le_of_ble_eq_true rfl)⟩ ?_
    obtain rfl := Option.some.inj h
    exact g_iret d_DS_mayHave_46 rfl
  · rw [if_pos c6] at h
    obtain rfl := Option.some.inj h
    exact g_throw rfl d_DS_mayHave_20 d_DS_mayHave_23 d_DS_mayHave_24 d_DS_mayHave_26 d_DS_mayHave_29 w_293 w_32 ws_208 xa_1_51 xg_1_51_47 (by decide) (Nat.le_of_ble_eq_true rfl) (Nat.le_of_ble_eq_true rfl) (Nat.le_refl _) (Nat.le_refl _)
theorem ctn_DS_mayHave {l : Launch} {ε : gEnv} (hX : gXw ε) (M : gMem) (a0 : Int32) (a1 : Int32) (a2 : Int32) (a3 : Int32) (r : Int32) (h : f_DS_mayHave M a0 a1 a2 a3 = some (.inr r)) : gCt l ε k_DS_mayHave 9 141 [.ref (ε.2.2.1 18 0), .int a0, .int a1, .int a2, .int a3] M (some (.int r)) M :=
  gCt_of (by decide) (Nat.le_of_ble_eq_true rfl) rfl (t_DS_mayHave hX M a0 a1 a2 a3 (.inr r) h)
theorem ctx_DS_mayHave {l : Launch} {ε : gEnv} (hl0 : l.stackTraces = false) (hX : gXw ε) (M : gMem) (a0 : Int32) (a1 : Int32) (a2 : Int32) (a3 : Int32) (x : Nat) (h : f_DS_mayHave M a0 a1 a2 a3 = some (.inl x)) : gCtX l ε k_DS_mayHave 9 141 [.ref (ε.2.2.1 18 0), .int a0, .int a1, .int a2, .int a3] M (gXn x) M :=
  gCtX_of hl0 (by decide) (Nat.le_of_ble_eq_true rfl) rfl (t_DS_mayHave hX M a0 a1 a2 a3 (.inl x) h)
abbrev k_DS_checkFewCards : gMD := (⟨"DropSignals", "checkFewCards", "()V"⟩, prog_1_method_27_code, 1, none)
theorem w_784 : Cond.instanceMethod ⟨"DropSignals", "checkFewCards", "()V"⟩ ∈ gWs := gWs_in (i := 784) (by decide +kernel) rfl
theorem w_14 : Cond.selects "DropSignals" ⟨"DropSignals", "checkFewCards", "()V"⟩ ⟨"DropSignals", "checkFewCards", "()V"⟩ ∈ gWs := gWs_in (i := 14) (by decide +kernel) rfl
set_option maxRecDepth 100000 in
theorem ca_DS_checkFewCards : gCaV k_DS_checkFewCards 0 := ⟨⟨gWs_in (i := 785) rfl rfl, w_20, by decide, by decide, by decide +kernel⟩, w_784, w_14⟩
theorem d_DS_checkFewCards_0 : decode prog_1_method_27_code 0 = .ok (.aload_n 0, 1) := by decide +kernel
theorem d_DS_checkFewCards_1 : decode prog_1_method_27_code 1 = .ok (.getfield 10, 3) := by decide +kernel
theorem d_DS_checkFewCards_4 : decode prog_1_method_27_code 4 = .ok (.getfield 173, 3) := by decide +kernel
theorem d_DS_checkFewCards_7 : decode prog_1_method_27_code 7 = .ok (.iconst 2, 1) := by decide +kernel
theorem d_DS_checkFewCards_8 : decode prog_1_method_27_code 8 = .ok (.if_icmp .ne 17, 3) := by decide +kernel
theorem d_DS_checkFewCards_11 : decode prog_1_method_27_code 11 = .ok (.aload_n 0, 1) := by decide +kernel
theorem d_DS_checkFewCards_12 : decode prog_1_method_27_code 12 = .ok (.getfield 10, 3) := by decide +kernel
theorem d_DS_checkFewCards_15 : decode prog_1_method_27_code 15 = .ok (.getfield 101, 3) := by decide +kernel
theorem d_DS_checkFewCards_18 : decode prog_1_method_27_code 18 = .ok (.invokevirtual 284, 3) := by decide +kernel
theorem d_DS_checkFewCards_21 : decode prog_1_method_27_code 21 = .ok (.iconst 3, 1) := by decide +kernel
theorem d_DS_checkFewCards_22 : decode prog_1_method_27_code 22 = .ok (.if_icmp .le 14, 3) := by decide +kernel
theorem d_DS_checkFewCards_25 : decode prog_1_method_27_code 25 = .ok (.new 58, 3) := by decide +kernel
theorem d_DS_checkFewCards_36 : decode prog_1_method_27_code 36 = .ok (.return_, 1) := by decide +kernel
theorem d_DS_checkFewCards_28 : decode prog_1_method_27_code 28 = .ok (.dup, 1) := by decide +kernel
theorem d_DS_checkFewCards_29 : decode prog_1_method_27_code 29 = .ok (.ldc_w 287, 3) := by decide +kernel
theorem d_DS_checkFewCards_32 : decode prog_1_method_27_code 32 = .ok (.invokespecial 62, 3) := by decide +kernel
theorem d_DS_checkFewCards_35 : decode prog_1_method_27_code 35 = .ok (.athrow, 1) := by decide +kernel
theorem ws_287 : Cond.stringRef "DropSignals" 287 "no play, or too many cards" ∈ lw_tbl := List.mem_of_getElem? (i := 797) (by decide +kernel)
theorem w_786 : Cond.methodLink "DropSignals" 284 ⟨"DropSignals$Cards", "largestHand", "()I"⟩ ∈ gWs := gWs_in (i := 786) (by decide +kernel) rfl
noncomputable def f_DS_checkFewCards (M : gMem) : Option (Nat ⊕ Unit) :=
  if (M 0 0 5) = 2 then
    (f_Cards_largestHand 0 M).bind fun q1 =>
    if q1 ≤ 3 then
      some (.inr ())
    else
      some (.inl 2)
  else
    some (.inl 2)
theorem t_DS_checkFewCards {l : Launch} {ε : gEnv} (hX : gXw ε) (M : gMem) (r : (Nat ⊕ Unit)) (h : f_DS_checkFewCards M = some r) : gGo l ε k_DS_checkFewCards (gRT 8 120 r) (gFT ε M (α := Unit) (fun _ => gFn ε none M) r) 0 [(0, .ref (ε.2.2.1 18 0))] [] M := by
  unfold f_DS_checkFewCards at h
  refine g_aload_n d_DS_checkFewCards_0 rfl 0 rfl ?_
  refine g_getR d_DS_checkFewCards_1 fl_DS_10 (gXw_h0 hX) rfl ?_
  refine g_getIN d_DS_checkFewCards_4 fl_DS_173 (gEv_h0 (hX.1 0 (by decide))) rfl ?_
  refine g_iconst (v := 2) d_DS_checkFewCards_7 (by decide) ?_
  refine g_icmp_ne (tgt := 25) d_DS_checkFewCards_8 (by decide) (fun c3 => ?_) (fun c3 => ?_)
  · rw [if_neg c3] at h
    obtain rfl := Option.some.inj h
    exact g_throwW rfl d_DS_checkFewCards_25 d_DS_checkFewCards_28 d_DS_checkFewCards_29 d_DS_checkFewCards_32 d_DS_checkFewCards_35 w_365 w_33 ws_287 xa_2_62 xg_2_62_58 (by decide) (Nat.le_of_ble_eq_true rfl) (Nat.le_of_ble_eq_true rfl) (Nat.le_refl _) (Nat.le_refl _)
  · rw [if_pos c3] at h
    refine g_aload_n d_DS_checkFewCards_11 rfl 0 rfl ?_
    refine g_getR d_DS_checkFewCards_12 fl_DS_10 (gXw_h0 hX) rfl ?_
    refine g_getRN d_DS_checkFewCards_15 fl_DS_101 (gEv_h0 (hX.1 0 (by decide))) rfl ?_
    obtain ⟨q1, hq1, h⟩ := gOb h
    refine g_callV_i (As := []) (rest := []) (ct_Cards_largestHand 0 (gEv_cd (hX.1 0 (by decide))) M _ hq1) d_DS_checkFewCards_18 ca_Cards_largestHand w_786 (gEv_h1 (hX.1 0 (by decide))) rfl rfl rfl (Nat.le_of_ble_eq_true rfl) ⟨(by rw [gRT_f]; exact Nat.le_of_ble_eq_true rfl), (by rw [gRT_l]; exact Nat.le_of_ble_eq_true rfl)⟩ ?_
    refine g_iconst (v := 3) d_DS_checkFewCards_21 (by decide) ?_
    refine g_icmp_le (tgt := 36) d_DS_checkFewCards_22 (by decide) (fun c2 => ?_) (fun c2 => ?_)
    · rw [if_pos c2] at h
      obtain rfl := Option.some.inj h
      exact g_vret d_DS_checkFewCards_36 rfl
    · rw [if_neg c2] at h
      obtain rfl := Option.some.inj h
      exact g_throwW rfl d_DS_checkFewCards_25 d_DS_checkFewCards_28 d_DS_checkFewCards_29 d_DS_checkFewCards_32 d_DS_checkFewCards_35 w_365 w_33 ws_287 xa_2_62 xg_2_62_58 (by decide) (Nat.le_of_ble_eq_true rfl) (Nat.le_of_ble_eq_true rfl) (Nat.le_refl _) (Nat.le_refl _)
theorem ctn_DS_checkFewCards {l : Launch} {ε : gEnv} (hX : gXw ε) (M : gMem) (r : Unit) (h : f_DS_checkFewCards M = some (.inr r)) : gCt l ε k_DS_checkFewCards 8 120 [.ref (ε.2.2.1 18 0)] M none M :=
  gCt_of (by decide) (Nat.le_of_ble_eq_true rfl) rfl (t_DS_checkFewCards hX M (.inr r) h)
theorem ctx_DS_checkFewCards {l : Launch} {ε : gEnv} (hl0 : l.stackTraces = false) (hX : gXw ε) (M : gMem) (x : Nat) (h : f_DS_checkFewCards M = some (.inl x)) : gCtX l ε k_DS_checkFewCards 8 120 [.ref (ε.2.2.1 18 0)] M (gXn x) M :=
  gCtX_of hl0 (by decide) (Nat.le_of_ble_eq_true rfl) rfl (t_DS_checkFewCards hX M (.inl x) h)
abbrev k_DS_most : gMD := (⟨"DropSignals", "most", "(I)I"⟩, prog_1_method_18_code, 2, (some .int))
theorem w_779 : Cond.instanceMethod ⟨"DropSignals", "most", "(I)I"⟩ ∈ gWs := gWs_in (i := 779) (by decide +kernel) rfl
theorem w_780 : Cond.selects "DropSignals" ⟨"DropSignals", "most", "(I)I"⟩ ⟨"DropSignals", "most", "(I)I"⟩ ∈ gWs := gWs_in (i := 780) (by decide +kernel) rfl
set_option maxRecDepth 100000 in
theorem ca_DS_most : gCaV k_DS_most 1 := ⟨⟨gWs_in (i := 781) rfl rfl, w_20, by decide, by decide, by decide +kernel⟩, w_779, w_780⟩
theorem d_DS_most_0 : decode prog_1_method_18_code 0 = .ok (.iload_n 1, 1) := by decide +kernel
theorem d_DS_most_1 : decode prog_1_method_18_code 1 = .ok (.iconst 1, 1) := by decide +kernel
theorem d_DS_most_2 : decode prog_1_method_18_code 2 = .ok (.invokestatic 91, 3) := by decide +kernel
theorem d_DS_most_5 : decode prog_1_method_18_code 5 = .ok (.aload_n 0, 1) := by decide +kernel
theorem d_DS_most_6 : decode prog_1_method_18_code 6 = .ok (.invokevirtual 214, 3) := by decide +kernel
theorem d_DS_most_9 : decode prog_1_method_18_code 9 = .ok (.aload_n 0, 1) := by decide +kernel
theorem d_DS_most_10 : decode prog_1_method_18_code 10 = .ok (.getfield 43, 3) := by decide +kernel
theorem d_DS_most_13 : decode prog_1_method_18_code 13 = .ok (.aload_n 0, 1) := by decide +kernel
theorem d_DS_most_14 : decode prog_1_method_18_code 14 = .ok (.getfield 10, 3) := by decide +kernel
theorem d_DS_most_17 : decode prog_1_method_18_code 17 = .ok (.iload_n 1, 1) := by decide +kernel
theorem d_DS_most_18 : decode prog_1_method_18_code 18 = .ok (.iconst 1, 1) := by decide +kernel
theorem d_DS_most_19 : decode prog_1_method_18_code 19 = .ok (.if_icmp .ne 7, 3) := by decide +kernel
theorem d_DS_most_22 : decode prog_1_method_18_code 22 = .ok (.iconst 1, 1) := by decide +kernel
theorem d_DS_most_23 : decode prog_1_method_18_code 23 = .ok (.goto 4, 3) := by decide +kernel
theorem d_DS_most_26 : decode prog_1_method_18_code 26 = .ok (.iconst 0, 1) := by decide +kernel
theorem d_DS_most_27 : decode prog_1_method_18_code 27 = .ok (.invokevirtual 217, 3) := by decide +kernel
theorem d_DS_most_30 : decode prog_1_method_18_code 30 = .ok (.aload_n 0, 1) := by decide +kernel
theorem d_DS_most_31 : decode prog_1_method_18_code 31 = .ok (.getfield 43, 3) := by decide +kernel
theorem d_DS_most_34 : decode prog_1_method_18_code 34 = .ok (.invokevirtual 221, 3) := by decide +kernel
theorem d_DS_most_37 : decode prog_1_method_18_code 37 = .ok (.ireturn, 1) := by decide +kernel
theorem w_782 : Cond.methodLink "DropSignals" 214 ⟨"DropSignals", "checkFewCards", "()V"⟩ ∈ gWs := gWs_in (i := 782) (by decide +kernel) rfl
theorem w_259 : Cond.fieldLink "DropSignals" 43 "DropSignals" "openCards" "LDropSignals$OpenCards;" ∈ gWs := gWs_in (i := 259) (by decide +kernel) rfl
theorem fl_DS_43 : gFl "DropSignals" 43 7 5 := ⟨gN7, gF7, 6, rfl, uw_7, by decide, w_259⟩
theorem w_798 : Cond.methodLink "DropSignals" 217 ⟨"DropSignals$OpenCards", "take", "(LDropSignals$Evening;Z)V"⟩ ∈ gWs := gWs_in (i := 798) (by decide +kernel) rfl
theorem w_811 : Cond.methodLink "DropSignals" 221 ⟨"DropSignals$OpenCards", "mostTricks", "()I"⟩ ∈ gWs := gWs_in (i := 811) (by decide +kernel) rfl
noncomputable def f_DS_most_b27 (M : gMem) (s0 : Int32) : Option (Nat ⊕ (Int32 × gMem)) :=
  (f_Open_take 0 M s0).bind fun q3 =>
  (f_Open_mostTricks q3).bind fun q4 =>
  some (.inr (q4.1, q4.2))
theorem t_DS_most_b27 {l : Launch} {ε : gEnv} (hX : gXw ε) (M0 : gMem) (M : gMem) (s0 : Int32) (r : (Nat ⊕ (Int32 × gMem))) (h : f_DS_most_b27 M s0 = some r) : gGo l ε k_DS_most (gRT 152 6053 r) (gFT ε M0 (α := (Int32 × gMem)) (fun r => gFn ε (some (.int r.1)) r.2) r) 27 [(0, .ref (ε.2.2.1 18 0))] [.int s0, .ref (ε.2.2.1 0 0), .ref (ε.2.2.1 18 8)] M := by
  unfold f_DS_most_b27 at h
  obtain ⟨q3, hq3, h⟩ := gOb h
  refine g_callV_v (As := [.ref (ε.2.2.1 0 0), .int s0]) (rest := []) (ct_Open_take hX 0 (hX.1 0 (by decide)) M s0 _ hq3) d_DS_most_27 ca_Open_take w_798 (gXw_h8 hX) rfl rfl rfl (Nat.le_of_ble_eq_true rfl) ⟨(by rw [gRT_f]; exact Nat.le_of_ble_eq_true rfl), (by rw [gRT_l]; exact Nat.le_of_ble_eq_true rfl)⟩ ?_
  refine g_aload_n d_DS_most_30 rfl 0 rfl ?_
  refine g_getR d_DS_most_31 fl_DS_43 (gXw_h0 hX) rfl ?_
  obtain ⟨q4, hq4, h⟩ := gOb h
  refine g_callV_i (As := []) (rest := []) (ct_Open_mostTricks hX q3 _ hq4) d_DS_most_34 ca_Open_mostTricks w_811 (gXw_h8 hX) rfl rfl rfl (Nat.le_of_ble_eq_true rfl) ⟨(by rw [gRT_f]; exact Nat.le_of_ble_eq_true rfl), (by rw [gRT_l]; exact Nat.le_of_ble_eq_true rfl)⟩ ?_
  obtain rfl := Option.some.inj h
  exact g_iret d_DS_most_37 rfl
noncomputable def f_DS_most (M : gMem) (a0 : Int32) : Option (Nat ⊕ (Int32 × gMem)) :=
  gSq (f_DS_checkWhat a0 1) fun q1 =>
  gSq (f_DS_checkFewCards M) fun q2 =>
  if a0 = 1 then
    f_DS_most_b27 M 1
  else
    f_DS_most_b27 M 0
theorem t_DS_most {l : Launch} {ε : gEnv} (hX : gXw ε) (M : gMem) (a0 : Int32) (r : (Nat ⊕ (Int32 × gMem))) (h : f_DS_most M a0 = some r) : gGo l ε k_DS_most (gRT 152 6053 r) (gFT ε M (α := (Int32 × gMem)) (fun r => gFn ε (some (.int r.1)) r.2) r) 0 [(0, .ref (ε.2.2.1 18 0)), (1, .int a0)] [] M := by
  unfold f_DS_most at h
  refine g_iload_n d_DS_most_0 rfl 1 rfl ?_
  refine g_iconst (v := 1) d_DS_most_1 (by decide) ?_
  rcases gSq_o h with ⟨x9, hq1, rfl⟩ | ⟨q1, hq1, h⟩
  · exact g_callXS (As := [.int a0, .int 1]) (rest := []) (fun hl0 => ctx_DS_checkWhat hl0 M a0 1 _ hq1) d_DS_most_2 ca_DS_checkWhat w_604 rfl rfl (Nat.le_of_ble_eq_true rfl) ⟨Nat.le_of_ble_eq_true rfl, Nat.le_of_ble_eq_true rfl⟩ (Nat.le_refl _) (Nat.le_refl _)
  refine g_callS_v (As := [.int a0, .int 1]) (rest := []) (ctn_DS_checkWhat M a0 1 _ hq1) d_DS_most_2 ca_DS_checkWhat w_604 rfl rfl (Nat.le_of_ble_eq_true rfl) ⟨(by rw [gRT_f]; exact Nat.le_of_ble_eq_true rfl), (by rw [gRT_l]; exact Nat.le_of_ble_eq_true rfl)⟩ ?_
  refine g_aload_n d_DS_most_5 rfl 0 rfl ?_
  rcases gSq_o h with ⟨x9, hq2, rfl⟩ | ⟨q2, hq2, h⟩
  · exact g_callXV (As := []) (rest := []) (fun hl0 => ctx_DS_checkFewCards hl0 hX M _ hq2) d_DS_most_6 ca_DS_checkFewCards w_782 (gXw_h0 hX) rfl rfl rfl (Nat.le_of_ble_eq_true rfl) ⟨Nat.le_of_ble_eq_true rfl, Nat.le_of_ble_eq_true rfl⟩ (Nat.le_refl _) (Nat.le_refl _)
  refine g_callV_v (As := []) (rest := []) (ctn_DS_checkFewCards hX M _ hq2) d_DS_most_6 ca_DS_checkFewCards w_782 (gXw_h0 hX) rfl rfl rfl (Nat.le_of_ble_eq_true rfl) ⟨(by rw [gRT_f]; exact Nat.le_of_ble_eq_true rfl), (by rw [gRT_l]; exact Nat.le_of_ble_eq_true rfl)⟩ ?_
  refine g_aload_n d_DS_most_9 rfl 0 rfl ?_
  refine g_getR d_DS_most_10 fl_DS_43 (gXw_h0 hX) rfl ?_
  refine g_aload_n d_DS_most_13 rfl 0 rfl ?_
  refine g_getR d_DS_most_14 fl_DS_10 (gXw_h0 hX) rfl ?_
  refine g_iload_n d_DS_most_17 rfl 1 rfl ?_
  refine g_iconst (v := 1) d_DS_most_18 (by decide) ?_
  refine g_icmp_ne (tgt := 26) d_DS_most_19 (by decide) (fun c5 => ?_) (fun c5 => ?_)
  · rw [if_neg c5] at h
    refine g_iconst (v := 0) d_DS_most_26 (by decide) ?_
    refine gGo_sub [0] rfl ?_
    exact t_DS_most_b27 hX M M 0 _ h
  · rw [if_pos c5] at h
    refine g_iconst (v := 1) d_DS_most_22 (by decide) ?_
    refine g_goto (tgt := 27) d_DS_most_23 (by decide) ?_
    refine gGo_sub [0] rfl ?_
    exact t_DS_most_b27 hX M M 1 _ h
theorem ctn_DS_most {l : Launch} {ε : gEnv} (hX : gXw ε) (M : gMem) (a0 : Int32) (r : (Int32 × gMem)) (h : f_DS_most M a0 = some (.inr r)) : gCt l ε k_DS_most 152 6053 [.ref (ε.2.2.1 18 0), .int a0] M (some (.int r.1)) r.2 :=
  gCt_of (by decide) (Nat.le_of_ble_eq_true rfl) rfl (t_DS_most hX M a0 (.inr r) h)
theorem ctx_DS_most {l : Launch} {ε : gEnv} (hl0 : l.stackTraces = false) (hX : gXw ε) (M : gMem) (a0 : Int32) (x : Nat) (h : f_DS_most M a0 = some (.inl x)) : gCtX l ε k_DS_most 152 6053 [.ref (ε.2.2.1 18 0), .int a0] M (gXn x) M :=
  gCtX_of hl0 (by decide) (Nat.le_of_ble_eq_true rfl) rfl (t_DS_most hX M a0 (.inl x) h)
abbrev k_DS_bestCard : gMD := (⟨"DropSignals", "bestCard", "()I"⟩, prog_1_method_19_code, 1, (some .int))
theorem w_838 : Cond.instanceMethod ⟨"DropSignals", "bestCard", "()I"⟩ ∈ gWs := gWs_in (i := 838) (by decide +kernel) rfl
theorem w_839 : Cond.selects "DropSignals" ⟨"DropSignals", "bestCard", "()I"⟩ ⟨"DropSignals", "bestCard", "()I"⟩ ∈ gWs := gWs_in (i := 839) (by decide +kernel) rfl
set_option maxRecDepth 100000 in
theorem ca_DS_bestCard : gCaV k_DS_bestCard 0 := ⟨⟨gWs_in (i := 840) rfl rfl, w_20, by decide, by decide, by decide +kernel⟩, w_838, w_839⟩
theorem d_DS_bestCard_0 : decode prog_1_method_19_code 0 = .ok (.aload_n 0, 1) := by decide +kernel
theorem d_DS_bestCard_1 : decode prog_1_method_19_code 1 = .ok (.invokevirtual 214, 3) := by decide +kernel
theorem d_DS_bestCard_4 : decode prog_1_method_19_code 4 = .ok (.aload_n 0, 1) := by decide +kernel
theorem d_DS_bestCard_5 : decode prog_1_method_19_code 5 = .ok (.getfield 43, 3) := by decide +kernel
theorem d_DS_bestCard_8 : decode prog_1_method_19_code 8 = .ok (.aload_n 0, 1) := by decide +kernel
theorem d_DS_bestCard_9 : decode prog_1_method_19_code 9 = .ok (.getfield 10, 3) := by decide +kernel
theorem d_DS_bestCard_12 : decode prog_1_method_19_code 12 = .ok (.iconst 1, 1) := by decide +kernel
theorem d_DS_bestCard_13 : decode prog_1_method_19_code 13 = .ok (.invokevirtual 217, 3) := by decide +kernel
theorem d_DS_bestCard_16 : decode prog_1_method_19_code 16 = .ok (.aload_n 0, 1) := by decide +kernel
theorem d_DS_bestCard_17 : decode prog_1_method_19_code 17 = .ok (.getfield 43, 3) := by decide +kernel
theorem d_DS_bestCard_20 : decode prog_1_method_19_code 20 = .ok (.invokevirtual 224, 3) := by decide +kernel
theorem d_DS_bestCard_23 : decode prog_1_method_19_code 23 = .ok (.ireturn, 1) := by decide +kernel
theorem w_841 : Cond.methodLink "DropSignals" 224 ⟨"DropSignals$OpenCards", "lowestBest", "()I"⟩ ∈ gWs := gWs_in (i := 841) (by decide +kernel) rfl
noncomputable def f_DS_bestCard (M : gMem) : Option (Nat ⊕ (Int32 × gMem)) :=
  gSq (f_DS_checkFewCards M) fun q1 =>
  (f_Open_take 0 M 1).bind fun q2 =>
  (f_Open_lowestBest q2).bind fun q3 =>
  some (.inr (q3.1, q3.2))
theorem t_DS_bestCard {l : Launch} {ε : gEnv} (hX : gXw ε) (M : gMem) (r : (Nat ⊕ (Int32 × gMem))) (h : f_DS_bestCard M = some r) : gGo l ε k_DS_bestCard (gRT 152 6056 r) (gFT ε M (α := (Int32 × gMem)) (fun r => gFn ε (some (.int r.1)) r.2) r) 0 [(0, .ref (ε.2.2.1 18 0))] [] M := by
  unfold f_DS_bestCard at h
  refine g_aload_n d_DS_bestCard_0 rfl 0 rfl ?_
  rcases gSq_o h with ⟨x9, hq1, rfl⟩ | ⟨q1, hq1, h⟩
  · exact g_callXV (As := []) (rest := []) (fun hl0 => ctx_DS_checkFewCards hl0 hX M _ hq1) d_DS_bestCard_1 ca_DS_checkFewCards w_782 (gXw_h0 hX) rfl rfl rfl (Nat.le_of_ble_eq_true rfl) ⟨Nat.le_of_ble_eq_true rfl, Nat.le_of_ble_eq_true rfl⟩ (Nat.le_refl _) (Nat.le_refl _)
  refine g_callV_v (As := []) (rest := []) (ctn_DS_checkFewCards hX M _ hq1) d_DS_bestCard_1 ca_DS_checkFewCards w_782 (gXw_h0 hX) rfl rfl rfl (Nat.le_of_ble_eq_true rfl) ⟨(by rw [gRT_f]; exact Nat.le_of_ble_eq_true rfl), (by rw [gRT_l]; exact Nat.le_of_ble_eq_true rfl)⟩ ?_
  refine g_aload_n d_DS_bestCard_4 rfl 0 rfl ?_
  refine g_getR d_DS_bestCard_5 fl_DS_43 (gXw_h0 hX) rfl ?_
  refine g_aload_n d_DS_bestCard_8 rfl 0 rfl ?_
  refine g_getR d_DS_bestCard_9 fl_DS_10 (gXw_h0 hX) rfl ?_
  refine g_iconst (v := 1) d_DS_bestCard_12 (by decide) ?_
  obtain ⟨q2, hq2, h⟩ := gOb h
  refine g_callV_v (As := [.ref (ε.2.2.1 0 0), .int 1]) (rest := []) (ct_Open_take hX 0 (hX.1 0 (by decide)) M 1 _ hq2) d_DS_bestCard_13 ca_Open_take w_798 (gXw_h8 hX) rfl rfl rfl (Nat.le_of_ble_eq_true rfl) ⟨(by rw [gRT_f]; exact Nat.le_of_ble_eq_true rfl), (by rw [gRT_l]; exact Nat.le_of_ble_eq_true rfl)⟩ ?_
  refine g_aload_n d_DS_bestCard_16 rfl 0 rfl ?_
  refine g_getR d_DS_bestCard_17 fl_DS_43 (gXw_h0 hX) rfl ?_
  obtain ⟨q3, hq3, h⟩ := gOb h
  refine g_callV_i (As := []) (rest := []) (ct_Open_lowestBest hX q2 _ hq3) d_DS_bestCard_20 ca_Open_lowestBest w_841 (gXw_h8 hX) rfl rfl rfl (Nat.le_of_ble_eq_true rfl) ⟨(by rw [gRT_f]; exact Nat.le_of_ble_eq_true rfl), (by rw [gRT_l]; exact Nat.le_of_ble_eq_true rfl)⟩ ?_
  obtain rfl := Option.some.inj h
  exact g_iret d_DS_bestCard_23 rfl
theorem ctn_DS_bestCard {l : Launch} {ε : gEnv} (hX : gXw ε) (M : gMem) (r : (Int32 × gMem)) (h : f_DS_bestCard M = some (.inr r)) : gCt l ε k_DS_bestCard 152 6056 [.ref (ε.2.2.1 18 0)] M (some (.int r.1)) r.2 :=
  gCt_of (by decide) (Nat.le_of_ble_eq_true rfl) rfl (t_DS_bestCard hX M (.inr r) h)
theorem ctx_DS_bestCard {l : Launch} {ε : gEnv} (hl0 : l.stackTraces = false) (hX : gXw ε) (M : gMem) (x : Nat) (h : f_DS_bestCard M = some (.inl x)) : gCtX l ε k_DS_bestCard 152 6056 [.ref (ε.2.2.1 18 0)] M (gXn x) M :=
  gCtX_of hl0 (by decide) (Nat.le_of_ble_eq_true rfl) rfl (t_DS_bestCard hX M (.inl x) h)
abbrev k_DS_runScript : gMD := (⟨"DropSignals", "runScript", "(IJ)I"⟩, prog_1_method_20_code, 6, (some .int))
theorem w_897 : Cond.instanceMethod ⟨"DropSignals", "runScript", "(IJ)I"⟩ ∈ gWs := gWs_in (i := 897) (by decide +kernel) rfl
theorem w_898 : Cond.selects "DropSignals" ⟨"DropSignals", "runScript", "(IJ)I"⟩ ⟨"DropSignals", "runScript", "(IJ)I"⟩ ∈ gWs := gWs_in (i := 898) (by decide +kernel) rfl
set_option maxRecDepth 100000 in
theorem ca_DS_runScript : gCaV k_DS_runScript 2 := ⟨⟨gWs_in (i := 899) rfl rfl, w_20, by decide, by decide, by decide +kernel⟩, w_897, w_898⟩
theorem d_DS_runScript_0 : decode prog_1_method_20_code 0 = .ok (.iload_n 1, 1) := by decide +kernel
theorem d_DS_runScript_1 : decode prog_1_method_20_code 1 = .ok (.iconst 1, 1) := by decide +kernel
theorem d_DS_runScript_2 : decode prog_1_method_20_code 2 = .ok (.if_icmp .lt 24, 3) := by decide +kernel
theorem d_DS_runScript_5 : decode prog_1_method_20_code 5 = .ok (.iload_n 1, 1) := by decide +kernel
theorem d_DS_runScript_6 : decode prog_1_method_20_code 6 = .ok (.iconst 4, 1) := by decide +kernel
theorem d_DS_runScript_7 : decode prog_1_method_20_code 7 = .ok (.if_icmp .gt 19, 3) := by decide +kernel
theorem d_DS_runScript_10 : decode prog_1_method_20_code 10 = .ok (.lload_n 2, 1) := by decide +kernel
theorem d_DS_runScript_11 : decode prog_1_method_20_code 11 = .ok (.lconst 0, 1) := by decide +kernel
theorem d_DS_runScript_12 : decode prog_1_method_20_code 12 = .ok (.lcmp, 1) := by decide +kernel
theorem d_DS_runScript_13 : decode prog_1_method_20_code 13 = .ok (.ifCond .lt 13, 3) := by decide +kernel
theorem d_DS_runScript_16 : decode prog_1_method_20_code 16 = .ok (.lload_n 2, 1) := by decide +kernel
theorem d_DS_runScript_17 : decode prog_1_method_20_code 17 = .ok (.iload_n 1, 1) := by decide +kernel
theorem d_DS_runScript_18 : decode prog_1_method_20_code 18 = .ok (.invokestatic 227, 3) := by decide +kernel
theorem d_DS_runScript_21 : decode prog_1_method_20_code 21 = .ok (.lconst 0, 1) := by decide +kernel
theorem d_DS_runScript_22 : decode prog_1_method_20_code 22 = .ok (.lcmp, 1) := by decide +kernel
theorem d_DS_runScript_23 : decode prog_1_method_20_code 23 = .ok (.ifCond .eq 13, 3) := by decide +kernel
theorem d_DS_runScript_26 : decode prog_1_method_20_code 26 = .ok (.new 47, 3) := by decide +kernel
theorem d_DS_runScript_36 : decode prog_1_method_20_code 36 = .ok (.aload_n 0, 1) := by decide +kernel
theorem d_DS_runScript_37 : decode prog_1_method_20_code 37 = .ok (.getfield 16, 3) := by decide +kernel
theorem d_DS_runScript_40 : decode prog_1_method_20_code 40 = .ok (.aload_n 0, 1) := by decide +kernel
theorem d_DS_runScript_41 : decode prog_1_method_20_code 41 = .ok (.getfield 10, 3) := by decide +kernel
theorem d_DS_runScript_44 : decode prog_1_method_20_code 44 = .ok (.invokevirtual 233, 3) := by decide +kernel
theorem d_DS_runScript_47 : decode prog_1_method_20_code 47 = .ok (.iconst 0, 1) := by decide +kernel
theorem d_DS_runScript_48 : decode prog_1_method_20_code 48 = .ok (.istore 4, 2) := by decide +kernel
theorem d_DS_runScript_50 : decode prog_1_method_20_code 50 = .ok (.iload 4, 2) := by decide +kernel
theorem d_DS_runScript_52 : decode prog_1_method_20_code 52 = .ok (.iload_n 1, 1) := by decide +kernel
theorem d_DS_runScript_53 : decode prog_1_method_20_code 53 = .ok (.if_icmp .ge 41, 3) := by decide +kernel
theorem d_DS_runScript_56 : decode prog_1_method_20_code 56 = .ok (.lload_n 2, 1) := by decide +kernel
theorem d_DS_runScript_57 : decode prog_1_method_20_code 57 = .ok (.iload_n 1, 1) := by decide +kernel
theorem d_DS_runScript_58 : decode prog_1_method_20_code 58 = .ok (.iconst 1, 1) := by decide +kernel
theorem d_DS_runScript_59 : decode prog_1_method_20_code 59 = .ok (.isub, 1) := by decide +kernel
theorem d_DS_runScript_60 : decode prog_1_method_20_code 60 = .ok (.iload 4, 2) := by decide +kernel
theorem d_DS_runScript_62 : decode prog_1_method_20_code 62 = .ok (.isub, 1) := by decide +kernel
theorem d_DS_runScript_63 : decode prog_1_method_20_code 63 = .ok (.invokestatic 227, 3) := by decide +kernel
theorem d_DS_runScript_66 : decode prog_1_method_20_code 66 = .ok (.ldc2_w 236, 3) := by decide +kernel
theorem d_DS_runScript_69 : decode prog_1_method_20_code 69 = .ok (.lrem, 1) := by decide +kernel
theorem d_DS_runScript_70 : decode prog_1_method_20_code 70 = .ok (.l2i, 1) := by decide +kernel
theorem d_DS_runScript_71 : decode prog_1_method_20_code 71 = .ok (.istore 5, 2) := by decide +kernel
theorem d_DS_runScript_73 : decode prog_1_method_20_code 73 = .ok (.aload_n 0, 1) := by decide +kernel
theorem d_DS_runScript_74 : decode prog_1_method_20_code 74 = .ok (.getfield 16, 3) := by decide +kernel
theorem d_DS_runScript_77 : decode prog_1_method_20_code 77 = .ok (.iload 5, 2) := by decide +kernel
theorem d_DS_runScript_79 : decode prog_1_method_20_code 79 = .ok (.invokestatic 238, 3) := by decide +kernel
theorem d_DS_runScript_82 : decode prog_1_method_20_code 82 = .ok (.ifCond .ne 6, 3) := by decide +kernel
theorem d_DS_runScript_85 : decode prog_1_method_20_code 85 = .ok (.iload 4, 2) := by decide +kernel
theorem d_DS_runScript_87 : decode prog_1_method_20_code 87 = .ok (.ireturn, 1) := by decide +kernel
theorem d_DS_runScript_88 : decode prog_1_method_20_code 88 = .ok (.iinc 4 1, 3) := by decide +kernel
theorem d_DS_runScript_91 : decode prog_1_method_20_code 91 = .ok (.goto (-41), 3) := by decide +kernel
theorem d_DS_runScript_94 : decode prog_1_method_20_code 94 = .ok (.iconst (-1), 1) := by decide +kernel
theorem d_DS_runScript_95 : decode prog_1_method_20_code 95 = .ok (.ireturn, 1) := by decide +kernel
theorem d_DS_runScript_29 : decode prog_1_method_20_code 29 = .ok (.dup, 1) := by decide +kernel
theorem d_DS_runScript_30 : decode prog_1_method_20_code 30 = .ok (.ldc 231, 2) := by decide +kernel
theorem d_DS_runScript_32 : decode prog_1_method_20_code 32 = .ok (.invokespecial 51, 3) := by decide +kernel
theorem d_DS_runScript_35 : decode prog_1_method_20_code 35 = .ok (.athrow, 1) := by decide +kernel
theorem ws_231 : Cond.stringRef "DropSignals" 231 "no such script" ∈ lw_tbl := List.mem_of_getElem? (i := 904) (by decide +kernel)
theorem w_900 : Cond.methodLink "DropSignals" 227 ⟨"DropSignals", "withoutGroups", "(JI)J"⟩ ∈ gWs := gWs_in (i := 900) (by decide +kernel) rfl
theorem w_255 : Cond.fieldLink "DropSignals" 16 "DropSignals" "copy" "LDropSignals$Evening;" ∈ gWs := gWs_in (i := 255) (by decide +kernel) rfl
theorem fl_DS_16 : gFl "DropSignals" 16 7 1 := ⟨gN7, gF7, 6, rfl, uw_7, by decide, w_255⟩
theorem w_905 : Cond.methodLink "DropSignals" 233 ⟨"DropSignals$Evening", "copyFrom", "(LDropSignals$Evening;)V"⟩ ∈ gWs := gWs_in (i := 905) (by decide +kernel) rfl
theorem w_906 : Cond.methodLink "DropSignals" 238 ⟨"DropSignals$Scripts", "succeeds", "(LDropSignals$Evening;I)Z"⟩ ∈ gWs := gWs_in (i := 906) (by decide +kernel) rfl
noncomputable def f_DS_runScript_s50 (M : gMem) (x1 : Int32) (x2 : Int64) (x4 : Int32) : Option ((Int32 × gMem) ⊕ (Nat ⊕ (Int32 × gMem))) :=
  if x1 ≤ x4 then
    some (.inr (.inr ((-1), M)))
  else
    (f_DS_withoutGroups x2 ((x1 - 1) - x4)).bind fun q3 =>
    (f_Scr_succeeds 1 M (Int64.toInt32 (gRemL q3 (10000)))).bind fun q4 =>
    if q4.1 = 0 then
      some (.inr (.inr (x4, q4.2)))
    else
      some (.inl ((x4 + 1), q4.2))
theorem t_DS_runScript_s50 {l : Launch} {ε : gEnv} (hX : gXw ε) (M0 : gMem) (M : gMem) (x1 : Int32) (x2 : Int64) (x4 : Int32) (res : ((Int32 × gMem) ⊕ (Nat ⊕ (Int32 × gMem)))) (h : f_DS_runScript_s50 M x1 x2 x4 = some res) (r : (Nat ⊕ (Int32 × gMem))) (k1 : ∀ s0 : (Int32 × gMem), res = .inl s0 → gGo l ε k_DS_runScript (gRT 8 140 r) (gFT ε M0 (α := (Int32 × gMem)) (fun r => gFn ε (some (.int r.1)) r.2) r) 50 [(0, .ref (ε.2.2.1 18 0)), (1, .int x1), (2, .long x2), (4, .int s0.1)] [] s0.2) (k2 : ∀ r', res = .inr r' → r' = r) : gGo l ε k_DS_runScript (gRT 8 140 r) (gFT ε M0 (α := (Int32 × gMem)) (fun r => gFn ε (some (.int r.1)) r.2) r) 50 [(0, .ref (ε.2.2.1 18 0)), (1, .int x1), (2, .long x2), (4, .int x4)] [] M := by
  unfold f_DS_runScript_s50 at h
  refine g_iload d_DS_runScript_50 3 rfl ?_
  refine g_iload_n d_DS_runScript_52 rfl 1 rfl ?_
  refine g_icmp_ge (tgt := 94) d_DS_runScript_53 (by decide) (fun c6 => ?_) (fun c6 => ?_)
  · rw [if_pos c6] at h
    refine g_iconst (v := -1) d_DS_runScript_94 (by decide) ?_
    obtain rfl := Option.some.inj h
    have e9 := k2 _ rfl
    subst e9
    exact g_iret d_DS_runScript_95 rfl
  · rw [if_neg c6] at h
    refine g_lload_n d_DS_runScript_56 rfl 2 rfl ?_
    refine g_iload_n d_DS_runScript_57 rfl 1 rfl ?_
    refine g_iconst (v := 1) d_DS_runScript_58 (by decide) ?_
    refine g_isub d_DS_runScript_59 ?_
    refine g_iload d_DS_runScript_60 3 rfl ?_
    refine g_isub d_DS_runScript_62 ?_
    obtain ⟨q3, hq3, h⟩ := gOb h
    refine g_callS_l (As := [.long x2, .int ((x1 - 1) - x4)]) (rest := []) (ct_DS_withoutGroups M x2 ((x1 - 1) - x4) _ hq3) d_DS_runScript_63 ca_DS_withoutGroups w_900 rfl rfl (Nat.le_of_ble_eq_true rfl) ⟨(by rw [gRT_f]; exact Nat.le_of_ble_eq_true rfl), (by rw [gRT_l]; exact Nat.le_of_ble_eq_true rfl)⟩ ?_
    refine g_ldc2 d_DS_runScript_66 w_903 ?_
    refine g_remL d_DS_runScript_69 (by decide) ?_
    refine g_l2i d_DS_runScript_70 ?_
    refine g_istore (L' := [(5, .int (Int64.toInt32 (gRemL q3 (10000)))), (0, .ref (ε.2.2.1 18 0)), (1, .int x1), (2, .long x2), (4, .int x4)]) d_DS_runScript_71 (by decide) rfl ?_
    refine g_aload_n d_DS_runScript_73 rfl 1 rfl ?_
    refine g_getR d_DS_runScript_74 fl_DS_16 (gXw_h0 hX) rfl ?_
    refine g_iload d_DS_runScript_77 0 rfl ?_
    obtain ⟨q4, hq4, h⟩ := gOb h
    refine g_callS_i (As := [.ref (ε.2.2.1 1 0), .int (Int64.toInt32 (gRemL q3 (10000)))]) (rest := []) (ct_Scr_succeeds 1 (hX.1 1 (by decide)) M (Int64.toInt32 (gRemL q3 (10000))) _ hq4) d_DS_runScript_79 ca_Scr_succeeds w_906 rfl rfl (Nat.le_of_ble_eq_true rfl) ⟨(by rw [gRT_f]; exact Nat.le_of_ble_eq_true rfl), (by rw [gRT_l]; exact Nat.le_of_ble_eq_true rfl)⟩ ?_
    refine g_if_ne (tgt := 88) d_DS_runScript_82 (by decide) (fun c5 => ?_) (fun c5 => ?_)
    · rw [if_neg c5] at h
      refine g_iinc (v := (x4 + 1)) (L' := [(4, .int (x4 + 1)), (5, .int (Int64.toInt32 (gRemL q3 (10000)))), (0, .ref (ε.2.2.1 18 0)), (1, .int x1), (2, .long x2)]) d_DS_runScript_88 (j := 4) rfl rfl (by decide) rfl ?_
      refine g_goto (tgt := 50) d_DS_runScript_91 (by decide) ?_
      refine gGo_sub [2, 3, 4, 0] rfl ?_
      obtain rfl := Option.some.inj h
      exact k1 ((x4 + 1), q4.2) rfl
    · rw [if_pos c5] at h
      refine g_iload d_DS_runScript_85 4 rfl ?_
      obtain rfl := Option.some.inj h
      have e9 := k2 _ rfl
      subst e9
      exact g_iret d_DS_runScript_87 rfl
noncomputable def f_DS_runScript_l50 (x1 : Int32) (x2 : Int64) (s : (Int32 × gMem)) : Option (Nat ⊕ (Int32 × gMem)) := gLp (fun s => f_DS_runScript_s50 s.2 x1 x2 s.1) s
theorem t_DS_runScript_l50 {l : Launch} {ε : gEnv} (hX : gXw ε) (M0 : gMem) (x1 : Int32) (x2 : Int64) (s : (Int32 × gMem)) (r : (Nat ⊕ (Int32 × gMem))) (h : f_DS_runScript_l50 x1 x2 s = some r) : gGo l ε k_DS_runScript (gRT 8 140 r) (gFT ε M0 (α := (Int32 × gMem)) (fun r => gFn ε (some (.int r.1)) r.2) r) 50 [(0, .ref (ε.2.2.1 18 0)), (1, .int x1), (2, .long x2), (4, .int s.1)] [] s.2 :=
  g_loop _ (fun r s => gGo l ε k_DS_runScript (gRT 8 140 r) (gFT ε M0 (α := (Int32 × gMem)) (fun r => gFn ε (some (.int r.1)) r.2) r) 50 [(0, .ref (ε.2.2.1 18 0)), (1, .int x1), (2, .long x2), (4, .int s.1)] [] s.2) (fun s res h r k1 k2 => t_DS_runScript_s50 hX M0 s.2 x1 x2 s.1 res h r k1 k2) s r h
noncomputable def f_DS_runScript (M : gMem) (a0 : Int32) (a1 : Int64) : Option (Nat ⊕ (Int32 × gMem)) :=
  if a0 < 1 then
    some (.inl 1)
  else
    if 4 < a0 then
      some (.inl 1)
    else
      if (lg_cmp a1 0) < 0 then
        some (.inl 1)
      else
        (f_DS_withoutGroups a1 a0).bind fun q1 =>
        if (lg_cmp q1 0) = 0 then
          (f_Ev_copyFrom 1 0 M).bind fun q2 =>
          f_DS_runScript_l50 a0 a1 (0, q2)
        else
          some (.inl 1)
theorem t_DS_runScript {l : Launch} {ε : gEnv} (hX : gXw ε) (M : gMem) (a0 : Int32) (a1 : Int64) (r : (Nat ⊕ (Int32 × gMem))) (h : f_DS_runScript M a0 a1 = some r) : gGo l ε k_DS_runScript (gRT 8 140 r) (gFT ε M (α := (Int32 × gMem)) (fun r => gFn ε (some (.int r.1)) r.2) r) 0 [(0, .ref (ε.2.2.1 18 0)), (1, .int a0), (2, .long a1)] [] M := by
  unfold f_DS_runScript at h
  refine g_iload_n d_DS_runScript_0 rfl 1 rfl ?_
  refine g_iconst (v := 1) d_DS_runScript_1 (by decide) ?_
  refine g_icmp_lt (tgt := 26) d_DS_runScript_2 (by decide) (fun c10 => ?_) (fun c10 => ?_)
  · rw [if_pos c10] at h
    obtain rfl := Option.some.inj h
    exact g_throw rfl d_DS_runScript_26 d_DS_runScript_29 d_DS_runScript_30 d_DS_runScript_32 d_DS_runScript_35 w_293 w_32 ws_231 xa_1_51 xg_1_51_47 (by decide) (Nat.le_of_ble_eq_true rfl) (Nat.le_of_ble_eq_true rfl) (Nat.le_refl _) (Nat.le_refl _)
  · rw [if_neg c10] at h
    refine g_iload_n d_DS_runScript_5 rfl 1 rfl ?_
    refine g_iconst (v := 4) d_DS_runScript_6 (by decide) ?_
    refine g_icmp_gt (tgt := 26) d_DS_runScript_7 (by decide) (fun c9 => ?_) (fun c9 => ?_)
    · rw [if_pos c9] at h
      obtain rfl := Option.some.inj h
      exact g_throw rfl d_DS_runScript_26 d_DS_runScript_29 d_DS_runScript_30 d_DS_runScript_32 d_DS_runScript_35 w_293 w_32 ws_231 xa_1_51 xg_1_51_47 (by decide) (Nat.le_of_ble_eq_true rfl) (Nat.le_of_ble_eq_true rfl) (Nat.le_refl _) (Nat.le_refl _)
    · rw [if_neg c9] at h
      refine g_lload_n d_DS_runScript_10 rfl 2 rfl ?_
      refine g_lconst (v := 0) d_DS_runScript_11 (by decide) ?_
      refine g_lcmp d_DS_runScript_12 ?_
      refine g_if_lt (tgt := 26) d_DS_runScript_13 (by decide) (fun c8 => ?_) (fun c8 => ?_)
      · rw [if_pos c8] at h
        obtain rfl := Option.some.inj h
        exact g_throw rfl d_DS_runScript_26 d_DS_runScript_29 d_DS_runScript_30 d_DS_runScript_32 d_DS_runScript_35 w_293 w_32 ws_231 xa_1_51 xg_1_51_47 (by decide) (Nat.le_of_ble_eq_true rfl) (Nat.le_of_ble_eq_true rfl) (Nat.le_refl _) (Nat.le_refl _)
      · rw [if_neg c8] at h
        refine g_lload_n d_DS_runScript_16 rfl 2 rfl ?_
        refine g_iload_n d_DS_runScript_17 rfl 1 rfl ?_
        obtain ⟨q1, hq1, h⟩ := gOb h
        refine g_callS_l (As := [.long a1, .int a0]) (rest := []) (ct_DS_withoutGroups M a1 a0 _ hq1) d_DS_runScript_18 ca_DS_withoutGroups w_900 rfl rfl (Nat.le_of_ble_eq_true rfl) ⟨(by rw [gRT_f]; exact Nat.le_of_ble_eq_true rfl), (by rw [gRT_l]; exact Nat.le_of_ble_eq_true rfl)⟩ ?_
        refine g_lconst (v := 0) d_DS_runScript_21 (by decide) ?_
        refine g_lcmp d_DS_runScript_22 ?_
        refine g_if_eq (tgt := 36) d_DS_runScript_23 (by decide) (fun c7 => ?_) (fun c7 => ?_)
        · rw [if_pos c7] at h
          refine g_aload_n d_DS_runScript_36 rfl 0 rfl ?_
          refine g_getR d_DS_runScript_37 fl_DS_16 (gXw_h0 hX) rfl ?_
          refine g_aload_n d_DS_runScript_40 rfl 0 rfl ?_
          refine g_getR d_DS_runScript_41 fl_DS_10 (gXw_h0 hX) rfl ?_
          obtain ⟨q2, hq2, h⟩ := gOb h
          refine g_callV_v (As := [.ref (ε.2.2.1 0 0)]) (rest := []) (ct_Ev_copyFrom 1 0 (hX.1 1 (by decide)) (hX.1 0 (by decide)) M _ hq2) d_DS_runScript_44 ca_Ev_copyFrom w_905 (gEv_h0 (hX.1 1 (by decide))) rfl rfl rfl (Nat.le_of_ble_eq_true rfl) ⟨(by rw [gRT_f]; exact Nat.le_of_ble_eq_true rfl), (by rw [gRT_l]; exact Nat.le_of_ble_eq_true rfl)⟩ ?_
          refine g_iconst (v := 0) d_DS_runScript_47 (by decide) ?_
          refine g_istore (L' := [(4, .int 0), (0, .ref (ε.2.2.1 18 0)), (1, .int a0), (2, .long a1)]) d_DS_runScript_48 (by decide) rfl ?_
          refine gGo_sub [1, 2, 3, 0] rfl ?_
          exact t_DS_runScript_l50 hX M a0 a1 (0, q2) _ h
        · rw [if_neg c7] at h
          obtain rfl := Option.some.inj h
          exact g_throw rfl d_DS_runScript_26 d_DS_runScript_29 d_DS_runScript_30 d_DS_runScript_32 d_DS_runScript_35 w_293 w_32 ws_231 xa_1_51 xg_1_51_47 (by decide) (Nat.le_of_ble_eq_true rfl) (Nat.le_of_ble_eq_true rfl) (Nat.le_refl _) (Nat.le_refl _)
theorem ctn_DS_runScript {l : Launch} {ε : gEnv} (hX : gXw ε) (M : gMem) (a0 : Int32) (a1 : Int64) (r : (Int32 × gMem)) (h : f_DS_runScript M a0 a1 = some (.inr r)) : gCt l ε k_DS_runScript 8 140 [.ref (ε.2.2.1 18 0), .int a0, .long a1] M (some (.int r.1)) r.2 :=
  gCt_of (by decide) (Nat.le_of_ble_eq_true rfl) rfl (t_DS_runScript hX M a0 a1 (.inr r) h)
theorem ctx_DS_runScript {l : Launch} {ε : gEnv} (hl0 : l.stackTraces = false) (hX : gXw ε) (M : gMem) (a0 : Int32) (a1 : Int64) (x : Nat) (h : f_DS_runScript M a0 a1 = some (.inl x)) : gCtX l ε k_DS_runScript 8 140 [.ref (ε.2.2.1 18 0), .int a0, .long a1] M (gXn x) M :=
  gCtX_of hl0 (by decide) (Nat.le_of_ble_eq_true rfl) rfl (t_DS_runScript hX M a0 a1 (.inl x) h)
abbrev k_DS_simulate : gMD := (⟨"DropSignals", "simulate", "(JI)I"⟩, prog_1_method_21_code, 7, (some .int))
theorem w_925 : Cond.instanceMethod ⟨"DropSignals", "simulate", "(JI)I"⟩ ∈ gWs := gWs_in (i := 925) (by decide +kernel) rfl
theorem w_926 : Cond.selects "DropSignals" ⟨"DropSignals", "simulate", "(JI)I"⟩ ⟨"DropSignals", "simulate", "(JI)I"⟩ ∈ gWs := gWs_in (i := 926) (by decide +kernel) rfl
set_option maxRecDepth 100000 in
theorem ca_DS_simulate : gCaV k_DS_simulate 2 := ⟨⟨gWs_in (i := 927) rfl rfl, w_20, by decide, by decide, by decide +kernel⟩, w_925, w_926⟩
theorem d_DS_simulate_0 : decode prog_1_method_21_code 0 = .ok (.iload_n 3, 1) := by decide +kernel
theorem d_DS_simulate_1 : decode prog_1_method_21_code 1 = .ok (.iconst 1, 1) := by decide +kernel
theorem d_DS_simulate_2 : decode prog_1_method_21_code 2 = .ok (.if_icmp .lt 10, 3) := by decide +kernel
theorem d_DS_simulate_5 : decode prog_1_method_21_code 5 = .ok (.iload_n 3, 1) := by decide +kernel
theorem d_DS_simulate_6 : decode prog_1_method_21_code 6 = .ok (.sipush 200, 3) := by decide +kernel
theorem d_DS_simulate_9 : decode prog_1_method_21_code 9 = .ok (.if_icmp .le 13, 3) := by decide +kernel
theorem d_DS_simulate_12 : decode prog_1_method_21_code 12 = .ok (.new 47, 3) := by decide +kernel
theorem d_DS_simulate_22 : decode prog_1_method_21_code 22 = .ok (.aload_n 0, 1) := by decide +kernel
theorem d_DS_simulate_23 : decode prog_1_method_21_code 23 = .ok (.getfield 16, 3) := by decide +kernel
theorem d_DS_simulate_26 : decode prog_1_method_21_code 26 = .ok (.aload_n 0, 1) := by decide +kernel
theorem d_DS_simulate_27 : decode prog_1_method_21_code 27 = .ok (.getfield 10, 3) := by decide +kernel
theorem d_DS_simulate_30 : decode prog_1_method_21_code 30 = .ok (.invokevirtual 233, 3) := by decide +kernel
theorem d_DS_simulate_33 : decode prog_1_method_21_code 33 = .ok (.lload_n 1, 1) := by decide +kernel
theorem d_DS_simulate_34 : decode prog_1_method_21_code 34 = .ok (.lstore 4, 2) := by decide +kernel
theorem d_DS_simulate_36 : decode prog_1_method_21_code 36 = .ok (.iconst 0, 1) := by decide +kernel
theorem d_DS_simulate_37 : decode prog_1_method_21_code 37 = .ok (.istore 6, 2) := by decide +kernel
theorem d_DS_simulate_39 : decode prog_1_method_21_code 39 = .ok (.iload 6, 2) := by decide +kernel
theorem d_DS_simulate_41 : decode prog_1_method_21_code 41 = .ok (.iload_n 3, 1) := by decide +kernel
theorem d_DS_simulate_42 : decode prog_1_method_21_code 42 = .ok (.if_icmp .ge 28, 3) := by decide +kernel
theorem d_DS_simulate_45 : decode prog_1_method_21_code 45 = .ok (.lload 4, 2) := by decide +kernel
theorem d_DS_simulate_47 : decode prog_1_method_21_code 47 = .ok (.invokestatic 245, 3) := by decide +kernel
theorem d_DS_simulate_50 : decode prog_1_method_21_code 50 = .ok (.lstore 4, 2) := by decide +kernel
theorem d_DS_simulate_52 : decode prog_1_method_21_code 52 = .ok (.aload_n 0, 1) := by decide +kernel
theorem d_DS_simulate_53 : decode prog_1_method_21_code 53 = .ok (.getfield 16, 3) := by decide +kernel
theorem d_DS_simulate_56 : decode prog_1_method_21_code 56 = .ok (.lload 4, 2) := by decide +kernel
theorem d_DS_simulate_58 : decode prog_1_method_21_code 58 = .ok (.invokestatic 249, 3) := by decide +kernel
theorem d_DS_simulate_61 : decode prog_1_method_21_code 61 = .ok (.invokestatic 253, 3) := by decide +kernel
theorem d_DS_simulate_64 : decode prog_1_method_21_code 64 = .ok (.iinc 6 1, 3) := by decide +kernel
theorem d_DS_simulate_67 : decode prog_1_method_21_code 67 = .ok (.goto (-28), 3) := by decide +kernel
theorem d_DS_simulate_70 : decode prog_1_method_21_code 70 = .ok (.sipush 10000, 3) := by decide +kernel
theorem d_DS_simulate_73 : decode prog_1_method_21_code 73 = .ok (.aload_n 0, 1) := by decide +kernel
theorem d_DS_simulate_74 : decode prog_1_method_21_code 74 = .ok (.getfield 16, 3) := by decide +kernel
theorem d_DS_simulate_77 : decode prog_1_method_21_code 77 = .ok (.getfield 257, 3) := by decide +kernel
theorem d_DS_simulate_80 : decode prog_1_method_21_code 80 = .ok (.aload_n 0, 1) := by decide +kernel
theorem d_DS_simulate_81 : decode prog_1_method_21_code 81 = .ok (.getfield 10, 3) := by decide +kernel
theorem d_DS_simulate_84 : decode prog_1_method_21_code 84 = .ok (.getfield 257, 3) := by decide +kernel
theorem d_DS_simulate_87 : decode prog_1_method_21_code 87 = .ok (.isub, 1) := by decide +kernel
theorem d_DS_simulate_88 : decode prog_1_method_21_code 88 = .ok (.imul, 1) := by decide +kernel
theorem d_DS_simulate_89 : decode prog_1_method_21_code 89 = .ok (.bipush 100, 2) := by decide +kernel
theorem d_DS_simulate_91 : decode prog_1_method_21_code 91 = .ok (.aload_n 0, 1) := by decide +kernel
theorem d_DS_simulate_92 : decode prog_1_method_21_code 92 = .ok (.getfield 16, 3) := by decide +kernel
theorem d_DS_simulate_95 : decode prog_1_method_21_code 95 = .ok (.getfield 260, 3) := by decide +kernel
theorem d_DS_simulate_98 : decode prog_1_method_21_code 98 = .ok (.aload_n 0, 1) := by decide +kernel
theorem d_DS_simulate_99 : decode prog_1_method_21_code 99 = .ok (.getfield 10, 3) := by decide +kernel
theorem d_DS_simulate_102 : decode prog_1_method_21_code 102 = .ok (.getfield 260, 3) := by decide +kernel
theorem d_DS_simulate_105 : decode prog_1_method_21_code 105 = .ok (.isub, 1) := by decide +kernel
theorem d_DS_simulate_106 : decode prog_1_method_21_code 106 = .ok (.imul, 1) := by decide +kernel
theorem d_DS_simulate_107 : decode prog_1_method_21_code 107 = .ok (.iadd, 1) := by decide +kernel
theorem d_DS_simulate_108 : decode prog_1_method_21_code 108 = .ok (.aload_n 0, 1) := by decide +kernel
theorem d_DS_simulate_109 : decode prog_1_method_21_code 109 = .ok (.getfield 16, 3) := by decide +kernel
theorem d_DS_simulate_112 : decode prog_1_method_21_code 112 = .ok (.getfield 153, 3) := by decide +kernel
theorem d_DS_simulate_115 : decode prog_1_method_21_code 115 = .ok (.aload_n 0, 1) := by decide +kernel
theorem d_DS_simulate_116 : decode prog_1_method_21_code 116 = .ok (.getfield 10, 3) := by decide +kernel
theorem d_DS_simulate_119 : decode prog_1_method_21_code 119 = .ok (.getfield 153, 3) := by decide +kernel
theorem d_DS_simulate_122 : decode prog_1_method_21_code 122 = .ok (.isub, 1) := by decide +kernel
theorem d_DS_simulate_123 : decode prog_1_method_21_code 123 = .ok (.iadd, 1) := by decide +kernel
theorem d_DS_simulate_124 : decode prog_1_method_21_code 124 = .ok (.ireturn, 1) := by decide +kernel
theorem d_DS_simulate_15 : decode prog_1_method_21_code 15 = .ok (.dup, 1) := by decide +kernel
theorem d_DS_simulate_16 : decode prog_1_method_21_code 16 = .ok (.ldc 243, 2) := by decide +kernel
theorem d_DS_simulate_18 : decode prog_1_method_21_code 18 = .ok (.invokespecial 51, 3) := by decide +kernel
theorem d_DS_simulate_21 : decode prog_1_method_21_code 21 = .ok (.athrow, 1) := by decide +kernel
theorem ws_243 : Cond.stringRef "DropSignals" 243 "no such number of turns" ∈ lw_tbl := List.mem_of_getElem? (i := 928) (by decide +kernel)
theorem fl_DS_257 : gFlN "DropSignals" 257 2 11 := ⟨gN2, gF2, 14, 141, "DropSignals", rfl, uw_2, by decide, by decide +kernel⟩
theorem fl_DS_260 : gFlN "DropSignals" 260 2 12 := ⟨gN2, gF2, 14, 143, "DropSignals", rfl, uw_2, by decide, by decide +kernel⟩
theorem w_929 : Cond.methodLink "DropSignals" 245 ⟨"DropSignals", "following", "(J)J"⟩ ∈ gWs := gWs_in (i := 929) (by decide +kernel) rfl
theorem w_930 : Cond.methodLink "DropSignals" 249 ⟨"DropSignals", "upperBits", "(J)I"⟩ ∈ gWs := gWs_in (i := 930) (by decide +kernel) rfl
theorem w_931 : Cond.methodLink "DropSignals" 253 ⟨"DropSignals$Scripts", "doTurn", "(LDropSignals$Evening;I)V"⟩ ∈ gWs := gWs_in (i := 931) (by decide +kernel) rfl
noncomputable def f_DS_simulate_s39 (M : gMem) (x3 : Int32) (x4 : Int64) (x6 : Int32) : Option ((Int64 × Int32 × gMem) ⊕ (Nat ⊕ (Int32 × gMem))) :=
  if x3 ≤ x6 then
    some (.inr (.inr ((((10000 * ((M 1 0 11) - (M 0 0 11))) + (100 * ((M 1 0 12) - (M 0 0 12)))) + ((M 1 0 4) - (M 0 0 4))), M)))
  else
    (f_DS_following x4).bind fun q2 =>
    (f_DS_upperBits q2).bind fun q3 =>
    (f_Scr_doTurn 1 M q3).bind fun q4 =>
    some (.inl (q2, (x6 + 1), q4))
theorem t_DS_simulate_s39 {l : Launch} {ε : gEnv} (hX : gXw ε) (M0 : gMem) (M : gMem) (x3 : Int32) (x4 : Int64) (x6 : Int32) (res : ((Int64 × Int32 × gMem) ⊕ (Nat ⊕ (Int32 × gMem)))) (h : f_DS_simulate_s39 M x3 x4 x6 = some res) (r : (Nat ⊕ (Int32 × gMem))) (k1 : ∀ s0 : (Int64 × Int32 × gMem), res = .inl s0 → gGo l ε k_DS_simulate (gRT 8 138 r) (gFT ε M0 (α := (Int32 × gMem)) (fun r => gFn ε (some (.int r.1)) r.2) r) 39 [(0, .ref (ε.2.2.1 18 0)), (3, .int x3), (4, .long s0.1), (6, .int s0.2.1)] [] s0.2.2) (k2 : ∀ r', res = .inr r' → r' = r) : gGo l ε k_DS_simulate (gRT 8 138 r) (gFT ε M0 (α := (Int32 × gMem)) (fun r => gFn ε (some (.int r.1)) r.2) r) 39 [(0, .ref (ε.2.2.1 18 0)), (3, .int x3), (4, .long x4), (6, .int x6)] [] M := by
  unfold f_DS_simulate_s39 at h
  refine g_iload d_DS_simulate_39 3 rfl ?_
  refine g_iload_n d_DS_simulate_41 rfl 1 rfl ?_
  refine g_icmp_ge (tgt := 70) d_DS_simulate_42 (by decide) (fun c5 => ?_) (fun c5 => ?_)
  · rw [if_pos c5] at h
    refine g_sipush (v := 10000) d_DS_simulate_70 (by decide) ?_
    refine g_aload_n d_DS_simulate_73 rfl 0 rfl ?_
    refine g_getR d_DS_simulate_74 fl_DS_16 (gXw_h0 hX) rfl ?_
    refine g_getIN d_DS_simulate_77 fl_DS_257 (gEv_h0 (hX.1 1 (by decide))) rfl ?_
    refine g_aload_n d_DS_simulate_80 rfl 0 rfl ?_
    refine g_getR d_DS_simulate_81 fl_DS_10 (gXw_h0 hX) rfl ?_
    refine g_getIN d_DS_simulate_84 fl_DS_257 (gEv_h0 (hX.1 0 (by decide))) rfl ?_
    refine g_isub d_DS_simulate_87 ?_
    refine g_imul d_DS_simulate_88 ?_
    refine g_bipush (v := 100) d_DS_simulate_89 (by decide) ?_
    refine g_aload_n d_DS_simulate_91 rfl 0 rfl ?_
    refine g_getR d_DS_simulate_92 fl_DS_16 (gXw_h0 hX) rfl ?_
    refine g_getIN d_DS_simulate_95 fl_DS_260 (gEv_h0 (hX.1 1 (by decide))) rfl ?_
    refine g_aload_n d_DS_simulate_98 rfl 0 rfl ?_
    refine g_getR d_DS_simulate_99 fl_DS_10 (gXw_h0 hX) rfl ?_
    refine g_getIN d_DS_simulate_102 fl_DS_260 (gEv_h0 (hX.1 0 (by decide))) rfl ?_
    refine g_isub d_DS_simulate_105 ?_
    refine g_imul d_DS_simulate_106 ?_
    refine g_iadd d_DS_simulate_107 ?_
    refine g_aload_n d_DS_simulate_108 rfl 0 rfl ?_
    refine g_getR d_DS_simulate_109 fl_DS_16 (gXw_h0 hX) rfl ?_
    refine g_getIN d_DS_simulate_112 fl_DS_153 (gEv_h0 (hX.1 1 (by decide))) rfl ?_
    refine g_aload_n d_DS_simulate_115 rfl 0 rfl ?_
    refine g_getR d_DS_simulate_116 fl_DS_10 (gXw_h0 hX) rfl ?_
    refine g_getIN d_DS_simulate_119 fl_DS_153 (gEv_h0 (hX.1 0 (by decide))) rfl ?_
    refine g_isub d_DS_simulate_122 ?_
    refine g_iadd d_DS_simulate_123 ?_
    obtain rfl := Option.some.inj h
    have e9 := k2 _ rfl
    subst e9
    exact g_iret d_DS_simulate_124 rfl
  · rw [if_neg c5] at h
    refine g_lload d_DS_simulate_45 2 rfl ?_
    obtain ⟨q2, hq2, h⟩ := gOb h
    refine g_callS_l (As := [.long x4]) (rest := []) (ct_DS_following M x4 _ hq2) d_DS_simulate_47 ca_DS_following w_929 rfl rfl (Nat.le_of_ble_eq_true rfl) ⟨(by rw [gRT_f]; exact Nat.le_of_ble_eq_true rfl), (by rw [gRT_l]; exact Nat.le_of_ble_eq_true rfl)⟩ ?_
    refine g_lstore (L' := [(4, .long q2), (0, .ref (ε.2.2.1 18 0)), (3, .int x3), (6, .int x6)]) d_DS_simulate_50 (by decide) rfl ?_
    refine g_aload_n d_DS_simulate_52 rfl 1 rfl ?_
    refine g_getR d_DS_simulate_53 fl_DS_16 (gXw_h0 hX) rfl ?_
    refine g_lload d_DS_simulate_56 0 rfl ?_
    obtain ⟨q3, hq3, h⟩ := gOb h
    refine g_callS_i (As := [.long q2]) (rest := [.ref (ε.2.2.1 1 0)]) (ct_DS_upperBits M q2 _ hq3) d_DS_simulate_58 ca_DS_upperBits w_930 rfl rfl (Nat.le_of_ble_eq_true rfl) ⟨(by rw [gRT_f]; exact Nat.le_of_ble_eq_true rfl), (by rw [gRT_l]; exact Nat.le_of_ble_eq_true rfl)⟩ ?_
    obtain ⟨q4, hq4, h⟩ := gOb h
    refine g_callS_v (As := [.ref (ε.2.2.1 1 0), .int q3]) (rest := []) (ct_Scr_doTurn 1 (hX.1 1 (by decide)) M q3 _ hq4) d_DS_simulate_61 ca_Scr_doTurn w_931 rfl rfl (Nat.le_of_ble_eq_true rfl) ⟨(by rw [gRT_f]; exact Nat.le_of_ble_eq_true rfl), (by rw [gRT_l]; exact Nat.le_of_ble_eq_true rfl)⟩ ?_
    refine g_iinc (v := (x6 + 1)) (L' := [(6, .int (x6 + 1)), (4, .long q2), (0, .ref (ε.2.2.1 18 0)), (3, .int x3)]) d_DS_simulate_64 (j := 3) rfl rfl (by decide) rfl ?_
    refine g_goto (tgt := 39) d_DS_simulate_67 (by decide) ?_
    refine gGo_sub [2, 3, 1, 0] rfl ?_
    obtain rfl := Option.some.inj h
    exact k1 (q2, (x6 + 1), q4) rfl
noncomputable def f_DS_simulate_l39 (x3 : Int32) (s : (Int64 × Int32 × gMem)) : Option (Nat ⊕ (Int32 × gMem)) := gLp (fun s => f_DS_simulate_s39 s.2.2 x3 s.1 s.2.1) s
theorem t_DS_simulate_l39 {l : Launch} {ε : gEnv} (hX : gXw ε) (M0 : gMem) (x3 : Int32) (s : (Int64 × Int32 × gMem)) (r : (Nat ⊕ (Int32 × gMem))) (h : f_DS_simulate_l39 x3 s = some r) : gGo l ε k_DS_simulate (gRT 8 138 r) (gFT ε M0 (α := (Int32 × gMem)) (fun r => gFn ε (some (.int r.1)) r.2) r) 39 [(0, .ref (ε.2.2.1 18 0)), (3, .int x3), (4, .long s.1), (6, .int s.2.1)] [] s.2.2 :=
  g_loop _ (fun r s => gGo l ε k_DS_simulate (gRT 8 138 r) (gFT ε M0 (α := (Int32 × gMem)) (fun r => gFn ε (some (.int r.1)) r.2) r) 39 [(0, .ref (ε.2.2.1 18 0)), (3, .int x3), (4, .long s.1), (6, .int s.2.1)] [] s.2.2) (fun s res h r k1 k2 => t_DS_simulate_s39 hX M0 s.2.2 x3 s.1 s.2.1 res h r k1 k2) s r h
noncomputable def f_DS_simulate (M : gMem) (a0 : Int64) (a1 : Int32) : Option (Nat ⊕ (Int32 × gMem)) :=
  if a1 < 1 then
    some (.inl 1)
  else
    if a1 ≤ 200 then
      (f_Ev_copyFrom 1 0 M).bind fun q1 =>
      f_DS_simulate_l39 a1 (a0, 0, q1)
    else
      some (.inl 1)
theorem t_DS_simulate {l : Launch} {ε : gEnv} (hX : gXw ε) (M : gMem) (a0 : Int64) (a1 : Int32) (r : (Nat ⊕ (Int32 × gMem))) (h : f_DS_simulate M a0 a1 = some r) : gGo l ε k_DS_simulate (gRT 8 138 r) (gFT ε M (α := (Int32 × gMem)) (fun r => gFn ε (some (.int r.1)) r.2) r) 0 [(0, .ref (ε.2.2.1 18 0)), (1, .long a0), (3, .int a1)] [] M := by
  unfold f_DS_simulate at h
  refine g_iload_n d_DS_simulate_0 rfl 2 rfl ?_
  refine g_iconst (v := 1) d_DS_simulate_1 (by decide) ?_
  refine g_icmp_lt (tgt := 12) d_DS_simulate_2 (by decide) (fun c7 => ?_) (fun c7 => ?_)
  · rw [if_pos c7] at h
    obtain rfl := Option.some.inj h
    exact g_throw rfl d_DS_simulate_12 d_DS_simulate_15 d_DS_simulate_16 d_DS_simulate_18 d_DS_simulate_21 w_293 w_32 ws_243 xa_1_51 xg_1_51_47 (by decide) (Nat.le_of_ble_eq_true rfl) (Nat.le_of_ble_eq_true rfl) (Nat.le_refl _) (Nat.le_refl _)
  · rw [if_neg c7] at h
    refine g_iload_n d_DS_simulate_5 rfl 2 rfl ?_
    refine g_sipush (v := 200) d_DS_simulate_6 (by decide) ?_
    refine g_icmp_le (tgt := 22) d_DS_simulate_9 (by decide) (fun c6 => ?_) (fun c6 => ?_)
    · rw [if_pos c6] at h
      refine g_aload_n d_DS_simulate_22 rfl 0 rfl ?_
      refine g_getR d_DS_simulate_23 fl_DS_16 (gXw_h0 hX) rfl ?_
      refine g_aload_n d_DS_simulate_26 rfl 0 rfl ?_
      refine g_getR d_DS_simulate_27 fl_DS_10 (gXw_h0 hX) rfl ?_
      obtain ⟨q1, hq1, h⟩ := gOb h
      refine g_callV_v (As := [.ref (ε.2.2.1 0 0)]) (rest := []) (ct_Ev_copyFrom 1 0 (hX.1 1 (by decide)) (hX.1 0 (by decide)) M _ hq1) d_DS_simulate_30 ca_Ev_copyFrom w_905 (gEv_h0 (hX.1 1 (by decide))) rfl rfl rfl (Nat.le_of_ble_eq_true rfl) ⟨(by rw [gRT_f]; exact Nat.le_of_ble_eq_true rfl), (by rw [gRT_l]; exact Nat.le_of_ble_eq_true rfl)⟩ ?_
      refine g_lload_n d_DS_simulate_33 rfl 1 rfl ?_
      refine g_lstore (L' := [(4, .long a0), (0, .ref (ε.2.2.1 18 0)), (1, .long a0), (3, .int a1)]) d_DS_simulate_34 (by decide) rfl ?_
      refine g_iconst (v := 0) d_DS_simulate_36 (by decide) ?_
      refine g_istore (L' := [(6, .int 0), (4, .long a0), (0, .ref (ε.2.2.1 18 0)), (1, .long a0), (3, .int a1)]) d_DS_simulate_37 (by decide) rfl ?_
      refine gGo_sub [2, 4, 1, 0] rfl ?_
      exact t_DS_simulate_l39 hX M a1 (a0, 0, q1) _ h
    · rw [if_neg c6] at h
      obtain rfl := Option.some.inj h
      exact g_throw rfl d_DS_simulate_12 d_DS_simulate_15 d_DS_simulate_16 d_DS_simulate_18 d_DS_simulate_21 w_293 w_32 ws_243 xa_1_51 xg_1_51_47 (by decide) (Nat.le_of_ble_eq_true rfl) (Nat.le_of_ble_eq_true rfl) (Nat.le_refl _) (Nat.le_refl _)
theorem ctn_DS_simulate {l : Launch} {ε : gEnv} (hX : gXw ε) (M : gMem) (a0 : Int64) (a1 : Int32) (r : (Int32 × gMem)) (h : f_DS_simulate M a0 a1 = some (.inr r)) : gCt l ε k_DS_simulate 8 138 [.ref (ε.2.2.1 18 0), .long a0, .int a1] M (some (.int r.1)) r.2 :=
  gCt_of (by decide) (Nat.le_of_ble_eq_true rfl) rfl (t_DS_simulate hX M a0 a1 (.inr r) h)
theorem ctx_DS_simulate {l : Launch} {ε : gEnv} (hl0 : l.stackTraces = false) (hX : gXw ε) (M : gMem) (a0 : Int64) (a1 : Int32) (x : Nat) (h : f_DS_simulate M a0 a1 = some (.inl x)) : gCtX l ε k_DS_simulate 8 138 [.ref (ε.2.2.1 18 0), .long a0, .int a1] M (gXn x) M :=
  gCtX_of hl0 (by decide) (Nat.le_of_ble_eq_true rfl) rfl (t_DS_simulate hX M a0 a1 (.inl x) h)
abbrev k_DS_save : gMD := (⟨"DropSignals", "save", "(I)I"⟩, prog_1_method_22_code, 2, (some .int))
theorem w_849 : Cond.instanceMethod ⟨"DropSignals", "save", "(I)I"⟩ ∈ gWs := gWs_in (i := 849) (by decide +kernel) rfl
theorem w_850 : Cond.selects "DropSignals" ⟨"DropSignals", "save", "(I)I"⟩ ⟨"DropSignals", "save", "(I)I"⟩ ∈ gWs := gWs_in (i := 850) (by decide +kernel) rfl
set_option maxRecDepth 100000 in
theorem ca_DS_save : gCaV k_DS_save 1 := ⟨⟨gWs_in (i := 851) rfl rfl, w_20, by decide, by decide, by decide +kernel⟩, w_849, w_850⟩
theorem d_DS_save_0 : decode prog_1_method_22_code 0 = .ok (.iload_n 1, 1) := by decide +kernel
theorem d_DS_save_1 : decode prog_1_method_22_code 1 = .ok (.iconst 2, 1) := by decide +kernel
theorem d_DS_save_2 : decode prog_1_method_22_code 2 = .ok (.invokestatic 98, 3) := by decide +kernel
theorem d_DS_save_5 : decode prog_1_method_22_code 5 = .ok (.aload_n 0, 1) := by decide +kernel
theorem d_DS_save_6 : decode prog_1_method_22_code 6 = .ok (.getfield 29, 3) := by decide +kernel
theorem d_DS_save_9 : decode prog_1_method_22_code 9 = .ok (.iload_n 1, 1) := by decide +kernel
theorem d_DS_save_10 : decode prog_1_method_22_code 10 = .ok (.aload_n 0, 1) := by decide +kernel
theorem d_DS_save_11 : decode prog_1_method_22_code 11 = .ok (.getfield 10, 3) := by decide +kernel
theorem d_DS_save_14 : decode prog_1_method_22_code 14 = .ok (.invokevirtual 263, 3) := by decide +kernel
theorem d_DS_save_17 : decode prog_1_method_22_code 17 = .ok (.aload_n 0, 1) := by decide +kernel
theorem d_DS_save_18 : decode prog_1_method_22_code 18 = .ok (.getfield 10, 3) := by decide +kernel
theorem d_DS_save_21 : decode prog_1_method_22_code 21 = .ok (.getfield 153, 3) := by decide +kernel
theorem d_DS_save_24 : decode prog_1_method_22_code 24 = .ok (.ireturn, 1) := by decide +kernel
theorem w_852 : Cond.methodLink "DropSignals" 263 ⟨"DropSignals$Slots", "store", "(ILDropSignals$Evening;)V"⟩ ∈ gWs := gWs_in (i := 852) (by decide +kernel) rfl
noncomputable def f_DS_save (M : gMem) (a0 : Int32) : Option (Nat ⊕ (Int32 × gMem)) :=
  gSq (f_DS_checkPlace a0 2) fun q1 =>
  (f_Slots_store 0 M a0).bind fun q2 =>
  some (.inr ((q2 0 0 4), q2))
theorem t_DS_save {l : Launch} {ε : gEnv} (hX : gXw ε) (M : gMem) (a0 : Int32) (r : (Nat ⊕ (Int32 × gMem))) (h : f_DS_save M a0 = some r) : gGo l ε k_DS_save (gRT 9 141 r) (gFT ε M (α := (Int32 × gMem)) (fun r => gFn ε (some (.int r.1)) r.2) r) 0 [(0, .ref (ε.2.2.1 18 0)), (1, .int a0)] [] M := by
  unfold f_DS_save at h
  refine g_iload_n d_DS_save_0 rfl 1 rfl ?_
  refine g_iconst (v := 2) d_DS_save_1 (by decide) ?_
  rcases gSq_o h with ⟨x9, hq1, rfl⟩ | ⟨q1, hq1, h⟩
  · exact g_callXS (As := [.int a0, .int 2]) (rest := []) (fun hl0 => ctx_DS_checkPlace hl0 M a0 2 _ hq1) d_DS_save_2 ca_DS_checkPlace w_620 rfl rfl (Nat.le_of_ble_eq_true rfl) ⟨Nat.le_of_ble_eq_true rfl, Nat.le_of_ble_eq_true rfl⟩ (Nat.le_refl _) (Nat.le_refl _)
  refine g_callS_v (As := [.int a0, .int 2]) (rest := []) (ctn_DS_checkPlace M a0 2 _ hq1) d_DS_save_2 ca_DS_checkPlace w_620 rfl rfl (Nat.le_of_ble_eq_true rfl) ⟨(by rw [gRT_f]; exact Nat.le_of_ble_eq_true rfl), (by rw [gRT_l]; exact Nat.le_of_ble_eq_true rfl)⟩ ?_
  refine g_aload_n d_DS_save_5 rfl 0 rfl ?_
  refine g_getR d_DS_save_6 fl_DS_29 (gXw_h0 hX) rfl ?_
  refine g_iload_n d_DS_save_9 rfl 1 rfl ?_
  refine g_aload_n d_DS_save_10 rfl 0 rfl ?_
  refine g_getR d_DS_save_11 fl_DS_10 (gXw_h0 hX) rfl ?_
  obtain ⟨q2, hq2, h⟩ := gOb h
  refine g_callV_v (As := [.int a0, .ref (ε.2.2.1 0 0)]) (rest := []) (ct_Slots_store hX 0 (hX.1 0 (by decide)) M a0 _ hq2) d_DS_save_14 ca_Slots_store w_852 (gXw_h3 hX) rfl rfl rfl (Nat.le_of_ble_eq_true rfl) ⟨(by rw [gRT_f]; exact Nat.le_of_ble_eq_true rfl), (by rw [gRT_l]; exact Nat.le_of_ble_eq_true rfl)⟩ ?_
  refine g_aload_n d_DS_save_17 rfl 0 rfl ?_
  refine g_getR d_DS_save_18 fl_DS_10 (gXw_h0 hX) rfl ?_
  refine g_getIN d_DS_save_21 fl_DS_153 (gEv_h0 (hX.1 0 (by decide))) rfl ?_
  obtain rfl := Option.some.inj h
  exact g_iret d_DS_save_24 rfl
theorem ctn_DS_save {l : Launch} {ε : gEnv} (hX : gXw ε) (M : gMem) (a0 : Int32) (r : (Int32 × gMem)) (h : f_DS_save M a0 = some (.inr r)) : gCt l ε k_DS_save 9 141 [.ref (ε.2.2.1 18 0), .int a0] M (some (.int r.1)) r.2 :=
  gCt_of (by decide) (Nat.le_of_ble_eq_true rfl) rfl (t_DS_save hX M a0 (.inr r) h)
theorem ctx_DS_save {l : Launch} {ε : gEnv} (hl0 : l.stackTraces = false) (hX : gXw ε) (M : gMem) (a0 : Int32) (x : Nat) (h : f_DS_save M a0 = some (.inl x)) : gCtX l ε k_DS_save 9 141 [.ref (ε.2.2.1 18 0), .int a0] M (gXn x) M :=
  gCtX_of hl0 (by decide) (Nat.le_of_ble_eq_true rfl) rfl (t_DS_save hX M a0 (.inl x) h)
abbrev k_DS_restore : gMD := (⟨"DropSignals", "restore", "(I)I"⟩, prog_1_method_23_code, 2, (some .int))
theorem w_861 : Cond.instanceMethod ⟨"DropSignals", "restore", "(I)I"⟩ ∈ gWs := gWs_in (i := 861) (by decide +kernel) rfl
theorem w_862 : Cond.selects "DropSignals" ⟨"DropSignals", "restore", "(I)I"⟩ ⟨"DropSignals", "restore", "(I)I"⟩ ∈ gWs := gWs_in (i := 862) (by decide +kernel) rfl
set_option maxRecDepth 100000 in
theorem ca_DS_restore : gCaV k_DS_restore 1 := ⟨⟨gWs_in (i := 863) rfl rfl, w_20, by decide, by decide, by decide +kernel⟩, w_861, w_862⟩
theorem d_DS_restore_0 : decode prog_1_method_23_code 0 = .ok (.iload_n 1, 1) := by decide +kernel
theorem d_DS_restore_1 : decode prog_1_method_23_code 1 = .ok (.iconst 2, 1) := by decide +kernel
theorem d_DS_restore_2 : decode prog_1_method_23_code 2 = .ok (.invokestatic 98, 3) := by decide +kernel
theorem d_DS_restore_5 : decode prog_1_method_23_code 5 = .ok (.aload_n 0, 1) := by decide +kernel
theorem d_DS_restore_6 : decode prog_1_method_23_code 6 = .ok (.getfield 29, 3) := by decide +kernel
theorem d_DS_restore_9 : decode prog_1_method_23_code 9 = .ok (.iload_n 1, 1) := by decide +kernel
theorem d_DS_restore_10 : decode prog_1_method_23_code 10 = .ok (.invokevirtual 267, 3) := by decide +kernel
theorem d_DS_restore_13 : decode prog_1_method_23_code 13 = .ok (.ifCond .ne 14, 3) := by decide +kernel
theorem d_DS_restore_16 : decode prog_1_method_23_code 16 = .ok (.new 58, 3) := by decide +kernel
theorem d_DS_restore_27 : decode prog_1_method_23_code 27 = .ok (.aload_n 0, 1) := by decide +kernel
theorem d_DS_restore_28 : decode prog_1_method_23_code 28 = .ok (.getfield 29, 3) := by decide +kernel
theorem d_DS_restore_31 : decode prog_1_method_23_code 31 = .ok (.iload_n 1, 1) := by decide +kernel
theorem d_DS_restore_32 : decode prog_1_method_23_code 32 = .ok (.aload_n 0, 1) := by decide +kernel
theorem d_DS_restore_33 : decode prog_1_method_23_code 33 = .ok (.getfield 10, 3) := by decide +kernel
theorem d_DS_restore_36 : decode prog_1_method_23_code 36 = .ok (.invokevirtual 272, 3) := by decide +kernel
theorem d_DS_restore_39 : decode prog_1_method_23_code 39 = .ok (.aload_n 0, 1) := by decide +kernel
theorem d_DS_restore_40 : decode prog_1_method_23_code 40 = .ok (.getfield 22, 3) := by decide +kernel
theorem d_DS_restore_43 : decode prog_1_method_23_code 43 = .ok (.invokevirtual 77, 3) := by decide +kernel
theorem d_DS_restore_46 : decode prog_1_method_23_code 46 = .ok (.aload_n 0, 1) := by decide +kernel
theorem d_DS_restore_47 : decode prog_1_method_23_code 47 = .ok (.getfield 10, 3) := by decide +kernel
theorem d_DS_restore_50 : decode prog_1_method_23_code 50 = .ok (.getfield 153, 3) := by decide +kernel
theorem d_DS_restore_53 : decode prog_1_method_23_code 53 = .ok (.ireturn, 1) := by decide +kernel
theorem w_864 : Cond.methodLink "DropSignals" 267 ⟨"DropSignals$Slots", "isUsed", "(I)Z"⟩ ∈ gWs := gWs_in (i := 864) (by decide +kernel) rfl
theorem w_869 : Cond.methodLink "DropSignals" 272 ⟨"DropSignals$Slots", "fetch", "(ILDropSignals$Evening;)V"⟩ ∈ gWs := gWs_in (i := 869) (by decide +kernel) rfl
theorem d_DS_restore_19 : decode prog_1_method_23_code 19 = .ok (.dup, 1) := by decide +kernel
theorem d_DS_restore_20 : decode prog_1_method_23_code 20 = .ok (.ldc_w 270, 3) := by decide +kernel
theorem d_DS_restore_23 : decode prog_1_method_23_code 23 = .ok (.invokespecial 62, 3) := by decide +kernel
theorem d_DS_restore_26 : decode prog_1_method_23_code 26 = .ok (.athrow, 1) := by decide +kernel
theorem ws_270 : Cond.stringRef "DropSignals" 270 "nothing was saved" ∈ lw_tbl := List.mem_of_getElem? (i := 868) (by decide +kernel)
noncomputable def f_DS_restore (M : gMem) (a0 : Int32) : Option (Nat ⊕ (Int32 × gMem)) :=
  gSq (f_DS_checkPlace a0 2) fun q1 =>
  (f_Slots_isUsed M a0).bind fun q2 =>
  if q2 = 0 then
    some (.inl 2)
  else
    (f_Slots_fetch 0 M a0).bind fun q3 =>
    (f_Mem_forget q3).bind fun q4 =>
    some (.inr ((q4 0 0 4), q4))
theorem t_DS_restore {l : Launch} {ε : gEnv} (hX : gXw ε) (M : gMem) (a0 : Int32) (r : (Nat ⊕ (Int32 × gMem))) (h : f_DS_restore M a0 = some r) : gGo l ε k_DS_restore (gRT 9 141 r) (gFT ε M (α := (Int32 × gMem)) (fun r => gFn ε (some (.int r.1)) r.2) r) 0 [(0, .ref (ε.2.2.1 18 0)), (1, .int a0)] [] M := by
  unfold f_DS_restore at h
  refine g_iload_n d_DS_restore_0 rfl 1 rfl ?_
  refine g_iconst (v := 2) d_DS_restore_1 (by decide) ?_
  rcases gSq_o h with ⟨x9, hq1, rfl⟩ | ⟨q1, hq1, h⟩
  · exact g_callXS (As := [.int a0, .int 2]) (rest := []) (fun hl0 => ctx_DS_checkPlace hl0 M a0 2 _ hq1) d_DS_restore_2 ca_DS_checkPlace w_620 rfl rfl (Nat.le_of_ble_eq_true rfl) ⟨Nat.le_of_ble_eq_true rfl, Nat.le_of_ble_eq_true rfl⟩ (Nat.le_refl _) (Nat.le_refl _)
  refine g_callS_v (As := [.int a0, .int 2]) (rest := []) (ctn_DS_checkPlace M a0 2 _ hq1) d_DS_restore_2 ca_DS_checkPlace w_620 rfl rfl (Nat.le_of_ble_eq_true rfl) ⟨(by rw [gRT_f]; exact Nat.le_of_ble_eq_true rfl), (by rw [gRT_l]; exact Nat.le_of_ble_eq_true rfl)⟩ ?_
  refine g_aload_n d_DS_restore_5 rfl 0 rfl ?_
  refine g_getR d_DS_restore_6 fl_DS_29 (gXw_h0 hX) rfl ?_
  refine g_iload_n d_DS_restore_9 rfl 1 rfl ?_
  obtain ⟨q2, hq2, h⟩ := gOb h
  refine g_callV_i (As := [.int a0]) (rest := []) (ct_Slots_isUsed hX M a0 _ hq2) d_DS_restore_10 ca_Slots_isUsed w_864 (gXw_h3 hX) rfl rfl rfl (Nat.le_of_ble_eq_true rfl) ⟨(by rw [gRT_f]; exact Nat.le_of_ble_eq_true rfl), (by rw [gRT_l]; exact Nat.le_of_ble_eq_true rfl)⟩ ?_
  refine g_if_ne (tgt := 27) d_DS_restore_13 (by decide) (fun c5 => ?_) (fun c5 => ?_)
  · rw [if_neg c5] at h
    refine g_aload_n d_DS_restore_27 rfl 0 rfl ?_
    refine g_getR d_DS_restore_28 fl_DS_29 (gXw_h0 hX) rfl ?_
    refine g_iload_n d_DS_restore_31 rfl 1 rfl ?_
    refine g_aload_n d_DS_restore_32 rfl 0 rfl ?_
    refine g_getR d_DS_restore_33 fl_DS_10 (gXw_h0 hX) rfl ?_
    obtain ⟨q3, hq3, h⟩ := gOb h
    refine g_callV_v (As := [.int a0, .ref (ε.2.2.1 0 0)]) (rest := []) (ct_Slots_fetch hX 0 (hX.1 0 (by decide)) M a0 _ hq3) d_DS_restore_36 ca_Slots_fetch w_869 (gXw_h3 hX) rfl rfl rfl (Nat.le_of_ble_eq_true rfl) ⟨(by rw [gRT_f]; exact Nat.le_of_ble_eq_true rfl), (by rw [gRT_l]; exact Nat.le_of_ble_eq_true rfl)⟩ ?_
    refine g_aload_n d_DS_restore_39 rfl 0 rfl ?_
    refine g_getR d_DS_restore_40 fl_DS_22 (gXw_h0 hX) rfl ?_
    obtain ⟨q4, hq4, h⟩ := gOb h
    refine g_callV_v (As := []) (rest := []) (ct_Mem_forget hX q3 _ hq4) d_DS_restore_43 ca_Mem_forget w_417 (gXw_h1 hX) rfl rfl rfl (Nat.le_of_ble_eq_true rfl) ⟨(by rw [gRT_f]; exact Nat.le_of_ble_eq_true rfl), (by rw [gRT_l]; exact Nat.le_of_ble_eq_true rfl)⟩ ?_
    refine g_aload_n d_DS_restore_46 rfl 0 rfl ?_
    refine g_getR d_DS_restore_47 fl_DS_10 (gXw_h0 hX) rfl ?_
    refine g_getIN d_DS_restore_50 fl_DS_153 (gEv_h0 (hX.1 0 (by decide))) rfl ?_
    obtain rfl := Option.some.inj h
    exact g_iret d_DS_restore_53 rfl
  · rw [if_pos c5] at h
    obtain rfl := Option.some.inj h
    exact g_throwW rfl d_DS_restore_16 d_DS_restore_19 d_DS_restore_20 d_DS_restore_23 d_DS_restore_26 w_365 w_33 ws_270 xa_2_62 xg_2_62_58 (by decide) (Nat.le_of_ble_eq_true rfl) (Nat.le_of_ble_eq_true rfl) (Nat.le_refl _) (Nat.le_refl _)
theorem ctn_DS_restore {l : Launch} {ε : gEnv} (hX : gXw ε) (M : gMem) (a0 : Int32) (r : (Int32 × gMem)) (h : f_DS_restore M a0 = some (.inr r)) : gCt l ε k_DS_restore 9 141 [.ref (ε.2.2.1 18 0), .int a0] M (some (.int r.1)) r.2 :=
  gCt_of (by decide) (Nat.le_of_ble_eq_true rfl) rfl (t_DS_restore hX M a0 (.inr r) h)
theorem ctx_DS_restore {l : Launch} {ε : gEnv} (hl0 : l.stackTraces = false) (hX : gXw ε) (M : gMem) (a0 : Int32) (x : Nat) (h : f_DS_restore M a0 = some (.inl x)) : gCtX l ε k_DS_restore 9 141 [.ref (ε.2.2.1 18 0), .int a0] M (gXn x) M :=
  gCtX_of hl0 (by decide) (Nat.le_of_ble_eq_true rfl) rfl (t_DS_restore hX M a0 (.inl x) h)
