abbrev k_Mo_thrown : gMD := (⟨"DropSignalsModel", "thrown", "()I"⟩, prog_11_method_2_code, 1, (some .int))
theorem w_43 : Cond.initialized "DropSignalsModel" ∈ gWs := gWs_in (i := 43) (by decide +kernel) rfl
theorem w_1023 : Cond.instanceMethod ⟨"DropSignalsModel", "thrown", "()I"⟩ ∈ gWs := gWs_in (i := 1023) (by decide +kernel) rfl
theorem w_1024 : Cond.selects "DropSignalsModel" ⟨"DropSignalsModel", "thrown", "()I"⟩ ⟨"DropSignalsModel", "thrown", "()I"⟩ ∈ gWs := gWs_in (i := 1024) (by decide +kernel) rfl
set_option maxRecDepth 100000 in
theorem ca_Mo_thrown : gCaV k_Mo_thrown 0 := ⟨⟨gWs_in (i := 1025) rfl rfl, w_43, by decide, by decide, by decide +kernel⟩, w_1023, w_1024⟩
theorem d_Mo_thrown_0 : decode prog_11_method_2_code 0 = .ok (.aload_n 0, 1) := by decide +kernel
theorem d_Mo_thrown_1 : decode prog_11_method_2_code 1 = .ok (.getfield 48, 3) := by decide +kernel
theorem d_Mo_thrown_4 : decode prog_11_method_2_code 4 = .ok (.ireturn, 1) := by decide +kernel
theorem uw_8 : ∀ w ∈ u_ws gN8 gF8 16, w ∈ gWs := by
  intro w hw
  have h := List.all_eq_true.mp (show (u_ws gN8 gF8 16).all (fun w => decide (w ∈ lw_tbl) && goodWord w) = true by decide +kernel) w hw
  simp only [Bool.and_eq_true, decide_eq_true_eq] at h
  exact List.mem_filter.mpr h
theorem w_973 : Cond.fieldLink "DropSignalsModel" 48 "DropSignalsModel" "refusal" "I" ∈ gWs := gWs_in (i := 973) (by decide +kernel) rfl
theorem fl_Mo_48 : gFl "DropSignalsModel" 48 8 0 := ⟨gN8, gF8, 16, rfl, uw_8, by decide, w_973⟩
noncomputable def f_Mo_thrown (M : gMem) : Option Int32 :=
  some (M 19 0 0)
theorem t_Mo_thrown {l : Launch} {ε : gEnv} (hM : gMo ε) (M : gMem) (r : Int32) (h : f_Mo_thrown M = some r) : gGo l ε k_Mo_thrown (gR 0 0) (gFn ε (some (.int r)) M) 0 [(0, .ref (ε.2.2.1 19 0))] [] M := by
  unfold f_Mo_thrown at h
  refine g_aload_n d_Mo_thrown_0 rfl 0 rfl ?_
  refine g_getI d_Mo_thrown_1 fl_Mo_48 (gMo_h0 hM) rfl ?_
  obtain rfl := Option.some.inj h
  exact g_iret d_Mo_thrown_4 rfl
theorem ct_Mo_thrown {l : Launch} {ε : gEnv} (hM : gMo ε) (M : gMem) (r : Int32) (h : f_Mo_thrown M = some r) : gCt l ε k_Mo_thrown 0 0 [.ref (ε.2.2.1 19 0)] M (some (.int r)) M :=
  gCt_of (by decide) (Nat.le_of_ble_eq_true rfl) rfl (t_Mo_thrown hM M r h)
abbrev k_Mo_refused : gMD := (⟨"DropSignalsModel", "refused", "(I)Z"⟩, prog_11_method_3_code, 2, (some .boolean))
theorem w_1036 : Cond.instanceMethod ⟨"DropSignalsModel", "refused", "(I)Z"⟩ ∈ gWs := gWs_in (i := 1036) (by decide +kernel) rfl
theorem w_19 : Cond.selects "DropSignalsModel" ⟨"DropSignalsModel", "refused", "(I)Z"⟩ ⟨"DropSignalsModel", "refused", "(I)Z"⟩ ∈ gWs := gWs_in (i := 19) (by decide +kernel) rfl
set_option maxRecDepth 100000 in
theorem ca_Mo_refused : gCaV k_Mo_refused 1 := ⟨⟨gWs_in (i := 1037) rfl rfl, w_43, by decide, by decide, by decide +kernel⟩, w_1036, w_19⟩
theorem d_Mo_refused_0 : decode prog_11_method_3_code 0 = .ok (.aload_n 0, 1) := by decide +kernel
theorem d_Mo_refused_1 : decode prog_11_method_3_code 1 = .ok (.iload_n 1, 1) := by decide +kernel
theorem d_Mo_refused_2 : decode prog_11_method_3_code 2 = .ok (.putfield 48, 3) := by decide +kernel
theorem d_Mo_refused_5 : decode prog_11_method_3_code 5 = .ok (.iload_n 1, 1) := by decide +kernel
theorem d_Mo_refused_6 : decode prog_11_method_3_code 6 = .ok (.ifCond .le 7, 3) := by decide +kernel
theorem d_Mo_refused_9 : decode prog_11_method_3_code 9 = .ok (.iconst 1, 1) := by decide +kernel
theorem d_Mo_refused_10 : decode prog_11_method_3_code 10 = .ok (.goto 4, 3) := by decide +kernel
theorem d_Mo_refused_13 : decode prog_11_method_3_code 13 = .ok (.iconst 0, 1) := by decide +kernel
theorem d_Mo_refused_14 : decode prog_11_method_3_code 14 = .ok (.ireturn, 1) := by decide +kernel
theorem fp_Mo_48 : gFp "DropSignalsModel" 48 8 0 .int := ⟨gN8, gF8, 16, rfl, uw_8, by decide, w_973, ⟨gX8, gY8⟩, gD8, rfl, by decide +kernel⟩
noncomputable def f_Mo_refused (M : gMem) (a0 : Int32) : Option (Int32 × gMem) :=
  (gSO M 19 0 0 a0).bind fun M1 =>
  if a0 ≤ 0 then
    some (0, M1)
  else
    some (1, M1)
theorem t_Mo_refused {l : Launch} {ε : gEnv} (hM : gMo ε) (M : gMem) (a0 : Int32) (r : (Int32 × gMem)) (h : f_Mo_refused M a0 = some r) : gGo l ε k_Mo_refused (gR 0 0) (gFn ε (some (.int r.1)) r.2) 0 [(0, .ref (ε.2.2.1 19 0)), (1, .int a0)] [] M := by
  unfold f_Mo_refused at h
  refine g_aload_n d_Mo_refused_0 rfl 0 rfl ?_
  refine g_iload_n d_Mo_refused_1 rfl 1 rfl ?_
  obtain ⟨M1, hM1, h⟩ := gOb h
  refine g_putO d_Mo_refused_2 fp_Mo_48 (gMo_h0 hM) rfl hM1 ?_
  refine g_iload_n d_Mo_refused_5 rfl 1 rfl ?_
  refine g_if_le (tgt := 13) d_Mo_refused_6 (by decide) (fun c2 => ?_) (fun c2 => ?_)
  · rw [if_pos c2] at h
    refine g_iconst (v := 0) d_Mo_refused_13 (by decide) ?_
    obtain rfl := Option.some.inj h
    exact g_zret d_Mo_refused_14 rfl gZ0
  · rw [if_neg c2] at h
    refine g_iconst (v := 1) d_Mo_refused_9 (by decide) ?_
    refine g_goto (tgt := 14) d_Mo_refused_10 (by decide) ?_
    obtain rfl := Option.some.inj h
    exact g_zret d_Mo_refused_14 rfl gZ1
theorem ct_Mo_refused {l : Launch} {ε : gEnv} (hM : gMo ε) (M : gMem) (a0 : Int32) (r : (Int32 × gMem)) (h : f_Mo_refused M a0 = some r) : gCt l ε k_Mo_refused 0 0 [.ref (ε.2.2.1 19 0), .int a0] M (some (.int r.1)) r.2 :=
  gCt_of (by decide) (Nat.le_of_ble_eq_true rfl) rfl (t_Mo_refused hM M a0 r h)
abbrev k_Mo_in : gMD := (⟨"DropSignalsModel", "in", "(JJJ)Z"⟩, prog_11_method_4_code, 6, (some .boolean))
theorem w_1032 : Cond.static ⟨"DropSignalsModel", "in", "(JJJ)Z"⟩ ∈ gWs := gWs_in (i := 1032) (by decide +kernel) rfl
set_option maxRecDepth 100000 in
theorem ca_Mo_in : gCaS k_Mo_in 3 := ⟨⟨gWs_in (i := 1033) rfl rfl, w_43, by decide, by decide, by decide +kernel⟩, w_1032⟩
theorem d_Mo_in_0 : decode prog_11_method_4_code 0 = .ok (.lload_n 0, 1) := by decide +kernel
theorem d_Mo_in_1 : decode prog_11_method_4_code 1 = .ok (.lload_n 2, 1) := by decide +kernel
theorem d_Mo_in_2 : decode prog_11_method_4_code 2 = .ok (.lcmp, 1) := by decide +kernel
theorem d_Mo_in_3 : decode prog_11_method_4_code 3 = .ok (.ifCond .lt 14, 3) := by decide +kernel
theorem d_Mo_in_6 : decode prog_11_method_4_code 6 = .ok (.lload_n 0, 1) := by decide +kernel
theorem d_Mo_in_7 : decode prog_11_method_4_code 7 = .ok (.lload 4, 2) := by decide +kernel
theorem d_Mo_in_9 : decode prog_11_method_4_code 9 = .ok (.lcmp, 1) := by decide +kernel
theorem d_Mo_in_10 : decode prog_11_method_4_code 10 = .ok (.ifCond .gt 7, 3) := by decide +kernel
theorem d_Mo_in_13 : decode prog_11_method_4_code 13 = .ok (.iconst 1, 1) := by decide +kernel
theorem d_Mo_in_14 : decode prog_11_method_4_code 14 = .ok (.goto 4, 3) := by decide +kernel
theorem d_Mo_in_17 : decode prog_11_method_4_code 17 = .ok (.iconst 0, 1) := by decide +kernel
theorem d_Mo_in_18 : decode prog_11_method_4_code 18 = .ok (.ireturn, 1) := by decide +kernel
noncomputable def f_Mo_in (a0 : Int64) (a1 : Int64) (a2 : Int64) : Option Int32 :=
  if (lg_cmp a0 a1) < 0 then
    some 0
  else
    if 0 < (lg_cmp a0 a2) then
      some 0
    else
      some 1
theorem t_Mo_in {l : Launch} {ε : gEnv} (M : gMem) (a0 : Int64) (a1 : Int64) (a2 : Int64) (r : Int32) (h : f_Mo_in a0 a1 a2 = some r) : gGo l ε k_Mo_in (gR 0 0) (gFn ε (some (.int r)) M) 0 [(0, .long a0), (2, .long a1), (4, .long a2)] [] M := by
  unfold f_Mo_in at h
  refine g_lload_n d_Mo_in_0 rfl 0 rfl ?_
  refine g_lload_n d_Mo_in_1 rfl 1 rfl ?_
  refine g_lcmp d_Mo_in_2 ?_
  refine g_if_lt (tgt := 17) d_Mo_in_3 (by decide) (fun c2 => ?_) (fun c2 => ?_)
  · rw [if_pos c2] at h
    refine g_iconst (v := 0) d_Mo_in_17 (by decide) ?_
    obtain rfl := Option.some.inj h
    exact g_zret d_Mo_in_18 rfl gZ0
  · rw [if_neg c2] at h
    refine g_lload_n d_Mo_in_6 rfl 0 rfl ?_
    refine g_lload d_Mo_in_7 2 rfl ?_
    refine g_lcmp d_Mo_in_9 ?_
    refine g_if_gt (tgt := 17) d_Mo_in_10 (by decide) (fun c1 => ?_) (fun c1 => ?_)
    · rw [if_pos c1] at h
      refine g_iconst (v := 0) d_Mo_in_17 (by decide) ?_
      obtain rfl := Option.some.inj h
      exact g_zret d_Mo_in_18 rfl gZ0
    · rw [if_neg c1] at h
      refine g_iconst (v := 1) d_Mo_in_13 (by decide) ?_
      refine g_goto (tgt := 18) d_Mo_in_14 (by decide) ?_
      obtain rfl := Option.some.inj h
      exact g_zret d_Mo_in_18 rfl gZ1
theorem ct_Mo_in {l : Launch} {ε : gEnv} (M : gMem) (a0 : Int64) (a1 : Int64) (a2 : Int64) (r : Int32) (h : f_Mo_in a0 a1 a2 = some r) : gCt l ε k_Mo_in 0 0 [.long a0, .long a1, .long a2] M (some (.int r)) M :=
  gCt_of (by decide) (Nat.le_of_ble_eq_true rfl) rfl (t_Mo_in M a0 a1 a2 r h)
abbrev k_Mo_copyState : gMD := (⟨"DropSignalsModel", "copyState", "([II[II)V"⟩, prog_11_method_5_code, 5, none)
theorem w_1137 : Cond.static ⟨"DropSignalsModel", "copyState", "([II[II)V"⟩ ∈ gWs := gWs_in (i := 1137) (by decide +kernel) rfl
set_option maxRecDepth 100000 in
theorem ca_Mo_copyState : gCaS k_Mo_copyState 4 := ⟨⟨gWs_in (i := 1138) rfl rfl, w_43, by decide, by decide, by decide +kernel⟩, w_1137⟩
theorem d_Mo_copyState_0 : decode prog_11_method_5_code 0 = .ok (.iconst 0, 1) := by decide +kernel
theorem d_Mo_copyState_1 : decode prog_11_method_5_code 1 = .ok (.istore 4, 2) := by decide +kernel
theorem d_Mo_copyState_3 : decode prog_11_method_5_code 3 = .ok (.iload 4, 2) := by decide +kernel
theorem d_Mo_copyState_5 : decode prog_11_method_5_code 5 = .ok (.sipush 197, 3) := by decide +kernel
theorem d_Mo_copyState_8 : decode prog_11_method_5_code 8 = .ok (.if_icmp .ge 21, 3) := by decide +kernel
theorem d_Mo_copyState_11 : decode prog_11_method_5_code 11 = .ok (.aload_n 2, 1) := by decide +kernel
theorem d_Mo_copyState_12 : decode prog_11_method_5_code 12 = .ok (.iload_n 3, 1) := by decide +kernel
theorem d_Mo_copyState_13 : decode prog_11_method_5_code 13 = .ok (.iload 4, 2) := by decide +kernel
theorem d_Mo_copyState_15 : decode prog_11_method_5_code 15 = .ok (.iadd, 1) := by decide +kernel
theorem d_Mo_copyState_16 : decode prog_11_method_5_code 16 = .ok (.aload_n 0, 1) := by decide +kernel
theorem d_Mo_copyState_17 : decode prog_11_method_5_code 17 = .ok (.iload_n 1, 1) := by decide +kernel
theorem d_Mo_copyState_18 : decode prog_11_method_5_code 18 = .ok (.iload 4, 2) := by decide +kernel
theorem d_Mo_copyState_20 : decode prog_11_method_5_code 20 = .ok (.iadd, 1) := by decide +kernel
theorem d_Mo_copyState_21 : decode prog_11_method_5_code 21 = .ok (.iaload, 1) := by decide +kernel
theorem d_Mo_copyState_22 : decode prog_11_method_5_code 22 = .ok (.iastore, 1) := by decide +kernel
theorem d_Mo_copyState_23 : decode prog_11_method_5_code 23 = .ok (.iinc 4 1, 3) := by decide +kernel
theorem d_Mo_copyState_26 : decode prog_11_method_5_code 26 = .ok (.goto (-23), 3) := by decide +kernel
theorem d_Mo_copyState_29 : decode prog_11_method_5_code 29 = .ok (.return_, 1) := by decide +kernel
noncomputable def f_Mo_copyState_s3 (g0 : Nat) (c0 : Nat) (n0 : Nat) (g2 : Nat) (c2 : Nat) (n2 : Nat) (M : gMem) (x1 : Int32) (x3 : Int32) (x4 : Int32) : Option ((Int32 × gMem) ⊕ gMem) :=
  if 197 ≤ x4 then
    some (.inr M)
  else
    (gRd n0 (M g0 c0) (x1 + x4)).bind fun v1 =>
    (gWr M g2 c2 n2 (x3 + x4) v1).bind fun M2 =>
    some (.inl ((x4 + 1), M2))
theorem t_Mo_copyState_s3 {l : Launch} {ε : gEnv} (g0 : Nat) (c0 : Nat) (n0 : Nat) (g2 : Nat) (c2 : Nat) (n2 : Nat) (h0 : gHas ε g0 c0 (0, n0, [])) (h2 : gHas ε g2 c2 (0, n2, [])) (M : gMem) (x1 : Int32) (x3 : Int32) (x4 : Int32) (res : ((Int32 × gMem) ⊕ gMem)) (h : f_Mo_copyState_s3 g0 c0 n0 g2 c2 n2 M x1 x3 x4 = some res) (r : gMem) (k1 : ∀ s0 : (Int32 × gMem), res = .inl s0 → gGo l ε k_Mo_copyState (gR 0 0) (gFn ε none r) 3 [(0, .ref (ε.2.2.1 g0 c0)), (1, .int x1), (2, .ref (ε.2.2.1 g2 c2)), (3, .int x3), (4, .int s0.1)] [] s0.2) (k2 : ∀ r', res = .inr r' → r' = r) : gGo l ε k_Mo_copyState (gR 0 0) (gFn ε none r) 3 [(0, .ref (ε.2.2.1 g0 c0)), (1, .int x1), (2, .ref (ε.2.2.1 g2 c2)), (3, .int x3), (4, .int x4)] [] M := by
  unfold f_Mo_copyState_s3 at h
  refine g_iload d_Mo_copyState_3 4 rfl ?_
  refine g_sipush (v := 197) d_Mo_copyState_5 (by decide) ?_
  refine g_icmp_ge (tgt := 29) d_Mo_copyState_8 (by decide) (fun c3 => ?_) (fun c3 => ?_)
  · rw [if_pos c3] at h
    obtain rfl := Option.some.inj h
    have e9 := k2 _ rfl
    subst e9
    exact g_vret d_Mo_copyState_29 rfl
  · rw [if_neg c3] at h
    refine g_aload_n d_Mo_copyState_11 rfl 2 rfl ?_
    refine g_iload_n d_Mo_copyState_12 rfl 3 rfl ?_
    refine g_iload d_Mo_copyState_13 4 rfl ?_
    refine g_iadd d_Mo_copyState_15 ?_
    refine g_aload_n d_Mo_copyState_16 rfl 0 rfl ?_
    refine g_iload_n d_Mo_copyState_17 rfl 1 rfl ?_
    refine g_iload d_Mo_copyState_18 4 rfl ?_
    refine g_iadd d_Mo_copyState_20 ?_
    obtain ⟨v1, hv1, h⟩ := gOb h
    refine g_iaload d_Mo_copyState_21 h0 hv1 ?_
    obtain ⟨M2, hM2, h⟩ := gOb h
    refine g_iastore d_Mo_copyState_22 h2 hM2 ?_
    refine g_iinc (v := (x4 + 1)) (L' := [(4, .int (x4 + 1)), (0, .ref (ε.2.2.1 g0 c0)), (1, .int x1), (2, .ref (ε.2.2.1 g2 c2)), (3, .int x3)]) d_Mo_copyState_23 (j := 4) rfl rfl (by decide) rfl ?_
    refine g_goto (tgt := 3) d_Mo_copyState_26 (by decide) ?_
    refine gGo_sub [1, 2, 3, 4, 0] rfl ?_
    obtain rfl := Option.some.inj h
    exact k1 ((x4 + 1), M2) rfl
noncomputable def f_Mo_copyState_l3 (g0 : Nat) (c0 : Nat) (n0 : Nat) (g2 : Nat) (c2 : Nat) (n2 : Nat) (x1 : Int32) (x3 : Int32) (s : (Int32 × gMem)) : Option gMem := gLp (fun s => f_Mo_copyState_s3 g0 c0 n0 g2 c2 n2 s.2 x1 x3 s.1) s
theorem t_Mo_copyState_l3 {l : Launch} {ε : gEnv} (g0 : Nat) (c0 : Nat) (n0 : Nat) (g2 : Nat) (c2 : Nat) (n2 : Nat) (h0 : gHas ε g0 c0 (0, n0, [])) (h2 : gHas ε g2 c2 (0, n2, [])) (x1 : Int32) (x3 : Int32) (s : (Int32 × gMem)) (r : gMem) (h : f_Mo_copyState_l3 g0 c0 n0 g2 c2 n2 x1 x3 s = some r) : gGo l ε k_Mo_copyState (gR 0 0) (gFn ε none r) 3 [(0, .ref (ε.2.2.1 g0 c0)), (1, .int x1), (2, .ref (ε.2.2.1 g2 c2)), (3, .int x3), (4, .int s.1)] [] s.2 :=
  g_loop _ (fun r s => gGo l ε k_Mo_copyState (gR 0 0) (gFn ε none r) 3 [(0, .ref (ε.2.2.1 g0 c0)), (1, .int x1), (2, .ref (ε.2.2.1 g2 c2)), (3, .int x3), (4, .int s.1)] [] s.2) (fun s res h r k1 k2 => t_Mo_copyState_s3 g0 c0 n0 g2 c2 n2 h0 h2 s.2 x1 x3 s.1 res h r k1 k2) s r h
noncomputable def f_Mo_copyState (g0 : Nat) (c0 : Nat) (n0 : Nat) (g2 : Nat) (c2 : Nat) (n2 : Nat) (M : gMem) (a1 : Int32) (a3 : Int32) : Option gMem :=
  f_Mo_copyState_l3 g0 c0 n0 g2 c2 n2 a1 a3 (0, M)
theorem t_Mo_copyState {l : Launch} {ε : gEnv} (g0 : Nat) (c0 : Nat) (n0 : Nat) (g2 : Nat) (c2 : Nat) (n2 : Nat) (h0 : gHas ε g0 c0 (0, n0, [])) (h2 : gHas ε g2 c2 (0, n2, [])) (M : gMem) (a1 : Int32) (a3 : Int32) (r : gMem) (h : f_Mo_copyState g0 c0 n0 g2 c2 n2 M a1 a3 = some r) : gGo l ε k_Mo_copyState (gR 0 0) (gFn ε none r) 0 [(0, .ref (ε.2.2.1 g0 c0)), (1, .int a1), (2, .ref (ε.2.2.1 g2 c2)), (3, .int a3)] [] M := by
  unfold f_Mo_copyState at h
  refine g_iconst (v := 0) d_Mo_copyState_0 (by decide) ?_
  refine g_istore (L' := [(4, .int 0), (0, .ref (ε.2.2.1 g0 c0)), (1, .int a1), (2, .ref (ε.2.2.1 g2 c2)), (3, .int a3)]) d_Mo_copyState_1 (by decide) rfl ?_
  refine gGo_sub [1, 2, 3, 4, 0] rfl ?_
  exact t_Mo_copyState_l3 g0 c0 n0 g2 c2 n2 h0 h2 a1 a3 (0, M) _ h
theorem ct_Mo_copyState {l : Launch} {ε : gEnv} (g0 : Nat) (c0 : Nat) (n0 : Nat) (g2 : Nat) (c2 : Nat) (n2 : Nat) (h0 : gHas ε g0 c0 (0, n0, [])) (h2 : gHas ε g2 c2 (0, n2, [])) (M : gMem) (a1 : Int32) (a3 : Int32) (r : gMem) (h : f_Mo_copyState g0 c0 n0 g2 c2 n2 M a1 a3 = some r) : gCt l ε k_Mo_copyState 0 0 [.ref (ε.2.2.1 g0 c0), .int a1, .ref (ε.2.2.1 g2 c2), .int a3] M none r :=
  gCt_of (by decide) (Nat.le_of_ble_eq_true rfl) rfl (t_Mo_copyState g0 c0 n0 g2 c2 n2 h0 h2 M a1 a3 r h)
abbrev k_Mo_noDeal : gMD := (⟨"DropSignalsModel", "noDeal", "([I)V"⟩, prog_11_method_7_code, 2, none)
theorem w_971 : Cond.static ⟨"DropSignalsModel", "noDeal", "([I)V"⟩ ∈ gWs := gWs_in (i := 971) (by decide +kernel) rfl
set_option maxRecDepth 100000 in
theorem ca_Mo_noDeal : gCaS k_Mo_noDeal 1 := ⟨⟨gWs_in (i := 972) rfl rfl, w_43, by decide, by decide, by decide +kernel⟩, w_971⟩
theorem d_Mo_noDeal_0 : decode prog_11_method_7_code 0 = .ok (.aload_n 0, 1) := by decide +kernel
theorem d_Mo_noDeal_1 : decode prog_11_method_7_code 1 = .ok (.iconst 3, 1) := by decide +kernel
theorem d_Mo_noDeal_2 : decode prog_11_method_7_code 2 = .ok (.iconst 0, 1) := by decide +kernel
theorem d_Mo_noDeal_3 : decode prog_11_method_7_code 3 = .ok (.iastore, 1) := by decide +kernel
theorem d_Mo_noDeal_4 : decode prog_11_method_7_code 4 = .ok (.aload_n 0, 1) := by decide +kernel
theorem d_Mo_noDeal_5 : decode prog_11_method_7_code 5 = .ok (.iconst 4, 1) := by decide +kernel
theorem d_Mo_noDeal_6 : decode prog_11_method_7_code 6 = .ok (.iconst (-1), 1) := by decide +kernel
theorem d_Mo_noDeal_7 : decode prog_11_method_7_code 7 = .ok (.iastore, 1) := by decide +kernel
theorem d_Mo_noDeal_8 : decode prog_11_method_7_code 8 = .ok (.aload_n 0, 1) := by decide +kernel
theorem d_Mo_noDeal_9 : decode prog_11_method_7_code 9 = .ok (.bipush 12, 2) := by decide +kernel
theorem d_Mo_noDeal_11 : decode prog_11_method_7_code 11 = .ok (.iconst 0, 1) := by decide +kernel
theorem d_Mo_noDeal_12 : decode prog_11_method_7_code 12 = .ok (.iastore, 1) := by decide +kernel
theorem d_Mo_noDeal_13 : decode prog_11_method_7_code 13 = .ok (.aload_n 0, 1) := by decide +kernel
theorem d_Mo_noDeal_14 : decode prog_11_method_7_code 14 = .ok (.bipush 13, 2) := by decide +kernel
theorem d_Mo_noDeal_16 : decode prog_11_method_7_code 16 = .ok (.iconst (-1), 1) := by decide +kernel
theorem d_Mo_noDeal_17 : decode prog_11_method_7_code 17 = .ok (.iastore, 1) := by decide +kernel
theorem d_Mo_noDeal_18 : decode prog_11_method_7_code 18 = .ok (.aload_n 0, 1) := by decide +kernel
theorem d_Mo_noDeal_19 : decode prog_11_method_7_code 19 = .ok (.iconst 5, 1) := by decide +kernel
theorem d_Mo_noDeal_20 : decode prog_11_method_7_code 20 = .ok (.iconst 0, 1) := by decide +kernel
theorem d_Mo_noDeal_21 : decode prog_11_method_7_code 21 = .ok (.iastore, 1) := by decide +kernel
theorem d_Mo_noDeal_22 : decode prog_11_method_7_code 22 = .ok (.aload_n 0, 1) := by decide +kernel
theorem d_Mo_noDeal_23 : decode prog_11_method_7_code 23 = .ok (.bipush 6, 2) := by decide +kernel
theorem d_Mo_noDeal_25 : decode prog_11_method_7_code 25 = .ok (.iconst 0, 1) := by decide +kernel
theorem d_Mo_noDeal_26 : decode prog_11_method_7_code 26 = .ok (.iastore, 1) := by decide +kernel
theorem d_Mo_noDeal_27 : decode prog_11_method_7_code 27 = .ok (.aload_n 0, 1) := by decide +kernel
theorem d_Mo_noDeal_28 : decode prog_11_method_7_code 28 = .ok (.bipush 14, 2) := by decide +kernel
theorem d_Mo_noDeal_30 : decode prog_11_method_7_code 30 = .ok (.iconst 0, 1) := by decide +kernel
theorem d_Mo_noDeal_31 : decode prog_11_method_7_code 31 = .ok (.iastore, 1) := by decide +kernel
theorem d_Mo_noDeal_32 : decode prog_11_method_7_code 32 = .ok (.aload_n 0, 1) := by decide +kernel
theorem d_Mo_noDeal_33 : decode prog_11_method_7_code 33 = .ok (.bipush 15, 2) := by decide +kernel
theorem d_Mo_noDeal_35 : decode prog_11_method_7_code 35 = .ok (.iconst 0, 1) := by decide +kernel
theorem d_Mo_noDeal_36 : decode prog_11_method_7_code 36 = .ok (.iastore, 1) := by decide +kernel
theorem d_Mo_noDeal_37 : decode prog_11_method_7_code 37 = .ok (.iconst 0, 1) := by decide +kernel
theorem d_Mo_noDeal_38 : decode prog_11_method_7_code 38 = .ok (.istore_n 1, 1) := by decide +kernel
theorem d_Mo_noDeal_39 : decode prog_11_method_7_code 39 = .ok (.iload_n 1, 1) := by decide +kernel
theorem d_Mo_noDeal_40 : decode prog_11_method_7_code 40 = .ok (.bipush 32, 2) := by decide +kernel
theorem d_Mo_noDeal_42 : decode prog_11_method_7_code 42 = .ok (.if_icmp .ge 30, 3) := by decide +kernel
theorem d_Mo_noDeal_45 : decode prog_11_method_7_code 45 = .ok (.aload_n 0, 1) := by decide +kernel
theorem d_Mo_noDeal_46 : decode prog_11_method_7_code 46 = .ok (.bipush 21, 2) := by decide +kernel
theorem d_Mo_noDeal_48 : decode prog_11_method_7_code 48 = .ok (.iload_n 1, 1) := by decide +kernel
theorem d_Mo_noDeal_49 : decode prog_11_method_7_code 49 = .ok (.iadd, 1) := by decide +kernel
theorem d_Mo_noDeal_50 : decode prog_11_method_7_code 50 = .ok (.iconst (-1), 1) := by decide +kernel
theorem d_Mo_noDeal_51 : decode prog_11_method_7_code 51 = .ok (.iastore, 1) := by decide +kernel
theorem d_Mo_noDeal_52 : decode prog_11_method_7_code 52 = .ok (.aload_n 0, 1) := by decide +kernel
theorem d_Mo_noDeal_53 : decode prog_11_method_7_code 53 = .ok (.bipush 53, 2) := by decide +kernel
theorem d_Mo_noDeal_55 : decode prog_11_method_7_code 55 = .ok (.iload_n 1, 1) := by decide +kernel
theorem d_Mo_noDeal_56 : decode prog_11_method_7_code 56 = .ok (.iadd, 1) := by decide +kernel
theorem d_Mo_noDeal_57 : decode prog_11_method_7_code 57 = .ok (.iconst (-1), 1) := by decide +kernel
theorem d_Mo_noDeal_58 : decode prog_11_method_7_code 58 = .ok (.iastore, 1) := by decide +kernel
theorem d_Mo_noDeal_59 : decode prog_11_method_7_code 59 = .ok (.aload_n 0, 1) := by decide +kernel
theorem d_Mo_noDeal_60 : decode prog_11_method_7_code 60 = .ok (.bipush 85, 2) := by decide +kernel
theorem d_Mo_noDeal_62 : decode prog_11_method_7_code 62 = .ok (.iload_n 1, 1) := by decide +kernel
theorem d_Mo_noDeal_63 : decode prog_11_method_7_code 63 = .ok (.iadd, 1) := by decide +kernel
theorem d_Mo_noDeal_64 : decode prog_11_method_7_code 64 = .ok (.iconst (-1), 1) := by decide +kernel
theorem d_Mo_noDeal_65 : decode prog_11_method_7_code 65 = .ok (.iastore, 1) := by decide +kernel
theorem d_Mo_noDeal_66 : decode prog_11_method_7_code 66 = .ok (.iinc 1 1, 3) := by decide +kernel
theorem d_Mo_noDeal_69 : decode prog_11_method_7_code 69 = .ok (.goto (-30), 3) := by decide +kernel
theorem d_Mo_noDeal_72 : decode prog_11_method_7_code 72 = .ok (.iconst 0, 1) := by decide +kernel
theorem d_Mo_noDeal_73 : decode prog_11_method_7_code 73 = .ok (.istore_n 1, 1) := by decide +kernel
theorem d_Mo_noDeal_74 : decode prog_11_method_7_code 74 = .ok (.iload_n 1, 1) := by decide +kernel
theorem d_Mo_noDeal_75 : decode prog_11_method_7_code 75 = .ok (.bipush 16, 2) := by decide +kernel
theorem d_Mo_noDeal_77 : decode prog_11_method_7_code 77 = .ok (.if_icmp .ge 48, 3) := by decide +kernel
theorem d_Mo_noDeal_80 : decode prog_11_method_7_code 80 = .ok (.aload_n 0, 1) := by decide +kernel
theorem d_Mo_noDeal_81 : decode prog_11_method_7_code 81 = .ok (.bipush 117, 2) := by decide +kernel
theorem d_Mo_noDeal_83 : decode prog_11_method_7_code 83 = .ok (.iload_n 1, 1) := by decide +kernel
theorem d_Mo_noDeal_84 : decode prog_11_method_7_code 84 = .ok (.iadd, 1) := by decide +kernel
theorem d_Mo_noDeal_85 : decode prog_11_method_7_code 85 = .ok (.iconst 0, 1) := by decide +kernel
theorem d_Mo_noDeal_86 : decode prog_11_method_7_code 86 = .ok (.iastore, 1) := by decide +kernel
theorem d_Mo_noDeal_87 : decode prog_11_method_7_code 87 = .ok (.aload_n 0, 1) := by decide +kernel
theorem d_Mo_noDeal_88 : decode prog_11_method_7_code 88 = .ok (.sipush 133, 3) := by decide +kernel
theorem d_Mo_noDeal_91 : decode prog_11_method_7_code 91 = .ok (.iload_n 1, 1) := by decide +kernel
theorem d_Mo_noDeal_92 : decode prog_11_method_7_code 92 = .ok (.iadd, 1) := by decide +kernel
theorem d_Mo_noDeal_93 : decode prog_11_method_7_code 93 = .ok (.iconst (-1), 1) := by decide +kernel
theorem d_Mo_noDeal_94 : decode prog_11_method_7_code 94 = .ok (.iastore, 1) := by decide +kernel
theorem d_Mo_noDeal_95 : decode prog_11_method_7_code 95 = .ok (.aload_n 0, 1) := by decide +kernel
theorem d_Mo_noDeal_96 : decode prog_11_method_7_code 96 = .ok (.sipush 149, 3) := by decide +kernel
theorem d_Mo_noDeal_99 : decode prog_11_method_7_code 99 = .ok (.iload_n 1, 1) := by decide +kernel
theorem d_Mo_noDeal_100 : decode prog_11_method_7_code 100 = .ok (.iadd, 1) := by decide +kernel
theorem d_Mo_noDeal_101 : decode prog_11_method_7_code 101 = .ok (.iconst 0, 1) := by decide +kernel
theorem d_Mo_noDeal_102 : decode prog_11_method_7_code 102 = .ok (.iastore, 1) := by decide +kernel
theorem d_Mo_noDeal_103 : decode prog_11_method_7_code 103 = .ok (.aload_n 0, 1) := by decide +kernel
theorem d_Mo_noDeal_104 : decode prog_11_method_7_code 104 = .ok (.sipush 165, 3) := by decide +kernel
theorem d_Mo_noDeal_107 : decode prog_11_method_7_code 107 = .ok (.iload_n 1, 1) := by decide +kernel
theorem d_Mo_noDeal_108 : decode prog_11_method_7_code 108 = .ok (.iadd, 1) := by decide +kernel
theorem d_Mo_noDeal_109 : decode prog_11_method_7_code 109 = .ok (.iconst (-1), 1) := by decide +kernel
theorem d_Mo_noDeal_110 : decode prog_11_method_7_code 110 = .ok (.iastore, 1) := by decide +kernel
theorem d_Mo_noDeal_111 : decode prog_11_method_7_code 111 = .ok (.aload_n 0, 1) := by decide +kernel
theorem d_Mo_noDeal_112 : decode prog_11_method_7_code 112 = .ok (.sipush 181, 3) := by decide +kernel
theorem d_Mo_noDeal_115 : decode prog_11_method_7_code 115 = .ok (.iload_n 1, 1) := by decide +kernel
theorem d_Mo_noDeal_116 : decode prog_11_method_7_code 116 = .ok (.iadd, 1) := by decide +kernel
theorem d_Mo_noDeal_117 : decode prog_11_method_7_code 117 = .ok (.iconst 0, 1) := by decide +kernel
theorem d_Mo_noDeal_118 : decode prog_11_method_7_code 118 = .ok (.iastore, 1) := by decide +kernel
theorem d_Mo_noDeal_119 : decode prog_11_method_7_code 119 = .ok (.iinc 1 1, 3) := by decide +kernel
theorem d_Mo_noDeal_122 : decode prog_11_method_7_code 122 = .ok (.goto (-48), 3) := by decide +kernel
theorem d_Mo_noDeal_125 : decode prog_11_method_7_code 125 = .ok (.return_, 1) := by decide +kernel
noncomputable def f_Mo_noDeal_s74 (g0 : Nat) (c0 : Nat) (n0 : Nat) (M : gMem) (x1 : Int32) : Option ((Int32 × gMem) ⊕ gMem) :=
  if 16 ≤ x1 then
    some (.inr M)
  else
    (gWr M g0 c0 n0 (117 + x1) 0).bind fun M9 =>
    (gWr M9 g0 c0 n0 (133 + x1) (-1)).bind fun M10 =>
    (gWr M10 g0 c0 n0 (149 + x1) 0).bind fun M11 =>
    (gWr M11 g0 c0 n0 (165 + x1) (-1)).bind fun M12 =>
    (gWr M12 g0 c0 n0 (181 + x1) 0).bind fun M13 =>
    some (.inl ((x1 + 1), M13))
theorem t_Mo_noDeal_s74 {l : Launch} {ε : gEnv} (g0 : Nat) (c0 : Nat) (n0 : Nat) (h0 : gHas ε g0 c0 (0, n0, [])) (M : gMem) (x1 : Int32) (res : ((Int32 × gMem) ⊕ gMem)) (h : f_Mo_noDeal_s74 g0 c0 n0 M x1 = some res) (r : gMem) (k1 : ∀ s0 : (Int32 × gMem), res = .inl s0 → gGo l ε k_Mo_noDeal (gR 0 0) (gFn ε none r) 74 [(0, .ref (ε.2.2.1 g0 c0)), (1, .int s0.1)] [] s0.2) (k2 : ∀ r', res = .inr r' → r' = r) : gGo l ε k_Mo_noDeal (gR 0 0) (gFn ε none r) 74 [(0, .ref (ε.2.2.1 g0 c0)), (1, .int x1)] [] M := by
  unfold f_Mo_noDeal_s74 at h
  refine g_iload_n d_Mo_noDeal_74 rfl 1 rfl ?_
  refine g_bipush (v := 16) d_Mo_noDeal_75 (by decide) ?_
  refine g_icmp_ge (tgt := 125) d_Mo_noDeal_77 (by decide) (fun c14 => ?_) (fun c14 => ?_)
  · rw [if_pos c14] at h
    obtain rfl := Option.some.inj h
    have e9 := k2 _ rfl
    subst e9
    exact g_vret d_Mo_noDeal_125 rfl
  · rw [if_neg c14] at h
    refine g_aload_n d_Mo_noDeal_80 rfl 0 rfl ?_
    refine g_bipush (v := 117) d_Mo_noDeal_81 (by decide) ?_
    refine g_iload_n d_Mo_noDeal_83 rfl 1 rfl ?_
    refine g_iadd d_Mo_noDeal_84 ?_
    refine g_iconst (v := 0) d_Mo_noDeal_85 (by decide) ?_
    obtain ⟨M9, hM9, h⟩ := gOb h
    refine g_iastore d_Mo_noDeal_86 h0 hM9 ?_
    refine g_aload_n d_Mo_noDeal_87 rfl 0 rfl ?_
    refine g_sipush (v := 133) d_Mo_noDeal_88 (by decide) ?_
    refine g_iload_n d_Mo_noDeal_91 rfl 1 rfl ?_
    refine g_iadd d_Mo_noDeal_92 ?_
    refine g_iconst (v := -1) d_Mo_noDeal_93 (by decide) ?_
    obtain ⟨M10, hM10, h⟩ := gOb h
    refine g_iastore d_Mo_noDeal_94 h0 hM10 ?_
    refine g_aload_n d_Mo_noDeal_95 rfl 0 rfl ?_
    refine g_sipush (v := 149) d_Mo_noDeal_96 (by decide) ?_
    refine g_iload_n d_Mo_noDeal_99 rfl 1 rfl ?_
    refine g_iadd d_Mo_noDeal_100 ?_
    refine g_iconst (v := 0) d_Mo_noDeal_101 (by decide) ?_
    obtain ⟨M11, hM11, h⟩ := gOb h
    refine g_iastore d_Mo_noDeal_102 h0 hM11 ?_
    refine g_aload_n d_Mo_noDeal_103 rfl 0 rfl ?_
    refine g_sipush (v := 165) d_Mo_noDeal_104 (by decide) ?_
    refine g_iload_n d_Mo_noDeal_107 rfl 1 rfl ?_
    refine g_iadd d_Mo_noDeal_108 ?_
    refine g_iconst (v := -1) d_Mo_noDeal_109 (by decide) ?_
    obtain ⟨M12, hM12, h⟩ := gOb h
    refine g_iastore d_Mo_noDeal_110 h0 hM12 ?_
    refine g_aload_n d_Mo_noDeal_111 rfl 0 rfl ?_
    refine g_sipush (v := 181) d_Mo_noDeal_112 (by decide) ?_
    refine g_iload_n d_Mo_noDeal_115 rfl 1 rfl ?_
    refine g_iadd d_Mo_noDeal_116 ?_
    refine g_iconst (v := 0) d_Mo_noDeal_117 (by decide) ?_
    obtain ⟨M13, hM13, h⟩ := gOb h
    refine g_iastore d_Mo_noDeal_118 h0 hM13 ?_
    refine g_iinc (v := (x1 + 1)) (L' := [(1, .int (x1 + 1)), (0, .ref (ε.2.2.1 g0 c0))]) d_Mo_noDeal_119 (j := 1) rfl rfl (by decide) rfl ?_
    refine g_goto (tgt := 74) d_Mo_noDeal_122 (by decide) ?_
    refine gGo_sub [1, 0] rfl ?_
    obtain rfl := Option.some.inj h
    exact k1 ((x1 + 1), M13) rfl
noncomputable def f_Mo_noDeal_l74 (g0 : Nat) (c0 : Nat) (n0 : Nat) (s : (Int32 × gMem)) : Option gMem := gLp (fun s => f_Mo_noDeal_s74 g0 c0 n0 s.2 s.1) s
theorem t_Mo_noDeal_l74 {l : Launch} {ε : gEnv} (g0 : Nat) (c0 : Nat) (n0 : Nat) (h0 : gHas ε g0 c0 (0, n0, [])) (s : (Int32 × gMem)) (r : gMem) (h : f_Mo_noDeal_l74 g0 c0 n0 s = some r) : gGo l ε k_Mo_noDeal (gR 0 0) (gFn ε none r) 74 [(0, .ref (ε.2.2.1 g0 c0)), (1, .int s.1)] [] s.2 :=
  g_loop _ (fun r s => gGo l ε k_Mo_noDeal (gR 0 0) (gFn ε none r) 74 [(0, .ref (ε.2.2.1 g0 c0)), (1, .int s.1)] [] s.2) (fun s res h r k1 k2 => t_Mo_noDeal_s74 g0 c0 n0 h0 s.2 s.1 res h r k1 k2) s r h
noncomputable def f_Mo_noDeal_s39 (g0 : Nat) (c0 : Nat) (n0 : Nat) (M : gMem) (x1 : Int32) : Option ((Int32 × gMem) ⊕ gMem) :=
  if 32 ≤ x1 then
    (f_Mo_noDeal_l74 g0 c0 n0 (0, M)).map .inr
  else
    (gWr M g0 c0 n0 (21 + x1) (-1)).bind fun M15 =>
    (gWr M15 g0 c0 n0 (53 + x1) (-1)).bind fun M16 =>
    (gWr M16 g0 c0 n0 (85 + x1) (-1)).bind fun M17 =>
    some (.inl ((x1 + 1), M17))
theorem t_Mo_noDeal_s39 {l : Launch} {ε : gEnv} (g0 : Nat) (c0 : Nat) (n0 : Nat) (h0 : gHas ε g0 c0 (0, n0, [])) (M : gMem) (x1 : Int32) (res : ((Int32 × gMem) ⊕ gMem)) (h : f_Mo_noDeal_s39 g0 c0 n0 M x1 = some res) (r : gMem) (k1 : ∀ s0 : (Int32 × gMem), res = .inl s0 → gGo l ε k_Mo_noDeal (gR 0 0) (gFn ε none r) 39 [(0, .ref (ε.2.2.1 g0 c0)), (1, .int s0.1)] [] s0.2) (k2 : ∀ r', res = .inr r' → r' = r) : gGo l ε k_Mo_noDeal (gR 0 0) (gFn ε none r) 39 [(0, .ref (ε.2.2.1 g0 c0)), (1, .int x1)] [] M := by
  unfold f_Mo_noDeal_s39 at h
  refine g_iload_n d_Mo_noDeal_39 rfl 1 rfl ?_
  refine g_bipush (v := 32) d_Mo_noDeal_40 (by decide) ?_
  refine g_icmp_ge (tgt := 72) d_Mo_noDeal_42 (by decide) (fun c18 => ?_) (fun c18 => ?_)
  · rw [if_pos c18] at h
    refine g_iconst (v := 0) d_Mo_noDeal_72 (by decide) ?_
    refine g_istore_n (L' := [(1, .int 0), (0, .ref (ε.2.2.1 g0 c0))]) d_Mo_noDeal_73 rfl (by decide) rfl ?_
    refine gGo_sub [1, 0] rfl ?_
    obtain ⟨r9, h9, h8⟩ := gOm h
    cases h8
    have e9 := k2 _ rfl
    subst e9
    exact t_Mo_noDeal_l74 g0 c0 n0 h0 (0, M) _ h9
  · rw [if_neg c18] at h
    refine g_aload_n d_Mo_noDeal_45 rfl 0 rfl ?_
    refine g_bipush (v := 21) d_Mo_noDeal_46 (by decide) ?_
    refine g_iload_n d_Mo_noDeal_48 rfl 1 rfl ?_
    refine g_iadd d_Mo_noDeal_49 ?_
    refine g_iconst (v := -1) d_Mo_noDeal_50 (by decide) ?_
    obtain ⟨M15, hM15, h⟩ := gOb h
    refine g_iastore d_Mo_noDeal_51 h0 hM15 ?_
    refine g_aload_n d_Mo_noDeal_52 rfl 0 rfl ?_
    refine g_bipush (v := 53) d_Mo_noDeal_53 (by decide) ?_
    refine g_iload_n d_Mo_noDeal_55 rfl 1 rfl ?_
    refine g_iadd d_Mo_noDeal_56 ?_
    refine g_iconst (v := -1) d_Mo_noDeal_57 (by decide) ?_
    obtain ⟨M16, hM16, h⟩ := gOb h
    refine g_iastore d_Mo_noDeal_58 h0 hM16 ?_
    refine g_aload_n d_Mo_noDeal_59 rfl 0 rfl ?_
    refine g_bipush (v := 85) d_Mo_noDeal_60 (by decide) ?_
    refine g_iload_n d_Mo_noDeal_62 rfl 1 rfl ?_
    refine g_iadd d_Mo_noDeal_63 ?_
    refine g_iconst (v := -1) d_Mo_noDeal_64 (by decide) ?_
    obtain ⟨M17, hM17, h⟩ := gOb h
    refine g_iastore d_Mo_noDeal_65 h0 hM17 ?_
    refine g_iinc (v := (x1 + 1)) (L' := [(1, .int (x1 + 1)), (0, .ref (ε.2.2.1 g0 c0))]) d_Mo_noDeal_66 (j := 1) rfl rfl (by decide) rfl ?_
    refine g_goto (tgt := 39) d_Mo_noDeal_69 (by decide) ?_
    refine gGo_sub [1, 0] rfl ?_
    obtain rfl := Option.some.inj h
    exact k1 ((x1 + 1), M17) rfl
noncomputable def f_Mo_noDeal_l39 (g0 : Nat) (c0 : Nat) (n0 : Nat) (s : (Int32 × gMem)) : Option gMem := gLp (fun s => f_Mo_noDeal_s39 g0 c0 n0 s.2 s.1) s
theorem t_Mo_noDeal_l39 {l : Launch} {ε : gEnv} (g0 : Nat) (c0 : Nat) (n0 : Nat) (h0 : gHas ε g0 c0 (0, n0, [])) (s : (Int32 × gMem)) (r : gMem) (h : f_Mo_noDeal_l39 g0 c0 n0 s = some r) : gGo l ε k_Mo_noDeal (gR 0 0) (gFn ε none r) 39 [(0, .ref (ε.2.2.1 g0 c0)), (1, .int s.1)] [] s.2 :=
  g_loop _ (fun r s => gGo l ε k_Mo_noDeal (gR 0 0) (gFn ε none r) 39 [(0, .ref (ε.2.2.1 g0 c0)), (1, .int s.1)] [] s.2) (fun s res h r k1 k2 => t_Mo_noDeal_s39 g0 c0 n0 h0 s.2 s.1 res h r k1 k2) s r h
noncomputable def f_Mo_noDeal (g0 : Nat) (c0 : Nat) (n0 : Nat) (M : gMem) : Option gMem :=
  (gWr M g0 c0 n0 3 0).bind fun M1 =>
  (gWr M1 g0 c0 n0 4 (-1)).bind fun M2 =>
  (gWr M2 g0 c0 n0 12 0).bind fun M3 =>
  (gWr M3 g0 c0 n0 13 (-1)).bind fun M4 =>
  (gWr M4 g0 c0 n0 5 0).bind fun M5 =>
  (gWr M5 g0 c0 n0 6 0).bind fun M6 =>
  (gWr M6 g0 c0 n0 14 0).bind fun M7 =>
  (gWr M7 g0 c0 n0 15 0).bind fun M8 =>
  f_Mo_noDeal_l39 g0 c0 n0 (0, M8)
theorem t_Mo_noDeal {l : Launch} {ε : gEnv} (g0 : Nat) (c0 : Nat) (n0 : Nat) (h0 : gHas ε g0 c0 (0, n0, [])) (M : gMem) (r : gMem) (h : f_Mo_noDeal g0 c0 n0 M = some r) : gGo l ε k_Mo_noDeal (gR 0 0) (gFn ε none r) 0 [(0, .ref (ε.2.2.1 g0 c0))] [] M := by
  unfold f_Mo_noDeal at h
  refine g_aload_n d_Mo_noDeal_0 rfl 0 rfl ?_
  refine g_iconst (v := 3) d_Mo_noDeal_1 (by decide) ?_
  refine g_iconst (v := 0) d_Mo_noDeal_2 (by decide) ?_
  obtain ⟨M1, hM1, h⟩ := gOb h
  refine g_iastore d_Mo_noDeal_3 h0 hM1 ?_
  refine g_aload_n d_Mo_noDeal_4 rfl 0 rfl ?_
  refine g_iconst (v := 4) d_Mo_noDeal_5 (by decide) ?_
  refine g_iconst (v := -1) d_Mo_noDeal_6 (by decide) ?_
  obtain ⟨M2, hM2, h⟩ := gOb h
  refine g_iastore d_Mo_noDeal_7 h0 hM2 ?_
  refine g_aload_n d_Mo_noDeal_8 rfl 0 rfl ?_
  refine g_bipush (v := 12) d_Mo_noDeal_9 (by decide) ?_
  refine g_iconst (v := 0) d_Mo_noDeal_11 (by decide) ?_
  obtain ⟨M3, hM3, h⟩ := gOb h
  refine g_iastore d_Mo_noDeal_12 h0 hM3 ?_
  refine g_aload_n d_Mo_noDeal_13 rfl 0 rfl ?_
  refine g_bipush (v := 13) d_Mo_noDeal_14 (by decide) ?_
  refine g_iconst (v := -1) d_Mo_noDeal_16 (by decide) ?_
  obtain ⟨M4, hM4, h⟩ := gOb h
  refine g_iastore d_Mo_noDeal_17 h0 hM4 ?_
  refine g_aload_n d_Mo_noDeal_18 rfl 0 rfl ?_
  refine g_iconst (v := 5) d_Mo_noDeal_19 (by decide) ?_
  refine g_iconst (v := 0) d_Mo_noDeal_20 (by decide) ?_
  obtain ⟨M5, hM5, h⟩ := gOb h
  refine g_iastore d_Mo_noDeal_21 h0 hM5 ?_
  refine g_aload_n d_Mo_noDeal_22 rfl 0 rfl ?_
  refine g_bipush (v := 6) d_Mo_noDeal_23 (by decide) ?_
  refine g_iconst (v := 0) d_Mo_noDeal_25 (by decide) ?_
  obtain ⟨M6, hM6, h⟩ := gOb h
  refine g_iastore d_Mo_noDeal_26 h0 hM6 ?_
  refine g_aload_n d_Mo_noDeal_27 rfl 0 rfl ?_
  refine g_bipush (v := 14) d_Mo_noDeal_28 (by decide) ?_
  refine g_iconst (v := 0) d_Mo_noDeal_30 (by decide) ?_
  obtain ⟨M7, hM7, h⟩ := gOb h
  refine g_iastore d_Mo_noDeal_31 h0 hM7 ?_
  refine g_aload_n d_Mo_noDeal_32 rfl 0 rfl ?_
  refine g_bipush (v := 15) d_Mo_noDeal_33 (by decide) ?_
  refine g_iconst (v := 0) d_Mo_noDeal_35 (by decide) ?_
  obtain ⟨M8, hM8, h⟩ := gOb h
  refine g_iastore d_Mo_noDeal_36 h0 hM8 ?_
  refine g_iconst (v := 0) d_Mo_noDeal_37 (by decide) ?_
  refine g_istore_n (L' := [(1, .int 0), (0, .ref (ε.2.2.1 g0 c0))]) d_Mo_noDeal_38 rfl (by decide) rfl ?_
  refine gGo_sub [1, 0] rfl ?_
  exact t_Mo_noDeal_l39 g0 c0 n0 h0 (0, M8) _ h
theorem ct_Mo_noDeal {l : Launch} {ε : gEnv} (g0 : Nat) (c0 : Nat) (n0 : Nat) (h0 : gHas ε g0 c0 (0, n0, [])) (M : gMem) (r : gMem) (h : f_Mo_noDeal g0 c0 n0 M = some r) : gCt l ε k_Mo_noDeal 0 0 [.ref (ε.2.2.1 g0 c0)] M none r :=
  gCt_of (by decide) (Nat.le_of_ble_eq_true rfl) rfl (t_Mo_noDeal g0 c0 n0 h0 M r h)
abbrev k_Mo_clear : gMD := (⟨"DropSignalsModel", "clear", "([I)V"⟩, prog_11_method_6_code, 2, none)
theorem w_968 : Cond.static ⟨"DropSignalsModel", "clear", "([I)V"⟩ ∈ gWs := gWs_in (i := 968) (by decide +kernel) rfl
set_option maxRecDepth 100000 in
theorem ca_Mo_clear : gCaS k_Mo_clear 1 := ⟨⟨gWs_in (i := 969) rfl rfl, w_43, by decide, by decide, by decide +kernel⟩, w_968⟩
theorem d_Mo_clear_0 : decode prog_11_method_6_code 0 = .ok (.iconst 0, 1) := by decide +kernel
theorem d_Mo_clear_1 : decode prog_11_method_6_code 1 = .ok (.istore_n 1, 1) := by decide +kernel
theorem d_Mo_clear_2 : decode prog_11_method_6_code 2 = .ok (.iload_n 1, 1) := by decide +kernel
theorem d_Mo_clear_3 : decode prog_11_method_6_code 3 = .ok (.sipush 197, 3) := by decide +kernel
theorem d_Mo_clear_6 : decode prog_11_method_6_code 6 = .ok (.if_icmp .ge 13, 3) := by decide +kernel
theorem d_Mo_clear_9 : decode prog_11_method_6_code 9 = .ok (.aload_n 0, 1) := by decide +kernel
theorem d_Mo_clear_10 : decode prog_11_method_6_code 10 = .ok (.iload_n 1, 1) := by decide +kernel
theorem d_Mo_clear_11 : decode prog_11_method_6_code 11 = .ok (.iconst 0, 1) := by decide +kernel
theorem d_Mo_clear_12 : decode prog_11_method_6_code 12 = .ok (.iastore, 1) := by decide +kernel
theorem d_Mo_clear_13 : decode prog_11_method_6_code 13 = .ok (.iinc 1 1, 3) := by decide +kernel
theorem d_Mo_clear_16 : decode prog_11_method_6_code 16 = .ok (.goto (-14), 3) := by decide +kernel
theorem d_Mo_clear_19 : decode prog_11_method_6_code 19 = .ok (.aload_n 0, 1) := by decide +kernel
theorem d_Mo_clear_20 : decode prog_11_method_6_code 20 = .ok (.invokestatic 52, 3) := by decide +kernel
theorem d_Mo_clear_23 : decode prog_11_method_6_code 23 = .ok (.return_, 1) := by decide +kernel
theorem w_970 : Cond.methodLink "DropSignalsModel" 52 ⟨"DropSignalsModel", "noDeal", "([I)V"⟩ ∈ gWs := gWs_in (i := 970) (by decide +kernel) rfl
noncomputable def f_Mo_clear_s2 (g0 : Nat) (c0 : Nat) (n0 : Nat) (M : gMem) (x1 : Int32) : Option ((Int32 × gMem) ⊕ gMem) :=
  if 197 ≤ x1 then
    (f_Mo_noDeal g0 c0 n0 M).bind fun q1 =>
    some (.inr q1)
  else
    (gWr M g0 c0 n0 x1 0).bind fun M2 =>
    some (.inl ((x1 + 1), M2))
theorem t_Mo_clear_s2 {l : Launch} {ε : gEnv} (g0 : Nat) (c0 : Nat) (n0 : Nat) (h0 : gHas ε g0 c0 (0, n0, [])) (M : gMem) (x1 : Int32) (res : ((Int32 × gMem) ⊕ gMem)) (h : f_Mo_clear_s2 g0 c0 n0 M x1 = some res) (r : gMem) (k1 : ∀ s0 : (Int32 × gMem), res = .inl s0 → gGo l ε k_Mo_clear (gR 1 21) (gFn ε none r) 2 [(0, .ref (ε.2.2.1 g0 c0)), (1, .int s0.1)] [] s0.2) (k2 : ∀ r', res = .inr r' → r' = r) : gGo l ε k_Mo_clear (gR 1 21) (gFn ε none r) 2 [(0, .ref (ε.2.2.1 g0 c0)), (1, .int x1)] [] M := by
  unfold f_Mo_clear_s2 at h
  refine g_iload_n d_Mo_clear_2 rfl 1 rfl ?_
  refine g_sipush (v := 197) d_Mo_clear_3 (by decide) ?_
  refine g_icmp_ge (tgt := 19) d_Mo_clear_6 (by decide) (fun c3 => ?_) (fun c3 => ?_)
  · rw [if_pos c3] at h
    refine g_aload_n d_Mo_clear_19 rfl 0 rfl ?_
    obtain ⟨q1, hq1, h⟩ := gOb h
    refine g_callS_v (As := [.ref (ε.2.2.1 g0 c0)]) (rest := []) (ct_Mo_noDeal g0 c0 n0 h0 M _ hq1) d_Mo_clear_20 ca_Mo_noDeal w_970 rfl rfl (Nat.le_of_ble_eq_true rfl) ⟨(Nat.le_of_ble_eq_true rfl), (Nat.le_of_ble_eq_true rfl)⟩ ?_
    obtain rfl := Option.some.inj h
    have e9 := k2 _ rfl
    subst e9
    exact g_vret d_Mo_clear_23 rfl
  · rw [if_neg c3] at h
    refine g_aload_n d_Mo_clear_9 rfl 0 rfl ?_
    refine g_iload_n d_Mo_clear_10 rfl 1 rfl ?_
    refine g_iconst (v := 0) d_Mo_clear_11 (by decide) ?_
    obtain ⟨M2, hM2, h⟩ := gOb h
    refine g_iastore d_Mo_clear_12 h0 hM2 ?_
    refine g_iinc (v := (x1 + 1)) (L' := [(1, .int (x1 + 1)), (0, .ref (ε.2.2.1 g0 c0))]) d_Mo_clear_13 (j := 1) rfl rfl (by decide) rfl ?_
    refine g_goto (tgt := 2) d_Mo_clear_16 (by decide) ?_
    refine gGo_sub [1, 0] rfl ?_
    obtain rfl := Option.some.inj h
    exact k1 ((x1 + 1), M2) rfl
noncomputable def f_Mo_clear_l2 (g0 : Nat) (c0 : Nat) (n0 : Nat) (s : (Int32 × gMem)) : Option gMem := gLp (fun s => f_Mo_clear_s2 g0 c0 n0 s.2 s.1) s
theorem t_Mo_clear_l2 {l : Launch} {ε : gEnv} (g0 : Nat) (c0 : Nat) (n0 : Nat) (h0 : gHas ε g0 c0 (0, n0, [])) (s : (Int32 × gMem)) (r : gMem) (h : f_Mo_clear_l2 g0 c0 n0 s = some r) : gGo l ε k_Mo_clear (gR 1 21) (gFn ε none r) 2 [(0, .ref (ε.2.2.1 g0 c0)), (1, .int s.1)] [] s.2 :=
  g_loop _ (fun r s => gGo l ε k_Mo_clear (gR 1 21) (gFn ε none r) 2 [(0, .ref (ε.2.2.1 g0 c0)), (1, .int s.1)] [] s.2) (fun s res h r k1 k2 => t_Mo_clear_s2 g0 c0 n0 h0 s.2 s.1 res h r k1 k2) s r h
noncomputable def f_Mo_clear (g0 : Nat) (c0 : Nat) (n0 : Nat) (M : gMem) : Option gMem :=
  f_Mo_clear_l2 g0 c0 n0 (0, M)
theorem t_Mo_clear {l : Launch} {ε : gEnv} (g0 : Nat) (c0 : Nat) (n0 : Nat) (h0 : gHas ε g0 c0 (0, n0, [])) (M : gMem) (r : gMem) (h : f_Mo_clear g0 c0 n0 M = some r) : gGo l ε k_Mo_clear (gR 1 21) (gFn ε none r) 0 [(0, .ref (ε.2.2.1 g0 c0))] [] M := by
  unfold f_Mo_clear at h
  refine g_iconst (v := 0) d_Mo_clear_0 (by decide) ?_
  refine g_istore_n (L' := [(1, .int 0), (0, .ref (ε.2.2.1 g0 c0))]) d_Mo_clear_1 rfl (by decide) rfl ?_
  refine gGo_sub [1, 0] rfl ?_
  exact t_Mo_clear_l2 g0 c0 n0 h0 (0, M) _ h
theorem ct_Mo_clear {l : Launch} {ε : gEnv} (g0 : Nat) (c0 : Nat) (n0 : Nat) (h0 : gHas ε g0 c0 (0, n0, [])) (M : gMem) (r : gMem) (h : f_Mo_clear g0 c0 n0 M = some r) : gCt l ε k_Mo_clear 1 21 [.ref (ε.2.2.1 g0 c0)] M none r :=
  gCt_of (by decide) (Nat.le_of_ble_eq_true rfl) rfl (t_Mo_clear g0 c0 n0 h0 M r h)
abbrev k_Mo_suit : gMD := (⟨"DropSignalsModel", "suit", "(I)I"⟩, prog_11_method_8_code, 1, (some .int))
theorem w_1088 : Cond.static ⟨"DropSignalsModel", "suit", "(I)I"⟩ ∈ gWs := gWs_in (i := 1088) (by decide +kernel) rfl
set_option maxRecDepth 100000 in
theorem ca_Mo_suit : gCaS k_Mo_suit 1 := ⟨⟨gWs_in (i := 1089) rfl rfl, w_43, by decide, by decide, by decide +kernel⟩, w_1088⟩
theorem d_Mo_suit_0 : decode prog_11_method_8_code 0 = .ok (.iload_n 0, 1) := by decide +kernel
theorem d_Mo_suit_1 : decode prog_11_method_8_code 1 = .ok (.bipush 8, 2) := by decide +kernel
theorem d_Mo_suit_3 : decode prog_11_method_8_code 3 = .ok (.idiv, 1) := by decide +kernel
theorem d_Mo_suit_4 : decode prog_11_method_8_code 4 = .ok (.ireturn, 1) := by decide +kernel
noncomputable def f_Mo_suit (a0 : Int32) : Option Int32 :=
  some (a0 / 8)
theorem t_Mo_suit {l : Launch} {ε : gEnv} (M : gMem) (a0 : Int32) (r : Int32) (h : f_Mo_suit a0 = some r) : gGo l ε k_Mo_suit (gR 0 0) (gFn ε (some (.int r)) M) 0 [(0, .int a0)] [] M := by
  unfold f_Mo_suit at h
  refine g_iload_n d_Mo_suit_0 rfl 0 rfl ?_
  refine g_bipush (v := 8) d_Mo_suit_1 (by decide) ?_
  refine g_idiv d_Mo_suit_3 (by decide) ?_
  obtain rfl := Option.some.inj h
  exact g_iret d_Mo_suit_4 rfl
theorem ct_Mo_suit {l : Launch} {ε : gEnv} (M : gMem) (a0 : Int32) (r : Int32) (h : f_Mo_suit a0 = some r) : gCt l ε k_Mo_suit 0 0 [.int a0] M (some (.int r)) M :=
  gCt_of (by decide) (Nat.le_of_ble_eq_true rfl) rfl (t_Mo_suit M a0 r h)
abbrev k_Mo_rank : gMD := (⟨"DropSignalsModel", "rank", "(I)I"⟩, prog_11_method_9_code, 1, (some .int))
theorem w_1103 : Cond.static ⟨"DropSignalsModel", "rank", "(I)I"⟩ ∈ gWs := gWs_in (i := 1103) (by decide +kernel) rfl
set_option maxRecDepth 100000 in
theorem ca_Mo_rank : gCaS k_Mo_rank 1 := ⟨⟨gWs_in (i := 1104) rfl rfl, w_43, by decide, by decide, by decide +kernel⟩, w_1103⟩
theorem d_Mo_rank_0 : decode prog_11_method_9_code 0 = .ok (.iload_n 0, 1) := by decide +kernel
theorem d_Mo_rank_1 : decode prog_11_method_9_code 1 = .ok (.bipush 8, 2) := by decide +kernel
theorem d_Mo_rank_3 : decode prog_11_method_9_code 3 = .ok (.irem, 1) := by decide +kernel
theorem d_Mo_rank_4 : decode prog_11_method_9_code 4 = .ok (.ireturn, 1) := by decide +kernel
noncomputable def f_Mo_rank (a0 : Int32) : Option Int32 :=
  some (gRem a0 8)
theorem t_Mo_rank {l : Launch} {ε : gEnv} (M : gMem) (a0 : Int32) (r : Int32) (h : f_Mo_rank a0 = some r) : gGo l ε k_Mo_rank (gR 0 0) (gFn ε (some (.int r)) M) 0 [(0, .int a0)] [] M := by
  unfold f_Mo_rank at h
  refine g_iload_n d_Mo_rank_0 rfl 0 rfl ?_
  refine g_bipush (v := 8) d_Mo_rank_1 (by decide) ?_
  refine g_rem d_Mo_rank_3 (by decide) ?_
  obtain rfl := Option.some.inj h
  exact g_iret d_Mo_rank_4 rfl
theorem ct_Mo_rank {l : Launch} {ε : gEnv} (M : gMem) (a0 : Int32) (r : Int32) (h : f_Mo_rank a0 = some r) : gCt l ε k_Mo_rank 0 0 [.int a0] M (some (.int r)) M :=
  gCt_of (by decide) (Nat.le_of_ble_eq_true rfl) rfl (t_Mo_rank M a0 r h)
abbrev k_Mo_isSmall : gMD := (⟨"DropSignalsModel", "isSmall", "(I)Z"⟩, prog_11_method_10_code, 1, (some .boolean))
theorem w_1100 : Cond.static ⟨"DropSignalsModel", "isSmall", "(I)Z"⟩ ∈ gWs := gWs_in (i := 1100) (by decide +kernel) rfl
set_option maxRecDepth 100000 in
theorem ca_Mo_isSmall : gCaS k_Mo_isSmall 1 := ⟨⟨gWs_in (i := 1101) rfl rfl, w_43, by decide, by decide, by decide +kernel⟩, w_1100⟩
theorem d_Mo_isSmall_0 : decode prog_11_method_10_code 0 = .ok (.iload_n 0, 1) := by decide +kernel
theorem d_Mo_isSmall_1 : decode prog_11_method_10_code 1 = .ok (.invokestatic 55, 3) := by decide +kernel
theorem d_Mo_isSmall_4 : decode prog_11_method_10_code 4 = .ok (.iconst 4, 1) := by decide +kernel
theorem d_Mo_isSmall_5 : decode prog_11_method_10_code 5 = .ok (.if_icmp .ge 7, 3) := by decide +kernel
theorem d_Mo_isSmall_8 : decode prog_11_method_10_code 8 = .ok (.iconst 1, 1) := by decide +kernel
theorem d_Mo_isSmall_9 : decode prog_11_method_10_code 9 = .ok (.goto 4, 3) := by decide +kernel
theorem d_Mo_isSmall_12 : decode prog_11_method_10_code 12 = .ok (.iconst 0, 1) := by decide +kernel
theorem d_Mo_isSmall_13 : decode prog_11_method_10_code 13 = .ok (.ireturn, 1) := by decide +kernel
theorem w_1102 : Cond.methodLink "DropSignalsModel" 55 ⟨"DropSignalsModel", "rank", "(I)I"⟩ ∈ gWs := gWs_in (i := 1102) (by decide +kernel) rfl
noncomputable def f_Mo_isSmall (a0 : Int32) : Option Int32 :=
  (f_Mo_rank a0).bind fun q1 =>
  if 4 ≤ q1 then
    some 0
  else
    some 1
theorem t_Mo_isSmall {l : Launch} {ε : gEnv} (M : gMem) (a0 : Int32) (r : Int32) (h : f_Mo_isSmall a0 = some r) : gGo l ε k_Mo_isSmall (gR 1 20) (gFn ε (some (.int r)) M) 0 [(0, .int a0)] [] M := by
  unfold f_Mo_isSmall at h
  refine g_iload_n d_Mo_isSmall_0 rfl 0 rfl ?_
  obtain ⟨q1, hq1, h⟩ := gOb h
  refine g_callS_i (As := [.int a0]) (rest := []) (ct_Mo_rank M a0 _ hq1) d_Mo_isSmall_1 ca_Mo_rank w_1102 rfl rfl (Nat.le_of_ble_eq_true rfl) ⟨(Nat.le_of_ble_eq_true rfl), (Nat.le_of_ble_eq_true rfl)⟩ ?_
  refine g_iconst (v := 4) d_Mo_isSmall_4 (by decide) ?_
  refine g_icmp_ge (tgt := 12) d_Mo_isSmall_5 (by decide) (fun c2 => ?_) (fun c2 => ?_)
  · rw [if_pos c2] at h
    refine g_iconst (v := 0) d_Mo_isSmall_12 (by decide) ?_
    obtain rfl := Option.some.inj h
    exact g_zret d_Mo_isSmall_13 rfl gZ0
  · rw [if_neg c2] at h
    refine g_iconst (v := 1) d_Mo_isSmall_8 (by decide) ?_
    refine g_goto (tgt := 13) d_Mo_isSmall_9 (by decide) ?_
    obtain rfl := Option.some.inj h
    exact g_zret d_Mo_isSmall_13 rfl gZ1
theorem ct_Mo_isSmall {l : Launch} {ε : gEnv} (M : gMem) (a0 : Int32) (r : Int32) (h : f_Mo_isSmall a0 = some r) : gCt l ε k_Mo_isSmall 1 20 [.int a0] M (some (.int r)) M :=
  gCt_of (by decide) (Nat.le_of_ble_eq_true rfl) rfl (t_Mo_isSmall M a0 r h)
abbrev k_Mo_holds : gMD := (⟨"DropSignalsModel", "holds", "([III)I"⟩, prog_11_method_11_code, 5, (some .int))
theorem w_1091 : Cond.static ⟨"DropSignalsModel", "holds", "([III)I"⟩ ∈ gWs := gWs_in (i := 1091) (by decide +kernel) rfl
set_option maxRecDepth 100000 in
theorem ca_Mo_holds : gCaS k_Mo_holds 3 := ⟨⟨gWs_in (i := 1092) rfl rfl, w_43, by decide, by decide, by decide +kernel⟩, w_1091⟩
theorem d_Mo_holds_0 : decode prog_11_method_11_code 0 = .ok (.iconst 0, 1) := by decide +kernel
theorem d_Mo_holds_1 : decode prog_11_method_11_code 1 = .ok (.istore_n 3, 1) := by decide +kernel
theorem d_Mo_holds_2 : decode prog_11_method_11_code 2 = .ok (.bipush 8, 2) := by decide +kernel
theorem d_Mo_holds_4 : decode prog_11_method_11_code 4 = .ok (.iload_n 2, 1) := by decide +kernel
theorem d_Mo_holds_5 : decode prog_11_method_11_code 5 = .ok (.imul, 1) := by decide +kernel
theorem d_Mo_holds_6 : decode prog_11_method_11_code 6 = .ok (.istore 4, 2) := by decide +kernel
theorem d_Mo_holds_8 : decode prog_11_method_11_code 8 = .ok (.iload 4, 2) := by decide +kernel
theorem d_Mo_holds_10 : decode prog_11_method_11_code 10 = .ok (.bipush 8, 2) := by decide +kernel
theorem d_Mo_holds_12 : decode prog_11_method_11_code 12 = .ok (.iload_n 2, 1) := by decide +kernel
theorem d_Mo_holds_13 : decode prog_11_method_11_code 13 = .ok (.imul, 1) := by decide +kernel
theorem d_Mo_holds_14 : decode prog_11_method_11_code 14 = .ok (.bipush 8, 2) := by decide +kernel
theorem d_Mo_holds_16 : decode prog_11_method_11_code 16 = .ok (.iadd, 1) := by decide +kernel
theorem d_Mo_holds_17 : decode prog_11_method_11_code 17 = .ok (.if_icmp .ge 28, 3) := by decide +kernel
theorem d_Mo_holds_20 : decode prog_11_method_11_code 20 = .ok (.iload_n 3, 1) := by decide +kernel
theorem d_Mo_holds_21 : decode prog_11_method_11_code 21 = .ok (.aload_n 0, 1) := by decide +kernel
theorem d_Mo_holds_22 : decode prog_11_method_11_code 22 = .ok (.bipush 21, 2) := by decide +kernel
theorem d_Mo_holds_24 : decode prog_11_method_11_code 24 = .ok (.iload 4, 2) := by decide +kernel
theorem d_Mo_holds_26 : decode prog_11_method_11_code 26 = .ok (.iadd, 1) := by decide +kernel
theorem d_Mo_holds_27 : decode prog_11_method_11_code 27 = .ok (.iaload, 1) := by decide +kernel
theorem d_Mo_holds_28 : decode prog_11_method_11_code 28 = .ok (.iload_n 1, 1) := by decide +kernel
theorem d_Mo_holds_29 : decode prog_11_method_11_code 29 = .ok (.if_icmp .ne 7, 3) := by decide +kernel
theorem d_Mo_holds_32 : decode prog_11_method_11_code 32 = .ok (.iconst 1, 1) := by decide +kernel
theorem d_Mo_holds_33 : decode prog_11_method_11_code 33 = .ok (.goto 4, 3) := by decide +kernel
theorem d_Mo_holds_36 : decode prog_11_method_11_code 36 = .ok (.iconst 0, 1) := by decide +kernel
theorem d_Mo_holds_37 : decode prog_11_method_11_code 37 = .ok (.iadd, 1) := by decide +kernel
theorem d_Mo_holds_38 : decode prog_11_method_11_code 38 = .ok (.istore_n 3, 1) := by decide +kernel
theorem d_Mo_holds_39 : decode prog_11_method_11_code 39 = .ok (.iinc 4 1, 3) := by decide +kernel
theorem d_Mo_holds_42 : decode prog_11_method_11_code 42 = .ok (.goto (-34), 3) := by decide +kernel
theorem d_Mo_holds_45 : decode prog_11_method_11_code 45 = .ok (.iload_n 3, 1) := by decide +kernel
theorem d_Mo_holds_46 : decode prog_11_method_11_code 46 = .ok (.ireturn, 1) := by decide +kernel
noncomputable def f_Mo_holds_b37 (g0 : Nat) (c0 : Nat) (n0 : Nat) (M : gMem) (x1 : Int32) (x2 : Int32) (x4 : Int32) (s0 : Int32) (s1 : Int32) : Option ((Int32 × Int32) ⊕ Int32) :=
  some (.inl ((s1 + s0), (x4 + 1)))
theorem t_Mo_holds_b37 {l : Launch} {ε : gEnv} (g0 : Nat) (c0 : Nat) (n0 : Nat) (h0 : gHas ε g0 c0 (0, n0, [])) (M : gMem) (x1 : Int32) (x2 : Int32) (x4 : Int32) (s0 : Int32) (s1 : Int32) (res : ((Int32 × Int32) ⊕ Int32)) (h : f_Mo_holds_b37 g0 c0 n0 M x1 x2 x4 s0 s1 = some res) (r : Int32) (k1 : ∀ s0 : (Int32 × Int32), res = .inl s0 → gGo l ε k_Mo_holds (gR 0 0) (gFn ε (some (.int r)) M) 8 [(0, .ref (ε.2.2.1 g0 c0)), (1, .int x1), (2, .int x2), (3, .int s0.1), (4, .int s0.2)] [] M) (k2 : ∀ r', res = .inr r' → r' = r) : gGo l ε k_Mo_holds (gR 0 0) (gFn ε (some (.int r)) M) 37 [(0, .ref (ε.2.2.1 g0 c0)), (1, .int x1), (2, .int x2), (4, .int x4)] [.int s0, .int s1] M := by
  unfold f_Mo_holds_b37 at h
  refine g_iadd d_Mo_holds_37 ?_
  refine g_istore_n (L' := [(3, .int (s1 + s0)), (0, .ref (ε.2.2.1 g0 c0)), (1, .int x1), (2, .int x2), (4, .int x4)]) d_Mo_holds_38 rfl (by decide) rfl ?_
  refine g_iinc (v := (x4 + 1)) (L' := [(4, .int (x4 + 1)), (3, .int (s1 + s0)), (0, .ref (ε.2.2.1 g0 c0)), (1, .int x1), (2, .int x2)]) d_Mo_holds_39 (j := 4) rfl rfl (by decide) rfl ?_
  refine g_goto (tgt := 8) d_Mo_holds_42 (by decide) ?_
  refine gGo_sub [2, 3, 4, 1, 0] rfl ?_
  obtain rfl := Option.some.inj h
  exact k1 ((s1 + s0), (x4 + 1)) rfl
noncomputable def f_Mo_holds_s8 (g0 : Nat) (c0 : Nat) (n0 : Nat) (M : gMem) (x1 : Int32) (x2 : Int32) (x3 : Int32) (x4 : Int32) : Option ((Int32 × Int32) ⊕ Int32) :=
  if ((8 * x2) + 8) ≤ x4 then
    some (.inr x3)
  else
    (gRd n0 (M g0 c0) (21 + x4)).bind fun v1 =>
    if v1 = x1 then
      f_Mo_holds_b37 g0 c0 n0 M x1 x2 x4 1 x3
    else
      f_Mo_holds_b37 g0 c0 n0 M x1 x2 x4 0 x3
theorem t_Mo_holds_s8 {l : Launch} {ε : gEnv} (g0 : Nat) (c0 : Nat) (n0 : Nat) (h0 : gHas ε g0 c0 (0, n0, [])) (M : gMem) (x1 : Int32) (x2 : Int32) (x3 : Int32) (x4 : Int32) (res : ((Int32 × Int32) ⊕ Int32)) (h : f_Mo_holds_s8 g0 c0 n0 M x1 x2 x3 x4 = some res) (r : Int32) (k1 : ∀ s0 : (Int32 × Int32), res = .inl s0 → gGo l ε k_Mo_holds (gR 0 0) (gFn ε (some (.int r)) M) 8 [(0, .ref (ε.2.2.1 g0 c0)), (1, .int x1), (2, .int x2), (3, .int s0.1), (4, .int s0.2)] [] M) (k2 : ∀ r', res = .inr r' → r' = r) : gGo l ε k_Mo_holds (gR 0 0) (gFn ε (some (.int r)) M) 8 [(0, .ref (ε.2.2.1 g0 c0)), (1, .int x1), (2, .int x2), (3, .int x3), (4, .int x4)] [] M := by
  unfold f_Mo_holds_s8 at h
  refine g_iload d_Mo_holds_8 4 rfl ?_
  refine g_bipush (v := 8) d_Mo_holds_10 (by decide) ?_
  refine g_iload_n d_Mo_holds_12 rfl 2 rfl ?_
  refine g_imul d_Mo_holds_13 ?_
  refine g_bipush (v := 8) d_Mo_holds_14 (by decide) ?_
  refine g_iadd d_Mo_holds_16 ?_
  refine g_icmp_ge (tgt := 45) d_Mo_holds_17 (by decide) (fun c3 => ?_) (fun c3 => ?_)
  · rw [if_pos c3] at h
    refine g_iload_n d_Mo_holds_45 rfl 3 rfl ?_
    obtain rfl := Option.some.inj h
    have e9 := k2 _ rfl
    subst e9
    exact g_iret d_Mo_holds_46 rfl
  · rw [if_neg c3] at h
    refine g_iload_n d_Mo_holds_20 rfl 3 rfl ?_
    refine g_aload_n d_Mo_holds_21 rfl 0 rfl ?_
    refine g_bipush (v := 21) d_Mo_holds_22 (by decide) ?_
    refine g_iload d_Mo_holds_24 4 rfl ?_
    refine g_iadd d_Mo_holds_26 ?_
    obtain ⟨v1, hv1, h⟩ := gOb h
    refine g_iaload d_Mo_holds_27 h0 hv1 ?_
    refine g_iload_n d_Mo_holds_28 rfl 1 rfl ?_
    refine g_icmp_ne (tgt := 36) d_Mo_holds_29 (by decide) (fun c2 => ?_) (fun c2 => ?_)
    · rw [if_neg c2] at h
      refine g_iconst (v := 0) d_Mo_holds_36 (by decide) ?_
      refine gGo_sub [0, 1, 2, 4] rfl ?_
      exact t_Mo_holds_b37 g0 c0 n0 h0 M x1 x2 x4 0 x3 _ h r k1 k2
    · rw [if_pos c2] at h
      refine g_iconst (v := 1) d_Mo_holds_32 (by decide) ?_
      refine g_goto (tgt := 37) d_Mo_holds_33 (by decide) ?_
      refine gGo_sub [0, 1, 2, 4] rfl ?_
      exact t_Mo_holds_b37 g0 c0 n0 h0 M x1 x2 x4 1 x3 _ h r k1 k2
noncomputable def f_Mo_holds_l8 (g0 : Nat) (c0 : Nat) (n0 : Nat) (M : gMem) (x1 : Int32) (x2 : Int32) (s : (Int32 × Int32)) : Option Int32 := gLp (fun s => f_Mo_holds_s8 g0 c0 n0 M x1 x2 s.1 s.2) s
theorem t_Mo_holds_l8 {l : Launch} {ε : gEnv} (g0 : Nat) (c0 : Nat) (n0 : Nat) (h0 : gHas ε g0 c0 (0, n0, [])) (M : gMem) (x1 : Int32) (x2 : Int32) (s : (Int32 × Int32)) (r : Int32) (h : f_Mo_holds_l8 g0 c0 n0 M x1 x2 s = some r) : gGo l ε k_Mo_holds (gR 0 0) (gFn ε (some (.int r)) M) 8 [(0, .ref (ε.2.2.1 g0 c0)), (1, .int x1), (2, .int x2), (3, .int s.1), (4, .int s.2)] [] M :=
  g_loop _ (fun r s => gGo l ε k_Mo_holds (gR 0 0) (gFn ε (some (.int r)) M) 8 [(0, .ref (ε.2.2.1 g0 c0)), (1, .int x1), (2, .int x2), (3, .int s.1), (4, .int s.2)] [] M) (fun s res h r k1 k2 => t_Mo_holds_s8 g0 c0 n0 h0 M x1 x2 s.1 s.2 res h r k1 k2) s r h
noncomputable def f_Mo_holds (g0 : Nat) (c0 : Nat) (n0 : Nat) (M : gMem) (a1 : Int32) (a2 : Int32) : Option Int32 :=
  f_Mo_holds_l8 g0 c0 n0 M a1 a2 (0, (8 * a2))
theorem t_Mo_holds {l : Launch} {ε : gEnv} (g0 : Nat) (c0 : Nat) (n0 : Nat) (h0 : gHas ε g0 c0 (0, n0, [])) (M : gMem) (a1 : Int32) (a2 : Int32) (r : Int32) (h : f_Mo_holds g0 c0 n0 M a1 a2 = some r) : gGo l ε k_Mo_holds (gR 0 0) (gFn ε (some (.int r)) M) 0 [(0, .ref (ε.2.2.1 g0 c0)), (1, .int a1), (2, .int a2)] [] M := by
  unfold f_Mo_holds at h
  refine g_iconst (v := 0) d_Mo_holds_0 (by decide) ?_
  refine g_istore_n (L' := [(3, .int 0), (0, .ref (ε.2.2.1 g0 c0)), (1, .int a1), (2, .int a2)]) d_Mo_holds_1 rfl (by decide) rfl ?_
  refine g_bipush (v := 8) d_Mo_holds_2 (by decide) ?_
  refine g_iload_n d_Mo_holds_4 rfl 3 rfl ?_
  refine g_imul d_Mo_holds_5 ?_
  refine g_istore (L' := [(4, .int (8 * a2)), (3, .int 0), (0, .ref (ε.2.2.1 g0 c0)), (1, .int a1), (2, .int a2)]) d_Mo_holds_6 (by decide) rfl ?_
  refine gGo_sub [2, 3, 4, 1, 0] rfl ?_
  exact t_Mo_holds_l8 g0 c0 n0 h0 M a1 a2 (0, (8 * a2)) _ h
theorem ct_Mo_holds {l : Launch} {ε : gEnv} (g0 : Nat) (c0 : Nat) (n0 : Nat) (h0 : gHas ε g0 c0 (0, n0, [])) (M : gMem) (a1 : Int32) (a2 : Int32) (r : Int32) (h : f_Mo_holds g0 c0 n0 M a1 a2 = some r) : gCt l ε k_Mo_holds 0 0 [.ref (ε.2.2.1 g0 c0), .int a1, .int a2] M (some (.int r)) M :=
  gCt_of (by decide) (Nat.le_of_ble_eq_true rfl) rfl (t_Mo_holds g0 c0 n0 h0 M a1 a2 r h)
abbrev k_Mo_wasDealt : gMD := (⟨"DropSignalsModel", "wasDealt", "([III)I"⟩, prog_11_method_12_code, 5, (some .int))
theorem w_1109 : Cond.static ⟨"DropSignalsModel", "wasDealt", "([III)I"⟩ ∈ gWs := gWs_in (i := 1109) (by decide +kernel) rfl
set_option maxRecDepth 100000 in
theorem ca_Mo_wasDealt : gCaS k_Mo_wasDealt 3 := ⟨⟨gWs_in (i := 1110) rfl rfl, w_43, by decide, by decide, by decide +kernel⟩, w_1109⟩
theorem d_Mo_wasDealt_0 : decode prog_11_method_12_code 0 = .ok (.iconst 0, 1) := by decide +kernel
theorem d_Mo_wasDealt_1 : decode prog_11_method_12_code 1 = .ok (.istore_n 3, 1) := by decide +kernel
theorem d_Mo_wasDealt_2 : decode prog_11_method_12_code 2 = .ok (.bipush 8, 2) := by decide +kernel
theorem d_Mo_wasDealt_4 : decode prog_11_method_12_code 4 = .ok (.iload_n 2, 1) := by decide +kernel
theorem d_Mo_wasDealt_5 : decode prog_11_method_12_code 5 = .ok (.imul, 1) := by decide +kernel
theorem d_Mo_wasDealt_6 : decode prog_11_method_12_code 6 = .ok (.istore 4, 2) := by decide +kernel
theorem d_Mo_wasDealt_8 : decode prog_11_method_12_code 8 = .ok (.iload 4, 2) := by decide +kernel
theorem d_Mo_wasDealt_10 : decode prog_11_method_12_code 10 = .ok (.bipush 8, 2) := by decide +kernel
theorem d_Mo_wasDealt_12 : decode prog_11_method_12_code 12 = .ok (.iload_n 2, 1) := by decide +kernel
theorem d_Mo_wasDealt_13 : decode prog_11_method_12_code 13 = .ok (.imul, 1) := by decide +kernel
theorem d_Mo_wasDealt_14 : decode prog_11_method_12_code 14 = .ok (.bipush 8, 2) := by decide +kernel
theorem d_Mo_wasDealt_16 : decode prog_11_method_12_code 16 = .ok (.iadd, 1) := by decide +kernel
theorem d_Mo_wasDealt_17 : decode prog_11_method_12_code 17 = .ok (.if_icmp .ge 28, 3) := by decide +kernel
theorem d_Mo_wasDealt_20 : decode prog_11_method_12_code 20 = .ok (.iload_n 3, 1) := by decide +kernel
theorem d_Mo_wasDealt_21 : decode prog_11_method_12_code 21 = .ok (.aload_n 0, 1) := by decide +kernel
theorem d_Mo_wasDealt_22 : decode prog_11_method_12_code 22 = .ok (.bipush 53, 2) := by decide +kernel
theorem d_Mo_wasDealt_24 : decode prog_11_method_12_code 24 = .ok (.iload 4, 2) := by decide +kernel
theorem d_Mo_wasDealt_26 : decode prog_11_method_12_code 26 = .ok (.iadd, 1) := by decide +kernel
theorem d_Mo_wasDealt_27 : decode prog_11_method_12_code 27 = .ok (.iaload, 1) := by decide +kernel
theorem d_Mo_wasDealt_28 : decode prog_11_method_12_code 28 = .ok (.iload_n 1, 1) := by decide +kernel
theorem d_Mo_wasDealt_29 : decode prog_11_method_12_code 29 = .ok (.if_icmp .ne 7, 3) := by decide +kernel
theorem d_Mo_wasDealt_32 : decode prog_11_method_12_code 32 = .ok (.iconst 1, 1) := by decide +kernel
theorem d_Mo_wasDealt_33 : decode prog_11_method_12_code 33 = .ok (.goto 4, 3) := by decide +kernel
theorem d_Mo_wasDealt_36 : decode prog_11_method_12_code 36 = .ok (.iconst 0, 1) := by decide +kernel
theorem d_Mo_wasDealt_37 : decode prog_11_method_12_code 37 = .ok (.iadd, 1) := by decide +kernel
theorem d_Mo_wasDealt_38 : decode prog_11_method_12_code 38 = .ok (.istore_n 3, 1) := by decide +kernel
theorem d_Mo_wasDealt_39 : decode prog_11_method_12_code 39 = .ok (.iinc 4 1, 3) := by decide +kernel
theorem d_Mo_wasDealt_42 : decode prog_11_method_12_code 42 = .ok (.goto (-34), 3) := by decide +kernel
theorem d_Mo_wasDealt_45 : decode prog_11_method_12_code 45 = .ok (.iload_n 3, 1) := by decide +kernel
theorem d_Mo_wasDealt_46 : decode prog_11_method_12_code 46 = .ok (.ireturn, 1) := by decide +kernel
noncomputable def f_Mo_wasDealt_b37 (g0 : Nat) (c0 : Nat) (n0 : Nat) (M : gMem) (x1 : Int32) (x2 : Int32) (x4 : Int32) (s0 : Int32) (s1 : Int32) : Option ((Int32 × Int32) ⊕ Int32) :=
  some (.inl ((s1 + s0), (x4 + 1)))
theorem t_Mo_wasDealt_b37 {l : Launch} {ε : gEnv} (g0 : Nat) (c0 : Nat) (n0 : Nat) (h0 : gHas ε g0 c0 (0, n0, [])) (M : gMem) (x1 : Int32) (x2 : Int32) (x4 : Int32) (s0 : Int32) (s1 : Int32) (res : ((Int32 × Int32) ⊕ Int32)) (h : f_Mo_wasDealt_b37 g0 c0 n0 M x1 x2 x4 s0 s1 = some res) (r : Int32) (k1 : ∀ s0 : (Int32 × Int32), res = .inl s0 → gGo l ε k_Mo_wasDealt (gR 0 0) (gFn ε (some (.int r)) M) 8 [(0, .ref (ε.2.2.1 g0 c0)), (1, .int x1), (2, .int x2), (3, .int s0.1), (4, .int s0.2)] [] M) (k2 : ∀ r', res = .inr r' → r' = r) : gGo l ε k_Mo_wasDealt (gR 0 0) (gFn ε (some (.int r)) M) 37 [(0, .ref (ε.2.2.1 g0 c0)), (1, .int x1), (2, .int x2), (4, .int x4)] [.int s0, .int s1] M := by
  unfold f_Mo_wasDealt_b37 at h
  refine g_iadd d_Mo_wasDealt_37 ?_
  refine g_istore_n (L' := [(3, .int (s1 + s0)), (0, .ref (ε.2.2.1 g0 c0)), (1, .int x1), (2, .int x2), (4, .int x4)]) d_Mo_wasDealt_38 rfl (by decide) rfl ?_
  refine g_iinc (v := (x4 + 1)) (L' := [(4, .int (x4 + 1)), (3, .int (s1 + s0)), (0, .ref (ε.2.2.1 g0 c0)), (1, .int x1), (2, .int x2)]) d_Mo_wasDealt_39 (j := 4) rfl rfl (by decide) rfl ?_
  refine g_goto (tgt := 8) d_Mo_wasDealt_42 (by decide) ?_
  refine gGo_sub [2, 3, 4, 1, 0] rfl ?_
  obtain rfl := Option.some.inj h
  exact k1 ((s1 + s0), (x4 + 1)) rfl
noncomputable def f_Mo_wasDealt_s8 (g0 : Nat) (c0 : Nat) (n0 : Nat) (M : gMem) (x1 : Int32) (x2 : Int32) (x3 : Int32) (x4 : Int32) : Option ((Int32 × Int32) ⊕ Int32) :=
  if ((8 * x2) + 8) ≤ x4 then
    some (.inr x3)
  else
    (gRd n0 (M g0 c0) (53 + x4)).bind fun v1 =>
    if v1 = x1 then
      f_Mo_wasDealt_b37 g0 c0 n0 M x1 x2 x4 1 x3
    else
      f_Mo_wasDealt_b37 g0 c0 n0 M x1 x2 x4 0 x3
theorem t_Mo_wasDealt_s8 {l : Launch} {ε : gEnv} (g0 : Nat) (c0 : Nat) (n0 : Nat) (h0 : gHas ε g0 c0 (0, n0, [])) (M : gMem) (x1 : Int32) (x2 : Int32) (x3 : Int32) (x4 : Int32) (res : ((Int32 × Int32) ⊕ Int32)) (h : f_Mo_wasDealt_s8 g0 c0 n0 M x1 x2 x3 x4 = some res) (r : Int32) (k1 : ∀ s0 : (Int32 × Int32), res = .inl s0 → gGo l ε k_Mo_wasDealt (gR 0 0) (gFn ε (some (.int r)) M) 8 [(0, .ref (ε.2.2.1 g0 c0)), (1, .int x1), (2, .int x2), (3, .int s0.1), (4, .int s0.2)] [] M) (k2 : ∀ r', res = .inr r' → r' = r) : gGo l ε k_Mo_wasDealt (gR 0 0) (gFn ε (some (.int r)) M) 8 [(0, .ref (ε.2.2.1 g0 c0)), (1, .int x1), (2, .int x2), (3, .int x3), (4, .int x4)] [] M := by
  unfold f_Mo_wasDealt_s8 at h
  refine g_iload d_Mo_wasDealt_8 4 rfl ?_
  refine g_bipush (v := 8) d_Mo_wasDealt_10 (by decide) ?_
  refine g_iload_n d_Mo_wasDealt_12 rfl 2 rfl ?_
  refine g_imul d_Mo_wasDealt_13 ?_
  refine g_bipush (v := 8) d_Mo_wasDealt_14 (by decide) ?_
  refine g_iadd d_Mo_wasDealt_16 ?_
  refine g_icmp_ge (tgt := 45) d_Mo_wasDealt_17 (by decide) (fun c3 => ?_) (fun c3 => ?_)
  · rw [if_pos c3] at h
    refine g_iload_n d_Mo_wasDealt_45 rfl 3 rfl ?_
    obtain rfl := Option.some.inj h
    have e9 := k2 _ rfl
    subst e9
    exact g_iret d_Mo_wasDealt_46 rfl
  · rw [if_neg c3] at h
    refine g_iload_n d_Mo_wasDealt_20 rfl 3 rfl ?_
    refine g_aload_n d_Mo_wasDealt_21 rfl 0 rfl ?_
    refine g_bipush (v := 53) d_Mo_wasDealt_22 (by decide) ?_
    refine g_iload d_Mo_wasDealt_24 4 rfl ?_
    refine g_iadd d_Mo_wasDealt_26 ?_
    obtain ⟨v1, hv1, h⟩ := gOb h
    refine g_iaload d_Mo_wasDealt_27 h0 hv1 ?_
    refine g_iload_n d_Mo_wasDealt_28 rfl 1 rfl ?_
    refine g_icmp_ne (tgt := 36) d_Mo_wasDealt_29 (by decide) (fun c2 => ?_) (fun c2 => ?_)
    · rw [if_neg c2] at h
      refine g_iconst (v := 0) d_Mo_wasDealt_36 (by decide) ?_
      refine gGo_sub [0, 1, 2, 4] rfl ?_
      exact t_Mo_wasDealt_b37 g0 c0 n0 h0 M x1 x2 x4 0 x3 _ h r k1 k2
    · rw [if_pos c2] at h
      refine g_iconst (v := 1) d_Mo_wasDealt_32 (by decide) ?_
      refine g_goto (tgt := 37) d_Mo_wasDealt_33 (by decide) ?_
      refine gGo_sub [0, 1, 2, 4] rfl ?_
      exact t_Mo_wasDealt_b37 g0 c0 n0 h0 M x1 x2 x4 1 x3 _ h r k1 k2
noncomputable def f_Mo_wasDealt_l8 (g0 : Nat) (c0 : Nat) (n0 : Nat) (M : gMem) (x1 : Int32) (x2 : Int32) (s : (Int32 × Int32)) : Option Int32 := gLp (fun s => f_Mo_wasDealt_s8 g0 c0 n0 M x1 x2 s.1 s.2) s
theorem t_Mo_wasDealt_l8 {l : Launch} {ε : gEnv} (g0 : Nat) (c0 : Nat) (n0 : Nat) (h0 : gHas ε g0 c0 (0, n0, [])) (M : gMem) (x1 : Int32) (x2 : Int32) (s : (Int32 × Int32)) (r : Int32) (h : f_Mo_wasDealt_l8 g0 c0 n0 M x1 x2 s = some r) : gGo l ε k_Mo_wasDealt (gR 0 0) (gFn ε (some (.int r)) M) 8 [(0, .ref (ε.2.2.1 g0 c0)), (1, .int x1), (2, .int x2), (3, .int s.1), (4, .int s.2)] [] M :=
  g_loop _ (fun r s => gGo l ε k_Mo_wasDealt (gR 0 0) (gFn ε (some (.int r)) M) 8 [(0, .ref (ε.2.2.1 g0 c0)), (1, .int x1), (2, .int x2), (3, .int s.1), (4, .int s.2)] [] M) (fun s res h r k1 k2 => t_Mo_wasDealt_s8 g0 c0 n0 h0 M x1 x2 s.1 s.2 res h r k1 k2) s r h
noncomputable def f_Mo_wasDealt (g0 : Nat) (c0 : Nat) (n0 : Nat) (M : gMem) (a1 : Int32) (a2 : Int32) : Option Int32 :=
  f_Mo_wasDealt_l8 g0 c0 n0 M a1 a2 (0, (8 * a2))
theorem t_Mo_wasDealt {l : Launch} {ε : gEnv} (g0 : Nat) (c0 : Nat) (n0 : Nat) (h0 : gHas ε g0 c0 (0, n0, [])) (M : gMem) (a1 : Int32) (a2 : Int32) (r : Int32) (h : f_Mo_wasDealt g0 c0 n0 M a1 a2 = some r) : gGo l ε k_Mo_wasDealt (gR 0 0) (gFn ε (some (.int r)) M) 0 [(0, .ref (ε.2.2.1 g0 c0)), (1, .int a1), (2, .int a2)] [] M := by
  unfold f_Mo_wasDealt at h
  refine g_iconst (v := 0) d_Mo_wasDealt_0 (by decide) ?_
  refine g_istore_n (L' := [(3, .int 0), (0, .ref (ε.2.2.1 g0 c0)), (1, .int a1), (2, .int a2)]) d_Mo_wasDealt_1 rfl (by decide) rfl ?_
  refine g_bipush (v := 8) d_Mo_wasDealt_2 (by decide) ?_
  refine g_iload_n d_Mo_wasDealt_4 rfl 3 rfl ?_
  refine g_imul d_Mo_wasDealt_5 ?_
  refine g_istore (L' := [(4, .int (8 * a2)), (3, .int 0), (0, .ref (ε.2.2.1 g0 c0)), (1, .int a1), (2, .int a2)]) d_Mo_wasDealt_6 (by decide) rfl ?_
  refine gGo_sub [2, 3, 4, 1, 0] rfl ?_
  exact t_Mo_wasDealt_l8 g0 c0 n0 h0 M a1 a2 (0, (8 * a2)) _ h
theorem ct_Mo_wasDealt {l : Launch} {ε : gEnv} (g0 : Nat) (c0 : Nat) (n0 : Nat) (h0 : gHas ε g0 c0 (0, n0, [])) (M : gMem) (a1 : Int32) (a2 : Int32) (r : Int32) (h : f_Mo_wasDealt g0 c0 n0 M a1 a2 = some r) : gCt l ε k_Mo_wasDealt 0 0 [.ref (ε.2.2.1 g0 c0), .int a1, .int a2] M (some (.int r)) M :=
  gCt_of (by decide) (Nat.le_of_ble_eq_true rfl) rfl (t_Mo_wasDealt g0 c0 n0 h0 M a1 a2 r h)
abbrev k_Mo_hand : gMD := (⟨"DropSignalsModel", "hand", "([II)I"⟩, prog_11_method_13_code, 4, (some .int))
theorem w_1205 : Cond.static ⟨"DropSignalsModel", "hand", "([II)I"⟩ ∈ gWs := gWs_in (i := 1205) (by decide +kernel) rfl
set_option maxRecDepth 100000 in
theorem ca_Mo_hand : gCaS k_Mo_hand 2 := ⟨⟨gWs_in (i := 1206) rfl rfl, w_43, by decide, by decide, by decide +kernel⟩, w_1205⟩
theorem d_Mo_hand_0 : decode prog_11_method_13_code 0 = .ok (.iconst 0, 1) := by decide +kernel
theorem d_Mo_hand_1 : decode prog_11_method_13_code 1 = .ok (.istore_n 2, 1) := by decide +kernel
theorem d_Mo_hand_2 : decode prog_11_method_13_code 2 = .ok (.iconst 0, 1) := by decide +kernel
theorem d_Mo_hand_3 : decode prog_11_method_13_code 3 = .ok (.istore_n 3, 1) := by decide +kernel
theorem d_Mo_hand_4 : decode prog_11_method_13_code 4 = .ok (.iload_n 3, 1) := by decide +kernel
theorem d_Mo_hand_5 : decode prog_11_method_13_code 5 = .ok (.iconst 4, 1) := by decide +kernel
theorem d_Mo_hand_6 : decode prog_11_method_13_code 6 = .ok (.if_icmp .ge 18, 3) := by decide +kernel
theorem d_Mo_hand_9 : decode prog_11_method_13_code 9 = .ok (.iload_n 2, 1) := by decide +kernel
theorem d_Mo_hand_10 : decode prog_11_method_13_code 10 = .ok (.aload_n 0, 1) := by decide +kernel
theorem d_Mo_hand_11 : decode prog_11_method_13_code 11 = .ok (.iload_n 1, 1) := by decide +kernel
theorem d_Mo_hand_12 : decode prog_11_method_13_code 12 = .ok (.iload_n 3, 1) := by decide +kernel
theorem d_Mo_hand_13 : decode prog_11_method_13_code 13 = .ok (.invokestatic 59, 3) := by decide +kernel
theorem d_Mo_hand_16 : decode prog_11_method_13_code 16 = .ok (.iadd, 1) := by decide +kernel
theorem d_Mo_hand_17 : decode prog_11_method_13_code 17 = .ok (.istore_n 2, 1) := by decide +kernel
theorem d_Mo_hand_18 : decode prog_11_method_13_code 18 = .ok (.iinc 3 1, 3) := by decide +kernel
theorem d_Mo_hand_21 : decode prog_11_method_13_code 21 = .ok (.goto (-17), 3) := by decide +kernel
theorem d_Mo_hand_24 : decode prog_11_method_13_code 24 = .ok (.iload_n 2, 1) := by decide +kernel
theorem d_Mo_hand_25 : decode prog_11_method_13_code 25 = .ok (.ireturn, 1) := by decide +kernel
theorem w_1090 : Cond.methodLink "DropSignalsModel" 59 ⟨"DropSignalsModel", "holds", "([III)I"⟩ ∈ gWs := gWs_in (i := 1090) (by decide +kernel) rfl
noncomputable def f_Mo_hand_s4 (g0 : Nat) (c0 : Nat) (n0 : Nat) (M : gMem) (x1 : Int32) (x2 : Int32) (x3 : Int32) : Option ((Int32 × Int32) ⊕ Int32) :=
  if 4 ≤ x3 then
    some (.inr x2)
  else
    (f_Mo_holds g0 c0 n0 M x1 x3).bind fun q1 =>
    some (.inl ((x2 + q1), (x3 + 1)))
theorem t_Mo_hand_s4 {l : Launch} {ε : gEnv} (g0 : Nat) (c0 : Nat) (n0 : Nat) (h0 : gHas ε g0 c0 (0, n0, [])) (M : gMem) (x1 : Int32) (x2 : Int32) (x3 : Int32) (res : ((Int32 × Int32) ⊕ Int32)) (h : f_Mo_hand_s4 g0 c0 n0 M x1 x2 x3 = some res) (r : Int32) (k1 : ∀ s0 : (Int32 × Int32), res = .inl s0 → gGo l ε k_Mo_hand (gR 1 24) (gFn ε (some (.int r)) M) 4 [(0, .ref (ε.2.2.1 g0 c0)), (1, .int x1), (2, .int s0.1), (3, .int s0.2)] [] M) (k2 : ∀ r', res = .inr r' → r' = r) : gGo l ε k_Mo_hand (gR 1 24) (gFn ε (some (.int r)) M) 4 [(0, .ref (ε.2.2.1 g0 c0)), (1, .int x1), (2, .int x2), (3, .int x3)] [] M := by
  unfold f_Mo_hand_s4 at h
  refine g_iload_n d_Mo_hand_4 rfl 3 rfl ?_
  refine g_iconst (v := 4) d_Mo_hand_5 (by decide) ?_
  refine g_icmp_ge (tgt := 24) d_Mo_hand_6 (by decide) (fun c2 => ?_) (fun c2 => ?_)
  · rw [if_pos c2] at h
    refine g_iload_n d_Mo_hand_24 rfl 2 rfl ?_
    obtain rfl := Option.some.inj h
    have e9 := k2 _ rfl
    subst e9
    exact g_iret d_Mo_hand_25 rfl
  · rw [if_neg c2] at h
    refine g_iload_n d_Mo_hand_9 rfl 2 rfl ?_
    refine g_aload_n d_Mo_hand_10 rfl 0 rfl ?_
    refine g_iload_n d_Mo_hand_11 rfl 1 rfl ?_
    refine g_iload_n d_Mo_hand_12 rfl 3 rfl ?_
    obtain ⟨q1, hq1, h⟩ := gOb h
    refine g_callS_i (As := [.ref (ε.2.2.1 g0 c0), .int x1, .int x3]) (rest := [.int x2]) (ct_Mo_holds g0 c0 n0 h0 M x1 x3 _ hq1) d_Mo_hand_13 ca_Mo_holds w_1090 rfl rfl (Nat.le_of_ble_eq_true rfl) ⟨(Nat.le_of_ble_eq_true rfl), (Nat.le_of_ble_eq_true rfl)⟩ ?_
    refine g_iadd d_Mo_hand_16 ?_
    refine g_istore_n (L' := [(2, .int (x2 + q1)), (0, .ref (ε.2.2.1 g0 c0)), (1, .int x1), (3, .int x3)]) d_Mo_hand_17 rfl (by decide) rfl ?_
    refine g_iinc (v := (x3 + 1)) (L' := [(3, .int (x3 + 1)), (2, .int (x2 + q1)), (0, .ref (ε.2.2.1 g0 c0)), (1, .int x1)]) d_Mo_hand_18 (j := 3) rfl rfl (by decide) rfl ?_
    refine g_goto (tgt := 4) d_Mo_hand_21 (by decide) ?_
    refine gGo_sub [2, 3, 1, 0] rfl ?_
    obtain rfl := Option.some.inj h
    exact k1 ((x2 + q1), (x3 + 1)) rfl
noncomputable def f_Mo_hand_l4 (g0 : Nat) (c0 : Nat) (n0 : Nat) (M : gMem) (x1 : Int32) (s : (Int32 × Int32)) : Option Int32 := gLp (fun s => f_Mo_hand_s4 g0 c0 n0 M x1 s.1 s.2) s
theorem t_Mo_hand_l4 {l : Launch} {ε : gEnv} (g0 : Nat) (c0 : Nat) (n0 : Nat) (h0 : gHas ε g0 c0 (0, n0, [])) (M : gMem) (x1 : Int32) (s : (Int32 × Int32)) (r : Int32) (h : f_Mo_hand_l4 g0 c0 n0 M x1 s = some r) : gGo l ε k_Mo_hand (gR 1 24) (gFn ε (some (.int r)) M) 4 [(0, .ref (ε.2.2.1 g0 c0)), (1, .int x1), (2, .int s.1), (3, .int s.2)] [] M :=
  g_loop _ (fun r s => gGo l ε k_Mo_hand (gR 1 24) (gFn ε (some (.int r)) M) 4 [(0, .ref (ε.2.2.1 g0 c0)), (1, .int x1), (2, .int s.1), (3, .int s.2)] [] M) (fun s res h r k1 k2 => t_Mo_hand_s4 g0 c0 n0 h0 M x1 s.1 s.2 res h r k1 k2) s r h
noncomputable def f_Mo_hand (g0 : Nat) (c0 : Nat) (n0 : Nat) (M : gMem) (a1 : Int32) : Option Int32 :=
  f_Mo_hand_l4 g0 c0 n0 M a1 (0, 0)
theorem t_Mo_hand {l : Launch} {ε : gEnv} (g0 : Nat) (c0 : Nat) (n0 : Nat) (h0 : gHas ε g0 c0 (0, n0, [])) (M : gMem) (a1 : Int32) (r : Int32) (h : f_Mo_hand g0 c0 n0 M a1 = some r) : gGo l ε k_Mo_hand (gR 1 24) (gFn ε (some (.int r)) M) 0 [(0, .ref (ε.2.2.1 g0 c0)), (1, .int a1)] [] M := by
  unfold f_Mo_hand at h
  refine g_iconst (v := 0) d_Mo_hand_0 (by decide) ?_
  refine g_istore_n (L' := [(2, .int 0), (0, .ref (ε.2.2.1 g0 c0)), (1, .int a1)]) d_Mo_hand_1 rfl (by decide) rfl ?_
  refine g_iconst (v := 0) d_Mo_hand_2 (by decide) ?_
  refine g_istore_n (L' := [(3, .int 0), (2, .int 0), (0, .ref (ε.2.2.1 g0 c0)), (1, .int a1)]) d_Mo_hand_3 rfl (by decide) rfl ?_
  refine gGo_sub [2, 3, 1, 0] rfl ?_
  exact t_Mo_hand_l4 g0 c0 n0 h0 M a1 (0, 0) _ h
theorem ct_Mo_hand {l : Launch} {ε : gEnv} (g0 : Nat) (c0 : Nat) (n0 : Nat) (h0 : gHas ε g0 c0 (0, n0, [])) (M : gMem) (a1 : Int32) (r : Int32) (h : f_Mo_hand g0 c0 n0 M a1 = some r) : gCt l ε k_Mo_hand 1 24 [.ref (ε.2.2.1 g0 c0), .int a1] M (some (.int r)) M :=
  gCt_of (by decide) (Nat.le_of_ble_eq_true rfl) rfl (t_Mo_hand g0 c0 n0 h0 M a1 r h)
abbrev k_Mo_led : gMD := (⟨"DropSignalsModel", "led", "([I)I"⟩, prog_11_method_14_code, 1, (some .int))
theorem w_1085 : Cond.static ⟨"DropSignalsModel", "led", "([I)I"⟩ ∈ gWs := gWs_in (i := 1085) (by decide +kernel) rfl
set_option maxRecDepth 100000 in
theorem ca_Mo_led : gCaS k_Mo_led 1 := ⟨⟨gWs_in (i := 1086) rfl rfl, w_43, by decide, by decide, by decide +kernel⟩, w_1085⟩
theorem d_Mo_led_0 : decode prog_11_method_14_code 0 = .ok (.aload_n 0, 1) := by decide +kernel
theorem d_Mo_led_1 : decode prog_11_method_14_code 1 = .ok (.bipush 15, 2) := by decide +kernel
theorem d_Mo_led_3 : decode prog_11_method_14_code 3 = .ok (.iaload, 1) := by decide +kernel
theorem d_Mo_led_4 : decode prog_11_method_14_code 4 = .ok (.ifCond .ne 7, 3) := by decide +kernel
theorem d_Mo_led_7 : decode prog_11_method_14_code 7 = .ok (.iconst (-1), 1) := by decide +kernel
theorem d_Mo_led_8 : decode prog_11_method_14_code 8 = .ok (.goto 10, 3) := by decide +kernel
theorem d_Mo_led_11 : decode prog_11_method_14_code 11 = .ok (.aload_n 0, 1) := by decide +kernel
theorem d_Mo_led_12 : decode prog_11_method_14_code 12 = .ok (.bipush 16, 2) := by decide +kernel
theorem d_Mo_led_14 : decode prog_11_method_14_code 14 = .ok (.iaload, 1) := by decide +kernel
theorem d_Mo_led_15 : decode prog_11_method_14_code 15 = .ok (.invokestatic 63, 3) := by decide +kernel
theorem d_Mo_led_18 : decode prog_11_method_14_code 18 = .ok (.ireturn, 1) := by decide +kernel
theorem w_1087 : Cond.methodLink "DropSignalsModel" 63 ⟨"DropSignalsModel", "suit", "(I)I"⟩ ∈ gWs := gWs_in (i := 1087) (by decide +kernel) rfl
noncomputable def f_Mo_led (g0 : Nat) (c0 : Nat) (n0 : Nat) (M : gMem) : Option Int32 :=
  (gRd n0 (M g0 c0) 15).bind fun v1 =>
  if v1 = 0 then
    some (-1)
  else
    (gRd n0 (M g0 c0) 16).bind fun v2 =>
    (f_Mo_suit v2).bind fun q3 =>
    some q3
theorem t_Mo_led {l : Launch} {ε : gEnv} (g0 : Nat) (c0 : Nat) (n0 : Nat) (h0 : gHas ε g0 c0 (0, n0, [])) (M : gMem) (r : Int32) (h : f_Mo_led g0 c0 n0 M = some r) : gGo l ε k_Mo_led (gR 1 20) (gFn ε (some (.int r)) M) 0 [(0, .ref (ε.2.2.1 g0 c0))] [] M := by
  unfold f_Mo_led at h
  refine g_aload_n d_Mo_led_0 rfl 0 rfl ?_
  refine g_bipush (v := 15) d_Mo_led_1 (by decide) ?_
  obtain ⟨v1, hv1, h⟩ := gOb h
  refine g_iaload d_Mo_led_3 h0 hv1 ?_
  refine g_if_ne (tgt := 11) d_Mo_led_4 (by decide) (fun c4 => ?_) (fun c4 => ?_)
  · rw [if_neg c4] at h
    refine g_aload_n d_Mo_led_11 rfl 0 rfl ?_
    refine g_bipush (v := 16) d_Mo_led_12 (by decide) ?_
    obtain ⟨v2, hv2, h⟩ := gOb h
    refine g_iaload d_Mo_led_14 h0 hv2 ?_
    obtain ⟨q3, hq3, h⟩ := gOb h
    refine g_callS_i (As := [.int v2]) (rest := []) (ct_Mo_suit M v2 _ hq3) d_Mo_led_15 ca_Mo_suit w_1087 rfl rfl (Nat.le_of_ble_eq_true rfl) ⟨(Nat.le_of_ble_eq_true rfl), (Nat.le_of_ble_eq_true rfl)⟩ ?_
    obtain rfl := Option.some.inj h
    exact g_iret d_Mo_led_18 rfl
  · rw [if_pos c4] at h
    refine g_iconst (v := -1) d_Mo_led_7 (by decide) ?_
    refine g_goto (tgt := 18) d_Mo_led_8 (by decide) ?_
    obtain rfl := Option.some.inj h
    exact g_iret d_Mo_led_18 rfl
theorem ct_Mo_led {l : Launch} {ε : gEnv} (g0 : Nat) (c0 : Nat) (n0 : Nat) (h0 : gHas ε g0 c0 (0, n0, [])) (M : gMem) (r : Int32) (h : f_Mo_led g0 c0 n0 M = some r) : gCt l ε k_Mo_led 1 20 [.ref (ε.2.2.1 g0 c0)] M (some (.int r)) M :=
  gCt_of (by decide) (Nat.le_of_ble_eq_true rfl) rfl (t_Mo_led g0 c0 n0 h0 M r h)
abbrev k_Mo_follows : gMD := (⟨"DropSignalsModel", "follows", "([I)Z"⟩, prog_11_method_15_code, 1, (some .boolean))
theorem w_1082 : Cond.static ⟨"DropSignalsModel", "follows", "([I)Z"⟩ ∈ gWs := gWs_in (i := 1082) (by decide +kernel) rfl
set_option maxRecDepth 100000 in
theorem ca_Mo_follows : gCaS k_Mo_follows 1 := ⟨⟨gWs_in (i := 1083) rfl rfl, w_43, by decide, by decide, by decide +kernel⟩, w_1082⟩
theorem d_Mo_follows_0 : decode prog_11_method_15_code 0 = .ok (.aload_n 0, 1) := by decide +kernel
theorem d_Mo_follows_1 : decode prog_11_method_15_code 1 = .ok (.bipush 15, 2) := by decide +kernel
theorem d_Mo_follows_3 : decode prog_11_method_15_code 3 = .ok (.iaload, 1) := by decide +kernel
theorem d_Mo_follows_4 : decode prog_11_method_15_code 4 = .ok (.ifCond .le 21, 3) := by decide +kernel
theorem d_Mo_follows_7 : decode prog_11_method_15_code 7 = .ok (.aload_n 0, 1) := by decide +kernel
theorem d_Mo_follows_8 : decode prog_11_method_15_code 8 = .ok (.aload_n 0, 1) := by decide +kernel
theorem d_Mo_follows_9 : decode prog_11_method_15_code 9 = .ok (.iconst 2, 1) := by decide +kernel
theorem d_Mo_follows_10 : decode prog_11_method_15_code 10 = .ok (.iaload, 1) := by decide +kernel
theorem d_Mo_follows_11 : decode prog_11_method_15_code 11 = .ok (.aload_n 0, 1) := by decide +kernel
theorem d_Mo_follows_12 : decode prog_11_method_15_code 12 = .ok (.invokestatic 66, 3) := by decide +kernel
theorem d_Mo_follows_15 : decode prog_11_method_15_code 15 = .ok (.invokestatic 59, 3) := by decide +kernel
theorem d_Mo_follows_18 : decode prog_11_method_15_code 18 = .ok (.ifCond .le 7, 3) := by decide +kernel
theorem d_Mo_follows_21 : decode prog_11_method_15_code 21 = .ok (.iconst 1, 1) := by decide +kernel
theorem d_Mo_follows_22 : decode prog_11_method_15_code 22 = .ok (.goto 4, 3) := by decide +kernel
theorem d_Mo_follows_25 : decode prog_11_method_15_code 25 = .ok (.iconst 0, 1) := by decide +kernel
theorem d_Mo_follows_26 : decode prog_11_method_15_code 26 = .ok (.ireturn, 1) := by decide +kernel
theorem w_1084 : Cond.methodLink "DropSignalsModel" 66 ⟨"DropSignalsModel", "led", "([I)I"⟩ ∈ gWs := gWs_in (i := 1084) (by decide +kernel) rfl
noncomputable def f_Mo_follows (g0 : Nat) (c0 : Nat) (n0 : Nat) (M : gMem) : Option Int32 :=
  (gRd n0 (M g0 c0) 15).bind fun v1 =>
  if v1 ≤ 0 then
    some 0
  else
    (gRd n0 (M g0 c0) 2).bind fun v2 =>
    (f_Mo_led g0 c0 n0 M).bind fun q3 =>
    (f_Mo_holds g0 c0 n0 M v2 q3).bind fun q4 =>
    if q4 ≤ 0 then
      some 0
    else
      some 1
theorem t_Mo_follows {l : Launch} {ε : gEnv} (g0 : Nat) (c0 : Nat) (n0 : Nat) (h0 : gHas ε g0 c0 (0, n0, [])) (M : gMem) (r : Int32) (h : f_Mo_follows g0 c0 n0 M = some r) : gGo l ε k_Mo_follows (gR 2 40) (gFn ε (some (.int r)) M) 0 [(0, .ref (ε.2.2.1 g0 c0))] [] M := by
  unfold f_Mo_follows at h
  refine g_aload_n d_Mo_follows_0 rfl 0 rfl ?_
  refine g_bipush (v := 15) d_Mo_follows_1 (by decide) ?_
  obtain ⟨v1, hv1, h⟩ := gOb h
  refine g_iaload d_Mo_follows_3 h0 hv1 ?_
  refine g_if_le (tgt := 25) d_Mo_follows_4 (by decide) (fun c6 => ?_) (fun c6 => ?_)
  · rw [if_pos c6] at h
    refine g_iconst (v := 0) d_Mo_follows_25 (by decide) ?_
    obtain rfl := Option.some.inj h
    exact g_zret d_Mo_follows_26 rfl gZ0
  · rw [if_neg c6] at h
    refine g_aload_n d_Mo_follows_7 rfl 0 rfl ?_
    refine g_aload_n d_Mo_follows_8 rfl 0 rfl ?_
    refine g_iconst (v := 2) d_Mo_follows_9 (by decide) ?_
    obtain ⟨v2, hv2, h⟩ := gOb h
    refine g_iaload d_Mo_follows_10 h0 hv2 ?_
    refine g_aload_n d_Mo_follows_11 rfl 0 rfl ?_
    obtain ⟨q3, hq3, h⟩ := gOb h
    refine g_callS_i (As := [.ref (ε.2.2.1 g0 c0)]) (rest := [.int v2, .ref (ε.2.2.1 g0 c0)]) (ct_Mo_led g0 c0 n0 h0 M _ hq3) d_Mo_follows_12 ca_Mo_led w_1084 rfl rfl (Nat.le_of_ble_eq_true rfl) ⟨(Nat.le_of_ble_eq_true rfl), (Nat.le_of_ble_eq_true rfl)⟩ ?_
    obtain ⟨q4, hq4, h⟩ := gOb h
    refine g_callS_i (As := [.ref (ε.2.2.1 g0 c0), .int v2, .int q3]) (rest := []) (ct_Mo_holds g0 c0 n0 h0 M v2 q3 _ hq4) d_Mo_follows_15 ca_Mo_holds w_1090 rfl rfl (Nat.le_of_ble_eq_true rfl) ⟨(Nat.le_of_ble_eq_true rfl), (Nat.le_of_ble_eq_true rfl)⟩ ?_
    refine g_if_le (tgt := 25) d_Mo_follows_18 (by decide) (fun c5 => ?_) (fun c5 => ?_)
    · rw [if_pos c5] at h
      refine g_iconst (v := 0) d_Mo_follows_25 (by decide) ?_
      obtain rfl := Option.some.inj h
      exact g_zret d_Mo_follows_26 rfl gZ0
    · rw [if_neg c5] at h
      refine g_iconst (v := 1) d_Mo_follows_21 (by decide) ?_
      refine g_goto (tgt := 26) d_Mo_follows_22 (by decide) ?_
      obtain rfl := Option.some.inj h
      exact g_zret d_Mo_follows_26 rfl gZ1
theorem ct_Mo_follows {l : Launch} {ε : gEnv} (g0 : Nat) (c0 : Nat) (n0 : Nat) (h0 : gHas ε g0 c0 (0, n0, [])) (M : gMem) (r : Int32) (h : f_Mo_follows g0 c0 n0 M = some r) : gCt l ε k_Mo_follows 2 40 [.ref (ε.2.2.1 g0 c0)] M (some (.int r)) M :=
  gCt_of (by decide) (Nat.le_of_ble_eq_true rfl) rfl (t_Mo_follows g0 c0 n0 h0 M r h)
abbrev k_Mo_reason : gMD := (⟨"DropSignalsModel", "reason", "([II)I"⟩, prog_11_method_16_code, 2, (some .int))
theorem w_1079 : Cond.static ⟨"DropSignalsModel", "reason", "([II)I"⟩ ∈ gWs := gWs_in (i := 1079) (by decide +kernel) rfl
set_option maxRecDepth 100000 in
theorem ca_Mo_reason : gCaS k_Mo_reason 2 := ⟨⟨gWs_in (i := 1080) rfl rfl, w_43, by decide, by decide, by decide +kernel⟩, w_1079⟩
theorem d_Mo_reason_0 : decode prog_11_method_16_code 0 = .ok (.aload_n 0, 1) := by decide +kernel
theorem d_Mo_reason_1 : decode prog_11_method_16_code 1 = .ok (.bipush 21, 2) := by decide +kernel
theorem d_Mo_reason_3 : decode prog_11_method_16_code 3 = .ok (.iload_n 1, 1) := by decide +kernel
theorem d_Mo_reason_4 : decode prog_11_method_16_code 4 = .ok (.iadd, 1) := by decide +kernel
theorem d_Mo_reason_5 : decode prog_11_method_16_code 5 = .ok (.iaload, 1) := by decide +kernel
theorem d_Mo_reason_6 : decode prog_11_method_16_code 6 = .ok (.aload_n 0, 1) := by decide +kernel
theorem d_Mo_reason_7 : decode prog_11_method_16_code 7 = .ok (.iconst 2, 1) := by decide +kernel
theorem d_Mo_reason_8 : decode prog_11_method_16_code 8 = .ok (.iaload, 1) := by decide +kernel
theorem d_Mo_reason_9 : decode prog_11_method_16_code 9 = .ok (.if_icmp .eq 7, 3) := by decide +kernel
theorem d_Mo_reason_12 : decode prog_11_method_16_code 12 = .ok (.iconst 1, 1) := by decide +kernel
theorem d_Mo_reason_13 : decode prog_11_method_16_code 13 = .ok (.goto 26, 3) := by decide +kernel
theorem d_Mo_reason_16 : decode prog_11_method_16_code 16 = .ok (.aload_n 0, 1) := by decide +kernel
theorem d_Mo_reason_17 : decode prog_11_method_16_code 17 = .ok (.invokestatic 70, 3) := by decide +kernel
theorem d_Mo_reason_20 : decode prog_11_method_16_code 20 = .ok (.ifCond .eq 18, 3) := by decide +kernel
theorem d_Mo_reason_23 : decode prog_11_method_16_code 23 = .ok (.iload_n 1, 1) := by decide +kernel
theorem d_Mo_reason_24 : decode prog_11_method_16_code 24 = .ok (.invokestatic 63, 3) := by decide +kernel
theorem d_Mo_reason_27 : decode prog_11_method_16_code 27 = .ok (.aload_n 0, 1) := by decide +kernel
theorem d_Mo_reason_28 : decode prog_11_method_16_code 28 = .ok (.invokestatic 66, 3) := by decide +kernel
theorem d_Mo_reason_31 : decode prog_11_method_16_code 31 = .ok (.if_icmp .eq 7, 3) := by decide +kernel
theorem d_Mo_reason_34 : decode prog_11_method_16_code 34 = .ok (.iconst 2, 1) := by decide +kernel
theorem d_Mo_reason_35 : decode prog_11_method_16_code 35 = .ok (.goto 4, 3) := by decide +kernel
theorem d_Mo_reason_38 : decode prog_11_method_16_code 38 = .ok (.iconst 0, 1) := by decide +kernel
theorem d_Mo_reason_39 : decode prog_11_method_16_code 39 = .ok (.ireturn, 1) := by decide +kernel
theorem w_1081 : Cond.methodLink "DropSignalsModel" 70 ⟨"DropSignalsModel", "follows", "([I)Z"⟩ ∈ gWs := gWs_in (i := 1081) (by decide +kernel) rfl
noncomputable def f_Mo_reason (g0 : Nat) (c0 : Nat) (n0 : Nat) (M : gMem) (a1 : Int32) : Option Int32 :=
  (gRd n0 (M g0 c0) (21 + a1)).bind fun v1 =>
  (gRd n0 (M g0 c0) 2).bind fun v2 =>
  if v1 = v2 then
    (f_Mo_follows g0 c0 n0 M).bind fun q3 =>
    if q3 = 0 then
      some 0
    else
      (f_Mo_suit a1).bind fun q4 =>
      (f_Mo_led g0 c0 n0 M).bind fun q5 =>
      if q4 = q5 then
        some 0
      else
        some 2
  else
    some 1
theorem t_Mo_reason {l : Launch} {ε : gEnv} (g0 : Nat) (c0 : Nat) (n0 : Nat) (h0 : gHas ε g0 c0 (0, n0, [])) (M : gMem) (a1 : Int32) (r : Int32) (h : f_Mo_reason g0 c0 n0 M a1 = some r) : gGo l ε k_Mo_reason (gR 3 60) (gFn ε (some (.int r)) M) 0 [(0, .ref (ε.2.2.1 g0 c0)), (1, .int a1)] [] M := by
  unfold f_Mo_reason at h
  refine g_aload_n d_Mo_reason_0 rfl 0 rfl ?_
  refine g_bipush (v := 21) d_Mo_reason_1 (by decide) ?_
  refine g_iload_n d_Mo_reason_3 rfl 1 rfl ?_
  refine g_iadd d_Mo_reason_4 ?_
  obtain ⟨v1, hv1, h⟩ := gOb h
  refine g_iaload d_Mo_reason_5 h0 hv1 ?_
  refine g_aload_n d_Mo_reason_6 rfl 0 rfl ?_
  refine g_iconst (v := 2) d_Mo_reason_7 (by decide) ?_
  obtain ⟨v2, hv2, h⟩ := gOb h
  refine g_iaload d_Mo_reason_8 h0 hv2 ?_
  refine g_icmp_eq (tgt := 16) d_Mo_reason_9 (by decide) (fun c8 => ?_) (fun c8 => ?_)
  · rw [if_pos c8] at h
    refine g_aload_n d_Mo_reason_16 rfl 0 rfl ?_
    obtain ⟨q3, hq3, h⟩ := gOb h
    refine g_callS_i (As := [.ref (ε.2.2.1 g0 c0)]) (rest := []) (ct_Mo_follows g0 c0 n0 h0 M _ hq3) d_Mo_reason_17 ca_Mo_follows w_1081 rfl rfl (Nat.le_of_ble_eq_true rfl) ⟨(Nat.le_of_ble_eq_true rfl), (Nat.le_of_ble_eq_true rfl)⟩ ?_
    refine g_if_eq (tgt := 38) d_Mo_reason_20 (by decide) (fun c7 => ?_) (fun c7 => ?_)
    · rw [if_pos c7] at h
      refine g_iconst (v := 0) d_Mo_reason_38 (by decide) ?_
      obtain rfl := Option.some.inj h
      exact g_iret d_Mo_reason_39 rfl
    · rw [if_neg c7] at h
      refine g_iload_n d_Mo_reason_23 rfl 1 rfl ?_
      obtain ⟨q4, hq4, h⟩ := gOb h
      refine g_callS_i (As := [.int a1]) (rest := []) (ct_Mo_suit M a1 _ hq4) d_Mo_reason_24 ca_Mo_suit w_1087 rfl rfl (Nat.le_of_ble_eq_true rfl) ⟨(Nat.le_of_ble_eq_true rfl), (Nat.le_of_ble_eq_true rfl)⟩ ?_
      refine g_aload_n d_Mo_reason_27 rfl 0 rfl ?_
      obtain ⟨q5, hq5, h⟩ := gOb h
      refine g_callS_i (As := [.ref (ε.2.2.1 g0 c0)]) (rest := [.int q4]) (ct_Mo_led g0 c0 n0 h0 M _ hq5) d_Mo_reason_28 ca_Mo_led w_1084 rfl rfl (Nat.le_of_ble_eq_true rfl) ⟨(Nat.le_of_ble_eq_true rfl), (Nat.le_of_ble_eq_true rfl)⟩ ?_
      refine g_icmp_eq (tgt := 38) d_Mo_reason_31 (by decide) (fun c6 => ?_) (fun c6 => ?_)
      · rw [if_pos c6] at h
        refine g_iconst (v := 0) d_Mo_reason_38 (by decide) ?_
        obtain rfl := Option.some.inj h
        exact g_iret d_Mo_reason_39 rfl
      · rw [if_neg c6] at h
        refine g_iconst (v := 2) d_Mo_reason_34 (by decide) ?_
        refine g_goto (tgt := 39) d_Mo_reason_35 (by decide) ?_
        obtain rfl := Option.some.inj h
        exact g_iret d_Mo_reason_39 rfl
  · rw [if_neg c8] at h
    refine g_iconst (v := 1) d_Mo_reason_12 (by decide) ?_
    refine g_goto (tgt := 39) d_Mo_reason_13 (by decide) ?_
    obtain rfl := Option.some.inj h
    exact g_iret d_Mo_reason_39 rfl
theorem ct_Mo_reason {l : Launch} {ε : gEnv} (g0 : Nat) (c0 : Nat) (n0 : Nat) (h0 : gHas ε g0 c0 (0, n0, [])) (M : gMem) (a1 : Int32) (r : Int32) (h : f_Mo_reason g0 c0 n0 M a1 = some r) : gCt l ε k_Mo_reason 3 60 [.ref (ε.2.2.1 g0 c0), .int a1] M (some (.int r)) M :=
  gCt_of (by decide) (Nat.le_of_ble_eq_true rfl) rfl (t_Mo_reason g0 c0 n0 h0 M a1 r h)
abbrev k_Mo_legalMany : gMD := (⟨"DropSignalsModel", "legalMany", "([I)I"⟩, prog_11_method_17_code, 3, (some .int))
theorem w_1257 : Cond.static ⟨"DropSignalsModel", "legalMany", "([I)I"⟩ ∈ gWs := gWs_in (i := 1257) (by decide +kernel) rfl
set_option maxRecDepth 100000 in
theorem ca_Mo_legalMany : gCaS k_Mo_legalMany 1 := ⟨⟨gWs_in (i := 1258) rfl rfl, w_43, by decide, by decide, by decide +kernel⟩, w_1257⟩
theorem d_Mo_legalMany_0 : decode prog_11_method_17_code 0 = .ok (.iconst 0, 1) := by decide +kernel
theorem d_Mo_legalMany_1 : decode prog_11_method_17_code 1 = .ok (.istore_n 1, 1) := by decide +kernel
theorem d_Mo_legalMany_2 : decode prog_11_method_17_code 2 = .ok (.iconst 0, 1) := by decide +kernel
theorem d_Mo_legalMany_3 : decode prog_11_method_17_code 3 = .ok (.istore_n 2, 1) := by decide +kernel
theorem d_Mo_legalMany_4 : decode prog_11_method_17_code 4 = .ok (.iload_n 2, 1) := by decide +kernel
theorem d_Mo_legalMany_5 : decode prog_11_method_17_code 5 = .ok (.bipush 32, 2) := by decide +kernel
theorem d_Mo_legalMany_7 : decode prog_11_method_17_code 7 = .ok (.if_icmp .ge 25, 3) := by decide +kernel
theorem d_Mo_legalMany_10 : decode prog_11_method_17_code 10 = .ok (.iload_n 1, 1) := by decide +kernel
theorem d_Mo_legalMany_11 : decode prog_11_method_17_code 11 = .ok (.aload_n 0, 1) := by decide +kernel
theorem d_Mo_legalMany_12 : decode prog_11_method_17_code 12 = .ok (.iload_n 2, 1) := by decide +kernel
theorem d_Mo_legalMany_13 : decode prog_11_method_17_code 13 = .ok (.invokestatic 74, 3) := by decide +kernel
theorem d_Mo_legalMany_16 : decode prog_11_method_17_code 16 = .ok (.ifCond .ne 7, 3) := by decide +kernel
theorem d_Mo_legalMany_19 : decode prog_11_method_17_code 19 = .ok (.iconst 1, 1) := by decide +kernel
theorem d_Mo_legalMany_20 : decode prog_11_method_17_code 20 = .ok (.goto 4, 3) := by decide +kernel
theorem d_Mo_legalMany_23 : decode prog_11_method_17_code 23 = .ok (.iconst 0, 1) := by decide +kernel
theorem d_Mo_legalMany_24 : decode prog_11_method_17_code 24 = .ok (.iadd, 1) := by decide +kernel
theorem d_Mo_legalMany_25 : decode prog_11_method_17_code 25 = .ok (.istore_n 1, 1) := by decide +kernel
theorem d_Mo_legalMany_26 : decode prog_11_method_17_code 26 = .ok (.iinc 2 1, 3) := by decide +kernel
theorem d_Mo_legalMany_29 : decode prog_11_method_17_code 29 = .ok (.goto (-25), 3) := by decide +kernel
theorem d_Mo_legalMany_32 : decode prog_11_method_17_code 32 = .ok (.iload_n 1, 1) := by decide +kernel
theorem d_Mo_legalMany_33 : decode prog_11_method_17_code 33 = .ok (.ireturn, 1) := by decide +kernel
theorem w_1078 : Cond.methodLink "DropSignalsModel" 74 ⟨"DropSignalsModel", "reason", "([II)I"⟩ ∈ gWs := gWs_in (i := 1078) (by decide +kernel) rfl
noncomputable def f_Mo_legalMany_b24 (g0 : Nat) (c0 : Nat) (n0 : Nat) (M : gMem) (x2 : Int32) (s0 : Int32) (s1 : Int32) : Option ((Int32 × Int32) ⊕ Int32) :=
  some (.inl ((s1 + s0), (x2 + 1)))
theorem t_Mo_legalMany_b24 {l : Launch} {ε : gEnv} (g0 : Nat) (c0 : Nat) (n0 : Nat) (h0 : gHas ε g0 c0 (0, n0, [])) (M : gMem) (x2 : Int32) (s0 : Int32) (s1 : Int32) (res : ((Int32 × Int32) ⊕ Int32)) (h : f_Mo_legalMany_b24 g0 c0 n0 M x2 s0 s1 = some res) (r : Int32) (k1 : ∀ s0 : (Int32 × Int32), res = .inl s0 → gGo l ε k_Mo_legalMany (gR 4 81) (gFn ε (some (.int r)) M) 4 [(0, .ref (ε.2.2.1 g0 c0)), (1, .int s0.1), (2, .int s0.2)] [] M) (k2 : ∀ r', res = .inr r' → r' = r) : gGo l ε k_Mo_legalMany (gR 4 81) (gFn ε (some (.int r)) M) 24 [(0, .ref (ε.2.2.1 g0 c0)), (2, .int x2)] [.int s0, .int s1] M := by
  unfold f_Mo_legalMany_b24 at h
  refine g_iadd d_Mo_legalMany_24 ?_
  refine g_istore_n (L' := [(1, .int (s1 + s0)), (0, .ref (ε.2.2.1 g0 c0)), (2, .int x2)]) d_Mo_legalMany_25 rfl (by decide) rfl ?_
  refine g_iinc (v := (x2 + 1)) (L' := [(2, .int (x2 + 1)), (1, .int (s1 + s0)), (0, .ref (ε.2.2.1 g0 c0))]) d_Mo_legalMany_26 (j := 2) rfl rfl (by decide) rfl ?_
  refine g_goto (tgt := 4) d_Mo_legalMany_29 (by decide) ?_
  refine gGo_sub [2, 1, 0] rfl ?_
  obtain rfl := Option.some.inj h
  exact k1 ((s1 + s0), (x2 + 1)) rfl
noncomputable def f_Mo_legalMany_s4 (g0 : Nat) (c0 : Nat) (n0 : Nat) (M : gMem) (x1 : Int32) (x2 : Int32) : Option ((Int32 × Int32) ⊕ Int32) :=
  if 32 ≤ x2 then
    some (.inr x1)
  else
    (f_Mo_reason g0 c0 n0 M x2).bind fun q1 =>
    if q1 = 0 then
      f_Mo_legalMany_b24 g0 c0 n0 M x2 1 x1
    else
      f_Mo_legalMany_b24 g0 c0 n0 M x2 0 x1
theorem t_Mo_legalMany_s4 {l : Launch} {ε : gEnv} (g0 : Nat) (c0 : Nat) (n0 : Nat) (h0 : gHas ε g0 c0 (0, n0, [])) (M : gMem) (x1 : Int32) (x2 : Int32) (res : ((Int32 × Int32) ⊕ Int32)) (h : f_Mo_legalMany_s4 g0 c0 n0 M x1 x2 = some res) (r : Int32) (k1 : ∀ s0 : (Int32 × Int32), res = .inl s0 → gGo l ε k_Mo_legalMany (gR 4 81) (gFn ε (some (.int r)) M) 4 [(0, .ref (ε.2.2.1 g0 c0)), (1, .int s0.1), (2, .int s0.2)] [] M) (k2 : ∀ r', res = .inr r' → r' = r) : gGo l ε k_Mo_legalMany (gR 4 81) (gFn ε (some (.int r)) M) 4 [(0, .ref (ε.2.2.1 g0 c0)), (1, .int x1), (2, .int x2)] [] M := by
  unfold f_Mo_legalMany_s4 at h
  refine g_iload_n d_Mo_legalMany_4 rfl 2 rfl ?_
  refine g_bipush (v := 32) d_Mo_legalMany_5 (by decide) ?_
  refine g_icmp_ge (tgt := 32) d_Mo_legalMany_7 (by decide) (fun c3 => ?_) (fun c3 => ?_)
  · rw [if_pos c3] at h
    refine g_iload_n d_Mo_legalMany_32 rfl 1 rfl ?_
    obtain rfl := Option.some.inj h
    have e9 := k2 _ rfl
    subst e9
    exact g_iret d_Mo_legalMany_33 rfl
  · rw [if_neg c3] at h
    refine g_iload_n d_Mo_legalMany_10 rfl 1 rfl ?_
    refine g_aload_n d_Mo_legalMany_11 rfl 0 rfl ?_
    refine g_iload_n d_Mo_legalMany_12 rfl 2 rfl ?_
    obtain ⟨q1, hq1, h⟩ := gOb h
    refine g_callS_i (As := [.ref (ε.2.2.1 g0 c0), .int x2]) (rest := [.int x1]) (ct_Mo_reason g0 c0 n0 h0 M x2 _ hq1) d_Mo_legalMany_13 ca_Mo_reason w_1078 rfl rfl (Nat.le_of_ble_eq_true rfl) ⟨(Nat.le_of_ble_eq_true rfl), (Nat.le_of_ble_eq_true rfl)⟩ ?_
    refine g_if_ne (tgt := 23) d_Mo_legalMany_16 (by decide) (fun c2 => ?_) (fun c2 => ?_)
    · rw [if_neg c2] at h
      refine g_iconst (v := 0) d_Mo_legalMany_23 (by decide) ?_
      refine gGo_sub [0, 2] rfl ?_
      exact t_Mo_legalMany_b24 g0 c0 n0 h0 M x2 0 x1 _ h r k1 k2
    · rw [if_pos c2] at h
      refine g_iconst (v := 1) d_Mo_legalMany_19 (by decide) ?_
      refine g_goto (tgt := 24) d_Mo_legalMany_20 (by decide) ?_
      refine gGo_sub [0, 2] rfl ?_
      exact t_Mo_legalMany_b24 g0 c0 n0 h0 M x2 1 x1 _ h r k1 k2
noncomputable def f_Mo_legalMany_l4 (g0 : Nat) (c0 : Nat) (n0 : Nat) (M : gMem) (s : (Int32 × Int32)) : Option Int32 := gLp (fun s => f_Mo_legalMany_s4 g0 c0 n0 M s.1 s.2) s
theorem t_Mo_legalMany_l4 {l : Launch} {ε : gEnv} (g0 : Nat) (c0 : Nat) (n0 : Nat) (h0 : gHas ε g0 c0 (0, n0, [])) (M : gMem) (s : (Int32 × Int32)) (r : Int32) (h : f_Mo_legalMany_l4 g0 c0 n0 M s = some r) : gGo l ε k_Mo_legalMany (gR 4 81) (gFn ε (some (.int r)) M) 4 [(0, .ref (ε.2.2.1 g0 c0)), (1, .int s.1), (2, .int s.2)] [] M :=
  g_loop _ (fun r s => gGo l ε k_Mo_legalMany (gR 4 81) (gFn ε (some (.int r)) M) 4 [(0, .ref (ε.2.2.1 g0 c0)), (1, .int s.1), (2, .int s.2)] [] M) (fun s res h r k1 k2 => t_Mo_legalMany_s4 g0 c0 n0 h0 M s.1 s.2 res h r k1 k2) s r h
noncomputable def f_Mo_legalMany (g0 : Nat) (c0 : Nat) (n0 : Nat) (M : gMem) : Option Int32 :=
  f_Mo_legalMany_l4 g0 c0 n0 M (0, 0)
theorem t_Mo_legalMany {l : Launch} {ε : gEnv} (g0 : Nat) (c0 : Nat) (n0 : Nat) (h0 : gHas ε g0 c0 (0, n0, [])) (M : gMem) (r : Int32) (h : f_Mo_legalMany g0 c0 n0 M = some r) : gGo l ε k_Mo_legalMany (gR 4 81) (gFn ε (some (.int r)) M) 0 [(0, .ref (ε.2.2.1 g0 c0))] [] M := by
  unfold f_Mo_legalMany at h
  refine g_iconst (v := 0) d_Mo_legalMany_0 (by decide) ?_
  refine g_istore_n (L' := [(1, .int 0), (0, .ref (ε.2.2.1 g0 c0))]) d_Mo_legalMany_1 rfl (by decide) rfl ?_
  refine g_iconst (v := 0) d_Mo_legalMany_2 (by decide) ?_
  refine g_istore_n (L' := [(2, .int 0), (1, .int 0), (0, .ref (ε.2.2.1 g0 c0))]) d_Mo_legalMany_3 rfl (by decide) rfl ?_
  refine gGo_sub [2, 1, 0] rfl ?_
  exact t_Mo_legalMany_l4 g0 c0 n0 h0 M (0, 0) _ h
theorem ct_Mo_legalMany {l : Launch} {ε : gEnv} (g0 : Nat) (c0 : Nat) (n0 : Nat) (h0 : gHas ε g0 c0 (0, n0, [])) (M : gMem) (r : Int32) (h : f_Mo_legalMany g0 c0 n0 M = some r) : gCt l ε k_Mo_legalMany 4 81 [.ref (ε.2.2.1 g0 c0)] M (some (.int r)) M :=
  gCt_of (by decide) (Nat.le_of_ble_eq_true rfl) rfl (t_Mo_legalMany g0 c0 n0 h0 M r h)
abbrev k_Mo_legalAt : gMD := (⟨"DropSignalsModel", "legalAt", "([II)I"⟩, prog_11_method_18_code, 4, (some .int))
theorem w_1194 : Cond.static ⟨"DropSignalsModel", "legalAt", "([II)I"⟩ ∈ gWs := gWs_in (i := 1194) (by decide +kernel) rfl
set_option maxRecDepth 100000 in
theorem ca_Mo_legalAt : gCaS k_Mo_legalAt 2 := ⟨⟨gWs_in (i := 1195) rfl rfl, w_43, by decide, by decide, by decide +kernel⟩, w_1194⟩
theorem d_Mo_legalAt_0 : decode prog_11_method_18_code 0 = .ok (.iload_n 1, 1) := by decide +kernel
theorem d_Mo_legalAt_1 : decode prog_11_method_18_code 1 = .ok (.istore_n 2, 1) := by decide +kernel
theorem d_Mo_legalAt_2 : decode prog_11_method_18_code 2 = .ok (.iconst 0, 1) := by decide +kernel
theorem d_Mo_legalAt_3 : decode prog_11_method_18_code 3 = .ok (.istore_n 3, 1) := by decide +kernel
theorem d_Mo_legalAt_4 : decode prog_11_method_18_code 4 = .ok (.iload_n 3, 1) := by decide +kernel
theorem d_Mo_legalAt_5 : decode prog_11_method_18_code 5 = .ok (.bipush 32, 2) := by decide +kernel
theorem d_Mo_legalAt_7 : decode prog_11_method_18_code 7 = .ok (.if_icmp .ge 26, 3) := by decide +kernel
theorem d_Mo_legalAt_10 : decode prog_11_method_18_code 10 = .ok (.aload_n 0, 1) := by decide +kernel
theorem d_Mo_legalAt_11 : decode prog_11_method_18_code 11 = .ok (.iload_n 3, 1) := by decide +kernel
theorem d_Mo_legalAt_12 : decode prog_11_method_18_code 12 = .ok (.invokestatic 74, 3) := by decide +kernel
theorem d_Mo_legalAt_15 : decode prog_11_method_18_code 15 = .ok (.ifCond .ne 12, 3) := by decide +kernel
theorem d_Mo_legalAt_18 : decode prog_11_method_18_code 18 = .ok (.iload_n 2, 1) := by decide +kernel
theorem d_Mo_legalAt_19 : decode prog_11_method_18_code 19 = .ok (.ifCond .ne 5, 3) := by decide +kernel
theorem d_Mo_legalAt_22 : decode prog_11_method_18_code 22 = .ok (.iload_n 3, 1) := by decide +kernel
theorem d_Mo_legalAt_23 : decode prog_11_method_18_code 23 = .ok (.ireturn, 1) := by decide +kernel
theorem d_Mo_legalAt_24 : decode prog_11_method_18_code 24 = .ok (.iinc 2 (-1), 3) := by decide +kernel
theorem d_Mo_legalAt_27 : decode prog_11_method_18_code 27 = .ok (.iinc 3 1, 3) := by decide +kernel
theorem d_Mo_legalAt_30 : decode prog_11_method_18_code 30 = .ok (.goto (-26), 3) := by decide +kernel
theorem d_Mo_legalAt_33 : decode prog_11_method_18_code 33 = .ok (.iconst (-1), 1) := by decide +kernel
theorem d_Mo_legalAt_34 : decode prog_11_method_18_code 34 = .ok (.ireturn, 1) := by decide +kernel
noncomputable def f_Mo_legalAt_b27 (g0 : Nat) (c0 : Nat) (n0 : Nat) (M : gMem) (x2 : Int32) (x3 : Int32) : Option ((Int32 × Int32) ⊕ Int32) :=
  some (.inl (x2, (x3 + 1)))
theorem t_Mo_legalAt_b27 {l : Launch} {ε : gEnv} (g0 : Nat) (c0 : Nat) (n0 : Nat) (h0 : gHas ε g0 c0 (0, n0, [])) (M : gMem) (x2 : Int32) (x3 : Int32) (res : ((Int32 × Int32) ⊕ Int32)) (h : f_Mo_legalAt_b27 g0 c0 n0 M x2 x3 = some res) (r : Int32) (k1 : ∀ s0 : (Int32 × Int32), res = .inl s0 → gGo l ε k_Mo_legalAt (gR 4 81) (gFn ε (some (.int r)) M) 4 [(0, .ref (ε.2.2.1 g0 c0)), (2, .int s0.1), (3, .int s0.2)] [] M) (k2 : ∀ r', res = .inr r' → r' = r) : gGo l ε k_Mo_legalAt (gR 4 81) (gFn ε (some (.int r)) M) 27 [(0, .ref (ε.2.2.1 g0 c0)), (2, .int x2), (3, .int x3)] [] M := by
  unfold f_Mo_legalAt_b27 at h
  refine g_iinc (v := (x3 + 1)) (L' := [(3, .int (x3 + 1)), (0, .ref (ε.2.2.1 g0 c0)), (2, .int x2)]) d_Mo_legalAt_27 (j := 2) rfl rfl (by decide) rfl ?_
  refine g_goto (tgt := 4) d_Mo_legalAt_30 (by decide) ?_
  refine gGo_sub [1, 2, 0] rfl ?_
  obtain rfl := Option.some.inj h
  exact k1 (x2, (x3 + 1)) rfl
noncomputable def f_Mo_legalAt_s4 (g0 : Nat) (c0 : Nat) (n0 : Nat) (M : gMem) (x2 : Int32) (x3 : Int32) : Option ((Int32 × Int32) ⊕ Int32) :=
  if 32 ≤ x3 then
    some (.inr (-1))
  else
    (f_Mo_reason g0 c0 n0 M x3).bind fun q1 =>
    if q1 = 0 then
      if x2 = 0 then
        some (.inr x3)
      else
        f_Mo_legalAt_b27 g0 c0 n0 M (x2 + (-1)) x3
    else
      f_Mo_legalAt_b27 g0 c0 n0 M x2 x3
theorem t_Mo_legalAt_s4 {l : Launch} {ε : gEnv} (g0 : Nat) (c0 : Nat) (n0 : Nat) (h0 : gHas ε g0 c0 (0, n0, [])) (M : gMem) (x2 : Int32) (x3 : Int32) (res : ((Int32 × Int32) ⊕ Int32)) (h : f_Mo_legalAt_s4 g0 c0 n0 M x2 x3 = some res) (r : Int32) (k1 : ∀ s0 : (Int32 × Int32), res = .inl s0 → gGo l ε k_Mo_legalAt (gR 4 81) (gFn ε (some (.int r)) M) 4 [(0, .ref (ε.2.2.1 g0 c0)), (2, .int s0.1), (3, .int s0.2)] [] M) (k2 : ∀ r', res = .inr r' → r' = r) : gGo l ε k_Mo_legalAt (gR 4 81) (gFn ε (some (.int r)) M) 4 [(0, .ref (ε.2.2.1 g0 c0)), (2, .int x2), (3, .int x3)] [] M := by
  unfold f_Mo_legalAt_s4 at h
  refine g_iload_n d_Mo_legalAt_4 rfl 2 rfl ?_
  refine g_bipush (v := 32) d_Mo_legalAt_5 (by decide) ?_
  refine g_icmp_ge (tgt := 33) d_Mo_legalAt_7 (by decide) (fun c4 => ?_) (fun c4 => ?_)
  · rw [if_pos c4] at h
    refine g_iconst (v := -1) d_Mo_legalAt_33 (by decide) ?_
    obtain rfl := Option.some.inj h
    have e9 := k2 _ rfl
    subst e9
    exact g_iret d_Mo_legalAt_34 rfl
  · rw [if_neg c4] at h
    refine g_aload_n d_Mo_legalAt_10 rfl 0 rfl ?_
    refine g_iload_n d_Mo_legalAt_11 rfl 2 rfl ?_
    obtain ⟨q1, hq1, h⟩ := gOb h
    refine g_callS_i (As := [.ref (ε.2.2.1 g0 c0), .int x3]) (rest := []) (ct_Mo_reason g0 c0 n0 h0 M x3 _ hq1) d_Mo_legalAt_12 ca_Mo_reason w_1078 rfl rfl (Nat.le_of_ble_eq_true rfl) ⟨(Nat.le_of_ble_eq_true rfl), (Nat.le_of_ble_eq_true rfl)⟩ ?_
    refine g_if_ne (tgt := 27) d_Mo_legalAt_15 (by decide) (fun c3 => ?_) (fun c3 => ?_)
    · rw [if_neg c3] at h
      exact t_Mo_legalAt_b27 g0 c0 n0 h0 M x2 x3 _ h r k1 k2
    · rw [if_pos c3] at h
      refine g_iload_n d_Mo_legalAt_18 rfl 1 rfl ?_
      refine g_if_ne (tgt := 24) d_Mo_legalAt_19 (by decide) (fun c2 => ?_) (fun c2 => ?_)
      · rw [if_neg c2] at h
        refine g_iinc (v := (x2 + (-1))) (L' := [(2, .int (x2 + (-1))), (0, .ref (ε.2.2.1 g0 c0)), (3, .int x3)]) d_Mo_legalAt_24 (j := 1) rfl rfl (by decide) rfl ?_
        refine gGo_sub [1, 0, 2] rfl ?_
        exact t_Mo_legalAt_b27 g0 c0 n0 h0 M (x2 + (-1)) x3 _ h r k1 k2
      · rw [if_pos c2] at h
        refine g_iload_n d_Mo_legalAt_22 rfl 2 rfl ?_
        obtain rfl := Option.some.inj h
        have e9 := k2 _ rfl
        subst e9
        exact g_iret d_Mo_legalAt_23 rfl
noncomputable def f_Mo_legalAt_l4 (g0 : Nat) (c0 : Nat) (n0 : Nat) (M : gMem) (s : (Int32 × Int32)) : Option Int32 := gLp (fun s => f_Mo_legalAt_s4 g0 c0 n0 M s.1 s.2) s
theorem t_Mo_legalAt_l4 {l : Launch} {ε : gEnv} (g0 : Nat) (c0 : Nat) (n0 : Nat) (h0 : gHas ε g0 c0 (0, n0, [])) (M : gMem) (s : (Int32 × Int32)) (r : Int32) (h : f_Mo_legalAt_l4 g0 c0 n0 M s = some r) : gGo l ε k_Mo_legalAt (gR 4 81) (gFn ε (some (.int r)) M) 4 [(0, .ref (ε.2.2.1 g0 c0)), (2, .int s.1), (3, .int s.2)] [] M :=
  g_loop _ (fun r s => gGo l ε k_Mo_legalAt (gR 4 81) (gFn ε (some (.int r)) M) 4 [(0, .ref (ε.2.2.1 g0 c0)), (2, .int s.1), (3, .int s.2)] [] M) (fun s res h r k1 k2 => t_Mo_legalAt_s4 g0 c0 n0 h0 M s.1 s.2 res h r k1 k2) s r h
noncomputable def f_Mo_legalAt (g0 : Nat) (c0 : Nat) (n0 : Nat) (M : gMem) (a1 : Int32) : Option Int32 :=
  f_Mo_legalAt_l4 g0 c0 n0 M (a1, 0)
theorem t_Mo_legalAt {l : Launch} {ε : gEnv} (g0 : Nat) (c0 : Nat) (n0 : Nat) (h0 : gHas ε g0 c0 (0, n0, [])) (M : gMem) (a1 : Int32) (r : Int32) (h : f_Mo_legalAt g0 c0 n0 M a1 = some r) : gGo l ε k_Mo_legalAt (gR 4 81) (gFn ε (some (.int r)) M) 0 [(0, .ref (ε.2.2.1 g0 c0)), (1, .int a1)] [] M := by
  unfold f_Mo_legalAt at h
  refine g_iload_n d_Mo_legalAt_0 rfl 1 rfl ?_
  refine g_istore_n (L' := [(2, .int a1), (0, .ref (ε.2.2.1 g0 c0)), (1, .int a1)]) d_Mo_legalAt_1 rfl (by decide) rfl ?_
  refine g_iconst (v := 0) d_Mo_legalAt_2 (by decide) ?_
  refine g_istore_n (L' := [(3, .int 0), (2, .int a1), (0, .ref (ε.2.2.1 g0 c0)), (1, .int a1)]) d_Mo_legalAt_3 rfl (by decide) rfl ?_
  refine gGo_sub [2, 1, 0] rfl ?_
  exact t_Mo_legalAt_l4 g0 c0 n0 h0 M (a1, 0) _ h
theorem ct_Mo_legalAt {l : Launch} {ε : gEnv} (g0 : Nat) (c0 : Nat) (n0 : Nat) (h0 : gHas ε g0 c0 (0, n0, [])) (M : gMem) (a1 : Int32) (r : Int32) (h : f_Mo_legalAt g0 c0 n0 M a1 = some r) : gCt l ε k_Mo_legalAt 4 81 [.ref (ε.2.2.1 g0 c0), .int a1] M (some (.int r)) M :=
  gCt_of (by decide) (Nat.le_of_ble_eq_true rfl) rfl (t_Mo_legalAt g0 c0 n0 h0 M a1 r h)
abbrev k_Mo_dealOn : gMD := (⟨"DropSignalsModel", "dealOn", "([IJ)I"⟩, prog_11_method_19_code, 9, (some .int))
theorem w_1061 : Cond.instanceMethod ⟨"DropSignalsModel", "dealOn", "([IJ)I"⟩ ∈ gWs := gWs_in (i := 1061) (by decide +kernel) rfl
theorem w_23 : Cond.selects "DropSignalsModel" ⟨"DropSignalsModel", "dealOn", "([IJ)I"⟩ ⟨"DropSignalsModel", "dealOn", "([IJ)I"⟩ ∈ gWs := gWs_in (i := 23) (by decide +kernel) rfl
set_option maxRecDepth 100000 in
theorem ca_Mo_dealOn : gCaV k_Mo_dealOn 2 := ⟨⟨gWs_in (i := 1062) rfl rfl, w_43, by decide, by decide, by decide +kernel⟩, w_1061, w_23⟩
theorem d_Mo_dealOn_0 : decode prog_11_method_19_code 0 = .ok (.aload_n 1, 1) := by decide +kernel
theorem d_Mo_dealOn_1 : decode prog_11_method_19_code 1 = .ok (.invokestatic 52, 3) := by decide +kernel
theorem d_Mo_dealOn_4 : decode prog_11_method_19_code 4 = .ok (.iconst 0, 1) := by decide +kernel
theorem d_Mo_dealOn_5 : decode prog_11_method_19_code 5 = .ok (.istore 4, 2) := by decide +kernel
theorem d_Mo_dealOn_7 : decode prog_11_method_19_code 7 = .ok (.iload 4, 2) := by decide +kernel
theorem d_Mo_dealOn_9 : decode prog_11_method_19_code 9 = .ok (.bipush 32, 2) := by decide +kernel
theorem d_Mo_dealOn_11 : decode prog_11_method_19_code 11 = .ok (.if_icmp .ge 18, 3) := by decide +kernel
theorem d_Mo_dealOn_14 : decode prog_11_method_19_code 14 = .ok (.aload_n 0, 1) := by decide +kernel
theorem d_Mo_dealOn_15 : decode prog_11_method_19_code 15 = .ok (.getfield 31, 3) := by decide +kernel
theorem d_Mo_dealOn_18 : decode prog_11_method_19_code 18 = .ok (.iload 4, 2) := by decide +kernel
theorem d_Mo_dealOn_20 : decode prog_11_method_19_code 20 = .ok (.iload 4, 2) := by decide +kernel
theorem d_Mo_dealOn_22 : decode prog_11_method_19_code 22 = .ok (.iastore, 1) := by decide +kernel
theorem d_Mo_dealOn_23 : decode prog_11_method_19_code 23 = .ok (.iinc 4 1, 3) := by decide +kernel
theorem d_Mo_dealOn_26 : decode prog_11_method_19_code 26 = .ok (.goto (-19), 3) := by decide +kernel
theorem d_Mo_dealOn_29 : decode prog_11_method_19_code 29 = .ok (.lload_n 2, 1) := by decide +kernel
theorem d_Mo_dealOn_30 : decode prog_11_method_19_code 30 = .ok (.lstore 4, 2) := by decide +kernel
theorem d_Mo_dealOn_32 : decode prog_11_method_19_code 32 = .ok (.bipush 31, 2) := by decide +kernel
theorem d_Mo_dealOn_34 : decode prog_11_method_19_code 34 = .ok (.istore 6, 2) := by decide +kernel
theorem d_Mo_dealOn_36 : decode prog_11_method_19_code 36 = .ok (.iload 6, 2) := by decide +kernel
theorem d_Mo_dealOn_38 : decode prog_11_method_19_code 38 = .ok (.ifCond .le 66, 3) := by decide +kernel
theorem d_Mo_dealOn_41 : decode prog_11_method_19_code 41 = .ok (.lload 4, 2) := by decide +kernel
theorem d_Mo_dealOn_43 : decode prog_11_method_19_code 43 = .ok (.ldc2_w 78, 3) := by decide +kernel
theorem d_Mo_dealOn_46 : decode prog_11_method_19_code 46 = .ok (.lmul, 1) := by decide +kernel
theorem d_Mo_dealOn_47 : decode prog_11_method_19_code 47 = .ok (.ldc2_w 80, 3) := by decide +kernel
theorem d_Mo_dealOn_50 : decode prog_11_method_19_code 50 = .ok (.ladd, 1) := by decide +kernel
theorem d_Mo_dealOn_51 : decode prog_11_method_19_code 51 = .ok (.lstore 4, 2) := by decide +kernel
theorem d_Mo_dealOn_53 : decode prog_11_method_19_code 53 = .ok (.lload 4, 2) := by decide +kernel
theorem d_Mo_dealOn_55 : decode prog_11_method_19_code 55 = .ok (.bipush 33, 2) := by decide +kernel
theorem d_Mo_dealOn_57 : decode prog_11_method_19_code 57 = .ok (.lushr, 1) := by decide +kernel
theorem d_Mo_dealOn_58 : decode prog_11_method_19_code 58 = .ok (.l2i, 1) := by decide +kernel
theorem d_Mo_dealOn_59 : decode prog_11_method_19_code 59 = .ok (.iload 6, 2) := by decide +kernel
theorem d_Mo_dealOn_61 : decode prog_11_method_19_code 61 = .ok (.iconst 1, 1) := by decide +kernel
theorem d_Mo_dealOn_62 : decode prog_11_method_19_code 62 = .ok (.iadd, 1) := by decide +kernel
theorem d_Mo_dealOn_63 : decode prog_11_method_19_code 63 = .ok (.irem, 1) := by decide +kernel
theorem d_Mo_dealOn_64 : decode prog_11_method_19_code 64 = .ok (.istore 7, 2) := by decide +kernel
theorem d_Mo_dealOn_66 : decode prog_11_method_19_code 66 = .ok (.aload_n 0, 1) := by decide +kernel
theorem d_Mo_dealOn_67 : decode prog_11_method_19_code 67 = .ok (.getfield 31, 3) := by decide +kernel
theorem d_Mo_dealOn_70 : decode prog_11_method_19_code 70 = .ok (.iload 6, 2) := by decide +kernel
theorem d_Mo_dealOn_72 : decode prog_11_method_19_code 72 = .ok (.iaload, 1) := by decide +kernel
theorem d_Mo_dealOn_73 : decode prog_11_method_19_code 73 = .ok (.istore 8, 2) := by decide +kernel
theorem d_Mo_dealOn_75 : decode prog_11_method_19_code 75 = .ok (.aload_n 0, 1) := by decide +kernel
theorem d_Mo_dealOn_76 : decode prog_11_method_19_code 76 = .ok (.getfield 31, 3) := by decide +kernel
theorem d_Mo_dealOn_79 : decode prog_11_method_19_code 79 = .ok (.iload 6, 2) := by decide +kernel
theorem d_Mo_dealOn_81 : decode prog_11_method_19_code 81 = .ok (.aload_n 0, 1) := by decide +kernel
theorem d_Mo_dealOn_82 : decode prog_11_method_19_code 82 = .ok (.getfield 31, 3) := by decide +kernel
theorem d_Mo_dealOn_85 : decode prog_11_method_19_code 85 = .ok (.iload 7, 2) := by decide +kernel
theorem d_Mo_dealOn_87 : decode prog_11_method_19_code 87 = .ok (.iaload, 1) := by decide +kernel
theorem d_Mo_dealOn_88 : decode prog_11_method_19_code 88 = .ok (.iastore, 1) := by decide +kernel
theorem d_Mo_dealOn_89 : decode prog_11_method_19_code 89 = .ok (.aload_n 0, 1) := by decide +kernel
theorem d_Mo_dealOn_90 : decode prog_11_method_19_code 90 = .ok (.getfield 31, 3) := by decide +kernel
theorem d_Mo_dealOn_93 : decode prog_11_method_19_code 93 = .ok (.iload 7, 2) := by decide +kernel
theorem d_Mo_dealOn_95 : decode prog_11_method_19_code 95 = .ok (.iload 8, 2) := by decide +kernel
theorem d_Mo_dealOn_97 : decode prog_11_method_19_code 97 = .ok (.iastore, 1) := by decide +kernel
theorem d_Mo_dealOn_98 : decode prog_11_method_19_code 98 = .ok (.iinc 6 (-1), 3) := by decide +kernel
theorem d_Mo_dealOn_101 : decode prog_11_method_19_code 101 = .ok (.goto (-65), 3) := by decide +kernel
theorem d_Mo_dealOn_104 : decode prog_11_method_19_code 104 = .ok (.iconst 0, 1) := by decide +kernel
theorem d_Mo_dealOn_105 : decode prog_11_method_19_code 105 = .ok (.istore 6, 2) := by decide +kernel
theorem d_Mo_dealOn_107 : decode prog_11_method_19_code 107 = .ok (.iload 6, 2) := by decide +kernel
theorem d_Mo_dealOn_109 : decode prog_11_method_19_code 109 = .ok (.bipush 32, 2) := by decide +kernel
theorem d_Mo_dealOn_111 : decode prog_11_method_19_code 111 = .ok (.if_icmp .ge 41, 3) := by decide +kernel
theorem d_Mo_dealOn_114 : decode prog_11_method_19_code 114 = .ok (.aload_n 1, 1) := by decide +kernel
theorem d_Mo_dealOn_115 : decode prog_11_method_19_code 115 = .ok (.bipush 21, 2) := by decide +kernel
theorem d_Mo_dealOn_117 : decode prog_11_method_19_code 117 = .ok (.aload_n 0, 1) := by decide +kernel
theorem d_Mo_dealOn_118 : decode prog_11_method_19_code 118 = .ok (.getfield 31, 3) := by decide +kernel
theorem d_Mo_dealOn_121 : decode prog_11_method_19_code 121 = .ok (.iload 6, 2) := by decide +kernel
theorem d_Mo_dealOn_123 : decode prog_11_method_19_code 123 = .ok (.iaload, 1) := by decide +kernel
theorem d_Mo_dealOn_124 : decode prog_11_method_19_code 124 = .ok (.iadd, 1) := by decide +kernel
theorem d_Mo_dealOn_125 : decode prog_11_method_19_code 125 = .ok (.iload 6, 2) := by decide +kernel
theorem d_Mo_dealOn_127 : decode prog_11_method_19_code 127 = .ok (.iconst 4, 1) := by decide +kernel
theorem d_Mo_dealOn_128 : decode prog_11_method_19_code 128 = .ok (.irem, 1) := by decide +kernel
theorem d_Mo_dealOn_129 : decode prog_11_method_19_code 129 = .ok (.iastore, 1) := by decide +kernel
theorem d_Mo_dealOn_130 : decode prog_11_method_19_code 130 = .ok (.aload_n 1, 1) := by decide +kernel
theorem d_Mo_dealOn_131 : decode prog_11_method_19_code 131 = .ok (.bipush 53, 2) := by decide +kernel
theorem d_Mo_dealOn_133 : decode prog_11_method_19_code 133 = .ok (.aload_n 0, 1) := by decide +kernel
theorem d_Mo_dealOn_134 : decode prog_11_method_19_code 134 = .ok (.getfield 31, 3) := by decide +kernel
theorem d_Mo_dealOn_137 : decode prog_11_method_19_code 137 = .ok (.iload 6, 2) := by decide +kernel
theorem d_Mo_dealOn_139 : decode prog_11_method_19_code 139 = .ok (.iaload, 1) := by decide +kernel
theorem d_Mo_dealOn_140 : decode prog_11_method_19_code 140 = .ok (.iadd, 1) := by decide +kernel
theorem d_Mo_dealOn_141 : decode prog_11_method_19_code 141 = .ok (.iload 6, 2) := by decide +kernel
theorem d_Mo_dealOn_143 : decode prog_11_method_19_code 143 = .ok (.iconst 4, 1) := by decide +kernel
theorem d_Mo_dealOn_144 : decode prog_11_method_19_code 144 = .ok (.irem, 1) := by decide +kernel
theorem d_Mo_dealOn_145 : decode prog_11_method_19_code 145 = .ok (.iastore, 1) := by decide +kernel
theorem d_Mo_dealOn_146 : decode prog_11_method_19_code 146 = .ok (.iinc 6 1, 3) := by decide +kernel
theorem d_Mo_dealOn_149 : decode prog_11_method_19_code 149 = .ok (.goto (-42), 3) := by decide +kernel
theorem d_Mo_dealOn_152 : decode prog_11_method_19_code 152 = .ok (.aload_n 1, 1) := by decide +kernel
theorem d_Mo_dealOn_153 : decode prog_11_method_19_code 153 = .ok (.iconst 2, 1) := by decide +kernel
theorem d_Mo_dealOn_154 : decode prog_11_method_19_code 154 = .ok (.aload_n 1, 1) := by decide +kernel
theorem d_Mo_dealOn_155 : decode prog_11_method_19_code 155 = .ok (.iconst 0, 1) := by decide +kernel
theorem d_Mo_dealOn_156 : decode prog_11_method_19_code 156 = .ok (.iaload, 1) := by decide +kernel
theorem d_Mo_dealOn_157 : decode prog_11_method_19_code 157 = .ok (.iconst 4, 1) := by decide +kernel
theorem d_Mo_dealOn_158 : decode prog_11_method_19_code 158 = .ok (.irem, 1) := by decide +kernel
theorem d_Mo_dealOn_159 : decode prog_11_method_19_code 159 = .ok (.iastore, 1) := by decide +kernel
theorem d_Mo_dealOn_160 : decode prog_11_method_19_code 160 = .ok (.aload_n 1, 1) := by decide +kernel
theorem d_Mo_dealOn_161 : decode prog_11_method_19_code 161 = .ok (.iconst 0, 1) := by decide +kernel
theorem d_Mo_dealOn_162 : decode prog_11_method_19_code 162 = .ok (.dup2, 1) := by decide +kernel
theorem d_Mo_dealOn_163 : decode prog_11_method_19_code 163 = .ok (.iaload, 1) := by decide +kernel
theorem d_Mo_dealOn_164 : decode prog_11_method_19_code 164 = .ok (.iconst 1, 1) := by decide +kernel
theorem d_Mo_dealOn_165 : decode prog_11_method_19_code 165 = .ok (.iadd, 1) := by decide +kernel
theorem d_Mo_dealOn_166 : decode prog_11_method_19_code 166 = .ok (.iastore, 1) := by decide +kernel
theorem d_Mo_dealOn_167 : decode prog_11_method_19_code 167 = .ok (.aload_n 1, 1) := by decide +kernel
theorem d_Mo_dealOn_168 : decode prog_11_method_19_code 168 = .ok (.iconst 1, 1) := by decide +kernel
theorem d_Mo_dealOn_169 : decode prog_11_method_19_code 169 = .ok (.iconst 1, 1) := by decide +kernel
theorem d_Mo_dealOn_170 : decode prog_11_method_19_code 170 = .ok (.iastore, 1) := by decide +kernel
theorem d_Mo_dealOn_171 : decode prog_11_method_19_code 171 = .ok (.aload_n 1, 1) := by decide +kernel
theorem d_Mo_dealOn_172 : decode prog_11_method_19_code 172 = .ok (.iconst 0, 1) := by decide +kernel
theorem d_Mo_dealOn_173 : decode prog_11_method_19_code 173 = .ok (.iaload, 1) := by decide +kernel
theorem d_Mo_dealOn_174 : decode prog_11_method_19_code 174 = .ok (.ireturn, 1) := by decide +kernel
theorem w_982 : Cond.fieldLink "DropSignalsModel" 31 "DropSignalsModel" "row" "[I" ∈ gWs := gWs_in (i := 982) (by decide +kernel) rfl
theorem fl_Mo_31 : gFl "DropSignalsModel" 31 8 9 := ⟨gN8, gF8, 16, rfl, uw_8, by decide, w_982⟩
theorem w_1063 : Cond.constantLong "DropSignalsModel" 78 (6364136223846793005) ∈ gWs := gWs_in (i := 1063) (by decide +kernel) rfl
theorem w_1064 : Cond.constantLong "DropSignalsModel" 80 (1442695040888963407) ∈ gWs := gWs_in (i := 1064) (by decide +kernel) rfl
noncomputable def f_Mo_dealOn_s107 (g0 : Nat) (c0 : Nat) (n0 : Nat) (M : gMem) (x6 : Int32) : Option ((Int32 × gMem) ⊕ (Int32 × gMem)) :=
  if 32 ≤ x6 then
    (gRd n0 (M g0 c0) 0).bind fun v2 =>
    (gWr M g0 c0 n0 2 (gRem v2 4)).bind fun M3 =>
    (gRd n0 (M3 g0 c0) 0).bind fun v4 =>
    (gWr M3 g0 c0 n0 0 (v4 + 1)).bind fun M5 =>
    (gWr M5 g0 c0 n0 1 1).bind fun M6 =>
    (gRd n0 (M6 g0 c0) 0).bind fun v7 =>
    some (.inr (v7, M6))
  else
    (gRd 32 (M 19 8) x6).bind fun v8 =>
    (gWr M g0 c0 n0 (21 + v8) (gRem x6 4)).bind fun M9 =>
    (gRd 32 (M9 19 8) x6).bind fun v10 =>
    (gWr M9 g0 c0 n0 (53 + v10) (gRem x6 4)).bind fun M11 =>
    some (.inl ((x6 + 1), M11))
theorem t_Mo_dealOn_s107 {l : Launch} {ε : gEnv} (g0 : Nat) (c0 : Nat) (n0 : Nat) (hM : gMo ε) (h0 : gHas ε g0 c0 (0, n0, [])) (M : gMem) (x6 : Int32) (res : ((Int32 × gMem) ⊕ (Int32 × gMem))) (h : f_Mo_dealOn_s107 g0 c0 n0 M x6 = some res) (r : (Int32 × gMem)) (k1 : ∀ s0 : (Int32 × gMem), res = .inl s0 → gGo l ε k_Mo_dealOn (gR 1 21) (gFn ε (some (.int r.1)) r.2) 107 [(0, .ref (ε.2.2.1 19 0)), (1, .ref (ε.2.2.1 g0 c0)), (6, .int s0.1)] [] s0.2) (k2 : ∀ r', res = .inr r' → r' = r) : gGo l ε k_Mo_dealOn (gR 1 21) (gFn ε (some (.int r.1)) r.2) 107 [(0, .ref (ε.2.2.1 19 0)), (1, .ref (ε.2.2.1 g0 c0)), (6, .int x6)] [] M := by
  unfold f_Mo_dealOn_s107 at h
  refine g_iload d_Mo_dealOn_107 2 rfl ?_
  refine g_bipush (v := 32) d_Mo_dealOn_109 (by decide) ?_
  refine g_icmp_ge (tgt := 152) d_Mo_dealOn_111 (by decide) (fun c12 => ?_) (fun c12 => ?_)
  · rw [if_pos c12] at h
    refine g_aload_n d_Mo_dealOn_152 rfl 1 rfl ?_
    refine g_iconst (v := 2) d_Mo_dealOn_153 (by decide) ?_
    refine g_aload_n d_Mo_dealOn_154 rfl 1 rfl ?_
    refine g_iconst (v := 0) d_Mo_dealOn_155 (by decide) ?_
    obtain ⟨v2, hv2, h⟩ := gOb h
    refine g_iaload d_Mo_dealOn_156 h0 hv2 ?_
    refine g_iconst (v := 4) d_Mo_dealOn_157 (by decide) ?_
    refine g_rem d_Mo_dealOn_158 (by decide) ?_
    obtain ⟨M3, hM3, h⟩ := gOb h
    refine g_iastore d_Mo_dealOn_159 h0 hM3 ?_
    refine g_aload_n d_Mo_dealOn_160 rfl 1 rfl ?_
    refine g_iconst (v := 0) d_Mo_dealOn_161 (by decide) ?_
    refine g_dup2 d_Mo_dealOn_162 rfl rfl ?_
    obtain ⟨v4, hv4, h⟩ := gOb h
    refine g_iaload d_Mo_dealOn_163 h0 hv4 ?_
    refine g_iconst (v := 1) d_Mo_dealOn_164 (by decide) ?_
    refine g_iadd d_Mo_dealOn_165 ?_
    obtain ⟨M5, hM5, h⟩ := gOb h
    refine g_iastore d_Mo_dealOn_166 h0 hM5 ?_
    refine g_aload_n d_Mo_dealOn_167 rfl 1 rfl ?_
    refine g_iconst (v := 1) d_Mo_dealOn_168 (by decide) ?_
    refine g_iconst (v := 1) d_Mo_dealOn_169 (by decide) ?_
    obtain ⟨M6, hM6, h⟩ := gOb h
    refine g_iastore d_Mo_dealOn_170 h0 hM6 ?_
    refine g_aload_n d_Mo_dealOn_171 rfl 1 rfl ?_
    refine g_iconst (v := 0) d_Mo_dealOn_172 (by decide) ?_
    obtain ⟨v7, hv7, h⟩ := gOb h
    refine g_iaload d_Mo_dealOn_173 h0 hv7 ?_
    obtain rfl := Option.some.inj h
    have e9 := k2 _ rfl
    subst e9
    exact g_iret d_Mo_dealOn_174 rfl
  · rw [if_neg c12] at h
    refine g_aload_n d_Mo_dealOn_114 rfl 1 rfl ?_
    refine g_bipush (v := 21) d_Mo_dealOn_115 (by decide) ?_
    refine g_aload_n d_Mo_dealOn_117 rfl 0 rfl ?_
    refine g_getR d_Mo_dealOn_118 fl_Mo_31 (gMo_h0 hM) rfl ?_
    refine g_iload d_Mo_dealOn_121 2 rfl ?_
    obtain ⟨v8, hv8, h⟩ := gOb h
    refine g_iaload d_Mo_dealOn_123 (gMo_h8 hM) hv8 ?_
    refine g_iadd d_Mo_dealOn_124 ?_
    refine g_iload d_Mo_dealOn_125 2 rfl ?_
    refine g_iconst (v := 4) d_Mo_dealOn_127 (by decide) ?_
    refine g_rem d_Mo_dealOn_128 (by decide) ?_
    obtain ⟨M9, hM9, h⟩ := gOb h
    refine g_iastore d_Mo_dealOn_129 h0 hM9 ?_
    refine g_aload_n d_Mo_dealOn_130 rfl 1 rfl ?_
    refine g_bipush (v := 53) d_Mo_dealOn_131 (by decide) ?_
    refine g_aload_n d_Mo_dealOn_133 rfl 0 rfl ?_
    refine g_getR d_Mo_dealOn_134 fl_Mo_31 (gMo_h0 hM) rfl ?_
    refine g_iload d_Mo_dealOn_137 2 rfl ?_
    obtain ⟨v10, hv10, h⟩ := gOb h
    refine g_iaload d_Mo_dealOn_139 (gMo_h8 hM) hv10 ?_
    refine g_iadd d_Mo_dealOn_140 ?_
    refine g_iload d_Mo_dealOn_141 2 rfl ?_
    refine g_iconst (v := 4) d_Mo_dealOn_143 (by decide) ?_
    refine g_rem d_Mo_dealOn_144 (by decide) ?_
    obtain ⟨M11, hM11, h⟩ := gOb h
    refine g_iastore d_Mo_dealOn_145 h0 hM11 ?_
    refine g_iinc (v := (x6 + 1)) (L' := [(6, .int (x6 + 1)), (0, .ref (ε.2.2.1 19 0)), (1, .ref (ε.2.2.1 g0 c0))]) d_Mo_dealOn_146 (j := 2) rfl rfl (by decide) rfl ?_
    refine g_goto (tgt := 107) d_Mo_dealOn_149 (by decide) ?_
    refine gGo_sub [1, 2, 0] rfl ?_
    obtain rfl := Option.some.inj h
    exact k1 ((x6 + 1), M11) rfl
noncomputable def f_Mo_dealOn_l107 (g0 : Nat) (c0 : Nat) (n0 : Nat) (s : (Int32 × gMem)) : Option (Int32 × gMem) := gLp (fun s => f_Mo_dealOn_s107 g0 c0 n0 s.2 s.1) s
theorem t_Mo_dealOn_l107 {l : Launch} {ε : gEnv} (g0 : Nat) (c0 : Nat) (n0 : Nat) (hM : gMo ε) (h0 : gHas ε g0 c0 (0, n0, [])) (s : (Int32 × gMem)) (r : (Int32 × gMem)) (h : f_Mo_dealOn_l107 g0 c0 n0 s = some r) : gGo l ε k_Mo_dealOn (gR 1 21) (gFn ε (some (.int r.1)) r.2) 107 [(0, .ref (ε.2.2.1 19 0)), (1, .ref (ε.2.2.1 g0 c0)), (6, .int s.1)] [] s.2 :=
  g_loop _ (fun r s => gGo l ε k_Mo_dealOn (gR 1 21) (gFn ε (some (.int r.1)) r.2) 107 [(0, .ref (ε.2.2.1 19 0)), (1, .ref (ε.2.2.1 g0 c0)), (6, .int s.1)] [] s.2) (fun s res h r k1 k2 => t_Mo_dealOn_s107 g0 c0 n0 hM h0 s.2 s.1 res h r k1 k2) s r h
noncomputable def f_Mo_dealOn_s36 (g0 : Nat) (c0 : Nat) (n0 : Nat) (M : gMem) (x4 : Int64) (x6 : Int32) : Option ((Int64 × Int32 × gMem) ⊕ (Int32 × gMem)) :=
  if x6 ≤ 0 then
    (f_Mo_dealOn_l107 g0 c0 n0 (0, M)).map .inr
  else
    (gNz (x6 + 1)).bind fun _ =>
    (gRd 32 (M 19 8) x6).bind fun v14 =>
    (gRd 32 (M 19 8) (gRem (Int64.toInt32 (gUsh ((x4 * (6364136223846793005)) + (1442695040888963407)) 33)) (x6 + 1))).bind fun v15 =>
    (gWr M 19 8 32 x6 v15).bind fun M16 =>
    (gWr M16 19 8 32 (gRem (Int64.toInt32 (gUsh ((x4 * (6364136223846793005)) + (1442695040888963407)) 33)) (x6 + 1)) v14).bind fun M17 =>
    some (.inl (((x4 * (6364136223846793005)) + (1442695040888963407)), (x6 + (-1)), M17))
theorem t_Mo_dealOn_s36 {l : Launch} {ε : gEnv} (g0 : Nat) (c0 : Nat) (n0 : Nat) (hM : gMo ε) (h0 : gHas ε g0 c0 (0, n0, [])) (M : gMem) (x4 : Int64) (x6 : Int32) (res : ((Int64 × Int32 × gMem) ⊕ (Int32 × gMem))) (h : f_Mo_dealOn_s36 g0 c0 n0 M x4 x6 = some res) (r : (Int32 × gMem)) (k1 : ∀ s0 : (Int64 × Int32 × gMem), res = .inl s0 → gGo l ε k_Mo_dealOn (gR 1 21) (gFn ε (some (.int r.1)) r.2) 36 [(0, .ref (ε.2.2.1 19 0)), (1, .ref (ε.2.2.1 g0 c0)), (4, .long s0.1), (6, .int s0.2.1)] [] s0.2.2) (k2 : ∀ r', res = .inr r' → r' = r) : gGo l ε k_Mo_dealOn (gR 1 21) (gFn ε (some (.int r.1)) r.2) 36 [(0, .ref (ε.2.2.1 19 0)), (1, .ref (ε.2.2.1 g0 c0)), (4, .long x4), (6, .int x6)] [] M := by
  unfold f_Mo_dealOn_s36 at h
  refine g_iload d_Mo_dealOn_36 3 rfl ?_
  refine g_if_le (tgt := 104) d_Mo_dealOn_38 (by decide) (fun c18 => ?_) (fun c18 => ?_)
  · rw [if_pos c18] at h
    refine g_iconst (v := 0) d_Mo_dealOn_104 (by decide) ?_
    refine g_istore (L' := [(6, .int 0), (0, .ref (ε.2.2.1 19 0)), (1, .ref (ε.2.2.1 g0 c0)), (4, .long x4)]) d_Mo_dealOn_105 (by decide) rfl ?_
    refine gGo_sub [1, 2, 0] rfl ?_
    obtain ⟨r9, h9, h8⟩ := gOm h
    cases h8
    have e9 := k2 _ rfl
    subst e9
    exact t_Mo_dealOn_l107 g0 c0 n0 hM h0 (0, M) _ h9
  · rw [if_neg c18] at h
    refine g_lload d_Mo_dealOn_41 2 rfl ?_
    refine g_ldc2 d_Mo_dealOn_43 w_1063 ?_
    refine g_lmul d_Mo_dealOn_46 ?_
    refine g_ldc2 d_Mo_dealOn_47 w_1064 ?_
    refine g_ladd d_Mo_dealOn_50 ?_
    refine g_lstore (L' := [(4, .long ((x4 * (6364136223846793005)) + (1442695040888963407))), (0, .ref (ε.2.2.1 19 0)), (1, .ref (ε.2.2.1 g0 c0)), (6, .int x6)]) d_Mo_dealOn_51 (by decide) rfl ?_
    refine g_lload d_Mo_dealOn_53 0 rfl ?_
    refine g_bipush (v := 33) d_Mo_dealOn_55 (by decide) ?_
    refine g_ush d_Mo_dealOn_57 ?_
    refine g_l2i d_Mo_dealOn_58 ?_
    refine g_iload d_Mo_dealOn_59 3 rfl ?_
    refine g_iconst (v := 1) d_Mo_dealOn_61 (by decide) ?_
    refine g_iadd d_Mo_dealOn_62 ?_
    obtain ⟨z13, hz13, h⟩ := gOb h
    refine g_rem d_Mo_dealOn_63 (gNz_s hz13).2 ?_
    refine g_istore (L' := [(7, .int (gRem (Int64.toInt32 (gUsh ((x4 * (6364136223846793005)) + (1442695040888963407)) 33)) (x6 + 1))), (4, .long ((x4 * (6364136223846793005)) + (1442695040888963407))), (0, .ref (ε.2.2.1 19 0)), (1, .ref (ε.2.2.1 g0 c0)), (6, .int x6)]) d_Mo_dealOn_64 (by decide) rfl ?_
    refine g_aload_n d_Mo_dealOn_66 rfl 2 rfl ?_
    refine g_getR d_Mo_dealOn_67 fl_Mo_31 (gMo_h0 hM) rfl ?_
    refine g_iload d_Mo_dealOn_70 4 rfl ?_
    obtain ⟨v14, hv14, h⟩ := gOb h
    refine g_iaload d_Mo_dealOn_72 (gMo_h8 hM) hv14 ?_
    refine g_istore (L' := [(8, .int v14), (7, .int (gRem (Int64.toInt32 (gUsh ((x4 * (6364136223846793005)) + (1442695040888963407)) 33)) (x6 + 1))), (4, .long ((x4 * (6364136223846793005)) + (1442695040888963407))), (0, .ref (ε.2.2.1 19 0)), (1, .ref (ε.2.2.1 g0 c0)), (6, .int x6)]) d_Mo_dealOn_73 (by decide) rfl ?_
    refine g_aload_n d_Mo_dealOn_75 rfl 3 rfl ?_
    refine g_getR d_Mo_dealOn_76 fl_Mo_31 (gMo_h0 hM) rfl ?_
    refine g_iload d_Mo_dealOn_79 5 rfl ?_
    refine g_aload_n d_Mo_dealOn_81 rfl 3 rfl ?_
    refine g_getR d_Mo_dealOn_82 fl_Mo_31 (gMo_h0 hM) rfl ?_
    refine g_iload d_Mo_dealOn_85 1 rfl ?_
    obtain ⟨v15, hv15, h⟩ := gOb h
    refine g_iaload d_Mo_dealOn_87 (gMo_h8 hM) hv15 ?_
    obtain ⟨M16, hM16, h⟩ := gOb h
    refine g_iastore d_Mo_dealOn_88 (gMo_h8 hM) hM16 ?_
    refine g_aload_n d_Mo_dealOn_89 rfl 3 rfl ?_
    refine g_getR d_Mo_dealOn_90 fl_Mo_31 (gMo_h0 hM) rfl ?_
    refine g_iload d_Mo_dealOn_93 1 rfl ?_
    refine g_iload d_Mo_dealOn_95 0 rfl ?_
    obtain ⟨M17, hM17, h⟩ := gOb h
    refine g_iastore d_Mo_dealOn_97 (gMo_h8 hM) hM17 ?_
    refine g_iinc (v := (x6 + (-1))) (L' := [(6, .int (x6 + (-1))), (8, .int v14), (7, .int (gRem (Int64.toInt32 (gUsh ((x4 * (6364136223846793005)) + (1442695040888963407)) 33)) (x6 + 1))), (4, .long ((x4 * (6364136223846793005)) + (1442695040888963407))), (0, .ref (ε.2.2.1 19 0)), (1, .ref (ε.2.2.1 g0 c0))]) d_Mo_dealOn_98 (j := 5) rfl rfl (by decide) rfl ?_
    refine g_goto (tgt := 36) d_Mo_dealOn_101 (by decide) ?_
    refine gGo_sub [4, 5, 3, 0] rfl ?_
    obtain rfl := Option.some.inj h
    exact k1 (((x4 * (6364136223846793005)) + (1442695040888963407)), (x6 + (-1)), M17) rfl
noncomputable def f_Mo_dealOn_l36 (g0 : Nat) (c0 : Nat) (n0 : Nat) (s : (Int64 × Int32 × gMem)) : Option (Int32 × gMem) := gLp (fun s => f_Mo_dealOn_s36 g0 c0 n0 s.2.2 s.1 s.2.1) s
theorem t_Mo_dealOn_l36 {l : Launch} {ε : gEnv} (g0 : Nat) (c0 : Nat) (n0 : Nat) (hM : gMo ε) (h0 : gHas ε g0 c0 (0, n0, [])) (s : (Int64 × Int32 × gMem)) (r : (Int32 × gMem)) (h : f_Mo_dealOn_l36 g0 c0 n0 s = some r) : gGo l ε k_Mo_dealOn (gR 1 21) (gFn ε (some (.int r.1)) r.2) 36 [(0, .ref (ε.2.2.1 19 0)), (1, .ref (ε.2.2.1 g0 c0)), (4, .long s.1), (6, .int s.2.1)] [] s.2.2 :=
  g_loop _ (fun r s => gGo l ε k_Mo_dealOn (gR 1 21) (gFn ε (some (.int r.1)) r.2) 36 [(0, .ref (ε.2.2.1 19 0)), (1, .ref (ε.2.2.1 g0 c0)), (4, .long s.1), (6, .int s.2.1)] [] s.2.2) (fun s res h r k1 k2 => t_Mo_dealOn_s36 g0 c0 n0 hM h0 s.2.2 s.1 s.2.1 res h r k1 k2) s r h
noncomputable def f_Mo_dealOn_s7 (g0 : Nat) (c0 : Nat) (n0 : Nat) (M : gMem) (x2 : Int64) (x4 : Int32) : Option ((Int32 × gMem) ⊕ (Int32 × gMem)) :=
  if 32 ≤ x4 then
    (f_Mo_dealOn_l36 g0 c0 n0 (x2, 31, M)).map .inr
  else
    (gWr M 19 8 32 x4 x4).bind fun M19 =>
    some (.inl ((x4 + 1), M19))
theorem t_Mo_dealOn_s7 {l : Launch} {ε : gEnv} (g0 : Nat) (c0 : Nat) (n0 : Nat) (hM : gMo ε) (h0 : gHas ε g0 c0 (0, n0, [])) (M : gMem) (x2 : Int64) (x4 : Int32) (res : ((Int32 × gMem) ⊕ (Int32 × gMem))) (h : f_Mo_dealOn_s7 g0 c0 n0 M x2 x4 = some res) (r : (Int32 × gMem)) (k1 : ∀ s0 : (Int32 × gMem), res = .inl s0 → gGo l ε k_Mo_dealOn (gR 1 21) (gFn ε (some (.int r.1)) r.2) 7 [(0, .ref (ε.2.2.1 19 0)), (1, .ref (ε.2.2.1 g0 c0)), (2, .long x2), (4, .int s0.1)] [] s0.2) (k2 : ∀ r', res = .inr r' → r' = r) : gGo l ε k_Mo_dealOn (gR 1 21) (gFn ε (some (.int r.1)) r.2) 7 [(0, .ref (ε.2.2.1 19 0)), (1, .ref (ε.2.2.1 g0 c0)), (2, .long x2), (4, .int x4)] [] M := by
  unfold f_Mo_dealOn_s7 at h
  refine g_iload d_Mo_dealOn_7 3 rfl ?_
  refine g_bipush (v := 32) d_Mo_dealOn_9 (by decide) ?_
  refine g_icmp_ge (tgt := 29) d_Mo_dealOn_11 (by decide) (fun c20 => ?_) (fun c20 => ?_)
  · rw [if_pos c20] at h
    refine g_lload_n d_Mo_dealOn_29 rfl 2 rfl ?_
    refine g_lstore (L' := [(4, .long x2), (0, .ref (ε.2.2.1 19 0)), (1, .ref (ε.2.2.1 g0 c0)), (2, .long x2)]) d_Mo_dealOn_30 (by decide) rfl ?_
    refine g_bipush (v := 31) d_Mo_dealOn_32 (by decide) ?_
    refine g_istore (L' := [(6, .int 31), (4, .long x2), (0, .ref (ε.2.2.1 19 0)), (1, .ref (ε.2.2.1 g0 c0)), (2, .long x2)]) d_Mo_dealOn_34 (by decide) rfl ?_
    refine gGo_sub [2, 3, 1, 0] rfl ?_
    obtain ⟨r9, h9, h8⟩ := gOm h
    cases h8
    have e9 := k2 _ rfl
    subst e9
    exact t_Mo_dealOn_l36 g0 c0 n0 hM h0 (x2, 31, M) _ h9
  · rw [if_neg c20] at h
    refine g_aload_n d_Mo_dealOn_14 rfl 0 rfl ?_
    refine g_getR d_Mo_dealOn_15 fl_Mo_31 (gMo_h0 hM) rfl ?_
    refine g_iload d_Mo_dealOn_18 3 rfl ?_
    refine g_iload d_Mo_dealOn_20 3 rfl ?_
    obtain ⟨M19, hM19, h⟩ := gOb h
    refine g_iastore d_Mo_dealOn_22 (gMo_h8 hM) hM19 ?_
    refine g_iinc (v := (x4 + 1)) (L' := [(4, .int (x4 + 1)), (0, .ref (ε.2.2.1 19 0)), (1, .ref (ε.2.2.1 g0 c0)), (2, .long x2)]) d_Mo_dealOn_23 (j := 3) rfl rfl (by decide) rfl ?_
    refine g_goto (tgt := 7) d_Mo_dealOn_26 (by decide) ?_
    refine gGo_sub [1, 2, 3, 0] rfl ?_
    obtain rfl := Option.some.inj h
    exact k1 ((x4 + 1), M19) rfl
noncomputable def f_Mo_dealOn_l7 (g0 : Nat) (c0 : Nat) (n0 : Nat) (x2 : Int64) (s : (Int32 × gMem)) : Option (Int32 × gMem) := gLp (fun s => f_Mo_dealOn_s7 g0 c0 n0 s.2 x2 s.1) s
theorem t_Mo_dealOn_l7 {l : Launch} {ε : gEnv} (g0 : Nat) (c0 : Nat) (n0 : Nat) (hM : gMo ε) (h0 : gHas ε g0 c0 (0, n0, [])) (x2 : Int64) (s : (Int32 × gMem)) (r : (Int32 × gMem)) (h : f_Mo_dealOn_l7 g0 c0 n0 x2 s = some r) : gGo l ε k_Mo_dealOn (gR 1 21) (gFn ε (some (.int r.1)) r.2) 7 [(0, .ref (ε.2.2.1 19 0)), (1, .ref (ε.2.2.1 g0 c0)), (2, .long x2), (4, .int s.1)] [] s.2 :=
  g_loop _ (fun r s => gGo l ε k_Mo_dealOn (gR 1 21) (gFn ε (some (.int r.1)) r.2) 7 [(0, .ref (ε.2.2.1 19 0)), (1, .ref (ε.2.2.1 g0 c0)), (2, .long x2), (4, .int s.1)] [] s.2) (fun s res h r k1 k2 => t_Mo_dealOn_s7 g0 c0 n0 hM h0 s.2 x2 s.1 res h r k1 k2) s r h
noncomputable def f_Mo_dealOn (g0 : Nat) (c0 : Nat) (n0 : Nat) (M : gMem) (a1 : Int64) : Option (Int32 × gMem) :=
  (f_Mo_noDeal g0 c0 n0 M).bind fun q1 =>
  f_Mo_dealOn_l7 g0 c0 n0 a1 (0, q1)
theorem t_Mo_dealOn {l : Launch} {ε : gEnv} (g0 : Nat) (c0 : Nat) (n0 : Nat) (hM : gMo ε) (h0 : gHas ε g0 c0 (0, n0, [])) (M : gMem) (a1 : Int64) (r : (Int32 × gMem)) (h : f_Mo_dealOn g0 c0 n0 M a1 = some r) : gGo l ε k_Mo_dealOn (gR 1 21) (gFn ε (some (.int r.1)) r.2) 0 [(0, .ref (ε.2.2.1 19 0)), (1, .ref (ε.2.2.1 g0 c0)), (2, .long a1)] [] M := by
  unfold f_Mo_dealOn at h
  refine g_aload_n d_Mo_dealOn_0 rfl 1 rfl ?_
  obtain ⟨q1, hq1, h⟩ := gOb h
  refine g_callS_v (As := [.ref (ε.2.2.1 g0 c0)]) (rest := []) (ct_Mo_noDeal g0 c0 n0 h0 M _ hq1) d_Mo_dealOn_1 ca_Mo_noDeal w_970 rfl rfl (Nat.le_of_ble_eq_true rfl) ⟨(Nat.le_of_ble_eq_true rfl), (Nat.le_of_ble_eq_true rfl)⟩ ?_
  refine g_iconst (v := 0) d_Mo_dealOn_4 (by decide) ?_
  refine g_istore (L' := [(4, .int 0), (0, .ref (ε.2.2.1 19 0)), (1, .ref (ε.2.2.1 g0 c0)), (2, .long a1)]) d_Mo_dealOn_5 (by decide) rfl ?_
  refine gGo_sub [1, 2, 3, 0] rfl ?_
  exact t_Mo_dealOn_l7 g0 c0 n0 hM h0 a1 (0, q1) _ h
theorem ct_Mo_dealOn {l : Launch} {ε : gEnv} (hM : gMo ε) (g0 : Nat) (c0 : Nat) (n0 : Nat) (h0 : gHas ε g0 c0 (0, n0, [])) (M : gMem) (a1 : Int64) (r : (Int32 × gMem)) (h : f_Mo_dealOn g0 c0 n0 M a1 = some r) : gCt l ε k_Mo_dealOn 1 21 [.ref (ε.2.2.1 19 0), .ref (ε.2.2.1 g0 c0), .long a1] M (some (.int r.1)) r.2 :=
  gCt_of (by decide) (Nat.le_of_ble_eq_true rfl) rfl (t_Mo_dealOn g0 c0 n0 hM h0 M a1 r h)
abbrev k_Mo_isBid : gMD := (⟨"DropSignalsModel", "isBid", "(II)Z"⟩, prog_11_method_20_code, 2, (some .boolean))
theorem w_1173 : Cond.static ⟨"DropSignalsModel", "isBid", "(II)Z"⟩ ∈ gWs := gWs_in (i := 1173) (by decide +kernel) rfl
set_option maxRecDepth 100000 in
theorem ca_Mo_isBid : gCaS k_Mo_isBid 2 := ⟨⟨gWs_in (i := 1174) rfl rfl, w_43, by decide, by decide, by decide +kernel⟩, w_1173⟩
theorem d_Mo_isBid_0 : decode prog_11_method_20_code 0 = .ok (.iload_n 0, 1) := by decide +kernel
theorem d_Mo_isBid_1 : decode prog_11_method_20_code 1 = .ok (.i2l, 1) := by decide +kernel
theorem d_Mo_isBid_2 : decode prog_11_method_20_code 2 = .ok (.lconst 1, 1) := by decide +kernel
theorem d_Mo_isBid_3 : decode prog_11_method_20_code 3 = .ok (.ldc2_w 82, 3) := by decide +kernel
theorem d_Mo_isBid_6 : decode prog_11_method_20_code 6 = .ok (.invokestatic 84, 3) := by decide +kernel
theorem d_Mo_isBid_9 : decode prog_11_method_20_code 9 = .ok (.ifCond .eq 19, 3) := by decide +kernel
theorem d_Mo_isBid_12 : decode prog_11_method_20_code 12 = .ok (.iload_n 1, 1) := by decide +kernel
theorem d_Mo_isBid_13 : decode prog_11_method_20_code 13 = .ok (.i2l, 1) := by decide +kernel
theorem d_Mo_isBid_14 : decode prog_11_method_20_code 14 = .ok (.lconst 0, 1) := by decide +kernel
theorem d_Mo_isBid_15 : decode prog_11_method_20_code 15 = .ok (.ldc2_w 82, 3) := by decide +kernel
theorem d_Mo_isBid_18 : decode prog_11_method_20_code 18 = .ok (.invokestatic 84, 3) := by decide +kernel
theorem d_Mo_isBid_21 : decode prog_11_method_20_code 21 = .ok (.ifCond .eq 7, 3) := by decide +kernel
theorem d_Mo_isBid_24 : decode prog_11_method_20_code 24 = .ok (.iconst 1, 1) := by decide +kernel
theorem d_Mo_isBid_25 : decode prog_11_method_20_code 25 = .ok (.goto 4, 3) := by decide +kernel
theorem d_Mo_isBid_28 : decode prog_11_method_20_code 28 = .ok (.iconst 0, 1) := by decide +kernel
theorem d_Mo_isBid_29 : decode prog_11_method_20_code 29 = .ok (.ireturn, 1) := by decide +kernel
theorem w_1175 : Cond.constantLong "DropSignalsModel" 82 (4) ∈ gWs := gWs_in (i := 1175) (by decide +kernel) rfl
theorem w_1031 : Cond.methodLink "DropSignalsModel" 84 ⟨"DropSignalsModel", "in", "(JJJ)Z"⟩ ∈ gWs := gWs_in (i := 1031) (by decide +kernel) rfl
noncomputable def f_Mo_isBid (a0 : Int32) (a1 : Int32) : Option Int32 :=
  (f_Mo_in (Int32.toInt64 a0) 1 (4)).bind fun q1 =>
  if q1 = 0 then
    some 0
  else
    (f_Mo_in (Int32.toInt64 a1) 0 (4)).bind fun q2 =>
    if q2 = 0 then
      some 0
    else
      some 1
theorem t_Mo_isBid {l : Launch} {ε : gEnv} (M : gMem) (a0 : Int32) (a1 : Int32) (r : Int32) (h : f_Mo_isBid a0 a1 = some r) : gGo l ε k_Mo_isBid (gR 1 25) (gFn ε (some (.int r)) M) 0 [(0, .int a0), (1, .int a1)] [] M := by
  unfold f_Mo_isBid at h
  refine g_iload_n d_Mo_isBid_0 rfl 0 rfl ?_
  refine g_i2l d_Mo_isBid_1 ?_
  refine g_lconst (v := 1) d_Mo_isBid_2 (by decide) ?_
  refine g_ldc2 d_Mo_isBid_3 w_1175 ?_
  obtain ⟨q1, hq1, h⟩ := gOb h
  refine g_callS_i (As := [.long (Int32.toInt64 a0), .long 1, .long (4)]) (rest := []) (ct_Mo_in M (Int32.toInt64 a0) 1 (4) _ hq1) d_Mo_isBid_6 ca_Mo_in w_1031 rfl rfl (Nat.le_of_ble_eq_true rfl) ⟨(Nat.le_of_ble_eq_true rfl), (Nat.le_of_ble_eq_true rfl)⟩ ?_
  refine g_if_eq (tgt := 28) d_Mo_isBid_9 (by decide) (fun c4 => ?_) (fun c4 => ?_)
  · rw [if_pos c4] at h
    refine g_iconst (v := 0) d_Mo_isBid_28 (by decide) ?_
    obtain rfl := Option.some.inj h
    exact g_zret d_Mo_isBid_29 rfl gZ0
  · rw [if_neg c4] at h
    refine g_iload_n d_Mo_isBid_12 rfl 1 rfl ?_
    refine g_i2l d_Mo_isBid_13 ?_
    refine g_lconst (v := 0) d_Mo_isBid_14 (by decide) ?_
    refine g_ldc2 d_Mo_isBid_15 w_1175 ?_
    obtain ⟨q2, hq2, h⟩ := gOb h
    refine g_callS_i (As := [.long (Int32.toInt64 a1), .long 0, .long (4)]) (rest := []) (ct_Mo_in M (Int32.toInt64 a1) 0 (4) _ hq2) d_Mo_isBid_18 ca_Mo_in w_1031 rfl rfl (Nat.le_of_ble_eq_true rfl) ⟨(Nat.le_of_ble_eq_true rfl), (Nat.le_of_ble_eq_true rfl)⟩ ?_
    refine g_if_eq (tgt := 28) d_Mo_isBid_21 (by decide) (fun c3 => ?_) (fun c3 => ?_)
    · rw [if_pos c3] at h
      refine g_iconst (v := 0) d_Mo_isBid_28 (by decide) ?_
      obtain rfl := Option.some.inj h
      exact g_zret d_Mo_isBid_29 rfl gZ0
    · rw [if_neg c3] at h
      refine g_iconst (v := 1) d_Mo_isBid_24 (by decide) ?_
      refine g_goto (tgt := 29) d_Mo_isBid_25 (by decide) ?_
      obtain rfl := Option.some.inj h
      exact g_zret d_Mo_isBid_29 rfl gZ1
theorem ct_Mo_isBid {l : Launch} {ε : gEnv} (M : gMem) (a0 : Int32) (a1 : Int32) (r : Int32) (h : f_Mo_isBid a0 a1 = some r) : gCt l ε k_Mo_isBid 1 25 [.int a0, .int a1] M (some (.int r)) M :=
  gCt_of (by decide) (Nat.le_of_ble_eq_true rfl) rfl (t_Mo_isBid M a0 a1 r h)
abbrev k_Mo_canBid : gMD := (⟨"DropSignalsModel", "canBid", "([III)Z"⟩, prog_11_method_21_code, 4, (some .boolean))
theorem w_1070 : Cond.static ⟨"DropSignalsModel", "canBid", "([III)Z"⟩ ∈ gWs := gWs_in (i := 1070) (by decide +kernel) rfl
set_option maxRecDepth 100000 in
theorem ca_Mo_canBid : gCaS k_Mo_canBid 3 := ⟨⟨gWs_in (i := 1071) rfl rfl, w_43, by decide, by decide, by decide +kernel⟩, w_1070⟩
theorem d_Mo_canBid_0 : decode prog_11_method_21_code 0 = .ok (.aload_n 0, 1) := by decide +kernel
theorem d_Mo_canBid_1 : decode prog_11_method_21_code 1 = .ok (.iconst 3, 1) := by decide +kernel
theorem d_Mo_canBid_2 : decode prog_11_method_21_code 2 = .ok (.iaload, 1) := by decide +kernel
theorem d_Mo_canBid_3 : decode prog_11_method_21_code 3 = .ok (.ifCond .ne 7, 3) := by decide +kernel
theorem d_Mo_canBid_6 : decode prog_11_method_21_code 6 = .ok (.iconst (-1), 1) := by decide +kernel
theorem d_Mo_canBid_7 : decode prog_11_method_21_code 7 = .ok (.goto 18, 3) := by decide +kernel
theorem d_Mo_canBid_10 : decode prog_11_method_21_code 10 = .ok (.iconst 5, 1) := by decide +kernel
theorem d_Mo_canBid_11 : decode prog_11_method_21_code 11 = .ok (.aload_n 0, 1) := by decide +kernel
theorem d_Mo_canBid_12 : decode prog_11_method_21_code 12 = .ok (.iconst 3, 1) := by decide +kernel
theorem d_Mo_canBid_13 : decode prog_11_method_21_code 13 = .ok (.iaload, 1) := by decide +kernel
theorem d_Mo_canBid_14 : decode prog_11_method_21_code 14 = .ok (.bipush 10, 2) := by decide +kernel
theorem d_Mo_canBid_16 : decode prog_11_method_21_code 16 = .ok (.idiv, 1) := by decide +kernel
theorem d_Mo_canBid_17 : decode prog_11_method_21_code 17 = .ok (.imul, 1) := by decide +kernel
theorem d_Mo_canBid_18 : decode prog_11_method_21_code 18 = .ok (.aload_n 0, 1) := by decide +kernel
theorem d_Mo_canBid_19 : decode prog_11_method_21_code 19 = .ok (.iconst 3, 1) := by decide +kernel
theorem d_Mo_canBid_20 : decode prog_11_method_21_code 20 = .ok (.iaload, 1) := by decide +kernel
theorem d_Mo_canBid_21 : decode prog_11_method_21_code 21 = .ok (.bipush 10, 2) := by decide +kernel
theorem d_Mo_canBid_23 : decode prog_11_method_21_code 23 = .ok (.irem, 1) := by decide +kernel
theorem d_Mo_canBid_24 : decode prog_11_method_21_code 24 = .ok (.iadd, 1) := by decide +kernel
theorem d_Mo_canBid_25 : decode prog_11_method_21_code 25 = .ok (.istore_n 3, 1) := by decide +kernel
theorem d_Mo_canBid_26 : decode prog_11_method_21_code 26 = .ok (.aload_n 0, 1) := by decide +kernel
theorem d_Mo_canBid_27 : decode prog_11_method_21_code 27 = .ok (.iconst 1, 1) := by decide +kernel
theorem d_Mo_canBid_28 : decode prog_11_method_21_code 28 = .ok (.iaload, 1) := by decide +kernel
theorem d_Mo_canBid_29 : decode prog_11_method_21_code 29 = .ok (.iconst 1, 1) := by decide +kernel
theorem d_Mo_canBid_30 : decode prog_11_method_21_code 30 = .ok (.if_icmp .ne 16, 3) := by decide +kernel
theorem d_Mo_canBid_33 : decode prog_11_method_21_code 33 = .ok (.iconst 5, 1) := by decide +kernel
theorem d_Mo_canBid_34 : decode prog_11_method_21_code 34 = .ok (.iload_n 1, 1) := by decide +kernel
theorem d_Mo_canBid_35 : decode prog_11_method_21_code 35 = .ok (.imul, 1) := by decide +kernel
theorem d_Mo_canBid_36 : decode prog_11_method_21_code 36 = .ok (.iload_n 2, 1) := by decide +kernel
theorem d_Mo_canBid_37 : decode prog_11_method_21_code 37 = .ok (.iadd, 1) := by decide +kernel
theorem d_Mo_canBid_38 : decode prog_11_method_21_code 38 = .ok (.iload_n 3, 1) := by decide +kernel
theorem d_Mo_canBid_39 : decode prog_11_method_21_code 39 = .ok (.if_icmp .le 7, 3) := by decide +kernel
theorem d_Mo_canBid_42 : decode prog_11_method_21_code 42 = .ok (.iconst 1, 1) := by decide +kernel
theorem d_Mo_canBid_43 : decode prog_11_method_21_code 43 = .ok (.goto 4, 3) := by decide +kernel
theorem d_Mo_canBid_46 : decode prog_11_method_21_code 46 = .ok (.iconst 0, 1) := by decide +kernel
theorem d_Mo_canBid_47 : decode prog_11_method_21_code 47 = .ok (.ireturn, 1) := by decide +kernel
noncomputable def f_Mo_canBid_b25 (g0 : Nat) (c0 : Nat) (n0 : Nat) (M : gMem) (x1 : Int32) (x2 : Int32) (s0 : Int32) : Option Int32 :=
  (gRd n0 (M g0 c0) 1).bind fun v4 =>
  if v4 = 1 then
    if ((5 * x1) + x2) ≤ s0 then
      some 0
    else
      some 1
  else
    some 0
theorem t_Mo_canBid_b25 {l : Launch} {ε : gEnv} (g0 : Nat) (c0 : Nat) (n0 : Nat) (h0 : gHas ε g0 c0 (0, n0, [])) (M : gMem) (x1 : Int32) (x2 : Int32) (s0 : Int32) (r : Int32) (h : f_Mo_canBid_b25 g0 c0 n0 M x1 x2 s0 = some r) : gGo l ε k_Mo_canBid (gR 0 0) (gFn ε (some (.int r)) M) 25 [(0, .ref (ε.2.2.1 g0 c0)), (1, .int x1), (2, .int x2)] [.int s0] M := by
  unfold f_Mo_canBid_b25 at h
  refine g_istore_n (L' := [(3, .int s0), (0, .ref (ε.2.2.1 g0 c0)), (1, .int x1), (2, .int x2)]) d_Mo_canBid_25 rfl (by decide) rfl ?_
  refine g_aload_n d_Mo_canBid_26 rfl 1 rfl ?_
  refine g_iconst (v := 1) d_Mo_canBid_27 (by decide) ?_
  obtain ⟨v4, hv4, h⟩ := gOb h
  refine g_iaload d_Mo_canBid_28 h0 hv4 ?_
  refine g_iconst (v := 1) d_Mo_canBid_29 (by decide) ?_
  refine g_icmp_ne (tgt := 46) d_Mo_canBid_30 (by decide) (fun c6 => ?_) (fun c6 => ?_)
  · rw [if_neg c6] at h
    refine g_iconst (v := 0) d_Mo_canBid_46 (by decide) ?_
    obtain rfl := Option.some.inj h
    exact g_zret d_Mo_canBid_47 rfl gZ0
  · rw [if_pos c6] at h
    refine g_iconst (v := 5) d_Mo_canBid_33 (by decide) ?_
    refine g_iload_n d_Mo_canBid_34 rfl 2 rfl ?_
    refine g_imul d_Mo_canBid_35 ?_
    refine g_iload_n d_Mo_canBid_36 rfl 3 rfl ?_
    refine g_iadd d_Mo_canBid_37 ?_
    refine g_iload_n d_Mo_canBid_38 rfl 0 rfl ?_
    refine g_icmp_le (tgt := 46) d_Mo_canBid_39 (by decide) (fun c5 => ?_) (fun c5 => ?_)
    · rw [if_pos c5] at h
      refine g_iconst (v := 0) d_Mo_canBid_46 (by decide) ?_
      obtain rfl := Option.some.inj h
      exact g_zret d_Mo_canBid_47 rfl gZ0
    · rw [if_neg c5] at h
      refine g_iconst (v := 1) d_Mo_canBid_42 (by decide) ?_
      refine g_goto (tgt := 47) d_Mo_canBid_43 (by decide) ?_
      obtain rfl := Option.some.inj h
      exact g_zret d_Mo_canBid_47 rfl gZ1
noncomputable def f_Mo_canBid (g0 : Nat) (c0 : Nat) (n0 : Nat) (M : gMem) (a1 : Int32) (a2 : Int32) : Option Int32 :=
  (gRd n0 (M g0 c0) 3).bind fun v1 =>
  if v1 = 0 then
    f_Mo_canBid_b25 g0 c0 n0 M a1 a2 (-1)
  else
    (gRd n0 (M g0 c0) 3).bind fun v2 =>
    (gRd n0 (M g0 c0) 3).bind fun v3 =>
    f_Mo_canBid_b25 g0 c0 n0 M a1 a2 ((5 * (v2 / 10)) + (gRem v3 10))
theorem t_Mo_canBid {l : Launch} {ε : gEnv} (g0 : Nat) (c0 : Nat) (n0 : Nat) (h0 : gHas ε g0 c0 (0, n0, [])) (M : gMem) (a1 : Int32) (a2 : Int32) (r : Int32) (h : f_Mo_canBid g0 c0 n0 M a1 a2 = some r) : gGo l ε k_Mo_canBid (gR 0 0) (gFn ε (some (.int r)) M) 0 [(0, .ref (ε.2.2.1 g0 c0)), (1, .int a1), (2, .int a2)] [] M := by
  unfold f_Mo_canBid at h
  refine g_aload_n d_Mo_canBid_0 rfl 0 rfl ?_
  refine g_iconst (v := 3) d_Mo_canBid_1 (by decide) ?_
  obtain ⟨v1, hv1, h⟩ := gOb h
  refine g_iaload d_Mo_canBid_2 h0 hv1 ?_
  refine g_if_ne (tgt := 10) d_Mo_canBid_3 (by decide) (fun c7 => ?_) (fun c7 => ?_)
  · rw [if_neg c7] at h
    refine g_iconst (v := 5) d_Mo_canBid_10 (by decide) ?_
    refine g_aload_n d_Mo_canBid_11 rfl 0 rfl ?_
    refine g_iconst (v := 3) d_Mo_canBid_12 (by decide) ?_
    obtain ⟨v2, hv2, h⟩ := gOb h
    refine g_iaload d_Mo_canBid_13 h0 hv2 ?_
    refine g_bipush (v := 10) d_Mo_canBid_14 (by decide) ?_
    refine g_idiv d_Mo_canBid_16 (by decide) ?_
    refine g_imul d_Mo_canBid_17 ?_
    refine g_aload_n d_Mo_canBid_18 rfl 0 rfl ?_
    refine g_iconst (v := 3) d_Mo_canBid_19 (by decide) ?_
    obtain ⟨v3, hv3, h⟩ := gOb h
    refine g_iaload d_Mo_canBid_20 h0 hv3 ?_
    refine g_bipush (v := 10) d_Mo_canBid_21 (by decide) ?_
    refine g_rem d_Mo_canBid_23 (by decide) ?_
    refine g_iadd d_Mo_canBid_24 ?_
    exact t_Mo_canBid_b25 g0 c0 n0 h0 M a1 a2 ((5 * (v2 / 10)) + (gRem v3 10)) _ h
  · rw [if_pos c7] at h
    refine g_iconst (v := -1) d_Mo_canBid_6 (by decide) ?_
    refine g_goto (tgt := 25) d_Mo_canBid_7 (by decide) ?_
    exact t_Mo_canBid_b25 g0 c0 n0 h0 M a1 a2 (-1) _ h
theorem ct_Mo_canBid {l : Launch} {ε : gEnv} (g0 : Nat) (c0 : Nat) (n0 : Nat) (h0 : gHas ε g0 c0 (0, n0, [])) (M : gMem) (a1 : Int32) (a2 : Int32) (r : Int32) (h : f_Mo_canBid g0 c0 n0 M a1 a2 = some r) : gCt l ε k_Mo_canBid 0 0 [.ref (ε.2.2.1 g0 c0), .int a1, .int a2] M (some (.int r)) M :=
  gCt_of (by decide) (Nat.le_of_ble_eq_true rfl) rfl (t_Mo_canBid g0 c0 n0 h0 M a1 a2 r h)
abbrev k_Mo_bidOn : gMD := (⟨"DropSignalsModel", "bidOn", "([III)I"⟩, prog_11_method_22_code, 3, (some .int))
theorem w_1073 : Cond.static ⟨"DropSignalsModel", "bidOn", "([III)I"⟩ ∈ gWs := gWs_in (i := 1073) (by decide +kernel) rfl
set_option maxRecDepth 100000 in
theorem ca_Mo_bidOn : gCaS k_Mo_bidOn 3 := ⟨⟨gWs_in (i := 1074) rfl rfl, w_43, by decide, by decide, by decide +kernel⟩, w_1073⟩
theorem d_Mo_bidOn_0 : decode prog_11_method_22_code 0 = .ok (.aload_n 0, 1) := by decide +kernel
theorem d_Mo_bidOn_1 : decode prog_11_method_22_code 1 = .ok (.iconst 3, 1) := by decide +kernel
theorem d_Mo_bidOn_2 : decode prog_11_method_22_code 2 = .ok (.bipush 10, 2) := by decide +kernel
theorem d_Mo_bidOn_4 : decode prog_11_method_22_code 4 = .ok (.iload_n 1, 1) := by decide +kernel
theorem d_Mo_bidOn_5 : decode prog_11_method_22_code 5 = .ok (.imul, 1) := by decide +kernel
theorem d_Mo_bidOn_6 : decode prog_11_method_22_code 6 = .ok (.iload_n 2, 1) := by decide +kernel
theorem d_Mo_bidOn_7 : decode prog_11_method_22_code 7 = .ok (.iadd, 1) := by decide +kernel
theorem d_Mo_bidOn_8 : decode prog_11_method_22_code 8 = .ok (.iastore, 1) := by decide +kernel
theorem d_Mo_bidOn_9 : decode prog_11_method_22_code 9 = .ok (.aload_n 0, 1) := by decide +kernel
theorem d_Mo_bidOn_10 : decode prog_11_method_22_code 10 = .ok (.bipush 13, 2) := by decide +kernel
theorem d_Mo_bidOn_12 : decode prog_11_method_22_code 12 = .ok (.aload_n 0, 1) := by decide +kernel
theorem d_Mo_bidOn_13 : decode prog_11_method_22_code 13 = .ok (.iconst 2, 1) := by decide +kernel
theorem d_Mo_bidOn_14 : decode prog_11_method_22_code 14 = .ok (.iaload, 1) := by decide +kernel
theorem d_Mo_bidOn_15 : decode prog_11_method_22_code 15 = .ok (.iastore, 1) := by decide +kernel
theorem d_Mo_bidOn_16 : decode prog_11_method_22_code 16 = .ok (.aload_n 0, 1) := by decide +kernel
theorem d_Mo_bidOn_17 : decode prog_11_method_22_code 17 = .ok (.bipush 12, 2) := by decide +kernel
theorem d_Mo_bidOn_19 : decode prog_11_method_22_code 19 = .ok (.iconst 0, 1) := by decide +kernel
theorem d_Mo_bidOn_20 : decode prog_11_method_22_code 20 = .ok (.iastore, 1) := by decide +kernel
theorem d_Mo_bidOn_21 : decode prog_11_method_22_code 21 = .ok (.aload_n 0, 1) := by decide +kernel
theorem d_Mo_bidOn_22 : decode prog_11_method_22_code 22 = .ok (.iconst 2, 1) := by decide +kernel
theorem d_Mo_bidOn_23 : decode prog_11_method_22_code 23 = .ok (.aload_n 0, 1) := by decide +kernel
theorem d_Mo_bidOn_24 : decode prog_11_method_22_code 24 = .ok (.iconst 2, 1) := by decide +kernel
theorem d_Mo_bidOn_25 : decode prog_11_method_22_code 25 = .ok (.iaload, 1) := by decide +kernel
theorem d_Mo_bidOn_26 : decode prog_11_method_22_code 26 = .ok (.iconst 1, 1) := by decide +kernel
theorem d_Mo_bidOn_27 : decode prog_11_method_22_code 27 = .ok (.iadd, 1) := by decide +kernel
theorem d_Mo_bidOn_28 : decode prog_11_method_22_code 28 = .ok (.iconst 4, 1) := by decide +kernel
theorem d_Mo_bidOn_29 : decode prog_11_method_22_code 29 = .ok (.irem, 1) := by decide +kernel
theorem d_Mo_bidOn_30 : decode prog_11_method_22_code 30 = .ok (.iastore, 1) := by decide +kernel
theorem d_Mo_bidOn_31 : decode prog_11_method_22_code 31 = .ok (.aload_n 0, 1) := by decide +kernel
theorem d_Mo_bidOn_32 : decode prog_11_method_22_code 32 = .ok (.iconst 2, 1) := by decide +kernel
theorem d_Mo_bidOn_33 : decode prog_11_method_22_code 33 = .ok (.iaload, 1) := by decide +kernel
theorem d_Mo_bidOn_34 : decode prog_11_method_22_code 34 = .ok (.ireturn, 1) := by decide +kernel
noncomputable def f_Mo_bidOn (g0 : Nat) (c0 : Nat) (n0 : Nat) (M : gMem) (a1 : Int32) (a2 : Int32) : Option (Int32 × gMem) :=
  (gWr M g0 c0 n0 3 ((10 * a1) + a2)).bind fun M1 =>
  (gRd n0 (M1 g0 c0) 2).bind fun v2 =>
  (gWr M1 g0 c0 n0 13 v2).bind fun M3 =>
  (gWr M3 g0 c0 n0 12 0).bind fun M4 =>
  (gRd n0 (M4 g0 c0) 2).bind fun v5 =>
  (gWr M4 g0 c0 n0 2 (gRem (v5 + 1) 4)).bind fun M6 =>
  (gRd n0 (M6 g0 c0) 2).bind fun v7 =>
  some (v7, M6)
theorem t_Mo_bidOn {l : Launch} {ε : gEnv} (g0 : Nat) (c0 : Nat) (n0 : Nat) (h0 : gHas ε g0 c0 (0, n0, [])) (M : gMem) (a1 : Int32) (a2 : Int32) (r : (Int32 × gMem)) (h : f_Mo_bidOn g0 c0 n0 M a1 a2 = some r) : gGo l ε k_Mo_bidOn (gR 0 0) (gFn ε (some (.int r.1)) r.2) 0 [(0, .ref (ε.2.2.1 g0 c0)), (1, .int a1), (2, .int a2)] [] M := by
  unfold f_Mo_bidOn at h
  refine g_aload_n d_Mo_bidOn_0 rfl 0 rfl ?_
  refine g_iconst (v := 3) d_Mo_bidOn_1 (by decide) ?_
  refine g_bipush (v := 10) d_Mo_bidOn_2 (by decide) ?_
  refine g_iload_n d_Mo_bidOn_4 rfl 1 rfl ?_
  refine g_imul d_Mo_bidOn_5 ?_
  refine g_iload_n d_Mo_bidOn_6 rfl 2 rfl ?_
  refine g_iadd d_Mo_bidOn_7 ?_
  obtain ⟨M1, hM1, h⟩ := gOb h
  refine g_iastore d_Mo_bidOn_8 h0 hM1 ?_
  refine g_aload_n d_Mo_bidOn_9 rfl 0 rfl ?_
  refine g_bipush (v := 13) d_Mo_bidOn_10 (by decide) ?_
  refine g_aload_n d_Mo_bidOn_12 rfl 0 rfl ?_
  refine g_iconst (v := 2) d_Mo_bidOn_13 (by decide) ?_
  obtain ⟨v2, hv2, h⟩ := gOb h
  refine g_iaload d_Mo_bidOn_14 h0 hv2 ?_
  obtain ⟨M3, hM3, h⟩ := gOb h
  refine g_iastore d_Mo_bidOn_15 h0 hM3 ?_
  refine g_aload_n d_Mo_bidOn_16 rfl 0 rfl ?_
  refine g_bipush (v := 12) d_Mo_bidOn_17 (by decide) ?_
  refine g_iconst (v := 0) d_Mo_bidOn_19 (by decide) ?_
  obtain ⟨M4, hM4, h⟩ := gOb h
  refine g_iastore d_Mo_bidOn_20 h0 hM4 ?_
  refine g_aload_n d_Mo_bidOn_21 rfl 0 rfl ?_
  refine g_iconst (v := 2) d_Mo_bidOn_22 (by decide) ?_
  refine g_aload_n d_Mo_bidOn_23 rfl 0 rfl ?_
  refine g_iconst (v := 2) d_Mo_bidOn_24 (by decide) ?_
  obtain ⟨v5, hv5, h⟩ := gOb h
  refine g_iaload d_Mo_bidOn_25 h0 hv5 ?_
  refine g_iconst (v := 1) d_Mo_bidOn_26 (by decide) ?_
  refine g_iadd d_Mo_bidOn_27 ?_
  refine g_iconst (v := 4) d_Mo_bidOn_28 (by decide) ?_
  refine g_rem d_Mo_bidOn_29 (by decide) ?_
  obtain ⟨M6, hM6, h⟩ := gOb h
  refine g_iastore d_Mo_bidOn_30 h0 hM6 ?_
  refine g_aload_n d_Mo_bidOn_31 rfl 0 rfl ?_
  refine g_iconst (v := 2) d_Mo_bidOn_32 (by decide) ?_
  obtain ⟨v7, hv7, h⟩ := gOb h
  refine g_iaload d_Mo_bidOn_33 h0 hv7 ?_
  obtain rfl := Option.some.inj h
  exact g_iret d_Mo_bidOn_34 rfl
theorem ct_Mo_bidOn {l : Launch} {ε : gEnv} (g0 : Nat) (c0 : Nat) (n0 : Nat) (h0 : gHas ε g0 c0 (0, n0, [])) (M : gMem) (a1 : Int32) (a2 : Int32) (r : (Int32 × gMem)) (h : f_Mo_bidOn g0 c0 n0 M a1 a2 = some r) : gCt l ε k_Mo_bidOn 0 0 [.ref (ε.2.2.1 g0 c0), .int a1, .int a2] M (some (.int r.1)) r.2 :=
  gCt_of (by decide) (Nat.le_of_ble_eq_true rfl) rfl (t_Mo_bidOn g0 c0 n0 h0 M a1 a2 r h)
abbrev k_Mo_passOn : gMD := (⟨"DropSignalsModel", "passOn", "([I)I"⟩, prog_11_method_23_code, 1, (some .int))
theorem w_1076 : Cond.static ⟨"DropSignalsModel", "passOn", "([I)I"⟩ ∈ gWs := gWs_in (i := 1076) (by decide +kernel) rfl
set_option maxRecDepth 100000 in
theorem ca_Mo_passOn : gCaS k_Mo_passOn 1 := ⟨⟨gWs_in (i := 1077) rfl rfl, w_43, by decide, by decide, by decide +kernel⟩, w_1076⟩
theorem d_Mo_passOn_0 : decode prog_11_method_23_code 0 = .ok (.aload_n 0, 1) := by decide +kernel
theorem d_Mo_passOn_1 : decode prog_11_method_23_code 1 = .ok (.bipush 12, 2) := by decide +kernel
theorem d_Mo_passOn_3 : decode prog_11_method_23_code 3 = .ok (.dup2, 1) := by decide +kernel
theorem d_Mo_passOn_4 : decode prog_11_method_23_code 4 = .ok (.iaload, 1) := by decide +kernel
theorem d_Mo_passOn_5 : decode prog_11_method_23_code 5 = .ok (.iconst 1, 1) := by decide +kernel
theorem d_Mo_passOn_6 : decode prog_11_method_23_code 6 = .ok (.iadd, 1) := by decide +kernel
theorem d_Mo_passOn_7 : decode prog_11_method_23_code 7 = .ok (.iastore, 1) := by decide +kernel
theorem d_Mo_passOn_8 : decode prog_11_method_23_code 8 = .ok (.aload_n 0, 1) := by decide +kernel
theorem d_Mo_passOn_9 : decode prog_11_method_23_code 9 = .ok (.iconst 2, 1) := by decide +kernel
theorem d_Mo_passOn_10 : decode prog_11_method_23_code 10 = .ok (.aload_n 0, 1) := by decide +kernel
theorem d_Mo_passOn_11 : decode prog_11_method_23_code 11 = .ok (.iconst 2, 1) := by decide +kernel
theorem d_Mo_passOn_12 : decode prog_11_method_23_code 12 = .ok (.iaload, 1) := by decide +kernel
theorem d_Mo_passOn_13 : decode prog_11_method_23_code 13 = .ok (.iconst 1, 1) := by decide +kernel
theorem d_Mo_passOn_14 : decode prog_11_method_23_code 14 = .ok (.iadd, 1) := by decide +kernel
theorem d_Mo_passOn_15 : decode prog_11_method_23_code 15 = .ok (.iconst 4, 1) := by decide +kernel
theorem d_Mo_passOn_16 : decode prog_11_method_23_code 16 = .ok (.irem, 1) := by decide +kernel
theorem d_Mo_passOn_17 : decode prog_11_method_23_code 17 = .ok (.iastore, 1) := by decide +kernel
theorem d_Mo_passOn_18 : decode prog_11_method_23_code 18 = .ok (.aload_n 0, 1) := by decide +kernel
theorem d_Mo_passOn_19 : decode prog_11_method_23_code 19 = .ok (.iconst 3, 1) := by decide +kernel
theorem d_Mo_passOn_20 : decode prog_11_method_23_code 20 = .ok (.iaload, 1) := by decide +kernel
theorem d_Mo_passOn_21 : decode prog_11_method_23_code 21 = .ok (.ifCond .le 43, 3) := by decide +kernel
theorem d_Mo_passOn_24 : decode prog_11_method_23_code 24 = .ok (.aload_n 0, 1) := by decide +kernel
theorem d_Mo_passOn_25 : decode prog_11_method_23_code 25 = .ok (.bipush 12, 2) := by decide +kernel
theorem d_Mo_passOn_27 : decode prog_11_method_23_code 27 = .ok (.iaload, 1) := by decide +kernel
theorem d_Mo_passOn_28 : decode prog_11_method_23_code 28 = .ok (.iconst 3, 1) := by decide +kernel
theorem d_Mo_passOn_29 : decode prog_11_method_23_code 29 = .ok (.if_icmp .ne 35, 3) := by decide +kernel
theorem d_Mo_passOn_32 : decode prog_11_method_23_code 32 = .ok (.aload_n 0, 1) := by decide +kernel
theorem d_Mo_passOn_33 : decode prog_11_method_23_code 33 = .ok (.iconst 1, 1) := by decide +kernel
theorem d_Mo_passOn_34 : decode prog_11_method_23_code 34 = .ok (.iconst 2, 1) := by decide +kernel
theorem d_Mo_passOn_35 : decode prog_11_method_23_code 35 = .ok (.iastore, 1) := by decide +kernel
theorem d_Mo_passOn_36 : decode prog_11_method_23_code 36 = .ok (.aload_n 0, 1) := by decide +kernel
theorem d_Mo_passOn_37 : decode prog_11_method_23_code 37 = .ok (.iconst 4, 1) := by decide +kernel
theorem d_Mo_passOn_38 : decode prog_11_method_23_code 38 = .ok (.aload_n 0, 1) := by decide +kernel
theorem d_Mo_passOn_39 : decode prog_11_method_23_code 39 = .ok (.bipush 13, 2) := by decide +kernel
theorem d_Mo_passOn_41 : decode prog_11_method_23_code 41 = .ok (.iaload, 1) := by decide +kernel
theorem d_Mo_passOn_42 : decode prog_11_method_23_code 42 = .ok (.iastore, 1) := by decide +kernel
theorem d_Mo_passOn_43 : decode prog_11_method_23_code 43 = .ok (.aload_n 0, 1) := by decide +kernel
theorem d_Mo_passOn_44 : decode prog_11_method_23_code 44 = .ok (.iconst 2, 1) := by decide +kernel
theorem d_Mo_passOn_45 : decode prog_11_method_23_code 45 = .ok (.aload_n 0, 1) := by decide +kernel
theorem d_Mo_passOn_46 : decode prog_11_method_23_code 46 = .ok (.bipush 13, 2) := by decide +kernel
theorem d_Mo_passOn_48 : decode prog_11_method_23_code 48 = .ok (.iaload, 1) := by decide +kernel
theorem d_Mo_passOn_49 : decode prog_11_method_23_code 49 = .ok (.iconst 1, 1) := by decide +kernel
theorem d_Mo_passOn_50 : decode prog_11_method_23_code 50 = .ok (.iadd, 1) := by decide +kernel
theorem d_Mo_passOn_51 : decode prog_11_method_23_code 51 = .ok (.iconst 4, 1) := by decide +kernel
theorem d_Mo_passOn_52 : decode prog_11_method_23_code 52 = .ok (.irem, 1) := by decide +kernel
theorem d_Mo_passOn_53 : decode prog_11_method_23_code 53 = .ok (.iastore, 1) := by decide +kernel
theorem d_Mo_passOn_54 : decode prog_11_method_23_code 54 = .ok (.aload_n 0, 1) := by decide +kernel
theorem d_Mo_passOn_55 : decode prog_11_method_23_code 55 = .ok (.bipush 20, 2) := by decide +kernel
theorem d_Mo_passOn_57 : decode prog_11_method_23_code 57 = .ok (.aload_n 0, 1) := by decide +kernel
theorem d_Mo_passOn_58 : decode prog_11_method_23_code 58 = .ok (.iconst 2, 1) := by decide +kernel
theorem d_Mo_passOn_59 : decode prog_11_method_23_code 59 = .ok (.iaload, 1) := by decide +kernel
theorem d_Mo_passOn_60 : decode prog_11_method_23_code 60 = .ok (.iastore, 1) := by decide +kernel
theorem d_Mo_passOn_61 : decode prog_11_method_23_code 61 = .ok (.goto 15, 3) := by decide +kernel
theorem d_Mo_passOn_64 : decode prog_11_method_23_code 64 = .ok (.aload_n 0, 1) := by decide +kernel
theorem d_Mo_passOn_65 : decode prog_11_method_23_code 65 = .ok (.bipush 12, 2) := by decide +kernel
theorem d_Mo_passOn_67 : decode prog_11_method_23_code 67 = .ok (.iaload, 1) := by decide +kernel
theorem d_Mo_passOn_68 : decode prog_11_method_23_code 68 = .ok (.iconst 4, 1) := by decide +kernel
theorem d_Mo_passOn_69 : decode prog_11_method_23_code 69 = .ok (.if_icmp .ne 7, 3) := by decide +kernel
theorem d_Mo_passOn_72 : decode prog_11_method_23_code 72 = .ok (.aload_n 0, 1) := by decide +kernel
theorem d_Mo_passOn_73 : decode prog_11_method_23_code 73 = .ok (.iconst 1, 1) := by decide +kernel
theorem d_Mo_passOn_74 : decode prog_11_method_23_code 74 = .ok (.iconst 3, 1) := by decide +kernel
theorem d_Mo_passOn_75 : decode prog_11_method_23_code 75 = .ok (.iastore, 1) := by decide +kernel
theorem d_Mo_passOn_76 : decode prog_11_method_23_code 76 = .ok (.aload_n 0, 1) := by decide +kernel
theorem d_Mo_passOn_77 : decode prog_11_method_23_code 77 = .ok (.iconst 1, 1) := by decide +kernel
theorem d_Mo_passOn_78 : decode prog_11_method_23_code 78 = .ok (.iaload, 1) := by decide +kernel
theorem d_Mo_passOn_79 : decode prog_11_method_23_code 79 = .ok (.ireturn, 1) := by decide +kernel
noncomputable def f_Mo_passOn_b76 (g0 : Nat) (c0 : Nat) (n0 : Nat) (M : gMem) : Option (Int32 × gMem) :=
  (gRd n0 (M g0 c0) 1).bind fun v7 =>
  some (v7, M)
theorem t_Mo_passOn_b76 {l : Launch} {ε : gEnv} (g0 : Nat) (c0 : Nat) (n0 : Nat) (h0 : gHas ε g0 c0 (0, n0, [])) (M : gMem) (r : (Int32 × gMem)) (h : f_Mo_passOn_b76 g0 c0 n0 M = some r) : gGo l ε k_Mo_passOn (gR 0 0) (gFn ε (some (.int r.1)) r.2) 76 [(0, .ref (ε.2.2.1 g0 c0))] [] M := by
  unfold f_Mo_passOn_b76 at h
  refine g_aload_n d_Mo_passOn_76 rfl 0 rfl ?_
  refine g_iconst (v := 1) d_Mo_passOn_77 (by decide) ?_
  obtain ⟨v7, hv7, h⟩ := gOb h
  refine g_iaload d_Mo_passOn_78 h0 hv7 ?_
  obtain rfl := Option.some.inj h
  exact g_iret d_Mo_passOn_79 rfl
noncomputable def f_Mo_passOn_b64 (g0 : Nat) (c0 : Nat) (n0 : Nat) (M : gMem) : Option (Int32 × gMem) :=
  (gRd n0 (M g0 c0) 12).bind fun v6 =>
  if v6 = 4 then
    (gWr M g0 c0 n0 1 3).bind fun M8 =>
    f_Mo_passOn_b76 g0 c0 n0 M8
  else
    f_Mo_passOn_b76 g0 c0 n0 M
theorem t_Mo_passOn_b64 {l : Launch} {ε : gEnv} (g0 : Nat) (c0 : Nat) (n0 : Nat) (h0 : gHas ε g0 c0 (0, n0, [])) (M : gMem) (r : (Int32 × gMem)) (h : f_Mo_passOn_b64 g0 c0 n0 M = some r) : gGo l ε k_Mo_passOn (gR 0 0) (gFn ε (some (.int r.1)) r.2) 64 [(0, .ref (ε.2.2.1 g0 c0))] [] M := by
  unfold f_Mo_passOn_b64 at h
  refine g_aload_n d_Mo_passOn_64 rfl 0 rfl ?_
  refine g_bipush (v := 12) d_Mo_passOn_65 (by decide) ?_
  obtain ⟨v6, hv6, h⟩ := gOb h
  refine g_iaload d_Mo_passOn_67 h0 hv6 ?_
  refine g_iconst (v := 4) d_Mo_passOn_68 (by decide) ?_
  refine g_icmp_ne (tgt := 76) d_Mo_passOn_69 (by decide) (fun c9 => ?_) (fun c9 => ?_)
  · rw [if_neg c9] at h
    exact t_Mo_passOn_b76 g0 c0 n0 h0 M _ h
  · rw [if_pos c9] at h
    refine g_aload_n d_Mo_passOn_72 rfl 0 rfl ?_
    refine g_iconst (v := 1) d_Mo_passOn_73 (by decide) ?_
    refine g_iconst (v := 3) d_Mo_passOn_74 (by decide) ?_
    obtain ⟨M8, hM8, h⟩ := gOb h
    refine g_iastore d_Mo_passOn_75 h0 hM8 ?_
    exact t_Mo_passOn_b76 g0 c0 n0 h0 M8 _ h
noncomputable def f_Mo_passOn (g0 : Nat) (c0 : Nat) (n0 : Nat) (M : gMem) : Option (Int32 × gMem) :=
  (gRd n0 (M g0 c0) 12).bind fun v1 =>
  (gWr M g0 c0 n0 12 (v1 + 1)).bind fun M2 =>
  (gRd n0 (M2 g0 c0) 2).bind fun v3 =>
  (gWr M2 g0 c0 n0 2 (gRem (v3 + 1) 4)).bind fun M4 =>
  (gRd n0 (M4 g0 c0) 3).bind fun v5 =>
  if v5 ≤ 0 then
    f_Mo_passOn_b64 g0 c0 n0 M4
  else
    (gRd n0 (M4 g0 c0) 12).bind fun v10 =>
    if v10 = 3 then
      (gWr M4 g0 c0 n0 1 2).bind fun M11 =>
      (gRd n0 (M11 g0 c0) 13).bind fun v12 =>
      (gWr M11 g0 c0 n0 4 v12).bind fun M13 =>
      (gRd n0 (M13 g0 c0) 13).bind fun v14 =>
      (gWr M13 g0 c0 n0 2 (gRem (v14 + 1) 4)).bind fun M15 =>
      (gRd n0 (M15 g0 c0) 2).bind fun v16 =>
      (gWr M15 g0 c0 n0 20 v16).bind fun M17 =>
      f_Mo_passOn_b76 g0 c0 n0 M17
    else
      f_Mo_passOn_b64 g0 c0 n0 M4
theorem t_Mo_passOn {l : Launch} {ε : gEnv} (g0 : Nat) (c0 : Nat) (n0 : Nat) (h0 : gHas ε g0 c0 (0, n0, [])) (M : gMem) (r : (Int32 × gMem)) (h : f_Mo_passOn g0 c0 n0 M = some r) : gGo l ε k_Mo_passOn (gR 0 0) (gFn ε (some (.int r.1)) r.2) 0 [(0, .ref (ε.2.2.1 g0 c0))] [] M := by
  unfold f_Mo_passOn at h
  refine g_aload_n d_Mo_passOn_0 rfl 0 rfl ?_
  refine g_bipush (v := 12) d_Mo_passOn_1 (by decide) ?_
  refine g_dup2 d_Mo_passOn_3 rfl rfl ?_
  obtain ⟨v1, hv1, h⟩ := gOb h
  refine g_iaload d_Mo_passOn_4 h0 hv1 ?_
  refine g_iconst (v := 1) d_Mo_passOn_5 (by decide) ?_
  refine g_iadd d_Mo_passOn_6 ?_
  obtain ⟨M2, hM2, h⟩ := gOb h
  refine g_iastore d_Mo_passOn_7 h0 hM2 ?_
  refine g_aload_n d_Mo_passOn_8 rfl 0 rfl ?_
  refine g_iconst (v := 2) d_Mo_passOn_9 (by decide) ?_
  refine g_aload_n d_Mo_passOn_10 rfl 0 rfl ?_
  refine g_iconst (v := 2) d_Mo_passOn_11 (by decide) ?_
  obtain ⟨v3, hv3, h⟩ := gOb h
  refine g_iaload d_Mo_passOn_12 h0 hv3 ?_
  refine g_iconst (v := 1) d_Mo_passOn_13 (by decide) ?_
  refine g_iadd d_Mo_passOn_14 ?_
  refine g_iconst (v := 4) d_Mo_passOn_15 (by decide) ?_
  refine g_rem d_Mo_passOn_16 (by decide) ?_
  obtain ⟨M4, hM4, h⟩ := gOb h
  refine g_iastore d_Mo_passOn_17 h0 hM4 ?_
  refine g_aload_n d_Mo_passOn_18 rfl 0 rfl ?_
  refine g_iconst (v := 3) d_Mo_passOn_19 (by decide) ?_
  obtain ⟨v5, hv5, h⟩ := gOb h
  refine g_iaload d_Mo_passOn_20 h0 hv5 ?_
  refine g_if_le (tgt := 64) d_Mo_passOn_21 (by decide) (fun c19 => ?_) (fun c19 => ?_)
  · rw [if_pos c19] at h
    exact t_Mo_passOn_b64 g0 c0 n0 h0 M4 _ h
  · rw [if_neg c19] at h
    refine g_aload_n d_Mo_passOn_24 rfl 0 rfl ?_
    refine g_bipush (v := 12) d_Mo_passOn_25 (by decide) ?_
    obtain ⟨v10, hv10, h⟩ := gOb h
    refine g_iaload d_Mo_passOn_27 h0 hv10 ?_
    refine g_iconst (v := 3) d_Mo_passOn_28 (by decide) ?_
    refine g_icmp_ne (tgt := 64) d_Mo_passOn_29 (by decide) (fun c18 => ?_) (fun c18 => ?_)
    · rw [if_neg c18] at h
      exact t_Mo_passOn_b64 g0 c0 n0 h0 M4 _ h
    · rw [if_pos c18] at h
      refine g_aload_n d_Mo_passOn_32 rfl 0 rfl ?_
      refine g_iconst (v := 1) d_Mo_passOn_33 (by decide) ?_
      refine g_iconst (v := 2) d_Mo_passOn_34 (by decide) ?_
      obtain ⟨M11, hM11, h⟩ := gOb h
      refine g_iastore d_Mo_passOn_35 h0 hM11 ?_
      refine g_aload_n d_Mo_passOn_36 rfl 0 rfl ?_
      refine g_iconst (v := 4) d_Mo_passOn_37 (by decide) ?_
      refine g_aload_n d_Mo_passOn_38 rfl 0 rfl ?_
      refine g_bipush (v := 13) d_Mo_passOn_39 (by decide) ?_
      obtain ⟨v12, hv12, h⟩ := gOb h
      refine g_iaload d_Mo_passOn_41 h0 hv12 ?_
      obtain ⟨M13, hM13, h⟩ := gOb h
      refine g_iastore d_Mo_passOn_42 h0 hM13 ?_
      refine g_aload_n d_Mo_passOn_43 rfl 0 rfl ?_
      refine g_iconst (v := 2) d_Mo_passOn_44 (by decide) ?_
      refine g_aload_n d_Mo_passOn_45 rfl 0 rfl ?_
      refine g_bipush (v := 13) d_Mo_passOn_46 (by decide) ?_
      obtain ⟨v14, hv14, h⟩ := gOb h
      refine g_iaload d_Mo_passOn_48 h0 hv14 ?_
      refine g_iconst (v := 1) d_Mo_passOn_49 (by decide) ?_
      refine g_iadd d_Mo_passOn_50 ?_
      refine g_iconst (v := 4) d_Mo_passOn_51 (by decide) ?_
      refine g_rem d_Mo_passOn_52 (by decide) ?_
      obtain ⟨M15, hM15, h⟩ := gOb h
      refine g_iastore d_Mo_passOn_53 h0 hM15 ?_
      refine g_aload_n d_Mo_passOn_54 rfl 0 rfl ?_
      refine g_bipush (v := 20) d_Mo_passOn_55 (by decide) ?_
      refine g_aload_n d_Mo_passOn_57 rfl 0 rfl ?_
      refine g_iconst (v := 2) d_Mo_passOn_58 (by decide) ?_
      obtain ⟨v16, hv16, h⟩ := gOb h
      refine g_iaload d_Mo_passOn_59 h0 hv16 ?_
      obtain ⟨M17, hM17, h⟩ := gOb h
      refine g_iastore d_Mo_passOn_60 h0 hM17 ?_
      refine g_goto (tgt := 76) d_Mo_passOn_61 (by decide) ?_
      exact t_Mo_passOn_b76 g0 c0 n0 h0 M17 _ h
theorem ct_Mo_passOn {l : Launch} {ε : gEnv} (g0 : Nat) (c0 : Nat) (n0 : Nat) (h0 : gHas ε g0 c0 (0, n0, [])) (M : gMem) (r : (Int32 × gMem)) (h : f_Mo_passOn g0 c0 n0 M = some r) : gCt l ε k_Mo_passOn 0 0 [.ref (ε.2.2.1 g0 c0)] M (some (.int r.1)) r.2 :=
  gCt_of (by decide) (Nat.le_of_ble_eq_true rfl) rfl (t_Mo_passOn g0 c0 n0 h0 M r h)
abbrev k_Mo_drop : gMD := (⟨"DropSignalsModel", "drop", "([III)V"⟩, prog_11_method_24_code, 6, none)
theorem w_1106 : Cond.static ⟨"DropSignalsModel", "drop", "([III)V"⟩ ∈ gWs := gWs_in (i := 1106) (by decide +kernel) rfl
set_option maxRecDepth 100000 in
theorem ca_Mo_drop : gCaS k_Mo_drop 3 := ⟨⟨gWs_in (i := 1107) rfl rfl, w_43, by decide, by decide, by decide +kernel⟩, w_1106⟩
theorem d_Mo_drop_0 : decode prog_11_method_24_code 0 = .ok (.iconst 4, 1) := by decide +kernel
theorem d_Mo_drop_1 : decode prog_11_method_24_code 1 = .ok (.iload_n 1, 1) := by decide +kernel
theorem d_Mo_drop_2 : decode prog_11_method_24_code 2 = .ok (.imul, 1) := by decide +kernel
theorem d_Mo_drop_3 : decode prog_11_method_24_code 3 = .ok (.iload_n 2, 1) := by decide +kernel
theorem d_Mo_drop_4 : decode prog_11_method_24_code 4 = .ok (.invokestatic 63, 3) := by decide +kernel
theorem d_Mo_drop_7 : decode prog_11_method_24_code 7 = .ok (.iadd, 1) := by decide +kernel
theorem d_Mo_drop_8 : decode prog_11_method_24_code 8 = .ok (.istore_n 3, 1) := by decide +kernel
theorem d_Mo_drop_9 : decode prog_11_method_24_code 9 = .ok (.aload_n 0, 1) := by decide +kernel
theorem d_Mo_drop_10 : decode prog_11_method_24_code 10 = .ok (.bipush 117, 2) := by decide +kernel
theorem d_Mo_drop_12 : decode prog_11_method_24_code 12 = .ok (.iload_n 3, 1) := by decide +kernel
theorem d_Mo_drop_13 : decode prog_11_method_24_code 13 = .ok (.iadd, 1) := by decide +kernel
theorem d_Mo_drop_14 : decode prog_11_method_24_code 14 = .ok (.dup2, 1) := by decide +kernel
theorem d_Mo_drop_15 : decode prog_11_method_24_code 15 = .ok (.iaload, 1) := by decide +kernel
theorem d_Mo_drop_16 : decode prog_11_method_24_code 16 = .ok (.iconst 1, 1) := by decide +kernel
theorem d_Mo_drop_17 : decode prog_11_method_24_code 17 = .ok (.iadd, 1) := by decide +kernel
theorem d_Mo_drop_18 : decode prog_11_method_24_code 18 = .ok (.iastore, 1) := by decide +kernel
theorem d_Mo_drop_19 : decode prog_11_method_24_code 19 = .ok (.aload_n 0, 1) := by decide +kernel
theorem d_Mo_drop_20 : decode prog_11_method_24_code 20 = .ok (.bipush 117, 2) := by decide +kernel
theorem d_Mo_drop_22 : decode prog_11_method_24_code 22 = .ok (.iload_n 3, 1) := by decide +kernel
theorem d_Mo_drop_23 : decode prog_11_method_24_code 23 = .ok (.iadd, 1) := by decide +kernel
theorem d_Mo_drop_24 : decode prog_11_method_24_code 24 = .ok (.iaload, 1) := by decide +kernel
theorem d_Mo_drop_25 : decode prog_11_method_24_code 25 = .ok (.iconst 1, 1) := by decide +kernel
theorem d_Mo_drop_26 : decode prog_11_method_24_code 26 = .ok (.if_icmp .ne 14, 3) := by decide +kernel
theorem d_Mo_drop_29 : decode prog_11_method_24_code 29 = .ok (.aload_n 0, 1) := by decide +kernel
theorem d_Mo_drop_30 : decode prog_11_method_24_code 30 = .ok (.sipush 133, 3) := by decide +kernel
theorem d_Mo_drop_33 : decode prog_11_method_24_code 33 = .ok (.iload_n 3, 1) := by decide +kernel
theorem d_Mo_drop_34 : decode prog_11_method_24_code 34 = .ok (.iadd, 1) := by decide +kernel
theorem d_Mo_drop_35 : decode prog_11_method_24_code 35 = .ok (.iload_n 2, 1) := by decide +kernel
theorem d_Mo_drop_36 : decode prog_11_method_24_code 36 = .ok (.iastore, 1) := by decide +kernel
theorem d_Mo_drop_37 : decode prog_11_method_24_code 37 = .ok (.goto 121, 3) := by decide +kernel
theorem d_Mo_drop_40 : decode prog_11_method_24_code 40 = .ok (.aload_n 0, 1) := by decide +kernel
theorem d_Mo_drop_41 : decode prog_11_method_24_code 41 = .ok (.bipush 117, 2) := by decide +kernel
theorem d_Mo_drop_43 : decode prog_11_method_24_code 43 = .ok (.iload_n 3, 1) := by decide +kernel
theorem d_Mo_drop_44 : decode prog_11_method_24_code 44 = .ok (.iadd, 1) := by decide +kernel
theorem d_Mo_drop_45 : decode prog_11_method_24_code 45 = .ok (.iaload, 1) := by decide +kernel
theorem d_Mo_drop_46 : decode prog_11_method_24_code 46 = .ok (.iconst 2, 1) := by decide +kernel
theorem d_Mo_drop_47 : decode prog_11_method_24_code 47 = .ok (.if_icmp .ne 111, 3) := by decide +kernel
theorem d_Mo_drop_50 : decode prog_11_method_24_code 50 = .ok (.aload_n 0, 1) := by decide +kernel
theorem d_Mo_drop_51 : decode prog_11_method_24_code 51 = .ok (.sipush 133, 3) := by decide +kernel
theorem d_Mo_drop_54 : decode prog_11_method_24_code 54 = .ok (.iload_n 3, 1) := by decide +kernel
theorem d_Mo_drop_55 : decode prog_11_method_24_code 55 = .ok (.iadd, 1) := by decide +kernel
theorem d_Mo_drop_56 : decode prog_11_method_24_code 56 = .ok (.iaload, 1) := by decide +kernel
theorem d_Mo_drop_57 : decode prog_11_method_24_code 57 = .ok (.iload_n 2, 1) := by decide +kernel
theorem d_Mo_drop_58 : decode prog_11_method_24_code 58 = .ok (.if_icmp .le 7, 3) := by decide +kernel
theorem d_Mo_drop_61 : decode prog_11_method_24_code 61 = .ok (.iconst 1, 1) := by decide +kernel
theorem d_Mo_drop_62 : decode prog_11_method_24_code 62 = .ok (.goto 4, 3) := by decide +kernel
theorem d_Mo_drop_65 : decode prog_11_method_24_code 65 = .ok (.iconst 0, 1) := by decide +kernel
theorem d_Mo_drop_66 : decode prog_11_method_24_code 66 = .ok (.istore 4, 2) := by decide +kernel
theorem d_Mo_drop_68 : decode prog_11_method_24_code 68 = .ok (.iload 4, 2) := by decide +kernel
theorem d_Mo_drop_70 : decode prog_11_method_24_code 70 = .ok (.aload_n 0, 1) := by decide +kernel
theorem d_Mo_drop_71 : decode prog_11_method_24_code 71 = .ok (.iload_n 1, 1) := by decide +kernel
theorem d_Mo_drop_72 : decode prog_11_method_24_code 72 = .ok (.iload_n 2, 1) := by decide +kernel
theorem d_Mo_drop_73 : decode prog_11_method_24_code 73 = .ok (.invokestatic 63, 3) := by decide +kernel
theorem d_Mo_drop_76 : decode prog_11_method_24_code 76 = .ok (.invokestatic 88, 3) := by decide +kernel
theorem d_Mo_drop_79 : decode prog_11_method_24_code 79 = .ok (.iconst 2, 1) := by decide +kernel
theorem d_Mo_drop_80 : decode prog_11_method_24_code 80 = .ok (.irem, 1) := by decide +kernel
theorem d_Mo_drop_81 : decode prog_11_method_24_code 81 = .ok (.ifCond .ne 7, 3) := by decide +kernel
theorem d_Mo_drop_84 : decode prog_11_method_24_code 84 = .ok (.iconst 1, 1) := by decide +kernel
theorem d_Mo_drop_85 : decode prog_11_method_24_code 85 = .ok (.goto 4, 3) := by decide +kernel
theorem d_Mo_drop_88 : decode prog_11_method_24_code 88 = .ok (.iconst 0, 1) := by decide +kernel
theorem d_Mo_drop_89 : decode prog_11_method_24_code 89 = .ok (.if_icmp .ne 7, 3) := by decide +kernel
theorem d_Mo_drop_92 : decode prog_11_method_24_code 92 = .ok (.iconst 1, 1) := by decide +kernel
theorem d_Mo_drop_93 : decode prog_11_method_24_code 93 = .ok (.goto 4, 3) := by decide +kernel
theorem d_Mo_drop_96 : decode prog_11_method_24_code 96 = .ok (.iconst 0, 1) := by decide +kernel
theorem d_Mo_drop_97 : decode prog_11_method_24_code 97 = .ok (.istore 5, 2) := by decide +kernel
theorem d_Mo_drop_99 : decode prog_11_method_24_code 99 = .ok (.aload_n 0, 1) := by decide +kernel
theorem d_Mo_drop_100 : decode prog_11_method_24_code 100 = .ok (.sipush 149, 3) := by decide +kernel
theorem d_Mo_drop_103 : decode prog_11_method_24_code 103 = .ok (.iload_n 3, 1) := by decide +kernel
theorem d_Mo_drop_104 : decode prog_11_method_24_code 104 = .ok (.iadd, 1) := by decide +kernel
theorem d_Mo_drop_105 : decode prog_11_method_24_code 105 = .ok (.iload 4, 2) := by decide +kernel
theorem d_Mo_drop_107 : decode prog_11_method_24_code 107 = .ok (.ifCond .eq 7, 3) := by decide +kernel
theorem d_Mo_drop_110 : decode prog_11_method_24_code 110 = .ok (.iconst 2, 1) := by decide +kernel
theorem d_Mo_drop_111 : decode prog_11_method_24_code 111 = .ok (.goto 4, 3) := by decide +kernel
theorem d_Mo_drop_114 : decode prog_11_method_24_code 114 = .ok (.iconst 1, 1) := by decide +kernel
theorem d_Mo_drop_115 : decode prog_11_method_24_code 115 = .ok (.iastore, 1) := by decide +kernel
theorem d_Mo_drop_116 : decode prog_11_method_24_code 116 = .ok (.aload_n 0, 1) := by decide +kernel
theorem d_Mo_drop_117 : decode prog_11_method_24_code 117 = .ok (.sipush 165, 3) := by decide +kernel
theorem d_Mo_drop_120 : decode prog_11_method_24_code 120 = .ok (.iload_n 3, 1) := by decide +kernel
theorem d_Mo_drop_121 : decode prog_11_method_24_code 121 = .ok (.iadd, 1) := by decide +kernel
theorem d_Mo_drop_122 : decode prog_11_method_24_code 122 = .ok (.iload 5, 2) := by decide +kernel
theorem d_Mo_drop_124 : decode prog_11_method_24_code 124 = .ok (.ifCond .eq 7, 3) := by decide +kernel
theorem d_Mo_drop_127 : decode prog_11_method_24_code 127 = .ok (.iconst 1, 1) := by decide +kernel
theorem d_Mo_drop_128 : decode prog_11_method_24_code 128 = .ok (.goto 4, 3) := by decide +kernel
theorem d_Mo_drop_131 : decode prog_11_method_24_code 131 = .ok (.iconst 0, 1) := by decide +kernel
theorem d_Mo_drop_132 : decode prog_11_method_24_code 132 = .ok (.iastore, 1) := by decide +kernel
theorem d_Mo_drop_133 : decode prog_11_method_24_code 133 = .ok (.aload_n 0, 1) := by decide +kernel
theorem d_Mo_drop_134 : decode prog_11_method_24_code 134 = .ok (.bipush 9, 2) := by decide +kernel
theorem d_Mo_drop_136 : decode prog_11_method_24_code 136 = .ok (.dup2, 1) := by decide +kernel
theorem d_Mo_drop_137 : decode prog_11_method_24_code 137 = .ok (.iaload, 1) := by decide +kernel
theorem d_Mo_drop_138 : decode prog_11_method_24_code 138 = .ok (.iconst 1, 1) := by decide +kernel
theorem d_Mo_drop_139 : decode prog_11_method_24_code 139 = .ok (.iadd, 1) := by decide +kernel
theorem d_Mo_drop_140 : decode prog_11_method_24_code 140 = .ok (.iastore, 1) := by decide +kernel
theorem d_Mo_drop_141 : decode prog_11_method_24_code 141 = .ok (.aload_n 0, 1) := by decide +kernel
theorem d_Mo_drop_142 : decode prog_11_method_24_code 142 = .ok (.bipush 10, 2) := by decide +kernel
theorem d_Mo_drop_144 : decode prog_11_method_24_code 144 = .ok (.dup2, 1) := by decide +kernel
theorem d_Mo_drop_145 : decode prog_11_method_24_code 145 = .ok (.iaload, 1) := by decide +kernel
theorem d_Mo_drop_146 : decode prog_11_method_24_code 146 = .ok (.iload 5, 2) := by decide +kernel
theorem d_Mo_drop_148 : decode prog_11_method_24_code 148 = .ok (.ifCond .eq 7, 3) := by decide +kernel
theorem d_Mo_drop_151 : decode prog_11_method_24_code 151 = .ok (.iconst 1, 1) := by decide +kernel
theorem d_Mo_drop_152 : decode prog_11_method_24_code 152 = .ok (.goto 4, 3) := by decide +kernel
theorem d_Mo_drop_155 : decode prog_11_method_24_code 155 = .ok (.iconst 0, 1) := by decide +kernel
theorem d_Mo_drop_156 : decode prog_11_method_24_code 156 = .ok (.iadd, 1) := by decide +kernel
theorem d_Mo_drop_157 : decode prog_11_method_24_code 157 = .ok (.iastore, 1) := by decide +kernel
theorem d_Mo_drop_158 : decode prog_11_method_24_code 158 = .ok (.return_, 1) := by decide +kernel
theorem w_1108 : Cond.methodLink "DropSignalsModel" 88 ⟨"DropSignalsModel", "wasDealt", "([III)I"⟩ ∈ gWs := gWs_in (i := 1108) (by decide +kernel) rfl
noncomputable def f_Mo_drop_b156 (g0 : Nat) (c0 : Nat) (n0 : Nat) (M : gMem) (s0 : Int32) (s1 : Int32) (s2 : Int32) : Option gMem :=
  (gWr M g0 c0 n0 s2 (s1 + s0)).bind fun M14 =>
  some M14
theorem t_Mo_drop_b156 {l : Launch} {ε : gEnv} (g0 : Nat) (c0 : Nat) (n0 : Nat) (h0 : gHas ε g0 c0 (0, n0, [])) (M : gMem) (s0 : Int32) (s1 : Int32) (s2 : Int32) (r : gMem) (h : f_Mo_drop_b156 g0 c0 n0 M s0 s1 s2 = some r) : gGo l ε k_Mo_drop (gR 1 24) (gFn ε none r) 156 [] [.int s0, .int s1, .int s2, .ref (ε.2.2.1 g0 c0)] M := by
  unfold f_Mo_drop_b156 at h
  refine g_iadd d_Mo_drop_156 ?_
  obtain ⟨M14, hM14, h⟩ := gOb h
  refine g_iastore d_Mo_drop_157 h0 hM14 ?_
  obtain rfl := Option.some.inj h
  exact g_vret d_Mo_drop_158 rfl
noncomputable def f_Mo_drop_b132 (g0 : Nat) (c0 : Nat) (n0 : Nat) (M : gMem) (x5 : Int32) (s0 : Int32) (s1 : Int32) : Option gMem :=
  (gWr M g0 c0 n0 s1 s0).bind fun M10 =>
  (gRd n0 (M10 g0 c0) 9).bind fun v11 =>
  (gWr M10 g0 c0 n0 9 (v11 + 1)).bind fun M12 =>
  (gRd n0 (M12 g0 c0) 10).bind fun v13 =>
  if x5 = 0 then
    f_Mo_drop_b156 g0 c0 n0 M12 0 v13 10
  else
    f_Mo_drop_b156 g0 c0 n0 M12 1 v13 10
theorem t_Mo_drop_b132 {l : Launch} {ε : gEnv} (g0 : Nat) (c0 : Nat) (n0 : Nat) (h0 : gHas ε g0 c0 (0, n0, [])) (M : gMem) (x5 : Int32) (s0 : Int32) (s1 : Int32) (r : gMem) (h : f_Mo_drop_b132 g0 c0 n0 M x5 s0 s1 = some r) : gGo l ε k_Mo_drop (gR 1 24) (gFn ε none r) 132 [(0, .ref (ε.2.2.1 g0 c0)), (5, .int x5)] [.int s0, .int s1, .ref (ε.2.2.1 g0 c0)] M := by
  unfold f_Mo_drop_b132 at h
  obtain ⟨M10, hM10, h⟩ := gOb h
  refine g_iastore d_Mo_drop_132 h0 hM10 ?_
  refine g_aload_n d_Mo_drop_133 rfl 0 rfl ?_
  refine g_bipush (v := 9) d_Mo_drop_134 (by decide) ?_
  refine g_dup2 d_Mo_drop_136 rfl rfl ?_
  obtain ⟨v11, hv11, h⟩ := gOb h
  refine g_iaload d_Mo_drop_137 h0 hv11 ?_
  refine g_iconst (v := 1) d_Mo_drop_138 (by decide) ?_
  refine g_iadd d_Mo_drop_139 ?_
  obtain ⟨M12, hM12, h⟩ := gOb h
  refine g_iastore d_Mo_drop_140 h0 hM12 ?_
  refine g_aload_n d_Mo_drop_141 rfl 0 rfl ?_
  refine g_bipush (v := 10) d_Mo_drop_142 (by decide) ?_
  refine g_dup2 d_Mo_drop_144 rfl rfl ?_
  obtain ⟨v13, hv13, h⟩ := gOb h
  refine g_iaload d_Mo_drop_145 h0 hv13 ?_
  refine g_iload d_Mo_drop_146 1 rfl ?_
  refine g_if_eq (tgt := 155) d_Mo_drop_148 (by decide) (fun c15 => ?_) (fun c15 => ?_)
  · rw [if_pos c15] at h
    refine g_iconst (v := 0) d_Mo_drop_155 (by decide) ?_
    refine gGo_sub [] rfl ?_
    exact t_Mo_drop_b156 g0 c0 n0 h0 M12 0 v13 10 _ h
  · rw [if_neg c15] at h
    refine g_iconst (v := 1) d_Mo_drop_151 (by decide) ?_
    refine g_goto (tgt := 156) d_Mo_drop_152 (by decide) ?_
    refine gGo_sub [] rfl ?_
    exact t_Mo_drop_b156 g0 c0 n0 h0 M12 1 v13 10 _ h
noncomputable def f_Mo_drop_b115 (g0 : Nat) (c0 : Nat) (n0 : Nat) (M : gMem) (x3 : Int32) (x5 : Int32) (s0 : Int32) (s1 : Int32) : Option gMem :=
  (gWr M g0 c0 n0 s1 s0).bind fun M9 =>
  if x5 = 0 then
    f_Mo_drop_b132 g0 c0 n0 M9 x5 0 (165 + x3)
  else
    f_Mo_drop_b132 g0 c0 n0 M9 x5 1 (165 + x3)
theorem t_Mo_drop_b115 {l : Launch} {ε : gEnv} (g0 : Nat) (c0 : Nat) (n0 : Nat) (h0 : gHas ε g0 c0 (0, n0, [])) (M : gMem) (x3 : Int32) (x5 : Int32) (s0 : Int32) (s1 : Int32) (r : gMem) (h : f_Mo_drop_b115 g0 c0 n0 M x3 x5 s0 s1 = some r) : gGo l ε k_Mo_drop (gR 1 24) (gFn ε none r) 115 [(0, .ref (ε.2.2.1 g0 c0)), (3, .int x3), (5, .int x5)] [.int s0, .int s1, .ref (ε.2.2.1 g0 c0)] M := by
  unfold f_Mo_drop_b115 at h
  obtain ⟨M9, hM9, h⟩ := gOb h
  refine g_iastore d_Mo_drop_115 h0 hM9 ?_
  refine g_aload_n d_Mo_drop_116 rfl 0 rfl ?_
  refine g_sipush (v := 165) d_Mo_drop_117 (by decide) ?_
  refine g_iload_n d_Mo_drop_120 rfl 1 rfl ?_
  refine g_iadd d_Mo_drop_121 ?_
  refine g_iload d_Mo_drop_122 2 rfl ?_
  refine g_if_eq (tgt := 131) d_Mo_drop_124 (by decide) (fun c16 => ?_) (fun c16 => ?_)
  · rw [if_pos c16] at h
    refine g_iconst (v := 0) d_Mo_drop_131 (by decide) ?_
    refine gGo_sub [0, 2] rfl ?_
    exact t_Mo_drop_b132 g0 c0 n0 h0 M9 x5 0 (165 + x3) _ h
  · rw [if_neg c16] at h
    refine g_iconst (v := 1) d_Mo_drop_127 (by decide) ?_
    refine g_goto (tgt := 132) d_Mo_drop_128 (by decide) ?_
    refine gGo_sub [0, 2] rfl ?_
    exact t_Mo_drop_b132 g0 c0 n0 h0 M9 x5 1 (165 + x3) _ h
noncomputable def f_Mo_drop_b97 (g0 : Nat) (c0 : Nat) (n0 : Nat) (M : gMem) (x3 : Int32) (x4 : Int32) (s0 : Int32) : Option gMem :=
  if x4 = 0 then
    f_Mo_drop_b115 g0 c0 n0 M x3 s0 1 (149 + x3)
  else
    f_Mo_drop_b115 g0 c0 n0 M x3 s0 2 (149 + x3)
theorem t_Mo_drop_b97 {l : Launch} {ε : gEnv} (g0 : Nat) (c0 : Nat) (n0 : Nat) (h0 : gHas ε g0 c0 (0, n0, [])) (M : gMem) (x3 : Int32) (x4 : Int32) (s0 : Int32) (r : gMem) (h : f_Mo_drop_b97 g0 c0 n0 M x3 x4 s0 = some r) : gGo l ε k_Mo_drop (gR 1 24) (gFn ε none r) 97 [(0, .ref (ε.2.2.1 g0 c0)), (3, .int x3), (4, .int x4)] [.int s0] M := by
  unfold f_Mo_drop_b97 at h
  refine g_istore (L' := [(5, .int s0), (0, .ref (ε.2.2.1 g0 c0)), (3, .int x3), (4, .int x4)]) d_Mo_drop_97 (by decide) rfl ?_
  refine g_aload_n d_Mo_drop_99 rfl 1 rfl ?_
  refine g_sipush (v := 149) d_Mo_drop_100 (by decide) ?_
  refine g_iload_n d_Mo_drop_103 rfl 2 rfl ?_
  refine g_iadd d_Mo_drop_104 ?_
  refine g_iload d_Mo_drop_105 3 rfl ?_
  refine g_if_eq (tgt := 114) d_Mo_drop_107 (by decide) (fun c17 => ?_) (fun c17 => ?_)
  · rw [if_pos c17] at h
    refine g_iconst (v := 1) d_Mo_drop_114 (by decide) ?_
    refine gGo_sub [1, 2, 0] rfl ?_
    exact t_Mo_drop_b115 g0 c0 n0 h0 M x3 s0 1 (149 + x3) _ h
  · rw [if_neg c17] at h
    refine g_iconst (v := 2) d_Mo_drop_110 (by decide) ?_
    refine g_goto (tgt := 115) d_Mo_drop_111 (by decide) ?_
    refine gGo_sub [1, 2, 0] rfl ?_
    exact t_Mo_drop_b115 g0 c0 n0 h0 M x3 s0 2 (149 + x3) _ h
noncomputable def f_Mo_drop_b89 (g0 : Nat) (c0 : Nat) (n0 : Nat) (M : gMem) (x3 : Int32) (x4 : Int32) (s0 : Int32) (s1 : Int32) : Option gMem :=
  if s1 = s0 then
    f_Mo_drop_b97 g0 c0 n0 M x3 x4 1
  else
    f_Mo_drop_b97 g0 c0 n0 M x3 x4 0
theorem t_Mo_drop_b89 {l : Launch} {ε : gEnv} (g0 : Nat) (c0 : Nat) (n0 : Nat) (h0 : gHas ε g0 c0 (0, n0, [])) (M : gMem) (x3 : Int32) (x4 : Int32) (s0 : Int32) (s1 : Int32) (r : gMem) (h : f_Mo_drop_b89 g0 c0 n0 M x3 x4 s0 s1 = some r) : gGo l ε k_Mo_drop (gR 1 24) (gFn ε none r) 89 [(0, .ref (ε.2.2.1 g0 c0)), (3, .int x3), (4, .int x4)] [.int s0, .int s1] M := by
  unfold f_Mo_drop_b89 at h
  refine g_icmp_ne (tgt := 96) d_Mo_drop_89 (by decide) (fun c18 => ?_) (fun c18 => ?_)
  · rw [if_neg c18] at h
    refine g_iconst (v := 0) d_Mo_drop_96 (by decide) ?_
    exact t_Mo_drop_b97 g0 c0 n0 h0 M x3 x4 0 _ h
  · rw [if_pos c18] at h
    refine g_iconst (v := 1) d_Mo_drop_92 (by decide) ?_
    refine g_goto (tgt := 97) d_Mo_drop_93 (by decide) ?_
    exact t_Mo_drop_b97 g0 c0 n0 h0 M x3 x4 1 _ h
noncomputable def f_Mo_drop_b66 (g0 : Nat) (c0 : Nat) (n0 : Nat) (M : gMem) (x1 : Int32) (x2 : Int32) (x3 : Int32) (s0 : Int32) : Option gMem :=
  (f_Mo_suit x2).bind fun q7 =>
  (f_Mo_wasDealt g0 c0 n0 M x1 q7).bind fun q8 =>
  if (gRem q8 2) = 0 then
    f_Mo_drop_b89 g0 c0 n0 M x3 s0 1 s0
  else
    f_Mo_drop_b89 g0 c0 n0 M x3 s0 0 s0
theorem t_Mo_drop_b66 {l : Launch} {ε : gEnv} (g0 : Nat) (c0 : Nat) (n0 : Nat) (h0 : gHas ε g0 c0 (0, n0, [])) (M : gMem) (x1 : Int32) (x2 : Int32) (x3 : Int32) (s0 : Int32) (r : gMem) (h : f_Mo_drop_b66 g0 c0 n0 M x1 x2 x3 s0 = some r) : gGo l ε k_Mo_drop (gR 1 24) (gFn ε none r) 66 [(0, .ref (ε.2.2.1 g0 c0)), (1, .int x1), (2, .int x2), (3, .int x3)] [.int s0] M := by
  unfold f_Mo_drop_b66 at h
  refine g_istore (L' := [(4, .int s0), (0, .ref (ε.2.2.1 g0 c0)), (1, .int x1), (2, .int x2), (3, .int x3)]) d_Mo_drop_66 (by decide) rfl ?_
  refine g_iload d_Mo_drop_68 0 rfl ?_
  refine g_aload_n d_Mo_drop_70 rfl 1 rfl ?_
  refine g_iload_n d_Mo_drop_71 rfl 2 rfl ?_
  refine g_iload_n d_Mo_drop_72 rfl 3 rfl ?_
  obtain ⟨q7, hq7, h⟩ := gOb h
  refine g_callS_i (As := [.int x2]) (rest := [.int x1, .ref (ε.2.2.1 g0 c0), .int s0]) (ct_Mo_suit M x2 _ hq7) d_Mo_drop_73 ca_Mo_suit w_1087 rfl rfl (Nat.le_of_ble_eq_true rfl) ⟨(Nat.le_of_ble_eq_true rfl), (Nat.le_of_ble_eq_true rfl)⟩ ?_
  obtain ⟨q8, hq8, h⟩ := gOb h
  refine g_callS_i (As := [.ref (ε.2.2.1 g0 c0), .int x1, .int q7]) (rest := [.int s0]) (ct_Mo_wasDealt g0 c0 n0 h0 M x1 q7 _ hq8) d_Mo_drop_76 ca_Mo_wasDealt w_1108 rfl rfl (Nat.le_of_ble_eq_true rfl) ⟨(Nat.le_of_ble_eq_true rfl), (Nat.le_of_ble_eq_true rfl)⟩ ?_
  refine g_iconst (v := 2) d_Mo_drop_79 (by decide) ?_
  refine g_rem d_Mo_drop_80 (by decide) ?_
  refine g_if_ne (tgt := 88) d_Mo_drop_81 (by decide) (fun c19 => ?_) (fun c19 => ?_)
  · rw [if_neg c19] at h
    refine g_iconst (v := 0) d_Mo_drop_88 (by decide) ?_
    refine gGo_sub [1, 4, 0] rfl ?_
    exact t_Mo_drop_b89 g0 c0 n0 h0 M x3 s0 0 s0 _ h
  · rw [if_pos c19] at h
    refine g_iconst (v := 1) d_Mo_drop_84 (by decide) ?_
    refine g_goto (tgt := 89) d_Mo_drop_85 (by decide) ?_
    refine gGo_sub [1, 4, 0] rfl ?_
    exact t_Mo_drop_b89 g0 c0 n0 h0 M x3 s0 1 s0 _ h
noncomputable def f_Mo_drop (g0 : Nat) (c0 : Nat) (n0 : Nat) (M : gMem) (a1 : Int32) (a2 : Int32) : Option gMem :=
  (f_Mo_suit a2).bind fun q1 =>
  (gRd n0 (M g0 c0) (117 + ((4 * a1) + q1))).bind fun v2 =>
  (gWr M g0 c0 n0 (117 + ((4 * a1) + q1)) (v2 + 1)).bind fun M3 =>
  (gRd n0 (M3 g0 c0) (117 + ((4 * a1) + q1))).bind fun v4 =>
  if v4 = 1 then
    (gWr M3 g0 c0 n0 (133 + ((4 * a1) + q1)) a2).bind fun M22 =>
    some M22
  else
    (gRd n0 (M3 g0 c0) (117 + ((4 * a1) + q1))).bind fun v5 =>
    if v5 = 2 then
      (gRd n0 (M3 g0 c0) (133 + ((4 * a1) + q1))).bind fun v6 =>
      if v6 ≤ a2 then
        f_Mo_drop_b66 g0 c0 n0 M3 a1 a2 ((4 * a1) + q1) 0
      else
        f_Mo_drop_b66 g0 c0 n0 M3 a1 a2 ((4 * a1) + q1) 1
    else
      some M3
theorem t_Mo_drop {l : Launch} {ε : gEnv} (g0 : Nat) (c0 : Nat) (n0 : Nat) (h0 : gHas ε g0 c0 (0, n0, [])) (M : gMem) (a1 : Int32) (a2 : Int32) (r : gMem) (h : f_Mo_drop g0 c0 n0 M a1 a2 = some r) : gGo l ε k_Mo_drop (gR 1 24) (gFn ε none r) 0 [(0, .ref (ε.2.2.1 g0 c0)), (1, .int a1), (2, .int a2)] [] M := by
  unfold f_Mo_drop at h
  refine g_iconst (v := 4) d_Mo_drop_0 (by decide) ?_
  refine g_iload_n d_Mo_drop_1 rfl 1 rfl ?_
  refine g_imul d_Mo_drop_2 ?_
  refine g_iload_n d_Mo_drop_3 rfl 2 rfl ?_
  obtain ⟨q1, hq1, h⟩ := gOb h
  refine g_callS_i (As := [.int a2]) (rest := [.int (4 * a1)]) (ct_Mo_suit M a2 _ hq1) d_Mo_drop_4 ca_Mo_suit w_1087 rfl rfl (Nat.le_of_ble_eq_true rfl) ⟨(Nat.le_of_ble_eq_true rfl), (Nat.le_of_ble_eq_true rfl)⟩ ?_
  refine g_iadd d_Mo_drop_7 ?_
  refine g_istore_n (L' := [(3, .int ((4 * a1) + q1)), (0, .ref (ε.2.2.1 g0 c0)), (1, .int a1), (2, .int a2)]) d_Mo_drop_8 rfl (by decide) rfl ?_
  refine g_aload_n d_Mo_drop_9 rfl 1 rfl ?_
  refine g_bipush (v := 117) d_Mo_drop_10 (by decide) ?_
  refine g_iload_n d_Mo_drop_12 rfl 0 rfl ?_
  refine g_iadd d_Mo_drop_13 ?_
  refine g_dup2 d_Mo_drop_14 rfl rfl ?_
  obtain ⟨v2, hv2, h⟩ := gOb h
  refine g_iaload d_Mo_drop_15 h0 hv2 ?_
  refine g_iconst (v := 1) d_Mo_drop_16 (by decide) ?_
  refine g_iadd d_Mo_drop_17 ?_
  obtain ⟨M3, hM3, h⟩ := gOb h
  refine g_iastore d_Mo_drop_18 h0 hM3 ?_
  refine g_aload_n d_Mo_drop_19 rfl 1 rfl ?_
  refine g_bipush (v := 117) d_Mo_drop_20 (by decide) ?_
  refine g_iload_n d_Mo_drop_22 rfl 0 rfl ?_
  refine g_iadd d_Mo_drop_23 ?_
  obtain ⟨v4, hv4, h⟩ := gOb h
  refine g_iaload d_Mo_drop_24 h0 hv4 ?_
  refine g_iconst (v := 1) d_Mo_drop_25 (by decide) ?_
  refine g_icmp_ne (tgt := 40) d_Mo_drop_26 (by decide) (fun c23 => ?_) (fun c23 => ?_)
  · rw [if_neg c23] at h
    refine g_aload_n d_Mo_drop_40 rfl 1 rfl ?_
    refine g_bipush (v := 117) d_Mo_drop_41 (by decide) ?_
    refine g_iload_n d_Mo_drop_43 rfl 0 rfl ?_
    refine g_iadd d_Mo_drop_44 ?_
    obtain ⟨v5, hv5, h⟩ := gOb h
    refine g_iaload d_Mo_drop_45 h0 hv5 ?_
    refine g_iconst (v := 2) d_Mo_drop_46 (by decide) ?_
    refine g_icmp_ne (tgt := 158) d_Mo_drop_47 (by decide) (fun c21 => ?_) (fun c21 => ?_)
    · rw [if_neg c21] at h
      obtain rfl := Option.some.inj h
      exact g_vret d_Mo_drop_158 rfl
    · rw [if_pos c21] at h
      refine g_aload_n d_Mo_drop_50 rfl 1 rfl ?_
      refine g_sipush (v := 133) d_Mo_drop_51 (by decide) ?_
      refine g_iload_n d_Mo_drop_54 rfl 0 rfl ?_
      refine g_iadd d_Mo_drop_55 ?_
      obtain ⟨v6, hv6, h⟩ := gOb h
      refine g_iaload d_Mo_drop_56 h0 hv6 ?_
      refine g_iload_n d_Mo_drop_57 rfl 3 rfl ?_
      refine g_icmp_le (tgt := 65) d_Mo_drop_58 (by decide) (fun c20 => ?_) (fun c20 => ?_)
      · rw [if_pos c20] at h
        refine g_iconst (v := 0) d_Mo_drop_65 (by decide) ?_
        refine gGo_sub [1, 2, 3, 0] rfl ?_
        exact t_Mo_drop_b66 g0 c0 n0 h0 M3 a1 a2 ((4 * a1) + q1) 0 _ h
      · rw [if_neg c20] at h
        refine g_iconst (v := 1) d_Mo_drop_61 (by decide) ?_
        refine g_goto (tgt := 66) d_Mo_drop_62 (by decide) ?_
        refine gGo_sub [1, 2, 3, 0] rfl ?_
        exact t_Mo_drop_b66 g0 c0 n0 h0 M3 a1 a2 ((4 * a1) + q1) 1 _ h
  · rw [if_pos c23] at h
    refine g_aload_n d_Mo_drop_29 rfl 1 rfl ?_
    refine g_sipush (v := 133) d_Mo_drop_30 (by decide) ?_
    refine g_iload_n d_Mo_drop_33 rfl 0 rfl ?_
    refine g_iadd d_Mo_drop_34 ?_
    refine g_iload_n d_Mo_drop_35 rfl 3 rfl ?_
    obtain ⟨M22, hM22, h⟩ := gOb h
    refine g_iastore d_Mo_drop_36 h0 hM22 ?_
    refine g_goto (tgt := 158) d_Mo_drop_37 (by decide) ?_
    obtain rfl := Option.some.inj h
    exact g_vret d_Mo_drop_158 rfl
theorem ct_Mo_drop {l : Launch} {ε : gEnv} (g0 : Nat) (c0 : Nat) (n0 : Nat) (h0 : gHas ε g0 c0 (0, n0, [])) (M : gMem) (a1 : Int32) (a2 : Int32) (r : gMem) (h : f_Mo_drop g0 c0 n0 M a1 a2 = some r) : gCt l ε k_Mo_drop 1 24 [.ref (ε.2.2.1 g0 c0), .int a1, .int a2] M none r :=
  gCt_of (by decide) (Nat.le_of_ble_eq_true rfl) rfl (t_Mo_drop g0 c0 n0 h0 M a1 a2 r h)
abbrev k_Mo_winner : gMD := (⟨"DropSignalsModel", "winner", "([I)I"⟩, prog_11_method_25_code, 6, (some .int))
theorem w_1115 : Cond.static ⟨"DropSignalsModel", "winner", "([I)I"⟩ ∈ gWs := gWs_in (i := 1115) (by decide +kernel) rfl
set_option maxRecDepth 100000 in
theorem ca_Mo_winner : gCaS k_Mo_winner 1 := ⟨⟨gWs_in (i := 1116) rfl rfl, w_43, by decide, by decide, by decide +kernel⟩, w_1115⟩
theorem d_Mo_winner_0 : decode prog_11_method_25_code 0 = .ok (.iconst 0, 1) := by decide +kernel
theorem d_Mo_winner_1 : decode prog_11_method_25_code 1 = .ok (.istore_n 1, 1) := by decide +kernel
theorem d_Mo_winner_2 : decode prog_11_method_25_code 2 = .ok (.iconst 1, 1) := by decide +kernel
theorem d_Mo_winner_3 : decode prog_11_method_25_code 3 = .ok (.istore_n 2, 1) := by decide +kernel
theorem d_Mo_winner_4 : decode prog_11_method_25_code 4 = .ok (.iload_n 2, 1) := by decide +kernel
theorem d_Mo_winner_5 : decode prog_11_method_25_code 5 = .ok (.iconst 4, 1) := by decide +kernel
theorem d_Mo_winner_6 : decode prog_11_method_25_code 6 = .ok (.if_icmp .ge 87, 3) := by decide +kernel
theorem d_Mo_winner_9 : decode prog_11_method_25_code 9 = .ok (.aload_n 0, 1) := by decide +kernel
theorem d_Mo_winner_10 : decode prog_11_method_25_code 10 = .ok (.bipush 16, 2) := by decide +kernel
theorem d_Mo_winner_12 : decode prog_11_method_25_code 12 = .ok (.iload_n 2, 1) := by decide +kernel
theorem d_Mo_winner_13 : decode prog_11_method_25_code 13 = .ok (.iadd, 1) := by decide +kernel
theorem d_Mo_winner_14 : decode prog_11_method_25_code 14 = .ok (.iaload, 1) := by decide +kernel
theorem d_Mo_winner_15 : decode prog_11_method_25_code 15 = .ok (.istore_n 3, 1) := by decide +kernel
theorem d_Mo_winner_16 : decode prog_11_method_25_code 16 = .ok (.aload_n 0, 1) := by decide +kernel
theorem d_Mo_winner_17 : decode prog_11_method_25_code 17 = .ok (.bipush 16, 2) := by decide +kernel
theorem d_Mo_winner_19 : decode prog_11_method_25_code 19 = .ok (.iload_n 1, 1) := by decide +kernel
theorem d_Mo_winner_20 : decode prog_11_method_25_code 20 = .ok (.iadd, 1) := by decide +kernel
theorem d_Mo_winner_21 : decode prog_11_method_25_code 21 = .ok (.iaload, 1) := by decide +kernel
theorem d_Mo_winner_22 : decode prog_11_method_25_code 22 = .ok (.istore 4, 2) := by decide +kernel
theorem d_Mo_winner_24 : decode prog_11_method_25_code 24 = .ok (.iload_n 3, 1) := by decide +kernel
theorem d_Mo_winner_25 : decode prog_11_method_25_code 25 = .ok (.invokestatic 63, 3) := by decide +kernel
theorem d_Mo_winner_28 : decode prog_11_method_25_code 28 = .ok (.aload_n 0, 1) := by decide +kernel
theorem d_Mo_winner_29 : decode prog_11_method_25_code 29 = .ok (.iconst 3, 1) := by decide +kernel
theorem d_Mo_winner_30 : decode prog_11_method_25_code 30 = .ok (.iaload, 1) := by decide +kernel
theorem d_Mo_winner_31 : decode prog_11_method_25_code 31 = .ok (.bipush 10, 2) := by decide +kernel
theorem d_Mo_winner_33 : decode prog_11_method_25_code 33 = .ok (.irem, 1) := by decide +kernel
theorem d_Mo_winner_34 : decode prog_11_method_25_code 34 = .ok (.if_icmp .ne 21, 3) := by decide +kernel
theorem d_Mo_winner_37 : decode prog_11_method_25_code 37 = .ok (.iload 4, 2) := by decide +kernel
theorem d_Mo_winner_39 : decode prog_11_method_25_code 39 = .ok (.invokestatic 63, 3) := by decide +kernel
theorem d_Mo_winner_42 : decode prog_11_method_25_code 42 = .ok (.aload_n 0, 1) := by decide +kernel
theorem d_Mo_winner_43 : decode prog_11_method_25_code 43 = .ok (.iconst 3, 1) := by decide +kernel
theorem d_Mo_winner_44 : decode prog_11_method_25_code 44 = .ok (.iaload, 1) := by decide +kernel
theorem d_Mo_winner_45 : decode prog_11_method_25_code 45 = .ok (.bipush 10, 2) := by decide +kernel
theorem d_Mo_winner_47 : decode prog_11_method_25_code 47 = .ok (.irem, 1) := by decide +kernel
theorem d_Mo_winner_48 : decode prog_11_method_25_code 48 = .ok (.if_icmp .eq 7, 3) := by decide +kernel
theorem d_Mo_winner_51 : decode prog_11_method_25_code 51 = .ok (.iconst 1, 1) := by decide +kernel
theorem d_Mo_winner_52 : decode prog_11_method_25_code 52 = .ok (.goto 4, 3) := by decide +kernel
theorem d_Mo_winner_55 : decode prog_11_method_25_code 55 = .ok (.iconst 0, 1) := by decide +kernel
theorem d_Mo_winner_56 : decode prog_11_method_25_code 56 = .ok (.istore 5, 2) := by decide +kernel
theorem d_Mo_winner_58 : decode prog_11_method_25_code 58 = .ok (.iload 5, 2) := by decide +kernel
theorem d_Mo_winner_60 : decode prog_11_method_25_code 60 = .ok (.ifCond .ne 21, 3) := by decide +kernel
theorem d_Mo_winner_63 : decode prog_11_method_25_code 63 = .ok (.iload_n 3, 1) := by decide +kernel
theorem d_Mo_winner_64 : decode prog_11_method_25_code 64 = .ok (.invokestatic 63, 3) := by decide +kernel
theorem d_Mo_winner_67 : decode prog_11_method_25_code 67 = .ok (.iload 4, 2) := by decide +kernel
theorem d_Mo_winner_69 : decode prog_11_method_25_code 69 = .ok (.invokestatic 63, 3) := by decide +kernel
theorem d_Mo_winner_72 : decode prog_11_method_25_code 72 = .ok (.if_icmp .ne 13, 3) := by decide +kernel
theorem d_Mo_winner_75 : decode prog_11_method_25_code 75 = .ok (.iload_n 3, 1) := by decide +kernel
theorem d_Mo_winner_76 : decode prog_11_method_25_code 76 = .ok (.iload 4, 2) := by decide +kernel
theorem d_Mo_winner_78 : decode prog_11_method_25_code 78 = .ok (.if_icmp .le 7, 3) := by decide +kernel
theorem d_Mo_winner_81 : decode prog_11_method_25_code 81 = .ok (.iload_n 2, 1) := by decide +kernel
theorem d_Mo_winner_82 : decode prog_11_method_25_code 82 = .ok (.goto 4, 3) := by decide +kernel
theorem d_Mo_winner_85 : decode prog_11_method_25_code 85 = .ok (.iload_n 1, 1) := by decide +kernel
theorem d_Mo_winner_86 : decode prog_11_method_25_code 86 = .ok (.istore_n 1, 1) := by decide +kernel
theorem d_Mo_winner_87 : decode prog_11_method_25_code 87 = .ok (.iinc 2 1, 3) := by decide +kernel
theorem d_Mo_winner_90 : decode prog_11_method_25_code 90 = .ok (.goto (-86), 3) := by decide +kernel
theorem d_Mo_winner_93 : decode prog_11_method_25_code 93 = .ok (.iload_n 1, 1) := by decide +kernel
theorem d_Mo_winner_94 : decode prog_11_method_25_code 94 = .ok (.ireturn, 1) := by decide +kernel
noncomputable def f_Mo_winner_b86 (g0 : Nat) (c0 : Nat) (n0 : Nat) (M : gMem) (x2 : Int32) (s0 : Int32) : Option ((Int32 × Int32) ⊕ Int32) :=
  some (.inl (s0, (x2 + 1)))
theorem t_Mo_winner_b86 {l : Launch} {ε : gEnv} (g0 : Nat) (c0 : Nat) (n0 : Nat) (h0 : gHas ε g0 c0 (0, n0, [])) (M : gMem) (x2 : Int32) (s0 : Int32) (res : ((Int32 × Int32) ⊕ Int32)) (h : f_Mo_winner_b86 g0 c0 n0 M x2 s0 = some res) (r : Int32) (k1 : ∀ s0 : (Int32 × Int32), res = .inl s0 → gGo l ε k_Mo_winner (gR 1 20) (gFn ε (some (.int r)) M) 4 [(0, .ref (ε.2.2.1 g0 c0)), (1, .int s0.1), (2, .int s0.2)] [] M) (k2 : ∀ r', res = .inr r' → r' = r) : gGo l ε k_Mo_winner (gR 1 20) (gFn ε (some (.int r)) M) 86 [(0, .ref (ε.2.2.1 g0 c0)), (2, .int x2)] [.int s0] M := by
  unfold f_Mo_winner_b86 at h
  refine g_istore_n (L' := [(1, .int s0), (0, .ref (ε.2.2.1 g0 c0)), (2, .int x2)]) d_Mo_winner_86 rfl (by decide) rfl ?_
  refine g_iinc (v := (x2 + 1)) (L' := [(2, .int (x2 + 1)), (1, .int s0), (0, .ref (ε.2.2.1 g0 c0))]) d_Mo_winner_87 (j := 2) rfl rfl (by decide) rfl ?_
  refine g_goto (tgt := 4) d_Mo_winner_90 (by decide) ?_
  refine gGo_sub [2, 1, 0] rfl ?_
  obtain rfl := Option.some.inj h
  exact k1 (s0, (x2 + 1)) rfl
noncomputable def f_Mo_winner_b81 (g0 : Nat) (c0 : Nat) (n0 : Nat) (M : gMem) (x2 : Int32) : Option ((Int32 × Int32) ⊕ Int32) :=
  f_Mo_winner_b86 g0 c0 n0 M x2 x2
theorem t_Mo_winner_b81 {l : Launch} {ε : gEnv} (g0 : Nat) (c0 : Nat) (n0 : Nat) (h0 : gHas ε g0 c0 (0, n0, [])) (M : gMem) (x2 : Int32) (res : ((Int32 × Int32) ⊕ Int32)) (h : f_Mo_winner_b81 g0 c0 n0 M x2 = some res) (r : Int32) (k1 : ∀ s0 : (Int32 × Int32), res = .inl s0 → gGo l ε k_Mo_winner (gR 1 20) (gFn ε (some (.int r)) M) 4 [(0, .ref (ε.2.2.1 g0 c0)), (1, .int s0.1), (2, .int s0.2)] [] M) (k2 : ∀ r', res = .inr r' → r' = r) : gGo l ε k_Mo_winner (gR 1 20) (gFn ε (some (.int r)) M) 81 [(0, .ref (ε.2.2.1 g0 c0)), (2, .int x2)] [] M := by
  unfold f_Mo_winner_b81 at h
  refine g_iload_n d_Mo_winner_81 rfl 1 rfl ?_
  refine g_goto (tgt := 86) d_Mo_winner_82 (by decide) ?_
  exact t_Mo_winner_b86 g0 c0 n0 h0 M x2 x2 _ h r k1 k2
noncomputable def f_Mo_winner_b85 (g0 : Nat) (c0 : Nat) (n0 : Nat) (M : gMem) (x1 : Int32) (x2 : Int32) : Option ((Int32 × Int32) ⊕ Int32) :=
  f_Mo_winner_b86 g0 c0 n0 M x2 x1
theorem t_Mo_winner_b85 {l : Launch} {ε : gEnv} (g0 : Nat) (c0 : Nat) (n0 : Nat) (h0 : gHas ε g0 c0 (0, n0, [])) (M : gMem) (x1 : Int32) (x2 : Int32) (res : ((Int32 × Int32) ⊕ Int32)) (h : f_Mo_winner_b85 g0 c0 n0 M x1 x2 = some res) (r : Int32) (k1 : ∀ s0 : (Int32 × Int32), res = .inl s0 → gGo l ε k_Mo_winner (gR 1 20) (gFn ε (some (.int r)) M) 4 [(0, .ref (ε.2.2.1 g0 c0)), (1, .int s0.1), (2, .int s0.2)] [] M) (k2 : ∀ r', res = .inr r' → r' = r) : gGo l ε k_Mo_winner (gR 1 20) (gFn ε (some (.int r)) M) 85 [(0, .ref (ε.2.2.1 g0 c0)), (1, .int x1), (2, .int x2)] [] M := by
  unfold f_Mo_winner_b85 at h
  refine g_iload_n d_Mo_winner_85 rfl 1 rfl ?_
  refine gGo_sub [0, 2] rfl ?_
  exact t_Mo_winner_b86 g0 c0 n0 h0 M x2 x1 _ h r k1 k2
noncomputable def f_Mo_winner_b56 (g0 : Nat) (c0 : Nat) (n0 : Nat) (M : gMem) (x1 : Int32) (x2 : Int32) (x3 : Int32) (x4 : Int32) (s0 : Int32) : Option ((Int32 × Int32) ⊕ Int32) :=
  if s0 = 0 then
    (f_Mo_suit x3).bind fun q5 =>
    (f_Mo_suit x4).bind fun q6 =>
    if q5 = q6 then
      if x3 ≤ x4 then
        f_Mo_winner_b85 g0 c0 n0 M x1 x2
      else
        f_Mo_winner_b81 g0 c0 n0 M x2
    else
      f_Mo_winner_b85 g0 c0 n0 M x1 x2
  else
    f_Mo_winner_b81 g0 c0 n0 M x2
theorem t_Mo_winner_b56 {l : Launch} {ε : gEnv} (g0 : Nat) (c0 : Nat) (n0 : Nat) (h0 : gHas ε g0 c0 (0, n0, [])) (M : gMem) (x1 : Int32) (x2 : Int32) (x3 : Int32) (x4 : Int32) (s0 : Int32) (res : ((Int32 × Int32) ⊕ Int32)) (h : f_Mo_winner_b56 g0 c0 n0 M x1 x2 x3 x4 s0 = some res) (r : Int32) (k1 : ∀ s0 : (Int32 × Int32), res = .inl s0 → gGo l ε k_Mo_winner (gR 1 20) (gFn ε (some (.int r)) M) 4 [(0, .ref (ε.2.2.1 g0 c0)), (1, .int s0.1), (2, .int s0.2)] [] M) (k2 : ∀ r', res = .inr r' → r' = r) : gGo l ε k_Mo_winner (gR 1 20) (gFn ε (some (.int r)) M) 56 [(0, .ref (ε.2.2.1 g0 c0)), (1, .int x1), (2, .int x2), (3, .int x3), (4, .int x4)] [.int s0] M := by
  unfold f_Mo_winner_b56 at h
  refine g_istore (L' := [(5, .int s0), (0, .ref (ε.2.2.1 g0 c0)), (1, .int x1), (2, .int x2), (3, .int x3), (4, .int x4)]) d_Mo_winner_56 (by decide) rfl ?_
  refine g_iload d_Mo_winner_58 0 rfl ?_
  refine g_if_ne (tgt := 81) d_Mo_winner_60 (by decide) (fun c9 => ?_) (fun c9 => ?_)
  · rw [if_neg c9] at h
    refine gGo_sub [1, 3] rfl ?_
    exact t_Mo_winner_b81 g0 c0 n0 h0 M x2 _ h r k1 k2
  · rw [if_pos c9] at h
    refine g_iload_n d_Mo_winner_63 rfl 4 rfl ?_
    obtain ⟨q5, hq5, h⟩ := gOb h
    refine g_callS_i (As := [.int x3]) (rest := []) (ct_Mo_suit M x3 _ hq5) d_Mo_winner_64 ca_Mo_suit w_1087 rfl rfl (Nat.le_of_ble_eq_true rfl) ⟨(Nat.le_of_ble_eq_true rfl), (Nat.le_of_ble_eq_true rfl)⟩ ?_
    refine g_iload d_Mo_winner_67 5 rfl ?_
    obtain ⟨q6, hq6, h⟩ := gOb h
    refine g_callS_i (As := [.int x4]) (rest := [.int q5]) (ct_Mo_suit M x4 _ hq6) d_Mo_winner_69 ca_Mo_suit w_1087 rfl rfl (Nat.le_of_ble_eq_true rfl) ⟨(Nat.le_of_ble_eq_true rfl), (Nat.le_of_ble_eq_true rfl)⟩ ?_
    refine g_icmp_ne (tgt := 85) d_Mo_winner_72 (by decide) (fun c8 => ?_) (fun c8 => ?_)
    · rw [if_neg c8] at h
      refine gGo_sub [1, 2, 3] rfl ?_
      exact t_Mo_winner_b85 g0 c0 n0 h0 M x1 x2 _ h r k1 k2
    · rw [if_pos c8] at h
      refine g_iload_n d_Mo_winner_75 rfl 4 rfl ?_
      refine g_iload d_Mo_winner_76 5 rfl ?_
      refine g_icmp_le (tgt := 85) d_Mo_winner_78 (by decide) (fun c7 => ?_) (fun c7 => ?_)
      · rw [if_pos c7] at h
        refine gGo_sub [1, 2, 3] rfl ?_
        exact t_Mo_winner_b85 g0 c0 n0 h0 M x1 x2 _ h r k1 k2
      · rw [if_neg c7] at h
        refine gGo_sub [1, 3] rfl ?_
        exact t_Mo_winner_b81 g0 c0 n0 h0 M x2 _ h r k1 k2
noncomputable def f_Mo_winner_b55 (g0 : Nat) (c0 : Nat) (n0 : Nat) (M : gMem) (x1 : Int32) (x2 : Int32) (x3 : Int32) (x4 : Int32) : Option ((Int32 × Int32) ⊕ Int32) :=
  f_Mo_winner_b56 g0 c0 n0 M x1 x2 x3 x4 0
theorem t_Mo_winner_b55 {l : Launch} {ε : gEnv} (g0 : Nat) (c0 : Nat) (n0 : Nat) (h0 : gHas ε g0 c0 (0, n0, [])) (M : gMem) (x1 : Int32) (x2 : Int32) (x3 : Int32) (x4 : Int32) (res : ((Int32 × Int32) ⊕ Int32)) (h : f_Mo_winner_b55 g0 c0 n0 M x1 x2 x3 x4 = some res) (r : Int32) (k1 : ∀ s0 : (Int32 × Int32), res = .inl s0 → gGo l ε k_Mo_winner (gR 1 20) (gFn ε (some (.int r)) M) 4 [(0, .ref (ε.2.2.1 g0 c0)), (1, .int s0.1), (2, .int s0.2)] [] M) (k2 : ∀ r', res = .inr r' → r' = r) : gGo l ε k_Mo_winner (gR 1 20) (gFn ε (some (.int r)) M) 55 [(0, .ref (ε.2.2.1 g0 c0)), (1, .int x1), (2, .int x2), (3, .int x3), (4, .int x4)] [] M := by
  unfold f_Mo_winner_b55 at h
  refine g_iconst (v := 0) d_Mo_winner_55 (by decide) ?_
  exact t_Mo_winner_b56 g0 c0 n0 h0 M x1 x2 x3 x4 0 _ h r k1 k2
noncomputable def f_Mo_winner_s4 (g0 : Nat) (c0 : Nat) (n0 : Nat) (M : gMem) (x1 : Int32) (x2 : Int32) : Option ((Int32 × Int32) ⊕ Int32) :=
  if 4 ≤ x2 then
    some (.inr x1)
  else
    (gRd n0 (M g0 c0) (16 + x2)).bind fun v1 =>
    (gRd n0 (M g0 c0) (16 + x1)).bind fun v2 =>
    (f_Mo_suit v1).bind fun q3 =>
    (gRd n0 (M g0 c0) 3).bind fun v4 =>
    if q3 = (gRem v4 10) then
      (f_Mo_suit v2).bind fun q10 =>
      (gRd n0 (M g0 c0) 3).bind fun v11 =>
      if q10 = (gRem v11 10) then
        f_Mo_winner_b55 g0 c0 n0 M x1 x2 v1 v2
      else
        f_Mo_winner_b56 g0 c0 n0 M x1 x2 v1 v2 1
    else
      f_Mo_winner_b55 g0 c0 n0 M x1 x2 v1 v2
theorem t_Mo_winner_s4 {l : Launch} {ε : gEnv} (g0 : Nat) (c0 : Nat) (n0 : Nat) (h0 : gHas ε g0 c0 (0, n0, [])) (M : gMem) (x1 : Int32) (x2 : Int32) (res : ((Int32 × Int32) ⊕ Int32)) (h : f_Mo_winner_s4 g0 c0 n0 M x1 x2 = some res) (r : Int32) (k1 : ∀ s0 : (Int32 × Int32), res = .inl s0 → gGo l ε k_Mo_winner (gR 1 20) (gFn ε (some (.int r)) M) 4 [(0, .ref (ε.2.2.1 g0 c0)), (1, .int s0.1), (2, .int s0.2)] [] M) (k2 : ∀ r', res = .inr r' → r' = r) : gGo l ε k_Mo_winner (gR 1 20) (gFn ε (some (.int r)) M) 4 [(0, .ref (ε.2.2.1 g0 c0)), (1, .int x1), (2, .int x2)] [] M := by
  unfold f_Mo_winner_s4 at h
  refine g_iload_n d_Mo_winner_4 rfl 2 rfl ?_
  refine g_iconst (v := 4) d_Mo_winner_5 (by decide) ?_
  refine g_icmp_ge (tgt := 93) d_Mo_winner_6 (by decide) (fun c14 => ?_) (fun c14 => ?_)
  · rw [if_pos c14] at h
    refine g_iload_n d_Mo_winner_93 rfl 1 rfl ?_
    obtain rfl := Option.some.inj h
    have e9 := k2 _ rfl
    subst e9
    exact g_iret d_Mo_winner_94 rfl
  · rw [if_neg c14] at h
    refine g_aload_n d_Mo_winner_9 rfl 0 rfl ?_
    refine g_bipush (v := 16) d_Mo_winner_10 (by decide) ?_
    refine g_iload_n d_Mo_winner_12 rfl 2 rfl ?_
    refine g_iadd d_Mo_winner_13 ?_
    obtain ⟨v1, hv1, h⟩ := gOb h
    refine g_iaload d_Mo_winner_14 h0 hv1 ?_
    refine g_istore_n (L' := [(3, .int v1), (0, .ref (ε.2.2.1 g0 c0)), (1, .int x1), (2, .int x2)]) d_Mo_winner_15 rfl (by decide) rfl ?_
    refine g_aload_n d_Mo_winner_16 rfl 1 rfl ?_
    refine g_bipush (v := 16) d_Mo_winner_17 (by decide) ?_
    refine g_iload_n d_Mo_winner_19 rfl 2 rfl ?_
    refine g_iadd d_Mo_winner_20 ?_
    obtain ⟨v2, hv2, h⟩ := gOb h
    refine g_iaload d_Mo_winner_21 h0 hv2 ?_
    refine g_istore (L' := [(4, .int v2), (3, .int v1), (0, .ref (ε.2.2.1 g0 c0)), (1, .int x1), (2, .int x2)]) d_Mo_winner_22 (by decide) rfl ?_
    refine g_iload_n d_Mo_winner_24 rfl 1 rfl ?_
    obtain ⟨q3, hq3, h⟩ := gOb h
    refine g_callS_i (As := [.int v1]) (rest := []) (ct_Mo_suit M v1 _ hq3) d_Mo_winner_25 ca_Mo_suit w_1087 rfl rfl (Nat.le_of_ble_eq_true rfl) ⟨(Nat.le_of_ble_eq_true rfl), (Nat.le_of_ble_eq_true rfl)⟩ ?_
    refine g_aload_n d_Mo_winner_28 rfl 2 rfl ?_
    refine g_iconst (v := 3) d_Mo_winner_29 (by decide) ?_
    obtain ⟨v4, hv4, h⟩ := gOb h
    refine g_iaload d_Mo_winner_30 h0 hv4 ?_
    refine g_bipush (v := 10) d_Mo_winner_31 (by decide) ?_
    refine g_rem d_Mo_winner_33 (by decide) ?_
    refine g_icmp_ne (tgt := 55) d_Mo_winner_34 (by decide) (fun c13 => ?_) (fun c13 => ?_)
    · rw [if_neg c13] at h
      refine gGo_sub [2, 3, 4, 1, 0] rfl ?_
      exact t_Mo_winner_b55 g0 c0 n0 h0 M x1 x2 v1 v2 _ h r k1 k2
    · rw [if_pos c13] at h
      refine g_iload d_Mo_winner_37 0 rfl ?_
      obtain ⟨q10, hq10, h⟩ := gOb h
      refine g_callS_i (As := [.int v2]) (rest := []) (ct_Mo_suit M v2 _ hq10) d_Mo_winner_39 ca_Mo_suit w_1087 rfl rfl (Nat.le_of_ble_eq_true rfl) ⟨(Nat.le_of_ble_eq_true rfl), (Nat.le_of_ble_eq_true rfl)⟩ ?_
      refine g_aload_n d_Mo_winner_42 rfl 2 rfl ?_
      refine g_iconst (v := 3) d_Mo_winner_43 (by decide) ?_
      obtain ⟨v11, hv11, h⟩ := gOb h
      refine g_iaload d_Mo_winner_44 h0 hv11 ?_
      refine g_bipush (v := 10) d_Mo_winner_45 (by decide) ?_
      refine g_rem d_Mo_winner_47 (by decide) ?_
      refine g_icmp_eq (tgt := 55) d_Mo_winner_48 (by decide) (fun c12 => ?_) (fun c12 => ?_)
      · rw [if_pos c12] at h
        refine gGo_sub [2, 3, 4, 1, 0] rfl ?_
        exact t_Mo_winner_b55 g0 c0 n0 h0 M x1 x2 v1 v2 _ h r k1 k2
      · rw [if_neg c12] at h
        refine g_iconst (v := 1) d_Mo_winner_51 (by decide) ?_
        refine g_goto (tgt := 56) d_Mo_winner_52 (by decide) ?_
        refine gGo_sub [2, 3, 4, 1, 0] rfl ?_
        exact t_Mo_winner_b56 g0 c0 n0 h0 M x1 x2 v1 v2 1 _ h r k1 k2
noncomputable def f_Mo_winner_l4 (g0 : Nat) (c0 : Nat) (n0 : Nat) (M : gMem) (s : (Int32 × Int32)) : Option Int32 := gLp (fun s => f_Mo_winner_s4 g0 c0 n0 M s.1 s.2) s
theorem t_Mo_winner_l4 {l : Launch} {ε : gEnv} (g0 : Nat) (c0 : Nat) (n0 : Nat) (h0 : gHas ε g0 c0 (0, n0, [])) (M : gMem) (s : (Int32 × Int32)) (r : Int32) (h : f_Mo_winner_l4 g0 c0 n0 M s = some r) : gGo l ε k_Mo_winner (gR 1 20) (gFn ε (some (.int r)) M) 4 [(0, .ref (ε.2.2.1 g0 c0)), (1, .int s.1), (2, .int s.2)] [] M :=
  g_loop _ (fun r s => gGo l ε k_Mo_winner (gR 1 20) (gFn ε (some (.int r)) M) 4 [(0, .ref (ε.2.2.1 g0 c0)), (1, .int s.1), (2, .int s.2)] [] M) (fun s res h r k1 k2 => t_Mo_winner_s4 g0 c0 n0 h0 M s.1 s.2 res h r k1 k2) s r h
noncomputable def f_Mo_winner (g0 : Nat) (c0 : Nat) (n0 : Nat) (M : gMem) : Option Int32 :=
  f_Mo_winner_l4 g0 c0 n0 M (0, 1)
theorem t_Mo_winner {l : Launch} {ε : gEnv} (g0 : Nat) (c0 : Nat) (n0 : Nat) (h0 : gHas ε g0 c0 (0, n0, [])) (M : gMem) (r : Int32) (h : f_Mo_winner g0 c0 n0 M = some r) : gGo l ε k_Mo_winner (gR 1 20) (gFn ε (some (.int r)) M) 0 [(0, .ref (ε.2.2.1 g0 c0))] [] M := by
  unfold f_Mo_winner at h
  refine g_iconst (v := 0) d_Mo_winner_0 (by decide) ?_
  refine g_istore_n (L' := [(1, .int 0), (0, .ref (ε.2.2.1 g0 c0))]) d_Mo_winner_1 rfl (by decide) rfl ?_
  refine g_iconst (v := 1) d_Mo_winner_2 (by decide) ?_
  refine g_istore_n (L' := [(2, .int 1), (1, .int 0), (0, .ref (ε.2.2.1 g0 c0))]) d_Mo_winner_3 rfl (by decide) rfl ?_
  refine gGo_sub [2, 1, 0] rfl ?_
  exact t_Mo_winner_l4 g0 c0 n0 h0 M (0, 1) _ h
theorem ct_Mo_winner {l : Launch} {ε : gEnv} (g0 : Nat) (c0 : Nat) (n0 : Nat) (h0 : gHas ε g0 c0 (0, n0, [])) (M : gMem) (r : Int32) (h : f_Mo_winner g0 c0 n0 M = some r) : gCt l ε k_Mo_winner 1 20 [.ref (ε.2.2.1 g0 c0)] M (some (.int r)) M :=
  gCt_of (by decide) (Nat.le_of_ble_eq_true rfl) rfl (t_Mo_winner g0 c0 n0 h0 M r h)
abbrev k_Mo_trickOver : gMD := (⟨"DropSignalsModel", "trickOver", "([I)V"⟩, prog_11_method_26_code, 5, none)
theorem w_1112 : Cond.static ⟨"DropSignalsModel", "trickOver", "([I)V"⟩ ∈ gWs := gWs_in (i := 1112) (by decide +kernel) rfl
set_option maxRecDepth 100000 in
theorem ca_Mo_trickOver : gCaS k_Mo_trickOver 1 := ⟨⟨gWs_in (i := 1113) rfl rfl, w_43, by decide, by decide, by decide +kernel⟩, w_1112⟩
theorem d_Mo_trickOver_0 : decode prog_11_method_26_code 0 = .ok (.aload_n 0, 1) := by decide +kernel
theorem d_Mo_trickOver_1 : decode prog_11_method_26_code 1 = .ok (.bipush 20, 2) := by decide +kernel
theorem d_Mo_trickOver_3 : decode prog_11_method_26_code 3 = .ok (.iaload, 1) := by decide +kernel
theorem d_Mo_trickOver_4 : decode prog_11_method_26_code 4 = .ok (.aload_n 0, 1) := by decide +kernel
theorem d_Mo_trickOver_5 : decode prog_11_method_26_code 5 = .ok (.invokestatic 91, 3) := by decide +kernel
theorem d_Mo_trickOver_8 : decode prog_11_method_26_code 8 = .ok (.iadd, 1) := by decide +kernel
theorem d_Mo_trickOver_9 : decode prog_11_method_26_code 9 = .ok (.iconst 4, 1) := by decide +kernel
theorem d_Mo_trickOver_10 : decode prog_11_method_26_code 10 = .ok (.irem, 1) := by decide +kernel
theorem d_Mo_trickOver_11 : decode prog_11_method_26_code 11 = .ok (.istore_n 1, 1) := by decide +kernel
theorem d_Mo_trickOver_12 : decode prog_11_method_26_code 12 = .ok (.aload_n 0, 1) := by decide +kernel
theorem d_Mo_trickOver_13 : decode prog_11_method_26_code 13 = .ok (.iconst 5, 1) := by decide +kernel
theorem d_Mo_trickOver_14 : decode prog_11_method_26_code 14 = .ok (.iload_n 1, 1) := by decide +kernel
theorem d_Mo_trickOver_15 : decode prog_11_method_26_code 15 = .ok (.iconst 2, 1) := by decide +kernel
theorem d_Mo_trickOver_16 : decode prog_11_method_26_code 16 = .ok (.irem, 1) := by decide +kernel
theorem d_Mo_trickOver_17 : decode prog_11_method_26_code 17 = .ok (.iadd, 1) := by decide +kernel
theorem d_Mo_trickOver_18 : decode prog_11_method_26_code 18 = .ok (.dup2, 1) := by decide +kernel
theorem d_Mo_trickOver_19 : decode prog_11_method_26_code 19 = .ok (.iaload, 1) := by decide +kernel
theorem d_Mo_trickOver_20 : decode prog_11_method_26_code 20 = .ok (.iconst 1, 1) := by decide +kernel
theorem d_Mo_trickOver_21 : decode prog_11_method_26_code 21 = .ok (.iadd, 1) := by decide +kernel
theorem d_Mo_trickOver_22 : decode prog_11_method_26_code 22 = .ok (.iastore, 1) := by decide +kernel
theorem d_Mo_trickOver_23 : decode prog_11_method_26_code 23 = .ok (.aload_n 0, 1) := by decide +kernel
theorem d_Mo_trickOver_24 : decode prog_11_method_26_code 24 = .ok (.bipush 15, 2) := by decide +kernel
theorem d_Mo_trickOver_26 : decode prog_11_method_26_code 26 = .ok (.iconst 0, 1) := by decide +kernel
theorem d_Mo_trickOver_27 : decode prog_11_method_26_code 27 = .ok (.iastore, 1) := by decide +kernel
theorem d_Mo_trickOver_28 : decode prog_11_method_26_code 28 = .ok (.aload_n 0, 1) := by decide +kernel
theorem d_Mo_trickOver_29 : decode prog_11_method_26_code 29 = .ok (.bipush 20, 2) := by decide +kernel
theorem d_Mo_trickOver_31 : decode prog_11_method_26_code 31 = .ok (.iload_n 1, 1) := by decide +kernel
theorem d_Mo_trickOver_32 : decode prog_11_method_26_code 32 = .ok (.iastore, 1) := by decide +kernel
theorem d_Mo_trickOver_33 : decode prog_11_method_26_code 33 = .ok (.aload_n 0, 1) := by decide +kernel
theorem d_Mo_trickOver_34 : decode prog_11_method_26_code 34 = .ok (.iconst 2, 1) := by decide +kernel
theorem d_Mo_trickOver_35 : decode prog_11_method_26_code 35 = .ok (.iload_n 1, 1) := by decide +kernel
theorem d_Mo_trickOver_36 : decode prog_11_method_26_code 36 = .ok (.iastore, 1) := by decide +kernel
theorem d_Mo_trickOver_37 : decode prog_11_method_26_code 37 = .ok (.aload_n 0, 1) := by decide +kernel
theorem d_Mo_trickOver_38 : decode prog_11_method_26_code 38 = .ok (.bipush 14, 2) := by decide +kernel
theorem d_Mo_trickOver_40 : decode prog_11_method_26_code 40 = .ok (.iaload, 1) := by decide +kernel
theorem d_Mo_trickOver_41 : decode prog_11_method_26_code 41 = .ok (.bipush 32, 2) := by decide +kernel
theorem d_Mo_trickOver_43 : decode prog_11_method_26_code 43 = .ok (.if_icmp .ne 92, 3) := by decide +kernel
theorem d_Mo_trickOver_46 : decode prog_11_method_26_code 46 = .ok (.aload_n 0, 1) := by decide +kernel
theorem d_Mo_trickOver_47 : decode prog_11_method_26_code 47 = .ok (.iconst 4, 1) := by decide +kernel
theorem d_Mo_trickOver_48 : decode prog_11_method_26_code 48 = .ok (.iaload, 1) := by decide +kernel
theorem d_Mo_trickOver_49 : decode prog_11_method_26_code 49 = .ok (.iconst 2, 1) := by decide +kernel
theorem d_Mo_trickOver_50 : decode prog_11_method_26_code 50 = .ok (.irem, 1) := by decide +kernel
theorem d_Mo_trickOver_51 : decode prog_11_method_26_code 51 = .ok (.istore_n 2, 1) := by decide +kernel
theorem d_Mo_trickOver_52 : decode prog_11_method_26_code 52 = .ok (.aload_n 0, 1) := by decide +kernel
theorem d_Mo_trickOver_53 : decode prog_11_method_26_code 53 = .ok (.iconst 5, 1) := by decide +kernel
theorem d_Mo_trickOver_54 : decode prog_11_method_26_code 54 = .ok (.iload_n 2, 1) := by decide +kernel
theorem d_Mo_trickOver_55 : decode prog_11_method_26_code 55 = .ok (.iadd, 1) := by decide +kernel
theorem d_Mo_trickOver_56 : decode prog_11_method_26_code 56 = .ok (.iaload, 1) := by decide +kernel
theorem d_Mo_trickOver_57 : decode prog_11_method_26_code 57 = .ok (.istore_n 3, 1) := by decide +kernel
theorem d_Mo_trickOver_58 : decode prog_11_method_26_code 58 = .ok (.aload_n 0, 1) := by decide +kernel
theorem d_Mo_trickOver_59 : decode prog_11_method_26_code 59 = .ok (.iconst 3, 1) := by decide +kernel
theorem d_Mo_trickOver_60 : decode prog_11_method_26_code 60 = .ok (.iaload, 1) := by decide +kernel
theorem d_Mo_trickOver_61 : decode prog_11_method_26_code 61 = .ok (.bipush 10, 2) := by decide +kernel
theorem d_Mo_trickOver_63 : decode prog_11_method_26_code 63 = .ok (.idiv, 1) := by decide +kernel
theorem d_Mo_trickOver_64 : decode prog_11_method_26_code 64 = .ok (.istore 4, 2) := by decide +kernel
theorem d_Mo_trickOver_66 : decode prog_11_method_26_code 66 = .ok (.aload_n 0, 1) := by decide +kernel
theorem d_Mo_trickOver_67 : decode prog_11_method_26_code 67 = .ok (.iconst 1, 1) := by decide +kernel
theorem d_Mo_trickOver_68 : decode prog_11_method_26_code 68 = .ok (.iconst 3, 1) := by decide +kernel
theorem d_Mo_trickOver_69 : decode prog_11_method_26_code 69 = .ok (.iastore, 1) := by decide +kernel
theorem d_Mo_trickOver_70 : decode prog_11_method_26_code 70 = .ok (.aload_n 0, 1) := by decide +kernel
theorem d_Mo_trickOver_71 : decode prog_11_method_26_code 71 = .ok (.bipush 7, 2) := by decide +kernel
theorem d_Mo_trickOver_73 : decode prog_11_method_26_code 73 = .ok (.iload_n 2, 1) := by decide +kernel
theorem d_Mo_trickOver_74 : decode prog_11_method_26_code 74 = .ok (.iadd, 1) := by decide +kernel
theorem d_Mo_trickOver_75 : decode prog_11_method_26_code 75 = .ok (.dup2, 1) := by decide +kernel
theorem d_Mo_trickOver_76 : decode prog_11_method_26_code 76 = .ok (.iaload, 1) := by decide +kernel
theorem d_Mo_trickOver_77 : decode prog_11_method_26_code 77 = .ok (.iload_n 3, 1) := by decide +kernel
theorem d_Mo_trickOver_78 : decode prog_11_method_26_code 78 = .ok (.iconst 4, 1) := by decide +kernel
theorem d_Mo_trickOver_79 : decode prog_11_method_26_code 79 = .ok (.iload 4, 2) := by decide +kernel
theorem d_Mo_trickOver_81 : decode prog_11_method_26_code 81 = .ok (.iadd, 1) := by decide +kernel
theorem d_Mo_trickOver_82 : decode prog_11_method_26_code 82 = .ok (.if_icmp .lt 20, 3) := by decide +kernel
theorem d_Mo_trickOver_85 : decode prog_11_method_26_code 85 = .ok (.bipush 10, 2) := by decide +kernel
theorem d_Mo_trickOver_87 : decode prog_11_method_26_code 87 = .ok (.iload 4, 2) := by decide +kernel
theorem d_Mo_trickOver_89 : decode prog_11_method_26_code 89 = .ok (.imul, 1) := by decide +kernel
theorem d_Mo_trickOver_90 : decode prog_11_method_26_code 90 = .ok (.iconst 2, 1) := by decide +kernel
theorem d_Mo_trickOver_91 : decode prog_11_method_26_code 91 = .ok (.iload_n 3, 1) := by decide +kernel
theorem d_Mo_trickOver_92 : decode prog_11_method_26_code 92 = .ok (.iconst 4, 1) := by decide +kernel
theorem d_Mo_trickOver_93 : decode prog_11_method_26_code 93 = .ok (.isub, 1) := by decide +kernel
theorem d_Mo_trickOver_94 : decode prog_11_method_26_code 94 = .ok (.iload 4, 2) := by decide +kernel
theorem d_Mo_trickOver_96 : decode prog_11_method_26_code 96 = .ok (.isub, 1) := by decide +kernel
theorem d_Mo_trickOver_97 : decode prog_11_method_26_code 97 = .ok (.imul, 1) := by decide +kernel
theorem d_Mo_trickOver_98 : decode prog_11_method_26_code 98 = .ok (.iadd, 1) := by decide +kernel
theorem d_Mo_trickOver_99 : decode prog_11_method_26_code 99 = .ok (.goto 4, 3) := by decide +kernel
theorem d_Mo_trickOver_102 : decode prog_11_method_26_code 102 = .ok (.iconst 0, 1) := by decide +kernel
theorem d_Mo_trickOver_103 : decode prog_11_method_26_code 103 = .ok (.iadd, 1) := by decide +kernel
theorem d_Mo_trickOver_104 : decode prog_11_method_26_code 104 = .ok (.iastore, 1) := by decide +kernel
theorem d_Mo_trickOver_105 : decode prog_11_method_26_code 105 = .ok (.aload_n 0, 1) := by decide +kernel
theorem d_Mo_trickOver_106 : decode prog_11_method_26_code 106 = .ok (.bipush 8, 2) := by decide +kernel
theorem d_Mo_trickOver_108 : decode prog_11_method_26_code 108 = .ok (.iload_n 2, 1) := by decide +kernel
theorem d_Mo_trickOver_109 : decode prog_11_method_26_code 109 = .ok (.isub, 1) := by decide +kernel
theorem d_Mo_trickOver_110 : decode prog_11_method_26_code 110 = .ok (.dup2, 1) := by decide +kernel
theorem d_Mo_trickOver_111 : decode prog_11_method_26_code 111 = .ok (.iaload, 1) := by decide +kernel
theorem d_Mo_trickOver_112 : decode prog_11_method_26_code 112 = .ok (.iload_n 3, 1) := by decide +kernel
theorem d_Mo_trickOver_113 : decode prog_11_method_26_code 113 = .ok (.iconst 4, 1) := by decide +kernel
theorem d_Mo_trickOver_114 : decode prog_11_method_26_code 114 = .ok (.iload 4, 2) := by decide +kernel
theorem d_Mo_trickOver_116 : decode prog_11_method_26_code 116 = .ok (.iadd, 1) := by decide +kernel
theorem d_Mo_trickOver_117 : decode prog_11_method_26_code 117 = .ok (.if_icmp .lt 7, 3) := by decide +kernel
theorem d_Mo_trickOver_120 : decode prog_11_method_26_code 120 = .ok (.iconst 0, 1) := by decide +kernel
theorem d_Mo_trickOver_121 : decode prog_11_method_26_code 121 = .ok (.goto 12, 3) := by decide +kernel
theorem d_Mo_trickOver_124 : decode prog_11_method_26_code 124 = .ok (.bipush 10, 2) := by decide +kernel
theorem d_Mo_trickOver_126 : decode prog_11_method_26_code 126 = .ok (.iconst 4, 1) := by decide +kernel
theorem d_Mo_trickOver_127 : decode prog_11_method_26_code 127 = .ok (.iload 4, 2) := by decide +kernel
theorem d_Mo_trickOver_129 : decode prog_11_method_26_code 129 = .ok (.iadd, 1) := by decide +kernel
theorem d_Mo_trickOver_130 : decode prog_11_method_26_code 130 = .ok (.iload_n 3, 1) := by decide +kernel
theorem d_Mo_trickOver_131 : decode prog_11_method_26_code 131 = .ok (.isub, 1) := by decide +kernel
theorem d_Mo_trickOver_132 : decode prog_11_method_26_code 132 = .ok (.imul, 1) := by decide +kernel
theorem d_Mo_trickOver_133 : decode prog_11_method_26_code 133 = .ok (.iadd, 1) := by decide +kernel
theorem d_Mo_trickOver_134 : decode prog_11_method_26_code 134 = .ok (.iastore, 1) := by decide +kernel
theorem d_Mo_trickOver_135 : decode prog_11_method_26_code 135 = .ok (.return_, 1) := by decide +kernel
theorem w_1114 : Cond.methodLink "DropSignalsModel" 91 ⟨"DropSignalsModel", "winner", "([I)I"⟩ ∈ gWs := gWs_in (i := 1114) (by decide +kernel) rfl
noncomputable def f_Mo_trickOver_b133 (g0 : Nat) (c0 : Nat) (n0 : Nat) (M : gMem) (s0 : Int32) (s1 : Int32) (s2 : Int32) : Option gMem :=
  (gWr M g0 c0 n0 s2 (s1 + s0)).bind fun M16 =>
  some M16
theorem t_Mo_trickOver_b133 {l : Launch} {ε : gEnv} (g0 : Nat) (c0 : Nat) (n0 : Nat) (h0 : gHas ε g0 c0 (0, n0, [])) (M : gMem) (s0 : Int32) (s1 : Int32) (s2 : Int32) (r : gMem) (h : f_Mo_trickOver_b133 g0 c0 n0 M s0 s1 s2 = some r) : gGo l ε k_Mo_trickOver (gR 2 45) (gFn ε none r) 133 [] [.int s0, .int s1, .int s2, .ref (ε.2.2.1 g0 c0)] M := by
  unfold f_Mo_trickOver_b133 at h
  refine g_iadd d_Mo_trickOver_133 ?_
  obtain ⟨M16, hM16, h⟩ := gOb h
  refine g_iastore d_Mo_trickOver_134 h0 hM16 ?_
  obtain rfl := Option.some.inj h
  exact g_vret d_Mo_trickOver_135 rfl
noncomputable def f_Mo_trickOver_b103 (g0 : Nat) (c0 : Nat) (n0 : Nat) (M : gMem) (x2 : Int32) (x3 : Int32) (x4 : Int32) (s0 : Int32) (s1 : Int32) (s2 : Int32) : Option gMem :=
  (gWr M g0 c0 n0 s2 (s1 + s0)).bind fun M14 =>
  (gRd n0 (M14 g0 c0) (8 - x2)).bind fun v15 =>
  if x3 < (4 + x4) then
    f_Mo_trickOver_b133 g0 c0 n0 M14 (10 * ((4 + x4) - x3)) v15 (8 - x2)
  else
    f_Mo_trickOver_b133 g0 c0 n0 M14 0 v15 (8 - x2)
theorem t_Mo_trickOver_b103 {l : Launch} {ε : gEnv} (g0 : Nat) (c0 : Nat) (n0 : Nat) (h0 : gHas ε g0 c0 (0, n0, [])) (M : gMem) (x2 : Int32) (x3 : Int32) (x4 : Int32) (s0 : Int32) (s1 : Int32) (s2 : Int32) (r : gMem) (h : f_Mo_trickOver_b103 g0 c0 n0 M x2 x3 x4 s0 s1 s2 = some r) : gGo l ε k_Mo_trickOver (gR 2 45) (gFn ε none r) 103 [(0, .ref (ε.2.2.1 g0 c0)), (2, .int x2), (3, .int x3), (4, .int x4)] [.int s0, .int s1, .int s2, .ref (ε.2.2.1 g0 c0)] M := by
  unfold f_Mo_trickOver_b103 at h
  refine g_iadd d_Mo_trickOver_103 ?_
  obtain ⟨M14, hM14, h⟩ := gOb h
  refine g_iastore d_Mo_trickOver_104 h0 hM14 ?_
  refine g_aload_n d_Mo_trickOver_105 rfl 0 rfl ?_
  refine g_bipush (v := 8) d_Mo_trickOver_106 (by decide) ?_
  refine g_iload_n d_Mo_trickOver_108 rfl 1 rfl ?_
  refine g_isub d_Mo_trickOver_109 ?_
  refine g_dup2 d_Mo_trickOver_110 rfl rfl ?_
  obtain ⟨v15, hv15, h⟩ := gOb h
  refine g_iaload d_Mo_trickOver_111 h0 hv15 ?_
  refine g_iload_n d_Mo_trickOver_112 rfl 2 rfl ?_
  refine g_iconst (v := 4) d_Mo_trickOver_113 (by decide) ?_
  refine g_iload d_Mo_trickOver_114 3 rfl ?_
  refine g_iadd d_Mo_trickOver_116 ?_
  refine g_icmp_lt (tgt := 124) d_Mo_trickOver_117 (by decide) (fun c17 => ?_) (fun c17 => ?_)
  · rw [if_pos c17] at h
    refine g_bipush (v := 10) d_Mo_trickOver_124 (by decide) ?_
    refine g_iconst (v := 4) d_Mo_trickOver_126 (by decide) ?_
    refine g_iload d_Mo_trickOver_127 3 rfl ?_
    refine g_iadd d_Mo_trickOver_129 ?_
    refine g_iload_n d_Mo_trickOver_130 rfl 2 rfl ?_
    refine g_isub d_Mo_trickOver_131 ?_
    refine g_imul d_Mo_trickOver_132 ?_
    refine gGo_sub [] rfl ?_
    exact t_Mo_trickOver_b133 g0 c0 n0 h0 M14 (10 * ((4 + x4) - x3)) v15 (8 - x2) _ h
  · rw [if_neg c17] at h
    refine g_iconst (v := 0) d_Mo_trickOver_120 (by decide) ?_
    refine g_goto (tgt := 133) d_Mo_trickOver_121 (by decide) ?_
    refine gGo_sub [] rfl ?_
    exact t_Mo_trickOver_b133 g0 c0 n0 h0 M14 0 v15 (8 - x2) _ h
noncomputable def f_Mo_trickOver (g0 : Nat) (c0 : Nat) (n0 : Nat) (M : gMem) : Option gMem :=
  (gRd n0 (M g0 c0) 20).bind fun v1 =>
  (f_Mo_winner g0 c0 n0 M).bind fun q2 =>
  (gRd n0 (M g0 c0) (5 + (gRem (gRem (v1 + q2) 4) 2))).bind fun v3 =>
  (gWr M g0 c0 n0 (5 + (gRem (gRem (v1 + q2) 4) 2)) (v3 + 1)).bind fun M4 =>
  (gWr M4 g0 c0 n0 15 0).bind fun M5 =>
  (gWr M5 g0 c0 n0 20 (gRem (v1 + q2) 4)).bind fun M6 =>
  (gWr M6 g0 c0 n0 2 (gRem (v1 + q2) 4)).bind fun M7 =>
  (gRd n0 (M7 g0 c0) 14).bind fun v8 =>
  if v8 = 32 then
    (gRd n0 (M7 g0 c0) 4).bind fun v9 =>
    (gRd n0 (M7 g0 c0) (5 + (gRem v9 2))).bind fun v10 =>
    (gRd n0 (M7 g0 c0) 3).bind fun v11 =>
    (gWr M7 g0 c0 n0 1 3).bind fun M12 =>
    (gRd n0 (M12 g0 c0) (7 + (gRem v9 2))).bind fun v13 =>
    if v10 < (4 + (v11 / 10)) then
      f_Mo_trickOver_b103 g0 c0 n0 M12 (gRem v9 2) v10 (v11 / 10) 0 v13 (7 + (gRem v9 2))
    else
      f_Mo_trickOver_b103 g0 c0 n0 M12 (gRem v9 2) v10 (v11 / 10) ((10 * (v11 / 10)) + (2 * ((v10 - 4) - (v11 / 10)))) v13 (7 + (gRem v9 2))
  else
    some M7
theorem t_Mo_trickOver {l : Launch} {ε : gEnv} (g0 : Nat) (c0 : Nat) (n0 : Nat) (h0 : gHas ε g0 c0 (0, n0, [])) (M : gMem) (r : gMem) (h : f_Mo_trickOver g0 c0 n0 M = some r) : gGo l ε k_Mo_trickOver (gR 2 45) (gFn ε none r) 0 [(0, .ref (ε.2.2.1 g0 c0))] [] M := by
  unfold f_Mo_trickOver at h
  refine g_aload_n d_Mo_trickOver_0 rfl 0 rfl ?_
  refine g_bipush (v := 20) d_Mo_trickOver_1 (by decide) ?_
  obtain ⟨v1, hv1, h⟩ := gOb h
  refine g_iaload d_Mo_trickOver_3 h0 hv1 ?_
  refine g_aload_n d_Mo_trickOver_4 rfl 0 rfl ?_
  obtain ⟨q2, hq2, h⟩ := gOb h
  refine g_callS_i (As := [.ref (ε.2.2.1 g0 c0)]) (rest := [.int v1]) (ct_Mo_winner g0 c0 n0 h0 M _ hq2) d_Mo_trickOver_5 ca_Mo_winner w_1114 rfl rfl (Nat.le_of_ble_eq_true rfl) ⟨(Nat.le_of_ble_eq_true rfl), (Nat.le_of_ble_eq_true rfl)⟩ ?_
  refine g_iadd d_Mo_trickOver_8 ?_
  refine g_iconst (v := 4) d_Mo_trickOver_9 (by decide) ?_
  refine g_rem d_Mo_trickOver_10 (by decide) ?_
  refine g_istore_n (L' := [(1, .int (gRem (v1 + q2) 4)), (0, .ref (ε.2.2.1 g0 c0))]) d_Mo_trickOver_11 rfl (by decide) rfl ?_
  refine g_aload_n d_Mo_trickOver_12 rfl 1 rfl ?_
  refine g_iconst (v := 5) d_Mo_trickOver_13 (by decide) ?_
  refine g_iload_n d_Mo_trickOver_14 rfl 0 rfl ?_
  refine g_iconst (v := 2) d_Mo_trickOver_15 (by decide) ?_
  refine g_rem d_Mo_trickOver_16 (by decide) ?_
  refine g_iadd d_Mo_trickOver_17 ?_
  refine g_dup2 d_Mo_trickOver_18 rfl rfl ?_
  obtain ⟨v3, hv3, h⟩ := gOb h
  refine g_iaload d_Mo_trickOver_19 h0 hv3 ?_
  refine g_iconst (v := 1) d_Mo_trickOver_20 (by decide) ?_
  refine g_iadd d_Mo_trickOver_21 ?_
  obtain ⟨M4, hM4, h⟩ := gOb h
  refine g_iastore d_Mo_trickOver_22 h0 hM4 ?_
  refine g_aload_n d_Mo_trickOver_23 rfl 1 rfl ?_
  refine g_bipush (v := 15) d_Mo_trickOver_24 (by decide) ?_
  refine g_iconst (v := 0) d_Mo_trickOver_26 (by decide) ?_
  obtain ⟨M5, hM5, h⟩ := gOb h
  refine g_iastore d_Mo_trickOver_27 h0 hM5 ?_
  refine g_aload_n d_Mo_trickOver_28 rfl 1 rfl ?_
  refine g_bipush (v := 20) d_Mo_trickOver_29 (by decide) ?_
  refine g_iload_n d_Mo_trickOver_31 rfl 0 rfl ?_
  obtain ⟨M6, hM6, h⟩ := gOb h
  refine g_iastore d_Mo_trickOver_32 h0 hM6 ?_
  refine g_aload_n d_Mo_trickOver_33 rfl 1 rfl ?_
  refine g_iconst (v := 2) d_Mo_trickOver_34 (by decide) ?_
  refine g_iload_n d_Mo_trickOver_35 rfl 0 rfl ?_
  obtain ⟨M7, hM7, h⟩ := gOb h
  refine g_iastore d_Mo_trickOver_36 h0 hM7 ?_
  refine g_aload_n d_Mo_trickOver_37 rfl 1 rfl ?_
  refine g_bipush (v := 14) d_Mo_trickOver_38 (by decide) ?_
  obtain ⟨v8, hv8, h⟩ := gOb h
  refine g_iaload d_Mo_trickOver_40 h0 hv8 ?_
  refine g_bipush (v := 32) d_Mo_trickOver_41 (by decide) ?_
  refine g_icmp_ne (tgt := 135) d_Mo_trickOver_43 (by decide) (fun c19 => ?_) (fun c19 => ?_)
  · rw [if_neg c19] at h
    obtain rfl := Option.some.inj h
    exact g_vret d_Mo_trickOver_135 rfl
  · rw [if_pos c19] at h
    refine g_aload_n d_Mo_trickOver_46 rfl 1 rfl ?_
    refine g_iconst (v := 4) d_Mo_trickOver_47 (by decide) ?_
    obtain ⟨v9, hv9, h⟩ := gOb h
    refine g_iaload d_Mo_trickOver_48 h0 hv9 ?_
    refine g_iconst (v := 2) d_Mo_trickOver_49 (by decide) ?_
    refine g_rem d_Mo_trickOver_50 (by decide) ?_
    refine g_istore_n (L' := [(2, .int (gRem v9 2)), (1, .int (gRem (v1 + q2) 4)), (0, .ref (ε.2.2.1 g0 c0))]) d_Mo_trickOver_51 rfl (by decide) rfl ?_
    refine g_aload_n d_Mo_trickOver_52 rfl 2 rfl ?_
    refine g_iconst (v := 5) d_Mo_trickOver_53 (by decide) ?_
    refine g_iload_n d_Mo_trickOver_54 rfl 0 rfl ?_
    refine g_iadd d_Mo_trickOver_55 ?_
    obtain ⟨v10, hv10, h⟩ := gOb h
    refine g_iaload d_Mo_trickOver_56 h0 hv10 ?_
    refine g_istore_n (L' := [(3, .int v10), (2, .int (gRem v9 2)), (1, .int (gRem (v1 + q2) 4)), (0, .ref (ε.2.2.1 g0 c0))]) d_Mo_trickOver_57 rfl (by decide) rfl ?_
    refine g_aload_n d_Mo_trickOver_58 rfl 3 rfl ?_
    refine g_iconst (v := 3) d_Mo_trickOver_59 (by decide) ?_
    obtain ⟨v11, hv11, h⟩ := gOb h
    refine g_iaload d_Mo_trickOver_60 h0 hv11 ?_
    refine g_bipush (v := 10) d_Mo_trickOver_61 (by decide) ?_
    refine g_idiv d_Mo_trickOver_63 (by decide) ?_
    refine g_istore (L' := [(4, .int (v11 / 10)), (3, .int v10), (2, .int (gRem v9 2)), (1, .int (gRem (v1 + q2) 4)), (0, .ref (ε.2.2.1 g0 c0))]) d_Mo_trickOver_64 (by decide) rfl ?_
    refine g_aload_n d_Mo_trickOver_66 rfl 4 rfl ?_
    refine g_iconst (v := 1) d_Mo_trickOver_67 (by decide) ?_
    refine g_iconst (v := 3) d_Mo_trickOver_68 (by decide) ?_
    obtain ⟨M12, hM12, h⟩ := gOb h
    refine g_iastore d_Mo_trickOver_69 h0 hM12 ?_
    refine g_aload_n d_Mo_trickOver_70 rfl 4 rfl ?_
    refine g_bipush (v := 7) d_Mo_trickOver_71 (by decide) ?_
    refine g_iload_n d_Mo_trickOver_73 rfl 2 rfl ?_
    refine g_iadd d_Mo_trickOver_74 ?_
    refine g_dup2 d_Mo_trickOver_75 rfl rfl ?_
    obtain ⟨v13, hv13, h⟩ := gOb h
    refine g_iaload d_Mo_trickOver_76 h0 hv13 ?_
    refine g_iload_n d_Mo_trickOver_77 rfl 1 rfl ?_
    refine g_iconst (v := 4) d_Mo_trickOver_78 (by decide) ?_
    refine g_iload d_Mo_trickOver_79 0 rfl ?_
    refine g_iadd d_Mo_trickOver_81 ?_
    refine g_icmp_lt (tgt := 102) d_Mo_trickOver_82 (by decide) (fun c18 => ?_) (fun c18 => ?_)
    · rw [if_pos c18] at h
      refine g_iconst (v := 0) d_Mo_trickOver_102 (by decide) ?_
      refine gGo_sub [4, 2, 1, 0] rfl ?_
      exact t_Mo_trickOver_b103 g0 c0 n0 h0 M12 (gRem v9 2) v10 (v11 / 10) 0 v13 (7 + (gRem v9 2)) _ h
    · rw [if_neg c18] at h
      refine g_bipush (v := 10) d_Mo_trickOver_85 (by decide) ?_
      refine g_iload d_Mo_trickOver_87 0 rfl ?_
      refine g_imul d_Mo_trickOver_89 ?_
      refine g_iconst (v := 2) d_Mo_trickOver_90 (by decide) ?_
      refine g_iload_n d_Mo_trickOver_91 rfl 1 rfl ?_
      refine g_iconst (v := 4) d_Mo_trickOver_92 (by decide) ?_
      refine g_isub d_Mo_trickOver_93 ?_
      refine g_iload d_Mo_trickOver_94 0 rfl ?_
      refine g_isub d_Mo_trickOver_96 ?_
      refine g_imul d_Mo_trickOver_97 ?_
      refine g_iadd d_Mo_trickOver_98 ?_
      refine g_goto (tgt := 103) d_Mo_trickOver_99 (by decide) ?_
      refine gGo_sub [4, 2, 1, 0] rfl ?_
      exact t_Mo_trickOver_b103 g0 c0 n0 h0 M12 (gRem v9 2) v10 (v11 / 10) ((10 * (v11 / 10)) + (2 * ((v10 - 4) - (v11 / 10)))) v13 (7 + (gRem v9 2)) _ h
theorem ct_Mo_trickOver {l : Launch} {ε : gEnv} (g0 : Nat) (c0 : Nat) (n0 : Nat) (h0 : gHas ε g0 c0 (0, n0, [])) (M : gMem) (r : gMem) (h : f_Mo_trickOver g0 c0 n0 M = some r) : gCt l ε k_Mo_trickOver 2 45 [.ref (ε.2.2.1 g0 c0)] M none r :=
  gCt_of (by decide) (Nat.le_of_ble_eq_true rfl) rfl (t_Mo_trickOver g0 c0 n0 h0 M r h)
abbrev k_Mo_put : gMD := (⟨"DropSignalsModel", "put", "([II)V"⟩, prog_11_method_27_code, 3, none)
theorem w_1097 : Cond.static ⟨"DropSignalsModel", "put", "([II)V"⟩ ∈ gWs := gWs_in (i := 1097) (by decide +kernel) rfl
set_option maxRecDepth 100000 in
theorem ca_Mo_put : gCaS k_Mo_put 2 := ⟨⟨gWs_in (i := 1098) rfl rfl, w_43, by decide, by decide, by decide +kernel⟩, w_1097⟩
theorem d_Mo_put_0 : decode prog_11_method_27_code 0 = .ok (.aload_n 0, 1) := by decide +kernel
theorem d_Mo_put_1 : decode prog_11_method_27_code 1 = .ok (.iconst 2, 1) := by decide +kernel
theorem d_Mo_put_2 : decode prog_11_method_27_code 2 = .ok (.iaload, 1) := by decide +kernel
theorem d_Mo_put_3 : decode prog_11_method_27_code 3 = .ok (.istore_n 2, 1) := by decide +kernel
theorem d_Mo_put_4 : decode prog_11_method_27_code 4 = .ok (.aload_n 0, 1) := by decide +kernel
theorem d_Mo_put_5 : decode prog_11_method_27_code 5 = .ok (.bipush 15, 2) := by decide +kernel
theorem d_Mo_put_7 : decode prog_11_method_27_code 7 = .ok (.iaload, 1) := by decide +kernel
theorem d_Mo_put_8 : decode prog_11_method_27_code 8 = .ok (.ifCond .le 32, 3) := by decide +kernel
theorem d_Mo_put_11 : decode prog_11_method_27_code 11 = .ok (.iload_n 1, 1) := by decide +kernel
theorem d_Mo_put_12 : decode prog_11_method_27_code 12 = .ok (.invokestatic 63, 3) := by decide +kernel
theorem d_Mo_put_15 : decode prog_11_method_27_code 15 = .ok (.aload_n 0, 1) := by decide +kernel
theorem d_Mo_put_16 : decode prog_11_method_27_code 16 = .ok (.invokestatic 66, 3) := by decide +kernel
theorem d_Mo_put_19 : decode prog_11_method_27_code 19 = .ok (.if_icmp .eq 21, 3) := by decide +kernel
theorem d_Mo_put_22 : decode prog_11_method_27_code 22 = .ok (.aload_n 0, 1) := by decide +kernel
theorem d_Mo_put_23 : decode prog_11_method_27_code 23 = .ok (.sipush 181, 3) := by decide +kernel
theorem d_Mo_put_26 : decode prog_11_method_27_code 26 = .ok (.iconst 4, 1) := by decide +kernel
theorem d_Mo_put_27 : decode prog_11_method_27_code 27 = .ok (.iload_n 2, 1) := by decide +kernel
theorem d_Mo_put_28 : decode prog_11_method_27_code 28 = .ok (.imul, 1) := by decide +kernel
theorem d_Mo_put_29 : decode prog_11_method_27_code 29 = .ok (.iadd, 1) := by decide +kernel
theorem d_Mo_put_30 : decode prog_11_method_27_code 30 = .ok (.aload_n 0, 1) := by decide +kernel
theorem d_Mo_put_31 : decode prog_11_method_27_code 31 = .ok (.invokestatic 66, 3) := by decide +kernel
theorem d_Mo_put_34 : decode prog_11_method_27_code 34 = .ok (.iadd, 1) := by decide +kernel
theorem d_Mo_put_35 : decode prog_11_method_27_code 35 = .ok (.iconst 1, 1) := by decide +kernel
theorem d_Mo_put_36 : decode prog_11_method_27_code 36 = .ok (.iastore, 1) := by decide +kernel
theorem d_Mo_put_37 : decode prog_11_method_27_code 37 = .ok (.goto 23, 3) := by decide +kernel
theorem d_Mo_put_40 : decode prog_11_method_27_code 40 = .ok (.aload_n 0, 1) := by decide +kernel
theorem d_Mo_put_41 : decode prog_11_method_27_code 41 = .ok (.bipush 15, 2) := by decide +kernel
theorem d_Mo_put_43 : decode prog_11_method_27_code 43 = .ok (.iaload, 1) := by decide +kernel
theorem d_Mo_put_44 : decode prog_11_method_27_code 44 = .ok (.ifCond .le 16, 3) := by decide +kernel
theorem d_Mo_put_47 : decode prog_11_method_27_code 47 = .ok (.iload_n 1, 1) := by decide +kernel
theorem d_Mo_put_48 : decode prog_11_method_27_code 48 = .ok (.invokestatic 94, 3) := by decide +kernel
theorem d_Mo_put_51 : decode prog_11_method_27_code 51 = .ok (.ifCond .eq 9, 3) := by decide +kernel
theorem d_Mo_put_54 : decode prog_11_method_27_code 54 = .ok (.aload_n 0, 1) := by decide +kernel
theorem d_Mo_put_55 : decode prog_11_method_27_code 55 = .ok (.iload_n 2, 1) := by decide +kernel
theorem d_Mo_put_56 : decode prog_11_method_27_code 56 = .ok (.iload_n 1, 1) := by decide +kernel
theorem d_Mo_put_57 : decode prog_11_method_27_code 57 = .ok (.invokestatic 98, 3) := by decide +kernel
theorem d_Mo_put_60 : decode prog_11_method_27_code 60 = .ok (.aload_n 0, 1) := by decide +kernel
theorem d_Mo_put_61 : decode prog_11_method_27_code 61 = .ok (.bipush 21, 2) := by decide +kernel
theorem d_Mo_put_63 : decode prog_11_method_27_code 63 = .ok (.iload_n 1, 1) := by decide +kernel
theorem d_Mo_put_64 : decode prog_11_method_27_code 64 = .ok (.iadd, 1) := by decide +kernel
theorem d_Mo_put_65 : decode prog_11_method_27_code 65 = .ok (.iconst (-1), 1) := by decide +kernel
theorem d_Mo_put_66 : decode prog_11_method_27_code 66 = .ok (.iastore, 1) := by decide +kernel
theorem d_Mo_put_67 : decode prog_11_method_27_code 67 = .ok (.aload_n 0, 1) := by decide +kernel
theorem d_Mo_put_68 : decode prog_11_method_27_code 68 = .ok (.bipush 85, 2) := by decide +kernel
theorem d_Mo_put_70 : decode prog_11_method_27_code 70 = .ok (.iload_n 1, 1) := by decide +kernel
theorem d_Mo_put_71 : decode prog_11_method_27_code 71 = .ok (.iadd, 1) := by decide +kernel
theorem d_Mo_put_72 : decode prog_11_method_27_code 72 = .ok (.aload_n 0, 1) := by decide +kernel
theorem d_Mo_put_73 : decode prog_11_method_27_code 73 = .ok (.bipush 14, 2) := by decide +kernel
theorem d_Mo_put_75 : decode prog_11_method_27_code 75 = .ok (.iaload, 1) := by decide +kernel
theorem d_Mo_put_76 : decode prog_11_method_27_code 76 = .ok (.iastore, 1) := by decide +kernel
theorem d_Mo_put_77 : decode prog_11_method_27_code 77 = .ok (.aload_n 0, 1) := by decide +kernel
theorem d_Mo_put_78 : decode prog_11_method_27_code 78 = .ok (.bipush 14, 2) := by decide +kernel
theorem d_Mo_put_80 : decode prog_11_method_27_code 80 = .ok (.dup2, 1) := by decide +kernel
theorem d_Mo_put_81 : decode prog_11_method_27_code 81 = .ok (.iaload, 1) := by decide +kernel
theorem d_Mo_put_82 : decode prog_11_method_27_code 82 = .ok (.iconst 1, 1) := by decide +kernel
theorem d_Mo_put_83 : decode prog_11_method_27_code 83 = .ok (.iadd, 1) := by decide +kernel
theorem d_Mo_put_84 : decode prog_11_method_27_code 84 = .ok (.iastore, 1) := by decide +kernel
theorem d_Mo_put_85 : decode prog_11_method_27_code 85 = .ok (.aload_n 0, 1) := by decide +kernel
theorem d_Mo_put_86 : decode prog_11_method_27_code 86 = .ok (.bipush 16, 2) := by decide +kernel
theorem d_Mo_put_88 : decode prog_11_method_27_code 88 = .ok (.aload_n 0, 1) := by decide +kernel
theorem d_Mo_put_89 : decode prog_11_method_27_code 89 = .ok (.bipush 15, 2) := by decide +kernel
theorem d_Mo_put_91 : decode prog_11_method_27_code 91 = .ok (.iaload, 1) := by decide +kernel
theorem d_Mo_put_92 : decode prog_11_method_27_code 92 = .ok (.iadd, 1) := by decide +kernel
theorem d_Mo_put_93 : decode prog_11_method_27_code 93 = .ok (.iload_n 1, 1) := by decide +kernel
theorem d_Mo_put_94 : decode prog_11_method_27_code 94 = .ok (.iastore, 1) := by decide +kernel
theorem d_Mo_put_95 : decode prog_11_method_27_code 95 = .ok (.aload_n 0, 1) := by decide +kernel
theorem d_Mo_put_96 : decode prog_11_method_27_code 96 = .ok (.bipush 15, 2) := by decide +kernel
theorem d_Mo_put_98 : decode prog_11_method_27_code 98 = .ok (.dup2, 1) := by decide +kernel
theorem d_Mo_put_99 : decode prog_11_method_27_code 99 = .ok (.iaload, 1) := by decide +kernel
theorem d_Mo_put_100 : decode prog_11_method_27_code 100 = .ok (.iconst 1, 1) := by decide +kernel
theorem d_Mo_put_101 : decode prog_11_method_27_code 101 = .ok (.iadd, 1) := by decide +kernel
theorem d_Mo_put_102 : decode prog_11_method_27_code 102 = .ok (.iastore, 1) := by decide +kernel
theorem d_Mo_put_103 : decode prog_11_method_27_code 103 = .ok (.aload_n 0, 1) := by decide +kernel
theorem d_Mo_put_104 : decode prog_11_method_27_code 104 = .ok (.iconst 2, 1) := by decide +kernel
theorem d_Mo_put_105 : decode prog_11_method_27_code 105 = .ok (.iload_n 2, 1) := by decide +kernel
theorem d_Mo_put_106 : decode prog_11_method_27_code 106 = .ok (.iconst 1, 1) := by decide +kernel
theorem d_Mo_put_107 : decode prog_11_method_27_code 107 = .ok (.iadd, 1) := by decide +kernel
theorem d_Mo_put_108 : decode prog_11_method_27_code 108 = .ok (.iconst 4, 1) := by decide +kernel
theorem d_Mo_put_109 : decode prog_11_method_27_code 109 = .ok (.irem, 1) := by decide +kernel
theorem d_Mo_put_110 : decode prog_11_method_27_code 110 = .ok (.iastore, 1) := by decide +kernel
theorem d_Mo_put_111 : decode prog_11_method_27_code 111 = .ok (.aload_n 0, 1) := by decide +kernel
theorem d_Mo_put_112 : decode prog_11_method_27_code 112 = .ok (.bipush 15, 2) := by decide +kernel
theorem d_Mo_put_114 : decode prog_11_method_27_code 114 = .ok (.iaload, 1) := by decide +kernel
theorem d_Mo_put_115 : decode prog_11_method_27_code 115 = .ok (.iconst 4, 1) := by decide +kernel
theorem d_Mo_put_116 : decode prog_11_method_27_code 116 = .ok (.if_icmp .ne 7, 3) := by decide +kernel
theorem d_Mo_put_119 : decode prog_11_method_27_code 119 = .ok (.aload_n 0, 1) := by decide +kernel
theorem d_Mo_put_120 : decode prog_11_method_27_code 120 = .ok (.invokestatic 102, 3) := by decide +kernel
theorem d_Mo_put_123 : decode prog_11_method_27_code 123 = .ok (.return_, 1) := by decide +kernel
theorem w_1111 : Cond.methodLink "DropSignalsModel" 102 ⟨"DropSignalsModel", "trickOver", "([I)V"⟩ ∈ gWs := gWs_in (i := 1111) (by decide +kernel) rfl
theorem w_1099 : Cond.methodLink "DropSignalsModel" 94 ⟨"DropSignalsModel", "isSmall", "(I)Z"⟩ ∈ gWs := gWs_in (i := 1099) (by decide +kernel) rfl
theorem w_1105 : Cond.methodLink "DropSignalsModel" 98 ⟨"DropSignalsModel", "drop", "([III)V"⟩ ∈ gWs := gWs_in (i := 1105) (by decide +kernel) rfl
noncomputable def f_Mo_put_b60 (g0 : Nat) (c0 : Nat) (n0 : Nat) (M : gMem) (x1 : Int32) (x2 : Int32) : Option gMem :=
  (gWr M g0 c0 n0 (21 + x1) (-1)).bind fun M4 =>
  (gRd n0 (M4 g0 c0) 14).bind fun v5 =>
  (gWr M4 g0 c0 n0 (85 + x1) v5).bind fun M6 =>
  (gRd n0 (M6 g0 c0) 14).bind fun v7 =>
  (gWr M6 g0 c0 n0 14 (v7 + 1)).bind fun M8 =>
  (gRd n0 (M8 g0 c0) 15).bind fun v9 =>
  (gWr M8 g0 c0 n0 (16 + v9) x1).bind fun M10 =>
  (gRd n0 (M10 g0 c0) 15).bind fun v11 =>
  (gWr M10 g0 c0 n0 15 (v11 + 1)).bind fun M12 =>
  (gWr M12 g0 c0 n0 2 (gRem (x2 + 1) 4)).bind fun M13 =>
  (gRd n0 (M13 g0 c0) 15).bind fun v14 =>
  if v14 = 4 then
    (f_Mo_trickOver g0 c0 n0 M13).bind fun q15 =>
    some q15
  else
    some M13
theorem t_Mo_put_b60 {l : Launch} {ε : gEnv} (g0 : Nat) (c0 : Nat) (n0 : Nat) (h0 : gHas ε g0 c0 (0, n0, [])) (M : gMem) (x1 : Int32) (x2 : Int32) (r : gMem) (h : f_Mo_put_b60 g0 c0 n0 M x1 x2 = some r) : gGo l ε k_Mo_put (gR 3 69) (gFn ε none r) 60 [(0, .ref (ε.2.2.1 g0 c0)), (1, .int x1), (2, .int x2)] [] M := by
  unfold f_Mo_put_b60 at h
  refine g_aload_n d_Mo_put_60 rfl 0 rfl ?_
  refine g_bipush (v := 21) d_Mo_put_61 (by decide) ?_
  refine g_iload_n d_Mo_put_63 rfl 1 rfl ?_
  refine g_iadd d_Mo_put_64 ?_
  refine g_iconst (v := -1) d_Mo_put_65 (by decide) ?_
  obtain ⟨M4, hM4, h⟩ := gOb h
  refine g_iastore d_Mo_put_66 h0 hM4 ?_
  refine g_aload_n d_Mo_put_67 rfl 0 rfl ?_
  refine g_bipush (v := 85) d_Mo_put_68 (by decide) ?_
  refine g_iload_n d_Mo_put_70 rfl 1 rfl ?_
  refine g_iadd d_Mo_put_71 ?_
  refine g_aload_n d_Mo_put_72 rfl 0 rfl ?_
  refine g_bipush (v := 14) d_Mo_put_73 (by decide) ?_
  obtain ⟨v5, hv5, h⟩ := gOb h
  refine g_iaload d_Mo_put_75 h0 hv5 ?_
  obtain ⟨M6, hM6, h⟩ := gOb h
  refine g_iastore d_Mo_put_76 h0 hM6 ?_
  refine g_aload_n d_Mo_put_77 rfl 0 rfl ?_
  refine g_bipush (v := 14) d_Mo_put_78 (by decide) ?_
  refine g_dup2 d_Mo_put_80 rfl rfl ?_
  obtain ⟨v7, hv7, h⟩ := gOb h
  refine g_iaload d_Mo_put_81 h0 hv7 ?_
  refine g_iconst (v := 1) d_Mo_put_82 (by decide) ?_
  refine g_iadd d_Mo_put_83 ?_
  obtain ⟨M8, hM8, h⟩ := gOb h
  refine g_iastore d_Mo_put_84 h0 hM8 ?_
  refine g_aload_n d_Mo_put_85 rfl 0 rfl ?_
  refine g_bipush (v := 16) d_Mo_put_86 (by decide) ?_
  refine g_aload_n d_Mo_put_88 rfl 0 rfl ?_
  refine g_bipush (v := 15) d_Mo_put_89 (by decide) ?_
  obtain ⟨v9, hv9, h⟩ := gOb h
  refine g_iaload d_Mo_put_91 h0 hv9 ?_
  refine g_iadd d_Mo_put_92 ?_
  refine g_iload_n d_Mo_put_93 rfl 1 rfl ?_
  obtain ⟨M10, hM10, h⟩ := gOb h
  refine g_iastore d_Mo_put_94 h0 hM10 ?_
  refine g_aload_n d_Mo_put_95 rfl 0 rfl ?_
  refine g_bipush (v := 15) d_Mo_put_96 (by decide) ?_
  refine g_dup2 d_Mo_put_98 rfl rfl ?_
  obtain ⟨v11, hv11, h⟩ := gOb h
  refine g_iaload d_Mo_put_99 h0 hv11 ?_
  refine g_iconst (v := 1) d_Mo_put_100 (by decide) ?_
  refine g_iadd d_Mo_put_101 ?_
  obtain ⟨M12, hM12, h⟩ := gOb h
  refine g_iastore d_Mo_put_102 h0 hM12 ?_
  refine g_aload_n d_Mo_put_103 rfl 0 rfl ?_
  refine g_iconst (v := 2) d_Mo_put_104 (by decide) ?_
  refine g_iload_n d_Mo_put_105 rfl 2 rfl ?_
  refine g_iconst (v := 1) d_Mo_put_106 (by decide) ?_
  refine g_iadd d_Mo_put_107 ?_
  refine g_iconst (v := 4) d_Mo_put_108 (by decide) ?_
  refine g_rem d_Mo_put_109 (by decide) ?_
  obtain ⟨M13, hM13, h⟩ := gOb h
  refine g_iastore d_Mo_put_110 h0 hM13 ?_
  refine g_aload_n d_Mo_put_111 rfl 0 rfl ?_
  refine g_bipush (v := 15) d_Mo_put_112 (by decide) ?_
  obtain ⟨v14, hv14, h⟩ := gOb h
  refine g_iaload d_Mo_put_114 h0 hv14 ?_
  refine g_iconst (v := 4) d_Mo_put_115 (by decide) ?_
  refine g_icmp_ne (tgt := 123) d_Mo_put_116 (by decide) (fun c16 => ?_) (fun c16 => ?_)
  · rw [if_neg c16] at h
    obtain rfl := Option.some.inj h
    exact g_vret d_Mo_put_123 rfl
  · rw [if_pos c16] at h
    refine g_aload_n d_Mo_put_119 rfl 0 rfl ?_
    obtain ⟨q15, hq15, h⟩ := gOb h
    refine g_callS_v (As := [.ref (ε.2.2.1 g0 c0)]) (rest := []) (ct_Mo_trickOver g0 c0 n0 h0 M13 _ hq15) d_Mo_put_120 ca_Mo_trickOver w_1111 rfl rfl (Nat.le_of_ble_eq_true rfl) ⟨(Nat.le_of_ble_eq_true rfl), (Nat.le_of_ble_eq_true rfl)⟩ ?_
    obtain rfl := Option.some.inj h
    exact g_vret d_Mo_put_123 rfl
noncomputable def f_Mo_put_b40 (g0 : Nat) (c0 : Nat) (n0 : Nat) (M : gMem) (x1 : Int32) (x2 : Int32) : Option gMem :=
  (gRd n0 (M g0 c0) 15).bind fun v3 =>
  if v3 ≤ 0 then
    f_Mo_put_b60 g0 c0 n0 M x1 x2
  else
    (f_Mo_isSmall x1).bind fun q17 =>
    if q17 = 0 then
      f_Mo_put_b60 g0 c0 n0 M x1 x2
    else
      (f_Mo_drop g0 c0 n0 M x2 x1).bind fun q18 =>
      f_Mo_put_b60 g0 c0 n0 q18 x1 x2
theorem t_Mo_put_b40 {l : Launch} {ε : gEnv} (g0 : Nat) (c0 : Nat) (n0 : Nat) (h0 : gHas ε g0 c0 (0, n0, [])) (M : gMem) (x1 : Int32) (x2 : Int32) (r : gMem) (h : f_Mo_put_b40 g0 c0 n0 M x1 x2 = some r) : gGo l ε k_Mo_put (gR 3 69) (gFn ε none r) 40 [(0, .ref (ε.2.2.1 g0 c0)), (1, .int x1), (2, .int x2)] [] M := by
  unfold f_Mo_put_b40 at h
  refine g_aload_n d_Mo_put_40 rfl 0 rfl ?_
  refine g_bipush (v := 15) d_Mo_put_41 (by decide) ?_
  obtain ⟨v3, hv3, h⟩ := gOb h
  refine g_iaload d_Mo_put_43 h0 hv3 ?_
  refine g_if_le (tgt := 60) d_Mo_put_44 (by decide) (fun c20 => ?_) (fun c20 => ?_)
  · rw [if_pos c20] at h
    exact t_Mo_put_b60 g0 c0 n0 h0 M x1 x2 _ h
  · rw [if_neg c20] at h
    refine g_iload_n d_Mo_put_47 rfl 1 rfl ?_
    obtain ⟨q17, hq17, h⟩ := gOb h
    refine g_callS_i (As := [.int x1]) (rest := []) (ct_Mo_isSmall M x1 _ hq17) d_Mo_put_48 ca_Mo_isSmall w_1099 rfl rfl (Nat.le_of_ble_eq_true rfl) ⟨(Nat.le_of_ble_eq_true rfl), (Nat.le_of_ble_eq_true rfl)⟩ ?_
    refine g_if_eq (tgt := 60) d_Mo_put_51 (by decide) (fun c19 => ?_) (fun c19 => ?_)
    · rw [if_pos c19] at h
      exact t_Mo_put_b60 g0 c0 n0 h0 M x1 x2 _ h
    · rw [if_neg c19] at h
      refine g_aload_n d_Mo_put_54 rfl 0 rfl ?_
      refine g_iload_n d_Mo_put_55 rfl 2 rfl ?_
      refine g_iload_n d_Mo_put_56 rfl 1 rfl ?_
      obtain ⟨q18, hq18, h⟩ := gOb h
      refine g_callS_v (As := [.ref (ε.2.2.1 g0 c0), .int x2, .int x1]) (rest := []) (ct_Mo_drop g0 c0 n0 h0 M x2 x1 _ hq18) d_Mo_put_57 ca_Mo_drop w_1105 rfl rfl (Nat.le_of_ble_eq_true rfl) ⟨(Nat.le_of_ble_eq_true rfl), (Nat.le_of_ble_eq_true rfl)⟩ ?_
      exact t_Mo_put_b60 g0 c0 n0 h0 q18 x1 x2 _ h
noncomputable def f_Mo_put (g0 : Nat) (c0 : Nat) (n0 : Nat) (M : gMem) (a1 : Int32) : Option gMem :=
  (gRd n0 (M g0 c0) 2).bind fun v1 =>
  (gRd n0 (M g0 c0) 15).bind fun v2 =>
  if v2 ≤ 0 then
    f_Mo_put_b40 g0 c0 n0 M a1 v1
  else
    (f_Mo_suit a1).bind fun q21 =>
    (f_Mo_led g0 c0 n0 M).bind fun q22 =>
    if q21 = q22 then
      f_Mo_put_b40 g0 c0 n0 M a1 v1
    else
      (f_Mo_led g0 c0 n0 M).bind fun q23 =>
      (gWr M g0 c0 n0 ((181 + (4 * v1)) + q23) 1).bind fun M24 =>
      f_Mo_put_b60 g0 c0 n0 M24 a1 v1
theorem t_Mo_put {l : Launch} {ε : gEnv} (g0 : Nat) (c0 : Nat) (n0 : Nat) (h0 : gHas ε g0 c0 (0, n0, [])) (M : gMem) (a1 : Int32) (r : gMem) (h : f_Mo_put g0 c0 n0 M a1 = some r) : gGo l ε k_Mo_put (gR 3 69) (gFn ε none r) 0 [(0, .ref (ε.2.2.1 g0 c0)), (1, .int a1)] [] M := by
  unfold f_Mo_put at h
  refine g_aload_n d_Mo_put_0 rfl 0 rfl ?_
  refine g_iconst (v := 2) d_Mo_put_1 (by decide) ?_
  obtain ⟨v1, hv1, h⟩ := gOb h
  refine g_iaload d_Mo_put_2 h0 hv1 ?_
  refine g_istore_n (L' := [(2, .int v1), (0, .ref (ε.2.2.1 g0 c0)), (1, .int a1)]) d_Mo_put_3 rfl (by decide) rfl ?_
  refine g_aload_n d_Mo_put_4 rfl 1 rfl ?_
  refine g_bipush (v := 15) d_Mo_put_5 (by decide) ?_
  obtain ⟨v2, hv2, h⟩ := gOb h
  refine g_iaload d_Mo_put_7 h0 hv2 ?_
  refine g_if_le (tgt := 40) d_Mo_put_8 (by decide) (fun c26 => ?_) (fun c26 => ?_)
  · rw [if_pos c26] at h
    refine gGo_sub [1, 2, 0] rfl ?_
    exact t_Mo_put_b40 g0 c0 n0 h0 M a1 v1 _ h
  · rw [if_neg c26] at h
    refine g_iload_n d_Mo_put_11 rfl 2 rfl ?_
    obtain ⟨q21, hq21, h⟩ := gOb h
    refine g_callS_i (As := [.int a1]) (rest := []) (ct_Mo_suit M a1 _ hq21) d_Mo_put_12 ca_Mo_suit w_1087 rfl rfl (Nat.le_of_ble_eq_true rfl) ⟨(Nat.le_of_ble_eq_true rfl), (Nat.le_of_ble_eq_true rfl)⟩ ?_
    refine g_aload_n d_Mo_put_15 rfl 1 rfl ?_
    obtain ⟨q22, hq22, h⟩ := gOb h
    refine g_callS_i (As := [.ref (ε.2.2.1 g0 c0)]) (rest := [.int q21]) (ct_Mo_led g0 c0 n0 h0 M _ hq22) d_Mo_put_16 ca_Mo_led w_1084 rfl rfl (Nat.le_of_ble_eq_true rfl) ⟨(Nat.le_of_ble_eq_true rfl), (Nat.le_of_ble_eq_true rfl)⟩ ?_
    refine g_icmp_eq (tgt := 40) d_Mo_put_19 (by decide) (fun c25 => ?_) (fun c25 => ?_)
    · rw [if_pos c25] at h
      refine gGo_sub [1, 2, 0] rfl ?_
      exact t_Mo_put_b40 g0 c0 n0 h0 M a1 v1 _ h
    · rw [if_neg c25] at h
      refine g_aload_n d_Mo_put_22 rfl 1 rfl ?_
      refine g_sipush (v := 181) d_Mo_put_23 (by decide) ?_
      refine g_iconst (v := 4) d_Mo_put_26 (by decide) ?_
      refine g_iload_n d_Mo_put_27 rfl 0 rfl ?_
      refine g_imul d_Mo_put_28 ?_
      refine g_iadd d_Mo_put_29 ?_
      refine g_aload_n d_Mo_put_30 rfl 1 rfl ?_
      obtain ⟨q23, hq23, h⟩ := gOb h
      refine g_callS_i (As := [.ref (ε.2.2.1 g0 c0)]) (rest := [.int (181 + (4 * v1)), .ref (ε.2.2.1 g0 c0)]) (ct_Mo_led g0 c0 n0 h0 M _ hq23) d_Mo_put_31 ca_Mo_led w_1084 rfl rfl (Nat.le_of_ble_eq_true rfl) ⟨(Nat.le_of_ble_eq_true rfl), (Nat.le_of_ble_eq_true rfl)⟩ ?_
      refine g_iadd d_Mo_put_34 ?_
      refine g_iconst (v := 1) d_Mo_put_35 (by decide) ?_
      obtain ⟨M24, hM24, h⟩ := gOb h
      refine g_iastore d_Mo_put_36 h0 hM24 ?_
      refine g_goto (tgt := 60) d_Mo_put_37 (by decide) ?_
      refine gGo_sub [1, 2, 0] rfl ?_
      exact t_Mo_put_b60 g0 c0 n0 h0 M24 a1 v1 _ h
theorem ct_Mo_put {l : Launch} {ε : gEnv} (g0 : Nat) (c0 : Nat) (n0 : Nat) (h0 : gHas ε g0 c0 (0, n0, [])) (M : gMem) (a1 : Int32) (r : gMem) (h : f_Mo_put g0 c0 n0 M a1 = some r) : gCt l ε k_Mo_put 3 69 [.ref (ε.2.2.1 g0 c0), .int a1] M none r :=
  gCt_of (by decide) (Nat.le_of_ble_eq_true rfl) rfl (t_Mo_put g0 c0 n0 h0 M a1 r h)
abbrev k_Mo_playOn : gMD := (⟨"DropSignalsModel", "playOn", "([II)I"⟩, prog_11_method_28_code, 3, (some .int))
theorem w_1094 : Cond.static ⟨"DropSignalsModel", "playOn", "([II)I"⟩ ∈ gWs := gWs_in (i := 1094) (by decide +kernel) rfl
set_option maxRecDepth 100000 in
theorem ca_Mo_playOn : gCaS k_Mo_playOn 2 := ⟨⟨gWs_in (i := 1095) rfl rfl, w_43, by decide, by decide, by decide +kernel⟩, w_1094⟩
theorem d_Mo_playOn_0 : decode prog_11_method_28_code 0 = .ok (.aload_n 0, 1) := by decide +kernel
theorem d_Mo_playOn_1 : decode prog_11_method_28_code 1 = .ok (.iload_n 1, 1) := by decide +kernel
theorem d_Mo_playOn_2 : decode prog_11_method_28_code 2 = .ok (.invokestatic 74, 3) := by decide +kernel
theorem d_Mo_playOn_5 : decode prog_11_method_28_code 5 = .ok (.istore_n 2, 1) := by decide +kernel
theorem d_Mo_playOn_6 : decode prog_11_method_28_code 6 = .ok (.iload_n 2, 1) := by decide +kernel
theorem d_Mo_playOn_7 : decode prog_11_method_28_code 7 = .ok (.ifCond .ne 11, 3) := by decide +kernel
theorem d_Mo_playOn_10 : decode prog_11_method_28_code 10 = .ok (.aload_n 0, 1) := by decide +kernel
theorem d_Mo_playOn_11 : decode prog_11_method_28_code 11 = .ok (.iload_n 1, 1) := by decide +kernel
theorem d_Mo_playOn_12 : decode prog_11_method_28_code 12 = .ok (.invokestatic 105, 3) := by decide +kernel
theorem d_Mo_playOn_15 : decode prog_11_method_28_code 15 = .ok (.goto 11, 3) := by decide +kernel
theorem d_Mo_playOn_18 : decode prog_11_method_28_code 18 = .ok (.aload_n 0, 1) := by decide +kernel
theorem d_Mo_playOn_19 : decode prog_11_method_28_code 19 = .ok (.bipush 11, 2) := by decide +kernel
theorem d_Mo_playOn_21 : decode prog_11_method_28_code 21 = .ok (.dup2, 1) := by decide +kernel
theorem d_Mo_playOn_22 : decode prog_11_method_28_code 22 = .ok (.iaload, 1) := by decide +kernel
theorem d_Mo_playOn_23 : decode prog_11_method_28_code 23 = .ok (.iconst 1, 1) := by decide +kernel
theorem d_Mo_playOn_24 : decode prog_11_method_28_code 24 = .ok (.iadd, 1) := by decide +kernel
theorem d_Mo_playOn_25 : decode prog_11_method_28_code 25 = .ok (.iastore, 1) := by decide +kernel
theorem d_Mo_playOn_26 : decode prog_11_method_28_code 26 = .ok (.iload_n 2, 1) := by decide +kernel
theorem d_Mo_playOn_27 : decode prog_11_method_28_code 27 = .ok (.ireturn, 1) := by decide +kernel
theorem w_1096 : Cond.methodLink "DropSignalsModel" 105 ⟨"DropSignalsModel", "put", "([II)V"⟩ ∈ gWs := gWs_in (i := 1096) (by decide +kernel) rfl
noncomputable def f_Mo_playOn_b26 (g0 : Nat) (c0 : Nat) (n0 : Nat) (M : gMem) (x2 : Int32) : Option (Int32 × gMem) :=
  some (x2, M)
theorem t_Mo_playOn_b26 {l : Launch} {ε : gEnv} (g0 : Nat) (c0 : Nat) (n0 : Nat) (h0 : gHas ε g0 c0 (0, n0, [])) (M : gMem) (x2 : Int32) (r : (Int32 × gMem)) (h : f_Mo_playOn_b26 g0 c0 n0 M x2 = some r) : gGo l ε k_Mo_playOn (gR 4 91) (gFn ε (some (.int r.1)) r.2) 26 [(2, .int x2)] [] M := by
  unfold f_Mo_playOn_b26 at h
  refine g_iload_n d_Mo_playOn_26 rfl 0 rfl ?_
  obtain rfl := Option.some.inj h
  exact g_iret d_Mo_playOn_27 rfl
noncomputable def f_Mo_playOn (g0 : Nat) (c0 : Nat) (n0 : Nat) (M : gMem) (a1 : Int32) : Option (Int32 × gMem) :=
  (f_Mo_reason g0 c0 n0 M a1).bind fun q1 =>
  if q1 = 0 then
    (f_Mo_put g0 c0 n0 M a1).bind fun q4 =>
    f_Mo_playOn_b26 g0 c0 n0 q4 q1
  else
    (gRd n0 (M g0 c0) 11).bind fun v2 =>
    (gWr M g0 c0 n0 11 (v2 + 1)).bind fun M3 =>
    f_Mo_playOn_b26 g0 c0 n0 M3 q1
theorem t_Mo_playOn {l : Launch} {ε : gEnv} (g0 : Nat) (c0 : Nat) (n0 : Nat) (h0 : gHas ε g0 c0 (0, n0, [])) (M : gMem) (a1 : Int32) (r : (Int32 × gMem)) (h : f_Mo_playOn g0 c0 n0 M a1 = some r) : gGo l ε k_Mo_playOn (gR 4 91) (gFn ε (some (.int r.1)) r.2) 0 [(0, .ref (ε.2.2.1 g0 c0)), (1, .int a1)] [] M := by
  unfold f_Mo_playOn at h
  refine g_aload_n d_Mo_playOn_0 rfl 0 rfl ?_
  refine g_iload_n d_Mo_playOn_1 rfl 1 rfl ?_
  obtain ⟨q1, hq1, h⟩ := gOb h
  refine g_callS_i (As := [.ref (ε.2.2.1 g0 c0), .int a1]) (rest := []) (ct_Mo_reason g0 c0 n0 h0 M a1 _ hq1) d_Mo_playOn_2 ca_Mo_reason w_1078 rfl rfl (Nat.le_of_ble_eq_true rfl) ⟨(Nat.le_of_ble_eq_true rfl), (Nat.le_of_ble_eq_true rfl)⟩ ?_
  refine g_istore_n (L' := [(2, .int q1), (0, .ref (ε.2.2.1 g0 c0)), (1, .int a1)]) d_Mo_playOn_5 rfl (by decide) rfl ?_
  refine g_iload_n d_Mo_playOn_6 rfl 0 rfl ?_
  refine g_if_ne (tgt := 18) d_Mo_playOn_7 (by decide) (fun c5 => ?_) (fun c5 => ?_)
  · rw [if_neg c5] at h
    refine g_aload_n d_Mo_playOn_18 rfl 1 rfl ?_
    refine g_bipush (v := 11) d_Mo_playOn_19 (by decide) ?_
    refine g_dup2 d_Mo_playOn_21 rfl rfl ?_
    obtain ⟨v2, hv2, h⟩ := gOb h
    refine g_iaload d_Mo_playOn_22 h0 hv2 ?_
    refine g_iconst (v := 1) d_Mo_playOn_23 (by decide) ?_
    refine g_iadd d_Mo_playOn_24 ?_
    obtain ⟨M3, hM3, h⟩ := gOb h
    refine g_iastore d_Mo_playOn_25 h0 hM3 ?_
    refine gGo_sub [0] rfl ?_
    exact t_Mo_playOn_b26 g0 c0 n0 h0 M3 q1 _ h
  · rw [if_pos c5] at h
    refine g_aload_n d_Mo_playOn_10 rfl 1 rfl ?_
    refine g_iload_n d_Mo_playOn_11 rfl 2 rfl ?_
    obtain ⟨q4, hq4, h⟩ := gOb h
    refine g_callS_v (As := [.ref (ε.2.2.1 g0 c0), .int a1]) (rest := []) (ct_Mo_put g0 c0 n0 h0 M a1 _ hq4) d_Mo_playOn_12 ca_Mo_put w_1096 rfl rfl (Nat.le_of_ble_eq_true rfl) ⟨(Nat.le_of_ble_eq_true rfl), (Nat.le_of_ble_eq_true rfl)⟩ ?_
    refine g_goto (tgt := 26) d_Mo_playOn_15 (by decide) ?_
    refine gGo_sub [0] rfl ?_
    exact t_Mo_playOn_b26 g0 c0 n0 h0 q4 q1 _ h
theorem ct_Mo_playOn {l : Launch} {ε : gEnv} (g0 : Nat) (c0 : Nat) (n0 : Nat) (h0 : gHas ε g0 c0 (0, n0, [])) (M : gMem) (a1 : Int32) (r : (Int32 × gMem)) (h : f_Mo_playOn g0 c0 n0 M a1 = some r) : gCt l ε k_Mo_playOn 4 91 [.ref (ε.2.2.1 g0 c0), .int a1] M (some (.int r.1)) r.2 :=
  gCt_of (by decide) (Nat.le_of_ble_eq_true rfl) rfl (t_Mo_playOn g0 c0 n0 h0 M a1 r h)
abbrev k_Mo_smallOf : gMD := (⟨"DropSignalsModel", "smallOf", "([IIIIIZ)I"⟩, prog_11_method_29_code, 9, (some .int))
theorem w_1130 : Cond.static ⟨"DropSignalsModel", "smallOf", "([IIIIIZ)I"⟩ ∈ gWs := gWs_in (i := 1130) (by decide +kernel) rfl
set_option maxRecDepth 100000 in
theorem ca_Mo_smallOf : gCaS k_Mo_smallOf 6 := ⟨⟨gWs_in (i := 1131) rfl rfl, w_43, by decide, by decide, by decide +kernel⟩, w_1130⟩
theorem d_Mo_smallOf_0 : decode prog_11_method_29_code 0 = .ok (.iconst (-1), 1) := by decide +kernel
theorem d_Mo_smallOf_1 : decode prog_11_method_29_code 1 = .ok (.istore 6, 2) := by decide +kernel
theorem d_Mo_smallOf_3 : decode prog_11_method_29_code 3 = .ok (.bipush 8, 2) := by decide +kernel
theorem d_Mo_smallOf_5 : decode prog_11_method_29_code 5 = .ok (.iload_n 2, 1) := by decide +kernel
theorem d_Mo_smallOf_6 : decode prog_11_method_29_code 6 = .ok (.imul, 1) := by decide +kernel
theorem d_Mo_smallOf_7 : decode prog_11_method_29_code 7 = .ok (.istore 7, 2) := by decide +kernel
theorem d_Mo_smallOf_9 : decode prog_11_method_29_code 9 = .ok (.iload 7, 2) := by decide +kernel
theorem d_Mo_smallOf_11 : decode prog_11_method_29_code 11 = .ok (.bipush 8, 2) := by decide +kernel
theorem d_Mo_smallOf_13 : decode prog_11_method_29_code 13 = .ok (.iload_n 2, 1) := by decide +kernel
theorem d_Mo_smallOf_14 : decode prog_11_method_29_code 14 = .ok (.imul, 1) := by decide +kernel
theorem d_Mo_smallOf_15 : decode prog_11_method_29_code 15 = .ok (.iconst 4, 1) := by decide +kernel
theorem d_Mo_smallOf_16 : decode prog_11_method_29_code 16 = .ok (.iadd, 1) := by decide +kernel
theorem d_Mo_smallOf_17 : decode prog_11_method_29_code 17 = .ok (.if_icmp .ge 65, 3) := by decide +kernel
theorem d_Mo_smallOf_20 : decode prog_11_method_29_code 20 = .ok (.aload_n 0, 1) := by decide +kernel
theorem d_Mo_smallOf_21 : decode prog_11_method_29_code 21 = .ok (.bipush 21, 2) := by decide +kernel
theorem d_Mo_smallOf_23 : decode prog_11_method_29_code 23 = .ok (.iload 7, 2) := by decide +kernel
theorem d_Mo_smallOf_25 : decode prog_11_method_29_code 25 = .ok (.iadd, 1) := by decide +kernel
theorem d_Mo_smallOf_26 : decode prog_11_method_29_code 26 = .ok (.iaload, 1) := by decide +kernel
theorem d_Mo_smallOf_27 : decode prog_11_method_29_code 27 = .ok (.iload_n 1, 1) := by decide +kernel
theorem d_Mo_smallOf_28 : decode prog_11_method_29_code 28 = .ok (.if_icmp .ne 20, 3) := by decide +kernel
theorem d_Mo_smallOf_31 : decode prog_11_method_29_code 31 = .ok (.iload 7, 2) := by decide +kernel
theorem d_Mo_smallOf_33 : decode prog_11_method_29_code 33 = .ok (.iload_n 3, 1) := by decide +kernel
theorem d_Mo_smallOf_34 : decode prog_11_method_29_code 34 = .ok (.if_icmp .le 14, 3) := by decide +kernel
theorem d_Mo_smallOf_37 : decode prog_11_method_29_code 37 = .ok (.iload 7, 2) := by decide +kernel
theorem d_Mo_smallOf_39 : decode prog_11_method_29_code 39 = .ok (.iload 4, 2) := by decide +kernel
theorem d_Mo_smallOf_41 : decode prog_11_method_29_code 41 = .ok (.if_icmp .ge 7, 3) := by decide +kernel
theorem d_Mo_smallOf_44 : decode prog_11_method_29_code 44 = .ok (.iconst 1, 1) := by decide +kernel
theorem d_Mo_smallOf_45 : decode prog_11_method_29_code 45 = .ok (.goto 4, 3) := by decide +kernel
theorem d_Mo_smallOf_48 : decode prog_11_method_29_code 48 = .ok (.iconst 0, 1) := by decide +kernel
theorem d_Mo_smallOf_49 : decode prog_11_method_29_code 49 = .ok (.istore 8, 2) := by decide +kernel
theorem d_Mo_smallOf_51 : decode prog_11_method_29_code 51 = .ok (.iload 8, 2) := by decide +kernel
theorem d_Mo_smallOf_53 : decode prog_11_method_29_code 53 = .ok (.ifCond .eq 19, 3) := by decide +kernel
theorem d_Mo_smallOf_56 : decode prog_11_method_29_code 56 = .ok (.iload 6, 2) := by decide +kernel
theorem d_Mo_smallOf_58 : decode prog_11_method_29_code 58 = .ok (.iconst (-1), 1) := by decide +kernel
theorem d_Mo_smallOf_59 : decode prog_11_method_29_code 59 = .ok (.if_icmp .eq 8, 3) := by decide +kernel
theorem d_Mo_smallOf_62 : decode prog_11_method_29_code 62 = .ok (.iload 5, 2) := by decide +kernel
theorem d_Mo_smallOf_64 : decode prog_11_method_29_code 64 = .ok (.ifCond .eq 8, 3) := by decide +kernel
theorem d_Mo_smallOf_67 : decode prog_11_method_29_code 67 = .ok (.iload 7, 2) := by decide +kernel
theorem d_Mo_smallOf_69 : decode prog_11_method_29_code 69 = .ok (.goto 5, 3) := by decide +kernel
theorem d_Mo_smallOf_72 : decode prog_11_method_29_code 72 = .ok (.iload 6, 2) := by decide +kernel
theorem d_Mo_smallOf_74 : decode prog_11_method_29_code 74 = .ok (.istore 6, 2) := by decide +kernel
theorem d_Mo_smallOf_76 : decode prog_11_method_29_code 76 = .ok (.iinc 7 1, 3) := by decide +kernel
theorem d_Mo_smallOf_79 : decode prog_11_method_29_code 79 = .ok (.goto (-70), 3) := by decide +kernel
theorem d_Mo_smallOf_82 : decode prog_11_method_29_code 82 = .ok (.iload 6, 2) := by decide +kernel
theorem d_Mo_smallOf_84 : decode prog_11_method_29_code 84 = .ok (.ireturn, 1) := by decide +kernel
noncomputable def f_Mo_smallOf_b74 (g0 : Nat) (c0 : Nat) (n0 : Nat) (M : gMem) (x1 : Int32) (x2 : Int32) (x3 : Int32) (x4 : Int32) (x5 : Int32) (x7 : Int32) (s0 : Int32) : Option ((Int32 × Int32) ⊕ Int32) :=
  some (.inl (s0, (x7 + 1)))
theorem t_Mo_smallOf_b74 {l : Launch} {ε : gEnv} (g0 : Nat) (c0 : Nat) (n0 : Nat) (h0 : gHas ε g0 c0 (0, n0, [])) (M : gMem) (x1 : Int32) (x2 : Int32) (x3 : Int32) (x4 : Int32) (x5 : Int32) (x7 : Int32) (s0 : Int32) (res : ((Int32 × Int32) ⊕ Int32)) (h : f_Mo_smallOf_b74 g0 c0 n0 M x1 x2 x3 x4 x5 x7 s0 = some res) (r : Int32) (k1 : ∀ s0 : (Int32 × Int32), res = .inl s0 → gGo l ε k_Mo_smallOf (gR 0 0) (gFn ε (some (.int r)) M) 9 [(0, .ref (ε.2.2.1 g0 c0)), (1, .int x1), (2, .int x2), (3, .int x3), (4, .int x4), (5, .int x5), (6, .int s0.1), (7, .int s0.2)] [] M) (k2 : ∀ r', res = .inr r' → r' = r) : gGo l ε k_Mo_smallOf (gR 0 0) (gFn ε (some (.int r)) M) 74 [(0, .ref (ε.2.2.1 g0 c0)), (1, .int x1), (2, .int x2), (3, .int x3), (4, .int x4), (5, .int x5), (7, .int x7)] [.int s0] M := by
  unfold f_Mo_smallOf_b74 at h
  refine g_istore (L' := [(6, .int s0), (0, .ref (ε.2.2.1 g0 c0)), (1, .int x1), (2, .int x2), (3, .int x3), (4, .int x4), (5, .int x5), (7, .int x7)]) d_Mo_smallOf_74 (by decide) rfl ?_
  refine g_iinc (v := (x7 + 1)) (L' := [(7, .int (x7 + 1)), (6, .int s0), (0, .ref (ε.2.2.1 g0 c0)), (1, .int x1), (2, .int x2), (3, .int x3), (4, .int x4), (5, .int x5)]) d_Mo_smallOf_76 (j := 7) rfl rfl (by decide) rfl ?_
  refine g_goto (tgt := 9) d_Mo_smallOf_79 (by decide) ?_
  refine gGo_sub [2, 3, 4, 5, 6, 7, 1, 0] rfl ?_
  obtain rfl := Option.some.inj h
  exact k1 (s0, (x7 + 1)) rfl
noncomputable def f_Mo_smallOf_b72 (g0 : Nat) (c0 : Nat) (n0 : Nat) (M : gMem) (x1 : Int32) (x2 : Int32) (x3 : Int32) (x4 : Int32) (x5 : Int32) (x6 : Int32) (x7 : Int32) : Option ((Int32 × Int32) ⊕ Int32) :=
  f_Mo_smallOf_b74 g0 c0 n0 M x1 x2 x3 x4 x5 x7 x6
theorem t_Mo_smallOf_b72 {l : Launch} {ε : gEnv} (g0 : Nat) (c0 : Nat) (n0 : Nat) (h0 : gHas ε g0 c0 (0, n0, [])) (M : gMem) (x1 : Int32) (x2 : Int32) (x3 : Int32) (x4 : Int32) (x5 : Int32) (x6 : Int32) (x7 : Int32) (res : ((Int32 × Int32) ⊕ Int32)) (h : f_Mo_smallOf_b72 g0 c0 n0 M x1 x2 x3 x4 x5 x6 x7 = some res) (r : Int32) (k1 : ∀ s0 : (Int32 × Int32), res = .inl s0 → gGo l ε k_Mo_smallOf (gR 0 0) (gFn ε (some (.int r)) M) 9 [(0, .ref (ε.2.2.1 g0 c0)), (1, .int x1), (2, .int x2), (3, .int x3), (4, .int x4), (5, .int x5), (6, .int s0.1), (7, .int s0.2)] [] M) (k2 : ∀ r', res = .inr r' → r' = r) : gGo l ε k_Mo_smallOf (gR 0 0) (gFn ε (some (.int r)) M) 72 [(0, .ref (ε.2.2.1 g0 c0)), (1, .int x1), (2, .int x2), (3, .int x3), (4, .int x4), (5, .int x5), (6, .int x6), (7, .int x7)] [] M := by
  unfold f_Mo_smallOf_b72 at h
  refine g_iload d_Mo_smallOf_72 6 rfl ?_
  refine gGo_sub [0, 1, 2, 3, 4, 5, 7] rfl ?_
  exact t_Mo_smallOf_b74 g0 c0 n0 h0 M x1 x2 x3 x4 x5 x7 x6 _ h r k1 k2
noncomputable def f_Mo_smallOf_b67 (g0 : Nat) (c0 : Nat) (n0 : Nat) (M : gMem) (x1 : Int32) (x2 : Int32) (x3 : Int32) (x4 : Int32) (x5 : Int32) (x7 : Int32) : Option ((Int32 × Int32) ⊕ Int32) :=
  f_Mo_smallOf_b74 g0 c0 n0 M x1 x2 x3 x4 x5 x7 x7
theorem t_Mo_smallOf_b67 {l : Launch} {ε : gEnv} (g0 : Nat) (c0 : Nat) (n0 : Nat) (h0 : gHas ε g0 c0 (0, n0, [])) (M : gMem) (x1 : Int32) (x2 : Int32) (x3 : Int32) (x4 : Int32) (x5 : Int32) (x7 : Int32) (res : ((Int32 × Int32) ⊕ Int32)) (h : f_Mo_smallOf_b67 g0 c0 n0 M x1 x2 x3 x4 x5 x7 = some res) (r : Int32) (k1 : ∀ s0 : (Int32 × Int32), res = .inl s0 → gGo l ε k_Mo_smallOf (gR 0 0) (gFn ε (some (.int r)) M) 9 [(0, .ref (ε.2.2.1 g0 c0)), (1, .int x1), (2, .int x2), (3, .int x3), (4, .int x4), (5, .int x5), (6, .int s0.1), (7, .int s0.2)] [] M) (k2 : ∀ r', res = .inr r' → r' = r) : gGo l ε k_Mo_smallOf (gR 0 0) (gFn ε (some (.int r)) M) 67 [(0, .ref (ε.2.2.1 g0 c0)), (1, .int x1), (2, .int x2), (3, .int x3), (4, .int x4), (5, .int x5), (7, .int x7)] [] M := by
  unfold f_Mo_smallOf_b67 at h
  refine g_iload d_Mo_smallOf_67 6 rfl ?_
  refine g_goto (tgt := 74) d_Mo_smallOf_69 (by decide) ?_
  exact t_Mo_smallOf_b74 g0 c0 n0 h0 M x1 x2 x3 x4 x5 x7 x7 _ h r k1 k2
noncomputable def f_Mo_smallOf_b49 (g0 : Nat) (c0 : Nat) (n0 : Nat) (M : gMem) (x1 : Int32) (x2 : Int32) (x3 : Int32) (x4 : Int32) (x5 : Int32) (x6 : Int32) (x7 : Int32) (s0 : Int32) : Option ((Int32 × Int32) ⊕ Int32) :=
  if s0 = 0 then
    f_Mo_smallOf_b72 g0 c0 n0 M x1 x2 x3 x4 x5 x6 x7
  else
    if x6 = (-1) then
      f_Mo_smallOf_b67 g0 c0 n0 M x1 x2 x3 x4 x5 x7
    else
      if x5 = 0 then
        f_Mo_smallOf_b72 g0 c0 n0 M x1 x2 x3 x4 x5 x6 x7
      else
        f_Mo_smallOf_b67 g0 c0 n0 M x1 x2 x3 x4 x5 x7
theorem t_Mo_smallOf_b49 {l : Launch} {ε : gEnv} (g0 : Nat) (c0 : Nat) (n0 : Nat) (h0 : gHas ε g0 c0 (0, n0, [])) (M : gMem) (x1 : Int32) (x2 : Int32) (x3 : Int32) (x4 : Int32) (x5 : Int32) (x6 : Int32) (x7 : Int32) (s0 : Int32) (res : ((Int32 × Int32) ⊕ Int32)) (h : f_Mo_smallOf_b49 g0 c0 n0 M x1 x2 x3 x4 x5 x6 x7 s0 = some res) (r : Int32) (k1 : ∀ s0 : (Int32 × Int32), res = .inl s0 → gGo l ε k_Mo_smallOf (gR 0 0) (gFn ε (some (.int r)) M) 9 [(0, .ref (ε.2.2.1 g0 c0)), (1, .int x1), (2, .int x2), (3, .int x3), (4, .int x4), (5, .int x5), (6, .int s0.1), (7, .int s0.2)] [] M) (k2 : ∀ r', res = .inr r' → r' = r) : gGo l ε k_Mo_smallOf (gR 0 0) (gFn ε (some (.int r)) M) 49 [(0, .ref (ε.2.2.1 g0 c0)), (1, .int x1), (2, .int x2), (3, .int x3), (4, .int x4), (5, .int x5), (6, .int x6), (7, .int x7)] [.int s0] M := by
  unfold f_Mo_smallOf_b49 at h
  refine g_istore (L' := [(8, .int s0), (0, .ref (ε.2.2.1 g0 c0)), (1, .int x1), (2, .int x2), (3, .int x3), (4, .int x4), (5, .int x5), (6, .int x6), (7, .int x7)]) d_Mo_smallOf_49 (by decide) rfl ?_
  refine g_iload d_Mo_smallOf_51 0 rfl ?_
  refine g_if_eq (tgt := 72) d_Mo_smallOf_53 (by decide) (fun c4 => ?_) (fun c4 => ?_)
  · rw [if_pos c4] at h
    refine gGo_sub [1, 2, 3, 4, 5, 6, 7, 8] rfl ?_
    exact t_Mo_smallOf_b72 g0 c0 n0 h0 M x1 x2 x3 x4 x5 x6 x7 _ h r k1 k2
  · rw [if_neg c4] at h
    refine g_iload d_Mo_smallOf_56 7 rfl ?_
    refine g_iconst (v := -1) d_Mo_smallOf_58 (by decide) ?_
    refine g_icmp_eq (tgt := 67) d_Mo_smallOf_59 (by decide) (fun c3 => ?_) (fun c3 => ?_)
    · rw [if_pos c3] at h
      refine gGo_sub [1, 2, 3, 4, 5, 6, 8] rfl ?_
      exact t_Mo_smallOf_b67 g0 c0 n0 h0 M x1 x2 x3 x4 x5 x7 _ h r k1 k2
    · rw [if_neg c3] at h
      refine g_iload d_Mo_smallOf_62 6 rfl ?_
      refine g_if_eq (tgt := 72) d_Mo_smallOf_64 (by decide) (fun c2 => ?_) (fun c2 => ?_)
      · rw [if_pos c2] at h
        refine gGo_sub [1, 2, 3, 4, 5, 6, 7, 8] rfl ?_
        exact t_Mo_smallOf_b72 g0 c0 n0 h0 M x1 x2 x3 x4 x5 x6 x7 _ h r k1 k2
      · rw [if_neg c2] at h
        refine gGo_sub [1, 2, 3, 4, 5, 6, 8] rfl ?_
        exact t_Mo_smallOf_b67 g0 c0 n0 h0 M x1 x2 x3 x4 x5 x7 _ h r k1 k2
noncomputable def f_Mo_smallOf_b48 (g0 : Nat) (c0 : Nat) (n0 : Nat) (M : gMem) (x1 : Int32) (x2 : Int32) (x3 : Int32) (x4 : Int32) (x5 : Int32) (x6 : Int32) (x7 : Int32) : Option ((Int32 × Int32) ⊕ Int32) :=
  f_Mo_smallOf_b49 g0 c0 n0 M x1 x2 x3 x4 x5 x6 x7 0
theorem t_Mo_smallOf_b48 {l : Launch} {ε : gEnv} (g0 : Nat) (c0 : Nat) (n0 : Nat) (h0 : gHas ε g0 c0 (0, n0, [])) (M : gMem) (x1 : Int32) (x2 : Int32) (x3 : Int32) (x4 : Int32) (x5 : Int32) (x6 : Int32) (x7 : Int32) (res : ((Int32 × Int32) ⊕ Int32)) (h : f_Mo_smallOf_b48 g0 c0 n0 M x1 x2 x3 x4 x5 x6 x7 = some res) (r : Int32) (k1 : ∀ s0 : (Int32 × Int32), res = .inl s0 → gGo l ε k_Mo_smallOf (gR 0 0) (gFn ε (some (.int r)) M) 9 [(0, .ref (ε.2.2.1 g0 c0)), (1, .int x1), (2, .int x2), (3, .int x3), (4, .int x4), (5, .int x5), (6, .int s0.1), (7, .int s0.2)] [] M) (k2 : ∀ r', res = .inr r' → r' = r) : gGo l ε k_Mo_smallOf (gR 0 0) (gFn ε (some (.int r)) M) 48 [(0, .ref (ε.2.2.1 g0 c0)), (1, .int x1), (2, .int x2), (3, .int x3), (4, .int x4), (5, .int x5), (6, .int x6), (7, .int x7)] [] M := by
  unfold f_Mo_smallOf_b48 at h
  refine g_iconst (v := 0) d_Mo_smallOf_48 (by decide) ?_
  exact t_Mo_smallOf_b49 g0 c0 n0 h0 M x1 x2 x3 x4 x5 x6 x7 0 _ h r k1 k2
noncomputable def f_Mo_smallOf_s9 (g0 : Nat) (c0 : Nat) (n0 : Nat) (M : gMem) (x1 : Int32) (x2 : Int32) (x3 : Int32) (x4 : Int32) (x5 : Int32) (x6 : Int32) (x7 : Int32) : Option ((Int32 × Int32) ⊕ Int32) :=
  if ((8 * x2) + 4) ≤ x7 then
    some (.inr x6)
  else
    (gRd n0 (M g0 c0) (21 + x7)).bind fun v1 =>
    if v1 = x1 then
      if x7 ≤ x3 then
        f_Mo_smallOf_b48 g0 c0 n0 M x1 x2 x3 x4 x5 x6 x7
      else
        if x4 ≤ x7 then
          f_Mo_smallOf_b48 g0 c0 n0 M x1 x2 x3 x4 x5 x6 x7
        else
          f_Mo_smallOf_b49 g0 c0 n0 M x1 x2 x3 x4 x5 x6 x7 1
    else
      f_Mo_smallOf_b48 g0 c0 n0 M x1 x2 x3 x4 x5 x6 x7
theorem t_Mo_smallOf_s9 {l : Launch} {ε : gEnv} (g0 : Nat) (c0 : Nat) (n0 : Nat) (h0 : gHas ε g0 c0 (0, n0, [])) (M : gMem) (x1 : Int32) (x2 : Int32) (x3 : Int32) (x4 : Int32) (x5 : Int32) (x6 : Int32) (x7 : Int32) (res : ((Int32 × Int32) ⊕ Int32)) (h : f_Mo_smallOf_s9 g0 c0 n0 M x1 x2 x3 x4 x5 x6 x7 = some res) (r : Int32) (k1 : ∀ s0 : (Int32 × Int32), res = .inl s0 → gGo l ε k_Mo_smallOf (gR 0 0) (gFn ε (some (.int r)) M) 9 [(0, .ref (ε.2.2.1 g0 c0)), (1, .int x1), (2, .int x2), (3, .int x3), (4, .int x4), (5, .int x5), (6, .int s0.1), (7, .int s0.2)] [] M) (k2 : ∀ r', res = .inr r' → r' = r) : gGo l ε k_Mo_smallOf (gR 0 0) (gFn ε (some (.int r)) M) 9 [(0, .ref (ε.2.2.1 g0 c0)), (1, .int x1), (2, .int x2), (3, .int x3), (4, .int x4), (5, .int x5), (6, .int x6), (7, .int x7)] [] M := by
  unfold f_Mo_smallOf_s9 at h
  refine g_iload d_Mo_smallOf_9 7 rfl ?_
  refine g_bipush (v := 8) d_Mo_smallOf_11 (by decide) ?_
  refine g_iload_n d_Mo_smallOf_13 rfl 2 rfl ?_
  refine g_imul d_Mo_smallOf_14 ?_
  refine g_iconst (v := 4) d_Mo_smallOf_15 (by decide) ?_
  refine g_iadd d_Mo_smallOf_16 ?_
  refine g_icmp_ge (tgt := 82) d_Mo_smallOf_17 (by decide) (fun c8 => ?_) (fun c8 => ?_)
  · rw [if_pos c8] at h
    refine g_iload d_Mo_smallOf_82 6 rfl ?_
    obtain rfl := Option.some.inj h
    have e9 := k2 _ rfl
    subst e9
    exact g_iret d_Mo_smallOf_84 rfl
  · rw [if_neg c8] at h
    refine g_aload_n d_Mo_smallOf_20 rfl 0 rfl ?_
    refine g_bipush (v := 21) d_Mo_smallOf_21 (by decide) ?_
    refine g_iload d_Mo_smallOf_23 7 rfl ?_
    refine g_iadd d_Mo_smallOf_25 ?_
    obtain ⟨v1, hv1, h⟩ := gOb h
    refine g_iaload d_Mo_smallOf_26 h0 hv1 ?_
    refine g_iload_n d_Mo_smallOf_27 rfl 1 rfl ?_
    refine g_icmp_ne (tgt := 48) d_Mo_smallOf_28 (by decide) (fun c7 => ?_) (fun c7 => ?_)
    · rw [if_neg c7] at h
      exact t_Mo_smallOf_b48 g0 c0 n0 h0 M x1 x2 x3 x4 x5 x6 x7 _ h r k1 k2
    · rw [if_pos c7] at h
      refine g_iload d_Mo_smallOf_31 7 rfl ?_
      refine g_iload_n d_Mo_smallOf_33 rfl 3 rfl ?_
      refine g_icmp_le (tgt := 48) d_Mo_smallOf_34 (by decide) (fun c6 => ?_) (fun c6 => ?_)
      · rw [if_pos c6] at h
        exact t_Mo_smallOf_b48 g0 c0 n0 h0 M x1 x2 x3 x4 x5 x6 x7 _ h r k1 k2
      · rw [if_neg c6] at h
        refine g_iload d_Mo_smallOf_37 7 rfl ?_
        refine g_iload d_Mo_smallOf_39 4 rfl ?_
        refine g_icmp_ge (tgt := 48) d_Mo_smallOf_41 (by decide) (fun c5 => ?_) (fun c5 => ?_)
        · rw [if_pos c5] at h
          exact t_Mo_smallOf_b48 g0 c0 n0 h0 M x1 x2 x3 x4 x5 x6 x7 _ h r k1 k2
        · rw [if_neg c5] at h
          refine g_iconst (v := 1) d_Mo_smallOf_44 (by decide) ?_
          refine g_goto (tgt := 49) d_Mo_smallOf_45 (by decide) ?_
          exact t_Mo_smallOf_b49 g0 c0 n0 h0 M x1 x2 x3 x4 x5 x6 x7 1 _ h r k1 k2
noncomputable def f_Mo_smallOf_l9 (g0 : Nat) (c0 : Nat) (n0 : Nat) (M : gMem) (x1 : Int32) (x2 : Int32) (x3 : Int32) (x4 : Int32) (x5 : Int32) (s : (Int32 × Int32)) : Option Int32 := gLp (fun s => f_Mo_smallOf_s9 g0 c0 n0 M x1 x2 x3 x4 x5 s.1 s.2) s
theorem t_Mo_smallOf_l9 {l : Launch} {ε : gEnv} (g0 : Nat) (c0 : Nat) (n0 : Nat) (h0 : gHas ε g0 c0 (0, n0, [])) (M : gMem) (x1 : Int32) (x2 : Int32) (x3 : Int32) (x4 : Int32) (x5 : Int32) (s : (Int32 × Int32)) (r : Int32) (h : f_Mo_smallOf_l9 g0 c0 n0 M x1 x2 x3 x4 x5 s = some r) : gGo l ε k_Mo_smallOf (gR 0 0) (gFn ε (some (.int r)) M) 9 [(0, .ref (ε.2.2.1 g0 c0)), (1, .int x1), (2, .int x2), (3, .int x3), (4, .int x4), (5, .int x5), (6, .int s.1), (7, .int s.2)] [] M :=
  g_loop _ (fun r s => gGo l ε k_Mo_smallOf (gR 0 0) (gFn ε (some (.int r)) M) 9 [(0, .ref (ε.2.2.1 g0 c0)), (1, .int x1), (2, .int x2), (3, .int x3), (4, .int x4), (5, .int x5), (6, .int s.1), (7, .int s.2)] [] M) (fun s res h r k1 k2 => t_Mo_smallOf_s9 g0 c0 n0 h0 M x1 x2 x3 x4 x5 s.1 s.2 res h r k1 k2) s r h
noncomputable def f_Mo_smallOf (g0 : Nat) (c0 : Nat) (n0 : Nat) (M : gMem) (a1 : Int32) (a2 : Int32) (a3 : Int32) (a4 : Int32) (a5 : Int32) : Option Int32 :=
  f_Mo_smallOf_l9 g0 c0 n0 M a1 a2 a3 a4 a5 ((-1), (8 * a2))
theorem t_Mo_smallOf {l : Launch} {ε : gEnv} (g0 : Nat) (c0 : Nat) (n0 : Nat) (h0 : gHas ε g0 c0 (0, n0, [])) (M : gMem) (a1 : Int32) (a2 : Int32) (a3 : Int32) (a4 : Int32) (a5 : Int32) (r : Int32) (h : f_Mo_smallOf g0 c0 n0 M a1 a2 a3 a4 a5 = some r) : gGo l ε k_Mo_smallOf (gR 0 0) (gFn ε (some (.int r)) M) 0 [(0, .ref (ε.2.2.1 g0 c0)), (1, .int a1), (2, .int a2), (3, .int a3), (4, .int a4), (5, .int a5)] [] M := by
  unfold f_Mo_smallOf at h
  refine g_iconst (v := -1) d_Mo_smallOf_0 (by decide) ?_
  refine g_istore (L' := [(6, .int (-1)), (0, .ref (ε.2.2.1 g0 c0)), (1, .int a1), (2, .int a2), (3, .int a3), (4, .int a4), (5, .int a5)]) d_Mo_smallOf_1 (by decide) rfl ?_
  refine g_bipush (v := 8) d_Mo_smallOf_3 (by decide) ?_
  refine g_iload_n d_Mo_smallOf_5 rfl 3 rfl ?_
  refine g_imul d_Mo_smallOf_6 ?_
  refine g_istore (L' := [(7, .int (8 * a2)), (6, .int (-1)), (0, .ref (ε.2.2.1 g0 c0)), (1, .int a1), (2, .int a2), (3, .int a3), (4, .int a4), (5, .int a5)]) d_Mo_smallOf_7 (by decide) rfl ?_
  refine gGo_sub [2, 3, 4, 5, 6, 7, 1, 0] rfl ?_
  exact t_Mo_smallOf_l9 g0 c0 n0 h0 M a1 a2 a3 a4 a5 ((-1), (8 * a2)) _ h
theorem ct_Mo_smallOf {l : Launch} {ε : gEnv} (g0 : Nat) (c0 : Nat) (n0 : Nat) (h0 : gHas ε g0 c0 (0, n0, [])) (M : gMem) (a1 : Int32) (a2 : Int32) (a3 : Int32) (a4 : Int32) (a5 : Int32) (r : Int32) (h : f_Mo_smallOf g0 c0 n0 M a1 a2 a3 a4 a5 = some r) : gCt l ε k_Mo_smallOf 0 0 [.ref (ε.2.2.1 g0 c0), .int a1, .int a2, .int a3, .int a4, .int a5] M (some (.int r)) M :=
  gCt_of (by decide) (Nat.le_of_ble_eq_true rfl) rfl (t_Mo_smallOf g0 c0 n0 h0 M a1 a2 a3 a4 a5 r h)
abbrev k_Mo_smallMany : gMD := (⟨"DropSignalsModel", "smallMany", "([III)I"⟩, prog_11_method_30_code, 5, (some .int))
theorem w_1127 : Cond.static ⟨"DropSignalsModel", "smallMany", "([III)I"⟩ ∈ gWs := gWs_in (i := 1127) (by decide +kernel) rfl
set_option maxRecDepth 100000 in
theorem ca_Mo_smallMany : gCaS k_Mo_smallMany 3 := ⟨⟨gWs_in (i := 1128) rfl rfl, w_43, by decide, by decide, by decide +kernel⟩, w_1127⟩
theorem d_Mo_smallMany_0 : decode prog_11_method_30_code 0 = .ok (.iconst 0, 1) := by decide +kernel
theorem d_Mo_smallMany_1 : decode prog_11_method_30_code 1 = .ok (.istore_n 3, 1) := by decide +kernel
theorem d_Mo_smallMany_2 : decode prog_11_method_30_code 2 = .ok (.bipush 8, 2) := by decide +kernel
theorem d_Mo_smallMany_4 : decode prog_11_method_30_code 4 = .ok (.iload_n 2, 1) := by decide +kernel
theorem d_Mo_smallMany_5 : decode prog_11_method_30_code 5 = .ok (.imul, 1) := by decide +kernel
theorem d_Mo_smallMany_6 : decode prog_11_method_30_code 6 = .ok (.istore 4, 2) := by decide +kernel
theorem d_Mo_smallMany_8 : decode prog_11_method_30_code 8 = .ok (.iload 4, 2) := by decide +kernel
theorem d_Mo_smallMany_10 : decode prog_11_method_30_code 10 = .ok (.bipush 8, 2) := by decide +kernel
theorem d_Mo_smallMany_12 : decode prog_11_method_30_code 12 = .ok (.iload_n 2, 1) := by decide +kernel
theorem d_Mo_smallMany_13 : decode prog_11_method_30_code 13 = .ok (.imul, 1) := by decide +kernel
theorem d_Mo_smallMany_14 : decode prog_11_method_30_code 14 = .ok (.iconst 4, 1) := by decide +kernel
theorem d_Mo_smallMany_15 : decode prog_11_method_30_code 15 = .ok (.iadd, 1) := by decide +kernel
theorem d_Mo_smallMany_16 : decode prog_11_method_30_code 16 = .ok (.if_icmp .ge 28, 3) := by decide +kernel
theorem d_Mo_smallMany_19 : decode prog_11_method_30_code 19 = .ok (.iload_n 3, 1) := by decide +kernel
theorem d_Mo_smallMany_20 : decode prog_11_method_30_code 20 = .ok (.aload_n 0, 1) := by decide +kernel
theorem d_Mo_smallMany_21 : decode prog_11_method_30_code 21 = .ok (.bipush 21, 2) := by decide +kernel
theorem d_Mo_smallMany_23 : decode prog_11_method_30_code 23 = .ok (.iload 4, 2) := by decide +kernel
theorem d_Mo_smallMany_25 : decode prog_11_method_30_code 25 = .ok (.iadd, 1) := by decide +kernel
theorem d_Mo_smallMany_26 : decode prog_11_method_30_code 26 = .ok (.iaload, 1) := by decide +kernel
theorem d_Mo_smallMany_27 : decode prog_11_method_30_code 27 = .ok (.iload_n 1, 1) := by decide +kernel
theorem d_Mo_smallMany_28 : decode prog_11_method_30_code 28 = .ok (.if_icmp .ne 7, 3) := by decide +kernel
theorem d_Mo_smallMany_31 : decode prog_11_method_30_code 31 = .ok (.iconst 1, 1) := by decide +kernel
theorem d_Mo_smallMany_32 : decode prog_11_method_30_code 32 = .ok (.goto 4, 3) := by decide +kernel
theorem d_Mo_smallMany_35 : decode prog_11_method_30_code 35 = .ok (.iconst 0, 1) := by decide +kernel
theorem d_Mo_smallMany_36 : decode prog_11_method_30_code 36 = .ok (.iadd, 1) := by decide +kernel
theorem d_Mo_smallMany_37 : decode prog_11_method_30_code 37 = .ok (.istore_n 3, 1) := by decide +kernel
theorem d_Mo_smallMany_38 : decode prog_11_method_30_code 38 = .ok (.iinc 4 1, 3) := by decide +kernel
theorem d_Mo_smallMany_41 : decode prog_11_method_30_code 41 = .ok (.goto (-33), 3) := by decide +kernel
theorem d_Mo_smallMany_44 : decode prog_11_method_30_code 44 = .ok (.iload_n 3, 1) := by decide +kernel
theorem d_Mo_smallMany_45 : decode prog_11_method_30_code 45 = .ok (.ireturn, 1) := by decide +kernel
noncomputable def f_Mo_smallMany_b36 (g0 : Nat) (c0 : Nat) (n0 : Nat) (M : gMem) (x1 : Int32) (x2 : Int32) (x4 : Int32) (s0 : Int32) (s1 : Int32) : Option ((Int32 × Int32) ⊕ Int32) :=
  some (.inl ((s1 + s0), (x4 + 1)))
theorem t_Mo_smallMany_b36 {l : Launch} {ε : gEnv} (g0 : Nat) (c0 : Nat) (n0 : Nat) (h0 : gHas ε g0 c0 (0, n0, [])) (M : gMem) (x1 : Int32) (x2 : Int32) (x4 : Int32) (s0 : Int32) (s1 : Int32) (res : ((Int32 × Int32) ⊕ Int32)) (h : f_Mo_smallMany_b36 g0 c0 n0 M x1 x2 x4 s0 s1 = some res) (r : Int32) (k1 : ∀ s0 : (Int32 × Int32), res = .inl s0 → gGo l ε k_Mo_smallMany (gR 0 0) (gFn ε (some (.int r)) M) 8 [(0, .ref (ε.2.2.1 g0 c0)), (1, .int x1), (2, .int x2), (3, .int s0.1), (4, .int s0.2)] [] M) (k2 : ∀ r', res = .inr r' → r' = r) : gGo l ε k_Mo_smallMany (gR 0 0) (gFn ε (some (.int r)) M) 36 [(0, .ref (ε.2.2.1 g0 c0)), (1, .int x1), (2, .int x2), (4, .int x4)] [.int s0, .int s1] M := by
  unfold f_Mo_smallMany_b36 at h
  refine g_iadd d_Mo_smallMany_36 ?_
  refine g_istore_n (L' := [(3, .int (s1 + s0)), (0, .ref (ε.2.2.1 g0 c0)), (1, .int x1), (2, .int x2), (4, .int x4)]) d_Mo_smallMany_37 rfl (by decide) rfl ?_
  refine g_iinc (v := (x4 + 1)) (L' := [(4, .int (x4 + 1)), (3, .int (s1 + s0)), (0, .ref (ε.2.2.1 g0 c0)), (1, .int x1), (2, .int x2)]) d_Mo_smallMany_38 (j := 4) rfl rfl (by decide) rfl ?_
  refine g_goto (tgt := 8) d_Mo_smallMany_41 (by decide) ?_
  refine gGo_sub [2, 3, 4, 1, 0] rfl ?_
  obtain rfl := Option.some.inj h
  exact k1 ((s1 + s0), (x4 + 1)) rfl
noncomputable def f_Mo_smallMany_s8 (g0 : Nat) (c0 : Nat) (n0 : Nat) (M : gMem) (x1 : Int32) (x2 : Int32) (x3 : Int32) (x4 : Int32) : Option ((Int32 × Int32) ⊕ Int32) :=
  if ((8 * x2) + 4) ≤ x4 then
    some (.inr x3)
  else
    (gRd n0 (M g0 c0) (21 + x4)).bind fun v1 =>
    if v1 = x1 then
      f_Mo_smallMany_b36 g0 c0 n0 M x1 x2 x4 1 x3
    else
      f_Mo_smallMany_b36 g0 c0 n0 M x1 x2 x4 0 x3
theorem t_Mo_smallMany_s8 {l : Launch} {ε : gEnv} (g0 : Nat) (c0 : Nat) (n0 : Nat) (h0 : gHas ε g0 c0 (0, n0, [])) (M : gMem) (x1 : Int32) (x2 : Int32) (x3 : Int32) (x4 : Int32) (res : ((Int32 × Int32) ⊕ Int32)) (h : f_Mo_smallMany_s8 g0 c0 n0 M x1 x2 x3 x4 = some res) (r : Int32) (k1 : ∀ s0 : (Int32 × Int32), res = .inl s0 → gGo l ε k_Mo_smallMany (gR 0 0) (gFn ε (some (.int r)) M) 8 [(0, .ref (ε.2.2.1 g0 c0)), (1, .int x1), (2, .int x2), (3, .int s0.1), (4, .int s0.2)] [] M) (k2 : ∀ r', res = .inr r' → r' = r) : gGo l ε k_Mo_smallMany (gR 0 0) (gFn ε (some (.int r)) M) 8 [(0, .ref (ε.2.2.1 g0 c0)), (1, .int x1), (2, .int x2), (3, .int x3), (4, .int x4)] [] M := by
  unfold f_Mo_smallMany_s8 at h
  refine g_iload d_Mo_smallMany_8 4 rfl ?_
  refine g_bipush (v := 8) d_Mo_smallMany_10 (by decide) ?_
  refine g_iload_n d_Mo_smallMany_12 rfl 2 rfl ?_
  refine g_imul d_Mo_smallMany_13 ?_
  refine g_iconst (v := 4) d_Mo_smallMany_14 (by decide) ?_
  refine g_iadd d_Mo_smallMany_15 ?_
  refine g_icmp_ge (tgt := 44) d_Mo_smallMany_16 (by decide) (fun c3 => ?_) (fun c3 => ?_)
  · rw [if_pos c3] at h
    refine g_iload_n d_Mo_smallMany_44 rfl 3 rfl ?_
    obtain rfl := Option.some.inj h
    have e9 := k2 _ rfl
    subst e9
    exact g_iret d_Mo_smallMany_45 rfl
  · rw [if_neg c3] at h
    refine g_iload_n d_Mo_smallMany_19 rfl 3 rfl ?_
    refine g_aload_n d_Mo_smallMany_20 rfl 0 rfl ?_
    refine g_bipush (v := 21) d_Mo_smallMany_21 (by decide) ?_
    refine g_iload d_Mo_smallMany_23 4 rfl ?_
    refine g_iadd d_Mo_smallMany_25 ?_
    obtain ⟨v1, hv1, h⟩ := gOb h
    refine g_iaload d_Mo_smallMany_26 h0 hv1 ?_
    refine g_iload_n d_Mo_smallMany_27 rfl 1 rfl ?_
    refine g_icmp_ne (tgt := 35) d_Mo_smallMany_28 (by decide) (fun c2 => ?_) (fun c2 => ?_)
    · rw [if_neg c2] at h
      refine g_iconst (v := 0) d_Mo_smallMany_35 (by decide) ?_
      refine gGo_sub [0, 1, 2, 4] rfl ?_
      exact t_Mo_smallMany_b36 g0 c0 n0 h0 M x1 x2 x4 0 x3 _ h r k1 k2
    · rw [if_pos c2] at h
      refine g_iconst (v := 1) d_Mo_smallMany_31 (by decide) ?_
      refine g_goto (tgt := 36) d_Mo_smallMany_32 (by decide) ?_
      refine gGo_sub [0, 1, 2, 4] rfl ?_
      exact t_Mo_smallMany_b36 g0 c0 n0 h0 M x1 x2 x4 1 x3 _ h r k1 k2
noncomputable def f_Mo_smallMany_l8 (g0 : Nat) (c0 : Nat) (n0 : Nat) (M : gMem) (x1 : Int32) (x2 : Int32) (s : (Int32 × Int32)) : Option Int32 := gLp (fun s => f_Mo_smallMany_s8 g0 c0 n0 M x1 x2 s.1 s.2) s
theorem t_Mo_smallMany_l8 {l : Launch} {ε : gEnv} (g0 : Nat) (c0 : Nat) (n0 : Nat) (h0 : gHas ε g0 c0 (0, n0, [])) (M : gMem) (x1 : Int32) (x2 : Int32) (s : (Int32 × Int32)) (r : Int32) (h : f_Mo_smallMany_l8 g0 c0 n0 M x1 x2 s = some r) : gGo l ε k_Mo_smallMany (gR 0 0) (gFn ε (some (.int r)) M) 8 [(0, .ref (ε.2.2.1 g0 c0)), (1, .int x1), (2, .int x2), (3, .int s.1), (4, .int s.2)] [] M :=
  g_loop _ (fun r s => gGo l ε k_Mo_smallMany (gR 0 0) (gFn ε (some (.int r)) M) 8 [(0, .ref (ε.2.2.1 g0 c0)), (1, .int x1), (2, .int x2), (3, .int s.1), (4, .int s.2)] [] M) (fun s res h r k1 k2 => t_Mo_smallMany_s8 g0 c0 n0 h0 M x1 x2 s.1 s.2 res h r k1 k2) s r h
noncomputable def f_Mo_smallMany (g0 : Nat) (c0 : Nat) (n0 : Nat) (M : gMem) (a1 : Int32) (a2 : Int32) : Option Int32 :=
  f_Mo_smallMany_l8 g0 c0 n0 M a1 a2 (0, (8 * a2))
theorem t_Mo_smallMany {l : Launch} {ε : gEnv} (g0 : Nat) (c0 : Nat) (n0 : Nat) (h0 : gHas ε g0 c0 (0, n0, [])) (M : gMem) (a1 : Int32) (a2 : Int32) (r : Int32) (h : f_Mo_smallMany g0 c0 n0 M a1 a2 = some r) : gGo l ε k_Mo_smallMany (gR 0 0) (gFn ε (some (.int r)) M) 0 [(0, .ref (ε.2.2.1 g0 c0)), (1, .int a1), (2, .int a2)] [] M := by
  unfold f_Mo_smallMany at h
  refine g_iconst (v := 0) d_Mo_smallMany_0 (by decide) ?_
  refine g_istore_n (L' := [(3, .int 0), (0, .ref (ε.2.2.1 g0 c0)), (1, .int a1), (2, .int a2)]) d_Mo_smallMany_1 rfl (by decide) rfl ?_
  refine g_bipush (v := 8) d_Mo_smallMany_2 (by decide) ?_
  refine g_iload_n d_Mo_smallMany_4 rfl 3 rfl ?_
  refine g_imul d_Mo_smallMany_5 ?_
  refine g_istore (L' := [(4, .int (8 * a2)), (3, .int 0), (0, .ref (ε.2.2.1 g0 c0)), (1, .int a1), (2, .int a2)]) d_Mo_smallMany_6 (by decide) rfl ?_
  refine gGo_sub [2, 3, 4, 1, 0] rfl ?_
  exact t_Mo_smallMany_l8 g0 c0 n0 h0 M a1 a2 (0, (8 * a2)) _ h
theorem ct_Mo_smallMany {l : Launch} {ε : gEnv} (g0 : Nat) (c0 : Nat) (n0 : Nat) (h0 : gHas ε g0 c0 (0, n0, [])) (M : gMem) (a1 : Int32) (a2 : Int32) (r : Int32) (h : f_Mo_smallMany g0 c0 n0 M a1 a2 = some r) : gCt l ε k_Mo_smallMany 0 0 [.ref (ε.2.2.1 g0 c0), .int a1, .int a2] M (some (.int r)) M :=
  gCt_of (by decide) (Nat.le_of_ble_eq_true rfl) rfl (t_Mo_smallMany g0 c0 n0 h0 M a1 a2 r h)
abbrev k_Mo_lowestRank : gMD := (⟨"DropSignalsModel", "lowestRank", "([I)I"⟩, prog_11_method_31_code, 4, (some .int))
theorem w_1124 : Cond.static ⟨"DropSignalsModel", "lowestRank", "([I)I"⟩ ∈ gWs := gWs_in (i := 1124) (by decide +kernel) rfl
set_option maxRecDepth 100000 in
theorem ca_Mo_lowestRank : gCaS k_Mo_lowestRank 1 := ⟨⟨gWs_in (i := 1125) rfl rfl, w_43, by decide, by decide, by decide +kernel⟩, w_1124⟩
theorem d_Mo_lowestRank_0 : decode prog_11_method_31_code 0 = .ok (.iconst (-1), 1) := by decide +kernel
theorem d_Mo_lowestRank_1 : decode prog_11_method_31_code 1 = .ok (.istore_n 1, 1) := by decide +kernel
theorem d_Mo_lowestRank_2 : decode prog_11_method_31_code 2 = .ok (.iconst 0, 1) := by decide +kernel
theorem d_Mo_lowestRank_3 : decode prog_11_method_31_code 3 = .ok (.istore_n 2, 1) := by decide +kernel
theorem d_Mo_lowestRank_4 : decode prog_11_method_31_code 4 = .ok (.iload_n 2, 1) := by decide +kernel
theorem d_Mo_lowestRank_5 : decode prog_11_method_31_code 5 = .ok (.bipush 32, 2) := by decide +kernel
theorem d_Mo_lowestRank_7 : decode prog_11_method_31_code 7 = .ok (.if_icmp .ge 49, 3) := by decide +kernel
theorem d_Mo_lowestRank_10 : decode prog_11_method_31_code 10 = .ok (.aload_n 0, 1) := by decide +kernel
theorem d_Mo_lowestRank_11 : decode prog_11_method_31_code 11 = .ok (.iload_n 2, 1) := by decide +kernel
theorem d_Mo_lowestRank_12 : decode prog_11_method_31_code 12 = .ok (.invokestatic 74, 3) := by decide +kernel
theorem d_Mo_lowestRank_15 : decode prog_11_method_31_code 15 = .ok (.ifCond .ne 7, 3) := by decide +kernel
theorem d_Mo_lowestRank_18 : decode prog_11_method_31_code 18 = .ok (.iconst 1, 1) := by decide +kernel
theorem d_Mo_lowestRank_19 : decode prog_11_method_31_code 19 = .ok (.goto 4, 3) := by decide +kernel
theorem d_Mo_lowestRank_22 : decode prog_11_method_31_code 22 = .ok (.iconst 0, 1) := by decide +kernel
theorem d_Mo_lowestRank_23 : decode prog_11_method_31_code 23 = .ok (.istore_n 3, 1) := by decide +kernel
theorem d_Mo_lowestRank_24 : decode prog_11_method_31_code 24 = .ok (.iload_n 3, 1) := by decide +kernel
theorem d_Mo_lowestRank_25 : decode prog_11_method_31_code 25 = .ok (.ifCond .eq 23, 3) := by decide +kernel
theorem d_Mo_lowestRank_28 : decode prog_11_method_31_code 28 = .ok (.iload_n 1, 1) := by decide +kernel
theorem d_Mo_lowestRank_29 : decode prog_11_method_31_code 29 = .ok (.iconst (-1), 1) := by decide +kernel
theorem d_Mo_lowestRank_30 : decode prog_11_method_31_code 30 = .ok (.if_icmp .eq 14, 3) := by decide +kernel
theorem d_Mo_lowestRank_33 : decode prog_11_method_31_code 33 = .ok (.iload_n 2, 1) := by decide +kernel
theorem d_Mo_lowestRank_34 : decode prog_11_method_31_code 34 = .ok (.invokestatic 55, 3) := by decide +kernel
theorem d_Mo_lowestRank_37 : decode prog_11_method_31_code 37 = .ok (.iload_n 1, 1) := by decide +kernel
theorem d_Mo_lowestRank_38 : decode prog_11_method_31_code 38 = .ok (.invokestatic 55, 3) := by decide +kernel
theorem d_Mo_lowestRank_41 : decode prog_11_method_31_code 41 = .ok (.if_icmp .ge 7, 3) := by decide +kernel
theorem d_Mo_lowestRank_44 : decode prog_11_method_31_code 44 = .ok (.iload_n 2, 1) := by decide +kernel
theorem d_Mo_lowestRank_45 : decode prog_11_method_31_code 45 = .ok (.goto 4, 3) := by decide +kernel
theorem d_Mo_lowestRank_48 : decode prog_11_method_31_code 48 = .ok (.iload_n 1, 1) := by decide +kernel
theorem d_Mo_lowestRank_49 : decode prog_11_method_31_code 49 = .ok (.istore_n 1, 1) := by decide +kernel
theorem d_Mo_lowestRank_50 : decode prog_11_method_31_code 50 = .ok (.iinc 2 1, 3) := by decide +kernel
theorem d_Mo_lowestRank_53 : decode prog_11_method_31_code 53 = .ok (.goto (-49), 3) := by decide +kernel
theorem d_Mo_lowestRank_56 : decode prog_11_method_31_code 56 = .ok (.iload_n 1, 1) := by decide +kernel
theorem d_Mo_lowestRank_57 : decode prog_11_method_31_code 57 = .ok (.ireturn, 1) := by decide +kernel
noncomputable def f_Mo_lowestRank_b49 (g0 : Nat) (c0 : Nat) (n0 : Nat) (M : gMem) (x2 : Int32) (s0 : Int32) : Option ((Int32 × Int32) ⊕ Int32) :=
  some (.inl (s0, (x2 + 1)))
theorem t_Mo_lowestRank_b49 {l : Launch} {ε : gEnv} (g0 : Nat) (c0 : Nat) (n0 : Nat) (h0 : gHas ε g0 c0 (0, n0, [])) (M : gMem) (x2 : Int32) (s0 : Int32) (res : ((Int32 × Int32) ⊕ Int32)) (h : f_Mo_lowestRank_b49 g0 c0 n0 M x2 s0 = some res) (r : Int32) (k1 : ∀ s0 : (Int32 × Int32), res = .inl s0 → gGo l ε k_Mo_lowestRank (gR 4 81) (gFn ε (some (.int r)) M) 4 [(0, .ref (ε.2.2.1 g0 c0)), (1, .int s0.1), (2, .int s0.2)] [] M) (k2 : ∀ r', res = .inr r' → r' = r) : gGo l ε k_Mo_lowestRank (gR 4 81) (gFn ε (some (.int r)) M) 49 [(0, .ref (ε.2.2.1 g0 c0)), (2, .int x2)] [.int s0] M := by
  unfold f_Mo_lowestRank_b49 at h
  refine g_istore_n (L' := [(1, .int s0), (0, .ref (ε.2.2.1 g0 c0)), (2, .int x2)]) d_Mo_lowestRank_49 rfl (by decide) rfl ?_
  refine g_iinc (v := (x2 + 1)) (L' := [(2, .int (x2 + 1)), (1, .int s0), (0, .ref (ε.2.2.1 g0 c0))]) d_Mo_lowestRank_50 (j := 2) rfl rfl (by decide) rfl ?_
  refine g_goto (tgt := 4) d_Mo_lowestRank_53 (by decide) ?_
  refine gGo_sub [2, 1, 0] rfl ?_
  obtain rfl := Option.some.inj h
  exact k1 (s0, (x2 + 1)) rfl
noncomputable def f_Mo_lowestRank_b48 (g0 : Nat) (c0 : Nat) (n0 : Nat) (M : gMem) (x1 : Int32) (x2 : Int32) : Option ((Int32 × Int32) ⊕ Int32) :=
  f_Mo_lowestRank_b49 g0 c0 n0 M x2 x1
theorem t_Mo_lowestRank_b48 {l : Launch} {ε : gEnv} (g0 : Nat) (c0 : Nat) (n0 : Nat) (h0 : gHas ε g0 c0 (0, n0, [])) (M : gMem) (x1 : Int32) (x2 : Int32) (res : ((Int32 × Int32) ⊕ Int32)) (h : f_Mo_lowestRank_b48 g0 c0 n0 M x1 x2 = some res) (r : Int32) (k1 : ∀ s0 : (Int32 × Int32), res = .inl s0 → gGo l ε k_Mo_lowestRank (gR 4 81) (gFn ε (some (.int r)) M) 4 [(0, .ref (ε.2.2.1 g0 c0)), (1, .int s0.1), (2, .int s0.2)] [] M) (k2 : ∀ r', res = .inr r' → r' = r) : gGo l ε k_Mo_lowestRank (gR 4 81) (gFn ε (some (.int r)) M) 48 [(0, .ref (ε.2.2.1 g0 c0)), (1, .int x1), (2, .int x2)] [] M := by
  unfold f_Mo_lowestRank_b48 at h
  refine g_iload_n d_Mo_lowestRank_48 rfl 1 rfl ?_
  refine gGo_sub [0, 2] rfl ?_
  exact t_Mo_lowestRank_b49 g0 c0 n0 h0 M x2 x1 _ h r k1 k2
noncomputable def f_Mo_lowestRank_b44 (g0 : Nat) (c0 : Nat) (n0 : Nat) (M : gMem) (x2 : Int32) : Option ((Int32 × Int32) ⊕ Int32) :=
  f_Mo_lowestRank_b49 g0 c0 n0 M x2 x2
theorem t_Mo_lowestRank_b44 {l : Launch} {ε : gEnv} (g0 : Nat) (c0 : Nat) (n0 : Nat) (h0 : gHas ε g0 c0 (0, n0, [])) (M : gMem) (x2 : Int32) (res : ((Int32 × Int32) ⊕ Int32)) (h : f_Mo_lowestRank_b44 g0 c0 n0 M x2 = some res) (r : Int32) (k1 : ∀ s0 : (Int32 × Int32), res = .inl s0 → gGo l ε k_Mo_lowestRank (gR 4 81) (gFn ε (some (.int r)) M) 4 [(0, .ref (ε.2.2.1 g0 c0)), (1, .int s0.1), (2, .int s0.2)] [] M) (k2 : ∀ r', res = .inr r' → r' = r) : gGo l ε k_Mo_lowestRank (gR 4 81) (gFn ε (some (.int r)) M) 44 [(0, .ref (ε.2.2.1 g0 c0)), (2, .int x2)] [] M := by
  unfold f_Mo_lowestRank_b44 at h
  refine g_iload_n d_Mo_lowestRank_44 rfl 1 rfl ?_
  refine g_goto (tgt := 49) d_Mo_lowestRank_45 (by decide) ?_
  exact t_Mo_lowestRank_b49 g0 c0 n0 h0 M x2 x2 _ h r k1 k2
noncomputable def f_Mo_lowestRank_b23 (g0 : Nat) (c0 : Nat) (n0 : Nat) (M : gMem) (x1 : Int32) (x2 : Int32) (s0 : Int32) : Option ((Int32 × Int32) ⊕ Int32) :=
  if s0 = 0 then
    f_Mo_lowestRank_b48 g0 c0 n0 M x1 x2
  else
    if x1 = (-1) then
      f_Mo_lowestRank_b44 g0 c0 n0 M x2
    else
      (f_Mo_rank x2).bind fun q2 =>
      (f_Mo_rank x1).bind fun q3 =>
      if q3 ≤ q2 then
        f_Mo_lowestRank_b48 g0 c0 n0 M x1 x2
      else
        f_Mo_lowestRank_b44 g0 c0 n0 M x2
theorem t_Mo_lowestRank_b23 {l : Launch} {ε : gEnv} (g0 : Nat) (c0 : Nat) (n0 : Nat) (h0 : gHas ε g0 c0 (0, n0, [])) (M : gMem) (x1 : Int32) (x2 : Int32) (s0 : Int32) (res : ((Int32 × Int32) ⊕ Int32)) (h : f_Mo_lowestRank_b23 g0 c0 n0 M x1 x2 s0 = some res) (r : Int32) (k1 : ∀ s0 : (Int32 × Int32), res = .inl s0 → gGo l ε k_Mo_lowestRank (gR 4 81) (gFn ε (some (.int r)) M) 4 [(0, .ref (ε.2.2.1 g0 c0)), (1, .int s0.1), (2, .int s0.2)] [] M) (k2 : ∀ r', res = .inr r' → r' = r) : gGo l ε k_Mo_lowestRank (gR 4 81) (gFn ε (some (.int r)) M) 23 [(0, .ref (ε.2.2.1 g0 c0)), (1, .int x1), (2, .int x2)] [.int s0] M := by
  unfold f_Mo_lowestRank_b23 at h
  refine g_istore_n (L' := [(3, .int s0), (0, .ref (ε.2.2.1 g0 c0)), (1, .int x1), (2, .int x2)]) d_Mo_lowestRank_23 rfl (by decide) rfl ?_
  refine g_iload_n d_Mo_lowestRank_24 rfl 0 rfl ?_
  refine g_if_eq (tgt := 48) d_Mo_lowestRank_25 (by decide) (fun c6 => ?_) (fun c6 => ?_)
  · rw [if_pos c6] at h
    refine gGo_sub [1, 2, 3] rfl ?_
    exact t_Mo_lowestRank_b48 g0 c0 n0 h0 M x1 x2 _ h r k1 k2
  · rw [if_neg c6] at h
    refine g_iload_n d_Mo_lowestRank_28 rfl 2 rfl ?_
    refine g_iconst (v := -1) d_Mo_lowestRank_29 (by decide) ?_
    refine g_icmp_eq (tgt := 44) d_Mo_lowestRank_30 (by decide) (fun c5 => ?_) (fun c5 => ?_)
    · rw [if_pos c5] at h
      refine gGo_sub [1, 3] rfl ?_
      exact t_Mo_lowestRank_b44 g0 c0 n0 h0 M x2 _ h r k1 k2
    · rw [if_neg c5] at h
      refine g_iload_n d_Mo_lowestRank_33 rfl 3 rfl ?_
      obtain ⟨q2, hq2, h⟩ := gOb h
      refine g_callS_i (As := [.int x2]) (rest := []) (ct_Mo_rank M x2 _ hq2) d_Mo_lowestRank_34 ca_Mo_rank w_1102 rfl rfl (Nat.le_of_ble_eq_true rfl) ⟨(Nat.le_of_ble_eq_true rfl), (Nat.le_of_ble_eq_true rfl)⟩ ?_
      refine g_iload_n d_Mo_lowestRank_37 rfl 2 rfl ?_
      obtain ⟨q3, hq3, h⟩ := gOb h
      refine g_callS_i (As := [.int x1]) (rest := [.int q2]) (ct_Mo_rank M x1 _ hq3) d_Mo_lowestRank_38 ca_Mo_rank w_1102 rfl rfl (Nat.le_of_ble_eq_true rfl) ⟨(Nat.le_of_ble_eq_true rfl), (Nat.le_of_ble_eq_true rfl)⟩ ?_
      refine g_icmp_ge (tgt := 48) d_Mo_lowestRank_41 (by decide) (fun c4 => ?_) (fun c4 => ?_)
      · rw [if_pos c4] at h
        refine gGo_sub [1, 2, 3] rfl ?_
        exact t_Mo_lowestRank_b48 g0 c0 n0 h0 M x1 x2 _ h r k1 k2
      · rw [if_neg c4] at h
        refine gGo_sub [1, 3] rfl ?_
        exact t_Mo_lowestRank_b44 g0 c0 n0 h0 M x2 _ h r k1 k2
noncomputable def f_Mo_lowestRank_s4 (g0 : Nat) (c0 : Nat) (n0 : Nat) (M : gMem) (x1 : Int32) (x2 : Int32) : Option ((Int32 × Int32) ⊕ Int32) :=
  if 32 ≤ x2 then
    some (.inr x1)
  else
    (f_Mo_reason g0 c0 n0 M x2).bind fun q1 =>
    if q1 = 0 then
      f_Mo_lowestRank_b23 g0 c0 n0 M x1 x2 1
    else
      f_Mo_lowestRank_b23 g0 c0 n0 M x1 x2 0
theorem t_Mo_lowestRank_s4 {l : Launch} {ε : gEnv} (g0 : Nat) (c0 : Nat) (n0 : Nat) (h0 : gHas ε g0 c0 (0, n0, [])) (M : gMem) (x1 : Int32) (x2 : Int32) (res : ((Int32 × Int32) ⊕ Int32)) (h : f_Mo_lowestRank_s4 g0 c0 n0 M x1 x2 = some res) (r : Int32) (k1 : ∀ s0 : (Int32 × Int32), res = .inl s0 → gGo l ε k_Mo_lowestRank (gR 4 81) (gFn ε (some (.int r)) M) 4 [(0, .ref (ε.2.2.1 g0 c0)), (1, .int s0.1), (2, .int s0.2)] [] M) (k2 : ∀ r', res = .inr r' → r' = r) : gGo l ε k_Mo_lowestRank (gR 4 81) (gFn ε (some (.int r)) M) 4 [(0, .ref (ε.2.2.1 g0 c0)), (1, .int x1), (2, .int x2)] [] M := by
  unfold f_Mo_lowestRank_s4 at h
  refine g_iload_n d_Mo_lowestRank_4 rfl 2 rfl ?_
  refine g_bipush (v := 32) d_Mo_lowestRank_5 (by decide) ?_
  refine g_icmp_ge (tgt := 56) d_Mo_lowestRank_7 (by decide) (fun c8 => ?_) (fun c8 => ?_)
  · rw [if_pos c8] at h
    refine g_iload_n d_Mo_lowestRank_56 rfl 1 rfl ?_
    obtain rfl := Option.some.inj h
    have e9 := k2 _ rfl
    subst e9
    exact g_iret d_Mo_lowestRank_57 rfl
  · rw [if_neg c8] at h
    refine g_aload_n d_Mo_lowestRank_10 rfl 0 rfl ?_
    refine g_iload_n d_Mo_lowestRank_11 rfl 2 rfl ?_
    obtain ⟨q1, hq1, h⟩ := gOb h
    refine g_callS_i (As := [.ref (ε.2.2.1 g0 c0), .int x2]) (rest := []) (ct_Mo_reason g0 c0 n0 h0 M x2 _ hq1) d_Mo_lowestRank_12 ca_Mo_reason w_1078 rfl rfl (Nat.le_of_ble_eq_true rfl) ⟨(Nat.le_of_ble_eq_true rfl), (Nat.le_of_ble_eq_true rfl)⟩ ?_
    refine g_if_ne (tgt := 22) d_Mo_lowestRank_15 (by decide) (fun c7 => ?_) (fun c7 => ?_)
    · rw [if_neg c7] at h
      refine g_iconst (v := 0) d_Mo_lowestRank_22 (by decide) ?_
      exact t_Mo_lowestRank_b23 g0 c0 n0 h0 M x1 x2 0 _ h r k1 k2
    · rw [if_pos c7] at h
      refine g_iconst (v := 1) d_Mo_lowestRank_18 (by decide) ?_
      refine g_goto (tgt := 23) d_Mo_lowestRank_19 (by decide) ?_
      exact t_Mo_lowestRank_b23 g0 c0 n0 h0 M x1 x2 1 _ h r k1 k2
noncomputable def f_Mo_lowestRank_l4 (g0 : Nat) (c0 : Nat) (n0 : Nat) (M : gMem) (s : (Int32 × Int32)) : Option Int32 := gLp (fun s => f_Mo_lowestRank_s4 g0 c0 n0 M s.1 s.2) s
theorem t_Mo_lowestRank_l4 {l : Launch} {ε : gEnv} (g0 : Nat) (c0 : Nat) (n0 : Nat) (h0 : gHas ε g0 c0 (0, n0, [])) (M : gMem) (s : (Int32 × Int32)) (r : Int32) (h : f_Mo_lowestRank_l4 g0 c0 n0 M s = some r) : gGo l ε k_Mo_lowestRank (gR 4 81) (gFn ε (some (.int r)) M) 4 [(0, .ref (ε.2.2.1 g0 c0)), (1, .int s.1), (2, .int s.2)] [] M :=
  g_loop _ (fun r s => gGo l ε k_Mo_lowestRank (gR 4 81) (gFn ε (some (.int r)) M) 4 [(0, .ref (ε.2.2.1 g0 c0)), (1, .int s.1), (2, .int s.2)] [] M) (fun s res h r k1 k2 => t_Mo_lowestRank_s4 g0 c0 n0 h0 M s.1 s.2 res h r k1 k2) s r h
noncomputable def f_Mo_lowestRank (g0 : Nat) (c0 : Nat) (n0 : Nat) (M : gMem) : Option Int32 :=
  f_Mo_lowestRank_l4 g0 c0 n0 M ((-1), 0)
theorem t_Mo_lowestRank {l : Launch} {ε : gEnv} (g0 : Nat) (c0 : Nat) (n0 : Nat) (h0 : gHas ε g0 c0 (0, n0, [])) (M : gMem) (r : Int32) (h : f_Mo_lowestRank g0 c0 n0 M = some r) : gGo l ε k_Mo_lowestRank (gR 4 81) (gFn ε (some (.int r)) M) 0 [(0, .ref (ε.2.2.1 g0 c0))] [] M := by
  unfold f_Mo_lowestRank at h
  refine g_iconst (v := -1) d_Mo_lowestRank_0 (by decide) ?_
  refine g_istore_n (L' := [(1, .int (-1)), (0, .ref (ε.2.2.1 g0 c0))]) d_Mo_lowestRank_1 rfl (by decide) rfl ?_
  refine g_iconst (v := 0) d_Mo_lowestRank_2 (by decide) ?_
  refine g_istore_n (L' := [(2, .int 0), (1, .int (-1)), (0, .ref (ε.2.2.1 g0 c0))]) d_Mo_lowestRank_3 rfl (by decide) rfl ?_
  refine gGo_sub [2, 1, 0] rfl ?_
  exact t_Mo_lowestRank_l4 g0 c0 n0 h0 M ((-1), 0) _ h
theorem ct_Mo_lowestRank {l : Launch} {ε : gEnv} (g0 : Nat) (c0 : Nat) (n0 : Nat) (h0 : gHas ε g0 c0 (0, n0, [])) (M : gMem) (r : Int32) (h : f_Mo_lowestRank g0 c0 n0 M = some r) : gCt l ε k_Mo_lowestRank 4 81 [.ref (ε.2.2.1 g0 c0)] M (some (.int r)) M :=
  gCt_of (by decide) (Nat.le_of_ble_eq_true rfl) rfl (t_Mo_lowestRank g0 c0 n0 h0 M r h)
abbrev k_Mo_advised : gMD := (⟨"DropSignalsModel", "advised", "([I)I"⟩, prog_11_method_32_code, 6, (some .int))
theorem w_1121 : Cond.static ⟨"DropSignalsModel", "advised", "([I)I"⟩ ∈ gWs := gWs_in (i := 1121) (by decide +kernel) rfl
set_option maxRecDepth 100000 in
theorem ca_Mo_advised : gCaS k_Mo_advised 1 := ⟨⟨gWs_in (i := 1122) rfl rfl, w_43, by decide, by decide, by decide +kernel⟩, w_1121⟩
theorem d_Mo_advised_0 : decode prog_11_method_32_code 0 = .ok (.aload_n 0, 1) := by decide +kernel
theorem d_Mo_advised_1 : decode prog_11_method_32_code 1 = .ok (.iconst 1, 1) := by decide +kernel
theorem d_Mo_advised_2 : decode prog_11_method_32_code 2 = .ok (.iaload, 1) := by decide +kernel
theorem d_Mo_advised_3 : decode prog_11_method_32_code 3 = .ok (.iconst 2, 1) := by decide +kernel
theorem d_Mo_advised_4 : decode prog_11_method_32_code 4 = .ok (.if_icmp .eq 5, 3) := by decide +kernel
theorem d_Mo_advised_7 : decode prog_11_method_32_code 7 = .ok (.iconst (-1), 1) := by decide +kernel
theorem d_Mo_advised_8 : decode prog_11_method_32_code 8 = .ok (.ireturn, 1) := by decide +kernel
theorem d_Mo_advised_9 : decode prog_11_method_32_code 9 = .ok (.aload_n 0, 1) := by decide +kernel
theorem d_Mo_advised_10 : decode prog_11_method_32_code 10 = .ok (.iconst 2, 1) := by decide +kernel
theorem d_Mo_advised_11 : decode prog_11_method_32_code 11 = .ok (.iaload, 1) := by decide +kernel
theorem d_Mo_advised_12 : decode prog_11_method_32_code 12 = .ok (.istore_n 1, 1) := by decide +kernel
theorem d_Mo_advised_13 : decode prog_11_method_32_code 13 = .ok (.aload_n 0, 1) := by decide +kernel
theorem d_Mo_advised_14 : decode prog_11_method_32_code 14 = .ok (.invokestatic 70, 3) := by decide +kernel
theorem d_Mo_advised_17 : decode prog_11_method_32_code 17 = .ok (.ifCond .ne 8, 3) := by decide +kernel
theorem d_Mo_advised_20 : decode prog_11_method_32_code 20 = .ok (.aload_n 0, 1) := by decide +kernel
theorem d_Mo_advised_21 : decode prog_11_method_32_code 21 = .ok (.invokestatic 109, 3) := by decide +kernel
theorem d_Mo_advised_24 : decode prog_11_method_32_code 24 = .ok (.ireturn, 1) := by decide +kernel
theorem d_Mo_advised_25 : decode prog_11_method_32_code 25 = .ok (.aload_n 0, 1) := by decide +kernel
theorem d_Mo_advised_26 : decode prog_11_method_32_code 26 = .ok (.invokestatic 66, 3) := by decide +kernel
theorem d_Mo_advised_29 : decode prog_11_method_32_code 29 = .ok (.istore_n 2, 1) := by decide +kernel
theorem d_Mo_advised_30 : decode prog_11_method_32_code 30 = .ok (.iconst 4, 1) := by decide +kernel
theorem d_Mo_advised_31 : decode prog_11_method_32_code 31 = .ok (.iload_n 1, 1) := by decide +kernel
theorem d_Mo_advised_32 : decode prog_11_method_32_code 32 = .ok (.imul, 1) := by decide +kernel
theorem d_Mo_advised_33 : decode prog_11_method_32_code 33 = .ok (.iload_n 2, 1) := by decide +kernel
theorem d_Mo_advised_34 : decode prog_11_method_32_code 34 = .ok (.iadd, 1) := by decide +kernel
theorem d_Mo_advised_35 : decode prog_11_method_32_code 35 = .ok (.istore_n 3, 1) := by decide +kernel
theorem d_Mo_advised_36 : decode prog_11_method_32_code 36 = .ok (.aload_n 0, 1) := by decide +kernel
theorem d_Mo_advised_37 : decode prog_11_method_32_code 37 = .ok (.iload_n 1, 1) := by decide +kernel
theorem d_Mo_advised_38 : decode prog_11_method_32_code 38 = .ok (.iload_n 2, 1) := by decide +kernel
theorem d_Mo_advised_39 : decode prog_11_method_32_code 39 = .ok (.invokestatic 88, 3) := by decide +kernel
theorem d_Mo_advised_42 : decode prog_11_method_32_code 42 = .ok (.iconst 2, 1) := by decide +kernel
theorem d_Mo_advised_43 : decode prog_11_method_32_code 43 = .ok (.irem, 1) := by decide +kernel
theorem d_Mo_advised_44 : decode prog_11_method_32_code 44 = .ok (.ifCond .ne 7, 3) := by decide +kernel
theorem d_Mo_advised_47 : decode prog_11_method_32_code 47 = .ok (.iconst 1, 1) := by decide +kernel
theorem d_Mo_advised_48 : decode prog_11_method_32_code 48 = .ok (.goto 4, 3) := by decide +kernel
theorem d_Mo_advised_51 : decode prog_11_method_32_code 51 = .ok (.iconst 0, 1) := by decide +kernel
theorem d_Mo_advised_52 : decode prog_11_method_32_code 52 = .ok (.istore 4, 2) := by decide +kernel
theorem d_Mo_advised_54 : decode prog_11_method_32_code 54 = .ok (.iconst (-1), 1) := by decide +kernel
theorem d_Mo_advised_55 : decode prog_11_method_32_code 55 = .ok (.istore 5, 2) := by decide +kernel
theorem d_Mo_advised_57 : decode prog_11_method_32_code 57 = .ok (.aload_n 0, 1) := by decide +kernel
theorem d_Mo_advised_58 : decode prog_11_method_32_code 58 = .ok (.bipush 117, 2) := by decide +kernel
theorem d_Mo_advised_60 : decode prog_11_method_32_code 60 = .ok (.iload_n 3, 1) := by decide +kernel
theorem d_Mo_advised_61 : decode prog_11_method_32_code 61 = .ok (.iadd, 1) := by decide +kernel
theorem d_Mo_advised_62 : decode prog_11_method_32_code 62 = .ok (.iaload, 1) := by decide +kernel
theorem d_Mo_advised_63 : decode prog_11_method_32_code 63 = .ok (.ifCond .ne 29, 3) := by decide +kernel
theorem d_Mo_advised_66 : decode prog_11_method_32_code 66 = .ok (.aload_n 0, 1) := by decide +kernel
theorem d_Mo_advised_67 : decode prog_11_method_32_code 67 = .ok (.iload_n 1, 1) := by decide +kernel
theorem d_Mo_advised_68 : decode prog_11_method_32_code 68 = .ok (.iload_n 2, 1) := by decide +kernel
theorem d_Mo_advised_69 : decode prog_11_method_32_code 69 = .ok (.invokestatic 112, 3) := by decide +kernel
theorem d_Mo_advised_72 : decode prog_11_method_32_code 72 = .ok (.iconst 1, 1) := by decide +kernel
theorem d_Mo_advised_73 : decode prog_11_method_32_code 73 = .ok (.if_icmp .le 19, 3) := by decide +kernel
theorem d_Mo_advised_76 : decode prog_11_method_32_code 76 = .ok (.aload_n 0, 1) := by decide +kernel
theorem d_Mo_advised_77 : decode prog_11_method_32_code 77 = .ok (.iload_n 1, 1) := by decide +kernel
theorem d_Mo_advised_78 : decode prog_11_method_32_code 78 = .ok (.iload_n 2, 1) := by decide +kernel
theorem d_Mo_advised_79 : decode prog_11_method_32_code 79 = .ok (.iconst (-1), 1) := by decide +kernel
theorem d_Mo_advised_80 : decode prog_11_method_32_code 80 = .ok (.bipush 32, 2) := by decide +kernel
theorem d_Mo_advised_82 : decode prog_11_method_32_code 82 = .ok (.iload 4, 2) := by decide +kernel
theorem d_Mo_advised_84 : decode prog_11_method_32_code 84 = .ok (.invokestatic 115, 3) := by decide +kernel
theorem d_Mo_advised_87 : decode prog_11_method_32_code 87 = .ok (.istore 5, 2) := by decide +kernel
theorem d_Mo_advised_89 : decode prog_11_method_32_code 89 = .ok (.goto 55, 3) := by decide +kernel
theorem d_Mo_advised_92 : decode prog_11_method_32_code 92 = .ok (.aload_n 0, 1) := by decide +kernel
theorem d_Mo_advised_93 : decode prog_11_method_32_code 93 = .ok (.bipush 117, 2) := by decide +kernel
theorem d_Mo_advised_95 : decode prog_11_method_32_code 95 = .ok (.iload_n 3, 1) := by decide +kernel
theorem d_Mo_advised_96 : decode prog_11_method_32_code 96 = .ok (.iadd, 1) := by decide +kernel
theorem d_Mo_advised_97 : decode prog_11_method_32_code 97 = .ok (.iaload, 1) := by decide +kernel
theorem d_Mo_advised_98 : decode prog_11_method_32_code 98 = .ok (.iconst 1, 1) := by decide +kernel
theorem d_Mo_advised_99 : decode prog_11_method_32_code 99 = .ok (.if_icmp .ne 45, 3) := by decide +kernel
theorem d_Mo_advised_102 : decode prog_11_method_32_code 102 = .ok (.aload_n 0, 1) := by decide +kernel
theorem d_Mo_advised_103 : decode prog_11_method_32_code 103 = .ok (.iload_n 1, 1) := by decide +kernel
theorem d_Mo_advised_104 : decode prog_11_method_32_code 104 = .ok (.iload_n 2, 1) := by decide +kernel
theorem d_Mo_advised_105 : decode prog_11_method_32_code 105 = .ok (.iload 4, 2) := by decide +kernel
theorem d_Mo_advised_107 : decode prog_11_method_32_code 107 = .ok (.ifCond .eq 7, 3) := by decide +kernel
theorem d_Mo_advised_110 : decode prog_11_method_32_code 110 = .ok (.iconst (-1), 1) := by decide +kernel
theorem d_Mo_advised_111 : decode prog_11_method_32_code 111 = .ok (.goto 10, 3) := by decide +kernel
theorem d_Mo_advised_114 : decode prog_11_method_32_code 114 = .ok (.aload_n 0, 1) := by decide +kernel
theorem d_Mo_advised_115 : decode prog_11_method_32_code 115 = .ok (.sipush 133, 3) := by decide +kernel
theorem d_Mo_advised_118 : decode prog_11_method_32_code 118 = .ok (.iload_n 3, 1) := by decide +kernel
theorem d_Mo_advised_119 : decode prog_11_method_32_code 119 = .ok (.iadd, 1) := by decide +kernel
theorem d_Mo_advised_120 : decode prog_11_method_32_code 120 = .ok (.iaload, 1) := by decide +kernel
theorem d_Mo_advised_121 : decode prog_11_method_32_code 121 = .ok (.iload 4, 2) := by decide +kernel
theorem d_Mo_advised_123 : decode prog_11_method_32_code 123 = .ok (.ifCond .eq 13, 3) := by decide +kernel
theorem d_Mo_advised_126 : decode prog_11_method_32_code 126 = .ok (.aload_n 0, 1) := by decide +kernel
theorem d_Mo_advised_127 : decode prog_11_method_32_code 127 = .ok (.sipush 133, 3) := by decide +kernel
theorem d_Mo_advised_130 : decode prog_11_method_32_code 130 = .ok (.iload_n 3, 1) := by decide +kernel
theorem d_Mo_advised_131 : decode prog_11_method_32_code 131 = .ok (.iadd, 1) := by decide +kernel
theorem d_Mo_advised_132 : decode prog_11_method_32_code 132 = .ok (.iaload, 1) := by decide +kernel
theorem d_Mo_advised_133 : decode prog_11_method_32_code 133 = .ok (.goto 5, 3) := by decide +kernel
theorem d_Mo_advised_136 : decode prog_11_method_32_code 136 = .ok (.bipush 32, 2) := by decide +kernel
theorem d_Mo_advised_138 : decode prog_11_method_32_code 138 = .ok (.iconst 0, 1) := by decide +kernel
theorem d_Mo_advised_139 : decode prog_11_method_32_code 139 = .ok (.invokestatic 115, 3) := by decide +kernel
theorem d_Mo_advised_142 : decode prog_11_method_32_code 142 = .ok (.istore 5, 2) := by decide +kernel
theorem d_Mo_advised_144 : decode prog_11_method_32_code 144 = .ok (.iload 5, 2) := by decide +kernel
theorem d_Mo_advised_146 : decode prog_11_method_32_code 146 = .ok (.iconst (-1), 1) := by decide +kernel
theorem d_Mo_advised_147 : decode prog_11_method_32_code 147 = .ok (.if_icmp .ne 10, 3) := by decide +kernel
theorem d_Mo_advised_150 : decode prog_11_method_32_code 150 = .ok (.aload_n 0, 1) := by decide +kernel
theorem d_Mo_advised_151 : decode prog_11_method_32_code 151 = .ok (.invokestatic 109, 3) := by decide +kernel
theorem d_Mo_advised_154 : decode prog_11_method_32_code 154 = .ok (.goto 5, 3) := by decide +kernel
theorem d_Mo_advised_157 : decode prog_11_method_32_code 157 = .ok (.iload 5, 2) := by decide +kernel
theorem d_Mo_advised_159 : decode prog_11_method_32_code 159 = .ok (.ireturn, 1) := by decide +kernel
theorem w_1123 : Cond.methodLink "DropSignalsModel" 109 ⟨"DropSignalsModel", "lowestRank", "([I)I"⟩ ∈ gWs := gWs_in (i := 1123) (by decide +kernel) rfl
theorem w_1129 : Cond.methodLink "DropSignalsModel" 115 ⟨"DropSignalsModel", "smallOf", "([IIIIIZ)I"⟩ ∈ gWs := gWs_in (i := 1129) (by decide +kernel) rfl
theorem w_1126 : Cond.methodLink "DropSignalsModel" 112 ⟨"DropSignalsModel", "smallMany", "([III)I"⟩ ∈ gWs := gWs_in (i := 1126) (by decide +kernel) rfl
noncomputable def f_Mo_advised_b144 (g0 : Nat) (c0 : Nat) (n0 : Nat) (M : gMem) (x5 : Int32) : Option Int32 :=
  if x5 = (-1) then
    (f_Mo_lowestRank g0 c0 n0 M).bind fun q8 =>
    some q8
  else
    some x5
theorem t_Mo_advised_b144 {l : Launch} {ε : gEnv} (g0 : Nat) (c0 : Nat) (n0 : Nat) (h0 : gHas ε g0 c0 (0, n0, [])) (M : gMem) (x5 : Int32) (r : Int32) (h : f_Mo_advised_b144 g0 c0 n0 M x5 = some r) : gGo l ε k_Mo_advised (gR 5 104) (gFn ε (some (.int r)) M) 144 [(0, .ref (ε.2.2.1 g0 c0)), (5, .int x5)] [] M := by
  unfold f_Mo_advised_b144 at h
  refine g_iload d_Mo_advised_144 1 rfl ?_
  refine g_iconst (v := -1) d_Mo_advised_146 (by decide) ?_
  refine g_icmp_ne (tgt := 157) d_Mo_advised_147 (by decide) (fun c9 => ?_) (fun c9 => ?_)
  · rw [if_neg c9] at h
    refine g_iload d_Mo_advised_157 1 rfl ?_
    obtain rfl := Option.some.inj h
    exact g_iret d_Mo_advised_159 rfl
  · rw [if_pos c9] at h
    refine g_aload_n d_Mo_advised_150 rfl 0 rfl ?_
    obtain ⟨q8, hq8, h⟩ := gOb h
    refine g_callS_i (As := [.ref (ε.2.2.1 g0 c0)]) (rest := []) (ct_Mo_lowestRank g0 c0 n0 h0 M _ hq8) d_Mo_advised_151 ca_Mo_lowestRank w_1123 rfl rfl (Nat.le_of_ble_eq_true rfl) ⟨(Nat.le_of_ble_eq_true rfl), (Nat.le_of_ble_eq_true rfl)⟩ ?_
    refine g_goto (tgt := 159) d_Mo_advised_154 (by decide) ?_
    obtain rfl := Option.some.inj h
    exact g_iret d_Mo_advised_159 rfl
noncomputable def f_Mo_advised_b138 (g0 : Nat) (c0 : Nat) (n0 : Nat) (M : gMem) (s0 : Int32) (s1 : Int32) (s2 : Int32) (s3 : Int32) : Option Int32 :=
  (f_Mo_smallOf g0 c0 n0 M s3 s2 s1 s0 0).bind fun q11 =>
  f_Mo_advised_b144 g0 c0 n0 M q11
theorem t_Mo_advised_b138 {l : Launch} {ε : gEnv} (g0 : Nat) (c0 : Nat) (n0 : Nat) (h0 : gHas ε g0 c0 (0, n0, [])) (M : gMem) (s0 : Int32) (s1 : Int32) (s2 : Int32) (s3 : Int32) (r : Int32) (h : f_Mo_advised_b138 g0 c0 n0 M s0 s1 s2 s3 = some r) : gGo l ε k_Mo_advised (gR 5 104) (gFn ε (some (.int r)) M) 138 [(0, .ref (ε.2.2.1 g0 c0))] [.int s0, .int s1, .int s2, .int s3, .ref (ε.2.2.1 g0 c0)] M := by
  unfold f_Mo_advised_b138 at h
  refine g_iconst (v := 0) d_Mo_advised_138 (by decide) ?_
  obtain ⟨q11, hq11, h⟩ := gOb h
  refine g_callS_i (As := [.ref (ε.2.2.1 g0 c0), .int s3, .int s2, .int s1, .int s0, .int 0]) (rest := []) (ct_Mo_smallOf g0 c0 n0 h0 M s3 s2 s1 s0 0 _ hq11) d_Mo_advised_139 ca_Mo_smallOf w_1129 rfl rfl (Nat.le_of_ble_eq_true rfl) ⟨(Nat.le_of_ble_eq_true rfl), (Nat.le_of_ble_eq_true rfl)⟩ ?_
  refine g_istore (L' := [(5, .int q11), (0, .ref (ε.2.2.1 g0 c0))]) d_Mo_advised_142 (by decide) rfl ?_
  refine gGo_sub [1, 0] rfl ?_
  exact t_Mo_advised_b144 g0 c0 n0 h0 M q11 _ h
noncomputable def f_Mo_advised_b121 (g0 : Nat) (c0 : Nat) (n0 : Nat) (M : gMem) (x3 : Int32) (x4 : Int32) (s0 : Int32) (s1 : Int32) (s2 : Int32) : Option Int32 :=
  if x4 = 0 then
    f_Mo_advised_b138 g0 c0 n0 M 32 s0 s1 s2
  else
    (gRd n0 (M g0 c0) (133 + x3)).bind fun v12 =>
    f_Mo_advised_b138 g0 c0 n0 M v12 s0 s1 s2
theorem t_Mo_advised_b121 {l : Launch} {ε : gEnv} (g0 : Nat) (c0 : Nat) (n0 : Nat) (h0 : gHas ε g0 c0 (0, n0, [])) (M : gMem) (x3 : Int32) (x4 : Int32) (s0 : Int32) (s1 : Int32) (s2 : Int32) (r : Int32) (h : f_Mo_advised_b121 g0 c0 n0 M x3 x4 s0 s1 s2 = some r) : gGo l ε k_Mo_advised (gR 5 104) (gFn ε (some (.int r)) M) 121 [(0, .ref (ε.2.2.1 g0 c0)), (3, .int x3), (4, .int x4)] [.int s0, .int s1, .int s2, .ref (ε.2.2.1 g0 c0)] M := by
  unfold f_Mo_advised_b121 at h
  refine g_iload d_Mo_advised_121 2 rfl ?_
  refine g_if_eq (tgt := 136) d_Mo_advised_123 (by decide) (fun c13 => ?_) (fun c13 => ?_)
  · rw [if_pos c13] at h
    refine g_bipush (v := 32) d_Mo_advised_136 (by decide) ?_
    refine gGo_sub [0] rfl ?_
    exact t_Mo_advised_b138 g0 c0 n0 h0 M 32 s0 s1 s2 _ h
  · rw [if_neg c13] at h
    refine g_aload_n d_Mo_advised_126 rfl 0 rfl ?_
    refine g_sipush (v := 133) d_Mo_advised_127 (by decide) ?_
    refine g_iload_n d_Mo_advised_130 rfl 1 rfl ?_
    refine g_iadd d_Mo_advised_131 ?_
    obtain ⟨v12, hv12, h⟩ := gOb h
    refine g_iaload d_Mo_advised_132 h0 hv12 ?_
    refine g_goto (tgt := 138) d_Mo_advised_133 (by decide) ?_
    refine gGo_sub [0] rfl ?_
    exact t_Mo_advised_b138 g0 c0 n0 h0 M v12 s0 s1 s2 _ h
noncomputable def f_Mo_advised_b92 (g0 : Nat) (c0 : Nat) (n0 : Nat) (M : gMem) (x1 : Int32) (x2 : Int32) (x3 : Int32) (x4 : Int32) (x5 : Int32) : Option Int32 :=
  (gRd n0 (M g0 c0) (117 + x3)).bind fun v7 =>
  if v7 = 1 then
    if x4 = 0 then
      (gRd n0 (M g0 c0) (133 + x3)).bind fun v10 =>
      f_Mo_advised_b121 g0 c0 n0 M x3 x4 v10 x2 x1
    else
      f_Mo_advised_b121 g0 c0 n0 M x3 x4 (-1) x2 x1
  else
    f_Mo_advised_b144 g0 c0 n0 M x5
theorem t_Mo_advised_b92 {l : Launch} {ε : gEnv} (g0 : Nat) (c0 : Nat) (n0 : Nat) (h0 : gHas ε g0 c0 (0, n0, [])) (M : gMem) (x1 : Int32) (x2 : Int32) (x3 : Int32) (x4 : Int32) (x5 : Int32) (r : Int32) (h : f_Mo_advised_b92 g0 c0 n0 M x1 x2 x3 x4 x5 = some r) : gGo l ε k_Mo_advised (gR 5 104) (gFn ε (some (.int r)) M) 92 [(0, .ref (ε.2.2.1 g0 c0)), (1, .int x1), (2, .int x2), (3, .int x3), (4, .int x4), (5, .int x5)] [] M := by
  unfold f_Mo_advised_b92 at h
  refine g_aload_n d_Mo_advised_92 rfl 0 rfl ?_
  refine g_bipush (v := 117) d_Mo_advised_93 (by decide) ?_
  refine g_iload_n d_Mo_advised_95 rfl 3 rfl ?_
  refine g_iadd d_Mo_advised_96 ?_
  obtain ⟨v7, hv7, h⟩ := gOb h
  refine g_iaload d_Mo_advised_97 h0 hv7 ?_
  refine g_iconst (v := 1) d_Mo_advised_98 (by decide) ?_
  refine g_icmp_ne (tgt := 144) d_Mo_advised_99 (by decide) (fun c15 => ?_) (fun c15 => ?_)
  · rw [if_neg c15] at h
    refine gGo_sub [0, 5] rfl ?_
    exact t_Mo_advised_b144 g0 c0 n0 h0 M x5 _ h
  · rw [if_pos c15] at h
    refine g_aload_n d_Mo_advised_102 rfl 0 rfl ?_
    refine g_iload_n d_Mo_advised_103 rfl 1 rfl ?_
    refine g_iload_n d_Mo_advised_104 rfl 2 rfl ?_
    refine g_iload d_Mo_advised_105 4 rfl ?_
    refine g_if_eq (tgt := 114) d_Mo_advised_107 (by decide) (fun c14 => ?_) (fun c14 => ?_)
    · rw [if_pos c14] at h
      refine g_aload_n d_Mo_advised_114 rfl 0 rfl ?_
      refine g_sipush (v := 133) d_Mo_advised_115 (by decide) ?_
      refine g_iload_n d_Mo_advised_118 rfl 3 rfl ?_
      refine g_iadd d_Mo_advised_119 ?_
      obtain ⟨v10, hv10, h⟩ := gOb h
      refine g_iaload d_Mo_advised_120 h0 hv10 ?_
      refine gGo_sub [0, 3, 4] rfl ?_
      exact t_Mo_advised_b121 g0 c0 n0 h0 M x3 x4 v10 x2 x1 _ h
    · rw [if_neg c14] at h
      refine g_iconst (v := -1) d_Mo_advised_110 (by decide) ?_
      refine g_goto (tgt := 121) d_Mo_advised_111 (by decide) ?_
      refine gGo_sub [0, 3, 4] rfl ?_
      exact t_Mo_advised_b121 g0 c0 n0 h0 M x3 x4 (-1) x2 x1 _ h
noncomputable def f_Mo_advised_b52 (g0 : Nat) (c0 : Nat) (n0 : Nat) (M : gMem) (x1 : Int32) (x2 : Int32) (x3 : Int32) (s0 : Int32) : Option Int32 :=
  (gRd n0 (M g0 c0) (117 + x3)).bind fun v6 =>
  if v6 = 0 then
    (f_Mo_smallMany g0 c0 n0 M x1 x2).bind fun q16 =>
    if q16 ≤ 1 then
      f_Mo_advised_b92 g0 c0 n0 M x1 x2 x3 s0 (-1)
    else
      (f_Mo_smallOf g0 c0 n0 M x1 x2 (-1) 32 s0).bind fun q17 =>
      f_Mo_advised_b144 g0 c0 n0 M q17
  else
    f_Mo_advised_b92 g0 c0 n0 M x1 x2 x3 s0 (-1)
theorem t_Mo_advised_b52 {l : Launch} {ε : gEnv} (g0 : Nat) (c0 : Nat) (n0 : Nat) (h0 : gHas ε g0 c0 (0, n0, [])) (M : gMem) (x1 : Int32) (x2 : Int32) (x3 : Int32) (s0 : Int32) (r : Int32) (h : f_Mo_advised_b52 g0 c0 n0 M x1 x2 x3 s0 = some r) : gGo l ε k_Mo_advised (gR 5 104) (gFn ε (some (.int r)) M) 52 [(0, .ref (ε.2.2.1 g0 c0)), (1, .int x1), (2, .int x2), (3, .int x3)] [.int s0] M := by
  unfold f_Mo_advised_b52 at h
  refine g_istore (L' := [(4, .int s0), (0, .ref (ε.2.2.1 g0 c0)), (1, .int x1), (2, .int x2), (3, .int x3)]) d_Mo_advised_52 (by decide) rfl ?_
  refine g_iconst (v := -1) d_Mo_advised_54 (by decide) ?_
  refine g_istore (L' := [(5, .int (-1)), (4, .int s0), (0, .ref (ε.2.2.1 g0 c0)), (1, .int x1), (2, .int x2), (3, .int x3)]) d_Mo_advised_55 (by decide) rfl ?_
  refine g_aload_n d_Mo_advised_57 rfl 2 rfl ?_
  refine g_bipush (v := 117) d_Mo_advised_58 (by decide) ?_
  refine g_iload_n d_Mo_advised_60 rfl 5 rfl ?_
  refine g_iadd d_Mo_advised_61 ?_
  obtain ⟨v6, hv6, h⟩ := gOb h
  refine g_iaload d_Mo_advised_62 h0 hv6 ?_
  refine g_if_ne (tgt := 92) d_Mo_advised_63 (by decide) (fun c19 => ?_) (fun c19 => ?_)
  · rw [if_neg c19] at h
    refine gGo_sub [2, 3, 4, 5, 1, 0] rfl ?_
    exact t_Mo_advised_b92 g0 c0 n0 h0 M x1 x2 x3 s0 (-1) _ h
  · rw [if_pos c19] at h
    refine g_aload_n d_Mo_advised_66 rfl 2 rfl ?_
    refine g_iload_n d_Mo_advised_67 rfl 3 rfl ?_
    refine g_iload_n d_Mo_advised_68 rfl 4 rfl ?_
    obtain ⟨q16, hq16, h⟩ := gOb h
    refine g_callS_i (As := [.ref (ε.2.2.1 g0 c0), .int x1, .int x2]) (rest := []) (ct_Mo_smallMany g0 c0 n0 h0 M x1 x2 _ hq16) d_Mo_advised_69 ca_Mo_smallMany w_1126 rfl rfl (Nat.le_of_ble_eq_true rfl) ⟨(Nat.le_of_ble_eq_true rfl), (Nat.le_of_ble_eq_true rfl)⟩ ?_
    refine g_iconst (v := 1) d_Mo_advised_72 (by decide) ?_
    refine g_icmp_le (tgt := 92) d_Mo_advised_73 (by decide) (fun c18 => ?_) (fun c18 => ?_)
    · rw [if_pos c18] at h
      refine gGo_sub [2, 3, 4, 5, 1, 0] rfl ?_
      exact t_Mo_advised_b92 g0 c0 n0 h0 M x1 x2 x3 s0 (-1) _ h
    · rw [if_neg c18] at h
      refine g_aload_n d_Mo_advised_76 rfl 2 rfl ?_
      refine g_iload_n d_Mo_advised_77 rfl 3 rfl ?_
      refine g_iload_n d_Mo_advised_78 rfl 4 rfl ?_
      refine g_iconst (v := -1) d_Mo_advised_79 (by decide) ?_
      refine g_bipush (v := 32) d_Mo_advised_80 (by decide) ?_
      refine g_iload d_Mo_advised_82 1 rfl ?_
      obtain ⟨q17, hq17, h⟩ := gOb h
      refine g_callS_i (As := [.ref (ε.2.2.1 g0 c0), .int x1, .int x2, .int (-1), .int 32, .int s0]) (rest := []) (ct_Mo_smallOf g0 c0 n0 h0 M x1 x2 (-1) 32 s0 _ hq17) d_Mo_advised_84 ca_Mo_smallOf w_1129 rfl rfl (Nat.le_of_ble_eq_true rfl) ⟨(Nat.le_of_ble_eq_true rfl), (Nat.le_of_ble_eq_true rfl)⟩ ?_
      refine g_istore (L' := [(5, .int q17), (4, .int s0), (0, .ref (ε.2.2.1 g0 c0)), (1, .int x1), (2, .int x2), (3, .int x3)]) d_Mo_advised_87 (by decide) rfl ?_
      refine g_goto (tgt := 144) d_Mo_advised_89 (by decide) ?_
      refine gGo_sub [2, 0] rfl ?_
      exact t_Mo_advised_b144 g0 c0 n0 h0 M q17 _ h
noncomputable def f_Mo_advised (g0 : Nat) (c0 : Nat) (n0 : Nat) (M : gMem) : Option Int32 :=
  (gRd n0 (M g0 c0) 1).bind fun v1 =>
  if v1 = 2 then
    (gRd n0 (M g0 c0) 2).bind fun v2 =>
    (f_Mo_follows g0 c0 n0 M).bind fun q3 =>
    if q3 = 0 then
      (f_Mo_lowestRank g0 c0 n0 M).bind fun q21 =>
      some q21
    else
      (f_Mo_led g0 c0 n0 M).bind fun q4 =>
      (f_Mo_wasDealt g0 c0 n0 M v2 q4).bind fun q5 =>
      if (gRem q5 2) = 0 then
        f_Mo_advised_b52 g0 c0 n0 M v2 q4 ((4 * v2) + q4) 1
      else
        f_Mo_advised_b52 g0 c0 n0 M v2 q4 ((4 * v2) + q4) 0
  else
    some (-1)
theorem t_Mo_advised {l : Launch} {ε : gEnv} (g0 : Nat) (c0 : Nat) (n0 : Nat) (h0 : gHas ε g0 c0 (0, n0, [])) (M : gMem) (r : Int32) (h : f_Mo_advised g0 c0 n0 M = some r) : gGo l ε k_Mo_advised (gR 5 104) (gFn ε (some (.int r)) M) 0 [(0, .ref (ε.2.2.1 g0 c0))] [] M := by
  unfold f_Mo_advised at h
  refine g_aload_n d_Mo_advised_0 rfl 0 rfl ?_
  refine g_iconst (v := 1) d_Mo_advised_1 (by decide) ?_
  obtain ⟨v1, hv1, h⟩ := gOb h
  refine g_iaload d_Mo_advised_2 h0 hv1 ?_
  refine g_iconst (v := 2) d_Mo_advised_3 (by decide) ?_
  refine g_icmp_eq (tgt := 9) d_Mo_advised_4 (by decide) (fun c23 => ?_) (fun c23 => ?_)
  · rw [if_pos c23] at h
    refine g_aload_n d_Mo_advised_9 rfl 0 rfl ?_
    refine g_iconst (v := 2) d_Mo_advised_10 (by decide) ?_
    obtain ⟨v2, hv2, h⟩ := gOb h
    refine g_iaload d_Mo_advised_11 h0 hv2 ?_
    refine g_istore_n (L' := [(1, .int v2), (0, .ref (ε.2.2.1 g0 c0))]) d_Mo_advised_12 rfl (by decide) rfl ?_
    refine g_aload_n d_Mo_advised_13 rfl 1 rfl ?_
    obtain ⟨q3, hq3, h⟩ := gOb h
    refine g_callS_i (As := [.ref (ε.2.2.1 g0 c0)]) (rest := []) (ct_Mo_follows g0 c0 n0 h0 M _ hq3) d_Mo_advised_14 ca_Mo_follows w_1081 rfl rfl (Nat.le_of_ble_eq_true rfl) ⟨(Nat.le_of_ble_eq_true rfl), (Nat.le_of_ble_eq_true rfl)⟩ ?_
    refine g_if_ne (tgt := 25) d_Mo_advised_17 (by decide) (fun c22 => ?_) (fun c22 => ?_)
    · rw [if_neg c22] at h
      refine g_aload_n d_Mo_advised_25 rfl 1 rfl ?_
      obtain ⟨q4, hq4, h⟩ := gOb h
      refine g_callS_i (As := [.ref (ε.2.2.1 g0 c0)]) (rest := []) (ct_Mo_led g0 c0 n0 h0 M _ hq4) d_Mo_advised_26 ca_Mo_led w_1084 rfl rfl (Nat.le_of_ble_eq_true rfl) ⟨(Nat.le_of_ble_eq_true rfl), (Nat.le_of_ble_eq_true rfl)⟩ ?_
      refine g_istore_n (L' := [(2, .int q4), (1, .int v2), (0, .ref (ε.2.2.1 g0 c0))]) d_Mo_advised_29 rfl (by decide) rfl ?_
      refine g_iconst (v := 4) d_Mo_advised_30 (by decide) ?_
      refine g_iload_n d_Mo_advised_31 rfl 1 rfl ?_
      refine g_imul d_Mo_advised_32 ?_
      refine g_iload_n d_Mo_advised_33 rfl 0 rfl ?_
      refine g_iadd d_Mo_advised_34 ?_
      refine g_istore_n (L' := [(3, .int ((4 * v2) + q4)), (2, .int q4), (1, .int v2), (0, .ref (ε.2.2.1 g0 c0))]) d_Mo_advised_35 rfl (by decide) rfl ?_
      refine g_aload_n d_Mo_advised_36 rfl 3 rfl ?_
      refine g_iload_n d_Mo_advised_37 rfl 2 rfl ?_
      refine g_iload_n d_Mo_advised_38 rfl 1 rfl ?_
      obtain ⟨q5, hq5, h⟩ := gOb h
      refine g_callS_i (As := [.ref (ε.2.2.1 g0 c0), .int v2, .int q4]) (rest := []) (ct_Mo_wasDealt g0 c0 n0 h0 M v2 q4 _ hq5) d_Mo_advised_39 ca_Mo_wasDealt w_1108 rfl rfl (Nat.le_of_ble_eq_true rfl) ⟨(Nat.le_of_ble_eq_true rfl), (Nat.le_of_ble_eq_true rfl)⟩ ?_
      refine g_iconst (v := 2) d_Mo_advised_42 (by decide) ?_
      refine g_rem d_Mo_advised_43 (by decide) ?_
      refine g_if_ne (tgt := 51) d_Mo_advised_44 (by decide) (fun c20 => ?_) (fun c20 => ?_)
      · rw [if_neg c20] at h
        refine g_iconst (v := 0) d_Mo_advised_51 (by decide) ?_
        refine gGo_sub [3, 2, 1, 0] rfl ?_
        exact t_Mo_advised_b52 g0 c0 n0 h0 M v2 q4 ((4 * v2) + q4) 0 _ h
      · rw [if_pos c20] at h
        refine g_iconst (v := 1) d_Mo_advised_47 (by decide) ?_
        refine g_goto (tgt := 52) d_Mo_advised_48 (by decide) ?_
        refine gGo_sub [3, 2, 1, 0] rfl ?_
        exact t_Mo_advised_b52 g0 c0 n0 h0 M v2 q4 ((4 * v2) + q4) 1 _ h
    · rw [if_pos c22] at h
      refine g_aload_n d_Mo_advised_20 rfl 1 rfl ?_
      obtain ⟨q21, hq21, h⟩ := gOb h
      refine g_callS_i (As := [.ref (ε.2.2.1 g0 c0)]) (rest := []) (ct_Mo_lowestRank g0 c0 n0 h0 M _ hq21) d_Mo_advised_21 ca_Mo_lowestRank w_1123 rfl rfl (Nat.le_of_ble_eq_true rfl) ⟨(Nat.le_of_ble_eq_true rfl), (Nat.le_of_ble_eq_true rfl)⟩ ?_
      obtain rfl := Option.some.inj h
      exact g_iret d_Mo_advised_24 rfl
  · rw [if_neg c23] at h
    refine g_iconst (v := -1) d_Mo_advised_7 (by decide) ?_
    obtain rfl := Option.some.inj h
    exact g_iret d_Mo_advised_8 rfl
theorem ct_Mo_advised {l : Launch} {ε : gEnv} (g0 : Nat) (c0 : Nat) (n0 : Nat) (h0 : gHas ε g0 c0 (0, n0, [])) (M : gMem) (r : Int32) (h : f_Mo_advised g0 c0 n0 M = some r) : gCt l ε k_Mo_advised 5 104 [.ref (ε.2.2.1 g0 c0)] M (some (.int r)) M :=
  gCt_of (by decide) (Nat.le_of_ble_eq_true rfl) rfl (t_Mo_advised g0 c0 n0 h0 M r h)
abbrev k_Mo_playAdvice : gMD := (⟨"DropSignalsModel", "playAdvice", "([I)Z"⟩, prog_11_method_33_code, 2, (some .boolean))
theorem w_1118 : Cond.static ⟨"DropSignalsModel", "playAdvice", "([I)Z"⟩ ∈ gWs := gWs_in (i := 1118) (by decide +kernel) rfl
set_option maxRecDepth 100000 in
theorem ca_Mo_playAdvice : gCaS k_Mo_playAdvice 1 := ⟨⟨gWs_in (i := 1119) rfl rfl, w_43, by decide, by decide, by decide +kernel⟩, w_1118⟩
theorem d_Mo_playAdvice_0 : decode prog_11_method_33_code 0 = .ok (.aload_n 0, 1) := by decide +kernel
theorem d_Mo_playAdvice_1 : decode prog_11_method_33_code 1 = .ok (.invokestatic 119, 3) := by decide +kernel
theorem d_Mo_playAdvice_4 : decode prog_11_method_33_code 4 = .ok (.istore_n 1, 1) := by decide +kernel
theorem d_Mo_playAdvice_5 : decode prog_11_method_33_code 5 = .ok (.iload_n 1, 1) := by decide +kernel
theorem d_Mo_playAdvice_6 : decode prog_11_method_33_code 6 = .ok (.iconst (-1), 1) := by decide +kernel
theorem d_Mo_playAdvice_7 : decode prog_11_method_33_code 7 = .ok (.if_icmp .eq 8, 3) := by decide +kernel
theorem d_Mo_playAdvice_10 : decode prog_11_method_33_code 10 = .ok (.aload_n 0, 1) := by decide +kernel
theorem d_Mo_playAdvice_11 : decode prog_11_method_33_code 11 = .ok (.iload_n 1, 1) := by decide +kernel
theorem d_Mo_playAdvice_12 : decode prog_11_method_33_code 12 = .ok (.invokestatic 105, 3) := by decide +kernel
theorem d_Mo_playAdvice_15 : decode prog_11_method_33_code 15 = .ok (.iload_n 1, 1) := by decide +kernel
theorem d_Mo_playAdvice_16 : decode prog_11_method_33_code 16 = .ok (.iconst (-1), 1) := by decide +kernel
theorem d_Mo_playAdvice_17 : decode prog_11_method_33_code 17 = .ok (.if_icmp .eq 7, 3) := by decide +kernel
theorem d_Mo_playAdvice_20 : decode prog_11_method_33_code 20 = .ok (.iconst 1, 1) := by decide +kernel
theorem d_Mo_playAdvice_21 : decode prog_11_method_33_code 21 = .ok (.goto 4, 3) := by decide +kernel
theorem d_Mo_playAdvice_24 : decode prog_11_method_33_code 24 = .ok (.iconst 0, 1) := by decide +kernel
theorem d_Mo_playAdvice_25 : decode prog_11_method_33_code 25 = .ok (.ireturn, 1) := by decide +kernel
theorem w_1120 : Cond.methodLink "DropSignalsModel" 119 ⟨"DropSignalsModel", "advised", "([I)I"⟩ ∈ gWs := gWs_in (i := 1120) (by decide +kernel) rfl
noncomputable def f_Mo_playAdvice_b15 (g0 : Nat) (c0 : Nat) (n0 : Nat) (M : gMem) (x1 : Int32) : Option (Int32 × gMem) :=
  if x1 = (-1) then
    some (0, M)
  else
    some (1, M)
theorem t_Mo_playAdvice_b15 {l : Launch} {ε : gEnv} (g0 : Nat) (c0 : Nat) (n0 : Nat) (h0 : gHas ε g0 c0 (0, n0, [])) (M : gMem) (x1 : Int32) (r : (Int32 × gMem)) (h : f_Mo_playAdvice_b15 g0 c0 n0 M x1 = some r) : gGo l ε k_Mo_playAdvice (gR 6 129) (gFn ε (some (.int r.1)) r.2) 15 [(1, .int x1)] [] M := by
  unfold f_Mo_playAdvice_b15 at h
  refine g_iload_n d_Mo_playAdvice_15 rfl 0 rfl ?_
  refine g_iconst (v := -1) d_Mo_playAdvice_16 (by decide) ?_
  refine g_icmp_eq (tgt := 24) d_Mo_playAdvice_17 (by decide) (fun c2 => ?_) (fun c2 => ?_)
  · rw [if_pos c2] at h
    refine g_iconst (v := 0) d_Mo_playAdvice_24 (by decide) ?_
    obtain rfl := Option.some.inj h
    exact g_zret d_Mo_playAdvice_25 rfl gZ0
  · rw [if_neg c2] at h
    refine g_iconst (v := 1) d_Mo_playAdvice_20 (by decide) ?_
    refine g_goto (tgt := 25) d_Mo_playAdvice_21 (by decide) ?_
    obtain rfl := Option.some.inj h
    exact g_zret d_Mo_playAdvice_25 rfl gZ1
noncomputable def f_Mo_playAdvice (g0 : Nat) (c0 : Nat) (n0 : Nat) (M : gMem) : Option (Int32 × gMem) :=
  (f_Mo_advised g0 c0 n0 M).bind fun q1 =>
  if q1 = (-1) then
    f_Mo_playAdvice_b15 g0 c0 n0 M q1
  else
    (f_Mo_put g0 c0 n0 M q1).bind fun q3 =>
    f_Mo_playAdvice_b15 g0 c0 n0 q3 q1
theorem t_Mo_playAdvice {l : Launch} {ε : gEnv} (g0 : Nat) (c0 : Nat) (n0 : Nat) (h0 : gHas ε g0 c0 (0, n0, [])) (M : gMem) (r : (Int32 × gMem)) (h : f_Mo_playAdvice g0 c0 n0 M = some r) : gGo l ε k_Mo_playAdvice (gR 6 129) (gFn ε (some (.int r.1)) r.2) 0 [(0, .ref (ε.2.2.1 g0 c0))] [] M := by
  unfold f_Mo_playAdvice at h
  refine g_aload_n d_Mo_playAdvice_0 rfl 0 rfl ?_
  obtain ⟨q1, hq1, h⟩ := gOb h
  refine g_callS_i (As := [.ref (ε.2.2.1 g0 c0)]) (rest := []) (ct_Mo_advised g0 c0 n0 h0 M _ hq1) d_Mo_playAdvice_1 ca_Mo_advised w_1120 rfl rfl (Nat.le_of_ble_eq_true rfl) ⟨(Nat.le_of_ble_eq_true rfl), (Nat.le_of_ble_eq_true rfl)⟩ ?_
  refine g_istore_n (L' := [(1, .int q1), (0, .ref (ε.2.2.1 g0 c0))]) d_Mo_playAdvice_4 rfl (by decide) rfl ?_
  refine g_iload_n d_Mo_playAdvice_5 rfl 0 rfl ?_
  refine g_iconst (v := -1) d_Mo_playAdvice_6 (by decide) ?_
  refine g_icmp_eq (tgt := 15) d_Mo_playAdvice_7 (by decide) (fun c4 => ?_) (fun c4 => ?_)
  · rw [if_pos c4] at h
    refine gGo_sub [0] rfl ?_
    exact t_Mo_playAdvice_b15 g0 c0 n0 h0 M q1 _ h
  · rw [if_neg c4] at h
    refine g_aload_n d_Mo_playAdvice_10 rfl 1 rfl ?_
    refine g_iload_n d_Mo_playAdvice_11 rfl 0 rfl ?_
    obtain ⟨q3, hq3, h⟩ := gOb h
    refine g_callS_v (As := [.ref (ε.2.2.1 g0 c0), .int q1]) (rest := []) (ct_Mo_put g0 c0 n0 h0 M q1 _ hq3) d_Mo_playAdvice_12 ca_Mo_put w_1096 rfl rfl (Nat.le_of_ble_eq_true rfl) ⟨(Nat.le_of_ble_eq_true rfl), (Nat.le_of_ble_eq_true rfl)⟩ ?_
    refine gGo_sub [0] rfl ?_
    exact t_Mo_playAdvice_b15 g0 c0 n0 h0 q3 q1 _ h
theorem ct_Mo_playAdvice {l : Launch} {ε : gEnv} (g0 : Nat) (c0 : Nat) (n0 : Nat) (h0 : gHas ε g0 c0 (0, n0, [])) (M : gMem) (r : (Int32 × gMem)) (h : f_Mo_playAdvice g0 c0 n0 M = some r) : gCt l ε k_Mo_playAdvice 6 129 [.ref (ε.2.2.1 g0 c0)] M (some (.int r.1)) r.2 :=
  gCt_of (by decide) (Nat.le_of_ble_eq_true rfl) rfl (t_Mo_playAdvice g0 c0 n0 h0 M r h)
