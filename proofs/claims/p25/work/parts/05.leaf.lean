abbrev k_JA_fill : gMD := (⟨"java/util/Arrays", "fill", "([II)V"⟩, prog_21_method_103_code, 4, none)
theorem w_23 : Cond.initialized "java/util/Arrays" ∈ gWs := gWs_in (i := 23) (by decide +kernel) rfl
theorem w_63 : Cond.static ⟨"java/util/Arrays", "fill", "([II)V"⟩ ∈ gWs := gWs_in (i := 63) (by decide +kernel) rfl
set_option maxRecDepth 100000 in
theorem ca_JA_fill : gCaS k_JA_fill 2 := ⟨⟨gWs_in (i := 64) rfl rfl, w_23, by decide, by decide, by decide +kernel⟩, w_63⟩
theorem d_JA_fill_0 : decode prog_21_method_103_code 0 = .ok (.iconst 0, 1) := by decide +kernel
theorem d_JA_fill_1 : decode prog_21_method_103_code 1 = .ok (.istore_n 2, 1) := by decide +kernel
theorem d_JA_fill_2 : decode prog_21_method_103_code 2 = .ok (.aload_n 0, 1) := by decide +kernel
theorem d_JA_fill_3 : decode prog_21_method_103_code 3 = .ok (.arraylength, 1) := by decide +kernel
theorem d_JA_fill_4 : decode prog_21_method_103_code 4 = .ok (.istore_n 3, 1) := by decide +kernel
theorem d_JA_fill_5 : decode prog_21_method_103_code 5 = .ok (.iload_n 2, 1) := by decide +kernel
theorem d_JA_fill_6 : decode prog_21_method_103_code 6 = .ok (.iload_n 3, 1) := by decide +kernel
theorem d_JA_fill_7 : decode prog_21_method_103_code 7 = .ok (.if_icmp .ge 13, 3) := by decide +kernel
theorem d_JA_fill_10 : decode prog_21_method_103_code 10 = .ok (.aload_n 0, 1) := by decide +kernel
theorem d_JA_fill_11 : decode prog_21_method_103_code 11 = .ok (.iload_n 2, 1) := by decide +kernel
theorem d_JA_fill_12 : decode prog_21_method_103_code 12 = .ok (.iload_n 1, 1) := by decide +kernel
theorem d_JA_fill_13 : decode prog_21_method_103_code 13 = .ok (.iastore, 1) := by decide +kernel
theorem d_JA_fill_14 : decode prog_21_method_103_code 14 = .ok (.iinc 2 1, 3) := by decide +kernel
theorem d_JA_fill_17 : decode prog_21_method_103_code 17 = .ok (.goto (-12), 3) := by decide +kernel
theorem d_JA_fill_20 : decode prog_21_method_103_code 20 = .ok (.return_, 1) := by decide +kernel
noncomputable def f_JA_fill_s5 (g0 : Nat) (c0 : Nat) (n0 : Nat) (M : gMem) (x1 : Int32) (x2 : Int32) (x3 : Int32) : Option ((Int32 × gMem) ⊕ gMem) :=
  if x3 ≤ x2 then
    some (.inr M)
  else
    (gWr M g0 c0 n0 x2 x1).bind fun M1 =>
    some (.inl ((x2 + 1), M1))
theorem t_JA_fill_s5 {l : Launch} {ε : gEnv} (g0 : Nat) (c0 : Nat) (n0 : Nat) (h0 : gHas ε g0 c0 (0, n0, [])) (M : gMem) (x1 : Int32) (x2 : Int32) (x3 : Int32) (res : ((Int32 × gMem) ⊕ gMem)) (h : f_JA_fill_s5 g0 c0 n0 M x1 x2 x3 = some res) (r : gMem) (k1 : ∀ s0 : (Int32 × gMem), res = .inl s0 → gGo l ε k_JA_fill (gR 0 0) (gFn ε none r) 5 [(0, .ref (ε.2.2.1 g0 c0)), (1, .int x1), (2, .int s0.1), (3, .int x3)] [] s0.2) (k2 : ∀ r', res = .inr r' → r' = r) : gGo l ε k_JA_fill (gR 0 0) (gFn ε none r) 5 [(0, .ref (ε.2.2.1 g0 c0)), (1, .int x1), (2, .int x2), (3, .int x3)] [] M := by
  unfold f_JA_fill_s5 at h
  refine g_iload_n d_JA_fill_5 rfl 2 rfl ?_
  refine g_iload_n d_JA_fill_6 rfl 3 rfl ?_
  refine g_icmp_ge (tgt := 20) d_JA_fill_7 (by decide) (fun c2 => ?_) (fun c2 => ?_)
  · rw [if_pos c2] at h
    obtain rfl := Option.some.inj h
    have e9 := k2 _ rfl
    subst e9
    exact g_vret d_JA_fill_20 rfl
  · rw [if_neg c2] at h
    refine g_aload_n d_JA_fill_10 rfl 0 rfl ?_
    refine g_iload_n d_JA_fill_11 rfl 2 rfl ?_
    refine g_iload_n d_JA_fill_12 rfl 1 rfl ?_
    obtain ⟨M1, hM1, h⟩ := gOb h
    refine g_iastore d_JA_fill_13 h0 hM1 ?_
    refine g_iinc (v := (x2 + 1)) (L' := [(2, .int (x2 + 1)), (0, .ref (ε.2.2.1 g0 c0)), (1, .int x1), (3, .int x3)]) d_JA_fill_14 (j := 2) rfl rfl (by decide) rfl ?_
    refine g_goto (tgt := 5) d_JA_fill_17 (by decide) ?_
    refine gGo_sub [1, 2, 0, 3] rfl ?_
    obtain rfl := Option.some.inj h
    exact k1 ((x2 + 1), M1) rfl
noncomputable def f_JA_fill_l5 (g0 : Nat) (c0 : Nat) (n0 : Nat) (x1 : Int32) (x3 : Int32) (s : (Int32 × gMem)) : Option gMem := gLp (fun s => f_JA_fill_s5 g0 c0 n0 s.2 x1 s.1 x3) s
theorem t_JA_fill_l5 {l : Launch} {ε : gEnv} (g0 : Nat) (c0 : Nat) (n0 : Nat) (h0 : gHas ε g0 c0 (0, n0, [])) (x1 : Int32) (x3 : Int32) (s : (Int32 × gMem)) (r : gMem) (h : f_JA_fill_l5 g0 c0 n0 x1 x3 s = some r) : gGo l ε k_JA_fill (gR 0 0) (gFn ε none r) 5 [(0, .ref (ε.2.2.1 g0 c0)), (1, .int x1), (2, .int s.1), (3, .int x3)] [] s.2 :=
  g_loop _ (fun r s => gGo l ε k_JA_fill (gR 0 0) (gFn ε none r) 5 [(0, .ref (ε.2.2.1 g0 c0)), (1, .int x1), (2, .int s.1), (3, .int x3)] [] s.2) (fun s res h r k1 k2 => t_JA_fill_s5 g0 c0 n0 h0 s.2 x1 s.1 x3 res h r k1 k2) s r h
noncomputable def f_JA_fill (g0 : Nat) (c0 : Nat) (n0 : Nat) (M : gMem) (a1 : Int32) : Option gMem :=
  f_JA_fill_l5 g0 c0 n0 a1 (Int32.ofNat n0) (0, M)
theorem t_JA_fill {l : Launch} {ε : gEnv} (g0 : Nat) (c0 : Nat) (n0 : Nat) (h0 : gHas ε g0 c0 (0, n0, [])) (M : gMem) (a1 : Int32) (r : gMem) (h : f_JA_fill g0 c0 n0 M a1 = some r) : gGo l ε k_JA_fill (gR 0 0) (gFn ε none r) 0 [(0, .ref (ε.2.2.1 g0 c0)), (1, .int a1)] [] M := by
  unfold f_JA_fill at h
  refine g_iconst (v := 0) d_JA_fill_0 (by decide) ?_
  refine g_istore_n (L' := [(2, .int 0), (0, .ref (ε.2.2.1 g0 c0)), (1, .int a1)]) d_JA_fill_1 rfl (by decide) rfl ?_
  refine g_aload_n d_JA_fill_2 rfl 1 rfl ?_
  refine g_alen d_JA_fill_3 h0 ?_
  refine g_istore_n (L' := [(3, .int (Int32.ofNat n0)), (2, .int 0), (0, .ref (ε.2.2.1 g0 c0)), (1, .int a1)]) d_JA_fill_4 rfl (by decide) rfl ?_
  refine gGo_sub [2, 3, 1, 0] rfl ?_
  exact t_JA_fill_l5 g0 c0 n0 h0 a1 (Int32.ofNat n0) (0, M) _ h
theorem ct_JA_fill {l : Launch} {ε : gEnv} (g0 : Nat) (c0 : Nat) (n0 : Nat) (h0 : gHas ε g0 c0 (0, n0, [])) (M : gMem) (a1 : Int32) (r : gMem) (h : f_JA_fill g0 c0 n0 M a1 = some r) : gCt l ε k_JA_fill 0 0 [.ref (ε.2.2.1 g0 c0), .int a1] M none r :=
  gCt_of (by decide) (Nat.le_of_ble_eq_true rfl) rfl (t_JA_fill g0 c0 n0 h0 M a1 r h)
abbrev k_Cards_clear : gMD := (⟨"DropSignals$Cards", "clear", "()V"⟩, prog_2_method_2_code, 1, none)
theorem w_22 : Cond.initialized "DropSignals$Cards" ∈ gWs := gWs_in (i := 22) (by decide +kernel) rfl
theorem w_59 : Cond.instanceMethod ⟨"DropSignals$Cards", "clear", "()V"⟩ ∈ gWs := gWs_in (i := 59) (by decide +kernel) rfl
theorem w_60 : Cond.selects "DropSignals$Cards" ⟨"DropSignals$Cards", "clear", "()V"⟩ ⟨"DropSignals$Cards", "clear", "()V"⟩ ∈ gWs := gWs_in (i := 60) (by decide +kernel) rfl
set_option maxRecDepth 100000 in
theorem ca_Cards_clear : gCaV k_Cards_clear 0 := ⟨⟨gWs_in (i := 61) rfl rfl, w_22, by decide, by decide, by decide +kernel⟩, w_59, w_60⟩
theorem d_Cards_clear_0 : decode prog_2_method_2_code 0 = .ok (.aload_n 0, 1) := by decide +kernel
theorem d_Cards_clear_1 : decode prog_2_method_2_code 1 = .ok (.getfield 9, 3) := by decide +kernel
theorem d_Cards_clear_4 : decode prog_2_method_2_code 4 = .ok (.iconst (-1), 1) := by decide +kernel
theorem d_Cards_clear_5 : decode prog_2_method_2_code 5 = .ok (.invokestatic 24, 3) := by decide +kernel
theorem d_Cards_clear_8 : decode prog_2_method_2_code 8 = .ok (.aload_n 0, 1) := by decide +kernel
theorem d_Cards_clear_9 : decode prog_2_method_2_code 9 = .ok (.getfield 15, 3) := by decide +kernel
theorem d_Cards_clear_12 : decode prog_2_method_2_code 12 = .ok (.iconst (-1), 1) := by decide +kernel
theorem d_Cards_clear_13 : decode prog_2_method_2_code 13 = .ok (.invokestatic 24, 3) := by decide +kernel
theorem d_Cards_clear_16 : decode prog_2_method_2_code 16 = .ok (.aload_n 0, 1) := by decide +kernel
theorem d_Cards_clear_17 : decode prog_2_method_2_code 17 = .ok (.getfield 18, 3) := by decide +kernel
theorem d_Cards_clear_20 : decode prog_2_method_2_code 20 = .ok (.iconst (-1), 1) := by decide +kernel
theorem d_Cards_clear_21 : decode prog_2_method_2_code 21 = .ok (.invokestatic 24, 3) := by decide +kernel
theorem d_Cards_clear_24 : decode prog_2_method_2_code 24 = .ok (.aload_n 0, 1) := by decide +kernel
theorem d_Cards_clear_25 : decode prog_2_method_2_code 25 = .ok (.iconst 0, 1) := by decide +kernel
theorem d_Cards_clear_26 : decode prog_2_method_2_code 26 = .ok (.putfield 30, 3) := by decide +kernel
theorem d_Cards_clear_29 : decode prog_2_method_2_code 29 = .ok (.return_, 1) := by decide +kernel
theorem uw_0 : ∀ w ∈ u_ws gN0 gF0 4, w ∈ gWs := by
  intro w hw
  have h := List.all_eq_true.mp (show (u_ws gN0 gF0 4).all (fun w => decide (w ∈ lw_tbl) && goodWord w) = true by decide +kernel) w hw
  simp only [Bool.and_eq_true, decide_eq_true_eq] at h
  exact List.mem_filter.mpr h
theorem w_65 : Cond.fieldLink "DropSignals$Cards" 9 "DropSignals$Cards" "owners" "[I" ∈ gWs := gWs_in (i := 65) (by decide +kernel) rfl
theorem fl_Cards_9 : gFl "DropSignals$Cards" 9 0 0 := ⟨gN0, gF0, 4, rfl, uw_0, by decide, w_65⟩
theorem w_62 : Cond.methodLink "DropSignals$Cards" 24 ⟨"java/util/Arrays", "fill", "([II)V"⟩ ∈ gWs := gWs_in (i := 62) (by decide +kernel) rfl
theorem w_66 : Cond.fieldLink "DropSignals$Cards" 15 "DropSignals$Cards" "times" "[I" ∈ gWs := gWs_in (i := 66) (by decide +kernel) rfl
theorem fl_Cards_15 : gFl "DropSignals$Cards" 15 0 1 := ⟨gN0, gF0, 4, rfl, uw_0, by decide, w_66⟩
theorem w_67 : Cond.fieldLink "DropSignals$Cards" 18 "DropSignals$Cards" "order" "[I" ∈ gWs := gWs_in (i := 67) (by decide +kernel) rfl
theorem fl_Cards_18 : gFl "DropSignals$Cards" 18 0 2 := ⟨gN0, gF0, 4, rfl, uw_0, by decide, w_67⟩
theorem w_69 : Cond.fieldLink "DropSignals$Cards" 30 "DropSignals$Cards" "laid" "I" ∈ gWs := gWs_in (i := 69) (by decide +kernel) rfl
theorem fl_Cards_30 : gFl "DropSignals$Cards" 30 0 3 := ⟨gN0, gF0, 4, rfl, uw_0, by decide, w_69⟩
theorem fp_Cards_30 : gFp "DropSignals$Cards" 30 0 3 .int := ⟨gN0, gF0, 4, rfl, uw_0, by decide, w_69, ⟨gX0, gY0⟩, gD0, rfl, by decide +kernel⟩
noncomputable def f_Cards_clear (e : Nat) (M : gMem) : Option gMem :=
  (f_JA_fill e 5 32 M (-1)).bind fun q1 =>
  (f_JA_fill e 6 32 q1 (-1)).bind fun q2 =>
  (f_JA_fill e 7 32 q2 (-1)).bind fun q3 =>
  (gSO q3 e 1 3 0).bind fun M4 =>
  some M4
theorem t_Cards_clear {l : Launch} {ε : gEnv} (e : Nat) (hC : gCd ε e) (M : gMem) (r : gMem) (h : f_Cards_clear e M = some r) : gGo l ε k_Cards_clear (gR 1 23) (gFn ε none r) 0 [(0, .ref (ε.2.2.1 e 1))] [] M := by
  unfold f_Cards_clear at h
  refine g_aload_n d_Cards_clear_0 rfl 0 rfl ?_
  refine g_getR d_Cards_clear_1 fl_Cards_9 (gCd_h1 hC) rfl ?_
  refine g_iconst (v := -1) d_Cards_clear_4 (by decide) ?_
  obtain ⟨q1, hq1, h⟩ := gOb h
  refine g_callS_v (As := [.ref (ε.2.2.1 e 5), .int (-1)]) (rest := []) (ct_JA_fill e 5 32 (gCd_h5 hC) M (-1) _ hq1) d_Cards_clear_5 ca_JA_fill w_62 rfl rfl (Nat.le_of_ble_eq_true rfl) ⟨(Nat.le_of_ble_eq_true rfl), (Nat.le_of_ble_eq_true rfl)⟩ ?_
  refine g_aload_n d_Cards_clear_8 rfl 0 rfl ?_
  refine g_getR d_Cards_clear_9 fl_Cards_15 (gCd_h1 hC) rfl ?_
  refine g_iconst (v := -1) d_Cards_clear_12 (by decide) ?_
  obtain ⟨q2, hq2, h⟩ := gOb h
  refine g_callS_v (As := [.ref (ε.2.2.1 e 6), .int (-1)]) (rest := []) (ct_JA_fill e 6 32 (gCd_h6 hC) q1 (-1) _ hq2) d_Cards_clear_13 ca_JA_fill w_62 rfl rfl (Nat.le_of_ble_eq_true rfl) ⟨(Nat.le_of_ble_eq_true rfl), (Nat.le_of_ble_eq_true rfl)⟩ ?_
  refine g_aload_n d_Cards_clear_16 rfl 0 rfl ?_
  refine g_getR d_Cards_clear_17 fl_Cards_18 (gCd_h1 hC) rfl ?_
  refine g_iconst (v := -1) d_Cards_clear_20 (by decide) ?_
  obtain ⟨q3, hq3, h⟩ := gOb h
  refine g_callS_v (As := [.ref (ε.2.2.1 e 7), .int (-1)]) (rest := []) (ct_JA_fill e 7 32 (gCd_h7 hC) q2 (-1) _ hq3) d_Cards_clear_21 ca_JA_fill w_62 rfl rfl (Nat.le_of_ble_eq_true rfl) ⟨(Nat.le_of_ble_eq_true rfl), (Nat.le_of_ble_eq_true rfl)⟩ ?_
  refine g_aload_n d_Cards_clear_24 rfl 0 rfl ?_
  refine g_iconst (v := 0) d_Cards_clear_25 (by decide) ?_
  obtain ⟨M4, hM4, h⟩ := gOb h
  refine g_putO d_Cards_clear_26 fp_Cards_30 (gCd_h1 hC) rfl hM4 ?_
  obtain rfl := Option.some.inj h
  exact g_vret d_Cards_clear_29 rfl
theorem ct_Cards_clear {l : Launch} {ε : gEnv} (e : Nat) (hC : gCd ε e) (M : gMem) (r : gMem) (h : f_Cards_clear e M = some r) : gCt l ε k_Cards_clear 1 23 [.ref (ε.2.2.1 e 1)] M none r :=
  gCt_of (by decide) (Nat.le_of_ble_eq_true rfl) rfl (t_Cards_clear e hC M r h)
abbrev k_DS_copyRow : gMD := (⟨"DropSignals", "copyRow", "([I[I)V"⟩, prog_1_method_31_code, 2, none)
theorem w_20 : Cond.initialized "DropSignals" ∈ gWs := gWs_in (i := 20) (by decide +kernel) rfl
theorem w_709 : Cond.static ⟨"DropSignals", "copyRow", "([I[I)V"⟩ ∈ gWs := gWs_in (i := 709) (by decide +kernel) rfl
set_option maxRecDepth 100000 in
theorem ca_DS_copyRow : gCaS k_DS_copyRow 2 := ⟨⟨gWs_in (i := 710) rfl rfl, w_20, by decide, by decide, by decide +kernel⟩, w_709⟩
theorem d_DS_copyRow_0 : decode prog_1_method_31_code 0 = .ok (.aload_n 0, 1) := by decide +kernel
theorem d_DS_copyRow_1 : decode prog_1_method_31_code 1 = .ok (.iconst 0, 1) := by decide +kernel
theorem d_DS_copyRow_2 : decode prog_1_method_31_code 2 = .ok (.aload_n 1, 1) := by decide +kernel
theorem d_DS_copyRow_3 : decode prog_1_method_31_code 3 = .ok (.iconst 0, 1) := by decide +kernel
theorem d_DS_copyRow_4 : decode prog_1_method_31_code 4 = .ok (.aload_n 0, 1) := by decide +kernel
theorem d_DS_copyRow_5 : decode prog_1_method_31_code 5 = .ok (.arraylength, 1) := by decide +kernel
theorem d_DS_copyRow_6 : decode prog_1_method_31_code 6 = .ok (.aload_n 1, 1) := by decide +kernel
theorem d_DS_copyRow_7 : decode prog_1_method_31_code 7 = .ok (.arraylength, 1) := by decide +kernel
theorem d_DS_copyRow_8 : decode prog_1_method_31_code 8 = .ok (.invokestatic 289, 3) := by decide +kernel
theorem d_DS_copyRow_11 : decode prog_1_method_31_code 11 = .ok (.invokestatic 294, 3) := by decide +kernel
theorem d_DS_copyRow_14 : decode prog_1_method_31_code 14 = .ok (.return_, 1) := by decide +kernel
theorem w_711 : Cond.methodLink "DropSignals" 289 Lib.Math.min.name ∈ gWs := gWs_in (i := 711) (by decide +kernel) rfl
theorem w_712 : Cond.static Lib.Math.min.name ∈ gWs := gWs_in (i := 712) (by decide +kernel) rfl
theorem w_36 : Cond.initialized "java/lang/Math" ∈ gWs := gWs_in (i := 36) (by decide +kernel) rfl
theorem w_713 : Cond.code Lib.Math.min.name Lib.Math.min.code 2 (some .int) ∈ gWs := gWs_in (i := 713) (by decide +kernel) rfl
theorem w_714 : Cond.methodLink "DropSignals" 294 arraycopyName ∈ gWs := gWs_in (i := 714) (by decide +kernel) rfl
theorem w_716 : Cond.native arraycopyName ∈ gWs := gWs_in (i := 716) (by decide +kernel) rfl
theorem w_715 : Cond.static arraycopyName ∈ gWs := gWs_in (i := 715) (by decide +kernel) rfl
theorem w_37 : Cond.initialized "java/lang/System" ∈ gWs := gWs_in (i := 37) (by decide +kernel) rfl
noncomputable def f_DS_copyRow (g0 : Nat) (c0 : Nat) (n0 : Nat) (g1 : Nat) (c1 : Nat) (n1 : Nat) (M : gMem) : Option gMem :=
  (gCp M g0 c0 n0 g1 c1 n1 0 0 (if (Int32.ofNat n1) < (Int32.ofNat n0) then (Int32.ofNat n1) else (Int32.ofNat n0))).bind fun M1 =>
  some M1
theorem t_DS_copyRow {l : Launch} {ε : gEnv} (g0 : Nat) (c0 : Nat) (n0 : Nat) (g1 : Nat) (c1 : Nat) (n1 : Nat) (h0 : gHas ε g0 c0 (0, n0, [])) (h1 : gHas ε g1 c1 (0, n1, [])) (M : gMem) (r : gMem) (h : f_DS_copyRow g0 c0 n0 g1 c1 n1 M = some r) : gGo l ε k_DS_copyRow (gR 1 30) (gFn ε none r) 0 [(0, .ref (ε.2.2.1 g0 c0)), (1, .ref (ε.2.2.1 g1 c1))] [] M := by
  unfold f_DS_copyRow at h
  refine g_aload_n d_DS_copyRow_0 rfl 0 rfl ?_
  refine g_iconst (v := 0) d_DS_copyRow_1 (by decide) ?_
  refine g_aload_n d_DS_copyRow_2 rfl 1 rfl ?_
  refine g_iconst (v := 0) d_DS_copyRow_3 (by decide) ?_
  refine g_aload_n d_DS_copyRow_4 rfl 0 rfl ?_
  refine g_alen d_DS_copyRow_5 h0 ?_
  refine g_aload_n d_DS_copyRow_6 rfl 1 rfl ?_
  refine g_alen d_DS_copyRow_7 h1 ?_
  refine g_min d_DS_copyRow_8 w_711 w_712 w_36 w_713 (Nat.le_of_ble_eq_true rfl) (Nat.le_of_ble_eq_true rfl) ?_
  obtain ⟨M1, hM1, h⟩ := gOb h
  refine g_copy d_DS_copyRow_11 w_714 w_716 w_715 w_37 h0 h1 (Nat.le_of_ble_eq_true rfl) (Nat.le_of_ble_eq_true rfl) hM1 ?_
  obtain rfl := Option.some.inj h
  exact g_vret d_DS_copyRow_14 rfl
theorem ct_DS_copyRow {l : Launch} {ε : gEnv} (g0 : Nat) (c0 : Nat) (n0 : Nat) (g1 : Nat) (c1 : Nat) (n1 : Nat) (h0 : gHas ε g0 c0 (0, n0, [])) (h1 : gHas ε g1 c1 (0, n1, [])) (M : gMem) (r : gMem) (h : f_DS_copyRow g0 c0 n0 g1 c1 n1 M = some r) : gCt l ε k_DS_copyRow 1 30 [.ref (ε.2.2.1 g0 c0), .ref (ε.2.2.1 g1 c1)] M none r :=
  gCt_of (by decide) (Nat.le_of_ble_eq_true rfl) rfl (t_DS_copyRow g0 c0 n0 g1 c1 n1 h0 h1 M r h)
abbrev k_Cards_copyFrom : gMD := (⟨"DropSignals$Cards", "copyFrom", "(LDropSignals$Cards;)V"⟩, prog_2_method_3_code, 2, none)
theorem w_705 : Cond.instanceMethod ⟨"DropSignals$Cards", "copyFrom", "(LDropSignals$Cards;)V"⟩ ∈ gWs := gWs_in (i := 705) (by decide +kernel) rfl
theorem w_706 : Cond.selects "DropSignals$Cards" ⟨"DropSignals$Cards", "copyFrom", "(LDropSignals$Cards;)V"⟩ ⟨"DropSignals$Cards", "copyFrom", "(LDropSignals$Cards;)V"⟩ ∈ gWs := gWs_in (i := 706) (by decide +kernel) rfl
set_option maxRecDepth 100000 in
theorem ca_Cards_copyFrom : gCaV k_Cards_copyFrom 1 := ⟨⟨gWs_in (i := 707) rfl rfl, w_22, by decide, by decide, by decide +kernel⟩, w_705, w_706⟩
theorem d_Cards_copyFrom_0 : decode prog_2_method_3_code 0 = .ok (.aload_n 1, 1) := by decide +kernel
theorem d_Cards_copyFrom_1 : decode prog_2_method_3_code 1 = .ok (.getfield 9, 3) := by decide +kernel
theorem d_Cards_copyFrom_4 : decode prog_2_method_3_code 4 = .ok (.aload_n 0, 1) := by decide +kernel
theorem d_Cards_copyFrom_5 : decode prog_2_method_3_code 5 = .ok (.getfield 9, 3) := by decide +kernel
theorem d_Cards_copyFrom_8 : decode prog_2_method_3_code 8 = .ok (.invokestatic 34, 3) := by decide +kernel
theorem d_Cards_copyFrom_11 : decode prog_2_method_3_code 11 = .ok (.aload_n 1, 1) := by decide +kernel
theorem d_Cards_copyFrom_12 : decode prog_2_method_3_code 12 = .ok (.getfield 15, 3) := by decide +kernel
theorem d_Cards_copyFrom_15 : decode prog_2_method_3_code 15 = .ok (.aload_n 0, 1) := by decide +kernel
theorem d_Cards_copyFrom_16 : decode prog_2_method_3_code 16 = .ok (.getfield 15, 3) := by decide +kernel
theorem d_Cards_copyFrom_19 : decode prog_2_method_3_code 19 = .ok (.invokestatic 34, 3) := by decide +kernel
theorem d_Cards_copyFrom_22 : decode prog_2_method_3_code 22 = .ok (.aload_n 1, 1) := by decide +kernel
theorem d_Cards_copyFrom_23 : decode prog_2_method_3_code 23 = .ok (.getfield 18, 3) := by decide +kernel
theorem d_Cards_copyFrom_26 : decode prog_2_method_3_code 26 = .ok (.aload_n 0, 1) := by decide +kernel
theorem d_Cards_copyFrom_27 : decode prog_2_method_3_code 27 = .ok (.getfield 18, 3) := by decide +kernel
theorem d_Cards_copyFrom_30 : decode prog_2_method_3_code 30 = .ok (.invokestatic 34, 3) := by decide +kernel
theorem d_Cards_copyFrom_33 : decode prog_2_method_3_code 33 = .ok (.aload_n 0, 1) := by decide +kernel
theorem d_Cards_copyFrom_34 : decode prog_2_method_3_code 34 = .ok (.aload_n 1, 1) := by decide +kernel
theorem d_Cards_copyFrom_35 : decode prog_2_method_3_code 35 = .ok (.getfield 30, 3) := by decide +kernel
theorem d_Cards_copyFrom_38 : decode prog_2_method_3_code 38 = .ok (.putfield 30, 3) := by decide +kernel
theorem d_Cards_copyFrom_41 : decode prog_2_method_3_code 41 = .ok (.return_, 1) := by decide +kernel
noncomputable def f_Cards_copyFrom (e : Nat) (e0 : Nat) (M : gMem) : Option gMem :=
  (f_DS_copyRow e0 5 32 e 5 32 M).bind fun q1 =>
  (f_DS_copyRow e0 6 32 e 6 32 q1).bind fun q2 =>
  (f_DS_copyRow e0 7 32 e 7 32 q2).bind fun q3 =>
  (gSO q3 e 1 3 (q3 e0 1 3)).bind fun M4 =>
  some M4
theorem t_Cards_copyFrom {l : Launch} {ε : gEnv} (e : Nat) (e0 : Nat) (hC : gCd ε e) (hC0 : gCd ε e0) (M : gMem) (r : gMem) (h : f_Cards_copyFrom e e0 M = some r) : gGo l ε k_Cards_copyFrom (gR 2 51) (gFn ε none r) 0 [(0, .ref (ε.2.2.1 e 1)), (1, .ref (ε.2.2.1 e0 1))] [] M := by
  unfold f_Cards_copyFrom at h
  refine g_aload_n d_Cards_copyFrom_0 rfl 1 rfl ?_
  refine g_getR d_Cards_copyFrom_1 fl_Cards_9 (gCd_h1 hC0) rfl ?_
  refine g_aload_n d_Cards_copyFrom_4 rfl 0 rfl ?_
  refine g_getR d_Cards_copyFrom_5 fl_Cards_9 (gCd_h1 hC) rfl ?_
  obtain ⟨q1, hq1, h⟩ := gOb h
  refine g_callN_v (As := [.ref (ε.2.2.1 e0 5), .ref (ε.2.2.1 e 5)]) (rest := []) (j := 708) (host := "DropSignals") (ct_DS_copyRow e0 5 32 e 5 32 (gCd_h5 hC0) (gCd_h5 hC) M _ hq1) d_Cards_copyFrom_8 ca_DS_copyRow (by decide +kernel) rfl rfl (Nat.le_of_ble_eq_true rfl) ⟨(Nat.le_of_ble_eq_true rfl), (Nat.le_of_ble_eq_true rfl)⟩ ?_
  refine g_aload_n d_Cards_copyFrom_11 rfl 1 rfl ?_
  refine g_getR d_Cards_copyFrom_12 fl_Cards_15 (gCd_h1 hC0) rfl ?_
  refine g_aload_n d_Cards_copyFrom_15 rfl 0 rfl ?_
  refine g_getR d_Cards_copyFrom_16 fl_Cards_15 (gCd_h1 hC) rfl ?_
  obtain ⟨q2, hq2, h⟩ := gOb h
  refine g_callN_v (As := [.ref (ε.2.2.1 e0 6), .ref (ε.2.2.1 e 6)]) (rest := []) (j := 708) (host := "DropSignals") (ct_DS_copyRow e0 6 32 e 6 32 (gCd_h6 hC0) (gCd_h6 hC) q1 _ hq2) d_Cards_copyFrom_19 ca_DS_copyRow (by decide +kernel) rfl rfl (Nat.le_of_ble_eq_true rfl) ⟨(Nat.le_of_ble_eq_true rfl), (Nat.le_of_ble_eq_true rfl)⟩ ?_
  refine g_aload_n d_Cards_copyFrom_22 rfl 1 rfl ?_
  refine g_getR d_Cards_copyFrom_23 fl_Cards_18 (gCd_h1 hC0) rfl ?_
  refine g_aload_n d_Cards_copyFrom_26 rfl 0 rfl ?_
  refine g_getR d_Cards_copyFrom_27 fl_Cards_18 (gCd_h1 hC) rfl ?_
  obtain ⟨q3, hq3, h⟩ := gOb h
  refine g_callN_v (As := [.ref (ε.2.2.1 e0 7), .ref (ε.2.2.1 e 7)]) (rest := []) (j := 708) (host := "DropSignals") (ct_DS_copyRow e0 7 32 e 7 32 (gCd_h7 hC0) (gCd_h7 hC) q2 _ hq3) d_Cards_copyFrom_30 ca_DS_copyRow (by decide +kernel) rfl rfl (Nat.le_of_ble_eq_true rfl) ⟨(Nat.le_of_ble_eq_true rfl), (Nat.le_of_ble_eq_true rfl)⟩ ?_
  refine g_aload_n d_Cards_copyFrom_33 rfl 0 rfl ?_
  refine g_aload_n d_Cards_copyFrom_34 rfl 1 rfl ?_
  refine g_getI d_Cards_copyFrom_35 fl_Cards_30 (gCd_h1 hC0) rfl ?_
  obtain ⟨M4, hM4, h⟩ := gOb h
  refine g_putO d_Cards_copyFrom_38 fp_Cards_30 (gCd_h1 hC) rfl hM4 ?_
  obtain rfl := Option.some.inj h
  exact g_vret d_Cards_copyFrom_41 rfl
theorem ct_Cards_copyFrom {l : Launch} {ε : gEnv} (e : Nat) (e0 : Nat) (hC : gCd ε e) (hC0 : gCd ε e0) (M : gMem) (r : gMem) (h : f_Cards_copyFrom e e0 M = some r) : gCt l ε k_Cards_copyFrom 2 51 [.ref (ε.2.2.1 e 1), .ref (ε.2.2.1 e0 1)] M none r :=
  gCt_of (by decide) (Nat.le_of_ble_eq_true rfl) rfl (t_Cards_copyFrom e e0 hC hC0 M r h)
abbrev k_DS_put : gMD := (⟨"DropSignals", "put", "([III)V"⟩, prog_1_method_29_code, 3, none)
theorem w_386 : Cond.static ⟨"DropSignals", "put", "([III)V"⟩ ∈ gWs := gWs_in (i := 386) (by decide +kernel) rfl
set_option maxRecDepth 100000 in
theorem ca_DS_put : gCaS k_DS_put 3 := ⟨⟨gWs_in (i := 387) rfl rfl, w_20, by decide, by decide, by decide +kernel⟩, w_386⟩
theorem d_DS_put_0 : decode prog_1_method_29_code 0 = .ok (.iload_n 1, 1) := by decide +kernel
theorem d_DS_put_1 : decode prog_1_method_29_code 1 = .ok (.ifCond .lt 13, 3) := by decide +kernel
theorem d_DS_put_4 : decode prog_1_method_29_code 4 = .ok (.iload_n 1, 1) := by decide +kernel
theorem d_DS_put_5 : decode prog_1_method_29_code 5 = .ok (.aload_n 0, 1) := by decide +kernel
theorem d_DS_put_6 : decode prog_1_method_29_code 6 = .ok (.arraylength, 1) := by decide +kernel
theorem d_DS_put_7 : decode prog_1_method_29_code 7 = .ok (.if_icmp .ge 7, 3) := by decide +kernel
theorem d_DS_put_10 : decode prog_1_method_29_code 10 = .ok (.aload_n 0, 1) := by decide +kernel
theorem d_DS_put_11 : decode prog_1_method_29_code 11 = .ok (.iload_n 1, 1) := by decide +kernel
theorem d_DS_put_12 : decode prog_1_method_29_code 12 = .ok (.iload_n 2, 1) := by decide +kernel
theorem d_DS_put_13 : decode prog_1_method_29_code 13 = .ok (.iastore, 1) := by decide +kernel
theorem d_DS_put_14 : decode prog_1_method_29_code 14 = .ok (.return_, 1) := by decide +kernel
noncomputable def f_DS_put (g0 : Nat) (c0 : Nat) (n0 : Nat) (M : gMem) (a1 : Int32) (a2 : Int32) : Option gMem :=
  if a1 < 0 then
    some M
  else
    if (Int32.ofNat n0) ≤ a1 then
      some M
    else
      (gWr M g0 c0 n0 a1 a2).bind fun M1 =>
      some M1
theorem t_DS_put {l : Launch} {ε : gEnv} (g0 : Nat) (c0 : Nat) (n0 : Nat) (h0 : gHas ε g0 c0 (0, n0, [])) (M : gMem) (a1 : Int32) (a2 : Int32) (r : gMem) (h : f_DS_put g0 c0 n0 M a1 a2 = some r) : gGo l ε k_DS_put (gR 0 0) (gFn ε none r) 0 [(0, .ref (ε.2.2.1 g0 c0)), (1, .int a1), (2, .int a2)] [] M := by
  unfold f_DS_put at h
  refine g_iload_n d_DS_put_0 rfl 1 rfl ?_
  refine g_if_lt (tgt := 14) d_DS_put_1 (by decide) (fun c3 => ?_) (fun c3 => ?_)
  · rw [if_pos c3] at h
    obtain rfl := Option.some.inj h
    exact g_vret d_DS_put_14 rfl
  · rw [if_neg c3] at h
    refine g_iload_n d_DS_put_4 rfl 1 rfl ?_
    refine g_aload_n d_DS_put_5 rfl 0 rfl ?_
    refine g_alen d_DS_put_6 h0 ?_
    refine g_icmp_ge (tgt := 14) d_DS_put_7 (by decide) (fun c2 => ?_) (fun c2 => ?_)
    · rw [if_pos c2] at h
      obtain rfl := Option.some.inj h
      exact g_vret d_DS_put_14 rfl
    · rw [if_neg c2] at h
      refine g_aload_n d_DS_put_10 rfl 0 rfl ?_
      refine g_iload_n d_DS_put_11 rfl 1 rfl ?_
      refine g_iload_n d_DS_put_12 rfl 2 rfl ?_
      obtain ⟨M1, hM1, h⟩ := gOb h
      refine g_iastore d_DS_put_13 h0 hM1 ?_
      obtain rfl := Option.some.inj h
      exact g_vret d_DS_put_14 rfl
theorem ct_DS_put {l : Launch} {ε : gEnv} (g0 : Nat) (c0 : Nat) (n0 : Nat) (h0 : gHas ε g0 c0 (0, n0, [])) (M : gMem) (a1 : Int32) (a2 : Int32) (r : gMem) (h : f_DS_put g0 c0 n0 M a1 a2 = some r) : gCt l ε k_DS_put 0 0 [.ref (ε.2.2.1 g0 c0), .int a1, .int a2] M none r :=
  gCt_of (by decide) (Nat.le_of_ble_eq_true rfl) rfl (t_DS_put g0 c0 n0 h0 M a1 a2 r h)
abbrev k_DS_following : gMD := (⟨"DropSignals", "following", "(J)J"⟩, prog_1_method_32_code, 2, (some .long))
theorem w_443 : Cond.static ⟨"DropSignals", "following", "(J)J"⟩ ∈ gWs := gWs_in (i := 443) (by decide +kernel) rfl
set_option maxRecDepth 100000 in
theorem ca_DS_following : gCaS k_DS_following 1 := ⟨⟨gWs_in (i := 444) rfl rfl, w_20, by decide, by decide, by decide +kernel⟩, w_443⟩
theorem d_DS_following_0 : decode prog_1_method_32_code 0 = .ok (.lload_n 0, 1) := by decide +kernel
theorem d_DS_following_1 : decode prog_1_method_32_code 1 = .ok (.ldc2_w 300, 3) := by decide +kernel
theorem d_DS_following_4 : decode prog_1_method_32_code 4 = .ok (.lmul, 1) := by decide +kernel
theorem d_DS_following_5 : decode prog_1_method_32_code 5 = .ok (.ldc2_w 302, 3) := by decide +kernel
theorem d_DS_following_8 : decode prog_1_method_32_code 8 = .ok (.ladd, 1) := by decide +kernel
theorem d_DS_following_9 : decode prog_1_method_32_code 9 = .ok (.lreturn, 1) := by decide +kernel
theorem w_445 : Cond.constantLong "DropSignals" 300 (6364136223846793005) ∈ gWs := gWs_in (i := 445) (by decide +kernel) rfl
theorem w_446 : Cond.constantLong "DropSignals" 302 (1442695040888963407) ∈ gWs := gWs_in (i := 446) (by decide +kernel) rfl
noncomputable def f_DS_following (a0 : Int64) : Option Int64 :=
  some ((a0 * (6364136223846793005)) + (1442695040888963407))
theorem t_DS_following {l : Launch} {ε : gEnv} (M : gMem) (a0 : Int64) (r : Int64) (h : f_DS_following a0 = some r) : gGo l ε k_DS_following (gR 0 0) (gFn ε (some (.long r)) M) 0 [(0, .long a0)] [] M := by
  unfold f_DS_following at h
  refine g_lload_n d_DS_following_0 rfl 0 rfl ?_
  refine g_ldc2 d_DS_following_1 w_445 ?_
  refine g_lmul d_DS_following_4 ?_
  refine g_ldc2 d_DS_following_5 w_446 ?_
  refine g_ladd d_DS_following_8 ?_
  obtain rfl := Option.some.inj h
  exact g_lret d_DS_following_9 rfl
theorem ct_DS_following {l : Launch} {ε : gEnv} (M : gMem) (a0 : Int64) (r : Int64) (h : f_DS_following a0 = some r) : gCt l ε k_DS_following 0 0 [.long a0] M (some (.long r)) M :=
  gCt_of (by decide) (Nat.le_of_ble_eq_true rfl) rfl (t_DS_following M a0 r h)
abbrev k_DS_upperBits : gMD := (⟨"DropSignals", "upperBits", "(J)I"⟩, prog_1_method_33_code, 2, (some .int))
theorem w_448 : Cond.static ⟨"DropSignals", "upperBits", "(J)I"⟩ ∈ gWs := gWs_in (i := 448) (by decide +kernel) rfl
set_option maxRecDepth 100000 in
theorem ca_DS_upperBits : gCaS k_DS_upperBits 1 := ⟨⟨gWs_in (i := 449) rfl rfl, w_20, by decide, by decide, by decide +kernel⟩, w_448⟩
theorem d_DS_upperBits_0 : decode prog_1_method_33_code 0 = .ok (.lload_n 0, 1) := by decide +kernel
theorem d_DS_upperBits_1 : decode prog_1_method_33_code 1 = .ok (.bipush 33, 2) := by decide +kernel
theorem d_DS_upperBits_3 : decode prog_1_method_33_code 3 = .ok (.lushr, 1) := by decide +kernel
theorem d_DS_upperBits_4 : decode prog_1_method_33_code 4 = .ok (.l2i, 1) := by decide +kernel
theorem d_DS_upperBits_5 : decode prog_1_method_33_code 5 = .ok (.ireturn, 1) := by decide +kernel
noncomputable def f_DS_upperBits (a0 : Int64) : Option Int32 :=
  some (Int64.toInt32 (gUsh a0 33))
theorem t_DS_upperBits {l : Launch} {ε : gEnv} (M : gMem) (a0 : Int64) (r : Int32) (h : f_DS_upperBits a0 = some r) : gGo l ε k_DS_upperBits (gR 0 0) (gFn ε (some (.int r)) M) 0 [(0, .long a0)] [] M := by
  unfold f_DS_upperBits at h
  refine g_lload_n d_DS_upperBits_0 rfl 0 rfl ?_
  refine g_bipush (v := 33) d_DS_upperBits_1 (by decide) ?_
  refine g_ush d_DS_upperBits_3 ?_
  refine g_l2i d_DS_upperBits_4 ?_
  obtain rfl := Option.some.inj h
  exact g_iret d_DS_upperBits_5 rfl
theorem ct_DS_upperBits {l : Launch} {ε : gEnv} (M : gMem) (a0 : Int64) (r : Int32) (h : f_DS_upperBits a0 = some r) : gCt l ε k_DS_upperBits 0 0 [.long a0] M (some (.int r)) M :=
  gCt_of (by decide) (Nat.le_of_ble_eq_true rfl) rfl (t_DS_upperBits M a0 r h)
abbrev k_DS_at : gMD := (⟨"DropSignals", "at", "([II)I"⟩, prog_1_method_28_code, 2, (some .int))
theorem w_402 : Cond.static ⟨"DropSignals", "at", "([II)I"⟩ ∈ gWs := gWs_in (i := 402) (by decide +kernel) rfl
set_option maxRecDepth 100000 in
theorem ca_DS_at : gCaS k_DS_at 2 := ⟨⟨gWs_in (i := 403) rfl rfl, w_20, by decide, by decide, by decide +kernel⟩, w_402⟩
theorem d_DS_at_0 : decode prog_1_method_28_code 0 = .ok (.iload_n 1, 1) := by decide +kernel
theorem d_DS_at_1 : decode prog_1_method_28_code 1 = .ok (.ifCond .lt 15, 3) := by decide +kernel
theorem d_DS_at_4 : decode prog_1_method_28_code 4 = .ok (.iload_n 1, 1) := by decide +kernel
theorem d_DS_at_5 : decode prog_1_method_28_code 5 = .ok (.aload_n 0, 1) := by decide +kernel
theorem d_DS_at_6 : decode prog_1_method_28_code 6 = .ok (.arraylength, 1) := by decide +kernel
theorem d_DS_at_7 : decode prog_1_method_28_code 7 = .ok (.if_icmp .ge 9, 3) := by decide +kernel
theorem d_DS_at_10 : decode prog_1_method_28_code 10 = .ok (.aload_n 0, 1) := by decide +kernel
theorem d_DS_at_11 : decode prog_1_method_28_code 11 = .ok (.iload_n 1, 1) := by decide +kernel
theorem d_DS_at_12 : decode prog_1_method_28_code 12 = .ok (.iaload, 1) := by decide +kernel
theorem d_DS_at_13 : decode prog_1_method_28_code 13 = .ok (.goto 4, 3) := by decide +kernel
theorem d_DS_at_16 : decode prog_1_method_28_code 16 = .ok (.iconst (-1), 1) := by decide +kernel
theorem d_DS_at_17 : decode prog_1_method_28_code 17 = .ok (.ireturn, 1) := by decide +kernel
noncomputable def f_DS_at (g0 : Nat) (c0 : Nat) (n0 : Nat) (M : gMem) (a1 : Int32) : Option Int32 :=
  if a1 < 0 then
    some (-1)
  else
    if (Int32.ofNat n0) ≤ a1 then
      some (-1)
    else
      (gRd n0 (M g0 c0) a1).bind fun v1 =>
      some v1
theorem t_DS_at {l : Launch} {ε : gEnv} (g0 : Nat) (c0 : Nat) (n0 : Nat) (h0 : gHas ε g0 c0 (0, n0, [])) (M : gMem) (a1 : Int32) (r : Int32) (h : f_DS_at g0 c0 n0 M a1 = some r) : gGo l ε k_DS_at (gR 0 0) (gFn ε (some (.int r)) M) 0 [(0, .ref (ε.2.2.1 g0 c0)), (1, .int a1)] [] M := by
  unfold f_DS_at at h
  refine g_iload_n d_DS_at_0 rfl 1 rfl ?_
  refine g_if_lt (tgt := 16) d_DS_at_1 (by decide) (fun c3 => ?_) (fun c3 => ?_)
  · rw [if_pos c3] at h
    refine g_iconst (v := -1) d_DS_at_16 (by decide) ?_
    obtain rfl := Option.some.inj h
    exact g_iret d_DS_at_17 rfl
  · rw [if_neg c3] at h
    refine g_iload_n d_DS_at_4 rfl 1 rfl ?_
    refine g_aload_n d_DS_at_5 rfl 0 rfl ?_
    refine g_alen d_DS_at_6 h0 ?_
    refine g_icmp_ge (tgt := 16) d_DS_at_7 (by decide) (fun c2 => ?_) (fun c2 => ?_)
    · rw [if_pos c2] at h
      refine g_iconst (v := -1) d_DS_at_16 (by decide) ?_
      obtain rfl := Option.some.inj h
      exact g_iret d_DS_at_17 rfl
    · rw [if_neg c2] at h
      refine g_aload_n d_DS_at_10 rfl 0 rfl ?_
      refine g_iload_n d_DS_at_11 rfl 1 rfl ?_
      obtain ⟨v1, hv1, h⟩ := gOb h
      refine g_iaload d_DS_at_12 h0 hv1 ?_
      refine g_goto (tgt := 17) d_DS_at_13 (by decide) ?_
      obtain rfl := Option.some.inj h
      exact g_iret d_DS_at_17 rfl
theorem ct_DS_at {l : Launch} {ε : gEnv} (g0 : Nat) (c0 : Nat) (n0 : Nat) (h0 : gHas ε g0 c0 (0, n0, [])) (M : gMem) (a1 : Int32) (r : Int32) (h : f_DS_at g0 c0 n0 M a1 = some r) : gCt l ε k_DS_at 0 0 [.ref (ε.2.2.1 g0 c0), .int a1] M (some (.int r)) M :=
  gCt_of (by decide) (Nat.le_of_ble_eq_true rfl) rfl (t_DS_at g0 c0 n0 h0 M a1 r h)
abbrev k_Cards_shuffle : gMD := (⟨"DropSignals$Cards", "shuffle", "(J)V"⟩, prog_2_method_4_code, 8, none)
theorem w_438 : Cond.instanceMethod ⟨"DropSignals$Cards", "shuffle", "(J)V"⟩ ∈ gWs := gWs_in (i := 438) (by decide +kernel) rfl
theorem w_439 : Cond.selects "DropSignals$Cards" ⟨"DropSignals$Cards", "shuffle", "(J)V"⟩ ⟨"DropSignals$Cards", "shuffle", "(J)V"⟩ ∈ gWs := gWs_in (i := 439) (by decide +kernel) rfl
set_option maxRecDepth 100000 in
theorem ca_Cards_shuffle : gCaV k_Cards_shuffle 1 := ⟨⟨gWs_in (i := 440) rfl rfl, w_22, by decide, by decide, by decide +kernel⟩, w_438, w_439⟩
theorem d_Cards_shuffle_0 : decode prog_2_method_4_code 0 = .ok (.iconst 0, 1) := by decide +kernel
theorem d_Cards_shuffle_1 : decode prog_2_method_4_code 1 = .ok (.istore_n 3, 1) := by decide +kernel
theorem d_Cards_shuffle_2 : decode prog_2_method_4_code 2 = .ok (.iload_n 3, 1) := by decide +kernel
theorem d_Cards_shuffle_3 : decode prog_2_method_4_code 3 = .ok (.bipush 32, 2) := by decide +kernel
theorem d_Cards_shuffle_5 : decode prog_2_method_4_code 5 = .ok (.if_icmp .ge 18, 3) := by decide +kernel
theorem d_Cards_shuffle_8 : decode prog_2_method_4_code 8 = .ok (.aload_n 0, 1) := by decide +kernel
theorem d_Cards_shuffle_9 : decode prog_2_method_4_code 9 = .ok (.getfield 18, 3) := by decide +kernel
theorem d_Cards_shuffle_12 : decode prog_2_method_4_code 12 = .ok (.iload_n 3, 1) := by decide +kernel
theorem d_Cards_shuffle_13 : decode prog_2_method_4_code 13 = .ok (.iload_n 3, 1) := by decide +kernel
theorem d_Cards_shuffle_14 : decode prog_2_method_4_code 14 = .ok (.invokestatic 38, 3) := by decide +kernel
theorem d_Cards_shuffle_17 : decode prog_2_method_4_code 17 = .ok (.iinc 3 1, 3) := by decide +kernel
theorem d_Cards_shuffle_20 : decode prog_2_method_4_code 20 = .ok (.goto (-18), 3) := by decide +kernel
theorem d_Cards_shuffle_23 : decode prog_2_method_4_code 23 = .ok (.lload_n 1, 1) := by decide +kernel
theorem d_Cards_shuffle_24 : decode prog_2_method_4_code 24 = .ok (.lstore_n 3, 1) := by decide +kernel
theorem d_Cards_shuffle_25 : decode prog_2_method_4_code 25 = .ok (.bipush 31, 2) := by decide +kernel
theorem d_Cards_shuffle_27 : decode prog_2_method_4_code 27 = .ok (.istore 5, 2) := by decide +kernel
theorem d_Cards_shuffle_29 : decode prog_2_method_4_code 29 = .ok (.iload 5, 2) := by decide +kernel
theorem d_Cards_shuffle_31 : decode prog_2_method_4_code 31 = .ok (.ifCond .le 65, 3) := by decide +kernel
theorem d_Cards_shuffle_34 : decode prog_2_method_4_code 34 = .ok (.lload_n 3, 1) := by decide +kernel
theorem d_Cards_shuffle_35 : decode prog_2_method_4_code 35 = .ok (.invokestatic 42, 3) := by decide +kernel
theorem d_Cards_shuffle_38 : decode prog_2_method_4_code 38 = .ok (.lstore_n 3, 1) := by decide +kernel
theorem d_Cards_shuffle_39 : decode prog_2_method_4_code 39 = .ok (.lload_n 3, 1) := by decide +kernel
theorem d_Cards_shuffle_40 : decode prog_2_method_4_code 40 = .ok (.invokestatic 46, 3) := by decide +kernel
theorem d_Cards_shuffle_43 : decode prog_2_method_4_code 43 = .ok (.iload 5, 2) := by decide +kernel
theorem d_Cards_shuffle_45 : decode prog_2_method_4_code 45 = .ok (.iconst 1, 1) := by decide +kernel
theorem d_Cards_shuffle_46 : decode prog_2_method_4_code 46 = .ok (.iadd, 1) := by decide +kernel
theorem d_Cards_shuffle_47 : decode prog_2_method_4_code 47 = .ok (.irem, 1) := by decide +kernel
theorem d_Cards_shuffle_48 : decode prog_2_method_4_code 48 = .ok (.istore 6, 2) := by decide +kernel
theorem d_Cards_shuffle_50 : decode prog_2_method_4_code 50 = .ok (.aload_n 0, 1) := by decide +kernel
theorem d_Cards_shuffle_51 : decode prog_2_method_4_code 51 = .ok (.getfield 18, 3) := by decide +kernel
theorem d_Cards_shuffle_54 : decode prog_2_method_4_code 54 = .ok (.iload 5, 2) := by decide +kernel
theorem d_Cards_shuffle_56 : decode prog_2_method_4_code 56 = .ok (.invokestatic 50, 3) := by decide +kernel
theorem d_Cards_shuffle_59 : decode prog_2_method_4_code 59 = .ok (.istore 7, 2) := by decide +kernel
theorem d_Cards_shuffle_61 : decode prog_2_method_4_code 61 = .ok (.aload_n 0, 1) := by decide +kernel
theorem d_Cards_shuffle_62 : decode prog_2_method_4_code 62 = .ok (.getfield 18, 3) := by decide +kernel
theorem d_Cards_shuffle_65 : decode prog_2_method_4_code 65 = .ok (.iload 5, 2) := by decide +kernel
theorem d_Cards_shuffle_67 : decode prog_2_method_4_code 67 = .ok (.aload_n 0, 1) := by decide +kernel
theorem d_Cards_shuffle_68 : decode prog_2_method_4_code 68 = .ok (.getfield 18, 3) := by decide +kernel
theorem d_Cards_shuffle_71 : decode prog_2_method_4_code 71 = .ok (.iload 6, 2) := by decide +kernel
theorem d_Cards_shuffle_73 : decode prog_2_method_4_code 73 = .ok (.invokestatic 50, 3) := by decide +kernel
theorem d_Cards_shuffle_76 : decode prog_2_method_4_code 76 = .ok (.invokestatic 38, 3) := by decide +kernel
theorem d_Cards_shuffle_79 : decode prog_2_method_4_code 79 = .ok (.aload_n 0, 1) := by decide +kernel
theorem d_Cards_shuffle_80 : decode prog_2_method_4_code 80 = .ok (.getfield 18, 3) := by decide +kernel
theorem d_Cards_shuffle_83 : decode prog_2_method_4_code 83 = .ok (.iload 6, 2) := by decide +kernel
theorem d_Cards_shuffle_85 : decode prog_2_method_4_code 85 = .ok (.iload 7, 2) := by decide +kernel
theorem d_Cards_shuffle_87 : decode prog_2_method_4_code 87 = .ok (.invokestatic 38, 3) := by decide +kernel
theorem d_Cards_shuffle_90 : decode prog_2_method_4_code 90 = .ok (.iinc 5 (-1), 3) := by decide +kernel
theorem d_Cards_shuffle_93 : decode prog_2_method_4_code 93 = .ok (.goto (-64), 3) := by decide +kernel
theorem d_Cards_shuffle_96 : decode prog_2_method_4_code 96 = .ok (.iconst 0, 1) := by decide +kernel
theorem d_Cards_shuffle_97 : decode prog_2_method_4_code 97 = .ok (.istore 5, 2) := by decide +kernel
theorem d_Cards_shuffle_99 : decode prog_2_method_4_code 99 = .ok (.iload 5, 2) := by decide +kernel
theorem d_Cards_shuffle_101 : decode prog_2_method_4_code 101 = .ok (.bipush 32, 2) := by decide +kernel
theorem d_Cards_shuffle_103 : decode prog_2_method_4_code 103 = .ok (.if_icmp .ge 29, 3) := by decide +kernel
theorem d_Cards_shuffle_106 : decode prog_2_method_4_code 106 = .ok (.aload_n 0, 1) := by decide +kernel
theorem d_Cards_shuffle_107 : decode prog_2_method_4_code 107 = .ok (.getfield 9, 3) := by decide +kernel
theorem d_Cards_shuffle_110 : decode prog_2_method_4_code 110 = .ok (.aload_n 0, 1) := by decide +kernel
theorem d_Cards_shuffle_111 : decode prog_2_method_4_code 111 = .ok (.getfield 18, 3) := by decide +kernel
theorem d_Cards_shuffle_114 : decode prog_2_method_4_code 114 = .ok (.iload 5, 2) := by decide +kernel
theorem d_Cards_shuffle_116 : decode prog_2_method_4_code 116 = .ok (.invokestatic 50, 3) := by decide +kernel
theorem d_Cards_shuffle_119 : decode prog_2_method_4_code 119 = .ok (.iload 5, 2) := by decide +kernel
theorem d_Cards_shuffle_121 : decode prog_2_method_4_code 121 = .ok (.iconst 4, 1) := by decide +kernel
theorem d_Cards_shuffle_122 : decode prog_2_method_4_code 122 = .ok (.irem, 1) := by decide +kernel
theorem d_Cards_shuffle_123 : decode prog_2_method_4_code 123 = .ok (.invokestatic 38, 3) := by decide +kernel
theorem d_Cards_shuffle_126 : decode prog_2_method_4_code 126 = .ok (.iinc 5 1, 3) := by decide +kernel
theorem d_Cards_shuffle_129 : decode prog_2_method_4_code 129 = .ok (.goto (-30), 3) := by decide +kernel
theorem d_Cards_shuffle_132 : decode prog_2_method_4_code 132 = .ok (.aload_n 0, 1) := by decide +kernel
theorem d_Cards_shuffle_133 : decode prog_2_method_4_code 133 = .ok (.getfield 15, 3) := by decide +kernel
theorem d_Cards_shuffle_136 : decode prog_2_method_4_code 136 = .ok (.iconst (-1), 1) := by decide +kernel
theorem d_Cards_shuffle_137 : decode prog_2_method_4_code 137 = .ok (.invokestatic 24, 3) := by decide +kernel
theorem d_Cards_shuffle_140 : decode prog_2_method_4_code 140 = .ok (.aload_n 0, 1) := by decide +kernel
theorem d_Cards_shuffle_141 : decode prog_2_method_4_code 141 = .ok (.getfield 18, 3) := by decide +kernel
theorem d_Cards_shuffle_144 : decode prog_2_method_4_code 144 = .ok (.iconst (-1), 1) := by decide +kernel
theorem d_Cards_shuffle_145 : decode prog_2_method_4_code 145 = .ok (.invokestatic 24, 3) := by decide +kernel
theorem d_Cards_shuffle_148 : decode prog_2_method_4_code 148 = .ok (.aload_n 0, 1) := by decide +kernel
theorem d_Cards_shuffle_149 : decode prog_2_method_4_code 149 = .ok (.iconst 0, 1) := by decide +kernel
theorem d_Cards_shuffle_150 : decode prog_2_method_4_code 150 = .ok (.putfield 30, 3) := by decide +kernel
theorem d_Cards_shuffle_153 : decode prog_2_method_4_code 153 = .ok (.return_, 1) := by decide +kernel
noncomputable def f_Cards_shuffle_s99 (e : Nat) (M : gMem) (x5 : Int32) : Option ((Int32 × gMem) ⊕ gMem) :=
  if 32 ≤ x5 then
    (f_JA_fill e 6 32 M (-1)).bind fun q1 =>
    (f_JA_fill e 7 32 q1 (-1)).bind fun q2 =>
    (gSO q2 e 1 3 0).bind fun M3 =>
    some (.inr M3)
  else
    (f_DS_at e 7 32 M x5).bind fun q4 =>
    (f_DS_put e 5 32 M q4 (gRem x5 4)).bind fun q5 =>
    some (.inl ((x5 + 1), q5))
theorem t_Cards_shuffle_s99 {l : Launch} {ε : gEnv} (e : Nat) (hC : gCd ε e) (M : gMem) (x5 : Int32) (res : ((Int32 × gMem) ⊕ gMem)) (h : f_Cards_shuffle_s99 e M x5 = some res) (r : gMem) (k1 : ∀ s0 : (Int32 × gMem), res = .inl s0 → gGo l ε k_Cards_shuffle (gR 1 23) (gFn ε none r) 99 [(0, .ref (ε.2.2.1 e 1)), (5, .int s0.1)] [] s0.2) (k2 : ∀ r', res = .inr r' → r' = r) : gGo l ε k_Cards_shuffle (gR 1 23) (gFn ε none r) 99 [(0, .ref (ε.2.2.1 e 1)), (5, .int x5)] [] M := by
  unfold f_Cards_shuffle_s99 at h
  refine g_iload d_Cards_shuffle_99 1 rfl ?_
  refine g_bipush (v := 32) d_Cards_shuffle_101 (by decide) ?_
  refine g_icmp_ge (tgt := 132) d_Cards_shuffle_103 (by decide) (fun c6 => ?_) (fun c6 => ?_)
  · rw [if_pos c6] at h
    refine g_aload_n d_Cards_shuffle_132 rfl 0 rfl ?_
    refine g_getR d_Cards_shuffle_133 fl_Cards_15 (gCd_h1 hC) rfl ?_
    refine g_iconst (v := -1) d_Cards_shuffle_136 (by decide) ?_
    obtain ⟨q1, hq1, h⟩ := gOb h
    refine g_callS_v (As := [.ref (ε.2.2.1 e 6), .int (-1)]) (rest := []) (ct_JA_fill e 6 32 (gCd_h6 hC) M (-1) _ hq1) d_Cards_shuffle_137 ca_JA_fill w_62 rfl rfl (Nat.le_of_ble_eq_true rfl) ⟨(Nat.le_of_ble_eq_true rfl), (Nat.le_of_ble_eq_true rfl)⟩ ?_
    refine g_aload_n d_Cards_shuffle_140 rfl 0 rfl ?_
    refine g_getR d_Cards_shuffle_141 fl_Cards_18 (gCd_h1 hC) rfl ?_
    refine g_iconst (v := -1) d_Cards_shuffle_144 (by decide) ?_
    obtain ⟨q2, hq2, h⟩ := gOb h
    refine g_callS_v (As := [.ref (ε.2.2.1 e 7), .int (-1)]) (rest := []) (ct_JA_fill e 7 32 (gCd_h7 hC) q1 (-1) _ hq2) d_Cards_shuffle_145 ca_JA_fill w_62 rfl rfl (Nat.le_of_ble_eq_true rfl) ⟨(Nat.le_of_ble_eq_true rfl), (Nat.le_of_ble_eq_true rfl)⟩ ?_
    refine g_aload_n d_Cards_shuffle_148 rfl 0 rfl ?_
    refine g_iconst (v := 0) d_Cards_shuffle_149 (by decide) ?_
    obtain ⟨M3, hM3, h⟩ := gOb h
    refine g_putO d_Cards_shuffle_150 fp_Cards_30 (gCd_h1 hC) rfl hM3 ?_
    obtain rfl := Option.some.inj h
    have e9 := k2 _ rfl
    subst e9
    exact g_vret d_Cards_shuffle_153 rfl
  · rw [if_neg c6] at h
    refine g_aload_n d_Cards_shuffle_106 rfl 0 rfl ?_
    refine g_getR d_Cards_shuffle_107 fl_Cards_9 (gCd_h1 hC) rfl ?_
    refine g_aload_n d_Cards_shuffle_110 rfl 0 rfl ?_
    refine g_getR d_Cards_shuffle_111 fl_Cards_18 (gCd_h1 hC) rfl ?_
    refine g_iload d_Cards_shuffle_114 1 rfl ?_
    obtain ⟨q4, hq4, h⟩ := gOb h
    refine g_callN_i (As := [.ref (ε.2.2.1 e 7), .int x5]) (rest := [.ref (ε.2.2.1 e 5)]) (j := 450) (host := "DropSignals") (ct_DS_at e 7 32 (gCd_h7 hC) M x5 _ hq4) d_Cards_shuffle_116 ca_DS_at (by decide +kernel) rfl rfl (Nat.le_of_ble_eq_true rfl) ⟨(Nat.le_of_ble_eq_true rfl), (Nat.le_of_ble_eq_true rfl)⟩ ?_
    refine g_iload d_Cards_shuffle_119 1 rfl ?_
    refine g_iconst (v := 4) d_Cards_shuffle_121 (by decide) ?_
    refine g_rem d_Cards_shuffle_122 (by decide) ?_
    obtain ⟨q5, hq5, h⟩ := gOb h
    refine g_callN_v (As := [.ref (ε.2.2.1 e 5), .int q4, .int (gRem x5 4)]) (rest := []) (j := 441) (host := "DropSignals") (ct_DS_put e 5 32 (gCd_h5 hC) M q4 (gRem x5 4) _ hq5) d_Cards_shuffle_123 ca_DS_put (by decide +kernel) rfl rfl (Nat.le_of_ble_eq_true rfl) ⟨(Nat.le_of_ble_eq_true rfl), (Nat.le_of_ble_eq_true rfl)⟩ ?_
    refine g_iinc (v := (x5 + 1)) (L' := [(5, .int (x5 + 1)), (0, .ref (ε.2.2.1 e 1))]) d_Cards_shuffle_126 (j := 1) rfl rfl (by decide) rfl ?_
    refine g_goto (tgt := 99) d_Cards_shuffle_129 (by decide) ?_
    refine gGo_sub [1, 0] rfl ?_
    obtain rfl := Option.some.inj h
    exact k1 ((x5 + 1), q5) rfl
noncomputable def f_Cards_shuffle_l99 (e : Nat) (s : (Int32 × gMem)) : Option gMem := gLp (fun s => f_Cards_shuffle_s99 e s.2 s.1) s
theorem t_Cards_shuffle_l99 {l : Launch} {ε : gEnv} (e : Nat) (hC : gCd ε e) (s : (Int32 × gMem)) (r : gMem) (h : f_Cards_shuffle_l99 e s = some r) : gGo l ε k_Cards_shuffle (gR 1 23) (gFn ε none r) 99 [(0, .ref (ε.2.2.1 e 1)), (5, .int s.1)] [] s.2 :=
  g_loop _ (fun r s => gGo l ε k_Cards_shuffle (gR 1 23) (gFn ε none r) 99 [(0, .ref (ε.2.2.1 e 1)), (5, .int s.1)] [] s.2) (fun s res h r k1 k2 => t_Cards_shuffle_s99 e hC s.2 s.1 res h r k1 k2) s r h
noncomputable def f_Cards_shuffle_s29 (e : Nat) (M : gMem) (x3 : Int64) (x5 : Int32) : Option ((Int64 × Int32 × gMem) ⊕ gMem) :=
  if x5 ≤ 0 then
    (f_Cards_shuffle_l99 e (0, M)).map .inr
  else
    (f_DS_following x3).bind fun q7 =>
    (f_DS_upperBits q7).bind fun q8 =>
    (gNz (x5 + 1)).bind fun _ =>
    (f_DS_at e 7 32 M x5).bind fun q10 =>
    (f_DS_at e 7 32 M (gRem q8 (x5 + 1))).bind fun q11 =>
    (f_DS_put e 7 32 M x5 q11).bind fun q12 =>
    (f_DS_put e 7 32 q12 (gRem q8 (x5 + 1)) q10).bind fun q13 =>
    some (.inl (q7, (x5 + (-1)), q13))
theorem t_Cards_shuffle_s29 {l : Launch} {ε : gEnv} (e : Nat) (hC : gCd ε e) (M : gMem) (x3 : Int64) (x5 : Int32) (res : ((Int64 × Int32 × gMem) ⊕ gMem)) (h : f_Cards_shuffle_s29 e M x3 x5 = some res) (r : gMem) (k1 : ∀ s0 : (Int64 × Int32 × gMem), res = .inl s0 → gGo l ε k_Cards_shuffle (gR 1 23) (gFn ε none r) 29 [(0, .ref (ε.2.2.1 e 1)), (3, .long s0.1), (5, .int s0.2.1)] [] s0.2.2) (k2 : ∀ r', res = .inr r' → r' = r) : gGo l ε k_Cards_shuffle (gR 1 23) (gFn ε none r) 29 [(0, .ref (ε.2.2.1 e 1)), (3, .long x3), (5, .int x5)] [] M := by
  unfold f_Cards_shuffle_s29 at h
  refine g_iload d_Cards_shuffle_29 2 rfl ?_
  refine g_if_le (tgt := 96) d_Cards_shuffle_31 (by decide) (fun c14 => ?_) (fun c14 => ?_)
  · rw [if_pos c14] at h
    refine g_iconst (v := 0) d_Cards_shuffle_96 (by decide) ?_
    refine g_istore (L' := [(5, .int 0), (0, .ref (ε.2.2.1 e 1)), (3, .long x3)]) d_Cards_shuffle_97 (by decide) rfl ?_
    refine gGo_sub [1, 0] rfl ?_
    obtain ⟨r9, h9, h8⟩ := gOm h
    cases h8
    have e9 := k2 _ rfl
    subst e9
    exact t_Cards_shuffle_l99 e hC (0, M) _ h9
  · rw [if_neg c14] at h
    refine g_lload_n d_Cards_shuffle_34 rfl 1 rfl ?_
    obtain ⟨q7, hq7, h⟩ := gOb h
    refine g_callN_l (As := [.long x3]) (rest := []) (j := 442) (host := "DropSignals") (ct_DS_following M x3 _ hq7) d_Cards_shuffle_35 ca_DS_following (by decide +kernel) rfl rfl (Nat.le_of_ble_eq_true rfl) ⟨(Nat.le_of_ble_eq_true rfl), (Nat.le_of_ble_eq_true rfl)⟩ ?_
    refine g_lstore_n (L' := [(3, .long q7), (0, .ref (ε.2.2.1 e 1)), (5, .int x5)]) d_Cards_shuffle_38 rfl (by decide) rfl ?_
    refine g_lload_n d_Cards_shuffle_39 rfl 0 rfl ?_
    obtain ⟨q8, hq8, h⟩ := gOb h
    refine g_callN_i (As := [.long q7]) (rest := []) (j := 447) (host := "DropSignals") (ct_DS_upperBits M q7 _ hq8) d_Cards_shuffle_40 ca_DS_upperBits (by decide +kernel) rfl rfl (Nat.le_of_ble_eq_true rfl) ⟨(Nat.le_of_ble_eq_true rfl), (Nat.le_of_ble_eq_true rfl)⟩ ?_
    refine g_iload d_Cards_shuffle_43 2 rfl ?_
    refine g_iconst (v := 1) d_Cards_shuffle_45 (by decide) ?_
    refine g_iadd d_Cards_shuffle_46 ?_
    obtain ⟨z9, hz9, h⟩ := gOb h
    refine g_rem d_Cards_shuffle_47 (gNz_s hz9).2 ?_
    refine g_istore (L' := [(6, .int (gRem q8 (x5 + 1))), (3, .long q7), (0, .ref (ε.2.2.1 e 1)), (5, .int x5)]) d_Cards_shuffle_48 (by decide) rfl ?_
    refine g_aload_n d_Cards_shuffle_50 rfl 2 rfl ?_
    refine g_getR d_Cards_shuffle_51 fl_Cards_18 (gCd_h1 hC) rfl ?_
    refine g_iload d_Cards_shuffle_54 3 rfl ?_
    obtain ⟨q10, hq10, h⟩ := gOb h
    refine g_callN_i (As := [.ref (ε.2.2.1 e 7), .int x5]) (rest := []) (j := 450) (host := "DropSignals") (ct_DS_at e 7 32 (gCd_h7 hC) M x5 _ hq10) d_Cards_shuffle_56 ca_DS_at (by decide +kernel) rfl rfl (Nat.le_of_ble_eq_true rfl) ⟨(Nat.le_of_ble_eq_true rfl), (Nat.le_of_ble_eq_true rfl)⟩ ?_
    refine g_istore (L' := [(7, .int q10), (6, .int (gRem q8 (x5 + 1))), (3, .long q7), (0, .ref (ε.2.2.1 e 1)), (5, .int x5)]) d_Cards_shuffle_59 (by decide) rfl ?_
    refine g_aload_n d_Cards_shuffle_61 rfl 3 rfl ?_
    refine g_getR d_Cards_shuffle_62 fl_Cards_18 (gCd_h1 hC) rfl ?_
    refine g_iload d_Cards_shuffle_65 4 rfl ?_
    refine g_aload_n d_Cards_shuffle_67 rfl 3 rfl ?_
    refine g_getR d_Cards_shuffle_68 fl_Cards_18 (gCd_h1 hC) rfl ?_
    refine g_iload d_Cards_shuffle_71 1 rfl ?_
    obtain ⟨q11, hq11, h⟩ := gOb h
    refine g_callN_i (As := [.ref (ε.2.2.1 e 7), .int (gRem q8 (x5 + 1))]) (rest := [.int x5, .ref (ε.2.2.1 e 7)]) (j := 450) (host := "DropSignals") (ct_DS_at e 7 32 (gCd_h7 hC) M (gRem q8 (x5 + 1)) _ hq11) d_Cards_shuffle_73 ca_DS_at (by decide +kernel) rfl rfl (Nat.le_of_ble_eq_true rfl) ⟨(Nat.le_of_ble_eq_true rfl), (Nat.le_of_ble_eq_true rfl)⟩ ?_
    obtain ⟨q12, hq12, h⟩ := gOb h
    refine g_callN_v (As := [.ref (ε.2.2.1 e 7), .int x5, .int q11]) (rest := []) (j := 441) (host := "DropSignals") (ct_DS_put e 7 32 (gCd_h7 hC) M x5 q11 _ hq12) d_Cards_shuffle_76 ca_DS_put (by decide +kernel) rfl rfl (Nat.le_of_ble_eq_true rfl) ⟨(Nat.le_of_ble_eq_true rfl), (Nat.le_of_ble_eq_true rfl)⟩ ?_
    refine g_aload_n d_Cards_shuffle_79 rfl 3 rfl ?_
    refine g_getR d_Cards_shuffle_80 fl_Cards_18 (gCd_h1 hC) rfl ?_
    refine g_iload d_Cards_shuffle_83 1 rfl ?_
    refine g_iload d_Cards_shuffle_85 0 rfl ?_
    obtain ⟨q13, hq13, h⟩ := gOb h
    refine g_callN_v (As := [.ref (ε.2.2.1 e 7), .int (gRem q8 (x5 + 1)), .int q10]) (rest := []) (j := 441) (host := "DropSignals") (ct_DS_put e 7 32 (gCd_h7 hC) q12 (gRem q8 (x5 + 1)) q10 _ hq13) d_Cards_shuffle_87 ca_DS_put (by decide +kernel) rfl rfl (Nat.le_of_ble_eq_true rfl) ⟨(Nat.le_of_ble_eq_true rfl), (Nat.le_of_ble_eq_true rfl)⟩ ?_
    refine g_iinc (v := (x5 + (-1))) (L' := [(5, .int (x5 + (-1))), (7, .int q10), (6, .int (gRem q8 (x5 + 1))), (3, .long q7), (0, .ref (ε.2.2.1 e 1))]) d_Cards_shuffle_90 (j := 4) rfl rfl (by decide) rfl ?_
    refine g_goto (tgt := 29) d_Cards_shuffle_93 (by decide) ?_
    refine gGo_sub [4, 3, 0] rfl ?_
    obtain rfl := Option.some.inj h
    exact k1 (q7, (x5 + (-1)), q13) rfl
noncomputable def f_Cards_shuffle_l29 (e : Nat) (s : (Int64 × Int32 × gMem)) : Option gMem := gLp (fun s => f_Cards_shuffle_s29 e s.2.2 s.1 s.2.1) s
theorem t_Cards_shuffle_l29 {l : Launch} {ε : gEnv} (e : Nat) (hC : gCd ε e) (s : (Int64 × Int32 × gMem)) (r : gMem) (h : f_Cards_shuffle_l29 e s = some r) : gGo l ε k_Cards_shuffle (gR 1 23) (gFn ε none r) 29 [(0, .ref (ε.2.2.1 e 1)), (3, .long s.1), (5, .int s.2.1)] [] s.2.2 :=
  g_loop _ (fun r s => gGo l ε k_Cards_shuffle (gR 1 23) (gFn ε none r) 29 [(0, .ref (ε.2.2.1 e 1)), (3, .long s.1), (5, .int s.2.1)] [] s.2.2) (fun s res h r k1 k2 => t_Cards_shuffle_s29 e hC s.2.2 s.1 s.2.1 res h r k1 k2) s r h
noncomputable def f_Cards_shuffle_s2 (e : Nat) (M : gMem) (x1 : Int64) (x3 : Int32) : Option ((Int32 × gMem) ⊕ gMem) :=
  if 32 ≤ x3 then
    (f_Cards_shuffle_l29 e (x1, 31, M)).map .inr
  else
    (f_DS_put e 7 32 M x3 x3).bind fun q15 =>
    some (.inl ((x3 + 1), q15))
theorem t_Cards_shuffle_s2 {l : Launch} {ε : gEnv} (e : Nat) (hC : gCd ε e) (M : gMem) (x1 : Int64) (x3 : Int32) (res : ((Int32 × gMem) ⊕ gMem)) (h : f_Cards_shuffle_s2 e M x1 x3 = some res) (r : gMem) (k1 : ∀ s0 : (Int32 × gMem), res = .inl s0 → gGo l ε k_Cards_shuffle (gR 1 23) (gFn ε none r) 2 [(0, .ref (ε.2.2.1 e 1)), (1, .long x1), (3, .int s0.1)] [] s0.2) (k2 : ∀ r', res = .inr r' → r' = r) : gGo l ε k_Cards_shuffle (gR 1 23) (gFn ε none r) 2 [(0, .ref (ε.2.2.1 e 1)), (1, .long x1), (3, .int x3)] [] M := by
  unfold f_Cards_shuffle_s2 at h
  refine g_iload_n d_Cards_shuffle_2 rfl 2 rfl ?_
  refine g_bipush (v := 32) d_Cards_shuffle_3 (by decide) ?_
  refine g_icmp_ge (tgt := 23) d_Cards_shuffle_5 (by decide) (fun c16 => ?_) (fun c16 => ?_)
  · rw [if_pos c16] at h
    refine g_lload_n d_Cards_shuffle_23 rfl 1 rfl ?_
    refine g_lstore_n (L' := [(3, .long x1), (0, .ref (ε.2.2.1 e 1)), (1, .long x1)]) d_Cards_shuffle_24 rfl (by decide) rfl ?_
    refine g_bipush (v := 31) d_Cards_shuffle_25 (by decide) ?_
    refine g_istore (L' := [(5, .int 31), (3, .long x1), (0, .ref (ε.2.2.1 e 1)), (1, .long x1)]) d_Cards_shuffle_27 (by decide) rfl ?_
    refine gGo_sub [2, 1, 0] rfl ?_
    obtain ⟨r9, h9, h8⟩ := gOm h
    cases h8
    have e9 := k2 _ rfl
    subst e9
    exact t_Cards_shuffle_l29 e hC (x1, 31, M) _ h9
  · rw [if_neg c16] at h
    refine g_aload_n d_Cards_shuffle_8 rfl 0 rfl ?_
    refine g_getR d_Cards_shuffle_9 fl_Cards_18 (gCd_h1 hC) rfl ?_
    refine g_iload_n d_Cards_shuffle_12 rfl 2 rfl ?_
    refine g_iload_n d_Cards_shuffle_13 rfl 2 rfl ?_
    obtain ⟨q15, hq15, h⟩ := gOb h
    refine g_callN_v (As := [.ref (ε.2.2.1 e 7), .int x3, .int x3]) (rest := []) (j := 441) (host := "DropSignals") (ct_DS_put e 7 32 (gCd_h7 hC) M x3 x3 _ hq15) d_Cards_shuffle_14 ca_DS_put (by decide +kernel) rfl rfl (Nat.le_of_ble_eq_true rfl) ⟨(Nat.le_of_ble_eq_true rfl), (Nat.le_of_ble_eq_true rfl)⟩ ?_
    refine g_iinc (v := (x3 + 1)) (L' := [(3, .int (x3 + 1)), (0, .ref (ε.2.2.1 e 1)), (1, .long x1)]) d_Cards_shuffle_17 (j := 2) rfl rfl (by decide) rfl ?_
    refine g_goto (tgt := 2) d_Cards_shuffle_20 (by decide) ?_
    refine gGo_sub [1, 2, 0] rfl ?_
    obtain rfl := Option.some.inj h
    exact k1 ((x3 + 1), q15) rfl
noncomputable def f_Cards_shuffle_l2 (e : Nat) (x1 : Int64) (s : (Int32 × gMem)) : Option gMem := gLp (fun s => f_Cards_shuffle_s2 e s.2 x1 s.1) s
theorem t_Cards_shuffle_l2 {l : Launch} {ε : gEnv} (e : Nat) (hC : gCd ε e) (x1 : Int64) (s : (Int32 × gMem)) (r : gMem) (h : f_Cards_shuffle_l2 e x1 s = some r) : gGo l ε k_Cards_shuffle (gR 1 23) (gFn ε none r) 2 [(0, .ref (ε.2.2.1 e 1)), (1, .long x1), (3, .int s.1)] [] s.2 :=
  g_loop _ (fun r s => gGo l ε k_Cards_shuffle (gR 1 23) (gFn ε none r) 2 [(0, .ref (ε.2.2.1 e 1)), (1, .long x1), (3, .int s.1)] [] s.2) (fun s res h r k1 k2 => t_Cards_shuffle_s2 e hC s.2 x1 s.1 res h r k1 k2) s r h
noncomputable def f_Cards_shuffle (e : Nat) (M : gMem) (a0 : Int64) : Option gMem :=
  f_Cards_shuffle_l2 e a0 (0, M)
theorem t_Cards_shuffle {l : Launch} {ε : gEnv} (e : Nat) (hC : gCd ε e) (M : gMem) (a0 : Int64) (r : gMem) (h : f_Cards_shuffle e M a0 = some r) : gGo l ε k_Cards_shuffle (gR 1 23) (gFn ε none r) 0 [(0, .ref (ε.2.2.1 e 1)), (1, .long a0)] [] M := by
  unfold f_Cards_shuffle at h
  refine g_iconst (v := 0) d_Cards_shuffle_0 (by decide) ?_
  refine g_istore_n (L' := [(3, .int 0), (0, .ref (ε.2.2.1 e 1)), (1, .long a0)]) d_Cards_shuffle_1 rfl (by decide) rfl ?_
  refine gGo_sub [1, 2, 0] rfl ?_
  exact t_Cards_shuffle_l2 e hC a0 (0, M) _ h
theorem ct_Cards_shuffle {l : Launch} {ε : gEnv} (e : Nat) (hC : gCd ε e) (M : gMem) (a0 : Int64) (r : gMem) (h : f_Cards_shuffle e M a0 = some r) : gCt l ε k_Cards_shuffle 1 23 [.ref (ε.2.2.1 e 1), .long a0] M none r :=
  gCt_of (by decide) (Nat.le_of_ble_eq_true rfl) rfl (t_Cards_shuffle e hC M a0 r h)
abbrev k_Cards_lay : gMD := (⟨"DropSignals$Cards", "lay", "(I)V"⟩, prog_2_method_5_code, 2, none)
theorem w_504 : Cond.instanceMethod ⟨"DropSignals$Cards", "lay", "(I)V"⟩ ∈ gWs := gWs_in (i := 504) (by decide +kernel) rfl
theorem w_505 : Cond.selects "DropSignals$Cards" ⟨"DropSignals$Cards", "lay", "(I)V"⟩ ⟨"DropSignals$Cards", "lay", "(I)V"⟩ ∈ gWs := gWs_in (i := 505) (by decide +kernel) rfl
set_option maxRecDepth 100000 in
theorem ca_Cards_lay : gCaV k_Cards_lay 1 := ⟨⟨gWs_in (i := 506) rfl rfl, w_22, by decide, by decide, by decide +kernel⟩, w_504, w_505⟩
theorem d_Cards_lay_0 : decode prog_2_method_5_code 0 = .ok (.aload_n 0, 1) := by decide +kernel
theorem d_Cards_lay_1 : decode prog_2_method_5_code 1 = .ok (.getfield 18, 3) := by decide +kernel
theorem d_Cards_lay_4 : decode prog_2_method_5_code 4 = .ok (.aload_n 0, 1) := by decide +kernel
theorem d_Cards_lay_5 : decode prog_2_method_5_code 5 = .ok (.getfield 30, 3) := by decide +kernel
theorem d_Cards_lay_8 : decode prog_2_method_5_code 8 = .ok (.iload_n 1, 1) := by decide +kernel
theorem d_Cards_lay_9 : decode prog_2_method_5_code 9 = .ok (.invokestatic 38, 3) := by decide +kernel
theorem d_Cards_lay_12 : decode prog_2_method_5_code 12 = .ok (.aload_n 0, 1) := by decide +kernel
theorem d_Cards_lay_13 : decode prog_2_method_5_code 13 = .ok (.getfield 15, 3) := by decide +kernel
theorem d_Cards_lay_16 : decode prog_2_method_5_code 16 = .ok (.iload_n 1, 1) := by decide +kernel
theorem d_Cards_lay_17 : decode prog_2_method_5_code 17 = .ok (.aload_n 0, 1) := by decide +kernel
theorem d_Cards_lay_18 : decode prog_2_method_5_code 18 = .ok (.getfield 30, 3) := by decide +kernel
theorem d_Cards_lay_21 : decode prog_2_method_5_code 21 = .ok (.invokestatic 38, 3) := by decide +kernel
theorem d_Cards_lay_24 : decode prog_2_method_5_code 24 = .ok (.aload_n 0, 1) := by decide +kernel
theorem d_Cards_lay_25 : decode prog_2_method_5_code 25 = .ok (.dup, 1) := by decide +kernel
theorem d_Cards_lay_26 : decode prog_2_method_5_code 26 = .ok (.getfield 30, 3) := by decide +kernel
theorem d_Cards_lay_29 : decode prog_2_method_5_code 29 = .ok (.iconst 1, 1) := by decide +kernel
theorem d_Cards_lay_30 : decode prog_2_method_5_code 30 = .ok (.iadd, 1) := by decide +kernel
theorem d_Cards_lay_31 : decode prog_2_method_5_code 31 = .ok (.putfield 30, 3) := by decide +kernel
theorem d_Cards_lay_34 : decode prog_2_method_5_code 34 = .ok (.return_, 1) := by decide +kernel
noncomputable def f_Cards_lay (e : Nat) (M : gMem) (a0 : Int32) : Option gMem :=
  (f_DS_put e 7 32 M (M e 1 3) a0).bind fun q1 =>
  (f_DS_put e 6 32 q1 a0 (q1 e 1 3)).bind fun q2 =>
  (gSO q2 e 1 3 ((q2 e 1 3) + 1)).bind fun M3 =>
  some M3
theorem t_Cards_lay {l : Launch} {ε : gEnv} (e : Nat) (hC : gCd ε e) (M : gMem) (a0 : Int32) (r : gMem) (h : f_Cards_lay e M a0 = some r) : gGo l ε k_Cards_lay (gR 1 22) (gFn ε none r) 0 [(0, .ref (ε.2.2.1 e 1)), (1, .int a0)] [] M := by
  unfold f_Cards_lay at h
  refine g_aload_n d_Cards_lay_0 rfl 0 rfl ?_
  refine g_getR d_Cards_lay_1 fl_Cards_18 (gCd_h1 hC) rfl ?_
  refine g_aload_n d_Cards_lay_4 rfl 0 rfl ?_
  refine g_getI d_Cards_lay_5 fl_Cards_30 (gCd_h1 hC) rfl ?_
  refine g_iload_n d_Cards_lay_8 rfl 1 rfl ?_
  obtain ⟨q1, hq1, h⟩ := gOb h
  refine g_callN_v (As := [.ref (ε.2.2.1 e 7), .int (M e 1 3), .int a0]) (rest := []) (j := 441) (host := "DropSignals") (ct_DS_put e 7 32 (gCd_h7 hC) M (M e 1 3) a0 _ hq1) d_Cards_lay_9 ca_DS_put (by decide +kernel) rfl rfl (Nat.le_of_ble_eq_true rfl) ⟨(Nat.le_of_ble_eq_true rfl), (Nat.le_of_ble_eq_true rfl)⟩ ?_
  refine g_aload_n d_Cards_lay_12 rfl 0 rfl ?_
  refine g_getR d_Cards_lay_13 fl_Cards_15 (gCd_h1 hC) rfl ?_
  refine g_iload_n d_Cards_lay_16 rfl 1 rfl ?_
  refine g_aload_n d_Cards_lay_17 rfl 0 rfl ?_
  refine g_getI d_Cards_lay_18 fl_Cards_30 (gCd_h1 hC) rfl ?_
  obtain ⟨q2, hq2, h⟩ := gOb h
  refine g_callN_v (As := [.ref (ε.2.2.1 e 6), .int a0, .int (q1 e 1 3)]) (rest := []) (j := 441) (host := "DropSignals") (ct_DS_put e 6 32 (gCd_h6 hC) q1 a0 (q1 e 1 3) _ hq2) d_Cards_lay_21 ca_DS_put (by decide +kernel) rfl rfl (Nat.le_of_ble_eq_true rfl) ⟨(Nat.le_of_ble_eq_true rfl), (Nat.le_of_ble_eq_true rfl)⟩ ?_
  refine g_aload_n d_Cards_lay_24 rfl 0 rfl ?_
  refine g_dup d_Cards_lay_25 rfl ?_
  refine g_getI d_Cards_lay_26 fl_Cards_30 (gCd_h1 hC) rfl ?_
  refine g_iconst (v := 1) d_Cards_lay_29 (by decide) ?_
  refine g_iadd d_Cards_lay_30 ?_
  obtain ⟨M3, hM3, h⟩ := gOb h
  refine g_putO d_Cards_lay_31 fp_Cards_30 (gCd_h1 hC) rfl hM3 ?_
  obtain rfl := Option.some.inj h
  exact g_vret d_Cards_lay_34 rfl
theorem ct_Cards_lay {l : Launch} {ε : gEnv} (e : Nat) (hC : gCd ε e) (M : gMem) (a0 : Int32) (r : gMem) (h : f_Cards_lay e M a0 = some r) : gCt l ε k_Cards_lay 1 22 [.ref (ε.2.2.1 e 1), .int a0] M none r :=
  gCt_of (by decide) (Nat.le_of_ble_eq_true rfl) rfl (t_Cards_lay e hC M a0 r h)
abbrev k_Cards_dealtTo : gMD := (⟨"DropSignals$Cards", "dealtTo", "(I)I"⟩, prog_2_method_6_code, 2, (some .int))
theorem w_538 : Cond.instanceMethod ⟨"DropSignals$Cards", "dealtTo", "(I)I"⟩ ∈ gWs := gWs_in (i := 538) (by decide +kernel) rfl
theorem w_539 : Cond.selects "DropSignals$Cards" ⟨"DropSignals$Cards", "dealtTo", "(I)I"⟩ ⟨"DropSignals$Cards", "dealtTo", "(I)I"⟩ ∈ gWs := gWs_in (i := 539) (by decide +kernel) rfl
set_option maxRecDepth 100000 in
theorem ca_Cards_dealtTo : gCaV k_Cards_dealtTo 1 := ⟨⟨gWs_in (i := 540) rfl rfl, w_22, by decide, by decide, by decide +kernel⟩, w_538, w_539⟩
theorem d_Cards_dealtTo_0 : decode prog_2_method_6_code 0 = .ok (.iload_n 1, 1) := by decide +kernel
theorem d_Cards_dealtTo_1 : decode prog_2_method_6_code 1 = .ok (.ifCond .lt 21, 3) := by decide +kernel
theorem d_Cards_dealtTo_4 : decode prog_2_method_6_code 4 = .ok (.iload_n 1, 1) := by decide +kernel
theorem d_Cards_dealtTo_5 : decode prog_2_method_6_code 5 = .ok (.aload_n 0, 1) := by decide +kernel
theorem d_Cards_dealtTo_6 : decode prog_2_method_6_code 6 = .ok (.getfield 9, 3) := by decide +kernel
theorem d_Cards_dealtTo_9 : decode prog_2_method_6_code 9 = .ok (.arraylength, 1) := by decide +kernel
theorem d_Cards_dealtTo_10 : decode prog_2_method_6_code 10 = .ok (.if_icmp .ge 12, 3) := by decide +kernel
theorem d_Cards_dealtTo_13 : decode prog_2_method_6_code 13 = .ok (.aload_n 0, 1) := by decide +kernel
theorem d_Cards_dealtTo_14 : decode prog_2_method_6_code 14 = .ok (.getfield 9, 3) := by decide +kernel
theorem d_Cards_dealtTo_17 : decode prog_2_method_6_code 17 = .ok (.iload_n 1, 1) := by decide +kernel
theorem d_Cards_dealtTo_18 : decode prog_2_method_6_code 18 = .ok (.iaload, 1) := by decide +kernel
theorem d_Cards_dealtTo_19 : decode prog_2_method_6_code 19 = .ok (.goto 4, 3) := by decide +kernel
theorem d_Cards_dealtTo_22 : decode prog_2_method_6_code 22 = .ok (.iconst (-1), 1) := by decide +kernel
theorem d_Cards_dealtTo_23 : decode prog_2_method_6_code 23 = .ok (.ireturn, 1) := by decide +kernel
noncomputable def f_Cards_dealtTo (e : Nat) (M : gMem) (a0 : Int32) : Option Int32 :=
  if a0 < 0 then
    some (-1)
  else
    if (Int32.ofNat 32) ≤ a0 then
      some (-1)
    else
      (gRd 32 (M e 5) a0).bind fun v1 =>
      some v1
theorem t_Cards_dealtTo {l : Launch} {ε : gEnv} (e : Nat) (hC : gCd ε e) (M : gMem) (a0 : Int32) (r : Int32) (h : f_Cards_dealtTo e M a0 = some r) : gGo l ε k_Cards_dealtTo (gR 0 0) (gFn ε (some (.int r)) M) 0 [(0, .ref (ε.2.2.1 e 1)), (1, .int a0)] [] M := by
  unfold f_Cards_dealtTo at h
  refine g_iload_n d_Cards_dealtTo_0 rfl 1 rfl ?_
  refine g_if_lt (tgt := 22) d_Cards_dealtTo_1 (by decide) (fun c3 => ?_) (fun c3 => ?_)
  · rw [if_pos c3] at h
    refine g_iconst (v := -1) d_Cards_dealtTo_22 (by decide) ?_
    obtain rfl := Option.some.inj h
    exact g_iret d_Cards_dealtTo_23 rfl
  · rw [if_neg c3] at h
    refine g_iload_n d_Cards_dealtTo_4 rfl 1 rfl ?_
    refine g_aload_n d_Cards_dealtTo_5 rfl 0 rfl ?_
    refine g_getR d_Cards_dealtTo_6 fl_Cards_9 (gCd_h1 hC) rfl ?_
    refine g_alen d_Cards_dealtTo_9 (gCd_h5 hC) ?_
    refine g_icmp_ge (tgt := 22) d_Cards_dealtTo_10 (by decide) (fun c2 => ?_) (fun c2 => ?_)
    · rw [if_pos c2] at h
      refine g_iconst (v := -1) d_Cards_dealtTo_22 (by decide) ?_
      obtain rfl := Option.some.inj h
      exact g_iret d_Cards_dealtTo_23 rfl
    · rw [if_neg c2] at h
      refine g_aload_n d_Cards_dealtTo_13 rfl 0 rfl ?_
      refine g_getR d_Cards_dealtTo_14 fl_Cards_9 (gCd_h1 hC) rfl ?_
      refine g_iload_n d_Cards_dealtTo_17 rfl 1 rfl ?_
      obtain ⟨v1, hv1, h⟩ := gOb h
      refine g_iaload d_Cards_dealtTo_18 (gCd_h5 hC) hv1 ?_
      refine g_goto (tgt := 23) d_Cards_dealtTo_19 (by decide) ?_
      obtain rfl := Option.some.inj h
      exact g_iret d_Cards_dealtTo_23 rfl
theorem ct_Cards_dealtTo {l : Launch} {ε : gEnv} (e : Nat) (hC : gCd ε e) (M : gMem) (a0 : Int32) (r : Int32) (h : f_Cards_dealtTo e M a0 = some r) : gCt l ε k_Cards_dealtTo 0 0 [.ref (ε.2.2.1 e 1), .int a0] M (some (.int r)) M :=
  gCt_of (by decide) (Nat.le_of_ble_eq_true rfl) rfl (t_Cards_dealtTo e hC M a0 r h)
abbrev k_Cards_playedAt : gMD := (⟨"DropSignals$Cards", "playedAt", "(I)I"⟩, prog_2_method_7_code, 2, (some .int))
theorem w_642 : Cond.instanceMethod ⟨"DropSignals$Cards", "playedAt", "(I)I"⟩ ∈ gWs := gWs_in (i := 642) (by decide +kernel) rfl
theorem w_643 : Cond.selects "DropSignals$Cards" ⟨"DropSignals$Cards", "playedAt", "(I)I"⟩ ⟨"DropSignals$Cards", "playedAt", "(I)I"⟩ ∈ gWs := gWs_in (i := 643) (by decide +kernel) rfl
set_option maxRecDepth 100000 in
theorem ca_Cards_playedAt : gCaV k_Cards_playedAt 1 := ⟨⟨gWs_in (i := 644) rfl rfl, w_22, by decide, by decide, by decide +kernel⟩, w_642, w_643⟩
theorem d_Cards_playedAt_0 : decode prog_2_method_7_code 0 = .ok (.aload_n 0, 1) := by decide +kernel
theorem d_Cards_playedAt_1 : decode prog_2_method_7_code 1 = .ok (.getfield 15, 3) := by decide +kernel
theorem d_Cards_playedAt_4 : decode prog_2_method_7_code 4 = .ok (.iload_n 1, 1) := by decide +kernel
theorem d_Cards_playedAt_5 : decode prog_2_method_7_code 5 = .ok (.invokestatic 50, 3) := by decide +kernel
theorem d_Cards_playedAt_8 : decode prog_2_method_7_code 8 = .ok (.ireturn, 1) := by decide +kernel
noncomputable def f_Cards_playedAt (e : Nat) (M : gMem) (a0 : Int32) : Option Int32 :=
  (f_DS_at e 6 32 M a0).bind fun q1 =>
  some q1
theorem t_Cards_playedAt {l : Launch} {ε : gEnv} (e : Nat) (hC : gCd ε e) (M : gMem) (a0 : Int32) (r : Int32) (h : f_Cards_playedAt e M a0 = some r) : gGo l ε k_Cards_playedAt (gR 1 21) (gFn ε (some (.int r)) M) 0 [(0, .ref (ε.2.2.1 e 1)), (1, .int a0)] [] M := by
  unfold f_Cards_playedAt at h
  refine g_aload_n d_Cards_playedAt_0 rfl 0 rfl ?_
  refine g_getR d_Cards_playedAt_1 fl_Cards_15 (gCd_h1 hC) rfl ?_
  refine g_iload_n d_Cards_playedAt_4 rfl 1 rfl ?_
  obtain ⟨q1, hq1, h⟩ := gOb h
  refine g_callN_i (As := [.ref (ε.2.2.1 e 6), .int a0]) (rest := []) (j := 450) (host := "DropSignals") (ct_DS_at e 6 32 (gCd_h6 hC) M a0 _ hq1) d_Cards_playedAt_5 ca_DS_at (by decide +kernel) rfl rfl (Nat.le_of_ble_eq_true rfl) ⟨(Nat.le_of_ble_eq_true rfl), (Nat.le_of_ble_eq_true rfl)⟩ ?_
  obtain rfl := Option.some.inj h
  exact g_iret d_Cards_playedAt_8 rfl
theorem ct_Cards_playedAt {l : Launch} {ε : gEnv} (e : Nat) (hC : gCd ε e) (M : gMem) (a0 : Int32) (r : Int32) (h : f_Cards_playedAt e M a0 = some r) : gCt l ε k_Cards_playedAt 1 21 [.ref (ε.2.2.1 e 1), .int a0] M (some (.int r)) M :=
  gCt_of (by decide) (Nat.le_of_ble_eq_true rfl) rfl (t_Cards_playedAt e hC M a0 r h)
abbrev k_Cards_holder : gMD := (⟨"DropSignals$Cards", "holder", "(I)I"⟩, prog_2_method_8_code, 2, (some .int))
theorem w_483 : Cond.instanceMethod ⟨"DropSignals$Cards", "holder", "(I)I"⟩ ∈ gWs := gWs_in (i := 483) (by decide +kernel) rfl
theorem w_484 : Cond.selects "DropSignals$Cards" ⟨"DropSignals$Cards", "holder", "(I)I"⟩ ⟨"DropSignals$Cards", "holder", "(I)I"⟩ ∈ gWs := gWs_in (i := 484) (by decide +kernel) rfl
set_option maxRecDepth 100000 in
theorem ca_Cards_holder : gCaV k_Cards_holder 1 := ⟨⟨gWs_in (i := 485) rfl rfl, w_22, by decide, by decide, by decide +kernel⟩, w_483, w_484⟩
theorem d_Cards_holder_0 : decode prog_2_method_8_code 0 = .ok (.iload_n 1, 1) := by decide +kernel
theorem d_Cards_holder_1 : decode prog_2_method_8_code 1 = .ok (.ifCond .lt 40, 3) := by decide +kernel
theorem d_Cards_holder_4 : decode prog_2_method_8_code 4 = .ok (.iload_n 1, 1) := by decide +kernel
theorem d_Cards_holder_5 : decode prog_2_method_8_code 5 = .ok (.aload_n 0, 1) := by decide +kernel
theorem d_Cards_holder_6 : decode prog_2_method_8_code 6 = .ok (.getfield 9, 3) := by decide +kernel
theorem d_Cards_holder_9 : decode prog_2_method_8_code 9 = .ok (.arraylength, 1) := by decide +kernel
theorem d_Cards_holder_10 : decode prog_2_method_8_code 10 = .ok (.if_icmp .ge 31, 3) := by decide +kernel
theorem d_Cards_holder_13 : decode prog_2_method_8_code 13 = .ok (.iload_n 1, 1) := by decide +kernel
theorem d_Cards_holder_14 : decode prog_2_method_8_code 14 = .ok (.aload_n 0, 1) := by decide +kernel
theorem d_Cards_holder_15 : decode prog_2_method_8_code 15 = .ok (.getfield 15, 3) := by decide +kernel
theorem d_Cards_holder_18 : decode prog_2_method_8_code 18 = .ok (.arraylength, 1) := by decide +kernel
theorem d_Cards_holder_19 : decode prog_2_method_8_code 19 = .ok (.if_icmp .ge 22, 3) := by decide +kernel
theorem d_Cards_holder_22 : decode prog_2_method_8_code 22 = .ok (.aload_n 0, 1) := by decide +kernel
theorem d_Cards_holder_23 : decode prog_2_method_8_code 23 = .ok (.getfield 15, 3) := by decide +kernel
theorem d_Cards_holder_26 : decode prog_2_method_8_code 26 = .ok (.iload_n 1, 1) := by decide +kernel
theorem d_Cards_holder_27 : decode prog_2_method_8_code 27 = .ok (.iaload, 1) := by decide +kernel
theorem d_Cards_holder_28 : decode prog_2_method_8_code 28 = .ok (.iconst (-1), 1) := by decide +kernel
theorem d_Cards_holder_29 : decode prog_2_method_8_code 29 = .ok (.if_icmp .ne 12, 3) := by decide +kernel
theorem d_Cards_holder_32 : decode prog_2_method_8_code 32 = .ok (.aload_n 0, 1) := by decide +kernel
theorem d_Cards_holder_33 : decode prog_2_method_8_code 33 = .ok (.getfield 9, 3) := by decide +kernel
theorem d_Cards_holder_36 : decode prog_2_method_8_code 36 = .ok (.iload_n 1, 1) := by decide +kernel
theorem d_Cards_holder_37 : decode prog_2_method_8_code 37 = .ok (.iaload, 1) := by decide +kernel
theorem d_Cards_holder_38 : decode prog_2_method_8_code 38 = .ok (.goto 4, 3) := by decide +kernel
theorem d_Cards_holder_41 : decode prog_2_method_8_code 41 = .ok (.iconst (-1), 1) := by decide +kernel
theorem d_Cards_holder_42 : decode prog_2_method_8_code 42 = .ok (.ireturn, 1) := by decide +kernel
noncomputable def f_Cards_holder (e : Nat) (M : gMem) (a0 : Int32) : Option Int32 :=
  if a0 < 0 then
    some (-1)
  else
    if (Int32.ofNat 32) ≤ a0 then
      some (-1)
    else
      if (Int32.ofNat 32) ≤ a0 then
        some (-1)
      else
        (gRd 32 (M e 6) a0).bind fun v1 =>
        if v1 = (-1) then
          (gRd 32 (M e 5) a0).bind fun v2 =>
          some v2
        else
          some (-1)
theorem t_Cards_holder {l : Launch} {ε : gEnv} (e : Nat) (hC : gCd ε e) (M : gMem) (a0 : Int32) (r : Int32) (h : f_Cards_holder e M a0 = some r) : gGo l ε k_Cards_holder (gR 0 0) (gFn ε (some (.int r)) M) 0 [(0, .ref (ε.2.2.1 e 1)), (1, .int a0)] [] M := by
  unfold f_Cards_holder at h
  refine g_iload_n d_Cards_holder_0 rfl 1 rfl ?_
  refine g_if_lt (tgt := 41) d_Cards_holder_1 (by decide) (fun c6 => ?_) (fun c6 => ?_)
  · rw [if_pos c6] at h
    refine g_iconst (v := -1) d_Cards_holder_41 (by decide) ?_
    obtain rfl := Option.some.inj h
    exact g_iret d_Cards_holder_42 rfl
  · rw [if_neg c6] at h
    refine g_iload_n d_Cards_holder_4 rfl 1 rfl ?_
    refine g_aload_n d_Cards_holder_5 rfl 0 rfl ?_
    refine g_getR d_Cards_holder_6 fl_Cards_9 (gCd_h1 hC) rfl ?_
    refine g_alen d_Cards_holder_9 (gCd_h5 hC) ?_
    refine g_icmp_ge (tgt := 41) d_Cards_holder_10 (by decide) (fun c5 => ?_) (fun c5 => ?_)
    · rw [if_pos c5] at h
      refine g_iconst (v := -1) d_Cards_holder_41 (by decide) ?_
      obtain rfl := Option.some.inj h
      exact g_iret d_Cards_holder_42 rfl
    · rw [if_neg c5] at h
      refine g_iload_n d_Cards_holder_13 rfl 1 rfl ?_
      refine g_aload_n d_Cards_holder_14 rfl 0 rfl ?_
      refine g_getR d_Cards_holder_15 fl_Cards_15 (gCd_h1 hC) rfl ?_
      refine g_alen d_Cards_holder_18 (gCd_h6 hC) ?_
      refine g_icmp_ge (tgt := 41) d_Cards_holder_19 (by decide) (fun c4 => ?_) (fun c4 => ?_)
      · rw [if_pos c4] at h
        refine g_iconst (v := -1) d_Cards_holder_41 (by decide) ?_
        obtain rfl := Option.some.inj h
        exact g_iret d_Cards_holder_42 rfl
      · rw [if_neg c4] at h
        refine g_aload_n d_Cards_holder_22 rfl 0 rfl ?_
        refine g_getR d_Cards_holder_23 fl_Cards_15 (gCd_h1 hC) rfl ?_
        refine g_iload_n d_Cards_holder_26 rfl 1 rfl ?_
        obtain ⟨v1, hv1, h⟩ := gOb h
        refine g_iaload d_Cards_holder_27 (gCd_h6 hC) hv1 ?_
        refine g_iconst (v := -1) d_Cards_holder_28 (by decide) ?_
        refine g_icmp_ne (tgt := 41) d_Cards_holder_29 (by decide) (fun c3 => ?_) (fun c3 => ?_)
        · rw [if_neg c3] at h
          refine g_iconst (v := -1) d_Cards_holder_41 (by decide) ?_
          obtain rfl := Option.some.inj h
          exact g_iret d_Cards_holder_42 rfl
        · rw [if_pos c3] at h
          refine g_aload_n d_Cards_holder_32 rfl 0 rfl ?_
          refine g_getR d_Cards_holder_33 fl_Cards_9 (gCd_h1 hC) rfl ?_
          refine g_iload_n d_Cards_holder_36 rfl 1 rfl ?_
          obtain ⟨v2, hv2, h⟩ := gOb h
          refine g_iaload d_Cards_holder_37 (gCd_h5 hC) hv2 ?_
          refine g_goto (tgt := 42) d_Cards_holder_38 (by decide) ?_
          obtain rfl := Option.some.inj h
          exact g_iret d_Cards_holder_42 rfl
theorem ct_Cards_holder {l : Launch} {ε : gEnv} (e : Nat) (hC : gCd ε e) (M : gMem) (a0 : Int32) (r : Int32) (h : f_Cards_holder e M a0 = some r) : gCt l ε k_Cards_holder 0 0 [.ref (ε.2.2.1 e 1), .int a0] M (some (.int r)) M :=
  gCt_of (by decide) (Nat.le_of_ble_eq_true rfl) rfl (t_Cards_holder e hC M a0 r h)
abbrev k_Cards_trickSize : gMD := (⟨"DropSignals$Cards", "trickSize", "()I"⟩, prog_2_method_9_code, 1, (some .int))
theorem w_549 : Cond.instanceMethod ⟨"DropSignals$Cards", "trickSize", "()I"⟩ ∈ gWs := gWs_in (i := 549) (by decide +kernel) rfl
theorem w_550 : Cond.selects "DropSignals$Cards" ⟨"DropSignals$Cards", "trickSize", "()I"⟩ ⟨"DropSignals$Cards", "trickSize", "()I"⟩ ∈ gWs := gWs_in (i := 550) (by decide +kernel) rfl
set_option maxRecDepth 100000 in
theorem ca_Cards_trickSize : gCaV k_Cards_trickSize 0 := ⟨⟨gWs_in (i := 551) rfl rfl, w_22, by decide, by decide, by decide +kernel⟩, w_549, w_550⟩
theorem d_Cards_trickSize_0 : decode prog_2_method_9_code 0 = .ok (.aload_n 0, 1) := by decide +kernel
theorem d_Cards_trickSize_1 : decode prog_2_method_9_code 1 = .ok (.getfield 30, 3) := by decide +kernel
theorem d_Cards_trickSize_4 : decode prog_2_method_9_code 4 = .ok (.iconst 4, 1) := by decide +kernel
theorem d_Cards_trickSize_5 : decode prog_2_method_9_code 5 = .ok (.irem, 1) := by decide +kernel
theorem d_Cards_trickSize_6 : decode prog_2_method_9_code 6 = .ok (.ireturn, 1) := by decide +kernel
noncomputable def f_Cards_trickSize (e : Nat) (M : gMem) : Option Int32 :=
  some (gRem (M e 1 3) 4)
theorem t_Cards_trickSize {l : Launch} {ε : gEnv} (e : Nat) (hC : gCd ε e) (M : gMem) (r : Int32) (h : f_Cards_trickSize e M = some r) : gGo l ε k_Cards_trickSize (gR 0 0) (gFn ε (some (.int r)) M) 0 [(0, .ref (ε.2.2.1 e 1))] [] M := by
  unfold f_Cards_trickSize at h
  refine g_aload_n d_Cards_trickSize_0 rfl 0 rfl ?_
  refine g_getI d_Cards_trickSize_1 fl_Cards_30 (gCd_h1 hC) rfl ?_
  refine g_iconst (v := 4) d_Cards_trickSize_4 (by decide) ?_
  refine g_rem d_Cards_trickSize_5 (by decide) ?_
  obtain rfl := Option.some.inj h
  exact g_iret d_Cards_trickSize_6 rfl
theorem ct_Cards_trickSize {l : Launch} {ε : gEnv} (e : Nat) (hC : gCd ε e) (M : gMem) (r : Int32) (h : f_Cards_trickSize e M = some r) : gCt l ε k_Cards_trickSize 0 0 [.ref (ε.2.2.1 e 1)] M (some (.int r)) M :=
  gCt_of (by decide) (Nat.le_of_ble_eq_true rfl) rfl (t_Cards_trickSize e hC M r h)
abbrev k_Cards_inTrick : gMD := (⟨"DropSignals$Cards", "inTrick", "(I)I"⟩, prog_2_method_10_code, 2, (some .int))
theorem w_677 : Cond.instanceMethod ⟨"DropSignals$Cards", "inTrick", "(I)I"⟩ ∈ gWs := gWs_in (i := 677) (by decide +kernel) rfl
theorem w_678 : Cond.selects "DropSignals$Cards" ⟨"DropSignals$Cards", "inTrick", "(I)I"⟩ ⟨"DropSignals$Cards", "inTrick", "(I)I"⟩ ∈ gWs := gWs_in (i := 678) (by decide +kernel) rfl
set_option maxRecDepth 100000 in
theorem ca_Cards_inTrick : gCaV k_Cards_inTrick 1 := ⟨⟨gWs_in (i := 679) rfl rfl, w_22, by decide, by decide, by decide +kernel⟩, w_677, w_678⟩
theorem d_Cards_inTrick_0 : decode prog_2_method_10_code 0 = .ok (.iload_n 1, 1) := by decide +kernel
theorem d_Cards_inTrick_1 : decode prog_2_method_10_code 1 = .ok (.ifCond .lt 32, 3) := by decide +kernel
theorem d_Cards_inTrick_4 : decode prog_2_method_10_code 4 = .ok (.iload_n 1, 1) := by decide +kernel
theorem d_Cards_inTrick_5 : decode prog_2_method_10_code 5 = .ok (.aload_n 0, 1) := by decide +kernel
theorem d_Cards_inTrick_6 : decode prog_2_method_10_code 6 = .ok (.invokevirtual 54, 3) := by decide +kernel
theorem d_Cards_inTrick_9 : decode prog_2_method_10_code 9 = .ok (.if_icmp .ge 24, 3) := by decide +kernel
theorem d_Cards_inTrick_12 : decode prog_2_method_10_code 12 = .ok (.aload_n 0, 1) := by decide +kernel
theorem d_Cards_inTrick_13 : decode prog_2_method_10_code 13 = .ok (.getfield 18, 3) := by decide +kernel
theorem d_Cards_inTrick_16 : decode prog_2_method_10_code 16 = .ok (.aload_n 0, 1) := by decide +kernel
theorem d_Cards_inTrick_17 : decode prog_2_method_10_code 17 = .ok (.getfield 30, 3) := by decide +kernel
theorem d_Cards_inTrick_20 : decode prog_2_method_10_code 20 = .ok (.aload_n 0, 1) := by decide +kernel
theorem d_Cards_inTrick_21 : decode prog_2_method_10_code 21 = .ok (.invokevirtual 54, 3) := by decide +kernel
theorem d_Cards_inTrick_24 : decode prog_2_method_10_code 24 = .ok (.isub, 1) := by decide +kernel
theorem d_Cards_inTrick_25 : decode prog_2_method_10_code 25 = .ok (.iload_n 1, 1) := by decide +kernel
theorem d_Cards_inTrick_26 : decode prog_2_method_10_code 26 = .ok (.iadd, 1) := by decide +kernel
theorem d_Cards_inTrick_27 : decode prog_2_method_10_code 27 = .ok (.invokestatic 50, 3) := by decide +kernel
theorem d_Cards_inTrick_30 : decode prog_2_method_10_code 30 = .ok (.goto 4, 3) := by decide +kernel
theorem d_Cards_inTrick_33 : decode prog_2_method_10_code 33 = .ok (.iconst (-1), 1) := by decide +kernel
theorem d_Cards_inTrick_34 : decode prog_2_method_10_code 34 = .ok (.ireturn, 1) := by decide +kernel
theorem w_680 : Cond.methodLink "DropSignals$Cards" 54 ⟨"DropSignals$Cards", "trickSize", "()I"⟩ ∈ gWs := gWs_in (i := 680) (by decide +kernel) rfl
noncomputable def f_Cards_inTrick (e : Nat) (M : gMem) (a0 : Int32) : Option Int32 :=
  if a0 < 0 then
    some (-1)
  else
    (f_Cards_trickSize e M).bind fun q1 =>
    if q1 ≤ a0 then
      some (-1)
    else
      (f_Cards_trickSize e M).bind fun q2 =>
      (f_DS_at e 7 32 M (((M e 1 3) - q2) + a0)).bind fun q3 =>
      some q3
theorem t_Cards_inTrick {l : Launch} {ε : gEnv} (e : Nat) (hC : gCd ε e) (M : gMem) (a0 : Int32) (r : Int32) (h : f_Cards_inTrick e M a0 = some r) : gGo l ε k_Cards_inTrick (gR 1 21) (gFn ε (some (.int r)) M) 0 [(0, .ref (ε.2.2.1 e 1)), (1, .int a0)] [] M := by
  unfold f_Cards_inTrick at h
  refine g_iload_n d_Cards_inTrick_0 rfl 1 rfl ?_
  refine g_if_lt (tgt := 33) d_Cards_inTrick_1 (by decide) (fun c5 => ?_) (fun c5 => ?_)
  · rw [if_pos c5] at h
    refine g_iconst (v := -1) d_Cards_inTrick_33 (by decide) ?_
    obtain rfl := Option.some.inj h
    exact g_iret d_Cards_inTrick_34 rfl
  · rw [if_neg c5] at h
    refine g_iload_n d_Cards_inTrick_4 rfl 1 rfl ?_
    refine g_aload_n d_Cards_inTrick_5 rfl 0 rfl ?_
    obtain ⟨q1, hq1, h⟩ := gOb h
    refine g_callV_i (As := []) (rest := [.int a0]) (ct_Cards_trickSize e hC M _ hq1) d_Cards_inTrick_6 ca_Cards_trickSize w_680 (gCd_h1 hC) rfl rfl rfl (Nat.le_of_ble_eq_true rfl) ⟨(Nat.le_of_ble_eq_true rfl), (Nat.le_of_ble_eq_true rfl)⟩ ?_
    refine g_icmp_ge (tgt := 33) d_Cards_inTrick_9 (by decide) (fun c4 => ?_) (fun c4 => ?_)
    · rw [if_pos c4] at h
      refine g_iconst (v := -1) d_Cards_inTrick_33 (by decide) ?_
      obtain rfl := Option.some.inj h
      exact g_iret d_Cards_inTrick_34 rfl
    · rw [if_neg c4] at h
      refine g_aload_n d_Cards_inTrick_12 rfl 0 rfl ?_
      refine g_getR d_Cards_inTrick_13 fl_Cards_18 (gCd_h1 hC) rfl ?_
      refine g_aload_n d_Cards_inTrick_16 rfl 0 rfl ?_
      refine g_getI d_Cards_inTrick_17 fl_Cards_30 (gCd_h1 hC) rfl ?_
      refine g_aload_n d_Cards_inTrick_20 rfl 0 rfl ?_
      obtain ⟨q2, hq2, h⟩ := gOb h
      refine g_callV_i (As := []) (rest := [.int (M e 1 3), .ref (ε.2.2.1 e 7)]) (ct_Cards_trickSize e hC M _ hq2) d_Cards_inTrick_21 ca_Cards_trickSize w_680 (gCd_h1 hC) rfl rfl rfl (Nat.le_of_ble_eq_true rfl) ⟨(Nat.le_of_ble_eq_true rfl), (Nat.le_of_ble_eq_true rfl)⟩ ?_
      refine g_isub d_Cards_inTrick_24 ?_
      refine g_iload_n d_Cards_inTrick_25 rfl 1 rfl ?_
      refine g_iadd d_Cards_inTrick_26 ?_
      obtain ⟨q3, hq3, h⟩ := gOb h
      refine g_callN_i (As := [.ref (ε.2.2.1 e 7), .int (((M e 1 3) - q2) + a0)]) (rest := []) (j := 450) (host := "DropSignals") (ct_DS_at e 7 32 (gCd_h7 hC) M (((M e 1 3) - q2) + a0) _ hq3) d_Cards_inTrick_27 ca_DS_at (by decide +kernel) rfl rfl (Nat.le_of_ble_eq_true rfl) ⟨(Nat.le_of_ble_eq_true rfl), (Nat.le_of_ble_eq_true rfl)⟩ ?_
      refine g_goto (tgt := 34) d_Cards_inTrick_30 (by decide) ?_
      obtain rfl := Option.some.inj h
      exact g_iret d_Cards_inTrick_34 rfl
theorem ct_Cards_inTrick {l : Launch} {ε : gEnv} (e : Nat) (hC : gCd ε e) (M : gMem) (a0 : Int32) (r : Int32) (h : f_Cards_inTrick e M a0 = some r) : gCt l ε k_Cards_inTrick 1 21 [.ref (ε.2.2.1 e 1), .int a0] M (some (.int r)) M :=
  gCt_of (by decide) (Nat.le_of_ble_eq_true rfl) rfl (t_Cards_inTrick e hC M a0 r h)
abbrev k_Cards_ledSuit : gMD := (⟨"DropSignals$Cards", "ledSuit", "()I"⟩, prog_2_method_11_code, 2, (some .int))
theorem w_491 : Cond.instanceMethod ⟨"DropSignals$Cards", "ledSuit", "()I"⟩ ∈ gWs := gWs_in (i := 491) (by decide +kernel) rfl
theorem w_492 : Cond.selects "DropSignals$Cards" ⟨"DropSignals$Cards", "ledSuit", "()I"⟩ ⟨"DropSignals$Cards", "ledSuit", "()I"⟩ ∈ gWs := gWs_in (i := 492) (by decide +kernel) rfl
set_option maxRecDepth 100000 in
theorem ca_Cards_ledSuit : gCaV k_Cards_ledSuit 0 := ⟨⟨gWs_in (i := 493) rfl rfl, w_22, by decide, by decide, by decide +kernel⟩, w_491, w_492⟩
theorem d_Cards_ledSuit_0 : decode prog_2_method_11_code 0 = .ok (.aload_n 0, 1) := by decide +kernel
theorem d_Cards_ledSuit_1 : decode prog_2_method_11_code 1 = .ok (.getfield 30, 3) := by decide +kernel
theorem d_Cards_ledSuit_4 : decode prog_2_method_11_code 4 = .ok (.iconst 4, 1) := by decide +kernel
theorem d_Cards_ledSuit_5 : decode prog_2_method_11_code 5 = .ok (.irem, 1) := by decide +kernel
theorem d_Cards_ledSuit_6 : decode prog_2_method_11_code 6 = .ok (.istore_n 1, 1) := by decide +kernel
theorem d_Cards_ledSuit_7 : decode prog_2_method_11_code 7 = .ok (.iload_n 1, 1) := by decide +kernel
theorem d_Cards_ledSuit_8 : decode prog_2_method_11_code 8 = .ok (.ifCond .ne 7, 3) := by decide +kernel
theorem d_Cards_ledSuit_11 : decode prog_2_method_11_code 11 = .ok (.iconst (-1), 1) := by decide +kernel
theorem d_Cards_ledSuit_12 : decode prog_2_method_11_code 12 = .ok (.goto 19, 3) := by decide +kernel
theorem d_Cards_ledSuit_15 : decode prog_2_method_11_code 15 = .ok (.aload_n 0, 1) := by decide +kernel
theorem d_Cards_ledSuit_16 : decode prog_2_method_11_code 16 = .ok (.getfield 18, 3) := by decide +kernel
theorem d_Cards_ledSuit_19 : decode prog_2_method_11_code 19 = .ok (.aload_n 0, 1) := by decide +kernel
theorem d_Cards_ledSuit_20 : decode prog_2_method_11_code 20 = .ok (.getfield 30, 3) := by decide +kernel
theorem d_Cards_ledSuit_23 : decode prog_2_method_11_code 23 = .ok (.iload_n 1, 1) := by decide +kernel
theorem d_Cards_ledSuit_24 : decode prog_2_method_11_code 24 = .ok (.isub, 1) := by decide +kernel
theorem d_Cards_ledSuit_25 : decode prog_2_method_11_code 25 = .ok (.invokestatic 50, 3) := by decide +kernel
theorem d_Cards_ledSuit_28 : decode prog_2_method_11_code 28 = .ok (.bipush 8, 2) := by decide +kernel
theorem d_Cards_ledSuit_30 : decode prog_2_method_11_code 30 = .ok (.idiv, 1) := by decide +kernel
theorem d_Cards_ledSuit_31 : decode prog_2_method_11_code 31 = .ok (.ireturn, 1) := by decide +kernel
noncomputable def f_Cards_ledSuit (e : Nat) (M : gMem) : Option Int32 :=
  if (gRem (M e 1 3) 4) = 0 then
    some (-1)
  else
    (f_DS_at e 7 32 M ((M e 1 3) - (gRem (M e 1 3) 4))).bind fun q1 =>
    some (q1 / 8)
theorem t_Cards_ledSuit {l : Launch} {ε : gEnv} (e : Nat) (hC : gCd ε e) (M : gMem) (r : Int32) (h : f_Cards_ledSuit e M = some r) : gGo l ε k_Cards_ledSuit (gR 1 21) (gFn ε (some (.int r)) M) 0 [(0, .ref (ε.2.2.1 e 1))] [] M := by
  unfold f_Cards_ledSuit at h
  refine g_aload_n d_Cards_ledSuit_0 rfl 0 rfl ?_
  refine g_getI d_Cards_ledSuit_1 fl_Cards_30 (gCd_h1 hC) rfl ?_
  refine g_iconst (v := 4) d_Cards_ledSuit_4 (by decide) ?_
  refine g_rem d_Cards_ledSuit_5 (by decide) ?_
  refine g_istore_n (L' := [(1, .int (gRem (M e 1 3) 4)), (0, .ref (ε.2.2.1 e 1))]) d_Cards_ledSuit_6 rfl (by decide) rfl ?_
  refine g_iload_n d_Cards_ledSuit_7 rfl 0 rfl ?_
  refine g_if_ne (tgt := 15) d_Cards_ledSuit_8 (by decide) (fun c2 => ?_) (fun c2 => ?_)
  · rw [if_neg c2] at h
    refine g_aload_n d_Cards_ledSuit_15 rfl 1 rfl ?_
    refine g_getR d_Cards_ledSuit_16 fl_Cards_18 (gCd_h1 hC) rfl ?_
    refine g_aload_n d_Cards_ledSuit_19 rfl 1 rfl ?_
    refine g_getI d_Cards_ledSuit_20 fl_Cards_30 (gCd_h1 hC) rfl ?_
    refine g_iload_n d_Cards_ledSuit_23 rfl 0 rfl ?_
    refine g_isub d_Cards_ledSuit_24 ?_
    obtain ⟨q1, hq1, h⟩ := gOb h
    refine g_callN_i (As := [.ref (ε.2.2.1 e 7), .int ((M e 1 3) - (gRem (M e 1 3) 4))]) (rest := []) (j := 450) (host := "DropSignals") (ct_DS_at e 7 32 (gCd_h7 hC) M ((M e 1 3) - (gRem (M e 1 3) 4)) _ hq1) d_Cards_ledSuit_25 ca_DS_at (by decide +kernel) rfl rfl (Nat.le_of_ble_eq_true rfl) ⟨(Nat.le_of_ble_eq_true rfl), (Nat.le_of_ble_eq_true rfl)⟩ ?_
    refine g_bipush (v := 8) d_Cards_ledSuit_28 (by decide) ?_
    refine g_idiv d_Cards_ledSuit_30 (by decide) ?_
    obtain rfl := Option.some.inj h
    exact g_iret d_Cards_ledSuit_31 rfl
  · rw [if_pos c2] at h
    refine g_iconst (v := -1) d_Cards_ledSuit_11 (by decide) ?_
    refine g_goto (tgt := 31) d_Cards_ledSuit_12 (by decide) ?_
    obtain rfl := Option.some.inj h
    exact g_iret d_Cards_ledSuit_31 rfl
theorem ct_Cards_ledSuit {l : Launch} {ε : gEnv} (e : Nat) (hC : gCd ε e) (M : gMem) (r : Int32) (h : f_Cards_ledSuit e M = some r) : gCt l ε k_Cards_ledSuit 1 21 [.ref (ε.2.2.1 e 1)] M (some (.int r)) M :=
  gCt_of (by decide) (Nat.le_of_ble_eq_true rfl) rfl (t_Cards_ledSuit e hC M r h)
abbrev k_Cards_dealt : gMD := (⟨"DropSignals$Cards", "dealt", "(II)I"⟩, prog_2_method_12_code, 5, (some .int))
theorem w_534 : Cond.instanceMethod ⟨"DropSignals$Cards", "dealt", "(II)I"⟩ ∈ gWs := gWs_in (i := 534) (by decide +kernel) rfl
theorem w_535 : Cond.selects "DropSignals$Cards" ⟨"DropSignals$Cards", "dealt", "(II)I"⟩ ⟨"DropSignals$Cards", "dealt", "(II)I"⟩ ∈ gWs := gWs_in (i := 535) (by decide +kernel) rfl
set_option maxRecDepth 100000 in
theorem ca_Cards_dealt : gCaV k_Cards_dealt 2 := ⟨⟨gWs_in (i := 536) rfl rfl, w_22, by decide, by decide, by decide +kernel⟩, w_534, w_535⟩
theorem d_Cards_dealt_0 : decode prog_2_method_12_code 0 = .ok (.iconst 0, 1) := by decide +kernel
theorem d_Cards_dealt_1 : decode prog_2_method_12_code 1 = .ok (.istore_n 3, 1) := by decide +kernel
theorem d_Cards_dealt_2 : decode prog_2_method_12_code 2 = .ok (.iconst 0, 1) := by decide +kernel
theorem d_Cards_dealt_3 : decode prog_2_method_12_code 3 = .ok (.istore 4, 2) := by decide +kernel
theorem d_Cards_dealt_5 : decode prog_2_method_12_code 5 = .ok (.iload 4, 2) := by decide +kernel
theorem d_Cards_dealt_7 : decode prog_2_method_12_code 7 = .ok (.bipush 8, 2) := by decide +kernel
theorem d_Cards_dealt_9 : decode prog_2_method_12_code 9 = .ok (.if_icmp .ge 27, 3) := by decide +kernel
theorem d_Cards_dealt_12 : decode prog_2_method_12_code 12 = .ok (.aload_n 0, 1) := by decide +kernel
theorem d_Cards_dealt_13 : decode prog_2_method_12_code 13 = .ok (.iload_n 2, 1) := by decide +kernel
theorem d_Cards_dealt_14 : decode prog_2_method_12_code 14 = .ok (.bipush 8, 2) := by decide +kernel
theorem d_Cards_dealt_16 : decode prog_2_method_12_code 16 = .ok (.imul, 1) := by decide +kernel
theorem d_Cards_dealt_17 : decode prog_2_method_12_code 17 = .ok (.iload 4, 2) := by decide +kernel
theorem d_Cards_dealt_19 : decode prog_2_method_12_code 19 = .ok (.iadd, 1) := by decide +kernel
theorem d_Cards_dealt_20 : decode prog_2_method_12_code 20 = .ok (.invokevirtual 58, 3) := by decide +kernel
theorem d_Cards_dealt_23 : decode prog_2_method_12_code 23 = .ok (.iload_n 1, 1) := by decide +kernel
theorem d_Cards_dealt_24 : decode prog_2_method_12_code 24 = .ok (.if_icmp .ne 6, 3) := by decide +kernel
theorem d_Cards_dealt_27 : decode prog_2_method_12_code 27 = .ok (.iinc 3 1, 3) := by decide +kernel
theorem d_Cards_dealt_30 : decode prog_2_method_12_code 30 = .ok (.iinc 4 1, 3) := by decide +kernel
theorem d_Cards_dealt_33 : decode prog_2_method_12_code 33 = .ok (.goto (-28), 3) := by decide +kernel
theorem d_Cards_dealt_36 : decode prog_2_method_12_code 36 = .ok (.iload_n 3, 1) := by decide +kernel
theorem d_Cards_dealt_37 : decode prog_2_method_12_code 37 = .ok (.ireturn, 1) := by decide +kernel
theorem w_537 : Cond.methodLink "DropSignals$Cards" 58 ⟨"DropSignals$Cards", "dealtTo", "(I)I"⟩ ∈ gWs := gWs_in (i := 537) (by decide +kernel) rfl
noncomputable def f_Cards_dealt_b30 (e : Nat) (M : gMem) (x1 : Int32) (x2 : Int32) (x3 : Int32) (x4 : Int32) : Option ((Int32 × Int32) ⊕ Int32) :=
  some (.inl (x3, (x4 + 1)))
theorem t_Cards_dealt_b30 {l : Launch} {ε : gEnv} (e : Nat) (hC : gCd ε e) (M : gMem) (x1 : Int32) (x2 : Int32) (x3 : Int32) (x4 : Int32) (res : ((Int32 × Int32) ⊕ Int32)) (h : f_Cards_dealt_b30 e M x1 x2 x3 x4 = some res) (r : Int32) (k1 : ∀ s0 : (Int32 × Int32), res = .inl s0 → gGo l ε k_Cards_dealt (gR 1 21) (gFn ε (some (.int r)) M) 5 [(0, .ref (ε.2.2.1 e 1)), (1, .int x1), (2, .int x2), (3, .int s0.1), (4, .int s0.2)] [] M) (k2 : ∀ r', res = .inr r' → r' = r) : gGo l ε k_Cards_dealt (gR 1 21) (gFn ε (some (.int r)) M) 30 [(0, .ref (ε.2.2.1 e 1)), (1, .int x1), (2, .int x2), (3, .int x3), (4, .int x4)] [] M := by
  unfold f_Cards_dealt_b30 at h
  refine g_iinc (v := (x4 + 1)) (L' := [(4, .int (x4 + 1)), (0, .ref (ε.2.2.1 e 1)), (1, .int x1), (2, .int x2), (3, .int x3)]) d_Cards_dealt_30 (j := 4) rfl rfl (by decide) rfl ?_
  refine g_goto (tgt := 5) d_Cards_dealt_33 (by decide) ?_
  refine gGo_sub [1, 2, 3, 4, 0] rfl ?_
  obtain rfl := Option.some.inj h
  exact k1 (x3, (x4 + 1)) rfl
noncomputable def f_Cards_dealt_s5 (e : Nat) (M : gMem) (x1 : Int32) (x2 : Int32) (x3 : Int32) (x4 : Int32) : Option ((Int32 × Int32) ⊕ Int32) :=
  if 8 ≤ x4 then
    some (.inr x3)
  else
    (f_Cards_dealtTo e M ((x2 * 8) + x4)).bind fun q1 =>
    if q1 = x1 then
      f_Cards_dealt_b30 e M x1 x2 (x3 + 1) x4
    else
      f_Cards_dealt_b30 e M x1 x2 x3 x4
theorem t_Cards_dealt_s5 {l : Launch} {ε : gEnv} (e : Nat) (hC : gCd ε e) (M : gMem) (x1 : Int32) (x2 : Int32) (x3 : Int32) (x4 : Int32) (res : ((Int32 × Int32) ⊕ Int32)) (h : f_Cards_dealt_s5 e M x1 x2 x3 x4 = some res) (r : Int32) (k1 : ∀ s0 : (Int32 × Int32), res = .inl s0 → gGo l ε k_Cards_dealt (gR 1 21) (gFn ε (some (.int r)) M) 5 [(0, .ref (ε.2.2.1 e 1)), (1, .int x1), (2, .int x2), (3, .int s0.1), (4, .int s0.2)] [] M) (k2 : ∀ r', res = .inr r' → r' = r) : gGo l ε k_Cards_dealt (gR 1 21) (gFn ε (some (.int r)) M) 5 [(0, .ref (ε.2.2.1 e 1)), (1, .int x1), (2, .int x2), (3, .int x3), (4, .int x4)] [] M := by
  unfold f_Cards_dealt_s5 at h
  refine g_iload d_Cards_dealt_5 4 rfl ?_
  refine g_bipush (v := 8) d_Cards_dealt_7 (by decide) ?_
  refine g_icmp_ge (tgt := 36) d_Cards_dealt_9 (by decide) (fun c3 => ?_) (fun c3 => ?_)
  · rw [if_pos c3] at h
    refine g_iload_n d_Cards_dealt_36 rfl 3 rfl ?_
    obtain rfl := Option.some.inj h
    have e9 := k2 _ rfl
    subst e9
    exact g_iret d_Cards_dealt_37 rfl
  · rw [if_neg c3] at h
    refine g_aload_n d_Cards_dealt_12 rfl 0 rfl ?_
    refine g_iload_n d_Cards_dealt_13 rfl 2 rfl ?_
    refine g_bipush (v := 8) d_Cards_dealt_14 (by decide) ?_
    refine g_imul d_Cards_dealt_16 ?_
    refine g_iload d_Cards_dealt_17 4 rfl ?_
    refine g_iadd d_Cards_dealt_19 ?_
    obtain ⟨q1, hq1, h⟩ := gOb h
    refine g_callV_i (As := [.int ((x2 * 8) + x4)]) (rest := []) (ct_Cards_dealtTo e hC M ((x2 * 8) + x4) _ hq1) d_Cards_dealt_20 ca_Cards_dealtTo w_537 (gCd_h1 hC) rfl rfl rfl (Nat.le_of_ble_eq_true rfl) ⟨(Nat.le_of_ble_eq_true rfl), (Nat.le_of_ble_eq_true rfl)⟩ ?_
    refine g_iload_n d_Cards_dealt_23 rfl 1 rfl ?_
    refine g_icmp_ne (tgt := 30) d_Cards_dealt_24 (by decide) (fun c2 => ?_) (fun c2 => ?_)
    · rw [if_neg c2] at h
      exact t_Cards_dealt_b30 e hC M x1 x2 x3 x4 _ h r k1 k2
    · rw [if_pos c2] at h
      refine g_iinc (v := (x3 + 1)) (L' := [(3, .int (x3 + 1)), (0, .ref (ε.2.2.1 e 1)), (1, .int x1), (2, .int x2), (4, .int x4)]) d_Cards_dealt_27 (j := 3) rfl rfl (by decide) rfl ?_
      refine gGo_sub [1, 2, 3, 0, 4] rfl ?_
      exact t_Cards_dealt_b30 e hC M x1 x2 (x3 + 1) x4 _ h r k1 k2
noncomputable def f_Cards_dealt_l5 (e : Nat) (M : gMem) (x1 : Int32) (x2 : Int32) (s : (Int32 × Int32)) : Option Int32 := gLp (fun s => f_Cards_dealt_s5 e M x1 x2 s.1 s.2) s
theorem t_Cards_dealt_l5 {l : Launch} {ε : gEnv} (e : Nat) (hC : gCd ε e) (M : gMem) (x1 : Int32) (x2 : Int32) (s : (Int32 × Int32)) (r : Int32) (h : f_Cards_dealt_l5 e M x1 x2 s = some r) : gGo l ε k_Cards_dealt (gR 1 21) (gFn ε (some (.int r)) M) 5 [(0, .ref (ε.2.2.1 e 1)), (1, .int x1), (2, .int x2), (3, .int s.1), (4, .int s.2)] [] M :=
  g_loop _ (fun r s => gGo l ε k_Cards_dealt (gR 1 21) (gFn ε (some (.int r)) M) 5 [(0, .ref (ε.2.2.1 e 1)), (1, .int x1), (2, .int x2), (3, .int s.1), (4, .int s.2)] [] M) (fun s res h r k1 k2 => t_Cards_dealt_s5 e hC M x1 x2 s.1 s.2 res h r k1 k2) s r h
noncomputable def f_Cards_dealt (e : Nat) (M : gMem) (a0 : Int32) (a1 : Int32) : Option Int32 :=
  f_Cards_dealt_l5 e M a0 a1 (0, 0)
theorem t_Cards_dealt {l : Launch} {ε : gEnv} (e : Nat) (hC : gCd ε e) (M : gMem) (a0 : Int32) (a1 : Int32) (r : Int32) (h : f_Cards_dealt e M a0 a1 = some r) : gGo l ε k_Cards_dealt (gR 1 21) (gFn ε (some (.int r)) M) 0 [(0, .ref (ε.2.2.1 e 1)), (1, .int a0), (2, .int a1)] [] M := by
  unfold f_Cards_dealt at h
  refine g_iconst (v := 0) d_Cards_dealt_0 (by decide) ?_
  refine g_istore_n (L' := [(3, .int 0), (0, .ref (ε.2.2.1 e 1)), (1, .int a0), (2, .int a1)]) d_Cards_dealt_1 rfl (by decide) rfl ?_
  refine g_iconst (v := 0) d_Cards_dealt_2 (by decide) ?_
  refine g_istore (L' := [(4, .int 0), (3, .int 0), (0, .ref (ε.2.2.1 e 1)), (1, .int a0), (2, .int a1)]) d_Cards_dealt_3 (by decide) rfl ?_
  refine gGo_sub [2, 3, 4, 1, 0] rfl ?_
  exact t_Cards_dealt_l5 e hC M a0 a1 (0, 0) _ h
theorem ct_Cards_dealt {l : Launch} {ε : gEnv} (e : Nat) (hC : gCd ε e) (M : gMem) (a0 : Int32) (a1 : Int32) (r : Int32) (h : f_Cards_dealt e M a0 a1 = some r) : gCt l ε k_Cards_dealt 1 21 [.ref (ε.2.2.1 e 1), .int a0, .int a1] M (some (.int r)) M :=
  gCt_of (by decide) (Nat.le_of_ble_eq_true rfl) rfl (t_Cards_dealt e hC M a0 a1 r h)
abbrev k_Cards_held : gMD := (⟨"DropSignals$Cards", "held", "(II)I"⟩, prog_2_method_13_code, 5, (some .int))
theorem w_495 : Cond.instanceMethod ⟨"DropSignals$Cards", "held", "(II)I"⟩ ∈ gWs := gWs_in (i := 495) (by decide +kernel) rfl
theorem w_496 : Cond.selects "DropSignals$Cards" ⟨"DropSignals$Cards", "held", "(II)I"⟩ ⟨"DropSignals$Cards", "held", "(II)I"⟩ ∈ gWs := gWs_in (i := 496) (by decide +kernel) rfl
set_option maxRecDepth 100000 in
theorem ca_Cards_held : gCaV k_Cards_held 2 := ⟨⟨gWs_in (i := 497) rfl rfl, w_22, by decide, by decide, by decide +kernel⟩, w_495, w_496⟩
theorem d_Cards_held_0 : decode prog_2_method_13_code 0 = .ok (.iconst 0, 1) := by decide +kernel
theorem d_Cards_held_1 : decode prog_2_method_13_code 1 = .ok (.istore_n 3, 1) := by decide +kernel
theorem d_Cards_held_2 : decode prog_2_method_13_code 2 = .ok (.iconst 0, 1) := by decide +kernel
theorem d_Cards_held_3 : decode prog_2_method_13_code 3 = .ok (.istore 4, 2) := by decide +kernel
theorem d_Cards_held_5 : decode prog_2_method_13_code 5 = .ok (.iload 4, 2) := by decide +kernel
theorem d_Cards_held_7 : decode prog_2_method_13_code 7 = .ok (.bipush 8, 2) := by decide +kernel
theorem d_Cards_held_9 : decode prog_2_method_13_code 9 = .ok (.if_icmp .ge 27, 3) := by decide +kernel
theorem d_Cards_held_12 : decode prog_2_method_13_code 12 = .ok (.aload_n 0, 1) := by decide +kernel
theorem d_Cards_held_13 : decode prog_2_method_13_code 13 = .ok (.iload_n 2, 1) := by decide +kernel
theorem d_Cards_held_14 : decode prog_2_method_13_code 14 = .ok (.bipush 8, 2) := by decide +kernel
theorem d_Cards_held_16 : decode prog_2_method_13_code 16 = .ok (.imul, 1) := by decide +kernel
theorem d_Cards_held_17 : decode prog_2_method_13_code 17 = .ok (.iload 4, 2) := by decide +kernel
theorem d_Cards_held_19 : decode prog_2_method_13_code 19 = .ok (.iadd, 1) := by decide +kernel
theorem d_Cards_held_20 : decode prog_2_method_13_code 20 = .ok (.invokevirtual 62, 3) := by decide +kernel
theorem d_Cards_held_23 : decode prog_2_method_13_code 23 = .ok (.iload_n 1, 1) := by decide +kernel
theorem d_Cards_held_24 : decode prog_2_method_13_code 24 = .ok (.if_icmp .ne 6, 3) := by decide +kernel
theorem d_Cards_held_27 : decode prog_2_method_13_code 27 = .ok (.iinc 3 1, 3) := by decide +kernel
theorem d_Cards_held_30 : decode prog_2_method_13_code 30 = .ok (.iinc 4 1, 3) := by decide +kernel
theorem d_Cards_held_33 : decode prog_2_method_13_code 33 = .ok (.goto (-28), 3) := by decide +kernel
theorem d_Cards_held_36 : decode prog_2_method_13_code 36 = .ok (.iload_n 3, 1) := by decide +kernel
theorem d_Cards_held_37 : decode prog_2_method_13_code 37 = .ok (.ireturn, 1) := by decide +kernel
theorem w_498 : Cond.methodLink "DropSignals$Cards" 62 ⟨"DropSignals$Cards", "holder", "(I)I"⟩ ∈ gWs := gWs_in (i := 498) (by decide +kernel) rfl
noncomputable def f_Cards_held_b30 (e : Nat) (M : gMem) (x1 : Int32) (x2 : Int32) (x3 : Int32) (x4 : Int32) : Option ((Int32 × Int32) ⊕ Int32) :=
  some (.inl (x3, (x4 + 1)))
theorem t_Cards_held_b30 {l : Launch} {ε : gEnv} (e : Nat) (hC : gCd ε e) (M : gMem) (x1 : Int32) (x2 : Int32) (x3 : Int32) (x4 : Int32) (res : ((Int32 × Int32) ⊕ Int32)) (h : f_Cards_held_b30 e M x1 x2 x3 x4 = some res) (r : Int32) (k1 : ∀ s0 : (Int32 × Int32), res = .inl s0 → gGo l ε k_Cards_held (gR 1 21) (gFn ε (some (.int r)) M) 5 [(0, .ref (ε.2.2.1 e 1)), (1, .int x1), (2, .int x2), (3, .int s0.1), (4, .int s0.2)] [] M) (k2 : ∀ r', res = .inr r' → r' = r) : gGo l ε k_Cards_held (gR 1 21) (gFn ε (some (.int r)) M) 30 [(0, .ref (ε.2.2.1 e 1)), (1, .int x1), (2, .int x2), (3, .int x3), (4, .int x4)] [] M := by
  unfold f_Cards_held_b30 at h
  refine g_iinc (v := (x4 + 1)) (L' := [(4, .int (x4 + 1)), (0, .ref (ε.2.2.1 e 1)), (1, .int x1), (2, .int x2), (3, .int x3)]) d_Cards_held_30 (j := 4) rfl rfl (by decide) rfl ?_
  refine g_goto (tgt := 5) d_Cards_held_33 (by decide) ?_
  refine gGo_sub [1, 2, 3, 4, 0] rfl ?_
  obtain rfl := Option.some.inj h
  exact k1 (x3, (x4 + 1)) rfl
noncomputable def f_Cards_held_s5 (e : Nat) (M : gMem) (x1 : Int32) (x2 : Int32) (x3 : Int32) (x4 : Int32) : Option ((Int32 × Int32) ⊕ Int32) :=
  if 8 ≤ x4 then
    some (.inr x3)
  else
    (f_Cards_holder e M ((x2 * 8) + x4)).bind fun q1 =>
    if q1 = x1 then
      f_Cards_held_b30 e M x1 x2 (x3 + 1) x4
    else
      f_Cards_held_b30 e M x1 x2 x3 x4
theorem t_Cards_held_s5 {l : Launch} {ε : gEnv} (e : Nat) (hC : gCd ε e) (M : gMem) (x1 : Int32) (x2 : Int32) (x3 : Int32) (x4 : Int32) (res : ((Int32 × Int32) ⊕ Int32)) (h : f_Cards_held_s5 e M x1 x2 x3 x4 = some res) (r : Int32) (k1 : ∀ s0 : (Int32 × Int32), res = .inl s0 → gGo l ε k_Cards_held (gR 1 21) (gFn ε (some (.int r)) M) 5 [(0, .ref (ε.2.2.1 e 1)), (1, .int x1), (2, .int x2), (3, .int s0.1), (4, .int s0.2)] [] M) (k2 : ∀ r', res = .inr r' → r' = r) : gGo l ε k_Cards_held (gR 1 21) (gFn ε (some (.int r)) M) 5 [(0, .ref (ε.2.2.1 e 1)), (1, .int x1), (2, .int x2), (3, .int x3), (4, .int x4)] [] M := by
  unfold f_Cards_held_s5 at h
  refine g_iload d_Cards_held_5 4 rfl ?_
  refine g_bipush (v := 8) d_Cards_held_7 (by decide) ?_
  refine g_icmp_ge (tgt := 36) d_Cards_held_9 (by decide) (fun c3 => ?_) (fun c3 => ?_)
  · rw [if_pos c3] at h
    refine g_iload_n d_Cards_held_36 rfl 3 rfl ?_
    obtain rfl := Option.some.inj h
    have e9 := k2 _ rfl
    subst e9
    exact g_iret d_Cards_held_37 rfl
  · rw [if_neg c3] at h
    refine g_aload_n d_Cards_held_12 rfl 0 rfl ?_
    refine g_iload_n d_Cards_held_13 rfl 2 rfl ?_
    refine g_bipush (v := 8) d_Cards_held_14 (by decide) ?_
    refine g_imul d_Cards_held_16 ?_
    refine g_iload d_Cards_held_17 4 rfl ?_
    refine g_iadd d_Cards_held_19 ?_
    obtain ⟨q1, hq1, h⟩ := gOb h
    refine g_callV_i (As := [.int ((x2 * 8) + x4)]) (rest := []) (ct_Cards_holder e hC M ((x2 * 8) + x4) _ hq1) d_Cards_held_20 ca_Cards_holder w_498 (gCd_h1 hC) rfl rfl rfl (Nat.le_of_ble_eq_true rfl) ⟨(Nat.le_of_ble_eq_true rfl), (Nat.le_of_ble_eq_true rfl)⟩ ?_
    refine g_iload_n d_Cards_held_23 rfl 1 rfl ?_
    refine g_icmp_ne (tgt := 30) d_Cards_held_24 (by decide) (fun c2 => ?_) (fun c2 => ?_)
    · rw [if_neg c2] at h
      exact t_Cards_held_b30 e hC M x1 x2 x3 x4 _ h r k1 k2
    · rw [if_pos c2] at h
      refine g_iinc (v := (x3 + 1)) (L' := [(3, .int (x3 + 1)), (0, .ref (ε.2.2.1 e 1)), (1, .int x1), (2, .int x2), (4, .int x4)]) d_Cards_held_27 (j := 3) rfl rfl (by decide) rfl ?_
      refine gGo_sub [1, 2, 3, 0, 4] rfl ?_
      exact t_Cards_held_b30 e hC M x1 x2 (x3 + 1) x4 _ h r k1 k2
noncomputable def f_Cards_held_l5 (e : Nat) (M : gMem) (x1 : Int32) (x2 : Int32) (s : (Int32 × Int32)) : Option Int32 := gLp (fun s => f_Cards_held_s5 e M x1 x2 s.1 s.2) s
theorem t_Cards_held_l5 {l : Launch} {ε : gEnv} (e : Nat) (hC : gCd ε e) (M : gMem) (x1 : Int32) (x2 : Int32) (s : (Int32 × Int32)) (r : Int32) (h : f_Cards_held_l5 e M x1 x2 s = some r) : gGo l ε k_Cards_held (gR 1 21) (gFn ε (some (.int r)) M) 5 [(0, .ref (ε.2.2.1 e 1)), (1, .int x1), (2, .int x2), (3, .int s.1), (4, .int s.2)] [] M :=
  g_loop _ (fun r s => gGo l ε k_Cards_held (gR 1 21) (gFn ε (some (.int r)) M) 5 [(0, .ref (ε.2.2.1 e 1)), (1, .int x1), (2, .int x2), (3, .int s.1), (4, .int s.2)] [] M) (fun s res h r k1 k2 => t_Cards_held_s5 e hC M x1 x2 s.1 s.2 res h r k1 k2) s r h
noncomputable def f_Cards_held (e : Nat) (M : gMem) (a0 : Int32) (a1 : Int32) : Option Int32 :=
  f_Cards_held_l5 e M a0 a1 (0, 0)
theorem t_Cards_held {l : Launch} {ε : gEnv} (e : Nat) (hC : gCd ε e) (M : gMem) (a0 : Int32) (a1 : Int32) (r : Int32) (h : f_Cards_held e M a0 a1 = some r) : gGo l ε k_Cards_held (gR 1 21) (gFn ε (some (.int r)) M) 0 [(0, .ref (ε.2.2.1 e 1)), (1, .int a0), (2, .int a1)] [] M := by
  unfold f_Cards_held at h
  refine g_iconst (v := 0) d_Cards_held_0 (by decide) ?_
  refine g_istore_n (L' := [(3, .int 0), (0, .ref (ε.2.2.1 e 1)), (1, .int a0), (2, .int a1)]) d_Cards_held_1 rfl (by decide) rfl ?_
  refine g_iconst (v := 0) d_Cards_held_2 (by decide) ?_
  refine g_istore (L' := [(4, .int 0), (3, .int 0), (0, .ref (ε.2.2.1 e 1)), (1, .int a0), (2, .int a1)]) d_Cards_held_3 (by decide) rfl ?_
  refine gGo_sub [2, 3, 4, 1, 0] rfl ?_
  exact t_Cards_held_l5 e hC M a0 a1 (0, 0) _ h
theorem ct_Cards_held {l : Launch} {ε : gEnv} (e : Nat) (hC : gCd ε e) (M : gMem) (a0 : Int32) (a1 : Int32) (r : Int32) (h : f_Cards_held e M a0 a1 = some r) : gCt l ε k_Cards_held 1 21 [.ref (ε.2.2.1 e 1), .int a0, .int a1] M (some (.int r)) M :=
  gCt_of (by decide) (Nat.le_of_ble_eq_true rfl) rfl (t_Cards_held e hC M a0 a1 r h)
abbrev k_Cards_handSize : gMD := (⟨"DropSignals$Cards", "handSize", "(I)I"⟩, prog_2_method_14_code, 4, (some .int))
theorem w_791 : Cond.instanceMethod ⟨"DropSignals$Cards", "handSize", "(I)I"⟩ ∈ gWs := gWs_in (i := 791) (by decide +kernel) rfl
theorem w_792 : Cond.selects "DropSignals$Cards" ⟨"DropSignals$Cards", "handSize", "(I)I"⟩ ⟨"DropSignals$Cards", "handSize", "(I)I"⟩ ∈ gWs := gWs_in (i := 792) (by decide +kernel) rfl
set_option maxRecDepth 100000 in
theorem ca_Cards_handSize : gCaV k_Cards_handSize 1 := ⟨⟨gWs_in (i := 793) rfl rfl, w_22, by decide, by decide, by decide +kernel⟩, w_791, w_792⟩
theorem d_Cards_handSize_0 : decode prog_2_method_14_code 0 = .ok (.iconst 0, 1) := by decide +kernel
theorem d_Cards_handSize_1 : decode prog_2_method_14_code 1 = .ok (.istore_n 2, 1) := by decide +kernel
theorem d_Cards_handSize_2 : decode prog_2_method_14_code 2 = .ok (.iconst 0, 1) := by decide +kernel
theorem d_Cards_handSize_3 : decode prog_2_method_14_code 3 = .ok (.istore_n 3, 1) := by decide +kernel
theorem d_Cards_handSize_4 : decode prog_2_method_14_code 4 = .ok (.iload_n 3, 1) := by decide +kernel
theorem d_Cards_handSize_5 : decode prog_2_method_14_code 5 = .ok (.bipush 32, 2) := by decide +kernel
theorem d_Cards_handSize_7 : decode prog_2_method_14_code 7 = .ok (.if_icmp .ge 21, 3) := by decide +kernel
theorem d_Cards_handSize_10 : decode prog_2_method_14_code 10 = .ok (.aload_n 0, 1) := by decide +kernel
theorem d_Cards_handSize_11 : decode prog_2_method_14_code 11 = .ok (.iload_n 3, 1) := by decide +kernel
theorem d_Cards_handSize_12 : decode prog_2_method_14_code 12 = .ok (.invokevirtual 62, 3) := by decide +kernel
theorem d_Cards_handSize_15 : decode prog_2_method_14_code 15 = .ok (.iload_n 1, 1) := by decide +kernel
theorem d_Cards_handSize_16 : decode prog_2_method_14_code 16 = .ok (.if_icmp .ne 6, 3) := by decide +kernel
theorem d_Cards_handSize_19 : decode prog_2_method_14_code 19 = .ok (.iinc 2 1, 3) := by decide +kernel
theorem d_Cards_handSize_22 : decode prog_2_method_14_code 22 = .ok (.iinc 3 1, 3) := by decide +kernel
theorem d_Cards_handSize_25 : decode prog_2_method_14_code 25 = .ok (.goto (-21), 3) := by decide +kernel
theorem d_Cards_handSize_28 : decode prog_2_method_14_code 28 = .ok (.iload_n 2, 1) := by decide +kernel
theorem d_Cards_handSize_29 : decode prog_2_method_14_code 29 = .ok (.ireturn, 1) := by decide +kernel
noncomputable def f_Cards_handSize_b22 (e : Nat) (M : gMem) (x1 : Int32) (x2 : Int32) (x3 : Int32) : Option ((Int32 × Int32) ⊕ Int32) :=
  some (.inl (x2, (x3 + 1)))
theorem t_Cards_handSize_b22 {l : Launch} {ε : gEnv} (e : Nat) (hC : gCd ε e) (M : gMem) (x1 : Int32) (x2 : Int32) (x3 : Int32) (res : ((Int32 × Int32) ⊕ Int32)) (h : f_Cards_handSize_b22 e M x1 x2 x3 = some res) (r : Int32) (k1 : ∀ s0 : (Int32 × Int32), res = .inl s0 → gGo l ε k_Cards_handSize (gR 1 21) (gFn ε (some (.int r)) M) 4 [(0, .ref (ε.2.2.1 e 1)), (1, .int x1), (2, .int s0.1), (3, .int s0.2)] [] M) (k2 : ∀ r', res = .inr r' → r' = r) : gGo l ε k_Cards_handSize (gR 1 21) (gFn ε (some (.int r)) M) 22 [(0, .ref (ε.2.2.1 e 1)), (1, .int x1), (2, .int x2), (3, .int x3)] [] M := by
  unfold f_Cards_handSize_b22 at h
  refine g_iinc (v := (x3 + 1)) (L' := [(3, .int (x3 + 1)), (0, .ref (ε.2.2.1 e 1)), (1, .int x1), (2, .int x2)]) d_Cards_handSize_22 (j := 3) rfl rfl (by decide) rfl ?_
  refine g_goto (tgt := 4) d_Cards_handSize_25 (by decide) ?_
  refine gGo_sub [1, 2, 3, 0] rfl ?_
  obtain rfl := Option.some.inj h
  exact k1 (x2, (x3 + 1)) rfl
noncomputable def f_Cards_handSize_s4 (e : Nat) (M : gMem) (x1 : Int32) (x2 : Int32) (x3 : Int32) : Option ((Int32 × Int32) ⊕ Int32) :=
  if 32 ≤ x3 then
    some (.inr x2)
  else
    (f_Cards_holder e M x3).bind fun q1 =>
    if q1 = x1 then
      f_Cards_handSize_b22 e M x1 (x2 + 1) x3
    else
      f_Cards_handSize_b22 e M x1 x2 x3
theorem t_Cards_handSize_s4 {l : Launch} {ε : gEnv} (e : Nat) (hC : gCd ε e) (M : gMem) (x1 : Int32) (x2 : Int32) (x3 : Int32) (res : ((Int32 × Int32) ⊕ Int32)) (h : f_Cards_handSize_s4 e M x1 x2 x3 = some res) (r : Int32) (k1 : ∀ s0 : (Int32 × Int32), res = .inl s0 → gGo l ε k_Cards_handSize (gR 1 21) (gFn ε (some (.int r)) M) 4 [(0, .ref (ε.2.2.1 e 1)), (1, .int x1), (2, .int s0.1), (3, .int s0.2)] [] M) (k2 : ∀ r', res = .inr r' → r' = r) : gGo l ε k_Cards_handSize (gR 1 21) (gFn ε (some (.int r)) M) 4 [(0, .ref (ε.2.2.1 e 1)), (1, .int x1), (2, .int x2), (3, .int x3)] [] M := by
  unfold f_Cards_handSize_s4 at h
  refine g_iload_n d_Cards_handSize_4 rfl 3 rfl ?_
  refine g_bipush (v := 32) d_Cards_handSize_5 (by decide) ?_
  refine g_icmp_ge (tgt := 28) d_Cards_handSize_7 (by decide) (fun c3 => ?_) (fun c3 => ?_)
  · rw [if_pos c3] at h
    refine g_iload_n d_Cards_handSize_28 rfl 2 rfl ?_
    obtain rfl := Option.some.inj h
    have e9 := k2 _ rfl
    subst e9
    exact g_iret d_Cards_handSize_29 rfl
  · rw [if_neg c3] at h
    refine g_aload_n d_Cards_handSize_10 rfl 0 rfl ?_
    refine g_iload_n d_Cards_handSize_11 rfl 3 rfl ?_
    obtain ⟨q1, hq1, h⟩ := gOb h
    refine g_callV_i (As := [.int x3]) (rest := []) (ct_Cards_holder e hC M x3 _ hq1) d_Cards_handSize_12 ca_Cards_holder w_498 (gCd_h1 hC) rfl rfl rfl (Nat.le_of_ble_eq_true rfl) ⟨(Nat.le_of_ble_eq_true rfl), (Nat.le_of_ble_eq_true rfl)⟩ ?_
    refine g_iload_n d_Cards_handSize_15 rfl 1 rfl ?_
    refine g_icmp_ne (tgt := 22) d_Cards_handSize_16 (by decide) (fun c2 => ?_) (fun c2 => ?_)
    · rw [if_neg c2] at h
      exact t_Cards_handSize_b22 e hC M x1 x2 x3 _ h r k1 k2
    · rw [if_pos c2] at h
      refine g_iinc (v := (x2 + 1)) (L' := [(2, .int (x2 + 1)), (0, .ref (ε.2.2.1 e 1)), (1, .int x1), (3, .int x3)]) d_Cards_handSize_19 (j := 2) rfl rfl (by decide) rfl ?_
      refine gGo_sub [1, 2, 0, 3] rfl ?_
      exact t_Cards_handSize_b22 e hC M x1 (x2 + 1) x3 _ h r k1 k2
noncomputable def f_Cards_handSize_l4 (e : Nat) (M : gMem) (x1 : Int32) (s : (Int32 × Int32)) : Option Int32 := gLp (fun s => f_Cards_handSize_s4 e M x1 s.1 s.2) s
theorem t_Cards_handSize_l4 {l : Launch} {ε : gEnv} (e : Nat) (hC : gCd ε e) (M : gMem) (x1 : Int32) (s : (Int32 × Int32)) (r : Int32) (h : f_Cards_handSize_l4 e M x1 s = some r) : gGo l ε k_Cards_handSize (gR 1 21) (gFn ε (some (.int r)) M) 4 [(0, .ref (ε.2.2.1 e 1)), (1, .int x1), (2, .int s.1), (3, .int s.2)] [] M :=
  g_loop _ (fun r s => gGo l ε k_Cards_handSize (gR 1 21) (gFn ε (some (.int r)) M) 4 [(0, .ref (ε.2.2.1 e 1)), (1, .int x1), (2, .int s.1), (3, .int s.2)] [] M) (fun s res h r k1 k2 => t_Cards_handSize_s4 e hC M x1 s.1 s.2 res h r k1 k2) s r h
noncomputable def f_Cards_handSize (e : Nat) (M : gMem) (a0 : Int32) : Option Int32 :=
  f_Cards_handSize_l4 e M a0 (0, 0)
theorem t_Cards_handSize {l : Launch} {ε : gEnv} (e : Nat) (hC : gCd ε e) (M : gMem) (a0 : Int32) (r : Int32) (h : f_Cards_handSize e M a0 = some r) : gGo l ε k_Cards_handSize (gR 1 21) (gFn ε (some (.int r)) M) 0 [(0, .ref (ε.2.2.1 e 1)), (1, .int a0)] [] M := by
  unfold f_Cards_handSize at h
  refine g_iconst (v := 0) d_Cards_handSize_0 (by decide) ?_
  refine g_istore_n (L' := [(2, .int 0), (0, .ref (ε.2.2.1 e 1)), (1, .int a0)]) d_Cards_handSize_1 rfl (by decide) rfl ?_
  refine g_iconst (v := 0) d_Cards_handSize_2 (by decide) ?_
  refine g_istore_n (L' := [(3, .int 0), (2, .int 0), (0, .ref (ε.2.2.1 e 1)), (1, .int a0)]) d_Cards_handSize_3 rfl (by decide) rfl ?_
  refine gGo_sub [2, 3, 1, 0] rfl ?_
  exact t_Cards_handSize_l4 e hC M a0 (0, 0) _ h
theorem ct_Cards_handSize {l : Launch} {ε : gEnv} (e : Nat) (hC : gCd ε e) (M : gMem) (a0 : Int32) (r : Int32) (h : f_Cards_handSize e M a0 = some r) : gCt l ε k_Cards_handSize 1 21 [.ref (ε.2.2.1 e 1), .int a0] M (some (.int r)) M :=
  gCt_of (by decide) (Nat.le_of_ble_eq_true rfl) rfl (t_Cards_handSize e hC M a0 r h)
abbrev k_Cards_largestHand : gMD := (⟨"DropSignals$Cards", "largestHand", "()I"⟩, prog_2_method_15_code, 3, (some .int))
theorem w_787 : Cond.instanceMethod ⟨"DropSignals$Cards", "largestHand", "()I"⟩ ∈ gWs := gWs_in (i := 787) (by decide +kernel) rfl
theorem w_788 : Cond.selects "DropSignals$Cards" ⟨"DropSignals$Cards", "largestHand", "()I"⟩ ⟨"DropSignals$Cards", "largestHand", "()I"⟩ ∈ gWs := gWs_in (i := 788) (by decide +kernel) rfl
set_option maxRecDepth 100000 in
theorem ca_Cards_largestHand : gCaV k_Cards_largestHand 0 := ⟨⟨gWs_in (i := 789) rfl rfl, w_22, by decide, by decide, by decide +kernel⟩, w_787, w_788⟩
theorem d_Cards_largestHand_0 : decode prog_2_method_15_code 0 = .ok (.iconst 0, 1) := by decide +kernel
theorem d_Cards_largestHand_1 : decode prog_2_method_15_code 1 = .ok (.istore_n 1, 1) := by decide +kernel
theorem d_Cards_largestHand_2 : decode prog_2_method_15_code 2 = .ok (.iconst 0, 1) := by decide +kernel
theorem d_Cards_largestHand_3 : decode prog_2_method_15_code 3 = .ok (.istore_n 2, 1) := by decide +kernel
theorem d_Cards_largestHand_4 : decode prog_2_method_15_code 4 = .ok (.iload_n 2, 1) := by decide +kernel
theorem d_Cards_largestHand_5 : decode prog_2_method_15_code 5 = .ok (.iconst 4, 1) := by decide +kernel
theorem d_Cards_largestHand_6 : decode prog_2_method_15_code 6 = .ok (.if_icmp .ge 19, 3) := by decide +kernel
theorem d_Cards_largestHand_9 : decode prog_2_method_15_code 9 = .ok (.iload_n 1, 1) := by decide +kernel
theorem d_Cards_largestHand_10 : decode prog_2_method_15_code 10 = .ok (.aload_n 0, 1) := by decide +kernel
theorem d_Cards_largestHand_11 : decode prog_2_method_15_code 11 = .ok (.iload_n 2, 1) := by decide +kernel
theorem d_Cards_largestHand_12 : decode prog_2_method_15_code 12 = .ok (.invokevirtual 65, 3) := by decide +kernel
theorem d_Cards_largestHand_15 : decode prog_2_method_15_code 15 = .ok (.invokestatic 68, 3) := by decide +kernel
theorem d_Cards_largestHand_18 : decode prog_2_method_15_code 18 = .ok (.istore_n 1, 1) := by decide +kernel
theorem d_Cards_largestHand_19 : decode prog_2_method_15_code 19 = .ok (.iinc 2 1, 3) := by decide +kernel
theorem d_Cards_largestHand_22 : decode prog_2_method_15_code 22 = .ok (.goto (-18), 3) := by decide +kernel
theorem d_Cards_largestHand_25 : decode prog_2_method_15_code 25 = .ok (.iload_n 1, 1) := by decide +kernel
theorem d_Cards_largestHand_26 : decode prog_2_method_15_code 26 = .ok (.ireturn, 1) := by decide +kernel
theorem w_790 : Cond.methodLink "DropSignals$Cards" 65 ⟨"DropSignals$Cards", "handSize", "(I)I"⟩ ∈ gWs := gWs_in (i := 790) (by decide +kernel) rfl
theorem w_794 : Cond.methodLink "DropSignals$Cards" 68 Lib.Math.max.name ∈ gWs := gWs_in (i := 794) (by decide +kernel) rfl
theorem w_795 : Cond.static Lib.Math.max.name ∈ gWs := gWs_in (i := 795) (by decide +kernel) rfl
theorem w_796 : Cond.code Lib.Math.max.name Lib.Math.max.code 2 (some .int) ∈ gWs := gWs_in (i := 796) (by decide +kernel) rfl
noncomputable def f_Cards_largestHand_s4 (e : Nat) (M : gMem) (x1 : Int32) (x2 : Int32) : Option ((Int32 × Int32) ⊕ Int32) :=
  if 4 ≤ x2 then
    some (.inr x1)
  else
    (f_Cards_handSize e M x2).bind fun q1 =>
    some (.inl ((if x1 < q1 then q1 else x1), (x2 + 1)))
theorem t_Cards_largestHand_s4 {l : Launch} {ε : gEnv} (e : Nat) (hC : gCd ε e) (M : gMem) (x1 : Int32) (x2 : Int32) (res : ((Int32 × Int32) ⊕ Int32)) (h : f_Cards_largestHand_s4 e M x1 x2 = some res) (r : Int32) (k1 : ∀ s0 : (Int32 × Int32), res = .inl s0 → gGo l ε k_Cards_largestHand (gR 2 44) (gFn ε (some (.int r)) M) 4 [(0, .ref (ε.2.2.1 e 1)), (1, .int s0.1), (2, .int s0.2)] [] M) (k2 : ∀ r', res = .inr r' → r' = r) : gGo l ε k_Cards_largestHand (gR 2 44) (gFn ε (some (.int r)) M) 4 [(0, .ref (ε.2.2.1 e 1)), (1, .int x1), (2, .int x2)] [] M := by
  unfold f_Cards_largestHand_s4 at h
  refine g_iload_n d_Cards_largestHand_4 rfl 2 rfl ?_
  refine g_iconst (v := 4) d_Cards_largestHand_5 (by decide) ?_
  refine g_icmp_ge (tgt := 25) d_Cards_largestHand_6 (by decide) (fun c2 => ?_) (fun c2 => ?_)
  · rw [if_pos c2] at h
    refine g_iload_n d_Cards_largestHand_25 rfl 1 rfl ?_
    obtain rfl := Option.some.inj h
    have e9 := k2 _ rfl
    subst e9
    exact g_iret d_Cards_largestHand_26 rfl
  · rw [if_neg c2] at h
    refine g_iload_n d_Cards_largestHand_9 rfl 1 rfl ?_
    refine g_aload_n d_Cards_largestHand_10 rfl 0 rfl ?_
    refine g_iload_n d_Cards_largestHand_11 rfl 2 rfl ?_
    obtain ⟨q1, hq1, h⟩ := gOb h
    refine g_callV_i (As := [.int x2]) (rest := [.int x1]) (ct_Cards_handSize e hC M x2 _ hq1) d_Cards_largestHand_12 ca_Cards_handSize w_790 (gCd_h1 hC) rfl rfl rfl (Nat.le_of_ble_eq_true rfl) ⟨(Nat.le_of_ble_eq_true rfl), (Nat.le_of_ble_eq_true rfl)⟩ ?_
    refine g_max d_Cards_largestHand_15 w_794 w_795 w_36 w_796 (Nat.le_of_ble_eq_true rfl) (Nat.le_of_ble_eq_true rfl) ?_
    refine g_istore_n (L' := [(1, .int (if x1 < q1 then q1 else x1)), (0, .ref (ε.2.2.1 e 1)), (2, .int x2)]) d_Cards_largestHand_18 rfl (by decide) rfl ?_
    refine g_iinc (v := (x2 + 1)) (L' := [(2, .int (x2 + 1)), (1, .int (if x1 < q1 then q1 else x1)), (0, .ref (ε.2.2.1 e 1))]) d_Cards_largestHand_19 (j := 2) rfl rfl (by decide) rfl ?_
    refine g_goto (tgt := 4) d_Cards_largestHand_22 (by decide) ?_
    refine gGo_sub [2, 1, 0] rfl ?_
    obtain rfl := Option.some.inj h
    exact k1 ((if x1 < q1 then q1 else x1), (x2 + 1)) rfl
noncomputable def f_Cards_largestHand_l4 (e : Nat) (M : gMem) (s : (Int32 × Int32)) : Option Int32 := gLp (fun s => f_Cards_largestHand_s4 e M s.1 s.2) s
theorem t_Cards_largestHand_l4 {l : Launch} {ε : gEnv} (e : Nat) (hC : gCd ε e) (M : gMem) (s : (Int32 × Int32)) (r : Int32) (h : f_Cards_largestHand_l4 e M s = some r) : gGo l ε k_Cards_largestHand (gR 2 44) (gFn ε (some (.int r)) M) 4 [(0, .ref (ε.2.2.1 e 1)), (1, .int s.1), (2, .int s.2)] [] M :=
  g_loop _ (fun r s => gGo l ε k_Cards_largestHand (gR 2 44) (gFn ε (some (.int r)) M) 4 [(0, .ref (ε.2.2.1 e 1)), (1, .int s.1), (2, .int s.2)] [] M) (fun s res h r k1 k2 => t_Cards_largestHand_s4 e hC M s.1 s.2 res h r k1 k2) s r h
noncomputable def f_Cards_largestHand (e : Nat) (M : gMem) : Option Int32 :=
  f_Cards_largestHand_l4 e M (0, 0)
theorem t_Cards_largestHand {l : Launch} {ε : gEnv} (e : Nat) (hC : gCd ε e) (M : gMem) (r : Int32) (h : f_Cards_largestHand e M = some r) : gGo l ε k_Cards_largestHand (gR 2 44) (gFn ε (some (.int r)) M) 0 [(0, .ref (ε.2.2.1 e 1))] [] M := by
  unfold f_Cards_largestHand at h
  refine g_iconst (v := 0) d_Cards_largestHand_0 (by decide) ?_
  refine g_istore_n (L' := [(1, .int 0), (0, .ref (ε.2.2.1 e 1))]) d_Cards_largestHand_1 rfl (by decide) rfl ?_
  refine g_iconst (v := 0) d_Cards_largestHand_2 (by decide) ?_
  refine g_istore_n (L' := [(2, .int 0), (1, .int 0), (0, .ref (ε.2.2.1 e 1))]) d_Cards_largestHand_3 rfl (by decide) rfl ?_
  refine gGo_sub [2, 1, 0] rfl ?_
  exact t_Cards_largestHand_l4 e hC M (0, 0) _ h
theorem ct_Cards_largestHand {l : Launch} {ε : gEnv} (e : Nat) (hC : gCd ε e) (M : gMem) (r : Int32) (h : f_Cards_largestHand e M = some r) : gCt l ε k_Cards_largestHand 2 44 [.ref (ε.2.2.1 e 1)] M (some (.int r)) M :=
  gCt_of (by decide) (Nat.le_of_ble_eq_true rfl) rfl (t_Cards_largestHand e hC M r h)
abbrev k_Cards_unseen : gMD := (⟨"DropSignals$Cards", "unseen", "(II)I"⟩, prog_2_method_16_code, 5, (some .int))
theorem w_886 : Cond.instanceMethod ⟨"DropSignals$Cards", "unseen", "(II)I"⟩ ∈ gWs := gWs_in (i := 886) (by decide +kernel) rfl
theorem w_887 : Cond.selects "DropSignals$Cards" ⟨"DropSignals$Cards", "unseen", "(II)I"⟩ ⟨"DropSignals$Cards", "unseen", "(II)I"⟩ ∈ gWs := gWs_in (i := 887) (by decide +kernel) rfl
set_option maxRecDepth 100000 in
theorem ca_Cards_unseen : gCaV k_Cards_unseen 2 := ⟨⟨gWs_in (i := 888) rfl rfl, w_22, by decide, by decide, by decide +kernel⟩, w_886, w_887⟩
theorem d_Cards_unseen_0 : decode prog_2_method_16_code 0 = .ok (.iconst 0, 1) := by decide +kernel
theorem d_Cards_unseen_1 : decode prog_2_method_16_code 1 = .ok (.istore_n 3, 1) := by decide +kernel
theorem d_Cards_unseen_2 : decode prog_2_method_16_code 2 = .ok (.iconst 0, 1) := by decide +kernel
theorem d_Cards_unseen_3 : decode prog_2_method_16_code 3 = .ok (.istore 4, 2) := by decide +kernel
theorem d_Cards_unseen_5 : decode prog_2_method_16_code 5 = .ok (.iload 4, 2) := by decide +kernel
theorem d_Cards_unseen_7 : decode prog_2_method_16_code 7 = .ok (.iconst 4, 1) := by decide +kernel
theorem d_Cards_unseen_8 : decode prog_2_method_16_code 8 = .ok (.if_icmp .ge 25, 3) := by decide +kernel
theorem d_Cards_unseen_11 : decode prog_2_method_16_code 11 = .ok (.iload 4, 2) := by decide +kernel
theorem d_Cards_unseen_13 : decode prog_2_method_16_code 13 = .ok (.iload_n 1, 1) := by decide +kernel
theorem d_Cards_unseen_14 : decode prog_2_method_16_code 14 = .ok (.if_icmp .eq 13, 3) := by decide +kernel
theorem d_Cards_unseen_17 : decode prog_2_method_16_code 17 = .ok (.iload_n 3, 1) := by decide +kernel
theorem d_Cards_unseen_18 : decode prog_2_method_16_code 18 = .ok (.aload_n 0, 1) := by decide +kernel
theorem d_Cards_unseen_19 : decode prog_2_method_16_code 19 = .ok (.iload 4, 2) := by decide +kernel
theorem d_Cards_unseen_21 : decode prog_2_method_16_code 21 = .ok (.iload_n 2, 1) := by decide +kernel
theorem d_Cards_unseen_22 : decode prog_2_method_16_code 22 = .ok (.invokevirtual 74, 3) := by decide +kernel
theorem d_Cards_unseen_25 : decode prog_2_method_16_code 25 = .ok (.iadd, 1) := by decide +kernel
theorem d_Cards_unseen_26 : decode prog_2_method_16_code 26 = .ok (.istore_n 3, 1) := by decide +kernel
theorem d_Cards_unseen_27 : decode prog_2_method_16_code 27 = .ok (.iinc 4 1, 3) := by decide +kernel
theorem d_Cards_unseen_30 : decode prog_2_method_16_code 30 = .ok (.goto (-25), 3) := by decide +kernel
theorem d_Cards_unseen_33 : decode prog_2_method_16_code 33 = .ok (.iload_n 3, 1) := by decide +kernel
theorem d_Cards_unseen_34 : decode prog_2_method_16_code 34 = .ok (.ireturn, 1) := by decide +kernel
theorem w_889 : Cond.methodLink "DropSignals$Cards" 74 ⟨"DropSignals$Cards", "held", "(II)I"⟩ ∈ gWs := gWs_in (i := 889) (by decide +kernel) rfl
noncomputable def f_Cards_unseen_b27 (e : Nat) (M : gMem) (x1 : Int32) (x2 : Int32) (x3 : Int32) (x4 : Int32) : Option ((Int32 × Int32) ⊕ Int32) :=
  some (.inl (x3, (x4 + 1)))
theorem t_Cards_unseen_b27 {l : Launch} {ε : gEnv} (e : Nat) (hC : gCd ε e) (M : gMem) (x1 : Int32) (x2 : Int32) (x3 : Int32) (x4 : Int32) (res : ((Int32 × Int32) ⊕ Int32)) (h : f_Cards_unseen_b27 e M x1 x2 x3 x4 = some res) (r : Int32) (k1 : ∀ s0 : (Int32 × Int32), res = .inl s0 → gGo l ε k_Cards_unseen (gR 2 45) (gFn ε (some (.int r)) M) 5 [(0, .ref (ε.2.2.1 e 1)), (1, .int x1), (2, .int x2), (3, .int s0.1), (4, .int s0.2)] [] M) (k2 : ∀ r', res = .inr r' → r' = r) : gGo l ε k_Cards_unseen (gR 2 45) (gFn ε (some (.int r)) M) 27 [(0, .ref (ε.2.2.1 e 1)), (1, .int x1), (2, .int x2), (3, .int x3), (4, .int x4)] [] M := by
  unfold f_Cards_unseen_b27 at h
  refine g_iinc (v := (x4 + 1)) (L' := [(4, .int (x4 + 1)), (0, .ref (ε.2.2.1 e 1)), (1, .int x1), (2, .int x2), (3, .int x3)]) d_Cards_unseen_27 (j := 4) rfl rfl (by decide) rfl ?_
  refine g_goto (tgt := 5) d_Cards_unseen_30 (by decide) ?_
  refine gGo_sub [1, 2, 3, 4, 0] rfl ?_
  obtain rfl := Option.some.inj h
  exact k1 (x3, (x4 + 1)) rfl
noncomputable def f_Cards_unseen_s5 (e : Nat) (M : gMem) (x1 : Int32) (x2 : Int32) (x3 : Int32) (x4 : Int32) : Option ((Int32 × Int32) ⊕ Int32) :=
  if 4 ≤ x4 then
    some (.inr x3)
  else
    if x4 = x1 then
      f_Cards_unseen_b27 e M x1 x2 x3 x4
    else
      (f_Cards_held e M x4 x2).bind fun q1 =>
      f_Cards_unseen_b27 e M x1 x2 (x3 + q1) x4
theorem t_Cards_unseen_s5 {l : Launch} {ε : gEnv} (e : Nat) (hC : gCd ε e) (M : gMem) (x1 : Int32) (x2 : Int32) (x3 : Int32) (x4 : Int32) (res : ((Int32 × Int32) ⊕ Int32)) (h : f_Cards_unseen_s5 e M x1 x2 x3 x4 = some res) (r : Int32) (k1 : ∀ s0 : (Int32 × Int32), res = .inl s0 → gGo l ε k_Cards_unseen (gR 2 45) (gFn ε (some (.int r)) M) 5 [(0, .ref (ε.2.2.1 e 1)), (1, .int x1), (2, .int x2), (3, .int s0.1), (4, .int s0.2)] [] M) (k2 : ∀ r', res = .inr r' → r' = r) : gGo l ε k_Cards_unseen (gR 2 45) (gFn ε (some (.int r)) M) 5 [(0, .ref (ε.2.2.1 e 1)), (1, .int x1), (2, .int x2), (3, .int x3), (4, .int x4)] [] M := by
  unfold f_Cards_unseen_s5 at h
  refine g_iload d_Cards_unseen_5 4 rfl ?_
  refine g_iconst (v := 4) d_Cards_unseen_7 (by decide) ?_
  refine g_icmp_ge (tgt := 33) d_Cards_unseen_8 (by decide) (fun c3 => ?_) (fun c3 => ?_)
  · rw [if_pos c3] at h
    refine g_iload_n d_Cards_unseen_33 rfl 3 rfl ?_
    obtain rfl := Option.some.inj h
    have e9 := k2 _ rfl
    subst e9
    exact g_iret d_Cards_unseen_34 rfl
  · rw [if_neg c3] at h
    refine g_iload d_Cards_unseen_11 4 rfl ?_
    refine g_iload_n d_Cards_unseen_13 rfl 1 rfl ?_
    refine g_icmp_eq (tgt := 27) d_Cards_unseen_14 (by decide) (fun c2 => ?_) (fun c2 => ?_)
    · rw [if_pos c2] at h
      exact t_Cards_unseen_b27 e hC M x1 x2 x3 x4 _ h r k1 k2
    · rw [if_neg c2] at h
      refine g_iload_n d_Cards_unseen_17 rfl 3 rfl ?_
      refine g_aload_n d_Cards_unseen_18 rfl 0 rfl ?_
      refine g_iload d_Cards_unseen_19 4 rfl ?_
      refine g_iload_n d_Cards_unseen_21 rfl 2 rfl ?_
      obtain ⟨q1, hq1, h⟩ := gOb h
      refine g_callV_i (As := [.int x4, .int x2]) (rest := [.int x3]) (ct_Cards_held e hC M x4 x2 _ hq1) d_Cards_unseen_22 ca_Cards_held w_889 (gCd_h1 hC) rfl rfl rfl (Nat.le_of_ble_eq_true rfl) ⟨(Nat.le_of_ble_eq_true rfl), (Nat.le_of_ble_eq_true rfl)⟩ ?_
      refine g_iadd d_Cards_unseen_25 ?_
      refine g_istore_n (L' := [(3, .int (x3 + q1)), (0, .ref (ε.2.2.1 e 1)), (1, .int x1), (2, .int x2), (4, .int x4)]) d_Cards_unseen_26 rfl (by decide) rfl ?_
      refine gGo_sub [1, 2, 3, 0, 4] rfl ?_
      exact t_Cards_unseen_b27 e hC M x1 x2 (x3 + q1) x4 _ h r k1 k2
noncomputable def f_Cards_unseen_l5 (e : Nat) (M : gMem) (x1 : Int32) (x2 : Int32) (s : (Int32 × Int32)) : Option Int32 := gLp (fun s => f_Cards_unseen_s5 e M x1 x2 s.1 s.2) s
theorem t_Cards_unseen_l5 {l : Launch} {ε : gEnv} (e : Nat) (hC : gCd ε e) (M : gMem) (x1 : Int32) (x2 : Int32) (s : (Int32 × Int32)) (r : Int32) (h : f_Cards_unseen_l5 e M x1 x2 s = some r) : gGo l ε k_Cards_unseen (gR 2 45) (gFn ε (some (.int r)) M) 5 [(0, .ref (ε.2.2.1 e 1)), (1, .int x1), (2, .int x2), (3, .int s.1), (4, .int s.2)] [] M :=
  g_loop _ (fun r s => gGo l ε k_Cards_unseen (gR 2 45) (gFn ε (some (.int r)) M) 5 [(0, .ref (ε.2.2.1 e 1)), (1, .int x1), (2, .int x2), (3, .int s.1), (4, .int s.2)] [] M) (fun s res h r k1 k2 => t_Cards_unseen_s5 e hC M x1 x2 s.1 s.2 res h r k1 k2) s r h
noncomputable def f_Cards_unseen (e : Nat) (M : gMem) (a0 : Int32) (a1 : Int32) : Option Int32 :=
  f_Cards_unseen_l5 e M a0 a1 (0, 0)
theorem t_Cards_unseen {l : Launch} {ε : gEnv} (e : Nat) (hC : gCd ε e) (M : gMem) (a0 : Int32) (a1 : Int32) (r : Int32) (h : f_Cards_unseen e M a0 a1 = some r) : gGo l ε k_Cards_unseen (gR 2 45) (gFn ε (some (.int r)) M) 0 [(0, .ref (ε.2.2.1 e 1)), (1, .int a0), (2, .int a1)] [] M := by
  unfold f_Cards_unseen at h
  refine g_iconst (v := 0) d_Cards_unseen_0 (by decide) ?_
  refine g_istore_n (L' := [(3, .int 0), (0, .ref (ε.2.2.1 e 1)), (1, .int a0), (2, .int a1)]) d_Cards_unseen_1 rfl (by decide) rfl ?_
  refine g_iconst (v := 0) d_Cards_unseen_2 (by decide) ?_
  refine g_istore (L' := [(4, .int 0), (3, .int 0), (0, .ref (ε.2.2.1 e 1)), (1, .int a0), (2, .int a1)]) d_Cards_unseen_3 (by decide) rfl ?_
  refine gGo_sub [2, 3, 4, 1, 0] rfl ?_
  exact t_Cards_unseen_l5 e hC M a0 a1 (0, 0) _ h
theorem ct_Cards_unseen {l : Launch} {ε : gEnv} (e : Nat) (hC : gCd ε e) (M : gMem) (a0 : Int32) (a1 : Int32) (r : Int32) (h : f_Cards_unseen e M a0 a1 = some r) : gCt l ε k_Cards_unseen 2 45 [.ref (ε.2.2.1 e 1), .int a0, .int a1] M (some (.int r)) M :=
  gCt_of (by decide) (Nat.le_of_ble_eq_true rfl) rfl (t_Cards_unseen e hC M a0 a1 r h)
abbrev k_Drops_clear : gMD := (⟨"DropSignals$Drops", "clear", "()V"⟩, prog_3_method_2_code, 1, none)
theorem w_24 : Cond.initialized "DropSignals$Drops" ∈ gWs := gWs_in (i := 24) (by decide +kernel) rfl
theorem w_88 : Cond.instanceMethod ⟨"DropSignals$Drops", "clear", "()V"⟩ ∈ gWs := gWs_in (i := 88) (by decide +kernel) rfl
theorem w_89 : Cond.selects "DropSignals$Drops" ⟨"DropSignals$Drops", "clear", "()V"⟩ ⟨"DropSignals$Drops", "clear", "()V"⟩ ∈ gWs := gWs_in (i := 89) (by decide +kernel) rfl
set_option maxRecDepth 100000 in
theorem ca_Drops_clear : gCaV k_Drops_clear 0 := ⟨⟨gWs_in (i := 90) rfl rfl, w_24, by decide, by decide, by decide +kernel⟩, w_88, w_89⟩
theorem d_Drops_clear_0 : decode prog_3_method_2_code 0 = .ok (.aload_n 0, 1) := by decide +kernel
theorem d_Drops_clear_1 : decode prog_3_method_2_code 1 = .ok (.getfield 9, 3) := by decide +kernel
theorem d_Drops_clear_4 : decode prog_3_method_2_code 4 = .ok (.iconst 0, 1) := by decide +kernel
theorem d_Drops_clear_5 : decode prog_3_method_2_code 5 = .ok (.invokestatic 27, 3) := by decide +kernel
theorem d_Drops_clear_8 : decode prog_3_method_2_code 8 = .ok (.aload_n 0, 1) := by decide +kernel
theorem d_Drops_clear_9 : decode prog_3_method_2_code 9 = .ok (.getfield 15, 3) := by decide +kernel
theorem d_Drops_clear_12 : decode prog_3_method_2_code 12 = .ok (.iconst (-1), 1) := by decide +kernel
theorem d_Drops_clear_13 : decode prog_3_method_2_code 13 = .ok (.invokestatic 27, 3) := by decide +kernel
theorem d_Drops_clear_16 : decode prog_3_method_2_code 16 = .ok (.aload_n 0, 1) := by decide +kernel
theorem d_Drops_clear_17 : decode prog_3_method_2_code 17 = .ok (.getfield 18, 3) := by decide +kernel
theorem d_Drops_clear_20 : decode prog_3_method_2_code 20 = .ok (.iconst 0, 1) := by decide +kernel
theorem d_Drops_clear_21 : decode prog_3_method_2_code 21 = .ok (.invokestatic 27, 3) := by decide +kernel
theorem d_Drops_clear_24 : decode prog_3_method_2_code 24 = .ok (.aload_n 0, 1) := by decide +kernel
theorem d_Drops_clear_25 : decode prog_3_method_2_code 25 = .ok (.getfield 21, 3) := by decide +kernel
theorem d_Drops_clear_28 : decode prog_3_method_2_code 28 = .ok (.iconst 0, 1) := by decide +kernel
theorem d_Drops_clear_29 : decode prog_3_method_2_code 29 = .ok (.invokestatic 27, 3) := by decide +kernel
theorem d_Drops_clear_32 : decode prog_3_method_2_code 32 = .ok (.return_, 1) := by decide +kernel
theorem uw_1 : ∀ w ∈ u_ws gN1 gF1 4, w ∈ gWs := by
  intro w hw
  have h := List.all_eq_true.mp (show (u_ws gN1 gF1 4).all (fun w => decide (w ∈ lw_tbl) && goodWord w) = true by decide +kernel) w hw
  simp only [Bool.and_eq_true, decide_eq_true_eq] at h
  exact List.mem_filter.mpr h
theorem w_92 : Cond.fieldLink "DropSignals$Drops" 9 "DropSignals$Drops" "counts" "[I" ∈ gWs := gWs_in (i := 92) (by decide +kernel) rfl
theorem fl_Drops_9 : gFl "DropSignals$Drops" 9 1 0 := ⟨gN1, gF1, 4, rfl, uw_1, by decide, w_92⟩
theorem w_91 : Cond.methodLink "DropSignals$Drops" 27 ⟨"java/util/Arrays", "fill", "([II)V"⟩ ∈ gWs := gWs_in (i := 91) (by decide +kernel) rfl
theorem w_93 : Cond.fieldLink "DropSignals$Drops" 15 "DropSignals$Drops" "firsts" "[I" ∈ gWs := gWs_in (i := 93) (by decide +kernel) rfl
theorem fl_Drops_15 : gFl "DropSignals$Drops" 15 1 1 := ⟨gN1, gF1, 4, rfl, uw_1, by decide, w_93⟩
theorem w_94 : Cond.fieldLink "DropSignals$Drops" 18 "DropSignals$Drops" "signals" "[I" ∈ gWs := gWs_in (i := 94) (by decide +kernel) rfl
theorem fl_Drops_18 : gFl "DropSignals$Drops" 18 1 2 := ⟨gN1, gF1, 4, rfl, uw_1, by decide, w_94⟩
theorem w_95 : Cond.fieldLink "DropSignals$Drops" 21 "DropSignals$Drops" "nones" "[I" ∈ gWs := gWs_in (i := 95) (by decide +kernel) rfl
theorem fl_Drops_21 : gFl "DropSignals$Drops" 21 1 3 := ⟨gN1, gF1, 4, rfl, uw_1, by decide, w_95⟩
noncomputable def f_Drops_clear (e : Nat) (M : gMem) : Option gMem :=
  (f_JA_fill e 8 16 M 0).bind fun q1 =>
  (f_JA_fill e 9 16 q1 (-1)).bind fun q2 =>
  (f_JA_fill e 10 16 q2 0).bind fun q3 =>
  (f_JA_fill e 11 16 q3 0).bind fun q4 =>
  some q4
theorem t_Drops_clear {l : Launch} {ε : gEnv} (e : Nat) (hD : gDr ε e) (M : gMem) (r : gMem) (h : f_Drops_clear e M = some r) : gGo l ε k_Drops_clear (gR 1 23) (gFn ε none r) 0 [(0, .ref (ε.2.2.1 e 2))] [] M := by
  unfold f_Drops_clear at h
  refine g_aload_n d_Drops_clear_0 rfl 0 rfl ?_
  refine g_getR d_Drops_clear_1 fl_Drops_9 (gDr_h2 hD) rfl ?_
  refine g_iconst (v := 0) d_Drops_clear_4 (by decide) ?_
  obtain ⟨q1, hq1, h⟩ := gOb h
  refine g_callS_v (As := [.ref (ε.2.2.1 e 8), .int 0]) (rest := []) (ct_JA_fill e 8 16 (gDr_h8 hD) M 0 _ hq1) d_Drops_clear_5 ca_JA_fill w_91 rfl rfl (Nat.le_of_ble_eq_true rfl) ⟨(Nat.le_of_ble_eq_true rfl), (Nat.le_of_ble_eq_true rfl)⟩ ?_
  refine g_aload_n d_Drops_clear_8 rfl 0 rfl ?_
  refine g_getR d_Drops_clear_9 fl_Drops_15 (gDr_h2 hD) rfl ?_
  refine g_iconst (v := -1) d_Drops_clear_12 (by decide) ?_
  obtain ⟨q2, hq2, h⟩ := gOb h
  refine g_callS_v (As := [.ref (ε.2.2.1 e 9), .int (-1)]) (rest := []) (ct_JA_fill e 9 16 (gDr_h9 hD) q1 (-1) _ hq2) d_Drops_clear_13 ca_JA_fill w_91 rfl rfl (Nat.le_of_ble_eq_true rfl) ⟨(Nat.le_of_ble_eq_true rfl), (Nat.le_of_ble_eq_true rfl)⟩ ?_
  refine g_aload_n d_Drops_clear_16 rfl 0 rfl ?_
  refine g_getR d_Drops_clear_17 fl_Drops_18 (gDr_h2 hD) rfl ?_
  refine g_iconst (v := 0) d_Drops_clear_20 (by decide) ?_
  obtain ⟨q3, hq3, h⟩ := gOb h
  refine g_callS_v (As := [.ref (ε.2.2.1 e 10), .int 0]) (rest := []) (ct_JA_fill e 10 16 (gDr_h10 hD) q2 0 _ hq3) d_Drops_clear_21 ca_JA_fill w_91 rfl rfl (Nat.le_of_ble_eq_true rfl) ⟨(Nat.le_of_ble_eq_true rfl), (Nat.le_of_ble_eq_true rfl)⟩ ?_
  refine g_aload_n d_Drops_clear_24 rfl 0 rfl ?_
  refine g_getR d_Drops_clear_25 fl_Drops_21 (gDr_h2 hD) rfl ?_
  refine g_iconst (v := 0) d_Drops_clear_28 (by decide) ?_
  obtain ⟨q4, hq4, h⟩ := gOb h
  refine g_callS_v (As := [.ref (ε.2.2.1 e 11), .int 0]) (rest := []) (ct_JA_fill e 11 16 (gDr_h11 hD) q3 0 _ hq4) d_Drops_clear_29 ca_JA_fill w_91 rfl rfl (Nat.le_of_ble_eq_true rfl) ⟨(Nat.le_of_ble_eq_true rfl), (Nat.le_of_ble_eq_true rfl)⟩ ?_
  obtain rfl := Option.some.inj h
  exact g_vret d_Drops_clear_32 rfl
theorem ct_Drops_clear {l : Launch} {ε : gEnv} (e : Nat) (hD : gDr ε e) (M : gMem) (r : gMem) (h : f_Drops_clear e M = some r) : gCt l ε k_Drops_clear 1 23 [.ref (ε.2.2.1 e 2)] M none r :=
  gCt_of (by decide) (Nat.le_of_ble_eq_true rfl) rfl (t_Drops_clear e hD M r h)
abbrev k_Drops_copyFrom : gMD := (⟨"DropSignals$Drops", "copyFrom", "(LDropSignals$Drops;)V"⟩, prog_3_method_3_code, 2, none)
theorem w_718 : Cond.instanceMethod ⟨"DropSignals$Drops", "copyFrom", "(LDropSignals$Drops;)V"⟩ ∈ gWs := gWs_in (i := 718) (by decide +kernel) rfl
theorem w_719 : Cond.selects "DropSignals$Drops" ⟨"DropSignals$Drops", "copyFrom", "(LDropSignals$Drops;)V"⟩ ⟨"DropSignals$Drops", "copyFrom", "(LDropSignals$Drops;)V"⟩ ∈ gWs := gWs_in (i := 719) (by decide +kernel) rfl
set_option maxRecDepth 100000 in
theorem ca_Drops_copyFrom : gCaV k_Drops_copyFrom 1 := ⟨⟨gWs_in (i := 720) rfl rfl, w_24, by decide, by decide, by decide +kernel⟩, w_718, w_719⟩
theorem d_Drops_copyFrom_0 : decode prog_3_method_3_code 0 = .ok (.aload_n 1, 1) := by decide +kernel
theorem d_Drops_copyFrom_1 : decode prog_3_method_3_code 1 = .ok (.getfield 9, 3) := by decide +kernel
theorem d_Drops_copyFrom_4 : decode prog_3_method_3_code 4 = .ok (.aload_n 0, 1) := by decide +kernel
theorem d_Drops_copyFrom_5 : decode prog_3_method_3_code 5 = .ok (.getfield 9, 3) := by decide +kernel
theorem d_Drops_copyFrom_8 : decode prog_3_method_3_code 8 = .ok (.invokestatic 33, 3) := by decide +kernel
theorem d_Drops_copyFrom_11 : decode prog_3_method_3_code 11 = .ok (.aload_n 1, 1) := by decide +kernel
theorem d_Drops_copyFrom_12 : decode prog_3_method_3_code 12 = .ok (.getfield 15, 3) := by decide +kernel
theorem d_Drops_copyFrom_15 : decode prog_3_method_3_code 15 = .ok (.aload_n 0, 1) := by decide +kernel
theorem d_Drops_copyFrom_16 : decode prog_3_method_3_code 16 = .ok (.getfield 15, 3) := by decide +kernel
theorem d_Drops_copyFrom_19 : decode prog_3_method_3_code 19 = .ok (.invokestatic 33, 3) := by decide +kernel
theorem d_Drops_copyFrom_22 : decode prog_3_method_3_code 22 = .ok (.aload_n 1, 1) := by decide +kernel
theorem d_Drops_copyFrom_23 : decode prog_3_method_3_code 23 = .ok (.getfield 18, 3) := by decide +kernel
theorem d_Drops_copyFrom_26 : decode prog_3_method_3_code 26 = .ok (.aload_n 0, 1) := by decide +kernel
theorem d_Drops_copyFrom_27 : decode prog_3_method_3_code 27 = .ok (.getfield 18, 3) := by decide +kernel
theorem d_Drops_copyFrom_30 : decode prog_3_method_3_code 30 = .ok (.invokestatic 33, 3) := by decide +kernel
theorem d_Drops_copyFrom_33 : decode prog_3_method_3_code 33 = .ok (.aload_n 1, 1) := by decide +kernel
theorem d_Drops_copyFrom_34 : decode prog_3_method_3_code 34 = .ok (.getfield 21, 3) := by decide +kernel
theorem d_Drops_copyFrom_37 : decode prog_3_method_3_code 37 = .ok (.aload_n 0, 1) := by decide +kernel
theorem d_Drops_copyFrom_38 : decode prog_3_method_3_code 38 = .ok (.getfield 21, 3) := by decide +kernel
theorem d_Drops_copyFrom_41 : decode prog_3_method_3_code 41 = .ok (.invokestatic 33, 3) := by decide +kernel
theorem d_Drops_copyFrom_44 : decode prog_3_method_3_code 44 = .ok (.return_, 1) := by decide +kernel
noncomputable def f_Drops_copyFrom (e : Nat) (e0 : Nat) (M : gMem) : Option gMem :=
  (f_DS_copyRow e0 8 16 e 8 16 M).bind fun q1 =>
  (f_DS_copyRow e0 9 16 e 9 16 q1).bind fun q2 =>
  (f_DS_copyRow e0 10 16 e 10 16 q2).bind fun q3 =>
  (f_DS_copyRow e0 11 16 e 11 16 q3).bind fun q4 =>
  some q4
theorem t_Drops_copyFrom {l : Launch} {ε : gEnv} (e : Nat) (e0 : Nat) (hD : gDr ε e) (hD0 : gDr ε e0) (M : gMem) (r : gMem) (h : f_Drops_copyFrom e e0 M = some r) : gGo l ε k_Drops_copyFrom (gR 2 51) (gFn ε none r) 0 [(0, .ref (ε.2.2.1 e 2)), (1, .ref (ε.2.2.1 e0 2))] [] M := by
  unfold f_Drops_copyFrom at h
  refine g_aload_n d_Drops_copyFrom_0 rfl 1 rfl ?_
  refine g_getR d_Drops_copyFrom_1 fl_Drops_9 (gDr_h2 hD0) rfl ?_
  refine g_aload_n d_Drops_copyFrom_4 rfl 0 rfl ?_
  refine g_getR d_Drops_copyFrom_5 fl_Drops_9 (gDr_h2 hD) rfl ?_
  obtain ⟨q1, hq1, h⟩ := gOb h
  refine g_callN_v (As := [.ref (ε.2.2.1 e0 8), .ref (ε.2.2.1 e 8)]) (rest := []) (j := 721) (host := "DropSignals") (ct_DS_copyRow e0 8 16 e 8 16 (gDr_h8 hD0) (gDr_h8 hD) M _ hq1) d_Drops_copyFrom_8 ca_DS_copyRow (by decide +kernel) rfl rfl (Nat.le_of_ble_eq_true rfl) ⟨(Nat.le_of_ble_eq_true rfl), (Nat.le_of_ble_eq_true rfl)⟩ ?_
  refine g_aload_n d_Drops_copyFrom_11 rfl 1 rfl ?_
  refine g_getR d_Drops_copyFrom_12 fl_Drops_15 (gDr_h2 hD0) rfl ?_
  refine g_aload_n d_Drops_copyFrom_15 rfl 0 rfl ?_
  refine g_getR d_Drops_copyFrom_16 fl_Drops_15 (gDr_h2 hD) rfl ?_
  obtain ⟨q2, hq2, h⟩ := gOb h
  refine g_callN_v (As := [.ref (ε.2.2.1 e0 9), .ref (ε.2.2.1 e 9)]) (rest := []) (j := 721) (host := "DropSignals") (ct_DS_copyRow e0 9 16 e 9 16 (gDr_h9 hD0) (gDr_h9 hD) q1 _ hq2) d_Drops_copyFrom_19 ca_DS_copyRow (by decide +kernel) rfl rfl (Nat.le_of_ble_eq_true rfl) ⟨(Nat.le_of_ble_eq_true rfl), (Nat.le_of_ble_eq_true rfl)⟩ ?_
  refine g_aload_n d_Drops_copyFrom_22 rfl 1 rfl ?_
  refine g_getR d_Drops_copyFrom_23 fl_Drops_18 (gDr_h2 hD0) rfl ?_
  refine g_aload_n d_Drops_copyFrom_26 rfl 0 rfl ?_
  refine g_getR d_Drops_copyFrom_27 fl_Drops_18 (gDr_h2 hD) rfl ?_
  obtain ⟨q3, hq3, h⟩ := gOb h
  refine g_callN_v (As := [.ref (ε.2.2.1 e0 10), .ref (ε.2.2.1 e 10)]) (rest := []) (j := 721) (host := "DropSignals") (ct_DS_copyRow e0 10 16 e 10 16 (gDr_h10 hD0) (gDr_h10 hD) q2 _ hq3) d_Drops_copyFrom_30 ca_DS_copyRow (by decide +kernel) rfl rfl (Nat.le_of_ble_eq_true rfl) ⟨(Nat.le_of_ble_eq_true rfl), (Nat.le_of_ble_eq_true rfl)⟩ ?_
  refine g_aload_n d_Drops_copyFrom_33 rfl 1 rfl ?_
  refine g_getR d_Drops_copyFrom_34 fl_Drops_21 (gDr_h2 hD0) rfl ?_
  refine g_aload_n d_Drops_copyFrom_37 rfl 0 rfl ?_
  refine g_getR d_Drops_copyFrom_38 fl_Drops_21 (gDr_h2 hD) rfl ?_
  obtain ⟨q4, hq4, h⟩ := gOb h
  refine g_callN_v (As := [.ref (ε.2.2.1 e0 11), .ref (ε.2.2.1 e 11)]) (rest := []) (j := 721) (host := "DropSignals") (ct_DS_copyRow e0 11 16 e 11 16 (gDr_h11 hD0) (gDr_h11 hD) q3 _ hq4) d_Drops_copyFrom_41 ca_DS_copyRow (by decide +kernel) rfl rfl (Nat.le_of_ble_eq_true rfl) ⟨(Nat.le_of_ble_eq_true rfl), (Nat.le_of_ble_eq_true rfl)⟩ ?_
  obtain rfl := Option.some.inj h
  exact g_vret d_Drops_copyFrom_44 rfl
theorem ct_Drops_copyFrom {l : Launch} {ε : gEnv} (e : Nat) (e0 : Nat) (hD : gDr ε e) (hD0 : gDr ε e0) (M : gMem) (r : gMem) (h : f_Drops_copyFrom e e0 M = some r) : gCt l ε k_Drops_copyFrom 2 51 [.ref (ε.2.2.1 e 2), .ref (ε.2.2.1 e0 2)] M none r :=
  gCt_of (by decide) (Nat.le_of_ble_eq_true rfl) rfl (t_Drops_copyFrom e e0 hD hD0 M r h)
abbrev k_Drops_place : gMD := (⟨"DropSignals$Drops", "place", "(II)I"⟩, prog_3_method_4_code, 2, (some .int))
theorem w_516 : Cond.static ⟨"DropSignals$Drops", "place", "(II)I"⟩ ∈ gWs := gWs_in (i := 516) (by decide +kernel) rfl
set_option maxRecDepth 100000 in
theorem ca_Drops_place : gCaS k_Drops_place 2 := ⟨⟨gWs_in (i := 517) rfl rfl, w_24, by decide, by decide, by decide +kernel⟩, w_516⟩
theorem d_Drops_place_0 : decode prog_3_method_4_code 0 = .ok (.iload_n 0, 1) := by decide +kernel
theorem d_Drops_place_1 : decode prog_3_method_4_code 1 = .ok (.iconst 4, 1) := by decide +kernel
theorem d_Drops_place_2 : decode prog_3_method_4_code 2 = .ok (.imul, 1) := by decide +kernel
theorem d_Drops_place_3 : decode prog_3_method_4_code 3 = .ok (.iload_n 1, 1) := by decide +kernel
theorem d_Drops_place_4 : decode prog_3_method_4_code 4 = .ok (.iadd, 1) := by decide +kernel
theorem d_Drops_place_5 : decode prog_3_method_4_code 5 = .ok (.ireturn, 1) := by decide +kernel
noncomputable def f_Drops_place (a0 : Int32) (a1 : Int32) : Option Int32 :=
  some ((a0 * 4) + a1)
theorem t_Drops_place {l : Launch} {ε : gEnv} (M : gMem) (a0 : Int32) (a1 : Int32) (r : Int32) (h : f_Drops_place a0 a1 = some r) : gGo l ε k_Drops_place (gR 0 0) (gFn ε (some (.int r)) M) 0 [(0, .int a0), (1, .int a1)] [] M := by
  unfold f_Drops_place at h
  refine g_iload_n d_Drops_place_0 rfl 0 rfl ?_
  refine g_iconst (v := 4) d_Drops_place_1 (by decide) ?_
  refine g_imul d_Drops_place_2 ?_
  refine g_iload_n d_Drops_place_3 rfl 1 rfl ?_
  refine g_iadd d_Drops_place_4 ?_
  obtain rfl := Option.some.inj h
  exact g_iret d_Drops_place_5 rfl
theorem ct_Drops_place {l : Launch} {ε : gEnv} (M : gMem) (a0 : Int32) (a1 : Int32) (r : Int32) (h : f_Drops_place a0 a1 = some r) : gCt l ε k_Drops_place 0 0 [.int a0, .int a1] M (some (.int r)) M :=
  gCt_of (by decide) (Nat.le_of_ble_eq_true rfl) rfl (t_Drops_place M a0 a1 r h)
abbrev k_Drops_count : gMD := (⟨"DropSignals$Drops", "count", "(II)I"⟩, prog_3_method_5_code, 3, (some .int))
theorem w_577 : Cond.instanceMethod ⟨"DropSignals$Drops", "count", "(II)I"⟩ ∈ gWs := gWs_in (i := 577) (by decide +kernel) rfl
theorem w_578 : Cond.selects "DropSignals$Drops" ⟨"DropSignals$Drops", "count", "(II)I"⟩ ⟨"DropSignals$Drops", "count", "(II)I"⟩ ∈ gWs := gWs_in (i := 578) (by decide +kernel) rfl
set_option maxRecDepth 100000 in
theorem ca_Drops_count : gCaV k_Drops_count 2 := ⟨⟨gWs_in (i := 579) rfl rfl, w_24, by decide, by decide, by decide +kernel⟩, w_577, w_578⟩
theorem d_Drops_count_0 : decode prog_3_method_5_code 0 = .ok (.aload_n 0, 1) := by decide +kernel
theorem d_Drops_count_1 : decode prog_3_method_5_code 1 = .ok (.getfield 9, 3) := by decide +kernel
theorem d_Drops_count_4 : decode prog_3_method_5_code 4 = .ok (.iload_n 1, 1) := by decide +kernel
theorem d_Drops_count_5 : decode prog_3_method_5_code 5 = .ok (.iload_n 2, 1) := by decide +kernel
theorem d_Drops_count_6 : decode prog_3_method_5_code 6 = .ok (.invokestatic 37, 3) := by decide +kernel
theorem d_Drops_count_9 : decode prog_3_method_5_code 9 = .ok (.invokestatic 41, 3) := by decide +kernel
theorem d_Drops_count_12 : decode prog_3_method_5_code 12 = .ok (.ireturn, 1) := by decide +kernel
theorem w_515 : Cond.methodLink "DropSignals$Drops" 37 ⟨"DropSignals$Drops", "place", "(II)I"⟩ ∈ gWs := gWs_in (i := 515) (by decide +kernel) rfl
noncomputable def f_Drops_count (e : Nat) (M : gMem) (a0 : Int32) (a1 : Int32) : Option Int32 :=
  (f_Drops_place a0 a1).bind fun q1 =>
  (f_DS_at e 8 16 M q1).bind fun q2 =>
  some q2
theorem t_Drops_count {l : Launch} {ε : gEnv} (e : Nat) (hD : gDr ε e) (M : gMem) (a0 : Int32) (a1 : Int32) (r : Int32) (h : f_Drops_count e M a0 a1 = some r) : gGo l ε k_Drops_count (gR 1 21) (gFn ε (some (.int r)) M) 0 [(0, .ref (ε.2.2.1 e 2)), (1, .int a0), (2, .int a1)] [] M := by
  unfold f_Drops_count at h
  refine g_aload_n d_Drops_count_0 rfl 0 rfl ?_
  refine g_getR d_Drops_count_1 fl_Drops_9 (gDr_h2 hD) rfl ?_
  refine g_iload_n d_Drops_count_4 rfl 1 rfl ?_
  refine g_iload_n d_Drops_count_5 rfl 2 rfl ?_
  obtain ⟨q1, hq1, h⟩ := gOb h
  refine g_callS_i (As := [.int a0, .int a1]) (rest := [.ref (ε.2.2.1 e 8)]) (ct_Drops_place M a0 a1 _ hq1) d_Drops_count_6 ca_Drops_place w_515 rfl rfl (Nat.le_of_ble_eq_true rfl) ⟨(Nat.le_of_ble_eq_true rfl), (Nat.le_of_ble_eq_true rfl)⟩ ?_
  obtain ⟨q2, hq2, h⟩ := gOb h
  refine g_callN_i (As := [.ref (ε.2.2.1 e 8), .int q1]) (rest := []) (j := 529) (host := "DropSignals") (ct_DS_at e 8 16 (gDr_h8 hD) M q1 _ hq2) d_Drops_count_9 ca_DS_at (by decide +kernel) rfl rfl (Nat.le_of_ble_eq_true rfl) ⟨(Nat.le_of_ble_eq_true rfl), (Nat.le_of_ble_eq_true rfl)⟩ ?_
  obtain rfl := Option.some.inj h
  exact g_iret d_Drops_count_12 rfl
theorem ct_Drops_count {l : Launch} {ε : gEnv} (e : Nat) (hD : gDr ε e) (M : gMem) (a0 : Int32) (a1 : Int32) (r : Int32) (h : f_Drops_count e M a0 a1 = some r) : gCt l ε k_Drops_count 1 21 [.ref (ε.2.2.1 e 2), .int a0, .int a1] M (some (.int r)) M :=
  gCt_of (by decide) (Nat.le_of_ble_eq_true rfl) rfl (t_Drops_count e hD M a0 a1 r h)
abbrev k_Drops_first : gMD := (⟨"DropSignals$Drops", "first", "(II)I"⟩, prog_3_method_6_code, 3, (some .int))
theorem w_589 : Cond.instanceMethod ⟨"DropSignals$Drops", "first", "(II)I"⟩ ∈ gWs := gWs_in (i := 589) (by decide +kernel) rfl
theorem w_590 : Cond.selects "DropSignals$Drops" ⟨"DropSignals$Drops", "first", "(II)I"⟩ ⟨"DropSignals$Drops", "first", "(II)I"⟩ ∈ gWs := gWs_in (i := 590) (by decide +kernel) rfl
set_option maxRecDepth 100000 in
theorem ca_Drops_first : gCaV k_Drops_first 2 := ⟨⟨gWs_in (i := 591) rfl rfl, w_24, by decide, by decide, by decide +kernel⟩, w_589, w_590⟩
theorem d_Drops_first_0 : decode prog_3_method_6_code 0 = .ok (.aload_n 0, 1) := by decide +kernel
theorem d_Drops_first_1 : decode prog_3_method_6_code 1 = .ok (.getfield 15, 3) := by decide +kernel
theorem d_Drops_first_4 : decode prog_3_method_6_code 4 = .ok (.iload_n 1, 1) := by decide +kernel
theorem d_Drops_first_5 : decode prog_3_method_6_code 5 = .ok (.iload_n 2, 1) := by decide +kernel
theorem d_Drops_first_6 : decode prog_3_method_6_code 6 = .ok (.invokestatic 37, 3) := by decide +kernel
theorem d_Drops_first_9 : decode prog_3_method_6_code 9 = .ok (.invokestatic 41, 3) := by decide +kernel
theorem d_Drops_first_12 : decode prog_3_method_6_code 12 = .ok (.ireturn, 1) := by decide +kernel
noncomputable def f_Drops_first (e : Nat) (M : gMem) (a0 : Int32) (a1 : Int32) : Option Int32 :=
  (f_Drops_place a0 a1).bind fun q1 =>
  (f_DS_at e 9 16 M q1).bind fun q2 =>
  some q2
theorem t_Drops_first {l : Launch} {ε : gEnv} (e : Nat) (hD : gDr ε e) (M : gMem) (a0 : Int32) (a1 : Int32) (r : Int32) (h : f_Drops_first e M a0 a1 = some r) : gGo l ε k_Drops_first (gR 1 21) (gFn ε (some (.int r)) M) 0 [(0, .ref (ε.2.2.1 e 2)), (1, .int a0), (2, .int a1)] [] M := by
  unfold f_Drops_first at h
  refine g_aload_n d_Drops_first_0 rfl 0 rfl ?_
  refine g_getR d_Drops_first_1 fl_Drops_15 (gDr_h2 hD) rfl ?_
  refine g_iload_n d_Drops_first_4 rfl 1 rfl ?_
  refine g_iload_n d_Drops_first_5 rfl 2 rfl ?_
  obtain ⟨q1, hq1, h⟩ := gOb h
  refine g_callS_i (As := [.int a0, .int a1]) (rest := [.ref (ε.2.2.1 e 9)]) (ct_Drops_place M a0 a1 _ hq1) d_Drops_first_6 ca_Drops_place w_515 rfl rfl (Nat.le_of_ble_eq_true rfl) ⟨(Nat.le_of_ble_eq_true rfl), (Nat.le_of_ble_eq_true rfl)⟩ ?_
  obtain ⟨q2, hq2, h⟩ := gOb h
  refine g_callN_i (As := [.ref (ε.2.2.1 e 9), .int q1]) (rest := []) (j := 529) (host := "DropSignals") (ct_DS_at e 9 16 (gDr_h9 hD) M q1 _ hq2) d_Drops_first_9 ca_DS_at (by decide +kernel) rfl rfl (Nat.le_of_ble_eq_true rfl) ⟨(Nat.le_of_ble_eq_true rfl), (Nat.le_of_ble_eq_true rfl)⟩ ?_
  obtain rfl := Option.some.inj h
  exact g_iret d_Drops_first_12 rfl
theorem ct_Drops_first {l : Launch} {ε : gEnv} (e : Nat) (hD : gDr ε e) (M : gMem) (a0 : Int32) (a1 : Int32) (r : Int32) (h : f_Drops_first e M a0 a1 = some r) : gCt l ε k_Drops_first 1 21 [.ref (ε.2.2.1 e 2), .int a0, .int a1] M (some (.int r)) M :=
  gCt_of (by decide) (Nat.le_of_ble_eq_true rfl) rfl (t_Drops_first e hD M a0 a1 r h)
abbrev k_Drops_signal : gMD := (⟨"DropSignals$Drops", "signal", "(II)I"⟩, prog_3_method_7_code, 3, (some .int))
theorem w_657 : Cond.instanceMethod ⟨"DropSignals$Drops", "signal", "(II)I"⟩ ∈ gWs := gWs_in (i := 657) (by decide +kernel) rfl
theorem w_658 : Cond.selects "DropSignals$Drops" ⟨"DropSignals$Drops", "signal", "(II)I"⟩ ⟨"DropSignals$Drops", "signal", "(II)I"⟩ ∈ gWs := gWs_in (i := 658) (by decide +kernel) rfl
set_option maxRecDepth 100000 in
theorem ca_Drops_signal : gCaV k_Drops_signal 2 := ⟨⟨gWs_in (i := 659) rfl rfl, w_24, by decide, by decide, by decide +kernel⟩, w_657, w_658⟩
theorem d_Drops_signal_0 : decode prog_3_method_7_code 0 = .ok (.aload_n 0, 1) := by decide +kernel
theorem d_Drops_signal_1 : decode prog_3_method_7_code 1 = .ok (.getfield 18, 3) := by decide +kernel
theorem d_Drops_signal_4 : decode prog_3_method_7_code 4 = .ok (.iload_n 1, 1) := by decide +kernel
theorem d_Drops_signal_5 : decode prog_3_method_7_code 5 = .ok (.iload_n 2, 1) := by decide +kernel
theorem d_Drops_signal_6 : decode prog_3_method_7_code 6 = .ok (.invokestatic 37, 3) := by decide +kernel
theorem d_Drops_signal_9 : decode prog_3_method_7_code 9 = .ok (.invokestatic 41, 3) := by decide +kernel
theorem d_Drops_signal_12 : decode prog_3_method_7_code 12 = .ok (.ireturn, 1) := by decide +kernel
noncomputable def f_Drops_signal (e : Nat) (M : gMem) (a0 : Int32) (a1 : Int32) : Option Int32 :=
  (f_Drops_place a0 a1).bind fun q1 =>
  (f_DS_at e 10 16 M q1).bind fun q2 =>
  some q2
theorem t_Drops_signal {l : Launch} {ε : gEnv} (e : Nat) (hD : gDr ε e) (M : gMem) (a0 : Int32) (a1 : Int32) (r : Int32) (h : f_Drops_signal e M a0 a1 = some r) : gGo l ε k_Drops_signal (gR 1 21) (gFn ε (some (.int r)) M) 0 [(0, .ref (ε.2.2.1 e 2)), (1, .int a0), (2, .int a1)] [] M := by
  unfold f_Drops_signal at h
  refine g_aload_n d_Drops_signal_0 rfl 0 rfl ?_
  refine g_getR d_Drops_signal_1 fl_Drops_18 (gDr_h2 hD) rfl ?_
  refine g_iload_n d_Drops_signal_4 rfl 1 rfl ?_
  refine g_iload_n d_Drops_signal_5 rfl 2 rfl ?_
  obtain ⟨q1, hq1, h⟩ := gOb h
  refine g_callS_i (As := [.int a0, .int a1]) (rest := [.ref (ε.2.2.1 e 10)]) (ct_Drops_place M a0 a1 _ hq1) d_Drops_signal_6 ca_Drops_place w_515 rfl rfl (Nat.le_of_ble_eq_true rfl) ⟨(Nat.le_of_ble_eq_true rfl), (Nat.le_of_ble_eq_true rfl)⟩ ?_
  obtain ⟨q2, hq2, h⟩ := gOb h
  refine g_callN_i (As := [.ref (ε.2.2.1 e 10), .int q1]) (rest := []) (j := 529) (host := "DropSignals") (ct_DS_at e 10 16 (gDr_h10 hD) M q1 _ hq2) d_Drops_signal_9 ca_DS_at (by decide +kernel) rfl rfl (Nat.le_of_ble_eq_true rfl) ⟨(Nat.le_of_ble_eq_true rfl), (Nat.le_of_ble_eq_true rfl)⟩ ?_
  obtain rfl := Option.some.inj h
  exact g_iret d_Drops_signal_12 rfl
theorem ct_Drops_signal {l : Launch} {ε : gEnv} (e : Nat) (hD : gDr ε e) (M : gMem) (a0 : Int32) (a1 : Int32) (r : Int32) (h : f_Drops_signal e M a0 a1 = some r) : gCt l ε k_Drops_signal 1 21 [.ref (ε.2.2.1 e 2), .int a0, .int a1] M (some (.int r)) M :=
  gCt_of (by decide) (Nat.le_of_ble_eq_true rfl) rfl (t_Drops_signal e hD M a0 a1 r h)
abbrev k_Drops_showedNone : gMD := (⟨"DropSignals$Drops", "showedNone", "(II)Z"⟩, prog_3_method_8_code, 3, (some .boolean))
theorem w_666 : Cond.instanceMethod ⟨"DropSignals$Drops", "showedNone", "(II)Z"⟩ ∈ gWs := gWs_in (i := 666) (by decide +kernel) rfl
theorem w_667 : Cond.selects "DropSignals$Drops" ⟨"DropSignals$Drops", "showedNone", "(II)Z"⟩ ⟨"DropSignals$Drops", "showedNone", "(II)Z"⟩ ∈ gWs := gWs_in (i := 667) (by decide +kernel) rfl
set_option maxRecDepth 100000 in
theorem ca_Drops_showedNone : gCaV k_Drops_showedNone 2 := ⟨⟨gWs_in (i := 668) rfl rfl, w_24, by decide, by decide, by decide +kernel⟩, w_666, w_667⟩
theorem d_Drops_showedNone_0 : decode prog_3_method_8_code 0 = .ok (.aload_n 0, 1) := by decide +kernel
theorem d_Drops_showedNone_1 : decode prog_3_method_8_code 1 = .ok (.getfield 21, 3) := by decide +kernel
theorem d_Drops_showedNone_4 : decode prog_3_method_8_code 4 = .ok (.iload_n 1, 1) := by decide +kernel
theorem d_Drops_showedNone_5 : decode prog_3_method_8_code 5 = .ok (.iload_n 2, 1) := by decide +kernel
theorem d_Drops_showedNone_6 : decode prog_3_method_8_code 6 = .ok (.invokestatic 37, 3) := by decide +kernel
theorem d_Drops_showedNone_9 : decode prog_3_method_8_code 9 = .ok (.invokestatic 41, 3) := by decide +kernel
theorem d_Drops_showedNone_12 : decode prog_3_method_8_code 12 = .ok (.iconst 1, 1) := by decide +kernel
theorem d_Drops_showedNone_13 : decode prog_3_method_8_code 13 = .ok (.if_icmp .ne 7, 3) := by decide +kernel
theorem d_Drops_showedNone_16 : decode prog_3_method_8_code 16 = .ok (.iconst 1, 1) := by decide +kernel
theorem d_Drops_showedNone_17 : decode prog_3_method_8_code 17 = .ok (.goto 4, 3) := by decide +kernel
theorem d_Drops_showedNone_20 : decode prog_3_method_8_code 20 = .ok (.iconst 0, 1) := by decide +kernel
theorem d_Drops_showedNone_21 : decode prog_3_method_8_code 21 = .ok (.ireturn, 1) := by decide +kernel
noncomputable def f_Drops_showedNone (e : Nat) (M : gMem) (a0 : Int32) (a1 : Int32) : Option Int32 :=
  (f_Drops_place a0 a1).bind fun q1 =>
  (f_DS_at e 11 16 M q1).bind fun q2 =>
  if q2 = 1 then
    some 1
  else
    some 0
theorem t_Drops_showedNone {l : Launch} {ε : gEnv} (e : Nat) (hD : gDr ε e) (M : gMem) (a0 : Int32) (a1 : Int32) (r : Int32) (h : f_Drops_showedNone e M a0 a1 = some r) : gGo l ε k_Drops_showedNone (gR 1 21) (gFn ε (some (.int r)) M) 0 [(0, .ref (ε.2.2.1 e 2)), (1, .int a0), (2, .int a1)] [] M := by
  unfold f_Drops_showedNone at h
  refine g_aload_n d_Drops_showedNone_0 rfl 0 rfl ?_
  refine g_getR d_Drops_showedNone_1 fl_Drops_21 (gDr_h2 hD) rfl ?_
  refine g_iload_n d_Drops_showedNone_4 rfl 1 rfl ?_
  refine g_iload_n d_Drops_showedNone_5 rfl 2 rfl ?_
  obtain ⟨q1, hq1, h⟩ := gOb h
  refine g_callS_i (As := [.int a0, .int a1]) (rest := [.ref (ε.2.2.1 e 11)]) (ct_Drops_place M a0 a1 _ hq1) d_Drops_showedNone_6 ca_Drops_place w_515 rfl rfl (Nat.le_of_ble_eq_true rfl) ⟨(Nat.le_of_ble_eq_true rfl), (Nat.le_of_ble_eq_true rfl)⟩ ?_
  obtain ⟨q2, hq2, h⟩ := gOb h
  refine g_callN_i (As := [.ref (ε.2.2.1 e 11), .int q1]) (rest := []) (j := 529) (host := "DropSignals") (ct_DS_at e 11 16 (gDr_h11 hD) M q1 _ hq2) d_Drops_showedNone_9 ca_DS_at (by decide +kernel) rfl rfl (Nat.le_of_ble_eq_true rfl) ⟨(Nat.le_of_ble_eq_true rfl), (Nat.le_of_ble_eq_true rfl)⟩ ?_
  refine g_iconst (v := 1) d_Drops_showedNone_12 (by decide) ?_
  refine g_icmp_ne (tgt := 20) d_Drops_showedNone_13 (by decide) (fun c3 => ?_) (fun c3 => ?_)
  · rw [if_neg c3] at h
    refine g_iconst (v := 0) d_Drops_showedNone_20 (by decide) ?_
    obtain rfl := Option.some.inj h
    exact g_zret d_Drops_showedNone_21 rfl gZ0
  · rw [if_pos c3] at h
    refine g_iconst (v := 1) d_Drops_showedNone_16 (by decide) ?_
    refine g_goto (tgt := 21) d_Drops_showedNone_17 (by decide) ?_
    obtain rfl := Option.some.inj h
    exact g_zret d_Drops_showedNone_21 rfl gZ1
theorem ct_Drops_showedNone {l : Launch} {ε : gEnv} (e : Nat) (hD : gDr ε e) (M : gMem) (a0 : Int32) (a1 : Int32) (r : Int32) (h : f_Drops_showedNone e M a0 a1 = some r) : gCt l ε k_Drops_showedNone 1 21 [.ref (ε.2.2.1 e 2), .int a0, .int a1] M (some (.int r)) M :=
  gCt_of (by decide) (Nat.le_of_ble_eq_true rfl) rfl (t_Drops_showedNone e hD M a0 a1 r h)
abbrev k_Drops_showNone : gMD := (⟨"DropSignals$Drops", "showNone", "(II)V"⟩, prog_3_method_9_code, 3, none)
theorem w_512 : Cond.instanceMethod ⟨"DropSignals$Drops", "showNone", "(II)V"⟩ ∈ gWs := gWs_in (i := 512) (by decide +kernel) rfl
theorem w_513 : Cond.selects "DropSignals$Drops" ⟨"DropSignals$Drops", "showNone", "(II)V"⟩ ⟨"DropSignals$Drops", "showNone", "(II)V"⟩ ∈ gWs := gWs_in (i := 513) (by decide +kernel) rfl
set_option maxRecDepth 100000 in
theorem ca_Drops_showNone : gCaV k_Drops_showNone 2 := ⟨⟨gWs_in (i := 514) rfl rfl, w_24, by decide, by decide, by decide +kernel⟩, w_512, w_513⟩
theorem d_Drops_showNone_0 : decode prog_3_method_9_code 0 = .ok (.aload_n 0, 1) := by decide +kernel
theorem d_Drops_showNone_1 : decode prog_3_method_9_code 1 = .ok (.getfield 21, 3) := by decide +kernel
theorem d_Drops_showNone_4 : decode prog_3_method_9_code 4 = .ok (.iload_n 1, 1) := by decide +kernel
theorem d_Drops_showNone_5 : decode prog_3_method_9_code 5 = .ok (.iload_n 2, 1) := by decide +kernel
theorem d_Drops_showNone_6 : decode prog_3_method_9_code 6 = .ok (.invokestatic 37, 3) := by decide +kernel
theorem d_Drops_showNone_9 : decode prog_3_method_9_code 9 = .ok (.iconst 1, 1) := by decide +kernel
theorem d_Drops_showNone_10 : decode prog_3_method_9_code 10 = .ok (.invokestatic 45, 3) := by decide +kernel
theorem d_Drops_showNone_13 : decode prog_3_method_9_code 13 = .ok (.return_, 1) := by decide +kernel
noncomputable def f_Drops_showNone (e : Nat) (M : gMem) (a0 : Int32) (a1 : Int32) : Option gMem :=
  (f_Drops_place a0 a1).bind fun q1 =>
  (f_DS_put e 11 16 M q1 1).bind fun q2 =>
  some q2
theorem t_Drops_showNone {l : Launch} {ε : gEnv} (e : Nat) (hD : gDr ε e) (M : gMem) (a0 : Int32) (a1 : Int32) (r : gMem) (h : f_Drops_showNone e M a0 a1 = some r) : gGo l ε k_Drops_showNone (gR 1 22) (gFn ε none r) 0 [(0, .ref (ε.2.2.1 e 2)), (1, .int a0), (2, .int a1)] [] M := by
  unfold f_Drops_showNone at h
  refine g_aload_n d_Drops_showNone_0 rfl 0 rfl ?_
  refine g_getR d_Drops_showNone_1 fl_Drops_21 (gDr_h2 hD) rfl ?_
  refine g_iload_n d_Drops_showNone_4 rfl 1 rfl ?_
  refine g_iload_n d_Drops_showNone_5 rfl 2 rfl ?_
  obtain ⟨q1, hq1, h⟩ := gOb h
  refine g_callS_i (As := [.int a0, .int a1]) (rest := [.ref (ε.2.2.1 e 11)]) (ct_Drops_place M a0 a1 _ hq1) d_Drops_showNone_6 ca_Drops_place w_515 rfl rfl (Nat.le_of_ble_eq_true rfl) ⟨(Nat.le_of_ble_eq_true rfl), (Nat.le_of_ble_eq_true rfl)⟩ ?_
  refine g_iconst (v := 1) d_Drops_showNone_9 (by decide) ?_
  obtain ⟨q2, hq2, h⟩ := gOb h
  refine g_callN_v (As := [.ref (ε.2.2.1 e 11), .int q1, .int 1]) (rest := []) (j := 518) (host := "DropSignals") (ct_DS_put e 11 16 (gDr_h11 hD) M q1 1 _ hq2) d_Drops_showNone_10 ca_DS_put (by decide +kernel) rfl rfl (Nat.le_of_ble_eq_true rfl) ⟨(Nat.le_of_ble_eq_true rfl), (Nat.le_of_ble_eq_true rfl)⟩ ?_
  obtain rfl := Option.some.inj h
  exact g_vret d_Drops_showNone_13 rfl
theorem ct_Drops_showNone {l : Launch} {ε : gEnv} (e : Nat) (hD : gDr ε e) (M : gMem) (a0 : Int32) (a1 : Int32) (r : gMem) (h : f_Drops_showNone e M a0 a1 = some r) : gCt l ε k_Drops_showNone 1 22 [.ref (ε.2.2.1 e 2), .int a0, .int a1] M none r :=
  gCt_of (by decide) (Nat.le_of_ble_eq_true rfl) rfl (t_Drops_showNone e hD M a0 a1 r h)
abbrev k_DS_addAt : gMD := (⟨"DropSignals", "addAt", "([III)V"⟩, prog_1_method_30_code, 3, none)
theorem w_527 : Cond.static ⟨"DropSignals", "addAt", "([III)V"⟩ ∈ gWs := gWs_in (i := 527) (by decide +kernel) rfl
set_option maxRecDepth 100000 in
theorem ca_DS_addAt : gCaS k_DS_addAt 3 := ⟨⟨gWs_in (i := 528) rfl rfl, w_20, by decide, by decide, by decide +kernel⟩, w_527⟩
theorem d_DS_addAt_0 : decode prog_1_method_30_code 0 = .ok (.iload_n 1, 1) := by decide +kernel
theorem d_DS_addAt_1 : decode prog_1_method_30_code 1 = .ok (.ifCond .lt 16, 3) := by decide +kernel
theorem d_DS_addAt_4 : decode prog_1_method_30_code 4 = .ok (.iload_n 1, 1) := by decide +kernel
theorem d_DS_addAt_5 : decode prog_1_method_30_code 5 = .ok (.aload_n 0, 1) := by decide +kernel
theorem d_DS_addAt_6 : decode prog_1_method_30_code 6 = .ok (.arraylength, 1) := by decide +kernel
theorem d_DS_addAt_7 : decode prog_1_method_30_code 7 = .ok (.if_icmp .ge 10, 3) := by decide +kernel
theorem d_DS_addAt_10 : decode prog_1_method_30_code 10 = .ok (.aload_n 0, 1) := by decide +kernel
theorem d_DS_addAt_11 : decode prog_1_method_30_code 11 = .ok (.iload_n 1, 1) := by decide +kernel
theorem d_DS_addAt_12 : decode prog_1_method_30_code 12 = .ok (.dup2, 1) := by decide +kernel
theorem d_DS_addAt_13 : decode prog_1_method_30_code 13 = .ok (.iaload, 1) := by decide +kernel
theorem d_DS_addAt_14 : decode prog_1_method_30_code 14 = .ok (.iload_n 2, 1) := by decide +kernel
theorem d_DS_addAt_15 : decode prog_1_method_30_code 15 = .ok (.iadd, 1) := by decide +kernel
theorem d_DS_addAt_16 : decode prog_1_method_30_code 16 = .ok (.iastore, 1) := by decide +kernel
theorem d_DS_addAt_17 : decode prog_1_method_30_code 17 = .ok (.return_, 1) := by decide +kernel
noncomputable def f_DS_addAt (g0 : Nat) (c0 : Nat) (n0 : Nat) (M : gMem) (a1 : Int32) (a2 : Int32) : Option gMem :=
  if a1 < 0 then
    some M
  else
    if (Int32.ofNat n0) ≤ a1 then
      some M
    else
      (gRd n0 (M g0 c0) a1).bind fun v1 =>
      (gWr M g0 c0 n0 a1 (v1 + a2)).bind fun M2 =>
      some M2
theorem t_DS_addAt {l : Launch} {ε : gEnv} (g0 : Nat) (c0 : Nat) (n0 : Nat) (h0 : gHas ε g0 c0 (0, n0, [])) (M : gMem) (a1 : Int32) (a2 : Int32) (r : gMem) (h : f_DS_addAt g0 c0 n0 M a1 a2 = some r) : gGo l ε k_DS_addAt (gR 0 0) (gFn ε none r) 0 [(0, .ref (ε.2.2.1 g0 c0)), (1, .int a1), (2, .int a2)] [] M := by
  unfold f_DS_addAt at h
  refine g_iload_n d_DS_addAt_0 rfl 1 rfl ?_
  refine g_if_lt (tgt := 17) d_DS_addAt_1 (by decide) (fun c4 => ?_) (fun c4 => ?_)
  · rw [if_pos c4] at h
    obtain rfl := Option.some.inj h
    exact g_vret d_DS_addAt_17 rfl
  · rw [if_neg c4] at h
    refine g_iload_n d_DS_addAt_4 rfl 1 rfl ?_
    refine g_aload_n d_DS_addAt_5 rfl 0 rfl ?_
    refine g_alen d_DS_addAt_6 h0 ?_
    refine g_icmp_ge (tgt := 17) d_DS_addAt_7 (by decide) (fun c3 => ?_) (fun c3 => ?_)
    · rw [if_pos c3] at h
      obtain rfl := Option.some.inj h
      exact g_vret d_DS_addAt_17 rfl
    · rw [if_neg c3] at h
      refine g_aload_n d_DS_addAt_10 rfl 0 rfl ?_
      refine g_iload_n d_DS_addAt_11 rfl 1 rfl ?_
      refine g_dup2 d_DS_addAt_12 rfl rfl ?_
      obtain ⟨v1, hv1, h⟩ := gOb h
      refine g_iaload d_DS_addAt_13 h0 hv1 ?_
      refine g_iload_n d_DS_addAt_14 rfl 2 rfl ?_
      refine g_iadd d_DS_addAt_15 ?_
      obtain ⟨M2, hM2, h⟩ := gOb h
      refine g_iastore d_DS_addAt_16 h0 hM2 ?_
      obtain rfl := Option.some.inj h
      exact g_vret d_DS_addAt_17 rfl
theorem ct_DS_addAt {l : Launch} {ε : gEnv} (g0 : Nat) (c0 : Nat) (n0 : Nat) (h0 : gHas ε g0 c0 (0, n0, [])) (M : gMem) (a1 : Int32) (a2 : Int32) (r : gMem) (h : f_DS_addAt g0 c0 n0 M a1 a2 = some r) : gCt l ε k_DS_addAt 0 0 [.ref (ε.2.2.1 g0 c0), .int a1, .int a2] M none r :=
  gCt_of (by decide) (Nat.le_of_ble_eq_true rfl) rfl (t_DS_addAt g0 c0 n0 h0 M a1 a2 r h)
abbrev k_Drops_told : gMD := (⟨"DropSignals$Drops", "told", "(II)I"⟩, prog_3_method_11_code, 2, (some .int))
theorem w_531 : Cond.static ⟨"DropSignals$Drops", "told", "(II)I"⟩ ∈ gWs := gWs_in (i := 531) (by decide +kernel) rfl
set_option maxRecDepth 100000 in
theorem ca_Drops_told : gCaS k_Drops_told 2 := ⟨⟨gWs_in (i := 532) rfl rfl, w_24, by decide, by decide, by decide +kernel⟩, w_531⟩
theorem d_Drops_told_0 : decode prog_3_method_11_code 0 = .ok (.iload_n 0, 1) := by decide +kernel
theorem d_Drops_told_1 : decode prog_3_method_11_code 1 = .ok (.iload_n 1, 1) := by decide +kernel
theorem d_Drops_told_2 : decode prog_3_method_11_code 2 = .ok (.if_icmp .le 7, 3) := by decide +kernel
theorem d_Drops_told_5 : decode prog_3_method_11_code 5 = .ok (.iconst 2, 1) := by decide +kernel
theorem d_Drops_told_6 : decode prog_3_method_11_code 6 = .ok (.goto 4, 3) := by decide +kernel
theorem d_Drops_told_9 : decode prog_3_method_11_code 9 = .ok (.iconst 1, 1) := by decide +kernel
theorem d_Drops_told_10 : decode prog_3_method_11_code 10 = .ok (.ireturn, 1) := by decide +kernel
noncomputable def f_Drops_told (a0 : Int32) (a1 : Int32) : Option Int32 :=
  if a0 ≤ a1 then
    some 1
  else
    some 2
theorem t_Drops_told {l : Launch} {ε : gEnv} (M : gMem) (a0 : Int32) (a1 : Int32) (r : Int32) (h : f_Drops_told a0 a1 = some r) : gGo l ε k_Drops_told (gR 0 0) (gFn ε (some (.int r)) M) 0 [(0, .int a0), (1, .int a1)] [] M := by
  unfold f_Drops_told at h
  refine g_iload_n d_Drops_told_0 rfl 0 rfl ?_
  refine g_iload_n d_Drops_told_1 rfl 1 rfl ?_
  refine g_icmp_le (tgt := 9) d_Drops_told_2 (by decide) (fun c1 => ?_) (fun c1 => ?_)
  · rw [if_pos c1] at h
    refine g_iconst (v := 1) d_Drops_told_9 (by decide) ?_
    obtain rfl := Option.some.inj h
    exact g_iret d_Drops_told_10 rfl
  · rw [if_neg c1] at h
    refine g_iconst (v := 2) d_Drops_told_5 (by decide) ?_
    refine g_goto (tgt := 10) d_Drops_told_6 (by decide) ?_
    obtain rfl := Option.some.inj h
    exact g_iret d_Drops_told_10 rfl
theorem ct_Drops_told {l : Launch} {ε : gEnv} (M : gMem) (a0 : Int32) (a1 : Int32) (r : Int32) (h : f_Drops_told a0 a1 = some r) : gCt l ε k_Drops_told 0 0 [.int a0, .int a1] M (some (.int r)) M :=
  gCt_of (by decide) (Nat.le_of_ble_eq_true rfl) rfl (t_Drops_told M a0 a1 r h)
abbrev k_Drops_add : gMD := (⟨"DropSignals$Drops", "add", "(III)I"⟩, prog_3_method_10_code, 7, (some .int))
theorem w_523 : Cond.instanceMethod ⟨"DropSignals$Drops", "add", "(III)I"⟩ ∈ gWs := gWs_in (i := 523) (by decide +kernel) rfl
theorem w_524 : Cond.selects "DropSignals$Drops" ⟨"DropSignals$Drops", "add", "(III)I"⟩ ⟨"DropSignals$Drops", "add", "(III)I"⟩ ∈ gWs := gWs_in (i := 524) (by decide +kernel) rfl
set_option maxRecDepth 100000 in
theorem ca_Drops_add : gCaV k_Drops_add 3 := ⟨⟨gWs_in (i := 525) rfl rfl, w_24, by decide, by decide, by decide +kernel⟩, w_523, w_524⟩
theorem d_Drops_add_0 : decode prog_3_method_10_code 0 = .ok (.iload_n 1, 1) := by decide +kernel
theorem d_Drops_add_1 : decode prog_3_method_10_code 1 = .ok (.iload_n 2, 1) := by decide +kernel
theorem d_Drops_add_2 : decode prog_3_method_10_code 2 = .ok (.invokestatic 37, 3) := by decide +kernel
theorem d_Drops_add_5 : decode prog_3_method_10_code 5 = .ok (.istore 4, 2) := by decide +kernel
theorem d_Drops_add_7 : decode prog_3_method_10_code 7 = .ok (.aload_n 0, 1) := by decide +kernel
theorem d_Drops_add_8 : decode prog_3_method_10_code 8 = .ok (.getfield 9, 3) := by decide +kernel
theorem d_Drops_add_11 : decode prog_3_method_10_code 11 = .ok (.iload 4, 2) := by decide +kernel
theorem d_Drops_add_13 : decode prog_3_method_10_code 13 = .ok (.iconst 1, 1) := by decide +kernel
theorem d_Drops_add_14 : decode prog_3_method_10_code 14 = .ok (.invokestatic 49, 3) := by decide +kernel
theorem d_Drops_add_17 : decode prog_3_method_10_code 17 = .ok (.aload_n 0, 1) := by decide +kernel
theorem d_Drops_add_18 : decode prog_3_method_10_code 18 = .ok (.getfield 9, 3) := by decide +kernel
theorem d_Drops_add_21 : decode prog_3_method_10_code 21 = .ok (.iload 4, 2) := by decide +kernel
theorem d_Drops_add_23 : decode prog_3_method_10_code 23 = .ok (.invokestatic 41, 3) := by decide +kernel
theorem d_Drops_add_26 : decode prog_3_method_10_code 26 = .ok (.istore 5, 2) := by decide +kernel
theorem d_Drops_add_28 : decode prog_3_method_10_code 28 = .ok (.iload 5, 2) := by decide +kernel
theorem d_Drops_add_30 : decode prog_3_method_10_code 30 = .ok (.iconst 1, 1) := by decide +kernel
theorem d_Drops_add_31 : decode prog_3_method_10_code 31 = .ok (.if_icmp .ne 13, 3) := by decide +kernel
theorem d_Drops_add_34 : decode prog_3_method_10_code 34 = .ok (.aload_n 0, 1) := by decide +kernel
theorem d_Drops_add_35 : decode prog_3_method_10_code 35 = .ok (.getfield 15, 3) := by decide +kernel
theorem d_Drops_add_38 : decode prog_3_method_10_code 38 = .ok (.iload 4, 2) := by decide +kernel
theorem d_Drops_add_40 : decode prog_3_method_10_code 40 = .ok (.iload_n 3, 1) := by decide +kernel
theorem d_Drops_add_41 : decode prog_3_method_10_code 41 = .ok (.invokestatic 45, 3) := by decide +kernel
theorem d_Drops_add_44 : decode prog_3_method_10_code 44 = .ok (.iload 5, 2) := by decide +kernel
theorem d_Drops_add_46 : decode prog_3_method_10_code 46 = .ok (.iconst 2, 1) := by decide +kernel
theorem d_Drops_add_47 : decode prog_3_method_10_code 47 = .ok (.if_icmp .eq 5, 3) := by decide +kernel
theorem d_Drops_add_50 : decode prog_3_method_10_code 50 = .ok (.iconst 0, 1) := by decide +kernel
theorem d_Drops_add_51 : decode prog_3_method_10_code 51 = .ok (.ireturn, 1) := by decide +kernel
theorem d_Drops_add_52 : decode prog_3_method_10_code 52 = .ok (.aload_n 0, 1) := by decide +kernel
theorem d_Drops_add_53 : decode prog_3_method_10_code 53 = .ok (.getfield 15, 3) := by decide +kernel
theorem d_Drops_add_56 : decode prog_3_method_10_code 56 = .ok (.iload 4, 2) := by decide +kernel
theorem d_Drops_add_58 : decode prog_3_method_10_code 58 = .ok (.invokestatic 41, 3) := by decide +kernel
theorem d_Drops_add_61 : decode prog_3_method_10_code 61 = .ok (.iload_n 3, 1) := by decide +kernel
theorem d_Drops_add_62 : decode prog_3_method_10_code 62 = .ok (.invokestatic 52, 3) := by decide +kernel
theorem d_Drops_add_65 : decode prog_3_method_10_code 65 = .ok (.istore 6, 2) := by decide +kernel
theorem d_Drops_add_67 : decode prog_3_method_10_code 67 = .ok (.aload_n 0, 1) := by decide +kernel
theorem d_Drops_add_68 : decode prog_3_method_10_code 68 = .ok (.getfield 18, 3) := by decide +kernel
theorem d_Drops_add_71 : decode prog_3_method_10_code 71 = .ok (.iload 4, 2) := by decide +kernel
theorem d_Drops_add_73 : decode prog_3_method_10_code 73 = .ok (.iload 6, 2) := by decide +kernel
theorem d_Drops_add_75 : decode prog_3_method_10_code 75 = .ok (.invokestatic 45, 3) := by decide +kernel
theorem d_Drops_add_78 : decode prog_3_method_10_code 78 = .ok (.iload 6, 2) := by decide +kernel
theorem d_Drops_add_80 : decode prog_3_method_10_code 80 = .ok (.ireturn, 1) := by decide +kernel
theorem w_530 : Cond.methodLink "DropSignals$Drops" 52 ⟨"DropSignals$Drops", "told", "(II)I"⟩ ∈ gWs := gWs_in (i := 530) (by decide +kernel) rfl
noncomputable def f_Drops_add_b44 (e : Nat) (M : gMem) (x3 : Int32) (x4 : Int32) (x5 : Int32) : Option (Int32 × gMem) :=
  if x5 = 2 then
    (f_DS_at e 9 16 M x4).bind fun q4 =>
    (f_Drops_told q4 x3).bind fun q5 =>
    (f_DS_put e 10 16 M x4 q5).bind fun q6 =>
    some (q5, q6)
  else
    some (0, M)
theorem t_Drops_add_b44 {l : Launch} {ε : gEnv} (e : Nat) (hD : gDr ε e) (M : gMem) (x3 : Int32) (x4 : Int32) (x5 : Int32) (r : (Int32 × gMem)) (h : f_Drops_add_b44 e M x3 x4 x5 = some r) : gGo l ε k_Drops_add (gR 1 22) (gFn ε (some (.int r.1)) r.2) 44 [(0, .ref (ε.2.2.1 e 2)), (3, .int x3), (4, .int x4), (5, .int x5)] [] M := by
  unfold f_Drops_add_b44 at h
  refine g_iload d_Drops_add_44 3 rfl ?_
  refine g_iconst (v := 2) d_Drops_add_46 (by decide) ?_
  refine g_icmp_eq (tgt := 52) d_Drops_add_47 (by decide) (fun c7 => ?_) (fun c7 => ?_)
  · rw [if_pos c7] at h
    refine g_aload_n d_Drops_add_52 rfl 0 rfl ?_
    refine g_getR d_Drops_add_53 fl_Drops_15 (gDr_h2 hD) rfl ?_
    refine g_iload d_Drops_add_56 2 rfl ?_
    obtain ⟨q4, hq4, h⟩ := gOb h
    refine g_callN_i (As := [.ref (ε.2.2.1 e 9), .int x4]) (rest := []) (j := 529) (host := "DropSignals") (ct_DS_at e 9 16 (gDr_h9 hD) M x4 _ hq4) d_Drops_add_58 ca_DS_at (by decide +kernel) rfl rfl (Nat.le_of_ble_eq_true rfl) ⟨(Nat.le_of_ble_eq_true rfl), (Nat.le_of_ble_eq_true rfl)⟩ ?_
    refine g_iload_n d_Drops_add_61 rfl 1 rfl ?_
    obtain ⟨q5, hq5, h⟩ := gOb h
    refine g_callS_i (As := [.int q4, .int x3]) (rest := []) (ct_Drops_told M q4 x3 _ hq5) d_Drops_add_62 ca_Drops_told w_530 rfl rfl (Nat.le_of_ble_eq_true rfl) ⟨(Nat.le_of_ble_eq_true rfl), (Nat.le_of_ble_eq_true rfl)⟩ ?_
    refine g_istore (L' := [(6, .int q5), (0, .ref (ε.2.2.1 e 2)), (3, .int x3), (4, .int x4), (5, .int x5)]) d_Drops_add_65 (by decide) rfl ?_
    refine g_aload_n d_Drops_add_67 rfl 1 rfl ?_
    refine g_getR d_Drops_add_68 fl_Drops_18 (gDr_h2 hD) rfl ?_
    refine g_iload d_Drops_add_71 3 rfl ?_
    refine g_iload d_Drops_add_73 0 rfl ?_
    obtain ⟨q6, hq6, h⟩ := gOb h
    refine g_callN_v (As := [.ref (ε.2.2.1 e 10), .int x4, .int q5]) (rest := []) (j := 518) (host := "DropSignals") (ct_DS_put e 10 16 (gDr_h10 hD) M x4 q5 _ hq6) d_Drops_add_75 ca_DS_put (by decide +kernel) rfl rfl (Nat.le_of_ble_eq_true rfl) ⟨(Nat.le_of_ble_eq_true rfl), (Nat.le_of_ble_eq_true rfl)⟩ ?_
    refine g_iload d_Drops_add_78 0 rfl ?_
    obtain rfl := Option.some.inj h
    exact g_iret d_Drops_add_80 rfl
  · rw [if_neg c7] at h
    refine g_iconst (v := 0) d_Drops_add_50 (by decide) ?_
    obtain rfl := Option.some.inj h
    exact g_iret d_Drops_add_51 rfl
noncomputable def f_Drops_add (e : Nat) (M : gMem) (a0 : Int32) (a1 : Int32) (a2 : Int32) : Option (Int32 × gMem) :=
  (f_Drops_place a0 a1).bind fun q1 =>
  (f_DS_addAt e 8 16 M q1 1).bind fun q2 =>
  (f_DS_at e 8 16 q2 q1).bind fun q3 =>
  if q3 = 1 then
    (f_DS_put e 9 16 q2 q1 a2).bind fun q8 =>
    f_Drops_add_b44 e q8 a2 q1 q3
  else
    f_Drops_add_b44 e q2 a2 q1 q3
theorem t_Drops_add {l : Launch} {ε : gEnv} (e : Nat) (hD : gDr ε e) (M : gMem) (a0 : Int32) (a1 : Int32) (a2 : Int32) (r : (Int32 × gMem)) (h : f_Drops_add e M a0 a1 a2 = some r) : gGo l ε k_Drops_add (gR 1 22) (gFn ε (some (.int r.1)) r.2) 0 [(0, .ref (ε.2.2.1 e 2)), (1, .int a0), (2, .int a1), (3, .int a2)] [] M := by
  unfold f_Drops_add at h
  refine g_iload_n d_Drops_add_0 rfl 1 rfl ?_
  refine g_iload_n d_Drops_add_1 rfl 2 rfl ?_
  obtain ⟨q1, hq1, h⟩ := gOb h
  refine g_callS_i (As := [.int a0, .int a1]) (rest := []) (ct_Drops_place M a0 a1 _ hq1) d_Drops_add_2 ca_Drops_place w_515 rfl rfl (Nat.le_of_ble_eq_true rfl) ⟨(Nat.le_of_ble_eq_true rfl), (Nat.le_of_ble_eq_true rfl)⟩ ?_
  refine g_istore (L' := [(4, .int q1), (0, .ref (ε.2.2.1 e 2)), (1, .int a0), (2, .int a1), (3, .int a2)]) d_Drops_add_5 (by decide) rfl ?_
  refine g_aload_n d_Drops_add_7 rfl 1 rfl ?_
  refine g_getR d_Drops_add_8 fl_Drops_9 (gDr_h2 hD) rfl ?_
  refine g_iload d_Drops_add_11 0 rfl ?_
  refine g_iconst (v := 1) d_Drops_add_13 (by decide) ?_
  obtain ⟨q2, hq2, h⟩ := gOb h
  refine g_callN_v (As := [.ref (ε.2.2.1 e 8), .int q1, .int 1]) (rest := []) (j := 526) (host := "DropSignals") (ct_DS_addAt e 8 16 (gDr_h8 hD) M q1 1 _ hq2) d_Drops_add_14 ca_DS_addAt (by decide +kernel) rfl rfl (Nat.le_of_ble_eq_true rfl) ⟨(Nat.le_of_ble_eq_true rfl), (Nat.le_of_ble_eq_true rfl)⟩ ?_
  refine g_aload_n d_Drops_add_17 rfl 1 rfl ?_
  refine g_getR d_Drops_add_18 fl_Drops_9 (gDr_h2 hD) rfl ?_
  refine g_iload d_Drops_add_21 0 rfl ?_
  obtain ⟨q3, hq3, h⟩ := gOb h
  refine g_callN_i (As := [.ref (ε.2.2.1 e 8), .int q1]) (rest := []) (j := 529) (host := "DropSignals") (ct_DS_at e 8 16 (gDr_h8 hD) q2 q1 _ hq3) d_Drops_add_23 ca_DS_at (by decide +kernel) rfl rfl (Nat.le_of_ble_eq_true rfl) ⟨(Nat.le_of_ble_eq_true rfl), (Nat.le_of_ble_eq_true rfl)⟩ ?_
  refine g_istore (L' := [(5, .int q3), (4, .int q1), (0, .ref (ε.2.2.1 e 2)), (1, .int a0), (2, .int a1), (3, .int a2)]) d_Drops_add_26 (by decide) rfl ?_
  refine g_iload d_Drops_add_28 0 rfl ?_
  refine g_iconst (v := 1) d_Drops_add_30 (by decide) ?_
  refine g_icmp_ne (tgt := 44) d_Drops_add_31 (by decide) (fun c9 => ?_) (fun c9 => ?_)
  · rw [if_neg c9] at h
    refine gGo_sub [2, 5, 1, 0] rfl ?_
    exact t_Drops_add_b44 e hD q2 a2 q1 q3 _ h
  · rw [if_pos c9] at h
    refine g_aload_n d_Drops_add_34 rfl 2 rfl ?_
    refine g_getR d_Drops_add_35 fl_Drops_15 (gDr_h2 hD) rfl ?_
    refine g_iload d_Drops_add_38 1 rfl ?_
    refine g_iload_n d_Drops_add_40 rfl 5 rfl ?_
    obtain ⟨q8, hq8, h⟩ := gOb h
    refine g_callN_v (As := [.ref (ε.2.2.1 e 9), .int q1, .int a2]) (rest := []) (j := 518) (host := "DropSignals") (ct_DS_put e 9 16 (gDr_h9 hD) q2 q1 a2 _ hq8) d_Drops_add_41 ca_DS_put (by decide +kernel) rfl rfl (Nat.le_of_ble_eq_true rfl) ⟨(Nat.le_of_ble_eq_true rfl), (Nat.le_of_ble_eq_true rfl)⟩ ?_
    refine gGo_sub [2, 5, 1, 0] rfl ?_
    exact t_Drops_add_b44 e hD q8 a2 q1 q3 _ h
theorem ct_Drops_add {l : Launch} {ε : gEnv} (e : Nat) (hD : gDr ε e) (M : gMem) (a0 : Int32) (a1 : Int32) (a2 : Int32) (r : (Int32 × gMem)) (h : f_Drops_add e M a0 a1 a2 = some r) : gCt l ε k_Drops_add 1 22 [.ref (ε.2.2.1 e 2), .int a0, .int a1, .int a2] M (some (.int r.1)) r.2 :=
  gCt_of (by decide) (Nat.le_of_ble_eq_true rfl) rfl (t_Drops_add e hD M a0 a1 a2 r h)
abbrev k_Drops_truthFor : gMD := (⟨"DropSignals$Drops", "truthFor", "(I)I"⟩, prog_3_method_12_code, 1, (some .int))
theorem w_542 : Cond.static ⟨"DropSignals$Drops", "truthFor", "(I)I"⟩ ∈ gWs := gWs_in (i := 542) (by decide +kernel) rfl
set_option maxRecDepth 100000 in
theorem ca_Drops_truthFor : gCaS k_Drops_truthFor 1 := ⟨⟨gWs_in (i := 543) rfl rfl, w_24, by decide, by decide, by decide +kernel⟩, w_542⟩
theorem d_Drops_truthFor_0 : decode prog_3_method_12_code 0 = .ok (.iload_n 0, 1) := by decide +kernel
theorem d_Drops_truthFor_1 : decode prog_3_method_12_code 1 = .ok (.iconst 2, 1) := by decide +kernel
theorem d_Drops_truthFor_2 : decode prog_3_method_12_code 2 = .ok (.irem, 1) := by decide +kernel
theorem d_Drops_truthFor_3 : decode prog_3_method_12_code 3 = .ok (.ifCond .ne 7, 3) := by decide +kernel
theorem d_Drops_truthFor_6 : decode prog_3_method_12_code 6 = .ok (.iconst 2, 1) := by decide +kernel
theorem d_Drops_truthFor_7 : decode prog_3_method_12_code 7 = .ok (.goto 4, 3) := by decide +kernel
theorem d_Drops_truthFor_10 : decode prog_3_method_12_code 10 = .ok (.iconst 1, 1) := by decide +kernel
theorem d_Drops_truthFor_11 : decode prog_3_method_12_code 11 = .ok (.ireturn, 1) := by decide +kernel
noncomputable def f_Drops_truthFor (a0 : Int32) : Option Int32 :=
  if (gRem a0 2) = 0 then
    some 2
  else
    some 1
theorem t_Drops_truthFor {l : Launch} {ε : gEnv} (M : gMem) (a0 : Int32) (r : Int32) (h : f_Drops_truthFor a0 = some r) : gGo l ε k_Drops_truthFor (gR 0 0) (gFn ε (some (.int r)) M) 0 [(0, .int a0)] [] M := by
  unfold f_Drops_truthFor at h
  refine g_iload_n d_Drops_truthFor_0 rfl 0 rfl ?_
  refine g_iconst (v := 2) d_Drops_truthFor_1 (by decide) ?_
  refine g_rem d_Drops_truthFor_2 (by decide) ?_
  refine g_if_ne (tgt := 10) d_Drops_truthFor_3 (by decide) (fun c1 => ?_) (fun c1 => ?_)
  · rw [if_neg c1] at h
    refine g_iconst (v := 1) d_Drops_truthFor_10 (by decide) ?_
    obtain rfl := Option.some.inj h
    exact g_iret d_Drops_truthFor_11 rfl
  · rw [if_pos c1] at h
    refine g_iconst (v := 2) d_Drops_truthFor_6 (by decide) ?_
    refine g_goto (tgt := 11) d_Drops_truthFor_7 (by decide) ?_
    obtain rfl := Option.some.inj h
    exact g_iret d_Drops_truthFor_11 rfl
theorem ct_Drops_truthFor {l : Launch} {ε : gEnv} (M : gMem) (a0 : Int32) (r : Int32) (h : f_Drops_truthFor a0 = some r) : gCt l ε k_Drops_truthFor 0 0 [.int a0] M (some (.int r)) M :=
  gCt_of (by decide) (Nat.le_of_ble_eq_true rfl) rfl (t_Drops_truthFor M a0 r h)
abbrev k_DS_isBid : gMD := (⟨"DropSignals", "isBid", "(II)Z"⟩, prog_1_method_35_code, 2, (some .boolean))
theorem w_459 : Cond.static ⟨"DropSignals", "isBid", "(II)Z"⟩ ∈ gWs := gWs_in (i := 459) (by decide +kernel) rfl
set_option maxRecDepth 100000 in
theorem ca_DS_isBid : gCaS k_DS_isBid 2 := ⟨⟨gWs_in (i := 460) rfl rfl, w_20, by decide, by decide, by decide +kernel⟩, w_459⟩
theorem d_DS_isBid_0 : decode prog_1_method_35_code 0 = .ok (.iload_n 0, 1) := by decide +kernel
theorem d_DS_isBid_1 : decode prog_1_method_35_code 1 = .ok (.iconst 1, 1) := by decide +kernel
theorem d_DS_isBid_2 : decode prog_1_method_35_code 2 = .ok (.if_icmp .lt 21, 3) := by decide +kernel
theorem d_DS_isBid_5 : decode prog_1_method_35_code 5 = .ok (.iload_n 0, 1) := by decide +kernel
theorem d_DS_isBid_6 : decode prog_1_method_35_code 6 = .ok (.iconst 4, 1) := by decide +kernel
theorem d_DS_isBid_7 : decode prog_1_method_35_code 7 = .ok (.if_icmp .gt 16, 3) := by decide +kernel
theorem d_DS_isBid_10 : decode prog_1_method_35_code 10 = .ok (.iload_n 1, 1) := by decide +kernel
theorem d_DS_isBid_11 : decode prog_1_method_35_code 11 = .ok (.ifCond .lt 12, 3) := by decide +kernel
theorem d_DS_isBid_14 : decode prog_1_method_35_code 14 = .ok (.iload_n 1, 1) := by decide +kernel
theorem d_DS_isBid_15 : decode prog_1_method_35_code 15 = .ok (.iconst 4, 1) := by decide +kernel
theorem d_DS_isBid_16 : decode prog_1_method_35_code 16 = .ok (.if_icmp .gt 7, 3) := by decide +kernel
theorem d_DS_isBid_19 : decode prog_1_method_35_code 19 = .ok (.iconst 1, 1) := by decide +kernel
theorem d_DS_isBid_20 : decode prog_1_method_35_code 20 = .ok (.goto 4, 3) := by decide +kernel
theorem d_DS_isBid_23 : decode prog_1_method_35_code 23 = .ok (.iconst 0, 1) := by decide +kernel
theorem d_DS_isBid_24 : decode prog_1_method_35_code 24 = .ok (.ireturn, 1) := by decide +kernel
noncomputable def f_DS_isBid (a0 : Int32) (a1 : Int32) : Option Int32 :=
  if a0 < 1 then
    some 0
  else
    if 4 < a0 then
      some 0
    else
      if a1 < 0 then
        some 0
      else
        if 4 < a1 then
          some 0
        else
          some 1
theorem t_DS_isBid {l : Launch} {ε : gEnv} (M : gMem) (a0 : Int32) (a1 : Int32) (r : Int32) (h : f_DS_isBid a0 a1 = some r) : gGo l ε k_DS_isBid (gR 0 0) (gFn ε (some (.int r)) M) 0 [(0, .int a0), (1, .int a1)] [] M := by
  unfold f_DS_isBid at h
  refine g_iload_n d_DS_isBid_0 rfl 0 rfl ?_
  refine g_iconst (v := 1) d_DS_isBid_1 (by decide) ?_
  refine g_icmp_lt (tgt := 23) d_DS_isBid_2 (by decide) (fun c4 => ?_) (fun c4 => ?_)
  · rw [if_pos c4] at h
    refine g_iconst (v := 0) d_DS_isBid_23 (by decide) ?_
    obtain rfl := Option.some.inj h
    exact g_zret d_DS_isBid_24 rfl gZ0
  · rw [if_neg c4] at h
    refine g_iload_n d_DS_isBid_5 rfl 0 rfl ?_
    refine g_iconst (v := 4) d_DS_isBid_6 (by decide) ?_
    refine g_icmp_gt (tgt := 23) d_DS_isBid_7 (by decide) (fun c3 => ?_) (fun c3 => ?_)
    · rw [if_pos c3] at h
      refine g_iconst (v := 0) d_DS_isBid_23 (by decide) ?_
      obtain rfl := Option.some.inj h
      exact g_zret d_DS_isBid_24 rfl gZ0
    · rw [if_neg c3] at h
      refine g_iload_n d_DS_isBid_10 rfl 1 rfl ?_
      refine g_if_lt (tgt := 23) d_DS_isBid_11 (by decide) (fun c2 => ?_) (fun c2 => ?_)
      · rw [if_pos c2] at h
        refine g_iconst (v := 0) d_DS_isBid_23 (by decide) ?_
        obtain rfl := Option.some.inj h
        exact g_zret d_DS_isBid_24 rfl gZ0
      · rw [if_neg c2] at h
        refine g_iload_n d_DS_isBid_14 rfl 1 rfl ?_
        refine g_iconst (v := 4) d_DS_isBid_15 (by decide) ?_
        refine g_icmp_gt (tgt := 23) d_DS_isBid_16 (by decide) (fun c1 => ?_) (fun c1 => ?_)
        · rw [if_pos c1] at h
          refine g_iconst (v := 0) d_DS_isBid_23 (by decide) ?_
          obtain rfl := Option.some.inj h
          exact g_zret d_DS_isBid_24 rfl gZ0
        · rw [if_neg c1] at h
          refine g_iconst (v := 1) d_DS_isBid_19 (by decide) ?_
          refine g_goto (tgt := 24) d_DS_isBid_20 (by decide) ?_
          obtain rfl := Option.some.inj h
          exact g_zret d_DS_isBid_24 rfl gZ1
theorem ct_DS_isBid {l : Launch} {ε : gEnv} (M : gMem) (a0 : Int32) (a1 : Int32) (r : Int32) (h : f_DS_isBid a0 a1 = some r) : gCt l ε k_DS_isBid 0 0 [.int a0, .int a1] M (some (.int r)) M :=
  gCt_of (by decide) (Nat.le_of_ble_eq_true rfl) rfl (t_DS_isBid M a0 a1 r h)
abbrev k_DS_nextPlayer : gMD := (⟨"DropSignals", "nextPlayer", "(I)I"⟩, prog_1_method_37_code, 1, (some .int))
theorem w_466 : Cond.static ⟨"DropSignals", "nextPlayer", "(I)I"⟩ ∈ gWs := gWs_in (i := 466) (by decide +kernel) rfl
set_option maxRecDepth 100000 in
theorem ca_DS_nextPlayer : gCaS k_DS_nextPlayer 1 := ⟨⟨gWs_in (i := 467) rfl rfl, w_20, by decide, by decide, by decide +kernel⟩, w_466⟩
theorem d_DS_nextPlayer_0 : decode prog_1_method_37_code 0 = .ok (.iload_n 0, 1) := by decide +kernel
theorem d_DS_nextPlayer_1 : decode prog_1_method_37_code 1 = .ok (.iconst 1, 1) := by decide +kernel
theorem d_DS_nextPlayer_2 : decode prog_1_method_37_code 2 = .ok (.iadd, 1) := by decide +kernel
theorem d_DS_nextPlayer_3 : decode prog_1_method_37_code 3 = .ok (.iconst 4, 1) := by decide +kernel
theorem d_DS_nextPlayer_4 : decode prog_1_method_37_code 4 = .ok (.irem, 1) := by decide +kernel
theorem d_DS_nextPlayer_5 : decode prog_1_method_37_code 5 = .ok (.ireturn, 1) := by decide +kernel
noncomputable def f_DS_nextPlayer (a0 : Int32) : Option Int32 :=
  some (gRem (a0 + 1) 4)
theorem t_DS_nextPlayer {l : Launch} {ε : gEnv} (M : gMem) (a0 : Int32) (r : Int32) (h : f_DS_nextPlayer a0 = some r) : gGo l ε k_DS_nextPlayer (gR 0 0) (gFn ε (some (.int r)) M) 0 [(0, .int a0)] [] M := by
  unfold f_DS_nextPlayer at h
  refine g_iload_n d_DS_nextPlayer_0 rfl 0 rfl ?_
  refine g_iconst (v := 1) d_DS_nextPlayer_1 (by decide) ?_
  refine g_iadd d_DS_nextPlayer_2 ?_
  refine g_iconst (v := 4) d_DS_nextPlayer_3 (by decide) ?_
  refine g_rem d_DS_nextPlayer_4 (by decide) ?_
  obtain rfl := Option.some.inj h
  exact g_iret d_DS_nextPlayer_5 rfl
theorem ct_DS_nextPlayer {l : Launch} {ε : gEnv} (M : gMem) (a0 : Int32) (r : Int32) (h : f_DS_nextPlayer a0 = some r) : gCt l ε k_DS_nextPlayer 0 0 [.int a0] M (some (.int r)) M :=
  gCt_of (by decide) (Nat.le_of_ble_eq_true rfl) rfl (t_DS_nextPlayer M a0 r h)
abbrev k_DS_isSmall : gMD := (⟨"DropSignals", "isSmall", "(I)Z"⟩, prog_1_method_36_code, 1, (some .boolean))
theorem w_520 : Cond.static ⟨"DropSignals", "isSmall", "(I)Z"⟩ ∈ gWs := gWs_in (i := 520) (by decide +kernel) rfl
set_option maxRecDepth 100000 in
theorem ca_DS_isSmall : gCaS k_DS_isSmall 1 := ⟨⟨gWs_in (i := 521) rfl rfl, w_20, by decide, by decide, by decide +kernel⟩, w_520⟩
theorem d_DS_isSmall_0 : decode prog_1_method_36_code 0 = .ok (.iload_n 0, 1) := by decide +kernel
theorem d_DS_isSmall_1 : decode prog_1_method_36_code 1 = .ok (.ifCond .lt 15, 3) := by decide +kernel
theorem d_DS_isSmall_4 : decode prog_1_method_36_code 4 = .ok (.iload_n 0, 1) := by decide +kernel
theorem d_DS_isSmall_5 : decode prog_1_method_36_code 5 = .ok (.bipush 8, 2) := by decide +kernel
theorem d_DS_isSmall_7 : decode prog_1_method_36_code 7 = .ok (.irem, 1) := by decide +kernel
theorem d_DS_isSmall_8 : decode prog_1_method_36_code 8 = .ok (.iconst 4, 1) := by decide +kernel
theorem d_DS_isSmall_9 : decode prog_1_method_36_code 9 = .ok (.if_icmp .ge 7, 3) := by decide +kernel
theorem d_DS_isSmall_12 : decode prog_1_method_36_code 12 = .ok (.iconst 1, 1) := by decide +kernel
theorem d_DS_isSmall_13 : decode prog_1_method_36_code 13 = .ok (.goto 4, 3) := by decide +kernel
theorem d_DS_isSmall_16 : decode prog_1_method_36_code 16 = .ok (.iconst 0, 1) := by decide +kernel
theorem d_DS_isSmall_17 : decode prog_1_method_36_code 17 = .ok (.ireturn, 1) := by decide +kernel
noncomputable def f_DS_isSmall (a0 : Int32) : Option Int32 :=
  if a0 < 0 then
    some 0
  else
    if 4 ≤ (gRem a0 8) then
      some 0
    else
      some 1
theorem t_DS_isSmall {l : Launch} {ε : gEnv} (M : gMem) (a0 : Int32) (r : Int32) (h : f_DS_isSmall a0 = some r) : gGo l ε k_DS_isSmall (gR 0 0) (gFn ε (some (.int r)) M) 0 [(0, .int a0)] [] M := by
  unfold f_DS_isSmall at h
  refine g_iload_n d_DS_isSmall_0 rfl 0 rfl ?_
  refine g_if_lt (tgt := 16) d_DS_isSmall_1 (by decide) (fun c2 => ?_) (fun c2 => ?_)
  · rw [if_pos c2] at h
    refine g_iconst (v := 0) d_DS_isSmall_16 (by decide) ?_
    obtain rfl := Option.some.inj h
    exact g_zret d_DS_isSmall_17 rfl gZ0
  · rw [if_neg c2] at h
    refine g_iload_n d_DS_isSmall_4 rfl 0 rfl ?_
    refine g_bipush (v := 8) d_DS_isSmall_5 (by decide) ?_
    refine g_rem d_DS_isSmall_7 (by decide) ?_
    refine g_iconst (v := 4) d_DS_isSmall_8 (by decide) ?_
    refine g_icmp_ge (tgt := 16) d_DS_isSmall_9 (by decide) (fun c1 => ?_) (fun c1 => ?_)
    · rw [if_pos c1] at h
      refine g_iconst (v := 0) d_DS_isSmall_16 (by decide) ?_
      obtain rfl := Option.some.inj h
      exact g_zret d_DS_isSmall_17 rfl gZ0
    · rw [if_neg c1] at h
      refine g_iconst (v := 1) d_DS_isSmall_12 (by decide) ?_
      refine g_goto (tgt := 17) d_DS_isSmall_13 (by decide) ?_
      obtain rfl := Option.some.inj h
      exact g_zret d_DS_isSmall_17 rfl gZ1
theorem ct_DS_isSmall {l : Launch} {ε : gEnv} (M : gMem) (a0 : Int32) (r : Int32) (h : f_DS_isSmall a0 = some r) : gCt l ε k_DS_isSmall 0 0 [.int a0] M (some (.int r)) M :=
  gCt_of (by decide) (Nat.le_of_ble_eq_true rfl) rfl (t_DS_isSmall M a0 r h)
abbrev k_DS_beats : gMD := (⟨"DropSignals", "beats", "(III)Z"⟩, prog_1_method_38_code, 4, (some .boolean))
theorem w_561 : Cond.static ⟨"DropSignals", "beats", "(III)Z"⟩ ∈ gWs := gWs_in (i := 561) (by decide +kernel) rfl
set_option maxRecDepth 100000 in
theorem ca_DS_beats : gCaS k_DS_beats 3 := ⟨⟨gWs_in (i := 562) rfl rfl, w_20, by decide, by decide, by decide +kernel⟩, w_561⟩
theorem d_DS_beats_0 : decode prog_1_method_38_code 0 = .ok (.iload_n 0, 1) := by decide +kernel
theorem d_DS_beats_1 : decode prog_1_method_38_code 1 = .ok (.bipush 8, 2) := by decide +kernel
theorem d_DS_beats_3 : decode prog_1_method_38_code 3 = .ok (.idiv, 1) := by decide +kernel
theorem d_DS_beats_4 : decode prog_1_method_38_code 4 = .ok (.istore_n 3, 1) := by decide +kernel
theorem d_DS_beats_5 : decode prog_1_method_38_code 5 = .ok (.iload_n 3, 1) := by decide +kernel
theorem d_DS_beats_6 : decode prog_1_method_38_code 6 = .ok (.iload_n 1, 1) := by decide +kernel
theorem d_DS_beats_7 : decode prog_1_method_38_code 7 = .ok (.bipush 8, 2) := by decide +kernel
theorem d_DS_beats_9 : decode prog_1_method_38_code 9 = .ok (.idiv, 1) := by decide +kernel
theorem d_DS_beats_10 : decode prog_1_method_38_code 10 = .ok (.if_icmp .ne 16, 3) := by decide +kernel
theorem d_DS_beats_13 : decode prog_1_method_38_code 13 = .ok (.iload_n 0, 1) := by decide +kernel
theorem d_DS_beats_14 : decode prog_1_method_38_code 14 = .ok (.iload_n 1, 1) := by decide +kernel
theorem d_DS_beats_15 : decode prog_1_method_38_code 15 = .ok (.if_icmp .le 7, 3) := by decide +kernel
theorem d_DS_beats_18 : decode prog_1_method_38_code 18 = .ok (.iconst 1, 1) := by decide +kernel
theorem d_DS_beats_19 : decode prog_1_method_38_code 19 = .ok (.goto 17, 3) := by decide +kernel
theorem d_DS_beats_22 : decode prog_1_method_38_code 22 = .ok (.iconst 0, 1) := by decide +kernel
theorem d_DS_beats_23 : decode prog_1_method_38_code 23 = .ok (.goto 13, 3) := by decide +kernel
theorem d_DS_beats_26 : decode prog_1_method_38_code 26 = .ok (.iload_n 3, 1) := by decide +kernel
theorem d_DS_beats_27 : decode prog_1_method_38_code 27 = .ok (.iload_n 2, 1) := by decide +kernel
theorem d_DS_beats_28 : decode prog_1_method_38_code 28 = .ok (.if_icmp .ne 7, 3) := by decide +kernel
theorem d_DS_beats_31 : decode prog_1_method_38_code 31 = .ok (.iconst 1, 1) := by decide +kernel
theorem d_DS_beats_32 : decode prog_1_method_38_code 32 = .ok (.goto 4, 3) := by decide +kernel
theorem d_DS_beats_35 : decode prog_1_method_38_code 35 = .ok (.iconst 0, 1) := by decide +kernel
theorem d_DS_beats_36 : decode prog_1_method_38_code 36 = .ok (.ireturn, 1) := by decide +kernel
noncomputable def f_DS_beats (a0 : Int32) (a1 : Int32) (a2 : Int32) : Option Int32 :=
  if (a0 / 8) = (a1 / 8) then
    if a0 ≤ a1 then
      some 0
    else
      some 1
  else
    if (a0 / 8) = a2 then
      some 1
    else
      some 0
theorem t_DS_beats {l : Launch} {ε : gEnv} (M : gMem) (a0 : Int32) (a1 : Int32) (a2 : Int32) (r : Int32) (h : f_DS_beats a0 a1 a2 = some r) : gGo l ε k_DS_beats (gR 0 0) (gFn ε (some (.int r)) M) 0 [(0, .int a0), (1, .int a1), (2, .int a2)] [] M := by
  unfold f_DS_beats at h
  refine g_iload_n d_DS_beats_0 rfl 0 rfl ?_
  refine g_bipush (v := 8) d_DS_beats_1 (by decide) ?_
  refine g_idiv d_DS_beats_3 (by decide) ?_
  refine g_istore_n (L' := [(3, .int (a0 / 8)), (0, .int a0), (1, .int a1), (2, .int a2)]) d_DS_beats_4 rfl (by decide) rfl ?_
  refine g_iload_n d_DS_beats_5 rfl 0 rfl ?_
  refine g_iload_n d_DS_beats_6 rfl 2 rfl ?_
  refine g_bipush (v := 8) d_DS_beats_7 (by decide) ?_
  refine g_idiv d_DS_beats_9 (by decide) ?_
  refine g_icmp_ne (tgt := 26) d_DS_beats_10 (by decide) (fun c3 => ?_) (fun c3 => ?_)
  · rw [if_neg c3] at h
    refine g_iload_n d_DS_beats_26 rfl 0 rfl ?_
    refine g_iload_n d_DS_beats_27 rfl 3 rfl ?_
    refine g_icmp_ne (tgt := 35) d_DS_beats_28 (by decide) (fun c1 => ?_) (fun c1 => ?_)
    · rw [if_neg c1] at h
      refine g_iconst (v := 0) d_DS_beats_35 (by decide) ?_
      obtain rfl := Option.some.inj h
      exact g_zret d_DS_beats_36 rfl gZ0
    · rw [if_pos c1] at h
      refine g_iconst (v := 1) d_DS_beats_31 (by decide) ?_
      refine g_goto (tgt := 36) d_DS_beats_32 (by decide) ?_
      obtain rfl := Option.some.inj h
      exact g_zret d_DS_beats_36 rfl gZ1
  · rw [if_pos c3] at h
    refine g_iload_n d_DS_beats_13 rfl 1 rfl ?_
    refine g_iload_n d_DS_beats_14 rfl 2 rfl ?_
    refine g_icmp_le (tgt := 22) d_DS_beats_15 (by decide) (fun c2 => ?_) (fun c2 => ?_)
    · rw [if_pos c2] at h
      refine g_iconst (v := 0) d_DS_beats_22 (by decide) ?_
      refine g_goto (tgt := 36) d_DS_beats_23 (by decide) ?_
      obtain rfl := Option.some.inj h
      exact g_zret d_DS_beats_36 rfl gZ0
    · rw [if_neg c2] at h
      refine g_iconst (v := 1) d_DS_beats_18 (by decide) ?_
      refine g_goto (tgt := 36) d_DS_beats_19 (by decide) ?_
      obtain rfl := Option.some.inj h
      exact g_zret d_DS_beats_36 rfl gZ1
theorem ct_DS_beats {l : Launch} {ε : gEnv} (M : gMem) (a0 : Int32) (a1 : Int32) (a2 : Int32) (r : Int32) (h : f_DS_beats a0 a1 a2 = some r) : gCt l ε k_DS_beats 0 0 [.int a0, .int a1, .int a2] M (some (.int r)) M :=
  gCt_of (by decide) (Nat.le_of_ble_eq_true rfl) rfl (t_DS_beats M a0 a1 a2 r h)
abbrev k_DS_winningPlace : gMD := (⟨"DropSignals", "winningPlace", "([III)I"⟩, prog_1_method_39_code, 5, (some .int))
theorem w_557 : Cond.static ⟨"DropSignals", "winningPlace", "([III)I"⟩ ∈ gWs := gWs_in (i := 557) (by decide +kernel) rfl
set_option maxRecDepth 100000 in
theorem ca_DS_winningPlace : gCaS k_DS_winningPlace 3 := ⟨⟨gWs_in (i := 558) rfl rfl, w_20, by decide, by decide, by decide +kernel⟩, w_557⟩
theorem d_DS_winningPlace_0 : decode prog_1_method_39_code 0 = .ok (.iconst 0, 1) := by decide +kernel
theorem d_DS_winningPlace_1 : decode prog_1_method_39_code 1 = .ok (.istore_n 3, 1) := by decide +kernel
theorem d_DS_winningPlace_2 : decode prog_1_method_39_code 2 = .ok (.iconst 1, 1) := by decide +kernel
theorem d_DS_winningPlace_3 : decode prog_1_method_39_code 3 = .ok (.istore 4, 2) := by decide +kernel
theorem d_DS_winningPlace_5 : decode prog_1_method_39_code 5 = .ok (.iload 4, 2) := by decide +kernel
theorem d_DS_winningPlace_7 : decode prog_1_method_39_code 7 = .ok (.iconst 4, 1) := by decide +kernel
theorem d_DS_winningPlace_8 : decode prog_1_method_39_code 8 = .ok (.if_icmp .ge 34, 3) := by decide +kernel
theorem d_DS_winningPlace_11 : decode prog_1_method_39_code 11 = .ok (.aload_n 0, 1) := by decide +kernel
theorem d_DS_winningPlace_12 : decode prog_1_method_39_code 12 = .ok (.iload_n 1, 1) := by decide +kernel
theorem d_DS_winningPlace_13 : decode prog_1_method_39_code 13 = .ok (.iload 4, 2) := by decide +kernel
theorem d_DS_winningPlace_15 : decode prog_1_method_39_code 15 = .ok (.iadd, 1) := by decide +kernel
theorem d_DS_winningPlace_16 : decode prog_1_method_39_code 16 = .ok (.invokestatic 304, 3) := by decide +kernel
theorem d_DS_winningPlace_19 : decode prog_1_method_39_code 19 = .ok (.aload_n 0, 1) := by decide +kernel
theorem d_DS_winningPlace_20 : decode prog_1_method_39_code 20 = .ok (.iload_n 1, 1) := by decide +kernel
theorem d_DS_winningPlace_21 : decode prog_1_method_39_code 21 = .ok (.iload_n 3, 1) := by decide +kernel
theorem d_DS_winningPlace_22 : decode prog_1_method_39_code 22 = .ok (.iadd, 1) := by decide +kernel
theorem d_DS_winningPlace_23 : decode prog_1_method_39_code 23 = .ok (.invokestatic 304, 3) := by decide +kernel
theorem d_DS_winningPlace_26 : decode prog_1_method_39_code 26 = .ok (.iload_n 2, 1) := by decide +kernel
theorem d_DS_winningPlace_27 : decode prog_1_method_39_code 27 = .ok (.invokestatic 308, 3) := by decide +kernel
theorem d_DS_winningPlace_30 : decode prog_1_method_39_code 30 = .ok (.ifCond .eq 6, 3) := by decide +kernel
theorem d_DS_winningPlace_33 : decode prog_1_method_39_code 33 = .ok (.iload 4, 2) := by decide +kernel
theorem d_DS_winningPlace_35 : decode prog_1_method_39_code 35 = .ok (.istore_n 3, 1) := by decide +kernel
theorem d_DS_winningPlace_36 : decode prog_1_method_39_code 36 = .ok (.iinc 4 1, 3) := by decide +kernel
theorem d_DS_winningPlace_39 : decode prog_1_method_39_code 39 = .ok (.goto (-34), 3) := by decide +kernel
theorem d_DS_winningPlace_42 : decode prog_1_method_39_code 42 = .ok (.iload_n 3, 1) := by decide +kernel
theorem d_DS_winningPlace_43 : decode prog_1_method_39_code 43 = .ok (.ireturn, 1) := by decide +kernel
theorem w_559 : Cond.methodLink "DropSignals" 304 ⟨"DropSignals", "at", "([II)I"⟩ ∈ gWs := gWs_in (i := 559) (by decide +kernel) rfl
theorem w_560 : Cond.methodLink "DropSignals" 308 ⟨"DropSignals", "beats", "(III)Z"⟩ ∈ gWs := gWs_in (i := 560) (by decide +kernel) rfl
noncomputable def f_DS_winningPlace_b36 (g0 : Nat) (c0 : Nat) (n0 : Nat) (M : gMem) (x1 : Int32) (x2 : Int32) (x3 : Int32) (x4 : Int32) : Option ((Int32 × Int32) ⊕ Int32) :=
  some (.inl (x3, (x4 + 1)))
theorem t_DS_winningPlace_b36 {l : Launch} {ε : gEnv} (g0 : Nat) (c0 : Nat) (n0 : Nat) (h0 : gHas ε g0 c0 (0, n0, [])) (M : gMem) (x1 : Int32) (x2 : Int32) (x3 : Int32) (x4 : Int32) (res : ((Int32 × Int32) ⊕ Int32)) (h : f_DS_winningPlace_b36 g0 c0 n0 M x1 x2 x3 x4 = some res) (r : Int32) (k1 : ∀ s0 : (Int32 × Int32), res = .inl s0 → gGo l ε k_DS_winningPlace (gR 1 23) (gFn ε (some (.int r)) M) 5 [(0, .ref (ε.2.2.1 g0 c0)), (1, .int x1), (2, .int x2), (3, .int s0.1), (4, .int s0.2)] [] M) (k2 : ∀ r', res = .inr r' → r' = r) : gGo l ε k_DS_winningPlace (gR 1 23) (gFn ε (some (.int r)) M) 36 [(0, .ref (ε.2.2.1 g0 c0)), (1, .int x1), (2, .int x2), (3, .int x3), (4, .int x4)] [] M := by
  unfold f_DS_winningPlace_b36 at h
  refine g_iinc (v := (x4 + 1)) (L' := [(4, .int (x4 + 1)), (0, .ref (ε.2.2.1 g0 c0)), (1, .int x1), (2, .int x2), (3, .int x3)]) d_DS_winningPlace_36 (j := 4) rfl rfl (by decide) rfl ?_
  refine g_goto (tgt := 5) d_DS_winningPlace_39 (by decide) ?_
  refine gGo_sub [1, 2, 3, 4, 0] rfl ?_
  obtain rfl := Option.some.inj h
  exact k1 (x3, (x4 + 1)) rfl
noncomputable def f_DS_winningPlace_s5 (g0 : Nat) (c0 : Nat) (n0 : Nat) (M : gMem) (x1 : Int32) (x2 : Int32) (x3 : Int32) (x4 : Int32) : Option ((Int32 × Int32) ⊕ Int32) :=
  if 4 ≤ x4 then
    some (.inr x3)
  else
    (f_DS_at g0 c0 n0 M (x1 + x4)).bind fun q1 =>
    (f_DS_at g0 c0 n0 M (x1 + x3)).bind fun q2 =>
    (f_DS_beats q1 q2 x2).bind fun q3 =>
    if q3 = 0 then
      f_DS_winningPlace_b36 g0 c0 n0 M x1 x2 x3 x4
    else
      f_DS_winningPlace_b36 g0 c0 n0 M x1 x2 x4 x4
theorem t_DS_winningPlace_s5 {l : Launch} {ε : gEnv} (g0 : Nat) (c0 : Nat) (n0 : Nat) (h0 : gHas ε g0 c0 (0, n0, [])) (M : gMem) (x1 : Int32) (x2 : Int32) (x3 : Int32) (x4 : Int32) (res : ((Int32 × Int32) ⊕ Int32)) (h : f_DS_winningPlace_s5 g0 c0 n0 M x1 x2 x3 x4 = some res) (r : Int32) (k1 : ∀ s0 : (Int32 × Int32), res = .inl s0 → gGo l ε k_DS_winningPlace (gR 1 23) (gFn ε (some (.int r)) M) 5 [(0, .ref (ε.2.2.1 g0 c0)), (1, .int x1), (2, .int x2), (3, .int s0.1), (4, .int s0.2)] [] M) (k2 : ∀ r', res = .inr r' → r' = r) : gGo l ε k_DS_winningPlace (gR 1 23) (gFn ε (some (.int r)) M) 5 [(0, .ref (ε.2.2.1 g0 c0)), (1, .int x1), (2, .int x2), (3, .int x3), (4, .int x4)] [] M := by
  unfold f_DS_winningPlace_s5 at h
  refine g_iload d_DS_winningPlace_5 4 rfl ?_
  refine g_iconst (v := 4) d_DS_winningPlace_7 (by decide) ?_
  refine g_icmp_ge (tgt := 42) d_DS_winningPlace_8 (by decide) (fun c5 => ?_) (fun c5 => ?_)
  · rw [if_pos c5] at h
    refine g_iload_n d_DS_winningPlace_42 rfl 3 rfl ?_
    obtain rfl := Option.some.inj h
    have e9 := k2 _ rfl
    subst e9
    exact g_iret d_DS_winningPlace_43 rfl
  · rw [if_neg c5] at h
    refine g_aload_n d_DS_winningPlace_11 rfl 0 rfl ?_
    refine g_iload_n d_DS_winningPlace_12 rfl 1 rfl ?_
    refine g_iload d_DS_winningPlace_13 4 rfl ?_
    refine g_iadd d_DS_winningPlace_15 ?_
    obtain ⟨q1, hq1, h⟩ := gOb h
    refine g_callS_i (As := [.ref (ε.2.2.1 g0 c0), .int (x1 + x4)]) (rest := []) (ct_DS_at g0 c0 n0 h0 M (x1 + x4) _ hq1) d_DS_winningPlace_16 ca_DS_at w_559 rfl rfl (Nat.le_of_ble_eq_true rfl) ⟨(Nat.le_of_ble_eq_true rfl), (Nat.le_of_ble_eq_true rfl)⟩ ?_
    refine g_aload_n d_DS_winningPlace_19 rfl 0 rfl ?_
    refine g_iload_n d_DS_winningPlace_20 rfl 1 rfl ?_
    refine g_iload_n d_DS_winningPlace_21 rfl 3 rfl ?_
    refine g_iadd d_DS_winningPlace_22 ?_
    obtain ⟨q2, hq2, h⟩ := gOb h
    refine g_callS_i (As := [.ref (ε.2.2.1 g0 c0), .int (x1 + x3)]) (rest := [.int q1]) (ct_DS_at g0 c0 n0 h0 M (x1 + x3) _ hq2) d_DS_winningPlace_23 ca_DS_at w_559 rfl rfl (Nat.le_of_ble_eq_true rfl) ⟨(Nat.le_of_ble_eq_true rfl), (Nat.le_of_ble_eq_true rfl)⟩ ?_
    refine g_iload_n d_DS_winningPlace_26 rfl 2 rfl ?_
    obtain ⟨q3, hq3, h⟩ := gOb h
    refine g_callS_i (As := [.int q1, .int q2, .int x2]) (rest := []) (ct_DS_beats M q1 q2 x2 _ hq3) d_DS_winningPlace_27 ca_DS_beats w_560 rfl rfl (Nat.le_of_ble_eq_true rfl) ⟨(Nat.le_of_ble_eq_true rfl), (Nat.le_of_ble_eq_true rfl)⟩ ?_
    refine g_if_eq (tgt := 36) d_DS_winningPlace_30 (by decide) (fun c4 => ?_) (fun c4 => ?_)
    · rw [if_pos c4] at h
      exact t_DS_winningPlace_b36 g0 c0 n0 h0 M x1 x2 x3 x4 _ h r k1 k2
    · rw [if_neg c4] at h
      refine g_iload d_DS_winningPlace_33 4 rfl ?_
      refine g_istore_n (L' := [(3, .int x4), (0, .ref (ε.2.2.1 g0 c0)), (1, .int x1), (2, .int x2), (4, .int x4)]) d_DS_winningPlace_35 rfl (by decide) rfl ?_
      refine gGo_sub [1, 2, 3, 0, 4] rfl ?_
      exact t_DS_winningPlace_b36 g0 c0 n0 h0 M x1 x2 x4 x4 _ h r k1 k2
noncomputable def f_DS_winningPlace_l5 (g0 : Nat) (c0 : Nat) (n0 : Nat) (M : gMem) (x1 : Int32) (x2 : Int32) (s : (Int32 × Int32)) : Option Int32 := gLp (fun s => f_DS_winningPlace_s5 g0 c0 n0 M x1 x2 s.1 s.2) s
theorem t_DS_winningPlace_l5 {l : Launch} {ε : gEnv} (g0 : Nat) (c0 : Nat) (n0 : Nat) (h0 : gHas ε g0 c0 (0, n0, [])) (M : gMem) (x1 : Int32) (x2 : Int32) (s : (Int32 × Int32)) (r : Int32) (h : f_DS_winningPlace_l5 g0 c0 n0 M x1 x2 s = some r) : gGo l ε k_DS_winningPlace (gR 1 23) (gFn ε (some (.int r)) M) 5 [(0, .ref (ε.2.2.1 g0 c0)), (1, .int x1), (2, .int x2), (3, .int s.1), (4, .int s.2)] [] M :=
  g_loop _ (fun r s => gGo l ε k_DS_winningPlace (gR 1 23) (gFn ε (some (.int r)) M) 5 [(0, .ref (ε.2.2.1 g0 c0)), (1, .int x1), (2, .int x2), (3, .int s.1), (4, .int s.2)] [] M) (fun s res h r k1 k2 => t_DS_winningPlace_s5 g0 c0 n0 h0 M x1 x2 s.1 s.2 res h r k1 k2) s r h
noncomputable def f_DS_winningPlace (g0 : Nat) (c0 : Nat) (n0 : Nat) (M : gMem) (a1 : Int32) (a2 : Int32) : Option Int32 :=
  f_DS_winningPlace_l5 g0 c0 n0 M a1 a2 (0, 1)
theorem t_DS_winningPlace {l : Launch} {ε : gEnv} (g0 : Nat) (c0 : Nat) (n0 : Nat) (h0 : gHas ε g0 c0 (0, n0, [])) (M : gMem) (a1 : Int32) (a2 : Int32) (r : Int32) (h : f_DS_winningPlace g0 c0 n0 M a1 a2 = some r) : gGo l ε k_DS_winningPlace (gR 1 23) (gFn ε (some (.int r)) M) 0 [(0, .ref (ε.2.2.1 g0 c0)), (1, .int a1), (2, .int a2)] [] M := by
  unfold f_DS_winningPlace at h
  refine g_iconst (v := 0) d_DS_winningPlace_0 (by decide) ?_
  refine g_istore_n (L' := [(3, .int 0), (0, .ref (ε.2.2.1 g0 c0)), (1, .int a1), (2, .int a2)]) d_DS_winningPlace_1 rfl (by decide) rfl ?_
  refine g_iconst (v := 1) d_DS_winningPlace_2 (by decide) ?_
  refine g_istore (L' := [(4, .int 1), (3, .int 0), (0, .ref (ε.2.2.1 g0 c0)), (1, .int a1), (2, .int a2)]) d_DS_winningPlace_3 (by decide) rfl ?_
  refine gGo_sub [2, 3, 4, 1, 0] rfl ?_
  exact t_DS_winningPlace_l5 g0 c0 n0 h0 M a1 a2 (0, 1) _ h
theorem ct_DS_winningPlace {l : Launch} {ε : gEnv} (g0 : Nat) (c0 : Nat) (n0 : Nat) (h0 : gHas ε g0 c0 (0, n0, [])) (M : gMem) (a1 : Int32) (a2 : Int32) (r : Int32) (h : f_DS_winningPlace g0 c0 n0 M a1 a2 = some r) : gCt l ε k_DS_winningPlace 1 23 [.ref (ε.2.2.1 g0 c0), .int a1, .int a2] M (some (.int r)) M :=
  gCt_of (by decide) (Nat.le_of_ble_eq_true rfl) rfl (t_DS_winningPlace g0 c0 n0 h0 M a1 a2 r h)
abbrev k_DS_withoutGroups : gMD := (⟨"DropSignals", "withoutGroups", "(JI)J"⟩, prog_1_method_34_code, 6, (some .long))
theorem w_901 : Cond.static ⟨"DropSignals", "withoutGroups", "(JI)J"⟩ ∈ gWs := gWs_in (i := 901) (by decide +kernel) rfl
set_option maxRecDepth 100000 in
theorem ca_DS_withoutGroups : gCaS k_DS_withoutGroups 2 := ⟨⟨gWs_in (i := 902) rfl rfl, w_20, by decide, by decide, by decide +kernel⟩, w_901⟩
theorem d_DS_withoutGroups_0 : decode prog_1_method_34_code 0 = .ok (.lload_n 0, 1) := by decide +kernel
theorem d_DS_withoutGroups_1 : decode prog_1_method_34_code 1 = .ok (.lstore_n 3, 1) := by decide +kernel
theorem d_DS_withoutGroups_2 : decode prog_1_method_34_code 2 = .ok (.iconst 0, 1) := by decide +kernel
theorem d_DS_withoutGroups_3 : decode prog_1_method_34_code 3 = .ok (.istore 5, 2) := by decide +kernel
theorem d_DS_withoutGroups_5 : decode prog_1_method_34_code 5 = .ok (.iload 5, 2) := by decide +kernel
theorem d_DS_withoutGroups_7 : decode prog_1_method_34_code 7 = .ok (.iload_n 2, 1) := by decide +kernel
theorem d_DS_withoutGroups_8 : decode prog_1_method_34_code 8 = .ok (.if_icmp .ge 15, 3) := by decide +kernel
theorem d_DS_withoutGroups_11 : decode prog_1_method_34_code 11 = .ok (.lload_n 3, 1) := by decide +kernel
theorem d_DS_withoutGroups_12 : decode prog_1_method_34_code 12 = .ok (.ldc2_w 236, 3) := by decide +kernel
theorem d_DS_withoutGroups_15 : decode prog_1_method_34_code 15 = .ok (.ldiv, 1) := by decide +kernel
theorem d_DS_withoutGroups_16 : decode prog_1_method_34_code 16 = .ok (.lstore_n 3, 1) := by decide +kernel
theorem d_DS_withoutGroups_17 : decode prog_1_method_34_code 17 = .ok (.iinc 5 1, 3) := by decide +kernel
theorem d_DS_withoutGroups_20 : decode prog_1_method_34_code 20 = .ok (.goto (-15), 3) := by decide +kernel
theorem d_DS_withoutGroups_23 : decode prog_1_method_34_code 23 = .ok (.lload_n 3, 1) := by decide +kernel
theorem d_DS_withoutGroups_24 : decode prog_1_method_34_code 24 = .ok (.lreturn, 1) := by decide +kernel
theorem w_903 : Cond.constantLong "DropSignals" 236 (10000) ∈ gWs := gWs_in (i := 903) (by decide +kernel) rfl
noncomputable def f_DS_withoutGroups_s5 (x2 : Int32) (x3 : Int64) (x5 : Int32) : Option ((Int64 × Int32) ⊕ Int64) :=
  if x2 ≤ x5 then
    some (.inr x3)
  else
    some (.inl ((x3 / (10000)), (x5 + 1)))
theorem t_DS_withoutGroups_s5 {l : Launch} {ε : gEnv} (M : gMem) (x2 : Int32) (x3 : Int64) (x5 : Int32) (res : ((Int64 × Int32) ⊕ Int64)) (h : f_DS_withoutGroups_s5 x2 x3 x5 = some res) (r : Int64) (k1 : ∀ s0 : (Int64 × Int32), res = .inl s0 → gGo l ε k_DS_withoutGroups (gR 0 0) (gFn ε (some (.long r)) M) 5 [(2, .int x2), (3, .long s0.1), (5, .int s0.2)] [] M) (k2 : ∀ r', res = .inr r' → r' = r) : gGo l ε k_DS_withoutGroups (gR 0 0) (gFn ε (some (.long r)) M) 5 [(2, .int x2), (3, .long x3), (5, .int x5)] [] M := by
  unfold f_DS_withoutGroups_s5 at h
  refine g_iload d_DS_withoutGroups_5 2 rfl ?_
  refine g_iload_n d_DS_withoutGroups_7 rfl 0 rfl ?_
  refine g_icmp_ge (tgt := 23) d_DS_withoutGroups_8 (by decide) (fun c1 => ?_) (fun c1 => ?_)
  · rw [if_pos c1] at h
    refine g_lload_n d_DS_withoutGroups_23 rfl 1 rfl ?_
    obtain rfl := Option.some.inj h
    have e9 := k2 _ rfl
    subst e9
    exact g_lret d_DS_withoutGroups_24 rfl
  · rw [if_neg c1] at h
    refine g_lload_n d_DS_withoutGroups_11 rfl 1 rfl ?_
    refine g_ldc2 d_DS_withoutGroups_12 w_903 ?_
    refine g_ldiv d_DS_withoutGroups_15 (by decide) ?_
    refine g_lstore_n (L' := [(3, .long (x3 / (10000))), (2, .int x2), (5, .int x5)]) d_DS_withoutGroups_16 rfl (by decide) rfl ?_
    refine g_iinc (v := (x5 + 1)) (L' := [(5, .int (x5 + 1)), (3, .long (x3 / (10000))), (2, .int x2)]) d_DS_withoutGroups_17 (j := 2) rfl rfl (by decide) rfl ?_
    refine g_goto (tgt := 5) d_DS_withoutGroups_20 (by decide) ?_
    refine gGo_sub [2, 1, 0] rfl ?_
    obtain rfl := Option.some.inj h
    exact k1 ((x3 / (10000)), (x5 + 1)) rfl
noncomputable def f_DS_withoutGroups_l5 (x2 : Int32) (s : (Int64 × Int32)) : Option Int64 := gLp (fun s => f_DS_withoutGroups_s5 x2 s.1 s.2) s
theorem t_DS_withoutGroups_l5 {l : Launch} {ε : gEnv} (M : gMem) (x2 : Int32) (s : (Int64 × Int32)) (r : Int64) (h : f_DS_withoutGroups_l5 x2 s = some r) : gGo l ε k_DS_withoutGroups (gR 0 0) (gFn ε (some (.long r)) M) 5 [(2, .int x2), (3, .long s.1), (5, .int s.2)] [] M :=
  g_loop _ (fun r s => gGo l ε k_DS_withoutGroups (gR 0 0) (gFn ε (some (.long r)) M) 5 [(2, .int x2), (3, .long s.1), (5, .int s.2)] [] M) (fun s res h r k1 k2 => t_DS_withoutGroups_s5 M x2 s.1 s.2 res h r k1 k2) s r h
noncomputable def f_DS_withoutGroups (a0 : Int64) (a1 : Int32) : Option Int64 :=
  f_DS_withoutGroups_l5 a1 (a0, 0)
theorem t_DS_withoutGroups {l : Launch} {ε : gEnv} (M : gMem) (a0 : Int64) (a1 : Int32) (r : Int64) (h : f_DS_withoutGroups a0 a1 = some r) : gGo l ε k_DS_withoutGroups (gR 0 0) (gFn ε (some (.long r)) M) 0 [(0, .long a0), (2, .int a1)] [] M := by
  unfold f_DS_withoutGroups at h
  refine g_lload_n d_DS_withoutGroups_0 rfl 0 rfl ?_
  refine g_lstore_n (L' := [(3, .long a0), (0, .long a0), (2, .int a1)]) d_DS_withoutGroups_1 rfl (by decide) rfl ?_
  refine g_iconst (v := 0) d_DS_withoutGroups_2 (by decide) ?_
  refine g_istore (L' := [(5, .int 0), (3, .long a0), (0, .long a0), (2, .int a1)]) d_DS_withoutGroups_3 (by decide) rfl ?_
  refine gGo_sub [3, 1, 0] rfl ?_
  exact t_DS_withoutGroups_l5 M a1 (a0, 0) _ h
theorem ct_DS_withoutGroups {l : Launch} {ε : gEnv} (M : gMem) (a0 : Int64) (a1 : Int32) (r : Int64) (h : f_DS_withoutGroups a0 a1 = some r) : gCt l ε k_DS_withoutGroups 0 0 [.long a0, .int a1] M (some (.long r)) M :=
  gCt_of (by decide) (Nat.le_of_ble_eq_true rfl) rfl (t_DS_withoutGroups M a0 a1 r h)
