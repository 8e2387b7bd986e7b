theorem d_Law_call_0 : decode method_20_code 0 = .ok (.iload_n 1, 1) := by decide +kernel
theorem d_Law_call_1 : decode method_20_code 1 = .ok (.tableswitch 156 0 13 #[71, 77, 82, 88, 95, 104, 110, 117, 122, 128, 133, 139, 145, 150], 71) := by decide +kernel
theorem d_Law_call_72 : decode method_20_code 72 = .ok (.aload_n 0, 1) := by decide +kernel
theorem d_Law_call_73 : decode method_20_code 73 = .ok (.iload_n 2, 1) := by decide +kernel
theorem d_Law_call_74 : decode method_20_code 74 = .ok (.invokestatic 79, 3) := by decide +kernel
theorem d_Law_call_77 : decode method_20_code 77 = .ok (.ireturn, 1) := by decide +kernel
theorem d_Law_call_78 : decode method_20_code 78 = .ok (.aload_n 0, 1) := by decide +kernel
theorem d_Law_call_79 : decode method_20_code 79 = .ok (.invokestatic 85, 3) := by decide +kernel
theorem d_Law_call_82 : decode method_20_code 82 = .ok (.ireturn, 1) := by decide +kernel
theorem d_Law_call_83 : decode method_20_code 83 = .ok (.aload_n 0, 1) := by decide +kernel
theorem d_Law_call_84 : decode method_20_code 84 = .ok (.iload_n 2, 1) := by decide +kernel
theorem d_Law_call_85 : decode method_20_code 85 = .ok (.invokestatic 89, 3) := by decide +kernel
theorem d_Law_call_88 : decode method_20_code 88 = .ok (.ireturn, 1) := by decide +kernel
theorem d_Law_call_89 : decode method_20_code 89 = .ok (.aload_n 0, 1) := by decide +kernel
theorem d_Law_call_90 : decode method_20_code 90 = .ok (.iload_n 2, 1) := by decide +kernel
theorem d_Law_call_91 : decode method_20_code 91 = .ok (.iload_n 3, 1) := by decide +kernel
theorem d_Law_call_92 : decode method_20_code 92 = .ok (.invokestatic 92, 3) := by decide +kernel
theorem d_Law_call_95 : decode method_20_code 95 = .ok (.ireturn, 1) := by decide +kernel
theorem d_Law_call_96 : decode method_20_code 96 = .ok (.aload_n 0, 1) := by decide +kernel
theorem d_Law_call_97 : decode method_20_code 97 = .ok (.iload_n 2, 1) := by decide +kernel
theorem d_Law_call_98 : decode method_20_code 98 = .ok (.iload_n 3, 1) := by decide +kernel
theorem d_Law_call_99 : decode method_20_code 99 = .ok (.iload 4, 2) := by decide +kernel
theorem d_Law_call_101 : decode method_20_code 101 = .ok (.invokestatic 96, 3) := by decide +kernel
theorem d_Law_call_104 : decode method_20_code 104 = .ok (.ireturn, 1) := by decide +kernel
theorem d_Law_call_105 : decode method_20_code 105 = .ok (.aload_n 0, 1) := by decide +kernel
theorem d_Law_call_106 : decode method_20_code 106 = .ok (.iload_n 2, 1) := by decide +kernel
theorem d_Law_call_107 : decode method_20_code 107 = .ok (.invokestatic 100, 3) := by decide +kernel
theorem d_Law_call_110 : decode method_20_code 110 = .ok (.ireturn, 1) := by decide +kernel
theorem d_Law_call_111 : decode method_20_code 111 = .ok (.aload_n 0, 1) := by decide +kernel
theorem d_Law_call_112 : decode method_20_code 112 = .ok (.iload_n 2, 1) := by decide +kernel
theorem d_Law_call_113 : decode method_20_code 113 = .ok (.iload_n 3, 1) := by decide +kernel
theorem d_Law_call_114 : decode method_20_code 114 = .ok (.invokestatic 103, 3) := by decide +kernel
theorem d_Law_call_117 : decode method_20_code 117 = .ok (.ireturn, 1) := by decide +kernel
theorem d_Law_call_118 : decode method_20_code 118 = .ok (.aload_n 0, 1) := by decide +kernel
theorem d_Law_call_119 : decode method_20_code 119 = .ok (.invokestatic 106, 3) := by decide +kernel
theorem d_Law_call_122 : decode method_20_code 122 = .ok (.ireturn, 1) := by decide +kernel
theorem d_Law_call_123 : decode method_20_code 123 = .ok (.aload_n 0, 1) := by decide +kernel
theorem d_Law_call_124 : decode method_20_code 124 = .ok (.iload_n 2, 1) := by decide +kernel
theorem d_Law_call_125 : decode method_20_code 125 = .ok (.invokestatic 109, 3) := by decide +kernel
theorem d_Law_call_128 : decode method_20_code 128 = .ok (.ireturn, 1) := by decide +kernel
theorem d_Law_call_129 : decode method_20_code 129 = .ok (.aload_n 0, 1) := by decide +kernel
theorem d_Law_call_130 : decode method_20_code 130 = .ok (.invokestatic 112, 3) := by decide +kernel
theorem d_Law_call_133 : decode method_20_code 133 = .ok (.ireturn, 1) := by decide +kernel
theorem d_Law_call_134 : decode method_20_code 134 = .ok (.aload_n 0, 1) := by decide +kernel
theorem d_Law_call_135 : decode method_20_code 135 = .ok (.iload_n 2, 1) := by decide +kernel
theorem d_Law_call_136 : decode method_20_code 136 = .ok (.invokestatic 115, 3) := by decide +kernel
theorem d_Law_call_139 : decode method_20_code 139 = .ok (.ireturn, 1) := by decide +kernel
theorem d_Law_call_140 : decode method_20_code 140 = .ok (.aload_n 0, 1) := by decide +kernel
theorem d_Law_call_141 : decode method_20_code 141 = .ok (.iload_n 2, 1) := by decide +kernel
theorem d_Law_call_142 : decode method_20_code 142 = .ok (.invokestatic 118, 3) := by decide +kernel
theorem d_Law_call_145 : decode method_20_code 145 = .ok (.ireturn, 1) := by decide +kernel
theorem d_Law_call_146 : decode method_20_code 146 = .ok (.aload_n 0, 1) := by decide +kernel
theorem d_Law_call_147 : decode method_20_code 147 = .ok (.invokestatic 121, 3) := by decide +kernel
theorem d_Law_call_150 : decode method_20_code 150 = .ok (.ireturn, 1) := by decide +kernel
theorem d_Law_call_151 : decode method_20_code 151 = .ok (.aload_n 0, 1) := by decide +kernel
theorem d_Law_call_152 : decode method_20_code 152 = .ok (.iload_n 2, 1) := by decide +kernel
theorem d_Law_call_153 : decode method_20_code 153 = .ok (.invokestatic 124, 3) := by decide +kernel
theorem d_Law_call_156 : decode method_20_code 156 = .ok (.ireturn, 1) := by decide +kernel
theorem d_Law_call_157 : decode method_20_code 157 = .ok (.aload_n 0, 1) := by decide +kernel
theorem d_Law_call_158 : decode method_20_code 158 = .ok (.iload_n 2, 1) := by decide +kernel
theorem d_Law_call_159 : decode method_20_code 159 = .ok (.invokestatic 127, 3) := by decide +kernel
theorem d_Law_call_162 : decode method_20_code 162 = .ok (.ireturn, 1) := by decide +kernel
theorem w_284 : Cond.methodLink "DropSignalsLaw" 79 ⟨"DropSignalsLaw", "tryAppend", "(LDropSignals;I)I"⟩ ∈ gWs := gWs_in (i := 284) (by decide +kernel) rfl
theorem w_390 : Cond.methodLink "DropSignalsLaw" 85 ⟨"DropSignalsLaw", "tryLoad", "(LDropSignals;)I"⟩ ∈ gWs := gWs_in (i := 390) (by decide +kernel) rfl
theorem w_597 : Cond.methodLink "DropSignalsLaw" 89 ⟨"DropSignalsLaw", "tryAbout", "(LDropSignals;I)I"⟩ ∈ gWs := gWs_in (i := 597) (by decide +kernel) rfl
theorem w_612 : Cond.methodLink "DropSignalsLaw" 92 ⟨"DropSignalsLaw", "tryCard", "(LDropSignals;II)I"⟩ ∈ gWs := gWs_in (i := 612) (by decide +kernel) rfl
theorem w_646 : Cond.methodLink "DropSignalsLaw" 96 ⟨"DropSignalsLaw", "tryTold", "(LDropSignals;III)I"⟩ ∈ gWs := gWs_in (i := 646) (by decide +kernel) rfl
theorem w_669 : Cond.methodLink "DropSignalsLaw" 100 ⟨"DropSignalsLaw", "tryTrick", "(LDropSignals;I)I"⟩ ∈ gWs := gWs_in (i := 669) (by decide +kernel) rfl
theorem w_681 : Cond.methodLink "DropSignalsLaw" 103 ⟨"DropSignalsLaw", "tryBid", "(LDropSignals;II)I"⟩ ∈ gWs := gWs_in (i := 681) (by decide +kernel) rfl
theorem w_725 : Cond.methodLink "DropSignalsLaw" 106 ⟨"DropSignalsLaw", "tryPass", "(LDropSignals;)I"⟩ ∈ gWs := gWs_in (i := 725) (by decide +kernel) rfl
theorem w_734 : Cond.methodLink "DropSignalsLaw" 109 ⟨"DropSignalsLaw", "tryPlay", "(LDropSignals;I)I"⟩ ∈ gWs := gWs_in (i := 734) (by decide +kernel) rfl
theorem w_748 : Cond.methodLink "DropSignalsLaw" 112 ⟨"DropSignalsLaw", "tryUndo", "(LDropSignals;)I"⟩ ∈ gWs := gWs_in (i := 748) (by decide +kernel) rfl
theorem w_764 : Cond.methodLink "DropSignalsLaw" 115 ⟨"DropSignalsLaw", "tryLegal", "(LDropSignals;I)I"⟩ ∈ gWs := gWs_in (i := 764) (by decide +kernel) rfl
theorem w_775 : Cond.methodLink "DropSignalsLaw" 118 ⟨"DropSignalsLaw", "tryMost", "(LDropSignals;I)I"⟩ ∈ gWs := gWs_in (i := 775) (by decide +kernel) rfl
theorem w_834 : Cond.methodLink "DropSignalsLaw" 121 ⟨"DropSignalsLaw", "tryBest", "(LDropSignals;)I"⟩ ∈ gWs := gWs_in (i := 834) (by decide +kernel) rfl
theorem w_845 : Cond.methodLink "DropSignalsLaw" 124 ⟨"DropSignalsLaw", "tryKeep", "(LDropSignals;I)I"⟩ ∈ gWs := gWs_in (i := 845) (by decide +kernel) rfl
theorem w_857 : Cond.methodLink "DropSignalsLaw" 127 ⟨"DropSignalsLaw", "tryBack", "(LDropSignals;I)I"⟩ ∈ gWs := gWs_in (i := 857) (by decide +kernel) rfl
abbrev k_Law_call : gMD := (⟨"DropSignalsLaw", "call", "(LDropSignals;IIII)I"⟩, method_20_code, 5, (some .int))
theorem w_282 : Cond.static ⟨"DropSignalsLaw", "call", "(LDropSignals;IIII)I"⟩ ∈ gWs := gWs_in (i := 282) (by decide +kernel) rfl
set_option maxRecDepth 100000 in
theorem ca_Law_call : gCaS k_Law_call 5 := ⟨⟨gWs_in (i := 283) rfl rfl, w_19, by decide, by decide, by decide +kernel⟩, w_282⟩
noncomputable def f_Law_call (M : gMem) (a1 : Int32) (a2 : Int32) (a3 : Int32) (a4 : Int32) : Option (Int32 × gMem) :=
  if a1 = 0 then
    (f_Law_tryAppend M a2).bind fun q2 =>
    some (q2.1, q2.2)
  else
  if a1 = 1 then
    (f_Law_tryLoad M).bind fun q4 =>
    some (q4.1, q4.2)
  else
  if a1 = 2 then
    (f_Law_tryAbout M a2).bind fun q6 =>
    some (q6.1, q6.2)
  else
  if a1 = 3 then
    (f_Law_tryCard M a2 a3).bind fun q8 =>
    some (q8.1, q8.2)
  else
  if a1 = 4 then
    (f_Law_tryTold M a2 a3 a4).bind fun q10 =>
    some (q10.1, q10.2)
  else
  if a1 = 5 then
    (f_Law_tryTrick M a2).bind fun q12 =>
    some (q12.1, q12.2)
  else
  if a1 = 6 then
    (f_Law_tryBid M a2 a3).bind fun q14 =>
    some (q14.1, q14.2)
  else
  if a1 = 7 then
    (f_Law_tryPass M).bind fun q16 =>
    some (q16.1, q16.2)
  else
  if a1 = 8 then
    (f_Law_tryPlay M a2).bind fun q18 =>
    some (q18.1, q18.2)
  else
  if a1 = 9 then
    (f_Law_tryUndo M).bind fun q20 =>
    some (q20.1, q20.2)
  else
  if a1 = 10 then
    (f_Law_tryLegal M a2).bind fun q22 =>
    some (q22.1, q22.2)
  else
  if a1 = 11 then
    (f_Law_tryMost M a2).bind fun q24 =>
    some (q24.1, q24.2)
  else
  if a1 = 12 then
    (f_Law_tryBest M).bind fun q26 =>
    some (q26.1, q26.2)
  else
  if a1 = 13 then
    (f_Law_tryKeep M a2).bind fun q28 =>
    some (q28.1, q28.2)
  else
  (f_Law_tryBack M a2).bind fun q29 =>
  some (q29.1, q29.2)
theorem t_Law_call {l : Launch} {ε : gEnv} (hl0 : l.stackTraces = false) (hX : gXw ε) {R : Room} {K ka : Nat} (hR : gRm R 0 0 K 154 6097) (hk : ka + 1 ≤ K) (M : gMem) (a1 : Int32) (a2 : Int32) (a3 : Int32) (a4 : Int32) (r : Int32 × gMem) (h : f_Law_call M a1 a2 a3 a4 = some r) : gGo l ε k_Law_call R (gFk ε K (some (.int r.1)) r.2 ka) 0 [(0, .ref (ε.2.2.1 18 0)), (1, .int a1), (2, .int a2), (3, .int a3), (4, .int a4)] [] M := by
  unfold f_Law_call at h
  refine g_iload_n d_Law_call_0 rfl 1 rfl ?_
  by_cases c1 : a1 = 0
  · rw [if_pos c1] at h
    refine g_tabIn (off := 71) (tgt := 72) d_Law_call_1 (by rw [c1]; decide) (by rw [c1]; decide) (by rw [c1]; rfl) (by decide) ?_
    refine g_aload_n d_Law_call_72 rfl 0 rfl ?_
    refine g_iload_n d_Law_call_73 rfl 2 rfl ?_
    obtain ⟨q2, hq2, h⟩ := gOb h
    refine g_callT (j := 2) (kb := (ka + 1)) (As := [.ref (ε.2.2.1 18 0), .int a2]) (rest := []) gTk_ok hR (fun _ => ctl_Law_tryAppend hl0 hX M a2 _ hq2) d_Law_call_74 cw_Law_tryAppend w_19 w_285 w_284 (by decide +kernel) rfl rfl (Nat.le_of_ble_eq_true rfl) ⟨(Nat.le_of_ble_eq_true rfl), (Nat.le_of_ble_eq_true rfl)⟩ (Nat.le_refl _) (gLe hk (Nat.le_of_ble_eq_true rfl)) ?_
    obtain rfl := Option.some.inj h
    exact g_iretK hR d_Law_call_77 rfl (gLe hk (Nat.le_of_ble_eq_true rfl))
  rw [if_neg c1] at h
  by_cases c3 : a1 = 1
  · rw [if_pos c3] at h
    refine g_tabIn (off := 77) (tgt := 78) d_Law_call_1 (by rw [c3]; decide) (by rw [c3]; decide) (by rw [c3]; rfl) (by decide) ?_
    refine g_aload_n d_Law_call_78 rfl 0 rfl ?_
    obtain ⟨q4, hq4, h⟩ := gOb h
    refine g_callT (j := 1) (kb := (ka + 1)) (As := [.ref (ε.2.2.1 18 0)]) (rest := []) gTk_ok hR (fun _ => ctl_Law_tryLoad hl0 hX M _ hq4) d_Law_call_79 cw_Law_tryLoad w_19 w_391 w_390 (by decide +kernel) rfl rfl (Nat.le_of_ble_eq_true rfl) ⟨(Nat.le_of_ble_eq_true rfl), (Nat.le_of_ble_eq_true rfl)⟩ (Nat.le_refl _) (gLe hk (Nat.le_of_ble_eq_true rfl)) ?_
    obtain rfl := Option.some.inj h
    exact g_iretK hR d_Law_call_82 rfl (gLe hk (Nat.le_of_ble_eq_true rfl))
  rw [if_neg c3] at h
  by_cases c5 : a1 = 2
  · rw [if_pos c5] at h
    refine g_tabIn (off := 82) (tgt := 83) d_Law_call_1 (by rw [c5]; decide) (by rw [c5]; decide) (by rw [c5]; rfl) (by decide) ?_
    refine g_aload_n d_Law_call_83 rfl 0 rfl ?_
    refine g_iload_n d_Law_call_84 rfl 2 rfl ?_
    obtain ⟨q6, hq6, h⟩ := gOb h
    refine g_callT (j := 2) (kb := (ka + 1)) (As := [.ref (ε.2.2.1 18 0), .int a2]) (rest := []) gTk_ok hR (fun _ => ctl_Law_tryAbout hl0 hX M a2 _ hq6) d_Law_call_85 cw_Law_tryAbout w_19 w_598 w_597 (by decide +kernel) rfl rfl (Nat.le_of_ble_eq_true rfl) ⟨(Nat.le_of_ble_eq_true rfl), (Nat.le_of_ble_eq_true rfl)⟩ (Nat.le_refl _) (gLe hk (Nat.le_of_ble_eq_true rfl)) ?_
    obtain rfl := Option.some.inj h
    exact g_iretK hR d_Law_call_88 rfl (gLe hk (Nat.le_of_ble_eq_true rfl))
  rw [if_neg c5] at h
  by_cases c7 : a1 = 3
  · rw [if_pos c7] at h
    refine g_tabIn (off := 88) (tgt := 89) d_Law_call_1 (by rw [c7]; decide) (by rw [c7]; decide) (by rw [c7]; rfl) (by decide) ?_
    refine g_aload_n d_Law_call_89 rfl 0 rfl ?_
    refine g_iload_n d_Law_call_90 rfl 2 rfl ?_
    refine g_iload_n d_Law_call_91 rfl 3 rfl ?_
    obtain ⟨q8, hq8, h⟩ := gOb h
    refine g_callT (j := 3) (kb := (ka + 1)) (As := [.ref (ε.2.2.1 18 0), .int a2, .int a3]) (rest := []) gTk_ok hR (fun _ => ctl_Law_tryCard hl0 hX M a2 a3 _ hq8) d_Law_call_92 cw_Law_tryCard w_19 w_613 w_612 (by decide +kernel) rfl rfl (Nat.le_of_ble_eq_true rfl) ⟨(Nat.le_of_ble_eq_true rfl), (Nat.le_of_ble_eq_true rfl)⟩ (Nat.le_refl _) (gLe hk (Nat.le_of_ble_eq_true rfl)) ?_
    obtain rfl := Option.some.inj h
    exact g_iretK hR d_Law_call_95 rfl (gLe hk (Nat.le_of_ble_eq_true rfl))
  rw [if_neg c7] at h
  by_cases c9 : a1 = 4
  · rw [if_pos c9] at h
    refine g_tabIn (off := 95) (tgt := 96) d_Law_call_1 (by rw [c9]; decide) (by rw [c9]; decide) (by rw [c9]; rfl) (by decide) ?_
    refine g_aload_n d_Law_call_96 rfl 0 rfl ?_
    refine g_iload_n d_Law_call_97 rfl 2 rfl ?_
    refine g_iload_n d_Law_call_98 rfl 3 rfl ?_
    refine g_iload d_Law_call_99 4 rfl ?_
    obtain ⟨q10, hq10, h⟩ := gOb h
    refine g_callT (j := 4) (kb := (ka + 1)) (As := [.ref (ε.2.2.1 18 0), .int a2, .int a3, .int a4]) (rest := []) gTk_ok hR (fun _ => ctl_Law_tryTold hl0 hX M a2 a3 a4 _ hq10) d_Law_call_101 cw_Law_tryTold w_19 w_647 w_646 (by decide +kernel) rfl rfl (Nat.le_of_ble_eq_true rfl) ⟨(Nat.le_of_ble_eq_true rfl), (Nat.le_of_ble_eq_true rfl)⟩ (Nat.le_refl _) (gLe hk (Nat.le_of_ble_eq_true rfl)) ?_
    obtain rfl := Option.some.inj h
    exact g_iretK hR d_Law_call_104 rfl (gLe hk (Nat.le_of_ble_eq_true rfl))
  rw [if_neg c9] at h
  by_cases c11 : a1 = 5
  · rw [if_pos c11] at h
    refine g_tabIn (off := 104) (tgt := 105) d_Law_call_1 (by rw [c11]; decide) (by rw [c11]; decide) (by rw [c11]; rfl) (by decide) ?_
    refine g_aload_n d_Law_call_105 rfl 0 rfl ?_
    refine g_iload_n d_Law_call_106 rfl 2 rfl ?_
    obtain ⟨q12, hq12, h⟩ := gOb h
    refine g_callT (j := 2) (kb := (ka + 1)) (As := [.ref (ε.2.2.1 18 0), .int a2]) (rest := []) gTk_ok hR (fun _ => ctl_Law_tryTrick hl0 hX M a2 _ hq12) d_Law_call_107 cw_Law_tryTrick w_19 w_670 w_669 (by decide +kernel) rfl rfl (Nat.le_of_ble_eq_true rfl) ⟨(Nat.le_of_ble_eq_true rfl), (Nat.le_of_ble_eq_true rfl)⟩ (Nat.le_refl _) (gLe hk (Nat.le_of_ble_eq_true rfl)) ?_
    obtain rfl := Option.some.inj h
    exact g_iretK hR d_Law_call_110 rfl (gLe hk (Nat.le_of_ble_eq_true rfl))
  rw [if_neg c11] at h
  by_cases c13 : a1 = 6
  · rw [if_pos c13] at h
    refine g_tabIn (off := 110) (tgt := 111) d_Law_call_1 (by rw [c13]; decide) (by rw [c13]; decide) (by rw [c13]; rfl) (by decide) ?_
    refine g_aload_n d_Law_call_111 rfl 0 rfl ?_
    refine g_iload_n d_Law_call_112 rfl 2 rfl ?_
    refine g_iload_n d_Law_call_113 rfl 3 rfl ?_
    obtain ⟨q14, hq14, h⟩ := gOb h
    refine g_callT (j := 3) (kb := (ka + 1)) (As := [.ref (ε.2.2.1 18 0), .int a2, .int a3]) (rest := []) gTk_ok hR (fun _ => ctl_Law_tryBid hl0 hX M a2 a3 _ hq14) d_Law_call_114 cw_Law_tryBid w_19 w_682 w_681 (by decide +kernel) rfl rfl (Nat.le_of_ble_eq_true rfl) ⟨(Nat.le_of_ble_eq_true rfl), (Nat.le_of_ble_eq_true rfl)⟩ (Nat.le_refl _) (gLe hk (Nat.le_of_ble_eq_true rfl)) ?_
    obtain rfl := Option.some.inj h
    exact g_iretK hR d_Law_call_117 rfl (gLe hk (Nat.le_of_ble_eq_true rfl))
  rw [if_neg c13] at h
  by_cases c15 : a1 = 7
  · rw [if_pos c15] at h
    refine g_tabIn (off := 117) (tgt := 118) d_Law_call_1 (by rw [c15]; decide) (by rw [c15]; decide) (by rw [c15]; rfl) (by decide) ?_
    refine g_aload_n d_Law_call_118 rfl 0 rfl ?_
    obtain ⟨q16, hq16, h⟩ := gOb h
    refine g_callT (j := 1) (kb := (ka + 1)) (As := [.ref (ε.2.2.1 18 0)]) (rest := []) gTk_ok hR (fun _ => ctl_Law_tryPass hl0 hX M _ hq16) d_Law_call_119 cw_Law_tryPass w_19 w_726 w_725 (by decide +kernel) rfl rfl (Nat.le_of_ble_eq_true rfl) ⟨(Nat.le_of_ble_eq_true rfl), (Nat.le_of_ble_eq_true rfl)⟩ (Nat.le_refl _) (gLe hk (Nat.le_of_ble_eq_true rfl)) ?_
    obtain rfl := Option.some.inj h
    exact g_iretK hR d_Law_call_122 rfl (gLe hk (Nat.le_of_ble_eq_true rfl))
  rw [if_neg c15] at h
  by_cases c17 : a1 = 8
  · rw [if_pos c17] at h
    refine g_tabIn (off := 122) (tgt := 123) d_Law_call_1 (by rw [c17]; decide) (by rw [c17]; decide) (by rw [c17]; rfl) (by decide) ?_
    refine g_aload_n d_Law_call_123 rfl 0 rfl ?_
    refine g_iload_n d_Law_call_124 rfl 2 rfl ?_
    obtain ⟨q18, hq18, h⟩ := gOb h
    refine g_callT (j := 2) (kb := (ka + 1)) (As := [.ref (ε.2.2.1 18 0), .int a2]) (rest := []) gTk_ok hR (fun _ => ctl_Law_tryPlay hl0 hX M a2 _ hq18) d_Law_call_125 cw_Law_tryPlay w_19 w_735 w_734 (by decide +kernel) rfl rfl (Nat.le_of_ble_eq_true rfl) ⟨(Nat.le_of_ble_eq_true rfl), (Nat.le_of_ble_eq_true rfl)⟩ (Nat.le_refl _) (gLe hk (Nat.le_of_ble_eq_true rfl)) ?_
    obtain rfl := Option.some.inj h
    exact g_iretK hR d_Law_call_128 rfl (gLe hk (Nat.le_of_ble_eq_true rfl))
  rw [if_neg c17] at h
  by_cases c19 : a1 = 9
  · rw [if_pos c19] at h
    refine g_tabIn (off := 128) (tgt := 129) d_Law_call_1 (by rw [c19]; decide) (by rw [c19]; decide) (by rw [c19]; rfl) (by decide) ?_
    refine g_aload_n d_Law_call_129 rfl 0 rfl ?_
    obtain ⟨q20, hq20, h⟩ := gOb h
    refine g_callT (j := 1) (kb := (ka + 1)) (As := [.ref (ε.2.2.1 18 0)]) (rest := []) gTk_ok hR (fun _ => ctl_Law_tryUndo hl0 hX M _ hq20) d_Law_call_130 cw_Law_tryUndo w_19 w_749 w_748 (by decide +kernel) rfl rfl (Nat.le_of_ble_eq_true rfl) ⟨(Nat.le_of_ble_eq_true rfl), (Nat.le_of_ble_eq_true rfl)⟩ (Nat.le_refl _) (gLe hk (Nat.le_of_ble_eq_true rfl)) ?_
    obtain rfl := Option.some.inj h
    exact g_iretK hR d_Law_call_133 rfl (gLe hk (Nat.le_of_ble_eq_true rfl))
  rw [if_neg c19] at h
  by_cases c21 : a1 = 10
  · rw [if_pos c21] at h
    refine g_tabIn (off := 133) (tgt := 134) d_Law_call_1 (by rw [c21]; decide) (by rw [c21]; decide) (by rw [c21]; rfl) (by decide) ?_
    refine g_aload_n d_Law_call_134 rfl 0 rfl ?_
    refine g_iload_n d_Law_call_135 rfl 2 rfl ?_
    obtain ⟨q22, hq22, h⟩ := gOb h
    refine g_callT (j := 2) (kb := (ka + 1)) (As := [.ref (ε.2.2.1 18 0), .int a2]) (rest := []) gTk_ok hR (fun _ => ctl_Law_tryLegal hl0 hX M a2 _ hq22) d_Law_call_136 cw_Law_tryLegal w_19 w_765 w_764 (by decide +kernel) rfl rfl (Nat.le_of_ble_eq_true rfl) ⟨(Nat.le_of_ble_eq_true rfl), (Nat.le_of_ble_eq_true rfl)⟩ (Nat.le_refl _) (gLe hk (Nat.le_of_ble_eq_true rfl)) ?_
    obtain rfl := Option.some.inj h
    exact g_iretK hR d_Law_call_139 rfl (gLe hk (Nat.le_of_ble_eq_true rfl))
  rw [if_neg c21] at h
  by_cases c23 : a1 = 11
  · rw [if_pos c23] at h
    refine g_tabIn (off := 139) (tgt := 140) d_Law_call_1 (by rw [c23]; decide) (by rw [c23]; decide) (by rw [c23]; rfl) (by decide) ?_
    refine g_aload_n d_Law_call_140 rfl 0 rfl ?_
    refine g_iload_n d_Law_call_141 rfl 2 rfl ?_
    obtain ⟨q24, hq24, h⟩ := gOb h
    refine g_callT (j := 2) (kb := (ka + 1)) (As := [.ref (ε.2.2.1 18 0), .int a2]) (rest := []) gTk_ok hR (fun _ => ctl_Law_tryMost hl0 hX M a2 _ hq24) d_Law_call_142 cw_Law_tryMost w_19 w_776 w_775 (by decide +kernel) rfl rfl (Nat.le_of_ble_eq_true rfl) ⟨(Nat.le_of_ble_eq_true rfl), (Nat.le_of_ble_eq_true rfl)⟩ (Nat.le_refl _) (gLe hk (Nat.le_of_ble_eq_true rfl)) ?_
    obtain rfl := Option.some.inj h
    exact g_iretK hR d_Law_call_145 rfl (gLe hk (Nat.le_of_ble_eq_true rfl))
  rw [if_neg c23] at h
  by_cases c25 : a1 = 12
  · rw [if_pos c25] at h
    refine g_tabIn (off := 145) (tgt := 146) d_Law_call_1 (by rw [c25]; decide) (by rw [c25]; decide) (by rw [c25]; rfl) (by decide) ?_
    refine g_aload_n d_Law_call_146 rfl 0 rfl ?_
    obtain ⟨q26, hq26, h⟩ := gOb h
    refine g_callT (j := 1) (kb := (ka + 1)) (As := [.ref (ε.2.2.1 18 0)]) (rest := []) gTk_ok hR (fun _ => ctl_Law_tryBest hl0 hX M _ hq26) d_Law_call_147 cw_Law_tryBest w_19 w_835 w_834 (by decide +kernel) rfl rfl (Nat.le_of_ble_eq_true rfl) ⟨(Nat.le_of_ble_eq_true rfl), (Nat.le_of_ble_eq_true rfl)⟩ (Nat.le_refl _) (gLe hk (Nat.le_of_ble_eq_true rfl)) ?_
    obtain rfl := Option.some.inj h
    exact g_iretK hR d_Law_call_150 rfl (gLe hk (Nat.le_of_ble_eq_true rfl))
  rw [if_neg c25] at h
  by_cases c27 : a1 = 13
  · rw [if_pos c27] at h
    refine g_tabIn (off := 150) (tgt := 151) d_Law_call_1 (by rw [c27]; decide) (by rw [c27]; decide) (by rw [c27]; rfl) (by decide) ?_
    refine g_aload_n d_Law_call_151 rfl 0 rfl ?_
    refine g_iload_n d_Law_call_152 rfl 2 rfl ?_
    obtain ⟨q28, hq28, h⟩ := gOb h
    refine g_callT (j := 2) (kb := (ka + 1)) (As := [.ref (ε.2.2.1 18 0), .int a2]) (rest := []) gTk_ok hR (fun _ => ctl_Law_tryKeep hl0 hX M a2 _ hq28) d_Law_call_153 cw_Law_tryKeep w_19 w_846 w_845 (by decide +kernel) rfl rfl (Nat.le_of_ble_eq_true rfl) ⟨(Nat.le_of_ble_eq_true rfl), (Nat.le_of_ble_eq_true rfl)⟩ (Nat.le_refl _) (gLe hk (Nat.le_of_ble_eq_true rfl)) ?_
    obtain rfl := Option.some.inj h
    exact g_iretK hR d_Law_call_156 rfl (gLe hk (Nat.le_of_ble_eq_true rfl))
  rw [if_neg c27] at h
  refine g_tabOut (tgt := 157) d_Law_call_1 (by have nc1 := lv_neT (a := 0) c1 rfl; have nc3 := lv_neT (a := 1) c3 rfl; have nc5 := lv_neT (a := 2) c5 rfl; have nc7 := lv_neT (a := 3) c7 rfl; have nc9 := lv_neT (a := 4) c9 rfl; have nc11 := lv_neT (a := 5) c11 rfl; have nc13 := lv_neT (a := 6) c13 rfl; have nc15 := lv_neT (a := 7) c15 rfl; have nc17 := lv_neT (a := 8) c17 rfl; have nc19 := lv_neT (a := 9) c19 rfl; have nc21 := lv_neT (a := 10) c21 rfl; have nc23 := lv_neT (a := 11) c23 rfl; have nc25 := lv_neT (a := 12) c25 rfl; have nc27 := lv_neT (a := 13) c27 rfl; omega) (by decide) ?_
  refine g_aload_n d_Law_call_157 rfl 0 rfl ?_
  refine g_iload_n d_Law_call_158 rfl 2 rfl ?_
  obtain ⟨q29, hq29, h⟩ := gOb h
  refine g_callT (j := 2) (kb := (ka + 1)) (As := [.ref (ε.2.2.1 18 0), .int a2]) (rest := []) gTk_ok hR (fun _ => ctl_Law_tryBack hl0 hX M a2 _ hq29) d_Law_call_159 cw_Law_tryBack w_19 w_858 w_857 (by decide +kernel) rfl rfl (Nat.le_of_ble_eq_true rfl) ⟨(Nat.le_of_ble_eq_true rfl), (Nat.le_of_ble_eq_true rfl)⟩ (Nat.le_refl _) (gLe hk (Nat.le_of_ble_eq_true rfl)) ?_
  obtain rfl := Option.some.inj h
  exact g_iretK hR d_Law_call_162 rfl (gLe hk (Nat.le_of_ble_eq_true rfl))
theorem ctk_Law_call {l : Launch} {ε : gEnv} (hl0 : l.stackTraces = false) (hX : gXw ε) (M : gMem) (a1 : Int32) (a2 : Int32) (a3 : Int32) (a4 : Int32) (r : Int32 × gMem) (h : f_Law_call M a1 a2 a3 a4 = some r) : gCtK l ε k_Law_call 154 6097 1 [.ref (ε.2.2.1 18 0), .int a1, .int a2, .int a3, .int a4] M (some (.int r.1)) r.2 :=
  gCtK_of hl0 (by decide) (Nat.le_of_ble_eq_true rfl) rfl (t_Law_call hl0 hX (gRm_K _ _ _) (Nat.le_of_eq (Nat.zero_add _)) M a1 a2 a3 a4 r h)
theorem ctkq_Law_call {l : Launch} {ε : gEnv} (hl0 : l.stackTraces = false) (hY : gXw (swE ε)) (M : gMem) (a1 : Int32) (a2 : Int32) (a3 : Int32) (a4 : Int32) (q : Int32 × gMem) (h : onQ (fun M => f_Law_call M a1 a2 a3 a4) M = some q) : gCtK l ε k_Law_call 154 6097 1 [.ref (ε.2.2.1 38 0), .int a1, .int a2, .int a3, .int a4] M (some (.int q.1)) q.2 :=
  gCtK_sw (ctk_Law_call hl0 hY (swM M) a1 a2 a3 a4 (q.1, swM q.2) (onQ_s h))
theorem d_Law_refuses_0 : decode method_23_code 0 = .ok (.iload_n 1, 1) := by decide +kernel
theorem d_Law_refuses_1 : decode method_23_code 1 = .ok (.iconst 2, 1) := by decide +kernel
theorem d_Law_refuses_2 : decode method_23_code 2 = .ok (.irem, 1) := by decide +kernel
theorem d_Law_refuses_3 : decode method_23_code 3 = .ok (.ifCond .ne 12, 3) := by decide +kernel
theorem d_Law_refuses_6 : decode method_23_code 6 = .ok (.iconst (-1), 1) := by decide +kernel
theorem d_Law_refuses_7 : decode method_23_code 7 = .ok (.iload_n 1, 1) := by decide +kernel
theorem d_Law_refuses_8 : decode method_23_code 8 = .ok (.bipush 99, 2) := by decide +kernel
theorem d_Law_refuses_10 : decode method_23_code 10 = .ok (.irem, 1) := by decide +kernel
theorem d_Law_refuses_11 : decode method_23_code 11 = .ok (.isub, 1) := by decide +kernel
theorem d_Law_refuses_12 : decode method_23_code 12 = .ok (.goto 9, 3) := by decide +kernel
theorem d_Law_refuses_15 : decode method_23_code 15 = .ok (.iconst 4, 1) := by decide +kernel
theorem d_Law_refuses_16 : decode method_23_code 16 = .ok (.iload_n 1, 1) := by decide +kernel
theorem d_Law_refuses_17 : decode method_23_code 17 = .ok (.bipush 99, 2) := by decide +kernel
theorem d_Law_refuses_19 : decode method_23_code 19 = .ok (.irem, 1) := by decide +kernel
theorem d_Law_refuses_20 : decode method_23_code 20 = .ok (.iadd, 1) := by decide +kernel
theorem d_Law_refuses_21 : decode method_23_code 21 = .ok (.istore_n 2, 1) := by decide +kernel
theorem d_Law_refuses_22 : decode method_23_code 22 = .ok (.iload_n 1, 1) := by decide +kernel
theorem d_Law_refuses_23 : decode method_23_code 23 = .ok (.iconst 2, 1) := by decide +kernel
theorem d_Law_refuses_24 : decode method_23_code 24 = .ok (.irem, 1) := by decide +kernel
theorem d_Law_refuses_25 : decode method_23_code 25 = .ok (.ifCond .ne 12, 3) := by decide +kernel
theorem d_Law_refuses_28 : decode method_23_code 28 = .ok (.iconst (-1), 1) := by decide +kernel
theorem d_Law_refuses_29 : decode method_23_code 29 = .ok (.iload_n 1, 1) := by decide +kernel
theorem d_Law_refuses_30 : decode method_23_code 30 = .ok (.bipush 99, 2) := by decide +kernel
theorem d_Law_refuses_32 : decode method_23_code 32 = .ok (.irem, 1) := by decide +kernel
theorem d_Law_refuses_33 : decode method_23_code 33 = .ok (.isub, 1) := by decide +kernel
theorem d_Law_refuses_34 : decode method_23_code 34 = .ok (.goto 10, 3) := by decide +kernel
theorem d_Law_refuses_37 : decode method_23_code 37 = .ok (.bipush 32, 2) := by decide +kernel
theorem d_Law_refuses_39 : decode method_23_code 39 = .ok (.iload_n 1, 1) := by decide +kernel
theorem d_Law_refuses_40 : decode method_23_code 40 = .ok (.bipush 99, 2) := by decide +kernel
theorem d_Law_refuses_42 : decode method_23_code 42 = .ok (.irem, 1) := by decide +kernel
theorem d_Law_refuses_43 : decode method_23_code 43 = .ok (.iadd, 1) := by decide +kernel
theorem d_Law_refuses_44 : decode method_23_code 44 = .ok (.istore_n 3, 1) := by decide +kernel
theorem d_Law_refuses_45 : decode method_23_code 45 = .ok (.aload_n 0, 1) := by decide +kernel
theorem d_Law_refuses_46 : decode method_23_code 46 = .ok (.iconst 2, 1) := by decide +kernel
theorem d_Law_refuses_47 : decode method_23_code 47 = .ok (.iconst 1, 1) := by decide +kernel
theorem d_Law_refuses_48 : decode method_23_code 48 = .ok (.iconst 0, 1) := by decide +kernel
theorem d_Law_refuses_49 : decode method_23_code 49 = .ok (.iconst 0, 1) := by decide +kernel
theorem d_Law_refuses_50 : decode method_23_code 50 = .ok (.invokestatic 132, 3) := by decide +kernel
theorem d_Law_refuses_53 : decode method_23_code 53 = .ok (.istore 4, 2) := by decide +kernel
theorem d_Law_refuses_55 : decode method_23_code 55 = .ok (.aload_n 0, 1) := by decide +kernel
theorem d_Law_refuses_56 : decode method_23_code 56 = .ok (.iconst 0, 1) := by decide +kernel
theorem d_Law_refuses_57 : decode method_23_code 57 = .ok (.iload_n 1, 1) := by decide +kernel
theorem d_Law_refuses_58 : decode method_23_code 58 = .ok (.iconst 2, 1) := by decide +kernel
theorem d_Law_refuses_59 : decode method_23_code 59 = .ok (.irem, 1) := by decide +kernel
theorem d_Law_refuses_60 : decode method_23_code 60 = .ok (.ifCond .ne 12, 3) := by decide +kernel
theorem d_Law_refuses_63 : decode method_23_code 63 = .ok (.iconst (-1), 1) := by decide +kernel
theorem d_Law_refuses_64 : decode method_23_code 64 = .ok (.iload_n 1, 1) := by decide +kernel
theorem d_Law_refuses_65 : decode method_23_code 65 = .ok (.bipush 9, 2) := by decide +kernel
theorem d_Law_refuses_67 : decode method_23_code 67 = .ok (.irem, 1) := by decide +kernel
theorem d_Law_refuses_68 : decode method_23_code 68 = .ok (.isub, 1) := by decide +kernel
theorem d_Law_refuses_69 : decode method_23_code 69 = .ok (.goto 11, 3) := by decide +kernel
theorem d_Law_refuses_72 : decode method_23_code 72 = .ok (.sipush 256, 3) := by decide +kernel
theorem d_Law_refuses_75 : decode method_23_code 75 = .ok (.iload_n 1, 1) := by decide +kernel
theorem d_Law_refuses_76 : decode method_23_code 76 = .ok (.bipush 9, 2) := by decide +kernel
theorem d_Law_refuses_78 : decode method_23_code 78 = .ok (.irem, 1) := by decide +kernel
theorem d_Law_refuses_79 : decode method_23_code 79 = .ok (.iadd, 1) := by decide +kernel
theorem d_Law_refuses_80 : decode method_23_code 80 = .ok (.iconst 0, 1) := by decide +kernel
theorem d_Law_refuses_81 : decode method_23_code 81 = .ok (.iconst 0, 1) := by decide +kernel
theorem d_Law_refuses_82 : decode method_23_code 82 = .ok (.invokestatic 132, 3) := by decide +kernel
theorem d_Law_refuses_85 : decode method_23_code 85 = .ok (.ldc 18, 2) := by decide +kernel
theorem d_Law_refuses_87 : decode method_23_code 87 = .ok (.if_icmp .ne 394, 3) := by decide +kernel
theorem d_Law_refuses_90 : decode method_23_code 90 = .ok (.aload_n 0, 1) := by decide +kernel
theorem d_Law_refuses_91 : decode method_23_code 91 = .ok (.iconst 2, 1) := by decide +kernel
theorem d_Law_refuses_92 : decode method_23_code 92 = .ok (.bipush 12, 2) := by decide +kernel
theorem d_Law_refuses_94 : decode method_23_code 94 = .ok (.iload_n 1, 1) := by decide +kernel
theorem d_Law_refuses_95 : decode method_23_code 95 = .ok (.bipush 50, 2) := by decide +kernel
theorem d_Law_refuses_97 : decode method_23_code 97 = .ok (.irem, 1) := by decide +kernel
theorem d_Law_refuses_98 : decode method_23_code 98 = .ok (.iadd, 1) := by decide +kernel
theorem d_Law_refuses_99 : decode method_23_code 99 = .ok (.iconst 0, 1) := by decide +kernel
theorem d_Law_refuses_100 : decode method_23_code 100 = .ok (.iconst 0, 1) := by decide +kernel
theorem d_Law_refuses_101 : decode method_23_code 101 = .ok (.invokestatic 132, 3) := by decide +kernel
theorem d_Law_refuses_104 : decode method_23_code 104 = .ok (.ldc 18, 2) := by decide +kernel
theorem d_Law_refuses_106 : decode method_23_code 106 = .ok (.if_icmp .ne 375, 3) := by decide +kernel
theorem d_Law_refuses_109 : decode method_23_code 109 = .ok (.aload_n 0, 1) := by decide +kernel
theorem d_Law_refuses_110 : decode method_23_code 110 = .ok (.iconst 3, 1) := by decide +kernel
theorem d_Law_refuses_111 : decode method_23_code 111 = .ok (.iload_n 3, 1) := by decide +kernel
theorem d_Law_refuses_112 : decode method_23_code 112 = .ok (.bipush 9, 2) := by decide +kernel
theorem d_Law_refuses_114 : decode method_23_code 114 = .ok (.iconst 0, 1) := by decide +kernel
theorem d_Law_refuses_115 : decode method_23_code 115 = .ok (.invokestatic 132, 3) := by decide +kernel
theorem d_Law_refuses_118 : decode method_23_code 118 = .ok (.ldc 15, 2) := by decide +kernel
theorem d_Law_refuses_120 : decode method_23_code 120 = .ok (.if_icmp .ne 361, 3) := by decide +kernel
theorem d_Law_refuses_123 : decode method_23_code 123 = .ok (.aload_n 0, 1) := by decide +kernel
theorem d_Law_refuses_124 : decode method_23_code 124 = .ok (.iconst 3, 1) := by decide +kernel
theorem d_Law_refuses_125 : decode method_23_code 125 = .ok (.iconst 5, 1) := by decide +kernel
theorem d_Law_refuses_126 : decode method_23_code 126 = .ok (.iconst 3, 1) := by decide +kernel
theorem d_Law_refuses_127 : decode method_23_code 127 = .ok (.iload_n 1, 1) := by decide +kernel
theorem d_Law_refuses_128 : decode method_23_code 128 = .ok (.bipush 9, 2) := by decide +kernel
theorem d_Law_refuses_130 : decode method_23_code 130 = .ok (.irem, 1) := by decide +kernel
theorem d_Law_refuses_131 : decode method_23_code 131 = .ok (.iadd, 1) := by decide +kernel
theorem d_Law_refuses_132 : decode method_23_code 132 = .ok (.iconst 0, 1) := by decide +kernel
theorem d_Law_refuses_133 : decode method_23_code 133 = .ok (.invokestatic 132, 3) := by decide +kernel
theorem d_Law_refuses_136 : decode method_23_code 136 = .ok (.ldc 18, 2) := by decide +kernel
theorem d_Law_refuses_138 : decode method_23_code 138 = .ok (.if_icmp .ne 343, 3) := by decide +kernel
theorem d_Law_refuses_141 : decode method_23_code 141 = .ok (.aload_n 0, 1) := by decide +kernel
theorem d_Law_refuses_142 : decode method_23_code 142 = .ok (.iconst 4, 1) := by decide +kernel
theorem d_Law_refuses_143 : decode method_23_code 143 = .ok (.iload_n 2, 1) := by decide +kernel
theorem d_Law_refuses_144 : decode method_23_code 144 = .ok (.iconst 0, 1) := by decide +kernel
theorem d_Law_refuses_145 : decode method_23_code 145 = .ok (.bipush 9, 2) := by decide +kernel
theorem d_Law_refuses_147 : decode method_23_code 147 = .ok (.invokestatic 132, 3) := by decide +kernel
theorem d_Law_refuses_150 : decode method_23_code 150 = .ok (.ldc 15, 2) := by decide +kernel
theorem d_Law_refuses_152 : decode method_23_code 152 = .ok (.if_icmp .ne 329, 3) := by decide +kernel
theorem d_Law_refuses_155 : decode method_23_code 155 = .ok (.aload_n 0, 1) := by decide +kernel
theorem d_Law_refuses_156 : decode method_23_code 156 = .ok (.iconst 4, 1) := by decide +kernel
theorem d_Law_refuses_157 : decode method_23_code 157 = .ok (.iconst 0, 1) := by decide +kernel
theorem d_Law_refuses_158 : decode method_23_code 158 = .ok (.iload_n 2, 1) := by decide +kernel
theorem d_Law_refuses_159 : decode method_23_code 159 = .ok (.bipush 9, 2) := by decide +kernel
theorem d_Law_refuses_161 : decode method_23_code 161 = .ok (.invokestatic 132, 3) := by decide +kernel
theorem d_Law_refuses_164 : decode method_23_code 164 = .ok (.ldc 15, 2) := by decide +kernel
theorem d_Law_refuses_166 : decode method_23_code 166 = .ok (.if_icmp .ne 315, 3) := by decide +kernel
theorem d_Law_refuses_169 : decode method_23_code 169 = .ok (.aload_n 0, 1) := by decide +kernel
theorem d_Law_refuses_170 : decode method_23_code 170 = .ok (.iconst 4, 1) := by decide +kernel
theorem d_Law_refuses_171 : decode method_23_code 171 = .ok (.iconst 0, 1) := by decide +kernel
theorem d_Law_refuses_172 : decode method_23_code 172 = .ok (.iconst 0, 1) := by decide +kernel
theorem d_Law_refuses_173 : decode method_23_code 173 = .ok (.bipush 6, 2) := by decide +kernel
theorem d_Law_refuses_175 : decode method_23_code 175 = .ok (.iload_n 1, 1) := by decide +kernel
theorem d_Law_refuses_176 : decode method_23_code 176 = .ok (.bipush 9, 2) := by decide +kernel
theorem d_Law_refuses_178 : decode method_23_code 178 = .ok (.irem, 1) := by decide +kernel
theorem d_Law_refuses_179 : decode method_23_code 179 = .ok (.iadd, 1) := by decide +kernel
theorem d_Law_refuses_180 : decode method_23_code 180 = .ok (.invokestatic 132, 3) := by decide +kernel
theorem d_Law_refuses_183 : decode method_23_code 183 = .ok (.ldc 18, 2) := by decide +kernel
theorem d_Law_refuses_185 : decode method_23_code 185 = .ok (.if_icmp .ne 296, 3) := by decide +kernel
theorem d_Law_refuses_188 : decode method_23_code 188 = .ok (.aload_n 0, 1) := by decide +kernel
theorem d_Law_refuses_189 : decode method_23_code 189 = .ok (.iconst 5, 1) := by decide +kernel
theorem d_Law_refuses_190 : decode method_23_code 190 = .ok (.iload_n 2, 1) := by decide +kernel
theorem d_Law_refuses_191 : decode method_23_code 191 = .ok (.iconst 0, 1) := by decide +kernel
theorem d_Law_refuses_192 : decode method_23_code 192 = .ok (.iconst 0, 1) := by decide +kernel
theorem d_Law_refuses_193 : decode method_23_code 193 = .ok (.invokestatic 132, 3) := by decide +kernel
theorem d_Law_refuses_196 : decode method_23_code 196 = .ok (.ldc 15, 2) := by decide +kernel
theorem d_Law_refuses_198 : decode method_23_code 198 = .ok (.if_icmp .ne 283, 3) := by decide +kernel
theorem d_Law_refuses_201 : decode method_23_code 201 = .ok (.aload_n 0, 1) := by decide +kernel
theorem d_Law_refuses_202 : decode method_23_code 202 = .ok (.bipush 6, 2) := by decide +kernel
theorem d_Law_refuses_204 : decode method_23_code 204 = .ok (.iload_n 1, 1) := by decide +kernel
theorem d_Law_refuses_205 : decode method_23_code 205 = .ok (.iconst 2, 1) := by decide +kernel
theorem d_Law_refuses_206 : decode method_23_code 206 = .ok (.irem, 1) := by decide +kernel
theorem d_Law_refuses_207 : decode method_23_code 207 = .ok (.ifCond .ne 7, 3) := by decide +kernel
theorem d_Law_refuses_210 : decode method_23_code 210 = .ok (.iconst 0, 1) := by decide +kernel
theorem d_Law_refuses_211 : decode method_23_code 211 = .ok (.goto 9, 3) := by decide +kernel
theorem d_Law_refuses_214 : decode method_23_code 214 = .ok (.iconst 5, 1) := by decide +kernel
theorem d_Law_refuses_215 : decode method_23_code 215 = .ok (.iload_n 1, 1) := by decide +kernel
theorem d_Law_refuses_216 : decode method_23_code 216 = .ok (.bipush 9, 2) := by decide +kernel
theorem d_Law_refuses_218 : decode method_23_code 218 = .ok (.irem, 1) := by decide +kernel
theorem d_Law_refuses_219 : decode method_23_code 219 = .ok (.iadd, 1) := by decide +kernel
theorem d_Law_refuses_220 : decode method_23_code 220 = .ok (.iconst 0, 1) := by decide +kernel
theorem d_Law_refuses_221 : decode method_23_code 221 = .ok (.iconst 0, 1) := by decide +kernel
theorem d_Law_refuses_222 : decode method_23_code 222 = .ok (.invokestatic 132, 3) := by decide +kernel
theorem d_Law_refuses_225 : decode method_23_code 225 = .ok (.ldc 18, 2) := by decide +kernel
theorem d_Law_refuses_227 : decode method_23_code 227 = .ok (.if_icmp .ne 254, 3) := by decide +kernel
theorem d_Law_refuses_230 : decode method_23_code 230 = .ok (.aload_n 0, 1) := by decide +kernel
theorem d_Law_refuses_231 : decode method_23_code 231 = .ok (.bipush 6, 2) := by decide +kernel
theorem d_Law_refuses_233 : decode method_23_code 233 = .ok (.iconst 1, 1) := by decide +kernel
theorem d_Law_refuses_234 : decode method_23_code 234 = .ok (.iload_n 1, 1) := by decide +kernel
theorem d_Law_refuses_235 : decode method_23_code 235 = .ok (.iconst 2, 1) := by decide +kernel
theorem d_Law_refuses_236 : decode method_23_code 236 = .ok (.irem, 1) := by decide +kernel
theorem d_Law_refuses_237 : decode method_23_code 237 = .ok (.ifCond .ne 7, 3) := by decide +kernel
theorem d_Law_refuses_240 : decode method_23_code 240 = .ok (.iconst (-1), 1) := by decide +kernel
theorem d_Law_refuses_241 : decode method_23_code 241 = .ok (.goto 9, 3) := by decide +kernel
theorem d_Law_refuses_244 : decode method_23_code 244 = .ok (.iconst 5, 1) := by decide +kernel
theorem d_Law_refuses_245 : decode method_23_code 245 = .ok (.iload_n 1, 1) := by decide +kernel
theorem d_Law_refuses_246 : decode method_23_code 246 = .ok (.bipush 9, 2) := by decide +kernel
theorem d_Law_refuses_248 : decode method_23_code 248 = .ok (.irem, 1) := by decide +kernel
theorem d_Law_refuses_249 : decode method_23_code 249 = .ok (.iadd, 1) := by decide +kernel
theorem d_Law_refuses_250 : decode method_23_code 250 = .ok (.iconst 0, 1) := by decide +kernel
theorem d_Law_refuses_251 : decode method_23_code 251 = .ok (.invokestatic 132, 3) := by decide +kernel
theorem d_Law_refuses_254 : decode method_23_code 254 = .ok (.ldc 18, 2) := by decide +kernel
theorem d_Law_refuses_256 : decode method_23_code 256 = .ok (.if_icmp .ne 225, 3) := by decide +kernel
theorem d_Law_refuses_259 : decode method_23_code 259 = .ok (.aload_n 0, 1) := by decide +kernel
theorem d_Law_refuses_260 : decode method_23_code 260 = .ok (.bipush 8, 2) := by decide +kernel
theorem d_Law_refuses_262 : decode method_23_code 262 = .ok (.iload_n 3, 1) := by decide +kernel
theorem d_Law_refuses_263 : decode method_23_code 263 = .ok (.iconst 0, 1) := by decide +kernel
theorem d_Law_refuses_264 : decode method_23_code 264 = .ok (.iconst 0, 1) := by decide +kernel
theorem d_Law_refuses_265 : decode method_23_code 265 = .ok (.invokestatic 132, 3) := by decide +kernel
theorem d_Law_refuses_268 : decode method_23_code 268 = .ok (.ldc 15, 2) := by decide +kernel
theorem d_Law_refuses_270 : decode method_23_code 270 = .ok (.if_icmp .ne 211, 3) := by decide +kernel
theorem d_Law_refuses_273 : decode method_23_code 273 = .ok (.aload_n 0, 1) := by decide +kernel
theorem d_Law_refuses_274 : decode method_23_code 274 = .ok (.bipush 10, 2) := by decide +kernel
theorem d_Law_refuses_276 : decode method_23_code 276 = .ok (.iload_n 1, 1) := by decide +kernel
theorem d_Law_refuses_277 : decode method_23_code 277 = .ok (.iconst 2, 1) := by decide +kernel
theorem d_Law_refuses_278 : decode method_23_code 278 = .ok (.irem, 1) := by decide +kernel
theorem d_Law_refuses_279 : decode method_23_code 279 = .ok (.ifCond .ne 12, 3) := by decide +kernel
theorem d_Law_refuses_282 : decode method_23_code 282 = .ok (.iconst (-1), 1) := by decide +kernel
theorem d_Law_refuses_283 : decode method_23_code 283 = .ok (.iload_n 1, 1) := by decide +kernel
theorem d_Law_refuses_284 : decode method_23_code 284 = .ok (.bipush 9, 2) := by decide +kernel
theorem d_Law_refuses_286 : decode method_23_code 286 = .ok (.irem, 1) := by decide +kernel
theorem d_Law_refuses_287 : decode method_23_code 287 = .ok (.isub, 1) := by decide +kernel
theorem d_Law_refuses_288 : decode method_23_code 288 = .ok (.goto 10, 3) := by decide +kernel
theorem d_Law_refuses_291 : decode method_23_code 291 = .ok (.bipush 8, 2) := by decide +kernel
theorem d_Law_refuses_293 : decode method_23_code 293 = .ok (.iload_n 1, 1) := by decide +kernel
theorem d_Law_refuses_294 : decode method_23_code 294 = .ok (.bipush 9, 2) := by decide +kernel
theorem d_Law_refuses_296 : decode method_23_code 296 = .ok (.irem, 1) := by decide +kernel
theorem d_Law_refuses_297 : decode method_23_code 297 = .ok (.iadd, 1) := by decide +kernel
theorem d_Law_refuses_298 : decode method_23_code 298 = .ok (.iconst 0, 1) := by decide +kernel
theorem d_Law_refuses_299 : decode method_23_code 299 = .ok (.iconst 0, 1) := by decide +kernel
theorem d_Law_refuses_300 : decode method_23_code 300 = .ok (.invokestatic 132, 3) := by decide +kernel
theorem d_Law_refuses_303 : decode method_23_code 303 = .ok (.ldc 15, 2) := by decide +kernel
theorem d_Law_refuses_305 : decode method_23_code 305 = .ok (.if_icmp .ne 176, 3) := by decide +kernel
theorem d_Law_refuses_308 : decode method_23_code 308 = .ok (.aload_n 0, 1) := by decide +kernel
theorem d_Law_refuses_309 : decode method_23_code 309 = .ok (.iload_n 2, 1) := by decide +kernel
theorem d_Law_refuses_310 : decode method_23_code 310 = .ok (.iconst 1, 1) := by decide +kernel
theorem d_Law_refuses_311 : decode method_23_code 311 = .ok (.iconst 2, 1) := by decide +kernel
theorem d_Law_refuses_312 : decode method_23_code 312 = .ok (.iconst 1, 1) := by decide +kernel
theorem d_Law_refuses_313 : decode method_23_code 313 = .ok (.invokestatic 136, 3) := by decide +kernel
theorem d_Law_refuses_316 : decode method_23_code 316 = .ok (.ldc 15, 2) := by decide +kernel
theorem d_Law_refuses_318 : decode method_23_code 318 = .ok (.if_icmp .ne 163, 3) := by decide +kernel
theorem d_Law_refuses_321 : decode method_23_code 321 = .ok (.aload_n 0, 1) := by decide +kernel
theorem d_Law_refuses_322 : decode method_23_code 322 = .ok (.iconst 1, 1) := by decide +kernel
theorem d_Law_refuses_323 : decode method_23_code 323 = .ok (.iload_n 2, 1) := by decide +kernel
theorem d_Law_refuses_324 : decode method_23_code 324 = .ok (.iconst 2, 1) := by decide +kernel
theorem d_Law_refuses_325 : decode method_23_code 325 = .ok (.iconst 0, 1) := by decide +kernel
theorem d_Law_refuses_326 : decode method_23_code 326 = .ok (.invokestatic 136, 3) := by decide +kernel
theorem d_Law_refuses_329 : decode method_23_code 329 = .ok (.ldc 15, 2) := by decide +kernel
theorem d_Law_refuses_331 : decode method_23_code 331 = .ok (.if_icmp .ne 150, 3) := by decide +kernel
theorem d_Law_refuses_334 : decode method_23_code 334 = .ok (.aload_n 0, 1) := by decide +kernel
theorem d_Law_refuses_335 : decode method_23_code 335 = .ok (.iconst 1, 1) := by decide +kernel
theorem d_Law_refuses_336 : decode method_23_code 336 = .ok (.iconst 0, 1) := by decide +kernel
theorem d_Law_refuses_337 : decode method_23_code 337 = .ok (.iload_n 2, 1) := by decide +kernel
theorem d_Law_refuses_338 : decode method_23_code 338 = .ok (.iconst 1, 1) := by decide +kernel
theorem d_Law_refuses_339 : decode method_23_code 339 = .ok (.invokestatic 136, 3) := by decide +kernel
theorem d_Law_refuses_342 : decode method_23_code 342 = .ok (.ldc 15, 2) := by decide +kernel
theorem d_Law_refuses_344 : decode method_23_code 344 = .ok (.if_icmp .ne 137, 3) := by decide +kernel
theorem d_Law_refuses_347 : decode method_23_code 347 = .ok (.aload_n 0, 1) := by decide +kernel
theorem d_Law_refuses_348 : decode method_23_code 348 = .ok (.iload_n 1, 1) := by decide +kernel
theorem d_Law_refuses_349 : decode method_23_code 349 = .ok (.iconst 4, 1) := by decide +kernel
theorem d_Law_refuses_350 : decode method_23_code 350 = .ok (.irem, 1) := by decide +kernel
theorem d_Law_refuses_351 : decode method_23_code 351 = .ok (.iload_n 1, 1) := by decide +kernel
theorem d_Law_refuses_352 : decode method_23_code 352 = .ok (.iconst 4, 1) := by decide +kernel
theorem d_Law_refuses_353 : decode method_23_code 353 = .ok (.irem, 1) := by decide +kernel
theorem d_Law_refuses_354 : decode method_23_code 354 = .ok (.iconst 0, 1) := by decide +kernel
theorem d_Law_refuses_355 : decode method_23_code 355 = .ok (.iconst 1, 1) := by decide +kernel
theorem d_Law_refuses_356 : decode method_23_code 356 = .ok (.invokestatic 136, 3) := by decide +kernel
theorem d_Law_refuses_359 : decode method_23_code 359 = .ok (.ldc 18, 2) := by decide +kernel
theorem d_Law_refuses_361 : decode method_23_code 361 = .ok (.if_icmp .ne 120, 3) := by decide +kernel
theorem d_Law_refuses_364 : decode method_23_code 364 = .ok (.aload_n 0, 1) := by decide +kernel
theorem d_Law_refuses_365 : decode method_23_code 365 = .ok (.bipush 11, 2) := by decide +kernel
theorem d_Law_refuses_367 : decode method_23_code 367 = .ok (.iload_n 1, 1) := by decide +kernel
theorem d_Law_refuses_368 : decode method_23_code 368 = .ok (.iconst 2, 1) := by decide +kernel
theorem d_Law_refuses_369 : decode method_23_code 369 = .ok (.irem, 1) := by decide +kernel
theorem d_Law_refuses_370 : decode method_23_code 370 = .ok (.ifCond .ne 7, 3) := by decide +kernel
theorem d_Law_refuses_373 : decode method_23_code 373 = .ok (.iconst (-1), 1) := by decide +kernel
theorem d_Law_refuses_374 : decode method_23_code 374 = .ok (.goto 9, 3) := by decide +kernel
theorem d_Law_refuses_377 : decode method_23_code 377 = .ok (.iconst 2, 1) := by decide +kernel
theorem d_Law_refuses_378 : decode method_23_code 378 = .ok (.iload_n 1, 1) := by decide +kernel
theorem d_Law_refuses_379 : decode method_23_code 379 = .ok (.bipush 9, 2) := by decide +kernel
theorem d_Law_refuses_381 : decode method_23_code 381 = .ok (.irem, 1) := by decide +kernel
theorem d_Law_refuses_382 : decode method_23_code 382 = .ok (.iadd, 1) := by decide +kernel
theorem d_Law_refuses_383 : decode method_23_code 383 = .ok (.iconst 0, 1) := by decide +kernel
theorem d_Law_refuses_384 : decode method_23_code 384 = .ok (.iconst 0, 1) := by decide +kernel
theorem d_Law_refuses_385 : decode method_23_code 385 = .ok (.invokestatic 132, 3) := by decide +kernel
theorem d_Law_refuses_388 : decode method_23_code 388 = .ok (.ldc 18, 2) := by decide +kernel
theorem d_Law_refuses_390 : decode method_23_code 390 = .ok (.if_icmp .ne 91, 3) := by decide +kernel
theorem d_Law_refuses_393 : decode method_23_code 393 = .ok (.aload_n 0, 1) := by decide +kernel
theorem d_Law_refuses_394 : decode method_23_code 394 = .ok (.bipush 13, 2) := by decide +kernel
theorem d_Law_refuses_396 : decode method_23_code 396 = .ok (.iconst 2, 1) := by decide +kernel
theorem d_Law_refuses_397 : decode method_23_code 397 = .ok (.iload_n 1, 1) := by decide +kernel
theorem d_Law_refuses_398 : decode method_23_code 398 = .ok (.bipush 50, 2) := by decide +kernel
theorem d_Law_refuses_400 : decode method_23_code 400 = .ok (.irem, 1) := by decide +kernel
theorem d_Law_refuses_401 : decode method_23_code 401 = .ok (.iadd, 1) := by decide +kernel
theorem d_Law_refuses_402 : decode method_23_code 402 = .ok (.iconst 0, 1) := by decide +kernel
theorem d_Law_refuses_403 : decode method_23_code 403 = .ok (.iconst 0, 1) := by decide +kernel
theorem d_Law_refuses_404 : decode method_23_code 404 = .ok (.invokestatic 132, 3) := by decide +kernel
theorem d_Law_refuses_407 : decode method_23_code 407 = .ok (.ldc 15, 2) := by decide +kernel
theorem d_Law_refuses_409 : decode method_23_code 409 = .ok (.if_icmp .ne 72, 3) := by decide +kernel
theorem d_Law_refuses_412 : decode method_23_code 412 = .ok (.aload_n 0, 1) := by decide +kernel
theorem d_Law_refuses_413 : decode method_23_code 413 = .ok (.bipush 14, 2) := by decide +kernel
theorem d_Law_refuses_415 : decode method_23_code 415 = .ok (.iconst (-1), 1) := by decide +kernel
theorem d_Law_refuses_416 : decode method_23_code 416 = .ok (.iload_n 1, 1) := by decide +kernel
theorem d_Law_refuses_417 : decode method_23_code 417 = .ok (.bipush 9, 2) := by decide +kernel
theorem d_Law_refuses_419 : decode method_23_code 419 = .ok (.irem, 1) := by decide +kernel
theorem d_Law_refuses_420 : decode method_23_code 420 = .ok (.isub, 1) := by decide +kernel
theorem d_Law_refuses_421 : decode method_23_code 421 = .ok (.iconst 0, 1) := by decide +kernel
theorem d_Law_refuses_422 : decode method_23_code 422 = .ok (.iconst 0, 1) := by decide +kernel
theorem d_Law_refuses_423 : decode method_23_code 423 = .ok (.invokestatic 132, 3) := by decide +kernel
theorem d_Law_refuses_426 : decode method_23_code 426 = .ok (.ldc 15, 2) := by decide +kernel
theorem d_Law_refuses_428 : decode method_23_code 428 = .ok (.if_icmp .ne 53, 3) := by decide +kernel
theorem d_Law_refuses_431 : decode method_23_code 431 = .ok (.aload_n 0, 1) := by decide +kernel
theorem d_Law_refuses_432 : decode method_23_code 432 = .ok (.iconst 0, 1) := by decide +kernel
theorem d_Law_refuses_433 : decode method_23_code 433 = .ok (.lconst 0, 1) := by decide +kernel
theorem d_Law_refuses_434 : decode method_23_code 434 = .ok (.invokestatic 140, 3) := by decide +kernel
theorem d_Law_refuses_437 : decode method_23_code 437 = .ok (.ldc 18, 2) := by decide +kernel
theorem d_Law_refuses_439 : decode method_23_code 439 = .ok (.if_icmp .ne 42, 3) := by decide +kernel
theorem d_Law_refuses_442 : decode method_23_code 442 = .ok (.aload_n 0, 1) := by decide +kernel
theorem d_Law_refuses_443 : decode method_23_code 443 = .ok (.iconst 1, 1) := by decide +kernel
theorem d_Law_refuses_444 : decode method_23_code 444 = .ok (.ldc2_w 144, 3) := by decide +kernel
theorem d_Law_refuses_447 : decode method_23_code 447 = .ok (.iload_n 1, 1) := by decide +kernel
theorem d_Law_refuses_448 : decode method_23_code 448 = .ok (.i2l, 1) := by decide +kernel
theorem d_Law_refuses_449 : decode method_23_code 449 = .ok (.ladd, 1) := by decide +kernel
theorem d_Law_refuses_450 : decode method_23_code 450 = .ok (.invokestatic 140, 3) := by decide +kernel
theorem d_Law_refuses_453 : decode method_23_code 453 = .ok (.ldc 18, 2) := by decide +kernel
theorem d_Law_refuses_455 : decode method_23_code 455 = .ok (.if_icmp .ne 26, 3) := by decide +kernel
theorem d_Law_refuses_458 : decode method_23_code 458 = .ok (.aload_n 0, 1) := by decide +kernel
theorem d_Law_refuses_459 : decode method_23_code 459 = .ok (.iload_n 1, 1) := by decide +kernel
theorem d_Law_refuses_460 : decode method_23_code 460 = .ok (.i2l, 1) := by decide +kernel
theorem d_Law_refuses_461 : decode method_23_code 461 = .ok (.sipush 201, 3) := by decide +kernel
theorem d_Law_refuses_464 : decode method_23_code 464 = .ok (.iload_n 1, 1) := by decide +kernel
theorem d_Law_refuses_465 : decode method_23_code 465 = .ok (.bipush 9, 2) := by decide +kernel
theorem d_Law_refuses_467 : decode method_23_code 467 = .ok (.irem, 1) := by decide +kernel
theorem d_Law_refuses_468 : decode method_23_code 468 = .ok (.iadd, 1) := by decide +kernel
theorem d_Law_refuses_469 : decode method_23_code 469 = .ok (.invokestatic 146, 3) := by decide +kernel
theorem d_Law_refuses_472 : decode method_23_code 472 = .ok (.ldc 18, 2) := by decide +kernel
theorem d_Law_refuses_474 : decode method_23_code 474 = .ok (.if_icmp .ne 7, 3) := by decide +kernel
theorem d_Law_refuses_477 : decode method_23_code 477 = .ok (.iconst 1, 1) := by decide +kernel
theorem d_Law_refuses_478 : decode method_23_code 478 = .ok (.goto 4, 3) := by decide +kernel
theorem d_Law_refuses_481 : decode method_23_code 481 = .ok (.iconst 0, 1) := by decide +kernel
theorem d_Law_refuses_482 : decode method_23_code 482 = .ok (.istore 5, 2) := by decide +kernel
theorem d_Law_refuses_484 : decode method_23_code 484 = .ok (.iload 5, 2) := by decide +kernel
theorem d_Law_refuses_486 : decode method_23_code 486 = .ok (.ifCond .eq 126, 3) := by decide +kernel
theorem d_Law_refuses_489 : decode method_23_code 489 = .ok (.iload 4, 2) := by decide +kernel
theorem d_Law_refuses_491 : decode method_23_code 491 = .ok (.iconst 1, 1) := by decide +kernel
theorem d_Law_refuses_492 : decode method_23_code 492 = .ok (.if_icmp .eq 31, 3) := by decide +kernel
theorem d_Law_refuses_495 : decode method_23_code 495 = .ok (.aload_n 0, 1) := by decide +kernel
theorem d_Law_refuses_496 : decode method_23_code 496 = .ok (.bipush 6, 2) := by decide +kernel
theorem d_Law_refuses_498 : decode method_23_code 498 = .ok (.iconst 4, 1) := by decide +kernel
theorem d_Law_refuses_499 : decode method_23_code 499 = .ok (.iconst 4, 1) := by decide +kernel
theorem d_Law_refuses_500 : decode method_23_code 500 = .ok (.iconst 0, 1) := by decide +kernel
theorem d_Law_refuses_501 : decode method_23_code 501 = .ok (.invokestatic 132, 3) := by decide +kernel
theorem d_Law_refuses_504 : decode method_23_code 504 = .ok (.ldc 21, 2) := by decide +kernel
theorem d_Law_refuses_506 : decode method_23_code 506 = .ok (.if_icmp .ne 106, 3) := by decide +kernel
theorem d_Law_refuses_509 : decode method_23_code 509 = .ok (.aload_n 0, 1) := by decide +kernel
theorem d_Law_refuses_510 : decode method_23_code 510 = .ok (.bipush 7, 2) := by decide +kernel
theorem d_Law_refuses_512 : decode method_23_code 512 = .ok (.iconst 0, 1) := by decide +kernel
theorem d_Law_refuses_513 : decode method_23_code 513 = .ok (.iconst 0, 1) := by decide +kernel
theorem d_Law_refuses_514 : decode method_23_code 514 = .ok (.iconst 0, 1) := by decide +kernel
theorem d_Law_refuses_515 : decode method_23_code 515 = .ok (.invokestatic 132, 3) := by decide +kernel
theorem d_Law_refuses_518 : decode method_23_code 518 = .ok (.ldc 21, 2) := by decide +kernel
theorem d_Law_refuses_520 : decode method_23_code 520 = .ok (.if_icmp .ne 92, 3) := by decide +kernel
theorem d_Law_refuses_523 : decode method_23_code 523 = .ok (.iload 4, 2) := by decide +kernel
theorem d_Law_refuses_525 : decode method_23_code 525 = .ok (.iconst 2, 1) := by decide +kernel
theorem d_Law_refuses_526 : decode method_23_code 526 = .ok (.if_icmp .eq 82, 3) := by decide +kernel
theorem d_Law_refuses_529 : decode method_23_code 529 = .ok (.aload_n 0, 1) := by decide +kernel
theorem d_Law_refuses_530 : decode method_23_code 530 = .ok (.bipush 8, 2) := by decide +kernel
theorem d_Law_refuses_532 : decode method_23_code 532 = .ok (.iload_n 1, 1) := by decide +kernel
theorem d_Law_refuses_533 : decode method_23_code 533 = .ok (.bipush 32, 2) := by decide +kernel
theorem d_Law_refuses_535 : decode method_23_code 535 = .ok (.irem, 1) := by decide +kernel
theorem d_Law_refuses_536 : decode method_23_code 536 = .ok (.iconst 0, 1) := by decide +kernel
theorem d_Law_refuses_537 : decode method_23_code 537 = .ok (.iconst 0, 1) := by decide +kernel
theorem d_Law_refuses_538 : decode method_23_code 538 = .ok (.invokestatic 132, 3) := by decide +kernel
theorem d_Law_refuses_541 : decode method_23_code 541 = .ok (.ldc 21, 2) := by decide +kernel
theorem d_Law_refuses_543 : decode method_23_code 543 = .ok (.if_icmp .ne 69, 3) := by decide +kernel
theorem d_Law_refuses_546 : decode method_23_code 546 = .ok (.aload_n 0, 1) := by decide +kernel
theorem d_Law_refuses_547 : decode method_23_code 547 = .ok (.iconst 0, 1) := by decide +kernel
theorem d_Law_refuses_548 : decode method_23_code 548 = .ok (.iconst 1, 1) := by decide +kernel
theorem d_Law_refuses_549 : decode method_23_code 549 = .ok (.iconst 2, 1) := by decide +kernel
theorem d_Law_refuses_550 : decode method_23_code 550 = .ok (.iconst 1, 1) := by decide +kernel
theorem d_Law_refuses_551 : decode method_23_code 551 = .ok (.invokestatic 136, 3) := by decide +kernel
theorem d_Law_refuses_554 : decode method_23_code 554 = .ok (.ldc 21, 2) := by decide +kernel
theorem d_Law_refuses_556 : decode method_23_code 556 = .ok (.if_icmp .ne 56, 3) := by decide +kernel
theorem d_Law_refuses_559 : decode method_23_code 559 = .ok (.aload_n 0, 1) := by decide +kernel
theorem d_Law_refuses_560 : decode method_23_code 560 = .ok (.bipush 11, 2) := by decide +kernel
theorem d_Law_refuses_562 : decode method_23_code 562 = .ok (.iconst 0, 1) := by decide +kernel
theorem d_Law_refuses_563 : decode method_23_code 563 = .ok (.iconst 0, 1) := by decide +kernel
theorem d_Law_refuses_564 : decode method_23_code 564 = .ok (.iconst 0, 1) := by decide +kernel
theorem d_Law_refuses_565 : decode method_23_code 565 = .ok (.invokestatic 132, 3) := by decide +kernel
theorem d_Law_refuses_568 : decode method_23_code 568 = .ok (.ldc 21, 2) := by decide +kernel
theorem d_Law_refuses_570 : decode method_23_code 570 = .ok (.if_icmp .ne 42, 3) := by decide +kernel
theorem d_Law_refuses_573 : decode method_23_code 573 = .ok (.aload_n 0, 1) := by decide +kernel
theorem d_Law_refuses_574 : decode method_23_code 574 = .ok (.bipush 12, 2) := by decide +kernel
theorem d_Law_refuses_576 : decode method_23_code 576 = .ok (.iconst 0, 1) := by decide +kernel
theorem d_Law_refuses_577 : decode method_23_code 577 = .ok (.iconst 0, 1) := by decide +kernel
theorem d_Law_refuses_578 : decode method_23_code 578 = .ok (.iconst 0, 1) := by decide +kernel
theorem d_Law_refuses_579 : decode method_23_code 579 = .ok (.invokestatic 132, 3) := by decide +kernel
theorem d_Law_refuses_582 : decode method_23_code 582 = .ok (.ldc 21, 2) := by decide +kernel
theorem d_Law_refuses_584 : decode method_23_code 584 = .ok (.if_icmp .ne 28, 3) := by decide +kernel
theorem d_Law_refuses_587 : decode method_23_code 587 = .ok (.aload_n 0, 1) := by decide +kernel
theorem d_Law_refuses_588 : decode method_23_code 588 = .ok (.bipush 10, 2) := by decide +kernel
theorem d_Law_refuses_590 : decode method_23_code 590 = .ok (.iconst 0, 1) := by decide +kernel
theorem d_Law_refuses_591 : decode method_23_code 591 = .ok (.iconst 0, 1) := by decide +kernel
theorem d_Law_refuses_592 : decode method_23_code 592 = .ok (.iconst 0, 1) := by decide +kernel
theorem d_Law_refuses_593 : decode method_23_code 593 = .ok (.invokestatic 132, 3) := by decide +kernel
theorem d_Law_refuses_596 : decode method_23_code 596 = .ok (.iconst (-1), 1) := by decide +kernel
theorem d_Law_refuses_597 : decode method_23_code 597 = .ok (.if_icmp .ne 15, 3) := by decide +kernel
theorem d_Law_refuses_600 : decode method_23_code 600 = .ok (.aload_n 0, 1) := by decide +kernel
theorem d_Law_refuses_601 : decode method_23_code 601 = .ok (.invokevirtual 150, 3) := by decide +kernel
theorem d_Law_refuses_604 : decode method_23_code 604 = .ok (.iconst (-1), 1) := by decide +kernel
theorem d_Law_refuses_605 : decode method_23_code 605 = .ok (.if_icmp .ne 7, 3) := by decide +kernel
theorem d_Law_refuses_608 : decode method_23_code 608 = .ok (.iconst 1, 1) := by decide +kernel
theorem d_Law_refuses_609 : decode method_23_code 609 = .ok (.goto 4, 3) := by decide +kernel
theorem d_Law_refuses_612 : decode method_23_code 612 = .ok (.iconst 0, 1) := by decide +kernel
theorem d_Law_refuses_613 : decode method_23_code 613 = .ok (.ireturn, 1) := by decide +kernel
theorem w_281 : Cond.methodLink "DropSignalsLaw" 132 ⟨"DropSignalsLaw", "call", "(LDropSignals;IIII)I"⟩ ∈ gWs := gWs_in (i := 281) (by decide +kernel) rfl
theorem w_873 : Cond.methodLink "DropSignalsLaw" 136 ⟨"DropSignalsLaw", "may", "(LDropSignals;IIIZ)I"⟩ ∈ gWs := gWs_in (i := 873) (by decide +kernel) rfl
theorem w_939 : Cond.methodLink "DropSignalsLaw" 150 ⟨"DropSignals", "advice", "()I"⟩ ∈ gWs := gWs_in (i := 939) (by decide +kernel) rfl
theorem w_893 : Cond.methodLink "DropSignalsLaw" 140 ⟨"DropSignalsLaw", "doScript", "(LDropSignals;IJ)I"⟩ ∈ gWs := gWs_in (i := 893) (by decide +kernel) rfl
theorem w_920 : Cond.constantLong "DropSignalsLaw" 144 (10000) ∈ gWs := gWs_in (i := 920) (by decide +kernel) rfl
theorem w_921 : Cond.methodLink "DropSignalsLaw" 146 ⟨"DropSignalsLaw", "doSimulate", "(LDropSignals;JI)I"⟩ ∈ gWs := gWs_in (i := 921) (by decide +kernel) rfl
abbrev k_Law_refuses : gMD := (⟨"DropSignalsLaw", "refuses", "(LDropSignals;I)Z"⟩, method_23_code, 6, (some .boolean))
theorem w_279 : Cond.static ⟨"DropSignalsLaw", "refuses", "(LDropSignals;I)Z"⟩ ∈ gWs := gWs_in (i := 279) (by decide +kernel) rfl
set_option maxRecDepth 100000 in
theorem ca_Law_refuses : gCaS k_Law_refuses 2 := ⟨⟨gWs_in (i := 280) rfl rfl, w_19, by decide, by decide, by decide +kernel⟩, w_279⟩
noncomputable def f_Law_refuses_b523 (M : gMem) (x1 : Int32) (x4 : Int32) : Option (Int32 × gMem) :=
  if x4 = 2 then
    (gBl 1).bind fun _ =>
    some (1, M)
  else
    (f_Law_call M 8 (gRem x1 32) 0 0).bind fun q5 =>
    if q5.1 = (-9999003) then
      (f_Law_may q5.2 0 1 2 1).bind fun q7 =>
      if q7.1 = (-9999003) then
        (f_Law_call q7.2 11 0 0 0).bind fun q9 =>
        if q9.1 = (-9999003) then
          (f_Law_call q9.2 12 0 0 0).bind fun q11 =>
          if q11.1 = (-9999003) then
            (f_Law_call q11.2 10 0 0 0).bind fun q13 =>
            if q13.1 = (-1) then
              (f_DS_advice q13.2).bind fun q15 =>
              if q15 = (-1) then
                (gBl 1).bind fun _ =>
                some (1, q13.2)
              else
                (gBl 0).bind fun _ =>
                some (0, q13.2)
            else
              (gBl 0).bind fun _ =>
              some (0, q13.2)
          else
            (gBl 0).bind fun _ =>
            some (0, q11.2)
        else
          (gBl 0).bind fun _ =>
          some (0, q9.2)
      else
        (gBl 0).bind fun _ =>
        some (0, q7.2)
    else
      (gBl 0).bind fun _ =>
      some (0, q5.2)
theorem t_Law_refuses_b523 {l : Launch} {ε : gEnv} (hl0 : l.stackTraces = false) (hX : gXw ε) {R : Room} {K ka : Nat} (hR : gRm R 0 0 K 155 6121) (hk : ka + 5 ≤ K) (M : gMem) (x1 : Int32) (x4 : Int32) (r : Int32 × gMem) (h : f_Law_refuses_b523 M x1 x4 = some r) : gGo l ε k_Law_refuses R (gFk ε K (some (.int r.1)) r.2 ka) 523 [(0, .ref (ε.2.2.1 18 0)), (1, .int x1), (4, .int x4)] [] M := by
  unfold f_Law_refuses_b523 at h
  refine g_iload d_Law_refuses_523 2 rfl ?_
  refine g_iconst (v := 2) d_Law_refuses_525 (by decide) ?_
  refine g_icmp_eq (tgt := 608) d_Law_refuses_526 (by decide) (fun c24 => ?_) (fun c24 => ?_)
  · rw [if_pos c24] at h
    refine g_iconst (v := 1) d_Law_refuses_608 (by decide) ?_
    refine g_goto (tgt := 613) d_Law_refuses_609 (by decide) ?_
    obtain ⟨z4, hz4, h⟩ := gOb h
    obtain rfl := Option.some.inj h
    exact g_zretK hR d_Law_refuses_613 rfl hz4 (gLe0 hk)
  · rw [if_neg c24] at h
    refine g_aload_n d_Law_refuses_529 rfl 0 rfl ?_
    refine g_bipush (v := 8) d_Law_refuses_530 (by decide) ?_
    refine g_iload_n d_Law_refuses_532 rfl 1 rfl ?_
    refine g_bipush (v := 32) d_Law_refuses_533 (by decide) ?_
    refine g_rem d_Law_refuses_535 (by decide) ?_
    refine g_iconst (v := 0) d_Law_refuses_536 (by decide) ?_
    refine g_iconst (v := 0) d_Law_refuses_537 (by decide) ?_
    obtain ⟨q5, hq5, h⟩ := gOb h
    refine g_callK (kb := (ka + 1)) (As := [.ref (ε.2.2.1 18 0), .int 8, .int (gRem x1 32), .int 0, .int 0]) (rest := []) gTk_ok hR (fun _ => ctk_Law_call hl0 hX M 8 (gRem x1 32) 0 0 _ hq5) d_Law_refuses_538 ca_Law_call w_281 rfl rfl (Nat.le_of_ble_eq_true rfl) ⟨(Nat.le_of_ble_eq_true rfl), (Nat.le_of_ble_eq_true rfl)⟩ (Nat.le_refl _) (gLe hk (Nat.le_of_ble_eq_true rfl)) ?_
    refine g_ldc d_Law_refuses_541 w_389 ?_
    refine g_icmp_ne (tgt := 612) d_Law_refuses_543 (by decide) (fun c23 => ?_) (fun c23 => ?_)
    · rw [if_neg c23] at h
      refine g_iconst (v := 0) d_Law_refuses_612 (by decide) ?_
      obtain ⟨z6, hz6, h⟩ := gOb h
      obtain rfl := Option.some.inj h
      exact g_zretK hR d_Law_refuses_613 rfl hz6 (gLe hk (Nat.le_of_ble_eq_true rfl))
    · rw [if_pos c23] at h
      refine g_aload_n d_Law_refuses_546 rfl 0 rfl ?_
      refine g_iconst (v := 0) d_Law_refuses_547 (by decide) ?_
      refine g_iconst (v := 1) d_Law_refuses_548 (by decide) ?_
      refine g_iconst (v := 2) d_Law_refuses_549 (by decide) ?_
      refine g_iconst (v := 1) d_Law_refuses_550 (by decide) ?_
      obtain ⟨q7, hq7, h⟩ := gOb h
      refine g_callT (j := 5) (kb := (ka + 2)) (As := [.ref (ε.2.2.1 18 0), .int 0, .int 1, .int 2, .int 1]) (rest := []) gTk_ok hR (fun _ => ctl_Law_may hl0 hX q5.2 0 1 2 1 _ hq7) d_Law_refuses_551 cw_Law_may w_19 w_874 w_873 (by decide +kernel) rfl rfl (Nat.le_of_ble_eq_true rfl) ⟨(Nat.le_of_ble_eq_true rfl), (Nat.le_of_ble_eq_true rfl)⟩ (Nat.le_refl _) (gLe hk (Nat.le_of_ble_eq_true rfl)) ?_
      refine g_ldc d_Law_refuses_554 w_389 ?_
      refine g_icmp_ne (tgt := 612) d_Law_refuses_556 (by decide) (fun c22 => ?_) (fun c22 => ?_)
      · rw [if_neg c22] at h
        refine g_iconst (v := 0) d_Law_refuses_612 (by decide) ?_
        obtain ⟨z8, hz8, h⟩ := gOb h
        obtain rfl := Option.some.inj h
        exact g_zretK hR d_Law_refuses_613 rfl hz8 (gLe hk (Nat.le_of_ble_eq_true rfl))
      · rw [if_pos c22] at h
        refine g_aload_n d_Law_refuses_559 rfl 0 rfl ?_
        refine g_bipush (v := 11) d_Law_refuses_560 (by decide) ?_
        refine g_iconst (v := 0) d_Law_refuses_562 (by decide) ?_
        refine g_iconst (v := 0) d_Law_refuses_563 (by decide) ?_
        refine g_iconst (v := 0) d_Law_refuses_564 (by decide) ?_
        obtain ⟨q9, hq9, h⟩ := gOb h
        refine g_callK (kb := (ka + 3)) (As := [.ref (ε.2.2.1 18 0), .int 11, .int 0, .int 0, .int 0]) (rest := []) gTk_ok hR (fun _ => ctk_Law_call hl0 hX q7.2 11 0 0 0 _ hq9) d_Law_refuses_565 ca_Law_call w_281 rfl rfl (Nat.le_of_ble_eq_true rfl) ⟨(Nat.le_of_ble_eq_true rfl), (Nat.le_of_ble_eq_true rfl)⟩ (Nat.le_refl _) (gLe hk (Nat.le_of_ble_eq_true rfl)) ?_
        refine g_ldc d_Law_refuses_568 w_389 ?_
        refine g_icmp_ne (tgt := 612) d_Law_refuses_570 (by decide) (fun c21 => ?_) (fun c21 => ?_)
        · rw [if_neg c21] at h
          refine g_iconst (v := 0) d_Law_refuses_612 (by decide) ?_
          obtain ⟨z10, hz10, h⟩ := gOb h
          obtain rfl := Option.some.inj h
          exact g_zretK hR d_Law_refuses_613 rfl hz10 (gLe hk (Nat.le_of_ble_eq_true rfl))
        · rw [if_pos c21] at h
          refine g_aload_n d_Law_refuses_573 rfl 0 rfl ?_
          refine g_bipush (v := 12) d_Law_refuses_574 (by decide) ?_
          refine g_iconst (v := 0) d_Law_refuses_576 (by decide) ?_
          refine g_iconst (v := 0) d_Law_refuses_577 (by decide) ?_
          refine g_iconst (v := 0) d_Law_refuses_578 (by decide) ?_
          obtain ⟨q11, hq11, h⟩ := gOb h
          refine g_callK (kb := (ka + 4)) (As := [.ref (ε.2.2.1 18 0), .int 12, .int 0, .int 0, .int 0]) (rest := []) gTk_ok hR (fun _ => ctk_Law_call hl0 hX q9.2 12 0 0 0 _ hq11) d_Law_refuses_579 ca_Law_call w_281 rfl rfl (Nat.le_of_ble_eq_true rfl) ⟨(Nat.le_of_ble_eq_true rfl), (Nat.le_of_ble_eq_true rfl)⟩ (Nat.le_refl _) (gLe hk (Nat.le_of_ble_eq_true rfl)) ?_
          refine g_ldc d_Law_refuses_582 w_389 ?_
          refine g_icmp_ne (tgt := 612) d_Law_refuses_584 (by decide) (fun c20 => ?_) (fun c20 => ?_)
          · rw [if_neg c20] at h
            refine g_iconst (v := 0) d_Law_refuses_612 (by decide) ?_
            obtain ⟨z12, hz12, h⟩ := gOb h
            obtain rfl := Option.some.inj h
            exact g_zretK hR d_Law_refuses_613 rfl hz12 (gLe hk (Nat.le_of_ble_eq_true rfl))
          · rw [if_pos c20] at h
            refine g_aload_n d_Law_refuses_587 rfl 0 rfl ?_
            refine g_bipush (v := 10) d_Law_refuses_588 (by decide) ?_
            refine g_iconst (v := 0) d_Law_refuses_590 (by decide) ?_
            refine g_iconst (v := 0) d_Law_refuses_591 (by decide) ?_
            refine g_iconst (v := 0) d_Law_refuses_592 (by decide) ?_
            obtain ⟨q13, hq13, h⟩ := gOb h
            refine g_callK (kb := (ka + 5)) (As := [.ref (ε.2.2.1 18 0), .int 10, .int 0, .int 0, .int 0]) (rest := []) gTk_ok hR (fun _ => ctk_Law_call hl0 hX q11.2 10 0 0 0 _ hq13) d_Law_refuses_593 ca_Law_call w_281 rfl rfl (Nat.le_of_ble_eq_true rfl) ⟨(Nat.le_of_ble_eq_true rfl), (Nat.le_of_ble_eq_true rfl)⟩ (Nat.le_refl _) (gLe hk (Nat.le_of_ble_eq_true rfl)) ?_
            refine g_iconst (v := -1) d_Law_refuses_596 (by decide) ?_
            refine g_icmp_ne (tgt := 612) d_Law_refuses_597 (by decide) (fun c19 => ?_) (fun c19 => ?_)
            · rw [if_neg c19] at h
              refine g_iconst (v := 0) d_Law_refuses_612 (by decide) ?_
              obtain ⟨z14, hz14, h⟩ := gOb h
              obtain rfl := Option.some.inj h
              exact g_zretK hR d_Law_refuses_613 rfl hz14 (gLe hk (Nat.le_of_ble_eq_true rfl))
            · rw [if_pos c19] at h
              refine g_aload_n d_Law_refuses_600 rfl 0 rfl ?_
              obtain ⟨q15, hq15, h⟩ := gOb h
              refine g_callV_i (As := []) (rest := []) (ct_DS_advice hX q13.2 _ hq15) d_Law_refuses_601 ca_DS_advice w_939 (gXw_h0 hX) rfl rfl rfl (Nat.le_of_ble_eq_true rfl) ⟨Nat.le_trans (Nat.le_of_ble_eq_true rfl) hR.2.2.1, Nat.le_trans (Nat.le_of_ble_eq_true rfl) hR.2.2.2⟩ ?_
              refine g_iconst (v := -1) d_Law_refuses_604 (by decide) ?_
              refine g_icmp_ne (tgt := 612) d_Law_refuses_605 (by decide) (fun c18 => ?_) (fun c18 => ?_)
              · rw [if_neg c18] at h
                refine g_iconst (v := 0) d_Law_refuses_612 (by decide) ?_
                obtain ⟨z16, hz16, h⟩ := gOb h
                obtain rfl := Option.some.inj h
                exact g_zretK hR d_Law_refuses_613 rfl hz16 (gLe hk (Nat.le_of_ble_eq_true rfl))
              · rw [if_pos c18] at h
                refine g_iconst (v := 1) d_Law_refuses_608 (by decide) ?_
                refine g_goto (tgt := 613) d_Law_refuses_609 (by decide) ?_
                obtain ⟨z17, hz17, h⟩ := gOb h
                obtain rfl := Option.some.inj h
                exact g_zretK hR d_Law_refuses_613 rfl hz17 (gLe hk (Nat.le_of_ble_eq_true rfl))
noncomputable def f_Law_refuses_b482 (M : gMem) (x1 : Int32) (x4 : Int32) (s0 : Int32) : Option (Int32 × gMem) :=
  if s0 = 0 then
    (gBl 0).bind fun _ =>
    some (0, M)
  else
    if x4 = 1 then
      f_Law_refuses_b523 M x1 x4
    else
      (f_Law_call M 6 4 4 0).bind fun q25 =>
      if q25.1 = (-9999003) then
        (f_Law_call q25.2 7 0 0 0).bind fun q27 =>
        if q27.1 = (-9999003) then
          f_Law_refuses_b523 q27.2 x1 x4
        else
          (gBl 0).bind fun _ =>
          some (0, q27.2)
      else
        (gBl 0).bind fun _ =>
        some (0, q25.2)
theorem t_Law_refuses_b482 {l : Launch} {ε : gEnv} (hl0 : l.stackTraces = false) (hX : gXw ε) {R : Room} {K ka : Nat} (hR : gRm R 0 0 K 155 6121) (hk : ka + 7 ≤ K) (M : gMem) (x1 : Int32) (x4 : Int32) (s0 : Int32) (r : Int32 × gMem) (h : f_Law_refuses_b482 M x1 x4 s0 = some r) : gGo l ε k_Law_refuses R (gFk ε K (some (.int r.1)) r.2 ka) 482 [(0, .ref (ε.2.2.1 18 0)), (1, .int x1), (4, .int x4)] [.int s0] M := by
  unfold f_Law_refuses_b482 at h
  refine g_istore (L' := [(5, .int s0), (0, .ref (ε.2.2.1 18 0)), (1, .int x1), (4, .int x4)]) d_Law_refuses_482 (by decide) rfl ?_
  refine g_iload d_Law_refuses_484 0 rfl ?_
  refine g_if_eq (tgt := 612) d_Law_refuses_486 (by decide) (fun c32 => ?_) (fun c32 => ?_)
  · rw [if_pos c32] at h
    refine g_iconst (v := 0) d_Law_refuses_612 (by decide) ?_
    obtain ⟨z3, hz3, h⟩ := gOb h
    obtain rfl := Option.some.inj h
    exact g_zretK hR d_Law_refuses_613 rfl hz3 (gLe0 hk)
  · rw [if_neg c32] at h
    refine g_iload d_Law_refuses_489 3 rfl ?_
    refine g_iconst (v := 1) d_Law_refuses_491 (by decide) ?_
    refine g_icmp_eq (tgt := 523) d_Law_refuses_492 (by decide) (fun c31 => ?_) (fun c31 => ?_)
    · rw [if_pos c31] at h
      refine gGo_sub [1, 2, 3] rfl ?_
      exact t_Law_refuses_b523 hl0 hX hR (gLe hk (Nat.le_of_ble_eq_true rfl)) M x1 x4 _ h
    · rw [if_neg c31] at h
      refine g_aload_n d_Law_refuses_495 rfl 1 rfl ?_
      refine g_bipush (v := 6) d_Law_refuses_496 (by decide) ?_
      refine g_iconst (v := 4) d_Law_refuses_498 (by decide) ?_
      refine g_iconst (v := 4) d_Law_refuses_499 (by decide) ?_
      refine g_iconst (v := 0) d_Law_refuses_500 (by decide) ?_
      obtain ⟨q25, hq25, h⟩ := gOb h
      refine g_callK (kb := (ka + 1)) (As := [.ref (ε.2.2.1 18 0), .int 6, .int 4, .int 4, .int 0]) (rest := []) gTk_ok hR (fun _ => ctk_Law_call hl0 hX M 6 4 4 0 _ hq25) d_Law_refuses_501 ca_Law_call w_281 rfl rfl (Nat.le_of_ble_eq_true rfl) ⟨(Nat.le_of_ble_eq_true rfl), (Nat.le_of_ble_eq_true rfl)⟩ (Nat.le_refl _) (gLe hk (Nat.le_of_ble_eq_true rfl)) ?_
      refine g_ldc d_Law_refuses_504 w_389 ?_
      refine g_icmp_ne (tgt := 612) d_Law_refuses_506 (by decide) (fun c30 => ?_) (fun c30 => ?_)
      · rw [if_neg c30] at h
        refine g_iconst (v := 0) d_Law_refuses_612 (by decide) ?_
        obtain ⟨z26, hz26, h⟩ := gOb h
        obtain rfl := Option.some.inj h
        exact g_zretK hR d_Law_refuses_613 rfl hz26 (gLe hk (Nat.le_of_ble_eq_true rfl))
      · rw [if_pos c30] at h
        refine g_aload_n d_Law_refuses_509 rfl 1 rfl ?_
        refine g_bipush (v := 7) d_Law_refuses_510 (by decide) ?_
        refine g_iconst (v := 0) d_Law_refuses_512 (by decide) ?_
        refine g_iconst (v := 0) d_Law_refuses_513 (by decide) ?_
        refine g_iconst (v := 0) d_Law_refuses_514 (by decide) ?_
        obtain ⟨q27, hq27, h⟩ := gOb h
        refine g_callK (kb := (ka + 2)) (As := [.ref (ε.2.2.1 18 0), .int 7, .int 0, .int 0, .int 0]) (rest := []) gTk_ok hR (fun _ => ctk_Law_call hl0 hX q25.2 7 0 0 0 _ hq27) d_Law_refuses_515 ca_Law_call w_281 rfl rfl (Nat.le_of_ble_eq_true rfl) ⟨(Nat.le_of_ble_eq_true rfl), (Nat.le_of_ble_eq_true rfl)⟩ (Nat.le_refl _) (gLe hk (Nat.le_of_ble_eq_true rfl)) ?_
        refine g_ldc d_Law_refuses_518 w_389 ?_
        refine g_icmp_ne (tgt := 612) d_Law_refuses_520 (by decide) (fun c29 => ?_) (fun c29 => ?_)
        · rw [if_neg c29] at h
          refine g_iconst (v := 0) d_Law_refuses_612 (by decide) ?_
          obtain ⟨z28, hz28, h⟩ := gOb h
          obtain rfl := Option.some.inj h
          exact g_zretK hR d_Law_refuses_613 rfl hz28 (gLe hk (Nat.le_of_ble_eq_true rfl))
        · rw [if_pos c29] at h
          refine gGo_sub [1, 2, 3] rfl ?_
          exact t_Law_refuses_b523 hl0 hX hR (gLe2 hk (Nat.le_of_ble_eq_true rfl)) q27.2 x1 x4 _ h
noncomputable def f_Law_refuses_b481 (M : gMem) (x1 : Int32) (x4 : Int32) : Option (Int32 × gMem) :=
  f_Law_refuses_b482 M x1 x4 0
theorem t_Law_refuses_b481 {l : Launch} {ε : gEnv} (hl0 : l.stackTraces = false) (hX : gXw ε) {R : Room} {K ka : Nat} (hR : gRm R 0 0 K 155 6121) (hk : ka + 7 ≤ K) (M : gMem) (x1 : Int32) (x4 : Int32) (r : Int32 × gMem) (h : f_Law_refuses_b481 M x1 x4 = some r) : gGo l ε k_Law_refuses R (gFk ε K (some (.int r.1)) r.2 ka) 481 [(0, .ref (ε.2.2.1 18 0)), (1, .int x1), (4, .int x4)] [] M := by
  unfold f_Law_refuses_b481 at h
  refine g_iconst (v := 0) d_Law_refuses_481 (by decide) ?_
  exact t_Law_refuses_b482 hl0 hX hR (gLe hk (Nat.le_of_ble_eq_true rfl)) M x1 x4 0 _ h
noncomputable def f_Law_refuses_b383 (M : gMem) (x1 : Int32) (x4 : Int32) (s0 : Int32) (s1 : Int32) : Option (Int32 × gMem) :=
  (f_Law_call M s1 s0 0 0).bind fun q48 =>
  if q48.1 = (-9999002) then
    (f_Law_call q48.2 13 (2 + (gRem x1 50)) 0 0).bind fun q49 =>
    if q49.1 = (-9999001) then
      (f_Law_call q49.2 14 ((-1) - (gRem x1 9)) 0 0).bind fun q50 =>
      if q50.1 = (-9999001) then
        (f_Law_doScript q50.2 0 0).bind fun q51 =>
        if q51.1 = (-9999002) then
          (f_Law_doScript q51.2 1 ((10000) + (Int32.toInt64 x1))).bind fun q52 =>
          if q52.1 = (-9999002) then
            (f_Law_doSimulate q52.2 (Int32.toInt64 x1) (201 + (gRem x1 9))).bind fun q53 =>
            if q53.1 = (-9999002) then
              f_Law_refuses_b482 q53.2 x1 x4 1
            else
              f_Law_refuses_b481 q53.2 x1 x4
          else
            f_Law_refuses_b481 q52.2 x1 x4
        else
          f_Law_refuses_b481 q51.2 x1 x4
      else
        f_Law_refuses_b481 q50.2 x1 x4
    else
      f_Law_refuses_b481 q49.2 x1 x4
  else
    f_Law_refuses_b481 q48.2 x1 x4
theorem t_Law_refuses_b383 {l : Launch} {ε : gEnv} (hl0 : l.stackTraces = false) (hX : gXw ε) {R : Room} {K ka : Nat} (hR : gRm R 0 0 K 155 6121) (hk : ka + 13 ≤ K) (M : gMem) (x1 : Int32) (x4 : Int32) (s0 : Int32) (s1 : Int32) (r : Int32 × gMem) (h : f_Law_refuses_b383 M x1 x4 s0 s1 = some r) : gGo l ε k_Law_refuses R (gFk ε K (some (.int r.1)) r.2 ka) 383 [(0, .ref (ε.2.2.1 18 0)), (1, .int x1), (4, .int x4)] [.int s0, .int s1, .ref (ε.2.2.1 18 0)] M := by
  unfold f_Law_refuses_b383 at h
  refine g_iconst (v := 0) d_Law_refuses_383 (by decide) ?_
  refine g_iconst (v := 0) d_Law_refuses_384 (by decide) ?_
  obtain ⟨q48, hq48, h⟩ := gOb h
  refine g_callK (kb := (ka + 1)) (As := [.ref (ε.2.2.1 18 0), .int s1, .int s0, .int 0, .int 0]) (rest := []) gTk_ok hR (fun _ => ctk_Law_call hl0 hX M s1 s0 0 0 _ hq48) d_Law_refuses_385 ca_Law_call w_281 rfl rfl (Nat.le_of_ble_eq_true rfl) ⟨(Nat.le_of_ble_eq_true rfl), (Nat.le_of_ble_eq_true rfl)⟩ (Nat.le_refl _) (gLe hk (Nat.le_of_ble_eq_true rfl)) ?_
  refine g_ldc d_Law_refuses_388 w_388 ?_
  refine g_icmp_ne (tgt := 481) d_Law_refuses_390 (by decide) (fun c59 => ?_) (fun c59 => ?_)
  · rw [if_neg c59] at h
    exact t_Law_refuses_b481 hl0 hX hR (gLe2 hk (Nat.le_of_ble_eq_true rfl)) q48.2 x1 x4 _ h
  · rw [if_pos c59] at h
    refine g_aload_n d_Law_refuses_393 rfl 0 rfl ?_
    refine g_bipush (v := 13) d_Law_refuses_394 (by decide) ?_
    refine g_iconst (v := 2) d_Law_refuses_396 (by decide) ?_
    refine g_iload_n d_Law_refuses_397 rfl 1 rfl ?_
    refine g_bipush (v := 50) d_Law_refuses_398 (by decide) ?_
    refine g_rem d_Law_refuses_400 (by decide) ?_
    refine g_iadd d_Law_refuses_401 ?_
    refine g_iconst (v := 0) d_Law_refuses_402 (by decide) ?_
    refine g_iconst (v := 0) d_Law_refuses_403 (by decide) ?_
    obtain ⟨q49, hq49, h⟩ := gOb h
    refine g_callK (kb := (ka + 2)) (As := [.ref (ε.2.2.1 18 0), .int 13, .int (2 + (gRem x1 50)), .int 0, .int 0]) (rest := []) gTk_ok hR (fun _ => ctk_Law_call hl0 hX q48.2 13 (2 + (gRem x1 50)) 0 0 _ hq49) d_Law_refuses_404 ca_Law_call w_281 rfl rfl (Nat.le_of_ble_eq_true rfl) ⟨(Nat.le_of_ble_eq_true rfl), (Nat.le_of_ble_eq_true rfl)⟩ (Nat.le_refl _) (gLe hk (Nat.le_of_ble_eq_true rfl)) ?_
    refine g_ldc d_Law_refuses_407 w_645 ?_
    refine g_icmp_ne (tgt := 481) d_Law_refuses_409 (by decide) (fun c58 => ?_) (fun c58 => ?_)
    · rw [if_neg c58] at h
      exact t_Law_refuses_b481 hl0 hX hR (gLe2 hk (Nat.le_of_ble_eq_true rfl)) q49.2 x1 x4 _ h
    · rw [if_pos c58] at h
      refine g_aload_n d_Law_refuses_412 rfl 0 rfl ?_
      refine g_bipush (v := 14) d_Law_refuses_413 (by decide) ?_
      refine g_iconst (v := -1) d_Law_refuses_415 (by decide) ?_
      refine g_iload_n d_Law_refuses_416 rfl 1 rfl ?_
      refine g_bipush (v := 9) d_Law_refuses_417 (by decide) ?_
      refine g_rem d_Law_refuses_419 (by decide) ?_
      refine g_isub d_Law_refuses_420 ?_
      refine g_iconst (v := 0) d_Law_refuses_421 (by decide) ?_
      refine g_iconst (v := 0) d_Law_refuses_422 (by decide) ?_
      obtain ⟨q50, hq50, h⟩ := gOb h
      refine g_callK (kb := (ka + 3)) (As := [.ref (ε.2.2.1 18 0), .int 14, .int ((-1) - (gRem x1 9)), .int 0, .int 0]) (rest := []) gTk_ok hR (fun _ => ctk_Law_call hl0 hX q49.2 14 ((-1) - (gRem x1 9)) 0 0 _ hq50) d_Law_refuses_423 ca_Law_call w_281 rfl rfl (Nat.le_of_ble_eq_true rfl) ⟨(Nat.le_of_ble_eq_true rfl), (Nat.le_of_ble_eq_true rfl)⟩ (Nat.le_refl _) (gLe hk (Nat.le_of_ble_eq_true rfl)) ?_
      refine g_ldc d_Law_refuses_426 w_645 ?_
      refine g_icmp_ne (tgt := 481) d_Law_refuses_428 (by decide) (fun c57 => ?_) (fun c57 => ?_)
      · rw [if_neg c57] at h
        exact t_Law_refuses_b481 hl0 hX hR (gLe2 hk (Nat.le_of_ble_eq_true rfl)) q50.2 x1 x4 _ h
      · rw [if_pos c57] at h
        refine g_aload_n d_Law_refuses_431 rfl 0 rfl ?_
        refine g_iconst (v := 0) d_Law_refuses_432 (by decide) ?_
        refine g_lconst (v := 0) d_Law_refuses_433 (by decide) ?_
        obtain ⟨q51, hq51, h⟩ := gOb h
        refine g_callT (j := 3) (kb := (ka + 4)) (As := [.ref (ε.2.2.1 18 0), .int 0, .long 0]) (rest := []) gTk_ok hR (fun _ => ctl_Law_doScript hl0 hX q50.2 0 0 _ hq51) d_Law_refuses_434 cw_Law_doScript w_19 w_894 w_893 (by decide +kernel) rfl rfl (Nat.le_of_ble_eq_true rfl) ⟨(Nat.le_of_ble_eq_true rfl), (Nat.le_of_ble_eq_true rfl)⟩ (Nat.le_refl _) (gLe hk (Nat.le_of_ble_eq_true rfl)) ?_
        refine g_ldc d_Law_refuses_437 w_388 ?_
        refine g_icmp_ne (tgt := 481) d_Law_refuses_439 (by decide) (fun c56 => ?_) (fun c56 => ?_)
        · rw [if_neg c56] at h
          exact t_Law_refuses_b481 hl0 hX hR (gLe2 hk (Nat.le_of_ble_eq_true rfl)) q51.2 x1 x4 _ h
        · rw [if_pos c56] at h
          refine g_aload_n d_Law_refuses_442 rfl 0 rfl ?_
          refine g_iconst (v := 1) d_Law_refuses_443 (by decide) ?_
          refine g_ldc2 d_Law_refuses_444 w_920 ?_
          refine g_iload_n d_Law_refuses_447 rfl 1 rfl ?_
          refine g_i2l d_Law_refuses_448 ?_
          refine g_ladd d_Law_refuses_449 ?_
          obtain ⟨q52, hq52, h⟩ := gOb h
          refine g_callT (j := 3) (kb := (ka + 5)) (As := [.ref (ε.2.2.1 18 0), .int 1, .long ((10000) + (Int32.toInt64 x1))]) (rest := []) gTk_ok hR (fun _ => ctl_Law_doScript hl0 hX q51.2 1 ((10000) + (Int32.toInt64 x1)) _ hq52) d_Law_refuses_450 cw_Law_doScript w_19 w_894 w_893 (by decide +kernel) rfl rfl (Nat.le_of_ble_eq_true rfl) ⟨(Nat.le_of_ble_eq_true rfl), (Nat.le_of_ble_eq_true rfl)⟩ (Nat.le_refl _) (gLe hk (Nat.le_of_ble_eq_true rfl)) ?_
          refine g_ldc d_Law_refuses_453 w_388 ?_
          refine g_icmp_ne (tgt := 481) d_Law_refuses_455 (by decide) (fun c55 => ?_) (fun c55 => ?_)
          · rw [if_neg c55] at h
            exact t_Law_refuses_b481 hl0 hX hR (gLe2 hk (Nat.le_of_ble_eq_true rfl)) q52.2 x1 x4 _ h
          · rw [if_pos c55] at h
            refine g_aload_n d_Law_refuses_458 rfl 0 rfl ?_
            refine g_iload_n d_Law_refuses_459 rfl 1 rfl ?_
            refine g_i2l d_Law_refuses_460 ?_
            refine g_sipush (v := 201) d_Law_refuses_461 (by decide) ?_
            refine g_iload_n d_Law_refuses_464 rfl 1 rfl ?_
            refine g_bipush (v := 9) d_Law_refuses_465 (by decide) ?_
            refine g_rem d_Law_refuses_467 (by decide) ?_
            refine g_iadd d_Law_refuses_468 ?_
            obtain ⟨q53, hq53, h⟩ := gOb h
            refine g_callT (j := 3) (kb := (ka + 6)) (As := [.ref (ε.2.2.1 18 0), .long (Int32.toInt64 x1), .int (201 + (gRem x1 9))]) (rest := []) gTk_ok hR (fun _ => ctl_Law_doSimulate hl0 hX q52.2 (Int32.toInt64 x1) (201 + (gRem x1 9)) _ hq53) d_Law_refuses_469 cw_Law_doSimulate w_19 w_922 w_921 (by decide +kernel) rfl rfl (Nat.le_of_ble_eq_true rfl) ⟨(Nat.le_of_ble_eq_true rfl), (Nat.le_of_ble_eq_true rfl)⟩ (Nat.le_refl _) (gLe hk (Nat.le_of_ble_eq_true rfl)) ?_
            refine g_ldc d_Law_refuses_472 w_388 ?_
            refine g_icmp_ne (tgt := 481) d_Law_refuses_474 (by decide) (fun c54 => ?_) (fun c54 => ?_)
            · rw [if_neg c54] at h
              exact t_Law_refuses_b481 hl0 hX hR (gLe2 hk (Nat.le_of_ble_eq_true rfl)) q53.2 x1 x4 _ h
            · rw [if_pos c54] at h
              refine g_iconst (v := 1) d_Law_refuses_477 (by decide) ?_
              refine g_goto (tgt := 482) d_Law_refuses_478 (by decide) ?_
              exact t_Law_refuses_b482 hl0 hX hR (gLe2 hk (Nat.le_of_ble_eq_true rfl)) q53.2 x1 x4 1 _ h
noncomputable def f_Law_refuses_b298 (M : gMem) (x1 : Int32) (x2 : Int32) (x4 : Int32) (s0 : Int32) (s1 : Int32) : Option (Int32 × gMem) :=
  (f_Law_call M s1 s0 0 0).bind fun q43 =>
  if q43.1 = (-9999001) then
    (f_Law_may q43.2 x2 1 2 1).bind fun q44 =>
    if q44.1 = (-9999001) then
      (f_Law_may q44.2 1 x2 2 0).bind fun q45 =>
      if q45.1 = (-9999001) then
        (f_Law_may q45.2 1 0 x2 1).bind fun q46 =>
        if q46.1 = (-9999001) then
          (f_Law_may q46.2 (gRem x1 4) (gRem x1 4) 0 1).bind fun q47 =>
          if q47.1 = (-9999002) then
            if (gRem x1 2) = 0 then
              f_Law_refuses_b383 q47.2 x1 x4 (-1) 11
            else
              f_Law_refuses_b383 q47.2 x1 x4 (2 + (gRem x1 9)) 11
          else
            f_Law_refuses_b481 q47.2 x1 x4
        else
          f_Law_refuses_b481 q46.2 x1 x4
      else
        f_Law_refuses_b481 q45.2 x1 x4
    else
      f_Law_refuses_b481 q44.2 x1 x4
  else
    f_Law_refuses_b481 q43.2 x1 x4
theorem t_Law_refuses_b298 {l : Launch} {ε : gEnv} (hl0 : l.stackTraces = false) (hX : gXw ε) {R : Room} {K ka : Nat} (hR : gRm R 0 0 K 155 6121) (hk : ka + 18 ≤ K) (M : gMem) (x1 : Int32) (x2 : Int32) (x4 : Int32) (s0 : Int32) (s1 : Int32) (r : Int32 × gMem) (h : f_Law_refuses_b298 M x1 x2 x4 s0 s1 = some r) : gGo l ε k_Law_refuses R (gFk ε K (some (.int r.1)) r.2 ka) 298 [(0, .ref (ε.2.2.1 18 0)), (1, .int x1), (2, .int x2), (4, .int x4)] [.int s0, .int s1, .ref (ε.2.2.1 18 0)] M := by
  unfold f_Law_refuses_b298 at h
  refine g_iconst (v := 0) d_Law_refuses_298 (by decide) ?_
  refine g_iconst (v := 0) d_Law_refuses_299 (by decide) ?_
  obtain ⟨q43, hq43, h⟩ := gOb h
  refine g_callK (kb := (ka + 1)) (As := [.ref (ε.2.2.1 18 0), .int s1, .int s0, .int 0, .int 0]) (rest := []) gTk_ok hR (fun _ => ctk_Law_call hl0 hX M s1 s0 0 0 _ hq43) d_Law_refuses_300 ca_Law_call w_281 rfl rfl (Nat.le_of_ble_eq_true rfl) ⟨(Nat.le_of_ble_eq_true rfl), (Nat.le_of_ble_eq_true rfl)⟩ (Nat.le_refl _) (gLe hk (Nat.le_of_ble_eq_true rfl)) ?_
  refine g_ldc d_Law_refuses_303 w_645 ?_
  refine g_icmp_ne (tgt := 481) d_Law_refuses_305 (by decide) (fun c65 => ?_) (fun c65 => ?_)
  · rw [if_neg c65] at h
    refine gGo_sub [0, 1, 3] rfl ?_
    exact t_Law_refuses_b481 hl0 hX hR (gLe2 hk (Nat.le_of_ble_eq_true rfl)) q43.2 x1 x4 _ h
  · rw [if_pos c65] at h
    refine g_aload_n d_Law_refuses_308 rfl 0 rfl ?_
    refine g_iload_n d_Law_refuses_309 rfl 2 rfl ?_
    refine g_iconst (v := 1) d_Law_refuses_310 (by decide) ?_
    refine g_iconst (v := 2) d_Law_refuses_311 (by decide) ?_
    refine g_iconst (v := 1) d_Law_refuses_312 (by decide) ?_
    obtain ⟨q44, hq44, h⟩ := gOb h
    refine g_callT (j := 5) (kb := (ka + 2)) (As := [.ref (ε.2.2.1 18 0), .int x2, .int 1, .int 2, .int 1]) (rest := []) gTk_ok hR (fun _ => ctl_Law_may hl0 hX q43.2 x2 1 2 1 _ hq44) d_Law_refuses_313 cw_Law_may w_19 w_874 w_873 (by decide +kernel) rfl rfl (Nat.le_of_ble_eq_true rfl) ⟨(Nat.le_of_ble_eq_true rfl), (Nat.le_of_ble_eq_true rfl)⟩ (Nat.le_refl _) (gLe hk (Nat.le_of_ble_eq_true rfl)) ?_
    refine g_ldc d_Law_refuses_316 w_645 ?_
    refine g_icmp_ne (tgt := 481) d_Law_refuses_318 (by decide) (fun c64 => ?_) (fun c64 => ?_)
    · rw [if_neg c64] at h
      refine gGo_sub [0, 1, 3] rfl ?_
      exact t_Law_refuses_b481 hl0 hX hR (gLe2 hk (Nat.le_of_ble_eq_true rfl)) q44.2 x1 x4 _ h
    · rw [if_pos c64] at h
      refine g_aload_n d_Law_refuses_321 rfl 0 rfl ?_
      refine g_iconst (v := 1) d_Law_refuses_322 (by decide) ?_
      refine g_iload_n d_Law_refuses_323 rfl 2 rfl ?_
      refine g_iconst (v := 2) d_Law_refuses_324 (by decide) ?_
      refine g_iconst (v := 0) d_Law_refuses_325 (by decide) ?_
      obtain ⟨q45, hq45, h⟩ := gOb h
      refine g_callT (j := 5) (kb := (ka + 3)) (As := [.ref (ε.2.2.1 18 0), .int 1, .int x2, .int 2, .int 0]) (rest := []) gTk_ok hR (fun _ => ctl_Law_may hl0 hX q44.2 1 x2 2 0 _ hq45) d_Law_refuses_326 cw_Law_may w_19 w_874 w_873 (by decide +kernel) rfl rfl (Nat.le_of_ble_eq_true rfl) ⟨(Nat.le_of_ble_eq_true rfl), (Nat.le_of_ble_eq_true rfl)⟩ (Nat.le_refl _) (gLe hk (Nat.le_of_ble_eq_true rfl)) ?_
      refine g_ldc d_Law_refuses_329 w_645 ?_
      refine g_icmp_ne (tgt := 481) d_Law_refuses_331 (by decide) (fun c63 => ?_) (fun c63 => ?_)
      · rw [if_neg c63] at h
        refine gGo_sub [0, 1, 3] rfl ?_
        exact t_Law_refuses_b481 hl0 hX hR (gLe2 hk (Nat.le_of_ble_eq_true rfl)) q45.2 x1 x4 _ h
      · rw [if_pos c63] at h
        refine g_aload_n d_Law_refuses_334 rfl 0 rfl ?_
        refine g_iconst (v := 1) d_Law_refuses_335 (by decide) ?_
        refine g_iconst (v := 0) d_Law_refuses_336 (by decide) ?_
        refine g_iload_n d_Law_refuses_337 rfl 2 rfl ?_
        refine g_iconst (v := 1) d_Law_refuses_338 (by decide) ?_
        obtain ⟨q46, hq46, h⟩ := gOb h
        refine g_callT (j := 5) (kb := (ka + 4)) (As := [.ref (ε.2.2.1 18 0), .int 1, .int 0, .int x2, .int 1]) (rest := []) gTk_ok hR (fun _ => ctl_Law_may hl0 hX q45.2 1 0 x2 1 _ hq46) d_Law_refuses_339 cw_Law_may w_19 w_874 w_873 (by decide +kernel) rfl rfl (Nat.le_of_ble_eq_true rfl) ⟨(Nat.le_of_ble_eq_true rfl), (Nat.le_of_ble_eq_true rfl)⟩ (Nat.le_refl _) (gLe hk (Nat.le_of_ble_eq_true rfl)) ?_
        refine g_ldc d_Law_refuses_342 w_645 ?_
        refine g_icmp_ne (tgt := 481) d_Law_refuses_344 (by decide) (fun c62 => ?_) (fun c62 => ?_)
        · rw [if_neg c62] at h
          refine gGo_sub [0, 1, 3] rfl ?_
          exact t_Law_refuses_b481 hl0 hX hR (gLe2 hk (Nat.le_of_ble_eq_true rfl)) q46.2 x1 x4 _ h
        · rw [if_pos c62] at h
          refine g_aload_n d_Law_refuses_347 rfl 0 rfl ?_
          refine g_iload_n d_Law_refuses_348 rfl 1 rfl ?_
          refine g_iconst (v := 4) d_Law_refuses_349 (by decide) ?_
          refine g_rem d_Law_refuses_350 (by decide) ?_
          refine g_iload_n d_Law_refuses_351 rfl 1 rfl ?_
          refine g_iconst (v := 4) d_Law_refuses_352 (by decide) ?_
          refine g_rem d_Law_refuses_353 (by decide) ?_
          refine g_iconst (v := 0) d_Law_refuses_354 (by decide) ?_
          refine g_iconst (v := 1) d_Law_refuses_355 (by decide) ?_
          obtain ⟨q47, hq47, h⟩ := gOb h
          refine g_callT (j := 5) (kb := (ka + 5)) (As := [.ref (ε.2.2.1 18 0), .int (gRem x1 4), .int (gRem x1 4), .int 0, .int 1]) (rest := []) gTk_ok hR (fun _ => ctl_Law_may hl0 hX q46.2 (gRem x1 4) (gRem x1 4) 0 1 _ hq47) d_Law_refuses_356 cw_Law_may w_19 w_874 w_873 (by decide +kernel) rfl rfl (Nat.le_of_ble_eq_true rfl) ⟨(Nat.le_of_ble_eq_true rfl), (Nat.le_of_ble_eq_true rfl)⟩ (Nat.le_refl _) (gLe hk (Nat.le_of_ble_eq_true rfl)) ?_
          refine g_ldc d_Law_refuses_359 w_388 ?_
          refine g_icmp_ne (tgt := 481) d_Law_refuses_361 (by decide) (fun c61 => ?_) (fun c61 => ?_)
          · rw [if_neg c61] at h
            refine gGo_sub [0, 1, 3] rfl ?_
            exact t_Law_refuses_b481 hl0 hX hR (gLe2 hk (Nat.le_of_ble_eq_true rfl)) q47.2 x1 x4 _ h
          · rw [if_pos c61] at h
            refine g_aload_n d_Law_refuses_364 rfl 0 rfl ?_
            refine g_bipush (v := 11) d_Law_refuses_365 (by decide) ?_
            refine g_iload_n d_Law_refuses_367 rfl 1 rfl ?_
            refine g_iconst (v := 2) d_Law_refuses_368 (by decide) ?_
            refine g_rem d_Law_refuses_369 (by decide) ?_
            refine g_if_ne (tgt := 377) d_Law_refuses_370 (by decide) (fun c60 => ?_) (fun c60 => ?_)
            · rw [if_neg c60] at h
              refine g_iconst (v := 2) d_Law_refuses_377 (by decide) ?_
              refine g_iload_n d_Law_refuses_378 rfl 1 rfl ?_
              refine g_bipush (v := 9) d_Law_refuses_379 (by decide) ?_
              refine g_rem d_Law_refuses_381 (by decide) ?_
              refine g_iadd d_Law_refuses_382 ?_
              refine gGo_sub [0, 1, 3] rfl ?_
              exact t_Law_refuses_b383 hl0 hX hR (gLe2 hk (Nat.le_of_ble_eq_true rfl)) q47.2 x1 x4 (2 + (gRem x1 9)) 11 _ h
            · rw [if_pos c60] at h
              refine g_iconst (v := -1) d_Law_refuses_373 (by decide) ?_
              refine g_goto (tgt := 383) d_Law_refuses_374 (by decide) ?_
              refine gGo_sub [0, 1, 3] rfl ?_
              exact t_Law_refuses_b383 hl0 hX hR (gLe2 hk (Nat.le_of_ble_eq_true rfl)) q47.2 x1 x4 (-1) 11 _ h
noncomputable def f_Law_refuses_b250 (M : gMem) (x1 : Int32) (x2 : Int32) (x3 : Int32) (x4 : Int32) (s0 : Int32) (s1 : Int32) (s2 : Int32) : Option (Int32 × gMem) :=
  (f_Law_call M s2 s1 s0 0).bind fun q41 =>
  if q41.1 = (-9999002) then
    (f_Law_call q41.2 8 x3 0 0).bind fun q42 =>
    if q42.1 = (-9999001) then
      if (gRem x1 2) = 0 then
        f_Law_refuses_b298 q42.2 x1 x2 x4 ((-1) - (gRem x1 9)) 10
      else
        f_Law_refuses_b298 q42.2 x1 x2 x4 (8 + (gRem x1 9)) 10
    else
      f_Law_refuses_b481 q42.2 x1 x4
  else
    f_Law_refuses_b481 q41.2 x1 x4
theorem t_Law_refuses_b250 {l : Launch} {ε : gEnv} (hl0 : l.stackTraces = false) (hX : gXw ε) {R : Room} {K ka : Nat} (hR : gRm R 0 0 K 155 6121) (hk : ka + 20 ≤ K) (M : gMem) (x1 : Int32) (x2 : Int32) (x3 : Int32) (x4 : Int32) (s0 : Int32) (s1 : Int32) (s2 : Int32) (r : Int32 × gMem) (h : f_Law_refuses_b250 M x1 x2 x3 x4 s0 s1 s2 = some r) : gGo l ε k_Law_refuses R (gFk ε K (some (.int r.1)) r.2 ka) 250 [(0, .ref (ε.2.2.1 18 0)), (1, .int x1), (2, .int x2), (3, .int x3), (4, .int x4)] [.int s0, .int s1, .int s2, .ref (ε.2.2.1 18 0)] M := by
  unfold f_Law_refuses_b250 at h
  refine g_iconst (v := 0) d_Law_refuses_250 (by decide) ?_
  obtain ⟨q41, hq41, h⟩ := gOb h
  refine g_callK (kb := (ka + 1)) (As := [.ref (ε.2.2.1 18 0), .int s2, .int s1, .int s0, .int 0]) (rest := []) gTk_ok hR (fun _ => ctk_Law_call hl0 hX M s2 s1 s0 0 _ hq41) d_Law_refuses_251 ca_Law_call w_281 rfl rfl (Nat.le_of_ble_eq_true rfl) ⟨(Nat.le_of_ble_eq_true rfl), (Nat.le_of_ble_eq_true rfl)⟩ (Nat.le_refl _) (gLe hk (Nat.le_of_ble_eq_true rfl)) ?_
  refine g_ldc d_Law_refuses_254 w_388 ?_
  refine g_icmp_ne (tgt := 481) d_Law_refuses_256 (by decide) (fun c68 => ?_) (fun c68 => ?_)
  · rw [if_neg c68] at h
    refine gGo_sub [0, 1, 4] rfl ?_
    exact t_Law_refuses_b481 hl0 hX hR (gLe2 hk (Nat.le_of_ble_eq_true rfl)) q41.2 x1 x4 _ h
  · rw [if_pos c68] at h
    refine g_aload_n d_Law_refuses_259 rfl 0 rfl ?_
    refine g_bipush (v := 8) d_Law_refuses_260 (by decide) ?_
    refine g_iload_n d_Law_refuses_262 rfl 3 rfl ?_
    refine g_iconst (v := 0) d_Law_refuses_263 (by decide) ?_
    refine g_iconst (v := 0) d_Law_refuses_264 (by decide) ?_
    obtain ⟨q42, hq42, h⟩ := gOb h
    refine g_callK (kb := (ka + 2)) (As := [.ref (ε.2.2.1 18 0), .int 8, .int x3, .int 0, .int 0]) (rest := []) gTk_ok hR (fun _ => ctk_Law_call hl0 hX q41.2 8 x3 0 0 _ hq42) d_Law_refuses_265 ca_Law_call w_281 rfl rfl (Nat.le_of_ble_eq_true rfl) ⟨(Nat.le_of_ble_eq_true rfl), (Nat.le_of_ble_eq_true rfl)⟩ (Nat.le_refl _) (gLe hk (Nat.le_of_ble_eq_true rfl)) ?_
    refine g_ldc d_Law_refuses_268 w_645 ?_
    refine g_icmp_ne (tgt := 481) d_Law_refuses_270 (by decide) (fun c67 => ?_) (fun c67 => ?_)
    · rw [if_neg c67] at h
      refine gGo_sub [0, 1, 4] rfl ?_
      exact t_Law_refuses_b481 hl0 hX hR (gLe2 hk (Nat.le_of_ble_eq_true rfl)) q42.2 x1 x4 _ h
    · rw [if_pos c67] at h
      refine g_aload_n d_Law_refuses_273 rfl 0 rfl ?_
      refine g_bipush (v := 10) d_Law_refuses_274 (by decide) ?_
      refine g_iload_n d_Law_refuses_276 rfl 1 rfl ?_
      refine g_iconst (v := 2) d_Law_refuses_277 (by decide) ?_
      refine g_rem d_Law_refuses_278 (by decide) ?_
      refine g_if_ne (tgt := 291) d_Law_refuses_279 (by decide) (fun c66 => ?_) (fun c66 => ?_)
      · rw [if_neg c66] at h
        refine g_bipush (v := 8) d_Law_refuses_291 (by decide) ?_
        refine g_iload_n d_Law_refuses_293 rfl 1 rfl ?_
        refine g_bipush (v := 9) d_Law_refuses_294 (by decide) ?_
        refine g_rem d_Law_refuses_296 (by decide) ?_
        refine g_iadd d_Law_refuses_297 ?_
        refine gGo_sub [0, 1, 2, 4] rfl ?_
        exact t_Law_refuses_b298 hl0 hX hR (gLe2 hk (Nat.le_of_ble_eq_true rfl)) q42.2 x1 x2 x4 (8 + (gRem x1 9)) 10 _ h
      · rw [if_pos c66] at h
        refine g_iconst (v := -1) d_Law_refuses_282 (by decide) ?_
        refine g_iload_n d_Law_refuses_283 rfl 1 rfl ?_
        refine g_bipush (v := 9) d_Law_refuses_284 (by decide) ?_
        refine g_rem d_Law_refuses_286 (by decide) ?_
        refine g_isub d_Law_refuses_287 ?_
        refine g_goto (tgt := 298) d_Law_refuses_288 (by decide) ?_
        refine gGo_sub [0, 1, 2, 4] rfl ?_
        exact t_Law_refuses_b298 hl0 hX hR (gLe2 hk (Nat.le_of_ble_eq_true rfl)) q42.2 x1 x2 x4 ((-1) - (gRem x1 9)) 10 _ h
noncomputable def f_Law_refuses_b220 (M : gMem) (x1 : Int32) (x2 : Int32) (x3 : Int32) (x4 : Int32) (s0 : Int32) (s1 : Int32) : Option (Int32 × gMem) :=
  (f_Law_call M s1 s0 0 0).bind fun q40 =>
  if q40.1 = (-9999002) then
    if (gRem x1 2) = 0 then
      f_Law_refuses_b250 q40.2 x1 x2 x3 x4 (-1) 1 6
    else
      f_Law_refuses_b250 q40.2 x1 x2 x3 x4 (5 + (gRem x1 9)) 1 6
  else
    f_Law_refuses_b481 q40.2 x1 x4
theorem t_Law_refuses_b220 {l : Launch} {ε : gEnv} (hl0 : l.stackTraces = false) (hX : gXw ε) {R : Room} {K ka : Nat} (hR : gRm R 0 0 K 155 6121) (hk : ka + 21 ≤ K) (M : gMem) (x1 : Int32) (x2 : Int32) (x3 : Int32) (x4 : Int32) (s0 : Int32) (s1 : Int32) (r : Int32 × gMem) (h : f_Law_refuses_b220 M x1 x2 x3 x4 s0 s1 = some r) : gGo l ε k_Law_refuses R (gFk ε K (some (.int r.1)) r.2 ka) 220 [(0, .ref (ε.2.2.1 18 0)), (1, .int x1), (2, .int x2), (3, .int x3), (4, .int x4)] [.int s0, .int s1, .ref (ε.2.2.1 18 0)] M := by
  unfold f_Law_refuses_b220 at h
  refine g_iconst (v := 0) d_Law_refuses_220 (by decide) ?_
  refine g_iconst (v := 0) d_Law_refuses_221 (by decide) ?_
  obtain ⟨q40, hq40, h⟩ := gOb h
  refine g_callK (kb := (ka + 1)) (As := [.ref (ε.2.2.1 18 0), .int s1, .int s0, .int 0, .int 0]) (rest := []) gTk_ok hR (fun _ => ctk_Law_call hl0 hX M s1 s0 0 0 _ hq40) d_Law_refuses_222 ca_Law_call w_281 rfl rfl (Nat.le_of_ble_eq_true rfl) ⟨(Nat.le_of_ble_eq_true rfl), (Nat.le_of_ble_eq_true rfl)⟩ (Nat.le_refl _) (gLe hk (Nat.le_of_ble_eq_true rfl)) ?_
  refine g_ldc d_Law_refuses_225 w_388 ?_
  refine g_icmp_ne (tgt := 481) d_Law_refuses_227 (by decide) (fun c70 => ?_) (fun c70 => ?_)
  · rw [if_neg c70] at h
    refine gGo_sub [0, 1, 4] rfl ?_
    exact t_Law_refuses_b481 hl0 hX hR (gLe2 hk (Nat.le_of_ble_eq_true rfl)) q40.2 x1 x4 _ h
  · rw [if_pos c70] at h
    refine g_aload_n d_Law_refuses_230 rfl 0 rfl ?_
    refine g_bipush (v := 6) d_Law_refuses_231 (by decide) ?_
    refine g_iconst (v := 1) d_Law_refuses_233 (by decide) ?_
    refine g_iload_n d_Law_refuses_234 rfl 1 rfl ?_
    refine g_iconst (v := 2) d_Law_refuses_235 (by decide) ?_
    refine g_rem d_Law_refuses_236 (by decide) ?_
    refine g_if_ne (tgt := 244) d_Law_refuses_237 (by decide) (fun c69 => ?_) (fun c69 => ?_)
    · rw [if_neg c69] at h
      refine g_iconst (v := 5) d_Law_refuses_244 (by decide) ?_
      refine g_iload_n d_Law_refuses_245 rfl 1 rfl ?_
      refine g_bipush (v := 9) d_Law_refuses_246 (by decide) ?_
      refine g_rem d_Law_refuses_248 (by decide) ?_
      refine g_iadd d_Law_refuses_249 ?_
      exact t_Law_refuses_b250 hl0 hX hR (gLe2 hk (Nat.le_of_ble_eq_true rfl)) q40.2 x1 x2 x3 x4 (5 + (gRem x1 9)) 1 6 _ h
    · rw [if_pos c69] at h
      refine g_iconst (v := -1) d_Law_refuses_240 (by decide) ?_
      refine g_goto (tgt := 250) d_Law_refuses_241 (by decide) ?_
      exact t_Law_refuses_b250 hl0 hX hR (gLe2 hk (Nat.le_of_ble_eq_true rfl)) q40.2 x1 x2 x3 x4 (-1) 1 6 _ h
noncomputable def f_Law_refuses_b80 (M : gMem) (x1 : Int32) (x2 : Int32) (x3 : Int32) (x4 : Int32) (s0 : Int32) (s1 : Int32) : Option (Int32 × gMem) :=
  (f_Law_call M s1 s0 0 0).bind fun q2 =>
  if q2.1 = (-9999002) then
    (f_Law_call q2.2 2 (12 + (gRem x1 50)) 0 0).bind fun q33 =>
    if q33.1 = (-9999002) then
      (f_Law_call q33.2 3 x3 9 0).bind fun q34 =>
      if q34.1 = (-9999001) then
        (f_Law_call q34.2 3 5 (3 + (gRem x1 9)) 0).bind fun q35 =>
        if q35.1 = (-9999002) then
          (f_Law_call q35.2 4 x2 0 9).bind fun q36 =>
          if q36.1 = (-9999001) then
            (f_Law_call q36.2 4 0 x2 9).bind fun q37 =>
            if q37.1 = (-9999001) then
              (f_Law_call q37.2 4 0 0 (6 + (gRem x1 9))).bind fun q38 =>
              if q38.1 = (-9999002) then
                (f_Law_call q38.2 5 x2 0 0).bind fun q39 =>
                if q39.1 = (-9999001) then
                  if (gRem x1 2) = 0 then
                    f_Law_refuses_b220 q39.2 x1 x2 x3 x4 0 6
                  else
                    f_Law_refuses_b220 q39.2 x1 x2 x3 x4 (5 + (gRem x1 9)) 6
                else
                  f_Law_refuses_b481 q39.2 x1 x4
              else
                f_Law_refuses_b481 q38.2 x1 x4
            else
              f_Law_refuses_b481 q37.2 x1 x4
          else
            f_Law_refuses_b481 q36.2 x1 x4
        else
          f_Law_refuses_b481 q35.2 x1 x4
      else
        f_Law_refuses_b481 q34.2 x1 x4
    else
      f_Law_refuses_b481 q33.2 x1 x4
  else
    f_Law_refuses_b481 q2.2 x1 x4
theorem t_Law_refuses_b80 {l : Launch} {ε : gEnv} (hl0 : l.stackTraces = false) (hX : gXw ε) {R : Room} {K ka : Nat} (hR : gRm R 0 0 K 155 6121) (hk : ka + 29 ≤ K) (M : gMem) (x1 : Int32) (x2 : Int32) (x3 : Int32) (x4 : Int32) (s0 : Int32) (s1 : Int32) (r : Int32 × gMem) (h : f_Law_refuses_b80 M x1 x2 x3 x4 s0 s1 = some r) : gGo l ε k_Law_refuses R (gFk ε K (some (.int r.1)) r.2 ka) 80 [(0, .ref (ε.2.2.1 18 0)), (1, .int x1), (2, .int x2), (3, .int x3), (4, .int x4)] [.int s0, .int s1, .ref (ε.2.2.1 18 0)] M := by
  unfold f_Law_refuses_b80 at h
  refine g_iconst (v := 0) d_Law_refuses_80 (by decide) ?_
  refine g_iconst (v := 0) d_Law_refuses_81 (by decide) ?_
  obtain ⟨q2, hq2, h⟩ := gOb h
  refine g_callK (kb := (ka + 1)) (As := [.ref (ε.2.2.1 18 0), .int s1, .int s0, .int 0, .int 0]) (rest := []) gTk_ok hR (fun _ => ctk_Law_call hl0 hX M s1 s0 0 0 _ hq2) d_Law_refuses_82 ca_Law_call w_281 rfl rfl (Nat.le_of_ble_eq_true rfl) ⟨(Nat.le_of_ble_eq_true rfl), (Nat.le_of_ble_eq_true rfl)⟩ (Nat.le_refl _) (gLe hk (Nat.le_of_ble_eq_true rfl)) ?_
  refine g_ldc d_Law_refuses_85 w_388 ?_
  refine g_icmp_ne (tgt := 481) d_Law_refuses_87 (by decide) (fun c79 => ?_) (fun c79 => ?_)
  · rw [if_neg c79] at h
    refine gGo_sub [0, 1, 4] rfl ?_
    exact t_Law_refuses_b481 hl0 hX hR (gLe2 hk (Nat.le_of_ble_eq_true rfl)) q2.2 x1 x4 _ h
  · rw [if_pos c79] at h
    refine g_aload_n d_Law_refuses_90 rfl 0 rfl ?_
    refine g_iconst (v := 2) d_Law_refuses_91 (by decide) ?_
    refine g_bipush (v := 12) d_Law_refuses_92 (by decide) ?_
    refine g_iload_n d_Law_refuses_94 rfl 1 rfl ?_
    refine g_bipush (v := 50) d_Law_refuses_95 (by decide) ?_
    refine g_rem d_Law_refuses_97 (by decide) ?_
    refine g_iadd d_Law_refuses_98 ?_
    refine g_iconst (v := 0) d_Law_refuses_99 (by decide) ?_
    refine g_iconst (v := 0) d_Law_refuses_100 (by decide) ?_
    obtain ⟨q33, hq33, h⟩ := gOb h
    refine g_callK (kb := (ka + 2)) (As := [.ref (ε.2.2.1 18 0), .int 2, .int (12 + (gRem x1 50)), .int 0, .int 0]) (rest := []) gTk_ok hR (fun _ => ctk_Law_call hl0 hX q2.2 2 (12 + (gRem x1 50)) 0 0 _ hq33) d_Law_refuses_101 ca_Law_call w_281 rfl rfl (Nat.le_of_ble_eq_true rfl) ⟨(Nat.le_of_ble_eq_true rfl), (Nat.le_of_ble_eq_true rfl)⟩ (Nat.le_refl _) (gLe hk (Nat.le_of_ble_eq_true rfl)) ?_
    refine g_ldc d_Law_refuses_104 w_388 ?_
    refine g_icmp_ne (tgt := 481) d_Law_refuses_106 (by decide) (fun c78 => ?_) (fun c78 => ?_)
    · rw [if_neg c78] at h
      refine gGo_sub [0, 1, 4] rfl ?_
      exact t_Law_refuses_b481 hl0 hX hR (gLe2 hk (Nat.le_of_ble_eq_true rfl)) q33.2 x1 x4 _ h
    · rw [if_pos c78] at h
      refine g_aload_n d_Law_refuses_109 rfl 0 rfl ?_
      refine g_iconst (v := 3) d_Law_refuses_110 (by decide) ?_
      refine g_iload_n d_Law_refuses_111 rfl 3 rfl ?_
      refine g_bipush (v := 9) d_Law_refuses_112 (by decide) ?_
      refine g_iconst (v := 0) d_Law_refuses_114 (by decide) ?_
      obtain ⟨q34, hq34, h⟩ := gOb h
      refine g_callK (kb := (ka + 3)) (As := [.ref (ε.2.2.1 18 0), .int 3, .int x3, .int 9, .int 0]) (rest := []) gTk_ok hR (fun _ => ctk_Law_call hl0 hX q33.2 3 x3 9 0 _ hq34) d_Law_refuses_115 ca_Law_call w_281 rfl rfl (Nat.le_of_ble_eq_true rfl) ⟨(Nat.le_of_ble_eq_true rfl), (Nat.le_of_ble_eq_true rfl)⟩ (Nat.le_refl _) (gLe hk (Nat.le_of_ble_eq_true rfl)) ?_
      refine g_ldc d_Law_refuses_118 w_645 ?_
      refine g_icmp_ne (tgt := 481) d_Law_refuses_120 (by decide) (fun c77 => ?_) (fun c77 => ?_)
      · rw [if_neg c77] at h
        refine gGo_sub [0, 1, 4] rfl ?_
        exact t_Law_refuses_b481 hl0 hX hR (gLe2 hk (Nat.le_of_ble_eq_true rfl)) q34.2 x1 x4 _ h
      · rw [if_pos c77] at h
        refine g_aload_n d_Law_refuses_123 rfl 0 rfl ?_
        refine g_iconst (v := 3) d_Law_refuses_124 (by decide) ?_
        refine g_iconst (v := 5) d_Law_refuses_125 (by decide) ?_
        refine g_iconst (v := 3) d_Law_refuses_126 (by decide) ?_
        refine g_iload_n d_Law_refuses_127 rfl 1 rfl ?_
        refine g_bipush (v := 9) d_Law_refuses_128 (by decide) ?_
        refine g_rem d_Law_refuses_130 (by decide) ?_
        refine g_iadd d_Law_refuses_131 ?_
        refine g_iconst (v := 0) d_Law_refuses_132 (by decide) ?_
        obtain ⟨q35, hq35, h⟩ := gOb h
        refine g_callK (kb := (ka + 4)) (As := [.ref (ε.2.2.1 18 0), .int 3, .int 5, .int (3 + (gRem x1 9)), .int 0]) (rest := []) gTk_ok hR (fun _ => ctk_Law_call hl0 hX q34.2 3 5 (3 + (gRem x1 9)) 0 _ hq35) d_Law_refuses_133 ca_Law_call w_281 rfl rfl (Nat.le_of_ble_eq_true rfl) ⟨(Nat.le_of_ble_eq_true rfl), (Nat.le_of_ble_eq_true rfl)⟩ (Nat.le_refl _) (gLe hk (Nat.le_of_ble_eq_true rfl)) ?_
        refine g_ldc d_Law_refuses_136 w_388 ?_
        refine g_icmp_ne (tgt := 481) d_Law_refuses_138 (by decide) (fun c76 => ?_) (fun c76 => ?_)
        · rw [if_neg c76] at h
          refine gGo_sub [0, 1, 4] rfl ?_
          exact t_Law_refuses_b481 hl0 hX hR (gLe2 hk (Nat.le_of_ble_eq_true rfl)) q35.2 x1 x4 _ h
        · rw [if_pos c76] at h
          refine g_aload_n d_Law_refuses_141 rfl 0 rfl ?_
          refine g_iconst (v := 4) d_Law_refuses_142 (by decide) ?_
          refine g_iload_n d_Law_refuses_143 rfl 2 rfl ?_
          refine g_iconst (v := 0) d_Law_refuses_144 (by decide) ?_
          refine g_bipush (v := 9) d_Law_refuses_145 (by decide) ?_
          obtain ⟨q36, hq36, h⟩ := gOb h
          refine g_callK (kb := (ka + 5)) (As := [.ref (ε.2.2.1 18 0), .int 4, .int x2, .int 0, .int 9]) (rest := []) gTk_ok hR (fun _ => ctk_Law_call hl0 hX q35.2 4 x2 0 9 _ hq36) d_Law_refuses_147 ca_Law_call w_281 rfl rfl (Nat.le_of_ble_eq_true rfl) ⟨(Nat.le_of_ble_eq_true rfl), (Nat.le_of_ble_eq_true rfl)⟩ (Nat.le_refl _) (gLe hk (Nat.le_of_ble_eq_true rfl)) ?_
          refine g_ldc d_Law_refuses_150 w_645 ?_
          refine g_icmp_ne (tgt := 481) d_Law_refuses_152 (by decide) (fun c75 => ?_) (fun c75 => ?_)
          · rw [if_neg c75] at h
            refine gGo_sub [0, 1, 4] rfl ?_
            exact t_Law_refuses_b481 hl0 hX hR (gLe2 hk (Nat.le_of_ble_eq_true rfl)) q36.2 x1 x4 _ h
          · rw [if_pos c75] at h
            refine g_aload_n d_Law_refuses_155 rfl 0 rfl ?_
            refine g_iconst (v := 4) d_Law_refuses_156 (by decide) ?_
            refine g_iconst (v := 0) d_Law_refuses_157 (by decide) ?_
            refine g_iload_n d_Law_refuses_158 rfl 2 rfl ?_
            refine g_bipush (v := 9) d_Law_refuses_159 (by decide) ?_
            obtain ⟨q37, hq37, h⟩ := gOb h
            refine g_callK (kb := (ka + 6)) (As := [.ref (ε.2.2.1 18 0), .int 4, .int 0, .int x2, .int 9]) (rest := []) gTk_ok hR (fun _ => ctk_Law_call hl0 hX q36.2 4 0 x2 9 _ hq37) d_Law_refuses_161 ca_Law_call w_281 rfl rfl (Nat.le_of_ble_eq_true rfl) ⟨(Nat.le_of_ble_eq_true rfl), (Nat.le_of_ble_eq_true rfl)⟩ (Nat.le_refl _) (gLe hk (Nat.le_of_ble_eq_true rfl)) ?_
            refine g_ldc d_Law_refuses_164 w_645 ?_
            refine g_icmp_ne (tgt := 481) d_Law_refuses_166 (by decide) (fun c74 => ?_) (fun c74 => ?_)
            · rw [if_neg c74] at h
              refine gGo_sub [0, 1, 4] rfl ?_
              exact t_Law_refuses_b481 hl0 hX hR (gLe2 hk (Nat.le_of_ble_eq_true rfl)) q37.2 x1 x4 _ h
            · rw [if_pos c74] at h
              refine g_aload_n d_Law_refuses_169 rfl 0 rfl ?_
              refine g_iconst (v := 4) d_Law_refuses_170 (by decide) ?_
              refine g_iconst (v := 0) d_Law_refuses_171 (by decide) ?_
              refine g_iconst (v := 0) d_Law_refuses_172 (by decide) ?_
              refine g_bipush (v := 6) d_Law_refuses_173 (by decide) ?_
              refine g_iload_n d_Law_refuses_175 rfl 1 rfl ?_
              refine g_bipush (v := 9) d_Law_refuses_176 (by decide) ?_
              refine g_rem d_Law_refuses_178 (by decide) ?_
              refine g_iadd d_Law_refuses_179 ?_
              obtain ⟨q38, hq38, h⟩ := gOb h
              refine g_callK (kb := (ka + 7)) (As := [.ref (ε.2.2.1 18 0), .int 4, .int 0, .int 0, .int (6 + (gRem x1 9))]) (rest := []) gTk_ok hR (fun _ => ctk_Law_call hl0 hX q37.2 4 0 0 (6 + (gRem x1 9)) _ hq38) d_Law_refuses_180 ca_Law_call w_281 rfl rfl (Nat.le_of_ble_eq_true rfl) ⟨(Nat.le_of_ble_eq_true rfl), (Nat.le_of_ble_eq_true rfl)⟩ (Nat.le_refl _) (gLe hk (Nat.le_of_ble_eq_true rfl)) ?_
              refine g_ldc d_Law_refuses_183 w_388 ?_
              refine g_icmp_ne (tgt := 481) d_Law_refuses_185 (by decide) (fun c73 => ?_) (fun c73 => ?_)
              · rw [if_neg c73] at h
                refine gGo_sub [0, 1, 4] rfl ?_
                exact t_Law_refuses_b481 hl0 hX hR (gLe2 hk (Nat.le_of_ble_eq_true rfl)) q38.2 x1 x4 _ h
              · rw [if_pos c73] at h
                refine g_aload_n d_Law_refuses_188 rfl 0 rfl ?_
                refine g_iconst (v := 5) d_Law_refuses_189 (by decide) ?_
                refine g_iload_n d_Law_refuses_190 rfl 2 rfl ?_
                refine g_iconst (v := 0) d_Law_refuses_191 (by decide) ?_
                refine g_iconst (v := 0) d_Law_refuses_192 (by decide) ?_
                obtain ⟨q39, hq39, h⟩ := gOb h
                refine g_callK (kb := (ka + 8)) (As := [.ref (ε.2.2.1 18 0), .int 5, .int x2, .int 0, .int 0]) (rest := []) gTk_ok hR (fun _ => ctk_Law_call hl0 hX q38.2 5 x2 0 0 _ hq39) d_Law_refuses_193 ca_Law_call w_281 rfl rfl (Nat.le_of_ble_eq_true rfl) ⟨(Nat.le_of_ble_eq_true rfl), (Nat.le_of_ble_eq_true rfl)⟩ (Nat.le_refl _) (gLe hk (Nat.le_of_ble_eq_true rfl)) ?_
                refine g_ldc d_Law_refuses_196 w_645 ?_
                refine g_icmp_ne (tgt := 481) d_Law_refuses_198 (by decide) (fun c72 => ?_) (fun c72 => ?_)
                · rw [if_neg c72] at h
                  refine gGo_sub [0, 1, 4] rfl ?_
                  exact t_Law_refuses_b481 hl0 hX hR (gLe2 hk (Nat.le_of_ble_eq_true rfl)) q39.2 x1 x4 _ h
                · rw [if_pos c72] at h
                  refine g_aload_n d_Law_refuses_201 rfl 0 rfl ?_
                  refine g_bipush (v := 6) d_Law_refuses_202 (by decide) ?_
                  refine g_iload_n d_Law_refuses_204 rfl 1 rfl ?_
                  refine g_iconst (v := 2) d_Law_refuses_205 (by decide) ?_
                  refine g_rem d_Law_refuses_206 (by decide) ?_
                  refine g_if_ne (tgt := 214) d_Law_refuses_207 (by decide) (fun c71 => ?_) (fun c71 => ?_)
                  · rw [if_neg c71] at h
                    refine g_iconst (v := 5) d_Law_refuses_214 (by decide) ?_
                    refine g_iload_n d_Law_refuses_215 rfl 1 rfl ?_
                    refine g_bipush (v := 9) d_Law_refuses_216 (by decide) ?_
                    refine g_rem d_Law_refuses_218 (by decide) ?_
                    refine g_iadd d_Law_refuses_219 ?_
                    exact t_Law_refuses_b220 hl0 hX hR (gLe2 hk (Nat.le_of_ble_eq_true rfl)) q39.2 x1 x2 x3 x4 (5 + (gRem x1 9)) 6 _ h
                  · rw [if_pos c71] at h
                    refine g_iconst (v := 0) d_Law_refuses_210 (by decide) ?_
                    refine g_goto (tgt := 220) d_Law_refuses_211 (by decide) ?_
                    exact t_Law_refuses_b220 hl0 hX hR (gLe2 hk (Nat.le_of_ble_eq_true rfl)) q39.2 x1 x2 x3 x4 0 6 _ h
noncomputable def f_Law_refuses_b44 (M : gMem) (x1 : Int32) (x2 : Int32) (s0 : Int32) : Option (Int32 × gMem) :=
  (f_Law_call M 2 1 0 0).bind fun q1 =>
  if (gRem x1 2) = 0 then
    f_Law_refuses_b80 q1.2 x1 x2 s0 q1.1 ((-1) - (gRem x1 9)) 0
  else
    f_Law_refuses_b80 q1.2 x1 x2 s0 q1.1 (256 + (gRem x1 9)) 0
theorem t_Law_refuses_b44 {l : Launch} {ε : gEnv} (hl0 : l.stackTraces = false) (hX : gXw ε) {R : Room} {K ka : Nat} (hR : gRm R 0 0 K 155 6121) (hk : ka + 30 ≤ K) (M : gMem) (x1 : Int32) (x2 : Int32) (s0 : Int32) (r : Int32 × gMem) (h : f_Law_refuses_b44 M x1 x2 s0 = some r) : gGo l ε k_Law_refuses R (gFk ε K (some (.int r.1)) r.2 ka) 44 [(0, .ref (ε.2.2.1 18 0)), (1, .int x1), (2, .int x2)] [.int s0] M := by
  unfold f_Law_refuses_b44 at h
  refine g_istore_n (L' := [(3, .int s0), (0, .ref (ε.2.2.1 18 0)), (1, .int x1), (2, .int x2)]) d_Law_refuses_44 rfl (by decide) rfl ?_
  refine g_aload_n d_Law_refuses_45 rfl 1 rfl ?_
  refine g_iconst (v := 2) d_Law_refuses_46 (by decide) ?_
  refine g_iconst (v := 1) d_Law_refuses_47 (by decide) ?_
  refine g_iconst (v := 0) d_Law_refuses_48 (by decide) ?_
  refine g_iconst (v := 0) d_Law_refuses_49 (by decide) ?_
  obtain ⟨q1, hq1, h⟩ := gOb h
  refine g_callK (kb := (ka + 1)) (As := [.ref (ε.2.2.1 18 0), .int 2, .int 1, .int 0, .int 0]) (rest := []) gTk_ok hR (fun _ => ctk_Law_call hl0 hX M 2 1 0 0 _ hq1) d_Law_refuses_50 ca_Law_call w_281 rfl rfl (Nat.le_of_ble_eq_true rfl) ⟨(Nat.le_of_ble_eq_true rfl), (Nat.le_of_ble_eq_true rfl)⟩ (Nat.le_refl _) (gLe hk (Nat.le_of_ble_eq_true rfl)) ?_
  refine g_istore (L' := [(4, .int q1.1), (3, .int s0), (0, .ref (ε.2.2.1 18 0)), (1, .int x1), (2, .int x2)]) d_Law_refuses_53 (by decide) rfl ?_
  refine g_aload_n d_Law_refuses_55 rfl 2 rfl ?_
  refine g_iconst (v := 0) d_Law_refuses_56 (by decide) ?_
  refine g_iload_n d_Law_refuses_57 rfl 3 rfl ?_
  refine g_iconst (v := 2) d_Law_refuses_58 (by decide) ?_
  refine g_rem d_Law_refuses_59 (by decide) ?_
  refine g_if_ne (tgt := 72) d_Law_refuses_60 (by decide) (fun c80 => ?_) (fun c80 => ?_)
  · rw [if_neg c80] at h
    refine g_sipush (v := 256) d_Law_refuses_72 (by decide) ?_
    refine g_iload_n d_Law_refuses_75 rfl 3 rfl ?_
    refine g_bipush (v := 9) d_Law_refuses_76 (by decide) ?_
    refine g_rem d_Law_refuses_78 (by decide) ?_
    refine g_iadd d_Law_refuses_79 ?_
    refine gGo_sub [2, 3, 4, 1, 0] rfl ?_
    exact t_Law_refuses_b80 hl0 hX hR (gLe2 hk (Nat.le_of_ble_eq_true rfl)) q1.2 x1 x2 s0 q1.1 (256 + (gRem x1 9)) 0 _ h
  · rw [if_pos c80] at h
    refine g_iconst (v := -1) d_Law_refuses_63 (by decide) ?_
    refine g_iload_n d_Law_refuses_64 rfl 3 rfl ?_
    refine g_bipush (v := 9) d_Law_refuses_65 (by decide) ?_
    refine g_rem d_Law_refuses_67 (by decide) ?_
    refine g_isub d_Law_refuses_68 ?_
    refine g_goto (tgt := 80) d_Law_refuses_69 (by decide) ?_
    refine gGo_sub [2, 3, 4, 1, 0] rfl ?_
    exact t_Law_refuses_b80 hl0 hX hR (gLe2 hk (Nat.le_of_ble_eq_true rfl)) q1.2 x1 x2 s0 q1.1 ((-1) - (gRem x1 9)) 0 _ h
noncomputable def f_Law_refuses_b21 (M : gMem) (x1 : Int32) (s0 : Int32) : Option (Int32 × gMem) :=
  if (gRem x1 2) = 0 then
    f_Law_refuses_b44 M x1 s0 ((-1) - (gRem x1 99))
  else
    f_Law_refuses_b44 M x1 s0 (32 + (gRem x1 99))
theorem t_Law_refuses_b21 {l : Launch} {ε : gEnv} (hl0 : l.stackTraces = false) (hX : gXw ε) {R : Room} {K ka : Nat} (hR : gRm R 0 0 K 155 6121) (hk : ka + 30 ≤ K) (M : gMem) (x1 : Int32) (s0 : Int32) (r : Int32 × gMem) (h : f_Law_refuses_b21 M x1 s0 = some r) : gGo l ε k_Law_refuses R (gFk ε K (some (.int r.1)) r.2 ka) 21 [(0, .ref (ε.2.2.1 18 0)), (1, .int x1)] [.int s0] M := by
  unfold f_Law_refuses_b21 at h
  refine g_istore_n (L' := [(2, .int s0), (0, .ref (ε.2.2.1 18 0)), (1, .int x1)]) d_Law_refuses_21 rfl (by decide) rfl ?_
  refine g_iload_n d_Law_refuses_22 rfl 2 rfl ?_
  refine g_iconst (v := 2) d_Law_refuses_23 (by decide) ?_
  refine g_rem d_Law_refuses_24 (by decide) ?_
  refine g_if_ne (tgt := 37) d_Law_refuses_25 (by decide) (fun c81 => ?_) (fun c81 => ?_)
  · rw [if_neg c81] at h
    refine g_bipush (v := 32) d_Law_refuses_37 (by decide) ?_
    refine g_iload_n d_Law_refuses_39 rfl 2 rfl ?_
    refine g_bipush (v := 99) d_Law_refuses_40 (by decide) ?_
    refine g_rem d_Law_refuses_42 (by decide) ?_
    refine g_iadd d_Law_refuses_43 ?_
    refine gGo_sub [1, 2, 0] rfl ?_
    exact t_Law_refuses_b44 hl0 hX hR (gLe hk (Nat.le_of_ble_eq_true rfl)) M x1 s0 (32 + (gRem x1 99)) _ h
  · rw [if_pos c81] at h
    refine g_iconst (v := -1) d_Law_refuses_28 (by decide) ?_
    refine g_iload_n d_Law_refuses_29 rfl 2 rfl ?_
    refine g_bipush (v := 99) d_Law_refuses_30 (by decide) ?_
    refine g_rem d_Law_refuses_32 (by decide) ?_
    refine g_isub d_Law_refuses_33 ?_
    refine g_goto (tgt := 44) d_Law_refuses_34 (by decide) ?_
    refine gGo_sub [1, 2, 0] rfl ?_
    exact t_Law_refuses_b44 hl0 hX hR (gLe hk (Nat.le_of_ble_eq_true rfl)) M x1 s0 ((-1) - (gRem x1 99)) _ h
noncomputable def f_Law_refuses (M : gMem) (a1 : Int32) : Option (Int32 × gMem) :=
  if (gRem a1 2) = 0 then
    f_Law_refuses_b21 M a1 ((-1) - (gRem a1 99))
  else
    f_Law_refuses_b21 M a1 (4 + (gRem a1 99))
theorem t_Law_refuses {l : Launch} {ε : gEnv} (hl0 : l.stackTraces = false) (hX : gXw ε) {R : Room} {K ka : Nat} (hR : gRm R 0 0 K 155 6121) (hk : ka + 30 ≤ K) (M : gMem) (a1 : Int32) (r : Int32 × gMem) (h : f_Law_refuses M a1 = some r) : gGo l ε k_Law_refuses R (gFk ε K (some (.int r.1)) r.2 ka) 0 [(0, .ref (ε.2.2.1 18 0)), (1, .int a1)] [] M := by
  unfold f_Law_refuses at h
  refine g_iload_n d_Law_refuses_0 rfl 1 rfl ?_
  refine g_iconst (v := 2) d_Law_refuses_1 (by decide) ?_
  refine g_rem d_Law_refuses_2 (by decide) ?_
  refine g_if_ne (tgt := 15) d_Law_refuses_3 (by decide) (fun c82 => ?_) (fun c82 => ?_)
  · rw [if_neg c82] at h
    refine g_iconst (v := 4) d_Law_refuses_15 (by decide) ?_
    refine g_iload_n d_Law_refuses_16 rfl 1 rfl ?_
    refine g_bipush (v := 99) d_Law_refuses_17 (by decide) ?_
    refine g_rem d_Law_refuses_19 (by decide) ?_
    refine g_iadd d_Law_refuses_20 ?_
    exact t_Law_refuses_b21 hl0 hX hR (gLe hk (Nat.le_of_ble_eq_true rfl)) M a1 (4 + (gRem a1 99)) _ h
  · rw [if_pos c82] at h
    refine g_iconst (v := -1) d_Law_refuses_6 (by decide) ?_
    refine g_iload_n d_Law_refuses_7 rfl 1 rfl ?_
    refine g_bipush (v := 99) d_Law_refuses_8 (by decide) ?_
    refine g_rem d_Law_refuses_10 (by decide) ?_
    refine g_isub d_Law_refuses_11 ?_
    refine g_goto (tgt := 21) d_Law_refuses_12 (by decide) ?_
    exact t_Law_refuses_b21 hl0 hX hR (gLe hk (Nat.le_of_ble_eq_true rfl)) M a1 ((-1) - (gRem a1 99)) _ h
theorem ctk_Law_refuses {l : Launch} {ε : gEnv} (hl0 : l.stackTraces = false) (hX : gXw ε) (M : gMem) (a1 : Int32) (r : Int32 × gMem) (h : f_Law_refuses M a1 = some r) : gCtK l ε k_Law_refuses 155 6121 30 [.ref (ε.2.2.1 18 0), .int a1] M (some (.int r.1)) r.2 :=
  gCtK_of hl0 (by decide) (Nat.le_of_ble_eq_true rfl) rfl (t_Law_refuses hl0 hX (gRm_K _ _ _) (Nat.le_of_eq (Nat.zero_add _)) M a1 r h)
theorem ctkq_Law_refuses {l : Launch} {ε : gEnv} (hl0 : l.stackTraces = false) (hY : gXw (swE ε)) (M : gMem) (a1 : Int32) (q : Int32 × gMem) (h : onQ (fun M => f_Law_refuses M a1) M = some q) : gCtK l ε k_Law_refuses 155 6121 30 [.ref (ε.2.2.1 38 0), .int a1] M (some (.int q.1)) q.2 :=
  gCtK_sw (ctk_Law_refuses hl0 hY (swM M) a1 (q.1, swM q.2) (onQ_s h))
theorem d_Law_act_0 : decode method_25_code 0 = .ok (.iload_n 1, 1) := by decide +kernel
theorem d_Law_act_1 : decode method_25_code 1 = .ok (.bipush 16, 2) := by decide +kernel
theorem d_Law_act_3 : decode method_25_code 3 = .ok (.idiv, 1) := by decide +kernel
theorem d_Law_act_4 : decode method_25_code 4 = .ok (.istore_n 2, 1) := by decide +kernel
theorem d_Law_act_5 : decode method_25_code 5 = .ok (.aload_n 0, 1) := by decide +kernel
theorem d_Law_act_6 : decode method_25_code 6 = .ok (.iconst 2, 1) := by decide +kernel
theorem d_Law_act_7 : decode method_25_code 7 = .ok (.iconst 1, 1) := by decide +kernel
theorem d_Law_act_8 : decode method_25_code 8 = .ok (.iconst 0, 1) := by decide +kernel
theorem d_Law_act_9 : decode method_25_code 9 = .ok (.iconst 0, 1) := by decide +kernel
theorem d_Law_act_10 : decode method_25_code 10 = .ok (.invokestatic 132, 3) := by decide +kernel
theorem d_Law_act_13 : decode method_25_code 13 = .ok (.istore_n 3, 1) := by decide +kernel
theorem d_Law_act_14 : decode method_25_code 14 = .ok (.iload_n 1, 1) := by decide +kernel
theorem d_Law_act_15 : decode method_25_code 15 = .ok (.bipush 32, 2) := by decide +kernel
theorem d_Law_act_17 : decode method_25_code 17 = .ok (.irem, 1) := by decide +kernel
theorem d_Law_act_18 : decode method_25_code 18 = .ok (.bipush 31, 2) := by decide +kernel
theorem d_Law_act_20 : decode method_25_code 20 = .ok (.if_icmp .ne 15, 3) := by decide +kernel
theorem d_Law_act_23 : decode method_25_code 23 = .ok (.aload_n 0, 1) := by decide +kernel
theorem d_Law_act_24 : decode method_25_code 24 = .ok (.bipush 13, 2) := by decide +kernel
theorem d_Law_act_26 : decode method_25_code 26 = .ok (.iload_n 2, 1) := by decide +kernel
theorem d_Law_act_27 : decode method_25_code 27 = .ok (.iconst 2, 1) := by decide +kernel
theorem d_Law_act_28 : decode method_25_code 28 = .ok (.irem, 1) := by decide +kernel
theorem d_Law_act_29 : decode method_25_code 29 = .ok (.iconst 0, 1) := by decide +kernel
theorem d_Law_act_30 : decode method_25_code 30 = .ok (.iconst 0, 1) := by decide +kernel
theorem d_Law_act_31 : decode method_25_code 31 = .ok (.invokestatic 132, 3) := by decide +kernel
theorem d_Law_act_34 : decode method_25_code 34 = .ok (.ireturn, 1) := by decide +kernel
theorem d_Law_act_35 : decode method_25_code 35 = .ok (.iload_n 1, 1) := by decide +kernel
theorem d_Law_act_36 : decode method_25_code 36 = .ok (.bipush 32, 2) := by decide +kernel
theorem d_Law_act_38 : decode method_25_code 38 = .ok (.irem, 1) := by decide +kernel
theorem d_Law_act_39 : decode method_25_code 39 = .ok (.bipush 30, 2) := by decide +kernel
theorem d_Law_act_41 : decode method_25_code 41 = .ok (.if_icmp .ne 15, 3) := by decide +kernel
theorem d_Law_act_44 : decode method_25_code 44 = .ok (.aload_n 0, 1) := by decide +kernel
theorem d_Law_act_45 : decode method_25_code 45 = .ok (.bipush 14, 2) := by decide +kernel
theorem d_Law_act_47 : decode method_25_code 47 = .ok (.iload_n 2, 1) := by decide +kernel
theorem d_Law_act_48 : decode method_25_code 48 = .ok (.iconst 2, 1) := by decide +kernel
theorem d_Law_act_49 : decode method_25_code 49 = .ok (.irem, 1) := by decide +kernel
theorem d_Law_act_50 : decode method_25_code 50 = .ok (.iconst 0, 1) := by decide +kernel
theorem d_Law_act_51 : decode method_25_code 51 = .ok (.iconst 0, 1) := by decide +kernel
theorem d_Law_act_52 : decode method_25_code 52 = .ok (.invokestatic 132, 3) := by decide +kernel
theorem d_Law_act_55 : decode method_25_code 55 = .ok (.ireturn, 1) := by decide +kernel
theorem d_Law_act_56 : decode method_25_code 56 = .ok (.iload_n 3, 1) := by decide +kernel
theorem d_Law_act_57 : decode method_25_code 57 = .ok (.iconst 3, 1) := by decide +kernel
theorem d_Law_act_58 : decode method_25_code 58 = .ok (.irem, 1) := by decide +kernel
theorem d_Law_act_59 : decode method_25_code 59 = .ok (.ifCond .eq 12, 3) := by decide +kernel
theorem d_Law_act_62 : decode method_25_code 62 = .ok (.iload_n 1, 1) := by decide +kernel
theorem d_Law_act_63 : decode method_25_code 63 = .ok (.bipush 64, 2) := by decide +kernel
theorem d_Law_act_65 : decode method_25_code 65 = .ok (.irem, 1) := by decide +kernel
theorem d_Law_act_66 : decode method_25_code 66 = .ok (.bipush 61, 2) := by decide +kernel
theorem d_Law_act_68 : decode method_25_code 68 = .ok (.if_icmp .ne 14, 3) := by decide +kernel
theorem d_Law_act_71 : decode method_25_code 71 = .ok (.aload_n 0, 1) := by decide +kernel
theorem d_Law_act_72 : decode method_25_code 72 = .ok (.iload_n 2, 1) := by decide +kernel
theorem d_Law_act_73 : decode method_25_code 73 = .ok (.i2l, 1) := by decide +kernel
theorem d_Law_act_74 : decode method_25_code 74 = .ok (.ldc2_w 153, 3) := by decide +kernel
theorem d_Law_act_77 : decode method_25_code 77 = .ok (.lmul, 1) := by decide +kernel
theorem d_Law_act_78 : decode method_25_code 78 = .ok (.invokevirtual 155, 3) := by decide +kernel
theorem d_Law_act_81 : decode method_25_code 81 = .ok (.ireturn, 1) := by decide +kernel
theorem d_Law_act_82 : decode method_25_code 82 = .ok (.iload_n 3, 1) := by decide +kernel
theorem d_Law_act_83 : decode method_25_code 83 = .ok (.iconst 1, 1) := by decide +kernel
theorem d_Law_act_84 : decode method_25_code 84 = .ok (.if_icmp .ne 39, 3) := by decide +kernel
theorem d_Law_act_87 : decode method_25_code 87 = .ok (.iload_n 1, 1) := by decide +kernel
theorem d_Law_act_88 : decode method_25_code 88 = .ok (.iconst 3, 1) := by decide +kernel
theorem d_Law_act_89 : decode method_25_code 89 = .ok (.irem, 1) := by decide +kernel
theorem d_Law_act_90 : decode method_25_code 90 = .ok (.ifCond .ne 23, 3) := by decide +kernel
theorem d_Law_act_93 : decode method_25_code 93 = .ok (.aload_n 0, 1) := by decide +kernel
theorem d_Law_act_94 : decode method_25_code 94 = .ok (.bipush 6, 2) := by decide +kernel
theorem d_Law_act_96 : decode method_25_code 96 = .ok (.iconst 1, 1) := by decide +kernel
theorem d_Law_act_97 : decode method_25_code 97 = .ok (.iload_n 2, 1) := by decide +kernel
theorem d_Law_act_98 : decode method_25_code 98 = .ok (.iconst 4, 1) := by decide +kernel
theorem d_Law_act_99 : decode method_25_code 99 = .ok (.irem, 1) := by decide +kernel
theorem d_Law_act_100 : decode method_25_code 100 = .ok (.iadd, 1) := by decide +kernel
theorem d_Law_act_101 : decode method_25_code 101 = .ok (.iload_n 2, 1) := by decide +kernel
theorem d_Law_act_102 : decode method_25_code 102 = .ok (.iconst 4, 1) := by decide +kernel
theorem d_Law_act_103 : decode method_25_code 103 = .ok (.idiv, 1) := by decide +kernel
theorem d_Law_act_104 : decode method_25_code 104 = .ok (.iconst 5, 1) := by decide +kernel
theorem d_Law_act_105 : decode method_25_code 105 = .ok (.irem, 1) := by decide +kernel
theorem d_Law_act_106 : decode method_25_code 106 = .ok (.iconst 0, 1) := by decide +kernel
theorem d_Law_act_107 : decode method_25_code 107 = .ok (.invokestatic 132, 3) := by decide +kernel
theorem d_Law_act_110 : decode method_25_code 110 = .ok (.goto 12, 3) := by decide +kernel
theorem d_Law_act_113 : decode method_25_code 113 = .ok (.aload_n 0, 1) := by decide +kernel
theorem d_Law_act_114 : decode method_25_code 114 = .ok (.bipush 7, 2) := by decide +kernel
theorem d_Law_act_116 : decode method_25_code 116 = .ok (.iconst 0, 1) := by decide +kernel
theorem d_Law_act_117 : decode method_25_code 117 = .ok (.iconst 0, 1) := by decide +kernel
theorem d_Law_act_118 : decode method_25_code 118 = .ok (.iconst 0, 1) := by decide +kernel
theorem d_Law_act_119 : decode method_25_code 119 = .ok (.invokestatic 132, 3) := by decide +kernel
theorem d_Law_act_122 : decode method_25_code 122 = .ok (.ireturn, 1) := by decide +kernel
theorem d_Law_act_123 : decode method_25_code 123 = .ok (.iload_n 1, 1) := by decide +kernel
theorem d_Law_act_124 : decode method_25_code 124 = .ok (.bipush 32, 2) := by decide +kernel
theorem d_Law_act_126 : decode method_25_code 126 = .ok (.irem, 1) := by decide +kernel
theorem d_Law_act_127 : decode method_25_code 127 = .ok (.bipush 28, 2) := by decide +kernel
theorem d_Law_act_129 : decode method_25_code 129 = .ok (.if_icmp .ne 13, 3) := by decide +kernel
theorem d_Law_act_132 : decode method_25_code 132 = .ok (.aload_n 0, 1) := by decide +kernel
theorem d_Law_act_133 : decode method_25_code 133 = .ok (.bipush 9, 2) := by decide +kernel
theorem d_Law_act_135 : decode method_25_code 135 = .ok (.iconst 0, 1) := by decide +kernel
theorem d_Law_act_136 : decode method_25_code 136 = .ok (.iconst 0, 1) := by decide +kernel
theorem d_Law_act_137 : decode method_25_code 137 = .ok (.iconst 0, 1) := by decide +kernel
theorem d_Law_act_138 : decode method_25_code 138 = .ok (.invokestatic 132, 3) := by decide +kernel
theorem d_Law_act_141 : decode method_25_code 141 = .ok (.ireturn, 1) := by decide +kernel
theorem d_Law_act_142 : decode method_25_code 142 = .ok (.iload_n 1, 1) := by decide +kernel
theorem d_Law_act_143 : decode method_25_code 143 = .ok (.bipush 32, 2) := by decide +kernel
theorem d_Law_act_145 : decode method_25_code 145 = .ok (.irem, 1) := by decide +kernel
theorem d_Law_act_146 : decode method_25_code 146 = .ok (.bipush 27, 2) := by decide +kernel
theorem d_Law_act_148 : decode method_25_code 148 = .ok (.if_icmp .ne 16, 3) := by decide +kernel
theorem d_Law_act_151 : decode method_25_code 151 = .ok (.aload_n 0, 1) := by decide +kernel
theorem d_Law_act_152 : decode method_25_code 152 = .ok (.bipush 8, 2) := by decide +kernel
theorem d_Law_act_154 : decode method_25_code 154 = .ok (.iload_n 2, 1) := by decide +kernel
theorem d_Law_act_155 : decode method_25_code 155 = .ok (.bipush 32, 2) := by decide +kernel
theorem d_Law_act_157 : decode method_25_code 157 = .ok (.irem, 1) := by decide +kernel
theorem d_Law_act_158 : decode method_25_code 158 = .ok (.iconst 0, 1) := by decide +kernel
theorem d_Law_act_159 : decode method_25_code 159 = .ok (.iconst 0, 1) := by decide +kernel
theorem d_Law_act_160 : decode method_25_code 160 = .ok (.invokestatic 132, 3) := by decide +kernel
theorem d_Law_act_163 : decode method_25_code 163 = .ok (.ireturn, 1) := by decide +kernel
theorem d_Law_act_164 : decode method_25_code 164 = .ok (.iconst 0, 1) := by decide +kernel
theorem d_Law_act_165 : decode method_25_code 165 = .ok (.istore 4, 2) := by decide +kernel
theorem d_Law_act_167 : decode method_25_code 167 = .ok (.iconst 1, 1) := by decide +kernel
theorem d_Law_act_168 : decode method_25_code 168 = .ok (.iload_n 2, 1) := by decide +kernel
theorem d_Law_act_169 : decode method_25_code 169 = .ok (.bipush 6, 2) := by decide +kernel
theorem d_Law_act_171 : decode method_25_code 171 = .ok (.irem, 1) := by decide +kernel
theorem d_Law_act_172 : decode method_25_code 172 = .ok (.iadd, 1) := by decide +kernel
theorem d_Law_act_173 : decode method_25_code 173 = .ok (.istore 5, 2) := by decide +kernel
theorem d_Law_act_175 : decode method_25_code 175 = .ok (.iconst 0, 1) := by decide +kernel
theorem d_Law_act_176 : decode method_25_code 176 = .ok (.istore 6, 2) := by decide +kernel
theorem d_Law_act_178 : decode method_25_code 178 = .ok (.iload 6, 2) := by decide +kernel
theorem d_Law_act_180 : decode method_25_code 180 = .ok (.iload 5, 2) := by decide +kernel
theorem d_Law_act_182 : decode method_25_code 182 = .ok (.if_icmp .ge 64, 3) := by decide +kernel
theorem d_Law_act_185 : decode method_25_code 185 = .ok (.iload_n 2, 1) := by decide +kernel
theorem d_Law_act_186 : decode method_25_code 186 = .ok (.bipush 8, 2) := by decide +kernel
theorem d_Law_act_188 : decode method_25_code 188 = .ok (.idiv, 1) := by decide +kernel
theorem d_Law_act_189 : decode method_25_code 189 = .ok (.iconst 3, 1) := by decide +kernel
theorem d_Law_act_190 : decode method_25_code 190 = .ok (.irem, 1) := by decide +kernel
theorem d_Law_act_191 : decode method_25_code 191 = .ok (.ifCond .ne 10, 3) := by decide +kernel
theorem d_Law_act_194 : decode method_25_code 194 = .ok (.aload_n 0, 1) := by decide +kernel
theorem d_Law_act_195 : decode method_25_code 195 = .ok (.invokevirtual 150, 3) := by decide +kernel
theorem d_Law_act_198 : decode method_25_code 198 = .ok (.goto 12, 3) := by decide +kernel
theorem d_Law_act_201 : decode method_25_code 201 = .ok (.aload_n 0, 1) := by decide +kernel
theorem d_Law_act_202 : decode method_25_code 202 = .ok (.bipush 10, 2) := by decide +kernel
theorem d_Law_act_204 : decode method_25_code 204 = .ok (.iconst 0, 1) := by decide +kernel
theorem d_Law_act_205 : decode method_25_code 205 = .ok (.iconst 0, 1) := by decide +kernel
theorem d_Law_act_206 : decode method_25_code 206 = .ok (.iconst 0, 1) := by decide +kernel
theorem d_Law_act_207 : decode method_25_code 207 = .ok (.invokestatic 132, 3) := by decide +kernel
theorem d_Law_act_210 : decode method_25_code 210 = .ok (.istore 7, 2) := by decide +kernel
theorem d_Law_act_212 : decode method_25_code 212 = .ok (.iconst 3, 1) := by decide +kernel
theorem d_Law_act_213 : decode method_25_code 213 = .ok (.iload 4, 2) := by decide +kernel
theorem d_Law_act_215 : decode method_25_code 215 = .ok (.imul, 1) := by decide +kernel
theorem d_Law_act_216 : decode method_25_code 216 = .ok (.iload 7, 2) := by decide +kernel
theorem d_Law_act_218 : decode method_25_code 218 = .ok (.iconst (-1), 1) := by decide +kernel
theorem d_Law_act_219 : decode method_25_code 219 = .ok (.if_icmp .ne 8, 3) := by decide +kernel
theorem d_Law_act_222 : decode method_25_code 222 = .ok (.bipush 7, 2) := by decide +kernel
theorem d_Law_act_224 : decode method_25_code 224 = .ok (.goto 13, 3) := by decide +kernel
theorem d_Law_act_227 : decode method_25_code 227 = .ok (.aload_n 0, 1) := by decide +kernel
theorem d_Law_act_228 : decode method_25_code 228 = .ok (.bipush 8, 2) := by decide +kernel
theorem d_Law_act_230 : decode method_25_code 230 = .ok (.iload 7, 2) := by decide +kernel
theorem d_Law_act_232 : decode method_25_code 232 = .ok (.iconst 0, 1) := by decide +kernel
theorem d_Law_act_233 : decode method_25_code 233 = .ok (.iconst 0, 1) := by decide +kernel
theorem d_Law_act_234 : decode method_25_code 234 = .ok (.invokestatic 132, 3) := by decide +kernel
theorem d_Law_act_237 : decode method_25_code 237 = .ok (.iadd, 1) := by decide +kernel
theorem d_Law_act_238 : decode method_25_code 238 = .ok (.istore 4, 2) := by decide +kernel
theorem d_Law_act_240 : decode method_25_code 240 = .ok (.iinc 6 1, 3) := by decide +kernel
theorem d_Law_act_243 : decode method_25_code 243 = .ok (.goto (-65), 3) := by decide +kernel
theorem d_Law_act_246 : decode method_25_code 246 = .ok (.iload 4, 2) := by decide +kernel
theorem d_Law_act_248 : decode method_25_code 248 = .ok (.ireturn, 1) := by decide +kernel
theorem w_950 : Cond.constantLong "DropSignalsLaw" 153 (4294967437) ∈ gWs := gWs_in (i := 950) (by decide +kernel) rfl
theorem w_951 : Cond.methodLink "DropSignalsLaw" 155 ⟨"DropSignals", "deal", "(J)I"⟩ ∈ gWs := gWs_in (i := 951) (by decide +kernel) rfl
abbrev k_Law_act : gMD := (⟨"DropSignalsLaw", "act", "(LDropSignals;I)I"⟩, method_25_code, 8, (some .int))
theorem w_948 : Cond.static ⟨"DropSignalsLaw", "act", "(LDropSignals;I)I"⟩ ∈ gWs := gWs_in (i := 948) (by decide +kernel) rfl
set_option maxRecDepth 100000 in
theorem ca_Law_act : gCaS k_Law_act 2 := ⟨⟨gWs_in (i := 949) rfl rfl, w_19, by decide, by decide, by decide +kernel⟩, w_948⟩
noncomputable def f_Law_act_b71 (M : gMem) (x2 : Int32) : Option (Int32 × gMem) :=
  (f_DS_deal M ((Int32.toInt64 x2) * (4294967437))).bind fun q2 =>
  some (q2.1, q2.2)
theorem t_Law_act_b71 {l : Launch} {ε : gEnv} (hl0 : l.stackTraces = false) (hX : gXw ε) {R : Room} {K ka : Nat} (hR : gRm R 0 0 K 155 6121) (hk : ka + 0 ≤ K) (M : gMem) (x2 : Int32) (r : Int32 × gMem) (h : f_Law_act_b71 M x2 = some r) : gGo l ε k_Law_act R (gFk ε K (some (.int r.1)) r.2 ka) 71 [(0, .ref (ε.2.2.1 18 0)), (2, .int x2)] [] M := by
  unfold f_Law_act_b71 at h
  refine g_aload_n d_Law_act_71 rfl 0 rfl ?_
  refine g_iload_n d_Law_act_72 rfl 1 rfl ?_
  refine g_i2l d_Law_act_73 ?_
  refine g_ldc2 d_Law_act_74 w_950 ?_
  refine g_lmul d_Law_act_77 ?_
  obtain ⟨q2, hq2, h⟩ := gOb h
  refine g_callV_i (As := [.long ((Int32.toInt64 x2) * (4294967437))]) (rest := []) (ct_DS_deal hX M ((Int32.toInt64 x2) * (4294967437)) _ hq2) d_Law_act_78 ca_DS_deal w_951 (gXw_h0 hX) rfl rfl rfl (Nat.le_of_ble_eq_true rfl) ⟨Nat.le_trans (Nat.le_of_ble_eq_true rfl) hR.2.2.1, Nat.le_trans (Nat.le_of_ble_eq_true rfl) hR.2.2.2⟩ ?_
  obtain rfl := Option.some.inj h
  exact g_iretK hR d_Law_act_81 rfl (gLe0 hk)
noncomputable def f_Law_act_b237_178 (M : gMem) (x2 : Int32) (x5 : Int32) (x6 : Int32) (s0 : Int32) (s1 : Int32) : Option ((Int32 × Int32 × gMem) ⊕ (Int32 × Int32 × gMem)) :=
  some (.inl ((s1 + s0), (x6 + 1), M))
theorem t_Law_act_b237_178 {l : Launch} {ε : gEnv} (hl0 : l.stackTraces = false) (hX : gXw ε) {R : Room} {T : gTT} {Z : gZZ} {k0 n0 K ka kb : Nat} (hT : gTok T) (hR : gRm R k0 n0 K 155 6121) (hk : ka + 0 ≤ kb) (hb : kb ≤ K) (M : gMem) (x2 : Int32) (x5 : Int32) (x6 : Int32) (s0 : Int32) (s1 : Int32) (res : ((Int32 × Int32 × gMem) ⊕ (Int32 × Int32 × gMem))) (h : f_Law_act_b237_178 M x2 x5 x6 s0 s1 = some res) (k1 : ∀ s0 : (Int32 × Int32 × gMem), res = .inl s0 → gGo l ε k_Law_act R (gFg T Z k0 n0 kb) 178 [(0, .ref (ε.2.2.1 18 0)), (2, .int x2), (4, .int s0.1), (5, .int x5), (6, .int s0.2.1)] [] s0.2.2) (k2 : ∀ s0 : (Int32 × Int32 × gMem), res = .inr s0 → gGo l ε k_Law_act R (gFg T Z k0 n0 kb) 246 [(0, .ref (ε.2.2.1 18 0)), (2, .int x2), (4, .int s0.1), (5, .int x5), (6, .int s0.2.1)] [] s0.2.2) : gGo l ε k_Law_act R (gFg T Z k0 n0 ka) 237 [(0, .ref (ε.2.2.1 18 0)), (2, .int x2), (5, .int x5), (6, .int x6)] [.int s0, .int s1] M := by
  unfold f_Law_act_b237_178 at h
  refine g_iadd d_Law_act_237 ?_
  refine g_istore (L' := [(4, .int (s1 + s0)), (0, .ref (ε.2.2.1 18 0)), (2, .int x2), (5, .int x5), (6, .int x6)]) d_Law_act_238 (by decide) rfl ?_
  refine g_iinc (v := (x6 + 1)) (L' := [(6, .int (x6 + 1)), (4, .int (s1 + s0)), (0, .ref (ε.2.2.1 18 0)), (2, .int x2), (5, .int x5)]) d_Law_act_240 (j := 4) rfl rfl (by decide) rfl ?_
  refine g_goto (tgt := 178) d_Law_act_243 (by decide) ?_
  refine gGo_sub [2, 3, 1, 4, 0] rfl ?_
  obtain rfl := Option.some.inj h
  exact g_useK hR (gLe0 hk) hb (k1 ((s1 + s0), (x6 + 1), M) rfl)
noncomputable def f_Law_act_b210_178 (M : gMem) (x2 : Int32) (x4 : Int32) (x5 : Int32) (x6 : Int32) (s0 : Int32) : Option ((Int32 × Int32 × gMem) ⊕ (Int32 × Int32 × gMem)) :=
  if s0 = (-1) then
    f_Law_act_b237_178 M x2 x5 x6 7 (3 * x4)
  else
    (f_Law_call M 8 s0 0 0).bind fun q4 =>
    f_Law_act_b237_178 q4.2 x2 x5 x6 q4.1 (3 * x4)
theorem t_Law_act_b210_178 {l : Launch} {ε : gEnv} (hl0 : l.stackTraces = false) (hX : gXw ε) {R : Room} {T : gTT} {Z : gZZ} {k0 n0 K ka kb : Nat} (hT : gTok T) (hR : gRm R k0 n0 K 155 6121) (hk : ka + 1 ≤ kb) (hb : kb ≤ K) (M : gMem) (x2 : Int32) (x4 : Int32) (x5 : Int32) (x6 : Int32) (s0 : Int32) (res : ((Int32 × Int32 × gMem) ⊕ (Int32 × Int32 × gMem))) (h : f_Law_act_b210_178 M x2 x4 x5 x6 s0 = some res) (k1 : ∀ s0 : (Int32 × Int32 × gMem), res = .inl s0 → gGo l ε k_Law_act R (gFg T Z k0 n0 kb) 178 [(0, .ref (ε.2.2.1 18 0)), (2, .int x2), (4, .int s0.1), (5, .int x5), (6, .int s0.2.1)] [] s0.2.2) (k2 : ∀ s0 : (Int32 × Int32 × gMem), res = .inr s0 → gGo l ε k_Law_act R (gFg T Z k0 n0 kb) 246 [(0, .ref (ε.2.2.1 18 0)), (2, .int x2), (4, .int s0.1), (5, .int x5), (6, .int s0.2.1)] [] s0.2.2) : gGo l ε k_Law_act R (gFg T Z k0 n0 ka) 210 [(0, .ref (ε.2.2.1 18 0)), (2, .int x2), (4, .int x4), (5, .int x5), (6, .int x6)] [.int s0] M := by
  unfold f_Law_act_b210_178 at h
  refine g_istore (L' := [(7, .int s0), (0, .ref (ε.2.2.1 18 0)), (2, .int x2), (4, .int x4), (5, .int x5), (6, .int x6)]) d_Law_act_210 (by decide) rfl ?_
  refine g_iconst (v := 3) d_Law_act_212 (by decide) ?_
  refine g_iload d_Law_act_213 3 rfl ?_
  refine g_imul d_Law_act_215 ?_
  refine g_iload d_Law_act_216 0 rfl ?_
  refine g_iconst (v := -1) d_Law_act_218 (by decide) ?_
  refine g_icmp_ne (tgt := 227) d_Law_act_219 (by decide) (fun c5 => ?_) (fun c5 => ?_)
  · rw [if_neg c5] at h
    refine g_aload_n d_Law_act_227 rfl 1 rfl ?_
    refine g_bipush (v := 8) d_Law_act_228 (by decide) ?_
    refine g_iload d_Law_act_230 0 rfl ?_
    refine g_iconst (v := 0) d_Law_act_232 (by decide) ?_
    refine g_iconst (v := 0) d_Law_act_233 (by decide) ?_
    obtain ⟨q4, hq4, h⟩ := gOb h
    refine g_callK (kb := (ka + 1)) (As := [.ref (ε.2.2.1 18 0), .int 8, .int s0, .int 0, .int 0]) (rest := [.int (3 * x4)]) hT hR (fun _ => ctk_Law_call hl0 hX M 8 s0 0 0 _ hq4) d_Law_act_234 ca_Law_call w_281 rfl rfl (Nat.le_of_ble_eq_true rfl) ⟨(Nat.le_of_ble_eq_true rfl), (Nat.le_of_ble_eq_true rfl)⟩ (Nat.le_refl _) (Nat.le_trans (gLe hk (Nat.le_of_ble_eq_true rfl)) hb) ?_
    refine gGo_sub [1, 2, 4, 5] rfl ?_
    exact t_Law_act_b237_178 hl0 hX hT hR (gLe2 hk (Nat.le_of_ble_eq_true rfl)) hb q4.2 x2 x5 x6 q4.1 (3 * x4) _ h k1 k2
  · rw [if_pos c5] at h
    refine g_bipush (v := 7) d_Law_act_222 (by decide) ?_
    refine g_goto (tgt := 237) d_Law_act_224 (by decide) ?_
    refine gGo_sub [1, 2, 4, 5] rfl ?_
    exact t_Law_act_b237_178 hl0 hX hT hR (gLe hk (Nat.le_of_ble_eq_true rfl)) hb M x2 x5 x6 7 (3 * x4) _ h k1 k2
noncomputable def f_Law_act_s178 (M : gMem) (x2 : Int32) (x4 : Int32) (x5 : Int32) (x6 : Int32) : Option ((Int32 × Int32 × gMem) ⊕ (Int32 × Int32 × gMem)) :=
  if x5 ≤ x6 then
    some (.inr (x4, x6, M))
  else
    if (gRem (x2 / 8) 3) = 0 then
      (f_DS_advice M).bind fun q6 =>
      f_Law_act_b210_178 M x2 x4 x5 x6 q6
    else
      (f_Law_call M 10 0 0 0).bind fun q3 =>
      f_Law_act_b210_178 q3.2 x2 x4 x5 x6 q3.1
theorem t_Law_act_s178 {l : Launch} {ε : gEnv} (hl0 : l.stackTraces = false) (hX : gXw ε) {R : Room} {T : gTT} {Z : gZZ} {k0 n0 K ka kb : Nat} (hT : gTok T) (hR : gRm R k0 n0 K 155 6121) (hk : ka + 2 ≤ kb) (hb : kb ≤ K) (M : gMem) (x2 : Int32) (x4 : Int32) (x5 : Int32) (x6 : Int32) (res : ((Int32 × Int32 × gMem) ⊕ (Int32 × Int32 × gMem))) (h : f_Law_act_s178 M x2 x4 x5 x6 = some res) (k1 : ∀ s0 : (Int32 × Int32 × gMem), res = .inl s0 → gGo l ε k_Law_act R (gFg T Z k0 n0 kb) 178 [(0, .ref (ε.2.2.1 18 0)), (2, .int x2), (4, .int s0.1), (5, .int x5), (6, .int s0.2.1)] [] s0.2.2) (k2 : ∀ s0 : (Int32 × Int32 × gMem), res = .inr s0 → gGo l ε k_Law_act R (gFg T Z k0 n0 kb) 246 [(0, .ref (ε.2.2.1 18 0)), (2, .int x2), (4, .int s0.1), (5, .int x5), (6, .int s0.2.1)] [] s0.2.2) : gGo l ε k_Law_act R (gFg T Z k0 n0 ka) 178 [(0, .ref (ε.2.2.1 18 0)), (2, .int x2), (4, .int x4), (5, .int x5), (6, .int x6)] [] M := by
  unfold f_Law_act_s178 at h
  refine g_iload d_Law_act_178 4 rfl ?_
  refine g_iload d_Law_act_180 3 rfl ?_
  refine g_icmp_ge (tgt := 246) d_Law_act_182 (by decide) (fun c8 => ?_) (fun c8 => ?_)
  · rw [if_pos c8] at h
    obtain rfl := Option.some.inj h
    exact g_useK hR (gLe0 hk) hb (k2 (x4, x6, M) rfl)
  · rw [if_neg c8] at h
    refine g_iload_n d_Law_act_185 rfl 1 rfl ?_
    refine g_bipush (v := 8) d_Law_act_186 (by decide) ?_
    refine g_idiv d_Law_act_188 (by decide) ?_
    refine g_iconst (v := 3) d_Law_act_189 (by decide) ?_
    refine g_rem d_Law_act_190 (by decide) ?_
    refine g_if_ne (tgt := 201) d_Law_act_191 (by decide) (fun c7 => ?_) (fun c7 => ?_)
    · rw [if_neg c7] at h
      refine g_aload_n d_Law_act_201 rfl 0 rfl ?_
      refine g_bipush (v := 10) d_Law_act_202 (by decide) ?_
      refine g_iconst (v := 0) d_Law_act_204 (by decide) ?_
      refine g_iconst (v := 0) d_Law_act_205 (by decide) ?_
      refine g_iconst (v := 0) d_Law_act_206 (by decide) ?_
      obtain ⟨q3, hq3, h⟩ := gOb h
      refine g_callK (kb := (ka + 1)) (As := [.ref (ε.2.2.1 18 0), .int 10, .int 0, .int 0, .int 0]) (rest := []) hT hR (fun _ => ctk_Law_call hl0 hX M 10 0 0 0 _ hq3) d_Law_act_207 ca_Law_call w_281 rfl rfl (Nat.le_of_ble_eq_true rfl) ⟨(Nat.le_of_ble_eq_true rfl), (Nat.le_of_ble_eq_true rfl)⟩ (Nat.le_refl _) (Nat.le_trans (gLe hk (Nat.le_of_ble_eq_true rfl)) hb) ?_
      exact t_Law_act_b210_178 hl0 hX hT hR (gLe2 hk (Nat.le_of_ble_eq_true rfl)) hb q3.2 x2 x4 x5 x6 q3.1 _ h k1 k2
    · rw [if_pos c7] at h
      refine g_aload_n d_Law_act_194 rfl 0 rfl ?_
      obtain ⟨q6, hq6, h⟩ := gOb h
      refine g_callV_i (As := []) (rest := []) (ct_DS_advice hX M _ hq6) d_Law_act_195 ca_DS_advice w_939 (gXw_h0 hX) rfl rfl rfl (Nat.le_of_ble_eq_true rfl) ⟨Nat.le_trans (Nat.le_of_ble_eq_true rfl) hR.2.2.1, Nat.le_trans (Nat.le_of_ble_eq_true rfl) hR.2.2.2⟩ ?_
      refine g_goto (tgt := 210) d_Law_act_198 (by decide) ?_
      exact t_Law_act_b210_178 hl0 hX hT hR (gLe hk (Nat.le_of_ble_eq_true rfl)) hb M x2 x4 x5 x6 q6 _ h k1 k2
noncomputable def f_Law_act_l178 (x2 : Int32) (x5 : Int32) (j : Nat) (s : (Int32 × Int32 × gMem)) : Option (Int32 × Int32 × gMem) := gIt (fun s => f_Law_act_s178 s.2.2 x2 s.1 x5 s.2.1) j s
theorem t_Law_act_l178 {l : Launch} {ε : gEnv} (hl0 : l.stackTraces = false) (hX : gXw ε) {R : Room} {T : gTT} {Z : gZZ} {k0 n0 K : Nat} (hT : gTok T) (hR : gRm R k0 n0 K 155 6121) (x2 : Int32) (x5 : Int32) : ∀ (j : Nat) (s s' : (Int32 × Int32 × gMem)) (ka : Nat), f_Law_act_l178 x2 x5 j s = some s' → ka + 2 * j ≤ K → gGo l ε k_Law_act R (gFg T Z k0 n0 (ka + 2 * j)) 246 [(0, .ref (ε.2.2.1 18 0)), (2, .int x2), (4, .int s'.1), (5, .int x5), (6, .int s'.2.1)] [] s'.2.2 → gGo l ε k_Law_act R (gFg T Z k0 n0 ka) 178 [(0, .ref (ε.2.2.1 18 0)), (2, .int x2), (4, .int s.1), (5, .int x5), (6, .int s.2.1)] [] s.2.2 := by
  intro j
  induction j with
  | zero => intro s s' ka h; cases h
  | succ j ih =>
    intro s s' ka h hk kk
    rcases gIt_s h with ⟨s1, h1, h2⟩ | h1
    · refine t_Law_act_s178 (kb := ka + 2) hl0 hX hT hR (Nat.le_refl _) (by omega) s.2.2 x2 s.1 x5 s.2.1 (.inl s1) h1 (fun s0 e => ?_) (fun s0 e => nomatch e)
      cases e
      refine ih s1 s' (ka + 2) h2 (by omega) ?_
      rw [show ka + 2 + 2 * j = ka + 2 * (j + 1) by omega]
      exact kk
    · refine t_Law_act_s178 (kb := ka + 2) hl0 hX hT hR (Nat.le_refl _) (by omega) s.2.2 x2 s.1 x5 s.2.1 (.inr s') h1 (fun s0 e => nomatch e) (fun s0 e => ?_)
      cases e
      exact g_useK hR (by omega) hk kk
noncomputable def f_Law_act (M : gMem) (a1 : Int32) : Option (Int32 × gMem) :=
  (f_Law_call M 2 1 0 0).bind fun q1 =>
  if (gRem a1 32) = 31 then
    (f_Law_call q1.2 13 (gRem (a1 / 16) 2) 0 0).bind fun q22 =>
    some (q22.1, q22.2)
  else
    if (gRem a1 32) = 30 then
      (f_Law_call q1.2 14 (gRem (a1 / 16) 2) 0 0).bind fun q20 =>
      some (q20.1, q20.2)
    else
      if (gRem q1.1 3) = 0 then
        f_Law_act_b71 q1.2 (a1 / 16)
      else
        if (gRem a1 64) = 61 then
          f_Law_act_b71 q1.2 (a1 / 16)
        else
          if q1.1 = 1 then
            if (gRem a1 3) = 0 then
              (f_Law_call q1.2 6 (1 + (gRem (a1 / 16) 4)) (gRem ((a1 / 16) / 4) 5) 0).bind fun q15 =>
              some (q15.1, q15.2)
            else
              (f_Law_call q1.2 7 0 0 0).bind fun q14 =>
              some (q14.1, q14.2)
          else
            if (gRem a1 32) = 28 then
              (f_Law_call q1.2 9 0 0 0).bind fun q12 =>
              some (q12.1, q12.2)
            else
              if (gRem a1 32) = 27 then
                (f_Law_call q1.2 8 (gRem (a1 / 16) 32) 0 0).bind fun q10 =>
                some (q10.1, q10.2)
              else
                (f_Law_act_l178 (a1 / 16) (1 + (gRem (a1 / 16) 6)) 7 (0, 0, q1.2)).bind fun q9 =>
                some (q9.1, q9.2.2)
theorem t_Law_act {l : Launch} {ε : gEnv} (hl0 : l.stackTraces = false) (hX : gXw ε) {R : Room} {K ka : Nat} (hR : gRm R 0 0 K 155 6121) (hk : ka + 15 ≤ K) (M : gMem) (a1 : Int32) (r : Int32 × gMem) (h : f_Law_act M a1 = some r) : gGo l ε k_Law_act R (gFk ε K (some (.int r.1)) r.2 ka) 0 [(0, .ref (ε.2.2.1 18 0)), (1, .int a1)] [] M := by
  unfold f_Law_act at h
  refine g_iload_n d_Law_act_0 rfl 1 rfl ?_
  refine g_bipush (v := 16) d_Law_act_1 (by decide) ?_
  refine g_idiv d_Law_act_3 (by decide) ?_
  refine g_istore_n (L' := [(2, .int (a1 / 16)), (0, .ref (ε.2.2.1 18 0)), (1, .int a1)]) d_Law_act_4 rfl (by decide) rfl ?_
  refine g_aload_n d_Law_act_5 rfl 1 rfl ?_
  refine g_iconst (v := 2) d_Law_act_6 (by decide) ?_
  refine g_iconst (v := 1) d_Law_act_7 (by decide) ?_
  refine g_iconst (v := 0) d_Law_act_8 (by decide) ?_
  refine g_iconst (v := 0) d_Law_act_9 (by decide) ?_
  obtain ⟨q1, hq1, h⟩ := gOb h
  refine g_callK (kb := (ka + 1)) (As := [.ref (ε.2.2.1 18 0), .int 2, .int 1, .int 0, .int 0]) (rest := []) gTk_ok hR (fun _ => ctk_Law_call hl0 hX M 2 1 0 0 _ hq1) d_Law_act_10 ca_Law_call w_281 rfl rfl (Nat.le_of_ble_eq_true rfl) ⟨(Nat.le_of_ble_eq_true rfl), (Nat.le_of_ble_eq_true rfl)⟩ (Nat.le_refl _) (gLe hk (Nat.le_of_ble_eq_true rfl)) ?_
  refine g_istore_n (L' := [(3, .int q1.1), (2, .int (a1 / 16)), (0, .ref (ε.2.2.1 18 0)), (1, .int a1)]) d_Law_act_13 rfl (by decide) rfl ?_
  refine g_iload_n d_Law_act_14 rfl 3 rfl ?_
  refine g_bipush (v := 32) d_Law_act_15 (by decide) ?_
  refine g_rem d_Law_act_17 (by decide) ?_
  refine g_bipush (v := 31) d_Law_act_18 (by decide) ?_
  refine g_icmp_ne (tgt := 35) d_Law_act_20 (by decide) (fun c23 => ?_) (fun c23 => ?_)
  · rw [if_neg c23] at h
    refine g_iload_n d_Law_act_35 rfl 3 rfl ?_
    refine g_bipush (v := 32) d_Law_act_36 (by decide) ?_
    refine g_rem d_Law_act_38 (by decide) ?_
    refine g_bipush (v := 30) d_Law_act_39 (by decide) ?_
    refine g_icmp_ne (tgt := 56) d_Law_act_41 (by decide) (fun c21 => ?_) (fun c21 => ?_)
    · rw [if_neg c21] at h
      refine g_iload_n d_Law_act_56 rfl 0 rfl ?_
      refine g_iconst (v := 3) d_Law_act_57 (by decide) ?_
      refine g_rem d_Law_act_58 (by decide) ?_
      refine g_if_eq (tgt := 71) d_Law_act_59 (by decide) (fun c19 => ?_) (fun c19 => ?_)
      · rw [if_pos c19] at h
        refine gGo_sub [2, 1] rfl ?_
        exact t_Law_act_b71 hl0 hX hR (gLe2 hk (Nat.le_of_ble_eq_true rfl)) q1.2 (a1 / 16) _ h
      · rw [if_neg c19] at h
        refine g_iload_n d_Law_act_62 rfl 3 rfl ?_
        refine g_bipush (v := 64) d_Law_act_63 (by decide) ?_
        refine g_rem d_Law_act_65 (by decide) ?_
        refine g_bipush (v := 61) d_Law_act_66 (by decide) ?_
        refine g_icmp_ne (tgt := 82) d_Law_act_68 (by decide) (fun c18 => ?_) (fun c18 => ?_)
        · rw [if_neg c18] at h
          refine g_iload_n d_Law_act_82 rfl 0 rfl ?_
          refine g_iconst (v := 1) d_Law_act_83 (by decide) ?_
          refine g_icmp_ne (tgt := 123) d_Law_act_84 (by decide) (fun c17 => ?_) (fun c17 => ?_)
          · rw [if_neg c17] at h
            refine g_iload_n d_Law_act_123 rfl 3 rfl ?_
            refine g_bipush (v := 32) d_Law_act_124 (by decide) ?_
            refine g_rem d_Law_act_126 (by decide) ?_
            refine g_bipush (v := 28) d_Law_act_127 (by decide) ?_
            refine g_icmp_ne (tgt := 142) d_Law_act_129 (by decide) (fun c13 => ?_) (fun c13 => ?_)
            · rw [if_neg c13] at h
              refine g_iload_n d_Law_act_142 rfl 3 rfl ?_
              refine g_bipush (v := 32) d_Law_act_143 (by decide) ?_
              refine g_rem d_Law_act_145 (by decide) ?_
              refine g_bipush (v := 27) d_Law_act_146 (by decide) ?_
              refine g_icmp_ne (tgt := 164) d_Law_act_148 (by decide) (fun c11 => ?_) (fun c11 => ?_)
              · rw [if_neg c11] at h
                refine g_iconst (v := 0) d_Law_act_164 (by decide) ?_
                refine g_istore (L' := [(4, .int 0), (3, .int q1.1), (2, .int (a1 / 16)), (0, .ref (ε.2.2.1 18 0)), (1, .int a1)]) d_Law_act_165 (by decide) rfl ?_
                refine g_iconst (v := 1) d_Law_act_167 (by decide) ?_
                refine g_iload_n d_Law_act_168 rfl 2 rfl ?_
                refine g_bipush (v := 6) d_Law_act_169 (by decide) ?_
                refine g_rem d_Law_act_171 (by decide) ?_
                refine g_iadd d_Law_act_172 ?_
                refine g_istore (L' := [(5, .int (1 + (gRem (a1 / 16) 6))), (4, .int 0), (3, .int q1.1), (2, .int (a1 / 16)), (0, .ref (ε.2.2.1 18 0)), (1, .int a1)]) d_Law_act_173 (by decide) rfl ?_
                refine g_iconst (v := 0) d_Law_act_175 (by decide) ?_
                refine g_istore (L' := [(6, .int 0), (5, .int (1 + (gRem (a1 / 16) 6))), (4, .int 0), (3, .int q1.1), (2, .int (a1 / 16)), (0, .ref (ε.2.2.1 18 0)), (1, .int a1)]) d_Law_act_176 (by decide) rfl ?_
                obtain ⟨q9, hq9, h⟩ := gOb h
                refine gGo_sub [5, 4, 2, 1, 0] rfl ?_
                refine t_Law_act_l178 hl0 hX gTk_ok hR (a1 / 16) (1 + (gRem (a1 / 16) 6)) 7 (0, 0, q1.2) q9 (ka + 1) hq9 (by omega) ?_
                refine g_useK hR (kb := (ka + 15)) (by omega) (gLe hk (Nat.le_of_ble_eq_true rfl)) ?_
                refine g_iload d_Law_act_246 2 rfl ?_
                obtain rfl := Option.some.inj h
                exact g_iretK hR d_Law_act_248 rfl (gLe hk (Nat.le_of_ble_eq_true rfl))
              · rw [if_pos c11] at h
                refine g_aload_n d_Law_act_151 rfl 2 rfl ?_
                refine g_bipush (v := 8) d_Law_act_152 (by decide) ?_
                refine g_iload_n d_Law_act_154 rfl 1 rfl ?_
                refine g_bipush (v := 32) d_Law_act_155 (by decide) ?_
                refine g_rem d_Law_act_157 (by decide) ?_
                refine g_iconst (v := 0) d_Law_act_158 (by decide) ?_
                refine g_iconst (v := 0) d_Law_act_159 (by decide) ?_
                obtain ⟨q10, hq10, h⟩ := gOb h
                refine g_callK (kb := (ka + 2)) (As := [.ref (ε.2.2.1 18 0), .int 8, .int (gRem (a1 / 16) 32), .int 0, .int 0]) (rest := []) gTk_ok hR (fun _ => ctk_Law_call hl0 hX q1.2 8 (gRem (a1 / 16) 32) 0 0 _ hq10) d_Law_act_160 ca_Law_call w_281 rfl rfl (Nat.le_of_ble_eq_true rfl) ⟨(Nat.le_of_ble_eq_true rfl), (Nat.le_of_ble_eq_true rfl)⟩ (Nat.le_refl _) (gLe hk (Nat.le_of_ble_eq_true rfl)) ?_
                obtain rfl := Option.some.inj h
                exact g_iretK hR d_Law_act_163 rfl (gLe hk (Nat.le_of_ble_eq_true rfl))
            · rw [if_pos c13] at h
              refine g_aload_n d_Law_act_132 rfl 2 rfl ?_
              refine g_bipush (v := 9) d_Law_act_133 (by decide) ?_
              refine g_iconst (v := 0) d_Law_act_135 (by decide) ?_
              refine g_iconst (v := 0) d_Law_act_136 (by decide) ?_
              refine g_iconst (v := 0) d_Law_act_137 (by decide) ?_
              obtain ⟨q12, hq12, h⟩ := gOb h
              refine g_callK (kb := (ka + 2)) (As := [.ref (ε.2.2.1 18 0), .int 9, .int 0, .int 0, .int 0]) (rest := []) gTk_ok hR (fun _ => ctk_Law_call hl0 hX q1.2 9 0 0 0 _ hq12) d_Law_act_138 ca_Law_call w_281 rfl rfl (Nat.le_of_ble_eq_true rfl) ⟨(Nat.le_of_ble_eq_true rfl), (Nat.le_of_ble_eq_true rfl)⟩ (Nat.le_refl _) (gLe hk (Nat.le_of_ble_eq_true rfl)) ?_
              obtain rfl := Option.some.inj h
              exact g_iretK hR d_Law_act_141 rfl (gLe hk (Nat.le_of_ble_eq_true rfl))
          · rw [if_pos c17] at h
            refine g_iload_n d_Law_act_87 rfl 3 rfl ?_
            refine g_iconst (v := 3) d_Law_act_88 (by decide) ?_
            refine g_rem d_Law_act_89 (by decide) ?_
            refine g_if_ne (tgt := 113) d_Law_act_90 (by decide) (fun c16 => ?_) (fun c16 => ?_)
            · rw [if_neg c16] at h
              refine g_aload_n d_Law_act_113 rfl 2 rfl ?_
              refine g_bipush (v := 7) d_Law_act_114 (by decide) ?_
              refine g_iconst (v := 0) d_Law_act_116 (by decide) ?_
              refine g_iconst (v := 0) d_Law_act_117 (by decide) ?_
              refine g_iconst (v := 0) d_Law_act_118 (by decide) ?_
              obtain ⟨q14, hq14, h⟩ := gOb h
              refine g_callK (kb := (ka + 2)) (As := [.ref (ε.2.2.1 18 0), .int 7, .int 0, .int 0, .int 0]) (rest := []) gTk_ok hR (fun _ => ctk_Law_call hl0 hX q1.2 7 0 0 0 _ hq14) d_Law_act_119 ca_Law_call w_281 rfl rfl (Nat.le_of_ble_eq_true rfl) ⟨(Nat.le_of_ble_eq_true rfl), (Nat.le_of_ble_eq_true rfl)⟩ (Nat.le_refl _) (gLe hk (Nat.le_of_ble_eq_true rfl)) ?_
              obtain rfl := Option.some.inj h
              exact g_iretK hR d_Law_act_122 rfl (gLe hk (Nat.le_of_ble_eq_true rfl))
            · rw [if_pos c16] at h
              refine g_aload_n d_Law_act_93 rfl 2 rfl ?_
              refine g_bipush (v := 6) d_Law_act_94 (by decide) ?_
              refine g_iconst (v := 1) d_Law_act_96 (by decide) ?_
              refine g_iload_n d_Law_act_97 rfl 1 rfl ?_
              refine g_iconst (v := 4) d_Law_act_98 (by decide) ?_
              refine g_rem d_Law_act_99 (by decide) ?_
              refine g_iadd d_Law_act_100 ?_
              refine g_iload_n d_Law_act_101 rfl 1 rfl ?_
              refine g_iconst (v := 4) d_Law_act_102 (by decide) ?_
              refine g_idiv d_Law_act_103 (by decide) ?_
              refine g_iconst (v := 5) d_Law_act_104 (by decide) ?_
              refine g_rem d_Law_act_105 (by decide) ?_
              refine g_iconst (v := 0) d_Law_act_106 (by decide) ?_
              obtain ⟨q15, hq15, h⟩ := gOb h
              refine g_callK (kb := (ka + 2)) (As := [.ref (ε.2.2.1 18 0), .int 6, .int (1 + (gRem (a1 / 16) 4)), .int (gRem ((a1 / 16) / 4) 5), .int 0]) (rest := []) gTk_ok hR (fun _ => ctk_Law_call hl0 hX q1.2 6 (1 + (gRem (a1 / 16) 4)) (gRem ((a1 / 16) / 4) 5) 0 _ hq15) d_Law_act_107 ca_Law_call w_281 rfl rfl (Nat.le_of_ble_eq_true rfl) ⟨(Nat.le_of_ble_eq_true rfl), (Nat.le_of_ble_eq_true rfl)⟩ (Nat.le_refl _) (gLe hk (Nat.le_of_ble_eq_true rfl)) ?_
              refine g_goto (tgt := 122) d_Law_act_110 (by decide) ?_
              obtain rfl := Option.some.inj h
              exact g_iretK hR d_Law_act_122 rfl (gLe hk (Nat.le_of_ble_eq_true rfl))
        · rw [if_pos c18] at h
          refine gGo_sub [2, 1] rfl ?_
          exact t_Law_act_b71 hl0 hX hR (gLe2 hk (Nat.le_of_ble_eq_true rfl)) q1.2 (a1 / 16) _ h
    · rw [if_pos c21] at h
      refine g_aload_n d_Law_act_44 rfl 2 rfl ?_
      refine g_bipush (v := 14) d_Law_act_45 (by decide) ?_
      refine g_iload_n d_Law_act_47 rfl 1 rfl ?_
      refine g_iconst (v := 2) d_Law_act_48 (by decide) ?_
      refine g_rem d_Law_act_49 (by decide) ?_
      refine g_iconst (v := 0) d_Law_act_50 (by decide) ?_
      refine g_iconst (v := 0) d_Law_act_51 (by decide) ?_
      obtain ⟨q20, hq20, h⟩ := gOb h
      refine g_callK (kb := (ka + 2)) (As := [.ref (ε.2.2.1 18 0), .int 14, .int (gRem (a1 / 16) 2), .int 0, .int 0]) (rest := []) gTk_ok hR (fun _ => ctk_Law_call hl0 hX q1.2 14 (gRem (a1 / 16) 2) 0 0 _ hq20) d_Law_act_52 ca_Law_call w_281 rfl rfl (Nat.le_of_ble_eq_true rfl) ⟨(Nat.le_of_ble_eq_true rfl), (Nat.le_of_ble_eq_true rfl)⟩ (Nat.le_refl _) (gLe hk (Nat.le_of_ble_eq_true rfl)) ?_
      obtain rfl := Option.some.inj h
      exact g_iretK hR d_Law_act_55 rfl (gLe hk (Nat.le_of_ble_eq_true rfl))
  · rw [if_pos c23] at h
    refine g_aload_n d_Law_act_23 rfl 2 rfl ?_
    refine g_bipush (v := 13) d_Law_act_24 (by decide) ?_
    refine g_iload_n d_Law_act_26 rfl 1 rfl ?_
    refine g_iconst (v := 2) d_Law_act_27 (by decide) ?_
    refine g_rem d_Law_act_28 (by decide) ?_
    refine g_iconst (v := 0) d_Law_act_29 (by decide) ?_
    refine g_iconst (v := 0) d_Law_act_30 (by decide) ?_
    obtain ⟨q22, hq22, h⟩ := gOb h
    refine g_callK (kb := (ka + 2)) (As := [.ref (ε.2.2.1 18 0), .int 13, .int (gRem (a1 / 16) 2), .int 0, .int 0]) (rest := []) gTk_ok hR (fun _ => ctk_Law_call hl0 hX q1.2 13 (gRem (a1 / 16) 2) 0 0 _ hq22) d_Law_act_31 ca_Law_call w_281 rfl rfl (Nat.le_of_ble_eq_true rfl) ⟨(Nat.le_of_ble_eq_true rfl), (Nat.le_of_ble_eq_true rfl)⟩ (Nat.le_refl _) (gLe hk (Nat.le_of_ble_eq_true rfl)) ?_
    obtain rfl := Option.some.inj h
    exact g_iretK hR d_Law_act_34 rfl (gLe hk (Nat.le_of_ble_eq_true rfl))
theorem ctk_Law_act {l : Launch} {ε : gEnv} (hl0 : l.stackTraces = false) (hX : gXw ε) (M : gMem) (a1 : Int32) (r : Int32 × gMem) (h : f_Law_act M a1 = some r) : gCtK l ε k_Law_act 155 6121 15 [.ref (ε.2.2.1 18 0), .int a1] M (some (.int r.1)) r.2 :=
  gCtK_of hl0 (by decide) (Nat.le_of_ble_eq_true rfl) rfl (t_Law_act hl0 hX (gRm_K _ _ _) (Nat.le_of_eq (Nat.zero_add _)) M a1 r h)
theorem ctkq_Law_act {l : Launch} {ε : gEnv} (hl0 : l.stackTraces = false) (hY : gXw (swE ε)) (M : gMem) (a1 : Int32) (q : Int32 × gMem) (h : onQ (fun M => f_Law_act M a1) M = some q) : gCtK l ε k_Law_act 155 6121 15 [.ref (ε.2.2.1 38 0), .int a1] M (some (.int q.1)) q.2 :=
  gCtK_sw (ctk_Law_act hl0 hY (swM M) a1 (q.1, swM q.2) (onQ_s h))
theorem d_Law_few_0 : decode method_29_code 0 = .ok (.iconst 0, 1) := by decide +kernel
theorem d_Law_few_1 : decode method_29_code 1 = .ok (.istore_n 1, 1) := by decide +kernel
theorem d_Law_few_2 : decode method_29_code 2 = .ok (.iconst 0, 1) := by decide +kernel
theorem d_Law_few_3 : decode method_29_code 3 = .ok (.istore_n 2, 1) := by decide +kernel
theorem d_Law_few_4 : decode method_29_code 4 = .ok (.iload_n 2, 1) := by decide +kernel
theorem d_Law_few_5 : decode method_29_code 5 = .ok (.iconst 4, 1) := by decide +kernel
theorem d_Law_few_6 : decode method_29_code 6 = .ok (.if_icmp .ge 56, 3) := by decide +kernel
theorem d_Law_few_9 : decode method_29_code 9 = .ok (.aload_n 0, 1) := by decide +kernel
theorem d_Law_few_10 : decode method_29_code 10 = .ok (.iconst 4, 1) := by decide +kernel
theorem d_Law_few_11 : decode method_29_code 11 = .ok (.iload_n 2, 1) := by decide +kernel
theorem d_Law_few_12 : decode method_29_code 12 = .ok (.iconst 0, 1) := by decide +kernel
theorem d_Law_few_13 : decode method_29_code 13 = .ok (.iconst 0, 1) := by decide +kernel
theorem d_Law_few_14 : decode method_29_code 14 = .ok (.invokestatic 132, 3) := by decide +kernel
theorem d_Law_few_17 : decode method_29_code 17 = .ok (.aload_n 0, 1) := by decide +kernel
theorem d_Law_few_18 : decode method_29_code 18 = .ok (.iconst 4, 1) := by decide +kernel
theorem d_Law_few_19 : decode method_29_code 19 = .ok (.iload_n 2, 1) := by decide +kernel
theorem d_Law_few_20 : decode method_29_code 20 = .ok (.iconst 1, 1) := by decide +kernel
theorem d_Law_few_21 : decode method_29_code 21 = .ok (.iconst 0, 1) := by decide +kernel
theorem d_Law_few_22 : decode method_29_code 22 = .ok (.invokestatic 132, 3) := by decide +kernel
theorem d_Law_few_25 : decode method_29_code 25 = .ok (.iadd, 1) := by decide +kernel
theorem d_Law_few_26 : decode method_29_code 26 = .ok (.aload_n 0, 1) := by decide +kernel
theorem d_Law_few_27 : decode method_29_code 27 = .ok (.iconst 4, 1) := by decide +kernel
theorem d_Law_few_28 : decode method_29_code 28 = .ok (.iload_n 2, 1) := by decide +kernel
theorem d_Law_few_29 : decode method_29_code 29 = .ok (.iconst 2, 1) := by decide +kernel
theorem d_Law_few_30 : decode method_29_code 30 = .ok (.iconst 0, 1) := by decide +kernel
theorem d_Law_few_31 : decode method_29_code 31 = .ok (.invokestatic 132, 3) := by decide +kernel
theorem d_Law_few_34 : decode method_29_code 34 = .ok (.iadd, 1) := by decide +kernel
theorem d_Law_few_35 : decode method_29_code 35 = .ok (.aload_n 0, 1) := by decide +kernel
theorem d_Law_few_36 : decode method_29_code 36 = .ok (.iconst 4, 1) := by decide +kernel
theorem d_Law_few_37 : decode method_29_code 37 = .ok (.iload_n 2, 1) := by decide +kernel
theorem d_Law_few_38 : decode method_29_code 38 = .ok (.iconst 3, 1) := by decide +kernel
theorem d_Law_few_39 : decode method_29_code 39 = .ok (.iconst 0, 1) := by decide +kernel
theorem d_Law_few_40 : decode method_29_code 40 = .ok (.invokestatic 132, 3) := by decide +kernel
theorem d_Law_few_43 : decode method_29_code 43 = .ok (.iadd, 1) := by decide +kernel
theorem d_Law_few_44 : decode method_29_code 44 = .ok (.istore_n 3, 1) := by decide +kernel
theorem d_Law_few_45 : decode method_29_code 45 = .ok (.iload_n 3, 1) := by decide +kernel
theorem d_Law_few_46 : decode method_29_code 46 = .ok (.iload_n 1, 1) := by decide +kernel
theorem d_Law_few_47 : decode method_29_code 47 = .ok (.if_icmp .le 7, 3) := by decide +kernel
theorem d_Law_few_50 : decode method_29_code 50 = .ok (.iload_n 3, 1) := by decide +kernel
theorem d_Law_few_51 : decode method_29_code 51 = .ok (.goto 4, 3) := by decide +kernel
theorem d_Law_few_54 : decode method_29_code 54 = .ok (.iload_n 1, 1) := by decide +kernel
theorem d_Law_few_55 : decode method_29_code 55 = .ok (.istore_n 1, 1) := by decide +kernel
theorem d_Law_few_56 : decode method_29_code 56 = .ok (.iinc 2 1, 3) := by decide +kernel
theorem d_Law_few_59 : decode method_29_code 59 = .ok (.goto (-55), 3) := by decide +kernel
theorem d_Law_few_62 : decode method_29_code 62 = .ok (.iload_n 1, 1) := by decide +kernel
theorem d_Law_few_63 : decode method_29_code 63 = .ok (.ireturn, 1) := by decide +kernel
abbrev k_Law_few : gMD := (⟨"DropSignalsLaw", "few", "(LDropSignals;)I"⟩, method_29_code, 4, (some .int))
theorem w_966 : Cond.static ⟨"DropSignalsLaw", "few", "(LDropSignals;)I"⟩ ∈ gWs := gWs_in (i := 966) (by decide +kernel) rfl
set_option maxRecDepth 100000 in
theorem ca_Law_few : gCaS k_Law_few 1 := ⟨⟨gWs_in (i := 967) rfl rfl, w_19, by decide, by decide, by decide +kernel⟩, w_966⟩
noncomputable def f_Law_few_b55_4 (M : gMem) (x2 : Int32) (s0 : Int32) : Option ((Int32 × Int32 × gMem) ⊕ (Int32 × Int32 × gMem)) :=
  some (.inl (s0, (x2 + 1), M))
theorem t_Law_few_b55_4 {l : Launch} {ε : gEnv} (hl0 : l.stackTraces = false) (hX : gXw ε) {R : Room} {T : gTT} {Z : gZZ} {k0 n0 K ka kb : Nat} (hT : gTok T) (hR : gRm R k0 n0 K 155 6121) (hk : ka + 0 ≤ kb) (hb : kb ≤ K) (M : gMem) (x2 : Int32) (s0 : Int32) (res : ((Int32 × Int32 × gMem) ⊕ (Int32 × Int32 × gMem))) (h : f_Law_few_b55_4 M x2 s0 = some res) (k1 : ∀ s0 : (Int32 × Int32 × gMem), res = .inl s0 → gGo l ε k_Law_few R (gFg T Z k0 n0 kb) 4 [(0, .ref (ε.2.2.1 18 0)), (1, .int s0.1), (2, .int s0.2.1)] [] s0.2.2) (k2 : ∀ s0 : (Int32 × Int32 × gMem), res = .inr s0 → gGo l ε k_Law_few R (gFg T Z k0 n0 kb) 62 [(0, .ref (ε.2.2.1 18 0)), (1, .int s0.1), (2, .int s0.2.1)] [] s0.2.2) : gGo l ε k_Law_few R (gFg T Z k0 n0 ka) 55 [(0, .ref (ε.2.2.1 18 0)), (2, .int x2)] [.int s0] M := by
  unfold f_Law_few_b55_4 at h
  refine g_istore_n (L' := [(1, .int s0), (0, .ref (ε.2.2.1 18 0)), (2, .int x2)]) d_Law_few_55 rfl (by decide) rfl ?_
  refine g_iinc (v := (x2 + 1)) (L' := [(2, .int (x2 + 1)), (1, .int s0), (0, .ref (ε.2.2.1 18 0))]) d_Law_few_56 (j := 2) rfl rfl (by decide) rfl ?_
  refine g_goto (tgt := 4) d_Law_few_59 (by decide) ?_
  refine gGo_sub [2, 1, 0] rfl ?_
  obtain rfl := Option.some.inj h
  exact g_useK hR (gLe0 hk) hb (k1 (s0, (x2 + 1), M) rfl)
noncomputable def f_Law_few_s4 (M : gMem) (x1 : Int32) (x2 : Int32) : Option ((Int32 × Int32 × gMem) ⊕ (Int32 × Int32 × gMem)) :=
  if 4 ≤ x2 then
    some (.inr (x1, x2, M))
  else
    (f_Law_call M 4 x2 0 0).bind fun q1 =>
    (f_Law_call q1.2 4 x2 1 0).bind fun q2 =>
    (f_Law_call q2.2 4 x2 2 0).bind fun q3 =>
    (f_Law_call q3.2 4 x2 3 0).bind fun q4 =>
    if (((q1.1 + q2.1) + q3.1) + q4.1) ≤ x1 then
      f_Law_few_b55_4 q4.2 x2 x1
    else
      f_Law_few_b55_4 q4.2 x2 (((q1.1 + q2.1) + q3.1) + q4.1)
theorem t_Law_few_s4 {l : Launch} {ε : gEnv} (hl0 : l.stackTraces = false) (hX : gXw ε) {R : Room} {T : gTT} {Z : gZZ} {k0 n0 K ka kb : Nat} (hT : gTok T) (hR : gRm R k0 n0 K 155 6121) (hk : ka + 4 ≤ kb) (hb : kb ≤ K) (M : gMem) (x1 : Int32) (x2 : Int32) (res : ((Int32 × Int32 × gMem) ⊕ (Int32 × Int32 × gMem))) (h : f_Law_few_s4 M x1 x2 = some res) (k1 : ∀ s0 : (Int32 × Int32 × gMem), res = .inl s0 → gGo l ε k_Law_few R (gFg T Z k0 n0 kb) 4 [(0, .ref (ε.2.2.1 18 0)), (1, .int s0.1), (2, .int s0.2.1)] [] s0.2.2) (k2 : ∀ s0 : (Int32 × Int32 × gMem), res = .inr s0 → gGo l ε k_Law_few R (gFg T Z k0 n0 kb) 62 [(0, .ref (ε.2.2.1 18 0)), (1, .int s0.1), (2, .int s0.2.1)] [] s0.2.2) : gGo l ε k_Law_few R (gFg T Z k0 n0 ka) 4 [(0, .ref (ε.2.2.1 18 0)), (1, .int x1), (2, .int x2)] [] M := by
  unfold f_Law_few_s4 at h
  refine g_iload_n d_Law_few_4 rfl 2 rfl ?_
  refine g_iconst (v := 4) d_Law_few_5 (by decide) ?_
  refine g_icmp_ge (tgt := 62) d_Law_few_6 (by decide) (fun c6 => ?_) (fun c6 => ?_)
  · rw [if_pos c6] at h
    obtain rfl := Option.some.inj h
    exact g_useK hR (gLe0 hk) hb (k2 (x1, x2, M) rfl)
  · rw [if_neg c6] at h
    refine g_aload_n d_Law_few_9 rfl 0 rfl ?_
    refine g_iconst (v := 4) d_Law_few_10 (by decide) ?_
    refine g_iload_n d_Law_few_11 rfl 2 rfl ?_
    refine g_iconst (v := 0) d_Law_few_12 (by decide) ?_
    refine g_iconst (v := 0) d_Law_few_13 (by decide) ?_
    obtain ⟨q1, hq1, h⟩ := gOb h
    refine g_callK (kb := (ka + 1)) (As := [.ref (ε.2.2.1 18 0), .int 4, .int x2, .int 0, .int 0]) (rest := []) hT hR (fun _ => ctk_Law_call hl0 hX M 4 x2 0 0 _ hq1) d_Law_few_14 ca_Law_call w_281 rfl rfl (Nat.le_of_ble_eq_true rfl) ⟨(Nat.le_of_ble_eq_true rfl), (Nat.le_of_ble_eq_true rfl)⟩ (Nat.le_refl _) (Nat.le_trans (gLe hk (Nat.le_of_ble_eq_true rfl)) hb) ?_
    refine g_aload_n d_Law_few_17 rfl 0 rfl ?_
    refine g_iconst (v := 4) d_Law_few_18 (by decide) ?_
    refine g_iload_n d_Law_few_19 rfl 2 rfl ?_
    refine g_iconst (v := 1) d_Law_few_20 (by decide) ?_
    refine g_iconst (v := 0) d_Law_few_21 (by decide) ?_
    obtain ⟨q2, hq2, h⟩ := gOb h
    refine g_callK (kb := (ka + 2)) (As := [.ref (ε.2.2.1 18 0), .int 4, .int x2, .int 1, .int 0]) (rest := [.int q1.1]) hT hR (fun _ => ctk_Law_call hl0 hX q1.2 4 x2 1 0 _ hq2) d_Law_few_22 ca_Law_call w_281 rfl rfl (Nat.le_of_ble_eq_true rfl) ⟨(Nat.le_of_ble_eq_true rfl), (Nat.le_of_ble_eq_true rfl)⟩ (Nat.le_refl _) (Nat.le_trans (gLe hk (Nat.le_of_ble_eq_true rfl)) hb) ?_
    refine g_iadd d_Law_few_25 ?_
    refine g_aload_n d_Law_few_26 rfl 0 rfl ?_
    refine g_iconst (v := 4) d_Law_few_27 (by decide) ?_
    refine g_iload_n d_Law_few_28 rfl 2 rfl ?_
    refine g_iconst (v := 2) d_Law_few_29 (by decide) ?_
    refine g_iconst (v := 0) d_Law_few_30 (by decide) ?_
    obtain ⟨q3, hq3, h⟩ := gOb h
    refine g_callK (kb := (ka + 3)) (As := [.ref (ε.2.2.1 18 0), .int 4, .int x2, .int 2, .int 0]) (rest := [.int (q1.1 + q2.1)]) hT hR (fun _ => ctk_Law_call hl0 hX q2.2 4 x2 2 0 _ hq3) d_Law_few_31 ca_Law_call w_281 rfl rfl (Nat.le_of_ble_eq_true rfl) ⟨(Nat.le_of_ble_eq_true rfl), (Nat.le_of_ble_eq_true rfl)⟩ (Nat.le_refl _) (Nat.le_trans (gLe hk (Nat.le_of_ble_eq_true rfl)) hb) ?_
    refine g_iadd d_Law_few_34 ?_
    refine g_aload_n d_Law_few_35 rfl 0 rfl ?_
    refine g_iconst (v := 4) d_Law_few_36 (by decide) ?_
    refine g_iload_n d_Law_few_37 rfl 2 rfl ?_
    refine g_iconst (v := 3) d_Law_few_38 (by decide) ?_
    refine g_iconst (v := 0) d_Law_few_39 (by decide) ?_
    obtain ⟨q4, hq4, h⟩ := gOb h
    refine g_callK (kb := (ka + 4)) (As := [.ref (ε.2.2.1 18 0), .int 4, .int x2, .int 3, .int 0]) (rest := [.int ((q1.1 + q2.1) + q3.1)]) hT hR (fun _ => ctk_Law_call hl0 hX q3.2 4 x2 3 0 _ hq4) d_Law_few_40 ca_Law_call w_281 rfl rfl (Nat.le_of_ble_eq_true rfl) ⟨(Nat.le_of_ble_eq_true rfl), (Nat.le_of_ble_eq_true rfl)⟩ (Nat.le_refl _) (Nat.le_trans (gLe hk (Nat.le_of_ble_eq_true rfl)) hb) ?_
    refine g_iadd d_Law_few_43 ?_
    refine g_istore_n (L' := [(3, .int (((q1.1 + q2.1) + q3.1) + q4.1)), (0, .ref (ε.2.2.1 18 0)), (1, .int x1), (2, .int x2)]) d_Law_few_44 rfl (by decide) rfl ?_
    refine g_iload_n d_Law_few_45 rfl 0 rfl ?_
    refine g_iload_n d_Law_few_46 rfl 2 rfl ?_
    refine g_icmp_le (tgt := 54) d_Law_few_47 (by decide) (fun c5 => ?_) (fun c5 => ?_)
    · rw [if_pos c5] at h
      refine g_iload_n d_Law_few_54 rfl 2 rfl ?_
      refine gGo_sub [1, 3] rfl ?_
      exact t_Law_few_b55_4 hl0 hX hT hR (gLe2 hk (Nat.le_of_ble_eq_true rfl)) hb q4.2 x2 x1 _ h k1 k2
    · rw [if_neg c5] at h
      refine g_iload_n d_Law_few_50 rfl 0 rfl ?_
      refine g_goto (tgt := 55) d_Law_few_51 (by decide) ?_
      refine gGo_sub [1, 3] rfl ?_
      exact t_Law_few_b55_4 hl0 hX hT hR (gLe2 hk (Nat.le_of_ble_eq_true rfl)) hb q4.2 x2 (((q1.1 + q2.1) + q3.1) + q4.1) _ h k1 k2
noncomputable def f_Law_few_l4 (j : Nat) (s : (Int32 × Int32 × gMem)) : Option (Int32 × Int32 × gMem) := gIt (fun s => f_Law_few_s4 s.2.2 s.1 s.2.1) j s
theorem t_Law_few_l4 {l : Launch} {ε : gEnv} (hl0 : l.stackTraces = false) (hX : gXw ε) {R : Room} {T : gTT} {Z : gZZ} {k0 n0 K : Nat} (hT : gTok T) (hR : gRm R k0 n0 K 155 6121) : ∀ (j : Nat) (s s' : (Int32 × Int32 × gMem)) (ka : Nat), f_Law_few_l4 j s = some s' → ka + 4 * j ≤ K → gGo l ε k_Law_few R (gFg T Z k0 n0 (ka + 4 * j)) 62 [(0, .ref (ε.2.2.1 18 0)), (1, .int s'.1), (2, .int s'.2.1)] [] s'.2.2 → gGo l ε k_Law_few R (gFg T Z k0 n0 ka) 4 [(0, .ref (ε.2.2.1 18 0)), (1, .int s.1), (2, .int s.2.1)] [] s.2.2 := by
  intro j
  induction j with
  | zero => intro s s' ka h; cases h
  | succ j ih =>
    intro s s' ka h hk kk
    rcases gIt_s h with ⟨s1, h1, h2⟩ | h1
    · refine t_Law_few_s4 (kb := ka + 4) hl0 hX hT hR (Nat.le_refl _) (by omega) s.2.2 s.1 s.2.1 (.inl s1) h1 (fun s0 e => ?_) (fun s0 e => nomatch e)
      cases e
      refine ih s1 s' (ka + 4) h2 (by omega) ?_
      rw [show ka + 4 + 4 * j = ka + 4 * (j + 1) by omega]
      exact kk
    · refine t_Law_few_s4 (kb := ka + 4) hl0 hX hT hR (Nat.le_refl _) (by omega) s.2.2 s.1 s.2.1 (.inr s') h1 (fun s0 e => nomatch e) (fun s0 e => ?_)
      cases e
      exact g_useK hR (by omega) hk kk
noncomputable def f_Law_few (M : gMem) : Option (Int32 × gMem) :=
  (f_Law_few_l4 5 (0, 0, M)).bind fun q7 =>
  some (q7.1, q7.2.2)
theorem t_Law_few {l : Launch} {ε : gEnv} (hl0 : l.stackTraces = false) (hX : gXw ε) {R : Room} {K ka : Nat} (hR : gRm R 0 0 K 155 6121) (hk : ka + 20 ≤ K) (M : gMem) (r : Int32 × gMem) (h : f_Law_few M = some r) : gGo l ε k_Law_few R (gFk ε K (some (.int r.1)) r.2 ka) 0 [(0, .ref (ε.2.2.1 18 0))] [] M := by
  unfold f_Law_few at h
  refine g_iconst (v := 0) d_Law_few_0 (by decide) ?_
  refine g_istore_n (L' := [(1, .int 0), (0, .ref (ε.2.2.1 18 0))]) d_Law_few_1 rfl (by decide) rfl ?_
  refine g_iconst (v := 0) d_Law_few_2 (by decide) ?_
  refine g_istore_n (L' := [(2, .int 0), (1, .int 0), (0, .ref (ε.2.2.1 18 0))]) d_Law_few_3 rfl (by decide) rfl ?_
  obtain ⟨q7, hq7, h⟩ := gOb h
  refine gGo_sub [2, 1, 0] rfl ?_
  refine t_Law_few_l4 hl0 hX gTk_ok hR 5 (0, 0, M) q7 ka hq7 (by omega) ?_
  refine g_useK hR (kb := (ka + 20)) (by omega) (gLe hk (Nat.le_of_ble_eq_true rfl)) ?_
  refine g_iload_n d_Law_few_62 rfl 1 rfl ?_
  obtain rfl := Option.some.inj h
  exact g_iretK hR d_Law_few_63 rfl (gLe hk (Nat.le_of_ble_eq_true rfl))
theorem ctk_Law_few {l : Launch} {ε : gEnv} (hl0 : l.stackTraces = false) (hX : gXw ε) (M : gMem) (r : Int32 × gMem) (h : f_Law_few M = some r) : gCtK l ε k_Law_few 155 6121 20 [.ref (ε.2.2.1 18 0)] M (some (.int r.1)) r.2 :=
  gCtK_of hl0 (by decide) (Nat.le_of_ble_eq_true rfl) rfl (t_Law_few hl0 hX (gRm_K _ _ _) (Nat.le_of_eq (Nat.zero_add _)) M r h)
theorem ctkq_Law_few {l : Launch} {ε : gEnv} (hl0 : l.stackTraces = false) (hY : gXw (swE ε)) (M : gMem) (q : Int32 × gMem) (h : onQ (fun M => f_Law_few M) M = some q) : gCtK l ε k_Law_few 155 6121 20 [.ref (ε.2.2.1 38 0)] M (some (.int q.1)) q.2 :=
  gCtK_sw (ctk_Law_few hl0 hY (swM M) (q.1, swM q.2) (onQ_s h))
