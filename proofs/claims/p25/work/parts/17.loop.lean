theorem d_Law_law_0 : decode code 0 = .ok (.new 8, 3) := by decide +kernel
theorem d_Law_law_3 : decode code 3 = .ok (.dup, 1) := by decide +kernel
theorem d_Law_law_4 : decode code 4 = .ok (.invokespecial 159, 3) := by decide +kernel
theorem d_Law_law_7 : decode code 7 = .ok (.astore_n 1, 1) := by decide +kernel
theorem d_Law_law_8 : decode code 8 = .ok (.new 8, 3) := by decide +kernel
theorem d_Law_law_11 : decode code 11 = .ok (.dup, 1) := by decide +kernel
theorem d_Law_law_12 : decode code 12 = .ok (.invokespecial 159, 3) := by decide +kernel
theorem d_Law_law_15 : decode code 15 = .ok (.astore_n 2, 1) := by decide +kernel
theorem d_Law_law_16 : decode code 16 = .ok (.bipush 16, 2) := by decide +kernel
theorem d_Law_law_18 : decode code 18 = .ok (.aload_n 0, 1) := by decide +kernel
theorem d_Law_law_19 : decode code 19 = .ok (.iconst 0, 1) := by decide +kernel
theorem d_Law_law_20 : decode code 20 = .ok (.invokestatic 160, 3) := by decide +kernel
theorem d_Law_law_23 : decode code 23 = .ok (.bipush 29, 2) := by decide +kernel
theorem d_Law_law_25 : decode code 25 = .ok (.irem, 1) := by decide +kernel
theorem d_Law_law_26 : decode code 26 = .ok (.iadd, 1) := by decide +kernel
theorem d_Law_law_27 : decode code 27 = .ok (.istore_n 3, 1) := by decide +kernel
theorem d_Law_law_28 : decode code 28 = .ok (.iconst 1, 1) := by decide +kernel
theorem d_Law_law_29 : decode code 29 = .ok (.istore 4, 2) := by decide +kernel
theorem d_Law_law_31 : decode code 31 = .ok (.iconst 0, 1) := by decide +kernel
theorem d_Law_law_32 : decode code 32 = .ok (.istore 5, 2) := by decide +kernel
theorem d_Law_law_34 : decode code 34 = .ok (.iload 5, 2) := by decide +kernel
theorem d_Law_law_36 : decode code 36 = .ok (.iload_n 3, 1) := by decide +kernel
theorem d_Law_law_37 : decode code 37 = .ok (.if_icmp .ge 138, 3) := by decide +kernel
theorem d_Law_law_40 : decode code 40 = .ok (.iload 4, 2) := by decide +kernel
theorem d_Law_law_42 : decode code 42 = .ok (.ifCond .eq 133, 3) := by decide +kernel
theorem d_Law_law_45 : decode code 45 = .ok (.aload_n 0, 1) := by decide +kernel
theorem d_Law_law_46 : decode code 46 = .ok (.iconst 1, 1) := by decide +kernel
theorem d_Law_law_47 : decode code 47 = .ok (.iload 5, 2) := by decide +kernel
theorem d_Law_law_49 : decode code 49 = .ok (.iadd, 1) := by decide +kernel
theorem d_Law_law_50 : decode code 50 = .ok (.invokestatic 160, 3) := by decide +kernel
theorem d_Law_law_53 : decode code 53 = .ok (.istore 6, 2) := by decide +kernel
theorem d_Law_law_55 : decode code 55 = .ok (.aload_n 1, 1) := by decide +kernel
theorem d_Law_law_56 : decode code 56 = .ok (.iload 6, 2) := by decide +kernel
theorem d_Law_law_58 : decode code 58 = .ok (.invokestatic 164, 3) := by decide +kernel
theorem d_Law_law_61 : decode code 61 = .ok (.istore 7, 2) := by decide +kernel
theorem d_Law_law_63 : decode code 63 = .ok (.aload_n 2, 1) := by decide +kernel
theorem d_Law_law_64 : decode code 64 = .ok (.iload 6, 2) := by decide +kernel
theorem d_Law_law_66 : decode code 66 = .ok (.ldc 167, 2) := by decide +kernel
theorem d_Law_law_68 : decode code 68 = .ok (.irem, 1) := by decide +kernel
theorem d_Law_law_69 : decode code 69 = .ok (.invokestatic 168, 3) := by decide +kernel
theorem d_Law_law_72 : decode code 72 = .ok (.ifCond .eq 94, 3) := by decide +kernel
theorem d_Law_law_75 : decode code 75 = .ok (.aload_n 2, 1) := by decide +kernel
theorem d_Law_law_76 : decode code 76 = .ok (.iload 6, 2) := by decide +kernel
theorem d_Law_law_78 : decode code 78 = .ok (.invokestatic 164, 3) := by decide +kernel
theorem d_Law_law_81 : decode code 81 = .ok (.iload 7, 2) := by decide +kernel
theorem d_Law_law_83 : decode code 83 = .ok (.if_icmp .ne 83, 3) := by decide +kernel
theorem d_Law_law_86 : decode code 86 = .ok (.aload_n 2, 1) := by decide +kernel
theorem d_Law_law_87 : decode code 87 = .ok (.iload 6, 2) := by decide +kernel
theorem d_Law_law_89 : decode code 89 = .ok (.sipush 1000, 3) := by decide +kernel
theorem d_Law_law_92 : decode code 92 = .ok (.irem, 1) := by decide +kernel
theorem d_Law_law_93 : decode code 93 = .ok (.invokestatic 168, 3) := by decide +kernel
theorem d_Law_law_96 : decode code 96 = .ok (.ifCond .eq 70, 3) := by decide +kernel
theorem d_Law_law_99 : decode code 99 = .ok (.aload_n 1, 1) := by decide +kernel
theorem d_Law_law_100 : decode code 100 = .ok (.aload_n 2, 1) := by decide +kernel
theorem d_Law_law_101 : decode code 101 = .ok (.iload 6, 2) := by decide +kernel
theorem d_Law_law_103 : decode code 103 = .ok (.sipush 5000, 3) := by decide +kernel
theorem d_Law_law_106 : decode code 106 = .ok (.irem, 1) := by decide +kernel
theorem d_Law_law_107 : decode code 107 = .ok (.invokestatic 172, 3) := by decide +kernel
theorem d_Law_law_110 : decode code 110 = .ok (.ifCond .eq 56, 3) := by decide +kernel
theorem d_Law_law_113 : decode code 113 = .ok (.iload 5, 2) := by decide +kernel
theorem d_Law_law_115 : decode code 115 = .ok (.iconst 2, 1) := by decide +kernel
theorem d_Law_law_116 : decode code 116 = .ok (.irem, 1) := by decide +kernel
theorem d_Law_law_117 : decode code 117 = .ok (.ifCond .ne 13, 3) := by decide +kernel
theorem d_Law_law_120 : decode code 120 = .ok (.aload_n 1, 1) := by decide +kernel
theorem d_Law_law_121 : decode code 121 = .ok (.invokestatic 176, 3) := by decide +kernel
theorem d_Law_law_124 : decode code 124 = .ok (.ifCond .eq 42, 3) := by decide +kernel
theorem d_Law_law_127 : decode code 127 = .ok (.goto 10, 3) := by decide +kernel
theorem d_Law_law_130 : decode code 130 = .ok (.aload_n 2, 1) := by decide +kernel
theorem d_Law_law_131 : decode code 131 = .ok (.invokestatic 176, 3) := by decide +kernel
theorem d_Law_law_134 : decode code 134 = .ok (.ifCond .eq 32, 3) := by decide +kernel
theorem d_Law_law_137 : decode code 137 = .ok (.aload_n 1, 1) := by decide +kernel
theorem d_Law_law_138 : decode code 138 = .ok (.iload 6, 2) := by decide +kernel
theorem d_Law_law_140 : decode code 140 = .ok (.bipush 7, 2) := by decide +kernel
theorem d_Law_law_142 : decode code 142 = .ok (.idiv, 1) := by decide +kernel
theorem d_Law_law_143 : decode code 143 = .ok (.invokestatic 180, 3) := by decide +kernel
theorem d_Law_law_146 : decode code 146 = .ok (.ifCond .eq 20, 3) := by decide +kernel
theorem d_Law_law_149 : decode code 149 = .ok (.aload_n 1, 1) := by decide +kernel
theorem d_Law_law_150 : decode code 150 = .ok (.aload_n 2, 1) := by decide +kernel
theorem d_Law_law_151 : decode code 151 = .ok (.iload 6, 2) := by decide +kernel
theorem d_Law_law_153 : decode code 153 = .ok (.bipush 11, 2) := by decide +kernel
theorem d_Law_law_155 : decode code 155 = .ok (.idiv, 1) := by decide +kernel
theorem d_Law_law_156 : decode code 156 = .ok (.invokestatic 183, 3) := by decide +kernel
theorem d_Law_law_159 : decode code 159 = .ok (.ifCond .eq 7, 3) := by decide +kernel
theorem d_Law_law_162 : decode code 162 = .ok (.iconst 1, 1) := by decide +kernel
theorem d_Law_law_163 : decode code 163 = .ok (.goto 4, 3) := by decide +kernel
theorem d_Law_law_166 : decode code 166 = .ok (.iconst 0, 1) := by decide +kernel
theorem d_Law_law_167 : decode code 167 = .ok (.istore 4, 2) := by decide +kernel
theorem d_Law_law_169 : decode code 169 = .ok (.iinc 5 1, 3) := by decide +kernel
theorem d_Law_law_172 : decode code 172 = .ok (.goto (-138), 3) := by decide +kernel
theorem d_Law_law_175 : decode code 175 = .ok (.iload 4, 2) := by decide +kernel
theorem d_Law_law_177 : decode code 177 = .ok (.ireturn, 1) := by decide +kernel
theorem w_273 : Cond.methodLink "DropSignalsLaw" 160 ⟨"DropSignalsLaw", "cell", "([II)I"⟩ ∈ gWs := gWs_in (i := 273) (by decide +kernel) rfl
theorem w_947 : Cond.methodLink "DropSignalsLaw" 164 ⟨"DropSignalsLaw", "act", "(LDropSignals;I)I"⟩ ∈ gWs := gWs_in (i := 947) (by decide +kernel) rfl
theorem w_971 : Cond.constant "DropSignalsLaw" 167 100000 ∈ gWs := gWs_in (i := 971) (by decide +kernel) rfl
theorem w_278 : Cond.methodLink "DropSignalsLaw" 168 ⟨"DropSignalsLaw", "refuses", "(LDropSignals;I)Z"⟩ ∈ gWs := gWs_in (i := 278) (by decide +kernel) rfl
theorem w_956 : Cond.methodLink "DropSignalsLaw" 172 ⟨"DropSignalsLaw", "alike", "(LDropSignals;LDropSignals;I)Z"⟩ ∈ gWs := gWs_in (i := 956) (by decide +kernel) rfl
theorem w_944 : Cond.methodLink "DropSignalsLaw" 176 ⟨"DropSignalsLaw", "holds", "(LDropSignals;)Z"⟩ ∈ gWs := gWs_in (i := 944) (by decide +kernel) rfl
theorem w_959 : Cond.methodLink "DropSignalsLaw" 180 ⟨"DropSignalsLaw", "seen", "(LDropSignals;I)Z"⟩ ∈ gWs := gWs_in (i := 959) (by decide +kernel) rfl
theorem w_962 : Cond.methodLink "DropSignalsLaw" 183 ⟨"DropSignalsLaw", "best", "(LDropSignals;LDropSignals;I)Z"⟩ ∈ gWs := gWs_in (i := 962) (by decide +kernel) rfl
noncomputable def f_Law_law_b167_34 (Ls : Nat) (xs : Nat → Int32) (M : gMem) (x3 : Int32) (x5 : Int32) (s0 : Int32) : Option ((Int32 × Int32 × gMem) ⊕ (Int32 × Int32 × gMem)) :=
  some (.inl (s0, (x5 + 1), M))
theorem t_Law_law_b167_34 {l : Launch} {ε : gEnv} (hl0 : l.stackTraces = false) (hX : gXw ε) (hY : gXw (swE ε)) {b : Nat} (Ls : Nat) (xs : Nat → Int32) {R : Room} {T : gTT} {Z : gZZ} {k0 n0 K ka kb : Nat} (hT : gTok T) (hTX : gTokX T b Ls xs) (hR : gRm R k0 n0 K 157 6179) (hk : ka + 0 ≤ kb) (hb : kb ≤ K) (M : gMem) (x3 : Int32) (x5 : Int32) (s0 : Int32) (res : ((Int32 × Int32 × gMem) ⊕ (Int32 × Int32 × gMem))) (h : f_Law_law_b167_34 Ls xs M x3 x5 s0 = some res) (k1 : ∀ s0 : (Int32 × Int32 × gMem), res = .inl s0 → gGo l ε k_law R (gFg T Z k0 n0 kb) 34 [(0, .ref b), (1, .ref (ε.2.2.1 18 0)), (2, .ref (ε.2.2.1 38 0)), (3, .int x3), (4, .int s0.1), (5, .int s0.2.1)] [] s0.2.2) (k2 : ∀ s0 : (Int32 × Int32 × gMem), res = .inr s0 → gGo l ε k_law R (gFg T Z k0 n0 kb) 175 [(0, .ref b), (1, .ref (ε.2.2.1 18 0)), (2, .ref (ε.2.2.1 38 0)), (3, .int x3), (4, .int s0.1), (5, .int s0.2.1)] [] s0.2.2) : gGo l ε k_law R (gFg T Z k0 n0 ka) 167 [(0, .ref b), (1, .ref (ε.2.2.1 18 0)), (2, .ref (ε.2.2.1 38 0)), (3, .int x3), (5, .int x5)] [.int s0] M := by
  unfold f_Law_law_b167_34 at h
  refine g_istore (L' := [(4, .int s0), (0, .ref b), (1, .ref (ε.2.2.1 18 0)), (2, .ref (ε.2.2.1 38 0)), (3, .int x3), (5, .int x5)]) d_Law_law_167 (by decide) rfl ?_
  refine g_iinc (v := (x5 + 1)) (L' := [(5, .int (x5 + 1)), (4, .int s0), (0, .ref b), (1, .ref (ε.2.2.1 18 0)), (2, .ref (ε.2.2.1 38 0)), (3, .int x3)]) d_Law_law_169 (j := 5) rfl rfl (by decide) rfl ?_
  refine g_goto (tgt := 34) d_Law_law_172 (by decide) ?_
  refine gGo_sub [2, 3, 4, 5, 1, 0] rfl ?_
  obtain rfl := Option.some.inj h
  exact g_useK hR (gLe0 hk) hb (k1 (s0, (x5 + 1), M) rfl)
noncomputable def f_Law_law_b166_34 (Ls : Nat) (xs : Nat → Int32) (M : gMem) (x3 : Int32) (x5 : Int32) : Option ((Int32 × Int32 × gMem) ⊕ (Int32 × Int32 × gMem)) :=
  f_Law_law_b167_34 Ls xs M x3 x5 0
theorem t_Law_law_b166_34 {l : Launch} {ε : gEnv} (hl0 : l.stackTraces = false) (hX : gXw ε) (hY : gXw (swE ε)) {b : Nat} (Ls : Nat) (xs : Nat → Int32) {R : Room} {T : gTT} {Z : gZZ} {k0 n0 K ka kb : Nat} (hT : gTok T) (hTX : gTokX T b Ls xs) (hR : gRm R k0 n0 K 157 6179) (hk : ka + 0 ≤ kb) (hb : kb ≤ K) (M : gMem) (x3 : Int32) (x5 : Int32) (res : ((Int32 × Int32 × gMem) ⊕ (Int32 × Int32 × gMem))) (h : f_Law_law_b166_34 Ls xs M x3 x5 = some res) (k1 : ∀ s0 : (Int32 × Int32 × gMem), res = .inl s0 → gGo l ε k_law R (gFg T Z k0 n0 kb) 34 [(0, .ref b), (1, .ref (ε.2.2.1 18 0)), (2, .ref (ε.2.2.1 38 0)), (3, .int x3), (4, .int s0.1), (5, .int s0.2.1)] [] s0.2.2) (k2 : ∀ s0 : (Int32 × Int32 × gMem), res = .inr s0 → gGo l ε k_law R (gFg T Z k0 n0 kb) 175 [(0, .ref b), (1, .ref (ε.2.2.1 18 0)), (2, .ref (ε.2.2.1 38 0)), (3, .int x3), (4, .int s0.1), (5, .int s0.2.1)] [] s0.2.2) : gGo l ε k_law R (gFg T Z k0 n0 ka) 166 [(0, .ref b), (1, .ref (ε.2.2.1 18 0)), (2, .ref (ε.2.2.1 38 0)), (3, .int x3), (5, .int x5)] [] M := by
  unfold f_Law_law_b166_34 at h
  refine g_iconst (v := 0) d_Law_law_166 (by decide) ?_
  exact t_Law_law_b167_34 hl0 hX hY Ls xs hT hTX hR (gLe hk (Nat.le_of_ble_eq_true rfl)) hb M x3 x5 0 _ h k1 k2
noncomputable def f_Law_law_b137_34 (Ls : Nat) (xs : Nat → Int32) (M : gMem) (x3 : Int32) (x5 : Int32) (x6 : Int32) : Option ((Int32 × Int32 × gMem) ⊕ (Int32 × Int32 × gMem)) :=
  (f_Law_seen M (x6 / 7)).bind fun q8 =>
  if q8.1 = 0 then
    f_Law_law_b166_34 Ls xs q8.2 x3 x5
  else
    (f_Law_best q8.2 (x6 / 11)).bind fun q9 =>
    if q9.1 = 0 then
      f_Law_law_b166_34 Ls xs q9.2 x3 x5
    else
      f_Law_law_b167_34 Ls xs q9.2 x3 x5 1
theorem t_Law_law_b137_34 {l : Launch} {ε : gEnv} (hl0 : l.stackTraces = false) (hX : gXw ε) (hY : gXw (swE ε)) {b : Nat} (Ls : Nat) (xs : Nat → Int32) {R : Room} {T : gTT} {Z : gZZ} {k0 n0 K ka kb : Nat} (hT : gTok T) (hTX : gTokX T b Ls xs) (hR : gRm R k0 n0 K 157 6179) (hk : ka + 345 ≤ kb) (hb : kb ≤ K) (M : gMem) (x3 : Int32) (x5 : Int32) (x6 : Int32) (res : ((Int32 × Int32 × gMem) ⊕ (Int32 × Int32 × gMem))) (h : f_Law_law_b137_34 Ls xs M x3 x5 x6 = some res) (k1 : ∀ s0 : (Int32 × Int32 × gMem), res = .inl s0 → gGo l ε k_law R (gFg T Z k0 n0 kb) 34 [(0, .ref b), (1, .ref (ε.2.2.1 18 0)), (2, .ref (ε.2.2.1 38 0)), (3, .int x3), (4, .int s0.1), (5, .int s0.2.1)] [] s0.2.2) (k2 : ∀ s0 : (Int32 × Int32 × gMem), res = .inr s0 → gGo l ε k_law R (gFg T Z k0 n0 kb) 175 [(0, .ref b), (1, .ref (ε.2.2.1 18 0)), (2, .ref (ε.2.2.1 38 0)), (3, .int x3), (4, .int s0.1), (5, .int s0.2.1)] [] s0.2.2) : gGo l ε k_law R (gFg T Z k0 n0 ka) 137 [(0, .ref b), (1, .ref (ε.2.2.1 18 0)), (2, .ref (ε.2.2.1 38 0)), (3, .int x3), (5, .int x5), (6, .int x6)] [] M := by
  unfold f_Law_law_b137_34 at h
  refine g_aload_n d_Law_law_137 rfl 1 rfl ?_
  refine g_iload d_Law_law_138 5 rfl ?_
  refine g_bipush (v := 7) d_Law_law_140 (by decide) ?_
  refine g_idiv d_Law_law_142 (by decide) ?_
  obtain ⟨q8, hq8, h⟩ := gOb h
  refine g_callK (kb := (ka + 151)) (As := [.ref (ε.2.2.1 18 0), .int (x6 / 7)]) (rest := []) hT hR (fun _ => ctk_Law_seen hl0 hX M (x6 / 7) _ hq8) d_Law_law_143 ca_Law_seen w_959 rfl rfl (Nat.le_of_ble_eq_true rfl) ⟨(Nat.le_of_ble_eq_true rfl), (Nat.le_of_ble_eq_true rfl)⟩ (Nat.le_refl _) (Nat.le_trans (gLe hk (Nat.le_of_ble_eq_true rfl)) hb) ?_
  refine g_if_eq (tgt := 166) d_Law_law_146 (by decide) (fun c11 => ?_) (fun c11 => ?_)
  · rw [if_pos c11] at h
    refine gGo_sub [0, 1, 2, 3, 4] rfl ?_
    exact t_Law_law_b166_34 hl0 hX hY Ls xs hT hTX hR (gLe2 hk (Nat.le_of_ble_eq_true rfl)) hb q8.2 x3 x5 _ h k1 k2
  · rw [if_neg c11] at h
    refine g_aload_n d_Law_law_149 rfl 1 rfl ?_
    refine g_aload_n d_Law_law_150 rfl 2 rfl ?_
    refine g_iload d_Law_law_151 5 rfl ?_
    refine g_bipush (v := 11) d_Law_law_153 (by decide) ?_
    refine g_idiv d_Law_law_155 (by decide) ?_
    obtain ⟨q9, hq9, h⟩ := gOb h
    refine g_callK (kb := (ka + 345)) (As := [.ref (ε.2.2.1 18 0), .ref (ε.2.2.1 38 0), .int (x6 / 11)]) (rest := []) hT hR (fun _ => ctk_Law_best hl0 hX hY q8.2 (x6 / 11) _ hq9) d_Law_law_156 ca_Law_best w_962 rfl rfl (Nat.le_of_ble_eq_true rfl) ⟨(Nat.le_of_ble_eq_true rfl), (Nat.le_of_ble_eq_true rfl)⟩ (Nat.le_refl _) (Nat.le_trans (gLe hk (Nat.le_of_ble_eq_true rfl)) hb) ?_
    refine g_if_eq (tgt := 166) d_Law_law_159 (by decide) (fun c10 => ?_) (fun c10 => ?_)
    · rw [if_pos c10] at h
      refine gGo_sub [0, 1, 2, 3, 4] rfl ?_
      exact t_Law_law_b166_34 hl0 hX hY Ls xs hT hTX hR (gLe2 hk (Nat.le_of_ble_eq_true rfl)) hb q9.2 x3 x5 _ h k1 k2
    · rw [if_neg c10] at h
      refine g_iconst (v := 1) d_Law_law_162 (by decide) ?_
      refine g_goto (tgt := 167) d_Law_law_163 (by decide) ?_
      refine gGo_sub [0, 1, 2, 3, 4] rfl ?_
      exact t_Law_law_b167_34 hl0 hX hY Ls xs hT hTX hR (gLe2 hk (Nat.le_of_ble_eq_true rfl)) hb q9.2 x3 x5 1 _ h k1 k2
noncomputable def f_Law_law_s34 (Ls : Nat) (xs : Nat → Int32) (M : gMem) (x3 : Int32) (x4 : Int32) (x5 : Int32) : Option ((Int32 × Int32 × gMem) ⊕ (Int32 × Int32 × gMem)) :=
  if x3 ≤ x5 then
    some (.inr (x4, x5, M))
  else
    if x4 = 0 then
      some (.inr (x4, x5, M))
    else
      (f_Law_cell Ls xs (1 + x5)).bind fun q1 =>
      (f_Law_act M q1).bind fun q2 =>
      (onQ (fun M => f_Law_refuses M (gRem q1 100000)) q2.2).bind fun q3 =>
      if q3.1 = 0 then
        f_Law_law_b166_34 Ls xs q3.2 x3 x5
      else
        (onQ (fun M => f_Law_act M q1) q3.2).bind fun q4 =>
        if q4.1 = q2.1 then
          (onQ (fun M => f_Law_refuses M (gRem q1 1000)) q4.2).bind fun q5 =>
          if q5.1 = 0 then
            f_Law_law_b166_34 Ls xs q5.2 x3 x5
          else
            (f_Law_alike q5.2 (gRem q1 5000)).bind fun q6 =>
            if q6.1 = 0 then
              f_Law_law_b166_34 Ls xs q6.2 x3 x5
            else
              if (gRem x5 2) = 0 then
                (f_Law_holds q6.2).bind fun q13 =>
                if q13.1 = 0 then
                  f_Law_law_b166_34 Ls xs q13.2 x3 x5
                else
                  f_Law_law_b137_34 Ls xs q13.2 x3 x5 q1
              else
                (onQ (fun M => f_Law_holds M) q6.2).bind fun q7 =>
                if q7.1 = 0 then
                  f_Law_law_b166_34 Ls xs q7.2 x3 x5
                else
                  f_Law_law_b137_34 Ls xs q7.2 x3 x5 q1
        else
          f_Law_law_b166_34 Ls xs q4.2 x3 x5
theorem t_Law_law_s34 {l : Launch} {ε : gEnv} (hl0 : l.stackTraces = false) (hX : gXw ε) (hY : gXw (swE ε)) {b : Nat} (Ls : Nat) (xs : Nat → Int32) {R : Room} {T : gTT} {Z : gZZ} {k0 n0 K ka kb : Nat} (hT : gTok T) (hTX : gTokX T b Ls xs) (hR : gRm R k0 n0 K 157 6179) (hk : ka + 996 ≤ kb) (hb : kb ≤ K) (M : gMem) (x3 : Int32) (x4 : Int32) (x5 : Int32) (res : ((Int32 × Int32 × gMem) ⊕ (Int32 × Int32 × gMem))) (h : f_Law_law_s34 Ls xs M x3 x4 x5 = some res) (k1 : ∀ s0 : (Int32 × Int32 × gMem), res = .inl s0 → gGo l ε k_law R (gFg T Z k0 n0 kb) 34 [(0, .ref b), (1, .ref (ε.2.2.1 18 0)), (2, .ref (ε.2.2.1 38 0)), (3, .int x3), (4, .int s0.1), (5, .int s0.2.1)] [] s0.2.2) (k2 : ∀ s0 : (Int32 × Int32 × gMem), res = .inr s0 → gGo l ε k_law R (gFg T Z k0 n0 kb) 175 [(0, .ref b), (1, .ref (ε.2.2.1 18 0)), (2, .ref (ε.2.2.1 38 0)), (3, .int x3), (4, .int s0.1), (5, .int s0.2.1)] [] s0.2.2) : gGo l ε k_law R (gFg T Z k0 n0 ka) 34 [(0, .ref b), (1, .ref (ε.2.2.1 18 0)), (2, .ref (ε.2.2.1 38 0)), (3, .int x3), (4, .int x4), (5, .int x5)] [] M := by
  unfold f_Law_law_s34 at h
  refine g_iload d_Law_law_34 5 rfl ?_
  refine g_iload_n d_Law_law_36 rfl 3 rfl ?_
  refine g_icmp_ge (tgt := 175) d_Law_law_37 (by decide) (fun c21 => ?_) (fun c21 => ?_)
  · rw [if_pos c21] at h
    obtain rfl := Option.some.inj h
    exact g_useK hR (gLe0 hk) hb (k2 (x4, x5, M) rfl)
  · rw [if_neg c21] at h
    refine g_iload d_Law_law_40 4 rfl ?_
    refine g_if_eq (tgt := 175) d_Law_law_42 (by decide) (fun c20 => ?_) (fun c20 => ?_)
    · rw [if_pos c20] at h
      obtain rfl := Option.some.inj h
      exact g_useK hR (gLe0 hk) hb (k2 (x4, x5, M) rfl)
    · rw [if_neg c20] at h
      refine g_aload_n d_Law_law_45 rfl 0 rfl ?_
      refine g_iconst (v := 1) d_Law_law_46 (by decide) ?_
      refine g_iload d_Law_law_47 5 rfl ?_
      refine g_iadd d_Law_law_49 ?_
      obtain ⟨q1, hq1, h⟩ := gOb h
      refine g_callCell (As := [.ref b, .int (1 + x5)]) (rest := []) hT hTX (ct_Law_cell (1 + x5) _ hq1) d_Law_law_50 ca_Law_cell w_273 rfl rfl (Nat.le_of_ble_eq_true rfl) ⟨Nat.le_trans (Nat.le_of_ble_eq_true rfl) hR.2.2.1, Nat.le_trans (Nat.le_of_ble_eq_true rfl) hR.2.2.2⟩ ?_
      refine g_istore (L' := [(6, .int q1), (0, .ref b), (1, .ref (ε.2.2.1 18 0)), (2, .ref (ε.2.2.1 38 0)), (3, .int x3), (4, .int x4), (5, .int x5)]) d_Law_law_53 (by decide) rfl ?_
      refine g_aload_n d_Law_law_55 rfl 2 rfl ?_
      refine g_iload d_Law_law_56 0 rfl ?_
      obtain ⟨q2, hq2, h⟩ := gOb h
      refine g_callK (kb := (ka + 15)) (As := [.ref (ε.2.2.1 18 0), .int q1]) (rest := []) hT hR (fun _ => ctk_Law_act hl0 hX M q1 _ hq2) d_Law_law_58 ca_Law_act w_947 rfl rfl (Nat.le_of_ble_eq_true rfl) ⟨(Nat.le_of_ble_eq_true rfl), (Nat.le_of_ble_eq_true rfl)⟩ (Nat.le_refl _) (Nat.le_trans (gLe hk (Nat.le_of_ble_eq_true rfl)) hb) ?_
      refine g_istore (L' := [(7, .int q2.1), (6, .int q1), (0, .ref b), (1, .ref (ε.2.2.1 18 0)), (2, .ref (ε.2.2.1 38 0)), (3, .int x3), (4, .int x4), (5, .int x5)]) d_Law_law_61 (by decide) rfl ?_
      refine g_aload_n d_Law_law_63 rfl 4 rfl ?_
      refine g_iload d_Law_law_64 1 rfl ?_
      refine g_ldc d_Law_law_66 w_971 ?_
      refine g_rem d_Law_law_68 (by decide) ?_
      obtain ⟨q3, hq3, h⟩ := gOb h
      refine g_callK (kb := (ka + 45)) (As := [.ref (ε.2.2.1 38 0), .int (gRem q1 100000)]) (rest := []) hT hR (fun _ => ctkq_Law_refuses hl0 hY q2.2 (gRem q1 100000) _ hq3) d_Law_law_69 ca_Law_refuses w_278 rfl rfl (Nat.le_of_ble_eq_true rfl) ⟨(Nat.le_of_ble_eq_true rfl), (Nat.le_of_ble_eq_true rfl)⟩ (Nat.le_refl _) (Nat.le_trans (gLe hk (Nat.le_of_ble_eq_true rfl)) hb) ?_
      refine g_if_eq (tgt := 166) d_Law_law_72 (by decide) (fun c19 => ?_) (fun c19 => ?_)
      · rw [if_pos c19] at h
        refine gGo_sub [2, 3, 4, 5, 7] rfl ?_
        exact t_Law_law_b166_34 hl0 hX hY Ls xs hT hTX hR (gLe2 hk (Nat.le_of_ble_eq_true rfl)) hb q3.2 x3 x5 _ h k1 k2
      · rw [if_neg c19] at h
        refine g_aload_n d_Law_law_75 rfl 4 rfl ?_
        refine g_iload d_Law_law_76 1 rfl ?_
        obtain ⟨q4, hq4, h⟩ := gOb h
        refine g_callK (kb := (ka + 60)) (As := [.ref (ε.2.2.1 38 0), .int q1]) (rest := []) hT hR (fun _ => ctkq_Law_act hl0 hY q3.2 q1 _ hq4) d_Law_law_78 ca_Law_act w_947 rfl rfl (Nat.le_of_ble_eq_true rfl) ⟨(Nat.le_of_ble_eq_true rfl), (Nat.le_of_ble_eq_true rfl)⟩ (Nat.le_refl _) (Nat.le_trans (gLe hk (Nat.le_of_ble_eq_true rfl)) hb) ?_
        refine g_iload d_Law_law_81 0 rfl ?_
        refine g_icmp_ne (tgt := 166) d_Law_law_83 (by decide) (fun c18 => ?_) (fun c18 => ?_)
        · rw [if_neg c18] at h
          refine gGo_sub [2, 3, 4, 5, 7] rfl ?_
          exact t_Law_law_b166_34 hl0 hX hY Ls xs hT hTX hR (gLe2 hk (Nat.le_of_ble_eq_true rfl)) hb q4.2 x3 x5 _ h k1 k2
        · rw [if_pos c18] at h
          refine g_aload_n d_Law_law_86 rfl 4 rfl ?_
          refine g_iload d_Law_law_87 1 rfl ?_
          refine g_sipush (v := 1000) d_Law_law_89 (by decide) ?_
          refine g_rem d_Law_law_92 (by decide) ?_
          obtain ⟨q5, hq5, h⟩ := gOb h
          refine g_callK (kb := (ka + 90)) (As := [.ref (ε.2.2.1 38 0), .int (gRem q1 1000)]) (rest := []) hT hR (fun _ => ctkq_Law_refuses hl0 hY q4.2 (gRem q1 1000) _ hq5) d_Law_law_93 ca_Law_refuses w_278 rfl rfl (Nat.le_of_ble_eq_true rfl) ⟨(Nat.le_of_ble_eq_true rfl), (Nat.le_of_ble_eq_true rfl)⟩ (Nat.le_refl _) (Nat.le_trans (gLe hk (Nat.le_of_ble_eq_true rfl)) hb) ?_
          refine g_if_eq (tgt := 166) d_Law_law_96 (by decide) (fun c17 => ?_) (fun c17 => ?_)
          · rw [if_pos c17] at h
            refine gGo_sub [2, 3, 4, 5, 7] rfl ?_
            exact t_Law_law_b166_34 hl0 hX hY Ls xs hT hTX hR (gLe2 hk (Nat.le_of_ble_eq_true rfl)) hb q5.2 x3 x5 _ h k1 k2
          · rw [if_neg c17] at h
            refine g_aload_n d_Law_law_99 rfl 3 rfl ?_
            refine g_aload_n d_Law_law_100 rfl 4 rfl ?_
            refine g_iload d_Law_law_101 1 rfl ?_
            refine g_sipush (v := 5000) d_Law_law_103 (by decide) ?_
            refine g_rem d_Law_law_106 (by decide) ?_
            obtain ⟨q6, hq6, h⟩ := gOb h
            refine g_callK (kb := (ka + 356)) (As := [.ref (ε.2.2.1 18 0), .ref (ε.2.2.1 38 0), .int (gRem q1 5000)]) (rest := []) hT hR (fun _ => ctk_Law_alike hl0 hX hY q5.2 (gRem q1 5000) _ hq6) d_Law_law_107 ca_Law_alike w_956 rfl rfl (Nat.le_of_ble_eq_true rfl) ⟨(Nat.le_of_ble_eq_true rfl), (Nat.le_of_ble_eq_true rfl)⟩ (Nat.le_refl _) (Nat.le_trans (gLe hk (Nat.le_of_ble_eq_true rfl)) hb) ?_
            refine g_if_eq (tgt := 166) d_Law_law_110 (by decide) (fun c16 => ?_) (fun c16 => ?_)
            · rw [if_pos c16] at h
              refine gGo_sub [2, 3, 4, 5, 7] rfl ?_
              exact t_Law_law_b166_34 hl0 hX hY Ls xs hT hTX hR (gLe2 hk (Nat.le_of_ble_eq_true rfl)) hb q6.2 x3 x5 _ h k1 k2
            · rw [if_neg c16] at h
              refine g_iload d_Law_law_113 7 rfl ?_
              refine g_iconst (v := 2) d_Law_law_115 (by decide) ?_
              refine g_rem d_Law_law_116 (by decide) ?_
              refine g_if_ne (tgt := 130) d_Law_law_117 (by decide) (fun c15 => ?_) (fun c15 => ?_)
              · rw [if_neg c15] at h
                refine g_aload_n d_Law_law_130 rfl 4 rfl ?_
                obtain ⟨q7, hq7, h⟩ := gOb h
                refine g_callK (kb := (ka + 651)) (As := [.ref (ε.2.2.1 38 0)]) (rest := []) hT hR (fun _ => ctkq_Law_holds hl0 hY q6.2 _ hq7) d_Law_law_131 ca_Law_holds w_944 rfl rfl (Nat.le_of_ble_eq_true rfl) ⟨(Nat.le_of_ble_eq_true rfl), (Nat.le_of_ble_eq_true rfl)⟩ (Nat.le_refl _) (Nat.le_trans (gLe hk (Nat.le_of_ble_eq_true rfl)) hb) ?_
                refine g_if_eq (tgt := 166) d_Law_law_134 (by decide) (fun c12 => ?_) (fun c12 => ?_)
                · rw [if_pos c12] at h
                  refine gGo_sub [2, 3, 4, 5, 7] rfl ?_
                  exact t_Law_law_b166_34 hl0 hX hY Ls xs hT hTX hR (gLe2 hk (Nat.le_of_ble_eq_true rfl)) hb q7.2 x3 x5 _ h k1 k2
                · rw [if_neg c12] at h
                  refine gGo_sub [2, 3, 4, 5, 7, 1] rfl ?_
                  exact t_Law_law_b137_34 hl0 hX hY Ls xs hT hTX hR (gLe2 hk (Nat.le_of_ble_eq_true rfl)) hb q7.2 x3 x5 q1 _ h k1 k2
              · rw [if_pos c15] at h
                refine g_aload_n d_Law_law_120 rfl 3 rfl ?_
                obtain ⟨q13, hq13, h⟩ := gOb h
                refine g_callK (kb := (ka + 651)) (As := [.ref (ε.2.2.1 18 0)]) (rest := []) hT hR (fun _ => ctk_Law_holds hl0 hX q6.2 _ hq13) d_Law_law_121 ca_Law_holds w_944 rfl rfl (Nat.le_of_ble_eq_true rfl) ⟨(Nat.le_of_ble_eq_true rfl), (Nat.le_of_ble_eq_true rfl)⟩ (Nat.le_refl _) (Nat.le_trans (gLe hk (Nat.le_of_ble_eq_true rfl)) hb) ?_
                refine g_if_eq (tgt := 166) d_Law_law_124 (by decide) (fun c14 => ?_) (fun c14 => ?_)
                · rw [if_pos c14] at h
                  refine gGo_sub [2, 3, 4, 5, 7] rfl ?_
                  exact t_Law_law_b166_34 hl0 hX hY Ls xs hT hTX hR (gLe2 hk (Nat.le_of_ble_eq_true rfl)) hb q13.2 x3 x5 _ h k1 k2
                · rw [if_neg c14] at h
                  refine g_goto (tgt := 137) d_Law_law_127 (by decide) ?_
                  refine gGo_sub [2, 3, 4, 5, 7, 1] rfl ?_
                  exact t_Law_law_b137_34 hl0 hX hY Ls xs hT hTX hR (gLe2 hk (Nat.le_of_ble_eq_true rfl)) hb q13.2 x3 x5 q1 _ h k1 k2
noncomputable def f_Law_law_l34 (Ls : Nat) (xs : Nat → Int32) (x3 : Int32) (j : Nat) (s : (Int32 × Int32 × gMem)) : Option (Int32 × Int32 × gMem) := gIt (fun s => f_Law_law_s34 Ls xs s.2.2 x3 s.1 s.2.1) j s
set_option maxRecDepth 100000 in
theorem t_Law_law_l34 {l : Launch} {ε : gEnv} (hl0 : l.stackTraces = false) (hX : gXw ε) (hY : gXw (swE ε)) {b : Nat} (Ls : Nat) (xs : Nat → Int32) {R : Room} {T : gTT} {Z : gZZ} {k0 n0 K : Nat} (hT : gTok T) (hTX : gTokX T b Ls xs) (hR : gRm R k0 n0 K 157 6179) (x3 : Int32) : ∀ (j : Nat) (s s' : (Int32 × Int32 × gMem)) (ka : Nat), f_Law_law_l34 Ls xs x3 j s = some s' → ka + 996 * j ≤ K → gGo l ε k_law R (gFg T Z k0 n0 (ka + 996 * j)) 175 [(0, .ref b), (1, .ref (ε.2.2.1 18 0)), (2, .ref (ε.2.2.1 38 0)), (3, .int x3), (4, .int s'.1), (5, .int s'.2.1)] [] s'.2.2 → gGo l ε k_law R (gFg T Z k0 n0 ka) 34 [(0, .ref b), (1, .ref (ε.2.2.1 18 0)), (2, .ref (ε.2.2.1 38 0)), (3, .int x3), (4, .int s.1), (5, .int s.2.1)] [] s.2.2 := by
  intro j
  induction j with
  | zero => intro s s' ka h; cases h
  | succ j ih =>
    intro s s' ka h hk kk
    rcases gIt_s h with ⟨s1, h1, h2⟩ | h1
    · refine t_Law_law_s34 (kb := ka + 996) hl0 hX hY Ls xs hT hTX hR (Nat.le_refl _) (by omega) s.2.2 x3 s.1 s.2.1 (.inl s1) h1 (fun s0 e => ?_) (fun s0 e => nomatch e)
      cases e
      refine ih s1 s' (ka + 996) h2 (by omega) ?_
      rw [show ka + 996 + 996 * j = ka + 996 * (j + 1) by omega]
      exact kk
    · refine t_Law_law_s34 (kb := ka + 996) hl0 hX hY Ls xs hT hTX hR (Nat.le_refl _) (by omega) s.2.2 x3 s.1 s.2.1 (.inr s') h1 (fun s0 e => nomatch e) (fun s0 e => ?_)
      cases e
      exact g_useK hR (by omega) hk kk
