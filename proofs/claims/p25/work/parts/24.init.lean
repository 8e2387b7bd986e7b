theorem d_Wri_init_0 : decode prog_9_method_1_code 0 = .ok (.aload_n 0, 1) := by decide +kernel
theorem d_Wri_init_1 : decode prog_9_method_1_code 1 = .ok (.invokespecial 3, 3) := by decide +kernel
theorem d_Wri_init_4 : decode prog_9_method_1_code 4 = .ok (.aload_n 0, 1) := by decide +kernel
theorem d_Wri_init_5 : decode prog_9_method_1_code 5 = .ok (.bipush 120, 2) := by decide +kernel
theorem d_Wri_init_7 : decode prog_9_method_1_code 7 = .ok (.newarray .int, 2) := by decide +kernel
theorem d_Wri_init_9 : decode prog_9_method_1_code 9 = .ok (.putfield 9, 3) := by decide +kernel
theorem d_Wri_init_12 : decode prog_9_method_1_code 12 = .ok (.return_, 1) := by decide +kernel
abbrev k_Wri_init : gMD := (⟨"DropSignals$Writing", "<init>", "()V"⟩, prog_9_method_1_code, 1, none)
theorem w_213 : Cond.instanceMethod ⟨"DropSignals$Writing", "<init>", "()V"⟩ ∈ gWs := gWs_in (i := 213) (by decide +kernel) rfl
set_option maxRecDepth 100000 in
theorem ci_Wri_init : gCaI k_Wri_init := ⟨⟨gWs_in (i := 214) rfl rfl, w_27, by decide, by decide, by decide +kernel⟩, rfl, w_213, rfl⟩
theorem w_215 : Cond.methodLink "DropSignals$Writing" 3 objectInit ∈ gWs := gWs_in (i := 215) (by decide +kernel) rfl
theorem ff_Wri_9 : gFf "DropSignals$Writing" 9 6 0 (.array .int) := ⟨gN6, gF6, 2, rfl, uw_6, by decide, w_216, ⟨gX6, gY6⟩, gD6, rfl, rfl, by decide +kernel⟩
def gGw : List (Nat × Nat) := [(18, 6), (18, 7)]
def adWri (h0 q1 : Nat) : Nat → Nat → Nat := fun _ c => match c with
  | 6 => h0
  | _ => q1
theorem ct_iWri {l : Launch} {D : va_G} {cA : Nat → ClassId} (h0 : Nat) : cCt l D cA k_Wri_init 1 30 1 120 h0 (.inr (6, [.null, .int 0])) (fun ws => ∃ ad, ad 18 6 = h0 ∧ ws = gW (D, cA, ad, gGw) gM0) := by
  refine cCt_of (by decide) rfl (by decide) ?_
  refine c_aload_n d_Wri_init_0 rfl 0 rfl ?_
  refine c_obj d_Wri_init_1 w_215 w_44 w_obj (Nat.le_of_ble_eq_true rfl) (Nat.le_of_ble_eq_true rfl) ?_
  refine c_aload_n d_Wri_init_4 rfl 0 rfl ?_
  refine c_bipush (v := 120) d_Wri_init_5 (by decide) ?_
  refine c_newI (N := 120) d_Wri_init_7 w_80 (by decide) rfl (Nat.le_of_ble_eq_true rfl) (Nat.le_of_ble_eq_true rfl) (Nat.le_of_ble_eq_true rfl) (fun q1 => ?_)
  refine c_putR (fs' := [.ref q1, .int 0]) d_Wri_init_9 ff_Wri_9 rfl rfl (Nat.le_of_ble_eq_true rfl) rfl ?_
  exact c_vret d_Wri_init_12 rfl (Nat.le_of_ble_eq_true rfl) (Nat.le_of_ble_eq_true rfl) ⟨adWri h0 q1, rfl, rfl⟩
theorem d_Open_init_0 : decode prog_6_method_1_code 0 = .ok (.aload_n 0, 1) := by decide +kernel
theorem d_Open_init_1 : decode prog_6_method_1_code 1 = .ok (.invokespecial 3, 3) := by decide +kernel
theorem d_Open_init_4 : decode prog_6_method_1_code 4 = .ok (.aload_n 0, 1) := by decide +kernel
theorem d_Open_init_5 : decode prog_6_method_1_code 5 = .ok (.bipush 12, 2) := by decide +kernel
theorem d_Open_init_7 : decode prog_6_method_1_code 7 = .ok (.newarray .int, 2) := by decide +kernel
theorem d_Open_init_9 : decode prog_6_method_1_code 9 = .ok (.putfield 9, 3) := by decide +kernel
theorem d_Open_init_12 : decode prog_6_method_1_code 12 = .ok (.aload_n 0, 1) := by decide +kernel
theorem d_Open_init_13 : decode prog_6_method_1_code 13 = .ok (.bipush 12, 2) := by decide +kernel
theorem d_Open_init_15 : decode prog_6_method_1_code 15 = .ok (.newarray .int, 2) := by decide +kernel
theorem d_Open_init_17 : decode prog_6_method_1_code 17 = .ok (.putfield 15, 3) := by decide +kernel
theorem d_Open_init_20 : decode prog_6_method_1_code 20 = .ok (.return_, 1) := by decide +kernel
abbrev k_Open_init : gMD := (⟨"DropSignals$OpenCards", "<init>", "()V"⟩, prog_6_method_1_code, 1, none)
theorem w_226 : Cond.instanceMethod ⟨"DropSignals$OpenCards", "<init>", "()V"⟩ ∈ gWs := gWs_in (i := 226) (by decide +kernel) rfl
set_option maxRecDepth 100000 in
theorem ci_Open_init : gCaI k_Open_init := ⟨⟨gWs_in (i := 227) rfl rfl, w_28, by decide, by decide, by decide +kernel⟩, rfl, w_226, rfl⟩
theorem w_228 : Cond.methodLink "DropSignals$OpenCards" 3 objectInit ∈ gWs := gWs_in (i := 228) (by decide +kernel) rfl
theorem ff_Open_9 : gFf "DropSignals$OpenCards" 9 4 0 (.array .int) := ⟨gN4, gF4, 8, rfl, uw_4, by decide, w_229, ⟨gX4, gY4⟩, gD4, rfl, rfl, by decide +kernel⟩
theorem ff_Open_15 : gFf "DropSignals$OpenCards" 15 4 1 (.array .int) := ⟨gN4, gF4, 8, rfl, uw_4, by decide, w_230, ⟨gX4, gY4⟩, gD4, rfl, rfl, by decide +kernel⟩
def gGop : List (Nat × Nat) := [(18, 8), (18, 9), (18, 10)]
def adOpen (h0 q1 q2 : Nat) : Nat → Nat → Nat := fun _ c => match c with
  | 8 => h0
  | 9 => q1
  | _ => q2
theorem ct_iOpen {l : Launch} {D : va_G} {cA : Nat → ClassId} (h0 : Nat) : cCt l D cA k_Open_init 1 30 2 24 h0 (.inr (4, [.null, .null, .int 0, .int 0, .int 0, .int 0, .int 0, .int 0])) (fun ws => ∃ ad, ad 18 8 = h0 ∧ ws = gW (D, cA, ad, gGop) gM0) := by
  refine cCt_of (by decide) rfl (by decide) ?_
  refine c_aload_n d_Open_init_0 rfl 0 rfl ?_
  refine c_obj d_Open_init_1 w_228 w_44 w_obj (Nat.le_of_ble_eq_true rfl) (Nat.le_of_ble_eq_true rfl) ?_
  refine c_aload_n d_Open_init_4 rfl 0 rfl ?_
  refine c_bipush (v := 12) d_Open_init_5 (by decide) ?_
  refine c_newI (N := 12) d_Open_init_7 w_80 (by decide) rfl (Nat.le_of_ble_eq_true rfl) (Nat.le_of_ble_eq_true rfl) (Nat.le_of_ble_eq_true rfl) (fun q1 => ?_)
  refine c_putR (fs' := [.ref q1, .null, .int 0, .int 0, .int 0, .int 0, .int 0, .int 0]) d_Open_init_9 ff_Open_9 rfl rfl (Nat.le_of_ble_eq_true rfl) rfl ?_
  refine c_aload_n d_Open_init_12 rfl 0 rfl ?_
  refine c_bipush (v := 12) d_Open_init_13 (by decide) ?_
  refine c_newI (N := 12) d_Open_init_15 w_80 (by decide) rfl (Nat.le_of_ble_eq_true rfl) (Nat.le_of_ble_eq_true rfl) (Nat.le_of_ble_eq_true rfl) (fun q2 => ?_)
  refine c_putR (fs' := [.ref q1, .ref q2, .int 0, .int 0, .int 0, .int 0, .int 0, .int 0]) d_Open_init_17 ff_Open_15 rfl rfl (Nat.le_of_ble_eq_true rfl) rfl ?_
  exact c_vret d_Open_init_20 rfl (Nat.le_of_ble_eq_true rfl) (Nat.le_of_ble_eq_true rfl) ⟨adOpen h0 q1 q2, rfl, rfl⟩
theorem d_DS_init_0 : decode prog_1_method_1_code 0 = .ok (.aload_n 0, 1) := by decide +kernel
theorem d_DS_init_1 : decode prog_1_method_1_code 1 = .ok (.invokespecial 1, 3) := by decide +kernel
theorem d_DS_init_4 : decode prog_1_method_1_code 4 = .ok (.aload_n 0, 1) := by decide +kernel
theorem d_DS_init_5 : decode prog_1_method_1_code 5 = .ok (.new 7, 3) := by decide +kernel
theorem d_DS_init_8 : decode prog_1_method_1_code 8 = .ok (.dup, 1) := by decide +kernel
theorem d_DS_init_9 : decode prog_1_method_1_code 9 = .ok (.invokespecial 9, 3) := by decide +kernel
theorem d_DS_init_12 : decode prog_1_method_1_code 12 = .ok (.putfield 10, 3) := by decide +kernel
theorem d_DS_init_15 : decode prog_1_method_1_code 15 = .ok (.aload_n 0, 1) := by decide +kernel
theorem d_DS_init_16 : decode prog_1_method_1_code 16 = .ok (.new 7, 3) := by decide +kernel
theorem d_DS_init_19 : decode prog_1_method_1_code 19 = .ok (.dup, 1) := by decide +kernel
theorem d_DS_init_20 : decode prog_1_method_1_code 20 = .ok (.invokespecial 9, 3) := by decide +kernel
theorem d_DS_init_23 : decode prog_1_method_1_code 23 = .ok (.putfield 16, 3) := by decide +kernel
theorem d_DS_init_26 : decode prog_1_method_1_code 26 = .ok (.aload_n 0, 1) := by decide +kernel
theorem d_DS_init_27 : decode prog_1_method_1_code 27 = .ok (.new 19, 3) := by decide +kernel
theorem d_DS_init_30 : decode prog_1_method_1_code 30 = .ok (.dup, 1) := by decide +kernel
theorem d_DS_init_31 : decode prog_1_method_1_code 31 = .ok (.invokespecial 21, 3) := by decide +kernel
theorem d_DS_init_34 : decode prog_1_method_1_code 34 = .ok (.putfield 22, 3) := by decide +kernel
theorem d_DS_init_37 : decode prog_1_method_1_code 37 = .ok (.aload_n 0, 1) := by decide +kernel
theorem d_DS_init_38 : decode prog_1_method_1_code 38 = .ok (.new 26, 3) := by decide +kernel
theorem d_DS_init_41 : decode prog_1_method_1_code 41 = .ok (.dup, 1) := by decide +kernel
theorem d_DS_init_42 : decode prog_1_method_1_code 42 = .ok (.invokespecial 28, 3) := by decide +kernel
theorem d_DS_init_45 : decode prog_1_method_1_code 45 = .ok (.putfield 29, 3) := by decide +kernel
theorem d_DS_init_48 : decode prog_1_method_1_code 48 = .ok (.aload_n 0, 1) := by decide +kernel
theorem d_DS_init_49 : decode prog_1_method_1_code 49 = .ok (.new 33, 3) := by decide +kernel
theorem d_DS_init_52 : decode prog_1_method_1_code 52 = .ok (.dup, 1) := by decide +kernel
theorem d_DS_init_53 : decode prog_1_method_1_code 53 = .ok (.invokespecial 35, 3) := by decide +kernel
theorem d_DS_init_56 : decode prog_1_method_1_code 56 = .ok (.putfield 36, 3) := by decide +kernel
theorem d_DS_init_59 : decode prog_1_method_1_code 59 = .ok (.aload_n 0, 1) := by decide +kernel
theorem d_DS_init_60 : decode prog_1_method_1_code 60 = .ok (.new 40, 3) := by decide +kernel
theorem d_DS_init_63 : decode prog_1_method_1_code 63 = .ok (.dup, 1) := by decide +kernel
theorem d_DS_init_64 : decode prog_1_method_1_code 64 = .ok (.invokespecial 42, 3) := by decide +kernel
theorem d_DS_init_67 : decode prog_1_method_1_code 67 = .ok (.putfield 43, 3) := by decide +kernel
theorem d_DS_init_70 : decode prog_1_method_1_code 70 = .ok (.return_, 1) := by decide +kernel
abbrev k_DS_init : gMD := (⟨"DropSignals", "<init>", "()V"⟩, prog_1_method_1_code, 1, none)
theorem w_41 : Cond.instanceMethod ⟨"DropSignals", "<init>", "()V"⟩ ∈ gWs := gWs_in (i := 41) (by decide +kernel) rfl
set_option maxRecDepth 100000 in
theorem ci_DS_init : gCaI k_DS_init := ⟨⟨gWs_in (i := 42) rfl rfl, w_20, by decide, by decide, by decide +kernel⟩, rfl, w_41, rfl⟩
theorem w_43 : Cond.methodLink "DropSignals" 1 objectInit ∈ gWs := gWs_in (i := 43) (by decide +kernel) rfl
theorem w_46 : Cond.classLink "DropSignals" 7 "DropSignals$Evening" ∈ gWs := gWs_in (i := 46) (by decide +kernel) rfl
theorem no_DS_7 : gNo "DropSignals" 7 2 [.null, .null, .null, .null, .int 0, .int 0, .int 0, .int 0, .int 0, .int 0, .int 0, .int 0, .int 0, .int 0] := ⟨gN2, gF2, 14, gX2, rfl, uw_2, gY2, w_46, w_47, w_21, fun j hj => by rcases (show j = 0 ∨ j = 1 ∨ j = 2 ∨ j = 3 ∨ j = 4 ∨ j = 5 ∨ j = 6 ∨ j = 7 ∨ j = 8 ∨ j = 9 ∨ j = 10 ∨ j = 11 ∨ j = 12 ∨ j = 13 by omega) with rfl | rfl | rfl | rfl | rfl | rfl | rfl | rfl | rfl | rfl | rfl | rfl | rfl | rfl <;> rfl, rfl⟩
theorem w_48 : Cond.methodLink "DropSignals" 9 ⟨"DropSignals$Evening", "<init>", "()V"⟩ ∈ gWs := gWs_in (i := 48) (by decide +kernel) rfl
theorem ff_DS_10 : gFf "DropSignals" 10 7 0 (.object "DropSignals$Evening") := ⟨gN7, gF7, 6, rfl, uw_7, by decide, w_254, ⟨gX7, gY7⟩, gD7, rfl, rfl, by decide +kernel⟩
theorem ff_DS_16 : gFf "DropSignals" 16 7 1 (.object "DropSignals$Evening") := ⟨gN7, gF7, 6, rfl, uw_7, by decide, w_255, ⟨gX7, gY7⟩, gD7, rfl, rfl, by decide +kernel⟩
theorem w_175 : Cond.classLink "DropSignals" 19 "DropSignals$Memory" ∈ gWs := gWs_in (i := 175) (by decide +kernel) rfl
theorem w_176 : Cond.instantiable "DropSignals$Memory" 3 ∈ gWs := gWs_in (i := 176) (by decide +kernel) rfl
theorem no_DS_19 : gNo "DropSignals" 19 3 [.null, .int 0, .int 0] := ⟨gN3, gF3, 3, gX3, rfl, uw_3, gY3, w_175, w_176, w_25, fun j hj => by rcases (show j = 0 ∨ j = 1 ∨ j = 2 by omega) with rfl | rfl | rfl <;> rfl, rfl⟩
theorem w_177 : Cond.methodLink "DropSignals" 21 ⟨"DropSignals$Memory", "<init>", "()V"⟩ ∈ gWs := gWs_in (i := 177) (by decide +kernel) rfl
theorem ff_DS_22 : gFf "DropSignals" 22 7 2 (.object "DropSignals$Memory") := ⟨gN7, gF7, 6, rfl, uw_7, by decide, w_256, ⟨gX7, gY7⟩, gD7, rfl, rfl, by decide +kernel⟩
theorem w_194 : Cond.classLink "DropSignals" 26 "DropSignals$Slots" ∈ gWs := gWs_in (i := 194) (by decide +kernel) rfl
theorem w_195 : Cond.instantiable "DropSignals$Slots" 2 ∈ gWs := gWs_in (i := 195) (by decide +kernel) rfl
theorem no_DS_26 : gNo "DropSignals" 26 5 [.null, .null] := ⟨gN5, gF5, 2, gX5, rfl, uw_5, gY5, w_194, w_195, w_26, fun j hj => by rcases (show j = 0 ∨ j = 1 by omega) with rfl | rfl <;> rfl, rfl⟩
theorem w_196 : Cond.methodLink "DropSignals" 28 ⟨"DropSignals$Slots", "<init>", "()V"⟩ ∈ gWs := gWs_in (i := 196) (by decide +kernel) rfl
theorem ff_DS_29 : gFf "DropSignals" 29 7 3 (.object "DropSignals$Slots") := ⟨gN7, gF7, 6, rfl, uw_7, by decide, w_257, ⟨gX7, gY7⟩, gD7, rfl, rfl, by decide +kernel⟩
theorem w_210 : Cond.classLink "DropSignals" 33 "DropSignals$Writing" ∈ gWs := gWs_in (i := 210) (by decide +kernel) rfl
theorem w_211 : Cond.instantiable "DropSignals$Writing" 2 ∈ gWs := gWs_in (i := 211) (by decide +kernel) rfl
theorem no_DS_33 : gNo "DropSignals" 33 6 [.null, .int 0] := ⟨gN6, gF6, 2, gX6, rfl, uw_6, gY6, w_210, w_211, w_27, fun j hj => by rcases (show j = 0 ∨ j = 1 by omega) with rfl | rfl <;> rfl, rfl⟩
theorem ff_DS_36 : gFf "DropSignals" 36 7 4 (.object "DropSignals$Writing") := ⟨gN7, gF7, 6, rfl, uw_7, by decide, w_258, ⟨gX7, gY7⟩, gD7, rfl, rfl, by decide +kernel⟩
theorem w_223 : Cond.classLink "DropSignals" 40 "DropSignals$OpenCards" ∈ gWs := gWs_in (i := 223) (by decide +kernel) rfl
theorem w_224 : Cond.instantiable "DropSignals$OpenCards" 8 ∈ gWs := gWs_in (i := 224) (by decide +kernel) rfl
theorem no_DS_40 : gNo "DropSignals" 40 4 [.null, .null, .int 0, .int 0, .int 0, .int 0, .int 0, .int 0] := ⟨gN4, gF4, 8, gX4, rfl, uw_4, gY4, w_223, w_224, w_28, fun j hj => by rcases (show j = 0 ∨ j = 1 ∨ j = 2 ∨ j = 3 ∨ j = 4 ∨ j = 5 ∨ j = 6 ∨ j = 7 by omega) with rfl | rfl | rfl | rfl | rfl | rfl | rfl | rfl <;> rfl, rfl⟩
theorem ff_DS_43 : gFf "DropSignals" 43 7 5 (.object "DropSignals$OpenCards") := ⟨gN7, gF7, 6, rfl, uw_7, by decide, w_259, ⟨gX7, gY7⟩, gD7, rfl, rfl, by decide +kernel⟩
def gGx : List (Nat × Nat) := (18, 0) :: (((((gGe 0 ++ gGe 1) ++ gGm) ++ gGs) ++ gGw) ++ gGop)
def adDS (h0 : Nat) (a0 a1 am as aw ao : Nat → Nat → Nat) : Nat → Nat → Nat := fun g c => if g = 18 then (if c = 0 then h0 else if c < 3 then am 18 c else if c < 6 then as 18 c else if c < 8 then aw 18 c else ao 18 c) else if g = 0 then a0 0 c else if g = 1 then a1 1 c else if g < 16 then am g c else as g c
theorem gGm_in : ∀ p ∈ gGm, p = (18, 1) ∨ p = (18, 2) ∨ (2 ≤ p.1 ∧ p.1 < 16) := by decide +kernel
theorem gGs_in : ∀ p ∈ gGs, p = (18, 3) ∨ p = (18, 4) ∨ p = (18, 5) ∨ (16 ≤ p.1 ∧ p.1 < 18) := by decide +kernel
theorem gK_ev {D : va_G} {cA : Nat → ClassId} {ad ad' : Nat → Nat → Nat} {G G' : List (Nat × Nat)} {e : Nat} (he : e < 18) (M : gMem) (h : ∀ c, ad e c = ad' e c) (c : Nat) : gK (D, cA, ad, G) M (e, c) = gK (D, cA, ad', G') M (e, c) := by
  unfold gK
  simp only [gS_ev he, h c]
  rcases (show c = 0 ∨ c = 1 ∨ c = 2 ∨ c = 3 ∨ c = 4 ∨ c = 5 ∨ c = 6 ∨ c = 7 ∨ 8 ≤ c by omega) with rfl | rfl | rfl | rfl | rfl | rfl | rfl | rfl | hc
  · simp only [gEvS, gE, gVals, h]
  · simp only [gEvS, gE, gVals, h]
  · simp only [gEvS, gE, gVals, h]
  · rfl
  · rfl
  · rfl
  · rfl
  · rfl
  · obtain ⟨k, rfl⟩ : ∃ k, c = k + 8 := ⟨c - 8, by omega⟩
    rfl
theorem gK_rows {D : va_G} {cA : Nat → ClassId} {ad ad' : Nat → Nat → Nat} {G G' : List (Nat × Nat)} {c n b : Nat} (hS : gS 18 c = (2, n, [some (b, 0)])) (M : gMem) (h0 : ad 18 c = ad' 18 c) (h : ∀ j, j < n → ad (b + j) 0 = ad' (b + j) 0) : gK (D, cA, ad, G) M (18, c) = gK (D, cA, ad', G') M (18, c) := by
  unfold gK
  simp only [hS, h0]
  refine congrArg (fun f => (ad' 18 c, (Sum.inl (cA 2, n, Sum.inr (Sum.inr (Sum.inr (Sum.inr f)))) : va_E))) ?_
  funext j
  by_cases hj : j < n
  · simp only [if_pos hj]
    exact congrArg some (h j hj)
  · simp only [if_neg hj]
set_option maxRecDepth 100000 in
set_option maxHeartbeats 4000000 in
theorem ct_iDS {l : Launch} {D : va_G} {cA : Nat → ClassId} (h0 : Nat) : cCt l D cA k_DS_init 6 124 226 3525 h0 (.inr (7, [.null, .null, .null, .null, .null, .null])) (fun ws => ∃ ad, ad 18 0 = h0 ∧ ws = gW (D, cA, ad, gGx) gM0) := by
  refine cCt_of (by decide) rfl (by decide) ?_
  refine c_aload_n d_DS_init_0 rfl 0 rfl ?_
  refine c_obj d_DS_init_1 w_43 w_44 w_obj (Nat.le_of_ble_eq_true rfl) (Nat.le_of_ble_eq_true rfl) ?_
  refine c_aload_n d_DS_init_4 rfl 0 rfl ?_
  refine c_new d_DS_init_5 no_DS_7 (Nat.le_of_ble_eq_true rfl) (Nat.le_of_ble_eq_true rfl) (fun q1 => ?_)
  refine c_dup d_DS_init_8 rfl ?_
  refine c_init (ct_iEv 0 (by decide) q1) d_DS_init_9 ci_Ev_init w_48 (Nat.le_of_ble_eq_true rfl) ⟨Nat.le_of_ble_eq_true rfl, Nat.le_of_ble_eq_true rfl⟩ (Nat.le_of_ble_eq_true rfl) (Nat.le_of_ble_eq_true rfl) (fun w2 hw2 => ?_)
  refine c_putR (fs' := [.ref q1, .null, .null, .null, .null, .null]) d_DS_init_12 ff_DS_10 rfl rfl (Nat.le_of_ble_eq_true rfl) rfl ?_
  refine c_aload_n d_DS_init_15 rfl 0 rfl ?_
  refine c_new d_DS_init_16 no_DS_7 (Nat.le_of_ble_eq_true rfl) (Nat.le_of_ble_eq_true rfl) (fun q3 => ?_)
  refine c_dup d_DS_init_19 rfl ?_
  refine c_init (ct_iEv 1 (by decide) q3) d_DS_init_20 ci_Ev_init w_48 (Nat.le_of_ble_eq_true rfl) ⟨Nat.le_of_ble_eq_true rfl, Nat.le_of_ble_eq_true rfl⟩ (Nat.le_of_ble_eq_true rfl) (Nat.le_of_ble_eq_true rfl) (fun w4 hw4 => ?_)
  refine c_putR (fs' := [.ref q1, .ref q3, .null, .null, .null, .null]) d_DS_init_23 ff_DS_16 rfl rfl (Nat.le_of_ble_eq_true rfl) rfl ?_
  refine c_aload_n d_DS_init_26 rfl 0 rfl ?_
  refine c_new d_DS_init_27 no_DS_19 (Nat.le_of_ble_eq_true rfl) (Nat.le_of_ble_eq_true rfl) (fun q5 => ?_)
  refine c_dup d_DS_init_30 rfl ?_
  refine c_init (ct_iMem  q5) d_DS_init_31 ci_Mem_init w_177 (Nat.le_of_ble_eq_true rfl) ⟨Nat.le_of_ble_eq_true rfl, Nat.le_of_ble_eq_true rfl⟩ (Nat.le_of_ble_eq_true rfl) (Nat.le_of_ble_eq_true rfl) (fun w6 hw6 => ?_)
  refine c_putR (fs' := [.ref q1, .ref q3, .ref q5, .null, .null, .null]) d_DS_init_34 ff_DS_22 rfl rfl (Nat.le_of_ble_eq_true rfl) rfl ?_
  refine c_aload_n d_DS_init_37 rfl 0 rfl ?_
  refine c_new d_DS_init_38 no_DS_26 (Nat.le_of_ble_eq_true rfl) (Nat.le_of_ble_eq_true rfl) (fun q7 => ?_)
  refine c_dup d_DS_init_41 rfl ?_
  refine c_init (ct_iSlots  q7) d_DS_init_42 ci_Slots_init w_196 (Nat.le_of_ble_eq_true rfl) ⟨Nat.le_of_ble_eq_true rfl, Nat.le_of_ble_eq_true rfl⟩ (Nat.le_of_ble_eq_true rfl) (Nat.le_of_ble_eq_true rfl) (fun w8 hw8 => ?_)
  refine c_putR (fs' := [.ref q1, .ref q3, .ref q5, .ref q7, .null, .null]) d_DS_init_45 ff_DS_29 rfl rfl (Nat.le_of_ble_eq_true rfl) rfl ?_
  refine c_aload_n d_DS_init_48 rfl 0 rfl ?_
  refine c_new d_DS_init_49 no_DS_33 (Nat.le_of_ble_eq_true rfl) (Nat.le_of_ble_eq_true rfl) (fun q9 => ?_)
  refine c_dup d_DS_init_52 rfl ?_
  refine c_initN (j := 212) (host := "DropSignals") (ct_iWri  q9) d_DS_init_53 ci_Wri_init (by decide +kernel) (Nat.le_of_ble_eq_true rfl) ⟨Nat.le_of_ble_eq_true rfl, Nat.le_of_ble_eq_true rfl⟩ (Nat.le_of_ble_eq_true rfl) (Nat.le_of_ble_eq_true rfl) (fun w10 hw10 => ?_)
  refine c_putR (fs' := [.ref q1, .ref q3, .ref q5, .ref q7, .ref q9, .null]) d_DS_init_56 ff_DS_36 rfl rfl (Nat.le_of_ble_eq_true rfl) rfl ?_
  refine c_aload_n d_DS_init_59 rfl 0 rfl ?_
  refine c_new d_DS_init_60 no_DS_40 (Nat.le_of_ble_eq_true rfl) (Nat.le_of_ble_eq_true rfl) (fun q11 => ?_)
  refine c_dup d_DS_init_63 rfl ?_
  refine c_initN (j := 225) (host := "DropSignals") (ct_iOpen  q11) d_DS_init_64 ci_Open_init (by decide +kernel) (Nat.le_of_ble_eq_true rfl) ⟨Nat.le_of_ble_eq_true rfl, Nat.le_of_ble_eq_true rfl⟩ (Nat.le_of_ble_eq_true rfl) (Nat.le_of_ble_eq_true rfl) (fun w12 hw12 => ?_)
  refine c_putR (fs' := [.ref q1, .ref q3, .ref q5, .ref q7, .ref q9, .ref q11]) d_DS_init_67 ff_DS_43 rfl rfl (Nat.le_of_ble_eq_true rfl) rfl ?_
  obtain ⟨a0, rfl, rfl⟩ := hw2
  obtain ⟨a1, rfl, rfl⟩ := hw4
  obtain ⟨am, rfl, rfl⟩ := hw6
  obtain ⟨as, rfl, rfl⟩ := hw8
  obtain ⟨aw, rfl, rfl⟩ := hw10
  obtain ⟨ao, rfl, rfl⟩ := hw12
  generalize hX : adDS h0 a0 a1 am as aw ao = X
  have x0 : ∀ c, a0 0 c = X 0 c := fun c => by rw [← hX]; rfl
  have x1 : ∀ c, a1 1 c = X 1 c := fun c => by rw [← hX]; rfl
  have xm : ∀ g c, 2 ≤ g → g < 16 → am g c = X g c := fun g c h1 h2 => by
    rw [← hX]
    unfold adDS
    rw [if_neg (by omega), if_neg (by omega), if_neg (by omega), if_pos h2]
  have xs : ∀ g c, 16 ≤ g → g < 18 → as g c = X g c := fun g c h1 h2 => by
    rw [← hX]
    unfold adDS
    rw [if_neg (by omega), if_neg (by omega), if_neg (by omega), if_neg (by omega)]
  have xh : X 18 0 = h0 := by rw [← hX]; rfl
  have y1 : am 18 1 = X 18 1 := by rw [← hX]; rfl
  have y2 : am 18 2 = X 18 2 := by rw [← hX]; rfl
  have y3 : as 18 3 = X 18 3 := by rw [← hX]; rfl
  have y4 : as 18 4 = X 18 4 := by rw [← hX]; rfl
  have y5 : as 18 5 = X 18 5 := by rw [← hX]; rfl
  have y6 : aw 18 6 = X 18 6 := by rw [← hX]; rfl
  have y7 : aw 18 7 = X 18 7 := by rw [← hX]; rfl
  have y8 : ao 18 8 = X 18 8 := by rw [← hX]; rfl
  have y9 : ao 18 9 = X 18 9 := by rw [← hX]; rfl
  have y10 : ao 18 10 = X 18 10 := by rw [← hX]; rfl
  have s0 : gW (D, cA, a0, gGe 0) gM0 = gW (D, cA, X, gGe 0) gM0 := gW_ev (by decide) gM0 x0
  have s1 : gW (D, cA, a1, gGe 1) gM0 = gW (D, cA, X, gGe 1) gM0 := gW_ev (by decide) gM0 x1
  have s2 : gW (D, cA, am, gGm) gM0 = gW (D, cA, X, gGm) gM0 := gW_ad fun p hp => by
    rcases gGm_in p hp with rfl | rfl | ⟨h1, h2⟩
    · show ((am 18 1, Sum.inr (3, [.ref (am 18 2), .int 0, .int 0])) : Nat × va_E) = (X 18 1, Sum.inr (3, [.ref (X 18 2), .int 0, .int 0]))
      rw [y1, y2]
    · exact gK_rows (b := 2) rfl gM0 y2 (fun j hj => xm (2 + j) 0 (by omega) (by omega))
    · exact gK_ev (by omega) gM0 (fun c => xm p.1 c h1 h2) p.2
  have s3 : gW (D, cA, as, gGs) gM0 = gW (D, cA, X, gGs) gM0 := gW_ad fun p hp => by
    rcases gGs_in p hp with rfl | rfl | rfl | ⟨h1, h2⟩
    · show ((as 18 3, Sum.inr (5, [.ref (as 18 4), .ref (as 18 5)])) : Nat × va_E) = (X 18 3, Sum.inr (5, [.ref (X 18 4), .ref (X 18 5)]))
      rw [y3, y4, y5]
    · exact gK_rows (b := 16) rfl gM0 y4 (fun j hj => xs (16 + j) 0 (by omega) (by omega))
    · show ((as 18 5, Sum.inl (cA 1, 2, Sum.inl (fun _ => 0))) : Nat × va_E) = (X 18 5, Sum.inl (cA 1, 2, Sum.inl (fun _ => 0)))
      rw [y5]
    · exact gK_ev (by omega) gM0 (fun c => xs p.1 c h1 h2) p.2
  have s4 : gW (D, cA, aw, gGw) gM0 = gW (D, cA, X, gGw) gM0 := by
    show ([(aw 18 6, Sum.inr (6, [.ref (aw 18 7), .int 0])), (aw 18 7, Sum.inl (cA 0, 120, Sum.inl (fun _ => 0)))] : va_W) = [(X 18 6, Sum.inr (6, [.ref (X 18 7), .int 0])), (X 18 7, Sum.inl (cA 0, 120, Sum.inl (fun _ => 0)))]
    rw [y6, y7]
  have s5 : gW (D, cA, ao, gGop) gM0 = gW (D, cA, X, gGop) gM0 := by
    show ([(ao 18 8, Sum.inr (4, [.ref (ao 18 9), .ref (ao 18 10), .int 0, .int 0, .int 0, .int 0, .int 0, .int 0])), (ao 18 9, Sum.inl (cA 0, 12, Sum.inl (fun _ => 0))), (ao 18 10, Sum.inl (cA 0, 12, Sum.inl (fun _ => 0)))] : va_W) = [(X 18 8, Sum.inr (4, [.ref (X 18 9), .ref (X 18 10), .int 0, .int 0, .int 0, .int 0, .int 0, .int 0])), (X 18 9, Sum.inl (cA 0, 12, Sum.inl (fun _ => 0))), (X 18 10, Sum.inl (cA 0, 12, Sum.inl (fun _ => 0)))]
    rw [y8, y9, y10]
  refine c_vret d_DS_init_70 rfl (Nat.le_of_ble_eq_true rfl) (Nat.le_of_ble_eq_true rfl) ⟨X, xh, ?_⟩
  show _ = gK (D, cA, X, gGx) gM0 (18, 0) :: gW (D, cA, X, ((((gGe 0 ++ gGe 1) ++ gGm) ++ gGs) ++ gGw) ++ gGop) gM0
  rw [gW_app, gW_app, gW_app, gW_app, gW_app, ← s0, ← s1, ← s2, ← s3, ← s4, ← s5]
  refine congr (congrArg List.cons ?_) rfl
  show ((h0, Sum.inr (7, [.ref (a0 0 0), .ref (a1 1 0), .ref (am 18 1), .ref (as 18 3), .ref (aw 18 6), .ref (ao 18 8)])) : Nat × va_E) = (X 18 0, Sum.inr (7, [.ref (X 0 0), .ref (X 1 0), .ref (X 18 1), .ref (X 18 3), .ref (X 18 6), .ref (X 18 8)]))
  rw [xh, x0, x1, y1, y3, y6, y8]
