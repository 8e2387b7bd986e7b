-- ===== making the system's objects =====
def gM0 : gMem := fun g c => if g < 18 then eIni c else fun _ => 0
def gGc (e : Nat) : List (Nat × Nat) := [(e, 1), (e, 5), (e, 6), (e, 7)]
def gGd (e : Nat) : List (Nat × Nat) := [(e, 2), (e, 8), (e, 9), (e, 10), (e, 11)]
def gGe (e : Nat) : List (Nat × Nat) := [(e, 0), (e, 1), (e, 5), (e, 6), (e, 7), (e, 2), (e, 8), (e, 9), (e, 10), (e, 11), (e, 3), (e, 4)]
theorem gM0_e {e : Nat} (he : e < 18) (c : Nat) : gM0 e c = eIni c := by unfold gM0; rw [if_pos he]
theorem gW_app {D : va_G} {cA : Nat → ClassId} {ad : Nat → Nat → Nat} (G1 G2 : List (Nat × Nat)) (M : gMem) : gW (D, cA, ad, G1 ++ G2) M = gW (D, cA, ad, G1) M ++ gW (D, cA, ad, G2) M := List.map_append
theorem gW_ad {D : va_G} {cA : Nat → ClassId} {ad ad' : Nat → Nat → Nat} {G : List (Nat × Nat)} {M : gMem} (h : ∀ p ∈ G, gK (D, cA, ad, G) M p = gK (D, cA, ad', G) M p) : gW (D, cA, ad, G) M = gW (D, cA, ad', G) M := List.map_congr_left h
theorem gW_ev {D : va_G} {cA : Nat → ClassId} {ad ad' : Nat → Nat → Nat} {e : Nat} (he : e < 18) (M : gMem) (h : ∀ c, ad e c = ad' e c) : gW (D, cA, ad, gGe e) M = gW (D, cA, ad', gGe e) M := by
  have key : ∀ c, gK (D, cA, ad, gGe e) M (e, c) = gK (D, cA, ad', gGe e) M (e, c) := by
    intro c
    unfold gK
    simp only [gS_ev he, h c]
    rcases (show c = 0 ∨ c = 1 ∨ c = 2 ∨ c = 3 ∨ c = 4 ∨ c = 5 ∨ c = 6 ∨ c = 7 ∨ 8 ≤ c by omega) with rfl | rfl | rfl | rfl | rfl | rfl | rfl | rfl | hc
    · simp only [gEvS, gE, gVals, h]
    · simp only [gEvS, gE, gVals, h]
    · simp only [gEvS, gE, gVals, h]
    · rfl
    · rfl
    · rfl
    · rfl
    · rfl
    · obtain ⟨k, rfl⟩ : ∃ k, c = k + 8 := ⟨c - 8, by omega⟩
      rfl
  refine gW_ad fun p hp => ?_
  have hp1 : p.1 = e := by
    simp only [gGe, List.mem_cons, List.not_mem_nil, or_false] at hp
    rcases hp with rfl | rfl | rfl | rfl | rfl | rfl | rfl | rfl | rfl | rfl | rfl | rfl <;> rfl
  obtain ⟨p1, p2⟩ := p
  subst hp1
  exact key p2
theorem d_Cards_init_0 : decode prog_2_method_1_code 0 = .ok (.aload_n 0, 1) := by decide +kernel
theorem d_Cards_init_1 : decode prog_2_method_1_code 1 = .ok (.invokespecial 3, 3) := by decide +kernel
theorem d_Cards_init_4 : decode prog_2_method_1_code 4 = .ok (.aload_n 0, 1) := by decide +kernel
theorem d_Cards_init_5 : decode prog_2_method_1_code 5 = .ok (.bipush 32, 2) := by decide +kernel
theorem d_Cards_init_7 : decode prog_2_method_1_code 7 = .ok (.newarray .int, 2) := by decide +kernel
theorem d_Cards_init_9 : decode prog_2_method_1_code 9 = .ok (.putfield 9, 3) := by decide +kernel
theorem d_Cards_init_12 : decode prog_2_method_1_code 12 = .ok (.aload_n 0, 1) := by decide +kernel
theorem d_Cards_init_13 : decode prog_2_method_1_code 13 = .ok (.bipush 32, 2) := by decide +kernel
theorem d_Cards_init_15 : decode prog_2_method_1_code 15 = .ok (.newarray .int, 2) := by decide +kernel
theorem d_Cards_init_17 : decode prog_2_method_1_code 17 = .ok (.putfield 15, 3) := by decide +kernel
theorem d_Cards_init_20 : decode prog_2_method_1_code 20 = .ok (.aload_n 0, 1) := by decide +kernel
theorem d_Cards_init_21 : decode prog_2_method_1_code 21 = .ok (.bipush 32, 2) := by decide +kernel
theorem d_Cards_init_23 : decode prog_2_method_1_code 23 = .ok (.newarray .int, 2) := by decide +kernel
theorem d_Cards_init_25 : decode prog_2_method_1_code 25 = .ok (.putfield 18, 3) := by decide +kernel
theorem d_Cards_init_28 : decode prog_2_method_1_code 28 = .ok (.aload_n 0, 1) := by decide +kernel
theorem d_Cards_init_29 : decode prog_2_method_1_code 29 = .ok (.invokevirtual 21, 3) := by decide +kernel
theorem d_Cards_init_32 : decode prog_2_method_1_code 32 = .ok (.return_, 1) := by decide +kernel
abbrev k_Cards_init : gMD := (⟨"DropSignals$Cards", "<init>", "()V"⟩, prog_2_method_1_code, 1, none)
theorem w_55 : Cond.instanceMethod ⟨"DropSignals$Cards", "<init>", "()V"⟩ ∈ gWs := gWs_in (i := 55) (by decide +kernel) rfl
set_option maxRecDepth 100000 in
theorem ci_Cards_init : gCaI k_Cards_init := ⟨⟨gWs_in (i := 56) rfl rfl, w_22, by decide, by decide, by decide +kernel⟩, rfl, w_55, rfl⟩
theorem w_57 : Cond.methodLink "DropSignals$Cards" 3 objectInit ∈ gWs := gWs_in (i := 57) (by decide +kernel) rfl
theorem w_44 : Cond.instanceMethod objectInit ∈ gWs := gWs_in (i := 44) (by decide +kernel) rfl
theorem w_obj : Cond.code objectInit ⟨#[0xb1]⟩ 1 none ∈ gWs := gWs_in (i := 45) rfl rfl
theorem w_80 : Cond.arrayClass .int ∈ gWs := gWs_in (i := 80) (by decide +kernel) rfl
theorem ff_Cards_9 : gFf "DropSignals$Cards" 9 0 0 (.array .int) := ⟨gN0, gF0, 4, rfl, uw_0, by decide, w_65, ⟨gX0, gY0⟩, gD0, rfl, rfl, by decide +kernel⟩
theorem ff_Cards_15 : gFf "DropSignals$Cards" 15 0 1 (.array .int) := ⟨gN0, gF0, 4, rfl, uw_0, by decide, w_66, ⟨gX0, gY0⟩, gD0, rfl, rfl, by decide +kernel⟩
theorem ff_Cards_18 : gFf "DropSignals$Cards" 18 0 2 (.array .int) := ⟨gN0, gF0, 4, rfl, uw_0, by decide, w_67, ⟨gX0, gY0⟩, gD0, rfl, rfl, by decide +kernel⟩
def adCards (h0 q1 q2 q3 : Nat) : Nat → Nat → Nat := fun _ c => match c with
  | 1 => h0
  | 5 => q1
  | 6 => q2
  | _ => q3
theorem w_58 : Cond.methodLink "DropSignals$Cards" 21 ⟨"DropSignals$Cards", "clear", "()V"⟩ ∈ gWs := gWs_in (i := 58) (by decide +kernel) rfl
theorem ct_iCards {l : Launch} {D : va_G} {cA : Nat → ClassId} (e : Nat) (he : e < 18) (h0 : Nat) : cCt l D cA k_Cards_init 2 43 3 96 h0 (.inr (0, [.null, .null, .null, .int 0])) (fun ws => ∃ ad, ad e 1 = h0 ∧ ws = gW (D, cA, ad, gGc e) gM0) := by
  refine cCt_of (by decide) rfl (by decide) ?_
  refine c_aload_n d_Cards_init_0 rfl 0 rfl ?_
  refine c_obj d_Cards_init_1 w_57 w_44 w_obj (Nat.le_of_ble_eq_true rfl) (Nat.le_of_ble_eq_true rfl) ?_
  refine c_aload_n d_Cards_init_4 rfl 0 rfl ?_
  refine c_bipush (v := 32) d_Cards_init_5 (by decide) ?_
  refine c_newI (N := 32) d_Cards_init_7 w_80 (by decide) rfl (Nat.le_of_ble_eq_true rfl) (Nat.le_of_ble_eq_true rfl) (Nat.le_of_ble_eq_true rfl) (fun q1 => ?_)
  refine c_putR (fs' := [.ref q1, .null, .null, .int 0]) d_Cards_init_9 ff_Cards_9 rfl rfl (Nat.le_of_ble_eq_true rfl) rfl ?_
  refine c_aload_n d_Cards_init_12 rfl 0 rfl ?_
  refine c_bipush (v := 32) d_Cards_init_13 (by decide) ?_
  refine c_newI (N := 32) d_Cards_init_15 w_80 (by decide) rfl (Nat.le_of_ble_eq_true rfl) (Nat.le_of_ble_eq_true rfl) (Nat.le_of_ble_eq_true rfl) (fun q2 => ?_)
  refine c_putR (fs' := [.ref q1, .ref q2, .null, .int 0]) d_Cards_init_17 ff_Cards_15 rfl rfl (Nat.le_of_ble_eq_true rfl) rfl ?_
  refine c_aload_n d_Cards_init_20 rfl 0 rfl ?_
  refine c_bipush (v := 32) d_Cards_init_21 (by decide) ?_
  refine c_newI (N := 32) d_Cards_init_23 w_80 (by decide) rfl (Nat.le_of_ble_eq_true rfl) (Nat.le_of_ble_eq_true rfl) (Nat.le_of_ble_eq_true rfl) (fun q3 => ?_)
  refine c_putR (fs' := [.ref q1, .ref q2, .ref q3, .int 0]) d_Cards_init_25 ff_Cards_18 rfl rfl (Nat.le_of_ble_eq_true rfl) rfl ?_
  have hC : gCd (D, cA, (adCards h0 q1 q2 q3), gGc e) e := ⟨he, by simp [gGc], by simp [gGc], by simp [gGc], by simp [gGc]⟩
  refine c_go (ε := (D, cA, (adCards h0 q1 q2 q3), gGc e)) (M := gK1 (fun _ _ => 0)) rfl rfl (by unfold gW gGc; simp only [List.map_cons, List.map_nil, gK, gS_ev he]; rfl) ⟨(e, 1), by simp [gGc], rfl⟩ ?_
  refine g_aload_n d_Cards_init_28 rfl 0 rfl ?_
  have hclr : f_Cards_clear e (gK1 (fun _ _ => 0)) = some (eUp (gK1 (fun _ _ => 0)) e (kCd (fun _ _ => 0))) := by
    have h := p_Cards_clear (gK1 (fun _ _ => 0)) e (fun _ _ => 0)
    rw [gK1_e] at h
    exact h
  refine g_callV_v (As := []) (rest := []) (ct_Cards_clear e hC _ _ hclr) d_Cards_init_29 ca_Cards_clear w_58 (gCd_h1 hC) rfl rfl rfl (Nat.le_of_ble_eq_true rfl) ⟨Nat.le_of_ble_eq_true rfl, Nat.le_of_ble_eq_true rfl⟩ ?_
  refine c_goRet d_Cards_init_32 rfl rfl (Nat.le_of_ble_eq_true rfl) (Nat.le_of_ble_eq_true rfl) ⟨(adCards h0 q1 q2 q3), rfl, gW_cong fun p hp => ?_⟩
  simp only [gGc, List.mem_cons, List.not_mem_nil, or_false] at hp
  rcases hp with rfl | rfl | rfl | rfl <;> (show eUp _ e _ e _ = _; rw [eUp_s, gM0_e he]; exact z_Cards _ (by simp))
theorem d_Drops_init_0 : decode prog_3_method_1_code 0 = .ok (.aload_n 0, 1) := by decide +kernel
theorem d_Drops_init_1 : decode prog_3_method_1_code 1 = .ok (.invokespecial 3, 3) := by decide +kernel
theorem d_Drops_init_4 : decode prog_3_method_1_code 4 = .ok (.aload_n 0, 1) := by decide +kernel
theorem d_Drops_init_5 : decode prog_3_method_1_code 5 = .ok (.bipush 16, 2) := by decide +kernel
theorem d_Drops_init_7 : decode prog_3_method_1_code 7 = .ok (.newarray .int, 2) := by decide +kernel
theorem d_Drops_init_9 : decode prog_3_method_1_code 9 = .ok (.putfield 9, 3) := by decide +kernel
theorem d_Drops_init_12 : decode prog_3_method_1_code 12 = .ok (.aload_n 0, 1) := by decide +kernel
theorem d_Drops_init_13 : decode prog_3_method_1_code 13 = .ok (.bipush 16, 2) := by decide +kernel
theorem d_Drops_init_15 : decode prog_3_method_1_code 15 = .ok (.newarray .int, 2) := by decide +kernel
theorem d_Drops_init_17 : decode prog_3_method_1_code 17 = .ok (.putfield 15, 3) := by decide +kernel
theorem d_Drops_init_20 : decode prog_3_method_1_code 20 = .ok (.aload_n 0, 1) := by decide +kernel
theorem d_Drops_init_21 : decode prog_3_method_1_code 21 = .ok (.bipush 16, 2) := by decide +kernel
theorem d_Drops_init_23 : decode prog_3_method_1_code 23 = .ok (.newarray .int, 2) := by decide +kernel
theorem d_Drops_init_25 : decode prog_3_method_1_code 25 = .ok (.putfield 18, 3) := by decide +kernel
theorem d_Drops_init_28 : decode prog_3_method_1_code 28 = .ok (.aload_n 0, 1) := by decide +kernel
theorem d_Drops_init_29 : decode prog_3_method_1_code 29 = .ok (.bipush 16, 2) := by decide +kernel
theorem d_Drops_init_31 : decode prog_3_method_1_code 31 = .ok (.newarray .int, 2) := by decide +kernel
theorem d_Drops_init_33 : decode prog_3_method_1_code 33 = .ok (.putfield 21, 3) := by decide +kernel
theorem d_Drops_init_36 : decode prog_3_method_1_code 36 = .ok (.aload_n 0, 1) := by decide +kernel
theorem d_Drops_init_37 : decode prog_3_method_1_code 37 = .ok (.invokevirtual 24, 3) := by decide +kernel
theorem d_Drops_init_40 : decode prog_3_method_1_code 40 = .ok (.return_, 1) := by decide +kernel
abbrev k_Drops_init : gMD := (⟨"DropSignals$Drops", "<init>", "()V"⟩, prog_3_method_1_code, 1, none)
theorem w_84 : Cond.instanceMethod ⟨"DropSignals$Drops", "<init>", "()V"⟩ ∈ gWs := gWs_in (i := 84) (by decide +kernel) rfl
set_option maxRecDepth 100000 in
theorem ci_Drops_init : gCaI k_Drops_init := ⟨⟨gWs_in (i := 85) rfl rfl, w_24, by decide, by decide, by decide +kernel⟩, rfl, w_84, rfl⟩
theorem w_86 : Cond.methodLink "DropSignals$Drops" 3 objectInit ∈ gWs := gWs_in (i := 86) (by decide +kernel) rfl
theorem ff_Drops_9 : gFf "DropSignals$Drops" 9 1 0 (.array .int) := ⟨gN1, gF1, 4, rfl, uw_1, by decide, w_92, ⟨gX1, gY1⟩, gD1, rfl, rfl, by decide +kernel⟩
theorem ff_Drops_15 : gFf "DropSignals$Drops" 15 1 1 (.array .int) := ⟨gN1, gF1, 4, rfl, uw_1, by decide, w_93, ⟨gX1, gY1⟩, gD1, rfl, rfl, by decide +kernel⟩
theorem ff_Drops_18 : gFf "DropSignals$Drops" 18 1 2 (.array .int) := ⟨gN1, gF1, 4, rfl, uw_1, by decide, w_94, ⟨gX1, gY1⟩, gD1, rfl, rfl, by decide +kernel⟩
theorem ff_Drops_21 : gFf "DropSignals$Drops" 21 1 3 (.array .int) := ⟨gN1, gF1, 4, rfl, uw_1, by decide, w_95, ⟨gX1, gY1⟩, gD1, rfl, rfl, by decide +kernel⟩
def adDrops (h0 q1 q2 q3 q4 : Nat) : Nat → Nat → Nat := fun _ c => match c with
  | 2 => h0
  | 8 => q1
  | 9 => q2
  | 10 => q3
  | _ => q4
theorem w_87 : Cond.methodLink "DropSignals$Drops" 24 ⟨"DropSignals$Drops", "clear", "()V"⟩ ∈ gWs := gWs_in (i := 87) (by decide +kernel) rfl
theorem ct_iDrops {l : Launch} {D : va_G} {cA : Nat → ClassId} (e : Nat) (he : e < 18) (h0 : Nat) : cCt l D cA k_Drops_init 2 43 4 64 h0 (.inr (1, [.null, .null, .null, .null])) (fun ws => ∃ ad, ad e 2 = h0 ∧ ws = gW (D, cA, ad, gGd e) gM0) := by
  refine cCt_of (by decide) rfl (by decide) ?_
  refine c_aload_n d_Drops_init_0 rfl 0 rfl ?_
  refine c_obj d_Drops_init_1 w_86 w_44 w_obj (Nat.le_of_ble_eq_true rfl) (Nat.le_of_ble_eq_true rfl) ?_
  refine c_aload_n d_Drops_init_4 rfl 0 rfl ?_
  refine c_bipush (v := 16) d_Drops_init_5 (by decide) ?_
  refine c_newI (N := 16) d_Drops_init_7 w_80 (by decide) rfl (Nat.le_of_ble_eq_true rfl) (Nat.le_of_ble_eq_true rfl) (Nat.le_of_ble_eq_true rfl) (fun q1 => ?_)
  refine c_putR (fs' := [.ref q1, .null, .null, .null]) d_Drops_init_9 ff_Drops_9 rfl rfl (Nat.le_of_ble_eq_true rfl) rfl ?_
  refine c_aload_n d_Drops_init_12 rfl 0 rfl ?_
  refine c_bipush (v := 16) d_Drops_init_13 (by decide) ?_
  refine c_newI (N := 16) d_Drops_init_15 w_80 (by decide) rfl (Nat.le_of_ble_eq_true rfl) (Nat.le_of_ble_eq_true rfl) (Nat.le_of_ble_eq_true rfl) (fun q2 => ?_)
  refine c_putR (fs' := [.ref q1, .ref q2, .null, .null]) d_Drops_init_17 ff_Drops_15 rfl rfl (Nat.le_of_ble_eq_true rfl) rfl ?_
  refine c_aload_n d_Drops_init_20 rfl 0 rfl ?_
  refine c_bipush (v := 16) d_Drops_init_21 (by decide) ?_
  refine c_newI (N := 16) d_Drops_init_23 w_80 (by decide) rfl (Nat.le_of_ble_eq_true rfl) (Nat.le_of_ble_eq_true rfl) (Nat.le_of_ble_eq_true rfl) (fun q3 => ?_)
  refine c_putR (fs' := [.ref q1, .ref q2, .ref q3, .null]) d_Drops_init_25 ff_Drops_18 rfl rfl (Nat.le_of_ble_eq_true rfl) rfl ?_
  refine c_aload_n d_Drops_init_28 rfl 0 rfl ?_
  refine c_bipush (v := 16) d_Drops_init_29 (by decide) ?_
  refine c_newI (N := 16) d_Drops_init_31 w_80 (by decide) rfl (Nat.le_of_ble_eq_true rfl) (Nat.le_of_ble_eq_true rfl) (Nat.le_of_ble_eq_true rfl) (fun q4 => ?_)
  refine c_putR (fs' := [.ref q1, .ref q2, .ref q3, .ref q4]) d_Drops_init_33 ff_Drops_21 rfl rfl (Nat.le_of_ble_eq_true rfl) rfl ?_
  have hC : gDr (D, cA, (adDrops h0 q1 q2 q3 q4), gGd e) e := ⟨he, by simp [gGd], by simp [gGd], by simp [gGd], by simp [gGd], by simp [gGd]⟩
  refine c_go (ε := (D, cA, (adDrops h0 q1 q2 q3 q4), gGd e)) (M := gK1 (fun _ _ => 0)) rfl rfl (by unfold gW gGd; simp only [List.map_cons, List.map_nil, gK, gS_ev he]; rfl) ⟨(e, 2), by simp [gGd], rfl⟩ ?_
  refine g_aload_n d_Drops_init_36 rfl 0 rfl ?_
  have hclr : f_Drops_clear e (gK1 (fun _ _ => 0)) = some (eUp (gK1 (fun _ _ => 0)) e (kDr (fun _ _ => 0))) := by
    have h := p_Drops_clear (gK1 (fun _ _ => 0)) e (fun _ _ => 0)
    rw [gK1_e] at h
    exact h
  refine g_callV_v (As := []) (rest := []) (ct_Drops_clear e hC _ _ hclr) d_Drops_init_37 ca_Drops_clear w_87 (gDr_h2 hC) rfl rfl rfl (Nat.le_of_ble_eq_true rfl) ⟨Nat.le_of_ble_eq_true rfl, Nat.le_of_ble_eq_true rfl⟩ ?_
  refine c_goRet d_Drops_init_40 rfl rfl (Nat.le_of_ble_eq_true rfl) (Nat.le_of_ble_eq_true rfl) ⟨(adDrops h0 q1 q2 q3 q4), rfl, gW_cong fun p hp => ?_⟩
  simp only [gGd, List.mem_cons, List.not_mem_nil, or_false] at hp
  rcases hp with rfl | rfl | rfl | rfl | rfl <;> (show eUp _ e _ e _ = _; rw [eUp_s, gM0_e he]; exact z_Drops _ (by simp))
theorem d_Ev_init_0 : decode prog_4_method_1_code 0 = .ok (.aload_n 0, 1) := by decide +kernel
theorem d_Ev_init_1 : decode prog_4_method_1_code 1 = .ok (.invokespecial 3, 3) := by decide +kernel
theorem d_Ev_init_4 : decode prog_4_method_1_code 4 = .ok (.aload_n 0, 1) := by decide +kernel
theorem d_Ev_init_5 : decode prog_4_method_1_code 5 = .ok (.new 9, 3) := by decide +kernel
theorem d_Ev_init_8 : decode prog_4_method_1_code 8 = .ok (.dup, 1) := by decide +kernel
theorem d_Ev_init_9 : decode prog_4_method_1_code 9 = .ok (.invokespecial 11, 3) := by decide +kernel
theorem d_Ev_init_12 : decode prog_4_method_1_code 12 = .ok (.putfield 12, 3) := by decide +kernel
theorem d_Ev_init_15 : decode prog_4_method_1_code 15 = .ok (.aload_n 0, 1) := by decide +kernel
theorem d_Ev_init_16 : decode prog_4_method_1_code 16 = .ok (.new 18, 3) := by decide +kernel
theorem d_Ev_init_19 : decode prog_4_method_1_code 19 = .ok (.dup, 1) := by decide +kernel
theorem d_Ev_init_20 : decode prog_4_method_1_code 20 = .ok (.invokespecial 20, 3) := by decide +kernel
theorem d_Ev_init_23 : decode prog_4_method_1_code 23 = .ok (.putfield 21, 3) := by decide +kernel
theorem d_Ev_init_26 : decode prog_4_method_1_code 26 = .ok (.aload_n 0, 1) := by decide +kernel
theorem d_Ev_init_27 : decode prog_4_method_1_code 27 = .ok (.iconst 2, 1) := by decide +kernel
theorem d_Ev_init_28 : decode prog_4_method_1_code 28 = .ok (.newarray .int, 2) := by decide +kernel
theorem d_Ev_init_30 : decode prog_4_method_1_code 30 = .ok (.putfield 25, 3) := by decide +kernel
theorem d_Ev_init_33 : decode prog_4_method_1_code 33 = .ok (.aload_n 0, 1) := by decide +kernel
theorem d_Ev_init_34 : decode prog_4_method_1_code 34 = .ok (.iconst 2, 1) := by decide +kernel
theorem d_Ev_init_35 : decode prog_4_method_1_code 35 = .ok (.newarray .int, 2) := by decide +kernel
theorem d_Ev_init_37 : decode prog_4_method_1_code 37 = .ok (.putfield 29, 3) := by decide +kernel
theorem d_Ev_init_40 : decode prog_4_method_1_code 40 = .ok (.aload_n 0, 1) := by decide +kernel
theorem d_Ev_init_41 : decode prog_4_method_1_code 41 = .ok (.invokevirtual 32, 3) := by decide +kernel
theorem d_Ev_init_44 : decode prog_4_method_1_code 44 = .ok (.return_, 1) := by decide +kernel
abbrev k_Ev_init : gMD := (⟨"DropSignals$Evening", "<init>", "()V"⟩, prog_4_method_1_code, 1, none)
theorem w_49 : Cond.instanceMethod ⟨"DropSignals$Evening", "<init>", "()V"⟩ ∈ gWs := gWs_in (i := 49) (by decide +kernel) rfl
set_option maxRecDepth 100000 in
theorem ci_Ev_init : gCaI k_Ev_init := ⟨⟨gWs_in (i := 50) rfl rfl, w_21, by decide, by decide, by decide +kernel⟩, rfl, w_49, rfl⟩
theorem w_51 : Cond.methodLink "DropSignals$Evening" 3 objectInit ∈ gWs := gWs_in (i := 51) (by decide +kernel) rfl
theorem w_52 : Cond.classLink "DropSignals$Evening" 9 "DropSignals$Cards" ∈ gWs := gWs_in (i := 52) (by decide +kernel) rfl
theorem w_53 : Cond.instantiable "DropSignals$Cards" 4 ∈ gWs := gWs_in (i := 53) (by decide +kernel) rfl
theorem no_Ev_9 : gNo "DropSignals$Evening" 9 0 [.null, .null, .null, .int 0] := ⟨gN0, gF0, 4, gX0, rfl, uw_0, gY0, w_52, w_53, w_22, fun j hj => by rcases (show j = 0 ∨ j = 1 ∨ j = 2 ∨ j = 3 by omega) with rfl | rfl | rfl | rfl <;> rfl, rfl⟩
theorem w_54 : Cond.methodLink "DropSignals$Evening" 11 ⟨"DropSignals$Cards", "<init>", "()V"⟩ ∈ gWs := gWs_in (i := 54) (by decide +kernel) rfl
theorem ff_Ev_12 : gFf "DropSignals$Evening" 12 2 0 (.object "DropSignals$Cards") := ⟨gN2, gF2, 14, rfl, uw_2, by decide, w_116, ⟨gX2, gY2⟩, gD2, rfl, rfl, by decide +kernel⟩
theorem w_81 : Cond.classLink "DropSignals$Evening" 18 "DropSignals$Drops" ∈ gWs := gWs_in (i := 81) (by decide +kernel) rfl
theorem w_82 : Cond.instantiable "DropSignals$Drops" 4 ∈ gWs := gWs_in (i := 82) (by decide +kernel) rfl
theorem no_Ev_18 : gNo "DropSignals$Evening" 18 1 [.null, .null, .null, .null] := ⟨gN1, gF1, 4, gX1, rfl, uw_1, gY1, w_81, w_82, w_24, fun j hj => by rcases (show j = 0 ∨ j = 1 ∨ j = 2 ∨ j = 3 by omega) with rfl | rfl | rfl | rfl <;> rfl, rfl⟩
theorem w_83 : Cond.methodLink "DropSignals$Evening" 20 ⟨"DropSignals$Drops", "<init>", "()V"⟩ ∈ gWs := gWs_in (i := 83) (by decide +kernel) rfl
theorem ff_Ev_21 : gFf "DropSignals$Evening" 21 2 1 (.object "DropSignals$Drops") := ⟨gN2, gF2, 14, rfl, uw_2, by decide, w_120, ⟨gX2, gY2⟩, gD2, rfl, rfl, by decide +kernel⟩
theorem ff_Ev_25 : gFf "DropSignals$Evening" 25 2 2 (.array .int) := ⟨gN2, gF2, 14, rfl, uw_2, by decide, w_123, ⟨gX2, gY2⟩, gD2, rfl, rfl, by decide +kernel⟩
theorem ff_Ev_29 : gFf "DropSignals$Evening" 29 2 3 (.array .int) := ⟨gN2, gF2, 14, rfl, uw_2, by decide, w_125, ⟨gX2, gY2⟩, gD2, rfl, rfl, by decide +kernel⟩
def adEv (h0 q3 q4 : Nat) (a1 a2 : Nat → Nat → Nat) (e : Nat) : Nat → Nat → Nat := fun _ c => match c with
  | 0 => h0
  | 1 => a1 e 1
  | 5 => a1 e 5
  | 6 => a1 e 6
  | 7 => a1 e 7
  | 2 => a2 e 2
  | 8 => a2 e 8
  | 9 => a2 e 9
  | 10 => a2 e 10
  | 11 => a2 e 11
  | 3 => q3
  | _ => q4
theorem w_105 : Cond.methodLink "DropSignals$Evening" 32 ⟨"DropSignals$Evening", "clear", "()V"⟩ ∈ gWs := gWs_in (i := 105) (by decide +kernel) rfl
theorem ct_iEv {l : Launch} {D : va_G} {cA : Nat → ClassId} (e : Nat) (he : e < 18) (h0 : Nat) : cCt l D cA k_Ev_init 4 83 11 172 h0 (.inr (2, [.null, .null, .null, .null, .int 0, .int 0, .int 0, .int 0, .int 0, .int 0, .int 0, .int 0, .int 0, .int 0])) (fun ws => ∃ ad, ad e 0 = h0 ∧ ws = gW (D, cA, ad, gGe e) gM0) := by
  refine cCt_of (by decide) rfl (by decide) ?_
  refine c_aload_n d_Ev_init_0 rfl 0 rfl ?_
  refine c_obj d_Ev_init_1 w_51 w_44 w_obj (Nat.le_of_ble_eq_true rfl) (Nat.le_of_ble_eq_true rfl) ?_
  refine c_aload_n d_Ev_init_4 rfl 0 rfl ?_
  refine c_new d_Ev_init_5 no_Ev_9 (Nat.le_of_ble_eq_true rfl) (Nat.le_of_ble_eq_true rfl) (fun q1 => ?_)
  refine c_dup d_Ev_init_8 rfl ?_
  refine c_init (ct_iCards e he q1) d_Ev_init_9 ci_Cards_init w_54 (Nat.le_of_ble_eq_true rfl) ⟨Nat.le_of_ble_eq_true rfl, Nat.le_of_ble_eq_true rfl⟩ (Nat.le_of_ble_eq_true rfl) (Nat.le_of_ble_eq_true rfl) (fun w2 hw2 => ?_)
  refine c_putR (fs' := [.ref q1, .null, .null, .null, .int 0, .int 0, .int 0, .int 0, .int 0, .int 0, .int 0, .int 0, .int 0, .int 0]) d_Ev_init_12 ff_Ev_12 rfl rfl (Nat.le_of_ble_eq_true rfl) rfl ?_
  refine c_aload_n d_Ev_init_15 rfl 0 rfl ?_
  refine c_new d_Ev_init_16 no_Ev_18 (Nat.le_of_ble_eq_true rfl) (Nat.le_of_ble_eq_true rfl) (fun q3 => ?_)
  refine c_dup d_Ev_init_19 rfl ?_
  refine c_init (ct_iDrops e he q3) d_Ev_init_20 ci_Drops_init w_83 (Nat.le_of_ble_eq_true rfl) ⟨Nat.le_of_ble_eq_true rfl, Nat.le_of_ble_eq_true rfl⟩ (Nat.le_of_ble_eq_true rfl) (Nat.le_of_ble_eq_true rfl) (fun w4 hw4 => ?_)
  refine c_putR (fs' := [.ref q1, .ref q3, .null, .null, .int 0, .int 0, .int 0, .int 0, .int 0, .int 0, .int 0, .int 0, .int 0, .int 0]) d_Ev_init_23 ff_Ev_21 rfl rfl (Nat.le_of_ble_eq_true rfl) rfl ?_
  refine c_aload_n d_Ev_init_26 rfl 0 rfl ?_
  refine c_iconst (v := 2) d_Ev_init_27 (by decide) ?_
  refine c_newI (N := 2) d_Ev_init_28 w_80 (by decide) rfl (Nat.le_of_ble_eq_true rfl) (Nat.le_of_ble_eq_true rfl) (Nat.le_of_ble_eq_true rfl) (fun q5 => ?_)
  refine c_putR (fs' := [.ref q1, .ref q3, .ref q5, .null, .int 0, .int 0, .int 0, .int 0, .int 0, .int 0, .int 0, .int 0, .int 0, .int 0]) d_Ev_init_30 ff_Ev_25 rfl rfl (Nat.le_of_ble_eq_true rfl) rfl ?_
  refine c_aload_n d_Ev_init_33 rfl 0 rfl ?_
  refine c_iconst (v := 2) d_Ev_init_34 (by decide) ?_
  refine c_newI (N := 2) d_Ev_init_35 w_80 (by decide) rfl (Nat.le_of_ble_eq_true rfl) (Nat.le_of_ble_eq_true rfl) (Nat.le_of_ble_eq_true rfl) (fun q6 => ?_)
  refine c_putR (fs' := [.ref q1, .ref q3, .ref q5, .ref q6, .int 0, .int 0, .int 0, .int 0, .int 0, .int 0, .int 0, .int 0, .int 0, .int 0]) d_Ev_init_37 ff_Ev_29 rfl rfl (Nat.le_of_ble_eq_true rfl) rfl ?_
  obtain ⟨a1, rfl, rfl⟩ := hw2
  obtain ⟨a2, rfl, rfl⟩ := hw4
  have hE : gEv (D, cA, (adEv h0 q5 q6 a1 a2 e), gGe e) e := ⟨he, fun c hc => by
    rcases (show c = 0 ∨ c = 1 ∨ c = 2 ∨ c = 3 ∨ c = 4 ∨ c = 5 ∨ c = 6 ∨ c = 7 ∨ c = 8 ∨ c = 9 ∨ c = 10 ∨ c = 11 by omega) with rfl | rfl | rfl | rfl | rfl | rfl | rfl | rfl | rfl | rfl | rfl | rfl <;> simp [gGe]⟩
  refine c_go (ε := (D, cA, (adEv h0 q5 q6 a1 a2 e), gGe e)) (M := gK1 eZ) rfl rfl (by unfold gW gGe gGc gGd; simp only [List.map_cons, List.map_nil, List.cons_append, List.nil_append, gK, gS_ev he, gM0_e he]; rfl) ⟨(e, 0), by simp [gGe], rfl⟩ ?_
  refine g_aload_n d_Ev_init_40 rfl 0 rfl ?_
  have hclr : f_Ev_clear e (gK1 eZ) = some (eUp (gK1 eZ) e (kEv eZ)) := by
    have h := p_Ev_clear (gK1 eZ) e eZ
    rw [gK1_e] at h
    exact h
  refine g_callV_v (As := []) (rest := []) (ct_Ev_clear e hE _ _ hclr) d_Ev_init_41 ca_Ev_clear w_105 (gEv_h0 hE) rfl rfl rfl (Nat.le_of_ble_eq_true rfl) ⟨Nat.le_of_ble_eq_true rfl, Nat.le_of_ble_eq_true rfl⟩ ?_
  refine c_goRet d_Ev_init_44 rfl rfl (Nat.le_of_ble_eq_true rfl) (Nat.le_of_ble_eq_true rfl) ⟨(adEv h0 q5 q6 a1 a2 e), rfl, gW_cong fun p hp => ?_⟩
  simp only [gGe, List.mem_cons, List.not_mem_nil, or_false] at hp
  rcases hp with rfl | rfl | rfl | rfl | rfl | rfl | rfl | rfl | rfl | rfl | rfl | rfl <;> (show eUp _ e _ e _ = _; rw [eUp_s, gM0_e he]; exact z_Ev _ (Nat.le_of_ble_eq_true rfl))
theorem d_Mem_init_0 : decode prog_5_method_1_code 0 = .ok (.aload_n 0, 1) := by decide +kernel
theorem d_Mem_init_1 : decode prog_5_method_1_code 1 = .ok (.invokespecial 3, 3) := by decide +kernel
theorem d_Mem_init_4 : decode prog_5_method_1_code 4 = .ok (.aload_n 0, 1) := by decide +kernel
theorem d_Mem_init_5 : decode prog_5_method_1_code 5 = .ok (.bipush 14, 2) := by decide +kernel
theorem d_Mem_init_7 : decode prog_5_method_1_code 7 = .ok (.anewarray 9, 3) := by decide +kernel
theorem d_Mem_init_10 : decode prog_5_method_1_code 10 = .ok (.putfield 11, 3) := by decide +kernel
theorem d_Mem_init_13 : decode prog_5_method_1_code 13 = .ok (.iconst 0, 1) := by decide +kernel
theorem d_Mem_init_14 : decode prog_5_method_1_code 14 = .ok (.istore_n 1, 1) := by decide +kernel
theorem d_Mem_init_15 : decode prog_5_method_1_code 15 = .ok (.iload_n 1, 1) := by decide +kernel
theorem d_Mem_init_16 : decode prog_5_method_1_code 16 = .ok (.aload_n 0, 1) := by decide +kernel
theorem d_Mem_init_17 : decode prog_5_method_1_code 17 = .ok (.getfield 11, 3) := by decide +kernel
theorem d_Mem_init_20 : decode prog_5_method_1_code 20 = .ok (.arraylength, 1) := by decide +kernel
theorem d_Mem_init_21 : decode prog_5_method_1_code 21 = .ok (.if_icmp .ge 22, 3) := by decide +kernel
theorem d_Mem_init_24 : decode prog_5_method_1_code 24 = .ok (.aload_n 0, 1) := by decide +kernel
theorem d_Mem_init_25 : decode prog_5_method_1_code 25 = .ok (.getfield 11, 3) := by decide +kernel
theorem d_Mem_init_28 : decode prog_5_method_1_code 28 = .ok (.iload_n 1, 1) := by decide +kernel
theorem d_Mem_init_29 : decode prog_5_method_1_code 29 = .ok (.new 9, 3) := by decide +kernel
theorem d_Mem_init_32 : decode prog_5_method_1_code 32 = .ok (.dup, 1) := by decide +kernel
theorem d_Mem_init_33 : decode prog_5_method_1_code 33 = .ok (.invokespecial 17, 3) := by decide +kernel
theorem d_Mem_init_36 : decode prog_5_method_1_code 36 = .ok (.aastore, 1) := by decide +kernel
theorem d_Mem_init_37 : decode prog_5_method_1_code 37 = .ok (.iinc 1 1, 3) := by decide +kernel
theorem d_Mem_init_40 : decode prog_5_method_1_code 40 = .ok (.goto (-25), 3) := by decide +kernel
theorem d_Mem_init_43 : decode prog_5_method_1_code 43 = .ok (.return_, 1) := by decide +kernel
abbrev k_Mem_init : gMD := (⟨"DropSignals$Memory", "<init>", "()V"⟩, prog_5_method_1_code, 2, none)
theorem w_178 : Cond.instanceMethod ⟨"DropSignals$Memory", "<init>", "()V"⟩ ∈ gWs := gWs_in (i := 178) (by decide +kernel) rfl
set_option maxRecDepth 100000 in
theorem ci_Mem_init : gCaI k_Mem_init := ⟨⟨gWs_in (i := 179) rfl rfl, w_25, by decide, by decide, by decide +kernel⟩, rfl, w_178, rfl⟩
theorem w_180 : Cond.methodLink "DropSignals$Memory" 3 objectInit ∈ gWs := gWs_in (i := 180) (by decide +kernel) rfl
theorem w_181 : Cond.classLink "DropSignals$Memory" 9 "DropSignals$Evening" ∈ gWs := gWs_in (i := 181) (by decide +kernel) rfl
theorem ff_Mem_11 : gFf "DropSignals$Memory" 11 3 0 (.array (.object "DropSignals$Evening")) := ⟨gN3, gF3, 3, rfl, uw_3, by decide, w_184, ⟨gX3, gY3⟩, gD3, rfl, rfl, by decide +kernel⟩
theorem w_47 : Cond.instantiable "DropSignals$Evening" 14 ∈ gWs := gWs_in (i := 47) (by decide +kernel) rfl
theorem no_Mem_9 : gNo "DropSignals$Memory" 9 2 [.null, .null, .null, .null, .int 0, .int 0, .int 0, .int 0, .int 0, .int 0, .int 0, .int 0, .int 0, .int 0] := ⟨gN2, gF2, 14, gX2, rfl, uw_2, gY2, w_181, w_47, w_21, fun j hj => by rcases (show j = 0 ∨ j = 1 ∨ j = 2 ∨ j = 3 ∨ j = 4 ∨ j = 5 ∨ j = 6 ∨ j = 7 ∨ j = 8 ∨ j = 9 ∨ j = 10 ∨ j = 11 ∨ j = 12 ∨ j = 13 by omega) with rfl | rfl | rfl | rfl | rfl | rfl | rfl | rfl | rfl | rfl | rfl | rfl | rfl | rfl <;> rfl, rfl⟩
theorem w_183 : Cond.methodLink "DropSignals$Memory" 17 ⟨"DropSignals$Evening", "<init>", "()V"⟩ ∈ gWs := gWs_in (i := 183) (by decide +kernel) rfl
def gGm : List (Nat × Nat) := (18, 1) :: (18, 2) :: ((((((((((((((gGe 2) ++ gGe 3) ++ gGe 4) ++ gGe 5) ++ gGe 6) ++ gGe 7) ++ gGe 8) ++ gGe 9) ++ gGe 10) ++ gGe 11) ++ gGe 12) ++ gGe 13) ++ gGe 14) ++ gGe 15)
def adMem (h0 q1  : Nat) (a2 : Nat → Nat → Nat) (a3 : Nat → Nat → Nat) (a4 : Nat → Nat → Nat) (a5 : Nat → Nat → Nat) (a6 : Nat → Nat → Nat) (a7 : Nat → Nat → Nat) (a8 : Nat → Nat → Nat) (a9 : Nat → Nat → Nat) (a10 : Nat → Nat → Nat) (a11 : Nat → Nat → Nat) (a12 : Nat → Nat → Nat) (a13 : Nat → Nat → Nat) (a14 : Nat → Nat → Nat) (a15 : Nat → Nat → Nat) : Nat → Nat → Nat := fun g c => if g = 2 then a2 2 c else if g = 3 then a3 3 c else if g = 4 then a4 4 c else if g = 5 then a5 5 c else if g = 6 then a6 6 c else if g = 7 then a7 7 c else if g = 8 then a8 8 c else if g = 9 then a9 9 c else if g = 10 then a10 10 c else if g = 11 then a11 11 c else if g = 12 then a12 12 c else if g = 13 then a13 13 c else if g = 14 then a14 14 c else if g = 15 then a15 15 c else if c = 1 then h0 else q1
set_option maxRecDepth 100000 in
set_option maxHeartbeats 4000000 in
theorem ct_iMem {l : Launch} {D : va_G} {cA : Nat → ClassId} (h0 : Nat) : cCt l D cA k_Mem_init 5 103 169 2618 h0 (.inr (3, [.null, .int 0, .int 0])) (fun ws => ∃ ad, ad 18 1 = h0 ∧ ws = gW (D, cA, ad, gGm) gM0) := by
  refine cCt_of (by decide) rfl (by decide) ?_
  refine c_aload_n d_Mem_init_0 rfl 0 rfl ?_
  refine c_obj d_Mem_init_1 w_180 w_44 w_obj (Nat.le_of_ble_eq_true rfl) (Nat.le_of_ble_eq_true rfl) ?_
  refine c_aload_n d_Mem_init_4 rfl 0 rfl ?_
  refine c_bipush (v := 14) d_Mem_init_5 (by decide) ?_
  refine c_newE (N := 14) d_Mem_init_7 w_181 (by decide) rfl (Nat.le_of_ble_eq_true rfl) (Nat.le_of_ble_eq_true rfl) (Nat.le_of_ble_eq_true rfl) (fun q1 => ?_)
  refine c_putR (fs' := [.ref q1, .int 0, .int 0]) d_Mem_init_10 ff_Mem_11 rfl rfl (Nat.le_of_ble_eq_true rfl) rfl ?_
  refine c_iconst (v := 0) d_Mem_init_13 (by decide) ?_
  refine c_istore_n (L' := [(1, .int 0), (0, .ref h0)]) d_Mem_init_14 rfl (by decide) rfl ?_
  refine c_iload_n d_Mem_init_15 rfl 0 rfl ?_
  refine c_aload_n d_Mem_init_16 rfl 1 rfl ?_
  refine c_getR (v := q1) d_Mem_init_17 fl_Mem_11 rfl ?_
  refine c_alenE d_Mem_init_20 ?_
  refine c_icmp_ge (tgt := 43) d_Mem_init_21 (by decide) (fun c => absurd c (by decide)) (fun _ => ?_)
  refine c_aload_n d_Mem_init_24 rfl 1 rfl ?_
  refine c_getR (v := q1) d_Mem_init_25 fl_Mem_11 rfl ?_
  refine c_iload_n d_Mem_init_28 rfl 0 rfl ?_
  refine c_new d_Mem_init_29 no_Mem_9 (Nat.le_of_ble_eq_true rfl) (Nat.le_of_ble_eq_true rfl) (fun q2 => ?_)
  refine c_dup d_Mem_init_32 rfl ?_
  refine c_init (ct_iEv 2 (by decide) q2) d_Mem_init_33 ci_Ev_init w_183 (Nat.le_of_ble_eq_true rfl) ⟨Nat.le_of_ble_eq_true rfl, Nat.le_of_ble_eq_true rfl⟩ (Nat.le_of_ble_eq_true rfl) (Nat.le_of_ble_eq_true rfl) (fun w3 hw3 => ?_)
  obtain ⟨a2, rfl, rfl⟩ := hw3
  refine c_aastE (j := 0) (qk := 0) d_Mem_init_36 rfl (by decide) (by decide) rfl ?_
  refine c_iinc (v := 1) (L' := [(1, .int 1), (0, .ref h0)]) d_Mem_init_37 (j := 0) rfl rfl (by decide) rfl ?_
  refine c_goto (tgt := 15) d_Mem_init_40 (by decide) ?_
  refine c_iload_n d_Mem_init_15 rfl 0 rfl ?_
  refine c_aload_n d_Mem_init_16 rfl 1 rfl ?_
  refine c_getR (v := q1) d_Mem_init_17 fl_Mem_11 rfl ?_
  refine c_alenE d_Mem_init_20 ?_
  refine c_icmp_ge (tgt := 43) d_Mem_init_21 (by decide) (fun c => absurd c (by decide)) (fun _ => ?_)
  refine c_aload_n d_Mem_init_24 rfl 1 rfl ?_
  refine c_getR (v := q1) d_Mem_init_25 fl_Mem_11 rfl ?_
  refine c_iload_n d_Mem_init_28 rfl 0 rfl ?_
  refine c_new d_Mem_init_29 no_Mem_9 (Nat.le_of_ble_eq_true rfl) (Nat.le_of_ble_eq_true rfl) (fun q4 => ?_)
  refine c_dup d_Mem_init_32 rfl ?_
  refine c_init (ct_iEv 3 (by decide) q4) d_Mem_init_33 ci_Ev_init w_183 (Nat.le_of_ble_eq_true rfl) ⟨Nat.le_of_ble_eq_true rfl, Nat.le_of_ble_eq_true rfl⟩ (Nat.le_of_ble_eq_true rfl) (Nat.le_of_ble_eq_true rfl) (fun w5 hw5 => ?_)
  obtain ⟨a3, rfl, rfl⟩ := hw5
  refine c_aastE (j := 1) (qk := 12) d_Mem_init_36 rfl (by decide) (by decide) rfl ?_
  refine c_iinc (v := 2) (L' := [(1, .int 2), (0, .ref h0)]) d_Mem_init_37 (j := 0) rfl rfl (by decide) rfl ?_
  refine c_goto (tgt := 15) d_Mem_init_40 (by decide) ?_
  refine c_iload_n d_Mem_init_15 rfl 0 rfl ?_
  refine c_aload_n d_Mem_init_16 rfl 1 rfl ?_
  refine c_getR (v := q1) d_Mem_init_17 fl_Mem_11 rfl ?_
  refine c_alenE d_Mem_init_20 ?_
  refine c_icmp_ge (tgt := 43) d_Mem_init_21 (by decide) (fun c => absurd c (by decide)) (fun _ => ?_)
  refine c_aload_n d_Mem_init_24 rfl 1 rfl ?_
  refine c_getR (v := q1) d_Mem_init_25 fl_Mem_11 rfl ?_
  refine c_iload_n d_Mem_init_28 rfl 0 rfl ?_
  refine c_new d_Mem_init_29 no_Mem_9 (Nat.le_of_ble_eq_true rfl) (Nat.le_of_ble_eq_true rfl) (fun q6 => ?_)
  refine c_dup d_Mem_init_32 rfl ?_
  refine c_init (ct_iEv 4 (by decide) q6) d_Mem_init_33 ci_Ev_init w_183 (Nat.le_of_ble_eq_true rfl) ⟨Nat.le_of_ble_eq_true rfl, Nat.le_of_ble_eq_true rfl⟩ (Nat.le_of_ble_eq_true rfl) (Nat.le_of_ble_eq_true rfl) (fun w7 hw7 => ?_)
  obtain ⟨a4, rfl, rfl⟩ := hw7
  refine c_aastE (j := 2) (qk := 24) d_Mem_init_36 rfl (by decide) (by decide) rfl ?_
  refine c_iinc (v := 3) (L' := [(1, .int 3), (0, .ref h0)]) d_Mem_init_37 (j := 0) rfl rfl (by decide) rfl ?_
  refine c_goto (tgt := 15) d_Mem_init_40 (by decide) ?_
  refine c_iload_n d_Mem_init_15 rfl 0 rfl ?_
  refine c_aload_n d_Mem_init_16 rfl 1 rfl ?_
  refine c_getR (v := q1) d_Mem_init_17 fl_Mem_11 rfl ?_
  refine c_alenE d_Mem_init_20 ?_
  refine c_icmp_ge (tgt := 43) d_Mem_init_21 (by decide) (fun c => absurd c (by decide)) (fun _ => ?_)
  refine c_aload_n d_Mem_init_24 rfl 1 rfl ?_
  refine c_getR (v := q1) d_Mem_init_25 fl_Mem_11 rfl ?_
  refine c_iload_n d_Mem_init_28 rfl 0 rfl ?_
  refine c_new d_Mem_init_29 no_Mem_9 (Nat.le_of_ble_eq_true rfl) (Nat.le_of_ble_eq_true rfl) (fun q8 => ?_)
  refine c_dup d_Mem_init_32 rfl ?_
  refine c_init (ct_iEv 5 (by decide) q8) d_Mem_init_33 ci_Ev_init w_183 (Nat.le_of_ble_eq_true rfl) ⟨Nat.le_of_ble_eq_true rfl, Nat.le_of_ble_eq_true rfl⟩ (Nat.le_of_ble_eq_true rfl) (Nat.le_of_ble_eq_true rfl) (fun w9 hw9 => ?_)
  obtain ⟨a5, rfl, rfl⟩ := hw9
  refine c_aastE (j := 3) (qk := 36) d_Mem_init_36 rfl (by decide) (by decide) rfl ?_
  refine c_iinc (v := 4) (L' := [(1, .int 4), (0, .ref h0)]) d_Mem_init_37 (j := 0) rfl rfl (by decide) rfl ?_
  refine c_goto (tgt := 15) d_Mem_init_40 (by decide) ?_
  refine c_iload_n d_Mem_init_15 rfl 0 rfl ?_
  refine c_aload_n d_Mem_init_16 rfl 1 rfl ?_
  refine c_getR (v := q1) d_Mem_init_17 fl_Mem_11 rfl ?_
  refine c_alenE d_Mem_init_20 ?_
  refine c_icmp_ge (tgt := 43) d_Mem_init_21 (by decide) (fun c => absurd c (by decide)) (fun _ => ?_)
  refine c_aload_n d_Mem_init_24 rfl 1 rfl ?_
  refine c_getR (v := q1) d_Mem_init_25 fl_Mem_11 rfl ?_
  refine c_iload_n d_Mem_init_28 rfl 0 rfl ?_
  refine c_new d_Mem_init_29 no_Mem_9 (Nat.le_of_ble_eq_true rfl) (Nat.le_of_ble_eq_true rfl) (fun q10 => ?_)
  refine c_dup d_Mem_init_32 rfl ?_
  refine c_init (ct_iEv 6 (by decide) q10) d_Mem_init_33 ci_Ev_init w_183 (Nat.le_of_ble_eq_true rfl) ⟨Nat.le_of_ble_eq_true rfl, Nat.le_of_ble_eq_true rfl⟩ (Nat.le_of_ble_eq_true rfl) (Nat.le_of_ble_eq_true rfl) (fun w11 hw11 => ?_)
  obtain ⟨a6, rfl, rfl⟩ := hw11
  refine c_aastE (j := 4) (qk := 48) d_Mem_init_36 rfl (by decide) (by decide) rfl ?_
  refine c_iinc (v := 5) (L' := [(1, .int 5), (0, .ref h0)]) d_Mem_init_37 (j := 0) rfl rfl (by decide) rfl ?_
  refine c_goto (tgt := 15) d_Mem_init_40 (by decide) ?_
  refine c_iload_n d_Mem_init_15 rfl 0 rfl ?_
  refine c_aload_n d_Mem_init_16 rfl 1 rfl ?_
  refine c_getR (v := q1) d_Mem_init_17 fl_Mem_11 rfl ?_
  refine c_alenE d_Mem_init_20 ?_
  refine c_icmp_ge (tgt := 43) d_Mem_init_21 (by decide) (fun c => absurd c (by decide)) (fun _ => ?_)
  refine c_aload_n d_Mem_init_24 rfl 1 rfl ?_
  refine c_getR (v := q1) d_Mem_init_25 fl_Mem_11 rfl ?_
  refine c_iload_n d_Mem_init_28 rfl 0 rfl ?_
  refine c_new d_Mem_init_29 no_Mem_9 (Nat.le_of_ble_eq_true rfl) (Nat.le_of_ble_eq_true rfl) (fun q12 => ?_)
  refine c_dup d_Mem_init_32 rfl ?_
  refine c_init (ct_iEv 7 (by decide) q12) d_Mem_init_33 ci_Ev_init w_183 (Nat.le_of_ble_eq_true rfl) ⟨Nat.le_of_ble_eq_true rfl, Nat.le_of_ble_eq_true rfl⟩ (Nat.le_of_ble_eq_true rfl) (Nat.le_of_ble_eq_true rfl) (fun w13 hw13 => ?_)
  obtain ⟨a7, rfl, rfl⟩ := hw13
  refine c_aastE (j := 5) (qk := 60) d_Mem_init_36 rfl (by decide) (by decide) rfl ?_
  refine c_iinc (v := 6) (L' := [(1, .int 6), (0, .ref h0)]) d_Mem_init_37 (j := 0) rfl rfl (by decide) rfl ?_
  refine c_goto (tgt := 15) d_Mem_init_40 (by decide) ?_
  refine c_iload_n d_Mem_init_15 rfl 0 rfl ?_
  refine c_aload_n d_Mem_init_16 rfl 1 rfl ?_
  refine c_getR (v := q1) d_Mem_init_17 fl_Mem_11 rfl ?_
  refine c_alenE d_Mem_init_20 ?_
  refine c_icmp_ge (tgt := 43) d_Mem_init_21 (by decide) (fun c => absurd c (by decide)) (fun _ => ?_)
  refine c_aload_n d_Mem_init_24 rfl 1 rfl ?_
  refine c_getR (v := q1) d_Mem_init_25 fl_Mem_11 rfl ?_
  refine c_iload_n d_Mem_init_28 rfl 0 rfl ?_
  refine c_new d_Mem_init_29 no_Mem_9 (Nat.le_of_ble_eq_true rfl) (Nat.le_of_ble_eq_true rfl) (fun q14 => ?_)
  refine c_dup d_Mem_init_32 rfl ?_
  refine c_init (ct_iEv 8 (by decide) q14) d_Mem_init_33 ci_Ev_init w_183 (Nat.le_of_ble_eq_true rfl) ⟨Nat.le_of_ble_eq_true rfl, Nat.le_of_ble_eq_true rfl⟩ (Nat.le_of_ble_eq_true rfl) (Nat.le_of_ble_eq_true rfl) (fun w15 hw15 => ?_)
  obtain ⟨a8, rfl, rfl⟩ := hw15
  refine c_aastE (j := 6) (qk := 72) d_Mem_init_36 rfl (by decide) (by decide) rfl ?_
  refine c_iinc (v := 7) (L' := [(1, .int 7), (0, .ref h0)]) d_Mem_init_37 (j := 0) rfl rfl (by decide) rfl ?_
  refine c_goto (tgt := 15) d_Mem_init_40 (by decide) ?_
  refine c_iload_n d_Mem_init_15 rfl 0 rfl ?_
  refine c_aload_n d_Mem_init_16 rfl 1 rfl ?_
  refine c_getR (v := q1) d_Mem_init_17 fl_Mem_11 rfl ?_
  refine c_alenE d_Mem_init_20 ?_
  refine c_icmp_ge (tgt := 43) d_Mem_init_21 (by decide) (fun c => absurd c (by decide)) (fun _ => ?_)
  refine c_aload_n d_Mem_init_24 rfl 1 rfl ?_
  refine c_getR (v := q1) d_Mem_init_25 fl_Mem_11 rfl ?_
  refine c_iload_n d_Mem_init_28 rfl 0 rfl ?_
  refine c_new d_Mem_init_29 no_Mem_9 (Nat.le_of_ble_eq_true rfl) (Nat.le_of_ble_eq_true rfl) (fun q16 => ?_)
  refine c_dup d_Mem_init_32 rfl ?_
  refine c_init (ct_iEv 9 (by decide) q16) d_Mem_init_33 ci_Ev_init w_183 (Nat.le_of_ble_eq_true rfl) ⟨Nat.le_of_ble_eq_true rfl, Nat.le_of_ble_eq_true rfl⟩ (Nat.le_of_ble_eq_true rfl) (Nat.le_of_ble_eq_true rfl) (fun w17 hw17 => ?_)
  obtain ⟨a9, rfl, rfl⟩ := hw17
  refine c_aastE (j := 7) (qk := 84) d_Mem_init_36 rfl (by decide) (by decide) rfl ?_
  refine c_iinc (v := 8) (L' := [(1, .int 8), (0, .ref h0)]) d_Mem_init_37 (j := 0) rfl rfl (by decide) rfl ?_
  refine c_goto (tgt := 15) d_Mem_init_40 (by decide) ?_
  refine c_iload_n d_Mem_init_15 rfl 0 rfl ?_
  refine c_aload_n d_Mem_init_16 rfl 1 rfl ?_
  refine c_getR (v := q1) d_Mem_init_17 fl_Mem_11 rfl ?_
  refine c_alenE d_Mem_init_20 ?_
  refine c_icmp_ge (tgt := 43) d_Mem_init_21 (by decide) (fun c => absurd c (by decide)) (fun _ => ?_)
  refine c_aload_n d_Mem_init_24 rfl 1 rfl ?_
  refine c_getR (v := q1) d_Mem_init_25 fl_Mem_11 rfl ?_
  refine c_iload_n d_Mem_init_28 rfl 0 rfl ?_
  refine c_new d_Mem_init_29 no_Mem_9 (Nat.le_of_ble_eq_true rfl) (Nat.le_of_ble_eq_true rfl) (fun q18 => ?_)
  refine c_dup d_Mem_init_32 rfl ?_
  refine c_init (ct_iEv 10 (by decide) q18) d_Mem_init_33 ci_Ev_init w_183 (Nat.le_of_ble_eq_true rfl) ⟨Nat.le_of_ble_eq_true rfl, Nat.le_of_ble_eq_true rfl⟩ (Nat.le_of_ble_eq_true rfl) (Nat.le_of_ble_eq_true rfl) (fun w19 hw19 => ?_)
  obtain ⟨a10, rfl, rfl⟩ := hw19
  refine c_aastE (j := 8) (qk := 96) d_Mem_init_36 rfl (by decide) (by decide) rfl ?_
  refine c_iinc (v := 9) (L' := [(1, .int 9), (0, .ref h0)]) d_Mem_init_37 (j := 0) rfl rfl (by decide) rfl ?_
  refine c_goto (tgt := 15) d_Mem_init_40 (by decide) ?_
  refine c_iload_n d_Mem_init_15 rfl 0 rfl ?_
  refine c_aload_n d_Mem_init_16 rfl 1 rfl ?_
  refine c_getR (v := q1) d_Mem_init_17 fl_Mem_11 rfl ?_
  refine c_alenE d_Mem_init_20 ?_
  refine c_icmp_ge (tgt := 43) d_Mem_init_21 (by decide) (fun c => absurd c (by decide)) (fun _ => ?_)
  refine c_aload_n d_Mem_init_24 rfl 1 rfl ?_
  refine c_getR (v := q1) d_Mem_init_25 fl_Mem_11 rfl ?_
  refine c_iload_n d_Mem_init_28 rfl 0 rfl ?_
  refine c_new d_Mem_init_29 no_Mem_9 (Nat.le_of_ble_eq_true rfl) (Nat.le_of_ble_eq_true rfl) (fun q20 => ?_)
  refine c_dup d_Mem_init_32 rfl ?_
  refine c_init (ct_iEv 11 (by decide) q20) d_Mem_init_33 ci_Ev_init w_183 (Nat.le_of_ble_eq_true rfl) ⟨Nat.le_of_ble_eq_true rfl, Nat.le_of_ble_eq_true rfl⟩ (Nat.le_of_ble_eq_true rfl) (Nat.le_of_ble_eq_true rfl) (fun w21 hw21 => ?_)
  obtain ⟨a11, rfl, rfl⟩ := hw21
  refine c_aastE (j := 9) (qk := 108) d_Mem_init_36 rfl (by decide) (by decide) rfl ?_
  refine c_iinc (v := 10) (L' := [(1, .int 10), (0, .ref h0)]) d_Mem_init_37 (j := 0) rfl rfl (by decide) rfl ?_
  refine c_goto (tgt := 15) d_Mem_init_40 (by decide) ?_
  refine c_iload_n d_Mem_init_15 rfl 0 rfl ?_
  refine c_aload_n d_Mem_init_16 rfl 1 rfl ?_
  refine c_getR (v := q1) d_Mem_init_17 fl_Mem_11 rfl ?_
  refine c_alenE d_Mem_init_20 ?_
  refine c_icmp_ge (tgt := 43) d_Mem_init_21 (by decide) (fun c => absurd c (by decide)) (fun _ => ?_)
  refine c_aload_n d_Mem_init_24 rfl 1 rfl ?_
  refine c_getR (v := q1) d_Mem_init_25 fl_Mem_11 rfl ?_
  refine c_iload_n d_Mem_init_28 rfl 0 rfl ?_
  refine c_new d_Mem_init_29 no_Mem_9 (Nat.le_of_ble_eq_true rfl) (Nat.le_of_ble_eq_true rfl) (fun q22 => ?_)
  refine c_dup d_Mem_init_32 rfl ?_
  refine c_init (ct_iEv 12 (by decide) q22) d_Mem_init_33 ci_Ev_init w_183 (Nat.le_of_ble_eq_true rfl) ⟨Nat.le_of_ble_eq_true rfl, Nat.le_of_ble_eq_true rfl⟩ (Nat.le_of_ble_eq_true rfl) (Nat.le_of_ble_eq_true rfl) (fun w23 hw23 => ?_)
  obtain ⟨a12, rfl, rfl⟩ := hw23
  refine c_aastE (j := 10) (qk := 120) d_Mem_init_36 rfl (by decide) (by decide) rfl ?_
  refine c_iinc (v := 11) (L' := [(1, .int 11), (0, .ref h0)]) d_Mem_init_37 (j := 0) rfl rfl (by decide) rfl ?_
  refine c_goto (tgt := 15) d_Mem_init_40 (by decide) ?_
  refine c_iload_n d_Mem_init_15 rfl 0 rfl ?_
  refine c_aload_n d_Mem_init_16 rfl 1 rfl ?_
  refine c_getR (v := q1) d_Mem_init_17 fl_Mem_11 rfl ?_
  refine c_alenE d_Mem_init_20 ?_
  refine c_icmp_ge (tgt := 43) d_Mem_init_21 (by decide) (fun c => absurd c (by decide)) (fun _ => ?_)
  refine c_aload_n d_Mem_init_24 rfl 1 rfl ?_
  refine c_getR (v := q1) d_Mem_init_25 fl_Mem_11 rfl ?_
  refine c_iload_n d_Mem_init_28 rfl 0 rfl ?_
  refine c_new d_Mem_init_29 no_Mem_9 (Nat.le_of_ble_eq_true rfl) (Nat.le_of_ble_eq_true rfl) (fun q24 => ?_)
  refine c_dup d_Mem_init_32 rfl ?_
  refine c_init (ct_iEv 13 (by decide) q24) d_Mem_init_33 ci_Ev_init w_183 (Nat.le_of_ble_eq_true rfl) ⟨Nat.le_of_ble_eq_true rfl, Nat.le_of_ble_eq_true rfl⟩ (Nat.le_of_ble_eq_true rfl) (Nat.le_of_ble_eq_true rfl) (fun w25 hw25 => ?_)
  obtain ⟨a13, rfl, rfl⟩ := hw25
  refine c_aastE (j := 11) (qk := 132) d_Mem_init_36 rfl (by decide) (by decide) rfl ?_
  refine c_iinc (v := 12) (L' := [(1, .int 12), (0, .ref h0)]) d_Mem_init_37 (j := 0) rfl rfl (by decide) rfl ?_
  refine c_goto (tgt := 15) d_Mem_init_40 (by decide) ?_
  refine c_iload_n d_Mem_init_15 rfl 0 rfl ?_
  refine c_aload_n d_Mem_init_16 rfl 1 rfl ?_
  refine c_getR (v := q1) d_Mem_init_17 fl_Mem_11 rfl ?_
  refine c_alenE d_Mem_init_20 ?_
  refine c_icmp_ge (tgt := 43) d_Mem_init_21 (by decide) (fun c => absurd c (by decide)) (fun _ => ?_)
  refine c_aload_n d_Mem_init_24 rfl 1 rfl ?_
  refine c_getR (v := q1) d_Mem_init_25 fl_Mem_11 rfl ?_
  refine c_iload_n d_Mem_init_28 rfl 0 rfl ?_
  refine c_new d_Mem_init_29 no_Mem_9 (Nat.le_of_ble_eq_true rfl) (Nat.le_of_ble_eq_true rfl) (fun q26 => ?_)
  refine c_dup d_Mem_init_32 rfl ?_
  refine c_init (ct_iEv 14 (by decide) q26) d_Mem_init_33 ci_Ev_init w_183 (Nat.le_of_ble_eq_true rfl) ⟨Nat.le_of_ble_eq_true rfl, Nat.le_of_ble_eq_true rfl⟩ (Nat.le_of_ble_eq_true rfl) (Nat.le_of_ble_eq_true rfl) (fun w27 hw27 => ?_)
  obtain ⟨a14, rfl, rfl⟩ := hw27
  refine c_aastE (j := 12) (qk := 144) d_Mem_init_36 rfl (by decide) (by decide) rfl ?_
  refine c_iinc (v := 13) (L' := [(1, .int 13), (0, .ref h0)]) d_Mem_init_37 (j := 0) rfl rfl (by decide) rfl ?_
  refine c_goto (tgt := 15) d_Mem_init_40 (by decide) ?_
  refine c_iload_n d_Mem_init_15 rfl 0 rfl ?_
  refine c_aload_n d_Mem_init_16 rfl 1 rfl ?_
  refine c_getR (v := q1) d_Mem_init_17 fl_Mem_11 rfl ?_
  refine c_alenE d_Mem_init_20 ?_
  refine c_icmp_ge (tgt := 43) d_Mem_init_21 (by decide) (fun c => absurd c (by decide)) (fun _ => ?_)
  refine c_aload_n d_Mem_init_24 rfl 1 rfl ?_
  refine c_getR (v := q1) d_Mem_init_25 fl_Mem_11 rfl ?_
  refine c_iload_n d_Mem_init_28 rfl 0 rfl ?_
  refine c_new d_Mem_init_29 no_Mem_9 (Nat.le_of_ble_eq_true rfl) (Nat.le_of_ble_eq_true rfl) (fun q28 => ?_)
  refine c_dup d_Mem_init_32 rfl ?_
  refine c_init (ct_iEv 15 (by decide) q28) d_Mem_init_33 ci_Ev_init w_183 (Nat.le_of_ble_eq_true rfl) ⟨Nat.le_of_ble_eq_true rfl, Nat.le_of_ble_eq_true rfl⟩ (Nat.le_of_ble_eq_true rfl) (Nat.le_of_ble_eq_true rfl) (fun w29 hw29 => ?_)
  obtain ⟨a15, rfl, rfl⟩ := hw29
  refine c_aastE (j := 13) (qk := 156) d_Mem_init_36 rfl (by decide) (by decide) rfl ?_
  refine c_iinc (v := 14) (L' := [(1, .int 14), (0, .ref h0)]) d_Mem_init_37 (j := 0) rfl rfl (by decide) rfl ?_
  refine c_goto (tgt := 15) d_Mem_init_40 (by decide) ?_
  refine c_iload_n d_Mem_init_15 rfl 0 rfl ?_
  refine c_aload_n d_Mem_init_16 rfl 1 rfl ?_
  refine c_getR (v := q1) d_Mem_init_17 fl_Mem_11 rfl ?_
  refine c_alenE d_Mem_init_20 ?_
  refine c_icmp_ge (tgt := 43) d_Mem_init_21 (by decide) (fun _ => ?_) (fun c => absurd (by decide) c)
  refine c_vret d_Mem_init_43 rfl (Nat.le_of_ble_eq_true rfl) (Nat.le_of_ble_eq_true rfl) ⟨(adMem h0 q1  a2 a3 a4 a5 a6 a7 a8 a9 a10 a11 a12 a13 a14 a15), rfl, ?_⟩
  have s2 : gW (D, cA, a2, gGe 2) gM0 = gW (D, cA, (adMem h0 q1  a2 a3 a4 a5 a6 a7 a8 a9 a10 a11 a12 a13 a14 a15), gGe 2) gM0 := gW_ev (by decide) gM0 (fun _ => rfl)
  have s3 : gW (D, cA, a3, gGe 3) gM0 = gW (D, cA, (adMem h0 q1  a2 a3 a4 a5 a6 a7 a8 a9 a10 a11 a12 a13 a14 a15), gGe 3) gM0 := gW_ev (by decide) gM0 (fun _ => rfl)
  have s4 : gW (D, cA, a4, gGe 4) gM0 = gW (D, cA, (adMem h0 q1  a2 a3 a4 a5 a6 a7 a8 a9 a10 a11 a12 a13 a14 a15), gGe 4) gM0 := gW_ev (by decide) gM0 (fun _ => rfl)
  have s5 : gW (D, cA, a5, gGe 5) gM0 = gW (D, cA, (adMem h0 q1  a2 a3 a4 a5 a6 a7 a8 a9 a10 a11 a12 a13 a14 a15), gGe 5) gM0 := gW_ev (by decide) gM0 (fun _ => rfl)
  have s6 : gW (D, cA, a6, gGe 6) gM0 = gW (D, cA, (adMem h0 q1  a2 a3 a4 a5 a6 a7 a8 a9 a10 a11 a12 a13 a14 a15), gGe 6) gM0 := gW_ev (by decide) gM0 (fun _ => rfl)
  have s7 : gW (D, cA, a7, gGe 7) gM0 = gW (D, cA, (adMem h0 q1  a2 a3 a4 a5 a6 a7 a8 a9 a10 a11 a12 a13 a14 a15), gGe 7) gM0 := gW_ev (by decide) gM0 (fun _ => rfl)
  have s8 : gW (D, cA, a8, gGe 8) gM0 = gW (D, cA, (adMem h0 q1  a2 a3 a4 a5 a6 a7 a8 a9 a10 a11 a12 a13 a14 a15), gGe 8) gM0 := gW_ev (by decide) gM0 (fun _ => rfl)
  have s9 : gW (D, cA, a9, gGe 9) gM0 = gW (D, cA, (adMem h0 q1  a2 a3 a4 a5 a6 a7 a8 a9 a10 a11 a12 a13 a14 a15), gGe 9) gM0 := gW_ev (by decide) gM0 (fun _ => rfl)
  have s10 : gW (D, cA, a10, gGe 10) gM0 = gW (D, cA, (adMem h0 q1  a2 a3 a4 a5 a6 a7 a8 a9 a10 a11 a12 a13 a14 a15), gGe 10) gM0 := gW_ev (by decide) gM0 (fun _ => rfl)
  have s11 : gW (D, cA, a11, gGe 11) gM0 = gW (D, cA, (adMem h0 q1  a2 a3 a4 a5 a6 a7 a8 a9 a10 a11 a12 a13 a14 a15), gGe 11) gM0 := gW_ev (by decide) gM0 (fun _ => rfl)
  have s12 : gW (D, cA, a12, gGe 12) gM0 = gW (D, cA, (adMem h0 q1  a2 a3 a4 a5 a6 a7 a8 a9 a10 a11 a12 a13 a14 a15), gGe 12) gM0 := gW_ev (by decide) gM0 (fun _ => rfl)
  have s13 : gW (D, cA, a13, gGe 13) gM0 = gW (D, cA, (adMem h0 q1  a2 a3 a4 a5 a6 a7 a8 a9 a10 a11 a12 a13 a14 a15), gGe 13) gM0 := gW_ev (by decide) gM0 (fun _ => rfl)
  have s14 : gW (D, cA, a14, gGe 14) gM0 = gW (D, cA, (adMem h0 q1  a2 a3 a4 a5 a6 a7 a8 a9 a10 a11 a12 a13 a14 a15), gGe 14) gM0 := gW_ev (by decide) gM0 (fun _ => rfl)
  have s15 : gW (D, cA, a15, gGe 15) gM0 = gW (D, cA, (adMem h0 q1  a2 a3 a4 a5 a6 a7 a8 a9 a10 a11 a12 a13 a14 a15), gGe 15) gM0 := gW_ev (by decide) gM0 (fun _ => rfl)
  show _ = gK (D, cA, (adMem h0 q1  a2 a3 a4 a5 a6 a7 a8 a9 a10 a11 a12 a13 a14 a15), gGm) gM0 (18, 1) :: gK (D, cA, (adMem h0 q1  a2 a3 a4 a5 a6 a7 a8 a9 a10 a11 a12 a13 a14 a15), gGm) gM0 (18, 2) :: gW (D, cA, (adMem h0 q1  a2 a3 a4 a5 a6 a7 a8 a9 a10 a11 a12 a13 a14 a15), (((((((((((((gGe 2) ++ gGe 3) ++ gGe 4) ++ gGe 5) ++ gGe 6) ++ gGe 7) ++ gGe 8) ++ gGe 9) ++ gGe 10) ++ gGe 11) ++ gGe 12) ++ gGe 13) ++ gGe 14) ++ gGe 15) gM0
  rw [gW_app, gW_app, gW_app, gW_app, gW_app, gW_app, gW_app, gW_app, gW_app, gW_app, gW_app, gW_app, gW_app, s2, s3, s4, s5, s6, s7, s8, s9, s10, s11, s12, s13, s14, s15]
  refine congr (congrArg List.cons ?_) (congr (congrArg List.cons ?_) ?_)
  · rfl
  · refine congrArg (fun f => (q1, (Sum.inl (cA 2, 14, Sum.inr (Sum.inr (Sum.inr (Sum.inr f)))) : va_E))) ?_
    funext j
    by_cases hj : j < 14
    · rcases (show j = 0 ∨ j = 1 ∨ j = 2 ∨ j = 3 ∨ j = 4 ∨ j = 5 ∨ j = 6 ∨ j = 7 ∨ j = 8 ∨ j = 9 ∨ j = 10 ∨ j = 11 ∨ j = 12 ∨ j = 13 by omega) with rfl | rfl | rfl | rfl | rfl | rfl | rfl | rfl | rfl | rfl | rfl | rfl | rfl | rfl <;> rfl
    · rw [if_neg hj]
      simp only [va_up, if_neg (show ¬ j = 0 by omega), if_neg (show ¬ j = 1 by omega), if_neg (show ¬ j = 2 by omega), if_neg (show ¬ j = 3 by omega), if_neg (show ¬ j = 4 by omega), if_neg (show ¬ j = 5 by omega), if_neg (show ¬ j = 6 by omega), if_neg (show ¬ j = 7 by omega), if_neg (show ¬ j = 8 by omega), if_neg (show ¬ j = 9 by omega), if_neg (show ¬ j = 10 by omega), if_neg (show ¬ j = 11 by omega), if_neg (show ¬ j = 12 by omega), if_neg (show ¬ j = 13 by omega)]
  · rfl
theorem d_Slots_init_0 : decode prog_8_method_1_code 0 = .ok (.aload_n 0, 1) := by decide +kernel
theorem d_Slots_init_1 : decode prog_8_method_1_code 1 = .ok (.invokespecial 3, 3) := by decide +kernel
theorem d_Slots_init_4 : decode prog_8_method_1_code 4 = .ok (.aload_n 0, 1) := by decide +kernel
theorem d_Slots_init_5 : decode prog_8_method_1_code 5 = .ok (.iconst 2, 1) := by decide +kernel
theorem d_Slots_init_6 : decode prog_8_method_1_code 6 = .ok (.anewarray 9, 3) := by decide +kernel
theorem d_Slots_init_9 : decode prog_8_method_1_code 9 = .ok (.putfield 11, 3) := by decide +kernel
theorem d_Slots_init_12 : decode prog_8_method_1_code 12 = .ok (.aload_n 0, 1) := by decide +kernel
theorem d_Slots_init_13 : decode prog_8_method_1_code 13 = .ok (.iconst 2, 1) := by decide +kernel
theorem d_Slots_init_14 : decode prog_8_method_1_code 14 = .ok (.newarray .boolean, 2) := by decide +kernel
theorem d_Slots_init_16 : decode prog_8_method_1_code 16 = .ok (.putfield 17, 3) := by decide +kernel
theorem d_Slots_init_19 : decode prog_8_method_1_code 19 = .ok (.iconst 0, 1) := by decide +kernel
theorem d_Slots_init_20 : decode prog_8_method_1_code 20 = .ok (.istore_n 1, 1) := by decide +kernel
theorem d_Slots_init_21 : decode prog_8_method_1_code 21 = .ok (.iload_n 1, 1) := by decide +kernel
theorem d_Slots_init_22 : decode prog_8_method_1_code 22 = .ok (.aload_n 0, 1) := by decide +kernel
theorem d_Slots_init_23 : decode prog_8_method_1_code 23 = .ok (.getfield 11, 3) := by decide +kernel
theorem d_Slots_init_26 : decode prog_8_method_1_code 26 = .ok (.arraylength, 1) := by decide +kernel
theorem d_Slots_init_27 : decode prog_8_method_1_code 27 = .ok (.if_icmp .ge 22, 3) := by decide +kernel
theorem d_Slots_init_30 : decode prog_8_method_1_code 30 = .ok (.aload_n 0, 1) := by decide +kernel
theorem d_Slots_init_31 : decode prog_8_method_1_code 31 = .ok (.getfield 11, 3) := by decide +kernel
theorem d_Slots_init_34 : decode prog_8_method_1_code 34 = .ok (.iload_n 1, 1) := by decide +kernel
theorem d_Slots_init_35 : decode prog_8_method_1_code 35 = .ok (.new 9, 3) := by decide +kernel
theorem d_Slots_init_38 : decode prog_8_method_1_code 38 = .ok (.dup, 1) := by decide +kernel
theorem d_Slots_init_39 : decode prog_8_method_1_code 39 = .ok (.invokespecial 21, 3) := by decide +kernel
theorem d_Slots_init_42 : decode prog_8_method_1_code 42 = .ok (.aastore, 1) := by decide +kernel
theorem d_Slots_init_43 : decode prog_8_method_1_code 43 = .ok (.iinc 1 1, 3) := by decide +kernel
theorem d_Slots_init_46 : decode prog_8_method_1_code 46 = .ok (.goto (-25), 3) := by decide +kernel
theorem d_Slots_init_49 : decode prog_8_method_1_code 49 = .ok (.return_, 1) := by decide +kernel
abbrev k_Slots_init : gMD := (⟨"DropSignals$Slots", "<init>", "()V"⟩, prog_8_method_1_code, 2, none)
theorem w_197 : Cond.instanceMethod ⟨"DropSignals$Slots", "<init>", "()V"⟩ ∈ gWs := gWs_in (i := 197) (by decide +kernel) rfl
set_option maxRecDepth 100000 in
theorem ci_Slots_init : gCaI k_Slots_init := ⟨⟨gWs_in (i := 198) rfl rfl, w_26, by decide, by decide, by decide +kernel⟩, rfl, w_197, rfl⟩
theorem w_199 : Cond.methodLink "DropSignals$Slots" 3 objectInit ∈ gWs := gWs_in (i := 199) (by decide +kernel) rfl
theorem w_200 : Cond.classLink "DropSignals$Slots" 9 "DropSignals$Evening" ∈ gWs := gWs_in (i := 200) (by decide +kernel) rfl
theorem ff_Slots_11 : gFf "DropSignals$Slots" 11 5 0 (.array (.object "DropSignals$Evening")) := ⟨gN5, gF5, 2, rfl, uw_5, by decide, w_202, ⟨gX5, gY5⟩, gD5, rfl, rfl, by decide +kernel⟩
theorem w_209 : Cond.arrayClass .boolean ∈ gWs := gWs_in (i := 209) (by decide +kernel) rfl
theorem ff_Slots_17 : gFf "DropSignals$Slots" 17 5 1 (.array .boolean) := ⟨gN5, gF5, 2, rfl, uw_5, by decide, w_203, ⟨gX5, gY5⟩, gD5, rfl, rfl, by decide +kernel⟩
theorem no_Slots_9 : gNo "DropSignals$Slots" 9 2 [.null, .null, .null, .null, .int 0, .int 0, .int 0, .int 0, .int 0, .int 0, .int 0, .int 0, .int 0, .int 0] := ⟨gN2, gF2, 14, gX2, rfl, uw_2, gY2, w_200, w_47, w_21, fun j hj => by rcases (show j = 0 ∨ j = 1 ∨ j = 2 ∨ j = 3 ∨ j = 4 ∨ j = 5 ∨ j = 6 ∨ j = 7 ∨ j = 8 ∨ j = 9 ∨ j = 10 ∨ j = 11 ∨ j = 12 ∨ j = 13 by omega) with rfl | rfl | rfl | rfl | rfl | rfl | rfl | rfl | rfl | rfl | rfl | rfl | rfl | rfl <;> rfl, rfl⟩
theorem w_201 : Cond.methodLink "DropSignals$Slots" 21 ⟨"DropSignals$Evening", "<init>", "()V"⟩ ∈ gWs := gWs_in (i := 201) (by decide +kernel) rfl
def gGs : List (Nat × Nat) := (18, 3) :: (18, 4) :: (([(18, 5)] ++ gGe 16) ++ gGe 17)
def adSlots (h0 q1 q2 : Nat) (a16 : Nat → Nat → Nat) (a17 : Nat → Nat → Nat) : Nat → Nat → Nat := fun g c => if g = 16 then a16 16 c else if g = 17 then a17 17 c else if c = 3 then h0 else if c = 4 then q1 else q2
set_option maxRecDepth 100000 in
set_option maxHeartbeats 4000000 in
theorem ct_iSlots {l : Launch} {D : va_G} {cA : Nat → ClassId} (h0 : Nat) : cCt l D cA k_Slots_init 5 103 26 376 h0 (.inr (5, [.null, .null])) (fun ws => ∃ ad, ad 18 3 = h0 ∧ ws = gW (D, cA, ad, gGs) gM0) := by
  refine cCt_of (by decide) rfl (by decide) ?_
  refine c_aload_n d_Slots_init_0 rfl 0 rfl ?_
  refine c_obj d_Slots_init_1 w_199 w_44 w_obj (Nat.le_of_ble_eq_true rfl) (Nat.le_of_ble_eq_true rfl) ?_
  refine c_aload_n d_Slots_init_4 rfl 0 rfl ?_
  refine c_iconst (v := 2) d_Slots_init_5 (by decide) ?_
  refine c_newE (N := 2) d_Slots_init_6 w_200 (by decide) rfl (Nat.le_of_ble_eq_true rfl) (Nat.le_of_ble_eq_true rfl) (Nat.le_of_ble_eq_true rfl) (fun q1 => ?_)
  refine c_putR (fs' := [.ref q1, .null]) d_Slots_init_9 ff_Slots_11 rfl rfl (Nat.le_of_ble_eq_true rfl) rfl ?_
  refine c_aload_n d_Slots_init_12 rfl 0 rfl ?_
  refine c_iconst (v := 2) d_Slots_init_13 (by decide) ?_
  refine c_newZ (N := 2) d_Slots_init_14 w_209 (by decide) rfl (Nat.le_of_ble_eq_true rfl) (Nat.le_of_ble_eq_true rfl) (Nat.le_of_ble_eq_true rfl) (fun q2 => ?_)
  refine c_putR (fs' := [.ref q1, .ref q2]) d_Slots_init_16 ff_Slots_17 rfl rfl (Nat.le_of_ble_eq_true rfl) rfl ?_
  refine c_iconst (v := 0) d_Slots_init_19 (by decide) ?_
  refine c_istore_n (L' := [(1, .int 0), (0, .ref h0)]) d_Slots_init_20 rfl (by decide) rfl ?_
  refine c_iload_n d_Slots_init_21 rfl 0 rfl ?_
  refine c_aload_n d_Slots_init_22 rfl 1 rfl ?_
  refine c_getR (v := q1) d_Slots_init_23 fl_Slots_11 rfl ?_
  refine c_alenE d_Slots_init_26 ?_
  refine c_icmp_ge (tgt := 49) d_Slots_init_27 (by decide) (fun c => absurd c (by decide)) (fun _ => ?_)
  refine c_aload_n d_Slots_init_30 rfl 1 rfl ?_
  refine c_getR (v := q1) d_Slots_init_31 fl_Slots_11 rfl ?_
  refine c_iload_n d_Slots_init_34 rfl 0 rfl ?_
  refine c_new d_Slots_init_35 no_Slots_9 (Nat.le_of_ble_eq_true rfl) (Nat.le_of_ble_eq_true rfl) (fun q3 => ?_)
  refine c_dup d_Slots_init_38 rfl ?_
  refine c_init (ct_iEv 16 (by decide) q3) d_Slots_init_39 ci_Ev_init w_201 (Nat.le_of_ble_eq_true rfl) ⟨Nat.le_of_ble_eq_true rfl, Nat.le_of_ble_eq_true rfl⟩ (Nat.le_of_ble_eq_true rfl) (Nat.le_of_ble_eq_true rfl) (fun w4 hw4 => ?_)
  obtain ⟨a16, rfl, rfl⟩ := hw4
  refine c_aastE (j := 0) (qk := 1) d_Slots_init_42 rfl (by decide) (by decide) rfl ?_
  refine c_iinc (v := 1) (L' := [(1, .int 1), (0, .ref h0)]) d_Slots_init_43 (j := 0) rfl rfl (by decide) rfl ?_
  refine c_goto (tgt := 21) d_Slots_init_46 (by decide) ?_
  refine c_iload_n d_Slots_init_21 rfl 0 rfl ?_
  refine c_aload_n d_Slots_init_22 rfl 1 rfl ?_
  refine c_getR (v := q1) d_Slots_init_23 fl_Slots_11 rfl ?_
  refine c_alenE d_Slots_init_26 ?_
  refine c_icmp_ge (tgt := 49) d_Slots_init_27 (by decide) (fun c => absurd c (by decide)) (fun _ => ?_)
  refine c_aload_n d_Slots_init_30 rfl 1 rfl ?_
  refine c_getR (v := q1) d_Slots_init_31 fl_Slots_11 rfl ?_
  refine c_iload_n d_Slots_init_34 rfl 0 rfl ?_
  refine c_new d_Slots_init_35 no_Slots_9 (Nat.le_of_ble_eq_true rfl) (Nat.le_of_ble_eq_true rfl) (fun q5 => ?_)
  refine c_dup d_Slots_init_38 rfl ?_
  refine c_init (ct_iEv 17 (by decide) q5) d_Slots_init_39 ci_Ev_init w_201 (Nat.le_of_ble_eq_true rfl) ⟨Nat.le_of_ble_eq_true rfl, Nat.le_of_ble_eq_true rfl⟩ (Nat.le_of_ble_eq_true rfl) (Nat.le_of_ble_eq_true rfl) (fun w6 hw6 => ?_)
  obtain ⟨a17, rfl, rfl⟩ := hw6
  refine c_aastE (j := 1) (qk := 13) d_Slots_init_42 rfl (by decide) (by decide) rfl ?_
  refine c_iinc (v := 2) (L' := [(1, .int 2), (0, .ref h0)]) d_Slots_init_43 (j := 0) rfl rfl (by decide) rfl ?_
  refine c_goto (tgt := 21) d_Slots_init_46 (by decide) ?_
  refine c_iload_n d_Slots_init_21 rfl 0 rfl ?_
  refine c_aload_n d_Slots_init_22 rfl 1 rfl ?_
  refine c_getR (v := q1) d_Slots_init_23 fl_Slots_11 rfl ?_
  refine c_alenE d_Slots_init_26 ?_
  refine c_icmp_ge (tgt := 49) d_Slots_init_27 (by decide) (fun _ => ?_) (fun c => absurd (by decide) c)
  refine c_vret d_Slots_init_49 rfl (Nat.le_of_ble_eq_true rfl) (Nat.le_of_ble_eq_true rfl) ⟨(adSlots h0 q1 q2 a16 a17), rfl, ?_⟩
  have s16 : gW (D, cA, a16, gGe 16) gM0 = gW (D, cA, (adSlots h0 q1 q2 a16 a17), gGe 16) gM0 := gW_ev (by decide) gM0 (fun _ => rfl)
  have s17 : gW (D, cA, a17, gGe 17) gM0 = gW (D, cA, (adSlots h0 q1 q2 a16 a17), gGe 17) gM0 := gW_ev (by decide) gM0 (fun _ => rfl)
  show _ = gK (D, cA, (adSlots h0 q1 q2 a16 a17), gGs) gM0 (18, 3) :: gK (D, cA, (adSlots h0 q1 q2 a16 a17), gGs) gM0 (18, 4) :: gW (D, cA, (adSlots h0 q1 q2 a16 a17), ([(18, 5)] ++ gGe 16) ++ gGe 17) gM0
  rw [gW_app, gW_app, s16, s17]
  refine congr (congrArg List.cons ?_) (congr (congrArg List.cons ?_) ?_)
  · rfl
  · refine congrArg (fun f => (q1, (Sum.inl (cA 2, 2, Sum.inr (Sum.inr (Sum.inr (Sum.inr f)))) : va_E))) ?_
    funext j
    by_cases hj : j < 2
    · rcases (show j = 0 ∨ j = 1 by omega) with rfl | rfl <;> rfl
    · rw [if_neg hj]
      simp only [va_up, if_neg (show ¬ j = 0 by omega), if_neg (show ¬ j = 1 by omega)]
  · rfl

