-- ===== THE LAW FROM ITS FIRST INSTRUCTION TO ITS LOOP =====
theorem w_53 : Cond.classLink "DropSignalsLaw" 8 "DropSignals" ∈ gWs := gWs_in (i := 53) (by decide +kernel) rfl
theorem w_54 : Cond.instantiable "DropSignals" 6 ∈ gWs := gWs_in (i := 54) (by decide +kernel) rfl
theorem no_Law_8 : gNo "DropSignalsLaw" 8 7 [.null, .null, .null, .null, .null, .null] := ⟨gN7, gF7, 6, gX7, rfl, uw_7, gY7, w_53, w_54, w_34, fun j hj => by rcases (show j = 0 ∨ j = 1 ∨ j = 2 ∨ j = 3 ∨ j = 4 ∨ j = 5 by omega) with rfl | rfl | rfl | rfl | rfl | rfl <;> rfl, rfl⟩
theorem w_961 : Cond.classLink "DropSignalsLaw" 77 "DropSignalsModel" ∈ gWs := gWs_in (i := 961) (by decide +kernel) rfl
theorem w_962 : Cond.instantiable "DropSignalsModel" 16 ∈ gWs := gWs_in (i := 962) (by decide +kernel) rfl
theorem no_Law_77 : gNo "DropSignalsLaw" 77 8 [.int 0, .null, .int 0, .null, .null, .null, .null, .null, .null, .null, .null, .int 0, .null, .null, .int 0, .int 0] := ⟨gN8, gF8, 16, gX8, rfl, uw_8, gY8, w_961, w_962, w_43, fun j hj => by rcases (show j = 0 ∨ j = 1 ∨ j = 2 ∨ j = 3 ∨ j = 4 ∨ j = 5 ∨ j = 6 ∨ j = 7 ∨ j = 8 ∨ j = 9 ∨ j = 10 ∨ j = 11 ∨ j = 12 ∨ j = 13 ∨ j = 14 ∨ j = 15 by omega) with rfl | rfl | rfl | rfl | rfl | rfl | rfl | rfl | rfl | rfl | rfl | rfl | rfl | rfl | rfl | rfl <;> rfl, rfl⟩
theorem w_55 : Cond.methodLink "DropSignalsLaw" 76 (.mk "DropSignals" "<init>" "()V") ∈ gWs := gWs_in (i := 55) (by decide +kernel) rfl
theorem w_963 : Cond.methodLink "DropSignalsLaw" 79 (.mk "DropSignalsModel" "<init>" "()V") ∈ gWs := gWs_in (i := 963) (by decide +kernel) rfl
theorem w_1268 : Cond.arrayClass .long ∈ gWs := gWs_in (i := 1268) (by decide +kernel) rfl
theorem e_gXw {ε : gEnv} (h : ε.2.2.2 = gGl) : gXw ε := by
  unfold gXw gEv
  rw [h]
  exact ⟨fun e he => ⟨he, fun c hc => (show ∀ e : Fin 18, ∀ c : Fin 12, ((e : Nat), (c : Nat)) ∈ gGl by decide +kernel) ⟨e, he⟩ ⟨c, hc⟩⟩, fun c hc => (show ∀ c : Fin 11, (18, (c : Nat)) ∈ gGl by decide +kernel) ⟨c, hc⟩⟩
theorem e_gMo {ε : gEnv} (h : ε.2.2.2 = gGl) : gMo ε := by
  unfold gMo
  rw [h]
  exact fun c hc => (show ∀ c : Fin 12, (19, (c : Nat)) ∈ gGl by decide +kernel) ⟨c, hc⟩
theorem e_gO {ε : gEnv} (h : ε.2.2.2 = gGl) : gHas ε 20 0 (4, 1, []) := by
  refine ⟨?_, rfl⟩
  rw [h]
  exact (show ((20, 0) : Nat × Nat) ∈ gGl by decide +kernel)
theorem e_ws {D : va_G} {cA : Nat → ClassId} {ax am : Nat → Nat → Nat} {q : Nat} {M1 : gMem} (hM : ∀ g c, g ≠ 19 → M1 g c = gM0 g c) : (([] ++ gW (D, cA, ax, gGx) gM0) ++ gW (D, cA, am, gGmo) M1) ++ [(q, .inl (cA 4, 1, .inr (.inl (fun _ => 0))))] = gW (D, cA, adL q ax am, gGl) M1 := by
  have h1 : gW (D, cA, ax, gGx) gM0 = gW (D, cA, adL q ax am, gGx) M1 := by
    refine (gW_ad (ad' := adL q ax am) fun p hp => gK_18 gM0 (fun g c hg => ?_) p (gGx_in p hp)).trans (gW_cong fun p hp => ?_)
    · unfold adL
      rw [if_neg (by omega), if_neg (by omega)]
    · have := gGx_in p hp
      exact (hM p.1 p.2 (by omega)).symm
  have h2 : gW (D, cA, am, gGmo) M1 = gW (D, cA, adL q ax am, gGmo) M1 := by
    refine gW_ad fun p hp => gK_19 M1 (fun c => ?_) p (gGmo_in p hp)
    unfold adL
    rw [if_neg (by omega), if_pos rfl]
  have h3 : [(q, (.inl (cA 4, 1, .inr (.inl (fun _ => 0))) : va_E))] = gW (D, cA, adL q ax am, [(20, 0)]) M1 := by
    have e20 : M1 20 0 = fun _ => 0 := by rw [hM 20 0 (by omega)]; rfl
    have g0 : gL 0 0 = 0 := by decide
    show _ = [gK _ M1 (20, 0)]
    unfold gK
    show _ = [(adL q ax am 20 0, gE _ (4, 1, []) (M1 20 0))]
    rw [e20]
    have e1 : (fun j : Nat => if j = 0 then gL ((fun _ => 0 : Nat → Int32) 0) ((fun _ => 0 : Nat → Int32) 1) else (0 : Int64)) = fun _ => 0 := by
      funext j
      show (if j = 0 then gL 0 0 else 0) = 0
      rw [g0]
      split <;> rfl
    show _ = [(adL q ax am 20 0, (.inl (cA 4, 1, .inr (.inl (fun j : Nat => if j = 0 then gL ((fun _ => 0 : Nat → Int32) 0) ((fun _ => 0 : Nat → Int32) 1) else (0 : Int64)))) : va_E))]
    rw [e1]
    rfl
  rw [h1, h2, h3]
  unfold gGl
  rw [gW_app, gW_app]
  exact congrArg (· ++ gW (D, cA, adL q ax am, gGmo) M1 ++ gW (D, cA, adL q ax am, [(20, 0)]) M1) (List.nil_append _)
set_option maxRecDepth 100000 in
theorem e_start {l : Launch} {D : va_G} {cA : Nat → ClassId} {b Ls : Nat} {xs : Nat → Int32} (h0 : Nat) {M1 : gMem} (hclr : f_Mo_clear 19 2 197 gM0 = some M1) (hM : ∀ g c, g ≠ 19 → M1 g c = gM0 g c) (kk : ∀ ε : gEnv, gXw ε → gMo ε → gHas ε 20 0 (4, 1, []) → gGo l ε k_law room_1 (gFm b Ls xs 240 10231) 23 [(0, .ref b), (1, .ref (ε.2.2.1 18 0)), (2, .ref (ε.2.2.1 19 0)), (3, .ref (ε.2.2.1 20 0)), (4, .int 0)] [] M1) : cGo l D cA k_law room_1 h0 (eQ l b Ls xs h0) 0 [(0, .ref b)] [] [] 0 0 := by
  refine c_new d_Law_law_0 no_Law_8 (Nat.le_of_ble_eq_true rfl) (Nat.le_of_ble_eq_true rfl) (fun q1 => ?_)
  refine c_dup d_Law_law_3 rfl ?_
  refine c_init (ct_iDS q1) d_Law_law_4 ci_DS_init w_55 (Nat.le_of_ble_eq_true rfl) ⟨Nat.le_of_ble_eq_true rfl, Nat.le_of_ble_eq_true rfl⟩ (Nat.le_of_ble_eq_true rfl) (Nat.le_of_ble_eq_true rfl) (fun w1 hw1 => ?_)
  refine c_astore_n (L' := [(1, .ref q1), (0, .ref b)]) d_Law_law_7 rfl (by decide) rfl ?_
  refine c_new d_Law_law_8 no_Law_77 (Nat.le_of_ble_eq_true rfl) (Nat.le_of_ble_eq_true rfl) (fun q2 => ?_)
  refine c_dup d_Law_law_11 rfl ?_
  refine c_init (ct_iMo q2 M1 hclr) d_Law_law_12 ci_Mo_init w_963 (Nat.le_of_ble_eq_true rfl) ⟨Nat.le_of_ble_eq_true rfl, Nat.le_of_ble_eq_true rfl⟩ (Nat.le_of_ble_eq_true rfl) (Nat.le_of_ble_eq_true rfl) (fun w2 hw2 => ?_)
  refine c_astore_n (L' := [(2, .ref q2), (1, .ref q1), (0, .ref b)]) d_Law_law_15 rfl (by decide) rfl ?_
  refine c_iconst (v := 1) d_Law_law_16 (by decide) ?_
  refine c_newJ (N := 1) d_Law_law_17 w_1268 (by decide) rfl (Nat.le_of_ble_eq_true rfl) (Nat.le_of_ble_eq_true rfl) (Nat.le_of_ble_eq_true rfl) (fun q3 => ?_)
  refine c_astore_n (L' := [(3, .ref q3), (2, .ref q2), (1, .ref q1), (0, .ref b)]) d_Law_law_19 rfl (by decide) rfl ?_
  obtain ⟨ax, rfl, rfl⟩ := hw1
  obtain ⟨am, rfl, rfl⟩ := hw2
  refine e_go (ε := (D, cA, adL q3 ax am, gGl)) (M := M1) rfl rfl (e_ws hM) ?_
  refine g_iconst (v := 0) d_Law_law_20 (by decide) ?_
  refine g_istore (L' := [(4, .int 0), (3, .ref q3), (2, .ref (am 19 0)), (1, .ref (ax 18 0)), (0, .ref b)]) d_Law_law_21 (by decide) rfl ?_
  exact gGo_sub [4, 3, 2, 1, 0] rfl (kk (D, cA, adL q3 ax am, gGl) (e_gXw rfl) (e_gMo rfl) (e_gO rfl))
