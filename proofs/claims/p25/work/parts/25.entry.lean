-- ===== THE LAW FROM ITS ENTRY =====
theorem e_nw {s : State} {args : Array Value} (hts : ∀ w ∈ lw_tbl, w.before args s = true) : gNw s := by
  intro w hw hn
  have h := hts w hw
  cases w <;> first | (simp [gIsN] at hn; done) | exact va_Nw.of rfl h
theorem e_arr {s : State} {args : Array Value} {ty : FieldType} (h : (Cond.arrayClass ty).before args s = true) (hp : ∀ C, ty ≠ .object C) : ∃ cA : ClassId, ArrOfT s cA ty ∧ va_RA s cA ty := by
  obtain ⟨cA, kA, comp, hfind, hk, hkind⟩ := Cond.arrayClass_spec h
  refine ⟨cA, fun N z => ⟨fun k h => (by cases h), kA, hk, comp, hkind⟩, ?_⟩
  cases ty <;> first | exact absurd rfl (hp _) | exact hfind
theorem e_arrE {s : State} {args : Array Value} (h : (Cond.arrayOver (.object "DropSignals$Evening")).before args s = true) : ∃ cA : ClassId, ArrOfT s cA (.object "DropSignals$Evening") ∧ va_RA s cA (.object "DropSignals$Evening") := by
  obtain ⟨comp, c, k, h1, h2, h3, h4, h5⟩ := Cond.arrayOver_spec h
  exact ⟨c, fun N z => ⟨fun k h => (by cases h), k, h3, comp, h4⟩, k, comp, h3, h4, h1, h5⟩
theorem e_tb (i : Nat) {w : Cond} (h : lw_tbl[i]? = some w) : w ∈ lw_tbl := List.mem_of_getElem? h
theorem e_K {s : State} {args : Array Value} (hts : ∀ w ∈ lw_tbl, w.before args s = true) : ∃ (D : va_G) (cA : Nat → ClassId), va_K D gCl (gTyA cA) s := by
  have hg : ∀ w ∈ gWs, w.before args s = true := fun w hw => hts w (List.mem_filter.mp hw).1
  obtain ⟨c0, i0, h0⟩ := u_known (C := gN0) (T := gF0) (N := 4) (n := 4) hg uw_0 (hts _ (e_tb 53 (by decide +kernel)))
  obtain ⟨c1, i1, h1⟩ := u_known (C := gN1) (T := gF1) (N := 4) (n := 4) hg uw_1 (hts _ (e_tb 82 (by decide +kernel)))
  obtain ⟨c2, i2, h2⟩ := u_known (C := gN2) (T := gF2) (N := 14) (n := 14) hg uw_2 (hts _ (e_tb 47 (by decide +kernel)))
  obtain ⟨c3, i3, h3⟩ := u_known (C := gN3) (T := gF3) (N := 3) (n := 3) hg uw_3 (hts _ (e_tb 176 (by decide +kernel)))
  obtain ⟨c4, i4, h4⟩ := u_known (C := gN4) (T := gF4) (N := 8) (n := 8) hg uw_4 (hts _ (e_tb 224 (by decide +kernel)))
  obtain ⟨c5, i5, h5⟩ := u_known (C := gN5) (T := gF5) (N := 2) (n := 2) hg uw_5 (hts _ (e_tb 195 (by decide +kernel)))
  obtain ⟨c6, i6, h6⟩ := u_known (C := gN6) (T := gF6) (N := 2) (n := 2) hg uw_6 (hts _ (e_tb 211 (by decide +kernel)))
  obtain ⟨c7, i7, h7⟩ := u_known (C := gN7) (T := gF7) (N := 6) (n := 6) hg uw_7 (hts _ (e_tb 39 (by decide +kernel)))
  obtain ⟨a0, ha0⟩ := e_arr (hts (.arrayClass .int) (e_tb 80 (by decide +kernel))) (fun C h => nomatch h)
  obtain ⟨a1, ha1⟩ := e_arr (hts (.arrayClass .boolean) (e_tb 209 (by decide +kernel))) (fun C h => nomatch h)
  obtain ⟨a2, ha2⟩ := e_arrE (hts (.arrayOver (.object "DropSignals$Evening")) (e_tb 182 (by decide +kernel)))
  refine ⟨(fun k => match k with | 0 => c0 | 1 => c1 | 2 => c2 | 3 => c3 | 4 => c4 | 5 => c5 | 6 => c6 | _ => c7, fun k => match k with | 0 => i0 | 1 => i1 | 2 => i2 | 3 => i3 | 4 => i4 | 5 => i5 | 6 => i6 | _ => i7), fun k => match k with | 0 => a0 | 1 => a1 | _ => a2, ?_, ?_⟩
  · intro c q hq
    match c, hq with
    | 0, hq => cases hq; exact h0
    | 1, hq => cases hq; exact h1
    | 2, hq => cases hq; exact h2
    | 3, hq => cases hq; exact h3
    | 4, hq => cases hq; exact h4
    | 5, hq => cases hq; exact h5
    | 6, hq => cases hq; exact h6
    | 7, hq => cases hq; exact h7
    | c + 8, hq => simp [gCl] at hq
  · intro c q hq
    match c, hq with
    | 0, hq => cases hq; exact ha0
    | 1, hq => cases hq; exact ha1
    | 2, hq => cases hq; exact ha2
    | c + 3, hq => simp [gTyA] at hq
theorem e_str {s : State} {args : Array Value} (hts : ∀ w ∈ lw_tbl, w.before args s = true) (hgv : ∀ w ∈ flatC (Jvm.Cond.and given_1 narrow_1), w.before args s = true) (k : Nat) (tx : String) (hk : Cond.stringRef "DropSignals" k tx ∈ lw_tbl) (hx : Cond.exactly (.string "DropSignals" k) "java/lang/String" ∈ flatC (Jvm.Cond.and given_1 narrow_1)) : ∃ sa, vk_R "DropSignals" k tx sa s := by
  obtain ⟨a, c, cell, kk, h1, -⟩ := Cond.exactly_spec (hgv _ hx)
  exact ⟨a, (hts _ hk), h1⟩
/-- the strings' places in the pool -/
def eSt : Cond → Bool
  | .stringRef o k _ => decide (o = "DropSignals" → k ∈ ([49, 60, 73, 160, 165, 176, 196, 208, 231, 243, 270, 277, 280, 282, 287] : List Nat))
  | _ => true
theorem e_strs : lw_tbl.all eSt = true := by decide +kernel
theorem e_exs : ([49, 60, 73, 160, 165, 176, 196, 208, 231, 243, 270, 277, 280, 282, 287] : List Nat).all (fun k => decide (Cond.exactly (.string "DropSignals" k) "java/lang/String" ∈ flatC (Jvm.Cond.and given_1 narrow_1))) = true := by decide +kernel
theorem e_nc : gXs3.all (fun a => gXs3.all fun b => decide (a = b) || decide (Cond.not (.castable a b) ∈ flatC (Jvm.Cond.and given_1 narrow_1))) = true := by decide +kernel
theorem e_th {s : State} {args : Array Value} (hts : ∀ w ∈ lw_tbl, w.before args s = true) (hgv : ∀ w ∈ flatC (Jvm.Cond.and given_1 narrow_1), w.before args s = true) : gTh s := by
  refine ⟨fun w hw hn => ?_, fun k tx hk => ?_, fun a ha b hb hab => ?_⟩
  · have h := hts w hw
    cases w <;> first | (simp [gIsT] at hn; done) | exact va_Nw.of rfl h
  · have h1 := List.all_eq_true.mp e_strs _ hk
    have h2 : k ∈ ([49, 60, 73, 160, 165, 176, 196, 208, 231, 243, 270, 277, 280, 282, 287] : List Nat) := (of_decide_eq_true (show decide _ = true from h1)) rfl
    have h3 := List.all_eq_true.mp e_exs _ h2
    exact e_str hts hgv k tx hk (of_decide_eq_true h3)
  · have h1 := List.all_eq_true.mp (List.all_eq_true.mp e_nc a ha) b hb
    rw [Bool.or_eq_true] at h1
    rcases h1 with h1 | h1
    · exact absurd (of_decide_eq_true h1) hab
    · exact va_Nc.of (hgv _ (of_decide_eq_true h1))
theorem e_zq {s : State} {args : Array Value} (hts : ∀ w ∈ lw_tbl, w.before args s = true) (hgv : ∀ w ∈ flatC (Jvm.Cond.and given_1 narrow_1), w.before args s = true) (A : Nat → Prop) (hA : ∀ a : Nat, a < s.heap.size → ¬ A a) : gZq A s s.heap :=
  ⟨vx_Zqof (hts _ (e_tb 320 (by decide +kernel))) (hts _ (e_tb 29 (by decide +kernel))) (hgv _ (by decide +kernel)) hA, vx_Zqof (hts _ (e_tb 322 (by decide +kernel))) (hts _ (e_tb 29 (by decide +kernel))) (hgv _ (by decide +kernel)) hA⟩
-- the rows that the law's own start needs beside
section ENT
variable {l : Launch} {D : va_G} {cA : Nat → ClassId} {κ : gMD} {R : Room} {h0 : Nat} {Q : cFin} {pc : Nat} {L : List (Nat × Value)} {st : List Value} {ws : va_W} {k n : Nat}
theorem c_astore_n {k0 : Fin 4} {i : Nat} {x : Nat} {L' : List (Nat × Value)} (d : decode κ.2.1 pc = .ok (.astore_n k0, 1)) (hi : (k0 : Nat) = i) (hn : i < κ.2.2.1) (hl : (i, Value.ref x) :: L.filter (fun q => !(q.1 == i) && !(q.1 + 1 == i && q.2.category == 2)) = L') (kk : cGo l D cA κ R h0 Q (pc + 1) L' st ws k n) : cGo l D cA κ R h0 Q pc L (.ref x :: st) ws k n :=
  fun p e s m args below meth c H locs ls C hP hD hS h => lv_astore_n C.1 C.2.1 d hi h hn hl (fun ls h => kk p e s m args below meth c H locs ls C hP hD hS h)
/-- what is known of the law's start -/
def eFa (l : Launch) (b Ls : Nat) (xs : Nat → Int32) (h0 : Nat) (s : State) (args : Array Value) : Prop :=
  args = #[Value.ref b] ∧ l.stackTraces = false ∧ gTh s ∧ (∀ A : Nat → Prop, (∀ a : Nat, a < s.heap.size → ¬ A a) → gZq A s s.heap) ∧ va_X b Ls xs s s.heap ∧ b < s.heap.size ∧ h0 = s.heap.size
def eQ (l : Launch) (b Ls : Nat) (xs : Nat → Int32) (h0 : Nat) : cFin := fun below args s t => eFa l b Ls xs h0 s args → lw_Z below #[Value.ref b] s t
theorem e_go {b Ls : Nat} {xs : Nat → Int32} {ε : gEnv} {M : gMem} (e1 : ε.1 = D) (e2 : ε.2.1 = cA) (hw : ws = gW ε M) (kk : gGo l ε κ R (gFm b Ls xs k n 0) pc L st M) : cGo l D cA κ R h0 (eQ l b Ls xs h0) pc L st ws k n := by
  intro p e s m args below meth c H locs ls C hP hD hS h
  subst hw
  subst e1
  subst e2
  by_cases hF : eFa l b Ls xs h0 s args
  · obtain ⟨ha, f1, f2, f3, f4, f5, f6⟩ := id hF
    have hB : ∀ q, gA ε s.heap.size q → s.heap.size ≤ q := by
      rintro q (⟨x, hx, rfl⟩ | hq)
      · obtain ⟨i, hi⟩ := List.getElem?_of_mem hx
        rcases hD.2 i (gK ε M x) (by unfold gW; rw [List.getElem?_map, hi]; rfl) with h1 | h1
        · exact Nat.le_of_eq (f6.symm.trans h1.symm)
        · exact h1
      · exact hq
    have hA : ∀ q, cA0 h0 s.heap.size q → gA ε s.heap.size q := by
      rintro q (rfl | hq)
      · exact Or.inr (Nat.le_of_eq f6.symm)
      · exact Or.inr hq
    have hdj : gDj ε := fun i j x y hi hj hxy => hD.1 i j (gK ε M x) (gK ε M y) (by unfold gW; rw [List.getElem?_map, hi]; rfl) (by unfold gW; rw [List.getElem?_map, hj]; rfl) hxy
    have k1 := kk p e s m args below meth c H locs ls ⟨C.1, C.2.1, C.2.2.1, C.2.2.2.1, C.2.2.2.2.1, C.2.2.2.2.2.1, C.2.2.2.2.2.2.1, C.2.2.2.2.2.2.2.1, C.2.2.2.2.2.2.2.2.1, hdj, ⟨f1, f2, f3 _ (fun a h1 h2 => by have := hB a h2; omega), f4, f5, hB⟩, C.2.2.2.2.2.2.2.2.2.2.2.1, C.2.2.2.2.2.2.2.2.2.2.2.2⟩ hP ⟨hS.1, fun q h1 h2 => hS.2.1 q h1 (fun z => h2 (hA q z)), fun x hx => hA _ (hS.2.2 x hx)⟩ h
    intro T hT X
    obtain ⟨t, a1, b1⟩ := k1 T hT X
    exact ⟨t, a1, fun _ => b1 ha⟩
  · intro T hT X
    exact ⟨_, Steps.refl _, fun q => absurd q hF⟩
end ENT
theorem gGx_in : ∀ p ∈ gGx, p.1 < 18 ∨ (p.1 = 18 ∧ p.2 < 11) := by decide +kernel
theorem gK_18 {D : va_G} {cA : Nat → ClassId} {ad ad' : Nat → Nat → Nat} {G G' : List (Nat × Nat)} (M : gMem) (h : ∀ g c, g ≤ 18 → ad g c = ad' g c) (p : Nat × Nat) (hp : p.1 < 18 ∨ (p.1 = 18 ∧ p.2 < 11)) : gK (D, cA, ad, G) M p = gK (D, cA, ad', G') M p := by
  obtain ⟨g, c⟩ := p
  rcases hp with hp | ⟨rfl, hp⟩
  · exact gK_ev hp M (fun c => h g c (by omega)) c
  · rcases (show c = 0 ∨ c = 1 ∨ c = 2 ∨ c = 3 ∨ c = 4 ∨ c = 5 ∨ c = 6 ∨ c = 7 ∨ c = 8 ∨ c = 9 ∨ c = 10 by simp only at hp; omega) with rfl | rfl | rfl | rfl | rfl | rfl | rfl | rfl | rfl | rfl | rfl
    · simp only [gK, gS, gCS, gE, gVals, Nat.lt_irrefl, if_false, if_true, h 18 0 (by omega), h 0 0 (by omega), h 1 0 (by omega), h 18 1 (by omega), h 18 3 (by omega), h 18 6 (by omega), h 18 8 (by omega)]
    · simp only [gK, gS, gCS, gE, gVals, Nat.lt_irrefl, if_false, if_true, h 18 1 (by omega), h 18 2 (by omega)]
    · exact gK_rows (b := 2) rfl M (h 18 2 (by omega)) (fun j hj => h (2 + j) 0 (by omega))
    · simp only [gK, gS, gCS, gE, gVals, Nat.lt_irrefl, if_false, if_true, h 18 3 (by omega), h 18 4 (by omega), h 18 5 (by omega)]
    · exact gK_rows (b := 16) rfl M (h 18 4 (by omega)) (fun j hj => h (16 + j) 0 (by omega))
    · simp only [gK, gS, gCS, gE, Nat.lt_irrefl, if_false, if_true, h 18 5 (by omega)]
    · simp only [gK, gS, gCS, gE, gVals, Nat.lt_irrefl, if_false, if_true, h 18 6 (by omega), h 18 7 (by omega)]
    · simp only [gK, gS, gCS, gE, Nat.lt_irrefl, if_false, if_true, h 18 7 (by omega)]
    · simp only [gK, gS, gCS, gE, gVals, Nat.lt_irrefl, if_false, if_true, h 18 8 (by omega), h 18 9 (by omega), h 18 10 (by omega)]
    · simp only [gK, gS, gCS, gE, Nat.lt_irrefl, if_false, if_true, h 18 9 (by omega)]
    · simp only [gK, gS, gCS, gE, Nat.lt_irrefl, if_false, if_true, h 18 10 (by omega)]
/-- the cells of both objects -/
def gGl : List (Nat × Nat) := gGx ++ gGx.map (fun p => (p.1 + 20, p.2))
def adL (ax aq : Nat → Nat → Nat) : Nat → Nat → Nat := fun g c => if g < 20 then ax g c else aq (g - 20) c
/-- the world at the start -/
def gM2 : gMem := fun g => if g < 20 then gM0 g else gM0 (g - 20)
theorem gK_20 {D : va_G} {cA : Nat → ClassId} {ad ad' : Nat → Nat → Nat} {G G' : List (Nat × Nat)} {M M' : gMem} (h : ∀ g c, g < 19 → ad' (g + 20) c = ad g c) (hM : ∀ g c, g < 19 → M' (g + 20) c = M g c) (p : Nat × Nat) (hp : p.1 < 18 ∨ (p.1 = 18 ∧ p.2 < 11)) : gK (D, cA, ad', G) M' (p.1 + 20, p.2) = gK (D, cA, ad, G') M p := by
  obtain ⟨g, c⟩ := p
  unfold gK
  show (ad' (g + 20) c, gE (D, cA, ad', G) (gS (g + 20) c) (M' (g + 20) c)) = (ad g c, gE (D, cA, ad, G') (gS g c) (M g c))
  have hg : g < 19 := by simp only at hp; omega
  rw [h g c hg, hM g c hg]
  refine congrArg (Prod.mk (ad g c)) ?_
  rcases hp with hp | ⟨rfl, hp⟩
  · simp only at hp
    have e1 : gS (g + 20) c = gEvS (g + 20) c := by
      unfold gS
      rw [if_neg (by omega), if_neg (by omega), if_pos (by omega)]
    rw [e1, show gS g c = gEvS g c from if_pos hp]
    exact gE_swv (b := g) (b' := g + 20) (fun c => h g c hg) (D, cA, ad, G) c (M g c)
  · exact gE_swc (fun g c hg => h g c hg) (D, cA, ad, G) c (M 18 c)
