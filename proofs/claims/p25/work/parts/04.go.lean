-- ===== GO: a small logic over W, for worlds of a fixed shape; M g c j is the int j of the cell c of the group g =====
abbrev gMem := Nat → Nat → Nat → Int32
abbrev gSpc := Nat × Nat × List (Option (Nat × Nat))
abbrev gMD := MethodName × ByteArray × Nat × Option FieldType
abbrev gEnv := va_G × (Nat → ClassId) × (Nat → Nat → Nat) × List (Nat × Nat)
/-- what a method owes at its end, and what it may take as given besides -/
abbrev gFin := (Launch → (Nat → Prop) → State → Code → Prop) × (Nat × Nat) × (List Frame → Array Value → State → State → Prop)
def gUp (M : gMem) (g c : Nat) (f : Nat → Int32) : gMem := fun g' c' => if g' = g ∧ c' = c then f else M g' c'
theorem gUp_s (M : gMem) (g c : Nat) (f : Nat → Int32) : gUp M g c f g c = f := by simp [gUp]
theorem gUp_n (M : gMem) {g c g' c' : Nat} (f : Nat → Int32) (h : ¬ (g' = g ∧ c' = c)) : gUp M g c f g' c' = M g' c' := by simp only [gUp, if_neg h]
def gHi (x : Int64) : Int32 := Int32.ofInt (x.toInt / 4294967296)
def gLo (x : Int64) : Int32 := Int32.ofInt (x.toInt % 4294967296)
def gL (a b : Int32) : Int64 := Int64.ofInt (a.toInt * 4294967296 + b.toInt % 4294967296)
theorem gL_hl (x : Int64) : gL (gHi x) (gLo x) = x := by
  have h1 := Int64.le_toInt x
  have h2 := Int64.toInt_lt x
  have e1 : (gHi x).toInt = x.toInt / 4294967296 := by
    unfold gHi
    rw [Int32.toInt_ofInt, show Int32.size = 4294967296 from rfl]
    refine Int.bmod_eq_of_le ?_ ?_ <;> omega
  have e2 : (gLo x).toInt % 4294967296 = x.toInt % 4294967296 := by
    unfold gLo
    rw [Int32.toInt_ofInt, show Int32.size = 4294967296 from rfl]
    have e := (Int.bmod_emod : Int.bmod (x.toInt % 4294967296) 4294967296 % ((4294967296 : Nat) : Int) = _)
    omega
  unfold gL
  rw [e1, e2]
  have e3 : x.toInt / 4294967296 * 4294967296 + x.toInt % 4294967296 = x.toInt := by omega
  rw [e3]
  exact Int64.ofInt_toInt x
def gVals (ad : Nat → Nat → Nat) (f : Nat → Int32) : Nat → List (Option (Nat × Nat)) → List Value
  | _, [] => []
  | i, none :: r => .int (f i) :: gVals ad f (i + 1) r
  | i, some q :: r => .ref (ad q.1 q.2) :: gVals ad f (i + 1) r
theorem gVals_len (ad : Nat → Nat → Nat) (f : Nat → Int32) : ∀ (fs : List (Option (Nat × Nat))) (i : Nat), (gVals ad f i fs).length = fs.length
  | [], _ => rfl
  | none :: r, i => by simp only [gVals, List.length_cons, gVals_len ad f r]
  | some q :: r, i => by simp only [gVals, List.length_cons, gVals_len ad f r]
theorem gVals_i (ad : Nat → Nat → Nat) (f : Nat → Int32) : ∀ (fs : List (Option (Nat × Nat))) (i k : Nat), fs[k]? = some none → (gVals ad f i fs)[k]? = some (.int (f (i + k)))
  | [], _, _, h => by simp at h
  | x :: r, i, 0, h => by
    rw [List.getElem?_cons_zero] at h
    cases Option.some.inj h
    rfl
  | none :: r, i, k + 1, h => by
    rw [List.getElem?_cons_succ] at h
    show (Value.int (f i) :: gVals ad f (i + 1) r)[k + 1]? = _
    rw [List.getElem?_cons_succ, gVals_i ad f r (i + 1) k h, show i + 1 + k = i + (k + 1) by omega]
  | some q :: r, i, k + 1, h => by
    rw [List.getElem?_cons_succ] at h
    show (Value.ref (ad q.1 q.2) :: gVals ad f (i + 1) r)[k + 1]? = _
    rw [List.getElem?_cons_succ, gVals_i ad f r (i + 1) k h, show i + 1 + k = i + (k + 1) by omega]
theorem gVals_r (ad : Nat → Nat → Nat) (f : Nat → Int32) : ∀ (fs : List (Option (Nat × Nat))) (i k : Nat) (q : Nat × Nat), fs[k]? = some (some q) → (gVals ad f i fs)[k]? = some (.ref (ad q.1 q.2))
  | [], _, _, _, h => by simp at h
  | x :: r, i, 0, q, h => by
    rw [List.getElem?_cons_zero] at h
    cases Option.some.inj h
    rfl
  | none :: r, i, k + 1, q, h => by
    rw [List.getElem?_cons_succ] at h
    show (Value.int (f i) :: gVals ad f (i + 1) r)[k + 1]? = _
    rw [List.getElem?_cons_succ, gVals_r ad f r (i + 1) k q h]
  | some q0 :: r, i, k + 1, q, h => by
    rw [List.getElem?_cons_succ] at h
    show (Value.ref (ad q0.1 q0.2) :: gVals ad f (i + 1) r)[k + 1]? = _
    rw [List.getElem?_cons_succ, gVals_r ad f r (i + 1) k q h]
theorem gVals_cong (ad : Nat → Nat → Nat) (f h : Nat → Int32) : ∀ (fs : List (Option (Nat × Nat))) (i : Nat), (∀ j, i ≤ j → f j = h j) → gVals ad f i fs = gVals ad h i fs
  | [], _, _ => rfl
  | none :: r, i, e => by
    show Value.int (f i) :: gVals ad f (i + 1) r = Value.int (h i) :: gVals ad h (i + 1) r
    rw [e i (Nat.le_refl i), gVals_cong ad f h r (i + 1) (fun j hj => e j (by omega))]
  | some q :: r, i, e => by
    show Value.ref (ad q.1 q.2) :: gVals ad f (i + 1) r = Value.ref (ad q.1 q.2) :: gVals ad h (i + 1) r
    rw [gVals_cong ad f h r (i + 1) (fun j hj => e j (by omega))]
theorem gVals_set (ad : Nat → Nat → Nat) (f : Nat → Int32) (x : Int32) : ∀ (fs : List (Option (Nat × Nat))) (i k : Nat), fs[k]? = some none → (gVals ad f i fs).set k (.int x) = gVals ad (upd f (i + k) x) i fs
  | [], _, _, h => by simp at h
  | y :: r, i, 0, h => by
    rw [List.getElem?_cons_zero] at h
    cases Option.some.inj h
    show Value.int x :: gVals ad f (i + 1) r = Value.int (upd f (i + 0) x i) :: gVals ad (upd f (i + 0) x) (i + 1) r
    rw [gVals_cong ad f (upd f (i + 0) x) r (i + 1) (fun j hj => by simp only [upd]; rw [if_neg (by omega)])]
    simp [upd]
  | none :: r, i, k + 1, h => by
    rw [List.getElem?_cons_succ] at h
    show Value.int (f i) :: (gVals ad f (i + 1) r).set k (.int x) = Value.int (upd f (i + (k + 1)) x i) :: gVals ad (upd f (i + (k + 1)) x) (i + 1) r
    rw [gVals_set ad f x r (i + 1) k h, show i + 1 + k = i + (k + 1) by omega]
    simp [upd]
  | some q :: r, i, k + 1, h => by
    rw [List.getElem?_cons_succ] at h
    show Value.ref (ad q.1 q.2) :: (gVals ad f (i + 1) r).set k (.int x) = Value.ref (ad q.1 q.2) :: gVals ad (upd f (i + (k + 1)) x) (i + 1) r
    rw [gVals_set ad f x r (i + 1) k h, show i + 1 + k = i + (k + 1) by omega]
def gE (ε : gEnv) (S : gSpc) (f : Nat → Int32) : va_E := match S with
  | (0, n, _) => .inl (ε.2.1 0, n, .inl f)
  | (1, n, _) => .inl (ε.2.1 1, n, .inl f)
  | (2, n, fs) => .inl (ε.2.1 2, n, .inr (.inr (.inr (.inr (fun j => if j < n then (fs.getD 0 none).map (fun q => ε.2.2.1 (q.1 + j) q.2) else none)))))
  | (3, n, fs) => .inr (n, gVals ε.2.2.1 f 0 fs)
  | (_, n, _) => .inl (ε.2.1 4, n, .inr (.inl (fun j => if j = 0 then gL (f 0) (f 1) else 0)))

def gEvS (e c : Nat) : gSpc := match c with
  | 0 => (3, 2, [some (e, 1), some (e, 2), some (e, 3), some (e, 4), none, none, none, none, none, none, none, none, none, none])
  | 1 => (3, 0, [some (e, 5), some (e, 6), some (e, 7), none])
  | 2 => (3, 1, [some (e, 8), some (e, 9), some (e, 10), some (e, 11)])
  | 3 => (0, 2, [])
  | 4 => (0, 2, [])
  | 5 => (0, 32, [])
  | 6 => (0, 32, [])
  | 7 => (0, 32, [])
  | _ => (0, 16, [])
def gCS (c : Nat) : gSpc := match c with
  | 0 => (3, 7, [some (0, 0), some (1, 0), some (18, 1), some (18, 3), some (18, 6), some (18, 8)])
  | 1 => (3, 3, [some (18, 2), none, none])
  | 2 => (2, 14, [some (2, 0)])
  | 3 => (3, 5, [some (18, 4), some (18, 5)])
  | 4 => (2, 2, [some (16, 0)])
  | 5 => (1, 2, [])
  | 6 => (3, 6, [some (18, 7), none])
  | 7 => (0, 120, [])
  | 8 => (3, 4, [some (18, 9), some (18, 10), none, none, none, none, none, none])
  | 9 => (0, 12, [])
  | _ => (0, 12, [])
/-- the same of the second object -/
def gCT (c : Nat) : gSpc := match c with
  | 0 => (3, 7, [some (20, 0), some (21, 0), some (38, 1), some (38, 3), some (38, 6), some (38, 8)])
  | 1 => (3, 3, [some (38, 2), none, none])
  | 2 => (2, 14, [some (22, 0)])
  | 3 => (3, 5, [some (38, 4), some (38, 5)])
  | 4 => (2, 2, [some (36, 0)])
  | 5 => (1, 2, [])
  | 6 => (3, 6, [some (38, 7), none])
  | 7 => (0, 120, [])
  | 8 => (3, 4, [some (38, 9), some (38, 10), none, none, none, none, none, none])
  | 9 => (0, 12, [])
  | _ => (0, 12, [])
def gS (g c : Nat) : gSpc := if g < 18 then gEvS g c else if g = 18 then gCS c else if 20 ≤ g ∧ g < 38 then gEvS g c else if g = 38 then gCT c else (0, 0, [])
def gK (ε : gEnv) (M : gMem) (q : Nat × Nat) : Nat × va_E := (ε.2.2.1 q.1 q.2, gE ε (gS q.1 q.2) (M q.1 q.2))
theorem gK_cong (ε : gEnv) {M M1 : gMem} {q : Nat × Nat} (h : M q.1 q.2 = M1 q.1 q.2) : gK ε M q = gK ε M1 q := by unfold gK; rw [h]
def gW (ε : gEnv) (M : gMem) : va_W := ε.2.2.2.map (gK ε M)
def gHas (ε : gEnv) (g c : Nat) (S : gSpc) : Prop := (g, c) ∈ ε.2.2.2 ∧ gS g c = S
def gDj (ε : gEnv) : Prop := ∀ (i j : Nat) (p q : Nat × Nat), ε.2.2.2[i]? = some p → ε.2.2.2[j]? = some q → ε.2.2.1 p.1 p.2 = ε.2.2.1 q.1 q.2 → i = j
def gA (ε : gEnv) (sz : Nat) : Nat → Prop := fun q => (∃ p ∈ ε.2.2.2, q = ε.2.2.1 p.1 p.2) ∨ sz ≤ q
theorem gW_get {ε : gEnv} {M : gMem} {i : Nat} {x : Nat × va_E} (h : (gW ε M)[i]? = some x) : ∃ p : Nat × Nat, ε.2.2.2[i]? = some p ∧ x = gK ε M p := by
  unfold gW at h
  rw [List.getElem?_map] at h
  cases hp : ε.2.2.2[i]? with
  | none => rw [hp] at h; cases h
  | some p => rw [hp] at h; exact ⟨p, rfl, (Option.some.inj h).symm⟩
theorem gW_at {ε : gEnv} {g c : Nat} {S : gSpc} (M : gMem) (h : gHas ε g c S) : ∃ i : Nat, ε.2.2.2[i]? = some (g, c) ∧ (gW ε M)[i]? = some (ε.2.2.1 g c, gE ε S (M g c)) := by
  obtain ⟨h1, rfl⟩ := h
  obtain ⟨i, hi⟩ := List.getElem?_of_mem h1
  refine ⟨i, hi, ?_⟩
  unfold gW
  rw [List.getElem?_map, hi]
  rfl
theorem gD_of {ε : gEnv} (h : gDj ε) (M : gMem) (sz : Nat) : va_D (gA ε sz) (gW ε M) := by
  refine ⟨fun i j x y hi hj hxy => ?_, fun k q hk => ?_⟩
  · obtain ⟨p, hp, rfl⟩ := gW_get hi
    obtain ⟨q, hq, rfl⟩ := gW_get hj
    exact h i j p q hp hq hxy
  · obtain ⟨p, hp, rfl⟩ := gW_get hk
    exact Or.inl ⟨p, List.mem_of_getElem? hp, rfl⟩
theorem gW_set {ε : gEnv} (hd : gDj ε) (M : gMem) {g c i : Nat} (hi : ε.2.2.2[i]? = some (g, c)) (f : Nat → Int32) : (gW ε M).set i (gK ε (gUp M g c f) (g, c)) = gW ε (gUp M g c f) := by
  apply List.ext_getElem?
  intro k
  have hl : i < ε.2.2.2.length := (List.getElem?_eq_some_iff.mp hi).1
  by_cases hk : k = i
  · subst hk
    rw [List.getElem?_set_self (by unfold gW; rw [List.length_map]; exact hl)]
    unfold gW
    rw [List.getElem?_map, hi]
    rfl
  · rw [List.getElem?_set_ne (fun q => hk q.symm)]
    unfold gW
    rw [List.getElem?_map, List.getElem?_map]
    cases hp : ε.2.2.2[k]? with
    | none => rw [Option.map_none, Option.map_none]
    | some p =>
      show some (gK ε M p) = some (gK ε (gUp M g c f) p)
      refine congrArg some (gK_cong ε (gUp_n M f ?_).symm)
      rintro ⟨h1, h2⟩
      refine hk (hd k i p (g, c) hp hi ?_)
      rw [h1, h2]
theorem gK_s (ε : gEnv) (M : gMem) {g c : Nat} {S : gSpc} (h : gHas ε g c S) (f : Nat → Int32) : gK ε (gUp M g c f) (g, c) = (ε.2.2.1 g c, gE ε S f) := by
  obtain ⟨h1, rfl⟩ := h
  have e : gUp M g c f (g, c).1 (g, c).2 = f := gUp_s M g c f
  unfold gK
  rw [e]
theorem gA_mono {ε : gEnv} {a b q : Nat} (h : a ≤ b) (hq : gA ε b q) : gA ε a q := by
  rcases hq with hq | hq
  · exact Or.inl hq
  · exact Or.inr (Nat.le_trans h hq)
def gWs : List Cond := lw_tbl.filter goodWord
theorem gWs_in {w : Cond} {i : Nat} (h : lw_tbl[i]? = some w) (hg : goodWord w = true) : w ∈ gWs := List.mem_filter.mpr ⟨List.mem_of_getElem? h, hg⟩
def gIsN : Cond → Bool
  | .methodLinkNest .. => true
  | .fieldLinkNest .. => true
  | _ => false
def gNw (U : State) : Prop := ∀ w ∈ lw_tbl, gIsN w = true → va_Nw w U
theorem gNw.warm {s U : State} (hW : s.WarmedH U.vm) (h : gNw s) : gNw U := by
  intro w hw hn
  cases w <;> first | (simp [gIsN] at hn; done) | exact va_Nw.warmF hW (h _ hw hn) | exact va_Nw.warmM hW (h _ hw hn)
theorem gNw.same {s U : State} (e : s.vm = U.vm) (h : gNw s) : gNw U := by
  intro w hw hn
  cases w <;> first | (simp [gIsN] at hn; done) | exact va_Nw.same rfl e (h _ hw hn)
def gMw (κ : gMD) : List Cond := .code κ.1 κ.2.1 κ.2.2.1 κ.2.2.2 :: gWs
theorem gGood {κ : gMD} (hc : Cond.code κ.1 κ.2.1 κ.2.2.1 κ.2.2.2 ∈ gWs) : GoodIn gWs (gMw κ) := by
  intro w hw
  rcases List.mem_cons.mp hw with rfl | h
  · exact ⟨hc, good_of_word (List.mem_filter.mp hc).2⟩
  · exact ⟨h, good_of_word (List.mem_filter.mp h).2⟩
def gTy (ε : gEnv) : List (ClassId × FieldType) := [(ε.2.1 0, .int), (ε.2.1 1, .boolean), (ε.2.1 2, .object "DropSignals$Evening")]
def gCx (l : Launch) (ε : gEnv) (κ : gMD) (R : Room) (F : gFin) (p : Program) (s : State) (m : MethodId) (args : Array Value) (meth : Method) (c : Code) : Prop :=
  p.tables.exec = Jvm.exec ∧ c.code = κ.2.1 ∧ meth.sig.returnType = κ.2.2.2 ∧ c.maxLocals = κ.2.2.1 ∧ s.vm.findClass κ.1.cls = some m.cls ∧ (∀ w ∈ gWs, w.before args s = true) ∧ gNw s ∧ va_K ε.1 gCl (gTy ε) s ∧ meth.locks = false ∧ gDj ε ∧ F.1 l (gA ε s.heap.size) s c ∧ F.2.1.1 ≤ R.cells ∧ F.2.1.2 ≤ R.slots
def gGo (l : Launch) (ε : gEnv) (κ : gMD) (R : Room) (F : gFin) (pc : Nat) (L : List (Nat × Value)) (st : List Value) (M : gMem) : Prop :=
  ∀ (p : Program) (e : Env) (s : State) (m : MethodId) (args : Array Value) (below : List Frame) (meth : Method) (c : Code) (H : Heap) (locs : List Loc) (ls : Array Slot), gCx l ε κ R F p s m args meth c → va_P ε.1 gCl (gW ε M) H → va_S (gA ε s.heap.size) s.heap H locs → lv_has ls κ.2.2.1 L → W p l e R s m args below meth c H locs F.2.1.1 F.2.1.2 (F.2.2 below args s) (F0 m pc ls st)
def gR (f n : Nat) : Room := { frames := f, cells := 0, slots := 0, locals := n }
def gQ (ε : gEnv) (rv : Option Value) (M' : gMem) (sz : Nat) : Array Value → State → Outcome → State → Prop := fun _ st o t => (o = .returned rv ∧ va_P ε.1 gCl (gW ε M') t.heap) ∧ va_F (gA ε sz) st t
def gPc (ε : gEnv) (av : List Value) (M : gMem) (sz : Nat) : Array Value → State → Prop := va_Pc av (fun U => U.heap.size = sz ∧ va_P ε.1 gCl (gW ε M) U.heap ∧ va_K ε.1 gCl (gTy ε) U ∧ gNw U ∧ gDj ε)
/-- a method's contract: from the world M, with these arguments, it returns rv, and the world is M' -/
def gCt (l : Launch) (ε : gEnv) (κ : gMD) (f n : Nat) (av : List Value) (M : gMem) (rv : Option Value) (M' : gMem) : Prop :=
  ∀ sz, Met l κ.1 (gMw κ) (gR f n) (gPc ε av M sz) (gQ ε rv M' sz) 0 0 (gA ε sz)
def gFn (ε : gEnv) (rv : Option Value) (M' : gMem) : gFin := (fun _ _ _ _ => True, (0, 0), fun below args s => MQ below (gQ ε rv M' s.heap.size) args s 0 0 (gA ε s.heap.size))
theorem gPc_blind {ε : gEnv} {av : List Value} {M : gMem} {sz : Nat} : FrameBlind (gPc ε av M sz) := by
  intro a U g mk q
  obtain ⟨q0, q1, qP, qK, qN, qD⟩ := q
  exact ⟨q0, q1, qP, va_K.moved (u := U) (U := U.calling g mk a) (Vm.Alike.refl U.vm) qK, gNw.same (s := U) (U := U.calling g mk a) rfl qN, qD⟩
theorem gCt_of {l : Launch} {ε : gEnv} {κ : gMD} {f n : Nat} {av : List Value} {M : gMem} {rv : Option Value} {M' : gMem} (hy : plainName κ.1.cls = true) (hlen : (lg_sl av).length ≤ κ.2.2.1) {L : List (Nat × Value)} (hL : lv_args 0 av = L) (h : gGo l ε κ (gR f n) (gFn ε rv M') 0 L [] M) : gCt l ε κ f n av M rv M' := by
  intro sz
  refine Met.ofW (cc := κ.2.1) (maxL := κ.2.2.1) (ret := κ.2.2.2) hy rfl ?_
  intro p e s m args below meth c s₁ B hml hv
  obtain ⟨rfl, hsz, hP, hK, hN, hD⟩ := hv
  have hts := atoms_spec (ws := gMw κ) B.pre
  have hl := lv_entry av (n := κ.2.2.1) hlen
  rw [lg_entry_eq]
  subst hsz
  rw [hL] at hl
  exact h p e s m _ below meth c s.heap [] _ ⟨B.exec, B.bytes, B.returns, hml, findClass_of_methodNamed B.named, fun w hw => hts w (List.mem_cons_of_mem _ hw), hN, hK, B.notSynchronized, hD, trivial, Nat.zero_le _, Nat.zero_le _⟩ hP va_S.rf hl
section GOR
variable {l : Launch} {ε : gEnv} {κ : gMD} {R : Room} {F : gFin} {pc : Nat} {L : List (Nat × Value)} {st : List Value} {M : gMem}
theorem gGo_sub {L' : List (Nat × Value)} (ks : List Nat) (hl : lv_pick L ks = L') (k : gGo l ε κ R F pc L' st M) : gGo l ε κ R F pc L st M :=
  fun p e s m args below meth c H locs ls C hP hS h => k p e s m args below meth c H locs ls C hP hS (lv_sub h ks hl)
theorem g_iconst {n : Int} {v : Int32} (d : decode κ.2.1 pc = .ok (.iconst n, 1)) (hv : Int32.ofInt n = v) (k : gGo l ε κ R F (pc + 1) L (.int v :: st) M) : gGo l ε κ R F pc L st M :=
  fun p e s m args below meth c H locs ls C hP hS h => lv_iconst C.1 C.2.1 d hv (k p e s m args below meth c H locs ls C hP hS h)
theorem g_bipush {n : Int} {v : Int32} (d : decode κ.2.1 pc = .ok (.bipush n, 2)) (hv : (Int8.ofInt n).toInt32 = v) (k : gGo l ε κ R F (pc + 2) L (.int v :: st) M) : gGo l ε κ R F pc L st M :=
  fun p e s m args below meth c H locs ls C hP hS h => lv_bipush C.1 C.2.1 d hv (k p e s m args below meth c H locs ls C hP hS h)
theorem g_sipush {n : Int} {v : Int32} (d : decode κ.2.1 pc = .ok (.sipush n, 3)) (hv : (Int16.ofInt n).toInt32 = v) (k : gGo l ε κ R F (pc + 3) L (.int v :: st) M) : gGo l ε κ R F pc L st M :=
  fun p e s m args below meth c H locs ls C hP hS h => lv_sipush C.1 C.2.1 d hv (k p e s m args below meth c H locs ls C hP hS h)
theorem g_lconst {n : Fin 2} {v : Int64} (d : decode κ.2.1 pc = .ok (.lconst n, 1)) (hv : Int64.ofNat (n : Nat) = v) (k : gGo l ε κ R F (pc + 1) L (.long v :: st) M) : gGo l ε κ R F pc L st M :=
  fun p e s m args below meth c H locs ls C hP hS h => lv_lconst C.1 C.2.1 d hv (k p e s m args below meth c H locs ls C hP hS h)
theorem g_iload_n {k0 : Fin 4} {i : Nat} {x : Int32} (d : decode κ.2.1 pc = .ok (.iload_n k0, 1)) (hi : (k0 : Nat) = i) (j : Nat) (hj : L[j]? = some (i, .int x)) (k : gGo l ε κ R F (pc + 1) L (.int x :: st) M) : gGo l ε κ R F pc L st M :=
  fun p e s m args below meth c H locs ls C hP hS h => lv_iload_n C.1 C.2.1 d hi (lv_at h j hj) (k p e s m args below meth c H locs ls C hP hS h)
theorem g_iload {i : Nat} {x : Int32} (d : decode κ.2.1 pc = .ok (.iload i, 2)) (j : Nat) (hj : L[j]? = some (i, .int x)) (k : gGo l ε κ R F (pc + 2) L (.int x :: st) M) : gGo l ε κ R F pc L st M :=
  fun p e s m args below meth c H locs ls C hP hS h => lv_iload C.1 C.2.1 d (lv_at h j hj) (k p e s m args below meth c H locs ls C hP hS h)
theorem g_lload_n {k0 : Fin 4} {i : Nat} {x : Int64} (d : decode κ.2.1 pc = .ok (.lload_n k0, 1)) (hi : (k0 : Nat) = i) (j : Nat) (hj : L[j]? = some (i, .long x)) (k : gGo l ε κ R F (pc + 1) L (.long x :: st) M) : gGo l ε κ R F pc L st M :=
  fun p e s m args below meth c H locs ls C hP hS h => lv_lload_n C.1 C.2.1 d hi (lv_at h j hj) (k p e s m args below meth c H locs ls C hP hS h)
theorem g_lload {i : Nat} {x : Int64} (d : decode κ.2.1 pc = .ok (.lload i, 2)) (j : Nat) (hj : L[j]? = some (i, .long x)) (k : gGo l ε κ R F (pc + 2) L (.long x :: st) M) : gGo l ε κ R F pc L st M :=
  fun p e s m args below meth c H locs ls C hP hS h => lv_lload C.1 C.2.1 d (lv_at h j hj) (k p e s m args below meth c H locs ls C hP hS h)
theorem g_aload_n {k0 : Fin 4} {i : Nat} {x : Nat} (d : decode κ.2.1 pc = .ok (.aload_n k0, 1)) (hi : (k0 : Nat) = i) (j : Nat) (hj : L[j]? = some (i, .ref x)) (k : gGo l ε κ R F (pc + 1) L (.ref x :: st) M) : gGo l ε κ R F pc L st M :=
  fun p e s m args below meth c H locs ls C hP hS h => lv_aload_n C.1 C.2.1 d hi (lv_at h j hj) (k p e s m args below meth c H locs ls C hP hS h)
theorem g_aload {i : Nat} {x : Nat} (d : decode κ.2.1 pc = .ok (.aload i, 2)) (j : Nat) (hj : L[j]? = some (i, .ref x)) (k : gGo l ε κ R F (pc + 2) L (.ref x :: st) M) : gGo l ε κ R F pc L st M :=
  fun p e s m args below meth c H locs ls C hP hS h => lv_aload C.1 C.2.1 d (lv_at h j hj) (k p e s m args below meth c H locs ls C hP hS h)
theorem g_istore_n {k0 : Fin 4} {i : Nat} {x : Int32} {L' : List (Nat × Value)} (d : decode κ.2.1 pc = .ok (.istore_n k0, 1)) (hi : (k0 : Nat) = i) (hn : i < κ.2.2.1) (hl : (i, Value.int x) :: L.filter (fun q => !(q.1 == i) && !(q.1 + 1 == i && q.2.category == 2)) = L') (k : gGo l ε κ R F (pc + 1) L' st M) : gGo l ε κ R F pc L (.int x :: st) M :=
  fun p e s m args below meth c H locs ls C hP hS h => lv_istore_n C.1 C.2.1 d hi h hn hl (fun ls h => k p e s m args below meth c H locs ls C hP hS h)
theorem g_istore {i : Nat} {x : Int32} {L' : List (Nat × Value)} (d : decode κ.2.1 pc = .ok (.istore i, 2)) (hn : i < κ.2.2.1) (hl : (i, Value.int x) :: L.filter (fun q => !(q.1 == i) && !(q.1 + 1 == i && q.2.category == 2)) = L') (k : gGo l ε κ R F (pc + 2) L' st M) : gGo l ε κ R F pc L (.int x :: st) M :=
  fun p e s m args below meth c H locs ls C hP hS h => lv_istore C.1 C.2.1 d h hn hl (fun ls h => k p e s m args below meth c H locs ls C hP hS h)
theorem g_astore_n {k0 : Fin 4} {i : Nat} {x : Nat} {L' : List (Nat × Value)} (d : decode κ.2.1 pc = .ok (.astore_n k0, 1)) (hi : (k0 : Nat) = i) (hn : i < κ.2.2.1) (hl : (i, Value.ref x) :: L.filter (fun q => !(q.1 == i) && !(q.1 + 1 == i && q.2.category == 2)) = L') (k : gGo l ε κ R F (pc + 1) L' st M) : gGo l ε κ R F pc L (.ref x :: st) M :=
  fun p e s m args below meth c H locs ls C hP hS h => lv_astore_n C.1 C.2.1 d hi h hn hl (fun ls h => k p e s m args below meth c H locs ls C hP hS h)
theorem g_astore {i : Nat} {x : Nat} {L' : List (Nat × Value)} (d : decode κ.2.1 pc = .ok (.astore i, 2)) (hn : i < κ.2.2.1) (hl : (i, Value.ref x) :: L.filter (fun q => !(q.1 == i) && !(q.1 + 1 == i && q.2.category == 2)) = L') (k : gGo l ε κ R F (pc + 2) L' st M) : gGo l ε κ R F pc L (.ref x :: st) M :=
  fun p e s m args below meth c H locs ls C hP hS h => lv_astore C.1 C.2.1 d h hn hl (fun ls h => k p e s m args below meth c H locs ls C hP hS h)
theorem g_lstore_n {k0 : Fin 4} {i : Nat} {x : Int64} {L' : List (Nat × Value)} (d : decode κ.2.1 pc = .ok (.lstore_n k0, 1)) (hi : (k0 : Nat) = i) (hn : i + 1 < κ.2.2.1) (hl : (i, Value.long x) :: L.filter (fun q => !(q.1 == i) && (!(q.1 == i + 1) && !(q.1 + 1 == i && q.2.category == 2))) = L') (k : gGo l ε κ R F (pc + 1) L' st M) : gGo l ε κ R F pc L (.long x :: st) M :=
  fun p e s m args below meth c H locs ls C hP hS h => lv_lstore_n C.1 C.2.1 d hi h hn hl (fun ls h => k p e s m args below meth c H locs ls C hP hS h)
theorem g_lstore {i : Nat} {x : Int64} {L' : List (Nat × Value)} (d : decode κ.2.1 pc = .ok (.lstore i, 2)) (hn : i + 1 < κ.2.2.1) (hl : (i, Value.long x) :: L.filter (fun q => !(q.1 == i) && (!(q.1 == i + 1) && !(q.1 + 1 == i && q.2.category == 2))) = L') (k : gGo l ε κ R F (pc + 2) L' st M) : gGo l ε κ R F pc L (.long x :: st) M :=
  fun p e s m args below meth c H locs ls C hP hS h => lv_lstore C.1 C.2.1 d h hn hl (fun ls h => k p e s m args below meth c H locs ls C hP hS h)
theorem g_iinc {i j : Nat} {n : Int} {x v : Int32} {L' : List (Nat × Value)} (d : decode κ.2.1 pc = .ok (.iinc i n, 3)) (hj : L[j]? = some (i, .int x)) (hv : x + Int32.ofInt n = v) (hn : i < κ.2.2.1) (hl : (i, Value.int v) :: L.filter (fun q => !(q.1 == i) && !(q.1 + 1 == i && q.2.category == 2)) = L') (k : gGo l ε κ R F (pc + 3) L' st M) : gGo l ε κ R F pc L st M :=
  fun p e s m args below meth c H locs ls C hP hS h => lv_iinc C.1 C.2.1 d h hj hv hn hl (fun ls h => k p e s m args below meth c H locs ls C hP hS h)
theorem g_iadd {x y : Int32} (d : decode κ.2.1 pc = .ok (.iadd, 1)) (k : gGo l ε κ R F (pc + 1) L (.int (x + y) :: st) M) : gGo l ε κ R F pc L (.int y :: .int x :: st) M :=
  fun p e s m args below meth c H locs ls C hP hS h => lv_iadd C.1 C.2.1 d (k p e s m args below meth c H locs ls C hP hS h)
theorem g_isub {x y : Int32} (d : decode κ.2.1 pc = .ok (.isub, 1)) (k : gGo l ε κ R F (pc + 1) L (.int (x - y) :: st) M) : gGo l ε κ R F pc L (.int y :: .int x :: st) M :=
  fun p e s m args below meth c H locs ls C hP hS h => lv_isub C.1 C.2.1 d (k p e s m args below meth c H locs ls C hP hS h)
theorem g_imul {x y : Int32} (d : decode κ.2.1 pc = .ok (.imul, 1)) (k : gGo l ε κ R F (pc + 1) L (.int (x * y) :: st) M) : gGo l ε κ R F pc L (.int y :: .int x :: st) M :=
  fun p e s m args below meth c H locs ls C hP hS h => lv_imul C.1 C.2.1 d (k p e s m args below meth c H locs ls C hP hS h)
theorem g_iand {x y : Int32} (d : decode κ.2.1 pc = .ok (.iand, 1)) (k : gGo l ε κ R F (pc + 1) L (.int (x &&& y) :: st) M) : gGo l ε κ R F pc L (.int y :: .int x :: st) M :=
  fun p e s m args below meth c H locs ls C hP hS h => lv_iand C.1 C.2.1 d (k p e s m args below meth c H locs ls C hP hS h)
theorem g_ior {x y : Int32} (d : decode κ.2.1 pc = .ok (.ior, 1)) (k : gGo l ε κ R F (pc + 1) L (.int (x ||| y) :: st) M) : gGo l ε κ R F pc L (.int y :: .int x :: st) M :=
  fun p e s m args below meth c H locs ls C hP hS h => lv_ior C.1 C.2.1 d (k p e s m args below meth c H locs ls C hP hS h)
theorem g_ixor {x y : Int32} (d : decode κ.2.1 pc = .ok (.ixor, 1)) (k : gGo l ε κ R F (pc + 1) L (.int (x ^^^ y) :: st) M) : gGo l ε κ R F pc L (.int y :: .int x :: st) M :=
  fun p e s m args below meth c H locs ls C hP hS h => lv_ixor C.1 C.2.1 d (k p e s m args below meth c H locs ls C hP hS h)
theorem g_ishr {x y : Int32} (d : decode κ.2.1 pc = .ok (.ishr, 1)) (k : gGo l ε κ R F (pc + 1) L (.int (x >>> (y &&& 31)) :: st) M) : gGo l ε κ R F pc L (.int y :: .int x :: st) M :=
  fun p e s m args below meth c H locs ls C hP hS h => lv_ishr C.1 C.2.1 d (k p e s m args below meth c H locs ls C hP hS h)
theorem g_ishl {x y : Int32} (d : decode κ.2.1 pc = .ok (.ishl, 1)) (k : gGo l ε κ R F (pc + 1) L (.int (x <<< (y &&& 31)) :: st) M) : gGo l ε κ R F pc L (.int y :: .int x :: st) M :=
  fun p e s m args below meth c H locs ls C hP hS h => lv_ishl C.1 C.2.1 d (k p e s m args below meth c H locs ls C hP hS h)
theorem g_idiv {x y : Int32} (d : decode κ.2.1 pc = .ok (.idiv, 1)) (hne : ¬ y = 0) (k : gGo l ε κ R F (pc + 1) L (.int (x / y) :: st) M) : gGo l ε κ R F pc L (.int y :: .int x :: st) M :=
  fun p e s m args below meth c H locs ls C hP hS h => lv_idiv C.1 C.2.1 d hne (k p e s m args below meth c H locs ls C hP hS h)
theorem g_irem {x y : Int32} (d : decode κ.2.1 pc = .ok (.irem, 1)) (hne : ¬ y = 0) (k : gGo l ε κ R F (pc + 1) L (.int (x - x / y * y) :: st) M) : gGo l ε κ R F pc L (.int y :: .int x :: st) M :=
  fun p e s m args below meth c H locs ls C hP hS h => lv_irem C.1 C.2.1 d hne (k p e s m args below meth c H locs ls C hP hS h)
theorem g_ladd {x y : Int64} (d : decode κ.2.1 pc = .ok (.ladd, 1)) (k : gGo l ε κ R F (pc + 1) L (.long (x + y) :: st) M) : gGo l ε κ R F pc L (.long y :: .long x :: st) M :=
  fun p e s m args below meth c H locs ls C hP hS h => lv_ladd C.1 C.2.1 d (k p e s m args below meth c H locs ls C hP hS h)
theorem g_lsub {x y : Int64} (d : decode κ.2.1 pc = .ok (.lsub, 1)) (k : gGo l ε κ R F (pc + 1) L (.long (x - y) :: st) M) : gGo l ε κ R F pc L (.long y :: .long x :: st) M :=
  fun p e s m args below meth c H locs ls C hP hS h => lv_lsub C.1 C.2.1 d (k p e s m args below meth c H locs ls C hP hS h)
theorem g_lmul {x y : Int64} (d : decode κ.2.1 pc = .ok (.lmul, 1)) (k : gGo l ε κ R F (pc + 1) L (.long (x * y) :: st) M) : gGo l ε κ R F pc L (.long y :: .long x :: st) M :=
  fun p e s m args below meth c H locs ls C hP hS h => lv_lmul C.1 C.2.1 d (k p e s m args below meth c H locs ls C hP hS h)
theorem g_land {x y : Int64} (d : decode κ.2.1 pc = .ok (.land, 1)) (k : gGo l ε κ R F (pc + 1) L (.long (x &&& y) :: st) M) : gGo l ε κ R F pc L (.long y :: .long x :: st) M :=
  fun p e s m args below meth c H locs ls C hP hS h => lv_land C.1 C.2.1 d (k p e s m args below meth c H locs ls C hP hS h)
theorem g_lor {x y : Int64} (d : decode κ.2.1 pc = .ok (.lor, 1)) (k : gGo l ε κ R F (pc + 1) L (.long (x ||| y) :: st) M) : gGo l ε κ R F pc L (.long y :: .long x :: st) M :=
  fun p e s m args below meth c H locs ls C hP hS h => lv_lor C.1 C.2.1 d (k p e s m args below meth c H locs ls C hP hS h)
theorem g_ldiv {x y : Int64} (d : decode κ.2.1 pc = .ok (.ldiv, 1)) (hne : ¬ y = 0) (k : gGo l ε κ R F (pc + 1) L (.long (x / y) :: st) M) : gGo l ε κ R F pc L (.long y :: .long x :: st) M :=
  fun p e s m args below meth c H locs ls C hP hS h => lv_ldiv C.1 C.2.1 d hne (k p e s m args below meth c H locs ls C hP hS h)
theorem g_lrem {x y : Int64} (d : decode κ.2.1 pc = .ok (.lrem, 1)) (hne : ¬ y = 0) (k : gGo l ε κ R F (pc + 1) L (.long (x - x / y * y) :: st) M) : gGo l ε κ R F pc L (.long y :: .long x :: st) M :=
  fun p e s m args below meth c H locs ls C hP hS h => lv_lrem C.1 C.2.1 d hne (k p e s m args below meth c H locs ls C hP hS h)
theorem g_i2l {x : Int32} (d : decode κ.2.1 pc = .ok (.i2l, 1)) (k : gGo l ε κ R F (pc + 1) L (.long x.toInt64 :: st) M) : gGo l ε κ R F pc L (.int x :: st) M :=
  fun p e s m args below meth c H locs ls C hP hS h => lv_i2l C.1 C.2.1 d rfl (k p e s m args below meth c H locs ls C hP hS h)
theorem g_l2i {x : Int64} (d : decode κ.2.1 pc = .ok (.l2i, 1)) (k : gGo l ε κ R F (pc + 1) L (.int x.toInt32 :: st) M) : gGo l ε κ R F pc L (.long x :: st) M :=
  fun p e s m args below meth c H locs ls C hP hS h => lv_l2i C.1 C.2.1 d rfl (k p e s m args below meth c H locs ls C hP hS h)
theorem g_lushr {x : Int64} {y : Int32} (d : decode κ.2.1 pc = .ok (.lushr, 1)) (k : gGo l ε κ R F (pc + 1) L (.long (x.toUInt64 >>> (y.toInt64.toUInt64 &&& Int64.toUInt64 63)).toInt64 :: st) M) : gGo l ε κ R F pc L (.int y :: .long x :: st) M :=
  fun p e s m args below meth c H locs ls C hP hS h => lv_lushr C.1 C.2.1 d rfl (k p e s m args below meth c H locs ls C hP hS h)
theorem g_lshl {x : Int64} {y : Int32} (d : decode κ.2.1 pc = .ok (.lshl, 1)) (k : gGo l ε κ R F (pc + 1) L (.long (x <<< (y.toInt64 &&& 63)) :: st) M) : gGo l ε κ R F pc L (.int y :: .long x :: st) M :=
  fun p e s m args below meth c H locs ls C hP hS h => lv_lshl C.1 C.2.1 d rfl (k p e s m args below meth c H locs ls C hP hS h)
theorem g_lcmp {x y : Int64} (d : decode κ.2.1 pc = .ok (.lcmp, 1)) (k : gGo l ε κ R F (pc + 1) L (.int (lg_cmp x y) :: st) M) : gGo l ε κ R F pc L (.long y :: .long x :: st) M :=
  fun p e s m args below meth c H locs ls C hP hS h => W.lcmp C.1 C.2.1 d (k p e s m args below meth c H locs ls C hP hS h)
theorem g_dup {v : Value} (d : decode κ.2.1 pc = .ok (.dup, 1)) (hv : v.category = 1) (k : gGo l ε κ R F (pc + 1) L (v :: v :: st) M) : gGo l ε κ R F pc L (v :: st) M :=
  fun p e s m args below meth c H locs ls C hP hS h => lv_dup C.1 C.2.1 d hv (k p e s m args below meth c H locs ls C hP hS h)
theorem g_pop {v : Value} (d : decode κ.2.1 pc = .ok (.pop, 1)) (hv : v.category = 1) (k : gGo l ε κ R F (pc + 1) L st M) : gGo l ε κ R F pc L (v :: st) M :=
  fun p e s m args below meth c H locs ls C hP hS h => lv_pop C.1 C.2.1 d hv (k p e s m args below meth c H locs ls C hP hS h)
theorem g_dup2 {v w : Value} (d : decode κ.2.1 pc = .ok (.dup2, 1)) (hv : v.category = 1) (hw : w.category = 1) (k : gGo l ε κ R F (pc + 1) L (v :: w :: v :: w :: st) M) : gGo l ε κ R F pc L (v :: w :: st) M :=
  fun p e s m args below meth c H locs ls C hP hS h => lv_dup2_11 C.1 C.2.1 d hv hw (k p e s m args below meth c H locs ls C hP hS h)
theorem g_goto {off : Int} {tgt : Nat} (d : decode κ.2.1 pc = .ok (.goto off, 3)) (ht : (pc : Int) + off = (tgt : Int)) (k : gGo l ε κ R F tgt L st M) : gGo l ε κ R F pc L st M :=
  fun p e s m args below meth c H locs ls C hP hS h => lv_goto C.1 C.2.1 d ht (k p e s m args below meth c H locs ls C hP hS h)
theorem g_ifnull {x : Nat} {off : Int} (d : decode κ.2.1 pc = .ok (.ifnull off, 3)) (k : gGo l ε κ R F (pc + 3) L st M) : gGo l ε κ R F pc L (.ref x :: st) M :=
  fun p e s m args below meth c H locs ls C hP hS h => lv_ifnull C.1 C.2.1 d (k p e s m args below meth c H locs ls C hP hS h)
theorem g_ifnonnull {x : Nat} {off : Int} {tgt : Nat} (d : decode κ.2.1 pc = .ok (.ifnonnull off, 3)) (ht : (pc : Int) + off = (tgt : Int)) (k : gGo l ε κ R F tgt L st M) : gGo l ε κ R F pc L (.ref x :: st) M :=
  fun p e s m args below meth c H locs ls C hP hS h => lv_ifnonnull C.1 C.2.1 d ht (k p e s m args below meth c H locs ls C hP hS h)
theorem g_if_eq {x : Int32} {off : Int} {tgt : Nat} (d : decode κ.2.1 pc = .ok (.ifCond .eq off, 3)) (ht : (pc : Int) + off = (tgt : Int)) (kt : x = 0 → gGo l ε κ R F tgt L st M) (kf : ¬ x = 0 → gGo l ε κ R F (pc + 3) L st M) : gGo l ε κ R F pc L (.int x :: st) M :=
  fun p e s m args below meth c H locs ls C hP hS h => lv_if_eq C.1 C.2.1 d ht (fun q => kt q p e s m args below meth c H locs ls C hP hS h) (fun q => kf q p e s m args below meth c H locs ls C hP hS h)
theorem g_icmp_eq {x y : Int32} {off : Int} {tgt : Nat} (d : decode κ.2.1 pc = .ok (.if_icmp .eq off, 3)) (ht : (pc : Int) + off = (tgt : Int)) (kt : x = y → gGo l ε κ R F tgt L st M) (kf : ¬ x = y → gGo l ε κ R F (pc + 3) L st M) : gGo l ε κ R F pc L (.int y :: .int x :: st) M :=
  fun p e s m args below meth c H locs ls C hP hS h => lv_icmp_eq C.1 C.2.1 d ht (fun q => kt q p e s m args below meth c H locs ls C hP hS h) (fun q => kf q p e s m args below meth c H locs ls C hP hS h)
theorem g_if_ne {x : Int32} {off : Int} {tgt : Nat} (d : decode κ.2.1 pc = .ok (.ifCond .ne off, 3)) (ht : (pc : Int) + off = (tgt : Int)) (kt : ¬ x = 0 → gGo l ε κ R F tgt L st M) (kf : x = 0 → gGo l ε κ R F (pc + 3) L st M) : gGo l ε κ R F pc L (.int x :: st) M :=
  fun p e s m args below meth c H locs ls C hP hS h => lv_if_ne C.1 C.2.1 d ht (fun q => kt q p e s m args below meth c H locs ls C hP hS h) (fun q => kf q p e s m args below meth c H locs ls C hP hS h)
theorem g_icmp_ne {x y : Int32} {off : Int} {tgt : Nat} (d : decode κ.2.1 pc = .ok (.if_icmp .ne off, 3)) (ht : (pc : Int) + off = (tgt : Int)) (kt : ¬ x = y → gGo l ε κ R F tgt L st M) (kf : x = y → gGo l ε κ R F (pc + 3) L st M) : gGo l ε κ R F pc L (.int y :: .int x :: st) M :=
  fun p e s m args below meth c H locs ls C hP hS h => lv_icmp_ne C.1 C.2.1 d ht (fun q => kt q p e s m args below meth c H locs ls C hP hS h) (fun q => kf q p e s m args below meth c H locs ls C hP hS h)
theorem g_if_lt {x : Int32} {off : Int} {tgt : Nat} (d : decode κ.2.1 pc = .ok (.ifCond .lt off, 3)) (ht : (pc : Int) + off = (tgt : Int)) (kt : x < 0 → gGo l ε κ R F tgt L st M) (kf : ¬ x < 0 → gGo l ε κ R F (pc + 3) L st M) : gGo l ε κ R F pc L (.int x :: st) M :=
  fun p e s m args below meth c H locs ls C hP hS h => lv_if_lt C.1 C.2.1 d ht (fun q => kt q p e s m args below meth c H locs ls C hP hS h) (fun q => kf q p e s m args below meth c H locs ls C hP hS h)
theorem g_icmp_lt {x y : Int32} {off : Int} {tgt : Nat} (d : decode κ.2.1 pc = .ok (.if_icmp .lt off, 3)) (ht : (pc : Int) + off = (tgt : Int)) (kt : x < y → gGo l ε κ R F tgt L st M) (kf : ¬ x < y → gGo l ε κ R F (pc + 3) L st M) : gGo l ε κ R F pc L (.int y :: .int x :: st) M :=
  fun p e s m args below meth c H locs ls C hP hS h => lv_icmp_lt C.1 C.2.1 d ht (fun q => kt q p e s m args below meth c H locs ls C hP hS h) (fun q => kf q p e s m args below meth c H locs ls C hP hS h)
theorem g_if_ge {x : Int32} {off : Int} {tgt : Nat} (d : decode κ.2.1 pc = .ok (.ifCond .ge off, 3)) (ht : (pc : Int) + off = (tgt : Int)) (kt : 0 ≤ x → gGo l ε κ R F tgt L st M) (kf : ¬ 0 ≤ x → gGo l ε κ R F (pc + 3) L st M) : gGo l ε κ R F pc L (.int x :: st) M :=
  fun p e s m args below meth c H locs ls C hP hS h => lv_if_ge C.1 C.2.1 d ht (fun q => kt q p e s m args below meth c H locs ls C hP hS h) (fun q => kf q p e s m args below meth c H locs ls C hP hS h)
theorem g_icmp_ge {x y : Int32} {off : Int} {tgt : Nat} (d : decode κ.2.1 pc = .ok (.if_icmp .ge off, 3)) (ht : (pc : Int) + off = (tgt : Int)) (kt : y ≤ x → gGo l ε κ R F tgt L st M) (kf : ¬ y ≤ x → gGo l ε κ R F (pc + 3) L st M) : gGo l ε κ R F pc L (.int y :: .int x :: st) M :=
  fun p e s m args below meth c H locs ls C hP hS h => lv_icmp_ge C.1 C.2.1 d ht (fun q => kt q p e s m args below meth c H locs ls C hP hS h) (fun q => kf q p e s m args below meth c H locs ls C hP hS h)
theorem g_if_gt {x : Int32} {off : Int} {tgt : Nat} (d : decode κ.2.1 pc = .ok (.ifCond .gt off, 3)) (ht : (pc : Int) + off = (tgt : Int)) (kt : 0 < x → gGo l ε κ R F tgt L st M) (kf : ¬ 0 < x → gGo l ε κ R F (pc + 3) L st M) : gGo l ε κ R F pc L (.int x :: st) M :=
  fun p e s m args below meth c H locs ls C hP hS h => lv_if_gt C.1 C.2.1 d ht (fun q => kt q p e s m args below meth c H locs ls C hP hS h) (fun q => kf q p e s m args below meth c H locs ls C hP hS h)
theorem g_icmp_gt {x y : Int32} {off : Int} {tgt : Nat} (d : decode κ.2.1 pc = .ok (.if_icmp .gt off, 3)) (ht : (pc : Int) + off = (tgt : Int)) (kt : y < x → gGo l ε κ R F tgt L st M) (kf : ¬ y < x → gGo l ε κ R F (pc + 3) L st M) : gGo l ε κ R F pc L (.int y :: .int x :: st) M :=
  fun p e s m args below meth c H locs ls C hP hS h => lv_icmp_gt C.1 C.2.1 d ht (fun q => kt q p e s m args below meth c H locs ls C hP hS h) (fun q => kf q p e s m args below meth c H locs ls C hP hS h)
theorem g_if_le {x : Int32} {off : Int} {tgt : Nat} (d : decode κ.2.1 pc = .ok (.ifCond .le off, 3)) (ht : (pc : Int) + off = (tgt : Int)) (kt : x ≤ 0 → gGo l ε κ R F tgt L st M) (kf : ¬ x ≤ 0 → gGo l ε κ R F (pc + 3) L st M) : gGo l ε κ R F pc L (.int x :: st) M :=
  fun p e s m args below meth c H locs ls C hP hS h => lv_if_le C.1 C.2.1 d ht (fun q => kt q p e s m args below meth c H locs ls C hP hS h) (fun q => kf q p e s m args below meth c H locs ls C hP hS h)
theorem g_icmp_le {x y : Int32} {off : Int} {tgt : Nat} (d : decode κ.2.1 pc = .ok (.if_icmp .le off, 3)) (ht : (pc : Int) + off = (tgt : Int)) (kt : x ≤ y → gGo l ε κ R F tgt L st M) (kf : ¬ x ≤ y → gGo l ε κ R F (pc + 3) L st M) : gGo l ε κ R F pc L (.int y :: .int x :: st) M :=
  fun p e s m args below meth c H locs ls C hP hS h => lv_icmp_le C.1 C.2.1 d ht (fun q => kt q p e s m args below meth c H locs ls C hP hS h) (fun q => kf q p e s m args below meth c H locs ls C hP hS h)
theorem g_tabOut {dflt lo hi : Int} {offs : Array Int} {len tgt : Nat} {x : Int32} (d : decode κ.2.1 pc = .ok (.tableswitch dflt lo hi offs, len)) (hx : x.toInt < lo ∨ hi < x.toInt) (ht : (pc : Int) + dflt = (tgt : Int)) (k : gGo l ε κ R F tgt L st M) : gGo l ε κ R F pc L (.int x :: st) M :=
  fun p e s m args below meth c H locs ls C hP hS h => lv_tableOut C.1 C.2.1 d hx ht (k p e s m args below meth c H locs ls C hP hS h)
theorem g_tabIn {dflt lo hi : Int} {offs : Array Int} {len tgt : Nat} {x : Int32} {off : Int} (d : decode κ.2.1 pc = .ok (.tableswitch dflt lo hi offs, len)) (h1 : ¬ x.toInt < lo) (h2 : ¬ hi < x.toInt) (ho : offs[(x.toInt - lo).toNat]? = some off) (ht : (pc : Int) + off = (tgt : Int)) (k : gGo l ε κ R F tgt L st M) : gGo l ε κ R F pc L (.int x :: st) M :=
  fun p e s m args below meth c H locs ls C hP hS h => lv_tableIn C.1 C.2.1 d h1 h2 ho ht (k p e s m args below meth c H locs ls C hP hS h)
theorem g_lookup {dflt : Int} {ps : Array (Int × Int)} {len tgt : Nat} {x : Int32} {off : Int} (d : decode κ.2.1 pc = .ok (.lookupswitch dflt ps, len)) (hp : (ps.toList.zip (ps.toList.drop 1)).all (fun (a, next) => a.1 < next.1) = true) (ho : Op.lookupswitch.offset ps.toList dflt x.toInt = off) (ht : (pc : Int) + off = (tgt : Int)) (k : gGo l ε κ R F tgt L st M) : gGo l ε κ R F pc L (.int x :: st) M :=
  fun p e s m args below meth c H locs ls C hP hS h => lv_lookup C.1 C.2.1 d hp ho ht (k p e s m args below meth c H locs ls C hP hS h)
theorem g_ldc {index : Nat} {v : Int32} (d : decode κ.2.1 pc = .ok (.ldc index, 2)) (hw : Jvm.Cond.constant κ.1.cls index v ∈ gWs) (k : gGo l ε κ R F (pc + 2) L (.int v :: st) M) : gGo l ε κ R F pc L st M :=
  fun p e s m args below meth c H locs ls C hP hS h => lv_ldc C.1 C.2.1 C.2.2.2.2.1 (C.2.2.2.2.2.1 _ hw) d (k p e s m args below meth c H locs ls C hP hS h)
theorem g_ldc2 {index : Nat} {v : Int64} (d : decode κ.2.1 pc = .ok (.ldc2_w index, 3)) (hw : Jvm.Cond.constantLong κ.1.cls index v ∈ gWs) (k : gGo l ε κ R F (pc + 3) L (.long v :: st) M) : gGo l ε κ R F pc L st M :=
  fun p e s m args below meth c H locs ls C hP hS h => lv_ldc2 C.1 C.2.1 C.2.2.2.2.1 (C.2.2.2.2.2.1 _ hw) d (k p e s m args below meth c H locs ls C hP hS h)
/-- a field of the class ci, at place k, linked by the pool's entry idx of own -/
def gFl (own : String) (idx ci k : Nat) : Prop := ∃ (C : String) (T : u_T) (N : Nat), gCl[ci]? = some (C, T, N) ∧ (∀ w ∈ u_ws C T N, w ∈ gWs) ∧ k < N ∧ Cond.fieldLink own idx (T k).1 (T k).2.1 (T k).2.2.1 ∈ gWs
/-- .. one that may be written: its type, and that its class's fields are told apart -/
def gFp (own : String) (idx ci k : Nat) (ty : FieldType) : Prop := ∃ (C : String) (T : u_T) (N : Nat), gCl[ci]? = some (C, T, N) ∧ (∀ w ∈ u_ws C T N, w ∈ gWs) ∧ k < N ∧ Cond.fieldLink own idx (T k).1 (T k).2.1 (T k).2.2.1 ∈ gWs ∧ (∃ t : Nat → FieldType, ∀ k, k < N → parseFieldDescriptor (T k).2.2.1 = some (t k)) ∧ (∀ a, a < N → ∀ b, b < N → a ≠ b → (T a).2.1 ≠ (T b).2.1) ∧ (T k).2.2.2 = false ∧ parseFieldDescriptor (T k).2.2.1 = some ty
theorem g_getI {idx ci k g c0 : Nat} {fs : List (Option (Nat × Nat))} (d : decode κ.2.1 pc = .ok (.getfield idx, 3)) (hf : gFl κ.1.cls idx ci k) (hh : gHas ε g c0 (3, ci, fs)) (hk : fs[k]? = some none) (kk : gGo l ε κ R F (pc + 3) L (.int (M g c0 k) :: st) M) : gGo l ε κ R F pc L (.ref (ε.2.2.1 g c0) :: st) M := by
  intro p e s m args below meth c H locs ls C hP hS h
  obtain ⟨C0, T, N, h1, h2, h3, h4⟩ := hf
  obtain ⟨i, hi, hw⟩ := gW_at M hh
  have hv := gVals_i ε.2.2.1 (M g c0) fs 0 k hk
  rw [Nat.zero_add] at hv
  exact va_get (D := ε.1) (ref := (T k).1) C.1 C.2.1 C.2.2.2.2.2.1 h2 C.2.2.2.2.1 C.2.2.2.2.2.2.2.1 hP i hw h1 k h3 (C.2.2.2.2.2.1 _ h4) (fun _ x => x) hv d (kk p e s m args below meth c H locs ls C hP hS h)
theorem g_getR {idx ci k g c0 g1 c1 : Nat} {fs : List (Option (Nat × Nat))} (d : decode κ.2.1 pc = .ok (.getfield idx, 3)) (hf : gFl κ.1.cls idx ci k) (hh : gHas ε g c0 (3, ci, fs)) (hk : fs[k]? = some (some (g1, c1))) (kk : gGo l ε κ R F (pc + 3) L (.ref (ε.2.2.1 g1 c1) :: st) M) : gGo l ε κ R F pc L (.ref (ε.2.2.1 g c0) :: st) M := by
  intro p e s m args below meth c H locs ls C hP hS h
  obtain ⟨C0, T, N, h1, h2, h3, h4⟩ := hf
  obtain ⟨i, hi, hw⟩ := gW_at M hh
  have hv := gVals_r ε.2.2.1 (M g c0) fs 0 k (g1, c1) hk
  exact va_get (D := ε.1) (ref := (T k).1) C.1 C.2.1 C.2.2.2.2.2.1 h2 C.2.2.2.2.1 C.2.2.2.2.2.2.2.1 hP i hw h1 k h3 (C.2.2.2.2.2.1 _ h4) (fun _ x => x) hv d (kk p e s m args below meth c H locs ls C hP hS h)
/-- a field's value is written -/
def gSt (M : gMem) (g c k : Nat) (x : Int32) : gMem := gUp M g c (upd (M g c) k x)
theorem g_put {idx ci k g c0 : Nat} {x : Int32} {ty : FieldType} {fs : List (Option (Nat × Nat))} (d : decode κ.2.1 pc = .ok (.putfield idx, 3)) (hf : gFp κ.1.cls idx ci k ty) (hh : gHas ε g c0 (3, ci, fs)) (hk : fs[k]? = some none) (hn : narrow ty (.int x) = .int x) (hfit : fits ty (.int x) = true) (kk : gGo l ε κ R F (pc + 3) L st (gSt M g c0 k x)) : gGo l ε κ R F pc L (.int x :: .ref (ε.2.2.1 g c0) :: st) M := by
  intro p e s m args below meth c H locs ls C hP hS h
  obtain ⟨C0, T, N, h1, h2, h3, h4, ⟨ty0, h5⟩, h6, h7, h8⟩ := hf
  obtain ⟨i, hi, hw⟩ := gW_at M hh
  have hlen : k < (gVals ε.2.2.1 (M g c0) 0 fs).length := by rw [gVals_len]; exact (List.getElem?_eq_some_iff.mp hk).1
  have hset := gVals_set ε.2.2.1 (M g c0) x fs 0 k hk
  rw [Nat.zero_add] at hset
  refine va_put (D := ε.1) (ref := (T k).1) C.1 C.2.1 C.2.2.2.2.2.1 h2 ty0 h5 h6 C.2.2.2.2.1 C.2.2.2.2.2.2.2.1 hP (gD_of C.2.2.2.2.2.2.2.2.2.1 M s.heap.size) hS i hw h1 k h3 (C.2.2.2.2.2.1 _ h4) (fun _ x => x) h7 h8 hn hfit hlen d (fun H1 locs1 hP1 _ hS1 => ?_)
  refine kk p e s m args below meth c H1 locs1 ls C ?_ hS1 h
  have e2 := gW_set C.2.2.2.2.2.2.2.2.2.1 M hi (upd (M g c0) k x)
  rw [gK_s ε M hh] at e2
  unfold gSt
  rw [← e2]
  rw [hset] at hP1
  exact hP1
/-- the same of a private field of a nest mate -/
def gFlN (own : String) (idx ci k : Nat) : Prop := ∃ (C : String) (T : u_T) (N j : Nat) (host : String), gCl[ci]? = some (C, T, N) ∧ (∀ w ∈ u_ws C T N, w ∈ gWs) ∧ k < N ∧ lw_tbl[j]? = some (Cond.fieldLinkNest own idx (T k).1 (T k).2.1 (T k).2.2.1 host)
def gFpN (own : String) (idx ci k : Nat) (ty : FieldType) : Prop := ∃ (C : String) (T : u_T) (N j : Nat) (host : String), gCl[ci]? = some (C, T, N) ∧ (∀ w ∈ u_ws C T N, w ∈ gWs) ∧ k < N ∧ lw_tbl[j]? = some (Cond.fieldLinkNest own idx (T k).1 (T k).2.1 (T k).2.2.1 host) ∧ (∃ t : Nat → FieldType, ∀ k, k < N → parseFieldDescriptor (T k).2.2.1 = some (t k)) ∧ (∀ a, a < N → ∀ b, b < N → a ≠ b → (T a).2.1 ≠ (T b).2.1) ∧ (T k).2.2.2 = false ∧ parseFieldDescriptor (T k).2.2.1 = some ty
theorem g_getIN {idx ci k g c0 : Nat} {fs : List (Option (Nat × Nat))} (d : decode κ.2.1 pc = .ok (.getfield idx, 3)) (hf : gFlN κ.1.cls idx ci k) (hh : gHas ε g c0 (3, ci, fs)) (hk : fs[k]? = some none) (kk : gGo l ε κ R F (pc + 3) L (.int (M g c0 k) :: st) M) : gGo l ε κ R F pc L (.ref (ε.2.2.1 g c0) :: st) M := by
  intro p e s m args below meth c H locs ls C hP hS h
  obtain ⟨C0, T, N, j, host, h1, h2, h3, h4⟩ := hf
  obtain ⟨i, hi, hw⟩ := gW_at M hh
  have hv := gVals_i ε.2.2.1 (M g c0) fs 0 k hk
  rw [Nat.zero_add] at hv
  exact va_getN (D := ε.1) (ref := (T k).1) C.1 C.2.1 C.2.2.2.2.2.1 h2 C.2.2.2.2.1 C.2.2.2.2.2.2.2.1 hP i hw h1 k h3 (va_Nw.use rfl (C.2.2.2.2.2.2.1 _ (List.mem_of_getElem? h4) rfl)) (fun _ x => x) hv d (kk p e s m args below meth c H locs ls C hP hS h)
theorem g_getRN {idx ci k g c0 g1 c1 : Nat} {fs : List (Option (Nat × Nat))} (d : decode κ.2.1 pc = .ok (.getfield idx, 3)) (hf : gFlN κ.1.cls idx ci k) (hh : gHas ε g c0 (3, ci, fs)) (hk : fs[k]? = some (some (g1, c1))) (kk : gGo l ε κ R F (pc + 3) L (.ref (ε.2.2.1 g1 c1) :: st) M) : gGo l ε κ R F pc L (.ref (ε.2.2.1 g c0) :: st) M := by
  intro p e s m args below meth c H locs ls C hP hS h
  obtain ⟨C0, T, N, j, host, h1, h2, h3, h4⟩ := hf
  obtain ⟨i, hi, hw⟩ := gW_at M hh
  have hv := gVals_r ε.2.2.1 (M g c0) fs 0 k (g1, c1) hk
  exact va_getN (D := ε.1) (ref := (T k).1) C.1 C.2.1 C.2.2.2.2.2.1 h2 C.2.2.2.2.1 C.2.2.2.2.2.2.2.1 hP i hw h1 k h3 (va_Nw.use rfl (C.2.2.2.2.2.2.1 _ (List.mem_of_getElem? h4) rfl)) (fun _ x => x) hv d (kk p e s m args below meth c H locs ls C hP hS h)
theorem g_putN {idx ci k g c0 : Nat} {x : Int32} {ty : FieldType} {fs : List (Option (Nat × Nat))} (d : decode κ.2.1 pc = .ok (.putfield idx, 3)) (hf : gFpN κ.1.cls idx ci k ty) (hh : gHas ε g c0 (3, ci, fs)) (hk : fs[k]? = some none) (hn : narrow ty (.int x) = .int x) (hfit : fits ty (.int x) = true) (kk : gGo l ε κ R F (pc + 3) L st (gSt M g c0 k x)) : gGo l ε κ R F pc L (.int x :: .ref (ε.2.2.1 g c0) :: st) M := by
  intro p e s m args below meth c H locs ls C hP hS h
  obtain ⟨C0, T, N, j, host, h1, h2, h3, h4, ⟨ty0, h5⟩, h6, h7, h8⟩ := hf
  obtain ⟨i, hi, hw⟩ := gW_at M hh
  have hlen : k < (gVals ε.2.2.1 (M g c0) 0 fs).length := by rw [gVals_len]; exact (List.getElem?_eq_some_iff.mp hk).1
  have hset := gVals_set ε.2.2.1 (M g c0) x fs 0 k hk
  rw [Nat.zero_add] at hset
  refine va_putN (D := ε.1) (ref := (T k).1) C.1 C.2.1 C.2.2.2.2.2.1 h2 ty0 h5 h6 C.2.2.2.2.1 C.2.2.2.2.2.2.2.1 hP (gD_of C.2.2.2.2.2.2.2.2.2.1 M s.heap.size) hS i hw h1 k h3 (va_Nw.use rfl (C.2.2.2.2.2.2.1 _ (List.mem_of_getElem? h4) rfl)) (fun _ x => x) h7 h8 hn hfit hlen d (fun H1 locs1 hP1 _ hS1 => ?_)
  refine kk p e s m args below meth c H1 locs1 ls C ?_ hS1 h
  have e2 := gW_set C.2.2.2.2.2.2.2.2.2.1 M hi (upd (M g c0) k x)
  rw [gK_s ε M hh] at e2
  unfold gSt
  rw [← e2]
  rw [hset] at hP1
  exact hP1
/-- reading and writing a place of a row of n -/
def gRd (n : Nat) (f : Nat → Int32) (i : Int32) : Option Int32 := if 0 ≤ i.toInt ∧ i.toInt < n then some (f i.toNatClampNeg) else none
def gWr (M : gMem) (g c n : Nat) (i x : Int32) : Option gMem := if 0 ≤ i.toInt ∧ i.toInt < n then some (gUp M g c (upd (M g c) i.toNatClampNeg x)) else none
theorem gRd_s {n : Nat} {f : Nat → Int32} {i r : Int32} (h : gRd n f i = some r) : vp_in i n ∧ r = f i.toNatClampNeg := by
  unfold gRd at h
  split at h
  · rename_i q
    exact ⟨vp_in_iff.mpr q, (Option.some.inj h).symm⟩
  · cases h
theorem gWr_s {M M1 : gMem} {g c n : Nat} {i x : Int32} (h : gWr M g c n i x = some M1) : vp_in i n ∧ M1 = gUp M g c (upd (M g c) i.toNatClampNeg x) := by
  unfold gWr at h
  split at h
  · rename_i q
    exact ⟨vp_in_iff.mpr q, (Option.some.inj h).symm⟩
  · cases h
theorem g_iaload {g c0 n : Nat} {i r : Int32} (d : decode κ.2.1 pc = .ok (.iaload, 1)) (hh : gHas ε g c0 (0, n, [])) (hr : gRd n (M g c0) i = some r) (kk : gGo l ε κ R F (pc + 1) L (.int r :: st) M) : gGo l ε κ R F pc L (.int i :: .ref (ε.2.2.1 g c0) :: st) M := by
  intro p e s m args below meth c H locs ls C hP hS h
  obtain ⟨hin, rfl⟩ := gRd_s hr
  obtain ⟨j, hj, hw⟩ := gW_at M hh
  exact va_iald (D := ε.1) C.1 C.2.1 C.2.2.2.2.2.2.2.1 hP j 0 hw rfl hin d (kk p e s m args below meth c H locs ls C hP hS h)
theorem g_baload {g c0 n : Nat} {i r : Int32} (d : decode κ.2.1 pc = .ok (.baload, 1)) (hh : gHas ε g c0 (1, n, [])) (hr : gRd n (M g c0) i = some r) (kk : gGo l ε κ R F (pc + 1) L (.int r :: st) M) : gGo l ε κ R F pc L (.int i :: .ref (ε.2.2.1 g c0) :: st) M := by
  intro p e s m args below meth c H locs ls C hP hS h
  obtain ⟨hin, rfl⟩ := gRd_s hr
  obtain ⟨j, hj, hw⟩ := gW_at M hh
  exact va_zald (D := ε.1) C.1 C.2.1 C.2.2.2.2.2.2.2.1 hP j 1 hw rfl hin d (kk p e s m args below meth c H locs ls C hP hS h)
theorem g_iastore {g c0 n : Nat} {i x : Int32} {M1 : gMem} (d : decode κ.2.1 pc = .ok (.iastore, 1)) (hh : gHas ε g c0 (0, n, [])) (hr : gWr M g c0 n i x = some M1) (kk : gGo l ε κ R F (pc + 1) L st M1) : gGo l ε κ R F pc L (.int x :: .int i :: .ref (ε.2.2.1 g c0) :: st) M := by
  intro p e s m args below meth c H locs ls C hP hS h
  obtain ⟨hin, rfl⟩ := gWr_s hr
  obtain ⟨j, hj, hw⟩ := gW_at M hh
  refine va_iast (D := ε.1) C.1 C.2.1 C.2.2.2.2.2.2.2.1 hP (gD_of C.2.2.2.2.2.2.2.2.2.1 M s.heap.size) hS j 0 hw rfl hin d (fun H1 locs1 hP1 _ hS1 => ?_)
  refine kk p e s m args below meth c H1 locs1 ls C ?_ hS1 h
  have e2 := gW_set C.2.2.2.2.2.2.2.2.2.1 M hj (upd (M g c0) i.toNatClampNeg x)
  rw [gK_s ε M hh] at e2
  rw [← e2]
  exact hP1
/-- a boolean's place: 0 or 1 alone -/
theorem g_bastore {g c0 n : Nat} {i x : Int32} {M1 : gMem} (d : decode κ.2.1 pc = .ok (.bastore, 1)) (hh : gHas ε g c0 (1, n, [])) (hx : vp_nar .boolean x = x) (hr : gWr M g c0 n i x = some M1) (kk : gGo l ε κ R F (pc + 1) L st M1) : gGo l ε κ R F pc L (.int x :: .int i :: .ref (ε.2.2.1 g c0) :: st) M := by
  intro p e s m args below meth c H locs ls C hP hS h
  obtain ⟨hin, rfl⟩ := gWr_s hr
  obtain ⟨j, hj, hw⟩ := gW_at M hh
  refine va_zast (D := ε.1) C.1 C.2.1 C.2.2.2.2.2.2.2.1 hP (gD_of C.2.2.2.2.2.2.2.2.2.1 M s.heap.size) hS j 1 hw rfl hin d (fun H1 locs1 hP1 _ hS1 => ?_)
  refine kk p e s m args below meth c H1 locs1 ls C ?_ hS1 h
  have e2 := gW_set C.2.2.2.2.2.2.2.2.2.1 M hj (upd (M g c0) i.toNatClampNeg x)
  rw [gK_s ε M hh] at e2
  rw [← e2]
  rw [hx] at hP1
  exact hP1
theorem g_alen {g c0 n : Nat} {fs : List (Option (Nat × Nat))} (d : decode κ.2.1 pc = .ok (.arraylength, 1)) (hh : gHas ε g c0 (0, n, fs)) (kk : gGo l ε κ R F (pc + 1) L (.int (Int32.ofNat n) :: st) M) : gGo l ε κ R F pc L (.ref (ε.2.2.1 g c0) :: st) M := by
  intro p e s m args below meth c H locs ls C hP hS h
  obtain ⟨j, hj, hw⟩ := gW_at M hh
  exact va_alen (D := ε.1) C.1 C.2.1 C.2.2.2.2.2.2.2.1 hP j 0 hw (ty := .int) rfl rfl d (kk p e s m args below meth c H locs ls C hP hS h)
theorem g_alenZ {g c0 n : Nat} {fs : List (Option (Nat × Nat))} (d : decode κ.2.1 pc = .ok (.arraylength, 1)) (hh : gHas ε g c0 (1, n, fs)) (kk : gGo l ε κ R F (pc + 1) L (.int (Int32.ofNat n) :: st) M) : gGo l ε κ R F pc L (.ref (ε.2.2.1 g c0) :: st) M := by
  intro p e s m args below meth c H locs ls C hP hS h
  obtain ⟨j, hj, hw⟩ := gW_at M hh
  exact va_alen (D := ε.1) C.1 C.2.1 C.2.2.2.2.2.2.2.1 hP j 1 hw (ty := .boolean) rfl rfl d (kk p e s m args below meth c H locs ls C hP hS h)
theorem g_alenR {g c0 n : Nat} {fs : List (Option (Nat × Nat))} (d : decode κ.2.1 pc = .ok (.arraylength, 1)) (hh : gHas ε g c0 (2, n, fs)) (kk : gGo l ε κ R F (pc + 1) L (.int (Int32.ofNat n) :: st) M) : gGo l ε κ R F pc L (.ref (ε.2.2.1 g c0) :: st) M := by
  intro p e s m args below meth c H locs ls C hP hS h
  obtain ⟨j, hj, hw⟩ := gW_at M hh
  exact va_alen (D := ε.1) C.1 C.2.1 C.2.2.2.2.2.2.2.1 hP j 2 hw (ty := .object "DropSignals$Evening") rfl rfl d (kk p e s m args below meth c H locs ls C hP hS h)
theorem g_aaload {g c0 n g1 c1 : Nat} {i : Int32} (d : decode κ.2.1 pc = .ok (.aaload, 1)) (hh : gHas ε g c0 (2, n, [some (g1, c1)])) (hin : vp_in i n) (kk : gGo l ε κ R F (pc + 1) L (.ref (ε.2.2.1 (g1 + i.toNatClampNeg) c1) :: st) M) : gGo l ε κ R F pc L (.int i :: .ref (ε.2.2.1 g c0) :: st) M := by
  intro p e s m args below meth c H locs ls C hP hS h
  obtain ⟨j, hj, hw⟩ := gW_at M hh
  have hlt : i.toNatClampNeg < n := Nat.not_le.mp fun q => hin (Or.inr q)
  have e1 : va_rf (if i.toNatClampNeg < n then (([some (g1, c1)] : List (Option (Nat × Nat))).getD 0 none).map (fun q => ε.2.2.1 (q.1 + i.toNatClampNeg) q.2) else none) = Value.ref (ε.2.2.1 (g1 + i.toNatClampNeg) c1) := by rw [if_pos hlt]; rfl
  have k2 := kk p e s m args below meth c H locs ls C hP hS h
  rw [← e1] at k2
  exact va_aldq (D := ε.1) C.1 C.2.1 C.2.2.2.2.2.2.2.1 hP j 2 hw rfl hin d k2
theorem g_min {x y : Int32} {index : Nat} (d : decode κ.2.1 pc = .ok (.invokestatic index, 3)) (w1 : Cond.methodLink κ.1.cls index Lib.Math.min.name ∈ gWs) (w2 : Cond.static Lib.Math.min.name ∈ gWs) (w3 : Cond.initialized "java/lang/Math" ∈ gWs) (w4 : Cond.code Lib.Math.min.name Lib.Math.min.code 2 (some .int) ∈ gWs) (hf : 1 ≤ R.frames) (hl : (st.map fun v => v.category).sum + 13 ≤ R.locals) (k : gGo l ε κ R F (pc + 3) L (.int (if y < x then y else x) :: st) M) : gGo l ε κ R F pc L (.int y :: .int x :: st) M := by
  intro p e s m args below meth c H locs ls C hP hS h
  have hw := C.2.2.2.2.2.1
  exact va_mmin C.1 C.2.1 (C.2.2.2.1.trans h.1.symm) C.2.2.2.2.1 (hw _ w1) (hw _ w2) (hw _ w3) (hw _ w4) hf hl C.2.2.2.2.2.2.2.2.2.2.2.1 C.2.2.2.2.2.2.2.2.2.2.2.2 d (k p e s m args below meth c H locs ls C hP hS h)
theorem g_max {x y : Int32} {index : Nat} (d : decode κ.2.1 pc = .ok (.invokestatic index, 3)) (w1 : Cond.methodLink κ.1.cls index Lib.Math.max.name ∈ gWs) (w2 : Cond.static Lib.Math.max.name ∈ gWs) (w3 : Cond.initialized "java/lang/Math" ∈ gWs) (w4 : Cond.code Lib.Math.max.name Lib.Math.max.code 2 (some .int) ∈ gWs) (hf : 1 ≤ R.frames) (hl : (st.map fun v => v.category).sum + 13 ≤ R.locals) (k : gGo l ε κ R F (pc + 3) L (.int (if x < y then y else x) :: st) M) : gGo l ε κ R F pc L (.int y :: .int x :: st) M := by
  intro p e s m args below meth c H locs ls C hP hS h
  have hw := C.2.2.2.2.2.1
  exact va_mmax C.1 C.2.1 (C.2.2.2.1.trans h.1.symm) C.2.2.2.2.1 (hw _ w1) (hw _ w2) (hw _ w3) (hw _ w4) hf hl C.2.2.2.2.2.2.2.2.2.2.2.1 C.2.2.2.2.2.2.2.2.2.2.2.2 d (k p e s m args below meth c H locs ls C hP hS h)
/-- System.arraycopy between two int rows of the world -/
def gCp (M : gMem) (g0 c0 n0 g1 c1 n1 : Nat) (sp dp n : Int32) : Option gMem := if (¬ sp < 0 ∧ ¬ dp < 0 ∧ ¬ n < 0) ∧ sp.toNatClampNeg + n.toNatClampNeg ≤ n0 ∧ dp.toNatClampNeg + n.toNatClampNeg ≤ n1 then some (gUp M g1 c1 (va_cpy (M g0 c0) (M g1 c1) sp.toNatClampNeg dp.toNatClampNeg n.toNatClampNeg)) else none
theorem g_copy {g0 c0 n0 g1 c1 n1 index : Nat} {sp dp n : Int32} {M1 : gMem} (d : decode κ.2.1 pc = .ok (.invokestatic index, 3)) (w1 : Cond.methodLink κ.1.cls index arraycopyName ∈ gWs) (w2 : Cond.native arraycopyName ∈ gWs) (w3 : Cond.static arraycopyName ∈ gWs) (w4 : Cond.initialized "java/lang/System" ∈ gWs) (hh0 : gHas ε g0 c0 (0, n0, [])) (hh1 : gHas ε g1 c1 (0, n1, [])) (hf : 1 ≤ R.frames) (hl : (st.map fun v => v.category).sum + (nativeFrameWords "java/lang/System" "arraycopy" 5 + 11) ≤ R.locals) (hr : gCp M g0 c0 n0 g1 c1 n1 sp dp n = some M1) (kk : gGo l ε κ R F (pc + 3) L st M1) : gGo l ε κ R F pc L (.int n :: .int dp :: .ref (ε.2.2.1 g1 c1) :: .int sp :: .ref (ε.2.2.1 g0 c0) :: st) M := by
  intro p e s m args below meth c H locs ls C hP hS h
  have hw := C.2.2.2.2.2.1
  unfold gCp at hr
  split at hr
  · rename_i q
    obtain ⟨⟨q1, q2, q3⟩, q4, q5⟩ := q
    cases Option.some.inj hr
    obtain ⟨j0, hj0, hw0⟩ := gW_at M hh0
    obtain ⟨j1, hj1, hw1⟩ := gW_at M hh1
    refine va_copyi (D := ε.1) (ty := .int) C.1 C.2.1 (C.2.2.2.1.trans h.1.symm) C.2.2.2.2.1 (hw _ w1) (hw _ w2) (hw _ w3) (hw _ w4) C.2.2.2.2.2.2.2.1 hP (gD_of C.2.2.2.2.2.2.2.2.2.1 M s.heap.size) hS j0 j1 0 0 hw0 hw1 rfl rfl rfl q1 q2 q3 q4 q5 (fun _ _ => rfl) hf hl d (fun H1 locs1 hP1 _ hS1 => ?_)
    refine kk p e s m args below meth c H1 locs1 ls C ?_ hS1 h
    have e2 := gW_set C.2.2.2.2.2.2.2.2.2.1 M hj1 (va_cpy (M g0 c0) (M g1 c1) sp.toNatClampNeg dp.toNatClampNeg n.toNatClampNeg)
    rw [gK_s ε M hh1] at e2
    rw [← e2]
    exact hP1
  · cases hr
end GOR

section GOC
variable {l : Launch} {ε : gEnv} {κ : gMD} {R : Room} {f' n' : Nat} {F : gFin} {pc : Nat} {L : List (Nat × Value)} {st : List Value} {M M1 : gMem} {rv : Option Value}
/-- behind a call -/
theorem g_run {p : Program} {e : Env} {s : State} {m : MethodId} {args : Array Value} {below : List Frame} {meth : Method} {c : Code} {H : Heap} {locs : List Loc} {Q : State → Prop} {ls : Array Slot} {st0 rest : List Value} {a : Array Value} {cs sl : Nat} (hr : va_Run p l e R s m args below meth c H locs cs sl 0 0 (F0 m pc ls st0) rest (gQ ε rv M1 H.size a) (gA ε H.size)) (hS : va_S (gA ε s.heap.size) s.heap H locs)
    (kk : ∀ (H1 : Heap) (locs1 : List Loc), va_P ε.1 gCl (gW ε M1) H1 → va_S (gA ε s.heap.size) s.heap H1 locs1 → W p l e R s m args below meth c H1 locs1 cs sl Q (F0 m (pc + 3) ls (rv.toList ++ rest))) : W p l e R s m args below meth c H locs cs sl Q (F0 m pc ls st0) := by
  intro T hT X
  obtain ⟨v, st₀, t, T', L, h0, X', hL, e1, e2, ⟨⟨hv, hp⟩, hz, hk⟩, st⟩ := hr T hT X
  cases hv
  rw [h0] at hz hk
  have hA : ∀ q, gA ε H.size q → gA ε s.heap.size q := fun q h => gA_mono hS.1 h
  obtain ⟨t2, a1, b1⟩ := kk T'.heap (locs ++ L) (by rw [e1]; exact hp)
    ⟨Nat.le_trans hS.1 (by rw [e1]; exact hz), fun q h1 h2 => by rw [e1, hk q (Nat.lt_of_lt_of_le h1 hS.1) (fun z => h2 (hA q z))]; exact hS.2.1 q h1 h2, fun q hq => by
      rcases List.mem_append.mp hq with h | h
      · exact hS.2.2 q h
      · exact hA _ (hL q h)⟩ T' rfl X'
  exact ⟨t2, st t2 a1, b1⟩
/-- what a callee's tables say: by its own words -/
def gCal (κ : gMD) (k : Nat) : Prop := Cond.code κ.1 κ.2.1 κ.2.2.1 κ.2.2.2 ∈ gWs ∧ Cond.initialized κ.1.cls ∈ gWs ∧ (κ.1.cls ≠ "java/lang/invoke/MethodHandle" ∧ κ.1.cls ≠ "java/lang/invoke/VarHandle" ∧ (parseMethodDescriptor κ.1.desc).map (fun d => d.parameters.length) = some k)
def gCaV (κ : gMD) (k : Nat) : Prop := gCal κ k ∧ Cond.instanceMethod κ.1 ∈ gWs ∧ Cond.selects κ.1.cls κ.1 κ.1 ∈ gWs
def gCaS (κ : gMD) (k : Nat) : Prop := gCal κ k ∧ Cond.static κ.1 ∈ gWs
theorem g_preOf {s : State} {H : Heap} {args : Array Value} {κ0 : gMD} {p : Program} {m : MethodId} {meth : Method} {c : Code} {M : gMem} (C : gCx l ε κ0 R F p s m args meth c) (hP : va_P ε.1 gCl (gW ε M) H) (av : List Value) : ∀ U : State, U.heap = H → s.WarmedH U.vm → gPc ε av M H.size av.toArray U :=
  fun U hU hW => ⟨rfl, by rw [hU], by rw [hU]; exact hP, va_K.moved hW.alike C.2.2.2.2.2.2.2.1, C.2.2.2.2.2.2.1.warm hW, C.2.2.2.2.2.2.2.2.2.1⟩
theorem g_callV {κ' : gMD} {As rest : List Value} {idx k g c0 ci : Nat} {fs : List (Option (Nat × Nat))} (ct : gCt l ε κ' f' n' (.ref (ε.2.2.1 g c0) :: As) M rv M1) (d : decode κ.2.1 pc = .ok (.invokevirtual idx, 3)) (ca : gCaV κ' k) (hl : Cond.methodLink κ.1.cls idx κ'.1 ∈ gWs) (hh : gHas ε g c0 (3, ci, fs)) (hci : (gCl[ci]?).map (fun q => q.1) = some κ'.1.cls) (hn : As.length = k) (hst : st = As.reverse ++ .ref (ε.2.2.1 g c0) :: rest) (hW : (rest.map fun v => v.category).sum ≤ 8) (hR : f' + 1 ≤ R.frames ∧ 8 + (κ'.2.2.1 + 11) + n' ≤ R.locals)
    (kk : gGo l ε κ R F (pc + 3) L (rv.toList ++ rest) M1) : gGo l ε κ R F pc L st M := by
  intro p e s m args below meth c H locs ls C hP hS h
  have hw := C.2.2.2.2.2.1
  obtain ⟨⟨c1, c2, c3⟩, c4, c5⟩ := ca
  obtain ⟨i, hi, hwi⟩ := gW_at M hh
  obtain ⟨q, hq, hq1⟩ : ∃ q, gCl[ci]? = some q ∧ q.1 = κ'.1.cls := by
    cases hc : gCl[ci]? with
    | none => rw [hc] at hci; cases hci
    | some q => rw [hc] at hci; exact ⟨q, rfl, Option.some.inj hci⟩
  have hrecv := va_recv C.2.2.2.2.2.2.2.1 hP (ci := ci) hq hwi
  rw [hq1] at hrecv
  exact g_run (va_runV (As := As) (rest := rest) ⟨C.1, C.2.1, C.2.2.2.1, C.2.2.2.2.1, hw⟩ (ct H.size) ⟨callB_of k hw (gGood c1) rfl rfl rfl (hw _ c2) (hw _ hl) c3 hR, hw _ c4, hw _ c5⟩ ⟨gPc_blind, hrecv, g_preOf C hP _⟩ rfl hn h.1 hst (lv_room hW) d ⟨C.2.2.2.2.2.2.2.2.2.2.2.1, C.2.2.2.2.2.2.2.2.2.2.2.2⟩) hS
    (fun H1 locs1 hP1 hS1 => kk p e s m args below meth c H1 locs1 ls C hP1 hS1 h)
theorem g_callS {κ' : gMD} {As rest : List Value} {idx k : Nat} (ct : gCt l ε κ' f' n' As M rv M1) (d : decode κ.2.1 pc = .ok (.invokestatic idx, 3)) (ca : gCaS κ' k) (hl : Cond.methodLink κ.1.cls idx κ'.1 ∈ gWs) (hn : As.length = k) (hst : st = As.reverse ++ rest) (hW : (rest.map fun v => v.category).sum ≤ 8) (hR : f' + 1 ≤ R.frames ∧ 8 + (κ'.2.2.1 + 11) + n' ≤ R.locals)
    (kk : gGo l ε κ R F (pc + 3) L (rv.toList ++ rest) M1) : gGo l ε κ R F pc L st M := by
  intro p e s m args below meth c H locs ls C hP hS h
  have hw := C.2.2.2.2.2.1
  obtain ⟨⟨c1, c2, c3⟩, c4⟩ := ca
  exact g_run (va_runS (As := As) (rest := rest) ⟨C.1, C.2.1, C.2.2.2.1, C.2.2.2.2.1, hw⟩ (ct H.size) ⟨callB_of k hw (gGood c1) rfl rfl rfl (hw _ c2) (hw _ hl) c3 hR, hw _ c4⟩ ⟨gPc_blind, g_preOf C hP _⟩ rfl hn h.1 hst (lv_room hW) d ⟨C.2.2.2.2.2.2.2.2.2.2.2.1, C.2.2.2.2.2.2.2.2.2.2.2.2⟩) hS
    (fun H1 locs1 hP1 hS1 => kk p e s m args below meth c H1 locs1 ls C hP1 hS1 h)
/-- a private static method of a nest mate -/
theorem g_callN {κ' : gMD} {As rest : List Value} {idx k j : Nat} {host : String} (ct : gCt l ε κ' f' n' As M rv M1) (d : decode κ.2.1 pc = .ok (.invokestatic idx, 3)) (ca : gCaS κ' k) (hl : lw_tbl[j]? = some (Cond.methodLinkNest κ.1.cls idx κ'.1 host)) (hn : As.length = k) (hst : st = As.reverse ++ rest) (hW : (rest.map fun v => v.category).sum ≤ 8) (hR : f' + 1 ≤ R.frames ∧ 8 + (κ'.2.2.1 + 11) + n' ≤ R.locals)
    (kk : gGo l ε κ R F (pc + 3) L (rv.toList ++ rest) M1) : gGo l ε κ R F pc L st M := by
  intro p e s m args below meth c H locs ls C hP hS h
  have hw := C.2.2.2.2.2.1
  obtain ⟨⟨c1, c2, c3⟩, c4⟩ := ca
  exact g_run (va_runSN (As := As) (rest := rest) (host := host) ⟨C.1, C.2.1, C.2.2.2.1, C.2.2.2.2.1, hw⟩ (ct H.size) ⟨va_cnB k hw (gGood c1) rfl rfl rfl (C.2.2.2.2.2.2.1 _ (List.mem_of_getElem? hl) rfl) (hw _ c2) c3 hR, hw _ c4, trivial⟩ ⟨gPc_blind, g_preOf C hP _⟩ rfl hn h.1 hst (lv_room hW) d ⟨C.2.2.2.2.2.2.2.2.2.2.2.1, C.2.2.2.2.2.2.2.2.2.2.2.2⟩) hS
    (fun H1 locs1 hP1 hS1 => kk p e s m args below meth c H1 locs1 ls C hP1 hS1 h)
theorem g_end {ε : gEnv} {M : gMem} {s t : State} {H : Heap} {locs : List Loc} {o : Outcome} {a : Array Value} {rv : Option Value} (ho : o = .returned rv) (hP : va_P ε.1 gCl (gW ε M) H) (hS : va_S (gA ε s.heap.size) s.heap H locs) (ht : t.heap = H) : gQ ε rv M s.heap.size a s o t := ⟨⟨ho, by rw [ht]; exact hP⟩, hS.F ht⟩
theorem g_iret {v : Int32} (d : decode κ.2.1 pc = .ok (.ireturn, 1)) (hret : κ.2.2.2 = some .int) : gGo l ε κ R (gFn ε (some (.int v)) M) pc L [.int v] M :=
  fun p e s m args below meth c H locs ls C hP hS h => W.iret C.1 C.2.1 (C.2.2.1.trans hret) (fun t ht hW => g_end rfl hP hS ht) hS.2.2 d C.2.2.2.2.2.2.2.2.1
theorem g_zret {v : Int32} (d : decode κ.2.1 pc = .ok (.ireturn, 1)) (hret : κ.2.2.2 = some .boolean) (hv : narrow .boolean (.int v) = .int v) : gGo l ε κ R (gFn ε (some (.int v)) M) pc L [.int v] M :=
  fun p e s m args below meth c H locs ls C hP hS h => W.zret C.1 C.2.1 (C.2.2.1.trans hret) hv (fun t ht hW => g_end rfl hP hS ht) hS.2.2 d C.2.2.2.2.2.2.2.2.1
theorem g_vret (d : decode κ.2.1 pc = .ok (.return_, 1)) (hret : κ.2.2.2 = none) : gGo l ε κ R (gFn ε none M) pc L [] M :=
  fun p e s m args below meth c H locs ls C hP hS h => W.vret C.1 C.2.1 (C.2.2.1.trans hret) (fun t ht hW => g_end rfl hP hS ht) hS.2.2 d C.2.2.2.2.2.2.2.2.1
theorem g_lret {v : Int64} (d : decode κ.2.1 pc = .ok (.lreturn, 1)) (hret : κ.2.2.2 = some .long) : gGo l ε κ R (gFn ε (some (.long v)) M) pc L [.long v] M :=
  fun p e s m args below meth c H locs ls C hP hS h => W.lret C.1 C.2.1 (C.2.2.1.trans hret) (fun t ht hW => g_end rfl hP hS ht) hS.2.2 d C.2.2.2.2.2.2.2.2.1
theorem g_callV_i {r : Int32} {κ' : gMD} {As rest : List Value} {idx k g c0 ci : Nat} {fs : List (Option (Nat × Nat))} (ct : gCt l ε κ' f' n' (.ref (ε.2.2.1 g c0) :: As) M (some (.int r)) M1) (d : decode κ.2.1 pc = .ok (.invokevirtual idx, 3)) (ca : gCaV κ' k) (hl : Cond.methodLink κ.1.cls idx κ'.1 ∈ gWs) (hh : gHas ε g c0 (3, ci, fs)) (hci : (gCl[ci]?).map (fun q => q.1) = some κ'.1.cls) (hn : As.length = k) (hst : st = As.reverse ++ .ref (ε.2.2.1 g c0) :: rest) (hW : (rest.map fun v => v.category).sum ≤ 8) (hR : f' + 1 ≤ R.frames ∧ 8 + (κ'.2.2.1 + 11) + n' ≤ R.locals) (kk : gGo l ε κ R F (pc + 3) L (.int r :: rest) M1) : gGo l ε κ R F pc L st M := g_callV ct d ca hl hh hci hn hst hW hR kk
theorem g_callV_l {r : Int64} {κ' : gMD} {As rest : List Value} {idx k g c0 ci : Nat} {fs : List (Option (Nat × Nat))} (ct : gCt l ε κ' f' n' (.ref (ε.2.2.1 g c0) :: As) M (some (.long r)) M1) (d : decode κ.2.1 pc = .ok (.invokevirtual idx, 3)) (ca : gCaV κ' k) (hl : Cond.methodLink κ.1.cls idx κ'.1 ∈ gWs) (hh : gHas ε g c0 (3, ci, fs)) (hci : (gCl[ci]?).map (fun q => q.1) = some κ'.1.cls) (hn : As.length = k) (hst : st = As.reverse ++ .ref (ε.2.2.1 g c0) :: rest) (hW : (rest.map fun v => v.category).sum ≤ 8) (hR : f' + 1 ≤ R.frames ∧ 8 + (κ'.2.2.1 + 11) + n' ≤ R.locals) (kk : gGo l ε κ R F (pc + 3) L (.long r :: rest) M1) : gGo l ε κ R F pc L st M := g_callV ct d ca hl hh hci hn hst hW hR kk
theorem g_callV_v {κ' : gMD} {As rest : List Value} {idx k g c0 ci : Nat} {fs : List (Option (Nat × Nat))} (ct : gCt l ε κ' f' n' (.ref (ε.2.2.1 g c0) :: As) M none M1) (d : decode κ.2.1 pc = .ok (.invokevirtual idx, 3)) (ca : gCaV κ' k) (hl : Cond.methodLink κ.1.cls idx κ'.1 ∈ gWs) (hh : gHas ε g c0 (3, ci, fs)) (hci : (gCl[ci]?).map (fun q => q.1) = some κ'.1.cls) (hn : As.length = k) (hst : st = As.reverse ++ .ref (ε.2.2.1 g c0) :: rest) (hW : (rest.map fun v => v.category).sum ≤ 8) (hR : f' + 1 ≤ R.frames ∧ 8 + (κ'.2.2.1 + 11) + n' ≤ R.locals) (kk : gGo l ε κ R F (pc + 3) L (rest) M1) : gGo l ε κ R F pc L st M := g_callV ct d ca hl hh hci hn hst hW hR kk
theorem g_callS_i {r : Int32} {κ' : gMD} {As rest : List Value} {idx k : Nat} (ct : gCt l ε κ' f' n' As M (some (.int r)) M1) (d : decode κ.2.1 pc = .ok (.invokestatic idx, 3)) (ca : gCaS κ' k) (hl : Cond.methodLink κ.1.cls idx κ'.1 ∈ gWs) (hn : As.length = k) (hst : st = As.reverse ++ rest) (hW : (rest.map fun v => v.category).sum ≤ 8) (hR : f' + 1 ≤ R.frames ∧ 8 + (κ'.2.2.1 + 11) + n' ≤ R.locals) (kk : gGo l ε κ R F (pc + 3) L (.int r :: rest) M1) : gGo l ε κ R F pc L st M := g_callS ct d ca hl hn hst hW hR kk
theorem g_callS_l {r : Int64} {κ' : gMD} {As rest : List Value} {idx k : Nat} (ct : gCt l ε κ' f' n' As M (some (.long r)) M1) (d : decode κ.2.1 pc = .ok (.invokestatic idx, 3)) (ca : gCaS κ' k) (hl : Cond.methodLink κ.1.cls idx κ'.1 ∈ gWs) (hn : As.length = k) (hst : st = As.reverse ++ rest) (hW : (rest.map fun v => v.category).sum ≤ 8) (hR : f' + 1 ≤ R.frames ∧ 8 + (κ'.2.2.1 + 11) + n' ≤ R.locals) (kk : gGo l ε κ R F (pc + 3) L (.long r :: rest) M1) : gGo l ε κ R F pc L st M := g_callS ct d ca hl hn hst hW hR kk
theorem g_callS_v {κ' : gMD} {As rest : List Value} {idx k : Nat} (ct : gCt l ε κ' f' n' As M none M1) (d : decode κ.2.1 pc = .ok (.invokestatic idx, 3)) (ca : gCaS κ' k) (hl : Cond.methodLink κ.1.cls idx κ'.1 ∈ gWs) (hn : As.length = k) (hst : st = As.reverse ++ rest) (hW : (rest.map fun v => v.category).sum ≤ 8) (hR : f' + 1 ≤ R.frames ∧ 8 + (κ'.2.2.1 + 11) + n' ≤ R.locals) (kk : gGo l ε κ R F (pc + 3) L (rest) M1) : gGo l ε κ R F pc L st M := g_callS ct d ca hl hn hst hW hR kk
theorem g_callN_i {r : Int32} {κ' : gMD} {As rest : List Value} {idx k j : Nat} {host : String} (ct : gCt l ε κ' f' n' As M (some (.int r)) M1) (d : decode κ.2.1 pc = .ok (.invokestatic idx, 3)) (ca : gCaS κ' k) (hl : lw_tbl[j]? = some (Cond.methodLinkNest κ.1.cls idx κ'.1 host)) (hn : As.length = k) (hst : st = As.reverse ++ rest) (hW : (rest.map fun v => v.category).sum ≤ 8) (hR : f' + 1 ≤ R.frames ∧ 8 + (κ'.2.2.1 + 11) + n' ≤ R.locals) (kk : gGo l ε κ R F (pc + 3) L (.int r :: rest) M1) : gGo l ε κ R F pc L st M := g_callN ct d ca hl hn hst hW hR kk
theorem g_callN_l {r : Int64} {κ' : gMD} {As rest : List Value} {idx k j : Nat} {host : String} (ct : gCt l ε κ' f' n' As M (some (.long r)) M1) (d : decode κ.2.1 pc = .ok (.invokestatic idx, 3)) (ca : gCaS κ' k) (hl : lw_tbl[j]? = some (Cond.methodLinkNest κ.1.cls idx κ'.1 host)) (hn : As.length = k) (hst : st = As.reverse ++ rest) (hW : (rest.map fun v => v.category).sum ≤ 8) (hR : f' + 1 ≤ R.frames ∧ 8 + (κ'.2.2.1 + 11) + n' ≤ R.locals) (kk : gGo l ε κ R F (pc + 3) L (.long r :: rest) M1) : gGo l ε κ R F pc L st M := g_callN ct d ca hl hn hst hW hR kk
theorem g_callN_v {κ' : gMD} {As rest : List Value} {idx k j : Nat} {host : String} (ct : gCt l ε κ' f' n' As M none M1) (d : decode κ.2.1 pc = .ok (.invokestatic idx, 3)) (ca : gCaS κ' k) (hl : lw_tbl[j]? = some (Cond.methodLinkNest κ.1.cls idx κ'.1 host)) (hn : As.length = k) (hst : st = As.reverse ++ rest) (hW : (rest.map fun v => v.category).sum ≤ 8) (hR : f' + 1 ≤ R.frames ∧ 8 + (κ'.2.2.1 + 11) + n' ≤ R.locals) (kk : gGo l ε κ R F (pc + 3) L (rest) M1) : gGo l ε κ R F pc L st M := g_callN ct d ca hl hn hst hW hR kk
end GOC

-- ===== loops: a step gives the next state or the end; the loop's own answer, if it ends =====
def gIt {σ ρ : Type} (step : σ → Option (σ ⊕ ρ)) : Nat → σ → Option ρ
  | 0, _ => none
  | n + 1, s => match step s with
    | none => none
    | some (.inl s') => gIt step n s'
    | some (.inr r) => some r
theorem gIt_mono {σ ρ : Type} (step : σ → Option (σ ⊕ ρ)) : ∀ (n : Nat) (s : σ) (r : ρ), gIt step n s = some r → gIt step (n + 1) s = some r
  | 0, _, _, h => by cases h
  | n + 1, s, r, h => by
    unfold gIt at h ⊢
    cases hs : step s with
    | none => rw [hs] at h; cases h
    | some x =>
      rw [hs] at h
      cases x with
      | inl s' => exact gIt_mono step n s' r h
      | inr r' => exact h
theorem gIt_le {σ ρ : Type} (step : σ → Option (σ ⊕ ρ)) {n m : Nat} (hnm : n ≤ m) {s : σ} {r : ρ} (h : gIt step n s = some r) : gIt step m s = some r := by
  induction hnm with
  | refl => exact h
  | step _ ih => exact gIt_mono step _ s r ih
theorem gIt_one {σ ρ : Type} (step : σ → Option (σ ⊕ ρ)) {n m : Nat} {s : σ} {r r' : ρ} (h : gIt step n s = some r) (h' : gIt step m s = some r') : r = r' := by
  rcases Nat.le_total n m with q | q
  · exact Option.some.inj ((gIt_le step q h).symm.trans h')
  · exact Option.some.inj (h.symm.trans (gIt_le step q h'))
noncomputable def gLp {σ ρ : Type} (step : σ → Option (σ ⊕ ρ)) (s : σ) : Option ρ :=
  @dite _ (∃ (n : Nat) (r : ρ), gIt step n s = some r) (Classical.propDecidable _) (fun h => gIt step (Classical.choose h) s) (fun _ => none)
theorem gLp_iff {σ ρ : Type} (step : σ → Option (σ ⊕ ρ)) (s : σ) (r : ρ) : gLp step s = some r ↔ ∃ n, gIt step n s = some r := by
  unfold gLp
  constructor
  · intro h
    split at h
    · exact ⟨_, h⟩
    · cases h
  · rintro ⟨n, hn⟩
    have hx : ∃ (n : Nat) (r : ρ), gIt step n s = some r := ⟨n, r, hn⟩
    rw [dif_pos hx]
    obtain ⟨r', hr'⟩ := Classical.choose_spec hx
    rw [hr', gIt_one step hr' hn]
theorem gLp_eq {σ ρ : Type} (step : σ → Option (σ ⊕ ρ)) (s : σ) : gLp step s = match step s with
    | none => none
    | some (.inl s') => gLp step s'
    | some (.inr r) => some r := by
  apply Option.ext
  intro r
  rw [gLp_iff]
  constructor
  · rintro ⟨n, hn⟩
    cases n with
    | zero => cases hn
    | succ n =>
      unfold gIt at hn
      cases hs : step s with
      | none => rw [hs] at hn; cases hn
      | some x =>
        rw [hs] at hn
        cases x with
        | inl s' => exact (gLp_iff step s' r).mpr ⟨n, hn⟩
        | inr r' => exact hn
  · intro h
    cases hs : step s with
    | none => rw [hs] at h; cases h
    | some x =>
      rw [hs] at h
      cases x with
      | inl s' =>
        obtain ⟨n, hn⟩ := (gLp_iff step s' r).mp h
        refine ⟨n + 1, ?_⟩
        unfold gIt
        rw [hs]
        exact hn
      | inr r' =>
        refine ⟨1, ?_⟩
        unfold gIt
        rw [hs]
        exact h
theorem g_loop {σ ρ : Type} (step : σ → Option (σ ⊕ ρ)) (P : ρ → σ → Prop) (hstep : ∀ (s : σ) (res : σ ⊕ ρ), step s = some res → ∀ r : ρ, (∀ s', res = .inl s' → P r s') → (∀ r', res = .inr r' → r' = r) → P r s) : ∀ (s : σ) (r : ρ), gLp step s = some r → P r s := by
  intro s r h
  obtain ⟨n, hn⟩ := (gLp_iff step s r).mp h
  clear h
  induction n generalizing s with
  | zero => cases hn
  | succ n ih =>
    unfold gIt at hn
    cases hs : step s with
    | none => rw [hs] at hn; cases hn
    | some x =>
      rw [hs] at hn
      cases x with
      | inl s' => exact hstep s _ hs r (fun s2 e => by cases e; exact ih s' hn) (fun r' e => by cases e)
      | inr r' => exact hstep s _ hs r (fun s2 e => by cases e) (fun r2 e => by cases e; exact Option.some.inj hn)
theorem gOb {α β : Type} {o : Option α} {f : α → Option β} {r : β} (h : o.bind f = some r) : ∃ x, o = some x ∧ f x = some r := by
  cases o with
  | none => cases h
  | some x => exact ⟨x, rfl, h⟩
theorem gOm {α β : Type} {o : Option α} {f : α → β} {r : β} (h : o.map f = some r) : ∃ x, o = some x ∧ f x = r := by
  cases o with
  | none => cases h
  | some x => exact ⟨x, rfl, Option.some.inj h⟩
/-- 0 or 1 alone -/
def gBl (v : Int32) : Option Int32 := if v = 0 ∨ v = 1 then some v else none
theorem gBl_s {v r : Int32} (h : gBl v = some r) : r = v ∧ (v = 0 ∨ v = 1) := by
  unfold gBl at h
  split at h
  · rename_i q
    exact ⟨(Option.some.inj h).symm, q⟩
  · cases h
theorem gZ0 : narrow .boolean (.int 0) = .int 0 := rfl
theorem gZ1 : narrow .boolean (.int 1) = .int 1 := rfl
theorem gB_n {v : Int32} (h : v = 0 ∨ v = 1) : narrow .boolean (.int v) = .int v := by rcases h with rfl | rfl <;> rfl
theorem gB_f {v : Int32} (h : v = 0 ∨ v = 1) : fits .boolean (.int v) = true := by rcases h with rfl | rfl <;> rfl
theorem gB_p {v : Int32} (h : v = 0 ∨ v = 1) : vp_nar .boolean v = v := by rcases h with rfl | rfl <;> rfl
/-- a place in range -/
def gIn (n : Nat) (i : Int32) : Option Nat := if 0 ≤ i.toInt ∧ i.toInt < n then some i.toNatClampNeg else none
theorem gIn_s {n k : Nat} {i : Int32} (h : gIn n i = some k) : vp_in i n ∧ k = i.toNatClampNeg ∧ k < n := by
  unfold gIn at h
  split at h
  · rename_i q
    have e := Option.some.inj h
    refine ⟨vp_in_iff.mpr q, e.symm, ?_⟩
    rw [← e]
    show i.toInt.toNat < n
    omega
  · cases h
def gNz (y : Int32) : Option Int32 := if y = 0 then none else some y
theorem gNz_s {y r : Int32} (h : gNz y = some r) : r = y ∧ ¬ y = 0 := by
  unfold gNz at h
  split at h
  · cases h
  · rename_i q
    exact ⟨(Option.some.inj h).symm, q⟩
def gRem (x y : Int32) : Int32 := x - x / y * y
def gRemL (x y : Int64) : Int64 := x - x / y * y
def gUsh (x : Int64) (y : Int32) : Int64 := (x.toUInt64 >>> (y.toInt64.toUInt64 &&& Int64.toUInt64 63)).toInt64
def gShl (x : Int64) (y : Int32) : Int64 := x <<< (y.toInt64 &&& 63)
def gIsh (x y : Int32) : Int32 := x <<< (y &&& 31)
def gSO (M : gMem) (g c k : Nat) (x : Int32) : Option gMem := some (gSt M g c k x)
def gNzL (y : Int64) : Option Int64 := if y = 0 then none else some y
theorem gNzL_s {y r : Int64} (h : gNzL y = some r) : r = y ∧ ¬ y = 0 := by
  unfold gNzL at h
  split at h
  · cases h
  · rename_i q
    exact ⟨(Option.some.inj h).symm, q⟩
-- ===== what of the layout is there =====
def gCd (ε : gEnv) (e : Nat) : Prop := e < 18 ∧ (e, 1) ∈ ε.2.2.2 ∧ (e, 5) ∈ ε.2.2.2 ∧ (e, 6) ∈ ε.2.2.2 ∧ (e, 7) ∈ ε.2.2.2
def gDr (ε : gEnv) (e : Nat) : Prop := e < 18 ∧ (e, 2) ∈ ε.2.2.2 ∧ (e, 8) ∈ ε.2.2.2 ∧ (e, 9) ∈ ε.2.2.2 ∧ (e, 10) ∈ ε.2.2.2 ∧ (e, 11) ∈ ε.2.2.2
def gEv (ε : gEnv) (e : Nat) : Prop := e < 18 ∧ ∀ c, c < 12 → (e, c) ∈ ε.2.2.2
theorem gS_ev {e : Nat} (h : e < 18) (c : Nat) : gS e c = gEvS e c := by unfold gS; rw [if_pos h]
theorem gEv_cd {ε : gEnv} {e : Nat} (h : gEv ε e) : gCd ε e := ⟨h.1, h.2 1 (by decide), h.2 5 (by decide), h.2 6 (by decide), h.2 7 (by decide)⟩
theorem gEv_dr {ε : gEnv} {e : Nat} (h : gEv ε e) : gDr ε e := ⟨h.1, h.2 2 (by decide), h.2 8 (by decide), h.2 9 (by decide), h.2 10 (by decide), h.2 11 (by decide)⟩
theorem gCd_h1 {ε : gEnv} {e : Nat} (h : gCd ε e) : gHas ε e 1 (3, 0, [some (e, 5), some (e, 6), some (e, 7), none]) := ⟨h.2.1, gS_ev h.1 1⟩
theorem gCd_h5 {ε : gEnv} {e : Nat} (h : gCd ε e) : gHas ε e 5 (0, 32, []) := ⟨h.2.2.1, gS_ev h.1 5⟩
theorem gCd_h6 {ε : gEnv} {e : Nat} (h : gCd ε e) : gHas ε e 6 (0, 32, []) := ⟨h.2.2.2.1, gS_ev h.1 6⟩
theorem gCd_h7 {ε : gEnv} {e : Nat} (h : gCd ε e) : gHas ε e 7 (0, 32, []) := ⟨h.2.2.2.2, gS_ev h.1 7⟩
theorem gDr_h2 {ε : gEnv} {e : Nat} (h : gDr ε e) : gHas ε e 2 (3, 1, [some (e, 8), some (e, 9), some (e, 10), some (e, 11)]) := ⟨h.2.1, gS_ev h.1 2⟩
theorem gDr_h8 {ε : gEnv} {e : Nat} (h : gDr ε e) : gHas ε e 8 (0, 16, []) := ⟨h.2.2.1, gS_ev h.1 8⟩
theorem gDr_h9 {ε : gEnv} {e : Nat} (h : gDr ε e) : gHas ε e 9 (0, 16, []) := ⟨h.2.2.2.1, gS_ev h.1 9⟩
theorem gDr_h10 {ε : gEnv} {e : Nat} (h : gDr ε e) : gHas ε e 10 (0, 16, []) := ⟨h.2.2.2.2.1, gS_ev h.1 10⟩
theorem gDr_h11 {ε : gEnv} {e : Nat} (h : gDr ε e) : gHas ε e 11 (0, 16, []) := ⟨h.2.2.2.2.2, gS_ev h.1 11⟩
theorem gEv_h0 {ε : gEnv} {e : Nat} (h : gEv ε e) : gHas ε e 0 (3, 2, [some (e, 1), some (e, 2), some (e, 3), some (e, 4), none, none, none, none, none, none, none, none, none, none]) := ⟨h.2 0 (by decide), gS_ev h.1 0⟩
theorem gEv_h1 {ε : gEnv} {e : Nat} (h : gEv ε e) : gHas ε e 1 (3, 0, [some (e, 5), some (e, 6), some (e, 7), none]) := gCd_h1 (gEv_cd h)
theorem gEv_h2 {ε : gEnv} {e : Nat} (h : gEv ε e) : gHas ε e 2 (3, 1, [some (e, 8), some (e, 9), some (e, 10), some (e, 11)]) := gDr_h2 (gEv_dr h)
theorem gEv_h3 {ε : gEnv} {e : Nat} (h : gEv ε e) : gHas ε e 3 (0, 2, []) := ⟨h.2 3 (by decide), gS_ev h.1 3⟩
theorem gEv_h4 {ε : gEnv} {e : Nat} (h : gEv ε e) : gHas ε e 4 (0, 2, []) := ⟨h.2 4 (by decide), gS_ev h.1 4⟩
/-- the whole system's cells, and the reference's -/
def gXw (ε : gEnv) : Prop := (∀ e, e < 18 → gEv ε e) ∧ ∀ c, c < 11 → (18, c) ∈ ε.2.2.2

theorem gXw_h0 {ε : gEnv} (h : gXw ε) : gHas ε 18 0 (3, 7, [some (0, 0), some (1, 0), some (18, 1), some (18, 3), some (18, 6), some (18, 8)]) := ⟨h.2 0 (by decide), rfl⟩
theorem gXw_h1 {ε : gEnv} (h : gXw ε) : gHas ε 18 1 (3, 3, [some (18, 2), none, none]) := ⟨h.2 1 (by decide), rfl⟩
theorem gXw_h2 {ε : gEnv} (h : gXw ε) : gHas ε 18 2 (2, 14, [some (2, 0)]) := ⟨h.2 2 (by decide), rfl⟩
theorem gXw_h3 {ε : gEnv} (h : gXw ε) : gHas ε 18 3 (3, 5, [some (18, 4), some (18, 5)]) := ⟨h.2 3 (by decide), rfl⟩
theorem gXw_h4 {ε : gEnv} (h : gXw ε) : gHas ε 18 4 (2, 2, [some (16, 0)]) := ⟨h.2 4 (by decide), rfl⟩
theorem gXw_h5 {ε : gEnv} (h : gXw ε) : gHas ε 18 5 (1, 2, []) := ⟨h.2 5 (by decide), rfl⟩
theorem gXw_h6 {ε : gEnv} (h : gXw ε) : gHas ε 18 6 (3, 6, [some (18, 7), none]) := ⟨h.2 6 (by decide), rfl⟩
theorem gXw_h7 {ε : gEnv} (h : gXw ε) : gHas ε 18 7 (0, 120, []) := ⟨h.2 7 (by decide), rfl⟩
theorem gXw_h8 {ε : gEnv} (h : gXw ε) : gHas ε 18 8 (3, 4, [some (18, 9), some (18, 10), none, none, none, none, none, none]) := ⟨h.2 8 (by decide), rfl⟩
theorem gXw_h9 {ε : gEnv} (h : gXw ε) : gHas ε 18 9 (0, 12, []) := ⟨h.2 9 (by decide), rfl⟩
theorem gXw_h10 {ε : gEnv} (h : gXw ε) : gHas ε 18 10 (0, 12, []) := ⟨h.2 10 (by decide), rfl⟩
section GOO
variable {l : Launch} {ε : gEnv} {κ : gMD} {R : Room} {F : gFin} {pc : Nat} {L : List (Nat × Value)} {st : List Value} {M M1 : gMem}
theorem g_rem {x y : Int32} (d : decode κ.2.1 pc = .ok (.irem, 1)) (hne : ¬ y = 0) (k : gGo l ε κ R F (pc + 1) L (.int (gRem x y) :: st) M) : gGo l ε κ R F pc L (.int y :: .int x :: st) M := g_irem d hne k
theorem g_remL {x y : Int64} (d : decode κ.2.1 pc = .ok (.lrem, 1)) (hne : ¬ y = 0) (k : gGo l ε κ R F (pc + 1) L (.long (gRemL x y) :: st) M) : gGo l ε κ R F pc L (.long y :: .long x :: st) M := g_lrem d hne k
theorem g_ush {x : Int64} {y : Int32} (d : decode κ.2.1 pc = .ok (.lushr, 1)) (k : gGo l ε κ R F (pc + 1) L (.long (gUsh x y) :: st) M) : gGo l ε κ R F pc L (.int y :: .long x :: st) M := g_lushr d k
theorem g_shl {x : Int64} {y : Int32} (d : decode κ.2.1 pc = .ok (.lshl, 1)) (k : gGo l ε κ R F (pc + 1) L (.long (gShl x y) :: st) M) : gGo l ε κ R F pc L (.int y :: .long x :: st) M := g_lshl d k
theorem g_ish {x y : Int32} (d : decode κ.2.1 pc = .ok (.ishl, 1)) (k : gGo l ε κ R F (pc + 1) L (.int (gIsh x y) :: st) M) : gGo l ε κ R F pc L (.int y :: .int x :: st) M := g_ishl d k
theorem g_putO {idx ci k g c0 : Nat} {x : Int32} {fs : List (Option (Nat × Nat))} (d : decode κ.2.1 pc = .ok (.putfield idx, 3)) (hf : gFp κ.1.cls idx ci k .int) (hh : gHas ε g c0 (3, ci, fs)) (hk : fs[k]? = some none) (hr : gSO M g c0 k x = some M1) (kk : gGo l ε κ R F (pc + 3) L st M1) : gGo l ε κ R F pc L (.int x :: .ref (ε.2.2.1 g c0) :: st) M := by
  cases hr
  exact g_put d hf hh hk rfl rfl kk
theorem g_putON {idx ci k g c0 : Nat} {x : Int32} {fs : List (Option (Nat × Nat))} (d : decode κ.2.1 pc = .ok (.putfield idx, 3)) (hf : gFpN κ.1.cls idx ci k .int) (hh : gHas ε g c0 (3, ci, fs)) (hk : fs[k]? = some none) (hr : gSO M g c0 k x = some M1) (kk : gGo l ε κ R F (pc + 3) L st M1) : gGo l ε κ R F pc L (.int x :: .ref (ε.2.2.1 g c0) :: st) M := by
  cases hr
  exact g_putN d hf hh hk rfl rfl kk
theorem g_putZ {idx ci k g c0 : Nat} {x x' : Int32} {fs : List (Option (Nat × Nat))} (d : decode κ.2.1 pc = .ok (.putfield idx, 3)) (hf : gFp κ.1.cls idx ci k .boolean) (hh : gHas ε g c0 (3, ci, fs)) (hk : fs[k]? = some none) (hb : gBl x = some x') (hr : gSO M g c0 k x = some M1) (kk : gGo l ε κ R F (pc + 3) L st M1) : gGo l ε κ R F pc L (.int x :: .ref (ε.2.2.1 g c0) :: st) M := by
  cases hr
  exact g_put d hf hh hk (gB_n (gBl_s hb).2) (gB_f (gBl_s hb).2) kk
theorem g_aaloadO {g c0 n g1 c1 k : Nat} {i : Int32} (d : decode κ.2.1 pc = .ok (.aaload, 1)) (hh : gHas ε g c0 (2, n, [some (g1, c1)])) (hr : gIn n i = some k) (kk : gGo l ε κ R F (pc + 1) L (.ref (ε.2.2.1 (g1 + k) c1) :: st) M) : gGo l ε κ R F pc L (.int i :: .ref (ε.2.2.1 g c0) :: st) M := by
  obtain ⟨h1, rfl, -⟩ := gIn_s hr
  exact g_aaload d hh h1 kk
theorem g_bastoreO {g c0 n : Nat} {i x x' : Int32} (d : decode κ.2.1 pc = .ok (.bastore, 1)) (hh : gHas ε g c0 (1, n, [])) (hb : gBl x = some x') (hr : gWr M g c0 n i x = some M1) (kk : gGo l ε κ R F (pc + 1) L st M1) : gGo l ε κ R F pc L (.int x :: .int i :: .ref (ε.2.2.1 g c0) :: st) M := g_bastore d hh (gB_p (gBl_s hb).2) hr kk
theorem g_zretO {v v' : Int32} (d : decode κ.2.1 pc = .ok (.ireturn, 1)) (hret : κ.2.2.2 = some .boolean) (hb : gBl v = some v') : gGo l ε κ R (gFn ε (some (.int v)) M) pc L [.int v] M := g_zret d hret (gB_n (gBl_s hb).2)
end GOO

