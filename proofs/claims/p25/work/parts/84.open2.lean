-- ===== PURE: the class's search, its loop =====
theorem mnF_ex2 {f : Nat → Nat} {ok : Nat → Bool} : ∀ n, (∀ k, k < n → ok k = true → f k ≤ 99) → (∃ k, k < n ∧ ok k = true) → ∃ k, k < n ∧ ok k = true ∧ mnF f ok n = f k := by
  intro n hf hex
  have h1 := mnF_ex (f := fun k => if f k ≤ 99 then f k else 0) (ok := ok) (fun k _ => by split <;> omega) n hex
  have h2 : ∀ m, m ≤ n → mnF (fun k => if f k ≤ 99 then f k else 0) ok m = mnF f ok m := by
    intro m
    induction m with
    | zero => intro _; rfl
    | succ m ih =>
      intro hm
      unfold mnF
      rw [ih (by omega)]
      by_cases z : ok m = true
      · rw [if_pos z, if_pos z, if_pos (hf m (by omega) z)]
      · rw [if_neg z, if_neg z]
  obtain ⟨k, k1, k2, k3⟩ := h1
  refine ⟨k, k1, k2, ?_⟩
  rw [← h2 n (Nat.le_refl n), k3, if_pos (hf k k1 k2)]
def fitk (H : Nat → Nat) (a : Nat → Nat → Nat) (k : Nat) : Prop := H (3 * a 0 6 + k) ≠ 4294967295 ∧ aRs a (H (3 * a 0 6 + k)) = 0
def Tk (H : Nat → Nat) (a : Nat → Nat → Nat) (sd n k : Nat) : Int := (TS sd n (aLay a (H (3 * a 0 6 + k))) : Int) - a 3 sd
section OL
variable {M M' : gMem} {H : Nat → Nat} {a : Nat → Nat → Nat} {dp tot sd cu n k f : Nat} {lo hi L G best : Int}
theorem fit_all (hV : aV a) (hp : a 0 5 = 2) (hH : HR H a) {c : Nat} (hc : c < 32) (ho : aOk a c = true) : ∃ k, k < 3 ∧ H (3 * a 0 6 + k) = c ∧ fitk H a k := by
  have hr := ok_rs.mp ho
  obtain ⟨k, k1, k2⟩ := hH.2.1 c _ hc (hV.2.1.2.1 (Or.inr hp)) (aRs_0 hr)
  exact ⟨k, k1, k2, by omega, by rw [k2]; exact hr⟩
theorem fit_ok (hV : aV a) (hp : a 0 5 = 2) (hH : HR H a) (hk : k < 3) (hf : fitk H a k) : H (3 * a 0 6 + k) < 32 ∧ aOk a (H (3 * a 0 6 + k)) = true :=
  ⟨((hH.1 _ k (hV.2.1.2.1 (Or.inr hp)) hk).resolve_left hf.1).1, ok_rs.mpr hf.2⟩
theorem V_own (hV : aV a) (hp : a 0 5 = 2) (hH : HR H a) (ho : a 0 6 % 2 = sd) : (∀ k, k < 3 → fitk H a k → Tk H a sd n k ≤ (TS sd (n + 1) a : Int) - a 3 sd) ∧ ∃ k, k < 3 ∧ fitk H a k ∧ (TS sd (n + 1) a : Int) - a 3 sd = Tk H a sd n k := by
  have e : TS sd (n + 1) a = mxF (fun c => TS sd n (aLay a c)) (aOk a) 32 := by
    show (if a 0 6 % 2 = sd then _ else _) = _
    rw [if_pos ho]
  rw [e]
  refine ⟨fun k hk hf => ?_, ?_⟩
  · have := fit_ok hV hp hH hk hf
    have := mxF_ge (f := fun c => TS sd n (aLay a c)) this.1 this.2
    unfold Tk
    omega
  · obtain ⟨c, c1, c2, c3⟩ := mxF_ex (f := fun c => TS sd n (aLay a c)) 32 (ok_ex hV hp)
    obtain ⟨k, k1, k2, k3⟩ := fit_all hV hp hH c1 c2
    refine ⟨k, k1, k3, ?_⟩
    unfold Tk
    rw [c3, k2]
theorem V_min (hV : aV a) (hp : a 0 5 = 2) (hH : HR H a) (hs : sd < 2) (hn : a 1 3 + (n + 1) = 32) (ho : ¬ a 0 6 % 2 = sd) : (∀ k, k < 3 → fitk H a k → (TS sd (n + 1) a : Int) - a 3 sd ≤ Tk H a sd n k) ∧ ∃ k, k < 3 ∧ fitk H a k ∧ (TS sd (n + 1) a : Int) - a 3 sd = Tk H a sd n k := by
  have e : TS sd (n + 1) a = mnF (fun c => TS sd n (aLay a c)) (aOk a) 32 := by
    show (if a 0 6 % 2 = sd then _ else _) = _
    rw [if_neg ho]
  rw [e]
  refine ⟨fun k hk hf => ?_, ?_⟩
  · have := fit_ok hV hp hH hk hf
    have := mnF_le (f := fun c => TS sd n (aLay a c)) this.1 this.2
    unfold Tk
    omega
  · obtain ⟨c, c1, c2, c3⟩ := mnF_ex2 (f := fun c => TS sd n (aLay a c)) (ok := aOk a) 32 (fun c hc ho => by
      have hr := ok_rs.mp ho
      have h1 := lay_ph hV hp hc
      have h3 := lay_3 hV hp hc hs
      have := TS_b hs n (aLay a c) (aV_lay hV hp hc hr) (by omega)
      have h11 := hV.2.1.2.2.2.2.2.2.2.2.2.2
      have h10 := hV.2.1.2.2.2.2.2.2.2.2.2.1
      have h0 : a 3 sd ≤ 8 := by
        rcases (show sd = 0 ∨ sd = 1 by omega) with rfl | rfl <;> omega
      split at h3 <;> omega) (ok_ex hV hp)
    obtain ⟨k, k1, k2, k3⟩ := fit_all hV hp hH c1 c2
    refine ⟨k, k1, k3, ?_⟩
    unfold Tk
    rw [c3, k2]
theorem x_186 {RW : gMem → Int32 → Int32 → Int32 → Int32 → Int32 → Option (Int32 × gMem)} {x1 x2 x5 x6 x7 : Int32} (h7 : M 18 8 7 = nI cu) (hcu : cu ≤ 1) (hL : -1000 ≤ L ∧ L ≤ 1000) (hG : -1000 ≤ G ∧ G ≤ 1000) : f_Open_tricksFrom_b186 RW M x1 x2 x5 x6 x7 (zI L) (zI G) (zI best) (nI k) = if cu = 1 ∧ ¬ L < G then some (.inr (zI best, M)) else some (.inl (zI L, zI G, zI best, nI (k + 1), M)) := by
  unfold f_Open_tricksFrom_b186 f_Open_tricksFrom_b203
  rw [h7, nI_1]
  rcases (show cu = 0 ∨ cu = 1 by omega) with z | z
  · rw [z, if_pos (show nI 0 = 0 from rfl), if_neg (fun q => absurd q.1 (by omega))]
  · rw [z, if_neg (show ¬ nI 1 = 0 by decide)]
    by_cases w : L < G
    · rw [if_pos ((zI_lt hL hG).mpr w), if_neg (fun q => q.2 w)]
    · rw [if_neg (fun q => w ((zI_lt hL hG).mp q)), if_pos ⟨rfl, w⟩]
/-- one slot of the loop -/
theorem x_slot (ih : TFS n f) {own : Nat} (hV : aV a) (hp : a 0 5 = 2) (hP : PO a dp tot (n + 1)) (hsd : sd < 2) (hcu : cu ≤ 1) (hC : CHm M H a dp tot sd cu) (hH : HR H a) (hk : k < 3) (how : own = if a 0 6 % 2 = sd then 1 else 0) (l1 : -50 + ((n + 1 : Nat) : Int) ≤ L) (l2 : L ≤ 50) (h1 : -50 + ((n + 1 : Nat) : Int) ≤ G) (h2 : G ≤ 50) (hb : -1 ≤ best ∧ best ≤ 50) (hLG : cu = 1 → L < G) :
    (¬ fitk H a k → f_Open_tricksFrom_s78 (gTF (f + 1)).2 M (nI dp) (nI (aLead a)) (nI (a 0 6)) (nI (aFw a)) (nI own) (zI L) (zI G) (zI best) (nI k) = some (.inl (zI L, zI G, zI best, nI (k + 1), M))) ∧
    (fitk H a k → ∃ r M', r ≤ (n + 4) / 4 ∧ AB cu r (Tk H a sd n k) L G ∧ stays M M' dp ∧
      (own = 1 → ∀ b' L' : Int, b' = (if best < (r : Int) then (r : Int) else best) → L' = (if L < b' then b' else L) → f_Open_tricksFrom_s78 (gTF (f + 1)).2 M (nI dp) (nI (aLead a)) (nI (a 0 6)) (nI (aFw a)) (nI own) (zI L) (zI G) (zI best) (nI k) = if cu = 1 ∧ ¬ L' < G then some (.inr (zI b', M')) else some (.inl (zI L', zI G, zI b', nI (k + 1), M'))) ∧
      (own = 0 → ∀ b' G' : Int, b' = (if (r : Int) < best then (r : Int) else best) → G' = (if b' < G then b' else G) → f_Open_tricksFrom_s78 (gTF (f + 1)).2 M (nI dp) (nI (aLead a)) (nI (a 0 6)) (nI (aFw a)) (nI own) (zI L) (zI G) (zI best) (nI k) = if cu = 1 ∧ ¬ L < G' then some (.inr (zI b', M')) else some (.inl (zI L, zI G', zI b', nI (k + 1), M')))) := by
  have ht := hV.2.1.2.1 (Or.inr hp)
  have hO := hV.O
  have hk2 := hH.1 (a 0 6) k ht hk
  have hfw := aFw_lt hO.2.1 hO.2.2
  have n12 : n + 1 ≤ 12 := by have := hP.2.2.2.1; have := hP.2.2.2.2; omega
  have ft := p_fits (x := H (3 * a 0 6 + k)) (y := aFw a) (by omega) (by omega)
  have fit : (H (3 * a 0 6 + k) ≠ 4294967295 ∧ (aFw a = 4294967295 ∨ H (3 * a 0 6 + k) / 8 = aFw a)) ↔ fitk H a k := by
    unfold fitk aRs
    constructor
    · rintro ⟨q1, q2⟩
      refine ⟨q1, ?_⟩
      rw [if_pos (hk2.resolve_left q1).2, if_pos q2]
    · rintro ⟨q1, q2⟩
      refine ⟨q1, ?_⟩
      rw [if_pos (hk2.resolve_left q1).2] at q2
      by_cases w : aFw a = 4294967295 ∨ H (3 * a 0 6 + k) / 8 = aFw a
      · exact w
      · rw [if_neg w] at q2; omega
  have pre : f_Open_tricksFrom_s78 (gTF (f + 1)).2 M (nI dp) (nI (aLead a)) (nI (a 0 6)) (nI (aFw a)) (nI own) (zI L) (zI G) (zI best) (nI k) = (f_Open_fits (nI (H (3 * a 0 6 + k))) (nI (aFw a))).bind fun q3 => if q3 = 0 then f_Open_tricksFrom_b186 (gTF (f + 1)).2 M (nI dp) (nI (aLead a)) (nI (a 0 6)) (nI (aFw a)) (nI own) (zI L) (zI G) (zI best) (nI k) else (f_Open_tricksWith (gTF f).1 M (nI (3 * a 0 6 + k)) (nI dp) (nI (aLead a)) (zI L) (zI G)).bind fun q6 => if nI own = 0 then f_Open_tricksFrom_b146 (gTF (f + 1)).2 q6.2 (nI dp) (nI (aLead a)) (nI (a 0 6)) (nI (aFw a)) (nI own) (zI L) (zI G) (nI k) (if q6.1 < zI best then q6.1 else zI best) else f_Open_tricksFrom_b146 (gTF (f + 1)).2 q6.2 (nI dp) (nI (aLead a)) (nI (a 0 6)) (nI (aFw a)) (nI own) (zI L) (zI G) (nI k) (if zI best < q6.1 then q6.1 else zI best) := by
    unfold f_Open_tricksFrom_s78
    rw [show (3 : Int32) = nI 3 from rfl, if_neg (nI_ge hk (by omega)), pk_mul, nI_add, x_at (by omega) (by omega), pB, hC.1, show a 0 6 * 3 + k = 3 * a 0 6 + k by omega]
    rfl
  refine ⟨fun q => ?_, fun q => ?_⟩
  · rw [if_neg (fun w => q (fit.mp w))] at ft
    rw [pre, ft, pB, if_pos (show nI 0 = 0 from rfl), x_186 hC.2.2.2.2.2 hcu (by omega) (by omega), if_neg (fun w => w.2 (hLG w.1))]
  · rw [if_pos (fit.mpr q)] at ft
    obtain ⟨r, M', t1, t2, t3, t4⟩ := tw_step ih hV hp hP hsd hcu hC hH hk q.1 q.2 l1 l2 h1 h2 hLG
    have hr3 : r ≤ 4 := by omega
    have h7 := (hC.st t4).2.2.2.2.2
    refine ⟨r, M', t2, t3, t4, fun ho b' L' hb' hL' => ?_, fun ho b' G' hb' hG' => ?_⟩
    · rw [pre, ft, pB, if_neg (show ¬ nI 1 = 0 by decide), t1, pB, ho, if_neg (show ¬ nI 1 = 0 by decide), ← zI_nat (show r ≤ 1000 by omega)]
      dsimp only
      rw [zI_if (by omega) (by omega), ← hb']
      unfold f_Open_tricksFrom_b146 f_Open_tricksFrom_b165 f_Open_tricksFrom_b184
      have bb : -1 ≤ b' ∧ b' ≤ 50 := by rw [hb']; split <;> omega
      rw [if_neg (show ¬ nI 1 = 0 by decide), if_neg (show ¬ nI 1 = 0 by decide), zI_if (by omega) (by omega), ← hL']
      have lb : -50 ≤ L' ∧ L' ≤ 50 := by rw [hL']; split <;> omega
      exact x_186 h7 hcu (by omega) (by omega)
    · rw [pre, ft, pB, if_neg (show ¬ nI 1 = 0 by decide), t1, pB, ho, if_pos (show nI 0 = 0 from rfl), ← zI_nat (show r ≤ 1000 by omega)]
      dsimp only
      rw [zI_if (by omega) (by omega), ← hb']
      unfold f_Open_tricksFrom_b146 f_Open_tricksFrom_b165 f_Open_tricksFrom_b184
      have bb : -1 ≤ b' ∧ b' ≤ 50 := by rw [hb']; split <;> omega
      rw [if_pos (show nI 0 = 0 from rfl), if_pos (show nI 0 = 0 from rfl), zI_if (by omega) (by omega), ← hG']
      have lb : -50 ≤ G' ∧ G' ≤ 50 := by rw [hG']; split <;> omega
      exact x_186 h7 hcu (by omega) (by omega)
/-- the loop of a side that wants many -/
theorem x_own (ih : TFS n f) (hV : aV a) (hp : a 0 5 = 2) (hP : PO a dp tot (n + 1)) (hsd : sd < 2) (hcu : cu ≤ 1) (hH : HR H a) (ho : a 0 6 % 2 = sd) (l1 : -50 + ((n + 1 : Nat) : Int) ≤ lo) (l2 : lo ≤ 50) (h1 : -50 + ((n + 1 : Nat) : Int) ≤ hi) (h2 : hi ≤ 50) : ∀ m k L best M, k + m = 3 → CHm M H a dp tot sd cu → lo ≤ L → (L = lo ∨ L = best) → (((∀ j, j < k → ¬ fitk H a j) ∧ best = -1 ∧ L = lo) ∨ (0 ≤ best ∧ best ≤ L ∧ best ≤ 4 ∧ best ≤ (((n + 4) / 4 : Nat) : Int) ∧ ∃ j, j < k ∧ fitk H a j)) → (cu = 0 → (∀ j, j < k → fitk H a j → Tk H a sd n j ≤ best) ∧ ((∃ j, j < k ∧ fitk H a j) → ∃ j, j < k ∧ fitk H a j ∧ best = Tk H a sd n j)) → (cu = 1 → L < hi ∧ (∀ j, j < k → fitk H a j → Tk H a sd n j ≤ best) ∧ (lo < best → (∃ j, j < k ∧ fitk H a j) → ∃ j, j < k ∧ fitk H a j ∧ best ≤ Tk H a sd n j)) →
    ∃ r M', f_Open_tricksFrom_l78 (gTF (f + 1)).2 (nI dp) (nI (aLead a)) (nI (a 0 6)) (nI (aFw a)) (nI 1) (zI L, zI hi, zI best, nI k, M) = some (nI r, M') ∧ r ≤ (n + 4) / 4 ∧ AB cu r ((TS sd (n + 1) a : Int) - a 3 sd) lo hi ∧ stays M M' dp := by
  obtain ⟨v1, kv, v2, v3, v4⟩ := V_own (n := n) hV hp hH ho
  have n12 : n + 1 ≤ 12 := by have := hP.2.2.2.1; have := hP.2.2.2.2; omega
  intro m
  induction m with
  | zero =>
    intro k L best M hkm hC i1 i1b i2 i3 i4
    have hk : k = 3 := by omega
    subst hk
    rcases i2 with ⟨q, -⟩ | ⟨b0, b1, b4, b5, q⟩
    · exact absurd v3 (q kv v2)
    · refine ⟨best.toNat, M, ?_, by omega, ?_, stays.rf M dp⟩
      · refine pLx ?_
        show f_Open_tricksFrom_s78 (gTF (f + 1)).2 M (nI dp) (nI (aLead a)) (nI (a 0 6)) (nI (aFw a)) (nI 1) (zI L) (zI hi) (zI best) (nI 3) = _
        unfold f_Open_tricksFrom_s78
        rw [if_pos (by decide), ← zI_nat (show best.toNat ≤ 1000 by omega), show ((best.toNat : Nat) : Int) = best by omega]
      · rw [show ((best.toNat : Nat) : Int) = best by omega]
        refine ⟨fun z => ?_, fun z => ⟨fun w => ?_, fun w => ?_⟩⟩
        · obtain ⟨g1, g2⟩ := i3 z
          obtain ⟨j, j1, j2, j3⟩ := g2 q
          have := g1 kv v2 v3
          have := v1 j j1 j2
          omega
        · have := (i4 z).2.1 kv v2 v3
          omega
        · obtain ⟨j, j1, j2, j3⟩ := (i4 z).2.2 w q
          have := v1 j j1 j2
          omega
  | succ m ihm =>
    intro k L best M hkm hC i1 i1b i2 i3 i4
    have hb : -1 ≤ best ∧ best ≤ 4 := by rcases i2 with ⟨-, q, -⟩ | ⟨q1, -, q2, -⟩ <;> omega
    have hL50 : L ≤ 50 := by rcases i1b with q | q <;> omega
    obtain ⟨s0, s1⟩ := x_slot (own := 1) (best := best) ih hV hp hP hsd hcu hC hH (show k < 3 by omega) (by rw [if_pos ho]) (by omega) hL50 h1 h2 (by omega) (fun z => (i4 z).1)
    by_cases w : fitk H a k
    · obtain ⟨r, M', t2, t3, t4, t5, -⟩ := s1 w
      obtain ⟨b', hb'⟩ : ∃ b', b' = (if best < (r : Int) then (r : Int) else best) := ⟨_, rfl⟩
      obtain ⟨L', hL'⟩ : ∃ L', L' = (if L < b' then b' else L) := ⟨_, rfl⟩
      have t6 := t5 rfl b' L' hb' hL'
      have hb0 : 0 ≤ b' ∧ b' ≤ 4 ∧ b' ≤ (((n + 4) / 4 : Nat) : Int) ∧ best ≤ b' ∧ (r : Int) ≤ b' := by
        rw [hb']
        rcases i2 with ⟨-, q, -⟩ | ⟨q1, -, q2, q3, -⟩ <;> split <;> omega
      have hb1 : b' = best ∧ ¬ best < (r : Int) ∨ b' = r ∧ best < (r : Int) := by
        rw [hb']
        split
        · exact Or.inr ⟨rfl, by assumption⟩
        · exact Or.inl ⟨rfl, by assumption⟩
      have hl1 : L ≤ L' ∧ b' ≤ L' ∧ (L' = L ∨ L' = b' ∧ L < b') := by
        rw [hL']
        split <;> omega
      have B2 : cu = 1 → lo < b' → ∃ j, j < k + 1 ∧ fitk H a j ∧ b' ≤ Tk H a sd n j := by
        intro z hlo
        rcases hb1 with ⟨q, q'⟩ | ⟨q1, q2⟩
        · rw [q] at hlo ⊢
          rcases i2 with ⟨-, y, -⟩ | ⟨-, -, -, -, y⟩
          · omega
          · obtain ⟨j, j1, j2, j3⟩ := (i4 z).2.2 hlo y
            exact ⟨j, by omega, j2, j3⟩
        · refine ⟨k, by omega, w, ?_⟩
          rw [q1] at hlo ⊢
          exact (t3.2 z).2 (by rcases i1b with y | y <;> omega)
      by_cases cut : cu = 1 ∧ ¬ L' < hi
      · rw [if_pos cut] at t6
        refine ⟨b'.toNat, M', ?_, by omega, ?_, t4⟩
        · rw [← zI_nat (show b'.toNat ≤ 1000 by omega), show ((b'.toNat : Nat) : Int) = b' by omega]
          exact pLx (step := fun s => f_Open_tricksFrom_s78 (gTF (f + 1)).2 s.2.2.2.2 (nI dp) (nI (aLead a)) (nI (a 0 6)) (nI (aFw a)) (nI 1) s.1 s.2.1 s.2.2.1 s.2.2.2.1) (s := (zI L, zI hi, zI best, nI k, M)) t6
        · rw [show ((b'.toNat : Nat) : Int) = b' by omega]
          refine ⟨fun z => absurd z (by omega), fun z => ⟨fun y => ?_, fun y => ?_⟩⟩
          · have := (i4 z).1
            omega
          · obtain ⟨j, j1, j2, j3⟩ := B2 z y
            have := v1 j (by omega) j2
            omega
      · rw [if_neg cut] at t6
        have hC' := hC.st t4
        have jj1 : lo ≤ L' := Int.le_trans i1 hl1.1
        have jj2 : L' = lo ∨ L' = b' := by
          rcases hl1.2.2 with e | ⟨e, -⟩
          · rcases i1b with y | y
            · exact Or.inl (e.trans y)
            · exact Or.inr (Int.le_antisymm (by rw [e, y]; exact hb0.2.2.2.1) hl1.2.1)
          · exact Or.inr e
        obtain ⟨r2, M2, g1, g2, g3, g4⟩ := ihm (k + 1) L' b' M' (by omega) hC' jj1 jj2 (Or.inr ⟨hb0.1, hl1.2.1, hb0.2.1, hb0.2.2.1, k, by omega, w⟩) (fun z => by
          have hT := t3.1 z
          obtain ⟨e1, e2⟩ := i3 z
          refine ⟨fun j hj hf => ?_, fun _ => ?_⟩
          · by_cases y : j = k
            · rw [y, ← hT]; exact hb0.2.2.2.2
            · have := e1 j (by omega) hf
              omega
          · rcases hb1 with ⟨q, q'⟩ | ⟨q1, q2⟩
            · rcases i2 with ⟨-, q2, -⟩ | ⟨-, -, -, -, q2⟩
              · omega
              · obtain ⟨j, j1, j2, j3⟩ := e2 q2
                exact ⟨j, by omega, j2, by rw [q]; exact j3⟩
            · exact ⟨k, by omega, w, by rw [q1]; exact hT⟩) (fun z => by
          have hlt : L' < hi := Decidable.of_not_not (fun y => cut ⟨z, y⟩)
          refine ⟨hlt, fun j hj hf => ?_, fun y _ => B2 z y⟩
          by_cases y : j = k
          · rw [y]
            have := (t3.2 z).1 (by omega)
            omega
          · have := (i4 z).2.1 j (by omega) hf
            omega)
        refine ⟨r2, M2, ?_, g2, g3, t4.tr g4⟩
        exact (pLp (step := fun s => f_Open_tricksFrom_s78 (gTF (f + 1)).2 s.2.2.2.2 (nI dp) (nI (aLead a)) (nI (a 0 6)) (nI (aFw a)) (nI 1) s.1 s.2.1 s.2.2.1 s.2.2.2.1) (s := (zI L, zI hi, zI best, nI k, M)) t6).trans g1
    · have t6 := s0 w
      have nk : ∀ j, j < k + 1 → fitk H a j → j < k := fun j hj hf => by
        by_cases y : j = k
        · rw [y] at hf; exact absurd hf w
        · omega
      obtain ⟨r2, M2, g1, g2, g3, g4⟩ := ihm (k + 1) L best M (by omega) hC i1 i1b (by
        rcases i2 with ⟨q, q2, q3⟩ | ⟨q1, q2, q3, q4, j, j1, j2⟩
        · exact Or.inl ⟨fun j hj hf => q j (nk j hj hf) hf, q2, q3⟩
        · exact Or.inr ⟨q1, q2, q3, q4, j, by omega, j2⟩) (fun z => by
        obtain ⟨e1, e2⟩ := i3 z
        refine ⟨fun j hj hf => e1 j (nk j hj hf) hf, ?_⟩
        rintro ⟨j, j1, j2⟩
        obtain ⟨j', a1, a2, a3⟩ := e2 ⟨j, nk j j1 j2, j2⟩
        exact ⟨j', by omega, a2, a3⟩) (fun z => by
        obtain ⟨e1, e2, e3⟩ := i4 z
        refine ⟨e1, fun j hj hf => e2 j (nk j hj hf) hf, ?_⟩
        rintro y ⟨j, j1, j2⟩
        obtain ⟨j', a1, a2, a3⟩ := e3 y ⟨j, nk j j1 j2, j2⟩
        exact ⟨j', by omega, a2, a3⟩)
      refine ⟨r2, M2, ?_, g2, g3, g4⟩
      exact (pLp (step := fun s => f_Open_tricksFrom_s78 (gTF (f + 1)).2 s.2.2.2.2 (nI dp) (nI (aLead a)) (nI (a 0 6)) (nI (aFw a)) (nI 1) s.1 s.2.1 s.2.2.1 s.2.2.2.1) (s := (zI L, zI hi, zI best, nI k, M)) t6).trans g1
/-- the loop of a side that wants few -/
theorem x_min (ih : TFS n f) (hV : aV a) (hp : a 0 5 = 2) (hP : PO a dp tot (n + 1)) (hsd : sd < 2) (hcu : cu ≤ 1) (hH : HR H a) (ho : ¬ a 0 6 % 2 = sd) (l1 : -50 + ((n + 1 : Nat) : Int) ≤ lo) (l2 : lo ≤ 50) (h1 : -50 + ((n + 1 : Nat) : Int) ≤ hi) (h2 : hi ≤ 50) : ∀ m k G best M, k + m = 3 → CHm M H a dp tot sd cu → G ≤ hi → (G = hi ∨ G = best) → (((∀ j, j < k → ¬ fitk H a j) ∧ best = 9 ∧ G = hi) ∨ (0 ≤ best ∧ G ≤ best ∧ best ≤ 4 ∧ best ≤ (((n + 4) / 4 : Nat) : Int) ∧ ∃ j, j < k ∧ fitk H a j)) → (cu = 0 → (∀ j, j < k → fitk H a j → best ≤ Tk H a sd n j) ∧ ((∃ j, j < k ∧ fitk H a j) → ∃ j, j < k ∧ fitk H a j ∧ best = Tk H a sd n j)) → (cu = 1 → lo < G ∧ (∀ j, j < k → fitk H a j → best ≤ Tk H a sd n j) ∧ (best < hi → (∃ j, j < k ∧ fitk H a j) → ∃ j, j < k ∧ fitk H a j ∧ Tk H a sd n j ≤ best)) →
    ∃ r M', f_Open_tricksFrom_l78 (gTF (f + 1)).2 (nI dp) (nI (aLead a)) (nI (a 0 6)) (nI (aFw a)) (nI 0) (zI lo, zI G, zI best, nI k, M) = some (nI r, M') ∧ r ≤ (n + 4) / 4 ∧ AB cu r ((TS sd (n + 1) a : Int) - a 3 sd) lo hi ∧ stays M M' dp := by
  obtain ⟨v1, kv, v2, v3, v4⟩ := V_min (n := n) hV hp hH hsd hP.1 ho
  have n12 : n + 1 ≤ 12 := by have := hP.2.2.2.1; have := hP.2.2.2.2; omega
  intro m
  induction m with
  | zero =>
    intro k G best M hkm hC i1 i1b i2 i3 i4
    have hk : k = 3 := by omega
    subst hk
    rcases i2 with ⟨q, -⟩ | ⟨b0, b1, b4, b5, q⟩
    · exact absurd v3 (q kv v2)
    · refine ⟨best.toNat, M, ?_, by omega, ?_, stays.rf M dp⟩
      · refine pLx ?_
        show f_Open_tricksFrom_s78 (gTF (f + 1)).2 M (nI dp) (nI (aLead a)) (nI (a 0 6)) (nI (aFw a)) (nI 0) (zI lo) (zI G) (zI best) (nI 3) = _
        unfold f_Open_tricksFrom_s78
        rw [if_pos (by decide), ← zI_nat (show best.toNat ≤ 1000 by omega), show ((best.toNat : Nat) : Int) = best by omega]
      · rw [show ((best.toNat : Nat) : Int) = best by omega]
        refine ⟨fun z => ?_, fun z => ⟨fun w => ?_, fun w => ?_⟩⟩
        · obtain ⟨g1, g2⟩ := i3 z
          obtain ⟨j, j1, j2, j3⟩ := g2 q
          have := g1 kv v2 v3
          have := v1 j j1 j2
          omega
        · obtain ⟨j, j1, j2, j3⟩ := (i4 z).2.2 w q
          have := v1 j j1 j2
          omega
        · have := (i4 z).2.1 kv v2 v3
          omega
  | succ m ihm =>
    intro k G best M hkm hC i1 i1b i2 i3 i4
    have hb : 0 ≤ best ∧ best ≤ 9 := by rcases i2 with ⟨-, q, -⟩ | ⟨q1, -, q2, -⟩ <;> omega
    have hG50 : -50 + ((n + 1 : Nat) : Int) ≤ G := by rcases i1b with q | q <;> omega
    obtain ⟨s0, s1⟩ := x_slot (own := 0) (best := best) ih hV hp hP hsd hcu hC hH (show k < 3 by omega) (by rw [if_neg ho]) l1 l2 hG50 (by omega) (by omega) (fun z => (i4 z).1)
    by_cases w : fitk H a k
    · obtain ⟨r, M', t2, t3, t4, -, t5⟩ := s1 w
      obtain ⟨b', hb'⟩ : ∃ b', b' = (if (r : Int) < best then (r : Int) else best) := ⟨_, rfl⟩
      obtain ⟨G', hG'⟩ : ∃ G', G' = (if b' < G then b' else G) := ⟨_, rfl⟩
      have t6 := t5 rfl b' G' hb' hG'
      have hb0 : 0 ≤ b' ∧ b' ≤ 4 ∧ b' ≤ (((n + 4) / 4 : Nat) : Int) ∧ b' ≤ best ∧ b' ≤ (r : Int) := by
        rw [hb']
        rcases i2 with ⟨-, q, -⟩ | ⟨q1, -, q2, q3, -⟩ <;> split <;> omega
      have hb1 : b' = best ∧ ¬ (r : Int) < best ∨ b' = r ∧ (r : Int) < best := by
        rw [hb']
        split
        · exact Or.inr ⟨rfl, by assumption⟩
        · exact Or.inl ⟨rfl, by assumption⟩
      have hl1 : G' ≤ G ∧ G' ≤ b' ∧ (G' = G ∨ G' = b' ∧ b' < G) := by
        rw [hG']
        split <;> omega
      have B2 : cu = 1 → b' < hi → ∃ j, j < k + 1 ∧ fitk H a j ∧ Tk H a sd n j ≤ b' := by
        intro z hlo
        rcases hb1 with ⟨q, q'⟩ | ⟨q1, q2⟩
        · rw [q] at hlo ⊢
          rcases i2 with ⟨-, y, -⟩ | ⟨-, -, -, -, y⟩
          · omega
          · obtain ⟨j, j1, j2, j3⟩ := (i4 z).2.2 hlo y
            exact ⟨j, by omega, j2, j3⟩
        · refine ⟨k, by omega, w, ?_⟩
          rw [q1] at hlo ⊢
          exact (t3.2 z).1 (by rcases i1b with y | y <;> omega)
      by_cases cut : cu = 1 ∧ ¬ lo < G'
      · rw [if_pos cut] at t6
        refine ⟨b'.toNat, M', ?_, by omega, ?_, t4⟩
        · rw [← zI_nat (show b'.toNat ≤ 1000 by omega), show ((b'.toNat : Nat) : Int) = b' by omega]
          exact pLx (step := fun s => f_Open_tricksFrom_s78 (gTF (f + 1)).2 s.2.2.2.2 (nI dp) (nI (aLead a)) (nI (a 0 6)) (nI (aFw a)) (nI 0) s.1 s.2.1 s.2.2.1 s.2.2.2.1) (s := (zI lo, zI G, zI best, nI k, M)) t6
        · rw [show ((b'.toNat : Nat) : Int) = b' by omega]
          refine ⟨fun z => absurd z (by omega), fun z => ⟨fun y => ?_, fun y => ?_⟩⟩
          · obtain ⟨j, j1, j2, j3⟩ := B2 z y
            have := v1 j (by omega) j2
            omega
          · have := (i4 z).1
            omega
      · rw [if_neg cut] at t6
        have hC' := hC.st t4
        have jj1 : G' ≤ hi := Int.le_trans hl1.1 i1
        have jj2 : G' = hi ∨ G' = b' := by
          rcases hl1.2.2 with e | ⟨e, -⟩
          · rcases i1b with y | y
            · exact Or.inl (e.trans y)
            · exact Or.inr (Int.le_antisymm hl1.2.1 (by rw [e, y]; exact hb0.2.2.2.1))
          · exact Or.inr e
        obtain ⟨r2, M2, g1, g2, g3, g4⟩ := ihm (k + 1) G' b' M' (by omega) hC' jj1 jj2 (Or.inr ⟨hb0.1, hl1.2.1, hb0.2.1, hb0.2.2.1, k, by omega, w⟩) (fun z => by
          have hT := t3.1 z
          obtain ⟨e1, e2⟩ := i3 z
          refine ⟨fun j hj hf => ?_, fun _ => ?_⟩
          · by_cases y : j = k
            · rw [y, ← hT]; exact hb0.2.2.2.2
            · have := e1 j (by omega) hf
              omega
          · rcases hb1 with ⟨q, q'⟩ | ⟨q1, q2⟩
            · rcases i2 with ⟨-, q2, -⟩ | ⟨-, -, -, -, q2⟩
              · omega
              · obtain ⟨j, j1, j2, j3⟩ := e2 q2
                exact ⟨j, by omega, j2, by rw [q]; exact j3⟩
            · exact ⟨k, by omega, w, by rw [q1]; exact hT⟩) (fun z => by
          have hlt : lo < G' := Decidable.of_not_not (fun y => cut ⟨z, y⟩)
          refine ⟨hlt, fun j hj hf => ?_, fun y _ => B2 z y⟩
          by_cases y : j = k
          · rw [y]
            have := (t3.2 z).2 (by omega)
            omega
          · have := (i4 z).2.1 j (by omega) hf
            omega)
        refine ⟨r2, M2, ?_, g2, g3, t4.tr g4⟩
        exact (pLp (step := fun s => f_Open_tricksFrom_s78 (gTF (f + 1)).2 s.2.2.2.2 (nI dp) (nI (aLead a)) (nI (a 0 6)) (nI (aFw a)) (nI 0) s.1 s.2.1 s.2.2.1 s.2.2.2.1) (s := (zI lo, zI G, zI best, nI k, M)) t6).trans g1
    · have t6 := s0 w
      have nk : ∀ j, j < k + 1 → fitk H a j → j < k := fun j hj hf => by
        by_cases y : j = k
        · rw [y] at hf; exact absurd hf w
        · omega
      obtain ⟨r2, M2, g1, g2, g3, g4⟩ := ihm (k + 1) G best M (by omega) hC i1 i1b (by
        rcases i2 with ⟨q, q2, q3⟩ | ⟨q1, q2, q3, q4, j, j1, j2⟩
        · exact Or.inl ⟨fun j hj hf => q j (nk j hj hf) hf, q2, q3⟩
        · exact Or.inr ⟨q1, q2, q3, q4, j, by omega, j2⟩) (fun z => by
        obtain ⟨e1, e2⟩ := i3 z
        refine ⟨fun j hj hf => e1 j (nk j hj hf) hf, ?_⟩
        rintro ⟨j, j1, j2⟩
        obtain ⟨j', a1, a2, a3⟩ := e2 ⟨j, nk j j1 j2, j2⟩
        exact ⟨j', by omega, a2, a3⟩) (fun z => by
        obtain ⟨e1, e2, e3⟩ := i4 z
        refine ⟨e1, fun j hj hf => e2 j (nk j hj hf) hf, ?_⟩
        rintro y ⟨j, j1, j2⟩
        obtain ⟨j', a1, a2, a3⟩ := e3 y ⟨j, nk j j1 j2, j2⟩
        exact ⟨j', by omega, a2, a3⟩)
      refine ⟨r2, M2, ?_, g2, g3, g4⟩
      exact (pLp (step := fun s => f_Open_tricksFrom_s78 (gTF (f + 1)).2 s.2.2.2.2 (nI dp) (nI (aLead a)) (nI (a 0 6)) (nI (aFw a)) (nI 0) s.1 s.2.1 s.2.2.1 s.2.2.2.1) (s := (zI lo, zI G, zI best, nI k, M)) t6).trans g1
/-- the search, at so many cards left -/
theorem TFS_all : ∀ n f, 2 * n + 1 ≤ f → TFS n f := by
  intro n
  induction n with
  | zero =>
    intro f hf M H a dp tot sd cu ld lo hi hV hp hP hsd hcu hC hH hld l1 l2 h1 h2 hlh
    obtain ⟨f', rfl⟩ : ∃ f', f = f' + 1 := ⟨f - 1, by omega⟩
    refine ⟨0, M, ?_, by omega, ?_, stays.rf M dp⟩
    · show f_Open_tricksFrom (gTF f').2 M (nI dp) ld (zI lo) (zI hi) = _
      unfold f_Open_tricksFrom
      rw [hC.2.2.1, if_pos (nI_le (by have := hP.2.2.2.1; omega) (by have := hP.2.2.2.2; have := hP.2.2.2.1; omega))]
      rfl
    · have e : ((TS sd 0 a : Int) - a 3 sd) = 0 := by
        show ((a 3 sd : Int) - a 3 sd) = 0
        omega
      rw [e]
      refine ⟨fun _ => rfl, fun _ => ⟨fun _ => ?_, fun _ => ?_⟩⟩ <;> omega
  | succ n ih =>
    intro f hf M H a dp tot sd cu ld lo hi hV hp hP hsd hcu hC hH hld l1 l2 h1 h2 hlh
    obtain ⟨f', rfl⟩ : ∃ f', f = f' + 1 + 1 := ⟨f - 2, by omega⟩
    have ih' := ih f' (by omega)
    have hp2 : a 0 5 = 2 := hp.resolve_right (by omega)
    have ht := hV.2.1.2.1 (Or.inr hp2)
    have eld := hld (by omega)
    subst eld
    have hP0 := hP
    obtain ⟨p1, p2, p3, p4, p5⟩ := hP
    have epl : gRem (nI (aLead a) + gRem (nI dp) 4) 4 = nI (a 0 6) := by
      rw [show gRem (nI dp) 4 = nI (dp % 4) from z_rem (d := 4) (by omega) (by omega) (by omega), nI_add]
      have : aLead a < 4 := by unfold aLead; omega
      rw [show gRem (nI (aLead a + dp % 4)) 4 = nI ((aLead a + dp % 4) % 4) from z_rem (d := 4) (by omega) (by omega) (by omega)]
      congr 1
      unfold aLead
      omega
    have e2 : gRem (nI (a 0 6)) 2 = nI (a 0 6 % 2) := z_rem (d := 2) (by omega) (by omega) (by omega)
    show ∃ r M', f_Open_tricksFrom (gTF (f' + 1)).2 M (nI dp) (nI (aLead a)) (zI lo) (zI hi) = some (nI r, M') ∧ _
    have pre : f_Open_tricksFrom (gTF (f' + 1)).2 M (nI dp) (nI (aLead a)) (zI lo) (zI hi) = if a 0 6 % 2 = sd then f_Open_tricksFrom_l78 (gTF (f' + 1)).2 (nI dp) (nI (aLead a)) (nI (a 0 6)) (nI (aFw a)) (nI 1) (zI lo, zI hi, zI (-1), nI 0, M) else f_Open_tricksFrom_l78 (gTF (f' + 1)).2 (nI dp) (nI (aLead a)) (nI (a 0 6)) (nI (aFw a)) (nI 0) (zI lo, zI hi, zI 9, nI 0, M) := by
      unfold f_Open_tricksFrom
      rw [hC.2.2.1, if_neg (nI_ge (by omega) (by omega)), z_ofn, if_pos (nI_lt (by omega) (by omega)), epl, p_oFollow hC hH hV hp2 hP0, pB, e2, hC.2.2.2.1]
      unfold f_Open_tricksFrom_b53 f_Open_tricksFrom_b73
      by_cases z : a 0 6 % 2 = sd
      · rw [if_pos (by rw [z]), if_pos z, if_neg (show ¬ (1 : Int32) = 0 by decide)]
        rfl
      · rw [if_neg (z_ne (by omega) (by omega) z), if_neg z, if_pos rfl]
        rfl
    rw [pre, show (n + 1 + 3) / 4 = (n + 4) / 4 by omega]
    by_cases z : a 0 6 % 2 = sd
    · rw [if_pos z]
      exact x_own ih' hV hp2 hP0 hsd hcu hH z l1 l2 h1 h2 3 0 lo (-1) M rfl hC (Int.le_refl lo) (Or.inl rfl) (Or.inl ⟨fun j hj => absurd hj (by omega), rfl, rfl⟩) (fun _ => ⟨fun j hj => absurd hj (by omega), fun ⟨j, hj, _⟩ => absurd hj (by omega)⟩) (fun y => ⟨hlh y, fun j hj => absurd hj (by omega), fun q ⟨j, hj, _⟩ => absurd hj (by omega)⟩)
    · rw [if_neg z]
      exact x_min ih' hV hp2 hP0 hsd hcu hH z l1 l2 h1 h2 3 0 hi 9 M rfl hC (Int.le_refl hi) (Or.inl rfl) (Or.inl ⟨fun j hj => absurd hj (by omega), rfl, rfl⟩) (fun _ => ⟨fun j hj => absurd hj (by omega), fun ⟨j, hj, _⟩ => absurd hj (by omega)⟩) (fun y => ⟨hlh y, fun j hj => absurd hj (by omega), fun q ⟨j, hj, _⟩ => absurd hj (by omega)⟩)
end OL
