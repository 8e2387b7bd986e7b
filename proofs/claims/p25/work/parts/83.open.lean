-- ===== PURE: the class's search =====
def zI (z : Int) : Int32 := Int32.ofInt z
theorem zI_toInt {z : Int} (h : -1000 ≤ z ∧ z ≤ 1000) : (zI z).toInt = z := fb_ofI (by omega) (by omega)
theorem zI_nat {n : Nat} (h : n ≤ 1000) : zI (n : Int) = nI n := by
  rw [fa_eq, zI_toInt (by omega), pN (by omega)]
theorem zI_lt {x y : Int} (hx : -1000 ≤ x ∧ x ≤ 1000) (hy : -1000 ≤ y ∧ y ≤ 1000) : zI x < zI y ↔ x < y := by rw [fa_lt, zI_toInt hx, zI_toInt hy]
theorem zI_sub {x y : Int} (hx : -500 ≤ x ∧ x ≤ 500) (hy : -500 ≤ y ∧ y ≤ 500) : zI x - zI y = zI (x - y) := by
  rw [fa_eq, zI_toInt (by omega), fb_subI (by rw [zI_toInt (by omega), zI_toInt (by omega)]; omega) (by rw [zI_toInt (by omega), zI_toInt (by omega)]; omega), zI_toInt (by omega), zI_toInt (by omega)]
theorem zI_if {x y : Int} (hx : -1000 ≤ x ∧ x ≤ 1000) (hy : -1000 ≤ y ∧ y ≤ 1000) (u v : Int) : (if zI x < zI y then zI u else zI v) = zI (if x < y then u else v) := by
  by_cases h : x < y
  · rw [if_pos h, if_pos ((zI_lt hx hy).mpr h)]
  · rw [if_neg h, if_neg (fun q => h ((zI_lt hx hy).mp q))]
/-- what an answer says of the true one, with cuts or without -/
def AB (cu : Nat) (R V lo hi : Int) : Prop := (cu = 0 → R = V) ∧ (cu = 1 → (R < hi → V ≤ R) ∧ (lo < R → R ≤ V))
theorem AB.sh {cu : Nat} {R V lo hi : Int} (h : AB cu R V lo hi) (g : Int) : AB cu (g + R) (V + g) (lo + g) (hi + g) := by
  refine ⟨fun z => ?_, fun z => ⟨fun q => ?_, fun q => ?_⟩⟩
  · have := h.1 z; omega
  · have := (h.2 z).1 (by omega); omega
  · have := (h.2 z).2 (by omega); omega
section GEN
variable {M : gMem} {g c n k : Nat}
theorem x_put (h : k < n) (hn : n < 2 ^ 31) (x : Int32) : f_DS_put g c n M (nI k) x = some (gUp M g c (upd (M g c) k x)) := by
  unfold f_DS_put
  rw [if_neg (nI_pos (by omega)), z_ofn, if_neg (nI_ge h hn), pWr _ _ _ _ h hn, pB]
theorem x_at (h : k < n) (hn : n < 2 ^ 31) : f_DS_at g c n M (nI k) = some (M g c k) := by
  unfold f_DS_at
  rw [if_neg (nI_pos (by omega)), z_ofn, if_neg (nI_ge h hn), pRd _ h hn, pB]
theorem p_fits {x y : Nat} (hx : x = 4294967295 ∨ x < 32) (hy : y = 4294967295 ∨ y < 4) : f_Open_fits (nI x) (nI y) = some (nI (if x ≠ 4294967295 ∧ (y = 4294967295 ∨ x / 8 = y) then 1 else 0)) := by
  unfold f_Open_fits
  rw [z_m1]
  by_cases z : x = 4294967295
  · rw [if_pos (by rw [z]), if_neg (fun q => q.1 z)]; rfl
  · rw [if_neg (z_ne (by omega) (by omega) z)]
    by_cases z2 : y = 4294967295
    · rw [if_pos (by rw [z2]), if_pos ⟨z, Or.inl z2⟩]; rfl
    · rw [if_neg (z_ne (by omega) (by omega) z2), show (8 : Int32) = nI 8 from rfl, z_div (by omega) (by omega) (by omega)]
      by_cases z3 : x / 8 = y
      · rw [if_pos (by rw [z3]), if_pos ⟨z, Or.inr z3⟩]; rfl
      · rw [if_neg (z_ne (by omega) (by omega) z3), if_neg (fun q => by rcases q.2 with w | w; exact z2 w; exact z3 w)]; rfl
end GEN
def CHm (M : gMem) (H : Nat → Nat) (a : Nat → Nat → Nat) (dp tot sd cu : Nat) : Prop :=
  M 18 9 = (fun j => nI (H j)) ∧ (∀ j, j < dp → M 18 10 j = nI (a 7 (a 1 3 - dp + j))) ∧ M 18 8 3 = nI tot ∧ M 18 8 5 = nI sd ∧ M 18 8 6 = nI (a 0 8) ∧ M 18 8 7 = nI cu
def HR (H : Nat → Nat) (a : Nat → Nat → Nat) : Prop :=
  (∀ p k, p < 4 → k < 3 → H (3 * p + k) = 4294967295 ∨ (H (3 * p + k) < 32 ∧ aH a (H (3 * p + k)) = p)) ∧ (∀ c p, c < 32 → p < 4 → aH a c = p → ∃ k, k < 3 ∧ H (3 * p + k) = c) ∧ (∀ i j, i < 12 → j < 12 → H i = H j → H i ≠ 4294967295 → i = j)
def stays (M M' : gMem) (dp : Nat) : Prop := M' 18 9 = M 18 9 ∧ (∀ j, j < dp → M' 18 10 j = M 18 10 j) ∧ ∀ g c, ¬ (g = 18 ∧ (c = 9 ∨ c = 10)) → M' g c = M g c
theorem stays.rf (M : gMem) (dp : Nat) : stays M M dp := ⟨rfl, fun _ _ => rfl, fun _ _ _ => rfl⟩
theorem stays.tr {M M' M2 : gMem} {dp : Nat} (h : stays M M' dp) (h2 : stays M' M2 dp) : stays M M2 dp := ⟨h2.1.trans h.1, fun j hj => (h2.2.1 j hj).trans (h.2.1 j hj), fun g c z => (h2.2.2 g c z).trans (h.2.2 g c z)⟩
section OP
variable {M M' : gMem} {H : Nat → Nat} {a : Nat → Nat → Nat} {dp tot sd cu n k : Nat}
theorem CHm.st (h : CHm M H a dp tot sd cu) (s : stays M M' dp) : CHm M' H a dp tot sd cu := by
  have e8 : M' 18 8 = M 18 8 := s.2.2 18 8 (by omega)
  unfold CHm
  rw [e8]
  exact ⟨s.1.trans h.1, fun j hj => (s.2.1 j hj).trans (h.2.1 j hj), h.2.2⟩
/-- the position: how deep, how many cards are left -/
def PO (a : Nat → Nat → Nat) (dp tot n : Nat) : Prop := a 1 3 + n = 32 ∧ dp ≤ a 1 3 ∧ (a 1 3 - dp) % 4 = 0 ∧ tot = dp + n ∧ tot ≤ 12
theorem p_oFollow (hC : CHm M H a dp tot sd cu) (hH : HR H a) (hV : aV a) (hp : a 0 5 = 2) (hP : PO a dp tot (n + 1)) : f_Open_suitToFollow M (nI (a 0 6)) (nI dp) = some (nI (aFw a)) := by
  obtain ⟨p1, p2, p3, p4, p5⟩ := hP
  have ht := hV.2.1.2.1 (Or.inr hp)
  have hO := hV.O
  have e4 : gRem (nI dp) 4 = nI (dp % 4) := z_rem (d := 4) (by omega) (by omega) (by omega)
  unfold f_Open_suitToFollow
  rw [e4]
  have d4 : dp % 4 = a 1 3 % 4 := by omega
  by_cases z : dp % 4 = 0
  · rw [if_pos (by rw [z]; rfl), z_m1]
    unfold aFw aLed
    rw [if_pos (show a 1 3 % 4 = 0 by omega), if_pos rfl]
  · rw [if_neg (show ¬ nI (dp % 4) = 0 from z_ne (y := 0) (by omega) (by omega) z), pk_sub (by omega), x_at (by omega) (by omega), pB, hC.2.1 _ (by omega)]
    have hc := hO.2.2 (a 1 3 - dp + (dp - dp % 4)) (by omega)
    have eL : aLed a = a 7 (a 1 3 - dp + (dp - dp % 4)) / 8 := by
      unfold aLed
      rw [if_neg (by omega), show a 1 3 - a 1 3 % 4 = a 1 3 - dp + (dp - dp % 4) by omega]
    rw [show nI (a 7 (a 1 3 - dp + (dp - dp % 4))) / 8 = nI (a 7 (a 1 3 - dp + (dp - dp % 4)) / 8) from z_div (d := 8) (by omega) (by omega) (by omega), ← eL]
    have hL : aLed a < 4 := by omega
    -- one slot
    have sl : ∀ k, k < 3 → f_Open_suitToFollow_s28 M (nI (a 0 6)) (nI (aLed a)) (nI k) = if H (3 * a 0 6 + k) ≠ 4294967295 ∧ H (3 * a 0 6 + k) / 8 = aLed a then some (.inr (nI (aLed a))) else some (.inl (nI (k + 1))) := by
      intro k hk
      have hk2 := hH.1 (a 0 6) k ht hk
      unfold f_Open_suitToFollow_s28
      have ft := p_fits (x := H (3 * a 0 6 + k)) (y := aLed a) (by omega) (Or.inr hL)
      rw [show (3 : Int32) = nI 3 from rfl, if_neg (nI_ge hk (by omega)), pk_mul, nI_add, x_at (by omega) (by omega), pB, hC.1, show a 0 6 * 3 + k = 3 * a 0 6 + k by omega]
      by_cases w : H (3 * a 0 6 + k) ≠ 4294967295 ∧ H (3 * a 0 6 + k) / 8 = aLed a
      · rw [if_pos ⟨w.1, Or.inr w.2⟩] at ft
        rw [ft, pB, if_neg (show ¬ nI 1 = 0 by decide), if_pos w]
      · rw [if_neg (fun q => w ⟨q.1, q.2.resolve_left (by omega)⟩)] at ft
        rw [ft, pB, if_pos (show nI 0 = 0 from rfl), if_neg w, nI_1]
    have uF : aFw a = if aHd a (a 0 6) (aLed a) = 0 then 4294967295 else aLed a := by
      unfold aFw
      rw [if_neg (by omega)]
    have hz : aHd a (a 0 6) (aLed a) ≠ 0 ↔ ∃ k, k < 3 ∧ H (3 * a 0 6 + k) ≠ 4294967295 ∧ H (3 * a 0 6 + k) / 8 = aLed a := by
      unfold aHd
      constructor
      · intro q
        obtain ⟨r, r1, r2⟩ := fb_ct_pos.mp (Nat.pos_of_ne_zero q)
        have r3 : aH a (8 * aLed a + r) = a 0 6 := of_decide_eq_true r2
        obtain ⟨k, k1, k2⟩ := hH.2.1 _ _ (by omega) ht r3
        exact ⟨k, k1, by omega, by omega⟩
      · rintro ⟨k, k1, k2, k3⟩
        have h4 := (hH.1 (a 0 6) k ht k1).resolve_left k2
        refine Nat.pos_iff_ne_zero.mp (fb_ct_pos.mpr ⟨H (3 * a 0 6 + k) % 8, by omega, ?_⟩)
        refine decide_eq_true ?_
        rw [show 8 * aLed a + H (3 * a 0 6 + k) % 8 = H (3 * a 0 6 + k) by omega]
        exact h4.2
    have loop : ∀ m k, k + m = 3 → (∀ j, j < k → ¬ (H (3 * a 0 6 + j) ≠ 4294967295 ∧ H (3 * a 0 6 + j) / 8 = aLed a)) → f_Open_suitToFollow_l28 M (nI (a 0 6)) (nI (aLed a)) (nI k) = some (nI (aFw a)) := by
      intro m
      induction m with
      | zero =>
        intro k hk hn
        refine pLx ?_
        show f_Open_suitToFollow_s28 M (nI (a 0 6)) (nI (aLed a)) (nI k) = _
        unfold f_Open_suitToFollow_s28
        rw [show (3 : Int32) = nI 3 from rfl, if_pos (nI_le (by omega) (by omega)), z_m1, uF, if_pos]
        refine Decidable.of_not_not (fun q => ?_)
        obtain ⟨j, j1, j2⟩ := hz.mp q
        exact hn j (by omega) j2
      | succ m ih =>
        intro k hk hn
        have s := sl k (by omega)
        by_cases w : H (3 * a 0 6 + k) ≠ 4294967295 ∧ H (3 * a 0 6 + k) / 8 = aLed a
        · rw [if_pos w] at s
          refine (pLx (step := fun s => f_Open_suitToFollow_s28 M (nI (a 0 6)) (nI (aLed a)) s) (s := nI k) s).trans ?_
          rw [uF, if_neg (hz.mpr ⟨k, by omega, w⟩)]
        · rw [if_neg w] at s
          refine (pLp (step := fun s => f_Open_suitToFollow_s28 M (nI (a 0 6)) (nI (aLed a)) s) (s := nI k) s).trans ?_
          refine ih (k + 1) (by omega) (fun j hj => ?_)
          by_cases y : j = k
          · rw [y]; exact w
          · exact hn j (by omega)
    exact loop 3 0 rfl (fun j hj => absurd hj (by omega))
/-- the answer of the search, at so many cards left, so deep a recursion -/
def TFS (n f : Nat) : Prop := ∀ (M : gMem) (H : Nat → Nat) (a : Nat → Nat → Nat) (dp tot sd cu : Nat) (ld : Int32) (lo hi : Int), aV a → (a 0 5 = 2 ∨ n = 0) → PO a dp tot n → sd < 2 → cu ≤ 1 → CHm M H a dp tot sd cu → HR H a → (0 < n → ld = nI (aLead a)) → -50 + (n : Int) ≤ lo → lo ≤ 50 → -50 + (n : Int) ≤ hi → hi ≤ 50 → (cu = 1 → lo < hi) →
  ∃ r M', (gTF f).1 M (nI dp) ld (zI lo) (zI hi) = some (nI r, M') ∧ r ≤ (n + 3) / 4 ∧ AB cu r ((TS sd n a : Int) - a 3 sd) lo hi ∧ stays M M' dp
theorem HR.lay (hH : HR H a) (hV : aV a) (hp : a 0 5 = 2) {pl : Nat} (hpl : pl < 12) (hne : H pl ≠ 4294967295) : HR (fU H pl 4294967295) (aLay a (H pl)) := by
  have up : ∀ i, fU H pl 4294967295 i = if i = pl then 4294967295 else H i := fun i => rfl
  refine ⟨fun p k hp4 hk => ?_, fun c p hc hp4 h => ?_, fun i j hi hj h h2 => ?_⟩
  · rw [up]
    by_cases z : 3 * p + k = pl
    · rw [if_pos z]; exact Or.inl rfl
    · rw [if_neg z]
      rcases hH.1 p k hp4 hk with w | ⟨w1, w2⟩
      · exact Or.inl w
      · refine Or.inr ⟨w1, ?_⟩
        rw [lay_H hV hp, if_neg]
        · exact w2
        · intro q
          exact z (hH.2.2 _ _ (by omega) hpl q (by omega))
  · rw [lay_H hV hp] at h
    by_cases z : c = H pl
    · rw [if_pos z] at h; omega
    · rw [if_neg z] at h
      obtain ⟨k, k1, k2⟩ := hH.2.1 c p hc hp4 h
      refine ⟨k, k1, ?_⟩
      rw [up, if_neg]
      · exact k2
      · intro q
        rw [q] at k2
        exact z k2.symm
  · rw [up] at h h2
    rw [up] at h
    by_cases z : i = pl
    · rw [if_pos z] at h2
      exact absurd rfl h2
    · rw [if_neg z] at h h2
      by_cases z2 : j = pl
      · rw [if_pos z2] at h; exact absurd h h2
      · rw [if_neg z2] at h
        exact hH.2.2 i j hi hj h h2
/-- one card is tried -/
theorem tw_step {f : Nat} (ih : TFS n f) {lo hi : Int} (hV : aV a) (hp : a 0 5 = 2) (hP : PO a dp tot (n + 1)) (hsd : sd < 2) (hcu : cu ≤ 1) (hC : CHm M H a dp tot sd cu) (hH : HR H a) (hk : k < 3) (hne : H (3 * a 0 6 + k) ≠ 4294967295) (hr : aRs a (H (3 * a 0 6 + k)) = 0) (l1 : -50 + ((n + 1 : Nat) : Int) ≤ lo) (l2 : lo ≤ 50) (h1 : -50 + ((n + 1 : Nat) : Int) ≤ hi) (h2 : hi ≤ 50) (hlh : cu = 1 → lo < hi) : ∃ r M', f_Open_tricksWith (gTF f).1 M (nI (3 * a 0 6 + k)) (nI dp) (nI (aLead a)) (zI lo) (zI hi) = some (nI r, M') ∧ r ≤ (n + 4) / 4 ∧ AB cu r ((TS sd n (aLay a (H (3 * a 0 6 + k))) : Int) - a 3 sd) lo hi ∧ stays M M' dp := by
  obtain ⟨p1, p2, p3, p4, p5⟩ := hP
  have ht := hV.2.1.2.1 (Or.inr hp)
  have hO := hV.O
  obtain ⟨c, hc⟩ : ∃ c, c = H (3 * a 0 6 + k) := ⟨_, rfl⟩
  have hc32 : c < 32 := by rw [hc]; exact ((hH.1 (a 0 6) k ht hk).resolve_left hne).1
  have hHl := hH.lay hV hp (show 3 * a 0 6 + k < 12 by omega) hne
  rw [← hc] at hr hHl ⊢
  have hV' := aV_lay hV hp hc32 hr
  have hph := lay_ph hV hp hc32
  have h08 : aLay a c 0 8 = a 0 8 := (aLay_0 hV hp hc32).2.2.1
  obtain ⟨M1, hM1⟩ : ∃ M1, M1 = gUp M 18 9 (upd (M 18 9) (3 * a 0 6 + k) (-1)) := ⟨_, rfl⟩
  obtain ⟨M2, hM2⟩ : ∃ M2, M2 = gUp M1 18 10 (upd (M1 18 10) dp (nI c)) := ⟨_, rfl⟩
  have m9 : M2 18 9 = fun j => nI (fU H (3 * a 0 6 + k) 4294967295 j) := by
    rw [hM2, gUp_n _ _ (by omega), hM1, gUp_s, hC.1]
    funext j
    unfold upd fU
    split <;> first | rfl | exact z_m1
  have m10 : ∀ j, M2 18 10 j = if j = dp then nI c else M 18 10 j := fun j => by
    rw [hM2, gUp_s, hM1, gUp_n _ _ (by omega)]
    rfl
  have o2 : ∀ g c0, ¬ (g = 18 ∧ (c0 = 9 ∨ c0 = 10)) → M2 g c0 = M g c0 := fun g c0 z => by
    rw [hM2, gUp_n _ _ (by omega), hM1, gUp_n _ _ (by omega)]
  have m8 : M2 18 8 = M 18 8 := o2 18 8 (by omega)
  have hC2 : CHm M2 (fU H (3 * a 0 6 + k) 4294967295) (aLay a c) (dp + 1) tot sd cu := by
    refine ⟨m9, fun j hj => ?_, by rw [m8]; exact hC.2.2.1, by rw [m8]; exact hC.2.2.2.1, by rw [m8, h08]; exact hC.2.2.2.2.1, by rw [m8]; exact hC.2.2.2.2.2⟩
    rw [m10, lay_7 hV hp, hph.1]
    by_cases z : j = dp
    · rw [if_pos z, if_pos (by omega)]
    · rw [if_neg z, if_neg (by omega), hC.2.1 j (by omega)]
      congr 2
      omega
  have hP' : PO (aLay a c) (dp + 1) tot n := ⟨by rw [hph.1]; omega, by rw [hph.1]; omega, by rw [hph.1]; omega, by omega, p5⟩
  have hph2 : aLay a c 0 5 = 2 ∨ n = 0 := by omega
  -- behind the recursion the card is put back
  have back : ∀ M3 (r : Int32), stays M2 M3 (dp + 1) → ∃ M4, f_Open_tricksWith_b115 (gTF f).1 M3 (nI (3 * a 0 6 + k)) (nI c) r = some (r, M4) ∧ stays M M4 dp := by
    intro M3 r hs
    refine ⟨gUp M3 18 9 (upd (M3 18 9) (3 * a 0 6 + k) (nI c)), ?_, ?_, fun j hj => ?_, fun g c0 z => ?_⟩
    · unfold f_Open_tricksWith_b115
      rw [x_put (by omega) (by omega), pB]
    · rw [gUp_s, hs.1, m9, hC.1]
      funext j
      unfold upd fU
      by_cases z : j = 3 * a 0 6 + k
      · rw [if_pos z, z, hc]
      · rw [if_neg z]
        dsimp only
        rw [if_neg z]
    · rw [gUp_n _ _ (by omega), hs.2.1 j (by omega), m10, if_neg (by omega)]
    · rw [gUp_n _ _ (by omega), hs.2.2 g c0 z, o2 g c0 z]
  have pre : f_Open_tricksWith (gTF f).1 M (nI (3 * a 0 6 + k)) (nI dp) (nI (aLead a)) (zI lo) (zI hi) = if (gRem (nI dp) 4) = 3 then (f_DS_winningPlace 18 10 12 M2 (nI dp - 3) (M2 18 8 6)).bind fun q6 => if (gRem (gRem (nI (aLead a) + q6) 4) 2) = (M2 18 8 5) then f_Open_tricksWith_b72 (gTF f).1 M2 (nI (3 * a 0 6 + k)) (nI dp) (zI lo) (zI hi) (nI c) (gRem (nI (aLead a) + q6) 4) 1 else f_Open_tricksWith_b72 (gTF f).1 M2 (nI (3 * a 0 6 + k)) (nI dp) (zI lo) (zI hi) (nI c) (gRem (nI (aLead a) + q6) 4) 0 else ((gTF f).1 M2 (nI dp + 1) (nI (aLead a)) (zI lo) (zI hi)).bind fun q4 => f_Open_tricksWith_b115 (gTF f).1 q4.2 (nI (3 * a 0 6 + k)) (nI c) q4.1 := by
    unfold f_Open_tricksWith
    rw [x_at (by omega) (by omega), pB, x_put (by omega) (by omega), pB, ← hM1, hC.1]
    dsimp only
    rw [← hc, x_put (by omega) (by omega), pB, ← hM2]
  rw [pre, show gRem (nI dp) 4 = nI (dp % 4) from z_rem (d := 4) (by omega) (by omega) (by omega), nI_1]
  by_cases q : dp % 4 = 3
  · have q13 : (a 1 3 + 1) % 4 = 0 := by omega
    obtain ⟨w3, w6⟩ := lay_w hV hp hc32 q13
    have eld : aLead a = (a 0 6 + 1) % 4 := by
      unfold aLead
      omega
    have ew := p_winning (M := M2) (g := 18) (c0 := 10) (n := 12) (f := dp - 3) (t := a 0 8) (h := fun j => if j = 3 then c else a 7 (a 1 3 - 3 + j)) (fun j hj => by
      rw [x_at (by omega) (by omega), m10]
      by_cases z : j = 3
      · rw [if_pos (by omega), if_pos z]
      · rw [if_neg (by omega), if_neg z, hC.2.1 _ (by omega)]
        congr 3
        omega) (fun j hj => by
      split
      · omega
      · have := hO.2.2 (a 1 3 - 3 + j) (by omega)
        omega) (by have := hV.2.1.2.2.2.2.1; omega)
    have ewr : gRem (nI (aLead a) + nI (aWn (fun j => if j = 3 then c else a 7 (a 1 3 - 3 + j)) (a 0 8) 3)) 4 = nI (aWr a c) := by
      have := aWn_le (fun j => if j = 3 then c else a 7 (a 1 3 - 3 + j)) (a 0 8) 3
      rw [nI_add, show gRem (nI (aLead a + aWn (fun j => if j = 3 then c else a 7 (a 1 3 - 3 + j)) (a 0 8) 3)) 4 = nI ((aLead a + aWn (fun j => if j = 3 then c else a 7 (a 1 3 - 3 + j)) (a 0 8) 3) % 4) from z_rem (d := 4) (by omega) (by omega) (by omega), eld]
      rfl
    have hw4 : aWr a c < 4 := by unfold aWr; omega
    rw [if_pos (by rw [q]; rfl), show nI dp - 3 = nI (dp - 3) from pk_sub (b := 3) (by omega), m8, hC.2.2.2.2.1, ew, pB, ewr, show gRem (nI (aWr a c)) 2 = nI (aWr a c % 2) from z_rem (d := 2) (by omega) (by omega) (by omega), hC.2.2.2.1]
    have eld2 : 0 < n → nI (aWr a c) = nI (aLead (aLay a c)) := fun hn => by
      have := w6 (by omega)
      unfold aLead
      rw [this, hph.1]
      congr 1
      omega
    have b72 : ∀ g : Nat, g = (if aWr a c % 2 = sd then 1 else 0) → ∃ r M', f_Open_tricksWith_b72 (gTF f).1 M2 (nI (3 * a 0 6 + k)) (nI dp) (zI lo) (zI hi) (nI c) (nI (aWr a c)) (nI g) = some (nI r, M') ∧ r ≤ (n + 4) / 4 ∧ AB cu r ((TS sd n (aLay a c) : Int) - a 3 sd) lo hi ∧ stays M M' dp := by
      intro g hg
      have hg1 : g ≤ 1 := by rw [hg]; split <;> omega
      have e3 : aLay a c 3 sd = a 3 sd + g := by rw [w3 sd hsd, hg]
      obtain ⟨r, M3, k1, k2, k3, k4⟩ := ih M2 _ (aLay a c) (dp + 1) tot sd cu (nI (aWr a c)) (lo - g) (hi - g) hV' hph2 hP' hsd hcu hC2 hHl eld2 (by omega) (by omega) (by omega) (by omega) (fun z => by have := hlh z; omega)
      obtain ⟨M4, f1, f2⟩ := back M3 (nI (g + r)) k4
      refine ⟨g + r, M4, ?_, by omega, ?_, f2⟩
      · unfold f_Open_tricksWith_b72
        rw [nI_1, ← zI_nat (show g ≤ 1000 by omega), zI_sub (by omega) (by omega), zI_sub (by omega) (by omega), k1, pB, zI_nat (show g ≤ 1000 by omega)]
        dsimp only
        rw [nI_add]
        exact f1
      · have := k3.sh g
        rw [e3] at this
        rw [show (lo - g + g : Int) = lo by omega, show (hi - g + g : Int) = hi by omega, show ((TS sd n (aLay a c) : Int) - ((a 3 sd + g : Nat) : Int) + g) = (TS sd n (aLay a c) : Int) - a 3 sd by omega] at this
        rw [show ((g + r : Nat) : Int) = (g : Int) + r by omega]
        exact this
    by_cases z : aWr a c % 2 = sd
    · rw [if_pos (by rw [z])]
      exact b72 1 (by rw [if_pos z])
    · rw [if_neg (z_ne (by omega) (by omega) z)]
      exact b72 0 (by rw [if_neg z])
  · have q13 : ¬ (a 1 3 + 1) % 4 = 0 := by omega
    have h0 := aLay_0 hV hp hc32
    have e3 : aLay a c 3 sd = a 3 sd := by
      rcases (show sd = 0 ∨ sd = 1 by omega) with rfl | rfl <;> omega
    obtain ⟨r, M3, k1, k2, k3, k4⟩ := ih M2 _ (aLay a c) (dp + 1) tot sd cu (nI (aLead a)) lo hi hV' hph2 hP' hsd hcu hC2 hHl (fun hn => by
      unfold aLead
      rw [hph.1, show aLay a c 0 6 = (a 0 6 + 1) % 4 by omega]
      congr 1
      omega) (by omega) (by omega) (by omega) (by omega) hlh
    obtain ⟨M4, f1, f2⟩ := back M3 (nI r) k4
    rw [if_neg (show ¬ nI (dp % 4) = 3 from z_ne (y := 3) (by omega) (by omega) q), k1, pB]
    refine ⟨r, M4, f1, by omega, ?_, f2⟩
    rw [e3] at k3
    exact k3
end OP
