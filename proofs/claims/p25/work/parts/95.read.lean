-- ===== PURE: the calls that only read; the calls that are refused =====
def kth (p : Nat → Bool) (k : Nat) : Nat → Nat
  | 0 => 4294967295
  | n + 1 => if p n = true ∧ fb_ct p n = k then n else kth p k n
theorem kth_yes {p : Nat → Bool} {k x : Nat} (hx : p x = true) (hk : fb_ct p x = k) : ∀ n, x < n → kth p k n = x
  | 0, h => absurd h (by omega)
  | n + 1, h => by
    unfold kth
    by_cases z : n = x
    · rw [z, if_pos ⟨hx, hk⟩]
    · rw [if_neg]
      · exact kth_yes hx hk n (by omega)
      · rintro ⟨q1, q2⟩
        exact z (fb_ct_kth_one q1 hx (q2.trans hk.symm))
theorem kth_no {p : Nat → Bool} {k : Nat} : ∀ n, fb_ct p n ≤ k → kth p k n = 4294967295
  | 0, _ => rfl
  | n + 1, h => by
    unfold kth
    have h1 := fb_ct_mono p (show n ≤ n + 1 by omega)
    rw [if_neg, kth_no n (by omega)]
    rintro ⟨q1, q2⟩
    have := ct_lt q1 (show n < n + 1 by omega)
    omega
def aTrk (a : EVN) (k : Nat) : Nat := if k < a 1 3 % 4 then a 7 (a 1 3 - a 1 3 % 4 + k) else 4294967295
def aKd (a : EVN) (c w : Nat) : Nat := if w = 0 then aH a c else if w = 1 then a 5 c else a 6 c
def aSu (a : EVN) (p s w : Nat) : Nat := if w = 0 then aHd a p s else if w = 1 then aDl a p s else if w = 2 then a 8 (4 * p + s) else if w = 3 then a 10 (4 * p + s) else if w = 4 then aTr a p s else a 11 (4 * p + s)
def aLg (a : EVN) (k : Nat) : Nat := if a 0 5 = 2 then kth (aOk a) k 32 else 4294967295
def aAv (a : EVN) : Nat := if a 0 5 = 2 then aAd a else 4294967295
def aPo (a : EVN) (v p s rd : Nat) : Nat := aMs (aMay a v p s (if rd = 0 then 0 else a 10 (4 * p + s))) 9
section RR
variable {M : gMem} {S : SS} {B k s p w e c : Nat} {v v2 v3 y z : Int32} {a : EVN}
theorem p_legal (ho : aO a) (hp : a 0 5 = 2) (ht : a 0 6 < 4) (hk : k < 32) : f_Ev_playable e (aW M e a) (nI k) = some (nI (kth (aOk a) k 32)) := by
  have hf := aFw_lt ho.2.1 ho.2.2
  have key : ∀ (i : Nat), i < 32 → f_Ev_playable_s20 e (aW M e a) (nI k) (nI (aFw a)) (nI (fb_ct (aOk a) i)) (nI i) = if aOk a i = true ∧ fb_ct (aOk a) i = k then some (.inr (nI i)) else some (.inl (nI (fb_ct (aOk a) (i + 1)), nI (i + 1))) := by
    intro i hi
    unfold f_Ev_playable_s20
    have hh := aH_b ho.1 i
    have hc := fb_ct_le (aOk a) i
    have hb57 : aOk a i = true → f_Ev_playable_b57 e (aW M e a) (nI k) (nI (aFw a)) (nI (fb_ct (aOk a) i)) (nI i) = if aOk a i = true ∧ fb_ct (aOk a) i = k then some (.inr (nI i)) else some (.inl (nI (fb_ct (aOk a) (i + 1)), nI (i + 1))) := by
      intro h1
      unfold f_Ev_playable_b57 f_Ev_playable_b68
      by_cases q : fb_ct (aOk a) i = k
      · rw [if_pos (by rw [q]), if_pos ⟨h1, q⟩]
      · rw [if_neg (fun z => q ((z_inj (by omega) (by omega)).mp z)), if_neg (fun z => q z.2), nI_1, nI_1, ct_1 _ _ h1]
    have hb68 : ¬ aOk a i = true → f_Ev_playable_b68 e (aW M e a) (nI k) (nI (aFw a)) (nI (fb_ct (aOk a) i)) (nI i) = if aOk a i = true ∧ fb_ct (aOk a) i = k then some (.inr (nI i)) else some (.inl (nI (fb_ct (aOk a) (i + 1)), nI (i + 1))) := by
      intro h1
      unfold f_Ev_playable_b68
      rw [if_neg (fun z => h1 z.1), nI_1, ← ct_0 _ _ h1]
    rw [show (32 : Int32) = nI 32 from rfl, if_neg (nI_ge hi (by omega)), p_holder ho.1 hi, pB, aW_r]
    by_cases q : aH a i = a 0 6
    · rw [if_pos (by rw [q]), z_m1]
      rcases hf with q2 | ⟨q2, -⟩
      · rw [if_pos (show nI (aFw a) = nI 4294967295 by rw [q2])]
        exact hb57 (aOk_iff.mpr ⟨q, Or.inl q2⟩)
      · rw [if_neg (show ¬ nI (aFw a) = nI 4294967295 from fun z => by have := (z_inj (by omega) (by omega)).mp z; omega), show (8 : Int32) = nI 8 from rfl, z_div (by omega) (by omega) (by omega)]
        by_cases q3 : i / 8 = aFw a
        · rw [if_pos (show nI (i / 8) = nI (aFw a) by rw [q3])]
          exact hb57 (aOk_iff.mpr ⟨q, Or.inr q3⟩)
        · rw [if_neg (show ¬ nI (i / 8) = nI (aFw a) from fun z => q3 ((z_inj (by omega) (by omega)).mp z))]
          exact hb68 (fun z => by rcases (aOk_iff.mp z).2 with z2 | z2 <;> omega)
    · rw [if_neg (fun z => q ((z_inj hh (by omega)).mp z))]
      exact hb68 (fun z => q (aOk_iff.mp z).1)
  have cl : f_Ev_playable e (aW M e a) (nI k) = f_Ev_playable_l20 e (aW M e a) (nI k) (nI (aFw a)) (0, 0) := by
    unfold f_Ev_playable
    rw [aW_r, hp, if_pos (show nI 2 = 2 from rfl), p_suitToFollow ho.1 ho.2.1 ho.2.2 ht, pB]
  rw [cl]
  unfold f_Ev_playable_l20
  by_cases hk2 : k < fb_ct (aOk a) 32
  · obtain ⟨x, hx1, hx2, hx3⟩ := fb_ct_kth hk2
    have hno : ∀ i, i < x → ¬ (aOk a i = true ∧ fb_ct (aOk a) i = k) := by
      rintro i hi ⟨z1, z2⟩
      have := ct_lt z1 hi
      omega
    rw [kth_yes hx2 hx3 32 hx1]
    refine pFor0 (fun i => (nI (fb_ct (aOk a) i), nI i)) x rfl (fun i hi => ?_) (pLx ?_)
    · exact (key i (by omega)).trans (if_neg (hno i hi))
    · exact (key x hx1).trans (if_pos ⟨hx2, hx3⟩)
  · have hno : ∀ i, i < 32 → ¬ (aOk a i = true ∧ fb_ct (aOk a) i = k) := by
      rintro i hi ⟨z1, z2⟩
      have := ct_lt z1 hi
      omega
    rw [kth_no 32 (by omega)]
    refine pFor0 (fun i => (nI (fb_ct (aOk a) i), nI i)) 32 rfl (fun i hi => ?_) (pLx ?_)
    · exact (key i (by omega)).trans (if_neg (hno i hi))
    · show f_Ev_playable_s20 e (aW M e a) (nI k) (nI (aFw a)) _ (nI 32) = _
      unfold f_Ev_playable_s20
      rw [show (32 : Int32) = nI 32 from rfl, if_pos (nI_le (Nat.le_refl _) (by omega)), z_m1]
theorem DV.V (h : DV B S) : aV S.1 := h.1.1
theorem r_about (h : DI M S) (hV : DV B S) (hw : w < 12) : f_Law_call M 2 (nI w) y z = some (nI (aAb S.1 w), M) := by
  rw [k_call2]
  unfold f_Law_tryAbout f_DS_about
  have e := p_number (M := M) (e := 0) (a := S.1) (by have := hV.V.2.1.1; omega) hw
  rw [aW_self h.now] at e
  rw [show (11 : Int32) = nI 11 from rfl, k_what1 (by omega) (by omega)]
  show ((f_Ev_number 0 M (nI w)).bind fun q2 => some (Sum.inr q2)).bind _ = _
  rw [e]
  rfl
theorem x_about (h : v < 0 ∨ nI 12 ≤ v) : f_Law_call M 2 v y z = some (-9999002, M) := by
  rw [k_call2]
  unfold f_Law_tryAbout f_DS_about
  rw [show (11 : Int32) = nI 11 from rfl, k_what0 (by omega) h]
  rfl
theorem r_card (h : DI M S) (hV : DV B S) (hc : c < 32) (hw : w < 3) : f_Law_call M 3 (nI c) (nI w) z = some (nI (aKd S.1 c w), M) := by
  rw [k_call3]
  unfold f_Law_tryCard f_DS_cardOf
  rw [show (32 : Int32) = nI 32 from rfl, k_place1 (by omega) hc, show (2 : Int32) = nI 2 from rfl, k_what1 (by omega) (by omega)]
  show (if nI w = 0 then (f_Cards_holder 0 M (nI c)).bind fun q4 => some (Sum.inr q4) else if nI w = 1 then (f_Cards_dealtTo 0 M (nI c)).bind fun q6 => some (Sum.inr q6) else (f_Cards_playedAt 0 M (nI c)).bind fun q7 => some (Sum.inr q7) : Option (Nat ⊕ Int32)).bind _ = _
  have e1 := p_holder (M := M) (e := 0) hV.V.1 hc
  have e2 := p_dealtTo (M := M) (e := 0) (a := S.1) hc
  have e3 := p_playedAt (M := M) (e := 0) (a := S.1) hc
  rw [aW_self h.now] at e1 e2 e3
  rw [e1, e2, e3]
  unfold aKd
  rcases (show w = 0 ∨ w = 1 ∨ w = 2 by omega) with rfl | rfl | rfl
  · rw [if_pos (show nI 0 = 0 from rfl), if_pos rfl]; rfl
  · rw [if_neg (show ¬ nI 1 = 0 by decide), if_pos (show nI 1 = 1 from rfl), if_neg (show ¬ 1 = 0 by decide), if_pos rfl]; rfl
  · rw [if_neg (show ¬ nI 2 = 0 by decide), if_neg (show ¬ nI 2 = 1 by decide), if_neg (show ¬ 2 = 0 by decide), if_neg (show ¬ 2 = 1 by decide)]; rfl
theorem x_card1 (h : v < 0 ∨ nI 32 ≤ v) : f_Law_call M 3 v v2 z = some (-9999001, M) := by
  rw [k_call3]
  unfold f_Law_tryCard f_DS_cardOf
  rw [show (32 : Int32) = nI 32 from rfl, k_place0 (by omega) h]
  rfl
theorem x_card2 (hc : c < 32) (h : v2 < 0 ∨ nI 3 ≤ v2) : f_Law_call M 3 (nI c) v2 z = some (-9999002, M) := by
  rw [k_call3]
  unfold f_Law_tryCard f_DS_cardOf
  rw [show (32 : Int32) = nI 32 from rfl, k_place1 (by omega) hc, show (2 : Int32) = nI 2 from rfl, k_what0 (by omega) h]
  rfl
theorem r_told (h : DI M S) (hV : DV B S) (hp : p < 4) (hs4 : s < 4) (hw : w < 6) : f_Law_call M 4 (nI p) (nI s) (nI w) = some (nI (aSu S.1 p s w), M) := by
  rw [k_call4]
  have hG := hV.V
  have h11 : S.1 11 (4 * p + s) ≤ 1 := hG.2.2.2.1.2.2.2.2 _ (by omega)
  have e0 := p_held (M := M) (e := 0) (s := s) hG.1 hs4 (show p < 4294967296 by omega)
  have e1 := p_dealt (M := M) (e := 0) (s := s) hG.1 hs4 (show p < 4294967296 by omega)
  have e2 := p_count (M := M) (e := 0) (a := S.1) hp hs4
  have e3 := p_signal (M := M) (e := 0) (a := S.1) hp hs4
  have e4 := p_truth (M := M) (e := 0) hG.1 hp hs4
  have e5 := p_showedNone (M := M) (e := 0) hG.1 hp hs4
  rw [aW_self h.now] at e0 e1 e2 e3 e4 e5
  have cl : f_DS_suitOf M (nI p) (nI s) (nI w) = if nI w = 0 then (f_Cards_held 0 M (nI p) (nI s)).bind fun q5 => some (Sum.inr q5) else if nI w = 1 then (f_Cards_dealt 0 M (nI p) (nI s)).bind fun q7 => some (Sum.inr q7) else if nI w = 2 then (f_Drops_count 0 M (nI p) (nI s)).bind fun q9 => some (Sum.inr q9) else if nI w = 3 then (f_Drops_signal 0 M (nI p) (nI s)).bind fun q11 => some (Sum.inr q11) else if nI w = 4 then (f_Ev_truth 0 M (nI p) (nI s)).bind fun q13 => some (Sum.inr q13) else (f_Drops_showedNone 0 M (nI p) (nI s)).bind fun q14 => if q14 = 0 then some (Sum.inr 0) else some (Sum.inr 1) := by
    unfold f_DS_suitOf
    rw [show (4 : Int32) = nI 4 from rfl, k_place1 (by omega) hp, k_place1 (by omega) hs4, show (5 : Int32) = nI 5 from rfl, k_what1 (by omega) (by omega)]
    rfl
  rw [e0, e1, e2, e3, e4, e5] at cl
  unfold f_Law_tryTold aSu
  rcases (show w = 0 ∨ w = 1 ∨ w = 2 ∨ w = 3 ∨ w = 4 ∨ w = 5 by omega) with rfl | rfl | rfl | rfl | rfl | rfl
  · rw [cl, if_pos (by decide), if_pos rfl]; rfl
  · rw [cl, if_neg (by decide), if_pos (by decide), if_neg (by decide), if_pos rfl]; rfl
  · rw [cl, if_neg (by decide), if_neg (by decide), if_pos (by decide), if_neg (by decide), if_neg (by decide), if_pos rfl]; rfl
  · rw [cl, if_neg (by decide), if_neg (by decide), if_neg (by decide), if_pos (by decide), if_neg (by decide), if_neg (by decide), if_neg (by decide), if_pos rfl]; rfl
  · rw [cl, if_neg (by decide), if_neg (by decide), if_neg (by decide), if_neg (by decide), if_pos (by decide), if_neg (by decide), if_neg (by decide), if_neg (by decide), if_neg (by decide), if_pos rfl]; rfl
  · show _ = some (nI (S.1 11 (4 * p + s)), M)
    rw [cl, if_neg (by decide), if_neg (by decide), if_neg (by decide), if_neg (by decide), if_neg (by decide), pB]
    rcases (show S.1 11 (4 * p + s) = 0 ∨ S.1 11 (4 * p + s) = 1 by omega) with z | z <;> rw [z] <;> rfl
theorem x_told1 (h : v < 0 ∨ nI 4 ≤ v) : f_Law_call M 4 v v2 v3 = some (-9999001, M) := by
  rw [k_call4]
  unfold f_Law_tryTold f_DS_suitOf
  rw [show (4 : Int32) = nI 4 from rfl, k_place0 (by omega) h]
  rfl
theorem x_told2 (hp : p < 4) (h : v2 < 0 ∨ nI 4 ≤ v2) : f_Law_call M 4 (nI p) v2 v3 = some (-9999001, M) := by
  rw [k_call4]
  unfold f_Law_tryTold f_DS_suitOf
  rw [show (4 : Int32) = nI 4 from rfl, k_place1 (by omega) hp, k_place0 (by omega) h]
  rfl
theorem x_told3 (hp : p < 4) (hs : s < 4) (h : v3 < 0 ∨ nI 6 ≤ v3) : f_Law_call M 4 (nI p) (nI s) v3 = some (-9999002, M) := by
  rw [k_call4]
  unfold f_Law_tryTold f_DS_suitOf
  rw [show (4 : Int32) = nI 4 from rfl, k_place1 (by omega) hp, k_place1 (by omega) hs, show (5 : Int32) = nI 5 from rfl, k_what0 (by omega) h]
  rfl
theorem r_trick (h : DI M S) (hV : DV B S) (hw : w < 4) : f_Law_call M 5 (nI w) y z = some (nI (aTrk S.1 w), M) := by
  rw [k_call5]
  unfold f_Law_tryTrick f_DS_trick aTrk
  have e := p_inTrick (M := M) (e := 0) hV.V.O.2.1 hw
  rw [aW_self h.now] at e
  rw [show (4 : Int32) = nI 4 from rfl, k_place1 (by omega) hw]
  show ((f_Cards_inTrick 0 M (nI w)).bind fun q2 => some (Sum.inr q2)).bind _ = _
  rw [e]
  rfl
theorem x_trick (h : v < 0 ∨ nI 4 ≤ v) : f_Law_call M 5 v y z = some (-9999001, M) := by
  rw [k_call5]
  unfold f_Law_tryTrick f_DS_trick
  rw [show (4 : Int32) = nI 4 from rfl, k_place0 (by omega) h]
  rfl
theorem r_legal (h : DI M S) (hV : DV B S) (hw : w < 8) : f_Law_call M 10 (nI w) y z = some (nI (aLg S.1 w), M) := by
  rw [k_call10]
  have hG := hV.V
  have h5 : S.1 0 5 < 4294967296 := by have := hG.2.1.1; omega
  unfold f_Law_tryLegal f_DS_legal aLg
  rw [show (8 : Int32) = nI 8 from rfl, k_place1 (by omega) hw]
  show ((f_Ev_playable 0 M (nI w)).bind fun q2 => some (Sum.inr q2)).bind _ = _
  by_cases q : S.1 0 5 = 2
  · have e := p_legal (M := M) (e := 0) (k := w) hG.O q (hG.2.1.2.1 (Or.inr q)) (by omega)
    rw [aW_self h.now] at e
    rw [e, if_pos q]
    rfl
  · have e := p_playable0 (M := M) (e := 0) h5 q (nI w)
    rw [aW_self h.now] at e
    rw [e, if_neg q]
    rfl
theorem x_legal (h : v < 0 ∨ nI 8 ≤ v) : f_Law_call M 10 v y z = some (-9999001, M) := by
  rw [k_call10]
  unfold f_Law_tryLegal f_DS_legal
  rw [show (8 : Int32) = nI 8 from rfl, k_place0 (by omega) h]
  rfl
theorem r_advice (h : DI M S) (hV : DV B S) : f_DS_advice M = some (nI (aAv S.1)) := by
  have hG := hV.V
  have h5 : S.1 0 5 < 4294967296 := by have := hG.2.1.1; omega
  unfold f_DS_advice aAv
  by_cases q : S.1 0 5 = 2
  · have e := p_advised (M := M) (e := 0) hG.O hG.2.2.2.1.1 q (hG.2.1.2.1 (Or.inr q))
    rw [aW_self h.now] at e
    rw [e, if_pos q]
    rfl
  · have e := p_advised0 (M := M) (e := 0) h5 q
    rw [aW_self h.now] at e
    rw [e, if_neg q]
    rfl
theorem may_cl {rd : Int32} (hw : w < 4) (hp : p < 4) (hs : s < 4) : f_DS_mayHave M (nI w) (nI p) (nI s) rd = if nI w = nI p then some (.inl 1) else gSq (f_DS_checkInPlay M) fun q4 => (f_Ev_possible 0 M (nI w) (nI p) (nI s) rd).bind fun q5 => some (.inr q5) := by
  unfold f_DS_mayHave
  rw [show (4 : Int32) = nI 4 from rfl, k_place1 (by omega) hw, k_place1 (by omega) hp, k_place1 (by omega) hs]
  rfl
theorem r_may {rd : Nat} (h : DI M S) (hV : DV B S) (h2 : S.1 0 5 = 2) (hw : w < 4) (hp : p < 4) (hs : s < 4) (hwp : w ≠ p) (hrd : rd ≤ 1) : f_Law_may M (nI w) (nI p) (nI s) (nI rd) = some (nI (aPo S.1 w p s rd), M) := by
  have hG := hV.V
  have h10 : S.1 10 (4 * p + s) ≤ 2 := hG.2.2.2.1.2.2.2.1 _ (by omega)
  have h11 : ∀ q, q < 4 → S.1 11 (4 * q + s) ≤ 1 := fun q hq => hG.2.2.2.1.2.2.2.2 _ (by omega)
  have e := p_possible (M := M) (e := 0) hG.1 hw hp hs hrd h10 h11
  rw [aW_self h.now] at e
  unfold f_Law_may aPo
  rw [may_cl hw hp hs, if_neg (z_ne (by omega) (by omega) hwp)]
  unfold f_DS_checkInPlay
  rw [show M 0 0 5 = nI (S.1 0 5) from by rw [h.now]; rfl, h2, if_pos (show nI 2 = 2 from rfl), e]
  rfl
theorem x_may1 {rd : Int32} (h : v < 0 ∨ nI 4 ≤ v) : f_Law_may M v v2 v3 rd = some (-9999001, M) := by
  unfold f_Law_may f_DS_mayHave
  rw [show (4 : Int32) = nI 4 from rfl, k_place0 (by omega) h]
  rfl
theorem x_may2 {rd : Int32} (hw : w < 4) (h : v2 < 0 ∨ nI 4 ≤ v2) : f_Law_may M (nI w) v2 v3 rd = some (-9999001, M) := by
  unfold f_Law_may f_DS_mayHave
  rw [show (4 : Int32) = nI 4 from rfl, k_place1 (by omega) hw, k_place0 (by omega) h]
  rfl
theorem x_may3 {rd : Int32} (hw : w < 4) (hp : p < 4) (h : v3 < 0 ∨ nI 4 ≤ v3) : f_Law_may M (nI w) (nI p) v3 rd = some (-9999001, M) := by
  unfold f_Law_may f_DS_mayHave
  rw [show (4 : Int32) = nI 4 from rfl, k_place1 (by omega) hw, k_place1 (by omega) hp, k_place0 (by omega) h]
  rfl
theorem x_may4 {rd : Int32} (hw : w < 4) (hs : s < 4) : f_Law_may M (nI w) (nI w) (nI s) rd = some (-9999002, M) := by
  unfold f_Law_may
  rw [may_cl hw hw hs, if_pos rfl]
  rfl
theorem x_may5 {rd : Int32} (h : DI M S) (hV : DV B S) (h2 : S.1 0 5 ≠ 2) (hw : w < 4) (hp : p < 4) (hs : s < 4) (hwp : w ≠ p) : f_Law_may M (nI w) (nI p) (nI s) rd = some (-9999003, M) := by
  have h5 := hV.V.2.1.1
  unfold f_Law_may
  rw [may_cl hw hp hs, if_neg (z_ne (by omega) (by omega) hwp)]
  unfold f_DS_checkInPlay
  rw [show M 0 0 5 = nI (S.1 0 5) from by rw [h.now]; rfl, if_neg (show ¬ nI (S.1 0 5) = 2 from z_ne (y := 2) (by omega) (by omega) h2)]
  rfl
end RR
