-- ===== PURE: the model's search, its pile =====
def cpy (W : gMem) (c0 c1 i j : Nat) : Nat → Int32 := fun x => if j ≤ x ∧ x < j + 197 then W 19 c0 (i + (x - j)) else W 19 c1 x
def RMI (W : gMem) (c d : Nat) (a : Nat → Nat → Nat) : Prop := ∃ r, RM a r ∧ ∀ j, j < 197 → W 19 c (197 * d + j) = nI (r j)
def BL (W W' : gMem) (d : Nat) : Prop := (∀ j, j < 197 * d → W' 19 5 j = W 19 5 j) ∧ (∀ e, e < d → W' 19 6 e = W 19 6 e ∧ W' 19 7 e = W 19 7 e) ∧ ∀ g c, ¬ (g = 19 ∧ (c = 4 ∨ c = 5 ∨ c = 6 ∨ c = 7)) → W' g c = W g c
theorem BL.rf (W : gMem) (d : Nat) : BL W W d := ⟨fun _ _ => rfl, fun _ _ => ⟨rfl, rfl⟩, fun _ _ _ => rfl⟩
theorem BL.tr {W W' W2 : gMem} {d d2 : Nat} (h : BL W W' d) (h2 : BL W' W2 d2) (hd : d ≤ d2) : BL W W2 d := ⟨fun j hj => (h2.1 j (by omega)).trans (h.1 j hj), fun e he => ⟨(h2.2.1 e (by omega)).1.trans (h.2.1 e he).1, (h2.2.1 e (by omega)).2.trans (h.2.1 e he).2⟩, fun g c z => (h2.2.2 g c z).trans (h.2.2 g c z)⟩
def b0 (a : Nat → Nat → Nat) (sd : Nat) : Nat := if a 0 5 = 2 then (if a 0 6 % 2 = sd then 4294967295 else 99) else a 3 sd
def cmb (own : Bool) (b v : Nat) : Nat := if own then (if b = 4294967295 ∨ b < v then v else b) else (if v < b then v else b)
def GF (own : Bool) (f : Nat → Nat) (ok : Nat → Bool) : Nat → Nat
  | 0 => if own then 4294967295 else 99
  | k + 1 => if ok k = true then cmb own (GF own f ok k) (f k) else GF own f ok k
theorem GF_min {f : Nat → Nat} {ok : Nat → Bool} : ∀ k, GF false f ok k = mnF f ok k
  | 0 => rfl
  | k + 1 => by
    unfold GF mnF
    rw [GF_min k]
    by_cases z : ok k = true
    · rw [if_pos z, if_pos z]
      rfl
    · rw [if_neg z, if_neg z]
theorem GF_max {f : Nat → Nat} {ok : Nat → Bool} (hf : ∀ k, k < 32 → ok k = true → f k ≤ 99) : ∀ k, k ≤ 32 → ((∃ c, c < k ∧ ok c = true) → GF true f ok k = mxF f ok k ∧ mxF f ok k ≤ 99) ∧ ((¬ ∃ c, c < k ∧ ok c = true) → GF true f ok k = 4294967295 ∧ mxF f ok k = 0)
  | 0, _ => ⟨fun ⟨c, hc, _⟩ => absurd hc (by omega), fun _ => ⟨rfl, rfl⟩⟩
  | k + 1, hk => by
    obtain ⟨h1, h2⟩ := GF_max hf k (by omega)
    unfold GF mxF cmb
    by_cases z : ok k = true
    · rw [if_pos z, if_pos z, if_pos rfl]
      have hz := hf k (by omega) z
      refine ⟨fun _ => ?_, fun q => absurd ⟨k, by omega, z⟩ q⟩
      by_cases w : ∃ c, c < k ∧ ok c = true
      · obtain ⟨e1, e2⟩ := h1 w
        rw [e1]
        by_cases y : mxF f ok k < f k
        · rw [if_pos (Or.inr y), if_pos y]
          exact ⟨rfl, hz⟩
        · rw [if_neg (show ¬ (mxF f ok k = 4294967295 ∨ mxF f ok k < f k) by omega), if_neg y]
          exact ⟨rfl, e2⟩
      · obtain ⟨e1, e2⟩ := h2 w
        rw [e1, if_pos (Or.inl rfl), e2]
        by_cases y : 0 < f k
        · rw [if_pos y]; exact ⟨rfl, hz⟩
        · rw [if_neg y]; exact ⟨by omega, by omega⟩
    · rw [if_neg z, if_neg z]
      have ex : (∃ c, c < k + 1 ∧ ok c = true) ↔ ∃ c, c < k ∧ ok c = true := by
        constructor
        · rintro ⟨c, c1, c2⟩
          have : c ≠ k := fun q => z (q ▸ c2)
          exact ⟨c, by omega, c2⟩
        · rintro ⟨c, c1, c2⟩
          exact ⟨c, by omega, c2⟩
      rw [ex]
      exact ⟨h1, h2⟩
section SE
variable {M W W' : gMem} {a a' : Nat → Nat → Nat} {r : Nat → Nat} {c d sd n x y dep b v : Nat}
theorem q_cp {c0 n0 c1 n1 i j : Nat} (hc : c0 ≠ c1) (hi : i + 197 ≤ n0) (hj : j + 197 ≤ n1) (h0 : n0 < 2 ^ 31) (h1 : n1 < 2 ^ 31) : f_Mo_copyState 19 c0 n0 19 c1 n1 W (nI i) (nI j) = some (gUp W 19 c1 (cpy W c0 c1 i j)) := by
  have e := q_copy (M := W) (c0 := c0) (n0 := n0) (c1 := c1) (n1 := n1) (i := i) (j := j) (f := fun x => (W 19 c0 x).toBitVec.toNat) (r := fun x => (W 19 c1 x).toBitVec.toNat) hc (funext fun x => z_of _) hi hj h0 h1
  rw [rW_self (funext fun x => z_of _)] at e
  rw [e]
  unfold rW
  refine congrArg (fun z => some (gUp W 19 c1 z)) (funext fun x => ?_)
  unfold rCp cpy
  split <;> exact (z_of _).symm
/-- a row of the pile becomes the line -/
theorem q_line (h : RMI W 5 d a) (hV : aV a) (hd : d ≤ 13) : ∃ W1 r, f_Mo_copyState 19 5 2758 19 4 197 W (nI (197 * d)) 0 = some W1 ∧ W1 19 4 = (fun j => nI (r j)) ∧ RM a r ∧ (∀ g c, ¬ (g = 19 ∧ c = 4) → W1 g c = W g c) := by
  obtain ⟨r, hR, hr⟩ := h
  refine ⟨_, fun j => if j < 197 then r j else (W 19 4 j).toBitVec.toNat, q_cp (i := 197 * d) (j := 0) (by omega) (by omega) (by omega) (by omega) (by omega), ?_, RM_cong hV.O.2.1 (fun j hj => if_pos hj) hR, fun g c z => gUp_n _ _ z⟩
  rw [gUp_s]
  funext j
  unfold cpy
  by_cases z : j < 197
  · rw [if_pos (by omega), show 197 * d + (j - 0) = 197 * d + j by omega]
    dsimp only
    rw [if_pos z]
    exact hr j z
  · rw [if_neg (by omega)]
    dsimp only
    rw [if_neg z]
    exact z_of _
theorem q_push (hc : c ≠ 5) (hc6 : c ≠ 6 ∧ c ≠ 7) (h2 : W 19 c = fun j => nI (r j)) (hR : RM a r) (hV : aV a) (hs : sd < 2) (hd : d ≤ 13) : ∃ W', f_Mo_push 19 c 197 W (nI d) (nI sd) = some W' ∧ RMI W' 5 d a ∧ W' 19 6 d = nI 0 ∧ W' 19 7 d = nI (b0 a sd) ∧ BL W W' d ∧ ∀ g c, ¬ (g = 19 ∧ (c = 5 ∨ c = 6 ∨ c = 7)) → W' g c = W g c := by
  obtain ⟨W1, hW1⟩ : ∃ W1, W1 = gUp W 19 5 (cpy W c 5 0 (197 * d)) := ⟨_, rfl⟩
  obtain ⟨W2, hW2⟩ : ∃ W2, W2 = gUp W1 19 6 (upd (W1 19 6) d 0) := ⟨_, rfl⟩
  obtain ⟨W3, hW3⟩ : ∃ W3, W3 = gUp W2 19 7 (upd (W2 19 7) d (nI (b0 a sd))) := ⟨_, rfl⟩
  have h53 := hV.2.1.1
  have o2 : W2 19 c = fun j => nI (r j) := by rw [hW2, gUp_n _ _ (by omega), hW1, gUp_n _ _ (by omega)]; exact h2
  have o : ∀ g c, ¬ (g = 19 ∧ (c = 5 ∨ c = 6 ∨ c = 7)) → W3 g c = W g c := fun g c z => by rw [hW3, gUp_n _ _ (by omega), hW2, gUp_n _ _ (by omega), hW1, gUp_n _ _ (by omega)]
  have p5 : W3 19 5 = cpy W c 5 0 (197 * d) := by rw [hW3, gUp_n _ _ (by omega), hW2, gUp_n _ _ (by omega), hW1, gUp_s]
  have p6 : ∀ e, W3 19 6 e = if e = d then 0 else W 19 6 e := fun e => by
    rw [hW3, gUp_n _ _ (by omega), hW2, gUp_s, hW1, gUp_n _ _ (by omega)]
    rfl
  have p7 : ∀ e, W3 19 7 e = if e = d then nI (b0 a sd) else W 19 7 e := fun e => by
    rw [hW3, gUp_s, hW2, gUp_n _ _ (by omega), hW1, gUp_n _ _ (by omega)]
    rfl
  refine ⟨W3, ?_, ⟨r, hR, fun j hj => ?_⟩, ?_, ?_, ⟨fun j hj => ?_, fun e he => ⟨?_, ?_⟩, fun g c z => o g c (by omega)⟩, o⟩
  · unfold f_Mo_push f_Mo_push_b56
    have wr : gWr W2 19 7 14 (nI d) (nI (b0 a sd)) = some W3 := by rw [pWr _ _ _ _ (by omega) (by omega), ← hW3]
    rw [show (197 : Int32) = nI 197 from rfl, pk_mul, show f_Mo_copyState 19 c 197 19 5 2758 W 0 (nI (197 * d)) = some (gUp W 19 5 (cpy W c 5 0 (197 * d))) from q_cp (i := 0) (j := 197 * d) hc (by omega) (by omega) (by omega) (by omega), pB, ← hW1, pWr _ _ _ _ (by omega) (by omega), pB, ← hW2, o2, show gRd 197 (fun j => nI (r j)) 1 = some (nI (r 1)) from pRd _ (show 1 < 197 by omega) (by omega), pB, hR.r1]
    unfold b0 at wr
    by_cases z : a 0 5 = 2
    · rw [if_pos (by rw [z]; rfl), show gRd 197 (fun j => nI (r j)) 2 = some (nI (r 2)) from pRd _ (show 2 < 197 by omega) (by omega), pB, hR.r2 (Or.inr z)]
      have ht := hV.2.1.2.1 (Or.inr z)
      rw [if_pos z] at wr
      rw [show gRem (nI (a 0 6)) 2 = nI (a 0 6 % 2) from z_rem (d := 2) (by omega) (by omega) (by omega)]
      by_cases w : a 0 6 % 2 = sd
      · rw [if_pos w] at wr
        rw [if_pos (by rw [w]), z_m1, wr, pB]
      · rw [if_neg w] at wr
        rw [if_neg (z_ne (by omega) (by omega) w), show (99 : Int32) = nI 99 from rfl, wr, pB]
    · rw [if_neg z] at wr
      have e5 : r (5 + sd) = a 3 sd := by
        rcases (show sd = 0 ∨ sd = 1 by omega) with k | k <;> rw [k]
        · exact hR.1.2.2.2.2.2.1
        · exact hR.1.2.2.2.2.2.2.1
      rw [if_neg (show ¬ nI (a 0 5) = 2 from z_ne (y := 2) (by omega) (by omega) z), show (5 : Int32) = nI 5 from rfl, nI_add, pRd _ (show 5 + sd < 197 by omega) (by omega), pB, e5, wr, pB]
  · rw [p5]
    unfold cpy
    rw [if_pos (by omega), h2]
    dsimp only
    congr 2
    omega
  · rw [p6, if_pos rfl]
    rfl
  · rw [p7, if_pos rfl]
  · rw [p5]
    unfold cpy
    rw [if_neg (by omega)]
  · rw [p6, if_neg (by omega)]
  · rw [p7, if_neg (by omega)]
theorem q_next (h4 : W 19 4 = fun j => nI (r j)) (hR : RM a r) (hV : aV a) (hp : a 0 5 = 2) : ∀ m x, x + m = 32 → ∃ y, x ≤ y ∧ y ≤ 32 ∧ (∀ c, x ≤ c → c < y → ¬ aOk a c = true) ∧ (y < 32 → aOk a y = true) ∧ f_Mo_nextLegal 19 4 197 W (nI x) = some (nI y) := by
  intro m
  induction m with
  | zero =>
    intro x hx
    refine ⟨x, by omega, by omega, fun c h1 h2 => absurd h2 (by omega), fun h => absurd h (by omega), ?_⟩
    unfold f_Mo_nextLegal f_Mo_nextLegal_l2
    refine pLx ?_
    show f_Mo_nextLegal_s2 19 4 197 W (nI x) = _
    unfold f_Mo_nextLegal_s2 f_Mo_nextLegal_b22
    rw [show (32 : Int32) = nI 32 from rfl, if_pos (nI_le (by omega) (by omega))]
    rfl
  | succ m ih =>
    intro x hx
    have e := q_reason (M := W) (k := 4) hR hV.O (Or.inr hp) (hV.2.1.2.1 (Or.inr hp)) (show x < 32 by omega)
    rw [rW_self h4] at e
    have hle := aRs_le a x
    have s : f_Mo_nextLegal_s2 19 4 197 W (nI x) = if aOk a x = true then some (.inr (nI x)) else some (.inl (nI (x + 1))) := by
      unfold f_Mo_nextLegal_s2 f_Mo_nextLegal_b22
      rw [show (32 : Int32) = nI 32 from rfl, if_neg (nI_ge (by omega) (by omega)), e, pB, nI_1]
      by_cases z : aRs a x = 0
      · rw [if_pos (by rw [z]; rfl), if_pos (ok_rs.mpr z)]
        rfl
      · rw [if_neg (show ¬ nI (aRs a x) = 0 from z_ne (y := 0) (by omega) (by omega) z), if_neg (fun q => z (ok_rs.mp q))]
    by_cases z : aOk a x = true
    · rw [if_pos z] at s
      exact ⟨x, by omega, by omega, fun c h1 h2 => absurd h2 (by omega), fun _ => z, pLx (step := fun s => f_Mo_nextLegal_s2 19 4 197 W s) (s := nI x) s⟩
    · rw [if_neg z] at s
      obtain ⟨y, y1, y2, y3, y4, y5⟩ := ih (x + 1) (by omega)
      refine ⟨y, by omega, y2, fun c h1 h2 => ?_, y4, (pLp (step := fun s => f_Mo_nextLegal_s2 19 4 197 W s) (s := nI x) s).trans y5⟩
      by_cases w : c = x
      · rw [w]; exact z
      · exact y3 c (by omega) h2
/-- a node that has been gone through -/
def DN (W : gMem) (d : Nat) (a : Nat → Nat → Nat) : Prop := a 0 5 ≠ 2 ∨ ∃ x, x ≤ 32 ∧ W 19 6 d = nI x ∧ ∀ c, x ≤ c → c < 32 → ¬ aOk a c = true
/-- the step at a node that has been gone through: up to the node below it, or to the end -/
theorem q_doneStep {c0 : Nat} (h : RMI W 5 d a) (hV : aV a) (hd : d ≤ 13) (hD : DN W d a) : ∃ W1, (∀ g c, ¬ (g = 19 ∧ c = 4) → W1 g c = W g c) ∧ f_Mo_searched_s9 19 c0 197 W (nI sd) (nI d) = f_Mo_searched_b58 19 c0 197 W1 (nI sd) (nI d) 32 := by
  obtain ⟨W1, r, e1, e4, hR, o⟩ := q_line h hV hd
  have h53 := hV.2.1.1
  refine ⟨W1, o, ?_⟩
  unfold f_Mo_searched_s9
  rw [if_neg (nI_pos (by omega)), show (197 : Int32) = nI 197 from rfl, pk_mul, e1, pB, e4, show gRd 197 (fun j => nI (r j)) 1 = some (nI (r 1)) from pRd _ (show 1 < 197 by omega) (by omega), pB, hR.r1]
  by_cases z : a 0 5 = 2
  · obtain ⟨x, x1, x2, x3⟩ := hD.resolve_left (fun q => q z)
    obtain ⟨y, y1, y2, y3, y4, y5⟩ := q_next e4 hR hV z (32 - x) x (by omega)
    have : y = 32 := by
      refine Decidable.of_not_not (fun q => ?_)
      exact x3 y y1 (by omega) (y4 (by omega))
    rw [this] at y5
    rw [if_pos (by rw [z]; rfl), o 19 6 (by omega), pRd _ (by omega) (by omega), pB, x2, y5, pB]
    rfl
  · rw [if_neg (show ¬ nI (a 0 5) = 2 from z_ne (y := 2) (by omega) (by omega) z)]
theorem q_pop {c0 : Nat} (hs : sd < 2) (hV : aV a) (hp : a 0 5 = 2) (hV' : aV a') (hd : dep ≤ 12) (h : RMI W 5 dep a) (h' : RMI W 5 (dep + 1) a') (hD : DN W (dep + 1) a') (hv : W 19 7 (dep + 1) = nI v) (hv2 : v ≤ 98) (hb : W 19 7 dep = nI b) (hb2 : b = 4294967295 ∧ a 0 6 % 2 = sd ∨ b ≤ 99) : ∃ W', f_Mo_searched_s9 19 c0 197 W (nI sd) (nI (dep + 1)) = some (.inl (nI dep, W')) ∧ W' 19 7 dep = nI (cmb (decide (a 0 6 % 2 = sd)) b v) ∧ BL W W' dep ∧ W' 19 5 = W 19 5 ∧ W' 19 6 = W 19 6 := by
  obtain ⟨W1, o, e⟩ := q_doneStep (c0 := c0) (sd := sd) h' hV' (by omega) hD
  obtain ⟨r, hR, hr⟩ := h
  have ht := hV.2.1.2.1 (Or.inr hp)
  have t2 : W1 19 5 (197 * dep + 2) = nI (a 0 6) := by rw [o 19 5 (by omega), hr 2 (by omega), hR.r2 (Or.inr hp)]
  have e1 : nI (dep + 1) + -1 = nI dep := pk_m1 dep
  have b7 : W1 19 7 = W 19 7 := o 19 7 (by omega)
  have b7d : W1 19 7 dep = nI b := (congrFun b7 dep).trans hb
  have b7e : W1 19 7 (dep + 1) = nI v := (congrFun b7 (dep + 1)).trans hv
  refine ⟨gUp W1 19 7 (upd (W1 19 7) dep (nI (cmb (decide (a 0 6 % 2 = sd)) b v))), ?_, by rw [gUp_s, pk_us], ⟨fun j hj => ?_, fun e he => ⟨?_, ?_⟩, fun g c z => ?_⟩, by rw [gUp_n _ _ (by omega), o 19 5 (by omega)], by rw [gUp_n _ _ (by omega), o 19 6 (by omega)]⟩
  · rw [e]
    have wr : ∀ u : Nat, u = cmb (decide (a 0 6 % 2 = sd)) b v → ∀ x1, f_Mo_searched_b192 19 c0 197 W1 x1 (nI dep) (nI u) (nI dep) = some (.inl (nI dep, gUp W1 19 7 (upd (W1 19 7) dep (nI (cmb (decide (a 0 6 % 2 = sd)) b v))))) := by
      intro u hu x1
      unfold f_Mo_searched_b192 f_Mo_searched_b193
      rw [hu, pWr _ _ _ _ (by omega) (by omega), pB]
    have keep : cmb (decide (a 0 6 % 2 = sd)) b v = b → ∀ x1, f_Mo_searched_b186 19 c0 197 W1 x1 (nI dep) (nI dep) = some (.inl (nI dep, gUp W1 19 7 (upd (W1 19 7) dep (nI (cmb (decide (a 0 6 % 2 = sd)) b v))))) := by
      intro hu x1
      unfold f_Mo_searched_b186
      rw [pRd _ (by omega) (by omega), pB, b7d]
      exact wr b hu.symm x1
    unfold f_Mo_searched_b58
    rw [if_pos (by decide), e1, if_neg (nI_pos (by omega)), show (197 : Int32) = nI 197 from rfl, pk_mul, show nI (197 * dep) + 2 = nI (197 * dep + 2) from nI_add _ 2, pRd _ (by omega) (by omega), pB, t2, show gRem (nI (a 0 6)) 2 = nI (a 0 6 % 2) from z_rem (d := 2) (by omega) (by omega) (by omega)]
    have c132 : ∀ s0 : Int32, f_Mo_searched_b132 19 c0 197 W1 (nI sd) (nI dep) s0 = if nI v ≤ nI b then f_Mo_searched_b167 19 c0 197 W1 (nI sd) (nI dep) (nI v) 0 s0 (nI dep) else f_Mo_searched_b167 19 c0 197 W1 (nI sd) (nI dep) (nI v) 1 s0 (nI dep) := fun s0 => by
      unfold f_Mo_searched_b132
      rw [nI_1, pRd _ (by omega) (by omega), pB, pRd _ (by omega) (by omega), pB, b7e, b7d]
    by_cases w : a 0 6 % 2 = sd
    · rw [if_pos (by rw [w]), c132]
      by_cases g : b = 4294967295 ∨ b < v
      · have ec : cmb (decide (a 0 6 % 2 = sd)) b v = v := by unfold cmb; rw [decide_eq_true w, if_pos rfl, if_pos g]
        rw [if_neg (show ¬ nI v ≤ nI b by
          rcases g with g | g
          · rw [g]; exact z_nleN (by omega)
          · exact nI_ge g (by omega))]
        unfold f_Mo_searched_b167
        rw [if_pos rfl, pRd _ (by omega) (by omega), pB, b7d, if_neg (z_ne (by omega) (by omega) (by omega))]
        exact wr v ec.symm _
      · have ec : cmb (decide (a 0 6 % 2 = sd)) b v = b := by unfold cmb; rw [decide_eq_true w, if_pos rfl, if_neg g]
        rw [if_pos (nI_le (by omega) (by omega))]
        unfold f_Mo_searched_b167
        rw [if_neg (by decide)]
        exact keep ec _
    · have hb3 : b ≤ 99 := by rcases hb2 with q | q; exact absurd q.2 w; exact q
      rw [if_neg (z_ne (by omega) (by omega) w), c132]
      by_cases g : v < b
      · have ec : cmb (decide (a 0 6 % 2 = sd)) b v = v := by unfold cmb; rw [decide_eq_false w, if_neg (by decide), if_pos g]
        rw [if_pos (nI_le (by omega) (by omega))]
        unfold f_Mo_searched_b167
        rw [if_pos rfl, pRd _ (by omega) (by omega), pB, b7d, if_neg (z_ne (by omega) (by omega) (by omega))]
        exact wr v ec.symm _
      · have ec : cmb (decide (a 0 6 % 2 = sd)) b v = b := by unfold cmb; rw [decide_eq_false w, if_neg (by decide), if_neg g]
        by_cases g2 : v = b
        · rw [if_pos (nI_le (by omega) (by omega))]
          unfold f_Mo_searched_b167
          rw [if_pos rfl, pRd _ (by omega) (by omega), pB, b7d, if_pos (by rw [g2])]
          exact keep ec _
        · rw [if_neg (nI_ge (by omega) (by omega))]
          unfold f_Mo_searched_b167
          rw [if_neg (by decide)]
          exact keep ec _
  · rw [gUp_n _ _ (by omega), o 19 5 (by omega)]
  · rw [gUp_n _ _ (by omega), o 19 6 (by omega)]
  · rw [gUp_s, pk_un (by omega), b7]
  · rw [gUp_n _ _ (by omega), o g c (by omega)]
end SE
