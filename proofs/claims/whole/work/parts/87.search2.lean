-- ===== PURE: the model's search, whole =====
theorem GF_skip {own : Bool} {f : Nat → Nat} {ok : Nat → Bool} {x : Nat} : ∀ m, (∀ c, x ≤ c → c < x + m → ¬ ok c = true) → GF own f ok (x + m) = GF own f ok x
  | 0, _ => rfl
  | m + 1, h => by
    show (if ok (x + m) = true then cmb own (GF own f ok (x + m)) (f (x + m)) else GF own f ok (x + m)) = _
    rw [if_neg (h (x + m) (by omega) (by omega))]
    exact GF_skip m (fun c h1 h2 => h c h1 (by omega))
theorem GF_b {own : Bool} {f : Nat → Nat} {ok : Nat → Bool} (hf : ∀ k, k < 32 → ok k = true → f k ≤ 98) : ∀ k, k ≤ 32 → (GF own f ok k = 4294967295 ∧ own = true) ∨ GF own f ok k ≤ 99
  | 0, _ => by
    unfold GF
    cases own
    · right; decide
    · left; exact ⟨rfl, rfl⟩
  | k + 1, hk => by
    have ih := GF_b (own := own) hf k (by omega)
    unfold GF
    by_cases z : ok k = true
    · rw [if_pos z]
      have := hf k (by omega) z
      right
      unfold cmb
      cases own
      · rcases ih with ⟨-, q⟩ | q
        · exact absurd q (by decide)
        · rw [if_neg (by decide)]
          split <;> omega
      · rw [if_pos rfl]
        split <;> omega
    · rw [if_neg z]
      exact ih
section SW
variable {W W' : gMem} {a : Nat → Nat → Nat} {r : Nat → Nat} {sd n c0 : Nat}
theorem TS_98 (hs : sd < 2) (hV : aV a) (hp : a 0 5 = 2) (hn : a 1 3 + (n + 1) = 32) : ∀ c, c < 32 → aOk a c = true → TS sd n (aLay a c) ≤ 98 := by
  intro c hc ho
  have hr := ok_rs.mp ho
  have h1 := lay_ph hV hp hc
  have hV' := aV_lay hV hp hc hr
  have := TS_b hs n (aLay a c) hV' (by omega)
  have h11 := hV'.2.1.2.2.2.2.2.2.2.2.2.2
  have h10 := hV'.2.1.2.2.2.2.2.2.2.2.2.1
  rcases (show sd = 0 ∨ sd = 1 by omega) with rfl | rfl <;> omega
theorem GF_TS (hs : sd < 2) (hV : aV a) (hp : a 0 5 = 2) (hn : a 1 3 + (n + 1) = 32) : GF (decide (a 0 6 % 2 = sd)) (fun c => TS sd n (aLay a c)) (aOk a) 32 = TS sd (n + 1) a := by
  have hb := TS_98 hs hV hp hn
  show _ = (if a 0 6 % 2 = sd then _ else _)
  by_cases z : a 0 6 % 2 = sd
  · rw [if_pos z, decide_eq_true z]
    exact (((GF_max (f := fun c => TS sd n (aLay a c)) (fun k hk ho => by have := hb k hk ho; show TS sd n (aLay a k) ≤ 99; omega)) 32 (Nat.le_refl 32)).1 (ok_ex hV hp)).1
  · rw [if_neg z, decide_eq_false z]
    exact GF_min 32
theorem RMI.st {d : Nat} (h : RMI W 5 d a) (hs : ∀ j, j < 197 * (d + 1) → W' 19 5 j = W 19 5 j) : RMI W' 5 d a := by
  obtain ⟨r, h1, h2⟩ := h
  exact ⟨r, h1, fun j hj => (hs _ (by omega)).trans (h2 j hj)⟩
theorem srch (hs : sd < 2) : ∀ n dep (a : Nat → Nat → Nat), aV a → a 0 5 = 2 → a 1 3 + (n + 1) = 32 → dep + n ≤ 12 → ∀ m x W, 32 ≤ x + m → x ≤ 32 → RMI W 5 dep a → W 19 6 dep = nI x → W 19 7 dep = nI (GF (decide (a 0 6 % 2 = sd)) (fun c => TS sd n (aLay a c)) (aOk a) x) → ∃ W' x', f_Mo_searched_l9 19 c0 197 (nI sd) (nI dep, W) = f_Mo_searched_l9 19 c0 197 (nI sd) (nI dep, W') ∧ RMI W' 5 dep a ∧ W' 19 6 dep = nI x' ∧ x' ≤ 32 ∧ (∀ c, x' ≤ c → c < 32 → ¬ aOk a c = true) ∧ W' 19 7 dep = nI (TS sd (n + 1) a) ∧ BL W W' dep := by
  intro n
  induction n with
  | zero =>
    intro dep a hV hp hn hd m
    induction m with
    | zero =>
      intro x W h1 h2 hR h6 h7
      have hx : x = 32 := by omega
      subst hx
      rw [GF_TS hs hV hp hn] at h7
      exact ⟨W, 32, rfl, hR, h6, by omega, fun c h1 h2 => absurd h2 (by omega), h7, BL.rf W dep⟩
    | succ m ih =>
      intro x W h1 h2 hR h6 h7
      obtain ⟨W1, r, e1, e4, hRr, o1⟩ := q_line hR hV (by omega)
      obtain ⟨y, y1, y2, y3, y4, y5⟩ := q_next e4 hRr hV hp (32 - x) x (by omega)
      have gy : GF (decide (a 0 6 % 2 = sd)) (fun c => TS sd 0 (aLay a c)) (aOk a) y = GF (decide (a 0 6 % 2 = sd)) (fun c => TS sd 0 (aLay a c)) (aOk a) x := by
        have := GF_skip (own := decide (a 0 6 % 2 = sd)) (f := fun c => TS sd 0 (aLay a c)) (ok := aOk a) (x := x) (y - x) (fun c k1 k2 => y3 c k1 (by omega))
        rwa [show x + (y - x) = y by omega] at this
      have h7y : W 19 7 dep = nI (GF (decide (a 0 6 % 2 = sd)) (fun c => TS sd 0 (aLay a c)) (aOk a) y) := by rw [gy]; exact h7
      by_cases z : y = 32
      · subst z
        rw [GF_TS hs hV hp hn] at h7y
        exact ⟨W, x, rfl, hR, h6, h2, y3, h7y, BL.rf W dep⟩
      · have ho := y4 (by omega)
        have hr := ok_rs.mp ho
        have hV' := aV_lay hV hp (show y < 32 by omega) hr
        have hph := lay_ph hV hp (show y < 32 by omega)
        obtain ⟨W2, hW2⟩ : ∃ W2, W2 = gUp W1 19 6 (upd (W1 19 6) dep (nI (y + 1))) := ⟨_, rfl⟩
        have e42 : W2 19 4 = fun j => nI (r j) := by rw [hW2, gUp_n _ _ (by omega)]; exact e4
        obtain ⟨r', p1, p2⟩ := q_put (M := W2) (k := 4) hRr (hV.P hp) (show y < 32 by omega)
        rw [rW_self e42] at p1
        obtain ⟨W4, g1, g2, g3, g4, g5, g6⟩ := q_push (W := rW W2 4 r') (c := 4) (by omega) (by omega) (rW_r _ _ _) p2 hV' hs (show dep + 1 ≤ 13 by omega)
        have s : f_Mo_searched_s9 19 c0 197 W (nI sd) (nI dep) = some (.inl (nI (dep + 1), W4)) := by
          unfold f_Mo_searched_s9
          rw [if_neg (nI_pos (by omega)), show (197 : Int32) = nI 197 from rfl, pk_mul, e1, pB, e4, show gRd 197 (fun j => nI (r j)) 1 = some (nI (r 1)) from pRd _ (show 1 < 197 by omega) (by omega), pB, hRr.r1, hp, if_pos (show nI 2 = 2 from rfl), o1 19 6 (by omega), pRd _ (by omega) (by omega), pB, h6, y5, pB]
          unfold f_Mo_searched_b58 f_Mo_searched_b193
          rw [if_neg (show ¬ (32 : Int32) ≤ nI y from nI_ge (b := 32) (by omega) (by omega)), nI_1, pWr _ _ _ _ (by omega) (by omega), pB, ← hW2, p1, pB, nI_1, g1, pB]
        have c5 : ∀ j, j < 197 * (dep + 1) → W4 19 5 j = W 19 5 j := fun j hj => by
          rw [g5.1 j hj]
          unfold rW
          rw [gUp_n _ _ (by omega), hW2, gUp_n _ _ (by omega), o1 19 5 (by omega)]
        have c6 : ∀ e, e < dep + 1 → W4 19 6 e = if e = dep then nI (y + 1) else W 19 6 e := fun e he => by
          rw [(g5.2.1 e he).1]
          unfold rW
          rw [gUp_n _ _ (by omega), hW2, gUp_s, o1 19 6 (by omega)]
          rfl
        have c7 : ∀ e, e < dep + 1 → W4 19 7 e = W 19 7 e := fun e he => by
          rw [(g5.2.1 e he).2]
          unfold rW
          rw [gUp_n _ _ (by omega), hW2, gUp_n _ _ (by omega), o1 19 7 (by omega)]
        have cO : ∀ g c, ¬ (g = 19 ∧ (c = 4 ∨ c = 5 ∨ c = 6 ∨ c = 7)) → W4 g c = W g c := fun g c zz => by
          rw [g6 g c (by omega)]
          unfold rW
          rw [gUp_n _ _ (by omega), hW2, gUp_n _ _ (by omega), o1 g c (by omega)]
        have hov : aLay a y 0 5 ≠ 2 := by omega
        have hb0 : b0 (aLay a y) sd = TS sd 0 (aLay a y) := by unfold b0; rw [if_neg hov]; rfl
        rw [hb0] at g4
        have hbb := GF_b (own := decide (a 0 6 % 2 = sd)) (TS_98 hs hV hp hn) y y2
        obtain ⟨W6, q1, q2, q3, q4, q5⟩ := q_pop (c0 := c0) hs hV hp hV' (show dep ≤ 12 by omega) (hR.st c5) g2 (Or.inl hov) g4 (TS_98 hs hV hp hn y (by omega) ho) ((c7 dep (by omega)).trans h7y) (by
          rcases hbb with ⟨k1, k2⟩ | k
          · exact Or.inl ⟨k1, of_decide_eq_true k2⟩
          · exact Or.inr k)
        have gn : GF (decide (a 0 6 % 2 = sd)) (fun c => TS sd 0 (aLay a c)) (aOk a) (y + 1) = cmb (decide (a 0 6 % 2 = sd)) (GF (decide (a 0 6 % 2 = sd)) (fun c => TS sd 0 (aLay a c)) (aOk a) y) (TS sd 0 (aLay a y)) := by
          show (if aOk a y = true then _ else _) = _
          rw [if_pos ho]
        rw [← gn] at q2
        have hB : BL W W6 dep := ⟨fun j hj => by rw [q4, c5 j (by omega)], fun e he => ⟨by rw [q5, c6 e (by omega), if_neg (by omega)], by rw [(q3.2.1 e he).2, c7 e (by omega)]⟩, fun g c zz => (q3.2.2 g c zz).trans (cO g c zz)⟩
        obtain ⟨W7, x7, t1, t2, t3, t4, t5, t6, t7⟩ := ih (y + 1) W6 (by omega) (by omega) (hR.st (fun j hj => by rw [q4, c5 j hj])) (by rw [q5, c6 dep (by omega), if_pos rfl]) q2
        refine ⟨W7, x7, ?_, t2, t3, t4, t5, t6, hB.tr t7 (Nat.le_refl dep)⟩
        exact (pLp (step := fun s => f_Mo_searched_s9 19 c0 197 s.2 (nI sd) s.1) (s := (nI dep, W)) s).trans ((pLp (step := fun s => f_Mo_searched_s9 19 c0 197 s.2 (nI sd) s.1) (s := (nI (dep + 1), W4)) q1).trans t1)
  | succ n ihn =>
    intro dep a hV hp hn hd m
    induction m with
    | zero =>
      intro x W h1 h2 hR h6 h7
      have hx : x = 32 := by omega
      subst hx
      rw [GF_TS hs hV hp hn] at h7
      exact ⟨W, 32, rfl, hR, h6, by omega, fun c h1 h2 => absurd h2 (by omega), h7, BL.rf W dep⟩
    | succ m ih =>
      intro x W h1 h2 hR h6 h7
      obtain ⟨W1, r, e1, e4, hRr, o1⟩ := q_line hR hV (by omega)
      obtain ⟨y, y1, y2, y3, y4, y5⟩ := q_next e4 hRr hV hp (32 - x) x (by omega)
      have gy : GF (decide (a 0 6 % 2 = sd)) (fun c => TS sd (n + 1) (aLay a c)) (aOk a) y = GF (decide (a 0 6 % 2 = sd)) (fun c => TS sd (n + 1) (aLay a c)) (aOk a) x := by
        have := GF_skip (own := decide (a 0 6 % 2 = sd)) (f := fun c => TS sd (n + 1) (aLay a c)) (ok := aOk a) (x := x) (y - x) (fun c k1 k2 => y3 c k1 (by omega))
        rwa [show x + (y - x) = y by omega] at this
      have h7y : W 19 7 dep = nI (GF (decide (a 0 6 % 2 = sd)) (fun c => TS sd (n + 1) (aLay a c)) (aOk a) y) := by rw [gy]; exact h7
      by_cases z : y = 32
      · subst z
        rw [GF_TS hs hV hp hn] at h7y
        exact ⟨W, x, rfl, hR, h6, h2, y3, h7y, BL.rf W dep⟩
      · have ho := y4 (by omega)
        have hr := ok_rs.mp ho
        have hV' := aV_lay hV hp (show y < 32 by omega) hr
        have hph := lay_ph hV hp (show y < 32 by omega)
        obtain ⟨W2, hW2⟩ : ∃ W2, W2 = gUp W1 19 6 (upd (W1 19 6) dep (nI (y + 1))) := ⟨_, rfl⟩
        have e42 : W2 19 4 = fun j => nI (r j) := by rw [hW2, gUp_n _ _ (by omega)]; exact e4
        obtain ⟨r', p1, p2⟩ := q_put (M := W2) (k := 4) hRr (hV.P hp) (show y < 32 by omega)
        rw [rW_self e42] at p1
        obtain ⟨W4, g1, g2, g3, g4, g5, g6⟩ := q_push (W := rW W2 4 r') (c := 4) (by omega) (by omega) (rW_r _ _ _) p2 hV' hs (show dep + 1 ≤ 13 by omega)
        have s : f_Mo_searched_s9 19 c0 197 W (nI sd) (nI dep) = some (.inl (nI (dep + 1), W4)) := by
          unfold f_Mo_searched_s9
          rw [if_neg (nI_pos (by omega)), show (197 : Int32) = nI 197 from rfl, pk_mul, e1, pB, e4, show gRd 197 (fun j => nI (r j)) 1 = some (nI (r 1)) from pRd _ (show 1 < 197 by omega) (by omega), pB, hRr.r1, hp, if_pos (show nI 2 = 2 from rfl), o1 19 6 (by omega), pRd _ (by omega) (by omega), pB, h6, y5, pB]
          unfold f_Mo_searched_b58 f_Mo_searched_b193
          rw [if_neg (show ¬ (32 : Int32) ≤ nI y from nI_ge (b := 32) (by omega) (by omega)), nI_1, pWr _ _ _ _ (by omega) (by omega), pB, ← hW2, p1, pB, nI_1, g1, pB]
        have c5 : ∀ j, j < 197 * (dep + 1) → W4 19 5 j = W 19 5 j := fun j hj => by
          rw [g5.1 j hj]
          unfold rW
          rw [gUp_n _ _ (by omega), hW2, gUp_n _ _ (by omega), o1 19 5 (by omega)]
        have c6 : ∀ e, e < dep + 1 → W4 19 6 e = if e = dep then nI (y + 1) else W 19 6 e := fun e he => by
          rw [(g5.2.1 e he).1]
          unfold rW
          rw [gUp_n _ _ (by omega), hW2, gUp_s, o1 19 6 (by omega)]
          rfl
        have c7 : ∀ e, e < dep + 1 → W4 19 7 e = W 19 7 e := fun e he => by
          rw [(g5.2.1 e he).2]
          unfold rW
          rw [gUp_n _ _ (by omega), hW2, gUp_n _ _ (by omega), o1 19 7 (by omega)]
        have cO : ∀ g c, ¬ (g = 19 ∧ (c = 4 ∨ c = 5 ∨ c = 6 ∨ c = 7)) → W4 g c = W g c := fun g c zz => by
          rw [g6 g c (by omega)]
          unfold rW
          rw [gUp_n _ _ (by omega), hW2, gUp_n _ _ (by omega), o1 g c (by omega)]
        have hin : aLay a y 0 5 = 2 := by omega
        have hb0 : b0 (aLay a y) sd = GF (decide (aLay a y 0 6 % 2 = sd)) (fun c => TS sd n (aLay (aLay a y) c)) (aOk (aLay a y)) 0 := by
          unfold b0 GF
          rw [if_pos hin]
          by_cases w : aLay a y 0 6 % 2 = sd
          · rw [if_pos w, decide_eq_true w]; rfl
          · rw [if_neg w, decide_eq_false w]; rfl
        rw [hb0] at g4
        obtain ⟨W5, x5, u1, u2, u3, u4, u5, u6, u7⟩ := ihn (dep + 1) (aLay a y) hV' hin (by omega) (by omega) 32 0 W4 (by omega) (by omega) g2 g3 g4
        have hbb := GF_b (own := decide (a 0 6 % 2 = sd)) (TS_98 hs hV hp hn) y y2
        obtain ⟨W6, q1, q2, q3, q4, q5⟩ := q_pop (W := W5) (c0 := c0) hs hV hp hV' (show dep ≤ 12 by omega) (hR.st (fun j hj => (u7.1 j hj).trans (c5 j hj))) u2 (Or.inr ⟨x5, u4, u3, u5⟩) u6 (TS_98 hs hV hp hn y (by omega) ho) (((u7.2.1 dep (by omega)).2.trans (c7 dep (by omega))).trans h7y) (by
          rcases hbb with ⟨k1, k2⟩ | k
          · exact Or.inl ⟨k1, of_decide_eq_true k2⟩
          · exact Or.inr k)
        have gn : GF (decide (a 0 6 % 2 = sd)) (fun c => TS sd (n + 1) (aLay a c)) (aOk a) (y + 1) = cmb (decide (a 0 6 % 2 = sd)) (GF (decide (a 0 6 % 2 = sd)) (fun c => TS sd (n + 1) (aLay a c)) (aOk a) y) (TS sd (n + 1) (aLay a y)) := by
          show (if aOk a y = true then _ else _) = _
          rw [if_pos ho]
        rw [← gn] at q2
        have hB : BL W W6 dep := ⟨fun j hj => by rw [q4, u7.1 j (by omega), c5 j (by omega)], fun e he => ⟨by rw [q5, (u7.2.1 e (by omega)).1, c6 e (by omega), if_neg (by omega)], by rw [(q3.2.1 e he).2, (u7.2.1 e (by omega)).2, c7 e (by omega)]⟩, fun g c zz => (q3.2.2 g c zz).trans ((u7.2.2 g c zz).trans (cO g c zz))⟩
        obtain ⟨W7, x7, t1, t2, t3, t4, t5, t6, t7⟩ := ih (y + 1) W6 (by omega) (by omega) (hR.st (fun j hj => by rw [q4, u7.1 j hj, c5 j hj])) (by rw [q5, (u7.2.1 dep (by omega)).1, c6 dep (by omega), if_pos rfl]) q2
        refine ⟨W7, x7, ?_, t2, t3, t4, t5, t6, hB.tr t7 (Nat.le_refl dep)⟩
        exact (pLp (step := fun s => f_Mo_searched_s9 19 c0 197 s.2 (nI sd) s.1) (s := (nI dep, W)) s).trans (u1.trans ((pLp (step := fun s => f_Mo_searched_s9 19 c0 197 s.2 (nI sd) s.1) (s := (nI (dep + 1), W5)) q1).trans t1))
/-- the search from a row -/
theorem q_searched (hc : c0 = 2 ∨ c0 = 3) (h2 : W 19 c0 = fun j => nI (r j)) (hR : RM a r) (hV : aV a) (hs : sd < 2) (hn : a 1 3 + n = 32) (hn12 : n ≤ 12) (hp : a 0 5 = 2 ∧ 0 < n ∨ a 0 5 ≠ 2 ∧ n = 0) : ∃ W', f_Mo_searched 19 c0 197 W (nI sd) = some (nI (TS sd n a), W') ∧ ∀ g c, ¬ (g = 19 ∧ (c = 4 ∨ c = 5 ∨ c = 6 ∨ c = 7)) → W' g c = W g c := by
  obtain ⟨W1, g1, g2, g3, g4, g5, g6⟩ := q_push (d := 0) (by omega) (by omega) h2 hR hV hs (by omega)
  have mid : ∃ W2, f_Mo_searched_l9 19 c0 197 (nI sd) (0, W1) = f_Mo_searched_l9 19 c0 197 (nI sd) (nI 0, W2) ∧ RMI W2 5 0 a ∧ DN W2 0 a ∧ W2 19 7 0 = nI (TS sd n a) ∧ ∀ g c, ¬ (g = 19 ∧ (c = 4 ∨ c = 5 ∨ c = 6 ∨ c = 7)) → W2 g c = W1 g c := by
    rcases hp with ⟨p1, p2⟩ | ⟨p1, p2⟩
    · obtain ⟨k, rfl⟩ : ∃ k, n = k + 1 := ⟨n - 1, by omega⟩
      have hb0 : b0 a sd = GF (decide (a 0 6 % 2 = sd)) (fun c => TS sd k (aLay a c)) (aOk a) 0 := by
        unfold b0 GF
        rw [if_pos p1]
        by_cases w : a 0 6 % 2 = sd
        · rw [if_pos w, decide_eq_true w]; rfl
        · rw [if_neg w, decide_eq_false w]; rfl
      rw [hb0] at g4
      obtain ⟨W2, x, u1, u2, u3, u4, u5, u6, u7⟩ := srch (c0 := c0) hs k 0 a hV p1 hn (by omega) 32 0 W1 (by omega) (by omega) g2 g3 g4
      exact ⟨W2, u1, u2, Or.inr ⟨x, u4, u3, u5⟩, u6, u7.2.2⟩
    · subst p2
      have hb0 : b0 a sd = TS sd 0 a := by unfold b0; rw [if_neg p1]; rfl
      rw [hb0] at g4
      exact ⟨W1, rfl, g2, Or.inl p1, g4, fun _ _ _ => rfl⟩
  obtain ⟨W2, m1, m2, m3, m4, m5⟩ := mid
  obtain ⟨W3, o3, e3⟩ := q_doneStep (c0 := c0) (sd := sd) m2 hV (by omega) m3
  refine ⟨W3, ?_, fun g c z => (o3 g c (by omega)).trans ((m5 g c z).trans (g6 g c (by omega)))⟩
  unfold f_Mo_searched
  rw [show f_Mo_push 19 c0 197 W 0 (nI sd) = some W1 from g1, pB, m1]
  have s1 : f_Mo_searched_s9 19 c0 197 W2 (nI sd) (nI 0) = some (.inl (-1, W3)) := by
    rw [e3]
    unfold f_Mo_searched_b58 f_Mo_searched_b193
    rw [if_pos (by decide), if_pos (by decide)]
    rfl
  have s2 : f_Mo_searched_s9 19 c0 197 W3 (nI sd) (-1) = some (.inr (nI (TS sd n a), W3)) := by
    unfold f_Mo_searched_s9
    rw [if_pos (by decide), show gRd 14 (W3 19 7) 0 = some (W3 19 7 0) from pRd _ (show 0 < 14 by omega) (by omega), pB, o3 19 7 (by omega), m4]
  exact (pLp (step := fun s => f_Mo_searched_s9 19 c0 197 s.2 (nI sd) s.1) (s := (nI 0, W2)) s1).trans (pLx (step := fun s => f_Mo_searched_s9 19 c0 197 s.2 (nI sd) s.1) (s := (-1, W3)) s2)
end SW
