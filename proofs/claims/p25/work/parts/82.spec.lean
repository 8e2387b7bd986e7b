-- ===== PURE: lines of play with open cards: what is told =====
def aWr (a : Nat → Nat → Nat) (c : Nat) : Nat := ((a 0 6 + 1) % 4 + aWn (fun j => if j = 3 then c else a 7 (a 1 3 - 3 + j)) (a 0 8) 3) % 4
def aLead (a : Nat → Nat → Nat) : Nat := (a 0 6 + 4 - a 1 3 % 4) % 4
section SP
variable {a : Nat → Nat → Nat} {c x j : Nat}
theorem lay_L1 (hV : aV a) (hp2 : a 0 5 = 2) : ∀ c' j, (c' ≠ 8 ∧ c' ≠ 9 ∧ c' ≠ 10 ∧ c' ≠ 11) → (c' = 0 → j ≠ 11 ∧ j ≠ 12) → aL1 (aNt a (aLed a) c) c c' j = aL1 a c c' j := by
  intro c' j h1 h2
  have y : ∀ c' j, (c' ≠ 8 ∧ c' ≠ 9 ∧ c' ≠ 10 ∧ c' ≠ 11) → (c' = 0 → j ≠ 11 ∧ j ≠ 12) → aNt a (aLed a) c c' j = a c' j := fun c' j h1 h2 => aNt_c _ _ _ _ _ h1 h2
  unfold aL1
  rw [y 1 3 (by omega) (by omega)]
  unfold aS
  by_cases z1 : c' = 1 ∧ j = 3
  · rw [if_pos z1, if_pos z1]
  · rw [if_neg z1, if_neg z1]
    by_cases z2 : c' = 6 ∧ j = c
    · rw [if_pos z2, if_pos z2]
    · rw [if_neg z2, if_neg z2]
      by_cases z3 : c' = 7 ∧ j = a 1 3
      · rw [if_pos z3, if_pos z3]
      · rw [if_neg z3, if_neg z3]
        exact y c' j h1 h2
theorem lay_7 (hV : aV a) (hp2 : a 0 5 = 2) : aLay a c 7 j = if j = a 1 3 then c else a 7 j := by
  rw [aLay_5 (hV.P hp2) _ _ _ (by omega), lay_L1 hV hp2 _ _ (by omega) (by omega), aL1_7]
theorem lay_5 (hV : aV a) (hp2 : a 0 5 = 2) : aLay a c 5 j = a 5 j := by
  rw [aLay_5 (hV.P hp2) _ _ _ (by omega), lay_L1 hV hp2 _ _ (by omega) (by omega), aL1_o _ _ _ _ (by omega)]
theorem lay_6 (hV : aV a) (hp2 : a 0 5 = 2) : aLay a c 6 j = if j = c then a 1 3 else a 6 j := by
  rw [aLay_5 (hV.P hp2) _ _ _ (by omega), lay_L1 hV hp2 _ _ (by omega) (by omega)]
  unfold aL1
  rw [aS_c _ _ (by omega), aS_at]
  split
  · rfl
  · rw [aS_c _ _ (by omega)]
theorem lay_H (hV : aV a) (hp2 : a 0 5 = 2) : aH (aLay a c) x = if x = c then 4294967295 else aH a x := by
  have hl := (hV.2.1.2.2.2.2.2.2.2.1 hp2).2
  unfold aH
  rw [lay_6 hV hp2, lay_5 hV hp2]
  by_cases z : x = c
  · rw [if_pos z, if_pos z, if_neg (by omega)]
  · rw [if_neg z, if_neg z]
theorem lay_w (hV : aV a) (hp2 : a 0 5 = 2) (hc : c < 32) (q : (a 1 3 + 1) % 4 = 0) : (∀ j, j < 2 → aLay a c 3 j = a 3 j + (if aWr a c % 2 = j then 1 else 0)) ∧ (a 1 3 + 1 ≠ 32 → aLay a c 0 6 = aWr a c) := by
  have hP := hV.P hp2
  rw [aLay_eq hP]
  have d7 : ∀ j, aL1 (aNt a (aLed a) c) c 7 j = if j = a 1 3 then c else a 7 j := fun j => by rw [lay_L1 hV hp2 _ _ (by omega) (by omega), aL1_7]
  have d13 : aL1 (aNt a (aLed a) c) c 1 3 = a 1 3 + 1 := by rw [lay_L1 hV hp2 _ _ (by omega) (by omega), aL1_13]
  have d0 : ∀ j, j ≠ 11 ∧ j ≠ 12 → aL1 (aNt a (aLed a) c) c 0 j = a 0 j := fun j h => by rw [lay_L1 hV hp2 _ _ (by omega) (by omega), aL1_o _ _ _ _ (by omega)]
  have d3 : ∀ j, aL1 (aNt a (aLed a) c) c 3 j = a 3 j := fun j => by rw [lay_L1 hV hp2 _ _ (by omega) (by omega), aL1_o _ _ _ _ (by omega)]
  generalize aL1 (aNt a (aLed a) c) c = d at d7 d13 d0 d3
  have sc : ∀ (b : Nat → Nat → Nat) c' j, c' ≠ 4 → aSc b c' j = b c' j := fun b c' j h => by
    unfold aSc
    split <;> exact aS_c _ _ h
  have ew : aPw d = aWr a c := by
    unfold aPw aWr aWi
    rw [d0 6 (by omega), d0 8 (by omega), d13]
    rw [aWn_cong (f := fun j => d 7 (a 1 3 + 1 - 4 + j)) (h := fun j => if j = 3 then c else a 7 (a 1 3 - 3 + j)) 3 (fun j hj => by
      show d 7 (a 1 3 + 1 - 4 + j) = if j = 3 then c else a 7 (a 1 3 - 3 + j)
      rw [d7]
      by_cases z : j = 3
      · rw [if_pos z, if_pos (by omega)]
      · rw [if_neg z, if_neg (by omega)]
        congr 1)]
  have tj : ∀ j, aTk d (aPw d) 3 j = if j = aPw d % 2 then a 3 (aPw d % 2) + 1 else a 3 j := fun j => by
    unfold aTk
    rw [aS_c _ j (show (3 : Nat) ≠ 0 by omega), aS_at, d3, d3]
  have t6 : aTk d (aPw d) 0 6 = aPw d := aS_s _ _ _ _
  unfold aNx
  rw [d13, if_pos q]
  unfold aEt
  rw [d13]
  have fin : ∀ j, (if j = aPw d % 2 then a 3 (aPw d % 2) + 1 else a 3 j) = a 3 j + (if aWr a c % 2 = j then 1 else 0) := fun j => by
    rw [ew]
    by_cases z : j = aWr a c % 2
    · rw [if_pos z, if_pos z.symm, z]
    · rw [if_neg z, if_neg (fun k => z k.symm)]
      rfl
  by_cases z : a 1 3 + 1 = 32
  · rw [if_pos z]
    refine ⟨fun j hj => ?_, fun h => absurd z h⟩
    rw [sc _ _ _ (by omega), aS_c _ _ (by omega), aS_c _ _ (by omega), tj]
    exact fin j
  · rw [if_neg z]
    refine ⟨fun j hj => ?_, fun _ => by rw [t6, ew]⟩
    rw [tj]
    exact fin j
end SP
/-- the greatest, the least of some numbers -/
def mxF (f : Nat → Nat) (ok : Nat → Bool) : Nat → Nat
  | 0 => 0
  | k + 1 => if ok k = true then (if mxF f ok k < f k then f k else mxF f ok k) else mxF f ok k
def mnF (f : Nat → Nat) (ok : Nat → Bool) : Nat → Nat
  | 0 => 99
  | k + 1 => if ok k = true then (if f k < mnF f ok k then f k else mnF f ok k) else mnF f ok k
theorem mxF_ge {f : Nat → Nat} {ok : Nat → Bool} : ∀ {n k}, k < n → ok k = true → f k ≤ mxF f ok n
  | 0, _, h, _ => absurd h (by omega)
  | n + 1, k, h, ho => by
    unfold mxF
    by_cases z : k = n
    · subst z
      rw [if_pos ho]
      split <;> omega
    · have := mxF_ge (f := f) (show k < n by omega) ho
      split
      · split <;> omega
      · omega
theorem mxF_ex {f : Nat → Nat} {ok : Nat → Bool} : ∀ n, (∃ k, k < n ∧ ok k = true) → ∃ k, k < n ∧ ok k = true ∧ mxF f ok n = f k
  | 0, ⟨_, h, _⟩ => absurd h (by omega)
  | n + 1, ⟨k, hk, ho⟩ => by
    unfold mxF
    by_cases hn : ok n = true
    · rw [if_pos hn]
      by_cases z : mxF f ok n < f n
      · rw [if_pos z]
        exact ⟨n, by omega, hn, rfl⟩
      · rw [if_neg z]
        by_cases h2 : ∃ k, k < n ∧ ok k = true
        · obtain ⟨j, h3, h4, h5⟩ := mxF_ex (f := f) n h2
          exact ⟨j, by omega, h4, h5⟩
        · have e : mxF f ok n = 0 := by
            have : ∀ m, m ≤ n → mxF f ok m = 0 := by
              intro m
              induction m with
              | zero => intro _; rfl
              | succ m ih =>
                intro hm
                unfold mxF
                rw [if_neg (fun q => h2 ⟨m, by omega, q⟩)]
                exact ih (by omega)
            exact this n (Nat.le_refl n)
          exact ⟨n, by omega, hn, by omega⟩
    · rw [if_neg hn]
      have hkn : k ≠ n := fun z => hn (z ▸ ho)
      obtain ⟨j, h3, h4, h5⟩ := mxF_ex (f := f) n ⟨k, by omega, ho⟩
      exact ⟨j, by omega, h4, h5⟩
theorem mnF_le {f : Nat → Nat} {ok : Nat → Bool} : ∀ {n k}, k < n → ok k = true → mnF f ok n ≤ f k
  | 0, _, h, _ => absurd h (by omega)
  | n + 1, k, h, ho => by
    unfold mnF
    by_cases z : k = n
    · subst z
      rw [if_pos ho]
      split <;> omega
    · have := mnF_le (f := f) (show k < n by omega) ho
      split
      · split <;> omega
      · omega
theorem mnF_ex {f : Nat → Nat} {ok : Nat → Bool} (hf : ∀ k, ok k = true → f k ≤ 99) : ∀ n, (∃ k, k < n ∧ ok k = true) → ∃ k, k < n ∧ ok k = true ∧ mnF f ok n = f k
  | 0, ⟨_, h, _⟩ => absurd h (by omega)
  | n + 1, ⟨k, hk, ho⟩ => by
    unfold mnF
    by_cases hn : ok n = true
    · rw [if_pos hn]
      by_cases z : f n < mnF f ok n
      · rw [if_pos z]
        exact ⟨n, by omega, hn, rfl⟩
      · rw [if_neg z]
        by_cases h2 : ∃ k, k < n ∧ ok k = true
        · obtain ⟨j, h3, h4, h5⟩ := mnF_ex hf n h2
          exact ⟨j, by omega, h4, h5⟩
        · have e : mnF f ok n = 99 := by
            have : ∀ m, m ≤ n → mnF f ok m = 99 := by
              intro m
              induction m with
              | zero => intro _; rfl
              | succ m ih =>
                intro hm
                unfold mnF
                rw [if_neg (fun q => h2 ⟨m, by omega, q⟩)]
                exact ih (by omega)
            exact this n (Nat.le_refl n)
          have := hf n hn
          exact ⟨n, by omega, hn, by omega⟩
    · rw [if_neg hn]
      have hkn : k ≠ n := fun z => hn (z ▸ ho)
      obtain ⟨j, h3, h4, h5⟩ := mnF_ex hf n ⟨k, by omega, ho⟩
      exact ⟨j, by omega, h4, h5⟩
/-- the tricks of a side at the end, if both play as well as they can, with so many cards left -/
def TS (sd : Nat) : Nat → (Nat → Nat → Nat) → Nat
  | 0, a => a 3 sd
  | n + 1, a => if a 0 6 % 2 = sd then mxF (fun c => TS sd n (aLay a c)) (aOk a) 32 else mnF (fun c => TS sd n (aLay a c)) (aOk a) 32
section TSS
variable {a : Nat → Nat → Nat} {c sd n : Nat}
theorem ok_rs {k : Nat} : aOk a k = true ↔ aRs a k = 0 := by unfold aOk; exact decide_eq_true_iff
theorem ok_ex (hV : aV a) (hp : a 0 5 = 2) : ∃ k, k < 32 ∧ aOk a k = true := fb_ct_pos.mp (ok_some hV hp)
/-- behind a play there is play still, or it was the last card -/
theorem lay_ph (hV : aV a) (hp : a 0 5 = 2) (hc : c < 32) : aLay a c 1 3 = a 1 3 + 1 ∧ (aLay a c 0 5 = 2 ∧ a 1 3 + 1 < 32 ∨ aLay a c 0 5 = 3 ∧ a 1 3 + 1 = 32) := by
  have hl := (hV.2.1.2.2.2.2.2.2.2.1 hp).2
  have h := aLay_0 hV hp hc
  refine ⟨h.1, ?_⟩
  omega
theorem lay_3 (hV : aV a) (hp : a 0 5 = 2) (hc : c < 32) (hs : sd < 2) : a 3 sd ≤ aLay a c 3 sd ∧ aLay a c 3 sd ≤ a 3 sd + (if (a 1 3 + 1) % 4 = 0 then 1 else 0) := by
  by_cases q : (a 1 3 + 1) % 4 = 0
  · rw [(lay_w hV hp hc q).1 sd hs, if_pos q]
    split <;> omega
  · have h := aLay_0 hV hp hc
    rw [if_neg q]
    rcases (show sd = 0 ∨ sd = 1 by omega) with rfl | rfl <;> omega
theorem TS_b (hs : sd < 2) : ∀ n (a : Nat → Nat → Nat), aV a → (a 0 5 = 2 ∧ a 1 3 + n = 32 ∧ 0 < n ∨ n = 0) → a 3 sd ≤ TS sd n a ∧ TS sd n a ≤ a 3 sd + (n + 3) / 4 := by
  intro n
  induction n with
  | zero =>
    intro a _ _
    exact ⟨Nat.le_refl _, Nat.le_add_right _ _⟩
  | succ n ih =>
    intro a hV hp
    obtain ⟨h2, hn, -⟩ := hp.resolve_right (by omega)
    have kid : ∀ c, c < 32 → aOk a c = true → a 3 sd ≤ TS sd n (aLay a c) ∧ TS sd n (aLay a c) ≤ a 3 sd + (n + 1 + 3) / 4 := by
      intro c hc ho
      have hr := ok_rs.mp ho
      have h1 := lay_ph hV h2 hc
      have h3 := lay_3 hV h2 hc hs
      have := ih (aLay a c) (aV_lay hV h2 hc hr) (by omega)
      refine ⟨by omega, ?_⟩
      split at h3 <;> omega
    unfold TS
    by_cases z : a 0 6 % 2 = sd
    · rw [if_pos z]
      obtain ⟨k, k1, k2, k3⟩ := mxF_ex (f := fun c => TS sd n (aLay a c)) 32 (ok_ex hV h2)
      rw [k3]
      exact kid k k1 k2
    · rw [if_neg z]
      obtain ⟨k0, k01, k02⟩ := ok_ex hV h2
      have m : mnF (fun c => TS sd n (aLay a c)) (aOk a) 32 ≤ 99 := Nat.le_trans (mnF_le (f := fun c => TS sd n (aLay a c)) k01 k02) (by
        have := kid k0 k01 k02
        have h11 := hV.2.1.2.2.2.2.2.2.2.2.2.2
        have h10 := hV.2.1.2.2.2.2.2.2.2.2.2.1
        rcases (show sd = 0 ∨ sd = 1 by omega) with rfl | rfl <;> (show TS _ n (aLay a k0) ≤ 99) <;> omega)
      have ex : ∃ k, k < 32 ∧ aOk a k = true ∧ mnF (fun c => TS sd n (aLay a c)) (aOk a) 32 = TS sd n (aLay a k) := by
        have key : ∀ m, m ≤ 32 → (∃ k, k < m ∧ aOk a k = true) → ∃ k, k < m ∧ aOk a k = true ∧ mnF (fun c => TS sd n (aLay a c)) (aOk a) m = TS sd n (aLay a k) := by
          intro m
          induction m with
          | zero => rintro _ ⟨k, hk, _⟩; omega
          | succ m ihm =>
            rintro hm ⟨k, hk, ho⟩
            unfold mnF
            by_cases hn2 : aOk a m = true
            · rw [if_pos hn2]
              by_cases w : TS sd n (aLay a m) < mnF (fun c => TS sd n (aLay a c)) (aOk a) m
              · rw [if_pos w]
                exact ⟨m, by omega, hn2, rfl⟩
              · rw [if_neg w]
                by_cases h2' : ∃ k, k < m ∧ aOk a k = true
                · obtain ⟨j, j1, j2, j3⟩ := ihm (by omega) h2'
                  exact ⟨j, by omega, j2, j3⟩
                · have e99 : ∀ m', m' ≤ m → mnF (fun c => TS sd n (aLay a c)) (aOk a) m' = 99 := by
                    intro m'
                    induction m' with
                    | zero => intro _; rfl
                    | succ m' ih' =>
                      intro h'
                      unfold mnF
                      rw [if_neg (fun q => h2' ⟨m', by omega, q⟩)]
                      exact ih' (by omega)
                  have := kid m (by omega) hn2
                  have h11 := hV.2.1.2.2.2.2.2.2.2.2.2.2
                  have h10 := hV.2.1.2.2.2.2.2.2.2.2.2.1
                  have e := e99 m (Nat.le_refl m)
                  refine ⟨m, by omega, hn2, ?_⟩
                  rcases (show sd = 0 ∨ sd = 1 by omega) with rfl | rfl <;> omega
            · rw [if_neg hn2]
              have : k ≠ m := fun q => hn2 (q ▸ ho)
              obtain ⟨j, j1, j2, j3⟩ := ihm (by omega) ⟨k, by omega, ho⟩
              exact ⟨j, by omega, j2, j3⟩
        exact key 32 (Nat.le_refl 32) (ok_ex hV h2)
      obtain ⟨k, k1, k2, k3⟩ := ex
      rw [k3]
      exact kid k k1 k2
end TSS
