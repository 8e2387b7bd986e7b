-- ===== PURE: what is refused is refused, and leaves no trace =====
theorem neg_lt {m : Nat} (h : m < 2147483647) : (-1 : Int32) - nI m < 0 := by
  have h1 : (-1 : Int32).toInt = -1 := rfl
  have h0 : (0 : Int32).toInt = 0 := rfl
  have hm := nI_toInt (show m < 2147483648 by omega)
  rw [fa_lt, fb_subI (by omega) (by omega)]
  omega
theorem big_le {b m : Nat} (h : b + m < 2147483648) : nI b ≤ nI b + nI m := by
  rw [nI_add]
  exact nI_le (by omega) h
section RF
variable {M : gMem} {S : SS} {B X : Nat} {x2 x3 s0 : Int32}
theorem rf_b523 (h : DI M S) (hV : DV B S) (hX : X < 100000) : f_Law_refuses_b523 M (nI X) (nI (S.1 0 5)) = some (1, M) := by
  have h53 := hV.V.2.1.1
  unfold f_Law_refuses_b523
  by_cases q : S.1 0 5 = 2
  · rw [q, if_pos (show nI 2 = 2 from rfl)]
    rfl
  · have hf : ¬ few S.1 := fun t => q t.1
    have e1 : f_Law_call M 8 (gRem (nI X) 32) 0 0 = some (-9999003, M) := by
      rw [show gRem (nI X) 32 = nI (X % 32) from z_rem (d := 32) (by omega) (by omega) (by omega)]
      exact x_play2 h hV (by omega) q
    have e2 : f_Law_may M 0 1 2 1 = some (-9999003, M) := x_may5 (w := 0) (p := 1) (s := 2) h hV q (by omega) (by omega) (by omega) (by omega)
    have e3 : f_Law_call M 11 0 0 0 = some (-9999003, M) := x_most2 (w := 0) h hV (by omega) hf
    have e4 : f_Law_call M 12 0 0 0 = some (-9999003, M) := x_best h hV hf
    have e5 : f_Law_call M 10 0 0 0 = some (-1, M) := by
      have e := r_legal (y := 0) (z := 0) h hV (w := 0) (by omega)
      unfold aLg at e
      rw [if_neg q] at e
      exact e
    have e6 : f_DS_advice M = some (-1) := by
      have e := r_advice h hV
      unfold aAv at e
      rw [if_neg q] at e
      exact e
    rw [if_neg (show ¬ nI (S.1 0 5) = 2 from z_ne (y := 2) (by omega) (by omega) q), e1, pB, if_pos rfl, e2, pB, if_pos rfl, e3, pB, if_pos rfl, e4, pB, if_pos rfl, e5, pB, if_pos rfl, e6, pB, if_pos rfl]
    rfl
theorem rf_b482 (h : DI M S) (hV : DV B S) (hX : X < 100000) : f_Law_refuses_b482 M (nI X) (nI (S.1 0 5)) 1 = some (1, M) := by
  have h53 := hV.V.2.1.1
  have e0 := rf_b523 h hV hX
  unfold f_Law_refuses_b482
  rw [if_neg (show ¬ (1 : Int32) = 0 by decide)]
  by_cases q : S.1 0 5 = 1
  · rw [q] at e0 ⊢
    rw [if_pos (show nI 1 = 1 from rfl)]
    exact e0
  · have e1 : f_Law_call M 6 4 4 0 = some (-9999003, M) := x_bid2 (l := 4) (s := 4) h hV (by omega) (by omega) (by omega) (fun t => q t.1)
    have e2 : f_Law_call M 7 0 0 0 = some (-9999003, M) := x_pass h hV q
    rw [if_neg (show ¬ nI (S.1 0 5) = 1 from z_ne (y := 1) (by omega) (by omega) q), e1, pB, if_pos rfl, e2, pB, if_pos rfl]
    exact e0
theorem rf_b383 (h : DI M S) (hV : DV B S) (hX : X < 100000) (hs : s0 < 0 ∨ nI 2 ≤ s0) : f_Law_refuses_b383 M (nI X) (nI (S.1 0 5)) s0 11 = some (1, M) := by
  have e0 := rf_b482 h hV hX
  have r9 : gRem (nI X) 9 = nI (X % 9) := z_rem (d := 9) (by omega) (by omega) (by omega)
  have r50 : gRem (nI X) 50 = nI (X % 50) := z_rem (d := 50) (by omega) (by omega) (by omega)
  have e1 : f_Law_call M 11 s0 0 0 = some (-9999002, M) := x_most1 hs
  have e2 : f_Law_call M 13 (2 + gRem (nI X) 50) 0 0 = some (-9999001, M) := by
    rw [r50]
    exact x_keep (Or.inr (big_le (b := 2) (by omega)))
  have e3 : f_Law_call M 14 ((-1) - gRem (nI X) 9) 0 0 = some (-9999001, M) := by
    rw [r9]
    exact x_back1 (Or.inl (neg_lt (by omega)))
  have e4 : f_Law_doScript M 0 0 = some (-9999002, M) := x_script0 0
  have e5 : f_Law_doScript M 1 ((10000) + Int32.toInt64 (nI X)) = some (-9999002, M) := by
    rw [nI_l (by omega), show (10000 : Int64) + lN X = lN (10000 + X) from (Int64.ofNat_add 10000 X).symm]
    exact x_script1 (by omega) (by omega)
  have e6 : f_Law_doSimulate M (Int32.toInt64 (nI X)) (201 + gRem (nI X) 9) = some (-9999002, M) := by
    rw [r9]
    exact x_sim _ (Or.inr (big_le (b := 201) (by omega)))
  unfold f_Law_refuses_b383
  rw [e1, pB, if_pos rfl, e2, pB, if_pos rfl, e3, pB, if_pos rfl, e4, pB, if_pos rfl, e5, pB, if_pos rfl, e6, pB, if_pos rfl]
  exact e0
theorem rf_b298 (h : DI M S) (hV : DV B S) (hX : X < 100000) (h2 : x2 < 0 ∨ nI 4 ≤ x2) (hs : s0 < 0 ∨ nI 8 ≤ s0) : f_Law_refuses_b298 M (nI X) x2 (nI (S.1 0 5)) s0 10 = some (1, M) := by
  have r9 : gRem (nI X) 9 = nI (X % 9) := z_rem (d := 9) (by omega) (by omega) (by omega)
  have r4 : gRem (nI X) 4 = nI (X % 4) := z_rem (d := 4) (by omega) (by omega) (by omega)
  have e1 : f_Law_call M 10 s0 0 0 = some (-9999001, M) := x_legal hs
  have e2 : f_Law_may M x2 1 2 1 = some (-9999001, M) := x_may1 h2
  have e3 : f_Law_may M 1 x2 2 0 = some (-9999001, M) := x_may2 (w := 1) (by omega) h2
  have e4 : f_Law_may M 1 0 x2 1 = some (-9999001, M) := x_may3 (w := 1) (p := 0) (by omega) (by omega) h2
  have e5 : f_Law_may M (gRem (nI X) 4) (gRem (nI X) 4) 0 1 = some (-9999002, M) := by
    rw [r4]
    exact x_may4 (w := X % 4) (s := 0) (by omega) (by omega)
  unfold f_Law_refuses_b298
  rw [e1, pB, if_pos rfl, e2, pB, if_pos rfl, e3, pB, if_pos rfl, e4, pB, if_pos rfl, e5, pB, if_pos rfl]
  split
  · exact rf_b383 h hV hX (Or.inl (by decide))
  · refine rf_b383 h hV hX (Or.inr ?_)
    rw [r9]
    exact big_le (b := 2) (by omega)
theorem rf_b250 (h : DI M S) (hV : DV B S) (hX : X < 100000) (h2 : x2 < 0 ∨ nI 4 ≤ x2) (h3 : x3 < 0 ∨ nI 32 ≤ x3) (hs : s0 < 0 ∨ nI 5 ≤ s0) : f_Law_refuses_b250 M (nI X) x2 x3 (nI (S.1 0 5)) s0 1 6 = some (1, M) := by
  have r9 : gRem (nI X) 9 = nI (X % 9) := z_rem (d := 9) (by omega) (by omega) (by omega)
  have e1 : f_Law_call M 6 1 s0 0 = some (-9999002, M) := x_bid1 (Or.inr (Or.inr hs))
  have e2 : f_Law_call M 8 x3 0 0 = some (-9999001, M) := x_play1 h3
  unfold f_Law_refuses_b250
  rw [e1, pB, if_pos rfl, e2, pB, if_pos rfl]
  split
  · refine rf_b298 h hV hX h2 (Or.inl ?_)
    rw [r9]
    exact neg_lt (by omega)
  · refine rf_b298 h hV hX h2 (Or.inr ?_)
    rw [r9]
    exact big_le (b := 8) (by omega)
theorem rf_b220 (h : DI M S) (hV : DV B S) (hX : X < 100000) (h2 : x2 < 0 ∨ nI 4 ≤ x2) (h3 : x3 < 0 ∨ nI 32 ≤ x3) (hs : s0 < 1 ∨ nI 5 ≤ s0) : f_Law_refuses_b220 M (nI X) x2 x3 (nI (S.1 0 5)) s0 6 = some (1, M) := by
  have r9 : gRem (nI X) 9 = nI (X % 9) := z_rem (d := 9) (by omega) (by omega) (by omega)
  have e1 : f_Law_call M 6 s0 0 0 = some (-9999002, M) := x_bid1 (by rcases hs with q | q; exact Or.inl q; exact Or.inr (Or.inl q))
  unfold f_Law_refuses_b220
  rw [e1, pB, if_pos rfl]
  split
  · exact rf_b250 h hV hX h2 h3 (Or.inl (by decide))
  · refine rf_b250 h hV hX h2 h3 (Or.inr ?_)
    rw [r9]
    exact big_le (b := 5) (by omega)
theorem rf_b80 (h : DI M S) (hV : DV B S) (hX : X < 100000) (h2 : x2 < 0 ∨ nI 4 ≤ x2) (h3 : x3 < 0 ∨ nI 32 ≤ x3) (hs : s0 < 0 ∨ nI 256 ≤ s0) : f_Law_refuses_b80 M (nI X) x2 x3 (nI (S.1 0 5)) s0 0 = some (1, M) := by
  have r9 : gRem (nI X) 9 = nI (X % 9) := z_rem (d := 9) (by omega) (by omega) (by omega)
  have r50 : gRem (nI X) 50 = nI (X % 50) := z_rem (d := 50) (by omega) (by omega) (by omega)
  have e1 : f_Law_call M 0 s0 0 0 = some (-9999002, M) := x_append hs
  have e2 : f_Law_call M 2 (12 + gRem (nI X) 50) 0 0 = some (-9999002, M) := by
    rw [r50]
    exact x_about (Or.inr (big_le (b := 12) (by omega)))
  have e3 : f_Law_call M 3 x3 9 0 = some (-9999001, M) := x_card1 h3
  have e4 : f_Law_call M 3 5 (3 + gRem (nI X) 9) 0 = some (-9999002, M) := by
    rw [r9]
    exact x_card2 (c := 5) (by omega) (Or.inr (big_le (b := 3) (by omega)))
  have e5 : f_Law_call M 4 x2 0 9 = some (-9999001, M) := x_told1 h2
  have e6 : f_Law_call M 4 0 x2 9 = some (-9999001, M) := x_told2 (p := 0) (by omega) h2
  have e7 : f_Law_call M 4 0 0 (6 + gRem (nI X) 9) = some (-9999002, M) := by
    rw [r9]
    exact x_told3 (p := 0) (s := 0) (by omega) (by omega) (Or.inr (big_le (b := 6) (by omega)))
  have e8 : f_Law_call M 5 x2 0 0 = some (-9999001, M) := x_trick h2
  unfold f_Law_refuses_b80
  rw [e1, pB, if_pos rfl, e2, pB, if_pos rfl, e3, pB, if_pos rfl, e4, pB, if_pos rfl, e5, pB, if_pos rfl, e6, pB, if_pos rfl, e7, pB, if_pos rfl, e8, pB, if_pos rfl]
  split
  · exact rf_b220 h hV hX h2 h3 (Or.inl (by decide))
  · refine rf_b220 h hV hX h2 h3 (Or.inr ?_)
    rw [r9]
    exact big_le (b := 5) (by omega)
theorem refuses_ok (h : DI M S) (hV : DV B S) (hX : X < 100000) : f_Law_refuses M (nI X) = some (1, M) := by
  have r9 : gRem (nI X) 9 = nI (X % 9) := z_rem (d := 9) (by omega) (by omega) (by omega)
  have r99 : gRem (nI X) 99 = nI (X % 99) := z_rem (d := 99) (by omega) (by omega) (by omega)
  have e1 : f_Law_call M 2 1 0 0 = some (nI (S.1 0 5), M) := r_about (w := 1) h hV (by omega)
  have b44 : ∀ x2 x3 : Int32, (x2 < 0 ∨ nI 4 ≤ x2) → (x3 < 0 ∨ nI 32 ≤ x3) → f_Law_refuses_b44 M (nI X) x2 x3 = some (1, M) := by
    intro x2 x3 h2 h3
    unfold f_Law_refuses_b44
    rw [e1, pB]
    split
    · refine rf_b80 h hV hX h2 h3 (Or.inl ?_)
      rw [r9]
      exact neg_lt (by omega)
    · refine rf_b80 h hV hX h2 h3 (Or.inr ?_)
      rw [r9]
      exact big_le (b := 256) (by omega)
  have b21 : ∀ x2 : Int32, (x2 < 0 ∨ nI 4 ≤ x2) → f_Law_refuses_b21 M (nI X) x2 = some (1, M) := by
    intro x2 h2
    unfold f_Law_refuses_b21
    split
    · refine b44 _ _ h2 (Or.inl ?_)
      rw [r99]
      exact neg_lt (by omega)
    · refine b44 _ _ h2 (Or.inr ?_)
      rw [r99]
      exact big_le (b := 32) (by omega)
  unfold f_Law_refuses
  split
  · refine b21 _ (Or.inl ?_)
    rw [r99]
    exact neg_lt (by omega)
  · refine b21 _ (Or.inr ?_)
    rw [r99]
    exact big_le (b := 4) (by omega)
end RF
