-- ===== PURE: a round; all rounds =====
theorem z_nat (v : Int32) : ∃ n : Nat, v = nI n := ⟨v.toBitVec.toNat, Int32.toBitVec_inj.mp (by
  show v.toBitVec = BitVec.ofNat 32 v.toBitVec.toNat
  rw [BitVec.ofNat_toNat, BitVec.setWidth_eq])⟩
theorem z_cell (v : Int32) : ∃ X : Nat, X < 2 ^ 31 ∧ v &&& 2147483647 = nI X := by
  obtain ⟨n, rfl⟩ := z_nat v
  exact ⟨n % 2 ^ 31, Nat.mod_lt _ (by decide), fa_mask n 31⟩
section RN
variable {M : gMem} {S : SS} {B X i T Ls k : Nat} {xs : Nat → Int32}
theorem cell_ok (hL : Ls ≤ 260) (hk : k ≤ 100) : ∃ X : Nat, X < 2 ^ 31 ∧ f_Law_cell Ls xs (nI k) = some (nI X) := by
  unfold f_Law_cell
  by_cases q : Ls ≤ k
  · obtain ⟨X, h1, h2⟩ := z_cell (15519937 * (nI k + 3) + 11903)
    refine ⟨X, h1, ?_⟩
    rw [if_pos (show Int32.ofNat Ls ≤ nI k from nI_le q (by omega)), h2]
  · obtain ⟨X, h1, h2⟩ := z_cell (xs k)
    refine ⟨X, h1, ?_⟩
    have e : gSc Ls xs (nI k) = some (xs k) := pRd xs (by omega) (by omega)
    rw [if_neg (show ¬ Int32.ofNat Ls ≤ nI k from nI_ge (by omega) (by omega)), e, pB, h2]
theorem round_137 (hR : R2 M S S) (hV : DV B S) (hX : X < 2 ^ 31) (x3 : Int32) : ∃ M' S', f_Law_law_b137_34 Ls xs M x3 (nI i) (nI X) = some (.inl (1, nI (i + 1), M')) ∧ R2 M' S' S' ∧ DV B S' := by
  have d7 : nI X / 7 = nI (X / 7) := z_div (d := 7) hX (by omega) (by omega)
  have d11 : nI X / 11 = nI (X / 11) := z_div (d := 11) hX (by omega) (by omega)
  obtain ⟨M', S', e1, e2, e3⟩ := best_ok (X := X / 11) hV hR (by omega)
  refine ⟨M', S', ?_, e2, e3.DV hV⟩
  unfold f_Law_law_b137_34
  rw [d7, seen_ok hR.1 hV (by omega), pB]
  dsimp only
  rw [if_neg (by decide), d11, e1, pB]
  dsimp only
  rw [if_neg (by decide)]
  unfold f_Law_law_b167_34
  rw [nI_1]
theorem round_ok (hL : Ls ≤ 260) (hR : R2 M S S) (hV : DV B S) (hB : B < 10000) (hT : T ≤ 45) (hi : i < T) : ∃ M' S', f_Law_law_s34 Ls xs M (nI T) 1 (nI i) = some (.inl (1, nI (i + 1), M')) ∧ R2 M' S' S' ∧ DV (B + 6) S' := by
  obtain ⟨X, hX, ec⟩ := cell_ok (xs := xs) hL (show 1 + i ≤ 100 by omega)
  have e1i : (1 : Int32) + nI i = nI (1 + i) := nI_add 1 i
  have rA : gRem (nI X) 100000 = nI (X % 100000) := z_rem (d := 100000) hX (by omega) (by omega)
  have rB : gRem (nI X) 1000 = nI (X % 1000) := z_rem (d := 1000) hX (by omega) (by omega)
  have rC : gRem (nI X) 5000 = nI (X % 5000) := z_rem (d := 5000) hX (by omega) (by omega)
  have r2 : gRem (nI i) 2 = nI (i % 2) := z_rem (d := 2) (by omega) (by omega) (by omega)
  obtain ⟨v, S1, hV1, hD⟩ := act_ok hV (by omega) hX
  obtain ⟨M1, a1, a2⟩ := hR.o hD
  have a1 : f_Law_act M (nI X) = some (v, M1) := a1
  have b1 : onQ (fun M => f_Law_refuses M (nI (X % 100000))) M1 = some (1, M1) := onQ_rd a2 (fun M hM => refuses_ok hM hV (by omega))
  obtain ⟨M2, c1, c2⟩ := a2.q hD
  have c1 : onQ (fun M => f_Law_act M (nI X)) M1 = some (v, M2) := c1
  have d1 : onQ (fun M => f_Law_refuses M (nI (X % 1000))) M2 = some (1, M2) := onQ_rd c2 (fun M hM => refuses_ok hM hV1 (by omega))
  obtain ⟨M3, g1, g2⟩ := alike_ok (X := X % 5000) c2 hV1 (by omega) (by omega)
  obtain ⟨M4, S2, h1, h2, h3⟩ := round_137 (Ls := Ls) (xs := xs) (i := i) g2 hV1 hX (nI T)
  refine ⟨M4, S2, ?_, h2, h3⟩
  unfold f_Law_law_s34
  rw [if_neg (nI_ge hi (by omega)), if_neg (by decide), e1i, ec, pB, a1, pB]
  dsimp only
  rw [rA, b1, pB]
  dsimp only
  rw [if_neg (by decide), c1, pB]
  dsimp only
  rw [if_pos rfl, rB, d1, pB]
  dsimp only
  rw [if_neg (by decide), rC, g1, pB]
  dsimp only
  rw [if_neg (by decide), r2]
  by_cases q : i % 2 = 0
  · rw [if_pos (show nI (i % 2) = 0 from by rw [q]; rfl), holds_ok g2.1 hV1 (by omega), pB]
    dsimp only
    rw [if_neg (by decide)]
    exact h1
  · have eh : onQ (fun M => f_Law_holds M) M3 = some (1, M3) := onQ_rd g2 (fun M hM => holds_ok hM hV1 (by omega))
    rw [if_neg (show ¬ nI (i % 2) = 0 from z_ne (y := 0) (by omega) (by omega) q), eh, pB]
    dsimp only
    rw [if_neg (by decide)]
    exact h1
theorem e_pure : e_Pure := by
  intro Ls xs hL
  obtain ⟨C, hC, ec⟩ := cell_ok (k := 0) (xs := xs) hL (by omega)
  have rC : gRem (nI C) 29 = nI (C % 29) := z_rem (d := 29) hC (by omega) (by omega)
  have eT : (16 : Int32) + nI (C % 29) = nI (16 + C % 29) := nI_add 16 (C % 29)
  obtain ⟨T, hT⟩ : ∃ T, T = 16 + C % 29 := ⟨_, rfl⟩
  obtain ⟨r, r1, r2⟩ := it_inv (step := fun s : Int32 × Int32 × gMem => f_Law_law_s34 Ls xs s.2.2 (nI T) s.1 s.2.1) (fun i s => ∃ M1 S1, s = (1, nI i, M1) ∧ R2 M1 S1 S1 ∧ DV (6 * i) S1) (fun r => ∃ M1, r = (1, nI T, M1)) T (fun i s hi hP => by
    obtain ⟨M1, S1, rfl, h1, h2⟩ := hP
    obtain ⟨M2, S2, g1, g2, g3⟩ := round_ok (xs := xs) hL h1 h2 (by omega) (show T ≤ 45 by omega) hi
    exact ⟨_, g1, M2, S2, rfl, g2, g3⟩) (fun s hP => by
    obtain ⟨M1, S1, rfl, h1, h2⟩ := hP
    refine ⟨_, ?_, M1, rfl⟩
    show f_Law_law_s34 Ls xs M1 (nI T) 1 (nI T) = _
    unfold f_Law_law_s34
    rw [if_pos (nI_le (Nat.le_refl _) (by omega))]) ⟨gM2, S0, rfl, R2_0, DV_0⟩
  obtain ⟨M1, rfl⟩ := r2
  refine ⟨nI C, nI T, M1, ec, ?_⟩
  unfold f_Law_law_l34
  rw [rC, eT, ← hT]
  exact gIt_le _ (by omega) r1
end RN
