-- ===== PURE: the two evenings side by side; they are told the same =====
def R2 (M : gMem) (S Q : SS) : Prop := DI M S ∧ DI (swM M) Q
theorem it_for {σ ρ : Type} {step : σ → Option (σ ⊕ ρ)} (St : Nat → σ) (n : Nat) {r : ρ} {s0 : σ} (h0 : s0 = St 0) (hs : ∀ i, i < n → step (St i) = some (.inl (St (i + 1)))) (hx : step (St n) = some (.inr r)) : gIt step (n + 1) s0 = some r := by
  have key : ∀ m i, i + m = n → gIt step (m + 1) (St i) = some r := by
    intro m
    induction m with
    | zero =>
      intro i hi
      unfold gIt
      rw [show i = n by omega, hx]
    | succ m ih =>
      intro i hi
      unfold gIt
      rw [hs i (by omega)]
      exact ih (i + 1) (by omega)
  rw [h0]
  exact key n 0 (by omega)
theorem gBl_1 : gBl 1 = some 1 := if_pos (Or.inr rfl)
section AK
variable {M M' : gMem} {S Q S' : SS} {B X k : Nat} {v : Int32} {f : gMem → Option (Int32 × gMem)}
theorem sw_FR (h : FR M M') : ∀ g, g ≤ 18 → swM M' g = swM M g := fun g hg => by
  unfold swM sw
  rw [if_pos (by omega)]
  exact h _ (by omega)
theorem R2.o (h : R2 M S Q) (hf : DO f S v S') : ∃ M', f M = some (v, M') ∧ R2 M' S' Q := by
  obtain ⟨M', e1, e2, e3⟩ := hf M h.1
  exact ⟨M', e1, e2, h.2.same (sw_FR e3)⟩
theorem R2.q (h : R2 M S Q) (hf : DO f Q v S') : ∃ M', onQ f M = some (v, M') ∧ R2 M' S S' := by
  obtain ⟨M1, e1, e2, e3⟩ := hf _ h.2
  refine ⟨swM M1, ?_, ?_, ?_⟩
  · unfold onQ
    rw [e1]
    rfl
  · refine h.1.same (fun g hg => ?_)
    have := sw_FR e3 g hg
    rwa [swM_swM] at this
  · rw [swM_swM]
    exact e2
theorem onQ_rd (h : R2 M S Q) (hf : ∀ M, DI M Q → f M = some (v, M)) : onQ f M = some (v, M) := by
  unfold onQ
  rw [hf _ h.2]
  show some (v, swM (swM M)) = _
  rw [swM_swM]
theorem ak_step (h : R2 M S S) (hV : DV B S) (hX : X < 2 ^ 31) (hk : k < 32) : f_Law_alike_s47 M (nI X) 1 (nI k) = some (.inl (1, nI (k + 1), M)) := by
  have k4 : gRem (nI k) 4 = nI (k % 4) := z_rem (d := 4) (by omega) (by omega) (by omega)
  have d4 : nI k / 4 = nI (k / 4) := z_div (d := 4) (by omega) (by omega) (by omega)
  have k44 : gRem (nI (k / 4)) 4 = nI (k / 4 % 4) := z_rem (d := 4) (by omega) (by omega) (by omega)
  have r3 : gRem (nI X) 3 = nI (X % 3) := z_rem (d := 3) (by omega) (by omega) (by omega)
  have r6 : gRem (nI X) 6 = nI (X % 6) := z_rem (d := 6) (by omega) (by omega) (by omega)
  obtain ⟨v2, a2⟩ : ∃ v, ∀ M, DI M S → f_Law_call M 2 (nI k) 0 0 = some (v, M) := by
    by_cases q : k < 12
    · exact ⟨_, fun M hM => r_about hM hV q⟩
    · exact ⟨_, fun M hM => x_about (Or.inr (nI_le (by omega) (by omega)))⟩
  obtain ⟨v3, a3⟩ : ∃ v, ∀ M, DI M S → f_Law_call M 3 (nI k) (nI (X % 3)) 0 = some (v, M) := ⟨_, fun M hM => r_card hM hV hk (by omega)⟩
  obtain ⟨v4, a4⟩ : ∃ v, ∀ M, DI M S → f_Law_call M 4 (nI (k % 4)) (nI (k / 4 % 4)) (nI (X % 6)) = some (v, M) := ⟨_, fun M hM => r_told hM hV (by omega) (by omega) (by omega)⟩
  obtain ⟨v5, a5⟩ : ∃ v, ∀ M, DI M S → f_Law_call M 5 (nI k) 0 0 = some (v, M) := by
    by_cases q : k < 4
    · exact ⟨_, fun M hM => r_trick hM hV q⟩
    · exact ⟨_, fun M hM => x_trick (Or.inr (nI_le (by omega) (by omega)))⟩
  unfold f_Law_alike_s47
  rw [if_neg (show ¬ 32 ≤ nI k from nI_ge (b := 32) hk (by omega)), if_neg (by decide), a2 M h.1, pB, onQ_rd h a2, pB, if_pos rfl, r3, a3 M h.1, pB, onQ_rd h a3, pB, if_pos rfl, k4, d4, k44, r6, a4 M h.1, pB, onQ_rd h a4, pB, if_pos rfl, a5 M h.1, pB, onQ_rd h a5, pB, if_pos rfl]
  unfold f_Law_alike_b171_47
  rw [nI_1]
theorem alike_ok (h : R2 M S S) (hV : DV B S) (hB : B < 100000) (hX : X < 2 ^ 31) : ∃ M', f_Law_alike M (nI X) = some (1, M') ∧ R2 M' S S := by
  have r90 : gRem (nI X) 90 = nI (X % 90) := z_rem (d := 90) (by omega) (by omega) (by omega)
  have p1 : (1 : Int32) + nI (X % 90) = nI (1 + X % 90) := nI_add 1 (X % 90)
  obtain ⟨w, hw⟩ := c_sim (m := 1 + X % 90) hV hB (by omega) (by omega) (Int32.toInt64 (nI X))
  obtain ⟨M1, e1, e2⟩ := h.o hw
  obtain ⟨M2, e3, e4⟩ := e2.q hw
  have e1 : f_Law_doSimulate M (Int32.toInt64 (nI X)) (nI (1 + X % 90)) = some (w, M1) := e1
  have e3 : onQ (fun M => f_Law_doSimulate M (Int32.toInt64 (nI X)) (nI (1 + X % 90))) M1 = some (w, M2) := e3
  refine ⟨M2, ?_, e4⟩
  unfold f_Law_alike
  rw [r90, p1, e1, pB, e3, pB, if_pos rfl, r_advice e4.1 hV, pB, r_advice e4.2 hV, pB, if_pos rfl]
  unfold f_Law_alike_b43 f_Law_alike_l47
  have hl : gIt (fun s => f_Law_alike_s47 s.2.2 (nI X) s.1 s.2.1) 33 (1, 0, M2) = some (1, nI 32, M2) := by
    refine it_for (fun i => (1, nI i, M2)) 32 rfl (fun i hi => ?_) ?_
    · exact ak_step e4 hV hX hi
    · show f_Law_alike_s47 M2 (nI X) 1 (nI 32) = _
      unfold f_Law_alike_s47
      rw [if_pos (show (32 : Int32) ≤ nI 32 from nI_le (Nat.le_refl _) (by omega))]
  rw [hl, pB, gBl_1, pB]
end AK
