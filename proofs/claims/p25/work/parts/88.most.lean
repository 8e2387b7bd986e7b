-- ===== PURE: most, bestCard, by both; two cases of the law =====
section MO
variable {M M' W : gMem} {E : Nat → Nat → Nat → Nat} {n c k : Nat} {u : Nat → Nat} {l : Nat} {t r d q : Nat → Nat} {a : Nat → Nat → Nat} {v : Int32}
theorem aMx_if2 (f : Nat → Nat) (b : Nat) : ∀ i, aMx f i ≤ b ↔ ∀ p, p < i → f p ≤ b
  | 0 => ⟨fun _ p hp => absurd hp (by omega), fun _ => Nat.zero_le b⟩
  | i + 1 => by
    have ih := aMx_if2 f b i
    unfold aMx
    constructor
    · intro h p hp
      split at h
      · by_cases z : p = i
        · rw [z]; exact h
        · exact ih.mp (by omega) p (by omega)
      · by_cases z : p = i
        · rw [z]; omega
        · exact ih.mp h p (by omega)
    · intro h
      have h1 := ih.mpr (fun p hp => h p (by omega))
      have h2 := h i (by omega)
      split <;> omega
def few (a : Nat → Nat → Nat) : Prop := a 0 5 = 2 ∧ aMx (aHs a) 4 ≤ 3
theorem k_few (h0 : M 0 = eN a) (hV : aV a) : (few a → f_DS_checkFewCards M = some (.inr ())) ∧ (¬ few a → f_DS_checkFewCards M = some (.inl 2)) := by
  have h53 := hV.2.1.1
  have lh := p_largestHand (M := M) (e := 0) hV.1
  rw [aW_self h0] at lh
  have hle := aMx_le (aHs a) 32 (aHs_le a) 4
  have e5 : M 0 0 5 = nI (a 0 5) := by rw [h0]; rfl
  unfold f_DS_checkFewCards few
  rw [e5]
  by_cases z : a 0 5 = 2
  · rw [if_pos (by rw [z]; rfl), lh, pB]
    by_cases y : aMx (aHs a) 4 ≤ 3
    · rw [if_pos (show nI (aMx (aHs a) 4) ≤ 3 from nI_le (b := 3) y (by omega))]
      exact ⟨fun _ => rfl, fun q => absurd ⟨z, y⟩ q⟩
    · rw [if_neg (show ¬ nI (aMx (aHs a) 4) ≤ 3 from nI_ge (a := 3) (by omega) (by omega))]
      exact ⟨fun q => absurd q.2 y, fun _ => rfl⟩
  · rw [if_neg (show ¬ nI (a 0 5) = 2 from z_ne (y := 2) (by omega) (by omega) z)]
    exact ⟨fun q => absurd q.1 z, fun _ => rfl⟩
/-- the class: most -/
theorem p_most (h0 : M 0 = eN a) (hV : aV a) (hf : few a) {cu : Nat} (hcu : cu ≤ 1) : ∃ M', f_DS_most_b27 M (nI cu) = some (.inr (nI (TS (a 0 6 % 2) (32 - a 1 3) a - a 3 (a 0 6 % 2)), M')) ∧ ∀ g c, ¬ (g = 18 ∧ (c = 8 ∨ c = 9 ∨ c = 10)) → M' g c = M g c := by
  have h3 : ∀ p, p < 4 → aHs a p ≤ 3 := (aMx_if2 _ _ 4).mp hf.2
  obtain ⟨f1, f2, f3⟩ := few_cards hV hf.1 h3
  obtain ⟨M1, b, t1, t2, t3, t4, t5⟩ := p_take h0 hV hf.1 h3 hcu
  have hs2 : a 0 6 % 2 < 2 := by omega
  have n12 : 32 - a 1 3 ≤ 12 := by omega
  obtain ⟨rr, M2, g1, g2, g3, g4⟩ := TFS_all (32 - a 1 3) 30 (by omega) M1 _ a (a 1 3 % 4) (a 1 3 % 4 + (32 - a 1 3)) (a 0 6 % 2) cu (nI (aLead a)) (-1) 9 hV (Or.inl hf.1) ⟨by omega, by omega, by omega, rfl, f2⟩ hs2 hcu t2 (HS_HR h3).1 (fun _ => rfl) (by omega) (by omega) (by omega) (by omega) (fun _ => by omega)
  have hb := TS_b hs2 (32 - a 1 3) a hV (Or.inl ⟨hf.1, by omega, by omega⟩)
  have er : rr = TS (a 0 6 % 2) (32 - a 1 3) a - a 3 (a 0 6 % 2) := by
    rcases (show cu = 0 ∨ cu = 1 by omega) with z | z
    · have := g3.1 z
      omega
    · have h1 := (g3.2 z).1 (by omega)
      have h2 := (g3.2 z).2 (by omega)
      omega
  refine ⟨M2, ?_, fun g c z => (g4.2.2 g c (by omega)).trans (t5 g c z)⟩
  unfold f_DS_most_b27 f_Open_mostTricks
  rw [t1, pB, t3, t4, show (gTF 30).1 M1 (nI (a 1 3 % 4)) (nI (aLead a)) (-1) 9 = some (nI rr, M2) from g1, pB, pB, er]
end MO
