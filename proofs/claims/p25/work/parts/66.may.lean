-- ===== PURE: what a player may have =====
def aMs (f : Nat → Bool) : Nat → Nat
  | 0 => 0
  | n + 1 => aMs f n ||| (if f n then 2 ^ n else 0)
theorem aMs_cong {f g : Nat → Bool} : ∀ n, (∀ i, i < n → f i = g i) → aMs f n = aMs g n
  | 0, _ => rfl
  | n + 1, h => by
    show aMs f n ||| (if f n then 2 ^ n else 0) = aMs g n ||| (if g n then 2 ^ n else 0)
    rw [aMs_cong n (fun i hi => h i (by omega)), h n (by omega)]
theorem aMs_no {f : Nat → Bool} {m : Nat} : ∀ n, (∀ i, m ≤ i → i < m + n → ¬ f i = true) → aMs f (m + n) = aMs f m
  | 0, _ => rfl
  | n + 1, h => by
    show aMs f (m + n) ||| (if f (m + n) then 2 ^ (m + n) else 0) = aMs f m
    rw [aMs_no n (fun i h1 h2 => h i h1 (by omega)), if_neg (h (m + n) (by omega) (by omega)), Nat.or_zero]
theorem z_ish : ∀ n : Fin 9, gIsh 1 (nI n) = nI (2 ^ (n : Nat)) := by decide
def aRm (a : Nat → Nat → Nat) (v p s : Nat) : Nat := fb_sm (fun q => if q = v ∨ q = p ∨ a 11 (4 * q + s) = 1 then 0 else aHs a q) 4
def aMay (a : Nat → Nat → Nat) (v p s td : Nat) (n : Nat) : Bool := decide (((n = 0 ∨ a 11 (4 * p + s) = 0) ∧ n ≤ aHs a p ∧ n ≤ aUn a v s ∧ aUn a v s - n ≤ aRm a v p s) ∧ (td = 0 ∨ td = if (n + (aDl a p s - aHd a p s)) % 2 = 0 then 2 else 1))
section MAY
variable {M : gMem} {e v p s : Nat} {a : Nat → Nat → Nat} {r : Nat → Nat}
theorem aHd_dl (hp : p < 4) : aHd a p s ≤ aDl a p s := by
  unfold aHd aDl
  refine fb_ct_sub fun k _ h => ?_
  have h1 : aH a (8 * s + k) = p := of_decide_eq_true h
  unfold aH at h1
  refine decide_eq_true ?_
  split at h1
  · exact h1
  · omega
theorem aUn_le : aUn a v s ≤ 32 := by
  unfold aUn
  have : fb_sm (fun q => if q = v then 0 else aHd a q s) 4 ≤ 4 * 8 := fb_sm_bound fun k _ => by
    have := aHd_le a k s
    split <;> omega
  omega
theorem aRm_le : aRm a v p s ≤ 128 := by
  unfold aRm
  have : fb_sm (fun q => if q = v ∨ q = p ∨ a 11 (4 * q + s) = 1 then 0 else aHs a q) 4 ≤ 4 * 32 := fb_sm_bound fun k _ => by
    have := aHs_le a k
    split <;> omega
  omega
/-- the class's last loop -/
theorem p_poss146 {un rm g td gn : Nat} (h1 : un ≤ 100) (h2 : rm ≤ 200) (h3 : g ≤ 100) (h4 : g ≤ un) (h5 : td ≤ 2) (h6 : gn ≤ 100) : f_Ev_possible_l146 e M (nI un) (nI rm) (nI g) (nI td) (nI gn) (0, 0) = some (nI (aMs (fun n => decide ((n ≤ g ∧ un - n ≤ rm) ∧ (td = 0 ∨ td = if (n + gn) % 2 = 0 then 2 else 1))) 9)) := by
  obtain ⟨f, hf⟩ : ∃ f, f = (fun n => decide ((n ≤ g ∧ un - n ≤ rm) ∧ (td = 0 ∨ td = if (n + gn) % 2 = 0 then 2 else 1))) := ⟨_, rfl⟩
  rw [← hf]
  obtain ⟨N, hN⟩ : ∃ N, N = if g < 8 then g + 1 else 9 := ⟨_, rfl⟩
  have hN9 : N ≤ 9 := by rw [hN]; split <;> omega
  have hNg : N ≤ g + 1 := by rw [hN]; split <;> omega
  have e9 : aMs f 9 = aMs f N := by
    have : aMs f (N + (9 - N)) = aMs f N := aMs_no (9 - N) (fun i hi hi2 z => by
      rw [hf] at z
      have := of_decide_eq_true z
      rw [hN] at hi hi2
      split at hi <;> omega)
    rwa [show N + (9 - N) = 9 by omega] at this
  rw [e9]
  unfold f_Ev_possible_l146
  refine pFor0 (fun i => (nI (aMs f i), nI i)) N rfl ?_ ?_
  · intro i hi
    show f_Ev_possible_s146 e M (nI un) (nI rm) (nI g) (nI td) (nI gn) (nI (aMs f i)) (nI i) = some (.inl (nI (aMs f (i + 1)), nI (i + 1)))
    have b183 : ∀ s0 : Nat, s0 ≤ 1 → (s0 = 1 ↔ (td = 0 ∨ td = if (i + gn) % 2 = 0 then 2 else 1)) → f_Ev_possible_b183 e M (nI un) (nI rm) (nI g) (nI td) (nI gn) (nI (aMs f i)) (nI i) (nI s0) = some (.inl (nI (aMs f (i + 1)), nI (i + 1))) := by
      intro s0 hs0 hiff
      have hfi : f i = true ↔ un - i ≤ rm ∧ s0 = 1 := by
        rw [hf, hiff]
        constructor
        · intro z
          have := of_decide_eq_true z
          exact ⟨this.1.2, this.2⟩
        · intro z
          exact decide_eq_true ⟨⟨by omega, z.1⟩, z.2⟩
      unfold f_Ev_possible_b183 f_Ev_possible_b209
      rw [pk_sub (by omega), nI_1]
      have e1 : aMs f (i + 1) = aMs f i ||| (if f i then 2 ^ i else 0) := rfl
      by_cases z : un - i ≤ rm
      · rw [if_neg (nI_nlt z (by omega))]
        by_cases z2 : s0 = 1
        · rw [z2, if_neg (show ¬ nI 1 = 0 by decide), e1, if_pos (hfi.mpr ⟨z, z2⟩), z_ish ⟨i, by omega⟩, fa_or]
        · rw [if_pos (show nI s0 = 0 by rw [show s0 = 0 by omega]; rfl), e1, if_neg (fun q => z2 (hfi.mp q).2), Nat.or_zero]
      · rw [if_pos (nI_lt (by omega) (by omega)), e1, if_neg (fun q => z (hfi.mp q).1), Nat.or_zero]
    unfold f_Ev_possible_s146
    rw [show (8 : Int32) = nI 8 from rfl, if_neg (nI_nlt (by omega) (by omega)), if_neg (nI_nlt (by omega) (by omega))]
    unfold f_Ev_possible_b178
    by_cases q0 : td = 0
    · rw [if_pos (show nI td = 0 by rw [q0]; rfl)]
      exact b183 1 (by omega) ⟨fun _ => Or.inl q0, fun _ => rfl⟩
    · rw [if_neg (show ¬ nI td = 0 from z_ne (y := 0) (by omega) (by omega) q0), nI_add, p_truthFor (by omega), pB]
      by_cases q1 : td = if (i + gn) % 2 = 0 then 2 else 1
      · rw [if_pos (by rw [← q1])]
        exact b183 1 (by omega) ⟨fun _ => Or.inr q1, fun _ => rfl⟩
      · rw [if_neg (z_ne (by omega) (by split <;> omega) q1)]
        exact b183 0 (by omega) ⟨fun z => absurd z (by omega), fun z => by rcases z with z | z; exact absurd z q0; exact absurd z q1⟩
  · refine pLx ?_
    show f_Ev_possible_s146 e M (nI un) (nI rm) (nI g) (nI td) (nI gn) (nI (aMs f N)) (nI N) = _
    unfold f_Ev_possible_s146 f_Ev_possible_b215
    by_cases q : g < 8
    · rw [show (8 : Int32) = nI 8 from rfl, if_neg (nI_nlt (by rw [hN, if_pos q]; omega) (by omega)), if_pos (nI_lt (by rw [hN, if_pos q]; omega) (by omega))]
      rfl
    · rw [show (8 : Int32) = nI 8 from rfl, if_pos (nI_lt (by rw [hN, if_neg q]; omega) (by omega))]
      rfl
theorem p_possible (ho : aB a) (hv : v < 4) (hp : p < 4) (hs : s < 4) {rd : Nat} (hrd : rd ≤ 1) (h10 : a 10 (4 * p + s) ≤ 2) (h11 : ∀ q, q < 4 → a 11 (4 * q + s) ≤ 1) : f_Ev_possible e (aW M e a) (nI v) (nI p) (nI s) (nI rd) = some (nI (aMs (aMay a v p s (if rd = 0 then 0 else a 10 (4 * p + s))) 9)) := by
  have hu := aUn_le (a := a) (v := v) (s := s)
  have hr := aRm_le (a := a) (v := v) (p := p) (s := s)
  have hhs := aHs_le a p
  have hdl := aDl_le a p s
  have hdd := aHd_dl (a := a) (s := s) hp
  have b97 : ∀ g, g ≤ aUn a v s → g ≤ 32 → (∀ n, n ≤ g ↔ (n = 0 ∨ a 11 (4 * p + s) = 0) ∧ n ≤ aHs a p ∧ n ≤ aUn a v s) → f_Ev_possible_b97 e (aW M e a) (nI p) (nI s) (nI rd) (nI (aUn a v s)) (nI (aRm a v p s)) (nI g) = some (nI (aMs (aMay a v p s (if rd = 0 then 0 else a 10 (4 * p + s))) 9)) := by
    intro g hg hg2 hiff
    have b117 : ∀ td, td ≤ 2 → f_Ev_possible_b117 e (aW M e a) (nI p) (nI s) (nI (aUn a v s)) (nI (aRm a v p s)) (nI g) (nI td) = some (nI (aMs (aMay a v p s td) 9)) := by
      intro td htd
      unfold f_Ev_possible_b117
      rw [p_dealt ho hs (by omega), pB, p_held ho hs (by omega), pB, pk_sub hdd, p_poss146 (by omega) (by omega) (by omega) hg htd (by omega)]
      refine congrArg (fun z => some (nI z)) (aMs_cong 9 fun i _ => ?_)
      unfold aMay
      refine decide_eq_decide.mpr ⟨fun z => ?_, fun z => ?_⟩
      · have := (hiff i).mp z.1.1
        exact ⟨⟨this.1, this.2.1, this.2.2, z.1.2⟩, z.2⟩
      · exact ⟨⟨(hiff i).mpr ⟨z.1.1, z.1.2.1, z.1.2.2.1⟩, z.1.2.2.2⟩, z.2⟩
    unfold f_Ev_possible_b97
    by_cases q : rd = 0
    · rw [if_pos (show nI rd = 0 by rw [q]; rfl), if_pos q]
      exact b117 0 (by omega)
    · rw [if_neg (show ¬ nI rd = 0 from z_ne (y := 0) (by omega) (by omega) q), if_neg q, p_signal hp hs, pB]
      exact b117 _ h10
  unfold f_Ev_possible f_Ev_possible_l17
  rw [p_unseen ho hv hs, pB]
  refine pFor0 (fun i => (nI (fb_sm (fun q => if q = v ∨ q = p ∨ a 11 (4 * q + s) = 1 then 0 else aHs a q) i), nI i)) 4 rfl ?_ ?_
  · intro i hi
    show f_Ev_possible_s17 e (aW M e a) (nI v) (nI p) (nI s) (nI rd) (nI (aUn a v s)) _ (nI i) = _
    unfold f_Ev_possible_s17 f_Ev_possible_b62
    rw [show (4 : Int32) = nI 4 from rfl, if_neg (nI_ge hi (by omega)), fb_sm_succ]
    by_cases q1 : i = v
    · rw [if_pos (by rw [q1]), if_pos (Or.inl q1), nI_1]; rfl
    · rw [if_neg (z_ne (by omega) (by omega) q1)]
      by_cases q2 : i = p
      · rw [if_pos (by rw [q2]), if_pos (Or.inr (Or.inl q2)), nI_1]; rfl
      · rw [if_neg (z_ne (by omega) (by omega) q2), p_showedNone ho hi hs, pB]
        by_cases q3 : a 11 (4 * i + s) = 1
        · rw [if_pos q3, if_neg (show ¬ nI 1 = 0 by decide), if_pos (Or.inr (Or.inr q3)), nI_1]; rfl
        · rw [if_neg q3, if_pos (show nI 0 = 0 from rfl), p_handSize ho (by omega), pB, if_neg (by omega), nI_add, nI_1]
  · refine pLx ?_
    show f_Ev_possible_s17 e (aW M e a) (nI v) (nI p) (nI s) (nI rd) (nI (aUn a v s)) (nI (aRm a v p s)) (nI 4) = _
    unfold f_Ev_possible_s17
    rw [show (4 : Int32) = nI 4 from rfl, if_pos (nI_le (Nat.le_refl 4) (by omega)), p_showedNone ho hp hs, pB]
    by_cases q3 : a 11 (4 * p + s) = 1
    · rw [if_pos q3, if_neg (show ¬ nI 1 = 0 by decide), show (0 : Int32) = nI 0 from rfl, b97 0 (by omega) (by omega) (fun n => by omega)]
      rfl
    · have h0 := h11 p hp
      rw [if_neg q3, if_pos (show nI 0 = 0 from rfl), p_handSize ho (by omega), pB]
      by_cases q4 : aUn a v s < aHs a p
      · rw [if_pos (nI_lt q4 (by omega)), b97 _ (Nat.le_refl _) (by omega) (fun n => by omega)]
        rfl
      · rw [if_neg (nI_nlt (by omega) (by omega)), b97 _ (by omega) (by omega) (fun n => by omega)]
        rfl
end MAY
