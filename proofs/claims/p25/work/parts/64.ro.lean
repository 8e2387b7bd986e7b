-- ===== PURE: calls that only read =====
theorem z_ne {x y : Nat} (hx : x < 4294967296) (hy : y < 4294967296) (h : x ≠ y) : ¬ nI x = nI y := fun q => h ((z_inj hx hy).mp q)
section CK
variable {v : Int32} {n w : Nat}
theorem k_what0 (hn : n + 1 < 2 ^ 31) (h : v < 0 ∨ nI (n + 1) ≤ v) : f_DS_checkWhat v (nI n) = some (.inl 1) := by
  unfold f_DS_checkWhat
  by_cases z : v < 0
  · rw [if_pos z]
  · rcases h with h | h
    · exact absurd h z
    · rw [if_neg z, if_neg (fun q => by rw [fa_le, pN (by omega)] at h q; omega)]
theorem k_what1 (hn : n < 2 ^ 31) (h : w ≤ n) : f_DS_checkWhat (nI w) (nI n) = some (.inr ()) := by
  unfold f_DS_checkWhat
  rw [if_neg (nI_pos (by omega)), if_pos (nI_le h hn)]
theorem k_place0 (hn : n < 2 ^ 31) (h : v < 0 ∨ nI n ≤ v) : f_DS_checkPlace v (nI n) = some (.inl 3) := by
  unfold f_DS_checkPlace
  by_cases z : v < 0
  · rw [if_pos z]
  · rcases h with h | h
    · exact absurd h z
    · rw [if_neg z, if_neg (fun q => by rw [fa_le, pN (by omega)] at h; rw [fa_lt, pN (by omega)] at q; omega)]
theorem k_place1 (hn : n < 2 ^ 31) (h : w < n) : f_DS_checkPlace (nI w) (nI n) = some (.inr ()) := by
  unfold f_DS_checkPlace
  rw [if_neg (nI_pos (by omega)), if_pos (nI_lt h hn)]
end CK
section RO1
variable {M : gMem} {E : Nat → Nat → Nat → Nat} {n c k : Nat} {u : Nat → Nat} {l : Nat} {t r d q : Nat → Nat} {v v2 v3 : Int32}
def aAb (a : Nat → Nat → Nat) (w : Nat) : Nat := if w = 0 then a 0 4 else if w = 1 then a 0 5 else if w = 2 then a 0 6 else if w = 3 then 10 * a 0 7 + a 0 8 else if w = 4 then (if a 0 5 = 1 then 4294967295 else a 0 9) else if w = 5 then a 3 0 else if w = 6 then a 3 1 else if w = 7 then a 4 0 else if w = 8 then a 4 1 else if w = 9 then a 0 11 else if w = 10 then a 0 12 else a 0 13
theorem p_number {e w : Nat} {a : Nat → Nat → Nat} (hp : a 0 5 < 4294967296) (hw : w < 12) : f_Ev_number e (aW M e a) (nI w) = some (nI (aAb a w)) := by
  unfold f_Ev_number
  rcases (show w = 0 ∨ w = 1 ∨ w = 2 ∨ w = 3 ∨ w = 4 ∨ w = 5 ∨ w = 6 ∨ w = 7 ∨ w = 8 ∨ w = 9 ∨ w = 10 ∨ w = 11 by omega) with rfl | rfl | rfl | rfl | rfl | rfl | rfl | rfl | rfl | rfl | rfl | rfl
  · rw [if_pos (by decide), aW_r]; rfl
  · rw [if_neg (by decide), if_pos (by decide), aW_r]; rfl
  · rw [if_neg (by decide), if_neg (by decide), if_pos (by decide), aW_r]; rfl
  · rw [if_neg (by decide), if_neg (by decide), if_neg (by decide), if_pos (by decide), aW_r, aW_r, show (10 : Int32) = nI 10 from rfl, pk_mul, nI_add]; rfl
  · rw [if_neg (by decide), if_neg (by decide), if_neg (by decide), if_neg (by decide), if_pos (by decide), aW_r, aW_r, show (1 : Int32) = nI 1 from rfl]
    show _ = some (nI (if a 0 5 = 1 then 4294967295 else a 0 9))
    by_cases z : a 0 5 = 1
    · rw [if_pos (by rw [z]), if_pos z]; rfl
    · rw [if_neg (fun q => z ((z_inj hp (by omega)).mp q)), if_neg z]
  · rw [if_neg (by decide), if_neg (by decide), if_neg (by decide), if_neg (by decide), if_neg (by decide), if_pos (by decide)]
    unfold f_Ev_number_b105
    rw [show nI 5 - 5 = nI 0 from by decide, p_at (by omega) (by omega), pB]; rfl
  · rw [if_neg (by decide), if_neg (by decide), if_neg (by decide), if_neg (by decide), if_neg (by decide), if_neg (by decide), if_pos (by decide)]
    unfold f_Ev_number_b105
    rw [show nI 6 - 5 = nI 1 from by decide, p_at (by omega) (by omega), pB]; rfl
  · rw [if_neg (by decide), if_neg (by decide), if_neg (by decide), if_neg (by decide), if_neg (by decide), if_neg (by decide), if_neg (by decide), if_pos (by decide)]
    unfold f_Ev_number_b116
    rw [show nI 7 - 7 = nI 0 from by decide, p_at (by omega) (by omega), pB]; rfl
  · rw [if_neg (by decide), if_neg (by decide), if_neg (by decide), if_neg (by decide), if_neg (by decide), if_neg (by decide), if_neg (by decide), if_neg (by decide), if_pos (by decide)]
    unfold f_Ev_number_b116
    rw [show nI 8 - 7 = nI 1 from by decide, p_at (by omega) (by omega), pB]; rfl
  · rw [if_neg (by decide), if_neg (by decide), if_neg (by decide), if_neg (by decide), if_neg (by decide), if_neg (by decide), if_neg (by decide), if_neg (by decide), if_neg (by decide), if_pos (by decide), aW_r]; rfl
  · rw [if_neg (by decide), if_neg (by decide), if_neg (by decide), if_neg (by decide), if_neg (by decide), if_neg (by decide), if_neg (by decide), if_neg (by decide), if_neg (by decide), if_neg (by decide), if_pos (by decide), aW_r]; rfl
  · rw [if_neg (by decide), if_neg (by decide), if_neg (by decide), if_neg (by decide), if_neg (by decide), if_neg (by decide), if_neg (by decide), if_neg (by decide), if_neg (by decide), if_neg (by decide), if_neg (by decide), aW_r]; rfl
end RO1
