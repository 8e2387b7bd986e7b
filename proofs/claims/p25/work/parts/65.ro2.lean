-- ===== PURE: cards, suits, the trick, what can be played, the advice, told by both =====
section RO2
variable {M : gMem} {E : Nat → Nat → Nat → Nat} {n c k : Nat} {u : Nat → Nat} {l : Nat} {t r d q : Nat → Nat} {v v2 v3 : Int32}
theorem p_playable0 {e : Nat} {a : Nat → Nat → Nat} (hp : a 0 5 < 4294967296) (h : a 0 5 ≠ 2) (x : Int32) : f_Ev_playable e (aW M e a) x = some (nI 4294967295) := by
  unfold f_Ev_playable
  rw [aW_r, show (2 : Int32) = nI 2 from rfl, if_neg (fun z => h ((z_inj hp (by omega)).mp z)), z_m1]
end RO2
