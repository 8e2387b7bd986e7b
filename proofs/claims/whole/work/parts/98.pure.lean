theorem e_pure : e_Pure := by sorry
