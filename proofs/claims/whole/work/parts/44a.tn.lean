/-! ===== who has a turn: inTurn() ===== -/
theorem s269 {κ : yK} {m : yM} {u p : Nat} (h : m.1 0 16 = yN p) (h1 : 1 ≤ p) (h4 : p ≤ 4) (hu : u < 2147483648) : f_269 0 (yN u) (yH κ m) = some (yN (u % p), yH κ m) := by
  unfold f_269
  rw [yi_0_16, yBs, h, if_neg (by rw [yN_lel (by omega) (by omega)]; omega)]
  by_cases h0 : u = 0
  · subst h0
    rw [if_pos (by rw [yN_lel (by omega) (by omega)]; omega), yBs, Nat.zero_mod]; rfl
  · rw [if_neg (by rw [yN_lel (by omega) (by omega)]; omega), yBs, yp_remN hu (by omega) (by omega), yBs, yBs]
