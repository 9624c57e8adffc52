/-! ===== rule(): the class's beginning ===== -/
def u0 : uS := ([], [], 0, fun _ => false, 0, true)
theorem u0_ok : uK u0 0 := ⟨Nat.le_refl 0, fun c q => absurd q (by simp [u0]), by decide, rfl, by decide, fun q => absurd q (by decide)⟩
section SB
variable {κ : yK} {C : zC}
theorem s55 {m : yM} : ∃ m', f_55 110 (yH κ m) = some (yH κ m') ∧ Rs m' u0 ∧ yFr sU m m' := by
  have g : ∀ x j, (yW (yW (yW (yW (yW (yW m 110 6 0) 110 7 0) 110 8 0) 110 9 0) 110 10 1) 115 0 0).1 x j = if x = 115 ∧ j = 0 then 0 else if x = 110 ∧ j = 10 then 1 else if x = 110 ∧ j = 9 then 0 else if x = 110 ∧ j = 8 then 0 else if x = 110 ∧ j = 7 then 0 else if x = 110 ∧ j = 6 then 0 else m.1 x j := fun x j => by
    rw [yW_get, yW_get, yW_get, yW_get, yW_get, yW_get]
  refine ⟨yW (yW (yW (yW (yW (yW m 110 6 0) 110 7 0) 110 8 0) 110 9 0) 110 10 1) 115 0 0, ?_, ⟨⟨?_, fun j c q => by simp [u0] at q⟩, ?_, trivial, ?_, fun d hd => ?_, ?_, ?_⟩, ⟨rfl, fun x j q => ?_⟩⟩
  · unfold f_55
    rw [yp_110_6, yBs, yp_110_7, yBs, yp_110_8, yBs, yp_110_9, yBs, yp1_110_10, yBs, yr_110_4, yBs, show pSb (yH κ (yW (yW (yW (yW (yW m 110 6 0) 110 7 0) 110 8 0) 110 9 0) 110 10 1)) 115 0 0 = _ from yst_115 (i := 0) (x := 0) (by omega), yBs]
    rfl
  · rw [g]; rfl
  · rw [g]; rfl
  · rw [g]; rfl
  · have hd' : d ≤ 0 := hd
    obtain rfl : d = 0 := by omega
    rw [g]; rfl
  · rw [g]; rfl
  · rw [g]; rfl
  · unfold sU at q
    rw [g, if_neg (by omega), if_neg (by omega), if_neg (by omega), if_neg (by omega), if_neg (by omega), if_neg (by omega)]
end SB
