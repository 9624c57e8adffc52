/-! ===== the law, as a plain function, answers 1 ===== -/
theorem W4_len : W4.length = 178 := by decide +kernel
set_option maxRecDepth 100000 in
theorem x_claim : xClaim := by
  intro L xs hL
  have e1 : pNw (x0 L xs) 11 = some (0, cH [.inr (11, xDef.getD 11 [])] 17 L xs) := o_Nw (cs := []) (sl := 0) (by decide) rfl rfl rfl
  have e2 : pIs (cH [.inr (11, xDef.getD 11 [])] 17 L xs) 0 11 = true := o_Is rfl
  have e4 : pNw (cH W4 58071 L xs) 12 = some (178, cH (W4 ++ [.inr (12, xDef.getD 12 [])]) 58124 L xs) := o_Nw (by rw [W4_len]; omega) W4_len rfl rfl
  have g5 : (W4 ++ [.inr (12, xDef.getD 12 [])])[178]? = some (.inr (12, xDef.getD 12 [])) := by
    have h := ga (cs := W4) (rest := [.inr (12, xDef.getD 12 [])]) 0
    rw [W4_len] at h
    exact h.trans rfl
  have e5 : pIs (cH (W4 ++ [.inr (12, xDef.getD 12 [])]) 58124 L xs) 178 12 = true := o_Is g5
  have e6 : f_166 178 (cH (W4 ++ [.inr (12, xDef.getD 12 [])]) 58124 L xs) = some (cH (W4 ++ B166 178) 87125 L xs) := by
    have h := k166 (cs := W4) (sl := 58124) (L := L) (xs := xs) (by rw [W4_len]; omega)
    rw [W4_len] at h
    exact h
  have hl7 : (W4 ++ B166 178).length = 212 := by decide +kernel
  have e7 : pNl (cH (W4 ++ B166 178) 87125 L xs) 1 = some (212, cH zCs 87126 L xs) := o_Nl (n := 1) (by omega) (by rw [hl7]; omega) hl7 rfl rfl
  obtain ⟨κ', m', e8, a, b, c⟩ := law_lp hL 512 0 100000 (213, 87126, 0, L, xs) m0 (by omega) (by omega) (by omega) rfl St0
  have a' : κ'.1 = 213 := a
  have b' : κ'.2.1 ≤ 87126 + 6 * 512 := b
  have c' : κ'.2.2.1 ≤ 0 + 512 := c
  refine ⟨yH κ' m', ?_, ?_, ?_⟩
  · unfold f_270
    rw [e1, yBs]
    dsimp only
    rw [e2, pG_t, yBs, k104, yBs, e4, yBs]
    dsimp only
    rw [e5, pG_t, yBs, e6, yBs, e7, yBs]
    dsimp only
    rw [zCs_y, show f_270_23 100000 (xKb + 2) 0 178 212 0 (yH (213, 87126, 0, L, xs) m0) = _ from e8, yBs]
    exact pZ_1 _
  · show κ'.1 + κ'.2.2.1 ≤ 601024
    omega
  · show κ'.2.1 ≤ 7293034
    omega
