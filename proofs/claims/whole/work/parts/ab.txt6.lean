section YG
def xtMetC (o : Nat) (q : Nat × (Nat × Nat × Nat) × Nat) : Bool := if q.2.1.1 = 14 then xG1 q.2.2 (Jvm.Cond.methodLink (xCls o) q.1 yJ0_indexOf_0f7a4) else if q.2.1.1 = 15 then xG1 q.2.2 (Jvm.Cond.methodLink (xCls o) q.1 yJ0_length_8abf5) else if q.2.1.1 = 16 then xG1 q.2.2 (Jvm.Cond.methodLink (xCls o) q.1 yJ0_charAt_5068e) else true
theorem xtMetC_ok : (List.range 16).all (fun o => (xMetL.getD o []).all (xtMetC o)) = true := by decide +kernel
theorem xt_lo (d n : Nat) (h : 60 * (d + 8) ≤ n) : 30 * (3 + 1) ≤ n := by omega
theorem xt_lo1 (d n : Nat) (h : 60 * (d + 8) ≤ n) : 30 * (1 + 1) ≤ n := by omega
theorem xt_at {a n : Nat} (h1 : xKb + 10 ≤ a) (h2 : a < xKb + 10 + n) : ∃ t, a = xKb + 10 + t ∧ t < n := ⟨a - (xKb + 10), (Nat.add_sub_of_le h1).symm, by omega⟩
theorem xt_sub (t : Nat) : xKb + 10 + t - (xKb + 10) = t := Nat.add_sub_cancel_left _ _
set_option maxHeartbeats 4000000 in
/-- the library's texts -/
theorem xText_ok {l : Launch} {P : xP} : xTextOK l P := by
  intro d M p e R s m args below meth c Q c0 s0 pc pc' w j k N na i ls ls' st st' h h' F hd hi hm hw hk hs cap kk
  obtain ⟨hx, hb, -, hml, hown, hts, -, hinn, g, hf1, hf2, hbs, hz0⟩ := id F
  obtain ⟨q9, hq9⟩ := x_all xtMetC_ok rfl hm
  unfold xLib at hs
  split at hs
  next => omega
  next => omega
  next => omega
  next => omega
  next =>
    have hlk : Jvm.Cond.methodLink (xCls (xOwn M)) j yJ0_indexOf_0f7a4 ∈ xGw := xG1_in (by simpa [xtMetC] using hq9)
    obtain rfl : i = .invokevirtual j := by
      cases i <;> simp [xIdx] at hi <;> obtain ⟨rfl, rfl⟩ := hi <;> first | rfl | simp [xKindL] at hw
    split at hs
    next x a r =>
      split at hs
      next hc =>
        obtain ⟨hc1, hc2, hc3⟩ := hc
        obtain ⟨t, rfl, ht⟩ := xt_at hc2 hc3
        rw [xt_sub] at hs
        cases hs
        intro arr H locs h1 h2 h3 h4 h5
        refine xt_V (As := [.int x]) (rest := r.map (xV (xAd P))) (n := 1) hx hb hml hown hts g h3 (xt_indexOf ht x) hlk (xtG_in (by decide +kernel)) (xtG_in (by decide +kernel)) (xtG_in (by decide +kernel)) (xtG_in (by decide +kernel)) (by decide +kernel) rfl (xt_recv g ht h3) (by decide) (by omega) (xt_lo d _ hf2) cap h1.2.1 (by rw [x_cat]; exact hc1) hd ?_
        exact kk arr H locs h1 h2 h3 h4 h5
      next => cases hs
    next => cases hs
  next =>
    have hlk : Jvm.Cond.methodLink (xCls (xOwn M)) j yJ0_length_8abf5 ∈ xGw := xG1_in (by simpa [xtMetC] using hq9)
    obtain rfl : i = .invokevirtual j := by
      cases i <;> simp [xIdx] at hi <;> obtain ⟨rfl, rfl⟩ := hi <;> first | rfl | simp [xKindL] at hw
    split at hs
    next a r =>
      split at hs
      next hc =>
        obtain ⟨hc1, hc2, hc3⟩ := hc
        obtain ⟨t, rfl, ht⟩ := xt_at hc2 hc3
        rw [xt_sub] at hs
        cases hs
        intro arr H locs h1 h2 h3 h4 h5
        refine xt_V (As := []) (rest := r.map (xV (xAd P))) (n := 0) hx hb hml hown hts g h3 (xt_length ht) hlk (xtG_in (by decide +kernel)) (xtG_in (by decide +kernel)) (xtG_in (by decide +kernel)) (xtG_in (by decide +kernel)) (by decide +kernel) rfl (xt_recv g ht h3) (by decide) (by omega) (xt_lo1 d _ hf2) cap h1.2.1 (by rw [x_cat]; exact hc1) hd ?_
        exact kk arr H locs h1 h2 h3 h4 h5
      next => cases hs
    next => cases hs
  next =>
    have hlk : Jvm.Cond.methodLink (xCls (xOwn M)) j yJ0_charAt_5068e ∈ xGw := xG1_in (by simpa [xtMetC] using hq9)
    obtain rfl : i = .invokevirtual j := by
      cases i <;> simp [xIdx] at hi <;> obtain ⟨rfl, rfl⟩ := hi <;> first | rfl | simp [xKindL] at hw
    split at hs
    next x a r =>
      split at hs
      next hc =>
        obtain ⟨hc1, hc2, hc3, hc4⟩ := hc
        obtain ⟨t, rfl, ht⟩ := xt_at hc2 hc3
        rw [xt_sub] at hs hc4
        cases hs
        obtain ⟨hx1, hx2⟩ := not_or.mp hc4
        intro arr H locs h1 h2 h3 h4 h5
        refine xt_V (As := [.int x]) (rest := r.map (xV (xAd P))) (n := 1) hx hb hml hown hts g h3 (xt_charAt ht hx1 (Nat.not_le.mp hx2)) hlk (xtG_in (by decide +kernel)) (xtG_in (by decide +kernel)) (xtG_in (by decide +kernel)) (xtG_in (by decide +kernel)) (by decide +kernel) rfl (xt_recv g ht h3) (by decide) (by omega) (xt_lo d _ hf2) cap h1.2.1 (by rw [x_cat]; exact hc1) hd ?_
        exact kk arr H locs h1 h2 h3 h4 h5
      next => cases hs
    next => cases hs
  next => cases hs
end YG
