/-! ===== games: the class's keys ===== -/
def sGx (x j : Nat) : Prop := (118 ≤ x ∧ x ≤ 134) ∨ sW x j
/-- nothing changed but what games use -/
def gF (m m' : yM) : Prop := (∀ x j, ¬ sGx x j → m'.1 x j = m.1 x j) ∧ ∀ x j, ¬ (x = 124 ∨ x = 125) → m'.2 x j = m.2 x j
theorem gF.rf (m : yM) : gF m m := ⟨fun _ _ _ => rfl, fun _ _ _ => rfl⟩
theorem gF.tr {m m2 m3 : yM} (h : gF m m2) (g : gF m2 m3) : gF m m3 := ⟨fun x j q => (g.1 x j q).trans (h.1 x j q), fun x j q => (g.2 x j q).trans (h.2 x j q)⟩
theorem gF.of {S : Nat → Nat → Prop} {m m' : yM} (h : yFr S m m') (hs : ∀ x j, S x j → sGx x j) : gF m m' := ⟨fun x j q => h.2 x j (fun z => q (hs x j z)), fun x j _ => by rw [h.1]⟩
theorem gF.w {m : yM} {a k : Nat} {x : Int32} (h : 118 ≤ a ∧ a ≤ 134) : gF m (yW m a k x) := ⟨fun y j q => by rw [yW_get, if_neg]; rintro ⟨rfl, -⟩; exact q (Or.inl h), fun _ _ _ => rfl⟩
theorem gF.wl {m : yM} {a k : Nat} {x : Int64} (h : a = 124 ∨ a = 125) : gF m (yWl m a k x) := ⟨fun _ _ _ => rfl, fun y j q => by rw [yWl_get, if_neg]; rintro ⟨rfl, -⟩; exact q h⟩
def mixL (a w : Int64) : Int64 := ((a ^^^ w) * (-7046029254386353131 : Int64)) ^^^ (((((a ^^^ w) * (-7046029254386353131 : Int64)) : Int64).toUInt64 >>> ((29 : Int32).toInt64.toUInt64 &&& Int64.toUInt64 63)).toInt64)
def cHI (W : Nat → Int64) : Int32 := ((((mixL (mixL (mixL 0 (W 0)) (W 1)) (W 2) : Int64).toUInt64 >>> ((32 : Int32).toInt64.toUInt64 &&& Int64.toUInt64 63)).toInt64 : Int64).toInt32) &&& 1023
def cHa (W : Nat → Int64) : Nat := (cHI W).toBitVec.toNat
theorem and1023 (x : Int32) : (x &&& 1023).toBitVec.toNat < 1024 ∧ x &&& 1023 = yN (x &&& 1023).toBitVec.toNat := by
  have h : (x &&& 1023).toBitVec.toNat < 1024 := by
    rw [Int32.toBitVec_and, BitVec.toNat_and]
    exact Nat.lt_of_le_of_lt Nat.and_le_right (by decide)
  refine ⟨h, ?_⟩
  apply Int32.toBitVec_inj.1
  show _ = BitVec.ofNat 32 _
  rw [BitVec.ofNat_toNat, BitVec.setWidth_eq]
theorem cHa_e (W : Nat → Int64) : cHa W < 1024 ∧ cHI W = yN (cHa W) := and1023 _
theorem cHa_c {W W' : Nat → Int64} (h : ∀ w, w < 3 → W w = W' w) : cHa W = cHa W' := by
  unfold cHa cHI
  rw [h 0 (by omega), h 1 (by omega), h 2 (by omega)]
theorem lgc_e (x y : Int64) : (lg_cmp x y = 0) = (x = y) := by
  apply propext
  constructor
  · intro h
    have h1 := lgc_lt x y
    have h2 := lgc_gt x y
    rw [h] at h1 h2
    have a : ¬ x < y := fun q => by rw [← h1] at q; exact absurd q (by decide)
    have b : ¬ y < x := fun q => by rw [← h2] at q; exact absurd q (by decide)
    exact Int64.le_antisymm (Int64.not_lt.1 b) (Int64.not_lt.1 a)
  · rintro rfl
    have h1 := lgc_lt x x
    have h2 := lgc_gt x x
    have a : ¬ lg_cmp x x < 0 := fun q => by rw [h1] at q; exact Int64.lt_irrefl q
    have b : ¬ 0 < lg_cmp x x := fun q => by rw [h2] at q; exact Int64.lt_irrefl q
    exact Int32.le_antisymm (Int32.not_lt.1 b) (Int32.not_lt.1 a)
section GE
variable {κ : yK}
theorem s27 {m : yM} : f_27 118 (yH κ m) = some (yN (cHa (m.2 125)), yH κ m) := by
  have e : f_27_4 100000 118 (0 : Int64) 0 (yH κ m) = some (mixL (mixL (mixL 0 (m.2 125 0)) (m.2 125 1)) (m.2 125 2), yH κ m) := by
    have st : ∀ (fu k : Nat) (a : Int64), k < 3 → f_27_4 (fu + 1) 118 a (yN k) (yH κ m) = f_27_4 fu 118 (mixL a (m.2 125 k)) (yN (k + 1)) (yH κ m) := fun fu k a hk => by
      rw [f_27_4, if_neg (by rw [yN_lle (by omega) (by omega)]; show ¬ 3 ≤ k; omega), yr_118_3, yBs, show pAl (yH κ m) 125 (yN k) = _ from ya_125 hk, yBs, yN_addl]; rfl
    rw [show (0 : Int32) = yN 0 from rfl, st 99999 0 _ (by omega), st 99998 1 _ (by omega), st 99997 2 _ (by omega), show (99997 : Nat) = 99996 + 1 from rfl, f_27_4, if_pos (by decide)]
  unfold f_27
  rw [e, yBs]
  dsimp only
  rw [← (cHa_e (m.2 125)).2]
  rfl
theorem s24 {m : yM} {k b : Nat} {th : Nat → Int32} (hk : k < 400) (hb : b < 48) (h : kW (fun w => m.2 124 (3 * k + w)) th) (o : okV (th b)) : f_24 118 (yN k) (yN b) (yH κ m) = some (th b, yH κ m) := by
  unfold f_24
  rw [yr_118_2, yBs, yp_div (by omega) (by omega) (by decide), yBs, yN_lmul, yN_add, show pAl (yH κ m) 124 (yN (3 * k + b / 16)) = _ from ya_124 (by omega), yBs, yp_rem (by omega) (by omega) (by decide), yBs, yN_lmul]
  have hh := h b hb
  unfold nbI at hh
  show some ((((((m.2 124 (3 * k + b / 16) : Int64).toUInt64 >>> ((yN (4 * (b % 16)) : Int32).toInt64.toUInt64 &&& Int64.toUInt64 63)).toInt64) &&& (15 : Int64)) : Int64).toInt32 - 1, yH κ m) = _
  rw [hh, (okV_v o).2]
theorem s23 {m : yM} {b : Nat} {v : Int32} {th : Nat → Int32} (hb : b < 48) (hv : okV v) (h : kW (m.2 125) th) : ∃ m', f_23 118 (yN b) v (yH κ m) = some (yH κ m') ∧ kW (m'.2 125) (upd th b v) ∧ m'.1 = m.1 ∧ m'.2 124 = m.2 124 ∧ gF m m' := by
  refine ⟨yWl m 125 (b / 16) (stI (m.2 125 (b / 16)) (b % 16) (v + 1).toInt64), ?_, ?_, rfl, yRl_ne _ _ (by omega), gF.wl (Or.inr rfl)⟩
  · unfold f_23
    rw [yp_rem (by omega) (by omega) (by decide), yBs, yp_div (by omega) (by omega) (by decide), yBs, yr_118_3, yBs, yBs, show pAl (yH κ m) 125 (yN (b / 16)) = _ from ya_125 (by omega), yBs, yN_lmul, yst_125 (by omega), yBs]
    rfl
  · have : (yWl m 125 (b / 16) (stI (m.2 125 (b / 16)) (b % 16) (v + 1).toInt64)).2 125 = vp_updL (m.2 125) (b / 16) (stI (m.2 125 (b / 16)) (b % 16) (v + 1).toInt64) := yRl_eq _ _ _
    rw [this]; exact h.set hb hv
theorem s28s {m : yM} {k : Nat} (hk : k < 400) (fu w : Nat) (hw : w < 3) : f_28_2 (fu + 1) 118 (yN k) (yN w) (yH κ m) = if m.2 124 (3 * k + w) = m.2 125 w then f_28_2 fu 118 (yN k) (yN (w + 1)) (yH κ m) else some (.inr (0, yH κ m)) := by
  rw [f_28_2, if_neg (by rw [yN_lle (by omega) (by omega)]; show ¬ 3 ≤ w; omega), yr_118_2, yBs, yN_lmul, yN_add, show pAl (yH κ m) 124 (yN (3 * k + w)) = _ from ya_124 (by omega), yBs, yr_118_3, yBs, show pAl (yH κ m) 125 (yN w) = _ from ya_125 hw, yBs, yN_addl]
  by_cases q : m.2 124 (3 * k + w) = m.2 125 w
  · rw [if_pos (by rw [lgc_e]; exact q), if_pos q]
  · rw [if_neg (by rw [lgc_e]; exact q), if_neg q, pZ_0, yBs]
theorem s28e {m : yM} {k fu : Nat} : f_28_2 (fu + 1) 118 (yN k) (yN 3) (yH κ m) = some (.inl (yH κ m)) := by rw [f_28_2, if_pos (by decide)]
theorem s28t {m : yM} {k : Nat} (hk : k < 400) (h : ∀ w, w < 3 → m.2 124 (3 * k + w) = m.2 125 w) : f_28 118 (yN k) (yH κ m) = some (1, yH κ m) := by
  unfold f_28
  rw [show (0 : Int32) = yN 0 from rfl, s28s hk 99999 0 (by omega), if_pos (h 0 (by omega)), s28s hk 99998 1 (by omega), if_pos (h 1 (by omega)), s28s hk 99997 2 (by omega), if_pos (h 2 (by omega)), s28e (fu := 99996), yBs]
  exact pZ_1 _
theorem s28f {m : yM} {k : Nat} (hk : k < 400) (h : ¬ ∀ w, w < 3 → m.2 124 (3 * k + w) = m.2 125 w) : f_28 118 (yN k) (yH κ m) = some (0, yH κ m) := by
  unfold f_28
  rw [show f_28_2 100000 118 (yN k) 0 (yH κ m) = _ from s28s hk 99999 0 (by omega)]
  by_cases q0 : m.2 124 (3 * k + 0) = m.2 125 0
  · rw [if_pos q0, s28s hk 99998 1 (by omega)]
    by_cases q1 : m.2 124 (3 * k + 1) = m.2 125 1
    · rw [if_pos q1, s28s hk 99997 2 (by omega)]
      by_cases q2 : m.2 124 (3 * k + 2) = m.2 125 2
      · exfalso
        refine h (fun w hw => ?_)
        rcases (show w = 0 ∨ w = 1 ∨ w = 2 by omega) with rfl | rfl | rfl <;> assumption
      · rw [if_neg q2, yBs]
    · rw [if_neg q1, yBs]
  · rw [if_neg q0, yBs]
theorem s265 {m : yM} : ∃ m', f_265 125 0 (yH κ m) = some (yH κ m') ∧ (∀ w, w < 3 → m'.2 125 w = 0) ∧ m'.1 = m.1 ∧ m'.2 124 = m.2 124 ∧ gF m m' := by
  have st : ∀ (fu w : Nat) (m : yM), w < 3 → f_265_6 (fu + 1) 125 0 (yN w) (yN 3) (yH κ m) = f_265_6 fu 125 0 (yN (w + 1)) (yN 3) (yH κ (yWl m 125 w 0)) := fun fu w m hw => by
    rw [f_265_6, if_neg (by rw [yN_le (by omega) (by omega)]; omega), yst_125 hw, yBs, yN_addl]
  refine ⟨yWl (yWl (yWl m 125 0 0) 125 1 0) 125 2 0, ?_, fun w hw => ?_, rfl, ?_, ((gF.wl (Or.inr rfl)).tr (gF.wl (Or.inr rfl))).tr (gF.wl (Or.inr rfl))⟩
  · unfold f_265
    rw [show pLen (yH κ m) 125 = some (yN 3) from yh_len (t := 1) rfl (by omega), yBs, show (0 : Int32) = yN 0 from rfl, st 99999 0 _ (by omega), st 99998 1 _ (by omega), st 99997 2 _ (by omega), show (99997 : Nat) = 99996 + 1 from rfl, f_265_6, if_pos (by decide), yBs]
  · rw [yWl_get, yWl_get, yWl_get]
    rcases (show w = 0 ∨ w = 1 ∨ w = 2 by omega) with rfl | rfl | rfl <;> simp
  · funext j
    rw [yWl_get, yWl_get, yWl_get, if_neg (by omega), if_neg (by omega), if_neg (by omega)]
theorem nb0 : ∀ i : Fin 16, nbI 0 i.val = ((-1 : Int32) + 1).toInt64 := by decide +kernel
theorem kW.cg {W : Nat → Int64} {th th' : Nat → Int32} (h : kW W th) (e : ∀ b, b < 48 → th b = th' b) : kW W th' := fun b hb => by rw [← e b hb]; exact h b hb
theorem kW.cw {W W' : Nat → Int64} {th : Nat → Int32} (h : kW W th) (e : ∀ w, w < 3 → W' w = W w) : kW W' th := fun b hb => by rw [e _ (by omega)]; exact h b hb
theorem s22 {m : yM} {th : Nat → Int32} {n : Nat} (ht : Tow m 6 th n) (o : ∀ b, b < 48 → okV (th b)) : ∃ m', f_22 118 6 (yH κ m) = some (yH κ m') ∧ kW (m'.2 125) th ∧ m'.1 = m.1 ∧ m'.2 124 = m.2 124 ∧ gF m m' := by
  obtain ⟨m1, e1, z1, a1, b1, g1⟩ := s265 (κ := κ) (m := m)
  have lp : ∀ (d b fu : Nat) (m : yM), b + d = 48 → d < fu → m.1 7 = th → kW (m.2 125) (fun j => if j < b then th j else -1) → ∃ m', f_22_10 fu 118 6 (yN b) (yH κ m) = some (yH κ m') ∧ kW (m'.2 125) th ∧ m'.1 = m.1 ∧ m'.2 124 = m.2 124 ∧ gF m m' := by
    intro d
    induction d with
    | zero =>
      intro b fu m hb hf ht h
      obtain ⟨fu, rfl⟩ : ∃ k, fu = k + 1 := ⟨fu - 1, by omega⟩
      obtain rfl : b = 48 := by omega
      exact ⟨m, by rw [f_22_10, if_pos (by decide)], h.cg (fun b hb => if_pos hb), rfl, rfl, gF.rf m⟩
    | succ d ih =>
      intro b fu m hb hf ht h
      obtain ⟨fu, rfl⟩ : ∃ k, fu = k + 1 := ⟨fu - 1, by omega⟩
      obtain ⟨m2, e2, k2, a2, b2, g2⟩ := s23 (κ := κ) (b := b) (v := th b) (by omega) (o b (by omega)) h
      obtain ⟨m3, e3, k3, a3, b3, g3⟩ := ih (b + 1) fu m2 (by omega) (by omega) (by rw [a2]; exact ht) (k2.cg (fun j hj => by
        by_cases q : j = b
        · subst q; rw [upd_eq, if_pos (by omega)]
        · rw [upd_ne _ _ q]
          by_cases z : j < b
          · rw [if_pos z, if_pos (by omega)]
          · rw [if_neg z, if_neg (by omega)]))
      refine ⟨m3, ?_, k3, by rw [a3, a2], by rw [b3, b2], g2.tr g3⟩
      rw [f_22_10, if_neg (by rw [yN_lle (by omega) (by omega)]; show ¬ 48 ≤ b; omega), yt_0 ytw_6, yBs, yt_a1 ytw_6 (by omega), yBs, ht, yis_118, pG_t, yBs, e2, yBs, yN_addl, e3]
  obtain ⟨m2, e2, k2, a2, b2, g2⟩ := lp 48 0 100000 m1 (by omega) (by omega) (by rw [a1]; exact ht.1) (fun b hb => by rw [z1 _ (by omega)]; exact nb0 ⟨b % 16, by omega⟩)
  refine ⟨m2, ?_, k2, by rw [a2, a1], by rw [b2, b1], g1.tr g2⟩
  unfold f_22
  rw [yr_118_3, yBs, e1, yBs, show f_22_10 100000 118 6 0 (yH κ m1) = _ from e2, yBs]
end GE
