/-! ===== games: thicknesses in longs ===== -/
def nbI (w : Int64) (i : Nat) : Int64 := (w.toUInt64 >>> (((yN (4 * i)) : Int32).toInt64.toUInt64 &&& Int64.toUInt64 63)).toInt64 &&& (15 : Int64)
def stI (w : Int64) (i : Nat) (v : Int64) : Int64 := (w &&& (((15 : Int64) <<< (((yN (4 * i)) : Int32).toInt64 &&& 63)) ^^^ (-1 : Int64))) ||| (v <<< (((yN (4 * i)) : Int32).toInt64 &&& 63))
theorem shL : ∀ i : Fin 16, (BitVec.smod (((yN (4 * i.val)) : Int32).toInt64 &&& 63).toBitVec 64).toNat = 4 * i.val := by decide +kernel
theorem shR : ∀ i : Fin 16, ((((yN (4 * i.val)) : Int32).toInt64.toUInt64 &&& Int64.toUInt64 63).toBitVec % 64).toNat = 4 * i.val := by decide +kernel
theorem nbI_b {w : Int64} {i : Nat} (h : i < 16) : (nbI w i).toBitVec = (w.toBitVec >>> (4 * i)) &&& 15#64 := by
  unfold nbI
  rw [Int64.toBitVec_and]
  show (w.toUInt64 >>> (((yN (4 * i)) : Int32).toInt64.toUInt64 &&& Int64.toUInt64 63)).toBitVec &&& _ = _
  rw [UInt64.toBitVec_shiftRight, BitVec.ushiftRight_eq', shR ⟨i, h⟩]
  rfl
theorem shl_b {v : Int64} {i : Nat} (h : i < 16) : (v <<< (((yN (4 * i)) : Int32).toInt64 &&& 63)).toBitVec = v.toBitVec <<< (4 * i) := by
  rw [Int64.toBitVec_shiftLeft, BitVec.shiftLeft_eq', shL ⟨i, h⟩]
theorem stI_b {w v : Int64} {i : Nat} (h : i < 16) : (stI w i v).toBitVec = (w.toBitVec &&& ((15#64 <<< (4 * i)) ^^^ BitVec.allOnes 64)) ||| (v.toBitVec <<< (4 * i)) := by
  unfold stI
  rw [Int64.toBitVec_or, Int64.toBitVec_and, Int64.toBitVec_xor, shl_b h, shl_b h]
  rfl
theorem b15 (k : Nat) : (15#64).getLsbD k = decide (k < 4) := by
  by_cases h : k < 64
  · have : ∀ k : Fin 64, (15#64).getLsbD k.val = decide (k.val < 4) := by decide +kernel
    exact this ⟨k, h⟩
  · rw [BitVec.getLsbD_of_ge _ _ (by omega), decide_eq_false (by omega)]
theorem v16 {v : BitVec 64} (h : v.toNat < 16) {k : Nat} (hk : 4 ≤ k) : v.getLsbD k = false := by
  unfold BitVec.getLsbD
  exact Nat.testBit_lt_two_pow (Nat.lt_of_lt_of_le h (Nat.pow_le_pow_right (by omega) hk : 2 ^ 4 ≤ 2 ^ k))
theorem nb_st {w v : Int64} {i : Nat} (hi : i < 16) (hv : v.toBitVec.toNat < 16) : nbI (stI w i v) i = v := by
  apply Int64.toBitVec_inj.1
  rw [nbI_b hi, stI_b hi]
  apply BitVec.eq_of_getLsbD_eq
  intro k hk
  simp only [BitVec.getLsbD_and, BitVec.getLsbD_ushiftRight, BitVec.getLsbD_or, BitVec.getLsbD_xor, BitVec.getLsbD_shiftLeft, b15, BitVec.getLsbD_allOnes]
  by_cases q : k < 4
  · have h1 : decide (4 * i + k < 64) = true := decide_eq_true (by omega)
    have h2 : decide (4 * i + k < 4 * i) = false := decide_eq_false (by omega)
    rw [h1, h2, decide_eq_true q, show 4 * i + k - 4 * i = k by omega, decide_eq_true q]
    simp
  · rw [decide_eq_false q, Bool.and_false, v16 hv (by omega)]
theorem nb_ne {w v : Int64} {i j : Nat} (hi : i < 16) (hj : j < 16) (hij : j ≠ i) (hv : v.toBitVec.toNat < 16) : nbI (stI w i v) j = nbI w j := by
  apply Int64.toBitVec_inj.1
  rw [nbI_b hj, nbI_b hj, stI_b hi]
  apply BitVec.eq_of_getLsbD_eq
  intro k hk
  simp only [BitVec.getLsbD_and, BitVec.getLsbD_ushiftRight, BitVec.getLsbD_or, BitVec.getLsbD_xor, BitVec.getLsbD_shiftLeft, b15, BitVec.getLsbD_allOnes]
  by_cases q : k < 4
  · have h1 : decide (4 * j + k < 64) = true := decide_eq_true (by omega)
    rw [h1]
    by_cases z : 4 * j + k < 4 * i
    · rw [decide_eq_true z]; simp
    · have h4 : 4 ≤ 4 * j + k - 4 * i := by omega
      rw [decide_eq_false (show ¬ 4 * j + k - 4 * i < 4 by omega), v16 hv h4]; simp
  · rw [decide_eq_false q, Bool.and_false, Bool.and_false]
theorem nb_ext {w w' : Int64} (h : ∀ i, i < 16 → nbI w i = nbI w' i) : w = w' := by
  apply Int64.toBitVec_inj.1
  apply BitVec.eq_of_getLsbD_eq
  intro k hk
  have := congrArg (fun x : Int64 => x.toBitVec.getLsbD (k % 4)) (h (k / 4) (by omega))
  rw [nbI_b (by omega), nbI_b (by omega)] at this
  simp only [BitVec.getLsbD_and, BitVec.getLsbD_ushiftRight, b15] at this
  rw [decide_eq_true (show k % 4 < 4 by omega), show 4 * (k / 4) + k % 4 = k by omega] at this
  simpa using this
/-- a tower in three longs -/
def kW (W : Nat → Int64) (th : Nat → Int32) : Prop := ∀ b, b < 48 → nbI (W (b / 16)) (b % 16) = (th b + 1).toInt64
def okV (x : Int32) : Prop := x = -1 ∨ (0 ≤ x ∧ x ≤ 9)
theorem okV_f : ∀ i : Fin 11, (tEn i.val + 1).toInt64.toBitVec.toNat < 16 ∧ (tEn i.val + 1).toInt64.toInt32 - 1 = tEn i.val := by decide +kernel
theorem okV_i {x : Int32} (h : okV x) : ∃ i : Fin 11, x = tEn i.val := by
  exact tEn_of h
theorem okV_v {x : Int32} (h : okV x) : (x + 1).toInt64.toBitVec.toNat < 16 ∧ (x + 1).toInt64.toInt32 - 1 = x := by
  obtain ⟨i, rfl⟩ := okV_i h
  exact okV_f i
theorem kW.set {W : Nat → Int64} {th : Nat → Int32} {b : Nat} {v : Int32} (h : kW W th) (hb : b < 48) (hv : okV v) : kW (vp_updL W (b / 16) (stI (W (b / 16)) (b % 16) (v + 1).toInt64)) (upd th b v) := by
  intro c hc
  have hv' := (okV_v hv).1
  by_cases q : c = b
  · subst q
    rw [upd_eq]
    unfold vp_updL
    rw [if_pos rfl, nb_st (by omega) hv']
  · rw [upd_ne _ _ q]
    unfold vp_updL
    by_cases z : c / 16 = b / 16
    · rw [if_pos z, nb_ne (by omega) (by omega) (by omega) hv', ← z]; exact h c hc
    · rw [if_neg z]; exact h c hc
theorem kW.e {W W' : Nat → Int64} {th th' : Nat → Int32} (h : kW W th) (h' : kW W' th') (o : ∀ b, b < 48 → okV (th b)) (o' : ∀ b, b < 48 → okV (th' b)) : (∀ w, w < 3 → W w = W' w) ↔ gK th = gK th' := by
  constructor
  · intro e
    refine gK_c (fun b hb => ?_)
    have h1 := h b hb
    rw [e (b / 16) (by omega), h' b hb] at h1
    rw [← (okV_v (o b hb)).2, ← h1, (okV_v (o' b hb)).2]
  · intro e w hw
    refine nb_ext (fun i hi => ?_)
    have h1 := h (16 * w + i) (by omega)
    have h2 := h' (16 * w + i) (by omega)
    rw [show (16 * w + i) / 16 = w by omega, show (16 * w + i) % 16 = i by omega] at h1 h2
    rw [h1, h2, gK_e e _ (by omega)]
