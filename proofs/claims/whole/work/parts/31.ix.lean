/-! ===== small ints as numbers ===== -/
abbrev yN (n : Nat) : Int32 := Int32.ofNat n
section YI
variable {a b k : Nat} {x y : Int32}
theorem yN_toInt (h : a < 2147483648) : (yN a).toInt = (a : Int) := Int32.toInt_ofNat_of_lt h
theorem yN_lit : (no_index (OfNat.ofNat k) : Int32) = yN (OfNat.ofNat k) := rfl
theorem yN_add : yN a + yN b = yN (a + b) := (Int32.ofNat_add a b).symm
theorem yN_addl : yN a + (no_index (OfNat.ofNat k) : Int32) = yN (a + OfNat.ofNat k) := (Int32.ofNat_add a _).symm
theorem yN_ladd : (no_index (OfNat.ofNat k) : Int32) + yN a = yN (OfNat.ofNat k + a) := (Int32.ofNat_add _ a).symm
theorem yN_mul : yN a * yN b = yN (a * b) := (Int32.ofNat_mul a b).symm
theorem yN_mull : yN a * (no_index (OfNat.ofNat k) : Int32) = yN (a * OfNat.ofNat k) := (Int32.ofNat_mul a _).symm
theorem yN_lmul : (no_index (OfNat.ofNat k) : Int32) * yN a = yN (OfNat.ofNat k * a) := (Int32.ofNat_mul _ a).symm
theorem yN_sub (h : b ≤ a) : yN a - yN b = yN (a - b) := by
  have e : yN a = yN (a - b) + yN b := by rw [yN_add]; congr 1; omega
  rw [e, Int32.add_sub_cancel]
theorem yN_subl (h : OfNat.ofNat k ≤ a) : yN a - (no_index (OfNat.ofNat k) : Int32) = yN (a - OfNat.ofNat k) := yN_sub h
theorem yN_lsub (h : a ≤ OfNat.ofNat k) : (no_index (OfNat.ofNat k) : Int32) - yN a = yN (OfNat.ofNat k - a) := yN_sub h
theorem yN_lt (ha : a < 2147483648) (hb : b < 2147483648) : (yN a < yN b) = (a < b) := by
  rw [Int32.lt_iff_toInt_lt, yN_toInt ha, yN_toInt hb]; exact propext (by omega)
theorem yN_ltl (ha : a < 2147483648) (hb : OfNat.ofNat k < 2147483648) : (yN a < (no_index (OfNat.ofNat k) : Int32)) = (a < OfNat.ofNat k) := yN_lt ha hb
theorem yN_llt (ha : a < 2147483648) (hb : OfNat.ofNat k < 2147483648) : ((no_index (OfNat.ofNat k) : Int32) < yN a) = (OfNat.ofNat k < a) := yN_lt hb ha
theorem yN_le (ha : a < 2147483648) (hb : b < 2147483648) : (yN a ≤ yN b) = (a ≤ b) := by
  rw [Int32.le_iff_toInt_le, yN_toInt ha, yN_toInt hb]; exact propext (by omega)
theorem yN_lel (ha : a < 2147483648) (hb : OfNat.ofNat k < 2147483648) : (yN a ≤ (no_index (OfNat.ofNat k) : Int32)) = (a ≤ OfNat.ofNat k) := yN_le ha hb
theorem yN_lle (ha : a < 2147483648) (hb : OfNat.ofNat k < 2147483648) : ((no_index (OfNat.ofNat k) : Int32) ≤ yN a) = (OfNat.ofNat k ≤ a) := yN_le hb ha
theorem yN_eq (ha : a < 2147483648) (hb : b < 2147483648) : (yN a = yN b) = (a = b) := by
  rw [← Int32.toInt_inj, yN_toInt ha, yN_toInt hb]; exact propext (by omega)
theorem yN_eql (ha : a < 2147483648) (hb : OfNat.ofNat k < 2147483648) : (yN a = (no_index (OfNat.ofNat k) : Int32)) = (a = OfNat.ofNat k) := yN_eq ha hb
theorem yN_leq (ha : a < 2147483648) (hb : OfNat.ofNat k < 2147483648) : ((no_index (OfNat.ofNat k) : Int32) = yN a) = (OfNat.ofNat k = a) := yN_eq hb ha
theorem yN_eqm (ha : a < 2147483648) : (yN a = -1) = False := by
  rw [← Int32.toInt_inj, yN_toInt ha, show (-1 : Int32).toInt = -1 from rfl]; exact eq_false (by omega)
theorem yN_lem (ha : a < 2147483648) : (yN a ≤ -1) = False := by
  rw [Int32.le_iff_toInt_le, yN_toInt ha, show (-1 : Int32).toInt = -1 from rfl]; exact eq_false (by omega)
theorem yN_ltm (ha : a < 2147483648) : (yN a < -1) = False := by
  rw [Int32.lt_iff_toInt_lt, yN_toInt ha, show (-1 : Int32).toInt = -1 from rfl]; exact eq_false (by omega)
theorem yN_mlt (ha : a < 2147483648) : (-1 < yN a) = True := by
  rw [Int32.lt_iff_toInt_lt, yN_toInt ha, show (-1 : Int32).toInt = -1 from rfl]; exact eq_true (by omega)
theorem yN_mle (ha : a < 2147483648) : (-1 ≤ yN a) = True := by
  rw [Int32.le_iff_toInt_le, yN_toInt ha, show (-1 : Int32).toInt = -1 from rfl]; exact eq_true (by omega)
theorem yN_addm : yN (a + 1) + -1 = yN a := by
  rw [show yN (a + 1) = yN a + yN 1 from Int32.ofNat_add a 1, Int32.add_assoc, show yN 1 + -1 = 0 from rfl, Int32.add_zero]
theorem yN_addm' (h : 0 < a) : yN a + -1 = yN (a - 1) := by
  have := yN_addm (a := a - 1); rwa [show a - 1 + 1 = a by omega] at this
theorem yN_madd : -1 + yN (a + 1) = yN a := by rw [Int32.add_comm]; exact yN_addm
theorem yN_div (ha : a < 2147483648) (hb : b < 2147483648) : yN a / yN b = yN (a / b) := by
  rw [← Int32.toInt_inj, Int32.toInt_div, yN_toInt ha, yN_toInt hb, yN_toInt (Nat.lt_of_le_of_lt (Nat.div_le_self a b) ha)]
  rw [show ((a : Int).tdiv (b : Int)) = ((a / b : Nat) : Int) by rw [Int.ofNat_tdiv]]
  have : a / b ≤ a := Nat.div_le_self a b
  generalize a / b = q at *
  rw [Int.bmod_eq_of_le] <;> omega
theorem yp_div (ha : a < 2147483648) (hb : OfNat.ofNat k < 2147483648) (h0 : OfNat.ofNat k ≠ 0) : pDiv (yN a) (no_index (OfNat.ofNat k) : Int32) = some (yN (a / OfNat.ofNat k)) := by
  unfold pDiv
  rw [if_neg, show (no_index (OfNat.ofNat k) : Int32) = yN (OfNat.ofNat k) from rfl, yN_div ha hb]
  rw [show (0 : Int32) = yN 0 from rfl, show (no_index (OfNat.ofNat k) : Int32) = yN (OfNat.ofNat k) from rfl, yN_eq hb (by omega)]
  exact h0
theorem yp_rem (ha : a < 2147483648) (hb : OfNat.ofNat k < 2147483648) (h0 : OfNat.ofNat k ≠ 0) : pRem (yN a) (no_index (OfNat.ofNat k) : Int32) = some (yN (a % OfNat.ofNat k)) := by
  unfold pRem
  rw [if_neg, show (no_index (OfNat.ofNat k) : Int32) = yN (OfNat.ofNat k) from rfl, yN_div ha hb, yN_mul, yN_sub (Nat.div_mul_le_self _ _)]
  · congr 2
    have := Nat.div_add_mod' a (OfNat.ofNat k); omega
  · rw [show (0 : Int32) = yN 0 from rfl, show (no_index (OfNat.ofNat k) : Int32) = yN (OfNat.ofNat k) from rfl, yN_eq hb (by omega)]
    exact h0
theorem yp_divN (ha : a < 2147483648) (hb : b < 2147483648) (h0 : b ≠ 0) : pDiv (yN a) (yN b) = some (yN (a / b)) := by
  unfold pDiv
  rw [if_neg, yN_div ha hb]
  rw [show (0 : Int32) = yN 0 from rfl, yN_eq hb (by omega)]
  exact h0
theorem yp_remN (ha : a < 2147483648) (hb : b < 2147483648) (h0 : b ≠ 0) : pRem (yN a) (yN b) = some (yN (a % b)) := by
  unfold pRem
  rw [if_neg, yN_div ha hb, yN_mul, yN_sub (Nat.div_mul_le_self _ _)]
  · congr 2
    have := Nat.div_add_mod' a b; omega
  · rw [show (0 : Int32) = yN 0 from rfl, yN_eq hb (by omega)]
    exact h0
theorem yp_maxN (ha : a < 2147483648) (hb : b < 2147483648) : pMax (yN a) (yN b) = yN (max a b) := by
  unfold pMax; simp only [yN_lt ha hb]; split <;> congr 1 <;> omega
theorem yp_minN (ha : a < 2147483648) (hb : b < 2147483648) : pMin (yN a) (yN b) = yN (min a b) := by
  unfold pMin; simp only [yN_lt hb ha]; split <;> congr 1 <;> omega
theorem yp_minl (ha : a < 2147483648) (hb : OfNat.ofNat k < 2147483648) : pMin (no_index (OfNat.ofNat k) : Int32) (yN a) = yN (min (OfNat.ofNat k) a) := yp_minN hb ha
theorem yp_minr (ha : a < 2147483648) (hb : OfNat.ofNat k < 2147483648) : pMin (yN a) (no_index (OfNat.ofNat k) : Int32) = yN (min a (OfNat.ofNat k)) := yp_minN ha hb
/-- every int that is not below 0 is a number -/
theorem yN_of (h : ¬ x < 0) : ∃ n : Nat, n < 2147483648 ∧ x = yN n := by
  refine ⟨x.toNatClampNeg, ?_, (Int32.ofNat_toNatClampNeg x ?_).symm⟩
  · have := Int32.toInt_lt x
    unfold Int32.toNatClampNeg; omega
  · rw [Int32.le_iff_toInt_le]; rw [Int32.lt_iff_toInt_lt] at h; omega
theorem yN_of' (h : 0 ≤ x) : ∃ n : Nat, n < 2147483648 ∧ x = yN n := yN_of (by rw [Int32.le_iff_toInt_le] at h; rw [Int32.lt_iff_toInt_lt]; omega)
theorem yLt_of_le (h : ¬ x ≤ y) : y < x := by rw [Int32.le_iff_toInt_le] at h; rw [Int32.lt_iff_toInt_lt]; omega
theorem yLe_of_lt (h : ¬ x < y) : y ≤ x := by rw [Int32.lt_iff_toInt_lt] at h; rw [Int32.le_iff_toInt_le]; omega
theorem yLt_iff : (x < y) = (x.toInt < y.toInt) := propext Int32.lt_iff_toInt_lt
theorem yLe_iff : (x ≤ y) = (x.toInt ≤ y.toInt) := propext Int32.le_iff_toInt_le
theorem yEq_iff : (x = y) = (x.toInt = y.toInt) := propext Int32.toInt_inj.symm
end YI
/-- what a test leaves: 1 or 0 -/
def yB (b : Bool) : Int32 := if b = true then 1 else 0
theorem yB_eq0 (b : Bool) : (yB b = 0) = (b = false) := by cases b <;> simp [yB]
theorem yB_ne0 (b : Bool) : (¬ yB b = 0) = (b = true) := by cases b <;> simp [yB]
theorem yB_t : yB true = 1 := rfl
theorem yB_f : yB false = 0 := rfl
theorem pZ_B (b : Bool) (h : xH) : pZ (yB b) h = some (yB b, h) := by cases b <;> rfl
theorem pZ_0 (h : xH) : pZ 0 h = some (0, h) := by unfold pZ; rw [if_pos (by decide)]
theorem pZ_1 (h : xH) : pZ 1 h = some (1, h) := by unfold pZ; rw [if_pos (by decide)]
theorem pG_t : pG true = some () := by unfold pG; rw [if_pos rfl]
/-- no rfl row: each step of it stands in the proof -/
theorem yBs {α β : Type} (x : α) (f : α → Option β) : (some x).bind f = f x := by rw [Option.bind_some]
theorem yB_ite (P : Prop) [Decidable P] : (if P then (some 1 : Option Int32) else some 0) = some (yB (decide P)) := by by_cases h : P <;> simp [h, yB]
theorem yB_ite' (P : Prop) [Decidable P] : (if P then (some 0 : Option Int32) else some 1) = some (yB (!decide P)) := by by_cases h : P <;> simp [h, yB]
theorem yIte_some {α : Type} (P : Prop) [Decidable P] (x y : α) : (if P then some x else some y) = some (if P then x else y) := by split <;> rfl
