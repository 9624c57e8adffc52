/-! ===== towers: what is there, what each layer weighs, who bears ===== -/
theorem yIte_pair {α β : Type} (P : Prop) [Decidable P] (x y : α) (z : β) : (if P then (x, z) else (y, z)) = (if P then x else y, z) := by split <;> rfl
def tBr (p0 p1 p2 : Int32) : Int32 :=
  let s : Int32 := if p0 ≤ p2 then p2 else p0
  let t : Int32 := if p1 ≤ s then s else p1
  if t = -1 then 0 else
  let b : Int32 := ((if p0 = t then 1 else 0) ||| (if p1 = t then 2 else 0)) ||| (if p2 = t then 4 else 0)
  let o : Int32 := if b = 1 then p2 else p0
  let x : Int32 := if p1 ≤ o then o else p1
  let c : Int32 := ((b ||| (if p0 = x then 1 else 0)) ||| (if p1 = x then 2 else 0)) ||| (if p2 = x then 4 else 0)
  if b = 1 then (if x = -1 then b else c) else if b = 4 then (if x = -1 then b else c) else b
theorem f96_eq (p0 p1 p2 : Int32) (h : xH) : f_96 p0 p1 p2 h = some (tBr p0 p1 p2, h) := by
  unfold f_96 tBr
  simp only [yIte_some, yBs, yIte_pair]
def tHas (th : Nat → Int32) (b : Nat) : Bool := decide (b < 48) && !decide (th b = -1)
def tHasI (th : Nat → Int32) (p : Int32) : Bool := !decide (p < 0) && tHas th p.toNatClampNeg
def tBl (th : Nat → Int32) (l : Nat) : Nat := (tHas th (3 * l)).toNat + (tHas th (3 * l + 1)).toNat + (tHas th (3 * l + 2)).toNat
def tW (x : Int32) : Int32 := if x = -1 then 0 else x + 10
def tWg (th : Nat → Int32) (l : Nat) : Int32 := (tW (th (3 * l)) + tW (th (3 * l + 1))) + tW (th (3 * l + 2))
def tMo (th : Nat → Int32) (l : Nat) : Int32 := tW (th (3 * l + 2)) - tW (th (3 * l))
def tBe (th : Nat → Int32) (l : Nat) : Int32 := tBr (th (3 * l)) (th (3 * l + 1)) (th (3 * l + 2))
/-- a tower as it can be -/
def tOk (th : Nat → Int32) (n : Nat) : Prop := n ≤ 16 ∧ (∀ b, b < 48 → th b = -1 ∨ (0 ≤ th b ∧ th b ≤ 9)) ∧ (∀ b, 3 * n ≤ b → b < 48 → th b = -1) ∧ ∀ l, l < n → 0 < tBl th l
/-- the tower object at a is the tower th of n layers -/
def Tow (m : yM) (a : Nat) (th : Nat → Int32) (n : Nat) : Prop := m.1 (a + 1) = th ∧ m.1 a 4 = yN n ∧ ∀ l, l < n → m.1 (a + 2) l = tWg th l ∧ m.1 (a + 3) l = tMo th l ∧ m.1 (a + 4) l = tBe th l
/-- nothing changed but at S -/
def yFr (S : Nat → Nat → Prop) (m m' : yM) : Prop := m'.2 = m.2 ∧ ∀ x j, ¬ S x j → m'.1 x j = m.1 x j
theorem yFr.rf {S : Nat → Nat → Prop} (m : yM) : yFr S m m := ⟨rfl, fun _ _ _ => rfl⟩
theorem yFr.tr {S S2 S3 : Nat → Nat → Prop} {m m2 m3 : yM} (h1 : yFr S m m2) (h2 : yFr S2 m2 m3) (hs : ∀ x j, S x j ∨ S2 x j → S3 x j) : yFr S3 m m3 :=
  ⟨h2.1.trans h1.1, fun x j h => (h2.2 x j (fun q => h (hs x j (Or.inr q)))).trans (h1.2 x j (fun q => h (hs x j (Or.inl q))))⟩
theorem yFr.wk {S S3 : Nat → Nat → Prop} {m m2 : yM} (h1 : yFr S m m2) (hs : ∀ x j, S x j → S3 x j) : yFr S3 m m2 :=
  ⟨h1.1, fun x j h => h1.2 x j (fun q => h (hs x j q))⟩
theorem yFr.row {S : Nat → Nat → Prop} {m m2 : yM} (h1 : yFr S m m2) {x : Nat} (hs : ∀ j, ¬ S x j) : m2.1 x = m.1 x := funext fun j => h1.2 x j (hs j)
theorem yFr.w {S : Nat → Nat → Prop} (m : yM) {a k : Nat} {x : Int32} (hs : S a k) : yFr S m (yW m a k x) :=
  ⟨rfl, fun b j h => by rw [yW_get, if_neg]; rintro ⟨rfl, rfl⟩; exact h hs⟩
/-- the rows of a tower -/
def sT (a : Nat) (x _j : Nat) : Prop := a ≤ x ∧ x ≤ a + 4
theorem tHas_lt {th : Nat → Int32} {b : Nat} (h : tHas th b = true) : b < 48 := by unfold tHas at h; simp at h; exact h.1
theorem tHas_ne {th : Nat → Int32} {b : Nat} (h : tHas th b = true) : th b ≠ -1 := by unfold tHas at h; simp at h; exact h.2
theorem tHas_n {th : Nat → Int32} {n b : Nat} (hk : tOk th n) (h : tHas th b = true) : b < 3 * n := by
  have h1 := tHas_lt h
  have h2 := tHas_ne h
  rcases Nat.lt_or_ge b (3 * n) with q | q
  · exact q
  · exact absurd (hk.2.2.1 b q h1) h2
theorem tBl_le (th : Nat → Int32) (l : Nat) : tBl th l ≤ 3 := by
  unfold tBl
  have h1 := Bool.toNat_le (tHas th (3 * l)); have h2 := Bool.toNat_le (tHas th (3 * l + 1)); have h3 := Bool.toNat_le (tHas th (3 * l + 2)); omega
section TW
variable {κ : yK} {m : yM} {a n : Nat} {th : Nat → Int32}
theorem s90 {b : Nat} (ha : yTw a) (ht : m.1 (a + 1) = th) (hb : b < 2147483648) : f_90 a (yN b) (yH κ m) = some (yB (tHas th b), yH κ m) := by
  unfold f_90
  by_cases h48 : b < 48
  · simp (disch := first | assumption | omega) only [yN_add, yN_addl, yN_ladd, yN_mul, yN_mull, yN_lmul, yN_sub, yN_subl, yN_lsub, yN_lt, yN_ltl, yN_llt, yN_le, yN_lel, yN_lle, yN_eq, yN_eql, yN_leq, yN_eqm, yN_lem, yN_ltm, yN_mlt, yN_mle, yN_addm, yN_madd, yp_div, yp_rem, yp_divN, yp_remN, yt_is, yt_0, yt_1, yt_2, yt_3, yt_4, yt_p, yt_a1, yt_a2, yt_a3, yt_a4, yt_s1, yt_s2, yt_s3, yt_s4, yBs, pG_t, pZ_0, pZ_1, pZ_B, yIte_some]
    rw [if_neg (by omega), if_neg (by omega), ht]
    unfold tHas
    by_cases h1 : th b = -1
    · simp [h1, pZ_0, yB]
    · simp [h1, h48, pZ_1, yB]
  · simp (disch := first | assumption | omega) only [yN_add, yN_addl, yN_ladd, yN_mul, yN_mull, yN_lmul, yN_sub, yN_subl, yN_lsub, yN_lt, yN_ltl, yN_llt, yN_le, yN_lel, yN_lle, yN_eq, yN_eql, yN_leq, yN_eqm, yN_lem, yN_ltm, yN_mlt, yN_mle, yN_addm, yN_madd, yp_div, yp_rem, yp_divN, yp_remN]
    rw [if_neg (by omega), if_pos (by omega)]
    simp [tHas, h48, pZ_0, yB]
theorem s90m {p : Int32} (h : p < 0) : f_90 a p (yH κ m) = some (0, yH κ m) := by
  unfold f_90
  rw [if_pos h]; rfl
theorem s90I {p : Int32} (ha : yTw a) (ht : m.1 (a + 1) = th) : f_90 a p (yH κ m) = some (yB (tHasI th p), yH κ m) := by
  by_cases h : p < 0
  · rw [s90m h]; simp [tHasI, h, yB]
  · obtain ⟨b, hb, rfl⟩ := yN_of h
    rw [s90 ha ht hb]; simp [tHasI, h, yI_cl hb]
theorem s91 {b : Nat} (ha : yTw a) (ht : Tow m a th n) (hn : n ≤ 16) (hb : b < 2147483648) : f_91 a (yN b) (yH κ m) = some (yB (decide (b < n)), yH κ m) := by
  unfold f_91
  simp (disch := first | assumption | omega) only [yN_add, yN_addl, yN_ladd, yN_mul, yN_mull, yN_lmul, yN_sub, yN_subl, yN_lsub, yN_lt, yN_ltl, yN_llt, yN_le, yN_lel, yN_lle, yN_eq, yN_eql, yN_leq, yN_eqm, yN_lem, yN_ltm, yN_mlt, yN_mle, yN_addm, yN_madd, yp_div, yp_rem, yp_divN, yp_remN, yt_is, yt_0, yt_1, yt_2, yt_3, yt_4, yt_p, yt_a1, yt_a2, yt_a3, yt_a4, yt_s1, yt_s2, yt_s3, yt_s4, yBs, pG_t, pZ_0, pZ_1, pZ_B, ht.2.1]
  rw [if_neg (by omega), yB_ite', yBs, pZ_B]
  by_cases h : b < n
  · simp [h, Nat.not_le.mpr h]
  · simp [h, Nat.not_lt.mp h]
theorem s91m {p : Int32} (h : p < 0) : f_91 a p (yH κ m) = some (0, yH κ m) := by
  unfold f_91
  rw [if_pos h]; rfl
theorem s97 {l : Nat} (ha : yTw a) (ht : m.1 (a + 1) = th) (hl : l < 1000000) : f_97 a (yN l) (yH κ m) = some (yN (tBl th l), yH κ m) := by
  unfold f_97
  rw [show (100000 : Nat) = 99996 + 1 + 1 + 1 + 1 from rfl]
  unfold f_97_4 f_97_4 f_97_4 f_97_4
  simp (disch := first | assumption | omega) only [show (0 : Int32) = yN 0 from rfl, yN_add, yN_addl, yN_ladd, yN_mul, yN_mull, yN_lmul, yN_sub, yN_subl, yN_lsub, yN_lt, yN_ltl, yN_llt, yN_le, yN_lel, yN_lle, yN_eq, yN_eql, yN_leq, yN_eqm, yN_lem, yN_ltm, yN_mlt, yN_mle, yN_addm, yN_madd, yp_div, yp_rem, yp_divN, yp_remN, yt_is, yt_0, yt_1, yt_2, yt_3, yt_4, yt_p, yt_a1, yt_a2, yt_a3, yt_a4, yt_s1, yt_s2, yt_s3, yt_s4, yBs, pG_t, pZ_0, pZ_1, pZ_B, s90 ha ht]
  unfold tBl
  cases tHas th (3 * l) <;> cases tHas th (3 * l + 1) <;> cases tHas th (3 * l + 2) <;> rfl
theorem s85 (v : Int32) (h : xH) : f_85 v h = some (pMax 0 (pMin 9 v), h) := rfl
/-- a sum from l on, of d things -/
def ySum (f : Nat → Nat) : Nat → Nat → Nat
  | _, 0 => 0
  | l, d + 1 => f l + ySum f (l + 1) d
theorem ySum_le {f : Nat → Nat} {c : Nat} (hf : ∀ k, f k ≤ c) : ∀ d l, ySum f l d ≤ c * d := by
  intro d
  induction d with
  | zero => intro l; exact Nat.zero_le _
  | succ d ih => intro l; have h1 := hf l; have h2 := ih (l + 1); simp only [ySum, Nat.mul_succ]; omega
theorem s98_6 (ha : yTw a) (ht : Tow m a th n) (hn : n ≤ 16) : ∀ (d l fu s : Nat), l + d = n → d < fu → s + 3 * d < 1000 → f_98_6 fu a (yN s) (yN l) (yH κ m) = some (yN (s + ySum (tBl th) l d), yH κ m) := by
  intro d
  induction d with
  | zero =>
    intro l fu s hl hf hs
    obtain ⟨fu, rfl⟩ : ∃ k, fu = k + 1 := ⟨fu - 1, by omega⟩
    unfold f_98_6
    simp (disch := first | assumption | omega) only [yN_add, yN_addl, yN_ladd, yN_mul, yN_mull, yN_lmul, yN_sub, yN_subl, yN_lsub, yN_lt, yN_ltl, yN_llt, yN_le, yN_lel, yN_lle, yN_eq, yN_eql, yN_leq, yN_eqm, yN_lem, yN_ltm, yN_mlt, yN_mle, yN_addm, yN_madd, yp_div, yp_rem, yp_divN, yp_remN, yt_is, yt_0, yt_1, yt_2, yt_3, yt_4, yt_p, yt_a1, yt_a2, yt_a3, yt_a4, yt_s1, yt_s2, yt_s3, yt_s4, yBs, pG_t, pZ_0, pZ_1, pZ_B, ht.2.1]
    rw [if_pos (by omega)]; rfl
  | succ d ih =>
    intro l fu s hl hf hs
    obtain ⟨fu, rfl⟩ : ∃ k, fu = k + 1 := ⟨fu - 1, by omega⟩
    have hb := tBl_le th l
    unfold f_98_6
    simp (disch := first | assumption | omega) only [yN_add, yN_addl, yN_ladd, yN_mul, yN_mull, yN_lmul, yN_sub, yN_subl, yN_lsub, yN_lt, yN_ltl, yN_llt, yN_le, yN_lel, yN_lle, yN_eq, yN_eql, yN_leq, yN_eqm, yN_lem, yN_ltm, yN_mlt, yN_mle, yN_addm, yN_madd, yp_div, yp_rem, yp_divN, yp_remN, yt_is, yt_0, yt_1, yt_2, yt_3, yt_4, yt_p, yt_a1, yt_a2, yt_a3, yt_a4, yt_s1, yt_s2, yt_s3, yt_s4, yBs, pG_t, pZ_0, pZ_1, pZ_B, ht.2.1, s97 ha ht.1]
    rw [if_neg (by omega), ih (l + 1) fu _ (by omega) (by omega) (by omega)]
    simp only [ySum, Nat.add_assoc]
theorem s98 {l : Nat} (ha : yTw a) (ht : Tow m a th n) (hn : n ≤ 16) (hl : l < n) : f_98 a (yN l) (yH κ m) = some (yN (ySum (tBl th) (l + 1) (n - (l + 1))), yH κ m) := by
  unfold f_98
  rw [yN_addl, show (0 : Int32) = yN 0 from rfl, s98_6 ha ht hn (n - (l + 1)) (l + 1) _ 0 (by omega) (by omega) (by omega), yBs, Nat.zero_add]
theorem s98m (ha : yTw a) (ht : Tow m a th n) (hn : n ≤ 16) : f_98 a (-1) (yH κ m) = some (yN (ySum (tBl th) 0 n), yH κ m) := by
  unfold f_98
  rw [show (-1 : Int32) + 1 = yN 0 from rfl, show (0 : Int32) = yN 0 from rfl, s98_6 ha ht hn n 0 _ 0 (by omega) (by omega) (by omega), yBs, Nat.zero_add]
def tBit (x : Int32) (p : Nat) : Bool := decide (((x >>> (yN p &&& 31)) &&& 1) = 1)
def tTi (th : Nat → Int32) (b : Nat) : Bool := tBit (tBe th (b / 3)) (b % 3)
theorem s99 {b : Nat} (ha : yTw a) (ht : Tow m a th n) (hk : tOk th n) (hb : b < 2147483648) : f_99 a (yN b) (yH κ m) = some (yB (tHas th b && tTi th b), yH κ m) := by
  unfold f_99
  have hn := hk.1
  simp (disch := first | assumption | omega) only [yt_is, yt_0, yt_1, yt_2, yt_3, yt_4, yt_p, yt_a1, yt_a2, yt_a3, yt_a4, yt_s1, yt_s2, yt_s3, yt_s4, yBs, pG_t, pZ_0, pZ_1, pZ_B, s90 ha ht.1]
  by_cases h : tHas th b = true
  · have h1 := tHas_n hk h
    simp (disch := first | assumption | omega) only [yN_add, yN_addl, yN_ladd, yN_mul, yN_mull, yN_lmul, yN_sub, yN_subl, yN_lsub, yN_lt, yN_ltl, yN_llt, yN_le, yN_lel, yN_lle, yN_eq, yN_eql, yN_leq, yN_eqm, yN_lem, yN_ltm, yN_mlt, yN_mle, yN_addm, yN_madd, yp_div, yp_rem, yp_divN, yp_remN, yt_is, yt_0, yt_1, yt_2, yt_3, yt_4, yt_p, yt_a1, yt_a2, yt_a3, yt_a4, yt_s1, yt_s2, yt_s3, yt_s4, yBs, pG_t, pZ_0, pZ_1, pZ_B, h, yB_t]
    rw [if_neg (by decide), (ht.2.2 (b / 3) (by omega)).2.2, yB_ite, yBs, pZ_B]
    simp [tTi, tBit]
  · simp only [Bool.not_eq_true] at h
    simp [h, yB, pZ_0]
/-- places that are there (bits), a bit at a time -/
def tPl (th : Nat → Int32) (l : Nat) : Int32 := ((0 ||| (if tHas th (3 * l) then ((1 : Int32) <<< ((0 : Int32) &&& 31)) else 0)) ||| (if tHas th (3 * l + 1) then ((1 : Int32) <<< ((1 : Int32) &&& 31)) else 0)) ||| (if tHas th (3 * l + 2) then ((1 : Int32) <<< ((2 : Int32) &&& 31)) else 0)
theorem s100_4 {l fu : Nat} (ha : yTw a) (ht : m.1 (a + 1) = th) (hl : l < 1000000) : f_100_4 (fu + 4) a (yN l) 0 0 (yH κ m) = some (tPl th l, yH κ m) := by
  rw [show (0 : Int32) = yN 0 from rfl]
  unfold f_100_4 f_100_4 f_100_4 f_100_4
  simp (disch := first | assumption | omega) only [yN_add, yN_addl, yN_ladd, yN_mul, yN_mull, yN_lmul, yN_sub, yN_subl, yN_lsub, yN_lt, yN_ltl, yN_llt, yN_le, yN_lel, yN_lle, yN_eq, yN_eql, yN_leq, yN_eqm, yN_lem, yN_ltm, yN_mlt, yN_mle, yN_addm, yN_madd, yp_div, yp_rem, yp_divN, yp_remN, yt_is, yt_0, yt_1, yt_2, yt_3, yt_4, yt_p, yt_a1, yt_a2, yt_a3, yt_a4, yt_s1, yt_s2, yt_s3, yt_s4, yBs, pG_t, pZ_0, pZ_1, pZ_B, s90 ha ht, if_pos, if_neg]
  unfold tPl
  cases tHas th (3 * l) <;> cases tHas th (3 * l + 1) <;> cases tHas th (3 * l + 2) <;> rfl
theorem s100 {l : Nat} (ha : yTw a) (ht : Tow m a th n) (hn : n ≤ 16) (hl : l < n) : f_100 a (yN l) (yH κ m) = some (tPl th l &&& (tBe th l ^^^ (-1)), yH κ m) := by
  unfold f_100
  rw [show (100000 : Nat) = 99996 + 4 from rfl, s100_4 ha ht.1 (by omega)]
  simp (disch := first | assumption | omega) only [yN_add, yN_addl, yN_ladd, yN_mul, yN_mull, yN_lmul, yN_sub, yN_subl, yN_lsub, yN_lt, yN_ltl, yN_llt, yN_le, yN_lel, yN_lle, yN_eq, yN_eql, yN_leq, yN_eqm, yN_lem, yN_ltm, yN_mlt, yN_mle, yN_addm, yN_madd, yp_div, yp_rem, yp_divN, yp_remN, yt_is, yt_0, yt_1, yt_2, yt_3, yt_4, yt_p, yt_a1, yt_a2, yt_a3, yt_a4, yt_s1, yt_s2, yt_s3, yt_s4, yBs, pG_t, pZ_0, pZ_1, pZ_B, s91 ha ht, if_pos, if_neg]
  rw [show decide (l < n) = true from decide_eq_true hl, yB_t, if_neg (by decide), (ht.2.2 l hl).2.2]
  rfl
theorem s101 (ha : yTw a) (ht : Tow m a th n) : f_101 a (yH κ m) = some (yN (30 * n), yH κ m) := by
  unfold f_101
  simp (disch := first | assumption | omega) only [yN_add, yN_addl, yN_ladd, yN_mul, yN_mull, yN_lmul, yN_sub, yN_subl, yN_lsub, yN_lt, yN_ltl, yN_llt, yN_le, yN_lel, yN_lle, yN_eq, yN_eql, yN_leq, yN_eqm, yN_lem, yN_ltm, yN_mlt, yN_mle, yN_addm, yN_madd, yp_div, yp_rem, yp_divN, yp_remN, yt_is, yt_0, yt_1, yt_2, yt_3, yt_4, yt_p, yt_a1, yt_a2, yt_a3, yt_a4, yt_s1, yt_s2, yt_s3, yt_s4, yBs, pG_t, pZ_0, pZ_1, pZ_B, ht.2.1]
/-- a move can be (of a tower that is not felled) -/
def tCg (th : Nat → Int32) (n mv : Nat) : Bool := decide (mv % 10 < 3) && tHas th (mv / 10) && (if tBl th (n - 1) < 3 then decide (mv / 10 / 3 + 2 < n) && !tHas th (3 * (n - 1) + mv % 10) else decide (mv / 10 / 3 + 1 < n) && decide (n < 16))
theorem s102 {mv : Nat} (ha : yTw a) (ht : Tow m a th n) (hk : tOk th n) (hm : mv < 2147483648) : f_102 a (yN mv) (yH κ m) = some (yB (tCg th n mv), yH κ m) := by
  have hn := hk.1
  unfold f_102 tCg
  simp (disch := first | assumption | omega) only [yN_add, yN_addl, yN_ladd, yN_mul, yN_mull, yN_lmul, yN_sub, yN_subl, yN_lsub, yN_lt, yN_ltl, yN_llt, yN_le, yN_lel, yN_lle, yN_eq, yN_eql, yN_leq, yN_eqm, yN_lem, yN_ltm, yN_mlt, yN_mle, yN_addm, yN_madd, yp_div, yp_rem, yp_divN, yp_remN, yt_is, yt_0, yt_1, yt_2, yt_3, yt_4, yt_p, yt_a1, yt_a2, yt_a3, yt_a4, yt_s1, yt_s2, yt_s3, yt_s4, yBs, pG_t, pZ_0, pZ_1, pZ_B, ht.2.1, s90 ha ht.1]
  rw [if_neg (by omega)]
  by_cases h3 : mv % 10 < 3
  · rw [if_neg (by omega)]
    by_cases h : tHas th (mv / 10) = true
    · have h1 := tHas_n hk h
      simp only [h, yB_t]
      rw [if_neg (by decide)]
      have h4 := tBl_le th (n - 1)
      by_cases hn1 : n = 1
      · subst hn1
        simp (disch := first | assumption | omega) only [yN_add, yN_addl, yN_ladd, yN_mul, yN_mull, yN_lmul, yN_sub, yN_subl, yN_lsub, yN_lt, yN_ltl, yN_llt, yN_le, yN_lel, yN_lle, yN_eq, yN_eql, yN_leq, yN_eqm, yN_lem, yN_ltm, yN_mlt, yN_mle, yN_addm, yN_madd, yp_div, yp_rem, yp_divN, yp_remN, yt_is, yt_0, yt_1, yt_2, yt_3, yt_4, yt_p, yt_a1, yt_a2, yt_a3, yt_a4, yt_s1, yt_s2, yt_s3, yt_s4, yBs, pG_t, pZ_0, pZ_1, pZ_B, ht.2.1, s97 ha ht.1]
        rw [show yN (1 - 1) - (1 : Int32) = -1 from rfl]
        simp (disch := first | assumption | omega) only [yN_add, yN_addl, yN_ladd, yN_mul, yN_mull, yN_lmul, yN_sub, yN_subl, yN_lsub, yN_lt, yN_ltl, yN_llt, yN_le, yN_lel, yN_lle, yN_eq, yN_eql, yN_leq, yN_eqm, yN_lem, yN_ltm, yN_mlt, yN_mle, yN_addm, yN_madd, yp_div, yp_rem, yp_divN, yp_remN, yBs, pG_t, pZ_0, pZ_1, pZ_B, if_pos, if_neg]
        by_cases hg : tBl th (1 - 1) < 3
        · simp [hg, Nat.not_le.mpr hg, yB, pZ_0]
        · simp [hg, Nat.not_lt.mp hg, yB, pZ_0]
      · simp (disch := first | assumption | omega) only [yN_add, yN_addl, yN_ladd, yN_mul, yN_mull, yN_lmul, yN_sub, yN_subl, yN_lsub, yN_lt, yN_ltl, yN_llt, yN_le, yN_lel, yN_lle, yN_eq, yN_eql, yN_leq, yN_eqm, yN_lem, yN_ltm, yN_mlt, yN_mle, yN_addm, yN_madd, yp_div, yp_rem, yp_divN, yp_remN, yt_is, yt_0, yt_1, yt_2, yt_3, yt_4, yt_p, yt_a1, yt_a2, yt_a3, yt_a4, yt_s1, yt_s2, yt_s3, yt_s4, yBs, pG_t, pZ_0, pZ_1, pZ_B, ht.2.1, s97 ha ht.1, s90 ha ht.1]
        by_cases hg : tBl th (n - 1) < 3
        · by_cases h5 : mv / 10 / 3 + 2 < n
          · simp (disch := first | assumption | omega) only [if_pos, if_neg, h3, h5, decide_true, Bool.true_and]
            cases tHas th (3 * (n - 1) + mv % 10) <;> simp [pZ_0, pZ_1, yB]
          · simp (disch := first | assumption | omega) only [if_pos, if_neg, h3, h5, decide_true, Bool.true_and]
            simp [pZ_0, yB]
        · by_cases h5 : mv / 10 / 3 + 1 < n
          · by_cases h6 : n < 16
            · simp (disch := first | assumption | omega) only [if_pos, if_neg, h3, h5, h6, decide_true, Bool.true_and]
              rfl
            · simp (disch := first | assumption | omega) only [if_pos, if_neg, h3, h5, h6, decide_true, Bool.true_and]
              rfl
          · simp (disch := first | assumption | omega) only [if_pos, if_neg, h3, h5, decide_true, Bool.true_and]
            simp [pZ_0, yB]
    · simp only [Bool.not_eq_true] at h
      simp [h, yB, pZ_0]
  · rw [if_pos (by omega)]
    simp [h3, yB]
theorem s102m {p : Int32} (h : p < 0) : f_102 a p (yH κ m) = some (0, yH κ m) := by
  unfold f_102
  rw [if_pos h]; rfl
/-- where the block of a move comes to lie -/
def tLd (th : Nat → Int32) (n mv : Nat) : Nat := 3 * (if tBl th (n - 1) < 3 then n - 1 else n) + mv % 10
theorem s103 {mv : Nat} (ha : yTw a) (ht : Tow m a th n) (hn : n ≤ 16) (h0 : 0 < n) (hm : mv < 2147483648) : f_103 a (yN mv) (yH κ m) = some (yN (tLd th n mv), yH κ m) := by
  have h4 := tBl_le th (n - 1)
  unfold f_103 tLd
  simp (disch := first | assumption | omega) only [yN_add, yN_addl, yN_ladd, yN_mul, yN_mull, yN_lmul, yN_sub, yN_subl, yN_lsub, yN_lt, yN_ltl, yN_llt, yN_le, yN_lel, yN_lle, yN_eq, yN_eql, yN_leq, yN_eqm, yN_lem, yN_ltm, yN_mlt, yN_mle, yN_addm, yN_madd, yp_div, yp_rem, yp_divN, yp_remN, yt_is, yt_0, yt_1, yt_2, yt_3, yt_4, yt_p, yt_a1, yt_a2, yt_a3, yt_a4, yt_s1, yt_s2, yt_s3, yt_s4, yBs, pG_t, pZ_0, pZ_1, pZ_B, ht.2.1, s97 ha ht.1]
  by_cases hg : tBl th (n - 1) < 3
  · rw [if_neg (by omega)]
    simp (disch := first | assumption | omega) only [yN_add, yN_addl, yN_ladd, yN_mul, yN_mull, yN_lmul, yN_sub, yN_subl, yN_lsub, yN_lt, yN_ltl, yN_llt, yN_le, yN_lel, yN_lle, yN_eq, yN_eql, yN_leq, yN_eqm, yN_lem, yN_ltm, yN_mlt, yN_mle, yN_addm, yN_madd, yp_div, yp_rem, yp_divN, yp_remN, yBs, pG_t, pZ_0, pZ_1, pZ_B, if_pos hg]
  · rw [if_pos (by omega)]
    simp (disch := first | assumption | omega) only [yN_add, yN_addl, yN_ladd, yN_mul, yN_mull, yN_lmul, yN_sub, yN_subl, yN_lsub, yN_lt, yN_ltl, yN_llt, yN_le, yN_lel, yN_lle, yN_eq, yN_eql, yN_leq, yN_eqm, yN_lem, yN_ltm, yN_mlt, yN_mle, yN_addm, yN_madd, yp_div, yp_rem, yp_divN, yp_remN, yBs, pG_t, pZ_0, pZ_1, pZ_B, if_neg hg]
end TW
