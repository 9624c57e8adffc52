/-! ===== the reference: rows of thicknesses ===== -/
/-- a row of 54 lies at s -/
def yAr (s : Nat) : Prop := ySh[s]? = some (.inl (0, 54))
/-- the row at s tells the tower th of n layers -/
def Tor (m : yM) (s : Nat) (th : Nat → Int32) (n : Nat) : Prop := (∀ b, b < 48 → m.1 s b = th b) ∧ m.1 s 48 = yN n
theorem lgc_lt (x y : Int64) : (lg_cmp x y < 0) = (x < y) := by
  unfold lg_cmp
  by_cases h2 : y < x
  · have : ¬ x < y := by rw [Int64.lt_iff_toInt_lt] at *; omega
    rw [if_pos h2, eq_false this]; decide
  · rw [if_neg h2]
    by_cases h3 : x = y
    · have : ¬ x < y := by rw [Int64.lt_iff_toInt_lt, h3]; omega
      rw [if_pos h3, eq_false this]; decide
    · have : x < y := by rw [← Int64.toInt_inj] at h3; rw [Int64.lt_iff_toInt_lt] at *; omega
      rw [if_neg h3, eq_true this]; decide
theorem lgc_gt (x y : Int64) : (0 < lg_cmp x y) = (y < x) := by
  unfold lg_cmp
  by_cases h2 : y < x
  · rw [if_pos h2, eq_true h2]; decide
  · rw [if_neg h2, eq_false h2]
    split <;> decide
theorem yl_lt (x y : Int32) : (x.toInt64 < y.toInt64) = (x < y) := by
  rw [Int64.lt_iff_toInt_lt, Int32.lt_iff_toInt_lt, Int32.toInt_toInt64, Int32.toInt_toInt64]
theorem s162 (x y z : Int32) (h : xH) : f_162 x.toInt64 y.toInt64 z.toInt64 h = some (yB (decide (y ≤ x ∧ x ≤ z)), h) := by
  unfold f_162
  simp only [lgc_lt, lgc_gt, yl_lt]
  simp only [yLe_iff, yLt_iff]
  by_cases h1 : x.toInt < y.toInt
  · rw [if_pos h1, yBs, pZ_0, decide_eq_false (by omega)]; rfl
  · rw [if_neg h1]
    by_cases h2 : z.toInt < x.toInt
    · rw [if_pos h2, yBs, pZ_0, decide_eq_false (by omega)]; rfl
    · rw [if_neg h2, yBs, pZ_1, decide_eq_true (by omega)]; rfl
theorem s163 (b : Bool) (h : xH) : f_163 (yB b) h = some (yB b, h) := by cases b <;> rfl
theorem s163_0 (h : xH) : f_163 0 h = some (0, h) := by unfold f_163; rw [if_pos rfl, yBs]
theorem s163_1 (h : xH) : f_163 1 h = some (1, h) := by unfold f_163; rw [if_neg (by decide), yBs]
section RF
variable {κ : yK} {m : yM} {s n : Nat} {th : Nat → Int32}
theorem yr_a {i : Nat} (hs : yAr s) (hi : i < 54) : pAi (yH κ m) s (yN i) = some (m.1 s i) := yh_ai hs (by decide) hi
theorem yr_s {i : Nat} {x : Int32} (hs : yAr s) (hi : i < 54) : pSi (yH κ m) s (yN i) x = some (yH κ (yW m s i x)) := yh_si hs (by decide) hi
theorem yr_al {k : Nat} (hs : yAr s) (hi : OfNat.ofNat k < 54) : pAi (yH κ m) s (no_index (OfNat.ofNat k) : Int32) = some (m.1 s (OfNat.ofNat k)) := yh_ai hs (by decide) hi
theorem yr_sl {k : Nat} {x : Int32} (hs : yAr s) (hi : OfNat.ofNat k < 54) : pSi (yH κ m) s (no_index (OfNat.ofNat k) : Int32) x = some (yH κ (yW m s (OfNat.ofNat k) x)) := yh_si hs (by decide) hi
/-- thicknesses in their range -/
def tRg (th : Nat → Int32) : Prop := ∀ b, b < 48 → th b = -1 ∨ (0 ≤ th b ∧ th b ≤ 9)
theorem tRg_lt {th : Nat → Int32} {b : Nat} (h : tRg th) (hb : b < 48) : (th b < 0) = (th b = -1) := by
  rw [yLt_iff, yEq_iff, show (0 : Int32).toInt = 0 from rfl, show (-1 : Int32).toInt = -1 from rfl]
  rcases h b hb with q | ⟨q, -⟩
  · rw [q]; simp
  · rw [yLe_iff, show (0 : Int32).toInt = 0 from rfl] at q
    exact propext (by omega)
theorem tRg_ge {th : Nat → Int32} {b : Nat} (h : tRg th) (hb : b < 48) : (0 ≤ th b) = ¬ (th b = -1) := by
  rw [← tRg_lt h hb, yLe_iff, yLt_iff]; exact propext (by omega)
theorem s169 {b : Nat} (hs : yAr s) (ht : Tor m s th n) (hr : tRg th) (hb : b < 2147483648) : f_169 s (yN b) (yH κ m) = some (yB (tHas th b), yH κ m) := by
  unfold f_169
  rw [show (0 : Int64) = (yN 0).toInt64 from rfl, show (47 : Int64) = (yN 47).toInt64 from rfl, s162, yBs]
  simp (disch := first | assumption | omega) only [yN_add, yN_addl, yN_ladd, yN_mul, yN_mull, yN_lmul, yN_sub, yN_subl, yN_lsub, yN_lt, yN_ltl, yN_llt, yN_le, yN_lel, yN_lle, yN_eq, yN_eql, yN_leq, yN_eqm, yN_lem, yN_ltm, yN_mlt, yN_mle, yN_addm, yN_madd, yp_div, yp_rem, yp_divN, yp_remN]
  by_cases h : b < 48
  · rw [decide_eq_true (show 0 ≤ b ∧ b ≤ 47 by omega), yB_t]
    simp (disch := first | assumption | omega) only [y10, if_false, yr_a hs, yBs, pG_t, pZ_0, pZ_1, pZ_B, ht.1 b h, tRg_lt hr h]
    unfold tHas
    by_cases h1 : th b = -1 <;> simp [h1, h, pZ_0, pZ_1, yB]
  · rw [decide_eq_false (by omega), yB_f, if_pos rfl, yBs, pZ_0]
    unfold tHas; simp [h, yB]
theorem s169m {p : Int32} (h : p < 0) : f_169 s p (yH κ m) = some (0, yH κ m) := by
  unfold f_169
  rw [show (0 : Int64) = (0 : Int32).toInt64 from rfl, show (47 : Int64) = (yN 47).toInt64 from rfl, s162, yBs, decide_eq_false]
  · simp only [yB_f, if_true, yBs, pZ_0]
  · rw [yLe_iff]; rw [yLt_iff] at h; omega
theorem s169I {p : Int32} (hs : yAr s) (ht : Tor m s th n) (hr : tRg th) : f_169 s p (yH κ m) = some (yB (tHasI th p), yH κ m) := by
  by_cases h : p < 0
  · rw [s169m h]; simp [tHasI, h, yB]
  · obtain ⟨b, hb, rfl⟩ := yN_of h
    rw [s169 hs ht hr hb]; simp [tHasI, h, yI_cl hb]
theorem tHas_in {th : Nat → Int32} {b : Nat} (hb : b < 48) : tHas th b = !decide (th b = -1) := by unfold tHas; simp [hb]
theorem s170 {l : Nat} (hs : yAr s) (ht : Tor m s th n) (hr : tRg th) (hl : l < 16) : f_170 s (yN l) (yH κ m) = some (yN (tBl th l), yH κ m) := by
  unfold f_170
  simp (disch := first | assumption | omega) only [yN_add, yN_addl, yN_ladd, yN_mul, yN_mull, yN_lmul, yN_sub, yN_subl, yN_lsub, yN_lt, yN_ltl, yN_llt, yN_le, yN_lel, yN_lle, yN_eq, yN_eql, yN_leq, yN_eqm, yN_lem, yN_ltm, yN_mlt, yN_mle, yN_addm, yN_madd, yp_div, yp_rem, yp_divN, yp_remN, yr_a hs, yBs, pG_t, pZ_0, pZ_1, pZ_B, ht.1, tRg_lt hr, yB_ite', s163]
  unfold tBl
  simp (disch := first | assumption | omega) only [tHas_in]
  cases decide (th (3 * l) = -1) <;> cases decide (th (3 * l + 1) = -1) <;> cases decide (th (3 * l + 2) = -1) <;> rfl
/-- bearing(), laid out -/
def rBr (x y z : Int32) : Int32 :=
  let M := pMax (pMax (pMax (-1) x) y) z
  let b : Int32 := ((0 ||| (if x = M then (1 : Int32) <<< (yN 0 &&& 31) else 0)) ||| (if y = M then (1 : Int32) <<< (yN 1 &&& 31) else 0)) ||| (if z = M then (1 : Int32) <<< (yN 2 &&& 31) else 0)
  let s1 : Int32 := if M ≤ x then -1 else pMax (-1) x
  let s2 : Int32 := if M ≤ y then s1 else pMax s1 y
  let s3 : Int32 := if M ≤ z then s2 else pMax s2 z
  let c : Int32 := ((b ||| (if x = s3 then (1 : Int32) <<< (yN 0 &&& 31) else 0)) ||| (if y = s3 then (1 : Int32) <<< (yN 1 &&& 31) else 0)) ||| (if z = s3 then (1 : Int32) <<< (yN 2 &&& 31) else 0)
  if b = 1 then (if s3 < 0 then b else c) else if b = 4 then (if s3 < 0 then b else c) else b
set_option maxRecDepth 100000 in
theorem rBr_all : ∀ i j k : Fin 11, (i = 0 ∧ j = 0 ∧ k = 0) ∨ rBr (tEn i.val) (tEn j.val) (tEn k.val) = tBr (tEn i.val) (tEn j.val) (tEn k.val) := by decide +kernel
theorem s185_4 {l fu : Nat} {v : Int32} (hs : yAr s) (hl : l < 16) : f_185_4 (fu + 4) s (yN l) v (yN 0) (yH κ m) = some (pMax (pMax (pMax v (m.1 s (3 * l))) (m.1 s (3 * l + 1))) (m.1 s (3 * l + 2)), yH κ m) := by
  unfold f_185_4 f_185_4 f_185_4 f_185_4
  simp (disch := first | assumption | omega) only [yN_add, yN_addl, yN_ladd, yN_mul, yN_mull, yN_lmul, yN_sub, yN_subl, yN_lsub, yN_lt, yN_ltl, yN_llt, yN_le, yN_lel, yN_lle, yN_eq, yN_eql, yN_leq, yN_eqm, yN_lem, yN_ltm, yN_mlt, yN_mle, yN_addm, yN_madd, yp_div, yp_rem, yp_divN, yp_remN, yr_a hs, yBs, pG_t, pZ_0, pZ_1, pZ_B, if_pos, if_neg, Nat.add_zero, Nat.zero_add]
theorem s185_35 {l fu : Nat} {M v w : Int32} (hs : yAr s) (hl : l < 16) : f_185_35 (fu + 4) s (yN l) M v w (yN 0) (yH κ m) = some (((v ||| (if m.1 s (3 * l) = M then (1 : Int32) <<< (yN 0 &&& 31) else 0)) ||| (if m.1 s (3 * l + 1) = M then (1 : Int32) <<< (yN 1 &&& 31) else 0)) ||| (if m.1 s (3 * l + 2) = M then (1 : Int32) <<< (yN 2 &&& 31) else 0),
    (if M ≤ m.1 s (3 * l + 2) then (if M ≤ m.1 s (3 * l + 1) then (if M ≤ m.1 s (3 * l) then w else pMax w (m.1 s (3 * l))) else pMax (if M ≤ m.1 s (3 * l) then w else pMax w (m.1 s (3 * l))) (m.1 s (3 * l + 1))) else pMax (if M ≤ m.1 s (3 * l + 1) then (if M ≤ m.1 s (3 * l) then w else pMax w (m.1 s (3 * l))) else pMax (if M ≤ m.1 s (3 * l) then w else pMax w (m.1 s (3 * l))) (m.1 s (3 * l + 1))) (m.1 s (3 * l + 2))), yH κ m) := by
  unfold f_185_35 f_185_35 f_185_35 f_185_35
  simp (disch := first | assumption | omega) only [yN_add, yN_addl, yN_ladd, yN_mul, yN_mull, yN_lmul, yN_sub, yN_subl, yN_lsub, yN_lt, yN_ltl, yN_llt, yN_le, yN_lel, yN_lle, yN_eq, yN_eql, yN_leq, yN_eqm, yN_lem, yN_ltm, yN_mlt, yN_mle, yN_addm, yN_madd, yp_div, yp_rem, yp_divN, yp_remN, yr_a hs, yBs, pG_t, pZ_0, pZ_1, pZ_B, if_pos, if_neg, Nat.add_zero, Nat.zero_add, yIte_some]
theorem s185_112 {l fu : Nat} {M v : Int32} (hs : yAr s) (hl : l < 16) : f_185_112 (fu + 4) s (yN l) v M (yN 0) (yH κ m) = some (((v ||| (if m.1 s (3 * l) = M then (1 : Int32) <<< (yN 0 &&& 31) else 0)) ||| (if m.1 s (3 * l + 1) = M then (1 : Int32) <<< (yN 1 &&& 31) else 0)) ||| (if m.1 s (3 * l + 2) = M then (1 : Int32) <<< (yN 2 &&& 31) else 0), yH κ m) := by
  unfold f_185_112 f_185_112 f_185_112 f_185_112
  simp (disch := first | assumption | omega) only [yN_add, yN_addl, yN_ladd, yN_mul, yN_mull, yN_lmul, yN_sub, yN_subl, yN_lsub, yN_lt, yN_ltl, yN_llt, yN_le, yN_lel, yN_lle, yN_eq, yN_eql, yN_leq, yN_eqm, yN_lem, yN_ltm, yN_mlt, yN_mle, yN_addm, yN_madd, yp_div, yp_rem, yp_divN, yp_remN, yr_a hs, yBs, pG_t, pZ_0, pZ_1, pZ_B, if_pos, if_neg, Nat.add_zero, Nat.zero_add, yIte_some]
theorem s185r {l : Nat} (hs : yAr s) (hl : l < 16) : f_185 s (yN l) (yH κ m) = some (rBr (m.1 s (3 * l)) (m.1 s (3 * l + 1)) (m.1 s (3 * l + 2)), yH κ m) := by
  unfold f_185
  rw [show (100000 : Nat) = 99996 + 4 from rfl, show (0 : Int32) = yN 0 from rfl]
  simp (disch := first | assumption | omega) only [yBs, s185_4 hs hl, s185_35 hs hl, s185_112 hs hl]
  simp only [yIte_some, yIte_pair, yBs]
  rfl
theorem s185 {l : Nat} (hs : yAr s) (ht : Tor m s th n) (hr : tRg th) (hl : l < 16) (h0 : 0 < tBl th l) : f_185 s (yN l) (yH κ m) = some (tBe th l, yH κ m) := by
  rw [s185r hs hl, ht.1 _ (by omega), ht.1 _ (by omega), ht.1 _ (by omega)]
  obtain ⟨i, hi⟩ := tEn_of (hr (3 * l) (by omega))
  obtain ⟨j, hj⟩ := tEn_of (hr (3 * l + 1) (by omega))
  obtain ⟨k, hk⟩ := tEn_of (hr (3 * l + 2) (by omega))
  unfold tBe
  rw [hi, hj, hk]
  rcases rBr_all i j k with ⟨rfl, rfl, rfl⟩ | h
  · exfalso
    have e : tEn (0 : Fin 11).val = -1 := rfl
    unfold tBl tHas at h0
    rw [hi, hj, hk, e] at h0
    simp at h0
  · rw [h]
theorem s186 {b : Nat} (hs : yAr s) (ht : Tor m s th n) (hr : tRg th) (hb : b < 48) (h0 : 0 < tBl th (b / 3)) : f_186 s (yN b) (yH κ m) = some (yB (tTi th b), yH κ m) := by
  unfold f_186
  simp (disch := first | assumption | omega) only [yN_add, yN_addl, yN_ladd, yN_mul, yN_mull, yN_lmul, yN_sub, yN_subl, yN_lsub, yN_lt, yN_ltl, yN_llt, yN_le, yN_lel, yN_lle, yN_eq, yN_eql, yN_leq, yN_eqm, yN_lem, yN_ltm, yN_mlt, yN_mle, yN_addm, yN_madd, yp_div, yp_rem, yp_divN, yp_remN, yBs, pG_t, pZ_0, pZ_1, pZ_B, s185 hs ht hr, yB_ite]
  rfl
theorem s201 (hs : yAr s) (ht : Tor m s th n) (hr : tRg th) (hn : n ≤ 16) : f_201 s (yH κ m) = some (yB (decide (0 < n) && decide (tBl th (n - 1) < 3)), yH κ m) := by
  unfold f_201
  have h3 := tBl_le th (n - 1)
  simp (disch := first | assumption | omega) only [yr_al hs, yBs, pG_t, pZ_0, pZ_1, pZ_B, ht.2, yN_add, yN_addl, yN_ladd, yN_mul, yN_mull, yN_lmul, yN_sub, yN_subl, yN_lsub, yN_lt, yN_ltl, yN_llt, yN_le, yN_lel, yN_lle, yN_eq, yN_eql, yN_leq, yN_eqm, yN_lem, yN_ltm, yN_mlt, yN_mle, yN_addm, yN_madd, yp_div, yp_rem, yp_divN, yp_remN]
  by_cases h : n = 0
  · rw [if_pos (by omega), yBs, pZ_0]; simp [h, yB]
  · rw [if_neg (by omega)]
    simp (disch := first | assumption | omega) only [yN_add, yN_addl, yN_ladd, yN_mul, yN_mull, yN_lmul, yN_sub, yN_subl, yN_lsub, yN_lt, yN_ltl, yN_llt, yN_le, yN_lel, yN_lle, yN_eq, yN_eql, yN_leq, yN_eqm, yN_lem, yN_ltm, yN_mlt, yN_mle, yN_addm, yN_madd, yp_div, yp_rem, yp_divN, yp_remN, s170 hs ht hr, yBs, pG_t, pZ_0, pZ_1, pZ_B]
    by_cases h1 : tBl th (n - 1) < 3
    · rw [if_neg (by omega), yBs, pZ_1, decide_eq_true (show 0 < n by omega), decide_eq_true h1]; rfl
    · rw [if_pos (by omega), yBs, pZ_0, decide_eq_false h1]; simp [yB]
theorem s202 {mv : Nat} (hs : yAr s) (ht : Tor m s th n) (hk : tOk th n) (hf : m.1 s 50 = 0) (hm : mv < 2147483648) : f_202 s (yN mv) (yH κ m) = some (yB (tCg th n mv), yH κ m) := by
  have hn := hk.1
  have hr : tRg th := hk.2.1
  unfold f_202 tCg
  have hd : mv / 10 < 2147483648 := Nat.lt_of_le_of_lt (Nat.div_le_self _ _) hm
  simp (disch := first | assumption | omega) only [yN_add, yN_addl, yN_ladd, yN_mul, yN_mull, yN_lmul, yN_sub, yN_subl, yN_lsub, yN_lt, yN_ltl, yN_llt, yN_le, yN_lel, yN_lle, yN_eq, yN_eql, yN_leq, yN_eqm, yN_lem, yN_ltm, yN_mlt, yN_mle, yN_addm, yN_madd, yp_div, yp_rem, yp_divN, yp_remN, yr_al hs, yBs, pG_t, pZ_0, pZ_1, pZ_B, hf, s169 hs ht hr]
  rw [if_neg (by decide), if_neg (by omega)]
  by_cases h3 : mv % 10 < 3
  · rw [if_neg (by omega)]
    by_cases h : tHas th (mv / 10) = true
    · have h1 := tHas_n hk h
      rw [h, yB_t, if_neg (by decide)]
      have h4 := tBl_le th (n - 1)
      simp (disch := first | assumption | omega) only [yr_al hs, yBs, pG_t, pZ_0, pZ_1, pZ_B, ht.2, yN_add, yN_addl, yN_ladd, yN_mul, yN_mull, yN_lmul, yN_sub, yN_subl, yN_lsub, yN_lt, yN_ltl, yN_llt, yN_le, yN_lel, yN_lle, yN_eq, yN_eql, yN_leq, yN_eqm, yN_lem, yN_ltm, yN_mlt, yN_mle, yN_addm, yN_madd, yp_div, yp_rem, yp_divN, yp_remN, s201 hs ht hr, s163]
      rw [decide_eq_true (show 0 < n by omega), Bool.true_and]
      by_cases hg : tBl th (n - 1) < 3
      · simp only [decide_eq_true hg, yB_t, y10, if_false]
        by_cases h5 : mv / 10 / 3 + 2 < n
        · simp (disch := first | assumption | omega) only [yN_add, yN_addl, yN_ladd, yN_mul, yN_mull, yN_lmul, yN_sub, yN_subl, yN_lsub, yN_lt, yN_ltl, yN_llt, yN_le, yN_lel, yN_lle, yN_eq, yN_eql, yN_leq, yN_eqm, yN_lem, yN_ltm, yN_mlt, yN_mle, yN_addm, yN_madd, yp_div, yp_rem, yp_divN, yp_remN, if_pos, if_neg, yr_a hs, yBs, pG_t, pZ_0, pZ_1, pZ_B, ht.1, tRg_ge hr, h3, h5, decide_true, Bool.true_and]
          simp only [if_pos hg, tHas_in (show 3 * (n - 1) + mv % 10 < 48 by omega)]
          by_cases h9 : th (3 * (n - 1) + mv % 10) = -1 <;> simp [h9, pZ_0, pZ_1, yB]
        · have hle : ¬ (yN (mv / 10 / 3) ≤ yN (n - 1) - 1 - 1) := by
            rcases Nat.lt_or_ge n 3 with q | q
            · rcases Nat.lt_or_ge n 2 with q2 | q2
              · have : n = 1 := by omega
                subst this
                rw [show yN (1 - 1) - 1 - 1 = -2 from rfl, yLe_iff, yN_toInt (by omega), show (-2 : Int32).toInt = -2 from rfl]; omega
              · have : n = 2 := by omega
                subst this
                rw [show yN (2 - 1) - 1 - 1 = -1 from rfl, yLe_iff, yN_toInt (by omega), show (-1 : Int32).toInt = -1 from rfl]; omega
            · simp (disch := first | assumption | omega) only [yN_add, yN_addl, yN_ladd, yN_mul, yN_mull, yN_lmul, yN_sub, yN_subl, yN_lsub, yN_lt, yN_ltl, yN_llt, yN_le, yN_lel, yN_lle, yN_eq, yN_eql, yN_leq, yN_eqm, yN_lem, yN_ltm, yN_mlt, yN_mle, yN_addm, yN_madd, yp_div, yp_rem, yp_divN, yp_remN]; omega
          rw [if_neg hle]
          simp [hg, h5, pZ_0, yB]
      · simp only [decide_eq_false hg, yB_f, if_true, Int32.sub_zero]
        by_cases h5 : mv / 10 / 3 + 1 < n
        · simp (disch := first | assumption | omega) only [yN_add, yN_addl, yN_ladd, yN_mul, yN_mull, yN_lmul, yN_sub, yN_subl, yN_lsub, yN_lt, yN_ltl, yN_llt, yN_le, yN_lel, yN_lle, yN_eq, yN_eql, yN_leq, yN_eqm, yN_lem, yN_ltm, yN_mlt, yN_mle, yN_addm, yN_madd, yp_div, yp_rem, yp_divN, yp_remN, if_pos, if_neg, yr_al hs, yBs, pG_t, pZ_0, pZ_1, pZ_B, ht.2, h3, h5, decide_true, Bool.true_and]
          by_cases h6 : n < 16
          · rw [if_neg (by omega), yBs, pZ_1, decide_eq_true h6]; rfl
          · rw [if_pos (by omega), yBs, pZ_0, decide_eq_false h6]; rfl
        · have hle : ¬ (yN (mv / 10 / 3) ≤ yN (n - 1) - 1) := by
            rcases Nat.lt_or_ge n 2 with q2 | q2
            · have : n = 1 := by omega
              subst this
              rw [show yN (1 - 1) - 1 = -1 from rfl, yLe_iff, yN_toInt (by omega), show (-1 : Int32).toInt = -1 from rfl]; omega
            · simp (disch := first | assumption | omega) only [yN_add, yN_addl, yN_ladd, yN_mul, yN_mull, yN_lmul, yN_sub, yN_subl, yN_lsub, yN_lt, yN_ltl, yN_llt, yN_le, yN_lel, yN_lle, yN_eq, yN_eql, yN_leq, yN_eqm, yN_lem, yN_ltm, yN_mlt, yN_mle, yN_addm, yN_madd, yp_div, yp_rem, yp_divN, yp_remN]; omega
          rw [if_neg hle]
          simp [hg, h5, pZ_0, yB]
    · simp only [Bool.not_eq_true] at h
      simp [h, yB, pZ_0]
  · rw [if_pos (by omega)]
    simp [h3, yB, pZ_0]
theorem s202m {p : Int32} (hs : yAr s) (h : p < 0) : f_202 s p (yH κ m) = some (0, yH κ m) := by
  unfold f_202
  rw [show pDiv p 10 = some (p / 10) from if_neg (by decide), show pRem p 10 = some (p - p / 10 * 10) from if_neg (by decide)]
  simp (disch := first | assumption | omega) only [yBs, pG_t, pZ_0, pZ_1, pZ_B, yr_al hs]
  rw [if_pos h]
  split <;> rfl
theorem s202f {p : Int32} (hs : yAr s) (hf : 0 < m.1 s 50) : f_202 s p (yH κ m) = some (0, yH κ m) := by
  unfold f_202
  rw [show pDiv p 10 = some (p / 10) from if_neg (by decide), show pRem p 10 = some (p - p / 10 * 10) from if_neg (by decide)]
  simp (disch := first | assumption | omega) only [yBs, pG_t, pZ_0, pZ_1, pZ_B, yr_al hs]
  rw [if_pos hf]
end RF
