/-! ===== the rule: what it comes to ===== -/
/-- a stack in a row: the list has the top first -/
def Sk (a : Nat → Int32) (st : List Int32) : Prop := ∀ j, j < st.length → a j = st.getD (st.length - 1 - j) 0
theorem Sk.push {a : Nat → Int32} {st : List Int32} {x : Int32} (h : Sk a st) : Sk (upd a st.length x) (x :: st) := by
  intro j hj
  rw [List.length_cons] at hj ⊢
  by_cases q : j = st.length
  · subst q; rw [upd_eq, show st.length + 1 - 1 - st.length = 0 by omega]; rfl
  · rw [upd_ne _ _ q, h j (by omega), show st.length + 1 - 1 - j = (st.length - 1 - j) + 1 by omega]; rfl
theorem Sk.top {a : Nat → Int32} {st : List Int32} {x : Int32} (h : Sk a (x :: st)) : a st.length = x := by
  have := h st.length (by simp)
  rw [this, List.length_cons, show st.length + 1 - 1 - st.length = 0 by omega]; rfl
theorem Sk.tail {a : Nat → Int32} {st : List Int32} {x : Int32} (h : Sk a (x :: st)) : Sk a st := by
  intro j hj
  have := h j (by rw [List.length_cons]; omega)
  rw [this, List.length_cons, show st.length + 1 - 1 - j = (st.length - 1 - j) + 1 by omega]; rfl
/-- an operator of the reference -/
def rWk (c a b : Int32) : Int32 := if c = 2000 then yB (decide (a < b)) else if c = 2001 then yB (decide (b < a)) else if c = 2002 then yB (decide (a = b)) else if c = 2003 then a + b else if c = 2004 then a - b else if c = 2005 then a * b else if b = 0 then 0 else a / b
def rE1 (f : List Int32 → List Int32) (s : List Int32) : List Int32 := match s with
  | x :: t => f (-x :: t)
  | [] => []
def rE2 (f : List Int32 → List Int32) (c : Int32) (s : List Int32) : List Int32 := match s with
  | y :: x :: t => f (rWk c x y :: t)
  | _ => []
def rEv (Fa : Nat → Int32) : List Int32 → List Int32 → List Int32
  | [], s => s
  | c :: r, s => if c = 3000 then rE1 (rEv Fa r) s else if 2000 ≤ c then rE2 (rEv Fa r) c s else rEv Fa r ((if 1000 ≤ c then Fa (c - 1000).toNatClampNeg else c) :: s)
theorem yLe_lt {x y : Int32} (h : x ≤ y) : ¬ y < x := fun q => by rw [yLe_iff] at h; rw [yLt_iff] at q; omega
theorem yLt_le {x y : Int32} (h : x < y) : ¬ y ≤ x := fun q => by rw [yLt_iff] at h; rw [yLe_iff] at q; omega
theorem pDiv_ne {x y : Int32} (h : y ≠ 0) : pDiv x y = some (x / y) := by unfold pDiv; rw [if_neg h]
/-- the codes with two things, one by one -/
theorem c7 {c : Int32} (h1 : 2000 ≤ c) (h2 : c ≤ 2006) : c = 2000 ∨ c = 2001 ∨ c = 2002 ∨ c = 2003 ∨ c = 2004 ∨ c = 2005 ∨ c = 2006 := by
  obtain ⟨k, hk, rfl⟩ := yN_of' (x := c) (by rw [yLe_iff] at h1 ⊢; have : (2000 : Int32).toInt = 2000 := rfl; have : (0 : Int32).toInt = 0 := rfl; omega)
  rw [yN_lle hk (by omega)] at h1
  rw [yN_lel hk (by omega)] at h2
  rcases (show k = 2000 ∨ k = 2001 ∨ k = 2002 ∨ k = 2003 ∨ k = 2004 ∨ k = 2005 ∨ k = 2006 by omega) with rfl | rfl | rfl | rfl | rfl | rfl | rfl
  · exact Or.inl rfl
  · exact Or.inr (Or.inl rfl)
  · exact Or.inr (Or.inr (Or.inl rfl))
  · exact Or.inr (Or.inr (Or.inr (Or.inl rfl)))
  · exact Or.inr (Or.inr (Or.inr (Or.inr (Or.inl rfl))))
  · exact Or.inr (Or.inr (Or.inr (Or.inr (Or.inr (Or.inl rfl)))))
  · exact Or.inr (Or.inr (Or.inr (Or.inr (Or.inr (Or.inr rfl)))))
theorem ltE (x y : Int32) : (if y ≤ x then some (0 : Int32) else some 1) = some (yB (decide (x < y))) := by
  by_cases q : x < y
  · rw [if_neg (yLt_le q), decide_eq_true q]; rfl
  · rw [if_pos (yLe_of_lt q), decide_eq_false q]; rfl
theorem dvE (a b : Int32) : (if b = 0 then some 0 else (pDiv a b).bind fun x => some x : Option Int32) = some (if b = 0 then 0 else a / b) := by
  by_cases q : b = 0
  · rw [if_pos q, if_pos q]
  · rw [if_neg q, if_neg q, pDiv_ne q, yBs]
theorem rWk0 (a b : Int32) : rWk 2000 a b = yB (decide (a < b)) := by
  unfold rWk
  rw [if_pos rfl]
theorem rWk1 (a b : Int32) : rWk 2001 a b = yB (decide (b < a)) := by
  unfold rWk
  rw [if_neg (by decide), if_pos rfl]
theorem rWk2 (a b : Int32) : rWk 2002 a b = yB (decide (a = b)) := by
  unfold rWk
  rw [if_neg (by decide), if_neg (by decide), if_pos rfl]
theorem rWk3 (a b : Int32) : rWk 2003 a b = a + b := by
  unfold rWk
  rw [if_neg (by decide), if_neg (by decide), if_neg (by decide), if_pos rfl]
theorem rWk4 (a b : Int32) : rWk 2004 a b = a - b := by
  unfold rWk
  rw [if_neg (by decide), if_neg (by decide), if_neg (by decide), if_neg (by decide), if_pos rfl]
theorem rWk5 (a b : Int32) : rWk 2005 a b = a * b := by
  unfold rWk
  rw [if_neg (by decide), if_neg (by decide), if_neg (by decide), if_neg (by decide), if_neg (by decide), if_pos rfl]
theorem rWk6 (a b : Int32) : rWk 2006 a b = (if b = 0 then 0 else a / b) := by
  unfold rWk
  rw [if_neg (by decide), if_neg (by decide), if_neg (by decide), if_neg (by decide), if_neg (by decide), if_neg (by decide)]
theorem s66 {c a b : Int32} {h : xH} (h1 : 2000 ≤ c) (h2 : c ≤ 2006) : f_66 (rCv c - 2000) a b h = some (rWk c a b, h) := by
  rcases c7 h1 h2 with rfl | rfl | rfl | rfl | rfl | rfl | rfl
  · rw [show rCv 2000 - 2000 = 60 by decide, rWk0]
    unfold f_66
    rw [if_neg (by decide), if_neg (by decide), if_neg (by decide), if_neg (by decide), if_pos rfl, ltE, yBs]
  · rw [show rCv 2001 - 2000 = 62 by decide, rWk1]
    unfold f_66
    rw [if_neg (by decide), if_neg (by decide), if_neg (by decide), if_neg (by decide), if_neg (by decide), if_pos rfl, ltE, yBs]
  · rw [show rCv 2002 - 2000 = 61 by decide, rWk2]
    unfold f_66
    rw [if_neg (by decide), if_neg (by decide), if_neg (by decide), if_neg (by decide), if_neg (by decide), if_neg (by decide), yB_ite, yBs]
  · rw [show rCv 2003 - 2000 = 43 by decide, rWk3]
    unfold f_66
    rw [if_neg (by decide), if_pos rfl]
  · rw [show rCv 2004 - 2000 = 45 by decide, rWk4]
    unfold f_66
    rw [if_neg (by decide), if_neg (by decide), if_pos rfl]
  · rw [show rCv 2005 - 2000 = 42 by decide, rWk5]
    unfold f_66
    rw [if_pos rfl]
  · rw [show rCv 2006 - 2000 = 47 by decide, rWk6]
    unfold f_66
    rw [if_neg (by decide), if_neg (by decide), if_neg (by decide), if_pos rfl, dvE, yBs]
theorem s207 {c a b : Int32} {h : xH} (h1 : 2000 ≤ c) (h2 : c ≤ 2006) : f_207 (c - 2000) a b h = some (rWk c a b, h) := by
  rcases c7 h1 h2 with rfl | rfl | rfl | rfl | rfl | rfl | rfl
  · rw [show (2000 : Int32) - 2000 = 0 by decide, rWk0]
    unfold f_207
    rw [if_pos rfl, ltE, yBs, s163, yBs]
  · rw [show (2001 : Int32) - 2000 = 1 by decide, rWk1]
    unfold f_207
    rw [if_neg (by decide), if_pos rfl, ltE, yBs, s163, yBs]
  · rw [show (2002 : Int32) - 2000 = 2 by decide, rWk2]
    unfold f_207
    rw [if_neg (by decide), if_neg (by decide), if_pos rfl, yB_ite, yBs, s163, yBs]
  · rw [show (2003 : Int32) - 2000 = 3 by decide, rWk3]
    unfold f_207
    rw [if_neg (by decide), if_neg (by decide), if_neg (by decide), if_pos rfl]
  · rw [show (2004 : Int32) - 2000 = 4 by decide, rWk4]
    unfold f_207
    rw [if_neg (by decide), if_neg (by decide), if_neg (by decide), if_neg (by decide), if_pos rfl]
  · rw [show (2005 : Int32) - 2000 = 5 by decide, rWk5]
    unfold f_207
    rw [if_neg (by decide), if_neg (by decide), if_neg (by decide), if_neg (by decide), if_neg (by decide), if_pos rfl]
  · rw [show (2006 : Int32) - 2000 = 6 by decide, rWk6]
    unfold f_207
    rw [if_neg (by decide), if_neg (by decide), if_neg (by decide), if_neg (by decide), if_neg (by decide), if_neg (by decide), dvE, yBs]
theorem rCv_2 {c : Int32} (h1 : 2000 ≤ c) (h2 : c ≤ 2006) : rCv c ≠ 3000 ∧ ¬ rCv c < 2000 ∧ ¬ 3000 ≤ rCv c := by
  rcases c7 h1 h2 with rfl | rfl | rfl | rfl | rfl | rfl | rfl <;> decide
theorem rCv_1 {c : Int32} (h : ¬ 2000 ≤ c) : rCv c = c := by
  unfold rCv
  rw [if_neg, if_neg h]
  rintro rfl; exact h (by decide)
section EV
variable {κ : yK} {m : yM} {Fa : Nat → Int32}
theorem s65 {k : Nat} (hk : k < 10) : f_65 117 (yN k) (yH κ m) = some (m.1 117 k, yH κ m) := by
  unfold f_65
  rw [yh_len (show ySh[117]? = some (.inl (0, 10)) from rfl) (by omega)]
  simp (disch := first | assumption | omega) only [yN_add, yN_addl, yN_ladd, yN_mul, yN_mull, yN_lmul, yN_sub, yN_subl, yN_lsub, yN_lt, yN_ltl, yN_llt, yN_le, yN_lel, yN_lle, yN_eq, yN_eql, yN_leq, yN_eqm, yN_lem, yN_ltm, yN_mlt, yN_mle, yN_addm, yN_madd, yp_div, yp_rem, yp_divN, yp_remN, yBs]
  rw [if_neg (by omega), if_neg (by omega)]
  simp (disch := first | assumption | omega) only [ya_117, yBs]
/-- codes lie in a row from i on -/
def Cd (a : Nat → Int32) (i : Nat) (r : List Int32) : Prop := ∀ j, j < r.length → a (i + j) = r.getD j 0
theorem Cd.hd {a : Nat → Int32} {i : Nat} {c : Int32} {r : List Int32} (h : Cd a i (c :: r)) : a i = c := by
  have := h 0 (by simp); rwa [Nat.add_zero] at this
theorem Cd.tl {a : Nat → Int32} {i : Nat} {c : Int32} {r : List Int32} (h : Cd a i (c :: r)) : Cd a (i + 1) r := fun j hj => by
  have := h (j + 1) (by rw [List.length_cons]; omega)
  rw [show i + 1 + j = i + (j + 1) by omega, this]; rfl
theorem c10 {c : Int32} (h0 : 0 ≤ c) (h1 : 1000 ≤ c) (h2 : c < 1010) : ∃ k, k < 10 ∧ c - 1000 = yN k ∧ (c - 1000).toNatClampNeg = k := by
  obtain ⟨k, hk, rfl⟩ := yN_of' h0
  rw [yN_lle hk (by omega)] at h1
  rw [yN_ltl hk (by omega)] at h2
  refine ⟨k - 1000, by omega, yN_subl h1, ?_⟩
  rw [yN_subl h1]; exact yI_cl (by omega)
/-- valueOf(): the loop -/
theorem s64_4 (hF : ∀ k, k < 10 → m.1 117 k = Fa k) : ∀ (r : List Int32) (i fu : Nat) (st : List Int32) (a : Nat → Int32) (d : Nat), r.length < fu → i + r.length ≤ 40 → st.length ≤ i → m.1 110 5 = yN (i + r.length) → Cd (m.1 111) i (r.map rCv) → rDp r st.length = some d → Sk a st → ∃ a', f_64_4 fu 110 117 (yN st.length) (yN i) (yH κ (yR m 114 a)) = some (yN (rEv Fa r st).length, yH κ (yR m 114 a')) ∧ Sk a' (rEv Fa r st) ∧ (rEv Fa r st).length = d := by
  intro r
  induction r with
  | nil =>
    intro i fu st a d hfu hi hs h5 hC hD hS
    obtain ⟨fu, rfl⟩ : ∃ k, fu = k + 1 := ⟨fu - 1, by simp at hfu; omega⟩
    refine ⟨a, ?_, hS, ?_⟩
    · unfold f_64_4
      have e : (yR m 114 a).1 110 5 = yN i := by rw [yR_ne _ _ (by omega), h5]; simp
      rw [yi_110_5, yBs, e, if_pos (by rw [yN_le (by simp at hi; omega) (by simp at hi; omega)]; omega)]
      rfl
    · simp only [rDp] at hD; exact Option.some.inj hD
  | cons c r ih =>
    intro i fu st a d hfu hi hs h5 hC hD hS
    rw [List.length_cons] at hfu hi h5
    obtain ⟨fu, rfl⟩ : ∃ k, fu = k + 1 := ⟨fu - 1, by omega⟩
    have e5 : ∀ a, (yR m 114 a).1 110 5 = yN (i + (r.length + 1)) := fun a => by rw [yR_ne _ _ (by omega), h5]
    have e111 : ∀ a, (yR m 114 a).1 111 i = rCv c := fun a => by rw [yR_ne _ _ (by omega)]; exact hC.hd
    have hC' : Cd (m.1 111) (i + 1) (r.map rCv) := hC.tl
    have h5' : m.1 110 5 = yN (i + 1 + r.length) := by rw [h5]; congr 1; omega
    have nx := fun st a d => ih (i + 1) fu st a d (by omega) (by omega)
    rw [f_64_4]
    rw [yi_110_5, yBs, e5]
    simp only [rDp] at hD
    by_cases h3 : c = 3000
    · subst h3
      rw [if_pos rfl] at hD
      by_cases h1 : 1 ≤ st.length
      · rw [if_pos h1] at hD
        obtain ⟨x, t, rfl⟩ : ∃ x t, st = x :: t := by cases st with
          | nil => simp at h1
          | cons x t => exact ⟨x, t, rfl⟩
        rw [List.length_cons] at hs hD ⊢
        have hSk : Sk (upd a t.length (-x)) ((-x) :: t) := hS.tail.push
        have ev : rEv Fa (3000 :: r) (x :: t) = rEv Fa r ((-x) :: t) := by rw [rEv, if_pos rfl]; rfl
        rw [ev]
        obtain ⟨a', e', k1, k2⟩ := nx ((-x) :: t) (upd a t.length (-x)) d (by rw [List.length_cons]; omega) h5' hC' (by rw [List.length_cons]; exact hD) hSk
        refine ⟨a', ?_, k1, k2⟩
        rw [if_neg (by rw [yN_le (by omega) (by omega)]; omega), yr_110_0, yBs, ya_111 (by omega), yBs, e111, show rCv 3000 = 3000 by decide, if_pos rfl, if_neg (by rw [yN_lel (by omega) (by omega)]; omega)]
        have eT : (yR m 114 a).1 114 t.length = x := by rw [yR_eq]; exact hS.top
        have eW : yW (yR m 114 a) 114 t.length (-x) = yR m 114 (upd a t.length (-x)) := by unfold yW; rw [yR_eq, yR_yR]
        rw [List.length_cons] at e'
        simp (disch := first | assumption | omega) only [yr_110_3, yBs, yN_s1, ya_114, eT, yst_114, eW, yN_addl]
        exact e'
      · rw [if_neg h1] at hD; cases hD
    · rw [if_neg h3] at hD
      by_cases h2 : 2000 ≤ c
      · rw [if_pos h2] at hD
        by_cases h1 : 2 ≤ st.length ∧ c ≤ 2006
        · rw [if_pos h1] at hD
          obtain ⟨y, x, t, rfl⟩ : ∃ y x t, st = y :: x :: t := by
            cases st with
            | nil => simp at h1
            | cons y s2 => cases s2 with
              | nil => simp at h1
              | cons x t => exact ⟨y, x, t, rfl⟩
          obtain ⟨v1, v2, v3⟩ := rCv_2 h2 h1.2
          rw [List.length_cons, List.length_cons] at hs hD ⊢
          have hSk : Sk (upd a t.length (rWk c x y)) (rWk c x y :: t) := hS.tail.tail.push
          obtain ⟨a', e', k1, k2⟩ := nx (rWk c x y :: t) (upd a t.length (rWk c x y)) d (by rw [List.length_cons]; omega) h5' hC' (by rw [List.length_cons]; exact hD) hSk
          have ev : rEv Fa (c :: r) (y :: x :: t) = rEv Fa r (rWk c x y :: t) := by rw [rEv, if_neg h3, if_pos h2]; rfl
          rw [ev]
          refine ⟨a', ?_, k1, k2⟩
          rw [if_neg (by rw [yN_le (by omega) (by omega)]; omega), yr_110_0, yBs, ya_111 (by omega), yBs, e111, if_neg v1, if_neg v2, if_neg v3, if_neg (by rw [yN_lel (by omega) (by omega)]; omega)]
          have eT : (yR m 114 a).1 114 t.length = x := by rw [yR_eq]; exact hS.tail.top
          have eT2 : (yR m 114 a).1 114 (t.length + 1) = y := by rw [yR_eq]; exact hS.top
          have eW : yW (yR m 114 a) 114 t.length (rWk c x y) = yR m 114 (upd a t.length (rWk c x y)) := by unfold yW; rw [yR_eq, yR_yR]
          rw [List.length_cons] at e'
          simp (disch := first | assumption | omega) only [yr_110_3, yBs, yN_addm, yN_s1, ya_114, eT, eT2, s66 h2 h1.2, yst_114, eW, yN_addl]
          exact e'
        · rw [if_neg h1] at hD; cases hD
      · rw [if_neg h2] at hD
        by_cases h1 : 0 ≤ c ∧ c < 1010
        · rw [if_pos h1] at hD
          have hlt : c < 2000 := yLt_of_le h2
          have hS1 : ∀ v, Sk (upd a st.length v) (v :: st) := fun v => hS.push
          obtain ⟨a', e', k1, k2⟩ := nx ((if 1000 ≤ c then Fa (c - 1000).toNatClampNeg else c) :: st) (upd a st.length (if 1000 ≤ c then Fa (c - 1000).toNatClampNeg else c)) d (by rw [List.length_cons]; omega) h5' hC' (by rw [List.length_cons]; exact hD) (hS1 _)
          have ev : rEv Fa (c :: r) st = rEv Fa r ((if 1000 ≤ c then Fa (c - 1000).toNatClampNeg else c) :: st) := by rw [rEv, if_neg h3, if_neg h2]
          rw [ev]
          refine ⟨a', ?_, k1, k2⟩
          rw [if_neg (by rw [yN_le (by omega) (by omega)]; omega), yr_110_0, yBs, ya_111 (by omega), yBs, e111, rCv_1 h2, if_neg h3, if_pos hlt, if_neg h2, if_neg (by rw [yN_lle (by omega) (by omega)]; omega), yr_110_3, yBs]
          have w : (if 1000 ≤ c then (f_65 117 (c - 1000) (yH κ (yR m 114 a))).bind fun (x125, h124) => some (x125, h124) else some (c, yH κ (yR m 114 a)) : Option (Int32 × xH)) = some ((if 1000 ≤ c then Fa (c - 1000).toNatClampNeg else c), yH κ (yR m 114 a)) := by
            by_cases q : 1000 ≤ c
            · obtain ⟨k, hk, q1, q2⟩ := c10 h1.1 q h1.2
              rw [if_pos q, if_pos q, q2, q1, s65 hk, yBs, yR_ne _ _ (by omega), hF k hk]
            · rw [if_neg q, if_neg q]
          have eW : ∀ v, yW (yR m 114 a) 114 st.length v = yR m 114 (upd a st.length v) := fun v => by unfold yW; rw [yR_eq, yR_yR]
          rw [List.length_cons] at e'
          rw [w, yBs]
          simp (disch := first | assumption | omega) only [yst_114, yBs, eW, yN_addl]
          exact e'
        · rw [if_neg h1] at hD; cases hD
end EV
