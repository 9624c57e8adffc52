/-! ===== the reference measures as weigh() does ===== -/
def sM (x j : Nat) : Prop := x = 188 ∨ x = 189 ∨ x = 190 ∨ (x = 178 ∧ j = 23)
def mRs (m : yM) (th : Nat → Int32) (n : Nat) (t0 t1 : Int32) (i : Nat) : Prop :=
  m.1 178 23 = (wB th n t0 t1 (n - i)).2.2.1 ∧
  ∀ l, i ≤ l → l < n → m.1 188 l = (wS th n (n - 1 - l)).1 ∧ m.1 189 l = wP th n t0 t1 (n - 1 - l) ∧ m.1 190 l = wM th n t0 t1 (n - 1 - l)
theorem mgO_00 (k : Nat) : mgO k 0 0 = 0 := by unfold mgO; simp [pMin]
theorem wP_0 (th : Nat → Int32) (n : Nat) (t0 t1 : Int32) : wP th n t0 t1 0 = 0 := by
  unfold wP; simp [wS]
theorem wM_0 (th : Nat → Int32) (n : Nat) (t0 t1 : Int32) : wM th n t0 t1 0 = 0 := by
  unfold wM; rw [wP_0]; exact mgO_00 _
/-- the layer that is weakest of the d highest has the least margin of them -/
theorem wB_inv (th : Nat → Int32) (n : Nat) (t0 t1 : Int32) : ∀ d, d ≤ n → (wB th n t0 t1 d).2.2.1 = -1 ∨ ∃ k, n - d ≤ k ∧ k < n ∧ (wB th n t0 t1 d).2.2.1 = yN k ∧ wM th n t0 t1 (n - 1 - k) = (wB th n t0 t1 d).2.2.2 := by
  intro d
  induction d with
  | zero => intro _; left; rfl
  | succ d ih =>
    intro hd
    simp only [wB]
    by_cases h : 0 < d ∧ ((wB th n t0 t1 d).2.2.1 = -1 ∨ wM th n t0 t1 d ≤ (wB th n t0 t1 d).2.2.2)
    · rw [if_pos h, if_pos h]
      exact Or.inr ⟨n - 1 - d, by omega, by omega, rfl, by rw [show n - 1 - (n - 1 - d) = d by omega]⟩
    · rw [if_neg h, if_neg h]
      rcases ih (by omega) with q | ⟨k, q1, q2, q3, q4⟩
      · exact Or.inl q
      · exact Or.inr ⟨k, by omega, q2, q3, q4⟩
theorem tW_ref {x : Int32} (h : x = -1 ∨ (0 ≤ x ∧ x ≤ 9)) : (if (0 : Int32) ≤ x then 10 + x else 0) = tW x := by
  unfold tW
  rcases h with rfl | ⟨h1, -⟩
  · decide
  · rw [if_pos h1, if_neg, Int32.add_comm]
    rintro rfl
    exact absurd h1 (by decide)
section MS
variable {κ : yK} {m : yM} {s n : Nat} {th : Nat → Int32} {t0 t1 : Int32}
theorem s187_307 {l fu : Nat} {A V x y f w : Int32} (hs : yAr s) (ht : Tor m s th n) (hr : tRg th) (hl : l < 16) :
    f_187_307 (fu + 4) 178 s A V x y f (yN l) w (yN 0) (yH κ m) = some (A + tWg th l, x + (if w = 0 then 0 else tMo th l), y + (if w = 0 then tMo th l else 0), yH κ m) := by
  unfold f_187_307 f_187_307 f_187_307 f_187_307
  simp (disch := first | assumption | omega) only [yN_add, yN_addl, yN_ladd, yN_mul, yN_mull, yN_lmul, yN_sub, yN_subl, yN_lsub, yN_lt, yN_ltl, yN_llt, yN_le, yN_lel, yN_lle, yN_eq, yN_eql, yN_leq, yN_eqm, yN_lem, yN_ltm, yN_mlt, yN_mle, yN_addm, yN_madd, yp_div, yp_rem, yp_divN, yp_remN, yr_a hs, yBs, pG_t, pZ_0, pZ_1, pZ_B, if_pos, if_neg, ht.1, Nat.add_zero, Nat.zero_add, yIte_some, tW_ref (hr _ (show 3 * l < 48 by omega)), tW_ref (hr _ (show 3 * l + 1 < 48 by omega)), tW_ref (hr _ (show 3 * l + 2 < 48 by omega))]
  unfold tWg tMo
  have e0 : yN 0 - 1 = -1 := rfl
  have e1 : yN (0 + 1) - 1 = 0 := rfl
  have e2 : yN (1 + 1) - 1 = 1 := rfl
  by_cases hw : w = 0
  · simp only [hw, if_true]
    congr 1
    refine Prod.ext (by simp only; grind) (Prod.ext (by simp) (Prod.ext ?_ rfl))
    simp only
    grind
  · simp only [hw, if_false]
    congr 1
    refine Prod.ext (by simp only; grind) (Prod.ext ?_ (Prod.ext (by simp) rfl))
    simp only
    grind
theorem tLo_ite {k : Nat} : (if k % 2 = 1 then some (0 : Int32) else if k % 4 ≤ 1 then some 2 else some 1) = some (yN (tLo k)) := by
  unfold tLo
  split
  · rfl
  · split
    · rw [if_neg (by omega)]; rfl
    · rw [if_pos (by omega)]; rfl
theorem tHi_ite {k : Nat} : (if k ≤ 3 then (if k ≤ 1 then some (0 : Int32) else some 1) else some 2) = some (yN (tHi k)) := by
  unfold tHi
  by_cases h1 : k ≤ 3
  · by_cases h2 : k ≤ 1
    · rw [if_pos h1, if_pos h2, if_neg (by omega), if_neg (by omega)]; rfl
    · rw [if_pos h1, if_neg h2, if_neg (by omega), if_pos (by omega)]; rfl
  · rw [if_neg h1, if_pos (by omega)]; rfl
/-- one layer -/
def mSt (m : yM) (th : Nat → Int32) (n : Nat) (t0 t1 : Int32) (l : Nat) : yM :=
  yW (yW (yW (yW m 188 l (wS th n (n - 1 - l)).1) 189 l (wP th n t0 t1 (n - 1 - l))) 190 l (wM th n t0 t1 (n - 1 - l))) 178 23 (wB th n t0 t1 (n - 1 - l + 1)).2.2.1
theorem mSt_fr {l : Nat} : yFr sM m (mSt m th n t0 t1 l) := by
  refine ⟨rfl, fun x j h => ?_⟩
  unfold sM at h
  unfold mSt
  rw [yW_get, if_neg (by omega), yW_row (by omega), yW_row (by omega), yW_row (by omega)]
theorem Tor.fr {m m' : yM} {s n : Nat} {th : Nat → Int32} {S : Nat → Nat → Prop} (h : Tor m s th n) (hf : yFr S m m') (hs : ∀ j, j < 54 → ¬ S s j) : Tor m' s th n :=
  ⟨fun b hb => by rw [hf.2 _ _ (hs _ (by omega)), h.1 b hb], by rw [hf.2 _ _ (hs _ (by omega)), h.2]⟩
theorem wB_1 {l : Nat} (hl : l < n) : (wB th n t0 t1 (n - 1 - l + 1)).1 = if wM th n t0 t1 (n - 1 - l) < 0 then yN l else (wB th n t0 t1 (n - 1 - l)).1 := by
  rw [wB, show n - 1 - (n - 1 - l) = l by omega]
theorem wB_3 {l : Nat} (hl : l < n) : (wB th n t0 t1 (n - 1 - l + 1)).2.2.1 = if 0 < (n - 1 - l) ∧ ((wB th n t0 t1 (n - 1 - l)).2.2.1 = -1 ∨ wM th n t0 t1 (n - 1 - l) ≤ (wB th n t0 t1 (n - 1 - l)).2.2.2) then yN l else (wB th n t0 t1 (n - 1 - l)).2.2.1 := by
  rw [wB, show n - 1 - (n - 1 - l) = l by omega]
theorem mLeast {l : Nat} {m1 : yM} (hn : n ≤ 16) (hl : l < n) (hr : mRs m th n t0 t1 (l + 1)) (e1 : m1.1 178 23 = (wB th n t0 t1 (n - 1 - l)).2.2.1) (e2 : m1.1 190 = upd (m.1 190) l (wM th n t0 t1 (n - 1 - l))) :
    (if n - 1 ≤ l then some (m1.1 178 23) else if m1.1 178 23 < 0 then some (yN l) else (pAi (yH κ m1) 190 (m1.1 178 23)).bind fun x71 => if x71 < wM th n t0 t1 (n - 1 - l) then some (m1.1 178 23) else some (yN l)) = some (wB th n t0 t1 (n - 1 - l + 1)).2.2.1 := by
  rw [e1, wB_3 hl]
  by_cases h : n - 1 ≤ l
  · rw [if_pos h, if_neg (fun q => by omega)]
  · rw [if_neg h]
    rcases wB_inv th n t0 t1 (n - 1 - l) (by omega) with g | ⟨k, g1, g2, g3, g4⟩
    · rw [g, if_pos (by decide), if_pos ⟨by omega, Or.inl rfl⟩]
    · rw [g3]
      simp (disch := first | assumption | omega) only [yN_add, yN_addl, yN_ladd, yN_mul, yN_mull, yN_lmul, yN_sub, yN_subl, yN_lsub, yN_lt, yN_ltl, yN_llt, yN_le, yN_lel, yN_lle, yN_eq, yN_eql, yN_leq, yN_eqm, yN_lem, yN_ltm, yN_mlt, yN_mle, yN_addm, yN_madd, yp_div, yp_rem, yp_divN, yp_remN, if_pos, if_neg, ya_190, yBs, pG_t, pZ_0, pZ_1, pZ_B, e2]
      rw [upd_ne _ _ (show k ≠ l by omega), (hr.2 k (by omega) g2).2.2, g4]
      by_cases h5 : (wB th n t0 t1 (n - 1 - l)).2.2.2 < wM th n t0 t1 (n - 1 - l)
      · rw [if_pos h5, if_neg]
        rintro ⟨-, p | p⟩
        · exact p
        · rw [yLe_iff] at p; rw [yLt_iff] at h5; omega
      · rw [if_neg h5, if_pos ⟨by omega, Or.inr (yLe_of_lt h5)⟩]
theorem mFirst {l : Nat} (hl : l < n) : (if (0 : Int32) ≤ wM th n t0 t1 (n - 1 - l) then some (wB th n t0 t1 (n - 1 - l)).1 else some (yN l)) = some (wB th n t0 t1 (n - 1 - l + 1)).1 := by
  rw [wB_1 hl]
  by_cases h : wM th n t0 t1 (n - 1 - l) < 0
  · rw [if_neg (by rw [yLe_iff]; rw [yLt_iff] at h; omega), if_pos h]
  · rw [if_pos (yLe_of_lt h), if_neg h]
theorem mMarg {l : Nat} (hl : l < n) : (if l = n - 1 then (some 0 : Option Int32) else some (pMin (2 * wP th n t0 t1 (n - 1 - l) - 10 * (wS th n (n - 1 - l)).1 * (2 * (yN (tLo (tBe th l).toNatClampNeg) - 1) - 1)) (10 * (wS th n (n - 1 - l)).1 * (2 * (yN (tHi (tBe th l).toNatClampNeg) - 1) + 1) - 2 * wP th n t0 t1 (n - 1 - l)))) = some (wM th n t0 t1 (n - 1 - l)) := by
  by_cases h : l = n - 1
  · rw [if_pos h, show n - 1 - l = 0 by omega, wM_0]
  · rw [if_neg h]; unfold wM; rw [show n - 1 - (n - 1 - l) = l by omega]; rfl
theorem s187_step {l fu : Nat} (hS : yAr s) (hd : s ≠ 178 ∧ s ≠ 188 ∧ s ≠ 189 ∧ s ≠ 190) (hk : tOk th n) (hl : l < n) (ht : Tor m s th n) (h0 : m.1 178 7 = t0) (h1 : m.1 178 8 = t1) (hr : mRs m th n t0 t1 (l + 1)) :
    f_187_26 (fu + 1) 178 s (wS th n (n - 1 - l)).1 (wS th n (n - 1 - l)).2.1 (wS th n (n - 1 - l)).2.2.1 (wS th n (n - 1 - l)).2.2.2 (wB th n t0 t1 (n - 1 - l)).1 (yN (l + 1) - 1) (yH κ m) =
    f_187_26 fu 178 s (wS th n (n - 1 - l + 1)).1 (wS th n (n - 1 - l + 1)).2.1 (wS th n (n - 1 - l + 1)).2.2.1 (wS th n (n - 1 - l + 1)).2.2.2 (wB th n t0 t1 (n - 1 - l + 1)).1 (yN l - 1) (yH κ (mSt m th n t0 t1 l)) := by
  have hn := hk.1
  have hl2 : n - 1 - (n - 1 - l) = l := by omega
  obtain ⟨r1, r2, r3⟩ := tBe_rng hk hl
  have hrg : tRg th := hk.2.1
  have hbl := hk.2.2.2 l hl
  have hP : wP th n t0 t1 (n - 1 - l) = (10 * (if l % 2 = 0 then (wS th n (n - 1 - l)).2.2.1 else (wS th n (n - 1 - l)).2.2.2)) + ((if l % 2 = 0 then t0 else t1) * ((wS th n (n - 1 - l)).2.1 + (wS th n (n - 1 - l)).1)) := by unfold wP; rw [hl2]
  have hSx : wS th n (n - 1 - l + 1) = ((wS th n (n - 1 - l)).1 + tWg th l, (wS th n (n - 1 - l)).2.1 + (wS th n (n - 1 - l)).1, (wS th n (n - 1 - l)).2.2.1 + (if l % 2 = 0 then tMo th l else 0), (wS th n (n - 1 - l)).2.2.2 + (if l % 2 = 0 then 0 else tMo th l)) := by
    rw [wS, hl2]
  have hmg := mMarg (th := th) (t0 := t0) (t1 := t1) hl
  have hfi := mFirst (th := th) (t0 := t0) (t1 := t1) hl
  have hy : yN l + -1 = yN l - 1 := by rw [Int32.sub_eq_add_neg]
  have q1 := hr.1
  rw [show n - (l + 1) = n - 1 - l by omega] at q1
  have hle := mLeast (κ := κ) (m1 := yW (yW (yW m 188 l (wS th n (n - 1 - l)).1) 189 l (wP th n t0 t1 (n - 1 - l))) 190 l (wM th n t0 t1 (n - 1 - l))) hn hl hr (by rw [yW_row (by omega), yW_row (by omega), yW_row (by omega), q1]) (by rw [yW_self, yW_row (by omega), yW_row (by omega)])
  have ht2 : Tor (yW (yW m 188 l (wS th n (n - 1 - l)).1) 189 l (wP th n t0 t1 (n - 1 - l))) s th n := ⟨fun b hb => by rw [yW_row (by omega), yW_row (by omega), ht.1 b hb], by rw [yW_row (by omega), yW_row (by omega), ht.2]⟩
  have ht3 : Tor (mSt m th n t0 t1 l) s th n := ht.fr mSt_fr (fun j _ => by unfold sM; omega)
  have e188 : ∀ m : yM, pFr (yH κ m) 178 12 20 = some 188 := fun m => yr_178_20
  rw [f_187_26, yN_s1, hSx]
  have hlast : ∀ w : Int32, w = (if l % 2 = 0 then (1 : Int32) else 0) → ((f_187_307 100000 178 s (wS th n (n - 1 - l)).1 ((wS th n (n - 1 - l)).2.1 + (wS th n (n - 1 - l)).1) (wS th n (n - 1 - l)).2.2.1 (wS th n (n - 1 - l)).2.2.2 (wB th n t0 t1 (n - 1 - l + 1)).1 (yN l) w 0 (yH κ (mSt m th n t0 t1 l))) = some ((wS th n (n - 1 - l)).1 + tWg th l, (wS th n (n - 1 - l)).2.2.1 + (if l % 2 = 0 then tMo th l else 0), (wS th n (n - 1 - l)).2.2.2 + (if l % 2 = 0 then 0 else tMo th l), yH κ (mSt m th n t0 t1 l))) := fun w hw => by
    rw [show (100000 : Nat) = 99996 + 4 from rfl, show (0 : Int32) = yN 0 from rfl, s187_307 hS ht3 hrg (by omega)]
    rw [show yN 0 = (0 : Int32) from rfl]
    by_cases h : l % 2 = 0
    · rw [if_pos h] at hw; subst hw; simp [h, y10]
    · rw [if_neg h] at hw; subst hw; simp [h]
  have hm : yW (yW (yW (yW m 188 l (wS th n (n - 1 - l)).1) 189 l (wP th n t0 t1 (n - 1 - l))) 190 l (wM th n t0 t1 (n - 1 - l))) 178 23 (wB th n t0 t1 (n - 1 - l + 1)).2.2.1 = mSt m th n t0 t1 l := rfl
  simp (disch := first | assumption | omega) only [yW_row] at hle
  by_cases he : l % 2 = 0
  · have hP' := hP
    rw [if_pos he, if_pos he] at hP'
    simp (disch := first | assumption | omega) only [yN_add, yN_addl, yN_ladd, yN_mul, yN_mull, yN_lmul, yN_sub, yN_subl, yN_lsub, yN_lt, yN_ltl, yN_llt, yN_le, yN_lel, yN_lle, yN_eq, yN_eql, yN_leq, yN_eqm, yN_lem, yN_ltm, yN_mlt, yN_mle, yN_addm, yN_madd, yp_div, yp_rem, yp_divN, yp_remN, yr_178_2, yr_178_3, yr_178_4, yr_178_5, yr_178_9, yr_178_14, yr_178_15, yr_178_16, yr_178_19, yr_178_20, yr_178_21, yr_178_22, yr_178_24, yr_178_27, yr_178_29, yr_178_30, yr_178_32, yr_178_33, yr_178_34, yr_178_35, yr_178_36, yr_178_39, yr_178_40, yr_178_41, yr_178_42, yr_178_43, yr_178_45, yr_178_46, yr_178_47, yr_178_48, yr_178_49, yr_178_51, yr_178_52, yi_178_0, yi_178_1, yi_178_6, yi_178_7, yi_178_8, yi_178_10, yi_178_11, yi_178_12, yi_178_13, yi_178_17, yi_178_18, yi_178_23, yi_178_25, yi_178_26, yi_178_28, yi_178_31, yi_178_37, yi_178_38, yi_178_44, yi_178_50, yst_188, yst_189, yBs, pG_t, pZ_0, pZ_1, pZ_B, if_pos, if_neg, y10, if_false, yW_row, h0]
    rw [← hP', s185 hS ht2 hrg (by omega) hbl, yBs, r3]
    simp (disch := first | assumption | omega) only [yN_add, yN_addl, yN_ladd, yN_mul, yN_mull, yN_lmul, yN_sub, yN_subl, yN_lsub, yN_lt, yN_ltl, yN_llt, yN_le, yN_lel, yN_lle, yN_eq, yN_eql, yN_leq, yN_eqm, yN_lem, yN_ltm, yN_mlt, yN_mle, yN_addm, yN_madd, yp_div, yp_rem, yp_divN, yp_remN, yr_178_2, yr_178_3, yr_178_4, yr_178_5, yr_178_9, yr_178_14, yr_178_15, yr_178_16, yr_178_19, yr_178_20, yr_178_21, yr_178_22, yr_178_24, yr_178_27, yr_178_29, yr_178_30, yr_178_32, yr_178_33, yr_178_34, yr_178_35, yr_178_36, yr_178_39, yr_178_40, yr_178_41, yr_178_42, yr_178_43, yr_178_45, yr_178_46, yr_178_47, yr_178_48, yr_178_49, yr_178_51, yr_178_52, yi_178_0, yi_178_1, yi_178_6, yi_178_7, yi_178_8, yi_178_10, yi_178_11, yi_178_12, yi_178_13, yi_178_17, yi_178_18, yi_178_23, yi_178_25, yi_178_26, yi_178_28, yi_178_31, yi_178_37, yi_178_38, yi_178_44, yi_178_50, yBs, pG_t, pZ_0, pZ_1, pZ_B, tLo_ite, tHi_ite, ya_189, yr_al hS, yW_row, yW_self, upd_eq, ht.2, hmg, yst_190, ya_190, hfi, hle, yp_178_23]
    rw [hm, hlast 1 (by rw [if_pos he]), yBs, if_pos he, if_pos he, hy]
  · have hP' := hP
    rw [if_neg he, if_neg he] at hP'
    simp (disch := first | assumption | omega) only [yN_add, yN_addl, yN_ladd, yN_mul, yN_mull, yN_lmul, yN_sub, yN_subl, yN_lsub, yN_lt, yN_ltl, yN_llt, yN_le, yN_lel, yN_lle, yN_eq, yN_eql, yN_leq, yN_eqm, yN_lem, yN_ltm, yN_mlt, yN_mle, yN_addm, yN_madd, yp_div, yp_rem, yp_divN, yp_remN, yr_178_2, yr_178_3, yr_178_4, yr_178_5, yr_178_9, yr_178_14, yr_178_15, yr_178_16, yr_178_19, yr_178_20, yr_178_21, yr_178_22, yr_178_24, yr_178_27, yr_178_29, yr_178_30, yr_178_32, yr_178_33, yr_178_34, yr_178_35, yr_178_36, yr_178_39, yr_178_40, yr_178_41, yr_178_42, yr_178_43, yr_178_45, yr_178_46, yr_178_47, yr_178_48, yr_178_49, yr_178_51, yr_178_52, yi_178_0, yi_178_1, yi_178_6, yi_178_7, yi_178_8, yi_178_10, yi_178_11, yi_178_12, yi_178_13, yi_178_17, yi_178_18, yi_178_23, yi_178_25, yi_178_26, yi_178_28, yi_178_31, yi_178_37, yi_178_38, yi_178_44, yi_178_50, yst_188, yst_189, yBs, pG_t, pZ_0, pZ_1, pZ_B, if_pos, if_neg, y10, if_false, if_true, yW_row, h1]
    rw [← hP', s185 hS ht2 hrg (by omega) hbl, yBs, r3]
    simp (disch := first | assumption | omega) only [yN_add, yN_addl, yN_ladd, yN_mul, yN_mull, yN_lmul, yN_sub, yN_subl, yN_lsub, yN_lt, yN_ltl, yN_llt, yN_le, yN_lel, yN_lle, yN_eq, yN_eql, yN_leq, yN_eqm, yN_lem, yN_ltm, yN_mlt, yN_mle, yN_addm, yN_madd, yp_div, yp_rem, yp_divN, yp_remN, yr_178_2, yr_178_3, yr_178_4, yr_178_5, yr_178_9, yr_178_14, yr_178_15, yr_178_16, yr_178_19, yr_178_20, yr_178_21, yr_178_22, yr_178_24, yr_178_27, yr_178_29, yr_178_30, yr_178_32, yr_178_33, yr_178_34, yr_178_35, yr_178_36, yr_178_39, yr_178_40, yr_178_41, yr_178_42, yr_178_43, yr_178_45, yr_178_46, yr_178_47, yr_178_48, yr_178_49, yr_178_51, yr_178_52, yi_178_0, yi_178_1, yi_178_6, yi_178_7, yi_178_8, yi_178_10, yi_178_11, yi_178_12, yi_178_13, yi_178_17, yi_178_18, yi_178_23, yi_178_25, yi_178_26, yi_178_28, yi_178_31, yi_178_37, yi_178_38, yi_178_44, yi_178_50, yBs, pG_t, pZ_0, pZ_1, pZ_B, tLo_ite, tHi_ite, ya_189, yr_al hS, yW_row, yW_self, upd_eq, ht.2, hmg, yst_190, ya_190, hfi, hle, yp_178_23]
    rw [hm, hlast 0 (by rw [if_neg he]), yBs, if_neg he, if_neg he, hy]
    try rw [yN_subl (show 1 ≤ l by omega)]
theorem mSt_rows {l : Nat} : (mSt m th n t0 t1 l).1 188 = upd (m.1 188) l (wS th n (n - 1 - l)).1 ∧ (mSt m th n t0 t1 l).1 189 = upd (m.1 189) l (wP th n t0 t1 (n - 1 - l)) ∧ (mSt m th n t0 t1 l).1 190 = upd (m.1 190) l (wM th n t0 t1 (n - 1 - l)) := by
  unfold mSt
  refine ⟨?_, ?_, ?_⟩
  · rw [yW_row (by omega), yW_row (by omega), yW_row (by omega), yW_self]
  · rw [yW_row (by omega), yW_row (by omega), yW_self, yW_row (by omega)]
  · rw [yW_row (by omega), yW_self, yW_row (by omega), yW_row (by omega)]
theorem mSt_mRs {l : Nat} (hl : l < n) (hr : mRs m th n t0 t1 (l + 1)) : mRs (mSt m th n t0 t1 l) th n t0 t1 l := by
  obtain ⟨p1, p2, p3⟩ := mSt_rows (m := m) (th := th) (n := n) (t0 := t0) (t1 := t1) (l := l)
  refine ⟨?_, fun k hk hkn => ?_⟩
  · unfold mSt; rw [yW_self, upd_eq, show n - 1 - l + 1 = n - l by omega]
  · rw [p1, p2, p3]
    by_cases h : k = l
    · subst h; rw [upd_eq, upd_eq, upd_eq]; exact ⟨rfl, rfl, rfl⟩
    · rw [upd_ne _ _ h, upd_ne _ _ h, upd_ne _ _ h]; exact hr.2 k (by omega) hkn
theorem s187_26 (hS : yAr s) (hd : s ≠ 178 ∧ s ≠ 188 ∧ s ≠ 189 ∧ s ≠ 190) (hk : tOk th n) : ∀ (i fu : Nat) (m : yM), i ≤ n → i < fu → Tor m s th n → m.1 178 7 = t0 → m.1 178 8 = t1 → mRs m th n t0 t1 i →
    ∃ m', f_187_26 fu 178 s (wS th n (n - i)).1 (wS th n (n - i)).2.1 (wS th n (n - i)).2.2.1 (wS th n (n - i)).2.2.2 (wB th n t0 t1 (n - i)).1 (yN i - 1) (yH κ m) = some ((wB th n t0 t1 n).1, yH κ m') ∧ mRs m' th n t0 t1 0 ∧ yFr sM m m' := by
  intro i
  induction i with
  | zero =>
    intro fu m hi hf ht h0 h1 hr
    obtain ⟨fu, rfl⟩ : ∃ k, fu = k + 1 := ⟨fu - 1, by omega⟩
    refine ⟨m, ?_, hr, yFr.rf m⟩
    rw [f_187_26, if_pos (by decide)]; rfl
  | succ l ih =>
    intro fu m hi hf ht h0 h1 hr
    obtain ⟨fu, rfl⟩ : ∃ k, fu = k + 1 := ⟨fu - 1, by omega⟩
    have hfr : yFr sM m (mSt m th n t0 t1 l) := mSt_fr
    have ht' : Tor (mSt m th n t0 t1 l) s th n := ht.fr hfr (fun j _ => by unfold sM; omega)
    obtain ⟨m', e, r, f⟩ := ih fu (mSt m th n t0 t1 l) (by omega) (by omega) ht' (by rw [hfr.2 _ _ (by unfold sM; omega), h0]) (by rw [hfr.2 _ _ (by unfold sM; omega), h1]) (mSt_mRs (by omega) hr)
    refine ⟨m', ?_, r, hfr.tr f (fun _ _ q => q.elim id id)⟩
    have := s187_step (κ := κ) (fu := fu) hS hd hk (show l < n by omega) ht h0 h1 hr
    rw [show n - 1 - l = n - (l + 1) by omega, show n - (l + 1) + 1 = n - l by omega] at this
    rw [this, e]
/-- measures() -/
theorem s187 (hS : yAr s) (hd : s ≠ 178 ∧ s ≠ 188 ∧ s ≠ 189 ∧ s ≠ 190) (hk : tOk th n) (ht : Tor m s th n) (h0 : m.1 178 7 = t0) (h1 : m.1 178 8 = t1) :
    ∃ m', f_187 178 s (yH κ m) = some ((wB th n t0 t1 n).1, yH κ m') ∧ mRs m' th n t0 t1 0 ∧ yFr sM m m' := by
  have hn := hk.1
  have hfr : yFr sM m (yW m 178 23 (-1)) := yFr.w m (by unfold sM; omega)
  have ht' : Tor (yW m 178 23 (-1)) s th n := ht.fr hfr (fun j _ => by unfold sM; omega)
  obtain ⟨m', e, r, f⟩ := s187_26 (κ := κ) (t0 := t0) (t1 := t1) hS hd hk n 100000 _ (Nat.le_refl n) (by omega) ht' (by rw [hfr.2 _ _ (by unfold sM; omega), h0]) (by rw [hfr.2 _ _ (by unfold sM; omega), h1]) (by
    refine ⟨?_, fun l q1 q2 => absurd q1 (by omega)⟩
    rw [Nat.sub_self, yW_self, upd_eq]; rfl)
  refine ⟨m', ?_, r, hfr.tr f (fun _ _ q => q.elim id id)⟩
  unfold f_187
  rw [Nat.sub_self] at e
  simp (disch := first | assumption | omega) only [yp_178_23, yr_al hS, yBs, pG_t, pZ_0, pZ_1, pZ_B, ht'.2]
  simp only [wS] at e
  rw [show (wB th n t0 t1 0).1 = -1 from rfl] at e
  rw [e]
  simp (disch := first | assumption | omega) only [yBs, pG_t, pZ_0, pZ_1, pZ_B]
/-- the least layer is below 0 or not -/
theorem wB_st (th : Nat → Int32) (n : Nat) (t0 t1 : Int32) (hn : n ≤ 16) : ∀ d, d ≤ n → (wB th n t0 t1 d).1 = -1 ∨ ∃ k, k < n ∧ (wB th n t0 t1 d).1 = yN k := by
  intro d
  induction d with
  | zero => intro _; left; rfl
  | succ d ih =>
    intro hd
    simp only [wB]
    split
    · exact Or.inr ⟨n - 1 - d, by omega, rfl⟩
    · exact ih (by omega)
theorem tSt_le (hn : n ≤ 16) : (0 ≤ (wB th n t0 t1 n).1) = (tSt th n t0 t1 = false) := by
  unfold tSt
  rcases wB_st th n t0 t1 hn n (Nat.le_refl n) with q | ⟨k, q1, q2⟩
  · rw [q]; simp
  · rw [q2]
    have h1 : ¬ (yN k = -1) := by rw [yN_eqm (by omega)]; exact id
    have h2 : (0 : Int32) ≤ yN k := by rw [show (0 : Int32) = yN 0 from rfl, yN_le (by omega) (by omega)]; omega
    simp [h1, h2]
theorem s188 (hS : yAr s) (hd : s ≠ 178 ∧ s ≠ 188 ∧ s ≠ 189 ∧ s ≠ 190) (hk : tOk th n) (ht : Tor m s th n) (h0 : m.1 178 7 = t0) (h1 : m.1 178 8 = t1) :
    ∃ m', f_188 178 s (yH κ m) = some (yB (tSt th n t0 t1), yH κ m') ∧ mRs m' th n t0 t1 0 ∧ yFr sM m m' := by
  obtain ⟨m', e, r, f⟩ := s187 (κ := κ) hS hd hk ht h0 h1
  refine ⟨m', ?_, r, f⟩
  unfold f_188
  simp (disch := first | assumption | omega) only [yis_178, yBs, pG_t, pZ_0, pZ_1, pZ_B, e, tSt_le hk.1, yB_ite']
  cases tSt th n t0 t1 <;> rfl
end MS
