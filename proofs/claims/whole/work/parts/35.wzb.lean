theorem y10 : ((1 : Int32) = 0) = False := by decide
theorem yN_s1 {l : Nat} : yN (l + 1) - 1 = yN l := by rw [show yN (l + 1) = yN l + 1 from Int32.ofNat_add l 1, Int32.add_sub_cancel]
theorem y01 : ((0 : Int32) = 1) = False := by decide
/-- rows that weigh() lays out -/
def sW (x _j : Nat) : Prop := x = 105 ∨ x = 107 ∨ x = 108 ∨ x = 109
/-- of the layers from i on, what weigh() lays out -/
def wRs (m : yM) (th : Nat → Int32) (n : Nat) (t0 t1 : Int32) (i : Nat) : Prop :=
  m.1 105 4 = (wB th n t0 t1 (n - i)).1 ∧ m.1 105 5 = (wB th n t0 t1 (n - i)).2.1 ∧ m.1 105 6 = (wB th n t0 t1 (n - i)).2.2.1 ∧ m.1 105 7 = (wB th n t0 t1 (n - i)).2.2.2 ∧
  ∀ l, i ≤ l → l < n → m.1 107 l = (wS th n (n - 1 - l)).1 ∧ m.1 108 l = wP th n t0 t1 (n - 1 - l) ∧ m.1 109 l = wM th n t0 t1 (n - 1 - l)
theorem Tow.fr {m m' : yM} {a n : Nat} {th : Nat → Int32} {S : Nat → Nat → Prop} (h : Tow m a th n) (hf : yFr S m m') (hs : ∀ x j, a ≤ x → x ≤ a + 4 → ¬ S x j) : Tow m' a th n := by
  obtain ⟨h1, h2, h3⟩ := h
  refine ⟨by rw [hf.row (fun j => hs _ j (by omega) (by omega)), h1], by rw [hf.2 _ _ (hs _ _ (by omega) (by omega)), h2], fun l hl => ?_⟩
  rw [hf.2 _ _ (hs _ _ (by omega) (by omega)), hf.2 _ _ (hs _ _ (by omega) (by omega)), hf.2 _ _ (hs _ _ (by omega) (by omega))]
  exact h3 l hl
section WZB
variable {κ : yK} {m : yM} {a n : Nat} {th : Nat → Int32} {t0 t1 : Int32}
/-- one layer -/
def wSt (m : yM) (th : Nat → Int32) (n : Nat) (t0 t1 : Int32) (l : Nat) : yM :=
  wNo (yW (yW (yW m 107 l (wS th n (n - 1 - l)).1) 108 l (wP th n t0 t1 (n - 1 - l))) 109 l (wM th n t0 t1 (n - 1 - l))) l (if l = n - 1 then 1 else 0)
theorem wSt_fr {l : Nat} : yFr sW m (wSt m th n t0 t1 l) := by
  refine ⟨by unfold wSt; rw [wNo_2]; rfl, fun x j h => ?_⟩
  unfold sW at h
  unfold wSt
  rw [wNo_109 _ _ _ _ (by omega), yW_row (by omega), yW_row (by omega), yW_row (by omega)]
theorem s3_step {l fu : Nat} (ha : yTw a) (hd : a + 4 < 105 ∨ 109 < a) (hk : tOk th n) (hl : l < n) (ht : Tow m a th n) (h0 : m.1 106 0 = t0) (h1 : m.1 106 1 = t1) :
    f_3_38 (fu + 1) 105 a (wS th n (n - 1 - l)).1 (wS th n (n - 1 - l)).2.1 (wS th n (n - 1 - l)).2.2.1 (wS th n (n - 1 - l)).2.2.2 (yN (l + 1) - 1) (yH κ m) =
    f_3_38 fu 105 a (wS th n (n - 1 - l + 1)).1 (wS th n (n - 1 - l + 1)).2.1 (wS th n (n - 1 - l + 1)).2.2.1 (wS th n (n - 1 - l + 1)).2.2.2 (yN l - 1) (yH κ (wSt m th n t0 t1 l)) := by
  have hn := hk.1
  have hl2 : n - 1 - (n - 1 - l) = l := by omega
  obtain ⟨r1, r2, r3⟩ := tBe_rng hk hl
  obtain ⟨g1, g2, g3⟩ := ht.2.2 l hl
  have hM : wM th n t0 t1 (n - 1 - l) = mgO (tBe th l).toNatClampNeg (wS th n (n - 1 - l)).1 (wP th n t0 t1 (n - 1 - l)) := by unfold wM; rw [hl2]
  have hw : ∀ x, x ≠ 105 → x ≠ 107 → x ≠ 108 → x ≠ 109 → (wSt m th n t0 t1 l).1 x = m.1 x := fun x q1 q2 q3 q4 => by
    unfold wSt; rw [wNo_109 _ _ _ _ q1, yW_row q4, yW_row q3, yW_row q2]
  have hP : wP th n t0 t1 (n - 1 - l) = (10 * (if l % 2 = 0 then (wS th n (n - 1 - l)).2.2.1 else (wS th n (n - 1 - l)).2.2.2)) + ((if l % 2 = 0 then t0 else t1) * ((wS th n (n - 1 - l)).2.1 + (wS th n (n - 1 - l)).1)) := by unfold wP; rw [hl2]
  have hS : wS th n (n - 1 - l + 1) = ((wS th n (n - 1 - l)).1 + tWg th l, (wS th n (n - 1 - l)).2.1 + (wS th n (n - 1 - l)).1, (wS th n (n - 1 - l)).2.2.1 + (if l % 2 = 0 then tMo th l else 0), (wS th n (n - 1 - l)).2.2.2 + (if l % 2 = 0 then 0 else tMo th l)) := by
    rw [wS, hl2]
  rw [hS]
  have hW : ∀ w, w = (if l = n - 1 then (1 : Int32) else 0) → wNo (yW (yW (yW m 107 l (wS th n (n - 1 - l)).1) 108 l (wP th n t0 t1 (n - 1 - l))) 109 l (mgO (tBe th l).toNatClampNeg (wS th n (n - 1 - l)).1 (wP th n t0 t1 (n - 1 - l)))) l w = wSt m th n t0 t1 l := fun w hw => by
    unfold wSt; rw [hM, hw]
  have hy : yN l + -1 = yN l - 1 := by rw [Int32.sub_eq_add_neg]
  rw [f_3_38, yN_s1]
  by_cases he : l % 2 = 0
  · have h0' : m.1 106 (l % 2) = t0 := by rw [he, h0]
    rw [if_pos he, if_pos he] at hP
    simp (disch := first | assumption | omega) only [yN_add, yN_addl, yN_ladd, yN_mul, yN_mull, yN_lmul, yN_sub, yN_subl, yN_lsub, yN_lt, yN_ltl, yN_llt, yN_le, yN_lel, yN_lle, yN_eq, yN_eql, yN_leq, yN_eqm, yN_lem, yN_ltm, yN_mlt, yN_mle, yN_addm, yN_madd, yp_div, yp_rem, yp_divN, yp_remN, yt_is, yt_0, yt_1, yt_2, yt_3, yt_4, yt_p, yt_a1, yt_a2, yt_a3, yt_a4, yt_s1, yt_s2, yt_s3, yt_s4, yr_105_0, yr_105_1, yr_105_2, yr_105_3, yi_105_4, yp_105_4, yi_105_5, yp_105_5, yi_105_6, yp_105_6, yi_105_7, yp_105_7, yis_105, ya_106, yst_107, yst_108, ya_108, yst_109, yBs, pG_t, pZ_0, pZ_1, pZ_B, if_pos, if_neg, y10, if_false, yW_row, yW_self, upd_eq, h0']
    rw [← hP, g3, r3, s4 r1 r2, yBs]
    simp (disch := first | assumption | omega) only [yN_add, yN_addl, yN_ladd, yN_mul, yN_mull, yN_lmul, yN_sub, yN_subl, yN_lsub, yN_lt, yN_ltl, yN_llt, yN_le, yN_lel, yN_lle, yN_eq, yN_eql, yN_leq, yN_eqm, yN_lem, yN_ltm, yN_mlt, yN_mle, yN_addm, yN_madd, yp_div, yp_rem, yp_divN, yp_remN, yt_is, yt_0, yt_1, yt_2, yt_3, yt_4, yt_p, yt_a1, yt_a2, yt_a3, yt_a4, yt_s1, yt_s2, yt_s3, yt_s4, yr_105_0, yr_105_1, yr_105_2, yr_105_3, yi_105_4, yp_105_4, yi_105_5, yp_105_5, yi_105_6, yp_105_6, yi_105_7, yp_105_7, yis_105, yst_109, yBs, pG_t, pZ_0, pZ_1, pZ_B, yW_row, ht.2.1, yIte_some, s5, wNo_109]
    rw [hW _ rfl]
    simp (disch := first | assumption | omega) only [yt_is, yt_0, yt_1, yt_2, yt_3, yt_4, yt_p, yt_a1, yt_a2, yt_a3, yt_a4, yt_s1, yt_s2, yt_s3, yt_s4, yBs, pG_t, pZ_0, pZ_1, pZ_B, hw, g1, g2, if_pos he, hy]
  · have h1' : m.1 106 (l % 2) = t1 := by rw [show l % 2 = 1 by omega, h1]
    rw [if_neg he, if_neg he] at hP
    simp (disch := first | assumption | omega) only [yN_add, yN_addl, yN_ladd, yN_mul, yN_mull, yN_lmul, yN_sub, yN_subl, yN_lsub, yN_lt, yN_ltl, yN_llt, yN_le, yN_lel, yN_lle, yN_eq, yN_eql, yN_leq, yN_eqm, yN_lem, yN_ltm, yN_mlt, yN_mle, yN_addm, yN_madd, yp_div, yp_rem, yp_divN, yp_remN, yt_is, yt_0, yt_1, yt_2, yt_3, yt_4, yt_p, yt_a1, yt_a2, yt_a3, yt_a4, yt_s1, yt_s2, yt_s3, yt_s4, yr_105_0, yr_105_1, yr_105_2, yr_105_3, yi_105_4, yp_105_4, yi_105_5, yp_105_5, yi_105_6, yp_105_6, yi_105_7, yp_105_7, yis_105, ya_106, yst_107, yst_108, ya_108, yst_109, yBs, pG_t, pZ_0, pZ_1, pZ_B, if_pos, if_neg, y10, if_false, yW_row, yW_self, upd_eq, h1', if_true]
    rw [← hP, g3, r3, s4 r1 r2, yBs]
    simp (disch := first | assumption | omega) only [yN_add, yN_addl, yN_ladd, yN_mul, yN_mull, yN_lmul, yN_sub, yN_subl, yN_lsub, yN_lt, yN_ltl, yN_llt, yN_le, yN_lel, yN_lle, yN_eq, yN_eql, yN_leq, yN_eqm, yN_lem, yN_ltm, yN_mlt, yN_mle, yN_addm, yN_madd, yp_div, yp_rem, yp_divN, yp_remN, yt_is, yt_0, yt_1, yt_2, yt_3, yt_4, yt_p, yt_a1, yt_a2, yt_a3, yt_a4, yt_s1, yt_s2, yt_s3, yt_s4, yr_105_0, yr_105_1, yr_105_2, yr_105_3, yi_105_4, yp_105_4, yi_105_5, yp_105_5, yi_105_6, yp_105_6, yi_105_7, yp_105_7, yis_105, yst_109, yBs, pG_t, pZ_0, pZ_1, pZ_B, yW_row, ht.2.1, yIte_some, s5, wNo_109]
    rw [hW _ rfl]
    simp (disch := first | assumption | omega) only [yt_is, yt_0, yt_1, yt_2, yt_3, yt_4, yt_p, yt_a1, yt_a2, yt_a3, yt_a4, yt_s1, yt_s2, yt_s3, yt_s4, yBs, pG_t, pZ_0, pZ_1, pZ_B, hw, g1, g2, if_neg he, hy]
    rw [yN_subl (show 1 ≤ l by omega)]
theorem wSt_self {l : Nat} (hl : l < n) (hr : m.1 105 4 = (wB th n t0 t1 (n - (l + 1))).1 ∧ m.1 105 5 = (wB th n t0 t1 (n - (l + 1))).2.1 ∧ m.1 105 6 = (wB th n t0 t1 (n - (l + 1))).2.2.1 ∧ m.1 105 7 = (wB th n t0 t1 (n - (l + 1))).2.2.2) :
    (wSt m th n t0 t1 l).1 105 4 = (wB th n t0 t1 (n - l)).1 ∧ (wSt m th n t0 t1 l).1 105 5 = (wB th n t0 t1 (n - l)).2.1 ∧ (wSt m th n t0 t1 l).1 105 6 = (wB th n t0 t1 (n - l)).2.2.1 ∧ (wSt m th n t0 t1 l).1 105 7 = (wB th n t0 t1 (n - l)).2.2.2 := by
  obtain ⟨r1, r2, r3, r4⟩ := hr
  rw [show n - (l + 1) = n - 1 - l by omega] at r1 r2 r3 r4
  rw [show n - l = (n - 1 - l) + 1 by omega]
  simp only [wB, show n - 1 - (n - 1 - l) = l by omega]
  unfold wSt wNo
  generalize wM th n t0 t1 (n - 1 - l) = M at *
  have hd : (0 < n - 1 - l) = ¬ (l = n - 1) := propext (by omega)
  simp only [yW_self, upd_eq, hd]
  by_cases h1 : M < 0
  · by_cases h2 : l = n - 1
    · simp [h1, h2, yW_get, r1, r2, r3, r4, y10]
    · simp [h1, h2, yW_get, r1, r2, r3, r4]
      split <;> simp [yW_get, r3, r4]
  · by_cases h2 : l = n - 1
    · simp [h1, h2, yW_get, r1, r2, r3, r4, y10]
    · simp [h1, h2, yW_get, r1, r2, r3, r4]
      split <;> simp [yW_get, r1, r2, r3, r4]
theorem wSt_rows {l : Nat} : (wSt m th n t0 t1 l).1 107 = upd (m.1 107) l (wS th n (n - 1 - l)).1 ∧ (wSt m th n t0 t1 l).1 108 = upd (m.1 108) l (wP th n t0 t1 (n - 1 - l)) ∧ (wSt m th n t0 t1 l).1 109 = upd (m.1 109) l (wM th n t0 t1 (n - 1 - l)) := by
  unfold wSt
  refine ⟨?_, ?_, ?_⟩
  · rw [wNo_109 _ _ _ _ (by omega), yW_row (by omega), yW_row (by omega), yW_self]
  · rw [wNo_109 _ _ _ _ (by omega), yW_row (by omega), yW_self, yW_row (by omega)]
  · rw [wNo_109 _ _ _ _ (by omega), yW_self, yW_row (by omega), yW_row (by omega)]
theorem wSt_wRs {l : Nat} (hl : l < n) (hr : wRs m th n t0 t1 (l + 1)) : wRs (wSt m th n t0 t1 l) th n t0 t1 l := by
  obtain ⟨r1, r2, r3, r4, r5⟩ := hr
  obtain ⟨q1, q2, q3, q4⟩ := wSt_self hl ⟨r1, r2, r3, r4⟩
  obtain ⟨p1, p2, p3⟩ := wSt_rows (m := m) (th := th) (n := n) (t0 := t0) (t1 := t1) (l := l)
  refine ⟨q1, q2, q3, q4, fun k hk hkn => ?_⟩
  rw [p1, p2, p3]
  by_cases h : k = l
  · subst h; rw [upd_eq, upd_eq, upd_eq]; exact ⟨rfl, rfl, rfl⟩
  · rw [upd_ne _ _ h, upd_ne _ _ h, upd_ne _ _ h]; exact r5 k (by omega) hkn
theorem s3_38 (ha : yTw a) (hd : a + 4 < 105 ∨ 109 < a) (hk : tOk th n) : ∀ (i fu : Nat) (m : yM), i ≤ n → i < fu → Tow m a th n → m.1 106 0 = t0 → m.1 106 1 = t1 → wRs m th n t0 t1 i →
    ∃ m', f_3_38 fu 105 a (wS th n (n - i)).1 (wS th n (n - i)).2.1 (wS th n (n - i)).2.2.1 (wS th n (n - i)).2.2.2 (yN i - 1) (yH κ m) = some (yH κ m') ∧ wRs m' th n t0 t1 0 ∧ yFr sW m m' := by
  intro i
  induction i with
  | zero =>
    intro fu m hi hf ht h0 h1 hr
    obtain ⟨fu, rfl⟩ : ∃ k, fu = k + 1 := ⟨fu - 1, by omega⟩
    refine ⟨m, ?_, hr, yFr.rf m⟩
    rw [f_3_38, if_pos (by decide)]
  | succ l ih =>
    intro fu m hi hf ht h0 h1 hr
    obtain ⟨fu, rfl⟩ : ∃ k, fu = k + 1 := ⟨fu - 1, by omega⟩
    have hfr : yFr sW m (wSt m th n t0 t1 l) := wSt_fr
    have ht' : Tow (wSt m th n t0 t1 l) a th n := ht.fr hfr (fun x j q1 q2 => by unfold sW; omega)
    obtain ⟨m', e, r, f⟩ := ih fu (wSt m th n t0 t1 l) (by omega) (by omega) ht' (by rw [hfr.2 _ _ (by unfold sW; omega), h0]) (by rw [hfr.2 _ _ (by unfold sW; omega), h1]) (wSt_wRs (by omega) hr)
    refine ⟨m', ?_, r, hfr.tr f (fun _ _ q => q.elim id id)⟩
    have := s3_step (κ := κ) (fu := fu) ha hd hk (show l < n by omega) ht h0 h1
    rw [show n - 1 - l = n - (l + 1) by omega, show n - (l + 1) + 1 = n - l by omega] at this
    rw [this, e]
/-- weigh() -/
theorem s3 (ha : yTw a) (hd : a + 4 < 105 ∨ 109 < a) (hk : tOk th n) (ht : Tow m a th n) (h0 : m.1 106 0 = t0) (h1 : m.1 106 1 = t1) :
    ∃ m', f_3 105 a (yH κ m) = some (yB (tSt th n t0 t1), yH κ m') ∧ wRs m' th n t0 t1 0 ∧ yFr sW m m' := by
  have hn := hk.1
  have hfr : yFr sW m (yW (yW (yW (yW m 105 4 (-1)) 105 5 0) 105 6 (-1)) 105 7 0) := by
    refine ⟨rfl, fun x j h => ?_⟩
    unfold sW at h
    rw [yW_row (by omega), yW_row (by omega), yW_row (by omega), yW_row (by omega)]
  obtain ⟨m', e, r, f⟩ := s3_38 (κ := κ) (t0 := t0) (t1 := t1) ha hd hk n 100000 _ (Nat.le_refl n) (by omega) (ht.fr hfr (fun x j q1 q2 => by unfold sW; omega)) (by rw [hfr.2 _ _ (by unfold sW; omega), h0]) (by rw [hfr.2 _ _ (by unfold sW; omega), h1]) (by
    refine ⟨?_, ?_, ?_, ?_, fun l q1 q2 => absurd q1 (by omega)⟩ <;> simp [yW_get, wB])
  refine ⟨m', ?_, r, hfr.tr f (fun _ _ q => q.elim id id)⟩
  unfold f_3
  have e4 : (yW (yW (yW (yW m 105 4 (-1)) 105 5 0) 105 6 (-1)) 105 7 0).1 a 4 = yN n := by rw [hfr.2 _ _ (by unfold sW; omega), ht.2.1]
  rw [Nat.sub_self] at e
  simp (disch := first | assumption | omega) only [yt_is, yt_0, yt_1, yt_2, yt_3, yt_4, yt_p, yt_a1, yt_a2, yt_a3, yt_a4, yt_s1, yt_s2, yt_s3, yt_s4, yr_105_0, yr_105_1, yr_105_2, yr_105_3, yi_105_4, yp_105_4, yi_105_5, yp_105_5, yi_105_6, yp_105_6, yi_105_7, yp_105_7, yis_105, yBs, pG_t, pZ_0, pZ_1, pZ_B, e4]
  simp only [wS] at e
  rw [e]
  simp (disch := first | assumption | omega) only [yr_105_0, yr_105_1, yr_105_2, yr_105_3, yi_105_4, yp_105_4, yi_105_5, yp_105_5, yi_105_6, yp_105_6, yi_105_7, yp_105_7, yis_105, yBs, pG_t, pZ_0, pZ_1, pZ_B, r.1, Nat.sub_zero, yB_ite]
  rfl
end WZB
