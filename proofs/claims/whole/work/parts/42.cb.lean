/-! ===== calls: plane, bump, stands, weakest, why, forget, count ===== -/
theorem yN_s0 {n : Nat} : (yN 0 : Int32) = 0 := rfl
section CB
variable {κ : yK} {m : yM} {A : zT} {H : zH} {K : zK} {C : zC} {D D' : List Int64} {E : zE} {F : zF}
theorem ys5_0 : pFr (yH κ m) 5 7 0 = some 6 := ys_0 ysw_5
/-- weigh() of the tower that is -/
theorem w3 (c : Cl m A H K C D E F) (o : Ok A H K C D E F) : ∃ m', f_3 105 6 (yH κ m) = some (yB (tSt (zth A) (zn A) E.1 E.2.1), yH κ m') ∧ wRs m' (zth A) (zn A) E.1 E.2.1 0 ∧ Cl m' A H K C D E F ∧ yG sC m m' := by
  obtain ⟨m', e, r, f⟩ := s3 (κ := κ) ytw_6 (by omega) o.1.1.1 c.1.1 c.2.2.2.2.2.1.1.1 c.2.2.2.2.2.1.1.2
  exact ⟨m', e, r, c.fr o.2.1.1 (f.g (fun _ _ q => q)) (fun _ _ => sW_Cs), f.g (fun _ _ => sW_C)⟩
theorem yAr_180 : yAr 180 := rfl
theorem yAr_181 : yAr 181 := rfl
theorem yAr_192 : yAr 192 := rfl
theorem yAr_200 : yAr 200 := rfl
theorem m187 (c : Rf m A H K C D E F) (o : Ok A H K C D E F) : ∃ m', f_187 178 180 (yH κ m) = some ((wB (zth A) (zn A) E.1 E.2.1 (zn A)).1, yH κ m') ∧ mRs m' (zth A) (zn A) E.1 E.2.1 0 ∧ Rf m' A H K C D E F ∧ yG sR m m' := by
  obtain ⟨m', e, r, f⟩ := s187 (κ := κ) yAr_180 (by omega) o.1.1.1 c.1.tor c.2.2.2.2.2.1.1.1 c.2.2.2.2.2.1.1.2
  exact ⟨m', e, r, c.fr (f.g (fun _ _ q => q)) (fun _ _ => sM_Rs), f.g (fun _ _ => sM_R)⟩
theorem m188 (c : Rf m A H K C D E F) (o : Ok A H K C D E F) : ∃ m', f_188 178 180 (yH κ m) = some (yB (tSt (zth A) (zn A) E.1 E.2.1), yH κ m') ∧ mRs m' (zth A) (zn A) E.1 E.2.1 0 ∧ Rf m' A H K C D E F ∧ yG sR m m' := by
  obtain ⟨m', e, r, f⟩ := s188 (κ := κ) yAr_180 (by omega) o.1.1.1 c.1.tor c.2.2.2.2.2.1.1.1 c.2.2.2.2.2.1.1.2
  exact ⟨m', e, r, c.fr (f.g (fun _ _ q => q)) (fun _ _ => sM_Rs), f.g (fun _ _ => sM_R)⟩
theorem wB_z (th : Nat → Int32) (n : Nat) (t0 t1 : Int32) : ∀ d, d ≤ n → n ≤ 16 → (wB th n t0 t1 d).2.2.1 = -1 → (wB th n t0 t1 d).2.2.2 = 0 := by
  intro d
  induction d with
  | zero => intro _ _ _; rfl
  | succ d ih =>
    intro hd hn
    simp only [wB]
    by_cases h : 0 < d ∧ ((wB th n t0 t1 d).2.2.1 = -1 ∨ wM th n t0 t1 d ≤ (wB th n t0 t1 d).2.2.2)
    · rw [if_pos h, if_pos h]
      intro q; rw [yN_eqm (by omega)] at q; exact q.elim
    · rw [if_neg h, if_neg h]; exact ih (by omega) hn
theorem wB_w (th : Nat → Int32) (n : Nat) (t0 t1 : Int32) (hn : n ≤ 16) : ∀ d, d ≤ n → ((wB th n t0 t1 d).2.2.1 = -1 ↔ d < 2) := by
  intro d
  induction d with
  | zero => intro _; exact ⟨fun _ => by omega, fun _ => rfl⟩
  | succ d ih =>
    intro hd
    simp only [wB]
    by_cases h : 0 < d ∧ ((wB th n t0 t1 d).2.2.1 = -1 ∨ wM th n t0 t1 d ≤ (wB th n t0 t1 d).2.2.2)
    · rw [if_pos h, yN_eqm (by omega)]
      exact ⟨False.elim, fun q => by omega⟩
    · rw [if_neg h, ih (by omega)]
      constructor
      · intro q
        rcases Nat.eq_zero_or_pos d with p | p
        · omega
        · exact absurd ⟨p, Or.inl ((ih (by omega)).2 q)⟩ h
      · intro q; omega
/-- the least margin, as the reference has it -/
theorem mLst {n : Nat} {th : Nat → Int32} {t0 t1 : Int32} (hn : n ≤ 16) (r : mRs m th n t0 t1 0) : (∃ k, k < n ∧ m.1 178 23 = yN k ∧ (wB th n t0 t1 n).2.2.1 = yN k ∧ m.1 190 k = (wB th n t0 t1 n).2.2.2 ∧ 2 ≤ n) ∨ (m.1 178 23 = -1 ∧ (wB th n t0 t1 n).2.2.2 = 0 ∧ n < 2) := by
  obtain ⟨r1, r2⟩ := r
  rw [Nat.sub_zero] at r1
  rcases wB_inv th n t0 t1 n (Nat.le_refl n) with q | ⟨k, q1, q2, q3, q4⟩
  · right; exact ⟨r1.trans q, wB_z th n t0 t1 n (Nat.le_refl n) hn q, (wB_w th n t0 t1 hn n (Nat.le_refl n)).1 q⟩
  · left
    refine ⟨k, q2, r1.trans q3, q3, ((r2 k (Nat.zero_le _) q2).2.2).trans q4, ?_⟩
    rcases Nat.lt_or_ge n 2 with p | p
    · have := (wB_w th n t0 t1 hn n (Nat.le_refl n)).2 p
      rw [q3, yN_eqm (by omega)] at this
      exact this.elim
    · exact p
theorem yI0m : ((0 : Int32) ≤ -1) = False := by decide
theorem yI0n {k : Nat} (h : k < 2147483648) : ((0 : Int32) ≤ yN k) = True := by
  rw [show (0 : Int32) = yN 0 from rfl, yN_le (by omega) h]; exact eq_true (Nat.zero_le _)
end CB
theorem z_stands : zCall (f_121 0) (f_197 178) := by
  intro κ A H K C D E F o
  have hn := o.1.1.1.1
  refine ⟨yB (tSt (zth A) (zn A) E.1 E.2.1), A, H, K, C, [(wB (zth A) (zn A) E.1 E.2.1 (zn A)).1.toInt64, (wB (zth A) (zn A) E.1 E.2.1 (zn A)).2.2.2.toInt64], E, F, ⟨o.1, o.2.1, o.2.2.1, o.2.2.2.1, by simp, o.2.2.2.2.2⟩, fun m c => ?_, fun m c => ?_⟩
  · obtain ⟨m1, e1, r, c1, g1⟩ := w3 (κ := κ) c o
    obtain ⟨r1, r2, r3, r4, -⟩ := r
    rw [Nat.sub_zero] at r1 r4
    refine ⟨rAs m1 [(wB (zth A) (zn A) E.1 E.2.1 (zn A)).1.toInt64, (wB (zth A) (zn A) E.1 E.2.1 (zn A)).2.2.2.toInt64], ?_, c1.row o.2.1.1 _, g1.tr (rAs_g m1 _) (fun x j q => q.elim id sA3_C)⟩
    unfold f_121
    have k1 : ∀ l : List Int64, (rAs m1 l).1 105 = m1.1 105 := fun l => rAs_row (by omega)
    simp (disch := first | assumption | omega | exact Nat.le_of_ble_eq_true rfl) only [yr_0_6, yr_0_2, yr_0_1, ys5_0, yis_105, yis_3, yBs, pG_t, pZ_0, pZ_1, pZ_B, e1, s50, s51a, s51b, s51c, yi_105_4, yi_105_7, k1, r1, r4, yB_ite]
    unfold tSt; rfl
  · obtain ⟨c0, g0⟩ := c.th 0
    obtain ⟨m1, e1, r, c1, g1⟩ := m187 (κ := κ) c0 o
    refine ⟨rBs m1 [(wB (zth A) (zn A) E.1 E.2.1 (zn A)).1.toInt64, (wB (zth A) (zn A) E.1 E.2.1 (zn A)).2.2.2.toInt64], ?_, c1.row _, (g0.tr g1 (fun _ _ => orSelf)).tr (rBs_g m1 _) (fun x j q => q.elim id sB3_R)⟩
    unfold f_197
    have k1 : ∀ l : List Int64, (rBs m1 l).1 178 23 = m1.1 178 23 := fun l => rBs_fl (by omega)
    have k2 : ∀ l : List Int64, (rBs m1 l).1 190 = m1.1 190 := fun l => rBs_row (by omega)
    rcases mLst hn r with ⟨k, q1, q2, q3, q4, -⟩ | ⟨q2, q4, -⟩
    · simp (disch := first | assumption | omega | exact Nat.le_of_ble_eq_true rfl) only [yp_178_0, yr_178_3, yis_178, yBs, pG_t, pZ_0, pZ_1, pZ_B, e1, yp_178_1, s165_0, yi_178_23, k1, q2, yI0n, if_true, yr_178_22, ya_190, k2, q4, s165a, s165b, s165c, tSt_le hn, yB_ite']
      cases tSt (zth A) (zn A) E.1 E.2.1 <;> rfl
    · simp (disch := first | assumption | omega | exact Nat.le_of_ble_eq_true rfl) only [yp_178_0, yr_178_3, yis_178, yBs, pG_t, pZ_0, pZ_1, pZ_B, e1, yp_178_1, s165_0, yi_178_23, k1, q2, yI0m, if_false, s165a, s165b, s165c, tSt_le hn, yB_ite', q4]
      cases tSt (zth A) (zn A) E.1 E.2.1 <;> rfl
theorem z_weakest : zCall (f_123 0) (f_199 178) := by
  intro κ A H K C D E F o
  have hn := o.1.1.1.1
  by_cases h2 : 2 ≤ zn A
  · refine ⟨(wB (zth A) (zn A) E.1 E.2.1 (zn A)).2.2.1, A, H, K, C, [(wB (zth A) (zn A) E.1 E.2.1 (zn A)).2.2.2.toInt64], E, F, ⟨o.1, o.2.1, o.2.2.1, o.2.2.2.1, by simp, o.2.2.2.2.2⟩, fun m c => ?_, fun m c => ?_⟩
    · obtain ⟨m1, e1, r, c1, g1⟩ := w3 (κ := κ) c o
      obtain ⟨r1, r2, r3, r4, -⟩ := r
      rw [Nat.sub_zero] at r3 r4
      refine ⟨rAs m1 [(wB (zth A) (zn A) E.1 E.2.1 (zn A)).2.2.2.toInt64], ?_, c1.row o.2.1.1 _, g1.tr (rAs_g m1 _) (fun x j q => q.elim id sA3_C)⟩
      unfold f_123
      have k1 : ∀ l : List Int64, (rAs m1 l).1 105 = m1.1 105 := fun l => rAs_row (by omega)
      simp (disch := first | assumption | omega | exact Nat.le_of_ble_eq_true rfl) only [yr_0_6, yr_0_2, yr_0_1, ys5_0, yis_105, yis_3, yBs, pG_t, pZ_0, pZ_1, pZ_B, e1, s50, s51a, s51b, s51c, yi_105_6, yi_105_7, k1, r3, r4, yt_4 ytw_6, c.1.1.2.1, yN_add, yN_addl, yN_ladd, yN_mul, yN_mull, yN_lmul, yN_sub, yN_subl, yN_lsub, yN_lt, yN_ltl, yN_llt, yN_le, yN_lel, yN_lle, yN_eq, yN_eql, yN_leq, yN_eqm, yN_lem, yN_ltm, yN_mlt, yN_mle, yN_addm, yN_madd, yp_div, yp_rem, yp_divN, yp_remN, if_pos, if_neg]
      try rfl
    · obtain ⟨c0, g0⟩ := c.th 0
      obtain ⟨m1, e1, r, c1, g1⟩ := m187 (κ := κ) c0 o
      refine ⟨rBs m1 [(wB (zth A) (zn A) E.1 E.2.1 (zn A)).2.2.2.toInt64], ?_, c1.row _, (g0.tr g1 (fun _ _ => orSelf)).tr (rBs_g m1 _) (fun x j q => q.elim id sB3_R)⟩
      unfold f_199
      have k1 : ∀ l : List Int64, (rBs m1 l).1 178 23 = m1.1 178 23 := fun l => rBs_fl (by omega)
      have k2 : (yW m1 178 1 0).1 190 = m1.1 190 := yW_row (by omega)
      have k3 : (yW m1 178 1 0).1 178 23 = m1.1 178 23 := by rw [yW_get, if_neg (by omega)]
      rcases mLst hn r with ⟨k, q1, q2, q3, q4, -⟩ | ⟨q2, q4, q5⟩
      · simp (disch := first | assumption | omega | exact Nat.le_of_ble_eq_true rfl) only [yp_178_0, yr_178_3, yis_178, yBs, pG_t, pZ_0, pZ_1, pZ_B, e1, yp_178_1, s165_0, yi_178_23, k1, k3, q2, yI0n, if_true, yr_178_22, ya_190, k2, q4, q3]
      · omega
  · refine ⟨-2, A, H, K, C, D, E, F, o, zCx.same fun m c => ?_, fun m c => ?_⟩
    · unfold f_123
      simp (disch := first | assumption | omega) only [yr_0_2, ys5_0, yBs, yt_4 ytw_6, c.1.1.2.1, yN_add, yN_addl, yN_ladd, yN_mul, yN_mull, yN_lmul, yN_sub, yN_subl, yN_lsub, yN_lt, yN_ltl, yN_llt, yN_le, yN_lel, yN_lle, yN_eq, yN_eql, yN_leq, yN_eqm, yN_lem, yN_ltm, yN_mlt, yN_mle, yN_addm, yN_madd, yp_div, yp_rem, yp_divN, yp_remN, if_pos, if_neg]
    · obtain ⟨c0, g0⟩ := c.th 0
      obtain ⟨m1, e1, r, c1, g1⟩ := m187 (κ := κ) c0 o
      refine ⟨m1, ?_, c1, g0.tr g1 (fun _ _ => orSelf)⟩
      unfold f_199
      rcases mLst hn r with ⟨k, q1, q2, q3, q4, q5⟩ | ⟨q2, q4, q5⟩
      · omega
      · simp (disch := first | assumption | omega | exact Nat.le_of_ble_eq_true rfl) only [yp_178_0, yr_178_3, yis_178, yBs, pG_t, pZ_0, pZ_1, pZ_B, e1, yi_178_23, q2, yI0m, if_false]
theorem z_why : zCall (f_136 0) (f_223 178) := by
  intro κ A H K C D E F o
  have hh := o.1.1.2.2.2
  by_cases h0 : zho A = 0
  · refine ⟨0, A, H, K, C, [], E, F, ⟨o.1, o.2.1, o.2.2.1, o.2.2.2.1, by simp, o.2.2.2.2.2⟩, fun m c => ?_, fun m c => ?_⟩
    · refine ⟨rAs m [], ?_, c.row o.2.1.1 _, (rAs_g m _).wk (fun _ _ => sA3_C)⟩
      have k : (rAs m []).1 5 3 = 0 := by rw [rAs_row (by omega), c.1.2.2.2.1, h0]; rfl
      unfold f_136 f_68
      simp (disch := first | assumption | omega) only [yr_0_1, yis_3, yr_0_2, yBs, pG_t, pZ_0, pZ_1, pZ_B, s50, ys_is (a := 5) ysw_5, ys_i3 (a := 5) ysw_5, k, if_true]
    · obtain ⟨c0, g0⟩ := c.th 0
      refine ⟨rBs (yW m 178 0 0) [], ?_, c0.row _, g0.tr (rBs_g _ _) (fun x j q => q.elim id sB3_R)⟩
      have k : (rBs (yW m 178 0 0) []).1 180 50 = 0 := by rw [rBs_row (by omega)]; have := c0.1.2.2.2.1; rw [h0] at this; exact this
      unfold f_223
      simp (disch := first | assumption | omega) only [yp_178_0, yp_178_1, rBs_0, yr_178_3, yr_al yAr_180, yBs, pG_t, pZ_0, pZ_1, pZ_B, k]
      rw [if_pos (by decide)]
      simp (disch := first | assumption | omega) only [yr_178_3, yr_al yAr_180, yBs, pG_t, pZ_0, pZ_1, pZ_B, k]
  · refine ⟨yN (zho A), A, H, K, C, [(zwl A).toInt64, (zwb A).toInt64], E, F, ⟨o.1, o.2.1, o.2.2.1, o.2.2.2.1, by simp, o.2.2.2.2.2⟩, fun m c => ?_, fun m c => ?_⟩
    · refine ⟨rAs m [(zwl A).toInt64, (zwb A).toInt64], ?_, c.row o.2.1.1 _, (rAs_g m _).wk (fun _ _ => sA3_C)⟩
      have k : ∀ l, (rAs m l).1 5 = m.1 5 := fun l => rAs_row (by omega)
      have hne : (yN (zho A) = 0) = False := by rw [yN_eql (by omega) (by omega)]; exact eq_false h0
      obtain ⟨q1, q2⟩ := c.1.2.2.2.2 h0
      unfold f_136 f_68
      simp (disch := first | assumption | omega | exact Nat.le_of_ble_eq_true rfl) only [yr_0_1, yis_3, yr_0_2, yBs, pG_t, pZ_0, pZ_1, pZ_B, s50, s51a, s51b, s51c, ys_is (a := 5) ysw_5, ys_i3 (a := 5) ysw_5, ys_i4 (a := 5) ysw_5, ys_i5 (a := 5) ysw_5, k, c.1.2.2.2.1, hne, if_false, y10, q1, q2]
      try rfl
    · obtain ⟨c0, g0⟩ := c.th 0
      refine ⟨rBs (yW m 178 0 0) [(zwl A).toInt64, (zwb A).toInt64], ?_, c0.row _, g0.tr (rBs_g _ _) (fun x j q => q.elim id sB3_R)⟩
      have k : ∀ l, (rBs (yW m 178 0 0) l).1 180 = (yW m 178 0 0).1 180 := fun l => rBs_row (by omega)
      have k5 : (yW m 178 0 0).1 180 50 = yN (zho A) := c0.1.2.2.2.1
      obtain ⟨q1, q2⟩ := c0.1.2.2.2.2.2 h0
      have k6 : (yW m 178 0 0).1 180 52 = zwl A := q1
      have k7 : (yW m 178 0 0).1 180 53 = zwb A := q2
      have hne : (yN (zho A) ≤ 0) = False := by rw [yN_lel (by omega) (by omega)]; exact eq_false (by omega)
      unfold f_223
      simp (disch := first | assumption | omega | exact Nat.le_of_ble_eq_true rfl) only [yp_178_0, yp_178_1, rBs_0, yr_178_3, yr_al yAr_180, yBs, pG_t, pZ_0, pZ_1, pZ_B, k, k5, hne, if_false, s165a, s165b, s165c, yis_178, k6, k7]
      try rfl
