/-! ===== calls: count, felt, known, row ===== -/
section CO
variable {κ : yK} {m : yM} {n : Nat} {th : Nat → Int32}
theorem s262_4 (ht : Tor m 180 th n) (hr : tRg th) (hn : n ≤ 16) : ∀ (d l fu s : Nat), l + d = n → d < fu → s + 3 * d < 1000 → f_262_4 fu 178 (yN s) (yN l) (yH κ m) = some (yN (s + ySum (tBl th) l d), yH κ m) := by
  intro d
  induction d with
  | zero =>
    intro l fu s hl hf hs
    obtain ⟨fu, rfl⟩ : ∃ k, fu = k + 1 := ⟨fu - 1, by omega⟩
    unfold f_262_4
    simp (disch := first | assumption | omega) only [yN_add, yN_addl, yN_ladd, yN_mul, yN_mull, yN_lmul, yN_sub, yN_subl, yN_lsub, yN_lt, yN_ltl, yN_llt, yN_le, yN_lel, yN_lle, yN_eq, yN_eql, yN_leq, yN_eqm, yN_lem, yN_ltm, yN_mlt, yN_mle, yN_addm, yN_madd, yp_div, yp_rem, yp_divN, yp_remN, yr_178_3, yr_al yAr_180, yBs, pG_t, pZ_0, pZ_1, pZ_B, ht.2]
    rw [if_pos (by omega)]; rfl
  | succ d ih =>
    intro l fu s hl hf hs
    obtain ⟨fu, rfl⟩ : ∃ k, fu = k + 1 := ⟨fu - 1, by omega⟩
    have hb := tBl_le th l
    unfold f_262_4
    simp (disch := first | assumption | omega) only [yN_add, yN_addl, yN_ladd, yN_mul, yN_mull, yN_lmul, yN_sub, yN_subl, yN_lsub, yN_lt, yN_ltl, yN_llt, yN_le, yN_lel, yN_lle, yN_eq, yN_eql, yN_leq, yN_eqm, yN_lem, yN_ltm, yN_mlt, yN_mle, yN_addm, yN_madd, yp_div, yp_rem, yp_divN, yp_remN, yr_178_3, yr_al yAr_180, yBs, pG_t, pZ_0, pZ_1, pZ_B, ht.2, s170 yAr_180 ht hr]
    rw [if_neg (by omega), ih (l + 1) fu _ (by omega) (by omega) (by omega)]
    simp only [ySum, Nat.add_assoc]
theorem s262 (ht : Tor m 180 th n) (hr : tRg th) (hn : n ≤ 16) : f_262 178 (yH κ m) = some (yN (ySum (tBl th) 0 n), yH κ m) := by
  unfold f_262
  rw [show f_262_4 100000 178 0 0 = f_262_4 100000 178 (yN 0) (yN 0) from rfl, s262_4 ht hr hn n 0 _ 0 (by omega) (by omega) (by omega), Nat.zero_add, yBs]
theorem s189_81 (ht : Tor m 180 th n) (hr : tRg th) (hn : n ≤ 16) : ∀ (d l fu s : Nat), l + d = n → d < fu → s + 3 * d < 1000 → f_189_81 fu 178 (yN s) (yN l) (yH κ m) = some (yN (s + ySum (tBl th) l d), yH κ m) := by
  intro d
  induction d with
  | zero =>
    intro l fu s hl hf hs
    obtain ⟨fu, rfl⟩ : ∃ k, fu = k + 1 := ⟨fu - 1, by omega⟩
    unfold f_189_81
    simp (disch := first | assumption | omega) only [yN_add, yN_addl, yN_ladd, yN_mul, yN_mull, yN_lmul, yN_sub, yN_subl, yN_lsub, yN_lt, yN_ltl, yN_llt, yN_le, yN_lel, yN_lle, yN_eq, yN_eql, yN_leq, yN_eqm, yN_lem, yN_ltm, yN_mlt, yN_mle, yN_addm, yN_madd, yp_div, yp_rem, yp_divN, yp_remN, yr_178_3, yr_al yAr_180, yBs, pG_t, pZ_0, pZ_1, pZ_B, ht.2]
    rw [if_pos (by omega)]; rfl
  | succ d ih =>
    intro l fu s hl hf hs
    obtain ⟨fu, rfl⟩ : ∃ k, fu = k + 1 := ⟨fu - 1, by omega⟩
    have hb := tBl_le th l
    unfold f_189_81
    simp (disch := first | assumption | omega) only [yN_add, yN_addl, yN_ladd, yN_mul, yN_mull, yN_lmul, yN_sub, yN_subl, yN_lsub, yN_lt, yN_ltl, yN_llt, yN_le, yN_lel, yN_lle, yN_eq, yN_eql, yN_leq, yN_eqm, yN_lem, yN_ltm, yN_mlt, yN_mle, yN_addm, yN_madd, yp_div, yp_rem, yp_divN, yp_remN, yr_178_3, yr_al yAr_180, yBs, pG_t, pZ_0, pZ_1, pZ_B, ht.2, s170 yAr_180 ht hr]
    rw [if_neg (by omega), ih (l + 1) fu _ (by omega) (by omega) (by omega)]
    simp only [ySum, Nat.add_assoc]
end CO
theorem z_count (p : Int32) : zCall (f_158 0 p) (f_263 178 p) := by
  intro κ A H K C D E F o
  have hn := o.1.1.1.1
  have h4 := o.1.1.2.2.2
  by_cases h_0 : p = 0
  · subst h_0
    refine ⟨yN (zn A), A, H, K, C, D, E, F, o, zCx.same fun m c => ?_, zCm.same fun m c => ?_⟩
    · unfold f_158
      rw [yr_0_2, yBs, ys5_0, yBs]
      rw [if_pos rfl]
      simp (disch := first | assumption | omega) only [yt_4 ytw_6, c.1.1.2.1, yBs, pG_t, pZ_0, pZ_1, pZ_B]
    · obtain ⟨c0, g0⟩ := c.th 0
      have T := c0.1.tor
      have r49 : (yW m 178 0 0).1 180 49 = yN (zmv A) := c0.1.2.2.1
      have r50 : (yW m 178 0 0).1 180 50 = yN (zho A) := c0.1.2.2.2.1
      have r51 : (yW m 178 0 0).1 180 51 = zwo A := c0.1.2.2.2.2.1
      unfold f_263
      rw [yp_178_0, yBs]
      rw [if_pos rfl]
      simp (disch := first | assumption | omega) only [yr_178_3, yr_al yAr_180, T.2, yBs, pG_t, pZ_0, pZ_1, pZ_B]
  by_cases h_1 : p = 1
  · subst h_1
    refine ⟨yN (ySum (tBl (zth A)) 0 (zn A)), A, H, K, C, D, E, F, o, zCx.same fun m c => ?_, zCm.same fun m c => ?_⟩
    · unfold f_158
      rw [yr_0_2, yBs, ys5_0, yBs]
      rw [if_neg (by decide), if_pos rfl]
      simp (disch := first | assumption | omega) only [yt_is ytw_6, s98m ytw_6 c.1.1 hn, yBs, pG_t, pZ_0, pZ_1, pZ_B]
    · obtain ⟨c0, g0⟩ := c.th 0
      have T := c0.1.tor
      have r49 : (yW m 178 0 0).1 180 49 = yN (zmv A) := c0.1.2.2.1
      have r50 : (yW m 178 0 0).1 180 50 = yN (zho A) := c0.1.2.2.2.1
      have r51 : (yW m 178 0 0).1 180 51 = zwo A := c0.1.2.2.2.2.1
      unfold f_263
      rw [yp_178_0, yBs]
      rw [if_neg (by decide), if_pos rfl]
      simp (disch := first | assumption | omega) only [yis_178, s262 T o.1.1.1.2.1 hn, yBs, pG_t, pZ_0, pZ_1, pZ_B]
  by_cases h_2 : p = 2
  · subst h_2
    refine ⟨(3 * yN (zn A)) - yN (ySum (tBl (zth A)) 0 (zn A)), A, H, K, C, D, E, F, o, zCx.same fun m c => ?_, zCm.same fun m c => ?_⟩
    · unfold f_158
      rw [yr_0_2, yBs, ys5_0, yBs]
      rw [if_neg (by decide), if_neg (by decide), if_pos rfl]
      simp (disch := first | assumption | omega) only [yt_4 ytw_6, c.1.1.2.1, yt_is ytw_6, s98m ytw_6 c.1.1 hn, yBs, pG_t, pZ_0, pZ_1, pZ_B]
    · obtain ⟨c0, g0⟩ := c.th 0
      have T := c0.1.tor
      have r49 : (yW m 178 0 0).1 180 49 = yN (zmv A) := c0.1.2.2.1
      have r50 : (yW m 178 0 0).1 180 50 = yN (zho A) := c0.1.2.2.2.1
      have r51 : (yW m 178 0 0).1 180 51 = zwo A := c0.1.2.2.2.2.1
      unfold f_263
      rw [yp_178_0, yBs]
      rw [if_neg (by decide), if_neg (by decide), if_pos rfl]
      simp (disch := first | assumption | omega) only [yr_178_3, yr_al yAr_180, T.2, yis_178, s262 T o.1.1.1.2.1 hn, yBs, pG_t, pZ_0, pZ_1, pZ_B]
  by_cases h_3 : p = 3
  · subst h_3
    refine ⟨yN E.2.2.1, A, H, K, C, D, E, F, o, zCx.same fun m c => ?_, zCm.same fun m c => ?_⟩
    · unfold f_158
      rw [yr_0_2, yBs, ys5_0, yBs]
      rw [if_neg (by decide), if_neg (by decide), if_neg (by decide), if_pos rfl]
      simp (disch := first | assumption | omega) only [yi_0_16, c.2.2.2.2.2.1.2.1.1, yBs, pG_t, pZ_0, pZ_1, pZ_B]
    · obtain ⟨c0, g0⟩ := c.th 0
      have T := c0.1.tor
      have r49 : (yW m 178 0 0).1 180 49 = yN (zmv A) := c0.1.2.2.1
      have r50 : (yW m 178 0 0).1 180 50 = yN (zho A) := c0.1.2.2.2.1
      have r51 : (yW m 178 0 0).1 180 51 = zwo A := c0.1.2.2.2.2.1
      unfold f_263
      rw [yp_178_0, yBs]
      rw [if_neg (by decide), if_neg (by decide), if_neg (by decide), if_pos rfl]
      simp (disch := first | assumption | omega) only [yi_178_6, c0.2.2.2.2.2.1.2.1.1, yBs, pG_t, pZ_0, pZ_1, pZ_B]
  by_cases h_4 : p = 4
  · subst h_4
    refine ⟨yN (zmv A), A, H, K, C, D, E, F, o, zCx.same fun m c => ?_, zCm.same fun m c => ?_⟩
    · unfold f_158
      rw [yr_0_2, yBs, ys5_0, yBs]
      rw [if_neg (by decide), if_neg (by decide), if_neg (by decide), if_neg (by decide), if_pos rfl]
      simp (disch := first | assumption | omega) only [yr_0_2, ys_i1 ysw_5, c.1.2.1, yBs, pG_t, pZ_0, pZ_1, pZ_B]
    · obtain ⟨c0, g0⟩ := c.th 0
      have T := c0.1.tor
      have r49 : (yW m 178 0 0).1 180 49 = yN (zmv A) := c0.1.2.2.1
      have r50 : (yW m 178 0 0).1 180 50 = yN (zho A) := c0.1.2.2.2.1
      have r51 : (yW m 178 0 0).1 180 51 = zwo A := c0.1.2.2.2.2.1
      unfold f_263
      rw [yp_178_0, yBs]
      rw [if_neg (by decide), if_neg (by decide), if_neg (by decide), if_neg (by decide), if_pos rfl]
      simp (disch := first | assumption | omega) only [yr_178_3, yr_al yAr_180, r49, yBs, pG_t, pZ_0, pZ_1, pZ_B]
  by_cases h_5 : p = 5
  · subst h_5
    refine ⟨yB (decide (zho A ≠ 0)), A, H, K, C, D, E, F, o, zCx.same fun m c => ?_, zCm.same fun m c => ?_⟩
    · unfold f_158
      rw [yr_0_2, yBs, ys5_0, yBs]
      rw [if_neg (by decide), if_neg (by decide), if_neg (by decide), if_neg (by decide), if_neg (by decide), if_pos rfl]
      unfold f_68
      simp (disch := first | assumption | omega) only [yr_0_2, ys_is ysw_5, ys_i3 ysw_5, c.1.2.2.2.1, yBs, pG_t, pZ_0, pZ_1, pZ_B, yN_add, yN_addl, yN_ladd, yN_mul, yN_mull, yN_lmul, yN_sub, yN_subl, yN_lsub, yN_lt, yN_ltl, yN_llt, yN_le, yN_lel, yN_lle, yN_eq, yN_eql, yN_leq, yN_eqm, yN_lem, yN_ltm, yN_mlt, yN_mle, yN_addm, yN_madd, yp_div, yp_rem, yp_divN, yp_remN]
      by_cases hq : zho A = 0
      · rw [if_pos hq]; simp [hq, yB, pZ_0]
      · rw [if_neg hq]; simp [hq, yB, pZ_1]
    · obtain ⟨c0, g0⟩ := c.th 0
      have T := c0.1.tor
      have r49 : (yW m 178 0 0).1 180 49 = yN (zmv A) := c0.1.2.2.1
      have r50 : (yW m 178 0 0).1 180 50 = yN (zho A) := c0.1.2.2.2.1
      have r51 : (yW m 178 0 0).1 180 51 = zwo A := c0.1.2.2.2.2.1
      unfold f_263
      rw [yp_178_0, yBs]
      rw [if_neg (by decide), if_neg (by decide), if_neg (by decide), if_neg (by decide), if_neg (by decide), if_pos rfl]
      simp (disch := first | assumption | omega) only [yr_178_3, yr_al yAr_180, yBs, pG_t, pZ_0, pZ_1, pZ_B, r50, yN_add, yN_addl, yN_ladd, yN_mul, yN_mull, yN_lmul, yN_sub, yN_subl, yN_lsub, yN_lt, yN_ltl, yN_llt, yN_le, yN_lel, yN_lle, yN_eq, yN_eql, yN_leq, yN_eqm, yN_lem, yN_ltm, yN_mlt, yN_mle, yN_addm, yN_madd, yp_div, yp_rem, yp_divN, yp_remN]
      by_cases hq : zho A = 0
      · rw [if_pos (by omega)]; simp [hq, yB, s163_0]
      · rw [if_neg (by omega)]; simp [hq, yB, s163_1]
  by_cases h_6 : p = 6
  · subst h_6
    refine ⟨zwo A, A, H, K, C, D, E, F, o, zCx.same fun m c => ?_, zCm.same fun m c => ?_⟩
    · unfold f_158
      rw [yr_0_2, yBs, ys5_0, yBs]
      rw [if_neg (by decide), if_neg (by decide), if_neg (by decide), if_neg (by decide), if_neg (by decide), if_neg (by decide), if_pos rfl]
      simp (disch := first | assumption | omega) only [yr_0_2, ys_i2 ysw_5, c.1.2.2.1, yBs, pG_t, pZ_0, pZ_1, pZ_B]
    · obtain ⟨c0, g0⟩ := c.th 0
      have T := c0.1.tor
      have r49 : (yW m 178 0 0).1 180 49 = yN (zmv A) := c0.1.2.2.1
      have r50 : (yW m 178 0 0).1 180 50 = yN (zho A) := c0.1.2.2.2.1
      have r51 : (yW m 178 0 0).1 180 51 = zwo A := c0.1.2.2.2.2.1
      unfold f_263
      rw [yp_178_0, yBs]
      rw [if_neg (by decide), if_neg (by decide), if_neg (by decide), if_neg (by decide), if_neg (by decide), if_neg (by decide), if_pos rfl]
      simp (disch := first | assumption | omega) only [yr_178_3, yr_al yAr_180, r51, yBs, pG_t, pZ_0, pZ_1, pZ_B]
  by_cases h_7 : p = 7
  · subst h_7
    refine ⟨E.1, A, H, K, C, D, E, F, o, zCx.same fun m c => ?_, zCm.same fun m c => ?_⟩
    · unfold f_158
      rw [yr_0_2, yBs, ys5_0, yBs]
      rw [if_neg (by decide), if_neg (by decide), if_neg (by decide), if_neg (by decide), if_neg (by decide), if_neg (by decide), if_neg (by decide), if_pos rfl]
      simp (disch := first | assumption | omega) only [yr_0_6, yr_105_0, ya106_0, c.2.2.2.2.2.1.1.1, yBs, pG_t, pZ_0, pZ_1, pZ_B]
    · obtain ⟨c0, g0⟩ := c.th 0
      have T := c0.1.tor
      have r49 : (yW m 178 0 0).1 180 49 = yN (zmv A) := c0.1.2.2.1
      have r50 : (yW m 178 0 0).1 180 50 = yN (zho A) := c0.1.2.2.2.1
      have r51 : (yW m 178 0 0).1 180 51 = zwo A := c0.1.2.2.2.2.1
      unfold f_263
      rw [yp_178_0, yBs]
      rw [if_neg (by decide), if_neg (by decide), if_neg (by decide), if_neg (by decide), if_neg (by decide), if_neg (by decide), if_neg (by decide), if_pos rfl]
      simp (disch := first | assumption | omega) only [yi_178_7, c0.2.2.2.2.2.1.1.1, yBs, pG_t, pZ_0, pZ_1, pZ_B]
  by_cases h_8 : p = 8
  · subst h_8
    refine ⟨E.2.1, A, H, K, C, D, E, F, o, zCx.same fun m c => ?_, zCm.same fun m c => ?_⟩
    · unfold f_158
      rw [yr_0_2, yBs, ys5_0, yBs]
      rw [if_neg (by decide), if_neg (by decide), if_neg (by decide), if_neg (by decide), if_neg (by decide), if_neg (by decide), if_neg (by decide), if_neg (by decide), if_pos rfl]
      simp (disch := first | assumption | omega) only [yr_0_6, yr_105_0, ya106_1, c.2.2.2.2.2.1.1.2, yBs, pG_t, pZ_0, pZ_1, pZ_B]
    · obtain ⟨c0, g0⟩ := c.th 0
      have T := c0.1.tor
      have r49 : (yW m 178 0 0).1 180 49 = yN (zmv A) := c0.1.2.2.1
      have r50 : (yW m 178 0 0).1 180 50 = yN (zho A) := c0.1.2.2.2.1
      have r51 : (yW m 178 0 0).1 180 51 = zwo A := c0.1.2.2.2.2.1
      unfold f_263
      rw [yp_178_0, yBs]
      rw [if_neg (by decide), if_neg (by decide), if_neg (by decide), if_neg (by decide), if_neg (by decide), if_neg (by decide), if_neg (by decide), if_neg (by decide), if_pos rfl]
      simp (disch := first | assumption | omega) only [yi_178_8, c0.2.2.2.2.2.1.1.2, yBs, pG_t, pZ_0, pZ_1, pZ_B]
  by_cases h_9 : p = 9
  · subst h_9
    refine ⟨yN H.1, A, H, K, C, D, E, F, o, zCx.same fun m c => ?_, zCm.same fun m c => ?_⟩
    · unfold f_158
      rw [yr_0_2, yBs, ys5_0, yBs]
      rw [if_neg (by decide), if_neg (by decide), if_neg (by decide), if_neg (by decide), if_neg (by decide), if_neg (by decide), if_neg (by decide), if_neg (by decide), if_neg (by decide), if_pos rfl]
      simp (disch := first | assumption | omega) only [yr_0_3, yi_11_2, c.2.1.1, yBs, pG_t, pZ_0, pZ_1, pZ_B]
    · obtain ⟨c0, g0⟩ := c.th 0
      have T := c0.1.tor
      have r49 : (yW m 178 0 0).1 180 49 = yN (zmv A) := c0.1.2.2.1
      have r50 : (yW m 178 0 0).1 180 50 = yN (zho A) := c0.1.2.2.2.1
      have r51 : (yW m 178 0 0).1 180 51 = zwo A := c0.1.2.2.2.2.1
      unfold f_263
      rw [yp_178_0, yBs]
      rw [if_neg (by decide), if_neg (by decide), if_neg (by decide), if_neg (by decide), if_neg (by decide), if_neg (by decide), if_neg (by decide), if_neg (by decide), if_neg (by decide), if_pos rfl]
      simp (disch := first | assumption | omega) only [yi_178_28, c0.2.1.1, yBs, pG_t, pZ_0, pZ_1, pZ_B]
  by_cases h_10 : p = 10
  · subst h_10
    refine ⟨yN F.1, A, H, K, C, D, E, F, o, zCx.same fun m c => ?_, zCm.same fun m c => ?_⟩
    · unfold f_158
      rw [yr_0_2, yBs, ys5_0, yBs]
      rw [if_neg (by decide), if_neg (by decide), if_neg (by decide), if_neg (by decide), if_neg (by decide), if_neg (by decide), if_neg (by decide), if_neg (by decide), if_neg (by decide), if_neg (by decide), if_pos rfl]
      simp (disch := first | assumption | omega) only [yr_0_10, yi_135_10, c.2.2.2.2.2.2.1, yBs, pG_t, pZ_0, pZ_1, pZ_B]
    · obtain ⟨c0, g0⟩ := c.th 0
      have T := c0.1.tor
      have r49 : (yW m 178 0 0).1 180 49 = yN (zmv A) := c0.1.2.2.1
      have r50 : (yW m 178 0 0).1 180 50 = yN (zho A) := c0.1.2.2.2.1
      have r51 : (yW m 178 0 0).1 180 51 = zwo A := c0.1.2.2.2.2.1
      unfold f_263
      rw [yp_178_0, yBs]
      rw [if_neg (by decide), if_neg (by decide), if_neg (by decide), if_neg (by decide), if_neg (by decide), if_neg (by decide), if_neg (by decide), if_neg (by decide), if_neg (by decide), if_neg (by decide), if_pos rfl]
      simp (disch := first | assumption | omega) only [yi_178_44, c0.2.2.2.2.2.2.1, yBs, pG_t, pZ_0, pZ_1, pZ_B]
  by_cases h_11 : p = 11
  · subst h_11
    refine ⟨yN D.length, A, H, K, C, D, E, F, o, zCx.same fun m c => ?_, zCm.same fun m c => ?_⟩
    · unfold f_158
      rw [yr_0_2, yBs, ys5_0, yBs]
      rw [if_neg (by decide), if_neg (by decide), if_neg (by decide), if_neg (by decide), if_neg (by decide), if_neg (by decide), if_neg (by decide), if_neg (by decide), if_neg (by decide), if_neg (by decide), if_neg (by decide), if_pos rfl]
      simp (disch := first | assumption | omega) only [yr_0_1, yi_3_1, c.2.2.2.2.1.1, yBs, pG_t, pZ_0, pZ_1, pZ_B]
    · obtain ⟨c0, g0⟩ := c.th 0
      have T := c0.1.tor
      have r49 : (yW m 178 0 0).1 180 49 = yN (zmv A) := c0.1.2.2.1
      have r50 : (yW m 178 0 0).1 180 50 = yN (zho A) := c0.1.2.2.2.1
      have r51 : (yW m 178 0 0).1 180 51 = zwo A := c0.1.2.2.2.2.1
      unfold f_263
      rw [yp_178_0, yBs]
      rw [if_neg (by decide), if_neg (by decide), if_neg (by decide), if_neg (by decide), if_neg (by decide), if_neg (by decide), if_neg (by decide), if_neg (by decide), if_neg (by decide), if_neg (by decide), if_neg (by decide), if_pos rfl]
      simp (disch := first | assumption | omega) only [yi_178_1, c0.2.2.2.2.1.1, yBs, pG_t, pZ_0, pZ_1, pZ_B]
  by_cases h_12 : p = 12
  · subst h_12
    refine ⟨yN C.1, A, H, K, C, D, E, F, o, zCx.same fun m c => ?_, zCm.same fun m c => ?_⟩
    · unfold f_158
      rw [yr_0_2, yBs, ys5_0, yBs]
      rw [if_neg (by decide), if_neg (by decide), if_neg (by decide), if_neg (by decide), if_neg (by decide), if_neg (by decide), if_neg (by decide), if_neg (by decide), if_neg (by decide), if_neg (by decide), if_neg (by decide), if_neg (by decide), if_pos rfl]
      simp (disch := first | assumption | omega) only [yr_0_0, yi_1_1, c.2.2.2.1.1, yBs, pG_t, pZ_0, pZ_1, pZ_B]
    · obtain ⟨c0, g0⟩ := c.th 0
      have T := c0.1.tor
      have r49 : (yW m 178 0 0).1 180 49 = yN (zmv A) := c0.1.2.2.1
      have r50 : (yW m 178 0 0).1 180 50 = yN (zho A) := c0.1.2.2.2.1
      have r51 : (yW m 178 0 0).1 180 51 = zwo A := c0.1.2.2.2.2.1
      unfold f_263
      rw [yp_178_0, yBs]
      rw [if_neg (by decide), if_neg (by decide), if_neg (by decide), if_neg (by decide), if_neg (by decide), if_neg (by decide), if_neg (by decide), if_neg (by decide), if_neg (by decide), if_neg (by decide), if_neg (by decide), if_neg (by decide), if_pos rfl]
      simp (disch := first | assumption | omega) only [yi_178_10, c0.2.2.2.1.1, yBs, pG_t, pZ_0, pZ_1, pZ_B]
  refine ⟨-100, A, H, K, C, D, E, F, o, zCx.same fun m c => ?_, zCm.same fun m c => ?_⟩
  · unfold f_158
    rw [yr_0_2, yBs, ys5_0, yBs]
    rw [if_neg h_0, if_neg h_1, if_neg h_2, if_neg h_3, if_neg h_4, if_neg h_5, if_neg h_6, if_neg h_7, if_neg h_8, if_neg h_9, if_neg h_10, if_neg h_11, if_neg h_12]
  · unfold f_263
    rw [yp_178_0, yBs]
    rw [if_neg h_0, if_neg h_1, if_neg h_2, if_neg h_3, if_neg h_4, if_neg h_5, if_neg h_6, if_neg h_7, if_neg h_8, if_neg h_9, if_neg h_10, if_neg h_11, if_neg h_12]
/-! felt() -/
def fPush (F : zF) (b : Nat) (t : Bool) : zF := (F.1 + 1, (fun j => if j = F.1 then b else F.2.1 j), (fun j => if j = F.1 then t else F.2.2.1 j), F.2.2.2)
theorem z_felt (p q : Int32) : zCall (f_148 0 p q) (f_246 178 p q) := by
  intro κ A H K C D E F o
  obtain ⟨oF1, oF2, oF3⟩ := o.2.2.2.2.2.2
  by_cases h : tHasI (zth A) p = true ∧ (0 ≤ q ∧ q ≤ 1) ∧ F.1 < 20
  · obtain ⟨h1, h2, h3⟩ := h
    have hp : ¬ p < 0 := fun r => by unfold tHasI at h1; simp [r] at h1
    obtain ⟨b, hb, rfl⟩ := yN_of hp
    have h4 : tHas (zth A) b = true := by unfold tHasI at h1; simpa [hp, yI_cl hb] using h1
    have h48 := tHas_lt h4
    obtain ⟨t, ht⟩ : ∃ t : Bool, q = yB t := by
      obtain ⟨k, hk, rfl⟩ := yN_of' h2.1
      have : k ≤ 1 := by have := h2.2; rw [yN_lel hk (by omega)] at this; exact this
      rcases (show k = 0 ∨ k = 1 by omega) with rfl | rfl
      · exact ⟨false, rfl⟩
      · exact ⟨true, rfl⟩
    have hq0 : ¬ q < 0 := by rw [ht]; cases t <;> decide
    have hqb : (if q = 1 then some 1 else some 0 : Option Int32) = some q := by rw [ht]; cases t <;> rfl
    have hqa : q &&& 1 = q := by rw [ht]; cases t <;> decide
    refine ⟨yN (F.1 + 1), A, H, K, C, D, E, fPush F b t, ⟨o.1, o.2.1, o.2.2.1, o.2.2.2.1, o.2.2.2.2.1, o.2.2.2.2.2.1, ⟨by show F.1 + 1 ≤ 20; omega, fun j hj => ?_, oF3⟩⟩, fun m c => ?_, fun m c => ?_⟩
    · have hj' : j < F.1 + 1 := hj
      show (if j = F.1 then b else F.2.1 j) < 48
      by_cases q : j = F.1
      · rw [if_pos q]; exact h48
      · rw [if_neg q]; exact oF2 j (by omega)
    · obtain ⟨t1, t2, t3⟩ := c.2.2.2.2.2.2
      have G : yG sF5 m (yW (yW (yW m 136 F.1 (yN b)) 135 10 (yN (F.1 + 1))) 137 F.1 q) := ((yG.w (S := sF5) m (by unfold sF5; omega)).tr (yG.w (S := sF5) _ (by unfold sF5; omega)) (fun _ _ => orSelf)).tr (yG.w (S := sF5) _ (by unfold sF5; omega)) (fun _ _ => orSelf)
      have r1 : (yW m 136 F.1 (yN b)).1 135 10 = yN F.1 := by rw [yW_row (by omega), t1]
      have r2 : (yW (yW (yW m 136 F.1 (yN b)) 135 10 (yN (F.1 + 1))) 137 F.1 q).1 135 10 = yN (F.1 + 1) := by rw [yW_row (by omega), yW_self, upd_eq]
      refine ⟨_, ?_, c.fF o.2.1.1 G (fun x j q => Or.inr q) ⟨r2, fun j hj => ⟨?_, ?_⟩, fun b' hb' => ?_⟩, G.wk (fun x j q => by unfold sF5 at q; unfold sC; omega)⟩
      · unfold f_148 f_80
        simp (disch := first | assumption | omega) only [yr_0_2, ys5_0, yt_is ytw_6, s90 ytw_6 c.1.1.1, h4, yB_t, y10, if_false, yBs, pG_t, pZ_0, pZ_1, pZ_B, if_neg hq0, if_pos h2.2, yr_0_10, yis_135, hqb, yi_135_10, t1, yN_add, yN_addl, yN_ladd, yN_mul, yN_mull, yN_lmul, yN_sub, yN_subl, yN_lsub, yN_lt, yN_ltl, yN_llt, yN_le, yN_lel, yN_lle, yN_eq, yN_eql, yN_leq, yN_eqm, yN_lem, yN_ltm, yN_mlt, yN_mle, yN_addm, yN_madd, yp_div, yp_rem, yp_divN, yp_remN, if_pos, if_neg, yr_135_0, yr_135_1, yst_136, r1, yp_135_10, yst_137, hqa, r2]
      · rw [yW_row (by omega), yW_row (by omega), yW_self]
        show upd (m.1 136) F.1 (yN b) j = yN (if j = F.1 then b else F.2.1 j)
        by_cases q : j = F.1
        · rw [if_pos q, q, upd_eq]
        · rw [if_neg q, upd_ne _ _ q]; exact (t2 j (by have hj' : j < F.1 + 1 := hj; omega)).1
      · rw [yW_self, yW_row (by omega), yW_row (by omega)]
        show upd (m.1 137) F.1 q j = yB (if j = F.1 then t else F.2.2.1 j)
        by_cases q : j = F.1
        · rw [if_pos q, q, upd_eq, ht]
        · rw [if_neg q, upd_ne _ _ q]; exact (t2 j (by have hj' : j < F.1 + 1 := hj; omega)).2
      · rw [yW_row (by omega), yW_row (by omega), yW_row (by omega), yW_row (by omega), yW_row (by omega), yW_row (by omega)]
        exact t3 b' hb'
    · obtain ⟨c0, g0⟩ := c.th 0
      have T := c0.1.tor
      obtain ⟨t1, t2, t3⟩ := c0.2.2.2.2.2.2
      generalize hM : yW m 178 0 0 = M at *
      have G : yG sF7 M (yW (yW (yW M 205 F.1 (yN b)) 206 F.1 q) 178 44 (yN (F.1 + 1))) := ((yG.w (S := sF7) M (by unfold sF7; omega)).tr (yG.w (S := sF7) _ (by unfold sF7; omega)) (fun _ _ => orSelf)).tr (yG.w (S := sF7) _ (by unfold sF7; omega)) (fun _ _ => orSelf)
      have r1 : (yW M 205 F.1 (yN b)).1 178 44 = yN F.1 := by rw [yW_row (by omega), t1]
      have r2 : (yW (yW M 205 F.1 (yN b)) 206 F.1 q).1 178 44 = yN F.1 := by rw [yW_row (by omega), yW_row (by omega), t1]
      have r3 : (yW (yW (yW M 205 F.1 (yN b)) 206 F.1 q) 178 44 (yN (F.1 + 1))).1 178 44 = yN (F.1 + 1) := by rw [yW_self, upd_eq]
      refine ⟨_, ?_, c0.fF G (fun x j q => Or.inr q) ⟨r3, fun j hj => ⟨?_, ?_⟩, fun b' hb' => ?_⟩, g0.tr (G.wk (S3 := sR) (fun x j q => by unfold sF7 at q; unfold sR; omega)) (fun _ _ => orSelf)⟩
      · unfold f_246
        simp (disch := first | assumption | omega) only [yp_178_0, hM, yr_178_3, s169 yAr_180 T o.1.1.1.2.1, h4, yB_t, y10, if_false, yBs, pG_t, pZ_0, pZ_1, pZ_B]
        rw [s162l _ 0 1 0 1 rfl rfl, decide_eq_true h2]
        simp (disch := first | assumption | omega) only [yB_t, y10, if_false, yBs, pG_t, pZ_0, pZ_1, pZ_B, yi_178_44, t1, yN_add, yN_addl, yN_ladd, yN_mul, yN_mull, yN_lmul, yN_sub, yN_subl, yN_lsub, yN_lt, yN_ltl, yN_llt, yN_le, yN_lel, yN_lle, yN_eq, yN_eql, yN_leq, yN_eqm, yN_lem, yN_ltm, yN_mlt, yN_mle, yN_addm, yN_madd, yp_div, yp_rem, yp_divN, yp_remN, if_pos, if_neg, yr_178_45, yr_178_46, yst_205, yst_206, r1, r2, yp_178_44, r3]
      · rw [yW_row (by omega), yW_row (by omega), yW_self]
        show upd (M.1 205) F.1 (yN b) j = yN (if j = F.1 then b else F.2.1 j)
        by_cases q : j = F.1
        · rw [if_pos q, q, upd_eq]
        · rw [if_neg q, upd_ne _ _ q]; exact (t2 j (by have hj' : j < F.1 + 1 := hj; omega)).1
      · rw [yW_row (by omega), yW_self, yW_row (by omega)]
        show upd (M.1 206) F.1 q j = yB (if j = F.1 then t else F.2.2.1 j)
        by_cases q : j = F.1
        · rw [if_pos q, q, upd_eq, ht]
        · rw [if_neg q, upd_ne _ _ q]; exact (t2 j (by have hj' : j < F.1 + 1 := hj; omega)).2
      · rw [yW_row (by omega), yW_row (by omega), yW_row (by omega), yW_row (by omega), yW_row (by omega), yW_row (by omega)]
        exact t3 b' hb'
  · refine ⟨-1, A, H, K, C, D, E, F, o, zCx.same fun m c => ?_, zCm.same fun m c => ?_⟩
    · unfold f_148
      simp (disch := first | assumption | omega) only [yr_0_2, ys5_0, yt_is ytw_6, s90I ytw_6 c.1.1.1, yBs, pG_t, pZ_0, pZ_1, pZ_B]
      cases h1 : tHasI (zth A) p with
      | false => simp only [yBs, pZ_0, pZ_1, pZ_B, if_true, if_false, y10, y01, yB_t, yB_f]
      | true =>
        simp only [yBs, pZ_0, pZ_1, pZ_B, if_true, if_false, y10, y01, yB_t, yB_f]
        by_cases h2 : q < 0
        · rw [if_pos h2]
        · rw [if_neg h2]
          by_cases h3 : q ≤ 1
          · rw [if_pos h3]
            have hF : F.1 = 20 := by
              rcases Nat.lt_or_ge F.1 20 with r | r
              · exact absurd ⟨h1, ⟨yLe_of_lt h2, h3⟩, r⟩ h
              · omega
            have r1 : (m.1 135 10 < 20) = False := by rw [c.2.2.2.2.2.2.1, hF]; decide
            unfold f_80
            simp (disch := first | assumption | omega) only [yr_0_10, yBs, yIte_some, yis_135, pG_t, yi_135_10, r1, if_false, pZ_0, if_true]
          · rw [if_neg h3]
    · obtain ⟨c0, g0⟩ := c.th 0
      have T := c0.1.tor
      unfold f_246
      simp (disch := first | assumption | omega) only [yp_178_0, yr_178_3, s169I yAr_180 T o.1.1.1.2.1, yBs, pG_t, pZ_0, pZ_1, pZ_B]
      cases h1 : tHasI (zth A) p with
      | false => simp only [yBs, pZ_0, pZ_1, pZ_B, if_true, if_false, y10, y01, yB_t, yB_f]
      | true =>
        simp only [yBs, pZ_0, pZ_1, pZ_B, if_true, if_false, y10, y01, yB_t, yB_f]
        rw [s162l _ 0 1 0 1 rfl rfl]
        by_cases h2 : 0 ≤ q ∧ q ≤ 1
        · have hF : F.1 = 20 := by
            rcases Nat.lt_or_ge F.1 20 with r | r
            · exact absurd ⟨h1, h2, r⟩ h
            · omega
          have r1 : ((yW m 178 0 0).1 178 44 = 20) = True := by rw [c0.2.2.2.2.2.2.1, hF]; decide
          rw [decide_eq_true h2]
          simp (disch := first | assumption | omega) only [yBs, yB_t, y10, if_false, yi_178_44, r1, if_true]
        · rw [decide_eq_false h2]; simp only [yBs, pZ_0, pZ_1, pZ_B, if_true, if_false, y10, y01, yB_t, yB_f]
/-! known() -/
def fKnow (F : zF) (b lo hi : Nat) : zF := (F.1, F.2.1, F.2.2.1, (fun j => if j = b then lo else F.2.2.2.1 j), (fun j => if j = b then hi else F.2.2.2.2 j))
theorem z_known (p q r : Int32) : zCall (f_149 0 p q r) (f_247 178 p q r) := by
  intro κ A H K C D E F o
  obtain ⟨oF1, oF2, oF3⟩ := o.2.2.2.2.2.2
  by_cases h : tHasI (zth A) p = true ∧ (0 ≤ q ∧ q ≤ 9) ∧ (q ≤ r ∧ r ≤ 9)
  · obtain ⟨h1, h2, h3⟩ := h
    have hp : ¬ p < 0 := fun r => by unfold tHasI at h1; simp [r] at h1
    obtain ⟨b, hb, rfl⟩ := yN_of hp
    have h4 : tHas (zth A) b = true := by unfold tHasI at h1; simpa [hp, yI_cl hb] using h1
    have h48 := tHas_lt h4
    obtain ⟨lo, hlo, rfl⟩ := yN_of' h2.1
    obtain ⟨hi, hhi, rfl⟩ := yN_of' (x := r) (by have a := h3.1; have b := h2.1; rw [yLe_iff] at a b ⊢; omega)
    have k1 : lo ≤ hi := by have := h3.1; rw [yN_le hlo hhi] at this; exact this
    have k2 : hi ≤ 9 := by have := h3.2; rw [yN_lel hhi (by omega)] at this; exact this
    refine ⟨1, A, H, K, C, D, E, fKnow F b lo hi, ⟨o.1, o.2.1, o.2.2.1, o.2.2.2.1, o.2.2.2.2.1, o.2.2.2.2.2.1, ⟨oF1, oF2, fun j hj => ?_⟩⟩, fun m c => ?_, fun m c => ?_⟩
    · show (if j = b then lo else F.2.2.2.1 j) ≤ (if j = b then hi else F.2.2.2.2 j) ∧ (if j = b then hi else F.2.2.2.2 j) ≤ 9
      by_cases q : j = b
      · rw [if_pos q, if_pos q]; exact ⟨k1, k2⟩
      · rw [if_neg q, if_neg q]; exact oF3 j hj
    · obtain ⟨t1, t2, t3⟩ := c.2.2.2.2.2.2
      have G : yG sF5 m (yW (yW m 138 b (yN lo)) 139 b (yN hi)) := (yG.w (S := sF5) m (by unfold sF5; omega)).tr (yG.w (S := sF5) _ (by unfold sF5; omega)) (fun _ _ => orSelf)
      refine ⟨_, ?_, c.fF o.2.1.1 G (fun x j q => Or.inr q) ⟨by rw [yW_row (by omega), yW_row (by omega)]; exact t1, fun j hj => ?_, fun j hj => ⟨?_, ?_⟩⟩, G.wk (fun x j q => by unfold sF5 at q; unfold sC; omega)⟩
      · unfold f_149
        simp (disch := first | assumption | omega) only [yr_0_2, ys5_0, yt_is ytw_6, s90 ytw_6 c.1.1.1, h4, yB_t, y10, if_false, yBs, pG_t, pZ_0, pZ_1, pZ_B, yN_add, yN_addl, yN_ladd, yN_mul, yN_mull, yN_lmul, yN_sub, yN_subl, yN_lsub, yN_lt, yN_ltl, yN_llt, yN_le, yN_lel, yN_lle, yN_eq, yN_eql, yN_leq, yN_eqm, yN_lem, yN_ltm, yN_mlt, yN_mle, yN_addm, yN_madd, yp_div, yp_rem, yp_divN, yp_remN, if_pos, if_neg, yr_0_10, yr_135_2, yr_135_3, yst_138, yst_139]
      · rw [yW_row (by omega), yW_row (by omega), yW_row (by omega), yW_row (by omega)]; exact t2 j hj
      · rw [yW_row (by omega), yW_self]
        show upd (m.1 138) b (yN lo) j = yN (if j = b then lo else F.2.2.2.1 j)
        by_cases q : j = b
        · rw [if_pos q, q, upd_eq]
        · rw [if_neg q, upd_ne _ _ q]; exact (t3 j hj).1
      · rw [yW_self, yW_row (by omega)]
        show upd (m.1 139) b (yN hi) j = yN (if j = b then hi else F.2.2.2.2 j)
        by_cases q : j = b
        · rw [if_pos q, q, upd_eq]
        · rw [if_neg q, upd_ne _ _ q]; exact (t3 j hj).2
    · obtain ⟨c0, g0⟩ := c.th 0
      have T := c0.1.tor
      obtain ⟨t1, t2, t3⟩ := c0.2.2.2.2.2.2
      generalize hM : yW m 178 0 0 = M at *
      have G : yG sF7 M (yW (yW M 207 b (yN lo)) 208 b (yN hi)) := (yG.w (S := sF7) M (by unfold sF7; omega)).tr (yG.w (S := sF7) _ (by unfold sF7; omega)) (fun _ _ => orSelf)
      refine ⟨_, ?_, c0.fF G (fun x j q => Or.inr q) ⟨by rw [yW_row (by omega), yW_row (by omega)]; exact t1, fun j hj => ?_, fun j hj => ⟨?_, ?_⟩⟩, g0.tr (G.wk (S3 := sR) (fun x j q => by unfold sF7 at q; unfold sR; omega)) (fun _ _ => orSelf)⟩
      · unfold f_247
        simp (disch := first | assumption | omega) only [yp_178_0, hM, yr_178_3, s169 yAr_180 T o.1.1.1.2.1, h4, yB_t, y10, if_false, yBs, pG_t, pZ_0, pZ_1, pZ_B]
        rw [s162l _ 0 9 0 9 rfl rfl, decide_eq_true h2]
        simp (disch := first | assumption | omega) only [yB_t, y10, if_false, yBs, pG_t, pZ_0, pZ_1, pZ_B]
        rw [s162l _ (yN lo) 9 _ 9 rfl rfl, decide_eq_true h3]
        simp (disch := first | assumption | omega) only [yB_t, y10, if_false, yBs, pG_t, pZ_0, pZ_1, pZ_B, yr_178_47, yr_178_48, yst_207, yst_208]
      · rw [yW_row (by omega), yW_row (by omega), yW_row (by omega), yW_row (by omega)]; exact t2 j hj
      · rw [yW_row (by omega), yW_self]
        show upd (M.1 207) b (yN lo) j = yN (if j = b then lo else F.2.2.2.1 j)
        by_cases q : j = b
        · rw [if_pos q, q, upd_eq]
        · rw [if_neg q, upd_ne _ _ q]; exact (t3 j hj).1
      · rw [yW_self, yW_row (by omega)]
        show upd (M.1 208) b (yN hi) j = yN (if j = b then hi else F.2.2.2.2 j)
        by_cases q : j = b
        · rw [if_pos q, q, upd_eq]
        · rw [if_neg q, upd_ne _ _ q]; exact (t3 j hj).2
  · refine ⟨0, A, H, K, C, D, E, F, o, zCx.same fun m c => ?_, zCm.same fun m c => ?_⟩
    · unfold f_149
      simp (disch := first | assumption | omega) only [yr_0_2, ys5_0, yt_is ytw_6, s90I ytw_6 c.1.1.1, yBs, pG_t, pZ_0, pZ_1, pZ_B]
      cases h1 : tHasI (zth A) p with
      | false => simp only [yBs, pZ_0, pZ_1, pZ_B, if_true, if_false, y10, y01, yB_t, yB_f]
      | true =>
        simp only [yBs, pZ_0, pZ_1, pZ_B, if_true, if_false, y10, y01, yB_t, yB_f]
        by_cases h2 : q < 0
        · rw [if_pos h2]
        · rw [if_neg h2]
          by_cases h3 : 9 < r
          · rw [if_pos h3]
          · rw [if_neg h3, if_neg]
            intro h5
            have h6 := yLe_of_lt h3
            exact h ⟨h1, ⟨yLe_of_lt h2, by rw [yLe_iff] at h5 h6 ⊢; omega⟩, h5, h6⟩
    · obtain ⟨c0, g0⟩ := c.th 0
      have T := c0.1.tor
      unfold f_247
      simp (disch := first | assumption | omega) only [yp_178_0, yr_178_3, s169I yAr_180 T o.1.1.1.2.1, yBs, pG_t, pZ_0, pZ_1, pZ_B]
      cases h1 : tHasI (zth A) p with
      | false => simp only [yBs, pZ_0, pZ_1, pZ_B, if_true, if_false, y10, y01, yB_t, yB_f]
      | true =>
        simp only [yBs, pZ_0, pZ_1, pZ_B, if_true, if_false, y10, y01, yB_t, yB_f]
        rw [s162l _ 0 9 0 9 rfl rfl]
        by_cases h2 : 0 ≤ q ∧ q ≤ 9
        · rw [decide_eq_true h2]
          simp only [yBs, pZ_0, pZ_1, pZ_B, if_true, if_false, y10, y01, yB_t, yB_f]
          rw [s162l _ q 9 _ 9 rfl rfl, decide_eq_false (fun r => h ⟨h1, h2, r⟩)]
          simp only [yBs, pZ_0, pZ_1, pZ_B, if_true, if_false, y10, y01, yB_t, yB_f]
        · rw [decide_eq_false h2]; simp only [yBs, pZ_0, pZ_1, pZ_B, if_true, if_false, y10, y01, yB_t, yB_f]
