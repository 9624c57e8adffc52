/-! ===== calls: again, undo ===== -/
theorem cpO_g {κ : yK} {m : yM} {P Q po qo : Nat} : yG (fun x j => x = Q ∧ qo ≤ j ∧ j < qo + 54) m (yR m Q (cpO (m.1 P) po (m.1 Q) qo 0)) := by
  refine yG.r _ (fun j hj => ⟨rfl, ?_⟩)
  rcases Nat.lt_or_ge j qo with q | q
  · exact absurd (cpO_out (Or.inl q)) hj
  · rcases Nat.lt_or_ge j (qo + 54) with q2 | q2
    · exact ⟨q, q2⟩
    · exact absurd (cpO_out (Or.inr q2)) hj
theorem z_again (p : Int32) : zCall (f_157 0 p) (f_261 178 p) := by
  intro κ A H K C D E F o
  obtain ⟨oE1, oE4, -, -⟩ := o.2.2.2.2.2.1
  by_cases h : 0 ≤ p ∧ p ≤ 2
  · obtain ⟨k, hk, rfl⟩ := yN_of' h.1
    have hk3 : k < 3 := by have := h.2; rw [yN_lel hk (by omega)] at this; omega
    cases hK : K k with
    | some s =>
      have os := o.2.2.1 k hk3 s hK
      obtain ⟨om1, om2⟩ := zMd_ok os oE1 oE4
      have hsm := os.2.2.1
      refine ⟨1, zMd s E.2.2.1, (0, H.2), K, C, D, E, zF0, ⟨⟨om1, om2⟩, ⟨by show (0 : Nat) ≤ 15; omega, fun j hj => absurd hj (Nat.not_lt_zero j)⟩, o.2.2.1, o.2.2.2.1, o.2.2.2.2.1, o.2.2.2.2.2.1, okF0⟩, fun m c => ?_, fun m c => ?_⟩
      · obtain ⟨z1, z2⟩ := c.2.2.1
        obtain ⟨m1, e1, c1, g1⟩ := s71 (κ := κ) ysw_5 (ysw_ke hk3) (by omega) ((z2 k hk3).2 s hK) os (fun j hj => by have q := c.1.1.1; rw [show 5 + 1 + 1 = 5 + 2 from rfl] at q; rw [q]; exact o.1.1.2.1 j hj)
        have c2 : Cl m1 s H K C D E F := c.fA o.2.1.1 g1 (fun x j q => by unfold sS at q; omega) c1
        have g3 : yG (fun x _ => x = 5) m1 (yW m1 5 1 (yN (zmv s % E.2.2.1))) := yG.w m1 rfl
        have c3 : Cl (yW m1 5 1 (yN (zmv s % E.2.2.1))) (zMd s E.2.2.1) H K C D E F := c2.fA o.2.1.1 g3 (fun x j q => by have : x = 5 := q; omega) c2.1.mv
        obtain ⟨m4, e4, c4, g4⟩ := w79 (κ := κ) c3 o.2.1.1
        have g5 : yG (fun x _ => x = 11) m4 (yW m4 11 2 0) := yG.w m4 rfl
        have c5 : Cl (yW m4 11 2 0) (zMd s E.2.2.1) (0, H.2) K C D E zF0 := c4.fH g5 (fun x j q => by have : x = 11 := q; omega) (c4.2.1.z H.2)
        refine ⟨_, ?_, c5, ?_⟩
        · unfold f_157
          have r1 : m1.1 5 1 = yN (zmv s) := c1.2.1
          have r2 : m1.1 0 16 = yN E.2.2.1 := c2.2.2.2.2.2.1.2.1.1
          have r3 : m.1 104 k = 1 := by rw [(z2 k hk3).1, hK]; rfl
          simp (disch := first | assumption | omega) only [yN_add, yN_addl, yN_ladd, yN_mul, yN_mull, yN_lmul, yN_sub, yN_subl, yN_lsub, yN_lt, yN_ltl, yN_llt, yN_le, yN_lel, yN_lle, yN_eq, yN_eql, yN_leq, yN_eqm, yN_lem, yN_ltm, yN_mlt, yN_mle, yN_addm, yN_madd, yp_div, yp_rem, yp_divN, yp_remN, if_pos, if_neg, yr_0_5, ya_104, r3, y10, if_false, yr_0_2, yr_0_4, y103 hk3, ys_is ysw_5, yBs, pG_t, pZ_0, pZ_1, pZ_B, e1, ys_i1 ysw_5, r1, yis_0, s269 (κ := κ) (u := zmv s) r2 oE1 oE4 (by omega), ys_p1 ysw_5, yr_0_10, yis_135, e4, yr_0_3, yis_11]
          unfold f_42
          simp (disch := first | assumption | omega) only [yp_11_2, yBs, yBs, pG_t, pZ_0, pZ_1, pZ_B]
        · refine ((g1.wk (S3 := sC) (fun x j q => by unfold sS at q; unfold sC; omega)).tr (g3.wk (S3 := sC) (fun x j q => by have : x = 5 := q; unfold sC; omega)) (fun _ _ => orSelf)).tr ((g4.wk (S3 := sC) (fun x j q => by unfold sF5 at q; unfold sC; omega)).tr (g5.wk (S3 := sC) (fun x j q => by have : x = 11 := q; unfold sC; omega)) (fun _ _ => orSelf)) (fun _ _ => orSelf)
      · obtain ⟨c0, g0⟩ := c.th 0
        have e1 := s261_30 (κ := κ) hk3 54 0 100000 (yW m 178 0 0) (by omega) (by omega)
        have g1 : yG (fun x j => x = 180 ∧ 0 ≤ j ∧ j < 0 + 54) (yW m 178 0 0) (yR (yW m 178 0 0) 180 (cpO ((yW m 178 0 0).1 211) (54 * k) ((yW m 178 0 0).1 180) 0 0)) := cpO_g (κ := κ)
        have c1 : Rf (yR (yW m 178 0 0) 180 (cpO ((yW m 178 0 0).1 211) (54 * k) ((yW m 178 0 0).1 180) 0 0)) s H K C D E F := c0.fA g1 (fun x j q => Or.inr q.1) (((c0.2.2.1 k hk3).2 s hK).cp (fun j hj => by rw [yR_eq, cpO_in hj]))
        have g2 : yG (fun x _ => x = 180) (yR (yW m 178 0 0) 180 (cpO ((yW m 178 0 0).1 211) (54 * k) ((yW m 178 0 0).1 180) 0 0)) (yW (yR (yW m 178 0 0) 180 (cpO ((yW m 178 0 0).1 211) (54 * k) ((yW m 178 0 0).1 180) 0 0)) 180 49 (yN (zmv s % E.2.2.1))) := yG.w _ rfl
        have c2 : Rf (yW (yR (yW m 178 0 0) 180 (cpO ((yW m 178 0 0).1 211) (54 * k) ((yW m 178 0 0).1 180) 0 0)) 180 49 (yN (zmv s % E.2.2.1))) (zMd s E.2.2.1) H K C D E F := c1.fA g2 (fun x j q => Or.inr q) c1.1.mv
        obtain ⟨m3, e3, c3, g3⟩ := m245 (κ := κ) c2
        have g4 : yG (fun x j => x = 178 ∧ j = 28) m3 (yW m3 178 28 0) := yG.w m3 ⟨rfl, rfl⟩
        have c4 : Rf (yW m3 178 28 0) (zMd s E.2.2.1) (0, H.2) K C D E zF0 := c3.fH g4 (fun x j q => Or.inr (Or.inl q)) ⟨by rw [yW_self, upd_eq]; rfl, fun j hj => absurd hj (Nat.not_lt_zero j)⟩
        refine ⟨_, ?_, c4, ?_⟩
        · unfold f_261
          simp (disch := first | assumption | omega) only [yp_178_0, yBs]
          rw [s162l _ 0 2 0 2 rfl rfl, decide_eq_true h]
          rw [show f_261_30 100000 178 (yN k) 0 = f_261_30 100000 178 (yN k) (yN 0) from rfl]
          have r1 : (yR (yW m 178 0 0) 180 (cpO ((yW m 178 0 0).1 211) (54 * k) ((yW m 178 0 0).1 180) 0 0)).1 180 49 = yN (zmv s) := c1.1.2.2.1
          have r2 : (yR (yW m 178 0 0) 180 (cpO ((yW m 178 0 0).1 211) (54 * k) ((yW m 178 0 0).1 180) 0 0)).1 178 6 = yN E.2.2.1 := c1.2.2.2.2.2.1.2.1.1
          have r3 : (yW m 178 0 0).1 210 k = 1 := by rw [(c0.2.2.1 k hk3).1, hK]; rfl
          simp (disch := first | assumption | omega) only [yBs, pG_t, pZ_0, pZ_1, pZ_B, yB_t, y10, if_false, yr_178_51, ya_210, r3, e1, yr_178_3, yr_al yAr_180, yi_178_6, r1, r2, yN_add, yN_addl, yN_ladd, yN_mul, yN_mull, yN_lmul, yN_sub, yN_subl, yN_lsub, yN_lt, yN_ltl, yN_llt, yN_le, yN_lel, yN_lle, yN_eq, yN_eql, yN_leq, yN_eqm, yN_lem, yN_ltm, yN_mlt, yN_mle, yN_addm, yN_madd, yp_div, yp_rem, yp_divN, yp_remN, yr_sl yAr_180, yis_178, e3, yp_178_28]
        · exact (g0.tr ((g1.wk (S3 := sR) (fun x j q => by have : x = 180 := q.1; unfold sR; omega)).tr (g2.wk (S3 := sR) (fun x j q => by have : x = 180 := q; unfold sR; omega)) (fun _ _ => orSelf)) (fun _ _ => orSelf)).tr ((g3.wk (S3 := sR) (fun x j q => by unfold sF7 at q; unfold sR; omega)).tr (g4.wk (S3 := sR) (fun x j q => by have : x = 178 := q.1; unfold sR; omega)) (fun _ _ => orSelf)) (fun _ _ => orSelf)
    | none =>
      refine ⟨0, A, H, K, C, D, E, F, o, zCx.same fun m c => ?_, zCm.same fun m c => ?_⟩
      · have r3 : m.1 104 k = 0 := by rw [(c.2.2.1.2 k hk3).1, hK]; rfl
        unfold f_157
        simp (disch := first | assumption | omega) only [yN_add, yN_addl, yN_ladd, yN_mul, yN_mull, yN_lmul, yN_sub, yN_subl, yN_lsub, yN_lt, yN_ltl, yN_llt, yN_le, yN_lel, yN_lle, yN_eq, yN_eql, yN_leq, yN_eqm, yN_lem, yN_ltm, yN_mlt, yN_mle, yN_addm, yN_madd, yp_div, yp_rem, yp_divN, yp_remN, if_pos, if_neg, yr_0_5, ya_104, r3, if_true, yBs, pG_t, pZ_0, pZ_1, pZ_B]
      · obtain ⟨c0, g0⟩ := c.th 0
        have r3 : (yW m 178 0 0).1 210 k = 0 := by rw [(c0.2.2.1 k hk3).1, hK]; rfl
        unfold f_261
        simp (disch := first | assumption | omega) only [yp_178_0, yBs]
        rw [s162l _ 0 2 0 2 rfl rfl, decide_eq_true h]
        simp (disch := first | assumption | omega) only [yBs, pG_t, pZ_0, pZ_1, pZ_B, yB_t, y10, if_false, yr_178_51, ya_210, r3, if_true]
  · refine ⟨0, A, H, K, C, D, E, F, o, zCx.same fun m c => ?_, zCm.same fun m c => ?_⟩
    · unfold f_157
      by_cases h1 : p < 0
      · rw [if_pos h1]; simp only [yBs, pZ_0, pZ_1, pZ_B, if_true, if_false, y10, y01, yB_t, yB_f]
      · rw [if_neg h1, if_pos]
        · simp only [yBs, pZ_0, pZ_1, pZ_B, if_true, if_false, y10, y01, yB_t, yB_f]
        · obtain ⟨k, hk, rfl⟩ := yN_of h1
          rw [yN_lle hk (by omega)]
          rcases Nat.lt_or_ge k 3 with q | q
          · exact absurd ⟨yLe_of_lt h1, by rw [yN_lel hk (by omega)]; omega⟩ h
          · exact q
    · unfold f_261
      simp (disch := first | assumption | omega) only [yp_178_0, yBs]
      rw [s162l _ 0 2 0 2 rfl rfl, decide_eq_false h]
      simp only [yBs, pZ_0, pZ_1, pZ_B, if_true, if_false, y10, y01, yB_t, yB_f]
/-! undo() -/
def hPop (H : zH) : zH := (H.1 - 1, fun j => H.2 (j + 1))
theorem okH.pop {H : zH} (o : okH H) : okH (hPop H) := by
  have := o.1
  exact ⟨by show H.1 - 1 ≤ 15; omega, fun j hj => o.2 (j + 1) (by have : j < H.1 - 1 := hj; omega)⟩
theorem z_undo : zCall (f_135 0) (f_218 178) := by
  intro κ A H K C D E F o
  obtain ⟨oE1, oE4, -, -⟩ := o.2.2.2.2.2.1
  have oH := o.2.1.1
  by_cases h0 : H.1 = 0
  · refine ⟨-1, A, H, K, C, D, E, F, o, zCx.same fun m c => ?_, zCm.same fun m c => ?_⟩
    · unfold f_135
      have r : m.1 11 2 = 0 := by rw [c.2.1.1, h0]; rfl
      simp (disch := first | assumption | omega) only [yr_0_3, yi_11_2, yBs, r, if_true]
    · obtain ⟨c0, g0⟩ := c.th 0
      have r : (yW m 178 0 0).1 178 28 = 0 := by rw [c0.2.1.1, h0]; rfl
      unfold f_218
      simp (disch := first | assumption | omega) only [yp_178_0, yi_178_28, yBs, r, if_true]
  · have os := o.2.1.2 0 (by omega)
    obtain ⟨om1, om2⟩ := zMd_ok os oE1 oE4
    have hsm := os.2.2.1
    refine ⟨yN (H.1 - 1), zMd (H.2 0) E.2.2.1, hPop H, K, C, D, E, F, ⟨⟨om1, om2⟩, o.2.1.pop, o.2.2⟩, fun m c => ?_, fun m c => ?_⟩
    · obtain ⟨h1, h2, nx, h3, h4, h5⟩ := c.2.1
      have hnx : (nx + 14) % 15 < 15 := Nat.mod_lt _ (by omega)
      have gA : yG (fun x _ => x = 11) m (yW (yW m 11 1 (yN ((nx + 14) % 15))) 11 2 (yN (H.1 - 1))) := (yG.w (S := fun x _ => x = 11) m rfl).tr (yG.w (S := fun x _ => x = 11) _ rfl) (fun _ _ => orSelf)
      have cA : Cl (yW (yW m 11 1 (yN ((nx + 14) % 15))) 11 2 (yN (H.1 - 1))) A (hPop H) K C D E F := by
        refine c.fH gA (fun x j q => by have : x = 11 := q; omega) ⟨by rw [yW_self, upd_eq]; rfl, fun i hi j hj => by rw [yW_row (by omega), yW_row (by omega)]; exact h2 i hi j hj, (nx + 14) % 15, hnx, by rw [yW_get, if_neg (by omega), yW_self, upd_eq], fun j hj => ?_⟩
        have hj' : j < H.1 - 1 := hj
        have := h5 (j + 1) (by omega)
        rw [show ((nx + 14) % 15 + 14 - j) % 15 = (nx + 14 - (j + 1)) % 15 by omega]
        exact this.g gA (fun x j q r => by have : x = 11 := q; omega)
      have s5 := (h5 0 (by omega)).g gA (fun x j q r => by have : x = 11 := q; omega)
      rw [Nat.sub_zero] at s5
      obtain ⟨m1, e1, c1, g1⟩ := s71 (κ := κ) ysw_5 (ysw_hi hnx) (by omega) s5 os (fun j hj => by have q := cA.1.1.1; rw [show 5 + 1 + 1 = 5 + 2 from rfl] at q; rw [q]; exact o.1.1.2.1 j hj)
      have c2 : Cl m1 (H.2 0) (hPop H) K C D E F := cA.fA (by show H.1 - 1 ≤ 15; omega) g1 (fun x j q => by unfold sS at q; omega) c1
      have g3 : yG (fun x _ => x = 5) m1 (yW m1 5 1 (yN (zmv (H.2 0) % E.2.2.1))) := yG.w m1 rfl
      have c3 : Cl (yW m1 5 1 (yN (zmv (H.2 0) % E.2.2.1))) (zMd (H.2 0) E.2.2.1) (hPop H) K C D E F := c2.fA (by show H.1 - 1 ≤ 15; omega) g3 (fun x j q => by have : x = 5 := q; omega) c2.1.mv
      refine ⟨_, ?_, c3, ?_⟩
      · unfold f_135 f_44
        have r0 : (yW m 11 1 (yN ((nx + 14) % 15))).1 11 2 = yN H.1 := by rw [yW_get, if_neg (by omega), h1]
        have r1 : m1.1 5 1 = yN (zmv (H.2 0)) := c1.2.1
        have r2 : m1.1 0 16 = yN E.2.2.1 := c2.2.2.2.2.2.1.2.1.1
        have r3 : (yW m1 5 1 (yN (zmv (H.2 0) % E.2.2.1))).1 11 2 = yN (H.1 - 1) := c3.2.1.1
        have r4 : (yW (yW m 11 1 (yN ((nx + 14) % 15))) 11 2 (yN (H.1 - 1))).1 11 1 = yN ((nx + 14) % 15) := by rw [yW_get, if_neg (by omega), yW_self, upd_eq]
        have r5 : nx + 15 - 1 = nx + 14 := by omega
        simp (disch := first | assumption | omega) only [yr_0_3, yi_11_2, yi_11_1, yr_11_0, yBs, h1, h4, yN_add, yN_addl, yN_ladd, yN_mul, yN_mull, yN_lmul, yN_sub, yN_subl, yN_lsub, yN_lt, yN_ltl, yN_llt, yN_le, yN_lel, yN_lle, yN_eq, yN_eql, yN_leq, yN_eqm, yN_lem, yN_ltm, yN_mlt, yN_mle, yN_addm, yN_madd, yp_div, yp_rem, yp_divN, yp_remN, if_pos, if_neg, yr_0_2, yis_11, yBs, pG_t, pZ_0, pZ_1, pZ_B, r5, yp_11_1, yp_11_2, r0, r4, y12 hnx, ys_is ysw_5, e1, ys_i1 ysw_5, r1, yis_0, s269 (κ := κ) (u := zmv (H.2 0)) r2 oE1 oE4 (by omega), ys_p1 ysw_5, r3]
      · exact ((gA.wk (S3 := sC) (fun x j q => by have : x = 11 := q; unfold sC; omega)).tr (g1.wk (S3 := sC) (fun x j q => by unfold sS at q; unfold sC; omega)) (fun _ _ => orSelf)).tr (g3.wk (S3 := sC) (fun x j q => by have : x = 5 := q; unfold sC; omega)) (fun _ _ => orSelf)
    · obtain ⟨c0, g0⟩ := c.th 0
      have gA : yG (fun x j => x = 178 ∧ j = 28) (yW m 178 0 0) (yW (yW m 178 0 0) 178 28 (yN (H.1 - 1))) := yG.w _ ⟨rfl, rfl⟩
      have cA : Rf (yW (yW m 178 0 0) 178 28 (yN (H.1 - 1))) A (hPop H) K C D E F := by
        refine c0.fH gA (fun x j q => Or.inr (Or.inl q)) ⟨by rw [yW_self, upd_eq]; rfl, fun j hj => ?_⟩
        have hj' : j < H.1 - 1 := hj
        have := c0.2.1.2 (j + 1) (by omega)
        show rSt _ 193 (54 * (H.1 - 1 - 1 - j)) (H.2 (j + 1))
        rw [show H.1 - 1 - 1 - j = H.1 - 1 - (j + 1) by omega]
        exact this.g gA (fun i _ _ q => by have : 193 = 178 := q.1; omega)
      have s1 := (c0.2.1.2 0 (by omega)).g gA (fun i _ _ q => by have : 193 = 178 := q.1; omega)
      rw [Nat.sub_zero] at s1
      have hu : (yW (yW m 178 0 0) 178 28 (yN (H.1 - 1))).1 178 28 = yN (H.1 - 1) := by rw [yW_self, upd_eq]
      have e1 := s218_26 (κ := κ) (u := H.1 - 1) (by omega) 54 0 100000 (yW (yW m 178 0 0) 178 28 (yN (H.1 - 1))) (by omega) (by omega) hu
      generalize hM : yW (yW m 178 0 0) 178 28 (yN (H.1 - 1)) = M at *
      have g1 : yG (fun x j => x = 180 ∧ 0 ≤ j ∧ j < 0 + 54) M (yR M 180 (cpO (M.1 193) (54 * (H.1 - 1)) (M.1 180) 0 0)) := cpO_g (κ := κ)
      have c1 : Rf (yR M 180 (cpO (M.1 193) (54 * (H.1 - 1)) (M.1 180) 0 0)) (H.2 0) (hPop H) K C D E F := cA.fA g1 (fun x j q => Or.inr q.1) (s1.cp (fun j hj => by rw [yR_eq, cpO_in hj]))
      generalize hN : yR M 180 (cpO (M.1 193) (54 * (H.1 - 1)) (M.1 180) 0 0) = N at *
      have g2 : yG (fun x _ => x = 180) N (yW N 180 49 (yN (zmv (H.2 0) % E.2.2.1))) := yG.w _ rfl
      have c2 : Rf (yW N 180 49 (yN (zmv (H.2 0) % E.2.2.1))) (zMd (H.2 0) E.2.2.1) (hPop H) K C D E F := c1.fA g2 (fun x j q => Or.inr q) c1.1.mv
      refine ⟨_, ?_, c2, ?_⟩
      · unfold f_218
        rw [show f_218_26 100000 178 0 = f_218_26 100000 178 (yN 0) from rfl]
        have r0 : (yW m 178 0 0).1 178 28 = yN H.1 := c0.2.1.1
        have r1 : N.1 180 49 = yN (zmv (H.2 0)) := c1.1.2.2.1
        have r2 : N.1 178 6 = yN E.2.2.1 := c1.2.2.2.2.2.1.2.1.1
        have r3 : (yW N 180 49 (yN (zmv (H.2 0) % E.2.2.1))).1 178 28 = yN (H.1 - 1) := c2.2.1.1
        simp (disch := first | assumption | omega) only [yp_178_0, yi_178_28, r0, yN_add, yN_addl, yN_ladd, yN_mul, yN_mull, yN_lmul, yN_sub, yN_subl, yN_lsub, yN_lt, yN_ltl, yN_llt, yN_le, yN_lel, yN_lle, yN_eq, yN_eql, yN_leq, yN_eqm, yN_lem, yN_ltm, yN_mlt, yN_mle, yN_addm, yN_madd, yp_div, yp_rem, yp_divN, yp_remN, if_neg h0, yBs, yp_178_28, hM, e1, yr_178_3, yr_al yAr_180, yi_178_6, r1, r2, yr_sl yAr_180, r3]
      · exact (g0.tr (gA.wk (S3 := sR) (fun x j q => by have : x = 178 := q.1; unfold sR; omega)) (fun _ _ => orSelf)).tr ((g1.wk (S3 := sR) (fun x j q => by have : x = 180 := q.1; unfold sR; omega)).tr (g2.wk (S3 := sR) (fun x j q => by have : x = 180 := q; unfold sR; omega)) (fun _ _ => orSelf)) (fun _ _ => orSelf)
