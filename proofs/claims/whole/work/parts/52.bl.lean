/-! ===== calls: block, layer ===== -/
section BL
variable {κ : yK} {m : yM} {A : zT} {H : zH} {K : zK} {C : zC} {D : List Int64} {E : zE} {F : zF}
def tCd (th : Nat → Int32) (n : Nat) (t0 t1 : Int32) (b : Nat) : Bool := decide (2 ≤ tBl th (b / 3)) && tSt (upd th b (-1)) n t0 t1
/-- canBeDrawn() -/
theorem s112 {b : Nat} (c : Cl m A H K C D E F) (o : Ok A H K C D E F) (hb : tHas (zth A) b = true) : ∃ m', f_112 0 (yN b) (yH κ m) = some (yB (tCd (zth A) (zn A) E.1 E.2.1 b), yH κ m') ∧ Cl m' A H K C D E F ∧ yG sC m m' := by
  have hk := o.1.1.1
  have hn := hk.1
  have h48 := tHas_lt hb
  have h3n := tHas_n hk hb
  have hbl := tBl_le (zth A) (b / 3)
  unfold tCd
  by_cases h2 : 2 ≤ tBl (zth A) (b / 3)
  · have hk1 := tOk_take hk hb h2
    obtain ⟨m1, e1, T1, F1⟩ := s93 (κ := κ) ytw_6 c.1.1 hk hb (Or.inr (tWg_ne hk1.2.1 (by omega) (hk1.2.2.2 _ (by omega))))
    have f0 : ∀ j, ¬ sT 6 106 j := fun j => by unfold sT; omega
    obtain ⟨m2, e2, R2, F2⟩ := s3 (κ := κ) (t0 := E.1) (t1 := E.2.1) ytw_6 (by omega) hk1 T1 (by rw [F1.2 _ _ (f0 0)]; exact c.2.2.2.2.2.1.1.1) (by rw [F1.2 _ _ (f0 1)]; exact c.2.2.2.2.2.1.1.2)
    have T2 := T1.fr F2 (fun x j p q => by unfold sW; omega)
    obtain ⟨m3, e3, T3, F3⟩ := s92 (κ := κ) (v := zth A b) ytw_6 T2 hn h48 (by omega)
    rw [show max (zn A) (b / 3 + 1) = zn A by omega, upd_upd, upd_id] at T3
    have G : yG (sTW 6) m m3 := ((F1.g (S3 := sTW 6) (fun _ _ => Or.inl)).tr (F2.g (S3 := sTW 6) (fun _ _ => Or.inr)) (fun _ _ => orSelf)).tr (F3.g (S3 := sTW 6) (fun _ _ => Or.inl)) (fun _ _ => orSelf)
    refine ⟨m3, ?_, c.tow o.2.1.1 G (fun x j q => by unfold sTW sT sW at q; unfold sCs; omega) T3, G.wk (fun x j q => by unfold sTW sT sW at q; unfold sC; omega)⟩
    unfold f_112
    rw [decide_eq_true h2, Bool.true_and]
    simp (disch := first | assumption | omega) only [yr_0_2, ys5_0, yN_add, yN_addl, yN_ladd, yN_mul, yN_mull, yN_lmul, yN_sub, yN_subl, yN_lsub, yN_lt, yN_ltl, yN_llt, yN_le, yN_lel, yN_lle, yN_eq, yN_eql, yN_leq, yN_eqm, yN_lem, yN_ltm, yN_mlt, yN_mle, yN_addm, yN_madd, yp_div, yp_rem, yp_divN, yp_remN, yt_is ytw_6, s97 ytw_6 c.1.1.1, yBs, pG_t, pZ_0, pZ_1, pZ_B, if_pos, if_neg, e1, yr_0_6, yis_105, e2, e3]
  · refine ⟨m, ?_, c, yG.rf m⟩
    unfold f_112
    rw [decide_eq_false h2, Bool.false_and]
    simp (disch := first | assumption | omega) only [yr_0_2, ys5_0, yN_add, yN_addl, yN_ladd, yN_mul, yN_mull, yN_lmul, yN_sub, yN_subl, yN_lsub, yN_lt, yN_ltl, yN_llt, yN_le, yN_lel, yN_lle, yN_eq, yN_eql, yN_leq, yN_eqm, yN_lem, yN_ltm, yN_mlt, yN_mle, yN_addm, yN_madd, yp_div, yp_rem, yp_divN, yp_remN, yt_is ytw_6, s97 ytw_6 c.1.1.1, yBs, pG_t, pZ_0, pZ_1, pZ_B, if_pos, if_neg]
    rfl
theorem Tor_181 {b : Nat} {th : Nat → Int32} {n : Nat} (ht : Tor m 180 th n) (hb : b < 48) : Tor (yW (yR m 181 (cpR (m.1 180) (m.1 181) 0 54)) 181 b (-1)) 181 (upd th b (-1)) n := ht.cp.upd hb
theorem m189_4 {b : Nat} (c : Rf m A H K C D E F) (o : Ok A H K C D E F) (hb : tHas (zth A) b = true) : ∃ m', ((f_168 180 181 (yH κ m)).bind fun h17 => (pFr h17 178 12 4).bind fun x18 => (pSi h17 x18 (yN b) (-1)).bind fun h19 => (pFr h19 178 12 3).bind fun x20 => (pDiv (yN b) 3).bind fun x21 => (f_170 x20 x21 h19).bind fun (x23, h22) => ((if x23 ≤ 1 then some (0, h22) else (pFr h22 178 12 4).bind fun x33 => (pG (pIs h22 178 12)).bind fun _ => (f_188 178 x33 h22).bind fun (x36, h35) => (if x36 = 0 then some (0, h35) else some (1, h35)) : Option (Int32 × xH))).bind fun (w30, h31) => (f_163 w30 h31).bind fun (x39, h38) => some (x39, h38)) = some (yB (tCd (zth A) (zn A) E.1 E.2.1 b), yH κ m') ∧ Rf m' A H K C D E F ∧ yG (fun x j => x = 181 ∨ sM x j) m m' := by
  have hk := o.1.1.1
  have hn := hk.1
  have h48 := tHas_lt hb
  have h3n := tHas_n hk hb
  have hbl := tBl_le (zth A) (b / 3)
  have T := c.1.tor
  have g1 : yG (fun x j => x = 181 ∨ sM x j) m (yW (yR m 181 (cpR (m.1 180) (m.1 181) 0 54)) 181 b (-1)) := (yG.r (S := fun x j => x = 181 ∨ sM x j) m (fun j _ => Or.inl rfl)).tr (yG.w (S := fun x j => x = 181 ∨ sM x j) _ (Or.inl rfl)) (fun _ _ => orSelf)
  have c1 := c.fr g1 (fun x j q => by unfold sM at q; unfold sRs; omega)
  generalize hM : yW (yR m 181 (cpR (m.1 180) (m.1 181) 0 54)) 181 b (-1) = M at *
  have T1 : Tor M 181 (upd (zth A) b (-1)) (zn A) := by rw [← hM]; exact Tor_181 T h48
  unfold tCd
  by_cases h2 : 2 ≤ tBl (zth A) (b / 3)
  · have hk1 := tOk_take hk hb h2
    obtain ⟨m2, e2, R2, F2⟩ := s188 (κ := κ) yAr_181 (by omega) hk1 T1 c1.2.2.2.2.2.1.1.1 c1.2.2.2.2.2.1.1.2
    refine ⟨m2, ?_, c1.fr (F2.g (fun _ _ q => q)) (fun _ _ => sM_Rs), g1.tr (F2.g (fun _ _ q => q)) (fun _ _ q => q.elim id Or.inr)⟩
    rw [decide_eq_true h2, Bool.true_and]
    simp (disch := first | assumption | omega) only [s168 yAr_180 yAr_181 (show (180 : Nat) ≠ 181 by omega), yBs, yr_178_4, yr_s yAr_181, hM, yr_178_3, yN_add, yN_addl, yN_ladd, yN_mul, yN_mull, yN_lmul, yN_sub, yN_subl, yN_lsub, yN_lt, yN_ltl, yN_llt, yN_le, yN_lel, yN_lle, yN_eq, yN_eql, yN_leq, yN_eqm, yN_lem, yN_ltm, yN_mlt, yN_mle, yN_addm, yN_madd, yp_div, yp_rem, yp_divN, yp_remN, s170 yAr_180 c1.1.tor hk.2.1, if_pos, if_neg, yis_178, yBs, pG_t, pZ_0, pZ_1, pZ_B, e2]
    cases tSt (upd (zth A) b (-1)) (zn A) E.1 E.2.1 <;> rfl
  · refine ⟨M, ?_, c1, g1⟩
    rw [decide_eq_false h2, Bool.false_and]
    simp (disch := first | assumption | omega) only [s168 yAr_180 yAr_181 (show (180 : Nat) ≠ 181 by omega), yBs, yr_178_4, yr_s yAr_181, hM, yr_178_3, yN_add, yN_addl, yN_ladd, yN_mul, yN_mull, yN_lmul, yN_sub, yN_subl, yN_lsub, yN_lt, yN_ltl, yN_llt, yN_le, yN_lel, yN_lle, yN_eq, yN_eql, yN_leq, yN_eqm, yN_lem, yN_ltm, yN_mlt, yN_mle, yN_addm, yN_madd, yp_div, yp_rem, yp_divN, yp_remN, s170 yAr_180 c1.1.tor hk.2.1, if_pos, if_neg, s163_0]
    rfl
end BL
theorem z_block (p q : Int32) : zCallT (f_111 0 p q) (f_189 178 p q) := by
  intro κ κ' A H K C D E F o
  have hk := o.1.1.1
  have hn := hk.1
  by_cases h : tHasI (zth A) p = true ∧ (0 ≤ q ∧ q ≤ 4)
  · obtain ⟨h1, h2⟩ := h
    have hp : ¬ p < 0 := fun r => by unfold tHasI at h1; simp [r] at h1
    obtain ⟨b, hb, rfl⟩ := yN_of hp
    have h4 : tHas (zth A) b = true := by unfold tHasI at h1; simpa [hp, yI_cl hb] using h1
    have h48 := tHas_lt h4
    have h3n := tHas_n hk h4
    have xs : ∀ m, Cl m A H K C D E F → ∀ (r : Int32 → xH → Option (Option Int32 × xH)), ((pFr (yH κ m) 0 11 2).bind fun x1 => (pFr (yH κ m) x1 7 0).bind fun x2 => (pG (pIs (yH κ m) x2 10)).bind fun _ => (f_90 x2 (yN b) (yH κ m)).bind fun (x5, h4) => r x5 h4) = r 1 (yH κ m) := fun m c r => by
      simp (disch := first | assumption | omega) only [yr_0_2, ys5_0, yt_is ytw_6, s90 ytw_6 c.1.1.1, h4, yB_t, yBs, pG_t, pZ_0, pZ_1, pZ_B]
    obtain ⟨k, hk2, rfl⟩ := yN_of' h2.1
    have hk4 : k ≤ 4 := by have := h2.2; rw [yN_lel hk2 (by omega)] at this; exact this
    have hd : decide ((0 : Int32) ≤ yN k ∧ yN k ≤ 4) = true := decide_eq_true h2
    rcases (show k = 0 ∨ k = 1 ∨ k = 2 ∨ k = 3 ∨ k = 4 by omega) with rfl | rfl | rfl | rfl | rfl
    · refine ⟨some (zth A b), zth A b, Or.inr rfl, zTx.some fun m c => ?_, zTm.same fun m c => ?_⟩
      · unfold f_111
        rw [yr_0_2, yBs, ys5_0, yBs, yt_is ytw_6, pG_t, yBs, s90 ytw_6 c.1.1.1 hb, h4, yBs]
        dsimp only
        rw [if_neg (by decide), if_pos (by decide)]
        simp (disch := first | assumption | omega) only [yt_0 ytw_6, yt_a1 ytw_6, yBs, c.1.1.1]
      · obtain ⟨c0, g0⟩ := c.th 0
        have T := c0.1.tor
        unfold f_189
        rw [yp_178_0, yBs, yr_178_3, yBs, s169 yAr_180 T hk.2.1 hb, h4, yBs]
        dsimp only
        rw [if_neg (by decide), s162l _ 0 4 0 4 rfl rfl, hd, yBs]
        dsimp only
        rw [if_neg (by decide), if_neg (by decide)]
        simp (disch := first | assumption | omega) only [yr_178_3, yr_a yAr_180, yBs, T.1 b h48]
        rw [show (10 * yN 0 : Int32) = 0 by decide, Int32.add_zero]
    · refine ⟨some (zth A b + 10), zth A b + 10, Or.inr rfl, zTx.some fun m c => ?_, zTm.same fun m c => ?_⟩
      · unfold f_111
        rw [yr_0_2, yBs, ys5_0, yBs, yt_is ytw_6, pG_t, yBs, s90 ytw_6 c.1.1.1 hb, h4, yBs]
        dsimp only
        rw [if_neg (by decide), if_neg (by decide), if_pos (by decide)]
        simp (disch := first | assumption | omega) only [yt_0 ytw_6, yt_a1 ytw_6, yBs, c.1.1.1]
      · obtain ⟨c0, g0⟩ := c.th 0
        have T := c0.1.tor
        unfold f_189
        rw [yp_178_0, yBs, yr_178_3, yBs, s169 yAr_180 T hk.2.1 hb, h4, yBs]
        dsimp only
        rw [if_neg (by decide), s162l _ 0 4 0 4 rfl rfl, hd, yBs]
        dsimp only
        rw [if_neg (by decide), if_neg (by decide)]
        simp (disch := first | assumption | omega) only [yr_178_3, yr_a yAr_180, yBs, T.1 b h48]
        rw [show (10 * yN 1 : Int32) = 10 by decide]
    · refine ⟨some (yB (tTi (zth A) b)), yB (tTi (zth A) b), Or.inr rfl, zTx.some fun m c => ?_, zTm.same fun m c => ?_⟩
      · unfold f_111
        rw [yr_0_2, yBs, ys5_0, yBs, yt_is ytw_6, pG_t, yBs, s90 ytw_6 c.1.1.1 hb, h4, yBs]
        dsimp only
        rw [if_neg (by decide), if_neg (by decide), if_neg (by decide), if_pos (by decide)]
        simp (disch := first | assumption | omega) only [yt_is ytw_6, pG_t, s99 ytw_6 c.1.1 hk, yBs, h4, Bool.true_and]
        cases tTi (zth A) b <;> rfl
      · obtain ⟨c0, g0⟩ := c.th 0
        have T := c0.1.tor
        unfold f_189
        rw [yp_178_0, yBs, yr_178_3, yBs, s169 yAr_180 T hk.2.1 hb, h4, yBs]
        dsimp only
        rw [if_neg (by decide), s162l _ 0 4 0 4 rfl rfl, hd, yBs]
        dsimp only
        rw [if_neg (by decide), if_pos (by decide), if_pos (by decide)]
        simp (disch := first | assumption | omega) only [yr_178_3, yBs, s186 yAr_180 T hk.2.1 h48 (hk.2.2.2 _ (by omega)), s163]
    · refine ⟨some (yN (ySum (tBl (zth A)) (b / 3 + 1) (zn A - (b / 3 + 1)))), _, Or.inr rfl, zTx.some fun m c => ?_, zTm.same fun m c => ?_⟩
      · unfold f_111
        rw [yr_0_2, yBs, ys5_0, yBs, yt_is ytw_6, pG_t, yBs, s90 ytw_6 c.1.1.1 hb, h4, yBs]
        dsimp only
        rw [if_neg (by decide), if_neg (by decide), if_neg (by decide), if_neg (by decide), if_pos (by decide)]
        simp (disch := first | assumption | omega) only [yN_add, yN_addl, yN_ladd, yN_mul, yN_mull, yN_lmul, yN_sub, yN_subl, yN_lsub, yN_lt, yN_ltl, yN_llt, yN_le, yN_lel, yN_lle, yN_eq, yN_eql, yN_leq, yN_eqm, yN_lem, yN_ltm, yN_mlt, yN_mle, yN_addm, yN_madd, yp_div, yp_rem, yp_divN, yp_remN, yt_is ytw_6, pG_t, s98 ytw_6 c.1.1 hn, yBs]
      · obtain ⟨c0, g0⟩ := c.th 0
        have T := c0.1.tor
        have e1 := s189_81 (κ := κ') T hk.2.1 hn (zn A - (b / 3 + 1)) (b / 3 + 1) 100000 0 (by omega) (by omega) (by omega)
        rw [Nat.zero_add] at e1
        have e2 : f_189_81 100000 178 0 (yN (b / 3 + 1)) (yH κ' (yW m 178 0 0)) = some (yN (ySum (tBl (zth A)) (b / 3 + 1) (zn A - (b / 3 + 1))), yH κ' (yW m 178 0 0)) := e1
        unfold f_189
        rw [yp_178_0, yBs, yr_178_3, yBs, s169 yAr_180 T hk.2.1 hb, h4, yBs]
        dsimp only
        rw [if_neg (by decide), s162l _ 0 4 0 4 rfl rfl, hd, yBs]
        dsimp only
        rw [if_neg (by decide), if_pos (by decide), if_neg (by decide), if_pos (by decide)]
        simp (disch := first | assumption | omega) only [yN_add, yN_addl, yN_ladd, yN_mul, yN_mull, yN_lmul, yN_sub, yN_subl, yN_lsub, yN_lt, yN_ltl, yN_llt, yN_le, yN_lel, yN_lle, yN_eq, yN_eql, yN_leq, yN_eqm, yN_lem, yN_ltm, yN_mlt, yN_mle, yN_addm, yN_madd, yp_div, yp_rem, yp_divN, yp_remN, yBs, e2]
    · refine ⟨some (yB (tCd (zth A) (zn A) E.1 E.2.1 b)), _, Or.inr rfl, fun m c => ?_, fun m c => ?_⟩
      · obtain ⟨m1, e1, c1, g1⟩ := s112 (κ := κ) c o h4
        refine ⟨m1, ?_, c1, g1⟩
        unfold f_111
        rw [yr_0_2, yBs, ys5_0, yBs, yt_is ytw_6, pG_t, yBs, s90 ytw_6 c.1.1.1 hb, h4, yBs]
        dsimp only
        rw [if_neg (by decide), if_neg (by decide), if_neg (by decide), if_neg (by decide), if_neg (by decide), if_pos (by decide)]
        simp (disch := first | assumption | omega) only [yis_0, pG_t, e1, yBs]
        cases tCd (zth A) (zn A) E.1 E.2.1 b <;> rfl
      · obtain ⟨c0, g0⟩ := c.th 0
        have T := c0.1.tor
        obtain ⟨m1, e1, c1, g1⟩ := m189_4 (κ := κ') c0 o h4
        refine ⟨m1, ?_, c1, ?_, g0.tr (g1.wk (S3 := sR) (fun x j q => by unfold sM at q; unfold sR; omega)) (fun _ _ => orSelf)⟩
        · unfold f_189
          rw [yp_178_0, yBs, yr_178_3, yBs, s169 yAr_180 T hk.2.1 hb, h4, yBs]
          dsimp only
          rw [if_neg (by decide), s162l _ 0 4 0 4 rfl rfl, hd, yBs]
          dsimp only
          rw [if_neg (by decide), if_pos (by decide), if_neg (by decide), if_neg (by decide), yr_178_3, yBs, yr_178_4, yBs]
          exact e1
        · rw [(g1 178 0 (by unfold sM; omega)).1, yW_self, upd_eq]; rfl
  · refine ⟨none, 0, Or.inl rfl, zTx.none fun m c => ?_, zTm.no fun m c => ?_⟩
    · unfold f_111
      rw [yr_0_2, yBs, ys5_0, yBs, yt_is ytw_6, pG_t, yBs, s90I ytw_6 c.1.1.1, yBs]
      dsimp only
      cases h1 : tHasI (zth A) p with
      | false => rw [if_pos (by decide)]; rfl
      | true =>
        have g : ∀ k : Nat, k ≤ 4 → ¬ q = yN k := fun k hk2 e => h ⟨h1, by rw [e]; exact ⟨by rw [yI0n (by omega)]; trivial, by rw [yN_lel (by omega) (by omega)]; exact hk2⟩⟩
        rw [if_neg (by decide), if_neg (show ¬ q = 0 from g 0 (by omega)), if_neg (show ¬ q = 1 from g 1 (by omega)), if_neg (show ¬ q = 2 from g 2 (by omega)), if_neg (show ¬ q = 3 from g 3 (by omega)), if_neg (show ¬ q = 4 from g 4 (by omega))]; rfl
    · obtain ⟨c0, g0⟩ := c.th 0
      have T := c0.1.tor
      unfold f_189 f_161
      rw [yp_178_0, yBs, yr_178_3, yBs, s169I yAr_180 T hk.2.1, yBs]
      dsimp only
      cases h1 : tHasI (zth A) p with
      | false => rw [if_pos (by decide), yis_178, pG_t, yBs, yp_178_0, yBs, yBs]
      | true =>
        rw [if_neg (by decide), s162l _ 0 4 0 4 rfl rfl, decide_eq_false (fun r => h ⟨h1, r⟩), yBs]
        dsimp only
        rw [if_pos (by decide), yis_178, pG_t, yBs, yp_178_0, yBs, yBs]
theorem s1 {κ : yK} {m : yM} {k : Nat} (hk : k < 8) (h0 : 0 < k) : f_1 (yN k) (yH κ m) = some (yN (tLo k), yH κ m) := by
  unfold f_1
  rw [and7 ⟨k, hk⟩, yh_k0 hk, yBs, tLo_tab ⟨k, hk⟩ h0]
theorem s2 {κ : yK} {m : yM} {k : Nat} (hk : k < 8) (h0 : 0 < k) : f_2 (yN k) (yH κ m) = some (yN (tHi k), yH κ m) := by
  unfold f_2
  rw [and7 ⟨k, hk⟩, yh_k1 hk, yBs, tHi_tab ⟨k, hk⟩ h0]
theorem z_layer (p q : Int32) : zCallT (f_113 0 p q) (f_191 178 p q) := by
  intro κ κ' A H K C D E F o
  have hk := o.1.1.1
  have hn := hk.1
  by_cases h : (0 ≤ p ∧ p < yN (zn A)) ∧ (0 ≤ q ∧ q ≤ 6)
  · obtain ⟨h1, h2⟩ := h
    obtain ⟨l, hl, rfl⟩ := yN_of' h1.1
    have hln : l < zn A := by have := h1.2; rw [yN_lt hl (by omega)] at this; exact this
    obtain ⟨r1, r2, r3⟩ := tBe_rng hk hln
    obtain ⟨k, hk2, rfl⟩ := yN_of' h2.1
    have hk6 : k ≤ 6 := by have := h2.2; rw [yN_lel hk2 (by omega)] at this; exact this
    have hd : decide ((0 : Int32) ≤ yN k ∧ yN k ≤ 6) = true := decide_eq_true h2
    have X : ∀ v : Int32, (∀ m, Cl m A H K C D E F → wRs m (zth A) (zn A) E.1 E.2.1 0 → ∀ h, h = yH κ m → (if yN k = 0 then (pG (pIs h 6 10)).bind fun _ => (f_97 6 (yN l) h).bind fun (x20, h19) => some (some x20, h19) else if yN k = 1 then (pFr h 0 11 6).bind fun x21 => (pFr h x21 0 1).bind fun x22 => (pAi h x22 (yN l)).bind fun x23 => some (some x23, h) else if yN k = 2 then (pFr h 0 11 6).bind fun x24 => (pFr h x24 0 2).bind fun x25 => (pAi h x25 (yN l)).bind fun x26 => some (some x26, h) else if yN k = 3 then (pFr h 0 11 6).bind fun x27 => (pFr h x27 0 3).bind fun x28 => (pAi h x28 (yN l)).bind fun x29 => some (some x29, h) else if yN k = 4 then (pFr h 6 10 3).bind fun x30 => (pAi h x30 (yN l)).bind fun x31 => (f_1 x31 h).bind fun (x33, h32) => some (some x33, h32) else if yN k = 5 then (pFr h 6 10 3).bind fun x34 => (pAi h x34 (yN l)).bind fun x35 => (f_2 x35 h).bind fun (x37, h36) => some (some x37, h36) else if yN k = 6 then (pFr h 6 10 3).bind fun x38 => (pAi h x38 (yN l)).bind fun x39 => some (some x39, h) else some (none, (h.1, h.2.1 + 6, h.2.2.1 + 1, h.2.2.2)) : Option (Option Int32 × xH)) = some (some v, yH κ m)) → (∀ m, Rf m A H K C D E F → mRs m (zth A) (zn A) E.1 E.2.1 0 → ∀ h, h = yH κ' m → (if yN k = 0 then (pFr h 178 12 3).bind fun x25 => (f_170 x25 (yN l) h).bind fun (x27, h26) => some (x27, h26) else if yN k = 1 then (pFr h 178 12 20).bind fun x28 => (pAi h x28 (yN l)).bind fun x29 => some (x29, h) else if yN k = 2 then (pFr h 178 12 21).bind fun x30 => (pAi h x30 (yN l)).bind fun x31 => some (x31, h) else if yN k = 3 then (pFr h 178 12 22).bind fun x32 => (pAi h x32 (yN l)).bind fun x33 => some (x33, h) else if yN k = 4 then (pRem (tBe (zth A) l) 2).bind fun x34 => ((if x34 = 1 then some (0) else (pRem (tBe (zth A) l) 4).bind fun x40 => (if x40 ≤ 1 then some (2) else some (1)) : Option (Int32))).bind fun (w38 : Int32) => some (w38, h) else if yN k = 5 then ((if tBe (zth A) l ≤ 3 then (if tBe (zth A) l ≤ 1 then some (0) else some (1)) else some (2) : Option (Int32))).bind fun (w45 : Int32) => some (w45, h) else some (tBe (zth A) l, h) : Option (Int32 × xH)) = some (v, yH κ' m)) → ∃ (v : Option Int32) (w : Int32), (v = none ∨ v = some w) ∧ zTx (f_113 0 (yN l) (yN k)) κ v A H K C D E F ∧ zTm (f_191 178 (yN l) (yN k)) κ' w v.isNone A H K C D E F := fun v hx hm => by
      refine ⟨some v, v, Or.inr rfl, fun m c => ?_, fun m c => ?_⟩
      · obtain ⟨m1, e1, R1, c1, g1⟩ := w3 (κ := κ) c o
        refine ⟨m1, ?_, c1, g1⟩
        unfold f_113
        rw [yr_0_2, yBs, ys5_0, yBs, yt_is ytw_6, pG_t, yBs, s91I c.1.1 hn, decide_eq_true h1, yBs]
        dsimp only
        rw [if_neg (by decide), yr_0_6, yBs, yis_105, pG_t, yBs, e1, yBs]
        exact hx m1 c1 R1 _ rfl
      · obtain ⟨c0, g0⟩ := c.th 0
        have T := c0.1.tor
        obtain ⟨m1, e1, R1, c1, g1⟩ := m187 (κ := κ') c0 o
        refine ⟨m1, ?_, c1, ?_, g0.tr g1 (fun _ _ => orSelf)⟩
        · unfold f_191
          rw [yp_178_0, yBs, yis_178, pG_t, yBs, s190 T hn, decide_eq_true h1, yBs]
          dsimp only
          rw [if_neg (by decide), s162l _ 0 6 0 6 rfl rfl, hd, yBs]
          dsimp only
          rw [if_neg (by decide), yr_178_3, yBs, yis_178, pG_t, yBs, e1, yBs]
          dsimp only
          rw [yr_178_3, yBs, s185 yAr_180 c1.1.tor hk.2.1 (by omega) (hk.2.2.2 l hln), yBs]
          exact hm m1 c1 R1 _ rfl
        · obtain ⟨m9, e9, R9, F9⟩ := s187 (κ := κ') yAr_180 (by omega) o.1.1.1 T c0.2.2.2.2.2.1.1.1 c0.2.2.2.2.2.1.1.2
          rw [e1] at e9
          have : yH κ' m1 = yH κ' m9 := (Prod.mk.inj (Option.some.inj e9)).2
          have q : m1.1 178 0 = m9.1 178 0 := by
            have q1 : pFi (yH κ' m1) 178 12 0 = pFi (yH κ' m9) 178 12 0 := by rw [this]
            rw [yi_178_0, yi_178_0] at q1
            exact Option.some.inj q1
          rw [q, F9.2 _ _ (by unfold sM; omega), yW_self, upd_eq]; rfl
    rcases (show k = 0 ∨ k = 1 ∨ k = 2 ∨ k = 3 ∨ k = 4 ∨ k = 5 ∨ k = 6 by omega) with rfl | rfl | rfl | rfl | rfl | rfl | rfl
    · refine X (yN (tBl (zth A) l)) (fun m c R h e => ?_) (fun m c R h e => ?_)
      · subst e; rw [if_pos (by decide)]; simp (disch := first | assumption | omega) only [yt_is ytw_6, pG_t, yBs, s97 ytw_6 c.1.1.1]
      · subst e; rw [if_pos (by decide)]; simp (disch := first | assumption | omega) only [yr_178_3, yBs, s170 yAr_180 c.1.tor hk.2.1]
    · refine X (wS (zth A) (zn A) (zn A - 1 - l)).1 (fun m c R h e => ?_) (fun m c R h e => ?_)
      · subst e; rw [if_neg (by decide), if_pos (by decide)]; simp (disch := first | assumption | omega) only [yr_0_6, yr_105_1, yBs, ya_107, (R.2.2.2.2 l (Nat.zero_le _) hln).1]
      · subst e; rw [if_neg (by decide), if_pos (by decide)]; simp (disch := first | assumption | omega) only [yr_178_20, yBs, ya_188, (R.2 l (Nat.zero_le _) hln).1]
    · refine X (wP (zth A) (zn A) E.1 E.2.1 (zn A - 1 - l)) (fun m c R h e => ?_) (fun m c R h e => ?_)
      · subst e; rw [if_neg (by decide), if_neg (by decide), if_pos (by decide)]; simp (disch := first | assumption | omega) only [yr_0_6, yr_105_2, yBs, ya_108, (R.2.2.2.2 l (Nat.zero_le _) hln).2.1]
      · subst e; rw [if_neg (by decide), if_neg (by decide), if_pos (by decide)]; simp (disch := first | assumption | omega) only [yr_178_21, yBs, ya_189, (R.2 l (Nat.zero_le _) hln).2.1]
    · refine X (wM (zth A) (zn A) E.1 E.2.1 (zn A - 1 - l)) (fun m c R h e => ?_) (fun m c R h e => ?_)
      · subst e; rw [if_neg (by decide), if_neg (by decide), if_neg (by decide), if_pos (by decide)]; simp (disch := first | assumption | omega) only [yr_0_6, yr_105_3, yBs, ya_109, (R.2.2.2.2 l (Nat.zero_le _) hln).2.2]
      · subst e; rw [if_neg (by decide), if_neg (by decide), if_neg (by decide), if_pos (by decide)]; simp (disch := first | assumption | omega) only [yr_178_22, yBs, ya_190, (R.2 l (Nat.zero_le _) hln).2.2]
    · refine X (yN (tLo (tBe (zth A) l).toNatClampNeg)) (fun m c R h e => ?_) (fun m c R h e => ?_)
      · have q := (c.1.1.2.2 l hln).2.2
        rw [r3] at q
        subst e; rw [if_neg (by decide), if_neg (by decide), if_neg (by decide), if_neg (by decide), if_pos (by decide)]; simp (disch := first | assumption | omega) only [yt_3 ytw_6, yBs, yt_a4 ytw_6, q, s1 r1 r2]
      · subst e; rw [if_neg (by decide), if_neg (by decide), if_neg (by decide), if_neg (by decide), if_pos (by decide)]; (conv => lhs; rw [r3]); simp (disch := first | assumption | omega) only [yN_add, yN_addl, yN_ladd, yN_mul, yN_mull, yN_lmul, yN_sub, yN_subl, yN_lsub, yN_lt, yN_ltl, yN_llt, yN_le, yN_lel, yN_lle, yN_eq, yN_eql, yN_leq, yN_eqm, yN_lem, yN_ltm, yN_mlt, yN_mle, yN_addm, yN_madd, yp_div, yp_rem, yp_divN, yp_remN, yBs, tLo_ite]
    · refine X (yN (tHi (tBe (zth A) l).toNatClampNeg)) (fun m c R h e => ?_) (fun m c R h e => ?_)
      · have q := (c.1.1.2.2 l hln).2.2
        rw [r3] at q
        subst e; rw [if_neg (by decide), if_neg (by decide), if_neg (by decide), if_neg (by decide), if_neg (by decide), if_pos (by decide)]; simp (disch := first | assumption | omega) only [yt_3 ytw_6, yBs, yt_a4 ytw_6, q, s2 r1 r2]
      · subst e; rw [if_neg (by decide), if_neg (by decide), if_neg (by decide), if_neg (by decide), if_neg (by decide), if_pos (by decide)]; (conv => lhs; rw [r3]); simp (disch := first | assumption | omega) only [yN_add, yN_addl, yN_ladd, yN_mul, yN_mull, yN_lmul, yN_sub, yN_subl, yN_lsub, yN_lt, yN_ltl, yN_llt, yN_le, yN_lel, yN_lle, yN_eq, yN_eql, yN_leq, yN_eqm, yN_lem, yN_ltm, yN_mlt, yN_mle, yN_addm, yN_madd, yp_div, yp_rem, yp_divN, yp_remN, yBs, tHi_ite]
    · refine X (tBe (zth A) l) (fun m c R h e => ?_) (fun m c R h e => ?_)
      · have q := (c.1.1.2.2 l hln).2.2
        subst e; rw [if_neg (by decide), if_neg (by decide), if_neg (by decide), if_neg (by decide), if_neg (by decide), if_neg (by decide), if_pos (by decide)]; simp (disch := first | assumption | omega) only [yt_3 ytw_6, yBs, yt_a4 ytw_6, q]
      · subst e; rw [if_neg (by decide), if_neg (by decide), if_neg (by decide), if_neg (by decide), if_neg (by decide), if_neg (by decide)]
  · refine ⟨none, 0, Or.inl rfl, fun m c => ?_, zTm.no fun m c => ?_⟩
    · by_cases h1 : 0 ≤ p ∧ p < yN (zn A)
      · obtain ⟨m1, e1, R1, c1, g1⟩ := w3 (κ := κ) c o
        refine ⟨m1, ?_, c1, g1⟩
        have g : ∀ k : Nat, k ≤ 6 → ¬ q = yN k := fun k hk2 e => h ⟨h1, by rw [e]; exact ⟨by rw [yI0n (by omega)]; trivial, by rw [yN_lel (by omega) (by omega)]; exact hk2⟩⟩
        unfold f_113
        rw [yr_0_2, yBs, ys5_0, yBs, yt_is ytw_6, pG_t, yBs, s91I c.1.1 hn, decide_eq_true h1, yBs]
        dsimp only
        rw [if_neg (by decide), yr_0_6, yBs, yis_105, pG_t, yBs, e1, yBs]
        dsimp only
        rw [if_neg (show ¬ q = 0 from g 0 (by omega)), if_neg (show ¬ q = 1 from g 1 (by omega)), if_neg (show ¬ q = 2 from g 2 (by omega)), if_neg (show ¬ q = 3 from g 3 (by omega)), if_neg (show ¬ q = 4 from g 4 (by omega)), if_neg (show ¬ q = 5 from g 5 (by omega)), if_neg (show ¬ q = 6 from g 6 (by omega))]
        rfl
      · refine ⟨m, ?_, c, yG.rf m⟩
        unfold f_113
        rw [yr_0_2, yBs, ys5_0, yBs, yt_is ytw_6, pG_t, yBs, s91I c.1.1 hn, decide_eq_false h1, yBs]
        rfl
    · obtain ⟨c0, g0⟩ := c.th 0
      have T := c0.1.tor
      unfold f_191 f_161
      rw [yp_178_0, yBs, yis_178, pG_t, yBs, s190 T hn, yBs]
      dsimp only
      by_cases h1 : 0 ≤ p ∧ p < yN (zn A)
      · rw [decide_eq_true h1, if_neg (by decide), s162l _ 0 6 0 6 rfl rfl, decide_eq_false (fun r => h ⟨h1, r⟩), yBs]
        dsimp only
        rw [if_pos (by decide), yis_178, pG_t, yBs, yp_178_0, yBs, yBs]
      · rw [decide_eq_false h1, if_pos (by decide), yis_178, pG_t, yBs, yp_178_0, yBs, yBs]
