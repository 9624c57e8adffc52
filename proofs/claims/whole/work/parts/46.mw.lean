/-! ===== move() ===== -/
def hPush (H : zH) (A : zT) : zH := (min 15 (H.1 + 1), fun j => if j = 0 then A else H.2 (j - 1))
theorem okH.push {H : zH} {A : zT} (o : okH H) (a : zOkT A) : okH (hPush H A) := by
  have := o.1
  refine ⟨by show min 15 (H.1 + 1) ≤ 15; omega, fun j hj => ?_⟩
  have hj' : j < min 15 (H.1 + 1) := hj
  show zOkT (if j = 0 then A else H.2 (j - 1))
  by_cases h : j = 0
  · rw [if_pos h]; exact a
  · rw [if_neg h]; exact o.2 (j - 1) (by omega)
/-- the game behind a move that can be -/
def zMv (A : zT) (E : zE) (mv : Nat) : zT :=
  (tDt (zth A) (zn A) E.1 E.2.1 mv, tDm (zth A) (zn A) E.1 E.2.1 mv, (zmv A + 1) % E.2.2.1, tDw (zth A) (zn A) E.1 E.2.1 mv,
   if tDw (zth A) (zn A) E.1 E.2.1 mv = 0 then zwo A else yN (zmv A),
   if tDw (zth A) (zn A) E.1 E.2.1 mv = 0 then zwl A else if tDw (zth A) (zn A) E.1 E.2.1 mv = 1 then yN (mv / 10 / 3) else (wB (tDt (zth A) (zn A) E.1 E.2.1 mv) (tDm (zth A) (zn A) E.1 E.2.1 mv) E.1 E.2.1 (tDm (zth A) (zn A) E.1 E.2.1 mv)).1,
   if tDw (zth A) (zn A) E.1 E.2.1 mv = 0 then zwb A else if tDw (zth A) (zn A) E.1 E.2.1 mv = 1 then 0 else (wB (tDt (zth A) (zn A) E.1 E.2.1 mv) (tDm (zth A) (zn A) E.1 E.2.1 mv) E.1 E.2.1 (tDm (zth A) (zn A) E.1 E.2.1 mv)).2.1)
theorem tDt_z {th : Nat → Int32} {n mv : Nat} {t0 t1 : Int32} (hk : tOk th n) (hc : tCg th n mv = true) (hz : ∀ j, 48 ≤ j → th j = 0) : ∀ j, 48 ≤ j → tDt th n t0 t1 mv j = 0 := by
  obtain ⟨g1, g2, g3, g4, g5, g6, g7⟩ := tCg_f hk hc
  have h48 := tHas_lt g1
  intro j hj
  unfold tDt tLn tDn
  split
  · exact hz j hj
  · split
    · rw [upd_ne _ _ (by omega)]; exact hz j hj
    · rw [upd_ne _ _ (by omega), upd_ne _ _ (by omega)]; exact hz j hj
theorem zMv_ok {A : zT} {E : zE} {mv : Nat} (h : zOkT A) (hc : tCg (zth A) (zn A) mv = true) (h1 : 1 ≤ E.2.2.1) (h4 : E.2.2.1 ≤ 4) : zOkT (zMv A E mv) ∧ zmv (zMv A E mv) < E.2.2.1 := by
  have hm : (zmv A + 1) % E.2.2.1 < E.2.2.1 := Nat.mod_lt _ (by omega)
  refine ⟨⟨tDt_ok h.1 hc, tDt_z h.1 hc h.2.1, ?_, tDw_lt⟩, hm⟩
  show (zmv A + 1) % E.2.2.1 < 4
  omega
def zFell (m : yM) (v w l b : Int32) : yM := yW (yW (yW (yW m 5 2 w) 5 3 v) 5 4 l) 5 5 b
def sMW (x j : Nat) : Prop := (5 ≤ x ∧ x ≤ 10) ∨ sW x j
section MW
variable {κ : yK} {m : yM} {A : zT} {H : zH} {K : zK} {C : zC} {D D' : List Int64} {E : zE} {F : zF} {s : zT}
/-- History.push() -/
theorem s43h (c : Cl m A H K C D E F) (o : Ok A H K C D E F) : ∃ m', f_43 11 5 (yH κ m) = some (yH κ m') ∧ Cl m' A (hPush H A) K C D E F ∧ yG (fun x _ => 11 ≤ x ∧ x ≤ 102) m m' := by
  obtain ⟨h1, h2, nx, h3, h4, h5⟩ := c.2.1
  have oH := o.2.1.1
  obtain ⟨m1, e1, c1, g1⟩ := s71 (κ := κ) (ysw_hi h3) ysw_5 (by omega) c.1 o.1.1 (fun j hj => by rw [show 13 + 6 * nx + 2 = 15 + 6 * nx by omega]; exact h2 nx h3 j hj)
  have gA : yG (fun x _ => x = 11) m1 (yW (yW m1 11 1 (yN ((nx + 1) % 15))) 11 2 (yN (min 15 (H.1 + 1)))) := (yG.w (S := fun x _ => x = 11) m1 rfl).tr (yG.w (S := fun x _ => x = 11) _ rfl) (fun _ _ => orSelf)
  have G : yG (fun x _ => x = 11 ∨ (13 + 6 * nx ≤ x ∧ x ≤ 13 + 6 * nx + 5)) m (yW (yW m1 11 1 (yN ((nx + 1) % 15))) 11 2 (yN (min 15 (H.1 + 1)))) := g1.tr gA (fun x j q => q.elim (fun r => by unfold sS at r; omega) (fun r => Or.inl r))
  have r0 : m1.1 11 1 = yN nx := by rw [(g1 11 1 (by unfold sS; omega)).1, h4]
  have r1 : (yW m1 11 1 (yN ((nx + 1) % 15))).1 11 2 = yN H.1 := by rw [yW_get, if_neg (by omega), (g1 11 2 (by unfold sS; omega)).1, h1]
  refine ⟨_, ?_, ?_, G.wk (fun x j q => by omega)⟩
  · unfold f_43
    simp (disch := first | assumption | omega) only [yr_11_0, yi_11_1, yi_11_2, yp_11_1, yp_11_2, yBs, h4, y12 h3, ys_is (ysw_hi h3), yBs, pG_t, pZ_0, pZ_1, pZ_B, e1, r0, yN_add, yN_addl, yN_ladd, yN_mul, yN_mull, yN_lmul, yN_sub, yN_subl, yN_lsub, yN_lt, yN_ltl, yN_llt, yN_le, yN_lel, yN_lle, yN_eq, yN_eql, yN_leq, yN_eqm, yN_lem, yN_ltm, yN_mlt, yN_mle, yN_addm, yN_madd, yp_div, yp_rem, yp_divN, yp_remN, r1, yp_minl]
  · refine c.fH G (fun x j q => by omega) ⟨by rw [yW_self, upd_eq]; rfl, fun i hi j hj => ?_, (nx + 1) % 15, Nat.mod_lt _ (by omega), by rw [yW_get, if_neg (by omega), yW_self, upd_eq], fun j hj => ?_⟩
    · by_cases hin : i = nx
      · subst hin
        rw [yW_row (by omega), yW_row (by omega)]
        have q := c1.1.1
        rw [show 13 + 6 * i + 1 + 1 = 15 + 6 * i by omega] at q
        rw [q]; exact o.1.1.2.1 j hj
      · rw [(G _ j (by omega)).1]; exact h2 i hi j hj
    · have hj' : j < min 15 (H.1 + 1) := hj
      show cSt _ (13 + 6 * (((nx + 1) % 15 + 14 - j) % 15)) (if j = 0 then A else H.2 (j - 1))
      by_cases hj0 : j = 0
      · rw [if_pos hj0, show ((nx + 1) % 15 + 14 - j) % 15 = nx by omega]
        exact c1.g gA (fun x j q r => by have : x = 11 := q; omega)
      · rw [if_neg hj0, show ((nx + 1) % 15 + 14 - j) % 15 = (nx + 14 - (j - 1)) % 15 by omega]
        refine (h5 (j - 1) (by omega)).g G (fun x i q r => ?_)
        have : (nx + 14 - (j - 1)) % 15 ≠ nx := by omega
        omega
theorem s43 (c : Cl m A H K C D E F) (o : Ok A H K C D E F) : ∃ m', f_43 11 5 (yH κ m) = some (yH κ m') ∧ Cl m' A (hPush H A) K C D E F ∧ yG sC m m' := by
  obtain ⟨m1, e1, c1, g1⟩ := s43h (κ := κ) c o
  exact ⟨m1, e1, c1, g1.wk (fun x j q => by unfold sC; omega)⟩
theorem s70 {v l b : Int32} : f_70 5 v l b (yH κ m) = some (yH κ (zFell m v (m.1 5 1) l b)) := by
  unfold f_70 zFell
  simp (disch := first | assumption | omega) only [ys_i1 ysw_5, ys_p2 ysw_5, ys_p3 ysw_5, ys_p4 ysw_5, ys_p5 ysw_5, yBs]
theorem zFell_g {v w l b : Int32} : yG (fun x _ => x = 5) m (zFell m v w l b) := by
  have q : ∀ (m : yM) (j : Nat) (x : Int32), yG (fun x _ => x = 5) m (yW m 5 j x) := fun m j x => yG.w m rfl
  exact (((q _ _ _).tr (q _ _ _) (fun _ _ => orSelf)).tr (q _ _ _) (fun _ _ => orSelf)).tr (q _ _ _) (fun _ _ => orSelf)
theorem cSt.fell {v : Nat} {w l b : Int32} (h : cSt m 5 s) : cSt (zFell m (yN v) w l b) 5 (s.1, s.2.1, zmv s, v, w, l, b) := by
  obtain ⟨h1, h2, h3, h4, h5⟩ := h
  refine ⟨h1.g zFell_g (fun x j p q r => by have : x = 5 := r; omega), ?_, ?_, ?_, fun q => ?_⟩
  · unfold zFell; simp [yW_get, h2]
  · unfold zFell; simp [yW_get]
  · unfold zFell; simp [yW_get]
  · unfold zFell; simp [yW_get]
theorem sMW_C {x j : Nat} (h : sMW x j) : sC x j := by unfold sMW sW at h; unfold sC; omega
/-- the last steps of carryOut(): who is to move -/
theorem s133e {r : xH → Option xH} (hr : ∀ h, r h = ((pFr h 0 11 2).bind fun x83 => (pFr h 0 11 2).bind fun x84 => (pFi h x84 7 1).bind fun x85 => (pG (pIs h 0 11)).bind fun _ => (f_269 0 (x85 + 1) h).bind fun (x88, h87) => (pP h87 x83 7 1 (.int x88)).bind fun h89 => some h89)) (c : Cl m s H K C D E F) (o : H.1 ≤ 15) (h1 : 1 ≤ E.2.2.1) (h4 : E.2.2.1 ≤ 4) (hm : zmv s < 4) : ∃ m', r (yH κ m) = some (yH κ m') ∧ Cl m' (s.1, s.2.1, (zmv s + 1) % E.2.2.1, s.2.2.2) H K C D E F ∧ yG sMW m m' := by
  have g : yG (fun x _ => x = 5) m (yW m 5 1 (yN ((zmv s + 1) % E.2.2.1))) := yG.w m rfl
  refine ⟨_, ?_, c.fA o g (fun x j q => by have : x = 5 := q; omega) c.1.mv, g.wk (fun x j q => Or.inl (by have : x = 5 := q; omega))⟩
  rw [hr]
  simp (disch := first | assumption | omega) only [yr_0_2, yBs, ys_i1 ysw_5, c.1.2.1, yis_0, pG_t, yN_add, yN_addl, yN_ladd, yN_mul, yN_mull, yN_lmul, yN_sub, yN_subl, yN_lsub, yN_lt, yN_ltl, yN_llt, yN_le, yN_lel, yN_lle, yN_eq, yN_eql, yN_leq, yN_eqm, yN_lem, yN_ltm, yN_mlt, yN_mle, yN_addm, yN_madd, yp_div, yp_rem, yp_divN, yp_remN, s269 (κ := κ) (u := zmv s + 1) c.2.2.2.2.2.1.2.1.1 h1 h4 (by omega), ys_p1 ysw_5]
theorem s133 {mv : Nat} (c : Cl m A H K C D E F) (o : Ok A H K C D E F) (hh : zho A = 0) (hc : tCg (zth A) (zn A) mv = true) (hm : mv < 2147483648) : ∃ m', f_133 0 (yN mv) (yH κ m) = some (yH κ m') ∧ Cl m' (zMv A E mv) H K C D E F ∧ yG sMW m m' := by
  have hk := o.1.1.1
  have hn := hk.1
  have oH := o.2.1.1
  obtain ⟨oE1, oE4, -, -⟩ := o.2.2.2.2.2.1
  have hmv := o.1.1.2.2.1
  have hdv : mv / 10 < 2147483648 := Nat.lt_of_le_of_lt (Nat.div_le_self _ _) hm
  obtain ⟨g1, g2, g3, g4, g5, g6, g7⟩ := tCg_f hk hc
  have hlt := tHas_lt g1
  have hbl := tBl_le (zth A) (mv / 10 / 3)
  have hb0 := tBl_pos g1
  have ht := c.1.1
  have t0 := c.2.2.2.2.2.1.1.1
  have t1 := c.2.2.2.2.2.1.1.2
  have fT : ∀ x j, 6 ≤ x → x ≤ 6 + 4 → ¬ sW x j := fun x j p q => by unfold sW; omega
  unfold f_133
  unfold zMv
  by_cases h2 : tBl (zth A) (mv / 10 / 3) = 1
  · have hw : tDw (zth A) (zn A) E.1 E.2.1 mv = 1 := by unfold tDw; rw [if_pos h2]
    have hT : tDt (zth A) (zn A) E.1 E.2.1 mv = zth A := by unfold tDt; rw [hw]; rfl
    have hM : tDm (zth A) (zn A) E.1 E.2.1 mv = zn A := by unfold tDm; rw [hw]; rfl
    rw [hw, hT, hM, if_neg (show ¬ (1 : Nat) = 0 by omega), if_neg (show ¬ (1 : Nat) = 0 by omega), if_neg (show ¬ (1 : Nat) = 0 by omega), if_pos (show (1 : Nat) = 1 from rfl), if_pos (show (1 : Nat) = 1 from rfl)]
    have c1 : Cl (zFell m (yN 1) (m.1 5 1) (yN (mv / 10 / 3)) 0) (A.1, A.2.1, zmv A, 1, m.1 5 1, yN (mv / 10 / 3), 0) H K C D E F := c.fA oH zFell_g (fun x j q => by have : x = 5 := q; omega) c.1.fell
    obtain ⟨m2, e2, c2, G2⟩ := s133e (κ := κ) (fun _ => rfl) c1 oH oE1 oE4 hmv
    refine ⟨m2, ?_, ?_, (zFell_g.wk (S3 := sMW) (fun x j q => Or.inl (by have : x = 5 := q; omega))).tr G2 (fun _ _ => orSelf)⟩
    · simp (disch := first | assumption | omega) only [yr_0_2, ys5_0, yN_add, yN_addl, yN_ladd, yN_mul, yN_mull, yN_lmul, yN_sub, yN_subl, yN_lsub, yN_lt, yN_ltl, yN_llt, yN_le, yN_lel, yN_lle, yN_eq, yN_eql, yN_leq, yN_eqm, yN_lem, yN_ltm, yN_mlt, yN_mle, yN_addm, yN_madd, yp_div, yp_rem, yp_divN, yp_remN, yt_is ytw_6, s97 ytw_6 ht.1, h2, yBs, pG_t, pZ_0, pZ_1, pZ_B, if_pos, if_neg, ys_is ysw_5, s70]
      exact e2
    · rw [c.1.2.1] at c2; exact c2
  · have h22 : 2 ≤ tBl (zth A) (mv / 10 / 3) := by omega
    have hk1 := tDn_ok hk hc h22
    have hkl := tLn_ok hk hc h22
    obtain ⟨m1, e1, T1, F1⟩ := s93 (κ := κ) ytw_6 ht hk g1 (Or.inl g2)
    have f0 : ∀ j, ¬ sT 6 106 j := fun j => by unfold sT; omega
    obtain ⟨m2, e2, R2, F2⟩ := s3 (κ := κ) ytw_6 (by omega) hk1 T1 (by rw [F1.2 _ _ (f0 0), t0]) (by rw [F1.2 _ _ (f0 1), t1])
    have f1 : ∀ j, ¬ sW 106 j := fun j => by unfold sW; omega
    have T2 := T1.fr F2 fT
    have G2 : yG (sTW 6) m m2 := (F1.tr F2 (S3 := sTW 6) (fun _ _ q => q)).g (fun _ _ q => q)
    have sTWc : ∀ x j, sTW 6 x j → sCs x j ∨ (6 ≤ x ∧ x ≤ 10) := fun x j q => by unfold sTW sT sW at q; unfold sCs; omega
    have sTWm : ∀ x j, sTW 6 x j → sMW x j := fun x j q => by unfold sTW sT sW at q; unfold sMW sW; omega
    have c2 : Cl m2 (tDn (zth A) mv, zn A, A.2.2) H K C D E F := c.tow oH G2 sTWc T2
    cases hs1 : tSt (tDn (zth A) mv) (zn A) E.1 E.2.1 with
    | false =>
      have hw : tDw (zth A) (zn A) E.1 E.2.1 mv = 2 := by unfold tDw; rw [if_neg h2, if_pos hs1]
      have hT : tDt (zth A) (zn A) E.1 E.2.1 mv = tDn (zth A) mv := by unfold tDt; rw [hw]; rfl
      have hM : tDm (zth A) (zn A) E.1 E.2.1 mv = zn A := by unfold tDm; rw [hw]; rfl
      rw [hw, hT, hM, if_neg (by omega), if_neg (by omega), if_neg (by omega), if_neg (by omega), if_neg (by omega)]
      have c3 := c2.fA oH zFell_g (fun x j q => by have : x = 5 := q; omega) (c2.1.fell (v := 2) (w := m2.1 5 1) (l := m2.1 105 4) (b := m2.1 105 5))
      obtain ⟨m4, e4, c4, G4⟩ := s133e (κ := κ) (fun _ => rfl) c3 oH oE1 oE4 hmv
      refine ⟨m4, ?_, ?_, ((G2.wk (S3 := sMW) sTWm).tr (zFell_g.wk (S3 := sMW) (fun x j q => Or.inl (by have : x = 5 := q; omega))) (fun _ _ => orSelf)).tr G4 (fun _ _ => orSelf)⟩
      · rw [hs1, yB_f] at e2
        simp (disch := first | assumption | omega) only [yr_0_2, ys5_0, yN_add, yN_addl, yN_ladd, yN_mul, yN_mull, yN_lmul, yN_sub, yN_subl, yN_lsub, yN_lt, yN_ltl, yN_llt, yN_le, yN_lel, yN_lle, yN_eq, yN_eql, yN_leq, yN_eqm, yN_lem, yN_ltm, yN_mlt, yN_mle, yN_addm, yN_madd, yp_div, yp_rem, yp_divN, yp_remN, yt_is ytw_6, s97 ytw_6 ht.1, yBs, pG_t, pZ_0, pZ_1, pZ_B, if_pos, if_neg, s103 ytw_6 ht hn, e1, yr_0_6, yis_105, e2, if_true, yi_105_4, yi_105_5, ys_is ysw_5, s70]
        exact e4
      · obtain ⟨r1, r2, -⟩ := R2
        rw [Nat.sub_zero] at r1 r2
        rw [c2.1.2.1, r1, r2] at c4; exact c4
    | true =>
      obtain ⟨m3, e3, T3, F3⟩ := s92 (κ := κ) (v := zth A (mv / 10)) ytw_6 T2 hn g4 (by have : tNn (zth A) (zn A) ≤ zn A + 1 := by (unfold tNn; split <;> omega)
                                                                                        omega)
      rw [tNn_max hk hc] at T3
      have T3' : Tow m3 6 (tLn (zth A) (zn A) mv) (tNn (zth A) (zn A)) := T3
      obtain ⟨m4, e4, R4, F4⟩ := s3 (κ := κ) ytw_6 (by omega) hkl T3' (by rw [F3.2 _ _ (f0 0), F2.2 _ _ (f1 0), F1.2 _ _ (f0 0), t0]) (by rw [F3.2 _ _ (f0 1), F2.2 _ _ (f1 1), F1.2 _ _ (f0 1), t1])
      have T4 := T3'.fr F4 fT
      have G4 : yG (sTW 6) m m4 := (G2.tr (F3.g (S3 := sTW 6) (fun _ _ q => Or.inl q)) (fun _ _ => orSelf)).tr (F4.g (S3 := sTW 6) (fun _ _ q => Or.inr q)) (fun _ _ => orSelf)
      have c4 : Cl m4 (tLn (zth A) (zn A) mv, tNn (zth A) (zn A), A.2.2) H K C D E F := c.tow oH G4 sTWc T4
      rw [hs1, yB_t] at e2
      cases hs2 : tSt (tLn (zth A) (zn A) mv) (tNn (zth A) (zn A)) E.1 E.2.1 with
      | false =>
        have hw : tDw (zth A) (zn A) E.1 E.2.1 mv = 3 := by unfold tDw; rw [if_neg h2, if_neg (by rw [hs1]; decide), if_pos hs2]
        have hT : tDt (zth A) (zn A) E.1 E.2.1 mv = tLn (zth A) (zn A) mv := by unfold tDt; rw [hw]; rfl
        have hM : tDm (zth A) (zn A) E.1 E.2.1 mv = tNn (zth A) (zn A) := by unfold tDm; rw [hw]; rfl
        rw [hw, hT, hM, if_neg (by omega), if_neg (by omega), if_neg (by omega), if_neg (by omega), if_neg (by omega)]
        have c5 := c4.fA oH zFell_g (fun x j q => by have : x = 5 := q; omega) (c4.1.fell (v := 3) (w := m4.1 5 1) (l := m4.1 105 4) (b := m4.1 105 5))
        obtain ⟨m6, e6, c6, G6⟩ := s133e (κ := κ) (fun _ => rfl) c5 oH oE1 oE4 hmv
        refine ⟨m6, ?_, ?_, ((G4.wk (S3 := sMW) sTWm).tr (zFell_g.wk (S3 := sMW) (fun x j q => Or.inl (by have : x = 5 := q; omega))) (fun _ _ => orSelf)).tr G6 (fun _ _ => orSelf)⟩
        · rw [hs2, yB_f] at e4
          simp (disch := first | assumption | omega) only [yr_0_2, ys5_0, yN_add, yN_addl, yN_ladd, yN_mul, yN_mull, yN_lmul, yN_sub, yN_subl, yN_lsub, yN_lt, yN_ltl, yN_llt, yN_le, yN_lel, yN_lle, yN_eq, yN_eql, yN_leq, yN_eqm, yN_lem, yN_ltm, yN_mlt, yN_mle, yN_addm, yN_madd, yp_div, yp_rem, yp_divN, yp_remN, yt_is ytw_6, s97 ytw_6 ht.1, yBs, pG_t, pZ_0, pZ_1, pZ_B, if_pos, if_neg, s103 ytw_6 ht hn, e1, yr_0_6, yis_105, e2, y10, if_false, if_true, e3, e4, yi_105_4, yi_105_5, ys_is ysw_5, s70]
          exact e6
        · obtain ⟨r1, r2, -⟩ := R4
          rw [Nat.sub_zero] at r1 r2
          rw [c4.1.2.1, r1, r2] at c6; exact c6
      | true =>
        have hw : tDw (zth A) (zn A) E.1 E.2.1 mv = 0 := by unfold tDw; rw [if_neg h2, if_neg (by rw [hs1]; decide), if_neg (by rw [hs2]; decide)]
        have hT : tDt (zth A) (zn A) E.1 E.2.1 mv = tLn (zth A) (zn A) mv := (tDt_0 hw).1
        have hM : tDm (zth A) (zn A) E.1 E.2.1 mv = tNn (zth A) (zn A) := (tDt_0 hw).2
        rw [hw, hT, hM, if_pos rfl, if_pos rfl, if_pos rfl]
        obtain ⟨m6, e6, c6, G6⟩ := s133e (κ := κ) (fun _ => rfl) c4 oH oE1 oE4 hmv
        refine ⟨m6, ?_, ?_, (G4.wk (S3 := sMW) sTWm).tr G6 (fun _ _ => orSelf)⟩
        · rw [hs2, yB_t] at e4
          simp (disch := first | assumption | omega) only [yr_0_2, ys5_0, yN_add, yN_addl, yN_ladd, yN_mul, yN_mull, yN_lmul, yN_sub, yN_subl, yN_lsub, yN_lt, yN_ltl, yN_llt, yN_le, yN_lel, yN_lle, yN_eq, yN_eql, yN_leq, yN_eqm, yN_lem, yN_ltm, yN_mlt, yN_mle, yN_addm, yN_madd, yp_div, yp_rem, yp_divN, yp_remN, yt_is ytw_6, s97 ytw_6 ht.1, yBs, pG_t, pZ_0, pZ_1, pZ_B, if_pos, if_neg, s103 ytw_6 ht hn, e1, yr_0_6, yis_105, e2, y10, if_false, e3, e4]
          exact e6
        · have q : (tLn (zth A) (zn A) mv, tNn (zth A) (zn A), (zmv A + 1) % E.2.2.1, 0, zwo A, zwl A, zwb A) = ((tLn (zth A) (zn A) mv, tNn (zth A) (zn A), (zmv A + 1) % E.2.2.1, A.2.2.2) : zT) := by rw [← hh]
          rw [q]; exact c6
end MW
