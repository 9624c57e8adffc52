/-! ===== calls: plane, bump, forget, felt, known, count ===== -/
section CC
variable {κ : yK} {m : yM} {A : zT} {H : zH} {K : zK} {C : zC} {D D' : List Int64} {E : zE} {F : zF}
def sT6 (x _j : Nat) : Prop := 6 ≤ x ∧ x ≤ 10
theorem sT6_C {x j : Nat} (h : sT6 x j) : sC x j := by unfold sT6 at h; unfold sC; omega
/-- the tower that is, changed; all else stays -/
theorem Cl.tow (c : Cl m A H K C D E F) (o : H.1 ≤ 15) {m' : yM} {S : Nat → Nat → Prop} (g : yG S m m') (hs : ∀ x j, S x j → sCs x j ∨ (6 ≤ x ∧ x ≤ 10)) {th : Nat → Int32} {n : Nat} (ht : Tow m' 6 th n) : Cl m' (th, n, A.2.2) H K C D E F := by
  refine c.fA o g (fun x j q => (hs x j q).elim Or.inl (fun r => Or.inr (by omega))) ⟨ht, ?_, ?_, ?_, fun q => ?_⟩
  · rw [(g 5 1 (fun q => by have := hs _ _ q; unfold sCs at this; omega)).1]; exact c.1.2.1
  · rw [(g 5 2 (fun q => by have := hs _ _ q; unfold sCs at this; omega)).1]; exact c.1.2.2.1
  · rw [(g 5 3 (fun q => by have := hs _ _ q; unfold sCs at this; omega)).1]; exact c.1.2.2.2.1
  · rw [(g 5 4 (fun q => by have := hs _ _ q; unfold sCs at this; omega)).1, (g 5 5 (fun q => by have := hs _ _ q; unfold sCs at this; omega)).1]; exact c.1.2.2.2.2 q
def sN48 (x j : Nat) : Prop := x = 180 ∧ j < 49
theorem Rf.tor (c : Rf m A H K C D E F) {m' : yM} {S : Nat → Nat → Prop} (g : yG S m m') (hs : ∀ x j, S x j → sRs x j ∨ (x = 180 ∧ j < 49)) {th : Nat → Int32} {n : Nat} (ht : Tor m' 180 th n) : Rf m' (th, n, A.2.2) H K C D E F := by
  have k : ∀ j, 49 ≤ j → m'.1 180 j = m.1 180 j := fun j hj => (g 180 j (fun q => by have := hs _ _ q; unfold sRs at this; omega)).1
  obtain ⟨h1, h2, h3, h4, h5, h6⟩ := c.1
  refine c.fA g (fun x j q => (hs x j q).elim Or.inl (fun r => Or.inr r.1)) ⟨fun b hb => by rw [Nat.zero_add]; exact ht.1 b hb, ht.2, ?_, ?_, ?_, fun q => ?_⟩
  · rw [k _ (by omega)]; exact h3
  · rw [k _ (by omega)]; exact h4
  · rw [k _ (by omega)]; exact h5
  · rw [k _ (by omega), k _ (by omega)]; exact h6 q
end CC
theorem z_plane (p q : Int32) : zCall (f_114 0 p q) (f_192 178 p q) := by
  intro κ A H K C D E F o
  by_cases h : tHasI (zth A) p = true ∧ (0 ≤ q ∧ q ≤ 9)
  · obtain ⟨h1, h2⟩ := h
    have hp : ¬ p < 0 := fun r => by unfold tHasI at h1; simp [r] at h1
    obtain ⟨b, hb, rfl⟩ := yN_of hp
    have h3 : tHas (zth A) b = true := by unfold tHasI at h1; simpa [hp, yI_cl hb] using h1
    have h48 := tHas_lt h3
    have hn := tHas_n o.1.1.1 h3
    have h16 := o.1.1.1.1
    refine ⟨zth A b, (upd (zth A) b q, A.2), H, K, C, D, E, F, ⟨⟨⟨tOk_put' o.1.1.1 hn h2, fun j hj => ?_, o.1.1.2.2⟩, o.1.2⟩, o.2⟩, fun m c => ?_, fun m c => ?_⟩
    · show upd (zth A) b q j = 0
      rw [upd_ne _ _ (by omega)]; exact o.1.1.2.1 j hj
    · obtain ⟨m1, e1, T1, F1⟩ := s92 (κ := κ) (v := q) ytw_6 c.1.1 h16 h48 (by omega)
      rw [show max (zn A) (b / 3 + 1) = zn A by omega] at T1
      refine ⟨m1, ?_, c.tow o.2.1.1 (F1.g (S3 := sT6) (fun x j r => r)) (fun x j r => Or.inr r) T1, F1.g (fun x j r => by unfold sT at r; unfold sC; omega)⟩
      unfold f_114
      have nq : ¬ q < 0 := fun r => by have := h2.1; rw [yLe_iff] at this; rw [yLt_iff] at r; omega
      simp (disch := first | assumption | omega) only [yr_0_2, ys5_0, yt_is ytw_6, s90 ytw_6 c.1.1.1, yBs, pG_t, pZ_0, pZ_1, pZ_B, h3, yB_t, y10, if_false, if_neg nq, if_pos h2.2, yt_0 ytw_6, yt_a1 ytw_6, c.1.1.1, e1]
    · obtain ⟨c0, g0⟩ := c.th 0
      have T := c0.1.tor
      refine ⟨yW (yW m 178 0 0) 180 b q, ?_, c0.tor (S := sN48) (yG.w _ ⟨rfl, by omega⟩) (fun x j r => Or.inr r) (T.upd h48), g0.tr (yG.w (S := sR) _ (by unfold sR; omega)) (fun _ _ => orSelf)⟩
      unfold f_192
      simp (disch := first | assumption | omega) only [yp_178_0, yr_178_3, s169 yAr_180 T o.1.1.1.2.1, yBs, pG_t, pZ_0, pZ_1, pZ_B, h3, yB_t, y10, if_false]
      rw [s162l _ 0 9 0 9 rfl rfl, decide_eq_true h2]
      simp (disch := first | assumption | omega) only [yBs, pG_t, pZ_0, pZ_1, pZ_B, yB_t, y10, if_false, yr_178_3, yr_a yAr_180, yr_s yAr_180, T.1 b h48]
  · refine ⟨-1, A, H, K, C, D, E, F, o, zCx.same fun m c => ?_, zCm.same fun m c => ?_⟩
    · unfold f_114
      simp (disch := first | assumption | omega) only [yr_0_2, ys5_0, yt_is ytw_6, s90I ytw_6 c.1.1.1, yBs, pG_t, pZ_0, pZ_1, pZ_B]
      cases h1 : tHasI (zth A) p with
      | false => simp only [yBs, pZ_0, pZ_1, pZ_B, if_true, if_false, y10, y01, yB_t, yB_f]
      | true =>
        simp only [yBs, pZ_0, pZ_1, pZ_B, if_true, if_false, y10, y01, yB_t, yB_f]
        by_cases h2 : q < 0
        · rw [if_pos h2]
        · rw [if_neg h2, if_neg (fun r => h ⟨h1, yLe_of_lt h2, r⟩)]
    · obtain ⟨c0, g0⟩ := c.th 0
      have T := c0.1.tor
      unfold f_192
      simp (disch := first | assumption | omega) only [yp_178_0, yr_178_3, s169I yAr_180 T o.1.1.1.2.1, yBs, pG_t, pZ_0, pZ_1, pZ_B]
      cases h1 : tHasI (zth A) p with
      | false => simp only [yBs, pZ_0, pZ_1, pZ_B, if_true, if_false, y10, y01, yB_t, yB_f]
      | true =>
        simp only [yBs, pZ_0, pZ_1, pZ_B, if_true, if_false, y10, y01, yB_t, yB_f]
        rw [s162l _ 0 9 0 9 rfl rfl, decide_eq_false (fun r => h ⟨h1, r⟩)]
        simp only [yBs, pZ_0, pZ_1, pZ_B, if_true, if_false, y10, y01, yB_t, yB_f]
/-! bump() -/
def bmp (r : Int32) : Int32 := (r * 1103515245) + 12345
def bmv (r : Int32) : Int32 := let x : Int32 := ((r.toUInt32 >>> ((16 : Int32).toUInt32 &&& Int32.toUInt32 31)).toInt32); x - x / 19 * 19
theorem bmv_rem (r : Int32) : pRem ((r.toUInt32 >>> ((16 : Int32).toUInt32 &&& Int32.toUInt32 31)).toInt32) 19 = some (bmv r) := by unfold pRem bmv; rw [if_neg (by decide)]
theorem s120_4 {κ : yK} {m : yM} {fu : Nat} {p : Int32} : f_120_4 (fu + 3) 0 p (yN 0) (yH κ m) = some (yH κ (yW (yW m 106 0 (bmv (bmp p) - 9)) 106 1 (bmv (bmp (bmp p)) - 9))) := by
  unfold f_120_4 f_120_4 f_120_4
  have h1 : ∀ r : Int32, r * 1103515245 + 12345 = bmp r := fun r => rfl
  simp (disch := first | assumption | omega) only [h1, bmv_rem, yN_add, yN_addl, yN_ladd, yN_mul, yN_mull, yN_lmul, yN_sub, yN_subl, yN_lsub, yN_lt, yN_ltl, yN_llt, yN_le, yN_lel, yN_lle, yN_eq, yN_eql, yN_leq, yN_eqm, yN_lem, yN_ltm, yN_mlt, yN_mle, yN_addm, yN_madd, yp_div, yp_rem, yp_divN, yp_remN, if_pos, if_neg, yr_0_6, yr_105_0, yst_106, yBs]
def bE (E : zE) (p : Int32) : zE := (bmv (bmp p) - 9, bmv (bmp (bmp p)) - 9, E.2.2)
section BU
variable {κ : yK} {m : yM} {A : zT} {H : zH} {K : zK} {C : zC} {D D' : List Int64} {E : zE} {F : zF}
theorem Ok.tilt (o : Ok A H K C D E F) (u v : Int32) : Ok A H K C D (u, v, E.2.2) F := ⟨o.1, o.2.1, o.2.2.1, o.2.2.2.1, o.2.2.2.2.1, o.2.2.2.2.2.1, o.2.2.2.2.2.2⟩
theorem z_bump_o {p : Int32} (o : Ok A H K C D E F) : Ok A H K C D (bE E p) F := by unfold bE; exact o.tilt _ _
theorem cEn.tilt {u v : Int32} (c : cEn m E) : cEn (yW (yW m 106 0 u) 106 1 v) (u, v, E.2.2) := by
  have g : yG (fun x _ => x = 106) m (yW (yW m 106 0 u) 106 1 v) := (yG.w (S := fun x _ => x = 106) m rfl).tr (yG.w (S := fun x _ => x = 106) _ rfl) (fun _ _ => orSelf)
  obtain ⟨⟨e1, e2⟩, e3, e4, e5, e6, e7⟩ := c
  refine ⟨⟨?_, ?_⟩, ?_, ?_, ?_, ?_, ?_⟩
  · rw [yW_get, if_neg (by omega), yW_self, upd_eq]
  · rw [yW_self, upd_eq]
  · rw [yW_row (by omega), yW_row (by omega), yW_row (by omega), yW_row (by omega)]; exact e3
  · exact ⟨by rw [yW_row (by omega), yW_row (by omega)]; exact e4.1, fun j hj => by rw [yW_row (by omega), yW_row (by omega)]; exact e4.2 j hj⟩
  · exact e5.g g (fun x j p1 p2 r => by have : x = 106 := r; omega)
  · intro j hj; rw [yW_row (by omega), yW_row (by omega)]; exact e6 j hj
  · intro j hj; rw [yW_row (by omega), yW_row (by omega)]; exact e7 j hj
theorem rEn.tilt {u v : Int32} (c : rEn m E) : rEn (yW (yW m 178 7 u) 178 8 v) (u, v, E.2.2) := by
  obtain ⟨⟨e1, e2⟩, e3, e4⟩ := c
  refine ⟨⟨?_, ?_⟩, ?_, ?_⟩
  · rw [yW_get, if_neg (by omega), yW_self, upd_eq]
  · rw [yW_self, upd_eq]
  · refine ⟨by rw [yW_get, if_neg (by omega), yW_get, if_neg (by omega)]; exact e3.1, fun k hk => by rw [yW_row (by omega), yW_row (by omega)]; exact e3.2 k hk⟩
  · refine ⟨by rw [yW_get, if_neg (by omega), yW_get, if_neg (by omega)]; exact e4.1, fun k hk => by rw [yW_row (by omega), yW_row (by omega)]; exact e4.2 k hk⟩
theorem s120 {p : Int32} {b : Bool} {m' : yM} (e : f_3 105 6 (yH κ (yW (yW m 106 0 (bE E p).1) 106 1 (bE E p).2.1)) = some (yB b, yH κ m')) : f_120 0 p (yH κ m) = some (yB b, yH κ m') := by
  unfold f_120
  rw [show (100000 : Nat) = 99997 + 3 from rfl, show (0 : Int32) = yN 0 from rfl, s120_4]
  unfold bE at e
  simp (disch := first | assumption | omega) only [yBs, yr_0_6, yBs, pG_t, pZ_0, pZ_1, pZ_B, yr_0_2, ys5_0, yis_105, e]
  cases b <;> rfl
theorem s196 {p : Int32} {b : Bool} {m' : yM} (e : f_188 178 180 (yH κ (yW (yW (yW m 178 0 0) 178 7 (bE E p).1) 178 8 (bE E p).2.1)) = some (yB b, yH κ m')) : f_196 178 p (yH κ m) = some (yB b, yH κ m') := by
  unfold f_196
  unfold bE at e
  have h1 : ∀ r : Int32, r * 1103515245 + 12345 = bmp r := fun r => rfl
  simp (disch := first | assumption | omega) only [yp_178_0, h1, bmv_rem, yBs, yp_178_7, yp_178_8, yr_178_3, yis_178, yBs, pG_t, pZ_0, pZ_1, pZ_B, e, s163]
theorem z_bump_x {p : Int32} (o : Ok A H K C D E F) : zCx (f_120 0 p) κ (yB (tSt (zth A) (zn A) (bE E p).1 (bE E p).2.1)) A H K C D E F A H K C D (bE E p) F := fun m c => by
  have g : yG (fun x _ => x = 106) m (yW (yW m 106 0 (bE E p).1) 106 1 (bE E p).2.1) := (yG.w (S := fun x _ => x = 106) m rfl).tr (yG.w (S := fun x _ => x = 106) _ rfl) (fun _ _ => orSelf)
  have c1 : Cl (yW (yW m 106 0 (bE E p).1) 106 1 (bE E p).2.1) A H K C D (bE E p) F := c.fE o.2.1.1 g (fun x j r => Or.inr (Or.inr (Or.inl r))) (by unfold bE; exact c.2.2.2.2.2.1.tilt)
  obtain ⟨m2, f2, r2, c2, g2⟩ := w3 (κ := κ) c1 (z_bump_o o)
  exact ⟨m2, s120 f2, c2, (g.wk (S3 := sC) (fun x j r => by have : x = 106 := r; unfold sC; omega)).tr g2 (fun _ _ => orSelf)⟩
theorem z_bump_m {p : Int32} (o : Ok A H K C D E F) : zCm (f_196 178 p) κ (yB (tSt (zth A) (zn A) (bE E p).1 (bE E p).2.1)) A H K C D E F A H K C D (bE E p) F := fun m c => by
  obtain ⟨c0, g0⟩ := c.th 0
  have g : yG (fun x j => x = 178 ∧ (j = 7 ∨ j = 8)) (yW m 178 0 0) (yW (yW (yW m 178 0 0) 178 7 (bE E p).1) 178 8 (bE E p).2.1) := (yG.w _ ⟨rfl, Or.inl rfl⟩).tr (yG.w (S := fun x j => x = 178 ∧ (j = 7 ∨ j = 8)) _ ⟨rfl, Or.inr rfl⟩) (fun _ _ => orSelf)
  have c1 : Rf (yW (yW (yW m 178 0 0) 178 7 (bE E p).1) 178 8 (bE E p).2.1) A H K C D (bE E p) F := c0.fE g (fun x j r => Or.inr (Or.inl ⟨r.1, by omega⟩)) (by unfold bE; exact c0.2.2.2.2.2.1.tilt)
  obtain ⟨m2, f2, r2, c2, g2⟩ := m188 (κ := κ) c1 (z_bump_o o)
  exact ⟨m2, s196 f2, c2, (g0.tr (g.wk (S3 := sR) (fun x j r => by have : x = 178 := r.1; unfold sR; omega)) (fun _ _ => orSelf)).tr g2 (fun _ _ => orSelf)⟩
end BU
theorem z_bump (p : Int32) : zCall (f_120 0 p) (f_196 178 p) := fun _ A H K C D E F o => ⟨_, A, H, K, C, D, bE E p, F, z_bump_o o, z_bump_x o, z_bump_m o⟩
/-! forget() -/
def zF0 : zF := (0, fun _ => 0, fun _ => false, fun _ => 0, fun _ => 9)
theorem okF0 : okF zF0 := ⟨by decide, fun j hj => absurd hj (Nat.not_lt_zero j), fun b _ => ⟨(by show (0 : Nat) ≤ 9; decide), (by show (9 : Nat) ≤ 9; decide)⟩⟩
section FG
variable {κ : yK} {m : yM} {A : zT} {H : zH} {K : zK} {C : zC} {D D' : List Int64} {E : zE} {F : zF}
def sF5 (x _j : Nat) : Prop := 135 ≤ x ∧ x ≤ 139
/-- Touches.clear() -/
theorem w79 (c : Cl m A H K C D E F) (o : H.1 ≤ 15) : ∃ m', f_79 135 (yH κ m) = some (yH κ m') ∧ Cl m' A H K C D E zF0 ∧ yG sF5 m m' := by
  have g : yG sF5 m (yR (yR (yW m 135 10 0) 138 (fun j => if j < 48 then 0 else m.1 138 j)) 139 (fun j => if j < 48 then 9 else m.1 139 j)) :=
    ((yG.w (S := sF5) m (by unfold sF5; omega)).tr (yG.r (S := sF5) _ (fun j _ => by unfold sF5; omega)) (fun _ _ => orSelf)).tr (yG.r (S := sF5) _ (fun j _ => by unfold sF5; omega)) (fun _ _ => orSelf)
  refine ⟨_, ?_, ?_, g⟩
  · unfold f_79
    simp (disch := first | assumption | omega) only [yp_135_10, yr_135_2, yr_135_3, yBs, s266 (show ySh[138]? = some (.inl (0, 48)) from rfl) (show 48 ≤ 65536 by omega), s266 (show ySh[139]? = some (.inl (0, 48)) from rfl) (show 48 ≤ 65536 by omega)]
    rfl
  · refine c.fF o g (fun x j q => Or.inr q) ⟨?_, fun j hj => absurd hj (Nat.not_lt_zero j), fun b hb => ⟨?_, ?_⟩⟩
    · rw [yR_ne _ _ (by omega), yR_ne _ _ (by omega), yW_self, upd_eq]; rfl
    · rw [yR_ne _ _ (by omega), yR_eq, if_pos hb]; rfl
    · rw [yR_eq, if_pos hb]; rfl
theorem s245_12 {w : Int32} : ∀ (d k fu : Nat) (m : yM), k + d = 48 → d < fu → f_245_12 fu 178 w (yN k) (yH κ m) = some (yH κ (yR (yR m 207 (fun j => if k ≤ j ∧ j < 48 then 0 else m.1 207 j)) 208 (fun j => if k ≤ j ∧ j < 48 then 9 else m.1 208 j))) := by
  intro d
  induction d with
  | zero =>
    intro k fu m hk hf
    obtain ⟨fu, rfl⟩ : ∃ k, fu = k + 1 := ⟨fu - 1, by omega⟩
    unfold f_245_12
    simp (disch := first | assumption | omega) only [yN_add, yN_addl, yN_ladd, yN_mul, yN_mull, yN_lmul, yN_sub, yN_subl, yN_lsub, yN_lt, yN_ltl, yN_llt, yN_le, yN_lel, yN_lle, yN_eq, yN_eql, yN_leq, yN_eqm, yN_lem, yN_ltm, yN_mlt, yN_mle, yN_addm, yN_madd, yp_div, yp_rem, yp_divN, yp_remN, if_pos, if_neg]
    congr 2
    refine yM_ext (fun x j => ?_) (fun x j => rfl)
    by_cases h8 : x = 208
    · subst h8; rw [yR_eq]
    · rw [yR_ne _ _ h8]
      by_cases h7 : x = 207
      · subst h7; rw [yR_eq]
      · rw [yR_ne _ _ h7]
  | succ d ih =>
    intro k fu m hk hf
    obtain ⟨fu, rfl⟩ : ∃ k, fu = k + 1 := ⟨fu - 1, by omega⟩
    unfold f_245_12
    simp (disch := first | assumption | omega) only [yN_add, yN_addl, yN_ladd, yN_mul, yN_mull, yN_lmul, yN_sub, yN_subl, yN_lsub, yN_lt, yN_ltl, yN_llt, yN_le, yN_lel, yN_lle, yN_eq, yN_eql, yN_leq, yN_eqm, yN_lem, yN_ltm, yN_mlt, yN_mle, yN_addm, yN_madd, yp_div, yp_rem, yp_divN, yp_remN, if_pos, if_neg, yr_178_47, yr_178_48, yst_207, yst_208, yBs]
    rw [ih (k + 1) fu _ (by omega) (by omega)]
    congr 2
    refine yM_ext (fun x j => ?_) (fun x j => rfl)
    by_cases h8 : x = 208
    · subst h8
      rw [yR_eq, yR_eq, yW_get, yW_get]
      by_cases hj : j = k
      · subst hj; rw [if_neg (by omega), if_pos ⟨rfl, rfl⟩, if_pos (by omega)]
      · by_cases h2 : k + 1 ≤ j ∧ j < 48
        · rw [if_pos h2, if_pos (by omega)]
        · rw [if_neg h2, if_neg (by omega), if_neg (by omega), if_neg (by omega)]
    · rw [yR_ne _ _ h8, yR_ne _ _ h8]
      by_cases h7 : x = 207
      · subst h7
        rw [yR_eq, yR_eq, yW_get, yW_get]
        by_cases hj : j = k
        · subst hj; rw [if_neg (by omega), if_neg (by omega), if_pos ⟨rfl, rfl⟩, if_pos (by omega)]
        · by_cases h2 : k + 1 ≤ j ∧ j < 48
          · rw [if_pos h2, if_pos (by omega)]
          · rw [if_neg h2, if_neg (by omega), if_neg (by omega), if_neg (by omega)]
      · rw [yR_ne _ _ h7, yR_ne _ _ h7, yW_row h8, yW_row h7]
def sF7 (x j : Nat) : Prop := (x = 178 ∧ j = 44) ∨ (205 ≤ x ∧ x ≤ 208)
/-- forgets() -/
theorem m245 (c : Rf m A H K C D E F) : ∃ m', f_245 178 (yH κ m) = some (yN F.1, yH κ m') ∧ Rf m' A H K C D E zF0 ∧ yG sF7 m m' := by
  have g : yG sF7 m (yR (yR (yW m 178 44 0) 207 (fun j => if 0 ≤ j ∧ j < 48 then 0 else m.1 207 j)) 208 (fun j => if 0 ≤ j ∧ j < 48 then 9 else m.1 208 j)) :=
    ((yG.w (S := sF7) m (by unfold sF7; omega)).tr (yG.r (S := sF7) _ (fun j _ => by unfold sF7; omega)) (fun _ _ => orSelf)).tr (yG.r (S := sF7) _ (fun j _ => by unfold sF7; omega)) (fun _ _ => orSelf)
  refine ⟨_, ?_, ?_, g⟩
  · unfold f_245
    rw [show (0 : Int32) = yN 0 from rfl]
    simp (disch := first | assumption | omega) only [yi_178_44, yp_178_44, yBs, s245_12 48 0, c.2.2.2.2.2.2.1]
    rfl
  · refine c.fF g (fun x j q => Or.inr q) ⟨?_, fun j hj => absurd hj (Nat.not_lt_zero j), fun b hb => ⟨?_, ?_⟩⟩
    · rw [yR_ne _ _ (by omega), yR_ne _ _ (by omega), yW_self, upd_eq]; rfl
    · rw [yR_ne _ _ (by omega), yR_eq, if_pos ⟨Nat.zero_le _, hb⟩]; rfl
    · rw [yR_eq, if_pos ⟨Nat.zero_le _, hb⟩]; rfl
end FG
theorem z_forget : zCall (f_150 0) (f_248 178) := by
  intro κ A H K C D E F o
  refine ⟨yN F.1, A, H, K, C, D, E, zF0, ⟨o.1, o.2.1, o.2.2.1, o.2.2.2.1, o.2.2.2.2.1, o.2.2.2.2.2.1, okF0⟩, fun m c => ?_, fun m c => ?_⟩
  · obtain ⟨m1, e1, c1, g1⟩ := w79 (κ := κ) c o.2.1.1
    refine ⟨m1, ?_, c1, g1.wk (fun x j q => by unfold sF5 at q; unfold sC; omega)⟩
    unfold f_150
    simp (disch := first | assumption | omega) only [yr_0_10, yi_135_10, yis_135, yBs, pG_t, pZ_0, pZ_1, pZ_B, e1, c.2.2.2.2.2.2.1]
  · obtain ⟨c0, g0⟩ := c.th 0
    obtain ⟨m1, e1, c1, g1⟩ := m245 (κ := κ) c0
    refine ⟨m1, ?_, c1, g0.tr g1 (fun x j q => q.elim id (fun r => by unfold sF7 at r; unfold sR; omega))⟩
    unfold f_248
    simp (disch := first | assumption | omega) only [yp_178_0, yis_178, yBs, pG_t, pZ_0, pZ_1, pZ_B, e1]
