/-! ===== move(): the reference ===== -/
theorem wB_b (th : Nat → Int32) (n : Nat) (t0 t1 : Int32) : ∀ d, d ≤ n → (wB th n t0 t1 d).1 = -1 ∨ ∃ k, n - d ≤ k ∧ k < n ∧ (wB th n t0 t1 d).1 = yN k ∧ wM th n t0 t1 (n - 1 - k) = (wB th n t0 t1 d).2.1 := by
  intro d
  induction d with
  | zero => intro _; left; rfl
  | succ d ih =>
    intro hd
    simp only [wB]
    by_cases h : wM th n t0 t1 d < 0
    · rw [if_pos h, if_pos h]
      exact Or.inr ⟨n - 1 - d, by omega, by omega, rfl, by rw [show n - 1 - (n - 1 - d) = d by omega]⟩
    · rw [if_neg h, if_neg h]
      rcases ih (by omega) with q | ⟨k, q1, q2, q3, q4⟩
      · exact Or.inl q
      · exact Or.inr ⟨k, by omega, q2, q3, q4⟩
/-- a row shifted down by 54, up to k -/
def shD (f : Nat → Int32) (k : Nat) : Nat → Int32 := fun j => if j < k then f (j + 54) else f j
theorem shD_step {f : Nat → Int32} {k : Nat} : upd (shD f k) k (shD f k (k + 54)) = shD f (k + 1) := by
  funext j
  unfold upd
  by_cases h : j = k
  · subst h
    unfold shD
    rw [if_pos rfl, if_neg (by omega), if_pos (by omega)]
  · rw [if_neg h]
    unfold shD
    by_cases h2 : j < k
    · rw [if_pos h2, if_pos (by omega)]
    · rw [if_neg h2, if_neg (by omega)]
theorem yR_yR (m : yM) (a : Nat) (f g : Nat → Int32) : yR (yR m a f) a g = yR m a g := by
  refine yM_ext (fun x j => ?_) (fun x j => rfl)
  by_cases h : x = a
  · subst h; rw [yR_eq, yR_eq]
  · rw [yR_ne _ _ h, yR_ne _ _ h, yR_ne _ _ h]
theorem s217_21 {κ : yK} {m : yM} {f : Nat → Int32} : ∀ (d k fu : Nat), k + d = 810 → d < fu → f_217_21 fu 178 (yN k) (yH κ (yR m 193 (shD f k))) = some (yH κ (yR m 193 (shD f 810))) := by
  intro d
  induction d with
  | zero =>
    intro k fu hk hf
    obtain ⟨fu, rfl⟩ : ∃ k, fu = k + 1 := ⟨fu - 1, by omega⟩
    obtain rfl : k = 810 := by omega
    unfold f_217_21
    simp (disch := first | assumption | omega) only [yN_add, yN_addl, yN_ladd, yN_mul, yN_mull, yN_lmul, yN_sub, yN_subl, yN_lsub, yN_lt, yN_ltl, yN_llt, yN_le, yN_lel, yN_lle, yN_eq, yN_eql, yN_leq, yN_eqm, yN_lem, yN_ltm, yN_mlt, yN_mle, yN_addm, yN_madd, yp_div, yp_rem, yp_divN, yp_remN, if_pos, if_neg]
  | succ d ih =>
    intro k fu hk hf
    obtain ⟨fu, rfl⟩ : ∃ k, fu = k + 1 := ⟨fu - 1, by omega⟩
    unfold f_217_21
    simp (disch := first | assumption | omega) only [yN_add, yN_addl, yN_ladd, yN_mul, yN_mull, yN_lmul, yN_sub, yN_subl, yN_lsub, yN_lt, yN_ltl, yN_llt, yN_le, yN_lel, yN_lle, yN_eq, yN_eql, yN_leq, yN_eqm, yN_lem, yN_ltm, yN_mlt, yN_mle, yN_addm, yN_madd, yp_div, yp_rem, yp_divN, yp_remN, if_pos, if_neg, yr_178_29, ya_193, yst_193, yBs, yR_eq]
    rw [show yW (yR m 193 (shD f k)) 193 k (shD f k (k + 54)) = yR m 193 (shD f (k + 1)) by
      unfold yW; rw [yR_eq, yR_yR, shD_step]]
    exact ih (k + 1) fu (by omega) (by omega)
def sH9 (x j : Nat) : Prop := (x = 178 ∧ j = 28) ∨ x = 193
section MX
variable {κ : yK} {m : yM} {A : zT} {H : zH} {K : zK} {C : zC} {D D' : List Int64} {E : zE} {F : zF} {s : zT}
/-- adds() -/
theorem m217 (c : rHi m H) (o : H.1 ≤ 15) (a : rSt m 193 (54 * H.1) A) : ∃ m', f_217 178 (yH κ m) = some (yH κ m') ∧ rHi m' (hPush H A) ∧ yG sH9 m m' := by
  obtain ⟨h1, h2⟩ := c
  have r1 : (yW m 178 28 (yN (H.1 + 1))).1 178 28 = yN (H.1 + 1) := by rw [yW_self, upd_eq]
  by_cases hl : H.1 < 15
  · have g : yG (fun x j => x = 178 ∧ j = 28) m (yW m 178 28 (yN (H.1 + 1))) := yG.w m ⟨rfl, rfl⟩
    refine ⟨yW m 178 28 (yN (H.1 + 1)), ?_, ⟨?_, fun j hj => ?_⟩, g.wk (fun x j q => Or.inl q)⟩
    · unfold f_217
      simp (disch := first | assumption | omega) only [yi_178_28, h1, yN_add, yN_addl, yN_ladd, yN_mul, yN_mull, yN_lmul, yN_sub, yN_subl, yN_lsub, yN_lt, yN_ltl, yN_llt, yN_le, yN_lel, yN_lle, yN_eq, yN_eql, yN_leq, yN_eqm, yN_lem, yN_ltm, yN_mlt, yN_mle, yN_addm, yN_madd, yp_div, yp_rem, yp_divN, yp_remN, yBs, yp_178_28, r1, if_pos, if_neg]
    · rw [r1]; show yN (H.1 + 1) = yN (min 15 (H.1 + 1)); rw [show min 15 (H.1 + 1) = H.1 + 1 by omega]
    · have hj' : j < min 15 (H.1 + 1) := hj
      show rSt _ 193 (54 * (min 15 (H.1 + 1) - 1 - j)) (if j = 0 then A else H.2 (j - 1))
      by_cases hj0 : j = 0
      · rw [if_pos hj0, show min 15 (H.1 + 1) - 1 - j = H.1 by omega]
        exact a.g g (fun i _ _ q => by have : 193 = 178 := q.1; omega)
      · rw [if_neg hj0, show min 15 (H.1 + 1) - 1 - j = H.1 - 1 - (j - 1) by omega]
        exact (h2 (j - 1) (by omega)).g g (fun i _ _ q => by have : 193 = 178 := q.1; omega)
  · have h15 : H.1 = 15 := by omega
    have e1 := s217_21 (κ := κ) (m := yW m 178 28 (yN (H.1 + 1))) (f := m.1 193) 810 0 100000 (by omega) (by omega)
    have e0 : yR (yW m 178 28 (yN (H.1 + 1))) 193 (shD (m.1 193) 0) = yW m 178 28 (yN (H.1 + 1)) := by
      rw [show shD (m.1 193) 0 = (yW m 178 28 (yN (H.1 + 1))).1 193 by rw [yW_row (by omega)]; funext j; unfold shD; rw [if_neg (by omega)], yR_id]
    rw [e0] at e1
    have r2 : (yR (yW m 178 28 (yN (H.1 + 1))) 193 (shD (m.1 193) 810)).1 178 28 = yN (H.1 + 1) := by rw [yR_ne _ _ (by omega), r1]
    refine ⟨yW (yR (yW m 178 28 (yN (H.1 + 1))) 193 (shD (m.1 193) 810)) 178 28 (yN (H.1 + 1 - 1)), ?_, ⟨?_, fun j hj => ?_⟩, ?_⟩
    · unfold f_217
      rw [show f_217_21 100000 178 0 = f_217_21 100000 178 (yN 0) from rfl]
      simp (disch := first | assumption | omega) only [yi_178_28, h1, yN_add, yN_addl, yN_ladd, yN_mul, yN_mull, yN_lmul, yN_sub, yN_subl, yN_lsub, yN_lt, yN_ltl, yN_llt, yN_le, yN_lel, yN_lle, yN_eq, yN_eql, yN_leq, yN_eqm, yN_lem, yN_ltm, yN_mlt, yN_mle, yN_addm, yN_madd, yp_div, yp_rem, yp_divN, yp_remN, yBs, yp_178_28, r1, if_pos, if_neg, e1, r2]
    · rw [yW_self, upd_eq]; show yN (H.1 + 1 - 1) = yN (min 15 (H.1 + 1)); rw [show H.1 + 1 - 1 = min 15 (H.1 + 1) by omega]
    · have hj' : j < min 15 (H.1 + 1) := hj
      show rSt _ 193 (54 * (min 15 (H.1 + 1) - 1 - j)) (if j = 0 then A else H.2 (j - 1))
      by_cases hj0 : j = 0
      · rw [if_pos hj0]
        refine a.cp (fun i hi => ?_)
        rw [yW_row (by omega), yR_eq]
        unfold shD
        rw [if_pos (by omega), show 54 * (min 15 (H.1 + 1) - 1 - j) + i + 54 = 54 * H.1 + i by omega]
      · rw [if_neg hj0]
        refine (h2 (j - 1) (by omega)).cp (fun i hi => ?_)
        rw [yW_row (by omega), yR_eq]
        unfold shD
        rw [if_pos (by omega), show 54 * (min 15 (H.1 + 1) - 1 - j) + i + 54 = 54 * (H.1 - 1 - (j - 1)) + i by omega]
    · intro x j q
      unfold sH9 at q
      refine ⟨?_, rfl⟩
      rw [yW_get, if_neg (by omega), yR_ne _ _ (by omega), yW_get, if_neg (by omega)]
/-- putsBy() -/
theorem m216 (c : Rf m A H K C D E F) (o : H.1 ≤ 15) : ∃ m', f_216 178 (yH κ m) = some (yH κ m') ∧ Rf m' A H K C D E F ∧ rSt m' 193 (54 * H.1) A ∧ yG sH9 m m' := by
  have e1 := s216_2 (κ := κ) (u := H.1) (by omega) 54 0 100000 m (by omega) (by omega) c.2.1.1
  have g : yG (fun x j => x = 193 ∧ 54 * H.1 ≤ j ∧ j < 54 * H.1 + 54) m (yR m 193 (cpO (m.1 180) 0 (m.1 193) (54 * H.1) 0)) := cpO_g (κ := κ)
  refine ⟨_, ?_, c.fH g (fun x j q => Or.inr (Or.inr q.1)) ⟨by rw [yR_ne _ _ (by omega)]; exact c.2.1.1, fun j hj => (c.2.1.2 j hj).g g (fun i p1 p2 q => by have := q.2; omega)⟩, c.1.cp (fun j hj => by rw [yR_eq, cpO_in hj]), g.wk (fun x j q => Or.inr q.1)⟩
  unfold f_216
  rw [show f_216_2 100000 178 0 = f_216_2 100000 178 (yN 0) from rfl, e1, yBs]
def sMk (x j : Nat) : Prop := x = 180 ∨ sM x j
theorem sMk_R {x j : Nat} (h : sMk x j) : sR x j := by unfold sMk sM at h; unfold sR; omega
theorem sMk_Rs {x j : Nat} (h : sMk x j) : sRs x j ∨ x = 180 := by unfold sMk sM at h; unfold sRs; omega
/-- makes() -/
theorem m219 {mv : Nat} (c : Rf m A H K C D E F) (o : Ok A H K C D E F) (hh : zho A = 0) (hc : tCg (zth A) (zn A) mv = true) (hm : mv < 2147483648) : ∃ m', f_219 178 (yN mv) (yH κ m) = some (yB (decide (tDw (zth A) (zn A) E.1 E.2.1 mv = 0)), yH κ m') ∧ Rf m' (zMv A E mv) H K C D E F ∧ yG sMk m m' := by
  have hk := o.1.1.1
  obtain ⟨oE1, oE4, -, -⟩ := o.2.2.2.2.2.1
  have hmv := o.1.1.2.2.1
  have hdv : mv / 10 < 2147483648 := Nat.lt_of_le_of_lt (Nat.div_le_self _ _) hm
  obtain ⟨a1, a2, a3, a4, a5, a6⟩ := c.1
  have q49 : m.1 180 49 = yN (zmv A) := a3
  have hw4 : tDw (zth A) (zn A) E.1 E.2.1 mv < 4 := tDw_lt
  have hkd := tDt_ok (t0 := E.1) (t1 := E.2.1) hk hc
  obtain ⟨m1, e1, T1, R1, F1⟩ := s203 (κ := κ) yAr_180 (by omega) hk c.1.tor hc c.2.2.2.2.2.1.1.1 c.2.2.2.2.2.1.1.2 hm
  have G1 : yG (sD 180) m m1 := F1.g (fun _ _ q => q)
  have p6 : m1.1 178 6 = yN E.2.2.1 := by rw [F1.2 _ _ (by unfold sD sM; omega)]; exact c.2.2.2.2.2.1.2.1.1
  have hi : ∀ j, 49 ≤ j → m1.1 180 j = m.1 180 j := fun j hj => F1.2 _ _ (by unfold sD sM; omega)
  have G1' : yG sMk m m1 := G1.wk (fun x j q => by unfold sD sM at q; unfold sMk sM; omega)
  have w180 : ∀ (m : yM) (j : Nat) (x : Int32), yG sMk m (yW m 180 j x) := fun m j x => yG.w m (Or.inl rfl)
  by_cases h0 : tDw (zth A) (zn A) E.1 E.2.1 mv = 0
  · refine ⟨yW m1 180 49 (yN ((zmv A + 1) % E.2.2.1)), ?_, ?_, G1'.tr (w180 _ _ _) (fun _ _ => orSelf)⟩
    · unfold f_219
      rw [h0] at e1
      simp (disch := first | assumption | omega) only [yr_178_3, yr_al yAr_180, yr_sl yAr_180, yBs, pG_t, pZ_0, pZ_1, pZ_B, q49, yis_178, e1, yi_178_6, p6, yN_add, yN_addl, yN_ladd, yN_mul, yN_mull, yN_lmul, yN_sub, yN_subl, yN_lsub, yN_lt, yN_ltl, yN_llt, yN_le, yN_lel, yN_lle, yN_eq, yN_eql, yN_leq, yN_eqm, yN_lem, yN_ltm, yN_mlt, yN_mle, yN_addm, yN_madd, yp_div, yp_rem, yp_divN, yp_remN]
      rw [decide_eq_true h0]; rfl
    · refine c.fA (G1'.tr (w180 _ _ _) (fun _ _ => orSelf)) (fun x j => sMk_Rs) ⟨fun b hb => ?_, ?_, ?_, ?_, ?_, fun q => ?_⟩
      · rw [yW_get, if_neg (by omega), Nat.zero_add]; exact T1.1 b hb
      · rw [yW_get, if_neg (by omega)]; exact T1.2
      · rw [yW_self]; exact upd_eq _ _ _
      · rw [yW_get, if_neg (by omega), hi _ (by omega)]
        show m.1 180 (0 + 50) = yN (tDw (zth A) (zn A) E.1 E.2.1 mv)
        rw [a4, hh, h0]
      · rw [yW_get, if_neg (by omega), hi _ (by omega)]
        show m.1 180 (0 + 51) = (if tDw (zth A) (zn A) E.1 E.2.1 mv = 0 then zwo A else yN (zmv A))
        rw [if_pos h0]; exact a5
      · exact absurd h0 q
  · by_cases h1 : tDw (zth A) (zn A) E.1 E.2.1 mv = 1
    · refine ⟨yW (yW (yW (yW (yW m1 180 49 (yN ((zmv A + 1) % E.2.2.1))) 180 50 (yN 1)) 180 51 (yN (zmv A))) 180 52 (yN (mv / 10 / 3))) 180 53 0, ?_, ?_, ((((G1'.tr (w180 _ _ _) (fun _ _ => orSelf)).tr (w180 _ _ _) (fun _ _ => orSelf)).tr (w180 _ _ _) (fun _ _ => orSelf)).tr (w180 _ _ _) (fun _ _ => orSelf)).tr (w180 _ _ _) (fun _ _ => orSelf)⟩
      · unfold f_219
        rw [h1] at e1
        simp (disch := first | assumption | omega) only [yr_178_3, yr_al yAr_180, yr_sl yAr_180, yBs, pG_t, pZ_0, pZ_1, pZ_B, q49, yis_178, e1, yi_178_6, p6, yN_add, yN_addl, yN_ladd, yN_mul, yN_mull, yN_lmul, yN_sub, yN_subl, yN_lsub, yN_lt, yN_ltl, yN_llt, yN_le, yN_lel, yN_lle, yN_eq, yN_eql, yN_leq, yN_eqm, yN_lem, yN_ltm, yN_mlt, yN_mle, yN_addm, yN_madd, yp_div, yp_rem, yp_divN, yp_remN, if_pos, if_neg, if_true]
        rw [decide_eq_false h0]; rfl
      · refine c.fA (((((G1'.tr (w180 _ _ _) (fun _ _ => orSelf)).tr (w180 _ _ _) (fun _ _ => orSelf)).tr (w180 _ _ _) (fun _ _ => orSelf)).tr (w180 _ _ _) (fun _ _ => orSelf)).tr (w180 _ _ _) (fun _ _ => orSelf)) (fun x j => sMk_Rs) ⟨fun b hb => ?_, ?_, ?_, ?_, ?_, fun q => ?_⟩
        · rw [yW_get, if_neg (by omega), yW_get, if_neg (by omega), yW_get, if_neg (by omega), yW_get, if_neg (by omega), yW_get, if_neg (by omega), Nat.zero_add]; exact T1.1 b hb
        · rw [yW_get, if_neg (by omega), yW_get, if_neg (by omega), yW_get, if_neg (by omega), yW_get, if_neg (by omega), yW_get, if_neg (by omega)]; exact T1.2
        · rw [yW_get, if_neg (by omega), yW_get, if_neg (by omega), yW_get, if_neg (by omega), yW_get, if_neg (by omega), yW_self]; exact upd_eq _ _ _
        · rw [yW_get, if_neg (by omega), yW_get, if_neg (by omega), yW_get, if_neg (by omega), yW_self]
          show upd _ 50 (yN 1) 50 = yN (tDw (zth A) (zn A) E.1 E.2.1 mv)
          rw [h1, upd_eq]
        · rw [yW_get, if_neg (by omega), yW_get, if_neg (by omega), yW_self]
          show upd _ 51 _ 51 = (if tDw (zth A) (zn A) E.1 E.2.1 mv = 0 then zwo A else yN (zmv A))
          rw [if_neg h0, upd_eq]
        · refine ⟨?_, ?_⟩
          · rw [yW_get, if_neg (by omega), yW_self]
            show upd _ 52 _ 52 = (if tDw (zth A) (zn A) E.1 E.2.1 mv = 0 then zwl A else if tDw (zth A) (zn A) E.1 E.2.1 mv = 1 then yN (mv / 10 / 3) else _)
            rw [if_neg h0, if_pos h1, upd_eq]
          · rw [yW_self]
            show upd _ 53 _ 53 = (if tDw (zth A) (zn A) E.1 E.2.1 mv = 0 then zwb A else if tDw (zth A) (zn A) E.1 E.2.1 mv = 1 then 0 else _)
            rw [if_neg h0, if_pos h1, upd_eq]
    · have T2 : Tor (yW m1 180 49 (yN ((zmv A + 1) % E.2.2.1))) 180 (tDt (zth A) (zn A) E.1 E.2.1 mv) (tDm (zth A) (zn A) E.1 E.2.1 mv) := T1.g (yG.w (S := fun x j => x = 180 ∧ j = 49) m1 ⟨rfl, rfl⟩) (fun j hj q => by have := q.2; omega)
      obtain ⟨m3, e3, R3, F3⟩ := s187 (κ := κ) (t0 := E.1) (t1 := E.2.1) yAr_180 (by omega) hkd T2 (by rw [yW_row (by omega), F1.2 _ _ (by unfold sD sM; omega)]; exact c.2.2.2.2.2.1.1.1) (by rw [yW_row (by omega), F1.2 _ _ (by unfold sD sM; omega)]; exact c.2.2.2.2.2.1.1.2)
      have h180 : ∀ j, m3.1 180 j = (yW m1 180 49 (yN ((zmv A + 1) % E.2.2.1))).1 180 j := fun j => F3.2 _ _ (by unfold sM; omega)
      have G3 : yG sMk m m3 := (G1'.tr (w180 _ _ _) (fun _ _ => orSelf)).tr (F3.g (S3 := sMk) (fun _ _ q => Or.inr q)) (fun _ _ => orSelf)
      have hns : tSt (tDt (zth A) (zn A) E.1 E.2.1 mv) (tDm (zth A) (zn A) E.1 E.2.1 mv) E.1 E.2.1 = false := by
        have hw := h0
        unfold tDt tDm
        rw [if_neg h1, if_neg h1]
        by_cases h2 : tDw (zth A) (zn A) E.1 E.2.1 mv = 2
        · rw [if_pos h2, if_pos h2]
          unfold tDw at h2
          split at h2
          · omega
          · split at h2
            next q => exact q
            next => split at h2 <;> omega
        · rw [if_neg h2, if_neg h2]
          unfold tDw at h0 h1 h2
          split at h0
          next q => rw [if_pos q] at h1; omega
          next q =>
            rw [if_neg q] at h2
            split at h0
            next q2 => rw [if_pos q2] at h2; omega
            next q2 =>
              split at h0
              next q3 => exact q3
              next => omega
      have hN := hkd.1
      rcases wB_b (tDt (zth A) (zn A) E.1 E.2.1 mv) (tDm (zth A) (zn A) E.1 E.2.1 mv) E.1 E.2.1 (tDm (zth A) (zn A) E.1 E.2.1 mv) (Nat.le_refl _) with q | ⟨k, k1, k2, k3, k4⟩
      · unfold tSt at hns; rw [q] at hns; simp at hns
      · have r4 : m3.1 190 k = (wB (tDt (zth A) (zn A) E.1 E.2.1 mv) (tDm (zth A) (zn A) E.1 E.2.1 mv) E.1 E.2.1 (tDm (zth A) (zn A) E.1 E.2.1 mv)).2.1 := by rw [(R3.2 k (Nat.zero_le _) k2).2.2, k4]
        rw [k3] at e3
        have G9 := ((((G3.tr (w180 _ 50 (yN (tDw (zth A) (zn A) E.1 E.2.1 mv))) (fun _ _ => orSelf)).tr (w180 _ 51 (yN (zmv A))) (fun _ _ => orSelf)).tr (w180 _ 52 (yN k)) (fun _ _ => orSelf)).tr (w180 _ 53 ((wB (tDt (zth A) (zn A) E.1 E.2.1 mv) (tDm (zth A) (zn A) E.1 E.2.1 mv) E.1 E.2.1 (tDm (zth A) (zn A) E.1 E.2.1 mv)).2.1)) (fun _ _ => orSelf))
        refine ⟨_, ?_, ?_, G9⟩
        · unfold f_219
          simp (disch := first | assumption | omega) only [yr_178_3, yr_al yAr_180, yr_sl yAr_180, yBs, pG_t, pZ_0, pZ_1, pZ_B, q49, yis_178, e1, yi_178_6, p6, yN_add, yN_addl, yN_ladd, yN_mul, yN_mull, yN_lmul, yN_sub, yN_subl, yN_lsub, yN_lt, yN_ltl, yN_llt, yN_le, yN_lel, yN_lle, yN_eq, yN_eql, yN_leq, yN_eqm, yN_lem, yN_ltm, yN_mlt, yN_mle, yN_addm, yN_madd, yp_div, yp_rem, yp_divN, yp_remN, if_neg h0, if_neg h1, e3, yr_178_22, ya_190, yW_row, r4]
          rw [decide_eq_false h0]; rfl
        · refine c.fA G9 (fun x j => sMk_Rs) ⟨fun b hb => ?_, ?_, ?_, ?_, ?_, fun q => ?_⟩
          · rw [yW_get, if_neg (by omega), yW_get, if_neg (by omega), yW_get, if_neg (by omega), yW_get, if_neg (by omega), h180, Nat.zero_add]; exact T2.1 b hb
          · rw [yW_get, if_neg (by omega), yW_get, if_neg (by omega), yW_get, if_neg (by omega), yW_get, if_neg (by omega), h180]; exact T2.2
          · rw [yW_get, if_neg (by omega), yW_get, if_neg (by omega), yW_get, if_neg (by omega), yW_get, if_neg (by omega), h180, yW_self]; exact upd_eq _ _ _
          · rw [yW_get, if_neg (by omega), yW_get, if_neg (by omega), yW_get, if_neg (by omega), yW_self]; exact upd_eq _ _ _
          · rw [yW_get, if_neg (by omega), yW_get, if_neg (by omega), yW_self]
            show upd _ 51 _ 51 = (if tDw (zth A) (zn A) E.1 E.2.1 mv = 0 then zwo A else yN (zmv A))
            rw [if_neg h0, upd_eq]
          · refine ⟨?_, ?_⟩
            · rw [yW_get, if_neg (by omega), yW_self]
              show upd _ 52 _ 52 = (if tDw (zth A) (zn A) E.1 E.2.1 mv = 0 then zwl A else if tDw (zth A) (zn A) E.1 E.2.1 mv = 1 then yN (mv / 10 / 3) else _)
              rw [if_neg h0, if_neg h1, upd_eq, k3]
            · rw [yW_self]
              show upd _ 53 _ 53 = (if tDw (zth A) (zn A) E.1 E.2.1 mv = 0 then zwb A else if tDw (zth A) (zn A) E.1 E.2.1 mv = 1 then 0 else _)
              rw [if_neg h0, if_neg h1, upd_eq]
end MX
theorem s125 {κ : yK} {m : yM} {s : zT} (c : cSt m 5 s) (h4 : zho s < 4) : f_125 0 (yH κ m) = some (if zho s = 0 then 6 else 148, yH κ m) := by
  unfold f_125 f_68
  by_cases h : zho s = 0
  · have r : m.1 5 3 = 0 := by rw [c.2.2.2.1, h]; rfl
    simp (disch := first | assumption | omega) only [yr_0_2, ys_is ysw_5, ys_i3 ysw_5, r, yBs, pG_t, pZ_0, pZ_1, pZ_B, if_true, ys5_0]
    rw [if_pos h]
  · have r : (m.1 5 3 = 0) = False := by rw [c.2.2.2.1, yN_eql (by omega) (by omega)]; exact eq_false h
    simp (disch := first | assumption | omega) only [yr_0_2, ys_is ysw_5, ys_i3 ysw_5, r, yBs, pG_t, pZ_0, pZ_1, pZ_B, if_false, y10, yr_0_12]
    rw [if_neg h]
theorem zB0_ok : tOk zB0 0 := ⟨by decide, fun b hb => Or.inl (if_pos hb), fun b _ hb => if_pos hb, fun l hl => absurd hl (Nat.not_lt_zero l)⟩
theorem tHas_b0 {b : Nat} : tHas zB0 b = false := by
  unfold tHas zB0
  by_cases h : b < 48 <;> simp [h]
theorem tCg_b0 {mv : Nat} : tCg zB0 0 mv = false := by unfold tCg; rw [tHas_b0]; simp
/-- the tower in which moves are looked for -/
theorem s125c {κ : yK} {m : yM} {p : Int32} {A : zT} {H : zH} {K : zK} {C : zC} {D : List Int64} {E : zE} {F : zF} (c : Cl m A H K C D E F) (h : zho A ≠ 0) : f_102 148 p (yH κ m) = some (0, yH κ m) := by
  by_cases hp : p < 0
  · exact s102m hp
  · obtain ⟨k, hk, rfl⟩ := yN_of hp
    rw [s102 ytw_148 c.2.2.2.2.2.1.2.2.2.1 zB0_ok hk, tCg_b0]; rfl
theorem z_move (p : Int32) : zCall (f_132 0 p) (f_220 178 p) := by
  intro κ A H K C D E F o
  obtain ⟨oE1, oE4, -, -⟩ := o.2.2.2.2.2.1
  have h4 := o.1.1.2.2.2
  by_cases h : zho A = 0 ∧ ∃ mv, mv < 2147483648 ∧ p = yN mv ∧ tCg (zth A) (zn A) mv = true
  · obtain ⟨hh, mv, hm, rfl, hc⟩ := h
    have oA := zMv_ok (E := E) o.1.1 hc oE1 oE4
    have o1 : Ok A (hPush H A) K C D E F := ⟨o.1, o.2.1.push o.1.1, o.2.2⟩
    refine ⟨yB (decide (tDw (zth A) (zn A) E.1 E.2.1 mv = 0)), zMv A E mv, hPush H A, K, C, D, E, F, ⟨oA, o.2.1.push o.1.1, o.2.2⟩, fun m c => ?_, fun m c => ?_⟩
    · obtain ⟨m1, e1, c1, g1⟩ := s43 (κ := κ) c o
      obtain ⟨m2, e2, c2, g2⟩ := s133 (κ := κ) c1 o1 hh hc hm
      refine ⟨m2, ?_, c2, g1.tr (g2.wk (S3 := sC) (fun _ _ => sMW_C)) (fun _ _ => orSelf)⟩
      have r : m2.1 5 3 = yN (tDw (zth A) (zn A) E.1 E.2.1 mv) := c2.1.2.2.2.1
      have hw : tDw (zth A) (zn A) E.1 E.2.1 mv < 4 := tDw_lt
      unfold f_132 f_68
      simp (disch := first | assumption | omega) only [yis_0, s125 c.1 h4, if_pos hh, yBs, pG_t, pZ_0, pZ_1, pZ_B, yt_is ytw_6, s102 ytw_6 c.1.1 o.1.1.1, hc, yB_t, y10, if_false, yr_0_3, yr_0_2, yis_11, e1, e2, ys_is ysw_5, ys_i3 ysw_5, r, yN_add, yN_addl, yN_ladd, yN_mul, yN_mull, yN_lmul, yN_sub, yN_subl, yN_lsub, yN_lt, yN_ltl, yN_llt, yN_le, yN_lel, yN_lle, yN_eq, yN_eql, yN_leq, yN_eqm, yN_lem, yN_ltm, yN_mlt, yN_mle, yN_addm, yN_madd, yp_div, yp_rem, yp_divN, yp_remN]
      by_cases hq : tDw (zth A) (zn A) E.1 E.2.1 mv = 0
      · rw [if_pos hq, decide_eq_true hq]; simp only [yBs, pZ_0, pZ_1, pZ_B, if_true, if_false, y10, y01, yB_t, yB_f]
      · rw [if_neg hq, decide_eq_false hq]; simp only [yBs, pZ_0, pZ_1, pZ_B, if_true, if_false, y10, y01, yB_t, yB_f]
    · obtain ⟨c0, g0⟩ := c.th 0
      obtain ⟨m1, e1, c1, a1, g1⟩ := m216 (κ := κ) c0 o.2.1.1
      obtain ⟨m2, e2, c2, g2⟩ := m219 (κ := κ) c1 o hh hc hm
      have a2 : rSt m2 193 (54 * H.1) A := a1.g g2 (fun j _ _ q => by unfold sMk sM at q; omega)
      obtain ⟨m3, e3, h3, g3⟩ := m217 (κ := κ) c2.2.1 o.2.1.1 a2
      have c3 : Rf m3 (zMv A E mv) (hPush H A) K C D E F := c2.fH g3 (fun x j q => Or.inr q) h3
      refine ⟨m3, ?_, c3, (g0.tr (g1.wk (S3 := sR) (fun x j q => by unfold sH9 at q; unfold sR; omega)) (fun _ _ => orSelf)).tr ((g2.wk (S3 := sR) (fun _ _ => sMk_R)).tr (g3.wk (S3 := sR) (fun x j q => by unfold sH9 at q; unfold sR; omega)) (fun _ _ => orSelf)) (fun _ _ => orSelf)⟩
      have r50 : (yW m 178 0 0).1 180 50 = 0 := by have := c0.1.2.2.2.1; rw [hh] at this; exact this
      unfold f_220
      simp (disch := first | assumption | omega) only [yp_178_0, yr_178_3, yBs, pG_t, pZ_0, pZ_1, pZ_B, s202 yAr_180 c0.1.tor o.1.1.1 r50, hc, yB_t, y10, if_false, yis_178, e1, e2, e3, s163]
  · refine ⟨-2, A, H, K, C, D, E, F, o, zCx.same fun m c => ?_, zCm.same fun m c => ?_⟩
    · unfold f_132
      have key : f_102 (if zho A = 0 then 6 else 148) p (yH κ m) = some (0, yH κ m) := by
        by_cases hh : zho A = 0
        · rw [if_pos hh]
          by_cases hp : p < 0
          · exact s102m hp
          · obtain ⟨k, hk, rfl⟩ := yN_of hp
            rw [s102 ytw_6 c.1.1 o.1.1.1 hk]
            cases hq : tCg (zth A) (zn A) k with
            | false => rfl
            | true => exact absurd ⟨hh, k, hk, rfl, hq⟩ h
        · rw [if_neg hh]; exact s125c c hh
      have his : pIs (yH κ m) (if zho A = 0 then 6 else 148) 10 = true := by split; exact yt_is ytw_6; exact yt_is ytw_148
      simp (disch := first | assumption | omega) only [yis_0, s125 c.1 h4, yBs, pG_t, pZ_0, pZ_1, pZ_B, his, key, if_true]
    · obtain ⟨c0, g0⟩ := c.th 0
      have key : f_202 180 p (yH κ (yW m 178 0 0)) = some (0, yH κ (yW m 178 0 0)) := by
        by_cases hh : zho A = 0
        · have r50 : (yW m 178 0 0).1 180 50 = 0 := by have := c0.1.2.2.2.1; rw [hh] at this; exact this
          by_cases hp : p < 0
          · exact s202m yAr_180 hp
          · obtain ⟨k, hk, rfl⟩ := yN_of hp
            rw [s202 yAr_180 c0.1.tor o.1.1.1 r50 hk]
            cases hq : tCg (zth A) (zn A) k with
            | false => rfl
            | true => exact absurd ⟨hh, k, hk, rfl, hq⟩ h
        · have r50 : 0 < (yW m 178 0 0).1 180 50 := by
            have := c0.1.2.2.2.1
            rw [show (0 + 50 : Nat) = 50 from rfl] at this
            rw [this, show (0 : Int32) = yN 0 from rfl, yN_lt (by omega) (by omega)]; omega
          exact s202f yAr_180 r50
      unfold f_220
      simp (disch := first | assumption | omega) only [yp_178_0, yr_178_3, yBs, pG_t, pZ_0, pZ_1, pZ_B, key, if_true]
