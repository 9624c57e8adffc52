/-! ===== chance(): the reference, and the call ===== -/
section CI
variable {κ : yK} {m : yM} {s n : Nat} {th : Nat → Int32} {t0 t1 hand : Int32} {R : List Int32}
/-- better() -/
theorem m242 {mv : Nat} (hs : rS4 s) (hk : tOk th n) (hx : Rx m s th n) (hr : Ro m s t0 t1 hand R) (hh : ∃ h, h ≤ 9 ∧ hand = yN h) (oR : okR R) (hc : tCg th n mv = true) (hm : mv < 2147483648) : ∃ m', f_242 178 s (yN mv) (yH κ m) = some (yN (100 - min (zOn R th n t0 t1 hand 0 mv) (zOn R th n t0 t1 hand 1 mv)), yH κ m') ∧ yFr sO m m' := by
  obtain ⟨m1, e1, F1⟩ := rx208 (κ := κ) (j := 0) hs hk hx hr hh oR hc hm
  have F1' : yFr sBm m m1 := F1.wk (fun _ _ => Or.inl)
  obtain ⟨m2, e2, F2⟩ := rx208 (κ := κ) (j := 1) hs hk (hx.bm hs F1') (hr.bm hs F1') hh oR hc hm
  refine ⟨m2, ?_, F1.tr F2 (fun _ _ => orSelf)⟩
  have p0 := (zOn_eq R th n t0 t1 hand 0 mv).2
  have p1 := (zOn_eq R th n t0 t1 hand 1 mv).2
  have e1' : f_208 178 s (yN mv) 0 (yH κ m) = some (yN (zOn R th n t0 t1 hand 0 mv), yH κ m1) := e1
  have e2' : f_208 178 s (yN mv) 1 (yH κ m1) = some (yN (zOn R th n t0 t1 hand 1 mv), yH κ m2) := e2
  unfold f_242
  rw [yis_178, pG_t, yBs, e1', yBs]
  dsimp only
  rw [yis_178, pG_t, yBs, e2', yBs]
  dsimp only
  rw [yp_minN (by omega) (by omega), yN_lsub (by show min _ _ ≤ 100; omega)]
theorem m243_128 {x1 x2 x3 x4 x5 : Int32} (hk : tOk th n) (hh : ∃ h, h ≤ 9 ∧ hand = yN h) (oR : okR R) : ∀ (d k fu : Nat) (m : yM), k + d = 480 → d < fu → Rx m 192 th n → Ro m 192 t0 t1 hand R → ∃ m', f_243_128 fu 178 x1 x2 x3 x4 x5 (yN (mxS (tSf th n t0 t1) (zOn R th n t0 t1 hand) k)) (yN k) (yH κ m) = some (yN (mxS (tSf th n t0 t1) (zOn R th n t0 t1 hand) 480), yH κ m') ∧ yFr sBm m m' := by
  have hs : rS4 192 := Or.inr (Or.inr (Or.inl rfl))
  intro d
  induction d with
  | zero =>
    intro k fu m hd hf hx hr
    obtain ⟨fu, rfl⟩ : ∃ k, fu = k + 1 := ⟨fu - 1, by omega⟩
    obtain rfl : k = 480 := by omega
    refine ⟨m, ?_, yFr.rf m⟩
    rw [f_243_128, if_pos (by decide)]
  | succ d ih =>
    intro k fu m hd hf hx hr
    obtain ⟨fu, rfl⟩ : ∃ k, fu = k + 1 := ⟨fu - 1, by omega⟩
    obtain ⟨m1, e1, F1⟩ := rx204 (κ := κ) (mv := k) hs hk hx hr.2.2.1 hr.2.2.2 (by omega)
    have F1' : yFr sBm m m1 := F1.wk (fun x i q => by unfold sI sM at q; unfold sBm sO sM; omega)
    rw [f_243_128, if_neg (by rw [yN_lle (by omega) (by omega)]; omega), yr_178_27, yBs, yis_178, pG_t, yBs, e1, yBs]
    dsimp only
    cases hq : tSf th n t0 t1 k with
    | false =>
      obtain ⟨m', e', F'⟩ := ih (k + 1) fu m1 (by omega) (by omega) (hx.bm hs F1') (hr.bm hs F1')
      rw [show mxS (tSf th n t0 t1) (zOn R th n t0 t1 hand) (k + 1) = mxS (tSf th n t0 t1) (zOn R th n t0 t1 hand) k by rw [mxS, if_neg (by rw [hq]; decide)]] at e'
      refine ⟨m', ?_, F1'.tr F' (fun _ _ => orSelf)⟩
      rw [if_pos (by decide), yBs, yN_addl]
      exact e'
    | true =>
      obtain ⟨m2, e2, F2⟩ := m242 (κ := κ) hs hk (hx.bm hs F1') (hr.bm hs F1') hh oR (tSf_cg hq) (show k < 2147483648 by omega)
      have F2' : yFr sBm m m2 := F1'.tr F2 (fun x i q => q.elim id Or.inl)
      obtain ⟨m', e', F'⟩ := ih (k + 1) fu m2 (by omega) (by omega) (hx.bm hs F2') (hr.bm hs F2')
      rw [show mxS (tSf th n t0 t1) (zOn R th n t0 t1 hand) (k + 1) = max (mxS (tSf th n t0 t1) (zOn R th n t0 t1 hand) k) (100 - min (zOn R th n t0 t1 hand 0 k) (zOn R th n t0 t1 hand 1 k)) by rw [mxS, if_pos hq]] at e'
      have hu := mxS_up (P := tSf th n t0 t1) (O := zOn R th n t0 t1 hand) (B := 100) (fun m _ => by omega) k
      refine ⟨m', ?_, F2'.tr F' (fun _ _ => orSelf)⟩
      rw [if_neg (by decide), yr_178_27, yBs, yis_178, pG_t, yBs, e2, yBs]
      dsimp only
      rw [yBs, yp_maxN (by omega) (by omega), yN_addl]
      exact e'
end CI
section CJ
variable {κ : yK} {m : yM} {A : zT} {H : zH} {K : zK} {C : zC} {D : List Int64} {E : zE} {F : zF}
def sCj (x j : Nat) : Prop := x = 192 ∨ sBm x j
theorem sCj_R {x j : Nat} (h : sCj x j) : sR x j := by unfold sCj sBm sO sM at h; unfold sR; omega
theorem sCj_Rs {x j : Nat} (h : sCj x j) : sRs x j := by unfold sCj sBm sO sM at h; unfold sRs; omega
theorem m243_34 {two : Bool} {N : Int32} (hN : (N = 2) = (two = true)) (hN0 : ¬ N ≤ 0) (o : Ok A H K C D E F) : ∀ (d k fu : Nat) (m : yM), k + d = 480 → d < fu → Rf m A H K C D E F → ∃ m', f_243_34 fu 178 N (yN (chS (tSf (zMT A).1 (zMT A).2 E.1 E.2.1) (chV E.2.2.2.2 (zMT A).1 (zMT A).2 E.1 E.2.1 (E.2.2.2.1 (zmv A)) (E.2.2.2.1 ((zmv A + 1) % E.2.2.1)) two) k).2) (chS (tSf (zMT A).1 (zMT A).2 E.1 E.2.1) (chV E.2.2.2.2 (zMT A).1 (zMT A).2 E.1 E.2.1 (E.2.2.2.1 (zmv A)) (E.2.2.2.1 ((zmv A + 1) % E.2.2.1)) two) k).1 (yN k) (yH κ m) = some (yN (chS (tSf (zMT A).1 (zMT A).2 E.1 E.2.1) (chV E.2.2.2.2 (zMT A).1 (zMT A).2 E.1 E.2.1 (E.2.2.2.1 (zmv A)) (E.2.2.2.1 ((zmv A + 1) % E.2.2.1)) two) 480).2, (chS (tSf (zMT A).1 (zMT A).2 E.1 E.2.1) (chV E.2.2.2.2 (zMT A).1 (zMT A).2 E.1 E.2.1 (E.2.2.2.1 (zmv A)) (E.2.2.2.1 ((zmv A + 1) % E.2.2.1)) two) 480).1, yH κ m') ∧ Rf m' A H K C D E F ∧ yG sCj m m' := by
  have hk := zMT_ok o.1.1
  have hn := hk.1
  have oE := o.2.2.2.2.2.1
  have hm4 := o.1.1.2.2.1
  have hu : (zmv A + 1) % E.2.2.1 < E.2.2.1 := Nat.mod_lt _ (by have := oE.1; omega)
  have hh1 := oE.2.2.1 _ o.1.2
  have hh2 := oE.2.2.1 _ hu
  have hE4 := oE.2.1
  generalize hth : (zMT A).1 = th at *
  generalize hnn : (zMT A).2 = n at *
  generalize hhd : E.2.2.2.1 (zmv A) = hand at *
  generalize hhd2 : E.2.2.2.1 ((zmv A + 1) % E.2.2.1) = hand2 at *
  intro d
  induction d with
  | zero =>
    intro k fu m hd hf c
    obtain ⟨fu, rfl⟩ : ∃ k, fu = k + 1 := ⟨fu - 1, by omega⟩
    obtain rfl : k = 480 := by omega
    refine ⟨m, ?_, c, yG.rf m⟩
    rw [f_243_34, if_pos (by decide)]
  | succ d ih =>
    intro k fu m hd hf c
    obtain ⟨fu, rfl⟩ : ∃ k, fu = k + 1 := ⟨fu - 1, by omega⟩
    obtain ⟨m1, e1, c1, g1⟩ := m204 (κ := κ) (mv := k) c o (by omega)
    rw [hth, hnn] at e1
    have G1 : yG sCj m m1 := g1.wk (fun x j q => by unfold sI sM at q; unfold sCj sBm sO sM; omega)
    rw [f_243_34, if_neg (by rw [yN_lle (by omega) (by omega)]; omega), if_neg hN0, yr_178_3, yBs, yis_178, pG_t, yBs, e1, yBs]
    dsimp only
    cases hs : tSf th n E.1 E.2.1 k with
    | false =>
      obtain ⟨m', e', c', g'⟩ := ih (k + 1) fu m1 (by omega) (by omega) c1
      rw [show chS (tSf th n E.1 E.2.1) (chV E.2.2.2.2 th n E.1 E.2.1 hand hand2 two) (k + 1) = chS (tSf th n E.1 E.2.1) (chV E.2.2.2.2 th n E.1 E.2.1 hand hand2 two) k by rw [chS, if_neg (by rw [hs]; decide)]] at e'
      refine ⟨m', ?_, c', G1.tr g' (fun _ _ => orSelf)⟩
      rw [if_pos (by decide), yBs, yN_addl]
      exact e'
    | true =>
      have hc := tSf_cg hs
      have hkl := tLn_ok hk hc (tSf_2 hs)
      have hx1 := c1.rx o
      have hr1 := c1.ro o
      rw [hth, hnn] at hx1
      rw [hhd] at hr1
      obtain ⟨m2, e2, F2⟩ := m242 (κ := κ) (Or.inl rfl) hk hx1 hr1 hh1 oE.2.2.2 hc (show k < 2147483648 by omega)
      have G2 : yG sCj m1 m2 := F2.g (fun _ _ q => Or.inr (Or.inl q))
      have c2 := c1.fr G2 (fun _ _ => sCj_Rs)
      have W : ∃ m5, ((if N = 2 then (pFr (yH κ m2) 178 12 3).bind fun x81 => (pFr (yH κ m2) 178 12 27).bind fun x82 => (f_168 x81 x82 (yH κ m2)).bind fun h83 => (pFr h83 178 12 27).bind fun x84 => (pG (pIs h83 178 12)).bind fun _ => (f_203 178 x84 (yN k) h83).bind fun (x87, h86) => (pFr h86 178 12 27).bind fun x88 => (pFr h86 178 12 3).bind fun x89 => (pAi h86 x89 49).bind fun x90 => (pFi h86 178 12 6).bind fun x91 => (pRem (x90 + 1) x91).bind fun x92 => (pSi h86 x88 49 x92).bind fun h93 => (f_243_128 100000 178 N (yN (chS (tSf th n E.1 E.2.1) (chV E.2.2.2.2 th n E.1 E.2.1 hand hand2 two) k).2) (chS (tSf th n E.1 E.2.1) (chV E.2.2.2.2 th n E.1 E.2.1 hand hand2 two) k).1 (yN k) (yN (100 - min (zOn E.2.2.2.2 th n E.1 E.2.1 hand 0 k) (zOn E.2.2.2.2 th n E.1 E.2.1 hand 1 k))) 0 0 h93).bind fun (w95, h94) => some (((yN (100 - min (zOn E.2.2.2.2 th n E.1 E.2.1 hand 0 k) (zOn E.2.2.2.2 th n E.1 E.2.1 hand 1 k))) * w95), h94) else some (yN (100 - min (zOn E.2.2.2.2 th n E.1 E.2.1 hand 0 k) (zOn E.2.2.2.2 th n E.1 E.2.1 hand 1 k)), yH κ m2) : Option (Int32 × xH))) = some (yN (chV E.2.2.2.2 th n E.1 E.2.1 hand hand2 two k), yH κ m5) ∧ Rf m5 A H K C D E F ∧ yG sCj m2 m5 := by
        cases two with
        | false =>
          refine ⟨m2, ?_, c2, yG.rf m2⟩
          rw [if_neg (by rw [hN]; decide)]
          unfold chV
          rw [if_neg (by decide), Nat.mul_one]
        | true =>
          have hx2 := c2.rx o
          rw [hth, hnn] at hx2
          obtain ⟨m3, m4, e3, e4, T4, k4, R4, F4⟩ := mLay (κ := κ) hk hx2 c2.2.2.2.2.2.1.1.1 c2.2.2.2.2.2.1.1.2 hs (show k < 2147483648 by omega)
          have G4 : yG sCj m2 m4 := F4.g (fun x j q => by unfold sM at q; unfold sCj sBm sO sM; omega)
          have c4 := c2.fr G4 (fun _ _ => sCj_Rs)
          have G5 : yG sCj m4 (yW m4 192 49 (yN ((zmv A + 1) % E.2.2.1))) := yG.w _ (Or.inl rfl)
          have c5 := c4.fr G5 (fun _ _ => sCj_Rs)
          have T5 : Tor (yW m4 192 49 (yN ((zmv A + 1) % E.2.2.1))) 192 (tLn th n k) (tNn th n) := T4.g (yG.w (S := fun x j => x = 192 ∧ j = 49) m4 ⟨rfl, rfl⟩) (fun j hj q => by have := q.2; omega)
          have hx5 : Rx (yW m4 192 49 (yN ((zmv A + 1) % E.2.2.1))) 192 (tLn th n k) (tNn th n) := Or.inl ⟨by rw [yW_get, if_neg (by omega), k4 50 (by omega) (by omega)]; exact hx2.nf hc, T5⟩
          have hr5 : Ro (yW m4 192 49 (yN ((zmv A + 1) % E.2.2.1))) 192 E.1 E.2.1 hand2 E.2.2.2.2 := by
            refine ⟨⟨(zmv A + 1) % E.2.2.1, by omega, by rw [yW_self, upd_eq], ?_⟩, c5.2.2.2.2.2.1.2.2, c5.2.2.2.2.2.1.1.1, c5.2.2.2.2.2.1.1.2⟩
            rw [← hhd2]; exact c5.2.2.2.2.2.1.2.1.2 _ hu
          obtain ⟨m6, e6, F6⟩ := m243_128 (κ := κ) (x1 := N) (x2 := yN (chS (tSf th n E.1 E.2.1) (chV E.2.2.2.2 th n E.1 E.2.1 hand hand2 true) k).2) (x3 := (chS (tSf th n E.1 E.2.1) (chV E.2.2.2.2 th n E.1 E.2.1 hand hand2 true) k).1) (x4 := yN k) (x5 := yN (100 - min (zOn E.2.2.2.2 th n E.1 E.2.1 hand 0 k) (zOn E.2.2.2.2 th n E.1 E.2.1 hand 1 k))) hkl hh2 oE.2.2.2 480 0 100000 _ (by omega) (by omega) hx5 hr5
          have G6 := F6.g (S3 := sCj) (fun _ _ => Or.inr)
          have c6 := c5.fr G6 (fun _ _ => sCj_Rs)
          refine ⟨m6, ?_, c6, (G4.tr G5 (S3 := sCj) (fun _ _ => orSelf)).tr G6 (fun _ _ => orSelf)⟩
          rw [mxS_bC (fun mv h => tSf_lt hkl h) (show 30 * tNn th n ≤ 480 by have := hkl.1; omega)] at e6
          have e6' : f_243_128 100000 178 N (yN (chS (tSf th n E.1 E.2.1) (chV E.2.2.2.2 th n E.1 E.2.1 hand hand2 true) k).2) (chS (tSf th n E.1 E.2.1) (chV E.2.2.2.2 th n E.1 E.2.1 hand hand2 true) k).1 (yN k) (yN (100 - min (zOn E.2.2.2.2 th n E.1 E.2.1 hand 0 k) (zOn E.2.2.2.2 th n E.1 E.2.1 hand 1 k))) 0 0 (yH κ (yW m4 192 49 (yN ((zmv A + 1) % E.2.2.1)))) = some (yN (cbH (bC (tSf (tLn th n k) (tNn th n) E.1 E.2.1) (zOn E.2.2.2.2 (tLn th n k) (tNn th n) E.1 E.2.1 hand2) (30 * tNn th n))), yH κ m6) := e6
          have r49 : m4.1 180 49 = yN (zmv A) := c4.1.2.2.1
          have e49 : pAi (yH κ m4) 180 49 = some (yN (zmv A)) := by rw [yr_al yAr_180 (by omega)]; exact congrArg some r49
          have s49 : ∀ x, pSi (yH κ m4) 192 49 x = some (yH κ (yW m4 192 49 x)) := fun x => yr_sl yAr_192 (by omega)
          rw [if_pos (by rw [hN]), yr_178_3, yBs, yr_178_27, yBs, e3, yBs, yr_178_27, yBs, yis_178, pG_t, yBs, e4, yBs]
          dsimp only
          rw [yr_178_27, yBs, yr_178_3, yBs, e49, yBs, yi_178_6, yBs, c4.2.2.2.2.2.1.2.1.1, yN_addl, yp_remN (by omega) (by omega) (by have := oE.1; omega), yBs, s49, yBs, e6', yBs]
          dsimp only
          rw [yN_mul]
          rfl
      obtain ⟨m5, e5, c5, G5⟩ := W
      have GG := (G1.tr G2 (S3 := sCj) (fun _ _ => orSelf)).tr G5 (S3 := sCj) (fun _ _ => orSelf)
      obtain ⟨m', e', c', g'⟩ := ih (k + 1) fu m5 (by omega) (by omega) c5
      refine ⟨m', ?_, c', GG.tr g' (fun _ _ => orSelf)⟩
      have hv := chV_le E.2.2.2.2 th n E.1 E.2.1 hand hand2 two k
      have hv2 : chV E.2.2.2.2 th n E.1 E.2.1 hand hand2 two k ≤ 10000 := by cases two <;> simp at hv <;> omega
      have hc2 := chS_le (P := tSf th n E.1 E.2.1) (V := chV E.2.2.2.2 th n E.1 E.2.1 hand hand2 two) (B := 10000) (fun k => by have := chV_le E.2.2.2.2 th n E.1 E.2.1 hand hand2 two k; cases two <;> simp at this <;> omega) k
      rw [if_neg (by decide), yr_178_3, yBs, yis_178, pG_t, yBs, e2, yBs]
      dsimp only
      rw [e5, yBs]
      dsimp only
      by_cases hq : chV E.2.2.2.2 th n E.1 E.2.1 hand hand2 two k ≤ (chS (tSf th n E.1 E.2.1) (chV E.2.2.2.2 th n E.1 E.2.1 hand hand2 two) k).2
      · rw [show chS (tSf th n E.1 E.2.1) (chV E.2.2.2.2 th n E.1 E.2.1 hand hand2 two) (k + 1) = chS (tSf th n E.1 E.2.1) (chV E.2.2.2.2 th n E.1 E.2.1 hand hand2 two) k by rw [chS, if_pos hs, if_pos hq]] at e'
        rw [if_pos (by rw [yN_le (by omega) (by omega)]; exact hq), yBs, yN_addl]
        exact e'
      · rw [show chS (tSf th n E.1 E.2.1) (chV E.2.2.2.2 th n E.1 E.2.1 hand hand2 two) (k + 1) = (yN k, chV E.2.2.2.2 th n E.1 E.2.1 hand hand2 two k) by rw [chS, if_pos hs, if_neg hq]] at e'
        rw [if_neg (by rw [yN_le (by omega) (by omega)]; exact hq), yBs, yN_addl]
        exact e'
end CJ
theorem z_chance (p : Int32) : zCall (f_144 0 p) (f_243 178 p) := by
  intro κ A H K C D E F o
  have hk := zMT_ok o.1.1
  have hn := hk.1
  have oE := o.2.2.2.2.2.1
  have hm4 := o.1.1.2.2.1
  have hmod : zmv A % E.2.2.1 = zmv A := Nat.mod_eq_of_lt o.1.2
  by_cases h : 0 ≤ p ∧ p ≤ 2
  · have hp0 : ¬ p < 0 := yLe_lt h.1
    obtain ⟨n0, hn0, rfl⟩ := yN_of' h.1
    have hn2 : n0 ≤ 2 := by have := h.2; rw [yN_lel hn0 (by omega)] at this; exact this
    rcases Nat.eq_zero_or_pos n0 with h0 | h0
    · subst h0
      refine ⟨0, A, H, K, C, [1, 1, (-1 : Int32).toInt64], E, F, ⟨o.1, o.2.1, o.2.2.1, o.2.2.2.1, by simp, o.2.2.2.2.2⟩, fun m c => ?_, fun m c => ?_⟩
      · refine ⟨_, ?_, c.row o.2.1.1 _, (rAs_g m _).wk (fun _ _ => sA3_C)⟩
        have e1 : f_145 1 1 (yH κ m) = some (1, yH κ m) := s145 (x := 1) (y := 1) (by omega) (by omega) (by omega)
        have d1 : pDiv (1 : Int32) 1 = some 1 := by rw [pDiv_ne (by decide)]; rfl
        have l1 : (1 : Int32).toInt64 = 1 := rfl
        unfold f_144
        rw [if_neg hp0, if_pos h.2, if_pos (by decide), yBs]
        simp (disch := first | assumption | omega) only [e1, yBs, yr_0_1, yis_3, yBs, pG_t, pZ_0, pZ_1, pZ_B, s50, d1, s51a, s51b, s51c, l1]
      · obtain ⟨c0, g0⟩ := c.th 0
        refine ⟨_, ?_, c0.row _, g0.tr (rBs_g _ _) (fun x j q => q.elim id sB3_R)⟩
        have e1 : f_164 1 1 (yH κ (yW m 178 0 0)) = some (1, yH κ (yW m 178 0 0)) := s164 (x := 1) (y := 1) (by omega) (by omega)
        have d1 : pDivL (1 : Int64) 1 = some 1 := by unfold pDivL; rw [if_neg (by decide)]; rfl
        have l1 : (1 : Int32).toInt64 = 1 := rfl
        have e2 : f_243_34 100000 178 (yN 0) 1 (-1) 0 (yH κ (yW m 178 0 0)) = some (1, -1, yH κ (yW m 178 0 0)) := by
          rw [show (100000 : Nat) = 99999 + 1 from rfl, f_243_34, if_neg (by decide), if_pos (by decide)]
        unfold f_243
        rw [yp_178_0, yBs, s162l _ 0 2 0 2 rfl rfl, decide_eq_true h, yBs]
        dsimp only
        rw [if_neg (by decide), if_pos (by decide), yBs, e2, yBs]
        dsimp only
        rw [if_pos (by decide), yBs]
        simp (disch := first | assumption | omega) only [l1, e1, yBs, yp_178_1, d1, yis_178, yBs, pG_t, pZ_0, pZ_1, pZ_B, s165_0, s165b, s165c]
    · obtain ⟨two, hN⟩ : ∃ two : Bool, ((yN n0 : Int32) = 2) = (two = true) := by
        rcases (show n0 = 1 ∨ n0 = 2 by omega) with rfl | rfl
        · exact ⟨false, by decide⟩
        · exact ⟨true, by decide⟩
      have hNp : ¬ (yN n0 ≤ 0) := by rw [yN_lel hn0 (by omega)]; omega
      obtain ⟨lo, hlo, hlo0, hl1, hl2⟩ : ∃ lo : Nat, lo < 16384 ∧ 0 < lo ∧ (if yN n0 = 1 then some (100 : Int32) else some 10000) = some (yN lo) ∧ lo = (if two = true then 10000 else 100) := by
        rcases (show n0 = 1 ∨ n0 = 2 by omega) with rfl | rfl
        · refine ⟨100, by omega, by omega, by rfl, ?_⟩
          rw [if_neg (by rw [← hN]; decide)]
        · refine ⟨10000, by omega, by omega, by rfl, ?_⟩
          rw [if_pos (by rw [← hN]; decide)]
      have et := chS_top (P := tSf (zMT A).1 (zMT A).2 E.1 E.2.1) (V := chV E.2.2.2.2 (zMT A).1 (zMT A).2 E.1 E.2.1 (E.2.2.2.1 (zmv A)) (E.2.2.2.1 ((zmv A + 1) % E.2.2.1)) two) (fun mv h => tSf_lt hk h) (480 - 30 * (zMT A).2)
      rw [show 30 * (zMT A).2 + (480 - 30 * (zMT A).2) = 480 by omega] at et
      have hle := chS_le (P := tSf (zMT A).1 (zMT A).2 E.1 E.2.1) (V := chV E.2.2.2.2 (zMT A).1 (zMT A).2 E.1 E.2.1 (E.2.2.2.1 (zmv A)) (E.2.2.2.1 ((zmv A + 1) % E.2.2.1)) two) (B := 10000) (fun k => by have := chV_le E.2.2.2.2 (zMT A).1 (zMT A).2 E.1 E.2.1 (E.2.2.2.1 (zmv A)) (E.2.2.2.1 ((zmv A + 1) % E.2.2.1)) two k; cases two <;> simp at this <;> omega) 480
      have X : ∀ m, Cl m A H K C D E F → ∃ m1, f_15 116 (zad A) (E.2.2.2.1 (zmv A)) (E.2.2.2.1 ((zmv A + 1) % E.2.2.1)) (yN n0) (yH κ m) = some (yH κ m1) ∧ m1.1 116 7 = (chS (tSf (zMT A).1 (zMT A).2 E.1 E.2.1) (chV E.2.2.2.2 (zMT A).1 (zMT A).2 E.1 E.2.1 (E.2.2.2.1 (zmv A)) (E.2.2.2.1 ((zmv A + 1) % E.2.2.1)) two) 480).1 ∧ m1.1 116 10 = yN (chS (tSf (zMT A).1 (zMT A).2 E.1 E.2.1) (chV E.2.2.2.2 (zMT A).1 (zMT A).2 E.1 E.2.1 (E.2.2.2.1 (zmv A)) (E.2.2.2.1 ((zmv A + 1) % E.2.2.1)) two) 480).2 ∧ Cl m1 A H K C D E F ∧ yG sC m m1 := fun m c => by
        obtain ⟨m1, e1, T1, b1, b2, F1⟩ := s15 (κ := κ) (hand := E.2.2.2.1 (zmv A)) (hand2 := E.2.2.2.1 ((zmv A + 1) % E.2.2.1)) hN zad_tw (by rcases zad_or (A := A) with ⟨q, -⟩ | ⟨q, -⟩ <;> omega) hk oE.2.2.2 c.mt c.2.2.2.2.2.1.1.1 c.2.2.2.2.2.1.1.2 c.2.2.2.2.2.1.2.2.1
        have G1 : yG (sCh (zad A)) m m1 := F1.g (fun _ _ q => q)
        exact ⟨m1, e1, by rw [et]; exact b1, by rw [et]; exact b2, c.ch o.2.1.1 G1 T1, G1.wk (fun _ _ => sCh_C)⟩
      have Y : ∀ m, Rf m A H K C D E F → _ := fun m c => m243_34 (κ := κ) hN hNp o 480 0 100000 m (by omega) (by omega) c
      generalize hst : chS (tSf (zMT A).1 (zMT A).2 E.1 E.2.1) (chV E.2.2.2.2 (zMT A).1 (zMT A).2 E.1 E.2.1 (E.2.2.2.1 (zmv A)) (E.2.2.2.1 ((zmv A + 1) % E.2.2.1)) two) 480 = st at *
      obtain ⟨mvI, up⟩ := st
      simp only at X Y hle
      have hg : 0 < Nat.gcd up lo := Nat.gcd_pos_of_pos_right _ hlo0
      have hg2 : Nat.gcd up lo ≤ lo := Nat.gcd_le_right _ hlo0
      refine ⟨0, A, H, K, C, [(yN (up / Nat.gcd up lo)).toInt64, (yN (lo / Nat.gcd up lo)).toInt64, mvI.toInt64], E, F, ⟨o.1, o.2.1, o.2.2.1, o.2.2.2.1, by simp, o.2.2.2.2.2⟩, fun m c => ?_, fun m c => ?_⟩
      · obtain ⟨m1, e1, b1, b2, c1, g1⟩ := X m c
        refine ⟨_, ?_, c1.row o.2.1.1 _, g1.tr (rAs_g m1 _) (fun x j q => q.elim id sA3_C)⟩
        have e6 := s126 (κ := κ) (u := zmv A) c.2.2.2.2.2.1 oE (by omega)
        rw [hmod] at e6
        have e7 := s126 (κ := κ) (u := zmv A + 1) c.2.2.2.2.2.1 oE (by omega)
        have e8 := s145 (h := yH κ m1) (x := up) (y := lo) (by omega) hlo hlo0
        have d1 : pDiv (yN up) (yN (Nat.gcd up lo)) = some (yN (up / Nat.gcd up lo)) := yp_divN (by omega) (by omega) (by omega)
        have d2 : pDiv (yN lo) (yN (Nat.gcd up lo)) = some (yN (lo / Nat.gcd up lo)) := yp_divN (by omega) (by omega) (by omega)
        unfold f_144
        rw [if_neg hp0, if_pos h.2, if_neg hNp]
        simp (disch := first | assumption | omega) only [yr_0_8, yis_0, yBs, pG_t, pZ_0, pZ_1, pZ_B, s125z c o, yr_0_2, ys_i1 ysw_5, c.1.2.1, e6, yN_addl, e7, yis_116, e1, yi_116_10, yi_116_7, b1, b2, hl1, e8, yr_0_1, yis_3, s50, d1, d2, s51a, s51b, s51c]
      · obtain ⟨c0, g0⟩ := c.th 0
        obtain ⟨m1, e1, c1, g1⟩ := Y _ c0
        refine ⟨_, ?_, c1.row _, (g0.tr (g1.wk (S3 := sR) (fun _ _ => sCj_R)) (fun _ _ => orSelf)).tr (rBs_g m1 _) (fun x j q => q.elim id sB3_R)⟩
        have e1' : f_243_34 100000 178 (yN n0) 0 (-1) 0 (yH κ (yW m 178 0 0)) = some (yN up, mvI, yH κ m1) := e1
        have e8 : f_164 (yN up).toInt64 (yN lo).toInt64 (yH κ m1) = some ((yN (Nat.gcd up lo)).toInt64, yH κ m1) := s164 (x := up) (y := lo) (by omega) hlo
        have d1 : pDivL (yN up).toInt64 (yN (Nat.gcd up lo)).toInt64 = some (yN (up / Nat.gcd up lo)).toInt64 := pDivL_n (by omega) (by omega) (by omega)
        have d2 : pDivL (yN lo).toInt64 (yN (Nat.gcd up lo)).toInt64 = some (yN (lo / Nat.gcd up lo)).toInt64 := pDivL_n (by omega) (by omega) (by omega)
        have n0z : ¬ (yN n0 : Int32) = 0 := by rw [yN_eql hn0 (by omega)]; omega
        unfold f_243
        rw [yp_178_0, yBs, s162l _ 0 2 0 2 rfl rfl, decide_eq_true h, yBs]
        dsimp only
        rw [if_neg (by decide), if_neg n0z, yBs, e1', yBs]
        dsimp only
        rw [if_neg n0z, hl1, yBs]
        simp (disch := first | assumption | omega) only [e8, yBs, yp_178_1, d1, d2, yis_178, yBs, pG_t, pZ_0, pZ_1, pZ_B, s165_0, s165b, s165c]
  · refine ⟨-1, A, H, K, C, D, E, F, o, zCx.same fun m c => ?_, zCm.same fun m c => ?_⟩
    · unfold f_144
      by_cases h1 : p < 0
      · rw [if_pos h1]
      · rw [if_neg h1, if_neg (fun a => h ⟨yLe_of_lt h1, a⟩)]
    · unfold f_243
      simp (disch := first | assumption | omega) only [yp_178_0, yBs]
      rw [s162l _ 0 2 0 2 rfl rfl, decide_eq_false h]
      simp only [yBs, pZ_0, pZ_1, pZ_B, if_true, if_false, y10, y01, yB_t, yB_f]
