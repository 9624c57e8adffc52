/-! ===== leave(), where(): the reference, and the calls ===== -/
section LW
variable {κ : yK} {m : yM} {s n : Nat} {th : Nat → Int32} {t0 t1 : Int32}
/-- safeMoves() -/
theorem m213_4 (hs : rS4 s) (hk : tOk th n) : ∀ (d k fu : Nat) (m : yM), k + d = 480 → d < fu → Rx m s th n → m.1 178 7 = t0 → m.1 178 8 = t1 → ∃ m', f_213_4 fu 178 s (yN (svS th n t0 t1 k).1) (yN k) (yH κ m) = some (yN (svS th n t0 t1 480).1, yH κ m') ∧ yFr sI m m' := by
  intro d
  induction d with
  | zero =>
    intro k fu m hd hf hx h0 h1
    obtain ⟨fu, rfl⟩ : ∃ k, fu = k + 1 := ⟨fu - 1, by omega⟩
    obtain rfl : k = 480 := by omega
    refine ⟨m, ?_, yFr.rf m⟩
    rw [f_213_4, if_pos (by decide)]
  | succ d ih =>
    intro k fu m hd hf hx h0 h1
    obtain ⟨fu, rfl⟩ : ∃ k, fu = k + 1 := ⟨fu - 1, by omega⟩
    obtain ⟨m1, e1, F1⟩ := rx204 (κ := κ) (mv := k) hs hk hx h0 h1 (by omega)
    obtain ⟨m', e', F'⟩ := ih (k + 1) fu m1 (by omega) (by omega) (hx.fr F1 (fun j _ => by unfold rS4 at hs; unfold sI sM; omega)) (by rw [F1.2 _ _ (by unfold sI sM; omega), h0]) (by rw [F1.2 _ _ (by unfold sI sM; omega), h1])
    refine ⟨m', ?_, F1.tr F' (fun _ _ => orSelf)⟩
    have w2 : ∀ b : Bool, yB b = yN b.toNat := fun b => by cases b <;> rfl
    rw [f_213_4, if_neg (by rw [yN_lle (by omega) (by omega)]; omega)]
    simp (disch := first | assumption | omega) only [yis_178, yBs, pG_t, pZ_0, pZ_1, pZ_B, e1, s163, yN_addl]
    rw [w2, yN_add]
    rw [svS_s _ _ _ _ k] at e'
    exact e'
theorem m213 (hs : rS4 s) (hk : tOk th n) (hx : Rx m s th n) (h0 : m.1 178 7 = t0) (h1 : m.1 178 8 = t1) : ∃ m', f_213 178 s (yH κ m) = some (yN (svS th n t0 t1 480).1, yH κ m') ∧ yFr sI m m' := by
  obtain ⟨m', e', F'⟩ := m213_4 (κ := κ) hs hk 480 0 100000 m (by omega) (by omega) hx h0 h1
  refine ⟨m', ?_, F'⟩
  unfold f_213
  have e2 : f_213_4 100000 178 s 0 0 (yH κ m) = some (yN (svS th n t0 t1 480).1, yH κ m') := e'
  rw [e2, yBs]
theorem svS_480 (hk : tOk th n) : svS th n t0 t1 480 = svS th n t0 t1 (30 * n) := by
  have hn := hk.1
  have := svS_top (t0 := t0) (t1 := t1) hk (480 - 30 * n)
  rwa [show 30 * n + (480 - 30 * n) = 480 by omega] at this
theorem Rx.nf (hx : Rx m s th n) {mv : Nat} (hc : tCg th n mv = true) : m.1 s 50 = 0 := by
  rcases hx with ⟨q1, q2⟩ | ⟨q1, rfl, rfl⟩
  · exact q1
  · rw [tCg_b0] at hc; cases hc
/-- a safe move is made in the row laid -/
theorem mLay {mv : Nat} (hk : tOk th n) (hx : Rx m 180 th n) (h0 : m.1 178 7 = t0) (h1 : m.1 178 8 = t1) (hs : tSf th n t0 t1 mv = true) (hm : mv < 2147483648) : ∃ m1 m2, f_168 180 192 (yH κ m) = some (yH κ m1) ∧ f_203 178 192 (yN mv) (yH κ m1) = some (0, yH κ m2) ∧ Tor m2 192 (tLn th n mv) (tNn th n) ∧ (∀ j, 49 ≤ j → j < 54 → m2.1 192 j = m.1 180 j) ∧ mRs m2 (tLn th n mv) (tNn th n) t0 t1 0 ∧ yFr (fun x j => x = 192 ∨ sM x j) m m2 := by
  have hc := tSf_cg hs
  have hw := tSf_w hk hs
  have T := hx.tor hc
  obtain ⟨m2, e2, T2, R2, F2⟩ := s203 (κ := κ) (t0 := t0) (t1 := t1) yAr_192 (by omega) hk (T.cp (q := 192)) hc (by rw [yR_ne _ _ (by omega), h0]) (by rw [yR_ne _ _ (by omega), h1]) hm
  rw [hw] at e2
  have R2' := R2 (by rw [hw]; omega)
  rw [(tDt_0 hw).1, (tDt_0 hw).2] at T2 R2'
  refine ⟨_, m2, s168 yAr_180 yAr_192 (by omega), e2, T2, fun j p q => ?_, R2', F2.1, fun x j q => ?_⟩
  · rw [F2.2 _ _ (by unfold sD sM; omega), yR_eq, cpR_in q]
  · unfold sM at q
    rw [F2.2 _ _ (by unfold sD sM; omega), yR_ne _ _ (by omega)]
end LW
def lI (st : lT) : Int32 × Int32 × Int32 := match st with
  | none => (-2, 0, 0)
  | some (c, l, o) => (yN c, yN l, yN o)
def sLv (x j : Nat) : Prop := x = 191 ∨ x = 192 ∨ sO x j
theorem sLv_R {x j : Nat} (h : sLv x j) : sR x j := by unfold sLv sO sM at h; unfold sR; omega
theorem sLv_Rs {x j : Nat} (h : sLv x j) : sRs x j := by unfold sLv sO sM at h; unfold sRs; omega
section LX
variable {κ : yK} {m : yM} {A : zT} {H : zH} {K : zK} {C : zC} {D : List Int64} {E : zE} {F : zF}
theorem m214_15 (o : Ok A H K C D E F) : ∀ (d k fu : Nat) (m : yM), k + d = 480 → d < fu → Rf m A H K C D E F → ∃ m', f_214_15 fu 178 (lI (lvS (tSf (zMT A).1 (zMT A).2 E.1 E.2.1) (cnS (zMT A).1 (zMT A).2 E.1 E.2.1) (zOn E.2.2.2.2 (zMT A).1 (zMT A).2 E.1 E.2.1 (E.2.2.2.1 (zmv A)) 0) k)).1 (lI (lvS (tSf (zMT A).1 (zMT A).2 E.1 E.2.1) (cnS (zMT A).1 (zMT A).2 E.1 E.2.1) (zOn E.2.2.2.2 (zMT A).1 (zMT A).2 E.1 E.2.1 (E.2.2.2.1 (zmv A)) 0) k)).2.1 (lI (lvS (tSf (zMT A).1 (zMT A).2 E.1 E.2.1) (cnS (zMT A).1 (zMT A).2 E.1 E.2.1) (zOn E.2.2.2.2 (zMT A).1 (zMT A).2 E.1 E.2.1 (E.2.2.2.1 (zmv A)) 0) k)).2.2 (yN k) (yH κ m) = some ((lI (lvS (tSf (zMT A).1 (zMT A).2 E.1 E.2.1) (cnS (zMT A).1 (zMT A).2 E.1 E.2.1) (zOn E.2.2.2.2 (zMT A).1 (zMT A).2 E.1 E.2.1 (E.2.2.2.1 (zmv A)) 0) 480)).1, (lI (lvS (tSf (zMT A).1 (zMT A).2 E.1 E.2.1) (cnS (zMT A).1 (zMT A).2 E.1 E.2.1) (zOn E.2.2.2.2 (zMT A).1 (zMT A).2 E.1 E.2.1 (E.2.2.2.1 (zmv A)) 0) 480)).2.1, (lI (lvS (tSf (zMT A).1 (zMT A).2 E.1 E.2.1) (cnS (zMT A).1 (zMT A).2 E.1 E.2.1) (zOn E.2.2.2.2 (zMT A).1 (zMT A).2 E.1 E.2.1 (E.2.2.2.1 (zmv A)) 0) 480)).2.2, yH κ m') ∧ Rf m' A H K C D E F ∧ yG sLv m m' := by
  have hk := zMT_ok o.1.1
  have hn := hk.1
  have oE := o.2.2.2.2.2.1
  generalize hth : (zMT A).1 = th at *
  generalize hnn : (zMT A).2 = n at *
  generalize hhd : E.2.2.2.1 (zmv A) = hand at *
  intro d
  induction d with
  | zero =>
    intro k fu m hd hf c
    obtain ⟨fu, rfl⟩ : ∃ k, fu = k + 1 := ⟨fu - 1, by omega⟩
    obtain rfl : k = 480 := by omega
    refine ⟨m, ?_, c, yG.rf m⟩
    rw [f_214_15, if_pos (by decide)]
  | succ d ih =>
    intro k fu m hd hf c
    obtain ⟨fu, rfl⟩ : ∃ k, fu = k + 1 := ⟨fu - 1, by omega⟩
    obtain ⟨m1, e1, c1, g1⟩ := m204 (κ := κ) (mv := k) c o (by omega)
    rw [hth, hnn] at e1
    have G1 : yG sLv m m1 := g1.wk (fun x j q => by unfold sI sM at q; unfold sLv sO sM; omega)
    rw [f_214_15, if_neg (by rw [yN_lle (by omega) (by omega)]; omega)]
    cases hs : tSf th n E.1 E.2.1 k with
    | false =>
      rw [hs, yB_f] at e1
      obtain ⟨m', e', c', g'⟩ := ih (k + 1) fu m1 (by omega) (by omega) c1
      rw [show lvS (tSf th n E.1 E.2.1) (cnS th n E.1 E.2.1) (zOn E.2.2.2.2 th n E.1 E.2.1 hand 0) (k + 1) = lvS (tSf th n E.1 E.2.1) (cnS th n E.1 E.2.1) (zOn E.2.2.2.2 th n E.1 E.2.1 hand 0) k by rw [lvS, if_neg (by rw [hs]; decide)]] at e'
      refine ⟨m', ?_, c', G1.tr g' (fun _ _ => orSelf)⟩
      simp (disch := first | assumption | omega) only [yr_178_3, yis_178, yBs, pG_t, pZ_0, pZ_1, pZ_B, e1, if_true, yN_addl]
      exact e'
    | true =>
      rw [hs, yB_t] at e1
      have hc := tSf_cg hs
      have hkl := tLn_ok hk hc (tSf_2 hs)
      have hN17 := tNn_le (th := th) hn
      have hx1 := c1.rx o
      have hr1 := c1.ro o
      rw [hth, hnn] at hx1
      rw [hhd] at hr1
      obtain ⟨m2, m3, e2, e3, T3, k3, R3, F3⟩ := mLay (κ := κ) hk hx1 hr1.2.2.1 hr1.2.2.2 hs (show k < 2147483648 by omega)
      have G3 : yG sLv m1 m3 := F3.g (fun x j q => by unfold sM at q; unfold sLv sO sM; omega)
      have c3 := c1.fr G3 (fun _ _ => sLv_Rs)
      have hx3 : Rx m3 192 (tLn th n k) (tNn th n) := Or.inl ⟨by rw [k3 50 (by omega) (by omega)]; exact hx1.nf hc, T3⟩
      have hr3 := c3.ro o
      rw [hhd] at hr3
      obtain ⟨m4, e4, F4⟩ := m213 (κ := κ) (Or.inr (Or.inr (Or.inl rfl))) hkl hx3 hr3.2.2.1 hr3.2.2.2
      have G4 : yG sLv m3 m4 := F4.g (fun x j q => by unfold sI sM at q; unfold sLv sO sM; omega)
      have c4 := c3.fr G4 (fun _ _ => sLv_Rs)
      have hx4 := c4.rx o
      have hr4 := c4.ro o
      rw [hth, hnn] at hx4
      rw [hhd] at hr4
      obtain ⟨m5, e5, F5⟩ := rx208 (κ := κ) (j := 0) (Or.inl rfl) hk hx4 hr4 (by rw [← hhd]; exact oE.2.2.1 _ o.1.2) oE.2.2.2 hc (show k < 2147483648 by omega)
      have G5 : yG sLv m4 m5 := F5.g (fun _ _ q => Or.inr (Or.inr q))
      have c5 := c4.fr G5 (fun _ _ => sLv_Rs)
      have GG := ((G1.tr G3 (S3 := sLv) (fun _ _ => orSelf)).tr G4 (S3 := sLv) (fun _ _ => orSelf)).tr G5 (S3 := sLv) (fun _ _ => orSelf)
      obtain ⟨m', e', c', g'⟩ := ih (k + 1) fu m5 (by omega) (by omega) c5
      rw [show lvS (tSf th n E.1 E.2.1) (cnS th n E.1 E.2.1) (zOn E.2.2.2.2 th n E.1 E.2.1 hand 0) (k + 1) = lvN (lvS (tSf th n E.1 E.2.1) (cnS th n E.1 E.2.1) (zOn E.2.2.2.2 th n E.1 E.2.1 hand 0) k) k (cnS th n E.1 E.2.1 k) (zOn E.2.2.2.2 th n E.1 E.2.1 hand 0 k) by rw [lvS, if_pos hs]] at e'
      have hcn : cnS th n E.1 E.2.1 k = (svS (tLn th n k) (tNn th n) E.1 E.2.1 480).1 := by unfold cnS; rw [if_pos (by omega), svS_480 hkl]
      rw [← hcn] at e4
      have hcl := cnS_le th n E.1 E.2.1 k
      have ho := (zOn_eq E.2.2.2.2 th n E.1 E.2.1 hand 0 k).2
      have hb0 := lvS_B (P := tSf th n E.1 E.2.1) (cnS_le th n E.1 E.2.1) (fun k => (zOn_eq E.2.2.2.2 th n E.1 E.2.1 hand 0 k).2) k (by omega)
      have e5' : f_208 178 180 (yN k) 0 (yH κ m4) = some (yN (zOn E.2.2.2.2 th n E.1 E.2.1 hand 0 k), yH κ m5) := e5
      refine ⟨m', ?_, c', GG.tr g' (fun _ _ => orSelf)⟩
      rw [yr_178_3, yBs, yis_178, pG_t, yBs, e1, yBs]
      dsimp only
      rw [if_neg (by decide), yr_178_3, yBs, yr_178_27, yBs, e2, yBs, yr_178_27, yBs, yis_178, pG_t, yBs, e3, yBs]
      dsimp only
      rw [yr_178_27, yBs, yis_178, pG_t, yBs, e4, yBs]
      dsimp only
      rw [yr_178_3, yBs, yis_178, pG_t, yBs, e5', yBs]
      dsimp only
      generalize lvS (tSf th n E.1 E.2.1) (cnS th n E.1 E.2.1) (zOn E.2.2.2.2 th n E.1 E.2.1 hand 0) k = st at *
      generalize zOn E.2.2.2.2 th n E.1 E.2.1 hand 0 k = oz at *
      generalize cnS th n E.1 E.2.1 k = cz at *
      rw [yN_addl]
      match st, hb0, e' with
      | none, hb0, e' =>
        rw [if_pos (by decide), yBs]
        exact e'
      | some (cc, l, oo), hb0, e' =>
        obtain ⟨b1, b2, b3⟩ := hb0 _ _ _ rfl
        unfold lI
        dsimp only
        rw [if_neg (by rw [yN_ltl (by omega) (by omega)]; omega)]
        by_cases q1 : cz < l
        · have es : lvN (some (cc, l, oo)) k cz oz = some (k, cz, oz) := if_pos (Or.inl q1)
          rw [if_pos (by rw [yN_lt (by omega) (by omega)]; exact q1), yBs]
          rw [es] at e'; exact e'
        · rw [if_neg (by rw [yN_lt (by omega) (by omega)]; exact q1)]
          by_cases q2 : cz = l
          · rw [if_pos (by rw [q2])]
            by_cases q3 : oz < oo
            · have es : lvN (some (cc, l, oo)) k cz oz = some (k, cz, oz) := if_pos (Or.inr ⟨q2, q3⟩)
              rw [if_neg (by rw [yN_le (by omega) (by omega)]; omega), yBs]
              rw [es] at e'; exact e'
            · have es : lvN (some (cc, l, oo)) k cz oz = some (cc, l, oo) := if_neg (by omega)
              rw [if_pos (by rw [yN_le (by omega) (by omega)]; omega), yBs]
              rw [es] at e'; exact e'
          · have es : lvN (some (cc, l, oo)) k cz oz = some (cc, l, oo) := if_neg (by omega)
            rw [if_neg (by rw [yN_eq (by omega) (by omega)]; exact q2), yBs]
            rw [es] at e'; exact e'
end LX
theorem z_leave : zCall (f_130 0) (f_214 178) := by
  intro κ A H K C D E F o
  have hk := zMT_ok o.1.1
  have hn := hk.1
  have oE := o.2.2.2.2.2.1
  have hm4 := o.1.1.2.2.1
  have hmod : zmv A % E.2.2.1 = zmv A := Nat.mod_eq_of_lt o.1.2
  have et := lvS_top (P := tSf (zMT A).1 (zMT A).2 E.1 E.2.1) (cn := cnS (zMT A).1 (zMT A).2 E.1 E.2.1) (O := zOn E.2.2.2.2 (zMT A).1 (zMT A).2 E.1 E.2.1 (E.2.2.2.1 (zmv A)) 0) (fun mv h => tSf_lt hk h) (480 - 30 * (zMT A).2)
  rw [show 30 * (zMT A).2 + (480 - 30 * (zMT A).2) = 480 by omega] at et
  have hb := lvS_B (P := tSf (zMT A).1 (zMT A).2 E.1 E.2.1) (cnS_le (zMT A).1 (zMT A).2 E.1 E.2.1) (fun k => (zOn_eq E.2.2.2.2 (zMT A).1 (zMT A).2 E.1 E.2.1 (E.2.2.2.1 (zmv A)) 0 k).2) 480 (by omega)
  have X : ∀ m, Cl m A H K C D E F → ∃ m1, f_13 116 (zad A) (E.2.2.2.1 (zmv A)) (yH κ m) = some (yH κ m1) ∧ Lo m1 (lvS (tSf (zMT A).1 (zMT A).2 E.1 E.2.1) (cnS (zMT A).1 (zMT A).2 E.1 E.2.1) (zOn E.2.2.2.2 (zMT A).1 (zMT A).2 E.1 E.2.1 (E.2.2.2.1 (zmv A)) 0) 480) ∧ Cl m1 A H K C D E F ∧ yG sC m m1 := fun m c => by
    obtain ⟨m1, e1, T1, B1, F1⟩ := s13 (κ := κ) (hand := E.2.2.2.1 (zmv A)) zad_tw (by rcases zad_or (A := A) with ⟨q, -⟩ | ⟨q, -⟩ <;> omega) hk oE.2.2.2 c.mt c.2.2.2.2.2.1.1.1 c.2.2.2.2.2.1.1.2 c.2.2.2.2.2.1.2.2.1
    have G1 : yG (sCh (zad A)) m m1 := F1.g (fun _ _ q => q)
    exact ⟨m1, e1, by rw [et]; exact B1, c.ch o.2.1.1 G1 T1, G1.wk (fun _ _ => sCh_C)⟩
  have Y : ∀ m, Rf m A H K C D E F → _ := fun m c => m214_15 (κ := κ) o 480 0 100000 m (by omega) (by omega) c
  generalize lvS (tSf (zMT A).1 (zMT A).2 E.1 E.2.1) (cnS (zMT A).1 (zMT A).2 E.1 E.2.1) (zOn E.2.2.2.2 (zMT A).1 (zMT A).2 E.1 E.2.1 (E.2.2.2.1 (zmv A)) 0) 480 = st at *
  have e6 : ∀ m, Cl m A H K C D E F → f_126 0 (yN (zmv A)) (yH κ m) = some (E.2.2.2.1 (zmv A), yH κ m) := fun m c => by
    have := s126 (κ := κ) (u := zmv A) c.2.2.2.2.2.1 oE (by omega)
    rw [hmod] at this; exact this
  match st, hb, X, Y with
  | none, hb, X, Y =>
    refine ⟨-2, A, H, K, C, D, E, F, o, fun m c => ?_, fun m c => ?_⟩
    · obtain ⟨m1, e1, B1, c1, g1⟩ := X m c
      refine ⟨m1, ?_, c1, g1⟩
      have b1 : m1.1 116 7 = -1 := B1
      unfold f_130
      simp (disch := first | assumption | omega) only [yr_0_8, yis_0, yBs, pG_t, pZ_0, pZ_1, pZ_B, s125z c o, yr_0_2, ys_i1 ysw_5, c.1.2.1, e6 m c, yis_116, e1, yi_116_7, b1, if_true]
    · obtain ⟨c0, g0⟩ := c.th 0
      obtain ⟨m1, e1, c1, g1⟩ := Y _ c0
      refine ⟨m1, ?_, c1, g0.tr (g1.wk (S3 := sR) (fun _ _ => sLv_R)) (fun _ _ => orSelf)⟩
      have e1' : f_214_15 100000 178 (-2) 0 0 0 (yH κ (yW m 178 0 0)) = some (-2, 0, 0, yH κ m1) := e1
      unfold f_214
      rw [yp_178_0, yBs, e1', yBs]
      dsimp only
      rw [if_neg (by decide)]
  | some (cc, l, oo), hb, X, Y =>
    obtain ⟨h1, h2, h3⟩ := hb _ _ _ rfl
    refine ⟨yN cc, A, H, K, C, [(yN l).toInt64, (yN oo).toInt64], E, F, ⟨o.1, o.2.1, o.2.2.1, o.2.2.2.1, by simp, o.2.2.2.2.2⟩, fun m c => ?_, fun m c => ?_⟩
    · obtain ⟨m1, e1, B1, c1, g1⟩ := X m c
      refine ⟨_, ?_, c1.row o.2.1.1 _, g1.tr (rAs_g m1 _) (fun x j q => q.elim id sA3_C)⟩
      obtain ⟨b1, b2, b3⟩ := B1
      have k1 : ∀ l : List Int64, (rAs m1 l).1 116 = m1.1 116 := fun l => rAs_row (by omega)
      have b1n : (yN cc = -1) = False := yN_eqm (by omega)
      unfold f_130
      simp (disch := first | assumption | omega) only [yr_0_8, yis_0, yBs, pG_t, pZ_0, pZ_1, pZ_B, s125z c o, yr_0_2, ys_i1 ysw_5, c.1.2.1, e6 m c, yis_116, e1, yi_116_7, b1, b1n, if_false, yr_0_1, yis_3, s50, s51a, s51b, yi_116_8, yi_116_10, k1, b2, b3]
    · obtain ⟨c0, g0⟩ := c.th 0
      obtain ⟨m1, e1, c1, g1⟩ := Y _ c0
      refine ⟨_, ?_, c1.row _, (g0.tr (g1.wk (S3 := sR) (fun _ _ => sLv_R)) (fun _ _ => orSelf)).tr (rBs_g m1 _) (fun x j q => q.elim id sB3_R)⟩
      have e1' : f_214_15 100000 178 (-2) 0 0 0 (yH κ (yW m 178 0 0)) = some (yN cc, yN l, yN oo, yH κ m1) := e1
      unfold f_214
      rw [yp_178_0, yBs, e1', yBs]
      dsimp only
      rw [if_pos (by rw [yI0n (by omega)]; trivial)]
      simp (disch := first | assumption | omega) only [yp_178_1, yis_178, yBs, pG_t, pZ_0, pZ_1, pZ_B, s165_0, s165b]
/-! where() -/
abbrev wT : Type := Option (Nat × Int32)
def whN (st : wT) (p : Nat) (v : Int32) : wT := match st with
  | none => some (p, v)
  | some (q, w) => if v ≤ w then some (q, w) else some (p, v)
def whS (P : Nat → Bool) (V : Nat → Int32) (b : Nat) : Nat → wT
  | 0 => none
  | k + 1 => if P (10 * b + k) = true then whN (whS P V b k) k (V (10 * b + k)) else whS P V b k
def whV (th : Nat → Int32) (n : Nat) (t0 t1 : Int32) (mv : Nat) : Int32 := (wB (tLn th n mv) (tNn th n) t0 t1 (tNn th n)).2.2.2
theorem whS_lt {P : Nat → Bool} {V : Nat → Int32} {b : Nat} : ∀ k q w, whS P V b k = some (q, w) → q < k := by
  intro k
  induction k with
  | zero => intro q w e; cases e
  | succ k ih =>
    intro q w e
    rw [whS] at e
    split at e
    · cases hs : whS P V b k with
      | none => rw [hs] at e; cases e; omega
      | some x =>
        obtain ⟨q2, w2⟩ := x
        rw [hs] at e
        unfold whN at e
        simp only at e
        split at e
        · cases e; have := ih _ _ hs; omega
        · cases e; omega
    · have := ih _ _ e; omega
def Wo (m : yM) (st : wT) : Prop := match st with
  | none => m.1 116 7 = -1
  | some (p, v) => m.1 116 7 = yN p ∧ m.1 116 10 = v
theorem Wo.fr {m m' : yM} {st : wT} (h : Wo m st) (e : ∀ j, 7 ≤ j → m'.1 116 j = m.1 116 j) : Wo m' st := by
  match st, h with
  | none, h => exact (e 7 (by omega)).trans h
  | some (p, v), h => exact ⟨(e 7 (by omega)).trans h.1, (e 10 (by omega)).trans h.2⟩
section WH
variable {κ : yK} {m : yM} {a n b : Nat} {th : Nat → Int32} {t0 t1 : Int32}
theorem s14_7 (ha : yTw a) (hd : a + 4 < 105 ∨ 117 < a) (hk : tOk th n) (hb : b < 48) : ∀ (d k fu : Nat) (m : yM), k + d = 3 → d < fu → Tow m a th n → m.1 106 0 = t0 → m.1 106 1 = t1 → Wo m (whS (tSf th n t0 t1) (whV th n t0 t1) b k) →
    ∃ m', f_14_7 fu 116 a (yN b) (yN k) (yH κ m) = some (yH κ m') ∧ Tow m' a th n ∧ Wo m' (whS (tSf th n t0 t1) (whV th n t0 t1) b 3) ∧ yFr (sCh a) m m' := by
  intro d
  induction d with
  | zero =>
    intro k fu m hd2 hf ht h0 h1 hB
    obtain ⟨fu, rfl⟩ : ∃ k, fu = k + 1 := ⟨fu - 1, by omega⟩
    obtain rfl : k = 3 := by omega
    refine ⟨m, ?_, ht, hB, yFr.rf m⟩
    rw [f_14_7, if_pos (by decide)]
  | succ d ih =>
    intro k fu m hd2 hf ht h0 h1 hB
    obtain ⟨fu, rfl⟩ : ∃ k, fu = k + 1 := ⟨fu - 1, by omega⟩
    obtain ⟨m1, e1, T1, R1, F1⟩ := s7 (κ := κ) (mv := 10 * b + k) ha (by omega) hk ht h0 h1 (by omega)
    have F1' : yFr (sCh a) m m1 := F1.wk (fun x j q => by unfold sTW sT sW at q; unfold sCh sT sW; omega)
    have B1 : Wo m1 (whS (tSf th n t0 t1) (whV th n t0 t1) b k) := hB.fr (fun j p => F1.2 _ _ (by unfold sTW sT sW; omega))
    have ea : (10 * yN b + yN k : Int32) = yN (10 * b + k) := by rw [yN_lmul, yN_add]
    have keep : ∀ m1, yFr (sCh a) m m1 → m1.1 106 0 = t0 ∧ m1.1 106 1 = t1 := fun m1 F => ⟨by rw [F.2 _ _ (by unfold sCh sT sW; omega), h0], by rw [F.2 _ _ (by unfold sCh sT sW; omega), h1]⟩
    rw [f_14_7, if_neg (by rw [yN_lle (by omega) (by omega)]; omega), ea, yis_116, pG_t, yBs, e1, yBs]
    dsimp only
    cases hs : tSf th n t0 t1 (10 * b + k) with
    | false =>
      obtain ⟨m', e', T', B', F'⟩ := ih (k + 1) fu m1 (by omega) (by omega) T1 (keep _ F1').1 (keep _ F1').2 (by rw [whS, if_neg (by rw [hs]; decide)]; exact B1)
      refine ⟨m', ?_, T', B', F1'.tr F' (fun _ _ => orSelf)⟩
      rw [if_pos (by decide), yBs, yN_addl]
      exact e'
    | true =>
      have eb : whS (tSf th n t0 t1) (whV th n t0 t1) b (k + 1) = whN (whS (tSf th n t0 t1) (whV th n t0 t1) b k) k (whV th n t0 t1 (10 * b + k)) := by rw [whS, if_pos hs]
      have r7 : m1.1 105 7 = whV th n t0 t1 (10 * b + k) := by
        have := (R1 hs).2.2.2.1
        rw [Nat.sub_zero] at this; exact this
      have hlt : ∀ q w, whS (tSf th n t0 t1) (whV th n t0 t1) b k = some (q, w) → q < k := whS_lt k
      generalize whS (tSf th n t0 t1) (whV th n t0 t1) b k = st at *
      generalize whV th n t0 t1 (10 * b + k) = v at *
      have w116 : ∀ (m : yM) (j : Nat) (x : Int32), yFr (sCh a) m (yW m 116 j x) := fun m j x => yFr.w m (by unfold sCh; omega)
      have Fw := (F1'.tr (w116 m1 7 (yN k)) (fun _ _ => orSelf)).tr (w116 _ 10 v) (fun _ _ => orSelf)
      have Tw : Tow (yW (yW m1 116 7 (yN k)) 116 10 v) a th n := by
        have t : ∀ (m : yM) (j : Nat) (x : Int32), Tow m a th n → Tow (yW m 116 j x) a th n := fun m j x h => h.g (yG.w (S := fun x _ => x = 116) m rfl) (fun x j p q r => by have : x = 116 := r; omega)
        exact t _ _ _ (t _ _ _ T1)
      have Ww : Wo (yW (yW m1 116 7 (yN k)) 116 10 v) (some (k, v)) := ⟨by simp [yW_get], by simp [yW_get]⟩
      have r7w : (yW m1 116 7 (yN k)).1 105 7 = v := by rw [yW_row (by omega), r7]
      rw [if_neg (by decide), yi_116_7, yBs]
      match st, hlt, B1, eb with
      | none, hlt, B1, eb =>
        have b1 : m1.1 116 7 = -1 := B1
        obtain ⟨m', e', T', B', F'⟩ := ih (k + 1) fu _ (by omega) (by omega) Tw (keep _ Fw).1 (keep _ Fw).2 (by rw [eb]; exact Ww)
        refine ⟨m', ?_, T', B', Fw.tr F' (fun _ _ => orSelf)⟩
        rw [b1, if_pos rfl]
        simp (disch := first | assumption | omega) only [yp_116_7, yr_116_0, yi_105_7, r7w, yp_116_10, yBs, yN_addl]
        exact e'
      | some (q, w), hlt, B1, eb =>
        obtain ⟨b1, b2⟩ := B1
        have := hlt _ _ rfl
        rw [b1, if_neg (by rw [yN_eqm (by omega)]; exact id), yr_116_0, yBs, yi_105_7, yBs, r7, yi_116_10, yBs, b2]
        by_cases hv : v ≤ w
        · obtain ⟨m', e', T', B', F'⟩ := ih (k + 1) fu m1 (by omega) (by omega) T1 (keep _ F1').1 (keep _ F1').2 (by rw [eb, show whN (some (q, w)) k v = some (q, w) from if_pos hv]; exact ⟨b1, b2⟩)
          refine ⟨m', ?_, T', B', F1'.tr F' (fun _ _ => orSelf)⟩
          rw [if_pos hv, yBs, yN_addl]
          exact e'
        · obtain ⟨m', e', T', B', F'⟩ := ih (k + 1) fu _ (by omega) (by omega) Tw (keep _ Fw).1 (keep _ Fw).2 (by rw [eb, show whN (some (q, w)) k v = some (k, v) from if_neg hv]; exact Ww)
          refine ⟨m', ?_, T', B', Fw.tr F' (fun _ _ => orSelf)⟩
          rw [if_neg hv]
          simp (disch := first | assumption | omega) only [yp_116_7, yr_116_0, yi_105_7, r7w, yp_116_10, yBs, yN_addl]
          exact e'
theorem s14 (ha : yTw a) (hd : a + 4 < 105 ∨ 117 < a) (hk : tOk th n) (hb : b < 48) (ht : Tow m a th n) (h0 : m.1 106 0 = t0) (h1 : m.1 106 1 = t1) :
    ∃ m', f_14 116 a (yN b) (yH κ m) = some (yH κ m') ∧ Tow m' a th n ∧ Wo m' (whS (tSf th n t0 t1) (whV th n t0 t1) b 3) ∧ yFr (sCh a) m m' := by
  have F0 : yFr (sCh a) m (yW m 116 7 (-1)) := yFr.w m (by unfold sCh; omega)
  obtain ⟨m', e', T', B', F'⟩ := s14_7 (κ := κ) (t0 := t0) (t1 := t1) ha hd hk hb 3 0 100000 (yW m 116 7 (-1)) (by omega) (by omega) (ht.g (yG.w (S := fun x _ => x = 116) m rfl) (fun x j p q r => by have : x = 116 := r; omega)) (by rw [yW_row (by omega), h0]) (by rw [yW_row (by omega), h1]) (by show (yW m 116 7 (-1)).1 116 7 = -1; rw [yW_self, upd_eq])
  refine ⟨m', ?_, T', B', F0.tr F' (fun _ _ => orSelf)⟩
  unfold f_14
  have e2 : f_14_7 100000 116 a (yN b) 0 (yH κ (yW m 116 7 (-1))) = some (yH κ m') := e'
  simp (disch := first | assumption | omega) only [yBs, pG_t, pZ_0, pZ_1, pZ_B, yp_116_7, e2]
end WH
def wI (st : wT) : Int32 × Int32 := match st with
  | none => (-2, 0)
  | some (p, v) => (yN p, v)
section WI
variable {κ : yK} {m : yM} {A : zT} {H : zH} {K : zK} {C : zC} {D : List Int64} {E : zE} {F : zF}
theorem m215_26 {b : Nat} (o : Ok A H K C D E F) (hb : b < 48) : ∀ (d k fu : Nat) (m : yM), k + d = 3 → d < fu → Rf m A H K C D E F → ∃ m', f_215_26 fu 178 (yN b) (wI (whS (tSf (zMT A).1 (zMT A).2 E.1 E.2.1) (whV (zMT A).1 (zMT A).2 E.1 E.2.1) b k)).1 (wI (whS (tSf (zMT A).1 (zMT A).2 E.1 E.2.1) (whV (zMT A).1 (zMT A).2 E.1 E.2.1) b k)).2 (yN k) (yH κ m) = some ((wI (whS (tSf (zMT A).1 (zMT A).2 E.1 E.2.1) (whV (zMT A).1 (zMT A).2 E.1 E.2.1) b 3)).1, (wI (whS (tSf (zMT A).1 (zMT A).2 E.1 E.2.1) (whV (zMT A).1 (zMT A).2 E.1 E.2.1) b 3)).2, yH κ m') ∧ Rf m' A H K C D E F ∧ yG sLv m m' := by
  have hk := zMT_ok o.1.1
  have hn := hk.1
  generalize hth : (zMT A).1 = th at *
  generalize hnn : (zMT A).2 = n at *
  intro d
  induction d with
  | zero =>
    intro k fu m hd hf c
    obtain ⟨fu, rfl⟩ : ∃ k, fu = k + 1 := ⟨fu - 1, by omega⟩
    obtain rfl : k = 3 := by omega
    refine ⟨m, ?_, c, yG.rf m⟩
    rw [f_215_26, if_pos (by decide)]
  | succ d ih =>
    intro k fu m hd hf c
    obtain ⟨fu, rfl⟩ : ∃ k, fu = k + 1 := ⟨fu - 1, by omega⟩
    obtain ⟨m1, e1, c1, g1⟩ := m204 (κ := κ) (mv := 10 * b + k) c o (by omega)
    rw [hth, hnn] at e1
    have G1 : yG sLv m m1 := g1.wk (fun x j q => by unfold sI sM at q; unfold sLv sO sM; omega)
    have ea : (10 * yN b + yN k : Int32) = yN (10 * b + k) := by rw [yN_lmul, yN_add]
    rw [f_215_26, if_neg (by rw [yN_lle (by omega) (by omega)]; omega), ea, yr_178_3, yBs, yis_178, pG_t, yBs, e1, yBs]
    dsimp only
    cases hs : tSf th n E.1 E.2.1 (10 * b + k) with
    | false =>
      obtain ⟨m', e', c', g'⟩ := ih (k + 1) fu m1 (by omega) (by omega) c1
      rw [show whS (tSf th n E.1 E.2.1) (whV th n E.1 E.2.1) b (k + 1) = whS (tSf th n E.1 E.2.1) (whV th n E.1 E.2.1) b k by rw [whS, if_neg (by rw [hs]; decide)]] at e'
      refine ⟨m', ?_, c', G1.tr g' (fun _ _ => orSelf)⟩
      rw [if_pos (by decide), yBs, yN_addl]
      exact e'
    | true =>
      have hc := tSf_cg hs
      have hkl := tLn_ok hk hc (tSf_2 hs)
      have hx1 := c1.rx o
      have hr1 := c1.ro o
      rw [hth, hnn] at hx1
      obtain ⟨m2, m3, e2, e3, T3, k3, R3, F3⟩ := mLay (κ := κ) hk hx1 hr1.2.2.1 hr1.2.2.2 hs (show 10 * b + k < 2147483648 by omega)
      have G3 : yG sLv m1 m3 := F3.g (fun x j q => by unfold sM at q; unfold sLv sO sM; omega)
      have c3 := c1.fr G3 (fun _ _ => sLv_Rs)
      obtain ⟨m4, e4, R4, F4⟩ := s187 (κ := κ) yAr_192 (by omega) hkl T3 c3.2.2.2.2.2.1.1.1 c3.2.2.2.2.2.1.1.2
      have G4 : yG sLv m3 m4 := F4.g (fun x j q => by unfold sM at q; unfold sLv sO sM; omega)
      have c4 := c3.fr G4 (fun _ _ => sLv_Rs)
      have GG := (G1.tr G3 (S3 := sLv) (fun _ _ => orSelf)).tr G4 (S3 := sLv) (fun _ _ => orSelf)
      obtain ⟨m', e', c', g'⟩ := ih (k + 1) fu m4 (by omega) (by omega) c4
      rw [show whS (tSf th n E.1 E.2.1) (whV th n E.1 E.2.1) b (k + 1) = whN (whS (tSf th n E.1 E.2.1) (whV th n E.1 E.2.1) b k) k (whV th n E.1 E.2.1 (10 * b + k)) by rw [whS, if_pos hs]] at e'
      have w : ∀ r : Option Int32, r = (pFi (yH κ m4) 178 12 23).bind (fun x46 => if (0 : Int32) ≤ x46 then (pFr (yH κ m4) 178 12 22).bind fun x53 => (pFi (yH κ m4) 178 12 23).bind fun x54 => (pAi (yH κ m4) x53 x54).bind fun x55 => some x55 else some 0) → r = some (whV th n E.1 E.2.1 (10 * b + k)) := fun r e => by
        rw [e]
        rcases mLst hkl.1 R4 with ⟨i, q1, q2, q3, q4, -⟩ | ⟨q2, q4, -⟩
        · have hN := hkl.1
          simp (disch := first | assumption | omega) only [yi_178_23, q2, yBs, yI0n, if_true, yr_178_22, ya_190, q4]
          rfl
        · simp (disch := first | assumption | omega) only [yi_178_23, q2, yBs, yI0m, if_false]
          unfold whV; rw [q4]
      have hlt : ∀ q w, whS (tSf th n E.1 E.2.1) (whV th n E.1 E.2.1) b k = some (q, w) → q < k := whS_lt k
      refine ⟨m', ?_, c', GG.tr g' (fun _ _ => orSelf)⟩
      rw [if_neg (by decide), yr_178_3, yBs, yr_178_27, yBs, e2, yBs, yr_178_27, yBs, yis_178, pG_t, yBs, e3, yBs]
      dsimp only
      rw [yr_178_27, yBs, yis_178, pG_t, yBs, e4, yBs]
      dsimp only
      have w' := w _ rfl
      rw [yi_178_23, yBs] at w' ⊢
      rw [w', yBs]
      generalize whS (tSf th n E.1 E.2.1) (whV th n E.1 E.2.1) b k = st at *
      generalize whV th n E.1 E.2.1 (10 * b + k) = v at *
      rw [yN_addl]
      match st, hlt, e' with
      | none, hlt, e' =>
        rw [if_pos (by decide), yBs]
        exact e'
      | some (q, w), hlt, e' =>
        have := hlt _ _ rfl
        unfold wI
        dsimp only
        rw [if_neg (by rw [yN_ltl (by omega) (by omega)]; omega)]
        by_cases hv : v ≤ w
        · rw [if_pos hv, yBs]
          rw [show whN (some (q, w)) k v = some (q, w) from if_pos hv] at e'; exact e'
        · rw [if_neg hv, yBs]
          rw [show whN (some (q, w)) k v = some (k, v) from if_neg hv] at e'; exact e'
end WI
theorem z_where (p : Int32) : zCall (f_131 0 p) (f_215 178 p) := by
  intro κ A H K C D E F o
  have hk := zMT_ok o.1.1
  by_cases h : tHasI (zth A) p = true
  · have hp : ¬ p < 0 := fun r => by unfold tHasI at h; simp [r] at h
    obtain ⟨b, hb, rfl⟩ := yN_of hp
    have h4 : tHas (zth A) b = true := by unfold tHasI at h; simpa [hp, yI_cl hb] using h
    have h48 := tHas_lt h4
    have X : ∀ m, Cl m A H K C D E F → ∃ m1, f_14 116 (zad A) (yN b) (yH κ m) = some (yH κ m1) ∧ Wo m1 (whS (tSf (zMT A).1 (zMT A).2 E.1 E.2.1) (whV (zMT A).1 (zMT A).2 E.1 E.2.1) b 3) ∧ Cl m1 A H K C D E F ∧ yG sC m m1 := fun m c => by
      obtain ⟨m1, e1, T1, B1, F1⟩ := s14 (κ := κ) zad_tw (by rcases zad_or (A := A) with ⟨q, -⟩ | ⟨q, -⟩ <;> omega) hk h48 c.mt c.2.2.2.2.2.1.1.1 c.2.2.2.2.2.1.1.2
      have G1 : yG (sCh (zad A)) m m1 := F1.g (fun _ _ q => q)
      exact ⟨m1, e1, B1, c.ch o.2.1.1 G1 T1, G1.wk (fun _ _ => sCh_C)⟩
    have Y : ∀ m, Rf m A H K C D E F → _ := fun m c => m215_26 (κ := κ) o h48 3 0 100000 m (by omega) (by omega) c
    have hlt : ∀ q w, whS (tSf (zMT A).1 (zMT A).2 E.1 E.2.1) (whV (zMT A).1 (zMT A).2 E.1 E.2.1) b 3 = some (q, w) → q < 3 := whS_lt 3
    generalize whS (tSf (zMT A).1 (zMT A).2 E.1 E.2.1) (whV (zMT A).1 (zMT A).2 E.1 E.2.1) b 3 = st at *
    match st, hlt, X, Y with
    | none, hlt, X, Y =>
      refine ⟨-2, A, H, K, C, D, E, F, o, fun m c => ?_, fun m c => ?_⟩
      · obtain ⟨m1, e1, B1, c1, g1⟩ := X m c
        refine ⟨m1, ?_, c1, g1⟩
        have b1 : m1.1 116 7 = -1 := B1
        unfold f_131
        simp (disch := first | assumption | omega) only [yr_0_2, ys5_0, yt_is ytw_6, s90 ytw_6 c.1.1.1, h4, yB_t, y10, if_false, yr_0_8, yis_0, yBs, pG_t, pZ_0, pZ_1, pZ_B, s125z c o, yis_116, e1, yi_116_7, b1, if_true]
      · obtain ⟨c0, g0⟩ := c.th 0
        obtain ⟨m1, e1, c1, g1⟩ := Y _ c0
        refine ⟨m1, ?_, c1, g0.tr (g1.wk (S3 := sR) (fun _ _ => sLv_R)) (fun _ _ => orSelf)⟩
        have e1' : f_215_26 100000 178 (yN b) (-2) 0 0 (yH κ (yW m 178 0 0)) = some (-2, 0, yH κ m1) := e1
        unfold f_215
        rw [yp_178_0, yBs, yr_178_3, yBs, s169 yAr_180 c0.1.tor o.1.1.1.2.1 hb, h4, yBs]
        dsimp only
        rw [if_neg (by decide), e1', yBs]
        dsimp only
        rw [if_neg (by decide)]
    | some (q, w), hlt, X, Y =>
      have hq3 := hlt _ _ rfl
      refine ⟨yN q, A, H, K, C, [w.toInt64], E, F, ⟨o.1, o.2.1, o.2.2.1, o.2.2.2.1, by simp, o.2.2.2.2.2⟩, fun m c => ?_, fun m c => ?_⟩
      · obtain ⟨m1, e1, B1, c1, g1⟩ := X m c
        refine ⟨_, ?_, c1.row o.2.1.1 _, g1.tr (rAs_g m1 _) (fun x j q => q.elim id sA3_C)⟩
        obtain ⟨b1, b2⟩ := B1
        have k1 : ∀ l : List Int64, (rAs m1 l).1 116 = m1.1 116 := fun l => rAs_row (by omega)
        have b1n : (yN q = -1) = False := yN_eqm (by omega)
        unfold f_131
        simp (disch := first | assumption | omega) only [yr_0_2, ys5_0, yt_is ytw_6, s90 ytw_6 c.1.1.1, h4, yB_t, y10, if_false, yr_0_8, yis_0, yBs, pG_t, pZ_0, pZ_1, pZ_B, s125z c o, yis_116, e1, yi_116_7, b1, b1n, yr_0_1, yis_3, s50, s51a, yi_116_10, k1, b2]
      · obtain ⟨c0, g0⟩ := c.th 0
        obtain ⟨m1, e1, c1, g1⟩ := Y _ c0
        refine ⟨_, ?_, c1.row _, (g0.tr (g1.wk (S3 := sR) (fun _ _ => sLv_R)) (fun _ _ => orSelf)).tr (rBs_g m1 _) (fun x j q => q.elim id sB3_R)⟩
        have e1' : f_215_26 100000 178 (yN b) (-2) 0 0 (yH κ (yW m 178 0 0)) = some (yN q, w, yH κ m1) := e1
        unfold f_215
        rw [yp_178_0, yBs, yr_178_3, yBs, s169 yAr_180 c0.1.tor o.1.1.1.2.1 hb, h4, yBs]
        dsimp only
        rw [if_neg (by decide), e1', yBs]
        dsimp only
        rw [if_pos (by rw [yI0n (by omega)]; trivial)]
        simp (disch := first | assumption | omega) only [yp_178_1, yis_178, yBs, pG_t, pZ_0, pZ_1, pZ_B, s165_0]
  · simp only [Bool.not_eq_true] at h
    refine ⟨-1, A, H, K, C, D, E, F, o, zCx.same fun m c => ?_, zCm.same fun m c => ?_⟩
    · unfold f_131
      simp (disch := first | assumption | omega) only [yr_0_2, ys5_0, yt_is ytw_6, s90I ytw_6 c.1.1.1, h, yB_f, if_true, yBs, pG_t, pZ_0, pZ_1, pZ_B]
    · obtain ⟨c0, g0⟩ := c.th 0
      unfold f_215
      simp (disch := first | assumption | omega) only [yp_178_0, yr_178_3, s169I yAr_180 c0.1.tor o.1.1.1.2.1, h, yB_f, if_true, yBs, pG_t, pZ_0, pZ_1, pZ_B]
