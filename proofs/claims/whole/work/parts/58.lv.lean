/-! ===== leave(), where() ===== -/
theorem tSf_2 {th : Nat → Int32} {n mv : Nat} {t0 t1 : Int32} (h : tSf th n t0 t1 mv = true) : 2 ≤ tBl th (mv / 10 / 3) := by
  unfold tSf at h; simp only [Bool.and_eq_true, decide_eq_true_eq] at h; exact h.2.1
theorem tSf_w {th : Nat → Int32} {n mv : Nat} {t0 t1 : Int32} (hk : tOk th n) (h : tSf th n t0 t1 mv = true) : tDw th n t0 t1 mv = 0 := by
  rw [tSf_dw hk] at h; simp only [Bool.and_eq_true, decide_eq_true_eq] at h; exact h.2
abbrev lT : Type := Option (Nat × Nat × Nat)
def lvN (st : lT) (mv c o : Nat) : lT := match st with
  | none => some (mv, c, o)
  | some (cc, l, oo) => if c < l ∨ (c = l ∧ o < oo) then some (mv, c, o) else some (cc, l, oo)
/-- behind the first k moves: the one that leaves the fewest -/
def lvS (P : Nat → Bool) (cn O : Nat → Nat) : Nat → lT
  | 0 => none
  | k + 1 => if P k = true then lvN (lvS P cn O k) k (cn k) (O k) else lvS P cn O k
def lvB (st : lT) : Prop := ∀ c l o, st = some (c, l, o) → c < 480 ∧ l ≤ 510 ∧ o ≤ 100
theorem lvB.n {st : lT} {mv c o : Nat} (h : lvB st) (h1 : mv < 480) (h2 : c ≤ 510) (h3 : o ≤ 100) : lvB (lvN st mv c o) := by
  intro c' o' j' e
  match st, h with
  | none, _ => cases e; exact ⟨h1, h2, h3⟩
  | some (c2, oo, jj), h =>
    unfold lvN at e
    simp only at e
    split at e
    · cases e; exact ⟨h1, h2, h3⟩
    · exact h _ _ _ e
theorem lvS_B {P : Nat → Bool} {cn O : Nat → Nat} (h2 : ∀ k, cn k ≤ 510) (h3 : ∀ k, O k ≤ 100) : ∀ k, k ≤ 480 → lvB (lvS P cn O k) := by
  intro k
  induction k with
  | zero => intro _ c l o e; cases e
  | succ k ih =>
    intro hk
    rw [lvS]
    split
    · exact (ih (by omega)).n (by omega) (h2 k) (h3 k)
    · exact ih (by omega)
theorem lvS_top {P : Nat → Bool} {cn O : Nat → Nat} {N : Nat} (hP : ∀ m, P m = true → m < N) : ∀ d, lvS P cn O (N + d) = lvS P cn O N := by
  intro d
  induction d with
  | zero => rfl
  | succ d ih =>
    rw [show N + (d + 1) = (N + d) + 1 by omega, lvS, if_neg (fun q => by have := hP _ q; omega), ih]
/-- what was chosen, in the class's cells -/
def Lo (m : yM) (st : lT) : Prop := match st with
  | none => m.1 116 7 = -1
  | some (c, l, o) => m.1 116 7 = yN c ∧ m.1 116 8 = yN o ∧ m.1 116 10 = yN l
theorem Lo.fr {m m' : yM} {st : lT} (h : Lo m st) (e : ∀ j, 7 ≤ j → m'.1 116 j = m.1 116 j) : Lo m' st := by
  match st, h with
  | none, h => exact (e 7 (by omega)).trans h
  | some (c, o, j), h => exact ⟨(e 7 (by omega)).trans h.1, (e 8 (by omega)).trans h.2.1, (e 10 (by omega)).trans h.2.2⟩
def cnS (th : Nat → Int32) (n : Nat) (t0 t1 : Int32) (k : Nat) : Nat := if 30 * tNn th n ≤ 510 then (svS (tLn th n k) (tNn th n) t0 t1 (30 * tNn th n)).1 else 0
theorem cnS_le (th : Nat → Int32) (n : Nat) (t0 t1 : Int32) (k : Nat) : cnS th n t0 t1 k ≤ 510 := by
  unfold cnS
  split
  next h => have := (svS_le (tLn th n k) (tNn th n) t0 t1 (30 * tNn th n)).1; omega
  next => omega
theorem tNn_le {th : Nat → Int32} {n : Nat} (h : n ≤ 16) : tNn th n ≤ 17 := by unfold tNn; split <;> omega
section LV
variable {κ : yK} {m : yM} {a n : Nat} {th : Nat → Int32} {t0 t1 hand : Int32} {R : List Int32}
/-- a safe move is made, and taken back -/
theorem s94a {mv : Nat} (ha : yTw a) (hk : tOk th n) (ht : Tow m a th n) (hs : tSf th n t0 t1 mv = true) : ∃ m', f_94 a (yN (mv / 10)) (yN (tLd th n mv)) (yH κ m) = some (yH κ m') ∧ Tow m' a (tLn th n mv) (tNn th n) ∧ yFr (sT a) m m' := by
  have hc := tSf_cg hs
  have hn := hk.1
  obtain ⟨g1, g2, g3, g4, g5, g6, g7⟩ := tCg_f hk hc
  obtain ⟨m1, e1, T1, F1⟩ := s93 (κ := κ) ha ht hk g1 (Or.inl g2)
  have hN : tNn th n ≤ n + 1 := by unfold tNn; split <;> omega
  obtain ⟨m2, e2, T2, F2⟩ := s92 (κ := κ) (v := th (mv / 10)) ha T1 hn g4 (by omega)
  rw [tNn_max hk hc] at T2
  refine ⟨m2, ?_, T2, F1.tr F2 (fun _ _ => orSelf)⟩
  unfold f_94
  simp (disch := first | assumption | omega) only [yt_is ha, yBs, pG_t, pZ_0, pZ_1, pZ_B, e1, e2]
theorem s94b {mv : Nat} (ha : yTw a) (hk : tOk th n) (hs : tSf th n t0 t1 mv = true) (ht : Tow m a (tLn th n mv) (tNn th n)) : ∃ m', f_94 a (yN (tLd th n mv)) (yN (mv / 10)) (yH κ m) = some (yH κ m') ∧ Tow m' a th n ∧ yFr (sT a) m m' := by
  have hc := tSf_cg hs
  have hn := hk.1
  obtain ⟨g1, g2, g3, g4, g5, g6, g7⟩ := tCg_f hk hc
  have h48 := tHas_lt g1
  obtain ⟨m1, e1, T1, F1⟩ := s93b (κ := κ) ha hk hc (tSf_2 hs) ht
  obtain ⟨m2, e2, T2, F2⟩ := s92 (κ := κ) (v := th (mv / 10)) ha T1 hn h48 (by omega)
  rw [show max n (mv / 10 / 3 + 1) = n by omega, tDn_back] at T2
  refine ⟨m2, ?_, T2, F1.tr F2 (fun _ _ => orSelf)⟩
  unfold f_94
  simp (disch := first | assumption | omega) only [yt_is ha, yBs, pG_t, pZ_0, pZ_1, pZ_B, e1, e2]
/-- findMeanest() -/
theorem s13_13 (ha : yTw a) (hd : a + 4 < 105 ∨ 117 < a) (hk : tOk th n) (oR : okR R) : ∀ (d k fu : Nat) (m : yM), k + d = 30 * n → d < fu → Tow m a th n → m.1 106 0 = t0 → m.1 106 1 = t1 → cRu m R → Lo m (lvS (tSf th n t0 t1) (cnS th n t0 t1) (zOn R th n t0 t1 hand 0) k) →
    ∃ m', f_13_13 fu 116 a hand (yN (30 * n)) (yN k) (yH κ m) = some (yH κ m') ∧ Tow m' a th n ∧ Lo m' (lvS (tSf th n t0 t1) (cnS th n t0 t1) (zOn R th n t0 t1 hand 0) (30 * n)) ∧ yFr (sCh a) m m' := by
  have hn := hk.1
  intro d
  induction d with
  | zero =>
    intro k fu m hd2 hf ht h0 h1 hR hB
    obtain ⟨fu, rfl⟩ : ∃ k, fu = k + 1 := ⟨fu - 1, by omega⟩
    obtain rfl : k = 30 * n := by omega
    refine ⟨m, ?_, ht, hB, yFr.rf m⟩
    rw [f_13_13, if_pos (by rw [yN_le (by omega) (by omega)]; omega)]
  | succ d ih =>
    intro k fu m hd2 hf ht h0 h1 hR hB
    obtain ⟨fu, rfl⟩ : ∃ k, fu = k + 1 := ⟨fu - 1, by omega⟩
    obtain ⟨m1, e1, T1, -, F1⟩ := s7 (κ := κ) (mv := k) ha (by omega) hk ht h0 h1 (by omega)
    have F1' : yFr (sCh a) m m1 := F1.wk (fun x j q => by unfold sTW sT sW at q; unfold sCh sT sW; omega)
    have keep : ∀ m1, yFr (sCh a) m m1 → m1.1 106 0 = t0 ∧ m1.1 106 1 = t1 ∧ cRu m1 R := fun m1 F => ⟨by rw [F.2 _ _ (by unfold sCh sT sW; omega), h0], by rw [F.2 _ _ (by unfold sCh sT sW; omega), h1], hR.fr F (fun j => by unfold sCh sT sW; omega) (by unfold sCh sT sW; omega)⟩
    obtain ⟨u0, u1, uR⟩ := keep m1 F1'
    have B1 : Lo m1 (lvS (tSf th n t0 t1) (cnS th n t0 t1) (zOn R th n t0 t1 hand 0) k) := hB.fr (fun j p => F1.2 _ _ (by unfold sTW sT sW; omega))
    rw [f_13_13, if_neg (by rw [yN_le (by omega) (by omega)]; omega)]
    cases hs : tSf th n t0 t1 k with
    | false =>
      rw [hs, yB_f] at e1
      have eb : lvS (tSf th n t0 t1) (cnS th n t0 t1) (zOn R th n t0 t1 hand 0) (k + 1) = lvS (tSf th n t0 t1) (cnS th n t0 t1) (zOn R th n t0 t1 hand 0) k := by rw [lvS, if_neg (by rw [hs]; decide)]
      obtain ⟨m', e', T', B', F'⟩ := ih (k + 1) fu m1 (by omega) (by omega) T1 u0 u1 uR (by rw [eb]; exact B1)
      refine ⟨m', ?_, T', B', F1'.tr F' (fun _ _ => orSelf)⟩
      simp (disch := first | assumption | omega) only [yis_116, yBs, pG_t, pZ_0, pZ_1, pZ_B, e1, if_true, yN_addl]
      exact e'
    | true =>
      rw [hs, yB_t] at e1
      have hc := tSf_cg hs
      obtain ⟨g1, g2, g3, g4, g5, g6, g7⟩ := tCg_f hk hc
      have hkl := tLn_ok hk hc (tSf_2 hs)
      have hN17 := tNn_le (th := th) hn
      have hcn : cnS th n t0 t1 k = (svS (tLn th n k) (tNn th n) t0 t1 (30 * tNn th n)).1 := by unfold cnS; rw [if_pos (by omega)]
      have hcl := cnS_le th n t0 t1 k
      have ho := (zOn_eq R th n t0 t1 hand 0 k)
      have eb : lvS (tSf th n t0 t1) (cnS th n t0 t1) (zOn R th n t0 t1 hand 0) (k + 1) = lvN (lvS (tSf th n t0 t1) (cnS th n t0 t1) (zOn R th n t0 t1 hand 0) k) k (cnS th n t0 t1 k) (zOn R th n t0 t1 hand 0 k) := by rw [lvS, if_pos hs]
      have hb0 := lvS_B (P := tSf th n t0 t1) (cnS_le th n t0 t1) (fun k => (zOn_eq R th n t0 t1 hand 0 k).2) k (by omega)
      obtain ⟨m2, e2, N2, F2⟩ := s9 (κ := κ) (hand := hand) ha hd hk T1 hc u0 u1 (show k < 2147483648 by omega)
      have F2' : yFr (sCh a) m m2 := F1'.tr F2 (fun x j q => q.elim id (fun r => by unfold s117 sW at r; unfold sCh sW; omega))
      obtain ⟨v0, v1, vR⟩ := keep m2 F2'
      obtain ⟨m3, e3, F3⟩ := s10 (κ := κ) (jk := yN 0) N2 vR oR
      rw [ho.1] at e3
      have F3' : yFr (sCh a) m m3 := F2'.tr F3 (fun x j q => q.elim id (fun r => by unfold s114 at r; unfold sCh; omega))
      have T3 : Tow m3 a th n := (T1.fr F2 (fun x j p q => by unfold s117 sW; omega)).fr F3 (fun x j p q => by unfold s114; omega)
      obtain ⟨m4, e4, T4, F4⟩ := s94a (κ := κ) ha hk T3 hs
      have F4' : yFr (sCh a) m m4 := F3'.tr F4 (fun x j q => q.elim id Or.inl)
      obtain ⟨w0, w1, wR⟩ := keep m4 F4'
      obtain ⟨m5, e5, T5, r3, r4, r5, r6, F5⟩ := s8 (κ := κ) ha hd hkl T4 w0 w1
      have F5' : yFr (sCh a) m m5 := F4'.tr F5 (fun x j q => q.elim id (fun r => by unfold sTW sT sW at r; unfold sCh sT sW; omega))
      obtain ⟨m6, e6, T6, F6⟩ := s94b (κ := κ) ha hk hs T5
      have F6' : yFr (sCh a) m m6 := F5'.tr F6 (fun x j q => q.elim id Or.inl)
      obtain ⟨x0, x1, xR⟩ := keep m6 F6'
      have B6 : Lo m6 (lvS (tSf th n t0 t1) (cnS th n t0 t1) (zOn R th n t0 t1 hand 0) k) := B1.fr (fun j p => by rw [F6.2 _ _ (by unfold sT; omega), F5.2 _ _ (by unfold sTW sT sW; omega), F4.2 _ _ (by unfold sT; omega), F3.2 _ _ (by unfold s114; omega), F2.2 _ _ (by unfold s117 sW; omega)])
      have c3 : m6.1 116 3 = yN (cnS th n t0 t1 k) := by rw [F6.2 _ _ (by unfold sT; omega), r3, hcn]
      have e3' : f_10 116 0 (yH κ m2) = some (yN (zOn R th n t0 t1 hand 0 k), yH κ m3) := e3
      have d10 : pDiv (yN k) 10 = some (yN (k / 10)) := yp_div (by omega) (by omega) (by omega)
      have w116 : ∀ (m : yM) (j : Nat) (x : Int32), yFr (sCh a) m (yW m 116 j x) := fun m j x => yFr.w m (by unfold sCh; omega)
      generalize hst : lvS (tSf th n t0 t1) (cnS th n t0 t1) (zOn R th n t0 t1 hand 0) k = st at *
      generalize hO : zOn R th n t0 t1 hand 0 k = o at *
      generalize hC : cnS th n t0 t1 k = c at *
      obtain ⟨ho1, ho2⟩ := ho
      have go : ∀ st', st' = lvN st k c o → ∀ m7, Lo m7 st' → Tow m7 a th n → yFr (sCh a) m m7 → ∃ m', f_13_13 fu 116 a hand (yN (30 * n)) (yN (k + 1)) (yH κ m7) = some (yH κ m') ∧ Tow m' a th n ∧ Lo m' (lvS (tSf th n t0 t1) (cnS th n t0 t1) (zOn R th n t0 t1 hand 0) (30 * n)) ∧ yFr (sCh a) m m' := fun st' es m7 L7 T7 F7 => by
        obtain ⟨y0, y1, yR⟩ := keep m7 F7
        obtain ⟨m', e', T', B', F'⟩ := ih (k + 1) fu m7 (by omega) (by omega) T7 y0 y1 yR (by rw [eb, ← es]; exact L7)
        exact ⟨m', e', T', B', F7.tr F' (fun _ _ => orSelf)⟩
      have T6w : Tow (yW (yW (yW m6 116 7 (yN k)) 116 8 (yN o)) 116 10 (yN c)) a th n := by
        have t : ∀ (m : yM) (j : Nat) (x : Int32), Tow m a th n → Tow (yW m 116 j x) a th n := fun m j x h => h.g (yG.w (S := fun x _ => x = 116) m rfl) (fun x j p q r => by have : x = 116 := r; omega)
        exact t _ _ _ (t _ _ _ (t _ _ _ T6))
      have F6w : yFr (sCh a) m (yW (yW (yW m6 116 7 (yN k)) 116 8 (yN o)) 116 10 (yN c)) := ((F6'.tr (w116 _ _ _) (fun _ _ => orSelf)).tr (w116 _ _ _) (fun _ _ => orSelf)).tr (w116 _ _ _) (fun _ _ => orSelf)
      have L6w : Lo (yW (yW (yW m6 116 7 (yN k)) 116 8 (yN o)) 116 10 (yN c)) (some (k, c, o)) := ⟨by simp [yW_get], by simp [yW_get], by simp [yW_get]⟩
      have c3w : (yW (yW m6 116 7 (yN k)) 116 8 (yN o)).1 116 3 = yN c := by rw [yW_get, if_neg (by omega), yW_get, if_neg (by omega), c3]
      rw [yis_116, pG_t, yBs, e1, yBs]
      dsimp only
      rw [if_neg (by decide), yis_116, pG_t, yBs, e2, yBs, yis_116, pG_t, yBs, e3', yBs]
      dsimp only
      rw [yt_is ha, pG_t, yBs, s103 ha T3 hn (by omega) (by omega), yBs]
      dsimp only
      rw [d10, yBs, yt_is ha, pG_t, yBs, e4, yBs, yis_116, pG_t, yBs, e5, yBs, yBs, yt_is ha, pG_t, yBs, e6, yBs, yi_116_7, yBs]
      match st, hb0, B6, go with
      | none, hb0, B6, go =>
        have b1 : m6.1 116 7 = -1 := B6
        obtain ⟨m', e', r⟩ := go _ rfl _ L6w T6w F6w
        refine ⟨m', ?_, r⟩
        rw [b1, if_pos rfl]
        simp (disch := first | assumption | omega) only [yp_116_7, yp_116_8, yi_116_3, c3w, yp_116_10, yBs, yN_addl]
        exact e'
      | some (cc, l, oo), hb0, B6, go =>
        obtain ⟨b1, b2, b3⟩ := B6
        obtain ⟨g1, g2, g3⟩ := hb0 _ _ _ rfl
        rw [b1, if_neg (by rw [yN_eqm (by omega)]; exact id), yi_116_3, yBs, c3, yi_116_10, yBs, b3]
        by_cases q1 : c < l
        · have es : lvN (some (cc, l, oo)) k c o = some (k, c, o) := if_pos (Or.inl q1)
          obtain ⟨m', e', r⟩ := go _ es.symm _ L6w T6w F6w
          refine ⟨m', ?_, r⟩
          rw [if_pos (by rw [yN_lt (by omega) (by omega)]; exact q1)]
          simp (disch := first | assumption | omega) only [yp_116_7, yp_116_8, yi_116_3, c3w, yp_116_10, yBs, yN_addl]
          exact e'
        · rw [if_neg (by rw [yN_lt (by omega) (by omega)]; exact q1), yBs, yBs]
          by_cases q2 : c = l
          · rw [if_pos (by rw [q2]), yi_116_8, yBs, b2]
            by_cases q3 : o < oo
            · have es : lvN (some (cc, l, oo)) k c o = some (k, c, o) := if_pos (Or.inr ⟨q2, q3⟩)
              obtain ⟨m', e', r⟩ := go _ es.symm _ L6w T6w F6w
              refine ⟨m', ?_, r⟩
              rw [if_neg (by rw [yN_le (by omega) (by omega)]; omega)]
              simp (disch := first | assumption | omega) only [yp_116_7, yp_116_8, yi_116_3, c3w, yp_116_10, yBs, yN_addl]
              exact e'
            · have es : lvN (some (cc, l, oo)) k c o = some (cc, l, oo) := if_neg (by omega)
              obtain ⟨m', e', r⟩ := go _ es.symm m6 ⟨b1, b2, b3⟩ T6 F6'
              refine ⟨m', ?_, r⟩
              rw [if_pos (by rw [yN_le (by omega) (by omega)]; omega), yBs, yN_addl]
              exact e'
          · have es : lvN (some (cc, l, oo)) k c o = some (cc, l, oo) := if_neg (by omega)
            obtain ⟨m', e', r⟩ := go _ es.symm m6 ⟨b1, b2, b3⟩ T6 F6'
            refine ⟨m', ?_, r⟩
            rw [if_neg (by rw [yN_eq (by omega) (by omega)]; exact q2), yBs, yN_addl]
            exact e'
theorem s13 (ha : yTw a) (hd : a + 4 < 105 ∨ 117 < a) (hk : tOk th n) (oR : okR R) (ht : Tow m a th n) (h0 : m.1 106 0 = t0) (h1 : m.1 106 1 = t1) (hR : cRu m R) :
    ∃ m', f_13 116 a hand (yH κ m) = some (yH κ m') ∧ Tow m' a th n ∧ Lo m' (lvS (tSf th n t0 t1) (cnS th n t0 t1) (zOn R th n t0 t1 hand 0) (30 * n)) ∧ yFr (sCh a) m m' := by
  have hn := hk.1
  have F0 : yFr (sCh a) m (yW m 116 7 (-1)) := yFr.w m (by unfold sCh; omega)
  obtain ⟨m', e', T', B', F'⟩ := s13_13 (κ := κ) (t0 := t0) (t1 := t1) (hand := hand) ha hd hk oR (30 * n) 0 100000 (yW m 116 7 (-1)) (by omega) (by omega) (ht.g (yG.w (S := fun x _ => x = 116) m rfl) (fun x j p q r => by have : x = 116 := r; omega)) (by rw [yW_row (by omega), h0]) (by rw [yW_row (by omega), h1]) (hR.fr F0 (fun j => by unfold sCh sT sW; omega) (by unfold sCh sT sW; omega)) (by show (yW m 116 7 (-1)).1 116 7 = -1; rw [yW_self, upd_eq])
  refine ⟨m', ?_, T', B', F0.tr F' (fun _ _ => orSelf)⟩
  unfold f_13
  have e2 : f_13_13 100000 116 a hand (yN (30 * n)) 0 (yH κ (yW m 116 7 (-1))) = some (yH κ m') := e'
  simp (disch := first | assumption | omega) only [yt_is ha, s101 ha ht, yBs, pG_t, pZ_0, pZ_1, pZ_B, yp_116_7, e2]
end LV
