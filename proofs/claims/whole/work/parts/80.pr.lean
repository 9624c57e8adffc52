/-! ===== play(): the reference reads ===== -/
def rc (c : Nat) : Int32 := if c / 30 < 16 then yN c else -1
def Mr (m : yM) (cs : List Nat) : Prop := m.1 178 31 = yN cs.length ∧ ∀ j c, cs[j]? = some c → m.1 194 j = rc c
def sP7 (x j : Nat) : Prop := (x = 178 ∧ (j = 11 ∨ j = 31)) ∨ x = 194
/-- it goes wrong at e, or the text ends there too soon -/
def pErr (r : Option Nat × Nat × List Nat) (N e : Nat) : Prop := (r.1 = some e ∨ (r.1 = none ∧ r.2.1 ≠ 5 ∧ e = N)) ∧ r.2.2 = []
theorem pErr_n {f : Nat → Nat} {N st v : Nat} (h : st ≠ 5) : pErr (pE f N N st v) N N := by rw [pE_n]; exact ⟨Or.inr ⟨rfl, h, rfl⟩, rfl⟩
theorem pErr_er {f : Nat → Nat} {N i st v : Nat} (h : i < N) (hx : pX st v (f i) = none) : pErr (pE f N i st v) N i := by rw [pE_er h hx]; exact ⟨Or.inl rfl, rfl⟩
theorem pErr_st {f : Nat → Nat} {N i st v st' v' e : Nat} (h : i < N) (hx : pX st v (f i) = some (st', v', none)) (he : pErr (pE f N (i + 1) st' v') N e) : pErr (pE f N i st v) N e := by
  rw [pE_st h hx]; exact he
theorem pE_st0 {f : Nat → Nat} {N i st v st' v' : Nat} (h : i < N) (hx : pX st v (f i) = some (st', v', none)) : pE f N i st v = pE f N (i + 1) st' v' := by rw [pE_st h hx]; rfl
section PR
variable {κ : yK} {C : zC}
/-- a move's text from its first place on -/
theorem m221t {rest : Int32 → xH → Option (Int32 × xH)} (hr : ∀ w19 h20, rest w19 h20 = ((pG (pIs h20 178 12)).bind fun _ => (f_176 178 (xKb + 10 + 10) h20).bind fun (x29, h28) => (if (0 : Int32) ≤ x29 then (pFi h28 178 12 11).bind fun x31 => (pP h28 178 12 11 (.int (x31 + 1))).bind fun h32 => (pG (pIs h32 178 12)).bind fun _ => (f_174 178 62 h32).bind fun (x35, h34) => (if x35 = 0 then pZ 0 h34 else (pG (pIs h34 178 12)).bind fun _ => (f_176 178 (xKb + 10 + 10) h34).bind fun (x39, h38) => (if (0 : Int32) ≤ x39 then (pFi h38 178 12 11).bind fun x41 => (pP h38 178 12 11 (.int (x41 + 1))).bind fun h42 => (pFr h42 178 12 30).bind fun x43 => (pFi h42 178 12 31).bind fun x44 => ((if w19 < 16 then some (((10 * ((3 * w19) + x29)) + x39)) else some ((-1)) : Option (Int32))).bind fun (w46 : Int32) => (pSi h42 x43 x44 w46).bind fun h48 => (pFi h48 178 12 31).bind fun x49 => (pP h48 178 12 31 (.int (x49 + 1))).bind fun h50 => pZ 1 h50 else pZ 0 h38)) else pZ 0 h28)))
    (oC : okC C) {N : Nat} (hN : N ≤ C.1) {m : yM} {j st w : Nat} {cs : List Nat} (hj : j ≤ N) (hst : st = 2 ∨ (st = 1 ∧ (j < N → dig (ch C j) = false))) (hw : w ≤ 99) (hcs : cs.length < 70) (h11 : m.1 178 11 = yN j) (h12 : m.1 178 12 = yN N) (hT : ∀ j, j < C.1 → m.1 183 j = C.2 j) (hM : Mr m cs) :
    (∃ e m', rest (yN w) (yH κ m) = some (0, yH κ m') ∧ m'.1 178 11 = yN e ∧ e ≤ N ∧ pErr (pE (ch C) N j st w) N e ∧ Mr m' cs ∧ yFr sP7 m m') ∨
    (∃ c v m', rest (yN w) (yH κ m) = some (1, yH κ m') ∧ j + 3 ≤ N ∧ m'.1 178 11 = yN (j + 3) ∧ pE (ch C) N j st w = ((pE (ch C) N (j + 3) 5 v).1, (pE (ch C) N (j + 3) 5 v).2.1, c :: (pE (ch C) N (j + 3) 5 v).2.2) ∧ Mr m' (cs ++ [c]) ∧ yFr sP7 m m') := by
  have hC := oC.1
  have hst5 : st ≠ 5 := by omega
  have hpx : j < N → pX st w (ch C j) = (lmr (ch C j)).map fun k => (3, 3 * w + k, none) := by
    intro hlt
    rcases hst with rfl | ⟨rfl, hd⟩
    · rw [pX]
    · rw [pX, hd hlt]; rfl
  have wrM : ∀ {m : yM} {cs : List Nat} {v : Int32}, Mr m cs → Mr (yW m 178 11 v) cs := fun {m cs v} hM => ⟨by rw [yW_get, if_neg (by omega)]; exact hM.1, fun j c q => by rw [yW_row (by omega)]; exact hM.2 j c q⟩
  have fW : ∀ (m : yM) (v : Int32), yFr sP7 m (yW m 178 11 v) := fun m v => yFr.w m (Or.inl ⟨rfl, Or.inl rfl⟩)
  have nm1 : ¬ ((0 : Int32) ≤ -1) := by decide
  have e1 := m176 (κ := κ) oC h11 h12 hN hj hT
  rw [hr, yis_178, pG_t, yBs, e1, yBs]
  dsimp only
  by_cases hlt : j < N
  · rw [if_pos hlt]
    cases hl : lmr (ch C j) with
    | none =>
      left
      refine ⟨j, m, ?_, h11, hj, pErr_er hlt (by rw [hpx hlt, hl]; rfl), hM, yFr.rf m⟩
      dsimp only
      rw [if_neg nm1]; exact pZ_0 _
    | some k =>
      have hk2 := lmr_le hl
      have px1 : pX st w (ch C j) = some (3, 3 * w + k, none) := by rw [hpx hlt, hl]; rfl
      dsimp only
      rw [if_pos (by rw [yN_lle (by omega) (by omega)]; omega), yi_178_11, yBs, h11, yN_addl, yp_178_11, yBs, yis_178, pG_t, yBs]
      have a11 : (yW m 178 11 (yN (j + 1))).1 178 11 = yN (j + 1) := by rw [yW_self, upd_eq]
      have a12 : (yW m 178 11 (yN (j + 1))).1 178 12 = yN N := by rw [yW_get, if_neg (by omega)]; exact h12
      have aT : ∀ j', j' < C.1 → (yW m 178 11 (yN (j + 1))).1 183 j' = C.2 j' := fun j' q => by rw [yW_row (by omega)]; exact hT j' q
      have e2 : f_174 178 62 (yH κ (yW m 178 11 (yN (j + 1)))) = some (yB (decide (j + 1 < N) && decide (ch C (j + 1) = 62)), yH κ (yW m 178 11 (yN (j + 1 + (decide (j + 1 < N) && decide (ch C (j + 1) = 62)).toNat)))) := by
        have wW : ∀ v, yW (yW m 178 11 (yN (j + 1))) 178 11 v = yW m 178 11 v := fun v => yM_ext (fun x i => by rw [yW_get, yW_get, yW_get]; split <;> rfl) (fun x i => rfl)
        unfold f_174
        rw [yi_178_11, yBs, yi_178_12, yBs, a11, a12]
        by_cases q : j + 1 < N
        · obtain ⟨hkk, ee⟩ := ch_e oC (show j + 1 < C.1 by omega)
          have qe : (yN (ch C (j + 1)) = 62) = (ch C (j + 1) = 62) := yN_eql (by omega) (by omega)
          rw [if_neg (by rw [yN_le (by omega) (by omega)]; omega), decide_eq_true q, Bool.true_and]
          simp only [yr_178_9, yBs, ya_183 (show j + 1 < 80 by omega), aT _ (show j + 1 < C.1 by omega), ee, qe]
          by_cases q2 : ch C (j + 1) = 62
          · rw [decide_eq_true q2, if_pos q2, yBs, show f_163 1 (yH κ (yW m 178 11 (yN (j + 1)))) = some (1, yH κ (yW m 178 11 (yN (j + 1)))) from s163 true _, yBs]
            dsimp only
            rw [yN_addl, yp_178_11, yBs, wW]
            exact pZ_1 _
          · rw [decide_eq_false q2, if_neg q2, yBs, s163_0, yBs]
            dsimp only
            rw [show yN (j + 1) + 0 = yN (j + 1) from yN_addl, yp_178_11, yBs, wW]
            exact pZ_0 _
        · rw [if_pos (by rw [yN_le (by omega) (by omega)]; omega), decide_eq_false q, Bool.false_and]
          simp only [yBs]
          rw [s163_0, yBs]
          dsimp only
          rw [show yN (j + 1) + 0 = yN (j + 1) from yN_addl, yp_178_11, yBs, wW]
          exact pZ_0 _
      rw [e2, yBs]
      dsimp only
      by_cases h62 : j + 1 < N ∧ ch C (j + 1) = 62
      · have px2 : pX 3 (3 * w + k) (ch C (j + 1)) = some (4, 3 * w + k, none) := by rw [pX, if_pos h62.2]
        rw [decide_eq_true h62.1, decide_eq_true h62.2]
        have b11 : (yW m 178 11 (yN (j + 1 + (true && true).toNat))).1 178 11 = yN (j + 2) := by rw [yW_self, upd_eq]; rfl
        have b12 : (yW m 178 11 (yN (j + 1 + (true && true).toNat))).1 178 12 = yN N := by rw [yW_get, if_neg (by omega)]; exact h12
        have bT : ∀ j', j' < C.1 → (yW m 178 11 (yN (j + 1 + (true && true).toNat))).1 183 j' = C.2 j' := fun j' q => by rw [yW_row (by omega)]; exact hT j' q
        have bM := wrM (v := yN (j + 1 + (true && true).toNat)) hM
        have bF := fW m (yN (j + 1 + (true && true).toNat))
        generalize yW m 178 11 (yN (j + 1 + (true && true).toNat)) = m2 at *
        have e3 := m176 (κ := κ) oC b11 b12 hN (by omega) bT
        rw [show yB (true && true) = 1 from rfl, if_neg (by decide), yis_178, pG_t, yBs, e3, yBs]
        dsimp only
        by_cases hlt2 : j + 2 < N
        · rw [if_pos hlt2]
          cases hl2 : lmr (ch C (j + 2)) with
          | none =>
            left
            refine ⟨j + 2, m2, ?_, b11, by omega, pErr_st hlt px1 (pErr_st (by omega) px2 (pErr_er hlt2 (by rw [pX, hl2]; rfl))), bM, bF⟩
            dsimp only
            rw [if_neg nm1]; exact pZ_0 _
          | some k2 =>
            have hk3 := lmr_le hl2
            right
            have px3 : pX 4 (3 * w + k) (ch C (j + 2)) = some (5, 3 * w + k, some (10 * (3 * w + k) + k2)) := by rw [pX, hl2]; rfl
            have hcode : (if yN w < 16 then some ((10 * ((3 * yN w) + yN k)) + yN k2) else some (-1) : Option Int32) = some (rc (10 * (3 * w + k) + k2)) := by
              unfold rc
              by_cases z : w < 16
              · rw [if_pos (by rw [yN_ltl (by omega) (by omega)]; exact z), if_pos (by omega), yN_lmul, yN_add, yN_lmul, yN_add]
              · rw [if_neg (by rw [yN_ltl (by omega) (by omega)]; exact z), if_neg (by omega)]
            let m3 := yW m2 178 11 (yN (j + 3))
            have c31 : m3.1 178 31 = yN cs.length := by show (yW m2 178 11 _).1 178 31 = _; rw [yW_get, if_neg (by omega)]; exact bM.1
            let m4 := yW (yW m3 194 cs.length (rc (10 * (3 * w + k) + k2))) 178 31 (yN (cs.length + 1))
            have d31 : (yW m3 194 cs.length (rc (10 * (3 * w + k) + k2))).1 178 31 = yN cs.length := by rw [yW_row (by omega)]; exact c31
            refine ⟨10 * (3 * w + k) + k2, 3 * w + k, m4, ?_, by omega, ?_, ?_, ⟨?_, fun i c q => ?_⟩, ?_⟩
            · dsimp only
              rw [if_pos (by rw [yN_lle (by omega) (by omega)]; omega), yi_178_11, yBs, b11, yN_addl, yp_178_11, yBs, yr_178_30, yBs]
              show ((pFi (yH κ m3) 178 12 31).bind _) = _
              rw [yi_178_31, yBs, c31, hcode, yBs, yst_194 hcs, yBs, yi_178_31, yBs, d31, yN_addl, yp_178_31, yBs]
              exact pZ_1 _
            · show (yW (yW (yW m2 178 11 (yN (j + 3))) 194 cs.length _) 178 31 _).1 178 11 = _
              rw [yW_get, if_neg (by omega), yW_row (by omega), yW_self, upd_eq]
            · rw [pE_st0 hlt px1, pE_st0 (by omega) px2, pE_st hlt2 px3]; rfl
            · show (yW _ 178 31 (yN (cs.length + 1))).1 178 31 = _
              rw [yW_self, upd_eq, List.length_append]; rfl
            · show (yW (yW (yW m2 178 11 (yN (j + 3))) 194 cs.length _) 178 31 _).1 194 i = _
              rw [yW_row (by omega), yW_get]
              rcases list_ap q with ⟨rfl, rfl⟩ | ⟨q1, q2⟩
              · rw [if_pos ⟨rfl, rfl⟩]
              · rw [if_neg (by omega), yW_row (by omega)]; exact bM.2 _ _ q2
            · exact ((bF.tr (fW m2 _) (S3 := sP7) (fun _ _ => orSelf)).tr (yFr.w (S := sP7) _ (Or.inr rfl)) (S3 := sP7) (fun _ _ => orSelf)).tr (yFr.w (S := sP7) _ (Or.inl ⟨rfl, Or.inr rfl⟩)) (fun _ _ => orSelf)
        · have hn2 : j + 2 = N := by omega
          left
          rw [if_neg hlt2, if_neg nm1]
          refine ⟨j + 2, m2, pZ_0 _, b11, by omega, pErr_st hlt px1 (pErr_st (by omega) px2 ?_), bM, bF⟩
          rw [show j + 1 + 1 = N by omega]; exact pErr_n (by omega)
      · have hb : (decide (j + 1 < N) && decide (ch C (j + 1) = 62)) = false := by
          by_cases q : j + 1 < N
          · rw [decide_eq_true q, Bool.true_and]; exact decide_eq_false (fun z => h62 ⟨q, z⟩)
          · rw [decide_eq_false q]; rfl
        rw [hb]
        left
        refine ⟨j + 1, yW m 178 11 (yN (j + 1 + false.toNat)), ?_, by rw [yW_self, upd_eq]; rfl, by omega, pErr_st hlt px1 ?_, wrM hM, fW _ _⟩
        · rw [yB_f, if_pos rfl]; exact pZ_0 _
        · by_cases q : j + 1 < N
          · exact pErr_er q (by rw [pX, if_neg (fun z => h62 ⟨q, z⟩)])
          · rw [show j + 1 = N by omega]; exact pErr_n (by omega)
  · have hn : j = N := by omega
    left
    rw [if_neg hlt, if_neg nm1]
    refine ⟨j, m, pZ_0 _, h11, hj, ?_, hM, yFr.rf m⟩
    rw [hn]; exact pErr_n hst5
end PR
