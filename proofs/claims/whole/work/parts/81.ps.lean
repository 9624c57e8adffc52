/-! ===== play(): the reference reads, move by move ===== -/
section PT
variable {κ : yK} {C : zC}
theorem m174N {m : yM} {i N k : Nat} (oC : okC C) (hk : k < 256) (h11 : m.1 178 11 = yN i) (h12 : m.1 178 12 = yN N) (hN : N ≤ C.1) (hi : i ≤ N) (hT : ∀ j, j < C.1 → m.1 183 j = C.2 j) : f_174 178 (yN k) (yH κ m) = some (yB (decide (i < N) && decide (ch C i = k)), yH κ (yW m 178 11 (yN (i + (decide (i < N) && decide (ch C i = k)).toNat)))) := by
  have hC := oC.1
  unfold f_174
  rw [yi_178_11, yBs, yi_178_12, yBs, h11, h12]
  by_cases h : i < N
  · obtain ⟨hkk, ee⟩ := ch_e oC (show i < C.1 by omega)
    have qe : (yN (ch C i) = yN k) = (ch C i = k) := yN_eq (by omega) (by omega)
    rw [if_neg (by rw [yN_le (by omega) (by omega)]; omega), decide_eq_true h, Bool.true_and]
    simp only [yr_178_9, yBs, ya_183 (show i < 80 by omega), hT i (show i < C.1 by omega), ee, qe]
    by_cases q : ch C i = k
    · rw [decide_eq_true q, if_pos q, yBs, show f_163 1 (yH κ m) = some (1, yH κ m) from s163 true _, yBs]
      dsimp only
      rw [yN_addl, yp_178_11, yBs]
      exact pZ_1 _
    · rw [decide_eq_false q, if_neg q, yBs, s163_0, yBs]
      dsimp only
      rw [show yN i + 0 = yN i from yN_addl, yp_178_11, yBs]
      exact pZ_0 _
  · rw [if_pos (by rw [yN_le (by omega) (by omega)]; omega), decide_eq_false h, Bool.false_and]
    simp only [yBs]
    rw [s163_0, yBs]
    dsimp only
    rw [show yN i + 0 = yN i from yN_addl, yp_178_11, yBs]
    exact pZ_0 _
theorem m175N {m : yM} {i N : Nat} (oC : okC C) (h11 : m.1 178 11 = yN i) (h12 : m.1 178 12 = yN N) (hN : N ≤ C.1) (hi : i ≤ N) (hT : ∀ j, j < C.1 → m.1 183 j = C.2 j) : f_175 178 (yH κ m) = some (yB (decide (i < N) && dig (ch C i)), yH κ m) := by
  rw [m175 h11 h12 hN oC.1 hi hT]
  by_cases h : i < N
  · obtain ⟨hk, e⟩ := ch_e oC (show i < C.1 by omega)
    have xd := (ix8910 ⟨_, hk⟩).2.2.2.2
    dsimp only at xd
    rw [e, xd]
  · rw [decide_eq_false h]; rfl
theorem m221 (oC : okC C) {N : Nat} (hN : N ≤ C.1) {m : yM} {i v : Nat} {cs : List Nat} (hi : i ≤ N) (hcs : cs.length < 70) (h11 : m.1 178 11 = yN i) (h12 : m.1 178 12 = yN N) (hT : ∀ j, j < C.1 → m.1 183 j = C.2 j) (hM : Mr m cs) :
    (∃ e m', f_221 178 (yH κ m) = some (0, yH κ m') ∧ m'.1 178 11 = yN e ∧ e ≤ N ∧ pErr (pE (ch C) N i 0 v) N e ∧ Mr m' cs ∧ yFr sP7 m m') ∨
    (∃ c v' i' m', f_221 178 (yH κ m) = some (1, yH κ m') ∧ i + 4 ≤ i' ∧ i' ≤ N ∧ m'.1 178 11 = yN i' ∧ pE (ch C) N i 0 v = ((pE (ch C) N i' 5 v').1, (pE (ch C) N i' 5 v').2.1, c :: (pE (ch C) N i' 5 v').2.2) ∧ Mr m' (cs ++ [c]) ∧ yFr sP7 m m') := by
  have hC := oC.1
  have wrM : ∀ {m : yM} {cs : List Nat} {v : Int32}, Mr m cs → Mr (yW m 178 11 v) cs := fun {m cs v} hM => ⟨by rw [yW_get, if_neg (by omega)]; exact hM.1, fun j c q => by rw [yW_row (by omega)]; exact hM.2 j c q⟩
  have fW : ∀ (m : yM) (v : Int32), yFr sP7 m (yW m 178 11 v) := fun m v => yFr.w m (Or.inl ⟨rfl, Or.inl rfl⟩)
  have e1 := m175N (κ := κ) oC h11 h12 hN hi hT
  by_cases hlt : i < N ∧ dig (ch C i) = true
  · obtain ⟨hlt, hd⟩ := hlt
    rw [decide_eq_true hlt, hd] at e1
    obtain ⟨hk, ee⟩ := ch_e oC (show i < C.1 by omega)
    have dr := of_decide_eq_true hd
    have px : pX 0 v (ch C i) = some (1, ch C i - 48, none) := by rw [pX, if_pos hd]
    have a11 : (yW m 178 11 (yN (i + 1))).1 178 11 = yN (i + 1) := by rw [yW_self, upd_eq]
    have a12 : (yW m 178 11 (yN (i + 1))).1 178 12 = yN N := by rw [yW_get, if_neg (by omega)]; exact h12
    have aT : ∀ j', j' < C.1 → (yW m 178 11 (yN (i + 1))).1 183 j' = C.2 j' := fun j' q => by rw [yW_row (by omega)]; exact hT j' q
    have e2 := m175N (κ := κ) oC a11 a12 hN (by omega) aT
    have eA : pAi (yH κ m) 183 (yN i) = some (yN (ch C i)) := by rw [show pAi (yH κ m) 183 (yN i) = _ from ya_183 (by omega), hT i (by omega), ee]
    by_cases h2 : i + 1 < N ∧ dig (ch C (i + 1)) = true
    · obtain ⟨hlt2, hd2⟩ := h2
      rw [decide_eq_true hlt2, hd2] at e2
      obtain ⟨hk2, ee2⟩ := ch_e oC (show i + 1 < C.1 by omega)
      have dr2 := of_decide_eq_true hd2
      have px2 : pX 1 (ch C i - 48) (ch C (i + 1)) = some (2, 10 * (ch C i - 48) + (ch C (i + 1) - 48), none) := by rw [pX, if_pos hd2]
      have eB : pAi (yH κ (yW m 178 11 (yN (i + 1)))) 183 (yN (i + 1)) = some (yN (ch C (i + 1))) := by rw [show pAi (yH κ (yW m 178 11 (yN (i + 1)))) 183 (yN (i + 1)) = _ from ya_183 (by omega), aT (i + 1) (by omega), ee2]
      have wW : ∀ v, yW (yW m 178 11 (yN (i + 1))) 178 11 v = yW m 178 11 v := fun v => yM_ext (fun x i => by rw [yW_get, yW_get, yW_get]; split <;> rfl) (fun x i => rfl)
      have b11 : (yW m 178 11 (yN (i + 2))).1 178 11 = yN (i + 2) := by rw [yW_self, upd_eq]
      have b12 : (yW m 178 11 (yN (i + 2))).1 178 12 = yN N := by rw [yW_get, if_neg (by omega)]; exact h12
      have bT : ∀ j', j' < C.1 → (yW m 178 11 (yN (i + 2))).1 183 j' = C.2 j' := fun j' q => by rw [yW_row (by omega)]; exact hT j' q
      have ev : ((10 * (yN (ch C i) - 48)) + yN (ch C (i + 1))) - 48 = yN (10 * (ch C i - 48) + (ch C (i + 1) - 48)) := by
        rw [yN_subl (by omega), yN_lmul, yN_add, yN_subl (by omega)]; congr 1; omega
      have T := m221t (κ := κ) (rest := _) (fun _ _ => rfl) oC hN (m := yW m 178 11 (yN (i + 2))) (j := i + 2) (st := 2) (w := 10 * (ch C i - 48) + (ch C (i + 1) - 48)) (cs := cs) (by omega) (Or.inl rfl) (by omega) hcs b11 b12 bT (wrM hM)
      rw [pE_st0 hlt px, pE_st0 hlt2 px2]
      unfold f_221
      rw [yis_178, pG_t, yBs, e1, yBs]
      dsimp only
      rw [show yB (true && true) = 1 from rfl, if_neg (by decide), yr_178_9, yBs, yi_178_11, yBs, h11, eA, yBs, yBs, yN_addl, yp_178_11, yBs, yis_178, pG_t, yBs, e2, yBs]
      dsimp only
      rw [show yB (true && true) = 1 from rfl, if_neg (by decide), yr_178_9, yBs, yi_178_11, yBs, a11, eB, yBs, yBs, yN_addl, yp_178_11, yBs, wW, ev, yBs]
      dsimp only
      rcases T with ⟨e, m', r1, r2, r3, r4, r5, r6⟩ | ⟨c, v', m', r1, r2, r3, r4, r5, r6⟩
      · exact Or.inl ⟨e, m', r1, r2, r3, r4, r5, (fW m _).tr r6 (fun _ _ => orSelf)⟩
      · exact Or.inr ⟨c, v', i + 2 + 3, m', r1, by omega, r2, r3, r4, r5, (fW m _).tr r6 (fun _ _ => orSelf)⟩
    · have hb : (decide (i + 1 < N) && dig (ch C (i + 1))) = false := by
        by_cases q : i + 1 < N
        · rw [decide_eq_true q, Bool.true_and]
          cases hq : dig (ch C (i + 1)) with
          | true => exact absurd ⟨q, hq⟩ h2
          | false => rfl
        · rw [decide_eq_false q]; rfl
      rw [hb] at e2
      have T := m221t (κ := κ) (rest := _) (fun _ _ => rfl) oC hN (m := yW m 178 11 (yN (i + 1))) (j := i + 1) (st := 1) (w := ch C i - 48) (cs := cs) (by omega) (Or.inr ⟨rfl, fun q => by
          cases hq : dig (ch C (i + 1)) with
          | true => exact absurd ⟨q, hq⟩ h2
          | false => rfl⟩) (by omega) hcs a11 a12 aT (wrM hM)
      rw [pE_st0 hlt px]
      unfold f_221
      rw [yis_178, pG_t, yBs, e1, yBs]
      dsimp only
      rw [show yB (true && true) = 1 from rfl, if_neg (by decide), yr_178_9, yBs, yi_178_11, yBs, h11, eA, yBs, yBs, yN_addl, yp_178_11, yBs, yis_178, pG_t, yBs, e2, yBs]
      dsimp only
      rw [yB_f, if_pos rfl, yBs, yN_subl (by omega)]
      dsimp only
      rcases T with ⟨e, m', r1, r2, r3, r4, r5, r6⟩ | ⟨c, v', m', r1, r2, r3, r4, r5, r6⟩
      · exact Or.inl ⟨e, m', r1, r2, r3, r4, r5, (fW m _).tr r6 (fun _ _ => orSelf)⟩
      · exact Or.inr ⟨c, v', i + 1 + 3, m', r1, by omega, r2, r3, r4, r5, (fW m _).tr r6 (fun _ _ => orSelf)⟩
  · have hb : (decide (i < N) && dig (ch C i)) = false := by
      by_cases q : i < N
      · rw [decide_eq_true q, Bool.true_and]
        cases hq : dig (ch C i) with
        | true => exact absurd ⟨q, hq⟩ hlt
        | false => rfl
      · rw [decide_eq_false q]; rfl
    rw [hb] at e1
    left
    refine ⟨i, m, ?_, h11, hi, ?_, hM, yFr.rf m⟩
    · unfold f_221
      rw [yis_178, pG_t, yBs, e1, yBs]
      dsimp only
      rw [yB_f, if_pos rfl]; exact pZ_0 _
    · by_cases q : i < N
      · refine pErr_er q ?_
        rw [pX]
        cases hq : dig (ch C i) with
        | true => exact absurd ⟨q, hq⟩ hlt
        | false => rfl
      · rw [show i = N by omega]; exact pErr_n (by omega)
theorem m222_e {fu : Nat} {q w : Int32} {m : yM} : f_222_29 (fu + 1) 178 q w 0 (yH κ m) = some (w, yH κ m) := by
  rw [f_222_29, if_pos rfl]
theorem m222_29 (oC : okC C) {N : Nat} {q : Int32} (hN : N ≤ C.1) (hN7 : N ≤ 70) : ∀ (d i fu : Nat) (m : yM) (v : Nat) (cs : List Nat) (w : Int32), N ≤ i + d → i ≤ N → d + 2 < fu → 4 * cs.length ≤ i → m.1 178 11 = yN i → m.1 178 12 = yN N → (∀ j, j < C.1 → m.1 183 j = C.2 j) → Mr m cs →
    (∃ e m', f_222_29 fu 178 q w 1 (yH κ m) = some (0, yH κ m') ∧ m'.1 178 11 = yN e ∧ e ≤ N ∧ ((pE (ch C) N i 0 v).1 = some e ∨ ((pE (ch C) N i 0 v).1 = none ∧ (pE (ch C) N i 0 v).2.1 ≠ 5 ∧ e = N)) ∧ yFr sP7 m m') ∨
    (∃ e m', f_222_29 fu 178 q w 1 (yH κ m) = some (1, yH κ m') ∧ m'.1 178 11 = yN e ∧ e ≤ N ∧ (((pE (ch C) N i 0 v).1 = some e ∧ e < N) ∨ ((pE (ch C) N i 0 v).1 = none ∧ (pE (ch C) N i 0 v).2.1 = 5 ∧ e = N ∧ Mr m' (cs ++ (pE (ch C) N i 0 v).2.2))) ∧ yFr sP7 m m') := by
  have hC := oC.1
  intro d
  induction d with
  | zero =>
    intro i fu m v cs w hd hi hf hcs h11 h12 hT hM
    obtain ⟨fu, rfl⟩ : ∃ k, fu = k + 2 := ⟨fu - 2, by omega⟩
    rcases m221 (κ := κ) (v := v) oC hN hi (by omega) h11 h12 hT hM with ⟨e, m', r1, r2, r3, r4, r5, r6⟩ | ⟨c, v', i', m', r1, r2, r3, -⟩
    · refine Or.inl ⟨e, m', ?_, r2, r3, r4.1, r6⟩
      rw [f_222_29, if_neg (by decide), yis_178, pG_t, yBs, r1, yBs]
      dsimp only
      rw [if_pos rfl, yBs]
      exact m222_e
    · omega
  | succ d ih =>
    intro i fu m v cs w hd hi hf hcs h11 h12 hT hM
    obtain ⟨fu, rfl⟩ : ∃ k, fu = k + 2 := ⟨fu - 2, by omega⟩
    rcases m221 (κ := κ) (v := v) oC hN hi (by omega) h11 h12 hT hM with ⟨e, m', r1, r2, r3, r4, r5, r6⟩ | ⟨c, v', i', m1, r1, r2, r3, r4, r5, r6, r7⟩
    · refine Or.inl ⟨e, m', ?_, r2, r3, r4.1, r6⟩
      rw [f_222_29, if_neg (by decide), yis_178, pG_t, yBs, r1, yBs]
      dsimp only
      rw [if_pos rfl, yBs]
      exact m222_e
    · have k12 : m1.1 178 12 = yN N := by rw [r7.2 _ _ (by unfold sP7; omega)]; exact h12
      have kT : ∀ j, j < C.1 → m1.1 183 j = C.2 j := fun j hj => by rw [r7.2 _ _ (by unfold sP7; omega)]; exact hT j hj
      have e2 := m174N (κ := κ) (k := 59) oC (by omega) r4 k12 hN r3 kT
      have st : f_222_29 (fu + 2) 178 q w 1 (yH κ m) = f_222_29 (fu + 1) 178 q 1 (yB (decide (i' < N) && decide (ch C i' = 59))) (yH κ (yW m1 178 11 (yN (i' + (decide (i' < N) && decide (ch C i' = 59)).toNat)))) := by
        rw [f_222_29, if_neg (by decide), yis_178, pG_t, yBs, r1, yBs]
        dsimp only
        rw [if_neg (by decide), yis_178, pG_t, yBs, show (59 : Int32) = yN 59 from rfl, e2, yBs]
        dsimp only
        cases (decide (i' < N) && decide (ch C i' = 59)) with
        | false => rw [yB_f, if_pos rfl, yBs]
        | true => rw [yB_t, if_neg (by decide), yBs]
      have wrM : ∀ x, Mr (yW m1 178 11 x) (cs ++ [c]) := fun x => ⟨by rw [yW_get, if_neg (by omega)]; exact r6.1, fun j c' q => by rw [yW_row (by omega)]; exact r6.2 j c' q⟩
      have fW : ∀ x, yFr sP7 m (yW m1 178 11 x) := fun x => r7.tr (yFr.w (S := sP7) m1 (Or.inl ⟨rfl, Or.inl rfl⟩)) (fun _ _ => orSelf)
      rw [st, r5]
      by_cases hlt : i' < N
      · by_cases h59 : ch C i' = 59
        · have px : pX 5 v' (ch C i') = some (0, v', none) := by show (if ch C i' = 59 then some (0, v', none) else none) = _; rw [if_pos h59]
          rw [decide_eq_true hlt, decide_eq_true h59, pE_st0 hlt px]
          have b11 : (yW m1 178 11 (yN (i' + (true && true).toNat))).1 178 11 = yN (i' + 1) := by rw [yW_self, upd_eq]; rfl
          have bM := wrM (yN (i' + (true && true).toNat))
          have bF := fW (yN (i' + (true && true).toNat))
          rw [show yB (true && true) = 1 from rfl]
          generalize yW m1 178 11 (yN (i' + (true && true).toNat)) = m2 at *
          rcases ih (i' + 1) (fu + 1) m2 v' (cs ++ [c]) 1 (by omega) (by omega) (by omega) (by rw [List.length_append]; simp; omega) b11 (by rw [bF.2 _ _ (by unfold sP7; omega)]; exact h12) (fun j hj => by rw [bF.2 _ _ (by unfold sP7; omega)]; exact hT j hj) bM with ⟨e, m', t1, t2, t3, t4, t5⟩ | ⟨e, m', t1, t2, t3, t4, t5⟩
          · exact Or.inl ⟨e, m', t1, t2, t3, t4, bF.tr t5 (fun _ _ => orSelf)⟩
          · refine Or.inr ⟨e, m', t1, t2, t3, ?_, bF.tr t5 (fun _ _ => orSelf)⟩
            rcases t4 with t4 | ⟨u1, u2, u3, u4⟩
            · exact Or.inl t4
            · refine Or.inr ⟨u1, u2, u3, ?_⟩
              rw [List.append_assoc] at u4; exact u4
        · have px : pX 5 v' (ch C i') = none := by show (if ch C i' = 59 then some (0, v', none) else none) = _; rw [if_neg h59]
          rw [decide_eq_true hlt, decide_eq_false h59, pE_er hlt px, show yB (true && false) = 0 from rfl, m222_e]
          exact Or.inr ⟨i', _, rfl, by rw [yW_self, upd_eq]; rfl, r3, Or.inl ⟨rfl, hlt⟩, fW _⟩
      · have hn : i' = N := by omega
        rw [decide_eq_false hlt, Bool.false_and, yB_f, m222_e, hn, pE_n]
        exact Or.inr ⟨N, _, rfl, by rw [yW_self, upd_eq]; rfl, Nat.le_refl _, Or.inr ⟨rfl, rfl, rfl, wrM _⟩, fW _⟩
end PT
