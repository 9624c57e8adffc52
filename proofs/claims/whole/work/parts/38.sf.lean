/-! ===== a move that can be; safe ones: the class ===== -/
theorem tHas_self {th : Nat → Int32} {b : Nat} {v : Int32} (hb : b < 48) (hv : v ≠ -1) : tHas (upd th b v) b = true := by
  unfold tHas; rw [upd_eq]; simp [hb, hv]
theorem tHas_selfm {th : Nat → Int32} {b : Nat} : tHas (upd th b (-1)) b = false := by
  unfold tHas; rw [upd_eq]; simp
theorem y0m {v : Int32} (h : 0 ≤ v) : v ≠ -1 := by rintro rfl; exact absurd h (by decide)
theorem tBl_take {th : Nat → Int32} {b : Nat} (hb : tHas th b = true) : tBl (upd th b (-1)) (b / 3) + 1 = tBl th (b / 3) := by
  have h : b = 3 * (b / 3) ∨ b = 3 * (b / 3) + 1 ∨ b = 3 * (b / 3) + 2 := by omega
  generalize b / 3 = l at *
  unfold tBl
  rcases h with rfl | rfl | rfl
  · rw [tHas_selfm, tHas_upd (by omega), tHas_upd (by omega), hb]; simp; omega
  · rw [tHas_selfm, tHas_upd (by omega), tHas_upd (by omega), hb]; simp; omega
  · rw [tHas_selfm, tHas_upd (by omega), tHas_upd (by omega), hb]; simp
theorem tBl_pos {th : Nat → Int32} {b : Nat} (hb : tHas th b = true) : 0 < tBl th (b / 3) := by
  have := tBl_take hb; omega
theorem tRg_upd {th : Nat → Int32} {b : Nat} {v : Int32} (h : tRg th) (hv : v = -1 ∨ (0 ≤ v ∧ v ≤ 9)) : tRg (upd th b v) := by
  intro c hc
  unfold upd
  split
  · exact hv
  · exact h c hc
theorem tOk_take {th : Nat → Int32} {n b : Nat} (hk : tOk th n) (hb : tHas th b = true) (h2 : 2 ≤ tBl th (b / 3)) : tOk (upd th b (-1)) n := by
  refine ⟨hk.1, tRg_upd hk.2.1 (Or.inl rfl), fun c h1 h3 => ?_, fun l hl => ?_⟩
  · unfold upd
    split
    · rfl
    · exact hk.2.2.1 c h1 h3
  · by_cases h : l = b / 3
    · subst h; have := tBl_take hb; omega
    · rw [tBl_upd h]; exact hk.2.2.2 l hl
theorem tOk_put {th : Nat → Int32} {n b : Nat} {v : Int32} (hk : tOk th n) (hb : b < 48) (hv : 0 ≤ v ∧ v ≤ 9) (hl : b / 3 ≤ n) : tOk (upd th b v) (max n (b / 3 + 1)) := by
  have hn := hk.1
  refine ⟨by omega, tRg_upd hk.2.1 (Or.inr hv), fun c h1 h3 => ?_, fun l h1 => ?_⟩
  · rw [upd_ne _ _ (by omega)]; exact hk.2.2.1 c (by omega) h3
  · by_cases h : l = b / 3
    · subst h; exact tBl_pos (tHas_self hb (y0m hv.1))
    · rw [tBl_upd h]; exact hk.2.2.2 l (by omega)
theorem tOk_put' {th : Nat → Int32} {n b : Nat} {v : Int32} (hk : tOk th n) (hb : b < 3 * n) (hv : 0 ≤ v ∧ v ≤ 9) : tOk (upd th b v) n := by
  have hn := hk.1
  have := tOk_put (b := b) hk (by omega) hv (by omega)
  rwa [show max n (b / 3 + 1) = n by omega] at this
theorem tOk_v {th : Nat → Int32} {n b : Nat} (hk : tOk th n) (hb : tHas th b = true) : 0 ≤ th b ∧ th b ≤ 9 := by
  rcases hk.2.1 b (tHas_lt hb) with h | h
  · exact absurd h (tHas_ne hb)
  · exact h
set_option maxRecDepth 100000 in
theorem tWg_all : ∀ i j k : Fin 11, (tW (tEn i.val) + tW (tEn j.val)) + tW (tEn k.val) = 0 → (i = 0 ∧ j = 0 ∧ k = 0) := by decide +kernel
theorem tWg_ne {th : Nat → Int32} {l : Nat} (hr : tRg th) (hl : l < 16) (h0 : 0 < tBl th l) : tWg th l ≠ 0 := by
  intro h
  obtain ⟨i, hi⟩ := tEn_of (hr (3 * l) (by omega))
  obtain ⟨j, hj⟩ := tEn_of (hr (3 * l + 1) (by omega))
  obtain ⟨k, hk⟩ := tEn_of (hr (3 * l + 2) (by omega))
  unfold tWg at h
  rw [hi, hj, hk] at h
  obtain ⟨rfl, rfl, rfl⟩ := tWg_all i j k h
  have e : tEn (0 : Fin 11).val = -1 := rfl
  unfold tBl tHas at h0
  rw [hi, hj, hk, e] at h0
  simp at h0
theorem tWg_0 {th : Nat → Int32} {l : Nat} (h1 : th (3 * l) = -1) (h2 : th (3 * l + 1) = -1) (h3 : th (3 * l + 2) = -1) : tWg th l = 0 := by
  unfold tWg; rw [h1, h2, h3]; decide
/-- the tower when the block is drawn; when it is laid -/
def tDn (th : Nat → Int32) (mv : Nat) : Nat → Int32 := upd th (mv / 10) (-1)
def tLn (th : Nat → Int32) (n mv : Nat) : Nat → Int32 := upd (tDn th mv) (tLd th n mv) (th (mv / 10))
def tNn (th : Nat → Int32) (n : Nat) : Nat := if tBl th (n - 1) < 3 then n else n + 1
theorem tCg_f {th : Nat → Int32} {n mv : Nat} (hk : tOk th n) (h : tCg th n mv = true) : tHas th (mv / 10) = true ∧ mv / 10 / 3 + 1 < n ∧ mv % 10 < 3 ∧ tLd th n mv < 48 ∧ tLd th n mv / 3 + 1 = tNn th n ∧ tHas th (tLd th n mv) = false ∧ tLd th n mv ≠ mv / 10 := by
  unfold tCg at h
  simp only [Bool.and_eq_true, decide_eq_true_eq] at h
  obtain ⟨⟨h3, hh⟩, h4⟩ := h
  have hn := hk.1
  unfold tLd tNn
  split at h4
  next hg =>
    simp only [Bool.and_eq_true, decide_eq_true_eq, Bool.not_eq_true'] at h4
    rw [if_pos hg, if_pos hg]
    exact ⟨hh, by omega, h3, by omega, by omega, h4.2, by omega⟩
  next hg =>
    simp only [Bool.and_eq_true, decide_eq_true_eq] at h4
    rw [if_neg hg, if_neg hg]
    refine ⟨hh, by omega, h3, by omega, by omega, ?_, by omega⟩
    cases hq : tHas th (3 * n + mv % 10) with
    | false => rfl
    | true => have := tHas_n hk hq; omega
/-- safe -/
def tSf (th : Nat → Int32) (n : Nat) (t0 t1 : Int32) (mv : Nat) : Bool := tCg th n mv && (decide (2 ≤ tBl th (mv / 10 / 3)) && (tSt (tDn th mv) n t0 t1 && tSt (tLn th n mv) (tNn th n) t0 t1))
theorem tDn_ok {th : Nat → Int32} {n mv : Nat} (hk : tOk th n) (h : tCg th n mv = true) (h2 : 2 ≤ tBl th (mv / 10 / 3)) : tOk (tDn th mv) n := tOk_take hk (tCg_f hk h).1 h2
theorem tNn_max {th : Nat → Int32} {n mv : Nat} (hk : tOk th n) (h : tCg th n mv = true) : max n (tLd th n mv / 3 + 1) = tNn th n := by
  obtain ⟨-, -, -, -, h5, -⟩ := tCg_f hk h
  rw [h5]; unfold tNn; split <;> omega
theorem tLn_ok {th : Nat → Int32} {n mv : Nat} (hk : tOk th n) (h : tCg th n mv = true) (h2 : 2 ≤ tBl th (mv / 10 / 3)) : tOk (tLn th n mv) (tNn th n) := by
  obtain ⟨h1, h3, h4, h5, h6, h7, h8⟩ := tCg_f hk h
  have h9 : tNn th n ≤ n + 1 := by unfold tNn; split <;> omega
  have := tOk_put (v := th (mv / 10)) (tDn_ok hk h h2) h5 (tOk_v hk h1) (by omega)
  rw [tNn_max hk h] at this
  exact this
theorem tLn_back {th : Nat → Int32} {n mv : Nat} (hk : tOk th n) (h : tCg th n mv = true) : upd (tLn th n mv) (tLd th n mv) (-1) = tDn th mv := by
  obtain ⟨h1, h3, h4, h5, h6, h7, h8⟩ := tCg_f hk h
  unfold tLn
  rw [upd_upd]
  have e : tDn th mv (tLd th n mv) = -1 := by
    unfold tDn
    rw [upd_ne _ _ h8]
    unfold tHas at h7
    simpa [h5] using h7
  rw [← e, upd_id]
theorem tDn_back {th : Nat → Int32} {mv : Nat} : upd (tDn th mv) (mv / 10) (th (mv / 10)) = th := by
  unfold tDn; rw [upd_upd, upd_id]
theorem tDn_bl {th : Nat → Int32} {n mv : Nat} (h : mv / 10 / 3 + 1 < n) : tBl (tDn th mv) (n - 1) = tBl th (n - 1) := by
  unfold tDn; exact tBl_upd (by omega)
/-- rows of a tower, and those of weigh() -/
def sTW (a : Nat) (x j : Nat) : Prop := sT a x j ∨ sW x j
section SF
variable {κ : yK} {m : yM} {a n : Nat} {th : Nat → Int32} {t0 t1 : Int32}
/-- a block that was laid is taken back -/
theorem s93b {mv : Nat} (ha : yTw a) (hk : tOk th n) (hc : tCg th n mv = true) (h2 : 2 ≤ tBl th (mv / 10 / 3)) (ht : Tow m a (tLn th n mv) (tNn th n)) : ∃ m', f_93 a (yN (tLd th n mv)) (yH κ m) = some (th (mv / 10), yH κ m') ∧ Tow m' a (tDn th mv) n ∧ yFr (sT a) m m' := by
  obtain ⟨h1, h3, h4, h5, h6, h7, h8⟩ := tCg_f hk hc
  have hv := tOk_v hk h1
  have e : tLn th n mv (tLd th n mv) = th (mv / 10) := by unfold tLn; rw [upd_eq]
  have hb : tHas (tLn th n mv) (tLd th n mv) = true := by unfold tLn; exact tHas_self h5 (y0m hv.1)
  have hk1 := tDn_ok hk hc h2
  have hn := hk.1
  by_cases hg : tBl th (n - 1) < 3
  · have hN : tNn th n = n := by unfold tNn; rw [if_pos hg]
    rw [hN] at ht h6
    have hkl := tLn_ok hk hc h2
    rw [hN] at hkl
    obtain ⟨m', e1, e2, e3⟩ := s93 (κ := κ) ha ht hkl hb (Or.inr (by
      rw [tLn_back hk hc]
      exact tWg_ne hk1.2.1 (by omega) (by rw [show tLd th n mv / 3 = n - 1 by omega]; exact hk1.2.2.2 (n - 1) (by omega))))
    rw [tLn_back hk hc] at e2
    rw [e] at e1
    exact ⟨m', e1, e2, e3⟩
  · have hN : tNn th n = n + 1 := by unfold tNn; rw [if_neg hg]
    rw [hN] at ht h6
    obtain ⟨m', e1, e2, e3⟩ := s93t (κ := κ) ha ht (by omega) hb (by omega) (by
      rw [tLn_back hk hc, show tLd th n mv / 3 = n by omega]
      exact tWg_0 (hk1.2.2.1 _ (by omega) (by omega)) (hk1.2.2.1 _ (by omega) (by omega)) (hk1.2.2.1 _ (by omega) (by omega)))
    rw [tLn_back hk hc] at e2
    rw [e] at e1
    exact ⟨m', e1, e2, e3⟩
/-- isSafe() -/
theorem s7 {mv : Nat} (ha : yTw a) (hd : a + 4 < 105 ∨ 109 < a) (hk : tOk th n) (ht : Tow m a th n) (h0 : m.1 106 0 = t0) (h1 : m.1 106 1 = t1) (hm : mv < 2147483648) :
    ∃ m', f_7 116 a (yN mv) (yH κ m) = some (yB (tSf th n t0 t1 mv), yH κ m') ∧ Tow m' a th n ∧ (tSf th n t0 t1 mv = true → wRs m' (tLn th n mv) (tNn th n) t0 t1 0) ∧ yFr (sTW a) m m' := by
  have hn := hk.1
  have hdv : mv / 10 < 2147483648 := Nat.lt_of_le_of_lt (Nat.div_le_self _ _) hm
  unfold tSf
  by_cases hc : tCg th n mv = true
  · obtain ⟨g1, g2, g3, g4, g5, g6, g7⟩ := tCg_f hk hc
    have hlt := tHas_lt g1
    by_cases h2 : 2 ≤ tBl th (mv / 10 / 3)
    · have hbl := tBl_le th (mv / 10 / 3)
      have hk1 := tDn_ok hk hc h2
      obtain ⟨m1, e1, T1, F1⟩ := s93 (κ := κ) ha ht hk g1 (Or.inl g2)
      have f0 : ∀ j, ¬ sT a 106 j := fun j => by unfold sT; omega
      obtain ⟨m2, e2, R2, F2⟩ := s3 (κ := κ) ha hd hk1 T1 (by rw [F1.2 _ _ (f0 0), h0]) (by rw [F1.2 _ _ (f0 1), h1])
      have f1 : ∀ j, ¬ sW 106 j := fun j => by unfold sW; omega
      have fT : ∀ x j, a ≤ x → x ≤ a + 4 → ¬ sW x j := fun x j p q => by unfold sW; omega
      have T2 := T1.fr F2 fT
      cases hs1 : tSt (tDn th mv) n t0 t1 with
      | false =>
        obtain ⟨m3, e3, T3, F3⟩ := s92 (κ := κ) (v := th (mv / 10)) ha T2 hn hlt (by omega)
        rw [show max n (mv / 10 / 3 + 1) = n by omega] at T3
        have T3' : Tow m3 a th n := by have q := T3; rw [show upd (upd th (mv / 10) (-1)) (mv / 10) (th (mv / 10)) = th from tDn_back] at q; exact q
        refine ⟨m3, ?_, T3', fun q => by simp [hc, h2] at q, ?_⟩
        · unfold f_7
          rw [hs1, yB_f] at e2
          simp (disch := first | assumption | omega) only [yN_add, yN_addl, yN_ladd, yN_mul, yN_mull, yN_lmul, yN_sub, yN_subl, yN_lsub, yN_lt, yN_ltl, yN_llt, yN_le, yN_lel, yN_lle, yN_eq, yN_eql, yN_leq, yN_eqm, yN_lem, yN_ltm, yN_mlt, yN_mle, yN_addm, yN_madd, yp_div, yp_rem, yp_divN, yp_remN, yt_is ha, yBs, pG_t, pZ_0, pZ_1, pZ_B, s102 ha ht hk, hc, yB_t, y10, if_false, s97 ha ht.1, if_pos, if_neg, s103 ha ht hn, e1, yr_116_0, yis_105, e2, if_true, e3]
          simp [yB]
        · exact (F1.tr F2 (S3 := sTW a) (fun _ _ q => q)).tr F3 (fun _ _ q => q.elim id Or.inl)
      | true =>
        have hkl := tLn_ok hk hc h2
        have hNn : tNn th n ≤ n + 1 := by unfold tNn; split <;> omega
        obtain ⟨m3, e3, T3, F3⟩ := s92 (κ := κ) (v := th (mv / 10)) ha T2 hn g4 (by omega)
        rw [tNn_max hk hc] at T3
        have T3' : Tow m3 a (tLn th n mv) (tNn th n) := T3
        obtain ⟨m4, e4, R4, F4⟩ := s3 (κ := κ) ha hd hkl T3' (by rw [F3.2 _ _ (f0 0), F2.2 _ _ (f1 0), F1.2 _ _ (f0 0), h0]) (by rw [F3.2 _ _ (f0 1), F2.2 _ _ (f1 1), F1.2 _ _ (f0 1), h1])
        have T4 := T3'.fr F4 fT
        obtain ⟨m5, e5, T5, F5⟩ := s93b (κ := κ) ha hk hc h2 T4
        obtain ⟨m6, e6, T6, F6⟩ := s92 (κ := κ) (v := th (mv / 10)) ha T5 hn hlt (by omega)
        rw [show max n (mv / 10 / 3 + 1) = n by omega, tDn_back] at T6
        refine ⟨m6, ?_, T6, fun q => ?_, ?_⟩
        · unfold f_7
          rw [hs1, yB_t] at e2
          simp (disch := first | assumption | omega) only [yN_add, yN_addl, yN_ladd, yN_mul, yN_mull, yN_lmul, yN_sub, yN_subl, yN_lsub, yN_lt, yN_ltl, yN_llt, yN_le, yN_lel, yN_lle, yN_eq, yN_eql, yN_leq, yN_eqm, yN_lem, yN_ltm, yN_mlt, yN_mle, yN_addm, yN_madd, yp_div, yp_rem, yp_divN, yp_remN, yt_is ha, yBs, pG_t, pZ_0, pZ_1, pZ_B, s102 ha ht hk, hc, yB_t, y10, if_false, s97 ha ht.1, if_pos, if_neg, s103 ha ht hn, e1, yr_116_0, yis_105, e2, e3, e4, e5, e6]
          simp [h2]
        · obtain ⟨q1, q2, q3, q4, q5⟩ := R4
          have k1 : ∀ x j, ¬ (a ≤ x ∧ x ≤ a + 4) → m6.1 x j = m4.1 x j := fun x j p => by rw [F6.2 x j p, F5.2 x j p]
          refine ⟨by rw [k1 _ _ (by omega), q1], by rw [k1 _ _ (by omega), q2], by rw [k1 _ _ (by omega), q3], by rw [k1 _ _ (by omega), q4], fun l p1 p2 => ?_⟩
          rw [k1 _ _ (by omega), k1 _ _ (by omega), k1 _ _ (by omega)]
          exact q5 l p1 p2
        · have G1 := F1.tr F2 (S3 := sTW a) (fun _ _ q => q)
          have G2 := G1.tr F3 (S3 := sTW a) (fun _ _ q => q.elim id Or.inl)
          have G3 := G2.tr F4 (S3 := sTW a) (fun _ _ q => q.elim id Or.inr)
          have G4 := G3.tr F5 (S3 := sTW a) (fun _ _ q => q.elim id Or.inl)
          exact G4.tr F6 (fun _ _ q => q.elim id Or.inl)
    · refine ⟨m, ?_, ht, fun q => by simp [h2] at q, yFr.rf m⟩
      unfold f_7
      have hbl := tBl_le th (mv / 10 / 3)
      simp (disch := first | assumption | omega) only [yN_add, yN_addl, yN_ladd, yN_mul, yN_mull, yN_lmul, yN_sub, yN_subl, yN_lsub, yN_lt, yN_ltl, yN_llt, yN_le, yN_lel, yN_lle, yN_eq, yN_eql, yN_leq, yN_eqm, yN_lem, yN_ltm, yN_mlt, yN_mle, yN_addm, yN_madd, yp_div, yp_rem, yp_divN, yp_remN, yt_is ha, yBs, pG_t, pZ_0, pZ_1, pZ_B, s102 ha ht hk, hc, yB_t, y10, if_false, s97 ha ht.1, if_pos, if_neg]
      simp [h2, yB]
  · refine ⟨m, ?_, ht, fun q => by simp [hc] at q, yFr.rf m⟩
    unfold f_7
    simp only [Bool.not_eq_true] at hc
    simp (disch := first | assumption | omega) only [yN_add, yN_addl, yN_ladd, yN_mul, yN_mull, yN_lmul, yN_sub, yN_subl, yN_lsub, yN_lt, yN_ltl, yN_llt, yN_le, yN_lel, yN_lle, yN_eq, yN_eql, yN_leq, yN_eqm, yN_lem, yN_ltm, yN_mlt, yN_mle, yN_addm, yN_madd, yp_div, yp_rem, yp_divN, yp_remN, yt_is ha, yBs, pG_t, pZ_0, pZ_1, pZ_B, s102 ha ht hk, hc, yB_f, if_true, Bool.false_and]
end SF
