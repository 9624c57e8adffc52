/-! ===== a move that can be; safe ones: the reference ===== -/
theorem yR_yW (m : yM) (a k : Nat) (x : Int32) (g : Nat → Int32) : yR (yW m a k x) a g = yR m a g := by
  unfold yW yR
  refine Prod.ext ?_ rfl
  funext y
  simp only
  split <;> rfl
theorem yR_id (m : yM) (a : Nat) : yR m a (m.1 a) = m := by
  unfold yR
  refine Prod.ext ?_ rfl
  funext y
  simp only
  split
  next h => rw [h]
  next => rfl
theorem yR_cg {m : yM} {a : Nat} {f g : Nat → Int32} (h : ∀ j, f j = g j) : yR m a f = yR m a g := by rw [funext h]
/-- a row is copied from k on -/
def cpR (f g : Nat → Int32) (k N : Nat) : Nat → Int32 := fun j => if k ≤ j ∧ j < N then f j else g j
section DR
variable {κ : yK} {m : yM} {s n : Nat} {th : Nat → Int32} {t0 t1 : Int32}
theorem s168_2 {p q : Nat} (hp : yAr p) (hq : yAr q) (hne : p ≠ q) : ∀ (d k fu : Nat) (m : yM), k + d = 54 → d < fu → f_168_2 fu p q (yN k) (yH κ m) = some (yH κ (yR m q (cpR (m.1 p) (m.1 q) k 54))) := by
  intro d
  induction d with
  | zero =>
    intro k fu m hk hf
    obtain ⟨fu, rfl⟩ : ∃ k, fu = k + 1 := ⟨fu - 1, by omega⟩
    unfold f_168_2
    simp (disch := first | assumption | omega) only [yN_add, yN_addl, yN_ladd, yN_mul, yN_mull, yN_lmul, yN_sub, yN_subl, yN_lsub, yN_lt, yN_ltl, yN_llt, yN_le, yN_lel, yN_lle, yN_eq, yN_eql, yN_leq, yN_eqm, yN_lem, yN_ltm, yN_mlt, yN_mle, yN_addm, yN_madd, yp_div, yp_rem, yp_divN, yp_remN, if_pos, if_neg]
    congr 2
    conv => lhs; rw [← yR_id m q]
    unfold cpR
    refine (yR_cg fun j => ?_).symm
    rw [if_neg (by omega)]
  | succ d ih =>
    intro k fu m hk hf
    obtain ⟨fu, rfl⟩ : ∃ k, fu = k + 1 := ⟨fu - 1, by omega⟩
    unfold f_168_2
    simp (disch := first | assumption | omega) only [yN_add, yN_addl, yN_ladd, yN_mul, yN_mull, yN_lmul, yN_sub, yN_subl, yN_lsub, yN_lt, yN_ltl, yN_llt, yN_le, yN_lel, yN_lle, yN_eq, yN_eql, yN_leq, yN_eqm, yN_lem, yN_ltm, yN_mlt, yN_mle, yN_addm, yN_madd, yp_div, yp_rem, yp_divN, yp_remN, if_pos, if_neg, yr_a hp, yr_s hq, yBs, pG_t, pZ_0, pZ_1, pZ_B]
    rw [ih (k + 1) fu _ (by omega) (by omega), yR_yW, yW_row hne, yW_self]
    unfold cpR
    congr 2
    refine yR_cg fun j => ?_
    unfold upd
    by_cases h : j = k
    · subst h; rw [if_neg (by omega), if_pos rfl, if_pos (by omega)]
    · by_cases h2 : k + 1 ≤ j ∧ j < 54
      · rw [if_pos h2, if_pos (by omega)]
      · rw [if_neg h2, if_neg h, if_neg (by omega)]
theorem s168 {p q : Nat} (hp : yAr p) (hq : yAr q) (hne : p ≠ q) : f_168 p q (yH κ m) = some (yH κ (yR m q (cpR (m.1 p) (m.1 q) 0 54))) := by
  unfold f_168
  rw [show (0 : Int32) = yN 0 from rfl, s168_2 hp hq hne 54 0 _ _ (by omega) (by omega), yBs]
theorem cpR_in {f g : Nat → Int32} {j N : Nat} (h : j < N) : cpR f g 0 N j = f j := if_pos ⟨Nat.zero_le _, h⟩
theorem Tor.upd {b : Nat} {v : Int32} (h : Tor m s th n) (hb : b < 48) : Tor (yW m s b v) s (upd th b v) n := by
  refine ⟨fun c hc => ?_, by rw [yW_get, if_neg (by omega), h.2]⟩
  rw [yW_self]
  show (if c = b then v else m.1 s c) = (if c = b then v else th c)
  split
  · rfl
  · exact h.1 c hc
theorem Tor.many {k : Nat} (h : Tor m s th n) : Tor (yW m s 48 (yN k)) s th k := by
  refine ⟨fun c hc => by rw [yW_get, if_neg (by omega), h.1 c hc], by rw [yW_self, upd_eq]⟩
theorem Tor.cp {p q : Nat} (h : Tor m p th n) : Tor (yR m q (cpR (m.1 p) (m.1 q) 0 54)) q th n := by
  refine ⟨fun c hc => ?_, ?_⟩
  · rw [yR_eq, cpR_in (by omega), h.1 c hc]
  · rw [yR_eq, cpR_in (by omega), h.2]
/-- what a draw comes to; the tower behind it -/
def tDw (th : Nat → Int32) (n : Nat) (t0 t1 : Int32) (mv : Nat) : Nat := if tBl th (mv / 10 / 3) = 1 then 1 else if tSt (tDn th mv) n t0 t1 = false then 2 else if tSt (tLn th n mv) (tNn th n) t0 t1 = false then 3 else 0
def tDt (th : Nat → Int32) (n : Nat) (t0 t1 : Int32) (mv : Nat) : Nat → Int32 := if tDw th n t0 t1 mv = 1 then th else if tDw th n t0 t1 mv = 2 then tDn th mv else tLn th n mv
def tDm (th : Nat → Int32) (n : Nat) (t0 t1 : Int32) (mv : Nat) : Nat := if tDw th n t0 t1 mv = 1 then n else if tDw th n t0 t1 mv = 2 then n else tNn th n
theorem tSf_dw {mv : Nat} (hk : tOk th n) : tSf th n t0 t1 mv = (tCg th n mv && decide (tDw th n t0 t1 mv = 0)) := by
  unfold tSf tDw
  cases hc : tCg th n mv with
  | false => rfl
  | true =>
    have h1 := tBl_pos (tCg_f hk hc).1
    by_cases h : tBl th (mv / 10 / 3) = 1
    · simp [h]
    · rw [if_neg h, decide_eq_true (show 2 ≤ tBl th (mv / 10 / 3) by omega)]
      cases tSt (tDn th mv) n t0 t1 <;> cases tSt (tLn th n mv) (tNn th n) t0 t1 <;> simp
theorem tDw_lt {mv : Nat} : tDw th n t0 t1 mv < 4 := by unfold tDw; split; omega; split; omega; split <;> omega
theorem tDt_ok {mv : Nat} (hk : tOk th n) (hc : tCg th n mv = true) : tOk (tDt th n t0 t1 mv) (tDm th n t0 t1 mv) := by
  have h1 := tBl_pos (tCg_f hk hc).1
  unfold tDt tDm
  by_cases h : tDw th n t0 t1 mv = 1
  · rw [if_pos h, if_pos h]; exact hk
  · have h2 : 2 ≤ tBl th (mv / 10 / 3) := by
      unfold tDw at h
      by_cases q : tBl th (mv / 10 / 3) = 1
      · rw [if_pos q] at h; exact absurd rfl h
      · omega
    rw [if_neg h, if_neg h]
    split
    · exact tDn_ok hk hc h2
    · exact tLn_ok hk hc h2
theorem tDt_0 {mv : Nat} (h : tDw th n t0 t1 mv = 0) : tDt th n t0 t1 mv = tLn th n mv ∧ tDm th n t0 t1 mv = tNn th n := by
  unfold tDt tDm; rw [h]; exact ⟨rfl, rfl⟩
/-- draws() -/
def sD (s x j : Nat) : Prop := (x = s ∧ j < 49) ∨ sM x j
theorem s203 {mv : Nat} (hS : yAr s) (hd : s ≠ 178 ∧ s ≠ 188 ∧ s ≠ 189 ∧ s ≠ 190) (hk : tOk th n) (ht : Tor m s th n) (hc : tCg th n mv = true) (h0 : m.1 178 7 = t0) (h1 : m.1 178 8 = t1) (hm : mv < 2147483648) :
    ∃ m', f_203 178 s (yN mv) (yH κ m) = some (yN (tDw th n t0 t1 mv), yH κ m') ∧ Tor m' s (tDt th n t0 t1 mv) (tDm th n t0 t1 mv) ∧ (tDw th n t0 t1 mv ≠ 1 → mRs m' (tDt th n t0 t1 mv) (tDm th n t0 t1 mv) t0 t1 0) ∧ yFr (sD s) m m' := by
  have hn := hk.1
  have hdv : mv / 10 < 2147483648 := Nat.lt_of_le_of_lt (Nat.div_le_self _ _) hm
  obtain ⟨g1, g2, g3, g4, g5, g6, g7⟩ := tCg_f hk hc
  have hlt := tHas_lt g1
  have hbl := tBl_le th (mv / 10 / 3)
  have hb0 := tBl_pos g1
  have e54 : mv / 10 < 54 := by omega
  have eb : m.1 s (mv / 10) = th (mv / 10) := ht.1 _ hlt
  by_cases h2 : tBl th (mv / 10 / 3) = 1
  · have hw : tDw th n t0 t1 mv = 1 := by unfold tDw; rw [if_pos h2]
    unfold tDt tDm
    rw [hw, if_pos rfl, if_pos rfl]
    refine ⟨m, ?_, ht, fun q => absurd rfl q, yFr.rf m⟩
    unfold f_203
    simp (disch := first | assumption | omega) only [yN_add, yN_addl, yN_ladd, yN_mul, yN_mull, yN_lmul, yN_sub, yN_subl, yN_lsub, yN_lt, yN_ltl, yN_llt, yN_le, yN_lel, yN_lle, yN_eq, yN_eql, yN_leq, yN_eqm, yN_lem, yN_ltm, yN_mlt, yN_mle, yN_addm, yN_madd, yp_div, yp_rem, yp_divN, yp_remN, yr_a hS, yBs, pG_t, pZ_0, pZ_1, pZ_B, s170 hS ht hk.2.1, h2]
    rfl
  · have hk1 := tDn_ok hk hc (show 2 ≤ tBl th (mv / 10 / 3) by omega)
    have hkl := tLn_ok hk hc (show 2 ≤ tBl th (mv / 10 / 3) by omega)
    have T1 : Tor (yW m s (mv / 10) (-1)) s (tDn th mv) n := ht.upd hlt
    have F1 : yFr (sD s) m (yW m s (mv / 10) (-1)) := yFr.w m (Or.inl ⟨rfl, by omega⟩)
    obtain ⟨m2, e2, R2, F2⟩ := s188 (κ := κ) hS hd hk1 T1 (by rw [yW_row (by omega), h0]) (by rw [yW_row (by omega), h1])
    have F12 : yFr (sD s) m m2 := F1.tr F2 (fun _ _ q => q.elim id Or.inr)
    have T2 : Tor m2 s (tDn th mv) n := T1.fr F2 (fun j _ => by unfold sM; omega)
    have hbn := tBl_le th (n - 1)
    cases hs1 : tSt (tDn th mv) n t0 t1 with
    | false =>
      have hw : tDw th n t0 t1 mv = 2 := by unfold tDw; rw [if_neg h2, if_pos hs1]
      have hT : tDt th n t0 t1 mv = tDn th mv := by unfold tDt; rw [hw]; rfl
      have hM : tDm th n t0 t1 mv = n := by unfold tDm; rw [hw]; rfl
      rw [hT, hM, hw]
      refine ⟨m2, ?_, T2, fun _ => R2, F12⟩
      unfold f_203
      rw [hs1, yB_f] at e2
      simp (disch := first | assumption | omega) only [yN_add, yN_addl, yN_ladd, yN_mul, yN_mull, yN_lmul, yN_sub, yN_subl, yN_lsub, yN_lt, yN_ltl, yN_llt, yN_le, yN_lel, yN_lle, yN_eq, yN_eql, yN_leq, yN_eqm, yN_lem, yN_ltm, yN_mlt, yN_mle, yN_addm, yN_madd, yp_div, yp_rem, yp_divN, yp_remN, yr_a hS, yr_s hS, yBs, pG_t, pZ_0, pZ_1, pZ_B, s170 hS ht hk.2.1, h2, if_false, s201 hS ht hk.2.1, yis_178, e2, if_true]
      rfl
    | true =>
      have T3 : Tor (yW m2 s 48 (yN (tNn th n))) s (tDn th mv) (tNn th n) := T2.many
      have T4 : Tor (yW (yW m2 s 48 (yN (tNn th n))) s (tLd th n mv) (th (mv / 10))) s (tLn th n mv) (tNn th n) := T3.upd g4
      have F34 : yFr (sD s) m2 (yW (yW m2 s 48 (yN (tNn th n))) s (tLd th n mv) (th (mv / 10))) := (yFr.w (S := sD s) m2 (Or.inl ⟨rfl, by omega⟩)).tr (yFr.w (S := sD s) _ (Or.inl ⟨rfl, by omega⟩)) (fun _ _ q => q.elim id id)
      have k7 : ∀ j, j = 7 ∨ j = 8 → ¬ sD s 178 j := fun j q => by unfold sD sM; omega
      obtain ⟨m5, e5, R5, F5⟩ := s188 (κ := κ) hS hd hkl T4 (by rw [F34.2 _ _ (k7 7 (by omega)), F12.2 _ _ (k7 7 (by omega)), h0]) (by rw [F34.2 _ _ (k7 8 (by omega)), F12.2 _ _ (k7 8 (by omega)), h1])
      have T5 : Tor m5 s (tLn th n mv) (tNn th n) := T4.fr F5 (fun j _ => by unfold sM; omega)
      have F : yFr (sD s) m m5 := (F12.tr F34 (S3 := sD s) (fun _ _ q => q.elim id id)).tr F5 (fun _ _ q => q.elim id Or.inr)
      have hw : tDw th n t0 t1 mv = if tSt (tLn th n mv) (tNn th n) t0 t1 = false then 3 else 0 := by unfold tDw; rw [if_neg h2, if_neg (by rw [hs1]; decide)]
      have hw1 : tDw th n t0 t1 mv ≠ 1 := by rw [hw]; split <;> omega
      have hw2 : tDw th n t0 t1 mv ≠ 2 := by rw [hw]; split <;> omega
      unfold tDt tDm
      rw [if_neg hw1, if_neg hw1, if_neg hw2, if_neg hw2]
      refine ⟨m5, ?_, T5, fun _ => R5, F⟩
      have hl : 3 * (tNn th n - 1) + mv % 10 = tLd th n mv := by unfold tNn tLd; split <;> omega
      have hN0 : 1 ≤ tNn th n := by unfold tNn; split <;> omega
      have hN1 : tNn th n ≤ 17 := by unfold tNn; split <;> omega
      rw [hs1, yB_t] at e2
      unfold f_203
      by_cases hg : tBl th (n - 1) < 3
      · have hN : tNn th n = n := by unfold tNn; rw [if_pos hg]
        simp (disch := first | assumption | omega) only [yN_add, yN_addl, yN_ladd, yN_mul, yN_mull, yN_lmul, yN_sub, yN_subl, yN_lsub, yN_lt, yN_ltl, yN_llt, yN_le, yN_lel, yN_lle, yN_eq, yN_eql, yN_leq, yN_eqm, yN_lem, yN_ltm, yN_mlt, yN_mle, yN_addm, yN_madd, yp_div, yp_rem, yp_divN, yp_remN, yr_a hS, yr_s hS, yr_al hS, yr_sl hS, yBs, pG_t, pZ_0, pZ_1, pZ_B, s170 hS ht hk.2.1, h2, if_false, s201 hS ht hk.2.1, yis_178, e2, y10, decide_eq_true (show 0 < n by omega), decide_eq_true hg, Bool.true_and, yB_t, s163_0, T2.2, Int32.add_zero, yW_self, upd_eq, eb]
        rw [hN] at e5 hl
        simp (disch := first | assumption | omega) only [yN_add, yN_addl, yN_ladd, yN_mul, yN_mull, yN_lmul, yN_sub, yN_subl, yN_lsub, yN_lt, yN_ltl, yN_llt, yN_le, yN_lel, yN_lle, yN_eq, yN_eql, yN_leq, yN_eqm, yN_lem, yN_ltm, yN_mlt, yN_mle, yN_addm, yN_madd, yp_div, yp_rem, yp_divN, yp_remN, yr_s hS, yBs, pG_t, pZ_0, pZ_1, pZ_B, hl, e5, yis_178]
        rw [hw, hN]
        cases tSt (tLn th n mv) n t0 t1 <;> rfl
      · have hN : tNn th n = n + 1 := by unfold tNn; rw [if_neg hg]
        simp (disch := first | assumption | omega) only [yN_add, yN_addl, yN_ladd, yN_mul, yN_mull, yN_lmul, yN_sub, yN_subl, yN_lsub, yN_lt, yN_ltl, yN_llt, yN_le, yN_lel, yN_lle, yN_eq, yN_eql, yN_leq, yN_eqm, yN_lem, yN_ltm, yN_mlt, yN_mle, yN_addm, yN_madd, yp_div, yp_rem, yp_divN, yp_remN, yr_a hS, yr_s hS, yr_al hS, yr_sl hS, yBs, pG_t, pZ_0, pZ_1, pZ_B, s170 hS ht hk.2.1, h2, if_false, s201 hS ht hk.2.1, yis_178, e2, y10, decide_eq_true (show 0 < n by omega), decide_eq_false hg, Bool.and_false, yB_f, if_true, s163_1, T2.2, yW_self, upd_eq, eb]
        rw [hN] at e5 hl
        simp (disch := first | assumption | omega) only [yN_add, yN_addl, yN_ladd, yN_mul, yN_mull, yN_lmul, yN_sub, yN_subl, yN_lsub, yN_lt, yN_ltl, yN_llt, yN_le, yN_lel, yN_lle, yN_eq, yN_eql, yN_leq, yN_eqm, yN_lem, yN_ltm, yN_mlt, yN_mle, yN_addm, yN_madd, yp_div, yp_rem, yp_divN, yp_remN, yr_s hS, yBs, pG_t, pZ_0, pZ_1, pZ_B, hl, e5, yis_178]
        rw [hw, hN]
        cases tSt (tLn th n mv) (n + 1) t0 t1 <;> rfl
def sI (x j : Nat) : Prop := x = 191 ∨ sM x j
theorem yAr_191 : yAr 191 := rfl
/-- isSafe() -/
theorem s204 {mv : Nat} (hS : yAr s) (hd : s ≠ 178 ∧ s ≠ 188 ∧ s ≠ 189 ∧ s ≠ 190 ∧ s ≠ 191) (hk : tOk th n) (ht : Tor m s th n) (hf : m.1 s 50 = 0) (h0 : m.1 178 7 = t0) (h1 : m.1 178 8 = t1) (hm : mv < 2147483648) :
    ∃ m', f_204 178 s (yN mv) (yH κ m) = some (yB (tSf th n t0 t1 mv), yH κ m') ∧ yFr sI m m' := by
  rw [tSf_dw hk]
  cases hc : tCg th n mv with
  | false =>
    refine ⟨m, ?_, yFr.rf m⟩
    unfold f_204
    simp (disch := first | assumption | omega) only [s202 hS ht hk hf, hc, yB_f, if_true, yBs, pG_t, pZ_0, pZ_1, pZ_B, Bool.false_and]
  | true =>
    have T1 := ht.cp (q := 191)
    obtain ⟨m2, e2, T2, R2, F2⟩ := s203 (κ := κ) (t0 := t0) (t1 := t1) yAr_191 (by omega) hk T1 hc (by rw [yR_ne _ _ (by omega), h0]) (by rw [yR_ne _ _ (by omega), h1]) hm
    refine ⟨m2, ?_, F2.1, fun x j q => ?_⟩
    · unfold f_204
      simp (disch := first | assumption | omega) only [s202 hS ht hk hf, hc, yB_t, y10, if_false, yBs, pG_t, pZ_0, pZ_1, pZ_B, yr_178_24, s168 hS yAr_191 (show s ≠ 191 by omega), yis_178, e2, Bool.true_and]
      have hlt : tDw th n t0 t1 mv < 4 := tDw_lt
      simp (disch := first | assumption | omega) only [yN_add, yN_addl, yN_ladd, yN_mul, yN_mull, yN_lmul, yN_sub, yN_subl, yN_lsub, yN_lt, yN_ltl, yN_llt, yN_le, yN_lel, yN_lle, yN_eq, yN_eql, yN_leq, yN_eqm, yN_lem, yN_ltm, yN_mlt, yN_mle, yN_addm, yN_madd, yp_div, yp_rem, yp_divN, yp_remN, yB_ite, yBs, pG_t, pZ_0, pZ_1, pZ_B]
    · unfold sI sM at q
      rw [F2.2 x j (by unfold sD sM; omega), yR_ne _ _ (by omega)]
theorem s204m {p : Int32} (hS : yAr s) (h : p < 0) : f_204 178 s p (yH κ m) = some (0, yH κ m) := by
  unfold f_204
  simp (disch := first | assumption | omega) only [s202m hS h, if_true, yBs, pG_t, pZ_0, pZ_1, pZ_B]
theorem s204f {p : Int32} (hS : yAr s) (hf : 0 < m.1 s 50) : f_204 178 s p (yH κ m) = some (0, yH κ m) := by
  unfold f_204
  simp (disch := first | assumption | omega) only [s202f hS hf, if_true, yBs, pG_t, pZ_0, pZ_1, pZ_B]
end DR
