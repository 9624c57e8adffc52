/-! ===== towers: put, take, carry, clear, copy ===== -/
theorem upd_eq (f : Nat → Int32) (k : Nat) (x : Int32) : upd f k x k = x := if_pos rfl
theorem upd_ne (f : Nat → Int32) {k j : Nat} (x : Int32) (h : j ≠ k) : upd f k x j = f j := if_neg h
theorem upd_upd (f : Nat → Int32) (k : Nat) (x y : Int32) : upd (upd f k x) k y = upd f k y := by funext j; unfold upd; split <;> rfl
theorem upd_id (f : Nat → Int32) (k : Nat) : upd f k (f k) = f := by funext j; unfold upd; split <;> simp_all
theorem upd_comm (f : Nat → Int32) {k j : Nat} (x y : Int32) (h : k ≠ j) : upd (upd f k x) j y = upd (upd f j y) k x := by
  funext i; unfold upd; by_cases h1 : i = k <;> by_cases h2 : i = j <;> simp_all
theorem tWg_upd {th : Nat → Int32} {b l : Nat} {v : Int32} (h : l ≠ b / 3) : tWg (upd th b v) l = tWg th l := by
  unfold tWg; rw [upd_ne _ _ (by omega), upd_ne _ _ (by omega), upd_ne _ _ (by omega)]
theorem tMo_upd {th : Nat → Int32} {b l : Nat} {v : Int32} (h : l ≠ b / 3) : tMo (upd th b v) l = tMo th l := by
  unfold tMo; rw [upd_ne _ _ (by omega), upd_ne _ _ (by omega)]
theorem tBe_upd {th : Nat → Int32} {b l : Nat} {v : Int32} (h : l ≠ b / 3) : tBe (upd th b v) l = tBe th l := by
  unfold tBe; rw [upd_ne _ _ (by omega), upd_ne _ _ (by omega), upd_ne _ _ (by omega)]
theorem tHas_upd {th : Nat → Int32} {b c : Nat} {v : Int32} (h : c ≠ b) : tHas (upd th b v) c = tHas th c := by
  unfold tHas; rw [upd_ne _ _ h]
theorem tBl_upd {th : Nat → Int32} {b l : Nat} {v : Int32} (h : l ≠ b / 3) : tBl (upd th b v) l = tBl th l := by
  unfold tBl; rw [tHas_upd (by omega), tHas_upd (by omega), tHas_upd (by omega)]
/-- what a layer weighs, how it leans, who bears in it are laid out anew -/
def tRf (m : yM) (a l : Nat) : yM := yW (yW (yW m (a + 2) l (tWg (m.1 (a + 1)) l)) (a + 3) l (tMo (m.1 (a + 1)) l)) (a + 4) l (tBe (m.1 (a + 1)) l)
theorem yW_row {m : yM} {a k b : Nat} {x : Int32} (h : b ≠ a) : (yW m a k x).1 b = m.1 b := yR_ne m _ h
theorem yW_self {m : yM} {a k : Nat} {x : Int32} : (yW m a k x).1 a = upd (m.1 a) k x := yR_eq m _ _
section TWb
variable {κ : yK} {m : yM} {a n : Nat} {th : Nat → Int32}
theorem s95 {l : Nat} (ha : yTw a) (hl : l < 16) : f_95 a (yN l) (yH κ m) = some (yH κ (tRf m a l)) := by
  unfold f_95
  simp (disch := first | assumption | omega) only [yN_add, yN_addl, yN_ladd, yN_mul, yN_mull, yN_lmul, yN_sub, yN_subl, yN_lsub, yN_lt, yN_ltl, yN_llt, yN_le, yN_lel, yN_lle, yN_eq, yN_eql, yN_leq, yN_eqm, yN_lem, yN_ltm, yN_mlt, yN_mle, yN_addm, yN_madd, yp_div, yp_rem, yp_divN, yp_remN, yt_is, yt_0, yt_1, yt_2, yt_3, yt_4, yt_p, yt_a1, yt_a2, yt_a3, yt_a4, yt_s1, yt_s2, yt_s3, yt_s4, yBs, pG_t, pZ_0, pZ_1, pZ_B, f96_eq, yIte_some]
  rfl
theorem tRf_fr {l : Nat} : yFr (sT a) m (tRf m a l) := by
  unfold tRf
  refine yFr.tr (S2 := sT a) (yFr.tr (S2 := sT a) (yFr.w (S := sT a) m ?_) (yFr.w _ ?_) (fun _ _ h => h.elim id id)) (yFr.w _ ?_) (fun _ _ h => h.elim id id)
  all_goals (unfold sT; omega)
theorem tRf_th {l : Nat} : (tRf m a l).1 (a + 1) = m.1 (a + 1) := by
  unfold tRf; rw [yW_row (by omega), yW_row (by omega), yW_row (by omega)]
theorem tRf_o {l : Nat} : (tRf m a l).1 a = m.1 a := by
  unfold tRf; rw [yW_row (by omega), yW_row (by omega), yW_row (by omega)]
theorem tRf_get {l k : Nat} : (tRf m a l).1 (a + 2) k = (if k = l then tWg (m.1 (a + 1)) l else m.1 (a + 2) k) ∧ (tRf m a l).1 (a + 3) k = (if k = l then tMo (m.1 (a + 1)) l else m.1 (a + 3) k) ∧ (tRf m a l).1 (a + 4) k = (if k = l then tBe (m.1 (a + 1)) l else m.1 (a + 4) k) := by
  unfold tRf
  simp [yW_get]
theorem s92 {b : Nat} {v : Int32} (ha : yTw a) (ht : Tow m a th n) (hn : n ≤ 16) (hb : b < 48) (hbn : b / 3 ≤ n) : ∃ m', f_92 a (yN b) v (yH κ m) = some (yH κ m') ∧ Tow m' a (upd th b v) (max n (b / 3 + 1)) ∧ yFr (sT a) m m' := by
  unfold f_92
  have e : (yW m (a + 1) b v).1 a = m.1 a := yW_row (by omega)
  simp (disch := first | assumption | omega) only [yN_add, yN_addl, yN_ladd, yN_mul, yN_mull, yN_lmul, yN_sub, yN_subl, yN_lsub, yN_lt, yN_ltl, yN_llt, yN_le, yN_lel, yN_lle, yN_eq, yN_eql, yN_leq, yN_eqm, yN_lem, yN_ltm, yN_mlt, yN_mle, yN_addm, yN_madd, yp_div, yp_rem, yp_divN, yp_remN, yt_is, yt_0, yt_1, yt_2, yt_3, yt_4, yt_p, yt_a1, yt_a2, yt_a3, yt_a4, yt_s1, yt_s2, yt_s3, yt_s4, yBs, pG_t, pZ_0, pZ_1, pZ_B, if_pos, if_neg, e, ht.2.1, yp_maxN, s95 ha]
  refine ⟨_, rfl, ?_, ?_⟩
  · have e1 : (yW (yW m (a + 1) b v) a 4 (yN (max n (b / 3 + 1)))).1 (a + 1) = upd th b v := by
      rw [yW_row (by omega), yW_self, ht.1]
    refine ⟨by rw [tRf_th, e1], by rw [tRf_o, yW_self, upd_eq], fun l hl => ?_⟩
    obtain ⟨g1, g2, g3⟩ := tRf_get (m := yW (yW m (a + 1) b v) a 4 (yN (max n (b / 3 + 1)))) (a := a) (l := b / 3) (k := l)
    rw [g1, g2, g3, e1]
    by_cases h : l = b / 3
    · rw [if_pos h, if_pos h, if_pos h, h]; exact ⟨rfl, rfl, rfl⟩
    · rw [if_neg h, if_neg h, if_neg h, tWg_upd h, tMo_upd h, tBe_upd h, yW_row (by omega), yW_row (by omega), yW_row (by omega), yW_row (by omega), yW_row (by omega), yW_row (by omega)]
      exact ht.2.2 l (by omega)
  · refine yFr.tr (S2 := sT a) (yFr.tr (S2 := sT a) (yFr.w (S := sT a) m ?_) (yFr.w _ ?_) (fun _ _ h => h.elim id id)) tRf_fr (fun _ _ h => h.elim id id)
    all_goals (unfold sT; omega)
/-- a block that is there is taken; its layer stays -/
theorem s93 {b : Nat} (ha : yTw a) (ht : Tow m a th n) (hk : tOk th n) (hb : tHas th b = true) (hl : b / 3 + 1 < n ∨ tWg (upd th b (-1)) (b / 3) ≠ 0) : ∃ m', f_93 a (yN b) (yH κ m) = some (th b, yH κ m') ∧ Tow m' a (upd th b (-1)) n ∧ yFr (sT a) m m' := by
  unfold f_93
  have hn := hk.1
  have h1 := tHas_lt hb
  have h2 := tHas_n hk hb
  simp (disch := first | assumption | omega) only [yN_add, yN_addl, yN_ladd, yN_mul, yN_mull, yN_lmul, yN_sub, yN_subl, yN_lsub, yN_lt, yN_ltl, yN_llt, yN_le, yN_lel, yN_lle, yN_eq, yN_eql, yN_leq, yN_eqm, yN_lem, yN_ltm, yN_mlt, yN_mle, yN_addm, yN_madd, yp_div, yp_rem, yp_divN, yp_remN, yt_is, yt_0, yt_1, yt_2, yt_3, yt_4, yt_p, yt_a1, yt_a2, yt_a3, yt_a4, yt_s1, yt_s2, yt_s3, yt_s4, yBs, pG_t, pZ_0, pZ_1, pZ_B, s90 ha ht.1, hb, yB_t]
  rw [if_neg (by decide)]
  simp (disch := first | assumption | omega) only [yN_add, yN_addl, yN_ladd, yN_mul, yN_mull, yN_lmul, yN_sub, yN_subl, yN_lsub, yN_lt, yN_ltl, yN_llt, yN_le, yN_lel, yN_lle, yN_eq, yN_eql, yN_leq, yN_eqm, yN_lem, yN_ltm, yN_mlt, yN_mle, yN_addm, yN_madd, yp_div, yp_rem, yp_divN, yp_remN, yt_is, yt_0, yt_1, yt_2, yt_3, yt_4, yt_p, yt_a1, yt_a2, yt_a3, yt_a4, yt_s1, yt_s2, yt_s3, yt_s4, yBs, pG_t, pZ_0, pZ_1, pZ_B, s95 ha, tRf_o, yW_row, ht.2.1, ht.1]
  have e1 : (yW m (a + 1) b (-1)).1 (a + 1) = upd th b (-1) := by rw [yW_self, ht.1]
  obtain ⟨g1, -, -⟩ := tRf_get (m := yW m (a + 1) b (-1)) (a := a) (l := b / 3) (k := b / 3)
  rw [if_pos rfl, e1] at g1
  refine ⟨tRf (yW m (a + 1) b (-1)) a (b / 3), ?_, ?_, ?_⟩
  · by_cases hl2 : b / 3 = n - 1
    · rw [if_pos hl2, g1, if_neg (by rcases hl with q | q; omega; exact q), yBs]
    · rw [if_neg hl2, yBs]
  · refine ⟨by rw [tRf_th, e1], by rw [tRf_o, yW_row (by omega), ht.2.1], fun l hl => ?_⟩
    obtain ⟨g1, g2, g3⟩ := tRf_get (m := yW m (a + 1) b (-1)) (a := a) (l := b / 3) (k := l)
    rw [g1, g2, g3, e1]
    by_cases h : l = b / 3
    · rw [if_pos h, if_pos h, if_pos h, h]; exact ⟨rfl, rfl, rfl⟩
    · rw [if_neg h, if_neg h, if_neg h, tWg_upd h, tMo_upd h, tBe_upd h, yW_row (by omega), yW_row (by omega), yW_row (by omega)]
      exact ht.2.2 l (by omega)
  · refine yFr.tr (S2 := sT a) (yFr.w (S := sT a) m ?_) tRf_fr (fun _ _ h => h.elim id id)
    unfold sT; omega
/-- the only block of the highest layer is taken: the layer is no more -/
theorem s93t {b : Nat} (ha : yTw a) (ht : Tow m a th n) (hn : n ≤ 16) (hb : tHas th b = true) (hl : b / 3 + 1 = n) (h0 : tWg (upd th b (-1)) (b / 3) = 0) : ∃ m', f_93 a (yN b) (yH κ m) = some (th b, yH κ m') ∧ Tow m' a (upd th b (-1)) (n - 1) ∧ yFr (sT a) m m' := by
  unfold f_93
  have h1 := tHas_lt hb
  simp (disch := first | assumption | omega) only [yN_add, yN_addl, yN_ladd, yN_mul, yN_mull, yN_lmul, yN_sub, yN_subl, yN_lsub, yN_lt, yN_ltl, yN_llt, yN_le, yN_lel, yN_lle, yN_eq, yN_eql, yN_leq, yN_eqm, yN_lem, yN_ltm, yN_mlt, yN_mle, yN_addm, yN_madd, yp_div, yp_rem, yp_divN, yp_remN, yt_is, yt_0, yt_1, yt_2, yt_3, yt_4, yt_p, yt_a1, yt_a2, yt_a3, yt_a4, yt_s1, yt_s2, yt_s3, yt_s4, yBs, pG_t, pZ_0, pZ_1, pZ_B, s90 ha ht.1, hb, yB_t]
  rw [if_neg (by decide)]
  simp (disch := first | assumption | omega) only [yN_add, yN_addl, yN_ladd, yN_mul, yN_mull, yN_lmul, yN_sub, yN_subl, yN_lsub, yN_lt, yN_ltl, yN_llt, yN_le, yN_lel, yN_lle, yN_eq, yN_eql, yN_leq, yN_eqm, yN_lem, yN_ltm, yN_mlt, yN_mle, yN_addm, yN_madd, yp_div, yp_rem, yp_divN, yp_remN, yt_is, yt_0, yt_1, yt_2, yt_3, yt_4, yt_p, yt_a1, yt_a2, yt_a3, yt_a4, yt_s1, yt_s2, yt_s3, yt_s4, yBs, pG_t, pZ_0, pZ_1, pZ_B, s95 ha, tRf_o, yW_row, ht.2.1, ht.1]
  have e1 : (yW m (a + 1) b (-1)).1 (a + 1) = upd th b (-1) := by rw [yW_self, ht.1]
  obtain ⟨g1, -, -⟩ := tRf_get (m := yW m (a + 1) b (-1)) (a := a) (l := b / 3) (k := b / 3)
  rw [if_pos rfl, e1] at g1
  refine ⟨yW (tRf (yW m (a + 1) b (-1)) a (b / 3)) a 4 (yN (b / 3)), ?_, ?_, ?_⟩
  · rw [if_pos (by omega), g1, if_pos h0, yBs]
  · refine ⟨by rw [yW_row (by omega), tRf_th, e1], by rw [yW_self, upd_eq]; congr 1; omega, fun l hl => ?_⟩
    obtain ⟨g1, g2, g3⟩ := tRf_get (m := yW m (a + 1) b (-1)) (a := a) (l := b / 3) (k := l)
    rw [yW_row (by omega), yW_row (by omega), yW_row (by omega), g1, g2, g3, e1]
    have h : l ≠ b / 3 := by omega
    rw [if_neg h, if_neg h, if_neg h, tWg_upd h, tMo_upd h, tBe_upd h, yW_row (by omega), yW_row (by omega), yW_row (by omega)]
    exact ht.2.2 l (by omega)
  · refine yFr.tr (S2 := sT a) (yFr.tr (S2 := sT a) (yFr.w (S := sT a) m ?_) tRf_fr (fun _ _ h => h.elim id id)) (yFr.w _ ?_) (fun _ _ h => h.elim id id)
    all_goals (unfold sT; omega)
/-- a row of ints is filled -/
theorem s266_5 {N : Nat} {v : Int32} (h1 : ySh[a]? = some (.inl (0, N))) (hN : N ≤ 65536) : ∀ (d k fu : Nat) (m : yM), k + d = N → d < fu → f_266_5 fu a v (yN k) (yN N) (yH κ m) = some (yH κ (yR m a (fun j => if k ≤ j ∧ j < N then v else m.1 a j))) := by
  intro d
  induction d with
  | zero =>
    intro k fu m hk hf
    obtain ⟨fu, rfl⟩ : ∃ k, fu = k + 1 := ⟨fu - 1, by omega⟩
    unfold f_266_5
    simp (disch := first | assumption | omega) only [yN_add, yN_addl, yN_ladd, yN_mul, yN_mull, yN_lmul, yN_sub, yN_subl, yN_lsub, yN_lt, yN_ltl, yN_llt, yN_le, yN_lel, yN_lle, yN_eq, yN_eql, yN_leq, yN_eqm, yN_lem, yN_ltm, yN_mlt, yN_mle, yN_addm, yN_madd, yp_div, yp_rem, yp_divN, yp_remN, if_pos, if_neg]
    congr 2
    unfold yR
    refine Prod.ext ?_ rfl
    funext x
    simp only
    split <;> simp_all
  | succ d ih =>
    intro k fu m hk hf
    obtain ⟨fu, rfl⟩ : ∃ k, fu = k + 1 := ⟨fu - 1, by omega⟩
    unfold f_266_5
    simp (disch := first | assumption | omega) only [yN_add, yN_addl, yN_ladd, yN_mul, yN_mull, yN_lmul, yN_sub, yN_subl, yN_lsub, yN_lt, yN_ltl, yN_llt, yN_le, yN_lel, yN_lle, yN_eq, yN_eql, yN_leq, yN_eqm, yN_lem, yN_ltm, yN_mlt, yN_mle, yN_addm, yN_madd, yp_div, yp_rem, yp_divN, yp_remN, if_pos, if_neg, yh_si h1 hN, yBs, pG_t, pZ_0, pZ_1, pZ_B]
    rw [ih (k + 1) fu _ (by omega) (by omega)]
    congr 2
    unfold yR yW yR upd
    refine Prod.ext ?_ rfl
    funext x
    simp only
    by_cases hx : x = a
    · rw [if_pos hx, if_pos hx]
      funext j
      rw [if_pos trivial]
      by_cases hj : j = k
      · subst hj; rw [if_neg (by omega), if_pos rfl, if_pos (by omega)]
      · rw [if_neg hj]
        by_cases hj2 : k + 1 ≤ j ∧ j < N
        · rw [if_pos hj2, if_pos (by omega)]
        · rw [if_neg hj2, if_neg (by omega)]
    · rw [if_neg hx, if_neg hx, if_neg hx]
theorem s266 {N : Nat} {v : Int32} (h1 : ySh[a]? = some (.inl (0, N))) (hN : N ≤ 65536) : f_266 a v (yH κ m) = some (yH κ (yR m a (fun j => if j < N then v else m.1 a j))) := by
  unfold f_266
  rw [yh_len h1 (by omega), yBs, show (0 : Int32) = yN 0 from rfl, s266_5 h1 hN N 0 _ _ (by omega) (by omega), yBs]
  simp only [Nat.zero_le, true_and]
theorem s88 (ha : yTw a) : ∃ m', f_88 a (yH κ m) = some (yH κ m') ∧ Tow m' a (fun j => if j < 48 then -1 else m.1 (a + 1) j) 0 ∧ yFr (sT a) m m' := by
  unfold f_88
  simp (disch := first | assumption | omega) only [yt_is, yt_0, yt_1, yt_2, yt_3, yt_4, yt_p, yt_a1, yt_a2, yt_a3, yt_a4, yt_s1, yt_s2, yt_s3, yt_s4, yBs, pG_t, pZ_0, pZ_1, pZ_B, s266 ha.2.1 (show 48 ≤ 65536 by omega)]
  refine ⟨_, rfl, ⟨?_, ?_, fun l hl => absurd hl (Nat.not_lt_zero l)⟩, rfl, fun x j h => ?_⟩
  · rw [yW_row (by omega), yR_eq]
  · rw [yW_self, upd_eq]; rfl
  · unfold sT at h
    rw [yW_row (by omega), yR_ne _ _ (by omega)]
end TWb
