/-! ===== games are copied: kept, undone ===== -/
theorem va_c0 {α : Type} (f g : Nat → α) (c : Nat) : va_cpy f g 0 0 c = fun j => if j < c then f j else g j := by
  funext j; unfold va_cpy; simp
/-- 54 numbers of a row, from po on, come into another, from qo on; from the k-th on -/
def cpO (f : Nat → Int32) (po : Nat) (g : Nat → Int32) (qo k : Nat) : Nat → Int32 := fun j => if qo + k ≤ j ∧ j < qo + 54 then f (po + (j - qo)) else g j
theorem cpO_end {f g : Nat → Int32} {po qo : Nat} : cpO f po g qo 54 = g := by
  funext j; unfold cpO; rw [if_neg (by omega)]
theorem cpO_step {f g : Nat → Int32} {po qo k q : Nat} {v : Int32} (hk : k < 54) (hq : q = qo + k) (hv : v = f (po + k)) : cpO f po (upd g q v) qo (k + 1) = cpO f po g qo k := by
  subst hq hv
  funext j
  unfold cpO upd
  by_cases h : j = qo + k
  · subst h; rw [if_neg (by omega), if_pos rfl, if_pos (by omega)]; congr 1; omega
  · by_cases h2 : qo + (k + 1) ≤ j ∧ j < qo + 54
    · rw [if_pos h2, if_pos (by omega)]
    · rw [if_neg h2, if_neg h, if_neg (by omega)]
theorem cpO_in {f g : Nat → Int32} {po qo j : Nat} (h : j < 54) : cpO f po g qo 0 (qo + j) = f (po + j) := by
  unfold cpO; rw [if_pos (by omega)]; congr 1; omega
theorem cpO_out {f g : Nat → Int32} {po qo j : Nat} (h : j < qo ∨ qo + 54 ≤ j) : cpO f po g qo 0 j = g j := by
  unfold cpO; rw [if_neg (by omega)]

theorem s260_28 {κ : yK} {i : Nat} (hi : i < 3) : ∀ (d k fu : Nat) (m : yM), k + d = 54 → d < fu → f_260_28 fu 178 (yN i) (yN k) (yH κ m) = some (yH κ (yR m 211 (cpO (m.1 180) 0 (m.1 211) (54 * i) k))) := by
  intro d
  induction d with
  | zero =>
    intro k fu m hk hf
    obtain ⟨fu, rfl⟩ : ∃ k, fu = k + 1 := ⟨fu - 1, by omega⟩
    obtain rfl : k = 54 := by omega
    unfold f_260_28
    simp (disch := first | assumption | omega) only [yN_add, yN_addl, yN_ladd, yN_mul, yN_mull, yN_lmul, yN_sub, yN_subl, yN_lsub, yN_lt, yN_ltl, yN_llt, yN_le, yN_lel, yN_lle, yN_eq, yN_eql, yN_leq, yN_eqm, yN_lem, yN_ltm, yN_mlt, yN_mle, yN_addm, yN_madd, yp_div, yp_rem, yp_divN, yp_remN, if_pos, if_neg]
    rw [cpO_end, yR_id]
  | succ d ih =>
    intro k fu m hk hf
    obtain ⟨fu, rfl⟩ : ∃ k, fu = k + 1 := ⟨fu - 1, by omega⟩
    unfold f_260_28
    simp (disch := first | assumption | omega) only [yN_add, yN_addl, yN_ladd, yN_mul, yN_mull, yN_lmul, yN_sub, yN_subl, yN_lsub, yN_lt, yN_ltl, yN_llt, yN_le, yN_lel, yN_lle, yN_eq, yN_eql, yN_leq, yN_eqm, yN_lem, yN_ltm, yN_mlt, yN_mle, yN_addm, yN_madd, yp_div, yp_rem, yp_divN, yp_remN, if_pos, if_neg, yr_178_52, yr_178_3, yr_a yAr_180, yst_211, yBs, pG_t, pZ_0, pZ_1, pZ_B]
    rw [ih (k + 1) fu _ (by omega) (by omega), yR_yW, yW_row (by omega), yW_self, cpO_step (k := k) (by omega) (by omega) (by first | rfl | rw [Nat.zero_add])]
theorem s261_30 {κ : yK} {i : Nat} (hi : i < 3) : ∀ (d k fu : Nat) (m : yM), k + d = 54 → d < fu → f_261_30 fu 178 (yN i) (yN k) (yH κ m) = some (yH κ (yR m 180 (cpO (m.1 211) (54 * i) (m.1 180) 0 k))) := by
  intro d
  induction d with
  | zero =>
    intro k fu m hk hf
    obtain ⟨fu, rfl⟩ : ∃ k, fu = k + 1 := ⟨fu - 1, by omega⟩
    obtain rfl : k = 54 := by omega
    unfold f_261_30
    simp (disch := first | assumption | omega) only [yN_add, yN_addl, yN_ladd, yN_mul, yN_mull, yN_lmul, yN_sub, yN_subl, yN_lsub, yN_lt, yN_ltl, yN_llt, yN_le, yN_lel, yN_lle, yN_eq, yN_eql, yN_leq, yN_eqm, yN_lem, yN_ltm, yN_mlt, yN_mle, yN_addm, yN_madd, yp_div, yp_rem, yp_divN, yp_remN, if_pos, if_neg]
    rw [cpO_end, yR_id]
  | succ d ih =>
    intro k fu m hk hf
    obtain ⟨fu, rfl⟩ : ∃ k, fu = k + 1 := ⟨fu - 1, by omega⟩
    unfold f_261_30
    simp (disch := first | assumption | omega) only [yN_add, yN_addl, yN_ladd, yN_mul, yN_mull, yN_lmul, yN_sub, yN_subl, yN_lsub, yN_lt, yN_ltl, yN_llt, yN_le, yN_lel, yN_lle, yN_eq, yN_eql, yN_leq, yN_eqm, yN_lem, yN_ltm, yN_mlt, yN_mle, yN_addm, yN_madd, yp_div, yp_rem, yp_divN, yp_remN, if_pos, if_neg, yr_178_52, yr_178_3, yr_s yAr_180, ya_211, yBs, pG_t, pZ_0, pZ_1, pZ_B]
    rw [ih (k + 1) fu _ (by omega) (by omega), yR_yW, yW_row (by omega), yW_self, cpO_step (k := k) (by omega) (by omega) (by first | rfl | rw [Nat.zero_add])]
theorem s218_26 {κ : yK} {u : Nat} (hul : u < 16) : ∀ (d k fu : Nat) (m : yM), k + d = 54 → d < fu → m.1 178 28 = yN u → f_218_26 fu 178 (yN k) (yH κ m) = some (yH κ (yR m 180 (cpO (m.1 193) (54 * u) (m.1 180) 0 k))) := by
  intro d
  induction d with
  | zero =>
    intro k fu m hk hf hu
    obtain ⟨fu, rfl⟩ : ∃ k, fu = k + 1 := ⟨fu - 1, by omega⟩
    obtain rfl : k = 54 := by omega
    unfold f_218_26
    simp (disch := first | assumption | omega) only [yN_add, yN_addl, yN_ladd, yN_mul, yN_mull, yN_lmul, yN_sub, yN_subl, yN_lsub, yN_lt, yN_ltl, yN_llt, yN_le, yN_lel, yN_lle, yN_eq, yN_eql, yN_leq, yN_eqm, yN_lem, yN_ltm, yN_mlt, yN_mle, yN_addm, yN_madd, yp_div, yp_rem, yp_divN, yp_remN, if_pos, if_neg]
    rw [cpO_end, yR_id]
  | succ d ih =>
    intro k fu m hk hf hu
    obtain ⟨fu, rfl⟩ : ∃ k, fu = k + 1 := ⟨fu - 1, by omega⟩
    unfold f_218_26
    simp (disch := first | assumption | omega) only [yN_add, yN_addl, yN_ladd, yN_mul, yN_mull, yN_lmul, yN_sub, yN_subl, yN_lsub, yN_lt, yN_ltl, yN_llt, yN_le, yN_lel, yN_lle, yN_eq, yN_eql, yN_leq, yN_eqm, yN_lem, yN_ltm, yN_mlt, yN_mle, yN_addm, yN_madd, yp_div, yp_rem, yp_divN, yp_remN, if_pos, if_neg, yr_178_29, yr_178_3, yi_178_28, yr_s yAr_180, ya_193, yBs, pG_t, pZ_0, pZ_1, pZ_B, hu]
    rw [ih (k + 1) fu _ (by omega) (by omega) (by rw [yW_row (by omega), hu]), yR_yW, yW_row (by omega), yW_self, cpO_step (k := k) (by omega) (by omega) (by first | rfl | rw [Nat.zero_add])]
theorem s216_2 {κ : yK} {u : Nat} (hul : u < 16) : ∀ (d k fu : Nat) (m : yM), k + d = 54 → d < fu → m.1 178 28 = yN u → f_216_2 fu 178 (yN k) (yH κ m) = some (yH κ (yR m 193 (cpO (m.1 180) 0 (m.1 193) (54 * u) k))) := by
  intro d
  induction d with
  | zero =>
    intro k fu m hk hf hu
    obtain ⟨fu, rfl⟩ : ∃ k, fu = k + 1 := ⟨fu - 1, by omega⟩
    obtain rfl : k = 54 := by omega
    unfold f_216_2
    simp (disch := first | assumption | omega) only [yN_add, yN_addl, yN_ladd, yN_mul, yN_mull, yN_lmul, yN_sub, yN_subl, yN_lsub, yN_lt, yN_ltl, yN_llt, yN_le, yN_lel, yN_lle, yN_eq, yN_eql, yN_leq, yN_eqm, yN_lem, yN_ltm, yN_mlt, yN_mle, yN_addm, yN_madd, yp_div, yp_rem, yp_divN, yp_remN, if_pos, if_neg]
    rw [cpO_end, yR_id]
  | succ d ih =>
    intro k fu m hk hf hu
    obtain ⟨fu, rfl⟩ : ∃ k, fu = k + 1 := ⟨fu - 1, by omega⟩
    unfold f_216_2
    simp (disch := first | assumption | omega) only [yN_add, yN_addl, yN_ladd, yN_mul, yN_mull, yN_lmul, yN_sub, yN_subl, yN_lsub, yN_lt, yN_ltl, yN_llt, yN_le, yN_lel, yN_lle, yN_eq, yN_eql, yN_leq, yN_eqm, yN_lem, yN_ltm, yN_mlt, yN_mle, yN_addm, yN_madd, yp_div, yp_rem, yp_divN, yp_remN, if_pos, if_neg, yr_178_29, yr_178_3, yi_178_28, yr_a yAr_180, yst_193, yBs, pG_t, pZ_0, pZ_1, pZ_B, hu]
    rw [ih (k + 1) fu _ (by omega) (by omega) (by rw [yW_row (by omega), hu]), yR_yW, yW_row (by omega), yW_self, cpO_step (k := k) (by omega) (by omega) (by first | rfl | rw [Nat.zero_add])]
section CP
variable {κ : yK} {m : yM} {a b n : Nat} {th : Nat → Int32}
/-- Tower.copyFrom() -/
theorem s89 (ha : yTw a) (hb : yTw b) (hd : a + 4 < b ∨ b + 4 < a) (ht : Tow m b th n) (hn : n ≤ 16) (hz : ∀ j, 48 ≤ j → th j = 0) (hz2 : ∀ j, 48 ≤ j → m.1 (a + 1) j = 0) : ∃ m', f_89 a b (yH κ m) = some (yH κ m') ∧ Tow m' a th n ∧ yFr (sT a) m m' := by
  have k1 : ∀ m, pCpy (yH κ m) (b + 1) 0 (a + 1) 0 48 = some (yH κ (yR m (a + 1) (va_cpy (m.1 (b + 1)) (m.1 (a + 1)) 0 0 48))) := fun m => yh_cpy (sp := 0) (dp := 0) (c := 48) hb.2.1 ha.2.1 (by omega) (by omega) (by omega) (by omega)
  have k2 : ∀ m, pCpy (yH κ m) (b + 2) 0 (a + 2) 0 16 = some (yH κ (yR m (a + 2) (va_cpy (m.1 (b + 2)) (m.1 (a + 2)) 0 0 16))) := fun m => yh_cpy (sp := 0) (dp := 0) (c := 16) hb.2.2.1 ha.2.2.1 (by omega) (by omega) (by omega) (by omega)
  have k3 : ∀ m, pCpy (yH κ m) (b + 3) 0 (a + 3) 0 16 = some (yH κ (yR m (a + 3) (va_cpy (m.1 (b + 3)) (m.1 (a + 3)) 0 0 16))) := fun m => yh_cpy (sp := 0) (dp := 0) (c := 16) hb.2.2.2.1 ha.2.2.2.1 (by omega) (by omega) (by omega) (by omega)
  have k4 : ∀ m, pCpy (yH κ m) (b + 4) 0 (a + 4) 0 16 = some (yH κ (yR m (a + 4) (va_cpy (m.1 (b + 4)) (m.1 (a + 4)) 0 0 16))) := fun m => yh_cpy (sp := 0) (dp := 0) (c := 16) hb.2.2.2.2 ha.2.2.2.2 (by omega) (by omega) (by omega) (by omega)
  refine ⟨yW (yR (yR (yR (yR m (a + 1) (va_cpy (m.1 (b + 1)) (m.1 (a + 1)) 0 0 48)) (a + 2) (va_cpy (m.1 (b + 2)) (m.1 (a + 2)) 0 0 16)) (a + 3) (va_cpy (m.1 (b + 3)) (m.1 (a + 3)) 0 0 16)) (a + 4) (va_cpy (m.1 (b + 4)) (m.1 (a + 4)) 0 0 16)) a 4 (m.1 b 4), ?_, ⟨?_, ?_, fun l hl => ?_⟩, rfl, fun x j h => ?_⟩
  · unfold f_89
    simp (disch := first | assumption | omega) only [yt_0 ha, yt_0 hb, yt_1 ha, yt_1 hb, yt_2 ha, yt_2 hb, yt_3 ha, yt_3 hb, yt_4 hb, yt_p ha, k1, k2, k3, k4, yBs, yR_ne]
  · rw [yW_row (by omega), yR_ne _ _ (by omega), yR_ne _ _ (by omega), yR_ne _ _ (by omega), yR_eq, va_c0, ht.1]
    funext j
    by_cases hj : j < 48
    · rw [if_pos hj]
    · rw [if_neg hj, hz2 j (by omega), hz j (by omega)]
  · rw [yW_self, upd_eq, ht.2.1]
  · obtain ⟨q1, q2, q3⟩ := ht.2.2 l hl
    refine ⟨?_, ?_, ?_⟩
    · rw [yW_row (by omega), yR_ne _ _ (by omega), yR_ne _ _ (by omega), yR_eq, va_c0]; exact (if_pos (by omega)).trans q1
    · rw [yW_row (by omega), yR_ne _ _ (by omega), yR_eq, va_c0]; exact (if_pos (by omega)).trans q2
    · rw [yW_row (by omega), yR_eq, va_c0]; exact (if_pos (by omega)).trans q3
  · unfold sT at h
    rw [yW_row (by omega), yR_ne _ _ (by omega), yR_ne _ _ (by omega), yR_ne _ _ (by omega), yR_ne _ _ (by omega)]
def sS (a x _j : Nat) : Prop := a ≤ x ∧ x ≤ a + 5
/-- State.copyFrom() -/
theorem s71 {s : zT} (ha : ySt a) (hb : ySt b) (hd : a + 5 < b ∨ b + 5 < a) (hs : cSt m b s) (hk : zOkT s) (hz2 : ∀ j, 48 ≤ j → m.1 (a + 2) j = 0) : ∃ m', f_71 a b (yH κ m) = some (yH κ m') ∧ cSt m' a s ∧ yG (sS a) m m' := by
  obtain ⟨h1, h2, h3, h4, h5⟩ := hs
  obtain ⟨m1, e1, T1, F1⟩ := s89 (κ := κ) ha.2 hb.2 (by omega) h1 hk.1.1 hk.2.1 hz2
  have k : ∀ j, m1.1 b j = m.1 b j := fun j => F1.2 b j (by unfold sT; omega)
  have g2 : yG (sS a) m1 (yW (yW (yW (yW (yW m1 a 1 (m.1 b 1)) a 2 (m.1 b 2)) a 3 (m.1 b 3)) a 4 (m.1 b 4)) a 5 (m.1 b 5)) := by
    have q : ∀ (m : yM) (j : Nat) (x : Int32), yG (sS a) m (yW m a j x) := fun m j x => yG.w m (by unfold sS; omega)
    exact ((((q _ _ _).tr (q _ _ _) (fun _ _ => orSelf)).tr (q _ _ _) (fun _ _ => orSelf)).tr (q _ _ _) (fun _ _ => orSelf)).tr (q _ _ _) (fun _ _ => orSelf)
  have gx : yG (fun x _ => x = a) m1 (yW (yW (yW (yW (yW m1 a 1 (m.1 b 1)) a 2 (m.1 b 2)) a 3 (m.1 b 3)) a 4 (m.1 b 4)) a 5 (m.1 b 5)) := by
    have q : ∀ (m : yM) (j : Nat) (x : Int32), yG (fun x _ => x = a) m (yW m a j x) := fun m j x => yG.w m rfl
    exact ((((q _ _ _).tr (q _ _ _) (fun _ _ => orSelf)).tr (q _ _ _) (fun _ _ => orSelf)).tr (q _ _ _) (fun _ _ => orSelf)).tr (q _ _ _) (fun _ _ => orSelf)
  refine ⟨_, ?_, ⟨?_, ?_, ?_, ?_, fun q => ?_⟩, (F1.g (S3 := sS a) (fun x j r => by unfold sT at r; unfold sS; omega)).tr g2 (fun _ _ => orSelf)⟩
  · unfold f_71
    have hab : b ≠ a := by omega
    simp (disch := first | assumption | omega) only [ys_0 ha, ys_0 hb, yt_is ha.2, yBs, pG_t, pZ_0, pZ_1, pZ_B, e1, ys_i1 hb, ys_i2 hb, ys_i3 hb, ys_i4 hb, ys_i5 hb, ys_p1 ha, ys_p2 ha, ys_p3 ha, ys_p4 ha, ys_p5 ha, yW_row, k]
  · exact T1.g gx (fun x j p q r => by have : x = a := r; omega)
  · simp [yW_get, h2]
  · simp [yW_get, h3]
  · simp [yW_get, h4]
  · simp [yW_get, h5 q]
theorem y103 {k : Nat} (h : k < 3) : pAa (yH κ m) 103 (yN k) = some (160 + 6 * k) := by
  have : k = 0 ∨ k = 1 ∨ k = 2 := by omega
  rcases this with rfl | rfl | rfl
  · exact yh_aa (rs := [160, 166, 172]) rfl (by decide) rfl
  · exact yh_aa (rs := [160, 166, 172]) rfl (by decide) rfl
  · exact yh_aa (rs := [160, 166, 172]) rfl (by decide) rfl
theorem y12l : ∀ k : Fin 15, ([13, 19, 25, 31, 37, 43, 49, 55, 61, 67, 73, 79, 85, 91, 97] : List Nat)[k.val]? = some (13 + 6 * k.val) := by decide
theorem y12 {k : Nat} (h : k < 15) : pAa (yH κ m) 12 (yN k) = some (13 + 6 * k) := yh_aa (rs := [13, 19, 25, 31, 37, 43, 49, 55, 61, 67, 73, 79, 85, 91, 97]) rfl (by decide) (y12l ⟨k, h⟩)
theorem ysw_hi {k : Nat} (h : k < 15) : ySt (13 + 6 * k) := by
  have : k = 0 ∨ k = 1 ∨ k = 2 ∨ k = 3 ∨ k = 4 ∨ k = 5 ∨ k = 6 ∨ k = 7 ∨ k = 8 ∨ k = 9 ∨ k = 10 ∨ k = 11 ∨ k = 12 ∨ k = 13 ∨ k = 14 := by omega
  rcases this with rfl | rfl | rfl | rfl | rfl | rfl | rfl | rfl | rfl | rfl | rfl | rfl | rfl | rfl | rfl
  · exact ysw_13
  · exact ysw_19
  · exact ysw_25
  · exact ysw_31
  · exact ysw_37
  · exact ysw_43
  · exact ysw_49
  · exact ysw_55
  · exact ysw_61
  · exact ysw_67
  · exact ysw_73
  · exact ysw_79
  · exact ysw_85
  · exact ysw_91
  · exact ysw_97
theorem ysw_ke {k : Nat} (h : k < 3) : ySt (160 + 6 * k) := by
  have : k = 0 ∨ k = 1 ∨ k = 2 := by omega
  rcases this with rfl | rfl | rfl
  · exact ysw_160
  · exact ysw_166
  · exact ysw_172
end CP
/-- who is to move, by what is left -/
def zMd (s : zT) (p : Nat) : zT := (s.1, s.2.1, zmv s % p, s.2.2.2)
theorem zMd_ok {s : zT} {p : Nat} (h : zOkT s) (h1 : 1 ≤ p) (h4 : p ≤ 4) : zOkT (zMd s p) ∧ zmv (zMd s p) < p := by
  have hm : zmv s % p < p := Nat.mod_lt _ (by omega)
  exact ⟨⟨h.1, h.2.1, (by show zmv s % p < 4; omega), h.2.2.2⟩, hm⟩
section CQ
variable {κ : yK} {m : yM} {A : zT} {H : zH} {K : zK} {C : zC} {D D' : List Int64} {E : zE} {F : zF} {s : zT}
theorem cSt.mv {v : Nat} (h : cSt m 5 s) : cSt (yW m 5 1 (yN v)) 5 (s.1, s.2.1, v, s.2.2.2) := by
  obtain ⟨h1, h2, h3, h4, h5⟩ := h
  refine ⟨h1.g (yG.w (S := fun x _ => x = 5) m rfl) (fun x j p q r => by have : x = 5 := r; omega), by rw [yW_self, upd_eq], by rw [yW_get, if_neg (by omega), h3], by rw [yW_get, if_neg (by omega), h4], fun q => ?_⟩
  rw [yW_get, if_neg (by omega), yW_get, if_neg (by omega)]
  exact h5 q
theorem rSt.mv {v : Nat} (h : rSt m 180 0 s) : rSt (yW m 180 49 (yN v)) 180 0 (s.1, s.2.1, v, s.2.2.2) := by
  obtain ⟨h1, h2, h3, h4, h5, h6⟩ := h
  refine ⟨fun b hb => by rw [yW_get, if_neg (by omega), h1 b hb], by rw [yW_get, if_neg (by omega), h2], by rw [yW_self]; exact upd_eq _ _ _, by rw [yW_get, if_neg (by omega), h4], by rw [yW_get, if_neg (by omega), h5], fun q => ?_⟩
  rw [yW_get, if_neg (by omega), yW_get, if_neg (by omega)]
  exact h6 q
theorem cHi.z (h : cHi m H) (H' : Nat → zT) : cHi (yW m 11 2 0) (0, H') := by
  obtain ⟨h1, h2, nx, h3, h4, h5⟩ := h
  refine ⟨by rw [yW_self, upd_eq]; rfl, fun i hi j hj => by rw [yW_row (by omega), h2 i hi j hj], nx, h3, by rw [yW_get, if_neg (by omega), h4], fun j hj => absurd hj (Nat.not_lt_zero j)⟩
end CQ
theorem y11 : (1 : Int32) &&& 1 = 1 := by decide
def kP (K : zK) (k : Nat) (A : zT) : zK := fun i => if i = k then some A else K i
theorem kP_eq {K : zK} {k i : Nat} {A : zT} (h : i = k) : kP K k A i = some A := if_pos h
theorem kP_ne {K : zK} {k i : Nat} {A : zT} (h : ¬ i = k) : kP K k A i = K i := if_neg h
theorem z_keep (p : Int32) : zCall (f_156 0 p) (f_260 178 p) := by
  intro κ A H K C D E F o
  by_cases h : 0 ≤ p ∧ p ≤ 2
  · obtain ⟨k, hk, rfl⟩ := yN_of' h.1
    have hk3 : k < 3 := by have := h.2; rw [yN_lel hk (by omega)] at this; omega
    refine ⟨1, A, H, kP K k A, C, D, E, F, ⟨o.1, o.2.1, fun i hi s e => ?_, o.2.2.2⟩, fun m c => ?_, fun m c => ?_⟩
    · by_cases hik : i = k
      · rw [kP_eq hik] at e; cases e; exact o.1.1
      · rw [kP_ne hik] at e; exact o.2.2.1 i hi s e
    · obtain ⟨z1, z2⟩ := c.2.2.1
      obtain ⟨m1, e1, c1, g1⟩ := s71 (κ := κ) (ysw_ke hk3) ysw_5 (by omega) c.1 o.1.1 (fun j hj => by rw [show 160 + 6 * k + 2 = 162 + 6 * k by omega]; exact z1 k hk3 j hj)
      have g2 : yG (fun x _ => x = 104) m1 (yW m1 104 k 1) := yG.w m1 rfl
      have G : yG (fun x _ => x = 104 ∨ (160 + 6 * k ≤ x ∧ x ≤ 160 + 6 * k + 5)) m (yW m1 104 k 1) := g1.tr g2 (fun x j q => q.elim (fun r => by unfold sS at r; omega) (fun r => Or.inl r))
      refine ⟨yW m1 104 k 1, ?_, ?_, G.wk (fun x j q => by unfold sC; omega)⟩
      · unfold f_156
        simp (disch := first | assumption | omega) only [yN_add, yN_addl, yN_ladd, yN_mul, yN_mull, yN_lmul, yN_sub, yN_subl, yN_lsub, yN_lt, yN_ltl, yN_llt, yN_le, yN_lel, yN_lle, yN_eq, yN_eql, yN_leq, yN_eqm, yN_lem, yN_ltm, yN_mlt, yN_mle, yN_addm, yN_madd, yp_div, yp_rem, yp_divN, yp_remN, if_pos, if_neg, yr_0_4, y103 hk3, yr_0_2, ys_is (ysw_ke hk3), yBs, pG_t, pZ_0, pZ_1, pZ_B, e1, yr_0_5, yst_104, y11]
      · refine c.fK o.2.1.1 G (fun x j q => by omega) ⟨fun i hi j hj => ?_, fun i hi => ⟨?_, fun s e => ?_⟩⟩
        · by_cases hik : i = k
          · subst hik
            rw [yW_row (by omega)]
            have q := c1.1.1
            rw [show 160 + 6 * i + 1 + 1 = 162 + 6 * i by omega] at q
            rw [q]; exact o.1.1.2.1 j hj
          · rw [(G (162 + 6 * i) j (by omega)).1]; exact z1 i hi j hj
        · rw [yW_get]
          by_cases hik : i = k
          · subst hik; rw [if_pos ⟨rfl, rfl⟩, kP_eq rfl]; rfl
          · rw [if_neg (by omega), kP_ne hik, (g1 104 i (by unfold sS; omega)).1]; exact (z2 i hi).1
        · by_cases hik : i = k
          · subst hik
            rw [kP_eq rfl] at e; cases e
            exact c1.g g2 (fun x j q r => by have : x = 104 := q; omega)
          · rw [kP_ne hik] at e
            exact ((z2 i hi).2 s e).g G (fun x j q r => by omega)
    · obtain ⟨c0, g0⟩ := c.th 0
      have e1 := s260_28 (κ := κ) hk3 54 0 100000 (yW (yW m 178 0 0) 210 k 1) (by omega) (by omega)
      have G : yG (fun x j => (x = 210 ∧ j = k) ∨ (x = 211 ∧ 54 * k ≤ j ∧ j < 54 * k + 54)) (yW m 178 0 0) (yR (yW (yW m 178 0 0) 210 k 1) 211 (cpO ((yW (yW m 178 0 0) 210 k 1).1 180) 0 ((yW (yW m 178 0 0) 210 k 1).1 211) (54 * k) 0)) := by
        refine (yG.w _ (Or.inl ⟨rfl, rfl⟩)).tr (yG.r _ (fun j hj => Or.inr ⟨rfl, ?_⟩)) (fun _ _ => orSelf)
        rcases Nat.lt_or_ge j (54 * k) with q | q
        · exact absurd (cpO_out (Or.inl q)) hj
        · rcases Nat.lt_or_ge j (54 * k + 54) with q2 | q2
          · exact ⟨q, q2⟩
          · exact absurd (cpO_out (Or.inr q2)) hj
      refine ⟨_, ?_, ?_, g0.tr (G.wk (S3 := sR) (fun x j q => by unfold sR; omega)) (fun _ _ => orSelf)⟩
      · unfold f_260
        simp (disch := first | assumption | omega) only [yp_178_0, yBs]
        rw [s162l _ 0 2 0 2 rfl rfl, decide_eq_true h]
        rw [show (100000 : Nat) = 100000 from rfl, show f_260_28 100000 178 (yN k) 0 = f_260_28 100000 178 (yN k) (yN 0) from rfl]
        simp (disch := first | assumption | omega) only [yBs, pG_t, pZ_0, pZ_1, pZ_B, yB_t, y10, if_false, yr_178_51, yst_210, y11, e1]
      · refine c0.fK G (fun x j q => by omega) (fun i hi => ⟨?_, fun s e => ?_⟩)
        · rw [yR_ne _ _ (by omega), yW_get]
          by_cases hik : i = k
          · subst hik; rw [if_pos ⟨rfl, rfl⟩, kP_eq rfl]; rfl
          · rw [if_neg (by omega), kP_ne hik]; exact (c0.2.2.1 i hi).1
        · by_cases hik : i = k
          · subst hik
            rw [kP_eq rfl] at e; cases e
            refine c0.1.cp (fun j hj => ?_)
            rw [yR_eq, cpO_in hj, yW_row (by omega)]
          · rw [kP_ne hik] at e
            exact ((c0.2.2.1 i hi).2 s e).g G (fun j q1 q2 r => by omega)
  · refine ⟨0, A, H, K, C, D, E, F, o, zCx.same fun m c => ?_, zCm.same fun m c => ?_⟩
    · unfold f_156
      by_cases h1 : p < 0
      · rw [if_pos h1]; simp only [yBs, pZ_0, pZ_1, pZ_B, if_true, if_false, y10, y01, yB_t, yB_f]
      · rw [if_neg h1, if_neg]
        · simp only [yBs, pZ_0, pZ_1, pZ_B, if_true, if_false, y10, y01, yB_t, yB_f]
        · intro q
          obtain ⟨k, hk, rfl⟩ := yN_of h1
          rw [yN_ltl hk (by omega)] at q
          exact h ⟨yLe_of_lt h1, by rw [yN_lel hk (by omega)]; omega⟩
    · unfold f_260
      simp (disch := first | assumption | omega) only [yp_178_0, yBs]
      rw [s162l _ 0 2 0 2 rfl rfl, decide_eq_false h]
      simp only [yBs, pZ_0, pZ_1, pZ_B, if_true, if_false, y10, y01, yB_t, yB_f]
