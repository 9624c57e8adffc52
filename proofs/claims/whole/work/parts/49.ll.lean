/-! ===== calls: swell, sheet, lean, loose ===== -/
def fit (v : Int32) : Int32 := pMax 0 (pMin 9 v)
theorem fit_ok (v : Int32) : 0 ≤ fit v ∧ fit v ≤ 9 := by
  unfold fit pMax pMin
  simp only [yLe_iff, yLt_iff]
  have h0 : (0 : Int32).toInt = 0 := rfl
  have h9 : (9 : Int32).toInt = 9 := rfl
  by_cases h : v.toInt < (9 : Int32).toInt
  · rw [if_pos h]
    by_cases h2 : (0 : Int32).toInt < v.toInt
    · rw [if_pos h2]; omega
    · rw [if_neg h2]; omega
  · rw [if_neg h, if_pos (by omega)]; omega
theorem s85f (v : Int32) (h : xH) : f_85 v h = some (fit v, h) := rfl
/-- a block swells -/
def swp (th : Nat → Int32) (b : Nat) (v : Int32) : Int32 := if th b = -1 then th b else fit (th b + v)
def swT (th : Nat → Int32) (l : Nat) (v : Int32) : Nat → (Nat → Int32) × Nat
  | 0 => (th, 0)
  | i + 1 => (upd (swT th l v i).1 (3 * l + i) (swp th (3 * l + i) v), (swT th l v i).2 + (decide (swp th (3 * l + i) v ≠ th (3 * l + i))).toNat)
theorem swT_ge {th : Nat → Int32} {l : Nat} {v : Int32} : ∀ i j, 3 * l + i ≤ j → (swT th l v i).1 j = th j := by
  intro i
  induction i with
  | zero => intro j _; rfl
  | succ i ih => intro j hj; simp only [swT]; rw [upd_ne _ _ (by omega)]; exact ih j (by omega)
theorem swT_le {th : Nat → Int32} {l : Nat} {v : Int32} : ∀ i, (swT th l v i).2 ≤ i := by
  intro i
  induction i with
  | zero => exact Nat.le_refl _
  | succ i ih => simp only [swT]; have := Bool.toNat_le (decide (swp th (3 * l + i) v ≠ th (3 * l + i))); omega
theorem swT_ok {th : Nat → Int32} {n l : Nat} {v : Int32} (hk : tOk th n) (hl : l < n) : ∀ i, i ≤ 3 → tOk (swT th l v i).1 n := by
  intro i
  induction i with
  | zero => intro _; exact hk
  | succ i ih =>
    intro hi
    have h := ih (by omega)
    simp only [swT]
    unfold swp
    by_cases h1 : th (3 * l + i) = -1
    · rw [if_pos h1, ← swT_ge (th := th) (l := l) (v := v) i (3 * l + i) (Nat.le_refl _), upd_id]; exact h
    · rw [if_neg h1]; exact tOk_put' h (by omega) (fit_ok _)
theorem swT_z {th : Nat → Int32} {l : Nat} {v : Int32} (hl : l < 16) (hz : ∀ j, 48 ≤ j → th j = 0) : ∀ i, i ≤ 3 → ∀ j, 48 ≤ j → (swT th l v i).1 j = 0 := by
  intro i
  induction i with
  | zero => intro _ j hj; exact hz j hj
  | succ i ih => intro hi j hj; simp only [swT]; rw [upd_ne _ _ (by omega)]; exact ih (by omega) j hj
section SWL
variable {κ : yK} {m : yM} {A : zT} {H : zH} {K : zK} {C : zC} {D D' : List Int64} {E : zE} {F : zF}
theorem s119_38 {th : Nat → Int32} {n l : Nat} {v : Int32} (hk : tOk th n) (hl : l < n) : ∀ (d k fu : Nat) (m : yM), k + d = 3 → d < fu → Tow m 6 (swT th l v k).1 n → ∃ m', f_119_38 fu (yN l) v 6 (yN (swT th l v k).2) (yN (3 * l + k)) (yH κ m) = some (yN (swT th l v 3).2, yH κ m') ∧ Tow m' 6 (swT th l v 3).1 n ∧ yFr (sT 6) m m' := by
  have hn := hk.1
  intro d
  induction d with
  | zero =>
    intro k fu m hd hf ht
    obtain ⟨fu, rfl⟩ : ∃ k, fu = k + 1 := ⟨fu - 1, by omega⟩
    obtain rfl : k = 3 := by omega
    refine ⟨m, ?_, ht, yFr.rf m⟩
    unfold f_119_38
    simp (disch := first | assumption | omega) only [yN_add, yN_addl, yN_ladd, yN_mul, yN_mull, yN_lmul, yN_sub, yN_subl, yN_lsub, yN_lt, yN_ltl, yN_llt, yN_le, yN_lel, yN_lle, yN_eq, yN_eql, yN_leq, yN_eqm, yN_lem, yN_ltm, yN_mlt, yN_mle, yN_addm, yN_madd, yp_div, yp_rem, yp_divN, yp_remN, if_pos, if_neg]
  | succ d ih =>
    intro k fu m hd hf ht
    obtain ⟨fu, rfl⟩ : ∃ k, fu = k + 1 := ⟨fu - 1, by omega⟩
    have hc := swT_le (th := th) (l := l) (v := v) k
    have eb : (swT th l v k).1 (3 * l + k) = th (3 * l + k) := swT_ge k _ (Nat.le_refl _)
    have hk' := swT_ok (v := v) hk hl k (by omega)
    by_cases h1 : th (3 * l + k) = -1
    · have e : swT th l v (k + 1) = swT th l v k := by
        have q : swp th (3 * l + k) v = th (3 * l + k) := by unfold swp; rw [if_pos h1]
        simp only [swT]
        rw [q]
        refine Prod.ext ?_ (by simp)
        show upd (swT th l v k).1 (3 * l + k) (th (3 * l + k)) = (swT th l v k).1
        rw [← eb, upd_id]
      obtain ⟨m', e', T', F'⟩ := ih (k + 1) fu m (by omega) (by omega) (by rw [e]; exact ht)
      refine ⟨m', ?_, T', F'⟩
      have hh : tHas (swT th l v k).1 (3 * l + k) = false := by unfold tHas; rw [eb, h1]; simp
      unfold f_119_38
      simp (disch := first | assumption | omega) only [yN_add, yN_addl, yN_ladd, yN_mul, yN_mull, yN_lmul, yN_sub, yN_subl, yN_lsub, yN_lt, yN_ltl, yN_llt, yN_le, yN_lel, yN_lle, yN_eq, yN_eql, yN_leq, yN_eqm, yN_lem, yN_ltm, yN_mlt, yN_mle, yN_addm, yN_madd, yp_div, yp_rem, yp_divN, yp_remN, if_pos, if_neg, yt_is ytw_6, s90 ytw_6 ht.1, hh, yB_f, if_true, yBs, pG_t, pZ_0, pZ_1, pZ_B]
      rw [e] at e'
      exact e'
    · have hh : tHas (swT th l v k).1 (3 * l + k) = true := by unfold tHas; rw [eb]; simp [h1]; omega
      have q : swp th (3 * l + k) v = fit (th (3 * l + k) + v) := by unfold swp; rw [if_neg h1]
      obtain ⟨m1, e1, T1, F1⟩ := s92 (κ := κ) (b := 3 * l + k) (v := fit (th (3 * l + k) + v)) ytw_6 ht hn (by omega) (by omega)
      rw [show max n ((3 * l + k) / 3 + 1) = n by omega, ← q] at T1
      obtain ⟨m', e', T', F'⟩ := ih (k + 1) fu m1 (by omega) (by omega) T1
      refine ⟨m', ?_, T', F1.tr F' (fun _ _ => orSelf)⟩
      have w : (if fit (th (3 * l + k) + v) = th (3 * l + k) then some 0 else some 1 : Option Int32) = some (yN (decide (swp th (3 * l + k) v ≠ th (3 * l + k))).toNat) := by
        rw [q]
        by_cases h2 : fit (th (3 * l + k) + v) = th (3 * l + k)
        · rw [if_pos h2, decide_eq_false (fun r => r h2)]; rfl
        · rw [if_neg h2, decide_eq_true h2]; rfl
      have hd1 := Bool.toNat_le (decide (swp th (3 * l + k) v ≠ th (3 * l + k)))
      unfold f_119_38
      have eb' : m.1 (6 + 1) (3 * l + k) = th (3 * l + k) := by rw [ht.1, eb]
      simp (disch := first | assumption | omega) only [yN_add, yN_addl, yN_ladd, yN_mul, yN_mull, yN_lmul, yN_sub, yN_subl, yN_lsub, yN_lt, yN_ltl, yN_llt, yN_le, yN_lel, yN_lle, yN_eq, yN_eql, yN_leq, yN_eqm, yN_lem, yN_ltm, yN_mlt, yN_mle, yN_addm, yN_madd, yp_div, yp_rem, yp_divN, yp_remN, if_pos, if_neg, yt_is ytw_6, s90 ytw_6 ht.1, hh, yB_t, y10, if_false, yBs, pG_t, pZ_0, pZ_1, pZ_B, yt_0 ytw_6, yt_a1 ytw_6, eb', s85f, w, e1]
      exact e'
theorem s195_36 {th : Nat → Int32} {n l : Nat} {v : Int32} (hk : tOk th n) (hl : l < n) : ∀ (d k fu : Nat) (m : yM), k + d = 3 → d < fu → Tor m 180 (swT th l v k).1 n → ∃ m', f_195_36 fu 178 (yN l) v (yN (swT th l v k).2) (yN (3 * l + k)) (yH κ m) = some (yN (swT th l v 3).2, yH κ m') ∧ Tor m' 180 (swT th l v 3).1 n ∧ yFr sN48 m m' := by
  have hn := hk.1
  intro d
  induction d with
  | zero =>
    intro k fu m hd hf ht
    obtain ⟨fu, rfl⟩ : ∃ k, fu = k + 1 := ⟨fu - 1, by omega⟩
    obtain rfl : k = 3 := by omega
    refine ⟨m, ?_, ht, yFr.rf m⟩
    unfold f_195_36
    simp (disch := first | assumption | omega) only [yN_add, yN_addl, yN_ladd, yN_mul, yN_mull, yN_lmul, yN_sub, yN_subl, yN_lsub, yN_lt, yN_ltl, yN_llt, yN_le, yN_lel, yN_lle, yN_eq, yN_eql, yN_leq, yN_eqm, yN_lem, yN_ltm, yN_mlt, yN_mle, yN_addm, yN_madd, yp_div, yp_rem, yp_divN, yp_remN, if_pos, if_neg]
  | succ d ih =>
    intro k fu m hd hf ht
    obtain ⟨fu, rfl⟩ : ∃ k, fu = k + 1 := ⟨fu - 1, by omega⟩
    have hc := swT_le (th := th) (l := l) (v := v) k
    have eb : (swT th l v k).1 (3 * l + k) = th (3 * l + k) := swT_ge k _ (Nat.le_refl _)
    have r1 : m.1 180 (3 * l + k) = th (3 * l + k) := by rw [ht.1 _ (by omega), eb]
    have T1 : Tor (yW m 180 (3 * l + k) (swp th (3 * l + k) v)) 180 (swT th l v (k + 1)).1 n := ht.upd (by omega)
    obtain ⟨m', e', T', F'⟩ := ih (k + 1) fu _ (by omega) (by omega) T1
    refine ⟨m', ?_, T', (yFr.w (S := sN48) m ⟨rfl, by omega⟩).tr F' (fun _ _ => orSelf)⟩
    have w0 : (if 0 ≤ th (3 * l + k) then some (pMax 0 (pMin 9 (th (3 * l + k) + v))) else some (th (3 * l + k)) : Option Int32) = some (swp th (3 * l + k) v) := by
      have hge := tRg_ge hk.2.1 (show 3 * l + k < 48 by omega)
      unfold swp
      by_cases h1 : th (3 * l + k) = -1
      · rw [if_neg (by rw [hge]; exact fun q => q h1), if_pos h1]
      · rw [if_pos (by rw [hge]; exact h1), if_neg h1]; rfl
    have w : (if swp th (3 * l + k) v = th (3 * l + k) then some 0 else some 1 : Option Int32) = some (yB (decide (swp th (3 * l + k) v ≠ th (3 * l + k)))) := by
      by_cases h2 : swp th (3 * l + k) v = th (3 * l + k)
      · rw [if_pos h2]; simp [h2, yB]
      · rw [if_neg h2]; simp [h2, yB]
    have w2 : ∀ b : Bool, yB b = yN b.toNat := fun b => by cases b <;> rfl
    unfold f_195_36
    simp (disch := first | assumption | omega) only [yN_add, yN_addl, yN_ladd, yN_mul, yN_mull, yN_lmul, yN_sub, yN_subl, yN_lsub, yN_lt, yN_ltl, yN_llt, yN_le, yN_lel, yN_lle, yN_eq, yN_eql, yN_leq, yN_eqm, yN_lem, yN_ltm, yN_mlt, yN_mle, yN_addm, yN_madd, yp_div, yp_rem, yp_divN, yp_remN, if_pos, if_neg, yr_178_3, yr_a yAr_180, yr_s yAr_180, yBs, pG_t, pZ_0, pZ_1, pZ_B, r1, w0, yW_self, upd_eq, w, s163]
    rw [w2, yN_add]
    exact e'
end SWL
theorem s190 {κ : yK} {m : yM} {n : Nat} {p : Int32} {th : Nat → Int32} (ht : Tor m 180 th n) (hn : n ≤ 16) : f_190 178 p (yH κ m) = some (yB (decide (0 ≤ p ∧ p < yN n)), yH κ m) := by
  unfold f_190
  simp (disch := first | assumption | omega) only [yr_178_3, yr_al yAr_180, yBs, ht.2]
  rw [s162l _ 0 (yN n - 1) 0 _ rfl rfl]
  simp only [yBs, pZ_0, pZ_1, pZ_B, if_true, if_false, y10, y01, yB_t, yB_f]
  have e : (0 ≤ p ∧ p ≤ yN n - 1) = (0 ≤ p ∧ p < yN n) := by
    refine propext ⟨fun q => ⟨q.1, ?_⟩, fun q => ⟨q.1, ?_⟩⟩
    · obtain ⟨k, hk, rfl⟩ := yN_of' q.1
      rcases Nat.eq_zero_or_pos n with h0 | h0
      · subst h0
        have := q.2
        rw [show yN 0 - 1 = -1 from rfl, yN_lem hk] at this
        exact this.elim
      · have := q.2
        rw [yN_subl (show 1 ≤ n from h0), yN_le hk (by omega)] at this
        rw [yN_lt hk (by omega)]; omega
    · obtain ⟨k, hk, rfl⟩ := yN_of' q.1
      have h := q.2
      rw [yN_lt hk (by omega)] at h
      rw [yN_subl (show 1 ≤ n by omega), yN_le hk (by omega)]; omega
  simp only [e]
theorem s91I {κ : yK} {m : yM} {n : Nat} {p : Int32} {th : Nat → Int32} (ht : Tow m 6 th n) (hn : n ≤ 16) : f_91 6 p (yH κ m) = some (yB (decide (0 ≤ p ∧ p < yN n)), yH κ m) := by
  by_cases h : p < 0
  · rw [s91m h, decide_eq_false]
    · rfl
    · rintro ⟨q, -⟩; rw [yLe_iff] at q; rw [yLt_iff] at h; omega
  · obtain ⟨k, hk, rfl⟩ := yN_of h
    rw [s91 ytw_6 ht hn hk]
    have e := yN_lt hk (show n < 2147483648 by omega)
    congr 3
    exact decide_eq_decide.mpr ⟨fun q => ⟨yLe_of_lt h, by rw [e]; exact q⟩, fun q => by have := q.2; rw [e] at this; exact this⟩
theorem z_swell (p q : Int32) : zCall (f_119 0 p q) (f_195 178 p q) := by
  intro κ A H K C D E F o
  have hn := o.1.1.1.1
  by_cases h : (0 ≤ p ∧ p < yN (zn A)) ∧ (-9 ≤ q ∧ q ≤ 9)
  · obtain ⟨h1, h2⟩ := h
    obtain ⟨l, hl, rfl⟩ := yN_of' h1.1
    have hln : l < zn A := by have := h1.2; rw [yN_lt hl (by omega)] at this; exact this
    have q1 : ¬ (q < -9) := fun r => by have := h2.1; rw [yLe_iff] at this; rw [yLt_iff] at r; omega
    refine ⟨yN (swT (zth A) l q 3).2, ((swT (zth A) l q 3).1, A.2), H, K, C, D, E, F, ⟨⟨⟨swT_ok o.1.1.1 hln 3 (by omega), swT_z (by omega) o.1.1.2.1 3 (by omega), o.1.1.2.2⟩, o.1.2⟩, o.2⟩, fun m c => ?_, fun m c => ?_⟩
    · obtain ⟨m1, e1, T1, F1⟩ := s119_38 (κ := κ) (v := q) o.1.1.1 hln 3 0 100000 m (by omega) (by omega) c.1.1
      refine ⟨m1, ?_, c.tow o.2.1.1 (F1.g (S3 := sT6) (fun x j r => r)) (fun x j r => Or.inr r) T1, F1.g (fun x j r => by unfold sT at r; unfold sC; omega)⟩
      unfold f_119
      rw [show f_119_38 100000 (yN l) q = f_119_38 100000 (yN l) q from rfl]
      simp (disch := first | assumption | omega) only [yr_0_2, ys5_0, yt_is ytw_6, s91I c.1.1 hn, decide_eq_true h1, yB_t, y10, if_false, yBs, pG_t, pZ_0, pZ_1, pZ_B, if_neg q1, if_pos h2.2]
      rw [show (3 * yN l : Int32) = yN (3 * l + 0) from yN_lmul, show (0 : Int32) = yN (swT (zth A) l q 0).2 from rfl, e1, yBs]
    · obtain ⟨c0, g0⟩ := c.th 0
      have T := c0.1.tor
      obtain ⟨m1, e1, T1, F1⟩ := s195_36 (κ := κ) (v := q) o.1.1.1 hln 3 0 100000 (yW m 178 0 0) (by omega) (by omega) T
      refine ⟨m1, ?_, c0.tor (F1.g (fun _ _ r => r)) (fun x j r => Or.inr r) T1, g0.tr (F1.g (S3 := sR) (fun x j r => by unfold sN48 at r; unfold sR; omega)) (fun _ _ => orSelf)⟩
      unfold f_195
      simp (disch := first | assumption | omega) only [yp_178_0, yis_178, s190 T hn, decide_eq_true h1, yB_t, y10, if_false, yBs, pG_t, pZ_0, pZ_1, pZ_B]
      rw [s162l _ (-9) 9 (-9) 9 rfl rfl, decide_eq_true h2]
      have e1' : f_195_36 100000 178 (yN l) q 0 (3 * yN l) (yH κ (yW m 178 0 0)) = some (yN (swT (zth A) l q 3).2, yH κ m1) := by
        rw [show (3 * yN l : Int32) = yN (3 * l + 0) from yN_lmul]; exact e1
      simp (disch := first | assumption | omega) only [yB_t, y10, if_false, yBs, pG_t, pZ_0, pZ_1, pZ_B, e1']
  · refine ⟨-1, A, H, K, C, D, E, F, o, zCx.same fun m c => ?_, zCm.same fun m c => ?_⟩
    · unfold f_119
      simp (disch := first | assumption | omega) only [yr_0_2, ys5_0, yt_is ytw_6, s91I c.1.1 hn, yBs, pG_t, pZ_0, pZ_1, pZ_B]
      by_cases h1 : 0 ≤ p ∧ p < yN (zn A)
      · rw [decide_eq_true h1]
        simp only [yBs, pZ_0, pZ_1, pZ_B, if_true, if_false, y10, y01, yB_t, yB_f]
        by_cases h2 : q < -9
        · rw [if_pos h2]
        · rw [if_neg h2, if_neg (fun r => h ⟨h1, yLe_of_lt h2, r⟩)]
      · rw [decide_eq_false h1]; simp only [yBs, pZ_0, pZ_1, pZ_B, if_true, if_false, y10, y01, yB_t, yB_f]
    · obtain ⟨c0, g0⟩ := c.th 0
      have T := c0.1.tor
      unfold f_195
      simp (disch := first | assumption | omega) only [yp_178_0, yis_178, s190 T hn, yBs, pG_t, pZ_0, pZ_1, pZ_B]
      by_cases h1 : 0 ≤ p ∧ p < yN (zn A)
      · rw [decide_eq_true h1]
        simp only [yBs, pZ_0, pZ_1, pZ_B, if_true, if_false, y10, y01, yB_t, yB_f]
        rw [s162l _ (-9) 9 (-9) 9 rfl rfl, decide_eq_false (fun r => h ⟨h1, r⟩)]
        simp only [yBs, pZ_0, pZ_1, pZ_B, if_true, if_false, y10, y01, yB_t, yB_f]
      · rw [decide_eq_false h1]; simp only [yBs, pZ_0, pZ_1, pZ_B, if_true, if_false, y10, y01, yB_t, yB_f]
