/-! ===== calls: the row; those that are short ===== -/
theorem yM_ext {m m' : yM} (h1 : ∀ x j, m.1 x j = m'.1 x j) (h2 : ∀ x j, m.2 x j = m'.2 x j) : m = m' := Prod.ext (funext fun x => funext fun j => h1 x j) (funext fun x => funext fun j => h2 x j)
theorem yRl_get (m : yM) (a : Nat) (f : Nat → Int64) (x j : Nat) : (yRl m a f).2 x j = if x = a then f j else m.2 x j := by
  unfold yRl; simp only; split <;> rfl
/-- the row of the class; of the reference -/
def rAs (m : yM) (l : List Int64) : yM := yRl (yW m 3 1 (yN l.length)) 4 (fun j => if j < l.length then l.getD j 0 else m.2 4 j)
def rBs (m : yM) (l : List Int64) : yM := yRl (yW m 178 1 (yN l.length)) 179 (fun j => if j < l.length then l.getD j 0 else m.2 179 j)
theorem rAs_1 (m : yM) (l : List Int64) (x j : Nat) : (rAs m l).1 x j = if x = 3 ∧ j = 1 then yN l.length else m.1 x j := by
  unfold rAs; rw [yRl_1, yW_get]
theorem rBs_1 (m : yM) (l : List Int64) (x j : Nat) : (rBs m l).1 x j = if x = 178 ∧ j = 1 then yN l.length else m.1 x j := by
  unfold rBs; rw [yRl_1, yW_get]
theorem rAs_2 (m : yM) (l : List Int64) (x j : Nat) : (rAs m l).2 x j = if x = 4 ∧ j < l.length then l.getD j 0 else m.2 x j := by
  unfold rAs; rw [yRl_get, yW_2]
  by_cases h : x = 4
  · subst h; simp
  · simp [h]
theorem rBs_2 (m : yM) (l : List Int64) (x j : Nat) : (rBs m l).2 x j = if x = 179 ∧ j < l.length then l.getD j 0 else m.2 x j := by
  unfold rBs; rw [yRl_get, yW_2]
  by_cases h : x = 179
  · subst h; simp
  · simp [h]
theorem rAs_row {m : yM} {l : List Int64} {x : Nat} (h : x ≠ 3) : (rAs m l).1 x = m.1 x := by funext j; rw [rAs_1, if_neg (by omega)]
theorem rBs_row {m : yM} {l : List Int64} {x : Nat} (h : x ≠ 178) : (rBs m l).1 x = m.1 x := by funext j; rw [rBs_1, if_neg (by omega)]
theorem rBs_fl {m : yM} {l : List Int64} {j : Nat} (h : j ≠ 1) : (rBs m l).1 178 j = m.1 178 j := by rw [rBs_1, if_neg (by omega)]
theorem rAs_c (m : yM) (l : List Int64) : cRo (rAs m l) l := ⟨by rw [rAs_1, if_pos ⟨rfl, rfl⟩], fun j hj => by rw [rAs_2, if_pos ⟨rfl, hj⟩]⟩
theorem rBs_r (m : yM) (l : List Int64) : rRo (rBs m l) l := ⟨by rw [rBs_1, if_pos ⟨rfl, rfl⟩], fun j hj => by rw [rBs_2, if_pos ⟨rfl, hj⟩]⟩
def sA3 (x _j : Nat) : Prop := x = 3 ∨ x = 4
def sB3 (x j : Nat) : Prop := (x = 178 ∧ j = 1) ∨ x = 179
theorem rAs_g (m : yM) (l : List Int64) : yG sA3 m (rAs m l) := fun x j h => by
  unfold sA3 at h
  exact ⟨by rw [rAs_1, if_neg (by omega)], by rw [rAs_2, if_neg (by omega)]⟩
theorem rBs_g (m : yM) (l : List Int64) : yG sB3 m (rBs m l) := fun x j h => by
  unfold sB3 at h
  exact ⟨by rw [rBs_1, if_neg (by omega)], by rw [rBs_2, if_neg (by omega)]⟩
theorem getD_app {l : List Int64} {v : Int64} {j : Nat} (h : j < l.length + 1) : (l ++ [v]).getD j 0 = if j = l.length then v else l.getD j 0 := by
  by_cases q : j = l.length
  · subst q; simp
  · rw [if_neg q]; simp [List.getD, List.getElem?_append_left (show j < l.length by omega)]
section RO
variable {κ : yK} {m : yM}
theorem s50 : f_50 3 (yH κ m) = some (yH κ (rAs m [])) := by
  unfold f_50
  simp (disch := first | assumption | omega) only [yp_3_1, yBs]
  congr 2
  refine yM_ext (fun x j => ?_) (fun x j => ?_)
  · rw [rAs_1, yW_get]; rfl
  · rw [rAs_2, if_neg (by simp)]; rfl
theorem s51 {l : List Int64} {v : Int64} (h : l.length < 16) : f_51 3 v (yH κ (rAs m l)) = some (yH κ (rAs m (l ++ [v]))) := by
  unfold f_51
  have e : (rAs m l).1 3 1 = yN l.length := by rw [rAs_1, if_pos ⟨rfl, rfl⟩]
  simp (disch := first | assumption | omega) only [yi_3_1, yBs, e, yN_add, yN_addl, yN_ladd, yN_mul, yN_mull, yN_lmul, yN_sub, yN_subl, yN_lsub, yN_lt, yN_ltl, yN_llt, yN_le, yN_lel, yN_lle, yN_eq, yN_eql, yN_leq, yN_eqm, yN_lem, yN_ltm, yN_mlt, yN_mle, yN_addm, yN_madd, yp_div, yp_rem, yp_divN, yp_remN]
  rw [if_neg (by omega)]
  simp (disch := first | assumption | omega) only [yr_3_0, yp_3_1, yBs, yst_4]
  congr 2
  refine yM_ext (fun x j => ?_) (fun x j => ?_)
  · rw [yWl_1, yW_get, rAs_1, rAs_1, List.length_append]
    split <;> rfl
  · rw [yWl_get, yW_2, rAs_2, rAs_2, List.length_append]
    by_cases hx : x = 4
    · subst hx
      by_cases hj : j = l.length
      · rw [if_pos ⟨rfl, hj⟩, if_pos ⟨rfl, by simp; omega⟩, getD_app (by omega), if_pos hj]
      · rw [if_neg (by omega)]
        by_cases hj2 : j < l.length
        · rw [if_pos ⟨rfl, hj2⟩, if_pos ⟨rfl, by simp; omega⟩, getD_app (by omega), if_neg hj]
        · rw [if_neg (by omega), if_neg (by simp; omega)]
    · rw [if_neg (by omega), if_neg (by omega), if_neg (by omega)]
theorem rBs_0 : yW m 178 1 0 = rBs m [] := by
  refine yM_ext (fun x j => ?_) (fun x j => ?_)
  · rw [rBs_1, yW_get]; rfl
  · rw [rBs_2, if_neg (by simp)]; rfl
theorem s165 {l : List Int64} {v : Int64} (h : l.length < 24) : f_165 178 v (yH κ (rBs m l)) = some (yH κ (rBs m (l ++ [v]))) := by
  unfold f_165
  have e : (rBs m l).1 178 1 = yN l.length := by rw [rBs_1, if_pos ⟨rfl, rfl⟩]
  have e2 : (yWl (rBs m l) 179 l.length v).1 178 1 = yN l.length := e
  simp (disch := first | assumption | omega) only [yr_178_2, yi_178_1, yBs, e, yst_179, yp_178_1, e2, yN_add, yN_addl, yN_ladd, yN_mul, yN_mull, yN_lmul, yN_sub, yN_subl, yN_lsub, yN_lt, yN_ltl, yN_llt, yN_le, yN_lel, yN_lle, yN_eq, yN_eql, yN_leq, yN_eqm, yN_lem, yN_ltm, yN_mlt, yN_mle, yN_addm, yN_madd, yp_div, yp_rem, yp_divN, yp_remN]
  congr 2
  refine yM_ext (fun x j => ?_) (fun x j => ?_)
  · rw [yW_get, yWl_1, rBs_1, rBs_1, List.length_append]
    split <;> rfl
  · rw [yW_2, yWl_get, rBs_2, rBs_2, List.length_append]
    by_cases hx : x = 179
    · subst hx
      by_cases hj : j = l.length
      · rw [if_pos ⟨rfl, hj⟩, if_pos ⟨rfl, by simp; omega⟩, getD_app (by omega), if_pos hj]
      · rw [if_neg (by omega)]
        by_cases hj2 : j < l.length
        · rw [if_pos ⟨rfl, hj2⟩, if_pos ⟨rfl, by simp; omega⟩, getD_app (by omega), if_neg hj]
        · rw [if_neg (by omega), if_neg (by simp; omega)]
    · rw [if_neg (by omega), if_neg (by omega), if_neg (by omega)]
theorem s165_0 {v : Int64} : f_165 178 v (yH κ (yW m 178 1 0)) = some (yH κ (rBs m [v])) := by
  rw [rBs_0, s165 (by simp)]; rfl
theorem s51a {v : Int64} : f_51 3 v (yH κ (rAs m [])) = some (yH κ (rAs m [v])) := s51 (by simp)
theorem s51b {a v : Int64} : f_51 3 v (yH κ (rAs m [a])) = some (yH κ (rAs m [a, v])) := s51 (by simp)
theorem s51c {a b v : Int64} : f_51 3 v (yH κ (rAs m [a, b])) = some (yH κ (rAs m [a, b, v])) := s51 (by simp)
theorem s165a {v : Int64} : f_165 178 v (yH κ (rBs m [])) = some (yH κ (rBs m [v])) := s165 (by simp)
theorem s165b {a v : Int64} : f_165 178 v (yH κ (rBs m [a])) = some (yH κ (rBs m [a, v])) := s165 (by simp)
theorem s165c {a b v : Int64} : f_165 178 v (yH κ (rBs m [a, b])) = some (yH κ (rBs m [a, b, v])) := s165 (by simp)
end RO
/-- a call: class and reference answer alike, and go on alike -/
def zCx (fx : xH → Option (Int32 × xH)) (κ : yK) (v : Int32) (A : zT) (H : zH) (K : zK) (C : zC) (D : List Int64) (E : zE) (F : zF) (A' : zT) (H' : zH) (K' : zK) (C' : zC) (D' : List Int64) (E' : zE) (F' : zF) : Prop := ∀ m, Cl m A H K C D E F → ∃ m', fx (yH κ m) = some (v, yH κ m') ∧ Cl m' A' H' K' C' D' E' F' ∧ yG sC m m'
def zCm (fm : xH → Option (Int32 × xH)) (κ : yK) (v : Int32) (A : zT) (H : zH) (K : zK) (C : zC) (D : List Int64) (E : zE) (F : zF) (A' : zT) (H' : zH) (K' : zK) (C' : zC) (D' : List Int64) (E' : zE) (F' : zF) : Prop := ∀ m, Rf m A H K C D E F → ∃ m', fm (yH κ m) = some (v, yH κ m') ∧ Rf m' A' H' K' C' D' E' F' ∧ yG sR m m'
def zCall (fx fm : xH → Option (Int32 × xH)) : Prop := ∀ κ A H K C D E F, Ok A H K C D E F → ∃ v A' H' K' C' D' E' F', Ok A' H' K' C' D' E' F' ∧ zCx fx κ v A H K C D E F A' H' K' C' D' E' F' ∧ zCm fm κ v A H K C D E F A' H' K' C' D' E' F'
def sTh (x j : Nat) : Prop := x = 178 ∧ j = 0
theorem sTh_R {x j : Nat} (h : sTh x j) : sR x j := by unfold sTh at h; unfold sR; omega
theorem sTh_Rs {x j : Nat} (h : sTh x j) : sRs x j := by unfold sTh at h; unfold sRs; omega
theorem sA3_C {x j : Nat} (h : sA3 x j) : sC x j := by unfold sA3 at h; unfold sC; omega
theorem sB3_R {x j : Nat} (h : sB3 x j) : sR x j := by unfold sB3 at h; unfold sR; omega
theorem sW_C {x j : Nat} (h : sW x j) : sC x j := by unfold sW at h; unfold sC; omega
theorem sW_Cs {x j : Nat} (h : sW x j) : sCs x j := by unfold sW at h; unfold sCs; omega
theorem sM_R {x j : Nat} (h : sM x j) : sR x j := by unfold sM at h; unfold sR; omega
theorem sM_Rs {x j : Nat} (h : sM x j) : sRs x j := by unfold sM at h; unfold sRs; omega
theorem orSelf {p : Prop} (h : p ∨ p) : p := h.elim id id
section CA
variable {κ : yK} {m : yM} {A : zT} {H : zH} {K : zK} {C : zC} {D D' : List Int64} {E : zE} {F : zF}
theorem Rf.th (c : Rf m A H K C D E F) (x : Int32) : Rf (yW m 178 0 x) A H K C D E F ∧ yG sR m (yW m 178 0 x) :=
  ⟨c.fr (yG.w (S := sTh) m ⟨rfl, rfl⟩) (fun _ _ => sTh_Rs), yG.w m (sTh_R ⟨rfl, rfl⟩)⟩
theorem Cl.row (c : Cl m A H K C D E F) (o : H.1 ≤ 15) (l : List Int64) : Cl (rAs m l) A H K C l E F :=
  c.fD o (rAs_g m l) (fun x j q => by unfold sA3 at q; omega) (rAs_c m l)
theorem Rf.row (c : Rf m A H K C D E F) (l : List Int64) : Rf (rBs m l) A H K C l E F :=
  c.fD (rBs_g m l) (fun x j q => by unfold sB3 at q; omega) (rBs_r m l)
theorem ya106_0 : pAi (yH κ m) 106 0 = some (m.1 106 0) := ya_106 (i := 0) (by omega)
theorem ya106_1 : pAi (yH κ m) 106 1 = some (m.1 106 1) := ya_106 (i := 1) (by omega)
/-- f_162 at literals -/
theorem s162l (x : Int32) (y z : Int32) (a b : Int64) (ha : a = y.toInt64) (hb : b = z.toInt64) (h : xH) : f_162 x.toInt64 a b h = some (yB (decide (y ≤ x ∧ x ≤ z)), h) := by rw [ha, hb, s162]
/-- the same state, the same answer, nothing written -/
theorem zCx.same {fx : xH → Option (Int32 × xH)} {v : Int32} (h : ∀ m, Cl m A H K C D E F → fx (yH κ m) = some (v, yH κ m)) : zCx fx κ v A H K C D E F A H K C D E F :=
  fun m c => ⟨m, h m c, c, yG.rf m⟩
theorem zCm.same {fm : xH → Option (Int32 × xH)} {v : Int32} (h : ∀ m, Rf m A H K C D E F → fm (yH κ m) = some (v, yH κ (yW m 178 0 0))) : zCm fm κ v A H K C D E F A H K C D E F :=
  fun m c => ⟨_, h m c, (c.th 0).1, (c.th 0).2⟩
end CA
/-! end() -/
theorem z_end (p : Int32) : zCall (f_106 0 p) (f_172 178 p) := by
  intro κ A H K C D E F o
  by_cases h : 0 ≤ p ∧ p ≤ yN C.1
  · obtain ⟨n, hn, rfl⟩ := yN_of' h.1
    have hC := o.2.2.2.1.1
    have h2 : n ≤ C.1 := by have := h.2; rw [yN_le hn (by omega)] at this; exact this
    refine ⟨1, A, H, K, (n, C.2), D, E, F, ⟨o.1, o.2.1, o.2.2.1, ⟨by omega, fun j hj => o.2.2.2.1.2 j (Nat.lt_of_lt_of_le hj h2)⟩, o.2.2.2.2⟩, fun m c => ?_, fun m c => ?_⟩
    · refine ⟨yW m 1 1 (yN n), ?_, ?_, yG.w m (by unfold sC; omega)⟩
      · unfold f_106 f_74
        simp (disch := first | assumption | omega) only [yr_0_0, yis_1, yBs, pG_t, yi_1_1, c.2.2.2.1.1, yN_add, yN_addl, yN_ladd, yN_mul, yN_mull, yN_lmul, yN_sub, yN_subl, yN_lsub, yN_lt, yN_ltl, yN_llt, yN_le, yN_lel, yN_lle, yN_eq, yN_eql, yN_leq, yN_eqm, yN_lem, yN_ltm, yN_mlt, yN_mle, yN_addm, yN_madd, yp_div, yp_rem, yp_divN, yp_remN, yp_1_1, pZ_1]
        rw [if_neg (by omega), if_pos h2]
        simp only [yBs, pZ_0, pZ_1, pZ_B, if_true, if_false, y10, y01, yB_t, yB_f]
      · refine c.fC o.2.1.1 (S := fun x j => x = 1 ∧ j = 1) (yG.w m ⟨rfl, rfl⟩) (fun x j q => Or.inr (Or.inl q.1)) ⟨by rw [yW_self, upd_eq], fun j hj => ?_⟩
        rw [yW_row (by omega)]; exact c.2.2.2.1.2 j (Nat.lt_of_lt_of_le hj h2)
    · obtain ⟨c1, g1⟩ := c.th 0
      refine ⟨yW (yW m 178 0 0) 178 10 (yN n), ?_, ?_, g1.tr (yG.w (S := sR) _ (by unfold sR; omega)) (fun _ _ => orSelf)⟩
      · unfold f_172
        simp (disch := first | assumption | omega) only [yp_178_0, yi_178_10, yBs, c1.2.2.2.1.1]
        rw [s162l _ 0 (yN C.1) 0 _ rfl rfl, decide_eq_true h, yBs, yB_t]
        simp (disch := first | assumption | omega) only [y10, if_false, yp_178_10, yBs, pZ_1]
      · refine c1.fC (S := fun x j => x = 178 ∧ j = 10) (yG.w _ ⟨rfl, rfl⟩) (fun x j q => Or.inr (Or.inl q)) ⟨by rw [yW_self, upd_eq], fun j hj => ?_⟩
        rw [yW_row (by omega)]; exact c1.2.2.2.1.2 j (Nat.lt_of_lt_of_le hj h2)
  · refine ⟨0, A, H, K, C, D, E, F, o, zCx.same fun m c => ?_, zCm.same fun m c => ?_⟩
    · unfold f_106 f_74
      simp (disch := first | assumption | omega) only [yr_0_0, yis_1, yBs, pG_t, yi_1_1, c.2.2.2.1.1]
      by_cases h1 : p < 0
      · rw [if_pos h1]; simp only [yBs, pZ_0, pZ_1, pZ_B, if_true, if_false, y10, y01, yB_t, yB_f]
      · rw [if_neg h1, if_neg (fun q => h ⟨yLe_of_lt h1, q⟩)]; simp only [yBs, pZ_0, pZ_1, pZ_B, if_true, if_false, y10, y01, yB_t, yB_f]
    · obtain ⟨c1, g1⟩ := c.th 0
      unfold f_172
      simp (disch := first | assumption | omega) only [yp_178_0, yi_178_10, yBs, c1.2.2.2.1.1]
      rw [s162l _ 0 (yN C.1) 0 _ rfl rfl, decide_eq_false h, yBs, yB_f]
      simp only [yBs, pZ_0, pZ_1, pZ_B, if_true, if_false, y10, y01, yB_t, yB_f]
/-! table() -/
theorem z_table (p q : Int32) : zCall (f_118 0 p q) (f_194 178 p q) := by
  intro κ A H K C D E F o
  by_cases h : (0 ≤ p ∧ p ≤ 1) ∧ (-9 ≤ q ∧ q ≤ 9)
  · obtain ⟨n, hn, rfl⟩ := yN_of' h.1.1
    have hn1 : n ≤ 1 := by have := h.1.2; rw [yN_lel hn (by omega)] at this; exact this
    have q1 : ¬ (q < -9) := fun r => by have := h.2.1; rw [yLe_iff] at this; rw [yLt_iff] at r; omega
    refine ⟨1, A, H, K, C, D, (if n = 0 then q else E.1, if n = 0 then E.2.1 else q, E.2.2), F, ⟨o.1, o.2.1, o.2.2.1, o.2.2.2.1, o.2.2.2.2.1, o.2.2.2.2.2.1, o.2.2.2.2.2.2⟩, fun m c => ?_, fun m c => ?_⟩
    · refine ⟨yW m 106 n q, ?_, ?_, yG.w m (by unfold sC; omega)⟩
      · unfold f_118
        simp (disch := first | assumption | omega) only [yN_add, yN_addl, yN_ladd, yN_mul, yN_mull, yN_lmul, yN_sub, yN_subl, yN_lsub, yN_lt, yN_ltl, yN_llt, yN_le, yN_lel, yN_lle, yN_eq, yN_eql, yN_leq, yN_eqm, yN_lem, yN_ltm, yN_mlt, yN_mle, yN_addm, yN_madd, yp_div, yp_rem, yp_divN, yp_remN, if_pos, if_neg, yr_0_6, yr_105_0, yst_106, yBs, h.2.2, pZ_1, if_true]
      · obtain ⟨⟨e1, e2⟩, e3, e4, e5, e6, e7⟩ := c.2.2.2.2.2.1
        have g : yG (fun x _ => x = 106) m (yW m 106 n q) := yG.w m rfl
        refine c.fE o.2.1.1 g (fun x j r => Or.inr (Or.inr (Or.inl r))) ⟨⟨?_, ?_⟩, ?_, ?_, ?_, ?_, ?_⟩
        · rw [yW_get]
          by_cases h0 : n = 0
          · subst h0; rfl
          · rw [if_neg (by omega), if_neg h0, e1]
        · rw [yW_get]
          by_cases h0 : n = 0
          · subst h0; rw [if_neg (by omega), e2]; rfl
          · rw [if_pos (by omega)]; exact (if_neg h0).symm
        · rw [yW_row (by omega), yW_row (by omega)]; exact e3
        · exact ⟨by rw [yW_row (by omega)]; exact e4.1, fun j hj => by rw [yW_row (by omega)]; exact e4.2 j hj⟩
        · exact e5.g g (fun x j p1 p2 r => by have : x = 106 := r; omega)
        · intro j hj; rw [yW_row (by omega)]; exact e6 j hj
        · intro j hj; rw [yW_row (by omega)]; exact e7 j hj
    · obtain ⟨c1, g1⟩ := c.th 0
      obtain ⟨⟨e1, e2⟩, e3, e4⟩ := c1.2.2.2.2.2.1
      refine ⟨yW (yW (yW m 178 0 0) 178 7 (if n = 0 then q else E.1)) 178 8 (if n = 0 then E.2.1 else q), ?_, ?_, (g1.tr (yG.w (S := sR) _ (by unfold sR; omega)) (fun _ _ => orSelf)).tr (yG.w (S := sR) _ (by unfold sR; omega)) (fun _ _ => orSelf)⟩
      · unfold f_194
        simp (disch := first | assumption | omega) only [yp_178_0, yBs]
        rw [s162l _ 0 1 0 1 rfl rfl, decide_eq_true h.1, yBs, yB_t]
        simp (disch := first | assumption | omega) only [y10, if_false]
        rw [s162l _ (-9) 9 (-9) 9 rfl rfl, decide_eq_true h.2, yBs, yB_t]
        have e2' : ∀ w, (yW (yW m 178 0 0) 178 7 w).1 178 8 = E.2.1 := fun w => by rw [yW_get, if_neg (by omega), e2]
        by_cases h0 : n = 0
        · subst h0
          simp (disch := first | assumption | omega) only [y10, if_false, if_true, yN_add, yN_addl, yN_ladd, yN_mul, yN_mull, yN_lmul, yN_sub, yN_subl, yN_lsub, yN_lt, yN_ltl, yN_llt, yN_le, yN_lel, yN_lle, yN_eq, yN_eql, yN_leq, yN_eqm, yN_lem, yN_ltm, yN_mlt, yN_mle, yN_addm, yN_madd, yp_div, yp_rem, yp_divN, yp_remN, yi_178_7, yi_178_8, yp_178_7, yp_178_8, yBs, pZ_1, e2']
          rw [if_neg (by omega)]
          simp (disch := first | assumption | omega) only [yi_178_8, yp_178_8, yBs, pZ_1, e2']
        · simp (disch := first | assumption | omega) only [y10, if_false, yN_add, yN_addl, yN_ladd, yN_mul, yN_mull, yN_lmul, yN_sub, yN_subl, yN_lsub, yN_lt, yN_ltl, yN_llt, yN_le, yN_lel, yN_lle, yN_eq, yN_eql, yN_leq, yN_eqm, yN_lem, yN_ltm, yN_mlt, yN_mle, yN_addm, yN_madd, yp_div, yp_rem, yp_divN, yp_remN, if_neg h0, yi_178_7, yi_178_8, yp_178_7, yp_178_8, yBs, pZ_1, e1]
          rw [if_pos (by omega)]
          simp (disch := first | assumption | omega) only [yi_178_8, yp_178_8, yBs, pZ_1]
      · refine c1.fE (S := fun x j => x = 178 ∧ (j = 7 ∨ j = 8)) ((yG.w _ ⟨rfl, Or.inl rfl⟩).tr (yG.w (S := fun x j => x = 178 ∧ (j = 7 ∨ j = 8)) _ ⟨rfl, Or.inr rfl⟩) (fun _ _ => orSelf)) (fun x j r => Or.inr (Or.inl ⟨r.1, by omega⟩)) ⟨⟨?_, ?_⟩, ?_, ?_⟩
        · rw [yW_get, if_neg (by omega), yW_self, upd_eq]
        · rw [yW_self, upd_eq]
        · refine ⟨by rw [yW_get, if_neg (by omega), yW_get, if_neg (by omega)]; exact e3.1, fun k hk => by rw [yW_row (by omega), yW_row (by omega)]; exact e3.2 k hk⟩
        · refine ⟨by rw [yW_get, if_neg (by omega), yW_get, if_neg (by omega)]; exact e4.1, fun k hk => by rw [yW_row (by omega), yW_row (by omega)]; exact e4.2 k hk⟩
  · refine ⟨0, A, H, K, C, D, E, F, o, zCx.same fun m c => ?_, zCm.same fun m c => ?_⟩
    · unfold f_118
      by_cases h1 : p < 0
      · rw [if_pos h1]; simp only [yBs, pZ_0, pZ_1, pZ_B, if_true, if_false, y10, y01, yB_t, yB_f]
      · rw [if_neg h1]
        by_cases h2 : 1 < p
        · rw [if_pos h2]; simp only [yBs, pZ_0, pZ_1, pZ_B, if_true, if_false, y10, y01, yB_t, yB_f]
        · rw [if_neg h2]
          by_cases h3 : q < -9
          · rw [if_pos h3]; simp only [yBs, pZ_0, pZ_1, pZ_B, if_true, if_false, y10, y01, yB_t, yB_f]
          · rw [if_neg h3, if_neg (fun r => h ⟨⟨yLe_of_lt h1, yLe_of_lt h2⟩, yLe_of_lt h3, r⟩)]; simp only [yBs, pZ_0, pZ_1, pZ_B, if_true, if_false, y10, y01, yB_t, yB_f]
    · unfold f_194
      simp (disch := first | assumption | omega) only [yp_178_0, yBs]
      rw [s162l _ 0 1 0 1 rfl rfl]
      by_cases h1 : 0 ≤ p ∧ p ≤ 1
      · rw [decide_eq_true h1, yBs, yB_t]
        simp (disch := first | assumption | omega) only [y10, if_false]
        rw [s162l _ (-9) 9 (-9) 9 rfl rfl, decide_eq_false (fun r => h ⟨h1, r⟩), yBs, yB_f]
        simp only [yBs, pZ_0, pZ_1, pZ_B, if_true, if_false, y10, y01, yB_t, yB_f]
      · rw [decide_eq_false h1, yBs, yB_f]; simp only [yBs, pZ_0, pZ_1, pZ_B, if_true, if_false, y10, y01, yB_t, yB_f]
