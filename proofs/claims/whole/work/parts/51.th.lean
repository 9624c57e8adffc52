/-! ===== calls: sign; block, layer, row ===== -/
theorem bvs (x : BitVec 32) (s : Nat) (hs : s + 8 ≤ 32) : (x >>> s) &&& 255#32 = (x.sshiftRight s) &&& 255#32 := by
  apply BitVec.eq_of_getLsbD_eq
  intro i hi
  rw [BitVec.getLsbD_and, BitVec.getLsbD_and, BitVec.getLsbD_ushiftRight, BitVec.getLsbD_sshiftRight]
  by_cases h8 : i < 8
  · simp [show s + i < 32 by omega, show ¬ 32 ≤ i by omega]
  · have : (255#32).getLsbD i = false := (by decide : ∀ i : Fin 32, ¬ i.val < 8 → (255#32).getLsbD i.val = false) ⟨i, hi⟩ h8
    rw [this]; simp
def sgn (v s : Int32) : Int32 := (((v : Int32).toUInt32 >>> ((s : Int32).toUInt32 &&& Int32.toUInt32 31)).toInt32) &&& 255
theorem sgn24 (v : Int32) : (v >>> ((24 : Int32) &&& 31)) &&& 255 = sgn v 24 := Int32.toBitVec.inj (bvs v.toBitVec 24 (by omega)).symm
theorem sgn16 (v : Int32) : (v >>> ((16 : Int32) &&& 31)) &&& 255 = sgn v 16 := Int32.toBitVec.inj (bvs v.toBitVec 16 (by omega)).symm
theorem sgn8 (v : Int32) : (v >>> ((8 : Int32) &&& 31)) &&& 255 = sgn v 8 := Int32.toBitVec.inj (bvs v.toBitVec 8 (by omega)).symm
theorem sgn0 (v : Int32) : (v >>> ((0 : Int32) &&& 31)) &&& 255 = sgn v 0 := Int32.toBitVec.inj (bvs v.toBitVec 0 (by omega)).symm
theorem sgn_ok (v s : Int32) : ∃ k, k < 256 ∧ sgn v s = yN k := by
  refine ⟨(sgn v s).toBitVec.toNat, ?_, ?_⟩
  · unfold sgn
    generalize ((v : Int32).toUInt32 >>> ((s : Int32).toUInt32 &&& Int32.toUInt32 31)).toInt32 = x
    have : (x &&& 255).toBitVec.toNat ≤ 255 := by
      show (x.toBitVec &&& 255#32).toNat ≤ 255
      rw [BitVec.toNat_and]
      exact Nat.and_le_right
    omega
  · apply Int32.toBitVec.inj
    show (sgn v s).toBitVec = BitVec.ofNat 32 _
    simp
def cPut (C : zC) (v : Int32) : zC := (C.1 + 4, upd (upd (upd (upd C.2 C.1 (sgn v 24)) (C.1 + 1) (sgn v 16)) (C.1 + 2) (sgn v 8)) (C.1 + 3) (sgn v 0))
theorem okC.put {C : zC} {v : Int32} (o : okC C) (h : C.1 ≤ 76) : okC (cPut C v) := by
  refine ⟨by show C.1 + 4 ≤ 80; omega, fun j hj => ?_⟩
  have hj' : j < C.1 + 4 := hj
  show ∃ k, k < 256 ∧ upd (upd (upd (upd C.2 C.1 (sgn v 24)) (C.1 + 1) (sgn v 16)) (C.1 + 2) (sgn v 8)) (C.1 + 3) (sgn v 0) j = yN k
  unfold upd
  split
  · exact sgn_ok v 0
  · split
    · exact sgn_ok v 8
    · split
      · exact sgn_ok v 16
      · split
        · exact sgn_ok v 24
        · exact o.2 j (by omega)
section SG
variable {κ : yK} {m : yM} {v : Int32} {n : Nat}
def sgM (m : yM) (n : Nat) (v s : Int32) : yM := yW (yW m 1 1 (yN (n + 1))) 2 n (sgn v s)
theorem sgM_l {s : Int32} : (sgM m n v s).1 1 1 = yN (n + 1) := by unfold sgM; rw [yW_row (by omega), yW_self, upd_eq]
theorem s73_1 {fu : Nat} {s : Int32} (h : m.1 1 1 = yN n) (hn : n < 80) (hs : ¬ s < 0) : f_73_14 (fu + 1) 1 v s (yH κ m) = f_73_14 fu 1 v (s + (-8)) (yH κ (sgM m n v s)) := by
  rw [f_73_14, if_neg hs]
  simp (disch := first | assumption | omega) only [yr_1_0, yi_1_1, h, yN_add, yN_addl, yN_ladd, yN_mul, yN_mull, yN_lmul, yN_sub, yN_subl, yN_lsub, yN_lt, yN_ltl, yN_llt, yN_le, yN_lel, yN_lle, yN_eq, yN_eql, yN_leq, yN_eqm, yN_lem, yN_ltm, yN_mlt, yN_mle, yN_addm, yN_madd, yp_div, yp_rem, yp_divN, yp_remN, yp_1_1, yBs, yst_2]
  rfl
theorem s73_14 {fu : Nat} (h : m.1 1 1 = yN n) (hn : n ≤ 76) : f_73_14 (fu + 5) 1 v 24 (yH κ m) = some (yH κ (sgM (sgM (sgM (sgM m n v 24) (n + 1) v 16) (n + 2) v 8) (n + 3) v 0)) := by
  rw [s73_1 h (by omega) (by decide), show (24 : Int32) + (-8) = 16 by decide, s73_1 sgM_l (by omega) (by decide), show (16 : Int32) + (-8) = 8 by decide, s73_1 sgM_l (by omega) (by decide), show (8 : Int32) + (-8) = 0 by decide, s73_1 sgM_l (by omega) (by decide), show (0 : Int32) + (-8) = -8 by decide, f_73_14, if_pos (by decide)]
theorem s171_18 {fu : Nat} (h : m.1 178 10 = yN n) (hn : n ≤ 76) : f_171_18 (fu + 5) 178 v (yN 0) (yH κ m) = some (yH κ (yW (yW (yW (yW m 183 n (sgn v 24)) 183 (n + 1) (sgn v 16)) 183 (n + 2) (sgn v 8)) 183 (n + 3) (sgn v 0))) := by
  unfold f_171_18 f_171_18 f_171_18 f_171_18 f_171_18
  have e0 : (24 - 8 * yN 0 : Int32) = 24 := by decide
  have e1 : (24 - 8 * yN (0 + 1) : Int32) = 16 := by decide
  have e2 : (24 - 8 * yN (0 + 1 + 1) : Int32) = 8 := by decide
  have e3 : (24 - 8 * yN (0 + 1 + 1 + 1) : Int32) = 0 := by decide
  simp (disch := first | assumption | omega) only [yN_addl, yN_add, yN_lle, if_neg, yr_178_9, yi_178_10, h, yBs, e0, e1, e2, e3, sgn24, sgn16, sgn8, sgn0, yst_183, yW_row, Nat.add_zero]
  rw [if_pos (by omega)]
end SG
theorem z_sign (v : Int32) : zCall (f_105 0 v) (f_171 178 v) := by
  intro κ A H K C D E F o
  have oC := o.2.2.2.1
  by_cases h : C.1 ≤ 76
  · refine ⟨yN (C.1 + 4), A, H, K, cPut C v, D, E, F, ⟨o.1, o.2.1, o.2.2.1, oC.put h, o.2.2.2.2⟩, fun m c => ?_, fun m c => ?_⟩
    · have g1 : ∀ (m : yM) (n : Nat) (s : Int32), yG (fun x _ => x = 1 ∨ x = 2) m (sgM m n v s) := fun m n s => (yG.w (S := fun x _ => x = 1 ∨ x = 2) m (Or.inl rfl)).tr (yG.w (S := fun x _ => x = 1 ∨ x = 2) _ (Or.inr rfl)) (fun _ _ => orSelf)
      have G := (((g1 m C.1 24).tr (g1 _ (C.1 + 1) 16) (fun _ _ => orSelf)).tr (g1 _ (C.1 + 2) 8) (fun _ _ => orSelf)).tr (g1 _ (C.1 + 3) 0) (fun _ _ => orSelf)
      refine ⟨_, ?_, c.fC o.2.1.1 G (fun x j q => Or.inr q) ⟨sgM_l, fun j hj => ?_⟩, G.wk (fun x j q => by unfold sC; omega)⟩
      · unfold f_105 f_73
        rw [show (100000 : Nat) = 99995 + 5 from rfl]
        have r : (sgM (sgM (sgM (sgM m C.1 v 24) (C.1 + 1) v 16) (C.1 + 2) v 8) (C.1 + 3) v 0).1 1 1 = yN (C.1 + 4) := sgM_l
        simp (disch := first | assumption | omega) only [yr_0_0, yis_1, yBs, pG_t, yi_1_1, c.2.2.2.1.1, yN_add, yN_addl, yN_ladd, yN_mul, yN_mull, yN_lmul, yN_sub, yN_subl, yN_lsub, yN_lt, yN_ltl, yN_llt, yN_le, yN_lel, yN_lle, yN_eq, yN_eql, yN_leq, yN_eqm, yN_lem, yN_ltm, yN_mlt, yN_mle, yN_addm, yN_madd, yp_div, yp_rem, yp_divN, yp_remN, if_pos, if_neg, s73_14 c.2.2.2.1.1, pZ_1, y10, if_false, r]
      · have hj' : j < C.1 + 4 := hj
        unfold sgM
        simp only [yW_self, yW_row (show (2 : Nat) ≠ 1 by omega)]
        show upd (upd (upd (upd (m.1 2) C.1 (sgn v 24)) (C.1 + 1) (sgn v 16)) (C.1 + 2) (sgn v 8)) (C.1 + 3) (sgn v 0) j = upd (upd (upd (upd C.2 C.1 (sgn v 24)) (C.1 + 1) (sgn v 16)) (C.1 + 2) (sgn v 8)) (C.1 + 3) (sgn v 0) j
        unfold upd
        split
        · rfl
        · split
          · rfl
          · split
            · rfl
            · split
              · rfl
              · exact c.2.2.2.1.2 j (by omega)
    · obtain ⟨c0, g0⟩ := c.th 0
      generalize hM : yW m 178 0 0 = M at *
      have g1 : ∀ (m : yM) (n : Nat) (s : Int32), yG (fun x j => (x = 178 ∧ j = 10) ∨ x = 183) m (yW m 183 n s) := fun m n s => yG.w m (Or.inr rfl)
      have G := ((((g1 M C.1 (sgn v 24)).tr (g1 _ (C.1 + 1) (sgn v 16)) (fun _ _ => orSelf)).tr (g1 _ (C.1 + 2) (sgn v 8)) (fun _ _ => orSelf)).tr (g1 _ (C.1 + 3) (sgn v 0)) (fun _ _ => orSelf)).tr (yG.w (S := fun x j => (x = 178 ∧ j = 10) ∨ x = 183) (a := 178) (k := 10) (x := yN (C.1 + 4)) _ (Or.inl ⟨rfl, rfl⟩)) (fun _ _ => orSelf)
      refine ⟨_, ?_, c0.fC G (fun x j q => Or.inr q) ⟨by rw [yW_self, upd_eq]; rfl, fun j hj => ?_⟩, g0.tr (G.wk (S3 := sR) (fun x j q => by unfold sR; omega)) (fun _ _ => orSelf)⟩
      · unfold f_171
        rw [yp_178_0, yBs, hM]
        have e1 : f_171_18 100000 178 v 0 (yH κ M) = some (yH κ (yW (yW (yW (yW M 183 C.1 (sgn v 24)) 183 (C.1 + 1) (sgn v 16)) 183 (C.1 + 2) (sgn v 8)) 183 (C.1 + 3) (sgn v 0))) := s171_18 (κ := κ) (fu := 99995) c0.2.2.2.1.1 h
        have r : (yW (yW (yW (yW M 183 C.1 (sgn v 24)) 183 (C.1 + 1) (sgn v 16)) 183 (C.1 + 2) (sgn v 8)) 183 (C.1 + 3) (sgn v 0)).1 178 10 = yN C.1 := by rw [yW_row (by omega), yW_row (by omega), yW_row (by omega), yW_row (by omega)]; exact c0.2.2.2.1.1
        simp (disch := first | assumption | omega) only [yi_178_10, c0.2.2.2.1.1, yBs, yN_add, yN_addl, yN_ladd, yN_mul, yN_mull, yN_lmul, yN_sub, yN_subl, yN_lsub, yN_lt, yN_ltl, yN_llt, yN_le, yN_lel, yN_lle, yN_eq, yN_eql, yN_leq, yN_eqm, yN_lem, yN_ltm, yN_mlt, yN_mle, yN_addm, yN_madd, yp_div, yp_rem, yp_divN, yp_remN, if_pos, if_neg, e1, r, yp_178_10, yW_self, upd_eq]
      · have hj' : j < C.1 + 4 := hj
        simp only [yW_self, yW_row (show (183 : Nat) ≠ 178 by omega)]
        show upd (upd (upd (upd (M.1 183) C.1 (sgn v 24)) (C.1 + 1) (sgn v 16)) (C.1 + 2) (sgn v 8)) (C.1 + 3) (sgn v 0) j = upd (upd (upd (upd C.2 C.1 (sgn v 24)) (C.1 + 1) (sgn v 16)) (C.1 + 2) (sgn v 8)) (C.1 + 3) (sgn v 0) j
        unfold upd
        split
        · rfl
        · split
          · rfl
          · split
            · rfl
            · split
              · rfl
              · exact c0.2.2.2.1.2 j (by omega)
  · have h80 := oC.1
    refine ⟨-1, A, H, K, C, D, E, F, o, zCx.same fun m c => ?_, zCm.same fun m c => ?_⟩
    · unfold f_105 f_73
      simp (disch := first | assumption | omega) only [yr_0_0, yis_1, yBs, pG_t, yi_1_1, c.2.2.2.1.1, yN_add, yN_addl, yN_ladd, yN_mul, yN_mull, yN_lmul, yN_sub, yN_subl, yN_lsub, yN_lt, yN_ltl, yN_llt, yN_le, yN_lel, yN_lle, yN_eq, yN_eql, yN_leq, yN_eqm, yN_lem, yN_ltm, yN_mlt, yN_mle, yN_addm, yN_madd, yp_div, yp_rem, yp_divN, yp_remN, if_pos, if_neg, pZ_0, if_true]
    · obtain ⟨c0, g0⟩ := c.th 0
      unfold f_171
      simp (disch := first | assumption | omega) only [yp_178_0, yi_178_10, c0.2.2.2.1.1, yBs, yN_add, yN_addl, yN_ladd, yN_mul, yN_mull, yN_lmul, yN_sub, yN_subl, yN_lsub, yN_lt, yN_ltl, yN_llt, yN_le, yN_lel, yN_lle, yN_eq, yN_eql, yN_leq, yN_eqm, yN_lem, yN_ltm, yN_mlt, yN_mle, yN_addm, yN_madd, yp_div, yp_rem, yp_divN, yp_remN, if_pos, if_neg]
/-! calls that may throw -/
def kT (κ : yK) : yK := (κ.1, κ.2.1 + 6, κ.2.2.1 + 1, κ.2.2.2)
theorem yH_T {κ : yK} {m : yM} : ((yH κ m).1, (yH κ m).2.1 + 6, (yH κ m).2.2.1 + 1, (yH κ m).2.2.2) = yH (kT κ) m := rfl
def zTx {α : Type} (fx : xH → Option (Option α × xH)) (κ : yK) (v : Option α) (A : zT) (H : zH) (K : zK) (C : zC) (D : List Int64) (E : zE) (F : zF) : Prop := ∀ m, Cl m A H K C D E F → ∃ m', fx (yH κ m) = some (v, yH (if v.isSome = true then κ else kT κ) m') ∧ Cl m' A H K C D E F ∧ yG sC m m'
def zTm {α : Type} (fm : xH → Option (α × xH)) (κ : yK) (w : α) (t : Bool) (A : zT) (H : zH) (K : zK) (C : zC) (D : List Int64) (E : zE) (F : zF) : Prop := ∀ m, Rf m A H K C D E F → ∃ m', fm (yH κ m) = some (w, yH κ m') ∧ Rf m' A H K C D E F ∧ m'.1 178 0 = yB t ∧ yG sR m m'
def zCallT {α : Type} (fx : xH → Option (Option α × xH)) (fm : xH → Option (α × xH)) : Prop := ∀ κ κ' A H K C D E F, Ok A H K C D E F → ∃ (v : Option α) (w : α), (v = none ∨ v = some w) ∧ zTx fx κ v A H K C D E F ∧ zTm fm κ' w v.isNone A H K C D E F
section TH
variable {κ : yK} {A : zT} {H : zH} {K : zK} {C : zC} {D : List Int64} {E : zE} {F : zF}
theorem zTx.none {α : Type} {fx : xH → Option (Option α × xH)} (h : ∀ m, Cl m A H K C D E F → fx (yH κ m) = some (none, yH (kT κ) m)) : zTx fx κ none A H K C D E F := fun m c => ⟨m, h m c, c, yG.rf m⟩
theorem zTx.some {α : Type} {fx : xH → Option (Option α × xH)} {v : α} (h : ∀ m, Cl m A H K C D E F → fx (yH κ m) = some (some v, yH κ m)) : zTx fx κ (some v) A H K C D E F := fun m c => ⟨m, h m c, c, yG.rf m⟩
theorem zTm.no {α : Type} {fm : xH → Option (α × xH)} {w : α} (h : ∀ m, Rf m A H K C D E F → fm (yH κ m) = some (w, yH κ (yW (yW m 178 0 0) 178 0 1))) : zTm fm κ w true A H K C D E F := fun m c => by
  obtain ⟨c0, g0⟩ := c.th 0
  obtain ⟨c1, g1⟩ := c0.th 1
  exact ⟨_, h m c, c1, by rw [yW_self, upd_eq]; rfl, g0.tr g1 (fun _ _ => orSelf)⟩
theorem zTm.same {α : Type} {fm : xH → Option (α × xH)} {w : α} (h : ∀ m, Rf m A H K C D E F → fm (yH κ m) = some (w, yH κ (yW m 178 0 0))) : zTm fm κ w false A H K C D E F := fun m c => by
  obtain ⟨c0, g0⟩ := c.th 0
  exact ⟨_, h m c, c0, by rw [yW_self, upd_eq]; rfl, g0⟩
end TH
theorem z_row (p : Int32) : zCallT (f_159 0 p) (f_264 178 p) := by
  intro κ κ' A H K C D E F o
  have oD := o.2.2.2.2.1
  by_cases h : 0 ≤ p ∧ p < yN D.length
  · obtain ⟨j, hj, rfl⟩ := yN_of' h.1
    have hl : j < D.length := by have := h.2; rw [yN_lt hj (by omega)] at this; exact this
    refine ⟨some (D.getD j 0), D.getD j 0, Or.inr rfl, zTx.some fun m c => ?_, zTm.same fun m c => ?_⟩
    · unfold f_159
      simp (disch := first | assumption | omega) only [yN_add, yN_addl, yN_ladd, yN_mul, yN_mull, yN_lmul, yN_sub, yN_subl, yN_lsub, yN_lt, yN_ltl, yN_llt, yN_le, yN_lel, yN_lle, yN_eq, yN_eql, yN_leq, yN_eqm, yN_lem, yN_ltm, yN_mlt, yN_mle, yN_addm, yN_madd, yp_div, yp_rem, yp_divN, yp_remN, if_pos, if_neg, yr_0_1, yi_3_1, c.2.2.2.2.1.1, yBs, yr_3_0, ya_4, c.2.2.2.2.1.2 j hl]
    · obtain ⟨c0, g0⟩ := c.th 0
      have hin : decide (0 ≤ yN j ∧ yN j ≤ yN D.length - 1) = true := by
        refine decide_eq_true ⟨h.1, ?_⟩
        rw [yN_subl (show 1 ≤ D.length by omega), yN_le hj (by omega)]; omega
      unfold f_264
      simp (disch := first | assumption | omega) only [yp_178_0, yi_178_1, c0.2.2.2.2.1.1, yBs]
      rw [s162l _ 0 (yN D.length - 1) 0 _ rfl rfl, hin]
      simp (disch := first | assumption | omega) only [yB_t, y10, if_false, yBs, yr_178_2, ya_179, c0.2.2.2.2.1.2 j hl]
  · refine ⟨none, 0, Or.inl rfl, zTx.none fun m c => ?_, zTm.no fun m c => ?_⟩
    · unfold f_159
      by_cases h1 : p < 0
      · rw [if_pos h1]; rfl
      · rw [if_neg h1, yr_0_1, yBs, yi_3_1, yBs, c.2.2.2.2.1.1, if_neg (fun q => h ⟨yLe_of_lt h1, q⟩)]; rfl
    · obtain ⟨c0, g0⟩ := c.th 0
      have hin : decide (0 ≤ p ∧ p ≤ yN D.length - 1) = false := by
        refine decide_eq_false (fun q => h ⟨q.1, ?_⟩)
        obtain ⟨k, hk, rfl⟩ := yN_of' q.1
        rcases Nat.eq_zero_or_pos D.length with h0 | h0
        · have := q.2
          rw [h0, show yN 0 - 1 = -1 from rfl, yN_lem hk] at this
          exact this.elim
        · have := q.2
          rw [yN_subl (show 1 ≤ D.length from h0), yN_le hk (by omega)] at this
          rw [yN_lt hk (by omega)]; omega
      unfold f_264
      simp (disch := first | assumption | omega) only [yp_178_0, yi_178_1, c0.2.2.2.2.1.1, yBs]
      rw [s162l _ 0 (yN D.length - 1) 0 _ rfl rfl, hin]
      simp (disch := first | assumption | omega) only [yB_f, if_true, yBs, yp_178_0]
