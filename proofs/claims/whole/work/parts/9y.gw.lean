/-! ===== games: free ===== -/
theorem z_free (p : Int32) : zCall (f_143 0 p) (f_240 178 p) := by
  intro κ A H K C D E F o
  obtain ⟨d, J⟩ := zG_J o
  have hl := J.len
  have oH := o.2.1.1
  have hn := o.1.1.1.1
  by_cases hp : 0 ≤ p ∧ p < yN (3 * zn A)
  · obtain ⟨b, hb2, rfl⟩ := yN_of (x := p) (by intro z; have h1 := hp.1; rw [yLe_iff] at h1; rw [yLt_iff] at z; omega)
    have hb3 : b < 3 * zn A := by
      have := hp.2
      rwa [yN_lt (by omega) (by omega)] at this
    have hb : b < 48 := by omega
    have cls : ∀ m q, Cl m A H K C D E F → gpI (gGp (zG A E).1 b) = q → ∃ m1, CG m1 (zG A E) ∧ gF m m1 ∧ f_143 0 (yN b) (yH κ m) = (if q = (-1) then (pFr (yH κ m1) 0 11 9).bind fun x27 => (pFi (yH κ m1) x27 2 15).bind fun x28 => ((if x28 = 0 then some ((-2)) else some ((-3)) : Option (Int32))).bind fun (w30 : Int32) => some (w30, yH κ m1) else (pFr (yH κ m1) 0 11 9).bind fun x20 => (pFr (yH κ m1) 0 11 1).bind fun x21 => (pG (pIs (yH κ m1) x20 2)).bind fun _ => (f_39 x20 q x21 (yH κ m1)).bind fun h23 => (pFr h23 0 11 9).bind fun x24 => (pFr h23 x24 2 7).bind fun x25 => (pAi h23 x25 q).bind fun x26 => some (x26, h23)) := by
      intro m q c hq
      obtain ⟨m1, e1, G1, g1, -⟩ := s137a (κ := κ) c o
      refine ⟨m1, G1, g1, ?_⟩
      unfold f_143
      rw [if_neg (by rw [yN_ltl (by omega) (by omega)]; omega), yr_0_2, yBs, ys_0 ysw_5, yBs, show pFi (yH κ m) (5 + 1) 10 4 = _ from yt_4 ytw_6, yBs, show m.1 6 4 = yN (zn A) from c.1.1.2.1, yN_lmul, if_pos (by rw [yN_lt (by omega) (by omega)]; exact hb3), yr_0_9, yBs, yBs, ys_0 ysw_5, yBs, yBs, ys_is ysw_5, pG_t, yBs, s68 c o, yBs]
      dsimp only
      rw [yis_118, pG_t, yBs, show f_18 118 (5 + 1) (yB (decide (zho A ≠ 0))) (yH κ m) = _ from e1, yBs, yr_0_9, yBs, yis_118, pG_t, yBs, s36 (κ := κ) J G1 hb, hq, yBs]
      dsimp only
      rw [yr_0_9]
    have ref : ∀ m, Rf m A H K C D E F → ∃ m1, f_228 178 (yH κ m) = some (yH κ m1) ∧ RG m1 (gAk (zph A) E.1 E.2.1 (zro A) 0) (yN (zho A)) ∧ yFr sGr m m1 := fun m c => m228 (κ := κ) (φ := zph A) (t0 := E.1) (t1 := E.2.1) (zro_ok o) (zRw c)
    have pre : ∀ m m1, Rf m A H K C D E F → f_228 178 (yH κ (yW m 178 0 0)) = some (yH κ m1) → f_240 178 (yN b) (yH κ m) = ((f_240_40 100000 178 (yN b) 0 0 (yH κ m1)).bind fun r14 => match r14 with | .inl h11 => (pFi h11 178 12 38).bind fun x15 => ((if x15 = 0 then some ((-2)) else some ((-3)) : Option (Int32))).bind fun (w17 : Int32) => some (w17, h11) | .inr (x20, h21) => some (x20, h21)) := by
      intro m m1 c e
      have k48 : m.1 180 48 = yN (zn A) := c.1.2.1
      unfold f_240
      rw [yp_178_0, yBs, s162l _ 0 47 0 47 rfl rfl, yBs]
      dsimp only
      rw [decide_eq_true (show (0 : Int32) ≤ yN b ∧ yN b ≤ 47 from ⟨by rw [yN_lle (by omega) (by omega)]; exact Nat.zero_le _, by rw [yN_lel (by omega) (by omega)]; show b ≤ 47; omega⟩), yB_t, if_neg (show ¬ ((1 : Int32) = 0) by decide), yp_div (by omega) (by omega) (by decide), yBs, yr_178_3, yBs, show pAi (yH κ (yW m 178 0 0)) 180 48 = _ from yr_a (i := 48) yAr_180 (by omega), yBs, yW_row (by omega), k48, if_pos (by rw [yN_lt (by omega) (by omega)]; show b / 3 < zn A; omega), yis_178, pG_t, yBs, e, yBs]
      rfl
    cases hg : gGp (zG A E).1 b with
    | none =>
      refine ⟨if (zG A E).2 = true then -3 else -2, A, H, K, C, D, E, F, o, fun m c => ?_, fun m c => ?_⟩
      · obtain ⟨m1, G1, g1, e1⟩ := cls m _ c rfl
        obtain ⟨c1, s1⟩ := c.ga oH g1 G1.2.2.2.2.2
        refine ⟨m1, ?_, c1, s1⟩
        rw [e1, hg, show gpI none = -1 from rfl, if_pos rfl, yr_0_9, yBs, yi_118_15, yBs, G1.2.1]
        cases (zG A E).2 with
        | true => rw [yB_t, if_neg (show ¬ ((1 : Int32) = 0) by decide), yBs, if_pos rfl]
        | false => rw [yB_f, if_pos rfl, yBs, if_neg (show ¬ (false = true) by decide)]
      · obtain ⟨c0, g0⟩ := c.th 0
        obtain ⟨m1, e1, G1, f1⟩ := ref _ c0
        have c1 := c0.fr (f1.g (fun _ _ => id)) (fun _ _ => sGr_Rs)
        obtain ⟨m2, -, hc⟩ := m240_40 (κ := κ) (φ := zph A) (t0 := E.1) (t1 := E.2.1) (zro_ok o) (zhw o) hb 400 0 100000 0 m1 (by omega) (by omega) G1 c1.2.2.2.2.2.1.1.1 c1.2.2.2.2.2.1.1.2 (Nat.le_refl _) (Nat.zero_le _) (fun j e hj => absurd hj (Nat.not_lt_zero j))
        rcases hc with ⟨-, e2, k2, g2⟩ | ⟨j, hj, -⟩
        · have c2 := c1.fr g2 (fun _ _ => sGr_Rs)
          refine ⟨m2, ?_, c2, ((g0.tr (f1.g (S3 := sR) (fun _ _ => sGr_R)) (S3 := sR) (fun _ _ => orSelf)).tr (g2.wk (S3 := sR) (fun _ _ => sGr_R)) (fun _ _ => orSelf))⟩
          rw [pre m m1 c e1, show f_240_40 100000 178 (yN b) 0 0 (yH κ m1) = _ from e2, yBs]
          dsimp only
          rw [yi_178_38, yBs, k2]
          show ((if yB (zG A E).2 = 0 then some (-2) else some (-3)) : Option Int32).bind _ = _
          cases (zG A E).2 with
          | true => rw [yB_t, if_neg (show ¬ ((1 : Int32) = 0) by decide), yBs, if_pos rfl]
          | false => rw [yB_f, if_pos rfl, yBs, if_neg (show ¬ (false = true) by decide)]
        · have hj' : gGp (zG A E).1 b = some j := hj
          rw [hg] at hj'; simp at hj'
    | some k =>
      obtain ⟨⟨e, he, -⟩, -⟩ := gGp_s hg
      have hk := ge_lt he
      have hlen := gTh_len (zG A E).1 (gFr (zG A E).1 k) k
      have oD : Ok A H K C (iL ((gTh (zG A E).1 (gFr (zG A E).1 k) k).take 10)) E F := ⟨o.1, o.2.1, o.2.2.1, o.2.2.2.1, by unfold iL; rw [List.length_map, List.length_take]; omega, o.2.2.2.2.2⟩
      refine ⟨yN (gFr (zG A E).1 k), A, H, K, C, iL ((gTh (zG A E).1 (gFr (zG A E).1 k) k).take 10), E, F, oD, fun m c => ?_, fun m c => ?_⟩
      · obtain ⟨m1, G1, g1, e1⟩ := cls m _ c rfl
        obtain ⟨m2, e2, f2⟩ := s39 (κ := κ) J G1 hk
        have G2 : CG m2 (zG A E) := G1.ot f2 (fun x j q => by have : x = 134 := q; omega)
        obtain ⟨c2, s2⟩ := c.ga oH (g1.ot f2 (by omega)) G2.2.2.2.2.2
        refine ⟨_, ?_, c2.row oH _, s2.tr (rAs_g m2 _) (fun x j q => q.elim id (fun q => sA3_C q))⟩
        have k129 : m2.1 129 k = yN (gFr (zG A E).1 k) := by
          rw [(G2.2.2.2.1 k e he).2.2.1]
          unfold gFr; rw [getD_e he]
        rw [e1, hg, show gpI (some k) = yN k from rfl, if_neg (by rw [yN_eqm (by omega)]; exact id), yr_0_9, yBs, yr_0_1, yBs, yis_118, pG_t, yBs, e2, yBs, yr_0_9, yBs, yr_118_7, yBs, show pAi (yH κ (rAs m2 (iL ((gTh (zG A E).1 (gFr (zG A E).1 k) k).take 10)))) 129 (yN k) = _ from ya_129 (by omega), yBs, rAs_row (by omega), k129]
      · obtain ⟨c0, g0⟩ := c.th 0
        obtain ⟨m1, e1, G1, f1⟩ := ref _ c0
        have c1 := c0.fr (f1.g (fun _ _ => id)) (fun _ _ => sGr_Rs)
        obtain ⟨m2, g2, hc⟩ := m240_40 (κ := κ) (φ := zph A) (t0 := E.1) (t1 := E.2.1) (zro_ok o) (zhw o) hb 400 0 100000 0 m1 (by omega) (by omega) G1 c1.2.2.2.2.2.1.1.1 c1.2.2.2.2.2.1.1.2 (Nat.le_refl _) (Nat.zero_le _) (fun j e hj => absurd hj (Nat.not_lt_zero j))
        rcases hc with ⟨hj, -⟩ | ⟨j, hj, e2, R2⟩
        · have hj' : gGp (zG A E).1 b = none := hj
          rw [hg] at hj'; simp at hj'
        · have hj' : gGp (zG A E).1 b = some j := hj
          rw [hg] at hj'
          simp only [Option.some.injEq] at hj'
          subst hj'
          refine ⟨m2, ?_, c1.fD g2 (fun x j q => q.elim (fun q => Or.inl (sGr_Rs q)) Or.inr) R2, (g0.tr (f1.g (S3 := sR) (fun _ _ => sGr_R)) (S3 := sR) (fun _ _ => orSelf)).tr g2 (fun x j q => q.elim id (fun q => q.elim sGr_R (fun q => by unfold sR; omega)))⟩
          rw [pre m m1 c e1, show f_240_40 100000 178 (yN b) 0 0 (yH κ m1) = _ from e2, yBs]
          rfl
  · refine ⟨-1, A, H, K, C, D, E, F, o, fun m c => ⟨m, ?_, c, yG.rf m⟩, fun m c => ?_⟩
    · unfold f_143
      by_cases q : p < 0
      · rw [if_pos q]
      · have h0 : 0 ≤ p := yLe_of_lt q
        rw [if_neg q, yr_0_2, yBs, ys_0 ysw_5, yBs, show pFi (yH κ m) (5 + 1) 10 4 = _ from yt_4 ytw_6, yBs, show m.1 6 4 = yN (zn A) from c.1.1.2.1, yN_lmul, if_neg (fun z => hp ⟨h0, z⟩)]
    · obtain ⟨c0, g0⟩ := c.th 0
      refine ⟨_, ?_, c0, g0⟩
      have k48 : m.1 180 48 = yN (zn A) := c.1.2.1
      unfold f_240
      rw [yp_178_0, yBs, s162l _ 0 47 0 47 rfl rfl, yBs]
      dsimp only
      by_cases q : 0 ≤ p ∧ p ≤ 47
      · rw [decide_eq_true q, yB_t, if_neg (show ¬ ((1 : Int32) = 0) by decide)]
        obtain ⟨b, hb2, rfl⟩ := yN_of (x := p) (by intro z; have h1 := q.1; rw [yLe_iff] at h1; rw [yLt_iff] at z; omega)
        have hb : b ≤ 47 := by have := q.2; rwa [yN_lel (by omega) (by omega)] at this
        have hb3 : ¬ b < 3 * zn A := fun z => hp ⟨q.1, by rw [yN_lt (by omega) (by omega)]; exact z⟩
        rw [yp_div (by omega) (by omega) (by decide), yBs, yr_178_3, yBs, show pAi (yH κ (yW m 178 0 0)) 180 48 = _ from yr_a (i := 48) yAr_180 (by omega), yBs, yW_row (by omega), k48, if_neg (by rw [yN_lt (by omega) (by omega)]; show ¬ b / 3 < zn A; omega)]
      · rw [decide_eq_false q, yB_f, if_pos rfl]
