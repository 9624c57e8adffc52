/-! ===== games: longest, shortest, high, towers, free ===== -/
theorem z_longest : zCall (f_139 0) (f_235 178) := by
  intro κ A H K C D E F o
  obtain ⟨d, J⟩ := zG_J o
  have hl := J.len
  have oH := o.2.1.1
  have hh : 1 = 1 ∨ 1 = 2 := by omega
  have hpl := gPa_len (how := 1) (φ := zph A) (t0 := E.1) (t1 := E.2.1) 10 (zro A)
  cases hf : (zG A E).2 with
  | true =>
    refine ⟨-3, A, H, K, C, D, E, F, o, fun m c => ?_, fun m c => ?_⟩
    · obtain ⟨m1, e1, G1, g1, -⟩ := s137 (κ := κ) c o
      obtain ⟨c1, s1⟩ := c.ga oH g1 G1.2.2.2.2.2
      refine ⟨m1, ?_, c1, s1⟩
      unfold f_139
      rw [yis_0, pG_t, yBs, e1, hf, yBs]
      dsimp only
      rw [show yB (!true) = 0 from rfl, if_pos rfl]
    · obtain ⟨c0, g0⟩ := c.th 0
      obtain ⟨m1, e1, G1, c1, g1⟩ := m230z (κ := κ) c0 o
      refine ⟨m1, ?_, c1, g0.tr g1 (fun _ _ => orSelf)⟩
      unfold f_235 f_234
      rw [yp_178_0, yBs, yis_178, pG_t, yBs, yBs, e1, hf, yBs]
      dsimp only
      rw [show yB (!true) = 0 from rfl, if_pos rfl, yBs]
  | false =>
    have oD : Ok A H K C (nL (gPa 1 (zph A) E.1 E.2.1 10 (zro A))) E F := ⟨o.1, o.2.1, o.2.2.1, o.2.2.2.1, by unfold nL; rw [List.length_map]; omega, o.2.2.2.2.2⟩
    refine ⟨yN (gv (gW 1 (zph A) E.1 E.2.1 (zro A))), A, H, K, C, nL (gPa 1 (zph A) E.1 E.2.1 10 (zro A)), E, F, oD, fun m c => ?_, fun m c => ?_⟩
    · obtain ⟨m1, e1, G1, g1, hE⟩ := s137 (κ := κ) c o
      obtain ⟨fe, Ed, hC⟩ := hE hf
      obtain ⟨m2, e2, V2, f2⟩ := s31 (κ := κ) hh J hC G1.1
      have G2 : CG m2 (zG A E) := G1.ot f2 (fun x j q => by have : x = 131 := q; omega)
      have hC2 := hC.c (m' := m2) (f2.row (fun j q => by omega)) (f2.row (fun j q => by omega))
      obtain ⟨c2, s2⟩ := c.ga oH (g1.ot f2 (by omega)) G2.2.2.2.2.2
      have e34 := s34 (κ := κ) hh J hC2 V2 (zG0 o)
      refine ⟨_, ?_, c2.row oH (nL (gPa 1 (zph A) E.1 E.2.1 10 (zro A))), s2.tr (rAs_g m2 _) (fun x j q => q.elim id (fun q => sA3_C q))⟩
      unfold f_139
      rw [yis_0, pG_t, yBs, e1, hf, yBs]
      dsimp only
      rw [show yB (!false) = 1 from rfl, if_neg (show ¬ ((1 : Int32) = 0) by decide), yr_0_9, yBs, yis_118, pG_t, yBs, show f_31 118 1 (yH κ m1) = _ from e2, yBs, yr_0_9, yBs, yr_0_1, yBs, yis_118, pG_t, yBs, e34, yBs, yr_0_9, yBs, yr_118_9, yBs, show pAi (yH κ (rAs m2 (nL (gPa 1 (zph A) E.1 E.2.1 10 (zro A))))) 131 0 = _ from ya_131 (i := 0) (by omega), yBs, rAs_row (by omega), V2 0 _ (zG0 o)]
    · obtain ⟨c0, g0⟩ := c.th 0
      obtain ⟨m1, e1, G1, c1, g1⟩ := m230z (κ := κ) c0 o
      obtain ⟨m2, e2, G2, V2, s2, f2⟩ := m231 (κ := κ) (how := 1) (by omega) J (zhw o) (zG_cl o hf) G1 c1.2.2.2.2.2.1.1.1 c1.2.2.2.2.2.1.1.2
      have c2 := c1.fr (f2.g (fun _ _ => id)) (fun _ _ => sGr_Rs)
      rcases V2 0 _ (zG0 o) with z | ⟨v1, v2, -⟩
      · exact absurd z s2
      · have hgl : gv (gW 1 (zph A) E.1 E.2.1 (zro A)) ≤ 49 := gW_le
        have gb : yG sB3 m2 (rBs m2 []) := rBs_g m2 []
        obtain ⟨m3, e3, R3, k3, g3⟩ := m234_29 (κ := κ) (how := 1) hh J (zhw o) (zG_cl o hf) (gv (gW 1 (zph A) E.1 E.2.1 (zro A))) 100000 0 _ (rBs m2 []) [] (by omega) (zG0 o) rfl (by simp) (G2.gl gb (fun x j q => by unfold sB3 at q; omega)) (V2.gl gb (fun x j q => by unfold sB3 at q; omega)) (by rw [rBs_row (by omega)]; exact s2) (by rw [rBs_fl (by omega)]; exact c2.2.2.2.2.2.1.1.1) (by rw [rBs_fl (by omega)]; exact c2.2.2.2.2.2.1.1.2) (rBs_r m2 [])
        have hL : ([] ++ nL (gPa 1 (zph A) E.1 E.2.1 (gv (gW 1 (zph A) E.1 E.2.1 (zro A))) (zro A))).take 10 = nL (gPa 1 (zph A) E.1 E.2.1 10 (zro A)) := by
          rw [List.nil_append]
          unfold nL
          rw [← List.map_take, gPa_10 (by omega) (zro_ok o)]
        have R3' : rRo m3 (nL (gPa 1 (zph A) E.1 E.2.1 10 (zro A))) := by rw [← hL]; exact R3
        have gg : yG sGl m2 m3 := (gb.wk (S3 := sGl) (fun x j q => Or.inr q)).tr g3 (fun _ _ => orSelf)
        refine ⟨m3, ?_, c2.fD gg (fun x j q => q.elim (fun q => Or.inl (sGr_Rs q)) Or.inr) R3', ((g0.tr g1 (S3 := sR) (fun _ _ => orSelf)).tr (f2.g (S3 := sR) (fun _ _ => sGr_R)) (S3 := sR) (fun _ _ => orSelf)).tr gg (fun x j q => q.elim id (fun q => q.elim sGr_R (fun q => by unfold sR; omega)))⟩
        have v1' : m3.1 201 0 = yN (gv (gW 1 (zph A) E.1 E.2.1 (zro A))) := by rw [k3, rBs_row (by omega)]; exact v1
        unfold f_235 f_234
        rw [yp_178_0, yBs, yis_178, pG_t, yBs, yBs, e1, hf, yBs]
        dsimp only
        rw [show yB (!false) = 1 from rfl, if_neg (show ¬ ((1 : Int32) = 0) by decide), yis_178, pG_t, yBs, show f_231 178 1 (yH κ m1) = _ from e2, yBs, yp_178_1, yBs, rBs_0, yr_178_40, yBs, show pAi (yH κ (rBs m2 [])) 201 0 = _ from ya_201 (i := 0) (by omega), yBs, rBs_row (by omega), v1, show f_234_29 100000 178 0 (yN (gv (gW 1 (zph A) E.1 E.2.1 (zro A)))) (yH κ (rBs m2 [])) = _ from e3, yBs, yr_178_40, yBs, show pAi (yH κ m3) 201 0 = _ from ya_201 (i := 0) (by omega), yBs, v1', yBs]
theorem z_shortest : zCall (f_140 0) (f_236 178) := by
  intro κ A H K C D E F o
  obtain ⟨d, J⟩ := zG_J o
  have hl := J.len
  have oH := o.2.1.1
  have hh : 2 = 1 ∨ 2 = 2 := by omega
  have hpl := gPa_len (how := 2) (φ := zph A) (t0 := E.1) (t1 := E.2.1) 10 (zro A)
  cases hf : (zG A E).2 with
  | true =>
    refine ⟨-3, A, H, K, C, D, E, F, o, fun m c => ?_, fun m c => ?_⟩
    · obtain ⟨m1, e1, G1, g1, -⟩ := s137 (κ := κ) c o
      obtain ⟨c1, s1⟩ := c.ga oH g1 G1.2.2.2.2.2
      refine ⟨m1, ?_, c1, s1⟩
      unfold f_140
      rw [yis_0, pG_t, yBs, e1, hf, yBs]
      dsimp only
      rw [show yB (!true) = 0 from rfl, if_pos rfl]
    · obtain ⟨c0, g0⟩ := c.th 0
      obtain ⟨m1, e1, G1, c1, g1⟩ := m230z (κ := κ) c0 o
      refine ⟨m1, ?_, c1, g0.tr g1 (fun _ _ => orSelf)⟩
      unfold f_236 f_234
      rw [yp_178_0, yBs, yis_178, pG_t, yBs, yBs, e1, hf, yBs]
      dsimp only
      rw [show yB (!true) = 0 from rfl, if_pos rfl, yBs]
  | false =>
    have oD : Ok A H K C (nL (gPa 2 (zph A) E.1 E.2.1 10 (zro A))) E F := ⟨o.1, o.2.1, o.2.2.1, o.2.2.2.1, by unfold nL; rw [List.length_map]; omega, o.2.2.2.2.2⟩
    refine ⟨yN (gv (gW 2 (zph A) E.1 E.2.1 (zro A))), A, H, K, C, nL (gPa 2 (zph A) E.1 E.2.1 10 (zro A)), E, F, oD, fun m c => ?_, fun m c => ?_⟩
    · obtain ⟨m1, e1, G1, g1, hE⟩ := s137 (κ := κ) c o
      obtain ⟨fe, Ed, hC⟩ := hE hf
      obtain ⟨m2, e2, V2, f2⟩ := s31 (κ := κ) hh J hC G1.1
      have G2 : CG m2 (zG A E) := G1.ot f2 (fun x j q => by have : x = 131 := q; omega)
      have hC2 := hC.c (m' := m2) (f2.row (fun j q => by omega)) (f2.row (fun j q => by omega))
      obtain ⟨c2, s2⟩ := c.ga oH (g1.ot f2 (by omega)) G2.2.2.2.2.2
      have e34 := s34 (κ := κ) hh J hC2 V2 (zG0 o)
      refine ⟨_, ?_, c2.row oH (nL (gPa 2 (zph A) E.1 E.2.1 10 (zro A))), s2.tr (rAs_g m2 _) (fun x j q => q.elim id (fun q => sA3_C q))⟩
      unfold f_140
      rw [yis_0, pG_t, yBs, e1, hf, yBs]
      dsimp only
      rw [show yB (!false) = 1 from rfl, if_neg (show ¬ ((1 : Int32) = 0) by decide), yr_0_9, yBs, yis_118, pG_t, yBs, show f_31 118 0 (yH κ m1) = _ from e2, yBs, yr_0_9, yBs, yr_0_1, yBs, yis_118, pG_t, yBs, e34, yBs, yr_0_9, yBs, yr_118_9, yBs, show pAi (yH κ (rAs m2 (nL (gPa 2 (zph A) E.1 E.2.1 10 (zro A))))) 131 0 = _ from ya_131 (i := 0) (by omega), yBs, rAs_row (by omega), V2 0 _ (zG0 o)]
    · obtain ⟨c0, g0⟩ := c.th 0
      obtain ⟨m1, e1, G1, c1, g1⟩ := m230z (κ := κ) c0 o
      obtain ⟨m2, e2, G2, V2, s2, f2⟩ := m231 (κ := κ) (how := 2) (by omega) J (zhw o) (zG_cl o hf) G1 c1.2.2.2.2.2.1.1.1 c1.2.2.2.2.2.1.1.2
      have c2 := c1.fr (f2.g (fun _ _ => id)) (fun _ _ => sGr_Rs)
      rcases V2 0 _ (zG0 o) with z | ⟨v1, v2, -⟩
      · exact absurd z s2
      · have hgl : gv (gW 2 (zph A) E.1 E.2.1 (zro A)) ≤ 49 := gW_le
        have gb : yG sB3 m2 (rBs m2 []) := rBs_g m2 []
        obtain ⟨m3, e3, R3, k3, g3⟩ := m234_29 (κ := κ) (how := 2) hh J (zhw o) (zG_cl o hf) (gv (gW 2 (zph A) E.1 E.2.1 (zro A))) 100000 0 _ (rBs m2 []) [] (by omega) (zG0 o) rfl (by simp) (G2.gl gb (fun x j q => by unfold sB3 at q; omega)) (V2.gl gb (fun x j q => by unfold sB3 at q; omega)) (by rw [rBs_row (by omega)]; exact s2) (by rw [rBs_fl (by omega)]; exact c2.2.2.2.2.2.1.1.1) (by rw [rBs_fl (by omega)]; exact c2.2.2.2.2.2.1.1.2) (rBs_r m2 [])
        have hL : ([] ++ nL (gPa 2 (zph A) E.1 E.2.1 (gv (gW 2 (zph A) E.1 E.2.1 (zro A))) (zro A))).take 10 = nL (gPa 2 (zph A) E.1 E.2.1 10 (zro A)) := by
          rw [List.nil_append]
          unfold nL
          rw [← List.map_take, gPa_10 (by omega) (zro_ok o)]
        have R3' : rRo m3 (nL (gPa 2 (zph A) E.1 E.2.1 10 (zro A))) := by rw [← hL]; exact R3
        have gg : yG sGl m2 m3 := (gb.wk (S3 := sGl) (fun x j q => Or.inr q)).tr g3 (fun _ _ => orSelf)
        refine ⟨m3, ?_, c2.fD gg (fun x j q => q.elim (fun q => Or.inl (sGr_Rs q)) Or.inr) R3', ((g0.tr g1 (S3 := sR) (fun _ _ => orSelf)).tr (f2.g (S3 := sR) (fun _ _ => sGr_R)) (S3 := sR) (fun _ _ => orSelf)).tr gg (fun x j q => q.elim id (fun q => q.elim sGr_R (fun q => by unfold sR; omega)))⟩
        have v1' : m3.1 201 0 = yN (gv (gW 2 (zph A) E.1 E.2.1 (zro A))) := by rw [k3, rBs_row (by omega)]; exact v1
        unfold f_236 f_234
        rw [yp_178_0, yBs, yis_178, pG_t, yBs, yBs, e1, hf, yBs]
        dsimp only
        rw [show yB (!false) = 1 from rfl, if_neg (show ¬ ((1 : Int32) = 0) by decide), yis_178, pG_t, yBs, show f_231 178 2 (yH κ m1) = _ from e2, yBs, yp_178_1, yBs, rBs_0, yr_178_40, yBs, show pAi (yH κ (rBs m2 [])) 201 0 = _ from ya_201 (i := 0) (by omega), yBs, rBs_row (by omega), v1, show f_234_29 100000 178 0 (yN (gv (gW 2 (zph A) E.1 E.2.1 (zro A)))) (yH κ (rBs m2 [])) = _ from e3, yBs, yr_178_40, yBs, show pAi (yH κ m3) 201 0 = _ from ya_201 (i := 0) (by omega), yBs, v1', yBs]
theorem z_high : zCall (f_141 0) (f_238 178) := by
  intro κ A H K C D E F o
  obtain ⟨d, J⟩ := zG_J o
  have hl := J.len
  have oH := o.2.1.1
  have h1l := ge_lt (zG0 o)
  cases hf : (zG A E).2 with
  | true =>
    refine ⟨-3, A, H, K, C, D, E, F, o, fun m c => ?_, fun m c => ?_⟩
    · obtain ⟨m1, e1, G1, g1, -⟩ := s137 (κ := κ) c o
      obtain ⟨c1, s1⟩ := c.ga oH g1 G1.2.2.2.2.2
      refine ⟨m1, ?_, c1, s1⟩
      unfold f_141
      rw [yis_0, pG_t, yBs, e1, hf, yBs]
      dsimp only
      rw [show yB (!true) = 0 from rfl, if_pos rfl]
    · obtain ⟨c0, g0⟩ := c.th 0
      obtain ⟨m1, e1, G1, c1, g1⟩ := m230z (κ := κ) c0 o
      refine ⟨m1, ?_, c1, g0.tr g1 (fun _ _ => orSelf)⟩
      unfold f_238
      rw [yp_178_0, yBs, yis_178, pG_t, yBs, e1, hf, yBs]
      dsimp only
      rw [show yB (!true) = 0 from rfl, if_pos rfl]
  | false =>
    have hble := gHk_le (zG A E).1 ((zG A E).1.length - 1)
    generalize hb : gHk (zG A E).1 ((zG A E).1.length - 1) = b at *
    have hbl : b < (zG A E).1.length := by omega
    obtain ⟨e, he⟩ := ge_of hbl
    have hfr : e.2.2.2 = gFr (zG A E).1 b := by unfold gFr; rw [getD_e he]
    have hnh : e.1.2 = gNh (zG A E).1 b := by unfold gNh; rw [getD_e he]
    have oD : Ok A H K C [(yN (gFr (zG A E).1 b)).toInt64, (gF1 (zG A E).1 b).toInt64] E F := ⟨o.1, o.2.1, o.2.2.1, o.2.2.2.1, by simp, o.2.2.2.2.2⟩
    refine ⟨yN (gNh (zG A E).1 b), A, H, K, C, [(yN (gFr (zG A E).1 b)).toInt64, (gF1 (zG A E).1 b).toInt64], E, F, oD, fun m c => ?_, fun m c => ?_⟩
    · obtain ⟨m1, e1, G1, g1, -⟩ := s137 (κ := κ) c o
      have e35 := s35 (κ := κ) J G1
      rw [hb] at e35
      obtain ⟨m2, e2, f2⟩ := s38 (κ := κ) (m := rAs m1 [(yN (gFr (zG A E).1 b)).toInt64]) (k := b) J (G1.c (fun x j q => by rw [rAs_row (by omega)]) (by funext j; rw [rAs_2, if_neg (by omega)]) (fun j hj => by rw [rAs_row (by omega)]; exact G1.2.2.2.2.2 j hj)) hbl
      have hz2 : ∀ j, 48 ≤ j → m1.1 120 j = 0 := G1.2.2.2.2.2
      obtain ⟨c1, s1⟩ := c.ga oH g1 hz2
      have c1r := c1.row oH [(yN (gFr (zG A E).1 b)).toInt64]
      have c2 := c1r.fr oH (f2.g (fun _ _ => id)) (fun x j q => by have : x = 134 := q; unfold sCs; omega)
      have c3 := c2.row oH [(yN (gFr (zG A E).1 b)).toInt64, (gF1 (zG A E).1 b).toInt64]
      have rb : rAs m2 [(yN (gFr (zG A E).1 b)).toInt64] = m2 := by
        refine yM_ext (fun x j => ?_) (fun x j => ?_)
        · rw [rAs_1]
          by_cases q : x = 3 ∧ j = 1
          · rw [if_pos q, q.1, q.2]; exact c2.2.2.2.2.1.1.symm
          · rw [if_neg q]
        · rw [rAs_2]
          by_cases q : x = 4 ∧ j < [(yN (gFr (zG A E).1 b)).toInt64].length
          · rw [if_pos q, q.1]; exact (c2.2.2.2.2.1.2 j q.2).symm
          · rw [if_neg q]
      have e51 := s51b (κ := κ) (m := m2) (a := (yN (gFr (zG A E).1 b)).toInt64) (v := (gF1 (zG A E).1 b).toInt64)
      rw [rb] at e51
      have k129 : m1.1 129 b = yN (gFr (zG A E).1 b) := by rw [(G1.2.2.2.1 b e he).2.2.1, hfr]
      have k130 : m1.1 130 b = yN (gNh (zG A E).1 b) := by rw [(G1.2.2.2.1 b e he).2.2.2, hnh]
      refine ⟨_, ?_, c3, (((s1.tr (rAs_g m1 _) (S3 := sC) (fun x j q => q.elim id (fun q => sA3_C q))).tr (f2.g (S3 := sC) (fun x j q => by have : x = 134 := q; unfold sC; omega)) (S3 := sC) (fun _ _ => orSelf)).tr (rAs_g m2 _) (fun x j q => q.elim id (fun q => sA3_C q)))⟩
      unfold f_141
      rw [yis_0, pG_t, yBs, e1, hf, yBs]
      dsimp only
      rw [show yB (!false) = 1 from rfl, if_neg (show ¬ ((1 : Int32) = 0) by decide), yr_0_9, yBs, yis_118, pG_t, yBs, e35, yBs]
      dsimp only
      rw [yr_0_1, yBs, yis_3, pG_t, yBs, s50, yBs, yr_0_1, yBs, yr_0_9, yBs, yr_118_7, yBs, show pAi (yH κ (rAs m1 [])) 129 (yN b) = _ from ya_129 (by omega), yBs, rAs_row (by omega), k129, yis_3, pG_t, yBs, s51a, yBs, yr_0_1, yBs, yr_0_9, yBs, yis_118, pG_t, yBs, e2, yBs]
      dsimp only
      rw [yis_3, pG_t, yBs, e51, yBs, yr_0_9, yBs, yr_118_8, yBs, show pAi (yH κ (rAs m2 [(yN (gFr (zG A E).1 b)).toInt64, (gF1 (zG A E).1 b).toInt64])) 130 (yN b) = _ from ya_130 (by omega), yBs, rAs_row (by omega), f2.2 _ _ (by omega), rAs_row (by omega), k130]
    · obtain ⟨c0, g0⟩ := c.th 0
      obtain ⟨m1, e1, G1, c1, g1⟩ := m230z (κ := κ) c0 o
      have e19 := m238_19 (κ := κ) J G1
      rw [hb] at e19
      obtain ⟨a, ha, ea, hga⟩ := m237 (κ := κ) (m := rBs m1 [(yN (gFr (zG A E).1 b)).toInt64]) J (G1.gl (rBs_g m1 _) (fun x j q => by unfold sB3 at q; omega)) b 100000 hbl (by omega)
      obtain ⟨ee, hee⟩ := ge_of ha
      have k197 : m1.1 197 a = gF1 (zG A E).1 b := by
        rw [(G1.2.2.1 a ee hee).2.2.2.2.1, ← hga]
        unfold gBy; rw [getD_e hee]
      have k198 : m1.1 198 b = yN (gFr (zG A E).1 b) := by rw [(G1.2.2.1 b e he).2.2.2.2.2, hfr]
      have k195 : m1.1 195 (54 * b + 48) = yN (gNh (zG A E).1 b) := by rw [(G1.2.2.1 b e he).2.1, hnh]
      refine ⟨_, ?_, c1.row [(yN (gFr (zG A E).1 b)).toInt64, (gF1 (zG A E).1 b).toInt64], (g0.tr g1 (S3 := sR) (fun _ _ => orSelf)).tr (rBs_g m1 _) (fun x j q => q.elim id (fun q => sB3_R q))⟩
      have e37 : f_237 178 (yN b) (yH κ (rBs m1 [(yN (gFr (zG A E).1 b)).toInt64])) = some (gF1 (zG A E).1 b, yH κ (rBs m1 [(yN (gFr (zG A E).1 b)).toInt64])) := by
        unfold f_237
        rw [ea, yBs]
        dsimp only
        rw [yr_178_34, yBs, show pAi (yH κ (rBs m1 [(yN (gFr (zG A E).1 b)).toInt64])) 197 (yN a) = _ from ya_197 (by omega), yBs, rBs_row (by omega), k197]
      unfold f_238
      rw [yp_178_0, yBs, yis_178, pG_t, yBs, e1, hf, yBs]
      dsimp only
      rw [show yB (!false) = 1 from rfl, if_neg (show ¬ ((1 : Int32) = 0) by decide), e19, yBs]
      dsimp only
      rw [yp_178_1, yBs, rBs_0, yr_178_35, yBs, show pAi (yH κ (rBs m1 [])) 198 (yN b) = _ from ya_198 (by omega), yBs, rBs_row (by omega), k198, yis_178, pG_t, yBs, s165a, yBs, yis_178, pG_t, yBs, e37, yBs]
      dsimp only
      rw [yis_178, pG_t, yBs, s165b, yBs, yr_178_32, yBs, yN_lmul, yN_addl, show pAi (yH κ (rBs m1 [(yN (gFr (zG A E).1 b)).toInt64, (gF1 (zG A E).1 b).toInt64])) 195 (yN (54 * b + 48)) = _ from ya_195 (by omega), yBs, rBs_row (by omega), k195]
theorem z_towers : zCall (f_142 0) (f_239 178) := by
  intro κ A H K C D E F o
  obtain ⟨d, J⟩ := zG_J o
  have hl := J.len
  have oH := o.2.1.1
  cases hf : (zG A E).2 with
  | true =>
    refine ⟨-3, A, H, K, C, D, E, F, o, fun m c => ?_, fun m c => ?_⟩
    · obtain ⟨m1, e1, G1, g1, -⟩ := s137 (κ := κ) c o
      obtain ⟨c1, s1⟩ := c.ga oH g1 G1.2.2.2.2.2
      refine ⟨m1, ?_, c1, s1⟩
      unfold f_142
      rw [yis_0, pG_t, yBs, e1, hf, yBs]
      dsimp only
      rw [show yB (!true) = 0 from rfl, if_pos rfl]
    · obtain ⟨c0, g0⟩ := c.th 0
      obtain ⟨m1, e1, G1, c1, g1⟩ := m230z (κ := κ) c0 o
      refine ⟨m1, ?_, c1, g0.tr g1 (fun _ _ => orSelf)⟩
      unfold f_239
      rw [yp_178_0, yBs, yis_178, pG_t, yBs, e1, hf, yBs]
      dsimp only
      rw [show yB (!true) = 0 from rfl, if_pos rfl]
  | false =>
    generalize hN : gNo (zph A) E.1 E.2.1 (zG A E).1 (zG A E).1.length = N at *
    have oD : Ok A H K C [(yN N).toInt64] E F := ⟨o.1, o.2.1, o.2.2.1, o.2.2.2.1, by simp, o.2.2.2.2.2⟩
    refine ⟨yN (zG A E).1.length, A, H, K, C, [(yN N).toInt64], E, F, oD, fun m c => ?_, fun m c => ?_⟩
    · obtain ⟨m1, e1, G1, g1, hE⟩ := s137 (κ := κ) c o
      obtain ⟨fe, Ed, hC⟩ := hE hf
      obtain ⟨c1, s1⟩ := c.ga oH g1 G1.2.2.2.2.2
      have e40 := s40 (κ := κ) (m := rAs m1 []) J (G1.c (fun x j q => by rw [rAs_row (by omega)]) (by funext j; rw [rAs_2, if_neg (by omega)]) (fun j hj => by rw [rAs_row (by omega)]; exact G1.2.2.2.2.2 j hj)) (hC.c (rAs_row (by omega)) (rAs_row (by omega)))
      rw [hN] at e40
      refine ⟨_, ?_, c1.row oH [(yN N).toInt64], s1.tr (rAs_g m1 _) (fun x j q => q.elim id (fun q => sA3_C q))⟩
      unfold f_142
      rw [yis_0, pG_t, yBs, e1, hf, yBs]
      dsimp only
      rw [show yB (!false) = 1 from rfl, if_neg (show ¬ ((1 : Int32) = 0) by decide), yr_0_1, yBs, yis_3, pG_t, yBs, s50, yBs, yr_0_1, yBs, yr_0_9, yBs, yis_118, pG_t, yBs, e40, yBs]
      dsimp only
      rw [yis_3, pG_t, yBs, s51a, yBs, yr_0_9, yBs, yi_118_14, yBs, rAs_row (by omega), G1.1]
    · obtain ⟨c0, g0⟩ := c.th 0
      obtain ⟨m1, e1, G1, c1, g1⟩ := m230z (κ := κ) c0 o
      obtain ⟨m2, e2, G2, f2⟩ := m239_19 (κ := κ) J (zhw o) G1 c1.2.2.2.2.2.1.1.1 c1.2.2.2.2.2.1.1.2
      rw [hN] at e2
      have c2 := c1.fr (f2.g (fun _ _ => id)) (fun _ _ => sGr_Rs)
      refine ⟨_, ?_, c2.row [(yN N).toInt64], ((g0.tr g1 (S3 := sR) (fun _ _ => orSelf)).tr (f2.g (S3 := sR) (fun _ _ => sGr_R)) (S3 := sR) (fun _ _ => orSelf)).tr (rBs_g m2 _) (fun x j q => q.elim id (fun q => sB3_R q))⟩
      unfold f_239
      rw [yp_178_0, yBs, yis_178, pG_t, yBs, e1, hf, yBs]
      dsimp only
      rw [show yB (!false) = 1 from rfl, if_neg (show ¬ ((1 : Int32) = 0) by decide), e2, yBs]
      dsimp only
      rw [yp_178_1, yBs, rBs_0, yis_178, pG_t, yBs, s165a, yBs, yi_178_37, yBs, rBs_fl (by omega), G2.1]
