/-! ===== play() ===== -/
theorem sP6_Cs {x j : Nat} (h : sP6 x j) : sCs x j := by unfold sP6 at h; unfold sCs; omega
theorem sP6_C {x j : Nat} (h : sP6 x j) : sC x j := by unfold sP6 at h; unfold sC; omega
theorem sP7_Rs {x j : Nat} (h : sP7 x j) : sRs x j := by unfold sP7 at h; unfold sRs; omega
theorem sP7_R {x j : Nat} (h : sP7 x j) : sR x j := by unfold sP7 at h; unfold sR; omega
def b64 (b : Bool) : Int64 := if b = true then 1 else 0
theorem b64_e (b : Bool) : (yB b).toInt64 = b64 b := by cases b <;> rfl
theorem gP_ok {H : zH} {K : zK} {C : zC} {D : List Int64} {E : zE} {F : zF} : ∀ {r : List Nat} {A : zT}, Ok A H K C D E F → Ok (gP E r A).2.2 H K C D E F
  | [], A, o => o
  | c :: r, A, o => by
    rw [gP]
    split
    · split
      next h => exact gP_ok (o.mv h)
      · exact o
    · exact o
theorem gT_ok {A : zT} {H : zH} {K : zK} {C : zC} {D : List Int64} {E : zE} {F : zF} {cs : List Nat} (_h : ∀ c, c ∈ cs → c ≤ 2992) (o : Ok A H K C D E F) : Ok (gT E cs A).2.2 (gH H A (gT E cs A).1) K C D E F := by
  have o1 : Ok (gT E cs A).2.2 H K C D E F := by
    unfold gT
    split
    · exact gP_ok o
    · exact o
  unfold gH
  split
  · exact o1
  · exact ⟨o1.1, o.2.1.push o.1.1, o1.2.2⟩
theorem gT_le (E : zE) (cs : List Nat) (A : zT) : (gT E cs A).1 ≤ cs.length := by
  unfold gT
  split
  · exact gP_le E cs A
  · exact Nat.zero_le _
theorem z_play : zCall (f_134 0) (f_222 178) := by
  intro κ A H K C D E F o
  have oC := o.2.2.2.1
  have hC := oC.1
  have o0 : Ok A H K (0, C.2) D E F := ⟨o.1, o.2.1, o.2.2.1, okC0 C, o.2.2.2.2⟩
  have hcsb := pS_cs (f := ch C) (d := min 70 C.1 - 0) (i := 0) (st := 0) (v := 0) ⟨by omega, fun q => by omega, fun q => by omega, fun q => by omega⟩
  have hcb : ∀ c, c ∈ (pE (ch C) (min 70 C.1) 0 0 0).2.2 → c ≤ 2992 := hcsb.1
  have hcl : (pE (ch C) (min 70 C.1) 0 0 0).2.2.length ≤ 70 := by have := hcsb.2; unfold pE; omega
  have hWle := pW_le C
  have eRd : ∀ m, Rf m A H K C D E F → Rf (yW (yRd m (min C.1 70)) 178 31 0) A H K (0, C.2) D E F ∧ yG sR m (yW (yRd m (min C.1 70)) 178 31 0) ∧ (yW (yRd m (min C.1 70)) 178 31 0).1 178 11 = yN 0 ∧ (yW (yRd m (min C.1 70)) 178 31 0).1 178 12 = yN (min 70 C.1) ∧ (∀ j, j < C.1 → (yW (yRd m (min C.1 70)) 178 31 0).1 183 j = C.2 j) ∧ Mr (yW (yRd m (min C.1 70)) 178 31 0) [] ∧ f_173 178 70 (yH κ m) = some (yN C.1, yH κ (yRd m (min C.1 70))) := by
    intro m c
    obtain ⟨c1, g1⟩ := c.rd (min C.1 70)
    have g2 : yG (fun x j => x = 178 ∧ j = 31) (yRd m (min C.1 70)) (yW (yRd m (min C.1 70)) 178 31 0) := yG.w _ ⟨rfl, rfl⟩
    refine ⟨c1.fr g2 (fun x j q => by unfold sRs; omega), g1.tr g2 (fun x j q => q.elim id (fun q => by unfold sR; omega)), ?_, ?_, fun j hj => ?_, ⟨?_, fun j c q => by simp at q⟩, m173 (κ := κ) (C := C) (p := 70) c.2.2.2.1.1 hC (by omega)⟩
    · rw [yW_get, if_neg (by omega), yRd_get, if_neg (by omega), if_pos (by omega)]; rfl
    · rw [yW_get, if_neg (by omega), yRd_get, if_pos ⟨rfl, rfl⟩, Nat.min_comm]
    · rw [yW_row (by omega), (yRd_fr m _).2 _ _ (by unfold sRd; omega)]; exact c.2.2.2.1.2 j hj
    · rw [yW_self, upd_eq]; rfl
  have ew : (if yN C.1 ≤ 0 then some 0 else some 1 : Option Int32) = some (if C.1 = 0 then 0 else 1) := by
    by_cases q : C.1 = 0
    · rw [if_pos q, if_pos (by rw [yN_lel (by omega) (by omega)]; omega)]
    · rw [if_neg q, if_neg (by rw [yN_lel (by omega) (by omega)]; omega)]
  have e177 : ∀ (m : yM) (w : Bool) (e : Nat), m.1 178 11 = yN e → m.1 178 12 = yN (min 70 C.1) → e ≤ min 70 C.1 → f_177 178 (yN C.1) 70 (yB w) (yH κ m) = _ := fun m w e h1 h2 h3 => m177 (κ := κ) (m := m) (w := w) (p := 70) h1 h2 h3 (by omega) hC (by omega)
  have fr7 : ∀ {m m' : yM}, yFr sP7 m m' → Rf m A H K (0, C.2) D E F → Rf m' A H K (0, C.2) D E F ∧ yG sR m m' := fun f c => ⟨c.fr (f.g (fun _ _ => id)) (fun _ _ => sP7_Rs), f.g (fun _ _ => sP7_R)⟩
  by_cases hok : pOk C
  · have key : ∀ m, Rf m A H K C D E F → ∃ m2, f_222_29 100000 178 (yN C.1) 1 (if C.1 = 0 then 0 else 1) (yH κ (yW (yRd m (min C.1 70)) 178 31 0)) = some (1, yH κ m2) ∧ m2.1 178 11 = yN (min 70 C.1) ∧ m2.1 178 12 = yN (min 70 C.1) ∧ Mr m2 (pE (ch C) (min 70 C.1) 0 0 0).2.2 ∧ Rf m2 A H K (0, C.2) D E F ∧ yG sR m m2 := by
      intro m c
      obtain ⟨c1, g1, k11, k12, kT, kM, -⟩ := eRd m c
      generalize yW (yRd m (min C.1 70)) 178 31 0 = m1 at *
      by_cases z : C.1 = 0
      · have hz : min 70 C.1 = 0 := by omega
        have pz : (pE (ch C) (min 70 C.1) 0 0 0).2.2 = [] := by rw [hz, pE_n]
        rw [pz, if_pos z]
        exact ⟨m1, m222_e (fu := 99999), by rw [hz]; exact k11, k12, kM, c1, g1⟩
      · rw [if_neg z]
        obtain ⟨h1, h2, h3⟩ := hok
        have h3' : (pE (ch C) (min 70 C.1) 0 0 0).2.1 = 5 := by
          rcases h3 with h3 | h3
          · exact absurd h3 z
          · exact h3
        rcases m222_29 (κ := κ) (q := yN C.1) oC (N := min 70 C.1) (by omega) (by omega) (min 70 C.1) 0 100000 m1 0 [] 1 (by omega) (by omega) (by omega) (by simp) k11 k12 kT kM with ⟨e, m', r1, r2, r3, r4, r5⟩ | ⟨e, m', r1, r2, r3, r4, r5⟩
        · exfalso
          rcases r4 with r4 | ⟨-, r4, -⟩
          · rw [h1] at r4; simp at r4
          · exact r4 h3'
        · rcases r4 with ⟨r4, -⟩ | ⟨-, -, rfl, r4⟩
          · rw [h1] at r4; simp at r4
          · obtain ⟨c2, g2⟩ := fr7 r5 c1
            exact ⟨m', r1, r2, by rw [r5.2 _ _ (by unfold sP7; omega)]; exact k12, r4, c2, g1.tr g2 (fun _ _ => orSelf)⟩
    generalize hcs : (pE (ch C) (min 70 C.1) 0 0 0).2.2 = cs at hcb hcl key
    have hgo : Ok (gT E cs A).2.2 (gH H A (gT E cs A).1) K (0, C.2) [b64 (gT E cs A).2.1, b64 (decide (zho (gT E cs A).2.2 ≠ 0))] E F := by
      obtain ⟨m0, hm0⟩ : ∃ m0 : Ok (gT E cs A).2.2 (gH H A (gT E cs A).1) K (0, C.2) D E F, True := ⟨gT_ok hcb o0, trivial⟩
      exact ⟨m0.1, m0.2.1, m0.2.2.1, m0.2.2.2.1, by simp, m0.2.2.2.2.2⟩
    refine ⟨yN (gT E cs A).1, (gT E cs A).2.2, gH H A (gT E cs A).1, K, (0, C.2), [b64 (gT E cs A).2.1, b64 (decide (zho (gT E cs A).2.2 ≠ 0))], E, F, hgo, fun m c => ?_, fun m c => ?_⟩
    · obtain ⟨m1, e1, -, M1, F1⟩ := s46 (κ := κ) oC c.2.2.2.1
      rw [hcs] at M1
      have e1' := e1 hok
      have c1 : Cl m1 A H K C D E F := c.fr o.2.1.1 (F1.g (fun _ _ => id)) (fun _ _ => sP6_Cs)
      obtain ⟨c2, g2⟩ := c1.tx0 o.2.1.1
      have M2 : Mc (yW m1 1 1 0) cs := M1.g (yG.w (S := fun x _ => x = 1) m1 rfl) (fun x j q => by have : x = 1 := q; omega)
      have e68 := s68 (κ := κ) c2 o0
      obtain ⟨m3, e3, c3, o3, g3⟩ := s134r (κ := κ) hcl hcb c2 o0 M2
      have c4 := c3.row o3.2.1.1 [b64 (gT E cs A).2.1, b64 (decide (zho (gT E cs A).2.2 ≠ 0))]
      have c5 := c3.row o3.2.1.1 [b64 (gT E cs A).2.1]
      have e68' := s68 (κ := κ) c5 (show Ok (gT E cs A).2.2 (gH H A (gT E cs A).1) K (0, C.2) [b64 (gT E cs A).2.1] E F from ⟨o3.1, o3.2.1, o3.2.2.1, o3.2.2.2.1, by simp, o3.2.2.2.2.2⟩)
      refine ⟨_, ?_, c4, (((F1.g (S3 := sC) (fun _ _ => sP6_C)).tr g2 (S3 := sC) (fun _ _ => orSelf)).tr g3 (S3 := sC) (fun _ _ => orSelf)).tr (rAs_g _ _) (fun x j q => q.elim id (fun q => sA3_C q))⟩
      have ew18 : ((if yB (decide (zho A ≠ 0)) = 0 then some 0 else (pFr (yH κ (yW m1 1 1 0)) 0 11 11).bind fun x20 => (pFi (yH κ (yW m1 1 1 0)) x20 4 1).bind fun x21 => (if x21 ≤ 0 then some 0 else some 1)) : Option Int32) = some (yB (decide (zho A ≠ 0) && decide (cs ≠ []))) := by
        by_cases q : zho A ≠ 0
        · rw [decide_eq_true q, yB_t, if_neg (by decide), yr_0_11, yBs, yi_146_1, yBs, M2.1, Bool.true_and]
          cases cs with
          | nil => rw [if_pos (by decide)]; rfl
          | cons x r => rw [if_neg (by rw [yN_lel (by omega) (by omega)]; simp)]; rfl
        · rw [decide_eq_false q, yB_f, if_pos rfl]; rfl
      have eb : ∀ b : Bool, (if yB b = 0 then some 0 else some 1 : Option Int64) = some (b64 b) := fun b => by cases b <;> rfl
      unfold f_134 f_75
      rw [yr_0_11, yBs, yr_0_0, yBs, yis_146, pG_t, yBs, e1', yBs]
      dsimp only
      rw [yr_0_0, yBs, yis_1, pG_t, yBs, yp_1_1, yBs, yBs, if_pos rfl, yr_0_2, yBs, ys_is ysw_5, pG_t, yBs, e68, yBs]
      dsimp only
      rw [ew18, yBs, e3, yBs]
      dsimp only
      rw [yr_0_1, yBs, yis_3, pG_t, yBs, s50, yBs, yr_0_1, yBs, eb, yBs, yis_3, pG_t, yBs, s51a, yBs, yr_0_1, yBs, yr_0_2, yBs, ys_is ysw_5, pG_t, yBs, e68', yBs]
      dsimp only
      rw [eb, yBs, yis_3, pG_t, yBs, s51b, yBs]
    · obtain ⟨c0, g0⟩ := c.th 0
      obtain ⟨-, -, -, -, -, -, e173⟩ := eRd _ c0
      obtain ⟨m2, r1, r2, r3, r4, c2, g2⟩ := key _ c0
      obtain ⟨m3, e3, c3, a3, g3⟩ := m216 (κ := κ) c2 o.2.1.1
      have M3 : Mr m3 cs := r4.g g3 (fun x j q => by unfold sH9 at q; omega)
      obtain ⟨m4, e4, c4, o4, g4⟩ := m222r (κ := κ) hcl hcb c3 o0 M3
      have a4 : rSt m4 193 (54 * H.1) A := a3.g g4 (fun j _ _ q => by unfold sMk sM at q; omega)
      have gle : (gT E cs A).1 ≤ 70 := Nat.le_trans (gT_le E cs A) hcl
      have fin : ∃ m5, ((if yN (gT E cs A).1 ≤ 0 then some (yH κ m4) else (pG (pIs (yH κ m4) 178 12)).bind fun _ => (f_217 178 (yH κ m4)).bind fun h30 => some h30) : Option xH) = some (yH κ m5) ∧ Rf m5 (gT E cs A).2.2 (gH H A (gT E cs A).1) K (0, C.2) D E F ∧ yG sR m4 m5 := by
        by_cases q : (gT E cs A).1 = 0
        · refine ⟨m4, by rw [if_pos (by rw [yN_lel (by omega) (by omega)]; omega)], ?_, yG.rf _⟩
          rw [show gH H A (gT E cs A).1 = H from if_pos q]; exact c4
        · obtain ⟨m5, e5, h5, g5⟩ := m217 (κ := κ) c4.2.1 o.2.1.1 a4
          refine ⟨m5, ?_, ?_, g5.wk (fun x j q => by unfold sH9 at q; unfold sR; omega)⟩
          · rw [if_neg (by rw [yN_lel (by omega) (by omega)]; omega), yis_178, pG_t, yBs, e5, yBs]
          · rw [show gH H A (gT E cs A).1 = hPush H A from if_neg q]
            exact c4.fH g5 (fun x j q => Or.inr q) h5
      obtain ⟨m5, e5, c5, g5⟩ := fin
      have c6 := c5.row [b64 (gT E cs A).2.1, b64 (decide (zho (gT E cs A).2.2 ≠ 0))]
      refine ⟨_, ?_, c6, ((((g0.tr g2 (S3 := sR) (fun _ _ => orSelf)).tr g3 (S3 := sR) (fun x j q => q.elim id (fun q => by unfold sH9 at q; unfold sR; omega))).tr g4 (S3 := sR) (fun x j q => q.elim id (fun q => sMk_R q))).tr g5 (S3 := sR) (fun _ _ => orSelf)).tr (rBs_g _ _) (fun x j q => q.elim id (fun q => sB3_R q))⟩
      have h4 := o4.1.1.2.2.2
      have r50 : (rBs m5 [b64 (gT E cs A).2.1]).1 180 50 = yN (zho (gT E cs A).2.2) := by rw [rBs_row (by omega)]; exact c5.1.2.2.2.1
      have ew33 : (if yB (!(gT E cs A).2.1) = 0 then some 1 else some 0 : Option Int32) = some (yB (gT E cs A).2.1) := by cases (gT E cs A).2.1 <;> rfl
      have ew42 : (if yN (zho (gT E cs A).2.2) ≤ 0 then some 0 else some 1 : Option Int32) = some (yB (decide (zho (gT E cs A).2.2 ≠ 0))) := by
        by_cases q : zho (gT E cs A).2.2 = 0
        · rw [if_pos (by rw [q]; decide), decide_eq_false (fun z => z q)]; rfl
        · rw [if_neg (by rw [yN_lel (by omega) (by omega)]; omega), decide_eq_true q]; rfl
      have hm : C.1 ≤ 70 := hok.2.1
      unfold f_222
      rw [yp_178_0, yBs, yis_178, pG_t, yBs, e173, yBs]
      dsimp only
      rw [yp_178_31, yBs, ew, yBs, r1, yBs]
      dsimp only
      rw [yis_178, pG_t, yBs, show (1 : Int32) = yB true from rfl, e177 m2 true _ r2 r3 (Nat.le_refl _), yBs]
      dsimp only
      rw [if_pos hm, decide_eq_true rfl, if_pos (show (true && true) = true from rfl), if_pos (show (0 : Int32) ≤ 0 by decide), yis_178, pG_t, yBs, e3, yBs, show yB true = (1 : Int32) from rfl, e4, yBs]
      dsimp only
      rw [e5, yBs, yp_178_1, yBs, rBs_0, ew33, yBs, s163, yBs]
      dsimp only
      rw [yis_178, pG_t, yBs, b64_e, s165a, yBs, yr_178_3, yBs, show pAi (yH κ (rBs m5 [b64 (gT E cs A).2.1])) 180 50 = _ from yr_a (i := 50) yAr_180 (by omega), yBs, r50, ew42, yBs, s163, yBs]
      dsimp only
      rw [yis_178, pG_t, yBs, b64_e, s165b, yBs]
  · have key : ∀ m, Rf m A H K C D E F → ∃ m2 e w, f_222_29 100000 178 (yN C.1) 1 (if C.1 = 0 then 0 else 1) (yH κ (yW (yRd m (min C.1 70)) 178 31 0)) = some (yB w, yH κ m2) ∧ m2.1 178 11 = yN e ∧ m2.1 178 12 = yN (min 70 C.1) ∧ e ≤ min 70 C.1 ∧ (if C.1 ≤ 70 then (if (w && decide (e = min 70 C.1)) = true then 0 else -1 - yN e) else if (w && decide (e = min 70 C.1)) = true then -1 - yN 70 else if e < 70 then -1 - yN e else -1 - yN 70) = -1 - yN (pW C) ∧ Rf m2 A H K (0, C.2) D E F ∧ yG sR m m2 := by
      intro m c
      obtain ⟨c1, g1, k11, k12, kT, kM, -⟩ := eRd m c
      generalize yW (yRd m (min C.1 70)) 178 31 0 = m1 at *
      have z : C.1 ≠ 0 := fun z => hok ⟨by rw [show min 70 C.1 = 0 by omega, pE_n], by omega, Or.inl z⟩
      rw [if_neg z]
      have fin : ∀ e (w : Bool), e ≤ min 70 C.1 → pW C = e → (w && decide (e = min 70 C.1)) = false → (if C.1 ≤ 70 then (if (w && decide (e = min 70 C.1)) = true then 0 else -1 - yN e) else if (w && decide (e = min 70 C.1)) = true then -1 - yN 70 else if e < 70 then -1 - yN e else -1 - yN 70) = -1 - yN (pW C) := by
        intro e w h1 h2 h3
        rw [h3, h2]
        by_cases q : C.1 ≤ 70
        · rw [if_pos q, if_neg (by decide)]
        · rw [if_neg q, if_neg (by decide)]
          by_cases q2 : e < 70
          · rw [if_pos q2]
          · rw [if_neg q2, show e = 70 by omega]
      rcases m222_29 (κ := κ) (q := yN C.1) oC (N := min 70 C.1) (by omega) (by omega) (min 70 C.1) 0 100000 m1 0 [] 1 (by omega) (by omega) (by omega) (by simp) k11 k12 kT kM with ⟨e, m', r1, r2, r3, r4, r5⟩ | ⟨e, m', r1, r2, r3, r4, r5⟩
      · obtain ⟨c2, g2⟩ := fr7 r5 c1
        refine ⟨m', e, false, r1, r2, by rw [r5.2 _ _ (by unfold sP7; omega)]; exact k12, r3, fin e false r3 ?_ rfl, c2, g1.tr g2 (fun _ _ => orSelf)⟩
        unfold pW
        rcases r4 with r4 | ⟨r4, -, rfl⟩
        · rw [r4]
        · rw [r4]
      · obtain ⟨c2, g2⟩ := fr7 r5 c1
        refine ⟨m', e, true, r1, r2, by rw [r5.2 _ _ (by unfold sP7; omega)]; exact k12, r3, ?_, c2, g1.tr g2 (fun _ _ => orSelf)⟩
        rcases r4 with ⟨r4, r6⟩ | ⟨r4, r6, rfl, -⟩
        · refine fin e true r3 (by unfold pW; rw [r4]) ?_
          rw [decide_eq_false (by omega)]; rfl
        · have q : ¬ C.1 ≤ 70 := fun q => hok ⟨r4, q, Or.inr r6⟩
          rw [if_neg q, decide_eq_true rfl, if_pos (show (true && true) = true from rfl)]
          unfold pW
          rw [r4]
          dsimp only
          rw [show min 70 C.1 = 70 by omega]
    refine ⟨-1 - yN (pW C), A, H, K, (0, C.2), D, E, F, o0, fun m c => ?_, fun m c => ?_⟩
    · obtain ⟨m1, -, e1, M1, F1⟩ := s46 (κ := κ) oC c.2.2.2.1
      have e1' := e1 hok
      have c1 : Cl m1 A H K C D E F := c.fr o.2.1.1 (F1.g (fun _ _ => id)) (fun _ _ => sP6_Cs)
      obtain ⟨c2, g2⟩ := c1.tx0 o.2.1.1
      refine ⟨_, ?_, c2, (F1.g (S3 := sC) (fun _ _ => sP6_C)).tr g2 (fun _ _ => orSelf)⟩
      unfold f_134 f_75
      rw [yr_0_11, yBs, yr_0_0, yBs, yis_146, pG_t, yBs, e1', yBs]
      dsimp only
      rw [yr_0_0, yBs, yis_1, pG_t, yBs, yp_1_1, yBs, yBs, if_neg (by rw [yN_eqm (by omega)]; exact id)]
    · obtain ⟨c0, g0⟩ := c.th 0
      obtain ⟨-, -, -, -, -, -, e173⟩ := eRd _ c0
      obtain ⟨m2, e, w, r1, r2, r3, r4, r5, c2, g2⟩ := key _ c0
      refine ⟨m2, ?_, c2, g0.tr g2 (fun _ _ => orSelf)⟩
      unfold f_222
      rw [yp_178_0, yBs, yis_178, pG_t, yBs, e173, yBs]
      dsimp only
      rw [yp_178_31, yBs, ew, yBs, r1, yBs]
      dsimp only
      rw [yis_178, pG_t, yBs, e177 m2 w e r2 r3 r4, yBs]
      dsimp only
      rw [r5, if_neg (ng80 ⟨pW C, by omega⟩)]
