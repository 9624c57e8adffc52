/-! ===== players() ===== -/
theorem ng80 : ∀ k : Fin 81, ¬ ((0 : Int32) ≤ -1 - yN k.val) := by decide +kernel
theorem digN {C : zC} (o : okC C) {j : Nat} (hj : j < C.1) (hd : isD (C.2 j) = true) : ∃ h, h ≤ 9 ∧ C.2 j - 48 = yN h := by
  obtain ⟨k, hk, e⟩ := o.2 j hj
  rw [e] at hd ⊢
  rw [isD_n hk] at hd
  have := of_decide_eq_true hd
  exact ⟨k - 48, by omega, yN_subl (by omega)⟩
theorem Cl.tx0 {m : yM} {A : zT} {H : zH} {K : zK} {C : zC} {D : List Int64} {E : zE} {F : zF} (c : Cl m A H K C D E F) (o : H.1 ≤ 15) : Cl (yW m 1 1 0) A H K (0, C.2) D E F ∧ yG sC m (yW m 1 1 0) :=
  ⟨c.fC o (yG.w (S := fun x j => x = 1 ∧ j = 1) m ⟨rfl, rfl⟩) (fun x j q => Or.inr (Or.inl q.1)) ⟨by rw [yW_self, upd_eq]; rfl, fun j hj => absurd hj (Nat.not_lt_zero _)⟩, yG.w m (by unfold sC; omega)⟩
theorem okC0 (C : zC) : okC (0, C.2) := ⟨Nat.zero_le _, fun j hj => absurd hj (Nat.not_lt_zero _)⟩
theorem z_players : zCall (f_109 0) (f_180 178) := by
  intro κ A H K C D E F o
  have oC := o.2.2.2.1
  have hC := oC.1
  have hk := ld_rng C.2 (min C.1 4) 0
  have e177 : ∀ (m : yM) (w : Bool), m.1 178 11 = yN (ld C.2 (min C.1 4) 0) → m.1 178 12 = yN (min C.1 4) → f_177 178 (yN C.1) 4 (yB w) (yH κ m) = _ := fun m w h1 h2 => m177 (κ := κ) (m := m) (w := w) (p := 4) h1 h2 (by omega) (by omega) hC (by omega)
  have e110 : ∀ m, Cl m A H K C D E F → f_110 0 (yH κ m) = _ := fun m c => s110 (κ := κ) c.2.2.2.1 hC
  have eRd : ∀ m, Rf m A H K C D E F → ∃ m', f_180_13 100000 178 (yN C.1) (yN 0) (yH κ (yRd m (min C.1 4))) = some (yN (ld C.2 (min C.1 4) 0), yH κ m') ∧ m'.1 178 11 = yN (ld C.2 (min C.1 4) 0) ∧ m'.1 178 12 = yN (min C.1 4) ∧ (∀ j, j < ld C.2 (min C.1 4) 0 → m'.1 184 j = C.2 j - 48) ∧ Rf m' A H K (0, C.2) D E F ∧ yG sR m m' := by
    intro m c
    obtain ⟨c1, g1⟩ := c.rd (min C.1 4)
    obtain ⟨m', e', q', a', -, f'⟩ := m180_13 (κ := κ) (C := C) (N := min C.1 4) (p := yN C.1) (by omega) hC (by omega) (min C.1 4) 0 100000 (yRd m (min C.1 4)) (by omega) (by omega) (by rw [yRd_get, if_neg (by omega), if_pos (by omega)]; rfl) (by rw [yRd_get, if_pos ⟨rfl, rfl⟩]) (fun j hj => by rw [(yRd_fr m _).2 _ _ (by unfold sRd; omega)]; exact c.2.2.2.1.2 j hj)
    refine ⟨m', e', q', ?_, fun j hj => a' j (Nat.zero_le _) hj, c1.fr (f'.g (fun _ _ => id)) (fun x j q => by unfold sP4 at q; unfold sRs; omega), g1.tr (f'.g (S3 := sR) (fun x j q => by unfold sP4 at q; unfold sR; omega)) (fun _ _ => orSelf)⟩
    rw [f'.2 _ _ (by unfold sP4; omega), yRd_get, if_pos ⟨rfl, rfl⟩]
  by_cases hok : ld C.2 (min C.1 4) 0 = min C.1 4 ∧ C.1 ≠ 0 ∧ C.1 ≤ 4
  · obtain ⟨h1, h2, h3⟩ := hok
    have hm : min C.1 4 = C.1 := by omega
    rw [h1] at hk
    have hdig : ∀ j, j < C.1 → ∃ h, h ≤ 9 ∧ C.2 j - 48 = yN h := fun j hj => digN oC hj (hk.2.2 j (Nat.zero_le _) (by omega))
    refine ⟨yN C.1, (A.1, A.2.1, 0, A.2.2.2), H, K, (0, C.2), D, (E.1, E.2.1, C.1, fun j => C.2 j - 48, E.2.2.2.2), F, ⟨⟨⟨o.1.1.1, o.1.1.2.1, by show 0 < 4; omega, o.1.1.2.2.2⟩, by show 0 < C.1; omega⟩, o.2.1, o.2.2.1, okC0 C, o.2.2.2.2.1, ⟨by show 1 ≤ C.1; omega, h3, hdig, o.2.2.2.2.2.1.2.2.2⟩, o.2.2.2.2.2.2⟩, fun m c => ?_, fun m c => ?_⟩
    · have G1 : yFr (fun x j => x = 0 ∧ j = 16) m (yW m 0 16 (yN C.1)) := yFr.w m ⟨rfl, rfl⟩
      obtain ⟨m1, e1, a1, -, f1⟩ := s109_23 (κ := κ) (p := -1) h3 C.1 0 100000 (yW m 0 16 (yN C.1)) (by omega) (by omega) (by rw [yW_self, upd_eq]) (fun j hj => by rw [yW_row (by omega)]; exact c.2.2.2.1.2 j hj)
      have G2 : yFr (fun x j => (x = 0 ∧ j = 16) ∨ x = 158) m m1 := G1.tr f1 (fun x j q => q)
      have c1 : Cl m1 A H K C D (E.1, E.2.1, C.1, fun j => C.2 j - 48, E.2.2.2.2) F := by
        obtain ⟨q1, q2, q3, q4, q5, q6⟩ := c.2.2.2.2.2.1
        have k : ∀ x j, ¬ ((x = 0 ∧ j = 16) ∨ x = 158) → m1.1 x j = m.1 x j := fun x j q => G2.2 x j q
        refine c.fE o.2.1.1 (G2.g (fun _ _ => id)) (fun x j q => Or.inr (by omega)) ⟨⟨?_, ?_⟩, ⟨?_, fun j hj => ?_⟩, ⟨?_, fun j hj => ?_⟩, ?_, fun j hj => ?_, fun j hj => ?_⟩
        · rw [k _ _ (by omega)]; exact q1.1
        · rw [k _ _ (by omega)]; exact q1.2
        · rw [f1.2 _ _ (by omega), yW_self, upd_eq]
        · exact a1 j (Nat.zero_le _) hj
        · rw [k _ _ (by omega)]; exact q3.1
        · rw [k _ _ (by omega)]; exact q3.2 j hj
        · exact q4.g (G2.g (fun _ _ => id)) (fun x j p q r => by omega)
        · rw [k _ _ (by omega)]; exact q5 j hj
        · rw [k _ _ (by omega)]; exact q6 j hj
      have g2 : yG (fun x j => x = 5 ∧ j = 1) m1 (yW m1 5 1 0) := yG.w m1 ⟨rfl, rfl⟩
      have c2 : Cl (yW m1 5 1 0) (A.1, A.2.1, 0, A.2.2.2) H K C D (E.1, E.2.1, C.1, fun j => C.2 j - 48, E.2.2.2.2) F := by
        refine c1.fA o.2.1.1 g2 (fun x j q => Or.inr (by omega)) ⟨c1.1.1.g g2 (fun x j p q r => by omega), ?_, ?_, ?_, fun q => ⟨?_, ?_⟩⟩
        · rw [yW_self, upd_eq]; rfl
        · rw [(g2 _ _ (by omega)).1]; exact c1.1.2.2.1
        · rw [(g2 _ _ (by omega)).1]; exact c1.1.2.2.2.1
        · rw [(g2 _ _ (by omega)).1]; exact (c1.1.2.2.2.2 q).1
        · rw [(g2 _ _ (by omega)).1]; exact (c1.1.2.2.2.2 q).2
      obtain ⟨c3, g3⟩ := c2.tx0 o.2.1.1
      refine ⟨_, ?_, c3, ((G2.g (S3 := sC) (fun x j q => by unfold sC; omega)).tr g2 (S3 := sC) (fun x j q => q.elim id (fun q => by unfold sC; omega))).tr g3 (fun _ _ => orSelf)⟩
      unfold f_109 f_75
      rw [yis_0, pG_t, yBs, e110 m c, if_pos h1, if_neg h2, if_pos h3, yBs]
      dsimp only
      rw [if_pos rfl, yr_0_0, yBs, yi_1_1, yBs, c.2.2.2.1.1, yp_0_16, yBs, show (0 : Int32) = yN 0 from rfl, e1, yBs, yr_0_2, yBs, show (yN 0 : Int32) = 0 from rfl, yp_5_1, yBs, yBs, yr_0_0, yBs, yis_1, pG_t, yBs, yp_1_1, yBs, yBs, if_pos rfl, yi_0_16, yBs, yBs, c3.2.2.2.2.2.1.2.1.1]
    · obtain ⟨c0, g0⟩ := c.th 0
      obtain ⟨m1, e1, k11, k12, a1, c1, g1⟩ := eRd _ c0
      obtain ⟨m2, e2, a2, -, f2⟩ := m180_79 (κ := κ) h3 C.1 0 100000 m1 (by omega) (by omega)
      have g3 : yG (fun x j => x = 182 ∨ (x = 178 ∧ j = 6)) m1 (yW m2 178 6 (yN C.1)) := (f2.g (S3 := fun x j => x = 182 ∨ (x = 178 ∧ j = 6)) (fun x j q => Or.inl q)).tr (yG.w (S := fun x j => x = 182 ∨ (x = 178 ∧ j = 6)) m2 (Or.inr ⟨rfl, rfl⟩)) (fun _ _ => orSelf)
      have c3 : Rf (yW m2 178 6 (yN C.1)) A H K (0, C.2) D (E.1, E.2.1, C.1, fun j => C.2 j - 48, E.2.2.2.2) F := by
        obtain ⟨q1, q2, q3⟩ := c1.2.2.2.2.2.1
        refine c1.fE g3 (fun x j q => Or.inr (by omega)) ⟨⟨?_, ?_⟩, ⟨?_, fun j hj => ?_⟩, ⟨?_, fun j hj => ?_⟩⟩
        · rw [(g3 _ _ (by omega)).1]; exact q1.1
        · rw [(g3 _ _ (by omega)).1]; exact q1.2
        · rw [yW_self, upd_eq]
        · rw [yW_row (by omega), a2 j (Nat.zero_le _) hj]; exact a1 j (by rw [h1, hm]; exact hj)
        · rw [(g3 _ _ (by omega)).1]; exact q3.1
        · rw [(g3 _ _ (by omega)).1]; exact q3.2 j hj
      have g4 : yG (fun x j => x = 180 ∧ j = 49) (yW m2 178 6 (yN C.1)) (yW (yW m2 178 6 (yN C.1)) 180 49 0) := yG.w _ ⟨rfl, rfl⟩
      have c4 : Rf (yW (yW m2 178 6 (yN C.1)) 180 49 0) (A.1, A.2.1, 0, A.2.2.2) H K (0, C.2) D (E.1, E.2.1, C.1, fun j => C.2 j - 48, E.2.2.2.2) F := by
        obtain ⟨q1, q2, q3, q4, q5, q6⟩ := c3.1
        refine c3.fA g4 (fun x j q => Or.inr q.1) ⟨fun b hb => ?_, ?_, ?_, ?_, ?_, fun q => ⟨?_, ?_⟩⟩
        · rw [(g4 _ _ (by omega)).1]; exact q1 b hb
        · rw [(g4 _ _ (by omega)).1]; exact q2
        · rw [yW_self]; exact upd_eq _ _ _
        · rw [(g4 _ _ (by omega)).1]; exact q4
        · rw [(g4 _ _ (by omega)).1]; exact q5
        · rw [(g4 _ _ (by omega)).1]; exact (q6 q).1
        · rw [(g4 _ _ (by omega)).1]; exact (q6 q).2
      refine ⟨_, ?_, c4, ((g0.tr g1 (S3 := sR) (fun _ _ => orSelf)).tr g3 (S3 := sR) (fun x j q => q.elim id (fun q => by unfold sR; omega))).tr g4 (fun x j q => q.elim id (fun q => by unfold sR; omega))⟩
      unfold f_180
      rw [yp_178_0, yBs, yis_178, pG_t, yBs, show f_173 178 4 (yH κ (yW m 178 0 0)) = _ from m173 (p := 4) c0.2.2.2.1.1 hC (by omega), yBs]
      dsimp only
      rw [show f_180_13 100000 178 (yN C.1) 0 = f_180_13 100000 178 (yN C.1) (yN 0) from rfl, e1, yBs]
      dsimp only
      rw [if_neg (by rw [yN_lel (by omega) (by omega)]; omega), yBs, yis_178, pG_t, yBs, show (1 : Int32) = yB true from rfl, e177 m1 true k11 k12, yBs]
      dsimp only
      rw [if_pos h3, h1, decide_eq_true rfl, if_pos (show (true && true) = true from rfl), if_pos (show (0 : Int32) ≤ 0 by decide), hm, show f_180_79 100000 178 (yN C.1) 0 = f_180_79 100000 178 (yN C.1) (yN 0) from rfl, e2, yBs, yp_178_6, yBs, yr_178_3, yBs, show pSi (yH κ (yW m2 178 6 (yN C.1))) 180 49 0 = _ from yr_s (i := 49) yAr_180 (by omega), yBs]
  · have hv : ∃ x, x ≤ 4 ∧ (if ld C.2 (min C.1 4) 0 = min C.1 4 then (if C.1 = 0 then 0 else if C.1 ≤ 4 then -1 else 4) else yN (ld C.2 (min C.1 4) 0)) = yN x ∧ (if C.1 ≤ 4 then (if (decide (0 < ld C.2 (min C.1 4) 0) && decide (ld C.2 (min C.1 4) 0 = min C.1 4)) = true then 0 else -1 - yN (ld C.2 (min C.1 4) 0)) else if (decide (0 < ld C.2 (min C.1 4) 0) && decide (ld C.2 (min C.1 4) 0 = min C.1 4)) = true then -1 - yN 4 else if ld C.2 (min C.1 4) 0 < 4 then -1 - yN (ld C.2 (min C.1 4) 0) else -1 - yN 4) = -1 - yN x := by
      generalize ld C.2 (min C.1 4) 0 = k at *
      by_cases q1 : k = min C.1 4
      · rw [if_pos q1]
        by_cases q2 : C.1 = 0
        · refine ⟨0, by omega, by rw [if_pos q2]; rfl, ?_⟩
          have : k = 0 := by omega
          subst this
          rw [if_pos (by omega), if_neg (by simp)]
        · have q3 : ¬ C.1 ≤ 4 := fun q => hok ⟨q1, q2, q⟩
          have : k = 4 := by omega
          subst this
          refine ⟨4, by omega, by rw [if_neg q2, if_neg q3]; rfl, ?_⟩
          rw [if_neg q3, if_pos (by simp; omega)]
      · rw [if_neg q1]
        refine ⟨k, by omega, rfl, ?_⟩
        have b : (decide (0 < k) && decide (k = min C.1 4)) = false := by rw [decide_eq_false q1, Bool.and_false]
        rw [b]
        by_cases q3 : C.1 ≤ 4
        · rw [if_pos q3, if_neg (by decide)]
        · rw [if_neg q3, if_neg (by decide), if_pos (by omega)]
    obtain ⟨x, hx4, hx1, hx2⟩ := hv
    refine ⟨-1 - yN x, A, H, K, (0, C.2), D, E, F, ⟨o.1, o.2.1, o.2.2.1, okC0 C, o.2.2.2.2⟩, fun m c => ?_, fun m c => ?_⟩
    · obtain ⟨c3, g3⟩ := c.tx0 o.2.1.1
      refine ⟨_, ?_, c3, g3⟩
      unfold f_109 f_75
      have n1 : ¬ (yN x = -1) := by rw [yN_eqm (by omega)]; exact id
      rw [yis_0, pG_t, yBs, e110 m c, hx1, yBs]
      dsimp only
      rw [if_neg n1, yBs, yr_0_0, yBs, yis_1, pG_t, yBs, yp_1_1, yBs, yBs, if_neg n1, yBs]
    · obtain ⟨c0, g0⟩ := c.th 0
      obtain ⟨m1, e1, k11, k12, a1, c1, g1⟩ := eRd _ c0
      refine ⟨m1, ?_, c1, g0.tr g1 (fun _ _ => orSelf)⟩
      have ew : (if yN (ld C.2 (min C.1 4) 0) ≤ 0 then some 0 else some 1 : Option Int32) = some (yB (decide (0 < ld C.2 (min C.1 4) 0))) := by
        by_cases q : 0 < ld C.2 (min C.1 4) 0
        · rw [if_neg (by rw [yN_lel (by omega) (by omega)]; omega), decide_eq_true q]; rfl
        · rw [if_pos (by rw [yN_lel (by omega) (by omega)]; omega), decide_eq_false q]; rfl
      unfold f_180
      rw [yp_178_0, yBs, yis_178, pG_t, yBs, show f_173 178 4 (yH κ (yW m 178 0 0)) = _ from m173 (p := 4) c0.2.2.2.1.1 hC (by omega), yBs]
      dsimp only
      rw [show f_180_13 100000 178 (yN C.1) 0 = f_180_13 100000 178 (yN C.1) (yN 0) from rfl, e1, yBs]
      dsimp only
      rw [ew, yBs, yis_178, pG_t, yBs, e177 m1 _ k11 k12, yBs]
      dsimp only
      rw [hx2, if_neg (ng80 ⟨x, by omega⟩)]
