/-! ===== tower() ===== -/
theorem tS_le {f : Nat → Int32} : ∀ {d i g e : Nat}, tS f d i g = some e → e ≤ i + d
  | 0, i, g, e, h => by rw [tS] at h; simp at h
  | d + 1, i, g, e, h => by
    have ih : ∀ {g}, tS f d (i + 1) g = some e → e ≤ i + (d + 1) := fun q => by have := tS_le q; omega
    rw [tS] at h
    generalize (if i % 4 = 0 then 0 else g) = g' at h
    split at h
    · simp at h; omega
    · split at h
      · split at h
        · exact ih h
        · simp at h; omega
      · split at h
        · split at h
          · simp at h; omega
          · exact ih h
        · split at h
          · exact ih h
          · simp at h; omega
theorem tE_le {f : Nat → Int32} {n e : Nat} (h : tE f n 0 0 = some e) : e ≤ n := by
  unfold tE at h
  split at h
  next e' h' =>
    have := tS_le h'
    simp at h; omega
  · split at h
    · simp at h
    · simp at h; omega
theorem okH0 (H : zH) : okH (0, H.2) := ⟨Nat.zero_le _, fun j hj => absurd hj (Nat.not_lt_zero _)⟩
theorem z_tower : zCall (f_107 0) (f_179 178) := by
  intro κ A H K C D E F o
  have oC := o.2.2.2.1
  have hC := oC.1
  have e86 : ∀ m, Cl m A H K C D E F → f_86 1 (yH κ m) = _ := fun m c => s86 (κ := κ) c.2.2.2.1 oC
  have eRd : ∀ m, Rf m A H K C D E F → (yRd m C.1).1 178 11 = yN (4 * 0) ∧ (yRd m C.1).1 178 12 = yN C.1 ∧ (∀ j, j < C.1 → (yRd m C.1).1 183 j = C.2 j) := fun m c =>
    ⟨by rw [yRd_get, if_neg (by omega), if_pos (by omega)]; rfl, by rw [yRd_get, if_pos ⟨rfl, rfl⟩], fun j hj => by rw [(yRd_fr m _).2 _ _ (by unfold sRd; omega)]; exact c.2.2.2.1.2 j hj⟩
  have e173 : ∀ m, Rf m A H K C D E F → f_173 178 80 (yH κ m) = some (yN C.1, yH κ (yRd m C.1)) := fun m c => by
    have := m173 (κ := κ) (C := C) (p := 80) c.2.2.2.1.1 hC (by omega)
    rw [show min C.1 80 = C.1 by omega] at this
    exact this
  have ew : (if yN C.1 ≤ 0 then some 0 else some 1 : Option Int32) = some (if C.1 = 0 then 0 else 1) := by
    by_cases q : C.1 = 0
    · rw [if_pos q, if_pos (by rw [yN_lel (by omega) (by omega)]; omega)]
    · rw [if_neg q, if_neg (by rw [yN_lel (by omega) (by omega)]; omega)]
  have fr4 : ∀ {m m' : yM}, yFr sP4 m m' → Rf m A H K (0, C.2) D E F → Rf m' A H K (0, C.2) D E F ∧ yG sR m m' := fun f c => ⟨c.fr (f.g (fun _ _ => id)) (fun x j q => by unfold sP4 at q; unfold sRs; omega), f.g (fun x j q => by unfold sP4 at q; unfold sR; omega)⟩
  cases hE : tE C.2 C.1 0 0 with
  | some e =>
    have hC0 : 0 < C.1 := by
      rcases Nat.eq_zero_or_pos C.1 with q | q
      · rw [q, tE_n, if_pos (Or.inl rfl)] at hE; simp at hE
      · exact q
    refine ⟨-1 - yN e, A, H, K, (0, C.2), D, E, F, ⟨o.1, o.2.1, o.2.2.1, okC0 C, o.2.2.2.2⟩, fun m c => ?_, fun m c => ?_⟩
    · obtain ⟨c3, g3⟩ := c.tx0 o.2.1.1
      have hle : e ≤ C.1 := by
        exact tE_le hE
      have n1 : ¬ (yN e = -1) := by rw [yN_eqm (by omega)]; exact id
      refine ⟨_, ?_, c3, g3⟩
      unfold f_107 f_75
      rw [yr_0_0, yBs, e86 m c, hE, yBs]
      dsimp only
      rw [if_neg n1, yBs, yr_0_0, yBs, yis_1, pG_t, yBs, yp_1_1, yBs, yBs, if_neg n1, yBs]
    · obtain ⟨c0, g0⟩ := c.th 0
      obtain ⟨c1, g1⟩ := c0.rd C.1
      obtain ⟨q1, q2, q3⟩ := eRd _ c0
      rcases m179_24 (κ := κ) oC hC0 16 0 100000 _ (by omega) (by omega) (by omega) q1 q2 q3 with ⟨e', m', t', le', f', r'⟩ | ⟨N, m', t', -⟩
      · have ee : e' = e := by rw [Nat.mul_zero] at t'; rw [hE] at t'; simpa using t'.symm
        subst ee
        obtain ⟨c2, g2⟩ := fr4 f' c1
        refine ⟨m', ?_, c2, (g0.tr g1 (S3 := sR) (fun _ _ => orSelf)).tr g2 (fun _ _ => orSelf)⟩
        unfold f_179
        rw [yp_178_0, yBs, yis_178, pG_t, yBs, e173 _ c0, yBs]
        dsimp only
        rw [ew, yBs, if_neg (by omega), show f_179_24 100000 178 0 = f_179_24 100000 178 (yN 0) from rfl]
        rcases r' with r' | ⟨w, r', p', l'⟩
        · rw [r', yBs]
        · have k12 : m'.1 178 12 = yN C.1 := by rw [f'.2 _ _ (by unfold sP4; omega)]; exact q2
          rw [r', yBs]
          dsimp only
          rw [yi_178_11, yBs, yi_178_12, yBs, p', k12, if_neg (by rw [yN_le (by omega) (by omega)]; omega), yBs]
      · rw [Nat.mul_zero, hE] at t'; simp at t'
  | none =>
    have hN : ∃ N, ((C.1 = 0 ∧ N = 0) ∨ C.1 + 1 = 4 * N) ∧ N ≤ 16 := by
      rcases Nat.eq_zero_or_pos C.1 with q | q
      · exact ⟨0, Or.inl ⟨q, rfl⟩, by omega⟩
      · obtain ⟨g, hg⟩ := tE_all hE C.1 (Nat.le_refl _)
        rw [tE_n] at hg
        have h3 : C.1 % 4 = 3 := by
          by_cases z : C.1 = 0 ∨ C.1 % 4 = 3
          · rcases z with z | z
            · omega
            · exact z
          · rw [if_neg z] at hg; simp at hg
        obtain ⟨g', hg'⟩ := tE_all hE (C.1 - 1) (by omega)
        have := (tE_step hg' (by omega)).2.1
        exact ⟨(C.1 + 1) / 4, Or.inr (by omega), by omega⟩
    obtain ⟨N, hN, h16⟩ := hN
    obtain ⟨hok, hz⟩ := tN_ok oC hE hN h16
    have oE1 := o.2.2.2.2.2.1.1
    refine ⟨yN N, (tN C.2 N, N, 0, 0, -1, 0, 0), (0, H.2), K, (0, C.2), D, E, zF0, ⟨⟨⟨hok, hz, by show 0 < 4; omega, by show 0 < 4; omega⟩, by show 0 < E.2.2.1; omega⟩, okH0 H, o.2.2.1, okC0 C, o.2.2.2.2.1, o.2.2.2.2.2.1, okF0⟩, fun m c => ?_, fun m c => ?_⟩
    · have hz7 : ∀ j, 48 ≤ j → m.1 7 j = 0 := fun j hj => by rw [show m.1 7 = zth A from c.1.1.1]; exact o.1.1.2.1 j hj
      let m3 := yW (yR m 7 (fun j => if j < 48 then -1 else m.1 7 j)) 6 4 0
      have F3 : yFr (sT 6) m m3 := s88_f
      have T3 : Tow m3 6 (tI C.2 0) 0 := s88_t hz7
      have x3 : cTx m3 C := c.2.2.2.1.g (F3.g (fun _ _ => id)) (fun x j q => by unfold sT at q; omega)
      obtain ⟨m2, k, e4, t2, j4, f2⟩ := s87_6 (κ := κ) oC hE C.1 0 100000 m3 0 (by omega) (by omega) T3 ⟨by omega, by omega, fun _ r hr => by omega, fun _ => by omega⟩ x3
      have hk : k = N := tJ_end hE hN j4
      subst hk
      rw [tI_N hN h16] at t2
      let m4 := yW (yW (yW m2 5 1 0) 5 2 (-1)) 5 3 0
      have F4 : yFr (fun x _ => x = 5) m2 m4 := ((yFr.w (S := fun x _ => x = 5) m2 rfl).tr (yFr.w (S := fun x _ => x = 5) _ rfl) (S3 := fun x _ => x = 5) (fun _ _ => orSelf)).tr (yFr.w (S := fun x _ => x = 5) _ rfl) (fun _ _ => orSelf)
      have G4 : yG (fun x _ => 5 ≤ x ∧ x ≤ 10) m m4 := (((F3.wk (S3 := fun x _ => 5 ≤ x ∧ x ≤ 10) (fun x j q => by unfold sT at q; omega)).tr (f2.wk (S3 := fun x _ => 5 ≤ x ∧ x ≤ 10) (fun x j q => by unfold sT at q; omega)) (S3 := fun x _ => 5 ≤ x ∧ x ≤ 10) (fun _ _ => orSelf)).tr (F4.wk (S3 := fun x _ => 5 ≤ x ∧ x ≤ 10) (fun x j q => by have : x = 5 := q; omega)) (S3 := fun x _ => 5 ≤ x ∧ x ≤ 10) (fun _ _ => orSelf)).g (fun _ _ => id)
      have t4 : Tow m4 6 (tN C.2 k) k := t2.g (F4.g (fun _ _ => id)) (fun x j p q r => by have : x = 5 := r; omega)
      have c4 : Cl m4 (tN C.2 k, k, 0, 0, -1, 0, 0) H K C D E F := by
        refine c.fA o.2.1.1 G4 (fun x j q => Or.inr q) ⟨t4, ?_, ?_, ?_, fun q => absurd rfl q⟩
        · show (yW (yW (yW m2 5 1 0) 5 2 (-1)) 5 3 0).1 5 1 = _
          rw [yW_get, if_neg (by omega), yW_get, if_neg (by omega), yW_self, upd_eq]; rfl
        · show (yW (yW (yW m2 5 1 0) 5 2 (-1)) 5 3 0).1 5 2 = _
          rw [yW_get, if_neg (by omega), yW_self, upd_eq]
        · show (yW (yW (yW m2 5 1 0) 5 2 (-1)) 5 3 0).1 5 3 = _
          rw [yW_self, upd_eq]; rfl
      obtain ⟨m5, e5, c5, g5⟩ := w79 (κ := κ) c4 o.2.1.1
      have g6 : yG (fun x j => x = 11 ∧ j = 2) m5 (yW m5 11 2 0) := yG.w m5 ⟨rfl, rfl⟩
      have c6 : Cl (yW m5 11 2 0) (tN C.2 k, k, 0, 0, -1, 0, 0) (0, H.2) K C D E zF0 := by
        obtain ⟨q1, q2, nx, q3, q4, q5⟩ := c5.2.1
        refine c5.fH g6 (fun x j q => Or.inr (by omega)) ⟨by rw [yW_self, upd_eq]; rfl, fun i hi j hj => ?_, nx, q3, ?_, fun j hj => absurd hj (Nat.not_lt_zero _)⟩
        · rw [yW_row (by omega)]; exact q2 i hi j hj
        · rw [yW_get, if_neg (by omega)]; exact q4
      obtain ⟨c7, g7⟩ := c6.tx0 (Nat.zero_le _)
      refine ⟨_, ?_, c7, (((G4.wk (S3 := sC) (fun x j q => by unfold sC; omega)).tr g5 (S3 := sC) (fun x j q => q.elim id (fun q => by unfold sF5 at q; unfold sC; omega))).tr g6 (S3 := sC) (fun x j q => q.elim id (fun q => by unfold sC; omega))).tr g7 (fun _ _ => orSelf)⟩
      have e69 : f_69 5 (yH κ m2) = some (yH κ m4) := by
        unfold f_69
        rw [ys_p1 ysw_5, yBs, ys_p2 ysw_5, yBs, ys_p3 ysw_5, yBs]
      have e87 : f_87 6 1 (yH κ m) = some (yH κ m2) := by
        unfold f_87
        rw [yt_is ytw_6, pG_t, yBs, s88q, yBs]
        show ((f_87_6 100000 6 1 (yN 0) (yH κ m3)).bind _) = _
        rw [e4, yBs]
      have e42 : f_42 11 (yH κ m5) = some (yH κ (yW m5 11 2 0)) := by
        unfold f_42
        rw [yp_11_2, yBs]
      unfold f_107 f_75
      rw [yr_0_0, yBs, e86 m c, hE, yBs]
      dsimp only
      rw [if_pos rfl, yr_0_2, yBs, ys5_0, yBs, yr_0_0, yBs, yt_is ytw_6, pG_t, yBs, e87, yBs, yr_0_2, yBs, ys_is ysw_5, pG_t, yBs, e69, yBs, yr_0_10, yBs, yis_135, pG_t, yBs, e5, yBs, yr_0_3, yBs, yis_11, pG_t, yBs, e42, yBs, yBs, yr_0_0, yBs, yis_1, pG_t, yBs, yp_1_1, yBs, yBs, if_pos rfl, yr_0_2, yBs, ys5_0, yBs, yt_4 ytw_6, yBs, yBs, c7.1.1.2.1]
    · obtain ⟨c0, g0⟩ := c.th 0
      obtain ⟨c1, g1⟩ := c0.rd C.1
      obtain ⟨q1, q2, q3⟩ := eRd _ c0
      have key : ∃ m', f_179_24 100000 178 (yN 0) (if C.1 = 0 then 0 else 1) (yH κ (yRd (yW m 178 0 0) C.1)) = some (.inl (yN N, yH κ m')) ∧ m'.1 178 11 = yN C.1 ∧ m'.1 178 12 = yN C.1 ∧ (∀ b, b < 3 * N → m'.1 184 b = tV C.2 b) ∧ Rf m' A H K (0, C.2) D E F ∧ yG sR (yRd (yW m 178 0 0) C.1) m' := by
        by_cases z : C.1 = 0
        · have hN0 : N = 0 := by omega
          subst hN0
          exact ⟨_, by rw [if_pos z]; exact m179_e (fu := 99999), by rw [q1, z], q2, fun b hb => by omega, c1, yG.rf _⟩
        · rcases m179_24 (κ := κ) oC (by omega) 16 0 100000 _ (by omega) (by omega) (by omega) q1 q2 q3 with ⟨e', m', t', -⟩ | ⟨N', m', t', n', l', r', p', v', u', f'⟩
          · rw [Nat.mul_zero, hE] at t'; simp at t'
          · have : N' = N := by omega
            subst this
            obtain ⟨c2, g2⟩ := fr4 f' c1
            exact ⟨m', by rw [if_neg z]; exact r', p', by rw [f'.2 _ _ (by unfold sP4; omega)]; exact q2, fun b hb => v' b (by omega) hb, c2, g2⟩
      obtain ⟨m1, e1, k11, k12, v1, c2, g2⟩ := key
      obtain ⟨m2, e2, a2, b2, d2, f2⟩ := m167 (κ := κ) (m := m1)
      obtain ⟨m3, e3, a3, b3, f3⟩ := m179_84 (κ := κ) h16 (3 * N) 0 100000 m2 (by omega) (by omega)
      have G3 : yG (fun x _ => x = 180) m1 (yW m3 180 48 (yN N)) := ((f2.tr f3 (S3 := fun x _ => x = 180) (fun _ _ => orSelf)).tr (yFr.w (S := fun x _ => x = 180) m3 rfl) (S3 := fun x _ => x = 180) (fun _ _ => orSelf)).g (fun _ _ => id)
      have c3 : Rf (yW m3 180 48 (yN N)) (tN C.2 N, N, 0, 0, -1, 0, 0) H K (0, C.2) D E F := by
        have k : ∀ j, j ≠ 48 → (yW m3 180 48 (yN N)).1 180 j = m3.1 180 j := fun j q => by rw [yW_get, if_neg (by omega)]
        refine c2.fA G3 (fun x j q => Or.inr q) ⟨fun b hb => ?_, ?_, ?_, ?_, ?_, fun q => absurd rfl q⟩
        · rw [Nat.zero_add, k _ (by omega)]
          show m3.1 180 b = tN C.2 N b
          unfold tN
          by_cases z : b < 3 * N
          · rw [if_pos z, a3 b (Nat.zero_le _) z, f2.2 _ _ (by omega)]; exact v1 b z
          · rw [if_neg z, if_pos hb, b3 b (by omega)]; exact a2 b hb
        · rw [yW_self, upd_eq]
        · rw [k _ (by omega), b3 _ (by omega), b2 _ (by omega) (by omega) (by omega)]; rfl
        · rw [k _ (by omega), b3 _ (by omega), b2 _ (by omega) (by omega) (by omega)]; rfl
        · rw [k _ (by omega), b3 _ (by omega)]; exact d2
      obtain ⟨m4, e4, c4, g4⟩ := m245 (κ := κ) c3
      have g5 : yG (fun x j => x = 178 ∧ j = 28) m4 (yW m4 178 28 0) := yG.w m4 ⟨rfl, rfl⟩
      have c5 : Rf (yW m4 178 28 0) (tN C.2 N, N, 0, 0, -1, 0, 0) (0, H.2) K (0, C.2) D E zF0 :=
        c4.fH g5 (fun x j q => Or.inr (Or.inl q)) ⟨by rw [yW_self, upd_eq]; rfl, fun j hj => absurd hj (Nat.not_lt_zero _)⟩
      refine ⟨_, ?_, c5, ((((g0.tr g1 (S3 := sR) (fun _ _ => orSelf)).tr g2 (S3 := sR) (fun _ _ => orSelf)).tr G3 (S3 := sR) (fun x j q => q.elim id (fun q => by unfold sR; omega))).tr g4 (S3 := sR) (fun x j q => q.elim id (fun q => by unfold sF7 at q; unfold sR; omega))).tr g5 (fun x j q => q.elim id (fun q => by unfold sR; omega))⟩
      unfold f_179
      rw [yp_178_0, yBs, yis_178, pG_t, yBs, e173 _ c0, yBs]
      dsimp only
      rw [ew, yBs, show f_179_24 100000 178 0 = f_179_24 100000 178 (yN 0) from rfl, e1, yBs]
      dsimp only
      rw [yi_178_11, yBs, yi_178_12, yBs, k11, k12, if_pos (by rw [yN_le (by omega) (by omega)]; omega), yr_178_3, yBs, e2, yBs, show f_179_84 100000 178 (yN N) 0 = f_179_84 100000 178 (yN N) (yN 0) from rfl, e3, yBs, yr_178_3, yBs, show pSi (yH κ m3) 180 48 (yN N) = _ from yr_s (i := 48) yAr_180 (by omega), yBs, yis_178, pG_t, yBs, e4, yBs]
      dsimp only
      rw [yp_178_28, yBs]
