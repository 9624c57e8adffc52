/-! ===== games: the class looks at a tower found ===== -/
def CG (m : yM) (s : gS) : Prop := m.1 118 14 = yN s.1.length ∧ m.1 118 15 = yB s.2 ∧ cNk m s.1 ∧ cNa m s.1 ∧ cSl m s.1.length ∧ ∀ j, 48 ≤ j → m.1 120 j = 0
theorem CG.c {m m' : yM} {s : gS} (h : CG m s) (a : ∀ x j, ((x = 118 ∧ (j = 14 ∨ j = 15)) ∨ (126 ≤ x ∧ x ≤ 130)) → m'.1 x j = m.1 x j) (b : m'.2 124 = m.2 124) (z : ∀ j, 48 ≤ j → m'.1 120 j = 0) : CG m' s := by
  obtain ⟨h1, h2, h3, h4, ⟨T, h5, h6⟩, -⟩ := h
  refine ⟨by rw [a _ _ (by omega)]; exact h1, by rw [a _ _ (by omega)]; exact h2, fun k e he => by rw [b]; exact h3 k e he, fun k e he => ?_, ⟨T, fun s hs => by rw [a _ _ (by omega)]; exact h5 s hs, by rw [b]; exact h6⟩, z⟩
  rw [a _ _ (by omega), a _ _ (by omega), a _ _ (by omega), a _ _ (by omega)]
  exact h4 k e he
section GG
variable {κ : yK}
theorem s25 {m : yM} {i : Nat} {x : zN} (hi : i < 400) (ox : nOk x) (hk : kW (fun w => m.2 124 (3 * i + w)) x.1) (h130 : m.1 130 i = yN x.2) (hz : ∀ j, 48 ≤ j → m.1 120 j = 0) : ∃ m', f_25 118 (yN i) (yH κ m) = some (yH κ m') ∧ Tow m' 119 x.1 x.2 ∧ yFr (sT 119) m m' := by
  have hn := ox.1.1
  have lp : ∀ (D b fu : Nat) (m : yM) (N : Nat), b + D = 3 * x.2 → D < fu → kW (fun w => m.2 124 (3 * i + w)) x.1 → m.1 130 i = yN x.2 → Tow m 119 (fun j => if j < b then x.1 j else if j < 48 then -1 else 0) N → b / 3 ≤ N → N ≤ (b + 2) / 3 → (∀ j, j < b → x.1 j ≠ -1 → j / 3 < N) → ∃ m', f_25_9 fu 118 (yN i) (yN b) (yH κ m) = some (yH κ m') ∧ Tow m' 119 x.1 x.2 ∧ yFr (sT 119) m m' := by
    intro D
    induction D with
    | zero =>
      intro b fu m N hb hf hk h130 ht h1 h2 h3
      obtain ⟨fu, rfl⟩ : ∃ k, fu = k + 1 := ⟨fu - 1, by omega⟩
      have hN : N = x.2 := by omega
      have hx : (fun j => if j < b then x.1 j else if j < 48 then -1 else 0) = x.1 := funext fun j => by
        by_cases q : j < b
        · rw [if_pos q]
        · rw [if_neg q]
          by_cases z : j < 48
          · rw [if_pos z, ox.1.2.2.1 j (by omega) z]
          · rw [if_neg z, ox.2 j (by omega)]
      rw [hx, hN] at ht
      refine ⟨m, ?_, ht, yFr.rf m⟩
      rw [f_25_9, yr_118_8, yBs, show pAi (yH κ m) 130 (yN i) = _ from ya_130 hi, yBs, h130, yN_lmul, if_pos (by rw [yN_le (by omega) (by omega)]; omega)]
    | succ D ih =>
      intro b fu m N hb hf hk h130 ht h1 h2 h3
      obtain ⟨fu, rfl⟩ : ∃ k, fu = k + 1 := ⟨fu - 1, by omega⟩
      have hb48 : b < 48 := by omega
      rw [f_25_9, yr_118_8, yBs, show pAi (yH κ m) 130 (yN i) = _ from ya_130 hi, yBs, h130, yN_lmul, if_neg (by rw [yN_le (by omega) (by omega)]; omega), yis_118, pG_t, yBs, s24 hi hb48 hk (ox.v b hb48), yBs]
      dsimp only
      by_cases q : x.1 b = -1
      · rw [if_pos q, yBs, yN_addl]
        refine ih (b + 1) fu m N (by omega) (by omega) hk h130 ?_ ?_ (by omega) (fun j hj hne => ?_)
        · have : (fun j => if j < b + 1 then x.1 j else if j < 48 then -1 else 0) = (fun j => if j < b then x.1 j else if j < 48 then -1 else 0) := funext fun j => by
            by_cases z : j < b
            · rw [if_pos z, if_pos (by omega)]
            · rw [if_neg z]
              by_cases y : j = b
              · subst y; rw [if_pos (by omega), if_pos hb48, q]
              · rw [if_neg (by omega)]
          rw [this]; exact ht
        · by_cases z : b % 3 = 2
          · have hl := ox.1.2.2.2 (b / 3) (by omega)
            have hb2 : tHas x.1 (3 * (b / 3) + 2) = false := by
              rw [tHas_in (by omega), show 3 * (b / 3) + 2 = b by omega, q]; rfl
            unfold tBl at hl
            rw [hb2] at hl
            have : tHas x.1 (3 * (b / 3)) = true ∨ tHas x.1 (3 * (b / 3) + 1) = true := by
              cases h5 : tHas x.1 (3 * (b / 3)) with
              | true => exact Or.inl rfl
              | false =>
                cases h6 : tHas x.1 (3 * (b / 3) + 1) with
                | true => exact Or.inr rfl
                | false => rw [h5, h6] at hl; exact absurd hl (by decide)
            rcases this with h5 | h5
            · have := h3 (3 * (b / 3)) (by omega) (tHas_ne h5); omega
            · have := h3 (3 * (b / 3) + 1) (by omega) (tHas_ne h5); omega
          · omega
        · by_cases y : j = b
          · subst y; exact absurd q hne
          · exact h3 j (by omega) hne
      · rw [if_neg q, yr_118_1, yBs, yt_is ytw_119, pG_t, yBs]
        obtain ⟨m1, e1, t1, f1⟩ := s92 (κ := κ) (b := b) (v := x.1 b) ytw_119 ht (by omega) hb48 h1
        rw [e1, yBs, yBs, yN_addl]
        have hu : upd (fun j => if j < b then x.1 j else if j < 48 then -1 else 0) b (x.1 b) = (fun j => if j < b + 1 then x.1 j else if j < 48 then -1 else 0) := funext fun j => by
          by_cases y : j = b
          · subst y; rw [upd_eq, if_pos (by omega)]
          · rw [upd_ne _ _ y]
            by_cases z : j < b
            · rw [if_pos z, if_pos (by omega)]
            · rw [if_neg z, if_neg (show ¬ j < b + 1 by omega)]
        rw [hu] at t1
        obtain ⟨m2, e2, t2, f2⟩ := ih (b + 1) fu m1 (max N (b / 3 + 1)) (by omega) (by omega) (by rw [f1.1]; exact hk) (by rw [f1.2 _ _ (by unfold sT; omega)]; exact h130) t1 (by omega) (by omega) (fun j hj hne => by
          by_cases y : j = b
          · subst y; omega
          · have := h3 j (by omega) hne; omega)
        exact ⟨m2, e2, t2, f1.tr f2 (fun _ _ => orSelf)⟩
  obtain ⟨m1, e1, t1, f1⟩ := s88 (κ := κ) (m := m) ytw_119
  have hx0 : (fun j => if j < 48 then -1 else m.1 (119 + 1) j) = (fun j => if j < 0 then x.1 j else if j < 48 then -1 else 0) := funext fun j => by
    rw [if_neg (Nat.not_lt_zero j)]
    by_cases q : j < 48
    · rw [if_pos q, if_pos q]
    · rw [if_neg q, if_neg q]; exact hz j (by omega)
  rw [hx0] at t1
  obtain ⟨m2, e2, t2, f2⟩ := lp (3 * x.2) 0 100000 m1 0 (by omega) (by omega) (by rw [f1.1]; exact hk) (by rw [f1.2 _ _ (by unfold sT; omega)]; exact h130) t1 (by omega) (by omega) (fun j hj => absurd hj (Nat.not_lt_zero j))
  refine ⟨m2, ?_, t2, f1.tr f2 (fun _ _ => orSelf)⟩
  unfold f_25
  rw [yr_118_1, yBs, yt_is ytw_119, pG_t, yBs, e1, yBs, show f_25_9 100000 118 (yN i) 0 (yH κ m1) = _ from e2, yBs]
/-- a safe move of the tower in work -/
theorem s20 {m : yM} {r x : zN} {i d mv ec : Nat} {s : gS} {p q t0 t1 : Int32} (J : gJ r d s) (hf : s.2 = false) (hi : s.1[i]? = some (x, p, q, d)) (hG : CG m s) (ht : Tow m 119 x.1 x.2) (hs : gSf true t0 t1 x mv = true) (hm : mv < 480) (he : m.1 118 13 = yN ec) (hec : ec < 50400) :
    ∃ m', f_20 118 (yN i) (yN mv) (yH κ m) = some (yH κ m') ∧ CG m' (gSt true t0 t1 i x d s mv) ∧ Tow m' 119 x.1 x.2 ∧ gF m m' ∧ (∀ j, m'.1 132 j = m.1 132 j) ∧ (∀ j, j ≠ ec → m'.1 133 j = m.1 133 j) ∧ ((gSt true t0 t1 i x d s mv).2 = false → ∃ t, gLk (gSt true t0 t1 i x d s mv).1 (gNx x mv) = some t ∧ m'.1 118 13 = yN (ec + 1) ∧ m'.1 133 ec = yN (mv * 1024 + t)) := by
  have ox := (J.nod i _ hi).1
  have hil := ge_lt hi
  have hl := J.len
  have hn := ox.1.1
  obtain ⟨-, hc, h2⟩ := gSf_c hs
  obtain ⟨g1, g2, g3, g4, g5, g6, g7⟩ := tCg_f ox.1 hc
  dsimp only at g1 g2 g4 g5 hn ox
  have hb48 := tHas_lt g1
  obtain ⟨c14, c15, cK, cA, cS, cZ⟩ := hG
  have oN := gNx_ok ox hs
  let m1 := yRl m 125 (va_cpy (m.2 124) (m.2 125) (3 * i) 0 3)
  have K1 : kW (m1.2 125) x.1 := by
    have e : m1.2 125 = va_cpy (m.2 124) (m.2 125) (3 * i) 0 3 := yRl_eq _ _ _
    rw [e]
    refine (cK i _ hi).cw (fun w hw => ?_)
    unfold va_cpy
    rw [if_pos ⟨Nat.zero_le _, by omega⟩, Nat.sub_zero]
  have G1 : gF m m1 := ⟨fun _ _ _ => rfl, fun y j z => by show (yRl m 125 _).2 y j = _; rw [yRl_ne _ _ (by omega)]⟩
  have L1 : m1.2 124 = m.2 124 := yRl_ne _ _ (by omega)
  obtain ⟨m2, e2, K2, a2, b2, G2⟩ := s23 (κ := κ) (b := mv / 10) (v := -1) hb48 (Or.inl rfl) K1
  obtain ⟨m3, e3, K3, a3, b3, G3⟩ := s23 (κ := κ) (b := tLd x.1 x.2 mv) (v := x.1 (mv / 10)) g4 (ox.v _ hb48) K2
  have i3 : m3.1 = m.1 := by rw [a3, a2]; rfl
  have l3 : m3.2 124 = m.2 124 := by rw [b3, b2, L1]
  have K3' : kW (m3.2 125) (gNx x mv).1 := K3
  have G03 : gF m m3 := (G1.tr G2).tr G3
  have C3 : CG m3 s := CG.c ⟨c14, c15, cK, cA, cS, cZ⟩ (fun y j _ => by rw [i3]) l3 (fun j hj => by rw [i3]; exact cZ j hj)
  have T3 : Tow m3 119 x.1 x.2 := by unfold Tow; rw [i3]; exact ht
  have oL : nodO s.1 := fun j e h => (J.nod j e h).1
  have st : f_20 118 (yN i) (yN mv) (yH κ m) = ((f_26 118 (yH κ m3)).bind fun (x20, h19) => (if x20 = (-1) then (pP h19 118 2 15 (.int 1)).bind fun h48 => some h48 else (pFi h19 118 2 14).bind fun x22 => ((if x22 ≤ yN s.1.length then some (h19) else (pDiv (yN (tLd x.1 x.2 mv)) 3).bind fun x29 => (pG (pIs h19 118 2)).bind fun _ => (f_21 118 x20 (yN i) (yN mv) (x29 + 1) h19).bind fun h31 => some (h31) : Option (xH))).bind fun (h27 : xH) => (pFi h27 118 2 13).bind fun x32 => (pFr h27 118 2 11).bind fun x33 => (pLen h27 x33).bind fun x34 => ((if x34 ≤ x32 then some (h27) else (pFr h27 118 2 11).bind fun x42 => (pFi h27 118 2 13).bind fun x43 => (pP h27 118 2 13 (.int (x43 + 1))).bind fun h44 => (pSi h44 x42 x43 ((yN mv * 1024) + x20)).bind fun h45 => some (h45) : Option (xH))).bind fun (h40 : xH) => some h40)) := by
    unfold f_20
    rw [yi_118_14, yBs, c14, yr_118_1, yBs, yt_is ytw_119, pG_t, yBs, s103 ytw_119 ht (by omega) (by omega) (by omega), yBs]
    dsimp only
    rw [yr_118_2, yBs, yr_118_3, yBs, yN_lmul, show pCpy (yH κ m) 124 (yN (3 * i)) 125 0 3 = some (yH κ m1) from yh_cpyl (sp := 3 * i) (dp := 0) (c := 3) (n := 1200) (n2 := 3) rfl rfl (by omega) (by omega) (by omega) (by omega), yBs, yp_div (by omega) (by omega) (by decide), yBs, yis_118, pG_t, yBs, e2, yBs, yr_118_1, yBs, yt_0 ytw_119, yBs, yBs, yt_a1 ytw_119 hb48, yBs, a2, show m1.1 (119 + 1) = x.1 from ht.1, yis_118, pG_t, yBs, e3, yBs, yis_118, pG_t, yBs]
  have tail : ∀ (m' : yM) (t : Nat), t < 400 → m'.1 118 13 = yN ec → ((pFi (yH κ m') 118 2 13).bind fun x32 => (pFr (yH κ m') 118 2 11).bind fun x33 => (pLen (yH κ m') x33).bind fun x34 => ((if x34 ≤ x32 then some (yH κ m') else (pFr (yH κ m') 118 2 11).bind fun x42 => (pFi (yH κ m') 118 2 13).bind fun x43 => (pP (yH κ m') 118 2 13 (.int (x43 + 1))).bind fun h44 => (pSi h44 x42 x43 ((yN mv * 1024) + yN t)).bind fun h45 => some (h45) : Option (xH))).bind fun (h40 : xH) => some h40) = some (yH κ (yW (yW m' 118 13 (yN (ec + 1))) 133 ec (yN (mv * 1024 + t)))) := fun m' t ht h => by
    rw [yi_118_13, yBs, h, yr_118_11, yBs, show pLen (yH κ m') 133 = some (yN 50400) from yh_len (t := 0) rfl (by omega), yBs, if_neg (by rw [yN_le (by omega) (by omega)]; omega), yBs, yBs, yN_addl, yp_118_13, yBs, yN_mull, yN_add, yst_133 hec, yBs, yBs]
  have tl : ∀ (m' : yM) (t : Nat) (s' : gS), CG m' s' → Tow m' 119 x.1 x.2 → gF m m' → (∀ j, m'.1 132 j = m.1 132 j) → (∀ j, m'.1 133 j = m.1 133 j) → CG (yW (yW m' 118 13 (yN (ec + 1))) 133 ec (yN (mv * 1024 + t))) s' ∧ Tow (yW (yW m' 118 13 (yN (ec + 1))) 133 ec (yN (mv * 1024 + t))) 119 x.1 x.2 ∧ gF m (yW (yW m' 118 13 (yN (ec + 1))) 133 ec (yN (mv * 1024 + t))) ∧ (∀ j, (yW (yW m' 118 13 (yN (ec + 1))) 133 ec (yN (mv * 1024 + t))).1 132 j = m.1 132 j) ∧ (∀ j, j ≠ ec → (yW (yW m' 118 13 (yN (ec + 1))) 133 ec (yN (mv * 1024 + t))).1 133 j = m.1 133 j) ∧ (yW (yW m' 118 13 (yN (ec + 1))) 133 ec (yN (mv * 1024 + t))).1 118 13 = yN (ec + 1) ∧ (yW (yW m' 118 13 (yN (ec + 1))) 133 ec (yN (mv * 1024 + t))).1 133 ec = yN (mv * 1024 + t) := fun m' t s' hG hT hF h132 h133 => by
    refine ⟨hG.c (fun y j z => ?_) rfl (fun j hj => ?_), hT.g ((yG.w (S := fun y _ => y = 118 ∨ y = 133) m' (Or.inl rfl)).tr (yG.w (S := fun y _ => y = 118 ∨ y = 133) _ (Or.inr rfl)) (S3 := fun y _ => y = 118 ∨ y = 133) (fun _ _ => orSelf)) (fun y j h1 h2 h3 => by omega), (hF.tr (gF.w (by omega))).tr (gF.w (by omega)), fun j => ?_, fun j hj => ?_, ?_, ?_⟩
    · rw [yW_get, if_neg (by omega), yW_get, if_neg (by omega)]
    · rw [yW_row (by omega), yW_row (by omega)]; exact hG.2.2.2.2.2 j hj
    · rw [yW_row (by omega), yW_row (by omega)]; exact h132 j
    · rw [yW_get, if_neg (by omega), yW_row (by omega)]; exact h133 j
    · rw [yW_row (by omega), yW_self, upd_eq]
    · rw [yW_self, upd_eq]
  rcases s26 (κ := κ) (L := s.1) (x := gNx x mv) (by rw [i3]; exact c14) hl C3.2.2.1 C3.2.2.2.2.1 K3' oN oL J.dup with ⟨t, hq, e⟩ | ⟨hq, h4, e⟩ | ⟨hq, h4, m4, e, k14, kS, kN, kK, k5, kI, G4⟩
  · have hst : gSt true t0 t1 i x d s mv = s := by unfold gSt; rw [if_neg (fun z => by rw [hq] at z; simp at z)]
    obtain ⟨et, het, -⟩ := gLk_s hq
    have htl := ge_lt het
    obtain ⟨r1, r2, r3, r4, r5, r6, r7⟩ := tl m3 t s C3 T3 G03 (fun j => by rw [i3]) (fun j => by rw [i3])
    rw [hst]
    refine ⟨_, ?_, r1, r2, r3, r4, r5, fun _ => ⟨t, hq, r6, r7⟩⟩
    rw [st, e, yBs]
    dsimp only
    rw [if_neg (by rw [yN_eqm (by omega)]; exact id), yi_118_14, yBs, i3, c14, if_pos (by rw [yN_le (by omega) (by omega)]; exact Nat.le_refl _), yBs]
    exact tail m3 t (by omega) (by rw [i3]; exact he)
  · have hst : gSt true t0 t1 i x d s mv = (s.1, true) := by unfold gSt; rw [if_pos ⟨hf, hs, hq⟩, if_pos h4]
    rw [hst]
    refine ⟨yW m3 118 15 1, ?_, ⟨?_, ?_, fun k e he => ?_, fun k e he => ?_, ?_, fun j hj => ?_⟩, ?_, G03.tr (gF.w (by omega)), fun j => ?_, fun j _ => ?_, fun z => by simp at z⟩
    · rw [st, e, yBs]
      dsimp only
      rw [if_pos rfl, yp1_118_15, yBs]
    · rw [yW_get, if_neg (by omega), i3]; exact c14
    · rw [yW_self, upd_eq]; rfl
    · exact C3.2.2.1 k e he
    · rw [yW_row (by omega), yW_row (by omega), yW_row (by omega), yW_row (by omega)]; exact C3.2.2.2.1 k e he
    · obtain ⟨T, hT, hP⟩ := C3.2.2.2.2.1
      exact ⟨T, fun s hs => by rw [yW_row (by omega)]; exact hT s hs, hP⟩
    · rw [yW_row (by omega)]; exact C3.2.2.2.2.2 j hj
    · exact T3.g (yG.w (S := fun y _ => y = 118) m3 rfl) (fun y j h1 h2 h3 => by omega)
    · rw [yW_row (by omega), i3]
    · rw [yW_row (by omega), i3]
  · have hst : gSt true t0 t1 i x d s mv = (s.1 ++ [(gNx x mv, yN i, yN mv, d + 1)], false) := by unfold gSt; rw [if_pos ⟨hf, hs, hq⟩, if_neg (by omega)]
    have h129 : m4.1 129 i + 1 = yN (d + 1) := by rw [kI _ _ (by omega), i3, (cA i _ hi).2.2.1, yN_addl]
    let m5 := yW (yW (yW (yW m4 127 s.1.length (yN i)) 128 s.1.length (yN mv)) 129 s.1.length (yN (d + 1))) 130 s.1.length (yN (tNn x.1 x.2))
    have e5 : f_21 118 (yN s.1.length) (yN i) (yN mv) (yN (tNn x.1 x.2)) (yH κ m4) = some (yH κ m5) := s21 h4 (Or.inr ⟨i, by omega, rfl, by omega, h129.symm⟩)
    have h5 : ∀ y j, m5.1 y j = if y = 130 ∧ j = s.1.length then yN (tNn x.1 x.2) else if y = 129 ∧ j = s.1.length then yN (d + 1) else if y = 128 ∧ j = s.1.length then yN mv else if y = 127 ∧ j = s.1.length then yN i else m4.1 y j := fun y j => by
      show (yW (yW (yW (yW m4 127 _ _) 128 _ _) 129 _ _) 130 _ _).1 y j = _
      rw [yW_get, yW_get, yW_get, yW_get]
    have h5o : ∀ y j, (y < 127 ∨ 130 < y ∨ j ≠ s.1.length) → m5.1 y j = m4.1 y j := fun y j z => by rw [h5, if_neg (by omega), if_neg (by omega), if_neg (by omega), if_neg (by omega)]
    have C5 : CG m5 (s.1 ++ [(gNx x mv, yN i, yN mv, d + 1)], false) := by
      refine ⟨?_, ?_, fun k e he => ?_, fun k e he => ?_, ?_, fun j hj => ?_⟩
      · rw [h5o _ _ (by omega), k14, List.length_append]; rfl
      · rw [h5o _ _ (by omega), kI _ _ (by omega), i3, c15, hf]
      · rcases ge_one he with ⟨rfl, rfl⟩ | ⟨hk, he⟩
        · exact kN
        · exact kK k e he
      · rcases ge_one he with ⟨rfl, rfl⟩ | ⟨hk, he⟩
        · refine ⟨?_, ?_, ?_, ?_⟩
          · rw [h5, if_neg (by omega), if_neg (by omega), if_neg (by omega), if_pos ⟨rfl, rfl⟩]
          · rw [h5, if_neg (by omega), if_neg (by omega), if_pos ⟨rfl, rfl⟩]
          · rw [h5, if_neg (by omega), if_pos ⟨rfl, rfl⟩]
          · rw [h5, if_pos ⟨rfl, rfl⟩]; rfl
        · rw [h5o _ _ (by omega), h5o _ _ (by omega), h5o _ _ (by omega), h5o _ _ (by omega), kI _ _ (by omega), kI _ _ (by omega), kI _ _ (by omega), kI _ _ (by omega), i3]
          exact cA k e he
      · obtain ⟨T, hT, hP⟩ := kS
        show cSl m5 (s.1 ++ [_]).length
        rw [List.length_append]
        exact ⟨T, fun s hs => by rw [h5o _ _ (by omega)]; exact hT s hs, hP⟩
      · rw [h5o _ _ (by omega), kI _ _ (by omega), i3]; exact cZ j hj
    have F5 : yG (fun y _ => y = 118 ∨ (126 ≤ y ∧ y ≤ 130)) m3 m5 ∨ True := Or.inr trivial
    have T5 : Tow m5 119 x.1 x.2 := by
      have row : ∀ y, 119 ≤ y → y ≤ 123 → m5.1 y = m3.1 y := fun y h1 h2 => funext fun j => by rw [h5o _ _ (by omega), kI _ _ (by omega)]
      unfold Tow
      rw [row 119 (by omega) (by omega), row (119 + 1) (by omega) (by omega), row (119 + 2) (by omega) (by omega), row (119 + 3) (by omega) (by omega), row (119 + 4) (by omega) (by omega)]
      exact T3
    have G5 : gF m m5 := (G03.tr G4).tr ((((gF.w (by omega)).tr (gF.w (by omega))).tr (gF.w (by omega))).tr (gF.w (by omega)))
    have hL : gLk (s.1 ++ [(gNx x mv, yN i, yN mv, d + 1)]) (gNx x mv) = some s.1.length := by
      unfold gLk at hq ⊢
      rw [List.findIdx?_append, hq]; simp
    obtain ⟨r1, r2, r3, r4, r5, r6, r7⟩ := tl m5 s.1.length _ C5 T5 G5 (fun j => by rw [h5o _ _ (by omega), kI _ _ (by omega), i3]) (fun j => by rw [h5o _ _ (by omega), kI _ _ (by omega), i3])
    rw [hst]
    refine ⟨_, ?_, r1, r2, r3, r4, r5, fun _ => ⟨s.1.length, hL, r6, r7⟩⟩
    rw [st, e, yBs]
    dsimp only
    rw [if_neg (by rw [yN_eqm (by omega)]; exact id), yi_118_14, yBs, k14, if_neg (by rw [yN_le (by omega) (by omega)]; omega), yp_div (by omega) (by omega) (by decide), yBs, yis_118, pG_t, yBs, yN_addl, show tLd x.1 x.2 mv / 3 + 1 = tNn x.1 x.2 from g5, e5, yBs, yBs]
    exact tail m5 s.1.length h4 (by rw [h5o _ _ (by omega), kI _ _ (by omega), i3]; exact he)
end GG
