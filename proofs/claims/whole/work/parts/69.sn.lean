/-! ===== fits(), span() ===== -/
theorem q1_len (P : Nat → Bool) (Z0 Zd Y0 Yd : Nat) : ∀ d x, (q1 P Z0 Zd Y0 Yd d x).length ≤ Zd * Yd * d
  | 0, _ => by rw [q1]; exact Nat.zero_le _
  | d + 1, x => by
    have h1 := q1_len P Z0 Zd Y0 Yd d (x + 1)
    have h2 := q2_len P Z0 Zd x Yd Y0
    rw [q1, List.length_append, Nat.mul_succ]; omega
theorem qR_len {th : Nat → Int32} {F : zF} (oF : okF F) {l : Nat} (hl : l < 16) : (qR th F l).length ≤ 1000 := by
  have b0 := qLH (th := th) oF (b := 3 * l) (by omega)
  have b1 := qLH (th := th) oF (b := 3 * l + 1) (by omega)
  have b2 := qLH (th := th) oF (b := 3 * l + 2) (by omega)
  have p1 : qD th F (3 * l + 2) * qD th F (3 * l + 1) ≤ 10 * 10 := Nat.mul_le_mul b2.2.2.2.1 b1.2.2.2.1
  have p2 : qD th F (3 * l + 2) * qD th F (3 * l + 1) * qD th F (3 * l) ≤ 10 * 10 * 10 := Nat.mul_le_mul p1 b0.2.2.2.1
  unfold qR
  exact Nat.le_trans (q1_len _ _ _ _ _ _ _) (by omega)
theorem qEnds {L : List qT} (h : L ≠ []) : ∃ a b, L.head? = some a ∧ L.getLast? = some b ∧ L[0]? = some a ∧ L[L.length - 1]? = some b ∧ a ∈ L ∧ b ∈ L := by
  have hl : 0 < L.length := List.length_pos_iff.2 h
  refine ⟨L[0], L[L.length - 1], ?_, ?_, List.getElem?_eq_getElem hl, List.getElem?_eq_getElem (by omega), List.getElem_mem _, List.getElem_mem _⟩
  · rw [List.head?_eq_getElem?]; exact List.getElem?_eq_getElem hl
  · rw [List.getLast?_eq_getElem?]; exact List.getElem?_eq_getElem (by omega)
theorem sQ2_Cs {x j : Nat} (h : sQ2 x j) : sCs x j := by unfold sQ2 at h; unfold sCs; omega
theorem sQ2_C {x j : Nat} (h : sQ2 x j) : sC x j := by unfold sQ2 at h; unfold sC; omega
theorem sQr_Rs {x j : Nat} (h : sQr x j) : sRs x j := by unfold sQr at h; unfold sRs; omega
theorem sQr_R {x j : Nat} (h : sQr x j) : sR x j := by unfold sQr at h; unfold sR; omega
section SN
variable {κ : yK} {m : yM} {A : zT} {H : zH} {K : zK} {C : zC} {D : List Int64} {E : zE} {F : zF} {l : Nat}
/-- sift(), laysRows() where the game stands -/
theorem Cl.sift (c : Cl m A H K C D E F) (o : Ok A H K C D E F) (hl : l < zn A) : ∃ m', f_82 135 6 (yN l) (yH κ m) = some (yH κ m') ∧ Sc m' (qR (zth A) F l) ∧ Cl m' A H K C D E F ∧ yG sC m m' := by
  have hn := o.1.1.1.1
  obtain ⟨m1, e1, S1, F1⟩ := s82 (κ := κ) (th := zth A) (m := m) o.2.2.2.2.2.2 (show l < 16 by omega) (o.1.1.1.2.2.2 l hl) c.1.1.1 c.2.2.2.2.2.2
  exact ⟨m1, e1, S1, c.fr o.2.1.1 (F1.g (fun _ _ => id)) (fun _ _ => sQ2_Cs), F1.g (fun _ _ => sQ2_C)⟩
theorem Rf.lays (c : Rf m A H K C D E F) (o : Ok A H K C D E F) (hl : l < zn A) : ∃ m', f_250 178 (yN l) (yH κ m) = some (yH κ m') ∧ Sr m' (qR (zth A) F l) ∧ Rf m' A H K C D E F ∧ yG sR m m' := by
  have hn := o.1.1.1.1
  obtain ⟨m1, e1, S1, F1⟩ := m250 (κ := κ) o.2.2.2.2.2.2 (show l < 16 by omega) o.1.1.1.2.1 (o.1.1.1.2.2.2 l hl) c.1.tor c.2.2.2.2.2.2
  exact ⟨m1, e1, S1, c.fr (F1.g (fun _ _ => id)) (fun _ _ => sQr_Rs), F1.g (fun _ _ => sQr_R)⟩
end SN
def qRow (th : Nat → Int32) (l : Nat) (L : List qT) : List Int64 := match L.head?, L.getLast? with
  | some a, some b => qV th l a 3 ++ qV th l b 3
  | _, _ => []
theorem z_fits (p : Int32) : zCall (f_151 0 p) (f_255 178 p) := by
  intro κ A H K C D E F o
  have hn := o.1.1.1.1
  have hr : tRg (zth A) := o.1.1.1.2.1
  have oF := o.2.2.2.2.2.2
  by_cases h : 0 ≤ p ∧ p < yN (zn A)
  · obtain ⟨l, hl, rfl⟩ := yN_of' h.1
    have hln : l < zn A := by have := h.2; rw [yN_lt hl (by omega)] at this; exact this
    have hLl := qR_len (th := zth A) oF (show l < 16 by omega)
    have hgL : ∀ t, t ∈ qR (zth A) F l → qG (zth A) l t := fun t ht => qR_mem oF (by omega) ht
    have c91 : ∀ m, Cl m A H K C D E F → f_91 6 (yN l) (yH κ m) = some (1, yH κ m) := fun m c => by rw [s91I c.1.1 hn, decide_eq_true h, yB_t]
    have c190 : ∀ m, Rf m A H K C D E F → f_190 178 (yN l) (yH κ m) = some (1, yH κ m) := fun m c => by rw [s190 c.1.tor hn, decide_eq_true h, yB_t]
    refine ⟨yN (qR (zth A) F l).length, A, H, K, C, qRow (zth A) l (qR (zth A) F l), E, F, ⟨o.1, o.2.1, o.2.2.1, o.2.2.2.1, ?_, o.2.2.2.2.2⟩, fun m c => ?_, fun m c => ?_⟩
    · unfold qRow
      split
      next a b h1 h2 =>
        have := qV_len (th := zth A) (l := l) a 3
        have := qV_len (th := zth A) (l := l) b 3
        rw [List.length_append]; omega
      · simp
    · obtain ⟨m1, e1, S1, c1, g1⟩ := c.sift (κ := κ) o hln
      have k : ∀ D, (rAs m1 D).1 135 11 = yN (qR (zth A) F l).length := fun D => by rw [rAs_row (by omega)]; exact S1.1
      refine ⟨rAs m1 (qRow (zth A) l (qR (zth A) F l)), ?_, c1.row o.2.1.1 _, g1.tr (rAs_g _ _) (fun x j q => q.elim id (fun q => sA3_C q))⟩
      unfold f_151
      rw [yr_0_2, yBs, ys5_0, yBs, yt_is ytw_6, pG_t, yBs, c91 m c, yBs]
      dsimp only
      rw [if_neg (by decide), yr_0_10, yBs, yr_0_2, yBs, ys5_0, yBs, yis_135, pG_t, yBs, e1, yBs, yr_0_1, yBs, yis_3, pG_t, yBs, s50, yBs, yr_0_10, yBs, yi_135_11, yBs, k]
      by_cases hL : qR (zth A) F l = []
      · rw [hL, if_pos (by decide), yBs, yr_0_10, yBs, yi_135_11, yBs, k, hL]; rfl
      · obtain ⟨a, b, x1, x2, x3, x4, x5, x6⟩ := qEnds hL
        have hpos : 0 < (qR (zth A) F l).length := List.length_pos_iff.2 hL
        have ea : f_152 0 144 (yH κ (rAs m1 [])) = some (yH κ (rAs m1 (qV (zth A) l a 3))) := by
          unfold f_152
          have := s152_2 (κ := κ) (a := 144) (D0 := []) (m := m1) rfl (by omega) (by simp) (hgL a x5) (fun i hi => (S1.2 i hi).2.2.1 a x1) 3 0 100000 rfl (by omega)
          rw [show (0 : Int32) = yN 0 from rfl, show rAs m1 [] = rAs m1 ([] ++ qV (zth A) l a 0) from rfl, this, yBs]; rfl
        have eb : f_152 0 145 (yH κ (rAs m1 (qV (zth A) l a 3))) = some (yH κ (rAs m1 (qV (zth A) l a 3 ++ qV (zth A) l b 3))) := by
          unfold f_152
          have := s152_2 (κ := κ) (a := 145) (D0 := qV (zth A) l a 3) (m := m1) rfl (by omega) (qV_len _ _) (hgL b x6) (fun i hi => (S1.2 i hi).2.2.2 b x2) 3 0 100000 rfl (by omega)
          rw [qV, List.append_nil] at this
          rw [show (0 : Int32) = yN 0 from rfl, this, yBs]
        have er : qRow (zth A) l (qR (zth A) F l) = qV (zth A) l a 3 ++ qV (zth A) l b 3 := by unfold qRow; rw [x1, x2]
        rw [if_neg (by rw [yN_lel (by omega) (by omega)]; omega), yBs, yr_135_8, yBs, yis_0, pG_t, yBs, ea, yBs, yr_0_10, yBs, yr_135_9, yBs, yis_0, pG_t, yBs, eb, yBs, yBs, yr_0_10, yBs, yi_135_11, yBs, k, er]
    · obtain ⟨c1, g1⟩ := c.th 0
      obtain ⟨m1, e1, S1, c2, g2⟩ := c1.lays (κ := κ) o hln
      have k : ∀ D, (rBs m1 D).1 178 50 = yN (qR (zth A) F l).length := fun D => by rw [rBs_fl (by omega)]; exact S1.1
      have k9 : ∀ D j, (rBs m1 D).1 209 j = m1.1 209 j := fun D j => by rw [rBs_row (by omega)]
      refine ⟨rBs m1 (qRow (zth A) l (qR (zth A) F l)), ?_, c2.row _, (g1.tr g2 (S3 := sR) (fun _ _ => orSelf)).tr (rBs_g _ _) (fun x j q => q.elim id (fun q => sB3_R q))⟩
      unfold f_255
      rw [yp_178_0, yBs, yis_178, pG_t, yBs, c190 _ c1, yBs]
      dsimp only
      rw [if_neg (by decide), yis_178, pG_t, yBs, e1, yBs, yp_178_1, yBs, rBs_0, yi_178_50, yBs, k]
      by_cases hL : qR (zth A) F l = []
      · rw [hL, if_pos (by decide), yBs, yi_178_50, yBs, k, hL]; rfl
      · obtain ⟨a, b, x1, x2, x3, x4, x5, x6⟩ := qEnds hL
        have hpos : 0 < (qR (zth A) F l).length := List.length_pos_iff.2 hL
        have ea : f_254 178 (yN l) (qK a) (yH κ (rBs m1 [])) = some (yH κ (rBs m1 (qV (zth A) l a 3))) := by
          unfold f_254
          have := m254_2 (κ := κ) (D0 := []) (m := m1) (show l < 16 by omega) hr c2.1.tor (by simp) (hgL a x5) 3 0 100000 rfl (by omega)
          rw [show (0 : Int32) = yN 0 from rfl, show rBs m1 [] = rBs m1 ([] ++ qV (zth A) l a 0) from rfl, this, yBs]; rfl
        have eb : f_254 178 (yN l) (qK b) (yH κ (rBs m1 (qV (zth A) l a 3))) = some (yH κ (rBs m1 (qV (zth A) l a 3 ++ qV (zth A) l b 3))) := by
          unfold f_254
          have := m254_2 (κ := κ) (D0 := qV (zth A) l a 3) (m := m1) (show l < 16 by omega) hr c2.1.tor (qV_len _ _) (hgL b x6) 3 0 100000 rfl (by omega)
          rw [qV, List.append_nil] at this
          rw [show (0 : Int32) = yN 0 from rfl, this, yBs]
        have er : qRow (zth A) l (qR (zth A) F l) = qV (zth A) l a 3 ++ qV (zth A) l b 3 := by unfold qRow; rw [x1, x2]
        rw [if_neg (by rw [yN_lel (by omega) (by omega)]; omega), yr_178_49, yBs, show pAi (yH κ (rBs m1 [])) 209 0 = _ from ya_209 (i := 0) (by omega), yBs, k9, S1.2 0 a x3, yis_178, pG_t, yBs, ea, yBs, yr_178_49, yBs, yi_178_50, yBs, k, yN_subl (by omega), ya_209 (by omega), yBs, k9, S1.2 _ b x4, yis_178, pG_t, yBs, eb, yBs, yBs, yi_178_50, yBs, k, er]
  · refine ⟨-1, A, H, K, C, D, E, F, o, zCx.same fun m c => ?_, zCm.same fun m c => ?_⟩
    · unfold f_151
      rw [yr_0_2, yBs, ys5_0, yBs, yt_is ytw_6, pG_t, yBs, s91I c.1.1 hn, decide_eq_false h, yBs]
      rfl
    · obtain ⟨c1, g1⟩ := c.th 0
      unfold f_255
      rw [yp_178_0, yBs, yis_178, pG_t, yBs, s190 c1.1.tor hn, decide_eq_false h, yBs]
      rfl
section SO
variable {κ : yK} {th : Nat → Int32} {F : zF} {l n : Nat}
theorem m256_29 {b : Nat} {L : List qT} {m : yM} (hb : b / 3 = l) (hb48 : b < 48) (hh : tHas th b = true) (hL : L.length ≤ 1000) (hg : ∀ t, t ∈ L → qG th l t) (hS : Sr m L) : ∀ (d k fu : Nat), k + d = L.length → d < fu → f_256_29 fu 178 (yN b) (qS (L.take k) (b % 3)) (yN k) (yH κ m) = some (qS L (b % 3), yH κ m) := by
  intro d
  induction d with
  | zero =>
    intro k fu hk hf
    obtain ⟨fu, rfl⟩ : ∃ k, fu = k + 1 := ⟨fu - 1, by omega⟩
    obtain rfl : k = L.length := by omega
    rw [f_256_29, yi_178_50, yBs, hS.1, if_pos (by rw [yN_le (by omega) (by omega)]; omega), List.take_length]
  | succ d ih =>
    intro k fu hk hf
    obtain ⟨fu, rfl⟩ : ∃ k, fu = k + 1 := ⟨fu - 1, by omega⟩
    have e := ih (k + 1) fu (by omega) (by omega)
    have hkl : k < L.length := by omega
    have hkt : L[k]? = some L[k] := List.getElem?_eq_getElem hkl
    have hgt := hg L[k] (List.getElem_mem hkl)
    generalize L[k] = t at hkt hgt
    have hbb : 3 * l + b % 3 = b := by omega
    have hi : b % 3 < 3 := Nat.mod_lt _ (by omega)
    have g := hgt _ hi
    rw [hbb] at g
    have t1 := tEn_m1 ⟨qI t (b % 3), by omega⟩
    dsimp only at t1
    have ew : qW (qI t (b % 3)) = (1 : Int32) <<< (tEn (qI t (b % 3)) &&& 31) := by
      unfold qW
      rw [if_neg (fun q => by have := g.2.1 (t1.1 q); rw [hh] at this; exact absurd this (by decide))]
    rw [qS_tk hkt, ew] at e
    rw [f_256_29, yi_178_50, yBs, hS.1, if_neg (by rw [yN_le (by omega) (by omega)]; omega), yr_178_49, yBs, ya_209 (by omega), yBs, hS.2 k t hkt, yp_rem (by omega) (by omega) (by omega), yBs, m253h hi hgt (by rw [hbb]; exact hh), yBs]
    dsimp only
    rw [yN_addl]; exact e
end SO
theorem tHasI_of {th : Nat → Int32} {p : Int32} (h : tHasI th p = true) : ∃ b, b < 48 ∧ p = yN b ∧ tHas th b = true := by
  unfold tHasI at h
  rw [Bool.and_eq_true] at h
  have h1 : ¬ p < 0 := by simpa using h.1
  obtain ⟨k, hk, rfl⟩ := yN_of h1
  have e : (yN k).toNatClampNeg = k := yI_cl hk
  rw [e] at h
  exact ⟨k, tHas_lt h.2, rfl, h.2⟩
theorem z_span (p : Int32) : zCall (f_153 0 p) (f_256 178 p) := by
  intro κ A H K C D E F o
  have hn := o.1.1.1.1
  have hr : tRg (zth A) := o.1.1.1.2.1
  have oF := o.2.2.2.2.2.2
  have c90 : ∀ m, Cl m A H K C D E F → f_90 6 p (yH κ m) = some (yB (tHasI (zth A) p), yH κ m) := fun m c => s90I ytw_6 c.1.1.1
  have c169 : ∀ m, Rf m A H K C D E F → f_169 180 p (yH κ m) = some (yB (tHasI (zth A) p), yH κ m) := fun m c => s169I yAr_180 c.1.tor hr
  cases h : tHasI (zth A) p with
  | true =>
    obtain ⟨b, hb, rfl, hh⟩ := tHasI_of h
    have hbn := tHas_n o.1.1.1 hh
    have hln : b / 3 < zn A := by omega
    have hLl := qR_len (th := zth A) oF (show b / 3 < 16 by omega)
    have hgL : ∀ t, t ∈ qR (zth A) F (b / 3) → qG (zth A) (b / 3) t := fun t ht => qR_mem oF (by omega) ht
    refine ⟨qS (qR (zth A) F (b / 3)) (b % 3), A, H, K, C, D, E, F, o, fun m c => ?_, fun m c => ?_⟩
    · obtain ⟨m1, e1, S1, c1, g1⟩ := c.sift (κ := κ) o hln
      refine ⟨m1, ?_, c1, g1⟩
      unfold f_153
      rw [yr_0_2, yBs, ys5_0, yBs, yt_is ytw_6, pG_t, yBs, c90 m c, h, yBs]
      dsimp only
      rw [yB_t, if_neg (by decide), yr_0_10, yBs, yr_0_2, yBs, ys5_0, yBs, yp_div (by omega) (by omega) (by omega), yBs, yis_135, pG_t, yBs, e1, yBs, yr_0_10, yBs, yr_135_7, yBs, yp_rem (by omega) (by omega) (by omega), yBs, ya_143 (Nat.mod_lt _ (by omega)), yBs, (S1.2 _ (Nat.mod_lt _ (by omega))).2.1]
    · obtain ⟨c1, g1⟩ := c.th 0
      obtain ⟨m1, e1, S1, c2, g2⟩ := c1.lays (κ := κ) o hln
      refine ⟨m1, ?_, c2, g1.tr g2 (fun _ _ => orSelf)⟩
      have e2 := m256_29 (κ := κ) (l := b / 3) rfl hb hh hLl hgL S1 (qR (zth A) F (b / 3)).length 0 100000 (by omega) (by omega)
      rw [List.take_zero] at e2
      unfold f_256
      rw [yp_178_0, yBs, yr_178_3, yBs, c169 _ c1, h, yBs]
      dsimp only
      rw [yB_t, if_neg (by decide), yp_div (by omega) (by omega) (by omega), yBs, yis_178, pG_t, yBs, e1, yBs]
      show ((f_256_29 100000 178 (yN b) (qS [] (b % 3)) (yN 0) (yH κ m1)).bind _) = _
      rw [e2, yBs]
  | false =>
    refine ⟨-1, A, H, K, C, D, E, F, o, zCx.same fun m c => ?_, zCm.same fun m c => ?_⟩
    · unfold f_153
      rw [yr_0_2, yBs, ys5_0, yBs, yt_is ytw_6, pG_t, yBs, c90 m c, h, yBs]
      rfl
    · obtain ⟨c1, g1⟩ := c.th 0
      unfold f_256
      rw [yp_178_0, yBs, yr_178_3, yBs, c169 _ c1, h, yBs]
      rfl
