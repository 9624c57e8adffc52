/-! ===== loser(): the call ===== -/
/-- behind the first k players: the one with the most, the row -/
def tsS (sh : Nat → Nat) : Nat → Nat × List Int64
  | 0 => (0, [])
  | k + 1 => (if sh k ≤ sh (tsS sh k).1 then (tsS sh k).1 else k, (tsS sh k).2 ++ [(yN (sh k)).toInt64])
theorem tsS_len (sh : Nat → Nat) : ∀ k, (tsS sh k).2.length = k := by
  intro k
  induction k with
  | zero => rfl
  | succ k ih => simp only [tsS, List.length_append, ih]; rfl
theorem tsS_lt (sh : Nat → Nat) : ∀ k, (tsS sh k).1 ≤ k - 1 := by
  intro k
  induction k with
  | zero => exact Nat.le_refl _
  | succ k ih => simp only [tsS]; split <;> omega
section TS
variable {κ : yK} {m : yM} {sh : Nat → Nat} {p : Nat} {w : Int32}
theorem s147_11 (hp : m.1 0 16 = yN p) (hp4 : p ≤ 4) (hS : Sh m 159 sh) (hb : ∀ j, sh j ≤ 10000) : ∀ (d k fu : Nat), k + d = p → d < fu → f_147_11 fu 0 w (yN (tsS sh k).1) (yN k) (yH κ (rAs m (tsS sh k).2)) = some (yN (tsS sh p).1, yH κ (rAs m (tsS sh p).2)) := by
  intro d
  induction d with
  | zero =>
    intro k fu hk hf
    obtain ⟨fu, rfl⟩ : ∃ k, fu = k + 1 := ⟨fu - 1, by omega⟩
    obtain rfl : k = p := by omega
    have e : (rAs m (tsS sh k).2).1 0 16 = yN k := by rw [rAs_row (by omega), hp]
    rw [f_147_11, yi_0_16, yBs, e, if_pos (by rw [yN_le (by omega) (by omega)]; omega)]
  | succ d ih =>
    intro k fu hk hf
    obtain ⟨fu, rfl⟩ : ∃ k, fu = k + 1 := ⟨fu - 1, by omega⟩
    have e : ∀ l, (rAs m l).1 0 16 = yN p := fun l => by rw [rAs_row (by omega), hp]
    have es : ∀ l j, j < 4 → (rAs m l).1 159 j = yN (sh j) := fun l j hj => by rw [rAs_row (by omega), hS j hj]
    have hlen := tsS_len sh k
    have hlt := tsS_lt sh k
    have e1 := s51 (κ := κ) (m := m) (l := (tsS sh k).2) (v := (yN (sh k)).toInt64) (by omega)
    have b1 := hb k
    have b2 := hb (tsS sh k).1
    have hw : (if yN (sh k) ≤ yN (sh (tsS sh k).1) then some (yN (tsS sh k).1) else some (yN k) : Option Int32) = some (yN (tsS sh (k + 1)).1) := by
      simp only [tsS]
      by_cases q : sh k ≤ sh (tsS sh k).1
      · rw [if_pos (by rw [yN_le (by omega) (by omega)]; exact q), if_pos q]
      · rw [if_neg (by rw [yN_le (by omega) (by omega)]; exact q), if_neg q]
    have r := ih (k + 1) fu (by omega) (by omega)
    rw [f_147_11, yi_0_16, yBs, e, if_neg (by rw [yN_le (by omega) (by omega)]; omega), if_neg (by rw [yN_lle (by omega) (by omega)]; omega)]
    have es2 : ∀ l, (rAs m l).1 159 (tsS sh k).1 = yN (sh (tsS sh k).1) := fun l => es l _ (by omega)
    have es1 : ∀ l, (rAs m l).1 159 k = yN (sh k) := fun l => es l _ (by omega)
    simp (disch := first | assumption | omega) only [yr_0_1, yr_0_15, ya_159, es1, es2, yBs, yis_3, pG_t, e1, hw, yN_addl]
    exact r
theorem m244_174 (hp : m.1 178 6 = yN p) (hp4 : p ≤ 4) (hS : Sh m 204 sh) (hb : ∀ j, sh j ≤ 10000) : ∀ (d k fu : Nat), k + d = p → d < fu → f_244_174 fu 178 w (yN (tsS sh k).1) (yN k) (yH κ (rBs m (tsS sh k).2)) = some (yN (tsS sh p).1, yH κ (rBs m (tsS sh p).2)) := by
  intro d
  induction d with
  | zero =>
    intro k fu hk hf
    obtain ⟨fu, rfl⟩ : ∃ k, fu = k + 1 := ⟨fu - 1, by omega⟩
    obtain rfl : k = p := by omega
    have e : (rBs m (tsS sh k).2).1 178 6 = yN k := by rw [rBs_fl (by omega), hp]
    rw [f_244_174, yi_178_6, yBs, e, if_pos (by rw [yN_le (by omega) (by omega)]; omega)]
  | succ d ih =>
    intro k fu hk hf
    obtain ⟨fu, rfl⟩ : ∃ k, fu = k + 1 := ⟨fu - 1, by omega⟩
    have e : ∀ l, (rBs m l).1 178 6 = yN p := fun l => by rw [rBs_fl (by omega), hp]
    have es : ∀ l j, j < 4 → (rBs m l).1 204 j = yN (sh j) := fun l j hj => by rw [rBs_row (by omega), hS j hj]
    have hlen := tsS_len sh k
    have hlt := tsS_lt sh k
    have e1 := s165 (κ := κ) (m := m) (l := (tsS sh k).2) (v := (yN (sh k)).toInt64) (by omega)
    have b1 := hb k
    have b2 := hb (tsS sh k).1
    have hw : (if yN (sh k) ≤ yN (sh (tsS sh k).1) then some (yN (tsS sh k).1) else some (yN k) : Option Int32) = some (yN (tsS sh (k + 1)).1) := by
      simp only [tsS]
      by_cases q : sh k ≤ sh (tsS sh k).1
      · rw [if_pos (by rw [yN_le (by omega) (by omega)]; exact q), if_pos q]
      · rw [if_neg (by rw [yN_le (by omega) (by omega)]; exact q), if_neg q]
    have r := ih (k + 1) fu (by omega) (by omega)
    rw [f_244_174, yi_178_6, yBs, e, if_neg (by rw [yN_le (by omega) (by omega)]; omega)]
    have es2 : ∀ l, (rBs m l).1 204 (tsS sh k).1 = yN (sh (tsS sh k).1) := fun l => es l _ (by omega)
    have es1 : ∀ l, (rBs m l).1 204 k = yN (sh k) := fun l => es l _ (by omega)
    simp (disch := first | assumption | omega) only [yr_178_43, ya_204, es1, es2, yBs, hw, yis_178, pG_t, e1, yN_addl]
    exact r
end TS
theorem zMT_z {A : zT} (h : zOkT A) : ∀ j, 48 ≤ j → (zMT A).1 j = 0 := by
  intro j hj
  unfold zMT
  split
  · exact h.2.1 j hj
  · show zB0 j = 0; unfold zB0; rw [if_neg (by omega)]
theorem z_loser (p : Int32) : zCall (f_146 0 p) (f_244 178 p) := by
  intro κ A H K C D E F o
  have hk := zMT_ok o.1.1
  have hn := hk.1
  have hz := zMT_z o.1.1
  have oE := o.2.2.2.2.2.1
  have hE1 := oE.1
  have hE4 := oE.2.1
  have hm4 := o.1.1.2.2.1
  have hmod : (zmv A + 0) % E.2.2.1 = zmv A := Nat.mod_eq_of_lt o.1.2
  by_cases h : 0 ≤ p ∧ p ≤ 20
  · have hp0 : ¬ p < 0 := yLe_lt h.1
    obtain ⟨N, hN, rfl⟩ := yN_of' h.1
    have hN20 : N ≤ 20 := by have := h.2; rw [yN_lel hN (by omega)] at this; exact this
    obtain ⟨L, hL⟩ : ∃ L, L = lsR E.2.2.2.2 E.1 E.2.1 E.2.2.2.1 E.2.2.1 N (zMT A).1 (zMT A).2 10000 (fun _ => 0) (zmv A) := ⟨_, rfl⟩
    have hLb := lsR_le (R := E.2.2.2.2) (t0 := E.1) (t1 := E.2.1) (hd := E.2.2.2.1) (p := E.2.2.1) N (zMT A).1 (zMT A).2 10000 (fun _ => 0) (zmv A) (Nat.le_refl _) (fun j => Nat.le_refl _)
    rw [← hL] at hLb
    have hlen := tsS_len L.2 E.2.2.1
    refine ⟨yN (tsS L.2 E.2.2.1).1, A, H, K, C, (tsS L.2 E.2.2.1).2 ++ [(yN L.1).toInt64], E, F, ⟨o.1, o.2.1, o.2.2.1, o.2.2.2.1, by rw [List.length_append, hlen]; simp; omega, o.2.2.2.2.2⟩, fun m c => ?_, fun m c => ?_⟩
    · -- shares are 0, the tower is copied
      have g1 : yG (fun x _ => x = 159) m (yR m 159 (fun j => if j < 4 then 0 else m.1 159 j)) := yG.r m (fun _ _ => rfl)
      have c1 := c.fr o.2.1.1 g1 (fun x j q => by have : x = 159 := q; unfold sCs; omega)
      have S1 : Sh (yR m 159 (fun j => if j < 4 then 0 else m.1 159 j)) 159 (fun _ => 0) := fun j hj => by rw [yR_eq, if_pos hj]; rfl
      generalize hM1 : yR m 159 (fun j => if j < 4 then 0 else m.1 159 j) = m1 at *
      obtain ⟨m2, e2, T2, F2⟩ := s89 (κ := κ) ytw_153 (zad_tw (A := A)) (by rcases zad_or (A := A) with ⟨q, -⟩ | ⟨q, -⟩ <;> omega) c1.mt hn hz c1.2.2.2.2.2.1.2.2.2.2.2
      have q2 : ∀ x j, x = 5 ∨ x = 106 ∨ x = 0 ∨ x = 158 ∨ x = 111 ∨ x = 110 ∨ x = 159 → m2.1 x j = m1.1 x j := fun x j q => F2.2 _ _ (by unfold sT; omega)
      obtain ⟨m3, e3, S3, Z3, F3⟩ := s146_37 (κ := κ) oE hm4 hN20 N 0 100000 m2 (zMT A).1 (zMT A).2 10000 (fun _ => 0) (by omega) (by omega) hk hz (Nat.le_refl _) (fun j => Nat.le_refl _) T2 (by rw [q2 _ _ (by omega)]; exact c1.1.2.1) (by rw [q2 _ _ (by omega)]; exact c1.2.2.2.2.2.1.1.1) (by rw [q2 _ _ (by omega)]; exact c1.2.2.2.2.2.1.1.2) (by rw [q2 _ _ (by omega)]; exact c1.2.2.2.2.2.1.2.1.1) (fun k hk => by rw [q2 _ _ (by omega)]; exact c1.2.2.2.2.2.1.2.1.2 k hk) ⟨by rw [q2 _ _ (by omega)]; exact c1.2.2.2.2.2.1.2.2.1.1, fun j hj => by rw [q2 _ _ (by omega)]; exact c1.2.2.2.2.2.1.2.2.1.2 j hj⟩ (fun j hj => by rw [q2 _ _ (by omega)]; exact S1 j hj)
      rw [hmod, ← hL] at e3 S3
      have GG : yG sLt m1 m3 := fun x j q => by
        unfold sLt sW at q
        by_cases hx : x = 154
        · subst hx
          have hj : 48 ≤ j := by omega
          refine ⟨?_, ?_⟩
          · rw [Z3 j hj]; exact (c1.2.2.2.2.2.1.2.2.2.2.2 j hj).symm
          · rw [F3.1, F2.1]
        · exact ⟨by rw [F3.2 _ _ (by unfold sLs sT sW; omega), F2.2 _ _ (by unfold sT; omega)], by rw [F3.1, F2.1]⟩
      have c3 := c1.fr o.2.1.1 GG (fun x j q => by unfold sLt sW at q; unfold sCs; omega)
      refine ⟨rAs m3 ((tsS L.2 E.2.2.1).2 ++ [(yN L.1).toInt64]), ?_, c3.row o.2.1.1 _, ((g1.wk (S3 := sC) (fun x j q => by have : x = 159 := q; unfold sC; omega)).tr (GG.wk (S3 := sC) (fun x j q => by unfold sLt sW at q; unfold sC; omega)) (fun _ _ => orSelf)).tr (rAs_g m3 _) (fun x j q => q.elim id sA3_C)⟩
      have e3' : f_146_37 100000 0 (yN N) 10000 0 (yH κ m2) = some (.inl (yN L.1, yH κ m3)) := e3
      have e4 : f_147_11 100000 0 (yN L.1) 0 0 (yH κ (rAs m3 [])) = some (yN (tsS L.2 E.2.2.1).1, yH κ (rAs m3 (tsS L.2 E.2.2.1).2)) := s147_11 (κ := κ) (w := yN L.1) c3.2.2.2.2.2.1.2.1.1 hE4 S3 hLb.2 E.2.2.1 0 100000 (by omega) (by omega)
      have e5 := s51 (κ := κ) (m := m3) (l := (tsS L.2 E.2.2.1).2) (v := (yN L.1).toInt64) (by omega)
      have e266 : f_266 159 0 (yH κ m) = some (yH κ m1) := by rw [← hM1]; exact s266 (show ySh[159]? = some (.inl (0, 4)) from rfl) (by omega)
      unfold f_146 f_147
      rw [if_neg hp0, if_pos h.2]
      simp (disch := first | assumption | omega) only [yr_0_15, e266, yBs, yr_0_13, yis_0, yBs, pG_t, pZ_0, pZ_1, pZ_B, s125z c1 o, yt_is ytw_153, e2, e3', yr_0_1, yis_3, s50, e4, e5]
    · obtain ⟨c0, g0⟩ := c.th 0
      generalize hM0 : yW m 178 0 0 = m0 at *
      have w204 : ∀ (m : yM) (j : Nat) (x : Int32), yG sLq m (yW m 204 j x) := fun m j x => yG.w m (by unfold sLq; omega)
      have e21 : f_244_21 100000 178 (yN N) 0 (yH κ m0) = some (yH κ (yW (yW (yW (yW m0 204 0 0) 204 1 0) 204 2 0) 204 3 0)) := by
        rw [show (100000 : Nat) = 99995 + 1 + 1 + 1 + 1 + 1 from rfl, show f_244_21 (99995 + 1 + 1 + 1 + 1 + 1) 178 (yN N) 0 = f_244_21 (99995 + 1 + 1 + 1 + 1 + 1) 178 (yN N) (yN 0) from rfl]
        unfold f_244_21 f_244_21 f_244_21 f_244_21 f_244_21
        simp (disch := first | assumption | omega) only [yN_addl, yN_lle, if_pos, if_neg, yr_178_43, yst_204, yBs]
      have g1 : yG sLq m0 (yW (yW (yW (yW m0 204 0 0) 204 1 0) 204 2 0) 204 3 0) := (((w204 _ _ _).tr (w204 _ _ _) (fun _ _ => orSelf)).tr (w204 _ _ _) (fun _ _ => orSelf)).tr (w204 _ _ _) (fun _ _ => orSelf)
      have c1 := c0.fr g1 (fun _ _ => sLq_Rs)
      have S1 : Sh (yW (yW (yW (yW m0 204 0 0) 204 1 0) 204 2 0) 204 3 0) 204 (fun _ => 0) := fun j hj => by
        rcases (show j = 0 ∨ j = 1 ∨ j = 2 ∨ j = 3 by omega) with rfl | rfl | rfl | rfl <;> simp [yW_get] <;> rfl
      generalize hM1 : yW (yW (yW (yW m0 204 0 0) 204 1 0) 204 2 0) 204 3 0 = m1 at *
      have e168 := s168 (κ := κ) (m := m1) yAr_180 yAr_181 (by omega)
      have g2 : yG sLq m1 (yR m1 181 (cpR (m1.1 180) (m1.1 181) 0 54)) := yG.r _ (fun j _ => by unfold sLq; omega)
      have c2 := c1.fr g2 (fun _ _ => sLq_Rs)
      have S2 : Sh (yR m1 181 (cpR (m1.1 180) (m1.1 181) 0 54)) 204 (fun _ => 0) := fun j hj => by rw [yR_ne _ _ (by omega)]; exact S1 j hj
      have x2 : Rx (yR m1 181 (cpR (m1.1 180) (m1.1 181) 0 54)) 181 (zMT A).1 (zMT A).2 := by
        rcases c1.rx o with ⟨q1, q2⟩ | ⟨q1, q2⟩
        · exact Or.inl ⟨by rw [yR_eq, cpR_in (by omega)]; exact q1, q2.cp⟩
        · exact Or.inr ⟨by rw [yR_eq, cpR_in (by omega)]; exact q1, q2⟩
      have n49 : (yR m1 181 (cpR (m1.1 180) (m1.1 181) 0 54)).1 181 49 = yN (zmv A) := by rw [yR_eq, cpR_in (by omega)]; exact c1.1.2.2.1
      generalize hM2 : yR m1 181 (cpR (m1.1 180) (m1.1 181) 0 54) = m2 at *
      have W : ∃ m3 b, ((if yN N ≤ 0 then some ((-1), yH κ m2) else (pFr (yH κ m2) 178 12 4).bind fun x19 => (pG (pIs (yH κ m2) 178 12)).bind fun _ => (f_211 178 x19 (yH κ m2)).bind fun (x22, h21) => some (x22, h21) : Option (Int32 × xH))) = some (b, yH κ m3) ∧ (0 < N → Br m3 (bC (tSf (zMT A).1 (zMT A).2 E.1 E.2.1) (zOn E.2.2.2.2 (zMT A).1 (zMT A).2 E.1 E.2.1 (E.2.2.2.1 (zmv A))) (30 * (zMT A).2))) ∧ (0 < N → b = bI (bC (tSf (zMT A).1 (zMT A).2 E.1 E.2.1) (zOn E.2.2.2.2 (zMT A).1 (zMT A).2 E.1 E.2.1 (E.2.2.2.1 (zmv A))) (30 * (zMT A).2))) ∧ yFr sBm m2 m3 := by
        by_cases h0 : N = 0
        · subst h0
          exact ⟨m2, -1, by rw [if_pos (by decide)], fun q => by omega, fun q => by omega, yFr.rf m2⟩
        · obtain ⟨m3, e3, B3, F3⟩ := m211 (κ := κ) (Or.inr (Or.inl rfl)) hk (oE.2.2.1 _ o.1.2) oE.2.2.2 x2 (show Ro m2 181 E.1 E.2.1 (E.2.2.2.1 (zmv A)) E.2.2.2.2 from ⟨⟨zmv A, hm4, n49, c2.2.2.2.2.2.1.2.1.2 _ o.1.2⟩, c2.2.2.2.2.2.1.2.2, c2.2.2.2.2.2.1.1.1, c2.2.2.2.2.2.1.1.2⟩)
          refine ⟨m3, _, ?_, fun _ => B3, fun _ => rfl, F3⟩
          rw [if_neg (by rw [yN_lel hN (by omega)]; omega), yr_178_4, yBs, yis_178, pG_t, yBs, e3, yBs]
      obtain ⟨m3, b, e3, B3, hb3, F3⟩ := W
      have G3 : yG sLq m2 m3 := F3.g (fun _ _ q => Or.inr (Or.inr q))
      have c3 := c2.fr G3 (fun _ _ => sLq_Rs)
      obtain ⟨m4, e4, S4, F4⟩ := m244_74 (κ := κ) oE hN20 N 0 100000 m3 (zMT A).1 (zMT A).2 10000 (fun _ => 0) (zmv A) (by omega) (by omega) hk (Nat.le_refl _) (fun j => Nat.le_refl _) o.1.2 (x2.bm (Or.inr (Or.inl rfl)) F3) (by rw [F3.2 _ _ (by unfold sBm sO sM; omega)]; exact n49) c3.2.2.2.2.2.1 (fun j hj => by rw [F3.2 _ _ (by unfold sBm sO sM; omega)]; exact S2 j hj) B3 b hb3
      rw [← hL] at e4 S4
      have G4 : yG sLq m3 m4 := F4.g (fun _ _ q => q)
      have c4 := c3.fr G4 (fun _ _ => sLq_Rs)
      have GG := ((g1.tr g2 (S3 := sLq) (fun _ _ => orSelf)).tr G3 (S3 := sLq) (fun _ _ => orSelf)).tr G4 (S3 := sLq) (fun _ _ => orSelf)
      refine ⟨rBs m4 ((tsS L.2 E.2.2.1).2 ++ [(yN L.1).toInt64]), ?_, c4.row _, (g0.tr (GG.wk (S3 := sR) (fun _ _ => sLq_R)) (fun _ _ => orSelf)).tr (rBs_g m4 _) (fun x j q => q.elim id sB3_R)⟩
      have e4' : f_244_74 100000 178 (yN N) 10000 b 0 (yH κ m3) = some (yN L.1, yH κ m4) := e4
      have e5 : f_244_174 100000 178 (yN L.1) 0 0 (yH κ (rBs m4 [])) = some (yN (tsS L.2 E.2.2.1).1, yH κ (rBs m4 (tsS L.2 E.2.2.1).2)) := m244_174 (κ := κ) (w := yN L.1) c4.2.2.2.2.2.1.2.1.1 hE4 S4 hLb.2 E.2.2.1 0 100000 (by omega) (by omega)
      have e6 := s165 (κ := κ) (m := m4) (l := (tsS L.2 E.2.2.1).2) (v := (yN L.1).toInt64) (by omega)
      unfold f_244
      rw [yp_178_0, yBs, hM0, s162l _ 0 20 0 20 rfl rfl, decide_eq_true h, yBs]
      dsimp only
      rw [if_neg (by decide), e21, yBs, yr_178_3, yBs, yr_178_4, yBs, e168, yBs, e3, yBs]
      dsimp only
      rw [e4', yBs]
      dsimp only
      rw [yp_178_1, yBs, rBs_0, e5, yBs]
      dsimp only
      rw [yis_178, pG_t, yBs, e6, yBs]
  · refine ⟨-1, A, H, K, C, D, E, F, o, zCx.same fun m c => ?_, zCm.same fun m c => ?_⟩
    · unfold f_146
      by_cases h1 : p < 0
      · rw [if_pos h1]
      · rw [if_neg h1, if_neg (fun a => h ⟨yLe_of_lt h1, a⟩)]
    · unfold f_244
      simp (disch := first | assumption | omega) only [yp_178_0, yBs]
      rw [s162l _ 0 20 0 20 rfl rfl, decide_eq_false h]
      simp only [yBs, pZ_0, pZ_1, pZ_B, if_true, if_false, y10, y01, yB_t, yB_f]
