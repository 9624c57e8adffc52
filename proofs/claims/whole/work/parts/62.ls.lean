/-! ===== loser() ===== -/
/-- who loses how much: tower, layers, what is left, shares, who is to move; so many moves yet -/
def lsR (R : List Int32) (t0 t1 : Int32) (hd : Nat → Int32) (p : Nat) : Nat → (Nat → Int32) → Nat → Nat → (Nat → Nat) → Nat → Nat × (Nat → Nat)
  | 0, _, _, left, sh, _ => (left, sh)
  | d + 1, th, n, left, sh, u => match bC (tSf th n t0 t1) (zOn R th n t0 t1 (hd u)) (30 * n) with
    | none => (left, sh)
    | some (c, o, _) => lsR R t0 t1 hd p d (tLn th n c) (tNn th n) (left - left * o / 100) (fun j => if j = u then sh j + left * o / 100 else sh j) ((u + 1) % p)
theorem lsR_le {R : List Int32} {t0 t1 : Int32} {hd : Nat → Int32} {p : Nat} : ∀ d th n left sh u, left ≤ 10000 → (∀ j, sh j + left ≤ 10000) → (lsR R t0 t1 hd p d th n left sh u).1 ≤ 10000 ∧ ∀ j, (lsR R t0 t1 hd p d th n left sh u).2 j ≤ 10000 := by
  intro d
  induction d with
  | zero => intro th n left sh u h1 h2; exact ⟨h1, fun j => by have := h2 j; show sh j ≤ 10000; omega⟩
  | succ d ih =>
    intro th n left sh u h1 h2
    rw [lsR]
    split
    · exact ⟨h1, fun j => by have := h2 j; show sh j ≤ 10000; omega⟩
    next c o j hs =>
      have ho : o ≤ 100 := by
        have h := bC_min (P := tSf th n t0 t1) (O := zOn R th n t0 t1 (hd u)) (30 * n)
        rw [hs] at h
        rw [h.2.1]; exact (zOn_eq _ _ _ _ _ _ _ _).2
      have hl : left * o / 100 ≤ left := by
        have : left * o ≤ left * 100 := Nat.mul_le_mul_left _ ho
        omega
      refine ih _ _ _ _ _ (by omega) (fun i => ?_)
      have := h2 i
      show (if i = u then sh i + left * o / 100 else sh i) + (left - left * o / 100) ≤ 10000
      split <;> omega
theorem bC_safe {P : Nat → Bool} {O : Nat → Nat → Nat} {k c o j : Nat} (h : bC P O k = some (c, o, j)) : P c = true ∧ c < k := by
  have := bC_min (P := P) (O := O) k
  rw [h] at this
  exact ⟨this.1.2.2, this.1.2.1⟩
theorem tLn_z {th : Nat → Int32} {n mv : Nat} (hk : tOk th n) (hc : tCg th n mv = true) (hz : ∀ j, 48 ≤ j → th j = 0) : ∀ j, 48 ≤ j → tLn th n mv j = 0 := by
  obtain ⟨g1, g2, g3, g4, g5, g6, g7⟩ := tCg_f hk hc
  have h48 := tHas_lt g1
  intro j hj
  unfold tLn tDn
  rw [upd_ne _ _ (by omega), upd_ne _ _ (by omega)]; exact hz j hj
/-- shares in a row -/
def Sh (m : yM) (r : Nat) (sh : Nat → Nat) : Prop := ∀ j, j < 4 → m.1 r j = yN (sh j)
def sLs (x j : Nat) : Prop := sT 153 x j ∨ sW x j ∨ x = 114 ∨ x = 116 ∨ x = 117 ∨ x = 159
def sLt (x j : Nat) : Prop := (153 ≤ x ∧ x ≤ 157 ∧ (x = 154 → j < 48)) ∨ sW x j ∨ x = 114 ∨ x = 116 ∨ x = 117 ∨ x = 159
section LS
variable {κ : yK} {E : zE} {v : Nat}
/-- the class's loop -/
theorem s146_37 (oE : okE E) (hv : v < 4) {N : Nat} (hN : N ≤ 20) : ∀ (d i fu : Nat) (m : yM) (th : Nat → Int32) (n left : Nat) (sh : Nat → Nat), i + d = N → d < fu → tOk th n → (∀ j, 48 ≤ j → th j = 0) → left ≤ 10000 → (∀ j, sh j + left ≤ 10000) → Tow m 153 th n → m.1 5 1 = yN v → m.1 106 0 = E.1 → m.1 106 1 = E.2.1 → m.1 0 16 = yN E.2.2.1 → (∀ k, k < E.2.2.1 → m.1 158 k = E.2.2.2.1 k) → cRu m E.2.2.2.2 → Sh m 159 sh →
    ∃ m', f_146_37 fu 0 (yN N) (yN left) (yN i) (yH κ m) = some (.inl (yN (lsR E.2.2.2.2 E.1 E.2.1 E.2.2.2.1 E.2.2.1 d th n left sh ((v + i) % E.2.2.1)).1, yH κ m')) ∧ Sh m' 159 (lsR E.2.2.2.2 E.1 E.2.1 E.2.2.2.1 E.2.2.1 d th n left sh ((v + i) % E.2.2.1)).2 ∧ (∀ j, 48 ≤ j → m'.1 154 j = 0) ∧ yFr sLs m m' := by
  obtain ⟨o1, o4, oh, oR⟩ := oE
  intro d
  induction d with
  | zero =>
    intro i fu m th n left sh hi hf hk hz hl hs2 ht h5 h0 h1 hp hh hR hS
    obtain ⟨fu, rfl⟩ : ∃ k, fu = k + 1 := ⟨fu - 1, by omega⟩
    obtain rfl : i = N := by omega
    refine ⟨m, ?_, hS, fun j hj => ?_, yFr.rf m⟩
    · rw [f_146_37, if_pos (by rw [yN_le (by omega) (by omega)]; omega)]; rfl
    · have := ht.1; rw [show 153 + 1 = 154 from rfl] at this; rw [this]; exact hz j hj
  | succ d ih =>
    intro i fu m th n left sh hi hf hk hz hl hs2 ht h5 h0 h1 hp hh hR hS
    obtain ⟨fu, rfl⟩ : ∃ k, fu = k + 1 := ⟨fu - 1, by omega⟩
    have hn := hk.1
    have hu : (v + i) % E.2.2.1 < E.2.2.1 := Nat.mod_lt _ (by omega)
    obtain ⟨m1, e1, T1, B1, F1⟩ := s11 (κ := κ) (hand := E.2.2.2.1 ((v + i) % E.2.2.1)) ytw_153 (by omega) hk oR ht h0 h1 hR
    have F1' : yFr sLs m m1 := F1.wk (fun x j q => by unfold sB sTW sT sW at q; unfold sLs sT sW; omega)
    have hb := bC_B th n E.1 E.2.1 (E.2.2.2.1 ((v + i) % E.2.2.1)) E.2.2.2.2 (30 * n) (by omega)
    have e126 : f_126 0 (yN ((v + i) % E.2.2.1)) (yH κ m) = some (E.2.2.2.1 ((v + i) % E.2.2.1), yH κ m) := by
      unfold f_126
      rw [yis_0, pG_t, yBs, s269 hp o1 o4 (by omega), yBs]
      dsimp only
      rw [Nat.mod_eq_of_lt hu, if_neg (by rw [yN_ltl (by omega) (by omega)]; omega), if_neg (by rw [yN_lle (by omega) (by omega)]; omega), yr_0_14, yBs, ya_158 (by omega), yBs, hh _ hu, yBs]
    rw [f_146_37, if_neg (by rw [yN_le (by omega) (by omega)]; omega), yr_0_2, yBs, ys_i1 ysw_5, yBs, h5, yis_0, pG_t, yBs, yN_add, s269 hp o1 o4 (by omega), yBs]
    dsimp only
    rw [yr_0_8, yBs, yr_0_13, yBs, yis_0, pG_t, yBs, e126, yBs]
    dsimp only
    rw [yis_116, pG_t, yBs, e1, yBs, yr_0_8, yBs, yi_116_7, yBs]
    rw [lsR]
    cases hst : bC (tSf th n E.1 E.2.1) (zOn E.2.2.2.2 th n E.1 E.2.1 (E.2.2.2.1 ((v + i) % E.2.2.1))) (30 * n) with
    | none =>
      rw [hst] at B1
      have b1 : m1.1 116 7 = -1 := B1
      refine ⟨m1, ?_, fun j hj => by rw [F1.2 _ _ (by unfold sB sTW sT sW; omega)]; exact hS j hj, fun j hj => ?_, F1'⟩
      · rw [b1, if_pos rfl]
      · have := T1.1; rw [show 153 + 1 = 154 from rfl] at this; rw [this]; exact hz j hj
    | some q =>
      obtain ⟨c, o, jj⟩ := q
      rw [hst] at B1 hb
      obtain ⟨b1, b2, b3⟩ := B1
      obtain ⟨q1, q2, q3⟩ := hb _ _ _ rfl
      obtain ⟨hsf, hclt⟩ := bC_safe hst
      have hc := tSf_cg hsf
      obtain ⟨g1, g2, g3, g4, g5, g6, g7⟩ := tCg_f hk hc
      have hkl := tLn_ok hk hc (tSf_2 hsf)
      have hlo : left * o ≤ 10000 * 100 := Nat.mul_le_mul hl q2
      have hlost : left * o / 100 ≤ left := by
        have : left * o ≤ left * 100 := Nat.mul_le_mul_left _ q2
        omega
      have hsu := hs2 ((v + i) % E.2.2.1)
      have es : m1.1 159 ((v + i) % E.2.2.1) = yN (sh ((v + i) % E.2.2.1)) := by rw [F1.2 _ _ (by unfold sB sTW sT sW; omega)]; exact hS _ (by omega)
      have F2 : yFr sLs m1 (yW m1 159 ((v + i) % E.2.2.1) (yN (sh ((v + i) % E.2.2.1) + left * o / 100))) := yFr.w _ (by unfold sLs; omega)
      have T2 : Tow (yW m1 159 ((v + i) % E.2.2.1) (yN (sh ((v + i) % E.2.2.1) + left * o / 100))) 153 th n := T1.g (yG.w (S := fun x _ => x = 159) m1 rfl) (fun x j p q r => by have : x = 159 := r; omega)
      have r7 : (yW m1 159 ((v + i) % E.2.2.1) (yN (sh ((v + i) % E.2.2.1) + left * o / 100))).1 116 7 = yN c := by rw [yW_row (by omega), b1]
      have eS : Sh (yW m1 159 ((v + i) % E.2.2.1) (yN (sh ((v + i) % E.2.2.1) + left * o / 100))) 159 (fun j => if j = (v + i) % E.2.2.1 then sh j + left * o / 100 else sh j) := fun j hj => by
        rw [yW_get]
        by_cases hju : j = (v + i) % E.2.2.1
        · rw [if_pos ⟨rfl, hju⟩]; simp only [if_pos hju]; rw [hju]
        · rw [if_neg (by omega)]; simp only [if_neg hju]
          rw [F1.2 _ _ (by unfold sB sTW sT sW; omega)]; exact hS j hj
      generalize hM2 : yW m1 159 ((v + i) % E.2.2.1) (yN (sh ((v + i) % E.2.2.1) + left * o / 100)) = m2 at *
      obtain ⟨m3, e3, T3, F3⟩ := s94a (κ := κ) ytw_153 hk T2 hsf
      have FF : yFr sLs m m3 := (F1'.tr F2 (S3 := sLs) (fun _ _ => orSelf)).tr F3 (fun x j q => q.elim id Or.inl)
      have FQ : ∀ x j, x = 5 ∨ x = 106 ∨ x = 0 ∨ x = 158 ∨ x = 111 ∨ x = 110 → m3.1 x j = m.1 x j := fun x j q => FF.2 _ _ (by unfold sLs sT sW; omega)
      have S3 : Sh m3 159 (fun j => if j = (v + i) % E.2.2.1 then sh j + left * o / 100 else sh j) := fun j hj => by rw [F3.2 _ _ (by unfold sT; omega)]; exact eS j hj
      obtain ⟨m', e', S', Z', F'⟩ := ih (i + 1) fu m3 (tLn th n c) (tNn th n) (left - left * o / 100) _ (by omega) (by omega) hkl (tLn_z hk hc hz) (by omega) (fun j => by
          have := hs2 j
          show (if j = (v + i) % E.2.2.1 then sh j + left * o / 100 else sh j) + (left - left * o / 100) ≤ 10000
          split <;> omega) T3 (by rw [FQ _ _ (by omega), h5]) (by rw [FQ _ _ (by omega), h0]) (by rw [FQ _ _ (by omega), h1]) (by rw [FQ _ _ (by omega), hp]) (fun k hk => by rw [FQ _ _ (by omega), hh k hk]) ⟨by rw [FQ _ _ (by omega)]; exact hR.1, fun j hj => by rw [FQ _ _ (by omega)]; exact hR.2 j hj⟩ S3
      rw [show (v + (i + 1)) % E.2.2.1 = ((v + i) % E.2.2.1 + 1) % E.2.2.1 by rw [Nat.mod_add_mod, Nat.add_assoc]] at e' S'
      refine ⟨m', ?_, S', Z', FF.tr F' (fun _ _ => orSelf)⟩
      have p1 : pDiv (yN left * yN o) 100 = some (yN (left * o / 100)) := by rw [yN_mul]; exact yp_div (by omega) (by omega) (by omega)
      have d10 : pDiv (yN c) 10 = some (yN (c / 10)) := yp_div (by omega) (by omega) (by omega)
      have i1 : (yN ((v + i) % E.2.2.1) < 0) = False := by rw [yN_ltl (by omega) (by omega)]; exact eq_false (by omega)
      have i2 : ((4 : Int32) ≤ yN ((v + i) % E.2.2.1)) = False := by rw [yN_lle (by omega) (by omega)]; exact eq_false (by omega)
      have e103 := s103 (κ := κ) (mv := c) ytw_153 T2 hn (by omega) (by omega)
      have sb : yN left - yN (left * o / 100) = yN (left - left * o / 100) := yN_sub hlost
      rw [b1, if_neg (by rw [yN_eqm (by omega)]; exact id)]
      simp (disch := first | assumption | omega) only [yBs, yi_116_8, b2, p1, i1, i2, if_false, yr_0_15, ya_159, es, yN_add, yst_159, hM2, yr_0_13, yr_0_8, yi_116_7, r7, d10, yt_is ytw_153, pG_t, e103, e3, sb, yN_addl]
      exact e'
end LS
def sLq (x j : Nat) : Prop := x = 181 ∨ x = 204 ∨ sBm x j
theorem sLq_R {x j : Nat} (h : sLq x j) : sR x j := by unfold sLq sBm sO sM at h; unfold sR; omega
theorem sLq_Rs {x j : Nat} (h : sLq x j) : sRs x j := by unfold sLq sBm sO sM at h; unfold sRs; omega
section LQ
variable {κ : yK} {E : zE}
theorem m244_74 (oE : okE E) {N : Nat} (hN : N ≤ 20) : ∀ (d i fu : Nat) (m : yM) (th : Nat → Int32) (n left : Nat) (sh : Nat → Nat) (u : Nat), i + d = N → d < fu → tOk th n → left ≤ 10000 → (∀ j, sh j + left ≤ 10000) → u < E.2.2.1 → Rx m 181 th n → m.1 181 49 = yN u → rEn m E → Sh m 204 sh → (0 < d → Br m (bC (tSf th n E.1 E.2.1) (zOn E.2.2.2.2 th n E.1 E.2.1 (E.2.2.2.1 u)) (30 * n))) →
    ∀ b : Int32, (0 < d → b = bI (bC (tSf th n E.1 E.2.1) (zOn E.2.2.2.2 th n E.1 E.2.1 (E.2.2.2.1 u)) (30 * n))) → ∃ m', f_244_74 fu 178 (yN N) (yN left) b (yN i) (yH κ m) = some (yN (lsR E.2.2.2.2 E.1 E.2.1 E.2.2.2.1 E.2.2.1 d th n left sh u).1, yH κ m') ∧ Sh m' 204 (lsR E.2.2.2.2 E.1 E.2.1 E.2.2.2.1 E.2.2.1 d th n left sh u).2 ∧ yFr sLq m m' := by
  obtain ⟨o1, o4, oh, oR⟩ := oE
  intro d
  induction d with
  | zero =>
    intro i fu m th n left sh u hi hf hk hl hs2 hu hx h49 hE hS hB b hb
    obtain ⟨fu, rfl⟩ : ∃ k, fu = k + 1 := ⟨fu - 1, by omega⟩
    obtain rfl : i = N := by omega
    refine ⟨m, ?_, hS, yFr.rf m⟩
    rw [f_244_74, if_pos (by rw [yN_le (by omega) (by omega)]; omega)]; rfl
  | succ d ih =>
    intro i fu m th n left sh u hi hf hk hl hs2 hu hx h49 hE hS hB b hb
    obtain ⟨fu, rfl⟩ : ∃ k, fu = k + 1 := ⟨fu - 1, by omega⟩
    have hn := hk.1
    have hB' := hB (by omega)
    have hbb := bC_B th n E.1 E.2.1 (E.2.2.2.1 u) E.2.2.2.2 (30 * n) (by omega)
    rw [hb (by omega), f_244_74, if_neg (by rw [yN_le (by omega) (by omega)]; omega), lsR]
    cases hst : bC (tSf th n E.1 E.2.1) (zOn E.2.2.2.2 th n E.1 E.2.1 (E.2.2.2.1 u)) (30 * n) with
    | none =>
      refine ⟨m, ?_, hS, yFr.rf m⟩
      rw [if_pos (by decide)]
    | some q =>
      obtain ⟨c, o, jj⟩ := q
      rw [hst] at hB' hbb
      obtain ⟨q1, q2, q3⟩ := hbb _ _ _ rfl
      have b25 : m.1 178 25 = yN o := hB'.1
      obtain ⟨hsf, hclt⟩ := bC_safe hst
      have hc := tSf_cg hsf
      have hkl := tLn_ok hk hc (tSf_2 hsf)
      have hw := tSf_w hk hsf
      have hlo : left * o ≤ 10000 * 100 := Nat.mul_le_mul hl q2
      have hlost : left * o / 100 ≤ left := by
        have : left * o ≤ left * 100 := Nat.mul_le_mul_left _ q2
        omega
      have hsu := hs2 u
      have E1 : rEn (yW m 204 u (yN (sh u + left * o / 100))) E := hE.g (yG.w (S := fun x _ => x = 204) m rfl) (fun x j q => by have : x = 204 := q; omega)
      have F1 : yFr sLq m (yW m 204 u (yN (sh u + left * o / 100))) := yFr.w m (by unfold sLq; omega)
      have T1 : Tor (yW m 204 u (yN (sh u + left * o / 100))) 181 th n := (hx.tor hc).g (yG.w (S := fun x _ => x = 204) m rfl) (fun j hj q => by have : 181 = 204 := q; omega)
      have S1 : Sh (yW m 204 u (yN (sh u + left * o / 100))) 204 (fun j => if j = u then sh j + left * o / 100 else sh j) := fun j hj => by
        rw [yW_get]
        by_cases hju : j = u
        · rw [if_pos ⟨rfl, hju⟩]; simp only [if_pos hju]; rw [hju]
        · rw [if_neg (by omega)]; simp only [if_neg hju]; exact hS j hj
      have n50 : (yW m 204 u (yN (sh u + left * o / 100))).1 181 50 = 0 := by rw [yW_row (by omega)]; exact hx.nf hc
      have n49 : (yW m 204 u (yN (sh u + left * o / 100))).1 181 49 = yN u := by rw [yW_row (by omega), h49]
      generalize hM1 : yW m 204 u (yN (sh u + left * o / 100)) = m1 at *
      obtain ⟨m2, e2, T2, -, F2⟩ := s203 (κ := κ) (t0 := E.1) (t1 := E.2.1) yAr_181 (by omega) hk T1 hc E1.1.1 E1.1.2 (show c < 2147483648 by omega)
      rw [hw] at e2
      rw [(tDt_0 hw).1, (tDt_0 hw).2] at T2
      have F2' : yFr sLq m1 m2 := F2.wk (fun x j q => by unfold sD sM at q; unfold sLq sBm sO sM; omega)
      have hu2 : (u + 1) % E.2.2.1 < E.2.2.1 := Nat.mod_lt _ (by omega)
      have F3 : yFr sLq m2 (yW m2 181 49 (yN ((u + 1) % E.2.2.1))) := yFr.w m2 (by unfold sLq; omega)
      have E3 : rEn (yW m2 181 49 (yN ((u + 1) % E.2.2.1))) E := (E1.g (F2.g (fun _ _ q => q)) (fun x j q => by unfold sD sM at q; omega)).g (yG.w (S := fun x _ => x = 181) m2 rfl) (fun x j q => by have : x = 181 := q; omega)
      have x3 : Rx (yW m2 181 49 (yN ((u + 1) % E.2.2.1))) 181 (tLn th n c) (tNn th n) := Or.inl ⟨by rw [yW_get, if_neg (by omega), F2.2 _ _ (by unfold sD sM; omega)]; exact n50, T2.g (yG.w (S := fun x j => x = 181 ∧ j = 49) m2 ⟨rfl, rfl⟩) (fun j hj q => by have := q.2; omega)⟩
      have n49' : (yW m2 181 49 (yN ((u + 1) % E.2.2.1))).1 181 49 = yN ((u + 1) % E.2.2.1) := by rw [yW_self, upd_eq]
      have S3 : Sh (yW m2 181 49 (yN ((u + 1) % E.2.2.1))) 204 (fun j => if j = u then sh j + left * o / 100 else sh j) := fun j hj => by rw [yW_row (by omega), F2.2 _ _ (by unfold sD sM; omega)]; exact S1 j hj
      have r49 : m2.1 181 49 = yN u := by rw [F2.2 _ _ (by unfold sD sM; omega)]; exact n49
      have r6 : m2.1 178 6 = yN E.2.2.1 := by rw [F2.2 _ _ (by unfold sD sM; omega)]; exact E1.2.1.1
      generalize hM3 : yW m2 181 49 (yN ((u + 1) % E.2.2.1)) = m3 at *
      obtain ⟨m4, e4, B4, F4⟩ := m211 (κ := κ) (Or.inr (Or.inl rfl)) hkl (oh _ hu2) oR x3 (show Ro m3 181 E.1 E.2.1 (E.2.2.2.1 ((u + 1) % E.2.2.1)) E.2.2.2.2 from ⟨⟨(u + 1) % E.2.2.1, by omega, n49', E3.2.1.2 _ hu2⟩, E3.2.2, E3.1.1, E3.1.2⟩)
      have F4' : yFr sLq m3 m4 := F4.wk (fun _ _ q => Or.inr (Or.inr q))
      have FF : yFr sLq m m4 := ((F1.tr F2' (S3 := sLq) (fun _ _ => orSelf)).tr F3 (S3 := sLq) (fun _ _ => orSelf)).tr F4' (fun _ _ => orSelf)
      obtain ⟨m', e', S', F'⟩ := ih (i + 1) fu m4 (tLn th n c) (tNn th n) (left - left * o / 100) _ ((u + 1) % E.2.2.1) (by omega) (by omega) hkl (by omega) (fun j => by
          have := hs2 j
          show (if j = u then sh j + left * o / 100 else sh j) + (left - left * o / 100) ≤ 10000
          split <;> omega) hu2 (x3.bm (Or.inr (Or.inl rfl)) F4) (by rw [F4.2 _ _ (by unfold sBm sO sM; omega)]; exact n49') (E3.g (F4.g (fun _ _ q => q)) (fun x j q => by unfold sBm sO sM at q; omega)) (fun j hj => by rw [F4.2 _ _ (by unfold sBm sO sM; omega)]; exact S3 j hj) (fun _ => B4) _ (fun _ => rfl)
      refine ⟨m', ?_, S', FF.tr F' (fun _ _ => orSelf)⟩
      have p1 : pDiv (yN left * yN o) 100 = some (yN (left * o / 100)) := by rw [yN_mul]; exact yp_div (by omega) (by omega) (by omega)
      have a49 : pAi (yH κ m) 181 49 = some (yN u) := by rw [yr_al yAr_181 (by omega)]; exact congrArg some h49
      have a49' : pAi (yH κ m2) 181 49 = some (yN u) := by rw [yr_al yAr_181 (by omega)]; exact congrArg some r49
      have s49 : pSi (yH κ m2) 181 49 (yN ((u + 1) % E.2.2.1)) = some (yH κ m3) := by rw [← hM3]; exact yr_sl yAr_181 (by omega)
      have es : m.1 204 u = yN (sh u) := hS u (by omega)
      have sb : yN left - yN (left * o / 100) = yN (left - left * o / 100) := yN_sub hlost
      have rm : pRem (yN (u + 1)) (yN E.2.2.1) = some (yN ((u + 1) % E.2.2.1)) := yp_remN (by omega) (by omega) (by omega)
      have hneg : ¬ (bI (some (c, o, jj)) < 0) := by show ¬ (yN c < 0); rw [yN_ltl (by omega) (by omega)]; omega
      rw [if_neg hneg]
      show ((pFi (yH κ m) 178 12 25).bind _) = _
      simp (disch := first | assumption | omega) only [yi_178_25, b25, yBs, p1, yr_178_43, yr_178_4, a49, ya_204, es, yN_add, yst_204, hM1, yis_178, pG_t, show bI (some (c, o, jj)) = yN c from rfl, e2, a49', yi_178_6, r6, yN_addl, rm, s49, e4, sb]
      exact e'
end LQ
