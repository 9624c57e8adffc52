/-! ===== moves() ===== -/
theorem tCg_lt {th : Nat → Int32} {n mv : Nat} (hk : tOk th n) (h : tCg th n mv = true) : mv < 30 * n := by
  obtain ⟨g1, g2, -⟩ := tCg_f hk h; omega
theorem tSf_cg {th : Nat → Int32} {n mv : Nat} {t0 t1 : Int32} (h : tSf th n t0 t1 mv = true) : tCg th n mv = true := by
  unfold tSf at h; simp only [Bool.and_eq_true] at h; exact h.1
theorem tSf_lt {th : Nat → Int32} {n mv : Nat} {t0 t1 : Int32} (hk : tOk th n) (h : tSf th n t0 t1 mv = true) : mv < 30 * n := tCg_lt hk (tSf_cg h)
/-- behind the first k moves: how many are safe, how many can be, the first, the last -/
def svS (th : Nat → Int32) (n : Nat) (t0 t1 : Int32) : Nat → Nat × Nat × Int32 × Int32
  | 0 => (0, 0, -1, -1)
  | k + 1 => ((svS th n t0 t1 k).1 + (tSf th n t0 t1 k).toNat, (svS th n t0 t1 k).2.1 + (tCg th n k).toNat, if tSf th n t0 t1 k = true then (if (svS th n t0 t1 k).2.2.1 = -1 then yN k else (svS th n t0 t1 k).2.2.1) else (svS th n t0 t1 k).2.2.1, if tSf th n t0 t1 k = true then yN k else (svS th n t0 t1 k).2.2.2)
theorem svS_s (th : Nat → Int32) (n : Nat) (t0 t1 : Int32) (k : Nat) : svS th n t0 t1 (k + 1) = ((svS th n t0 t1 k).1 + (tSf th n t0 t1 k).toNat, (svS th n t0 t1 k).2.1 + (tCg th n k).toNat, if tSf th n t0 t1 k = true then (if (svS th n t0 t1 k).2.2.1 = -1 then yN k else (svS th n t0 t1 k).2.2.1) else (svS th n t0 t1 k).2.2.1, if tSf th n t0 t1 k = true then yN k else (svS th n t0 t1 k).2.2.2) := rfl
theorem svS_le (th : Nat → Int32) (n : Nat) (t0 t1 : Int32) : ∀ k, (svS th n t0 t1 k).1 ≤ k ∧ (svS th n t0 t1 k).2.1 ≤ k := by
  intro k
  induction k with
  | zero => exact ⟨Nat.le_refl _, Nat.le_refl _⟩
  | succ k ih =>
    simp only [svS]
    have h1 := Bool.toNat_le (tSf th n t0 t1 k); have h2 := Bool.toNat_le (tCg th n k)
    constructor <;> omega
theorem svS_f (th : Nat → Int32) (n : Nat) (t0 t1 : Int32) : ∀ k, k ≤ 480 → (svS th n t0 t1 k).2.2.1 = -1 ∨ ∃ j, j < 480 ∧ (svS th n t0 t1 k).2.2.1 = yN j := by
  intro k
  induction k with
  | zero => intro _; exact Or.inl rfl
  | succ k ih =>
    intro hk
    simp only [svS]
    split
    · split
      · exact Or.inr ⟨k, by omega, rfl⟩
      · exact ih (by omega)
    · exact ih (by omega)
theorem svS_top {th : Nat → Int32} {n : Nat} {t0 t1 : Int32} (hk : tOk th n) : ∀ d, svS th n t0 t1 (30 * n + d) = svS th n t0 t1 (30 * n) := by
  intro d
  induction d with
  | zero => rfl
  | succ d ih =>
    rw [show 30 * n + (d + 1) = (30 * n + d) + 1 by omega, svS, ih]
    have h1 : tSf th n t0 t1 (30 * n + d) = false := by
      cases h : tSf th n t0 t1 (30 * n + d) with
      | false => rfl
      | true => have := tSf_lt hk h; omega
    have h2 : tCg th n (30 * n + d) = false := by
      cases h : tCg th n (30 * n + d) with
      | false => rfl
      | true => have := tCg_lt hk h; omega
    rw [h1, h2]; rfl
/-- rows that searches of moves on the tower at a may write -/
def sCh (a x j : Nat) : Prop := sT a x j ∨ sW x j ∨ x = 114 ∨ x = 116 ∨ x = 117
section SV
variable {κ : yK} {a n : Nat} {th : Nat → Int32} {t0 t1 : Int32}
theorem s8_27 (ha : yTw a) (hd : a + 4 < 105 ∨ 117 < a) (hk : tOk th n) : ∀ (d k fu : Nat) (m : yM), k + d = 30 * n → d < fu → Tow m a th n → m.1 106 0 = t0 → m.1 106 1 = t1 → m.1 116 3 = yN (svS th n t0 t1 k).1 → m.1 116 4 = yN (svS th n t0 t1 k).2.1 → m.1 116 5 = (svS th n t0 t1 k).2.2.1 → m.1 116 6 = (svS th n t0 t1 k).2.2.2 →
    ∃ m', f_8_27 fu 116 a (yN (30 * n)) (yN k) (yH κ m) = some (yH κ m') ∧ Tow m' a th n ∧ m'.1 116 3 = yN (svS th n t0 t1 (30 * n)).1 ∧ m'.1 116 4 = yN (svS th n t0 t1 (30 * n)).2.1 ∧ m'.1 116 5 = (svS th n t0 t1 (30 * n)).2.2.1 ∧ m'.1 116 6 = (svS th n t0 t1 (30 * n)).2.2.2 ∧ yFr (fun x j => sTW a x j ∨ (x = 116 ∧ j < 7)) m m' := by
  have hn := hk.1
  intro d
  induction d with
  | zero =>
    intro k fu m hd2 hf ht h0 h1 h3 h4 h5 h6
    obtain ⟨fu, rfl⟩ : ∃ k, fu = k + 1 := ⟨fu - 1, by omega⟩
    obtain rfl : k = 30 * n := by omega
    refine ⟨m, ?_, ht, h3, h4, h5, h6, yFr.rf m⟩
    rw [f_8_27, if_pos (by rw [yN_le (by omega) (by omega)]; omega)]
  | succ d ih =>
    intro k fu m hd2 hf ht h0 h1 h3 h4 h5 h6
    obtain ⟨fu, rfl⟩ : ∃ k, fu = k + 1 := ⟨fu - 1, by omega⟩
    have hsv := svS_le th n t0 t1 k
    have hb2 := Bool.toNat_le (tCg th n k)
    have hb1 := Bool.toNat_le (tSf th n t0 t1 k)
    have gW : ∀ (m : yM) (j : Nat) (x : Int32), j < 7 → yFr (fun x j => sTW a x j ∨ (x = 116 ∧ j < 7)) m (yW m 116 j x) := fun m j x hj => yFr.w m (Or.inr ⟨rfl, hj⟩)
    have tW1 : ∀ (m : yM) (j : Nat) (x : Int32), Tow m a th n → Tow (yW m 116 j x) a th n := fun m j x h => h.g (yG.w (S := fun x _ => x = 116) m rfl) (fun x j p q r => by have : x = 116 := r; omega)
    obtain ⟨m2, e2, T2, -, F2⟩ := s7 (κ := κ) (mv := k) ha (by omega) hk (tW1 m 4 (yN ((svS th n t0 t1 k).2.1 + (tCg th n k).toNat)) ht) (by rw [yW_row (by omega), h0]) (by rw [yW_row (by omega), h1]) (by omega)
    have f116 : ∀ j, m2.1 116 j = (yW m 116 4 (yN ((svS th n t0 t1 k).2.1 + (tCg th n k).toNat))).1 116 j := fun j => F2.2 _ _ (by unfold sTW sT sW; omega)
    have f106 : ∀ j, m2.1 106 j = m.1 106 j := fun j => by rw [F2.2 _ _ (by unfold sTW sT sW; omega), yW_row (by omega)]
    have c3 : m2.1 116 3 = yN (svS th n t0 t1 k).1 := by rw [f116, yW_get, if_neg (by omega), h3]
    have c4 : m2.1 116 4 = yN ((svS th n t0 t1 k).2.1 + (tCg th n k).toNat) := by rw [f116, yW_self, upd_eq]
    have c5 : m2.1 116 5 = (svS th n t0 t1 k).2.2.1 := by rw [f116, yW_get, if_neg (by omega), h5]
    have c6 : m2.1 116 6 = (svS th n t0 t1 k).2.2.2 := by rw [f116, yW_get, if_neg (by omega), h6]
    have wc : (if yB (tCg th n k) = 0 then some 0 else some 1 : Option Int32) = some (yN (tCg th n k).toNat) := by cases tCg th n k <;> rfl
    have F12 : yFr (fun x j => sTW a x j ∨ (x = 116 ∧ j < 7)) m m2 := (gW m 4 _ (by omega)).tr F2 (fun x j q => q.elim id Or.inl)
    rw [f_8_27, if_neg (by rw [yN_le (by omega) (by omega)]; omega)]
    cases hs : tSf th n t0 t1 k with
    | false =>
      rw [hs, yB_f] at e2
      obtain ⟨m', e', T', r3, r4, r5, r6, F'⟩ := ih (k + 1) fu m2 (by omega) (by omega) T2 (by rw [f106, h0]) (by rw [f106, h1]) (by rw [c3]; simp only [svS, hs]; rfl) (by rw [c4]; simp only [svS]) (by rw [c5]; simp only [svS, hs]; rfl) (by rw [c6]; simp only [svS, hs]; rfl)
      refine ⟨m', ?_, T', r3, r4, r5, r6, F12.tr F' (fun _ _ => orSelf)⟩
      simp (disch := first | assumption | omega) only [yi_116_4, h4, yt_is ha, s102 ha ht hk, yBs, pG_t, pZ_0, pZ_1, pZ_B, wc, yN_add, yp_116_4, yis_116, e2, if_true, yN_addl]
      exact e'
    | true =>
      rw [hs, yB_t] at e2
      have w5 : (if (svS th n t0 t1 k).2.2.1 = -1 then some (yN k) else some (svS th n t0 t1 k).2.2.1 : Option Int32) = some (if (svS th n t0 t1 k).2.2.1 = -1 then yN k else (svS th n t0 t1 k).2.2.1) := yIte_some _ _ _
      have T5 := tW1 _ 6 (yN k) (tW1 _ 5 (if (svS th n t0 t1 k).2.2.1 = -1 then yN k else (svS th n t0 t1 k).2.2.1) (tW1 _ 3 (yN ((svS th n t0 t1 k).1 + 1)) T2))
      have F5 := ((F12.tr (gW _ 3 (yN ((svS th n t0 t1 k).1 + 1)) (by omega)) (fun _ _ => orSelf)).tr (gW _ 5 (if (svS th n t0 t1 k).2.2.1 = -1 then yN k else (svS th n t0 t1 k).2.2.1) (by omega)) (fun _ _ => orSelf)).tr (gW _ 6 (yN k) (by omega)) (fun _ _ => orSelf)
      obtain ⟨m', e', T', r3, r4, r5, r6, F'⟩ := ih (k + 1) fu _ (by omega) (by omega) T5 (by rw [yW_row (by omega), yW_row (by omega), yW_row (by omega), f106, h0]) (by rw [yW_row (by omega), yW_row (by omega), yW_row (by omega), f106, h1])
        (by rw [yW_get, if_neg (by omega), yW_get, if_neg (by omega), yW_self, upd_eq]; simp only [svS, hs]; rfl)
        (by rw [yW_get, if_neg (by omega), yW_get, if_neg (by omega), yW_get, if_neg (by omega), c4]; simp only [svS])
        (by rw [yW_get, if_neg (by omega), yW_self, upd_eq]; simp only [svS, hs]; rfl)
        (by rw [yW_self, upd_eq]; simp only [svS, hs]; rfl)
      refine ⟨m', ?_, T', r3, r4, r5, r6, F5.tr F' (fun _ _ => orSelf)⟩
      have d5 : (yW m2 116 3 (yN ((svS th n t0 t1 k).1 + 1))).1 116 5 = (svS th n t0 t1 k).2.2.1 := by rw [yW_get, if_neg (by omega), c5]
      simp (disch := first | assumption | omega) only [yi_116_4, h4, yt_is ha, s102 ha ht hk, yBs, pG_t, pZ_0, pZ_1, pZ_B, wc, yN_add, yp_116_4, yis_116, e2, y10, if_false, yi_116_3, c3, yp_116_3, yi_116_5, d5, w5, yp_116_5, yp_116_6, yN_addl]
      exact e'
/-- survey() -/
theorem s8 {m : yM} (ha : yTw a) (hd : a + 4 < 105 ∨ 117 < a) (hk : tOk th n) (ht : Tow m a th n) (h0 : m.1 106 0 = t0) (h1 : m.1 106 1 = t1) :
    ∃ m', f_8 116 a (yH κ m) = some (yH κ m') ∧ Tow m' a th n ∧ m'.1 116 3 = yN (svS th n t0 t1 (30 * n)).1 ∧ m'.1 116 4 = yN (svS th n t0 t1 (30 * n)).2.1 ∧ m'.1 116 5 = (svS th n t0 t1 (30 * n)).2.2.1 ∧ m'.1 116 6 = (svS th n t0 t1 (30 * n)).2.2.2 ∧ yFr (fun x j => sTW a x j ∨ (x = 116 ∧ j < 7)) m m' := by
  have hn := hk.1
  have gW : ∀ (m : yM) (j : Nat) (x : Int32), j < 7 → yFr (fun x j => sTW a x j ∨ (x = 116 ∧ j < 7)) m (yW m 116 j x) := fun m j x hj => yFr.w m (Or.inr ⟨rfl, hj⟩)
  have tW1 : ∀ (m : yM) (j : Nat) (x : Int32), Tow m a th n → Tow (yW m 116 j x) a th n := fun m j x h => h.g (yG.w (S := fun x _ => x = 116) m rfl) (fun x j p q r => by have : x = 116 := r; omega)
  have F := (((gW m 3 0 (by omega)).tr (gW _ 4 0 (by omega)) (fun _ _ => orSelf)).tr (gW _ 5 (-1) (by omega)) (fun _ _ => orSelf)).tr (gW _ 6 (-1) (by omega)) (fun _ _ => orSelf)
  obtain ⟨m', e', T', r3, r4, r5, r6, F'⟩ := s8_27 (κ := κ) (t0 := t0) (t1 := t1) ha hd hk (30 * n) 0 100000 (yW (yW (yW (yW m 116 3 0) 116 4 0) 116 5 (-1)) 116 6 (-1)) (by omega) (by omega) (tW1 _ _ _ (tW1 _ _ _ (tW1 _ _ _ (tW1 _ _ _ ht)))) (by rw [yW_row (by omega), yW_row (by omega), yW_row (by omega), yW_row (by omega), h0]) (by rw [yW_row (by omega), yW_row (by omega), yW_row (by omega), yW_row (by omega), h1])
    (by simp [yW_get]; rfl) (by simp [yW_get]; rfl) (by simp [yW_get]; rfl) (by simp [yW_get]; rfl)
  refine ⟨m', ?_, T', r3, r4, r5, r6, F.tr F' (fun _ _ => orSelf)⟩
  unfold f_8
  have e2 : f_8_27 100000 116 a (yN (30 * n)) 0 (yH κ (yW (yW (yW (yW m 116 3 0) 116 4 0) 116 5 (-1)) 116 6 (-1))) = some (yH κ m') := e'
  simp (disch := first | assumption | omega) only [yt_is ha, s101 ha ht, yBs, pG_t, pZ_0, pZ_1, pZ_B, yp_116_3, yp_116_4, yp_116_5, yp_116_6, e2]
end SV
/-- the tower in which moves are looked for; where the class has it -/
def zMT (A : zT) : (Nat → Int32) × Nat := if zho A = 0 then (zth A, zn A) else (zB0, 0)
def zad (A : zT) : Nat := if zho A = 0 then 6 else 148
theorem zMT_ok {A : zT} (h : zOkT A) : tOk (zMT A).1 (zMT A).2 := by
  unfold zMT; split
  · exact h.1
  · exact zB0_ok
theorem zad_tw {A : zT} : yTw (zad A) := by unfold zad; split; exact ytw_6; exact ytw_148
theorem zad_or {A : zT} : (zad A = 6 ∧ zho A = 0) ∨ (zad A = 148 ∧ zho A ≠ 0) := by
  unfold zad; split
  next h => exact Or.inl ⟨rfl, h⟩
  next h => exact Or.inr ⟨rfl, h⟩
section MT
variable {κ : yK} {m m' : yM} {A : zT} {H : zH} {K : zK} {C : zC} {D : List Int64} {E : zE} {F : zF}
theorem Cl.mt (c : Cl m A H K C D E F) : Tow m (zad A) (zMT A).1 (zMT A).2 := by
  unfold zad zMT
  by_cases h : zho A = 0
  · rw [if_pos h, if_pos h]; exact c.1.1
  · rw [if_neg h, if_neg h]; exact c.2.2.2.2.2.1.2.2.2.1
theorem s125z (c : Cl m A H K C D E F) (o : Ok A H K C D E F) : f_125 0 (yH κ m) = some (zad A, yH κ m) := s125 c.1 o.1.1.2.2.2
/-- behind a search of moves that put the tower back -/
theorem Cl.ch (c : Cl m A H K C D E F) (o : H.1 ≤ 15) (g : yG (sCh (zad A)) m m') (ht : Tow m' (zad A) (zMT A).1 (zMT A).2) : Cl m' A H K C D E F := by
  rcases zad_or (A := A) with ⟨ha, hh⟩ | ⟨ha, hh⟩
  · rw [ha] at g ht
    have e : zMT A = (zth A, zn A) := by unfold zMT; rw [if_pos hh]
    rw [e] at ht
    exact c.tow o g (fun x j q => by unfold sCh sT sW at q; unfold sCs; omega) ht
  · rw [ha] at g ht
    have e : zMT A = (zB0, 0) := by unfold zMT; rw [if_neg hh]
    rw [e] at ht
    obtain ⟨e1, e2, e3, e4, e5, e6⟩ := c.2.2.2.2.2.1
    refine c.fE o g (fun x j q => by unfold sCh sT sW at q; unfold sCs; omega) ⟨?_, ?_, ?_, ht, ?_, ?_⟩
    · rw [(g 106 0 (by unfold sCh sT sW; omega)).1, (g 106 1 (by unfold sCh sT sW; omega)).1]; exact e1
    · exact ⟨by rw [(g 0 16 (by unfold sCh sT sW; omega)).1]; exact e2.1, fun k hk => by rw [(g 158 k (by unfold sCh sT sW; omega)).1]; exact e2.2 k hk⟩
    · exact ⟨by rw [(g 110 5 (by unfold sCh sT sW; omega)).1]; exact e3.1, fun k hk => by rw [(g 111 k (by unfold sCh sT sW; omega)).1]; exact e3.2 k hk⟩
    · intro j hj; rw [(g 120 j (by unfold sCh sT sW; omega)).1]; exact e5 j hj
    · intro j hj; rw [(g 154 j (by unfold sCh sT sW; omega)).1]; exact e6 j hj
theorem sCh_C {x j : Nat} (h : sCh (zad A) x j) : sC x j := by
  rcases zad_or (A := A) with ⟨ha, -⟩ | ⟨ha, -⟩ <;> rw [ha] at h <;> unfold sCh sT sW at h <;> unfold sC <;> omega
/-- the reference: can it be, is it safe -/
theorem m202 {mv : Nat} (c : Rf m A H K C D E F) (o : Ok A H K C D E F) (hm : mv < 2147483648) : f_202 180 (yN mv) (yH κ m) = some (yB (tCg (zMT A).1 (zMT A).2 mv), yH κ m) := by
  have h4 := o.1.1.2.2.2
  have r50 : m.1 180 50 = yN (zho A) := c.1.2.2.2.1
  unfold zMT
  by_cases h : zho A = 0
  · rw [if_pos h]; exact s202 yAr_180 c.1.tor o.1.1.1 (by rw [r50, h]; rfl) hm
  · rw [if_neg h, tCg_b0]
    exact s202f yAr_180 (by rw [r50, show (0 : Int32) = yN 0 from rfl, yN_lt (by omega) (by omega)]; omega)
theorem tSf_b0 {mv : Nat} {t0 t1 : Int32} : tSf zB0 0 t0 t1 mv = false := by unfold tSf; rw [tCg_b0]; rfl
theorem m204 {mv : Nat} (c : Rf m A H K C D E F) (o : Ok A H K C D E F) (hm : mv < 2147483648) : ∃ m', f_204 178 180 (yN mv) (yH κ m) = some (yB (tSf (zMT A).1 (zMT A).2 E.1 E.2.1 mv), yH κ m') ∧ Rf m' A H K C D E F ∧ yG sI m m' := by
  have h4 := o.1.1.2.2.2
  have r50 : m.1 180 50 = yN (zho A) := c.1.2.2.2.1
  unfold zMT
  by_cases h : zho A = 0
  · rw [if_pos h]
    obtain ⟨m1, e1, F1⟩ := s204 (κ := κ) yAr_180 (by omega) o.1.1.1 c.1.tor (by rw [r50, h]; rfl) c.2.2.2.2.2.1.1.1 c.2.2.2.2.2.1.1.2 hm
    exact ⟨m1, e1, c.fr (F1.g (fun _ _ q => q)) (fun x j q => by unfold sI sM at q; unfold sRs; omega), F1.g (fun _ _ q => q)⟩
  · rw [if_neg h, tSf_b0]
    exact ⟨m, s204f yAr_180 (by rw [r50, show (0 : Int32) = yN 0 from rfl, yN_lt (by omega) (by omega)]; omega), c, yG.rf m⟩
theorem sI_R {x j : Nat} (h : sI x j) : sR x j := by unfold sI sM at h; unfold sR; omega
theorem m209_17 (o : Ok A H K C D E F) : ∀ (d k fu : Nat) (m : yM), k + d = 480 → d < fu → Rf m A H K C D E F → ∃ m', f_209_17 fu 178 (yN (svS (zMT A).1 (zMT A).2 E.1 E.2.1 k).1) (yN (svS (zMT A).1 (zMT A).2 E.1 E.2.1 k).2.1) (svS (zMT A).1 (zMT A).2 E.1 E.2.1 k).2.2.1 (svS (zMT A).1 (zMT A).2 E.1 E.2.1 k).2.2.2 (yN k) (yH κ m) = some (yN (svS (zMT A).1 (zMT A).2 E.1 E.2.1 480).1, yN (svS (zMT A).1 (zMT A).2 E.1 E.2.1 480).2.1, (svS (zMT A).1 (zMT A).2 E.1 E.2.1 480).2.2.1, (svS (zMT A).1 (zMT A).2 E.1 E.2.1 480).2.2.2, yH κ m') ∧ Rf m' A H K C D E F ∧ yG sI m m' := by
  intro d
  induction d with
  | zero =>
    intro k fu m hd hf c
    obtain ⟨fu, rfl⟩ : ∃ k, fu = k + 1 := ⟨fu - 1, by omega⟩
    obtain rfl : k = 480 := by omega
    refine ⟨m, ?_, c, yG.rf m⟩
    rw [f_209_17, if_pos (by decide)]
  | succ d ih =>
    intro k fu m hd hf c
    obtain ⟨fu, rfl⟩ : ∃ k, fu = k + 1 := ⟨fu - 1, by omega⟩
    have hsv := svS_le (zMT A).1 (zMT A).2 E.1 E.2.1 k
    obtain ⟨m1, e1, c1, g1⟩ := m204 (κ := κ) (mv := k) c o (by omega)
    obtain ⟨m', e', c', g'⟩ := ih (k + 1) fu m1 (by omega) (by omega) c1
    refine ⟨m', ?_, c', g1.tr g' (fun _ _ => orSelf)⟩
    have w2 : ∀ b : Bool, yB b = yN b.toNat := fun b => by cases b <;> rfl
    have w0 : (if 0 ≤ (svS (zMT A).1 (zMT A).2 E.1 E.2.1 k).2.2.1 then some (svS (zMT A).1 (zMT A).2 E.1 E.2.1 k).2.2.1 else some (yN k) : Option Int32) = some (if (svS (zMT A).1 (zMT A).2 E.1 E.2.1 k).2.2.1 = -1 then yN k else (svS (zMT A).1 (zMT A).2 E.1 E.2.1 k).2.2.1) := by
      rcases svS_f (zMT A).1 (zMT A).2 E.1 E.2.1 k (by omega) with q | ⟨j, hj, q⟩
      · rw [q, if_neg (by decide), if_pos rfl]
      · rw [q, if_pos (by rw [yI0n (by omega)]; trivial), if_neg (by rw [yN_eqm (by omega)]; exact id)]
    rw [f_209_17, if_neg (by rw [yN_lle (by omega) (by omega)]; omega)]
    cases hs : tSf (zMT A).1 (zMT A).2 E.1 E.2.1 k with
    | false =>
      rw [hs, yB_f] at e1
      simp (disch := first | assumption | omega) only [yr_178_3, m202 c o, yBs, pG_t, pZ_0, pZ_1, pZ_B, s163, yis_178, e1, if_true, yN_addl]
      rw [w2, yN_add]
      rw [svS_s _ _ _ _ k, hs] at e'
      exact e'
    | true =>
      rw [hs, yB_t] at e1
      simp (disch := first | assumption | omega) only [yr_178_3, m202 c o, yBs, pG_t, pZ_0, pZ_1, pZ_B, s163, yis_178, e1, y10, if_false, w0, yN_addl]
      rw [w2, yN_add]
      rw [svS_s _ _ _ _ k, hs] at e'
      exact e'
end MT
theorem z_moves : zCall (f_127 0) (f_209 178) := by
  intro κ A H K C D E F o
  have hk := zMT_ok o.1.1
  have hn := hk.1
  have et : svS (zMT A).1 (zMT A).2 E.1 E.2.1 480 = svS (zMT A).1 (zMT A).2 E.1 E.2.1 (30 * (zMT A).2) := by
    have := svS_top (t0 := E.1) (t1 := E.2.1) hk (480 - 30 * (zMT A).2)
    rwa [show 30 * (zMT A).2 + (480 - 30 * (zMT A).2) = 480 by omega] at this
  refine ⟨yN (svS (zMT A).1 (zMT A).2 E.1 E.2.1 480).1, A, H, K, C, [(svS (zMT A).1 (zMT A).2 E.1 E.2.1 480).2.2.1.toInt64, (svS (zMT A).1 (zMT A).2 E.1 E.2.1 480).2.2.2.toInt64, (yN (svS (zMT A).1 (zMT A).2 E.1 E.2.1 480).2.1).toInt64], E, F, ⟨o.1, o.2.1, o.2.2.1, o.2.2.2.1, by simp, o.2.2.2.2.2⟩, fun m c => ?_, fun m c => ?_⟩
  · obtain ⟨m1, e1, T1, r3, r4, r5, r6, F1⟩ := s8 (κ := κ) zad_tw (by rcases zad_or (A := A) with ⟨q, -⟩ | ⟨q, -⟩ <;> omega) hk c.mt c.2.2.2.2.2.1.1.1 c.2.2.2.2.2.1.1.2
    have G1 : yG (sCh (zad A)) m m1 := F1.g (fun x j q => by unfold sTW sT sW at q; unfold sCh sT sW; omega)
    have c1 := c.ch o.2.1.1 G1 T1
    rw [et]
    refine ⟨_, ?_, c1.row o.2.1.1 _, (G1.wk (fun _ _ => sCh_C)).tr (rAs_g m1 _) (fun x j q => q.elim id sA3_C)⟩
    unfold f_127
    have k1 : ∀ l : List Int64, (rAs m1 l).1 116 = m1.1 116 := fun l => rAs_row (by omega)
    simp (disch := first | assumption | omega) only [yr_0_8, yis_0, yBs, pG_t, pZ_0, pZ_1, pZ_B, s125z c o, yis_116, e1, yr_0_1, yis_3, s50, s51a, s51b, s51c, yi_116_5, yi_116_6, yi_116_4, yi_116_3, k1, r3, r4, r5, r6]
  · obtain ⟨c0, g0⟩ := c.th 0
    obtain ⟨m1, e1, c1, g1⟩ := m209_17 (κ := κ) o 480 0 100000 (yW m 178 0 0) (by omega) (by omega) c0
    refine ⟨_, ?_, c1.row _, (g0.tr (g1.wk (S3 := sR) (fun _ _ => sI_R)) (fun _ _ => orSelf)).tr (rBs_g m1 _) (fun x j q => q.elim id sB3_R)⟩
    unfold f_209
    have e2 : f_209_17 100000 178 0 0 (-1) (-1) 0 (yH κ (yW m 178 0 0)) = _ := e1
    simp (disch := first | assumption | omega) only [yp_178_0, yBs, e2, yp_178_1, yis_178, yBs, pG_t, pZ_0, pZ_1, pZ_B, s165_0, s165b, s165c]
