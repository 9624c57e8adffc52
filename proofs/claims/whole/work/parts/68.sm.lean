/-! ===== the reference: tightIn(), entersRow(); the class: tellThicknesses() ===== -/
theorem qC_tk {L : List qT} {k i : Nat} {t : qT} (h : L[k]? = some t) : qC (L.take (k + 1)) i = qC (L.take k) i + ((qB t).testBit i).toNat := by
  rw [List.take_add_one, h]; exact qC_ap _ _ _
theorem qS_tk {L : List qT} {k i : Nat} {t : qT} (h : L[k]? = some t) : qS (L.take (k + 1)) i = qS (L.take k) i ||| qW (qI t i) := by
  rw [List.take_add_one, h]; exact qS_ap _ _ _
section SM
variable {κ : yK} {th : Nat → Int32} {F : zF} {l n : Nat}
theorem m253 {t : qT} {i : Nat} {h : xH} (hi : i < 3) (hg : ∀ i, i < 3 → qI t i ≤ 10) : f_253 (qK t) (yN i) h = some (yN (qI t i - 1), h) := by
  have a0 : t.1 ≤ 10 := hg 0 (by omega)
  have a1 : t.2.1 ≤ 10 := hg 1 (by omega)
  have a2 : t.2.2 ≤ 10 := hg 2 (by omega)
  unfold f_253 qK
  by_cases i0 : i = 0
  · subst i0
    rw [if_pos (by decide), yp_div (by omega) (by omega) (by omega), yBs, yBs]
    congr 2
    show yN ((100 * (t.1 - 1) + 10 * (t.2.1 - 1) + (t.2.2 - 1)) / 100) = yN (t.1 - 1)
    congr 1; omega
  · rw [if_neg (by rw [yN_eql (by omega) (by omega)]; exact i0)]
    by_cases i1 : i = 1
    · subst i1
      rw [if_pos (by decide), yp_div (by omega) (by omega) (by omega), yBs, yp_rem (by omega) (by omega) (by omega), yBs, yBs]
      congr 2
      show yN ((100 * (t.1 - 1) + 10 * (t.2.1 - 1) + (t.2.2 - 1)) / 10 % 10) = yN (t.2.1 - 1)
      congr 1; omega
    · obtain rfl : i = 2 := by omega
      rw [if_neg (by decide), yp_rem (by omega) (by omega) (by omega), yBs, yBs]
      congr 2
      show yN ((100 * (t.1 - 1) + 10 * (t.2.1 - 1) + (t.2.2 - 1)) % 10) = yN (t.2.2 - 1)
      congr 1; omega
theorem m253h {t : qT} {i : Nat} {h : xH} (hi : i < 3) (hg : qG th l t) (hh : tHas th (3 * l + i) = true) : f_253 (qK t) (yN i) h = some (tEn (qI t i), h) := by
  rw [m253 hi (fun i q => (hg i q).1)]
  have g := hg i hi
  have n0 : qI t i ≠ 0 := fun q => by have := g.2.1 q; rw [hh] at this; exact absurd this (by decide)
  have := tEn_su ⟨qI t i - 1, by omega⟩
  dsimp only at this
  rw [show qI t i - 1 + 1 = qI t i by omega] at this
  rw [this]
theorem m257_32 {t : qT} {k : Nat} {p c : Int32} {L : List qT} (hl : l < 16) (hr : tRg th) (hk : L[k]? = some t) (hk2 : k < 1000) (hg : qG th l t) : ∀ (d i fu : Nat) (m : yM), i + d = 3 → d < fu → Tor m 180 th n → Sr m L →
    ∃ m', f_257_32 fu 178 p (yN l) c (yN k) (yN i) (yH κ m) = some (yH κ m') ∧ (∀ j, j < 3 → i ≤ j → m'.1 181 (3 * l + j) = tEn (qI t j)) ∧ (∀ j, j < i → m'.1 181 (3 * l + j) = m.1 181 (3 * l + j)) ∧ yFr (fun x _ => x = 181) m m' := by
  intro d
  induction d with
  | zero =>
    intro i fu m hi hf hR hS
    obtain ⟨fu, rfl⟩ : ∃ k, fu = k + 1 := ⟨fu - 1, by omega⟩
    obtain rfl : i = 3 := by omega
    refine ⟨m, ?_, fun j hj q => by omega, fun j hj => rfl, yFr.rf m⟩
    rw [f_257_32, if_pos (by decide)]
  | succ d ih =>
    intro i fu m hi hf hR hS
    obtain ⟨fu, rfl⟩ : ∃ k, fu = k + 1 := ⟨fu - 1, by omega⟩
    have g : yFr (fun x _ => x = 181) m (yW m 181 (3 * l + i) (tEn (qI t i))) := yFr.w m rfl
    have w0 : ∀ j, (yW m 181 (3 * l + i) (tEn (qI t i))).1 181 (3 * l + j) = if j = i then tEn (qI t i) else m.1 181 (3 * l + j) := fun j => by
      rw [yW_get]
      by_cases q : j = i
      · rw [if_pos ⟨rfl, by omega⟩, if_pos q]
      · rw [if_neg (by omega), if_neg q]
    have st : f_257_32 (fu + 1) 178 p (yN l) c (yN k) (yN i) (yH κ m) = f_257_32 fu 178 p (yN l) c (yN k) (yN (i + 1)) (yH κ (yW m 181 (3 * l + i) (tEn (qI t i)))) := by
      rw [f_257_32, if_neg (by rw [yN_lle (by omega) (by omega)]; omega), yr_178_4, yBs, yr_178_3, yBs, yN_lmul, yN_add, yr_a yAr_180 (by omega), yBs, hR.1 _ (by omega)]
      simp only [tHas_ge hr (show 3 * l + i < 48 by omega)]
      cases hh : tHas th (3 * l + i) with
      | true =>
        rw [if_pos rfl, yr_178_49, yBs, ya_209 hk2, yBs, hS.2 k t hk, m253h (by omega) hg hh, yBs, yBs]
        dsimp only
        rw [yr_s yAr_181 (by omega), yBs, yN_addl]
      | false =>
        rw [if_neg (by decide), yBs]
        dsimp only
        rw [(hg i (by omega)).2.2 hh, yr_s yAr_181 (by omega), yBs, yN_addl]; rfl
    rw [st]
    generalize yW m 181 (3 * l + i) (tEn (qI t i)) = m1 at *
    obtain ⟨m', e', a', b', f'⟩ := ih (i + 1) fu m1 (by omega) (by omega) (hR.g (g.g (fun _ _ => id)) (fun j _ q => by omega)) ⟨by rw [g.2 _ _ (by omega)]; exact hS.1, fun j t h => by rw [g.2 _ _ (by omega)]; exact hS.2 j t h⟩
    refine ⟨m', e', fun j hj q => ?_, fun j hj => ?_, g.tr f' (fun _ _ => orSelf)⟩
    · by_cases r : j = i
      · subst r; rw [b' j (by omega), w0, if_pos rfl]
      · exact a' j hj (by omega)
    · rw [b' j (by omega), w0, if_neg (by omega)]
theorem m257_20 {b : Nat} {L : List qT} (hl : l < 16) (hb : b / 3 = l) (h0 : 0 < tBl th l) (hr : tRg th) (hL : L.length ≤ 1000) (hg : ∀ t, t ∈ L → qG th l t) : ∀ (d k fu : Nat) (m : yM), k + d = L.length → d < fu → Tor m 180 th n → Sr m L →
    ∃ m', f_257_20 fu 178 (yN b) (yN l) (yN (qC (L.take k) (b % 3))) (yN k) (yH κ m) = some (yN (qC L (b % 3)), yH κ m') ∧ yFr (fun x _ => x = 181) m m' := by
  intro d
  induction d with
  | zero =>
    intro k fu m hk hf hR hS
    obtain ⟨fu, rfl⟩ : ∃ k, fu = k + 1 := ⟨fu - 1, by omega⟩
    obtain rfl : k = L.length := by omega
    refine ⟨m, ?_, yFr.rf m⟩
    rw [f_257_20, yi_178_50, yBs, hS.1, if_pos (by rw [yN_le (by omega) (by omega)]; omega), List.take_length]
  | succ d ih =>
    intro k fu m hk hf hR hS
    obtain ⟨fu, rfl⟩ : ∃ k, fu = k + 1 := ⟨fu - 1, by omega⟩
    have hkl : k < L.length := by omega
    have hkt : L[k]? = some L[k] := List.getElem?_eq_getElem hkl
    have hgt := hg L[k] (List.getElem_mem hkl)
    generalize L[k] = t at hkt hgt
    obtain ⟨m1, e1, a1, -, F1⟩ := m257_32 (κ := κ) (p := yN b) (c := yN (qC (L.take k) (b % 3))) hl hr hkt (by omega) hgt 3 0 100000 m rfl (by omega) hR hS
    have h3 : ∀ i, i < 3 → m1.1 181 (3 * l + i) = tEn (qI t i) := fun i hi => a1 i hi (Nat.zero_le _)
    have h8 : qB t < 8 := (qBt_ok (hgt 0 (by omega)).1 (hgt 1 (by omega)).1 (hgt 2 (by omega)).1 (qG_pos hgt h0)).1
    have eb := (q8b ⟨_, h8⟩ 0 ⟨b % 3, Nat.mod_lt _ (by omega)⟩).2.2.2.2
    dsimp only at eb
    have e186 : f_186 181 (yN b) (yH κ m1) = some (yB ((qB t).testBit (b % 3)), yH κ m1) := by
      unfold f_186
      rw [yp_div (by omega) (by omega) (by omega), yBs, hb, m185q hl hgt h0 h3, yBs]
      dsimp only
      rw [yp_rem (by omega) (by omega) (by omega), yBs, eb]
      cases (qB t).testBit (b % 3)
      · rw [yB_f, if_neg (by decide), yBs]; exact pZ_0 _
      · rw [yB_t, if_pos rfl, yBs]; exact pZ_1 _
    obtain ⟨m', e', F'⟩ := ih (k + 1) fu m1 (by omega) (by omega) (hR.g (F1.g (fun _ _ => id)) (fun j _ q => by omega)) ⟨by rw [F1.2 _ _ (by omega)]; exact hS.1, fun j t h => by rw [F1.2 _ _ (by omega)]; exact hS.2 j t h⟩
    refine ⟨m', ?_, F1.tr F' (fun _ _ => orSelf)⟩
    have ey : yB ((qB t).testBit (b % 3)) = yN ((qB t).testBit (b % 3)).toNat := by cases (qB t).testBit (b % 3) <;> rfl
    rw [f_257_20, yi_178_50, yBs, hS.1, if_neg (by rw [yN_le (by omega) (by omega)]; omega), show (0 : Int32) = yN 0 from rfl, e1, yBs, yr_178_4, yBs, e186, yBs]
    dsimp only
    rw [s163, yBs]
    dsimp only
    rw [ey, yN_add, yN_addl, ← qC_tk hkt]; exact e'
theorem m257 {m : yM} {b : Nat} {L : List qT} (hl : l < 16) (hb : b / 3 = l) (h0 : 0 < tBl th l) (hr : tRg th) (hL : L.length ≤ 1000) (hg : ∀ t, t ∈ L → qG th l t) (hR : Tor m 180 th n) (hS : Sr m L) :
    ∃ m', f_257 178 (yN b) (yH κ m) = some (yN (qC L (b % 3)), yH κ m') ∧ yFr (fun x _ => x = 181) m m' := by
  have F1 : yFr (fun x _ => x = 181) m (yR m 181 (cpR (m.1 180) (m.1 181) 0 54)) := ⟨rfl, fun x j q => by rw [yR_ne _ _ q]⟩
  obtain ⟨m', e', F'⟩ := m257_20 (κ := κ) hl hb h0 hr hL hg L.length 0 100000 _ (by omega) (by omega) (hR.g (F1.g (fun _ _ => id)) (fun j _ q => by omega)) ⟨by rw [F1.2 _ _ (by omega)]; exact hS.1, fun j t h => by rw [F1.2 _ _ (by omega)]; exact hS.2 j t h⟩
  refine ⟨m', ?_, F1.tr F' (fun _ _ => orSelf)⟩
  unfold f_257
  rw [yp_div (by omega) (by omega) (by omega), yBs, yr_178_3, yBs, yr_178_4, yBs, s168 yAr_180 yAr_181 (by omega), yBs, hb]
  have z : (0 : Int32) = yN (qC (L.take 0) (b % 3)) := by rw [List.take_zero]; rfl
  rw [show f_257_20 100000 178 (yN b) (yN l) 0 0 = f_257_20 100000 178 (yN b) (yN l) (yN (qC (L.take 0) (b % 3))) (yN 0) from by rw [← z]; rfl, e', yBs]
/-- the thicknesses of a row, in a list -/
def qV (th : Nat → Int32) (l : Nat) (t : qT) : Nat → List Int64
  | 0 => []
  | k + 1 => qV th l t k ++ (if tHas th (3 * l + k) = true then [(tEn (qI t k)).toInt64] else [])
theorem qV_len (t : qT) : ∀ k, (qV th l t k).length ≤ k
  | 0 => by rw [qV]; exact Nat.le_refl 0
  | k + 1 => by
    have := qV_len t k
    rw [qV, List.length_append]
    split <;> simp <;> omega
theorem s152_2 {a : Nat} {t : qT} {D0 : List Int64} {m : yM} (ha : ySh[a]? = some (.inl (0, 3))) (ha3 : a ≠ 3) (hD : D0.length ≤ 3) (hg : qG th l t) (h3 : ∀ i, i < 3 → m.1 a i = tEn (qI t i)) : ∀ (d i fu : Nat), i + d = 3 → d < fu → f_152_2 fu 0 a (yN i) (yH κ (rAs m (D0 ++ qV th l t i))) = some (yH κ (rAs m (D0 ++ qV th l t 3))) := by
  intro d
  induction d with
  | zero =>
    intro i fu hi hf
    obtain ⟨fu, rfl⟩ : ∃ k, fu = k + 1 := ⟨fu - 1, by omega⟩
    obtain rfl : i = 3 := by omega
    rw [f_152_2, if_pos (by decide)]
  | succ d ih =>
    intro i fu hi hf
    obtain ⟨fu, rfl⟩ : ∃ k, fu = k + 1 := ⟨fu - 1, by omega⟩
    have e := ih (i + 1) fu (by omega) (by omega)
    have g := hg i (by omega)
    have t1 := tEn_m1 ⟨qI t i, by omega⟩
    dsimp only at t1
    have hlen := qV_len (th := th) (l := l) t i
    have pa : pAi (yH κ (rAs m (D0 ++ qV th l t i))) a (yN i) = some (tEn (qI t i)) := by
      rw [show pAi (yH κ (rAs m (D0 ++ qV th l t i))) a (yN i) = _ from yh_ai ha (by decide) (by omega), rAs_row ha3, h3 i (by omega)]
    rw [f_152_2, if_neg (by rw [yN_lle (by omega) (by omega)]; omega), yh_len ha (by omega), yBs]
    rw [if_neg (show ¬ (yN 3 ≤ yN i) by rw [yN_le (by omega) (by omega)]; omega), pa, yBs]
    rw [qV] at e
    cases hh : tHas th (3 * l + i) with
    | false =>
      rw [if_pos (t1.2 (g.2.2 hh)), yBs, yN_addl]
      rw [hh, if_neg (by decide), List.append_nil] at e; exact e
    | true =>
      rw [if_neg (fun q => by have := g.2.1 (t1.1 q); rw [hh] at this; exact absurd this (by decide)), yr_0_1, yBs, yBs, yis_3, pG_t, yBs, s51 (by rw [List.length_append]; omega), yBs, yBs, yN_addl]
      rw [hh, if_pos rfl, ← List.append_assoc] at e; exact e
theorem m254_2 {t : qT} {D0 : List Int64} {m : yM} (hl : l < 16) (hr : tRg th) (hR : Tor m 180 th n) (hD : D0.length ≤ 3) (hg : qG th l t) : ∀ (d i fu : Nat), i + d = 3 → d < fu → f_254_2 fu 178 (yN l) (qK t) (yN i) (yH κ (rBs m (D0 ++ qV th l t i))) = some (yH κ (rBs m (D0 ++ qV th l t 3))) := by
  intro d
  induction d with
  | zero =>
    intro i fu hi hf
    obtain ⟨fu, rfl⟩ : ∃ k, fu = k + 1 := ⟨fu - 1, by omega⟩
    obtain rfl : i = 3 := by omega
    rw [f_254_2, if_pos (by decide)]
  | succ d ih =>
    intro i fu hi hf
    obtain ⟨fu, rfl⟩ : ∃ k, fu = k + 1 := ⟨fu - 1, by omega⟩
    have e := ih (i + 1) fu (by omega) (by omega)
    have hlen := qV_len (th := th) (l := l) t i
    rw [f_254_2, if_neg (by rw [yN_lle (by omega) (by omega)]; omega), yr_178_3, yBs, yN_lmul, yN_add, yr_a yAr_180 (by omega), yBs, rBs_row (by omega), hR.1 _ (by omega)]
    simp only [tHas_lz hr (show 3 * l + i < 48 by omega)]
    rw [qV] at e
    cases hh : tHas th (3 * l + i) with
    | false =>
      rw [if_pos rfl, yBs, yN_addl]
      rw [hh, if_neg (by decide), List.append_nil] at e; exact e
    | true =>
      rw [if_neg (by decide), m253h (by omega) hg hh, yBs]
      dsimp only
      rw [yis_178, pG_t, yBs, s165 (by rw [List.length_append]; omega), yBs, yBs, yN_addl]
      rw [hh, if_pos rfl, ← List.append_assoc] at e; exact e
end SM
