/-! ===== games: the class's whole search ===== -/
def cEd (φ : Bool) (t0 t1 : Int32) (m : yM) (L : List gE) (n : Nat) (fe : Nat → Nat) (E : Nat → List (Nat × Nat)) : Prop :=
  fe 0 = 0 ∧ (∀ i, i < n → ∃ e : gE, L[i]? = some e ∧ eOk φ t0 t1 L e.1 480 (E i) ∧ fe (i + 1) = fe i + (E i).length ∧ eC m (fe i) (E i)) ∧ (0 < n → ∀ i, i ≤ n → m.1 132 i = yN (fe i))
theorem cEd.le {φ : Bool} {t0 t1 : Int32} {m : yM} {L : List gE} {n : Nat} {fe : Nat → Nat} {E : Nat → List (Nat × Nat)} (h : cEd φ t0 t1 m L n fe E) (o : nodO L) : ∀ i, i ≤ n → fe i ≤ 126 * i
  | 0, _ => by rw [h.1]; exact Nat.zero_le _
  | i + 1, hi => by
    obtain ⟨e, a, b, c, -⟩ := h.2.1 i (by omega)
    have := h.le o i (by omega)
    have := b.len (o i e a)
    omega
theorem cEd.mo {φ : Bool} {t0 t1 : Int32} {m : yM} {L : List gE} {n : Nat} {fe : Nat → Nat} {E : Nat → List (Nat × Nat)} (h : cEd φ t0 t1 m L n fe E) : ∀ d i, i + d ≤ n → fe i ≤ fe (i + d)
  | 0, i, _ => Nat.le_refl _
  | d + 1, i, hi => by
    obtain ⟨e, a, b, c, -⟩ := h.2.1 (i + d) (by omega)
    have := h.mo d i (by omega)
    rw [show i + (d + 1) = i + d + 1 by omega]
    omega
theorem gXk_f {t0 t1 : Int32} {i d : Nat} {x : zN} {s : gS} : ∀ k, gXk false t0 t1 i x d s k = s
  | 0 => rfl
  | k + 1 => by
    rw [gXk, gXk_f k]
    unfold gSt gSf
    rw [if_neg (fun z => by simp at z)]
theorem eOk_f {t0 t1 : Int32} {L : List gE} {x : zN} : eOk false t0 t1 L x 480 [] := by
  refine ⟨?_, fun p hp => by simp at hp⟩
  symm
  rw [List.map_nil, List.filter_eq_nil_iff]
  intro m _
  unfold gSf; simp
section GI
variable {κ : yK} {r : zN} {t0 t1 : Int32} {φ : Bool}
/-- a node is looked at, if it is not felled -/
theorem s19f {m : yM} {x : zN} {i d fe : Nat} {s : gS} {p q : Int32} (J : gJ r d s) (hf : s.2 = false) (hi : s.1[i]? = some (x, p, q, d)) (hfe : fe + 126 ≤ 50400) (hG : CG m s) (h0 : m.1 106 0 = t0) (h1 : m.1 106 1 = t1) (he : m.1 118 13 = yN fe) :
    ∃ m', ((if yB (!φ) = 0 then (pG (pIs (yH κ m) 118 2)).bind fun _ => (f_19 118 (yN i) (yH κ m)).bind fun h15 => some (h15) else some (yH κ m)) : Option xH) = some (yH κ m') ∧ CG m' (gXk φ t0 t1 i x d s 480) ∧ gF m m' ∧ (∀ j, m'.1 132 j = m.1 132 j) ∧ (∀ j, j < fe → m'.1 133 j = m.1 133 j) ∧ ((gXk φ t0 t1 i x d s 480).2 = false → ∃ l, eOk φ t0 t1 (gXk φ t0 t1 i x d s 480).1 x 480 l ∧ m'.1 118 13 = yN (fe + l.length) ∧ eC m' fe l) := by
  cases φ with
  | true =>
    obtain ⟨m', a, b⟩ := s19 (κ := κ) J hf hi hfe hG h0 h1 he
    refine ⟨m', ?_, b⟩
    rw [show yB (!true) = 0 from rfl, if_pos rfl, yis_118, pG_t, yBs, a, yBs]
  | false =>
    rw [gXk_f]
    refine ⟨m, ?_, hG, gF.rf m, fun _ => rfl, fun _ _ => rfl, fun _ => ⟨[], eOk_f, he, fun j p hp => by simp at hp⟩⟩
    rw [show yB (!false) = 1 from rfl, if_neg (show ¬ ((1 : Int32) = 0) by decide)]
theorem s18_46 (hr : nOk r) : ∀ (D k fu : Nat) (m : yM), k + D = 400 → D < fu → k ≤ (gAk φ t0 t1 r k).1.length → CG m (gAk φ t0 t1 r k) → m.1 106 0 = t0 → m.1 106 1 = t1 → ((gAk φ t0 t1 r k).2 = false → ∃ fe E, cEd φ t0 t1 m (gAk φ t0 t1 r k).1 k fe E ∧ m.1 118 13 = yN (fe k)) →
    ∃ m', f_18_46 fu 118 (yB (!φ)) (yN k) (yH κ m) = some (yH κ m') ∧ CG m' (gAk φ t0 t1 r 400) ∧ gF m m' ∧ ((gAk φ t0 t1 r 400).2 = false → ∃ fe E, cEd φ t0 t1 m' (gAk φ t0 t1 r 400).1 (gAk φ t0 t1 r 400).1.length fe E) := by
  intro D
  induction D with
  | zero =>
    intro k fu m hk hf hl hG h0 h1 hE
    obtain ⟨fu, rfl⟩ : ∃ k, fu = k + 1 := ⟨fu - 1, by omega⟩
    obtain rfl : k = 400 := by omega
    obtain ⟨d, J⟩ := (gAk_ok (φ := φ) (t0 := t0) (t1 := t1) hr 400).j
    have hlen := J.len
    refine ⟨m, by rw [f_18_46, if_pos (by decide)], hG, gF.rf m, fun z => ?_⟩
    obtain ⟨fe, E, a, -⟩ := hE z
    exact ⟨fe, E, by rw [show (gAk φ t0 t1 r 400).1.length = 400 by omega]; exact a⟩
  | succ D ih =>
    intro k fu m hk hf hl hG h0 h1 hE
    obtain ⟨fu, rfl⟩ : ∃ k, fu = k + 1 := ⟨fu - 1, by omega⟩
    have I := gAk_ok (φ := φ) (t0 := t0) (t1 := t1) hr k
    obtain ⟨d0, J0⟩ := I.j
    have hlen := J0.len
    rw [f_18_46, if_neg (by rw [yN_lle (by omega) (by omega)]; show ¬ 400 ≤ k; omega), yi_118_14, yBs, hG.1]
    by_cases hkl : (gAk φ t0 t1 r k).1.length ≤ k
    · have hend : gAk φ t0 t1 r 400 = gAk φ t0 t1 r k := by
        have := gAk_end (Or.inl hkl) (D + 1)
        rwa [hk] at this
      rw [if_pos (by rw [yN_le (by omega) (by omega)]; exact hkl), hend]
      refine ⟨m, rfl, hG, gF.rf m, fun z => ?_⟩
      obtain ⟨fe, E, a, -⟩ := hE z
      exact ⟨fe, E, by rw [show (gAk φ t0 t1 r k).1.length = k by omega]; exact a⟩
    · rw [if_neg (by rw [yN_le (by omega) (by omega)]; exact hkl), yi_118_15, yBs, hG.2.1]
      cases hf2 : (gAk φ t0 t1 r k).2 with
      | true =>
        have hend : gAk φ t0 t1 r 400 = gAk φ t0 t1 r k := by
          have := gAk_end (Or.inr hf2) (D + 1)
          rwa [hk] at this
        rw [hend]
        refine ⟨m, by rw [yB_t, if_neg (show ¬ ((1 : Int32) = 0) by decide)], hG, gF.rf m, fun z => by rw [hf2] at z; simp at z⟩
      | false =>
        obtain ⟨fe, E, hc, h13⟩ := hE hf2
        obtain ⟨⟨x, p, q, d⟩, he⟩ := ge_of (show k < (gAk φ t0 t1 r k).1.length by omega)
        have J := I.nx _ he
        dsimp only at J
        have hA : gAk φ t0 t1 r (k + 1) = gXk φ t0 t1 k x d (gAk φ t0 t1 r k) 480 := by
          rw [gAk, if_pos hf2]; unfold gX; rw [he]
        have hfe := hc.le (fun j e h => (J.nod j e h).1) k (Nat.le_refl _)
        have I1 := gAk_ok (φ := φ) (t0 := t0) (t1 := t1) hr (k + 1)
        obtain ⟨T, hT⟩ := gAk_pre (φ := φ) (t0 := t0) (t1 := t1) k hr
        have C0 : CG (yW m 132 k (yN (fe k))) (gAk φ t0 t1 r k) := hG.c (fun y j z => by rw [yW_get, if_neg (by omega)]) rfl (fun j hj => by rw [yW_row (by omega)]; exact hG.2.2.2.2.2 j hj)
        obtain ⟨m1, e1, C1, G1, r1, r2, hE1⟩ := s19f (κ := κ) (φ := φ) (t0 := t0) (t1 := t1) (m := yW m 132 k (yN (fe k))) (fe := fe k) J hf2 he (by omega) C0 (by rw [yW_row (by omega)]; exact h0) (by rw [yW_row (by omega)]; exact h1) (by rw [yW_row (by omega)]; exact h13)
        rw [← hA] at C1 hE1
        have gw : gF m m1 := (gF.w (show 118 ≤ 132 ∧ 132 ≤ 134 by omega)).tr G1
        rw [yB_f, if_pos rfl, yr_118_10, yBs, yi_118_13, yBs, h13, yst_132 (by omega), yBs, e1, yBs, yr_118_10, yBs, yi_118_13, yBs, yN_addl, yst_132 (by omega), yBs]
        have C2 : CG (yW m1 132 (k + 1) (m1.1 118 13)) (gAk φ t0 t1 r (k + 1)) := C1.c (fun y j z => by rw [yW_get, if_neg (by omega)]) rfl (fun j hj => by rw [yW_row (by omega)]; exact C1.2.2.2.2.2 j hj)
        have g2 : gF m (yW m1 132 (k + 1) (m1.1 118 13)) := gw.tr (gF.w (by omega))
        obtain ⟨m3, a, b, c, e⟩ := ih (k + 1) fu (yW m1 132 (k + 1) (m1.1 118 13)) (by omega) (by omega) (by rw [hT, List.length_append]; omega) C2 (by rw [g2.1 _ _ (by unfold sGx sW; omega)]; exact h0) (by rw [g2.1 _ _ (by unfold sGx sW; omega)]; exact h1) (fun z => by
          obtain ⟨l, l1, l2, l3⟩ := hE1 z
          have hek : ∀ i, i ≤ k → (if i = k + 1 then fe k + l.length else fe i) = fe i := fun i hi => if_neg (by omega)
          refine ⟨fun i => if i = k + 1 then fe k + l.length else fe i, fun i => if i = k then l else E i, ⟨?_, fun i hi => ?_, fun _ i hi => ?_⟩, ?_⟩
          · show (if 0 = k + 1 then fe k + l.length else fe 0) = 0
            rw [if_neg (by omega)]; exact hc.1
          · dsimp only
            rw [hek i (by omega)]
            by_cases y : i = k
            · subst y
              rw [if_pos rfl, if_pos rfl]
              refine ⟨(x, p, q, d), by rw [hT]; exact ge_ap he, l1, rfl, fun j p hp => ?_⟩
              rw [yW_row (by omega)]; exact l3 j p hp
            · rw [if_neg y, if_neg (show ¬ i + 1 = k + 1 by omega)]
              obtain ⟨e, a1, a2, a3, a4⟩ := hc.2.1 i (by omega)
              refine ⟨e, by rw [hT]; exact ge_ap a1, by rw [hT]; exact a2.ap, a3, fun j p hp => ?_⟩
              have hj : j < (E i).length := by
                rcases Nat.lt_or_ge j (E i).length with w | w
                · exact w
                · rw [List.getElem?_eq_none w] at hp; simp at hp
              have hmo := hc.mo (k - (i + 1)) (i + 1) (by omega)
              rw [show i + 1 + (k - (i + 1)) = k by omega] at hmo
              rw [yW_row (by omega), r2 _ (by omega), yW_row (by omega)]; exact a4 j p hp
          · dsimp only
            by_cases y : i = k + 1
            · subst y
              rw [if_pos rfl, yW_self, upd_eq]; exact l2
            · rw [if_neg y, yW_get, if_neg (by omega), r1, yW_get]
              by_cases w : i = k
              · subst w; rw [if_pos ⟨rfl, rfl⟩]
              · rw [if_neg (by omega)]; exact hc.2.2 (by omega) i (by omega)
          · dsimp only
            rw [if_pos rfl, yW_row (by omega)]; exact l2)
        exact ⟨m3, a, b, g2.tr c, e⟩
theorem s18 {m : yM} (hr : nOk r) (ht : Tow m 6 r.1 r.2) (h0 : m.1 106 0 = t0) (h1 : m.1 106 1 = t1) (hz : ∀ j, 48 ≤ j → m.1 120 j = 0) :
    ∃ m', f_18 118 6 (yB (!φ)) (yH κ m) = some (yH κ m') ∧ CG m' (gAk φ t0 t1 r 400) ∧ gF m m' ∧ ((gAk φ t0 t1 r 400).2 = false → ∃ fe E, cEd φ t0 t1 m' (gAk φ t0 t1 r 400).1 (gAk φ t0 t1 r 400).1.length fe E) := by
  let m1 := yW (yW (yW (yR m 126 (fun j => if j < 1024 then 0 else m.1 126 j)) 118 13 0) 118 14 0) 118 15 0
  have h1g : ∀ y j, m1.1 y j = if y = 118 ∧ j = 15 then 0 else if y = 118 ∧ j = 14 then 0 else if y = 118 ∧ j = 13 then 0 else (yR m 126 (fun j => if j < 1024 then 0 else m.1 126 j)).1 y j := fun y j => by
    show (yW (yW (yW _ 118 13 0) 118 14 0) 118 15 0).1 y j = _
    rw [yW_get, yW_get, yW_get]
  have h1o : ∀ y j, y ≠ 118 → y ≠ 126 → m1.1 y j = m.1 y j := fun y j a b => by rw [h1g, if_neg (by omega), if_neg (by omega), if_neg (by omega), yR_ne _ _ b]
  have hs1 : ∀ s, s < 1024 → m1.1 126 s = 0 := fun s hs => by rw [h1g, if_neg (by omega), if_neg (by omega), if_neg (by omega), yR_eq, if_pos hs]
  have G1 : gF m m1 := ⟨fun y j z => h1o y j (fun w => z (Or.inl (by omega))) (fun w => z (Or.inl (by omega))), fun _ _ _ => rfl⟩
  have row1 : ∀ y, y ≠ 118 → y ≠ 126 → m1.1 y = m.1 y := fun y a b => funext fun j => h1o y j a b
  have T1 : Tow m1 6 r.1 r.2 := by
    unfold Tow
    rw [row1 6 (by omega) (by omega), row1 (6 + 1) (by omega) (by omega), row1 (6 + 2) (by omega) (by omega), row1 (6 + 3) (by omega) (by omega), row1 (6 + 4) (by omega) (by omega)]
    exact ht
  obtain ⟨m2, e2, K2, a2, b2, G2⟩ := s22 (κ := κ) T1 hr.v
  have S2 : cSl m2 ([] : List gE).length := ⟨fun _ => none, fun s hs => by rw [a2]; exact hs1 s hs, pIn.nil⟩
  have i2 : ∀ y j, y ≠ 118 → y ≠ 126 → m2.1 y j = m.1 y j := fun y j a b => by rw [a2]; exact h1o y j a b
  rcases s26 (κ := κ) (L := []) (x := r) (m := m2) (by rw [a2, h1g, if_neg (by omega), if_pos ⟨rfl, rfl⟩]; rfl) (by simp) (fun k e h => by simp at h) S2 K2 hr (fun k e h => by simp at h) (fun j j' e e' h => by simp at h) with ⟨t, hq, -⟩ | ⟨-, hq, -⟩ | ⟨-, -, m3, e3, k14, kS, kN, -, -, kI, G3⟩
  · simp [gLk] at hq
  · simp at hq
  · have k14' : m3.1 118 14 = yN 1 := k14
    have kS' : cSl m3 1 := kS
    have kN' : kW (fun w => m3.2 124 (3 * 0 + w)) r.1 := kN
    let m4 := yW (yW (yW (yW m3 127 0 (-1)) 128 0 (-1)) 129 0 0) 130 0 (yN r.2)
    have e4 : f_21 118 0 (-1) (-1) (yN r.2) (yH κ m3) = some (yH κ m4) := s21 (k := 0) (by omega) (Or.inl ⟨rfl, rfl⟩)
    have h4 : ∀ y j, m4.1 y j = if y = 130 ∧ j = 0 then yN r.2 else if y = 129 ∧ j = 0 then 0 else if y = 128 ∧ j = 0 then -1 else if y = 127 ∧ j = 0 then -1 else m3.1 y j := fun y j => by
      show (yW (yW (yW (yW m3 127 0 _) 128 0 _) 129 0 _) 130 0 _).1 y j = _
      rw [yW_get, yW_get, yW_get, yW_get]
    have h4o : ∀ y j, y < 127 ∨ 130 < y → m4.1 y j = m3.1 y j := fun y j z => by rw [h4, if_neg (by omega), if_neg (by omega), if_neg (by omega), if_neg (by omega)]
    have G4 : gF m m4 := ((G1.tr G2).tr G3).tr ((((gF.w (by omega)).tr (gF.w (by omega))).tr (gF.w (by omega))).tr (gF.w (by omega)))
    have g0 : gAk φ t0 t1 r 0 = ([(r, -1, -1, 0)], false) := rfl
    have one : ∀ (k : Nat) (e : gE), ([(r, -1, -1, 0)] : List gE)[k]? = some e → k = 0 ∧ e = (r, -1, -1, 0) := fun k e h => by
      have hl := ge_lt h
      have : k = 0 := by simp at hl; exact hl
      subst this
      simp at h
      exact ⟨rfl, h.symm⟩
    have C4 : CG m4 (gAk φ t0 t1 r 0) := by
      rw [g0]
      refine ⟨?_, ?_, fun k e h => ?_, fun k e h => ?_, ?_, fun j hj => ?_⟩
      · rw [h4o _ _ (by omega), k14']; rfl
      · rw [h4o _ _ (by omega), kI _ _ (by omega), a2, h1g, if_pos ⟨rfl, rfl⟩]; rfl
      · obtain ⟨rfl, rfl⟩ := one k e h; exact kN'
      · obtain ⟨rfl, rfl⟩ := one k e h
        refine ⟨?_, ?_, ?_, ?_⟩
        · rw [h4, if_neg (by omega), if_neg (by omega), if_neg (by omega), if_pos ⟨rfl, rfl⟩]
        · rw [h4, if_neg (by omega), if_neg (by omega), if_pos ⟨rfl, rfl⟩]
        · rw [h4, if_neg (by omega), if_pos ⟨rfl, rfl⟩]; rfl
        · rw [h4, if_pos ⟨rfl, rfl⟩]
      · obtain ⟨T, hT, hP⟩ := kS'
        exact ⟨T, fun s hs => by rw [h4o _ _ (by omega)]; exact hT s hs, hP⟩
      · rw [h4o _ _ (by omega), kI _ _ (by omega), i2 _ _ (by omega) (by omega)]; exact hz j hj
    obtain ⟨m5, e5, C5, G5, hE5⟩ := s18_46 (κ := κ) (φ := φ) (t0 := t0) (t1 := t1) hr 400 0 100000 m4 (by omega) (by omega) (Nat.zero_le _) C4 (by rw [G4.1 _ _ (by unfold sGx sW; omega)]; exact h0) (by rw [G4.1 _ _ (by unfold sGx sW; omega)]; exact h1) (fun _ => ⟨fun _ => 0, fun _ => [], ⟨rfl, fun i hi => by omega, fun z => by omega⟩, by
      rw [h4o _ _ (by omega), kI _ _ (by omega), a2, h1g, if_neg (by omega), if_neg (by omega), if_pos ⟨rfl, rfl⟩]; rfl⟩)
    refine ⟨m5, ?_, C5, G4.tr G5, hE5⟩
    have k4 : m3.1 6 4 = yN r.2 := by rw [kI _ _ (by omega), i2 _ _ (by omega) (by omega)]; exact ht.2.1
    unfold f_18
    rw [yr_118_4, yBs, s266 (N := 1024) rfl (by omega), yBs, yp_118_13, yBs, yp_118_14, yBs, yp0_118_15, yBs, yis_118, pG_t, yBs, show f_22 118 6 (yH κ m1) = _ from e2, yBs, yis_118, pG_t, yBs, e3, yBs]
    dsimp only
    rw [yt_4 ytw_6, yBs, k4, yis_118, pG_t, yBs, e4, yBs, show f_18_46 100000 118 (yB (!φ)) 0 (yH κ m4) = _ from e5, yBs]
end GI
