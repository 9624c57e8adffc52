/-! ===== games: the class's search ===== -/
/-- edges of a tower, for moves below k -/
def eOk (φ : Bool) (t0 t1 : Int32) (L : List gE) (x : zN) (k : Nat) (l : List (Nat × Nat)) : Prop := l.map Prod.fst = (List.range k).filter (gSf φ t0 t1 x) ∧ ∀ p, p ∈ l → gLk L (gNx x p.1) = some p.2
def eC (m : yM) (lo : Nat) (l : List (Nat × Nat)) : Prop := ∀ (j : Nat) (p : Nat × Nat), l[j]? = some p → m.1 133 (lo + j) = yN (p.1 * 1024 + p.2)
theorem eOk_len {P : Nat → Bool} (h : ∀ m, P m = true → m % 10 < 3 ∧ m / 10 < 42) : ∀ k, ((List.range k).filter P).length ≤ (if k < 420 then 3 * (k / 10) + min (k % 10) 3 else 126)
  | 0 => by simp
  | k + 1 => by
    have ih := eOk_len h k
    rw [List.range_succ, List.filter_append, List.length_append]
    by_cases q : P k = true
    · have := h k q
      rw [List.filter_cons_of_pos q]
      simp only [List.filter_nil, List.length_cons, List.length_nil]
      split <;> split at ih <;> omega
    · rw [List.filter_cons_of_neg q]
      simp only [List.filter_nil, List.length_nil]
      split <;> split at ih <;> omega
theorem eOk.len {φ : Bool} {t0 t1 : Int32} {L : List gE} {x : zN} {k : Nat} {l : List (Nat × Nat)} (h : eOk φ t0 t1 L x k l) (o : nOk x) : l.length ≤ 126 := by
  have h1 := eOk_len (P := gSf φ t0 t1 x) (fun m q => ⟨(gSf_b o q).1, (gSf_b o q).2.1⟩) k
  rw [← h.1, List.length_map] at h1
  split at h1 <;> omega
theorem eOk.len' {φ : Bool} {t0 t1 : Int32} {L : List gE} {x : zN} {k : Nat} {l : List (Nat × Nat)} (h : eOk φ t0 t1 L x k l) (o : nOk x) (hs : gSf φ t0 t1 x k = true) : l.length < 126 := by
  have h1 := eOk_len (P := gSf φ t0 t1 x) (fun m q => ⟨(gSf_b o q).1, (gSf_b o q).2.1⟩) k
  have h2 := gSf_b o hs
  rw [← h.1, List.length_map, if_pos (by omega)] at h1
  omega
theorem eOk.ap {φ : Bool} {t0 t1 : Int32} {L T : List gE} {x : zN} {k : Nat} {l : List (Nat × Nat)} (h : eOk φ t0 t1 L x k l) : eOk φ t0 t1 (L ++ T) x k l := ⟨h.1, fun p q => gLk_ap (h.2 p q)⟩
theorem eOk.no {φ : Bool} {t0 t1 : Int32} {L : List gE} {x : zN} {k : Nat} {l : List (Nat × Nat)} (h : eOk φ t0 t1 L x k l) (q : gSf φ t0 t1 x k = false) : eOk φ t0 t1 L x (k + 1) l := by
  refine ⟨?_, h.2⟩
  rw [List.range_succ, List.filter_append, List.filter_cons_of_neg (by rw [q]; decide), List.filter_nil, List.append_nil]; exact h.1
theorem eOk.ye {φ : Bool} {t0 t1 : Int32} {L : List gE} {x : zN} {k t : Nat} {l : List (Nat × Nat)} (h : eOk φ t0 t1 L x k l) (q : gSf φ t0 t1 x k = true) (ht : gLk L (gNx x k) = some t) : eOk φ t0 t1 L x (k + 1) (l ++ [(k, t)]) := by
  refine ⟨?_, fun p hp => ?_⟩
  · rw [List.range_succ, List.filter_append, List.filter_cons_of_pos q, List.filter_nil, List.map_append, h.1]; rfl
  · rw [List.mem_append] at hp
    rcases hp with hp | hp
    · exact h.2 p hp
    · simp at hp; subst hp; exact ht
theorem eOk.top {φ : Bool} {t0 t1 : Int32} {L : List gE} {x : zN} {l : List (Nat × Nat)} (h : eOk φ t0 t1 L x (30 * x.2) l) (o : nOk x) : eOk φ t0 t1 L x 480 l := by
  have hn := o.1.1
  have key : ∀ d, eOk φ t0 t1 L x (30 * x.2 + d) l := by
    intro d
    induction d with
    | zero => exact h
    | succ d ih =>
      refine ih.no ?_
      cases q : gSf φ t0 t1 x (30 * x.2 + d) with
      | false => rfl
      | true => have := gSf_b o q; omega
  have := key (480 - 30 * x.2)
  rwa [show 30 * x.2 + (480 - 30 * x.2) = 480 by omega] at this
section GH
variable {κ : yK} {r : zN} {t0 t1 : Int32}
theorem s19_15 {x : zN} {i d fe : Nat} {s : gS} {p q : Int32} (J : gJ r d s) (hi : s.1[i]? = some (x, p, q, d)) (hfe : fe + 126 ≤ 50400) : ∀ (D k fu : Nat) (m : yM), k + D = 30 * x.2 → D < fu → CG m (gXk true t0 t1 i x d s k) → Tow m 119 x.1 x.2 → m.1 106 0 = t0 → m.1 106 1 = t1 → ((gXk true t0 t1 i x d s k).2 = false → ∃ l, eOk true t0 t1 (gXk true t0 t1 i x d s k).1 x k l ∧ m.1 118 13 = yN (fe + l.length) ∧ eC m fe l) →
    ∃ m', f_19_15 fu 118 (yN i) (yN (30 * x.2)) (yN k) (yH κ m) = some (yH κ m') ∧ CG m' (gXk true t0 t1 i x d s 480) ∧ gF m m' ∧ (∀ j, m'.1 132 j = m.1 132 j) ∧ (∀ j, j < fe → m'.1 133 j = m.1 133 j) ∧ ((gXk true t0 t1 i x d s 480).2 = false → ∃ l, eOk true t0 t1 (gXk true t0 t1 i x d s 480).1 x 480 l ∧ m'.1 118 13 = yN (fe + l.length) ∧ eC m' fe l) := by
  have ox := (J.nod i _ hi).1
  have hn := ox.1.1
  dsimp only at ox hn
  intro D
  induction D with
  | zero =>
    intro k fu m hk hf hG ht h0 h1 hE
    obtain ⟨fu, rfl⟩ : ∃ k, fu = k + 1 := ⟨fu - 1, by omega⟩
    obtain rfl : k = 30 * x.2 := by omega
    rw [gXk_480 ox] at hG hE
    refine ⟨m, by rw [f_19_15, if_pos (by rw [yN_le (by omega) (by omega)]; omega)], hG, gF.rf m, fun _ => rfl, fun _ _ => rfl, fun z => ?_⟩
    obtain ⟨l, a, b, c⟩ := hE z
    exact ⟨l, a.top ox, b, c⟩
  | succ D ih =>
    intro k fu m hk hf hG ht h0 h1 hE
    obtain ⟨fu, rfl⟩ : ∃ k, fu = k + 1 := ⟨fu - 1, by omega⟩
    obtain ⟨J1, ⟨T, hT⟩, -⟩ := gXk_ok (φ := true) (t0 := t0) (t1 := t1) J hi k (by omega)
    have hi1 : (gXk true t0 t1 i x d s k).1[i]? = some (x, p, q, d) := by rw [hT]; exact ge_ap hi
    rw [f_19_15, if_neg (by rw [yN_le (by omega) (by omega)]; omega), yi_118_15, yBs, hG.2.1]
    cases hf2 : (gXk true t0 t1 i x d s k).2 with
    | true =>
      have hst : ∀ e, gXk true t0 t1 i x d s (k + e) = gXk true t0 t1 i x d s k := by
        intro e
        induction e with
        | zero => rfl
        | succ e ih2 =>
          rw [← Nat.add_assoc, gXk, ih2]
          unfold gSt
          rw [if_neg (fun z => by rw [hf2] at z; simp at z)]
      have h480 : gXk true t0 t1 i x d s 480 = gXk true t0 t1 i x d s k := by
        have := hst (480 - k)
        rwa [show k + (480 - k) = 480 by omega] at this
      refine ⟨m, by rw [yB_t, if_neg (show ¬ ((1 : Int32) = 0) by decide)], by rw [h480]; exact hG, gF.rf m, fun _ => rfl, fun _ _ => rfl, fun z => ?_⟩
      rw [h480, hf2] at z; simp at z
    | false =>
      obtain ⟨l, l1, l2, l3⟩ := hE hf2
      rw [yB_f, if_pos rfl, yr_118_0, yBs, yr_118_1, yBs, yis_116, pG_t, yBs]
      obtain ⟨m1, e1, T1, -, f1⟩ := s7 (κ := κ) (mv := k) ytw_119 (Or.inr (by omega)) ox.1 ht h0 h1 (by omega)
      rw [e1, yBs]
      dsimp only
      have fo : ∀ y j, ¬ sTW 119 y j → m1.1 y j = m.1 y j := f1.2
      have G1 : gF m m1 := gF.of f1 (fun y j z => by unfold sTW sT at z; unfold sGx; rcases z with z | z; exact Or.inl (by omega); exact Or.inr z)
      have C1 : CG m1 (gXk true t0 t1 i x d s k) := hG.c (fun y j z => fo y j (by unfold sTW sT sW; omega)) (by rw [f1.1]) (fun j hj => by rw [show m1.1 120 = x.1 from T1.1]; exact ox.2 j hj)
      cases hs : tSf x.1 x.2 t0 t1 k with
      | false =>
        have hs' : gSf true t0 t1 x k = false := by unfold gSf; rw [hs]; rfl
        have hx : gXk true t0 t1 i x d s (k + 1) = gXk true t0 t1 i x d s k := by
          rw [gXk]; unfold gSt; rw [if_neg (fun z => by rw [hs'] at z; simp at z)]
        rw [yB_f, if_pos rfl, yBs, yN_addl]
        obtain ⟨m2, a, b, c, d1, d2, e⟩ := ih (k + 1) fu m1 (by omega) (by omega) (by rw [hx]; exact C1) T1 (by rw [fo _ _ (by unfold sTW sT sW; omega)]; exact h0) (by rw [fo _ _ (by unfold sTW sT sW; omega)]; exact h1) (fun _ => ⟨l, by rw [hx]; exact l1.no hs', by rw [fo _ _ (by unfold sTW sT sW; omega)]; exact l2, fun j p z => by rw [fo _ _ (by unfold sTW sT sW; omega)]; exact l3 j p z⟩)
        exact ⟨m2, a, b, G1.tr c, fun j => by rw [d1 j, fo _ _ (by unfold sTW sT sW; omega)], fun j hj => by rw [d2 j hj, fo _ _ (by unfold sTW sT sW; omega)], e⟩
      | true =>
        have hs' : gSf true t0 t1 x k = true := by unfold gSf; rw [hs]; rfl
        have hlen := l1.len' ox hs'
        rw [yB_t, if_neg (show ¬ ((1 : Int32) = 0) by decide), yis_118, pG_t, yBs]
        obtain ⟨m2, e2, C2, T2, G2, r2, r3, hE2⟩ := s20 (κ := κ) (ec := fe + l.length) J1 hf2 hi1 C1 T1 hs' (by omega) (by rw [fo _ _ (by unfold sTW sT sW; omega)]; exact l2) (by omega)
        rw [e2, yBs, yBs, yN_addl]
        have hx : gXk true t0 t1 i x d s (k + 1) = gSt true t0 t1 i x d (gXk true t0 t1 i x d s k) k := by rw [gXk]
        obtain ⟨-, ⟨T3, hT3⟩, -⟩ := gSt_ok (φ := true) (t0 := t0) (t1 := t1) J1 (show k < 480 by omega) hi1
        rw [← hx] at C2 hE2 hT3
        have t106 : ∀ j, m2.1 106 j = m.1 106 j := fun j => by rw [G2.1 _ _ (by unfold sGx sW; omega), fo _ _ (by unfold sTW sT sW; omega)]
        obtain ⟨m3, a, b, c, d1, d2, e⟩ := ih (k + 1) fu m2 (by omega) (by omega) C2 T2 (by rw [t106]; exact h0) (by rw [t106]; exact h1) (fun z => by
          obtain ⟨t, w1, w2, w3⟩ := hE2 z
          refine ⟨l ++ [(k, t)], ?_, by rw [w2, List.length_append]; rfl, fun j p hp => ?_⟩
          · have := (l1.ap (T := T3))
            rw [← hT3] at this
            exact this.ye hs' w1
          · rcases Nat.lt_or_ge j l.length with y | y
            · rw [List.getElem?_append_left y] at hp
              rw [r3 _ (by omega), fo _ _ (by unfold sTW sT sW; omega)]; exact l3 j p hp
            · rw [List.getElem?_append_right y] at hp
              have hj : j - l.length = 0 := by
                rcases Nat.eq_zero_or_pos (j - l.length) with h | h
                · exact h
                · rw [List.getElem?_eq_none (by simp; omega)] at hp; simp at hp
              rw [hj] at hp
              simp at hp
              subst hp
              rw [show fe + j = fe + l.length by omega]; exact w3)
        exact ⟨m3, a, b, (G1.tr G2).tr c, fun j => by rw [d1 j, r2 j, fo _ _ (by unfold sTW sT sW; omega)], fun j hj => by rw [d2 j hj, r3 j (by omega), fo _ _ (by unfold sTW sT sW; omega)], e⟩
theorem s19 {m : yM} {x : zN} {i d fe : Nat} {s : gS} {p q : Int32} (J : gJ r d s) (hf : s.2 = false) (hi : s.1[i]? = some (x, p, q, d)) (hfe : fe + 126 ≤ 50400) (hG : CG m s) (h0 : m.1 106 0 = t0) (h1 : m.1 106 1 = t1) (he : m.1 118 13 = yN fe) :
    ∃ m', f_19 118 (yN i) (yH κ m) = some (yH κ m') ∧ CG m' (gXk true t0 t1 i x d s 480) ∧ gF m m' ∧ (∀ j, m'.1 132 j = m.1 132 j) ∧ (∀ j, j < fe → m'.1 133 j = m.1 133 j) ∧ ((gXk true t0 t1 i x d s 480).2 = false → ∃ l, eOk true t0 t1 (gXk true t0 t1 i x d s 480).1 x 480 l ∧ m'.1 118 13 = yN (fe + l.length) ∧ eC m' fe l) := by
  have ox := (J.nod i _ hi).1
  have hl := J.len
  have hil := ge_lt hi
  dsimp only at ox
  have hi4 : i < 400 := Nat.lt_of_lt_of_le hil hl
  have hG0 := hG
  obtain ⟨c14, c15, cK, cA, cS, cZ⟩ := hG0
  have k1 : kW (fun w => m.2 124 (3 * i + w)) x.1 := cK i (x, p, q, d) hi
  have k2 : m.1 130 i = yN x.2 := (cA i (x, p, q, d) hi).2.2.2
  obtain ⟨m1, e1, T1, f1⟩ := s25 (κ := κ) (m := m) (i := i) (x := x) hi4 ox k1 k2 cZ
  have fo : ∀ y j, ¬ sT 119 y j → m1.1 y j = m.1 y j := f1.2
  have C1 : CG m1 s := hG.c (fun y j z => fo y j (by unfold sT; omega)) (by rw [f1.1]) (fun j hj => by rw [show m1.1 120 = x.1 from T1.1]; exact ox.2 j hj)
  have G1 : gF m m1 := gF.of f1 (fun y j z => Or.inl (by unfold sT at z; omega))
  have x0 : gXk true t0 t1 i x d s 0 = s := by rw [gXk]
  have e0 : (gXk true t0 t1 i x d s 0).2 = false → ∃ l, eOk true t0 t1 (gXk true t0 t1 i x d s 0).1 x 0 l ∧ m1.1 118 13 = yN (fe + l.length) ∧ eC m1 fe l := fun _ => ⟨[], ⟨by rw [List.range_zero]; rfl, fun p hp => by simp at hp⟩, by rw [fo _ _ (by unfold sT; omega)]; exact he, fun j p hp => by simp at hp⟩
  have a0 : m1.1 106 0 = t0 := by rw [fo _ _ (by unfold sT; omega)]; exact h0
  have a1 : m1.1 106 1 = t1 := by rw [fo _ _ (by unfold sT; omega)]; exact h1
  have hx3 : 30 * x.2 < 100000 := by have := ox.1.1; omega
  obtain ⟨m2, a, b, c, d1, d2, e⟩ := s19_15 (κ := κ) (t0 := t0) (t1 := t1) J hi hfe (30 * x.2) 0 100000 m1 (Nat.zero_add _) hx3 (by rw [x0]; exact C1) T1 a0 a1 e0
  refine ⟨m2, ?_, b, G1.tr c, fun j => by rw [d1 j, fo _ _ (by unfold sT; omega)], fun j hj => by rw [d2 j hj, fo _ _ (by unfold sT; omega)], e⟩
  unfold f_19
  rw [yis_118, pG_t, yBs, e1, yBs, yr_118_1, yBs, yt_is ytw_119, pG_t, yBs, s101 ytw_119 T1, yBs]
  dsimp only
  rw [show (0 : Int32) = yN 0 from rfl, a, yBs]
end GH
