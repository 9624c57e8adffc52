/-! ===== games: the reference's whole search ===== -/
section GL
variable {κ : yK} {r : zN} {t0 t1 : Int32} {φ : Bool} {hw : Int32}
def hwO (φ : Bool) (hw : Int32) : Prop := (φ = true → hw = 0) ∧ (φ = false → 0 < hw)
theorem m224r {m : yM} {p k : Nat} {e : gE} {L : List gE} (hp : yAr p) (h195 : p ≠ 195 ∧ p ≠ 178) (hk : k < 400) (hN : rNd m L hw) (he : L[k]? = some e) : ∃ m', f_224 178 (yN k) p (yH κ m) = some (yH κ m') ∧ Rw m' p e.1 hw ∧ yFr (fun y _ => y = p) m m' := by
  obtain ⟨r1, r2, r3, -⟩ := hN k e he
  have g : ∀ j, j < 54 → (yR m p (cpO (m.1 195) (54 * k) (m.1 p) 0 0)).1 p j = m.1 195 (54 * k + j) := fun j hj => by
    rw [yR_eq]
    have := cpO_in (f := m.1 195) (g := m.1 p) (po := 54 * k) (qo := 0) hj
    rwa [Nat.zero_add] at this
  refine ⟨_, m224 hp h195 hk, ⟨fun b hb => ?_, ?_, ?_⟩, rfl, fun y j q => ?_⟩
  · rw [g b (by omega)]; exact r1 b hb
  · rw [g 48 (by omega)]; exact r2
  · rw [g 50 (by omega)]; exact r3
  · rw [yR_ne _ _ q]
/-- a move is tried in the row laid: from a row p that holds the tower -/
theorem mTry {m : yM} {x : zN} {mv : Nat} (ox : nOk x) (hx : Rw m 192 x hw) (ho : hwO φ hw) (h0 : m.1 178 7 = t0) (h1 : m.1 178 8 = t1) (hm : mv < 480) (hc : tCg x.1 x.2 mv = true) (hf : φ = true) :
    ∃ m' v, f_203 178 192 (yN mv) (yH κ m) = some (v, yH κ m') ∧ (v = 0 ↔ gSf φ t0 t1 x mv = true) ∧ (gSf φ t0 t1 x mv = true → Rw m' 192 (gNx x mv) hw) ∧ yFr (sD 192) m m' := by
  obtain ⟨m', e, T, -, F⟩ := s203 (κ := κ) (t0 := t0) (t1 := t1) yAr_192 (by omega) ox.1 hx.tor hc h0 h1 (by omega)
  have hs : gSf φ t0 t1 x mv = decide (tDw x.1 x.2 t0 t1 mv = 0) := by unfold gSf; rw [hf, tSf_dw ox.1, hc]; simp
  have hlt := tDw_lt (th := x.1) (n := x.2) (t0 := t0) (t1 := t1) (mv := mv)
  refine ⟨m', _, e, ?_, fun z => ?_, F⟩
  · rw [hs, decide_eq_true_eq, yN_eql (by omega) (by omega)]
  · rw [hs, decide_eq_true_eq] at z
    rw [(tDt_0 z).1, (tDt_0 z).2] at T
    exact ⟨T.1, T.2, by rw [F.2 _ _ (by unfold sD sM; omega)]; exact hx.2.2⟩
theorem m229_11 {x : zN} {i d : Nat} {s : gS} {p q : Int32} (J : gJ r d s) (ho : hwO φ hw) (hi : s.1[i]? = some (x, p, q, d)) : ∀ (D k fu : Nat) (m : yM), k + D = 480 → D < fu → RG m (gXk φ t0 t1 i x d s k) hw → Rw m 200 x hw → m.1 178 7 = t0 → m.1 178 8 = t1 →
    ∃ m', f_229_11 fu 178 (yN i) (yN k) (yH κ m) = some (yH κ m') ∧ RG m' (gXk φ t0 t1 i x d s 480) hw ∧ yFr sGr m m' := by
  have ox := (J.nod i _ hi).1
  have hil := ge_lt hi
  have hl0 := J.len
  dsimp only at ox
  intro D
  induction D with
  | zero =>
    intro k fu m hk hf hG hx h0 h1
    obtain ⟨fu, rfl⟩ : ∃ k, fu = k + 1 := ⟨fu - 1, by omega⟩
    obtain rfl : k = 480 := by omega
    exact ⟨m, by rw [f_229_11, if_pos (by decide)], hG, yFr.rf m⟩
  | succ D ih =>
    intro k fu m hk hf hG hx h0 h1
    obtain ⟨fu, rfl⟩ : ∃ k, fu = k + 1 := ⟨fu - 1, by omega⟩
    obtain ⟨J1, ⟨T, hT⟩, -⟩ := gXk_ok (φ := φ) (t0 := t0) (t1 := t1) J hi k (by omega)
    have hi1 : (gXk φ t0 t1 i x d s k).1[i]? = some (x, p, q, d) := by rw [hT]; exact ge_ap hi
    have hx1 : gXk φ t0 t1 i x d s (k + 1) = gSt φ t0 t1 i x d (gXk φ t0 t1 i x d s k) k := by rw [gXk]
    rw [f_229_11, if_neg (by rw [yN_lle (by omega) (by omega)]; show ¬ 480 ≤ k; omega), yi_178_38, yBs, hG.2.1]
    cases hf2 : (gXk φ t0 t1 i x d s k).2 with
    | true =>
      have hst : ∀ e, gXk φ t0 t1 i x d s (k + e) = gXk φ t0 t1 i x d s k := by
        intro e
        induction e with
        | zero => rfl
        | succ e ih2 =>
          rw [← Nat.add_assoc, gXk, ih2]
          unfold gSt
          rw [if_neg (fun z => by rw [hf2] at z; simp at z)]
      have h480 : gXk φ t0 t1 i x d s 480 = gXk φ t0 t1 i x d s k := by
        have := hst (480 - k)
        rwa [show k + (480 - k) = 480 by omega] at this
      exact ⟨m, by rw [yB_t, if_neg (show ¬ ((1 : Int32) = 0) by decide)], by rw [h480]; exact hG, yFr.rf m⟩
    | false =>
      rw [yB_f, if_pos rfl, yr_178_39, yBs]
      have skip : gSf φ t0 t1 x k = false → gXk φ t0 t1 i x d s (k + 1) = gXk φ t0 t1 i x d s k := fun z => by
        rw [hx1]; unfold gSt; rw [if_neg (fun y => by rw [z] at y; simp at y)]
      have e202 : f_202 200 (yN k) (yH κ m) = some (yB (φ && tCg x.1 x.2 k), yH κ m) := by
        cases hφ : φ with
        | true => rw [Bool.true_and]; exact s202 yAr_200 hx.tor ox.1 (by rw [hx.2.2]; exact ho.1 hφ) (by omega)
        | false => rw [Bool.false_and]; exact s202f yAr_200 (by rw [hx.2.2]; exact ho.2 hφ)
      rw [e202, yBs]
      dsimp only
      cases hc : (φ && tCg x.1 x.2 k) with
      | false =>
        have hs : gSf φ t0 t1 x k = false := by
          cases z : gSf φ t0 t1 x k with
          | false => rfl
          | true =>
            obtain ⟨-, z2, -⟩ := gSf_c z
            unfold gSf at z
            rw [Bool.and_eq_true] at z
            rw [z.1, z2] at hc; simp at hc
        rw [yB_f, if_pos rfl, yBs, yN_addl]
        obtain ⟨m', a, b, c⟩ := ih (k + 1) fu m (by omega) (by omega) (by rw [skip hs]; exact hG) hx h0 h1
        exact ⟨m', a, b, c⟩
      | true =>
        rw [Bool.and_eq_true] at hc
        rw [yB_t, if_neg (show ¬ ((1 : Int32) = 0) by decide), yr_178_39, yBs, yr_178_27, yBs, s168 yAr_200 yAr_192 (by omega), yBs]
        have hx2 : Rw (yR m 192 (cpR (m.1 200) (m.1 192) 0 54)) 192 x hw := by
          refine ⟨fun b hb => ?_, ?_, ?_⟩
          · rw [yR_eq, cpR_in (by omega)]; exact hx.1 b hb
          · rw [yR_eq, cpR_in (by omega)]; exact hx.2.1
          · rw [yR_eq, cpR_in (by omega)]; exact hx.2.2
        have G0 : yFr sGr m (yR m 192 (cpR (m.1 200) (m.1 192) 0 54)) := ⟨rfl, fun y j z => by unfold sGr at z; rw [yR_ne _ _ (by omega)]⟩
        obtain ⟨m2, v, e2, hv, hR, F2⟩ := mTry (κ := κ) (φ := φ) (t0 := t0) (t1 := t1) (mv := k) ox hx2 ho (by rw [yR_ne _ _ (by omega)]; exact h0) (by rw [yR_ne _ _ (by omega)]; exact h1) (by omega) hc.2 hc.1
        have G2 : yFr sGr m m2 := G0.tr (F2.wk (S3 := sGr) (fun y j z => by unfold sD sM at z; unfold sGr sM; omega)) (fun _ _ => orSelf)
        have o2 : ∀ y j, y ≠ 192 → ¬ sM y j → m2.1 y j = m.1 y j := fun y j z w => by unfold sM at w; rw [F2.2 _ _ (by unfold sD sM; omega), yR_ne _ _ z]
        have R2 : RG m2 (gXk φ t0 t1 i x d s k) hw := hG.c (fun y j z => o2 y j (by omega) (by unfold sM; omega))
        have X2 : Rw m2 200 x hw := hx.c (fun j _ => o2 _ _ (by omega) (by unfold sM; omega))
        have q0 : m2.1 178 7 = t0 := by rw [o2 _ _ (by omega) (by unfold sM; omega)]; exact h0
        have q1 : m2.1 178 8 = t1 := by rw [o2 _ _ (by omega) (by unfold sM; omega)]; exact h1
        rw [yr_178_27, yBs, yis_178, pG_t, yBs, e2, yBs]
        dsimp only
        cases hs : gSf φ t0 t1 x k with
        | false =>
          have hv0 : ¬ v = 0 := fun z => by rw [hv.1 z] at hs; simp at hs
          rw [if_neg hv0, yBs, yN_addl]
          obtain ⟨m', a, b, c⟩ := ih (k + 1) fu m2 (by omega) (by omega) (by rw [skip hs]; exact R2) X2 q0 q1
          exact ⟨m', a, b, G2.tr c (fun _ _ => orSelf)⟩
        | true =>
          rw [if_pos (hv.2 hs), yr_178_27, yBs, yis_178, pG_t, yBs]
          obtain ⟨m3, e3, R3, F3⟩ := m227 (κ := κ) (d := d + 1) (a := yN i) (b := yN k) yAr_192 (by omega) J1.len hf2 J1.dup R2 (hR hs) (Or.inr ⟨i, d, ge_lt hi1, rfl, (R2.2.2.1 i (x, p, q, d) hi1).2.2.2.2.2, rfl⟩)
          rw [e3, yBs, yBs, yN_addl]
          have o3 : ∀ y j, ¬ (195 ≤ y ∧ y ≤ 199) → ¬ (y = 178 ∧ (j = 37 ∨ j = 38)) → m3.1 y j = m2.1 y j := fun y j z w => F3.2 y j (fun u => u.elim z w)
          obtain ⟨m', a, b, c⟩ := ih (k + 1) fu m3 (by omega) (by omega) (by rw [hx1, gPt_st hf2 hs]; exact R3) (X2.c (fun j _ => o3 _ _ (by omega) (by omega))) (by rw [o3 _ _ (by omega) (by omega)]; exact q0) (by rw [o3 _ _ (by omega) (by omega)]; exact q1)
          exact ⟨m', a, b, (G2.tr (F3.wk (S3 := sGr) (fun y j z => by unfold sGr; omega)) (S3 := sGr) (fun _ _ => orSelf)).tr c (fun _ _ => orSelf)⟩
theorem m229 {m : yM} {k : Nat} (hr : nOk r) (ho : hwO φ hw) (hk : k < (gAk φ t0 t1 r k).1.length) (hf : (gAk φ t0 t1 r k).2 = false) (hG : RG m (gAk φ t0 t1 r k) hw) (h0 : m.1 178 7 = t0) (h1 : m.1 178 8 = t1) : ∃ m', f_229 178 (yN k) (yH κ m) = some (yH κ m') ∧ RG m' (gAk φ t0 t1 r (k + 1)) hw ∧ yFr sGr m m' := by
  have I := gAk_ok (φ := φ) (t0 := t0) (t1 := t1) hr k
  obtain ⟨⟨x, p, q, d⟩, he⟩ := ge_of hk
  have J := I.nx _ he
  dsimp only at J
  have hlen := J.len
  have hA : gAk φ t0 t1 r (k + 1) = gXk φ t0 t1 k x d (gAk φ t0 t1 r k) 480 := by
    rw [gAk, if_pos hf]; unfold gX; rw [he]
  obtain ⟨m1, e1, X1, F1⟩ := m224r (κ := κ) yAr_200 (by omega) (by omega) hG.2.2.1 he
  have o1 : ∀ y j, y ≠ 200 → m1.1 y j = m.1 y j := fun y j z => F1.2 y j z
  obtain ⟨m2, e2, R2, F2⟩ := m229_11 (κ := κ) (φ := φ) (t0 := t0) (t1 := t1) J ho he 480 0 100000 m1 (by omega) (by omega) (by rw [gXk]; exact hG.c (fun y j z => o1 y j (by omega))) X1 (by rw [o1 _ _ (by omega)]; exact h0) (by rw [o1 _ _ (by omega)]; exact h1)
  refine ⟨m2, ?_, by rw [hA]; exact R2, (F1.wk (S3 := sGr) (fun y j z => by have : y = 200 := z; unfold sGr; omega)).tr F2 (fun _ _ => orSelf)⟩
  unfold f_229
  rw [yr_178_39, yBs, yis_178, pG_t, yBs, e1, yBs, show f_229_11 100000 178 (yN k) 0 (yH κ m1) = _ from e2, yBs]
theorem m228_2 {m : yM} : ∃ m', f_228_2 100000 178 0 (yH κ m) = some (yH κ m') ∧ (∀ s, s < 2048 → m'.1 199 s = -1) ∧ yFr (fun y _ => y = 199) m m' := by
  have lp : ∀ (D k fu : Nat) (m : yM), k + D = 2048 → D < fu → (∀ s, s < k → m.1 199 s = -1) → ∃ m', f_228_2 fu 178 (yN k) (yH κ m) = some (yH κ m') ∧ (∀ s, s < 2048 → m'.1 199 s = -1) ∧ yFr (fun y _ => y = 199) m m' := by
    intro D
    induction D with
    | zero =>
      intro k fu m hk hf h
      obtain ⟨fu, rfl⟩ : ∃ k, fu = k + 1 := ⟨fu - 1, by omega⟩
      obtain rfl : k = 2048 := by omega
      exact ⟨m, by rw [f_228_2, if_pos (by decide)], h, yFr.rf m⟩
    | succ D ih =>
      intro k fu m hk hf h
      obtain ⟨fu, rfl⟩ : ∃ k, fu = k + 1 := ⟨fu - 1, by omega⟩
      obtain ⟨m', a, b, c⟩ := ih (k + 1) fu (yW m 199 k (-1)) (by omega) (by omega) (fun s hs => by
        rw [yW_get]
        by_cases q : s = k
        · rw [if_pos ⟨rfl, q⟩]
        · rw [if_neg (by omega)]; exact h s (by omega))
      refine ⟨m', ?_, b, (yFr.w (S := fun y _ => y = 199) m rfl).tr c (fun _ _ => orSelf)⟩
      rw [f_228_2, if_neg (by rw [yN_lle (by omega) (by omega)]; show ¬ 2048 ≤ k; omega), yr_178_36, yBs, yst_199 (by omega), yBs, yN_addl]
      exact a
  exact lp 2048 0 100000 m (by omega) (by omega) (fun s hs => absurd hs (Nat.not_lt_zero s))
theorem m228 {m : yM} (hr : nOk r) (hx : Rw m 180 r hw) : ∃ m', f_228 178 (yH κ m) = some (yH κ m') ∧ RG m' (gAk φ t0 t1 r 0) hw ∧ yFr sGr m m' := by
  obtain ⟨m1, e1, z1, F1⟩ := m228_2 (κ := κ) (m := m)
  have F2 : yFr sGr m (yW (yW m1 178 37 0) 178 38 0) := ((F1.wk (S3 := sGr) (fun y j z => by have : y = 199 := z; unfold sGr; omega)).tr (yFr.w (S := sGr) m1 (by unfold sGr; omega)) (S3 := sGr) (fun _ _ => orSelf)).tr (yFr.w (S := sGr) _ (by unfold sGr; omega)) (fun _ _ => orSelf)
  have R2 : RG (yW (yW m1 178 37 0) 178 38 0) ([], false) hw := by
    refine ⟨?_, ?_, fun k e h => by simp at h, ⟨fun _ => none, fun s hs => ?_, pIn.nil⟩⟩
    · rw [yW_get, if_neg (by omega), yW_self, upd_eq]; rfl
    · rw [yW_self, upd_eq]; rfl
    · rw [yW_row (by omega), yW_row (by omega)]; exact z1 s hs
  have X2 : Rw (yW (yW m1 178 37 0) 178 38 0) 180 r hw := hx.c (fun j _ => F2.2 _ _ (by unfold sGr sM; omega))
  obtain ⟨m3, e3, R3, F3⟩ := m227 (κ := κ) (d := 0) (a := -1) (b := -1) yAr_180 (by omega) (by simp) rfl (fun j j' e e' h => by simp at h) R2 X2 (Or.inl ⟨rfl, rfl⟩)
  refine ⟨m3, ?_, ?_, F2.tr (F3.wk (S3 := sGr) (fun y j z => by unfold sGr; omega)) (fun _ _ => orSelf)⟩
  · unfold f_228
    rw [e1, yBs, yp_178_37, yBs, yp0_178_38, yBs, yr_178_3, yBs, yis_178, pG_t, yBs, e3, yBs]
  · have : gPt ([], false) r (-1) (-1) 0 = gAk φ t0 t1 r 0 := by
      unfold gPt
      rw [if_pos (show gLk ([] : List gE) r = none from rfl), if_neg (show ¬ ([] : List gE).length = 400 by simp)]; rfl
    rw [← this]; exact R3
theorem m230_6 (hr : nOk r) (ho : hwO φ hw) : ∀ (D k fu : Nat) (m : yM), k + D = 400 → D < fu → RG m (gAk φ t0 t1 r k) hw → m.1 178 7 = t0 → m.1 178 8 = t1 →
    ∃ m', f_230_6 fu 178 (yN k) (yH κ m) = some (yH κ m') ∧ RG m' (gAk φ t0 t1 r 400) hw ∧ yFr sGr m m' := by
  intro D
  induction D with
  | zero =>
    intro k fu m hk hf hG h0 h1
    obtain ⟨fu, rfl⟩ : ∃ k, fu = k + 1 := ⟨fu - 1, by omega⟩
    obtain rfl : k = 400 := by omega
    obtain ⟨d, J⟩ := (gAk_ok (φ := φ) (t0 := t0) (t1 := t1) hr 400).j
    have hlen := J.len
    exact ⟨m, by rw [f_230_6, yi_178_37, yBs, hG.1, if_pos (by rw [yN_le (by omega) (by omega)]; exact hlen)], hG, yFr.rf m⟩
  | succ D ih =>
    intro k fu m hk hf hG h0 h1
    obtain ⟨fu, rfl⟩ : ∃ k, fu = k + 1 := ⟨fu - 1, by omega⟩
    obtain ⟨d, J⟩ := (gAk_ok (φ := φ) (t0 := t0) (t1 := t1) hr k).j
    have hlen := J.len
    rw [f_230_6, yi_178_37, yBs, hG.1]
    by_cases hkl : (gAk φ t0 t1 r k).1.length ≤ k
    · have hend : gAk φ t0 t1 r 400 = gAk φ t0 t1 r k := by
        have := gAk_end (Or.inl hkl) (D + 1)
        rwa [hk] at this
      rw [if_pos (by rw [yN_le (by omega) (by omega)]; exact hkl), hend]
      exact ⟨m, rfl, hG, yFr.rf m⟩
    · rw [if_neg (by rw [yN_le (by omega) (by omega)]; exact hkl), yi_178_38, yBs, hG.2.1]
      cases hf2 : (gAk φ t0 t1 r k).2 with
      | true =>
        have hend : gAk φ t0 t1 r 400 = gAk φ t0 t1 r k := by
          have := gAk_end (Or.inr hf2) (D + 1)
          rwa [hk] at this
        rw [hend]
        exact ⟨m, by rw [yB_t, if_neg (show ¬ ((1 : Int32) = 0) by decide)], hG, yFr.rf m⟩
      | false =>
        obtain ⟨m1, e1, R1, F1⟩ := m229 (κ := κ) hr ho (by omega) hf2 hG h0 h1
        obtain ⟨m2, e2, R2, F2⟩ := ih (k + 1) fu m1 (by omega) (by omega) R1 (by rw [F1.2 _ _ (by unfold sGr sM; omega)]; exact h0) (by rw [F1.2 _ _ (by unfold sGr sM; omega)]; exact h1)
        refine ⟨m2, ?_, R2, F1.tr F2 (fun _ _ => orSelf)⟩
        rw [yB_f, if_pos rfl, yis_178, pG_t, yBs, e1, yBs, yN_addl]
        exact e2
theorem m230 {m : yM} (hr : nOk r) (ho : hwO φ hw) (hx : Rw m 180 r hw) (h0 : m.1 178 7 = t0) (h1 : m.1 178 8 = t1) : ∃ m', f_230 178 (yH κ m) = some (yB (!(gAk φ t0 t1 r 400).2), yH κ m') ∧ RG m' (gAk φ t0 t1 r 400) hw ∧ yFr sGr m m' := by
  obtain ⟨m1, e1, R1, F1⟩ := m228 (κ := κ) (φ := φ) (t0 := t0) (t1 := t1) hr hx
  obtain ⟨m2, e2, R2, F2⟩ := m230_6 (κ := κ) hr ho 400 0 100000 m1 (by omega) (by omega) R1 (by rw [F1.2 _ _ (by unfold sGr sM; omega)]; exact h0) (by rw [F1.2 _ _ (by unfold sGr sM; omega)]; exact h1)
  refine ⟨m2, ?_, R2, F1.tr F2 (fun _ _ => orSelf)⟩
  unfold f_230
  rw [yis_178, pG_t, yBs, e1, yBs, show f_230_6 100000 178 0 (yH κ m1) = _ from e2, yBs, yi_178_38, yBs, R2.2.1]
  cases (gAk φ t0 t1 r 400).2 with
  | true => rw [yB_t, if_neg (show ¬ ((1 : Int32) = 0) by decide), yBs]; exact pZ_0 _
  | false => rw [yB_f, if_pos rfl, yBs]; exact pZ_1 _
end GL
