/-! ===== sure(), touch() ===== -/
theorem z_sure (p : Int32) : zCall (f_154 0 p) (f_258 178 p) := by
  intro κ A H K C D E F o
  have hn := o.1.1.1.1
  have hr : tRg (zth A) := o.1.1.1.2.1
  have oF := o.2.2.2.2.2.2
  have c90 : ∀ m, Cl m A H K C D E F → f_90 6 p (yH κ m) = some (yB (tHasI (zth A) p), yH κ m) := fun m c => s90I ytw_6 c.1.1.1
  have c169 : ∀ m, Rf m A H K C D E F → f_169 180 p (yH κ m) = some (yB (tHasI (zth A) p), yH κ m) := fun m c => s169I yAr_180 c.1.tor hr
  cases h : tHasI (zth A) p with
  | true =>
    obtain ⟨b, hb, rfl, hh⟩ := tHasI_of h
    have hbn := tHas_n o.1.1.1 hh
    have hln : b / 3 < zn A := by omega
    have h0 := o.1.1.1.2.2.2 _ hln
    have hLl := qR_len (th := zth A) oF (show b / 3 < 16 by omega)
    have hgL : ∀ t, t ∈ qR (zth A) F (b / 3) → qG (zth A) (b / 3) t := fun t ht => qR_mem oF (by omega) ht
    have hi : b % 3 < 3 := Nat.mod_lt _ (by omega)
    by_cases hL : qR (zth A) F (b / 3) = []
    · have hz : ∀ k, yN (qR (zth A) F (b / 3)).length = k → k = 0 := fun k q => by rw [← q, hL]; rfl
      refine ⟨-2, A, H, K, C, D, E, F, o, fun m c => ?_, fun m c => ?_⟩
      · obtain ⟨m1, e1, S1, c1, g1⟩ := c.sift (κ := κ) o hln
        refine ⟨m1, ?_, c1, g1⟩
        unfold f_154
        rw [yr_0_2, yBs, ys5_0, yBs, yt_is ytw_6, pG_t, yBs, c90 m c, h, yBs]
        dsimp only
        rw [yB_t, if_neg (by decide), yr_0_10, yBs, yr_0_2, yBs, ys5_0, yBs, yp_div (by omega) (by omega) (by omega), yBs, yis_135, pG_t, yBs, e1, yBs, yr_0_10, yBs, yi_135_11, yBs, if_pos (hz _ S1.1.symm)]
      · obtain ⟨c1, g1⟩ := c.th 0
        obtain ⟨m1, e1, S1, c2, g2⟩ := c1.lays (κ := κ) o hln
        refine ⟨m1, ?_, c2, g1.tr g2 (fun _ _ => orSelf)⟩
        unfold f_258
        rw [yp_178_0, yBs, yr_178_3, yBs, c169 _ c1, h, yBs]
        dsimp only
        rw [yB_t, if_neg (by decide), yp_div (by omega) (by omega) (by omega), yBs, yis_178, pG_t, yBs, e1, yBs, yi_178_50, yBs, if_pos (hz _ S1.1.symm)]
    · have hpos : 0 < (qR (zth A) F (b / 3)).length := List.length_pos_iff.2 hL
      have hcl := qC_le (qR (zth A) F (b / 3)) (b % 3)
      have n0 : ¬ (yN (qR (zth A) F (b / 3)).length = 0) := by rw [yN_eql (by omega) (by omega)]; omega
      refine ⟨if yN (qC (qR (zth A) F (b / 3)) (b % 3)) = 0 then 0 else if yN (qC (qR (zth A) F (b / 3)) (b % 3)) = yN (qR (zth A) F (b / 3)).length then 1 else 2, A, H, K, C, [(yN (qC (qR (zth A) F (b / 3)) (b % 3))).toInt64, (yN (qR (zth A) F (b / 3)).length).toInt64], E, F, ⟨o.1, o.2.1, o.2.2.1, o.2.2.2.1, by simp, o.2.2.2.2.2⟩, fun m c => ?_, fun m c => ?_⟩
      · obtain ⟨m1, e1, S1, c1, g1⟩ := c.sift (κ := κ) o hln
        refine ⟨rAs m1 [(yN (qC (qR (zth A) F (b / 3)) (b % 3))).toInt64, (yN (qR (zth A) F (b / 3)).length).toInt64], ?_, c1.row o.2.1.1 _, g1.tr (rAs_g _ _) (fun x j q => q.elim id (fun q => sA3_C q))⟩
        have k : ∀ D, (rAs m1 D).1 135 11 = yN (qR (zth A) F (b / 3)).length := fun D => by rw [rAs_row (by omega)]; exact S1.1
        unfold f_154
        rw [yr_0_2, yBs, ys5_0, yBs, yt_is ytw_6, pG_t, yBs, c90 m c, h, yBs]
        dsimp only
        rw [yB_t, if_neg (by decide), yr_0_10, yBs, yr_0_2, yBs, ys5_0, yBs, yp_div (by omega) (by omega) (by omega), yBs, yis_135, pG_t, yBs, e1, yBs, yr_0_10, yBs, yi_135_11, yBs, S1.1, if_neg n0]
        rw [yBs, yr_135_6, yBs, yp_rem (by omega) (by omega) (by omega), yBs, ya_142 hi, yBs, (S1.2 _ hi).1, yr_0_1, yBs, yis_3, pG_t, yBs, s50, yBs, yr_0_1, yBs, yis_3, pG_t, yBs, s51a, yBs, yr_0_1, yBs, yr_0_10, yBs, yi_135_11, yBs, k, yis_3, pG_t, yBs, s51b, yBs]
        by_cases q0 : yN (qC (qR (zth A) F (b / 3)) (b % 3)) = 0
        · rw [if_pos q0, if_pos q0]
        · rw [if_neg q0, if_neg q0, yr_0_10, yBs, yi_135_11, yBs, k, yIte_some, yBs]
      · obtain ⟨c1, g1⟩ := c.th 0
        obtain ⟨m1, e1, S1, c2, g2⟩ := c1.lays (κ := κ) o hln
        obtain ⟨m2, e2, F2⟩ := m257 (κ := κ) (m := m1) (l := b / 3) (b := b) (by omega) rfl h0 hr hLl hgL c2.1.tor S1
        have c3 : Rf m2 A H K C D E F := c2.fr (F2.g (fun _ _ => id)) (fun x j q => by have : x = 181 := q; unfold sRs; omega)
        have g3 : yG sR m1 m2 := F2.g (fun x j q => by have : x = 181 := q; unfold sR; omega)
        refine ⟨rBs m2 [(yN (qC (qR (zth A) F (b / 3)) (b % 3))).toInt64, (yN (qR (zth A) F (b / 3)).length).toInt64], ?_, c3.row _, ((g1.tr g2 (S3 := sR) (fun _ _ => orSelf)).tr g3 (S3 := sR) (fun _ _ => orSelf)).tr (rBs_g _ _) (fun x j q => q.elim id (fun q => sB3_R q))⟩
        have k : ∀ D, (rBs m2 D).1 178 50 = yN (qR (zth A) F (b / 3)).length := fun D => by rw [rBs_fl (by omega), F2.2 _ _ (by omega)]; exact S1.1
        unfold f_258
        rw [yp_178_0, yBs, yr_178_3, yBs, c169 _ c1, h, yBs]
        dsimp only
        rw [yB_t, if_neg (by decide), yp_div (by omega) (by omega) (by omega), yBs, yis_178, pG_t, yBs, e1, yBs, yi_178_50, yBs, S1.1, if_neg n0, yis_178, pG_t, yBs, e2, yBs]
        dsimp only
        rw [yp_178_1, yBs, yis_178, pG_t, yBs, s165_0, yBs, yi_178_50, yBs, k, yis_178, pG_t, yBs, s165b, yBs, yi_178_50, yBs, k]
        by_cases q0 : yN (qC (qR (zth A) F (b / 3)) (b % 3)) = 0
        · rw [if_neg (fun q => n0 (by rw [← q]; exact q0)), if_pos q0, if_pos q0, yBs]
        · rw [if_neg q0, if_neg q0, yIte_some, yBs]
  | false =>
    refine ⟨-1, A, H, K, C, D, E, F, o, zCx.same fun m c => ?_, zCm.same fun m c => ?_⟩
    · unfold f_154
      rw [yr_0_2, yBs, ys5_0, yBs, yt_is ytw_6, pG_t, yBs, c90 m c, h, yBs]
      rfl
    · obtain ⟨c1, g1⟩ := c.th 0
      unfold f_258
      rw [yp_178_0, yBs, yr_178_3, yBs, c169 _ c1, h, yBs]
      rfl
/-- which block tells most: block, how many are left at worst -/
def qZ (th : Nat → Int32) (l : Nat) (L : List qT) : Nat → Option (Nat × Nat)
  | 0 => none
  | i + 1 => if tHas th (3 * l + i) = true then (match qZ th l L i with
    | none => some (3 * l + i, max (qC L i) (L.length - qC L i))
    | some (b, u) => if u ≤ max (qC L i) (L.length - qC L i) then some (b, u) else some (3 * l + i, max (qC L i) (L.length - qC L i))) else qZ th l L i
def qZa (o : Option (Nat × Nat)) : Int32 := match o with | none => -1 | some (b, _) => yN b
def qZb (o : Option (Nat × Nat)) : Int32 := match o with | none => 0 | some (_, w) => yN w
theorem qZ_le {th : Nat → Int32} {l : Nat} {L : List qT} : ∀ i b w, qZ th l L i = some (b, w) → b < 3 * l + i ∧ w ≤ L.length
  | 0, b, w, h => by rw [qZ] at h; simp at h
  | i + 1, b, w, h => by
    have hc := qC_le L i
    rw [qZ] at h
    split at h
    · split at h
      · simp at h; omega
      next b' u' h' =>
        have := qZ_le i b' u' h'
        split at h
        · simp at h; omega
        · simp at h; omega
    · have := qZ_le i b w h; omega
section SP
variable {κ : yK} {th : Nat → Int32} {F : zF} {l n : Nat} {L : List qT}
theorem s155_51 {m : yM} (hl : l < 16) (hL : L.length ≤ 1000) (h7 : m.1 7 = th) (hS : Sc m L) : ∀ (d i fu : Nat), i + d = 3 → d < fu → f_155_51 fu 0 (yN l) (qZa (qZ th l L i)) (qZb (qZ th l L i)) (yN i) (yH κ m) = some (qZa (qZ th l L 3), qZb (qZ th l L 3), yH κ m) := by
  intro d
  induction d with
  | zero =>
    intro i fu hi hf
    obtain ⟨fu, rfl⟩ : ∃ k, fu = k + 1 := ⟨fu - 1, by omega⟩
    obtain rfl : i = 3 := by omega
    rw [f_155_51, if_pos (by decide)]
  | succ d ih =>
    intro i fu hi hf
    obtain ⟨fu, rfl⟩ : ∃ k, fu = k + 1 := ⟨fu - 1, by omega⟩
    have e := ih (i + 1) fu (by omega) (by omega)
    have hc := qC_le L i
    have hi3 : i < 3 := by omega
    have e90 : f_90 6 (yN (3 * l + i)) (yH κ m) = some (yB (tHas th (3 * l + i)), yH κ m) := s90 ytw_6 h7 (by omega)
    have em : pMax (yN (qC L i)) (yN L.length - yN (qC L i)) = yN (max (qC L i) (L.length - qC L i)) := by rw [yN_sub hc]; exact yp_maxN (by omega) (by omega)
    rw [qZ] at e
    rw [f_155_51, if_neg (by rw [yN_lle (by omega) (by omega)]; omega)]
    simp only [yr_0_10, yBs, yr_135_6, ya_142 hi3, yi_135_11, yr_0_2, ys5_0, yt_is ytw_6, pG_t, (hS.2 i hi3).1, hS.1, yN_lmul, yN_add, e90, em, yN_addl]
    have hmx : max (qC L i) (L.length - qC L i) ≤ L.length := by omega
    generalize max (qC L i) (L.length - qC L i) = w at *
    cases hh : tHas th (3 * l + i) with
    | false =>
      rw [hh, if_neg (by decide)] at e
      rw [yB_f, if_pos rfl, yBs]; exact e
    | true =>
      rw [hh, if_pos rfl] at e
      rw [yB_t, if_neg (by decide)]
      cases hz : qZ th l L i with
      | none =>
        rw [hz] at e
        rw [if_pos (show qZa none = -1 from rfl), yBs]; exact e
      | some q =>
        obtain ⟨b, u⟩ := q
        rw [hz] at e
        have := qZ_le i b u hz
        rw [if_neg (show ¬ (qZa (some (b, u)) = -1) by show ¬ (yN b = -1); rw [yN_eqm (by omega)]; exact id)]
        show ((if yN u ≤ yN w then some (yN b, yN u) else some (yN (3 * l + i), yN w)).bind _) = _
        dsimp only at e
        have hle := yN_le (show u < 2147483648 by omega) (show w < 2147483648 by omega)
        by_cases q : u ≤ w
        · rw [if_pos q] at e; rw [if_pos (by rw [hle]; exact q), yBs]; exact e
        · rw [if_neg q] at e; rw [if_neg (by rw [hle]; exact q), yBs]; exact e
theorem m259_39 (hl : l < 16) (h0 : 0 < tBl th l) (hr : tRg th) (hL : L.length ≤ 1000) (hg : ∀ t, t ∈ L → qG th l t) : ∀ (d i fu : Nat) (m : yM), i + d = 3 → d < fu → Tor m 180 th n → Sr m L →
    ∃ m', f_259_39 fu 178 (yN l) (qZa (qZ th l L i)) (qZb (qZ th l L i)) (yN (3 * l + i)) (yH κ m) = some (qZa (qZ th l L 3), qZb (qZ th l L 3), yH κ m') ∧ yFr (fun x _ => x = 181) m m' := by
  intro d
  induction d with
  | zero =>
    intro i fu m hi hf hR hS
    obtain ⟨fu, rfl⟩ : ∃ k, fu = k + 1 := ⟨fu - 1, by omega⟩
    obtain rfl : i = 3 := by omega
    refine ⟨m, ?_, yFr.rf m⟩
    rw [f_259_39, yN_lmul, yN_addl, if_pos (by rw [yN_le (by omega) (by omega)]; omega)]
  | succ d ih =>
    intro i fu m hi hf hR hS
    obtain ⟨fu, rfl⟩ : ∃ k, fu = k + 1 := ⟨fu - 1, by omega⟩
    have hc := qC_le L i
    have hi3 : i < 3 := by omega
    obtain ⟨m1, e1, F1⟩ := m257 (κ := κ) (m := m) (l := l) (b := 3 * l + i) hl (by omega) h0 hr hL hg hR hS
    rw [show (3 * l + i) % 3 = i by omega] at e1
    have hS1 : Sr m1 L := ⟨by rw [F1.2 _ _ (by omega)]; exact hS.1, fun j t h => by rw [F1.2 _ _ (by omega)]; exact hS.2 j t h⟩
    have em : pMax (yN (qC L i)) (yN L.length - yN (qC L i)) = yN (max (qC L i) (L.length - qC L i)) := by rw [yN_sub hc]; exact yp_maxN (by omega) (by omega)
    have ent : ∀ a2 a3, f_259_39 (fu + 1) 178 (yN l) a2 a3 (yN (3 * l + i)) (yH κ m) = ((if th (3 * l + i) < 0 then some (a2, a3, yH κ m) else (if a2 < 0 then some (yN (3 * l + i), yN (max (qC L i) (L.length - qC L i)), yH κ m1) else (if a3 ≤ yN (max (qC L i) (L.length - qC L i)) then some (a2, a3, yH κ m1) else some (yN (3 * l + i), yN (max (qC L i) (L.length - qC L i)), yH κ m1)))) : Option (Int32 × Int32 × xH)).bind fun (w11, w12, h13) => f_259_39 fu 178 (yN l) w11 w12 (yN (3 * l + (i + 1))) h13 := by
      intro a2 a3
      rw [f_259_39, yN_lmul, yN_addl, if_neg (by rw [yN_le (by omega) (by omega)]; omega), yr_178_3, yBs, yr_a yAr_180 (by omega), yBs, hR.1 _ (by omega)]
      simp only [yis_178, pG_t, yBs, e1, yi_178_50, hS1.1, em, yN_addl]
      rfl
    have hR1 : Tor m1 180 th n := hR.g (F1.g (fun _ _ => id)) (fun j _ q => by omega)
    have eA := ih (i + 1) fu m (by omega) (by omega) hR hS
    have eB := ih (i + 1) fu m1 (by omega) (by omega) hR1 hS1
    have hmx : max (qC L i) (L.length - qC L i) ≤ L.length := by omega
    rw [qZ] at eA eB
    rw [ent]
    generalize max (qC L i) (L.length - qC L i) = w at *
    simp only [tHas_lz hr (show 3 * l + i < 48 by omega)]
    cases hh : tHas th (3 * l + i) with
    | false =>
      obtain ⟨m', e', F'⟩ := eA
      rw [hh, if_neg (by decide)] at e'
      exact ⟨m', by rw [if_pos rfl, yBs]; exact e', F'⟩
    | true =>
      obtain ⟨m', e', F'⟩ := eB
      rw [hh, if_pos rfl] at e'
      refine ⟨m', ?_, F1.tr F' (fun _ _ => orSelf)⟩
      rw [if_neg (by decide)]
      cases hz : qZ th l L i with
      | none =>
        rw [hz] at e'
        rw [if_pos (show qZa none < 0 by decide), yBs]; exact e'
      | some q =>
        obtain ⟨b, u⟩ := q
        rw [hz] at e'
        have := qZ_le i b u hz
        rw [if_neg (show ¬ (qZa (some (b, u)) < 0) by show ¬ (yN b < 0); rw [yN_ltl (by omega) (by omega)]; omega)]
        show ((if yN u ≤ yN w then some (yN b, yN u, yH κ m1) else some (yN (3 * l + i), yN w, yH κ m1)).bind _) = _
        dsimp only at e'
        have hle := yN_le (show u < 2147483648 by omega) (show w < 2147483648 by omega)
        by_cases q : u ≤ w
        · rw [if_pos q] at e'; rw [if_pos (by rw [hle]; exact q), yBs]; exact e'
        · rw [if_neg q] at e'; rw [if_neg (by rw [hle]; exact q), yBs]; exact e'
end SP
theorem z_touch (p : Int32) : zCall (f_155 0 p) (f_259 178 p) := by
  intro κ A H K C D E F o
  have hn := o.1.1.1.1
  have hr : tRg (zth A) := o.1.1.1.2.1
  have oF := o.2.2.2.2.2.2
  by_cases h : 0 ≤ p ∧ p < yN (zn A)
  · obtain ⟨l, hl, rfl⟩ := yN_of' h.1
    have hln : l < zn A := by have := h.2; rw [yN_lt hl (by omega)] at this; exact this
    have h0 := o.1.1.1.2.2.2 _ hln
    have hLl := qR_len (th := zth A) oF (show l < 16 by omega)
    have hgL : ∀ t, t ∈ qR (zth A) F l → qG (zth A) l t := fun t ht => qR_mem oF (by omega) ht
    have c91 : ∀ m, Cl m A H K C D E F → f_91 6 (yN l) (yH κ m) = some (1, yH κ m) := fun m c => by rw [s91I c.1.1 hn, decide_eq_true h, yB_t]
    have c190 : ∀ m, Rf m A H K C D E F → f_190 178 (yN l) (yH κ m) = some (1, yH κ m) := fun m c => by rw [s190 c.1.tor hn, decide_eq_true h, yB_t]
    by_cases hL : qR (zth A) F l = []
    · have hz : ∀ k, yN (qR (zth A) F l).length = k → k = 0 := fun k q => by rw [← q, hL]; rfl
      refine ⟨-2, A, H, K, C, D, E, F, o, fun m c => ?_, fun m c => ?_⟩
      · obtain ⟨m1, e1, S1, c1, g1⟩ := c.sift (κ := κ) o hln
        refine ⟨m1, ?_, c1, g1⟩
        unfold f_155
        rw [yr_0_2, yBs, ys5_0, yBs, yt_is ytw_6, pG_t, yBs, c91 m c, yBs]
        dsimp only
        rw [if_neg (by decide), yr_0_10, yBs, yr_0_2, yBs, ys5_0, yBs, yis_135, pG_t, yBs, e1, yBs, yr_0_10, yBs, yi_135_11, yBs, if_pos (hz _ S1.1.symm)]
      · obtain ⟨c1, g1⟩ := c.th 0
        obtain ⟨m1, e1, S1, c2, g2⟩ := c1.lays (κ := κ) o hln
        refine ⟨m1, ?_, c2, g1.tr g2 (fun _ _ => orSelf)⟩
        unfold f_259
        rw [yp_178_0, yBs, yis_178, pG_t, yBs, c190 _ c1, yBs]
        dsimp only
        rw [if_neg (by decide), yis_178, pG_t, yBs, e1, yBs, yi_178_50, yBs, if_pos (hz _ S1.1.symm)]
    · have hpos : 0 < (qR (zth A) F l).length := List.length_pos_iff.2 hL
      have n0 : ¬ (yN (qR (zth A) F l).length = 0) := by rw [yN_eql (by omega) (by omega)]; omega
      refine ⟨qZa (qZ (zth A) l (qR (zth A) F l) 3), A, H, K, C, [(qZb (qZ (zth A) l (qR (zth A) F l) 3)).toInt64], E, F, ⟨o.1, o.2.1, o.2.2.1, o.2.2.2.1, by simp, o.2.2.2.2.2⟩, fun m c => ?_, fun m c => ?_⟩
      · obtain ⟨m1, e1, S1, c1, g1⟩ := c.sift (κ := κ) o hln
        have e2 := s155_51 (κ := κ) (th := zth A) (show l < 16 by omega) hLl c1.1.1.1 S1 3 0 100000 rfl (by omega)
        refine ⟨rAs m1 [(qZb (qZ (zth A) l (qR (zth A) F l) 3)).toInt64], ?_, c1.row o.2.1.1 _, g1.tr (rAs_g _ _) (fun x j q => q.elim id (fun q => sA3_C q))⟩
        unfold f_155
        rw [yr_0_2, yBs, ys5_0, yBs, yt_is ytw_6, pG_t, yBs, c91 m c, yBs]
        dsimp only
        rw [if_neg (by decide), yr_0_10, yBs, yr_0_2, yBs, ys5_0, yBs, yis_135, pG_t, yBs, e1, yBs, yr_0_10, yBs, yi_135_11, yBs, S1.1, if_neg n0]
        show ((f_155_51 100000 0 (yN l) (qZa (qZ (zth A) l (qR (zth A) F l) 0)) (qZb (qZ (zth A) l (qR (zth A) F l) 0)) (yN 0) (yH κ m1)).bind _) = _
        rw [e2, yBs]
        dsimp only
        rw [yr_0_1, yBs, yis_3, pG_t, yBs, s50, yBs, yr_0_1, yBs, yis_3, pG_t, yBs, s51a, yBs]
      · obtain ⟨c1, g1⟩ := c.th 0
        obtain ⟨m1, e1, S1, c2, g2⟩ := c1.lays (κ := κ) o hln
        obtain ⟨m2, e2, F2⟩ := m259_39 (κ := κ) (l := l) (by omega) h0 hr hLl hgL 3 0 100000 m1 rfl (by omega) c2.1.tor S1
        have c3 : Rf m2 A H K C D E F := c2.fr (F2.g (fun _ _ => id)) (fun x j q => by have : x = 181 := q; unfold sRs; omega)
        have g3 : yG sR m1 m2 := F2.g (fun x j q => by have : x = 181 := q; unfold sR; omega)
        refine ⟨rBs m2 [(qZb (qZ (zth A) l (qR (zth A) F l) 3)).toInt64], ?_, c3.row _, ((g1.tr g2 (S3 := sR) (fun _ _ => orSelf)).tr g3 (S3 := sR) (fun _ _ => orSelf)).tr (rBs_g _ _) (fun x j q => q.elim id (fun q => sB3_R q))⟩
        unfold f_259
        rw [yp_178_0, yBs, yis_178, pG_t, yBs, c190 _ c1, yBs]
        dsimp only
        rw [if_neg (by decide), yis_178, pG_t, yBs, e1, yBs, yi_178_50, yBs, S1.1, if_neg n0, yN_lmul]
        show ((f_259_39 100000 178 (yN l) (qZa (qZ (zth A) l (qR (zth A) F l) 0)) (qZb (qZ (zth A) l (qR (zth A) F l) 0)) (yN (3 * l + 0)) (yH κ m1)).bind _) = _
        rw [e2, yBs]
        dsimp only
        rw [yp_178_1, yBs, yis_178, pG_t, yBs, s165_0, yBs]
  · refine ⟨-1, A, H, K, C, D, E, F, o, zCx.same fun m c => ?_, zCm.same fun m c => ?_⟩
    · unfold f_155
      rw [yr_0_2, yBs, ys5_0, yBs, yt_is ytw_6, pG_t, yBs, s91I c.1.1 hn, decide_eq_false h, yBs]
      rfl
    · obtain ⟨c1, g1⟩ := c.th 0
      unfold f_259
      rw [yp_178_0, yBs, yis_178, pG_t, yBs, s190 c1.1.tor hn, decide_eq_false h, yBs]
      rfl
