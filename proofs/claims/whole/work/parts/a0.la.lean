/-! ===== the law's loop ===== -/
def St (m : yM) : Prop := ∃ A H K C D E F, Ok A H K C D E F ∧ Cl m A H K C D E F ∧ Rf m A H K C D E F
theorem zStep {fx fm : xH → Option (Int32 × xH)} (z : zCall fx fm) {κ : yK} {m : yM} (s : St m) : ∃ v m1 m2, fx (yH κ m) = some (v, yH κ m1) ∧ fm (yH κ m1) = some (v, yH κ m2) ∧ St m2 := by
  obtain ⟨A, H, K, C, D, E, F, o, c, r⟩ := s
  obtain ⟨v, A', H', K', C', D', E', F', o', hx, hm⟩ := z κ A H K C D E F o
  obtain ⟨m1, e1, c1, g1⟩ := hx m c
  obtain ⟨m2, e2, r2, g2⟩ := hm m1 (r.fr g1 (fun x j q => by unfold sC at q; unfold sRs; omega))
  exact ⟨v, m1, m2, e1, e2, A', H', K', C', D', E', F', o', c1.fr o'.2.1.1 g2 (fun x j q => by unfold sR at q; unfold sCs; omega), r2⟩
theorem St.wl {m : yM} {v : Int64} (s : St m) : St (yWl m 212 0 v) := by
  obtain ⟨A, H, K, C, D, E, F, o, c, r⟩ := s
  have g : yG (fun x _ => x = 212) m (yWl m 212 0 v) := yG.wl m rfl
  exact ⟨A, H, K, C, D, E, F, o, c.fr o.2.1.1 g (fun x j q => by have : x = 212 := q; unfold sCs; omega), r.fr g (fun x j q => by have : x = 212 := q; unfold sRs; omega)⟩
theorem yCau {κ : yK} {m : yM} {x : Int64} : xPut (yH κ m) 212 (.inl (1, 1, .inr (.inl (vp_updL (m.2 212) 0 x)))) = yH κ (yWl m 212 0 x) := yPut_l (s := .inl (1, 1)) rfl (by rw [show yC (yRl m 212 (vp_updL (m.2 212) 0 x)) 212 (.inl (1, 1)) = .inl (1, 1, .inr (.inl ((yRl m 212 (vp_updL (m.2 212) 0 x)).2 212))) from rfl, yRl_eq])
theorem pCau_n {κ : yK} {m : yM} : pCau (some .null) 212 (yH κ m) = some (1, yH κ m) := rfl
theorem pCau_i {κ : yK} {m : yM} {x : Int32} : pCau (some (.int x)) 212 (yH κ m) = some (0, yH κ (yWl m 212 0 x.toInt64)) := by
  have e : (yH κ m).2.2.2 212 = .inl (1, 1, .inr (.inl (m.2 212))) := rfl
  unfold pCau xCaught
  rw [e]
  dsimp only
  rw [if_pos ⟨rfl, by omega⟩, yCau]
theorem pCau_l {κ : yK} {m : yM} {x : Int64} : pCau (some (.long x)) 212 (yH κ m) = some (0, yH κ (yWl m 212 0 x)) := by
  have e : (yH κ m).2.2.2 212 = .inl (1, 1, .inr (.inl (m.2 212))) := rfl
  unfold pCau xCaught
  rw [e]
  dsimp only
  rw [if_pos ⟨rfl, by omega⟩, yCau]
/-- a call that may throw, caught -/
theorem zStepT {α : Type} {fx : xH → Option (Option α × xH)} {fm : xH → Option (α × xH)} (z : zCallT fx fm) (L : α → Int64) (V : Option α → Value) (hV : V none = .null) (hS : ∀ (κ : yK) (m : yM) (w : α), pCau (some (V (some w))) 212 (yH κ m) = some (0, yH κ (yWl m 212 0 (L w)))) {κ : yK} {m : yM} (s : St m) :
    ∃ (v : Option α) (w : α) (κ1 : yK) (m1 m2 m3 : yM) (t : Int32), fx (yH κ m) = some (v, yH κ1 m1) ∧ pCau (some (V v)) 212 (yH κ1 m1) = some (t, yH κ1 m2) ∧ fm (yH κ1 m2) = some (w, yH κ1 m3) ∧ m3.1 178 0 = t ∧ (t = 0 → m3.2 212 0 = L w) ∧ St m3 ∧ κ1.1 = κ.1 ∧ κ1.2.1 ≤ κ.2.1 + 6 ∧ κ1.2.2.1 ≤ κ.2.2.1 + 1 ∧ κ1.2.2.2 = κ.2.2.2 := by
  obtain ⟨A, H, K, C, D, E, F, o, c, r⟩ := s
  cases hv : (z κ (kT κ) A H K C D E F o).choose with
  | none =>
    obtain ⟨w, h1, h2, h3⟩ := (z κ (kT κ) A H K C D E F o).choose_spec
    rw [hv] at h1 h2 h3
    obtain ⟨m1, e1, c1, g1⟩ := h2 m c
    obtain ⟨m3, e3, r3, k3, g3⟩ := h3 m1 (r.fr g1 (fun x j q => by unfold sC at q; unfold sRs; omega))
    refine ⟨none, w, kT κ, m1, m1, m3, 1, e1, by rw [hV]; rfl, e3, k3, fun q => absurd q (by decide), ⟨A, H, K, C, D, E, F, o, c1.fr o.2.1.1 g3 (fun x j q => by unfold sR at q; unfold sCs; omega), r3⟩, rfl, Nat.le_refl _, Nat.le_refl _, rfl⟩
  | some w0 =>
    cases hv' : (z κ κ A H K C D E F o).choose with
    | none =>
      obtain ⟨w, h1, h2, h3⟩ := (z κ (kT κ) A H K C D E F o).choose_spec
      obtain ⟨w', h1', h2', h3'⟩ := (z κ κ A H K C D E F o).choose_spec
      rw [hv] at h2
      rw [hv'] at h2'
      obtain ⟨m1, e1, -⟩ := h2 m c
      obtain ⟨m1', e1', -⟩ := h2' m c
      rw [e1] at e1'
      simp at e1'
    | some w1 =>
      obtain ⟨w, h1, h2, h3⟩ := (z κ κ A H K C D E F o).choose_spec
      rw [hv'] at h1 h2 h3
      have hw : w1 = w := by
        rcases h1 with h1 | h1
        · simp at h1
        · simpa using h1
      subst hw
      obtain ⟨m1, e1, c1, g1⟩ := h2 m c
      have r1 := r.fr g1 (fun x j q => by unfold sC at q; unfold sRs; omega)
      have s2 : St (yWl m1 212 0 (L w1)) := St.wl ⟨A, H, K, C, D, E, F, o, c1, r1⟩
      have g2 : yG (fun x _ => x = 212) m1 (yWl m1 212 0 (L w1)) := yG.wl m1 rfl
      have c2 : Cl (yWl m1 212 0 (L w1)) A H K C D E F := c1.fr o.2.1.1 g2 (fun x j q => by have : x = 212 := q; unfold sCs; omega)
      have r2 : Rf (yWl m1 212 0 (L w1)) A H K C D E F := r1.fr g2 (fun x j q => by have : x = 212 := q; unfold sRs; omega)
      obtain ⟨m3, e3, r3, k3, g3⟩ := h3 _ r2
      refine ⟨some w1, w1, κ, m1, _, m3, 0, e1, hS κ m1 w1, e3, k3, fun _ => ?_, ⟨A, H, K, C, D, E, F, o, c2.fr o.2.1.1 g3 (fun x j q => by unfold sR at q; unfold sCs; omega), r3⟩, rfl, by omega, by omega, rfl⟩
      rw [(g3 212 0 (by unfold sR; omega)).2, yWl_get, if_pos ⟨rfl, rfl⟩]
theorem lw_cmp {L k : Nat} (hL : L ≤ 2560) (hk : k ≤ 3000) : (yN L - 5 < yN k) = (L < k + 5) := by
  rcases Nat.lt_or_ge L 5 with h | h
  · have : ∀ L : Fin 5, (yN L.val - 5).toInt < 0 := by decide
    have h1 := this ⟨L, h⟩
    rw [yLt_iff, yN_toInt (by omega)]
    dsimp only at h1
    exact propext ⟨fun _ => by omega, fun _ => by omega⟩
  · rw [show yN L - 5 = yN (L - 5) from yN_subl (by omega), yN_lt (by omega) (by omega)]
    exact propext ⟨fun _ => by omega, fun _ => by omega⟩
theorem law_lp {L : Nat} (hL : L ≤ 2560) : ∀ (D i fu : Nat) (κ : yK) (m : yM), L < 5 * (i + D) + 5 → 5 * i ≤ 2560 → D < fu → κ.2.2.2.1 = L → St m →
    ∃ κ' m', f_270_23 fu (xKb + 2) 0 178 212 (yN (5 * i)) (yH κ m) = some (.inl (yH κ' m')) ∧ κ'.1 = κ.1 ∧ κ'.2.1 ≤ κ.2.1 + 6 * D ∧ κ'.2.2.1 ≤ κ.2.2.1 + D := by
  intro D
  induction D with
  | zero =>
    intro i fu κ m h1 h2 hf hκ s
    obtain ⟨fu, rfl⟩ : ∃ k, fu = k + 1 := ⟨fu - 1, by omega⟩
    refine ⟨κ, m, ?_, rfl, Nat.le_refl _, Nat.le_refl _⟩
    rw [f_270_23, yh_lenk, yBs, hκ, if_pos (by rw [show Int32.ofNat L = yN L from rfl, lw_cmp hL (by omega)]; omega)]
  | succ D ih =>
    intro i fu κ m h1 h2 hf hκ s
    obtain ⟨fu, rfl⟩ : ∃ k, fu = k + 1 := ⟨fu - 1, by omega⟩
    rw [f_270_23, yh_lenk, yBs, hκ]
    by_cases hend : L < 5 * i + 5
    · exact ⟨κ, m, by rw [if_pos (by rw [show Int32.ofNat L = yN L from rfl, lw_cmp hL (by omega)]; omega)], rfl, by omega, by omega⟩
    · rw [if_neg (by rw [show Int32.ofNat L = yN L from rfl, lw_cmp hL (by omega)]; omega)]
      have r0 : pAi (yH κ m) (xKb + 2) (yN (5 * i)) = some (κ.2.2.2.2 (5 * i)) := yh_k2 (by omega) (by omega)
      have r1 : ∀ (κ1 : yK) (m : yM), κ1.2.2.2 = κ.2.2.2 → pAi (yH κ1 m) (xKb + 2) (yN (5 * i) + 1) = some (κ.2.2.2.2 (5 * i + 1)) := fun κ1 m e => by rw [yN_addl, ← e]; exact yh_k2 (by rw [e]; omega) (by rw [e]; omega)
      have r2 : ∀ (κ1 : yK) (m : yM), κ1.2.2.2 = κ.2.2.2 → pAi (yH κ1 m) (xKb + 2) (yN (5 * i) + 2) = some (κ.2.2.2.2 (5 * i + 2)) := fun κ1 m e => by rw [yN_addl, ← e]; exact yh_k2 (by rw [e]; omega) (by rw [e]; omega)
      have r3 : ∀ (κ1 : yK) (m : yM), κ1.2.2.2 = κ.2.2.2 → pAi (yH κ1 m) (xKb + 2) (yN (5 * i) + 3) = some (κ.2.2.2.2 (5 * i + 3)) := fun κ1 m e => by rw [yN_addl, ← e]; exact yh_k2 (by rw [e]; omega) (by rw [e]; omega)
      have r4 : ∀ (κ1 : yK) (m : yM), κ1.2.2.2 = κ.2.2.2 → pAi (yH κ1 m) (xKb + 2) (yN (5 * i) + 4) = some (κ.2.2.2.2 (5 * i + 4)) := fun κ1 m e => by rw [yN_addl, ← e]; exact yh_k2 (by rw [e]; omega) (by rw [e]; omega)
      have go : ∀ (κ1 : yK) (m2 : yM), St m2 → κ1.1 = κ.1 → κ1.2.1 ≤ κ.2.1 + 6 → κ1.2.2.1 ≤ κ.2.2.1 + 1 → κ1.2.2.2 = κ.2.2.2 → ∃ κ' m', f_270_23 fu (xKb + 2) 0 178 212 (yN (5 * i) + 5) (yH κ1 m2) = some (.inl (yH κ' m')) ∧ κ'.1 = κ.1 ∧ κ'.2.1 ≤ κ.2.1 + 6 * (D + 1) ∧ κ'.2.2.1 ≤ κ.2.2.1 + (D + 1) := fun κ1 m2 s2 e1 e2 e3 e4 => by
        obtain ⟨κ', m', a, b, c, d⟩ := ih (i + 1) fu κ1 m2 (by omega) (by omega) (by omega) (by rw [e4]; exact hκ) s2
        refine ⟨κ', m', ?_, by rw [b, e1], by omega, by omega⟩
        rw [yN_addl, show 5 * i + 5 = 5 * (i + 1) by omega]; exact a
      rw [r0, yBs]
      generalize κ.2.2.2.2 (5 * i) &&& 63 = op
      by_cases h0 : op = 0
      · obtain ⟨v, m1, m2, e1, e2, s2⟩ := zStep (κ := κ) (z_sign (κ.2.2.2.2 (5 * i + 1))) s
        rw [if_pos h0, r1 _ _ rfl, yBs, yis_0, pG_t, yBs, e1, yBs]
        dsimp only
        rw [r1 _ _ rfl, yBs, yis_178, pG_t, yBs, e2, yBs]
        dsimp only
        rw [if_pos rfl]
        exact go κ m2 s2 rfl (by omega) (by omega) rfl
      rw [if_neg h0]
      by_cases h1 : op = 1
      · obtain ⟨v, m1, m2, e1, e2, s2⟩ := zStep (κ := κ) (z_end (κ.2.2.2.2 (5 * i + 1))) s
        rw [if_pos h1, r1 _ _ rfl, yBs, yis_0, pG_t, yBs, e1, yBs]
        dsimp only
        rw [r1 _ _ rfl, yBs, yis_178, pG_t, yBs, e2, yBs]
        dsimp only
        rw [if_pos rfl]
        exact go κ m2 s2 rfl (by omega) (by omega) rfl
      rw [if_neg h1]
      by_cases h2 : op = 2
      · obtain ⟨v, m1, m2, e1, e2, s2⟩ := zStep (κ := κ) (z_tower) s
        rw [if_pos h2, yis_0, pG_t, yBs, e1, yBs]
        dsimp only
        rw [yis_178, pG_t, yBs, e2, yBs]
        dsimp only
        rw [if_pos rfl]
        exact go κ m2 s2 rfl (by omega) (by omega) rfl
      rw [if_neg h2]
      by_cases h3 : op = 3
      · obtain ⟨v, m1, m2, e1, e2, s2⟩ := zStep (κ := κ) (z_rule) s
        rw [if_pos h3, yis_0, pG_t, yBs, e1, yBs]
        dsimp only
        rw [yis_178, pG_t, yBs, e2, yBs]
        dsimp only
        rw [if_pos rfl]
        exact go κ m2 s2 rfl (by omega) (by omega) rfl
      rw [if_neg h3]
      by_cases h4 : op = 4
      · obtain ⟨v, m1, m2, e1, e2, s2⟩ := zStep (κ := κ) (z_players) s
        rw [if_pos h4, yis_0, pG_t, yBs, e1, yBs]
        dsimp only
        rw [yis_178, pG_t, yBs, e2, yBs]
        dsimp only
        rw [if_pos rfl]
        exact go κ m2 s2 rfl (by omega) (by omega) rfl
      rw [if_neg h4]
      by_cases h5 : op = 5
      · obtain ⟨v, w, κ1, m1, m2, m3, t, e1, e2, e3, k3, kw, s3, ea, eb, ec, ek⟩ := zStepT (κ := κ) (z_block (κ.2.2.2.2 (5 * i + 1)) (κ.2.2.2.2 (5 * i + 2))) (fun w => w.toInt64) xOi rfl (fun _ _ _ => pCau_i) s
        have ht : t = 0 ∨ t ≠ 0 := by by_cases q : t = 0; exact Or.inl q; exact Or.inr q
        rw [if_pos h5, r1 _ _ rfl, yBs, r2 _ _ rfl, yBs, yis_0, pG_t, yBs, e1, yBs]
        dsimp only
        rw [e2, yBs]
        dsimp only
        rw [r1 _ _ ek, yBs, r2 _ _ ek, yBs, yis_178, pG_t, yBs, e3, yBs]
        dsimp only
        rw [yis_178, pG_t, yBs]
        unfold f_160
        rw [yi_178_0, yBs, yBs, k3]
        dsimp only
        rw [if_pos rfl]
        rcases ht with q | q
        · rw [if_pos q, show pAl (yH κ1 m3) 212 0 = some (m3.2 212 0) from yh_al (i := 0) (n := 1) rfl (by decide) (by omega), yBs, kw q, if_pos (by rw [lgc_e])]
          exact go κ1 m3 s3 ea eb ec ek
        · rw [if_neg q]
          exact go κ1 m3 s3 ea eb ec ek
      rw [if_neg h5]
      by_cases h6 : op = 6
      · obtain ⟨v, w, κ1, m1, m2, m3, t, e1, e2, e3, k3, kw, s3, ea, eb, ec, ek⟩ := zStepT (κ := κ) (z_layer (κ.2.2.2.2 (5 * i + 1)) (κ.2.2.2.2 (5 * i + 2))) (fun w => w.toInt64) xOi rfl (fun _ _ _ => pCau_i) s
        have ht : t = 0 ∨ t ≠ 0 := by by_cases q : t = 0; exact Or.inl q; exact Or.inr q
        rw [if_pos h6, r1 _ _ rfl, yBs, r2 _ _ rfl, yBs, yis_0, pG_t, yBs, e1, yBs]
        dsimp only
        rw [e2, yBs]
        dsimp only
        rw [r1 _ _ ek, yBs, r2 _ _ ek, yBs, yis_178, pG_t, yBs, e3, yBs]
        dsimp only
        rw [yis_178, pG_t, yBs]
        unfold f_160
        rw [yi_178_0, yBs, yBs, k3]
        dsimp only
        rw [if_pos rfl]
        rcases ht with q | q
        · rw [if_pos q, show pAl (yH κ1 m3) 212 0 = some (m3.2 212 0) from yh_al (i := 0) (n := 1) rfl (by decide) (by omega), yBs, kw q, if_pos (by rw [lgc_e])]
          exact go κ1 m3 s3 ea eb ec ek
        · rw [if_neg q]
          exact go κ1 m3 s3 ea eb ec ek
      rw [if_neg h6]
      by_cases h7 : op = 7
      · obtain ⟨v, m1, m2, e1, e2, s2⟩ := zStep (κ := κ) (z_plane (κ.2.2.2.2 (5 * i + 1)) (κ.2.2.2.2 (5 * i + 2))) s
        rw [if_pos h7, r1 _ _ rfl, yBs, r2 _ _ rfl, yBs, yis_0, pG_t, yBs, e1, yBs]
        dsimp only
        rw [r1 _ _ rfl, yBs, r2 _ _ rfl, yBs, yis_178, pG_t, yBs, e2, yBs]
        dsimp only
        rw [if_pos rfl]
        exact go κ m2 s2 rfl (by omega) (by omega) rfl
      rw [if_neg h7]
      by_cases h8 : op = 8
      · obtain ⟨v, m1, m2, e1, e2, s2⟩ := zStep (κ := κ) (z_sheet (κ.2.2.2.2 (5 * i + 1)) (κ.2.2.2.2 (5 * i + 2)) (κ.2.2.2.2 (5 * i + 3)) (κ.2.2.2.2 (5 * i + 4))) s
        rw [if_pos h8, r1 _ _ rfl, yBs, r2 _ _ rfl, yBs, r3 _ _ rfl, yBs, r4 _ _ rfl, yBs, yis_0, pG_t, yBs, e1, yBs]
        dsimp only
        rw [r1 _ _ rfl, yBs, r2 _ _ rfl, yBs, r3 _ _ rfl, yBs, r4 _ _ rfl, yBs, yis_178, pG_t, yBs, e2, yBs]
        dsimp only
        rw [if_pos rfl]
        exact go κ m2 s2 rfl (by omega) (by omega) rfl
      rw [if_neg h8]
      by_cases h9 : op = 9
      · obtain ⟨v, m1, m2, e1, e2, s2⟩ := zStep (κ := κ) (z_table (κ.2.2.2.2 (5 * i + 1)) (κ.2.2.2.2 (5 * i + 2))) s
        rw [if_pos h9, r1 _ _ rfl, yBs, r2 _ _ rfl, yBs, yis_0, pG_t, yBs, e1, yBs]
        dsimp only
        rw [r1 _ _ rfl, yBs, r2 _ _ rfl, yBs, yis_178, pG_t, yBs, e2, yBs]
        dsimp only
        rw [if_pos rfl]
        exact go κ m2 s2 rfl (by omega) (by omega) rfl
      rw [if_neg h9]
      by_cases h10 : op = 10
      · obtain ⟨v, m1, m2, e1, e2, s2⟩ := zStep (κ := κ) (z_swell (κ.2.2.2.2 (5 * i + 1)) (κ.2.2.2.2 (5 * i + 2))) s
        rw [if_pos h10, r1 _ _ rfl, yBs, r2 _ _ rfl, yBs, yis_0, pG_t, yBs, e1, yBs]
        dsimp only
        rw [r1 _ _ rfl, yBs, r2 _ _ rfl, yBs, yis_178, pG_t, yBs, e2, yBs]
        dsimp only
        rw [if_pos rfl]
        exact go κ m2 s2 rfl (by omega) (by omega) rfl
      rw [if_neg h10]
      by_cases h11 : op = 11
      · obtain ⟨v, m1, m2, e1, e2, s2⟩ := zStep (κ := κ) (z_bump (κ.2.2.2.2 (5 * i + 1))) s
        rw [if_pos h11, r1 _ _ rfl, yBs, yis_0, pG_t, yBs, e1, yBs]
        dsimp only
        rw [r1 _ _ rfl, yBs, yis_178, pG_t, yBs, e2, yBs]
        dsimp only
        rw [if_pos rfl]
        exact go κ m2 s2 rfl (by omega) (by omega) rfl
      rw [if_neg h11]
      by_cases h12 : op = 12
      · obtain ⟨v, m1, m2, e1, e2, s2⟩ := zStep (κ := κ) (z_stands) s
        rw [if_pos h12, yis_0, pG_t, yBs, e1, yBs]
        dsimp only
        rw [yis_178, pG_t, yBs, e2, yBs]
        dsimp only
        rw [if_pos rfl]
        exact go κ m2 s2 rfl (by omega) (by omega) rfl
      rw [if_neg h12]
      by_cases h13 : op = 13
      · obtain ⟨v, m1, m2, e1, e2, s2⟩ := zStep (κ := κ) (z_loose) s
        rw [if_pos h13, yis_0, pG_t, yBs, e1, yBs]
        dsimp only
        rw [yis_178, pG_t, yBs, e2, yBs]
        dsimp only
        rw [if_pos rfl]
        exact go κ m2 s2 rfl (by omega) (by omega) rfl
      rw [if_neg h13]
      by_cases h14 : op = 14
      · obtain ⟨v, m1, m2, e1, e2, s2⟩ := zStep (κ := κ) (z_weakest) s
        rw [if_pos h14, yis_0, pG_t, yBs, e1, yBs]
        dsimp only
        rw [yis_178, pG_t, yBs, e2, yBs]
        dsimp only
        rw [if_pos rfl]
        exact go κ m2 s2 rfl (by omega) (by omega) rfl
      rw [if_neg h14]
      by_cases h15 : op = 15
      · obtain ⟨v, m1, m2, e1, e2, s2⟩ := zStep (κ := κ) (z_lean (κ.2.2.2.2 (5 * i + 1))) s
        rw [if_pos h15, r1 _ _ rfl, yBs, yis_0, pG_t, yBs, e1, yBs]
        dsimp only
        rw [r1 _ _ rfl, yBs, yis_178, pG_t, yBs, e2, yBs]
        dsimp only
        rw [if_pos rfl]
        exact go κ m2 s2 rfl (by omega) (by omega) rfl
      rw [if_neg h15]
      by_cases h16 : op = 16
      · obtain ⟨v, m1, m2, e1, e2, s2⟩ := zStep (κ := κ) (z_moves) s
        rw [if_pos h16, yis_0, pG_t, yBs, e1, yBs]
        dsimp only
        rw [yis_178, pG_t, yBs, e2, yBs]
        dsimp only
        rw [if_pos rfl]
        exact go κ m2 s2 rfl (by omega) (by omega) rfl
      rw [if_neg h16]
      by_cases h17 : op = 17
      · obtain ⟨v, m1, m2, e1, e2, s2⟩ := zStep (κ := κ) (z_odds (κ.2.2.2.2 (5 * i + 1)) (κ.2.2.2.2 (5 * i + 2))) s
        rw [if_pos h17, r1 _ _ rfl, yBs, r2 _ _ rfl, yBs, yis_0, pG_t, yBs, e1, yBs]
        dsimp only
        rw [r1 _ _ rfl, yBs, r2 _ _ rfl, yBs, yis_178, pG_t, yBs, e2, yBs]
        dsimp only
        rw [if_pos rfl]
        exact go κ m2 s2 rfl (by omega) (by omega) rfl
      rw [if_neg h17]
      by_cases h18 : op = 18
      · obtain ⟨v, m1, m2, e1, e2, s2⟩ := zStep (κ := κ) (z_best) s
        rw [if_pos h18, yis_0, pG_t, yBs, e1, yBs]
        dsimp only
        rw [yis_178, pG_t, yBs, e2, yBs]
        dsimp only
        rw [if_pos rfl]
        exact go κ m2 s2 rfl (by omega) (by omega) rfl
      rw [if_neg h18]
      by_cases h19 : op = 19
      · obtain ⟨v, m1, m2, e1, e2, s2⟩ := zStep (κ := κ) (z_leave) s
        rw [if_pos h19, yis_0, pG_t, yBs, e1, yBs]
        dsimp only
        rw [yis_178, pG_t, yBs, e2, yBs]
        dsimp only
        rw [if_pos rfl]
        exact go κ m2 s2 rfl (by omega) (by omega) rfl
      rw [if_neg h19]
      by_cases h20 : op = 20
      · obtain ⟨v, m1, m2, e1, e2, s2⟩ := zStep (κ := κ) (z_where (κ.2.2.2.2 (5 * i + 1))) s
        rw [if_pos h20, r1 _ _ rfl, yBs, yis_0, pG_t, yBs, e1, yBs]
        dsimp only
        rw [r1 _ _ rfl, yBs, yis_178, pG_t, yBs, e2, yBs]
        dsimp only
        rw [if_pos rfl]
        exact go κ m2 s2 rfl (by omega) (by omega) rfl
      rw [if_neg h20]
      by_cases h21 : op = 21
      · obtain ⟨v, m1, m2, e1, e2, s2⟩ := zStep (κ := κ) (z_move (κ.2.2.2.2 (5 * i + 1))) s
        rw [if_pos h21, r1 _ _ rfl, yBs, yis_0, pG_t, yBs, e1, yBs]
        dsimp only
        rw [r1 _ _ rfl, yBs, yis_178, pG_t, yBs, e2, yBs]
        dsimp only
        rw [if_pos rfl]
        exact go κ m2 s2 rfl (by omega) (by omega) rfl
      rw [if_neg h21]
      by_cases h22 : op = 22
      · obtain ⟨v, m1, m2, e1, e2, s2⟩ := zStep (κ := κ) (z_play) s
        rw [if_pos h22, yis_0, pG_t, yBs, e1, yBs]
        dsimp only
        rw [yis_178, pG_t, yBs, e2, yBs]
        dsimp only
        rw [if_pos rfl]
        exact go κ m2 s2 rfl (by omega) (by omega) rfl
      rw [if_neg h22]
      by_cases h23 : op = 23
      · obtain ⟨v, m1, m2, e1, e2, s2⟩ := zStep (κ := κ) (z_undo) s
        rw [if_pos h23, yis_0, pG_t, yBs, e1, yBs]
        dsimp only
        rw [yis_178, pG_t, yBs, e2, yBs]
        dsimp only
        rw [if_pos rfl]
        exact go κ m2 s2 rfl (by omega) (by omega) rfl
      rw [if_neg h23]
      by_cases h24 : op = 24
      · obtain ⟨v, m1, m2, e1, e2, s2⟩ := zStep (κ := κ) (z_why) s
        rw [if_pos h24, yis_0, pG_t, yBs, e1, yBs]
        dsimp only
        rw [yis_178, pG_t, yBs, e2, yBs]
        dsimp only
        rw [if_pos rfl]
        exact go κ m2 s2 rfl (by omega) (by omega) rfl
      rw [if_neg h24]
      by_cases h25 : op = 25
      · obtain ⟨v, m1, m2, e1, e2, s2⟩ := zStep (κ := κ) (z_wins) s
        rw [if_pos h25, yis_0, pG_t, yBs, e1, yBs]
        dsimp only
        rw [yis_178, pG_t, yBs, e2, yBs]
        dsimp only
        rw [if_pos rfl]
        exact go κ m2 s2 rfl (by omega) (by omega) rfl
      rw [if_neg h25]
      by_cases h26 : op = 26
      · obtain ⟨v, m1, m2, e1, e2, s2⟩ := zStep (κ := κ) (z_longest) s
        rw [if_pos h26, yis_0, pG_t, yBs, e1, yBs]
        dsimp only
        rw [yis_178, pG_t, yBs, e2, yBs]
        dsimp only
        rw [if_pos rfl]
        exact go κ m2 s2 rfl (by omega) (by omega) rfl
      rw [if_neg h26]
      by_cases h27 : op = 27
      · obtain ⟨v, m1, m2, e1, e2, s2⟩ := zStep (κ := κ) (z_shortest) s
        rw [if_pos h27, yis_0, pG_t, yBs, e1, yBs]
        dsimp only
        rw [yis_178, pG_t, yBs, e2, yBs]
        dsimp only
        rw [if_pos rfl]
        exact go κ m2 s2 rfl (by omega) (by omega) rfl
      rw [if_neg h27]
      by_cases h28 : op = 28
      · obtain ⟨v, m1, m2, e1, e2, s2⟩ := zStep (κ := κ) (z_high) s
        rw [if_pos h28, yis_0, pG_t, yBs, e1, yBs]
        dsimp only
        rw [yis_178, pG_t, yBs, e2, yBs]
        dsimp only
        rw [if_pos rfl]
        exact go κ m2 s2 rfl (by omega) (by omega) rfl
      rw [if_neg h28]
      by_cases h29 : op = 29
      · obtain ⟨v, m1, m2, e1, e2, s2⟩ := zStep (κ := κ) (z_towers) s
        rw [if_pos h29, yis_0, pG_t, yBs, e1, yBs]
        dsimp only
        rw [yis_178, pG_t, yBs, e2, yBs]
        dsimp only
        rw [if_pos rfl]
        exact go κ m2 s2 rfl (by omega) (by omega) rfl
      rw [if_neg h29]
      by_cases h30 : op = 30
      · obtain ⟨v, m1, m2, e1, e2, s2⟩ := zStep (κ := κ) (z_free (κ.2.2.2.2 (5 * i + 1))) s
        rw [if_pos h30, r1 _ _ rfl, yBs, yis_0, pG_t, yBs, e1, yBs]
        dsimp only
        rw [r1 _ _ rfl, yBs, yis_178, pG_t, yBs, e2, yBs]
        dsimp only
        rw [if_pos rfl]
        exact go κ m2 s2 rfl (by omega) (by omega) rfl
      rw [if_neg h30]
      by_cases h31 : op = 31
      · obtain ⟨v, m1, m2, e1, e2, s2⟩ := zStep (κ := κ) (z_chance (κ.2.2.2.2 (5 * i + 1))) s
        rw [if_pos h31, r1 _ _ rfl, yBs, yis_0, pG_t, yBs, e1, yBs]
        dsimp only
        rw [r1 _ _ rfl, yBs, yis_178, pG_t, yBs, e2, yBs]
        dsimp only
        rw [if_pos rfl]
        exact go κ m2 s2 rfl (by omega) (by omega) rfl
      rw [if_neg h31]
      by_cases h32 : op = 32
      · obtain ⟨v, m1, m2, e1, e2, s2⟩ := zStep (κ := κ) (z_loser (κ.2.2.2.2 (5 * i + 1))) s
        rw [if_pos h32, r1 _ _ rfl, yBs, yis_0, pG_t, yBs, e1, yBs]
        dsimp only
        rw [r1 _ _ rfl, yBs, yis_178, pG_t, yBs, e2, yBs]
        dsimp only
        rw [if_pos rfl]
        exact go κ m2 s2 rfl (by omega) (by omega) rfl
      rw [if_neg h32]
      by_cases h33 : op = 33
      · obtain ⟨v, m1, m2, e1, e2, s2⟩ := zStep (κ := κ) (z_felt (κ.2.2.2.2 (5 * i + 1)) (κ.2.2.2.2 (5 * i + 2))) s
        rw [if_pos h33, r1 _ _ rfl, yBs, r2 _ _ rfl, yBs, yis_0, pG_t, yBs, e1, yBs]
        dsimp only
        rw [r1 _ _ rfl, yBs, r2 _ _ rfl, yBs, yis_178, pG_t, yBs, e2, yBs]
        dsimp only
        rw [if_pos rfl]
        exact go κ m2 s2 rfl (by omega) (by omega) rfl
      rw [if_neg h33]
      by_cases h34 : op = 34
      · obtain ⟨v, m1, m2, e1, e2, s2⟩ := zStep (κ := κ) (z_known (κ.2.2.2.2 (5 * i + 1)) (κ.2.2.2.2 (5 * i + 2)) (κ.2.2.2.2 (5 * i + 3))) s
        rw [if_pos h34, r1 _ _ rfl, yBs, r2 _ _ rfl, yBs, r3 _ _ rfl, yBs, yis_0, pG_t, yBs, e1, yBs]
        dsimp only
        rw [r1 _ _ rfl, yBs, r2 _ _ rfl, yBs, r3 _ _ rfl, yBs, yis_178, pG_t, yBs, e2, yBs]
        dsimp only
        rw [if_pos rfl]
        exact go κ m2 s2 rfl (by omega) (by omega) rfl
      rw [if_neg h34]
      by_cases h35 : op = 35
      · obtain ⟨v, m1, m2, e1, e2, s2⟩ := zStep (κ := κ) (z_forget) s
        rw [if_pos h35, yis_0, pG_t, yBs, e1, yBs]
        dsimp only
        rw [yis_178, pG_t, yBs, e2, yBs]
        dsimp only
        rw [if_pos rfl]
        exact go κ m2 s2 rfl (by omega) (by omega) rfl
      rw [if_neg h35]
      by_cases h36 : op = 36
      · obtain ⟨v, m1, m2, e1, e2, s2⟩ := zStep (κ := κ) (z_fits (κ.2.2.2.2 (5 * i + 1))) s
        rw [if_pos h36, r1 _ _ rfl, yBs, yis_0, pG_t, yBs, e1, yBs]
        dsimp only
        rw [r1 _ _ rfl, yBs, yis_178, pG_t, yBs, e2, yBs]
        dsimp only
        rw [if_pos rfl]
        exact go κ m2 s2 rfl (by omega) (by omega) rfl
      rw [if_neg h36]
      by_cases h37 : op = 37
      · obtain ⟨v, m1, m2, e1, e2, s2⟩ := zStep (κ := κ) (z_span (κ.2.2.2.2 (5 * i + 1))) s
        rw [if_pos h37, r1 _ _ rfl, yBs, yis_0, pG_t, yBs, e1, yBs]
        dsimp only
        rw [r1 _ _ rfl, yBs, yis_178, pG_t, yBs, e2, yBs]
        dsimp only
        rw [if_pos rfl]
        exact go κ m2 s2 rfl (by omega) (by omega) rfl
      rw [if_neg h37]
      by_cases h38 : op = 38
      · obtain ⟨v, m1, m2, e1, e2, s2⟩ := zStep (κ := κ) (z_sure (κ.2.2.2.2 (5 * i + 1))) s
        rw [if_pos h38, r1 _ _ rfl, yBs, yis_0, pG_t, yBs, e1, yBs]
        dsimp only
        rw [r1 _ _ rfl, yBs, yis_178, pG_t, yBs, e2, yBs]
        dsimp only
        rw [if_pos rfl]
        exact go κ m2 s2 rfl (by omega) (by omega) rfl
      rw [if_neg h38]
      by_cases h39 : op = 39
      · obtain ⟨v, m1, m2, e1, e2, s2⟩ := zStep (κ := κ) (z_touch (κ.2.2.2.2 (5 * i + 1))) s
        rw [if_pos h39, r1 _ _ rfl, yBs, yis_0, pG_t, yBs, e1, yBs]
        dsimp only
        rw [r1 _ _ rfl, yBs, yis_178, pG_t, yBs, e2, yBs]
        dsimp only
        rw [if_pos rfl]
        exact go κ m2 s2 rfl (by omega) (by omega) rfl
      rw [if_neg h39]
      by_cases h40 : op = 40
      · obtain ⟨v, m1, m2, e1, e2, s2⟩ := zStep (κ := κ) (z_keep (κ.2.2.2.2 (5 * i + 1))) s
        rw [if_pos h40, r1 _ _ rfl, yBs, yis_0, pG_t, yBs, e1, yBs]
        dsimp only
        rw [r1 _ _ rfl, yBs, yis_178, pG_t, yBs, e2, yBs]
        dsimp only
        rw [if_pos rfl]
        exact go κ m2 s2 rfl (by omega) (by omega) rfl
      rw [if_neg h40]
      by_cases h41 : op = 41
      · obtain ⟨v, m1, m2, e1, e2, s2⟩ := zStep (κ := κ) (z_again (κ.2.2.2.2 (5 * i + 1))) s
        rw [if_pos h41, r1 _ _ rfl, yBs, yis_0, pG_t, yBs, e1, yBs]
        dsimp only
        rw [r1 _ _ rfl, yBs, yis_178, pG_t, yBs, e2, yBs]
        dsimp only
        rw [if_pos rfl]
        exact go κ m2 s2 rfl (by omega) (by omega) rfl
      rw [if_neg h41]
      by_cases h42 : op = 42
      · obtain ⟨v, m1, m2, e1, e2, s2⟩ := zStep (κ := κ) (z_count (κ.2.2.2.2 (5 * i + 1))) s
        rw [if_pos h42, r1 _ _ rfl, yBs, yis_0, pG_t, yBs, e1, yBs]
        dsimp only
        rw [r1 _ _ rfl, yBs, yis_178, pG_t, yBs, e2, yBs]
        dsimp only
        rw [if_pos rfl]
        exact go κ m2 s2 rfl (by omega) (by omega) rfl
      rw [if_neg h42]
      by_cases h43 : op = 43
      · obtain ⟨v, w, κ1, m1, m2, m3, t, e1, e2, e3, k3, kw, s3, ea, eb, ec, ek⟩ := zStepT (κ := κ) (z_row (κ.2.2.2.2 (5 * i + 1))) id xOl rfl (fun _ _ _ => pCau_l) s
        have ht : t = 0 ∨ t ≠ 0 := by by_cases q : t = 0; exact Or.inl q; exact Or.inr q
        rw [if_pos h43, r1 _ _ rfl, yBs, yis_0, pG_t, yBs, e1, yBs]
        dsimp only
        rw [e2, yBs]
        dsimp only
        rw [r1 _ _ ek, yBs, yis_178, pG_t, yBs, e3, yBs]
        dsimp only
        rw [yis_178, pG_t, yBs]
        unfold f_160
        rw [yi_178_0, yBs, yBs, k3]
        dsimp only
        rw [if_pos rfl]
        rcases ht with q | q
        · rw [if_pos q, show pAl (yH κ1 m3) 212 0 = some (m3.2 212 0) from yh_al (i := 0) (n := 1) rfl (by decide) (by omega), yBs, kw q, if_pos (by rw [lgc_e]; rfl)]
          exact go κ1 m3 s3 ea eb ec ek
        · rw [if_neg q]
          exact go κ1 m3 s3 ea eb ec ek
      rw [if_neg h43]
      exact go κ m s rfl (by omega) (by omega) rfl
