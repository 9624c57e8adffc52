/-! ===== the class: sift(), the loops ===== -/
section SK
variable {κ : yK} {th : Nat → Int32} {F : zF} {l n : Nat}
theorem s81_6 (oF : okF F) (t : Bool) (hl : l < 16) : ∀ (d j fu : Nat) (m : yM), j + d = F.1 → d < fu → m.1 7 = th → cTo m F → f_81_6 fu 135 6 (yN l) (yB t) (yN (qMk th F l t j)) (yN j) (yH κ m) = some (yN (qMk th F l t F.1), yH κ m) := by
  have h20 := oF.1
  intro d
  induction d with
  | zero =>
    intro j fu m hj hf h7 hT
    obtain ⟨fu, rfl⟩ : ∃ k, fu = k + 1 := ⟨fu - 1, by omega⟩
    obtain rfl : j = F.1 := by omega
    rw [f_81_6, yi_135_10, yBs, hT.1, if_pos (by rw [yN_le (by omega) (by omega)]; omega)]
  | succ d ih =>
    intro j fu m hj hf h7 hT
    obtain ⟨fu, rfl⟩ : ∃ k, fu = k + 1 := ⟨fu - 1, by omega⟩
    obtain ⟨b1, b2⟩ := hT.2.1 j (by omega)
    have hb := oF.2.1 j (by omega)
    have hm := qMk_lt th F l t j
    have e := ih (j + 1) fu m (by omega) (by omega) h7 hT
    have e90 : f_90 6 (yN (F.2.1 j)) (yH κ m) = some (yB (tHas th (F.2.1 j)), yH κ m) := s90 ytw_6 h7 (by omega)
    have eb : (yB (F.2.2.1 j) = yB t) = (F.2.2.1 j = t) := by cases F.2.2.1 j <;> cases t <;> simp [yB]
    have em := (q8b 0 ⟨_, hm⟩ ⟨F.2.1 j % 3, Nat.mod_lt _ (by omega)⟩).2.1
    dsimp only at em
    rw [f_81_6, yi_135_10, yBs, hT.1, if_neg (by rw [yN_le (by omega) (by omega)]; omega)]
    rw [qMk] at e
    unfold qCd at e
    simp (disch := first | assumption | omega) only [yr_135_0, yr_135_1, yBs, ya_136, ya_137, b1, b2, yt_is ytw_6, pG_t, e90, yp_div, yp_rem, yN_eq, yN_addl, eb]
    by_cases c1 : F.2.1 j / 3 = l
    · rw [if_pos c1]
      by_cases c2 : F.2.2.1 j = t
      · rw [if_pos c2]
        cases c3 : tHas th (F.2.1 j) with
        | true =>
          rw [c3, if_pos (by simp [c1, c2])] at e
          rw [yB_t, if_neg (by decide), yBs]
          dsimp only
          rw [em]; exact e
        | false =>
          rw [c3, if_neg (by simp)] at e
          rw [yB_f, if_pos rfl, yBs]; exact e
      · rw [if_neg (by simp [c2])] at e
        rw [if_neg c2, yBs]; exact e
    · rw [if_neg (by simp [c1])] at e
      rw [if_neg c1, yBs]; exact e
theorem s81 {m : yM} (oF : okF F) (t : Bool) (hl : l < 16) (h7 : m.1 7 = th) (hT : cTo m F) : f_81 135 6 (yN l) (yB t) (yH κ m) = some (yN (qMk th F l t F.1), yH κ m) := by
  unfold f_81
  rw [show (0 : Int32) = yN 0 from rfl]
  have := s81_6 (κ := κ) oF t hl F.1 0 100000 m (by omega) (by have := oF.1; omega) h7 hT
  rw [qMk] at this
  rw [this, yBs]
theorem s82_2s {m : yM} {fu i : Nat} (hl : l < 16) (hi : i < 3) (h7 : m.1 7 = th) (hT : cTo m F) (oF : okF F) : f_82_2 (fu + 1) 135 6 (yN l) (yN i) (yH κ m) = f_82_2 fu 135 6 (yN l) (yN (i + 1)) (yH κ (yW (yW m 140 i (tEn (qL th F (3 * l + i)))) 141 i (tEn (qH th F (3 * l + i))))) := by
  have h9 := oF.2.2 (3 * l + i) (by omega)
  have h3 := hT.2.2 (3 * l + i) (by omega)
  have e90 : ∀ m : yM, m.1 7 = th → f_90 6 (yN (3 * l + i)) (yH κ m) = some (yB (tHas th (3 * l + i)), yH κ m) := fun m h => s90 ytw_6 h (by omega)
  have t1 := tEn_su ⟨F.2.2.2.1 (3 * l + i), by omega⟩
  have t2 := tEn_su ⟨F.2.2.2.2 (3 * l + i), by omega⟩
  dsimp only at t1 t2
  rw [f_82_2, if_neg (by rw [yN_lle (by omega) (by omega)]; omega), yr_135_4, yBs, yt_is ytw_6, pG_t, yBs, yN_lmul, yN_add, e90 m h7, yBs]
  dsimp only
  unfold qL qH
  cases hh : tHas th (3 * l + i) with
  | true =>
    simp only [yB_t, y10, if_false, if_true]
    rw [yr_135_2, yBs, ya_138 (by omega), yBs, yBs, h3.1, yst_140 hi, yBs, yr_135_5, yBs, yt_is ytw_6, pG_t, yBs, e90 _ (by rw [yW_row (by omega)]; exact h7), yBs]
    dsimp only
    rw [hh, yB_t, if_neg (by decide), yr_135_3, yBs, ya_139 (by omega), yBs, yBs, yW_row (by omega), h3.2, yst_141 hi, yBs, yN_addl, t1, t2]
  | false =>
    simp only [yB_f, if_true]
    rw [yBs, yst_140 hi, yBs, yr_135_5, yBs, yt_is ytw_6, pG_t, yBs, e90 _ (by rw [yW_row (by omega)]; exact h7), yBs]
    dsimp only
    rw [hh, yB_f, if_pos rfl, yBs, yst_141 hi, yBs, yN_addl]
    rfl
theorem s82_2 (hl : l < 16) (oF : okF F) : ∀ (d i fu : Nat) (m : yM), i + d = 3 → d < fu → m.1 7 = th → cTo m F → ∃ m', f_82_2 fu 135 6 (yN l) (yN i) (yH κ m) = some (yH κ m') ∧ (∀ k, k < 3 → i ≤ k → m'.1 140 k = tEn (qL th F (3 * l + k)) ∧ m'.1 141 k = tEn (qH th F (3 * l + k))) ∧ (∀ k, k < i → m'.1 140 k = m.1 140 k ∧ m'.1 141 k = m.1 141 k) ∧ yFr (fun x _ => x = 140 ∨ x = 141) m m' := by
  intro d
  induction d with
  | zero =>
    intro i fu m hi hf h7 hT
    obtain ⟨fu, rfl⟩ : ∃ k, fu = k + 1 := ⟨fu - 1, by omega⟩
    obtain rfl : i = 3 := by omega
    refine ⟨m, ?_, fun k hk q => by omega, fun k hk => ⟨rfl, rfl⟩, yFr.rf m⟩
    rw [f_82_2, if_pos (by decide)]
  | succ d ih =>
    intro i fu m hi hf h7 hT
    obtain ⟨fu, rfl⟩ : ∃ k, fu = k + 1 := ⟨fu - 1, by omega⟩
    rw [s82_2s hl (by omega) h7 hT oF]
    have g : yFr (fun x _ => x = 140 ∨ x = 141) m (yW (yW m 140 i (tEn (qL th F (3 * l + i)))) 141 i (tEn (qH th F (3 * l + i)))) := (yFr.w (S := fun x _ => x = 140 ∨ x = 141) m (Or.inl rfl)).tr (yFr.w (S := fun x _ => x = 140 ∨ x = 141) _ (Or.inr rfl)) (fun _ _ => orSelf)
    have w0 : ∀ k, (yW (yW m 140 i (tEn (qL th F (3 * l + i)))) 141 i (tEn (qH th F (3 * l + i)))).1 140 k = if k = i then tEn (qL th F (3 * l + i)) else m.1 140 k := fun k => by
      rw [yW_row (by omega), yW_get]
      by_cases q : k = i
      · rw [if_pos ⟨rfl, q⟩, if_pos q]
      · rw [if_neg (by omega), if_neg q]
    have w1 : ∀ k, (yW (yW m 140 i (tEn (qL th F (3 * l + i)))) 141 i (tEn (qH th F (3 * l + i)))).1 141 k = if k = i then tEn (qH th F (3 * l + i)) else m.1 141 k := fun k => by
      rw [yW_get]
      by_cases q : k = i
      · rw [if_pos ⟨rfl, q⟩, if_pos q]
      · rw [if_neg (by omega), if_neg q, yW_row (by omega)]
    generalize yW (yW m 140 i (tEn (qL th F (3 * l + i)))) 141 i (tEn (qH th F (3 * l + i))) = m1 at *
    obtain ⟨m', e', a', b', f'⟩ := ih (i + 1) fu m1 (by omega) (by omega) (by rw [g.row (fun j => by omega)]; exact h7) (hT.g (g.g (fun _ _ => id)) (fun x j q => by omega))
    refine ⟨m', e', fun k hk q => ?_, fun k hk => ?_, g.tr f' (fun _ _ => orSelf)⟩
    · by_cases r : k = i
      · subst r
        rw [(b' k (by omega)).1, (b' k (by omega)).2, w0, w1, if_pos rfl, if_pos rfl]; exact ⟨rfl, rfl⟩
      · exact a' k hk (by omega)
    · rw [(b' k (by omega)).1, (b' k (by omega)).2, w0, w1, if_neg (by omega), if_neg (by omega)]; exact ⟨rfl, rfl⟩
theorem s82_156 {x y Z : Nat} (hZ : Z ≤ 10) (hx : x ≤ 10) (hy : y ≤ 10) : ∀ (d z fu : Nat) (m : yM) (L : List qT), z + d = Z + 1 → d < fu → L.length + d ≤ 1000 → (0 < d → 0 < x + y + z) → m.1 141 2 = tEn Z → Sc m L →
    ∃ m', f_82_156 fu 135 (yN (qMk th F l true F.1)) (yN (qMk th F l false F.1)) (tEn x) (tEn y) (tEn z) (yH κ m) = some (yH κ m') ∧ Sc m' (L ++ q3 (fun b => qFo th F l b F.1) x y d z) ∧ yFr sQ m m' := by
  intro d
  induction d with
  | zero =>
    intro z fu m L hz hf hL h0 h2 hS
    obtain ⟨fu, rfl⟩ : ∃ k, fu = k + 1 := ⟨fu - 1, by omega⟩
    have t1 := tEn_lt ⟨Z, by omega⟩ ⟨z, by omega⟩
    refine ⟨m, ?_, by rw [q3, List.append_nil]; exact hS, yFr.rf m⟩
    rw [f_82_156, yr_135_5, yBs, show pAi (yH κ m) 141 2 = _ from ya_141 (i := 2) (by omega), yBs, h2, if_pos (t1.2 (by show Z < z; omega))]
  | succ d ih =>
    intro z fu m L hz hf hL h0 h2 hS
    obtain ⟨fu, rfl⟩ : ∃ k, fu = k + 1 := ⟨fu - 1, by omega⟩
    have t1 := tEn_lt ⟨Z, by omega⟩ ⟨z, by omega⟩
    have ta := tEn_ad ⟨z, by omega⟩
    dsimp only at t1 ta
    obtain ⟨hb8, hbr, -⟩ := qBt_ok hx hy (show z ≤ 10 by omega) (h0 (by omega))
    have m1 := qMk_lt th F l true F.1
    have m0 := qMk_lt th F l false F.1
    have c1 := (q8a ⟨_, hb8⟩ ⟨_, m1⟩).1
    have c0 := (q8a ⟨_, hb8⟩ ⟨_, m0⟩).2
    have cc := qFo_iff th F l hb8 F.1
    dsimp only at c1 c0
    rw [f_82_156, yr_135_5, yBs, show pAi (yH κ m) 141 2 = _ from ya_141 (i := 2) (by omega), yBs, h2, if_neg (fun q => by have := t1.1 q; omega), f96_eq, yBs, hbr]
    dsimp only
    rw [q3]
    by_cases hq : qFo th F l (qBt x y z) F.1 = true
    · obtain ⟨p1, p0⟩ := cc.2 hq
      obtain ⟨m2, e2, S2, F2⟩ := s83 (κ := κ) (t := (x, y, z)) (fun i _ => by unfold qI; dsimp only; split; exact hx; split; exact hy; omega) (h0 (by omega)) (by omega) hS
      have e2' : f_83 135 (tEn x) (tEn y) (tEn z) (yN (qBt x y z)) (yH κ m) = some (yH κ m2) := e2
      obtain ⟨m', e', S', F'⟩ := ih (z + 1) fu m2 (L ++ [(x, y, z)]) (by omega) (by omega) (by rw [List.length_append]; simp; omega) (fun _ => by omega) (by rw [F2.2 _ _ (by unfold sQ; omega), h2]) S2
      refine ⟨m', ?_, ?_, F2.tr F' (fun _ _ => orSelf)⟩
      · rw [if_pos (c1.2 p1), if_pos (c0.2 p0), yis_135, pG_t, yBs, e2', yBs, yBs, ta]; exact e'
      · rw [if_pos hq, ← List.append_assoc]; exact S'
    · obtain ⟨m', e', S', F'⟩ := ih (z + 1) fu m L (by omega) (by omega) (by omega) (fun _ => by omega) h2 hS
      refine ⟨m', ?_, ?_, F'⟩
      · have : (if (yN (qBt x y z) &&& yN (qMk th F l true F.1)) = yN (qMk th F l true F.1) then (if (yN (qBt x y z) &&& yN (qMk th F l false F.1)) = 0 then (pG (pIs (yH κ m) 135 9)).bind fun _ => (f_83 135 (tEn x) (tEn y) (tEn z) (yN (qBt x y z)) (yH κ m)).bind fun h14 => some h14 else some (yH κ m)) else some (yH κ m) : Option xH) = some (yH κ m) := by
          by_cases k1 : (yN (qBt x y z) &&& yN (qMk th F l true F.1)) = yN (qMk th F l true F.1)
          · rw [if_pos k1, if_neg (fun k0 => hq (cc.1 ⟨c1.1 k1, c0.1 k0⟩))]
          · rw [if_neg k1]
        rw [this, yBs, ta]; exact e'
      · rw [if_neg hq]; exact S'
theorem s82_137 {x Y Z Z0 Zd : Nat} (hZ : Z ≤ 10) (hx : x ≤ 10) (hY : Y ≤ 10) (hd : Z0 + Zd = Z + 1) : ∀ (d y fu : Nat) (m : yM) (L : List qT), y + d = Y + 1 → d < fu → L.length + Zd * d ≤ 1000 → (0 < d → 0 < x + y + Z0) → m.1 141 1 = tEn Y → m.1 141 2 = tEn Z → m.1 140 2 = tEn Z0 → Sc m L →
    ∃ m', f_82_137 fu 135 (yN (qMk th F l true F.1)) (yN (qMk th F l false F.1)) (tEn x) (tEn y) (yH κ m) = some (yH κ m') ∧ Sc m' (L ++ q2 (fun b => qFo th F l b F.1) Z0 Zd x d y) ∧ yFr sQ m m' := by
  intro d
  induction d with
  | zero =>
    intro y fu m L hz hf hL h0 h1 h2 h3 hS
    obtain ⟨fu, rfl⟩ : ∃ k, fu = k + 1 := ⟨fu - 1, by omega⟩
    have t1 := tEn_lt ⟨Y, by omega⟩ ⟨y, by omega⟩
    refine ⟨m, ?_, by rw [q2, List.append_nil]; exact hS, yFr.rf m⟩
    rw [f_82_137, yr_135_5, yBs, show pAi (yH κ m) 141 1 = _ from ya_141 (i := 1) (by omega), yBs, h1, if_pos (t1.2 (by show Y < y; omega))]
  | succ d ih =>
    intro y fu m L hz hf hL h0 h1 h2 h3 hS
    obtain ⟨fu, rfl⟩ : ∃ k, fu = k + 1 := ⟨fu - 1, by omega⟩
    have t1 := tEn_lt ⟨Y, by omega⟩ ⟨y, by omega⟩
    have ta := tEn_ad ⟨y, by omega⟩
    dsimp only at t1 ta
    rw [Nat.mul_succ] at hL
    obtain ⟨m2, e2, S2, F2⟩ := s82_156 (κ := κ) (th := th) (F := F) (l := l) hZ hx (show y ≤ 10 by omega) Zd Z0 100000 m L hd (by omega) (by omega) (fun _ => h0 (by omega)) h2 hS
    have ln := q3_len (fun b => qFo th F l b F.1) x y Zd Z0
    obtain ⟨m', e', S', F'⟩ := ih (y + 1) fu m2 _ (by omega) (by omega) (by rw [List.length_append]; omega) (fun _ => by omega) (by rw [F2.2 _ _ (by unfold sQ; omega), h1]) (by rw [F2.2 _ _ (by unfold sQ; omega), h2]) (by rw [F2.2 _ _ (by unfold sQ; omega), h3]) S2
    refine ⟨m', ?_, ?_, F2.tr F' (fun _ _ => orSelf)⟩
    · rw [f_82_137, yr_135_5, yBs, show pAi (yH κ m) 141 1 = _ from ya_141 (i := 1) (by omega), yBs, h1, if_neg (fun q => by have := t1.1 q; omega), yr_135_4, yBs, show pAi (yH κ m) 140 2 = _ from ya_140 (i := 2) (by omega), yBs, h3, e2, yBs, ta]; exact e'
    · rw [q2, ← List.append_assoc]; exact S'
theorem s82_118 {X Y0 Yd Y Z Z0 Zd : Nat} (hX : X ≤ 10) (hY : Y ≤ 10) (hZ : Z ≤ 10) (hd : Z0 + Zd = Z + 1) (hd1 : Y0 + Yd = Y + 1) : ∀ (d x fu : Nat) (m : yM) (L : List qT), x + d = X + 1 → d < fu → L.length + (Zd * Yd) * d ≤ 1000 → (0 < d → 0 < x + Y0 + Z0) → m.1 141 0 = tEn X → m.1 141 1 = tEn Y → m.1 141 2 = tEn Z → m.1 140 1 = tEn Y0 → m.1 140 2 = tEn Z0 → Sc m L →
    ∃ m', f_82_118 fu 135 (yN (qMk th F l true F.1)) (yN (qMk th F l false F.1)) (tEn x) (yH κ m) = some (yH κ m') ∧ Sc m' (L ++ q1 (fun b => qFo th F l b F.1) Z0 Zd Y0 Yd d x) ∧ yFr sQ m m' := by
  intro d
  induction d with
  | zero =>
    intro x fu m L hz hf hL h0 h1 h2 h3 h4 h5 hS
    obtain ⟨fu, rfl⟩ : ∃ k, fu = k + 1 := ⟨fu - 1, by omega⟩
    have t1 := tEn_lt ⟨X, by omega⟩ ⟨x, by omega⟩
    refine ⟨m, ?_, by rw [q1, List.append_nil]; exact hS, yFr.rf m⟩
    rw [f_82_118, yr_135_5, yBs, show pAi (yH κ m) 141 0 = _ from ya_141 (i := 0) (by omega), yBs, h1, if_pos (t1.2 (by show X < x; omega))]
  | succ d ih =>
    intro x fu m L hz hf hL h0 h1 h2 h3 h4 h5 hS
    obtain ⟨fu, rfl⟩ : ∃ k, fu = k + 1 := ⟨fu - 1, by omega⟩
    have t1 := tEn_lt ⟨X, by omega⟩ ⟨x, by omega⟩
    have ta := tEn_ad ⟨x, by omega⟩
    dsimp only at t1 ta
    rw [Nat.mul_succ] at hL
    obtain ⟨m2, e2, S2, F2⟩ := s82_137 (κ := κ) (th := th) (F := F) (l := l) hZ (show x ≤ 10 by omega) hY hd Yd Y0 100000 m L hd1 (by omega) (by omega) (fun _ => h0 (by omega)) h2 h3 h5 hS
    have ln := q2_len (fun b => qFo th F l b F.1) Z0 Zd x Yd Y0
    have fq : ∀ x j, x = 140 ∨ x = 141 → m2.1 x j = m.1 x j := fun x j q => F2.2 _ _ (by unfold sQ; omega)
    obtain ⟨m', e', S', F'⟩ := ih (x + 1) fu m2 _ (by omega) (by omega) (by rw [List.length_append]; omega) (fun _ => by omega) (by rw [fq _ _ (by omega), h1]) (by rw [fq _ _ (by omega), h2]) (by rw [fq _ _ (by omega), h3]) (by rw [fq _ _ (by omega), h4]) (by rw [fq _ _ (by omega), h5]) S2
    refine ⟨m', ?_, ?_, F2.tr F' (fun _ _ => orSelf)⟩
    · rw [f_82_118, yr_135_5, yBs, show pAi (yH κ m) 141 0 = _ from ya_141 (i := 0) (by omega), yBs, h1, if_neg (fun q => by have := t1.1 q; omega), yr_135_4, yBs, show pAi (yH κ m) 140 1 = _ from ya_140 (i := 1) (by omega), yBs, h4, e2, yBs, ta]; exact e'
    · rw [q1, ← List.append_assoc]; exact S'
theorem qR_pos (oF : okF F) (hl : l < 16) (h0 : 0 < tBl th l) : 0 < qL th F (3 * l) + qL th F (3 * l + 1) + qL th F (3 * l + 2) := by
  have a0 := qLH (th := th) oF (b := 3 * l) (by omega)
  have a1 := qLH (th := th) oF (b := 3 * l + 1) (by omega)
  have a2 := qLH (th := th) oF (b := 3 * l + 2) (by omega)
  unfold tBl at h0
  cases c0 : tHas th (3 * l) with
  | true => have := a0.2.2.2.2.1 c0; omega
  | false =>
    cases c1 : tHas th (3 * l + 1) with
    | true => have := a1.2.2.2.2.1 c1; omega
    | false =>
      cases c2 : tHas th (3 * l + 2) with
      | true => have := a2.2.2.2.2.1 c2; omega
      | false => rw [c0, c1, c2] at h0; simp at h0
theorem s82 {m : yM} (oF : okF F) (hl : l < 16) (h0 : 0 < tBl th l) (h7 : m.1 7 = th) (hT : cTo m F) : ∃ m', f_82 135 6 (yN l) (yH κ m) = some (yH κ m') ∧ Sc m' (qR th F l) ∧ yFr sQ2 m m' := by
  obtain ⟨m1, e1, a1, -, F1⟩ := s82_2 (κ := κ) (th := th) hl oF 3 0 100000 m rfl (by omega) h7 hT
  have h7' : m1.1 7 = th := by rw [F1.row (fun j => by omega)]; exact h7
  have hT' : cTo m1 F := hT.g (F1.g (fun _ _ => id)) (fun x j q => by omega)
  have e81 := s81 (κ := κ) (th := th) (l := l) oF true hl h7' hT'
  have e80 := s81 (κ := κ) (th := th) (l := l) oF false hl h7' hT'
  let m2 := yR (yR (yW m1 135 11 0) 142 (fun j => if j < 3 then 0 else (yW m1 135 11 0).1 142 j)) 143 (fun j => if j < 3 then 0 else (yR (yW m1 135 11 0) 142 (fun j => if j < 3 then 0 else (yW m1 135 11 0).1 142 j)).1 143 j)
  have F2 : yFr sQ m1 m2 := ⟨rfl, fun x j q => by
    show (yR (yR (yW m1 135 11 0) 142 _) 143 _).1 x j = _
    rw [yR_ne _ _ (fun e => q (by unfold sQ; omega)), yR_ne _ _ (fun e => q (by unfold sQ; omega)), yW_get, if_neg (fun e => q (Or.inl e))]⟩
  have S2 : Sc m2 [] := by
    refine ⟨?_, fun i hi => ⟨?_, ?_, fun t h => by simp at h, fun t h => by simp at h⟩⟩
    · show (yR (yR (yW m1 135 11 0) 142 _) 143 _).1 135 11 = _
      rw [yR_ne _ _ (by omega), yR_ne _ _ (by omega), yW_self, upd_eq]; rfl
    · show (yR (yR (yW m1 135 11 0) 142 _) 143 _).1 142 i = _
      rw [yR_ne _ _ (by omega), yR_eq, if_pos hi]; rfl
    · show (yR (yR (yW m1 135 11 0) 142 _) 143 _).1 143 i = _
      rw [yR_eq, if_pos hi]; rfl
  have b0 := qLH (th := th) oF (b := 3 * l) (by omega)
  have b1 := qLH (th := th) oF (b := 3 * l + 1) (by omega)
  have b2 := qLH (th := th) oF (b := 3 * l + 2) (by omega)
  have fq : ∀ x j, x = 140 ∨ x = 141 → m2.1 x j = m1.1 x j := fun x j q => F2.2 _ _ (by unfold sQ; omega)
  have p1 : qD th F (3 * l + 2) * qD th F (3 * l + 1) ≤ 10 * 10 := Nat.mul_le_mul b2.2.2.2.1 b1.2.2.2.1
  have p2 : qD th F (3 * l + 2) * qD th F (3 * l + 1) * qD th F (3 * l) ≤ 10 * 10 * 10 := Nat.mul_le_mul p1 b0.2.2.2.1
  have hp := qR_pos (th := th) oF hl h0
  obtain ⟨m', e', S', F'⟩ := s82_118 (κ := κ) (th := th) (F := F) (l := l) b0.2.1 b1.2.1 b2.2.1 b2.2.2.1 b1.2.2.1 (qD th F (3 * l)) (qL th F (3 * l)) 100000 m2 [] b0.2.2.1 (by omega) (by simp; omega) (fun _ => hp) (by rw [fq _ _ (by omega)]; exact (a1 0 (by omega) (by omega)).2) (by rw [fq _ _ (by omega)]; exact (a1 1 (by omega) (by omega)).2) (by rw [fq _ _ (by omega)]; exact (a1 2 (by omega) (by omega)).2) (by rw [fq _ _ (by omega)]; exact (a1 1 (by omega) (by omega)).1) (by rw [fq _ _ (by omega)]; exact (a1 2 (by omega) (by omega)).1) S2
  have i0 : m2.1 140 0 = tEn (qL th F (3 * l)) := by rw [fq _ _ (by omega)]; exact (a1 0 (by omega) (by omega)).1
  refine ⟨m', ?_, S', (F1.tr F2 (S3 := sQ2) (fun x j q => by unfold sQ2; rcases q with q | q; omega; unfold sQ at q; omega)).tr F' (fun x j q => q.elim id (fun q => by unfold sQ at q; unfold sQ2; omega))⟩
  unfold f_82
  rw [show (0 : Int32) = yN 0 from rfl, e1, yBs, yis_135, pG_t, yBs, show (1 : Int32) = yB true from rfl, e81, yBs]
  dsimp only
  rw [yis_135, pG_t, yBs, show (yN 0 : Int32) = yB false from rfl, e80, yBs]
  dsimp only
  rw [show yB false = (0 : Int32) from rfl, yp_135_11, yBs, yr_135_6, yBs, s266 (N := 3) rfl (by omega), yBs, yr_135_7, yBs, s266 (N := 3) rfl (by omega), yBs, yr_135_4, yBs]
  show ((pAi (yH κ m2) 140 0).bind _) = _
  rw [show pAi (yH κ m2) 140 0 = _ from ya_140 (i := 0) (by omega), yBs, i0, e', yBs]
end SK
