/-! ===== the text is read: players() ===== -/
def isD (x : Int32) : Bool := decide (48 ≤ x ∧ x ≤ 57)
theorem isD_n {k : Nat} (hk : k < 256) : isD (yN k) = decide (48 ≤ k ∧ k ≤ 57) := by
  unfold isD
  exact decide_eq_decide.mpr (by rw [yN_lle (by omega) (by omega), yN_lel (by omega) (by omega)])
/-- the digits in a row -/
def ld (f : Nat → Int32) : Nat → Nat → Nat
  | 0, i => i
  | d + 1, i => if isD (f i) = true then ld f d (i + 1) else i
theorem ld_rng (f : Nat → Int32) : ∀ d i, i ≤ ld f d i ∧ ld f d i ≤ i + d ∧ (∀ j, i ≤ j → j < ld f d i → isD (f j) = true)
  | 0, i => by rw [ld]; exact ⟨Nat.le_refl _, Nat.le_refl _, fun j p q => by omega⟩
  | d + 1, i => by
    rw [ld]
    have ih := ld_rng f d (i + 1)
    by_cases h : isD (f i) = true
    · rw [if_pos h]
      refine ⟨by omega, by omega, fun j p q => ?_⟩
      by_cases e : j = i
      · subst e; exact h
      · exact ih.2.2 j (by omega) q
    · rw [if_neg h]; exact ⟨Nat.le_refl _, by omega, fun j p q => by omega⟩
/-- the reference begins to read -/
def yRd (m : yM) (N : Nat) : yM := yW (yW (yW (yW m 178 10 0) 178 11 0) 178 13 0) 178 12 (yN N)
section RD
variable {κ : yK} {m : yM} {A : zT} {H : zH} {K : zK} {C : zC} {D : List Int64} {E : zE} {F : zF}
theorem yRd_get (m : yM) (N x j : Nat) : (yRd m N).1 x j = if x = 178 ∧ j = 12 then yN N else if x = 178 ∧ (j = 10 ∨ j = 11 ∨ j = 13) then 0 else m.1 x j := by
  unfold yRd
  rw [yW_get, yW_get, yW_get, yW_get]
  by_cases h1 : x = 178 ∧ j = 12
  · rw [if_pos h1, if_pos h1]
  · rw [if_neg h1, if_neg h1]
    by_cases h2 : x = 178 ∧ (j = 10 ∨ j = 11 ∨ j = 13)
    · rw [if_pos h2]
      obtain ⟨rfl, h3⟩ := h2
      rcases h3 with rfl | rfl | rfl <;> simp
    · rw [if_neg h2, if_neg (by omega), if_neg (by omega), if_neg (by omega)]
theorem m173 {p : Nat} (h : m.1 178 10 = yN C.1) (hC : C.1 ≤ 80) (hp : p ≤ 80) : f_173 178 (yN p) (yH κ m) = some (yN C.1, yH κ (yRd m (min C.1 p))) := by
  unfold f_173
  rw [yi_178_10, yBs, yp_178_10, yBs, yp_178_11, yBs, yp_178_13, yBs, h, yp_minN (by omega) (by omega), yp_178_12, yBs]
  rfl
def sRd (x j : Nat) : Prop := x = 178 ∧ 10 ≤ j ∧ j ≤ 13
theorem yRd_fr (m : yM) (N : Nat) : yFr sRd m (yRd m N) := ⟨rfl, fun x j q => by unfold sRd at q; rw [yRd_get, if_neg (by omega), if_neg (by omega)]⟩
theorem Rf.rd (c : Rf m A H K C D E F) (N : Nat) : Rf (yRd m N) A H K (0, C.2) D E F ∧ yG sR m (yRd m N) :=
  ⟨c.fC ((yRd_fr m N).g (fun _ _ => id)) (fun x j q => by unfold sRd at q; unfold sRs; omega) ⟨by rw [yRd_get, if_neg (by omega), if_pos (by omega)]; rfl, fun j hj => by exact absurd hj (Nat.not_lt_zero _)⟩, (yRd_fr m N).g (fun x j q => by unfold sRd at q; unfold sR; omega)⟩
theorem s76 {i : Nat} (hT : cTx m C) (hC : C.1 ≤ 80) (hi : i < C.1) : f_76 1 (yN i) (yH κ m) = some (yB (isD (C.2 i)), yH κ m) := by
  unfold f_76 isD
  rw [if_neg (by rw [yN_ltl (by omega) (by omega)]; omega), yi_1_1, yBs, hT.1, if_neg (by rw [yN_le (by omega) (by omega)]; omega), yr_1_0, yBs, ya_2 (by omega), yBs, hT.2 i hi]
  by_cases h1 : C.2 i < 48
  · rw [if_pos h1, yBs, decide_eq_false (by rintro ⟨q, -⟩; rw [yLe_iff] at q; rw [yLt_iff] at h1; omega)]; exact pZ_0 _
  · rw [if_neg h1, yBs, ya_2 (by omega), yBs, hT.2 i hi]
    by_cases h2 : 57 < C.2 i
    · rw [if_pos h2, yBs, decide_eq_false (by rintro ⟨-, q⟩; rw [yLe_iff] at q; rw [yLt_iff] at h2; omega)]; exact pZ_0 _
    · rw [if_neg h2, yBs, decide_eq_true ⟨yLe_of_lt h1, yLe_of_lt h2⟩]; exact pZ_1 _
theorem m175 {i N : Nat} (h11 : m.1 178 11 = yN i) (h12 : m.1 178 12 = yN N) (hN : N ≤ C.1) (hC : C.1 ≤ 80) (hi : i ≤ N) (hT : ∀ j, j < C.1 → m.1 183 j = C.2 j) : f_175 178 (yH κ m) = some (yB (decide (i < N) && isD (C.2 i)), yH κ m) := by
  unfold f_175
  rw [yi_178_11, yBs, yi_178_12, yBs, h11, h12]
  by_cases h : i < N
  · rw [if_neg (by rw [yN_le (by omega) (by omega)]; omega), yr_178_9, yBs, yBs, ya_183 (by omega), yBs, hT i (by omega), s162l _ 48 57 48 57 rfl rfl, yBs, decide_eq_true h, Bool.true_and]
    unfold isD
    dsimp only
    cases decide (48 ≤ C.2 i ∧ C.2 i ≤ 57)
    · rw [yB_f, if_pos rfl, yBs]; exact pZ_0 _
    · rw [yB_t, if_neg (by decide), yBs]; exact pZ_1 _
  · rw [if_pos (by rw [yN_le (by omega) (by omega)]; omega), yBs, decide_eq_false h]; exact pZ_0 _
/-- the end of reading -/
theorem m177 {pos N len p : Nat} {w : Bool} (h11 : m.1 178 11 = yN pos) (h12 : m.1 178 12 = yN N) (hp : pos ≤ N) (hN : N ≤ 80) (hl : len ≤ 80) (hq : p ≤ 80) : f_177 178 (yN len) (yN p) (yB w) (yH κ m) = some (if len ≤ p then (if (w && decide (pos = N)) = true then 0 else -1 - yN pos) else if (w && decide (pos = N)) = true then -1 - yN p else if pos < p then -1 - yN pos else -1 - yN p, yH κ m) := by
  unfold f_177
  have e1 : ((if yB w = 0 then some 0 else (pFi (yH κ m) 178 12 11).bind fun x7 => (pFi (yH κ m) 178 12 12).bind fun x8 => (if x7 = x8 then some 1 else some 0)) : Option Int32) = some (yB (w && decide (pos = N))) := by
    cases w with
    | false => rw [yB_f, if_pos rfl]; rfl
    | true =>
      rw [yB_t, if_neg (by decide), yi_178_11, yBs, yi_178_12, yBs, h11, h12, Bool.true_and]
      by_cases q : pos = N
      · rw [if_pos (by rw [q]), decide_eq_true q]; rfl
      · rw [if_neg (by rw [yN_eq (by omega) (by omega)]; exact q), decide_eq_false q]; rfl
  rw [e1, yBs]
  by_cases hlp : len ≤ p
  · rw [if_pos (by rw [yN_le (by omega) (by omega)]; exact hlp), if_pos hlp]
    cases (w && decide (pos = N)) with
    | false => rw [yB_f, if_pos rfl, yi_178_11, yBs, yBs, h11, if_neg (by decide)]
    | true => rw [yB_t, if_neg (by decide), yBs, if_pos rfl]
  · rw [if_neg (by rw [yN_le (by omega) (by omega)]; exact hlp), if_neg hlp]
    cases (w && decide (pos = N)) with
    | true => rw [yB_t, if_neg (by decide), if_pos rfl]
    | false =>
      rw [yB_f, if_pos rfl, yi_178_11, yBs, h11, if_neg (show ¬ (false = true) by decide)]
      by_cases q : pos < p
      · rw [if_pos (by rw [yN_lt (by omega) (by omega)]; exact q), if_pos rfl, yBs, yBs, if_pos q]
      · rw [if_neg (by rw [yN_lt (by omega) (by omega)]; exact q), if_neg q]
end RD
section PL
variable {κ : yK} {C : zC}
theorem s110_2 {m : yM} (hT : cTx m C) (hC : C.1 ≤ 80) : ∀ (d i fu : Nat), i + d = min C.1 4 → d < fu → f_110_2 fu 0 (yN i) (yH κ m) = some (if ld C.2 d i = min C.1 4 then .inl (yH κ m) else .inr (yN (ld C.2 d i), yH κ m)) := by
  intro d
  induction d with
  | zero =>
    intro i fu hi hf
    obtain ⟨fu, rfl⟩ : ∃ k, fu = k + 1 := ⟨fu - 1, by omega⟩
    rw [f_110_2, yr_0_0, yBs, yi_1_1, yBs, hT.1, ld, if_pos (show i = min C.1 4 by omega)]
    by_cases q : C.1 ≤ i
    · rw [if_pos (by rw [yN_le (by omega) (by omega)]; exact q)]
    · rw [if_neg (by rw [yN_le (by omega) (by omega)]; exact q), if_pos (by rw [yN_lle (by omega) (by omega)]; omega)]
  | succ d ih =>
    intro i fu hi hf
    obtain ⟨fu, rfl⟩ : ∃ k, fu = k + 1 := ⟨fu - 1, by omega⟩
    have e := ih (i + 1) fu (by omega) (by omega)
    rw [f_110_2, yr_0_0, yBs, yi_1_1, yBs, hT.1, if_neg (by rw [yN_le (by omega) (by omega)]; omega), if_neg (by rw [yN_lle (by omega) (by omega)]; omega), yBs, yis_1, pG_t, yBs, s76 hT hC (by omega), yBs]
    dsimp only
    rw [ld]
    cases h : isD (C.2 i) with
    | false => rw [yB_f, if_pos rfl, if_neg (show ¬ (false = true) by decide), if_neg (by omega)]
    | true => rw [yB_t, if_neg (by decide), yN_addl, if_pos rfl]; exact e
theorem s110 {m : yM} (hT : cTx m C) (hC : C.1 ≤ 80) : f_110 0 (yH κ m) = some (if ld C.2 (min C.1 4) 0 = min C.1 4 then (if C.1 = 0 then 0 else if C.1 ≤ 4 then -1 else 4) else yN (ld C.2 (min C.1 4) 0), yH κ m) := by
  unfold f_110
  rw [show (0 : Int32) = yN 0 from rfl, s110_2 hT hC (min C.1 4) 0 100000 (by omega) (by omega), yBs]
  by_cases q : ld C.2 (min C.1 4) 0 = min C.1 4
  · rw [if_pos q, if_pos q]
    dsimp only
    rw [yr_0_0, yBs, yi_1_1, yBs, hT.1]
    by_cases q0 : C.1 = 0
    · rw [q0, if_pos rfl, if_pos rfl]
    · rw [if_neg (by rw [yN_eq (by omega) (by omega)]; exact q0), if_neg q0, yBs, yi_1_1, yBs, hT.1]
      by_cases q4 : C.1 ≤ 4
      · rw [if_pos (by rw [yN_lel (by omega) (by omega)]; exact q4), if_pos q4, yBs]
      · rw [if_neg (by rw [yN_lel (by omega) (by omega)]; exact q4), if_neg q4, yBs]
  · rw [if_neg q, if_neg q]
theorem s109_23 {p : Int32} (h4 : C.1 ≤ 4) : ∀ (d i fu : Nat) (m : yM), i + d = C.1 → d < fu → m.1 0 16 = yN C.1 → (∀ j, j < C.1 → m.1 2 j = C.2 j) → ∃ m', f_109_23 fu 0 p (yN i) (yH κ m) = some (yH κ m') ∧ (∀ j, i ≤ j → j < C.1 → m'.1 158 j = C.2 j - 48) ∧ (∀ j, j < i → m'.1 158 j = m.1 158 j) ∧ yFr (fun x _ => x = 158) m m' := by
  intro d
  induction d with
  | zero =>
    intro i fu m hi hf h16 hT
    obtain ⟨fu, rfl⟩ : ∃ k, fu = k + 1 := ⟨fu - 1, by omega⟩
    refine ⟨m, ?_, fun j p q => by omega, fun j _ => rfl, yFr.rf m⟩
    rw [f_109_23, yi_0_16, yBs, h16, if_pos (by rw [yN_le (by omega) (by omega)]; omega)]
  | succ d ih =>
    intro i fu m hi hf h16 hT
    obtain ⟨fu, rfl⟩ : ∃ k, fu = k + 1 := ⟨fu - 1, by omega⟩
    have g : yFr (fun x _ => x = 158) m (yW m 158 i (C.2 i - 48)) := yFr.w m rfl
    have w : ∀ j, (yW m 158 i (C.2 i - 48)).1 158 j = if j = i then C.2 i - 48 else m.1 158 j := fun j => by
      rw [yW_get]
      by_cases q : j = i
      · rw [if_pos ⟨rfl, q⟩, if_pos q]
      · rw [if_neg (by omega), if_neg q]
    have st : f_109_23 (fu + 1) 0 p (yN i) (yH κ m) = f_109_23 fu 0 p (yN (i + 1)) (yH κ (yW m 158 i (C.2 i - 48))) := by
      rw [f_109_23, yi_0_16, yBs, h16, if_neg (by rw [yN_le (by omega) (by omega)]; omega), if_neg (by rw [yN_lle (by omega) (by omega)]; omega), yr_0_14, yBs, yr_0_0, yBs, yr_1_0, yBs, ya_2 (by omega), yBs, hT i (by omega), yst_158 (by omega), yBs, yN_addl]
    rw [st]
    generalize yW m 158 i (C.2 i - 48) = m1 at *
    obtain ⟨m', e', a', b', f'⟩ := ih (i + 1) fu m1 (by omega) (by omega) (by rw [g.2 _ _ (by omega)]; exact h16) (fun j hj => by rw [g.2 _ _ (by omega)]; exact hT j hj)
    refine ⟨m', e', fun j p q => ?_, fun j hj => by rw [b' j (by omega), w, if_neg (by omega)], g.tr f' (fun _ _ => orSelf)⟩
    by_cases r : j = i
    · subst r; rw [b' j (by omega), w, if_pos rfl]
    · exact a' j (by omega) q
def sP4 (x j : Nat) : Prop := x = 184 ∨ (x = 178 ∧ j = 11)
theorem m180_13 {N : Nat} {p : Int32} (hN : N ≤ C.1) (hC : C.1 ≤ 80) (hN4 : N ≤ 48) : ∀ (d i fu : Nat) (m : yM), i + d = N → d < fu → m.1 178 11 = yN i → m.1 178 12 = yN N → (∀ j, j < C.1 → m.1 183 j = C.2 j) →
    ∃ m', f_180_13 fu 178 p (yN i) (yH κ m) = some (yN (ld C.2 d i), yH κ m') ∧ m'.1 178 11 = yN (ld C.2 d i) ∧ (∀ j, i ≤ j → j < ld C.2 d i → m'.1 184 j = C.2 j - 48) ∧ (∀ j, j < i → m'.1 184 j = m.1 184 j) ∧ yFr sP4 m m' := by
  intro d
  induction d with
  | zero =>
    intro i fu m hi hf h11 h12 hT
    obtain ⟨fu, rfl⟩ : ∃ k, fu = k + 1 := ⟨fu - 1, by omega⟩
    refine ⟨m, ?_, by rw [ld]; exact h11, fun j p q => by rw [ld] at q; omega, fun j _ => rfl, yFr.rf m⟩
    rw [f_180_13, yis_178, pG_t, yBs, m175 h11 h12 hN hC (by omega) hT, decide_eq_false (by omega), yBs, ld]; rfl
  | succ d ih =>
    intro i fu m hi hf h11 h12 hT
    obtain ⟨fu, rfl⟩ : ∃ k, fu = k + 1 := ⟨fu - 1, by omega⟩
    have e175 := m175 (κ := κ) h11 h12 hN hC (by omega) hT
    rw [decide_eq_true (show i < N by omega), Bool.true_and] at e175
    rw [ld]
    cases hd : isD (C.2 i) with
    | false =>
      rw [if_neg (show ¬ (false = true) by decide)]
      refine ⟨m, ?_, h11, fun j p q => by omega, fun j _ => rfl, yFr.rf m⟩
      rw [f_180_13, yis_178, pG_t, yBs, e175, hd, yBs]; rfl
    | true =>
      rw [if_pos rfl]
      have g : yFr sP4 m (yW (yW m 184 i (C.2 i - 48)) 178 11 (yN (i + 1))) := (yFr.w (S := sP4) m (Or.inl rfl)).tr (yFr.w (S := sP4) _ (Or.inr ⟨rfl, rfl⟩)) (fun _ _ => orSelf)
      have w : ∀ j, (yW (yW m 184 i (C.2 i - 48)) 178 11 (yN (i + 1))).1 184 j = if j = i then C.2 i - 48 else m.1 184 j := fun j => by
        rw [yW_row (by omega), yW_get]
        by_cases q : j = i
        · rw [if_pos ⟨rfl, q⟩, if_pos q]
        · rw [if_neg (by omega), if_neg q]
      have w1 : (yW (yW m 184 i (C.2 i - 48)) 178 11 (yN (i + 1))).1 178 11 = yN (i + 1) := by rw [yW_self, upd_eq]
      have st : f_180_13 (fu + 1) 178 p (yN i) (yH κ m) = f_180_13 fu 178 p (yN (i + 1)) (yH κ (yW (yW m 184 i (C.2 i - 48)) 178 11 (yN (i + 1)))) := by
        have k11 : (yW m 184 i (C.2 i - 48)).1 178 11 = yN i := by rw [yW_row (by omega)]; exact h11
        rw [f_180_13, yis_178, pG_t, yBs, e175, hd, yBs]
        dsimp only
        rw [yB_t, if_neg (by decide), yr_178_14, yBs, yr_178_9, yBs, yi_178_11, yBs, h11, ya_183 (by omega), yBs, hT i (by omega), yst_184 (by omega), yBs, yi_178_11, yBs, k11, yN_addl, yp_178_11, yBs]
      rw [st]
      generalize yW (yW m 184 i (C.2 i - 48)) 178 11 (yN (i + 1)) = m1 at *
      obtain ⟨m', e', q', a', b', f'⟩ := ih (i + 1) fu m1 (by omega) (by omega) w1 (by rw [g.2 _ _ (by unfold sP4; omega)]; exact h12) (fun j hj => by rw [g.2 _ _ (by unfold sP4; omega)]; exact hT j hj)
      refine ⟨m', e', q', fun j p q => ?_, fun j hj => by rw [b' j (by omega), w, if_neg (by omega)], g.tr f' (fun _ _ => orSelf)⟩
      by_cases r : j = i
      · subst r; rw [b' j (by omega), w, if_pos rfl]
      · exact a' j (by omega) q
theorem m180_79 {k : Nat} (h4 : k ≤ 4) : ∀ (d i fu : Nat) (m : yM), i + d = k → d < fu → ∃ m', f_180_79 fu 178 (yN k) (yN i) (yH κ m) = some (yH κ m') ∧ (∀ j, i ≤ j → j < k → m'.1 182 j = m.1 184 j) ∧ (∀ j, j < i → m'.1 182 j = m.1 182 j) ∧ yFr (fun x _ => x = 182) m m' := by
  intro d
  induction d with
  | zero =>
    intro i fu m hi hf
    obtain ⟨fu, rfl⟩ : ∃ k, fu = k + 1 := ⟨fu - 1, by omega⟩
    refine ⟨m, ?_, fun j p q => by omega, fun j _ => rfl, yFr.rf m⟩
    rw [f_180_79, if_pos (by rw [yN_le (by omega) (by omega)]; omega)]
  | succ d ih =>
    intro i fu m hi hf
    obtain ⟨fu, rfl⟩ : ∃ k, fu = k + 1 := ⟨fu - 1, by omega⟩
    have g : yFr (fun x _ => x = 182) m (yW m 182 i (m.1 184 i)) := yFr.w m rfl
    have w : ∀ j, (yW m 182 i (m.1 184 i)).1 182 j = if j = i then m.1 184 i else m.1 182 j := fun j => by
      rw [yW_get]
      by_cases q : j = i
      · rw [if_pos ⟨rfl, q⟩, if_pos q]
      · rw [if_neg (by omega), if_neg q]
    have st : f_180_79 (fu + 1) 178 (yN k) (yN i) (yH κ m) = f_180_79 fu 178 (yN k) (yN (i + 1)) (yH κ (yW m 182 i (m.1 184 i))) := by
      rw [f_180_79, if_neg (by rw [yN_le (by omega) (by omega)]; omega), yr_178_5, yBs, yr_178_14, yBs, ya_184 (by omega), yBs, yst_182 (by omega), yBs, yN_addl]
    rw [st]
    generalize yW m 182 i (m.1 184 i) = m1 at *
    obtain ⟨m', e', a', b', f'⟩ := ih (i + 1) fu m1 (by omega) (by omega)
    refine ⟨m', e', fun j p q => ?_, fun j hj => by rw [b' j (by omega), w, if_neg (by omega)], g.tr f' (fun _ _ => orSelf)⟩
    by_cases r : j = i
    · subst r; rw [b' j (by omega), w, if_pos rfl]
    · rw [a' j (by omega) q, g.2 _ _ (by omega)]
end PL
