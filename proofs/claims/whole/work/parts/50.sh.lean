/-! ===== calls: sheet, lean, loose ===== -/
def ent (k v : Int32) : Int32 := if k = 0 then v.toInt8.toInt32 else if k = 1 then v.toInt16.toInt32 else v
/-- what the i-th entry of a sheet becomes -/
def shV (k n f s : Int32) (i : Nat) : Int32 := if k = 3 then 0 else if yN i < n then fit (ent k (f + yN i * s)) else 0
theorem shV_ok (k n f s : Int32) (i : Nat) : 0 ≤ shV k n f s i ∧ shV k n f s i ≤ 9 := by
  unfold shV
  split
  · decide
  · split
    · exact fit_ok _
    · decide
/-- behind the first b blocks: the tower, entries taken, the sum -/
def shS (th : Nat → Int32) (k n f s : Int32) : Nat → (Nat → Int32) × Nat × Int32
  | 0 => (th, 0, 0)
  | b + 1 => if tHas th b = true then (upd (shS th k n f s b).1 b (shV k n f s (shS th k n f s b).2.1), (shS th k n f s b).2.1 + 1, (shS th k n f s b).2.2 + shV k n f s (shS th k n f s b).2.1) else shS th k n f s b
section SH
variable {κ : yK} {th : Nat → Int32} {n0 : Nat} {k n f s : Int32}
theorem shS_ge : ∀ b j, b ≤ j → (shS th k n f s b).1 j = th j := by
  intro b
  induction b with
  | zero => intro j _; rfl
  | succ b ih =>
    intro j hj
    simp only [shS]
    split
    · show upd _ b _ j = th j
      rw [upd_ne _ _ (by omega)]; exact ih j (by omega)
    · exact ih j (by omega)
theorem shS_le : ∀ b, (shS th k n f s b).2.1 ≤ b := by
  intro b
  induction b with
  | zero => exact Nat.le_refl _
  | succ b ih =>
    simp only [shS]
    split
    · show (shS th k n f s b).2.1 + 1 ≤ b + 1; omega
    · omega
theorem shS_ok (hk : tOk th n0) : ∀ b, b ≤ 48 → tOk (shS th k n f s b).1 n0 ∧ ((∀ j, 48 ≤ j → th j = 0) → ∀ j, 48 ≤ j → (shS th k n f s b).1 j = 0) := by
  intro b
  induction b with
  | zero => intro _; exact ⟨hk, fun h => h⟩
  | succ b ih =>
    intro hb
    obtain ⟨i1, i2⟩ := ih (by omega)
    simp only [shS]
    split
    next h =>
      have := tHas_n hk h
      exact ⟨tOk_put' i1 this (shV_ok _ _ _ _ _), fun hz j hj => by show upd _ b _ j = 0; rw [upd_ne _ _ (by omega)]; exact i2 hz j hj⟩
    next => exact ⟨i1, i2⟩
theorem shS_has {b : Nat} : tHas (shS th k n f s b).1 b = tHas th b := by unfold tHas; rw [shS_ge b b (Nat.le_refl _)]
theorem s116_18 (hk : tOk th n0) {N : Int32} (hN : ∀ i, i < 48 → (if k = 3 then 0 else if yN i < n then fit (ent k (f + yN i * s)) else 0 : Int32) = if N ≤ yN i then 0 else fit (ent k (f + yN i * s))) : ∀ (d b fu : Nat) (m : yM), b + d = 48 → d < fu → Tow m 6 (shS th k n f s b).1 n0 → ∃ m', f_116_18 fu k N f s 6 (shS th k n f s b).2.2 (yN (shS th k n f s b).2.1) (yN b) (yH κ m) = some ((shS th k n f s 48).2.2, yH κ m') ∧ Tow m' 6 (shS th k n f s 48).1 n0 ∧ yFr (sT 6) m m' := by
  have hn := hk.1
  intro d
  induction d with
  | zero =>
    intro b fu m hd hf ht
    obtain ⟨fu, rfl⟩ : ∃ k, fu = k + 1 := ⟨fu - 1, by omega⟩
    obtain rfl : b = 48 := by omega
    refine ⟨m, ?_, ht, yFr.rf m⟩
    unfold f_116_18
    simp (disch := first | assumption | omega) only [yN_add, yN_addl, yN_ladd, yN_mul, yN_mull, yN_lmul, yN_sub, yN_subl, yN_lsub, yN_lt, yN_ltl, yN_llt, yN_le, yN_lel, yN_lle, yN_eq, yN_eql, yN_leq, yN_eqm, yN_lem, yN_ltm, yN_mlt, yN_mle, yN_addm, yN_madd, yp_div, yp_rem, yp_divN, yp_remN, if_pos, if_neg]
  | succ d ih =>
    intro b fu m hd hf ht
    obtain ⟨fu, rfl⟩ : ∃ k, fu = k + 1 := ⟨fu - 1, by omega⟩
    have hle := shS_le (th := th) (k := k) (n := n) (f := f) (s := s) b
    have h48 : (no_index (48 : Int32)) ≤ yN b ↔ 48 ≤ b := by rw [yN_lle (by omega) (by omega)]
    cases h : tHas th b with
    | false =>
      have e : shS th k n f s (b + 1) = shS th k n f s b := by rw [shS, if_neg (by rw [h]; decide)]
      obtain ⟨m', e', T', F'⟩ := ih (b + 1) fu m (by omega) (by omega) (by rw [e]; exact ht)
      refine ⟨m', ?_, T', F'⟩
      rw [f_116_18, if_neg (by rw [h48]; omega)]
      simp (disch := first | assumption | omega) only [yt_is ytw_6, s90 ytw_6 ht.1, shS_has, h, yB_f, if_true, yBs, pG_t, pZ_0, pZ_1, pZ_B, yN_addl]
      rw [e] at e'
      exact e'
    | true =>
      have e : shS th k n f s (b + 1) = (upd (shS th k n f s b).1 b (shV k n f s (shS th k n f s b).2.1), (shS th k n f s b).2.1 + 1, (shS th k n f s b).2.2 + shV k n f s (shS th k n f s b).2.1) := by rw [shS, if_pos h]
      have hbn := tHas_n hk h
      obtain ⟨m1, e1, T1, F1⟩ := s92 (κ := κ) (b := b) (v := shV k n f s (shS th k n f s b).2.1) ytw_6 ht hn (by omega) (by omega)
      rw [show max n0 (b / 3 + 1) = n0 by omega] at T1
      obtain ⟨m', e', T', F'⟩ := ih (b + 1) fu m1 (by omega) (by omega) (by rw [e]; exact T1)
      refine ⟨m', ?_, T', F1.tr F' (fun _ _ => orSelf)⟩
      rw [f_116_18, if_neg (by rw [h48]; omega)]
      have w : (if N ≤ yN (shS th k n f s b).2.1 then some (0, yH κ m) else (f_117 k (f + yN (shS th k n f s b).2.1 * s) (yH κ m)).bind fun (x34, h33) => (f_85 x34 h33).bind fun (x36, h35) => some (x36, h35) : Option (Int32 × xH)) = some (shV k n f s (shS th k n f s b).2.1, yH κ m) := by
        have e117 : ∀ v, f_117 k v (yH κ m) = some (ent k v, yH κ m) := fun v => by
          unfold f_117 ent
          by_cases h0 : k = 0
          · rw [if_pos h0, if_pos h0]
          · rw [if_neg h0, if_neg h0, yIte_some]; rfl
        unfold shV
        rw [hN _ (by omega)]
        by_cases h1 : N ≤ yN (shS th k n f s b).2.1
        · rw [if_pos h1, if_pos h1]
        · rw [if_neg h1, if_neg h1, e117, yBs]; rfl
      simp (disch := first | assumption | omega) only [yt_is ytw_6, s90 ytw_6 ht.1, shS_has, h, yB_t, y10, if_false, yBs, pG_t, pZ_0, pZ_1, pZ_B]
      rw [w]
      simp (disch := first | assumption | omega) only [yt_is ytw_6, yBs, pG_t, pZ_0, pZ_1, pZ_B, e1, yN_addl]
      rw [e] at e'
      exact e'
theorem s193_49 (hk : tOk th n0) : ∀ (d b fu : Nat) (m : yM), b + d = 48 → d < fu → Tor m 180 (shS th k n f s b).1 n0 → ∃ m', f_193_49 fu 178 k n s (shS th k n f s b).2.2 (f + yN (shS th k n f s b).2.1 * s) (yN (shS th k n f s b).2.1) (yN b) (yH κ m) = some ((shS th k n f s 48).2.2, yH κ m') ∧ Tor m' 180 (shS th k n f s 48).1 n0 ∧ yFr sN48 m m' := by
  have hn := hk.1
  intro d
  induction d with
  | zero =>
    intro b fu m hd hf ht
    obtain ⟨fu, rfl⟩ : ∃ k, fu = k + 1 := ⟨fu - 1, by omega⟩
    obtain rfl : b = 48 := by omega
    refine ⟨m, ?_, ht, yFr.rf m⟩
    unfold f_193_49
    simp (disch := first | assumption | omega) only [yN_add, yN_addl, yN_ladd, yN_mul, yN_mull, yN_lmul, yN_sub, yN_subl, yN_lsub, yN_lt, yN_ltl, yN_llt, yN_le, yN_lel, yN_lle, yN_eq, yN_eql, yN_leq, yN_eqm, yN_lem, yN_ltm, yN_mlt, yN_mle, yN_addm, yN_madd, yp_div, yp_rem, yp_divN, yp_remN, if_pos, if_neg]
  | succ d ih =>
    intro b fu m hd hf ht
    obtain ⟨fu, rfl⟩ : ∃ k, fu = k + 1 := ⟨fu - 1, by omega⟩
    have hle := shS_le (th := th) (k := k) (n := n) (f := f) (s := s) b
    have h48 : (no_index (48 : Int32)) ≤ yN b ↔ 48 ≤ b := by rw [yN_lle (by omega) (by omega)]
    have r1 : m.1 180 b = th b := by rw [ht.1 _ (by omega), shS_ge b b (Nat.le_refl _)]
    have hge := tRg_ge hk.2.1 (show b < 48 by omega)
    have hin := tHas_in (th := th) (show b < 48 by omega)
    rw [f_193_49, if_neg (by rw [h48]; omega)]
    simp (disch := first | assumption | omega) only [yr_178_3, yr_a yAr_180, yBs, r1]
    by_cases h : th b = -1
    · have hf0 : tHas th b = false := by rw [hin, h]; rfl
      have e : shS th k n f s (b + 1) = shS th k n f s b := by rw [shS, if_neg (by rw [hf0]; decide)]
      obtain ⟨m', e', T', F'⟩ := ih (b + 1) fu m (by omega) (by omega) (by rw [e]; exact ht)
      refine ⟨m', ?_, T', F'⟩
      rw [if_neg (by rw [hge]; exact fun q => q h), yBs]
      simp (disch := first | assumption | omega) only [yN_addl]
      rw [e] at e'
      exact e'
    · have hf0 : tHas th b = true := by rw [hin]; simp [h]
      have e : shS th k n f s (b + 1) = (upd (shS th k n f s b).1 b (shV k n f s (shS th k n f s b).2.1), (shS th k n f s b).2.1 + 1, (shS th k n f s b).2.2 + shV k n f s (shS th k n f s b).2.1) := by rw [shS, if_pos hf0]
      have T1 : Tor (yW m 180 b (shV k n f s (shS th k n f s b).2.1)) 180 (shS th k n f s (b + 1)).1 n0 := by rw [e]; exact ht.upd (by omega)
      obtain ⟨m', e', T', F'⟩ := ih (b + 1) fu _ (by omega) (by omega) T1
      refine ⟨m', ?_, T', (yFr.w (S := sN48) m ⟨rfl, by omega⟩).tr F' (fun _ _ => orSelf)⟩
      rw [if_pos (by rw [hge]; exact h)]
      have w1 : ∀ v : Int32, (if k = 0 then some v.toInt8.toInt32 else if k = 1 then some v.toInt16.toInt32 else some v : Option Int32) = some (ent k v) := fun v => by
        unfold ent
        split
        · rfl
        · split <;> rfl
      have w2 : (if k = 3 then some 0 else if yN (shS th k n f s b).2.1 < n then some (pMax 0 (pMin 9 (ent k (f + yN (shS th k n f s b).2.1 * s)))) else some 0 : Option Int32) = some (shV k n f s (shS th k n f s b).2.1) := by
        unfold shV
        split
        · rfl
        · split <;> rfl
      have w3 : ∀ i : Nat, f + yN i * s + s = f + yN (i + 1) * s := fun i => by
        rw [show yN (i + 1) = yN i + 1 from Int32.ofNat_add i 1, Int32.add_mul, Int32.one_mul, Int32.add_assoc]
      simp (disch := first | assumption | omega) only [w1, w2, yBs, yr_178_3, yr_a yAr_180, yr_s yAr_180, yW_self, upd_eq, w3, yN_addl]
      rw [e] at e'
      exact e'
end SH
theorem z_sheet (p q r t : Int32) : zCall (f_115 0 p q r t) (f_193 178 p q r t) := by
  intro κ A H K C D E F o
  have hk := o.1.1.1
  by_cases h : (0 ≤ p ∧ p ≤ 3) ∧ q ≤ 48
  · obtain ⟨h1, h2⟩ := h
    have p1 : ¬ p < 0 := fun a => by have := h1.1; rw [yLe_iff] at this; rw [yLt_iff] at a; omega
    have p2 : ¬ 3 < p := fun a => by have := h1.2; rw [yLe_iff] at this; rw [yLt_iff] at a; omega
    by_cases h3 : p = 3 ∨ 0 ≤ q
    · have hN : ∀ i, i < 48 → (if p = 3 then 0 else if yN i < q then fit (ent p (r + yN i * t)) else 0 : Int32) = if (if p = 3 then 0 else q) ≤ yN i then 0 else fit (ent p (r + yN i * t)) := fun i hi => by
        by_cases h4 : p = 3
        · rw [if_pos h4, if_pos h4, if_pos (by rw [yI0n (by omega)]; trivial)]
        · rw [if_neg h4, if_neg h4]
          by_cases h5 : yN i < q
          · rw [if_pos h5, if_neg (fun a => by rw [yLe_iff] at a; rw [yLt_iff] at h5; omega)]
          · rw [if_neg h5, if_pos (yLe_of_lt h5)]
      refine ⟨if p = 3 then -3 else (shS (zth A) p q r t 48).2.2, ((shS (zth A) p q r t 48).1, A.2), H, K, C, D, E, F, ⟨⟨⟨(shS_ok hk 48 (by omega)).1, (shS_ok hk 48 (by omega)).2 o.1.1.2.1, o.1.1.2.2⟩, o.1.2⟩, o.2⟩, fun m c => ?_, fun m c => ?_⟩
      · obtain ⟨m1, e1, T1, F1⟩ := s116_18 (κ := κ) (k := p) (n := q) (f := r) (s := t) hk hN 48 0 100000 m (by omega) (by omega) c.1.1
        have e2 : ∀ N, N = (if p = 3 then 0 else q) → f_116 0 p N r t (yH κ m) = some ((shS (zth A) p q r t 48).2.2, yH κ m1) := fun N hN2 => by
          unfold f_116
          simp (disch := first | assumption | omega) only [yr_0_2, ys5_0, yBs]
          have e3 : f_116_18 100000 p N r t 6 0 0 0 (yH κ m) = some ((shS (zth A) p q r t 48).2.2, yH κ m1) := by rw [hN2]; exact e1
          rw [e3, yBs]
        refine ⟨m1, ?_, c.tow o.2.1.1 (F1.g (S3 := sT6) (fun x j r => r)) (fun x j r => Or.inr r) T1, F1.g (fun x j r => by unfold sT at r; unfold sC; omega)⟩
        unfold f_115
        rw [if_neg p1, if_neg p2, if_pos h2]
        by_cases h4 : p = 3
        · rw [if_pos h4, if_pos h4]
          simp (disch := first | assumption | omega) only [yis_0, pG_t, yBs, e2 0 (by rw [if_pos h4])]
        · rw [if_neg h4, if_neg h4, if_pos (h3.resolve_left h4)]
          simp (disch := first | assumption | omega) only [yis_0, pG_t, yBs, e2 q (by rw [if_neg h4])]
      · obtain ⟨c0, g0⟩ := c.th 0
        have T := c0.1.tor
        obtain ⟨m1, e1, T1, F1⟩ := s193_49 (κ := κ) (k := p) (n := q) (f := r) (s := t) hk 48 0 100000 (yW m 178 0 0) (by omega) (by omega) T
        have e2 : f_193_49 100000 178 p q t 0 r 0 0 (yH κ (yW m 178 0 0)) = some ((shS (zth A) p q r t 48).2.2, yH κ m1) := by
          have : r = r + yN (shS (zth A) p q r t 0).2.1 * t := by
            show r = r + yN 0 * t
            rw [show yN 0 = (0 : Int32) from rfl, Int32.zero_mul, Int32.add_zero]
          conv => lhs; rw [this]
          exact e1
        refine ⟨m1, ?_, c0.tor (F1.g (fun _ _ r => r)) (fun x j r => Or.inr r) T1, g0.tr (F1.g (S3 := sR) (fun x j r => by unfold sN48 at r; unfold sR; omega)) (fun _ _ => orSelf)⟩
        unfold f_193
        simp (disch := first | assumption | omega) only [yp_178_0, yBs]
        rw [s162l _ 0 3 0 3 rfl rfl, decide_eq_true h1]
        simp (disch := first | assumption | omega) only [yB_t, y10, if_false, yBs]
        rw [if_pos h2]
        by_cases h4 : p = 3
        · rw [if_pos h4, e2, yBs, if_pos h4]
          simp (disch := first | assumption | omega) only [if_pos h4, yBs]
        · rw [if_neg h4, if_pos (h3.resolve_left h4), e2, yBs, if_neg h4]
          simp (disch := first | assumption | omega) only [if_neg h4, yBs]
    · have h4 : ¬ p = 3 := fun a => h3 (Or.inl a)
      have h5 : ¬ 0 ≤ q := fun a => h3 (Or.inr a)
      refine ⟨-2, A, H, K, C, D, E, F, o, zCx.same fun m c => ?_, zCm.same fun m c => ?_⟩
      · unfold f_115
        rw [if_neg p1, if_neg p2, if_pos h2, if_neg h4, if_neg h5, yBs]
      · unfold f_193
        simp (disch := first | assumption | omega) only [yp_178_0, yBs]
        rw [s162l _ 0 3 0 3 rfl rfl, decide_eq_true h1]
        simp (disch := first | assumption | omega) only [yB_t, y10, if_false, yBs]
        rw [if_pos h2, if_neg h4, if_neg h5]
  · refine ⟨-1, A, H, K, C, D, E, F, o, zCx.same fun m c => ?_, zCm.same fun m c => ?_⟩
    · unfold f_115
      by_cases h1 : p < 0
      · rw [if_pos h1]
      · rw [if_neg h1]
        by_cases h2 : 3 < p
        · rw [if_pos h2]
        · rw [if_neg h2, if_neg (fun a => h ⟨⟨yLe_of_lt h1, yLe_of_lt h2⟩, a⟩)]
    · unfold f_193
      simp (disch := first | assumption | omega) only [yp_178_0, yBs]
      rw [s162l _ 0 3 0 3 rfl rfl]
      by_cases h1 : 0 ≤ p ∧ p ≤ 3
      · rw [decide_eq_true h1]
        simp (disch := first | assumption | omega) only [yB_t, y10, if_false, yBs]
        rw [if_neg (fun a => h ⟨h1, a⟩)]
      · rw [decide_eq_false h1]; simp only [yBs, pZ_0, pZ_1, pZ_B, if_true, if_false, y10, y01, yB_t, yB_f]
/-! lean() -/
/-- behind the first l layers: how far it leans, what it weighs -/
def lnS (th : Nat → Int32) (p : Int32) : Nat → Int32 × Int32
  | 0 => (0, 0)
  | l + 1 => ((lnS th p l).1 + (if yN (l % 2) = p then tMo th l else 0), (lnS th p l).2 + tWg th l)
theorem lnS_top {th : Nat → Int32} {p : Int32} {n : Nat} (hk : tOk th n) : ∀ d l, l + d = 16 → n ≤ l → lnS th p l = lnS th p 16 := by
  intro d
  induction d with
  | zero => intro l hl _; rw [show l = 16 by omega]
  | succ d ih =>
    intro l hl hn
    rw [← ih (l + 1) (by omega) (by omega)]
    have e0 := hk.2.2.1 (3 * l) (by omega) (by omega)
    have e1 := hk.2.2.1 (3 * l + 1) (by omega) (by omega)
    have e2 := hk.2.2.1 (3 * l + 2) (by omega) (by omega)
    have hw : tWg th l = 0 := tWg_0 e0 e1 e2
    have hm : tMo th l = 0 := by unfold tMo; rw [e0, e2]; decide
    rw [lnS, hw, hm]
    refine Prod.ext ?_ ?_
    · show (lnS th p l).1 = (lnS th p l).1 + (if yN (l % 2) = p then 0 else 0)
      split <;> simp
    · show (lnS th p l).2 = (lnS th p l).2 + 0
      simp
section LE
variable {κ : yK} {m : yM} {th : Nat → Int32} {n : Nat} {p : Int32}
theorem s124_29 (ht : Tow m 6 th n) (hn : n ≤ 16) : ∀ (d l fu : Nat), l + d = n → d < fu → f_124_29 fu 0 p 6 (lnS th p l).1 (lnS th p l).2 (yN l) (yH κ m) = some ((lnS th p n).1, (lnS th p n).2, yH κ m) := by
  intro d
  induction d with
  | zero =>
    intro l fu hd hf
    obtain ⟨fu, rfl⟩ : ∃ k, fu = k + 1 := ⟨fu - 1, by omega⟩
    obtain rfl : l = n := by omega
    unfold f_124_29
    simp (disch := first | assumption | omega) only [yN_add, yN_addl, yN_ladd, yN_mul, yN_mull, yN_lmul, yN_sub, yN_subl, yN_lsub, yN_lt, yN_ltl, yN_llt, yN_le, yN_lel, yN_lle, yN_eq, yN_eql, yN_leq, yN_eqm, yN_lem, yN_ltm, yN_mlt, yN_mle, yN_addm, yN_madd, yp_div, yp_rem, yp_divN, yp_remN, if_pos, if_neg, yt_4 ytw_6, yBs, ht.2.1]
  | succ d ih =>
    intro l fu hd hf
    obtain ⟨fu, rfl⟩ : ∃ k, fu = k + 1 := ⟨fu - 1, by omega⟩
    obtain ⟨q1, q2, -⟩ := ht.2.2 l (by omega)
    have r := ih (l + 1) fu (by omega) (by omega)
    unfold f_124_29
    simp (disch := first | assumption | omega) only [yN_add, yN_addl, yN_ladd, yN_mul, yN_mull, yN_lmul, yN_sub, yN_subl, yN_lsub, yN_lt, yN_ltl, yN_llt, yN_le, yN_lel, yN_lle, yN_eq, yN_eql, yN_leq, yN_eqm, yN_lem, yN_ltm, yN_mlt, yN_mle, yN_addm, yN_madd, yp_div, yp_rem, yp_divN, yp_remN, if_pos, if_neg, yt_4 ytw_6, yBs, ht.2.1, yt_2 ytw_6, yt_1 ytw_6, yt_a2 ytw_6, yt_a3 ytw_6, q1, q2, yIte_some]
    exact r
theorem s200_26 (ht : Tor m 180 th n) (hr : tRg th) : ∀ (d l fu : Nat), l + d = 16 → 3 * d < fu → f_200_26 fu 178 p (lnS th p l).1 (lnS th p l).2 (yN (3 * l)) (yH κ m) = some ((lnS th p 16).1, (lnS th p 16).2, yH κ m) := by
  intro d
  induction d with
  | zero =>
    intro l fu hd hf
    obtain ⟨fu, rfl⟩ : ∃ k, fu = k + 1 := ⟨fu - 1, by omega⟩
    obtain rfl : l = 16 := by omega
    unfold f_200_26
    simp (disch := first | assumption | omega) only [yN_add, yN_addl, yN_ladd, yN_mul, yN_mull, yN_lmul, yN_sub, yN_subl, yN_lsub, yN_lt, yN_ltl, yN_llt, yN_le, yN_lel, yN_lle, yN_eq, yN_eql, yN_leq, yN_eqm, yN_lem, yN_ltm, yN_mlt, yN_mle, yN_addm, yN_madd, yp_div, yp_rem, yp_divN, yp_remN, if_pos, if_neg]
  | succ d ih =>
    intro l fu hd hf
    obtain ⟨fu, rfl⟩ : ∃ k, fu = k + 1 + 1 + 1 := ⟨fu - 3, by omega⟩
    have r := ih (l + 1) fu (by omega) (by omega)
    have d0 : 3 * l / 3 = l := by omega
    have d1 : (3 * l + 1) / 3 = l := by omega
    have d2 : (3 * l + 1 + 1) / 3 = l := by omega
    have m0 : 3 * l % 3 = 0 := by omega
    have m1 : (3 * l + 1) % 3 = 1 := by omega
    have m2 : (3 * l + 1 + 1) % 3 = 2 := by omega
    have t0 := tW_ref (hr (3 * l) (by omega))
    have t1 := tW_ref (hr (3 * l + 1) (by omega))
    have t2 := tW_ref (hr (3 * l + 1 + 1) (by omega))
    unfold f_200_26 f_200_26 f_200_26
    simp (disch := first | assumption | omega) only [yN_add, yN_addl, yN_ladd, yN_mul, yN_mull, yN_lmul, yN_sub, yN_subl, yN_lsub, yN_lt, yN_ltl, yN_llt, yN_le, yN_lel, yN_lle, yN_eq, yN_eql, yN_leq, yN_eqm, yN_lem, yN_ltm, yN_mlt, yN_mle, yN_addm, yN_madd, yp_div, yp_rem, yp_divN, yp_remN, if_pos, if_neg, yr_178_3, yr_a yAr_180, yBs, ht.1, d0, d1, d2, m0, m1, m2, yIte_some, t0, t1, t2]
    have e : 3 * (l + 1) = 3 * l + 1 + 1 + 1 := by omega
    rw [e] at r
    have e0 : yN 0 - 1 = (-1 : Int32) := rfl
    have e1 : yN 1 - 1 = (0 : Int32) := rfl
    have e2 : yN 2 - 1 = (1 : Int32) := rfl
    refine Eq.trans ?_ r
    congr 1
    · rw [lnS]
      show _ = (lnS th p l).1 + (if yN (l % 2) = p then tMo th l else 0)
      by_cases hp : yN (l % 2) = p
      · simp only [if_pos hp]; unfold tMo; grind
      · simp only [if_neg hp]; grind
    · rw [lnS]
      show _ = (lnS th p l).2 + tWg th l
      unfold tWg; grind
end LE
theorem z_lean (p : Int32) : zCall (f_124 0 p) (f_200 178 p) := by
  intro κ A H K C D E F o
  have hk := o.1.1.1
  have hn := hk.1
  by_cases h : 0 ≤ p ∧ p ≤ 1
  · have hp : ¬ p < 0 := fun a => by have := h.1; rw [yLe_iff] at this; rw [yLt_iff] at a; omega
    have et := lnS_top (p := p) hk (16 - zn A) (zn A) (by omega) (Nat.le_refl _)
    refine ⟨(lnS (zth A) p 16).1, A, H, K, C, [(lnS (zth A) p 16).2.toInt64], E, F, ⟨o.1, o.2.1, o.2.2.1, o.2.2.2.1, by simp, o.2.2.2.2.2⟩, fun m c => ?_, fun m c => ?_⟩
    · refine ⟨rAs m [(lnS (zth A) p 16).2.toInt64], ?_, c.row o.2.1.1 _, (rAs_g m _).wk (fun _ _ => sA3_C)⟩
      have e1 : f_124_29 100000 0 p 6 0 0 0 (yH κ m) = some ((lnS (zth A) p 16).1, (lnS (zth A) p 16).2, yH κ m) := by rw [← et]; exact s124_29 (κ := κ) c.1.1 hn (zn A) 0 100000 (by omega) (by omega)
      unfold f_124
      simp (disch := first | assumption | omega) only [if_neg hp, if_pos h.2, yr_0_2, ys5_0, yBs, e1, yr_0_1, yis_3, pG_t, s50, s51a]
    · obtain ⟨c0, g0⟩ := c.th 0
      refine ⟨rBs (yW m 178 0 0) [(lnS (zth A) p 16).2.toInt64], ?_, c0.row _, g0.tr (rBs_g _ _) (fun x j q => q.elim id sB3_R)⟩
      have e1 : f_200_26 100000 178 p 0 0 0 (yH κ (yW m 178 0 0)) = some ((lnS (zth A) p 16).1, (lnS (zth A) p 16).2, yH κ (yW m 178 0 0)) := s200_26 (κ := κ) c0.1.tor hk.2.1 16 0 100000 (by omega) (by omega)
      unfold f_200
      simp (disch := first | assumption | omega) only [yp_178_0, yBs]
      rw [s162l _ 0 1 0 1 rfl rfl, decide_eq_true h]
      simp (disch := first | assumption | omega) only [yB_t, y10, if_false, yBs, e1, yp_178_1, yis_178, pG_t, s165_0]
  · refine ⟨-100000, A, H, K, C, D, E, F, o, zCx.same fun m c => ?_, zCm.same fun m c => ?_⟩
    · unfold f_124
      by_cases h1 : p < 0
      · rw [if_pos h1]
      · rw [if_neg h1, if_neg (fun a => h ⟨yLe_of_lt h1, a⟩)]
    · unfold f_200
      simp (disch := first | assumption | omega) only [yp_178_0, yBs]
      rw [s162l _ 0 1 0 1 rfl rfl, decide_eq_false h]
      simp only [yBs, pZ_0, pZ_1, pZ_B, if_true, if_false, y10, y01, yB_t, yB_f]
/-! loose() -/
/-- behind the first l layers: how many are loose, the row -/
def loS (g : Int32 → Int32) (th : Nat → Int32) : Nat → Int32 × List Int64
  | 0 => (0, [])
  | l + 1 => ((loS g th l).1 + g (tPl th l &&& (tBe th l ^^^ (-1))), (loS g th l).2 ++ [(tPl th l &&& (tBe th l ^^^ (-1))).toInt64])
theorem loS_len {g : Int32 → Int32} {th : Nat → Int32} : ∀ l, (loS g th l).2.length = l := by
  intro l
  induction l with
  | zero => rfl
  | succ l ih => simp only [loS, List.length_append, ih]; rfl
theorem s267 : ∃ g : Int32 → Int32, ∀ x h, f_267 x h = some (g x, h) := ⟨_, fun _ _ => rfl⟩
section LO
variable {κ : yK} {m : yM} {th : Nat → Int32} {n : Nat} {g : Int32 → Int32}
theorem s122_19 (hg : ∀ x h, f_267 x h = some (g x, h)) (ht : Tow m 6 th n) (hn : n ≤ 16) : ∀ (d l fu : Nat), l + d = n → d < fu → f_122_19 fu 0 6 (loS g th l).1 (yN l) (yH κ (rAs m (loS g th l).2)) = some ((loS g th n).1, yH κ (rAs m (loS g th n).2)) := by
  have ht' : ∀ r : List Int64, Tow (rAs m r) 6 th n := fun r => ht.g (rAs_g m r) (fun x j p q => by unfold sA3; omega)
  intro d
  induction d with
  | zero =>
    intro l fu hd hf
    obtain ⟨fu, rfl⟩ : ∃ k, fu = k + 1 := ⟨fu - 1, by omega⟩
    obtain rfl : l = n := by omega
    unfold f_122_19
    simp (disch := first | assumption | omega) only [yN_add, yN_addl, yN_ladd, yN_mul, yN_mull, yN_lmul, yN_sub, yN_subl, yN_lsub, yN_lt, yN_ltl, yN_llt, yN_le, yN_lel, yN_lle, yN_eq, yN_eql, yN_leq, yN_eqm, yN_lem, yN_ltm, yN_mlt, yN_mle, yN_addm, yN_madd, yp_div, yp_rem, yp_divN, yp_remN, if_pos, if_neg, yt_4 ytw_6, yBs, (ht' _).2.1]
  | succ d ih =>
    intro l fu hd hf
    obtain ⟨fu, rfl⟩ : ∃ k, fu = k + 1 := ⟨fu - 1, by omega⟩
    have r := ih (l + 1) fu (by omega) (by omega)
    have hlen := loS_len (g := g) (th := th) l
    unfold f_122_19
    have e1 := s100 (κ := κ) ytw_6 (ht' (loS g th l).2) hn (show l < n by omega)
    have e2 := s51 (κ := κ) (m := m) (l := (loS g th l).2) (v := (tPl th l &&& (tBe th l ^^^ (-1))).toInt64) (by omega)
    simp (disch := first | assumption | omega) only [yN_add, yN_addl, yN_ladd, yN_mul, yN_mull, yN_lmul, yN_sub, yN_subl, yN_lsub, yN_lt, yN_ltl, yN_llt, yN_le, yN_lel, yN_lle, yN_eq, yN_eql, yN_leq, yN_eqm, yN_lem, yN_ltm, yN_mlt, yN_mle, yN_addm, yN_madd, yp_div, yp_rem, yp_divN, yp_remN, if_pos, if_neg, yt_4 ytw_6, yBs, (ht' _).2.1, yt_is ytw_6, pG_t, e1, hg, yr_0_1, yis_3, e2]
    exact r
theorem s198_30 {l fu : Nat} {w : Int32} (ht : Tor m 180 th n) (hr : tRg th) (hl : l < 16) : f_198_30 (fu + 4) 178 w (yN l) 0 (yN 0) (yH κ m) = some (tPl th l, yH κ m) := by
  unfold f_198_30 f_198_30 f_198_30 f_198_30
  simp (disch := first | assumption | omega) only [yN_add, yN_addl, yN_ladd, yN_mul, yN_mull, yN_lmul, yN_sub, yN_subl, yN_lsub, yN_lt, yN_ltl, yN_llt, yN_le, yN_lel, yN_lle, yN_eq, yN_eql, yN_leq, yN_eqm, yN_lem, yN_ltm, yN_mlt, yN_mle, yN_addm, yN_madd, yp_div, yp_rem, yp_divN, yp_remN, if_pos, if_neg, yr_178_3, yr_a yAr_180, yBs, ht.1, Nat.add_zero, Nat.zero_add, tRg_lt hr]
  unfold tPl
  simp (disch := first | assumption | omega) only [tHas_in]
  by_cases h0 : th (3 * l) = -1 <;> by_cases h1 : th (3 * l + 1) = -1 <;> by_cases h2 : th (3 * l + 2) = -1 <;> simp [h0, h1, h2] <;> rfl
theorem s198_14 (hg : ∀ x h, f_267 x h = some (g x, h)) (ht : Tor m 180 th n) (hk : tOk th n) : ∀ (d l fu : Nat), l + d = n → d < fu → f_198_14 fu 178 (loS g th l).1 (yN l) (yH κ (rBs m (loS g th l).2)) = some ((loS g th n).1, yH κ (rBs m (loS g th n).2)) := by
  have hn := hk.1
  have ht' : ∀ r : List Int64, Tor (rBs m r) 180 th n := fun r => ht.g (rBs_g m r) (fun j p => by unfold sB3; omega)
  intro d
  induction d with
  | zero =>
    intro l fu hd hf
    obtain ⟨fu, rfl⟩ : ∃ k, fu = k + 1 := ⟨fu - 1, by omega⟩
    obtain rfl : l = n := by omega
    unfold f_198_14
    simp (disch := first | assumption | omega) only [yN_add, yN_addl, yN_ladd, yN_mul, yN_mull, yN_lmul, yN_sub, yN_subl, yN_lsub, yN_lt, yN_ltl, yN_llt, yN_le, yN_lel, yN_lle, yN_eq, yN_eql, yN_leq, yN_eqm, yN_lem, yN_ltm, yN_mlt, yN_mle, yN_addm, yN_madd, yp_div, yp_rem, yp_divN, yp_remN, if_pos, if_neg, yr_178_3, yr_al yAr_180, yBs, (ht' _).2]
  | succ d ih =>
    intro l fu hd hf
    obtain ⟨fu, rfl⟩ : ∃ k, fu = k + 1 := ⟨fu - 1, by omega⟩
    have r := ih (l + 1) fu (by omega) (by omega)
    have hlen := loS_len (g := g) (th := th) l
    have e1 : f_198_30 100000 178 (loS g th l).1 (yN l) 0 0 (yH κ (rBs m (loS g th l).2)) = some (tPl th l, yH κ (rBs m (loS g th l).2)) := s198_30 (κ := κ) (fu := 99996) (ht' _) hk.2.1 (by omega)
    have e2 := s165 (κ := κ) (m := m) (l := (loS g th l).2) (v := (tPl th l &&& (tBe th l ^^^ (-1))).toInt64) (by omega)
    have e3 := s185 (κ := κ) yAr_180 (ht' (loS g th l).2) hk.2.1 (show l < 16 by omega) (hk.2.2.2 l (by omega))
    unfold f_198_14
    simp (disch := first | assumption | omega) only [yN_add, yN_addl, yN_ladd, yN_mul, yN_mull, yN_lmul, yN_sub, yN_subl, yN_lsub, yN_lt, yN_ltl, yN_llt, yN_le, yN_lel, yN_lle, yN_eq, yN_eql, yN_leq, yN_eqm, yN_lem, yN_ltm, yN_mlt, yN_mle, yN_addm, yN_madd, yp_div, yp_rem, yp_divN, yp_remN, if_pos, if_neg, yr_178_3, yr_al yAr_180, yBs, (ht' _).2, e1, e3, hg, yis_178, pG_t, e2]
    exact r
end LO
theorem z_loose : zCall (f_122 0) (f_198 178) := by
  intro κ A H K C D E F o
  have hk := o.1.1.1
  have hn := hk.1
  obtain ⟨g, hg⟩ := s267
  refine ⟨(loS g (zth A) (zn A)).1, A, H, K, C, (loS g (zth A) (zn A)).2, E, F, ⟨o.1, o.2.1, o.2.2.1, o.2.2.2.1, by rw [loS_len]; exact hn, o.2.2.2.2.2⟩, fun m c => ?_, fun m c => ?_⟩
  · refine ⟨rAs m (loS g (zth A) (zn A)).2, ?_, c.row o.2.1.1 _, (rAs_g m _).wk (fun _ _ => sA3_C)⟩
    have e1 : f_122_19 100000 0 6 0 0 (yH κ (rAs m [])) = some ((loS g (zth A) (zn A)).1, yH κ (rAs m (loS g (zth A) (zn A)).2)) := s122_19 (κ := κ) hg c.1.1 hn (zn A) 0 100000 (by omega) (by omega)
    unfold f_122
    simp (disch := first | assumption | omega) only [yr_0_2, ys5_0, yr_0_1, yis_3, pG_t, yBs, s50, e1]
  · obtain ⟨c0, g0⟩ := c.th 0
    refine ⟨rBs (yW m 178 0 0) (loS g (zth A) (zn A)).2, ?_, c0.row _, g0.tr (rBs_g _ _) (fun x j q => q.elim id sB3_R)⟩
    have e1 : f_198_14 100000 178 0 0 (yH κ (rBs (yW m 178 0 0) [])) = some ((loS g (zth A) (zn A)).1, yH κ (rBs (yW m 178 0 0) (loS g (zth A) (zn A)).2)) := s198_14 (κ := κ) hg c0.1.tor hk (zn A) 0 100000 (by omega) (by omega)
    unfold f_198
    simp (disch := first | assumption | omega) only [yp_178_0, yp_178_1, yBs, rBs_0, e1]
