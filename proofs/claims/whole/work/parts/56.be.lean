/-! ===== best(), odds() ===== -/
abbrev bT : Type := Option (Nat × Nat × Nat)
def bP (st : bT) (mv o j : Nat) : bT := match st with
  | none => some (mv, o, j)
  | some (c, oo, jj) => if o < oo ∨ (o = oo ∧ j < jj) then some (mv, o, j) else some (c, oo, jj)
def bQ (st : bT) (mv o j : Nat) : bT := match st with
  | none => some (mv, o, j)
  | some (c, oo, jj) => if o < oo then some (mv, o, j) else some (c, oo, jj)
def bC (P : Nat → Bool) (O : Nat → Nat → Nat) : Nat → bT
  | 0 => none
  | k + 1 => if P k = true then bP (bP (bC P O k) k (O 0 k) 0) k (O 1 k) 1 else bC P O k
def bR (P : Nat → Bool) (O : Nat → Nat → Nat) (j : Nat) (s0 : bT) : Nat → bT
  | 0 => s0
  | k + 1 => if P k = true then bQ (bR P O j s0 k) k (O j k) j else bR P O j s0 k
/-- the least of those that Q has: by odds, then pulled first, then the least move -/
def bMn (Q : Nat → Nat → Prop) (O : Nat → Nat → Nat) (st : bT) : Prop := match st with
  | none => ∀ i m, ¬ Q i m
  | some (c, o, j) => Q j c ∧ o = O j c ∧ ∀ i m, Q i m → o < O i m ∨ (o = O i m ∧ (j < i ∨ (j = i ∧ c ≤ m)))
theorem bMn.one {Q : Nat → Nat → Prop} {O : Nat → Nat → Nat} {s1 s2 : bT} (h1 : bMn Q O s1) (h2 : bMn Q O s2) : s1 = s2 := by
  match s1, s2, h1, h2 with
  | none, none, _, _ => rfl
  | none, some (c, o, j), h1, h2 => exact absurd h2.1 (h1 _ _)
  | some (c, o, j), none, h1, h2 => exact absurd h1.1 (h2 _ _)
  | some (c, o, j), some (c2, o2, j2), h1, h2 =>
    obtain ⟨a1, a2, a3⟩ := h1
    obtain ⟨b1, b2, b3⟩ := h2
    have q1 := a3 _ _ b1
    have q2 := b3 _ _ a1
    rw [← b2] at q1
    rw [← a2] at q2
    obtain rfl : o = o2 := by omega
    obtain rfl : j = j2 := by omega
    obtain rfl : c = c2 := by omega
    rfl
theorem bMn.cg {Q Q2 : Nat → Nat → Prop} {O : Nat → Nat → Nat} {st : bT} (h : bMn Q O st) (e : ∀ i m, Q i m ↔ Q2 i m) : bMn Q2 O st := by
  have : Q = Q2 := funext fun i => funext fun m => propext (e i m)
  rw [← this]; exact h
theorem bMn.p {Q Q2 : Nat → Nat → Prop} {O : Nat → Nat → Nat} {st : bT} {mv j : Nat} (h : bMn Q O st) (hm : ∀ i m, Q i m → m ≤ mv) (e : ∀ i m, Q2 i m ↔ Q i m ∨ (i = j ∧ m = mv)) : bMn Q2 O (bP st mv (O j mv) j) := by
  match st, h with
  | none, h =>
    refine ⟨(e _ _).2 (Or.inr ⟨rfl, rfl⟩), rfl, fun i m q => ?_⟩
    rcases (e _ _).1 q with q | ⟨rfl, rfl⟩
    · exact absurd q (h _ _)
    · exact Or.inr ⟨rfl, Or.inr ⟨rfl, Nat.le_refl _⟩⟩
  | some (c, oo, jj), h =>
    obtain ⟨a1, a2, a3⟩ := h
    have hc := hm _ _ a1
    unfold bP
    simp only
    by_cases hq : O j mv < oo ∨ (O j mv = oo ∧ j < jj)
    · rw [if_pos hq]
      refine ⟨(e _ _).2 (Or.inr ⟨rfl, rfl⟩), rfl, fun i m q => ?_⟩
      rcases (e _ _).1 q with q | ⟨rfl, rfl⟩
      · have := a3 _ _ q; omega
      · exact Or.inr ⟨rfl, Or.inr ⟨rfl, Nat.le_refl _⟩⟩
    · rw [if_neg hq]
      refine ⟨(e _ _).2 (Or.inl a1), a2, fun i m q => ?_⟩
      rcases (e _ _).1 q with q | ⟨rfl, rfl⟩
      · exact a3 _ _ q
      · omega
theorem bMn.q {Q Q2 : Nat → Nat → Prop} {O : Nat → Nat → Nat} {st : bT} {mv j : Nat} (h : bMn Q O st) (hm : ∀ i m, Q i m → i < j ∨ (i = j ∧ m ≤ mv)) (e : ∀ i m, Q2 i m ↔ Q i m ∨ (i = j ∧ m = mv)) : bMn Q2 O (bQ st mv (O j mv) j) := by
  match st, h with
  | none, h =>
    refine ⟨(e _ _).2 (Or.inr ⟨rfl, rfl⟩), rfl, fun i m q => ?_⟩
    rcases (e _ _).1 q with q | ⟨rfl, rfl⟩
    · exact absurd q (h _ _)
    · exact Or.inr ⟨rfl, Or.inr ⟨rfl, Nat.le_refl _⟩⟩
  | some (c, oo, jj), h =>
    obtain ⟨a1, a2, a3⟩ := h
    have hc := hm _ _ a1
    unfold bQ
    simp only
    by_cases hq : O j mv < oo
    · rw [if_pos hq]
      refine ⟨(e _ _).2 (Or.inr ⟨rfl, rfl⟩), rfl, fun i m q => ?_⟩
      rcases (e _ _).1 q with q | ⟨rfl, rfl⟩
      · have := a3 _ _ q; omega
      · exact Or.inr ⟨rfl, Or.inr ⟨rfl, Nat.le_refl _⟩⟩
    · rw [if_neg hq]
      refine ⟨(e _ _).2 (Or.inl a1), a2, fun i m q => ?_⟩
      rcases (e _ _).1 q with q | ⟨rfl, rfl⟩
      · exact a3 _ _ q
      · omega
theorem bC_min {P : Nat → Bool} {O : Nat → Nat → Nat} : ∀ k, bMn (fun i m => i ≤ 1 ∧ m < k ∧ P m = true) O (bC P O k) := by
  intro k
  induction k with
  | zero => intro i m q; omega
  | succ k ih =>
    rw [bC]
    by_cases h : P k = true
    · rw [if_pos h]
      have h1 : bMn (fun i m => (i ≤ 1 ∧ m < k ∧ P m = true) ∨ (i = 0 ∧ m = k)) O (bP (bC P O k) k (O 0 k) 0) := ih.p (fun i m q => by omega) (fun i m => Iff.rfl)
      refine h1.p (fun i m q => by omega) (fun i m => ⟨fun q => ?_, fun q => ?_⟩)
      · rcases Nat.lt_or_ge m k with r | r
        · exact Or.inl (Or.inl ⟨q.1, r, q.2.2⟩)
        · rcases Nat.eq_zero_or_pos i with r2 | r2
          · exact Or.inl (Or.inr ⟨r2, by omega⟩)
          · exact Or.inr ⟨by omega, by omega⟩
      · rcases q with (q | q) | q
        · exact ⟨q.1, by omega, q.2.2⟩
        · exact ⟨by omega, by omega, by rw [q.2]; exact h⟩
        · exact ⟨by omega, by omega, by rw [q.2]; exact h⟩
    · rw [if_neg h]
      refine ih.cg (fun i m => ⟨fun q => ⟨q.1, by omega, q.2.2⟩, fun q => ⟨q.1, ?_, q.2.2⟩⟩)
      rcases Nat.lt_or_ge m k with r | r
      · exact r
      · have : m = k := by omega
        rw [this] at q; exact absurd q.2.2 h
theorem bR_min {P : Nat → Bool} {O : Nat → Nat → Nat} {j : Nat} {s0 : bT} {Q : Nat → Nat → Prop} (h0 : bMn Q O s0) (hQ : ∀ i m, Q i m → i < j) : ∀ k, bMn (fun i m => Q i m ∨ (i = j ∧ m < k ∧ P m = true)) O (bR P O j s0 k) := by
  intro k
  induction k with
  | zero => exact h0.cg (fun i m => ⟨Or.inl, fun q => q.elim id (fun r => by omega)⟩)
  | succ k ih =>
    rw [bR]
    by_cases h : P k = true
    · rw [if_pos h]
      refine ih.q (fun i m q => ?_) (fun i m => ⟨fun q => ?_, fun q => ?_⟩)
      · rcases q with q | q
        · exact Or.inl (hQ _ _ q)
        · exact Or.inr ⟨q.1, by omega⟩
      · rcases q with q | q
        · exact Or.inl (Or.inl q)
        · rcases Nat.lt_or_ge m k with r | r
          · exact Or.inl (Or.inr ⟨q.1, r, q.2.2⟩)
          · exact Or.inr ⟨q.1, by omega⟩
      · rcases q with (q | q) | q
        · exact Or.inl q
        · exact Or.inr ⟨q.1, by omega, q.2.2⟩
        · exact Or.inr ⟨q.1, by omega, by rw [q.2]; exact h⟩
    · rw [if_neg h]
      refine ih.cg (fun i m => ⟨fun q => q.elim Or.inl (fun r => Or.inr ⟨r.1, by omega, r.2.2⟩), fun q => q.elim Or.inl (fun r => Or.inr ⟨r.1, ?_, r.2.2⟩)⟩)
      rcases Nat.lt_or_ge m k with r2 | r2
      · exact r2
      · have : m = k := by omega
        rw [this] at r; exact absurd r.2.2 h
/-- class and reference find the same -/
theorem bC_bR {P : Nat → Bool} {O : Nat → Nat → Nat} {N M : Nat} (hP : ∀ m, P m = true → m < N) (hM : N ≤ M) : bR P O 1 (bR P O 0 none M) M = bC P O N := by
  have h0 : bMn (fun _ _ => False) O none := fun i m => id
  have h1 := bR_min (P := P) (j := 0) h0 (fun i m q => q.elim) M
  have h2 := bR_min (P := P) (j := 1) h1 (fun i m q => by rcases q with q | q; exact q.elim; omega) M
  refine h2.one ((bC_min N).cg (fun i m => ⟨fun q => ?_, fun q => ?_⟩))
  · have := hP _ q.2.2
    rcases (show i = 0 ∨ i = 1 by omega) with r | r
    · exact Or.inl (Or.inr ⟨r, by omega, q.2.2⟩)
    · exact Or.inr ⟨r, by omega, q.2.2⟩
  · rcases q with (q | q) | q
    · exact q.elim
    · exact ⟨by omega, hP _ q.2.2, q.2.2⟩
    · exact ⟨by omega, hP _ q.2.2, q.2.2⟩
/-- odds as numbers -/
def zOn (R : List Int32) (th : Nat → Int32) (n : Nat) (t0 t1 hand : Int32) (j mv : Nat) : Nat := (zOd R th n t0 t1 hand (yN j) mv).toNatClampNeg
theorem zOn_eq (R : List Int32) (th : Nat → Int32) (n : Nat) (t0 t1 hand : Int32) (j mv : Nat) : zOd R th n t0 t1 hand (yN j) mv = yN (zOn R th n t0 t1 hand j mv) ∧ zOn R th n t0 t1 hand j mv ≤ 100 := by
  obtain ⟨k, hk, e⟩ := zOd_nat R th n t0 t1 hand (yN j) mv
  unfold zOn
  rw [e, yI_cl (by omega)]; exact ⟨rfl, hk⟩
def bB (st : bT) : Prop := ∀ c o j, st = some (c, o, j) → c < 480 ∧ o ≤ 100 ∧ j ≤ 1
theorem bB.p {st : bT} {mv o j : Nat} (h : bB st) (h1 : mv < 480) (h2 : o ≤ 100) (h3 : j ≤ 1) : bB (bP st mv o j) := by
  intro c o' j' e
  match st, h with
  | none, _ => cases e; exact ⟨h1, h2, h3⟩
  | some (c2, oo, jj), h =>
    unfold bP at e
    simp only at e
    split at e
    · cases e; exact ⟨h1, h2, h3⟩
    · exact h _ _ _ e
theorem bB.q {st : bT} {mv o j : Nat} (h : bB st) (h1 : mv < 480) (h2 : o ≤ 100) (h3 : j ≤ 1) : bB (bQ st mv o j) := by
  intro c o' j' e
  match st, h with
  | none, _ => cases e; exact ⟨h1, h2, h3⟩
  | some (c2, oo, jj), h =>
    unfold bQ at e
    simp only at e
    split at e
    · cases e; exact ⟨h1, h2, h3⟩
    · exact h _ _ _ e
/-- what was chosen, in the class's cells -/
def Bo (m : yM) (st : bT) : Prop := match st with
  | none => m.1 116 7 = -1
  | some (c, o, j) => m.1 116 7 = yN c ∧ m.1 116 8 = yN o ∧ m.1 116 9 = yN j
theorem Bo.fr {m m' : yM} {st : bT} (h : Bo m st) (e : ∀ j, 7 ≤ j → j ≤ 9 → m'.1 116 j = m.1 116 j) : Bo m' st := by
  match st, h with
  | none, h => exact (e 7 (by omega) (by omega)).trans h
  | some (c, o, j), h => exact ⟨(e 7 (by omega) (by omega)).trans h.1, (e 8 (by omega) (by omega)).trans h.2.1, (e 9 (by omega) (by omega)).trans h.2.2⟩
def bW (m : yM) (c o j : Int32) : yM := yW (yW (yW m 116 7 c) 116 8 o) 116 9 j
theorem bW_o {m : yM} {c o j : Nat} : Bo (bW m (yN c) (yN o) (yN j)) (some (c, o, j)) := by
  unfold bW; exact ⟨by simp [yW_get], by simp [yW_get], by simp [yW_get]⟩
def s12 (x j : Nat) : Prop := s114 x j ∨ (x = 116 ∧ 7 ≤ j ∧ j ≤ 9)
theorem bW_fr {m : yM} {c o j : Int32} : yFr s12 m (bW m c o j) := by
  unfold bW
  exact ((yFr.w (S := s12) m (Or.inr ⟨rfl, by omega, by omega⟩)).tr (yFr.w (S := s12) _ (Or.inr ⟨rfl, by omega, by omega⟩)) (fun _ _ => orSelf)).tr (yFr.w (S := s12) _ (Or.inr ⟨rfl, by omega, by omega⟩)) (fun _ _ => orSelf)
section BE
variable {κ : yK} {m : yM} {a n : Nat} {th : Nat → Int32} {t0 t1 hand : Int32} {R : List Int32}
/-- preferLower() -/
theorem p12 {mv j : Nat} {st : bT} (hF : ∀ k, k < 9 → m.1 117 k = zFa th n t0 t1 hand 0 mv k) (hR : cRu m R) (oR : okR R) (hB : Bo m st) (hb : bB st) (hm : mv < 480) (hj : j ≤ 1) :
    ∃ m', f_12 116 (yN mv) (yN j) (yH κ m) = some (yH κ m') ∧ Bo m' (bP st mv (zOn R th n t0 t1 hand j mv) j) ∧ yFr s12 m m' := by
  obtain ⟨m1, e1, F1⟩ := s10 (κ := κ) (jk := yN j) hF hR oR
  obtain ⟨q1, q2⟩ := zOn_eq R th n t0 t1 hand j mv
  rw [q1] at e1
  generalize zOn R th n t0 t1 hand j mv = o at *
  have F1' : yFr s12 m m1 := F1.wk (fun _ _ => Or.inl)
  have B1 : Bo m1 st := hB.fr (fun j h1 h2 => F1.2 _ _ (by unfold s114; omega))
  unfold f_12
  rw [yis_116, pG_t, yBs, e1, yBs]
  dsimp only
  rw [yi_116_7, yBs]
  match st, hb, B1 with
  | none, hb, B1 =>
    refine ⟨bW m1 (yN mv) (yN o) (yN j), ?_, bW_o, F1'.tr bW_fr (fun _ _ => orSelf)⟩
    have b1 : m1.1 116 7 = -1 := B1
    rw [b1, if_pos rfl]
    simp (disch := first | assumption | omega) only [yp_116_7, yp_116_8, yp_116_9, yBs]
    rfl
  | some (c, oo, jj), hb, B1 =>
    obtain ⟨b1, b2, b3⟩ := B1
    obtain ⟨g1, g2, g3⟩ := hb _ _ _ rfl
    rw [b1, if_neg (by rw [yN_eqm (by omega)]; exact id), yi_116_8, yBs, b2]
    unfold bP
    simp only
    by_cases h1 : o < oo
    · rw [if_pos (Or.inl h1)]
      refine ⟨bW m1 (yN mv) (yN o) (yN j), ?_, bW_o, F1'.tr bW_fr (fun _ _ => orSelf)⟩
      rw [if_pos (by rw [yN_lt (by omega) (by omega)]; exact h1)]
      simp (disch := first | assumption | omega) only [yp_116_7, yp_116_8, yp_116_9, yBs]
      rfl
    · by_cases h2 : o = oo
      · by_cases h3 : j < jj
        · rw [if_pos (Or.inr ⟨h2, h3⟩)]
          refine ⟨bW m1 (yN mv) (yN o) (yN j), ?_, bW_o, F1'.tr bW_fr (fun _ _ => orSelf)⟩
          rw [if_neg (by rw [yN_lt (by omega) (by omega)]; exact h1), yBs, if_pos (by rw [h2]), yi_116_9, yBs, b3, if_neg (by rw [yN_le (by omega) (by omega)]; omega)]
          simp (disch := first | assumption | omega) only [yp_116_7, yp_116_8, yp_116_9, yBs]
          rfl
        · rw [if_neg (show ¬ (o < oo ∨ (o = oo ∧ j < jj)) by omega)]
          refine ⟨m1, ?_, ⟨b1, b2, b3⟩, F1'⟩
          rw [if_neg (by rw [yN_lt (by omega) (by omega)]; exact h1), yBs, if_pos (by rw [h2]), yi_116_9, yBs, b3, if_pos (by rw [yN_le (by omega) (by omega)]; omega), yBs]
      · rw [if_neg (show ¬ (o < oo ∨ (o = oo ∧ j < jj)) by omega)]
        refine ⟨m1, ?_, ⟨b1, b2, b3⟩, F1'⟩
        rw [if_neg (by rw [yN_lt (by omega) (by omega)]; exact h1), yBs, if_neg (by rw [yN_eq (by omega) (by omega)]; exact h2), yBs]
/-- findBest() -/
def bPf (th : Nat → Int32) (n : Nat) (t0 t1 : Int32) : Nat → Bool := fun mv => tSf th n t0 t1 mv
theorem bC_B (th : Nat → Int32) (n : Nat) (t0 t1 hand : Int32) (R : List Int32) : ∀ k, k ≤ 480 → bB (bC (tSf th n t0 t1) (zOn R th n t0 t1 hand) k) := by
  intro k
  induction k with
  | zero => intro _ c o j e; cases e
  | succ k ih =>
    intro hk
    rw [bC]
    split
    · exact ((ih (by omega)).p (by omega) (zOn_eq _ _ _ _ _ _ _ _).2 (by omega)).p (by omega) (zOn_eq _ _ _ _ _ _ _ _).2 (by omega)
    · exact ih (by omega)
def sB (a x j : Nat) : Prop := sTW a x j ∨ x = 114 ∨ (x = 116 ∧ 7 ≤ j ∧ j ≤ 9) ∨ x = 117
theorem cRu.fr {m' : yM} {S : Nat → Nat → Prop} (h : cRu m R) (F : yFr S m m') (hs : ∀ j, ¬ S 111 j) (h5 : ¬ S 110 5) : cRu m' R := ⟨by rw [F.2 _ _ h5]; exact h.1, fun j hj => by rw [F.2 _ _ (hs j)]; exact h.2 j hj⟩
theorem s11_13 (ha : yTw a) (hd : a + 4 < 105 ∨ 117 < a) (hk : tOk th n) (oR : okR R) : ∀ (d k fu : Nat) (m : yM), k + d = 30 * n → d < fu → Tow m a th n → m.1 106 0 = t0 → m.1 106 1 = t1 → cRu m R → Bo m (bC (tSf th n t0 t1) (zOn R th n t0 t1 hand) k) →
    ∃ m', f_11_13 fu 116 a hand (yN (30 * n)) (yN k) (yH κ m) = some (yH κ m') ∧ Tow m' a th n ∧ Bo m' (bC (tSf th n t0 t1) (zOn R th n t0 t1 hand) (30 * n)) ∧ yFr (sB a) m m' := by
  have hn := hk.1
  intro d
  induction d with
  | zero =>
    intro k fu m hd2 hf ht h0 h1 hR hB
    obtain ⟨fu, rfl⟩ : ∃ k, fu = k + 1 := ⟨fu - 1, by omega⟩
    obtain rfl : k = 30 * n := by omega
    refine ⟨m, ?_, ht, hB, yFr.rf m⟩
    rw [f_11_13, if_pos (by rw [yN_le (by omega) (by omega)]; omega)]
  | succ d ih =>
    intro k fu m hd2 hf ht h0 h1 hR hB
    obtain ⟨fu, rfl⟩ : ∃ k, fu = k + 1 := ⟨fu - 1, by omega⟩
    obtain ⟨m1, e1, T1, -, F1⟩ := s7 (κ := κ) (mv := k) ha (by omega) hk ht h0 h1 (by omega)
    have F1' : yFr (sB a) m m1 := F1.wk (fun _ _ => Or.inl)
    have keep : ∀ m1, yFr (sB a) m m1 → m1.1 106 0 = t0 ∧ m1.1 106 1 = t1 ∧ cRu m1 R := fun m1 F => ⟨by rw [F.2 _ _ (by unfold sB sTW sT sW; omega), h0], by rw [F.2 _ _ (by unfold sB sTW sT sW; omega), h1], hR.fr F (fun j => by unfold sB sTW sT sW; omega) (by unfold sB sTW sT sW; omega)⟩
    obtain ⟨u0, u1, uR⟩ := keep m1 F1'
    have B1 : Bo m1 (bC (tSf th n t0 t1) (zOn R th n t0 t1 hand) k) := hB.fr (fun j p q => F1.2 _ _ (by unfold sTW sT sW; omega))
    rw [f_11_13, if_neg (by rw [yN_le (by omega) (by omega)]; omega)]
    cases hs : tSf th n t0 t1 k with
    | false =>
      rw [hs, yB_f] at e1
      have eb : bC (tSf th n t0 t1) (zOn R th n t0 t1 hand) (k + 1) = bC (tSf th n t0 t1) (zOn R th n t0 t1 hand) k := by rw [bC, if_neg (by rw [hs]; decide)]
      obtain ⟨m', e', T', B', F'⟩ := ih (k + 1) fu m1 (by omega) (by omega) T1 u0 u1 uR (by rw [eb]; exact B1)
      refine ⟨m', ?_, T', B', F1'.tr F' (fun _ _ => orSelf)⟩
      simp (disch := first | assumption | omega) only [yis_116, yBs, pG_t, pZ_0, pZ_1, pZ_B, e1, if_true, yN_addl]
      exact e'
    | true =>
      rw [hs, yB_t] at e1
      have eb : bC (tSf th n t0 t1) (zOn R th n t0 t1 hand) (k + 1) = bP (bP (bC (tSf th n t0 t1) (zOn R th n t0 t1 hand) k) k (zOn R th n t0 t1 hand 0 k) 0) k (zOn R th n t0 t1 hand 1 k) 1 := by rw [bC, if_pos hs]
      have hb0 := bC_B th n t0 t1 hand R k (by omega)
      obtain ⟨m2, e2, N2, F2⟩ := s9 (κ := κ) (hand := hand) ha hd hk T1 (tSf_cg hs) u0 u1 (show k < 2147483648 by omega)
      have F2' : yFr (sB a) m m2 := F1'.tr F2 (fun x j q => q.elim id (fun r => by unfold s117 sW at r; unfold sB sTW sW; omega))
      obtain ⟨v0, v1, vR⟩ := keep m2 F2'
      have B2 : Bo m2 (bC (tSf th n t0 t1) (zOn R th n t0 t1 hand) k) := B1.fr (fun j p q => F2.2 _ _ (by unfold s117 sW; omega))
      obtain ⟨m3, e3, B3, F3⟩ := p12 (κ := κ) (j := 0) N2 vR oR B2 hb0 (show k < 480 by omega) (by omega)
      have F3' : yFr (sB a) m m3 := F2'.tr F3 (fun x j q => q.elim id (fun r => by unfold s12 s114 at r; unfold sB; omega))
      obtain ⟨w0, w1, wR⟩ := keep m3 F3'
      obtain ⟨m4, e4, B4, F4⟩ := p12 (κ := κ) (j := 1) (m := m3) (mv := k) (th := th) (n := n) (t0 := t0) (t1 := t1) (hand := hand) (fun i hi => by rw [F3.2 _ _ (by unfold s12 s114; omega)]; exact N2 i hi) wR oR B3 (hb0.p (by omega) (zOn_eq _ _ _ _ _ _ _ _).2 (by omega)) (show k < 480 by omega) (by omega)
      have F4' : yFr (sB a) m m4 := F3'.tr F4 (fun x j q => q.elim id (fun r => by unfold s12 s114 at r; unfold sB; omega))
      obtain ⟨x0, x1, xR⟩ := keep m4 F4'
      have T4 : Tow m4 a th n := ((T1.fr F2 (fun x j p q => by unfold s117 sW; omega)).fr F3 (fun x j p q => by unfold s12 s114; omega)).fr F4 (fun x j p q => by unfold s12 s114; omega)
      obtain ⟨m', e', T', B', F'⟩ := ih (k + 1) fu m4 (by omega) (by omega) T4 x0 x1 xR (by rw [eb]; exact B4)
      refine ⟨m', ?_, T', B', F4'.tr F' (fun _ _ => orSelf)⟩
      have e3' : f_12 116 (yN k) 0 (yH κ m2) = some (yH κ m3) := e3
      have e4' : f_12 116 (yN k) 1 (yH κ m3) = some (yH κ m4) := e4
      simp (disch := first | assumption | omega) only [yis_116, yBs, pG_t, pZ_0, pZ_1, pZ_B, e1, y10, if_false, e2, e3', e4', yN_addl]
      exact e'
theorem s11 (ha : yTw a) (hd : a + 4 < 105 ∨ 117 < a) (hk : tOk th n) (oR : okR R) (ht : Tow m a th n) (h0 : m.1 106 0 = t0) (h1 : m.1 106 1 = t1) (hR : cRu m R) :
    ∃ m', f_11 116 a hand (yH κ m) = some (yH κ m') ∧ Tow m' a th n ∧ Bo m' (bC (tSf th n t0 t1) (zOn R th n t0 t1 hand) (30 * n)) ∧ yFr (sB a) m m' := by
  have hn := hk.1
  have F0 : yFr (sB a) m (yW m 116 7 (-1)) := yFr.w m (by unfold sB; omega)
  obtain ⟨m', e', T', B', F'⟩ := s11_13 (κ := κ) (t0 := t0) (t1 := t1) (hand := hand) ha hd hk oR (30 * n) 0 100000 (yW m 116 7 (-1)) (by omega) (by omega) (ht.g (yG.w (S := fun x _ => x = 116) m rfl) (fun x j p q r => by have : x = 116 := r; omega)) (by rw [yW_row (by omega), h0]) (by rw [yW_row (by omega), h1]) (hR.fr F0 (fun j => by unfold sB sTW sT sW; omega) (by unfold sB sTW sT sW; omega)) (by show (yW m 116 7 (-1)).1 116 7 = -1; rw [yW_self, upd_eq])
  refine ⟨m', ?_, T', B', F0.tr F' (fun _ _ => orSelf)⟩
  unfold f_11
  have e2 : f_11_13 100000 116 a hand (yN (30 * n)) 0 (yH κ (yW m 116 7 (-1))) = some (yH κ m') := e'
  simp (disch := first | assumption | omega) only [yt_is ha, s101 ha ht, yBs, pG_t, pZ_0, pZ_1, pZ_B, yp_116_7, e2]
end BE
