/-! ===== games: the class's values of all towers, and ways by them ===== -/
def cVl (φ : Bool) (t0 t1 : Int32) (how : Nat) (m : yM) (L : List gE) : Prop := ∀ (t : Nat) (e : gE), L[t]? = some e → m.1 131 t = yN (gv (gW how φ t0 t1 e.1))
theorem cEd.c {φ : Bool} {t0 t1 : Int32} {m m' : yM} {L : List gE} {n : Nat} {fe : Nat → Nat} {E : Nat → List (Nat × Nat)} (h : cEd φ t0 t1 m L n fe E) (a : m'.1 132 = m.1 132) (b : m'.1 133 = m.1 133) : cEd φ t0 t1 m' L n fe E := by
  refine ⟨h.1, fun i hi => ?_, fun z i hi => by rw [a]; exact h.2.2 z i hi⟩
  obtain ⟨e, a1, a2, a3, a4⟩ := h.2.1 i hi
  exact ⟨e, a1, a2, a3, fun j p hp => by rw [b]; exact a4 j p hp⟩
section GO
variable {κ : yK} {r : zN} {t0 t1 : Int32} {φ : Bool} {s : gS} {d how : Nat} {fe : Nat → Nat} {E : Nat → List (Nat × Nat)}
theorem s30_7 (J : gJ r d s) : ∀ (k fu : Nat) (m : yM), k ≤ s.1.length → k < fu → cEd φ t0 t1 m s.1 s.1.length fe E → (∀ (t : Nat) (e : gE), k ≤ t → s.1[t]? = some e → m.1 131 t = yN (gv (gW 0 φ t0 t1 e.1))) →
    ∃ m', f_30_7 fu 118 (yN k - 1) (yH κ m) = some (yH κ m') ∧ cVl φ t0 t1 0 m' s.1 ∧ yFr (fun y _ => y = 131) m m' := by
  have hl := J.len
  intro k
  induction k with
  | zero =>
    intro fu m hk hf hC hV
    obtain ⟨fu, rfl⟩ : ∃ k, fu = k + 1 := ⟨fu - 1, by omega⟩
    exact ⟨m, by rw [f_30_7, if_pos (by decide)], fun t e h => hV t e (Nat.zero_le _) h, yFr.rf m⟩
  | succ k ih =>
    intro fu m hk hf hC hV
    obtain ⟨fu, rfl⟩ : ∃ k, fu = k + 1 := ⟨fu - 1, by omega⟩
    obtain ⟨e, he, hE, hn, hc⟩ := hC.2.1 k (by omega)
    have hle := hC.le (fun j e h => (J.nod j e h).1) (k + 1) (by omega)
    have h132 := hC.2.2 (by omega)
    have a0 : m.1 132 k = yN (fe k) := h132 k (by omega)
    obtain ⟨m1, e1, v1, f1⟩ := s30_25 (κ := κ) J he hE (by omega) hn (E k).length 0 100000 (yW m 131 k 0) (by omega) (by omega) (by rw [yW_row (by omega)]; exact h132 (k + 1) (by omega)) (fun j p hp => by rw [yW_row (by omega)]; exact hc j p hp) (fun t e' ht he' => by rw [yW_get, if_neg (by omega)]; exact hV t e' (by omega) he') (by rw [yW_self, upd_eq]; rfl)
    have F1 : yFr (fun y _ => y = 131) m m1 := (yFr.w (S := fun y _ => y = 131) m rfl).tr (f1.wk (S3 := fun y _ => y = 131) (fun y j q => q.1)) (fun _ _ => orSelf)
    have o1 : ∀ y, y ≠ 131 → m1.1 y = m.1 y := fun y q => F1.row (fun j z => q z)
    obtain ⟨m2, e2, v2, f2⟩ := ih fu m1 (by omega) (by omega) (hC.c (o1 132 (by omega)) (o1 133 (by omega))) (fun t e' ht he' => by
      by_cases q : t = k
      · subst q
        rw [he] at he'
        simp only [Option.some.injEq] at he'
        subst he'
        exact v1
      · rw [f1.2 _ _ (by omega), yW_get, if_neg (by omega)]; exact hV t e' (by omega) he')
    refine ⟨m2, ?_, v2, F1.tr f2 (fun _ _ => orSelf)⟩
    rw [show yN (k + 1) - 1 = yN k from yN_subl (by omega), f_30_7, if_neg (by rw [yN_ltl (by omega) (by omega)]; omega), yr_118_9, yBs, yst_131 (by omega), yBs, yr_118_10, yBs, show pAi (yH κ (yW m 131 k 0)) 132 (yN k) = _ from ya_132 (by omega), yBs, yW_row (by omega), a0, show f_30_25 100000 118 (yN k) (yN (fe k)) (yH κ (yW m 131 k 0)) = _ from e1, yBs, ← Int32.sub_eq_add_neg]
    exact e2
theorem s30 {m : yM} (J : gJ r d s) (hC : cEd φ t0 t1 m s.1 s.1.length fe E) (h14 : m.1 118 14 = yN s.1.length) : ∃ m', f_30 118 (yH κ m) = some (yH κ m') ∧ cVl φ t0 t1 0 m' s.1 ∧ yFr (fun y _ => y = 131) m m' := by
  have hl := J.len
  obtain ⟨m', a, b, c⟩ := s30_7 (κ := κ) J s.1.length 100000 m (Nat.le_refl _) (by omega) hC (fun t e ht he => by have := ge_lt he; omega)
  refine ⟨m', ?_, b, c⟩
  unfold f_30
  rw [yi_118_14, yBs, h14, a, yBs]
theorem s31_7 (hh : how = 1 ∨ how = 2) (J : gJ r d s) : ∀ (k fu : Nat) (m : yM), k ≤ s.1.length → k < fu → cEd φ t0 t1 m s.1 s.1.length fe E → (∀ (t : Nat) (e : gE), k ≤ t → s.1[t]? = some e → m.1 131 t = yN (gv (gW how φ t0 t1 e.1))) →
    ∃ m', f_31_7 fu 118 (yB (decide (how = 1))) (yN k - 1) (yH κ m) = some (yH κ m') ∧ cVl φ t0 t1 how m' s.1 ∧ yFr (fun y _ => y = 131) m m' := by
  have hl := J.len
  intro k
  induction k with
  | zero =>
    intro fu m hk hf hC hV
    obtain ⟨fu, rfl⟩ : ∃ k, fu = k + 1 := ⟨fu - 1, by omega⟩
    exact ⟨m, by rw [f_31_7, if_pos (by decide)], fun t e h => hV t e (Nat.zero_le _) h, yFr.rf m⟩
  | succ k ih =>
    intro fu m hk hf hC hV
    obtain ⟨fu, rfl⟩ : ∃ k, fu = k + 1 := ⟨fu - 1, by omega⟩
    obtain ⟨e, he, hE, hn, hc⟩ := hC.2.1 k (by omega)
    have hle := hC.le (fun j e h => (J.nod j e h).1) (k + 1) (by omega)
    have h132 := hC.2.2 (by omega)
    have a0 : m.1 132 k = yN (fe k) := h132 k (by omega)
    obtain ⟨m1, e1, v1, f1⟩ := s31_25 (κ := κ) hh J he hE (by omega) hn (E k).length 0 100000 (yW m 131 k 0) (by omega) (by omega) (by rw [yW_row (by omega)]; exact h132 (k + 1) (by omega)) (fun j p hp => by rw [yW_row (by omega)]; exact hc j p hp) (fun t e' ht he' => by rw [yW_get, if_neg (by omega)]; exact hV t e' (by omega) he') (by rw [yW_self, upd_eq]; rfl)
    have F1 : yFr (fun y _ => y = 131) m m1 := (yFr.w (S := fun y _ => y = 131) m rfl).tr (f1.wk (S3 := fun y _ => y = 131) (fun y j q => q.1)) (fun _ _ => orSelf)
    have o1 : ∀ y, y ≠ 131 → m1.1 y = m.1 y := fun y q => F1.row (fun j z => q z)
    obtain ⟨m2, e2, v2, f2⟩ := ih fu m1 (by omega) (by omega) (hC.c (o1 132 (by omega)) (o1 133 (by omega))) (fun t e' ht he' => by
      by_cases q : t = k
      · subst q
        rw [he] at he'
        simp only [Option.some.injEq] at he'
        subst he'
        exact v1
      · rw [f1.2 _ _ (by omega), yW_get, if_neg (by omega)]; exact hV t e' (by omega) he')
    refine ⟨m2, ?_, v2, F1.tr f2 (fun _ _ => orSelf)⟩
    rw [show yN (k + 1) - 1 = yN k from yN_subl (by omega), f_31_7, if_neg (by rw [yN_ltl (by omega) (by omega)]; omega), yr_118_9, yBs, yst_131 (by omega), yBs, yr_118_10, yBs, show pAi (yH κ (yW m 131 k 0)) 132 (yN k) = _ from ya_132 (by omega), yBs, yW_row (by omega), a0, show f_31_25 100000 118 (yB (decide (how = 1))) (yN k) (yN (fe k)) (yH κ (yW m 131 k 0)) = _ from e1, yBs, ← Int32.sub_eq_add_neg]
    exact e2
theorem s31 {m : yM} (hh : how = 1 ∨ how = 2) (J : gJ r d s) (hC : cEd φ t0 t1 m s.1 s.1.length fe E) (h14 : m.1 118 14 = yN s.1.length) : ∃ m', f_31 118 (yB (decide (how = 1))) (yH κ m) = some (yH κ m') ∧ cVl φ t0 t1 how m' s.1 ∧ yFr (fun y _ => y = 131) m m' := by
  have hl := J.len
  obtain ⟨m', a, b, c⟩ := s31_7 (κ := κ) hh J s.1.length 100000 m (Nat.le_refl _) (by omega) hC (fun t e ht he => by have := ge_lt he; omega)
  refine ⟨m', ?_, b, c⟩
  unfold f_31
  rw [yi_118_14, yBs, h14, a, yBs]
/-- the first edge to a tower of that worth -/
def edI (o : Option (Nat × Nat)) : Int32 := match o with
  | none => -1
  | some p => yN (p.1 * 1024 + p.2)
theorem s32 {m : yM} {i w : Nat} {e : gE} (J : gJ r d s) (hC : cEd φ t0 t1 m s.1 s.1.length fe E) (hV : cVl φ t0 t1 how m s.1) (hi : s.1[i]? = some e) (hw : w ≤ 60) : f_32 118 (yN i) (yN w) (yH κ m) = some (edI ((E i).find? (fun p => gv (gW how φ t0 t1 (gNx e.1 p.1)) == w)), yH κ m) := by
  have hl := J.len
  have hil := ge_lt hi
  obtain ⟨e0, he, hE, hn, hc⟩ := hC.2.1 i hil
  have : e0 = e := by rw [hi] at he; exact (Option.some.inj he).symm
  subst this
  have hle := hC.le (fun j e h => (J.nod j e h).1) (i + 1) (by omega)
  have h132 := hC.2.2 (by omega)
  have lp : ∀ (D j fu : Nat), j + D = (E i).length → D < fu → f_32_7 fu 118 (yN i) (yN w) (yN (fe i + j)) (yH κ m) = some (match ((E i).drop j).find? (fun p => gv (gW how φ t0 t1 (gNx e0.1 p.1)) == w) with | none => .inl (yH κ m) | some p => .inr (yN (p.1 * 1024 + p.2), yH κ m)) := by
    intro D
    induction D with
    | zero =>
      intro j fu hj hf
      obtain ⟨fu, rfl⟩ : ∃ k, fu = k + 1 := ⟨fu - 1, by omega⟩
      rw [List.drop_eq_nil_of_le (by omega), f_32_7, yr_118_10, yBs, yN_addl, show pAi (yH κ m) 132 (yN (i + 1)) = _ from ya_132 (by omega), yBs, h132 (i + 1) (by omega), if_pos (by rw [yN_le (by omega) (by omega)]; omega)]
      rfl
    | succ D ih =>
      intro j fu hj hf
      obtain ⟨fu, rfl⟩ : ∃ k, fu = k + 1 := ⟨fu - 1, by omega⟩
      have hj2 : j < (E i).length := by omega
      have hp : (E i)[j]? = some (E i)[j] := List.getElem?_eq_getElem hj2
      obtain ⟨c1, c2, c3, e', a1, a2, a3, a4⟩ := edge_f (m := m) J hi hE hc hp
      have hvt : m.1 131 (E i)[j].2 = yN (gv (gW how φ t0 t1 (gNx e0.1 (E i)[j].1))) := by rw [hV _ e' a1, a2]
      have hgl : gv (gW how φ t0 t1 (gNx e0.1 (E i)[j].1)) ≤ 49 := gW_le
      rw [List.drop_eq_getElem_cons hj2, List.find?_cons, f_32_7, yr_118_10, yBs, yN_addl, show pAi (yH κ m) 132 (yN (i + 1)) = _ from ya_132 (by omega), yBs, h132 (i + 1) (by omega), if_neg (by rw [yN_le (by omega) (by omega)]; omega), yr_118_9, yBs, yr_118_11, yBs, show pAi (yH κ m) 133 (yN (fe i + j)) = _ from ya_133 (by omega), yBs, c1, s29 c2 (by omega), yBs]
      dsimp only
      rw [show pAi (yH κ m) 131 (yN (E i)[j].2) = _ from ya_131 (by omega), yBs, hvt]
      by_cases q : gv (gW how φ t0 t1 (gNx e0.1 (E i)[j].1)) = w
      · have hb : (gv (gW how φ t0 t1 (gNx e0.1 (E i)[j].1)) == w) = true := by rw [q]; exact beq_self_eq_true _
        rw [if_pos (by rw [q]), yr_118_11, yBs, show pAi (yH κ m) 133 (yN (fe i + j)) = _ from ya_133 (by omega), yBs, c1, hb]
      · have hb : (gv (gW how φ t0 t1 (gNx e0.1 (E i)[j].1)) == w) = false := by simp [q]
        rw [if_neg (by rw [yN_eq (by omega) (by omega)]; exact q), yN_addl, hb, show fe i + j + 1 = fe i + (j + 1) by omega, ih (j + 1) fu (by omega) (by omega)]
  unfold f_32
  rw [yr_118_10, yBs, show pAi (yH κ m) 132 (yN i) = _ from ya_132 (by omega), yBs, h132 i (by omega), show f_32_7 100000 118 (yN i) (yN w) (yN (fe i)) (yH κ m) = _ from lp (E i).length 0 100000 (by omega) (by have := hE.len (J.nod i e0 hi).1; omega), yBs, List.drop_zero]
  cases (E i).find? (fun p => gv (gW how φ t0 t1 (gNx e0.1 p.1)) == w) with
  | none => rfl
  | some p => rfl
/-- the best move is the first edge -/
theorem edge_b {i : Nat} {e : gE} {b mv : Nat} (hE : eOk φ t0 t1 s.1 e.1 480 (E i)) (o : nOk e.1) (h : gW how φ t0 t1 e.1 = some (b, mv)) : ∃ t, (E i).find? (fun p => gBe how (gv (gW how φ t0 t1 (gNx e.1 p.1))) == b) = some (mv, t) ∧ gLk s.1 (gNx e.1 mv) = some t := by
  rw [gW_e o, ← hE.1] at h
  have h1 := ((gFd_f ((E i).map Prod.fst)).1 b mv h).1
  rw [List.find?_map] at h1
  have e2 : ((fun k => gBe how (gv (gW how φ t0 t1 (gNx e.1 k))) == b) ∘ Prod.fst : Nat × Nat → Bool) = (fun p => gBe how (gv (gW how φ t0 t1 (gNx e.1 p.1))) == b) := rfl
  rw [e2] at h1
  cases hf : (E i).find? (fun p => gBe how (gv (gW how φ t0 t1 (gNx e.1 p.1))) == b) with
  | none => rw [hf] at h1; simp at h1
  | some p =>
    rw [hf] at h1
    simp at h1
    obtain ⟨p1, p2⟩ := p
    dsimp only at h1
    subst h1
    exact ⟨p2, rfl, hE.2 (p1, p2) (List.mem_of_find?_eq_some hf)⟩
def mvI (o : Option (Nat × Nat)) : Int32 := match o with
  | none => -1
  | some p => yN p.2
theorem s33 {m : yM} {e : gE} (J : gJ r d s) (hC : cEd φ t0 t1 m s.1 s.1.length fe E) (hV : cVl φ t0 t1 0 m s.1) (hi : s.1[0]? = some e) : f_33 118 0 0 (yH κ m) = some (mvI (gW 0 φ t0 t1 e.1), yH κ m) := by
  have hl := J.len
  have hil := ge_lt hi
  obtain ⟨e0, he, hE, -, -⟩ := hC.2.1 0 hil
  have : e0 = e := by rw [hi] at he; exact (Option.some.inj he).symm
  subst this
  have o := (J.nod 0 e0 hi).1
  have e32 : f_32 118 0 0 (yH κ m) = _ := s32 (κ := κ) (w := 0) J hC hV hi (by omega)
  unfold f_33
  rw [yis_118, pG_t, yBs, e32, yBs]
  dsimp only
  cases hg : gW 0 φ t0 t1 e0.1 with
  | none =>
    have hn : (E 0).find? (fun p => gv (gW 0 φ t0 t1 (gNx e0.1 p.1)) == 0) = none := by
      rw [List.find?_eq_none]
      intro p hp
      rw [gW_e o, ← hE.1] at hg
      have := (gFd_f ((E 0).map Prod.fst)).2 hg p.1 (List.mem_map_of_mem hp)
      unfold gBe at this
      rw [if_pos rfl] at this
      simp; omega
    rw [hn]
    show ((if (-1 : Int32) = -1 then some (-1) else _) : Option Int32).bind _ = _
    rw [if_pos rfl, yBs]; rfl
  | some p =>
    obtain ⟨b, mv⟩ := p
    obtain ⟨h1, h2, h3, h4⟩ := gW_mv o hg
    obtain ⟨t, hf, ht⟩ := edge_b hE o hg
    have hb : b = 1 := by unfold gBe at h3; rw [if_pos rfl] at h3; omega
    have hfe : (fun p : Nat × Nat => gBe 0 (gv (gW 0 φ t0 t1 (gNx e0.1 p.1))) == b) = (fun p => gv (gW 0 φ t0 t1 (gNx e0.1 p.1)) == 0) := funext fun p => by
      unfold gBe
      rw [if_pos rfl, hb]
      cases hq : gv (gW 0 φ t0 t1 (gNx e0.1 p.1)) with
      | zero => rfl
      | succ n => simp
    rw [hfe] at hf
    rw [hf]
    obtain ⟨-, -, -, -, -, htl⟩ := edge_t J hi h1 ht
    show ((if yN (mv * 1024 + t) = -1 then some (-1) else (pDiv (yN (mv * 1024 + t)) 1024).bind fun x8 => some (x8)) : Option Int32).bind _ = _
    rw [if_neg (by rw [yN_eqm (by omega)]; exact id), yp_div (by omega) (by omega) (by decide), yBs, yBs, show (mv * 1024 + t) / 1024 = mv by omega]
    rfl
/-- the moves, the best first -/
def gPa (how : Nat) (φ : Bool) (t0 t1 : Int32) : Nat → zN → List Nat
  | 0, _ => []
  | f + 1, x => match gW how φ t0 t1 x with
    | none => []
    | some p => p.2 :: gPa how φ t0 t1 f (gNx x p.2)
def nL (l : List Nat) : List Int64 := l.map (fun k => (yN k).toInt64)
theorem s34 {m : yM} {e : gE} (hh : how = 1 ∨ how = 2) (J : gJ r d s) (hC : cEd φ t0 t1 m s.1 s.1.length fe E) (hV : cVl φ t0 t1 how m s.1) (hi : s.1[0]? = some e) : f_34 118 3 (yH κ m) = some (yH κ (rAs m (nL (gPa how φ t0 t1 10 e.1)))) := by
  have hl := J.len
  have lp : ∀ (D n fu i : Nat) (e : gE) (l : List Nat), n + D = 10 → D < fu → l.length = n → s.1[i]? = some e → f_34_8 fu 118 3 (yN i) (yN n) (yH κ (rAs m (nL l))) = some (.inl (yH κ (rAs m (nL (l ++ gPa how φ t0 t1 D e.1))))) := by
    intro D
    induction D with
    | zero =>
      intro n fu i e l hn hf hln hi
      obtain ⟨fu, rfl⟩ : ∃ k, fu = k + 1 := ⟨fu - 1, by omega⟩
      rw [f_34_8, if_pos (by rw [yN_lle (by omega) (by omega)]; show 10 ≤ n; omega), gPa, List.append_nil]
    | succ D ih =>
      intro n fu i e l hn hf hln hi
      obtain ⟨fu, rfl⟩ : ∃ k, fu = k + 1 := ⟨fu - 1, by omega⟩
      have hil := ge_lt hi
      have o := (J.nod i e hi).1
      have hgl : gv (gW how φ t0 t1 e.1) ≤ 49 := gW_le
      have row : ∀ y, y ≠ 3 → (rAs m (nL l)).1 y = m.1 y := fun y q => rAs_row q
      have ai : pAi (yH κ (rAs m (nL l))) 131 (yN i) = some (yN (gv (gW how φ t0 t1 e.1))) := by rw [show pAi (yH κ (rAs m (nL l))) 131 (yN i) = _ from ya_131 (by omega), row 131 (by omega), hV i e hi]
      have hC' : cEd φ t0 t1 (rAs m (nL l)) s.1 s.1.length fe E := hC.c (row 132 (by omega)) (row 133 (by omega))
      have hV' : cVl φ t0 t1 how (rAs m (nL l)) s.1 := fun t e he => by rw [row 131 (by omega)]; exact hV t e he
      rw [f_34_8, if_neg (by rw [yN_lle (by omega) (by omega)]; show ¬ 10 ≤ n; omega), yr_118_9, yBs, ai, yBs, gPa]
      cases hg : gW how φ t0 t1 e.1 with
      | none =>
        rw [if_pos (by show yN 0 ≤ 0; decide), List.append_nil]
      | some p =>
        obtain ⟨b, mv⟩ := p
        obtain ⟨h1, h2, h3, h4⟩ := gW_mv o hg
        rw [hg] at hgl
        have hb50 : b ≤ 49 := hgl
        obtain ⟨e0, he, hE, -, -⟩ := hC.2.1 i hil
        have : e0 = e := by rw [hi] at he; exact (Option.some.inj he).symm
        subst this
        obtain ⟨t, hf2, ht⟩ := edge_b hE o hg
        have hfe : (fun p : Nat × Nat => gBe how (gv (gW how φ t0 t1 (gNx e0.1 p.1))) == b) = (fun p => gv (gW how φ t0 t1 (gNx e0.1 p.1)) == b - 1) := funext fun p => by
          unfold gBe
          rw [if_neg (by omega)]
          by_cases q : gv (gW how φ t0 t1 (gNx e0.1 p.1)) + 1 = b
          · rw [beq_iff_eq.2 q, beq_iff_eq.2 (show gv (gW how φ t0 t1 (gNx e0.1 p.1)) = b - 1 by omega)]
          · rw [beq_eq_false_iff_ne.2 q, beq_eq_false_iff_ne.2 (show gv (gW how φ t0 t1 (gNx e0.1 p.1)) ≠ b - 1 by omega)]
        rw [hfe] at hf2
        have e32 := s32 (κ := κ) (w := b - 1) J hC' hV' hi (by omega)
        rw [hf2] at e32
        obtain ⟨e', he', hx', -, -, htl⟩ := edge_t J hi h1 ht
        rw [show gv (some (b, mv)) = b from rfl, if_neg (show ¬ (yN b ≤ 0) by rw [yN_lel (by omega) (by omega)]; omega), yBs, ai, yBs, hg, yis_118, pG_t, yBs, show yN (gv (some (b, mv))) - 1 = yN (b - 1) from yN_subl (show 1 ≤ b by omega), e32, yBs]
        dsimp only
        rw [show edI (some (mv, t)) = yN (mv * 1024 + t) from rfl, if_neg (by rw [yN_eqm (by omega)]; exact id), yp_div (by omega) (by omega) (by decide), yBs, yis_3, pG_t, yBs, show (mv * 1024 + t) / 1024 = mv by omega, s51 (by unfold nL; rw [List.length_map]; omega), yBs, s29 h2 (by omega), yBs]
        dsimp only
        rw [yN_addl, show nL l ++ [(yN mv).toInt64] = nL (l ++ [mv]) by unfold nL; rw [List.map_append]; rfl, ih (n + 1) fu t e' (l ++ [mv]) (by omega) (by omega) (by rw [List.length_append, hln]; rfl) he', hx', List.append_assoc]
        rfl
  have := lp 10 0 100000 0 e [] (by omega) (by omega) rfl hi
  unfold f_34
  rw [yis_3, pG_t, yBs, s50, yBs, show f_34_8 100000 118 3 0 0 (yH κ (rAs m [])) = _ from this, yBs]
  rfl
end GO
