/-! ===== games: the highest, the first with a gap, ways, ends ===== -/
def g0E : gE := ((fun _ => 0, 0), -1, -1, 0)
def gNh (L : List gE) (k : Nat) : Nat := (L.getD k g0E).1.2
def gHk (L : List gE) : Nat → Nat
  | 0 => 0
  | k + 1 => if gNh L (gHk L k) < gNh L (k + 1) then k + 1 else gHk L k
theorem gHk_le (L : List gE) : ∀ k, gHk L k ≤ k
  | 0 => Nat.le_refl _
  | k + 1 => by rw [gHk]; have := gHk_le L k; split <;> omega
theorem getD_e {L : List gE} {k : Nat} {e : gE} (h : L[k]? = some e) : L.getD k g0E = e := by rw [List.getD, h]; rfl
def gPr (L : List gE) (k : Nat) : Nat := (L.getD k g0E).2.1.toNatClampNeg
def gBy (L : List gE) (k : Nat) : Int32 := (L.getD k g0E).2.2.1
def gFr (L : List gE) (k : Nat) : Nat := (L.getD k g0E).2.2.2
/-- the n last moves to node k -/
def gTh (L : List gE) : Nat → Nat → List Int32
  | 0, _ => []
  | n + 1, k => gTh L n (gPr L k) ++ [gBy L k]
theorem gTh_len (L : List gE) : ∀ n k, (gTh L n k).length = n
  | 0, _ => rfl
  | n + 1, k => by rw [gTh, List.length_append, gTh_len L n]; rfl
/-- one step back -/
theorem gBack {r : zN} {d k : Nat} {s : gS} (J : gJ r d s) (hk : k < s.1.length) (h0 : 0 < k) : ∃ i, i < k ∧ (s.1.getD k g0E).2.1 = yN i ∧ gPr s.1 k = i ∧ gFr s.1 k = gFr s.1 i + 1 ∧ ∃ mv, mv < 480 ∧ gBy s.1 k = yN mv := by
  have hl := J.len
  obtain ⟨e, he⟩ := ge_of hk
  obtain ⟨i, mv, e', h1, h2, h3, h4, h5, h6⟩ := J.par k e h0 he
  refine ⟨i, h1, by rw [getD_e he]; exact h3, ?_, ?_, mv, h5, by unfold gBy; rw [getD_e he]; exact h4⟩
  · unfold gPr; rw [getD_e he, h3]; exact yI_cl (by omega)
  · unfold gFr; rw [getD_e he, getD_e h2]; exact h6
theorem gFr_0 {r : zN} {d : Nat} {s : gS} (J : gJ r d s) : gFr s.1 0 = 0 := by unfold gFr; rw [getD_e J.fst]
theorem gFr_le {r : zN} {d k : Nat} {s : gS} (J : gJ r d s) (hk : k < s.1.length) : gFr s.1 k ≤ 48 := by
  obtain ⟨e, he⟩ := ge_of hk
  have h := J.nod k e he
  have := gMu_le h.1
  unfold gFr
  rw [getD_e he]
  have h2 := h.2
  omega
theorem gFr_pos {r : zN} {d k : Nat} {s : gS} (J : gJ r d s) (hk : k < s.1.length) : (gFr s.1 k = 0 ↔ k = 0) := by
  constructor
  · intro h
    rcases Nat.eq_zero_or_pos k with q | q
    · exact q
    · obtain ⟨i, -, -, -, h2, -⟩ := gBack J hk q
      omega
  · rintro rfl; exact gFr_0 J
section GP
variable {κ : yK} {r : zN} {s : gS} {d : Nat}
theorem s35 {m : yM} (J : gJ r d s) (hG : CG m s) : f_35 118 (yH κ m) = some (yN (gHk s.1 (s.1.length - 1)), yH κ m) := by
  have hl := J.len
  have h1 := ge_lt J.fst
  have nh : ∀ k, k < s.1.length → m.1 130 k = yN (gNh s.1 k) ∧ gNh s.1 k ≤ 16 := fun k hk => by
    obtain ⟨e, he⟩ := ge_of hk
    unfold gNh
    rw [getD_e he]
    exact ⟨(hG.2.2.2.1 k e he).2.2.2, (J.nod k e he).1.1.1⟩
  have lp : ∀ (D k fu : Nat), k + 1 + D = s.1.length → D < fu → f_35_4 fu 118 (yN (gHk s.1 k)) (yN (k + 1)) (yH κ m) = some (yN (gHk s.1 (s.1.length - 1)), yH κ m) := by
    intro D
    induction D with
    | zero =>
      intro k fu hk hf
      obtain ⟨fu, rfl⟩ : ∃ k, fu = k + 1 := ⟨fu - 1, by omega⟩
      rw [f_35_4, yi_118_14, yBs, hG.1, if_pos (by rw [yN_le (by omega) (by omega)]; omega), show s.1.length - 1 = k by omega]
    | succ D ih =>
      intro k fu hk hf
      obtain ⟨fu, rfl⟩ : ∃ k, fu = k + 1 := ⟨fu - 1, by omega⟩
      have hle := gHk_le s.1 k
      obtain ⟨a1, a2⟩ := nh (k + 1) (by omega)
      obtain ⟨b1, b2⟩ := nh (gHk s.1 k) (by omega)
      have := ih (k + 1) fu (by omega) (by omega)
      rw [gHk] at this
      rw [f_35_4, yi_118_14, yBs, hG.1, if_neg (by rw [yN_le (by omega) (by omega)]; omega), yr_118_8, yBs, show pAi (yH κ m) 130 (yN (k + 1)) = _ from ya_130 (by omega), yBs, yBs, show pAi (yH κ m) 130 (yN (gHk s.1 k)) = _ from ya_130 (by omega), yBs, a1, b1]
      by_cases q : gNh s.1 (gHk s.1 k) < gNh s.1 (k + 1)
      · rw [if_pos q] at this
        rw [if_neg (by rw [yN_le (by omega) (by omega)]; omega), yBs, yN_addl]; exact this
      · rw [if_neg q] at this
        rw [if_pos (by rw [yN_le (by omega) (by omega)]; omega), yBs, yN_addl]; exact this
  unfold f_35
  rw [show f_35_4 100000 118 0 1 (yH κ m) = _ from lp (s.1.length - 1) 0 100000 (by omega) (by omega), yBs]
/-- the first with a gap there -/
def gGp (L : List gE) (b : Nat) : Option Nat := L.findIdx? (fun e => e.1.1 b == -1)
def gpI (o : Option Nat) : Int32 := match o with
  | none => -1
  | some k => yN k
theorem s36 {m : yM} {b : Nat} (J : gJ r d s) (hG : CG m s) (hb : b < 48) : f_36 118 (yN b) (yH κ m) = some (gpI (gGp s.1 b), yH κ m) := by
  have hl := J.len
  have lp : ∀ (L' q : List gE) (fu : Nat), s.1 = q ++ L' → L'.length < fu → f_36_2 fu 118 (yN b) (yN q.length) (yH κ m) = some (match L'.findIdx? (fun e => e.1.1 b == -1) with | none => .inl (yH κ m) | some k => .inr (yN (q.length + k), yH κ m)) := by
    intro L'
    induction L' with
    | nil =>
      intro q fu e hf
      obtain ⟨fu, rfl⟩ : ∃ k, fu = k + 1 := ⟨fu - 1, by omega⟩
      have el : s.1.length = q.length := by rw [e, List.append_nil]
      rw [f_36_2, yi_118_14, yBs, hG.1, if_pos (by rw [yN_le (by omega) (by omega)]; omega)]; rfl
    | cons y L' ih =>
      intro q fu e hf
      obtain ⟨fu, rfl⟩ : ∃ k, fu = k + 1 := ⟨fu - 1, by omega⟩
      have el : s.1.length = q.length + (L'.length + 1) := by rw [e, List.length_append]; rfl
      have hy : s.1[q.length]? = some y := by rw [e, List.getElem?_append_right (Nat.le_refl _), Nat.sub_self]; rfl
      rw [f_36_2, yi_118_14, yBs, hG.1, if_neg (by rw [yN_le (by omega) (by omega)]; omega), yis_118, pG_t, yBs, s24 (th := y.1.1) (by omega) hb (hG.2.2.1 q.length y hy) ((J.nod _ y hy).1.v b hb), yBs, List.findIdx?_cons]
      dsimp only
      by_cases z : y.1.1 b = -1
      · rw [if_pos z, if_pos (by rw [z]; rfl)]; rfl
      · have e2 : yN q.length + 1 = yN (q ++ [y]).length := by rw [yN_addl, List.length_append]; rfl
        rw [if_neg z, if_neg (by simp [z]), e2, ih (q ++ [y]) fu (by rw [e, List.append_assoc]; rfl) (by simp at hf; omega)]
        cases L'.findIdx? (fun e => e.1.1 b == -1) with
        | none => rfl
        | some k => simp only [Option.map_some, List.length_append, List.length_cons, List.length_nil]; rw [show q.length + (0 + 1) + k = q.length + (k + 1) by omega]
  unfold f_36
  rw [show f_36_2 100000 118 (yN b) 0 (yH κ m) = _ from lp s.1 [] 100000 rfl (by omega), yBs]
  unfold gGp
  cases s.1.findIdx? (fun e => e.1.1 b == -1) with
  | none => rfl
  | some k => dsimp only; rw [List.length_nil, Nat.zero_add]; rfl
theorem s37 {m : yM} {k : Nat} (J : gJ r d s) (hG : CG m s) (hk : k < s.1.length) : ∃ m', f_37 118 (yN k) (yH κ m) = some (yH κ m') ∧ (∀ j, j < gFr s.1 k → m'.1 134 j = (gTh s.1 (gFr s.1 k) k).getD j 0) ∧ yFr (fun y _ => y = 134) m m' := by
  have hl := J.len
  have ar : ∀ j, j < s.1.length → m.1 127 j = (s.1.getD j g0E).2.1 ∧ m.1 128 j = gBy s.1 j ∧ m.1 129 j = yN (gFr s.1 j) := fun j hj => by
    obtain ⟨e, he⟩ := ge_of hj
    obtain ⟨a, b, c, -⟩ := hG.2.2.2.1 j e he
    unfold gBy gFr
    rw [getD_e he]; exact ⟨a, b, c⟩
  have lp : ∀ (n fu at' : Nat) (m' : yM), n < fu → at' < s.1.length → gFr s.1 at' = n → (∀ y, y ≠ 134 → m'.1 y = m.1 y) → ∃ m2, f_37_11 fu 118 (yN at') (yN n - 1) (yH κ m') = some (yH κ m2) ∧ (∀ j, j < n → m2.1 134 j = (gTh s.1 n at').getD j 0) ∧ (∀ j, n ≤ j → m2.1 134 j = m'.1 134 j) ∧ yFr (fun y _ => y = 134) m' m2 := by
    intro n
    induction n with
    | zero =>
      intro fu at' m' hf ha hfr ho
      obtain ⟨fu, rfl⟩ : ∃ k, fu = k + 1 := ⟨fu - 1, by omega⟩
      exact ⟨m', by rw [f_37_11, if_pos (by decide)], fun j hj => by omega, fun _ _ => rfl, yFr.rf _⟩
    | succ n ih =>
      intro fu at' m' hf ha hfr ho
      obtain ⟨fu, rfl⟩ : ∃ k, fu = k + 1 := ⟨fu - 1, by omega⟩
      have h48 := gFr_le J ha
      have hpos : 0 < at' := by
        rcases Nat.eq_zero_or_pos at' with q | q
        · subst q; rw [gFr_0 J] at hfr; omega
        · exact q
      obtain ⟨i, h1, h2, h3, h4, -⟩ := gBack J ha hpos
      obtain ⟨r1, r2, -⟩ := ar at' ha
      obtain ⟨m2, a, b, c, dd⟩ := ih fu i (yW m' 134 n (gBy s.1 at')) (by omega) (by omega) (by omega) (fun y q => by rw [yW_row q]; exact ho y q)
      refine ⟨m2, ?_, fun j hj => ?_, fun j hj => ?_, (yFr.w (S := fun y _ => y = 134) m' rfl).tr dd (fun _ _ => orSelf)⟩
      · rw [show yN (n + 1) - 1 = yN n from yN_subl (by omega), f_37_11, if_neg (by rw [yN_ltl (by omega) (by omega)]; omega), if_neg (by rw [yN_lle (by omega) (by omega)]; show ¬ 48 ≤ n; omega), if_neg (by rw [yN_lel (by omega) (by omega)]; omega), yr_118_12, yBs, yr_118_6, yBs, show pAi (yH κ m') 128 (yN at') = _ from ya_128 (by omega), yBs, ho 128 (by omega), r2, yst_134 (by omega), yBs, yr_118_5, yBs, show pAi (yH κ (yW m' 134 n (gBy s.1 at'))) 127 (yN at') = _ from ya_127 (by omega), yBs, yW_row (by omega), ho 127 (by omega), r1, h2, ← Int32.sub_eq_add_neg]
        exact a
      · rw [gTh, h3]
        have hlen := gTh_len s.1 n i
        rcases Nat.lt_or_ge j n with q | q
        · rw [b j q, List.getD, List.getD, List.getElem?_append_left (by omega)]
        · obtain rfl : j = n := by omega
          rw [c j (Nat.le_refl _), yW_self, upd_eq, List.getD, List.getElem?_append_right (by omega), hlen, Nat.sub_self]; rfl
      · rw [c j (by omega), yW_get, if_neg (by omega)]
  obtain ⟨m2, a, b, -, dd⟩ := lp (gFr s.1 k) 100000 k m (by have := gFr_le J hk; omega) hk rfl (fun _ _ => rfl)
  refine ⟨m2, ?_, b, dd⟩
  unfold f_37
  rw [yr_118_7, yBs, show pAi (yH κ m) 129 (yN k) = _ from ya_129 (by omega), yBs, (ar k hk).2.2, a, yBs]
def gF1 (L : List gE) (k : Nat) : Int32 := if k = 0 then -1 else (gTh L (gFr L k) k).getD 0 0
theorem s38 {m : yM} {k : Nat} (J : gJ r d s) (hG : CG m s) (hk : k < s.1.length) : ∃ m', f_38 118 (yN k) (yH κ m) = some (gF1 s.1 k, yH κ m') ∧ yFr (fun y _ => y = 134) m m' := by
  have hl := J.len
  obtain ⟨m1, e1, h1, f1⟩ := s37 (κ := κ) J hG hk
  have h48 := gFr_le J hk
  obtain ⟨e, he⟩ := ge_of hk
  have k129 : m1.1 129 k = yN (gFr s.1 k) := by
    rw [f1.2 _ _ (by omega)]
    unfold gFr
    rw [getD_e he]; exact (hG.2.2.2.1 k e he).2.2.1
  refine ⟨m1, ?_, f1⟩
  unfold f_38 gF1
  rw [yis_118, pG_t, yBs, e1, yBs, yr_118_7, yBs, show pAi (yH κ m1) 129 (yN k) = _ from ya_129 (by omega), yBs, k129]
  by_cases q : k = 0
  · rw [if_pos q, if_pos (by rw [(gFr_pos J hk).2 q]; rfl), yBs]
  · have hne : gFr s.1 k ≠ 0 := fun z => q ((gFr_pos J hk).1 z)
    rw [if_neg q, if_neg (by rw [yN_eql (by omega) (by omega)]; exact hne), yr_118_12, yBs, show pAi (yH κ m1) 134 0 = _ from ya_134 (i := 0) (by omega), yBs, yBs, h1 0 (by omega)]
def iL (l : List Int32) : List Int64 := l.map (fun k => k.toInt64)
theorem s39 {m : yM} {k : Nat} (J : gJ r d s) (hG : CG m s) (hk : k < s.1.length) : ∃ m', f_39 118 (yN k) 3 (yH κ m) = some (yH κ (rAs m' (iL ((gTh s.1 (gFr s.1 k) k).take 10)))) ∧ yFr (fun y _ => y = 134) m m' := by
  have hl := J.len
  obtain ⟨m1, e1, h1, f1⟩ := s37 (κ := κ) J hG hk
  have h48 := gFr_le J hk
  obtain ⟨e, he⟩ := ge_of hk
  have k129 : m1.1 129 k = yN (gFr s.1 k) := by
    rw [f1.2 _ _ (by omega)]
    unfold gFr
    rw [getD_e he]; exact (hG.2.2.2.1 k e he).2.2.1
  have hlen := gTh_len s.1 (gFr s.1 k) k
  generalize hT : gTh s.1 (gFr s.1 k) k = P at *
  have lp : ∀ (D n fu : Nat), n + D = 10 → D < fu → n ≤ gFr s.1 k → f_39_11 fu 118 (yN k) 3 (yN n) (yH κ (rAs m1 (iL (P.take n)))) = some (yH κ (rAs m1 (iL (P.take 10)))) := by
    intro D
    induction D with
    | zero =>
      intro n fu hn hf hle
      obtain ⟨fu, rfl⟩ : ∃ k, fu = k + 1 := ⟨fu - 1, by omega⟩
      obtain rfl : n = 10 := by omega
      rw [f_39_11, if_pos (by decide)]
    | succ D ih =>
      intro n fu hn hf hle
      obtain ⟨fu, rfl⟩ : ∃ k, fu = k + 1 := ⟨fu - 1, by omega⟩
      rw [f_39_11, if_neg (by rw [yN_lle (by omega) (by omega)]; show ¬ 10 ≤ n; omega), yr_118_7, yBs, show pAi (yH κ (rAs m1 (iL (P.take n)))) 129 (yN k) = _ from ya_129 (by omega), yBs, rAs_row (by omega), k129]
      by_cases q : gFr s.1 k ≤ n
      · rw [if_pos (by rw [yN_le (by omega) (by omega)]; exact q), List.take_of_length_le (by omega), List.take_of_length_le (by omega)]
      · have hP : P[n]? = some (P.getD n 0) := by rw [List.getD, List.getElem?_eq_getElem (show n < P.length by omega)]; rfl
        rw [if_neg (by rw [yN_le (by omega) (by omega)]; exact q), yr_118_12, yBs, show pAi (yH κ (rAs m1 (iL (P.take n)))) 134 (yN n) = _ from ya_134 (by omega), yBs, rAs_row (by omega), h1 n (by omega), yis_3, pG_t, yBs, s51 (by unfold iL; rw [List.length_map, List.length_take]; omega), yBs, yN_addl]
        have := ih (n + 1) fu (by omega) (by omega) (by omega)
        rw [show iL (P.take n) ++ [(P.getD n 0).toInt64] = iL (P.take (n + 1)) by rw [List.take_add_one, hP]; unfold iL; rw [List.map_append]; rfl]
        exact this
  refine ⟨m1, ?_, f1⟩
  unfold f_39
  rw [yis_118, pG_t, yBs, e1, yBs, yis_3, pG_t, yBs, s50, yBs, show f_39_11 100000 118 (yN k) 3 0 (yH κ (rAs m1 [])) = _ from lp 10 0 100000 (by omega) (by omega) (Nat.zero_le _), yBs]
/-- how many have no safe move -/
def gNo (φ : Bool) (t0 t1 : Int32) (L : List gE) : Nat → Nat
  | 0 => 0
  | k + 1 => gNo φ t0 t1 L k + (if (List.range 480).filter (gSf φ t0 t1 (L.getD k g0E).1) = [] then 1 else 0)
theorem gNo_le (φ : Bool) (t0 t1 : Int32) (L : List gE) : ∀ k, gNo φ t0 t1 L k ≤ k
  | 0 => Nat.le_refl _
  | k + 1 => by rw [gNo]; have := gNo_le φ t0 t1 L k; split <;> omega
theorem s40 {m : yM} {φ : Bool} {t0 t1 : Int32} {fe : Nat → Nat} {E : Nat → List (Nat × Nat)} (J : gJ r d s) (hG : CG m s) (hC : cEd φ t0 t1 m s.1 s.1.length fe E) : f_40 118 (yH κ m) = some (yN (gNo φ t0 t1 s.1 s.1.length), yH κ m) := by
  have hl := J.len
  have h1 := ge_lt J.fst
  have h132 := hC.2.2 (by omega)
  have lp : ∀ (D k fu : Nat), k + D = s.1.length → D < fu → f_40_4 fu 118 (yN (gNo φ t0 t1 s.1 k)) (yN k) (yH κ m) = some (yN (gNo φ t0 t1 s.1 s.1.length), yH κ m) := by
    intro D
    induction D with
    | zero =>
      intro k fu hk hf
      obtain ⟨fu, rfl⟩ : ∃ k, fu = k + 1 := ⟨fu - 1, by omega⟩
      rw [f_40_4, yi_118_14, yBs, hG.1, if_pos (by rw [yN_le (by omega) (by omega)]; omega), show s.1.length = k by omega]
    | succ D ih =>
      intro k fu hk hf
      obtain ⟨fu, rfl⟩ : ∃ k, fu = k + 1 := ⟨fu - 1, by omega⟩
      obtain ⟨e, he, hE, hn, -⟩ := hC.2.1 k (by omega)
      have hle := hC.le (fun j e h => (J.nod j e h).1) (k + 1) (by omega)
      have := ih (k + 1) fu (by omega) (by omega)
      rw [gNo, getD_e he, ← hE.1] at this
      rw [f_40_4, yi_118_14, yBs, hG.1, if_neg (by rw [yN_le (by omega) (by omega)]; omega), yr_118_10, yBs, show pAi (yH κ m) 132 (yN k) = _ from ya_132 (by omega), yBs, yBs, yN_addl, show pAi (yH κ m) 132 (yN (k + 1)) = _ from ya_132 (by omega), yBs, h132 k (by omega), h132 (k + 1) (by omega)]
      by_cases q : (E k).length = 0
      · have hz : (E k).map Prod.fst = [] := by rw [List.length_eq_zero_iff.1 q]; rfl
        rw [if_pos hz] at this
        rw [if_pos (by rw [hn, q, Nat.add_zero]), yBs, yN_addl]; exact this
      · have hz : ¬ (E k).map Prod.fst = [] := fun z => q (by rw [List.map_eq_nil_iff] at z; rw [z]; rfl)
        rw [if_neg hz] at this
        rw [if_neg (by rw [yN_eq (by omega) (by omega)]; omega), yBs, show yN (gNo φ t0 t1 s.1 k) + 0 = yN (gNo φ t0 t1 s.1 k + 0) from yN_addl]; exact this
  unfold f_40
  rw [show f_40_4 100000 118 0 0 (yH κ m) = _ from lp s.1.length 0 100000 (by omega) (by omega), yBs]
end GP
