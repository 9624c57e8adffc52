/-! ===== the abstract machine is the machine: words, pictures ===== -/
/-- base address, addresses, array classes, classes and slots, constants, bytes of texts -/
abbrev xP : Type := Nat × (Nat → Nat) × (Nat → ClassId) × va_G × (Nat → xE) × (Nat → Nat)
abbrev xBs (P : xP) : Nat := P.1
abbrev xAd (P : xP) : Nat → Nat := P.2.1
abbrev xCA (P : xP) : Nat → ClassId := P.2.2.1
abbrev xDD (P : xP) : va_G := P.2.2.2.1
abbrev xKc (P : xP) : Nat → xE := P.2.2.2.2.1
abbrev xBy (P : xP) : Nat → Nat := P.2.2.2.2.2
def xAA (P : xP) : Nat → Prop := fun q => P.1 ≤ q
def xV (β : Nat → Nat) (v : Value) : Value := match v with
  | .ref a => .ref (β a)
  | w => w
theorem xV_cat (β : Nat → Nat) (v : Value) : (xV β v).category = v.category := by cases v <;> rfl
def xAr (β : Nat → Nat) (x : vp_A) : vp_A := match x with
  | (n, .inr (.inr (.inr (.inr f)))) => (n, .inr (.inr (.inr (.inr (fun j => (f j).map β)))))
  | y => y
def xCe (β : Nat → Nat) (cA : Nat → ClassId) (c : xE) : va_E := match c with
  | .inl (t, x) => .inl (cA t, xAr β x)
  | .inr (ci, fs) => .inr (ci, fs.map (xV β))
def xW (P : xP) (h : xH) : va_W := (List.range h.1).map fun i => (xAd P i, xCe (xAd P) (xCA P) (h.2.2.2 i))
theorem xW_get (P : xP) {h : xH} {a : Nat} (ha : a < h.1) : (xW P h)[a]? = some (xAd P a, xCe (xAd P) (xCA P) (h.2.2.2 a)) := by
  simp [xW, ha]
theorem xW_len (P : xP) (h : xH) : (xW P h).length = h.1 := by simp [xW]
theorem xW_put (P : xP) {h : xH} {a : Nat} (ha : a < h.1) (k : xE) : (xW P h).set a (xAd P a, xCe (xAd P) (xCA P) k) = xW P (xPut h a k) := by
  apply List.ext_getElem?
  intro i
  by_cases hi : i < h.1
  · rw [xW_get P (h := xPut h a k) hi]
    by_cases hia : i = a
    · subst hia
      rw [List.getElem?_set_self (by rw [xW_len]; exact hi)]
      simp [xPut, va_up]
    · rw [List.getElem?_set_ne (Ne.symm hia), xW_get P hi]
      simp [xPut, va_up, hia]
  · rw [List.getElem?_eq_none (by rw [List.length_set, xW_len]; omega), List.getElem?_eq_none (by rw [xW_len]; exact Nat.not_lt.mp hi)]
theorem xW_add (P : xP) (h : xH) (n : Nat) (k : xE) : xW P h ++ [(xAd P h.1, xCe (xAd P) (xCA P) k)] = xW P (xAdd h n k) := by
  simp only [xW, xAdd, List.range_succ, List.map_append, List.map_cons, List.map_nil, va_up, if_true]
  congr 1
  apply List.map_congr_left
  intro i hi
  have : i ≠ h.1 := by have := List.mem_range.mp hi; omega
  simp [this]
/-- words that stay when classes warm up -/
def xGw : List Jvm.Cond := lw_tbl.filter goodWord
def xNest : Jvm.Cond → Bool
  | .fieldLinkNest _ _ _ _ _ _ => true
  | .methodLinkNest _ _ _ _ => true
  | _ => false
def xTys (P : xP) : List (ClassId × FieldType) := [(xCA P 0, .int), (xCA P 1, .long), (xCA P 2, .boolean), (xCA P 3, .object "FelledHasLost$State")]
def xTxB : List (List Int32) := xTxt
/-- what lay in the heap at the law's entry lies there still -/
def xOld (P : xP) (U : State) : Prop := ∃ (s0 : State) (a0 : Array Value), s0.WarmedH U.vm ∧ (∀ a : Nat, a < s0.heap.size → ¬ xAA P a ∧ U.heap[a]? = s0.heap[a]?) ∧ (∀ w ∈ lw_tbl, w.before a0 s0 = true) ∧ (Jvm.Cond.and given_1 narrow_1).before a0 s0 = true
theorem xOld.moved {P : xP} {u U : State} (g : xOld P u) (hW : u.WarmedH U.vm) (hq : ∀ a : Nat, a < u.heap.size → ¬ xAA P a → U.heap[a]? = u.heap[a]?) : xOld P U := by
  obtain ⟨s0, a0, h1, h2, h3⟩ := g
  refine ⟨s0, a0, State.WarmedH.trans h1 hW, fun a ha => ?_, h3⟩
  obtain ⟨k1, k2⟩ := h2 a ha
  have hs : a < u.heap.size := by
    rw [Array.getElem?_eq_getElem ha] at k2
    exact (Array.getElem?_eq_some_iff.mp k2).1
  exact ⟨k1, (hq a hs k1).trans k2⟩
/-- what holds of the machine all along -/
def xGl (P : xP) (U : State) : Prop :=
  (∀ a, a < xKb → xAd P a = xBs P + a) ∧ va_K (xDD P) vwCl (xTys P) U ∧ (∀ w ∈ lw_tbl, xNest w = true → va_Nw w U) ∧ va_AO "FelledHasLost$State" U ∧
  (∀ a, xKb ≤ a → xKc P a = xNo ∨ ∃ n f, xKc P a = .inl (10, n, .inl f) ∧ va_T .int (xAd P a) n (fun j => .int (f j)) (xAA P) U U.heap) ∧
  va_Z RX0 "LEAST_PLACE" "[I" (.ref (xAd P xKb)) (xAA P) U U.heap ∧ va_Z RX0 "GREATEST_PLACE" "[I" (.ref (xAd P (xKb + 1))) (xAA P) U U.heap ∧
  (∀ o i j, xLds o i = some j → vk_R (xCls o) i (xStr.getD j "") (xAd P (xKb + 10 + j)) U) ∧
  vk_S xTxt.length (xTxt.map List.length) xTxt (fun j => xAd P (xKb + 10 + j)) (xBy P) (xAA P) U U.heap ∧ va_Z "java/lang/String" "COMPACT_STRINGS" "Z" (.int 1) (xAA P) U U.heap ∧ xOld P U
/-- the heap holds the picture -/
def xRep (P : xP) (h : xH) (H : Heap) : Prop :=
  h.1 ≤ xKb ∧ va_P (xDD P) vwCl (xW P h) H ∧ (∀ a, h.1 ≤ a → a < xKb → h.2.2.2 a = xNo) ∧ ∀ a, xKb ≤ a → h.2.2.2 a = xKc P a
theorem xGl.D {P : xP} {U : State} (g : xGl P U) {h : xH} (hK : h.1 ≤ xKb) : va_D (xAA P) (xW P h) := by
  have key : ∀ (k : Nat) (q : Nat × va_E), (xW P h)[k]? = some q → k < h.1 ∧ q.1 = xBs P + k := by
    intro k q hk
    have hl : k < h.1 := by
      have := (List.getElem?_eq_some_iff.mp hk).1
      rw [xW_len] at this
      exact this
    rw [xW_get P hl] at hk
    cases hk
    exact ⟨hl, g.1 k (by omega)⟩
  refine ⟨fun i j p q hi hj e => ?_, fun k q hk => ?_⟩
  · have h1 := (key i p hi).2
    have h2 := (key j q hj).2
    omega
  · have h1 := (key k q hk).2
    show P.1 ≤ q.1
    rw [h1]
    exact Nat.le_add_right _ _
theorem xGl.moved {P : xP} {u U : State} (g : xGl P u) (hW : u.WarmedH U.vm) (hq : ∀ a : Nat, a < u.heap.size → ¬ xAA P a → U.heap[a]? = u.heap[a]?) : xGl P U := by
  obtain ⟨g1, g2, g3, g4, g5, g6, g7, g8, g9, g10, g11⟩ := g
  refine ⟨g1, va_K.moved hW.alike g2, fun w hw hn => ?_, va_AO.moved hW.alike g4, fun a ha => ?_, (va_Z.moved hW.alike g6).kept hq, (va_Z.moved hW.alike g7).kept hq, fun o i j h => vk_R.warm hW (g8 o i j h), (vk_S.moved hW.alike g9).kept hq, (va_Z.moved hW.alike g10).kept hq, g11.moved hW hq⟩
  · have hz := g3 w hw hn
    cases w <;> first | exact va_Nw.warmF hW hz | exact va_Nw.warmM hW hz | cases hn
  · rcases g5 a ha with h | ⟨n, f, h1, h2⟩
    · exact Or.inl h
    · exact Or.inr ⟨n, f, h1, (va_T.moved hW.alike h2).kept hq⟩
/-- a cell that is one lies in the heap's world, or is a constant -/
theorem xRep.in {P : xP} {h : xH} {H : Heap} (r : xRep P h H) {a : Nat} {k : xE} (hk : h.2.2.2 a = k) (hn : k ≠ xNo) : a < h.1 ∨ (xKb ≤ a ∧ xKc P a = k) := by
  obtain ⟨-, -, r4, r5⟩ := r
  by_cases h1 : a < h.1
  · exact Or.inl h1
  · by_cases h2 : a < xKb
    · exact absurd (hk.symm.trans (r4 a (by omega) h2)) hn
    · exact Or.inr ⟨by omega, by rw [← r5 a (by omega)]; exact hk⟩
theorem xRep.inO {P : xP} {U : State} (g : xGl P U) {h : xH} {H : Heap} (r : xRep P h H) {a ci : Nat} {fs : List Value} (hk : h.2.2.2 a = .inr (ci, fs)) (hc : ci < 13) : a < h.1 := by
  rcases r.in hk (by intro e; simp [xNo] at e; omega) with h1 | ⟨h1, h2⟩
  · exact h1
  · rcases g.2.2.2.2.1 a h1 with h3 | ⟨n, f, h3, -⟩
    · rw [h3] at h2; simp [xNo] at h2; omega
    · rw [h3] at h2; cases h2
theorem xRep.inA {P : xP} {U : State} (g : xGl P U) {h : xH} {H : Heap} (r : xRep P h H) {a t : Nat} {x : vp_A} (hk : h.2.2.2 a = .inl (t, x)) (hc : t ≠ 10) : a < h.1 := by
  rcases r.in hk (by intro e; simp [xNo] at e) with h1 | ⟨h1, h2⟩
  · exact h1
  · rcases g.2.2.2.2.1 a h1 with h3 | ⟨n, f, h3, -⟩
    · rw [h3] at h2; simp [xNo] at h2
    · rw [h3] at h2; cases h2; exact absurd rfl hc
theorem xRep.put {P : xP} {h : xH} {H H1 : Heap} (r : xRep P h H) {a : Nat} {k : xE} (ha : a < h.1) (hP : va_P (xDD P) vwCl ((xW P h).set a (xAd P a, xCe (xAd P) (xCA P) k)) H1) : xRep P (xPut h a k) H1 := by
  obtain ⟨r2, r3, r4, r5⟩ := r
  refine ⟨r2, by rw [← xW_put P ha]; exact hP, fun b h1 h2 => ?_, fun b h1 => ?_⟩
  · have h1 : h.1 ≤ b := h1
    show va_up h.2.2.2 a k b = xNo
    rw [va_up_ne _ _ (show b ≠ a by omega)]
    exact r4 b h1 h2
  · show va_up h.2.2.2 a k b = xKc P b
    rw [va_up_ne _ _ (show b ≠ a by omega)]
    exact r5 b h1
/-- the locals hold the picture -/
def xLs (P : xP) (M : Nat) (arr : Array Slot) (ls : xL) : Prop := ls.length = xMaxL M ∧ arr.size = xMaxL M ∧ lv_wf arr ∧ ∀ (i : Nat) (v : Value), ls[i]? = some (some v) → arr[i]? = some (.val (xV (xAd P) v))
def xPr (β : Nat → Nat) (ls : xL) : List (Nat × Value) := (List.range ls.length).filterMap fun i => match ls[i]? with
  | some (some v) => some (i, xV β v)
  | _ => none
theorem xPr_mem {β : Nat → Nat} {ls : xL} {i : Nat} {w : Value} : (i, w) ∈ xPr β ls ↔ ∃ v, ls[i]? = some (some v) ∧ w = xV β v := by
  unfold xPr
  rw [List.mem_filterMap]
  constructor
  · rintro ⟨j, hj, hq⟩
    split at hq
    next v hv =>
      cases hq
      exact ⟨v, hv, rfl⟩
    next => cases hq
  · rintro ⟨v, hv, rfl⟩
    have hl := (List.getElem?_eq_some_iff.mp hv).1
    exact ⟨i, List.mem_range.mpr hl, by rw [hv]⟩
theorem xLs.has {P : xP} {M : Nat} {arr : Array Slot} {ls : xL} (h : xLs P M arr ls) : lv_has arr (xMaxL M) (xPr (xAd P) ls) := by
  refine ⟨h.2.1, h.2.2.1, fun q hq => ?_⟩
  obtain ⟨v, hv, e⟩ := xPr_mem.mp (show (q.1, q.2) ∈ xPr (xAd P) ls from hq)
  rw [e]
  exact h.2.2.2 q.1 v hv
theorem xClr_len (ls : xL) (i : Nat) : (xClr ls i).length = ls.length := by
  unfold xClr
  split
  · rfl
  · split
    · rw [List.length_set]
    · rfl
theorem xClr_at {ls : xL} {i j : Nat} {w : Value} (h : (xClr ls i)[j]? = some (some w)) : ls[j]? = some (some w) ∧ (j + 1 = i → ¬ w.category = 2) := by
  unfold xClr at h
  split at h
  next h0 => exact ⟨h, fun z => by omega⟩
  next h0 =>
    split at h
    next hl =>
      by_cases hj : j = i - 1
      · subst hj
        by_cases hlt : i - 1 < ls.length
        · rw [List.getElem?_set_self hlt] at h; cases h
        · rw [List.getElem?_eq_none (by rw [List.length_set]; omega)] at h; cases h
      · rw [List.getElem?_set_ne (fun z => hj z.symm)] at h
        exact ⟨h, fun z => by omega⟩
    next hl =>
      refine ⟨h, fun z hc => hl ?_⟩
      rw [show i - 1 = j by omega, h]
      simp [xIsL, hc]
theorem xLs.set {P : xP} {M : Nat} {arr arr' : Array Slot} {ls ls' : xL} {i : Nat} {v : Value} (h : xLs P M arr ls) (hs : xSet ls i v = some ls') (h' : lv_has arr' (xMaxL M) ((i, xV (xAd P) v) :: (xPr (xAd P) ls).filter (fun q => !(q.1 == i) && !(q.1 + 1 == i && q.2.category == 2)))) : xLs P M arr' ls' := by
  unfold xSet at hs
  split at hs
  next hc =>
    cases hs
    refine ⟨by rw [List.length_set, xClr_len]; exact h.1, h'.1, h'.2.1, fun j w hj => ?_⟩
    by_cases hji : j = i
    · subst hji
      rw [List.getElem?_set_self (by rw [xClr_len]; exact hc)] at hj
      cases hj
      exact h'.2.2 (j, xV (xAd P) v) List.mem_cons_self
    · rw [List.getElem?_set_ne (Ne.symm hji)] at hj
      obtain ⟨hj, hcat⟩ := xClr_at hj
      refine h'.2.2 (j, xV (xAd P) w) (List.mem_cons_of_mem _ (List.mem_filter.mpr ⟨xPr_mem.mpr ⟨w, hj, rfl⟩, ?_⟩))
      simp only [Bool.and_eq_true, Bool.not_eq_true', beq_eq_false_iff_ne, ne_eq, hji, not_false_eq_true, true_and, Bool.and_eq_false_iff, xV_cat]
      by_cases hj1 : j + 1 = i
      · exact Or.inr (hcat hj1)
      · exact Or.inl hj1
  next => cases hs
theorem xLs.set2 {P : xP} {M : Nat} {arr arr' : Array Slot} {ls ls' : xL} {i : Nat} {v : Value} (h : xLs P M arr ls) (hs : xSet2 ls i v = some ls') (h' : lv_has arr' (xMaxL M) ((i, xV (xAd P) v) :: (xPr (xAd P) ls).filter (fun q => !(q.1 == i) && (!(q.1 == i + 1) && !(q.1 + 1 == i && q.2.category == 2))))) : xLs P M arr' ls' := by
  unfold xSet2 at hs
  split at hs
  next hc =>
    cases hs
    refine ⟨by rw [List.length_set, List.length_set, xClr_len]; exact h.1, h'.1, h'.2.1, fun j w hj => ?_⟩
    by_cases hj2 : j = i + 1
    · subst hj2
      rw [List.getElem?_set_self (by rw [List.length_set, xClr_len]; exact hc)] at hj
      cases hj
    rw [List.getElem?_set_ne (Ne.symm hj2)] at hj
    by_cases hji : j = i
    · subst hji
      rw [List.getElem?_set_self (by rw [xClr_len]; omega)] at hj
      cases hj
      exact h'.2.2 (j, xV (xAd P) v) List.mem_cons_self
    · rw [List.getElem?_set_ne (Ne.symm hji)] at hj
      obtain ⟨hj, hcat⟩ := xClr_at hj
      refine h'.2.2 (j, xV (xAd P) w) (List.mem_cons_of_mem _ (List.mem_filter.mpr ⟨xPr_mem.mpr ⟨w, hj, rfl⟩, ?_⟩))
      simp only [Bool.and_eq_true, Bool.not_eq_true', beq_eq_false_iff_ne, ne_eq, hji, hj2, not_false_eq_true, true_and, Bool.and_eq_false_iff, xV_cat]
      by_cases hj1 : j + 1 = i
      · exact Or.inr (hcat hj1)
      · exact Or.inl hj1
  next => cases hs
