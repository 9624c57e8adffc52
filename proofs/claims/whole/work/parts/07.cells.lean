/-! ===== one instruction: cells ===== -/
/-- the words by their places: table and place in it -/
def xTb (k : Nat) : List Jvm.Cond := match k with
  | 1 => tables_1_1
  | 2 => tables_1_2
  | 3 => tables_1_3
  | 4 => tables_1_4
  | 5 => tables_1_5
  | 6 => tables_1_6
  | 7 => tables_1_7
  | 8 => tables_1_8
  | 9 => tables_1_9
  | 10 => k2_sels lw_privs
  | _ => []
theorem xTb_in {k : Nat} {w : Jvm.Cond} (h : w ∈ xTb k) : w ∈ lw_tbl := by
  have key : ∀ w, w ∈ tables_1 → w ∈ lw_tbl := fun w h => List.mem_append_right _ h
  unfold xTb at h
  split at h
  · exact key w (by simp only [tables_1, List.mem_append]; exact Or.inl h)
  · exact key w (by simp only [tables_1, List.mem_append]; exact Or.inr (Or.inl h))
  · exact key w (by simp only [tables_1, List.mem_append]; exact Or.inr (Or.inr (Or.inl h)))
  · exact key w (by simp only [tables_1, List.mem_append]; exact Or.inr (Or.inr (Or.inr (Or.inl h))))
  · exact key w (by simp only [tables_1, List.mem_append]; exact Or.inr (Or.inr (Or.inr (Or.inr (Or.inl h)))))
  · exact key w (by simp only [tables_1, List.mem_append]; exact Or.inr (Or.inr (Or.inr (Or.inr (Or.inr (Or.inl h))))))
  · exact key w (by simp only [tables_1, List.mem_append]; exact Or.inr (Or.inr (Or.inr (Or.inr (Or.inr (Or.inr (Or.inl h)))))))
  · exact key w (by simp only [tables_1, List.mem_append]; exact Or.inr (Or.inr (Or.inr (Or.inr (Or.inr (Or.inr (Or.inr (Or.inl h))))))))
  · exact key w (by simp only [tables_1, List.mem_append]; exact Or.inr (Or.inr (Or.inr (Or.inr (Or.inr (Or.inr (Or.inr (Or.inr h))))))))
  · exact List.mem_append_left _ h
  · cases h
def xW0 (p : Nat) (w : Jvm.Cond) : Bool := decide ((xTb (p / 1000))[p % 1000]? = some w)
theorem xW0_in {p : Nat} {w : Jvm.Cond} (h : xW0 p w = true) : w ∈ lw_tbl := xTb_in (List.mem_of_getElem? (by simpa [xW0] using h))
def xG1 (p : Nat) (w : Jvm.Cond) : Bool := xW0 p w && goodWord w
theorem xG1_in {p : Nat} {w : Jvm.Cond} (h : xG1 p w = true) : w ∈ xGw := by
  simp only [xG1, Bool.and_eq_true] at h
  exact List.mem_filter.mpr ⟨xW0_in h.1, h.2⟩
def xFldC (o : Nat) (q : Nat × (Nat × Nat × Nat) × Nat) : Bool := match vwCl[q.2.1.1]? with
  | some r => decide (q.2.1.2.1 < r.2.2) && decide ((r.2.1 q.2.1.2.1).1 = r.1) && (if q.2.1.2.2 = 0 then xG1 q.2.2 (Jvm.Cond.fieldLink (xCls o) q.1 r.1 (r.2.1 q.2.1.2.1).2.1 (r.2.1 q.2.1.2.1).2.2.1) else xW0 q.2.2 (Jvm.Cond.fieldLinkNest (xCls o) q.1 r.1 (r.2.1 q.2.1.2.1).2.1 (r.2.1 q.2.1.2.1).2.2.1 "FelledHasLost"))
  | none => false
set_option maxRecDepth 100000 in
theorem xFldC_ok : (List.range 16).all (fun o => (xFldL.getD o []).all (xFldC o)) = true := by decide +kernel
theorem x_find {α : Type} {L : List (List (Nat × α × Nat))} {o i : Nat} {v : α} (h : ((L.getD o []).find? (fun e => e.1 == i)).map (fun e => e.2.1) = some v) : o < L.length ∧ ∃ p, (i, v, p) ∈ L.getD o [] := by
  cases hf : (L.getD o []).find? (fun e => e.1 == i) with
  | none => rw [hf] at h; cases h
  | some q =>
    rw [hf] at h
    have h1 := List.find?_some hf
    have h2 := List.mem_of_find?_eq_some hf
    obtain ⟨a, b, c⟩ := q
    cases h
    have h3 : a = i := by simpa using h1
    subst h3
    refine ⟨?_, c, h2⟩
    by_cases ho : o < L.length
    · exact ho
    · rw [List.getD_eq_getElem?_getD, List.getElem?_eq_none (by omega)] at h2
      cases h2
theorem x_all {α : Type} {L : List (List (Nat × α × Nat))} {n : Nat} {C : Nat → Nat × α × Nat → Bool} (hc : (List.range n).all (fun o => (L.getD o []).all (C o)) = true) (hn : L.length = n) {o i : Nat} {v : α} (h : ((L.getD o []).find? (fun e => e.1 == i)).map (fun e => e.2.1) = some v) : ∃ p, C o (i, v, p) = true := by
  obtain ⟨h1, p, h2⟩ := x_find h
  exact ⟨p, List.all_eq_true.mp (List.all_eq_true.mp hc o (List.mem_range.mpr (by omega))) _ h2⟩
theorem xFld_ok {o i ci k ne : Nat} (h : xFld o i = some (ci, k, ne)) : ∃ r : vw_C, vwCl[ci]? = some r ∧ k < r.2.2 ∧ (r.2.1 k).1 = r.1 ∧ ((ne = 0 ∧ Jvm.Cond.fieldLink (xCls o) i r.1 (r.2.1 k).2.1 (r.2.1 k).2.2.1 ∈ xGw) ∨ (ne ≠ 0 ∧ Jvm.Cond.fieldLinkNest (xCls o) i r.1 (r.2.1 k).2.1 (r.2.1 k).2.2.1 "FelledHasLost" ∈ lw_tbl)) := by
  obtain ⟨p, h1⟩ := x_all xFldC_ok rfl h
  unfold xFldC at h1
  dsimp only at h1
  split at h1
  next r hr =>
    simp only [Bool.and_eq_true, decide_eq_true_eq] at h1
    obtain ⟨⟨h2, h3⟩, h4⟩ := h1
    refine ⟨r, hr, h2, h3, ?_⟩
    split at h4
    next h0 => exact Or.inl ⟨h0, xG1_in h4⟩
    next h0 => exact Or.inr ⟨h0, xW0_in h4⟩
  next => cases h1
theorem x_good_lay {C : String} {T : u_T} {N : Nat} : ∀ w ∈ u_ws C T N, goodWord w = true := by
  intro w hw
  obtain ⟨k, -, rfl⟩ := List.mem_map.mp hw
  unfold u_lay
  split <;> rfl
theorem xCl_ok {ci : Nat} {q : vw_C} (h : vwCl[ci]? = some q) : ci < 13 ∧ (∀ k, k < q.2.2 → parseFieldDescriptor (q.2.1 k).2.2.1 = some (xTy ci k)) ∧ (∀ a, a < q.2.2 → ∀ b, b < q.2.2 → a ≠ b → (q.2.1 a).2.1 ≠ (q.2.1 b).2.1) ∧ (∀ w ∈ u_ws q.1 q.2.1 q.2.2, w ∈ xGw) := by
  have hin : ∀ {C : String} {T : u_T} {N : Nat}, (∀ w ∈ u_ws C T N, w ∈ lw_tbl) → ∀ w ∈ u_ws C T N, w ∈ xGw := fun hi w hw => List.mem_filter.mpr ⟨hi w hw, x_good_lay w hw⟩
  match ci, h with
  | 0, h => cases h; exact ⟨by omega, tyX0_ok, nmX0, hin inX0⟩
  | 1, h => cases h; exact ⟨by omega, tyX1_ok, nmX1, hin inX1⟩
  | 2, h => cases h; exact ⟨by omega, tyX2_ok, nmX2, hin inX2⟩
  | 3, h => cases h; exact ⟨by omega, tyX3_ok, nmX3, hin inX3⟩
  | 4, h => cases h; exact ⟨by omega, tyX4_ok, nmX4, hin inX4⟩
  | 5, h => cases h; exact ⟨by omega, tyX5_ok, nmX5, hin inX5⟩
  | 6, h => cases h; exact ⟨by omega, tyX6_ok, nmX6, hin inX6⟩
  | 7, h => cases h; exact ⟨by omega, tyX7_ok, nmX7, hin inX7⟩
  | 8, h => cases h; exact ⟨by omega, tyX8_ok, nmX8, hin inX8⟩
  | 9, h => cases h; exact ⟨by omega, tyX9_ok, nmX9, hin inX9⟩
  | 10, h => cases h; exact ⟨by omega, tyX10_ok, nmX10, hin inX10⟩
  | 11, h => cases h; exact ⟨by omega, tyX11_ok, nmX11, hin inX11⟩
  | 12, h => cases h; exact ⟨by omega, tyX12_ok, nmX12, hin inX12⟩
  | k + 13, h => simp [vwCl] at h
def xGstC (o : Nat) (q : Nat × Nat × Nat) : Bool := (decide (q.2.1 = 0) && xG1 q.2.2 (Jvm.Cond.fieldLink (xCls o) q.1 RX0 "LEAST_PLACE" "[I")) || (decide (q.2.1 = 1) && xG1 q.2.2 (Jvm.Cond.fieldLink (xCls o) q.1 RX0 "GREATEST_PLACE" "[I"))
theorem xGstC_ok : (List.range 16).all (fun o => (xGstL.getD o []).all (xGstC o)) = true := by decide +kernel
def xLdcC (o : Nat) (q : Nat × Int32 × Nat) : Bool := xG1 q.2.2 (Jvm.Cond.constant (xCls o) q.1 q.2.1)
theorem xLdcC_ok : (List.range 16).all (fun o => (xLdcL.getD o []).all (xLdcC o)) = true := by decide +kernel
def xLd2C (o : Nat) (q : Nat × Int64 × Nat) : Bool := xG1 q.2.2 (Jvm.Cond.constantLong (xCls o) q.1 q.2.1)
theorem xLd2C_ok : (List.range 16).all (fun o => (xLd2L.getD o []).all (xLd2C o)) = true := by decide +kernel
def xNewC (o : Nat) (q : Nat × Nat × Nat) : Bool := q.2.1 == 99 || (decide (q.2.1 < 13) && xG1 q.2.2 (Jvm.Cond.classLink (xCls o) q.1 (xCls q.2.1)))
theorem xNewC_ok : (List.range 16).all (fun o => (xNewL.getD o []).all (xNewC o)) = true := by decide +kernel
def xObjC (ci : Nat) : Bool := match vwCl[ci]? with
  | some r => decide (r.1 = xCls ci) && xG1 (xObjP.getD ci (0, 0)).1 (Jvm.Cond.instantiable r.1 r.2.2) && xG1 (xObjP.getD ci (0, 0)).2 (Jvm.Cond.initialized r.1) && decide ((xDef.getD ci []).length = r.2.2) && (List.range r.2.2).all (fun j => decide (defaultValue (xTy ci j) = vp_V (xDef.getD ci []) j)) && (xDef.getD ci []).all (fun v => decide (v = .null) || decide (v = .int 0))
  | none => false
theorem xObjC_ok : (List.range 13).all xObjC = true := by decide +kernel
theorem xArrC_ok : xG1 (xArrP.getD 0 0) (Jvm.Cond.arrayClass .int) = true ∧ xG1 (xArrP.getD 1 0) (Jvm.Cond.arrayClass .long) = true ∧ xG1 (xArrP.getD 2 0) (Jvm.Cond.arrayClass .boolean) = true := by decide +kernel
