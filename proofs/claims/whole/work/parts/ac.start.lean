section YH
/-- where each text is read first -/
def xTmL : List (String × Nat) := [("FelledHasLost$Rule", 85), ("FelledHasLost$Tower", 45), ("FelledHasLost$Tower", 51), ("FelledHasLost$Tower", 53), ("FelledHasLost$Rule", 96), ("FelledHasLost$Rule", 105), ("FelledHasLost$Rule", 114), ("FelledHasLost$Rule", 116), ("FelledHasLost$MoveList", 34), ("FelledHasLost$MoveList", 40), ("FelledHasLost$MoveList", 49), ("FelledHasLost", 170), ("FelledHasLost", 188), ("FelledHasLost", 207), ("FelledHasLost", 227), ("FelledHasLost", 488), ("FelledHasLostModel", 215), ("FelledHasLostModel", 217), ("FelledHasLostModel", 219)]
def xTm (j : Nat) : Term := .string (xTmL.getD j ("", 0)).1 (xTmL.getD j ("", 0)).2
/-- a number that tells most premises apart -/
def xKy : Jvm.Cond → Nat
  | .not (.eq (.string _ i) (.string _ j)) => 1 + 10 * (i + 1000 * j)
  | .eq (.elem (.field (.string _ i) _ _ _) (.int j)) _ => 2 + 10 * (i + 1000 * j.toNatClampNeg)
  | .eq (.length (.field (.string _ i) _ _ _)) _ => 3 + 10 * i
  | .eq (.field (.string _ i) _ _ _) _ => 4 + 10 * i
  | .exactly (.string _ i) _ => 5 + 10 * i
  | .arrayOf (.field (.string _ i) _ _ _) _ => 6 + 10 * i
  | .eq (.string _ i) (.string _ j) => 7 + 10 * (i + 1000 * j)
  | .eq (.elem (.static _ _ _) (.int j)) _ => 8 + 10 * j.toNatClampNeg
  | .eq _ _ => 9
  | _ => 0
def xHs (w : Jvm.Cond) : Bool := (flatC (Jvm.Cond.and given_1 narrow_1)).any (fun z => Nat.beq (xKy z) (xKy w) && decide (z = w))
theorem xHs_in {w : Jvm.Cond} (h : xHs w = true) : w ∈ flatC (Jvm.Cond.and given_1 narrow_1) := by
  obtain ⟨z, hz, h2⟩ := List.any_eq_true.mp h
  obtain rfl := of_decide_eq_true (Bool.and_eq_true_iff.mp h2).2
  exact hz
def xSq (i : Nat) : Bool := xHs (.exactly (xTm i) "java/lang/String") && xHs (.eq (.field (xTm i) "java/lang/String" "coder" "B") (.int 0)) && xHs (.arrayOf (.field (xTm i) "java/lang/String" "value" "[B") .byte) && xHs (.eq (.length (.field (xTm i) "java/lang/String" "value" "[B")) (.int (Int32.ofNat ((xTxt.map List.length).getD i 0)))) && (List.range ((xTxt.map List.length).getD i 0)).all (fun j => xHs (.eq (.elem (.field (xTm i) "java/lang/String" "value" "[B") (.int (Int32.ofNat j))) (.int ((xTxt.getD i []).getD j 0))))
theorem xSq_ok : (List.range 19).all xSq = true := by decide +kernel
def xSr (i j : Nat) : Bool := Nat.beq i j || xHs (.not (.eq (xTm i) (xTm j))) || xHs (.not (.eq (xTm j) (xTm i)))
theorem xSr_ok : (List.range 19).all (fun i => (List.range 19).all (xSr i)) = true := by decide +kernel
theorem xSq_at {i : Nat} (h : i < 19) : xSq i = true := List.all_eq_true.mp xSq_ok i (List.mem_range.mpr h)
theorem xs_texts {args : Array Value} {s : State} {A : Nat → Prop} (hgv : (Jvm.Cond.and given_1 narrow_1).before args s = true) (hA : ∀ a : Nat, a < s.heap.size → ¬ A a) :
    ∃ adK adV : Nat → Nat, vk_S xTxt.length (xTxt.map List.length) xTxt adK adV A s s.heap ∧ ∀ i : Nat, i < xTxt.length → (xTm i).eval args s none [] s = some (.ref (adK i)) := by
  refine vk_Sof (tm := xTm) (fun i hi => ?_) (fun i hi => ?_) (fun i hi => ?_) (fun i hi => ?_) (fun i hi => ?_) (fun i hi j hj => ?_) (fun i j hi hj hij => ?_) hA
  · rw [xt_len]
    exact Nat.lt_trans (xt_lt i) (by decide)
  · have h := xSq_at hi
    simp only [xSq, Bool.and_eq_true] at h
    exact flat_of_before _ hgv _ (xHs_in h.1.1.1.1)
  · have h := xSq_at hi
    simp only [xSq, Bool.and_eq_true] at h
    exact flat_of_before _ hgv _ (xHs_in h.1.1.1.2)
  · have h := xSq_at hi
    simp only [xSq, Bool.and_eq_true] at h
    exact flat_of_before _ hgv _ (xHs_in h.1.1.2)
  · have h := xSq_at hi
    simp only [xSq, Bool.and_eq_true] at h
    exact flat_of_before _ hgv _ (xHs_in h.1.2)
  · have h := xSq_at hi
    simp only [xSq, Bool.and_eq_true] at h
    exact flat_of_before _ hgv _ (xHs_in (List.all_eq_true.mp h.2 j (List.mem_range.mpr hj)))
  · have h := List.all_eq_true.mp (List.all_eq_true.mp xSr_ok i (List.mem_range.mpr hi)) j (List.mem_range.mpr hj)
    simp only [xSr, Bool.or_eq_true] at h
    rcases h with (h | h) | h
    · exact absurd (Nat.eq_of_beq_eq_true h) hij
    · exact Or.inl (flat_of_before _ hgv _ (xHs_in h))
    · exact Or.inr (flat_of_before _ hgv _ (xHs_in h))
def xLdsC (o : Nat) (q : Nat × Nat × Nat) : Bool := decide (q.2.1 < 19) && xW0 q.2.2 (Jvm.Cond.stringRef (xCls o) q.1 (xStr.getD q.2.1 "")) && (decide (xTm q.2.1 = .string (xCls o) q.1) || xHs (.eq (xTm q.2.1) (.string (xCls o) q.1)))
theorem xLdsC_ok : (List.range 16).all (fun o => (xLdsL.getD o []).all (xLdsC o)) = true := by decide +kernel
theorem xs_lds {args : Array Value} {s : State} {adK : Nat → Nat} (hts : ∀ w ∈ lw_tbl, w.before args s = true) (hgv : (Jvm.Cond.and given_1 narrow_1).before args s = true) (hK : ∀ i : Nat, i < xTxt.length → (xTm i).eval args s none [] s = some (.ref (adK i))) {o i j : Nat} (h : xLds o i = some j) : vk_R (xCls o) i (xStr.getD j "") (adK j) s := by
  obtain ⟨q, hq⟩ := x_all xLdsC_ok rfl h
  simp only [xLdsC, Bool.and_eq_true, Bool.or_eq_true] at hq
  obtain ⟨⟨h1, h2⟩, h3⟩ := hq
  have hj : (xTm j).eval args s none [] s = some (.ref (adK j)) := hK j (of_decide_eq_true h1)
  refine vk_R.of (A := args) (hts _ (xW0_in h2)) ?_
  rcases h3 with h3 | h3
  · rw [← of_decide_eq_true h3]
    exact hj
  · obtain ⟨y, e1, e2⟩ := Cond.eq_one (args := args) (first := s) (o := none) (s := s) (idx := []) (flat_of_before _ hgv _ (xHs_in h3))
    rw [hj] at e1
    cases e1
    exact e2
/-- the classes -/
theorem xs_cls {args : Array Value} {s : State} (hts : ∀ w ∈ lw_tbl, w.before args s = true) (c : Nat) : ∃ z : ClassId × (Nat → Nat), ∀ q : vw_C, vwCl[c]? = some q → u_Kn s q.1 q.2.1 q.2.2 z.1 z.2 := by
  by_cases hc : c < 13
  · have ho := List.all_eq_true.mp xObjC_ok c (List.mem_range.mpr hc)
    have hin : ∀ q : vw_C, vwCl[c]? = some q → ∀ w ∈ u_ws q.1 q.2.1 q.2.2, w ∈ lw_tbl := by
      intro q hq
      match c, hc, hq with
      | 0, _, hq => cases hq; exact inX0
      | 1, _, hq => cases hq; exact inX1
      | 2, _, hq => cases hq; exact inX2
      | 3, _, hq => cases hq; exact inX3
      | 4, _, hq => cases hq; exact inX4
      | 5, _, hq => cases hq; exact inX5
      | 6, _, hq => cases hq; exact inX6
      | 7, _, hq => cases hq; exact inX7
      | 8, _, hq => cases hq; exact inX8
      | 9, _, hq => cases hq; exact inX9
      | 10, _, hq => cases hq; exact inX10
      | 11, _, hq => cases hq; exact inX11
      | 12, _, hq => cases hq; exact inX12
    obtain ⟨q, hq⟩ : ∃ q, vwCl[c]? = some q := by
      cases h : vwCl[c]? with
      | some q => exact ⟨q, rfl⟩
      | none => rw [xObjC, h] at ho; cases ho
    rw [xObjC, hq] at ho
    simp only [Bool.and_eq_true] at ho
    have hi := hts _ (List.mem_filter.mp (xG1_in ho.1.1.1.1.2)).1
    obtain ⟨cC, iS, hk⟩ := u_known (C := q.1) (T := q.2.1) (N := q.2.2) hts (hin q hq) hi
    exact ⟨(cC, iS), fun q' hq' => by rw [hq] at hq'; cases hq'; exact hk⟩
  · refine ⟨(0, fun _ => 0), fun q hq => ?_⟩
    rw [List.getElem?_eq_none (show vwCl.length ≤ c from Nat.not_lt.mp hc)] at hq
    cases hq
/-- the arrays' classes -/
theorem xs_arr {args : Array Value} {s : State} {ty : FieldType} (h : (Cond.arrayClass ty).before args s = true) : ∃ cA : ClassId, ArrOfT s cA ty ∧ s.vm.findClass ("[" ++ ty.toString) = some cA := by
  obtain ⟨c, k, comp, h1, h2, h3⟩ := Cond.arrayClass_spec h
  exact ⟨c, fun n z => ⟨fun k h => (by cases h), k, h2, comp, h3⟩, h1⟩
theorem xs_arrO {args : Array Value} {s : State} {C : String} (h : (Cond.arrayOver (.object C)).before args s = true) : ∃ cA : ClassId, ArrOfT s cA (.object C) ∧ va_RA s cA (.object C) := by
  obtain ⟨comp, c, k, h0, -, h2, h3, h4⟩ := Cond.arrayOver_spec h
  exact ⟨c, fun n z => ⟨fun k h => (by cases h), k, h2, comp, h3⟩, k, comp, h2, h3, h0, h4⟩
def xBalC (f : String) (xs : List Int32) : Bool := xHs (.arrayOf (.static RX0 f "[I") .int) && xHs (.eq (.length (.static RX0 f "[I")) (.int (Int32.ofNat 8))) && (List.range 8).all (fun j => xHs (.eq (.elem (.static RX0 f "[I") (.int (Int32.ofNat j))) (.int (xs.getD j 0))))
theorem xBal_0 : xBalC "LEAST_PLACE" [0, 0, 1, 0, 2, 0, 1, 0] = true := by decide +kernel
theorem xBal_1 : xBalC "GREATEST_PLACE" [0, 0, 1, 1, 2, 2, 2, 2] = true := by decide +kernel
theorem xs_bal {args : Array Value} {s : State} {A : Nat → Prop} (hgv : (Jvm.Cond.and given_1 narrow_1).before args s = true) (hA : ∀ a : Nat, a < s.heap.size → ¬ A a) {f : String} {xs : List Int32} (h : xBalC f xs = true) : ∃ t : Nat, (Term.static RX0 f "[I").eval args s none [] s = some (.ref t) ∧ va_T .int t 8 (fun j => .int (xs.getD j 0)) A s s.heap := by
  simp only [xBalC, Bool.and_eq_true] at h
  exact va_Tof (f := fun j => .int (xs.getD j 0)) (by decide) (flat_of_before _ hgv _ (xHs_in h.1.1)) (va_eqt (flat_of_before _ hgv _ (xHs_in h.1.2))) (fun j hj => va_eqt (flat_of_before _ hgv _ (xHs_in (List.all_eq_true.mp h.2 j (List.mem_range.mpr hj))))) hA
theorem xs_cs : xHs (.eq (.static "java/lang/String" "COMPACT_STRINGS" "Z") (.int 1)) = true := by decide +kernel
theorem xs_w1 : Jvm.Cond.laysStatic RX0 "LEAST_PLACE" "[I" ∈ lw_tbl := xq_tb (k := 4) (by decide +kernel)
theorem xs_w2 : Jvm.Cond.laysStatic RX0 "GREATEST_PLACE" "[I" ∈ lw_tbl := xq_tb (k := 4) (by decide +kernel)
theorem xs_w3 : Jvm.Cond.initialized RX0 ∈ lw_tbl := by decide +kernel
theorem xs_w4 : Jvm.Cond.laysStatic "java/lang/String" "COMPACT_STRINGS" "Z" ∈ lw_tbl := xq_tb (k := 1) (by decide +kernel)
theorem xs_w5 : Jvm.Cond.initialized "java/lang/String" ∈ lw_tbl := xq_tb (k := 1) (by decide +kernel)
theorem xs_w6 : Jvm.Cond.arrayOver (.object "FelledHasLost$State") ∈ lw_tbl := by decide +kernel
/-- the addresses -/
def xAd0 (B t1 t2 b : Nat) (adK : Nat → Nat) (a : Nat) : Nat := if a < xKb then B + a else if a = xKb then t1 else if a = xKb + 1 then t2 else if a = xKb + 2 then b else adK (a - (xKb + 10))
theorem xAd0_0 (B t1 t2 b : Nat) (adK : Nat → Nat) {a : Nat} (h : a < xKb) : xAd0 B t1 t2 b adK a = B + a := by simp [xAd0, h]
theorem xAd0_1 (B t1 t2 b : Nat) (adK : Nat → Nat) : xAd0 B t1 t2 b adK xKb = t1 := by simp [xAd0]
theorem xAd0_2 (B t1 t2 b : Nat) (adK : Nat → Nat) : xAd0 B t1 t2 b adK (xKb + 1) = t2 := by
  unfold xAd0
  rw [if_neg (by omega), if_neg (by omega), if_pos rfl]
theorem xAd0_3 (B t1 t2 b : Nat) (adK : Nat → Nat) : xAd0 B t1 t2 b adK (xKb + 2) = b := by
  unfold xAd0
  rw [if_neg (by omega), if_neg (by omega), if_neg (by omega), if_pos rfl]
theorem xAd0_4 (B t1 t2 b : Nat) (adK : Nat → Nat) (j : Nat) : xAd0 B t1 t2 b adK (xKb + 10 + j) = adK j := by
  unfold xAd0
  rw [if_neg (by omega), if_neg (by omega), if_neg (by omega), if_neg (by omega), Nat.add_sub_cancel_left]
set_option maxHeartbeats 4000000 in
/-- what holds all along holds at the law's entry -/
theorem xs_gl {p : Program} {s : State} {m : MethodId} {meth : Method} {c : Code} {b L : Nat} {xs : Nat → Int32} (C0 : lw_At p s m meth c b L xs) : ∃ P : xP, xKc P = xKc0 L xs ∧ xBs P = s.heap.size ∧ xAd P (xKb + 2) = b ∧ xGl P s := by
  obtain ⟨hx, hb, hr, hml, hown, hts, hX, hbl, hlocks, hgv⟩ := C0
  have hA : ∀ a : Nat, a < s.heap.size → ¬ (fun q : Nat => s.heap.size ≤ q) a := fun a ha => Nat.not_le.mpr ha
  obtain ⟨adK, adV, hS, hK⟩ := xs_texts hgv hA
  obtain ⟨t1, e1, T1⟩ := xs_bal hgv hA xBal_0
  obtain ⟨t2, e2, T2⟩ := xs_bal hgv hA xBal_1
  obtain ⟨cI, I1, I2⟩ := xs_arr (hts _ (List.mem_filter.mp (xG1_in xArrC_ok.1)).1)
  obtain ⟨cJ, J1, J2⟩ := xs_arr (hts _ (List.mem_filter.mp (xG1_in xArrC_ok.2.1)).1)
  obtain ⟨cZ, Z1, Z2⟩ := xs_arr (hts _ (List.mem_filter.mp (xG1_in xArrC_ok.2.2)).1)
  obtain ⟨cO, O1, O2⟩ := xs_arrO (hts _ xs_w6)
  have hcl := xs_cls hts
  refine ⟨(s.heap.size, xAd0 s.heap.size t1 t2 b adK, fun k => if k = 0 then cI else if k = 1 then cJ else if k = 2 then cZ else cO, (fun c => (Classical.choose (hcl c)).1, fun c => (Classical.choose (hcl c)).2), xKc0 L xs, adV), rfl, rfl, xAd0_3 s.heap.size t1 t2 b adK, ?_⟩
  refine ⟨fun a ha => xAd0_0 s.heap.size t1 t2 b adK ha, ⟨fun c q hq => Classical.choose_spec (hcl c) q hq, fun k q hk => ?_⟩, fun w hw hn => ?_, va_AO.of (hts _ xs_w6), fun a ha => ?_, ?_, ?_, fun o i j h => ?_, ?_, ?_, ?_⟩
  · match k, hk with
    | 0, hk => cases hk; exact ⟨I1, I2⟩
    | 1, hk => cases hk; exact ⟨J1, J2⟩
    | 2, hk => cases hk; exact ⟨Z1, Z2⟩
    | 3, hk => cases hk; exact ⟨O1, O2⟩
    | k + 4, hk => simp [xTys] at hk
  · refine va_Nw.of ?_ (hts w hw)
    cases w <;> first | rfl | cases hn
  · show xKc0 L xs a = xNo ∨ ∃ n f, xKc0 L xs a = .inl (10, n, .inl f) ∧ va_T .int (xAd0 s.heap.size t1 t2 b adK a) n (fun j => .int (f j)) (fun q : Nat => s.heap.size ≤ q) s s.heap
    by_cases h1 : a = xKb
    · subst h1
      refine Or.inr ⟨8, _, by unfold xKc0; rw [if_pos rfl], ?_⟩
      rw [xAd0_1]
      exact T1
    · by_cases h2 : a = xKb + 1
      · subst h2
        refine Or.inr ⟨8, _, by unfold xKc0; rw [if_neg h1, if_pos rfl], ?_⟩
        rw [xAd0_2]
        exact T2
      · by_cases h3 : a = xKb + 2
        · subst h3
          refine Or.inr ⟨L, xs, by unfold xKc0; rw [if_neg h1, if_neg h2, if_pos rfl], ?_⟩
          rw [xAd0_3]
          obtain ⟨scr, q1, q2, q3, q4, q5⟩ := hX
          exact ⟨scr, q1, q2, q3, Nat.le_of_eq q4.symm, by rw [q4], q5, hA b hbl⟩
        · refine Or.inl ?_
          unfold xKc0
          rw [if_neg h1, if_neg h2, if_neg h3]
  · show va_Z RX0 "LEAST_PLACE" "[I" (.ref (xAd0 s.heap.size t1 t2 b adK xKb)) (fun q : Nat => s.heap.size ≤ q) s s.heap
    rw [xAd0_1]
    exact va_Zref (hts _ xs_w1) (hts _ xs_w3) e1 hA
  · show va_Z RX0 "GREATEST_PLACE" "[I" (.ref (xAd0 s.heap.size t1 t2 b adK (xKb + 1))) (fun q : Nat => s.heap.size ≤ q) s s.heap
    rw [xAd0_2]
    exact va_Zref (hts _ xs_w2) (hts _ xs_w3) e2 hA
  · show vk_R (xCls o) i (xStr.getD j "") (xAd0 s.heap.size t1 t2 b adK (xKb + 10 + j)) s
    rw [xAd0_4]
    exact xs_lds hts hgv hK h
  · show vk_S xTxt.length (xTxt.map List.length) xTxt (fun j => xAd0 s.heap.size t1 t2 b adK (xKb + 10 + j)) adV (fun q : Nat => s.heap.size ≤ q) s s.heap
    have : (fun j => xAd0 s.heap.size t1 t2 b adK (xKb + 10 + j)) = adK := funext fun j => xAd0_4 _ _ _ _ _ j
    rw [this]
    exact hS
  · exact va_Zof (hts _ xs_w4) (hts _ xs_w5) (va_eqt (flat_of_before _ hgv _ (xHs_in xs_cs))) hA
  · exact ⟨s, _, State.WarmedH.refl s, fun a ha => ⟨Nat.not_le.mpr ha, rfl⟩, hts, hgv⟩
end YH
/-- from the entry, for every script of at most 2560 ints, the law comes to its end with true -/
theorem whole_start {p : Program} {e : Env} {s : State} {m : MethodId} {below : List Frame} {meth : Method} {c : Code} (l : Launch) (hfl : ∀ e, l.admits e → e.platform.stackTraces = false) {b L : Nat} {xs : Nat → Int32} (hL : L ≤ 2560) (C0 : lw_At p s m meth c b L xs) : W p l e room_1 s m #[Value.ref b] below meth c s.heap [] 0 0 (lw_Z below #[Value.ref b] s) (entryFrame m ([Value.ref b] : List Value).toArray 8) := by
  obtain ⟨P, h1, h2, h3, g⟩ := xs_gl C0
  exact whole_of l hL C0 P h1 h2 h3 g xText_ok (xTry_ok hfl) x_claim
