section YD
variable {l : Launch} {P : xP}
set_option maxHeartbeats 4000000 in
theorem xt_indexOf1 {j : Nat} (hj : j < xTxt.length) (x : Int32) : Met l yJ1_indexOf_4cfef (Jvm.Cond.code yJ1_indexOf_4cfef cJ1_indexOf_4cfef 4 (some .int) :: xGw) (xtRm 1) (xtPre P [.ref (xBy P j), .int x, .int 0, .int (Int32.ofNat (xTxt.getD j []).length)]) (xtPost (some (.int (xIx (xTxt.getD j []) x)))) 0 0 xtNo := by
  refine Met.ofW (cc := cJ1_indexOf_4cfef) (maxL := 4) (ret := some .int) (by decide) rfl ?_
  intro p e s m args below meth c s₁ B hml hpre
  obtain ⟨rfl, g⟩ := hpre
  have hx := B.exec
  have hb := B.bytes
  have hr := B.returns
  have hts0 := atoms_spec (ws := Jvm.Cond.code yJ1_indexOf_4cfef cJ1_indexOf_4cfef 4 (some .int) :: xGw) B.pre
  have hts : ∀ w ∈ xGw, w.before ([.ref (xBy P j), .int x, .int 0, .int (Int32.ofNat (xTxt.getD j []).length)] : List Value).toArray s = true := fun w hw => hts0 w (List.mem_cons_of_mem _ hw)
  have hown : s.vm.findClass RJ1 = some m.cls := findClass_of_methodNamed B.named
  have hlocks := B.notSynchronized
  have hC := g.2.2.2.2.2.2.2.2.2.1
  have hl := lv_entry ([.ref (xBy P j), .int x, .int 0, .int (Int32.ofNat (xTxt.getD j []).length)] : List Value) (n := 4) (Nat.le_of_ble_eq_true rfl)
  rw [lg_entry_eq]
  generalize (lg_sl ([.ref (xBy P j), .int x, .int 0, .int (Int32.ofNat (xTxt.getD j []).length)] : List Value) ++ List.replicate (4 - (lg_sl ([.ref (xBy P j), .int x, .int 0, .int (Int32.ofNat (xTxt.getD j []).length)] : List Value)).length) Slot.unset).toArray = ls at hl ⊢
  have hl : lv_has ls 4 [(0, .ref (xBy P j)), (1, .int x), (2, .int 0), (3, .int (Int32.ofNat (xTxt.getD j []).length))] := hl
  obtain ⟨t1, t2, t3, t4⟩ := g.2.2.2.2.2.2.2.2.1.1 j hj
  have hlt := xt_lt j
  refine lv_iload_n hx hb dJ1_indexOf_4cfef_0 rfl (lv_at hl 1 rfl) ?_
  refine xt_S (As := [.int x]) (rest := []) (n := 1) hx hb hml hown hts g va_S.rf (xt_canEncode x) (xtG_in (by decide +kernel)) (xtG_in (by decide +kernel)) (xtG_in (by decide +kernel)) (xtG_in (by decide +kernel)) (by decide +kernel) rfl (by decide) (by decide) (by decide) ⟨by decide, by decide⟩ hl.1 (Nat.le_of_ble_eq_true rfl) dJ1_indexOf_4cfef_1 ?_
  refine lv_if_ne (tgt := 9) hx hb dJ1_indexOf_4cfef_4 (by decide) (fun h => ?_) (fun h => ?_)
  · have hx0 : ¬ (x < 0 ∨ 255 < x) := fun z => h (by rw [if_pos z])
    refine lv_iload_n hx hb dJ1_indexOf_4cfef_9 rfl (lv_at hl 2 rfl) ?_
    refine lv_iconst (v := 0) hx hb dJ1_indexOf_4cfef_10 (by decide) ?_
    refine va_mmax hx hb (hml.trans hl.1.symm) hown (hts _ (xtG_in (by decide +kernel))) (hts _ (xtG_in (by decide +kernel))) (hts _ (xtG_in (by decide +kernel))) (hts _ (xtG_in (by decide +kernel))) (by decide) (by decide) (by decide) (by decide) dJ1_indexOf_4cfef_11 ?_
    rw [if_neg (by decide)]
    refine lv_istore_n (lv' := [(2, .int 0), (0, .ref (xBy P j)), (1, .int x), (3, .int (Int32.ofNat (xTxt.getD j []).length))]) hx hb dJ1_indexOf_4cfef_14 rfl hl (by decide) rfl (fun ls hl => ?_)
    refine lv_iload_n hx hb dJ1_indexOf_4cfef_15 rfl (lv_at hl 3 rfl) ?_
    refine lv_aload_n hx hb dJ1_indexOf_4cfef_16 rfl (lv_at hl 1 rfl) ?_
    refine va_tlen hx hb t4 va_S.rf (v := Int32.ofNat (xTxt.getD j []).length) (by rw [xt_len]) dJ1_indexOf_4cfef_17 ?_
    refine va_mmin hx hb (hml.trans hl.1.symm) hown (hts _ (xtG_in (by decide +kernel))) (hts _ (xtG_in (by decide +kernel))) (hts _ (xtG_in (by decide +kernel))) (hts _ (xtG_in (by decide +kernel))) (by decide) (by decide) (by decide) (by decide) dJ1_indexOf_4cfef_18 ?_
    rw [ite_self]
    refine lv_istore_n (lv' := [(3, .int (Int32.ofNat (xTxt.getD j []).length)), (2, .int 0), (0, .ref (xBy P j)), (1, .int x)]) hx hb dJ1_indexOf_4cfef_21 rfl hl (by decide) rfl (fun ls hl => ?_)
    refine lv_iload_n hx hb dJ1_indexOf_4cfef_22 rfl (lv_at hl 1 rfl) ?_
    refine lv_iload_n hx hb dJ1_indexOf_4cfef_23 rfl (lv_at hl 0 rfl) ?_
    refine lv_icmp_lt (tgt := 29) hx hb dJ1_indexOf_4cfef_24 (by decide) (fun h2 => ?_) (fun h2 => ?_)
    · refine lv_aload_n hx hb dJ1_indexOf_4cfef_29 rfl (lv_at hl 2 rfl) ?_
      refine lv_iload_n hx hb dJ1_indexOf_4cfef_30 rfl (lv_at hl 3 rfl) ?_
      refine lv_iload_n hx hb dJ1_indexOf_4cfef_31 rfl (lv_at hl 1 rfl) ?_
      refine lv_iload_n hx hb dJ1_indexOf_4cfef_32 rfl (lv_at hl 0 rfl) ?_
      refine xt_S (As := [.ref (xBy P j), .int x, .int 0, .int (Int32.ofNat (xTxt.getD j []).length)]) (rest := []) (n := 4) hx hb hml hown hts g va_S.rf (xt_indexOfChar hj hx0) (xtG_in (by decide +kernel)) (xtG_in (by decide +kernel)) (xtG_in (by decide +kernel)) (xtG_in (by decide +kernel)) (by decide +kernel) rfl (by decide) (by decide) (by decide) ⟨by decide, by decide⟩ hl.1 (Nat.le_of_ble_eq_true rfl) dJ1_indexOf_4cfef_33 ?_
      exact W.iret hx hb hr (fun t ht hW => ⟨rfl, ht⟩) (fun q hq => by cases hq) dJ1_indexOf_4cfef_36
    · refine lv_iconst (v := -1) hx hb dJ1_indexOf_4cfef_27 (by decide) ?_
      rw [xt_ixNo (fun k hk => absurd (nI_lt (a := 0) (b := (xTxt.getD j []).length) (by omega) (by omega)) h2)]
      exact W.iret hx hb hr (fun t ht hW => ⟨rfl, ht⟩) (fun q hq => by cases hq) dJ1_indexOf_4cfef_28
  · refine lv_iconst (v := -1) hx hb dJ1_indexOf_4cfef_7 (by decide) ?_
    have hx1 : x < 0 ∨ 255 < x := by
      by_cases z : x < 0 ∨ 255 < x
      · exact z
      · rw [if_neg z] at h
        exact absurd h (by decide)
    rw [xt_ixOut hx1]
    exact W.iret hx hb hr (fun t ht hW => ⟨rfl, ht⟩) (fun q hq => by cases hq) dJ1_indexOf_4cfef_8
set_option maxHeartbeats 4000000 in
theorem xt_indexOf2 {j : Nat} (hj : j < xTxt.length) (x : Int32) : Met l yJ0_indexOf_7cf53 (Jvm.Cond.code yJ0_indexOf_7cf53 cJ0_indexOf_7cf53 3 (some .int) :: xGw) (xtRm 2) (xtPre P [.ref (xAd P (xKb + 10 + j)), .int x, .int 0]) (xtPost (some (.int (xIx (xTxt.getD j []) x)))) 0 0 xtNo := by
  refine Met.ofW (cc := cJ0_indexOf_7cf53) (maxL := 3) (ret := some .int) (by decide) rfl ?_
  intro p e s m args below meth c s₁ B hml hpre
  obtain ⟨rfl, g⟩ := hpre
  have hx := B.exec
  have hb := B.bytes
  have hr := B.returns
  have hts0 := atoms_spec (ws := Jvm.Cond.code yJ0_indexOf_7cf53 cJ0_indexOf_7cf53 3 (some .int) :: xGw) B.pre
  have hts : ∀ w ∈ xGw, w.before ([.ref (xAd P (xKb + 10 + j)), .int x, .int 0] : List Value).toArray s = true := fun w hw => hts0 w (List.mem_cons_of_mem _ hw)
  have hown : s.vm.findClass RJ0 = some m.cls := findClass_of_methodNamed B.named
  have hlocks := B.notSynchronized
  have hC := g.2.2.2.2.2.2.2.2.2.1
  have hl := lv_entry ([.ref (xAd P (xKb + 10 + j)), .int x, .int 0] : List Value) (n := 3) (Nat.le_of_ble_eq_true rfl)
  rw [lg_entry_eq]
  generalize (lg_sl ([.ref (xAd P (xKb + 10 + j)), .int x, .int 0] : List Value) ++ List.replicate (3 - (lg_sl ([.ref (xAd P (xKb + 10 + j)), .int x, .int 0] : List Value)).length) Slot.unset).toArray = ls at hl ⊢
  have hl : lv_has ls 3 [(0, .ref (xAd P (xKb + 10 + j))), (1, .int x), (2, .int 0)] := hl
  obtain ⟨t1, t2, t3, t4⟩ := g.2.2.2.2.2.2.2.2.1.1 j hj
  refine lv_aload_n hx hb dJ0_indexOf_7cf53_0 rfl (lv_at hl 0 rfl) ?_
  refine xt_V (As := []) (rest := []) (n := 0) hx hb hml hown hts g va_S.rf (xt_isLatin1 hj) (xtG_in (by decide +kernel)) (xtG_in (by decide +kernel)) (xtG_in (by decide +kernel)) (xtG_in (by decide +kernel)) (xtG_in (by decide +kernel)) (by decide +kernel) rfl (xt_recv g hj va_S.rf) (by decide) (by decide) (by decide) ⟨by decide, by decide⟩ hl.1 (Nat.le_of_ble_eq_true rfl) dJ0_indexOf_7cf53_1 ?_
  refine lv_if_eq (tgt := 23) hx hb dJ0_indexOf_7cf53_4 (by decide) (fun h => absurd h (by decide)) (fun _ => ?_)
  refine lv_aload_n hx hb dJ0_indexOf_7cf53_7 rfl (lv_at hl 0 rfl) ?_
  refine vk_getf hx hb t3 va_S.rf hown (hts _ (xtG_in (by decide +kernel))) (fun x h => h) dJ0_indexOf_7cf53_8 ?_
  refine lv_iload_n hx hb dJ0_indexOf_7cf53_11 rfl (lv_at hl 1 rfl) ?_
  refine lv_iload_n hx hb dJ0_indexOf_7cf53_12 rfl (lv_at hl 2 rfl) ?_
  refine lv_aload_n hx hb dJ0_indexOf_7cf53_13 rfl (lv_at hl 0 rfl) ?_
  refine xt_V (As := []) (rest := [.int 0, .int x, .ref (xBy P j)]) (n := 0) hx hb hml hown hts g va_S.rf (xt_length hj) (xtG_in (by decide +kernel)) (xtG_in (by decide +kernel)) (xtG_in (by decide +kernel)) (xtG_in (by decide +kernel)) (xtG_in (by decide +kernel)) (by decide +kernel) rfl (xt_recv g hj va_S.rf) (by decide) (by decide) (by decide) ⟨by decide, by decide⟩ hl.1 (Nat.le_of_ble_eq_true rfl) dJ0_indexOf_7cf53_14 ?_
  refine xt_S (As := [.ref (xBy P j), .int x, .int 0, .int (Int32.ofNat (xTxt.getD j []).length)]) (rest := []) (n := 4) hx hb hml hown hts g va_S.rf (xt_indexOf1 hj x) (xtG_in (by decide +kernel)) (xtG_in (by decide +kernel)) (xtG_in (by decide +kernel)) (xtG_in (by decide +kernel)) (by decide +kernel) rfl (by decide) (by decide) (by decide) ⟨by decide, by decide⟩ hl.1 (Nat.le_of_ble_eq_true rfl) dJ0_indexOf_7cf53_17 ?_
  refine lv_goto (tgt := 36) hx hb dJ0_indexOf_7cf53_20 (by decide) ?_
  exact W.iret hx hb hr (fun t ht hW => ⟨rfl, ht⟩) (fun q hq => by cases hq) dJ0_indexOf_7cf53_36
set_option maxHeartbeats 4000000 in
theorem xt_indexOf {j : Nat} (hj : j < xTxt.length) (x : Int32) : Met l yJ0_indexOf_0f7a4 (Jvm.Cond.code yJ0_indexOf_0f7a4 cJ0_indexOf_0f7a4 2 (some .int) :: xGw) (xtRm 3) (xtPre P [.ref (xAd P (xKb + 10 + j)), .int x]) (xtPost (some (.int (xIx (xTxt.getD j []) x)))) 0 0 xtNo := by
  refine Met.ofW (cc := cJ0_indexOf_0f7a4) (maxL := 2) (ret := some .int) (by decide) rfl ?_
  intro p e s m args below meth c s₁ B hml hpre
  obtain ⟨rfl, g⟩ := hpre
  have hx := B.exec
  have hb := B.bytes
  have hr := B.returns
  have hts0 := atoms_spec (ws := Jvm.Cond.code yJ0_indexOf_0f7a4 cJ0_indexOf_0f7a4 2 (some .int) :: xGw) B.pre
  have hts : ∀ w ∈ xGw, w.before ([.ref (xAd P (xKb + 10 + j)), .int x] : List Value).toArray s = true := fun w hw => hts0 w (List.mem_cons_of_mem _ hw)
  have hown : s.vm.findClass RJ0 = some m.cls := findClass_of_methodNamed B.named
  have hlocks := B.notSynchronized
  have hC := g.2.2.2.2.2.2.2.2.2.1
  have hl := lv_entry ([.ref (xAd P (xKb + 10 + j)), .int x] : List Value) (n := 2) (Nat.le_of_ble_eq_true rfl)
  rw [lg_entry_eq]
  generalize (lg_sl ([.ref (xAd P (xKb + 10 + j)), .int x] : List Value) ++ List.replicate (2 - (lg_sl ([.ref (xAd P (xKb + 10 + j)), .int x] : List Value)).length) Slot.unset).toArray = ls at hl ⊢
  have hl : lv_has ls 2 [(0, .ref (xAd P (xKb + 10 + j))), (1, .int x)] := hl
  refine lv_aload_n hx hb dJ0_indexOf_0f7a4_0 rfl (lv_at hl 0 rfl) ?_
  refine lv_iload_n hx hb dJ0_indexOf_0f7a4_1 rfl (lv_at hl 1 rfl) ?_
  refine lv_iconst (v := 0) hx hb dJ0_indexOf_0f7a4_2 (by decide) ?_
  refine xt_V (As := [.int x, .int 0]) (rest := []) (n := 2) hx hb hml hown hts g va_S.rf (xt_indexOf2 hj x) (xtG_in (by decide +kernel)) (xtG_in (by decide +kernel)) (xtG_in (by decide +kernel)) (xtG_in (by decide +kernel)) (xtG_in (by decide +kernel)) (by decide +kernel) rfl (xt_recv g hj va_S.rf) (by decide) (by decide) (by decide) ⟨by decide, by decide⟩ hl.1 (Nat.le_of_ble_eq_true rfl) dJ0_indexOf_0f7a4_3 ?_
  exact W.iret hx hb hr (fun t ht hW => ⟨rfl, ht⟩) (fun q hq => by cases hq) dJ0_indexOf_0f7a4_6
set_option maxHeartbeats 4000000 in
theorem xt_check3 {x n : Int32} {u9 : Value} (hw : u9.category = 1) (h1 : ¬ x < 0) (h2 : x < n) : Met l yJ3_checkIndex_8e157 (Jvm.Cond.code yJ3_checkIndex_8e157 cJ3_checkIndex_8e157 3 (some .int) :: xGw) (xtRm 0) (xtPre P [.int x, .int n, u9]) (xtPost (some (.int x))) 0 0 xtNo := by
  refine Met.ofW (cc := cJ3_checkIndex_8e157) (maxL := 3) (ret := some .int) (by decide) rfl ?_
  intro p e s m args below meth c s₁ B hml hpre
  obtain ⟨rfl, g⟩ := hpre
  have hx := B.exec
  have hb := B.bytes
  have hr := B.returns
  have hts0 := atoms_spec (ws := Jvm.Cond.code yJ3_checkIndex_8e157 cJ3_checkIndex_8e157 3 (some .int) :: xGw) B.pre
  have hts : ∀ w ∈ xGw, w.before ([.int x, .int n, u9] : List Value).toArray s = true := fun w hw => hts0 w (List.mem_cons_of_mem _ hw)
  have hown : s.vm.findClass RJ3 = some m.cls := findClass_of_methodNamed B.named
  have hlocks := B.notSynchronized
  have hC := g.2.2.2.2.2.2.2.2.2.1
  have hsl : (lg_sl ([.int x, .int n, u9] : List Value)).length ≤ 3 := by
    cases u9 <;> first | (cases hw; done) | exact Nat.le_refl _
  have hl := lv_entry ([.int x, .int n, u9] : List Value) (n := 3) hsl
  rw [lg_entry_eq]
  generalize (lg_sl ([.int x, .int n, u9] : List Value) ++ List.replicate (3 - (lg_sl ([.int x, .int n, u9] : List Value)).length) Slot.unset).toArray = ls at hl ⊢
  have hl : lv_has ls 3 [(0, .int x), (1, .int n)] := by
    cases u9 <;> first | (cases hw; done) | exact lv_sub hl [0, 1] rfl
  refine lv_iload_n hx hb dJ3_checkIndex_8e157_0 rfl (lv_at hl 0 rfl) ?_
  refine lv_if_lt (tgt := 9) hx hb dJ3_checkIndex_8e157_1 (by decide) (fun h => absurd h h1) (fun _ => ?_)
  refine lv_iload_n hx hb dJ3_checkIndex_8e157_4 rfl (lv_at hl 0 rfl) ?_
  refine lv_iload_n hx hb dJ3_checkIndex_8e157_5 rfl (lv_at hl 1 rfl) ?_
  refine lv_icmp_lt (tgt := 16) hx hb dJ3_checkIndex_8e157_6 (by decide) (fun _ => ?_) (fun h => absurd h2 h)
  refine lv_iload_n hx hb dJ3_checkIndex_8e157_16 rfl (lv_at hl 0 rfl) ?_
  exact W.iret hx hb hr (fun t ht hW => ⟨rfl, ht⟩) (fun q hq => by cases hq) dJ3_checkIndex_8e157_17
end YD
