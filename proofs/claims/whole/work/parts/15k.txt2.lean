section YB
variable {l : Launch} {P : xP}
set_option maxHeartbeats 4000000 in
theorem xt_coder {j : Nat} (hj : j < xTxt.length) : Met l yJ0_coder_7d493 (Jvm.Cond.code yJ0_coder_7d493 cJ0_coder_7d493 1 (some .byte) :: xGw) (xtRm 0) (xtPre P [.ref (xAd P (xKb + 10 + j))]) (xtPost (some (.int 0))) 0 0 xtNo := by
  refine Met.ofW (cc := cJ0_coder_7d493) (maxL := 1) (ret := some .byte) (by decide) rfl ?_
  intro p e s m args below meth c s₁ B hml hpre
  obtain ⟨rfl, g⟩ := hpre
  have hx := B.exec
  have hb := B.bytes
  have hr := B.returns
  have hts0 := atoms_spec (ws := Jvm.Cond.code yJ0_coder_7d493 cJ0_coder_7d493 1 (some .byte) :: xGw) B.pre
  have hts : ∀ w ∈ xGw, w.before ([.ref (xAd P (xKb + 10 + j))] : List Value).toArray s = true := fun w hw => hts0 w (List.mem_cons_of_mem _ hw)
  have hown : s.vm.findClass RJ0 = some m.cls := findClass_of_methodNamed B.named
  have hlocks := B.notSynchronized
  have hC := g.2.2.2.2.2.2.2.2.2.1
  have hl := lv_entry ([.ref (xAd P (xKb + 10 + j))] : List Value) (n := 1) (Nat.le_of_ble_eq_true rfl)
  rw [lg_entry_eq]
  generalize (lg_sl ([.ref (xAd P (xKb + 10 + j))] : List Value) ++ List.replicate (1 - (lg_sl ([.ref (xAd P (xKb + 10 + j))] : List Value)).length) Slot.unset).toArray = ls at hl ⊢
  have hl : lv_has ls 1 [(0, .ref (xAd P (xKb + 10 + j)))] := hl
  obtain ⟨t1, t2, t3, t4⟩ := g.2.2.2.2.2.2.2.2.1.1 j hj
  refine va_gets hx hb hC va_S.rf hown (hts _ (xtG_in (by decide +kernel))) (fun x h => h) dJ0_coder_7d493_0 ?_
  refine lv_if_eq (tgt := 13) hx hb dJ0_coder_7d493_3 (by decide) (fun h => absurd h (by decide)) (fun _ => ?_)
  refine lv_aload_n hx hb dJ0_coder_7d493_6 rfl (lv_at hl 0 rfl) ?_
  refine vk_getf hx hb t2 va_S.rf hown (hts _ (xtG_in (by decide +kernel))) (fun x h => h) dJ0_coder_7d493_7 ?_
  refine lv_goto (tgt := 14) hx hb dJ0_coder_7d493_10 (by decide) ?_
  exact W.zret hx hb hr (by decide) (fun t ht hW => ⟨rfl, ht⟩) (fun q hq => by cases hq) dJ0_coder_7d493_14
set_option maxHeartbeats 4000000 in
theorem xt_isLatin1 {j : Nat} (hj : j < xTxt.length) : Met l yJ0_isLatin1_aae02 (Jvm.Cond.code yJ0_isLatin1_aae02 cJ0_isLatin1_aae02 1 (some .boolean) :: xGw) (xtRm 0) (xtPre P [.ref (xAd P (xKb + 10 + j))]) (xtPost (some (.int 1))) 0 0 xtNo := by
  refine Met.ofW (cc := cJ0_isLatin1_aae02) (maxL := 1) (ret := some .boolean) (by decide) rfl ?_
  intro p e s m args below meth c s₁ B hml hpre
  obtain ⟨rfl, g⟩ := hpre
  have hx := B.exec
  have hb := B.bytes
  have hr := B.returns
  have hts0 := atoms_spec (ws := Jvm.Cond.code yJ0_isLatin1_aae02 cJ0_isLatin1_aae02 1 (some .boolean) :: xGw) B.pre
  have hts : ∀ w ∈ xGw, w.before ([.ref (xAd P (xKb + 10 + j))] : List Value).toArray s = true := fun w hw => hts0 w (List.mem_cons_of_mem _ hw)
  have hown : s.vm.findClass RJ0 = some m.cls := findClass_of_methodNamed B.named
  have hlocks := B.notSynchronized
  have hC := g.2.2.2.2.2.2.2.2.2.1
  have hl := lv_entry ([.ref (xAd P (xKb + 10 + j))] : List Value) (n := 1) (Nat.le_of_ble_eq_true rfl)
  rw [lg_entry_eq]
  generalize (lg_sl ([.ref (xAd P (xKb + 10 + j))] : List Value) ++ List.replicate (1 - (lg_sl ([.ref (xAd P (xKb + 10 + j))] : List Value)).length) Slot.unset).toArray = ls at hl ⊢
  have hl : lv_has ls 1 [(0, .ref (xAd P (xKb + 10 + j)))] := hl
  obtain ⟨t1, t2, t3, t4⟩ := g.2.2.2.2.2.2.2.2.1.1 j hj
  refine va_gets hx hb hC va_S.rf hown (hts _ (xtG_in (by decide +kernel))) (fun x h => h) dJ0_isLatin1_aae02_0 ?_
  refine lv_if_eq (tgt := 17) hx hb dJ0_isLatin1_aae02_3 (by decide) (fun h => absurd h (by decide)) (fun _ => ?_)
  refine lv_aload_n hx hb dJ0_isLatin1_aae02_6 rfl (lv_at hl 0 rfl) ?_
  refine vk_getf hx hb t2 va_S.rf hown (hts _ (xtG_in (by decide +kernel))) (fun x h => h) dJ0_isLatin1_aae02_7 ?_
  refine lv_if_ne (tgt := 17) hx hb dJ0_isLatin1_aae02_10 (by decide) (fun h => absurd rfl h) (fun _ => ?_)
  refine lv_iconst (v := 1) hx hb dJ0_isLatin1_aae02_13 (by decide) ?_
  refine lv_goto (tgt := 18) hx hb dJ0_isLatin1_aae02_14 (by decide) ?_
  exact W.zret hx hb hr (by decide) (fun t ht hW => ⟨rfl, ht⟩) (fun q hq => by cases hq) dJ0_isLatin1_aae02_18
theorem xt_recv {s : State} (g : xGl P s) {j : Nat} (hj : j < xTxt.length) {H : Heap} {locs : List Loc} (hS : va_S (xAA P) s.heap H locs) : ∃ cell : Cell, H[xAd P (xKb + 10 + j)]? = some cell ∧ cell.vm.isStatics = false ∧ s.vm.findClass "java/lang/String" = some cell.cls := vk_recv (adK := fun j => xAd P (xKb + 10 + j)) (i := j) g.2.2.2.2.2.2.2.2.1 hj hS
theorem xt_len (j : Nat) : (xTxt.map List.length).getD j 0 = (xTxt.getD j []).length := by
  simp only [List.getD_eq_getElem?_getD, List.getElem?_map]
  cases xTxt[j]? <;> rfl
theorem xt_shr (n : Nat) (hn : n < 2 ^ 31) : Int32.ofNat n >>> ((0 : Int32) &&& 31) = Int32.ofNat n := by
  rw [show ((0 : Int32) &&& 31) = 0 by decide]
  exact Int32.shiftRight_zero
theorem xt_small : (xTxt.all fun t => decide (t.length < 100)) = true := by decide +kernel
theorem xt_lt (j : Nat) : (xTxt.getD j []).length < 100 := by
  simp only [List.getD_eq_getElem?_getD]
  cases h : xTxt[j]? with
  | none => simp
  | some t => exact of_decide_eq_true (List.all_eq_true.mp xt_small t (List.mem_of_getElem? h))
set_option maxHeartbeats 4000000 in
theorem xt_length {j : Nat} (hj : j < xTxt.length) : Met l yJ0_length_8abf5 (Jvm.Cond.code yJ0_length_8abf5 cJ0_length_8abf5 1 (some .int) :: xGw) (xtRm 1) (xtPre P [.ref (xAd P (xKb + 10 + j))]) (xtPost (some (.int (Int32.ofNat (xTxt.getD j []).length)))) 0 0 xtNo := by
  refine Met.ofW (cc := cJ0_length_8abf5) (maxL := 1) (ret := some .int) (by decide) rfl ?_
  intro p e s m args below meth c s₁ B hml hpre
  obtain ⟨rfl, g⟩ := hpre
  have hx := B.exec
  have hb := B.bytes
  have hr := B.returns
  have hts0 := atoms_spec (ws := Jvm.Cond.code yJ0_length_8abf5 cJ0_length_8abf5 1 (some .int) :: xGw) B.pre
  have hts : ∀ w ∈ xGw, w.before ([.ref (xAd P (xKb + 10 + j))] : List Value).toArray s = true := fun w hw => hts0 w (List.mem_cons_of_mem _ hw)
  have hown : s.vm.findClass RJ0 = some m.cls := findClass_of_methodNamed B.named
  have hlocks := B.notSynchronized
  have hC := g.2.2.2.2.2.2.2.2.2.1
  have hl := lv_entry ([.ref (xAd P (xKb + 10 + j))] : List Value) (n := 1) (Nat.le_of_ble_eq_true rfl)
  rw [lg_entry_eq]
  generalize (lg_sl ([.ref (xAd P (xKb + 10 + j))] : List Value) ++ List.replicate (1 - (lg_sl ([.ref (xAd P (xKb + 10 + j))] : List Value)).length) Slot.unset).toArray = ls at hl ⊢
  have hl : lv_has ls 1 [(0, .ref (xAd P (xKb + 10 + j)))] := hl
  obtain ⟨t1, t2, t3, t4⟩ := g.2.2.2.2.2.2.2.2.1.1 j hj
  refine lv_aload_n hx hb dJ0_length_8abf5_0 rfl (lv_at hl 0 rfl) ?_
  refine vk_getf hx hb t3 va_S.rf hown (hts _ (xtG_in (by decide +kernel))) (fun x h => h) dJ0_length_8abf5_1 ?_
  refine va_tlen hx hb t4 va_S.rf (v := Int32.ofNat (xTxt.getD j []).length) (by rw [xt_len]) dJ0_length_8abf5_4 ?_
  refine lv_aload_n hx hb dJ0_length_8abf5_5 rfl (lv_at hl 0 rfl) ?_
  refine xt_V (As := []) (rest := [.int (Int32.ofNat (xTxt.getD j []).length)]) (n := 0) hx hb hml hown hts g va_S.rf (xt_coder hj) (xtG_in (by decide +kernel)) (xtG_in (by decide +kernel)) (xtG_in (by decide +kernel)) (xtG_in (by decide +kernel)) (xtG_in (by decide +kernel)) (by decide +kernel) rfl (xt_recv g hj va_S.rf) (by decide) (by decide) (by decide) ⟨by decide, by decide⟩ hl.1 (Nat.le_of_ble_eq_true rfl) dJ0_length_8abf5_6 ?_
  refine lv_ishr hx hb dJ0_length_8abf5_9 ?_
  rw [xt_shr _ (by have := xt_lt j; omega)]
  exact W.iret hx hb hr (fun t ht hW => ⟨rfl, ht⟩) (fun q hq => by cases hq) dJ0_length_8abf5_10
set_option maxHeartbeats 4000000 in
theorem xt_canEncode (x : Int32) : Met l yJ1_canEncode_9a6ad (Jvm.Cond.code yJ1_canEncode_9a6ad cJ1_canEncode_9a6ad 1 (some .boolean) :: xGw) (xtRm 0) (xtPre P [.int x]) (xtPost (some (.int (if x < 0 ∨ 255 < x then 0 else 1)))) 0 0 xtNo := by
  refine Met.ofW (cc := cJ1_canEncode_9a6ad) (maxL := 1) (ret := some .boolean) (by decide) rfl ?_
  intro p e s m args below meth c s₁ B hml hpre
  obtain ⟨rfl, g⟩ := hpre
  have hx := B.exec
  have hb := B.bytes
  have hr := B.returns
  have hts0 := atoms_spec (ws := Jvm.Cond.code yJ1_canEncode_9a6ad cJ1_canEncode_9a6ad 1 (some .boolean) :: xGw) B.pre
  have hts : ∀ w ∈ xGw, w.before ([.int x] : List Value).toArray s = true := fun w hw => hts0 w (List.mem_cons_of_mem _ hw)
  have hown : s.vm.findClass RJ1 = some m.cls := findClass_of_methodNamed B.named
  have hlocks := B.notSynchronized
  have hC := g.2.2.2.2.2.2.2.2.2.1
  have hl := lv_entry ([.int x] : List Value) (n := 1) (Nat.le_of_ble_eq_true rfl)
  rw [lg_entry_eq]
  generalize (lg_sl ([.int x] : List Value) ++ List.replicate (1 - (lg_sl ([.int x] : List Value)).length) Slot.unset).toArray = ls at hl ⊢
  have hl : lv_has ls 1 [(0, .int x)] := hl
  refine lv_iload_n hx hb dJ1_canEncode_9a6ad_0 rfl (lv_at hl 0 rfl) ?_
  refine lv_if_lt (tgt := 15) hx hb dJ1_canEncode_9a6ad_1 (by decide) (fun h => ?_) (fun h => ?_)
  · refine lv_iconst (v := 0) hx hb dJ1_canEncode_9a6ad_15 (by decide) ?_
    rw [if_pos (Or.inl h)]
    exact W.zret hx hb hr (by decide) (fun t ht hW => ⟨rfl, ht⟩) (fun q hq => by cases hq) dJ1_canEncode_9a6ad_16
  refine lv_iload_n hx hb dJ1_canEncode_9a6ad_4 rfl (lv_at hl 0 rfl) ?_
  refine lv_sipush (v := 255) hx hb dJ1_canEncode_9a6ad_5 (by decide) ?_
  refine lv_icmp_gt (tgt := 15) hx hb dJ1_canEncode_9a6ad_8 (by decide) (fun h2 => ?_) (fun h2 => ?_)
  · refine lv_iconst (v := 0) hx hb dJ1_canEncode_9a6ad_15 (by decide) ?_
    rw [if_pos (Or.inr h2)]
    exact W.zret hx hb hr (by decide) (fun t ht hW => ⟨rfl, ht⟩) (fun q hq => by cases hq) dJ1_canEncode_9a6ad_16
  · refine lv_iconst (v := 1) hx hb dJ1_canEncode_9a6ad_11 (by decide) ?_
    refine lv_goto (tgt := 16) hx hb dJ1_canEncode_9a6ad_12 (by decide) ?_
    rw [if_neg (fun z => z.elim h h2)]
    exact W.zret hx hb hr (by decide) (fun t ht hW => ⟨rfl, ht⟩) (fun q hq => by cases hq) dJ1_canEncode_9a6ad_16
end YB
