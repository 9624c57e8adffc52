section YE
variable {l : Launch} {P : xP}
theorem xOld.zq {P : xP} {U : State} (g : xOld P U) {O f d : String} (hw : Jvm.Cond.laysStatic O f d ∈ lw_tbl) (hi : Jvm.Cond.initialized O ∈ lw_tbl) (hn : ∀ (A : Array Value) (s0 : State), (Jvm.Cond.and given_1 narrow_1).before A s0 = true → (Jvm.Cond.isRef (.static O f d)).before A s0 = true) : va_Zq O f d (xAA P) U U.heap := by
  obtain ⟨s0, a0, hW, hh, hts, hgv⟩ := g
  exact ((va_Zqof (hts _ hw) (hts _ hi) (hn a0 s0 hgv) (fun a ha => (hh a ha).1)).moved hW.alike).kept (fun a ha _ => (hh a ha).2)
theorem xt_r3 (A : Array Value) (s0 : State) (h : (Jvm.Cond.and given_1 narrow_1).before A s0 = true) : (Jvm.Cond.isRef (.static "jdk/internal/util/Preconditions" "SIOOBE_FORMATTER" "Ljava/util/function/BiFunction;")).before A s0 = true := flat_of_before _ h _ (by decide +kernel)
theorem xt_zq {P : xP} {U : State} (g : xGl P U) : va_Zq "jdk/internal/util/Preconditions" "SIOOBE_FORMATTER" "Ljava/util/function/BiFunction;" (xAA P) U U.heap := g.2.2.2.2.2.2.2.2.2.2.zq (xq_tb (k := 2) (by decide +kernel)) (xq_tb (k := 1) (by decide +kernel)) xt_r3
theorem xt_chars : (xTxt.all fun t => t.all fun b => decide (((b &&& 255).toUInt32 % 65536).toInt32 = b) && decide (narrow .char (.int b) = .int b)) = true := by decide +kernel
theorem xt_char {j : Nat} {b : Int32} (h : b ∈ xTxt.getD j []) : ((b &&& 255).toUInt32 % 65536).toInt32 = b ∧ narrow .char (.int b) = .int b := by
  have ht : xTxt.getD j [] ∈ xTxt := by
    simp only [List.getD_eq_getElem?_getD] at h ⊢
    cases hj : xTxt[j]? with
    | none => rw [hj] at h; simp at h
    | some t => exact List.mem_of_getElem? hj
  have h1 := List.all_eq_true.mp (List.all_eq_true.mp xt_chars _ ht) b h
  simp only [Bool.and_eq_true, decide_eq_true_eq] at h1
  exact h1
set_option maxHeartbeats 4000000 in
theorem xt_check2 {x n : Int32} (h1 : ¬ x < 0) (h2 : x < n) : Met l yJ0_checkIndex_df160 (Jvm.Cond.code yJ0_checkIndex_df160 cJ0_checkIndex_df160 2 none :: xGw) (xtRm 1) (xtPre P [.int x, .int n]) (xtPost none) 0 0 xtNo := by
  refine Met.ofW (cc := cJ0_checkIndex_df160) (maxL := 2) (ret := none) (by decide) rfl ?_
  intro p e s m args below meth c s₁ B hml hpre
  obtain ⟨rfl, g⟩ := hpre
  have hx := B.exec
  have hb := B.bytes
  have hr := B.returns
  have hts0 := atoms_spec (ws := Jvm.Cond.code yJ0_checkIndex_df160 cJ0_checkIndex_df160 2 none :: xGw) B.pre
  have hts : ∀ w ∈ xGw, w.before ([.int x, .int n] : List Value).toArray s = true := fun w hw => hts0 w (List.mem_cons_of_mem _ hw)
  have hown : s.vm.findClass RJ0 = some m.cls := findClass_of_methodNamed B.named
  have hlocks := B.notSynchronized
  have hC := g.2.2.2.2.2.2.2.2.2.1
  have hl := lv_entry ([.int x, .int n] : List Value) (n := 2) (Nat.le_of_ble_eq_true rfl)
  rw [lg_entry_eq]
  generalize (lg_sl ([.int x, .int n] : List Value) ++ List.replicate (2 - (lg_sl ([.int x, .int n] : List Value)).length) Slot.unset).toArray = ls at hl ⊢
  have hl : lv_has ls 2 [(0, .int x), (1, .int n)] := hl
  have go : ∀ u9 : Value, u9.category = 1 → W p l e (headSpec (Jvm.Cond.code yJ0_checkIndex_df160 cJ0_checkIndex_df160 2 none :: xGw) (xtRm 1)).room s m ([.int x, .int n] : List Value).toArray below meth c s.heap [] 0 0 (MQ below (xtPost none) ([.int x, .int n] : List Value).toArray s 0 0 xtNo) (F0 m 5 ls [u9, .int n, .int x]) := by
    intro u9 hu
    refine xt_S (As := [.int x, .int n, u9]) (rest := []) (n := 3) hx hb hml hown hts g va_S.rf (xt_check3 hu h1 h2) (xtG_in (by decide +kernel)) (xtG_in (by decide +kernel)) (xtG_in (by decide +kernel)) (xtG_in (by decide +kernel)) (by decide +kernel) rfl (by decide) (by decide) (by decide) ⟨by decide, by decide⟩ hl.1 (Nat.le_of_ble_eq_true rfl) dJ0_checkIndex_df160_5 ?_
    refine lv_pop hx hb dJ0_checkIndex_df160_8 rfl ?_
    exact W.vret hx hb hr (fun t ht hW => ⟨rfl, ht⟩) (fun q hq => by cases hq) dJ0_checkIndex_df160_9
  refine lv_iload_n hx hb dJ0_checkIndex_df160_0 rfl (lv_at hl 0 rfl) ?_
  refine lv_iload_n hx hb dJ0_checkIndex_df160_1 rfl (lv_at hl 1 rfl) ?_
  rcases xt_zq g with hz | ⟨t, hz⟩
  · exact va_gets hx hb hz va_S.rf hown (hts _ (xtG_in (by decide +kernel))) (fun x h => h) dJ0_checkIndex_df160_2 (go _ rfl)
  · exact va_gets hx hb hz va_S.rf hown (hts _ (xtG_in (by decide +kernel))) (fun x h => h) dJ0_checkIndex_df160_2 (go _ rfl)
set_option maxHeartbeats 4000000 in
theorem xt_charAt1 {j : Nat} (hj : j < xTxt.length) {i : Int32} (h1 : ¬ i < 0) (h2 : i.toNatClampNeg < (xTxt.getD j []).length) : Met l yJ1_charAt_3b067 (Jvm.Cond.code yJ1_charAt_3b067 cJ1_charAt_3b067 2 (some .char) :: xGw) (xtRm 2) (xtPre P [.ref (xBy P j), .int i]) (xtPost (some (.int ((xTxt.getD j []).getD i.toNatClampNeg 0)))) 0 0 xtNo := by
  refine Met.ofW (cc := cJ1_charAt_3b067) (maxL := 2) (ret := some .char) (by decide) rfl ?_
  intro p e s m args below meth c s₁ B hml hpre
  obtain ⟨rfl, g⟩ := hpre
  have hx := B.exec
  have hb := B.bytes
  have hr := B.returns
  have hts0 := atoms_spec (ws := Jvm.Cond.code yJ1_charAt_3b067 cJ1_charAt_3b067 2 (some .char) :: xGw) B.pre
  have hts : ∀ w ∈ xGw, w.before ([.ref (xBy P j), .int i] : List Value).toArray s = true := fun w hw => hts0 w (List.mem_cons_of_mem _ hw)
  have hown : s.vm.findClass RJ1 = some m.cls := findClass_of_methodNamed B.named
  have hlocks := B.notSynchronized
  have hC := g.2.2.2.2.2.2.2.2.2.1
  have hl := lv_entry ([.ref (xBy P j), .int i] : List Value) (n := 2) (Nat.le_of_ble_eq_true rfl)
  rw [lg_entry_eq]
  generalize (lg_sl ([.ref (xBy P j), .int i] : List Value) ++ List.replicate (2 - (lg_sl ([.ref (xBy P j), .int i] : List Value)).length) Slot.unset).toArray = ls at hl ⊢
  have hl : lv_has ls 2 [(0, .ref (xBy P j)), (1, .int i)] := hl
  obtain ⟨t1, t2, t3, t4⟩ := g.2.2.2.2.2.2.2.2.1.1 j hj
  have hlt := xt_lt j
  obtain ⟨q, hq, rfl⟩ := nI_of h1
  rw [nI_clamp hq] at h2 ⊢
  obtain ⟨c1, c2⟩ := xt_char (xt_mem (t := xTxt.getD j []) (k := q) h2)
  refine lv_iload_n hx hb dJ1_charAt_3b067_0 rfl (lv_at hl 1 rfl) ?_
  refine lv_aload_n hx hb dJ1_charAt_3b067_1 rfl (lv_at hl 0 rfl) ?_
  refine va_tlen hx hb t4 va_S.rf (v := Int32.ofNat (xTxt.getD j []).length) (by rw [xt_len]) dJ1_charAt_3b067_2 ?_
  refine xt_S (As := [.int (nI q), .int (Int32.ofNat (xTxt.getD j []).length)]) (rest := []) (n := 2) hx hb hml hown hts g va_S.rf (xt_check2 h1 (nI_lt (a := q) (b := (xTxt.getD j []).length) h2 (by omega))) (xtG_in (by decide +kernel)) (xtG_in (by decide +kernel)) (xtG_in (by decide +kernel)) (xtG_in (by decide +kernel)) (by decide +kernel) rfl (by decide) (by decide) (by decide) ⟨by decide, by decide⟩ hl.1 (Nat.le_of_ble_eq_true rfl) dJ1_charAt_3b067_3 ?_
  refine lv_aload_n hx hb dJ1_charAt_3b067_6 rfl (lv_at hl 0 rfl) ?_
  refine lv_iload_n hx hb dJ1_charAt_3b067_7 rfl (lv_at hl 1 rfl) ?_
  refine va_tb hx hb t4 va_S.rf (vp_in_nI (n := q) (by rw [xt_len]; omega) (by rw [xt_len]; omega)) (v := .int ((xTxt.getD j []).getD q 0)) (by rw [nI_clamp hq]) dJ1_charAt_3b067_8 ?_
  refine lv_sipush (v := 255) hx hb dJ1_charAt_3b067_9 (by decide) ?_
  refine lv_iand hx hb dJ1_charAt_3b067_12 ?_
  refine lv_i2c hx hb dJ1_charAt_3b067_13 c1 ?_
  exact W.zret hx hb hr c2 (fun t ht hW => ⟨rfl, ht⟩) (fun q hq => by cases hq) dJ1_charAt_3b067_14
set_option maxHeartbeats 4000000 in
theorem xt_charAt {j : Nat} (hj : j < xTxt.length) {i : Int32} (h1 : ¬ i < 0) (h2 : i.toNatClampNeg < (xTxt.getD j []).length) : Met l yJ0_charAt_5068e (Jvm.Cond.code yJ0_charAt_5068e cJ0_charAt_5068e 2 (some .char) :: xGw) (xtRm 3) (xtPre P [.ref (xAd P (xKb + 10 + j)), .int i]) (xtPost (some (.int ((xTxt.getD j []).getD i.toNatClampNeg 0)))) 0 0 xtNo := by
  refine Met.ofW (cc := cJ0_charAt_5068e) (maxL := 2) (ret := some .char) (by decide) rfl ?_
  intro p e s m args below meth c s₁ B hml hpre
  obtain ⟨rfl, g⟩ := hpre
  have hx := B.exec
  have hb := B.bytes
  have hr := B.returns
  have hts0 := atoms_spec (ws := Jvm.Cond.code yJ0_charAt_5068e cJ0_charAt_5068e 2 (some .char) :: xGw) B.pre
  have hts : ∀ w ∈ xGw, w.before ([.ref (xAd P (xKb + 10 + j)), .int i] : List Value).toArray s = true := fun w hw => hts0 w (List.mem_cons_of_mem _ hw)
  have hown : s.vm.findClass RJ0 = some m.cls := findClass_of_methodNamed B.named
  have hlocks := B.notSynchronized
  have hC := g.2.2.2.2.2.2.2.2.2.1
  have hl := lv_entry ([.ref (xAd P (xKb + 10 + j)), .int i] : List Value) (n := 2) (Nat.le_of_ble_eq_true rfl)
  rw [lg_entry_eq]
  generalize (lg_sl ([.ref (xAd P (xKb + 10 + j)), .int i] : List Value) ++ List.replicate (2 - (lg_sl ([.ref (xAd P (xKb + 10 + j)), .int i] : List Value)).length) Slot.unset).toArray = ls at hl ⊢
  have hl : lv_has ls 2 [(0, .ref (xAd P (xKb + 10 + j))), (1, .int i)] := hl
  obtain ⟨t1, t2, t3, t4⟩ := g.2.2.2.2.2.2.2.2.1.1 j hj
  obtain ⟨c1, c2⟩ := xt_char (xt_mem (t := xTxt.getD j []) (k := i.toNatClampNeg) h2)
  refine lv_aload_n hx hb dJ0_charAt_5068e_0 rfl (lv_at hl 0 rfl) ?_
  refine xt_V (As := []) (rest := []) (n := 0) hx hb hml hown hts g va_S.rf (xt_isLatin1 hj) (xtG_in (by decide +kernel)) (xtG_in (by decide +kernel)) (xtG_in (by decide +kernel)) (xtG_in (by decide +kernel)) (xtG_in (by decide +kernel)) (by decide +kernel) rfl (xt_recv g hj va_S.rf) (by decide) (by decide) (by decide) ⟨by decide, by decide⟩ hl.1 (Nat.le_of_ble_eq_true rfl) dJ0_charAt_5068e_1 ?_
  refine lv_if_eq (tgt := 16) hx hb dJ0_charAt_5068e_4 (by decide) (fun h => absurd h (by decide)) (fun _ => ?_)
  refine lv_aload_n hx hb dJ0_charAt_5068e_7 rfl (lv_at hl 0 rfl) ?_
  refine vk_getf hx hb t3 va_S.rf hown (hts _ (xtG_in (by decide +kernel))) (fun x h => h) dJ0_charAt_5068e_8 ?_
  refine lv_iload_n hx hb dJ0_charAt_5068e_11 rfl (lv_at hl 1 rfl) ?_
  refine xt_S (As := [.ref (xBy P j), .int i]) (rest := []) (n := 2) hx hb hml hown hts g va_S.rf (xt_charAt1 hj h1 h2) (xtG_in (by decide +kernel)) (xtG_in (by decide +kernel)) (xtG_in (by decide +kernel)) (xtG_in (by decide +kernel)) (by decide +kernel) rfl (by decide) (by decide) (by decide) ⟨by decide, by decide⟩ hl.1 (Nat.le_of_ble_eq_true rfl) dJ0_charAt_5068e_12 ?_
  exact W.zret hx hb hr c2 (fun t ht hW => ⟨rfl, ht⟩) (fun q hq => by cases hq) dJ0_charAt_5068e_15
end YE
