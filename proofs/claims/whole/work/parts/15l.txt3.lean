section YC
variable {l : Launch} {P : xP}
def xtB (n : Nat) (b : Int32) : Bool := decide (b = (Int32.ofNat n).toInt8.toInt32) == decide (b = Int32.ofNat n)
theorem xt_bytes : (xTxt.all fun t => t.all fun b => decide (0 ≤ b) && decide (b ≤ 127) && (List.range 256).all (fun n => xtB n b)) = true := by decide +kernel
theorem xt_byte {j : Nat} {b : Int32} (h : b ∈ xTxt.getD j []) : (¬ b < 0 ∧ ¬ 255 < b) ∧ ∀ n, n < 256 → (b = (Int32.ofNat n).toInt8.toInt32 ↔ b = Int32.ofNat n) := by
  have ht : xTxt.getD j [] ∈ xTxt := by
    simp only [List.getD_eq_getElem?_getD] at h ⊢
    cases hj : xTxt[j]? with
    | none => rw [hj] at h; simp at h
    | some t => exact List.mem_of_getElem? hj
  have h1 := List.all_eq_true.mp (List.all_eq_true.mp xt_bytes _ ht) b h
  simp only [Bool.and_eq_true, decide_eq_true_eq] at h1
  refine ⟨⟨Int32.not_lt.mpr h1.1.1, Int32.not_lt.mpr (Int32.le_trans h1.1.2 (by decide))⟩, fun n hn => ?_⟩
  have h2 := List.all_eq_true.mp h1.2 n (List.mem_range.mpr hn)
  simp only [xtB, beq_iff_eq, decide_eq_decide] at h2
  exact h2
theorem xt_ixOut {j : Nat} {x : Int32} (h : x < 0 ∨ 255 < x) : xIx (xTxt.getD j []) x = -1 := by
  unfold xIx
  have hn : (xTxt.getD j []).findIdx? (fun y => y == x) = none := by
    rw [List.findIdx?_eq_none_iff]
    intro b hb
    have h1 := (xt_byte hb).1
    simp only [beq_eq_false_iff_ne, ne_eq]
    rintro rfl
    rcases h with h | h
    · exact h1.1 h
    · exact h1.2 h
  rw [hn]
theorem xt_ixAt {t : List Int32} {x : Int32} {i : Nat} (h0 : ∀ k, k < i → t.getD k 0 ≠ x) (hi : i < t.length) (hx : t.getD i 0 = x) : xIx t x = Int32.ofNat i := by
  unfold xIx
  have : t.findIdx? (fun y => y == x) = some i := by
    rw [List.findIdx?_eq_some_iff_getElem]
    refine ⟨hi, ?_, fun k hk => ?_⟩
    · rw [List.getD_eq_getElem?_getD, List.getElem?_eq_getElem hi] at hx
      simpa using hx
    · have := h0 k hk
      rw [List.getD_eq_getElem?_getD, List.getElem?_eq_getElem (Nat.lt_trans hk hi)] at this
      simpa using this
  rw [this]
theorem xt_ixNo {t : List Int32} {x : Int32} (h0 : ∀ k, k < t.length → t.getD k 0 ≠ x) : xIx t x = -1 := by
  unfold xIx
  have : t.findIdx? (fun y => y == x) = none := by
    rw [List.findIdx?_eq_none_iff]
    intro b hb
    obtain ⟨k, hk, rfl⟩ := List.mem_iff_getElem.mp hb
    have := h0 k hk
    rw [List.getD_eq_getElem?_getD, List.getElem?_eq_getElem hk] at this
    simpa using this
  rw [this]
theorem xt_mem {t : List Int32} {k : Nat} (hk : k < t.length) : t.getD k 0 ∈ t := by
  rw [List.getD_eq_getElem?_getD, List.getElem?_eq_getElem hk]
  exact List.getElem_mem hk
set_option maxHeartbeats 4000000 in
theorem xt_indexOfChar {j : Nat} (hj : j < xTxt.length) {x : Int32} (hx0 : ¬ (x < 0 ∨ 255 < x)) : Met l yJ1_indexOfChar_4cfef (Jvm.Cond.code yJ1_indexOfChar_4cfef cJ1_indexOfChar_4cfef 6 (some .int) :: xGw) (xtRm 0) (xtPre P [.ref (xBy P j), .int x, .int 0, .int (Int32.ofNat (xTxt.getD j []).length)]) (xtPost (some (.int (xIx (xTxt.getD j []) x)))) 0 0 xtNo := by
  refine Met.ofW (cc := cJ1_indexOfChar_4cfef) (maxL := 6) (ret := some .int) (by decide) rfl ?_
  intro p e s m args below meth c s₁ B hml hpre
  obtain ⟨rfl, g⟩ := hpre
  have hx := B.exec
  have hb := B.bytes
  have hr := B.returns
  have hts0 := atoms_spec (ws := Jvm.Cond.code yJ1_indexOfChar_4cfef cJ1_indexOfChar_4cfef 6 (some .int) :: xGw) B.pre
  have hts : ∀ w ∈ xGw, w.before ([.ref (xBy P j), .int x, .int 0, .int (Int32.ofNat (xTxt.getD j []).length)] : List Value).toArray s = true := fun w hw => hts0 w (List.mem_cons_of_mem _ hw)
  have hown : s.vm.findClass RJ1 = some m.cls := findClass_of_methodNamed B.named
  have hlocks := B.notSynchronized
  have hC := g.2.2.2.2.2.2.2.2.2.1
  have hl := lv_entry ([.ref (xBy P j), .int x, .int 0, .int (Int32.ofNat (xTxt.getD j []).length)] : List Value) (n := 6) (Nat.le_of_ble_eq_true rfl)
  rw [lg_entry_eq]
  generalize (lg_sl ([.ref (xBy P j), .int x, .int 0, .int (Int32.ofNat (xTxt.getD j []).length)] : List Value) ++ List.replicate (6 - (lg_sl ([.ref (xBy P j), .int x, .int 0, .int (Int32.ofNat (xTxt.getD j []).length)] : List Value)).length) Slot.unset).toArray = ls at hl ⊢
  have hl : lv_has ls 6 [(0, .ref (xBy P j)), (1, .int x), (2, .int 0), (3, .int (Int32.ofNat (xTxt.getD j []).length))] := hl
  obtain ⟨t1, t2, t3, t4⟩ := g.2.2.2.2.2.2.2.2.1.1 j hj
  obtain ⟨nx, hnx, ex⟩ : ∃ n, n < 256 ∧ x = Int32.ofNat n := by
    obtain ⟨q, hq, e⟩ := nI_of (x := x) (fun z => hx0 (Or.inl z))
    refine ⟨q, ?_, e⟩
    rcases Nat.lt_or_ge q 256 with z | z
    · exact z
    · exact absurd (Or.inr (by rw [e]; exact nI_lt (a := 255) (b := q) (by omega) hq)) hx0
  have hlt := xt_lt j
  refine lv_iload_n hx hb dJ1_indexOfChar_4cfef_0 rfl (lv_at hl 1 rfl) ?_
  refine lv_i2b hx hb dJ1_indexOfChar_4cfef_1 rfl ?_
  refine lv_istore (lv' := [(4, .int x.toInt8.toInt32), (0, .ref (xBy P j)), (1, .int x), (2, .int 0), (3, .int (Int32.ofNat (xTxt.getD j []).length))]) hx hb dJ1_indexOfChar_4cfef_2 hl (by decide) rfl (fun ls hl => ?_)
  refine lv_iload_n hx hb dJ1_indexOfChar_4cfef_4 rfl (lv_at hl 3 rfl) ?_
  refine lv_istore (lv' := [(5, .int (nI 0)), (4, .int x.toInt8.toInt32), (0, .ref (xBy P j)), (1, .int x), (2, .int 0), (3, .int (Int32.ofNat (xTxt.getD j []).length))]) hx hb dJ1_indexOfChar_4cfef_5 hl (by decide) rfl (fun ls hl => ?_)
  have loop : ∀ (q i : Nat), i + q = (xTxt.getD j []).length → (∀ k, k < i → (xTxt.getD j []).getD k 0 ≠ x) → ∀ ls : Array Slot, lv_has ls 6 [(5, .int (nI i)), (4, .int x.toInt8.toInt32), (0, .ref (xBy P j)), (1, .int x), (2, .int 0), (3, .int (Int32.ofNat (xTxt.getD j []).length))] →
      W p l e (headSpec (Jvm.Cond.code yJ1_indexOfChar_4cfef cJ1_indexOfChar_4cfef 6 (some .int) :: xGw) (xtRm 0)).room s m ([.ref (xBy P j), .int x, .int 0, .int (Int32.ofNat (xTxt.getD j []).length)] : List Value).toArray below meth c s.heap [] 0 0 (MQ below (xtPost (some (.int (xIx (xTxt.getD j []) x)))) ([.ref (xBy P j), .int x, .int 0, .int (Int32.ofNat (xTxt.getD j []).length)] : List Value).toArray s 0 0 xtNo) (F0 m 7 ls []) := by
    intro q
    induction q with
    | zero =>
      intro i hi h0 ls hl
      refine lv_iload hx hb dJ1_indexOfChar_4cfef_7 (lv_at hl 0 rfl) ?_
      refine lv_iload_n hx hb dJ1_indexOfChar_4cfef_9 rfl (lv_at hl 5 rfl) ?_
      refine lv_icmp_ge (tgt := 31) hx hb dJ1_indexOfChar_4cfef_10 (by decide) (fun _ => ?_) (fun h => ?_)
      · refine lv_iconst (v := -1) hx hb dJ1_indexOfChar_4cfef_31 (by decide) ?_
        rw [xt_ixNo (fun k hk => h0 k (by omega))]
        exact W.iret hx hb hr (fun t ht hW => ⟨rfl, ht⟩) (fun q hq => by cases hq) dJ1_indexOfChar_4cfef_32
      · exact absurd (nI_le (a := (xTxt.getD j []).length) (b := i) (by omega) (by omega)) h
    | succ q ih =>
      intro i hi h0 ls hl
      refine lv_iload hx hb dJ1_indexOfChar_4cfef_7 (lv_at hl 0 rfl) ?_
      refine lv_iload_n hx hb dJ1_indexOfChar_4cfef_9 rfl (lv_at hl 5 rfl) ?_
      refine lv_icmp_ge (tgt := 31) hx hb dJ1_indexOfChar_4cfef_10 (by decide) (fun h => ?_) (fun _ => ?_)
      · exact absurd h (nI_ge (a := i) (b := (xTxt.getD j []).length) (by omega) (by omega))
      refine lv_aload_n hx hb dJ1_indexOfChar_4cfef_13 rfl (lv_at hl 2 rfl) ?_
      refine lv_iload hx hb dJ1_indexOfChar_4cfef_14 (lv_at hl 0 rfl) ?_
      refine va_tb hx hb t4 va_S.rf (vp_in_nI (n := i) (by rw [xt_len]; omega) (by rw [xt_len]; omega)) (v := .int ((xTxt.getD j []).getD i 0)) (by rw [nI_clamp (by omega)]) dJ1_indexOfChar_4cfef_16 ?_
      refine lv_iload hx hb dJ1_indexOfChar_4cfef_17 (lv_at hl 1 rfl) ?_
      have hbb := (xt_byte (xt_mem (t := xTxt.getD j []) (k := i) (by omega))).2 nx hnx
      rw [← ex] at hbb
      refine lv_icmp_ne (tgt := 25) hx hb dJ1_indexOfChar_4cfef_19 (by decide) (fun h => ?_) (fun h => ?_)
      · refine lv_iinc (v := nI (i + 1)) (lv' := [(5, .int (nI (i + 1))), (4, .int x.toInt8.toInt32), (0, .ref (xBy P j)), (1, .int x), (2, .int 0), (3, .int (Int32.ofNat (xTxt.getD j []).length))]) hx hb dJ1_indexOfChar_4cfef_25 hl (k := 0) rfl (nI_1 i) (by decide) rfl (fun ls hl => ?_)
        refine lv_goto (tgt := 7) hx hb dJ1_indexOfChar_4cfef_28 (by decide) ?_
        exact ih (i + 1) (by omega) (fun k hk => by
          rcases Nat.lt_or_ge k i with z | z
          · exact h0 k z
          · obtain rfl : k = i := by omega
            exact fun z => h (hbb.mpr z)) ls hl
      · refine lv_iload hx hb dJ1_indexOfChar_4cfef_22 (lv_at hl 0 rfl) ?_
        have heq : (xTxt.getD j []).getD i 0 = x := hbb.mp h
        rw [xt_ixAt h0 (by omega) heq]
        exact W.iret hx hb hr (fun t ht hW => ⟨rfl, ht⟩) (fun q hq => by cases hq) dJ1_indexOfChar_4cfef_24
  exact loop (xTxt.getD j []).length 0 (by omega) (fun k hk => absurd hk (Nat.not_lt_zero k)) ls hl
end YC
