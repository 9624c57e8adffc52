section XT
abbrev xqX : String := "java/util/NoSuchElementException"
abbrev xqY : String := "java/lang/RuntimeException"
abbrev xqZ : String := "java/lang/Exception"
def xqB : ByteArray := ⟨#[0x2a, 0x2b, 0xb7, 0x00, 0x0d, 0xb1]⟩
theorem xqB_0 : decode xqB 0 = .ok (.aload_n 0, 1) := by decide +kernel
theorem xqB_1 : decode xqB 1 = .ok (.aload_n 1, 1) := by decide +kernel
theorem xqB_2 : decode xqB 2 = .ok (.invokespecial 13, 3) := by decide +kernel
theorem xqB_5 : decode xqB 5 = .ok (.return_, 1) := by decide +kernel
/-- the words on what is thrown -/
def xqA : List Jvm.Cond := Bundle.throwableAtoms ++ (Bundle.throwableSAtoms ++ (Bundle.passSAtoms xqX xqY 13 xqB ++ (Bundle.chainSAtoms xqY [xqZ] ++
  [.methodLink RX11 172 (Bundle.initS xqX), .instantiable xqX 6, .castable xqX xqX, .initialized xqX, .classLink RX11 168 xqX, .classLink "FelledHasLostLaw" 13 xqX, .selects xqX Bundle.tFill0 Bundle.tFill0, .selects xqX Bundle.tFill Bundle.tFill,
   .lays xqX Bundle.tN "cause" "Ljava/lang/Throwable;", .lays xqX Bundle.tN "stackTrace" Bundle.steD, .lays xqX Bundle.tN "suppressedExceptions" Bundle.listD, .lays xqX Bundle.tN "detailMessage" "Ljava/lang/String;",
   .fieldLink Bundle.tN 198 Bundle.tN "backtrace" "Ljava/lang/Object;", .lays Bundle.tN Bundle.tN "backtrace" "Ljava/lang/Object;", .lays xqX Bundle.tN "backtrace" "Ljava/lang/Object;"])))
def xqOk (w : Jvm.Cond) : Bool := (match w with
  | .laysStatic _ _ _ => true
  | z => z.onTables) && w.keepsFace && ((xTb 6).any (fun z => decide (z = w)) || (xTb 1).any (fun z => decide (z = w)) || (xTb 9).any (fun z => decide (z = w)))
theorem xqA_ok : xqA.all xqOk = true := by decide +kernel
theorem xq_tb {w : Jvm.Cond} {k : Nat} (h : (xTb k).any (fun z => decide (z = w)) = true) : w ∈ lw_tbl := by
  obtain ⟨z, hz, e⟩ := List.any_eq_true.mp h
  rw [← of_decide_eq_true e]
  exact xTb_in hz
/-- words of the entry hold all along -/
theorem xOld.word {P : xP} {U : State} (g : xOld P U) {w : Jvm.Cond} (hw : w ∈ lw_tbl) (h1 : w.onTables = true) (h2 : w.keepsFace = true) (A : Array Value) : w.before A U = true := by
  obtain ⟨s0, a0, hW, -, hts, -⟩ := g
  have h := Cond.rides hW.wide h2 (hts w hw)
  have e := Cond.onTables_vm (A := a0) (A' := A) (U := s0) (U' := U) U.vm w h1
  rw [h] at e
  exact e.symm
theorem xOld.lays {P : xP} {U : State} (g : xOld P U) {O f d : String} (hw : Jvm.Cond.laysStatic O f d ∈ lw_tbl) (A : Array Value) : (Jvm.Cond.laysStatic O f d).before A U = true := by
  obtain ⟨s0, a0, hW, hh, hts, -⟩ := g
  have h := Cond.rides hW.wide (c := .laysStatic O f d) rfl (hts _ hw)
  obtain ⟨c, k, i, fd, a, cell, hc, hf, hst, hsta, hcell, hiss, hcls, hlt, hty⟩ := Cond.laysStatic_spec h
  have hc' : U.vm.findClass O = some c := hc
  have hf' : U.fieldFound? O f d = some (c, k, i, fd) := hf
  have hcell' : U.heap[a]? = some cell := by
    rw [(hh a (Array.getElem?_eq_some_iff.mp hcell).1).2]
    exact hcell
  simp [Cond.before, Cond.holds, Cond.value, hc', hf', hst, hsta, hcell', hiss, hcls, hlt, hty]
theorem xOld.ref {P : xP} {U : State} (g : xOld P U) {O f d : String} (hw : Jvm.Cond.laysStatic O f d ∈ lw_tbl) (hn : ∀ (A : Array Value) (s0 : State), (Jvm.Cond.and given_1 narrow_1).before A s0 = true → (Jvm.Cond.isRef (.static O f d)).before A s0 = true) (A : Array Value) : (Jvm.Cond.isRef (.static O f d)).before A U = true := by
  obtain ⟨s0, a0, hW, hh, hts, hgv⟩ := g
  have h := Cond.rides hW.wide (c := .laysStatic O f d) rfl (hts _ hw)
  have h2 := Cond.rides hW.wide (c := .isRef (.static O f d)) rfl (hn a0 s0 hgv)
  obtain ⟨c, k, i, fd, a, cell, hc, hf, hst, hsta, hcell, hiss, hcls, hlt, hty⟩ := Cond.laysStatic_spec h
  obtain ⟨u, hu⟩ := Cond.staticRefV hf hst hsta hcell hiss h2
  have hf' : U.fieldFound? O f d = some (c, k, i, fd) := hf
  have hcell' : U.heap[a]? = some cell := by
    rw [(hh a (Array.getElem?_eq_some_iff.mp hcell).1).2]
    exact hcell
  obtain ⟨v, hv⟩ := u
  have he : (Term.static O f d).eval A U none [] U = some v := by
    simp [Term.eval, State.fieldNamed?, hf', hst, hsta, hcell', hiss, hu]
  simp only [Cond.before, Cond.holds, Cond.value, he]
  cases v <;> first | rfl | (simp [Value.isRef] at hv)
theorem xq_words {P : xP} {U : State} (g : xOld P U) (A : Array Value) : ∀ w ∈ xqA, w.before A U = true := by
  intro w hw
  have h := List.all_eq_true.mp xqA_ok w hw
  simp only [xqOk, Bool.and_eq_true, Bool.or_eq_true] at h
  obtain ⟨⟨h1, h2⟩, h3⟩ := h
  have hin : w ∈ lw_tbl := by
    rcases h3 with (h3 | h3) | h3
    · exact xq_tb h3
    · exact xq_tb h3
    · exact xq_tb h3
  cases w with
  | laysStatic O f d => exact g.lays hin A
  | _ => exact g.word hin h1 h2 A
theorem xq_r1 (A : Array Value) (s0 : State) (h : (Jvm.Cond.and given_1 narrow_1).before A s0 = true) : (Jvm.Cond.isRef (.static Bundle.tN "UNASSIGNED_STACK" Bundle.steD)).before A s0 = true := flat_of_before _ h _ (by decide +kernel)
theorem xq_r2 (A : Array Value) (s0 : State) (h : (Jvm.Cond.and given_1 narrow_1).before A s0 = true) : (Jvm.Cond.isRef (.static Bundle.tN "SUPPRESSED_SENTINEL" Bundle.listD)).before A s0 = true := flat_of_before _ h _ (by decide +kernel)
end XT
