section XC
variable {p : Program} {l : Launch} {e : Env} {R : Room} {s : State} {m : MethodId} {args : Array Value} {below : List Frame} {meth : Method} {c : Code} {T : State} {k n : Nat}
set_option maxHeartbeats 4000000 in
/-- from the constructor's call to 'threw': the cell that 'new' has laid is thrown; no other cell has changed -/
theorem xq_throw (X : Stand p l e R s m args below meth c T [] k n) (hexec : p.tables.exec = Jvm.exec) (htr : e.platform.stackTraces = false) (hown : s.vm.findClass RX11 = some m.cls) (hw : ∀ w ∈ xqA, w.before args s = true)
    (hr1 : (Jvm.Cond.isRef (.static Bundle.tN "UNASSIGNED_STACK" Bundle.steD)).before args s = true) (hr2 : (Jvm.Cond.isRef (.static Bundle.tN "SUPPRESSED_SENTINEL" Bundle.listD)).before args s = true)
    {a : Addr} {cX : ClassId} {kX : Class} (hfX : s.vm.findClass xqX = some cX) (hkX : s.vm.classes[cX]? = some kX) (hcell : T.heap[a]? = some (freshCell cX kX)) (hnew : s.heap.size ≤ a) {msg : Value} (hmsg : msg.isRef = true)
    {g : JFrame} (hg : g.method = m) (hsize : g.locals.size = c.maxLocals) (hlk : g.locked = none) (hen : g.entered = []) {rest : List Value} (hst : g.stack = msg :: .ref a :: .ref a :: rest)
    (hd6 : decode c.code g.pc = .ok (.invokespecial 172, 3)) (hd9 : decode c.code (g.pc + 3) = .ok (.athrow, 1)) (hout : ∀ x ∈ c.exceptionTable.toList, covers x (g.pc + 3) = false)
    (hRf : 5 < R.frames) (hRl : 2 * g.monitorRoom + ((Value.ref a :: rest).map fun v => v.category).sum + 81 ≤ R.locals) (hlocks : meth.locks = false) :
    ∃ U : State, Steps p.tables e below (T.setTop g) U ∧ U.status = .running ∧ Ended U below (.threw a) ∧ s.WarmedH U.vm ∧ s.sameButNew ({ U with vm := s.vm } : State) [] k n ∧ (∃ ce : Cell, U.heap[a]? = some ce ∧ ce.cls = cX ∧ ce.vm = .none) ∧ U.heap.size = T.heap.size ∧ ∀ q, q ≠ a → U.heap[q]? = T.heap[q]? := by
  have ho1 : e.platform.frameOwnsMonitors = true := by rw [X.admits.platform]
  have ho2 : e.platform.finalization = false := by rw [X.admits.platform]
  have ho3 : e.platform.magicAccessors = ({} : Platform).magicAccessors := by rw [X.admits.platform]
  have w1 : ∀ x ∈ Bundle.throwableAtoms, x.before args s = true := fun x hx => hw x (by unfold xqA; exact List.mem_append_left _ hx)
  have w2 : ∀ x ∈ Bundle.throwableSAtoms, x.before args s = true := fun x hx => hw x (by unfold xqA; exact List.mem_append_right _ (List.mem_append_left _ hx))
  have w3 : ∀ x ∈ Bundle.passSAtoms xqX xqY 13 xqB, x.before args s = true := fun x hx => hw x (by unfold xqA; exact List.mem_append_right _ (List.mem_append_right _ (List.mem_append_left _ hx)))
  have w4 : ∀ x ∈ Bundle.chainSAtoms xqY [xqZ], x.before args s = true := fun x hx => hw x (by unfold xqA; exact List.mem_append_right _ (List.mem_append_right _ (List.mem_append_right _ (List.mem_append_left _ hx))))
  have w5 := fun (x : Jvm.Cond) hx => hw x (show x ∈ xqA by unfold xqA; exact List.mem_append_right _ (List.mem_append_right _ (List.mem_append_right _ (List.mem_append_right _ hx))))
  obtain ⟨Th, Z0, L, -, Y⟩ := ThrowableC.of_atoms (args := args) ho1 ho2 ho3 w1
  obtain ⟨Z, M, LZ, LM, hnZ⟩ := Init0T.ofS_atoms (args := args) ho3 L Y w2
  obtain ⟨P0, L0, hP0m, hP0s⟩ := PassC.ofS_atoms (args := args) (s := s) ho3 (X := xqX) (Y := xqY) (by decide) (by decide) xqB_0 xqB_1 xqB_2 xqB_5 w3
  obtain ⟨P1, Ps, hlen, L1, hL, hP1m, hlink1, hlink⟩ := Bundle.chainS (args := args) ho3 hnZ [xqZ] xqY (by decide +kernel) (by decide +kernel) w4
  have hl0 : P0.sup = P1.m := Option.some.inj (hP0s.symm.trans hP1m)
  have hfound : s.vm.findClass xqX = some P0.m.cls := findClass_of_methodNamed hP0m
  cases Option.some.inj (hfX.symm.trans hfound)
  obtain ⟨c1, kX', hc1, hk, hord, -, -, hn6⟩ := Cond.instantiable_spec (w5 (.instantiable xqX 6) (by simp))
  cases Option.some.inj (hc1.symm.trans hfound)
  cases Option.some.inj (hkX.symm.trans hk)
  have hsel0 : selectMethod e.platform s.vm P0.m.cls Th.fill0 = .method Th.fill0 := by
    obtain ⟨c2, r2, m2, q1, q2, q3, q4, -⟩ := Cond.selects_spec (w5 (.selects xqX Bundle.tFill0 Bundle.tFill0) (by simp))
    cases Option.some.inj (q1.symm.trans hfound)
    cases Option.some.inj (q2.symm.trans (State.methodFound?_of_named Y.fill0 (by decide)))
    cases Option.some.inj (q3.symm.trans Y.fill0)
    rw [Launch.admits_selectMethod X.admits]; exact q4
  have hselF : selectMethod e.platform s.vm P0.m.cls Th.fill = .method Th.fill := by
    obtain ⟨c2, r2, m2, q1, q2, q3, q4, -⟩ := Cond.selects_spec (w5 (.selects xqX Bundle.tFill Bundle.tFill) (by simp))
    cases Option.some.inj (q1.symm.trans hfound)
    cases Option.some.inj (q2.symm.trans (State.methodFound?_of_named Y.fill (by decide)))
    cases Option.some.inj (q3.symm.trans Y.fill)
    rw [Launch.admits_selectMethod X.admits]; exact q4
  obtain ⟨cS0, hcS0, hiss⟩ := Y.statics
  obtain ⟨u0, hu0⟩ := Cond.staticRefV Y.unassigned L.unassignedStatic L.statics hcS0 hiss hr1
  obtain ⟨sen, hsen⟩ := Cond.staticRefV Y.sentinel L.sentinelStatic L.statics hcS0 hiss hr2
  obtain ⟨cb, ib, fB, hkb, hgb, hab, hsB, -, hnB, htB, hffB⟩ := Cond.ownField (t := .object "java/lang/Object") Y.found L.cls (by decide +kernel) (w5 (.fieldLink Bundle.tN 198 Bundle.tN "backtrace" "Ljava/lang/Object;") (by simp)) (w5 (.lays Bundle.tN Bundle.tN "backtrace" "Ljava/lang/Object;") (by simp)) e.platform ho3
  obtain ⟨cS, hcS, heS, -, hkeep⟩ := X.same.2.2.2.2.2 Th.aS cS0 hcS0
  have hcS : T.heap[Th.aS]? = some cS := hcS
  have hkn : cS.vm ≠ .unknown := by
    rw [heS]; intro hu
    rw [show cS0.vm = .unknown from hu] at hiss
    cases hiss
  have hne : Th.aS ≠ a := Nat.ne_of_lt (Nat.lt_of_lt_of_le (Array.getElem?_eq_some_iff.mp hcS0).1 hnew)
  obtain ⟨iM, hffM⟩ := Y.msg
  obtain ⟨tyC, dC, hdC, hdnC⟩ := Cond.laysAt hfound hk Y.cause (w5 (.lays xqX Bundle.tN "cause" "Ljava/lang/Throwable;") (by simp))
  obtain ⟨tyS, dS, hdS, hdnS⟩ := Cond.laysAt hfound hk Y.stack (w5 (.lays xqX Bundle.tN "stackTrace" Bundle.steD) (by simp))
  obtain ⟨tyP, dP, hdP, hdnP⟩ := Cond.laysAt hfound hk Y.supp (w5 (.lays xqX Bundle.tN "suppressedExceptions" Bundle.listD) (by simp))
  obtain ⟨tyM, dM, hdM, hdnM⟩ := Cond.laysAt hfound hk hffM (w5 (.lays xqX Bundle.tN "detailMessage" "Ljava/lang/String;") (by simp))
  obtain ⟨tyB, dB, hdB, hdnB⟩ := Cond.laysAt hfound hk hffB (w5 (.lays xqX Bundle.tN "backtrace" "Ljava/lang/Object;") (by simp))
  have bC := Cond.laysApart hdB hdC hdnB hdnC (by rw [hnB, Y.causeName]; decide)
  have bS := Cond.laysApart hdB hdS hdnB hdnS (by rw [hnB, Y.stackName]; decide)
  have bP := Cond.laysApart hdB hdP hdnB hdnP (by rw [hnB, Y.suppName]; decide)
  have hskip : SkipFacts Th e.platform s (fun u => u) u0 ((preparedCellV Th.toThrowableT (freshCell P0.m.cls kX) a u0 sen).withEntry T.cur) :=
    ⟨{ ci198 := cb, i198 := ib, fBack := fB }, ⟨hkb, hgb, hab, hsB⟩, by
      have := fresh_default (c := P0.m.cls) tyB
      rw [htB] at this
      simpa [preparedCellV, Cell.setSlot, Cell.withEntry, Array.getElem?_setIfInBounds, bC, bS, bP, bC.symm, bS.symm, bP.symm, defaultValue] using this, fun _ _ => rfl⟩
  obtain ⟨tm, methC, cdC, kC, vm₁, hnC, -, -, -, -, -, -, -, hW₁, st1⟩ := Steps.initColdS (tb := p.tables) (e := e) (below := below) (s := s) (U := T) X.here hexec X.warmed ho3 hown (t := Bundle.initS xqX) rfl rfl (by decide)
    (w5 (.methodLink RX11 172 (Bundle.initS xqX)) (by simp)) (w3 (.instanceMethod (Bundle.initS xqX)) (by simp [Bundle.passSAtoms])) (bytes := xqB) (maxL := 2) (w3 (.code (Bundle.initS xqX) xqB 2 none) (by simp [Bundle.passSAtoms]))
    (f := g) hg (a := a) (msg := msg) (rest := .ref a :: rest) hst hd6
  cases Option.some.inj (hnC.symm.trans hP0m)
  have X₁ := X.noted hW₁
  have hnil : ∀ i, (⟨Th.aS, i⟩ : Loc) ∉ ([] : List Loc) := fun i h => by cases h
  obtain ⟨vm₂, X₂, st2⟩ := X₁.ctorMessageOffV hexec (g := { g with stack := .ref a :: rest }) hg hsize Th L Z LZ M LM (P0 :: P1 :: Ps)
    (fun P hP => by
      rcases List.mem_cons.mp hP with rfl | hP
      · exact L0
      · rcases List.mem_cons.mp hP with rfl | hP
        · exact L1
        · exact hL P hP) ⟨hl0, hlink1, hlink⟩ (u0 := u0) (sen := sen) (self := a) hmsg (cell := freshCell P0.m.cls kX) (cellS := cS)
    hcell (fun _ => by simp) (by simp) rfl rfl hsel0 hselF hcS hne hkn (by rw [hkeep _ (hnil _)]; exact hu0) (by rw [hkeep _ (hnil _)]; exact hsen)
    (Takes.of_laid hk hord tyC (by rw [Y.causeType]; rfl)) (Takes.of_laid hk hord tyS (by rw [Y.stackType]; exact fits_refV_array _ u0)) (Takes.of_laid hk hord tyP (by rw [Y.suppType]; exact fits_refV_object _ sen))
    (Takes.of_laid hk hord tyM (by rw [Y.msgType]; exact fits_refV_object _ ⟨msg, hmsg⟩)) Y.objLocals hskip htr [] hd6
    (by simp only [List.length_cons, hlen, List.length_nil]; omega) (by simp only [List.length_cons, hlen, List.length_nil]; exact hRl)
  obtain ⟨hwalk, hrun, hended, hWU, hsame⟩ := X₂.athrowLeaves hexec (g := { g with stack := .ref a :: rest, pc := g.pc + 3 }) hg hlk hen hout (a := a) (rest := rest) rfl hd9 hlocks
  have hlt : a < ((T.setVm vm₁).setVm vm₂).heap.size := (Array.getElem?_eq_some_iff.mp hcell).1
  have hU := heapAt_setCell_self (s := (T.setVm vm₁).setVm vm₂) (plainBareV Th.toThrowableT (freshCell P0.m.cls kX) a u0 sen msg) hlt
  refine ⟨_, st1 _ (fun acts => ?_), hrun, hended, hWU, hsame.weaken (fun y hy hlt' => ?_) (Nat.le_refl _) (Nat.le_refl _), ⟨_, hU, rfl, rfl⟩, ?_, ?_⟩
  · rw [doInvoke_state]
    exact st2 _ hwalk
  · exfalso
    have hb : y.base = a := by
      simp only [List.nil_append, List.mem_cons, List.not_mem_nil, or_false] at hy
      rcases hy with rfl | rfl | rfl | rfl | rfl <;> rfl
    rw [hb] at hlt'
    exact Nat.not_lt.mpr hnew hlt'
  · show (T.heap.setIfInBounds a _).size = _
    simp
  · intro q hq
    show (T.heap.setIfInBounds a _)[q]? = _
    simp [Array.getElem?_setIfInBounds, Ne.symm hq]
end XC
