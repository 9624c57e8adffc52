section XQ
/-- a catch type that is looked up for the first time, or again -/
theorem xq_find {e : Env} {s : State} {f : JFrame} {a : Addr} {meth : Method} {code : Code} (hm : s.vm.method? f.method = some meth) (hc : meth.code = some code) {x : ExceptionTableEntry} (ht : code.exceptionTable.toList = [x]) (hx : covers x f.pc = true) (h0 : x.catchType ≠ 0)
    {cT : ClassId} {vm' : Vm} (hgv : (Jvm.resolveClass f.method.cls x.catchType).Gives e.toSetting s.vm (.ok cT) vm') (hsz : vm'.classes.size ≤ s.vm.classes.size) {cell : Cell} (hcell : s.heap[a]? = some cell) (hobj : ∀ k, cell.vm ≠ .statics k)
    (hk : ∃ k, vm'.classes[cell.cls]? = some k) (hcl : ∃ k, vm'.classes[cT]? = some k) (hfit : vm'.assignable cell.cls cT = true) :
    ∀ (Q : Handler → Pre) (E : CtlPost) (d : Bool) (acts : List Action), wp (findHandler f a) Q E e d acts s ↔ Q (.found x.handlerPc) ((VmOp.resolveClass f.method.cls x.catchType).dirties d) ((VmOp.resolveClass f.method.cls x.catchType).acts acts) (s.setVm vm') := by
  intro Q E d acts
  obtain ⟨ha, hb⟩ := (hgv.op rfl : (VmOp.resolveClass f.method.cls x.catchType).answer e s.vm = .ok cT ∧ (VmOp.resolveClass f.method.cls x.catchType).tables e s.vm = vm')
  rw [W.findHandler_eq hm hc, ht]
  simp only [covers] at hx
  have hz : ((VmOp.resolveClass f.method.cls x.catchType).tables e s.vm).classes.size ≤ s.vm.classes.size := by rw [hb]; exact hsz
  simp [findHandler.go, hx, h0, VmOp.lands_same hz, ha, hb, hcell, hobj, hk, hcl, hfit]
theorem xq_step {e : Env} {s : State} {a : Addr} {f : JFrame} {r : List Frame} {pc ct : Nat} {vm' : Vm} (hf : ∀ (Q : Handler → Pre) (E : CtlPost) (d : Bool) (acts : List Action), wp (findHandler f a) Q E e d acts s ↔ Q (.found pc) ((VmOp.resolveClass f.method.cls ct).dirties d) ((VmOp.resolveClass f.method.cls ct).acts acts) (s.setVm vm')) :
    (stepThrowing e s a (.java f :: r)).1 = (s.setVm vm').setFrames (.java { f with pc := pc, stack := [.ref a] } :: r) := by
  simp only [stepThrowing, searchFrame, vmDo]
  generalize hr : Sem.go _ e false [] s = res
  obtain ⟨as, rfl, ha⟩ := Sem.eq_ok_of hr (a := Handler.found pc) (s' := s.setVm vm') (acts' := (VmOp.resolveClass f.method.cls ct).acts (unmarked [])) (by simp [hf _ _ _ _])
  rfl
/-- what is thrown over a frame of ours is caught there -/
theorem xq_caught {tb : Tables} {e : Env} {T target : State} {g : JFrame} {c : Code} {meth : Method} {below : List Frame} {a : Addr} (h : At T g.method c below) (hm : T.vm.method? g.method = some meth) (hc : meth.code = some c) {x : ExceptionTableEntry} (ht : c.exceptionTable.toList = [x]) (hx : covers x g.pc = true) (h0 : x.catchType ≠ 0)
    {cT : ClassId} {vm' : Vm} (hgv : (Jvm.resolveClass g.method.cls x.catchType).Gives e.toSetting T.vm (.ok cT) vm') (hsz : vm'.classes.size ≤ T.vm.classes.size) {cell : Cell} (hcell : T.heap[a]? = some cell) (hobj : ∀ k, cell.vm ≠ .statics k)
    (hk : ∃ k, vm'.classes[cell.cls]? = some k) (hcl : ∃ k, vm'.classes[cT]? = some k) (hfit : vm'.assignable cell.cls cT = true)
    (hrest : Steps tb e below ((T.setVm vm').setTop { g with pc := x.handlerPc, stack := [.ref a] }) target) : Steps tb e below ((T.setTop g).pushFrame (.throwing a)) target := by
  obtain ⟨hgo, hw⟩ := h.throwing a
  refine Steps.head hgo hw ?_
  have hvm : ((T.setTop g).pushFrame (.throwing a)).vm = T.vm := Stand.throwing_vm T g a
  have hhp : ((T.setTop g).pushFrame (.throwing a)).heap = T.heap := Stand.throwing_heap T g a
  rw [stepThread_throwing (frames_entered h.top _), xq_step (xq_find (s := (T.setTop g).pushFrame (.throwing a)) (by rw [hvm]; exact hm) hc ht hx h0 (by rw [hvm]; exact hgv) (by rw [hvm]; exact hsz) (by rw [hhp]; exact hcell) hobj hk hcl hfit)]
  obtain ⟨g₀, hg⟩ := Option.isSome_iff_exists.mp h.top
  obtain ⟨r, hr⟩ := State.topJava?_eq_some.mp hg
  have hr' : (T.setVm vm').frames = .java g₀ :: r := hr
  rw [State.setTop_of_frames _ hr'] at hrest
  rw [State.pushFrame, State.setTop_of_frames _ hr]
  rw [hr]
  show Steps tb e below ((((T.setVm vm').setFrames (Frame.java g :: r)).setFrames (Frame.throwing a :: (T.setFrames (Frame.java g :: r)).frames)).setFrames _) target
  rw [State.setFrames_setFrames, State.setFrames_setFrames]
  exact hrest
/-- a walk may be begun anew where it stands -/
theorem xq_base {p : Program} {l : Launch} {e : Env} {R : Room} {s : State} {m : MethodId} {args : Array Value} {below : List Frame} {meth : Method} {c : Code} {T : State} {locs : List Loc} {cells slots : Nat} (X : Stand p l e R s m args below meth c T locs cells slots) (hcl : cells ≤ R.cells) (hsl : slots ≤ R.slots) :
    Stand p l e { frames := R.frames, cells := R.cells - cells, slots := R.slots - slots, locals := R.locals } (T.setFrames (.invoking m args :: below)) m args below meth c T [] 0 0 := by
  obtain ⟨g₀, hfr⟩ := X.frames_eq
  have hcur : T.cur < T.threads.size := State.cur_lt_of_frames hfr
  have hF : (T.setFrames (.invoking m args :: below)).frames = .invoking m args :: below := State.frames_setFrames _ hcur
  have hmT : (T.setFrames (.invoking m args :: below)).vm.method? m = some meth := X.method'
  have hloc : (T.setFrames (.invoking m args :: below)).localsInUse = s.localsInUse := by
    rw [State.localsInUse_invoking hF hmT X.code, State.localsInUse_invoking X.frames X.method X.code]
  have hlen : (T.setFrames (.invoking m args :: below)).frames.length = s.frames.length := by rw [hF, X.frames]
  have hlim : e.platform.stackLimits (T.setFrames (.invoking m args :: below)).me = e.platform.stackLimits s.me := by rw [State.stackLimits_setFrames]; exact X.limits
  have hby : (T.setFrames (.invoking m args :: below)).me.stackBytes = s.me.stackBytes := by rw [State.stackBytes_setFrames]; exact X.bytes
  have hW : s.WarmedH T.vm := X.warmed
  have hbook := X.book
  have hhs := X.heapSize
  have hus := X.used
  refine ⟨X.admits, X.cas, X.clock, hF, ?_, ?_, hmT, X.code, X.here, X.tail, State.WarmedH.refl _, (State.stackLimits_setFrames ..).symm, (State.stackBytes_setFrames ..).symm, ?_⟩
  · have hroom := X.room
    simp only [State.hasRoom, Bool.and_eq_true, decide_eq_true_eq] at hroom ⊢
    rw [hloc, hlen, hlim, hby]
    obtain ⟨⟨⟨⟨r1, r2⟩, r3⟩, r4⟩, r5⟩ := hroom
    refine ⟨⟨⟨⟨r1, r2⟩, ?_⟩, ?_⟩, hbook⟩
    · show T.heap.size + (R.cells - cells) ≤ _
      omega
    · show T.slotsUsed + (R.slots - slots) ≤ _
      omega
  · have hh := X.hears
    unfold State.hears at hh ⊢
    split
    · simp only [State.code?_eq] at hh ⊢
      show ((Option.bind (Option.bind (T.vm.method? _) _) _)).isSome = true
      rw [hW.alike.method?]
      exact hh
    · rfl
    · rfl
    · rename_i h1 h2 h3
      split at hh
      · exact absurd rfl (h1 _ _)
      · exact absurd rfl (h2 _ _)
      · exact absurd rfl (h3 _ _)
      · show (T.vm.method? m).any _ = true
        rw [hW.alike.method?]
        exact hh
  · obtain ⟨t, ht, -⟩ := State.frames_cons hF
    have h := (State.sameButNew.refl (T.setFrames (.invoking m args :: below)) ht).setFrames T.frames (State.cur_lt_of_frames hF)
    rw [State.setFrames_setFrames] at h
    obtain ⟨t2, ht2, -⟩ := State.frames_cons hfr
    rw [State.setFrames_self ht2] at h
    exact h
end XQ
