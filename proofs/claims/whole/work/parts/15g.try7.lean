section XG
variable {P : xP} {d N : Nat} {p : Program} {l : Launch} {e : Env} {R : Room} {s : State} {m : MethodId} {args : Array Value} {below : List Frame} {meth : Method} {c : Code} {Q : State → Prop} {cc : ByteArray}
/-- a static call of a method with an exception table -/
theorem xq_runS {own : String} {nL : Nat} {y : MethodName} {bytes : ByteArray} {maxL mc ms n index : Nat} {ret : Option FieldType} {hh : List (Nat × Nat × Nat × Nat)} {rm : Room} {Pc : Array Value → State → Prop} {Qc : Array Value → State → Outcome → State → Prop} {free : Addr → Prop} {As rest : List Value} {g : JFrame} {H : Heap} {locs : List Loc} {cells slots : Nat}
    (S : CallFix p m c cc nL s args xGw own) (hM : Met l y (Jvm.Cond.codeWith y bytes maxL ret hh :: xGw) rm Pc Qc mc ms free) (hc : Jvm.Cond.codeWith y bytes maxL ret hh ∈ xGw) (hst : Jvm.Cond.static y ∈ xGw) (hini : Jvm.Cond.initialized y.cls ∈ xGw) (hl : Jvm.Cond.methodLink own index y ∈ xGw) (hy : y.cls ≠ "java/lang/invoke/MethodHandle" ∧ y.cls ≠ "java/lang/invoke/VarHandle")
    (hpd : (parseMethodDescriptor y.desc).map (fun d => d.parameters.length) = some n) (hrc : rm.cells = mc) (hrs : rm.slots = ms) (hR : rm.frames + 1 ≤ R.frames ∧ 8 + (maxL + 11) + rm.locals ≤ R.locals) (hp : PreS s H Pc As)
    (hg : g.method = m) (hn : As.length = n) (hsize : g.locals.size = nL) (hstack : g.stack = As.reverse ++ rest) (hW : 2 * g.monitorRoom + (rest.map fun v => v.category).sum ≤ 8) (hdg : decode cc g.pc = .ok (.invokestatic index, 3)) (hf : cells + mc ≤ R.cells ∧ slots + ms ≤ R.slots) :
    va_Run p l e R s m args below meth c H locs cells slots mc ms g rest (Qc As.toArray) free := by
  obtain ⟨hx, hb, hml, ho, hts⟩ := S
  have hw1 : ∀ w ∈ xGw, ∀ (a' : Array Value) (U : State), s.WarmedH U.vm → w.before a' U = true := fun w hw a' U hW => word_at hW (good_of_word (List.mem_filter.mp hw).2) (hts w hw)
  have hK : Back l R p e below s args y 3 8 (PreOf R mc ms Pc) (PostOf Qc mc ms free) := va_backW (hh := hh) (bytes := bytes) (maxL := maxL) (ret := ret) hM hp.1 hrc hrs hR.1 hR.2 (fun w hw => by
    rcases List.mem_cons.mp hw with rfl | hw
    · exact hw1 _ hc
    · exact hw1 _ hw) List.mem_cons_self (hw1 _ hini)
  intro T hT X
  obtain ⟨mk, methM, cM, hnamed, hmethM, -, -, -, -, -, -, hsigM⟩ := Cond.codeWith_spec (hts _ hc)
  have hstatic : methM.isStatic = true := Cond.static_spec hnamed hmethM (hts _ hst)
  obtain ⟨kP, hkP, -⟩ := className_of_methodNamed hnamed
  have hinitP : kP.init = .initialized := Cond.initialized_spec (findClass_of_methodNamed hnamed) hkP (hts _ hini)
  have hlen : As.length = methM.sig.parameters.length := by
    rw [hsigM] at hpd
    rw [hn]
    exact (Option.some.inj hpd).symm
  obtain ⟨vm₁, X₁, hstep₁⟩ := X.invokestatic hx ho (hts _ hl) hnamed hmethM hstatic hkP hinitP hy (g := g) hg (argsL := As) (rest := rest) hlen hstack (by rw [hb]; exact hdg)
  obtain ⟨v, ⟨U', l2, c2, s2⟩, X', ⟨g', mk', t, L, e1, e2, hq, h1, hL, h2, h3⟩, hsteps⟩ := hK m meth c ⟨T.setVm vm₁, locs, cells, slots⟩ { g with stack := rest } (.invokestatic index) mk As.toArray X₁ hg (hsize.trans hml.symm) (by rw [hb]; exact hdg) hW (X₁.named hnamed) ⟨hf.1, hf.2, hp.2 (T.setVm vm₁) hT X₁.warmed⟩
  dsimp only [Pt.U, Pt.locs, Pt.cells, Pt.slots] at X' e1 e2 h1 h2 h3 hsteps
  subst h1; subst h2; subst h3
  exact ⟨v, (T.setVm vm₁).calling g' mk' As.toArray, t, U', L, hT, X', hL, e1, e2, hq, fun target h => hstep₁ _ fun acts => by rw [doInvoke_state]; exact hsteps.trans h⟩
end XG
theorem xq_in0 {n : Nat} (hn : 0 < n) : ¬ ((0 : Int32) < 0 ∨ n ≤ (0 : Int32).toNatClampNeg) := by
  intro hz
  rcases hz with hz | hz
  · exact absurd hz (by decide)
  · have e0 : (0 : Int32).toNatClampNeg = 0 := by decide
    omega
def xqMax : Bool := [111, 113, 159].all fun N => decide (xMaxL N ≤ 40)
theorem xqMax_ok : xqMax = true := by decide +kernel
theorem xqN.max {N : Nat} (h : xqN N) : xMaxL N ≤ 40 := of_decide_eq_true (List.all_eq_true.mp xqMax_ok N (by rcases h with rfl | rfl | rfl <;> simp))
section XH
variable {l : Launch} {P : xP} {d N : Nat}
set_option maxHeartbeats 4000000 in
/-- the law's block and layer: what they answer -/
theorem xq_body (hN : xqN N) (hret : xRet N = some .int) (hfl : ∀ e, l.admits e → e.platform.stackTraces = false) {y : MethodName} {cc : ByteArray} {index : Nat} (hyc : y.cls = "FelledHasLostLaw")
    (hlk : Jvm.Cond.methodLink "FelledHasLostLaw" index (xNm N) ∈ xGw) (hin : Jvm.Cond.instanceMethod (xNm N) ∈ xGw) (hse : Jvm.Cond.selects RX11 (xNm N) (xNm N) ∈ xGw) (hpd : (parseMethodDescriptor (xNm N).desc).map (fun d => d.parameters.length) = some 2)
    (d0 : decode cc 0 = .ok (.aload_n 3, 1)) (d1 : decode cc 1 = .ok (.iconst 0, 1)) (d2 : decode cc 2 = .ok (.aload_n 0, 1)) (d3 : decode cc 3 = .ok (.iload_n 1, 1)) (d4 : decode cc 4 = .ok (.iload_n 2, 1)) (d5 : decode cc 5 = .ok (.invokevirtual index, 3)) (d8 : decode cc 8 = .ok (.i2l, 1)) (d9 : decode cc 9 = .ok (.lastore, 1)) (d10 : decode cc 10 = .ok (.goto 7, 3)) (d13 : decode cc 13 = .ok (.astore 4, 2)) (d15 : decode cc 15 = .ok (.iconst 1, 1)) (d16 : decode cc 16 = .ok (.ireturn, 1)) (d17 : decode cc 17 = .ok (.iconst 0, 1)) (d18 : decode cc 18 = .ok (.ireturn, 1))
    {a o : Nat} {i1 i2 ci : Int32} {h h1 h2 : xH} {v : Option Value} (hs : xSnd l P d N 0 (xEntry N [.ref a, .int i1, .int i2]) [] h v h1) (hv : v = some .null ∨ xRetOK N v) (le : xLe h h1) (hca : xCaught v o h1 = some (ci, h2)) (hl : (xArgs [.ref a, .int i1, .int i2]).length ≤ xMaxL N) (hrc : xRecv h [.ref a, .int i1, .int i2] (xOwn N) = true) :
    Met l y (Jvm.Cond.codeWith y cc 5 (some .int) [(0, 10, 13, 13)] :: xGw) (xRm (d + 1) (h2.1 + h2.2.2.1 - (h.1 + h.2.2.1)) (h2.2.1 - h.2.1)) (xPre P h [.ref a, .int i1, .int i2, .ref o]) (xPost P (some (.int ci)) h2) (h2.1 + h2.2.2.1 - (h.1 + h.2.2.1)) (h2.2.1 - h.2.1) (xAA P) := by
  obtain ⟨ho, hN2, -⟩ := hN.ok
  obtain ⟨m1, m2, m3, m4, m5, m6⟩ := x_ms hN2
  have hmx := hN.max
  have hRX : (xNm N).cls = RX11 := by rw [m2, ho]; rfl
  refine va_MetW (hh := [(0, 10, 13, 13)]) (cc := cc) (maxL := 5) (ret := some .int) (by rw [hyc]; decide) rfl ?_
  intro p e s m args below meth c s₁ B hml hpre
  obtain ⟨rfl, g, hR, hb1, hb2⟩ := hpre
  have hx := B.exec
  have hb := B.bytes
  have hr := B.returns
  have hts0 := atoms_spec (ws := Jvm.Cond.codeWith y cc 5 (some .int) [(0, 10, 13, 13)] :: xGw) B.pre
  have hts : ∀ w ∈ xGw, w.before (List.map (xV (xAd P)) [.ref a, .int i1, .int i2, .ref o]).toArray s = true := fun w hw => hts0 w (List.mem_cons_of_mem _ hw)
  have hown : s.vm.findClass "FelledHasLostLaw" = some m.cls := by rw [← hyc]; exact findClass_of_methodNamed B.named
  have hlocks := B.notSynchronized
  obtain ⟨x, ht, hx1, hx2, hx3, hx4⟩ : ∃ x : ExceptionTableEntry, c.exceptionTable.toList = [x] ∧ x.startPc = 0 ∧ x.endPc = 10 ∧ x.handlerPc = 13 ∧ x.catchType = 13 := by
    obtain ⟨m9, meth9, c9, hn9, hm9, hc9, -, -, ht9, -, -, -⟩ := Cond.codeWith_spec (hts0 _ List.mem_cons_self)
    cases B.named.symm.trans hn9
    cases B.method.symm.trans hm9
    cases (Stand.of_body B).code.symm.trans hc9
    match hq : c.exceptionTable.toList, ht9 with
    | [z], ht9 =>
      simp only [List.map_cons, List.map_nil, List.cons.injEq, Prod.mk.injEq, and_true] at ht9
      exact ⟨z, rfl, ht9.1, ht9.2.1, ht9.2.2.1, ht9.2.2.2⟩
    | [], ht9 => cases ht9
    | _ :: _ :: _, ht9 => simp at ht9
  have hl0 := lv_entry (List.map (xV (xAd P)) [.ref a, .int i1, .int i2, .ref o]) (n := 5) (Nat.le_of_ble_eq_true rfl)
  rw [lg_entry_eq]
  generalize (lg_sl (List.map (xV (xAd P)) [.ref a, .int i1, .int i2, .ref o]) ++ List.replicate (5 - (lg_sl (List.map (xV (xAd P)) [.ref a, .int i1, .int i2, .ref o])).length) Slot.unset).toArray = arr at hl0 ⊢
  have hl0 : lv_has arr 5 [(0, .ref (xAd P a)), (1, .int i1), (2, .int i2), (3, .ref (xAd P o))] := hl0
  generalize hRm : (headSpec (Jvm.Cond.codeWith y cc 5 (some .int) [(0, 10, 13, 13)] :: xGw) (xRm (d + 1) (h2.1 + h2.2.2.1 - (h.1 + h.2.2.1)) (h2.2.1 - h.2.1))).room = R
  have hRf : R.frames = d + 9 ∧ R.cells = h2.1 + h2.2.2.1 - (h.1 + h.2.2.1) ∧ R.slots = h2.2.1 - h.2.1 ∧ R.locals = 60 * (d + 9) := by rw [← hRm]; exact ⟨rfl, rfl, rfl, rfl⟩
  refine lv_aload_n hx hb d0 rfl (lv_at hl0 3 rfl) ?_
  refine lv_iconst (v := 0) hx hb d1 (by decide) ?_
  refine lv_aload_n hx hb d2 rfl (lv_at hl0 0 rfl) ?_
  refine lv_iload_n hx hb d3 rfl (lv_at hl0 1 rfl) ?_
  refine lv_iload_n hx hb d4 rfl (lv_at hl0 2 rfl) ?_
  have hPc : ∀ U : State, U.heap = s.heap → s.WarmedH U.vm → xPre P h [.ref a, .int i1, .int i2] (List.map (xV (xAd P)) [.ref a, .int i1, .int i2]).toArray U := fun U hU hW => ⟨rfl, g.moved hW (fun a ha hna => by rw [hU]), by rw [hU]; exact hR, by rw [hU]; exact hb1, by rw [hU]; exact hb2⟩
  have hrecv : ∃ cell : Cell, s.heap[xAd P a]? = some cell ∧ cell.vm.isStatics = false ∧ s.vm.findClass RX11 = some cell.cls := by
    unfold xRecv at hrc
    dsimp only at hrc
    split at hrc
    next cj fs hk =>
      obtain rfl : cj = 11 := by rw [ho] at hrc; simpa using hrc
      have ha := xRep.inO g hR hk (by decide)
      obtain ⟨rr, hrr, hrn⟩ := x_objc (ci := 11) (by decide)
      have := va_recv g.2.1 hR.2.1 (q0 := a) (ci := 11) hrr (x_at P ha hk)
      rw [hrn] at this
      exact this
    next => cases hrc
  have hQ : ∀ (H : Heap) (t : State), xRep P h2 H → t.heap = H → ∀ locs, va_S (xAA P) s.heap H locs → xPost P (some (.int ci)) h2 (List.map (xV (xAd P)) [.ref a, .int i1, .int i2, .ref o]).toArray s (.returned (some (.int ci))) t := fun H t hR1 ht locs hS1 => ⟨rfl, by rw [ht]; exact hR1, hS1.F ht⟩
  by_cases hvn : v = some .null
  · subst hvn
    have hca' : (1 : Int32) = ci ∧ h1 = h2 := by
      simp only [xCaught, Option.some.injEq, Prod.mk.injEq] at hca
      exact hca
    obtain ⟨rfl, rfl⟩ := hca'
    refine xq_callT (As := [.int i1, .int i2]) (x := x) (mc := h1.1 + h1.2.2.1 - (h.1 + h.2.2.1)) (ms := h1.2.1 - h.2.1) hN hx hb hown hts g hlk hin hse hpd rfl rfl (xq_met hN hfl hl hs) ht (by simp [covers, hx1, hx2]) hx4 hPc va_S.rf hrecv (by rw [hml]; exact hl0.1) (rest := [.int 0, .ref (xAd P o)]) (Nat.le_of_ble_eq_true rfl) d5 ⟨by omega, by omega⟩ (by omega) (by omega) (fun H1 locs1 q hR1 hS1 => ?_)
    rw [hx3]
    refine lv_astore (lv' := [(4, .ref q), (0, .ref (xAd P a)), (1, .int i1), (2, .int i2), (3, .ref (xAd P o))]) hx hb d13 hl0 (by decide) rfl (fun ls hl => ?_)
    refine lv_iconst (v := 1) hx hb d15 (by decide) ?_
    refine W.cs (by omega) (by omega) (W.iret hx hb hr (fun t ht hW => hQ H1 t hR1 ht locs1 hS1) hS1.2.2 d16)
  · obtain ⟨z, rfl⟩ := (hv.resolve_left hvn).1 hret
    have hM := xMeets.of hN2 hvn hl hs
    unfold xMeets at hM
    unfold xLe at le
    simp only [xCaught] at hca
    split at hca
    next t n f hk =>
      split at hca
      next hc =>
        obtain ⟨rfl, hn⟩ := hc
        simp only [Option.some.injEq, Prod.mk.injEq] at hca
        obtain ⟨rfl, rfl⟩ := hca
        have hcells : (xPut h1 o (.inl (1, n, .inr (.inl (vp_updL f 0 z.toInt64))))).1 = h1.1 ∧ (xPut h1 o (.inl (1, n, .inr (.inl (vp_updL f 0 z.toInt64))))).2.2.1 = h1.2.2.1 ∧ (xPut h1 o (.inl (1, n, .inr (.inl (vp_updL f 0 z.toInt64))))).2.1 = h1.2.1 := ⟨rfl, rfl, rfl⟩
        obtain ⟨hc1, hc2, hc3⟩ := hcells
        rw [hc1, hc2, hc3] at hRf
        rw [hc1, hc2, hc3]
        refine x_call (cells := 0) (slots := 0) (mc := h1.1 + h1.2.2.1 - (h.1 + h.2.2.1)) (ms := h1.2.1 - h.2.1) (v' := some (.int z)) (h' := h1) (va_runV (As := [.int i1, .int i2]) (rest := [.int 0, .ref (xAd P o)]) (b := xAd P a) ⟨hx, hb, hml, hown, hts⟩ hM (cwV 2 hts (x_gin (fun w hw => ?_)) rfl rfl rfl ⟨rfl, m3, m4, hpd⟩ ⟨by show d + 8 + 1 ≤ _; omega, by show 8 + (xMaxL N + 11) + 60 * (d + 8) ≤ _; omega⟩) ⟨x_blind P h _, by rw [hRX]; exact hrecv, hPc⟩ rfl rfl hl0.1 rfl (Nat.le_of_ble_eq_true rfl) d5 ⟨by omega, by omega⟩) va_S.rf (fun H1 locs1 hR1 hS1 => ?_)
        · unfold wsV at hw
          rcases List.mem_append.mp hw with hw | hw
          · simp only [List.mem_cons, List.not_mem_nil, or_false] at hw
            rcases hw with rfl | rfl | rfl | rfl
            · exact hlk
            · exact hin
            · rw [hRX]; exact hse
            · exact m5
          · rcases List.mem_cons.mp hw with rfl | hw
            · exact m6
            · exact hw
        · refine lv_i2l hx hb d8 rfl ?_
          have ha := xRep.inA g hR1 hk (by decide)
          refine va_last hx hb g.2.1 hR1.2.1 (g.D hR1.1) hS1 o 1 (x_at P ha hk) rfl (i := 0) (xq_in0 hn) d9 (fun H2 locs2 hP2 hD2 hS2 => ?_)
          rw [show (0 : Int32).toNatClampNeg = 0 by decide] at hP2
          have hR2 := hR1.put (k := .inl (1, n, .inr (.inl (vp_updL f 0 z.toInt64)))) ha hP2
          refine lv_goto (tgt := 17) hx hb d10 (by decide) ?_
          refine lv_iconst (v := 0) hx hb d17 (by decide) ?_
          refine W.cs (by omega) (by omega) (W.iret hx hb hr (fun t ht hW => hQ H2 t hR2 ht locs2 hS2) hS2.2.2 d18)
      next => cases hca
    next => cases hca
end XH
