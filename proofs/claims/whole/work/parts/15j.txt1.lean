section YA
def xtG (w : Jvm.Cond) : Bool := ((xTb 1).any (fun z => decide (z = w)) || (xTb 2).any (fun z => decide (z = w)) || (xTb 7).any (fun z => decide (z = w)) || (xTb 9).any (fun z => decide (z = w))) && goodWord w
theorem xtG_in {w : Jvm.Cond} (h : xtG w = true) : w ∈ xGw := by
  simp only [xtG, Bool.and_eq_true, Bool.or_eq_true] at h
  refine List.mem_filter.mpr ⟨?_, h.2⟩
  rcases h.1 with ((h | h) | h) | h
  · exact xq_tb h
  · exact xq_tb h
  · exact xq_tb h
  · exact xq_tb h
/-- a method that makes and changes nothing -/
def xtRm (k : Nat) : Room := { frames := k, cells := 0, slots := 0, locals := 30 * k }
def xtPre (P : xP) (as : List Value) : Array Value → State → Prop := va_Pc as (fun U => xGl P U)
def xtPost (v : Option Value) : Array Value → State → Outcome → State → Prop := fun _ st o t => o = .returned v ∧ t.heap = st.heap
abbrev xtNo : Addr → Prop := fun _ => False
theorem xt_blind (P : xP) (as : List Value) : FrameBlind (xtPre P as) := by
  intro a U g mk q
  obtain ⟨q1, q2⟩ := q
  exact ⟨q1, q2.moved (U := U.calling g mk a) (State.WarmedH.refl U) (fun _ _ _ => rfl)⟩
variable {P : xP} {p : Program} {l : Launch} {e : Env} {R : Room} {s : State} {m : MethodId} {args : Array Value} {below : List Frame} {meth : Method} {c : Code} {Q : State → Prop} {cc : ByteArray} {H : Heap} {locs : List Loc} {cells slots nL : Nat}
theorem xt_call {v' : Option Value} {pc : Nat} {arr : Array Slot} {st0 rest : List Value} (hr : va_Run p l e R s m args below meth c H locs cells slots 0 0 (F0 m pc arr st0) rest (fun st o t => o = .returned v' ∧ t.heap = st.heap) xtNo)
    (kk : W p l e R s m args below meth c H locs cells slots Q (F0 m (pc + 3) arr (v'.toList ++ rest))) : W p l e R s m args below meth c H locs cells slots Q (F0 m pc arr st0) := by
  intro T hT X
  obtain ⟨v, st₀, t, T', L, h0, X', hL, e1, e2, ⟨hv, hp⟩, st⟩ := hr T hT X
  cases hv
  have hL0 : L = [] := by
    cases L with
    | nil => rfl
    | cons q t => exact (hL q List.mem_cons_self).elim
  subst hL0
  rw [List.append_nil] at X'
  obtain ⟨t2, a1, b1⟩ := kk T' (by rw [e1, hp, h0]) X'
  exact ⟨t2, st t2 a1, b1⟩
/-- an instance method's call -/
theorem xt_V (hx : p.tables.exec = Jvm.exec) (hb : c.code = cc) (hml : c.maxLocals = nL) {own : String} (hown : s.vm.findClass own = some m.cls) (hts : ∀ w ∈ xGw, w.before args s = true) (g : xGl P s) (hS : va_S (xAA P) s.heap H locs) {k index n maxL : Nat} {y : MethodName} {bytes : ByteArray} {ret : Option FieldType} {b : Nat} {As rest : List Value} {v : Option Value}
    (hM : Met l y (Jvm.Cond.code y bytes maxL ret :: xGw) (xtRm k) (xtPre P (.ref b :: As)) (xtPost v) 0 0 xtNo) (hlk : Jvm.Cond.methodLink own index y ∈ xGw) (hin : Jvm.Cond.instanceMethod y ∈ xGw) (hse : Jvm.Cond.selects y.cls y y ∈ xGw) (hini : Jvm.Cond.initialized y.cls ∈ xGw) (hc : Jvm.Cond.code y bytes maxL ret ∈ xGw)
    (hy : y.cls ≠ "java/lang/invoke/MethodHandle" ∧ y.cls ≠ "java/lang/invoke/VarHandle" ∧ (parseMethodDescriptor y.desc).map (fun d => d.parameters.length) = some n) (hn : As.length = n) (hrv : ∃ cell : Cell, H[b]? = some cell ∧ cell.vm.isStatics = false ∧ s.vm.findClass y.cls = some cell.cls)
    (hmx : maxL ≤ 11) (hfr : k + 1 ≤ R.frames) (hlo : 30 * (k + 1) ≤ R.locals) (hcap : cells ≤ R.cells ∧ slots ≤ R.slots) {pc : Nat} {arr : Array Slot} (hsz : arr.size = nL) (hroom : (rest.map fun v => v.category).sum ≤ 8) (hd : decode cc pc = .ok (.invokevirtual index, 3))
    (kk : W p l e R s m args below meth c H locs cells slots Q (F0 m (pc + 3) arr (v.toList ++ rest))) : W p l e R s m args below meth c H locs cells slots Q (F0 m pc arr (As.reverse ++ .ref b :: rest)) := by
  refine xt_call (va_runV (As := As) (rest := rest) (b := b) ⟨hx, hb, hml, hown, hts⟩ hM (cwV n hts (x_gin (fun w hw => ?_)) rfl rfl rfl ⟨rfl, hy.1, hy.2.1, hy.2.2⟩ ⟨?_, ?_⟩) ⟨xt_blind P _, hrv, fun U hU hW => ⟨rfl, g.moved hW (fun a ha hna => by rw [hU]; exact hS.2.1 a ha hna)⟩⟩ rfl hn hsz rfl ?_ hd ⟨?_, ?_⟩) kk
  · unfold wsV at hw
    rcases List.mem_append.mp hw with hw | hw
    · simp only [List.mem_cons, List.not_mem_nil, or_false] at hw
      rcases hw with rfl | rfl | rfl | rfl
      · exact hlk
      · exact hin
      · exact hse
      · exact hini
    · rcases List.mem_cons.mp hw with rfl | hw
      · exact hc
      · exact hw
  · exact hfr
  · show 8 + (maxL + 11) + 30 * k ≤ R.locals
    omega
  · show 2 * 0 + _ ≤ 8
    omega
  · omega
  · omega
/-- a static method's call -/
theorem xt_S (hx : p.tables.exec = Jvm.exec) (hb : c.code = cc) (hml : c.maxLocals = nL) {own : String} (hown : s.vm.findClass own = some m.cls) (hts : ∀ w ∈ xGw, w.before args s = true) (g : xGl P s) (hS : va_S (xAA P) s.heap H locs) {k index n maxL : Nat} {y : MethodName} {bytes : ByteArray} {ret : Option FieldType} {As rest : List Value} {v : Option Value}
    (hM : Met l y (Jvm.Cond.code y bytes maxL ret :: xGw) (xtRm k) (xtPre P As) (xtPost v) 0 0 xtNo) (hlk : Jvm.Cond.methodLink own index y ∈ xGw) (hst : Jvm.Cond.static y ∈ xGw) (hini : Jvm.Cond.initialized y.cls ∈ xGw) (hc : Jvm.Cond.code y bytes maxL ret ∈ xGw)
    (hy : y.cls ≠ "java/lang/invoke/MethodHandle" ∧ y.cls ≠ "java/lang/invoke/VarHandle" ∧ (parseMethodDescriptor y.desc).map (fun d => d.parameters.length) = some n) (hn : As.length = n)
    (hmx : maxL ≤ 11) (hfr : k + 1 ≤ R.frames) (hlo : 30 * (k + 1) ≤ R.locals) (hcap : cells ≤ R.cells ∧ slots ≤ R.slots) {pc : Nat} {arr : Array Slot} (hsz : arr.size = nL) (hroom : (rest.map fun v => v.category).sum ≤ 8) (hd : decode cc pc = .ok (.invokestatic index, 3))
    (kk : W p l e R s m args below meth c H locs cells slots Q (F0 m (pc + 3) arr (v.toList ++ rest))) : W p l e R s m args below meth c H locs cells slots Q (F0 m pc arr (As.reverse ++ rest)) := by
  refine xt_call (va_runS (As := As) (rest := rest) ⟨hx, hb, hml, hown, hts⟩ hM (va_cwS n hts (x_gin (fun w hw => ?_)) rfl rfl rfl ⟨hy.1, hy.2.1, hy.2.2⟩ ⟨?_, ?_⟩) ⟨xt_blind P _, fun U hU hW => ⟨rfl, g.moved hW (fun a ha hna => by rw [hU]; exact hS.2.1 a ha hna)⟩⟩ rfl hn hsz rfl ?_ hd ⟨?_, ?_⟩) kk
  · unfold va_wsS at hw
    rcases List.mem_append.mp hw with hw | hw
    · simp only [List.mem_cons, List.not_mem_nil, or_false] at hw
      rcases hw with rfl | rfl | rfl
      · exact hlk
      · exact hst
      · exact hini
    · rcases List.mem_cons.mp hw with rfl | hw
      · exact hc
      · exact hw
  · exact hfr
  · show 8 + (maxL + 11) + 30 * k ≤ R.locals
    omega
  · show 2 * 0 + _ ≤ 8
    omega
  · omega
  · omega
end YA
