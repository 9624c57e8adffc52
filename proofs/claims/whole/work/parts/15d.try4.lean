section XD
theorem xq_u1 {α : Type} (f : Nat → ClassFile.Decoder α) {cc : ByteArray} {pc : Nat} (h : ¬ pc < cc.size) : ∃ z, ClassFile.Reader.runAt (ClassFile.Reader.u1 >>= f : ClassFile.Decoder α) cc pc = .error z := by
  refine ⟨ClassFile.HasTruncated.truncated pc, ?_⟩
  simp only [ClassFile.Reader.runAt, ClassFile.Reader.u1]
  simp [Bind.bind, ReaderT.bind, StateT.bind, Except.bind, MonadReader.read, readThe, MonadReaderOf.read, ReaderT.read, MonadState.get, getThe, MonadStateOf.get, StateT.get, Pure.pure, ReaderT.pure, StateT.pure, Except.pure, ReaderT.run, StateT.run, monadLift, MonadLift.monadLift, liftM, h, throw, throwThe, MonadExceptOf.throw, StateT.lift]
theorem xq_dlt {cc : ByteArray} {pc : Nat} {r : Instr × Nat} (h : decode cc pc = .ok r) : pc < cc.size := by
  by_cases h1 : pc < cc.size
  · exact h1
  · exfalso
    unfold decode ClassFile.Decoder.instr at h
    obtain ⟨z, hz⟩ := xq_u1 _ h1
    rw [hz] at h
    cases h
def xqS (N pc : Nat) : Bool := match decode (xCode N) pc with
  | .ok (.new j, 3) => if xNew (xOwn N) j = some 99 then decide (j = 168) && decide (decode (xCode N) (pc + 3) = .ok (.dup, 1)) && (match decode (xCode N) (pc + 4) with
      | .ok (.ldc i, 2) => (xLds (xOwn N) i).isSome && decide (decode (xCode N) (pc + 6) = .ok (.invokespecial 172, 3)) && decide (decode (xCode N) (pc + 9) = .ok (.athrow, 1))
      | .ok (.ldc_w i, 3) => (xLds (xOwn N) i).isSome && decide (decode (xCode N) (pc + 7) = .ok (.invokespecial 172, 3)) && decide (decode (xCode N) (pc + 10) = .ok (.athrow, 1))
      | _ => false) else true
  | _ => true
def xqN (N : Nat) : Prop := N = 111 ∨ N = 113 ∨ N = 159
theorem xqS_ok : ([111, 113, 159].all fun N => decide ((xCode N).size ≤ 300) && decide (xOwn N = 11) && decide (N < 270) && (List.range 300).all (xqS N)) = true := by decide +kernel
theorem xqN.ok {N : Nat} (h : xqN N) : xOwn N = 11 ∧ N < 270 ∧ ∀ pc r, decode (xCode N) pc = .ok r → xqS N pc = true := by
  have h1 := List.all_eq_true.mp xqS_ok N (by rcases h with rfl | rfl | rfl <;> simp)
  simp only [Bool.and_eq_true, decide_eq_true_eq] at h1
  refine ⟨h1.1.1.2, h1.1.2, fun pc r hr => ?_⟩
  exact List.all_eq_true.mp h1.2 pc (List.mem_range.mpr (Nat.lt_of_lt_of_le (xq_dlt hr) h1.1.1.1))
/-- the places of a throw -/
theorem xqN.at {N : Nat} (h : xqN N) {pc j : Nat} (hd : decode (xCode N) pc = .ok (.new j, 3)) (hj : xNew (xOwn N) j = some 99) :
    j = 168 ∧ decode (xCode N) (pc + 3) = .ok (.dup, 1) ∧ ∃ i t, xLds 11 i = some t ∧
      ((decode (xCode N) (pc + 4) = .ok (.ldc i, 2) ∧ decode (xCode N) (pc + 6) = .ok (.invokespecial 172, 3) ∧ decode (xCode N) (pc + 9) = .ok (.athrow, 1)) ∨
       (decode (xCode N) (pc + 4) = .ok (.ldc_w i, 3) ∧ decode (xCode N) (pc + 7) = .ok (.invokespecial 172, 3) ∧ decode (xCode N) (pc + 10) = .ok (.athrow, 1))) := by
  have h1 := h.ok.2.2 pc _ hd
  unfold xqS at h1
  split at h1
  next j' hd' =>
    rw [hd] at hd'
    cases hd'
    rw [if_pos hj, h.ok.1] at h1
    simp only [Bool.and_eq_true, decide_eq_true_eq] at h1
    obtain ⟨⟨e1, e2⟩, e3⟩ := h1
    refine ⟨e1, e2, ?_⟩
    split at e3
    next i hi =>
      simp only [Bool.and_eq_true, decide_eq_true_eq] at e3
      obtain ⟨t, ht⟩ := Option.isSome_iff_exists.mp e3.1.1
      exact ⟨i, t, ht, Or.inl ⟨hi, e3.1.2, e3.2⟩⟩
    next i hi =>
      simp only [Bool.and_eq_true, decide_eq_true_eq] at e3
      obtain ⟨t, ht⟩ := Option.isSome_iff_exists.mp e3.1.1
      exact ⟨i, t, ht, Or.inr ⟨hi, e3.1.2, e3.2⟩⟩
    next => cases e3
  next hno => exact absurd hd (hno j)
/-- what a throw leaves -/
def xqQ (P : xP) (h' : xH) (mc ms : Nat) : Array Value → State → Outcome → State → Prop := fun _ st o t => ∃ (a : Nat) (ce : Cell), o = .threw a ∧ t.heap[a]? = some ce ∧ st.vm.findClass xqX = some ce.cls ∧ ce.vm = .none ∧ xRep P h' t.heap ∧ va_F (xAA P) st t ∧ st.WarmedH t.vm ∧ ∃ L : List Loc, st.sameButNew ({ t with vm := st.vm } : State) L mc ms ∧ ∀ q ∈ L, xAA P q.base
theorem xq_same {s t : State} {k n : Nat} (h : s.sameButNew t [] k n) {q : Nat} (hq : q < s.heap.size) : t.heap[q]? = s.heap[q]? := by
  obtain ⟨c', h1, h2, h3, h4⟩ := h.2.2.2.2.2 q s.heap[q] (Array.getElem?_eq_getElem hq)
  rw [h1, Array.getElem?_eq_getElem hq]
  congr 1
  rw [h2]
  have e : c'.slots = s.heap[q].slots := Array.ext_getElem? (fun i => h4 i (fun z => by cases z))
  rw [e]
end XD
