/-! ===== the claim out of the law as a plain function ===== -/
/-- the constants at the law's entry: two rows of Balance, the script -/
def xKc0 (L : Nat) (xs : Nat → Int32) : Nat → xE := fun a =>
  if a = xKb then .inl (10, 8, .inl (fun j => ([0, 0, 1, 0, 2, 0, 1, 0] : List Int32).getD j 0))
  else if a = xKb + 1 then .inl (10, 8, .inl (fun j => ([0, 0, 1, 1, 2, 2, 2, 2] : List Int32).getD j 0))
  else if a = xKb + 2 then .inl (10, L, .inl xs) else xNo
/-- the heap at the law's entry -/
def x0 (L : Nat) (xs : Nat → Int32) : xH := (0, 0, 0, xKc0 L xs)
/-- the law, as a plain function, answers 1 on every script, in its room -/
def xClaim : Prop := ∀ (L : Nat) (xs : Nat → Int32), L ≤ 2560 → ∃ h1 : xH, f_270 (xKb + 2) (x0 L xs) = some (1, h1) ∧ h1.1 + h1.2.2.1 ≤ 601024 ∧ h1.2.1 ≤ 7293034
def R_law : String := "FelledHasLostLaw"
def lw_P (b : Addr) (xs : List Int32) (args : Array Value) (s : State) : Prop := args = #[.ref b] ∧ s.IntsAt b xs ∧ xs.length ≤ 2560 ∧ (Jvm.Cond.and given_1 narrow_1).before args s = true
def lw_Q (_ : Array Value) (s : State) (o : Outcome) (t : State) : Prop := o = .returned (some (.int 1)) ∧ Framed s o t [] 601024 7293034
def lw_Z (below : List Frame) (a : Array Value) (s : State) : State → Prop := fun t => ∃ o, t.status = .running ∧ Ended t below o ∧ lw_Q a s o t
theorem lw_ret {p : Program} {l : Launch} {e : Env} {s : State} {m : MethodId} {below : List Frame} {meth : Method} {c : Code} {b : Nat} (hx : p.tables.exec = Jvm.exec) (hb : c.code = code) (hr : meth.sig.returnType = ret) (hlocks : meth.locks = false) {pc : Nat} {H : Heap} {ls : Array Slot} (hdg : decode code pc = .ok (.ireturn, 1)) : W p l e room_1 s m #[Value.ref b] below meth c H [] 601024 7293034 (lw_Z below #[Value.ref b] s) (F0 m pc ls [.int 1]) := by
  intro T hT X
  obtain ⟨fs, hret, hrun, hended, hW, hframe⟩ := X.leave (v := some (.int 1)) (hlocks := hlocks) (fun h => by rw [hr] at h; cases h)
  have hmeth' : T.vm.method? m = some meth := X.method'
  refine ⟨T.setFrames fs, ?_, .returned (some (.int 1)), hrun, hended, rfl, ⟨_, rfl⟩, hW, hframe⟩
  jvm_step X.here [X.here.top, hx, hb, hdg, hmeth', hr, ret, narrow_b1]
  (try refine ⟨rfl, ?_⟩); (try refine ⟨rfl, ?_⟩)
  first | (intro acts; rw [hret _ acts rfl rfl rfl]) | rw [hret _ _ rfl rfl rfl]
  exact Steps.refl _
def lw_At (p : Program) (s : State) (m : MethodId) (meth : Method) (c : Code) (b L : Nat) (xs : Nat → Int32) : Prop :=
  p.tables.exec = Jvm.exec ∧ c.code = code ∧ meth.sig.returnType = ret ∧ c.maxLocals = 8 ∧ s.vm.findClass R_law = some m.cls ∧ (∀ w ∈ lw_tbl, w.before #[Value.ref b] s = true) ∧ va_X b L xs s s.heap ∧ b < s.heap.size ∧ meth.locks = false ∧ (Jvm.Cond.and given_1 narrow_1).before #[Value.ref b] s = true
theorem x0_rep (P : xP) (L : Nat) (xs : Nat → Int32) (hP : xKc P = xKc0 L xs) (H : Heap) : xRep P (x0 L xs) H := by
  refine ⟨Nat.zero_le _, fun k q hk => ?_, fun a _ ha => ?_, fun a _ => ?_⟩
  · simp [xW, x0] at hk
  · show xKc0 L xs a = xNo
    unfold xKc0
    rw [if_neg (by omega), if_neg (by omega), if_neg (by omega)]
  · rw [hP]; rfl
/-- from the entry: what the plain function answers, the machine answers -/
theorem whole_of {p : Program} {e : Env} {s : State} {m : MethodId} {below : List Frame} {meth : Method} {c : Code} (l : Launch) {b L : Nat} {xs : Nat → Int32} (hL : L ≤ 2560) (C0 : lw_At p s m meth c b L xs) (P : xP) (hP : xKc P = xKc0 L xs) (hbs : xBs P = s.heap.size) (hb2 : xAd P (xKb + 2) = b) (g : xGl P s) (hT : xTextOK l P) (hY : xTryOK l P) (hC : xClaim) :
    W p l e room_1 s m #[Value.ref b] below meth c s.heap [] 0 0 (lw_Z below #[Value.ref b] s) (entryFrame m ([Value.ref b] : List Value).toArray 8) := by
  obtain ⟨hx, hb, hr, hml, hown, hts, hX, hbl, hlocks, hgv⟩ := C0
  obtain ⟨h1, hf, hc1, hc2⟩ := hC L xs hL
  obtain ⟨n, v, h', hrun, rfl, rfl⟩ := e_270 0 (fun v h2 => v = some (.int 1) ∧ h2 = h1) hf ⟨rfl, rfl⟩
  have hs := xSound hT hY n _ 270 0 _ [] (x0 L xs) _ h' hrun
  have F : xFr P 0 (0 + 124) 270 p room_1 s m #[Value.ref b] meth c := by
    refine ⟨hx, hb, hr, hml, hown, fun w hw => hts w (List.mem_filter.mp hw).1, hlocks, fun hi => ?_, g, by decide, by decide, ?_, ?_⟩
    · exact absurd hi (by decide +kernel)
    · rw [hbs]; exact Nat.le_refl _
    · rw [hbs]; exact Nat.le_refl _
  have k := hs p e room_1 s m #[Value.ref b] below meth c (lw_Z below #[Value.ref b] s) 0 0 F ⟨hc1, hc2⟩ ?_ ?_
  · rw [lg_entry_eq]
    have hls := x_entry P 270 [.ref (xKb + 2)] (by decide)
    have e1 : ([.ref (xKb + 2)] : List Value).map (xV (xAd P)) = [Value.ref b] := by
      show [Value.ref (xAd P (xKb + 2))] = _
      rw [hb2]
    rw [e1] at hls
    exact k _ s.heap [] hls (x0_rep P L xs hP s.heap) va_S.rf (Nat.le_refl _) (Nat.le_refl _)
  · intro pc i st arr H locs hd hri hR hS
    have hri' : i = .ireturn ∧ st = [.int 1] := by
      cases i with
      | ireturn =>
        simp only [xRetI] at hri
        split at hri
        next x =>
          split at hri
          next => cases hri; exact ⟨rfl, rfl⟩
          next => split at hri <;> cases hri; exact ⟨rfl, rfl⟩
          next => cases hri
        next => cases hri
      | return_ => simp only [xRetI] at hri; split at hri <;> cases hri
      | lreturn =>
        simp only [xRetI] at hri
        split at hri
        next => split at hri <;> cases hri
        next => cases hri
      | areturn =>
        simp only [xRetI] at hri
        split at hri
        next => split at hri <;> cases hri
        next => cases hri
      | _ => cases hri
    obtain ⟨rfl, rfl⟩ := hri'
    refine va_forget (fun q hq => by have := hS.2.2 q hq; rw [← hbs]; exact this) ?_
    refine W.widen (k := 601024) (n := 7293034) (by omega) (by omega) ?_
    exact lw_ret hx hb hr hlocks hd
  · intro j pc ls h2 _ _ _ hv
    cases hv
