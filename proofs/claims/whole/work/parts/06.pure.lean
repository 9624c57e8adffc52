/-! ===== one instruction: stack, locals, jumps ===== -/
/-- what holds along a frame -/
def xFr (P : xP) (c0 d M : Nat) (p : Program) (R : Room) (s : State) (m : MethodId) (args : Array Value) (meth : Method) (c : Code) : Prop :=
  p.tables.exec = Jvm.exec ∧ c.code = xCode M ∧ meth.sig.returnType = xRet M ∧ c.maxLocals = xMaxL M ∧ s.vm.findClass (xCls (xOwn M)) = some m.cls ∧ (∀ w ∈ xGw, w.before args s = true) ∧ meth.locks = false ∧ (xIsIn M = true → meth.name = "<init>") ∧ xGl P s ∧ d + 8 ≤ R.frames ∧ 60 * (d + 8) ≤ R.locals ∧ xBs P ≤ s.heap.size ∧ s.heap.size ≤ xBs P + c0
/-- from any state with that picture the machine comes to Q -/
def xGo (P : xP) (M : Nat) (p : Program) (l : Launch) (e : Env) (R : Room) (s : State) (m : MethodId) (args : Array Value) (below : List Frame) (meth : Method) (c : Code) (Q : State → Prop) (c0 s0 : Nat) (pc : Nat) (ls : xL) (st : List Value) (h : xH) : Prop :=
  ∀ (arr : Array Slot) (H : Heap) (locs : List Loc), xLs P M arr ls → xRep P h H → va_S (xAA P) s.heap H locs → c0 ≤ h.1 + h.2.2.1 → s0 ≤ h.2.1 → W p l e R s m args below meth c H locs (h.1 + h.2.2.1 - c0) (h.2.1 - s0) Q (F0 m pc arr (st.map (xV (xAd P))))
section XP
variable {P : xP} {d M : Nat} {p : Program} {l : Launch} {e : Env} {R : Room} {s : State} {m : MethodId} {args : Array Value} {below : List Frame} {meth : Method} {c : Code} {Q : State → Prop} {c0 s0 : Nat}
theorem xs_ldI (F : xFr P c0 d M p R s m args meth c) {pc pc2 i : Nat} {ls : xL} {st : List Value} {h : xH} {a : xA} (hd : ∀ (x : Int32) (arr : Array Slot) (H : Heap) (locs : List Loc) (cells slots : Nat) (rest : List Value), arr[i]? = some (.val (.int x)) → W p l e R s m args below meth c H locs cells slots Q (F0 m pc2 arr (.int x :: rest)) → W p l e R s m args below meth c H locs cells slots Q (F0 m pc arr rest))
    (hs : xLdI pc2 ls st h i = some a) : ∃ pc' ls' st', a = .inl (pc', ls', st', h) ∧ (xGo P M p l e R s m args below meth c Q c0 s0 pc' ls' st' h → xGo P M p l e R s m args below meth c Q c0 s0 pc ls st h) := by
  unfold xLdI at hs
  split at hs
  next x hx =>
    obtain rfl := Option.some.inj hs
    exact ⟨_, _, _, rfl, fun k arr H locs h1 h2 h3 h4 h5 => hd x arr H locs _ _ _ (h1.2.2.2 i _ hx) (k arr H locs h1 h2 h3 h4 h5)⟩
  next => cases hs
theorem xs_ldL (F : xFr P c0 d M p R s m args meth c) {pc pc2 i : Nat} {ls : xL} {st : List Value} {h : xH} {a : xA} (hd : ∀ (x : Int64) (arr : Array Slot) (H : Heap) (locs : List Loc) (cells slots : Nat) (rest : List Value), arr[i]? = some (.val (.long x)) → W p l e R s m args below meth c H locs cells slots Q (F0 m pc2 arr (.long x :: rest)) → W p l e R s m args below meth c H locs cells slots Q (F0 m pc arr rest))
    (hs : xLdL pc2 ls st h i = some a) : ∃ pc' ls' st', a = .inl (pc', ls', st', h) ∧ (xGo P M p l e R s m args below meth c Q c0 s0 pc' ls' st' h → xGo P M p l e R s m args below meth c Q c0 s0 pc ls st h) := by
  unfold xLdL at hs
  split at hs
  next x hx =>
    obtain rfl := Option.some.inj hs
    exact ⟨_, _, _, rfl, fun k arr H locs h1 h2 h3 h4 h5 => hd x arr H locs _ _ _ (h1.2.2.2 i _ hx) (k arr H locs h1 h2 h3 h4 h5)⟩
  next => cases hs
theorem xs_ldA (F : xFr P c0 d M p R s m args meth c) {pc pc2 i : Nat} {ls : xL} {st : List Value} {h : xH} {a : xA} (hd : ∀ (x : Nat) (arr : Array Slot) (H : Heap) (locs : List Loc) (cells slots : Nat) (rest : List Value), arr[i]? = some (.val (.ref x)) → W p l e R s m args below meth c H locs cells slots Q (F0 m pc2 arr (.ref x :: rest)) → W p l e R s m args below meth c H locs cells slots Q (F0 m pc arr rest))
    (hs : xLdA pc2 ls st h i = some a) : ∃ pc' ls' st', a = .inl (pc', ls', st', h) ∧ (xGo P M p l e R s m args below meth c Q c0 s0 pc' ls' st' h → xGo P M p l e R s m args below meth c Q c0 s0 pc ls st h) := by
  unfold xLdA at hs
  split at hs
  next x hx =>
    obtain rfl := Option.some.inj hs
    exact ⟨_, _, _, rfl, fun k arr H locs h1 h2 h3 h4 h5 => hd (xAd P x) arr H locs _ _ _ (h1.2.2.2 i _ hx) (k arr H locs h1 h2 h3 h4 h5)⟩
  next => cases hs
theorem xs_lt {ls ls' : xL} {i : Nat} {v : Value} (h : xSet ls i v = some ls') : i < ls.length := by
  unfold xSet at h
  split at h
  next hc => exact hc
  next => cases h
theorem xs_lt2 {ls ls' : xL} {i : Nat} {v : Value} (h : xSet2 ls i v = some ls') : i + 1 < ls.length := by
  unfold xSet2 at h
  split at h
  next hc => exact hc
  next => cases h
theorem xs_stI (F : xFr P c0 d M p R s m args meth c) {pc pc2 i : Nat} {ls : xL} {st : List Value} {h : xH} {a : xA} (hd : ∀ (x : Int32) (arr : Array Slot) (H : Heap) (locs : List Loc) (cells slots : Nat) (rest : List Value) (lv : List (Nat × Value)), lv_has arr (xMaxL M) lv → i < xMaxL M → (∀ arr' : Array Slot, lv_has arr' (xMaxL M) ((i, Value.int x) :: lv.filter (fun q => !(q.1 == i) && !(q.1 + 1 == i && q.2.category == 2))) → W p l e R s m args below meth c H locs cells slots Q (F0 m pc2 arr' rest)) → W p l e R s m args below meth c H locs cells slots Q (F0 m pc arr (.int x :: rest)))
    (hs : xStI pc2 ls st h i = some a) : ∃ pc' ls' st', a = .inl (pc', ls', st', h) ∧ (xGo P M p l e R s m args below meth c Q c0 s0 pc' ls' st' h → xGo P M p l e R s m args below meth c Q c0 s0 pc ls st h) := by
  unfold xStI at hs
  split at hs
  next x r =>
    cases hl : xSet ls i (.int x) with
    | none => rw [hl] at hs; cases hs
    | some ls' =>
      rw [hl] at hs
      obtain rfl := Option.some.inj hs
      exact ⟨_, _, _, rfl, fun k arr H locs h1 h2 h3 h4 h5 => hd x arr H locs _ _ _ _ h1.has (by rw [← h1.1]; exact xs_lt hl) (fun arr' h' => k arr' H locs (h1.set hl h') h2 h3 h4 h5)⟩
  next => cases hs
theorem xs_stL (F : xFr P c0 d M p R s m args meth c) {pc pc2 i : Nat} {ls : xL} {st : List Value} {h : xH} {a : xA} (hd : ∀ (x : Int64) (arr : Array Slot) (H : Heap) (locs : List Loc) (cells slots : Nat) (rest : List Value) (lv : List (Nat × Value)), lv_has arr (xMaxL M) lv → i + 1 < xMaxL M → (∀ arr' : Array Slot, lv_has arr' (xMaxL M) ((i, Value.long x) :: lv.filter (fun q => !(q.1 == i) && (!(q.1 == i + 1) && !(q.1 + 1 == i && q.2.category == 2)))) → W p l e R s m args below meth c H locs cells slots Q (F0 m pc2 arr' rest)) → W p l e R s m args below meth c H locs cells slots Q (F0 m pc arr (.long x :: rest)))
    (hs : xStL pc2 ls st h i = some a) : ∃ pc' ls' st', a = .inl (pc', ls', st', h) ∧ (xGo P M p l e R s m args below meth c Q c0 s0 pc' ls' st' h → xGo P M p l e R s m args below meth c Q c0 s0 pc ls st h) := by
  unfold xStL at hs
  split at hs
  next x r =>
    cases hl : xSet2 ls i (.long x) with
    | none => rw [hl] at hs; cases hs
    | some ls' =>
      rw [hl] at hs
      obtain rfl := Option.some.inj hs
      exact ⟨_, _, _, rfl, fun k arr H locs h1 h2 h3 h4 h5 => hd x arr H locs _ _ _ _ h1.has (by rw [← h1.1]; exact xs_lt2 hl) (fun arr' h' => k arr' H locs (h1.set2 hl h') h2 h3 h4 h5)⟩
  next => cases hs
theorem xs_stA (F : xFr P c0 d M p R s m args meth c) {pc pc2 i : Nat} {ls : xL} {st : List Value} {h : xH} {a : xA} (hd : ∀ (x : Nat) (arr : Array Slot) (H : Heap) (locs : List Loc) (cells slots : Nat) (rest : List Value) (lv : List (Nat × Value)), lv_has arr (xMaxL M) lv → i < xMaxL M → (∀ arr' : Array Slot, lv_has arr' (xMaxL M) ((i, Value.ref x) :: lv.filter (fun q => !(q.1 == i) && !(q.1 + 1 == i && q.2.category == 2))) → W p l e R s m args below meth c H locs cells slots Q (F0 m pc2 arr' rest)) → W p l e R s m args below meth c H locs cells slots Q (F0 m pc arr (.ref x :: rest)))
    (hs : xStA pc2 ls st h i = some a) : ∃ pc' ls' st', a = .inl (pc', ls', st', h) ∧ (xGo P M p l e R s m args below meth c Q c0 s0 pc' ls' st' h → xGo P M p l e R s m args below meth c Q c0 s0 pc ls st h) := by
  unfold xStA at hs
  split at hs
  next x r =>
    cases hl : xSet ls i (.ref x) with
    | none => rw [hl] at hs; cases hs
    | some ls' =>
      rw [hl] at hs
      obtain rfl := Option.some.inj hs
      exact ⟨_, _, _, rfl, fun k arr H locs h1 h2 h3 h4 h5 => hd (xAd P x) arr H locs _ _ _ _ h1.has (by rw [← h1.1]; exact xs_lt hl) (fun arr' h' => k arr' H locs (h1.set hl h') h2 h3 h4 h5)⟩
  next => cases hs
theorem xs_J {pc : Nat} {o : Int} {ls : xL} {st : List Value} {h : xH} {a : xA} (hs : xJ pc o ls st h = some a) : ∃ t : Nat, (pc : Int) + o = (t : Int) ∧ a = .inl (t, ls, st, h) := by
  unfold xJ at hs
  split at hs
  next hc =>
    obtain rfl := Option.some.inj hs
    exact ⟨_, (Int.toNat_of_nonneg hc).symm, rfl⟩
  next => cases hs
theorem xs_i2 (F : xFr P c0 d M p R s m args meth c) {pc pc2 : Nat} {ls : xL} {st : List Value} {h : xH} {a : xA} {f : Int32 → Int32 → Int32} (hd : ∀ (x : Int32) (y : Int32) (arr : Array Slot) (H : Heap) (locs : List Loc) (cells slots : Nat) (rest : List Value), W p l e R s m args below meth c H locs cells slots Q (F0 m pc2 arr (.int (f x y) :: rest)) → W p l e R s m args below meth c H locs cells slots Q (F0 m pc arr (.int y :: .int x :: rest))) (hv : ∀ x y : Int32, xV (xAd P) (.int (f x y)) = .int (f x y))
    (hs : xI2 pc2 ls st h f = some a) : ∃ pc' ls' st', a = .inl (pc', ls', st', h) ∧ (xGo P M p l e R s m args below meth c Q c0 s0 pc' ls' st' h → xGo P M p l e R s m args below meth c Q c0 s0 pc ls st h) := by
  unfold xI2 at hs
  split at hs
  next y x r =>
    obtain rfl := Option.some.inj hs
    refine ⟨_, _, _, rfl, fun k arr H locs h1 h2 h3 h4 h5 => hd x y arr H locs _ _ _ ?_⟩
    have kk := k arr H locs h1 h2 h3 h4 h5
    simp only [List.map_cons] at kk
    exact kk
  next => cases hs
theorem xs_id (F : xFr P c0 d M p R s m args meth c) {pc pc2 : Nat} {ls : xL} {st : List Value} {h : xH} {a : xA} {f : Int32 → Int32 → Int32} (hd : ∀ (x : Int32) (y : Int32) (_ : ¬ y = 0) (arr : Array Slot) (H : Heap) (locs : List Loc) (cells slots : Nat) (rest : List Value), W p l e R s m args below meth c H locs cells slots Q (F0 m pc2 arr (.int (f x y) :: rest)) → W p l e R s m args below meth c H locs cells slots Q (F0 m pc arr (.int y :: .int x :: rest))) (hv : ∀ _ : Unit, True = True)
    (hs : xID pc2 ls st h f = some a) : ∃ pc' ls' st', a = .inl (pc', ls', st', h) ∧ (xGo P M p l e R s m args below meth c Q c0 s0 pc' ls' st' h → xGo P M p l e R s m args below meth c Q c0 s0 pc ls st h) := by
  unfold xID at hs
  split at hs
  next y x r =>
    split at hs
    next => cases hs
    next hy =>
      obtain rfl := Option.some.inj hs
      exact ⟨_, _, _, rfl, fun k arr H locs h1 h2 h3 h4 h5 => hd x y hy arr H locs _ _ _ (k arr H locs h1 h2 h3 h4 h5)⟩
  next => cases hs
theorem xs_ld (F : xFr P c0 d M p R s m args meth c) {pc pc2 : Nat} {ls : xL} {st : List Value} {h : xH} {a : xA} {f : Int64 → Int64 → Int64} (hd : ∀ (x : Int64) (y : Int64) (_ : ¬ y = 0) (arr : Array Slot) (H : Heap) (locs : List Loc) (cells slots : Nat) (rest : List Value), W p l e R s m args below meth c H locs cells slots Q (F0 m pc2 arr (.long (f x y) :: rest)) → W p l e R s m args below meth c H locs cells slots Q (F0 m pc arr (.long y :: .long x :: rest))) (hv : ∀ _ : Unit, True = True)
    (hs : xLD pc2 ls st h f = some a) : ∃ pc' ls' st', a = .inl (pc', ls', st', h) ∧ (xGo P M p l e R s m args below meth c Q c0 s0 pc' ls' st' h → xGo P M p l e R s m args below meth c Q c0 s0 pc ls st h) := by
  unfold xLD at hs
  split at hs
  next y x r =>
    split at hs
    next => cases hs
    next hy =>
      obtain rfl := Option.some.inj hs
      exact ⟨_, _, _, rfl, fun k arr H locs h1 h2 h3 h4 h5 => hd x y hy arr H locs _ _ _ (k arr H locs h1 h2 h3 h4 h5)⟩
  next => cases hs
theorem xs_i1 (F : xFr P c0 d M p R s m args meth c) {pc pc2 : Nat} {ls : xL} {st : List Value} {h : xH} {a : xA} {f : Int32 → Value} (hd : ∀ (x : Int32) (arr : Array Slot) (H : Heap) (locs : List Loc) (cells slots : Nat) (rest : List Value), W p l e R s m args below meth c H locs cells slots Q (F0 m pc2 arr (f x :: rest)) → W p l e R s m args below meth c H locs cells slots Q (F0 m pc arr (.int x :: rest))) (hv : ∀ x : Int32, xV (xAd P) (f x) = f x)
    (hs : xI1 pc2 ls st h f = some a) : ∃ pc' ls' st', a = .inl (pc', ls', st', h) ∧ (xGo P M p l e R s m args below meth c Q c0 s0 pc' ls' st' h → xGo P M p l e R s m args below meth c Q c0 s0 pc ls st h) := by
  unfold xI1 at hs
  split at hs
  next x r =>
    obtain rfl := Option.some.inj hs
    refine ⟨_, _, _, rfl, fun k arr H locs h1 h2 h3 h4 h5 => hd x arr H locs _ _ _ ?_⟩
    have kk := k arr H locs h1 h2 h3 h4 h5
    simp only [List.map_cons] at kk
    rw [hv] at kk
    exact kk
  next => cases hs
theorem xs_l1 (F : xFr P c0 d M p R s m args meth c) {pc pc2 : Nat} {ls : xL} {st : List Value} {h : xH} {a : xA} {f : Int64 → Value} (hd : ∀ (x : Int64) (arr : Array Slot) (H : Heap) (locs : List Loc) (cells slots : Nat) (rest : List Value), W p l e R s m args below meth c H locs cells slots Q (F0 m pc2 arr (f x :: rest)) → W p l e R s m args below meth c H locs cells slots Q (F0 m pc arr (.long x :: rest))) (hv : ∀ x : Int64, xV (xAd P) (f x) = f x)
    (hs : xL1 pc2 ls st h f = some a) : ∃ pc' ls' st', a = .inl (pc', ls', st', h) ∧ (xGo P M p l e R s m args below meth c Q c0 s0 pc' ls' st' h → xGo P M p l e R s m args below meth c Q c0 s0 pc ls st h) := by
  unfold xL1 at hs
  split at hs
  next x r =>
    obtain rfl := Option.some.inj hs
    refine ⟨_, _, _, rfl, fun k arr H locs h1 h2 h3 h4 h5 => hd x arr H locs _ _ _ ?_⟩
    have kk := k arr H locs h1 h2 h3 h4 h5
    simp only [List.map_cons] at kk
    rw [hv] at kk
    exact kk
  next => cases hs
theorem xs_l2 (F : xFr P c0 d M p R s m args meth c) {pc pc2 : Nat} {ls : xL} {st : List Value} {h : xH} {a : xA} {f : Int64 → Int64 → Value} (hd : ∀ (x : Int64) (y : Int64) (arr : Array Slot) (H : Heap) (locs : List Loc) (cells slots : Nat) (rest : List Value), W p l e R s m args below meth c H locs cells slots Q (F0 m pc2 arr (f x y :: rest)) → W p l e R s m args below meth c H locs cells slots Q (F0 m pc arr (.long y :: .long x :: rest))) (hv : ∀ x y : Int64, xV (xAd P) (f x y) = f x y)
    (hs : xL2 pc2 ls st h f = some a) : ∃ pc' ls' st', a = .inl (pc', ls', st', h) ∧ (xGo P M p l e R s m args below meth c Q c0 s0 pc' ls' st' h → xGo P M p l e R s m args below meth c Q c0 s0 pc ls st h) := by
  unfold xL2 at hs
  split at hs
  next y x r =>
    obtain rfl := Option.some.inj hs
    refine ⟨_, _, _, rfl, fun k arr H locs h1 h2 h3 h4 h5 => hd x y arr H locs _ _ _ ?_⟩
    have kk := k arr H locs h1 h2 h3 h4 h5
    simp only [List.map_cons] at kk
    rw [hv] at kk
    exact kk
  next => cases hs
theorem xs_ls (F : xFr P c0 d M p R s m args meth c) {pc pc2 : Nat} {ls : xL} {st : List Value} {h : xH} {a : xA} {f : Int64 → Int32 → Int64} (hd : ∀ (x : Int64) (y : Int32) (arr : Array Slot) (H : Heap) (locs : List Loc) (cells slots : Nat) (rest : List Value), W p l e R s m args below meth c H locs cells slots Q (F0 m pc2 arr (.long (f x y) :: rest)) → W p l e R s m args below meth c H locs cells slots Q (F0 m pc arr (.int y :: .long x :: rest))) (hv : ∀ (x : Int64) (y : Int32), xV (xAd P) (.long (f x y)) = .long (f x y))
    (hs : xLS pc2 ls st h f = some a) : ∃ pc' ls' st', a = .inl (pc', ls', st', h) ∧ (xGo P M p l e R s m args below meth c Q c0 s0 pc' ls' st' h → xGo P M p l e R s m args below meth c Q c0 s0 pc ls st h) := by
  unfold xLS at hs
  split at hs
  next y x r =>
    obtain rfl := Option.some.inj hs
    refine ⟨_, _, _, rfl, fun k arr H locs h1 h2 h3 h4 h5 => hd x y arr H locs _ _ _ ?_⟩
    have kk := k arr H locs h1 h2 h3 h4 h5
    simp only [List.map_cons] at kk
    exact kk
  next => cases hs
set_option maxHeartbeats 4000000 in
theorem xs_pure (F : xFr P c0 d M p R s m args meth c) {pc len : Nat} {i : Instr} {ls : xL} {st : List Value} {h : xH} {a : xA} (hd : decode (xCode M) pc = .ok (i, len)) (hn : xLn i len = true) (hs : xPure i pc ls st h = some a) :
    ∃ pc' ls' st', a = .inl (pc', ls', st', h) ∧ (xGo P M p l e R s m args below meth c Q c0 s0 pc' ls' st' h → xGo P M p l e R s m args below meth c Q c0 s0 pc ls st h) := by
  obtain ⟨hx, hb, -⟩ := id F
  cases i with
  | iconst n =>
    obtain rfl := Option.some.inj hs
    obtain rfl : len = 1 := by simpa [xLn] using hn
    exact ⟨_, _, _, rfl, fun k arr H locs h1 h2 h3 h4 h5 => lv_iconst hx hb hd rfl (k arr H locs h1 h2 h3 h4 h5)⟩
  | bipush n =>
    obtain rfl := Option.some.inj hs
    obtain rfl : len = 2 := by simpa [xLn] using hn
    exact ⟨_, _, _, rfl, fun k arr H locs h1 h2 h3 h4 h5 => lv_bipush hx hb hd rfl (k arr H locs h1 h2 h3 h4 h5)⟩
  | sipush n =>
    obtain rfl := Option.some.inj hs
    obtain rfl : len = 3 := by simpa [xLn] using hn
    exact ⟨_, _, _, rfl, fun k arr H locs h1 h2 h3 h4 h5 => lv_sipush hx hb hd rfl (k arr H locs h1 h2 h3 h4 h5)⟩
  | lconst n =>
    obtain rfl := Option.some.inj hs
    obtain rfl : len = 1 := by simpa [xLn] using hn
    exact ⟨_, _, _, rfl, fun k arr H locs h1 h2 h3 h4 h5 => lv_lconst hx hb hd rfl (k arr H locs h1 h2 h3 h4 h5)⟩
  | iload j =>
    obtain rfl : len = 2 := by simpa [xLn] using hn
    exact xs_ldI F (fun x arr H locs cells slots rest hl k => lv_iload hx hb hd hl k) hs
  | iload_n j =>
    obtain rfl : len = 1 := by simpa [xLn] using hn
    exact xs_ldI F (fun x arr H locs cells slots rest hl k => lv_iload_n hx hb hd rfl hl k) hs
  | lload j =>
    obtain rfl : len = 2 := by simpa [xLn] using hn
    exact xs_ldL F (fun x arr H locs cells slots rest hl k => lv_lload hx hb hd hl k) hs
  | lload_n j =>
    obtain rfl : len = 1 := by simpa [xLn] using hn
    exact xs_ldL F (fun x arr H locs cells slots rest hl k => lv_lload_n hx hb hd rfl hl k) hs
  | aload j =>
    obtain rfl : len = 2 := by simpa [xLn] using hn
    exact xs_ldA F (fun x arr H locs cells slots rest hl k => lv_aload hx hb hd hl k) hs
  | aload_n j =>
    obtain rfl : len = 1 := by simpa [xLn] using hn
    exact xs_ldA F (fun x arr H locs cells slots rest hl k => lv_aload_n hx hb hd rfl hl k) hs
  | istore j =>
    obtain rfl : len = 2 := by simpa [xLn] using hn
    exact xs_stI F (fun x arr H locs cells slots rest lv hl hi k => lv_istore hx hb hd hl hi rfl k) hs
  | istore_n j =>
    obtain rfl : len = 1 := by simpa [xLn] using hn
    exact xs_stI F (fun x arr H locs cells slots rest lv hl hi k => lv_istore_n hx hb hd rfl hl hi rfl k) hs
  | lstore j =>
    obtain rfl : len = 2 := by simpa [xLn] using hn
    exact xs_stL F (fun x arr H locs cells slots rest lv hl hi k => lv_lstore hx hb hd hl hi rfl k) hs
  | lstore_n j =>
    obtain rfl : len = 1 := by simpa [xLn] using hn
    exact xs_stL F (fun x arr H locs cells slots rest lv hl hi k => lv_lstore_n hx hb hd rfl hl hi rfl k) hs
  | astore j =>
    obtain rfl : len = 2 := by simpa [xLn] using hn
    exact xs_stA F (fun x arr H locs cells slots rest lv hl hi k => lv_astore hx hb hd hl hi rfl k) hs
  | astore_n j =>
    obtain rfl : len = 1 := by simpa [xLn] using hn
    exact xs_stA F (fun x arr H locs cells slots rest lv hl hi k => lv_astore_n hx hb hd rfl hl hi rfl k) hs
  | iinc j n =>
    obtain rfl : len = 3 := by simpa [xLn] using hn
    simp only [xPure] at hs
    split at hs
    next x hj =>
      cases hl : xSet ls j (.int (x + Int32.ofInt n)) with
      | none => rw [hl] at hs; cases hs
      | some ls' =>
        rw [hl] at hs
        obtain rfl := Option.some.inj hs
        refine ⟨_, _, _, rfl, fun k arr H locs h1 h2 h3 h4 h5 => ?_⟩
        obtain ⟨kk, hkk⟩ := List.getElem?_of_mem (xPr_mem.mpr ⟨_, hj, rfl⟩ : (j, xV (xAd P) (.int x)) ∈ xPr (xAd P) ls)
        exact lv_iinc hx hb hd h1.has (k := kk) (x := x) hkk rfl (by rw [← h1.1]; exact xs_lt hl) rfl (fun arr' h' => k arr' H locs (h1.set hl h') h2 h3 h4 h5)
    next => cases hs
  | dup =>
    obtain rfl : len = 1 := by simpa [xLn] using hn
    simp only [xPure] at hs
    split at hs
    next v r =>
      split at hs
      next hc =>
        obtain rfl := Option.some.inj hs
        exact ⟨_, _, _, rfl, fun k arr H locs h1 h2 h3 h4 h5 => lv_dup hx hb hd (by rw [xV_cat]; exact hc) (k arr H locs h1 h2 h3 h4 h5)⟩
      next => cases hs
    next => cases hs
  | pop =>
    obtain rfl : len = 1 := by simpa [xLn] using hn
    simp only [xPure] at hs
    split at hs
    next v r =>
      split at hs
      next hc =>
        obtain rfl := Option.some.inj hs
        exact ⟨_, _, _, rfl, fun k arr H locs h1 h2 h3 h4 h5 => lv_pop hx hb hd (by rw [xV_cat]; exact hc) (k arr H locs h1 h2 h3 h4 h5)⟩
      next => cases hs
    next => cases hs
  | dup_x1 =>
    obtain rfl : len = 1 := by simpa [xLn] using hn
    simp only [xPure] at hs
    split at hs
    next v w r =>
      split at hs
      next hc =>
        obtain rfl := Option.some.inj hs
        exact ⟨_, _, _, rfl, fun k arr H locs h1 h2 h3 h4 h5 => lv_dup_x1 hx hb hd (by rw [xV_cat]; exact hc.1) (by rw [xV_cat]; exact hc.2) (k arr H locs h1 h2 h3 h4 h5)⟩
      next => cases hs
    next => cases hs
  | dup2 =>
    obtain rfl : len = 1 := by simpa [xLn] using hn
    simp only [xPure] at hs
    split at hs
    next v w r =>
      split at hs
      next hc =>
        obtain rfl := Option.some.inj hs
        exact ⟨_, _, _, rfl, fun k arr H locs h1 h2 h3 h4 h5 => lv_dup2_11 hx hb hd (by rw [xV_cat]; exact hc.1) (by rw [xV_cat]; exact hc.2) (k arr H locs h1 h2 h3 h4 h5)⟩
      next => cases hs
    next => cases hs
  | goto o =>
    obtain rfl : len = 3 := by simpa [xLn] using hn
    obtain ⟨t, ht, rfl⟩ := xs_J hs
    exact ⟨_, _, _, rfl, fun k arr H locs h1 h2 h3 h4 h5 => lv_goto hx hb hd ht (k arr H locs h1 h2 h3 h4 h5)⟩
  | tableswitch dflt lo hi offs =>
    simp only [xPure] at hs
    split at hs
    next x r =>
      split at hs
      next hc =>
        obtain ⟨t, ht, rfl⟩ := xs_J hs
        exact ⟨_, _, _, rfl, fun k arr H locs h1 h2 h3 h4 h5 => lv_tableOut hx hb hd hc ht (k arr H locs h1 h2 h3 h4 h5)⟩
      next hc =>
        split at hs
        next o ho =>
          obtain ⟨t, ht, rfl⟩ := xs_J hs
          exact ⟨_, _, _, rfl, fun k arr H locs h1 h2 h3 h4 h5 => lv_tableIn hx hb hd (fun z => hc (Or.inl z)) (fun z => hc (Or.inr z)) ho ht (k arr H locs h1 h2 h3 h4 h5)⟩
        next => cases hs
    next => cases hs
  | lookupswitch dflt ps =>
    simp only [xPure] at hs
    split at hs
    next x r =>
      split at hs
      next hc =>
        obtain ⟨t, ht, rfl⟩ := xs_J hs
        exact ⟨_, _, _, rfl, fun k arr H locs h1 h2 h3 h4 h5 => lv_lookup hx hb hd hc rfl ht (k arr H locs h1 h2 h3 h4 h5)⟩
      next => cases hs
    next => cases hs
  | ifCond k0 o =>
    obtain rfl : len = 3 := by simpa [xLn] using hn
    simp only [xPure] at hs
    split at hs
    next x r =>
      split at hs
      next => cases hs
      next hge =>
        have ht : (pc : Int) + o = (((pc : Int) + o).toNat : Int) := (Int.toNat_of_nonneg (by omega)).symm
        split at hs
        next hc =>
          obtain rfl := Option.some.inj hs
          refine ⟨_, _, _, rfl, fun k arr H locs h1 h2 h3 h4 h5 => ?_⟩
          have kk := k arr H locs h1 h2 h3 h4 h5
          cases k0 <;> simp only [xCm, decide_eq_true_eq, Bool.not_eq_true', decide_eq_false_iff_not] at hc
          · exact lv_if_eq hx hb hd ht (fun _ => kk) (fun z => absurd hc z)
          · exact lv_if_ne hx hb hd ht (fun _ => kk) (fun z => absurd z hc)
          · exact lv_if_lt hx hb hd ht (fun _ => kk) (fun z => absurd hc z)
          · exact lv_if_ge hx hb hd ht (fun _ => kk) (fun z => absurd hc z)
          · exact lv_if_gt hx hb hd ht (fun _ => kk) (fun z => absurd hc z)
          · exact lv_if_le hx hb hd ht (fun _ => kk) (fun z => absurd hc z)
        next hc =>
          obtain rfl := Option.some.inj hs
          refine ⟨_, _, _, rfl, fun k arr H locs h1 h2 h3 h4 h5 => ?_⟩
          have kk := k arr H locs h1 h2 h3 h4 h5
          cases k0 <;> simp only [xCm, decide_eq_true_eq, Bool.not_eq_true', decide_eq_false_iff_not] at hc
          · exact lv_if_eq hx hb hd ht (fun z => absurd z hc) (fun _ => kk)
          · exact lv_if_ne hx hb hd ht (fun z => absurd z hc) (fun _ => kk)
          · exact lv_if_lt hx hb hd ht (fun z => absurd z hc) (fun _ => kk)
          · exact lv_if_ge hx hb hd ht (fun z => absurd z hc) (fun _ => kk)
          · exact lv_if_gt hx hb hd ht (fun z => absurd z hc) (fun _ => kk)
          · exact lv_if_le hx hb hd ht (fun z => absurd z hc) (fun _ => kk)
    next => cases hs
  | if_icmp k0 o =>
    obtain rfl : len = 3 := by simpa [xLn] using hn
    simp only [xPure] at hs
    split at hs
    next y x r =>
      split at hs
      next => cases hs
      next hge =>
        have ht : (pc : Int) + o = (((pc : Int) + o).toNat : Int) := (Int.toNat_of_nonneg (by omega)).symm
        split at hs
        next hc =>
          obtain rfl := Option.some.inj hs
          refine ⟨_, _, _, rfl, fun k arr H locs h1 h2 h3 h4 h5 => ?_⟩
          have kk := k arr H locs h1 h2 h3 h4 h5
          cases k0 <;> simp only [xCm, decide_eq_true_eq, Bool.not_eq_true', decide_eq_false_iff_not] at hc
          · exact lv_icmp_eq hx hb hd ht (fun _ => kk) (fun z => absurd hc z)
          · exact lv_icmp_ne hx hb hd ht (fun _ => kk) (fun z => absurd z hc)
          · exact lv_icmp_lt hx hb hd ht (fun _ => kk) (fun z => absurd hc z)
          · exact lv_icmp_ge hx hb hd ht (fun _ => kk) (fun z => absurd hc z)
          · exact lv_icmp_gt hx hb hd ht (fun _ => kk) (fun z => absurd hc z)
          · exact lv_icmp_le hx hb hd ht (fun _ => kk) (fun z => absurd hc z)
        next hc =>
          obtain rfl := Option.some.inj hs
          refine ⟨_, _, _, rfl, fun k arr H locs h1 h2 h3 h4 h5 => ?_⟩
          have kk := k arr H locs h1 h2 h3 h4 h5
          cases k0 <;> simp only [xCm, decide_eq_true_eq, Bool.not_eq_true', decide_eq_false_iff_not] at hc
          · exact lv_icmp_eq hx hb hd ht (fun z => absurd z hc) (fun _ => kk)
          · exact lv_icmp_ne hx hb hd ht (fun z => absurd z hc) (fun _ => kk)
          · exact lv_icmp_lt hx hb hd ht (fun z => absurd z hc) (fun _ => kk)
          · exact lv_icmp_ge hx hb hd ht (fun z => absurd z hc) (fun _ => kk)
          · exact lv_icmp_gt hx hb hd ht (fun z => absurd z hc) (fun _ => kk)
          · exact lv_icmp_le hx hb hd ht (fun z => absurd z hc) (fun _ => kk)
    next => cases hs
  | iadd =>
    obtain rfl : len = 1 := by simpa [xLn] using hn
    exact xs_i2 F (fun x y arr H locs cells slots rest k => lv_iadd hx hb hd k) (fun _ _ => rfl) hs
  | isub =>
    obtain rfl : len = 1 := by simpa [xLn] using hn
    exact xs_i2 F (fun x y arr H locs cells slots rest k => lv_isub hx hb hd k) (fun _ _ => rfl) hs
  | imul =>
    obtain rfl : len = 1 := by simpa [xLn] using hn
    exact xs_i2 F (fun x y arr H locs cells slots rest k => lv_imul hx hb hd k) (fun _ _ => rfl) hs
  | iand =>
    obtain rfl : len = 1 := by simpa [xLn] using hn
    exact xs_i2 F (fun x y arr H locs cells slots rest k => lv_iand hx hb hd k) (fun _ _ => rfl) hs
  | ior =>
    obtain rfl : len = 1 := by simpa [xLn] using hn
    exact xs_i2 F (fun x y arr H locs cells slots rest k => lv_ior hx hb hd k) (fun _ _ => rfl) hs
  | ixor =>
    obtain rfl : len = 1 := by simpa [xLn] using hn
    exact xs_i2 F (fun x y arr H locs cells slots rest k => lv_ixor hx hb hd k) (fun _ _ => rfl) hs
  | ishl =>
    obtain rfl : len = 1 := by simpa [xLn] using hn
    exact xs_i2 F (fun x y arr H locs cells slots rest k => lv_ishl hx hb hd k) (fun _ _ => rfl) hs
  | ishr =>
    obtain rfl : len = 1 := by simpa [xLn] using hn
    exact xs_i2 F (fun x y arr H locs cells slots rest k => lv_ishr hx hb hd k) (fun _ _ => rfl) hs
  | iushr =>
    obtain rfl : len = 1 := by simpa [xLn] using hn
    exact xs_i2 F (fun x y arr H locs cells slots rest k => lv_iushr hx hb hd rfl k) (fun _ _ => rfl) hs
  | idiv =>
    obtain rfl : len = 1 := by simpa [xLn] using hn
    exact xs_id F (fun x y hy arr H locs cells slots rest k => lv_idiv hx hb hd hy k) (fun _ => rfl) hs
  | irem =>
    obtain rfl : len = 1 := by simpa [xLn] using hn
    exact xs_id F (fun x y hy arr H locs cells slots rest k => lv_irem hx hb hd hy k) (fun _ => rfl) hs
  | ineg =>
    obtain rfl : len = 1 := by simpa [xLn] using hn
    exact xs_i1 F (fun x arr H locs cells slots rest k => lv_ineg hx hb hd k) (fun _ => rfl) hs
  | i2l =>
    obtain rfl : len = 1 := by simpa [xLn] using hn
    exact xs_i1 F (fun x arr H locs cells slots rest k => lv_i2l hx hb hd rfl k) (fun _ => rfl) hs
  | i2b =>
    obtain rfl : len = 1 := by simpa [xLn] using hn
    exact xs_i1 F (fun x arr H locs cells slots rest k => lv_i2b hx hb hd rfl k) (fun _ => rfl) hs
  | i2s =>
    obtain rfl : len = 1 := by simpa [xLn] using hn
    exact xs_i1 F (fun x arr H locs cells slots rest k => lv_i2s hx hb hd rfl k) (fun _ => rfl) hs
  | i2c =>
    obtain rfl : len = 1 := by simpa [xLn] using hn
    exact xs_i1 F (fun x arr H locs cells slots rest k => lv_i2c hx hb hd rfl k) (fun _ => rfl) hs
  | l2i =>
    obtain rfl : len = 1 := by simpa [xLn] using hn
    exact xs_l1 F (fun x arr H locs cells slots rest k => lv_l2i hx hb hd rfl k) (fun _ => rfl) hs
  | ladd =>
    obtain rfl : len = 1 := by simpa [xLn] using hn
    exact xs_l2 F (fun x y arr H locs cells slots rest k => lv_ladd hx hb hd k) (fun _ _ => rfl) hs
  | lmul =>
    obtain rfl : len = 1 := by simpa [xLn] using hn
    exact xs_l2 F (fun x y arr H locs cells slots rest k => lv_lmul hx hb hd k) (fun _ _ => rfl) hs
  | land =>
    obtain rfl : len = 1 := by simpa [xLn] using hn
    exact xs_l2 F (fun x y arr H locs cells slots rest k => lv_land hx hb hd k) (fun _ _ => rfl) hs
  | lor =>
    obtain rfl : len = 1 := by simpa [xLn] using hn
    exact xs_l2 F (fun x y arr H locs cells slots rest k => lv_lor hx hb hd k) (fun _ _ => rfl) hs
  | lxor =>
    obtain rfl : len = 1 := by simpa [xLn] using hn
    exact xs_l2 F (fun x y arr H locs cells slots rest k => lv_lxor hx hb hd k) (fun _ _ => rfl) hs
  | lcmp =>
    obtain rfl : len = 1 := by simpa [xLn] using hn
    exact xs_l2 F (fun x y arr H locs cells slots rest k => W.lcmp hx hb hd k) (fun _ _ => rfl) hs
  | ldiv =>
    obtain rfl : len = 1 := by simpa [xLn] using hn
    exact xs_ld F (fun x y hy arr H locs cells slots rest k => lv_ldiv hx hb hd hy k) (fun _ => rfl) hs
  | lrem =>
    obtain rfl : len = 1 := by simpa [xLn] using hn
    exact xs_ld F (fun x y hy arr H locs cells slots rest k => lv_lrem hx hb hd hy k) (fun _ => rfl) hs
  | lshl =>
    obtain rfl : len = 1 := by simpa [xLn] using hn
    exact xs_ls F (fun x y arr H locs cells slots rest k => lv_lshl hx hb hd rfl k) (fun _ _ => rfl) hs
  | lushr =>
    obtain rfl : len = 1 := by simpa [xLn] using hn
    exact xs_ls F (fun x y arr H locs cells slots rest k => lv_lushr hx hb hd rfl k) (fun _ _ => rfl) hs
  | _ => cases hs
end XP
