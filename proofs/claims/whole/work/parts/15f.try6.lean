section XF
variable {P : xP} {d N : Nat} {p : Program} {l : Launch} {e : Env} {R : Room} {s : State} {m : MethodId} {args : Array Value} {below : List Frame} {meth : Method} {c : Code} {Q : State → Prop} {cc : ByteArray}
set_option maxHeartbeats 4000000 in
/-- a call that throws, and what is thrown is caught -/
theorem xq_callT (hN : xqN N) (hx : p.tables.exec = Jvm.exec) (hb : c.code = cc) (hown : s.vm.findClass "FelledHasLostLaw" = some m.cls) (hts : ∀ w ∈ xGw, w.before args s = true) (g : xGl P s) {index : Nat}
    (hlk : Jvm.Cond.methodLink "FelledHasLostLaw" index (xNm N) ∈ xGw) (hin : Jvm.Cond.instanceMethod (xNm N) ∈ xGw) (hse : Jvm.Cond.selects RX11 (xNm N) (xNm N) ∈ xGw) {na : Nat} (hpd : (parseMethodDescriptor (xNm N).desc).map (fun d => d.parameters.length) = some na)
    {as : List Value} {h h' : xH} {mc ms a : Nat} {As : List Value} (has : as = .ref a :: As) (hna : As.length = na)
    (hM : MetFree l (xNm N) (headSpec (Jvm.Cond.code (xNm N) (xCode N) (xMaxL N) (xRet N) :: xGw) (xRm d mc ms)) (xPre P h as) (fun _ _ _ _ _ => True) (xqQ P h' mc ms))
    {x : ExceptionTableEntry} (ht : c.exceptionTable.toList = [x]) {pc : Nat} (hcv : covers x pc = true) (hct : x.catchType = 13)
    {H : Heap} {locs : List Loc} {cells slots : Nat} {arr : Array Slot} {rest : List Value} (hpre : ∀ U : State, U.heap = H → s.WarmedH U.vm → xPre P h as (as.map (xV (xAd P))).toArray U) (hS : va_S (xAA P) s.heap H locs)
    (hrv : ∃ cell : Cell, H[xAd P a]? = some cell ∧ cell.vm.isStatics = false ∧ s.vm.findClass RX11 = some cell.cls) (hsize : arr.size = c.maxLocals) (hroom : (rest.map fun v => v.category).sum ≤ 8) (hdg : decode cc pc = .ok (.invokevirtual index, 3))
    (hcap : cells + mc ≤ R.cells ∧ slots + ms ≤ R.slots) (hfr : d + 9 ≤ R.frames) (hlo : 8 + (xMaxL N + 11) + 60 * (d + 8) ≤ R.locals)
    (kk : ∀ (H1 : Heap) (locs1 : List Loc) (q : Nat), xRep P h' H1 → va_S (xAA P) s.heap H1 locs1 → W p l e R s m args below meth c H1 locs1 (cells + mc) (slots + ms) Q (F0 m x.handlerPc arr [.ref q])) :
    W p l e R s m args below meth c H locs cells slots Q (F0 m pc arr ((As.map (xV (xAd P))).reverse ++ .ref (xAd P a) :: rest)) := by
  subst has
  obtain ⟨ho, hN2, -⟩ := hN.ok
  obtain ⟨m1, m2, m3, m4, m5, m6⟩ := x_ms hN2
  intro T hT X
  obtain ⟨cellB, hcB, hoB, hclB⟩ := hrv
  obtain ⟨mk, methM, hnamed, hmethM, hstM, habM⟩ := Cond.instanceMethod_spec (hts _ hin)
  obtain ⟨methM', cM, hmethM', hcM, hbM, hlM, -, -, -, hsigM⟩ := Cond.code_spec hnamed (hts _ m6)
  cases hmethM.symm.trans hmethM'
  obtain ⟨c2, r2, m2', q1, q2, q3, q4, kP, hkP, hkPi⟩ := Cond.selects_spec (hts _ hse)
  cases hclB.symm.trans q1
  cases (State.methodFound?_of_named hnamed ⟨m3, m4⟩).symm.trans q2
  cases hnamed.symm.trans q3
  have hselP : selectMethod e.platform s.vm cellB.cls mk = .method mk := by rw [Launch.admits_selectMethod X.admits]; exact q4
  have hlen : (As.map (xV (xAd P))).length = methM.sig.parameters.length := by
    rw [hsigM] at hpd
    rw [List.length_map, hna]
    exact (Option.some.inj hpd).symm
  obtain ⟨vm₁, X₁, hstep₁⟩ := X.invokevirtual hx hown (hts _ hlk) hnamed hmethM hstM hkP hkPi ⟨m3, m4⟩ (a := xAd P a) (cell := cellB) (by rw [hT]; exact hcB)
    (fun z h => by rw [h] at hoB; cases hoB) hselP hmethM habM hkP hkPi (g := F0 m pc arr ((As.map (xV (xAd P))).reverse ++ .ref (xAd P a) :: rest)) rfl (argsL := As.map (xV (xAd P))) (rest := rest) hlen rfl (by rw [hb]; exact hdg)
  generalize hg' : F0 m pc arr rest = g'
  have hgm : g'.method = m := by rw [← hg']
  have hgpc : g'.pc = pc := by rw [← hg']
  generalize hU : T.setVm vm₁ = U at X₁ hstep₁
  have hUh : U.heap = H := by rw [← hU]; exact hT
  generalize haa : (Value.ref (xAd P a) :: As.map (xV (xAd P))).toArray = aa at hstep₁
  have haa' : (List.map (xV (xAd P)) (Value.ref a :: As)).toArray = aa := haa
  have hn1 : U.methodNamed? (xNm N) = some mk := X₁.named hnamed
  have hh : At U g'.method c below := by rw [hgm]; exact X₁.here
  have hw1 : ∀ w ∈ xGw, w.before aa U = true := fun w hw => word_at X₁.warmed (good_of_word (List.mem_filter.mp hw).2) (hts w hw)
  obtain ⟨kY, hkY, -⟩ := className_of_methodNamed hn1
  have hiY : kY.init = .initialized := Cond.initialized_spec (findClass_of_methodNamed hn1) hkY (hw1 _ m5)
  have hmU : U.vm.method? mk = some methM := by rw [X₁.warmed.alike.method?]; exact hmethM
  have hgr : g'.monitorRoom = 0 := by rw [← hg']
  have hgs : (g'.stack.map fun v => v.category).sum ≤ 8 := by rw [← hg']; exact hroom
  have hrl : (xRm d mc ms).locals = 60 * (d + 8) := rfl
  have hrf : (xRm d mc ms).frames = d + 8 := rfl
  have happ : (headSpec (Jvm.Cond.code (xNm N) (xCode N) (xMaxL N) (xRet N) :: xGw) (xRm d mc ms)).appliesLoose (xNm N) e.platform (U.calling g' mk aa) = true :=
    Spec.appliesLoose_calling (g := g') hh (by rw [hb, hgpc]; exact hdg) hn1 hkY hiY
      (X₁.room_calling (g := g') (R' := xRm d mc ms) (by rw [← hg']; exact hsize) hmU hcM (by rw [hrf]; exact hfr) (by rw [hgr, hlM, hrl]; exact Nat.le_trans (Nat.add_le_add_right (Nat.add_le_add_right (by rw [Nat.mul_zero, Nat.zero_add]; exact hgs) _) _) hlo) hcap.1 hcap.2)
      (atoms_intro fun w hw => by
        rcases List.mem_cons.mp hw with rfl | hw
        · exact hw1 _ m6
        · exact hw1 _ hw)
  obtain ⟨mid, hmid⟩ := hh.above
  have hfrs : (U.setTop g').frames = (.java g' :: mid) ++ below := by rw [State.frames_setTop' g' hh.top, hmid]; rfl
  have hP0 : xPre P h (.ref a :: As) aa (U.calling g' mk aa) := by
    rw [← haa']
    exact x_blind P h _ _ U g' mk (hpre U hUh X₁.warmed)
  obtain ⟨o, s₂, hsteps, -, hend, hq⟩ := Steps.callFree hM p X.admits X.cas X.clock (acts := []) hfrs happ hP0 trivial
  obtain ⟨qa, ce, rfl, hce, hcc, hcv2, hrep, hF, hW₂, L, hsame, hL⟩ := hq
  have hend : s₂.frames = .throwing qa :: (U.setTop g').frames := hend
  have hF : va_F (xAA P) (U.calling g' mk aa) s₂ := hF
  have hch : (U.calling g' mk aa).heap = H := hUh
  have hF1 : H.size ≤ s₂.heap.size := by have := hF.1; rw [hch] at this; exact this
  have hF2 : ∀ q : Nat, q < H.size → ¬ xAA P q → s₂.heap[q]? = H[q]? := fun q h1 h2 => by
    have := hF.2 q (by rw [hch]; exact h1) h2
    rw [hch] at this
    exact this
  obtain ⟨e2, p2, p3, p4, p5, p6⟩ := hsame
  have e2 : ({ s₂ with vm := (U.calling g' mk aa).vm } : State) = { (U.calling g' mk aa).setFrames s₂.frames with heap := s₂.heap, slotsUsed := s₂.slotsUsed } := e2
  have hW' : U.WarmedH s₂.vm := hW₂
  obtain ⟨g₀, hg0⟩ := Option.isSome_iff_exists.mp hh.top
  obtain ⟨r, hr⟩ := State.topJava?_eq_some.mp hg0
  have hr' : (({ U with heap := s₂.heap, slotsUsed := s₂.slotsUsed } : State).setVm s₂.vm).frames = .java g₀ :: r := hr
  have hs₂ : s₂ = ((({ U with heap := s₂.heap, slotsUsed := s₂.slotsUsed } : State).setVm s₂.vm).setTop g').pushFrame (.throwing qa) := by
    have e3 : s₂ = ({ (U.calling g' mk aa).setFrames s₂.frames with heap := s₂.heap, slotsUsed := s₂.slotsUsed } : State).setVm s₂.vm := by
      have : s₂ = ({ s₂ with vm := (U.calling g' mk aa).vm } : State).setVm s₂.vm := rfl
      rw [e2] at this
      exact this
    refine e3.trans ?_
    rw [hend, State.calling_eq hh.top, State.setFrames_setFrames, State.setTop_of_frames _ hr', State.setTop_of_frames _ hr, State.pushFrame, State.setFrames_setFrames]
    rw [State.frames_setFrames _ (State.cur_lt_of_frames hr), State.frames_setFrames _ (State.cur_lt_of_frames hr')]
    rfl
  have hsame2 : U.sameButNew ({ U with heap := s₂.heap, slotsUsed := s₂.slotsUsed } : State) L mc ms := by
    refine ⟨?_, p2, p3, p4, p5, p6⟩
    obtain ⟨t, ht, -⟩ := State.frames_cons hr
    show ({ U with heap := s₂.heap, slotsUsed := s₂.slotsUsed } : State) = { U.setFrames U.frames with heap := s₂.heap, slotsUsed := s₂.slotsUsed }
    rw [State.setFrames_self ht]
  subst hgm
  have X' : Stand p l e R s g'.method args below meth c (({ U with heap := s₂.heap, slotsUsed := s₂.slotsUsed } : State).setVm s₂.vm) (locs ++ L) (cells + mc) (slots + ms) :=
    ⟨X₁.admits, X₁.cas, X₁.clock, X₁.frames, X₁.room, X₁.hears, X₁.method, X₁.code, (X₁.here.setHeapUsed s₂.heap s₂.slotsUsed).setVm hW'.alike, X₁.tail, State.WarmedH.trans X₁.warmed hW', X₁.limits, X₁.bytes, X₁.same.trans (hsame2.setVm s.vm)⟩
  have ho3 : e.platform.magicAccessors = ({} : Platform).magicAccessors := by rw [X.admits.platform]
  have hlink : (Jvm.Cond.classLink "FelledHasLostLaw" 13 xqX).before args s = true := xq_words g.2.2.2.2.2.2.2.2.2.2 args _ (by unfold xqA; refine List.mem_append_right _ (List.mem_append_right _ (List.mem_append_right _ (List.mem_append_right _ ?_))); simp)
  obtain ⟨cT, hcT, hcl⟩ := Cond.classLink_spec hown hlink e.platform ho3
  have hcc2 : s.vm.findClass xqX = some ce.cls := by
    have : U.vm.findClass xqX = some ce.cls := hcc
    rw [X₁.warmed.alike.findClass] at this
    exact this
  cases hcT.symm.trans hcc2
  obtain ⟨dk, _, _, kt, hdk, _, _, _, _, hkt, _, hopen⟩ := hcl.here
  have hcl₀ := X'.warmed.classLinks hcl
  have hW3 : s.WarmedH ((({ U with heap := s₂.heap, slotsUsed := s₂.slotsUsed } : State).setVm s₂.vm).vm.noted g'.method.cls 13 (.cls ce.cls)) := X'.warmed.noted hdk hopen (State.rightAt_cls hcl)
  obtain ⟨kt', hkt', -⟩ := hW3.alike.2.2 _ _ hkt
  obtain ⟨t, a1, b1⟩ := kk s₂.heap (locs ++ L) qa hrep ⟨Nat.le_trans hS.1 hF1, fun q h1 h2 => (hF2 q (Nat.lt_of_lt_of_le h1 hS.1) h2).trans (hS.2.1 q h1 h2), fun q hq => by
      rcases List.mem_append.mp hq with z | z
      · exact hS.2.2 q z
      · exact hL q z⟩ ((({ U with heap := s₂.heap, slotsUsed := s₂.slotsUsed } : State).setVm s₂.vm).setVm ((({ U with heap := s₂.heap, slotsUsed := s₂.slotsUsed } : State).setVm s₂.vm).vm.noted g'.method.cls 13 (.cls ce.cls))) rfl (X'.noted hW3)
  refine ⟨t, hstep₁ _ (fun acts => ?_), b1⟩
  rw [doInvoke_state]
  refine Steps.trans ?_ (xq_caught (T := (({ U with heap := s₂.heap, slotsUsed := s₂.slotsUsed } : State).setVm s₂.vm)) (g := g') (a := qa) (meth := meth) (x := x) X'.here X'.method' X'.code ht (by rw [hgpc]; exact hcv) (by rw [hct]; decide) (by rw [hct]; exact resolveClass_links e.toSetting hcl₀) (by simp) (cell := ce) hce (fun k hk => by rw [hcv2] at hk; cases hk) ⟨kt', hkt'⟩ ⟨kt', hkt'⟩ (va_asg _ _) (target := t) ?_)
  · rw [← hs₂]
    rw [← hg'] at hsteps ⊢
    exact hsteps
  · rw [← hg'] at a1 ⊢
    exact a1
end XF
