/-- what the frame's end asks: an answer -/
def xHr (P : xP) (M : Nat) (p : Program) (l : Launch) (e : Env) (R : Room) (s : State) (m : MethodId) (args : Array Value) (below : List Frame) (meth : Method) (c : Code) (Q : State → Prop) (c0 s0 : Nat) (v : Option Value) (h' : xH) : Prop :=
  ∀ (pc : Nat) (i : Instr) (st : List Value) (arr : Array Slot) (H : Heap) (locs : List Loc), decode (xCode M) pc = .ok (i, 1) → xRetI i M st = some v → xRep P h' H → va_S (xAA P) s.heap H locs → W p l e R s m args below meth c H locs (h'.1 + h'.2.2.1 - c0) (h'.2.1 - s0) Q (F0 m pc arr (st.map (xV (xAd P))))
/-- .. or a thing thrown -/
def xHt (P : xP) (M : Nat) (p : Program) (l : Launch) (e : Env) (R : Room) (s : State) (m : MethodId) (args : Array Value) (below : List Frame) (meth : Method) (c : Code) (Q : State → Prop) (c0 s0 : Nat) (v : Option Value) (h' : xH) : Prop :=
  ∀ (j pc : Nat) (ls : xL) (h1 : xH), decode (xCode M) pc = .ok (.new j, 3) → xNew (xOwn M) j = some 99 → h' = (h1.1, h1.2.1 + 6, h1.2.2.1 + 1, h1.2.2.2) → v = some .null → xGo P M p l e R s m args below meth c Q c0 s0 pc ls [] h1
def xSnd (l : Launch) (P : xP) (d M pc : Nat) (ls : xL) (st : List Value) (h : xH) (v : Option Value) (h' : xH) : Prop :=
  ∀ (p : Program) (e : Env) (R : Room) (s : State) (m : MethodId) (args : Array Value) (below : List Frame) (meth : Method) (c : Code) (Q : State → Prop) (c0 s0 : Nat), xFr P c0 d M p R s m args meth c → h'.1 + h'.2.2.1 - c0 ≤ R.cells ∧ h'.2.1 - s0 ≤ R.slots → xHr P M p l e R s m args below meth c Q c0 s0 v h' → xHt P M p l e R s m args below meth c Q c0 s0 v h' → xGo P M p l e R s m args below meth c Q c0 s0 pc ls st h
/-- the library's texts answer as the machine's picture has it -/
def xTextOK (l : Launch) (P : xP) : Prop := ∀ (d M : Nat) (p : Program) (e : Env) (R : Room) (s : State) (m : MethodId) (args : Array Value) (below : List Frame) (meth : Method) (c : Code) (Q : State → Prop) (c0 s0 pc pc' w j k N na : Nat) (i : Instr) (ls ls' : xL) (st st' : List Value) (h h' : xH), xFr P c0 d M p R s m args meth c → decode (xCode M) pc = .ok (i, 3) → xIdx i = some (w, j) → xMet (xOwn M) j = some (k, N, na) → xKindL w k = true → ¬ k < 14 → xLib k pc ls st h = some (.inl (pc', ls', st', h')) → h.1 + h.2.2.1 - c0 ≤ R.cells ∧ h.2.1 - s0 ≤ R.slots → xGo P M p l e R s m args below meth c Q c0 s0 pc' ls' st' h' → xGo P M p l e R s m args below meth c Q c0 s0 pc ls st h
/-- an answer is of the method's type -/
def xRetOK (M : Nat) (v : Option Value) : Prop := (xRet M = some .int → ∃ x, v = some (.int x)) ∧ (xRet M = some .long → ∃ x, v = some (.long x))
/-- the law's own calls that catch -/
def xTryOK (l : Launch) (P : xP) : Prop := ∀ (d M : Nat) (p : Program) (e : Env) (R : Room) (s : State) (m : MethodId) (args : Array Value) (below : List Frame) (meth : Method) (c : Code) (Q : State → Prop) (c0 s0 pc w j k N0 N na o : Nat) (i : Instr) (ls : xL) (st' as r : List Value) (h h1 h2 : xH) (v : Option Value) (ci : Int32), xFr P c0 (d + 2) M p R s m args meth c → decode (xCode M) pc = .ok (i, 3) → xIdx i = some (w, j) → w = 1 → xMet (xOwn M) j = some (k, N0, na) → xTry k = some N → xPop (na - 1) [] st' = some (as, r) → xCat r ≤ 8 → xRecv h as (xOwn N) = true → xInts as = true → (v = some .null ∨ xRetOK N v) → xSnd l P d N 0 (xEntry N as) [] h v h1 → xLe h h1 → xCaught v o h1 = some (ci, h2) → (xArgs as).length ≤ xMaxL N → h2.1 + h2.2.2.1 - c0 ≤ R.cells ∧ h2.2.1 - s0 ≤ R.slots → xGo P M p l e R s m args below meth c Q c0 s0 (pc + 3) ls (.int ci :: r) h2 → xGo P M p l e R s m args below meth c Q c0 s0 pc ls (.ref o :: st') h
theorem x_args (β : Nat → Nat) : ∀ (as : List Value) (k i : Nat) (v : Value), (xArgs as)[i]? = some (some v) → (k + i, xV β v) ∈ lv_args k (as.map (xV β))
  | [], k, i, v, h => by simp [xArgs] at h
  | a :: t, k, i, v, h => by
    simp only [xArgs, List.flatMap_cons] at h
    simp only [List.map_cons, lv_args, xV_cat]
    by_cases hc : a.category = 2
    · rw [if_pos hc] at h
      rw [if_pos hc]
      match i, h with
      | 0, h => cases h; exact List.mem_cons_self
      | 1, h => cases h
      | i + 2, h =>
        have h9 := x_args β t (k + 2) i v (by simpa [xArgs] using h)
        exact List.mem_cons_of_mem _ (by rw [show k + (i + 2) = k + 2 + i by omega]; exact h9)
    · rw [if_neg hc] at h
      rw [if_neg hc]
      match i, h with
      | 0, h => cases h; exact List.mem_cons_self
      | i + 1, h =>
        have h9 := x_args β t (k + 1) i v (by simpa [xArgs] using h)
        exact List.mem_cons_of_mem _ (by rw [show k + (i + 1) = k + 1 + i by omega]; exact h9)
theorem x_slen (β : Nat → Nat) (as : List Value) : (lg_sl (as.map (xV β))).length = (xArgs as).length := by
  induction as with
  | nil => rfl
  | cons a t ih =>
    simp only [lg_sl, xArgs, List.map_cons, List.flatMap_cons, List.length_append, xV_cat] at ih ⊢
    rw [ih]
    congr 1
    split <;> rfl
theorem x_entry (P : xP) (N : Nat) (as : List Value) (h : (xArgs as).length ≤ xMaxL N) : xLs P N ((lg_sl (as.map (xV (xAd P))) ++ List.replicate (xMaxL N - (lg_sl (as.map (xV (xAd P)))).length) Slot.unset).toArray) (xEntry N as) := by
  have hl := lv_entry (as.map (xV (xAd P))) (n := xMaxL N) (by rw [x_slen]; exact h)
  refine ⟨by simp [xEntry]; omega, hl.1, hl.2.1, fun i v hi => ?_⟩
  unfold xEntry at hi
  by_cases hc : i < (xArgs as).length
  · rw [List.getElem?_append_left hc] at hi
    have := x_args (xAd P) as 0 i v hi
    rw [Nat.zero_add] at this
    exact hl.2.2 _ this
  · rw [List.getElem?_append_right (by omega)] at hi
    have h9 := List.mem_of_getElem? hi
    rw [List.mem_replicate] at h9
    cases h9.2
/-- frames that run well make a contract -/
theorem xMeets.of {l : Launch} {P : xP} {d N : Nat} {as : List Value} {h h' : xH} {v : Option Value} (hN : N < 270) (hv : v ≠ some .null) (hl : (xArgs as).length ≤ xMaxL N) (hs : xSnd l P d N 0 (xEntry N as) [] h v h') : xMeets l P d N as h v h' := by
  obtain ⟨m1, m2, m3, m4, m5, m6⟩ := x_ms hN
  refine Met.ofW (cc := xCode N) (maxL := xMaxL N) (ret := xRet N) m1 rfl ?_
  intro p e s m args below meth c s₁ B hml hpre
  obtain ⟨rfl, g, hR, hb1, hb2⟩ := hpre
  have hx := B.exec
  have hb := B.bytes
  have hr := B.returns
  have hts := atoms_spec (ws := Jvm.Cond.code (xNm N) (xCode N) (xMaxL N) (xRet N) :: xGw) B.pre
  have hown : s.vm.findClass (xNm N).cls = some m.cls := findClass_of_methodNamed B.named
  have hlocks := B.notSynchronized
  have hin : meth.name = (xNm N).name := (name_of_methodNamed B.named B.method).1
  rw [lg_entry_eq]
  have hls := x_entry P N as hl
  have F : xFr P (h.1 + h.2.2.1) d N p (headSpec (Jvm.Cond.code (xNm N) (xCode N) (xMaxL N) (xRet N) :: xGw) (xRm d (h'.1 + h'.2.2.1 - (h.1 + h.2.2.1)) (h'.2.1 - h.2.1))).room s m (as.map (xV (xAd P))).toArray meth c :=
    ⟨hx, hb, hr, hml, by rw [← m2]; exact hown, fun w hw => hts w (List.mem_cons_of_mem _ hw), hlocks, fun hi => by rw [hin]; simpa [xIsIn] using hi, g, Nat.le_refl _, Nat.le_refl _, hb1, hb2⟩
  have hQ : ∀ (H : Heap) (t : State), xRep P h' H → t.heap = H → ∀ locs, va_S (xAA P) s.heap H locs → xPost P v h' (as.map (xV (xAd P))).toArray s (.returned (v.map (xV (xAd P)))) t := fun H t hR1 ht locs hS1 => ⟨rfl, by rw [ht]; exact hR1, hS1.F ht⟩
  have k := hs p e _ s m (as.map (xV (xAd P))).toArray below meth c (MQ below (xPost P v h') (as.map (xV (xAd P))).toArray s (h'.1 + h'.2.2.1 - (h.1 + h.2.2.1)) (h'.2.1 - h.2.1) (xAA P)) (h.1 + h.2.2.1) h.2.1 F ⟨Nat.le_refl _, Nat.le_refl _⟩ ?_ ?_ _ s.heap [] hls hR va_S.rf (Nat.le_refl _) (Nat.le_refl _)
  · rw [Nat.sub_self, Nat.sub_self] at k
    exact k
  · intro pc i st arr H locs hd hri hR1 hS1
    cases i with
    | return_ =>
      simp only [xRetI] at hri
      split at hri
      next hc =>
        obtain ⟨hc1, rfl⟩ := hc
        cases hri
        exact W.vret hx hb (by rw [hr]; exact hc1) (fun t ht hW => hQ H t hR1 ht locs hS1) hS1.2.2 hd
      next => cases hri
    | ireturn =>
      simp only [xRetI] at hri
      split at hri
      next x =>
        split at hri
        next hrt =>
          cases hri
          exact W.iret hx hb (by rw [hr]; exact hrt) (fun t ht hW => hQ H t hR1 ht locs hS1) hS1.2.2 hd
        next hrt =>
          split at hri
          next hc =>
            cases hri
            exact W.zret hx hb (by rw [hr]; exact hrt) (by show Value.int (x &&& 1) = _; rw [hc]) (fun t ht hW => hQ H t hR1 ht locs hS1) hS1.2.2 hd
          next => cases hri
        next => cases hri
      next => cases hri
    | lreturn =>
      simp only [xRetI] at hri
      split at hri
      next x =>
        split at hri
        next hrt =>
          cases hri
          exact W.lret hx hb (by rw [hr]; exact hrt) (fun t ht hW => hQ H t hR1 ht locs hS1) hS1.2.2 hd
        next => cases hri
      next => cases hri
    | areturn =>
      simp only [xRetI] at hri
      split at hri
      next x =>
        split at hri
        next nm hrt =>
          cases hri
          exact W.aret hx hb (by rw [hr]; exact hrt) (Or.inl ⟨_, rfl⟩) (Or.inr ⟨_, rfl⟩) (fun t ht hW => hQ H t hR1 ht locs hS1) hS1.2.2 hd
        next => cases hri
      next => cases hri
    | _ => cases hri
  · intro j pc ls h1 _ _ _ hvn
    exact absurd hvn hv
theorem x_retlen {i : Instr} {M len : Nat} {st : List Value} {v : Option Value} (h : xRetI i M st = some v) (hn : xLn i len = true) : len = 1 := by
  cases i <;> first
    | (simp only [xRetI, reduceCtorEq] at h; done)
    | (simpa [xLn] using hn)
theorem x_idxlen {i : Instr} {len : Nat} {q : Nat × Nat} (h : xIdx i = some q) (hn : xLn i len = true) : len = 3 := by
  cases i <;> first
    | (simp only [xIdx, reduceCtorEq] at h; done)
    | (simpa [xLn] using hn)
theorem xRetI_ok {i : Instr} {M : Nat} {st : List Value} {v : Option Value} (hri : xRetI i M st = some v) : xRetOK M v := by
  cases i with
  | return_ =>
    simp only [xRetI] at hri
    split at hri
    next hc => cases hri; exact ⟨fun z => (by rw [hc.1] at z; cases z), fun z => (by rw [hc.1] at z; cases z)⟩
    next => cases hri
  | ireturn =>
    simp only [xRetI] at hri
    split at hri
    next x =>
      split at hri
      next hrt => cases hri; exact ⟨fun _ => ⟨x, rfl⟩, fun z => (by rw [hrt] at z; cases z)⟩
      next hrt =>
        split at hri
        next => cases hri; exact ⟨fun _ => ⟨x, rfl⟩, fun z => (by rw [hrt] at z; cases z)⟩
        next => cases hri
      next => cases hri
    next => cases hri
  | lreturn =>
    simp only [xRetI] at hri
    split at hri
    next x =>
      split at hri
      next hrt => cases hri; exact ⟨fun z => (by rw [hrt] at z; cases z), fun _ => ⟨x, rfl⟩⟩
      next => cases hri
    next => cases hri
  | areturn =>
    simp only [xRetI] at hri
    split at hri
    next x =>
      split at hri
      next hrt => cases hri; exact ⟨fun z => (by rw [hrt] at z; cases z), fun z => (by rw [hrt] at z; cases z)⟩
      next => cases hri
    next => cases hri
  | _ => cases hri
theorem xRun_ret : ∀ (n d M pc : Nat) (ls : xL) (st : List Value) (h : xH) (v : Option Value) (h' : xH), xRun n d M pc ls st h = some (v, h') → v = some .null ∨ xRetOK M v
  | 0, d, M, pc, ls, st, h, v, h', hs => by simp [xRun] at hs
  | n + 1, d, M, pc, ls, st, h, v, h', hs => by
    unfold xRun at hs
    split at hs
    next => cases hs
    next i len hd =>
      split at hs
      next => cases hs
      next hn =>
        split at hs
        next v1 hv => cases hs; exact Or.inr (xRetI_ok hv)
        next =>
          split at hs
          next pc1 ls1 st1 h1 ha => exact xRun_ret n d M _ _ _ _ _ _ hs
          next N as r ha =>
            split at hs
            next => cases hs
            next d1 =>
              split at hs
              next =>
                split at hs
                next v1 h1 hr =>
                  split at hs
                  next => cases hs
                  next => exact xRun_ret n _ M _ _ _ _ _ _ hs
                next => cases hs
              next => cases hs
          next N as r o ha =>
            split at hs
            next d1 =>
              split at hs
              next =>
                split at hs
                next v1 h1 hr =>
                  split at hs
                  next k h2 hc => exact xRun_ret n _ M _ _ _ _ _ _ hs
                  next => cases hs
                next => cases hs
              next => cases hs
            next => cases hs
          next v1 h1 ha =>
            cases hs
            obtain ⟨j, -, -, -, rfl, -⟩ := xStep_thr ha
            exact Or.inl rfl
          next => cases hs
/-- every run of the abstract machine is one of the machine -/
theorem xSound {l : Launch} {P : xP} (hT : xTextOK l P) (hY : xTryOK l P) : ∀ (n d M pc : Nat) (ls : xL) (st : List Value) (h : xH) (v : Option Value) (h' : xH), xRun n d M pc ls st h = some (v, h') → xSnd l P d M pc ls st h v h'
  | 0, d, M, pc, ls, st, h, v, h', hs => by simp [xRun] at hs
  | n + 1, d, M, pc, ls, st, h, v, h', hs => by
    intro p e R s m args below meth c Q c0 s0 F cap hr ht
    unfold xRun at hs
    split at hs
    next => cases hs
    next i len hd =>
      split at hs
      next => cases hs
      next hn =>
        have hn : xLn i len = true := by simpa using hn
        split at hs
        next v1 hv =>
          cases hs
          obtain rfl := x_retlen hv hn
          intro arr H locs h1 h2 h3 h4 h5
          exact hr pc i st arr H locs hd hv h2 h3
        next =>
          split at hs
          next pc1 ls1 st1 h1 ha =>
            have kk := xSound hT hY n d M pc1 ls1 st1 h1 v h' hs p e R s m args below meth c Q c0 s0 F cap hr ht
            have le1 := xRun_le n d M pc1 ls1 st1 h1 v h' hs
            have le0 := xStep_le ha
            unfold xStep at ha
            split at ha
            next w j hi =>
              obtain rfl := x_idxlen hi hn
              unfold xCall at ha
              split at ha
              next k N na hm =>
                split at ha
                next hw =>
                  have cap1 : h.1 + h.2.2.1 - c0 ≤ R.cells ∧ h.2.1 - s0 ≤ R.slots := by
                    unfold xLe at le0 le1
                    omega
                  by_cases hk : k < 14
                  · exact xs_lib F hd hi hm hw hk ha cap1 kk
                  · exact hT d M p e R s m args below meth c Q c0 s0 pc _ w j k N na i ls _ st _ h _ F hd hi hm hw hk ha cap1 kk
                next =>
                  exfalso
                  split at ha
                  next =>
                    split at ha
                    next => split at ha <;> cases ha
                    next => cases ha
                  next =>
                    split at ha
                    next =>
                      split at ha
                      next =>
                        split at ha
                        next => split at ha <;> cases ha
                        next => cases ha
                      next => cases ha
                    next => cases ha
              next => cases ha
            next =>
              split at ha
              next a hp =>
                cases ha
                obtain ⟨_, _, _, e1, k1⟩ := xs_pure (l := l) (e := e) (below := below) (Q := Q) (s0 := s0) F hd hn hp
                cases e1
                exact k1 kk
              next => exact xs_cell F hd hn ha (by unfold xLe at le1; omega) kk
          next N as r ha =>
            split at hs
            next => cases hs
            next d1 =>
              split at hs
              next hc =>
                split at hs
                next v1 h1 hrun =>
                  split at hs
                  next => cases hs
                  next hv1 =>
                    have kk := xSound hT hY n (d1 + 1) M _ _ _ _ v h' hs p e R s m args below meth c Q c0 s0 F cap hr ht
                    have le1 := xRun_le n _ _ _ _ _ _ v h' hs
                    have le0 := xRun_le n _ _ _ _ _ _ v1 h1 hrun
                    have hcallee := xSound hT hY n d1 N 0 _ _ h v1 h1 hrun
                    unfold xStep at ha
                    split at ha
                    next w j hi =>
                      obtain rfl := x_idxlen hi hn
                      unfold xCall at ha
                      split at ha
                      next k N1 na hm =>
                        split at ha
                        next =>
                          obtain ⟨_, _, _, _, e1, -⟩ := xLib_le ha
                          cases e1
                        next =>
                          split at ha
                          next hw =>
                            split at ha
                            next as1 r1 hp =>
                              split at ha
                              next hc2 =>
                                cases ha
                                exact xs_call F hd hi hm hw hp hc2.1 hc2.2 (fun hN => xMeets.of hN hv1 hc.2 hcallee) le0 hc.1 (by unfold xLe at le1; omega) kk
                              next => cases ha
                            next => cases ha
                          next =>
                            exfalso
                            split at ha
                            next =>
                              split at ha
                              next =>
                                split at ha
                                next => split at ha <;> cases ha
                                next => cases ha
                              next => cases ha
                            next => cases ha
                      next => cases ha
                    next =>
                      exfalso
                      split at ha
                      next a hp =>
                        cases ha
                        obtain ⟨_, _, _, e1⟩ := xPure_h hp
                        cases e1
                      next =>
                        cases i <;> simp only [xCell, xGetf, xPutf, xNx, reduceCtorEq] at ha <;> (repeat' (split at ha)) <;> cases ha
                next => cases hs
              next => cases hs
          next N as r o ha =>
            split at hs
            next d1 =>
              split at hs
              next hc =>
                split at hs
                next v1 h1 hrun =>
                  split at hs
                  next ci h2 hca =>
                    have kk := xSound hT hY n (d1 + 2) M _ _ _ _ v h' hs p e R s m args below meth c Q c0 s0 F cap hr ht
                    have le1 := xRun_le n _ _ _ _ _ _ v h' hs
                    have le0 := xRun_le n _ _ _ _ _ _ v1 h1 hrun
                    have hcallee := xSound hT hY n d1 N 0 _ _ h v1 h1 hrun
                    unfold xStep at ha
                    split at ha
                    next w j hi =>
                      obtain rfl := x_idxlen hi hn
                      unfold xCall at ha
                      split at ha
                      next k N1 na hm =>
                        split at ha
                        next =>
                          obtain ⟨_, _, _, _, e1, -⟩ := xLib_le ha
                          cases e1
                        next =>
                          split at ha
                          next hw =>
                            exfalso
                            split at ha
                            next => split at ha <;> cases ha
                            next => cases ha
                          next =>
                            split at ha
                            next N' hN' =>
                              split at ha
                              next o1 st1 =>
                                split at ha
                                next as1 r1 hp =>
                                  split at ha
                                  next hc2 =>
                                    cases ha
                                    exact hY d1 M p e R s m args below meth c Q c0 s0 pc w j k N1 N na o i ls _ as r h h1 h2 v1 ci F hd hi hc2.1 hm hN' hp hc2.2.1 hc2.2.2.1 hc2.2.2.2 (xRun_ret n _ _ _ _ _ _ _ _ hrun) hcallee le0 hca hc.2 (by unfold xLe at le1; omega) kk
                                  next => cases ha
                                next => cases ha
                              next => cases ha
                            next => cases ha
                      next => cases ha
                    next =>
                      exfalso
                      split at ha
                      next a hp =>
                        cases ha
                        obtain ⟨_, _, _, e1⟩ := xPure_h hp
                        cases e1
                      next =>
                        cases i <;> simp only [xCell, xGetf, xPutf, xNx, reduceCtorEq] at ha <;> (repeat' (split at ha)) <;> cases ha
                  next => cases hs
                next => cases hs
              next => cases hs
            next => cases hs
          next v1 h1 ha =>
            cases hs
            obtain ⟨j, rfl, hj, rfl, rfl, e1⟩ := xStep_thr ha
            obtain rfl : len = 3 := by simpa [xLn] using hn
            exact ht j pc ls h hd hj e1 rfl
          next => cases hs
