section XL
variable {P : xP} {d M : Nat} {p : Program} {l : Launch} {e : Env} {R : Room} {s : State} {m : MethodId} {args : Array Value} {below : List Frame} {meth : Method} {c : Code} {Q : State → Prop} {c0 s0 : Nat}
theorem x_cat (β : Nat → Nat) (r : List Value) : ((r.map (xV β)).map fun v => v.category).sum = xCat r := by
  unfold xCat
  rw [List.map_map]
  congr 1
  apply List.map_congr_left
  intro v _
  exact xV_cat β v
theorem x_lw {k : Nat} (hk : k < 10) : xLibW k ∈ xGw := xG1_in (List.all_eq_true.mp xLibC_ok k (List.mem_range.mpr hk))
theorem x_pop : ∀ (n : Nat) (acc st as r : List Value), xPop n acc st = some (as, r) → ∃ t, st = t ++ r ∧ as = t.reverse ++ acc ∧ t.length = n
  | 0, acc, st, as, r, h => by
    simp only [xPop, Option.some.injEq, Prod.mk.injEq] at h
    obtain ⟨rfl, rfl⟩ := h
    exact ⟨[], rfl, rfl, rfl⟩
  | n + 1, acc, [], as, r, h => by simp [xPop] at h
  | n + 1, acc, v :: st, as, r, h => by
    obtain ⟨t, h1, h2, h3⟩ := x_pop n (v :: acc) st as r h
    exact ⟨v :: t, by rw [h1]; rfl, by rw [h2]; simp, by simp [h3]⟩
theorem xs_lib (F : xFr P c0 d M p R s m args meth c) {pc pc' w j k N na : Nat} {i : Instr} {ls ls' : xL} {st st' : List Value} {h h' : xH} (hd : decode (xCode M) pc = .ok (i, 3)) (hi : xIdx i = some (w, j)) (hm : xMet (xOwn M) j = some (k, N, na)) (hw : xKindL w k = true) (hw2 : k < 14) (hs : xLib k pc ls st h = some (.inl (pc', ls', st', h'))) (cap : h.1 + h.2.2.1 - c0 ≤ R.cells ∧ h.2.1 - s0 ≤ R.slots)
    (kk : xGo P M p l e R s m args below meth c Q c0 s0 pc' ls' st' h') : xGo P M p l e R s m args below meth c Q c0 s0 pc ls st h := by
  obtain ⟨hx, hb, -, hml, hown, hts, -, hini, g, hf1, hf2, hbs, hz0⟩ := id F
  obtain ⟨q9, hq9⟩ := x_all xMetC_ok rfl hm
  unfold xLib at hs
  split at hs
  next =>
    have hlk : Jvm.Cond.methodLink (xCls (xOwn M)) j Lib.objectInit ∈ xGw := xG1_in hq9
    obtain rfl : i = .invokespecial j := by
      cases i <;> simp [xIdx] at hi <;> obtain ⟨rfl, rfl⟩ := hi <;> first | rfl | simp [xKindL] at hw
    split at hs
    next a r =>
      split at hs
      next hc =>
        cases hs
        intro arr H locs h1 h2 h3 h4 h5
        refine W.objInit hx hb hown (hts _ hlk) (hts _ (x_lw (k := 0) (by omega))) (hts _ (x_lw (k := 1) (by omega))) rfl (by rw [hml]; exact h1.2.1) rfl hd (by omega) (by show 2 * 0 + _ + 12 ≤ _; rw [x_cat]; omega) ?_
        exact kk arr H locs h1 h2 h3 h4 h5
      next => cases hs
    next => cases hs
  next =>
    have hlk : Jvm.Cond.methodLink (xCls (xOwn M)) j Lib.Math.max.name ∈ xGw := xG1_in hq9
    obtain rfl : i = .invokestatic j := by
      cases i <;> simp [xIdx] at hi <;> obtain ⟨rfl, rfl⟩ := hi <;> first | rfl | simp [xKindL] at hw
    split at hs
    next y x r =>
      split at hs
      next hc =>
        cases hs
        intro arr H locs h1 h2 h3 h4 h5
        exact va_mmax hx hb (by rw [hml]; exact h1.2.1.symm) hown (hts _ hlk) (hts _ (x_lw (k := 2) (by omega))) (hts _ (x_lw (k := 4) (by omega))) (hts _ (x_lw (k := 5) (by omega))) (by omega) (by rw [x_cat]; omega) cap.1 cap.2 hd (kk arr H locs h1 h2 h3 h4 h5)
      next => cases hs
    next => cases hs
  next =>
    have hlk : Jvm.Cond.methodLink (xCls (xOwn M)) j Lib.Math.min.name ∈ xGw := xG1_in hq9
    obtain rfl : i = .invokestatic j := by
      cases i <;> simp [xIdx] at hi <;> obtain ⟨rfl, rfl⟩ := hi <;> first | rfl | simp [xKindL] at hw
    split at hs
    next y x r =>
      split at hs
      next hc =>
        cases hs
        intro arr H locs h1 h2 h3 h4 h5
        exact va_mmin hx hb (by rw [hml]; exact h1.2.1.symm) hown (hts _ hlk) (hts _ (x_lw (k := 3) (by omega))) (hts _ (x_lw (k := 4) (by omega))) (hts _ (x_lw (k := 6) (by omega))) (by omega) (by rw [x_cat]; omega) cap.1 cap.2 hd (kk arr H locs h1 h2 h3 h4 h5)
      next => cases hs
    next => cases hs
  next =>
    have hlk : Jvm.Cond.methodLink (xCls (xOwn M)) j arraycopyName ∈ xGw := xG1_in hq9
    obtain rfl : i = .invokestatic j := by
      cases i <;> simp [xIdx] at hi <;> obtain ⟨rfl, rfl⟩ := hi <;> first | rfl | simp [xKindL] at hw
    split at hs
    next n dp b sp a r =>
      split at hs
      next hc =>
        obtain ⟨hc1, hc2, hc3, hc4⟩ := hc
        split at hs
        next t n0 f t' n1 f2 hk1 hk2 =>
          split at hs
          next hq =>
            obtain ⟨rfl, rfl, hq1, hq2⟩ := hq
            cases hs
            intro arr H locs h1 h2 h3 h4 h5
            have ha := xRep.inA g h2 hk1 (by decide)
            have hb1 := xRep.inA g h2 hk2 (by decide)
            exact va_copyi hx hb (by rw [hml]; exact h1.2.1.symm) hown (hts _ hlk) (hts _ (x_lw (k := 7) (by omega))) (hts _ (x_lw (k := 8) (by omega))) (hts _ (x_lw (k := 9) (by omega))) g.2.1 h2.2.1 (g.D h2.1) h3 a b 0 0 (ty := .int) (x_at P ha hk1) (x_at P hb1 hk2) rfl rfl rfl hc2 hc3 hc4 hq1 hq2 (fun _ _ => rfl) (by omega) (by rw [x_cat]; show _ + ((5 + 2) + 11) ≤ _; omega) hd (fun H1 locs1 hP1 hD1 hS1 => kk arr H1 locs1 h1 (h2.put hb1 hP1) hS1 h4 h5)
          next => cases hs
        next t n0 f t' n1 f2 hk1 hk2 =>
          split at hs
          next hq =>
            obtain ⟨rfl, rfl, hq1, hq2⟩ := hq
            cases hs
            intro arr H locs h1 h2 h3 h4 h5
            have ha := xRep.inA g h2 hk1 (by decide)
            have hb1 := xRep.inA g h2 hk2 (by decide)
            exact va_copyl hx hb (by rw [hml]; exact h1.2.1.symm) hown (hts _ hlk) (hts _ (x_lw (k := 7) (by omega))) (hts _ (x_lw (k := 8) (by omega))) (hts _ (x_lw (k := 9) (by omega))) g.2.1 h2.2.1 (g.D h2.1) h3 a b 1 1 (ty := .long) (x_at P ha hk1) (x_at P hb1 hk2) rfl rfl rfl hc2 hc3 hc4 hq1 hq2 (fun _ _ => rfl) (by omega) (by rw [x_cat]; show _ + ((5 + 2) + 11) ≤ _; omega) hd (fun H1 locs1 hP1 hD1 hS1 => kk arr H1 locs1 h1 (h2.put hb1 hP1) hS1 h4 h5)
          next => cases hs
        next => cases hs
      next => cases hs
    next => cases hs
  next => omega
  next => omega
  next => omega
  next => cases hs
/-- behind a call: what the callee left -/
theorem x_call {h' : xH} {v' : Option Value} {H : Heap} {locs : List Loc} {cells slots mc ms pc : Nat} {arr : Array Slot} {st0 rest : List Value} (hr : va_Run p l e R s m args below meth c H locs cells slots mc ms (F0 m pc arr st0) rest (fun st o t => o = .returned v' ∧ xRep P h' t.heap ∧ va_F (xAA P) st t) (xAA P)) (hS : va_S (xAA P) s.heap H locs)
    (kk : ∀ (H1 : Heap) (locs1 : List Loc), xRep P h' H1 → va_S (xAA P) s.heap H1 locs1 → W p l e R s m args below meth c H1 locs1 (cells + mc) (slots + ms) Q (F0 m (pc + 3) arr (v'.toList ++ rest))) : W p l e R s m args below meth c H locs cells slots Q (F0 m pc arr st0) := by
  intro T hT X
  obtain ⟨v, st₀, t, T', L, h0, X', hL, e1, e2, ⟨hv, hp, hz, hk⟩, st⟩ := hr T hT X
  cases hv
  rw [h0] at hz hk
  obtain ⟨t2, a1, b1⟩ := kk T'.heap (locs ++ L) (by rw [e1]; exact hp)
    ⟨Nat.le_trans hS.1 (by rw [e1]; exact hz), fun q h1 h2 => by rw [e1, hk q (Nat.lt_of_lt_of_le h1 hS.1) h2]; exact hS.2.1 q h1 h2, fun q hq => by
      rcases List.mem_append.mp hq with h | h
      · exact hS.2.2 q h
      · exact hL q h⟩ T' rfl X'
  exact ⟨t2, st t2 a1, b1⟩
end XL
def xRm (d mc ms : Nat) : Room := { frames := d + 8, cells := mc, slots := ms, locals := 60 * (d + 8) }
def xPre (P : xP) (h : xH) (as : List Value) : Array Value → State → Prop := va_Pc (as.map (xV (xAd P))) (fun U => xGl P U ∧ xRep P h U.heap ∧ xBs P ≤ U.heap.size ∧ U.heap.size ≤ xBs P + (h.1 + h.2.2.1))
def xPost (P : xP) (v : Option Value) (h' : xH) : Array Value → State → Outcome → State → Prop := fun _ st o t => o = .returned (v.map (xV (xAd P))) ∧ xRep P h' t.heap ∧ va_F (xAA P) st t
/-- the method with these arguments, at this heap, answers v and leaves h' -/
def xMeets (l : Launch) (P : xP) (d N : Nat) (as : List Value) (h : xH) (v : Option Value) (h' : xH) : Prop :=
  Met l (xNm N) (Jvm.Cond.code (xNm N) (xCode N) (xMaxL N) (xRet N) :: xGw) (xRm d (h'.1 + h'.2.2.1 - (h.1 + h.2.2.1)) (h'.2.1 - h.2.1)) (xPre P h as) (xPost P v h') (h'.1 + h'.2.2.1 - (h.1 + h.2.2.1)) (h'.2.1 - h.2.1) (xAA P)
theorem x_blind (P : xP) (h : xH) (as : List Value) : FrameBlind (xPre P h as) := by
  intro a U g mk q
  obtain ⟨q1, q2, q3, q4, q5⟩ := q
  exact ⟨q1, q2.moved (U := U.calling g mk a) (State.WarmedH.refl U) (fun _ _ _ => rfl), q3, q4, q5⟩
theorem x_gin {ws : List Jvm.Cond} (h : ∀ w ∈ ws, w ∈ xGw) : GoodIn xGw ws := fun w hw => ⟨h w hw, good_of_word (List.mem_filter.mp (h w hw)).2⟩
