section XJ
def xqG (w : Jvm.Cond) : Bool := ((xTb 6).any (fun z => decide (z = w)) || (xTb 1).any (fun z => decide (z = w))) && goodWord w
theorem xqG_in {w : Jvm.Cond} (h : xqG w = true) : w ∈ xGw := by
  simp only [xqG, Bool.and_eq_true, Bool.or_eq_true] at h
  refine List.mem_filter.mpr ⟨?_, h.2⟩
  rcases h.1 with h | h
  · exact xq_tb h
  · exact xq_tb h
abbrev xqL : String := "FelledHasLostLaw"
def yq_block : MethodName := ⟨xqL, "block", "(LFelledHasLost;II[J)I"⟩
def yq_layer : MethodName := ⟨xqL, "layer", "(LFelledHasLost;II[J)I"⟩
def yq_row : MethodName := ⟨xqL, "row", "(LFelledHasLost;I[J)I"⟩
def xqMetC (o : Nat) (q : Nat × (Nat × Nat × Nat) × Nat) : Bool := if q.2.1.1 = 17 then decide (o = 13) && decide (q.1 = 49) && decide (q.2.1.2.2 = 4) else if q.2.1.1 = 18 then decide (o = 13) && decide (q.1 = 58) && decide (q.2.1.2.2 = 4) else if q.2.1.1 = 19 then decide (o = 13) && decide (q.1 = 208) && decide (q.2.1.2.2 = 3) else true
theorem xqMetC_ok : (List.range 16).all (fun o => (xMetL.getD o []).all (xqMetC o)) = true := by decide +kernel
theorem xq_met17 {o j N0 na : Nat} (h : xMet o j = some (17, N0, na)) : o = 13 ∧ j = 49 ∧ na = 4 := by
  obtain ⟨q, hq⟩ := x_all xqMetC_ok rfl h
  simpa [xqMetC, and_assoc] using hq
theorem xq_met18 {o j N0 na : Nat} (h : xMet o j = some (18, N0, na)) : o = 13 ∧ j = 58 ∧ na = 4 := by
  obtain ⟨q, hq⟩ := x_all xqMetC_ok rfl h
  simpa [xqMetC, and_assoc] using hq
theorem xq_met19 {o j N0 na : Nat} (h : xMet o j = some (19, N0, na)) : o = 13 ∧ j = 208 ∧ na = 3 := by
  obtain ⟨q, hq⟩ := x_all xqMetC_ok rfl h
  simpa [xqMetC, and_assoc] using hq
theorem xq_args3 {st' as r : List Value} {h : xH} {o : Nat} (hp : xPop 3 [] st' = some (as, r)) (hrc : xRecv h as o = true) (hii : xInts as = true) : ∃ (a : Nat) (i1 i2 : Int32), as = [.ref a, .int i1, .int i2] ∧ st' = [.int i2, .int i1, .ref a] ++ r := by
  obtain ⟨t, e1, e2, e3⟩ := x_pop _ _ _ _ _ hp
  match t, e3 with
  | [v2, v1, v0], _ =>
    simp only [List.reverse_cons, List.reverse_nil, List.nil_append, List.append_nil, List.cons_append] at e2
    subst e2
    subst e1
    cases v0 <;> simp [xRecv] at hrc
    cases v1 <;> simp [xInts] at hii
    cases v2 <;> simp [xInts] at hii
    exact ⟨_, _, _, rfl, rfl⟩
theorem xq_args2 {st' as r : List Value} {h : xH} {o : Nat} (hp : xPop 2 [] st' = some (as, r)) (hrc : xRecv h as o = true) (hii : xInts as = true) : ∃ (a : Nat) (i1 : Int32), as = [.ref a, .int i1] ∧ st' = [.int i1, .ref a] ++ r := by
  obtain ⟨t, e1, e2, e3⟩ := x_pop _ _ _ _ _ hp
  match t, e3 with
  | [v1, v0], _ =>
    simp only [List.reverse_cons, List.reverse_nil, List.nil_append, List.append_nil, List.cons_append] at e2
    subst e2
    subst e1
    cases v0 <;> simp [xRecv] at hrc
    cases v1 <;> simp [xInts] at hii
    exact ⟨_, _, rfl, rfl⟩
theorem xq_rl {maxL : Nat} (d : Nat) (h : maxL ≤ 5) : 8 + (maxL + 11) + 60 * (d + 1 + 8) ≤ 60 * (d + 2 + 8) := by omega
set_option maxHeartbeats 4000000 in
/-- a call of the law's own that catches, given the contract of what it calls -/
theorem xq_law {l : Launch} {P : xP} {d M : Nat} {p : Program} {e : Env} {R : Room} {s : State} {m : MethodId} {args : Array Value} {below : List Frame} {meth : Method} {c : Code} {Q : State → Prop} {c0 s0 pc j n maxL : Nat} {y : MethodName} {bytes : ByteArray} {hh : List (Nat × Nat × Nat × Nat)} {ls : xL} {as4 r : List Value} {h h1 h2 : xH} {ci : Int32}
    (F : xFr P c0 (d + 2) M p R s m args meth c) (ho : xOwn M = 13) (hd : decode (xCode M) pc = .ok (.invokestatic j, 3)) (hcr : xCat r ≤ 8) (le : xLe h h1) (le2 : xLe h1 h2) (cap : h2.1 + h2.2.2.1 - c0 ≤ R.cells ∧ h2.2.1 - s0 ≤ R.slots)
    (hM : Met l y (Jvm.Cond.codeWith y bytes maxL (some .int) hh :: xGw) (xRm (d + 1) (h2.1 + h2.2.2.1 - (h.1 + h.2.2.1)) (h2.2.1 - h.2.1)) (xPre P h as4) (xPost P (some (.int ci)) h2) (h2.1 + h2.2.2.1 - (h.1 + h.2.2.1)) (h2.2.1 - h.2.1) (xAA P)) (hmx : maxL ≤ 5)
    (hcw : Jvm.Cond.codeWith y bytes maxL (some .int) hh ∈ xGw) (hst : Jvm.Cond.static y ∈ xGw) (hini : Jvm.Cond.initialized y.cls ∈ xGw) (hl : Jvm.Cond.methodLink xqL j y ∈ xGw) (hy : y.cls ≠ "java/lang/invoke/MethodHandle" ∧ y.cls ≠ "java/lang/invoke/VarHandle") (hpd : (parseMethodDescriptor y.desc).map (fun d => d.parameters.length) = some n) (hn : as4.length = n)
    (kk : xGo P M p l e R s m args below meth c Q c0 s0 (pc + 3) ls (.int ci :: r) h2) : xGo P M p l e R s m args below meth c Q c0 s0 pc ls (as4.reverse ++ r) h := by
  obtain ⟨hx, hb, -, hml, hown, hts, -, hinn, g, hf1, hf2, hbs, hz0⟩ := id F
  have hown' : s.vm.findClass xqL = some m.cls := by
    rw [ho] at hown
    exact hown
  intro arr H locs q1 q2 q3 q4 q5
  refine xw_sz (fun hz => ?_)
  unfold xLe at le le2
  have hsz : H.size ≤ xBs P + (h.1 + h.2.2.1) := by omega
  have hbs' : xBs P ≤ H.size := Nat.le_trans hbs q3.1
  have hPc : ∀ U : State, U.heap = H → s.WarmedH U.vm → xPre P h as4 (as4.map (xV (xAd P))).toArray U := fun U hU hW => ⟨rfl, g.moved hW (fun a ha hna => by rw [hU]; exact q3.2.1 a ha hna), by rw [hU]; exact q2, by rw [hU]; exact hbs', by rw [hU]; exact hsz⟩
  have hroom : 2 * (F0 m pc arr ((as4.reverse ++ r).map (xV (xAd P)))).monitorRoom + ((r.map (xV (xAd P))).map fun v => v.category).sum ≤ 8 := by
    show 2 * 0 + _ ≤ 8
    rw [x_cat]
    omega
  refine x_call (v' := some (.int ci)) (h' := h2) (xq_runS (own := xqL) (As := as4.map (xV (xAd P))) (rest := r.map (xV (xAd P))) ⟨hx, hb, hml, hown', hts⟩ hM hcw hst hini hl hy hpd rfl rfl ⟨?_, ?_⟩ ⟨x_blind P h _, hPc⟩ rfl (by rw [List.length_map]; exact hn) q1.2.1 ?_ hroom hd ⟨?_, ?_⟩) q3 (fun H1 locs1 hR1 hS1 => ?_)
  · show d + 1 + 8 + 1 ≤ _
    omega
  · exact Nat.le_trans (xq_rl d hmx) hf2
  · show (as4.reverse ++ r).map (xV (xAd P)) = _
    simp
  · omega
  · omega
  · exact W.cs (by omega) (by omega) (kk arr H1 locs1 q1 hR1 hS1 (by omega) (by omega))
set_option maxHeartbeats 4000000 in
/-- the law's calls that catch -/
theorem xTry_ok {l : Launch} {P : xP} (hfl : ∀ e, l.admits e → e.platform.stackTraces = false) : xTryOK l P := by
  intro d M p e R s m args below meth c Q c0 s0 pc w j k N0 N na o i ls st' as r h h1 h2 v ci F hd hi hw hm hN hp hcr hrc hii hv hs le hca hl cap kk
  have le2 := xCaught_le hca
  subst hw
  obtain rfl : i = .invokestatic j := by cases i <;> simp [xIdx] at hi <;> obtain rfl := hi <;> rfl
  unfold xTry at hN
  split at hN
  next hk =>
    subst hk
    cases hN
    obtain ⟨ho, rfl, rfl⟩ := xq_met17 hm
    obtain ⟨a, i1, i2, rfl, rfl⟩ := xq_args3 hp hrc hii
    exact xq_law (as4 := [.ref a, .int i1, .int i2, .ref o]) (n := 4) F ho hd hcr le le2 cap (xq_body (y := yq_block) (cc := method_3_code) (index := 7) (Or.inl rfl) (by decide +kernel) hfl rfl (xqG_in (by decide +kernel)) (xqG_in (by decide +kernel)) (xqG_in (by decide +kernel)) (by decide +kernel)
      (by decide +kernel) (by decide +kernel) (by decide +kernel) (by decide +kernel) (by decide +kernel) (by decide +kernel) (by decide +kernel) (by decide +kernel) (by decide +kernel) (by decide +kernel) (by decide +kernel) (by decide +kernel) (by decide +kernel) (by decide +kernel) hs hv le hca hl hrc) (by decide) (xqG_in (by decide +kernel)) (xqG_in (by decide +kernel)) (xqG_in (by decide +kernel)) (xqG_in (by decide +kernel)) (by decide) (by decide +kernel) rfl kk
  next =>
    split at hN
    next hk =>
      subst hk
      cases hN
      obtain ⟨ho, rfl, rfl⟩ := xq_met18 hm
      obtain ⟨a, i1, i2, rfl, rfl⟩ := xq_args3 hp hrc hii
      exact xq_law (as4 := [.ref a, .int i1, .int i2, .ref o]) (n := 4) F ho hd hcr le le2 cap (xq_body (y := yq_layer) (cc := method_4_code) (index := 15) (Or.inr (Or.inl rfl)) (by decide +kernel) hfl rfl (xqG_in (by decide +kernel)) (xqG_in (by decide +kernel)) (xqG_in (by decide +kernel)) (by decide +kernel)
        (by decide +kernel) (by decide +kernel) (by decide +kernel) (by decide +kernel) (by decide +kernel) (by decide +kernel) (by decide +kernel) (by decide +kernel) (by decide +kernel) (by decide +kernel) (by decide +kernel) (by decide +kernel) (by decide +kernel) (by decide +kernel) hs hv le hca hl hrc) (by decide) (xqG_in (by decide +kernel)) (xqG_in (by decide +kernel)) (xqG_in (by decide +kernel)) (xqG_in (by decide +kernel)) (by decide) (by decide +kernel) rfl kk
    next =>
      split at hN
      next hk =>
        subst hk
        cases hN
        obtain ⟨ho, rfl, rfl⟩ := xq_met19 hm
        obtain ⟨a, i1, rfl, rfl⟩ := xq_args2 hp hrc hii
        exact xq_law (as4 := [.ref a, .int i1, .ref o]) (n := 3) F ho hd hcr le le2 cap (xq_body1 (y := yq_row) (cc := method_5_code) (index := 18) (Or.inr (Or.inr rfl)) (by decide +kernel) hfl rfl (xqG_in (by decide +kernel)) (xqG_in (by decide +kernel)) (xqG_in (by decide +kernel)) (by decide +kernel)
          (by decide +kernel) (by decide +kernel) (by decide +kernel) (by decide +kernel) (by decide +kernel) (by decide +kernel) (by decide +kernel) (by decide +kernel) (by decide +kernel) (by decide +kernel) (by decide +kernel) (by decide +kernel) hs hv le hca hl hrc) (by decide) (xqG_in (by decide +kernel)) (xqG_in (by decide +kernel)) (xqG_in (by decide +kernel)) (xqG_in (by decide +kernel)) (by decide) (by decide +kernel) rfl kk
      next => cases hN
end XJ
