section XR
variable {P : xP} {d M : Nat} {p : Program} {l : Launch} {e : Env} {R : Room} {s : State} {m : MethodId} {args : Array Value} {below : List Frame} {meth : Method} {c : Code} {Q : State → Prop} {c0 s0 : Nat}
theorem x_ms {N : Nat} (h : N < 270) : plainName (xNm N).cls = true ∧ (xNm N).cls = xCls (xOwn N) ∧ (xNm N).cls ≠ "java/lang/invoke/MethodHandle" ∧ (xNm N).cls ≠ "java/lang/invoke/VarHandle" ∧ Jvm.Cond.initialized (xNm N).cls ∈ xGw ∧ Jvm.Cond.code (xNm N) (xCode N) (xMaxL N) (xRet N) ∈ xGw := by
  have h1 := List.all_eq_true.mp xMsC_ok N (List.mem_range.mpr h)
  simp only [xMsC, Bool.and_eq_true, decide_eq_true_eq] at h1
  exact ⟨h1.1.1.1.1, h1.1.1.1.2, h1.1.1.2, h1.1.2, xG1_in h1.2, List.mem_filter.mpr ⟨xcode_in h, rfl⟩⟩
theorem x_objc {ci : Nat} (hci : ci < 13) : ∃ r : vw_C, vwCl[ci]? = some r ∧ r.1 = xCls ci := by
  have ho := List.all_eq_true.mp xObjC_ok ci (List.mem_range.mpr hci)
  unfold xObjC at ho
  split at ho
  next r hr =>
    simp only [Bool.and_eq_true, decide_eq_true_eq] at ho
    exact ⟨r, hr, ho.1.1.1.1.1⟩
  next => cases ho
theorem x_vl (β : Nat → Nat) (v : Option Value) (r : List Value) : (v.map (xV β)).toList ++ r.map (xV β) = (v.toList ++ r).map (xV β) := by
  cases v <;> rfl
set_option maxHeartbeats 4000000 in
theorem xs_call (F : xFr P c0 (d + 1) M p R s m args meth c) {pc w j k N na : Nat} {i : Instr} {ls : xL} {st as r : List Value} {h h' : xH} {v : Option Value} (hd : decode (xCode M) pc = .ok (i, 3)) (hi : xIdx i = some (w, j)) (hm : xMet (xOwn M) j = some (k, N, na)) (hw : xKind w k = true) (hp : xPop (if w = 1 then na else na + 1) [] st = some (as, r)) (hcr : xCat r ≤ 8) (hrc : w = 1 ∨ xRecv h as (xOwn N) = true)
    (hM : N < 270 → xMeets l P d N as h v h') (mono : h.1 + h.2.2.1 ≤ h'.1 + h'.2.2.1 ∧ h.2.1 ≤ h'.2.1) (hL : xMaxL N ≤ 40) (cap : h'.1 + h'.2.2.1 - c0 ≤ R.cells ∧ h'.2.1 - s0 ≤ R.slots)
    (kk : xGo P M p l e R s m args below meth c Q c0 s0 (pc + 3) ls (v.toList ++ r) h') : xGo P M p l e R s m args below meth c Q c0 s0 pc ls st h := by
  obtain ⟨hx, hb, -, hml, hown, hts, -, hini, g, hf1, hf2, hbs, hz0⟩ := id F
  obtain ⟨q9, hq9⟩ := x_all xMetC_ok rfl hm
  obtain ⟨t, e1, e2, e3⟩ := x_pop _ _ _ _ _ hp
  rw [List.append_nil] at e2
  intro arr H locs h1 h2 h3 h4 h5
  refine xw_sz (fun hz => ?_)
  have hsz : H.size ≤ xBs P + (h.1 + h.2.2.1) := by omega
  have hbs' : xBs P ≤ H.size := Nat.le_trans hbs h3.1
  have hPc : ∀ U : State, U.heap = H → s.WarmedH U.vm → xPre P h as (as.map (xV (xAd P))).toArray U := fun U hU hW => ⟨rfl, g.moved hW (fun a ha hna => by rw [hU]; exact h3.2.1 a ha hna), by rw [hU]; exact h2, by rw [hU]; exact hbs', by rw [hU]; exact hsz⟩
  have hcap : h.1 + h.2.2.1 - c0 + (h'.1 + h'.2.2.1 - (h.1 + h.2.2.1)) ≤ R.cells ∧ h.2.1 - s0 + (h'.2.1 - h.2.1) ≤ R.slots := by omega
  have hroom : 2 * (F0 m pc arr (st.map (xV (xAd P)))).monitorRoom + ((r.map (xV (xAd P))).map fun v => v.category).sum ≤ 8 := by
    show 2 * 0 + _ ≤ 8
    rw [x_cat]
    omega
  have fin : ∀ (H1 : Heap) (locs1 : List Loc), xRep P h' H1 → va_S (xAA P) s.heap H1 locs1 → W p l e R s m args below meth c H1 locs1 (h.1 + h.2.2.1 - c0 + (h'.1 + h'.2.2.1 - (h.1 + h.2.2.1))) (h.2.1 - s0 + (h'.2.1 - h.2.1)) Q (F0 m (pc + 3) arr ((v.map (xV (xAd P))).toList ++ r.map (xV (xAd P)))) := by
    intro H1 locs1 hR1 hS1
    rw [x_vl]
    exact W.cs (by omega) (by omega) (kk arr H1 locs1 h1 hR1 hS1 (by omega) (by omega))
  have hR : (xRm d (h'.1 + h'.2.2.1 - (h.1 + h.2.2.1)) (h'.2.1 - h.2.1)).frames + 1 ≤ R.frames ∧ 8 + (xMaxL N + 11) + (xRm d (h'.1 + h'.2.2.1 - (h.1 + h.2.2.1)) (h'.2.1 - h.2.1)).locals ≤ R.locals := by
    simp only [xRm]
    omega
  have hwin : ∀ w ∈ Jvm.Cond.code (xNm N) (xCode N) (xMaxL N) (xRet N) :: xGw, N < 270 → w ∈ xGw := by
    intro w hw hN
    rcases List.mem_cons.mp hw with rfl | hw
    · exact (x_ms hN).2.2.2.2.2
    · exact hw
  simp only [xKind, Bool.or_eq_true, Bool.and_eq_true, beq_iff_eq] at hw
  rcases hw with (⟨rfl, rfl | rfl⟩ | ⟨rfl, rfl | rfl⟩) | ⟨rfl, rfl | rfl⟩
  · obtain rfl : i = .invokevirtual j := by cases i <;> simp [xIdx] at hi <;> obtain ⟨h0, rfl⟩ := hi <;> first | rfl | omega
    simp only [xMetC, Bool.and_eq_true, decide_eq_true_eq] at hq9
    obtain ⟨⟨⟨⟨⟨⟨q0, q1⟩, q2⟩, q3⟩, q4⟩, q5⟩, q6⟩ := hq9
    obtain ⟨m1, m2, m3, m4, m5, m6⟩ := x_ms q1
    have hrv := hrc.resolve_left (by omega)
    unfold xRecv at hrv
    split at hrv
    next a t' =>
      split at hrv
      next ci fs hk =>
        obtain rfl : ci = xOwn N := by simpa using hrv
        have ha := xRep.inO g h2 hk q0
        obtain ⟨rr, hrr, hrn⟩ := x_objc q0
        have hrecv := va_recv g.2.1 h2.2.1 (q0 := a) (ci := xOwn N) hrr (x_at P ha hk)
        have e4 : t = t'.reverse ++ [.ref a] := by
          have : t.reverse = .ref a :: t' := e2.symm
          have h9 := congrArg List.reverse this
          rw [List.reverse_reverse, List.reverse_cons] at h9
          exact h9
        refine x_call (va_runV (As := t'.map (xV (xAd P))) (rest := r.map (xV (xAd P))) (b := xAd P a) ⟨hx, hb, hml, hown, hts⟩ (hM q1) (cwV na hts (x_gin (fun w hw => ?_)) rfl rfl rfl ⟨rfl, m3, m4, q5⟩ hR) ⟨x_blind P h _, ?_, hPc⟩ rfl ?_ h1.2.1 ?_ hroom hd hcap) h3 fin
        · unfold wsV at hw
          rcases List.mem_append.mp hw with hw | hw
          · simp only [List.mem_cons, List.not_mem_nil, or_false] at hw
            rcases hw with rfl | rfl | rfl | rfl
            · exact xG1_in q2
            · exact xG1_in q3
            · exact xG1_in q4
            · exact m5
          · exact hwin w hw q1
        · rw [m2, ← hrn]; exact hrecv
        · have : t'.length + 1 = na + 1 := by rw [e4] at e3; simpa using e3
          simp; omega
        · show st.map (xV (xAd P)) = _
          rw [e1, e4]
          simp [xV]
      next => cases hrv
    next => cases hrv
  · simp [xMetC] at hq9
  · obtain rfl : i = .invokestatic j := by cases i <;> simp [xIdx] at hi <;> obtain ⟨h0, rfl⟩ := hi <;> first | rfl | omega
    simp only [xMetC, Bool.and_eq_true, decide_eq_true_eq] at hq9
    obtain ⟨⟨⟨⟨q1, q2⟩, q3⟩, q5⟩, q6⟩ := hq9
    obtain ⟨m1, m2, m3, m4, m5, m6⟩ := x_ms q1
    refine x_call (va_runS (As := as.map (xV (xAd P))) (rest := r.map (xV (xAd P))) ⟨hx, hb, hml, hown, hts⟩ (hM q1) (va_cwS na hts (x_gin (fun w hw => ?_)) rfl rfl rfl ⟨m3, m4, q5⟩ hR) ⟨x_blind P h _, hPc⟩ rfl ?_ h1.2.1 ?_ hroom hd hcap) h3 fin
    · unfold va_wsS at hw
      rcases List.mem_append.mp hw with hw | hw
      · simp only [List.mem_cons, List.not_mem_nil, or_false] at hw
        rcases hw with rfl | rfl | rfl
        · exact xG1_in q2
        · exact xG1_in q3
        · exact m5
      · exact hwin w hw q1
    · rw [e2]; simpa using e3
    · show st.map (xV (xAd P)) = _
      rw [e1, e2]
      simp
  · simp [xMetC] at hq9
  · obtain rfl : i = .invokespecial j := by cases i <;> simp [xIdx] at hi <;> obtain ⟨h0, rfl⟩ := hi <;> first | rfl | omega
    simp only [xMetC, Bool.and_eq_true, decide_eq_true_eq] at hq9
    obtain ⟨⟨⟨⟨⟨q1, q2⟩, q3⟩, q5⟩, q6⟩, q7⟩ := hq9
    obtain ⟨m1, m2, m3, m4, m5, m6⟩ := x_ms q1
    have hrv := hrc.resolve_left (by omega)
    unfold xRecv at hrv
    split at hrv
    next a t' =>
      have e4 : t = t'.reverse ++ [.ref a] := by
        have : t.reverse = .ref a :: t' := e2.symm
        have h9 := congrArg List.reverse this
        rw [List.reverse_reverse, List.reverse_cons] at h9
        exact h9
      have hM' := hM q1
      unfold xMeets at hM'
      have hin := hwin
      rw [q7] at hM' hin m6
      refine x_call (va_runI (As := t'.map (xV (xAd P))) (rest := r.map (xV (xAd P))) (b := xAd P a) ⟨hx, hb, hml, hown, hts⟩ hM' (cwI na hts (x_gin (fun w hw => hin w hw q1)) rfl rfl rfl (hts _ m5) (hts _ (xG1_in q2)) (hts _ (xG1_in q3)) (by simpa [xIsIn] using q6) ⟨m3, m4, q5⟩ hR) ⟨x_blind P h _, hPc⟩ rfl ?_ h1.2.1 ?_ hroom hd hcap) h3 fin
      · have : t'.length + 1 = na + 1 := by rw [e4] at e3; simpa using e3
        simp; omega
      · show st.map (xV (xAd P)) = _
        rw [e1, e4]
        simp [xV]
    next => cases hrv
  · obtain rfl : i = .invokespecial j := by cases i <;> simp [xIdx] at hi <;> obtain ⟨h0, rfl⟩ := hi <;> first | rfl | omega
    simp only [xMetC, Bool.and_eq_true, decide_eq_true_eq] at hq9
    obtain ⟨⟨⟨⟨⟨q1, q2⟩, q3⟩, q5⟩, q6⟩, q7⟩ := hq9
    obtain ⟨m1, m2, m3, m4, m5, m6⟩ := x_ms q1
    have hrv := hrc.resolve_left (by omega)
    unfold xRecv at hrv
    split at hrv
    next a t' =>
      have e4 : t = t'.reverse ++ [.ref a] := by
        have : t.reverse = .ref a :: t' := e2.symm
        have h9 := congrArg List.reverse this
        rw [List.reverse_reverse, List.reverse_cons] at h9
        exact h9
      have hM' := hM q1
      unfold xMeets at hM'
      have hin := hwin
      rw [q7] at hM' hin m6
      refine x_call (va_runIN (As := t'.map (xV (xAd P))) (rest := r.map (xV (xAd P))) (b := xAd P a) ⟨hx, hb, hml, hown, hts⟩ hM' ⟨va_cnB na hts (x_gin (fun w hw => hin w hw q1)) rfl rfl rfl (g.2.2.1 _ (xW0_in q2) rfl) (hts _ m5) ⟨m3, m4, q5⟩ hR, by simpa [xIsIn] using q6, hts _ (xG1_in q3)⟩ ⟨x_blind P h _, hPc⟩ rfl ?_ h1.2.1 ?_ hroom hd hcap) h3 fin
      · have : t'.length + 1 = na + 1 := by rw [e4] at e3; simpa using e3
        simp; omega
      · show st.map (xV (xAd P)) = _
        rw [e1, e4]
        simp [xV]
    next => cases hrv
end XR
