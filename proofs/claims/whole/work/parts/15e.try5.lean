section XE
set_option maxHeartbeats 4000000 in
/-- one of the three that throws: its contract -/
theorem xq_met {l : Launch} {P : xP} {d N : Nat} {as : List Value} {h h' : xH} (hN : xqN N) (hfl : ∀ e, l.admits e → e.platform.stackTraces = false) (hl : (xArgs as).length ≤ xMaxL N) (hs : xSnd l P d N 0 (xEntry N as) [] h (some .null) h') :
    MetFree l (xNm N) (headSpec (Jvm.Cond.code (xNm N) (xCode N) (xMaxL N) (xRet N) :: xGw) (xRm d (h'.1 + h'.2.2.1 - (h.1 + h.2.2.1)) (h'.2.1 - h.2.1))) (xPre P h as) (fun _ _ _ _ _ => True) (xqQ P h' (h'.1 + h'.2.2.1 - (h.1 + h.2.2.1)) (h'.2.1 - h.2.1)) := by
  obtain ⟨ho, hN2, -⟩ := hN.ok
  obtain ⟨m1, m2, m3, m4, m5, m6⟩ := x_ms hN2
  refine MetFree.of_bodyS (code := xCode N) (maxLocals := xMaxL N) (ret := xRet N) m1 ?_ ?_
  · intro args s m hh hn
    obtain ⟨meth, c, h1, h2, h3, h4, h5, h6, -, -⟩ := Cond.code_spec hn (atoms_spec (ws := Jvm.Cond.code (xNm N) (xCode N) (xMaxL N) (xRet N) :: xGw) hh _ List.mem_cons_self)
    exact ⟨meth, c, h1, h2, h3, h4, h5, h6⟩
  intro p e s m args below meth c s₁ B hml hpre _
  obtain ⟨rfl, g, hR, hb1, hb2⟩ := hpre
  have hx := B.exec
  have hb := B.bytes
  have hr := B.returns
  have hts := atoms_spec (ws := Jvm.Cond.code (xNm N) (xCode N) (xMaxL N) (xRet N) :: xGw) B.pre
  have hown : s.vm.findClass (xNm N).cls = some m.cls := findClass_of_methodNamed B.named
  have hown2 : s.vm.findClass RX11 = some m.cls := by
    rw [m2, ho] at hown
    exact hown
  have hlocks := B.notSynchronized
  have hin : meth.name = (xNm N).name := (name_of_methodNamed B.named B.method).1
  have hnoh : ∀ pc, ∀ x ∈ c.exceptionTable.toList, covers x pc = false := by
    intro pc x hx
    have h0 := B.noHandlers (hts _ List.mem_cons_self)
    have h1 : c.exceptionTable.toList = [] := by
      have : c.exceptionTable.size = 0 := by simpa [Array.isEmpty] using h0
      exact List.eq_nil_of_length_eq_zero (by simpa using this)
    rw [h1] at hx
    cases hx
  have hls := x_entry P N as hl
  generalize hRm : (headSpec (Jvm.Cond.code (xNm N) (xCode N) (xMaxL N) (xRet N) :: xGw) (xRm d (h'.1 + h'.2.2.1 - (h.1 + h.2.2.1)) (h'.2.1 - h.2.1))).room = R
  have hRf : R.frames = d + 8 ∧ R.cells = h'.1 + h'.2.2.1 - (h.1 + h.2.2.1) ∧ R.slots = h'.2.1 - h.2.1 ∧ R.locals = 60 * (d + 8) := by rw [← hRm]; exact ⟨rfl, rfl, rfl, rfl⟩
  have F : xFr P (h.1 + h.2.2.1) d N p R s m (as.map (xV (xAd P))).toArray meth c :=
    ⟨hx, hb, hr, hml, by rw [← m2]; exact hown, fun w hw => hts w (List.mem_cons_of_mem _ hw), hlocks, fun hi => by rw [hin]; simpa [xIsIn] using hi, g, by omega, by omega, hb1, hb2⟩
  have k : W p l e R s m (as.map (xV (xAd P))).toArray below meth c s.heap [] 0 0 (fun t => ∃ o, t.status = .running ∧ Ended t below o ∧ xqQ P h' (h'.1 + h'.2.2.1 - (h.1 + h.2.2.1)) (h'.2.1 - h.2.1) (as.map (xV (xAd P))).toArray s o t) (entryFrame m (as.map (xV (xAd P))).toArray (xMaxL N)) := by
    rw [lg_entry_eq]
    have k := hs p e R s m (as.map (xV (xAd P))).toArray below meth c (fun t => ∃ o, t.status = .running ∧ Ended t below o ∧ xqQ P h' (h'.1 + h'.2.2.1 - (h.1 + h.2.2.1)) (h'.2.1 - h.2.1) (as.map (xV (xAd P))).toArray s o t) (h.1 + h.2.2.1) h.2.1 F ⟨by omega, by omega⟩ ?_ ?_ _ s.heap [] hls hR va_S.rf (Nat.le_refl _) (Nat.le_refl _)
    · rw [Nat.sub_self, Nat.sub_self] at k
      exact k
    · intro pc i st arr H locs hd hri
      exfalso
      cases i <;> simp only [xRetI, reduceCtorEq] at hri <;> (repeat' (split at hri)) <;> cases hri
    · intro j pc ls h1 hd hj e1 _ arr H locs q1 q2 q3 q4 q5
      obtain ⟨rfl, hd3, i, tx, hLd, hcase⟩ := hN.at hd hj
      intro T hT X
      have hc1 : h1.1 + h1.2.2.1 - (h.1 + h.2.2.1) + 1 = h'.1 + h'.2.2.1 - (h.1 + h.2.2.1) := by
        rw [e1]
        dsimp only
        omega
      have hc2 : h1.2.1 - h.2.1 + 6 = h'.2.1 - h.2.1 := by
        rw [e1]
        dsimp only
        omega
      have X' := xq_base X (by omega) (by omega)
      have hW0 : s.WarmedH T.vm := X.warmed
      have g' : xGl P (T.setFrames (.invoking m (as.map (xV (xAd P))).toArray :: below)) := g.moved (U := T.setFrames (.invoking m (as.map (xV (xAd P))).toArray :: below)) hW0 (fun a ha hna => by
        show T.heap[a]? = _
        rw [hT]; exact q3.2.1 a ha hna)
      have hold : xOld P (T.setFrames (.invoking m (as.map (xV (xAd P))).toArray :: below)) := g'.2.2.2.2.2.2.2.2.2.2
      have hw' := xq_words hold (as.map (xV (xAd P))).toArray
      have hf' : (T.setFrames (.invoking m (as.map (xV (xAd P))).toArray :: below)).vm.findClass RX11 = some m.cls := by
        show T.vm.findClass RX11 = _
        rw [hW0.alike.findClass]; exact hown2
      have hin : ∀ w, w ∈ [Jvm.Cond.methodLink RX11 172 (Bundle.initS xqX), .instantiable xqX 6, .castable xqX xqX, .initialized xqX, .classLink RX11 168 xqX] → w ∈ xqA := by
        intro w hw
        unfold xqA
        refine List.mem_append_right _ (List.mem_append_right _ (List.mem_append_right _ (List.mem_append_right _ ?_)))
        simp only [List.mem_cons, List.not_mem_nil, or_false] at hw
        rcases hw with rfl | rfl | rfl | rfl | rfl <;> simp
      obtain ⟨cX, kX0, hfX, hkX0, -⟩ := Cond.instantiable_spec (hw' (.instantiable xqX 6) (hin _ (by simp)))
      generalize hs' : T.setFrames (.invoking m (as.map (xV (xAd P))).toArray :: below) = s' at X' g' hold hw' hf' hfX hkX0
      have hH' : s'.heap = H := by rw [← hs']; exact hT
      have hZ := g'.2.2.2.2.2.2.2.1 _ _ _ hLd
      have htr := hfl e X.admits
      -- the rest of the walk
      have K : W p l e { frames := R.frames, cells := R.cells - (h1.1 + h1.2.2.1 - (h.1 + h.2.2.1)), slots := R.slots - (h1.2.1 - h.2.1), locals := R.locals } s' m (as.map (xV (xAd P))).toArray below meth c H [] 0 0
          (fun U => ∃ a, U.status = .running ∧ Ended U below (.threw a) ∧ s'.WarmedH U.vm ∧ s'.sameButNew ({ U with vm := s'.vm } : State) [] 1 6 ∧ ∃ ce : Cell, U.heap[a]? = some ce ∧ ce.cls = cX ∧ ce.vm = .none) (F0 m pc arr ([].map (xV (xAd P)))) := by
        refine W.newcK hx hb hf' (hw' (.classLink RX11 168 xqX) (hin _ (by simp))) (hw' (.instantiable xqX 6) (hin _ (by simp))) (hw' (.initialized xqX) (hin _ (by simp))) (g := F0 m pc arr ([].map (xV (xAd P)))) rfl hd (by show 0 + 1 ≤ R.cells - _; omega) (by show 0 + 6 ≤ R.slots - _; omega) hfX rfl (fun H' kC hkC z1 z2 z3 => ?_)
        refine lv_dup hx hb hd3 rfl ?_
        have fin : ∀ (pc6 : Nat), decode (xCode N) pc6 = .ok (.invokespecial 172, 3) → decode (xCode N) (pc6 + 3) = .ok (.athrow, 1) → W p l e { frames := R.frames, cells := R.cells - (h1.1 + h1.2.2.1 - (h.1 + h.2.2.1)), slots := R.slots - (h1.2.1 - h.2.1), locals := R.locals } s' m (as.map (xV (xAd P))).toArray below meth c H' [] (0 + 1) (0 + 6)
          (fun U => ∃ a, U.status = .running ∧ Ended U below (.threw a) ∧ s'.WarmedH U.vm ∧ s'.sameButNew ({ U with vm := s'.vm } : State) [] 1 6 ∧ ∃ ce : Cell, U.heap[a]? = some ce ∧ ce.cls = cX ∧ ce.vm = .none) (F0 m pc6 arr [.ref (xAd P (xKb + 10 + tx)), .ref H.size, .ref H.size]) := by
          intro pc6 e6 e9 T2 hT2 X2
          obtain ⟨U, u1, u2, u3, u4, u5, ⟨ce, u6, u7, u8⟩, -, -⟩ := xq_throw X2 hx htr hf' hw' (hold.ref (xq_tb (k := 6) (by decide +kernel)) xq_r1 _) (hold.ref (xq_tb (k := 6) (by decide +kernel)) xq_r2 _) hfX hkC (a := H.size) (by rw [hT2]; exact z1) (by rw [hH']; exact Nat.le_refl _) (msg := .ref (xAd P (xKb + 10 + tx))) rfl
            (g := F0 m pc6 arr [.ref (xAd P (xKb + 10 + tx)), .ref H.size, .ref H.size]) rfl (by rw [hml]; exact q1.2.1) rfl rfl (rest := []) rfl (by rw [hb]; exact e6) (by rw [hb]; exact e9) (hnoh _) (by show 5 < R.frames; omega) (by show 2 * 0 + (1 + 0) + 81 ≤ R.locals; omega) hlocks
          exact ⟨U, u1, H.size, u2, u3, u4, u5, ce, u6, u7, u8⟩
        rcases hcase with ⟨e4, e6, e9⟩ | ⟨e4, e6, e9⟩
        · exact va_ldcS hx hb hf' hZ e4 (fin (pc + 6) e6 e9)
        · intro T2 hT2 X2
          obtain ⟨t, a1, b1⟩ := fin (pc + 7) e6 e9 T2 hT2 X2
          exact ⟨t, X2.ldcStringW hx hf' (text := xStr.getD tx "") (a := xAd P (xKb + 10 + tx)) hZ.1 hZ.2 (g := F0 m (pc + 4) arr [.ref H.size, .ref H.size]) rfl (by rw [hb]; exact e4) t a1, b1⟩
      obtain ⟨U, a1, a, b1, b2, b3, b4, ce, b5, b6, b7⟩ := K T hT X'
      have hkeep : ∀ q, q < H.size → U.heap[q]? = H[q]? := fun q hq => by
        have := xq_same b4 (q := q) (by rw [hH']; exact hq)
        rw [hH'] at this
        exact this
      have hsz : H.size ≤ U.heap.size := by
        have := b4.2.1
        rw [hH'] at this
        exact this
      have hWU : s.WarmedH U.vm := by
        refine State.WarmedH.trans hW0 ?_
        have : s'.WarmedH U.vm := b3
        rw [← hs'] at this
        exact this
      have hsame2 : s.sameButNew ({ U with vm := s.vm } : State) (locs ++ []) (h1.1 + h1.2.2.1 - (h.1 + h.2.2.1) + 1) (h1.2.1 - h.2.1 + 6) := by
        have e0 : T.sameButNew (U.setVm T.vm) [] 1 6 := by
          rw [← hs'] at b4
          obtain ⟨z1, z2⟩ := b4
          refine ⟨?_, z2⟩
          rw [State.setFrames_setFrames] at z1
          exact z1
        exact X.same.trans (e0.setVm s.vm)
      rw [List.append_nil, hc1, hc2] at hsame2
      have hcell : s.vm.findClass xqX = some ce.cls := by
        rw [b6, ← hfX, ← hs']
        show _ = T.vm.findClass xqX
        rw [hW0.alike.findClass]
      refine ⟨U, a1, .threw a, b1, b2, a, ce, rfl, b5, hcell, b7, ?_, ⟨?_, fun q hq hna => ?_⟩, hWU, locs, hsame2, q3.2.2⟩
      · obtain ⟨r1, r2, r3, r4⟩ := q2
        rw [e1]
        refine ⟨r1, fun kk qq hq => ?_, r3, r4⟩
        exact (r2.kept (fun k x hx => hkeep x.1 ((r2 k x hx).lt))) kk qq hq
      · exact Nat.le_trans q3.1 hsz
      · rw [hkeep q (Nat.lt_of_lt_of_le hq q3.1)]
        exact q3.2.1 q hq hna
  have hh0 : s₁.heap = s.heap := by rw [B.state]; rfl
  have X₀ := Stand.of_body B
  rw [hRm] at X₀
  obtain ⟨t, a1, o, b1, b2, b3⟩ := k s₁ hh0 X₀
  exact ⟨t, o, a1, b1, b2, b3⟩
end XE
