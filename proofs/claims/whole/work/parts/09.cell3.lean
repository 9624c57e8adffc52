section XD
variable {P : xP} {d M : Nat} {p : Program} {l : Launch} {e : Env} {R : Room} {s : State} {m : MethodId} {args : Array Value} {below : List Frame} {meth : Method} {c : Code} {Q : State → Prop} {c0 s0 : Nat}
theorem x_at (P : xP) {h : xH} {a : Nat} {k : xE} (ha : a < h.1) (hk : h.2.2.2 a = k) : (xW P h)[a]? = some (xAd P a, xCe (xAd P) (xCA P) k) := by rw [xW_get P ha, hk]
theorem x_ar1 (β : Nat → Nat) (x : vp_A) : (xAr β x).1 = x.1 := by
  unfold xAr
  split <;> rfl
theorem x_defm {ci : Nat} (hci : ci < 13) (β : Nat → Nat) : (xDef.getD ci []).map (xV β) = xDef.getD ci [] := by
  match ci, hci with
  | 0, _ => rfl
  | 1, _ => rfl
  | 2, _ => rfl
  | 3, _ => rfl
  | 4, _ => rfl
  | 5, _ => rfl
  | 6, _ => rfl
  | 7, _ => rfl
  | 8, _ => rfl
  | 9, _ => rfl
  | 10, _ => rfl
  | 11, _ => rfl
  | 12, _ => rfl
  | k + 13, h => omega
theorem x_nar1 (x : Int32) : vp_nar .boolean x = x &&& 1 := rfl
set_option maxHeartbeats 4000000 in
theorem xs_cell (F : xFr P c0 d M p R s m args meth c) {pc len pc' : Nat} {i : Instr} {ls ls' : xL} {st st' : List Value} {h h' : xH} (hd : decode (xCode M) pc = .ok (i, len)) (hn : xLn i len = true) (hs : xCell i M pc ls st h = some (.inl (pc', ls', st', h'))) (cap : h'.1 + h'.2.2.1 - c0 ≤ R.cells ∧ h'.2.1 - s0 ≤ R.slots)
    (kk : xGo P M p l e R s m args below meth c Q c0 s0 pc' ls' st' h') : xGo P M p l e R s m args below meth c Q c0 s0 pc ls st h := by
  obtain ⟨hx, hb, -, -, hown, hts, -, hini, g, -, -, hbs, hz0⟩ := id F
  have hA : ∀ q, s.heap.size ≤ q → xAA P q := fun q hq => Nat.le_trans hbs hq
  cases i with
  | getfield j =>
    obtain rfl : len = 3 := by simpa [xLn] using hn
    obtain ⟨_, _, _, e1, k1⟩ := xs_getf F hd hs
    cases e1
    exact k1 kk
  | putfield j =>
    obtain rfl : len = 3 := by simpa [xLn] using hn
    obtain ⟨_, _, _, _, _, e1, k1⟩ := xs_putf F hd hs
    cases e1
    exact k1 kk
  | getstatic j =>
    obtain rfl : len = 3 := by simpa [xLn] using hn
    simp only [xCell] at hs
    split at hs
    next j hj =>
      cases hs
      intro arr H locs h1 h2 h3 h4 h5
      obtain ⟨q, hq⟩ := x_all xGstC_ok rfl hj
      simp only [xGstC, Bool.or_eq_true, Bool.and_eq_true, decide_eq_true_eq] at hq
      rcases hq with ⟨rfl, hq⟩ | ⟨rfl, hq⟩
      · exact va_gets hx hb g.2.2.2.2.2.1 h3 hown (hts _ (xG1_in hq)) (fun x h9 => h9) hd (kk arr H locs h1 h2 h3 h4 h5)
      · exact va_gets hx hb g.2.2.2.2.2.2.1 h3 hown (hts _ (xG1_in hq)) (fun x h9 => h9) hd (kk arr H locs h1 h2 h3 h4 h5)
    next => cases hs
  | ldc j =>
    obtain rfl : len = 2 := by simpa [xLn] using hn
    simp only [xCell] at hs
    split at hs
    next v hj =>
      cases hs
      intro arr H locs h1 h2 h3 h4 h5
      obtain ⟨q, hq⟩ := x_all xLdcC_ok rfl hj
      exact lv_ldc hx hb hown (hts _ (xG1_in hq)) hd (kk arr H locs h1 h2 h3 h4 h5)
    next =>
      split at hs
      next j hj =>
        cases hs
        intro arr H locs h1 h2 h3 h4 h5
        exact va_ldcS hx hb hown (g.2.2.2.2.2.2.2.1 _ _ _ hj) hd (kk arr H locs h1 h2 h3 h4 h5)
      next => cases hs
  | ldc_w j =>
    obtain rfl : len = 3 := by simpa [xLn] using hn
    simp only [xCell] at hs
    split at hs
    next v hj =>
      cases hs
      intro arr H locs h1 h2 h3 h4 h5
      obtain ⟨q, hq⟩ := x_all xLdcC_ok rfl hj
      exact lv_ldcw hx hb hown (hts _ (xG1_in hq)) hd (kk arr H locs h1 h2 h3 h4 h5)
    next =>
      split at hs
      next j2 hj =>
        cases hs
        intro arr H locs h1 h2 h3 h4 h5
        have hZ := g.2.2.2.2.2.2.2.1 _ _ _ hj
        intro T hT X
        obtain ⟨t, a1, b1⟩ := kk arr H locs h1 h2 h3 h4 h5 T hT X
        exact ⟨t, X.ldcStringW hx hown (text := xStr.getD j2 "") (a := xAd P (xKb + 10 + j2)) hZ.1 hZ.2 (g := F0 m pc arr (st.map (xV (xAd P)))) rfl (by rw [hb]; exact hd) t a1, b1⟩
      next => cases hs
  | ldc2_w j =>
    obtain rfl : len = 3 := by simpa [xLn] using hn
    simp only [xCell] at hs
    split at hs
    next v hj =>
      cases hs
      intro arr H locs h1 h2 h3 h4 h5
      obtain ⟨q, hq⟩ := x_all xLd2C_ok rfl hj
      exact lv_ldc2 hx hb hown (hts _ (xG1_in hq)) hd (kk arr H locs h1 h2 h3 h4 h5)
    next => cases hs
  | iaload =>
    obtain rfl : len = 1 := by simpa [xLn] using hn
    simp only [xCell] at hs
    split at hs
    next j a r =>
      split at hs
      next t n f hk =>
        split at hs
        next hc =>
          cases hs
          intro arr H locs h1 h2 h3 h4 h5
          obtain ⟨hc1, hc2⟩ := hc
          rcases hc1 with rfl | ⟨rfl, ha⟩
          · have ha := xRep.inA g h2 hk (by decide)
            exact va_iald hx hb g.2.1 h2.2.1 a 0 (x_at P ha hk) rfl hc2 hd (kk arr H locs h1 h2 h3 h4 h5)
          · have hkc := (h2.2.2.2 a ha).symm.trans hk
            rcases g.2.2.2.2.1 a ha with h9 | ⟨n9, f9, e9, hT⟩
            · rw [h9] at hkc; simp [xNo] at hkc
            · rw [e9] at hkc
              cases hkc
              exact va_ti hx hb hT h3 hc2 rfl hd (kk arr H locs h1 h2 h3 h4 h5)
        next => cases hs
      next => cases hs
    next => cases hs
  | iastore =>
    obtain rfl : len = 1 := by simpa [xLn] using hn
    simp only [xCell] at hs
    split at hs
    next x j a r =>
      split at hs
      next t n f hk =>
        split at hs
        next hc =>
          obtain ⟨rfl, hc⟩ := hc
          cases hs
          intro arr H locs h1 h2 h3 h4 h5
          have ha := xRep.inA g h2 hk (by decide)
          exact va_iast hx hb g.2.1 h2.2.1 (g.D h2.1) h3 a 0 (x_at P ha hk) rfl hc hd (fun H1 locs1 hP1 hD1 hS1 => kk arr H1 locs1 h1 (h2.put ha hP1) hS1 h4 h5)
        next => cases hs
      next => cases hs
    next => cases hs
  | laload =>
    obtain rfl : len = 1 := by simpa [xLn] using hn
    simp only [xCell] at hs
    split at hs
    next j a r =>
      split at hs
      next t n f hk =>
        split at hs
        next hc =>
          obtain ⟨rfl, hc⟩ := hc
          cases hs
          intro arr H locs h1 h2 h3 h4 h5
          have ha := xRep.inA g h2 hk (by decide)
          exact va_lald hx hb g.2.1 h2.2.1 a 1 (x_at P ha hk) rfl hc hd (kk arr H locs h1 h2 h3 h4 h5)
        next => cases hs
      next => cases hs
    next => cases hs
  | lastore =>
    obtain rfl : len = 1 := by simpa [xLn] using hn
    simp only [xCell] at hs
    split at hs
    next x j a r =>
      split at hs
      next t n f hk =>
        split at hs
        next hc =>
          obtain ⟨rfl, hc⟩ := hc
          cases hs
          intro arr H locs h1 h2 h3 h4 h5
          have ha := xRep.inA g h2 hk (by decide)
          exact va_last hx hb g.2.1 h2.2.1 (g.D h2.1) h3 a 1 (x_at P ha hk) rfl hc hd (fun H1 locs1 hP1 hD1 hS1 => kk arr H1 locs1 h1 (h2.put ha hP1) hS1 h4 h5)
        next => cases hs
      next => cases hs
    next => cases hs
  | baload =>
    obtain rfl : len = 1 := by simpa [xLn] using hn
    simp only [xCell] at hs
    split at hs
    next j a r =>
      split at hs
      next t n f hk =>
        split at hs
        next hc =>
          obtain ⟨rfl, hc⟩ := hc
          cases hs
          intro arr H locs h1 h2 h3 h4 h5
          have ha := xRep.inA g h2 hk (by decide)
          exact va_zald hx hb g.2.1 h2.2.1 a 2 (x_at P ha hk) rfl hc hd (kk arr H locs h1 h2 h3 h4 h5)
        next => cases hs
      next => cases hs
    next => cases hs
  | bastore =>
    obtain rfl : len = 1 := by simpa [xLn] using hn
    simp only [xCell] at hs
    split at hs
    next x j a r =>
      split at hs
      next t n f hk =>
        split at hs
        next hc =>
          obtain ⟨rfl, hc⟩ := hc
          cases hs
          intro arr H locs h1 h2 h3 h4 h5
          have ha := xRep.inA g h2 hk (by decide)
          exact va_zast hx hb g.2.1 h2.2.1 (g.D h2.1) h3 a 2 (x_at P ha hk) rfl hc hd (fun H1 locs1 hP1 hD1 hS1 => kk arr H1 locs1 h1 (h2.put ha hP1) hS1 h4 h5)
        next => cases hs
      next => cases hs
    next => cases hs
  | aaload =>
    obtain rfl : len = 1 := by simpa [xLn] using hn
    simp only [xCell] at hs
    split at hs
    next j a r =>
      split at hs
      next t n f hk =>
        split at hs
        next hc =>
          obtain ⟨rfl, hc⟩ := hc
          split at hs
          next y hy =>
            cases hs
            intro arr H locs h1 h2 h3 h4 h5
            have ha := xRep.inA g h2 hk (by decide)
            refine va_aldq hx hb g.2.1 h2.2.1 a 3 (x_at P ha hk) rfl hc hd ?_
            have k1 := kk arr H locs h1 h2 h3 h4 h5
            rw [hy]
            exact k1
          next => cases hs
        next => cases hs
      next => cases hs
    next => cases hs
  | aastore =>
    obtain rfl : len = 1 := by simpa [xLn] using hn
    simp only [xCell] at hs
    split at hs
    next x j a r =>
      split at hs
      next t n f ci fs hk hk2 =>
        split at hs
        next hc =>
          obtain ⟨rfl, rfl, hc⟩ := hc
          cases hs
          intro arr H locs h1 h2 h3 h4 h5
          have ha := xRep.inA g h2 hk (by decide)
          have hax := xRep.inO g h2 hk2 (by decide)
          refine va_astq hx hb g.2.1 h2.2.1 (g.D h2.1) h3 a 3 x 7 (r := (RX7, TX7, 6)) (x_at P ha hk) rfl (x_at P hax hk2) rfl hc hd (fun H1 locs1 hP1 hD1 hS1 => kk arr H1 locs1 h1 (h2.put ha ?_) hS1 h4 h5)
          have e9 : (fun q => Option.map (xAd P) (va_up f j.toNatClampNeg (some x) q)) = va_up (fun q => Option.map (xAd P) (f q)) j.toNatClampNeg (some (xAd P x)) := by
            funext q
            unfold va_up
            split <;> rfl
          show va_P (xDD P) vwCl ((xW P h).set a (xAd P a, .inl (xCA P 3, n, .inr (.inr (.inr (.inr (fun q => Option.map (xAd P) (va_up f j.toNatClampNeg (some x) q)))))))) H1
          rw [e9]
          exact hP1
        next => cases hs
      next => cases hs
    next => cases hs
  | arraylength =>
    obtain rfl : len = 1 := by simpa [xLn] using hn
    simp only [xCell] at hs
    split at hs
    next a r =>
      split at hs
      next t n y hk =>
        split at hs
        next hc =>
          cases hs
          intro arr H locs h1 h2 h3 h4 h5
          rcases hc with h0 | ⟨rfl, ha⟩
          · have ha := xRep.inA g h2 hk (by omega)
            have hty : ∃ ty, (xTys P)[t]? = some (xCA P t, ty) := by
              match t, h0 with
              | 0, _ => exact ⟨_, rfl⟩
              | 1, _ => exact ⟨_, rfl⟩
              | 2, _ => exact ⟨_, rfl⟩
              | 3, _ => exact ⟨_, rfl⟩
            obtain ⟨ty, hty⟩ := hty
            exact va_alen hx hb g.2.1 h2.2.1 a t (x_at P ha hk) hty (by rw [x_ar1]) hd (kk arr H locs h1 h2 h3 h4 h5)
          · have hkc := (h2.2.2.2 a ha).symm.trans hk
            rcases g.2.2.2.2.1 a ha with h9 | ⟨n9, f9, e9, hT⟩
            · rw [h9] at hkc; simp [xNo] at hkc
            · rw [e9] at hkc
              cases hkc
              exact va_tlen hx hb hT h3 rfl hd (kk arr H locs h1 h2 h3 h4 h5)
        next => cases hs
      next => cases hs
    next => cases hs
  | newarray t =>
    obtain rfl : len = 2 := by simpa [xLn] using hn
    simp only [xCell] at hs
    split at hs
    next n r =>
      split at hs
      next => cases hs
      next hc =>
      have hc1 : ¬ n < 0 := fun z => hc (Or.inl z)
      have hc2 : ¬ 65536 < n.toNatClampNeg := fun z => hc (Or.inr (Or.inl z))
      have hc3 : ¬ xKb ≤ h.1 := fun z => hc (Or.inr (Or.inr (Or.inl z)))
      have hc4 : h.2.2.1 = 0 := Classical.byContradiction fun z => hc (Or.inr (Or.inr (Or.inr z)))
      split at hs
      · cases hs
        intro arr H locs h1 h2 h3 h4 h5
        obtain ⟨cap1, cap2⟩ := cap
        simp only [xAdd] at cap1 cap2
        refine va_newa hx hb (hts _ (xG1_in xArrC_ok.1)) (ty := .int) rfl g.2.1 h2.2.1 (g.D h2.1) h3 hA (N' := n.toNatClampNeg) (a0 := (n.toNatClampNeg, .inl (fun _ => 0))) (fun cA => rfl) hc1 rfl (by show n.toNatClampNeg * 4 ≤ 536870912; omega) (by omega) (by omega) hd (fun q cA H1 hK1 hP1 hD1 hS1 => ?_)
        refine xw_sz (fun hz => ?_)
        obtain rfl := x_newAt g (by omega) hc4 h4 hz0 hz hP1 hD1
        obtain rfl := x_newC g (t := 0) rfl hK1
        exact W.cs (by simp only [xAdd]; omega) (by simp only [xAdd]; omega) (kk arr H1 locs h1 (h2.add (by omega) hP1) hS1 (by simp only [xAdd]; omega) (by simp only [xAdd]; omega))
      · cases hs
        intro arr H locs h1 h2 h3 h4 h5
        obtain ⟨cap1, cap2⟩ := cap
        simp only [xAdd] at cap1 cap2
        refine va_newa hx hb (hts _ (xG1_in xArrC_ok.2.1)) (ty := .long) rfl g.2.1 h2.2.1 (g.D h2.1) h3 hA (N' := n.toNatClampNeg) (a0 := (n.toNatClampNeg, .inr (.inl (fun _ => 0)))) (fun cA => rfl) hc1 rfl (by show n.toNatClampNeg * 8 ≤ 536870912; omega) (by omega) (by omega) hd (fun q cA H1 hK1 hP1 hD1 hS1 => ?_)
        refine xw_sz (fun hz => ?_)
        obtain rfl := x_newAt g (by omega) hc4 h4 hz0 hz hP1 hD1
        obtain rfl := x_newC g (t := 1) rfl hK1
        exact W.cs (by simp only [xAdd]; omega) (by simp only [xAdd]; omega) (kk arr H1 locs h1 (h2.add (by omega) hP1) hS1 (by simp only [xAdd]; omega) (by simp only [xAdd]; omega))
      · cases hs
        intro arr H locs h1 h2 h3 h4 h5
        obtain ⟨cap1, cap2⟩ := cap
        simp only [xAdd] at cap1 cap2
        refine va_newa hx hb (hts _ (xG1_in xArrC_ok.2.2)) (ty := .boolean) rfl g.2.1 h2.2.1 (g.D h2.1) h3 hA (N' := n.toNatClampNeg) (a0 := (n.toNatClampNeg, .inl (fun _ => 0))) (fun cA => rfl) hc1 rfl (by show n.toNatClampNeg * 1 ≤ 536870912; omega) (by omega) (by omega) hd (fun q cA H1 hK1 hP1 hD1 hS1 => ?_)
        refine xw_sz (fun hz => ?_)
        obtain rfl := x_newAt g (by omega) hc4 h4 hz0 hz hP1 hD1
        obtain rfl := x_newC g (t := 2) rfl hK1
        exact W.cs (by simp only [xAdd]; omega) (by simp only [xAdd]; omega) (kk arr H1 locs h1 (h2.add (by omega) hP1) hS1 (by simp only [xAdd]; omega) (by simp only [xAdd]; omega))
      · cases hs
    next => cases hs
  | anewarray j =>
    obtain rfl : len = 3 := by simpa [xLn] using hn
    simp only [xCell] at hs
    split at hs
    next n r =>
      split at hs
      next => cases hs
      next hc =>
      have hc1 : ¬ n < 0 := fun z => hc (Or.inl z)
      have hc2 : ¬ 65536 < n.toNatClampNeg := fun z => hc (Or.inr (Or.inl z))
      have hc3 : ¬ xKb ≤ h.1 := fun z => hc (Or.inr (Or.inr (Or.inl z)))
      have hc4 : h.2.2.1 = 0 := Classical.byContradiction fun z => hc (Or.inr (Or.inr (Or.inr z)))
      split at hs
      next hj =>
        cases hs
        intro arr H locs h1 h2 h3 h4 h5
        obtain ⟨cap1, cap2⟩ := cap
        simp only [xAdd] at cap1 cap2
        obtain ⟨q9, hq9⟩ := x_all xNewC_ok rfl hj
        have hcl : Jvm.Cond.classLink (xCls (xOwn M)) j (xCls 7) ∈ xGw := by
          simp only [xNewC, Bool.or_eq_true, Bool.and_eq_true] at hq9
          rcases hq9 with hq9 | hq9
          · exact absurd hq9 (by decide)
          · exact xG1_in hq9.2
        refine va_newq hx hb hown (hts _ hcl) g.2.2.2.1 g.2.1 h2.2.1 (g.D h2.1) h3 hA (N' := n.toNatClampNeg) hc1 rfl (by omega) (by omega) (by omega) hd (fun q cA H1 hK1 hP1 hD1 hS1 => ?_)
        refine xw_sz (fun hz => ?_)
        obtain rfl := x_newAt g (by omega) hc4 h4 hz0 hz hP1 hD1
        obtain rfl := x_newC g (t := 3) rfl hK1
        exact W.cs (by simp only [xAdd]; omega) (by simp only [xAdd]; omega) (kk arr H1 locs h1 (h2.add (by omega) hP1) hS1 (by simp only [xAdd]; omega) (by simp only [xAdd]; omega))
      next => cases hs
    next => cases hs
  | new j =>
    obtain rfl : len = 3 := by simpa [xLn] using hn
    simp only [xCell] at hs
    split at hs
    next ci hj =>
      split at hs
      next hci =>
        split at hs
        next => cases hs
        next hc =>
        have hc3 : ¬ xKb ≤ h.1 := fun z => hc (Or.inl z)
        have hc4 : h.2.2.1 = 0 := Classical.byContradiction fun z => hc (Or.inr z)
        cases hs
        intro arr H locs h1 h2 h3 h4 h5
        obtain ⟨cap1, cap2⟩ := cap
        simp only [xAdd] at cap1 cap2
        obtain ⟨q9, hq9⟩ := x_all xNewC_ok rfl hj
        have hcl : Jvm.Cond.classLink (xCls (xOwn M)) j (xCls ci) ∈ xGw := by
          simp only [xNewC, Bool.or_eq_true, Bool.and_eq_true, beq_iff_eq] at hq9
          rcases hq9 with hq9 | hq9
          · omega
          · exact xG1_in hq9.2
        have ho := List.all_eq_true.mp xObjC_ok ci (List.mem_range.mpr hci)
        unfold xObjC at ho
        split at ho
        next r9 hr9 =>
          obtain ⟨C, T, N⟩ := r9
          simp only [Bool.and_eq_true, decide_eq_true_eq] at ho
          obtain ⟨⟨⟨⟨⟨o1, o2⟩, o3⟩, o4⟩, o5⟩, o6⟩ := ho
          obtain ⟨-, hty, hnm, hin⟩ := xCl_ok hr9
          have o5' : ∀ j9, j9 < N → defaultValue (xTy ci j9) = vp_V (xDef.getD ci []) j9 := fun j9 hj9 => by simpa using List.all_eq_true.mp o5 j9 (List.mem_range.mpr hj9)
          have o1 : C = xCls ci := o1
          have o4 : (xDef.getD ci []).length = N := o4
          rw [← o1] at hcl
          rw [o4] at cap2
          refine va_new (C := C) (T := T) (N := N) hx hb hts hin (xTy ci) hty hown (hts _ hcl) (hts _ (xG1_in o2)) (hts _ (xG1_in o3)) g.2.1 h2.2.1 (g.D h2.1) h3 hA hr9 (fs := xDef.getD ci []) o5' (by omega) (by omega) hd (fun q H1 hP1 hD1 hS1 => ?_)
          refine xw_sz (fun hz => ?_)
          obtain rfl := x_newAt g (by omega) hc4 h4 hz0 hz hP1 hD1
          have hP2 : va_P (xDD P) vwCl (xW P h ++ [(xAd P h.1, xCe (xAd P) (xCA P) (.inr (ci, xDef.getD ci [])))]) H1 := by
            show va_P (xDD P) vwCl (xW P h ++ [(xAd P h.1, .inr (ci, (xDef.getD ci []).map (xV (xAd P))))]) H1
            rw [x_defm hci]
            exact hP1
          exact W.cs (by simp only [xAdd]; omega) (by simp only [xAdd]; rw [o4]; omega) (kk arr H1 locs h1 (h2.add (by omega) hP2) hS1 (by simp only [xAdd]; omega) (by simp only [xAdd]; omega))
        next => cases ho
      next =>
        split at hs
        · cases hs
        · cases hs
    next => cases hs
  | _ => cases hs
end XD
