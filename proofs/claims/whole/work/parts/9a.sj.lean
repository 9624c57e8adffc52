/-! ===== rule(): both sides ===== -/
theorem gL_uni {C : zC} {N : Nat} (oC : okC C) (hN : N ≤ C.1) {ok ok' : Bool} {j j' : Nat} {V V' : List Int32} (g : gL (ch C) N 0 0 0 ok j V) (g' : gL (ch C) N 0 0 0 ok' j' V') : ((ok' = true ∧ j' = N) ↔ (ok = true ∧ j = N)) ∧ (¬ (ok = true ∧ j = N) → j' = j) ∧ (ok = true ∧ j = N → V' = V) := by
  obtain ⟨a1, a2⟩ := rul oC hN g
  obtain ⟨b1, b2⟩ := rul oC hN g'
  by_cases q : ok = true ∧ j = N
  · obtain ⟨X, T, cmp, dg, e, v⟩ := a2 q.1 q.2
    by_cases q' : ok' = true ∧ j' = N
    · obtain ⟨X', T', cmp', dg', e', v'⟩ := b2 q'.1 q'.2
      rw [e] at e'
      simp only [Prod.mk.injEq, true_and] at e'
      obtain ⟨rfl, rfl, -⟩ := e'
      have r1 : rDp V 0 = some 1 := by have := (g.2.2.2.1 q.1).1 [] 0; rw [List.append_nil] at this; exact this
      have r2 : rDp V' 0 = some 1 := by have := (g'.2.2.2.1 q'.1).1 [] 0; rw [List.append_nil] at this; exact this
      exact ⟨⟨fun _ => q, fun _ => q'⟩, fun z => absurd q z, fun _ => rCv_inj r2 r1 (v'.symm.trans v)⟩
    · have := b1 q'
      rw [e] at this
      exact absurd this (by simp [uV])
  · by_cases q' : ok' = true ∧ j' = N
    · obtain ⟨X', T', cmp', dg', e', v'⟩ := b2 q'.1 q'.2
      have := a1 q
      rw [e'] at this
      exact absurd this (by simp [uV])
    · have h := (a1 q).symm.trans (b1 q')
      simp only [Option.some.injEq] at h
      exact ⟨⟨fun z => absurd z q', fun z => absurd z q⟩, fun _ => h.symm, fun z => absurd z q⟩
section SJ
variable {κ : yK} {m : yM} {A : zT} {H : zH} {K : zK} {C : zC} {D : List Int64} {E : zE} {F : zF}
theorem sRg_Rs {x j : Nat} (h : sRg x j) : sRs x j := by unfold sRg at h; unfold sRs; omega
theorem sRg_R {x j : Nat} (h : sRg x j) : sR x j := by unfold sRg at h; unfold sR; omega
theorem m184a (oC : okC C) (c : Rf m A H K C D E F) : ∃ m1, f_173 178 40 (yH κ (yW m 178 0 0)) = some (yN C.1, yH κ (yRd (yW m 178 0 0) (min C.1 40))) ∧ m1 = yW (yRd (yW m 178 0 0) (min C.1 40)) 178 18 0 ∧ rS C (min 40 C.1) m1 0 [] ∧ m1.1 178 13 = yN 0 ∧ Rf m1 A H K (0, C.2) D E F ∧ yG sR m m1 := by
  have hC := oC.1
  obtain ⟨c0, g0⟩ := c.th 0
  obtain ⟨c1, g1⟩ := c0.rd (min C.1 40)
  have g2 : yG (fun x j => x = 178 ∧ j = 18) (yRd (yW m 178 0 0) (min C.1 40)) (yW (yRd (yW m 178 0 0) (min C.1 40)) 178 18 0) := yG.w _ ⟨rfl, rfl⟩
  refine ⟨_, m173 (κ := κ) (p := 40) c0.2.2.2.1.1 hC (by omega), rfl, ⟨?_, ?_, fun j hj => ?_, ?_, fun j d q => by simp at q⟩, ?_, c1.fr g2 (fun x j q => by unfold sRs; omega), (g0.tr g1 (S3 := sR) (fun _ _ => orSelf)).tr g2 (fun x j q => q.elim id (fun q => by unfold sR; omega))⟩
  · rw [yW_get, if_neg (by omega), yRd_get, if_neg (by omega), if_pos (by omega)]; rfl
  · rw [yW_get, if_neg (by omega), yRd_get, if_pos ⟨rfl, rfl⟩, Nat.min_comm]
  · rw [yW_row (by omega), (yRd_fr _ _).2 _ _ (by unfold sRd; omega)]; exact c0.2.2.2.1.2 j hj
  · rw [yW_self, upd_eq]; rfl
  · rw [yW_get, if_neg (by omega), yRd_get, if_neg (by omega), if_pos (by omega)]; rfl
/-- the reference takes the new rule -/
theorem m184b {V : List Int32} (c : Rf m A H K C D E F) (hV : V.length ≤ 40) (h : rEm m V) : ∃ m', f_184_61 100000 178 0 (yH κ (yW m 178 17 (yN V.length))) = some (yH κ m') ∧ Rf m' A H K C D (E.1, E.2.1, E.2.2.1, E.2.2.2.1, V) F ∧ yG sR m m' := by
  have h' : rEm (yW m 178 17 (yN V.length)) V := ⟨by rw [yW_get, if_neg (by omega)]; exact h.1, fun j c q => by rw [yW_row (by omega)]; exact h.2 j c q⟩
  obtain ⟨m', a, b, -, d⟩ := m184_61 (κ := κ) hV V.length 0 100000 _ (by omega) (by omega) h'
  have G : yG (fun x j => (x = 178 ∧ j = 17) ∨ x = 185) m m' := (yG.w (S := fun x j => (x = 178 ∧ j = 17) ∨ x = 185) m (Or.inl ⟨rfl, rfl⟩)).tr (d.g (S3 := fun x j => (x = 178 ∧ j = 17) ∨ x = 185) (fun x j q => Or.inr q)) (fun _ _ => orSelf)
  obtain ⟨⟨e1, e2⟩, ⟨e3, e4⟩, -⟩ := c.2.2.2.2.2.1
  refine ⟨m', a, c.fE G (fun x j q => by unfold sRs; omega) ⟨⟨?_, ?_⟩, ⟨?_, fun k hk => ?_⟩, ?_, fun j hj => b j (Nat.zero_le _) hj⟩, G.wk (fun x j q => by unfold sR; omega)⟩
  · rw [(G 178 7 (by omega)).1]; exact e1
  · rw [(G 178 8 (by omega)).1]; exact e2
  · rw [(G 178 6 (by omega)).1]; exact e3
  · rw [(G 182 k (by omega)).1]; exact e4 k hk
  · rw [d.2 _ _ (by omega), yW_self, upd_eq]
theorem m184 (oC : okC C) (h0 : C.1 ≠ 0) (c : Rf m A H K C D E F) : ∃ ok j V m', gL (ch C) (min 40 C.1) 0 0 0 ok j V ∧ (¬ (ok = true ∧ j = min 40 C.1 ∧ C.1 ≤ 40) → f_184 178 (yH κ m) = some (-1 - yN (if ok = true ∧ j = min 40 C.1 then 40 else j), yH κ m') ∧ Rf m' A H K (0, C.2) D E F ∧ yG sR m m') ∧ (ok = true ∧ j = min 40 C.1 ∧ C.1 ≤ 40 → f_184 178 (yH κ m) = some (0, yH κ m') ∧ Rf m' A H K (0, C.2) D (E.1, E.2.1, E.2.2.1, E.2.2.2.1, V) F ∧ yG sR m m') := by
  have hC := oC.1
  obtain ⟨m1, e1, em1, r1, d1, c1, g1⟩ := m184a (κ := κ) oC c
  obtain ⟨ok, j, V, m2, e2, g2, r2, d2, f2⟩ := m183 (κ := κ) oC (N := min 40 C.1) (by omega) (by omega) [] m1 (by omega) (by omega) (by simp) r1 d1
  rw [List.nil_append] at r2
  have hj := g2.2.1
  have hVj := g2.2.2.1
  have c2 : Rf m2 A H K (0, C.2) D E F := c1.fr (f2.g (fun _ _ => id)) (fun _ _ => sRg_Rs)
  have G2 : yG sR m m2 := g1.tr (f2.g (S3 := sR) (fun _ _ => sRg_R)) (fun _ _ => orSelf)
  have e7 : f_177 178 (yN C.1) 40 (yB ok) (yH κ m2) = _ := m177 (κ := κ) (w := ok) (p := 40) r2.1 r2.2.1 hj (by omega) hC (by omega)
  have pre : f_184 178 (yH κ m) = ((f_177 178 (yN C.1) 40 (yB ok) (yH κ m2)).bind fun (x20, h19) => (if (0 : Int32) ≤ x20 then (pFi h19 178 12 18).bind fun x22 => (pP h19 178 12 17 (.int x22)).bind fun h23 => (f_184_61 100000 178 0 h23).bind fun h24 => some (0, h24) else some (x20, h19))) := by
    unfold f_184
    rw [yp_178_0, yBs, yis_178, pG_t, yBs, e1, yBs]
    dsimp only
    rw [yp_178_18, yBs, ← em1, if_neg (by rw [yN_eql (by omega) (by omega)]; exact h0), yis_178, pG_t, yBs, e2, yBs]
    dsimp only
    cases ok with
    | false => rw [yB_f, if_pos rfl, yBs]; dsimp only; rw [yis_178, pG_t, yBs]
    | true => rw [yB_t, if_neg (show ¬ ((1 : Int32) = 0) by decide), yBs]; dsimp only; rw [yis_178, pG_t, yBs]
  by_cases q : ok = true ∧ j = min 40 C.1 ∧ C.1 ≤ 40
  · obtain ⟨m3, e3, c3, g3⟩ := m184b (κ := κ) c2 (by omega) r2.2.2.2
    refine ⟨ok, j, V, m3, g2, fun z => absurd q z, fun _ => ⟨?_, c3, G2.tr g3 (fun _ _ => orSelf)⟩⟩
    have hw : (ok && decide (j = min 40 C.1)) = true := by rw [q.1, decide_eq_true q.2.1]; rfl
    rw [pre, e7, yBs, if_pos q.2.2, if_pos hw]
    dsimp only
    rw [if_pos (by decide), yi_178_18, yBs, r2.2.2.2.1, yp_178_17, yBs, e3, yBs]
  · refine ⟨ok, j, V, m2, g2, fun _ => ⟨?_, c2, G2⟩, fun z => absurd z q⟩
    have hv : (if C.1 ≤ 40 then (if (ok && decide (j = min 40 C.1)) = true then 0 else -1 - yN j) else if (ok && decide (j = min 40 C.1)) = true then -1 - yN 40 else if j < 40 then -1 - yN j else -1 - yN 40) = -1 - yN (if ok = true ∧ j = min 40 C.1 then 40 else j) := by
      by_cases w : ok = true ∧ j = min 40 C.1
      · have hw : (ok && decide (j = min 40 C.1)) = true := by rw [w.1, decide_eq_true w.2]; rfl
        have h4 : ¬ C.1 ≤ 40 := fun z => q ⟨w.1, w.2, z⟩
        rw [if_neg h4, if_pos hw, if_pos w]
      · have hw : ¬ ((ok && decide (j = min 40 C.1)) = true) := fun z => by rw [Bool.and_eq_true, decide_eq_true_eq] at z; exact w z
        rw [if_neg hw, if_neg hw, if_neg w]
        by_cases h4 : C.1 ≤ 40
        · rw [if_pos h4]
        · rw [if_neg h4]
          by_cases h5 : j < 40
          · rw [if_pos h5]
          · rw [if_neg h5, show j = 40 by omega]
    rw [pre, e7, yBs]
    dsimp only
    rw [hv]
    have hb : (if ok = true ∧ j = min 40 C.1 then 40 else j) < 81 := by split <;> omega
    rw [if_neg (ng80 ⟨_, hb⟩)]
theorem m184_0 (oC : okC C) (h0 : C.1 = 0) (c : Rf m A H K C D E F) : ∃ m', f_184 178 (yH κ m) = some (0, yH κ m') ∧ Rf m' A H K (0, C.2) D (E.1, E.2.1, E.2.2.1, E.2.2.2.1, []) F ∧ yG sR m m' := by
  have hC := oC.1
  obtain ⟨m1, e1, em1, r1, d1, c1, g1⟩ := m184a (κ := κ) oC c
  have e7 : f_177 178 (yN C.1) 40 1 (yH κ m1) = _ := m177 (κ := κ) (w := true) (p := 40) r1.1 r1.2.1 (by omega) (by omega) hC (by omega)
  obtain ⟨m3, e3, c3, g3⟩ := m184b (κ := κ) (V := []) c1 (by simp) r1.2.2.2
  refine ⟨m3, ?_, c3, g1.tr g3 (fun _ _ => orSelf)⟩
  unfold f_184
  rw [yp_178_0, yBs, yis_178, pG_t, yBs, e1, yBs]
  dsimp only
  rw [yp_178_18, yBs, ← em1, if_pos (by rw [h0]; rfl), yBs]
  dsimp only
  rw [yis_178, pG_t, yBs, e7, yBs, if_pos (show C.1 ≤ 40 by omega), decide_eq_true (show 0 = min 40 C.1 by omega), if_pos (show (true && true) = true from rfl)]
  dsimp only
  rw [if_pos (by decide), yi_178_18, yBs, r1.2.2.2.1, yp_178_17, yBs, e3, yBs]
end SJ
