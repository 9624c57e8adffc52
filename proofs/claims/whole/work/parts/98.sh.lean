/-! ===== rule(): the class's end ===== -/
def sUf (x j : Nat) : Prop := sU x j ∨ (x = 110 ∧ j = 5) ∨ x = 111
theorem ixht : xIx (xTxt.getD 0 []) 104 = 8 ∧ xIx (xTxt.getD 0 []) 116 = 0 := by decide +kernel
section SH
variable {κ : yK} {C : zC}
theorem s54 {m : yM} {O : List Int32} (hO : out m O) (hl : O.length ≤ 40) : ∃ m', f_54 110 (yH κ m) = some (yH κ m') ∧ (m'.1 110 5 = yN O.length ∧ ∀ j, j < O.length → m'.1 111 j = O.getD j 0) ∧ yFr sUf m m' := by
  have g : ∀ x j, (yW (yR m 111 (va_cpy (m.1 112) (m.1 111) 0 0 40)) 110 5 (yN O.length)).1 x j = if x = 110 ∧ j = 5 then yN O.length else if x = 111 ∧ j < 40 then m.1 112 j else m.1 x j := fun x j => by
    rw [yW_get]
    by_cases h : x = 110 ∧ j = 5
    · rw [if_pos h, if_pos h]
    · rw [if_neg h, if_neg h]
      by_cases q : x = 111
      · subst q
        rw [yR_eq, va_c0]
        by_cases z : j < 40
        · rw [if_pos ⟨rfl, z⟩]; exact if_pos z
        · rw [if_neg (fun y => z y.2)]; exact if_neg z
      · rw [yR_ne _ _ q, if_neg (fun y => q y.1)]
  refine ⟨yW (yR m 111 (va_cpy (m.1 112) (m.1 111) 0 0 40)) 110 5 (yN O.length), ?_, ⟨?_, fun j hj => ?_⟩, ⟨rfl, fun x j q => ?_⟩⟩
  · unfold f_54
    have k6 : (yR m 111 (va_cpy (m.1 112) (m.1 111) 0 0 40)).1 110 6 = yN O.length := by rw [yR_ne _ _ (by omega)]; exact hO.1
    rw [yr_110_1, yBs, yr_110_0, yBs, show pCpy (yH κ m) 112 0 111 0 40 = some (yH κ (yR m 111 (va_cpy (m.1 112) (m.1 111) 0 0 40))) from yh_cpy (sp := 0) (dp := 0) (c := 40) (n := 40) (n2 := 40) rfl rfl (by omega) (by omega) (by omega) (by omega), yBs, yi_110_6, yBs, k6, yp_110_5, yBs]
  · rw [g, if_pos ⟨rfl, rfl⟩]
  · rw [g, if_neg (by omega), if_pos ⟨rfl, by omega⟩]
    exact hO.2 j _ (by rw [List.getD, List.getElem?_eq_getElem hj]; rfl)
  · unfold sUf sU at q
    rw [g, if_neg (by omega), if_neg (by omega)]
theorem s53a {m : yM} (hT : cTx m C) (oC : okC C) : ∃ m1 m2, f_55 110 (yH κ m) = some (yH κ m1) ∧ f_53_16 100000 110 1 (pMin 40 (yN C.1)) 0 (yH κ m1) = some (match (uR (ch C) (min 40 C.1) 0 u0).1 with | none => .inl (yH κ m2) | some e => .inr (yN e, yH κ m2)) ∧ ((uR (ch C) (min 40 C.1) 0 u0).1 = none → Rs m2 (uR (ch C) (min 40 C.1) 0 u0).2 ∧ uK (uR (ch C) (min 40 C.1) 0 u0).2 (min 40 C.1)) ∧ pMin 40 (yN C.1) = yN (min 40 C.1) ∧ cTx m2 C ∧ yFr sU m m2 := by
  have hC := oC.1
  obtain ⟨m1, e1, R1, f1⟩ := s55 (κ := κ) (m := m)
  have hM : pMin 40 (yN C.1) = yN (min 40 C.1) := yp_minl (by omega) (by omega)
  have T1 : cTx m1 C := hT.g (f1.g (fun _ _ => id)) (fun x j q => by unfold sU at q; omega)
  obtain ⟨m2, e2, a2, f2⟩ := s53_16 (κ := κ) oC (N := min 40 C.1) (by omega) (by omega) (min 40 C.1) 0 100000 m1 u0 (by omega) (by omega) u0_ok R1 T1
  exact ⟨m1, m2, e1, by rw [hM]; exact e2, a2, hM, T1.g (f2.g (fun _ _ => id)) (fun x j q => by unfold sU at q; omega), f1.tr f2 (fun _ _ => orSelf)⟩
theorem s53_f {m : yM} {e : Nat} (hT : cTx m C) (oC : okC C) (h0 : C.1 ≠ 0) (hq : uV (min 40 C.1) (uR (ch C) (min 40 C.1) 0 u0) = some e) : ∃ m', f_53 110 1 (yH κ m) = some (yN e, yH κ m') ∧ yFr sU m m' := by
  have hC := oC.1
  obtain ⟨m1, m2, e1, e2, a2, hM, T2, F2⟩ := s53a (κ := κ) hT oC
  refine ⟨m2, ?_, F2⟩
  unfold f_53
  rw [yi_1_1, yBs, hT.1, yis_110, pG_t, yBs, e1, yBs, e2, yBs]
  unfold uV at hq
  cases hr : (uR (ch C) (min 40 C.1) 0 u0).1 with
  | some x =>
    rw [hr] at hq
    simp only [Option.some.injEq] at hq
    subst hq
    rfl
  | none =>
    rw [hr] at hq
    obtain ⟨R2, K2⟩ := a2 hr
    generalize (uR (ch C) (min 40 C.1) 0 u0).2 = s at *
    obtain ⟨O, S, dep, cmp, dg, w⟩ := s
    dsimp only at hq
    have hn : ¬ (w = false ∧ dep = 0) := fun q => by rw [if_pos q] at hq; simp at hq
    rw [if_neg hn] at hq
    simp only [Option.some.injEq] at hq
    subst hq
    dsimp only
    rw [yi_1_1, yBs, T2.1]
    by_cases h4 : C.1 ≤ 40
    · have k10 : m2.1 110 10 = yB w := R2.2.2.2.2.2.2
      have k8 : m2.1 110 8 = yN dep := R2.2.2.2.1
      have d4 : dep ≤ 4 := K2.2.2.1
      rw [if_pos (by rw [yN_lel (by omega) (by omega)]; exact h4), hM, if_neg (show ¬ (yN (min 40 C.1) ≤ 0) by rw [yN_lel (by omega) (by omega)]; omega), yi_110_10, yBs, k10]
      cases w with
      | true => rw [yB_t, if_neg (show ¬ ((1 : Int32) = 0) by decide)]
      | false => rw [yB_f, if_pos rfl, yi_110_8, yBs, k8, if_neg (by rw [yN_lel (by omega) (by omega)]; intro q; exact hn ⟨rfl, by omega⟩)]
    · rw [if_neg (by rw [yN_lel (by omega) (by omega)]; exact h4), show min 40 C.1 = 40 by omega]; rfl
theorem s53_4 {m : yM} (hT : cTx m C) (oC : okC C) (h4 : 40 < C.1) (hq : (uR (ch C) (min 40 C.1) 0 u0).1 = none) : ∃ m', f_53 110 1 (yH κ m) = some (yN 40, yH κ m') ∧ yFr sU m m' := by
  have hC := oC.1
  obtain ⟨m1, m2, e1, e2, a2, hM, T2, F2⟩ := s53a (κ := κ) hT oC
  refine ⟨m2, ?_, F2⟩
  unfold f_53
  rw [yi_1_1, yBs, hT.1, yis_110, pG_t, yBs, e1, yBs, e2, yBs, hq]
  dsimp only
  rw [yi_1_1, yBs, T2.1, if_neg (by rw [yN_lel (by omega) (by omega)]; omega)]
  rfl
theorem s53_k {m : yM} {O S : List Int32} {cmp : Nat → Bool} {dg : Nat} (hT : cTx m C) (oC : okC C) (h0 : C.1 ≠ 0) (h4 : C.1 ≤ 40) (hq : uR (ch C) (min 40 C.1) 0 u0 = (none, (O, S, 0, cmp, dg, false))) : ∃ m', f_53 110 1 (yH κ m) = some (-1, yH κ m') ∧ (m'.1 110 5 = yN (O ++ (popL 0 S).1).length ∧ ∀ j, j < (O ++ (popL 0 S).1).length → m'.1 111 j = (O ++ (popL 0 S).1).getD j 0) ∧ yFr sUf m m' := by
  have hC := oC.1
  obtain ⟨m1, m2, e1, e2, a2, hM, T2, F2⟩ := s53a (κ := κ) hT oC
  rw [hq] at a2 e2
  obtain ⟨R2, K2⟩ := a2 rfl
  have hl : O.length + S.length ≤ min 40 C.1 := K2.1
  obtain ⟨m3, e3, -, -, o3, f3⟩ := s63 (κ := κ) (L := 0) (show O.length + S.length ≤ 40 by omega) K2.2.1 R2.2.1 R2.2.2.1 R2.1
  have hp := popL_len 0 S
  obtain ⟨m4, e4, r4, f4⟩ := s54 (κ := κ) o3 (by rw [List.length_append]; omega)
  refine ⟨m4, ?_, r4, ((F2.wk (S3 := sUf) (fun x j q => Or.inl q)).tr (f3.wk (S3 := sUf) (fun x j q => by unfold sUp at q; unfold sUf sU; omega)) (S3 := sUf) (fun _ _ => orSelf)).tr f4 (fun _ _ => orSelf)⟩
  have k10 : m2.1 110 10 = yB false := R2.2.2.2.2.2.2
  have k8 : m2.1 110 8 = yN 0 := R2.2.2.2.1
  unfold f_53
  rw [yi_1_1, yBs, hT.1, yis_110, pG_t, yBs, e1, yBs, e2, yBs]
  dsimp only
  rw [yi_1_1, yBs, T2.1, if_pos (by rw [yN_lel (by omega) (by omega)]; exact h4), hM, if_neg (show ¬ (yN (min 40 C.1) ≤ 0) by rw [yN_lel (by omega) (by omega)]; omega), yi_110_10, yBs, k10, yB_f, if_pos rfl, yi_110_8, yBs, k8, if_pos (by decide), if_neg (by rw [yN_eql (by omega) (by omega)]; omega), yBs, yis_110, pG_t, yBs, e3, yBs, yis_110, pG_t, yBs, e4, yBs]
theorem s53_0 {m : yM} (hT : cTx m C) (oC : okC C) (h0 : C.1 = 0) : ∃ m', f_53 110 1 (yH κ m) = some (-1, yH κ m') ∧ cRu m' [] ∧ yFr sUf m m' := by
  obtain ⟨m1, m2, e1, e2, a2, hM, T2, F2⟩ := s53a (κ := κ) hT oC
  have hz : min 40 C.1 = 0 := by omega
  rw [hz, uR] at a2
  rw [hz, uR] at e2
  rw [hz] at hM
  obtain ⟨R2, K2⟩ := a2 rfl
  obtain ⟨m3, e3, o3, f3⟩ := s57 (κ := κ) (c := 1008) R2.1 (by decide)
  obtain ⟨m4, e4, o4, f4⟩ := s57 (κ := κ) (c := 1000) o3 (by decide)
  obtain ⟨m5, e5, o5, f5⟩ := s57 (κ := κ) (c := 2042) o4 (by decide)
  have F35 : yFr sUo m2 m5 := (f3.tr f4 (S3 := sUo) (fun _ _ => orSelf)).tr f5 (fun _ _ => orSelf)
  obtain ⟨m6, e6, -, -, o6, f6⟩ := s63 (κ := κ) (L := 0) (m := m5) (S := []) (O := ([1008, 1000, 2042] : List Int32)) (by decide) (fun c q => by simp at q) (by rw [F35.2 _ _ (by unfold sUo; omega)]; exact R2.2.1) trivial o5
  obtain ⟨m7, e7, r7, f7⟩ := s54 (κ := κ) o6 (by decide)
  refine ⟨m7, ?_, r7, (((F2.wk (S3 := sUf) (fun x j q => Or.inl q)).tr (F35.wk (S3 := sUf) (fun x j q => by unfold sUo at q; unfold sUf sU; omega)) (S3 := sUf) (fun _ _ => orSelf)).tr (f6.wk (S3 := sUf) (fun x j q => by unfold sUp at q; unfold sUf sU; omega)) (S3 := sUf) (fun _ _ => orSelf)).tr f7 (fun _ _ => orSelf)⟩
  have e56 : f_56 110 (yH κ m2) = some (yH κ m5) := by
    unfold f_56
    rw [pIx_t (by omega), yBs, ixht.1, yis_110, pG_t, yBs, show f_57 110 (1000 + 8) (yH κ m2) = _ from e3, yBs, pIx_t (by omega), yBs, ixht.2, yis_110, pG_t, yBs, show f_57 110 (1000 + 0) (yH κ m3) = _ from e4, yBs, yis_110, pG_t, yBs, e5, yBs]
  unfold f_53
  rw [yi_1_1, yBs, hT.1, yis_110, pG_t, yBs, e1, yBs, e2, yBs]
  dsimp only
  rw [yi_1_1, yBs, T2.1, if_pos (by rw [yN_lel (by omega) (by omega)]; omega), hM, if_pos (by decide), if_pos (by decide), yis_110, pG_t, yBs, e56, yBs, yBs, yis_110, pG_t, yBs, e6, yBs, yis_110, pG_t, yBs, e7, yBs]
end SH
