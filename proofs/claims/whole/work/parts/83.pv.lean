/-! ===== play() ===== -/
def gT (E : zE) (cs : List Nat) (A : zT) : Nat × Bool × zT := if zho A = 0 then gP E cs A else (0, decide (cs ≠ []), A)
def gH (H : zH) (A : zT) (k : Nat) : zH := if k = 0 then H else hPush H A
theorem pS_cs {f : Nat → Nat} : ∀ {d i st v : Nat}, pV st v → (∀ c, c ∈ (pS f d i st v).2.2 → c ≤ 2992) ∧ (pS f d i st v).2.2.length ≤ d
  | 0, i, st, v, h => by rw [pS]; exact ⟨fun c q => by simp at q, Nat.le_refl 0⟩
  | d + 1, i, st, v, h => by
    rw [pS]
    split
    · exact ⟨fun c q => by simp at q, Nat.zero_le _⟩
    next st' v' oc hx =>
      have hv := pX_v hx h
      have ih := pS_cs (f := f) (d := d) (i := i + 1) hv.1
      dsimp only
      refine ⟨fun c q => ?_, ?_⟩
      · rw [List.mem_append] at q
        rcases q with q | q
        · cases oc with
          | none => simp at q
          | some c' => simp at q; subst q; exact hv.2 _ rfl
        · exact ih.1 c q
      · rw [List.length_append]
        have : oc.toList.length ≤ 1 := by cases oc <;> simp
        omega
section PY
variable {κ : yK} {A : zT} {H : zH} {K : zK} {C : zC} {D : List Int64} {E : zE} {F : zF}
theorem s134r {m : yM} {cs : List Nat} (hcs : cs.length ≤ 70) (hcb : ∀ c, c ∈ cs → c ≤ 2992) (c : Cl m A H K C D E F) (o : Ok A H K C D E F) (hM : Mc m cs) :
    ∃ m', f_134_59 100000 0 0 (yB (decide (zho A ≠ 0) && decide (cs ≠ []))) 0 (yH κ m) = some (yN (gT E cs A).1, yB (gT E cs A).2.1, yH κ m') ∧ Cl m' (gT E cs A).2.2 (gH H A (gT E cs A).1) K C D E F ∧ Ok (gT E cs A).2.2 (gH H A (gT E cs A).1) K C D E F ∧ yG sC m m' := by
  unfold gT
  by_cases hh : zho A = 0
  · rw [if_pos hh, decide_eq_false (fun q => q hh), Bool.false_and, yB_f]
    cases cs with
    | nil =>
      rw [gP]
      refine ⟨m, ?_, c, o, yG.rf m⟩
      rw [f_134_59, yr_0_11, yBs, yi_146_1, yBs, hM.1, if_pos (by decide)]; rfl
    | cons x r =>
      have hxb := hcb x (by simp)
      have hrl : r.length + 1 ≤ 70 := by simpa using hcs
      have e68 := s68 (κ := κ) c o
      rw [decide_eq_false (fun q => q hh), yB_f] at e68
      have e102 := s102 (κ := κ) (mv := x) ytw_6 c.1.1 o.1.1.1 (by omega)
      have h0 : m.1 147 0 = yN x := hM.2 0 x rfl
      have pre1 : f_134_59 100000 0 0 0 0 (yH κ m) = ((if yB (tCg (zth A) (zn A) x) = 0 then some 1 else some 0 : Option Int32).bind fun w19 => ((if w19 = 0 then (f_43 11 5 (yH κ m)).bind fun h44 => (pG (pIs h44 0 11)).bind fun _ => (f_133 0 (yN x) h44).bind fun h51 => some (1, h51) else some (0, yH κ m) : Option (Int32 × xH))).bind fun (w36, h37) => f_134_59 99999 0 w36 w19 1 h37) := by
        rw [f_134_59, yr_0_11, yBs, yi_146_1, yBs, hM.1, if_neg (by rw [yN_lel (by simp; omega) (by omega)]; simp), if_pos rfl, yr_0_2, yBs, ys_is ysw_5, pG_t, yBs, e68, yBs]
        dsimp only
        rw [if_pos rfl, yr_0_11, yBs, yr_146_0, yBs, show pAi (yH κ m) 147 0 = _ from ya_147 (i := 0) (by omega), yBs, h0, yr_0_2, yBs, ys5_0, yBs, yt_is ytw_6, pG_t, yBs, e102, yBs]
        dsimp only
        have p3 : ((if (0 : Int32) = 0 then (pFr (yH κ m) 0 11 3).bind fun x46 => (pFr (yH κ m) 0 11 2).bind fun x47 => (pG (pIs (yH κ m) x46 3)).bind fun _ => (f_43 x46 x47 (yH κ m)).bind fun h49 => some h49 else some (yH κ m) : Option xH)) = f_43 11 5 (yH κ m) := by
          rw [if_pos rfl, yr_0_3, yBs, yr_0_2, yBs, yis_11, pG_t, yBs]
          cases f_43 11 5 (yH κ m) <;> rfl
        rw [p3]
        rfl
      rw [pre1, gP, if_pos hh]
      cases ht : tCg (zth A) (zn A) x with
      | false =>
        rw [if_neg (show ¬ (false = true) by decide)]
        refine ⟨m, ?_, c, o, yG.rf m⟩
        rw [yB_f, if_pos rfl, yBs, if_neg (by decide), yBs]
        dsimp only
        exact s134_x (fu := 99998) (k := 0) (i := 1) hM
      | true =>
        rw [if_pos rfl]
        obtain ⟨m1, e1, c1, g1⟩ := s43h (κ := κ) c o
        have o1 : Ok A (hPush H A) K C D E F := ⟨o.1, o.2.1.push o.1.1, o.2.2⟩
        obtain ⟨m2, e2, c2, g2⟩ := s133 (κ := κ) c1 o1 hh ht (by omega)
        have M2 : Mc m2 (x :: r) := (hM.g g1 (fun x j q => by omega)).g g2 (fun x j q => by unfold sMW sW at q; omega)
        obtain ⟨m', e', c', o', g'⟩ := s134_59 (κ := κ) hcs hcb r [x] 99999 m2 (zMv A E x) 1 rfl (by omega) (by omega) (by simp) c2 (o1.mv ht) M2
        have hk : gH H A ((gP E r (zMv A E x)).1 + 1) = hPush H A := if_neg (by omega)
        refine ⟨m', ?_, by rw [hk]; exact c', by rw [hk]; exact o', ((g1.wk (S3 := sC) (fun x j q => by unfold sC; omega)).tr (g2.wk (S3 := sC) (fun _ _ => sMW_C)) (S3 := sC) (fun _ _ => orSelf)).tr (g'.wk (S3 := sC) (fun _ _ => sMW_C)) (fun _ _ => orSelf)⟩
        rw [yB_t, if_neg (by decide), yBs, if_pos rfl, e1, yBs, yis_0, pG_t, yBs, e2, yBs, yBs]
        dsimp only
        rw [show (gP E r (zMv A E x)).1 + 1 = 1 + (gP E r (zMv A E x)).1 by omega]
        exact e'
  · rw [if_neg hh, decide_eq_true hh, Bool.true_and]
    refine ⟨m, ?_, c, o, yG.rf m⟩
    cases cs with
    | nil =>
      rw [decide_eq_false (fun q => q rfl), yB_f, f_134_59, yr_0_11, yBs, yi_146_1, yBs, hM.1, if_pos (by decide)]; rfl
    | cons x r =>
      rw [decide_eq_true (by simp), yB_t]
      exact s134_x (fu := 99999) (k := 0) (i := 0) hM
theorem m222r {m : yM} {cs : List Nat} (hcs : cs.length ≤ 70) (hcb : ∀ c, c ∈ cs → c ≤ 2992) (c : Rf m A H K C D E F) (o : Ok A H K C D E F) (hM : Mr m cs) :
    ∃ m', f_222_91 100000 178 0 1 1 (yH κ m) = some (yN (gT E cs A).1, yB (!(gT E cs A).2.1), yH κ m') ∧ Rf m' (gT E cs A).2.2 H K C D E F ∧ Ok (gT E cs A).2.2 H K C D E F ∧ yG sMk m m' := by
  unfold gT
  by_cases hh : zho A = 0
  · rw [if_pos hh]
    obtain ⟨m', e', c', o', g'⟩ := m222_91 (κ := κ) hcs hcb cs [] 100000 m A rfl (by omega) c o hM
    rw [decide_eq_true hh] at e'
    refine ⟨m', ?_, c', o', g'⟩
    rw [show ([] : List Nat).length + (gP E cs A).1 = (gP E cs A).1 by simp] at e'
    exact e'
  · rw [if_neg hh]
    refine ⟨m, ?_, c, o, yG.rf m⟩
    cases cs with
    | nil =>
      rw [decide_eq_false (fun q => q rfl), f_222_91, yi_178_31, yBs, hM.1, if_pos (by decide)]; rfl
    | cons x r =>
      have r50 : 0 < m.1 180 50 := by
        have := c.1.2.2.2.1
        have h4 := o.1.1.2.2.2
        rw [show (0 + 50 : Nat) = 50 from rfl] at this
        rw [this, show (0 : Int32) = yN 0 from rfl, yN_lt (by omega) (by omega)]; omega
      have hl : (x :: r).length ≤ 70 := hcs
      rw [decide_eq_true (by simp), f_222_91, yi_178_31, yBs, hM.1, if_neg (by rw [yN_lel (by omega) (by omega)]; simp), if_neg (by decide), if_neg (by decide), yr_178_3, yBs, yr_178_30, yBs, show pAi (yH κ m) 194 0 = _ from ya_194 (i := 0) (by omega), yBs, s202f yAr_180 r50, yBs]
      dsimp only
      rw [if_pos rfl]
      exact m222_x (fu := 99998) hM
end PY
