/-! ===== play(): the moves ===== -/
/-- moves are made: how many, whether one could not be, the game behind them -/
def gP (E : zE) : List Nat → zT → Nat × Bool × zT
  | [], A => (0, false, A)
  | c :: r, A => if zho A = 0 then (if tCg (zth A) (zn A) c = true then ((gP E r (zMv A E c)).1 + 1, (gP E r (zMv A E c)).2.1, (gP E r (zMv A E c)).2.2) else (0, true, A)) else (0, false, A)
theorem gP_le (E : zE) : ∀ r A, (gP E r A).1 ≤ r.length
  | [], A => by rw [gP]; exact Nat.le_refl 0
  | c :: r, A => by
    have := gP_le E r (zMv A E c)
    rw [gP]
    split
    · split
      · simp; omega
      · simp
    · simp
theorem tCg_rc {th : Nat → Int32} {n c : Nat} (h : tCg th n c = true) : rc c = yN c := by
  have : tHas th (c / 10) = true := by
    unfold tCg at h
    rw [Bool.and_eq_true, Bool.and_eq_true] at h
    exact h.1.2
  have := tHas_lt this
  unfold rc; rw [if_pos (by omega)]
section PU
variable {κ : yK} {H : zH} {K : zK} {C : zC} {D : List Int64} {E : zE} {F : zF}
theorem Ok.mv {A : zT} {c : Nat} (o : Ok A H K C D E F) (hc : tCg (zth A) (zn A) c = true) : Ok (zMv A E c) H K C D E F :=
  ⟨zMv_ok o.1.1 hc o.2.2.2.2.2.1.1 o.2.2.2.2.2.1.2.1, o.2⟩
theorem s68 {m : yM} {A : zT} (c : Cl m A H K C D E F) (o : Ok A H K C D E F) : f_68 5 (yH κ m) = some (yB (decide (zho A ≠ 0)), yH κ m) := by
  have h4 := o.1.1.2.2.2
  unfold f_68
  rw [ys_i3 ysw_5, yBs, c.1.2.2.2.1]
  by_cases h : zho A = 0
  · rw [if_pos (by rw [h]; rfl), yBs, decide_eq_false (fun q => q h)]; exact pZ_0 _
  · rw [if_neg (by rw [yN_eql (by omega) (by omega)]; exact h), yBs, decide_eq_true h]; exact pZ_1 _
theorem Mc.g {m m' : yM} {cs : List Nat} {S : Nat → Nat → Prop} (h : Mc m cs) (g : yG S m m') (hs : ∀ x j, S x j → x ≠ 146 ∧ x ≠ 147) : Mc m' cs :=
  ⟨by rw [(g 146 1 (fun q => (hs _ _ q).1 rfl)).1]; exact h.1, fun j c q => by rw [(g 147 j (fun q => (hs _ _ q).2 rfl)).1]; exact h.2 j c q⟩
/-- the class's loop ends when a move could not be made -/
theorem s134_x {m : yM} {fu k i : Nat} {cs : List Nat} (hM : Mc m cs) : f_134_59 (fu + 1) 0 (yN k) 1 (yN i) (yH κ m) = some (yN k, 1, yH κ m) := by
  rw [f_134_59, yr_0_11, yBs, yi_146_1, yBs]
  by_cases q : m.1 146 1 ≤ yN i
  · rw [if_pos q]
  · rw [if_neg q, if_neg (by decide)]
theorem s134_59 {cs : List Nat} (hcs : cs.length ≤ 70) (hcb : ∀ c, c ∈ cs → c ≤ 2992) : ∀ (r pre : List Nat) (fu : Nat) (m : yM) (A : zT) (k : Nat), cs = pre ++ r → r.length + 1 < fu → 1 ≤ k → k ≤ pre.length → Cl m A H K C D E F → Ok A H K C D E F → Mc m cs →
    ∃ m', f_134_59 fu 0 (yN k) 0 (yN pre.length) (yH κ m) = some (yN (k + (gP E r A).1), yB (gP E r A).2.1, yH κ m') ∧ Cl m' (gP E r A).2.2 H K C D E F ∧ Ok (gP E r A).2.2 H K C D E F ∧ yG sMW m m' := by
  intro r
  induction r with
  | nil =>
    intro pre fu m A k hc hf hk hk2 c o hM
    obtain ⟨fu, rfl⟩ : ∃ k, fu = k + 1 := ⟨fu - 1, by omega⟩
    have : pre.length = cs.length := by rw [hc]; simp
    rw [gP]
    refine ⟨m, ?_, c, o, yG.rf m⟩
    rw [f_134_59, yr_0_11, yBs, yi_146_1, yBs, hM.1, if_pos (by rw [yN_le (by omega) (by omega)]; omega)]; rfl
  | cons x r ih =>
    intro pre fu m A k hc hf hk hk2 c o hM
    obtain ⟨fu, rfl⟩ : ∃ k, fu = k + 2 := ⟨fu - 2, by simp at hf; omega⟩
    have hlen : cs.length = pre.length + (r.length + 1) := by rw [hc]; simp
    have hx : cs[pre.length]? = some x := by rw [hc, List.getElem?_append_right (Nat.le_refl _)]; simp
    have hxm : x ∈ cs := by rw [hc]; simp
    have hxb := hcb x hxm
    have e68 := s68 (κ := κ) c o
    have e102 := s102 (κ := κ) (mv := x) ytw_6 c.1.1 o.1.1.1 (by omega)
    have pre1 : f_134_59 (fu + 2) 0 (yN k) 0 (yN pre.length) (yH κ m) = (if yB (decide (zho A ≠ 0)) = 0 then ((if yB (tCg (zth A) (zn A) x) = 0 then some 1 else some 0 : Option Int32).bind fun w19 => ((if w19 = 0 then ((some (yH κ m) : Option xH)).bind fun h44 => (pG (pIs h44 0 11)).bind fun _ => (f_133 0 (yN x) h44).bind fun h51 => some (yN k + 1, h51) else some (yN k, yH κ m) : Option (Int32 × xH))).bind fun (w36, h37) => f_134_59 (fu + 1) 0 w36 w19 (yN pre.length + 1) h37) else some (yN k, 0, yH κ m)) := by
      rw [f_134_59, yr_0_11, yBs, yi_146_1, yBs, hM.1, if_neg (by rw [yN_le (by omega) (by omega)]; omega), if_pos rfl, yr_0_2, yBs, ys_is ysw_5, pG_t, yBs, e68, yBs]
      dsimp only
      by_cases hh : zho A = 0
      · rw [decide_eq_false (fun q => q hh), yB_f, if_pos rfl, if_pos rfl, yr_0_11, yBs, yr_146_0, yBs, ya_147 (by omega), yBs, hM.2 _ _ hx, yr_0_2, yBs, ys5_0, yBs, yt_is ytw_6, pG_t, yBs, e102, yBs]
        dsimp only
        rw [if_neg (show ¬ (yN k = 0) by rw [yN_eql (by omega) (by omega)]; omega)]
      · rw [decide_eq_true hh, yB_t, if_neg (by decide), if_neg (by decide)]
    rw [pre1, gP]
    by_cases hh : zho A = 0
    · rw [decide_eq_false (fun q => q hh), yB_f, if_pos rfl, if_pos hh]
      cases ht : tCg (zth A) (zn A) x with
      | false =>
        rw [if_neg (show ¬ (false = true) by decide)]
        refine ⟨m, ?_, c, o, yG.rf m⟩
        rw [yB_f, if_pos rfl, yBs, if_neg (by decide), yBs]
        dsimp only
        rw [yN_addl, s134_x hM]; rfl
      | true =>
        rw [if_pos rfl]
        obtain ⟨m1, e1, c1, g1⟩ := s133 (κ := κ) c o hh ht (by omega)
        have oM := o.mv ht
        obtain ⟨m', e', c', o', g'⟩ := ih (pre ++ [x]) (fu + 1) m1 (zMv A E x) (k + 1) (by rw [hc]; simp) (by simp at hf; omega) (by omega) (by simp; omega) c1 oM (hM.g g1 (fun x j q => by unfold sMW sW at q; omega))
        refine ⟨m', ?_, c', o', g1.tr g' (fun _ _ => orSelf)⟩
        rw [yB_t, if_neg (by decide), yBs, if_pos rfl, yBs, yis_0, pG_t, yBs, e1, yBs, yBs]
        dsimp only
        rw [yN_addl, yN_addl]
        rw [show (pre ++ [x]).length = pre.length + 1 by simp] at e'
        rw [e', show k + 1 + (gP E r (zMv A E x)).1 = k + ((gP E r (zMv A E x)).1 + 1) by omega]
    · rw [decide_eq_true hh, yB_t, if_neg (by decide), if_neg hh]
      exact ⟨m, rfl, c, o, yG.rf m⟩
theorem Mr.g {m m' : yM} {cs : List Nat} {S : Nat → Nat → Prop} (h : Mr m cs) (g : yG S m m') (hs : ∀ x j, S x j → ¬ ((x = 178 ∧ j = 31) ∨ x = 194)) : Mr m' cs :=
  ⟨by rw [(g 178 31 (fun q => hs _ _ q (Or.inl ⟨rfl, rfl⟩))).1]; exact h.1, fun j c q => by rw [(g 194 j (fun q => hs _ _ q (Or.inr rfl))).1]; exact h.2 j c q⟩
theorem m202r {m : yM} {A : zT} {x : Nat} (c : Rf m A H K C D E F) (o : Ok A H K C D E F) (hh : zho A = 0) (hx : x ≤ 2992) : f_202 180 (rc x) (yH κ m) = some (yB (tCg (zth A) (zn A) x), yH κ m) := by
  have r50 : m.1 180 50 = 0 := by have := c.1.2.2.2.1; rw [hh] at this; exact this
  cases ht : tCg (zth A) (zn A) x with
  | true => rw [tCg_rc ht, s202 yAr_180 c.1.tor o.1.1.1 r50 (by omega), ht]
  | false =>
    unfold rc
    split
    · rw [s202 yAr_180 c.1.tor o.1.1.1 r50 (by omega), ht]
    · exact s202m yAr_180 (by decide)
theorem m222_x {m : yM} {fu : Nat} {a w : Int32} {cs : List Nat} (hM : Mr m cs) : f_222_91 (fu + 1) 178 a 0 w (yH κ m) = some (a, 0, yH κ m) := by
  rw [f_222_91, yi_178_31, yBs]
  by_cases q : m.1 178 31 ≤ a
  · rw [if_pos q]
  · rw [if_neg q, if_pos rfl]
theorem m222_91 {cs : List Nat} (hcs : cs.length ≤ 70) (hcb : ∀ c, c ∈ cs → c ≤ 2992) : ∀ (r pre : List Nat) (fu : Nat) (m : yM) (A : zT), cs = pre ++ r → r.length + 1 < fu → Rf m A H K C D E F → Ok A H K C D E F → Mr m cs →
    ∃ m', f_222_91 fu 178 (yN pre.length) 1 (yB (decide (zho A = 0))) (yH κ m) = some (yN (pre.length + (gP E r A).1), yB (!(gP E r A).2.1), yH κ m') ∧ Rf m' (gP E r A).2.2 H K C D E F ∧ Ok (gP E r A).2.2 H K C D E F ∧ yG sMk m m' := by
  intro r
  induction r with
  | nil =>
    intro pre fu m A hc hf c o hM
    obtain ⟨fu, rfl⟩ : ∃ k, fu = k + 1 := ⟨fu - 1, by omega⟩
    have : pre.length = cs.length := by rw [hc]; simp
    rw [gP]
    refine ⟨m, ?_, c, o, yG.rf m⟩
    rw [f_222_91, yi_178_31, yBs, hM.1, if_pos (by rw [yN_le (by omega) (by omega)]; omega)]; rfl
  | cons x r ih =>
    intro pre fu m A hc hf c o hM
    obtain ⟨fu, rfl⟩ : ∃ k, fu = k + 2 := ⟨fu - 2, by simp at hf; omega⟩
    have hlen : cs.length = pre.length + (r.length + 1) := by rw [hc]; simp
    have hx : cs[pre.length]? = some x := by rw [hc, List.getElem?_append_right (Nat.le_refl _)]; simp
    have hxb := hcb x (by rw [hc]; simp)
    rw [gP]
    by_cases hh : zho A = 0
    · have e202 := m202r (κ := κ) c o hh hxb
      have ex : pAi (yH κ m) 194 (yN pre.length) = some (rc x) := by rw [show pAi (yH κ m) 194 (yN pre.length) = _ from ya_194 (by omega), hM.2 _ _ hx]
      rw [decide_eq_true hh, if_pos hh]
      have p1 : f_222_91 (fu + 2) 178 (yN pre.length) 1 (yB true) (yH κ m) = (if yB (tCg (zth A) (zn A) x) = 0 then f_222_91 (fu + 1) 178 (yN pre.length) (yB (tCg (zth A) (zn A) x)) 1 (yH κ m) else (f_219 178 (rc x) (yH κ m)).bind fun (x15, h14) => f_222_91 (fu + 1) 178 (yN pre.length + 1) (yB (tCg (zth A) (zn A) x)) x15 h14) := by
        rw [f_222_91, yi_178_31, yBs, hM.1, if_neg (by rw [yN_le (by omega) (by omega)]; omega), if_neg (by decide), yB_t, if_neg (by decide), yr_178_3, yBs, yr_178_30, yBs, ex, yBs, e202, yBs]
        dsimp only
        rw [yr_178_30, yBs, ex, yBs, yis_178, pG_t, yBs]
      rw [p1]
      cases ht : tCg (zth A) (zn A) x with
      | false =>
        rw [if_neg (show ¬ (false = true) by decide), yB_f, if_pos rfl, m222_x hM]
        exact ⟨m, rfl, c, o, yG.rf m⟩
      | true =>
        rw [if_pos rfl, yB_t, if_neg (by decide), tCg_rc ht]
        obtain ⟨m1, e1, c1, g1⟩ := m219 (κ := κ) c o hh ht (by omega)
        have oM := o.mv ht
        obtain ⟨m', e', c', o', g'⟩ := ih (pre ++ [x]) (fu + 1) m1 (zMv A E x) (by rw [hc]; simp) (by simp at hf; omega) c1 oM (hM.g g1 (fun x j q => by unfold sMk sM at q; omega))
        refine ⟨m', ?_, c', o', g1.tr g' (fun _ _ => orSelf)⟩
        rw [e1, yBs]
        dsimp only
        rw [yN_addl]
        rw [show (pre ++ [x]).length = pre.length + 1 by simp] at e'
        rw [show pre.length + ((gP E r (zMv A E x)).1 + 1) = pre.length + 1 + (gP E r (zMv A E x)).1 by omega]
        exact e'
    · rw [decide_eq_false hh, if_neg hh]
      refine ⟨m, ?_, c, o, yG.rf m⟩
      rw [f_222_91, yi_178_31, yBs, hM.1, if_neg (by rw [yN_le (by omega) (by omega)]; omega), if_neg (by decide), yB_f, if_pos rfl]; rfl
end PU
