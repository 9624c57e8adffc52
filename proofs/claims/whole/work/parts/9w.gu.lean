/-! ===== games: the calls ===== -/
section GU
variable {κ : yK} {m m' : yM} {A : zT} {H : zH} {K : zK} {C : zC} {D : List Int64} {E : zE} {F : zF}
def zph (A : zT) : Bool := decide (zho A = 0)
def zro (A : zT) : zN := (zth A, zn A)
theorem zro_ok (o : Ok A H K C D E F) : nOk (zro A) := ⟨o.1.1.1, o.1.1.2.1⟩
/-- what the games find -/
def zG (A : zT) (E : zE) : gS := gAk (zph A) E.1 E.2.1 (zro A) 400
theorem zG_J (o : Ok A H K C D E F) : ∃ d, gJ (zro A) d (zG A E) := (gAk_ok (zro_ok o) 400).j
theorem zG_cl (o : Ok A H K C D E F) (hf : (zG A E).2 = false) : clO (zph A) E.1 E.2.1 (zG A E).1 := fun k e mv hk hs => by
  obtain ⟨d, J⟩ := zG_J o
  have := J.len
  exact (gAk_ok (φ := zph A) (t0 := E.1) (t1 := E.2.1) (zro_ok o) 400).cl hf k e mv (by have := ge_lt hk; unfold zG at *; omega) hk hs
theorem zhw (o : Ok A H K C D E F) : hwO (zph A) (yN (zho A)) := by
  have h4 := o.1.1.2.2.2
  refine ⟨fun h => ?_, fun h => ?_⟩
  · have := of_decide_eq_true h
    rw [this]; rfl
  · have := of_decide_eq_false h
    rw [yN_llt (by omega) (by omega)]
    show 0 < zho A
    omega
/-- the class's cells stay, but for what games use -/
theorem Cl.ga (c : Cl m A H K C D E F) (o : H.1 ≤ 15) (g : gF m m') (z : ∀ j, 48 ≤ j → m'.1 120 j = 0) : Cl m' A H K C D E F ∧ yG sC m m' := by
  have hz : ∀ j, 48 ≤ j → m.1 120 j = 0 := c.2.2.2.2.2.1.2.2.2.2.1
  have G : ∀ x j, ¬ (sGx x j ∧ (x = 120 → j < 48)) → m'.1 x j = m.1 x j := fun x j q => by
    by_cases w : sGx x j
    · have : x = 120 ∧ 48 ≤ j := by
        rcases Nat.lt_or_ge j 48 with y | y
        · exact absurd ⟨w, fun _ => y⟩ q
        · by_cases v : x = 120
          · exact ⟨v, y⟩
          · exact absurd ⟨w, fun u => absurd u v⟩ q
      rw [this.1, z j this.2, hz j this.2]
    · exact g.1 x j w
  have GG : yG (fun x j => (sGx x j ∧ (x = 120 → j < 48)) ∨ x = 124 ∨ x = 125) m m' := fun x j q => ⟨G x j (fun w => q (Or.inl w)), g.2 x j (fun w => q (Or.inr w))⟩
  exact ⟨c.fr o GG (fun x j q => by unfold sGx sW at q; unfold sCs; omega), GG.wk (fun x j q => by unfold sGx sW at q; unfold sC; omega)⟩
/-- the class's search -/
theorem s137a (c : Cl m A H K C D E F) (o : Ok A H K C D E F) : ∃ m', f_18 118 6 (yB (decide (zho A ≠ 0))) (yH κ m) = some (yH κ m') ∧ CG m' (zG A E) ∧ gF m m' ∧ ((zG A E).2 = false → ∃ fe Ed, cEd (zph A) E.1 E.2.1 m' (zG A E).1 (zG A E).1.length fe Ed) := by
  have e : decide (zho A ≠ 0) = !zph A := by
    unfold zph
    by_cases q : zho A = 0
    · rw [decide_eq_true q, decide_eq_false (fun z => z q)]; rfl
    · rw [decide_eq_false q, decide_eq_true q]; rfl
  rw [e]
  exact s18 (κ := κ) (φ := zph A) (zro_ok o) c.1.1 c.2.2.2.2.2.1.1.1 c.2.2.2.2.2.1.1.2 c.2.2.2.2.2.1.2.2.2.2.1
theorem s137 (c : Cl m A H K C D E F) (o : Ok A H K C D E F) : ∃ m', f_137 0 (yH κ m) = some (yB (!(zG A E).2), yH κ m') ∧ CG m' (zG A E) ∧ gF m m' ∧ ((zG A E).2 = false → ∃ fe Ed, cEd (zph A) E.1 E.2.1 m' (zG A E).1 (zG A E).1.length fe Ed) := by
  obtain ⟨m', e, G, g, hE⟩ := s137a (κ := κ) c o
  refine ⟨m', ?_, G, g, hE⟩
  unfold f_137
  rw [yr_0_9, yBs, yr_0_2, yBs, ys_0 ysw_5, yBs, yBs, ys_is ysw_5, pG_t, yBs, s68 c o, yBs]
  dsimp only
  rw [yis_118, pG_t, yBs, e, yBs, yr_0_9, yBs, yi_118_15, yBs, G.2.1]
  cases (zG A E).2 with
  | true => rw [yB_t, if_neg (show ¬ ((1 : Int32) = 0) by decide), yBs]; exact pZ_0 _
  | false => rw [yB_f, if_pos rfl, yBs]; exact pZ_1 _
theorem zRw (c : Rf m A H K C D E F) : Rw m 180 (zro A) (yN (zho A)) := by
  obtain ⟨h1, h2, h3, h4, -⟩ := c.1
  refine ⟨fun b hb => ?_, ?_, ?_⟩
  · have := h1 b hb; rwa [Nat.zero_add] at this
  · exact h2
  · exact h4
theorem m230z (c : Rf m A H K C D E F) (o : Ok A H K C D E F) : ∃ m', f_230 178 (yH κ m) = some (yB (!(zG A E).2), yH κ m') ∧ RG m' (zG A E) (yN (zho A)) ∧ Rf m' A H K C D E F ∧ yG sR m m' := by
  obtain ⟨m', e, G, f⟩ := m230 (κ := κ) (φ := zph A) (t0 := E.1) (t1 := E.2.1) (zro_ok o) (zhw o) (zRw c) c.2.2.2.2.2.1.1.1 c.2.2.2.2.2.1.1.2
  exact ⟨m', e, G, c.fr (f.g (fun _ _ => id)) (fun _ _ => sGr_Rs), f.g (fun _ _ => sGr_R)⟩
theorem CG.ot {S : gS} {T : Nat → Nat → Prop} (h : CG m S) (f : yFr T m m') (hs : ∀ x j, T x j → 131 ≤ x ∨ x < 118) : CG m' S := h.c (fun x j z => f.2 x j (fun w => by have := hs x j w; omega)) (by rw [f.1]) (fun j hj => by rw [f.2 _ _ (fun w => by have := hs _ _ w; omega)]; exact h.2.2.2.2.2 j hj)
theorem gF.ot {m2 : yM} {x : Nat} (g : gF m m') (f : yFr (fun y _ => y = x) m' m2) (hx : 118 ≤ x ∧ x ≤ 134) : gF m m2 := g.tr (gF.of f (fun y j q => Or.inl (by have : y = x := q; omega)))
end GU
theorem zG0 {A : zT} {H : zH} {K : zK} {C : zC} {D : List Int64} {E : zE} {F : zF} (o : Ok A H K C D E F) : (zG A E).1[0]? = some ((zro A, -1, -1, 0) : gE) := by
  obtain ⟨d, J⟩ := zG_J o
  exact J.fst
theorem yBn (b : Bool) : (if yB (!b) = 0 then true else false) = b := by cases b <;> rfl
theorem z_wins : zCall (f_138 0) (f_233 178) := by
  intro κ A H K C D E F o
  obtain ⟨d, J⟩ := zG_J o
  have hl := J.len
  have oH := o.2.1.1
  cases hf : (zG A E).2 with
  | true =>
    refine ⟨-3, A, H, K, C, D, E, F, o, fun m c => ?_, fun m c => ?_⟩
    · obtain ⟨m1, e1, G1, g1, -⟩ := s137 (κ := κ) c o
      obtain ⟨c1, s1⟩ := c.ga oH g1 G1.2.2.2.2.2
      refine ⟨m1, ?_, c1, s1⟩
      unfold f_138
      rw [yis_0, pG_t, yBs, e1, hf, yBs]
      dsimp only
      rw [show yB (!true) = 0 from rfl, if_pos rfl]
    · obtain ⟨c0, g0⟩ := c.th 0
      obtain ⟨m1, e1, G1, c1, g1⟩ := m230z (κ := κ) c0 o
      refine ⟨m1, ?_, c1, g0.tr g1 (fun _ _ => orSelf)⟩
      unfold f_233
      rw [yp_178_0, yBs, yis_178, pG_t, yBs, e1, hf, yBs]
      dsimp only
      rw [show yB (!true) = 0 from rfl, if_pos rfl]
  | false =>
    have oD : Ok A H K C [(mvI (gW 0 (zph A) E.1 E.2.1 (zro A))).toInt64] E F := ⟨o.1, o.2.1, o.2.2.1, o.2.2.2.1, by simp, o.2.2.2.2.2⟩
    refine ⟨yN (gv (gW 0 (zph A) E.1 E.2.1 (zro A))), A, H, K, C, [(mvI (gW 0 (zph A) E.1 E.2.1 (zro A))).toInt64], E, F, oD, fun m c => ?_, fun m c => ?_⟩
    · obtain ⟨m1, e1, G1, g1, hE⟩ := s137 (κ := κ) c o
      obtain ⟨fe, Ed, hC⟩ := hE hf
      obtain ⟨m2, e2, V2, f2⟩ := s30 (κ := κ) J hC G1.1
      have G2 : CG m2 (zG A E) := G1.ot f2 (fun x j q => by have : x = 131 := q; omega)
      have hC2 := hC.c (m' := m2) (f2.row (fun j q => by omega)) (f2.row (fun j q => by omega))
      obtain ⟨c2, s2⟩ := c.ga oH (g1.ot f2 (by omega)) G2.2.2.2.2.2
      have r1 : (rAs m2 []).1 131 = m2.1 131 := rAs_row (by omega)
      have e33 := s33 (κ := κ) (m := rAs m2 []) J (hC2.c (rAs_row (by omega)) (rAs_row (by omega))) (fun t e h => by rw [r1]; exact V2 t e h) (zG0 o)
      refine ⟨_, ?_, c2.row oH [(mvI (gW 0 (zph A) E.1 E.2.1 (zro A))).toInt64], s2.tr (rAs_g m2 _) (fun x j q => q.elim id (fun q => sA3_C q))⟩
      unfold f_138
      rw [yis_0, pG_t, yBs, e1, hf, yBs]
      dsimp only
      rw [show yB (!false) = 1 from rfl, if_neg (show ¬ ((1 : Int32) = 0) by decide), yr_0_9, yBs, yis_118, pG_t, yBs, e2, yBs, yr_0_1, yBs, yis_3, pG_t, yBs, s50, yBs, yr_0_1, yBs, yr_0_9, yBs, yis_118, pG_t, yBs, e33, yBs]
      dsimp only
      rw [yis_3, pG_t, yBs, s51a, yBs, yr_0_9, yBs, yr_118_9, yBs, show pAi (yH κ (rAs m2 [(mvI (gW 0 (zph A) E.1 E.2.1 (zro A))).toInt64])) 131 0 = _ from ya_131 (i := 0) (by omega), yBs, rAs_row (by omega), V2 0 _ (zG0 o)]
    · obtain ⟨c0, g0⟩ := c.th 0
      obtain ⟨m1, e1, G1, c1, g1⟩ := m230z (κ := κ) c0 o
      obtain ⟨m2, e2, G2, V2, s2, f2⟩ := m231 (κ := κ) (how := 0) (by omega) J (zhw o) (zG_cl o hf) G1 c1.2.2.2.2.2.1.1.1 c1.2.2.2.2.2.1.1.2
      have c2 := c1.fr (f2.g (fun _ _ => id)) (fun _ _ => sGr_Rs)
      rcases V2 0 _ (zG0 o) with z | ⟨v1, v2, -⟩
      · exact absurd z s2
      · refine ⟨_, ?_, c2.row [(mvI (gW 0 (zph A) E.1 E.2.1 (zro A))).toInt64], ((g0.tr g1 (S3 := sR) (fun _ _ => orSelf)).tr (f2.g (S3 := sR) (fun _ _ => sGr_R)) (S3 := sR) (fun _ _ => orSelf)).tr (rBs_g m2 _) (fun x j q => q.elim id (fun q => sB3_R q))⟩
        unfold f_233
        rw [yp_178_0, yBs, yis_178, pG_t, yBs, e1, hf, yBs]
        dsimp only
        rw [show yB (!false) = 1 from rfl, if_neg (show ¬ ((1 : Int32) = 0) by decide), yis_178, pG_t, yBs, show f_231 178 0 (yH κ m1) = _ from e2, yBs, yp_178_1, yBs, rBs_0, yr_178_41, yBs, show pAi (yH κ (rBs m2 [])) 202 0 = _ from ya_202 (i := 0) (by omega), yBs, rBs_row (by omega), v2, yis_178, pG_t, yBs, s165a, yBs, yr_178_40, yBs, show pAi (yH κ (rBs m2 [(mvI (gW 0 (zph A) E.1 E.2.1 (zro A))).toInt64])) 201 0 = _ from ya_201 (i := 0) (by omega), yBs, rBs_row (by omega), v1]
