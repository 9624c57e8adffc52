/-! ===== rule(): the class, where a factor must stand ===== -/
/-- out, heap, depth, compared, digits, whether a factor must come -/
abbrev uS : Type := List Int32 × List Int32 × Nat × (Nat → Bool) × Nat × Bool
def Rs (m : yM) (s : uS) : Prop := out m s.1 ∧ m.1 110 7 = yN s.2.1.length ∧ stk m s.2.1 ∧ m.1 110 8 = yN s.2.2.1 ∧ (∀ d, d ≤ s.2.2.1 → m.1 115 d = yB (s.2.2.2.1 d)) ∧ m.1 110 9 = yN s.2.2.2.2.1 ∧ m.1 110 10 = yB s.2.2.2.2.2
def sU (x j : Nat) : Prop := (x = 110 ∧ 6 ≤ j) ∨ x = 112 ∨ x = 113 ∨ x = 115
/-- a character where a factor must stand -/
def uF (O S : List Int32) (dep : Nat) (cmp : Nat → Bool) (dg k : Nat) : Option uS :=
  if k = 45 then some (O, 3000 :: S, dep, cmp, dg, true)
  else if k = 40 then (if dep < 4 then some (O, 4000 :: S, dep + 1, (fun d => if d = dep + 1 then false else cmp d), dg, true) else none)
  else if dig k = true then some (O ++ [yN (k - 48)], S, dep, cmp, 1, false)
  else if 0 ≤ xIx (xTxt.getD 0 []) (yN k) then some (O ++ [1000 + xIx (xTxt.getD 0 []) (yN k)], S, dep, cmp, 0, false)
  else none
theorem ix45 : ∀ k : Fin 256, decide (0 ≤ xIx (xTxt.getD 4 []) (yN k.val)) = decide (k.val = 45) ∧ decide (0 ≤ xIx (xTxt.getD 5 []) (yN k.val)) = decide (k.val = 40) ∧ (k.val = 40 → dig k.val = false ∧ decide (0 ≤ xIx (xTxt.getD 0 []) (yN k.val)) = false) := by decide +kernel
section RV
variable {κ : yK} {C : zC}
theorem out.g {m m' : yM} {O : List Int32} {S : Nat → Nat → Prop} (h : out m O) (g : yG S m m') (hs : ∀ x j, S x j → ¬ ((x = 110 ∧ j = 6) ∨ x = 112)) : out m' O :=
  ⟨by rw [(g 110 6 (fun q => hs _ _ q (Or.inl ⟨rfl, rfl⟩))).1]; exact h.1, fun j c q => by rw [(g 112 j (fun q => hs _ _ q (Or.inr rfl))).1]; exact h.2 j c q⟩
/-- a factor goes out -/
theorem s59o {m : yM} {O S : List Int32} {dep dg n : Nat} {cmp : Nat → Bool} {c : Int32} (hR : Rs m (O, S, dep, cmp, dg, true)) (hl : O.length < 40) :
    ∃ m1, f_57 110 c (yH κ m) = some (yH κ m1) ∧ Rs (yW (yW m1 110 9 (yN n)) 110 10 0) (O ++ [c], S, dep, cmp, n, false) ∧ yFr sU m (yW (yW m1 110 9 (yN n)) 110 10 0) := by
  obtain ⟨r1, r2, r3, r4, r5, r6, r7⟩ := hR
  obtain ⟨m1, e1, o1, f1⟩ := s57 (κ := κ) (c := c) r1 hl
  have fW : yFr (fun x j => x = 110 ∧ (j = 9 ∨ j = 10)) m1 (yW (yW m1 110 9 (yN n)) 110 10 0) := (yFr.w (S := fun x j => x = 110 ∧ (j = 9 ∨ j = 10)) m1 ⟨rfl, Or.inl rfl⟩).tr (yFr.w (S := fun x j => x = 110 ∧ (j = 9 ∨ j = 10)) _ ⟨rfl, Or.inr rfl⟩) (fun _ _ => orSelf)
  have k : ∀ x j, ¬ (x = 110 ∧ (j = 6 ∨ j = 9 ∨ j = 10)) → x ≠ 112 → (yW (yW m1 110 9 (yN n)) 110 10 0).1 x j = m.1 x j := fun x j p q => by rw [fW.2 _ _ (by omega), f1.2 _ _ (by unfold sUo; omega)]
  refine ⟨m1, e1, ⟨o1.g (fW.g (fun _ _ => id)) (fun x j q => by omega), ?_, r3.c (fun j _ => k _ _ (by omega) (by omega)), ?_, fun d hd => ?_, ?_, ?_⟩, (f1.wk (S3 := sU) (fun x j q => by unfold sUo at q; unfold sU; omega)).tr (fW.wk (S3 := sU) (fun x j q => by unfold sU; omega)) (fun _ _ => orSelf)⟩
  · rw [k _ _ (by omega) (by omega)]; exact r2
  · rw [k _ _ (by omega) (by omega)]; exact r4
  · rw [k _ _ (by omega) (by omega)]; exact r5 d hd
  · rw [yW_get, if_neg (by omega), yW_self, upd_eq]
  · rw [yW_self, upd_eq]; rfl
theorem s59 {m : yM} {O S : List Int32} {dep dg i : Nat} {cmp : Nat → Bool} (hT : cTx m C) (oC : okC C) (hi : i < C.1) (hR : Rs m (O, S, dep, cmp, dg, true)) (hl : O.length + S.length < 40) (hdp : dep ≤ 4) :
    (uF O S dep cmp dg (ch C i) = none ∧ f_59 110 1 (yN i) (yH κ m) = some (0, yH κ m)) ∨ ∃ s' m', uF O S dep cmp dg (ch C i) = some s' ∧ f_59 110 1 (yN i) (yH κ m) = some (1, yH κ m') ∧ Rs m' s' ∧ yFr sU m m' := by
  have hC := oC.1
  obtain ⟨hk, e⟩ := ch_e oC hi
  obtain ⟨x4, x5, x40⟩ := ix45 ⟨_, hk⟩
  have xd := (ix8910 ⟨_, hk⟩).2.2.2.2
  have u := u16 ⟨_, hk⟩
  dsimp only at x4 x5 x40 xd u
  have e4 : f_77 1 (yN i) (xKb + 10 + 4) (yH κ m) = some (yB (decide (ch C i = 45)), yH κ m) := by rw [s77 (by omega) hT oC hi, e, x4]
  have e5 : f_77 1 (yN i) (xKb + 10 + 5) (yH κ m) = some (yB (decide (ch C i = 40)), yH κ m) := by rw [s77 (by omega) hT oC hi, e, x5]
  have e0 : f_77 1 (yN i) (xKb + 10 + 0) (yH κ m) = some (yB (decide (0 ≤ xIx (xTxt.getD 0 []) (yN (ch C i)))), yH κ m) := by rw [s77 (by omega) hT oC hi, e]
  have e76 : f_76 1 (yN i) (yH κ m) = some (yB (dig (ch C i)), yH κ m) := by rw [s76 hT hC hi, e, xd]
  have ea : pAi (yH κ m) 2 (yN i) = some (yN (ch C i)) := by rw [show pAi (yH κ m) 2 (yN i) = _ from ya_2 (by omega), hT.2 i hi, e]
  have ix : (pIx (xKb + 10 + 0) (((yN (ch C i)).toUInt32 % 65536).toInt32)) = some (xIx (xTxt.getD 0 []) (yN (ch C i))) := by rw [u, pIx_t (by omega)]
  have hR' := hR
  obtain ⟨r1, r2, r3, r4, r5, r6, r7⟩ := hR'
  have r4' : m.1 110 8 = yN dep := r4
  unfold uF
  by_cases c45 : ch C i = 45
  · right
    obtain ⟨m1, e1, a1, b1, f1⟩ := s58 (κ := κ) (c := 3000) r2 r3 (show S.length < 40 by omega)
    refine ⟨_, m1, if_pos c45, ?_, ⟨r1.g (f1.g (fun _ _ => id)) (fun x j q => by omega), a1, b1, ?_, fun d hd => ?_, ?_, ?_⟩, f1.wk (fun x j q => by unfold sU; omega)⟩
    · unfold f_59
      rw [yis_1, pG_t, yBs, e4, decide_eq_true c45, yBs]
      dsimp only
      rw [yB_t, if_neg (by decide), yis_110, pG_t, yBs, e1, yBs]; exact pZ_1 _
    · rw [f1.2 _ _ (by omega)]; exact r4
    · rw [f1.2 _ _ (by omega)]; exact r5 d hd
    · rw [f1.2 _ _ (by omega)]; exact r6
    · rw [f1.2 _ _ (by omega)]; exact r7
  · rw [if_neg c45]
    by_cases c40 : ch C i = 40
    · rw [if_pos c40]
      by_cases d4 : dep < 4
      · right
        rw [if_pos d4]
        obtain ⟨m1, e1, a1, b1, f1⟩ := s58 (κ := κ) (c := 4000) r2 r3 (show S.length < 40 by omega)
        have k8 : m1.1 110 8 = yN dep := by rw [f1.2 _ _ (by omega)]; exact r4
        have k8' : (yW m1 110 8 (yN (dep + 1))).1 110 8 = yN (dep + 1) := by rw [yW_self, upd_eq]
        have fW : yFr (fun x j => (x = 110 ∧ j = 8) ∨ x = 115) m1 (yW (yW m1 110 8 (yN (dep + 1))) 115 (dep + 1) 0) := (yFr.w (S := fun x j => (x = 110 ∧ j = 8) ∨ x = 115) m1 (Or.inl ⟨rfl, rfl⟩)).tr (yFr.w (S := fun x j => (x = 110 ∧ j = 8) ∨ x = 115) _ (Or.inr rfl)) (fun _ _ => orSelf)
        refine ⟨_, yW (yW m1 110 8 (yN (dep + 1))) 115 (dep + 1) 0, rfl, ?_, ⟨(r1.g (f1.g (fun _ _ => id)) (fun x j q => by omega)).g (fW.g (fun _ _ => id)) (fun x j q => by omega), ?_, b1.c (fun j _ => fW.2 _ _ (by omega)), ?_, fun d hd => ?_, ?_, ?_⟩, (f1.wk (S3 := sU) (fun x j q => by unfold sU; omega)).tr (fW.wk (S3 := sU) (fun x j q => by unfold sU; omega)) (fun _ _ => orSelf)⟩
        · unfold f_59
          rw [yis_1, pG_t, yBs, e4, decide_eq_false c45, yBs]
          dsimp only
          rw [yB_f, if_pos rfl, yis_1, pG_t, yBs, e5, decide_eq_true c40, yBs]
          dsimp only
          rw [yB_t, if_neg (by decide), yi_110_8, yBs, r4', if_neg (by rw [yN_lle (by omega) (by omega)]; show ¬ 4 ≤ dep; omega), yis_110, pG_t, yBs, e1, yBs, yi_110_8, yBs, k8, yN_addl, yp_110_8, yBs, yr_110_4, yBs, yi_110_8, yBs, k8', yst_115 (by omega), yBs]
          exact pZ_1 _
        · rw [fW.2 _ _ (by omega)]; exact a1
        · rw [yW_row (by omega)]; exact k8'
        · show (yW (yW m1 110 8 (yN (dep + 1))) 115 (dep + 1) 0).1 115 d = yB (if d = dep + 1 then false else cmp d)
          rw [yW_get]
          by_cases q : d = dep + 1
          · rw [if_pos ⟨rfl, q⟩, if_pos q]; rfl
          · have hd' : d ≤ dep + 1 := hd
            rw [if_neg (by omega), if_neg q, yW_row (by omega), f1.2 _ _ (by omega)]; exact r5 d (by show d ≤ dep; omega)
        · rw [fW.2 _ _ (by omega), f1.2 _ _ (by omega)]; exact r6
        · rw [fW.2 _ _ (by omega), f1.2 _ _ (by omega)]; exact r7
      · left
        rw [if_neg d4]
        obtain ⟨hx1, hx2⟩ := x40 c40
        refine ⟨rfl, ?_⟩
        unfold f_59
        rw [yis_1, pG_t, yBs, e4, decide_eq_false c45, yBs]
        dsimp only
        rw [yB_f, if_pos rfl, yis_1, pG_t, yBs, e5, decide_eq_true c40, yBs]
        dsimp only
        rw [yB_t, if_neg (by decide), yi_110_8, yBs, r4', if_pos (by rw [yN_lle (by omega) (by omega)]; show 4 ≤ dep; omega), yis_1, pG_t, yBs, e76, hx1, yBs]
        dsimp only
        rw [yB_f, if_pos rfl, yis_1, pG_t, yBs, e0, hx2, yBs]
        dsimp only
        rw [yB_f, if_pos rfl]; exact pZ_0 _
    · rw [if_neg c40]
      have pre : f_59 110 1 (yN i) (yH κ m) = (if yB (dig (ch C i)) = 0 then (if yB (decide (0 ≤ xIx (xTxt.getD 0 []) (yN (ch C i)))) = 0 then pZ 0 (yH κ m) else (f_57 110 (1000 + xIx (xTxt.getD 0 []) (yN (ch C i))) (yH κ m)).bind fun h21 => (pP h21 110 6 9 (.int 0)).bind fun h22 => (pP h22 110 6 10 (.int 0)).bind fun h23 => pZ 1 h23) else (f_57 110 (yN (ch C i) - 48) (yH κ m)).bind fun h27 => (pP h27 110 6 9 (.int 1)).bind fun h28 => (pP h28 110 6 10 (.int 0)).bind fun h29 => pZ 1 h29) := by
        unfold f_59
        rw [yis_1, pG_t, yBs, e4, decide_eq_false c45, yBs]
        dsimp only
        rw [yB_f, if_pos rfl, yis_1, pG_t, yBs, e5, decide_eq_false c40, yBs]
        dsimp only
        rw [yB_f, if_pos rfl, yis_1, pG_t, yBs, e76, yBs]
        simp only [yis_1, pG_t, yBs, e0, yr_1_0, ea, ix, yis_110]
      rw [pre]
      cases hd : dig (ch C i) with
      | true =>
        right
        have := of_decide_eq_true hd
        obtain ⟨m1, e1, R1, F1⟩ := s59o (κ := κ) (c := yN (ch C i - 48)) (n := 1) hR (by omega)
        refine ⟨_, _, if_pos rfl, ?_, R1, F1⟩
        rw [yB_t, if_neg (by decide), yN_subl (by omega), e1, yBs, yp_110_9, yBs, yp0_110_10, yBs]
        exact pZ_1 _
      | false =>
        rw [yB_f, if_pos rfl, if_neg (show ¬ (false = true) by decide)]
        by_cases hf : 0 ≤ xIx (xTxt.getD 0 []) (yN (ch C i))
        · right
          obtain ⟨m1, e1, R1, F1⟩ := s59o (κ := κ) (c := 1000 + xIx (xTxt.getD 0 []) (yN (ch C i))) (n := 0) hR (by omega)
          refine ⟨_, _, if_pos hf, ?_, R1, F1⟩
          rw [decide_eq_true hf, yB_t, if_neg (by decide), e1, yBs, yp_110_9, yBs, yp0_110_10, yBs]
          exact pZ_1 _
        · left
          rw [decide_eq_false hf, yB_f, if_pos rfl, if_neg hf]
          exact ⟨rfl, pZ_0 _⟩
end RV
