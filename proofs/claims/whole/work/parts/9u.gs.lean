/-! ===== games: the reference tells lines ===== -/
def sGl (x j : Nat) : Prop := sGr x j ∨ (x = 178 ∧ j = 1) ∨ x = 179
theorem rRo.bs {m : yM} {l : List Int64} (h : rRo m l) : rBs m l = m := by
  refine yM_ext (fun x j => ?_) (fun x j => ?_)
  · rw [rBs_1]
    by_cases q : x = 178 ∧ j = 1
    · rw [if_pos q, q.1, q.2]; exact h.1.symm
    · rw [if_neg q]
  · rw [rBs_2]
    by_cases q : x = 179 ∧ j < l.length
    · rw [if_pos q, q.1]; exact (h.2 j q.2).symm
    · rw [if_neg q]
theorem gFd_none {how : Nat} {φ : Bool} {t0 t1 : Int32} {x : zN} (o : nOk x) : gv (gW how φ t0 t1 x) = 0 ↔ gW how φ t0 t1 x = none := by
  cases h : gW how φ t0 t1 x with
  | none => exact ⟨fun _ => rfl, fun _ => rfl⟩
  | some p =>
    obtain ⟨b, m⟩ := p
    have := (gW_mv o h).2.2.2
    exact ⟨fun z => by have : b = 0 := z; omega, fun z => by simp at z⟩
theorem gPa_tk {how : Nat} {φ : Bool} {t0 t1 : Int32} : ∀ (f g : Nat) (x : zN), (gPa how φ t0 t1 (f + g) x).take f = gPa how φ t0 t1 f x
  | 0, g, x => by rw [List.take_zero, gPa]
  | f + 1, g, x => by
    rw [show f + 1 + g = (f + g) + 1 by omega, gPa, gPa]
    cases gW how φ t0 t1 x with
    | none => rfl
    | some p => dsimp only; rw [List.take_succ_cons, gPa_tk f g]
theorem gPa_st {how : Nat} {φ : Bool} {t0 t1 : Int32} (hh : how ≠ 0) : ∀ (f : Nat) (x : zN), nOk x → gv (gW how φ t0 t1 x) ≤ f → gPa how φ t0 t1 f x = gPa how φ t0 t1 (gv (gW how φ t0 t1 x)) x
  | 0, x, o, h => by rw [show gv (gW how φ t0 t1 x) = 0 by omega]
  | f + 1, x, o, h => by
    cases hg : gW how φ t0 t1 x with
    | none => rw [gPa, hg]; rfl
    | some p =>
      obtain ⟨b, m⟩ := p
      obtain ⟨h1, h2, h3, h4⟩ := gW_mv o hg
      unfold gBe at h3
      rw [if_neg hh] at h3
      rw [hg] at h
      have hb : b ≤ f + 1 := h
      rw [gPa, hg]
      dsimp only
      rw [gPa_st hh f (gNx x m) (gNx_ok o h1) (by omega), show gv (some (b, m)) = gv (gW how φ t0 t1 (gNx x m)) + 1 from h3, gPa, hg]
theorem gPa_len {how : Nat} {φ : Bool} {t0 t1 : Int32} : ∀ (f : Nat) (x : zN), (gPa how φ t0 t1 f x).length ≤ f
  | 0, x => Nat.le_refl _
  | f + 1, x => by
    rw [gPa]
    cases gW how φ t0 t1 x with
    | none => exact Nat.zero_le _
    | some p => have := gPa_len (how := how) (φ := φ) (t0 := t0) (t1 := t1) f (gNx x p.2); dsimp only; rw [List.length_cons]; omega
theorem gPa_10 {how : Nat} {φ : Bool} {t0 t1 : Int32} {x : zN} (hh : how ≠ 0) (o : nOk x) : (gPa how φ t0 t1 (gv (gW how φ t0 t1 x)) x).take 10 = gPa how φ t0 t1 10 x := by
  by_cases q : gv (gW how φ t0 t1 x) ≤ 10
  · have := gPa_len (how := how) (φ := φ) (t0 := t0) (t1 := t1) (gv (gW how φ t0 t1 x)) x
    rw [gPa_st hh 10 x o q, List.take_of_length_le (by omega)]
  · have := gPa_tk (how := how) (φ := φ) (t0 := t0) (t1 := t1) 10 (gv (gW how φ t0 t1 x) - 10) x
    rwa [show 10 + (gv (gW how φ t0 t1 x) - 10) = gv (gW how φ t0 t1 x) by omega] at this
section GS
variable {κ : yK} {r : zN} {t0 t1 : Int32} {φ : Bool} {s : gS} {d how : Nat} {hw : Int32}
theorem m165 {m : yM} {l : List Int64} {v : Int64} (h : rRo m l) (hl : l.length < 24) : ∃ m', f_165 178 v (yH κ m) = some (yH κ m') ∧ rRo m' (l ++ [v]) ∧ yG sB3 m m' := by
  have e := s165 (κ := κ) (m := m) (v := v) hl
  rw [h.bs] at e
  exact ⟨_, e, rBs_r _ _, rBs_g _ _⟩
theorem RG.gl {m m' : yM} {S : Nat → Nat → Prop} (h : RG m s hw) (g : yG S m m') (hs : ∀ x j, S x j → ¬ ((x = 178 ∧ (j = 37 ∨ j = 38)) ∨ (195 ≤ x ∧ x ≤ 199))) : RG m' s hw := h.c (fun x j z => (g x j (fun w => hs x j w z)).1)
theorem rV.gl {m m' : yM} {L : List gE} {S : Nat → Nat → Prop} (h : rV φ t0 t1 how m L) (g : yG S m m') (hs : ∀ x j, S x j → ¬ (x = 201 ∨ x = 202)) : rV φ t0 t1 how m' L := fun k e hk => by
  rw [g.row (x := 201) (fun j z => hs _ j z (Or.inl rfl)), g.row (x := 202) (fun j z => hs _ j z (Or.inr rfl))]; exact h k e hk
theorem m234_29 (hh : how = 1 ∨ how = 2) (J : gJ r d s) (ho : hwO φ hw) (hcl : clO φ t0 t1 s.1) : ∀ (n fu k : Nat) (e : gE) (m : yM) (l : List Int64), n < fu → s.1[k]? = some e → gv (gW how φ t0 t1 e.1) = n → l.length ≤ 10 → RG m s hw → rV φ t0 t1 how m s.1 → m.1 201 k ≠ -1 → m.1 178 7 = t0 → m.1 178 8 = t1 → rRo m l →
    ∃ m', f_234_29 fu 178 (yN k) (yN n) (yH κ m) = some (yH κ m') ∧ rRo m' ((l ++ nL (gPa how φ t0 t1 n e.1)).take 10) ∧ m'.1 201 = m.1 201 ∧ yG sGl m m' := by
  have hl := J.len
  intro n
  induction n with
  | zero =>
    intro fu k e m l hf hk hn hll hG hV hset h0 h1 hR
    obtain ⟨fu, rfl⟩ : ∃ k, fu = k + 1 := ⟨fu - 1, by omega⟩
    refine ⟨m, by rw [f_234_29, if_pos (by decide)], ?_, rfl, yG.rf m⟩
    rw [gPa, show l ++ nL [] = l from List.append_nil l, List.take_of_length_le hll]; exact hR
  | succ n ih =>
    intro fu k e m l hf hk hn hll hG hV hset h0 h1 hR
    obtain ⟨fu, rfl⟩ : ∃ k, fu = k + 1 := ⟨fu - 1, by omega⟩
    have hkl := ge_lt hk
    have o := (J.nod k e hk).1
    have hgl : gv (gW how φ t0 t1 e.1) ≤ 49 := gW_le
    rcases hV k e hk with z | ⟨-, v2, v3⟩
    · exact absurd z hset
    · cases hg : gW how φ t0 t1 e.1 with
      | none => rw [hg] at hn; exact absurd hn (by show ¬ (0 = n + 1); omega)
      | some p =>
        obtain ⟨b, mv⟩ := p
        obtain ⟨w1, w2, w3, w4⟩ := gW_mv o hg
        rw [hg] at hn v2 hgl
        have hb49 : b ≤ 49 := hgl
        have hb : b = n + 1 := hn
        unfold gBe at w3
        rw [if_neg (by omega)] at w3
        have hφ : φ = true ∧ tCg e.1.1 e.1.2 mv = true := by
          obtain ⟨-, z2, -⟩ := gSf_c w1
          unfold gSf at w1
          rw [Bool.and_eq_true] at w1
          exact ⟨w1.1, z2⟩
        have v2' : m.1 202 k = yN mv := v2
        -- the move is told
        obtain ⟨m1, e1, R1, g1⟩ : ∃ m1, ((if (10 : Int32) ≤ yN l.length then some (yH κ m) else (pFr (yH κ m) 178 12 41).bind fun x10 => (pAi (yH κ m) x10 (yN k)).bind fun x11 => (pG (pIs (yH κ m) 178 12)).bind fun _ => (f_165 178 ((x11 : Int32).toInt64) (yH κ m)).bind fun h13 => some (h13)) : Option xH) = some (yH κ m1) ∧ rRo m1 ((l ++ [(yN mv).toInt64]).take 10) ∧ yG sB3 m m1 := by
          by_cases q : l.length = 10
          · refine ⟨m, by rw [if_pos (by rw [yN_lle (by omega) (by omega)]; show 10 ≤ l.length; omega)], ?_, yG.rf m⟩
            rw [List.take_append_of_le_length (by omega), List.take_of_length_le (by omega)]; exact hR
          · obtain ⟨m1, a, b, c⟩ := m165 (κ := κ) (v := (yN mv).toInt64) hR (by omega)
            refine ⟨m1, ?_, ?_, c⟩
            · rw [if_neg (by rw [yN_lle (by omega) (by omega)]; show ¬ 10 ≤ l.length; omega), yr_178_41, yBs, show pAi (yH κ m) 202 (yN k) = _ from ya_202 (by omega), yBs, v2', yis_178, pG_t, yBs, a, yBs]
            · rw [List.take_of_length_le (by rw [List.length_append]; simp; omega)]; exact b
        have o1 : ∀ y j, ¬ (y = 178 ∧ j = 1) → y ≠ 179 → m1.1 y j = m.1 y j := fun y j a b => (g1 y j (fun z => by unfold sB3 at z; omega)).1
        have G1 : RG m1 s hw := hG.gl g1 (fun y j z => by unfold sB3 at z; omega)
        have V1 : rV φ t0 t1 how m1 s.1 := hV.gl g1 (fun y j z => by unfold sB3 at z; omega)
        obtain ⟨m2, e2, X2, F2⟩ := m224r (κ := κ) (hw := hw) yAr_192 (by omega) (show k < 400 by omega) G1.2.2.1 hk
        have g2 : yG (fun y _ => y = 192) m1 m2 := F2.g (fun _ _ => id)
        have G2 : RG m2 s hw := G1.gl g2 (fun y j z => by have : y = 192 := z; omega)
        have V2 : rV φ t0 t1 how m2 s.1 := V1.gl g2 (fun y j z => by have : y = 192 := z; omega)
        have o2 : ∀ y j, ¬ (y = 178 ∧ j = 1) → y ≠ 179 → y ≠ 192 → m2.1 y j = m.1 y j := fun y j a b c => by rw [F2.2 _ _ c, o1 y j a b]
        have q0 : m2.1 178 7 = t0 := by rw [o2 _ _ (by omega) (by omega) (by omega)]; exact h0
        have q1 : m2.1 178 8 = t1 := by rw [o2 _ _ (by omega) (by omega) (by omega)]; exact h1
        obtain ⟨m3, v, e3, -, F3, G3, p3, hsafe⟩ := mLd (κ := κ) (mv := mv) J ho hcl hk G2 X2 q0 q1 w2 hφ.2 hφ.1
        obtain ⟨t, sl, ht, e5, e6⟩ := hsafe w1
        obtain ⟨e', he', hx', -, -, htl⟩ := edge_t J hk w1 ht
        have g3 : yG sGr m2 m3 := F3.g (fun _ _ => id)
        have p3' : ∀ y j, 200 ≤ y → y ≤ 203 → m3.1 y j = m.1 y j := fun y j a b => by rw [p3 y j a b, o2 _ _ (by omega) (by omega) (by omega)]
        have r201 : m3.1 201 = m.1 201 := funext fun j => p3' _ _ (by omega) (by omega)
        have r202 : m3.1 202 = m.1 202 := funext fun j => p3' _ _ (by omega) (by omega)
        have V3 : rV φ t0 t1 how m3 s.1 := fun k e hk => by rw [r201, r202]; exact hV k e hk
        have Ro3 : rRo m3 ((l ++ [(yN mv).toInt64]).take 10) := (R1.g g2 (fun y j z => by have : y = 192 := z; omega)).g g3 (fun y j z => by unfold sGr sM at z; omega)
        obtain ⟨m4, e4, R4, k4, g4⟩ := ih fu t e' m3 ((l ++ [(yN mv).toInt64]).take 10) (by omega) he' (by rw [hx']; omega) (by rw [List.length_take]; omega) G3 V3 (by rw [r201]; exact v3 mv t w1 ht) (by rw [F3.2 _ _ (by unfold sGr sM; omega)]; exact q0) (by rw [F3.2 _ _ (by unfold sGr sM; omega)]; exact q1) Ro3
        refine ⟨m4, ?_, ?_, by rw [k4, r201], ((((g1.wk (S3 := sGl) (fun y j z => Or.inr z)).tr (g2.wk (S3 := sGl) (fun y j z => by have : y = 192 := z; unfold sGl sGr; omega)) (S3 := sGl) (fun _ _ => orSelf)).tr (g3.wk (S3 := sGl) (fun y j z => Or.inl z)) (S3 := sGl) (fun _ _ => orSelf)).tr g4 (fun _ _ => orSelf))⟩
        · have a202 : pAi (yH κ m2) 202 (yN k) = some (yN mv) := by rw [show pAi (yH κ m2) 202 (yN k) = _ from ya_202 (by omega), o2 _ _ (by omega) (by omega) (by omega), v2']
          rw [f_234_29, if_neg (by rw [yN_lel (by omega) (by omega)]; omega), yi_178_1, yBs, hR.1, e1, yBs, yr_178_27, yBs, yis_178, pG_t, yBs, e2, yBs, yr_178_27, yBs, yr_178_41, yBs, a202, yBs, yis_178, pG_t, yBs, e3, yBs]
          dsimp only
          rw [yr_178_36, yBs, yr_178_27, yBs, yis_178, pG_t, yBs, e5, yBs]
          dsimp only
          rw [e6, yBs, ← Int32.sub_eq_add_neg, show yN (n + 1) - 1 = yN n from yN_subl (by omega)]
          exact e4
        · rw [hx'] at R4
          rw [gPa, hg]
          dsimp only
          have : (l ++ nL (mv :: gPa how φ t0 t1 n (gNx e.1 mv))).take 10 = ((l ++ [(yN mv).toInt64]).take 10 ++ nL (gPa how φ t0 t1 n (gNx e.1 mv))).take 10 := by
            have hc : nL (mv :: gPa how φ t0 t1 n (gNx e.1 mv)) = [(yN mv).toInt64] ++ nL (gPa how φ t0 t1 n (gNx e.1 mv)) := rfl
            rw [hc, ← List.append_assoc]
            by_cases q : l.length = 10
            · have hl1 : (l ++ [(yN mv).toInt64]).take 10 = l := by rw [List.take_append_of_le_length (by omega), List.take_of_length_le (by omega)]
              rw [hl1, List.append_assoc, List.take_append_of_le_length (by omega), List.take_append_of_le_length (by omega)]
            · rw [List.take_of_length_le (show (l ++ [(yN mv).toInt64]).length ≤ 10 by rw [List.length_append]; simp; omega)]
          rw [this]; exact R4
theorem m237 {m : yM} (J : gJ r d s) (hG : RG m s hw) : ∀ (k fu : Nat), k < s.1.length → k < fu → ∃ a, a < s.1.length ∧ f_237_2 fu 178 (yN k) (yH κ m) = some (yN a, yH κ m) ∧ gBy s.1 a = gF1 s.1 k := by
  have hl := J.len
  intro k
  induction k using Nat.strongRecOn with
  | _ k ih =>
    intro fu hk hf
    obtain ⟨fu, rfl⟩ : ∃ k, fu = k + 1 := ⟨fu - 1, by omega⟩
    obtain ⟨e, he⟩ := ge_of hk
    have a196 : pAi (yH κ m) 196 (yN k) = some (e.2.1) := by rw [show pAi (yH κ m) 196 (yN k) = _ from ya_196 (by omega), (hG.2.2.1 k e he).2.2.2.1]
    by_cases q : k = 0
    · subst q
      have : e = (r, -1, -1, 0) := by rw [J.fst] at he; exact (Option.some.inj he).symm
      subst this
      refine ⟨0, hk, by rw [f_237_2, yr_178_33, yBs, a196, yBs, if_pos (by show (-1 : Int32) ≤ 0; decide)], ?_⟩
      unfold gBy gF1
      rw [if_pos rfl, getD_e J.fst]
    · obtain ⟨i, h1, h2, h3, h4, -⟩ := gBack J hk (by omega)
      rw [getD_e he] at h2
      rw [f_237_2, yr_178_33, yBs, a196, yBs, h2]
      by_cases z : i = 0
      · subst z
        refine ⟨k, hk, by rw [if_pos (by decide)], ?_⟩
        unfold gF1
        rw [if_neg q, h4, gFr_0 J, gTh, gTh]; rfl
      · rw [if_neg (by rw [yN_lel (by omega) (by omega)]; omega), yBs, a196, yBs, h2]
        obtain ⟨a, b1, b2, b3⟩ := ih i h1 fu (by omega) (by omega)
        refine ⟨a, b1, b2, ?_⟩
        rw [b3]
        unfold gF1
        have hlen := gTh_len s.1 (gFr s.1 i) i
        have hpos : gFr s.1 i ≠ 0 := fun w => z ((gFr_pos J (show i < s.1.length by omega)).1 w)
        rw [if_neg z, if_neg q, h4, gTh, h3, List.getD, List.getD, List.getElem?_append_left (by omega)]
theorem m238_19 {m : yM} (J : gJ r d s) (hG : RG m s hw) : f_238_19 100000 178 0 1 (yH κ m) = some (yN (gHk s.1 (s.1.length - 1)), yH κ m) := by
  have hl := J.len
  have h1 := ge_lt J.fst
  have nh : ∀ k, k < s.1.length → m.1 195 (54 * k + 48) = yN (gNh s.1 k) ∧ gNh s.1 k ≤ 16 := fun k hk => by
    obtain ⟨e, he⟩ := ge_of hk
    unfold gNh
    rw [getD_e he]
    exact ⟨(hG.2.2.1 k e he).2.1, (J.nod k e he).1.1.1⟩
  have lp : ∀ (D k fu : Nat), k + 1 + D = s.1.length → D < fu → f_238_19 fu 178 (yN (gHk s.1 k)) (yN (k + 1)) (yH κ m) = some (yN (gHk s.1 (s.1.length - 1)), yH κ m) := by
    intro D
    induction D with
    | zero =>
      intro k fu hk hf
      obtain ⟨fu, rfl⟩ : ∃ k, fu = k + 1 := ⟨fu - 1, by omega⟩
      rw [f_238_19, yi_178_37, yBs, hG.1, if_pos (by rw [yN_le (by omega) (by omega)]; omega), show s.1.length - 1 = k by omega]
    | succ D ih =>
      intro k fu hk hf
      obtain ⟨fu, rfl⟩ : ∃ k, fu = k + 1 := ⟨fu - 1, by omega⟩
      have hle := gHk_le s.1 k
      obtain ⟨a1, a2⟩ := nh (k + 1) (by omega)
      obtain ⟨b1, b2⟩ := nh (gHk s.1 k) (by omega)
      have := ih (k + 1) fu (by omega) (by omega)
      rw [gHk] at this
      have c1 : pAi (yH κ m) 195 (54 * yN (k + 1) + 48) = some (yN (gNh s.1 (k + 1))) := by rw [yN_lmul, yN_addl, show pAi (yH κ m) 195 (yN (54 * (k + 1) + 48)) = _ from ya_195 (by omega), a1]
      have c2 : pAi (yH κ m) 195 (54 * yN (gHk s.1 k) + 48) = some (yN (gNh s.1 (gHk s.1 k))) := by rw [yN_lmul, yN_addl, show pAi (yH κ m) 195 (yN (54 * (gHk s.1 k) + 48)) = _ from ya_195 (by omega), b1]
      rw [f_238_19, yi_178_37, yBs, hG.1, if_neg (by rw [yN_le (by omega) (by omega)]; omega), yr_178_32, yBs, c1, yBs, yBs, c2, yBs]
      by_cases q : gNh s.1 (gHk s.1 k) < gNh s.1 (k + 1)
      · rw [if_pos q] at this
        rw [if_neg (by rw [yN_le (by omega) (by omega)]; omega), yBs, yN_addl]; exact this
      · rw [if_neg q] at this
        rw [if_pos (by rw [yN_le (by omega) (by omega)]; omega), yBs, yN_addl]; exact this
  exact lp (s.1.length - 1) 0 100000 (by omega) (by omega)
end GS
