/-! ===== games: towers() and free() in the reference ===== -/
theorem svS_ln {th : Nat → Int32} {n : Nat} {t0 t1 : Int32} : ∀ k, (svS th n t0 t1 k).1 = ((List.range k).filter (tSf th n t0 t1)).length
  | 0 => rfl
  | k + 1 => by
    rw [svS_s, List.range_succ, List.filter_append, List.length_append, ← svS_ln k]
    dsimp only
    cases h : tSf th n t0 t1 k with
    | true => rw [List.filter_cons_of_pos h]; rfl
    | false => rw [List.filter_cons_of_neg (by rw [h]; decide)]; rfl
theorem gSf_t {t0 t1 : Int32} {x : zN} : gSf true t0 t1 x = tSf x.1 x.2 t0 t1 := funext fun m => by unfold gSf; rw [Bool.true_and]
theorem gSf_0 {t0 t1 : Int32} {x : zN} {k : Nat} : (List.range k).filter (gSf false t0 t1 x) = [] := by
  rw [List.filter_eq_nil_iff]
  intro m _
  unfold gSf; simp
theorem gGp_n {b : Nat} : ∀ {L : List gE}, gGp L b = none → ∀ (j : Nat) (e : gE), L[j]? = some e → e.1.1 b ≠ -1
  | [], h, j, e, q => by simp at q
  | y :: r, h, j, e, q => by
    unfold gGp at h
    rw [List.findIdx?_cons] at h
    by_cases z : (y.1.1 b == -1) = true
    · rw [if_pos z] at h; simp at h
    · rw [if_neg z] at h
      have hr : gGp r b = none := by
        unfold gGp
        cases hr : List.findIdx? (fun e : gE => e.1.1 b == -1) r with
        | none => rfl
        | some u => rw [hr] at h; simp at h
      cases j with
      | zero => simp at q; subst q; simpa using z
      | succ j => exact gGp_n hr j e (by simpa using q)
theorem gGp_s {b : Nat} : ∀ {L : List gE} {t : Nat}, gGp L b = some t → (∃ e : gE, L[t]? = some e ∧ e.1.1 b = -1) ∧ ∀ (j : Nat) (e : gE), j < t → L[j]? = some e → e.1.1 b ≠ -1
  | [], t, h => by simp [gGp] at h
  | y :: r, t, h => by
    unfold gGp at h
    rw [List.findIdx?_cons] at h
    by_cases q : (y.1.1 b == -1) = true
    · rw [if_pos q] at h
      simp at h
      subst h
      exact ⟨⟨y, rfl, by simpa using q⟩, fun j e hj => by omega⟩
    · rw [if_neg q] at h
      cases hr : List.findIdx? (fun e : gE => e.1.1 b == -1) r with
      | none => rw [hr] at h; simp at h
      | some u =>
        rw [hr] at h
        simp at h
        subst h
        obtain ⟨a, c⟩ := gGp_s (L := r) hr
        refine ⟨a, fun j e hj he => ?_⟩
        cases j with
        | zero => simp at he; subst he; simpa using q
        | succ j => exact c j e (by omega) (by simpa using he)
theorem gGp_ap {b t : Nat} {L T : List gE} (h : gGp L b = some t) : gGp (L ++ T) b = some t := by
  unfold gGp at h ⊢
  rw [List.findIdx?_append, h]; rfl
theorem getD_ap {L T : List gE} {k : Nat} (h : k < L.length) : (L ++ T).getD k g0E = L.getD k g0E := by
  rw [List.getD, List.getD, List.getElem?_append_left h]
theorem gTh_ap {r : zN} {d : Nat} {s : gS} {T : List gE} (J : gJ r d s) : ∀ (n k : Nat), k < s.1.length → gFr s.1 k = n → gTh (s.1 ++ T) n k = gTh s.1 n k
  | 0, k, _, _ => rfl
  | n + 1, k, hk, hn => by
    have hpos : 0 < k := by
      rcases Nat.eq_zero_or_pos k with q | q
      · subst q; rw [gFr_0 J] at hn; omega
      · exact q
    obtain ⟨i, h1, h2, h3, h4, -⟩ := gBack J hk hpos
    have e1 : gPr (s.1 ++ T) k = gPr s.1 k := by unfold gPr; rw [getD_ap hk]
    have e2 : gBy (s.1 ++ T) k = gBy s.1 k := by unfold gBy; rw [getD_ap hk]
    rw [gTh, gTh, e1, e2, h3, gTh_ap J n i (by omega) (by omega)]
section GT
variable {κ : yK} {r : zN} {t0 t1 : Int32} {φ : Bool} {s : gS} {d : Nat} {hw : Int32}
theorem m239_19 {m : yM} (J : gJ r d s) (ho : hwO φ hw) (hG : RG m s hw) (h0 : m.1 178 7 = t0) (h1 : m.1 178 8 = t1) : ∃ m', f_239_19 100000 178 0 0 (yH κ m) = some (yN (gNo φ t0 t1 s.1 s.1.length), yH κ m') ∧ RG m' s hw ∧ yFr sGr m m' := by
  have hl := J.len
  have lp : ∀ (D k fu : Nat) (m : yM), k + D = s.1.length → D < fu → RG m s hw → m.1 178 7 = t0 → m.1 178 8 = t1 → ∃ m', f_239_19 fu 178 (yN (gNo φ t0 t1 s.1 k)) (yN k) (yH κ m) = some (yN (gNo φ t0 t1 s.1 s.1.length), yH κ m') ∧ RG m' s hw ∧ yFr sGr m m' := by
    intro D
    induction D with
    | zero =>
      intro k fu m hk hf hG h0 h1
      obtain ⟨fu, rfl⟩ : ∃ k, fu = k + 1 := ⟨fu - 1, by omega⟩
      exact ⟨m, by rw [f_239_19, yi_178_37, yBs, hG.1, if_pos (by rw [yN_le (by omega) (by omega)]; omega), show s.1.length = k by omega], hG, yFr.rf m⟩
    | succ D ih =>
      intro k fu m hk hf hG h0 h1
      obtain ⟨fu, rfl⟩ : ∃ k, fu = k + 1 := ⟨fu - 1, by omega⟩
      obtain ⟨e, he⟩ := ge_of (show k < s.1.length by omega)
      have o := (J.nod k e he).1
      obtain ⟨m1, e1, X1, F1⟩ := m224r (κ := κ) (hw := hw) yAr_200 (by omega) (show k < 400 by omega) hG.2.2.1 he
      have o1 : ∀ y j, y ≠ 200 → m1.1 y j = m.1 y j := fun y j z => F1.2 y j z
      have q0 : m1.1 178 7 = t0 := by rw [o1 _ _ (by omega)]; exact h0
      have q1 : m1.1 178 8 = t1 := by rw [o1 _ _ (by omega)]; exact h1
      have key : ∃ m2, f_213 178 200 (yH κ m1) = some (yN ((List.range 480).filter (gSf φ t0 t1 e.1)).length, yH κ m2) ∧ yFr sI m1 m2 := by
        cases hφ : φ with
        | true =>
          obtain ⟨m2, a, b⟩ := m213 (κ := κ) (s := 200) (t0 := t0) (t1 := t1) (by unfold rS4; omega) o.1 (Or.inl ⟨by rw [X1.2.2]; exact ho.1 hφ, X1.tor⟩) q0 q1
          exact ⟨m2, by rw [gSf_t, ← svS_ln]; exact a, b⟩
        | false =>
          obtain ⟨m2, a, b⟩ := m213 (κ := κ) (s := 200) (t0 := t0) (t1 := t1) (th := zB0) (n := 0) (by unfold rS4; omega) zB0_ok (Or.inr ⟨by rw [X1.2.2]; exact ho.2 hφ, rfl, rfl⟩) q0 q1
          refine ⟨m2, ?_, b⟩
          have hz : (List.range 480).filter (tSf zB0 0 t0 t1) = [] := by
            rw [List.filter_eq_nil_iff]
            intro mv _ hz
            have := tSf_cg hz
            rw [tCg_b0] at this; simp at this
          rw [gSf_0]
          rw [svS_ln, hz] at a
          exact a
      obtain ⟨m2, e2, F2⟩ := key
      have G2 : yFr sGr m m2 := (F1.wk (S3 := sGr) (fun y j z => by have : y = 200 := z; unfold sGr; omega)).tr (F2.wk (S3 := sGr) (fun y j z => by unfold sI sM at z; unfold sGr sM; omega)) (fun _ _ => orSelf)
      have R2 : RG m2 s hw := hG.c (fun y j z => by rw [F2.2 _ _ (by unfold sI sM; omega), o1 _ _ (by omega)])
      obtain ⟨m3, e3, R3, F3⟩ := ih (k + 1) fu m2 (by omega) (by omega) R2 (by rw [G2.2 _ _ (by unfold sGr sM; omega)]; exact h0) (by rw [G2.2 _ _ (by unfold sGr sM; omega)]; exact h1)
      refine ⟨m3, ?_, R3, G2.tr F3 (fun _ _ => orSelf)⟩
      rw [gNo, getD_e he] at e3
      have hle : ((List.range 480).filter (gSf φ t0 t1 e.1)).length ≤ 480 := by
        have := List.length_filter_le (gSf φ t0 t1 e.1) (List.range 480)
        rwa [List.length_range] at this
      rw [f_239_19, yi_178_37, yBs, hG.1, if_neg (by rw [yN_le (by omega) (by omega)]; omega), yr_178_39, yBs, yis_178, pG_t, yBs, e1, yBs, yr_178_39, yBs, yis_178, pG_t, yBs, e2, yBs]
      dsimp only
      by_cases q : (List.range 480).filter (gSf φ t0 t1 e.1) = []
      · rw [if_pos q] at e3
        rw [q, if_pos (by rfl), yBs, s163_1, yBs]
        dsimp only
        rw [yN_addl, yN_addl]; exact e3
      · rw [if_neg q] at e3
        rw [if_neg (by rw [yN_eql (by omega) (by omega)]; intro z; exact q (List.length_eq_zero_iff.1 z)), yBs, s163_0, yBs]
        dsimp only
        rw [show yN (gNo φ t0 t1 s.1 k) + 0 = yN (gNo φ t0 t1 s.1 k + 0) from yN_addl, yN_addl]; exact e3
  exact lp s.1.length 0 100000 m (by omega) (by omega) hG h0 h1
/-- the way to a tower found -/
theorem m241 {m : yM} {k : Nat} (J : gJ r d s) (hG : RG m s hw) (hk : k < s.1.length) : ∃ m', f_241 178 (yN k) (yH κ m) = some (yN (gFr s.1 k), yH κ m') ∧ rRo m' (iL ((gTh s.1 (gFr s.1 k) k).take 10)) ∧ yG sGl m m' := by
  have hl := J.len
  have ar : ∀ j, j < s.1.length → m.1 196 j = (s.1.getD j g0E).2.1 ∧ m.1 197 j = gBy s.1 j ∧ m.1 198 j = yN (gFr s.1 j) := fun j hj => by
    obtain ⟨e, he⟩ := ge_of hj
    obtain ⟨-, -, -, a, b, c⟩ := hG.2.2.1 j e he
    unfold gBy gFr
    rw [getD_e he]; exact ⟨a, b, c⟩
  have lp : ∀ (n fu at' : Nat) (a2 : Int32) (m' : yM), n < fu → at' < s.1.length → gFr s.1 at' = n → (∀ y, y ≠ 203 → m'.1 y = m.1 y) → ∃ m2, f_241_14 fu 178 a2 (yN at') (yN n - 1) (yH κ m') = some (yH κ m2) ∧ (∀ j, j < n → m2.1 203 j = (gTh s.1 n at').getD j 0) ∧ (∀ j, n ≤ j → m2.1 203 j = m'.1 203 j) ∧ yFr (fun y _ => y = 203) m' m2 := by
    intro n
    induction n with
    | zero =>
      intro fu at' a2 m' hf ha hfr ho
      obtain ⟨fu, rfl⟩ : ∃ k, fu = k + 1 := ⟨fu - 1, by omega⟩
      exact ⟨m', by rw [f_241_14, if_pos (by decide)], fun j hj => by omega, fun _ _ => rfl, yFr.rf _⟩
    | succ n ih =>
      intro fu at' a2 m' hf ha hfr ho
      obtain ⟨fu, rfl⟩ : ∃ k, fu = k + 1 := ⟨fu - 1, by omega⟩
      have h48 := gFr_le J ha
      have hpos : 0 < at' := by
        rcases Nat.eq_zero_or_pos at' with q | q
        · subst q; rw [gFr_0 J] at hfr; omega
        · exact q
      obtain ⟨i, h1, h2, h3, h4, -⟩ := gBack J ha hpos
      obtain ⟨r1, r2, -⟩ := ar at' ha
      obtain ⟨m2, a, b, c, dd⟩ := ih fu i a2 (yW m' 203 n (gBy s.1 at')) (by omega) (by omega) (by omega) (fun y q => by rw [yW_row q]; exact ho y q)
      refine ⟨m2, ?_, fun j hj => ?_, fun j hj => ?_, (yFr.w (S := fun y _ => y = 203) m' rfl).tr dd (fun _ _ => orSelf)⟩
      · rw [show yN (n + 1) - 1 = yN n from yN_subl (by omega), f_241_14, if_neg (by rw [yN_ltl (by omega) (by omega)]; omega), yr_178_42, yBs, yr_178_34, yBs, show pAi (yH κ m') 197 (yN at') = _ from ya_197 (by omega), yBs, ho 197 (by omega), r2, yst_203 (by omega), yBs, yr_178_33, yBs, show pAi (yH κ (yW m' 203 n (gBy s.1 at'))) 196 (yN at') = _ from ya_196 (by omega), yBs, yW_row (by omega), ho 196 (by omega), r1, h2, ← Int32.sub_eq_add_neg]
        exact a
      · rw [gTh, h3]
        have hlen := gTh_len s.1 n i
        rcases Nat.lt_or_ge j n with q | q
        · rw [b j q, List.getD, List.getD, List.getElem?_append_left (by omega)]
        · obtain rfl : j = n := by omega
          rw [c j (Nat.le_refl _), yW_self, upd_eq, List.getD, List.getElem?_append_right (by omega), hlen, Nat.sub_self]; rfl
      · rw [c j (by omega), yW_get, if_neg (by omega)]
  have h48 := gFr_le J hk
  obtain ⟨m1, e1, h1, -, F1⟩ := lp (gFr s.1 k) 100000 k (yN (gFr s.1 k)) m (by omega) hk rfl (fun _ _ => rfl)
  have hlen := gTh_len s.1 (gFr s.1 k) k
  generalize hT : gTh s.1 (gFr s.1 k) k = P at *
  have l2 : ∀ (D n fu : Nat), n + D = 10 → D < fu → n ≤ gFr s.1 k → f_241_53 fu 178 (yN (gFr s.1 k)) (yN n) (yH κ (rBs m1 (iL (P.take n)))) = some (yH κ (rBs m1 (iL (P.take 10)))) := by
    intro D
    induction D with
    | zero =>
      intro n fu hn hf hle
      obtain ⟨fu, rfl⟩ : ∃ k, fu = k + 1 := ⟨fu - 1, by omega⟩
      obtain rfl : n = 10 := by omega
      rw [f_241_53]
      by_cases q : yN (gFr s.1 k) ≤ yN 10
      · rw [if_pos q]
      · rw [if_neg q, if_pos (by decide)]
    | succ D ih =>
      intro n fu hn hf hle
      obtain ⟨fu, rfl⟩ : ∃ k, fu = k + 1 := ⟨fu - 1, by omega⟩
      rw [f_241_53]
      by_cases q : gFr s.1 k ≤ n
      · rw [if_pos (by rw [yN_le (by omega) (by omega)]; exact q), List.take_of_length_le (by omega), List.take_of_length_le (by omega)]
      · have hP : P[n]? = some (P.getD n 0) := by rw [List.getD, List.getElem?_eq_getElem (show n < P.length by omega)]; rfl
        rw [if_neg (by rw [yN_le (by omega) (by omega)]; exact q), if_neg (by rw [yN_lle (by omega) (by omega)]; show ¬ 10 ≤ n; omega), yr_178_42, yBs, show pAi (yH κ (rBs m1 (iL (P.take n)))) 203 (yN n) = _ from ya_203 (by omega), yBs, rBs_row (by omega), h1 n (by omega), yis_178, pG_t, yBs, s165 (by unfold iL; rw [List.length_map, List.length_take]; omega), yBs, yN_addl]
        have := ih (n + 1) fu (by omega) (by omega) (by omega)
        rw [show iL (P.take n) ++ [(P.getD n 0).toInt64] = iL (P.take (n + 1)) by rw [List.take_add_one, hP]; unfold iL; rw [List.map_append]; rfl]
        exact this
  refine ⟨rBs m1 (iL (P.take 10)), ?_, rBs_r _ _, (F1.g (S3 := sGl) (fun y j z => by have : y = 203 := z; unfold sGl sGr; omega)).tr ((rBs_g m1 _).wk (S3 := sGl) (fun y j z => Or.inr z)) (fun _ _ => orSelf)⟩
  unfold f_241
  rw [yr_178_35, yBs, show pAi (yH κ m) 198 (yN k) = _ from ya_198 (by omega), yBs, (ar k hk).2.2, e1, yBs, yp_178_1, yBs, rBs_0, show f_241_53 100000 178 (yN (gFr s.1 k)) 0 (yH κ (rBs m1 [])) = _ from l2 10 0 100000 (by omega) (by omega) (Nat.zero_le _), yBs]
theorem m240_48 {m : yM} {b : Nat} {a3 : Int32} (J : gJ r d s) (hG : RG m s hw) (hb : b < 48) : ∀ (D n fu : Nat), n + D = s.1.length → D < fu → (gGp s.1 b = none → f_240_48 fu 178 (yN b) (yN n) a3 (yH κ m) = some (.inl (yN s.1.length, yH κ m))) ∧ (∀ j R, gGp s.1 b = some j → n ≤ j → f_241 178 (yN j) (yH κ m) = some R → f_240_48 fu 178 (yN b) (yN n) a3 (yH κ m) = some (.inr R)) := by
  have hl := J.len
  intro D
  induction D with
  | zero =>
    intro n fu hn hf
    obtain ⟨fu, rfl⟩ : ∃ k, fu = k + 1 := ⟨fu - 1, by omega⟩
    obtain rfl : n = s.1.length := by omega
    refine ⟨fun _ => by rw [f_240_48, yi_178_37, yBs, hG.1, if_pos (by rw [yN_le (by omega) (by omega)]; omega)], fun j R hj hle => ?_⟩
    obtain ⟨⟨e, he, -⟩, -⟩ := gGp_s hj
    have := ge_lt he
    omega
  | succ D ih =>
    intro n fu hn hf
    obtain ⟨fu, rfl⟩ : ∃ k, fu = k + 1 := ⟨fu - 1, by omega⟩
    obtain ⟨e, he⟩ := ge_of (show n < s.1.length by omega)
    obtain ⟨i1, i2⟩ := ih (n + 1) fu (by omega) (by omega)
    have ov := (J.nod n e he).1.v b hb
    have hr := (J.nod n e he).1.1.2.1
    have hx : pAi (yH κ m) 195 (54 * yN n + yN b) = some (e.1.1 b) := by rw [yN_lmul, yN_add, show pAi (yH κ m) 195 (yN (54 * n + b)) = _ from ya_195 (by omega), (hG.2.2.1 n e he).1 b hb]
    have st : e.1.1 b ≠ -1 → f_240_48 (fu + 1) 178 (yN b) (yN n) a3 (yH κ m) = f_240_48 fu 178 (yN b) (yN (n + 1)) a3 (yH κ m) := fun z => by
      rw [f_240_48, yi_178_37, yBs, hG.1, if_neg (by rw [yN_le (by omega) (by omega)]; omega), yr_178_32, yBs, hx, yBs, if_pos (by rw [tRg_ge hr hb]; exact z), yN_addl]
    refine ⟨fun hg => by rw [st (gGp_n hg n e he)]; exact i1 hg, fun j R hj hle hR => ?_⟩
    obtain ⟨⟨e', he', hz⟩, hmin⟩ := gGp_s hj
    by_cases q : n = j
    · subst q
      have : e' = e := by rw [he] at he'; exact (Option.some.inj he').symm
      subst this
      rw [f_240_48, yi_178_37, yBs, hG.1, if_neg (by rw [yN_le (by omega) (by omega)]; omega), yr_178_32, yBs, hx, yBs, if_neg (by rw [hz]; decide), yis_178, pG_t, yBs, hR, yBs]
    · rw [st (hmin n e (by omega) he)]
      exact i2 j R hj (by omega) hR
theorem m240_40 {b : Nat} (hr : nOk r) (ho : hwO φ hw) (hb : b < 48) : ∀ (D k fu n : Nat) (m : yM), k + D = 400 → D < fu → RG m (gAk φ t0 t1 r k) hw → m.1 178 7 = t0 → m.1 178 8 = t1 → k ≤ n → n ≤ (gAk φ t0 t1 r k).1.length → (∀ (j : Nat) (e : gE), j < n → (gAk φ t0 t1 r k).1[j]? = some e → e.1.1 b ≠ -1) →
    ∃ m', yG sGl m m' ∧ ((gGp (gAk φ t0 t1 r 400).1 b = none ∧ f_240_40 fu 178 (yN b) (yN n) (yN k) (yH κ m) = some (.inl (yH κ m')) ∧ m'.1 178 38 = yB (gAk φ t0 t1 r 400).2 ∧ yG sGr m m') ∨ ∃ j, gGp (gAk φ t0 t1 r 400).1 b = some j ∧ f_240_40 fu 178 (yN b) (yN n) (yN k) (yH κ m) = some (.inr (yN (gFr (gAk φ t0 t1 r 400).1 j), yH κ m')) ∧ rRo m' (iL ((gTh (gAk φ t0 t1 r 400).1 (gFr (gAk φ t0 t1 r 400).1 j) j).take 10))) := by
  intro D
  induction D with
  | zero =>
    intro k fu n m hk hf hG h0 h1 hkn hnl hno
    obtain ⟨fu, rfl⟩ : ∃ k, fu = k + 1 := ⟨fu - 1, by omega⟩
    obtain rfl : k = 400 := by omega
    obtain ⟨d, J⟩ := (gAk_ok (φ := φ) (t0 := t0) (t1 := t1) hr 400).j
    have hl := J.len
    refine ⟨m, yG.rf m, Or.inl ⟨?_, by rw [f_240_40, yi_178_37, yBs, hG.1, if_pos (by rw [yN_le (by omega) (by omega)]; omega)], hG.2.1, yG.rf m⟩⟩
    cases hg : gGp (gAk φ t0 t1 r 400).1 b with
    | none => rfl
    | some j =>
      obtain ⟨⟨e, he, hz⟩, -⟩ := gGp_s hg
      exact absurd hz (hno j e (by have := ge_lt he; omega) he)
  | succ D ih =>
    intro k fu n m hk hf hG h0 h1 hkn hnl hno
    obtain ⟨fu, rfl⟩ : ∃ k, fu = k + 1 := ⟨fu - 1, by omega⟩
    obtain ⟨d, J⟩ := (gAk_ok (φ := φ) (t0 := t0) (t1 := t1) hr k).j
    have hl := J.len
    rw [f_240_40, yi_178_37, yBs, hG.1]
    by_cases hkl : (gAk φ t0 t1 r k).1.length ≤ k
    · have hend : gAk φ t0 t1 r 400 = gAk φ t0 t1 r k := by
        have := gAk_end (Or.inl hkl) (D + 1)
        rwa [hk] at this
      rw [if_pos (by rw [yN_le (by omega) (by omega)]; exact hkl), hend]
      refine ⟨m, yG.rf m, Or.inl ⟨?_, rfl, hG.2.1, yG.rf m⟩⟩
      cases hg : gGp (gAk φ t0 t1 r k).1 b with
      | none => rfl
      | some j =>
        obtain ⟨⟨e, he, hz⟩, -⟩ := gGp_s hg
        exact absurd hz (hno j e (by have := ge_lt he; omega) he)
    · rw [if_neg (by rw [yN_le (by omega) (by omega)]; exact hkl)]
      obtain ⟨s1, s2⟩ := m240_48 (κ := κ) (a3 := yN k) J hG hb ((gAk φ t0 t1 r k).1.length - n) n 100000 (by omega) (by omega)
      cases hg : gGp (gAk φ t0 t1 r k).1 b with
      | some j =>
        obtain ⟨⟨e, he, hz⟩, -⟩ := gGp_s hg
        have hj := ge_lt he
        obtain ⟨m', e', R', g'⟩ := m241 (κ := κ) J hG hj
        have hnj : n ≤ j := by
          rcases Nat.lt_or_ge j n with q | q
          · exact absurd hz (hno j e q he)
          · exact q
        obtain ⟨T, hT⟩ := gAk_pre' (φ := φ) (t0 := t0) (t1 := t1) hr k (D + 1)
        rw [hk] at hT
        have f1 : gFr (gAk φ t0 t1 r 400).1 j = gFr (gAk φ t0 t1 r k).1 j := by unfold gFr; rw [hT, getD_ap hj]
        have f2 : gTh (gAk φ t0 t1 r 400).1 (gFr (gAk φ t0 t1 r k).1 j) j = gTh (gAk φ t0 t1 r k).1 (gFr (gAk φ t0 t1 r k).1 j) j := by rw [hT]; exact gTh_ap J _ j hj rfl
        refine ⟨m', g', Or.inr ⟨j, by rw [hT]; exact gGp_ap hg, ?_, by rw [f1, f2]; exact R'⟩⟩
        rw [s2 j _ hg hnj e', yBs, f1]
      | none =>
        rw [s1 hg, yBs]
        dsimp only
        rw [yi_178_38, yBs, hG.2.1]
        have no' : ∀ (j : Nat) (e : gE), (gAk φ t0 t1 r k).1[j]? = some e → e.1.1 b ≠ -1 := gGp_n hg
        cases hf2 : (gAk φ t0 t1 r k).2 with
        | true =>
          have hst : gAk φ t0 t1 r (k + 1) = gAk φ t0 t1 r k := gAk_end (Or.inr hf2) 1
          rw [yB_t, if_neg (show ¬ ((1 : Int32) = 0) by decide), yBs, yN_addl]
          exact ih (k + 1) fu (gAk φ t0 t1 r k).1.length m (by omega) (by omega) (by rw [hst]; exact hG) h0 h1 (by omega) (by rw [hst]; exact Nat.le_refl _) (fun j e _ he => by rw [hst] at he; exact no' j e he)
        | false =>
          obtain ⟨m1, e1, R1, F1⟩ := m229 (κ := κ) hr ho (by omega) hf2 hG h0 h1
          obtain ⟨T, hT⟩ := gAk_pre (φ := φ) (t0 := t0) (t1 := t1) k hr
          rw [yB_f, if_pos rfl, yis_178, pG_t, yBs, e1, yBs, yBs, yN_addl]
          obtain ⟨m2, g2, hc⟩ := ih (k + 1) fu (gAk φ t0 t1 r k).1.length m1 (by omega) (by omega) R1 (by rw [F1.2 _ _ (by unfold sGr sM; omega)]; exact h0) (by rw [F1.2 _ _ (by unfold sGr sM; omega)]; exact h1) (by omega) (by rw [hT, List.length_append]; omega) (fun j e hj he => by
            rw [hT, List.getElem?_append_left hj] at he
            exact no' j e he)
          refine ⟨m2, (F1.g (S3 := sGl) (fun y j z => Or.inl z)).tr g2 (fun _ _ => orSelf), ?_⟩
          rcases hc with ⟨c1, c2, c3, c4⟩ | hc
          · exact Or.inl ⟨c1, c2, c3, (F1.g (S3 := sGr) (fun _ _ => id)).tr c4 (fun _ _ => orSelf)⟩
          · exact Or.inr hc
end GT
