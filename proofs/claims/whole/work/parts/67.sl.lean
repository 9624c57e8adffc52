/-! ===== the reference: laysRows(), tightIn() ===== -/
def qK (t : qT) : Int32 := yN (100 * (t.1 - 1) + 10 * (t.2.1 - 1) + (t.2.2 - 1))
/-- what the reference holds of the rows found so far -/
def Sr (m : yM) (L : List qT) : Prop := m.1 178 50 = yN L.length ∧ ∀ j t, L[j]? = some t → m.1 209 j = qK t
def sQr (x j : Nat) : Prop := (x = 178 ∧ j = 50) ∨ x = 181 ∨ x = 209
theorem qG_rng {th : Nat → Int32} {F : zF} (oF : okF F) {l : Nat} (hl : l < 16) {x y z : Nat} (h0 : qL th F (3 * l) ≤ x ∧ x ≤ qH th F (3 * l)) (h1 : qL th F (3 * l + 1) ≤ y ∧ y ≤ qH th F (3 * l + 1)) (h2 : qL th F (3 * l + 2) ≤ z ∧ z ≤ qH th F (3 * l + 2)) : qG th l (x, y, z) := by
  have a0 := qLH (th := th) oF (b := 3 * l) (by omega)
  have a1 := qLH (th := th) oF (b := 3 * l + 1) (by omega)
  have a2 := qLH (th := th) oF (b := 3 * l + 2) (by omega)
  have key : ∀ (b v : Nat), qL th F b ≤ v ∧ v ≤ qH th F b → (qL th F b ≤ qH th F b ∧ qH th F b ≤ 10 ∧ qL th F b + qD th F b = qH th F b + 1 ∧ qD th F b ≤ 10 ∧ (tHas th b = true → 1 ≤ qL th F b) ∧ (tHas th b = false → qH th F b = 0)) → v ≤ 10 ∧ (v = 0 ↔ tHas th b = false) := by
    intro b v p r
    refine ⟨by omega, fun e => ?_, fun e => by have := r.2.2.2.2.2 e; omega⟩
    cases hb : tHas th b with
    | true => have := r.2.2.2.2.1 hb; omega
    | false => rfl
  intro i hi
  unfold qI
  by_cases i0 : i = 0
  · subst i0; rw [if_pos rfl]; exact key _ _ h0 a0
  · rw [if_neg i0]
    by_cases i1 : i = 1
    · subst i1; rw [if_pos rfl]; exact key _ _ h1 a1
    · rw [if_neg i1]
      obtain rfl : i = 2 := by omega
      exact key _ _ h2 a2
section SL
variable {κ : yK} {th : Nat → Int32} {F : zF} {l n : Nat}
theorem tHas_ge {b : Nat} (hr : tRg th) (hb : b < 48) : (0 ≤ th b) = (tHas th b = true) := by
  rw [tRg_ge hr hb]; unfold tHas; simp [hb]
theorem tHas_lz {b : Nat} (hr : tRg th) (hb : b < 48) : (th b < 0) = (tHas th b = false) := by
  rw [tRg_lt hr hb]; unfold tHas; simp [hb]
theorem m251 {m : yM} {b : Nat} (hb : b < 48) (ht : Tor m 180 th n) (hr : tRg th) (hT : rTo m F) (oF : okF F) : f_251 178 (yN b) (yH κ m) = some (tEn (qL th F b), yH κ m) := by
  have h9 := oF.2.2 b hb
  have t1 := tEn_su ⟨F.2.2.2.1 b, by omega⟩
  dsimp only at t1
  unfold f_251 qL
  simp (disch := first | assumption | omega) only [yr_178_3, yr_a yAr_180, yBs, ht.1 b hb, tHas_ge hr hb, yr_178_47, ya_207, (hT.2.2 b hb).1]
  cases tHas th b with
  | true => rw [if_pos rfl, if_pos rfl, yBs, t1]
  | false => rw [if_neg (by decide), if_neg (by decide), yBs]; rfl
theorem m252 {m : yM} {b : Nat} (hb : b < 48) (ht : Tor m 180 th n) (hr : tRg th) (hT : rTo m F) (oF : okF F) : f_252 178 (yN b) (yH κ m) = some (tEn (qH th F b), yH κ m) := by
  have h9 := oF.2.2 b hb
  have t1 := tEn_su ⟨F.2.2.2.2 b, by omega⟩
  dsimp only at t1
  unfold f_252 qH
  simp (disch := first | assumption | omega) only [yr_178_3, yr_a yAr_180, yBs, ht.1 b hb, tHas_ge hr hb, yr_178_48, ya_208, (hT.2.2 b hb).2]
  cases tHas th b with
  | true => rw [if_pos rfl, if_pos rfl, yBs, t1]
  | false => rw [if_neg (by decide), if_neg (by decide), yBs]; rfl
theorem m249_12 {t : qT} {m : yM} (oF : okF F) (hl : l < 16) (hg : qG th l t) (h8 : qB t < 8) (h3 : ∀ i, i < 3 → m.1 181 (3 * l + i) = tEn (qI t i)) (hT : rTo m F) : ∀ (d j fu : Nat), j + d = F.1 → d < fu → f_249_12 fu 178 181 (yN l) (yN (qB t)) (yB (qFo th F l (qB t) j)) (yN j) (yH κ m) = some (yB (qFo th F l (qB t) F.1), yH κ m) := by
  have h20 := oF.1
  intro d
  induction d with
  | zero =>
    intro j fu hj hf
    obtain ⟨fu, rfl⟩ : ∃ k, fu = k + 1 := ⟨fu - 1, by omega⟩
    obtain rfl : j = F.1 := by omega
    rw [f_249_12, yi_178_44, yBs, hT.1, if_pos (by rw [yN_le (by omega) (by omega)]; omega)]
  | succ d ih =>
    intro j fu hj hf
    obtain ⟨fu, rfl⟩ : ∃ k, fu = k + 1 := ⟨fu - 1, by omega⟩
    have e := ih (j + 1) fu (by omega) (by omega)
    rw [f_249_12, yi_178_44, yBs, hT.1, if_neg (by rw [yN_le (by omega) (by omega)]; omega)]
    cases hq : qFo th F l (qB t) j with
    | false => rw [yB_f, if_pos rfl, qFo_mono th F l hq F.1 (by omega)]; rfl
    | true =>
      obtain ⟨b1, b2⟩ := hT.2.1 j (by omega)
      have hb := oF.2.1 j (by omega)
      rw [qFo, hq, Bool.true_and] at e
      unfold qCd at e
      have eb := (q8b ⟨_, h8⟩ 0 ⟨F.2.1 j % 3, Nat.mod_lt _ (by omega)⟩).2.2.2.2
      dsimp only at eb
      have ey : ∀ a b : Bool, (yB a = yB b) = (a = b) := fun a b => by cases a <;> cases b <;> simp [yB]
      rw [yB_t, if_neg (by decide)]
      simp (disch := first | assumption | omega) only [yr_178_45, yBs, ya_205, b1, yp_div, yN_eq]
      by_cases c1 : F.2.1 j / 3 = l
      · have hi : F.2.1 j % 3 < 3 := Nat.mod_lt _ (by omega)
        have hbb : 3 * l + F.2.1 j % 3 = F.2.1 j := by omega
        have h3' := h3 _ hi
        have hg' := hg _ hi
        rw [hbb] at h3' hg'
        have tn := tEn_ng ⟨qI t (F.2.1 j % 3), by omega⟩
        dsimp only at tn
        rw [if_pos c1]
        simp (disch := first | assumption | omega) only [yr_a yAr_181, yBs, h3', yp_rem, yr_178_46, ya_206, b2, eb, ey, yN_addl]
        cases c3 : tHas th (F.2.1 j) with
        | false =>
          rw [if_pos (tn.2 (hg'.2.2 c3)), yBs]
          rw [c3] at e; simp only [Bool.and_false, Bool.not_false, Bool.true_or] at e
          exact e
        | true =>
          rw [if_neg (fun q => by have := hg'.2.1 (tn.1 q); rw [c3] at this; exact absurd this (by decide))]
          rw [c3, decide_eq_true c1] at e; simp only [Bool.and_true, Bool.not_true, Bool.false_or] at e
          by_cases c4 : (qB t).testBit (F.2.1 j % 3) = F.2.2.1 j
          · rw [if_pos c4, yBs]
            rw [c4, beq_self_eq_true] at e; exact e
          · rw [if_neg c4, yBs]
            rw [beq_eq_false_iff_ne.2 c4] at e; exact e
      · rw [if_neg c1, yBs, yN_addl]
        rw [decide_eq_false c1] at e; simp only [Bool.false_and, Bool.not_false, Bool.true_or] at e
        exact e
theorem m185q {t : qT} {m : yM} (hl : l < 16) (hg : qG th l t) (h0 : 0 < tBl th l) (h3 : ∀ i, i < 3 → m.1 181 (3 * l + i) = tEn (qI t i)) : f_185 181 (yN l) (yH κ m) = some (yN (qB t), yH κ m) := by
  rw [s185r yAr_181 hl]
  have a0 := h3 0 (by omega); have a1 := h3 1 (by omega); have a2 := h3 2 (by omega)
  rw [Nat.add_zero] at a0
  rw [a0, a1, a2]
  have := (qBt_ok (hg 0 (by omega)).1 (hg 1 (by omega)).1 (hg 2 (by omega)).1 (qG_pos hg h0)).2.2
  congr 2
theorem m249 {t : qT} {m : yM} (oF : okF F) (hl : l < 16) (hg : qG th l t) (h0 : 0 < tBl th l) (h3 : ∀ i, i < 3 → m.1 181 (3 * l + i) = tEn (qI t i)) (hT : rTo m F) : f_249 178 181 (yN l) (yH κ m) = some (yB (qFo th F l (qB t) F.1), yH κ m) := by
  have h8 : qB t < 8 := (qBt_ok (hg 0 (by omega)).1 (hg 1 (by omega)).1 (hg 2 (by omega)).1 (qG_pos hg h0)).1
  unfold f_249
  rw [m185q hl hg h0 h3, yBs]
  dsimp only
  have := m249_12 (κ := κ) oF hl hg h8 h3 hT F.1 0 100000 (by omega) (by have := oF.1; omega)
  rw [qFo, yB_t] at this
  rw [show (0 : Int32) = yN 0 from rfl, this, yBs]
  dsimp only
  rw [pZ_B]
theorem m250_65 {x y : Nat} (oF : okF F) (hl : l < 16) (hr : tRg th) (h0 : 0 < tBl th l) : ∀ (d z fu : Nat) (m : yM) (L : List qT), z + d = qH th F (3 * l + 2) + 1 → d < fu → L.length + d ≤ 1000 → (∀ z', z ≤ z' → z' ≤ qH th F (3 * l + 2) → qG th l (x, y, z')) → Tor m 180 th n → rTo m F → Sr m L →
    ∃ m', f_250_65 fu 178 (yN l) (yN (3 * l)) (tEn x) (tEn y) (tEn z) (yH κ m) = some (yH κ m') ∧ Sr m' (L ++ q3 (fun b => qFo th F l b F.1) x y d z) ∧ yFr sQr m m' := by
  have hZ := (qLH (th := th) oF (b := 3 * l + 2) (by omega)).2.1
  intro d
  induction d with
  | zero =>
    intro z fu m L hz hf hL hg hR hT hS
    obtain ⟨fu, rfl⟩ : ∃ k, fu = k + 1 := ⟨fu - 1, by omega⟩
    have t1 := tEn_lt ⟨qH th F (3 * l + 2), by omega⟩ ⟨z, by omega⟩
    refine ⟨m, ?_, by rw [q3, List.append_nil]; exact hS, yFr.rf m⟩
    rw [f_250_65, yis_178, pG_t, yBs, yN_addl, m252 (by omega) hR hr hT oF, yBs]
    dsimp only
    rw [if_pos (t1.2 (by show qH th F (3 * l + 2) < z; omega))]
  | succ d ih =>
    intro z fu m L hz hf hL hg hR hT hS
    obtain ⟨fu, rfl⟩ : ∃ k, fu = k + 1 := ⟨fu - 1, by omega⟩
    have hgz := hg z (Nat.le_refl _) (by omega)
    have gx := (hgz 0 (by omega)).1
    have gy := (hgz 1 (by omega)).1
    have gz := (hgz 2 (by omega)).1
    have gx' : x ≤ 10 := gx
    have gy' : y ≤ 10 := gy
    have gz' : z ≤ 10 := gz
    have t1 := tEn_lt ⟨qH th F (3 * l + 2), by omega⟩ ⟨z, by omega⟩
    have ta := tEn_ad ⟨z, by omega⟩
    have tx := tEn_mx ⟨x, by omega⟩
    have ty := tEn_mx ⟨y, by omega⟩
    have tz := tEn_mx ⟨z, by omega⟩
    dsimp only at t1 ta tx ty tz
    let m1 := yW (yW (yW m 181 (3 * l) (tEn x)) 181 (3 * l + 1) (tEn y)) 181 (3 * l + 2) (tEn z)
    have F1 : yFr (fun x _ => x = 181) m m1 := ((yFr.w (S := fun x _ => x = 181) m rfl).tr (yFr.w (S := fun x _ => x = 181) _ rfl) (S3 := fun x _ => x = 181) (fun _ _ => orSelf)).tr (yFr.w (S := fun x _ => x = 181) _ rfl) (fun _ _ => orSelf)
    have h3 : ∀ i, i < 3 → m1.1 181 (3 * l + i) = tEn (qI (x, y, z) i) := by
      intro i hi
      show (yW (yW (yW m 181 (3 * l) (tEn x)) 181 (3 * l + 1) (tEn y)) 181 (3 * l + 2) (tEn z)).1 181 (3 * l + i) = _
      rw [yW_get, yW_get, yW_get]
      unfold qI
      by_cases i0 : i = 0
      · subst i0; rw [if_neg (by omega), if_neg (by omega), if_pos (by omega), if_pos rfl]
      · by_cases i1 : i = 1
        · subst i1; rw [if_neg (by omega), if_pos (by omega), if_neg (by omega), if_pos rfl]
        · obtain rfl : i = 2 := by omega
          rw [if_pos (by omega), if_neg (by omega), if_neg (by omega)]
    have hR1 : Tor m1 180 th n := hR.g (F1.g (fun _ _ => id)) (fun j _ q => by omega)
    have hT1 : rTo m1 F := hT.g (F1.g (fun _ _ => id)) (fun x j q => by omega)
    have e249 := m249 (κ := κ) oF hl hgz h0 h3 hT1
    have k50 : m1.1 178 50 = yN L.length := by rw [F1.2 _ _ (by omega)]; exact hS.1
    have ent : f_250_65 (fu + 1) 178 (yN l) (yN (3 * l)) (tEn x) (tEn y) (tEn z) (yH κ m) = ((if yB (qFo th F l (qB (x, y, z)) F.1) = 0 then some (yH κ m1) else (pFr (yH κ m1) 178 12 49).bind fun x23 => (pFi (yH κ m1) 178 12 50).bind fun x24 => (pSi (yH κ m1) x23 x24 (((100 * (pMax 0 (tEn x))) + (10 * (pMax 0 (tEn y)))) + (pMax 0 (tEn z)))).bind fun h25 => (pFi h25 178 12 50).bind fun x26 => (pP h25 178 12 50 (.int (x26 + 1))).bind fun h27 => some h27) : Option xH).bind fun h21 => f_250_65 fu 178 (yN l) (yN (3 * l)) (tEn x) (tEn y) (tEn (z + 1)) h21 := by
      rw [f_250_65, yis_178, pG_t, yBs, yN_addl, m252 (by omega) hR hr hT oF, yBs]
      dsimp only
      rw [if_neg (fun q => by have := t1.1 q; omega), yr_178_4, yBs, yr_s yAr_181 (by omega), yBs, yr_178_4, yBs, yN_addl, yr_s yAr_181 (by omega), yBs, yr_178_4, yBs, yr_s yAr_181 (by omega), yBs, yr_178_4, yBs, yis_178, pG_t, yBs]
      show ((f_249 178 181 (yN l) (yH κ m1)).bind _) = _
      rw [e249, yBs, ta]
    rw [ent, q3]
    by_cases hq : qFo th F l (qBt x y z) F.1 = true
    · let m2 := yW (yW m1 209 L.length (qK (x, y, z))) 178 50 (yN (L.length + 1))
      have F2 : yFr sQr m m2 := ((F1.wk (S3 := sQr) (fun x j q => Or.inr (Or.inl q))).tr (yFr.w (S := sQr) _ (Or.inr (Or.inr rfl))) (S3 := sQr) (fun _ _ => orSelf)).tr (yFr.w (S := sQr) _ (Or.inl ⟨rfl, rfl⟩)) (fun _ _ => orSelf)
      have S2 : Sr m2 (L ++ [(x, y, z)]) := by
        refine ⟨?_, fun j t h => ?_⟩
        · show (yW (yW m1 209 L.length (qK (x, y, z))) 178 50 (yN (L.length + 1))).1 178 50 = _
          rw [yW_self, upd_eq, List.length_append]; rfl
        · show (yW (yW m1 209 L.length (qK (x, y, z))) 178 50 (yN (L.length + 1))).1 209 j = _
          rw [yW_row (by omega), yW_get]
          by_cases hj : j = L.length
          · subst hj
            rw [List.getElem?_append_right (Nat.le_refl _)] at h
            simp at h
            rw [if_pos ⟨rfl, rfl⟩, ← h]
          · have hlt : j < (L ++ [(x, y, z)]).length := by
              rcases Nat.lt_or_ge j (L ++ [(x, y, z)]).length with q | q
              · exact q
              · rw [List.getElem?_eq_none q] at h; simp at h
            rw [List.length_append] at hlt
            simp at hlt
            rw [List.getElem?_append_left (by omega)] at h
            rw [if_neg (by omega), F1.2 _ _ (by omega)]; exact hS.2 j t h
      obtain ⟨m', e', S', F'⟩ := ih (z + 1) fu m2 (L ++ [(x, y, z)]) (by omega) (by omega) (by rw [List.length_append]; simp; omega) (fun z' p q => hg z' (by omega) q) (hR.g (F2.g (fun _ _ => id)) (fun j _ q => by unfold sQr at q; omega)) (hT.g (F2.g (fun _ _ => id)) (fun x j q => by unfold sQr at q; omega)) S2
      refine ⟨m', ?_, ?_, F2.tr F' (fun _ _ => orSelf)⟩
      · have hqB : qFo th F l (qB (x, y, z)) F.1 = true := hq
        have ec : ((100 * yN (x - 1) + 10 * yN (y - 1)) + yN (z - 1) : Int32) = qK (x, y, z) := by rw [yN_lmul, yN_lmul, yN_add, yN_add]; rfl
        have k50' : (yW m1 209 L.length (qK (x, y, z))).1 178 50 = yN L.length := by rw [yW_row (by omega)]; exact k50
        rw [hqB, yB_t, if_neg (by decide), yr_178_49, yBs, yi_178_50, yBs, k50, tx, ty, tz, ec, yst_209 (by omega), yBs, yi_178_50, yBs, k50', yN_addl, yp_178_50, yBs, yBs]
        exact e'
      · rw [if_pos hq, ← List.append_assoc]; exact S'
    · have F2 : yFr sQr m m1 := F1.wk (fun x j q => Or.inr (Or.inl q))
      obtain ⟨m', e', S', F'⟩ := ih (z + 1) fu m1 L (by omega) (by omega) (by omega) (fun z' p q => hg z' (by omega) q) hR1 hT1 ⟨k50, fun j t h => by rw [F1.2 _ _ (by omega)]; exact hS.2 j t h⟩
      have hqB : qFo th F l (qB (x, y, z)) F.1 = false := by
        have : ¬ qFo th F l (qB (x, y, z)) F.1 = true := hq
        simpa using this
      refine ⟨m', ?_, ?_, F2.tr F' (fun _ _ => orSelf)⟩
      · rw [hqB, yB_f, if_pos rfl, yBs]; exact e'
      · rw [if_neg hq]; exact S'
theorem m250_44 {x : Nat} (oF : okF F) (hl : l < 16) (hr : tRg th) (h0 : 0 < tBl th l) : ∀ (d y fu : Nat) (m : yM) (L : List qT), y + d = qH th F (3 * l + 1) + 1 → d < fu → L.length + qD th F (3 * l + 2) * d ≤ 1000 → (∀ y' z', y ≤ y' → y' ≤ qH th F (3 * l + 1) → qL th F (3 * l + 2) ≤ z' → z' ≤ qH th F (3 * l + 2) → qG th l (x, y', z')) → Tor m 180 th n → rTo m F → Sr m L →
    ∃ m', f_250_44 fu 178 (yN l) (yN (3 * l)) (tEn x) (tEn y) (yH κ m) = some (yH κ m') ∧ Sr m' (L ++ q2 (fun b => qFo th F l b F.1) (qL th F (3 * l + 2)) (qD th F (3 * l + 2)) x d y) ∧ yFr sQr m m' := by
  have hY := (qLH (th := th) oF (b := 3 * l + 1) (by omega)).2.1
  have hZ := qLH (th := th) oF (b := 3 * l + 2) (by omega)
  intro d
  induction d with
  | zero =>
    intro y fu m L hz hf hL hg hR hT hS
    obtain ⟨fu, rfl⟩ : ∃ k, fu = k + 1 := ⟨fu - 1, by omega⟩
    have t1 := tEn_lt ⟨qH th F (3 * l + 1), by omega⟩ ⟨y, by omega⟩
    refine ⟨m, ?_, by rw [q2, List.append_nil]; exact hS, yFr.rf m⟩
    rw [f_250_44, yis_178, pG_t, yBs, yN_addl, m252 (by omega) hR hr hT oF, yBs]
    dsimp only
    rw [if_pos (t1.2 (by show qH th F (3 * l + 1) < y; omega))]
  | succ d ih =>
    intro y fu m L hz hf hL hg hR hT hS
    obtain ⟨fu, rfl⟩ : ∃ k, fu = k + 1 := ⟨fu - 1, by omega⟩
    have t1 := tEn_lt ⟨qH th F (3 * l + 1), by omega⟩ ⟨y, by omega⟩
    have ta := tEn_ad ⟨y, by omega⟩
    dsimp only at t1 ta
    rw [Nat.mul_succ] at hL
    obtain ⟨m2, e2, S2, F2⟩ := m250_65 (κ := κ) (x := x) (y := y) oF hl hr h0 (qD th F (3 * l + 2)) (qL th F (3 * l + 2)) 100000 m L hZ.2.2.1 (by omega) (by omega) (fun z' p q => hg y z' (Nat.le_refl _) (by omega) p q) hR hT hS
    have ln := q3_len (fun b => qFo th F l b F.1) x y (qD th F (3 * l + 2)) (qL th F (3 * l + 2))
    obtain ⟨m', e', S', F'⟩ := ih (y + 1) fu m2 _ (by omega) (by omega) (by rw [List.length_append]; omega) (fun y' z' p q r s => hg y' z' (by omega) q r s) (hR.g (F2.g (fun _ _ => id)) (fun j _ q => by unfold sQr at q; omega)) (hT.g (F2.g (fun _ _ => id)) (fun x j q => by unfold sQr at q; omega)) S2
    refine ⟨m', ?_, ?_, F2.tr F' (fun _ _ => orSelf)⟩
    · rw [f_250_44, yis_178, pG_t, yBs, yN_addl, m252 (by omega) hR hr hT oF, yBs]
      dsimp only
      rw [if_neg (fun q => by have := t1.1 q; omega), yis_178, pG_t, yBs, yN_addl, m251 (by omega) hR hr hT oF, yBs]
      dsimp only
      rw [e2, yBs, ta]; exact e'
    · rw [q2, ← List.append_assoc]; exact S'
theorem m250_26 (oF : okF F) (hl : l < 16) (hr : tRg th) (h0 : 0 < tBl th l) : ∀ (d x fu : Nat) (m : yM) (L : List qT), x + d = qH th F (3 * l) + 1 → d < fu → L.length + qD th F (3 * l + 2) * qD th F (3 * l + 1) * d ≤ 1000 → (∀ x' y' z', x ≤ x' → x' ≤ qH th F (3 * l) → qL th F (3 * l + 1) ≤ y' → y' ≤ qH th F (3 * l + 1) → qL th F (3 * l + 2) ≤ z' → z' ≤ qH th F (3 * l + 2) → qG th l (x', y', z')) → Tor m 180 th n → rTo m F → Sr m L →
    ∃ m', f_250_26 fu 178 (yN l) (yN (3 * l)) (tEn x) (yH κ m) = some (yH κ m') ∧ Sr m' (L ++ q1 (fun b => qFo th F l b F.1) (qL th F (3 * l + 2)) (qD th F (3 * l + 2)) (qL th F (3 * l + 1)) (qD th F (3 * l + 1)) d x) ∧ yFr sQr m m' := by
  have hX := (qLH (th := th) oF (b := 3 * l) (by omega)).2.1
  have hY := qLH (th := th) oF (b := 3 * l + 1) (by omega)
  intro d
  induction d with
  | zero =>
    intro x fu m L hz hf hL hg hR hT hS
    obtain ⟨fu, rfl⟩ : ∃ k, fu = k + 1 := ⟨fu - 1, by omega⟩
    have t1 := tEn_lt ⟨qH th F (3 * l), by omega⟩ ⟨x, by omega⟩
    refine ⟨m, ?_, by rw [q1, List.append_nil]; exact hS, yFr.rf m⟩
    rw [f_250_26, yis_178, pG_t, yBs, m252 (by omega) hR hr hT oF, yBs]
    dsimp only
    rw [if_pos (t1.2 (by show qH th F (3 * l) < x; omega))]
  | succ d ih =>
    intro x fu m L hz hf hL hg hR hT hS
    obtain ⟨fu, rfl⟩ : ∃ k, fu = k + 1 := ⟨fu - 1, by omega⟩
    have t1 := tEn_lt ⟨qH th F (3 * l), by omega⟩ ⟨x, by omega⟩
    have ta := tEn_ad ⟨x, by omega⟩
    dsimp only at t1 ta
    rw [Nat.mul_succ] at hL
    obtain ⟨m2, e2, S2, F2⟩ := m250_44 (κ := κ) (x := x) oF hl hr h0 (qD th F (3 * l + 1)) (qL th F (3 * l + 1)) 100000 m L hY.2.2.1 (by omega) (by omega) (fun y' z' p q r s => hg x y' z' (Nat.le_refl _) (by omega) p q r s) hR hT hS
    have ln := q2_len (fun b => qFo th F l b F.1) (qL th F (3 * l + 2)) (qD th F (3 * l + 2)) x (qD th F (3 * l + 1)) (qL th F (3 * l + 1))
    obtain ⟨m', e', S', F'⟩ := ih (x + 1) fu m2 _ (by omega) (by omega) (by rw [List.length_append]; omega) (fun x' y' z' o p q r s => hg x' y' z' (by omega) p q r s) (hR.g (F2.g (fun _ _ => id)) (fun j _ q => by unfold sQr at q; omega)) (hT.g (F2.g (fun _ _ => id)) (fun x j q => by unfold sQr at q; omega)) S2
    refine ⟨m', ?_, ?_, F2.tr F' (fun _ _ => orSelf)⟩
    · rw [f_250_26, yis_178, pG_t, yBs, m252 (by omega) hR hr hT oF, yBs]
      dsimp only
      rw [if_neg (fun q => by have := t1.1 q; omega), yis_178, pG_t, yBs, yN_addl, m251 (by omega) hR hr hT oF, yBs]
      dsimp only
      rw [e2, yBs, ta]; exact e'
    · rw [q1, ← List.append_assoc]; exact S'
theorem m250 {m : yM} (oF : okF F) (hl : l < 16) (hr : tRg th) (h0 : 0 < tBl th l) (hR : Tor m 180 th n) (hT : rTo m F) : ∃ m', f_250 178 (yN l) (yH κ m) = some (yH κ m') ∧ Sr m' (qR th F l) ∧ yFr sQr m m' := by
  let m1 := yR (yW m 178 50 0) 181 (cpR ((yW m 178 50 0).1 180) ((yW m 178 50 0).1 181) 0 54)
  have F1 : yFr sQr m m1 := ⟨rfl, fun x j q => by
    show (yR (yW m 178 50 0) 181 _).1 x j = _
    rw [yR_ne _ _ (fun e => q (Or.inr (Or.inl e))), yW_get, if_neg (fun e => q (Or.inl e))]⟩
  have S1 : Sr m1 [] := ⟨by
    show (yR (yW m 178 50 0) 181 _).1 178 50 = _
    rw [yR_ne _ _ (by omega), yW_self, upd_eq]; rfl, fun j t h => by simp at h⟩
  have hR1 : Tor m1 180 th n := hR.g (F1.g (fun _ _ => id)) (fun j _ q => by unfold sQr at q; omega)
  have hT1 : rTo m1 F := hT.g (F1.g (fun _ _ => id)) (fun x j q => by unfold sQr at q; omega)
  have b0 := qLH (th := th) oF (b := 3 * l) (by omega)
  have b1 := qLH (th := th) oF (b := 3 * l + 1) (by omega)
  have b2 := qLH (th := th) oF (b := 3 * l + 2) (by omega)
  have p1 : qD th F (3 * l + 2) * qD th F (3 * l + 1) ≤ 10 * 10 := Nat.mul_le_mul b2.2.2.2.1 b1.2.2.2.1
  have p2 : qD th F (3 * l + 2) * qD th F (3 * l + 1) * qD th F (3 * l) ≤ 10 * 10 * 10 := Nat.mul_le_mul p1 b0.2.2.2.1
  obtain ⟨m', e', S', F'⟩ := m250_26 (κ := κ) oF hl hr h0 (qD th F (3 * l)) (qL th F (3 * l)) 100000 m1 [] b0.2.2.1 (by omega) (by simp; omega) (fun x' y' z' o p q r s t => qG_rng oF hl ⟨o, p⟩ ⟨q, r⟩ ⟨s, t⟩) hR1 hT1 S1
  refine ⟨m', ?_, S', F1.tr F' (fun _ _ => orSelf)⟩
  unfold f_250
  rw [yp_178_50, yBs, yr_178_3, yBs, yr_178_4, yBs, s168 yAr_180 yAr_181 (by omega), yBs, yis_178, pG_t, yBs, yN_lmul]
  show ((f_251 178 (yN (3 * l)) (yH κ m1)).bind _) = _
  rw [m251 (by omega) hR1 hr hT1 oF, yBs]
  dsimp only
  rw [e', yBs]
end SL
