/-! ===== games: the class finds a tower ===== -/
/-- keys, whence, by which move, how far, how high -/
def cNk (m : yM) (L : List gE) : Prop := ∀ (k : Nat) (e : gE), L[k]? = some e → kW (fun w => m.2 124 (3 * k + w)) e.1.1
def cNa (m : yM) (L : List gE) : Prop := ∀ (k : Nat) (e : gE), L[k]? = some e → m.1 127 k = e.2.1 ∧ m.1 128 k = e.2.2.1 ∧ m.1 129 k = yN e.2.2.2 ∧ m.1 130 k = yN e.1.2
def enC (o : Option Nat) : Int32 := match o with
  | none => 0
  | some k => yN (k + 1)
def cSl (m : yM) (n : Nat) : Prop := ∃ T, (∀ s, s < 1024 → m.1 126 s = enC (T s)) ∧ pIn 1024 T (fun k => cHa (fun w => m.2 124 (3 * k + w))) n
def dupF (L : List gE) : Prop := ∀ (j j' : Nat) (e e' : gE), L[j]? = some e → L[j']? = some e' → gK e.1.1 = gK e'.1.1 → j = j'
def nodO (L : List gE) : Prop := ∀ (j : Nat) (e : gE), L[j]? = some e → nOk e.1
theorem nOk.v {x : zN} (h : nOk x) : ∀ b, b < 48 → okV (x.1 b) := fun b hb => h.1.2.1 b hb
section GF
variable {κ : yK} {L : List gE} {x : zN}
theorem s26l {m : yM} (hl : L.length ≤ 400) (hK : cNk m L) (hS : cSl m L.length) (hk : kW (m.2 125) x.1) (ox : nOk x) (oL : nodO L) (hD : dupF L) :
    (gLk L x = none ∧ ∃ d T, d < 1024 ∧ (∀ s, s < 1024 → m.1 126 s = enC (T s)) ∧ pIn 1024 T (fun k => cHa (fun w => m.2 124 (3 * k + w))) L.length ∧ T ((cHa (m.2 125) + d) % 1024) = none ∧ (∀ d', d' < d → T ((cHa (m.2 125) + d') % 1024) ≠ none) ∧ f_26_7 100000 118 (yN (cHa (m.2 125))) 0 (yH κ m) = some (.inl (yN ((cHa (m.2 125) + d) % 1024), yH κ m))) ∨
    (∃ t, gLk L x = some t ∧ f_26_7 100000 118 (yN (cHa (m.2 125))) 0 (yH κ m) = some (.inr (yN t, yH κ m))) := by
  obtain ⟨T, hT, P⟩ := hS
  have mt : ∀ (k : Nat) (e : gE), L[k]? = some e → ((∀ w, w < 3 → m.2 124 (3 * k + w) = m.2 125 w) ↔ gK e.1.1 = gK x.1) := fun k e h => (hK k e h).e hk (oL k e h).v ox.v
  obtain ⟨d, hd, hw, hend⟩ := pLk (mt := fun k => ∀ w, w < 3 → m.2 124 (3 * k + w) = m.2 125 w) (h := cHa (m.2 125)) P (by omega) (fun k _ z => cHa_c z)
  have hh := (cHa_e (m.2 125)).1
  have walk : ∀ (R : Option ((Int32 × xH) ⊕ (Int32 × xH))), (∀ fu, f_26_7 (fu + 1) 118 (yN ((cHa (m.2 125) + d) % 1024)) (yN d) (yH κ m) = R) → ∀ (c d0 fu : Nat), d0 + c = d → c < fu → f_26_7 fu 118 (yN ((cHa (m.2 125) + d0) % 1024)) (yN d0) (yH κ m) = R := by
    intro R hR c
    induction c with
    | zero =>
      intro d0 fu h1 h2
      obtain ⟨fu, rfl⟩ : ∃ k, fu = k + 1 := ⟨fu - 1, by omega⟩
      obtain rfl : d0 = d := by omega
      exact hR fu
    | succ c ih =>
      intro d0 fu h1 h2
      obtain ⟨fu, rfl⟩ : ∃ k, fu = k + 1 := ⟨fu - 1, by omega⟩
      obtain ⟨k, hk1, hk2, hk3⟩ := hw d0 (by omega)
      have hs : m.1 126 ((cHa (m.2 125) + d0) % 1024) = yN (k + 1) := by rw [hT _ (Nat.mod_lt _ (by omega)), hk2]; rfl
      have ha : pAi (yH κ m) 126 (yN ((cHa (m.2 125) + d0) % 1024)) = some (yN (k + 1)) := by rw [show pAi (yH κ m) 126 (yN ((cHa (m.2 125) + d0) % 1024)) = _ from ya_126 (Nat.mod_lt _ (by omega)), hs]
      rw [f_26_7, if_neg (by rw [yN_lle (by omega) (by omega)]; show ¬ 1024 ≤ d0; omega), yr_118_4, yBs, ha, yBs, if_neg (by rw [yN_eql (by omega) (by omega)]; show ¬ (k + 1 = 0); omega), yBs, ha, yBs, yis_118, pG_t, yBs, show yN (k + 1) - 1 = yN k from yN_subl (by omega), s28f (by omega) hk3, yBs]
      dsimp only
      rw [if_pos rfl, yN_addl, yp_rem (by have := Nat.mod_lt (cHa (m.2 125) + d0) (show 0 < 1024 by omega); omega) (by omega) (by decide), yBs, yN_addl]
      have := ih (d0 + 1) fu (by omega) (by omega)
      rw [show ((cHa (m.2 125) + d0) % 1024 + 1) % 1024 = (cHa (m.2 125) + (d0 + 1)) % 1024 by omega]
      exact this
  have h0 : (cHa (m.2 125) + 0) % 1024 = cHa (m.2 125) := by omega
  rcases hend with ⟨e1, e2⟩ | ⟨k, k1, k2, k3⟩
  · left
    have hn : gLk L x = none := by
      cases hq : gLk L x with
      | none => rfl
      | some t =>
        obtain ⟨e, he, hk⟩ := gLk_s hq
        exact absurd ((mt t e he).2 hk) (e2 t (ge_lt he))
    refine ⟨hn, d, T, hd, hT, P, e1, fun d' hd' z => ?_, ?_⟩
    · obtain ⟨k, -, hk2, -⟩ := hw d' hd'
      rw [z] at hk2; simp at hk2
    · have := walk _ (fun fu => by
        have ha : pAi (yH κ m) 126 (yN ((cHa (m.2 125) + d) % 1024)) = some 0 := by rw [show pAi (yH κ m) 126 (yN ((cHa (m.2 125) + d) % 1024)) = _ from ya_126 (Nat.mod_lt _ (by omega)), hT _ (Nat.mod_lt _ (by omega)), e1]; rfl
        rw [f_26_7, if_neg (by rw [yN_lle (by omega) (by omega)]; show ¬ 1024 ≤ d; omega), yr_118_4, yBs, ha, yBs, if_pos rfl]) d 0 100000 (by omega) (by omega)
      rw [h0] at this
      exact this
  · right
    obtain ⟨e, he⟩ := ge_of k1
    have hke := (mt k e he).1 k3
    have hq : gLk L x = some k := by
      cases hq : gLk L x with
      | none => exact absurd hke (gLk_n hq k e he)
      | some t =>
        obtain ⟨e', he', hk'⟩ := gLk_s hq
        rw [hD t k e' e he' he (hk'.trans hke.symm)]
    refine ⟨k, hq, ?_⟩
    have := walk _ (fun fu => by
      have ha : pAi (yH κ m) 126 (yN ((cHa (m.2 125) + d) % 1024)) = some (yN (k + 1)) := by rw [show pAi (yH κ m) 126 (yN ((cHa (m.2 125) + d) % 1024)) = _ from ya_126 (Nat.mod_lt _ (by omega)), hT _ (Nat.mod_lt _ (by omega)), k2]; rfl
      rw [f_26_7, if_neg (by rw [yN_lle (by omega) (by omega)]; show ¬ 1024 ≤ d; omega), yr_118_4, yBs, ha, yBs, if_neg (by rw [yN_eql (by omega) (by omega)]; show ¬ (k + 1 = 0); omega), yBs, ha, yBs, yis_118, pG_t, yBs, show yN (k + 1) - 1 = yN k from yN_subl (by omega), s28t (by omega) k3, yBs]
      dsimp only
      rw [if_neg (show ¬ ((1 : Int32) = 0) by decide), yr_118_4, yBs, ha, yBs, show yN (k + 1) - 1 = yN k from yN_subl (by omega)]) d 0 100000 (by omega) (by omega)
    rw [h0] at this
    exact this
theorem s26 {m : yM} (h14 : m.1 118 14 = yN L.length) (hl : L.length ≤ 400) (hK : cNk m L) (hS : cSl m L.length) (hk : kW (m.2 125) x.1) (ox : nOk x) (oL : nodO L) (hD : dupF L) :
    (∃ t, gLk L x = some t ∧ f_26 118 (yH κ m) = some (yN t, yH κ m)) ∨
    (gLk L x = none ∧ L.length = 400 ∧ f_26 118 (yH κ m) = some (-1, yH κ m)) ∨
    (gLk L x = none ∧ L.length < 400 ∧ ∃ m', f_26 118 (yH κ m) = some (yN L.length, yH κ m') ∧ m'.1 118 14 = yN (L.length + 1) ∧ cSl m' (L.length + 1) ∧ kW (fun w => m'.2 124 (3 * L.length + w)) x.1 ∧ cNk m' L ∧ m'.2 125 = m.2 125 ∧ (∀ y j, ¬ ((y = 118 ∧ j = 14) ∨ y = 126) → m'.1 y j = m.1 y j) ∧ gF m m') := by
  rcases s26l (κ := κ) hl hK hS hk ox oL hD with ⟨hn, d, T, hd, hT, P, ho, hw, e⟩ | ⟨t, ht, e⟩
  · right
    by_cases h4 : L.length = 400
    · left
      refine ⟨hn, h4, ?_⟩
      unfold f_26
      rw [yis_118, pG_t, yBs, s27, yBs]
      dsimp only
      rw [e, yBs]
      dsimp only
      rw [yi_118_14, yBs, h14, h4, if_neg (by decide)]
    · right
      have hlt : L.length < 400 := by omega
      let m1 := yRl m 124 (va_cpy (m.2 125) (m.2 124) 0 (3 * L.length) 3)
      have hm1 : m1.1 = m.1 := rfl
      have hR : ∀ y, y ≠ 124 → m1.2 y = m.2 y := fun y h => yRl_ne _ _ h
      have k14 : m1.1 118 14 = yN L.length := h14
      have hsl := Nat.mod_lt (cHa (m.2 125) + d) (show 0 < 1024 by omega)
      have cp : ∀ j, m1.2 124 j = if 3 * L.length ≤ j ∧ j < 3 * L.length + 3 then m.2 125 (j - 3 * L.length) else m.2 124 j := fun j => by
        show (yRl m 124 _).2 124 j = _
        rw [yRl_eq]
        unfold va_cpy
        by_cases q : 3 * L.length ≤ j ∧ j < 3 * L.length + 3
        · rw [if_pos q, if_pos q, Nat.zero_add]
        · rw [if_neg q, if_neg q]
      have old : ∀ k w, k < L.length → w < 3 → m1.2 124 (3 * k + w) = m.2 124 (3 * k + w) := fun k w hk hw => by rw [cp, if_neg (by omega)]
      have new : ∀ w, w < 3 → m1.2 124 (3 * L.length + w) = m.2 125 w := fun w hw => by rw [cp, if_pos (by omega), show 3 * L.length + w - 3 * L.length = w by omega]
      let m2 := yW (yW m1 126 ((cHa (m.2 125) + d) % 1024) (yN (L.length + 1))) 118 14 (yN (L.length + 1))
      have hm2 : m2.2 = m1.2 := rfl
      refine ⟨hn, hlt, m2, ?_, ?_, ⟨upT T ((cHa (m.2 125) + d) % 1024) L.length, fun s hs => ?_, ?_⟩, ?_, fun k e he => ?_, ?_, fun y j q => ?_, ?_⟩
      · unfold f_26
        rw [yis_118, pG_t, yBs, s27, yBs]
        dsimp only
        rw [e, yBs]
        dsimp only
        rw [yi_118_14, yBs, h14, if_pos (by rw [yN_ltl (by omega) (by omega)]; exact hlt), yr_118_3, yBs, yr_118_2, yBs, yBs, yN_lmul, show pCpy (yH κ m) 125 0 124 (yN (3 * L.length)) 3 = some (yH κ m1) from yh_cpyl (sp := 0) (dp := 3 * L.length) (c := 3) (n := 3) (n2 := 1200) rfl rfl (by omega) (by omega) (by omega) (by omega), yBs, yr_118_4, yBs, yi_118_14, yBs, k14, yN_addl, show pSi (yH κ m1) 126 (yN ((cHa (m.2 125) + d) % 1024)) (yN (L.length + 1)) = _ from yst_126 hsl, yBs, yi_118_14, yBs, yW_row (by omega), k14, yN_addl, yp_118_14, yBs]
      · show (yW _ 118 14 _).1 118 14 = _
        rw [yW_self, upd_eq]
      · show (yW (yW m1 126 _ _) 118 14 _).1 126 s = _
        rw [yW_row (by omega), yW_get]
        unfold upT
        by_cases q : s = (cHa (m.2 125) + d) % 1024
        · rw [if_pos ⟨rfl, q⟩, if_pos q]; rfl
        · rw [if_neg (by omega), if_neg q]; exact hT s hs
      · have P2 := P.put hd ho hw
        refine P2.cg (fun k hk => ?_)
        show cHa (fun w => m1.2 124 (3 * k + w)) = _
        by_cases q : k = L.length
        · subst q; rw [if_pos rfl]; exact cHa_c new
        · rw [if_neg q]; exact cHa_c (fun w hw => old k w (by omega) hw)
      · exact hk.cw new
      · exact (hK k e he).cw (fun w hw => old k w (ge_lt he) hw)
      · exact hR 125 (by omega)
      · show (yW (yW m1 126 _ _) 118 14 _).1 y j = _
        rw [yW_get, if_neg (by omega), yW_get, if_neg (by omega), hm1]
      · refine ⟨fun y j q => ?_, fun y j q => ?_⟩
        · show (yW (yW m1 126 _ _) 118 14 _).1 y j = _
          unfold sGx at q
          rw [yW_get, if_neg (by omega), yW_get, if_neg (by omega), hm1]
        · exact congrFun (hR y (by omega)) j
  · left
    refine ⟨t, ht, ?_⟩
    unfold f_26
    rw [yis_118, pG_t, yBs, s27, yBs]
    dsimp only
    rw [e, yBs]
theorem s21 {m : yM} {k : Nat} {p q w v : Int32} (hk : k < 400) (hw : (p = -1 ∧ w = 0) ∨ ∃ i, i < 400 ∧ p = yN i ∧ k ≠ i ∧ w = m.1 129 i + 1) : f_21 118 (yN k) p q v (yH κ m) = some (yH κ (yW (yW (yW (yW m 127 k p) 128 k q) 129 k w) 130 k v)) := by
  unfold f_21
  rw [yr_118_5, yBs, yst_127 hk, yBs, yr_118_6, yBs, yst_128 hk, yBs, yr_118_7, yBs]
  rcases hw with ⟨rfl, rfl⟩ | ⟨i, hi, rfl, hne, rfl⟩
  · rw [if_pos rfl, yBs, yst_129 hk, yBs, yr_118_8, yBs, yst_130 hk, yBs]
  · rw [if_neg (by rw [yN_eqm (by omega)]; exact id), yBs, show pAi (yH κ (yW (yW m 127 k (yN i)) 128 k q)) 129 (yN i) = _ from ya_129 hi, yBs, yW_row (by omega), yW_row (by omega), yBs, yst_129 hk, yBs, yr_118_8, yBs, yst_130 hk, yBs]
end GF
