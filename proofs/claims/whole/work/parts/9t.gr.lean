/-! ===== games: the reference's values and lines ===== -/
theorem stJ_max {how : Nat} {st : Option (Nat × Nat)} (h : gv st < 1000) : pMax 0 (stJ how st) = yN (gv st) := by
  cases st with
  | none =>
    unfold stJ
    dsimp only
    split <;> decide
  | some p => exact (yp_maxN (a := 0) (by omega) (by have : p.1 < 1000 := h; omega)).trans (by rw [show max 0 p.1 = p.1 by omega]; rfl)
section GR
variable {κ : yK} {r : zN} {t0 t1 : Int32} {φ : Bool} {s : gS} {d how : Nat} {hw : Int32}
theorem m232_n (hh : how ≤ 2) (J : gJ r d s) (ho : hwO φ hw) (hcl : clO φ t0 t1 s.1) : ∀ n, rcF κ φ t0 t1 how s hw (fr_232 n) (49 - n) := by
  have hl := J.len
  intro n
  induction n with
  | zero =>
    intro k e m hk hlo
    have := gMu_le (J.nod k e hk).1
    omega
  | succ n ih =>
    intro k e m hk hlo hG hV h0 h1
    have hkl := ge_lt hk
    have o := (J.nod k e hk).1
    have hgl : gv (gW how φ t0 t1 e.1) ≤ 49 := gW_le
    have hF : rcF κ φ t0 t1 how s hw (fr_232 n) (gMu e.1 + 1) := fun k' e' m' a b => ih k' e' m' a (by omega)
    have er : ∀ h, fr_232 (n + 1) 178 (yN k) (yN how) h = fb_232 (fr_232 n) 178 (yN k) (yN how) h := fun h => by rw [fr_232]
    rw [er]
    unfold fb_232
    rw [yr_178_40, yBs, show pAi (yH κ m) 201 (yN k) = _ from ya_201 (by omega), yBs]
    rcases hV k e hk with hn | ⟨v1, v2, v3⟩
    · rw [hn, if_pos (by decide)]
      obtain ⟨m1, e1, R1, V1, k1, c1, G1⟩ := m232_37 (κ := κ) hh J ho hcl hk hF 480 0 100000 m (by omega) (by omega) hG hV h0 h1 (fun mv t h => absurd h (Nat.not_lt_zero mv))
      have e6 : ((if yN how = 0 then some (0) else (if yN how = 1 then some (0) else some ((-1)))) : Option Int32) = some (stJ how (gFd how (fun mv => gv (gW how φ t0 t1 (gNx e.1 mv))) ((List.range 0).filter (gSf φ t0 t1 e.1)))) := by
        show _ = some (if how = 2 then -1 else 0)
        by_cases z0 : how = 0
        · rw [if_pos (by rw [z0]; rfl), if_neg (by omega)]
        · rw [if_neg (by rw [yN_eql (by omega) (by omega)]; exact z0)]
          by_cases z1 : how = 1
          · rw [if_pos (by rw [z1]; rfl), if_neg (by omega)]
          · rw [if_neg (by rw [yN_eql (by omega) (by omega)]; exact z1), if_pos (by omega)]
      rw [e6, yBs, show f_232_37 (fr_232 n) 100000 178 (yN k) (yN how) (stJ how (gFd how (fun mv => gv (gW how φ t0 t1 (gNx e.1 mv))) ((List.range 0).filter (gSf φ t0 t1 e.1)))) (-1) 0 (yH κ m) = _ from e1, yBs]
      dsimp only
      rw [yr_178_40, yBs, stJ_max (by omega), show pSi (yH κ m1) 201 (yN k) (yN (gv (gW how φ t0 t1 e.1))) = _ from yst_201 (by omega), yBs, yr_178_41, yBs, yst_202 (by omega), yBs, yr_178_40, yBs, show pAi (yH κ (yW (yW m1 201 k (yN (gv (gW how φ t0 t1 e.1)))) 202 k (mvI (gW how φ t0 t1 e.1)))) 201 (yN k) = _ from ya_201 (by omega), yBs, yW_row (by omega), yW_self, upd_eq]
      have g : ∀ y j, (yW (yW m1 201 k (yN (gv (gW how φ t0 t1 e.1)))) 202 k (mvI (gW how φ t0 t1 e.1))).1 y j = if y = 202 ∧ j = k then mvI (gW how φ t0 t1 e.1) else if y = 201 ∧ j = k then yN (gv (gW how φ t0 t1 e.1)) else m1.1 y j := fun y j => by rw [yW_get, yW_get]
      have ne1 : ∀ j, m1.1 201 j ≠ -1 → (yW (yW m1 201 k (yN (gv (gW how φ t0 t1 e.1)))) 202 k (mvI (gW how φ t0 t1 e.1))).1 201 j ≠ -1 := fun j hj => by
        rw [g, if_neg (by omega)]
        by_cases q : j = k
        · rw [if_pos ⟨rfl, q⟩]; exact yNne (by omega)
        · rw [if_neg (by omega)]; exact hj
      refine ⟨_, rfl, R1.c (fun y j z => by rw [g, if_neg (by omega), if_neg (by omega)]), fun k' e' hk' => ?_, ?_, fun j hj => ne1 j (k1 j hj), (G1.tr (yFr.w (S := sGr) m1 (by unfold sGr; omega)) (S3 := sGr) (fun _ _ => orSelf)).tr (yFr.w (S := sGr) _ (by unfold sGr; omega)) (fun _ _ => orSelf)⟩
      · by_cases q : k' = k
        · subst q
          rw [hk] at hk'
          simp only [Option.some.injEq] at hk'
          subst hk'
          exact Or.inr ⟨by rw [g, if_neg (by omega), if_pos ⟨rfl, rfl⟩], by rw [g, if_pos ⟨rfl, rfl⟩], fun mv t a b => ne1 t (c1 mv t a b)⟩
        · rw [g, if_neg (by omega), if_neg (by omega), g, if_neg (by omega), if_neg (by omega)]
          rcases V1 k' e' hk' with z | ⟨z1, z2, z3⟩
          · exact Or.inl z
          · exact Or.inr ⟨z1, z2, fun mv t a b => ne1 t (z3 mv t a b)⟩
      · rw [g, if_neg (by omega), if_pos ⟨rfl, rfl⟩]; exact yNne (by omega)
    · rw [v1, if_neg (by rw [yN_ltl (by omega) (by omega)]; omega), yBs, show pAi (yH κ m) 201 (yN k) = _ from ya_201 (by omega), yBs, v1]
      exact ⟨m, rfl, hG, hV, by rw [v1]; exact yNne (by omega), fun _ => id, yFr.rf m⟩
/-- the values of all that can be reached -/
theorem m231 {m : yM} (hh : how ≤ 2) (J : gJ r d s) (ho : hwO φ hw) (hcl : clO φ t0 t1 s.1) (hG : RG m s hw) (h0 : m.1 178 7 = t0) (h1 : m.1 178 8 = t1) : ∃ m', f_231 178 (yN how) (yH κ m) = some (yH κ m') ∧ RG m' s hw ∧ rV φ t0 t1 how m' s.1 ∧ m'.1 201 0 ≠ -1 ∧ yFr sGr m m' := by
  have hl := J.len
  have h1l := ge_lt J.fst
  have lp : ∀ (D k fu : Nat) (m : yM), k + D = s.1.length → D < fu → m.1 178 37 = yN s.1.length → (∀ j, j < k → m.1 201 j = -1) → ∃ m', f_231_2 fu 178 (yN how) (yN k) (yH κ m) = some (yH κ m') ∧ (∀ j, j < s.1.length → m'.1 201 j = -1) ∧ yFr (fun y _ => y = 201) m m' := by
    intro D
    induction D with
    | zero =>
      intro k fu m hk hf h37 h
      obtain ⟨fu, rfl⟩ : ∃ k, fu = k + 1 := ⟨fu - 1, by omega⟩
      exact ⟨m, by rw [f_231_2, yi_178_37, yBs, h37, if_pos (by rw [yN_le (by omega) (by omega)]; omega)], fun j hj => h j (by omega), yFr.rf m⟩
    | succ D ih =>
      intro k fu m hk hf h37 h
      obtain ⟨fu, rfl⟩ : ∃ k, fu = k + 1 := ⟨fu - 1, by omega⟩
      obtain ⟨m', a, b, c⟩ := ih (k + 1) fu (yW m 201 k (-1)) (by omega) (by omega) (by rw [yW_row (by omega)]; exact h37) (fun j hj => by
        rw [yW_get]
        by_cases q : j = k
        · rw [if_pos ⟨rfl, q⟩]
        · rw [if_neg (by omega)]; exact h j (by omega))
      refine ⟨m', ?_, b, (yFr.w (S := fun y _ => y = 201) m rfl).tr c (fun _ _ => orSelf)⟩
      rw [f_231_2, yi_178_37, yBs, h37, if_neg (by rw [yN_le (by omega) (by omega)]; omega), yr_178_40, yBs, yst_201 (by omega), yBs, yN_addl]
      exact a
  obtain ⟨m1, e1, z1, F1⟩ := lp s.1.length 0 100000 m (by omega) (by omega) hG.1 (fun j hj => absurd hj (Nat.not_lt_zero j))
  have R1 : RG m1 s hw := hG.c (fun y j z => F1.2 y j (by omega))
  obtain ⟨m2, e2, R2, V2, s2, -, G2⟩ := m232_n (κ := κ) hh J ho hcl 60 0 (r, -1, -1, 0) m1 J.fst (Nat.zero_le _) R1 (fun k e hk => Or.inl (z1 k (ge_lt hk))) (by rw [F1.2 _ _ (by omega)]; exact h0) (by rw [F1.2 _ _ (by omega)]; exact h1)
  refine ⟨m2, ?_, R2, V2, s2, (F1.wk (S3 := sGr) (fun y j z => by have : y = 201 := z; unfold sGr; omega)).tr G2 (fun _ _ => orSelf)⟩
  unfold f_231
  rw [show f_231_2 100000 178 (yN how) 0 (yH κ m) = _ from e1, yBs, yis_178, pG_t, yBs, show f_232 178 0 (yN how) (yH κ m1) = _ from e2, yBs]
end GR
