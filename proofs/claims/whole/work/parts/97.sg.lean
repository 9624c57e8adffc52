/-! ===== rule(): the reference's levels ===== -/
theorem lpw {p : Nat} (hp : p < 3) : (if yN p = 0 then some (xKb + 10 + 16) else if yN p = 1 then some (xKb + 10 + 17) else some (xKb + 10 + 18) : Option Nat) = some (xKb + 10 + (16 + p)) := by
  match p, hp with
  | 0, _ => rfl
  | 1, _ => rfl
  | 2, _ => rfl
theorem lpx {p : Nat} (hp : p < 3) : (if yN p = 0 then some 0 else if yN p = 1 then some 3 else some 5 : Option Int32) = some (if p = 0 then 0 else if p = 1 then 3 else 5) := by
  match p, hp with
  | 0, _ => rfl
  | 1, _ => rfl
  | 2, _ => rfl
theorem lpg {p : Nat} (hp : p < 3) : (if yN p ≤ 0 then some 0 else some 1 : Option Int32) = some (yB (decide (0 < p))) := by
  match p, hp with
  | 0, _ => rfl
  | 1, _ => rfl
  | 2, _ => rfl
section SG
variable {κ : yK} {C : zC} {N : Nat} {F2 : Nat → xH → Option (Int32 × xH)} {F3 : Nat → Int32 → xH → Option (Int32 × xH)}
theorem lop (oC : okC C) (hN : N ≤ C.1) (hN4 : N ≤ 40) {p d i0 : Nat} (hp : p < 3) (hd : d ≤ 4) (hF : ∀ i, i0 ≤ i → Fp κ C N (F3 178 (yN (p + 1))) (p + 1) i d) : ∀ (D j fu : Nat) (go : Bool) (W : List Int32) (m : yM), j + D = N → D < fu → i0 ≤ j → W.length ≤ j → (go = false → p = 0) → rS C N m j W → m.1 178 13 = yN d →
    ∃ ok k V m', ((f_183_24 F2 F3 fu 178 (yN p) (yB go) (yH κ m) = some (.inl (yH κ m')) ∧ ok = true) ∨ f_183_24 F2 F3 fu 178 (yN p) (yB go) (yH κ m) = some (.inr (yB ok, yH κ m'))) ∧ gO (ch C) N p go j d ok k V ∧ rS C N m' k (W ++ V) ∧ (ok = true → m'.1 178 13 = yN d) ∧ yFr sRg m m' := by
  have hC := oC.1
  have hf : ∀ i, i < N → ch C i < 256 := fun i z => (ch_e oC (show i < C.1 by omega)).1
  intro D
  induction D using Nat.strongRecOn with
  | _ D ih =>
  intro j fu go W m hj hfu hij hW hgo h h13
  obtain ⟨fu, rfl⟩ : ∃ k, fu = k + 1 := ⟨fu - 1, by omega⟩
  cases go with
  | false =>
    obtain rfl := hgo rfl
    refine ⟨true, j, [], m, Or.inl ⟨?_, rfl⟩, gO_0 (by omega), by rw [List.append_nil]; exact h, fun _ => h13, yFr.rf m⟩
    rw [f_183_24, yB_f, if_pos rfl]
  | true =>
    have e6 := m176g (κ := κ) oC hN (t := 16 + p) (by omega) (by omega) h
    rw [f_183_24, yB_t, if_neg (show ¬ ((1 : Int32) = 0) by decide), lpw hp, yBs, yis_178, pG_t, yBs, e6, yBs]
    dsimp only
    by_cases c : j < N ∧ 0 ≤ opx p (ch C j)
    · have c2 : 0 ≤ xIx (xTxt.getD (16 + p) []) (yN (ch C j)) := c.2
      rw [if_pos c.1, if_pos c2, yi_178_11, yBs, h.1, yN_addl, yp_178_11, yBs, yis_178, pG_t, yBs, yN_addl]
      obtain ⟨ok, k, V, m2, a1, a2, a3, a4, a5⟩ := hF (j + 1) (by omega) W (yW m 178 11 (yN (j + 1))) (by omega) hd (by omega) (h.at (j + 1)) (by rw [yW_get, if_neg (by omega)]; exact h13)
      rw [a1, yBs]
      dsimp only
      have F0 : yFr sRg m m2 := sRg_at.tr a5 (fun _ _ => orSelf)
      have g1 := a2.1
      have g2 := a2.2.1
      have g3 := a2.2.2.1
      cases ok with
      | false =>
        refine ⟨false, k, V, m2, Or.inr ?_, gO_N hf hp c.1 c.2 a2, a3, fun q => by simp at q, F0⟩
        rw [yB_f, if_pos rfl, pZ_0, yBs]
      | true =>
        obtain ⟨m3, b1, b2, b3, b4⟩ := m181 (κ := κ) (c := opR p (ch C j)) a3 (by rw [List.length_append]; omega)
        obtain ⟨ok, l, U, m4, c1, c2, c3, c4, c5⟩ := ih (N - k) (by omega) k fu (decide (0 < p)) (W ++ V ++ [opR p (ch C j)]) m3 (by omega) (by omega) (by omega) (by rw [List.length_append, List.length_append]; simp; omega) (fun q => by have := of_decide_eq_false q; omega) b2 (by rw [b3]; exact a4 rfl)
        have e : (2000 + xIx (xTxt.getD (16 + p) []) (yN (ch C j)) + if p = 0 then 0 else if p = 1 then 3 else 5) = opR p (ch C j) := rfl
        rw [yB_t, if_neg (show ¬ ((1 : Int32) = 0) by decide), lpx hp, yBs, yis_178, pG_t, yBs, e, b1, yBs, lpg hp, yBs]
        refine ⟨ok, l, V ++ opR p (ch C j) :: U, m4, c1, gO_S hf hp c.1 c.2 a2 c2, ?_, c4, (F0.tr b4 (S3 := sRg) (fun _ _ => orSelf)).tr c5 (fun _ _ => orSelf)⟩
        have : W ++ (V ++ opR p (ch C j) :: U) = W ++ V ++ [opR p (ch C j)] ++ U := by simp
        rw [this]; exact c3
    · have hx : ¬ (0 ≤ (if j < N then xIx (xTxt.getD (16 + p) []) (yN (ch C j)) else -1)) := by
        by_cases z : j < N
        · rw [if_pos z]; exact fun q => c ⟨z, q⟩
        · rw [if_neg z]; decide
      refine ⟨true, j, [], m, Or.inr ?_, gO_e hf hp (by omega) (fun z q => c ⟨z, q⟩), by rw [List.append_nil]; exact h, fun _ => h13, yFr.rf m⟩
      rw [if_neg hx, pZ_1, yBs]; rfl
theorem lvl3 {i d : Nat} (hF : Fp κ C N (F2 178) 3 i d) : Fp κ C N (fb_183 F2 F3 178 (yN 3)) 3 i d := by
  intro W m hi hd hW h h13
  obtain ⟨ok, j, V, m', a, r⟩ := hF W m hi hd hW h h13
  refine ⟨ok, j, V, m', ?_, r⟩
  unfold fb_183
  rw [if_pos (by rfl), yis_178, pG_t, yBs, a, yBs]
  exact pZ_B _ _
theorem lvl (oC : okC C) (hN : N ≤ C.1) (hN4 : N ≤ 40) {p i d : Nat} (hp : p < 3) (hF : ∀ j, i ≤ j → Fp κ C N (F3 178 (yN (p + 1))) (p + 1) j d) : Fp κ C N (fb_183 F2 F3 178 (yN p)) p i d := by
  intro W m hi hd hW h h13
  have hC := oC.1
  unfold fb_183
  rw [if_neg (by rw [yN_eql (by omega) (by omega)]; show ¬ p = 3; omega), yis_178, pG_t, yBs, yN_addl]
  obtain ⟨ok, j, V, m1, a1, a2, a3, a4, a5⟩ := hF i (Nat.le_refl _) W m hi hd hW h h13
  have g1 := a2.1
  have g2 := a2.2.1
  have g3 := a2.2.2.1
  rw [a1, yBs]
  dsimp only
  cases ok with
  | false =>
    refine ⟨false, j, V, m1, ?_, gL_N hp a2, a3, fun q => by simp at q, a5⟩
    rw [yB_f, if_pos rfl]; exact pZ_0 _
  | true =>
    obtain ⟨ok, k, U, m2, c1, c2, c3, c4, c5⟩ := lop (κ := κ) (F2 := F2) oC hN hN4 hp hd hF (N - j) j 100000 true (W ++ V) m1 (by omega) (by omega) g1 (by rw [List.length_append]; omega) (fun q => by simp at q) a3 (a4 rfl)
    refine ⟨ok, k, V ++ U, m2, ?_, gL_S hp a2 c2, by rw [← List.append_assoc]; exact c3, c4, a5.tr c5 (fun _ _ => orSelf)⟩
    rw [yB_t, if_neg (show ¬ ((1 : Int32) = 0) by decide)]
    rcases c1 with ⟨c1, rfl⟩ | c1
    · rw [show f_183_24 F2 F3 100000 178 (yN p) 1 (yH κ m1) = _ from c1, yBs]; exact pZ_1 _
    · rw [show f_183_24 F2 F3 100000 178 (yN p) 1 (yH κ m1) = _ from c1, yBs]
theorem par (oC : okC C) (hN : N ≤ C.1) (hN4 : N ≤ 40) : ∀ n, (∀ i d, 1 + 5 * (4 - d) + (N - i) ≤ n → Fp κ C N (fr_182 n true 178 0) 3 i d) ∧ (∀ p i d, p ≤ 3 → 1 + 5 * (4 - d) + (N - i) + (4 - p) ≤ n → Fp κ C N (fr_182 n false 178 (yN p)) p i d) := by
  intro n
  induction n with
  | zero => exact ⟨fun i d h => by omega, fun p i d _ h => by omega⟩
  | succ n ih =>
    refine ⟨fun i d h => ?_, fun p i d hp h => ?_⟩
    · have e : fr_182 (n + 1) true 178 0 = fb_182 (fun a h => fr_182 n true a 0 h) (fun a r h => fr_182 n false a r h) 178 := by funext x; rw [fr_182]
      rw [e]
      exact fac oC hN hN4 (fun z => ih.1 (i + 1) d (by omega)) (fun z y => ih.2 0 (i + 1) (d + 1) (by omega) (by omega))
    · have e : fr_182 (n + 1) false 178 (yN p) = fb_183 (fun a h => fr_182 n true a 0 h) (fun a r h => fr_182 n false a r h) 178 (yN p) := by funext x; rw [fr_182]
      rw [e]
      by_cases z : p = 3
      · subst z
        exact lvl3 (ih.1 i d (by omega))
      · exact lvl oC hN hN4 (by omega) (fun j hj => ih.2 (p + 1) j d (by omega) (by omega))
theorem m183 (oC : okC C) (hN : N ≤ C.1) (hN4 : N ≤ 40) : Fp κ C N (f_183 178 0) 0 0 0 := (par (κ := κ) oC hN hN4 120).2 0 0 0 (by omega) (by omega)
end SG
