/-! ===== rule(): the reference reads an expression ===== -/
theorem anD {a b : Prop} [Decidable a] [Decidable b] (h : a ∧ b) : (decide a && decide b) = true := by rw [decide_eq_true h.1, decide_eq_true h.2]; rfl
theorem anF {a b : Prop} [Decidable a] [Decidable b] (h : ¬ (a ∧ b)) : (decide a && decide b) = false := by
  by_cases q : a
  · rw [decide_eq_false (fun z => h ⟨q, z⟩), Bool.and_false]
  · rw [decide_eq_false q, Bool.false_and]
theorem anB {a : Prop} [Decidable a] {b : Bool} (h : ¬ (a ∧ b = true)) : (decide a && b) = false := by
  by_cases q : a
  · cases b with
    | true => exact absurd ⟨q, rfl⟩ h
    | false => rw [Bool.and_false]
  · rw [decide_eq_false q, Bool.false_and]
def Fp (κ : yK) (C : zC) (N : Nat) (F : xH → Option (Int32 × xH)) (p i d : Nat) : Prop := ∀ W m, i ≤ N → d ≤ 4 → W.length ≤ i → rS C N m i W → m.1 178 13 = yN d → ∃ ok j V m', F (yH κ m) = some (yB ok, yH κ m') ∧ gL (ch C) N p i d ok j V ∧ rS C N m' j (W ++ V) ∧ (ok = true → m'.1 178 13 = yN d) ∧ yFr sRg m m'
section SF
variable {κ : yK} {C : zC} {N : Nat} {F2 : Nat → xH → Option (Int32 × xH)} {F3 : Nat → Int32 → xH → Option (Int32 × xH)}
theorem fac (oC : okC C) (hN : N ≤ C.1) (hN4 : N ≤ 40) {i d : Nat} (h2 : i < N → Fp κ C N (F2 178) 3 (i + 1) d) (h3 : i < N → d < 4 → Fp κ C N (F3 178 0) 0 (i + 1) (d + 1)) : Fp κ C N (fb_182 F2 F3 178) 3 i d := by
  intro W m hi hd hW h h13
  have hC := oC.1
  have hf : ∀ i, i < N → ch C i < 256 := fun i z => (ch_e oC (show i < C.1 by omega)).1
  have e45 : f_174 178 45 (yH κ m) = some (yB (decide (i < N) && decide (ch C i = 45)), yH κ (yW m 178 11 (yN (i + (decide (i < N) && decide (ch C i = 45)).toNat)))) := m174N (κ := κ) (k := 45) oC (by omega) h.1 h.2.1 hN hi h.2.2.1
  by_cases c45 : i < N ∧ ch C i = 45
  · rw [anD c45] at e45
    obtain ⟨ok, j, V, m2, a1, a2, a3, a4, a5⟩ := h2 c45.1 W (yW m 178 11 (yN (i + 1))) (by omega) hd (by omega) (h.at (i + 1)) (by rw [yW_get, if_neg (by omega)]; exact h13)
    have hV := a2.2.2.1
    have hj := a2.2.1
    obtain ⟨m3, b1, b2, b3, b4⟩ := m181 (κ := κ) (c := 3000) a3 (by rw [List.length_append]; omega)
    refine ⟨ok, j, V ++ [3000], m3, ?_, gL_minus c45.1 c45.2 a2, by rw [← List.append_assoc]; exact b2, fun q => by rw [b3]; exact a4 q, (sRg_at.tr a5 (S3 := sRg) (fun _ _ => orSelf)).tr b4 (fun _ _ => orSelf)⟩
    unfold fb_182
    rw [yis_178, pG_t, yBs, e45, yBs]
    dsimp only
    rw [yB_t, if_neg (by decide), yis_178, pG_t, yBs, show (true : Bool).toNat = 1 from rfl, a1, yBs]
    dsimp only
    rw [yis_178, pG_t, yBs, b1, yBs]
    exact pZ_B _ _
  · rw [anF c45, show i + (false : Bool).toNat = i from rfl] at e45
    have h1 := h.at i
    have h113 : (yW m 178 11 (yN i)).1 178 13 = yN d := by rw [yW_get, if_neg (by omega)]; exact h13
    have F1 : yFr sRg m (yW m 178 11 (yN i)) := sRg_at
    generalize yW m 178 11 (yN i) = m1 at *
    have e5 := m175N (κ := κ) oC h1.1 h1.2.1 hN hi h1.2.2.1
    unfold fb_182
    rw [yis_178, pG_t, yBs, e45, yBs]
    dsimp only
    rw [yB_f, if_pos rfl, yis_178, pG_t, yBs, e5, yBs]
    by_cases cd : i < N ∧ dig (ch C i) = true
    · obtain ⟨m2, a1, a2, a3, a4⟩ := m182_34 (κ := κ) (F2 := F2) (F3 := F3) oC hN 3 i 0 100000 m1 W (by omega) (by omega) hi h1
      obtain ⟨m3, b1, b2, b3, b4⟩ := m181 (κ := κ) (c := yN (rDg (ch C) N 3 i 0).1) a2 (by omega)
      refine ⟨true, _, _, m3, ?_, gL_num hf cd.1 cd.2, b2, fun _ => by rw [b3, a3]; exact h113, (F1.tr a4 (S3 := sRg) (fun _ _ => orSelf)).tr b4 (fun _ _ => orSelf)⟩
      dsimp only
      rw [decide_eq_true cd.1, cd.2, show yB (true && true) = 1 from rfl, if_neg (show ¬ ((1 : Int32) = 0) by decide), show f_182_34 F2 F3 100000 178 0 0 (yH κ m1) = _ from a1, yBs]
      dsimp only
      rw [yis_178, pG_t, yBs, b1, yBs]
      exact pZ_1 _
    · have e0 : f_176 178 (xKb + 10 + 0) (yH κ m1) = _ := m176g (κ := κ) oC hN (t := 0) (by omega) hi h1
      dsimp only
      rw [anB cd, yB_f, if_pos rfl, yis_178, pG_t, yBs, e0, yBs]
      by_cases cl : i < N ∧ 0 ≤ xIx (xTxt.getD 0 []) (yN (ch C i))
      · obtain ⟨m3, b1, b2, b3, b4⟩ := m181 (κ := κ) (c := 1000 + xIx (xTxt.getD 0 []) (yN (ch C i))) (h1.at (i + 1)) (by omega)
        refine ⟨true, _, _, m3, ?_, gL_let hf cl.1 (fun z => c45 ⟨cl.1, z⟩) (by
          cases z : dig (ch C i) with
          | false => rfl
          | true => exact absurd ⟨cl.1, z⟩ cd) cl.2, b2, fun _ => by rw [b3, yW_get, if_neg (by omega)]; exact h113, (F1.tr sRg_at (S3 := sRg) (fun _ _ => orSelf)).tr b4 (fun _ _ => orSelf)⟩
        dsimp only
        rw [if_pos cl.1, if_neg (show ¬ (xIx (xTxt.getD 0 []) (yN (ch C i)) < 0) by intro z; have q := cl.2; rw [yLe_iff] at q; rw [yLt_iff] at z; omega), yi_178_11, yBs, h1.1, yN_addl, yp_178_11, yBs, yis_178, pG_t, yBs, b1, yBs]
        exact pZ_1 _
      · have hx : (if i < N then xIx (xTxt.getD 0 []) (yN (ch C i)) else -1) < 0 := by
          by_cases z : i < N
          · rw [if_pos z]
            have q : ¬ (0 ≤ xIx (xTxt.getD 0 []) (yN (ch C i))) := fun q => cl ⟨z, q⟩
            rw [yLe_iff] at q; rw [yLt_iff]; omega
          · rw [if_neg z]; decide
        have nb : i < N → ch C i ≠ 45 ∧ dig (ch C i) = false ∧ ¬ 0 ≤ xIx (xTxt.getD 0 []) (yN (ch C i)) := fun z => ⟨fun q => c45 ⟨z, q⟩, by
          cases y : dig (ch C i) with
          | false => rfl
          | true => exact absurd ⟨z, y⟩ cd, fun q => cl ⟨z, q⟩⟩
        dsimp only
        rw [if_pos hx, yi_178_13, yBs, h113]
        by_cases d4 : d = 4
        · refine ⟨false, i, [], m1, ?_, gL_bad hi (fun z => ⟨(nb z).1, (nb z).2.1, (nb z).2.2, Or.inl d4⟩), by rw [List.append_nil]; exact h1, fun q => by simp at q, F1⟩
          rw [if_pos (by rw [d4]; rfl)]; exact pZ_0 _
        · have e40 : f_174 178 40 (yH κ m1) = some (yB (decide (i < N) && decide (ch C i = 40)), yH κ (yW m1 178 11 (yN (i + (decide (i < N) && decide (ch C i = 40)).toNat)))) := m174N (κ := κ) (k := 40) oC (by omega) h1.1 h1.2.1 hN hi h1.2.2.1
          rw [if_neg (by rw [yN_eql (by omega) (by omega)]; exact d4), yis_178, pG_t, yBs, e40, yBs]
          by_cases c40 : i < N ∧ ch C i = 40
          · have h5 := (h1.at (i + 1)).dp (yN (d + 1))
            obtain ⟨ok, j, V, m2, a1, a2, a3, a4, a5⟩ := h3 c40.1 (by omega) W _ (by omega) (by omega) (by omega) h5 (by rw [yW_self, upd_eq])
            have hj := a2.2.1
            have F2' : yFr sRg m m2 := ((F1.tr sRg_at (S3 := sRg) (fun _ _ => orSelf)).tr sRg_dp (S3 := sRg) (fun _ _ => orSelf)).tr a5 (fun _ _ => orSelf)
            have k13 : (yW m1 178 11 (yN (i + 1))).1 178 13 = yN d := by rw [yW_get, if_neg (by omega)]; exact h113
            dsimp only
            rw [anD c40, yB_t, if_neg (show ¬ ((1 : Int32) = 0) by decide), show (true : Bool).toNat = 1 from rfl, yi_178_13, yBs, k13, yN_addl, yp_178_13, yBs, yis_178, pG_t, yBs, a1, yBs]
            cases ok with
            | false =>
              refine ⟨false, j, V, m2, ?_, gL_brN c40.1 c40.2 (by omega) a2, a3, fun q => by simp at q, F2'⟩
              dsimp only
              rw [yB_f, if_pos rfl]; exact pZ_0 _
            | true =>
              have e41 : f_174 178 41 (yH κ m2) = some (yB (decide (j < N) && decide (ch C j = 41)), yH κ (yW m2 178 11 (yN (j + (decide (j < N) && decide (ch C j = 41)).toNat)))) := m174N (κ := κ) (k := 41) oC (by omega) a3.1 a3.2.1 hN hj a3.2.2.1
              by_cases c41 : j < N ∧ ch C j = 41
              · have k13' : (yW m2 178 11 (yN (j + 1))).1 178 13 = yN (d + 1) := by rw [yW_get, if_neg (by omega)]; exact a4 rfl
                refine ⟨true, j + 1, V, yW (yW m2 178 11 (yN (j + 1))) 178 13 (yN d), ?_, gL_brO hf c40.1 c40.2 (by omega) a2 c41.1 c41.2, (a3.at (j + 1)).dp _, fun _ => by rw [yW_self, upd_eq], (F2'.tr sRg_at (S3 := sRg) (fun _ _ => orSelf)).tr sRg_dp (fun _ _ => orSelf)⟩
                dsimp only
                rw [yB_t, if_neg (show ¬ ((1 : Int32) = 0) by decide), yis_178, pG_t, yBs, e41, anD c41, yBs]
                dsimp only
                rw [yB_t, if_neg (show ¬ ((1 : Int32) = 0) by decide), show (true : Bool).toNat = 1 from rfl, yi_178_13, yBs, k13', show yN (d + 1) - 1 = yN d from yN_subl (by omega), yp_178_13, yBs]
                exact pZ_1 _
              · refine ⟨false, j, V, yW m2 178 11 (yN j), ?_, gL_brC hf c40.1 c40.2 (by omega) a2 (fun z q => c41 ⟨z, q⟩), a3.at j, fun q => by simp at q, F2'.tr sRg_at (fun _ _ => orSelf)⟩
                dsimp only
                rw [yB_t, if_neg (show ¬ ((1 : Int32) = 0) by decide), yis_178, pG_t, yBs, e41, anF c41, yBs]
                dsimp only
                rw [yB_f, if_pos rfl]; exact pZ_0 _
          · refine ⟨false, i, [], yW m1 178 11 (yN i), ?_, gL_bad hi (fun z => ⟨(nb z).1, (nb z).2.1, (nb z).2.2, Or.inr (fun q => c40 ⟨z, q⟩)⟩), by rw [List.append_nil]; exact h1.at i, fun q => by simp at q, F1.tr sRg_at (fun _ _ => orSelf)⟩
            dsimp only
            rw [anF c40, yB_f, if_pos rfl]; exact pZ_0 _
end SF
