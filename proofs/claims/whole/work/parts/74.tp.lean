/-! ===== tower(): the reference reads ===== -/
section TP
variable {κ : yK} {C : zC}
/-- a layer -/
theorem m178_4 (oC : okC C) (hC0 : 0 < C.1) {a : Nat} (ha : a ≤ 16) : ∀ (d r fu : Nat) (m : yM) (g : Nat), r + d = 3 → d < fu → 4 * a + r ≤ C.1 → g ≤ r → g ≤ 2 → (0 < r → a < 16) → m.1 178 11 = yN (4 * a + r) → m.1 178 12 = yN C.1 → (∀ j, j < C.1 → m.1 183 j = C.2 j) →
    (∃ e m', tE C.2 C.1 (4 * a + r) g = some e ∧ e ≤ C.1 ∧ f_178_4 fu 178 (yN a) (yN g) (yN r) (yH κ m) = some (.inr (0, yH κ m')) ∧ m'.1 178 11 = yN e ∧ yFr sP4 m m') ∨
    (∃ g' m', tE C.2 C.1 (4 * a + r) g = tE C.2 C.1 (4 * a + 3) g' ∧ 4 * a + 3 ≤ C.1 ∧ a < 16 ∧ f_178_4 fu 178 (yN a) (yN g) (yN r) (yH κ m) = some (.inl (yH κ m')) ∧ m'.1 178 11 = yN (4 * a + 3) ∧ (∀ s, r ≤ s → s < 3 → m'.1 184 (3 * a + s) = tV C.2 (3 * a + s)) ∧ (∀ j, j < 3 * a + r → m'.1 184 j = m.1 184 j) ∧ yFr sP4 m m') := by
  have hC := oC.1
  intro d
  induction d with
  | zero =>
    intro r fu m g hr hf hn hg hg2 ha16 h11 h12 hT
    obtain ⟨fu, rfl⟩ : ∃ k, fu = k + 1 := ⟨fu - 1, by omega⟩
    obtain rfl : r = 3 := by omega
    refine Or.inr ⟨g, m, rfl, hn, ha16 (by omega), ?_, h11, fun s p q => by omega, fun j _ => rfl, yFr.rf m⟩
    rw [f_178_4, if_pos (by decide)]
  | succ d ih =>
    intro r fu m g hr hf hn hg hg2 ha16 h11 h12 hT
    obtain ⟨fu, rfl⟩ : ∃ k, fu = k + 1 := ⟨fu - 1, by omega⟩
    have r4 : (4 * a + r) / 4 = a := by omega
    have m4 : (4 * a + r) % 4 = r := by omega
    have hr3 : r < 3 := by omega
    have z3 : ((3 : Int32) ≤ yN r) = False := by rw [yN_lle (by omega) (by omega)]; exact eq_false (by omega)
    have e175 := m175 (κ := κ) (C := C) h11 h12 (Nat.le_refl _) hC hn hT
    by_cases h16 : a = 16
    · refine Or.inl ⟨4 * a + r, m, ?_, hn, ?_, h11, yFr.rf m⟩
      · by_cases q : 4 * a + r = C.1
        · have : r = 0 := by
            rcases Nat.eq_zero_or_pos r with z | z
            · exact z
            · have := ha16 z; omega
          rw [q, tE_n, if_neg (by omega)]
        · rw [tE_lt (by omega), if_pos (by omega)]
      · have ha16' : (yN a = 16) = True := by rw [h16]; exact eq_true rfl
        rw [f_178_4]
        simp only [z3, if_false]
        rw [yi_178_11, yBs, yi_178_12, yBs, h11, h12]
        by_cases q : yN C.1 ≤ yN (4 * a + r)
        · rw [if_pos q, yBs]
          simp only [ha16', if_true, pZ_0, yBs]
        · have q' : 4 * a + r < C.1 := by rw [yN_le (by omega) (by omega)] at q; omega
          rw [if_neg q, yr_178_9, yBs, yBs, ya_183 (by omega), yBs, yIte_some, yBs]
          simp only [ha16', if_true, pZ_0, yBs]
    · have n16 : (yN a = 16) = False := by rw [yN_eql (by omega) (by omega)]; exact eq_false h16
      by_cases hlt : 4 * a + r < C.1
      · rw [decide_eq_true hlt, Bool.true_and] at e175
        have h80 : 4 * a + r < 80 := by omega
        have nle : (yN C.1 ≤ yN (4 * a + r)) = False := by rw [yN_le (by omega) (by omega)]; exact eq_false (by omega)
        have hch := hT _ hlt
        have gz : (if (4 * a + r) % 4 = 0 then 0 else g) = g := by
          rw [m4]
          by_cases z : r = 0
          · rw [if_pos z]; omega
          · rw [if_neg z]
        by_cases c46 : C.2 (4 * a + r) = 46
        · have c46' : (C.2 (4 * a + r) = 46) = True := eq_true c46
          by_cases g2 : g = 2
          · have g2' : (yN g = 2) = True := by rw [g2]; exact eq_true rfl
            refine Or.inl ⟨4 * a + r, m, ?_, hn, ?_, h11, yFr.rf m⟩
            · rw [tE_lt hlt, if_neg (by omega), if_neg (by omega), if_pos c46, gz, if_pos g2]
            · rw [f_178_4]
              simp only [z3, if_false, yi_178_11, yBs, yi_178_12, h11, h12, nle, yr_178_9, ya_183 h80, hch, c46', if_true, n16, y10, g2', pZ_0]
          · have g2' : (yN g = 2) = False := by rw [yN_eql (by omega) (by omega)]; exact eq_false g2
            have te : tE C.2 C.1 (4 * a + r) g = tE C.2 C.1 (4 * a + (r + 1)) (g + 1) := by
              rw [tE_lt hlt, if_neg (by omega), if_neg (by omega), if_pos c46, gz, if_neg g2]; rfl
            have gf : yFr sP4 m (yW (yW m 184 (3 * a + r) (-1)) 178 11 (yN (4 * a + (r + 1)))) := (yFr.w (S := sP4) m (Or.inl rfl)).tr (yFr.w (S := sP4) _ (Or.inr ⟨rfl, rfl⟩)) (fun _ _ => orSelf)
            have w : ∀ j, (yW (yW m 184 (3 * a + r) (-1)) 178 11 (yN (4 * a + (r + 1)))).1 184 j = if j = 3 * a + r then -1 else m.1 184 j := fun j => by
              rw [yW_row (by omega), yW_get]
              by_cases q : j = 3 * a + r
              · rw [if_pos ⟨rfl, q⟩, if_pos q]
              · rw [if_neg (by omega), if_neg q]
            have w1 : (yW (yW m 184 (3 * a + r) (-1)) 178 11 (yN (4 * a + (r + 1)))).1 178 11 = yN (4 * a + (r + 1)) := by rw [yW_self, upd_eq]
            have k11 : (yW m 184 (3 * a + r) (-1)).1 178 11 = yN (4 * a + r) := by rw [yW_row (by omega)]; exact h11
            have st : f_178_4 (fu + 1) 178 (yN a) (yN g) (yN r) (yH κ m) = f_178_4 fu 178 (yN a) (yN (g + 1)) (yN (r + 1)) (yH κ (yW (yW m 184 (3 * a + r) (-1)) 178 11 (yN (4 * a + (r + 1))))) := by
              have s1 : f_163 1 (yH κ (yW m 184 (3 * a + r) (-1))) = some (1, yH κ (yW m 184 (3 * a + r) (-1))) := s163 true _
              rw [f_178_4]
              simp only [z3, if_false, yi_178_11, yBs, yi_178_12, h11, h12, nle, yr_178_9, ya_183 h80, hch, c46', if_true, n16, y10, g2', yr_178_14, yN_lmul, yN_add, yst_184 (show 3 * a + r < 48 by omega), s1, k11, yN_addl, yp_178_11]
              rfl
            rw [st, te]
            generalize yW (yW m 184 (3 * a + r) (-1)) 178 11 (yN (4 * a + (r + 1))) = m1 at *
            rcases ih (r + 1) fu m1 (g + 1) (by omega) (by omega) (by omega) (by omega) (by omega) (fun _ => by omega) w1 (by rw [gf.2 _ _ (by unfold sP4; omega)]; exact h12) (fun j hj => by rw [gf.2 _ _ (by unfold sP4; omega)]; exact hT j hj) with ⟨e, m', t', le', e', p', f'⟩ | ⟨g', m', t', l', a', e', p', v', u', f'⟩
            · exact Or.inl ⟨e, m', t', le', e', p', gf.tr f' (fun _ _ => orSelf)⟩
            · refine Or.inr ⟨g', m', t', l', a', e', p', fun s p q => ?_, fun j hj => by rw [u' j (by omega), w, if_neg (by omega)], gf.tr f' (fun _ _ => orSelf)⟩
              by_cases z : s = r
              · subst z; rw [u' _ (by omega), w, if_pos rfl, tV_at _ hr3, if_pos c46]
              · exact v' s (by omega) q
        · have c46' : (C.2 (4 * a + r) = 46) = False := eq_false c46
          cases hd : isD (C.2 (4 * a + r)) with
          | false =>
            rw [hd, yB_f] at e175
            refine Or.inl ⟨4 * a + r, m, ?_, hn, ?_, h11, yFr.rf m⟩
            · rw [tE_lt hlt, if_neg (by omega), if_neg (by omega), if_neg c46, hd, if_neg (by decide)]
            · rw [f_178_4]
              simp only [z3, if_false, yi_178_11, yBs, yi_178_12, h11, h12, nle, yr_178_9, ya_183 h80, hch, c46', if_true, n16, yis_178, pG_t, e175, pZ_0]
          | true =>
            rw [hd, yB_t] at e175
            have te : tE C.2 C.1 (4 * a + r) g = tE C.2 C.1 (4 * a + (r + 1)) g := by
              rw [tE_lt hlt, if_neg (by omega), if_neg (by omega), if_neg c46, hd, if_pos rfl, gz]; rfl
            have gf : yFr sP4 m (yW (yW m 184 (3 * a + r) (C.2 (4 * a + r) - 48)) 178 11 (yN (4 * a + (r + 1)))) := (yFr.w (S := sP4) m (Or.inl rfl)).tr (yFr.w (S := sP4) _ (Or.inr ⟨rfl, rfl⟩)) (fun _ _ => orSelf)
            have w : ∀ j, (yW (yW m 184 (3 * a + r) (C.2 (4 * a + r) - 48)) 178 11 (yN (4 * a + (r + 1)))).1 184 j = if j = 3 * a + r then C.2 (4 * a + r) - 48 else m.1 184 j := fun j => by
              rw [yW_row (by omega), yW_get]
              by_cases q : j = 3 * a + r
              · rw [if_pos ⟨rfl, q⟩, if_pos q]
              · rw [if_neg (by omega), if_neg q]
            have w1 : (yW (yW m 184 (3 * a + r) (C.2 (4 * a + r) - 48)) 178 11 (yN (4 * a + (r + 1)))).1 178 11 = yN (4 * a + (r + 1)) := by rw [yW_self, upd_eq]
            have k11 : (yW m 184 (3 * a + r) (C.2 (4 * a + r) - 48)).1 178 11 = yN (4 * a + r) := by rw [yW_row (by omega)]; exact h11
            have st : f_178_4 (fu + 1) 178 (yN a) (yN g) (yN r) (yH κ m) = f_178_4 fu 178 (yN a) (yN g) (yN (r + 1)) (yH κ (yW (yW m 184 (3 * a + r) (C.2 (4 * a + r) - 48)) 178 11 (yN (4 * a + (r + 1))))) := by
              have gp : yN g + 0 = yN g := yN_addl
              rw [f_178_4]
              simp only [z3, if_false, yi_178_11, yBs, yi_178_12, h11, h12, nle, yr_178_9, ya_183 h80, hch, c46', if_true, n16, yis_178, pG_t, e175, y10, yr_178_14, yN_lmul, yN_add, yst_184 (show 3 * a + r < 48 by omega), s163_0, k11, gp, yN_addl, yp_178_11]
              rfl
            rw [st, te]
            generalize yW (yW m 184 (3 * a + r) (C.2 (4 * a + r) - 48)) 178 11 (yN (4 * a + (r + 1))) = m1 at *
            rcases ih (r + 1) fu m1 g (by omega) (by omega) (by omega) (by omega) hg2 (fun _ => by omega) w1 (by rw [gf.2 _ _ (by unfold sP4; omega)]; exact h12) (fun j hj => by rw [gf.2 _ _ (by unfold sP4; omega)]; exact hT j hj) with ⟨e, m', t', le', e', p', f'⟩ | ⟨g', m', t', l', a', e', p', v', u', f'⟩
            · exact Or.inl ⟨e, m', t', le', e', p', gf.tr f' (fun _ _ => orSelf)⟩
            · refine Or.inr ⟨g', m', t', l', a', e', p', fun s p q => ?_, fun j hj => by rw [u' j (by omega), w, if_neg (by omega)], gf.tr f' (fun _ _ => orSelf)⟩
              by_cases z : s = r
              · subst z; rw [u' _ (by omega), w, if_pos rfl, tV_at _ hr3, if_neg c46]
              · exact v' s (by omega) q
      · have hnn : 4 * a + r = C.1 := by omega
        have nle : (yN C.1 ≤ yN (4 * a + r)) = True := by rw [yN_le (by omega) (by omega)]; exact eq_true (by omega)
        rw [decide_eq_false hlt, Bool.false_and, yB_f] at e175
        refine Or.inl ⟨4 * a + r, m, ?_, hn, ?_, h11, yFr.rf m⟩
        · rw [hnn, tE_n, if_neg (by omega)]
        · rw [f_178_4]
          simp only [z3, if_false, yi_178_11, yBs, yi_178_12, h11, h12, nle, if_true, n16, yis_178, pG_t, e175, pZ_0]
end TP
