/-! ===== tower(): layers; what a good text is ===== -/
theorem tE_step {f : Nat → Int32} {n i g : Nat} (h : tE f n i g = none) (hi : i < n) : (∃ g', tE f n (i + 1) g' = none) ∧ i / 4 < 16 ∧ (i % 4 = 3 → f i = 47) ∧ (i % 4 ≠ 3 → f i = 46 ∨ isD (f i) = true) := by
  rw [tE_lt hi] at h
  by_cases h1 : 16 ≤ i / 4
  · rw [if_pos h1] at h; simp at h
  · rw [if_neg h1] at h
    by_cases h2 : i % 4 = 3
    · rw [if_pos h2] at h
      by_cases h3 : f i = 47
      · rw [if_pos h3] at h; exact ⟨⟨_, h⟩, by omega, fun _ => h3, fun q => absurd h2 q⟩
      · rw [if_neg h3] at h; simp at h
    · rw [if_neg h2] at h
      by_cases h3 : f i = 46
      · rw [if_pos h3] at h
        by_cases h4 : (if i % 4 = 0 then 0 else g) = 2
        · rw [if_pos h4] at h; simp at h
        · rw [if_neg h4] at h; exact ⟨⟨_, h⟩, by omega, fun q => absurd q h2, fun _ => Or.inl h3⟩
      · rw [if_neg h3] at h
        by_cases h4 : isD (f i) = true
        · rw [if_pos h4] at h; exact ⟨⟨_, h⟩, by omega, fun q => absurd q h2, fun _ => Or.inr h4⟩
        · rw [if_neg h4] at h; simp at h
theorem tE_all {f : Nat → Int32} {n : Nat} (h : tE f n 0 0 = none) : ∀ i, i ≤ n → ∃ g, tE f n i g = none
  | 0, _ => ⟨0, h⟩
  | i + 1, hi => by
    obtain ⟨g, hg⟩ := tE_all h i (by omega)
    exact (tE_step hg (by omega)).1
theorem tE_lay {f : Nat → Int32} {n a g : Nat} (h : tE f n (4 * a) g = none) (hn : 4 * a + 2 < n) : ¬ (f (4 * a) = 46 ∧ f (4 * a + 1) = 46 ∧ f (4 * a + 2) = 46) := by
  rintro ⟨h0, h1, h2⟩
  have q0 : (4 * a) % 4 = 0 := by omega
  have q1 : (4 * a + 1) % 4 = 1 := by omega
  have q2 : (4 * a + 1 + 1) % 4 = 2 := by omega
  rw [tE_lt (by omega)] at h
  by_cases g0 : 16 ≤ 4 * a / 4
  · rw [if_pos g0] at h; simp at h
  · rw [if_neg g0, if_neg (by omega), if_pos h0, if_pos q0, if_neg (by omega), tE_lt (by omega)] at h
    by_cases g1 : 16 ≤ (4 * a + 1) / 4
    · rw [if_pos g1] at h; simp at h
    · rw [if_neg g1, if_neg (by omega), if_pos h1, if_neg (show ¬ (4 * a + 1) % 4 = 0 by omega), if_neg (by omega), tE_lt (by omega)] at h
      by_cases g2 : 16 ≤ (4 * a + 1 + 1) / 4
      · rw [if_pos g2] at h; simp at h
      · rw [if_neg g2, if_neg (by omega), if_pos h2, if_neg (show ¬ (4 * a + 1 + 1) % 4 = 0 by omega), if_pos rfl] at h; simp at h
section TQ
variable {κ : yK} {C : zC}
theorem m174 {m : yM} {i : Nat} {c : Int32} (h11 : m.1 178 11 = yN i) (h12 : m.1 178 12 = yN C.1) (hC : C.1 ≤ 80) (hi : i ≤ C.1) (hT : ∀ j, j < C.1 → m.1 183 j = C.2 j) : f_174 178 c (yH κ m) = some (yB (decide (i < C.1) && decide (C.2 i = c)), yH κ (yW m 178 11 (yN (i + (decide (i < C.1) && decide (C.2 i = c)).toNat)))) := by
  unfold f_174
  rw [yi_178_11, yBs, yi_178_12, yBs, h11, h12]
  by_cases h : i < C.1
  · rw [if_neg (by rw [yN_le (by omega) (by omega)]; omega), decide_eq_true h, Bool.true_and]
    by_cases q : C.2 i = c
    · rw [decide_eq_true q]
      simp only [yr_178_9, yBs, ya_183 (show i < 80 by omega), hT i h, if_pos q]
      rw [show f_163 1 (yH κ m) = some (1, yH κ m) from s163 true _, yBs]
      dsimp only
      rw [yN_addl, yp_178_11, yBs]
      exact pZ_1 _
    · rw [decide_eq_false q]
      simp only [yr_178_9, yBs, ya_183 (show i < 80 by omega), hT i h, if_neg q]
      rw [s163_0, yBs]
      dsimp only
      rw [show yN i + 0 = yN i from yN_addl, yp_178_11, yBs]
      exact pZ_0 _
  · rw [if_pos (by rw [yN_le (by omega) (by omega)]; omega), decide_eq_false h, Bool.false_and]
    simp only [yBs]
    rw [s163_0, yBs]
    dsimp only
    rw [show yN i + 0 = yN i from yN_addl, yp_178_11, yBs]
    exact pZ_0 _
theorem m179_e {fu : Nat} {w : Int32} {m : yM} : f_179_24 (fu + 1) 178 w 0 (yH κ m) = some (.inl (w, yH κ m)) := by
  rw [f_179_24, if_pos rfl]
theorem m179_24 (oC : okC C) (hC0 : 0 < C.1) : ∀ (d a fu : Nat) (m : yM), a + d = 16 → d + 1 < fu → 4 * a ≤ C.1 → m.1 178 11 = yN (4 * a) → m.1 178 12 = yN C.1 → (∀ j, j < C.1 → m.1 183 j = C.2 j) →
    (∃ e m', tE C.2 C.1 (4 * a) 0 = some e ∧ e ≤ C.1 ∧ yFr sP4 m m' ∧ (f_179_24 fu 178 (yN a) 1 (yH κ m) = some (.inr (-1 - yN e, yH κ m')) ∨ ∃ w, f_179_24 fu 178 (yN a) 1 (yH κ m) = some (.inl (w, yH κ m')) ∧ m'.1 178 11 = yN e ∧ e < C.1)) ∨
    (∃ N m', tE C.2 C.1 (4 * a) 0 = none ∧ C.1 + 1 = 4 * N ∧ N ≤ 16 ∧ f_179_24 fu 178 (yN a) 1 (yH κ m) = some (.inl (yN N, yH κ m')) ∧ m'.1 178 11 = yN C.1 ∧ (∀ b, 3 * a ≤ b → b < 3 * N → m'.1 184 b = tV C.2 b) ∧ (∀ j, j < 3 * a → m'.1 184 j = m.1 184 j) ∧ yFr sP4 m m') := by
  have hC := oC.1
  intro d
  induction d with
  | zero =>
    intro a fu m ha hf hn h11 h12 hT
    obtain ⟨fu, rfl⟩ : ∃ k, fu = k + 1 := ⟨fu - 1, by omega⟩
    obtain rfl : a = 16 := by omega
    rcases m178_4 (κ := κ) oC hC0 (a := 16) (by omega) 3 0 100000 m 0 rfl (by omega) hn (by omega) (by omega) (fun q => by omega) h11 h12 hT with ⟨e, m', t', le', e', p', f'⟩ | ⟨g', m', t', l', a', -⟩
    · refine Or.inl ⟨e, m', t', le', f', Or.inl ?_⟩
      rw [f_179_24, if_neg (by decide), yis_178, pG_t, yBs]
      unfold f_178
      rw [show f_178_4 100000 178 (yN 16) 0 0 = f_178_4 100000 178 (yN 16) (yN 0) (yN 0) from rfl, e', yBs]
      dsimp only
      rw [yBs]
      dsimp only
      rw [if_pos rfl, yi_178_11, yBs, p']
    · omega
  | succ d ih =>
    intro a fu m ha hf hn h11 h12 hT
    obtain ⟨fu, rfl⟩ : ∃ k, fu = k + 2 := ⟨fu - 2, by omega⟩
    rcases m178_4 (κ := κ) oC hC0 (a := a) (by omega) 3 0 100000 m 0 rfl (by omega) hn (by omega) (by omega) (fun q => by omega) h11 h12 hT with ⟨e, m', t', le', e', p', f'⟩ | ⟨g', m1, t', l', a', e', p', v', u', f'⟩
    · refine Or.inl ⟨e, m', t', le', f', Or.inl ?_⟩
      rw [f_179_24, if_neg (by decide), yis_178, pG_t, yBs]
      unfold f_178
      rw [show f_178_4 100000 178 (yN a) 0 0 = f_178_4 100000 178 (yN a) (yN 0) (yN 0) from rfl, e', yBs]
      dsimp only
      rw [yBs]
      dsimp only
      rw [if_pos rfl, yi_178_11, yBs, p']
    · rw [Nat.add_zero] at t'
      have h12' : m1.1 178 12 = yN C.1 := by rw [f'.2 _ _ (by unfold sP4; omega)]; exact h12
      have hT' : ∀ j, j < C.1 → m1.1 183 j = C.2 j := fun j hj => by rw [f'.2 _ _ (by unfold sP4; omega)]; exact hT j hj
      have st : f_179_24 (fu + 2) 178 (yN a) 1 (yH κ m) = f_179_24 (fu + 1) 178 (yN (a + 1)) (yB (decide (4 * a + 3 < C.1) && decide (C.2 (4 * a + 3) = 47))) (yH κ (yW m1 178 11 (yN (4 * a + 3 + (decide (4 * a + 3 < C.1) && decide (C.2 (4 * a + 3) = 47)).toNat)))) := by
        rw [f_179_24, if_neg (by decide), yis_178, pG_t, yBs]
        unfold f_178
        rw [show f_178_4 100000 178 (yN a) 0 0 = f_178_4 100000 178 (yN a) (yN 0) (yN 0) from rfl, e', yBs]
        dsimp only
        rw [pZ_1, yBs]
        dsimp only
        rw [if_neg (by decide), yis_178, pG_t, yBs, m174 p' h12' hC (by omega) hT', yBs, yN_addl]
      have gW : ∀ v, yFr sP4 m (yW m1 178 11 v) := fun v => f'.tr (yFr.w (S := sP4) m1 (Or.inr ⟨rfl, rfl⟩)) (fun _ _ => orSelf)
      rw [st, t']
      by_cases hlt : 4 * a + 3 < C.1
      · rw [decide_eq_true hlt, Bool.true_and, tE_lt hlt, if_neg (by omega), if_pos (by omega)]
        by_cases c47 : C.2 (4 * a + 3) = 47
        · rw [if_pos c47, decide_eq_true c47, show 4 * a + 3 + 1 = 4 * (a + 1) by omega, tE_g (by omega) (by omega)]
          have w : ∀ j, (yW m1 178 11 (yN (4 * a + 3 + true.toNat))).1 184 j = m1.1 184 j := fun j => by rw [yW_row (by omega)]
          have w1 : (yW m1 178 11 (yN (4 * a + 3 + true.toNat))).1 178 11 = yN (4 * (a + 1)) := by rw [yW_self, upd_eq]; congr 1
          have gW' := gW (yN (4 * a + 3 + true.toNat))
          rw [yB_t]
          generalize yW m1 178 11 (yN (4 * a + 3 + true.toNat)) = m2 at *
          rcases ih (a + 1) (fu + 1) m2 (by omega) (by omega) (by omega) w1 (by rw [gW'.2 _ _ (by unfold sP4; omega)]; exact h12) (fun j hj => by rw [gW'.2 _ _ (by unfold sP4; omega)]; exact hT j hj) with ⟨e, m', t2, le2, f2, e2⟩ | ⟨N, m', t2, n2, l2, e2, p2, v2, u2, f2⟩
          · exact Or.inl ⟨e, m', t2, le2, gW'.tr f2 (fun _ _ => orSelf), e2⟩
          · refine Or.inr ⟨N, m', t2, n2, l2, e2, p2, fun b p q => ?_, fun j hj => by rw [u2 j (by omega), w, u' j (by omega)], gW'.tr f2 (fun _ _ => orSelf)⟩
            by_cases z : b < 3 * (a + 1)
            · rw [u2 b z, w]
              have := v' (b - 3 * a) (by omega) (by omega)
              rw [show 3 * a + (b - 3 * a) = b by omega] at this; exact this
            · exact v2 b (by omega) q
        · rw [if_neg c47, decide_eq_false c47, yB_f, m179_e]
          exact Or.inl ⟨4 * a + 3, _, rfl, by omega, gW _, Or.inr ⟨_, rfl, by rw [yW_self, upd_eq]; rfl, hlt⟩⟩
      · have hnn : 4 * a + 3 = C.1 := by omega
        rw [decide_eq_false hlt, Bool.false_and, yB_f, m179_e, hnn, tE_n, if_pos (by omega)]
        refine Or.inr ⟨a + 1, _, rfl, by omega, by omega, rfl, by rw [yW_self, upd_eq]; rfl, fun b p q => ?_, fun j hj => by rw [yW_row (by omega), u' j (by omega)], gW _⟩
        rw [yW_row (by omega)]
        have := v' (b - 3 * a) (by omega) (by omega)
        rw [show 3 * a + (b - 3 * a) = b by omega] at this; exact this
end TQ
/-- the tower that a good text tells of -/
def tN (f : Nat → Int32) (N : Nat) : Nat → Int32 := fun b => if b < 3 * N then tV f b else if b < 48 then -1 else 0
theorem tN_ok {C : zC} (oC : okC C) {N : Nat} (h : tE C.2 C.1 0 0 = none) (hN : (C.1 = 0 ∧ N = 0) ∨ C.1 + 1 = 4 * N) (h16 : N ≤ 16) : tOk (tN C.2 N) N ∧ ∀ j, 48 ≤ j → tN C.2 N j = 0 := by
  refine ⟨⟨h16, fun b hb => ?_, fun b hb h48 => ?_, fun l hl => ?_⟩, fun j hj => ?_⟩
  · unfold tN
    by_cases q : b < 3 * N
    · rw [if_pos q]
      unfold tV
      have hi : 4 * (b / 3) + b % 3 < C.1 := by omega
      obtain ⟨g, hg⟩ := tE_all h _ (Nat.le_of_lt hi)
      rcases (tE_step hg hi).2.2.2 (by omega) with h46 | hd
      · rw [if_pos h46]; exact Or.inl rfl
      · by_cases h46 : C.2 (4 * (b / 3) + b % 3) = 46
        · rw [if_pos h46]; exact Or.inl rfl
        · rw [if_neg h46]
          obtain ⟨x, hx, e⟩ := digN oC hi hd
          rw [e]
          exact Or.inr ⟨by rw [yN_lle (by omega) (by omega)]; omega, by rw [yN_lel (by omega) (by omega)]; omega⟩
    · rw [if_neg q, if_pos hb]; exact Or.inl rfl
  · unfold tN; rw [if_neg (by omega), if_pos h48]
  · have hi : 4 * l + 2 < C.1 := by omega
    obtain ⟨g, hg⟩ := tE_all h (4 * l) (by omega)
    have hl3 := tE_lay hg hi
    have key : ∀ r, r < 3 → ¬ C.2 (4 * l + r) = 46 → tHas (tN C.2 N) (3 * l + r) = true := by
      intro r hr hc
      have hlt : 4 * l + r < C.1 := by omega
      obtain ⟨g', hg'⟩ := tE_all h (4 * l + r) (by omega)
      rcases (tE_step hg' hlt).2.2.2 (by omega) with h46 | hd
      · exact absurd h46 hc
      · obtain ⟨x, hx, e⟩ := digN oC hlt hd
        unfold tHas tN
        rw [if_pos (by omega), tV_at _ hr, if_neg hc, e, decide_eq_true (by omega), Bool.true_and]
        rw [decide_eq_false (by rw [yN_eqm (by omega)]; exact id)]; rfl
    unfold tBl
    by_cases c0 : C.2 (4 * l) = 46
    · by_cases c1 : C.2 (4 * l + 1) = 46
      · have c2 : ¬ C.2 (4 * l + 2) = 46 := fun q => hl3 ⟨c0, c1, q⟩
        rw [key 2 (by omega) c2]; exact Nat.lt_of_lt_of_le (Nat.zero_lt_one) (Nat.le_add_left _ _)
      · rw [key 1 (by omega) c1]; show 0 < _ + 1 + _; omega
    · have := key 0 (by omega) c0
      rw [Nat.add_zero] at this
      rw [this]; show 0 < 1 + _ + _; omega
  · unfold tN; rw [if_neg (by omega), if_neg (by omega)]
