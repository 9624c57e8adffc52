/-! ===== tower(): the tower is built ===== -/
def tI (f : Nat → Int32) (i : Nat) : Nat → Int32 := fun b => if b < 48 then (if 4 * (b / 3) + b % 3 < i then tV f b else -1) else 0
def tJ (f : Nat → Int32) (i k : Nat) : Prop := i / 4 ≤ k ∧ k ≤ i / 4 + 1 ∧ (k = i / 4 → ∀ r, r < i % 4 → isD (f (4 * (i / 4) + r)) = false) ∧ (i % 4 = 0 → k = i / 4)
theorem tI_N {f : Nat → Int32} {n N : Nat} (hN : (n = 0 ∧ N = 0) ∨ n + 1 = 4 * N) (h16 : N ≤ 16) : tI f n = tN f N := by
  funext b
  unfold tI tN
  by_cases h : b < 3 * N
  · rw [if_pos h, if_pos (by omega), if_pos (by omega)]
  · rw [if_neg h]
    by_cases h48 : b < 48
    · rw [if_pos h48, if_pos h48, if_neg (by omega)]
    · rw [if_neg h48, if_neg h48]
section TR
variable {κ : yK} {C : zC}
theorem s88q {m : yM} : f_88 6 (yH κ m) = some (yH κ (yW (yR m 7 (fun j => if j < 48 then -1 else m.1 7 j)) 6 4 0)) := by
  unfold f_88
  rw [yt_0 ytw_6, yBs, s266 (a := 6 + 1) (N := 48) rfl (by omega), yBs, yt_p ytw_6, yBs]
theorem s88_t {m : yM} (hz : ∀ j, 48 ≤ j → m.1 7 j = 0) : Tow (yW (yR m 7 (fun j => if j < 48 then -1 else m.1 7 j)) 6 4 0) 6 (tI C.2 0) 0 := by
  refine ⟨?_, by rw [yW_self, upd_eq]; rfl, fun l hl => absurd hl (Nat.not_lt_zero _)⟩
  rw [yW_row (by omega)]
  funext j
  rw [show 6 + 1 = 7 from rfl, yR_eq]
  unfold tI
  by_cases h : j < 48
  · rw [if_pos h, if_pos h, if_neg (by omega)]
  · rw [if_neg h, if_neg h]; exact hz j (by omega)
theorem s88_f {m : yM} : yFr (sT 6) m (yW (yR m 7 (fun j => if j < 48 then -1 else m.1 7 j)) 6 4 0) :=
  ⟨rfl, fun x j q => by unfold sT at q; rw [yW_row (by omega), yR_ne _ _ (by omega)]⟩
theorem s87_6 (oC : okC C) (hE : tE C.2 C.1 0 0 = none) : ∀ (d i fu : Nat) (m : yM) (k : Nat), i + d = C.1 → d < fu → Tow m 6 (tI C.2 i) k → tJ C.2 i k → cTx m C → ∃ m' k', f_87_6 fu 6 1 (yN i) (yH κ m) = some (yH κ m') ∧ Tow m' 6 (tI C.2 C.1) k' ∧ tJ C.2 C.1 k' ∧ yFr (sT 6) m m' := by
  have hC := oC.1
  intro d
  induction d with
  | zero =>
    intro i fu m k hi hf ht hj hT
    obtain ⟨fu, rfl⟩ : ∃ k, fu = k + 1 := ⟨fu - 1, by omega⟩
    obtain rfl : i = C.1 := by omega
    refine ⟨m, k, ?_, ht, hj, yFr.rf m⟩
    rw [f_87_6, yi_1_1, yBs, hT.1, if_pos (by rw [yN_le (by omega) (by omega)]; omega)]
  | succ d ih =>
    intro i fu m k hi hf ht hj hT
    obtain ⟨fu, rfl⟩ : ∃ k, fu = k + 1 := ⟨fu - 1, by omega⟩
    have hlt : i < C.1 := by omega
    obtain ⟨g, hg⟩ := tE_all hE i (by omega)
    obtain ⟨-, h16, h47, h46⟩ := tE_step hg hlt
    obtain ⟨j1, j2, j3, j4⟩ := hj
    obtain ⟨c, hc, ec⟩ := oC.2 i hlt
    have x4 := (ix123 ⟨c, hc⟩).2.2.2
    dsimp only at x4
    rw [← ec] at x4
    have e76 : f_76 1 (yN i) (yH κ m) = some (yB (isD (C.2 i)), yH κ m) := s76 hT hC hlt
    cases hd : isD (C.2 i) with
    | true =>
      have n3 : i % 4 ≠ 3 := fun q => (x4 hd).2 (h47 q)
      obtain ⟨m1, e1, t1, f1⟩ := s92 (κ := κ) (b := i / 4 * 3 + i % 4) (v := C.2 i - 48) ytw_6 ht (by omega) (by omega) (by omega)
      have hb3 : (i / 4 * 3 + i % 4) / 3 = i / 4 := by omega
      have eT : upd (tI C.2 i) (i / 4 * 3 + i % 4) (C.2 i - 48) = tI C.2 (i + 1) := by
        funext b
        by_cases q : b = i / 4 * 3 + i % 4
        · subst q
          rw [upd_eq]
          unfold tI
          have hx : 4 * ((i / 4 * 3 + i % 4) / 3) + (i / 4 * 3 + i % 4) % 3 = i := by omega
          rw [if_pos (by omega), if_pos (by omega)]
          unfold tV
          rw [hx, if_neg (x4 hd).1]
        · rw [upd_ne _ _ q]
          unfold tI
          by_cases h48 : b < 48
          · rw [if_pos h48, if_pos h48]
            by_cases q2 : 4 * (b / 3) + b % 3 < i
            · rw [if_pos q2, if_pos (by omega)]
            · rw [if_neg q2, if_neg (by omega)]
          · rw [if_neg h48, if_neg h48]
      rw [eT, hb3, show max k (i / 4 + 1) = i / 4 + 1 by omega] at t1
      obtain ⟨m', k', e', t', j', f'⟩ := ih (i + 1) fu m1 (i / 4 + 1) (by omega) (by omega) t1 ⟨by omega, by omega, fun q => by omega, fun q => by omega⟩ (hT.g (f1.g (fun _ _ => id)) (fun x j q => by unfold sT at q; omega))
      refine ⟨m', k', ?_, t', j', f1.tr f' (fun _ _ => orSelf)⟩
      rw [f_87_6, yi_1_1, yBs, hT.1, if_neg (by rw [yN_le (by omega) (by omega)]; omega), yis_1, pG_t, yBs, e76, hd, yBs]
      dsimp only
      rw [yB_t, if_neg (by decide), yp_div (by omega) (by omega) (by omega), yBs, yp_rem (by omega) (by omega) (by omega), yBs, yr_1_0, yBs, ya_2 (by omega), yBs, hT.2 i hlt, yt_is ytw_6, pG_t, yBs, yN_mull, yN_add, e1, yBs, yBs, yN_addl]
      exact e'
    | false =>
      have eT : tI C.2 i = tI C.2 (i + 1) := by
        funext b
        unfold tI
        by_cases h48 : b < 48
        · rw [if_pos h48, if_pos h48]
          by_cases q2 : 4 * (b / 3) + b % 3 < i
          · rw [if_pos q2, if_pos (by omega)]
          · rw [if_neg q2]
            by_cases q3 : 4 * (b / 3) + b % 3 < i + 1
            · have hx : 4 * (b / 3) + b % 3 = i := by omega
              rw [if_pos q3]
              unfold tV
              rw [hx]
              rcases h46 (by omega) with q | q
              · rw [if_pos q]
              · rw [hd] at q; exact absurd q (by decide)
            · rw [if_neg q3]
        · rw [if_neg h48, if_neg h48]
      rw [eT] at ht
      have hj' : tJ C.2 (i + 1) k := by
        by_cases n3 : i % 4 = 3
        · have hk : k = i / 4 + 1 := by
            rcases Nat.lt_or_ge k (i / 4 + 1) with q | q
            · exfalso
              have ke : k = i / 4 := by omega
              obtain ⟨g', hg'⟩ := tE_all hE (4 * (i / 4)) (by omega)
              have nd := j3 ke
              refine tE_lay hg' (by omega) ⟨?_, ?_, ?_⟩
              · obtain ⟨g2, hg2⟩ := tE_all hE (4 * (i / 4)) (by omega)
                rcases (tE_step hg2 (by omega)).2.2.2 (by omega) with q | q
                · exact q
                · have := nd 0 (by omega); rw [Nat.add_zero, q] at this; exact absurd this (by decide)
              · obtain ⟨g2, hg2⟩ := tE_all hE (4 * (i / 4) + 1) (by omega)
                rcases (tE_step hg2 (by omega)).2.2.2 (by omega) with q | q
                · exact q
                · have := nd 1 (by omega); rw [q] at this; exact absurd this (by decide)
              · obtain ⟨g2, hg2⟩ := tE_all hE (4 * (i / 4) + 2) (by omega)
                rcases (tE_step hg2 (by omega)).2.2.2 (by omega) with q | q
                · exact q
                · have := nd 2 (by omega); rw [q] at this; exact absurd this (by decide)
            · omega
          exact ⟨by omega, by omega, fun _ r hr => by omega, fun _ => by omega⟩
        · refine ⟨by omega, by omega, fun q r hr => ?_, fun q => by omega⟩
          have d4 : (i + 1) / 4 = i / 4 := by omega
          rw [d4] at q ⊢
          by_cases z : r = i % 4
          · have : 4 * (i / 4) + r = i := by omega
            rw [this]; exact hd
          · exact j3 q r (by omega)
      obtain ⟨m', k', e', t', j', f'⟩ := ih (i + 1) fu m k (by omega) (by omega) ht hj' hT
      refine ⟨m', k', ?_, t', j', f'⟩
      rw [f_87_6, yi_1_1, yBs, hT.1, if_neg (by rw [yN_le (by omega) (by omega)]; omega), yis_1, pG_t, yBs, e76, hd, yBs]
      dsimp only
      rw [yB_f, if_pos rfl, yBs, yN_addl]
      exact e'
theorem tJ_end (hE : tE C.2 C.1 0 0 = none) {N k : Nat} (hN : (C.1 = 0 ∧ N = 0) ∨ C.1 + 1 = 4 * N) (hj : tJ C.2 C.1 k) : k = N := by
  obtain ⟨j1, j2, j3, j4⟩ := hj
  rcases hN with ⟨h0, h1⟩ | h1
  · have := j4 (by omega); omega
  · rcases Nat.lt_or_ge k (C.1 / 4 + 1) with q | q
    · exfalso
      have nd := j3 (by omega)
      have st : ∀ r, r < 3 → C.2 (4 * (C.1 / 4) + r) = 46 := by
        intro r hr
        obtain ⟨g2, hg2⟩ := tE_all hE (4 * (C.1 / 4) + r) (by omega)
        rcases (tE_step hg2 (by omega)).2.2.2 (by omega) with q | q
        · exact q
        · have := nd r (by omega); rw [q] at this; exact absurd this (by decide)
      obtain ⟨g', hg'⟩ := tE_all hE (4 * (C.1 / 4)) (by omega)
      have := st 0 (by omega)
      rw [Nat.add_zero] at this
      exact tE_lay hg' (by omega) ⟨this, st 1 (by omega), st 2 (by omega)⟩
    · omega
/-- the reference's row is made empty -/
theorem m167_2 : ∀ (d k fu : Nat) (m : yM), k + d = 48 → d < fu → f_167_2 fu 180 (yN k) (yH κ m) = some (yH κ (yR m 180 (fun j => if k ≤ j ∧ j < 48 then -1 else m.1 180 j))) := by
  intro d
  induction d with
  | zero =>
    intro k fu m hk hf
    obtain ⟨fu, rfl⟩ : ∃ k, fu = k + 1 := ⟨fu - 1, by omega⟩
    rw [f_167_2, if_pos (by rw [yN_lle (by omega) (by omega)]; omega)]
    congr 2
    refine yM_ext (fun x j => ?_) (fun x j => rfl)
    by_cases h8 : x = 180
    · subst h8; rw [yR_eq, if_neg (by omega)]
    · rw [yR_ne _ _ h8]
  | succ d ih =>
    intro k fu m hk hf
    obtain ⟨fu, rfl⟩ : ∃ k, fu = k + 1 := ⟨fu - 1, by omega⟩
    rw [f_167_2, if_neg (by rw [yN_lle (by omega) (by omega)]; omega), yr_s yAr_180 (by omega), yBs, yN_addl, ih (k + 1) fu _ (by omega) (by omega)]
    congr 2
    refine yM_ext (fun x j => ?_) (fun x j => rfl)
    by_cases h8 : x = 180
    · subst h8
      rw [yR_eq, yR_eq]
      by_cases q : k + 1 ≤ j ∧ j < 48
      · rw [if_pos q, if_pos (by omega)]
      · rw [if_neg q, yW_get]
        by_cases q2 : j = k
        · rw [if_pos ⟨rfl, q2⟩, if_pos (by omega)]
        · rw [if_neg (by omega), if_neg (by omega)]
    · rw [yR_ne _ _ h8, yR_ne _ _ h8, yW_row h8]
theorem m167_21 : ∀ (d k fu : Nat) (m : yM), k + d = 54 → d < fu → f_167_21 fu 180 (yN k) (yH κ m) = some (yH κ (yR m 180 (fun j => if k ≤ j ∧ j < 54 then 0 else m.1 180 j))) := by
  intro d
  induction d with
  | zero =>
    intro k fu m hk hf
    obtain ⟨fu, rfl⟩ : ∃ k, fu = k + 1 := ⟨fu - 1, by omega⟩
    rw [f_167_21, if_pos (by rw [yN_lle (by omega) (by omega)]; omega)]
    congr 2
    refine yM_ext (fun x j => ?_) (fun x j => rfl)
    by_cases h8 : x = 180
    · subst h8; rw [yR_eq, if_neg (by omega)]
    · rw [yR_ne _ _ h8]
  | succ d ih =>
    intro k fu m hk hf
    obtain ⟨fu, rfl⟩ : ∃ k, fu = k + 1 := ⟨fu - 1, by omega⟩
    rw [f_167_21, if_neg (by rw [yN_lle (by omega) (by omega)]; omega), yr_s yAr_180 (by omega), yBs, yN_addl, ih (k + 1) fu _ (by omega) (by omega)]
    congr 2
    refine yM_ext (fun x j => ?_) (fun x j => rfl)
    by_cases h8 : x = 180
    · subst h8
      rw [yR_eq, yR_eq]
      by_cases q : k + 1 ≤ j ∧ j < 54
      · rw [if_pos q, if_pos (by omega)]
      · rw [if_neg q, yW_get]
        by_cases q2 : j = k
        · rw [if_pos ⟨rfl, q2⟩, if_pos (by omega)]
        · rw [if_neg (by omega), if_neg (by omega)]
    · rw [yR_ne _ _ h8, yR_ne _ _ h8, yW_row h8]
theorem m167 {m : yM} : ∃ m', f_167 180 (yH κ m) = some (yH κ m') ∧ (∀ j, j < 48 → m'.1 180 j = -1) ∧ (∀ j, 48 ≤ j → j < 54 → j ≠ 51 → m'.1 180 j = 0) ∧ m'.1 180 51 = -1 ∧ yFr (fun x _ => x = 180) m m' := by
  refine ⟨yW (yR (yR m 180 (fun j => if 0 ≤ j ∧ j < 48 then -1 else m.1 180 j)) 180 (fun j => if 48 ≤ j ∧ j < 54 then 0 else (yR m 180 (fun j => if 0 ≤ j ∧ j < 48 then -1 else m.1 180 j)).1 180 j)) 180 51 (-1), ?_, fun j hj => ?_, fun j hj hj2 hj3 => ?_, ?_, ⟨rfl, fun x j q => ?_⟩⟩
  · unfold f_167
    rw [show f_167_2 100000 180 0 = f_167_2 100000 180 (yN 0) from rfl, m167_2 48 0 100000 m (by omega) (by omega), yBs, show f_167_21 100000 180 48 = f_167_21 100000 180 (yN 48) from rfl, m167_21 6 48 100000 _ (by omega) (by omega), yBs, show (51 : Int32) = yN 51 from rfl, yr_s yAr_180 (by omega), yBs]
  · rw [yW_get, if_neg (by omega), yR_eq, if_neg (by omega), yR_eq, if_pos (by omega)]
  · rw [yW_get, if_neg (by omega), yR_eq, if_pos (by omega)]
  · rw [yW_self, upd_eq]
  · rw [yW_row q, yR_ne _ _ q, yR_ne _ _ q]
theorem m179_84 {N : Nat} (hN : N ≤ 16) : ∀ (d i fu : Nat) (m : yM), i + d = 3 * N → d < fu → ∃ m', f_179_84 fu 178 (yN N) (yN i) (yH κ m) = some (yH κ m') ∧ (∀ j, i ≤ j → j < 3 * N → m'.1 180 j = m.1 184 j) ∧ (∀ j, j < i ∨ 3 * N ≤ j → m'.1 180 j = m.1 180 j) ∧ yFr (fun x _ => x = 180) m m' := by
  intro d
  induction d with
  | zero =>
    intro i fu m hi hf
    obtain ⟨fu, rfl⟩ : ∃ k, fu = k + 1 := ⟨fu - 1, by omega⟩
    refine ⟨m, ?_, fun j p q => by omega, fun j _ => rfl, yFr.rf m⟩
    rw [f_179_84, yN_lmul, if_pos (by rw [yN_le (by omega) (by omega)]; omega)]
  | succ d ih =>
    intro i fu m hi hf
    obtain ⟨fu, rfl⟩ : ∃ k, fu = k + 1 := ⟨fu - 1, by omega⟩
    have g : yFr (fun x _ => x = 180) m (yW m 180 i (m.1 184 i)) := yFr.w m rfl
    have w : ∀ j, (yW m 180 i (m.1 184 i)).1 180 j = if j = i then m.1 184 i else m.1 180 j := fun j => by
      rw [yW_get]
      by_cases q : j = i
      · rw [if_pos ⟨rfl, q⟩, if_pos q]
      · rw [if_neg (by omega), if_neg q]
    have st : f_179_84 (fu + 1) 178 (yN N) (yN i) (yH κ m) = f_179_84 fu 178 (yN N) (yN (i + 1)) (yH κ (yW m 180 i (m.1 184 i))) := by
      rw [f_179_84, yN_lmul, if_neg (by rw [yN_le (by omega) (by omega)]; omega), yr_178_3, yBs, yr_178_14, yBs, ya_184 (by omega), yBs, yr_s yAr_180 (by omega), yBs, yN_addl]
    rw [st]
    generalize yW m 180 i (m.1 184 i) = m1 at *
    obtain ⟨m', e', a', b', f'⟩ := ih (i + 1) fu m1 (by omega) (by omega)
    refine ⟨m', e', fun j p q => ?_, fun j hj => by rw [b' j (by omega), w, if_neg (by omega)], g.tr f' (fun _ _ => orSelf)⟩
    by_cases r : j = i
    · subst r; rw [b' j (by omega), w, if_pos rfl]
    · rw [a' j (by omega) q, g.2 _ _ (by omega)]
end TR
