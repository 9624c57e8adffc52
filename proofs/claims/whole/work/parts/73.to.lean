/-! ===== tower(): the text ===== -/
theorem u16 : ∀ k : Fin 256, ((yN k.val).toUInt32 % 65536).toInt32 = yN k.val := by decide +kernel
theorem pIx_t {t : Nat} (ht : t < 19) (c : Int32) : pIx (xKb + 10 + t) c = some (xIx (xTxt.getD t []) c) := by
  unfold pIx
  rw [if_pos ⟨by omega, by rw [show xTxt.length = 19 from rfl]; omega⟩, show xKb + 10 + t - (xKb + 10) = t by omega]
section TX
variable {κ : yK} {m : yM} {C : zC}
theorem s77 {i t : Nat} (ht : t < 19) (hT : cTx m C) (oC : okC C) (hi : i < C.1) : f_77 1 (yN i) (xKb + 10 + t) (yH κ m) = some (yB (decide (0 ≤ xIx (xTxt.getD t []) (C.2 i))), yH κ m) := by
  have hC := oC.1
  obtain ⟨k, hk, e⟩ := oC.2 i hi
  have u := u16 ⟨k, hk⟩
  dsimp only at u
  unfold f_77
  rw [if_neg (by rw [yN_ltl (by omega) (by omega)]; omega), yi_1_1, yBs, hT.1, if_neg (by rw [yN_le (by omega) (by omega)]; omega), yr_1_0, yBs, ya_2 (by omega), yBs, hT.2 i hi, e, u, pIx_t ht, yBs]
  by_cases h : xIx (xTxt.getD t []) (yN k) < 0
  · rw [if_pos h, yBs, decide_eq_false (by intro q; rw [yLe_iff] at q; rw [yLt_iff] at h; omega)]; exact pZ_0 _
  · rw [if_neg h, yBs, decide_eq_true (yLe_of_lt h)]; exact pZ_1 _
end TX
theorem ix123 : ∀ k : Fin 256, decide (0 ≤ xIx (xTxt.getD 1 []) (yN k.val)) = decide (yN k.val = 47) ∧ decide (0 ≤ xIx (xTxt.getD 3 []) (yN k.val)) = decide (yN k.val = 46) ∧ decide (0 ≤ xIx (xTxt.getD 2 []) (yN k.val)) = (decide (yN k.val = 46) || isD (yN k.val)) ∧ (isD (yN k.val) = true → ¬ (yN k.val = 46) ∧ ¬ (yN k.val = 47)) := by decide +kernel
/-- where the text of a tower goes wrong -/
def tS (f : Nat → Int32) : Nat → Nat → Nat → Option Nat
  | 0, _, _ => none
  | d + 1, i, g => if 16 ≤ i / 4 then some i else if i % 4 = 3 then (if f i = 47 then tS f d (i + 1) g else some i) else if f i = 46 then (if (if i % 4 = 0 then 0 else g) = 2 then some i else tS f d (i + 1) ((if i % 4 = 0 then 0 else g) + 1)) else if isD (f i) = true then tS f d (i + 1) (if i % 4 = 0 then 0 else g) else some i
def tE (f : Nat → Int32) (n i g : Nat) : Option Nat := match tS f (n - i) i g with
  | some e => some e
  | none => if n = 0 ∨ n % 4 = 3 then none else some n
theorem tE_lt {f : Nat → Int32} {n i g : Nat} (h : i < n) : tE f n i g = if 16 ≤ i / 4 then some i else if i % 4 = 3 then (if f i = 47 then tE f n (i + 1) g else some i) else if f i = 46 then (if (if i % 4 = 0 then 0 else g) = 2 then some i else tE f n (i + 1) ((if i % 4 = 0 then 0 else g) + 1)) else if isD (f i) = true then tE f n (i + 1) (if i % 4 = 0 then 0 else g) else some i := by
  unfold tE
  rw [show n - i = (n - (i + 1)) + 1 by omega, tS]
  by_cases h1 : 16 ≤ i / 4
  · rw [if_pos h1, if_pos h1]
  · rw [if_neg h1, if_neg h1]
    by_cases h2 : i % 4 = 3
    · rw [if_pos h2, if_pos h2]
      by_cases h3 : f i = 47
      · rw [if_pos h3, if_pos h3]
      · rw [if_neg h3, if_neg h3]
    · rw [if_neg h2, if_neg h2]
      by_cases h3 : f i = 46
      · rw [if_pos h3, if_pos h3]
        by_cases h4 : (if i % 4 = 0 then 0 else g) = 2
        · rw [if_pos h4, if_pos h4]
        · rw [if_neg h4, if_neg h4]
      · rw [if_neg h3, if_neg h3]
        by_cases h4 : isD (f i) = true
        · rw [if_pos h4, if_pos h4]
        · rw [if_neg h4, if_neg h4]
theorem tE_n {f : Nat → Int32} {n g : Nat} : tE f n n g = if n = 0 ∨ n % 4 = 3 then none else some n := by
  unfold tE; rw [Nat.sub_self, tS]
theorem tE_g {f : Nat → Int32} {n i g : Nat} (h : i % 4 = 0) (hi : i ≤ n) : tE f n i g = tE f n i 0 := by
  by_cases q : i = n
  · subst q; rw [tE_n, tE_n]
  · have hl : i < n := by omega
    have n3 : ¬ i % 4 = 3 := by omega
    rw [tE_lt (g := g) hl, tE_lt (g := 0) hl]
    simp only [if_pos h, if_neg n3]
section TO
variable {κ : yK} {m : yM} {C : zC}
/-- Tower.wrongAt() -/
theorem s86_4 (hT : cTx m C) (oC : okC C) : ∀ (d i g fu : Nat), i + d = C.1 → d < fu → g ≤ 2 → f_86_4 fu 1 (yN g) (yN i) (yH κ m) = some (match tS C.2 d i g with | none => .inl (yH κ m) | some e => .inr (yN e, yH κ m)) := by
  have hC := oC.1
  intro d
  induction d with
  | zero =>
    intro i g fu hi hf hg
    obtain ⟨fu, rfl⟩ : ∃ k, fu = k + 1 := ⟨fu - 1, by omega⟩
    rw [f_86_4, yi_1_1, yBs, hT.1, if_pos (by rw [yN_le (by omega) (by omega)]; omega), tS]
  | succ d ih =>
    intro i g fu hi hf hg
    obtain ⟨fu, rfl⟩ : ∃ k, fu = k + 1 := ⟨fu - 1, by omega⟩
    obtain ⟨k, hk, e⟩ := oC.2 i (by omega)
    obtain ⟨x1, x3, x2, x4⟩ := ix123 ⟨k, hk⟩
    dsimp only at x1 x2 x3 x4
    rw [← e] at x1 x2 x3 x4
    have e1 : f_77 1 (yN i) (xKb + 10 + 1) (yH κ m) = some (yB (decide (C.2 i = 47)), yH κ m) := by rw [s77 (by omega) hT oC (by omega), x1]
    have e3 : f_77 1 (yN i) (xKb + 10 + 3) (yH κ m) = some (yB (decide (C.2 i = 46)), yH κ m) := by rw [s77 (by omega) hT oC (by omega), x3]
    have e2 : f_77 1 (yN i) (xKb + 10 + 2) (yH κ m) = some (yB (decide (C.2 i = 46) || isD (C.2 i)), yH κ m) := by rw [s77 (by omega) hT oC (by omega), x2]
    have ew : (if yN (i % 4) = 0 then some 0 else some (yN g) : Option Int32) = some (yN (if i % 4 = 0 then 0 else g)) := by
      by_cases q : i % 4 = 0
      · rw [if_pos (by rw [q]; rfl), if_pos q]; rfl
      · rw [if_neg (by rw [yN_eql (by omega) (by omega)]; exact q), if_neg q]
    have hg' : (if i % 4 = 0 then 0 else g) ≤ 2 := by split <;> omega
    rw [f_86_4, yi_1_1, yBs, hT.1, if_neg (by rw [yN_le (by omega) (by omega)]; omega), yp_rem (by omega) (by omega) (by omega), yBs, ew, yBs, yp_div (by omega) (by omega) (by omega), yBs, tS]
    by_cases h16 : 16 ≤ i / 4
    · rw [if_neg (by rw [yN_ltl (by omega) (by omega)]; omega), if_pos h16]
    · rw [if_pos (by rw [yN_ltl (by omega) (by omega)]; omega), if_neg h16]
      by_cases h3 : i % 4 = 3
      · rw [if_pos (by rw [h3]; rfl), if_pos h3, yis_1, pG_t, yBs, e1, yBs]
        dsimp only
        by_cases c47 : C.2 i = 47
        · have n46 : ¬ C.2 i = 46 := by rw [c47]; decide
          rw [decide_eq_true c47, yB_t, if_neg (by decide), yis_1, pG_t, yBs, e3, yBs]
          dsimp only
          have hg3 : (if i % 4 = 0 then 0 else g) = g := if_neg (by omega)
          rw [decide_eq_false n46, yB_f, if_pos rfl, yBs, hg3, show yN g + 0 = yN g from yN_addl, if_neg (by rw [yN_eql (by omega) (by omega)]; omega), if_pos c47, yN_addl]
          exact ih (i + 1) g fu (by omega) (by omega) hg
        · rw [decide_eq_false c47, yB_f, if_pos rfl, if_neg c47]
      · rw [if_neg (by rw [yN_eql (by omega) (by omega)]; exact h3), if_neg h3, yis_1, pG_t, yBs, e2, yBs]
        dsimp only
        generalize (if i % 4 = 0 then 0 else g) = g' at *
        by_cases c46 : C.2 i = 46
        · rw [decide_eq_true c46, Bool.true_or, yB_t, if_neg (by decide), yis_1, pG_t, yBs, e3, yBs]
          dsimp only
          rw [decide_eq_true c46, yB_t, if_neg (by decide), yBs, yN_addl, if_pos c46]
          by_cases q2 : g' = 2
          · rw [if_pos (by rw [q2]; rfl), if_pos q2]
          · rw [if_neg (by rw [yN_eql (by omega) (by omega)]; omega), if_neg q2, yN_addl]
            exact ih (i + 1) (g' + 1) fu (by omega) (by omega) (by omega)
        · rw [decide_eq_false c46, Bool.false_or, if_neg c46]
          cases hd : isD (C.2 i) with
          | false => rw [yB_f, if_pos rfl, if_neg (by decide)]
          | true =>
            rw [yB_t, if_neg (by decide), yis_1, pG_t, yBs, e3, yBs]
            dsimp only
            rw [decide_eq_false c46, yB_f, if_pos rfl, yBs, show yN g' + 0 = yN g' from yN_addl, if_neg (by rw [yN_eql (by omega) (by omega)]; omega), if_pos rfl, yN_addl]
            exact ih (i + 1) g' fu (by omega) (by omega) hg'
theorem s86 (hT : cTx m C) (oC : okC C) : f_86 1 (yH κ m) = some (match tE C.2 C.1 0 0 with | none => -1 | some e => yN e, yH κ m) := by
  have hC := oC.1
  unfold f_86 tE
  have := s86_4 (κ := κ) hT oC C.1 0 0 100000 (by omega) (by omega) (by omega)
  rw [show f_86_4 100000 1 0 0 = f_86_4 100000 1 (yN 0) (yN 0) from rfl, this, yBs, Nat.sub_zero]
  cases tS C.2 C.1 0 0 with
  | some e => rfl
  | none =>
    dsimp only
    rw [yi_1_1, yBs, hT.1]
    by_cases h0 : C.1 = 0
    · rw [if_pos (by rw [h0]; rfl), yBs, if_pos (Or.inl h0)]
    · rw [if_neg (by rw [yN_eql (by omega) (by omega)]; exact h0), yBs, yp_rem (by omega) (by omega) (by omega), yBs]
      by_cases h3 : C.1 % 4 = 3
      · rw [if_pos (by rw [h3]; rfl), yBs, if_pos (Or.inr h3)]
      · rw [if_neg (by rw [yN_eql (by omega) (by omega)]; exact h3), yBs, yBs, if_neg (by omega)]
end TO
/-- the block that the text tells of -/
def tV (f : Nat → Int32) (b : Nat) : Int32 := if f (4 * (b / 3) + b % 3) = 46 then -1 else f (4 * (b / 3) + b % 3) - 48
theorem tV_at (f : Nat → Int32) {a r : Nat} (hr : r < 3) : tV f (3 * a + r) = if f (4 * a + r) = 46 then -1 else f (4 * a + r) - 48 := by
  unfold tV
  rw [show (3 * a + r) / 3 = a by omega, show (3 * a + r) % 3 = r by omega]
