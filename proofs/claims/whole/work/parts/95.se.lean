/-! ===== rule(): the reference reads, its small steps ===== -/
theorem tLen : ∀ t : Fin 19, (xTxt.getD t.val []).length ≤ 30 := by decide +kernel
theorem pTl_t {t : Nat} (ht : t < 19) : pTl (xKb + 10 + t) = some (yN (xTxt.getD t []).length) := by
  unfold pTl
  rw [if_pos ⟨by omega, by rw [show xTxt.length = 19 from rfl]; omega⟩, show xKb + 10 + t - (xKb + 10) = t by omega]
theorem pTc_t {t k : Nat} (ht : t < 19) (hk : k < (xTxt.getD t []).length) : pTc (xKb + 10 + t) (yN k) = some ((xTxt.getD t []).getD k 0) := by
  have hl := tLen ⟨t, ht⟩
  dsimp only at hl
  have hc : (yN k).toNatClampNeg = k := yI_cl (by omega)
  unfold pTc
  rw [show xKb + 10 + t - (xKb + 10) = t by omega, hc, if_pos ⟨by omega, by rw [show xTxt.length = 19 from rfl]; omega, by
    rintro (q | q)
    · rw [yN_ltl (by omega) (by omega)] at q; omega
    · omega⟩]
def rEm (m : yM) (W : List Int32) : Prop := m.1 178 18 = yN W.length ∧ ∀ j c, W[j]? = some c → m.1 186 j = c
/-- where the reference reads and what it gave out -/
def rS (C : zC) (N : Nat) (m : yM) (i : Nat) (W : List Int32) : Prop := m.1 178 11 = yN i ∧ m.1 178 12 = yN N ∧ (∀ j, j < C.1 → m.1 183 j = C.2 j) ∧ rEm m W
def sRg (x j : Nat) : Prop := (x = 178 ∧ (j = 11 ∨ j = 13 ∨ j = 18)) ∨ x = 186
section SE
variable {κ : yK} {C : zC} {N : Nat}
theorem rS.at {m : yM} {i : Nat} {W : List Int32} (h : rS C N m i W) (j : Nat) : rS C N (yW m 178 11 (yN j)) j W :=
  ⟨by rw [yW_self, upd_eq], by rw [yW_get, if_neg (by omega)]; exact h.2.1, fun k hk => by rw [yW_row (by omega)]; exact h.2.2.1 k hk, by rw [yW_get, if_neg (by omega)]; exact h.2.2.2.1, fun k c q => by rw [yW_row (by omega)]; exact h.2.2.2.2 k c q⟩
theorem rS.dp {m : yM} {i : Nat} {W : List Int32} (h : rS C N m i W) (x : Int32) : rS C N (yW m 178 13 x) i W :=
  ⟨by rw [yW_get, if_neg (by omega)]; exact h.1, by rw [yW_get, if_neg (by omega)]; exact h.2.1, fun k hk => by rw [yW_row (by omega)]; exact h.2.2.1 k hk, by rw [yW_get, if_neg (by omega)]; exact h.2.2.2.1, fun k c q => by rw [yW_row (by omega)]; exact h.2.2.2.2 k c q⟩
theorem sRg_at {m : yM} {x : Int32} : yFr sRg m (yW m 178 11 x) := yFr.w m (Or.inl ⟨rfl, Or.inl rfl⟩)
theorem sRg_dp {m : yM} {x : Int32} : yFr sRg m (yW m 178 13 x) := yFr.w m (Or.inl ⟨rfl, Or.inr (Or.inl rfl)⟩)
theorem m181 {m : yM} {i : Nat} {W : List Int32} {c : Int32} (h : rS C N m i W) (hW : W.length < 40) : ∃ m', f_181 178 c (yH κ m) = some (yH κ m') ∧ rS C N m' i (W ++ [c]) ∧ m'.1 178 13 = m.1 178 13 ∧ yFr sRg m m' := by
  obtain ⟨h1, h2, h3, h4, h5⟩ := h
  have k18 : (yW m 186 W.length c).1 178 18 = yN W.length := by rw [yW_row (by omega)]; exact h4
  refine ⟨yW (yW m 186 W.length c) 178 18 (yN (W.length + 1)), ?_, ⟨?_, ?_, fun k hk => ?_, ?_, fun j d q => ?_⟩, ?_, (yFr.w (S := sRg) m (Or.inr rfl)).tr (yFr.w (S := sRg) _ (Or.inl ⟨rfl, Or.inr (Or.inr rfl)⟩)) (fun _ _ => orSelf)⟩
  · unfold f_181
    rw [yr_178_16, yBs, yi_178_18, yBs, h4, yst_186 (show W.length < 80 by omega), yBs, yi_178_18, yBs, k18, yN_addl, yp_178_18, yBs]
  · rw [yW_get, if_neg (by omega), yW_row (by omega)]; exact h1
  · rw [yW_get, if_neg (by omega), yW_row (by omega)]; exact h2
  · rw [yW_row (by omega), yW_row (by omega)]; exact h3 k hk
  · rw [yW_self, upd_eq, List.length_append]; rfl
  · rw [yW_row (by omega)]
    rcases listI_ap q with ⟨rfl, rfl⟩ | ⟨q1, q2⟩
    · rw [yW_self, upd_eq]
    · rw [yW_get, if_neg (by omega)]; exact h5 j d q2
  · rw [yW_get, if_neg (by omega), yW_row (by omega)]
theorem m176_2 {m : yM} {i t : Nat} {W : List Int32} (oC : okC C) (hN : N ≤ C.1) (ht : t < 19) (hi : i < N) (h : rS C N m i W) : ∀ (r q : List Int32) (fu : Nat), xTxt.getD t [] = q ++ r → r.length < fu → f_176_2 fu 178 (xKb + 10 + t) (yN q.length) (yH κ m) = some (match r.findIdx? (fun y => y == yN (ch C i)) with | some k => .inr (yN (q.length + k), yH κ m) | none => .inl (yH κ m)) := by
  have hl := tLen ⟨t, ht⟩
  dsimp only at hl
  have hC := oC.1
  intro r
  induction r with
  | nil =>
    intro q fu e hf
    obtain ⟨fu, rfl⟩ : ∃ k, fu = k + 1 := ⟨fu - 1, by omega⟩
    have el : (xTxt.getD t []).length = q.length := by rw [e, List.append_nil]
    rw [f_176_2, pTl_t ht, yBs, el, if_pos (by rw [yN_le (by omega) (by omega)]; omega)]
    rfl
  | cons x r ih =>
    intro q fu e hf
    obtain ⟨fu, rfl⟩ : ∃ k, fu = k + 1 := ⟨fu - 1, by omega⟩
    have el : (xTxt.getD t []).length = q.length + (r.length + 1) := by rw [e, List.length_append]; rfl
    have ex : (xTxt.getD t []).getD q.length 0 = x := by rw [e]; simp
    have ea : pAi (yH κ m) 183 (yN i) = some (yN (ch C i)) := by rw [show pAi (yH κ m) 183 (yN i) = _ from ya_183 (by omega), h.2.2.1 i (by omega), (ch_e oC (show i < C.1 by omega)).2]
    rw [f_176_2, pTl_t ht, yBs, if_neg (by rw [yN_le (by omega) (by omega)]; omega), yi_178_11, yBs, yi_178_12, yBs, h.1, h.2.1, if_neg (by rw [yN_le (by omega) (by omega)]; omega), pTc_t ht (by omega), yBs, ex, yr_178_9, yBs, yBs, ea, yBs, List.findIdx?_cons]
    by_cases hx : x = yN (ch C i)
    · rw [if_pos hx, if_pos (by rw [hx]; exact beq_self_eq_true _)]; rfl
    · have e2 : yN q.length + 1 = yN (q ++ [x]).length := by rw [yN_addl, List.length_append]; rfl
      rw [if_neg hx, if_neg (by simp [hx]), e2, ih (q ++ [x]) fu (by rw [e, List.append_assoc]; rfl) (by simp at hf; omega)]
      cases r.findIdx? (fun y => y == yN (ch C i)) with
      | none => rfl
      | some k => simp only [Option.map_some, List.length_append, List.length_cons, List.length_nil]; rw [show q.length + (0 + 1) + k = q.length + (k + 1) by omega]
theorem m176g {m : yM} {i t : Nat} {W : List Int32} (oC : okC C) (hN : N ≤ C.1) (ht : t < 19) (hi : i ≤ N) (h : rS C N m i W) : f_176 178 (xKb + 10 + t) (yH κ m) = some (if i < N then xIx (xTxt.getD t []) (yN (ch C i)) else -1, yH κ m) := by
  have hl := tLen ⟨t, ht⟩
  dsimp only at hl
  have hC := oC.1
  unfold f_176
  by_cases z : i < N
  · rw [show (0 : Int32) = yN ([] : List Int32).length from rfl, m176_2 oC hN ht z h (xTxt.getD t []) [] 100000 rfl (by omega), yBs, if_pos z]
    unfold xIx
    cases (xTxt.getD t []).findIdx? (fun y => y == yN (ch C i)) with
    | none => rfl
    | some k => dsimp only; rw [List.length_nil, Nat.zero_add]
  · rw [if_neg z, show (100000 : Nat) = 99999 + 1 from rfl, f_176_2, pTl_t ht, yBs, show (0 : Int32) = yN 0 from rfl]
    by_cases z0 : (xTxt.getD t []).length = 0
    · rw [if_pos (by rw [yN_le (by omega) (by omega)]; omega), yBs]
    · rw [if_neg (by rw [yN_le (by omega) (by omega)]; omega), yi_178_11, yBs, yi_178_12, yBs, h.1, h.2.1, if_pos (by rw [yN_le (by omega) (by omega)]; omega), yBs]
theorem m182_34 {F2 : Nat → xH → Option (Int32 × xH)} {F3 : Nat → Int32 → xH → Option (Int32 × xH)} (oC : okC C) (hN : N ≤ C.1) : ∀ (k i v fu : Nat) (m : yM) (W : List Int32), k ≤ 3 → k < fu → i ≤ N → rS C N m i W → ∃ m', f_182_34 F2 F3 fu 178 (yN v) (yN (3 - k)) (yH κ m) = some (yN (rDg (ch C) N k i v).1, yH κ m') ∧ rS C N m' (rDg (ch C) N k i v).2 W ∧ m'.1 178 13 = m.1 178 13 ∧ yFr sRg m m' := by
  have hC := oC.1
  intro k
  induction k with
  | zero =>
    intro i v fu m W hk hf hi h
    obtain ⟨fu, rfl⟩ : ∃ k, fu = k + 1 := ⟨fu - 1, by omega⟩
    rw [rDg]
    refine ⟨m, ?_, h, rfl, yFr.rf m⟩
    rw [f_182_34, if_pos (by decide)]
  | succ k ih =>
    intro i v fu m W hk hf hi h
    obtain ⟨fu, rfl⟩ : ∃ k, fu = k + 1 := ⟨fu - 1, by omega⟩
    have e5 := m175N (κ := κ) oC h.1 h.2.1 hN hi h.2.2.1
    rw [rDg, f_182_34, if_neg (by rw [yN_lle (by omega) (by omega)]; show ¬ 3 ≤ _; omega), yis_178, pG_t, yBs, e5, yBs]
    dsimp only
    by_cases q : i < N ∧ dig (ch C i) = true
    · have hd := of_decide_eq_true q.2
      obtain ⟨m', a, b, c, e⟩ := ih (i + 1) (10 * v + (ch C i - 48)) fu (yW m 178 11 (yN (i + 1))) W (by omega) (by omega) (by omega) (h.at (i + 1))
      rw [if_pos q, decide_eq_true q.1, q.2]
      refine ⟨m', ?_, b, by rw [c, yW_get, if_neg (by omega)], sRg_at.tr e (fun _ _ => orSelf)⟩
      rw [show yB (true && true) = 1 from rfl, if_neg (by decide), yr_178_9, yBs]
      simp only [yi_178_11, yBs, h.1, ya_183 (show i < 80 by omega), h.2.2.1 i (show i < C.1 by omega), (ch_e oC (show i < C.1 by omega)).2, yN_addl, yp_178_11, yN_lmul, yN_add]
      rw [yN_subl (by omega), show 10 * v + ch C i - 48 = 10 * v + (ch C i - 48) by omega, show 3 - (k + 1) + 1 = 3 - k by omega]
      exact a
    · rw [if_neg q]
      refine ⟨m, ?_, h, rfl, yFr.rf m⟩
      have : (decide (i < N) && dig (ch C i)) = false := by
        cases z : (decide (i < N) && dig (ch C i)) with
        | false => rfl
        | true => rw [Bool.and_eq_true, decide_eq_true_eq] at z; exact absurd z q
      rw [this, yB_f, if_pos rfl]
end SE
