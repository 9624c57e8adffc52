/-! ===== rule() ===== -/
def rcv (c : Int32) : Prop := c = 3000 ∨ (2000 ≤ c ∧ c ≤ 2006) ∨ (0 ≤ c ∧ c < 1010)
theorem rDp_v {c : Int32} {r : List Int32} {k a : Nat} (h : rDp (c :: r) k = some a) : rcv c ∧ ∃ k', rDp r k' = some a := by
  rw [rDp] at h
  by_cases h1 : c = 3000
  · rw [if_pos h1] at h
    split at h
    · exact ⟨Or.inl h1, _, h⟩
    · simp at h
  · rw [if_neg h1] at h
    by_cases h2 : 2000 ≤ c
    · rw [if_pos h2] at h
      split at h
      next q => exact ⟨Or.inr (Or.inl ⟨h2, q.2⟩), _, h⟩
      · simp at h
    · rw [if_neg h2] at h
      split at h
      next q => exact ⟨Or.inr (Or.inr q), _, h⟩
      · simp at h
theorem rcv_7 {c : Int32} (h1 : 2000 ≤ c) (h2 : c ≤ 2006) : ∃ k : Fin 7, c = 2000 + yN k.val := by
  rcases c7 h1 h2 with rfl | rfl | rfl | rfl | rfl | rfl | rfl
  · exact ⟨0, rfl⟩
  · exact ⟨1, rfl⟩
  · exact ⟨2, rfl⟩
  · exact ⟨3, rfl⟩
  · exact ⟨4, rfl⟩
  · exact ⟨5, rfl⟩
  · exact ⟨6, rfl⟩
theorem rcv_f : ∀ a b : Fin 7, rCv (2000 + yN a.val) = rCv (2000 + yN b.val) → a = b := by decide +kernel
theorem rcv_n : ∀ a : Fin 7, rCv (2000 + yN a.val) ≠ 3000 ∧ 1010 ≤ rCv (2000 + yN a.val) := by decide +kernel
theorem rCv_i {c d : Int32} (hc : rcv c) (hd : rcv d) (h : rCv c = rCv d) : c = d := by
  have n3 : ∀ x : Int32, x < 1010 → ¬ 2000 ≤ x := fun x q => by rw [yLe_iff]; rw [yLt_iff] at q; have e1 : (1010 : Int32).toInt = 1010 := rfl; have e2 : (2000 : Int32).toInt = 2000 := rfl; omega
  have n4 : ∀ x : Int32, x < 1010 → ¬ 1010 ≤ x := fun x q => by rw [yLe_iff]; rw [yLt_iff] at q; omega
  have e3 : rCv 3000 = 3000 := by decide
  have n5 : ∀ x : Int32, x < 1010 → x ≠ 3000 := fun x q z => by subst z; exact absurd q (by decide)
  rcases hc with rfl | ⟨c1, c2⟩ | ⟨c1, c2⟩
  · rcases hd with rfl | ⟨d1, d2⟩ | ⟨d1, d2⟩
    · rfl
    · obtain ⟨k, rfl⟩ := rcv_7 d1 d2
      exact absurd (h.symm.trans e3) (rcv_n k).1
    · rw [rCv_1 (n3 d d2), e3] at h; exact h
  · obtain ⟨k, rfl⟩ := rcv_7 c1 c2
    rcases hd with rfl | ⟨d1, d2⟩ | ⟨d1, d2⟩
    · exact absurd (h.trans e3) (rcv_n k).1
    · obtain ⟨l, rfl⟩ := rcv_7 d1 d2
      rw [rcv_f k l h]
    · rw [rCv_1 (n3 d d2)] at h
      exact absurd (h ▸ (rcv_n k).2) (n4 d d2)
  · rw [rCv_1 (n3 c c2)] at h
    rcases hd with rfl | ⟨d1, d2⟩ | ⟨d1, d2⟩
    · exact absurd (h.trans e3) (n5 c c2)
    · obtain ⟨l, rfl⟩ := rcv_7 d1 d2
      exact absurd (h ▸ (rcv_n l).2) (n4 c c2)
    · rw [rCv_1 (n3 d d2)] at h; exact h
theorem rCv_inj : ∀ {V W : List Int32} {k l a b : Nat}, rDp V k = some a → rDp W l = some b → V.map rCv = W.map rCv → V = W
  | [], [], _, _, _, _, _, _, _ => rfl
  | [], _ :: _, _, _, _, _, _, _, h => by simp at h
  | _ :: _, [], _, _, _, _, _, _, h => by simp at h
  | c :: r, d :: s, k, l, a, b, h1, h2, h => by
    obtain ⟨v1, k', h1'⟩ := rDp_v h1
    obtain ⟨v2, l', h2'⟩ := rDp_v h2
    rw [List.map_cons, List.map_cons, List.cons.injEq] at h
    rw [rCv_i v1 v2 h.1, rCv_inj h1' h2' h.2]
section SI
variable {κ : yK} {C : zC} {N : Nat}
theorem rul (oC : okC C) (hN : N ≤ C.1) {ok : Bool} {j : Nat} {V : List Int32} (g : gL (ch C) N 0 0 0 ok j V) : (¬ (ok = true ∧ j = N) → uV N (uR (ch C) N 0 u0) = some j) ∧ (ok = true → j = N → ∃ X T cmp dg, uR (ch C) N 0 u0 = (none, (X, T, 0, cmp, dg, false)) ∧ X ++ (popL 0 T).1 = V.map rCv) := by
  have hf : ∀ i, i < N → ch C i < 256 := fun i z => (ch_e oC (show i < C.1 by omega)).1
  obtain ⟨g1, g2, g3, g4, g5⟩ := g
  have pr : pre 0 0 [] (fun _ => false) := ⟨by omega, fun _ => rfl, fun _ => rfl⟩
  have key : ok = true → ∃ X T cmp dg, uTo (ch C) 0 u0 j (X, T, 0, cmp, dg, false) ∧ X ++ T = V.map rCv ∧ tOkL 1 T ∧ nxC (ch C) N 0 j 0 cmp dg := fun q => by
    obtain ⟨X, T, cmp, dg, a, b, c, -, n⟩ := (g4 q).2 [] [] (fun _ => false) 0 pr
    rw [List.append_nil, List.nil_append] at a
    exact ⟨X, T, cmp, dg, a, b, c, n⟩
  refine ⟨fun q => ?_, fun q z => ?_⟩
  · cases ok with
    | false => exact g5 rfl [] [] (fun _ => false) 0 pr
    | true =>
      obtain ⟨X, T, cmp, dg, a, b, c, n⟩ := key rfl
      have hj : j < N := by
        have : ¬ j = N := fun z => q ⟨rfl, z⟩
        omega
      exact a.v g2 (uV_x hj (nx_bad hf hj n (Or.inl rfl)))
  · subst z
    obtain ⟨X, T, cmp, dg, a, b, c, n⟩ := key q
    refine ⟨X, T, cmp, dg, ?_, ?_⟩
    · have := a.2 j (Nat.le_refl _)
      rw [Nat.sub_self, Nat.sub_zero, uR] at this
      exact this
    · have := popL_T (q := 0) (by omega) (S := []) (T := T) (fun x hx => ⟨(c x hx).1, by omega⟩)
      rw [List.append_nil] at this
      rw [show (0 : Int32) = yN 0 from rfl, this, popL, List.append_nil]; exact b
theorem m184_61 {V : List Int32} (hV : V.length ≤ 40) : ∀ (D i fu : Nat) (m : yM), i + D = V.length → D < fu → rEm m V → ∃ m', f_184_61 fu 178 (yN i) (yH κ m) = some (yH κ m') ∧ (∀ j, i ≤ j → j < V.length → m'.1 185 j = V.getD j 0) ∧ (∀ j, j < i → m'.1 185 j = m.1 185 j) ∧ yFr (fun x _ => x = 185) m m' := by
  intro D
  induction D with
  | zero =>
    intro i fu m hi hf h
    obtain ⟨fu, rfl⟩ : ∃ k, fu = k + 1 := ⟨fu - 1, by omega⟩
    refine ⟨m, ?_, fun j p q => by omega, fun _ _ => rfl, yFr.rf m⟩
    rw [f_184_61, yi_178_18, yBs, h.1, if_pos (by rw [yN_le (by omega) (by omega)]; omega)]
  | succ D ih =>
    intro i fu m hi hf h
    obtain ⟨fu, rfl⟩ : ∃ k, fu = k + 1 := ⟨fu - 1, by omega⟩
    have hv : m.1 186 i = V.getD i 0 := h.2 i _ (by rw [List.getD, List.getElem?_eq_getElem (show i < V.length by omega)]; rfl)
    have h' : rEm (yW m 185 i (V.getD i 0)) V := ⟨by rw [yW_row (by omega)]; exact h.1, fun j c q => by rw [yW_row (by omega)]; exact h.2 j c q⟩
    obtain ⟨m', a, b, c, d⟩ := ih (i + 1) fu (yW m 185 i (V.getD i 0)) (by omega) (by omega) h'
    refine ⟨m', ?_, fun j p q => ?_, fun j p => ?_, (yFr.w (S := fun x _ => x = 185) m rfl).tr d (fun _ _ => orSelf)⟩
    · rw [f_184_61, yi_178_18, yBs, h.1, if_neg (by rw [yN_le (by omega) (by omega)]; omega), yr_178_15, yBs, yr_178_16, yBs, show pAi (yH κ m) 186 (yN i) = _ from ya_186 (by omega), yBs, hv, yst_185 (by omega), yBs, yN_addl]
      exact a
    · by_cases z : j = i
      · subst z; rw [c j (by omega), yW_self, upd_eq]
      · exact b j (by omega) q
    · rw [c j (by omega), yW_get, if_neg (by omega)]
end SI
