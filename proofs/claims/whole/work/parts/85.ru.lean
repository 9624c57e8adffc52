/-! ===== rule(): the class's heaps ===== -/
/-- what lies on the heap of operators, the top first -/
def stk (m : yM) : List Int32 → Prop
  | [] => True
  | c :: r => m.1 113 r.length = c ∧ stk m r
def out (m : yM) (O : List Int32) : Prop := m.1 110 6 = yN O.length ∧ ∀ j c, O[j]? = some c → m.1 112 j = c
/-- operators; how strongly they bind -/
def opc (c : Int32) : Prop := c = 2042 ∨ c = 2043 ∨ c = 2045 ∨ c = 2047 ∨ c = 2060 ∨ c = 2061 ∨ c = 2062 ∨ c = 3000
def lev (c : Int32) : Int32 := if c = 3000 then 4 else if c = 2042 ∨ c = 2047 then 3 else if c = 2043 ∨ c = 2045 then 2 else 1
theorem s62 {c : Int32} (h : opc c) (g : xH) : f_62 c g = some (lev c, g) := by
  rcases h with rfl | rfl | rfl | rfl | rfl | rfl | rfl | rfl <;> rfl
/-- what goes out when an operator of level L comes; what stays -/
def popL (L : Int32) : List Int32 → List Int32 × List Int32
  | [] => ([], [])
  | c :: r => if c = 4000 then ([], c :: r) else if L ≤ lev c then (c :: (popL L r).1, (popL L r).2) else ([], c :: r)
theorem popL_len (L : Int32) : ∀ S, (popL L S).1.length + (popL L S).2.length = S.length
  | [] => rfl
  | c :: r => by
    have := popL_len L r
    rw [popL]
    split
    · simp
    · split
      · simp; omega
      · simp
theorem listI_ap {cs : List Int32} {x c : Int32} {j : Nat} (h : (cs ++ [x])[j]? = some c) : (j = cs.length ∧ c = x) ∨ (j < cs.length ∧ cs[j]? = some c) := by
  by_cases hj : j = cs.length
  · subst hj
    rw [List.getElem?_append_right (Nat.le_refl _)] at h
    simp at h
    exact Or.inl ⟨rfl, h.symm⟩
  · have hlt : j < (cs ++ [x]).length := by
      rcases Nat.lt_or_ge j (cs ++ [x]).length with q | q
      · exact q
      · rw [List.getElem?_eq_none q] at h; simp at h
    rw [List.length_append] at hlt
    simp at hlt
    rw [List.getElem?_append_left (by omega)] at h
    exact Or.inr ⟨by omega, h⟩
theorem stk.c {m m' : yM} : ∀ {S : List Int32}, stk m S → (∀ j, j < S.length → m'.1 113 j = m.1 113 j) → stk m' S
  | [], _, _ => trivial
  | c :: r, h, k => ⟨by rw [k _ (by simp)]; exact h.1, stk.c h.2 (fun j hj => k j (by simp; omega))⟩
def sUo (x j : Nat) : Prop := (x = 110 ∧ j = 6) ∨ x = 112
def sUp (x j : Nat) : Prop := (x = 110 ∧ (j = 6 ∨ j = 7)) ∨ x = 112
section RU
variable {κ : yK}
theorem s57 {m : yM} {O : List Int32} {c : Int32} (hO : out m O) (hl : O.length < 40) : ∃ m', f_57 110 c (yH κ m) = some (yH κ m') ∧ out m' (O ++ [c]) ∧ yFr sUo m m' := by
  refine ⟨yW (yW m 110 6 (yN (O.length + 1))) 112 O.length c, ?_, ⟨?_, fun j d q => ?_⟩, (yFr.w (S := sUo) m (Or.inl ⟨rfl, rfl⟩)).tr (yFr.w (S := sUo) _ (Or.inr rfl)) (fun _ _ => orSelf)⟩
  · unfold f_57
    rw [yi_110_6, yBs, hO.1, if_neg (by rw [yN_lle (by omega) (by omega)]; omega), yr_110_1, yBs, yBs, yN_addl, yp_110_6, yBs, yst_112 hl, yBs, yBs]
  · rw [yW_row (by omega), yW_self, upd_eq, List.length_append]; rfl
  · rcases listI_ap q with ⟨rfl, rfl⟩ | ⟨q1, q2⟩
    · rw [yW_self, upd_eq]
    · rw [yW_get, if_neg (by omega), yW_row (by omega)]; exact hO.2 j d q2
theorem s58 {m : yM} {S : List Int32} {c : Int32} (h7 : m.1 110 7 = yN S.length) (hS : stk m S) (hl : S.length < 40) : ∃ m', f_58 110 c (yH κ m) = some (yH κ m') ∧ m'.1 110 7 = yN (S.length + 1) ∧ stk m' (c :: S) ∧ yFr (fun x j => (x = 110 ∧ j = 7) ∨ x = 113) m m' := by
  refine ⟨yW (yW m 110 7 (yN (S.length + 1))) 113 S.length c, ?_, ?_, ⟨?_, hS.c (fun j hj => ?_)⟩, (yFr.w (S := fun x j => (x = 110 ∧ j = 7) ∨ x = 113) m (Or.inl ⟨rfl, rfl⟩)).tr (yFr.w (S := fun x j => (x = 110 ∧ j = 7) ∨ x = 113) _ (Or.inr rfl)) (fun _ _ => orSelf)⟩
  · unfold f_58
    rw [yi_110_7, yBs, h7, if_neg (by rw [yN_lle (by omega) (by omega)]; omega), yr_110_2, yBs, yBs, yN_addl, yp_110_7, yBs, yst_113 hl, yBs, yBs]
  · rw [yW_row (by omega), yW_self, upd_eq]
  · rw [yW_self, upd_eq]
  · rw [yW_get, if_neg (by omega), yW_row (by omega)]
theorem s63_7 {L : Int32} : ∀ (S : List Int32) (fu : Nat) (m : yM) (O : List Int32), S.length < fu → O.length + S.length ≤ 40 → (∀ c, c ∈ S → c = 4000 ∨ opc c) → m.1 110 7 = yN S.length → stk m S → out m O →
    ∃ m', (f_63_7 fu 110 L (yN S.length - 1) (yH κ m) = some (.inl (yH κ m')) ∨ f_63_7 fu 110 L (yN S.length - 1) (yH κ m) = some (.inr (yH κ m'))) ∧ m'.1 110 7 = yN (popL L S).2.length ∧ stk m' (popL L S).2 ∧ out m' (O ++ (popL L S).1) ∧ yFr sUp m m' := by
  intro S
  induction S with
  | nil =>
    intro fu m O hf hl hc h7 hS hO
    obtain ⟨fu, rfl⟩ : ∃ k, fu = k + 1 := ⟨fu - 1, by omega⟩
    rw [popL]
    refine ⟨m, Or.inl ?_, h7, trivial, by rw [List.append_nil]; exact hO, yFr.rf m⟩
    rw [f_63_7, if_pos (by decide)]
  | cons c r ih =>
    intro fu m O hf hl hc h7 hS hO
    simp at hf hl
    obtain ⟨fu, rfl⟩ : ∃ k, fu = k + 1 := ⟨fu - 1, by omega⟩
    have hx : yN (c :: r).length - 1 = yN r.length := by rw [show (c :: r).length = r.length + 1 from rfl]; exact yN_subl (by omega)
    have hp : pAi (yH κ m) 113 (yN r.length) = some c := by rw [show pAi (yH κ m) 113 (yN r.length) = _ from ya_113 (by omega), hS.1]
    rw [hx, popL]
    by_cases h4 : c = 4000
    · rw [if_pos h4]
      refine ⟨m, Or.inr ?_, h7, hS, by rw [List.append_nil]; exact hO, yFr.rf m⟩
      rw [f_63_7, if_neg (by rw [yN_ltl (by omega) (by omega)]; omega), yr_110_2, yBs, hp, yBs, if_pos h4]
    · rw [if_neg h4]
      have hop : opc c := by
        rcases hc c (by simp) with q | q
        · exact absurd q h4
        · exact q
      by_cases hL : L ≤ lev c
      · rw [if_pos hL]
        obtain ⟨m1, e1, o1, f1⟩ := s57 (κ := κ) (c := c) hO (by omega)
        have f2 : yFr sUp m (yW m1 110 7 (yN r.length)) := (f1.wk (S3 := sUp) (fun x j q => by unfold sUo at q; unfold sUp; omega)).tr (yFr.w (S := sUp) m1 (Or.inl ⟨rfl, Or.inr rfl⟩)) (fun _ _ => orSelf)
        obtain ⟨m', e', a', b', d', f'⟩ := ih fu (yW m1 110 7 (yN r.length)) (O ++ [c]) (by omega) (by rw [List.length_append]; simp; omega) (fun d q => hc d (by simp [q])) (by rw [yW_self, upd_eq]) (hS.2.c (fun j _ => by rw [f2.2 _ _ (by unfold sUp; omega)])) ⟨by rw [yW_get, if_neg (by omega)]; exact o1.1, fun j d q => by rw [yW_row (by omega)]; exact o1.2 j d q⟩
        have st : f_63_7 (fu + 1) 110 L (yN r.length) (yH κ m) = f_63_7 fu 110 L (yN r.length - 1) (yH κ (yW m1 110 7 (yN r.length))) := by
          rw [f_63_7, if_neg (by rw [yN_ltl (by omega) (by omega)]; omega), yr_110_2, yBs, hp, yBs, if_neg h4, yBs, hp, yBs, s62 hop, yBs]
          dsimp only
          rw [if_pos hL, yr_110_2, yBs, hp, yBs, yis_110, pG_t, yBs, e1, yBs, yp_110_7, yBs, Int32.sub_eq_add_neg]
        rw [st]
        refine ⟨m', e', a', b', ?_, f2.tr f' (fun _ _ => orSelf)⟩
        rw [List.append_assoc] at d'; exact d'
      · rw [if_neg hL]
        refine ⟨m, Or.inr ?_, h7, hS, by rw [List.append_nil]; exact hO, yFr.rf m⟩
        rw [f_63_7, if_neg (by rw [yN_ltl (by omega) (by omega)]; omega), yr_110_2, yBs, hp, yBs, if_neg h4, yBs, hp, yBs, s62 hop, yBs]
        dsimp only
        rw [if_neg hL]
theorem s63 {L : Int32} {m : yM} {S O : List Int32} (hl : O.length + S.length ≤ 40) (hc : ∀ c, c ∈ S → c = 4000 ∨ opc c) (h7 : m.1 110 7 = yN S.length) (hS : stk m S) (hO : out m O) :
    ∃ m', f_63 110 L (yH κ m) = some (yH κ m') ∧ m'.1 110 7 = yN (popL L S).2.length ∧ stk m' (popL L S).2 ∧ out m' (O ++ (popL L S).1) ∧ yFr sUp m m' := by
  obtain ⟨m', e, r⟩ := s63_7 (κ := κ) (L := L) S 100000 m O (by omega) hl hc h7 hS hO
  refine ⟨m', ?_, r⟩
  unfold f_63
  rw [yi_110_7, yBs, h7]
  rcases e with e | e
  · rw [e, yBs]
  · rw [e, yBs]
end RU
