/-! ===== rule(): the class's run over the text ===== -/
/-- as the state can be at place i -/
def uK (s : uS) (i : Nat) : Prop := s.1.length + s.2.1.length ≤ i ∧ (∀ c, c ∈ s.2.1 → c = 4000 ∨ opc c) ∧ s.2.2.1 ≤ 4 ∧ (s.2.1.filter (fun c => c == 4000)).length = s.2.2.1 ∧ s.2.2.2.2.1 ≤ 3 ∧ (s.2.2.2.2.2 = false → s.1 ≠ [])
def uX (s : uS) (k : Nat) : Option uS := if s.2.2.2.2.2 = true then uF s.1 s.2.1 s.2.2.1 s.2.2.2.1 s.2.2.2.2.1 k else uG s.1 s.2.1 s.2.2.1 s.2.2.2.1 s.2.2.2.2.1 k
theorem opc_4 {c : Int32} (h : opc c) : (c == 4000) = false := by
  rcases h with rfl | rfl | rfl | rfl | rfl | rfl | rfl | rfl <;> rfl
theorem popL_c (L : Int32) : ∀ S : List Int32, (∀ c, c ∈ S → c = 4000 ∨ opc c) → (∀ c, c ∈ (popL L S).2 → c = 4000 ∨ opc c) ∧ ((popL L S).2.filter (fun c => c == 4000)).length = (S.filter (fun c => c == 4000)).length
  | [], h => ⟨h, rfl⟩
  | c :: r, h => by
    rw [popL]
    split
    · exact ⟨h, rfl⟩
    next h4 =>
      have ho : opc c := by
        rcases h c (by simp) with q | q
        · exact absurd q h4
        · exact q
      split
      · have ih := popL_c L r (fun d q => h d (by simp [q]))
        refine ⟨ih.1, ?_⟩
        rw [ih.2, List.filter_cons, opc_4 ho]; rfl
      · exact ⟨h, rfl⟩
theorem popL_0 : ∀ S : List Int32, (∀ c, c ∈ S → c = 4000 ∨ opc c) → 0 < (S.filter (fun c => c == 4000)).length → ∃ r, (popL 0 S).2 = 4000 :: r
  | [], _, h => by simp at h
  | c :: r, h, hp => by
    rw [popL]
    by_cases h4 : c = 4000
    · rw [if_pos h4]; exact ⟨r, by rw [h4]⟩
    · have ho : opc c := by
        rcases h c (by simp) with q | q
        · exact absurd q h4
        · exact q
      have hl : (0 : Int32) ≤ lev c := by
        rcases ho with rfl | rfl | rfl | rfl | rfl | rfl | rfl | rfl <;> decide
      rw [if_neg h4, if_pos hl]
      refine popL_0 r (fun d q => h d (by simp [q])) ?_
      rw [List.filter_cons, opc_4 ho] at hp; exact hp
theorem uO_ok {O S : List Int32} {dep i : Nat} {cmp : Nat → Bool} {dg : Nat} {c : Int32} {s' : uS} (h : uK (O, S, dep, cmp, dg, false) i) (ho : opc c) (e : uO O S dep cmp c = some s') : uK s' (i + 1) := by
  obtain ⟨h1, h2, h3, h4, h5, h6⟩ := h
  have h1' : O.length + S.length ≤ i := h1
  have key : ∀ (L : Int32) (f : Nat → Bool), uK (O ++ (popL L S).1, c :: (popL L S).2, dep, f, 0, true) (i + 1) := by
    intro L f
    have hp := popL_len L S
    have hc := popL_c L S h2
    refine ⟨?_, fun d q => ?_, h3, ?_, by show 0 ≤ 3; omega, fun q => by simp at q⟩
    · show (O ++ (popL L S).1).length + (c :: (popL L S).2).length ≤ i + 1
      rw [List.length_append, List.length_cons]; omega
    · have q' : d ∈ c :: (popL L S).2 := q
      rw [List.mem_cons] at q'
      rcases q' with q' | q'
      · subst q'; exact Or.inr ho
      · exact hc.1 d q'
    · show ((c :: (popL L S).2).filter (fun c => c == 4000)).length = dep
      rw [List.filter_cons, opc_4 ho]
      have : (S.filter (fun c => c == 4000)).length = dep := h4
      rw [← this]; exact hc.2
  unfold uO at e
  split at e
  · split at e
    · simp at e
    · simp only [Option.some.injEq] at e; subst e; exact key _ _
  · simp only [Option.some.injEq] at e; subst e; exact key _ _
