/-! ===== rule(): the class's run over the text ===== -/
/-- as the state can be at place i -/
def uK (s : uS) (i : Nat) : Prop := s.1.length + s.2.1.length ≤ i ∧ (∀ c, c ∈ s.2.1 → c = 4000 ∨ opc c) ∧ s.2.2.1 ≤ 4 ∧ (s.2.1.filter (fun c => c == 4000)).length = s.2.2.1 ∧ s.2.2.2.2.1 ≤ 3 ∧ (s.2.2.2.2.2 = false → s.1 ≠ [])
def uX (s : uS) (k : Nat) : Option uS := if s.2.2.2.2.2 = true then uF s.1 s.2.1 s.2.2.1 s.2.2.2.1 s.2.2.2.2.1 k else uG s.1 s.2.1 s.2.2.1 s.2.2.2.1 s.2.2.2.2.1 k
theorem opc_4 {c : Int32} (h : opc c) : (c == 4000) = false := by
  rcases h with rfl | rfl | rfl | rfl | rfl | rfl | rfl | rfl <;> rfl
theorem popL_c (L : Int32) : ∀ S : List Int32, (∀ c, c ∈ S → c = 4000 ∨ opc c) → (∀ c, c ∈ (popL L S).2 → c = 4000 ∨ opc c) ∧ ((popL L S).2.filter (fun c => c == 4000)).length = (S.filter (fun c => c == 4000)).length
  | [], h => ⟨h, rfl⟩
  | c :: r, h => by
    rw [popL]
    split
    · exact ⟨h, rfl⟩
    next h4 =>
      have ho : opc c := by
        rcases h c (by simp) with q | q
        · exact absurd q h4
        · exact q
      split
      · have ih := popL_c L r (fun d q => h d (by simp [q]))
        refine ⟨ih.1, ?_⟩
        rw [ih.2, List.filter_cons, opc_4 ho]; rfl
      · exact ⟨h, rfl⟩
theorem popL_0 : ∀ S : List Int32, (∀ c, c ∈ S → c = 4000 ∨ opc c) → 0 < (S.filter (fun c => c == 4000)).length → ∃ r, (popL 0 S).2 = 4000 :: r
  | [], _, h => by simp at h
  | c :: r, h, hp => by
    rw [popL]
    by_cases h4 : c = 4000
    · rw [if_pos h4]; exact ⟨r, by rw [h4]⟩
    · have ho : opc c := by
        rcases h c (by simp) with q | q
        · exact absurd q h4
        · exact q
      have hl : (0 : Int32) ≤ lev c := by
        rcases ho with rfl | rfl | rfl | rfl | rfl | rfl | rfl | rfl <;> decide
      rw [if_neg h4, if_pos hl]
      refine popL_0 r (fun d q => h d (by simp [q])) ?_
      rw [List.filter_cons, opc_4 ho] at hp; exact hp
