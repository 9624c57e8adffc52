/-! ===== rule(): the class's run over the text ===== -/
/-- as the state can be at place i -/
def uK (s : uS) (i : Nat) : Prop := s.1.length + s.2.1.length ≤ i ∧ (∀ c, c ∈ s.2.1 → c = 4000 ∨ opc c) ∧ s.2.2.1 ≤ 4 ∧ (s.2.1.filter (fun c => c == 4000)).length = s.2.2.1 ∧ s.2.2.2.2.1 ≤ 3 ∧ (s.2.2.2.2.2 = false → s.1 ≠ [])
def uX (s : uS) (k : Nat) : Option uS := if s.2.2.2.2.2 = true then uF s.1 s.2.1 s.2.2.1 s.2.2.2.1 s.2.2.2.2.1 k else uG s.1 s.2.1 s.2.2.1 s.2.2.2.1 s.2.2.2.2.1 k
theorem opc_4 {c : Int32} (h : opc c) : (c == 4000) = false := by
  rcases h with rfl | rfl | rfl | rfl | rfl | rfl | rfl | rfl <;> rfl
theorem popL_c (L : Int32) : ∀ S : List Int32, (∀ c, c ∈ S → c = 4000 ∨ opc c) → (∀ c, c ∈ (popL L S).2 → c = 4000 ∨ opc c) ∧ ((popL L S).2.filter (fun c => c == 4000)).length = (S.filter (fun c => c == 4000)).length
  | [], h => ⟨h, rfl⟩
  | c :: r, h => by
    rw [popL]
    split
    · exact ⟨h, rfl⟩
    next h4 =>
      have ho : opc c := by
        rcases h c (by simp) with q | q
        · exact absurd q h4
        · exact q
      split
      · have ih := popL_c L r (fun d q => h d (by simp [q]))
        refine ⟨ih.1, ?_⟩
        rw [ih.2, List.filter_cons, opc_4 ho]; rfl
      · exact ⟨h, rfl⟩
theorem popL_0 : ∀ S : List Int32, (∀ c, c ∈ S → c = 4000 ∨ opc c) → 0 < (S.filter (fun c => c == 4000)).length → ∃ r, (popL 0 S).2 = 4000 :: r
  | [], _, h => by simp at h
  | c :: r, h, hp => by
    rw [popL]
    by_cases h4 : c = 4000
    · rw [if_pos h4]; exact ⟨r, by rw [h4]⟩
    · have ho : opc c := by
        rcases h c (by simp) with q | q
        · exact absurd q h4
        · exact q
      have hl : (0 : Int32) ≤ lev c := by
        rcases ho with rfl | rfl | rfl | rfl | rfl | rfl | rfl | rfl <;> decide
      rw [if_neg h4, if_pos hl]
      refine popL_0 r (fun d q => h d (by simp [q])) ?_
      rw [List.filter_cons, opc_4 ho] at hp; exact hp
theorem uO_ok {O S : List Int32} {dep i : Nat} {cmp : Nat → Bool} {dg : Nat} {c : Int32} {s' : uS} (h : uK (O, S, dep, cmp, dg, false) i) (ho : opc c) (e : uO O S dep cmp c = some s') : uK s' (i + 1) := by
  obtain ⟨h1, h2, h3, h4, h5, h6⟩ := h
  have h1' : O.length + S.length ≤ i := h1
  have key : ∀ (L : Int32) (f : Nat → Bool), uK (O ++ (popL L S).1, c :: (popL L S).2, dep, f, 0, true) (i + 1) := by
    intro L f
    have hp := popL_len L S
    have hc := popL_c L S h2
    refine ⟨?_, fun d q => ?_, h3, ?_, by show 0 ≤ 3; omega, fun q => by simp at q⟩
    · show (O ++ (popL L S).1).length + (c :: (popL L S).2).length ≤ i + 1
      rw [List.length_append, List.length_cons]; omega
    · have q' : d ∈ c :: (popL L S).2 := q
      rw [List.mem_cons] at q'
      rcases q' with q' | q'
      · subst q'; exact Or.inr ho
      · exact hc.1 d q'
    · show ((c :: (popL L S).2).filter (fun c => c == 4000)).length = dep
      rw [List.filter_cons, opc_4 ho]
      have : (S.filter (fun c => c == 4000)).length = dep := h4
      rw [← this]; exact hc.2
  unfold uO at e
  split at e
  · split at e
    · simp at e
    · simp only [Option.some.injEq] at e; subst e; exact key _ _
  · simp only [Option.some.injEq] at e; subst e; exact key _ _
theorem uX_ok {s s' : uS} {i k : Nat} (hk : k < 256) (h : uK s i) (e : uX s k = some s') : uK s' (i + 1) := by
  obtain ⟨O, S, dep, cmp, dg, w⟩ := s
  have h' := h
  obtain ⟨h1, h2, h3, h4, h5, h6⟩ := h'
  have h1' : O.length + S.length ≤ i := h1
  have h3' : dep ≤ 4 := h3
  have h4' : (S.filter (fun c => c == 4000)).length = dep := h4
  have h5' : dg ≤ 3 := h5
  unfold uX at e
  dsimp only at e
  cases w with
  | true =>
    rw [if_pos rfl] at e
    unfold uF at e
    split at e
    · simp only [Option.some.injEq] at e; subst e
      refine ⟨by show O.length + (3000 :: S).length ≤ i + 1; rw [List.length_cons]; omega, fun d q => ?_, h3, ?_, h5, fun q => by simp at q⟩
      · have q' : d ∈ 3000 :: S := q
        rw [List.mem_cons] at q'
        rcases q' with q' | q'
        · subst q'; exact Or.inr (by unfold opc; simp)
        · exact h2 d q'
      · exact h4
    · split at e
      · split at e
        next hd =>
          simp only [Option.some.injEq] at e; subst e
          refine ⟨by show O.length + (4000 :: S).length ≤ i + 1; rw [List.length_cons]; omega, fun d q => ?_, by show dep + 1 ≤ 4; omega, ?_, h5, fun q => by simp at q⟩
          · have q' : d ∈ 4000 :: S := q
            rw [List.mem_cons] at q'
            rcases q' with q' | q'
            · exact Or.inl q'
            · exact h2 d q'
          · show ((4000 :: S).filter (fun c => c == 4000)).length = dep + 1
            rw [List.filter_cons, if_pos (by decide), List.length_cons, h4']
        · simp at e
      · split at e
        · simp only [Option.some.injEq] at e; subst e
          exact ⟨by show (O ++ [_]).length + S.length ≤ i + 1; rw [List.length_append]; simp; omega, h2, h3, h4, by show 1 ≤ 3; omega, fun _ => by simp⟩
        · split at e
          · simp only [Option.some.injEq] at e; subst e
            exact ⟨by show (O ++ [_]).length + S.length ≤ i + 1; rw [List.length_append]; simp; omega, h2, h3, h4, by show 0 ≤ 3; omega, fun _ => by simp⟩
          · simp at e
  | false =>
    have hO : O ≠ [] := h6 rfl
    have hOl : 0 < O.length := List.length_pos_iff.2 hO
    rw [if_neg (by decide)] at e
    unfold uG at e
    split at e
    next hd =>
      simp only [Option.some.injEq] at e; subst e
      refine ⟨?_, h2, h3, h4, by show dg + 1 ≤ 3; omega, fun _ => by simp⟩
      show (O.dropLast ++ [_]).length + S.length ≤ i + 1
      rw [List.length_append, List.length_dropLast]; simp; omega
    · unfold uT at e
      split at e
      · split at e
        next hd =>
          simp only [Option.some.injEq] at e; subst e
          obtain ⟨r, hr⟩ := popL_0 S h2 (by omega)
          have hp := popL_len 0 S
          have hc := popL_c 0 S h2
          rw [hr] at hp hc
          refine ⟨?_, fun d q => ?_, by show dep - 1 ≤ 4; omega, ?_, by show 0 ≤ 3; omega, fun _ => ?_⟩
          · show (O ++ (popL 0 S).1).length + (popL 0 S).2.tail.length ≤ i + 1
            rw [hr, List.length_append]; simp at hp ⊢; omega
          · have q' : d ∈ (popL 0 S).2.tail := q
            rw [hr] at q'
            exact hc.1 d (by simp at q' ⊢; exact Or.inr q')
          · show ((popL 0 S).2.tail.filter (fun c => c == 4000)).length = dep - 1
            have hc2 := hc.2
            rw [List.filter_cons, if_pos (by decide), List.length_cons] at hc2
            rw [hr, List.tail_cons]; omega
          · show O ++ (popL 0 S).1 ≠ []
            intro q; exact hO (List.append_eq_nil_iff.1 q).1
        · simp at e
      · split at e
        next ho => exact uO_ok h ((opk_c ⟨k, hk⟩).1 ho) e
        · simp at e
