/-! ===== rule(): levels and their operators ===== -/
theorem popL_up {a b : Nat} (hab : a ≤ b) (hb : b ≤ 4) : ∀ {S : List Int32}, popL (yN a) S = ([], S) → popL (yN b) S = ([], S)
  | [], _ => rfl
  | c :: r, h => by
    have := lvO_le c
    rw [popL, lvO_e] at h ⊢
    by_cases h4 : c = 4000
    · rw [if_pos h4]
    · rw [if_neg h4] at h ⊢
      by_cases z : a ≤ lvO c
      · rw [if_pos (by rw [yN_le (by omega) (by omega)]; exact z)] at h; simp at h
      · rw [if_neg (by rw [yN_le (by omega) (by omega)]; omega)]
section SD
variable {f : Nat → Nat} {N : Nat}
theorem pre_up {p d : Nat} {S : List Int32} {cmp : Nat → Bool} (hp : p < 3) (h : pre p d S cmp) : pre (p + 1) d S cmp := ⟨h.1, fun q => popL_up (by omega) (by omega) (h.2.1 hp), fun q => by omega⟩
theorem gL_N {p i d j : Nat} {V : List Int32} (hp : p < 3) (g : gL f N (p + 1) i d false j V) : gL f N p i d false j V := by
  obtain ⟨g1, g2, g3, g4, g5⟩ := g
  exact ⟨g1, g2, g3, fun q => by simp at q, fun _ O S cmp dg h => g5 rfl O S cmp dg (pre_up hp h)⟩
theorem gL_S {p i d j k : Nat} {ok : Bool} {V W : List Int32} (hp : p < 3) (g : gL f N (p + 1) i d true j V) (o : gO f N p true j d ok k W) : gL f N p i d ok k (V ++ W) := by
  obtain ⟨g1, g2, g3, g4, g5⟩ := g
  obtain ⟨o1, o2, o3, o4, o5⟩ := o
  refine ⟨by omega, o2, by rw [List.length_append]; omega, fun q => ⟨fun r k => ?_, fun O S cmp dg h => ?_⟩, fun q O S cmp dg h => ?_⟩
  · rw [List.append_assoc, (g4 rfl).1, (o4 q).1]
  · obtain ⟨X, T, cmp', dg', a, b, c, e, n⟩ := (g4 rfl).2 O S cmp dg (pre_up hp h)
    obtain ⟨X2, T2, cmp2, dg2, a2, b2, c2, e2, n2⟩ := (o4 q).2 (O ++ X) T S cmp' dg' h.1 (h.2.1 hp) (fun z => by rw [e d (Or.inr ⟨rfl, by omega⟩), h.2.2 z]; rfl) (fun x hx => ⟨(c x hx).1, by have := (c x hx).2; omega⟩) n
    refine ⟨X ++ X2, T2, cmp2, dg2, by rw [← List.append_assoc]; exact a.tr a2, ?_, c2, fun x hx => ?_, n2⟩
    · rw [List.append_assoc, b2, ← List.append_assoc, b, List.map_append]
    · rw [e2 x hx, e x (by omega)]
  · obtain ⟨X, T, cmp', dg', a, b, c, e, n⟩ := (g4 rfl).2 O S cmp dg (pre_up hp h)
    exact a.v g2 (o5 q (O ++ X) T S cmp' dg' h.1 (h.2.1 hp) (fun z => by rw [e d (Or.inr ⟨rfl, by omega⟩), h.2.2 z]; rfl) (fun x hx => ⟨(c x hx).1, by have := (c x hx).2; omega⟩) n)
theorem rKp_nil : rKp [] := fun _ _ => rfl
theorem gO_e {p j d : Nat} {go : Bool} (hf : ∀ i, i < N → f i < 256) (hp : p < 3) (hj : j ≤ N) (h : j < N → ¬ 0 ≤ opx p (f j)) : gO f N p go j d true j [] := by
  refine ⟨Nat.le_refl _, hj, by simp, fun _ => ⟨rKp_nil, fun O T S cmp dg h1 h2 h3 h4 h5 => ?_⟩, fun q => by simp at q⟩
  refine ⟨[], T, cmp, dg, by rw [List.append_nil]; exact uTo.rf, by simp, h4, fun _ _ => rfl, fun z => ⟨(h5 z).1, fun ho => ?_⟩⟩
  have hne := (opx_f ⟨p, hp⟩ ⟨_, hf j z⟩).2 (h z) ho
  rcases (h5 z).2 ho with q | ⟨q, -⟩
  · left; dsimp only at hne; omega
  · omega
theorem gO_0 {j d : Nat} (hj : j ≤ N) : gO f N 0 false j d true j [] := by
  refine ⟨Nat.le_refl _, hj, by simp, fun _ => ⟨rKp_nil, fun O T S cmp dg h1 h2 h3 h4 h5 => ?_⟩, fun q => by simp at q⟩
  refine ⟨[], T, cmp, dg, by rw [List.append_nil]; exact uTo.rf, by simp, h4, fun _ _ => rfl, fun z => ⟨(h5 z).1, fun ho => ?_⟩⟩
  have := lvO_le (2000 + yN (f j))
  rcases (h5 z).2 ho with q | ⟨q, -⟩
  · exact Or.inr ⟨rfl, by omega, h3 rfl⟩
  · omega
def cmU (p d : Nat) (cmp : Nat → Bool) : Nat → Bool := if p = 0 then (fun e => if e = d then true else cmp e) else cmp
theorem op_st {p j d dg : Nat} {O T S : List Int32} {cmp : Nat → Bool} (hf : ∀ i, i < N → f i < 256) (hp : p < 3) (hj : j < N) (h : 0 ≤ opx p (f j)) (h2 : popL (yN (p + 1)) S = ([], S)) (h3 : p = 0 → cmp d = false) (h4 : tOkL (p + 1) T) :
    uTo f j (O, T ++ S, d, cmp, dg, false) (j + 1) (O ++ T, (2000 + yN (f j)) :: S, d, cmU p d cmp, 0, true) := by
  obtain ⟨a1, a2, a3, a4, -⟩ := (opx_f ⟨p, hp⟩ ⟨_, hf j hj⟩).1 h
  dsimp only at a1 a2 a3 a4
  have hl : lev (2000 + yN (f j)) = yN (p + 1) := by rw [lvO_e, a4]
  have hpop : popL (yN (p + 1)) (T ++ S) = (T, S) := by rw [popL_T (by omega) h4, h2, List.append_nil]
  refine uTo.st ?_
  unfold uX uG uT uO cmU
  dsimp only
  rw [if_neg (show ¬ (false = true) by decide), if_neg (show ¬ (dig (f j) = true ∧ 1 ≤ dg ∧ dg < 3) by rw [a2]; intro q; exact absurd q.1 (by decide)), if_neg a3, if_pos a1, hl, hpop]
  by_cases z : p = 0
  · subst z
    rw [show (1 : Int32) = yN (0 + 1) from rfl, hpop, if_pos rfl, if_pos rfl, if_neg (by rw [h3 rfl]; decide)]
  · rw [if_neg (by rw [yN_eql (by omega) (by omega)]; omega), if_neg z]
theorem op_pre {p j d : Nat} {S : List Int32} {cmp : Nat → Bool} (hf : ∀ i, i < N → f i < 256) (hp : p < 3) (hj : j < N) (h : 0 ≤ opx p (f j)) (hd : d ≤ 4) : pre (p + 1) d ((2000 + yN (f j)) :: S) cmp := by
  obtain ⟨-, -, -, a4, -, -, -, -, a9⟩ := (opx_f ⟨p, hp⟩ ⟨_, hf j hj⟩).1 h
  dsimp only at a4 a9
  exact ⟨hd, fun _ => by rw [popL, if_neg a9, lvO_e, a4, if_neg (by rw [yN_le (by omega) (by omega)]; omega)], fun q => by omega⟩
theorem gO_N {p j d k : Nat} {V : List Int32} (hf : ∀ i, i < N → f i < 256) (hp : p < 3) (hj : j < N) (h : 0 ≤ opx p (f j)) (g : gL f N (p + 1) (j + 1) d false k V) : gO f N p true j d false k V := by
  obtain ⟨g1, g2, g3, g4, g5⟩ := g
  exact ⟨by omega, g2, by omega, fun q => by simp at q, fun _ O T S cmp dg h1 h2 h3 h4 h5 => (op_st hf hp hj h h2 h3 h4).v (by omega) (g5 rfl _ _ _ _ (op_pre hf hp hj h h1))⟩
theorem gO_S {p j d k l : Nat} {ok : Bool} {V W : List Int32} (hf : ∀ i, i < N → f i < 256) (hp : p < 3) (hj : j < N) (h : 0 ≤ opx p (f j)) (g : gL f N (p + 1) (j + 1) d true k V) (o : gO f N p (decide (0 < p)) k d ok l W) : gO f N p true j d ok l (V ++ opR p (f j) :: W) := by
  obtain ⟨g1, g2, g3, g4, g5⟩ := g
  obtain ⟨o1, o2, o3, o4, o5⟩ := o
  obtain ⟨a1, a2, a3, a4, a5, a6, a7, a8, a9⟩ := (opx_f ⟨p, hp⟩ ⟨_, hf j hj⟩).1 h
  dsimp only at a4 a5 a6 a7 a8 a9
  have go : ∀ cmp : Nat → Bool, p = 0 → cmU p d cmp d = !decide (0 < p) := fun cmp z => by
    subst z; unfold cmU; rw [if_pos rfl, if_pos rfl]; rfl
  have tc : ∀ T : List Int32, tOkL (p + 1 + 1) T → tOkL (p + 1) (T ++ [2000 + yN (f j)]) := fun T c x hx => by
    rw [List.mem_append] at hx
    rcases hx with hx | hx
    · exact ⟨(c x hx).1, by have := (c x hx).2; omega⟩
    · simp at hx; subst hx; exact ⟨a9, by omega⟩
  refine ⟨by omega, o2, by rw [List.length_append, List.length_cons]; omega, fun q => ⟨fun r k => ?_, fun O T S cmp dg h1 h2 h3 h4 h5 => ?_⟩, fun q O T S cmp dg h1 h2 h3 h4 h5 => ?_⟩
  · rw [List.append_assoc, (g4 rfl).1, List.cons_append]
    show (if opR p (f j) = 3000 then _ else if 2000 ≤ opR p (f j) then (if 2 ≤ k + 1 + 1 ∧ opR p (f j) ≤ 2006 then rDp (W ++ r) (k + 1 + 1 - 1) else none) else _) = _
    rw [if_neg a6, if_pos a7, if_pos ⟨by omega, a8⟩]
    exact (o4 q).1 r k
  · obtain ⟨X, T2, cmp', dg', a, b, c, e, n⟩ := (g4 rfl).2 (O ++ T) ((2000 + yN (f j)) :: S) (cmU p d cmp) 0 (op_pre hf hp hj h h1)
    have hsh : T2 ++ (2000 + yN (f j)) :: S = (T2 ++ [2000 + yN (f j)]) ++ S := by rw [List.append_assoc]; rfl
    rw [hsh] at a
    obtain ⟨X3, T3, cmp3, dg3, a3, b3, c3, e3, n3⟩ := (o4 q).2 (O ++ T ++ X) (T2 ++ [2000 + yN (f j)]) S cmp' dg' h1 h2 (fun z => by rw [e d (Or.inr ⟨rfl, by omega⟩)]; exact go cmp z) (tc T2 c) n
    refine ⟨T ++ X ++ X3, T3, cmp3, dg3, ?_, ?_, c3, fun x hx => ?_, n3⟩
    · rw [← List.append_assoc, ← List.append_assoc]
      exact ((op_st hf hp hj h h2 h3 h4).tr a).tr a3
    · rw [List.append_assoc, b3, List.map_append, List.map_cons, a5, ← b]
      simp only [List.append_assoc, List.cons_append, List.nil_append]
    · rw [e3 x hx, e x (by omega)]
      unfold cmU
      by_cases z : p = 0
      · rw [if_pos z, if_neg (by omega)]
      · rw [if_neg z]
  · obtain ⟨X, T2, cmp', dg', a, b, c, e, n⟩ := (g4 rfl).2 (O ++ T) ((2000 + yN (f j)) :: S) (cmU p d cmp) 0 (op_pre hf hp hj h h1)
    have hsh : T2 ++ (2000 + yN (f j)) :: S = (T2 ++ [2000 + yN (f j)]) ++ S := by rw [List.append_assoc]; rfl
    rw [hsh] at a
    exact ((op_st hf hp hj h h2 h3 h4).tr a).v (by omega) (o5 q (O ++ T ++ X) (T2 ++ [2000 + yN (f j)]) S cmp' dg' h1 h2 (fun z => by rw [e d (Or.inr ⟨rfl, by omega⟩)]; exact go cmp z) (tc T2 c) n)
end SD
