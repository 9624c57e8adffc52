/-! locals of which less is known -/
def xMore : xL → xL → Prop
  | [], [] => True
  | none :: a, _ :: b => xMore a b
  | some v :: a, o :: b => o = some v ∧ xMore a b
  | _, _ => False
theorem xMore.len : ∀ {a b : xL}, xMore a b → a.length = b.length
  | [], [], _ => rfl
  | none :: a, o :: b, h => by simp [xMore.len (a := a) (b := b) h]
  | some v :: a, o :: b, h => by simp [xMore.len h.2]
  | [], _ :: _, h => by simp [xMore] at h
  | none :: _, [], h => by simp [xMore] at h
  | some _ :: _, [], h => by simp [xMore] at h
theorem xMore.at : ∀ {a b : xL} {i : Nat} {v : Value}, xMore a b → a[i]? = some (some v) → b[i]? = some (some v)
  | [], [], i, v, _, h => by simp at h
  | none :: a, o :: b, 0, v, _, h => by simp at h
  | none :: a, o :: b, i + 1, v, hm, h => by
    rw [List.getElem?_cons_succ] at h ⊢
    exact xMore.at (a := a) (b := b) hm h
  | some w :: a, o :: b, 0, v, hm, h => by
    obtain ⟨rfl, -⟩ := hm
    exact h
  | some w :: a, o :: b, i + 1, v, hm, h => by
    rw [List.getElem?_cons_succ] at h ⊢
    exact xMore.at hm.2 h
  | [], _ :: _, _, _, h, _ => by simp [xMore] at h
  | none :: _, [], _, _, h, _ => by simp [xMore] at h
  | some _ :: _, [], _, _, h, _ => by simp [xMore] at h
theorem xMore.set : ∀ {a b : xL} {i : Nat} (o : Option Value), xMore a b → xMore (a.set i o) (b.set i o)
  | [], [], i, o, _ => trivial
  | none :: a, w :: b, 0, o, hm => by
    cases o
    · exact hm
    · exact ⟨rfl, hm⟩
  | none :: a, w :: b, i + 1, o, hm => xMore.set (a := a) (b := b) o hm
  | some v :: a, w :: b, 0, o, hm => by
    cases o
    · exact hm.2
    · exact ⟨rfl, hm.2⟩
  | some v :: a, w :: b, i + 1, o, hm => ⟨hm.1, xMore.set o hm.2⟩
  | [], _ :: _, _, _, h => by simp [xMore] at h
  | none :: _, [], _, _, h => by simp [xMore] at h
  | some _ :: _, [], _, _, h => by simp [xMore] at h
theorem xMore.drop : ∀ {a b : xL} {i : Nat}, xMore a b → (∀ v, a[i]? ≠ some (some v)) → xMore a (b.set i none)
  | [], [], i, _, _ => trivial
  | none :: a, w :: b, 0, hm, _ => hm
  | none :: a, w :: b, i + 1, hm, h => xMore.drop (a := a) (b := b) hm (fun v z => h v (by rw [List.getElem?_cons_succ]; exact z))
  | some v :: a, w :: b, 0, hm, h => absurd rfl (h v)
  | some v :: a, w :: b, i + 1, hm, h => ⟨hm.1, xMore.drop hm.2 (fun v z => h v (by rw [List.getElem?_cons_succ]; exact z))⟩
  | [], _ :: _, _, h, _ => by simp [xMore] at h
  | none :: _, [], _, h, _ => by simp [xMore] at h
  | some _ :: _, [], _, h, _ => by simp [xMore] at h
theorem xClr_more {a b : xL} {i : Nat} (hm : xMore a b) : xMore (xClr a i) (xClr b i) := by
  unfold xClr
  by_cases h0 : i = 0
  · rw [if_pos h0, if_pos h0]; exact hm
  · rw [if_neg h0, if_neg h0]
    by_cases ha : xIsL (a[i - 1]?) = true
    · have hb : xIsL (b[i - 1]?) = true := by
        unfold xIsL at ha
        split at ha
        next w hw => rw [hm.at hw]; exact ha
        next => cases ha
      rw [if_pos ha, if_pos hb]
      exact hm.set none
    · rw [if_neg ha]
      by_cases hb : xIsL (b[i - 1]?) = true
      · rw [if_pos hb]
        refine hm.drop (fun v z => ha ?_)
        rw [z]
        rw [hm.at z] at hb
        exact hb
      · rw [if_neg hb]; exact hm
theorem xSet_more {a b a2 : xL} {i : Nat} {v : Value} (hm : xMore a b) (h : xSet a i v = some a2) : ∃ b2, xSet b i v = some b2 ∧ xMore a2 b2 := by
  unfold xSet at h ⊢
  split at h
  next hc =>
    cases h
    rw [if_pos (by rw [← hm.len]; exact hc)]
    exact ⟨_, rfl, (xClr_more hm).set _⟩
  next => cases h
theorem xSet2_more {a b a2 : xL} {i : Nat} {v : Value} (hm : xMore a b) (h : xSet2 a i v = some a2) : ∃ b2, xSet2 b i v = some b2 ∧ xMore a2 b2 := by
  unfold xSet2 at h ⊢
  split at h
  next hc =>
    cases h
    rw [if_pos (by rw [← hm.len]; exact hc)]
    exact ⟨_, rfl, ((xClr_more hm).set _).set _⟩
  next => cases h
theorem xPure_more {a b a2 : xL} {i : Instr} {pc p2 : Nat} {st st2 : List Value} {h h2 : xH} (hm : xMore a b) (hs : xPure i pc a st h = some (.inl (p2, a2, st2, h2))) : ∃ b2, xPure i pc b st h = some (.inl (p2, b2, st2, h2)) ∧ xMore a2 b2 := by
  cases i with
  | iload j =>
    simp only [xPure, xLdI, xNx] at hs ⊢
    split at hs
    next x hx => cases hs; rw [hm.at hx]; exact ⟨_, rfl, hm⟩
    next => cases hs
  | iload_n j =>
    simp only [xPure, xLdI, xNx] at hs ⊢
    split at hs
    next x hx => cases hs; rw [hm.at hx]; exact ⟨_, rfl, hm⟩
    next => cases hs
  | lload j =>
    simp only [xPure, xLdL, xNx] at hs ⊢
    split at hs
    next x hx => cases hs; rw [hm.at hx]; exact ⟨_, rfl, hm⟩
    next => cases hs
  | lload_n j =>
    simp only [xPure, xLdL, xNx] at hs ⊢
    split at hs
    next x hx => cases hs; rw [hm.at hx]; exact ⟨_, rfl, hm⟩
    next => cases hs
  | aload j =>
    simp only [xPure, xLdA, xNx] at hs ⊢
    split at hs
    next x hx => cases hs; rw [hm.at hx]; exact ⟨_, rfl, hm⟩
    next => cases hs
  | aload_n j =>
    simp only [xPure, xLdA, xNx] at hs ⊢
    split at hs
    next x hx => cases hs; rw [hm.at hx]; exact ⟨_, rfl, hm⟩
    next => cases hs
  | istore j =>
    simp only [xPure, xStI, xNx] at hs ⊢
    split at hs
    next x r => obtain ⟨l1, h1, h3⟩ := Option.bind_eq_some_iff.mp hs; cases h3; obtain ⟨b2, h4, h5⟩ := xSet_more hm h1; (try dsimp only); rw [h4]; exact ⟨_, rfl, h5⟩
    next => cases hs
  | istore_n j =>
    simp only [xPure, xStI, xNx] at hs ⊢
    split at hs
    next x r => obtain ⟨l1, h1, h3⟩ := Option.bind_eq_some_iff.mp hs; cases h3; obtain ⟨b2, h4, h5⟩ := xSet_more hm h1; (try dsimp only); rw [h4]; exact ⟨_, rfl, h5⟩
    next => cases hs
  | lstore j =>
    simp only [xPure, xStL, xNx] at hs ⊢
    split at hs
    next x r => obtain ⟨l1, h1, h3⟩ := Option.bind_eq_some_iff.mp hs; cases h3; obtain ⟨b2, h4, h5⟩ := xSet2_more hm h1; (try dsimp only); rw [h4]; exact ⟨_, rfl, h5⟩
    next => cases hs
  | lstore_n j =>
    simp only [xPure, xStL, xNx] at hs ⊢
    split at hs
    next x r => obtain ⟨l1, h1, h3⟩ := Option.bind_eq_some_iff.mp hs; cases h3; obtain ⟨b2, h4, h5⟩ := xSet2_more hm h1; (try dsimp only); rw [h4]; exact ⟨_, rfl, h5⟩
    next => cases hs
  | astore j =>
    simp only [xPure, xStA, xNx] at hs ⊢
    split at hs
    next x r => obtain ⟨l1, h1, h3⟩ := Option.bind_eq_some_iff.mp hs; cases h3; obtain ⟨b2, h4, h5⟩ := xSet_more hm h1; (try dsimp only); rw [h4]; exact ⟨_, rfl, h5⟩
    next => cases hs
  | astore_n j =>
    simp only [xPure, xStA, xNx] at hs ⊢
    split at hs
    next x r => obtain ⟨l1, h1, h3⟩ := Option.bind_eq_some_iff.mp hs; cases h3; obtain ⟨b2, h4, h5⟩ := xSet_more hm h1; (try dsimp only); rw [h4]; exact ⟨_, rfl, h5⟩
    next => cases hs
  | iinc j n =>
    simp only [xPure, xNx] at hs ⊢
    split at hs
    next x hx => rw [hm.at hx]; obtain ⟨l1, h1, h3⟩ := Option.bind_eq_some_iff.mp hs; cases h3; obtain ⟨b2, h4, h5⟩ := xSet_more hm h1; (try dsimp only); rw [h4]; exact ⟨_, rfl, h5⟩
    next => cases hs
  | tableswitch dflt lo hi offs =>
    simp only [xPure, xJ, xNx] at hs ⊢
    split at hs
    next x r =>
      try dsimp only
      split at hs
      next hc =>
        rw [if_pos hc]
        split at hs
        next h9 => cases hs; exact ⟨_, by rw [if_pos h9], hm⟩
        next => cases hs
      next hc =>
        rw [if_neg hc]
        split at hs
        next o ho =>
          split at hs
          next h9 => cases hs; exact ⟨_, by rw [if_pos h9], hm⟩
          next => cases hs
        next => cases hs
    next => cases hs
  | lookupswitch dflt ps =>
    simp only [xPure, xJ, xNx] at hs ⊢
    split at hs
    next x r =>
      try dsimp only
      split at hs
      next hc =>
        rw [if_pos hc]
        split at hs
        next h9 => cases hs; exact ⟨_, by rw [if_pos h9], hm⟩
        next => cases hs
      next => cases hs
    next => cases hs
  | _ =>
    simp only [xPure, xI2, xI1, xID, xL2, xLD, xLS, xL1, xJ, xNx, reduceCtorEq] at hs ⊢
    all_goals (repeat' (split at hs))
    all_goals first
      | (cases hs; done)
      | (cases hs; exact ⟨_, rfl, hm⟩)
      | (cases hs; simp_all)
theorem xCell_more {a b a2 : xL} {i : Instr} {M pc p2 : Nat} {st st2 : List Value} {h h2 : xH} (hm : xMore a b) (hs : xCell i M pc a st h = some (.inl (p2, a2, st2, h2))) : a2 = a ∧ xCell i M pc b st h = some (.inl (p2, b, st2, h2)) := by
  cases i <;> simp only [xCell, xGetf, xPutf, xNx, reduceCtorEq] at hs ⊢ <;> (repeat' (split at hs)) <;> first
    | (cases hs; done)
    | (cases hs; simp_all; done)
set_option maxRecDepth 100000 in
theorem xLib_more {a b : xL} {k pc p2 : Nat} {a2 : xL} {st st2 : List Value} {h h2 : xH} (hs : xLib k pc a st h = some (.inl (p2, a2, st2, h2))) : a2 = a ∧ xLib k pc b st h = some (.inl (p2, b, st2, h2)) := by
  unfold xLib at hs ⊢
  split at hs
  next =>
    split at hs
    next =>
      split at hs
      next hc =>
        simp only [xNx, Option.some.injEq, Sum.inl.injEq, Prod.mk.injEq] at hs
        obtain ⟨rfl, rfl, rfl, rfl⟩ := hs
        exact ⟨rfl, by (try dsimp only); rw [if_pos hc]; rfl⟩
      next => cases hs
    next => cases hs
  next =>
    split at hs
    next =>
      split at hs
      next hc =>
        simp only [xNx, Option.some.injEq, Sum.inl.injEq, Prod.mk.injEq] at hs
        obtain ⟨rfl, rfl, rfl, rfl⟩ := hs
        exact ⟨rfl, by (try dsimp only); rw [if_pos hc]; rfl⟩
      next => cases hs
    next => cases hs
  next =>
    split at hs
    next =>
      split at hs
      next hc =>
        simp only [xNx, Option.some.injEq, Sum.inl.injEq, Prod.mk.injEq] at hs
        obtain ⟨rfl, rfl, rfl, rfl⟩ := hs
        exact ⟨rfl, by (try dsimp only); rw [if_pos hc]; rfl⟩
      next => cases hs
    next => cases hs
  next =>
    split at hs
    next n dp b1 sp a1 r =>
      split at hs
      next hc =>
        try dsimp only
        rw [if_pos hc]
        split at hs
        next t n0 f t' n1 f2 hk1 hk2 =>
          split at hs
          next hq =>
            simp only [xNx, Option.some.injEq, Sum.inl.injEq, Prod.mk.injEq] at hs
            obtain ⟨rfl, rfl, rfl, rfl⟩ := hs
            refine ⟨rfl, ?_⟩
            (try dsimp only)
            rw [if_pos hq]
            rfl
          next => cases hs
        next t n0 f t' n1 f2 hk1 hk2 =>
          split at hs
          next hq =>
            simp only [xNx, Option.some.injEq, Sum.inl.injEq, Prod.mk.injEq] at hs
            obtain ⟨rfl, rfl, rfl, rfl⟩ := hs
            refine ⟨rfl, ?_⟩
            (try dsimp only)
            rw [if_pos hq]
            rfl
          next => cases hs
        next => cases hs
      next => cases hs
    next => cases hs
  next =>
    split at hs
    next =>
      split at hs
      next hc =>
        simp only [xNx, Option.some.injEq, Sum.inl.injEq, Prod.mk.injEq] at hs
        obtain ⟨rfl, rfl, rfl, rfl⟩ := hs
        exact ⟨rfl, by (try dsimp only); rw [if_pos hc]; rfl⟩
      next => cases hs
    next => cases hs
  next =>
    split at hs
    next =>
      split at hs
      next hc =>
        simp only [xNx, Option.some.injEq, Sum.inl.injEq, Prod.mk.injEq] at hs
        obtain ⟨rfl, rfl, rfl, rfl⟩ := hs
        exact ⟨rfl, by (try dsimp only); rw [if_pos hc]; rfl⟩
      next => cases hs
    next => cases hs
  next =>
    split at hs
    next =>
      split at hs
      next hc =>
        simp only [xNx, Option.some.injEq, Sum.inl.injEq, Prod.mk.injEq] at hs
        obtain ⟨rfl, rfl, rfl, rfl⟩ := hs
        exact ⟨rfl, by (try dsimp only); rw [if_pos hc]; rfl⟩
      next => cases hs
    next => cases hs
  next => cases hs
theorem xStep_more {a b a2 : xL} {i : Instr} {M pc p2 : Nat} {st st2 : List Value} {h h2 : xH} (hm : xMore a b) (hs : xStep i M pc a st h = some (.inl (p2, a2, st2, h2))) : ∃ b2, xStep i M pc b st h = some (.inl (p2, b2, st2, h2)) ∧ xMore a2 b2 := by
  unfold xStep at hs ⊢
  split at hs
  next w j hi =>
    unfold xCall at hs ⊢
    split at hs
    next k N na hk =>
      try dsimp only
      split at hs
      next hw =>
        rw [if_pos hw]
        obtain ⟨rfl, h1⟩ := xLib_more (b := b) hs
        exact ⟨b, h1, hm⟩
      next =>
        exfalso
        repeat' (split at hs)
        all_goals cases hs
    next => cases hs
  next hi =>
    try dsimp only
    split at hs
    next q hq =>
      cases hs
      obtain ⟨b2, h1, h3⟩ := xPure_more hm hq
      rw [h1]
      exact ⟨b2, rfl, h3⟩
    next hq =>
      obtain ⟨rfl, h1⟩ := xCell_more hm hs
      have hp : xPure i pc b st h = none := by
        cases hb : xPure i pc b st h with
        | none => rfl
        | some q =>
          exfalso
          cases i <;> simp only [xPure, xLdI, xLdL, xLdA, xStI, xStL, xStA, xI2, xI1, xID, xL2, xLD, xLS, xL1, xJ, xNx, reduceCtorEq] at hb <;> simp only [xCell, reduceCtorEq] at hs
      rw [hp]
      exact ⟨b, h1, hm⟩
theorem xStep_moreR {a b : xL} {i : Instr} {M pc : Nat} {st : List Value} {h : xH} {q : (Nat × List Value × List Value × Option Nat) ⊕ (Option Value × xH)} (hs : xStep i M pc a st h = some (.inr q)) : xStep i M pc b st h = some (.inr q) := by
  unfold xStep at hs ⊢
  split at hs
  next w j hi =>
    unfold xCall at hs ⊢
    split at hs
    next k N na hk =>
      try dsimp only
      split at hs
      next hw =>
        exfalso
        obtain ⟨_, _, _, _, e1, -⟩ := xLib_le hs
        cases e1
      next hw =>
        rw [if_neg hw]
        exact hs
    next => cases hs
  next hi =>
    try dsimp only
    split at hs
    next q1 hq =>
      exfalso
      cases hs
      obtain ⟨_, _, _, e1⟩ := xPure_h hq
      cases e1
    next hq =>
      cases i with
      | new j =>
        simp only [xPure, xCell, xNx] at hs ⊢
        repeat' (split at hs)
        all_goals first
          | (cases hs; done)
          | (simp_all; done)
      | _ =>
        exfalso
        simp only [xCell, xGetf, xPutf, xNx, reduceCtorEq] at hs
        all_goals (repeat' (split at hs))
        all_goals cases hs
theorem xRun_more : ∀ (n d M pc : Nat) (a b : xL) (st : List Value) (h : xH) (q : Option Value × xH), xMore a b → xRun n d M pc a st h = some q → xRun n d M pc b st h = some q
  | 0, d, M, pc, a, b, st, h, q, hm, hs => by simp [xRun] at hs
  | n + 1, d, M, pc, a, b, st, h, q, hm, hs => by
    unfold xRun at hs ⊢
    split at hs
    next => cases hs
    next i len hd =>
      split at hs
      next => cases hs
      next hn =>
        rw [if_neg hn]
        split at hs
        next v1 hv => (try dsimp only); exact hs
        next hv =>
          try dsimp only
          split at hs
          next pc1 ls1 st1 h1 ha =>
            obtain ⟨b2, h3, h4⟩ := xStep_more hm ha
            rw [h3]
            exact xRun_more n d M _ _ _ _ _ _ h4 hs
          next N as r ha =>
            rw [xStep_moreR (b := b) ha]
            try dsimp only
            split at hs
            next => cases hs
            next d1 =>
              try dsimp only
              split at hs
              next hc =>
                rw [if_pos hc]
                split at hs
                next v1 h1 hr =>
                  try dsimp only
                  split at hs
                  next => cases hs
                  next hv1 =>
                    rw [if_neg hv1]
                    exact xRun_more n _ _ _ _ _ _ _ _ hm hs
                next => cases hs
              next => cases hs
          next N as r o ha =>
            rw [xStep_moreR (b := b) ha]
            try dsimp only
            split at hs
            next d1 =>
              try dsimp only
              split at hs
              next hc =>
                rw [if_pos hc]
                split at hs
                next v1 h1 hr =>
                  try dsimp only
                  split at hs
                  next k h2 hca =>
                    try dsimp only
                    exact xRun_more n _ _ _ _ _ _ _ _ hm hs
                  next => cases hs
                next => cases hs
              next => cases hs
            next => cases hs
          next v1 h1 ha =>
            rw [xStep_moreR (b := b) ha]
            exact hs
          next => cases hs
theorem Wp.more {d M pc : Nat} {a b : xL} {st : List Value} {h : xH} {Q : Option Value → xH → Prop} (hm : xMore a b) (k : Wp d M pc a st h Q) : Wp d M pc b st h Q := by
  obtain ⟨n, v, h', hn, hq⟩ := k
  exact ⟨n, v, h', xRun_more n d M pc a b st h _ hm hn, hq⟩
def pG (b : Bool) : Option Unit := if b = true then some () else none
theorem pG_ok {b : Bool} {u : Unit} (h : pG b = some u) : b = true := by
  unfold pG at h
  split at h
  next hb => exact hb
  next => cases h
def pZ (x : Int32) (h : xH) : Option (Int32 × xH) := if x &&& 1 = x then some (x, h) else none
theorem pZ_ok {x : Int32} {h : xH} {q : Int32 × xH} (hz : pZ x h = some q) : x &&& 1 = x ∧ q = (x, h) := by
  unfold pZ at hz
  split at hz
  next hb => exact ⟨hb, (Option.some.inj hz).symm⟩
  next => cases hz
theorem oi2 {α β : Type} {a c : α} {b d : β} (h : some (a, b) = some (c, d)) : a = c ∧ b = d := Prod.mk.inj (Option.some.inj h)
/-- what a method that may throw has answered -/
def xOi (q : Option Int32) : Value := match q with
  | some y => .int y
  | none => .null
def xOl (q : Option Int64) : Value := match q with
  | some y => .long y
  | none => .null
