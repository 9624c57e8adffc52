set_option maxHeartbeats 4000000 in
theorem xPure_h {i : Instr} {pc : Nat} {ls : xL} {st : List Value} {h : xH} {a : xA} (hs : xPure i pc ls st h = some a) : ∃ pc' ls' st', a = .inl (pc', ls', st', h) := by
  cases i <;> simp only [xPure, xLdI, xLdL, xLdA, xStI, xStL, xStA, xI2, xI1, xID, xL2, xLD, xLS, xL1, xJ, xNx, reduceCtorEq] at hs <;> (repeat' (split at hs)) <;> first
    | (cases hs; done)
    | (obtain rfl := Option.some.inj hs; exact ⟨_, _, _, rfl⟩)
    | (obtain ⟨_, _, hs⟩ := Option.bind_eq_some_iff.mp hs; obtain rfl := Option.some.inj hs; exact ⟨_, _, _, rfl⟩)
def xLe (h h' : xH) : Prop := h.1 + h.2.2.1 ≤ h'.1 + h'.2.2.1 ∧ h.2.1 ≤ h'.2.1
theorem xLe.rf (h : xH) : xLe h h := ⟨Nat.le_refl _, Nat.le_refl _⟩
theorem xLe.put (h : xH) (a : Nat) (k : xE) : xLe h (xPut h a k) := ⟨Nat.le_refl _, Nat.le_refl _⟩
theorem xLe.add (h : xH) (n : Nat) (k : xE) : xLe h (xAdd h n k) := by
  unfold xLe xAdd
  dsimp only
  omega
theorem xLe.trans {a b c : xH} (h : xLe a b) (k : xLe b c) : xLe a c := ⟨Nat.le_trans h.1 k.1, Nat.le_trans h.2 k.2⟩
set_option maxHeartbeats 4000000 in
theorem xCell_le {i : Instr} {M pc pc' : Nat} {ls ls' : xL} {st st' : List Value} {h h' : xH} (hs : xCell i M pc ls st h = some (.inl (pc', ls', st', h'))) : xLe h h' := by
  cases i <;> simp only [xCell, xGetf, xPutf, xNx, reduceCtorEq] at hs <;> (repeat' (split at hs)) <;> first
    | (cases hs; done)
    | (cases hs; exact xLe.rf _)
    | (cases hs; exact xLe.put _ _ _)
    | (cases hs; exact xLe.add _ _ _)
set_option maxHeartbeats 4000000 in
theorem xLib_le {k pc : Nat} {ls : xL} {st : List Value} {h : xH} {a : xA} (hs : xLib k pc ls st h = some a) : ∃ pc' ls' st' h', a = .inl (pc', ls', st', h') ∧ xLe h h' := by
  unfold xLib at hs
  simp only [xNx] at hs
  repeat' (split at hs)
  all_goals first
    | (cases hs; done)
    | (obtain rfl := Option.some.inj hs; exact ⟨_, _, _, _, rfl, xLe.rf _⟩)
    | (obtain rfl := Option.some.inj hs; exact ⟨_, _, _, _, rfl, xLe.put _ _ _⟩)
theorem xStep_le {i : Instr} {M pc pc' : Nat} {ls ls' : xL} {st st' : List Value} {h h' : xH} (hs : xStep i M pc ls st h = some (.inl (pc', ls', st', h'))) : xLe h h' := by
  unfold xStep at hs
  split at hs
  next w j hi =>
    unfold xCall at hs
    split at hs
    next k N na hm =>
      split at hs
      next =>
        obtain ⟨_, _, _, _, e1, hl⟩ := xLib_le hs
        cases e1
        exact hl
      next =>
        split at hs
        next =>
          split at hs
          next => split at hs <;> cases hs
          next => cases hs
        next =>
          split at hs
          next =>
            split at hs
            next =>
              split at hs
              next => split at hs <;> cases hs
              next => cases hs
            next => cases hs
          next => cases hs
    next => cases hs
  next =>
    split at hs
    next a ha =>
      cases hs
      obtain ⟨_, _, _, e1⟩ := xPure_h ha
      cases e1
      exact xLe.rf _
    next => exact xCell_le hs
theorem xStep_thr {i : Instr} {M pc : Nat} {ls : xL} {st : List Value} {h h' : xH} {v : Option Value} (hs : xStep i M pc ls st h = some (.inr (.inr (v, h')))) : ∃ j, i = .new j ∧ xNew (xOwn M) j = some 99 ∧ st = [] ∧ v = some .null ∧ h' = (h.1, h.2.1 + 6, h.2.2.1 + 1, h.2.2.2) := by
  unfold xStep at hs
  split at hs
  next w j hi =>
    unfold xCall at hs
    split at hs
    next k N na hm =>
      split at hs
      next =>
        obtain ⟨_, _, _, _, e1, hl⟩ := xLib_le hs
        cases e1
      next =>
        split at hs
        next =>
          split at hs
          next => split at hs <;> cases hs
          next => cases hs
        next =>
          split at hs
          next =>
            split at hs
            next =>
              split at hs
              next => split at hs <;> cases hs
              next => cases hs
            next => cases hs
          next => cases hs
    next => cases hs
  next =>
    split at hs
    next a ha =>
      cases hs
      obtain ⟨_, _, _, e1⟩ := xPure_h ha
      cases e1
    next =>
      cases i with
      | new j =>
        simp only [xCell, xNx] at hs
        split at hs
        next ci hj =>
          split at hs
          next => split at hs <;> cases hs
          next =>
            split at hs
            next hc =>
              obtain ⟨rfl, rfl⟩ := hc
              cases hs
              exact ⟨j, rfl, hj, rfl, rfl, rfl⟩
            next => cases hs
        next => cases hs
      | _ =>
        exfalso
        simp only [xCell, xGetf, xPutf, xNx, reduceCtorEq] at hs
        repeat' (split at hs)
        all_goals cases hs
theorem xCaught_le {v : Option Value} {o : Nat} {h h2 : xH} {k : Int32} (hs : xCaught v o h = some (k, h2)) : xLe h h2 := by
  unfold xCaught at hs
  repeat' (split at hs)
  all_goals first
    | (cases hs; done)
    | (cases hs; exact xLe.rf _)
    | (cases hs; exact xLe.put _ _ _)
theorem xRun_le : ∀ (n d M pc : Nat) (ls : xL) (st : List Value) (h : xH) (v : Option Value) (h' : xH), xRun n d M pc ls st h = some (v, h') → xLe h h'
  | 0, d, M, pc, ls, st, h, v, h', hs => by simp [xRun] at hs
  | n + 1, d, M, pc, ls, st, h, v, h', hs => by
    unfold xRun at hs
    split at hs
    next => cases hs
    next i len hd =>
      split at hs
      next => cases hs
      next hn =>
        split at hs
        next v1 hv => cases hs; exact xLe.rf _
        next =>
          split at hs
          next pc1 ls1 st1 h1 ha => exact (xStep_le ha).trans (xRun_le n d M _ _ _ _ _ _ hs)
          next N as r ha =>
            split at hs
            next => cases hs
            next d1 =>
              split at hs
              next =>
                split at hs
                next v1 h1 hr =>
                  split at hs
                  next => cases hs
                  next => exact (xRun_le n _ _ _ _ _ _ _ _ hr).trans (xRun_le n _ _ _ _ _ _ _ _ hs)
                next => cases hs
              next => cases hs
          next N as r o ha =>
            split at hs
            next d1 =>
              split at hs
              next =>
                split at hs
                next v1 h1 hr =>
                  split at hs
                  next k h2 hc => exact ((xRun_le n _ _ _ _ _ _ _ _ hr).trans (xCaught_le hc)).trans (xRun_le n _ _ _ _ _ _ _ _ hs)
                  next => cases hs
                next => cases hs
              next => cases hs
            next => cases hs
          next v1 h1 ha =>
            cases hs
            obtain ⟨j, -, -, -, -, rfl⟩ := xStep_thr ha
            unfold xLe
            dsimp only
            omega
          next => cases hs
