/-! ===== play(): the class reads, the reference reads ===== -/
theorem pE_st {f : Nat → Nat} {N i st v st' v' : Nat} {oc : Option Nat} (h : i < N) (hx : pX st v (f i) = some (st', v', oc)) : pE f N i st v = ((pE f N (i + 1) st' v').1, (pE f N (i + 1) st' v').2.1, oc.toList ++ (pE f N (i + 1) st' v').2.2) := by
  rw [pE_lt h, hx]
theorem pE_er {f : Nat → Nat} {N i st v : Nat} (h : i < N) (hx : pX st v (f i) = none) : pE f N i st v = (some i, st, []) := by
  rw [pE_lt h, hx]
section PQ
variable {κ : yK} {C : zC}
theorem s46_20 (oC : okC C) {N : Nat} (hN : N ≤ C.1) (hN7 : N ≤ 70) : ∀ (d i fu : Nat) (m : yM) (st v : Nat) (cs : List Nat), i + d = N → d < fu → pV st v → (st ≠ 0 → m.1 146 2 = yN v) → Mc m cs → cs.length ≤ i → cTx m C →
    ∃ m', f_46_20 fu 146 1 (yN N) (yN st) (yN i) (yH κ m) = some (match (pE (ch C) N i st v).1 with | some e => .inr (yN e, yH κ m') | none => .inl (yN (pE (ch C) N i st v).2.1, yH κ m')) ∧ Mc m' (cs ++ (pE (ch C) N i st v).2.2) ∧ yFr sP6 m m' := by
  intro d
  induction d with
  | zero =>
    intro i fu m st v cs hi hf hv h2 hM hl hT
    obtain ⟨fu, rfl⟩ : ∃ k, fu = k + 1 := ⟨fu - 1, by omega⟩
    obtain rfl : i = N := by omega
    rw [pE_n]
    refine ⟨m, ?_, by rw [List.append_nil]; exact hM, yFr.rf m⟩
    rw [f_46_20, if_pos (by rw [yN_le (by omega) (by omega)]; omega)]
  | succ d ih =>
    intro i fu m st v cs hi hf hv h2 hM hl hT
    obtain ⟨fu, rfl⟩ : ∃ k, fu = k + 1 := ⟨fu - 1, by omega⟩
    rcases s47 (κ := κ) hT oC (i := i) (by omega) hv h2 hM (by omega) with ⟨hx, e⟩ | ⟨st', v', oc, m1, hx, e, w2, M1, F1⟩
    · rw [pE_er (by omega) hx]
      refine ⟨m, ?_, by rw [List.append_nil]; exact hM, yFr.rf m⟩
      rw [f_46_20, if_neg (by rw [yN_le (by omega) (by omega)]; omega), yis_146, pG_t, yBs, e, yBs]
      rfl
    · have hv' := (pX_v hx hv).1
      have lo : oc.toList.length ≤ 1 := by cases oc <;> simp
      obtain ⟨m', e', M', F'⟩ := ih (i + 1) fu m1 st' v' (cs ++ oc.toList) (by omega) (by omega) hv' w2 M1 (by rw [List.length_append]; omega) (hT.g (F1.g (fun _ _ => id)) (fun x j q => by unfold sP6 at q; omega))
      rw [pE_st (by omega) hx]
      refine ⟨m', ?_, by rw [← List.append_assoc]; exact M', F1.tr F' (fun _ _ => orSelf)⟩
      have h5 := hv'.1
      rw [f_46_20, if_neg (by rw [yN_le (by omega) (by omega)]; omega), yis_146, pG_t, yBs, e, yBs]
      dsimp only
      rw [if_neg (by rw [yN_eqm (by omega)]; exact id), yN_addl]
      exact e'
def pOk (C : zC) : Prop := (pE (ch C) (min 70 C.1) 0 0 0).1 = none ∧ C.1 ≤ 70 ∧ (C.1 = 0 ∨ (pE (ch C) (min 70 C.1) 0 0 0).2.1 = 5)
/-- where it goes wrong -/
def pW (C : zC) : Nat := match (pE (ch C) (min 70 C.1) 0 0 0).1 with | some e => e | none => min 70 C.1
theorem pS_le {f : Nat → Nat} : ∀ {d i st v e : Nat}, (pS f d i st v).1 = some e → i ≤ e ∧ e < i + d
  | 0, i, st, v, e, h => by rw [pS] at h; simp at h
  | d + 1, i, st, v, e, h => by
    rw [pS] at h
    split at h
    · simp at h; omega
    next st' v' oc hx =>
      have := pS_le h
      omega
theorem pX5 {st v k st' v' : Nat} {oc : Option Nat} (h : pX st v k = some (st', v', oc)) (h5 : st ≤ 5) : st' ≤ 5 := by
  match st, h5, h with
  | 0, _, h => rw [pX] at h; split at h <;> simp at h; omega
  | 1, _, h =>
    rw [pX] at h
    split at h
    · simp at h; omega
    · cases hl : lmr k with
      | none => rw [hl] at h; simp at h
      | some j => rw [hl] at h; simp at h; omega
  | 2, _, h =>
    rw [pX] at h
    cases hl : lmr k with
    | none => rw [hl] at h; simp at h
    | some j => rw [hl] at h; simp at h; omega
  | 3, _, h => rw [pX] at h; split at h <;> simp at h; omega
  | 4, _, h =>
    rw [pX] at h
    cases hl : lmr k with
    | none => rw [hl] at h; simp at h
    | some j => rw [hl] at h; simp at h; omega
  | 5, _, h =>
    have h' : (if k = 59 then some (0, v, (none : Option Nat)) else none) = some (st', v', oc) := h
    split at h' <;> simp at h'; omega
theorem pS5 {f : Nat → Nat} : ∀ {d i st v : Nat}, st ≤ 5 → (pS f d i st v).2.1 ≤ 5
  | 0, i, st, v, h => by rw [pS]; exact h
  | d + 1, i, st, v, h => by
    rw [pS]
    split
    · exact h
    next st' v' oc hx => exact pS5 (pX5 hx h)
theorem pE5 {f : Nat → Nat} {N i st v : Nat} (h : st ≤ 5) : (pE f N i st v).2.1 ≤ 5 := pS5 h
theorem pW_le (C : zC) : pW C ≤ min 70 C.1 := by
  unfold pW
  split
  next e h => have := pS_le h; omega
  · exact Nat.le_refl _
theorem s46 {m : yM} (oC : okC C) (hT : cTx m C) : ∃ m', (pOk C → f_46 146 1 (yH κ m) = some (-1, yH κ m')) ∧ (¬ pOk C → f_46 146 1 (yH κ m) = some (yN (pW C), yH κ m')) ∧ Mc m' (pE (ch C) (min 70 C.1) 0 0 0).2.2 ∧ yFr sP6 m m' := by
  have hC := oC.1
  have F0 : yFr sP6 m (yW m 146 1 0) := yFr.w m (Or.inl ⟨rfl, Or.inl rfl⟩)
  have hT' : cTx (yW m 146 1 0) C := hT.g (F0.g (fun _ _ => id)) (fun x j q => by unfold sP6 at q; omega)
  obtain ⟨m', e', M', F'⟩ := s46_20 (κ := κ) oC (N := min 70 C.1) (by omega) (by omega) (min 70 C.1) 0 100000 (yW m 146 1 0) 0 0 [] (by omega) (by omega) ⟨by omega, fun q => by omega, fun q => by omega, fun q => by omega⟩ (fun q => absurd rfl q) ⟨by rw [yW_self, upd_eq]; rfl, fun j c q => by simp at q⟩ (by simp) hT'
  have pre : f_46 146 1 (yH κ m) = ((match (pE (ch C) (min 70 C.1) 0 0 0).1 with | some e => .inr (yN e, yH κ m') | none => .inl (yN (pE (ch C) (min 70 C.1) 0 0 0).2.1, yH κ m') : (Int32 × xH) ⊕ (Int32 × xH)) |> fun r7 => match r7 with
      | .inl (w4, h3) => (pFi h3 1 8 1).bind fun x8 => (if x8 ≤ 70 then ((if yN (min 70 C.1) = 0 then some (-1) else (if w4 = 5 then some (-1) else some (yN (min 70 C.1)))) : Option Int32).bind fun w12 => some (w12, h3) else some (70, h3))
      | .inr (x16, h17) => some (x16, h17)) := by
    unfold f_46
    rw [yi_1_1, yBs, hT.1, yp_146_1, yBs, yp_minl (by omega) (by omega), show f_46_20 100000 146 1 (yN (min 70 C.1)) 0 0 = f_46_20 100000 146 1 (yN (min 70 C.1)) (yN 0) (yN 0) from rfl, e', yBs]
    rfl
  have k1 : m'.1 1 1 = yN C.1 := by rw [F'.2 _ _ (by unfold sP6; omega)]; exact hT'.1
  refine ⟨m', fun hok => ?_, fun hno => ?_, M', F0.tr F' (fun _ _ => orSelf)⟩
  · obtain ⟨h1, h2, h3⟩ := hok
    rw [pre, h1]
    dsimp only
    rw [yi_1_1, yBs, k1, if_pos (by rw [yN_lel (by omega) (by omega)]; exact h2)]
    rcases h3 with h3 | h3
    · rw [if_pos (by rw [h3]; rfl), yBs]
    · rw [h3]
      by_cases z : yN (min 70 C.1) = 0
      · rw [if_pos z, yBs]
      · rw [if_neg z, if_pos (by decide), yBs]
  · rw [pre]
    unfold pW pOk at *
    cases h1 : (pE (ch C) (min 70 C.1) 0 0 0).1 with
    | some e => rfl
    | none =>
      dsimp only
      rw [yi_1_1, yBs, k1]
      have h5 : (pE (ch C) (min 70 C.1) 0 0 0).2.1 ≤ 5 := pE5 (by omega)
      by_cases h2 : C.1 ≤ 70
      · rw [if_pos (by rw [yN_lel (by omega) (by omega)]; exact h2)]
        have z0 : C.1 ≠ 0 := fun q => hno ⟨h1, h2, Or.inl q⟩
        have z5 : (pE (ch C) (min 70 C.1) 0 0 0).2.1 ≠ 5 := fun q => hno ⟨h1, h2, Or.inr q⟩
        rw [if_neg (by rw [yN_eql (by omega) (by omega)]; omega), if_neg (by rw [yN_eql (by omega) (by omega)]; exact z5), yBs]
      · rw [if_neg (by rw [yN_lel (by omega) (by omega)]; exact h2), show min 70 C.1 = 70 by omega]; rfl
/-- indexOf in lmr -/
theorem m176 {m : yM} {i N : Nat} (oC : okC C) (h11 : m.1 178 11 = yN i) (h12 : m.1 178 12 = yN N) (hN : N ≤ C.1) (hi : i ≤ N) (hT : ∀ j, j < C.1 → m.1 183 j = C.2 j) : f_176 178 (xKb + 10 + 10) (yH κ m) = some (if i < N then (match lmr (ch C i) with | some j => yN j | none => -1) else -1, yH κ m) := by
  have hC := oC.1
  have tl : pTl (xKb + 10 + 10) = some 3 := by decide +kernel
  have t0 : pTc (xKb + 10 + 10) 0 = some 108 := by decide +kernel
  have t1 : pTc (xKb + 10 + 10) 1 = some 109 := by decide +kernel
  have t2 : pTc (xKb + 10 + 10) 2 = some 114 := by decide +kernel
  have l0 : ((3 : Int32) ≤ 0) = False := by decide
  have l1 : ((3 : Int32) ≤ 1) = False := by decide
  have l2 : ((3 : Int32) ≤ 2) = False := by decide
  have l3 : ((3 : Int32) ≤ 3) = True := by decide
  have a0 : (0 : Int32) + 1 = 1 := by decide
  have a1 : (1 : Int32) + 1 = 2 := by decide
  have a2 : (2 : Int32) + 1 = 3 := by decide
  unfold f_176
  rw [show (100000 : Nat) = 99996 + 4 from rfl]
  by_cases h : i < N
  · rw [if_pos h]
    obtain ⟨hk, e⟩ := ch_e oC (show i < C.1 by omega)
    have nle : (yN N ≤ yN i) = False := by rw [yN_le (by omega) (by omega)]; exact eq_false (by omega)
    have ea : pAi (yH κ m) 183 (yN i) = some (yN (ch C i)) := by rw [show pAi (yH κ m) 183 (yN i) = _ from ya_183 (by omega), hT i (by omega), e]
    have q0 : ((108 : Int32) = yN (ch C i)) = (ch C i = 108) := by rw [yN_leq (by omega) (by omega)]; exact propext eq_comm
    have q1 : ((109 : Int32) = yN (ch C i)) = (ch C i = 109) := by rw [yN_leq (by omega) (by omega)]; exact propext eq_comm
    have q2 : ((114 : Int32) = yN (ch C i)) = (ch C i = 114) := by rw [yN_leq (by omega) (by omega)]; exact propext eq_comm
    unfold f_176_2 f_176_2 f_176_2 f_176_2
    simp only [tl, yBs, l0, l1, l2, l3, if_false, if_true, yi_178_11, yi_178_12, h11, h12, nle, t0, t1, t2, yr_178_9, ea, q0, q1, q2, a0, a1, a2]
    unfold lmr
    by_cases c0 : ch C i = 108
    · simp only [c0, if_true, yBs]; rfl
    · by_cases c1 : ch C i = 109
      · simp only [c0, c1, if_true, if_false, yBs]; rfl
      · by_cases c2 : ch C i = 114
        · simp only [c0, c1, c2, if_true, if_false, yBs]; rfl
        · simp only [c0, c1, c2, if_true, if_false, yBs]
  · rw [if_neg h]
    have nle : (yN N ≤ yN i) = True := by rw [yN_le (by omega) (by omega)]; exact eq_true (by omega)
    unfold f_176_2
    simp only [tl, yBs, l0, if_false, if_true, yi_178_11, yi_178_12, h11, h12, nle]
end PQ
