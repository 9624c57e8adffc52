/-! ===== rule(): the class's run over the text ===== -/
def uR (f : Nat → Nat) : Nat → Nat → uS → Option Nat × uS
  | 0, _, s => (none, s)
  | d + 1, i, s => match uX s (f i) with
    | none => (some i, s)
    | some s' => uR f d (i + 1) s'
section SA
variable {κ : yK} {C : zC}
theorem s53_16 (oC : okC C) {N : Nat} (hN : N ≤ C.1) (hN4 : N ≤ 40) : ∀ (d i fu : Nat) (m : yM) (s : uS), i + d = N → d < fu → uK s i → Rs m s → cTx m C →
    ∃ m', f_53_16 fu 110 1 (yN N) (yN i) (yH κ m) = some (match (uR (ch C) d i s).1 with | none => .inl (yH κ m') | some e => .inr (yN e, yH κ m')) ∧ ((uR (ch C) d i s).1 = none → Rs m' (uR (ch C) d i s).2 ∧ uK (uR (ch C) d i s).2 N) ∧ yFr sU m m' := by
  intro d
  induction d with
  | zero =>
    intro i fu m s hi hf hK hR hT
    obtain ⟨fu, rfl⟩ : ∃ k, fu = k + 1 := ⟨fu - 1, by omega⟩
    obtain rfl : i = N := by omega
    rw [uR]
    refine ⟨m, ?_, fun _ => ⟨hR, hK⟩, yFr.rf m⟩
    rw [f_53_16, if_pos (by rw [yN_le (by omega) (by omega)]; omega)]
  | succ d ih =>
    intro i fu m s hi hf hK hR hT
    obtain ⟨fu, rfl⟩ : ∃ k, fu = k + 1 := ⟨fu - 1, by omega⟩
    have hic : i < C.1 := by omega
    have hk := (ch_e oC hic).1
    obtain ⟨O, S, dep, cmp, dg, w⟩ := s
    have hK' := hK
    obtain ⟨h1, h2, h3, h4, h5, h6⟩ := hK'
    have h1' : O.length + S.length ≤ i := h1
    have h4' : (S.filter (fun c => c == 4000)).length = dep := h4
    have k10 : m.1 110 10 = yB w := hR.2.2.2.2.2.2
    have step : (uX (O, S, dep, cmp, dg, w) (ch C i) = none ∧ ∃ m', f_53_16 (fu + 1) 110 1 (yN N) (yN i) (yH κ m) = some (.inr (yN i, yH κ m')) ∧ yFr sU m m') ∨ ∃ s' m', uX (O, S, dep, cmp, dg, w) (ch C i) = some s' ∧ f_53_16 (fu + 1) 110 1 (yN N) (yN i) (yH κ m) = f_53_16 fu 110 1 (yN N) (yN (i + 1)) (yH κ m') ∧ Rs m' s' ∧ yFr sU m m' := by
      rw [f_53_16, if_neg (by rw [yN_le (by omega) (by omega)]; omega), yi_110_10, yBs, k10]
      unfold uX
      dsimp only
      cases w with
      | true =>
        rw [if_pos rfl, yB_t, if_neg (show ¬ ((1 : Int32) = 0) by decide), yis_110, pG_t, yBs]
        rcases s59 (κ := κ) hT oC hic hR (by omega) h3 with ⟨u1, u2⟩ | ⟨s', m', u1, u2, u3, u4⟩
        · left
          rw [u2, yBs]
          dsimp only
          rw [if_pos rfl]
          exact ⟨u1, m, rfl, yFr.rf m⟩
        · right
          refine ⟨s', m', u1, ?_, u3, u4⟩
          rw [u2, yBs]
          dsimp only
          rw [if_neg (by decide), yN_addl]
      | false =>
        rw [if_neg (show ¬ (false = true) by decide), yB_f, if_pos rfl, yis_110, pG_t, yBs]
        rcases s60 (κ := κ) hT oC hic hR (by omega) h2 h3 (fun q => by obtain ⟨r, hr⟩ := popL_0 S h2 (by omega); rw [hr]; simp) h5 (fun _ => h6 rfl) with ⟨u1, m', u2, u4⟩ | ⟨s', m', u1, u2, u3, u4⟩
        · left
          rw [u2, yBs]
          dsimp only
          rw [if_pos rfl]
          exact ⟨u1, m', rfl, u4⟩
        · right
          refine ⟨s', m', u1, ?_, u3, u4⟩
          rw [u2, yBs]
          dsimp only
          rw [if_neg (by decide), yN_addl]
    rcases step with ⟨u1, m', u2, u3⟩ | ⟨s', m1, u1, u2, u3, u4⟩
    · rw [uR, u1]
      exact ⟨m', u2, fun q => by simp at q, u3⟩
    · obtain ⟨m', e', a', f'⟩ := ih (i + 1) fu m1 s' (by omega) (by omega) (uX_ok hk hK u1) u3 (hT.g (u4.g (fun _ _ => id)) (fun x j q => by unfold sU at q; omega))
      rw [uR, u1, u2]
      exact ⟨m', e', a', u4.tr f' (fun _ _ => orSelf)⟩
end SA
