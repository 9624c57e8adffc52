/-! ===== rule(): the class, f_60 ===== -/
section RY
variable {κ : yK} {C : zC}
theorem s60 {i : Nat} {m : yM} {O S : List Int32} {dep dg : Nat} {cmp : Nat → Bool} (hT : cTx m C) (oC : okC C) (hi : i < C.1) (hR : Rs m (O, S, dep, cmp, dg, false)) (hl : O.length + S.length < 40) (hc : ∀ c, c ∈ S → c = 4000 ∨ opc c) (hd4 : dep ≤ 4) (hne : 0 < dep → (popL 0 S).2 ≠ []) (hdg : dg ≤ 3) (hO : 1 ≤ dg → O ≠ []) :
    (uG O S dep cmp dg (ch C i) = none ∧ ∃ m', f_60 110 1 (yN i) (yH κ m) = some (0, yH κ m') ∧ yFr sU m m') ∨ ∃ s' m', uG O S dep cmp dg (ch C i) = some s' ∧ f_60 110 1 (yN i) (yH κ m) = some (1, yH κ m') ∧ Rs m' s' ∧ yFr sU m m' := by
  have hC := oC.1
  obtain ⟨hk, e⟩ := ch_e oC hi
  have xd := (ix8910 ⟨_, hk⟩).2.2.2.2
  dsimp only at xd
  have e76 : f_76 1 (yN i) (yH κ m) = some (yB (dig (ch C i)), yH κ m) := by rw [s76 hT hC hi, e, xd]
  have ea : pAi (yH κ m) 2 (yN i) = some (yN (ch C i)) := by rw [show pAi (yH κ m) 2 (yN i) = _ from ya_2 (by omega), hT.2 i hi, e]
  have k9 : m.1 110 9 = yN dg := hR.2.2.2.2.2.1
  have k6 : m.1 110 6 = yN O.length := hR.1.1
  unfold uG f_60
  rw [yis_1, pG_t, yBs, e76, yBs]
  dsimp only
  cases hd : dig (ch C i) with
  | false =>
    rw [if_neg (show ¬ (false = true ∧ 1 ≤ dg ∧ dg < 3) by simp), yB_f, if_pos rfl]
    exact s60t (κ := κ) (T := _) (fun _ => rfl) hT oC hi hR hl hc hd4 hne
  | true =>
    rw [yB_t, if_neg (show ¬ ((1 : Int32) = 0) by decide), yi_110_9, yBs, k9]
    by_cases h0 : dg = 0
    · rw [if_neg (show ¬ (true = true ∧ 1 ≤ dg ∧ dg < 3) by omega), if_pos (show yN dg ≤ 0 by rw [yN_lel (by omega) (by omega)]; omega)]
      exact s60t (κ := κ) (T := _) (fun _ => rfl) hT oC hi hR hl hc hd4 hne
    · rw [if_neg (show ¬ (yN dg ≤ 0) by rw [yN_lel (by omega) (by omega)]; omega), yBs]
      by_cases h3 : 3 ≤ dg
      · rw [if_neg (show ¬ (true = true ∧ 1 ≤ dg ∧ dg < 3) by omega), if_pos (show (3 : Int32) ≤ yN dg by rw [yN_lle (by omega) (by omega)]; omega)]
        exact s60t (κ := κ) (T := _) (fun _ => rfl) hT oC hi hR hl hc hd4 hne
      · have hOn := hO (by omega)
        have hOl : 0 < O.length := List.length_pos_iff.2 hOn
        obtain ⟨P, z, hP⟩ : ∃ P z, O = P ++ [z] := ⟨O.dropLast, O.getLast hOn, (List.dropLast_concat_getLast hOn).symm⟩
        subst hP
        have hPl : (P ++ [z]).length = P.length + 1 := by simp
        rw [hPl] at k6 hl
        have kz : m.1 112 P.length = z := hR.1.2 P.length z (by rw [List.getElem?_append_right (Nat.le_refl _)]; simp)
        have h6 : yN (P.length + 1) - 1 = yN P.length := yN_subl (by omega)
        right
        rw [if_pos (show true = true ∧ 1 ≤ dg ∧ dg < 3 from ⟨rfl, by omega, by omega⟩), if_neg (show ¬ ((3 : Int32) ≤ yN dg) by rw [yN_lle (by omega) (by omega)]; omega), yi_110_6, yBs, k6, if_neg (show ¬ (yN (P.length + 1) ≤ 0) by rw [yN_lel (by omega) (by omega)]; omega)]
        obtain ⟨r1, r2, r3, r4, r5, r6, r7⟩ := hR
        have k9' : (yW m 112 P.length (((10 * z) + yN (ch C i)) - 48)).1 110 9 = yN dg := by rw [yW_row (by omega)]; exact k9
        have f2 : yFr (fun x j => (x = 110 ∧ j = 9) ∨ (x = 112 ∧ j = P.length)) m (yW (yW m 112 P.length (((10 * z) + yN (ch C i)) - 48)) 110 9 (yN (dg + 1))) := (yFr.w (S := fun x j => (x = 110 ∧ j = 9) ∨ (x = 112 ∧ j = P.length)) m (Or.inr ⟨rfl, rfl⟩)).tr (yFr.w (S := fun x j => (x = 110 ∧ j = 9) ∨ (x = 112 ∧ j = P.length)) _ (Or.inl ⟨rfl, rfl⟩)) (fun _ _ => orSelf)
        refine ⟨_, yW (yW m 112 P.length (((10 * z) + yN (ch C i)) - 48)) 110 9 (yN (dg + 1)), rfl, ?_, ⟨⟨?_, fun j c q => ?_⟩, ?_, r3.c (fun j _ => f2.2 _ _ (by omega)), ?_, fun d hd' => ?_, ?_, ?_⟩, f2.wk (fun x j q => by unfold sU; omega)⟩
        · simp only [yr_110_1, yBs, yi_110_6, k6, h6, ya_112 (show P.length < 40 by omega), kz, yr_1_0, ea, yst_112 (show P.length < 40 by omega), yi_110_9, k9', yN_addl, yp_110_9, pZ_1]
        · rw [f2.2 _ _ (by omega), k6]
          have : P.length + 1 = ((P ++ [z]).dropLast ++ [((10 * (P ++ [z]).getLastD 0) + yN (ch C i)) - 48]).length := by simp
          rw [this]
        · simp at q
          rcases listI_ap q with ⟨rfl, rfl⟩ | ⟨q1, q2⟩
          · rw [yW_row (by omega), yW_self, upd_eq]
          · rw [f2.2 _ _ (by omega)]; exact r1.2 j c (by rw [List.getElem?_append_left q1]; exact q2)
        · rw [f2.2 _ _ (by omega)]; exact r2
        · rw [f2.2 _ _ (by omega)]; exact r4
        · rw [f2.2 _ _ (by omega)]; exact r5 d hd'
        · rw [yW_self, upd_eq]
        · rw [f2.2 _ _ (by omega)]; exact r7
end RY
