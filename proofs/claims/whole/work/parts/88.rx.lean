/-! ===== rule(): the class, a character where an operator must stand ===== -/
def uT (O S : List Int32) (dep : Nat) (cmp : Nat → Bool) (k : Nat) : Option uS :=
  if k = 41 then (if 0 < dep then some (O ++ (popL 0 S).1, (popL 0 S).2.tail, dep - 1, cmp, 0, false) else none)
  else if opk k = true then uO O S dep cmp (2000 + yN k) else none
def uG (O S : List Int32) (dep : Nat) (cmp : Nat → Bool) (dg k : Nat) : Option uS :=
  if dig k = true ∧ 1 ≤ dg ∧ dg < 3 then some (O.dropLast ++ [((10 * O.getLastD 0) + yN k) - 48], S, dep, cmp, dg + 1, false) else uT O S dep cmp k
section RX
variable {κ : yK} {C : zC}
theorem s60t {T : xH → Option (Int32 × xH)} {i : Nat} (hr : ∀ h2, T h2 = ((pP h2 110 6 9 (.int 0)).bind fun h5 => (pG (pIs h5 1 8)).bind fun _ => (f_77 1 (yN i) (xKb + 10 + 6) h5).bind fun (x8, h7) => (if x8 = 0 then (pG (pIs h7 1 8)).bind fun _ => (f_77 1 (yN i) (xKb + 10 + 7) h7).bind fun (x12, h11) => ((if x12 = 0 then some (0, h11) else (pFr h11 1 8 0).bind fun x23 => (pAi h11 x23 (yN i)).bind fun x24 => (pG (pIs h11 110 6)).bind fun _ => (f_61 110 x24 h11).bind fun (x27, h26) => (if x27 = 0 then some (0, h26) else some (1, h26)) : Option (Int32 × xH))).bind fun (w20, h21) => pZ w20 h21 else (pFi h7 110 6 8).bind fun x30 => (if x30 ≤ 0 then (pG (pIs h7 1 8)).bind fun _ => (f_77 1 (yN i) (xKb + 10 + 7) h7).bind fun (x34, h33) => ((if x34 = 0 then some (0, h33) else (pFr h33 1 8 0).bind fun x45 => (pAi h33 x45 (yN i)).bind fun x46 => (pG (pIs h33 110 6)).bind fun _ => (f_61 110 x46 h33).bind fun (x49, h48) => (if x49 = 0 then some (0, h48) else some (1, h48)) : Option (Int32 × xH))).bind fun (w42, h43) => pZ w42 h43 else (pG (pIs h7 110 6)).bind fun _ => (f_63 110 0 h7).bind fun h53 => (pFi h53 110 6 7).bind fun x54 => (pP h53 110 6 7 (.int (x54 - 1))).bind fun h55 => (pFi h55 110 6 8).bind fun x56 => (pP h55 110 6 8 (.int (x56 - 1))).bind fun h57 => pZ 1 h57))))
    {m : yM} {O S : List Int32} {dep dg : Nat} {cmp : Nat → Bool} (hT : cTx m C) (oC : okC C) (hi : i < C.1) (hR : Rs m (O, S, dep, cmp, dg, false)) (hl : O.length + S.length < 40) (hc : ∀ c, c ∈ S → c = 4000 ∨ opc c) (hd4 : dep ≤ 4) (hne : 0 < dep → (popL 0 S).2 ≠ []) :
    (uT O S dep cmp (ch C i) = none ∧ ∃ m', T (yH κ m) = some (0, yH κ m') ∧ yFr sU m m') ∨ ∃ s' m', uT O S dep cmp (ch C i) = some s' ∧ T (yH κ m) = some (1, yH κ m') ∧ Rs m' s' ∧ yFr sU m m' := by
  have hC := oC.1
  obtain ⟨hk, e⟩ := ch_e oC hi
  obtain ⟨xo, x6, x7, xd, x41⟩ := opk_c ⟨_, hk⟩
  dsimp only at xo x6 x7 xd
  obtain ⟨r1, r2, r3, r4, r5, r6, r7⟩ := hR
  have f0 : yFr (fun x j => x = 110 ∧ j = 9) m (yW m 110 9 0) := yFr.w m ⟨rfl, rfl⟩
  have F0 : yFr sU m (yW m 110 9 0) := f0.wk (fun x j q => by unfold sU; omega)
  have R0 : Rs (yW m 110 9 0) (O, S, dep, cmp, 0, false) := by
    refine ⟨r1.g (f0.g (fun _ _ => id)) (fun x j q => by omega), ?_, r3.c (fun j _ => f0.2 _ _ (by omega)), ?_, fun d hd => ?_, ?_, ?_⟩
    · rw [f0.2 _ _ (by omega)]; exact r2
    · rw [f0.2 _ _ (by omega)]; exact r4
    · rw [f0.2 _ _ (by omega)]; exact r5 d hd
    · rw [yW_self, upd_eq]; rfl
    · rw [f0.2 _ _ (by omega)]; exact r7
  have hT0 : cTx (yW m 110 9 0) C := hT.g (f0.g (fun _ _ => id)) (fun x j q => by omega)
  generalize hm0 : yW m 110 9 0 = m0 at *
  have e6 : f_77 1 (yN i) (xKb + 10 + 6) (yH κ m0) = some (yB (decide (ch C i = 41)), yH κ m0) := by rw [s77 (by omega) hT0 oC hi, e, x6]
  have e7 : f_77 1 (yN i) (xKb + 10 + 7) (yH κ m0) = some (yB (opk (ch C i)), yH κ m0) := by rw [s77 (by omega) hT0 oC hi, e, x7]
  have ea : pAi (yH κ m0) 2 (yN i) = some (yN (ch C i)) := by rw [show pAi (yH κ m0) 2 (yN i) = _ from ya_2 (by omega), hT0.2 i hi, e]
  have k8 : m0.1 110 8 = yN dep := R0.2.2.2.1
  rw [hr, yp_110_9, yBs, hm0, yis_1, pG_t, yBs, e6, yBs]
  dsimp only
  unfold uT
  by_cases c41 : ch C i = 41
  · rw [if_pos c41, decide_eq_true c41, yB_t, if_neg (show ¬ ((1 : Int32) = 0) by decide), yi_110_8, yBs, k8]
    by_cases hd : 0 < dep
    · right
      rw [if_pos hd, if_neg (by rw [yN_lel (by omega) (by omega)]; omega)]
      obtain ⟨m1, e1, a1, b1, o1, f1⟩ := s63 (κ := κ) (L := 0) (Nat.le_of_lt hl) hc R0.2.1 R0.2.2.1 R0.1
      have hn := hne hd
      have hpl := popL_len 0 S
      obtain ⟨t, r, htr⟩ : ∃ t r, (popL 0 S).2 = t :: r := by
        cases hq : (popL 0 S).2 with
        | nil => exact absurd hq hn
        | cons t r => exact ⟨t, r, rfl⟩
      rw [htr] at a1 b1 hpl ⊢
      have hrl : r.length < 40 := by simp at hpl; omega
      have k71 : m1.1 110 7 - 1 = yN r.length := by rw [a1, show (t :: r).length = r.length + 1 from rfl]; exact yN_subl (by omega)
      have k81 : (yW m1 110 7 (yN r.length)).1 110 8 = yN dep := by rw [yW_get, if_neg (by omega), f1.2 _ _ (by unfold sUp; omega)]; exact k8
      have f2 : yFr (fun x j => x = 110 ∧ (j = 7 ∨ j = 8)) m1 (yW (yW m1 110 7 (yN r.length)) 110 8 (yN (dep - 1))) := (yFr.w (S := fun x j => x = 110 ∧ (j = 7 ∨ j = 8)) m1 ⟨rfl, Or.inl rfl⟩).tr (yFr.w (S := fun x j => x = 110 ∧ (j = 7 ∨ j = 8)) _ ⟨rfl, Or.inr rfl⟩) (fun _ _ => orSelf)
      have kk : ∀ x j, ¬ (x = 110 ∧ (j = 6 ∨ j = 7 ∨ j = 8)) → x ≠ 112 → (yW (yW m1 110 7 (yN r.length)) 110 8 (yN (dep - 1))).1 x j = m0.1 x j := fun x j p q => by rw [f2.2 _ _ (by omega), f1.2 _ _ (by unfold sUp; omega)]
      refine ⟨_, yW (yW m1 110 7 (yN r.length)) 110 8 (yN (dep - 1)), rfl, ?_, ⟨o1.g (f2.g (fun _ _ => id)) (fun x j q => by omega), ?_, b1.2.c (fun j _ => f2.2 _ _ (by omega)), ?_, fun d hd' => ?_, ?_, ?_⟩, (F0.tr (f1.wk (S3 := sU) (fun x j q => by unfold sUp at q; unfold sU; omega)) (S3 := sU) (fun _ _ => orSelf)).tr (f2.wk (S3 := sU) (fun x j q => by unfold sU; omega)) (fun _ _ => orSelf)⟩
      · rw [yis_110, pG_t, yBs, e1, yBs, yi_110_7, yBs, k71, yp_110_7, yBs, yi_110_8, yBs, k81, yN_subl (by omega), yp_110_8, yBs]; exact pZ_1 _
      · rw [yW_get, if_neg (by omega), yW_self, upd_eq]; rfl
      · rw [yW_self, upd_eq]
      · have hd'' : d ≤ dep - 1 := hd'
        rw [kk _ _ (by omega) (by omega)]; exact R0.2.2.2.2.1 d (by show d ≤ dep; omega)
      · rw [kk _ _ (by omega) (by omega)]; exact R0.2.2.2.2.2.1
      · rw [kk _ _ (by omega) (by omega)]; exact R0.2.2.2.2.2.2
    · left
      have ho : opk (ch C i) = false := by rw [c41]; exact x41
      rw [if_neg hd, if_pos (by rw [yN_lel (by omega) (by omega)]; omega), yis_1, pG_t, yBs, e7, ho, yBs]
      dsimp only
      rw [yB_f, if_pos rfl, yBs]
      exact ⟨rfl, m0, pZ_0 _, F0⟩
  · rw [if_neg c41, decide_eq_false c41, yB_f, if_pos rfl, yis_1, pG_t, yBs, e7, yBs]
    dsimp only
    cases ho : opk (ch C i) with
    | false =>
      left
      rw [if_neg (show ¬ (false = true) by decide), yB_f, if_pos rfl, yBs]
      exact ⟨rfl, m0, pZ_0 _, F0⟩
    | true =>
      rw [if_pos rfl, yB_t, if_neg (show ¬ ((1 : Int32) = 0) by decide), yr_1_0, yBs, ea, yBs, yis_110, pG_t, yBs]
      rcases s61 (κ := κ) (k := ch C i) R0 hl hc hd4 (xo ho) with ⟨u1, u2⟩ | ⟨s', m', u1, u2, u3, u4⟩
      · left
        rw [u2, yBs]
        dsimp only
        rw [if_pos rfl, yBs]
        exact ⟨u1, m0, pZ_0 _, F0⟩
      · right
        refine ⟨s', m', u1, ?_, u3, F0.tr u4 (fun _ _ => orSelf)⟩
        rw [u2, yBs]
        dsimp only
        rw [if_neg (by decide), yBs]
        exact pZ_1 _
end RX
