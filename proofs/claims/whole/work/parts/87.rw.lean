/-! ===== rule(): the class, where an operator must stand ===== -/
def opk (k : Nat) : Bool := decide (k = 60 ∨ k = 62 ∨ k = 61 ∨ k = 43 ∨ k = 45 ∨ k = 42 ∨ k = 47)
/-- an operator comes -/
def uO (O S : List Int32) (dep : Nat) (cmp : Nat → Bool) (c : Int32) : Option uS :=
  if lev c = 1 then (if cmp dep = true then none else some (O ++ (popL 1 S).1, c :: (popL 1 S).2, dep, (fun d => if d = dep then true else cmp d), 0, true))
  else some (O ++ (popL (lev c) S).1, c :: (popL (lev c) S).2, dep, cmp, 0, true)
theorem opk_c : ∀ k : Fin 256, (opk k.val = true → (2000 + yN k.val = 2042 ∨ 2000 + yN k.val = 2043 ∨ 2000 + yN k.val = 2045 ∨ 2000 + yN k.val = 2047 ∨ 2000 + yN k.val = 2060 ∨ 2000 + yN k.val = 2061 ∨ 2000 + yN k.val = 2062 ∨ 2000 + yN k.val = 3000)) ∧ decide (0 ≤ xIx (xTxt.getD 6 []) (yN k.val)) = decide (k.val = 41) ∧ decide (0 ≤ xIx (xTxt.getD 7 []) (yN k.val)) = opk k.val ∧ (dig k.val = true → opk k.val = false ∧ k.val ≠ 41) ∧ opk 41 = false := by decide +kernel
section RW
variable {κ : yK} {C : zC}
/-- an operator is pushed behind those that it lets out -/
theorem s61p {m : yM} {O S : List Int32} {dep : Nat} {cmp : Nat → Bool} {c L : Int32} (hR : Rs m (O, S, dep, cmp, 0, false)) (hl : O.length + S.length < 40) (hc : ∀ c, c ∈ S → c = 4000 ∨ opc c) :
    ∃ m1 m2, f_63 110 L (yH κ m) = some (yH κ m1) ∧ f_58 110 c (yH κ m1) = some (yH κ m2) ∧ Rs (yW m2 110 10 1) (O ++ (popL L S).1, c :: (popL L S).2, dep, cmp, 0, true) ∧ yFr sU m (yW m2 110 10 1) := by
  obtain ⟨r1, r2, r3, r4, r5, r6, r7⟩ := hR
  obtain ⟨m1, e1, a1, b1, o1, f1⟩ := s63 (κ := κ) (L := L) (Nat.le_of_lt hl) hc r2 r3 r1
  have hp := popL_len L S
  obtain ⟨m2, e2, a2, b2, f2⟩ := s58 (κ := κ) (c := c) a1 b1 (by omega)
  have f3 : yFr (fun x j => x = 110 ∧ j = 10) m2 (yW m2 110 10 1) := yFr.w m2 ⟨rfl, rfl⟩
  have k : ∀ x j, ¬ (x = 110 ∧ (j = 6 ∨ j = 7 ∨ j = 10)) → x ≠ 112 → x ≠ 113 → (yW m2 110 10 1).1 x j = m.1 x j := fun x j p q r => by rw [f3.2 _ _ (by omega), f2.2 _ _ (by omega), f1.2 _ _ (by unfold sUp; omega)]
  refine ⟨m1, m2, e1, e2, ⟨(o1.g (f2.g (fun _ _ => id)) (fun x j q => by omega)).g (f3.g (fun _ _ => id)) (fun x j q => by omega), ?_, b2.c (fun j _ => f3.2 _ _ (by omega)), ?_, fun d hd => ?_, ?_, ?_⟩, ((f1.wk (S3 := sU) (fun x j q => by unfold sUp at q; unfold sU; omega)).tr (f2.wk (S3 := sU) (fun x j q => by unfold sU; omega)) (S3 := sU) (fun _ _ => orSelf)).tr (f3.wk (S3 := sU) (fun x j q => by unfold sU; omega)) (fun _ _ => orSelf)⟩
  · rw [f3.2 _ _ (by omega)]; exact a2
  · rw [k _ _ (by omega) (by omega) (by omega)]; exact r4
  · rw [k _ _ (by omega) (by omega) (by omega)]; exact r5 d hd
  · rw [k _ _ (by omega) (by omega) (by omega)]; exact r6
  · rw [yW_self, upd_eq]; rfl
theorem s61 {m : yM} {O S : List Int32} {dep k : Nat} {cmp : Nat → Bool} (hR : Rs m (O, S, dep, cmp, 0, false)) (hl : O.length + S.length < 40) (hc : ∀ c, c ∈ S → c = 4000 ∨ opc c) (hd4 : dep ≤ 4) (hk : opc (2000 + yN k)) :
    (uO O S dep cmp (2000 + yN k) = none ∧ f_61 110 (yN k) (yH κ m) = some (0, yH κ m)) ∨ ∃ s' m', uO O S dep cmp (2000 + yN k) = some s' ∧ f_61 110 (yN k) (yH κ m) = some (1, yH κ m') ∧ Rs m' s' ∧ yFr sU m m' := by
  have hR' := hR
  obtain ⟨r1, r2, r3, r4, r5, r6, r7⟩ := hR'
  have r4' : m.1 110 8 = yN dep := r4
  have r5' : m.1 115 dep = yB (cmp dep) := r5 dep (Nat.le_refl _)
  unfold uO f_61
  rw [s62 hk, yBs]
  dsimp only
  by_cases h1 : lev (2000 + yN k) = 1
  · rw [if_pos h1, if_pos h1, yr_110_4, yBs, yi_110_8, yBs, r4', ya_115 (by omega), yBs, r5']
    cases hcm : cmp dep with
    | true => left; rw [if_pos rfl, yB_t, if_neg (by decide)]; exact ⟨rfl, pZ_0 _⟩
    | false =>
      right
      rw [if_neg (show ¬ (false = true) by decide), yB_f, if_pos rfl, yBs, yBs, yst_115 (by omega), yBs, y11, h1]
      have f0 : yFr (fun x j => x = 115 ∧ j = dep) m (yW m 115 dep 1) := yFr.w m ⟨rfl, rfl⟩
      have R0 : Rs (yW m 115 dep 1) (O, S, dep, (fun d => if d = dep then true else cmp d), 0, false) := by
        refine ⟨r1.g (f0.g (fun _ _ => id)) (fun x j q => by omega), ?_, r3.c (fun j _ => f0.2 _ _ (by omega)), ?_, fun d hd => ?_, ?_, ?_⟩
        · rw [f0.2 _ _ (by omega)]; exact r2
        · rw [f0.2 _ _ (by omega)]; exact r4
        · show (yW m 115 dep 1).1 115 d = yB (if d = dep then true else cmp d)
          rw [yW_get]
          by_cases q : d = dep
          · rw [if_pos ⟨rfl, q⟩, if_pos q]; rfl
          · rw [if_neg (by omega), if_neg q]; exact r5 d hd
        · rw [f0.2 _ _ (by omega)]; exact r6
        · rw [f0.2 _ _ (by omega)]; exact r7
      obtain ⟨m1, m2, e1, e2, R2, F2⟩ := s61p (κ := κ) (c := 2000 + yN k) (L := 1) R0 hl hc
      refine ⟨_, _, rfl, ?_, R2, (f0.wk (S3 := sU) (fun x j q => by unfold sU; omega)).tr F2 (fun _ _ => orSelf)⟩
      rw [yis_110, pG_t, yBs, e1, yBs, yis_110, pG_t, yBs, e2, yBs, yp1_110_10, yBs]; exact pZ_1 _
  · right
    rw [if_neg h1, if_neg h1]
    obtain ⟨m1, m2, e1, e2, R2, F2⟩ := s61p (κ := κ) (c := 2000 + yN k) (L := lev (2000 + yN k)) hR hl hc
    refine ⟨_, _, rfl, ?_, R2, F2⟩
    rw [yis_110, pG_t, yBs, e1, yBs, yis_110, pG_t, yBs, e2, yBs, yp1_110_10, yBs]; exact pZ_1 _
end RW
