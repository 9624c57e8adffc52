/- FelledHasLostModel.measures([I)I -/
def f_187_307  : Nat → Nat → Nat → Int32 → Int32 → Int32 → Int32 → Int32 → Int32 → Int32 → Int32 → xH → Option (Int32 × Int32 × Int32 × xH)
  | 0, _, _, _, _, _, _, _, _, _, _, _ => none
  | n + 1, a0, a1, a2, a3, a4, a5, a6, a7, a8, a14, h =>
  (if (3 : Int32) ≤ a14 then
  some (a2, a4, a5, h)
  else
  (pAi h a1 ((3 * a7) + a14)).bind fun x2 =>
  ((if (0 : Int32) ≤ x2 then
  some ((10 + x2))
  else
  some (0) : Option (Int32))).bind fun (w4 : Int32) =>
  ((if a8 = 0 then
  some (0)
  else
  some ((w4 * (a14 - 1))) : Option (Int32))).bind fun (w7 : Int32) =>
  ((if a8 = 0 then
  some ((w4 * (a14 - 1)))
  else
  some (0) : Option (Int32))).bind fun (w10 : Int32) =>
  f_187_307 n a0 a1 (a2 + w4) a3 (a4 + w7) (a5 + w10) a6 a7 a8 (a14 + 1) h)
theorem ef_187_307 (d : Nat) (Q : Option Value → xH → Prop)  : ∀ (n : Nat) (a0 : Nat) (a1 : Nat) (a2 : Int32) (a3 : Int32) (a4 : Int32) (a5 : Int32) (a6 : Int32) (a7 : Int32) (a8 : Int32) (a14 : Int32) (h : xH) (r : Int32 × Int32 × Int32 × xH), f_187_307 n a0 a1 a2 a3 a4 a5 a6 a7 a8 a14 h = some r → (∀ (w2 : Int32) (w4 : Int32) (w5 : Int32) (h1 : xH), r = (w2, w4, w5, h1) → Wp (d + 1) 187 393 [some (.ref a0), some (.ref a1), some (.int w2), some (.int a3), some (.int w4), some (.int w5), some (.int a6), some (.int a7), none, none, none, none, none, none, none, none, none] [] h1 Q) → Wp (d + 1) 187 307 [some (.ref a0), some (.ref a1), some (.int a2), some (.int a3), some (.int a4), some (.int a5), some (.int a6), some (.int a7), some (.int a8), none, none, none, none, none, some (.int a14), none, none] [] h Q := by
  intro n
  induction n with
  | zero =>
    intro a0 a1 a2 a3 a4 a5 a6 a7 a8 a14 h r H
    cases H
  | succ n ih =>
    intro a0 a1 a2 a3 a4 a5 a6 a7 a8 a14 h r H KE
    unfold f_187_307 at H
    refine wp_iload xi_187 dX12_measures_307 rfl ?_
    refine wp_iconst 3 xi_187 dX12_measures_309 rfl ?_
    refine wp_icmp_ge 393 xi_187 dX12_measures_310 rfl (fun c1 => ?_) (fun c1 => ?_)
    · rw [if_pos c1] at H
      obtain rfl := Option.some.inj H
      exact Wp.more (by simp [xMore, Value.category]) (KE a2 a4 a5 h rfl)
    · rw [if_neg c1] at H
      refine wp_aload_n xi_187 dX12_measures_313 rfl ?_
      refine wp_iconst 3 xi_187 dX12_measures_314 rfl ?_
      refine wp_iload xi_187 dX12_measures_315 rfl ?_
      refine wp_imul xi_187 dX12_measures_317 ?_
      refine wp_iload xi_187 dX12_measures_318 rfl ?_
      refine wp_iadd xi_187 dX12_measures_320 ?_
      obtain ⟨x2, gx2, H⟩ := Option.bind_eq_some_iff.mp H
      refine wq_iaload xi_187 dX12_measures_321 gx2 ?_
      refine wp_istore [some (.ref a0), some (.ref a1), some (.int a2), some (.int a3), some (.int a4), some (.int a5), some (.int a6), some (.int a7), some (.int a8), none, none, none, none, none, some (.int a14), some (.int x2), none] xi_187 dX12_measures_322 rfl ?_
      refine wp_iload xi_187 dX12_measures_324 rfl ?_
      obtain ⟨w4, G14, H⟩ := Option.bind_eq_some_iff.mp H
      have K5 : Wp (d + 1) 187 338 [some (.ref a0), some (.ref a1), some (.int a2), some (.int a3), some (.int a4), some (.int a5), some (.int a6), some (.int a7), some (.int a8), none, none, none, none, none, some (.int a14), some (.int x2), none] [.int w4] h Q := by
        refine wp_istore [some (.ref a0), some (.ref a1), some (.int a2), some (.int a3), some (.int a4), some (.int a5), some (.int a6), some (.int a7), some (.int a8), none, none, none, none, none, some (.int a14), some (.int x2), some (.int w4)] xi_187 dX12_measures_338 rfl ?_
        refine wp_iload_n xi_187 dX12_measures_340 rfl ?_
        refine wp_iload xi_187 dX12_measures_341 rfl ?_
        refine wp_iadd xi_187 dX12_measures_343 ?_
        refine wp_istore_n [some (.ref a0), some (.ref a1), some (.int (a2 + w4)), some (.int a3), some (.int a4), some (.int a5), some (.int a6), some (.int a7), some (.int a8), none, none, none, none, none, some (.int a14), some (.int x2), some (.int w4)] xi_187 dX12_measures_344 rfl ?_
        refine wp_iload xi_187 dX12_measures_345 rfl ?_
        refine wp_iload xi_187 dX12_measures_347 rfl ?_
        obtain ⟨w7, G13, H⟩ := Option.bind_eq_some_iff.mp H
        have K8 : Wp (d + 1) 187 363 [some (.ref a0), some (.ref a1), some (.int (a2 + w4)), some (.int a3), some (.int a4), some (.int a5), some (.int a6), some (.int a7), some (.int a8), none, none, none, none, none, some (.int a14), some (.int x2), some (.int w4)] [.int w7, .int a4] h Q := by
          refine wp_iadd xi_187 dX12_measures_363 ?_
          refine wp_istore [some (.ref a0), some (.ref a1), some (.int (a2 + w4)), some (.int a3), some (.int (a4 + w7)), some (.int a5), some (.int a6), some (.int a7), some (.int a8), none, none, none, none, none, some (.int a14), some (.int x2), some (.int w4)] xi_187 dX12_measures_364 rfl ?_
          refine wp_iload xi_187 dX12_measures_366 rfl ?_
          refine wp_iload xi_187 dX12_measures_368 rfl ?_
          obtain ⟨w10, G12, H⟩ := Option.bind_eq_some_iff.mp H
          have K11 : Wp (d + 1) 187 384 [some (.ref a0), some (.ref a1), some (.int (a2 + w4)), some (.int a3), some (.int (a4 + w7)), some (.int a5), some (.int a6), some (.int a7), some (.int a8), none, none, none, none, none, some (.int a14), some (.int x2), some (.int w4)] [.int w10, .int a5] h Q := by
            refine wp_iadd xi_187 dX12_measures_384 ?_
            refine wp_istore [some (.ref a0), some (.ref a1), some (.int (a2 + w4)), some (.int a3), some (.int (a4 + w7)), some (.int (a5 + w10)), some (.int a6), some (.int a7), some (.int a8), none, none, none, none, none, some (.int a14), some (.int x2), some (.int w4)] xi_187 dX12_measures_385 rfl ?_
            refine wp_iinc (a14 + 1) [some (.ref a0), some (.ref a1), some (.int (a2 + w4)), some (.int a3), some (.int (a4 + w7)), some (.int (a5 + w10)), some (.int a6), some (.int a7), some (.int a8), none, none, none, none, none, some (.int (a14 + 1)), some (.int x2), some (.int w4)] xi_187 dX12_measures_387 rfl rfl rfl ?_
            refine wp_goto 307 xi_187 dX12_measures_390 rfl ?_
            exact Wp.more (by simp [xMore, Value.category]) (ih a0 a1 (a2 + w4) a3 (a4 + w7) (a5 + w10) a6 a7 a8 (a14 + 1) h _ H KE)
          clear H
          have H := G12
          clear G12
          refine wp_if_eq 377 xi_187 dX12_measures_370 rfl (fun c9 => ?_) (fun c9 => ?_)
          · rw [if_pos c9] at H
            refine wp_iload xi_187 dX12_measures_377 rfl ?_
            refine wp_iload xi_187 dX12_measures_379 rfl ?_
            refine wp_iconst 1 xi_187 dX12_measures_381 rfl ?_
            refine wp_isub xi_187 dX12_measures_382 ?_
            refine wp_imul xi_187 dX12_measures_383 ?_
            obtain rfl := Option.some.inj H
            exact Wp.more (by simp [xMore, Value.category]) K11
          · rw [if_neg c9] at H
            refine wp_iconst 0 xi_187 dX12_measures_373 rfl ?_
            refine wp_goto 384 xi_187 dX12_measures_374 rfl ?_
            obtain rfl := Option.some.inj H
            exact Wp.more (by simp [xMore, Value.category]) K11
        clear H
        have H := G13
        clear G13
        refine wp_if_eq 362 xi_187 dX12_measures_349 rfl (fun c6 => ?_) (fun c6 => ?_)
        · rw [if_pos c6] at H
          refine wp_iconst 0 xi_187 dX12_measures_362 rfl ?_
          obtain rfl := Option.some.inj H
          exact Wp.more (by simp [xMore, Value.category]) K8
        · rw [if_neg c6] at H
          refine wp_iload xi_187 dX12_measures_352 rfl ?_
          refine wp_iload xi_187 dX12_measures_354 rfl ?_
          refine wp_iconst 1 xi_187 dX12_measures_356 rfl ?_
          refine wp_isub xi_187 dX12_measures_357 ?_
          refine wp_imul xi_187 dX12_measures_358 ?_
          refine wp_goto 363 xi_187 dX12_measures_359 rfl ?_
          obtain rfl := Option.some.inj H
          exact Wp.more (by simp [xMore, Value.category]) K8
      clear H
      have H := G14
      clear G14
      refine wp_if_ge 333 xi_187 dX12_measures_326 rfl (fun c3 => ?_) (fun c3 => ?_)
      · rw [if_pos c3] at H
        refine wp_bipush 10 xi_187 dX12_measures_333 rfl ?_
        refine wp_iload xi_187 dX12_measures_335 rfl ?_
        refine wp_iadd xi_187 dX12_measures_337 ?_
        obtain rfl := Option.some.inj H
        exact Wp.more (by simp [xMore, Value.category]) K5
      · rw [if_neg c3] at H
        refine wp_iconst 0 xi_187 dX12_measures_329 rfl ?_
        refine wp_goto 338 xi_187 dX12_measures_330 rfl ?_
        obtain rfl := Option.some.inj H
        exact Wp.more (by simp [xMore, Value.category]) K5
def f_187_26  : Nat → Nat → Nat → Int32 → Int32 → Int32 → Int32 → Int32 → Int32 → xH → Option (Int32 × xH)
  | 0, _, _, _, _, _, _, _, _, _ => none
  | n + 1, a0, a1, a2, a3, a4, a5, a6, a7, h =>
  (if a7 < 0 then
  some (a6, h)
  else
  (pRem a7 2).bind fun x2 =>
  ((if x2 = 0 then
  some (1)
  else
  some (0) : Option (Int32))).bind fun (w4 : Int32) =>
  (pFr h a0 12 20).bind fun x6 =>
  (pSi h x6 a7 a2).bind fun h7 =>
  (pFr h7 a0 12 21).bind fun x8 =>
  ((if w4 = 0 then
  some (a5)
  else
  some (a4) : Option (Int32))).bind fun (w10 : Int32) =>
  ((if w4 = 0 then
  (pFi h7 a0 12 8).bind fun x17 =>
  some (x17)
  else
  (pFi h7 a0 12 7).bind fun x18 =>
  some (x18) : Option (Int32))).bind fun (w15 : Int32) =>
  (pSi h7 x8 a7 ((10 * w10) + (w15 * (a3 + a2)))).bind fun h19 =>
  (f_185 a1 a7 h19).bind fun (x21, h20) =>
  (pRem x21 2).bind fun x22 =>
  ((if x22 = 1 then
  some (0)
  else
  (pRem x21 4).bind fun x28 =>
  (if x28 ≤ 1 then
  some (2)
  else
  some (1)) : Option (Int32))).bind fun (w26 : Int32) =>
  ((if x21 ≤ 3 then
  (if x21 ≤ 1 then
  some (0)
  else
  some (1))
  else
  some (2) : Option (Int32))).bind fun (w32 : Int32) =>
  (pFr h20 a0 12 21).bind fun x35 =>
  (pAi h20 x35 a7).bind fun x36 =>
  (pFr h20 a0 12 21).bind fun x37 =>
  (pAi h20 x37 a7).bind fun x38 =>
  (pFr h20 a0 12 22).bind fun x39 =>
  (pAi h20 a1 48).bind fun x40 =>
  ((if a7 = (x40 - 1) then
  some (0)
  else
  some ((pMin ((2 * x36) - ((10 * a2) * ((2 * (w26 - 1)) - 1))) (((10 * a2) * ((2 * (w32 - 1)) + 1)) - (2 * x38)))) : Option (Int32))).bind fun (w42 : Int32) =>
  (pSi h20 x39 a7 w42).bind fun h44 =>
  (pFr h44 a0 12 22).bind fun x45 =>
  (pAi h44 x45 a7).bind fun x46 =>
  ((if (0 : Int32) ≤ x46 then
  some (a6)
  else
  some (a7) : Option (Int32))).bind fun (w48 : Int32) =>
  (pAi h44 a1 48).bind fun x50 =>
  ((if (x50 - 1) ≤ a7 then
  (pFi h44 a0 12 23).bind fun x64 =>
  some (x64)
  else
  (pFi h44 a0 12 23).bind fun x65 =>
  (if x65 < 0 then
  some (a7)
  else
  (pFr h44 a0 12 22).bind fun x67 =>
  (pAi h44 x67 a7).bind fun x68 =>
  (pFr h44 a0 12 22).bind fun x69 =>
  (pFi h44 a0 12 23).bind fun x70 =>
  (pAi h44 x69 x70).bind fun x71 =>
  (if x71 < x68 then
  (pFi h44 a0 12 23).bind fun x73 =>
  some (x73)
  else
  some (a7))) : Option (Int32))).bind fun (w62 : Int32) =>
  (pP h44 a0 12 23 (.int w62)).bind fun h74 =>
  (f_187_307 100000 a0 a1 a2 (a3 + a2) a4 a5 w48 a7 w4 0 h74).bind fun (w76, w77, w78, h75) =>
  f_187_26 n a0 a1 w76 (a3 + a2) w77 w78 w48 (a7 + (-1)) h75)
theorem ef_187_26 (d : Nat) (Q : Option Value → xH → Prop)  : ∀ (n : Nat) (a0 : Nat) (a1 : Nat) (a2 : Int32) (a3 : Int32) (a4 : Int32) (a5 : Int32) (a6 : Int32) (a7 : Int32) (h : xH) (r : Int32 × xH), f_187_26 n a0 a1 a2 a3 a4 a5 a6 a7 h = some r → (∀ (w6 : Int32) (h1 : xH), r = (w6, h1) → Wp (d + 1) 187 399 [none, none, none, none, none, none, some (.int w6), none, none, none, none, none, none, none, none, none, none] [] h1 Q) → Wp (d + 1) 187 26 [some (.ref a0), some (.ref a1), some (.int a2), some (.int a3), some (.int a4), some (.int a5), some (.int a6), some (.int a7), none, none, none, none, none, none, none, none, none] [] h Q := by
  intro n
  induction n with
  | zero =>
    intro a0 a1 a2 a3 a4 a5 a6 a7 h r H
    cases H
  | succ n ih =>
    intro a0 a1 a2 a3 a4 a5 a6 a7 h r H KE
    unfold f_187_26 at H
    refine wp_iload xi_187 dX12_measures_26 rfl ?_
    refine wp_if_lt 399 xi_187 dX12_measures_28 rfl (fun c1 => ?_) (fun c1 => ?_)
    · rw [if_pos c1] at H
      obtain rfl := Option.some.inj H
      exact Wp.more (by simp [xMore, Value.category]) (KE a6 h rfl)
    · rw [if_neg c1] at H
      refine wp_iload xi_187 dX12_measures_31 rfl ?_
      refine wp_iconst 2 xi_187 dX12_measures_33 rfl ?_
      obtain ⟨x2, gx2, H⟩ := Option.bind_eq_some_iff.mp H
      refine wq_irem xi_187 dX12_measures_34 gx2 ?_
      obtain ⟨w4, G88, H⟩ := Option.bind_eq_some_iff.mp H
      have K5 : Wp (d + 1) 187 43 [some (.ref a0), some (.ref a1), some (.int a2), some (.int a3), some (.int a4), some (.int a5), some (.int a6), some (.int a7), none, none, none, none, none, none, none, none, none] [.int w4] h Q := by
        refine wp_istore [some (.ref a0), some (.ref a1), some (.int a2), some (.int a3), some (.int a4), some (.int a5), some (.int a6), some (.int a7), some (.int w4), none, none, none, none, none, none, none, none] xi_187 dX12_measures_43 rfl ?_
        refine wp_iload_n xi_187 dX12_measures_45 rfl ?_
        refine wp_iload_n xi_187 dX12_measures_46 rfl ?_
        refine wp_iadd xi_187 dX12_measures_47 ?_
        refine wp_istore_n [some (.ref a0), some (.ref a1), some (.int a2), some (.int (a3 + a2)), some (.int a4), some (.int a5), some (.int a6), some (.int a7), some (.int w4), none, none, none, none, none, none, none, none] xi_187 dX12_measures_48 rfl ?_
        refine wp_aload_n xi_187 dX12_measures_49 rfl ?_
        obtain ⟨x6, gx6, H⟩ := Option.bind_eq_some_iff.mp H
        refine wq_getfr xi_187 dX12_measures_50 xf_12_52 gx6 ?_
        refine wp_iload xi_187 dX12_measures_53 rfl ?_
        refine wp_iload_n xi_187 dX12_measures_55 rfl ?_
        obtain ⟨h7, gh7, H⟩ := Option.bind_eq_some_iff.mp H
        refine wq_iastore xi_187 dX12_measures_56 gh7 ?_
        refine wp_aload_n xi_187 dX12_measures_57 rfl ?_
        obtain ⟨x8, gx8, H⟩ := Option.bind_eq_some_iff.mp H
        refine wq_getfr xi_187 dX12_measures_58 xf_12_55 gx8 ?_
        refine wp_iload xi_187 dX12_measures_61 rfl ?_
        refine wp_bipush 10 xi_187 dX12_measures_63 rfl ?_
        refine wp_iload xi_187 dX12_measures_65 rfl ?_
        obtain ⟨w10, G87, H⟩ := Option.bind_eq_some_iff.mp H
        have K11 : Wp (d + 1) 187 77 [some (.ref a0), some (.ref a1), some (.int a2), some (.int (a3 + a2)), some (.int a4), some (.int a5), some (.int a6), some (.int a7), some (.int w4), none, none, none, none, none, none, none, none] [.int w10, .int 10, .int a7, .ref x8] h7 Q := by
          refine wp_imul xi_187 dX12_measures_77 ?_
          refine wp_iload xi_187 dX12_measures_78 rfl ?_
          obtain ⟨w15, G86, H⟩ := Option.bind_eq_some_iff.mp H
          have K16 : Wp (d + 1) 187 94 [some (.ref a0), some (.ref a1), some (.int a2), some (.int (a3 + a2)), some (.int a4), some (.int a5), some (.int a6), some (.int a7), some (.int w4), none, none, none, none, none, none, none, none] [.int w15, .int (10 * w10), .int a7, .ref x8] h7 Q := by
            refine wp_iload_n xi_187 dX12_measures_94 rfl ?_
            refine wp_imul xi_187 dX12_measures_95 ?_
            refine wp_iadd xi_187 dX12_measures_96 ?_
            obtain ⟨h19, gh19, H⟩ := Option.bind_eq_some_iff.mp H
            refine wq_iastore xi_187 dX12_measures_97 gh19 ?_
            refine wp_aload_n xi_187 dX12_measures_98 rfl ?_
            refine wp_iload xi_187 dX12_measures_99 rfl ?_
            obtain ⟨⟨x21, h20⟩, gh20, H⟩ := Option.bind_eq_some_iff.mp H
            dsimp only at H
            refine wq_callS (as := [.ref a1, .int a7]) (r := []) (v1 := (some (.int x21))) xi_187 xi_185 dX12_measures_101 xm_12_227 rfl (Nat.le_of_ble_eq_true rfl) ⟨(Nat.le_of_ble_eq_true rfl), (Nat.le_of_ble_eq_true rfl)⟩ rfl nofun (e_185 d _ gh20 ⟨rfl, rfl⟩) ?_
            change Wp _ _ _ _ [.int x21] _ _
            refine wp_istore [some (.ref a0), some (.ref a1), some (.int a2), some (.int (a3 + a2)), some (.int a4), some (.int a5), some (.int a6), some (.int a7), some (.int w4), some (.int x21), none, none, none, none, none, none, none] xi_187 dX12_measures_104 rfl ?_
            refine wp_iload xi_187 dX12_measures_106 rfl ?_
            refine wp_iconst 2 xi_187 dX12_measures_108 rfl ?_
            obtain ⟨x22, gx22, H⟩ := Option.bind_eq_some_iff.mp H
            refine wq_irem xi_187 dX12_measures_109 gx22 ?_
            refine wp_iconst 1 xi_187 dX12_measures_110 rfl ?_
            obtain ⟨w26, G85, H⟩ := Option.bind_eq_some_iff.mp H
            have K27 : Wp (d + 1) 187 131 [some (.ref a0), some (.ref a1), some (.int a2), some (.int (a3 + a2)), some (.int a4), some (.int a5), some (.int a6), some (.int a7), some (.int w4), some (.int x21), none, none, none, none, none, none, none] [.int w26] h20 Q := by
              refine wp_istore [some (.ref a0), some (.ref a1), some (.int a2), some (.int (a3 + a2)), some (.int a4), some (.int a5), some (.int a6), some (.int a7), some (.int w4), some (.int x21), some (.int w26), none, none, none, none, none, none] xi_187 dX12_measures_131 rfl ?_
              refine wp_iload xi_187 dX12_measures_133 rfl ?_
              refine wp_iconst 3 xi_187 dX12_measures_135 rfl ?_
              obtain ⟨w32, G84, H⟩ := Option.bind_eq_some_iff.mp H
              have K33 : Wp (d + 1) 187 154 [some (.ref a0), some (.ref a1), some (.int a2), some (.int (a3 + a2)), some (.int a4), some (.int a5), some (.int a6), some (.int a7), some (.int w4), some (.int x21), some (.int w26), none, none, none, none, none, none] [.int w32] h20 Q := by
                refine wp_istore [some (.ref a0), some (.ref a1), some (.int a2), some (.int (a3 + a2)), some (.int a4), some (.int a5), some (.int a6), some (.int a7), some (.int w4), some (.int x21), some (.int w26), some (.int w32), none, none, none, none, none] xi_187 dX12_measures_154 rfl ?_
                refine wp_iconst 2 xi_187 dX12_measures_156 rfl ?_
                refine wp_aload_n xi_187 dX12_measures_157 rfl ?_
                obtain ⟨x35, gx35, H⟩ := Option.bind_eq_some_iff.mp H
                refine wq_getfr xi_187 dX12_measures_158 xf_12_55 gx35 ?_
                refine wp_iload xi_187 dX12_measures_161 rfl ?_
                obtain ⟨x36, gx36, H⟩ := Option.bind_eq_some_iff.mp H
                refine wq_iaload xi_187 dX12_measures_163 gx36 ?_
                refine wp_imul xi_187 dX12_measures_164 ?_
                refine wp_bipush 10 xi_187 dX12_measures_165 rfl ?_
                refine wp_iload_n xi_187 dX12_measures_167 rfl ?_
                refine wp_imul xi_187 dX12_measures_168 ?_
                refine wp_iconst 2 xi_187 dX12_measures_169 rfl ?_
                refine wp_iload xi_187 dX12_measures_170 rfl ?_
                refine wp_iconst 1 xi_187 dX12_measures_172 rfl ?_
                refine wp_isub xi_187 dX12_measures_173 ?_
                refine wp_imul xi_187 dX12_measures_174 ?_
                refine wp_iconst 1 xi_187 dX12_measures_175 rfl ?_
                refine wp_isub xi_187 dX12_measures_176 ?_
                refine wp_imul xi_187 dX12_measures_177 ?_
                refine wp_isub xi_187 dX12_measures_178 ?_
                refine wp_istore [some (.ref a0), some (.ref a1), some (.int a2), some (.int (a3 + a2)), some (.int a4), some (.int a5), some (.int a6), some (.int a7), some (.int w4), some (.int x21), some (.int w26), some (.int w32), some (.int ((2 * x36) - ((10 * a2) * ((2 * (w26 - 1)) - 1)))), none, none, none, none] xi_187 dX12_measures_179 rfl ?_
                refine wp_bipush 10 xi_187 dX12_measures_181 rfl ?_
                refine wp_iload_n xi_187 dX12_measures_183 rfl ?_
                refine wp_imul xi_187 dX12_measures_184 ?_
                refine wp_iconst 2 xi_187 dX12_measures_185 rfl ?_
                refine wp_iload xi_187 dX12_measures_186 rfl ?_
                refine wp_iconst 1 xi_187 dX12_measures_188 rfl ?_
                refine wp_isub xi_187 dX12_measures_189 ?_
                refine wp_imul xi_187 dX12_measures_190 ?_
                refine wp_iconst 1 xi_187 dX12_measures_191 rfl ?_
                refine wp_iadd xi_187 dX12_measures_192 ?_
                refine wp_imul xi_187 dX12_measures_193 ?_
                refine wp_iconst 2 xi_187 dX12_measures_194 rfl ?_
                refine wp_aload_n xi_187 dX12_measures_195 rfl ?_
                obtain ⟨x37, gx37, H⟩ := Option.bind_eq_some_iff.mp H
                refine wq_getfr xi_187 dX12_measures_196 xf_12_55 gx37 ?_
                refine wp_iload xi_187 dX12_measures_199 rfl ?_
                obtain ⟨x38, gx38, H⟩ := Option.bind_eq_some_iff.mp H
                refine wq_iaload xi_187 dX12_measures_201 gx38 ?_
                refine wp_imul xi_187 dX12_measures_202 ?_
                refine wp_isub xi_187 dX12_measures_203 ?_
                refine wp_istore [some (.ref a0), some (.ref a1), some (.int a2), some (.int (a3 + a2)), some (.int a4), some (.int a5), some (.int a6), some (.int a7), some (.int w4), some (.int x21), some (.int w26), some (.int w32), some (.int ((2 * x36) - ((10 * a2) * ((2 * (w26 - 1)) - 1)))), some (.int (((10 * a2) * ((2 * (w32 - 1)) + 1)) - (2 * x38))), none, none, none] xi_187 dX12_measures_204 rfl ?_
                refine wp_aload_n xi_187 dX12_measures_206 rfl ?_
                obtain ⟨x39, gx39, H⟩ := Option.bind_eq_some_iff.mp H
                refine wq_getfr xi_187 dX12_measures_207 xf_12_58 gx39 ?_
                refine wp_iload xi_187 dX12_measures_210 rfl ?_
                refine wp_iload xi_187 dX12_measures_212 rfl ?_
                refine wp_aload_n xi_187 dX12_measures_214 rfl ?_
                refine wp_bipush 48 xi_187 dX12_measures_215 rfl ?_
                obtain ⟨x40, gx40, H⟩ := Option.bind_eq_some_iff.mp H
                refine wq_iaload xi_187 dX12_measures_217 gx40 ?_
                refine wp_iconst 1 xi_187 dX12_measures_218 rfl ?_
                refine wp_isub xi_187 dX12_measures_219 ?_
                obtain ⟨w42, G83, H⟩ := Option.bind_eq_some_iff.mp H
                have K43 : Wp (d + 1) 187 234 [some (.ref a0), some (.ref a1), some (.int a2), some (.int (a3 + a2)), some (.int a4), some (.int a5), some (.int a6), some (.int a7), some (.int w4), some (.int x21), some (.int w26), some (.int w32), some (.int ((2 * x36) - ((10 * a2) * ((2 * (w26 - 1)) - 1)))), some (.int (((10 * a2) * ((2 * (w32 - 1)) + 1)) - (2 * x38))), none, none, none] [.int w42, .int a7, .ref x39] h20 Q := by
                  obtain ⟨h44, gh44, H⟩ := Option.bind_eq_some_iff.mp H
                  refine wq_iastore xi_187 dX12_measures_234 gh44 ?_
                  refine wp_aload_n xi_187 dX12_measures_235 rfl ?_
                  obtain ⟨x45, gx45, H⟩ := Option.bind_eq_some_iff.mp H
                  refine wq_getfr xi_187 dX12_measures_236 xf_12_58 gx45 ?_
                  refine wp_iload xi_187 dX12_measures_239 rfl ?_
                  obtain ⟨x46, gx46, H⟩ := Option.bind_eq_some_iff.mp H
                  refine wq_iaload xi_187 dX12_measures_241 gx46 ?_
                  obtain ⟨w48, G82, H⟩ := Option.bind_eq_some_iff.mp H
                  have K49 : Wp (d + 1) 187 252 [some (.ref a0), some (.ref a1), some (.int a2), some (.int (a3 + a2)), some (.int a4), some (.int a5), some (.int a6), some (.int a7), some (.int w4), some (.int x21), some (.int w26), some (.int w32), some (.int ((2 * x36) - ((10 * a2) * ((2 * (w26 - 1)) - 1)))), some (.int (((10 * a2) * ((2 * (w32 - 1)) + 1)) - (2 * x38))), none, none, none] [.int w48] h44 Q := by
                    refine wp_istore [some (.ref a0), some (.ref a1), some (.int a2), some (.int (a3 + a2)), some (.int a4), some (.int a5), some (.int w48), some (.int a7), some (.int w4), some (.int x21), some (.int w26), some (.int w32), some (.int ((2 * x36) - ((10 * a2) * ((2 * (w26 - 1)) - 1)))), some (.int (((10 * a2) * ((2 * (w32 - 1)) + 1)) - (2 * x38))), none, none, none] xi_187 dX12_measures_252 rfl ?_
                    refine wp_aload_n xi_187 dX12_measures_254 rfl ?_
                    refine wp_iload xi_187 dX12_measures_255 rfl ?_
                    refine wp_aload_n xi_187 dX12_measures_257 rfl ?_
                    refine wp_bipush 48 xi_187 dX12_measures_258 rfl ?_
                    obtain ⟨x50, gx50, H⟩ := Option.bind_eq_some_iff.mp H
                    refine wq_iaload xi_187 dX12_measures_260 gx50 ?_
                    refine wp_iconst 1 xi_187 dX12_measures_261 rfl ?_
                    refine wp_isub xi_187 dX12_measures_262 ?_
                    obtain ⟨w62, G81, H⟩ := Option.bind_eq_some_iff.mp H
                    have K63 : Wp (d + 1) 187 301 [some (.ref a0), some (.ref a1), some (.int a2), some (.int (a3 + a2)), some (.int a4), some (.int a5), some (.int w48), some (.int a7), some (.int w4), some (.int x21), some (.int w26), some (.int w32), some (.int ((2 * x36) - ((10 * a2) * ((2 * (w26 - 1)) - 1)))), some (.int (((10 * a2) * ((2 * (w32 - 1)) + 1)) - (2 * x38))), none, none, none] [.int w62, .ref a0] h44 Q := by
                      obtain ⟨h74, gh74, H⟩ := Option.bind_eq_some_iff.mp H
                      refine wq_putf xi_187 dX12_measures_301 xf_12_231 (Or.inl rfl) gh74 ?_
                      refine wp_iconst 0 xi_187 dX12_measures_304 rfl ?_
                      refine wp_istore [some (.ref a0), some (.ref a1), some (.int a2), some (.int (a3 + a2)), some (.int a4), some (.int a5), some (.int w48), some (.int a7), some (.int w4), some (.int x21), some (.int w26), some (.int w32), some (.int ((2 * x36) - ((10 * a2) * ((2 * (w26 - 1)) - 1)))), some (.int (((10 * a2) * ((2 * (w32 - 1)) + 1)) - (2 * x38))), some (.int 0), none, none] xi_187 dX12_measures_305 rfl ?_
                      obtain ⟨⟨w76, w77, w78, h75⟩, G79, H⟩ := Option.bind_eq_some_iff.mp H
                      dsimp only at H
                      refine Wp.more (by simp [xMore, Value.category]) (ef_187_307 d Q  100000 a0 a1 a2 (a3 + a2) a4 a5 w48 a7 w4 0 h74 _ G79 (fun z0 z1 z2 z3 e9 => ?_))
                      cases e9
                      refine wp_iinc (a7 + (-1)) [some (.ref a0), some (.ref a1), some (.int w76), some (.int (a3 + a2)), some (.int w77), some (.int w78), some (.int w48), some (.int (a7 + (-1))), none, none, none, none, none, none, none, none, none] xi_187 dX12_measures_393 rfl rfl rfl ?_
                      refine wp_goto 26 xi_187 dX12_measures_396 rfl ?_
                      exact Wp.more (by simp [xMore, Value.category]) (ih a0 a1 w76 (a3 + a2) w77 w78 w48 (a7 + (-1)) h75 _ H KE)
                    clear H
                    have H := G81
                    clear G81
                    refine wp_icmp_ge 297 xi_187 dX12_measures_263 rfl (fun c51 => ?_) (fun c51 => ?_)
                    · rw [if_pos c51] at H
                      refine wp_aload_n xi_187 dX12_measures_297 rfl ?_
                      obtain ⟨x64, gx64, H⟩ := Option.bind_eq_some_iff.mp H
                      refine wq_getfi xi_187 dX12_measures_298 xf_12_231 gx64 ?_
                      obtain rfl := Option.some.inj H
                      exact Wp.more (by simp [xMore, Value.category]) K63
                    · rw [if_neg c51] at H
                      refine wp_aload_n xi_187 dX12_measures_266 rfl ?_
                      obtain ⟨x65, gx65, H⟩ := Option.bind_eq_some_iff.mp H
                      refine wq_getfi xi_187 dX12_measures_267 xf_12_231 gx65 ?_
                      refine wp_if_lt 292 xi_187 dX12_measures_270 rfl (fun c66 => ?_) (fun c66 => ?_)
                      · rw [if_pos c66] at H
                        refine wp_iload xi_187 dX12_measures_292 rfl ?_
                        refine wp_goto 301 xi_187 dX12_measures_294 rfl ?_
                        obtain rfl := Option.some.inj H
                        exact Wp.more (by simp [xMore, Value.category]) K63
                      · rw [if_neg c66] at H
                        refine wp_aload_n xi_187 dX12_measures_273 rfl ?_
                        obtain ⟨x67, gx67, H⟩ := Option.bind_eq_some_iff.mp H
                        refine wq_getfr xi_187 dX12_measures_274 xf_12_58 gx67 ?_
                        refine wp_iload xi_187 dX12_measures_277 rfl ?_
                        obtain ⟨x68, gx68, H⟩ := Option.bind_eq_some_iff.mp H
                        refine wq_iaload xi_187 dX12_measures_279 gx68 ?_
                        refine wp_aload_n xi_187 dX12_measures_280 rfl ?_
                        obtain ⟨x69, gx69, H⟩ := Option.bind_eq_some_iff.mp H
                        refine wq_getfr xi_187 dX12_measures_281 xf_12_58 gx69 ?_
                        refine wp_aload_n xi_187 dX12_measures_284 rfl ?_
                        obtain ⟨x70, gx70, H⟩ := Option.bind_eq_some_iff.mp H
                        refine wq_getfi xi_187 dX12_measures_285 xf_12_231 gx70 ?_
                        obtain ⟨x71, gx71, H⟩ := Option.bind_eq_some_iff.mp H
                        refine wq_iaload xi_187 dX12_measures_288 gx71 ?_
                        refine wp_icmp_gt 297 xi_187 dX12_measures_289 rfl (fun c72 => ?_) (fun c72 => ?_)
                        · rw [if_pos c72] at H
                          refine wp_aload_n xi_187 dX12_measures_297 rfl ?_
                          obtain ⟨x73, gx73, H⟩ := Option.bind_eq_some_iff.mp H
                          refine wq_getfi xi_187 dX12_measures_298 xf_12_231 gx73 ?_
                          obtain rfl := Option.some.inj H
                          exact Wp.more (by simp [xMore, Value.category]) K63
                        · rw [if_neg c72] at H
                          refine wp_iload xi_187 dX12_measures_292 rfl ?_
                          refine wp_goto 301 xi_187 dX12_measures_294 rfl ?_
                          obtain rfl := Option.some.inj H
                          exact Wp.more (by simp [xMore, Value.category]) K63
                  clear H
                  have H := G82
                  clear G82
                  refine wp_if_ge 250 xi_187 dX12_measures_242 rfl (fun c47 => ?_) (fun c47 => ?_)
                  · rw [if_pos c47] at H
                    refine wp_iload xi_187 dX12_measures_250 rfl ?_
                    obtain rfl := Option.some.inj H
                    exact Wp.more (by simp [xMore, Value.category]) K49
                  · rw [if_neg c47] at H
                    refine wp_iload xi_187 dX12_measures_245 rfl ?_
                    refine wp_goto 252 xi_187 dX12_measures_247 rfl ?_
                    obtain rfl := Option.some.inj H
                    exact Wp.more (by simp [xMore, Value.category]) K49
                clear H
                have H := G83
                clear G83
                refine wp_icmp_ne 227 xi_187 dX12_measures_220 rfl (fun c41 => ?_) (fun c41 => ?_)
                · rw [if_neg c41] at H
                  refine wp_iload xi_187 dX12_measures_227 rfl ?_
                  refine wp_iload xi_187 dX12_measures_229 rfl ?_
                  refine wq_min xi_187 dX12_measures_231 xm_12_152 (Nat.le_of_ble_eq_true rfl) ?_
                  obtain rfl := Option.some.inj H
                  exact Wp.more (by simp [xMore, Value.category]) K43
                · rw [if_pos c41] at H
                  refine wp_iconst 0 xi_187 dX12_measures_223 rfl ?_
                  refine wp_goto 234 xi_187 dX12_measures_224 rfl ?_
                  obtain rfl := Option.some.inj H
                  exact Wp.more (by simp [xMore, Value.category]) K43
              clear H
              have H := G84
              clear G84
              refine wp_icmp_le 143 xi_187 dX12_measures_136 rfl (fun c30 => ?_) (fun c30 => ?_)
              · rw [if_pos c30] at H
                refine wp_iload xi_187 dX12_measures_143 rfl ?_
                refine wp_iconst 1 xi_187 dX12_measures_145 rfl ?_
                refine wp_icmp_le 153 xi_187 dX12_measures_146 rfl (fun c34 => ?_) (fun c34 => ?_)
                · rw [if_pos c34] at H
                  refine wp_iconst 0 xi_187 dX12_measures_153 rfl ?_
                  obtain rfl := Option.some.inj H
                  exact Wp.more (by simp [xMore, Value.category]) K33
                · rw [if_neg c34] at H
                  refine wp_iconst 1 xi_187 dX12_measures_149 rfl ?_
                  refine wp_goto 154 xi_187 dX12_measures_150 rfl ?_
                  obtain rfl := Option.some.inj H
                  exact Wp.more (by simp [xMore, Value.category]) K33
              · rw [if_neg c30] at H
                refine wp_iconst 2 xi_187 dX12_measures_139 rfl ?_
                refine wp_goto 154 xi_187 dX12_measures_140 rfl ?_
                obtain rfl := Option.some.inj H
                exact Wp.more (by simp [xMore, Value.category]) K33
            clear H
            have H := G85
            clear G85
            refine wp_icmp_ne 118 xi_187 dX12_measures_111 rfl (fun c23 => ?_) (fun c23 => ?_)
            · rw [if_neg c23] at H
              refine wp_iload xi_187 dX12_measures_118 rfl ?_
              refine wp_iconst 4 xi_187 dX12_measures_120 rfl ?_
              obtain ⟨x28, gx28, H⟩ := Option.bind_eq_some_iff.mp H
              refine wq_irem xi_187 dX12_measures_121 gx28 ?_
              refine wp_iconst 1 xi_187 dX12_measures_122 rfl ?_
              refine wp_icmp_le 130 xi_187 dX12_measures_123 rfl (fun c29 => ?_) (fun c29 => ?_)
              · rw [if_pos c29] at H
                refine wp_iconst 2 xi_187 dX12_measures_130 rfl ?_
                obtain rfl := Option.some.inj H
                exact Wp.more (by simp [xMore, Value.category]) K27
              · rw [if_neg c29] at H
                refine wp_iconst 1 xi_187 dX12_measures_126 rfl ?_
                refine wp_goto 131 xi_187 dX12_measures_127 rfl ?_
                obtain rfl := Option.some.inj H
                exact Wp.more (by simp [xMore, Value.category]) K27
            · rw [if_pos c23] at H
              refine wp_iconst 0 xi_187 dX12_measures_114 rfl ?_
              refine wp_goto 131 xi_187 dX12_measures_115 rfl ?_
              obtain rfl := Option.some.inj H
              exact Wp.more (by simp [xMore, Value.category]) K27
          clear H
          have H := G86
          clear G86
          refine wp_if_eq 90 xi_187 dX12_measures_80 rfl (fun c12 => ?_) (fun c12 => ?_)
          · rw [if_pos c12] at H
            refine wp_aload_n xi_187 dX12_measures_90 rfl ?_
            obtain ⟨x17, gx17, H⟩ := Option.bind_eq_some_iff.mp H
            refine wq_getfi xi_187 dX12_measures_91 xf_12_237 gx17 ?_
            obtain rfl := Option.some.inj H
            exact Wp.more (by simp [xMore, Value.category]) K16
          · rw [if_neg c12] at H
            refine wp_aload_n xi_187 dX12_measures_83 rfl ?_
            obtain ⟨x18, gx18, H⟩ := Option.bind_eq_some_iff.mp H
            refine wq_getfi xi_187 dX12_measures_84 xf_12_234 gx18 ?_
            refine wp_goto 94 xi_187 dX12_measures_87 rfl ?_
            obtain rfl := Option.some.inj H
            exact Wp.more (by simp [xMore, Value.category]) K16
        clear H
        have H := G87
        clear G87
        refine wp_if_eq 75 xi_187 dX12_measures_67 rfl (fun c9 => ?_) (fun c9 => ?_)
        · rw [if_pos c9] at H
          refine wp_iload xi_187 dX12_measures_75 rfl ?_
          obtain rfl := Option.some.inj H
          exact Wp.more (by simp [xMore, Value.category]) K11
        · rw [if_neg c9] at H
          refine wp_iload xi_187 dX12_measures_70 rfl ?_
          refine wp_goto 77 xi_187 dX12_measures_72 rfl ?_
          obtain rfl := Option.some.inj H
          exact Wp.more (by simp [xMore, Value.category]) K11
      clear H
      have H := G88
      clear G88
      refine wp_if_ne 42 xi_187 dX12_measures_35 rfl (fun c3 => ?_) (fun c3 => ?_)
      · rw [if_neg c3] at H
        refine wp_iconst 0 xi_187 dX12_measures_42 rfl ?_
        obtain rfl := Option.some.inj H
        exact Wp.more (by simp [xMore, Value.category]) K5
      · rw [if_pos c3] at H
        refine wp_iconst 1 xi_187 dX12_measures_38 rfl ?_
        refine wp_goto 43 xi_187 dX12_measures_39 rfl ?_
        obtain rfl := Option.some.inj H
        exact Wp.more (by simp [xMore, Value.category]) K5
def f_187  (a : Nat) (p0 : Nat) (h : xH) : Option (Int32 × xH) :=
  (pP h a 12 23 (.int (-1))).bind fun h1 =>
  (pAi h1 p0 48).bind fun x2 =>
  (f_187_26 100000 a p0 0 0 0 0 (-1) (x2 - 1) h1).bind fun (w4, h3) =>
  some (w4, h3)
set_option maxHeartbeats 4000000 in
theorem e_187 (d : Nat) (Q : Option Value → xH → Prop)  {h : xH} {a : Nat} {p0 : Nat} {x : Int32} {h1 : xH} (H : f_187  a p0 h = some (x, h1)) (hq : Q (some (.int x)) h1) : Wp (d + 1) 187 0 [some (.ref a), some (.ref p0), none, none, none, none, none, none, none, none, none, none, none, none, none, none, none] [] h Q := by
  unfold f_187 at H
  refine wp_iconst 0 xi_187 dX12_measures_0 rfl ?_
  refine wp_istore_n [some (.ref a), some (.ref p0), some (.int 0), none, none, none, none, none, none, none, none, none, none, none, none, none, none] xi_187 dX12_measures_1 rfl ?_
  refine wp_iconst 0 xi_187 dX12_measures_2 rfl ?_
  refine wp_istore_n [some (.ref a), some (.ref p0), some (.int 0), some (.int 0), none, none, none, none, none, none, none, none, none, none, none, none, none] xi_187 dX12_measures_3 rfl ?_
  refine wp_iconst 0 xi_187 dX12_measures_4 rfl ?_
  refine wp_istore [some (.ref a), some (.ref p0), some (.int 0), some (.int 0), some (.int 0), none, none, none, none, none, none, none, none, none, none, none, none] xi_187 dX12_measures_5 rfl ?_
  refine wp_iconst 0 xi_187 dX12_measures_7 rfl ?_
  refine wp_istore [some (.ref a), some (.ref p0), some (.int 0), some (.int 0), some (.int 0), some (.int 0), none, none, none, none, none, none, none, none, none, none, none] xi_187 dX12_measures_8 rfl ?_
  refine wp_iconst (-1) xi_187 dX12_measures_10 rfl ?_
  refine wp_istore [some (.ref a), some (.ref p0), some (.int 0), some (.int 0), some (.int 0), some (.int 0), some (.int (-1)), none, none, none, none, none, none, none, none, none, none] xi_187 dX12_measures_11 rfl ?_
  refine wp_aload_n xi_187 dX12_measures_13 rfl ?_
  refine wp_iconst (-1) xi_187 dX12_measures_14 rfl ?_
  obtain ⟨h1, gh1, H⟩ := Option.bind_eq_some_iff.mp H
  refine wq_putf xi_187 dX12_measures_15 xf_12_231 (Or.inl rfl) gh1 ?_
  refine wp_aload_n xi_187 dX12_measures_18 rfl ?_
  refine wp_bipush 48 xi_187 dX12_measures_19 rfl ?_
  obtain ⟨x2, gx2, H⟩ := Option.bind_eq_some_iff.mp H
  refine wq_iaload xi_187 dX12_measures_21 gx2 ?_
  refine wp_iconst 1 xi_187 dX12_measures_22 rfl ?_
  refine wp_isub xi_187 dX12_measures_23 ?_
  refine wp_istore [some (.ref a), some (.ref p0), some (.int 0), some (.int 0), some (.int 0), some (.int 0), some (.int (-1)), some (.int (x2 - 1)), none, none, none, none, none, none, none, none, none] xi_187 dX12_measures_24 rfl ?_
  obtain ⟨⟨w4, h3⟩, G5, H⟩ := Option.bind_eq_some_iff.mp H
  dsimp only at H
  refine Wp.more (by simp [xMore, Value.category]) (ef_187_26 d Q  100000 a p0 0 0 0 0 (-1) (x2 - 1) h1 _ G5 (fun z0 z1 e9 => ?_))
  cases e9
  refine wp_iload xi_187 dX12_measures_399 rfl ?_
  obtain ⟨rfl, rfl⟩ := oi2 H
  exact wp_iret xi_187 dX12_measures_401 hq
/- FelledHasLostModel.isStanding([I)Z -/
def f_188  (a : Nat) (p0 : Nat) (h : xH) : Option (Int32 × xH) :=
  (pG (pIs h a 12)).bind fun _ =>
  (f_187 a p0 h).bind fun (x3, h2) =>
  ((if (0 : Int32) ≤ x3 then
  some (0)
  else
  some (1) : Option (Int32))).bind fun (w5 : Int32) =>
  pZ w5 h2
set_option maxHeartbeats 4000000 in
theorem e_188 (d : Nat) (Q : Option Value → xH → Prop)  {h : xH} {a : Nat} {p0 : Nat} {x : Int32} {h1 : xH} (H : f_188  a p0 h = some (x, h1)) (hq : Q (some (.int x)) h1) : Wp (d + 2) 188 0 [some (.ref a), some (.ref p0)] [] h Q := by
  unfold f_188 at H
  refine wp_aload_n xi_188 dX12_isStanding_0 rfl ?_
  refine wp_aload_n xi_188 dX12_isStanding_1 rfl ?_
  obtain ⟨u1, gu1, H⟩ := Option.bind_eq_some_iff.mp H
  obtain ⟨⟨x3, h2⟩, gh2, H⟩ := Option.bind_eq_some_iff.mp H
  dsimp only at H
  refine wq_callV (a := a) (as := [.ref p0]) (r := []) (v1 := (some (.int x3))) xi_188 xi_187 dX12_isStanding_2 xm_12_240 rfl (Nat.le_of_ble_eq_true rfl) (pG_ok gu1) ⟨(Nat.le_of_ble_eq_true rfl), (Nat.le_of_ble_eq_true rfl)⟩ rfl nofun (e_187 d _ gh2 ⟨rfl, rfl⟩) ?_
  change Wp _ _ _ _ [.int x3] _ _
  obtain ⟨w5, G7, H⟩ := Option.bind_eq_some_iff.mp H
  have K6 : Wp (d + 2) 188 13 [some (.ref a), some (.ref p0)] [.int w5] h2 Q := by
    obtain ⟨gz, hz⟩ := pZ_ok H
    obtain ⟨rfl, rfl⟩ := Prod.mk.inj hz
    exact wp_zret xi_188 dX12_isStanding_13 gz hq
  clear H
  have H := G7
  clear G7
  refine wp_if_ge 12 xi_188 dX12_isStanding_5 rfl (fun c4 => ?_) (fun c4 => ?_)
  · rw [if_pos c4] at H
    refine wp_iconst 0 xi_188 dX12_isStanding_12 rfl ?_
    obtain rfl := Option.some.inj H
    exact Wp.more (by simp [xMore, Value.category]) K6
  · rw [if_neg c4] at H
    refine wp_iconst 1 xi_188 dX12_isStanding_8 rfl ?_
    refine wp_goto 13 xi_188 dX12_isStanding_9 rfl ?_
    obtain rfl := Option.some.inj H
    exact Wp.more (by simp [xMore, Value.category]) K6
/- FelledHasLostModel.block(II)I -/
def f_189_81  : Nat → Nat → Int32 → Int32 → xH → Option (Int32 × xH)
  | 0, _, _, _, _ => none
  | n + 1, a0, a3, a4, h =>
  (pFr h a0 12 3).bind fun x1 =>
  (pAi h x1 48).bind fun x2 =>
  (if x2 ≤ a4 then
  some (a3, h)
  else
  (pFr h a0 12 3).bind fun x4 =>
  (f_170 x4 a4 h).bind fun (x6, h5) =>
  f_189_81 n a0 (a3 + x6) (a4 + 1) h5)
theorem ef_189_81 (d : Nat) (Q : Option Value → xH → Prop)  : ∀ (n : Nat) (a0 : Nat) (a3 : Int32) (a4 : Int32) (h : xH) (r : Int32 × xH), f_189_81 n a0 a3 a4 h = some r → (∀ (w3 : Int32) (h1 : xH), r = (w3, h1) → Wp (d + 3) 189 111 [none, none, none, some (.int w3), none] [] h1 Q) → Wp (d + 3) 189 81 [some (.ref a0), none, none, some (.int a3), some (.int a4)] [] h Q := by
  intro n
  induction n with
  | zero =>
    intro a0 a3 a4 h r H
    cases H
  | succ n ih =>
    intro a0 a3 a4 h r H KE
    unfold f_189_81 at H
    refine wp_iload xi_189 dX12_block_81 rfl ?_
    refine wp_aload_n xi_189 dX12_block_83 rfl ?_
    obtain ⟨x1, gx1, H⟩ := Option.bind_eq_some_iff.mp H
    refine wq_getfr xi_189 dX12_block_84 xf_12_24 gx1 ?_
    refine wp_bipush 48 xi_189 dX12_block_87 rfl ?_
    obtain ⟨x2, gx2, H⟩ := Option.bind_eq_some_iff.mp H
    refine wq_iaload xi_189 dX12_block_89 gx2 ?_
    refine wp_icmp_ge 111 xi_189 dX12_block_90 rfl (fun c3 => ?_) (fun c3 => ?_)
    · rw [if_pos c3] at H
      obtain rfl := Option.some.inj H
      exact Wp.more (by simp [xMore, Value.category]) (KE a3 h rfl)
    · rw [if_neg c3] at H
      refine wp_iload_n xi_189 dX12_block_93 rfl ?_
      refine wp_aload_n xi_189 dX12_block_94 rfl ?_
      obtain ⟨x4, gx4, H⟩ := Option.bind_eq_some_iff.mp H
      refine wq_getfr xi_189 dX12_block_95 xf_12_24 gx4 ?_
      refine wp_iload xi_189 dX12_block_98 rfl ?_
      obtain ⟨⟨x6, h5⟩, gh5, H⟩ := Option.bind_eq_some_iff.mp H
      dsimp only at H
      refine wq_callS (as := [.ref x4, .int a4]) (r := [.int a3]) (v1 := (some (.int x6))) xi_189 xi_170 dX12_block_100 xm_12_256 rfl (Nat.le_of_ble_eq_true rfl) ⟨(Nat.le_of_ble_eq_true rfl), (Nat.le_of_ble_eq_true rfl)⟩ rfl nofun (e_170 (d + 1) _ gh5 ⟨rfl, rfl⟩) ?_
      change Wp _ _ _ _ [.int x6, .int a3] _ _
      refine wp_iadd xi_189 dX12_block_103 ?_
      refine wp_istore_n [some (.ref a0), none, none, some (.int (a3 + x6)), some (.int a4)] xi_189 dX12_block_104 rfl ?_
      refine wp_iinc (a4 + 1) [some (.ref a0), none, none, some (.int (a3 + x6)), some (.int (a4 + 1))] xi_189 dX12_block_105 rfl rfl rfl ?_
      refine wp_goto 81 xi_189 dX12_block_108 rfl ?_
      exact Wp.more (by simp [xMore, Value.category]) (ih a0 (a3 + x6) (a4 + 1) h5 _ H KE)
def f_189  (a : Nat) (p0 : Int32) (p1 : Int32) (h : xH) : Option (Int32 × xH) :=
  (pP h a 12 0 (.int 0)).bind fun h1 =>
  (pFr h1 a 12 3).bind fun x2 =>
  (f_169 x2 p0 h1).bind fun (x4, h3) =>
  (if x4 = 0 then
  (pG (pIs h3 a 12)).bind fun _ =>
  (f_161 a h3).bind fun (x8, h7) =>
  some (x8, h7)
  else
  (f_162 ((p1 : Int32).toInt64) (0 : Int64) (4 : Int64) h3).bind fun (x10, h9) =>
  (if x10 = 0 then
  (pG (pIs h9 a 12)).bind fun _ =>
  (f_161 a h9).bind fun (x55, h54) =>
  some (x55, h54)
  else
  (if (2 : Int32) ≤ p1 then
  (if p1 = 2 then
  (pFr h9 a 12 3).bind fun x46 =>
  (f_186 x46 p0 h9).bind fun (x48, h47) =>
  (f_163 x48 h47).bind fun (x50, h49) =>
  some (x50, h49)
  else
  (if p1 = 3 then
  (pDiv p0 3).bind fun x41 =>
  (f_189_81 100000 a 0 (x41 + 1) h9).bind fun (w43, h42) =>
  some (w43, h42)
  else
  (pFr h9 a 12 3).bind fun x15 =>
  (pFr h9 a 12 4).bind fun x16 =>
  (f_168 x15 x16 h9).bind fun h17 =>
  (pFr h17 a 12 4).bind fun x18 =>
  (pSi h17 x18 p0 (-1)).bind fun h19 =>
  (pFr h19 a 12 3).bind fun x20 =>
  (pDiv p0 3).bind fun x21 =>
  (f_170 x20 x21 h19).bind fun (x23, h22) =>
  ((if x23 ≤ 1 then
  some (0, h22)
  else
  (pFr h22 a 12 4).bind fun x33 =>
  (pG (pIs h22 a 12)).bind fun _ =>
  (f_188 a x33 h22).bind fun (x36, h35) =>
  (if x36 = 0 then
  some (0, h35)
  else
  some (1, h35)) : Option (Int32 × xH))).bind fun (w30, h31) =>
  (f_163 w30 h31).bind fun (x39, h38) =>
  some (x39, h38)))
  else
  (pFr h9 a 12 3).bind fun x51 =>
  (pAi h9 x51 p0).bind fun x52 =>
  some ((x52 + (10 * p1)), h9))))
set_option maxHeartbeats 4000000 in
theorem e_189 (d : Nat) (Q : Option Value → xH → Prop)  {h : xH} {a : Nat} {p0 : Int32} {p1 : Int32} {x : Int32} {h1 : xH} (H : f_189  a p0 p1 h = some (x, h1)) (hq : Q (some (.int x)) h1) : Wp (d + 3) 189 0 [some (.ref a), some (.int p0), some (.int p1), none, none] [] h Q := by
  unfold f_189 at H
  refine wp_aload_n xi_189 dX12_block_0 rfl ?_
  refine wp_iconst 0 xi_189 dX12_block_1 rfl ?_
  obtain ⟨h1, gh1, H⟩ := Option.bind_eq_some_iff.mp H
  refine wq_putf xi_189 dX12_block_2 xf_12_3 (Or.inl rfl) gh1 ?_
  refine wp_aload_n xi_189 dX12_block_5 rfl ?_
  obtain ⟨x2, gx2, H⟩ := Option.bind_eq_some_iff.mp H
  refine wq_getfr xi_189 dX12_block_6 xf_12_24 gx2 ?_
  refine wp_iload_n xi_189 dX12_block_9 rfl ?_
  obtain ⟨⟨x4, h3⟩, gh3, H⟩ := Option.bind_eq_some_iff.mp H
  dsimp only at H
  refine wq_callS (as := [.ref x2, .int p0]) (r := []) (v1 := (some (.int x4))) xi_189 xi_169 dX12_block_10 xm_12_244 rfl (Nat.le_of_ble_eq_true rfl) ⟨(Nat.le_of_ble_eq_true rfl), (Nat.le_of_ble_eq_true rfl)⟩ rfl nofun (e_169 (d + 1) _ gh3 ⟨rfl, rfl⟩) ?_
  change Wp _ _ _ _ [.int x4] _ _
  refine wp_if_eq 28 xi_189 dX12_block_13 rfl (fun c5 => ?_) (fun c5 => ?_)
  · rw [if_pos c5] at H
    refine wp_aload_n xi_189 dX12_block_28 rfl ?_
    obtain ⟨u6, gu6, H⟩ := Option.bind_eq_some_iff.mp H
    obtain ⟨⟨x8, h7⟩, gh7, H⟩ := Option.bind_eq_some_iff.mp H
    dsimp only at H
    refine wq_callV (a := a) (as := []) (r := []) (v1 := (some (.int x8))) xi_189 xi_161 dX12_block_29 xm_12_250 rfl (Nat.le_of_ble_eq_true rfl) (pG_ok gu6) ⟨(Nat.le_of_ble_eq_true rfl), (Nat.le_of_ble_eq_true rfl)⟩ rfl nofun (e_161 (d + 2) _ gh7 ⟨rfl, rfl⟩) ?_
    change Wp _ _ _ _ [.int x8] _ _
    obtain ⟨rfl, rfl⟩ := oi2 H
    exact wp_iret xi_189 dX12_block_32 hq
  · rw [if_neg c5] at H
    refine wp_iload_n xi_189 dX12_block_16 rfl ?_
    refine wp_i2l xi_189 dX12_block_17 ?_
    refine wp_lconst 0 xi_189 dX12_block_18 rfl ?_
    refine wp_ldc2 xi_189 dX12_block_19 xl_12_248 ?_
    obtain ⟨⟨x10, h9⟩, gh9, H⟩ := Option.bind_eq_some_iff.mp H
    dsimp only at H
    refine wq_callS (as := [.long ((p1 : Int32).toInt64), .long (0 : Int64), .long (4 : Int64)]) (r := []) (v1 := (some (.int x10))) xi_189 xi_162 dX12_block_22 xm_12_135 rfl (Nat.le_of_ble_eq_true rfl) ⟨(Nat.le_of_ble_eq_true rfl), (Nat.le_of_ble_eq_true rfl)⟩ rfl nofun (e_162 (d + 2) _ gh9 ⟨rfl, rfl⟩) ?_
    change Wp _ _ _ _ [.int x10] _ _
    refine wp_if_ne 33 xi_189 dX12_block_25 rfl (fun c11 => ?_) (fun c11 => ?_)
    · rw [if_neg c11] at H
      refine wp_iload_n xi_189 dX12_block_33 rfl ?_
      refine wp_iconst 2 xi_189 dX12_block_34 rfl ?_
      refine wp_icmp_ge 50 xi_189 dX12_block_35 rfl (fun c12 => ?_) (fun c12 => ?_)
      · rw [if_pos c12] at H
        refine wp_iload_n xi_189 dX12_block_50 rfl ?_
        refine wp_iconst 2 xi_189 dX12_block_51 rfl ?_
        refine wp_icmp_ne 67 xi_189 dX12_block_52 rfl (fun c13 => ?_) (fun c13 => ?_)
        · rw [if_neg c13] at H
          refine wp_iload_n xi_189 dX12_block_67 rfl ?_
          refine wp_iconst 3 xi_189 dX12_block_68 rfl ?_
          refine wp_icmp_ne 113 xi_189 dX12_block_69 rfl (fun c14 => ?_) (fun c14 => ?_)
          · rw [if_neg c14] at H
            refine wp_aload_n xi_189 dX12_block_113 rfl ?_
            obtain ⟨x15, gx15, H⟩ := Option.bind_eq_some_iff.mp H
            refine wq_getfr xi_189 dX12_block_114 xf_12_24 gx15 ?_
            refine wp_aload_n xi_189 dX12_block_117 rfl ?_
            obtain ⟨x16, gx16, H⟩ := Option.bind_eq_some_iff.mp H
            refine wq_getfr xi_189 dX12_block_118 xf_12_28 gx16 ?_
            obtain ⟨h17, gh17, H⟩ := Option.bind_eq_some_iff.mp H
            refine wq_callS (as := [.ref x15, .ref x16]) (r := []) (v1 := none) xi_189 xi_168 dX12_block_121 xm_12_259 rfl (Nat.le_of_ble_eq_true rfl) ⟨(Nat.le_of_ble_eq_true rfl), (Nat.le_of_ble_eq_true rfl)⟩ rfl nofun (e_168 (d + 2) _ gh17 ⟨rfl, rfl⟩) ?_
            change Wp _ _ _ _ [] _ _
            refine wp_aload_n xi_189 dX12_block_124 rfl ?_
            obtain ⟨x18, gx18, H⟩ := Option.bind_eq_some_iff.mp H
            refine wq_getfr xi_189 dX12_block_125 xf_12_28 gx18 ?_
            refine wp_iload_n xi_189 dX12_block_128 rfl ?_
            refine wp_iconst (-1) xi_189 dX12_block_129 rfl ?_
            obtain ⟨h19, gh19, H⟩ := Option.bind_eq_some_iff.mp H
            refine wq_iastore xi_189 dX12_block_130 gh19 ?_
            refine wp_aload_n xi_189 dX12_block_131 rfl ?_
            obtain ⟨x20, gx20, H⟩ := Option.bind_eq_some_iff.mp H
            refine wq_getfr xi_189 dX12_block_132 xf_12_24 gx20 ?_
            refine wp_iload_n xi_189 dX12_block_135 rfl ?_
            refine wp_iconst 3 xi_189 dX12_block_136 rfl ?_
            obtain ⟨x21, gx21, H⟩ := Option.bind_eq_some_iff.mp H
            refine wq_idiv xi_189 dX12_block_137 gx21 ?_
            obtain ⟨⟨x23, h22⟩, gh22, H⟩ := Option.bind_eq_some_iff.mp H
            dsimp only at H
            refine wq_callS (as := [.ref x20, .int x21]) (r := []) (v1 := (some (.int x23))) xi_189 xi_170 dX12_block_138 xm_12_256 rfl (Nat.le_of_ble_eq_true rfl) ⟨(Nat.le_of_ble_eq_true rfl), (Nat.le_of_ble_eq_true rfl)⟩ rfl nofun (e_170 (d + 1) _ gh22 ⟨rfl, rfl⟩) ?_
            change Wp _ _ _ _ [.int x23] _ _
            refine wp_iconst 1 xi_189 dX12_block_141 rfl ?_
            obtain ⟨⟨w30, h31⟩, G40, H⟩ := Option.bind_eq_some_iff.mp H
            dsimp only at H
            have K32 : Wp (d + 3) 189 161 [some (.ref a), some (.int p0), some (.int p1), none, none] [.int w30] h31 Q := by
              obtain ⟨⟨x39, h38⟩, gh38, H⟩ := Option.bind_eq_some_iff.mp H
              dsimp only at H
              refine wq_callS (as := [.int w30]) (r := []) (v1 := (some (.int x39))) xi_189 xi_163 dX12_block_161 xm_12_139 rfl (Nat.le_of_ble_eq_true rfl) ⟨(Nat.le_of_ble_eq_true rfl), (Nat.le_of_ble_eq_true rfl)⟩ rfl nofun (e_163 (d + 2) _ gh38 ⟨rfl, rfl⟩) ?_
              change Wp _ _ _ _ [.int x39] _ _
              obtain ⟨rfl, rfl⟩ := oi2 H
              exact wp_iret xi_189 dX12_block_164 hq
            clear H
            have H := G40
            clear G40
            refine wp_icmp_le 160 xi_189 dX12_block_142 rfl (fun c24 => ?_) (fun c24 => ?_)
            · rw [if_pos c24] at H
              refine wp_iconst 0 xi_189 dX12_block_160 rfl ?_
              simp only [Option.some.injEq, Prod.mk.injEq] at H
              obtain ⟨rfl, rfl⟩ := H
              exact Wp.more (by simp [xMore, Value.category]) K32
            · rw [if_neg c24] at H
              refine wp_aload_n xi_189 dX12_block_145 rfl ?_
              refine wp_aload_n xi_189 dX12_block_146 rfl ?_
              obtain ⟨x33, gx33, H⟩ := Option.bind_eq_some_iff.mp H
              refine wq_getfr xi_189 dX12_block_147 xf_12_28 gx33 ?_
              obtain ⟨u34, gu34, H⟩ := Option.bind_eq_some_iff.mp H
              obtain ⟨⟨x36, h35⟩, gh35, H⟩ := Option.bind_eq_some_iff.mp H
              dsimp only at H
              refine wq_callV (a := a) (as := [.ref x33]) (r := []) (v1 := (some (.int x36))) xi_189 xi_188 dX12_block_150 xm_12_263 rfl (Nat.le_of_ble_eq_true rfl) (pG_ok gu34) ⟨(Nat.le_of_ble_eq_true rfl), (Nat.le_of_ble_eq_true rfl)⟩ rfl nofun (e_188 d _ gh35 ⟨rfl, rfl⟩) ?_
              change Wp _ _ _ _ [.int x36] _ _
              refine wp_if_eq 160 xi_189 dX12_block_153 rfl (fun c37 => ?_) (fun c37 => ?_)
              · rw [if_pos c37] at H
                refine wp_iconst 0 xi_189 dX12_block_160 rfl ?_
                simp only [Option.some.injEq, Prod.mk.injEq] at H
                obtain ⟨rfl, rfl⟩ := H
                exact Wp.more (by simp [xMore, Value.category]) K32
              · rw [if_neg c37] at H
                refine wp_iconst 1 xi_189 dX12_block_156 rfl ?_
                refine wp_goto 161 xi_189 dX12_block_157 rfl ?_
                simp only [Option.some.injEq, Prod.mk.injEq] at H
                obtain ⟨rfl, rfl⟩ := H
                exact Wp.more (by simp [xMore, Value.category]) K32
          · rw [if_pos c14] at H
            refine wp_iconst 0 xi_189 dX12_block_72 rfl ?_
            refine wp_istore_n [some (.ref a), some (.int p0), some (.int p1), some (.int 0), none] xi_189 dX12_block_73 rfl ?_
            refine wp_iload_n xi_189 dX12_block_74 rfl ?_
            refine wp_iconst 3 xi_189 dX12_block_75 rfl ?_
            obtain ⟨x41, gx41, H⟩ := Option.bind_eq_some_iff.mp H
            refine wq_idiv xi_189 dX12_block_76 gx41 ?_
            refine wp_iconst 1 xi_189 dX12_block_77 rfl ?_
            refine wp_iadd xi_189 dX12_block_78 ?_
            refine wp_istore [some (.ref a), some (.int p0), some (.int p1), some (.int 0), some (.int (x41 + 1))] xi_189 dX12_block_79 rfl ?_
            obtain ⟨⟨w43, h42⟩, G44, H⟩ := Option.bind_eq_some_iff.mp H
            dsimp only at H
            refine Wp.more (by simp [xMore, Value.category]) (ef_189_81 d Q  100000 a 0 (x41 + 1) h9 _ G44 (fun z0 z1 e9 => ?_))
            cases e9
            refine wp_iload_n xi_189 dX12_block_111 rfl ?_
            obtain ⟨rfl, rfl⟩ := oi2 H
            exact wp_iret xi_189 dX12_block_112 hq
        · rw [if_pos c13] at H
          refine wp_aload_n xi_189 dX12_block_55 rfl ?_
          obtain ⟨x46, gx46, H⟩ := Option.bind_eq_some_iff.mp H
          refine wq_getfr xi_189 dX12_block_56 xf_12_24 gx46 ?_
          refine wp_iload_n xi_189 dX12_block_59 rfl ?_
          obtain ⟨⟨x48, h47⟩, gh47, H⟩ := Option.bind_eq_some_iff.mp H
          dsimp only at H
          refine wq_callS (as := [.ref x46, .int p0]) (r := []) (v1 := (some (.int x48))) xi_189 xi_186 dX12_block_60 xm_12_253 rfl (Nat.le_of_ble_eq_true rfl) ⟨(Nat.le_of_ble_eq_true rfl), (Nat.le_of_ble_eq_true rfl)⟩ rfl nofun (e_186 (d + 1) _ gh47 ⟨rfl, rfl⟩) ?_
          change Wp _ _ _ _ [.int x48] _ _
          obtain ⟨⟨x50, h49⟩, gh49, H⟩ := Option.bind_eq_some_iff.mp H
          dsimp only at H
          refine wq_callS (as := [.int x48]) (r := []) (v1 := (some (.int x50))) xi_189 xi_163 dX12_block_63 xm_12_139 rfl (Nat.le_of_ble_eq_true rfl) ⟨(Nat.le_of_ble_eq_true rfl), (Nat.le_of_ble_eq_true rfl)⟩ rfl nofun (e_163 (d + 2) _ gh49 ⟨rfl, rfl⟩) ?_
          change Wp _ _ _ _ [.int x50] _ _
          obtain ⟨rfl, rfl⟩ := oi2 H
          exact wp_iret xi_189 dX12_block_66 hq
      · rw [if_neg c12] at H
        refine wp_aload_n xi_189 dX12_block_38 rfl ?_
        obtain ⟨x51, gx51, H⟩ := Option.bind_eq_some_iff.mp H
        refine wq_getfr xi_189 dX12_block_39 xf_12_24 gx51 ?_
        refine wp_iload_n xi_189 dX12_block_42 rfl ?_
        obtain ⟨x52, gx52, H⟩ := Option.bind_eq_some_iff.mp H
        refine wq_iaload xi_189 dX12_block_43 gx52 ?_
        refine wp_bipush 10 xi_189 dX12_block_44 rfl ?_
        refine wp_iload_n xi_189 dX12_block_46 rfl ?_
        refine wp_imul xi_189 dX12_block_47 ?_
        refine wp_iadd xi_189 dX12_block_48 ?_
        obtain ⟨rfl, rfl⟩ := oi2 H
        exact wp_iret xi_189 dX12_block_49 hq
    · rw [if_pos c11] at H
      refine wp_aload_n xi_189 dX12_block_28 rfl ?_
      obtain ⟨u53, gu53, H⟩ := Option.bind_eq_some_iff.mp H
      obtain ⟨⟨x55, h54⟩, gh54, H⟩ := Option.bind_eq_some_iff.mp H
      dsimp only at H
      refine wq_callV (a := a) (as := []) (r := []) (v1 := (some (.int x55))) xi_189 xi_161 dX12_block_29 xm_12_250 rfl (Nat.le_of_ble_eq_true rfl) (pG_ok gu53) ⟨(Nat.le_of_ble_eq_true rfl), (Nat.le_of_ble_eq_true rfl)⟩ rfl nofun (e_161 (d + 2) _ gh54 ⟨rfl, rfl⟩) ?_
      change Wp _ _ _ _ [.int x55] _ _
      obtain ⟨rfl, rfl⟩ := oi2 H
      exact wp_iret xi_189 dX12_block_32 hq
/- FelledHasLostModel.isLayer(I)Z -/
def f_190  (a : Nat) (p0 : Int32) (h : xH) : Option (Int32 × xH) :=
  (pFr h a 12 3).bind fun x1 =>
  (pAi h x1 48).bind fun x2 =>
  (f_162 ((p0 : Int32).toInt64) (0 : Int64) (((x2 - 1) : Int32).toInt64) h).bind fun (x4, h3) =>
  pZ x4 h3
set_option maxHeartbeats 4000000 in
theorem e_190 (d : Nat) (Q : Option Value → xH → Prop)  {h : xH} {a : Nat} {p0 : Int32} {x : Int32} {h1 : xH} (H : f_190  a p0 h = some (x, h1)) (hq : Q (some (.int x)) h1) : Wp (d + 1) 190 0 [some (.ref a), some (.int p0)] [] h Q := by
  unfold f_190 at H
  refine wp_iload_n xi_190 dX12_isLayer_0 rfl ?_
  refine wp_i2l xi_190 dX12_isLayer_1 ?_
  refine wp_lconst 0 xi_190 dX12_isLayer_2 rfl ?_
  refine wp_aload_n xi_190 dX12_isLayer_3 rfl ?_
  obtain ⟨x1, gx1, H⟩ := Option.bind_eq_some_iff.mp H
  refine wq_getfr xi_190 dX12_isLayer_4 xf_12_24 gx1 ?_
  refine wp_bipush 48 xi_190 dX12_isLayer_7 rfl ?_
  obtain ⟨x2, gx2, H⟩ := Option.bind_eq_some_iff.mp H
  refine wq_iaload xi_190 dX12_isLayer_9 gx2 ?_
  refine wp_iconst 1 xi_190 dX12_isLayer_10 rfl ?_
  refine wp_isub xi_190 dX12_isLayer_11 ?_
  refine wp_i2l xi_190 dX12_isLayer_12 ?_
  obtain ⟨⟨x4, h3⟩, gh3, H⟩ := Option.bind_eq_some_iff.mp H
  dsimp only at H
  refine wq_callS (as := [.long ((p0 : Int32).toInt64), .long (0 : Int64), .long (((x2 - 1) : Int32).toInt64)]) (r := []) (v1 := (some (.int x4))) xi_190 xi_162 dX12_isLayer_13 xm_12_135 rfl (Nat.le_of_ble_eq_true rfl) ⟨(Nat.le_of_ble_eq_true rfl), (Nat.le_of_ble_eq_true rfl)⟩ rfl nofun (e_162 d _ gh3 ⟨rfl, rfl⟩) ?_
  change Wp _ _ _ _ [.int x4] _ _
  obtain ⟨gz, hz⟩ := pZ_ok H
  obtain ⟨rfl, rfl⟩ := Prod.mk.inj hz
  exact wp_zret xi_190 dX12_isLayer_16 gz hq
/- FelledHasLostModel.layer(II)I -/
def f_191  (a : Nat) (p0 : Int32) (p1 : Int32) (h : xH) : Option (Int32 × xH) :=
  (pP h a 12 0 (.int 0)).bind fun h1 =>
  (pG (pIs h1 a 12)).bind fun _ =>
  (f_190 a p0 h1).bind fun (x4, h3) =>
  (if x4 = 0 then
  (pG (pIs h3 a 12)).bind fun _ =>
  (f_161 a h3).bind fun (x8, h7) =>
  some (x8, h7)
  else
  (f_162 ((p1 : Int32).toInt64) (0 : Int64) (6 : Int64) h3).bind fun (x10, h9) =>
  (if x10 = 0 then
  (pG (pIs h9 a 12)).bind fun _ =>
  (f_161 a h9).bind fun (x51, h50) =>
  some (x51, h50)
  else
  (pFr h9 a 12 3).bind fun x12 =>
  (pG (pIs h9 a 12)).bind fun _ =>
  (f_187 a x12 h9).bind fun (x15, h14) =>
  (pFr h14 a 12 3).bind fun x16 =>
  (f_185 x16 p0 h14).bind fun (x18, h17) =>
  (if p1 = 0 then
  (pFr h17 a 12 3).bind fun x25 =>
  (f_170 x25 p0 h17).bind fun (x27, h26) =>
  some (x27, h26)
  else
  if p1 = 1 then
  (pFr h17 a 12 20).bind fun x28 =>
  (pAi h17 x28 p0).bind fun x29 =>
  some (x29, h17)
  else
  if p1 = 2 then
  (pFr h17 a 12 21).bind fun x30 =>
  (pAi h17 x30 p0).bind fun x31 =>
  some (x31, h17)
  else
  if p1 = 3 then
  (pFr h17 a 12 22).bind fun x32 =>
  (pAi h17 x32 p0).bind fun x33 =>
  some (x33, h17)
  else
  if p1 = 4 then
  (pRem x18 2).bind fun x34 =>
  ((if x34 = 1 then
  some (0)
  else
  (pRem x18 4).bind fun x40 =>
  (if x40 ≤ 1 then
  some (2)
  else
  some (1)) : Option (Int32))).bind fun (w38 : Int32) =>
  some (w38, h17)
  else
  if p1 = 5 then
  ((if x18 ≤ 3 then
  (if x18 ≤ 1 then
  some (0)
  else
  some (1))
  else
  some (2) : Option (Int32))).bind fun (w45 : Int32) =>
  some (w45, h17)
  else
  some (x18, h17))))
set_option maxHeartbeats 4000000 in
theorem e_191 (d : Nat) (Q : Option Value → xH → Prop)  {h : xH} {a : Nat} {p0 : Int32} {p1 : Int32} {x : Int32} {h1 : xH} (H : f_191  a p0 p1 h = some (x, h1)) (hq : Q (some (.int x)) h1) : Wp (d + 2) 191 0 [some (.ref a), some (.int p0), some (.int p1), none] [] h Q := by
  unfold f_191 at H
  refine wp_aload_n xi_191 dX12_layer_0 rfl ?_
  refine wp_iconst 0 xi_191 dX12_layer_1 rfl ?_
  obtain ⟨h1, gh1, H⟩ := Option.bind_eq_some_iff.mp H
  refine wq_putf xi_191 dX12_layer_2 xf_12_3 (Or.inl rfl) gh1 ?_
  refine wp_aload_n xi_191 dX12_layer_5 rfl ?_
  refine wp_iload_n xi_191 dX12_layer_6 rfl ?_
  obtain ⟨u2, gu2, H⟩ := Option.bind_eq_some_iff.mp H
  obtain ⟨⟨x4, h3⟩, gh3, H⟩ := Option.bind_eq_some_iff.mp H
  dsimp only at H
  refine wq_callV (a := a) (as := [.int p0]) (r := []) (v1 := (some (.int x4))) xi_191 xi_190 dX12_layer_7 xm_12_267 rfl (Nat.le_of_ble_eq_true rfl) (pG_ok gu2) ⟨(Nat.le_of_ble_eq_true rfl), (Nat.le_of_ble_eq_true rfl)⟩ rfl nofun (e_190 d _ gh3 ⟨rfl, rfl⟩) ?_
  change Wp _ _ _ _ [.int x4] _ _
  refine wp_if_eq 25 xi_191 dX12_layer_10 rfl (fun c5 => ?_) (fun c5 => ?_)
  · rw [if_pos c5] at H
    refine wp_aload_n xi_191 dX12_layer_25 rfl ?_
    obtain ⟨u6, gu6, H⟩ := Option.bind_eq_some_iff.mp H
    obtain ⟨⟨x8, h7⟩, gh7, H⟩ := Option.bind_eq_some_iff.mp H
    dsimp only at H
    refine wq_callV (a := a) (as := []) (r := []) (v1 := (some (.int x8))) xi_191 xi_161 dX12_layer_26 xm_12_250 rfl (Nat.le_of_ble_eq_true rfl) (pG_ok gu6) ⟨(Nat.le_of_ble_eq_true rfl), (Nat.le_of_ble_eq_true rfl)⟩ rfl nofun (e_161 (d + 1) _ gh7 ⟨rfl, rfl⟩) ?_
    change Wp _ _ _ _ [.int x8] _ _
    obtain ⟨rfl, rfl⟩ := oi2 H
    exact wp_iret xi_191 dX12_layer_29 hq
  · rw [if_neg c5] at H
    refine wp_iload_n xi_191 dX12_layer_13 rfl ?_
    refine wp_i2l xi_191 dX12_layer_14 ?_
    refine wp_lconst 0 xi_191 dX12_layer_15 rfl ?_
    refine wp_ldc2 xi_191 dX12_layer_16 xl_12_270 ?_
    obtain ⟨⟨x10, h9⟩, gh9, H⟩ := Option.bind_eq_some_iff.mp H
    dsimp only at H
    refine wq_callS (as := [.long ((p1 : Int32).toInt64), .long (0 : Int64), .long (6 : Int64)]) (r := []) (v1 := (some (.int x10))) xi_191 xi_162 dX12_layer_19 xm_12_135 rfl (Nat.le_of_ble_eq_true rfl) ⟨(Nat.le_of_ble_eq_true rfl), (Nat.le_of_ble_eq_true rfl)⟩ rfl nofun (e_162 (d + 1) _ gh9 ⟨rfl, rfl⟩) ?_
    change Wp _ _ _ _ [.int x10] _ _
    refine wp_if_ne 30 xi_191 dX12_layer_22 rfl (fun c11 => ?_) (fun c11 => ?_)
    · rw [if_neg c11] at H
      refine wp_aload_n xi_191 dX12_layer_30 rfl ?_
      refine wp_aload_n xi_191 dX12_layer_31 rfl ?_
      obtain ⟨x12, gx12, H⟩ := Option.bind_eq_some_iff.mp H
      refine wq_getfr xi_191 dX12_layer_32 xf_12_24 gx12 ?_
      obtain ⟨u13, gu13, H⟩ := Option.bind_eq_some_iff.mp H
      obtain ⟨⟨x15, h14⟩, gh14, H⟩ := Option.bind_eq_some_iff.mp H
      dsimp only at H
      refine wq_callV (a := a) (as := [.ref x12]) (r := []) (v1 := (some (.int x15))) xi_191 xi_187 dX12_layer_35 xm_12_240 rfl (Nat.le_of_ble_eq_true rfl) (pG_ok gu13) ⟨(Nat.le_of_ble_eq_true rfl), (Nat.le_of_ble_eq_true rfl)⟩ rfl nofun (e_187 d _ gh14 ⟨rfl, rfl⟩) ?_
      change Wp _ _ _ _ [.int x15] _ _
      refine wp_pop xi_191 dX12_layer_38 rfl ?_
      refine wp_aload_n xi_191 dX12_layer_39 rfl ?_
      obtain ⟨x16, gx16, H⟩ := Option.bind_eq_some_iff.mp H
      refine wq_getfr xi_191 dX12_layer_40 xf_12_24 gx16 ?_
      refine wp_iload_n xi_191 dX12_layer_43 rfl ?_
      obtain ⟨⟨x18, h17⟩, gh17, H⟩ := Option.bind_eq_some_iff.mp H
      dsimp only at H
      refine wq_callS (as := [.ref x16, .int p0]) (r := []) (v1 := (some (.int x18))) xi_191 xi_185 dX12_layer_44 xm_12_227 rfl (Nat.le_of_ble_eq_true rfl) ⟨(Nat.le_of_ble_eq_true rfl), (Nat.le_of_ble_eq_true rfl)⟩ rfl nofun (e_185 (d + 1) _ gh17 ⟨rfl, rfl⟩) ?_
      change Wp _ _ _ _ [.int x18] _ _
      refine wp_istore_n [some (.ref a), some (.int p0), some (.int p1), some (.int x18)] xi_191 dX12_layer_47 rfl ?_
      refine wp_iload_n xi_191 dX12_layer_48 rfl ?_
      by_cases c19 : p1 = 0
      · rw [if_pos c19] at H
        refine Wp.pure (p2 := 88) (ls2 := [some (.ref a), some (.int p0), some (.int p1), some (.int x18)]) (st2 := []) (h2 := h17) xi_191 dX12_layer_49 rfl rfl rfl (by rw [c19]; rfl) ?_
        refine wp_aload_n xi_191 dX12_layer_88 rfl ?_
        obtain ⟨x25, gx25, H⟩ := Option.bind_eq_some_iff.mp H
        refine wq_getfr xi_191 dX12_layer_89 xf_12_24 gx25 ?_
        refine wp_iload_n xi_191 dX12_layer_92 rfl ?_
        obtain ⟨⟨x27, h26⟩, gh26, H⟩ := Option.bind_eq_some_iff.mp H
        dsimp only at H
        refine wq_callS (as := [.ref x25, .int p0]) (r := []) (v1 := (some (.int x27))) xi_191 xi_170 dX12_layer_93 xm_12_256 rfl (Nat.le_of_ble_eq_true rfl) ⟨(Nat.le_of_ble_eq_true rfl), (Nat.le_of_ble_eq_true rfl)⟩ rfl nofun (e_170 d _ gh26 ⟨rfl, rfl⟩) ?_
        change Wp _ _ _ _ [.int x27] _ _
        obtain ⟨rfl, rfl⟩ := oi2 H
        exact wp_iret xi_191 dX12_layer_96 hq
      · rw [if_neg c19] at H
        by_cases c20 : p1 = 1
        · rw [if_pos c20] at H
          refine Wp.pure (p2 := 97) (ls2 := [some (.ref a), some (.int p0), some (.int p1), some (.int x18)]) (st2 := []) (h2 := h17) xi_191 dX12_layer_49 rfl rfl rfl (by rw [c20]; rfl) ?_
          refine wp_aload_n xi_191 dX12_layer_97 rfl ?_
          obtain ⟨x28, gx28, H⟩ := Option.bind_eq_some_iff.mp H
          refine wq_getfr xi_191 dX12_layer_98 xf_12_52 gx28 ?_
          refine wp_iload_n xi_191 dX12_layer_101 rfl ?_
          obtain ⟨x29, gx29, H⟩ := Option.bind_eq_some_iff.mp H
          refine wq_iaload xi_191 dX12_layer_102 gx29 ?_
          obtain ⟨rfl, rfl⟩ := oi2 H
          exact wp_iret xi_191 dX12_layer_103 hq
        · rw [if_neg c20] at H
          by_cases c21 : p1 = 2
          · rw [if_pos c21] at H
            refine Wp.pure (p2 := 104) (ls2 := [some (.ref a), some (.int p0), some (.int p1), some (.int x18)]) (st2 := []) (h2 := h17) xi_191 dX12_layer_49 rfl rfl rfl (by rw [c21]; rfl) ?_
            refine wp_aload_n xi_191 dX12_layer_104 rfl ?_
            obtain ⟨x30, gx30, H⟩ := Option.bind_eq_some_iff.mp H
            refine wq_getfr xi_191 dX12_layer_105 xf_12_55 gx30 ?_
            refine wp_iload_n xi_191 dX12_layer_108 rfl ?_
            obtain ⟨x31, gx31, H⟩ := Option.bind_eq_some_iff.mp H
            refine wq_iaload xi_191 dX12_layer_109 gx31 ?_
            obtain ⟨rfl, rfl⟩ := oi2 H
            exact wp_iret xi_191 dX12_layer_110 hq
          · rw [if_neg c21] at H
            by_cases c22 : p1 = 3
            · rw [if_pos c22] at H
              refine Wp.pure (p2 := 111) (ls2 := [some (.ref a), some (.int p0), some (.int p1), some (.int x18)]) (st2 := []) (h2 := h17) xi_191 dX12_layer_49 rfl rfl rfl (by rw [c22]; rfl) ?_
              refine wp_aload_n xi_191 dX12_layer_111 rfl ?_
              obtain ⟨x32, gx32, H⟩ := Option.bind_eq_some_iff.mp H
              refine wq_getfr xi_191 dX12_layer_112 xf_12_58 gx32 ?_
              refine wp_iload_n xi_191 dX12_layer_115 rfl ?_
              obtain ⟨x33, gx33, H⟩ := Option.bind_eq_some_iff.mp H
              refine wq_iaload xi_191 dX12_layer_116 gx33 ?_
              obtain ⟨rfl, rfl⟩ := oi2 H
              exact wp_iret xi_191 dX12_layer_117 hq
            · rw [if_neg c22] at H
              by_cases c23 : p1 = 4
              · rw [if_pos c23] at H
                refine Wp.pure (p2 := 118) (ls2 := [some (.ref a), some (.int p0), some (.int p1), some (.int x18)]) (st2 := []) (h2 := h17) xi_191 dX12_layer_49 rfl rfl rfl (by rw [c23]; rfl) ?_
                refine wp_iload_n xi_191 dX12_layer_118 rfl ?_
                refine wp_iconst 2 xi_191 dX12_layer_119 rfl ?_
                obtain ⟨x34, gx34, H⟩ := Option.bind_eq_some_iff.mp H
                refine wq_irem xi_191 dX12_layer_120 gx34 ?_
                refine wp_iconst 1 xi_191 dX12_layer_121 rfl ?_
                obtain ⟨w38, G42, H⟩ := Option.bind_eq_some_iff.mp H
                have K39 : Wp (d + 2) 191 141 [some (.ref a), some (.int p0), some (.int p1), some (.int x18)] [.int w38] h17 Q := by
                  obtain ⟨rfl, rfl⟩ := oi2 H
                  exact wp_iret xi_191 dX12_layer_141 hq
                clear H
                have H := G42
                clear G42
                refine wp_icmp_ne 129 xi_191 dX12_layer_122 rfl (fun c35 => ?_) (fun c35 => ?_)
                · rw [if_neg c35] at H
                  refine wp_iload_n xi_191 dX12_layer_129 rfl ?_
                  refine wp_iconst 4 xi_191 dX12_layer_130 rfl ?_
                  obtain ⟨x40, gx40, H⟩ := Option.bind_eq_some_iff.mp H
                  refine wq_irem xi_191 dX12_layer_131 gx40 ?_
                  refine wp_iconst 1 xi_191 dX12_layer_132 rfl ?_
                  refine wp_icmp_le 140 xi_191 dX12_layer_133 rfl (fun c41 => ?_) (fun c41 => ?_)
                  · rw [if_pos c41] at H
                    refine wp_iconst 2 xi_191 dX12_layer_140 rfl ?_
                    obtain rfl := Option.some.inj H
                    exact Wp.more (by simp [xMore, Value.category]) K39
                  · rw [if_neg c41] at H
                    refine wp_iconst 1 xi_191 dX12_layer_136 rfl ?_
                    refine wp_goto 141 xi_191 dX12_layer_137 rfl ?_
                    obtain rfl := Option.some.inj H
                    exact Wp.more (by simp [xMore, Value.category]) K39
                · rw [if_pos c35] at H
                  refine wp_iconst 0 xi_191 dX12_layer_125 rfl ?_
                  refine wp_goto 141 xi_191 dX12_layer_126 rfl ?_
                  obtain rfl := Option.some.inj H
                  exact Wp.more (by simp [xMore, Value.category]) K39
              · rw [if_neg c23] at H
                by_cases c24 : p1 = 5
                · rw [if_pos c24] at H
                  refine Wp.pure (p2 := 142) (ls2 := [some (.ref a), some (.int p0), some (.int p1), some (.int x18)]) (st2 := []) (h2 := h17) xi_191 dX12_layer_49 rfl rfl rfl (by rw [c24]; rfl) ?_
                  refine wp_iload_n xi_191 dX12_layer_142 rfl ?_
                  refine wp_iconst 3 xi_191 dX12_layer_143 rfl ?_
                  obtain ⟨w45, G48, H⟩ := Option.bind_eq_some_iff.mp H
                  have K46 : Wp (d + 2) 191 161 [some (.ref a), some (.int p0), some (.int p1), some (.int x18)] [.int w45] h17 Q := by
                    obtain ⟨rfl, rfl⟩ := oi2 H
                    exact wp_iret xi_191 dX12_layer_161 hq
                  clear H
                  have H := G48
                  clear G48
                  refine wp_icmp_le 151 xi_191 dX12_layer_144 rfl (fun c43 => ?_) (fun c43 => ?_)
                  · rw [if_pos c43] at H
                    refine wp_iload_n xi_191 dX12_layer_151 rfl ?_
                    refine wp_iconst 1 xi_191 dX12_layer_152 rfl ?_
                    refine wp_icmp_le 160 xi_191 dX12_layer_153 rfl (fun c47 => ?_) (fun c47 => ?_)
                    · rw [if_pos c47] at H
                      refine wp_iconst 0 xi_191 dX12_layer_160 rfl ?_
                      obtain rfl := Option.some.inj H
                      exact Wp.more (by simp [xMore, Value.category]) K46
                    · rw [if_neg c47] at H
                      refine wp_iconst 1 xi_191 dX12_layer_156 rfl ?_
                      refine wp_goto 161 xi_191 dX12_layer_157 rfl ?_
                      obtain rfl := Option.some.inj H
                      exact Wp.more (by simp [xMore, Value.category]) K46
                  · rw [if_neg c43] at H
                    refine wp_iconst 2 xi_191 dX12_layer_147 rfl ?_
                    refine wp_goto 161 xi_191 dX12_layer_148 rfl ?_
                    obtain rfl := Option.some.inj H
                    exact Wp.more (by simp [xMore, Value.category]) K46
                · rw [if_neg c24] at H
                  have ec19 := lv_neT c19 (a := 0) (by decide)
                  have ec20 := lv_neT c20 (a := 1) (by decide)
                  have ec21 := lv_neT c21 (a := 2) (by decide)
                  have ec22 := lv_neT c22 (a := 3) (by decide)
                  have ec23 := lv_neT c23 (a := 4) (by decide)
                  have ec24 := lv_neT c24 (a := 5) (by decide)
                  refine Wp.pure (p2 := 162) (ls2 := [some (.ref a), some (.int p0), some (.int p1), some (.int x18)]) (st2 := []) (h2 := h17) xi_191 dX12_layer_49 rfl rfl rfl (by simp only [xPure, xJ]; rw [if_pos (by omega)]; rfl) ?_
                  refine wp_iload_n xi_191 dX12_layer_162 rfl ?_
                  obtain ⟨rfl, rfl⟩ := oi2 H
                  exact wp_iret xi_191 dX12_layer_163 hq
    · rw [if_pos c11] at H
      refine wp_aload_n xi_191 dX12_layer_25 rfl ?_
      obtain ⟨u49, gu49, H⟩ := Option.bind_eq_some_iff.mp H
      obtain ⟨⟨x51, h50⟩, gh50, H⟩ := Option.bind_eq_some_iff.mp H
      dsimp only at H
      refine wq_callV (a := a) (as := []) (r := []) (v1 := (some (.int x51))) xi_191 xi_161 dX12_layer_26 xm_12_250 rfl (Nat.le_of_ble_eq_true rfl) (pG_ok gu49) ⟨(Nat.le_of_ble_eq_true rfl), (Nat.le_of_ble_eq_true rfl)⟩ rfl nofun (e_161 (d + 1) _ gh50 ⟨rfl, rfl⟩) ?_
      change Wp _ _ _ _ [.int x51] _ _
      obtain ⟨rfl, rfl⟩ := oi2 H
      exact wp_iret xi_191 dX12_layer_29 hq
/- FelledHasLostModel.plane(II)I -/
def f_192  (a : Nat) (p0 : Int32) (p1 : Int32) (h : xH) : Option (Int32 × xH) :=
  (pP h a 12 0 (.int 0)).bind fun h1 =>
  (pFr h1 a 12 3).bind fun x2 =>
  (f_169 x2 p0 h1).bind fun (x4, h3) =>
  (if x4 = 0 then
  some ((-1), h3)
  else
  (f_162 ((p1 : Int32).toInt64) (0 : Int64) (9 : Int64) h3).bind fun (x7, h6) =>
  (if x7 = 0 then
  some ((-1), h6)
  else
  (pFr h6 a 12 3).bind fun x9 =>
  (pAi h6 x9 p0).bind fun x10 =>
  (pFr h6 a 12 3).bind fun x11 =>
  (pSi h6 x11 p0 p1).bind fun h12 =>
  some (x10, h12)))
set_option maxHeartbeats 4000000 in
theorem e_192 (d : Nat) (Q : Option Value → xH → Prop)  {h : xH} {a : Nat} {p0 : Int32} {p1 : Int32} {x : Int32} {h1 : xH} (H : f_192  a p0 p1 h = some (x, h1)) (hq : Q (some (.int x)) h1) : Wp (d + 2) 192 0 [some (.ref a), some (.int p0), some (.int p1), none] [] h Q := by
  unfold f_192 at H
  refine wp_aload_n xi_192 dX12_plane_0 rfl ?_
  refine wp_iconst 0 xi_192 dX12_plane_1 rfl ?_
  obtain ⟨h1, gh1, H⟩ := Option.bind_eq_some_iff.mp H
  refine wq_putf xi_192 dX12_plane_2 xf_12_3 (Or.inl rfl) gh1 ?_
  refine wp_aload_n xi_192 dX12_plane_5 rfl ?_
  obtain ⟨x2, gx2, H⟩ := Option.bind_eq_some_iff.mp H
  refine wq_getfr xi_192 dX12_plane_6 xf_12_24 gx2 ?_
  refine wp_iload_n xi_192 dX12_plane_9 rfl ?_
  obtain ⟨⟨x4, h3⟩, gh3, H⟩ := Option.bind_eq_some_iff.mp H
  dsimp only at H
  refine wq_callS (as := [.ref x2, .int p0]) (r := []) (v1 := (some (.int x4))) xi_192 xi_169 dX12_plane_10 xm_12_244 rfl (Nat.le_of_ble_eq_true rfl) ⟨(Nat.le_of_ble_eq_true rfl), (Nat.le_of_ble_eq_true rfl)⟩ rfl nofun (e_169 d _ gh3 ⟨rfl, rfl⟩) ?_
  change Wp _ _ _ _ [.int x4] _ _
  refine wp_if_eq 28 xi_192 dX12_plane_13 rfl (fun c5 => ?_) (fun c5 => ?_)
  · rw [if_pos c5] at H
    refine wp_iconst (-1) xi_192 dX12_plane_28 rfl ?_
    obtain ⟨rfl, rfl⟩ := oi2 H
    exact wp_iret xi_192 dX12_plane_29 hq
  · rw [if_neg c5] at H
    refine wp_iload_n xi_192 dX12_plane_16 rfl ?_
    refine wp_i2l xi_192 dX12_plane_17 ?_
    refine wp_lconst 0 xi_192 dX12_plane_18 rfl ?_
    refine wp_ldc2 xi_192 dX12_plane_19 xl_12_272 ?_
    obtain ⟨⟨x7, h6⟩, gh6, H⟩ := Option.bind_eq_some_iff.mp H
    dsimp only at H
    refine wq_callS (as := [.long ((p1 : Int32).toInt64), .long (0 : Int64), .long (9 : Int64)]) (r := []) (v1 := (some (.int x7))) xi_192 xi_162 dX12_plane_22 xm_12_135 rfl (Nat.le_of_ble_eq_true rfl) ⟨(Nat.le_of_ble_eq_true rfl), (Nat.le_of_ble_eq_true rfl)⟩ rfl nofun (e_162 (d + 1) _ gh6 ⟨rfl, rfl⟩) ?_
    change Wp _ _ _ _ [.int x7] _ _
    refine wp_if_ne 30 xi_192 dX12_plane_25 rfl (fun c8 => ?_) (fun c8 => ?_)
    · rw [if_neg c8] at H
      refine wp_aload_n xi_192 dX12_plane_30 rfl ?_
      obtain ⟨x9, gx9, H⟩ := Option.bind_eq_some_iff.mp H
      refine wq_getfr xi_192 dX12_plane_31 xf_12_24 gx9 ?_
      refine wp_iload_n xi_192 dX12_plane_34 rfl ?_
      obtain ⟨x10, gx10, H⟩ := Option.bind_eq_some_iff.mp H
      refine wq_iaload xi_192 dX12_plane_35 gx10 ?_
      refine wp_istore_n [some (.ref a), some (.int p0), some (.int p1), some (.int x10)] xi_192 dX12_plane_36 rfl ?_
      refine wp_aload_n xi_192 dX12_plane_37 rfl ?_
      obtain ⟨x11, gx11, H⟩ := Option.bind_eq_some_iff.mp H
      refine wq_getfr xi_192 dX12_plane_38 xf_12_24 gx11 ?_
      refine wp_iload_n xi_192 dX12_plane_41 rfl ?_
      refine wp_iload_n xi_192 dX12_plane_42 rfl ?_
      obtain ⟨h12, gh12, H⟩ := Option.bind_eq_some_iff.mp H
      refine wq_iastore xi_192 dX12_plane_43 gh12 ?_
      refine wp_iload_n xi_192 dX12_plane_44 rfl ?_
      obtain ⟨rfl, rfl⟩ := oi2 H
      exact wp_iret xi_192 dX12_plane_45 hq
    · rw [if_pos c8] at H
      refine wp_iconst (-1) xi_192 dX12_plane_28 rfl ?_
      obtain ⟨rfl, rfl⟩ := oi2 H
      exact wp_iret xi_192 dX12_plane_29 hq
/- FelledHasLostModel.sheet(IIII)I -/
def f_193_49  : Nat → Nat → Int32 → Int32 → Int32 → Int32 → Int32 → Int32 → Int32 → xH → Option (Int32 × xH)
  | 0, _, _, _, _, _, _, _, _, _ => none
  | n + 1, a0, a1, a2, a4, a5, a6, a7, a8, h =>
  (if (48 : Int32) ≤ a8 then
  some (a5, h)
  else
  (pFr h a0 12 3).bind fun x2 =>
  (pAi h x2 a8).bind fun x3 =>
  ((if (0 : Int32) ≤ x3 then
  ((if a1 = 0 then
  some ((a6 : Int32).toInt8.toInt32)
  else
  (if a1 = 1 then
  some ((a6 : Int32).toInt16.toInt32)
  else
  some (a6)) : Option (Int32))).bind fun (w28 : Int32) =>
  (pFr h a0 12 3).bind fun x31 =>
  ((if a1 = 3 then
  some (0)
  else
  (if a7 < a2 then
  some ((pMax 0 (pMin 9 w28)))
  else
  some (0)) : Option (Int32))).bind fun (w34 : Int32) =>
  (pSi h x31 a8 w34).bind fun h37 =>
  (pFr h37 a0 12 3).bind fun x38 =>
  (pAi h37 x38 a8).bind fun x39 =>
  some ((a5 + x39), (a6 + a4), (a7 + 1), h37)
  else
  some (a5, a6, a7, h) : Option (Int32 × Int32 × Int32 × xH))).bind fun (w21, w22, w23, h24) =>
  f_193_49 n a0 a1 a2 a4 w21 w22 w23 (a8 + 1) h24)
theorem ef_193_49 (d : Nat) (Q : Option Value → xH → Prop)  : ∀ (n : Nat) (a0 : Nat) (a1 : Int32) (a2 : Int32) (a4 : Int32) (a5 : Int32) (a6 : Int32) (a7 : Int32) (a8 : Int32) (h : xH) (r : Int32 × xH), f_193_49 n a0 a1 a2 a4 a5 a6 a7 a8 h = some r → (∀ (w5 : Int32) (h1 : xH), r = (w5, h1) → Wp (d + 1) 193 155 [none, some (.int a1), none, none, none, some (.int w5), none, none, none, none] [] h1 Q) → Wp (d + 1) 193 49 [some (.ref a0), some (.int a1), some (.int a2), none, some (.int a4), some (.int a5), some (.int a6), some (.int a7), some (.int a8), none] [] h Q := by
  intro n
  induction n with
  | zero =>
    intro a0 a1 a2 a4 a5 a6 a7 a8 h r H
    cases H
  | succ n ih =>
    intro a0 a1 a2 a4 a5 a6 a7 a8 h r H KE
    unfold f_193_49 at H
    refine wp_iload xi_193 dX12_sheet_49 rfl ?_
    refine wp_bipush 48 xi_193 dX12_sheet_51 rfl ?_
    refine wp_icmp_ge 155 xi_193 dX12_sheet_53 rfl (fun c1 => ?_) (fun c1 => ?_)
    · rw [if_pos c1] at H
      obtain rfl := Option.some.inj H
      exact Wp.more (by simp [xMore, Value.category]) (KE a5 h rfl)
    · rw [if_neg c1] at H
      refine wp_aload_n xi_193 dX12_sheet_56 rfl ?_
      obtain ⟨x2, gx2, H⟩ := Option.bind_eq_some_iff.mp H
      refine wq_getfr xi_193 dX12_sheet_57 xf_12_24 gx2 ?_
      refine wp_iload xi_193 dX12_sheet_60 rfl ?_
      obtain ⟨x3, gx3, H⟩ := Option.bind_eq_some_iff.mp H
      refine wq_iaload xi_193 dX12_sheet_62 gx3 ?_
      obtain ⟨⟨w21, w22, w23, h24⟩, G42, H⟩ := Option.bind_eq_some_iff.mp H
      dsimp only at H
      have K25 : Wp (d + 1) 193 149 [some (.ref a0), some (.int a1), some (.int a2), none, some (.int a4), some (.int w21), some (.int w22), some (.int w23), some (.int a8), none] [] h24 Q := by
        refine wp_iinc (a8 + 1) [some (.ref a0), some (.int a1), some (.int a2), none, some (.int a4), some (.int w21), some (.int w22), some (.int w23), some (.int (a8 + 1)), none] xi_193 dX12_sheet_149 rfl rfl rfl ?_
        refine wp_goto 49 xi_193 dX12_sheet_152 rfl ?_
        exact Wp.more (by simp [xMore, Value.category]) (ih a0 a1 a2 a4 w21 w22 w23 (a8 + 1) h24 _ H KE)
      clear H
      have H := G42
      clear G42
      refine wp_if_ge 69 xi_193 dX12_sheet_63 rfl (fun c4 => ?_) (fun c4 => ?_)
      · rw [if_pos c4] at H
        refine wp_iload_n xi_193 dX12_sheet_69 rfl ?_
        obtain ⟨w28, G41, H⟩ := Option.bind_eq_some_iff.mp H
        have K29 : Wp (d + 1) 193 92 [some (.ref a0), some (.int a1), some (.int a2), none, some (.int a4), some (.int a5), some (.int a6), some (.int a7), some (.int a8), none] [.int w28] h Q := by
          refine wp_istore [some (.ref a0), some (.int a1), some (.int a2), none, some (.int a4), some (.int a5), some (.int a6), some (.int a7), some (.int a8), some (.int w28)] xi_193 dX12_sheet_92 rfl ?_
          refine wp_aload_n xi_193 dX12_sheet_94 rfl ?_
          obtain ⟨x31, gx31, H⟩ := Option.bind_eq_some_iff.mp H
          refine wq_getfr xi_193 dX12_sheet_95 xf_12_24 gx31 ?_
          refine wp_iload xi_193 dX12_sheet_98 rfl ?_
          refine wp_iload_n xi_193 dX12_sheet_100 rfl ?_
          refine wp_iconst 3 xi_193 dX12_sheet_101 rfl ?_
          obtain ⟨w34, G40, H⟩ := Option.bind_eq_some_iff.mp H
          have K35 : Wp (d + 1) 193 126 [some (.ref a0), some (.int a1), some (.int a2), none, some (.int a4), some (.int a5), some (.int a6), some (.int a7), some (.int a8), some (.int w28)] [.int w34, .int a8, .ref x31] h Q := by
            obtain ⟨h37, gh37, H⟩ := Option.bind_eq_some_iff.mp H
            refine wq_iastore xi_193 dX12_sheet_126 gh37 ?_
            refine wp_iload xi_193 dX12_sheet_127 rfl ?_
            refine wp_aload_n xi_193 dX12_sheet_129 rfl ?_
            obtain ⟨x38, gx38, H⟩ := Option.bind_eq_some_iff.mp H
            refine wq_getfr xi_193 dX12_sheet_130 xf_12_24 gx38 ?_
            refine wp_iload xi_193 dX12_sheet_133 rfl ?_
            obtain ⟨x39, gx39, H⟩ := Option.bind_eq_some_iff.mp H
            refine wq_iaload xi_193 dX12_sheet_135 gx39 ?_
            refine wp_iadd xi_193 dX12_sheet_136 ?_
            refine wp_istore [some (.ref a0), some (.int a1), some (.int a2), none, some (.int a4), some (.int (a5 + x39)), some (.int a6), some (.int a7), some (.int a8), some (.int w28)] xi_193 dX12_sheet_137 rfl ?_
            refine wp_iload xi_193 dX12_sheet_139 rfl ?_
            refine wp_iload xi_193 dX12_sheet_141 rfl ?_
            refine wp_iadd xi_193 dX12_sheet_143 ?_
            refine wp_istore [some (.ref a0), some (.int a1), some (.int a2), none, some (.int a4), some (.int (a5 + x39)), some (.int (a6 + a4)), some (.int a7), some (.int a8), some (.int w28)] xi_193 dX12_sheet_144 rfl ?_
            refine wp_iinc (a7 + 1) [some (.ref a0), some (.int a1), some (.int a2), none, some (.int a4), some (.int (a5 + x39)), some (.int (a6 + a4)), some (.int (a7 + 1)), some (.int a8), some (.int w28)] xi_193 dX12_sheet_146 rfl rfl rfl ?_
            simp only [Option.some.injEq, Prod.mk.injEq] at H
            obtain ⟨rfl, rfl, rfl, rfl⟩ := H
            exact Wp.more (by simp [xMore, Value.category]) K25
          clear H
          have H := G40
          clear G40
          refine wp_icmp_eq 111 xi_193 dX12_sheet_102 rfl (fun c32 => ?_) (fun c32 => ?_)
          · rw [if_pos c32] at H
            refine wp_iconst 0 xi_193 dX12_sheet_111 rfl ?_
            refine wp_goto 126 xi_193 dX12_sheet_112 rfl ?_
            obtain rfl := Option.some.inj H
            exact Wp.more (by simp [xMore, Value.category]) K35
          · rw [if_neg c32] at H
            refine wp_iload xi_193 dX12_sheet_105 rfl ?_
            refine wp_iload_n xi_193 dX12_sheet_107 rfl ?_
            refine wp_icmp_lt 115 xi_193 dX12_sheet_108 rfl (fun c36 => ?_) (fun c36 => ?_)
            · rw [if_pos c36] at H
              refine wp_iconst 0 xi_193 dX12_sheet_115 rfl ?_
              refine wp_bipush 9 xi_193 dX12_sheet_116 rfl ?_
              refine wp_iload xi_193 dX12_sheet_118 rfl ?_
              refine wq_min xi_193 dX12_sheet_120 xm_12_152 (Nat.le_of_ble_eq_true rfl) ?_
              refine wq_max xi_193 dX12_sheet_123 xm_12_224 (Nat.le_of_ble_eq_true rfl) ?_
              obtain rfl := Option.some.inj H
              exact Wp.more (by simp [xMore, Value.category]) K35
            · rw [if_neg c36] at H
              refine wp_iconst 0 xi_193 dX12_sheet_111 rfl ?_
              refine wp_goto 126 xi_193 dX12_sheet_112 rfl ?_
              obtain rfl := Option.some.inj H
              exact Wp.more (by simp [xMore, Value.category]) K35
        clear H
        have H := G41
        clear G41
        refine wp_if_ne 79 xi_193 dX12_sheet_70 rfl (fun c26 => ?_) (fun c26 => ?_)
        · rw [if_neg c26] at H
          refine wp_iload_n xi_193 dX12_sheet_79 rfl ?_
          refine wp_iconst 1 xi_193 dX12_sheet_80 rfl ?_
          refine wp_icmp_ne 90 xi_193 dX12_sheet_81 rfl (fun c30 => ?_) (fun c30 => ?_)
          · rw [if_neg c30] at H
            refine wp_iload xi_193 dX12_sheet_90 rfl ?_
            obtain rfl := Option.some.inj H
            exact Wp.more (by simp [xMore, Value.category]) K29
          · rw [if_pos c30] at H
            refine wp_iload xi_193 dX12_sheet_84 rfl ?_
            refine wp_i2s xi_193 dX12_sheet_86 ?_
            refine wp_goto 92 xi_193 dX12_sheet_87 rfl ?_
            obtain rfl := Option.some.inj H
            exact Wp.more (by simp [xMore, Value.category]) K29
        · rw [if_pos c26] at H
          refine wp_iload xi_193 dX12_sheet_73 rfl ?_
          refine wp_i2b xi_193 dX12_sheet_75 ?_
          refine wp_goto 92 xi_193 dX12_sheet_76 rfl ?_
          obtain rfl := Option.some.inj H
          exact Wp.more (by simp [xMore, Value.category]) K29
      · rw [if_neg c4] at H
        refine wp_goto 149 xi_193 dX12_sheet_66 rfl ?_
        simp only [Option.some.injEq, Prod.mk.injEq] at H
        obtain ⟨rfl, rfl, rfl, rfl⟩ := H
        exact Wp.more (by simp [xMore, Value.category]) K25
def f_193  (a : Nat) (p0 : Int32) (p1 : Int32) (p2 : Int32) (p3 : Int32) (h : xH) : Option (Int32 × xH) :=
  (pP h a 12 0 (.int 0)).bind fun h1 =>
  (f_162 ((p0 : Int32).toInt64) (0 : Int64) (3 : Int64) h1).bind fun (x3, h2) =>
  (if x3 = 0 then
  some ((-1), h2)
  else
  (if p1 ≤ 48 then
  (if p0 = 3 then
  (f_193_49 100000 a p0 p1 p3 0 p2 0 0 h2).bind fun (w8, h7) =>
  ((if p0 = 3 then
  some ((-3))
  else
  some (w8) : Option (Int32))).bind fun (w12 : Int32) =>
  some (w12, h7)
  else
  (if (0 : Int32) ≤ p1 then
  (f_193_49 100000 a p0 p1 p3 0 p2 0 0 h2).bind fun (w17, h16) =>
  ((if p0 = 3 then
  some ((-3))
  else
  some (w17) : Option (Int32))).bind fun (w21 : Int32) =>
  some (w21, h16)
  else
  some ((-2), h2)))
  else
  some ((-1), h2)))
set_option maxHeartbeats 4000000 in
theorem e_193 (d : Nat) (Q : Option Value → xH → Prop)  {h : xH} {a : Nat} {p0 : Int32} {p1 : Int32} {p2 : Int32} {p3 : Int32} {x : Int32} {h1 : xH} (H : f_193  a p0 p1 p2 p3 h = some (x, h1)) (hq : Q (some (.int x)) h1) : Wp (d + 1) 193 0 [some (.ref a), some (.int p0), some (.int p1), some (.int p2), some (.int p3), none, none, none, none, none] [] h Q := by
  unfold f_193 at H
  refine wp_aload_n xi_193 dX12_sheet_0 rfl ?_
  refine wp_iconst 0 xi_193 dX12_sheet_1 rfl ?_
  obtain ⟨h1, gh1, H⟩ := Option.bind_eq_some_iff.mp H
  refine wq_putf xi_193 dX12_sheet_2 xf_12_3 (Or.inl rfl) gh1 ?_
  refine wp_iload_n xi_193 dX12_sheet_5 rfl ?_
  refine wp_i2l xi_193 dX12_sheet_6 ?_
  refine wp_lconst 0 xi_193 dX12_sheet_7 rfl ?_
  refine wp_ldc2 xi_193 dX12_sheet_8 xl_12_274 ?_
  obtain ⟨⟨x3, h2⟩, gh2, H⟩ := Option.bind_eq_some_iff.mp H
  dsimp only at H
  refine wq_callS (as := [.long ((p0 : Int32).toInt64), .long (0 : Int64), .long (3 : Int64)]) (r := []) (v1 := (some (.int x3))) xi_193 xi_162 dX12_sheet_11 xm_12_135 rfl (Nat.le_of_ble_eq_true rfl) ⟨(Nat.le_of_ble_eq_true rfl), (Nat.le_of_ble_eq_true rfl)⟩ rfl nofun (e_162 d _ gh2 ⟨rfl, rfl⟩) ?_
  change Wp _ _ _ _ [.int x3] _ _
  refine wp_if_eq 23 xi_193 dX12_sheet_14 rfl (fun c4 => ?_) (fun c4 => ?_)
  · rw [if_pos c4] at H
    refine wp_iconst (-1) xi_193 dX12_sheet_23 rfl ?_
    obtain ⟨rfl, rfl⟩ := oi2 H
    exact wp_iret xi_193 dX12_sheet_24 hq
  · rw [if_neg c4] at H
    refine wp_iload_n xi_193 dX12_sheet_17 rfl ?_
    refine wp_bipush 48 xi_193 dX12_sheet_18 rfl ?_
    refine wp_icmp_le 25 xi_193 dX12_sheet_20 rfl (fun c5 => ?_) (fun c5 => ?_)
    · rw [if_pos c5] at H
      refine wp_iload_n xi_193 dX12_sheet_25 rfl ?_
      refine wp_iconst 3 xi_193 dX12_sheet_26 rfl ?_
      refine wp_icmp_eq 37 xi_193 dX12_sheet_27 rfl (fun c6 => ?_) (fun c6 => ?_)
      · rw [if_pos c6] at H
        refine wp_iconst 0 xi_193 dX12_sheet_37 rfl ?_
        refine wp_istore [some (.ref a), some (.int p0), some (.int p1), some (.int p2), some (.int p3), some (.int 0), none, none, none, none] xi_193 dX12_sheet_38 rfl ?_
        refine wp_iload_n xi_193 dX12_sheet_40 rfl ?_
        refine wp_istore [some (.ref a), some (.int p0), some (.int p1), some (.int p2), some (.int p3), some (.int 0), some (.int p2), none, none, none] xi_193 dX12_sheet_41 rfl ?_
        refine wp_iconst 0 xi_193 dX12_sheet_43 rfl ?_
        refine wp_istore [some (.ref a), some (.int p0), some (.int p1), some (.int p2), some (.int p3), some (.int 0), some (.int p2), some (.int 0), none, none] xi_193 dX12_sheet_44 rfl ?_
        refine wp_iconst 0 xi_193 dX12_sheet_46 rfl ?_
        refine wp_istore [some (.ref a), some (.int p0), some (.int p1), some (.int p2), some (.int p3), some (.int 0), some (.int p2), some (.int 0), some (.int 0), none] xi_193 dX12_sheet_47 rfl ?_
        obtain ⟨⟨w8, h7⟩, G9, H⟩ := Option.bind_eq_some_iff.mp H
        dsimp only at H
        refine Wp.more (by simp [xMore, Value.category]) (ef_193_49 d Q  100000 a p0 p1 p3 0 p2 0 0 h2 _ G9 (fun z0 z1 e9 => ?_))
        cases e9
        refine wp_iload_n xi_193 dX12_sheet_155 rfl ?_
        refine wp_iconst 3 xi_193 dX12_sheet_156 rfl ?_
        obtain ⟨w12, G14, H⟩ := Option.bind_eq_some_iff.mp H
        have K13 : Wp (d + 1) 193 167 [none, some (.int p0), none, none, none, some (.int w8), none, none, none, none] [.int w12] h7 Q := by
          obtain ⟨rfl, rfl⟩ := oi2 H
          exact wp_iret xi_193 dX12_sheet_167 hq
        clear H
        have H := G14
        clear G14
        refine wp_icmp_ne 165 xi_193 dX12_sheet_157 rfl (fun c11 => ?_) (fun c11 => ?_)
        · rw [if_neg c11] at H
          refine wp_iload xi_193 dX12_sheet_165 rfl ?_
          obtain rfl := Option.some.inj H
          exact Wp.more (by simp [xMore, Value.category]) K13
        · rw [if_pos c11] at H
          refine wp_bipush (-3) xi_193 dX12_sheet_160 rfl ?_
          refine wp_goto 167 xi_193 dX12_sheet_162 rfl ?_
          obtain rfl := Option.some.inj H
          exact Wp.more (by simp [xMore, Value.category]) K13
      · rw [if_neg c6] at H
        refine wp_iload_n xi_193 dX12_sheet_30 rfl ?_
        refine wp_if_ge 37 xi_193 dX12_sheet_31 rfl (fun c15 => ?_) (fun c15 => ?_)
        · rw [if_pos c15] at H
          refine wp_iconst 0 xi_193 dX12_sheet_37 rfl ?_
          refine wp_istore [some (.ref a), some (.int p0), some (.int p1), some (.int p2), some (.int p3), some (.int 0), none, none, none, none] xi_193 dX12_sheet_38 rfl ?_
          refine wp_iload_n xi_193 dX12_sheet_40 rfl ?_
          refine wp_istore [some (.ref a), some (.int p0), some (.int p1), some (.int p2), some (.int p3), some (.int 0), some (.int p2), none, none, none] xi_193 dX12_sheet_41 rfl ?_
          refine wp_iconst 0 xi_193 dX12_sheet_43 rfl ?_
          refine wp_istore [some (.ref a), some (.int p0), some (.int p1), some (.int p2), some (.int p3), some (.int 0), some (.int p2), some (.int 0), none, none] xi_193 dX12_sheet_44 rfl ?_
          refine wp_iconst 0 xi_193 dX12_sheet_46 rfl ?_
          refine wp_istore [some (.ref a), some (.int p0), some (.int p1), some (.int p2), some (.int p3), some (.int 0), some (.int p2), some (.int 0), some (.int 0), none] xi_193 dX12_sheet_47 rfl ?_
          obtain ⟨⟨w17, h16⟩, G18, H⟩ := Option.bind_eq_some_iff.mp H
          dsimp only at H
          refine Wp.more (by simp [xMore, Value.category]) (ef_193_49 d Q  100000 a p0 p1 p3 0 p2 0 0 h2 _ G18 (fun z0 z1 e9 => ?_))
          cases e9
          refine wp_iload_n xi_193 dX12_sheet_155 rfl ?_
          refine wp_iconst 3 xi_193 dX12_sheet_156 rfl ?_
          obtain ⟨w21, G23, H⟩ := Option.bind_eq_some_iff.mp H
          have K22 : Wp (d + 1) 193 167 [none, some (.int p0), none, none, none, some (.int w17), none, none, none, none] [.int w21] h16 Q := by
            obtain ⟨rfl, rfl⟩ := oi2 H
            exact wp_iret xi_193 dX12_sheet_167 hq
          clear H
          have H := G23
          clear G23
          refine wp_icmp_ne 165 xi_193 dX12_sheet_157 rfl (fun c20 => ?_) (fun c20 => ?_)
          · rw [if_neg c20] at H
            refine wp_iload xi_193 dX12_sheet_165 rfl ?_
            obtain rfl := Option.some.inj H
            exact Wp.more (by simp [xMore, Value.category]) K22
          · rw [if_pos c20] at H
            refine wp_bipush (-3) xi_193 dX12_sheet_160 rfl ?_
            refine wp_goto 167 xi_193 dX12_sheet_162 rfl ?_
            obtain rfl := Option.some.inj H
            exact Wp.more (by simp [xMore, Value.category]) K22
        · rw [if_neg c15] at H
          refine wp_bipush (-2) xi_193 dX12_sheet_34 rfl ?_
          obtain ⟨rfl, rfl⟩ := oi2 H
          exact wp_iret xi_193 dX12_sheet_36 hq
    · rw [if_neg c5] at H
      refine wp_iconst (-1) xi_193 dX12_sheet_23 rfl ?_
      obtain ⟨rfl, rfl⟩ := oi2 H
      exact wp_iret xi_193 dX12_sheet_24 hq
/- FelledHasLostModel.table(II)Z -/
def f_194  (a : Nat) (p0 : Int32) (p1 : Int32) (h : xH) : Option (Int32 × xH) :=
  (pP h a 12 0 (.int 0)).bind fun h1 =>
  (f_162 ((p0 : Int32).toInt64) (0 : Int64) (1 : Int64) h1).bind fun (x3, h2) =>
  (if x3 = 0 then
  pZ 0 h2
  else
  (f_162 ((p1 : Int32).toInt64) (-9 : Int64) (9 : Int64) h2).bind fun (x6, h5) =>
  (if x6 = 0 then
  pZ 0 h5
  else
  ((if p0 = 0 then
  some (p1)
  else
  (pFi h5 a 12 7).bind fun x12 =>
  some (x12) : Option (Int32))).bind fun (w10 : Int32) =>
  (pP h5 a 12 7 (.int w10)).bind fun h13 =>
  ((if p0 = 1 then
  some (p1)
  else
  (pFi h13 a 12 8).bind fun x18 =>
  some (x18) : Option (Int32))).bind fun (w16 : Int32) =>
  (pP h13 a 12 8 (.int w16)).bind fun h19 =>
  pZ 1 h19))
set_option maxHeartbeats 4000000 in
theorem e_194 (d : Nat) (Q : Option Value → xH → Prop)  {h : xH} {a : Nat} {p0 : Int32} {p1 : Int32} {x : Int32} {h1 : xH} (H : f_194  a p0 p1 h = some (x, h1)) (hq : Q (some (.int x)) h1) : Wp (d + 1) 194 0 [some (.ref a), some (.int p0), some (.int p1)] [] h Q := by
  unfold f_194 at H
  refine wp_aload_n xi_194 dX12_table_0 rfl ?_
  refine wp_iconst 0 xi_194 dX12_table_1 rfl ?_
  obtain ⟨h1, gh1, H⟩ := Option.bind_eq_some_iff.mp H
  refine wq_putf xi_194 dX12_table_2 xf_12_3 (Or.inl rfl) gh1 ?_
  refine wp_iload_n xi_194 dX12_table_5 rfl ?_
  refine wp_i2l xi_194 dX12_table_6 ?_
  refine wp_lconst 0 xi_194 dX12_table_7 rfl ?_
  refine wp_lconst 1 xi_194 dX12_table_8 rfl ?_
  obtain ⟨⟨x3, h2⟩, gh2, H⟩ := Option.bind_eq_some_iff.mp H
  dsimp only at H
  refine wq_callS (as := [.long ((p0 : Int32).toInt64), .long (0 : Int64), .long (1 : Int64)]) (r := []) (v1 := (some (.int x3))) xi_194 xi_162 dX12_table_9 xm_12_135 rfl (Nat.le_of_ble_eq_true rfl) ⟨(Nat.le_of_ble_eq_true rfl), (Nat.le_of_ble_eq_true rfl)⟩ rfl nofun (e_162 d _ gh2 ⟨rfl, rfl⟩) ?_
  change Wp _ _ _ _ [.int x3] _ _
  refine wp_if_eq 29 xi_194 dX12_table_12 rfl (fun c4 => ?_) (fun c4 => ?_)
  · rw [if_pos c4] at H
    refine wp_iconst 0 xi_194 dX12_table_29 rfl ?_
    obtain ⟨gz, hz⟩ := pZ_ok H
    obtain ⟨rfl, rfl⟩ := Prod.mk.inj hz
    exact wp_zret xi_194 dX12_table_30 gz hq
  · rw [if_neg c4] at H
    refine wp_iload_n xi_194 dX12_table_15 rfl ?_
    refine wp_i2l xi_194 dX12_table_16 ?_
    refine wp_ldc2 xi_194 dX12_table_17 xl_12_276 ?_
    refine wp_ldc2 xi_194 dX12_table_20 xl_12_272 ?_
    obtain ⟨⟨x6, h5⟩, gh5, H⟩ := Option.bind_eq_some_iff.mp H
    dsimp only at H
    refine wq_callS (as := [.long ((p1 : Int32).toInt64), .long (-9 : Int64), .long (9 : Int64)]) (r := []) (v1 := (some (.int x6))) xi_194 xi_162 dX12_table_23 xm_12_135 rfl (Nat.le_of_ble_eq_true rfl) ⟨(Nat.le_of_ble_eq_true rfl), (Nat.le_of_ble_eq_true rfl)⟩ rfl nofun (e_162 d _ gh5 ⟨rfl, rfl⟩) ?_
    change Wp _ _ _ _ [.int x6] _ _
    refine wp_if_ne 31 xi_194 dX12_table_26 rfl (fun c7 => ?_) (fun c7 => ?_)
    · rw [if_neg c7] at H
      refine wp_aload_n xi_194 dX12_table_31 rfl ?_
      refine wp_iload_n xi_194 dX12_table_32 rfl ?_
      obtain ⟨w10, G21, H⟩ := Option.bind_eq_some_iff.mp H
      have K11 : Wp (d + 1) 194 44 [some (.ref a), some (.int p0), some (.int p1)] [.int w10, .ref a] h5 Q := by
        obtain ⟨h13, gh13, H⟩ := Option.bind_eq_some_iff.mp H
        refine wq_putf xi_194 dX12_table_44 xf_12_234 (Or.inl rfl) gh13 ?_
        refine wp_aload_n xi_194 dX12_table_47 rfl ?_
        refine wp_iload_n xi_194 dX12_table_48 rfl ?_
        refine wp_iconst 1 xi_194 dX12_table_49 rfl ?_
        obtain ⟨w16, G20, H⟩ := Option.bind_eq_some_iff.mp H
        have K17 : Wp (d + 1) 194 61 [some (.ref a), some (.int p0), some (.int p1)] [.int w16, .ref a] h13 Q := by
          obtain ⟨h19, gh19, H⟩ := Option.bind_eq_some_iff.mp H
          refine wq_putf xi_194 dX12_table_61 xf_12_237 (Or.inl rfl) gh19 ?_
          refine wp_iconst 1 xi_194 dX12_table_64 rfl ?_
          obtain ⟨gz, hz⟩ := pZ_ok H
          obtain ⟨rfl, rfl⟩ := Prod.mk.inj hz
          exact wp_zret xi_194 dX12_table_65 gz hq
        clear H
        have H := G20
        clear G20
        refine wp_icmp_ne 57 xi_194 dX12_table_50 rfl (fun c14 => ?_) (fun c14 => ?_)
        · rw [if_neg c14] at H
          refine wp_aload_n xi_194 dX12_table_57 rfl ?_
          obtain ⟨x18, gx18, H⟩ := Option.bind_eq_some_iff.mp H
          refine wq_getfi xi_194 dX12_table_58 xf_12_237 gx18 ?_
          obtain rfl := Option.some.inj H
          exact Wp.more (by simp [xMore, Value.category]) K17
        · rw [if_pos c14] at H
          refine wp_iload_n xi_194 dX12_table_53 rfl ?_
          refine wp_goto 61 xi_194 dX12_table_54 rfl ?_
          obtain rfl := Option.some.inj H
          exact Wp.more (by simp [xMore, Value.category]) K17
      clear H
      have H := G21
      clear G21
      refine wp_if_ne 40 xi_194 dX12_table_33 rfl (fun c8 => ?_) (fun c8 => ?_)
      · rw [if_neg c8] at H
        refine wp_aload_n xi_194 dX12_table_40 rfl ?_
        obtain ⟨x12, gx12, H⟩ := Option.bind_eq_some_iff.mp H
        refine wq_getfi xi_194 dX12_table_41 xf_12_234 gx12 ?_
        obtain rfl := Option.some.inj H
        exact Wp.more (by simp [xMore, Value.category]) K11
      · rw [if_pos c8] at H
        refine wp_iload_n xi_194 dX12_table_36 rfl ?_
        refine wp_goto 44 xi_194 dX12_table_37 rfl ?_
        obtain rfl := Option.some.inj H
        exact Wp.more (by simp [xMore, Value.category]) K11
    · rw [if_pos c7] at H
      refine wp_iconst 0 xi_194 dX12_table_29 rfl ?_
      obtain ⟨gz, hz⟩ := pZ_ok H
      obtain ⟨rfl, rfl⟩ := Prod.mk.inj hz
      exact wp_zret xi_194 dX12_table_30 gz hq
/- FelledHasLostModel.swell(II)I -/
def f_195_36  : Nat → Nat → Int32 → Int32 → Int32 → Int32 → xH → Option (Int32 × xH)
  | 0, _, _, _, _, _, _ => none
  | n + 1, a0, a1, a2, a3, a4, h =>
  (if ((3 * a1) + 3) ≤ a4 then
  some (a3, h)
  else
  (pFr h a0 12 3).bind fun x2 =>
  (pAi h x2 a4).bind fun x3 =>
  (pFr h a0 12 3).bind fun x4 =>
  ((if (0 : Int32) ≤ x3 then
  some ((pMax 0 (pMin 9 (x3 + a2))))
  else
  some (x3) : Option (Int32))).bind fun (w6 : Int32) =>
  (pSi h x4 a4 w6).bind fun h8 =>
  (pFr h8 a0 12 3).bind fun x9 =>
  (pAi h8 x9 a4).bind fun x10 =>
  ((if x10 = x3 then
  some (0)
  else
  some (1) : Option (Int32))).bind fun (w12 : Int32) =>
  (f_163 w12 h8).bind fun (x15, h14) =>
  f_195_36 n a0 a1 a2 (a3 + x15) (a4 + 1) h14)
theorem ef_195_36 (d : Nat) (Q : Option Value → xH → Prop)  : ∀ (n : Nat) (a0 : Nat) (a1 : Int32) (a2 : Int32) (a3 : Int32) (a4 : Int32) (h : xH) (r : Int32 × xH), f_195_36 n a0 a1 a2 a3 a4 h = some r → (∀ (w3 : Int32) (h1 : xH), r = (w3, h1) → Wp (d + 2) 195 114 [none, none, none, some (.int w3), none, none] [] h1 Q) → Wp (d + 2) 195 36 [some (.ref a0), some (.int a1), some (.int a2), some (.int a3), some (.int a4), none] [] h Q := by
  intro n
  induction n with
  | zero =>
    intro a0 a1 a2 a3 a4 h r H
    cases H
  | succ n ih =>
    intro a0 a1 a2 a3 a4 h r H KE
    unfold f_195_36 at H
    refine wp_iload xi_195 dX12_swell_36 rfl ?_
    refine wp_iconst 3 xi_195 dX12_swell_38 rfl ?_
    refine wp_iload_n xi_195 dX12_swell_39 rfl ?_
    refine wp_imul xi_195 dX12_swell_40 ?_
    refine wp_iconst 3 xi_195 dX12_swell_41 rfl ?_
    refine wp_iadd xi_195 dX12_swell_42 ?_
    refine wp_icmp_ge 114 xi_195 dX12_swell_43 rfl (fun c1 => ?_) (fun c1 => ?_)
    · rw [if_pos c1] at H
      obtain rfl := Option.some.inj H
      exact Wp.more (by simp [xMore, Value.category]) (KE a3 h rfl)
    · rw [if_neg c1] at H
      refine wp_aload_n xi_195 dX12_swell_46 rfl ?_
      obtain ⟨x2, gx2, H⟩ := Option.bind_eq_some_iff.mp H
      refine wq_getfr xi_195 dX12_swell_47 xf_12_24 gx2 ?_
      refine wp_iload xi_195 dX12_swell_50 rfl ?_
      obtain ⟨x3, gx3, H⟩ := Option.bind_eq_some_iff.mp H
      refine wq_iaload xi_195 dX12_swell_52 gx3 ?_
      refine wp_istore [some (.ref a0), some (.int a1), some (.int a2), some (.int a3), some (.int a4), some (.int x3)] xi_195 dX12_swell_53 rfl ?_
      refine wp_aload_n xi_195 dX12_swell_55 rfl ?_
      obtain ⟨x4, gx4, H⟩ := Option.bind_eq_some_iff.mp H
      refine wq_getfr xi_195 dX12_swell_56 xf_12_24 gx4 ?_
      refine wp_iload xi_195 dX12_swell_59 rfl ?_
      refine wp_iload xi_195 dX12_swell_61 rfl ?_
      obtain ⟨w6, G17, H⟩ := Option.bind_eq_some_iff.mp H
      have K7 : Wp (d + 2) 195 84 [some (.ref a0), some (.int a1), some (.int a2), some (.int a3), some (.int a4), some (.int x3)] [.int w6, .int a4, .ref x4] h Q := by
        obtain ⟨h8, gh8, H⟩ := Option.bind_eq_some_iff.mp H
        refine wq_iastore xi_195 dX12_swell_84 gh8 ?_
        refine wp_iload_n xi_195 dX12_swell_85 rfl ?_
        refine wp_aload_n xi_195 dX12_swell_86 rfl ?_
        obtain ⟨x9, gx9, H⟩ := Option.bind_eq_some_iff.mp H
        refine wq_getfr xi_195 dX12_swell_87 xf_12_24 gx9 ?_
        refine wp_iload xi_195 dX12_swell_90 rfl ?_
        obtain ⟨x10, gx10, H⟩ := Option.bind_eq_some_iff.mp H
        refine wq_iaload xi_195 dX12_swell_92 gx10 ?_
        refine wp_iload xi_195 dX12_swell_93 rfl ?_
        obtain ⟨w12, G16, H⟩ := Option.bind_eq_some_iff.mp H
        have K13 : Wp (d + 2) 195 103 [some (.ref a0), some (.int a1), some (.int a2), some (.int a3), some (.int a4), some (.int x3)] [.int w12, .int a3] h8 Q := by
          obtain ⟨⟨x15, h14⟩, gh14, H⟩ := Option.bind_eq_some_iff.mp H
          dsimp only at H
          refine wq_callS (as := [.int w12]) (r := [.int a3]) (v1 := (some (.int x15))) xi_195 xi_163 dX12_swell_103 xm_12_139 rfl (Nat.le_of_ble_eq_true rfl) ⟨(Nat.le_of_ble_eq_true rfl), (Nat.le_of_ble_eq_true rfl)⟩ rfl nofun (e_163 (d + 1) _ gh14 ⟨rfl, rfl⟩) ?_
          change Wp _ _ _ _ [.int x15, .int a3] _ _
          refine wp_iadd xi_195 dX12_swell_106 ?_
          refine wp_istore_n [some (.ref a0), some (.int a1), some (.int a2), some (.int (a3 + x15)), some (.int a4), some (.int x3)] xi_195 dX12_swell_107 rfl ?_
          refine wp_iinc (a4 + 1) [some (.ref a0), some (.int a1), some (.int a2), some (.int (a3 + x15)), some (.int (a4 + 1)), some (.int x3)] xi_195 dX12_swell_108 rfl rfl rfl ?_
          refine wp_goto 36 xi_195 dX12_swell_111 rfl ?_
          exact Wp.more (by simp [xMore, Value.category]) (ih a0 a1 a2 (a3 + x15) (a4 + 1) h14 _ H KE)
        clear H
        have H := G16
        clear G16
        refine wp_icmp_eq 102 xi_195 dX12_swell_95 rfl (fun c11 => ?_) (fun c11 => ?_)
        · rw [if_pos c11] at H
          refine wp_iconst 0 xi_195 dX12_swell_102 rfl ?_
          obtain rfl := Option.some.inj H
          exact Wp.more (by simp [xMore, Value.category]) K13
        · rw [if_neg c11] at H
          refine wp_iconst 1 xi_195 dX12_swell_98 rfl ?_
          refine wp_goto 103 xi_195 dX12_swell_99 rfl ?_
          obtain rfl := Option.some.inj H
          exact Wp.more (by simp [xMore, Value.category]) K13
      clear H
      have H := G17
      clear G17
      refine wp_if_ge 71 xi_195 dX12_swell_63 rfl (fun c5 => ?_) (fun c5 => ?_)
      · rw [if_pos c5] at H
        refine wp_iconst 0 xi_195 dX12_swell_71 rfl ?_
        refine wp_bipush 9 xi_195 dX12_swell_72 rfl ?_
        refine wp_iload xi_195 dX12_swell_74 rfl ?_
        refine wp_iload_n xi_195 dX12_swell_76 rfl ?_
        refine wp_iadd xi_195 dX12_swell_77 ?_
        refine wq_min xi_195 dX12_swell_78 xm_12_152 (Nat.le_of_ble_eq_true rfl) ?_
        refine wq_max xi_195 dX12_swell_81 xm_12_224 (Nat.le_of_ble_eq_true rfl) ?_
        obtain rfl := Option.some.inj H
        exact Wp.more (by simp [xMore, Value.category]) K7
      · rw [if_neg c5] at H
        refine wp_iload xi_195 dX12_swell_66 rfl ?_
        refine wp_goto 84 xi_195 dX12_swell_68 rfl ?_
        obtain rfl := Option.some.inj H
        exact Wp.more (by simp [xMore, Value.category]) K7
def f_195  (a : Nat) (p0 : Int32) (p1 : Int32) (h : xH) : Option (Int32 × xH) :=
  (pP h a 12 0 (.int 0)).bind fun h1 =>
  (pG (pIs h1 a 12)).bind fun _ =>
  (f_190 a p0 h1).bind fun (x4, h3) =>
  (if x4 = 0 then
  some ((-1), h3)
  else
  (f_162 ((p1 : Int32).toInt64) (-9 : Int64) (9 : Int64) h3).bind fun (x7, h6) =>
  (if x7 = 0 then
  some ((-1), h6)
  else
  (f_195_36 100000 a p0 p1 0 (3 * p0) h6).bind fun (w10, h9) =>
  some (w10, h9)))
set_option maxHeartbeats 4000000 in
theorem e_195 (d : Nat) (Q : Option Value → xH → Prop)  {h : xH} {a : Nat} {p0 : Int32} {p1 : Int32} {x : Int32} {h1 : xH} (H : f_195  a p0 p1 h = some (x, h1)) (hq : Q (some (.int x)) h1) : Wp (d + 2) 195 0 [some (.ref a), some (.int p0), some (.int p1), none, none, none] [] h Q := by
  unfold f_195 at H
  refine wp_aload_n xi_195 dX12_swell_0 rfl ?_
  refine wp_iconst 0 xi_195 dX12_swell_1 rfl ?_
  obtain ⟨h1, gh1, H⟩ := Option.bind_eq_some_iff.mp H
  refine wq_putf xi_195 dX12_swell_2 xf_12_3 (Or.inl rfl) gh1 ?_
  refine wp_aload_n xi_195 dX12_swell_5 rfl ?_
  refine wp_iload_n xi_195 dX12_swell_6 rfl ?_
  obtain ⟨u2, gu2, H⟩ := Option.bind_eq_some_iff.mp H
  obtain ⟨⟨x4, h3⟩, gh3, H⟩ := Option.bind_eq_some_iff.mp H
  dsimp only at H
  refine wq_callV (a := a) (as := [.int p0]) (r := []) (v1 := (some (.int x4))) xi_195 xi_190 dX12_swell_7 xm_12_267 rfl (Nat.le_of_ble_eq_true rfl) (pG_ok gu2) ⟨(Nat.le_of_ble_eq_true rfl), (Nat.le_of_ble_eq_true rfl)⟩ rfl nofun (e_190 d _ gh3 ⟨rfl, rfl⟩) ?_
  change Wp _ _ _ _ [.int x4] _ _
  refine wp_if_eq 27 xi_195 dX12_swell_10 rfl (fun c5 => ?_) (fun c5 => ?_)
  · rw [if_pos c5] at H
    refine wp_iconst (-1) xi_195 dX12_swell_27 rfl ?_
    obtain ⟨rfl, rfl⟩ := oi2 H
    exact wp_iret xi_195 dX12_swell_28 hq
  · rw [if_neg c5] at H
    refine wp_iload_n xi_195 dX12_swell_13 rfl ?_
    refine wp_i2l xi_195 dX12_swell_14 ?_
    refine wp_ldc2 xi_195 dX12_swell_15 xl_12_276 ?_
    refine wp_ldc2 xi_195 dX12_swell_18 xl_12_272 ?_
    obtain ⟨⟨x7, h6⟩, gh6, H⟩ := Option.bind_eq_some_iff.mp H
    dsimp only at H
    refine wq_callS (as := [.long ((p1 : Int32).toInt64), .long (-9 : Int64), .long (9 : Int64)]) (r := []) (v1 := (some (.int x7))) xi_195 xi_162 dX12_swell_21 xm_12_135 rfl (Nat.le_of_ble_eq_true rfl) ⟨(Nat.le_of_ble_eq_true rfl), (Nat.le_of_ble_eq_true rfl)⟩ rfl nofun (e_162 (d + 1) _ gh6 ⟨rfl, rfl⟩) ?_
    change Wp _ _ _ _ [.int x7] _ _
    refine wp_if_ne 29 xi_195 dX12_swell_24 rfl (fun c8 => ?_) (fun c8 => ?_)
    · rw [if_neg c8] at H
      refine wp_iconst 0 xi_195 dX12_swell_29 rfl ?_
      refine wp_istore_n [some (.ref a), some (.int p0), some (.int p1), some (.int 0), none, none] xi_195 dX12_swell_30 rfl ?_
      refine wp_iconst 3 xi_195 dX12_swell_31 rfl ?_
      refine wp_iload_n xi_195 dX12_swell_32 rfl ?_
      refine wp_imul xi_195 dX12_swell_33 ?_
      refine wp_istore [some (.ref a), some (.int p0), some (.int p1), some (.int 0), some (.int (3 * p0)), none] xi_195 dX12_swell_34 rfl ?_
      obtain ⟨⟨w10, h9⟩, G11, H⟩ := Option.bind_eq_some_iff.mp H
      dsimp only at H
      refine Wp.more (by simp [xMore, Value.category]) (ef_195_36 d Q  100000 a p0 p1 0 (3 * p0) h6 _ G11 (fun z0 z1 e9 => ?_))
      cases e9
      refine wp_iload_n xi_195 dX12_swell_114 rfl ?_
      obtain ⟨rfl, rfl⟩ := oi2 H
      exact wp_iret xi_195 dX12_swell_115 hq
    · rw [if_pos c8] at H
      refine wp_iconst (-1) xi_195 dX12_swell_27 rfl ?_
      obtain ⟨rfl, rfl⟩ := oi2 H
      exact wp_iret xi_195 dX12_swell_28 hq
