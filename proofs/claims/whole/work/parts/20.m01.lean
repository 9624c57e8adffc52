/- FelledHasLost$Rule.apply(III)I -/
def f_66  (p0 : Int32) (p1 : Int32) (p2 : Int32) (h : xH) : Option (Int32 × xH) :=
  (if p0 = 42 then
  some ((p1 * p2), h)
  else
  if p0 = 43 then
  some ((p1 + p2), h)
  else
  if p0 = 45 then
  some ((p1 - p2), h)
  else
  if p0 = 47 then
  ((if p2 = 0 then
  some (0)
  else
  (pDiv p1 p2).bind fun x11 =>
  some (x11) : Option (Int32))).bind fun (w9 : Int32) =>
  some (w9, h)
  else
  if p0 = 60 then
  ((if p2 ≤ p1 then
  some (0)
  else
  some (1) : Option (Int32))).bind fun (w14 : Int32) =>
  some (w14, h)
  else
  if p0 = 62 then
  ((if p1 ≤ p2 then
  some (0)
  else
  some (1) : Option (Int32))).bind fun (w18 : Int32) =>
  some (w18, h)
  else
  ((if p1 = p2 then
  some (1)
  else
  some (0) : Option (Int32))).bind fun (w22 : Int32) =>
  some (w22, h))
set_option maxHeartbeats 4000000 in
theorem e_66 (d : Nat) (Q : Option Value → xH → Prop)  {h : xH} {p0 : Int32} {p1 : Int32} {p2 : Int32} {x : Int32} {h1 : xH} (H : f_66  p0 p1 p2 h = some (x, h1)) (hq : Q (some (.int x)) h1) : Wp (d + 0) 66 0 [some (.int p0), some (.int p1), some (.int p2)] [] h Q := by
  unfold f_66 at H
  refine wp_iload_n xi_66 dX6_apply_0 rfl ?_
  by_cases c1 : p0 = 42
  · rw [if_pos c1] at H
    refine Wp.pure (p2 := 68) (ls2 := [some (.int p0), some (.int p1), some (.int p2)]) (st2 := []) (h2 := h) xi_66 dX6_apply_1 rfl rfl rfl (by rw [c1]; rfl) ?_
    refine wp_iload_n xi_66 dX6_apply_68 rfl ?_
    refine wp_iload_n xi_66 dX6_apply_69 rfl ?_
    refine wp_imul xi_66 dX6_apply_70 ?_
    obtain ⟨rfl, rfl⟩ := oi2 H
    exact wp_iret xi_66 dX6_apply_71 hq
  · rw [if_neg c1] at H
    by_cases c2 : p0 = 43
    · rw [if_pos c2] at H
      refine Wp.pure (p2 := 60) (ls2 := [some (.int p0), some (.int p1), some (.int p2)]) (st2 := []) (h2 := h) xi_66 dX6_apply_1 rfl rfl rfl (by rw [c2]; rfl) ?_
      refine wp_iload_n xi_66 dX6_apply_60 rfl ?_
      refine wp_iload_n xi_66 dX6_apply_61 rfl ?_
      refine wp_iadd xi_66 dX6_apply_62 ?_
      obtain ⟨rfl, rfl⟩ := oi2 H
      exact wp_iret xi_66 dX6_apply_63 hq
    · rw [if_neg c2] at H
      by_cases c3 : p0 = 45
      · rw [if_pos c3] at H
        refine Wp.pure (p2 := 64) (ls2 := [some (.int p0), some (.int p1), some (.int p2)]) (st2 := []) (h2 := h) xi_66 dX6_apply_1 rfl rfl rfl (by rw [c3]; rfl) ?_
        refine wp_iload_n xi_66 dX6_apply_64 rfl ?_
        refine wp_iload_n xi_66 dX6_apply_65 rfl ?_
        refine wp_isub xi_66 dX6_apply_66 ?_
        obtain ⟨rfl, rfl⟩ := oi2 H
        exact wp_iret xi_66 dX6_apply_67 hq
      · rw [if_neg c3] at H
        by_cases c4 : p0 = 47
        · rw [if_pos c4] at H
          refine Wp.pure (p2 := 72) (ls2 := [some (.int p0), some (.int p1), some (.int p2)]) (st2 := []) (h2 := h) xi_66 dX6_apply_1 rfl rfl rfl (by rw [c4]; rfl) ?_
          refine wp_iload_n xi_66 dX6_apply_72 rfl ?_
          obtain ⟨w9, G12, H⟩ := Option.bind_eq_some_iff.mp H
          have K10 : Wp (d + 0) 66 83 [some (.int p0), some (.int p1), some (.int p2)] [.int w9] h Q := by
            obtain ⟨rfl, rfl⟩ := oi2 H
            exact wp_iret xi_66 dX6_apply_83 hq
          clear H
          have H := G12
          clear G12
          refine wp_if_ne 80 xi_66 dX6_apply_73 rfl (fun c7 => ?_) (fun c7 => ?_)
          · rw [if_neg c7] at H
            refine wp_iload_n xi_66 dX6_apply_80 rfl ?_
            refine wp_iload_n xi_66 dX6_apply_81 rfl ?_
            obtain ⟨x11, gx11, H⟩ := Option.bind_eq_some_iff.mp H
            refine wq_idiv xi_66 dX6_apply_82 gx11 ?_
            obtain rfl := Option.some.inj H
            exact Wp.more (by simp [xMore, Value.category]) K10
          · rw [if_pos c7] at H
            refine wp_iconst 0 xi_66 dX6_apply_76 rfl ?_
            refine wp_goto 83 xi_66 dX6_apply_77 rfl ?_
            obtain rfl := Option.some.inj H
            exact Wp.more (by simp [xMore, Value.category]) K10
        · rw [if_neg c4] at H
          by_cases c5 : p0 = 60
          · rw [if_pos c5] at H
            refine Wp.pure (p2 := 84) (ls2 := [some (.int p0), some (.int p1), some (.int p2)]) (st2 := []) (h2 := h) xi_66 dX6_apply_1 rfl rfl rfl (by rw [c5]; rfl) ?_
            refine wp_iload_n xi_66 dX6_apply_84 rfl ?_
            refine wp_iload_n xi_66 dX6_apply_85 rfl ?_
            obtain ⟨w14, G16, H⟩ := Option.bind_eq_some_iff.mp H
            have K15 : Wp (d + 0) 66 94 [some (.int p0), some (.int p1), some (.int p2)] [.int w14] h Q := by
              obtain ⟨rfl, rfl⟩ := oi2 H
              exact wp_iret xi_66 dX6_apply_94 hq
            clear H
            have H := G16
            clear G16
            refine wp_icmp_ge 93 xi_66 dX6_apply_86 rfl (fun c13 => ?_) (fun c13 => ?_)
            · rw [if_pos c13] at H
              refine wp_iconst 0 xi_66 dX6_apply_93 rfl ?_
              obtain rfl := Option.some.inj H
              exact Wp.more (by simp [xMore, Value.category]) K15
            · rw [if_neg c13] at H
              refine wp_iconst 1 xi_66 dX6_apply_89 rfl ?_
              refine wp_goto 94 xi_66 dX6_apply_90 rfl ?_
              obtain rfl := Option.some.inj H
              exact Wp.more (by simp [xMore, Value.category]) K15
          · rw [if_neg c5] at H
            by_cases c6 : p0 = 62
            · rw [if_pos c6] at H
              refine Wp.pure (p2 := 95) (ls2 := [some (.int p0), some (.int p1), some (.int p2)]) (st2 := []) (h2 := h) xi_66 dX6_apply_1 rfl rfl rfl (by rw [c6]; rfl) ?_
              refine wp_iload_n xi_66 dX6_apply_95 rfl ?_
              refine wp_iload_n xi_66 dX6_apply_96 rfl ?_
              obtain ⟨w18, G20, H⟩ := Option.bind_eq_some_iff.mp H
              have K19 : Wp (d + 0) 66 105 [some (.int p0), some (.int p1), some (.int p2)] [.int w18] h Q := by
                obtain ⟨rfl, rfl⟩ := oi2 H
                exact wp_iret xi_66 dX6_apply_105 hq
              clear H
              have H := G20
              clear G20
              refine wp_icmp_le 104 xi_66 dX6_apply_97 rfl (fun c17 => ?_) (fun c17 => ?_)
              · rw [if_pos c17] at H
                refine wp_iconst 0 xi_66 dX6_apply_104 rfl ?_
                obtain rfl := Option.some.inj H
                exact Wp.more (by simp [xMore, Value.category]) K19
              · rw [if_neg c17] at H
                refine wp_iconst 1 xi_66 dX6_apply_100 rfl ?_
                refine wp_goto 105 xi_66 dX6_apply_101 rfl ?_
                obtain rfl := Option.some.inj H
                exact Wp.more (by simp [xMore, Value.category]) K19
            · rw [if_neg c6] at H
              have ec1 := lv_neT c1 (a := 42) (by decide)
              have ec2 := lv_neT c2 (a := 43) (by decide)
              have ec3 := lv_neT c3 (a := 45) (by decide)
              have ec4 := lv_neT c4 (a := 47) (by decide)
              have ec5 := lv_neT c5 (a := 60) (by decide)
              have ec6 := lv_neT c6 (a := 62) (by decide)
              refine Wp.pure (p2 := 106) (ls2 := [some (.int p0), some (.int p1), some (.int p2)]) (st2 := []) (h2 := h) xi_66 dX6_apply_1 rfl rfl rfl (by simp only [xPure, xJ]; rw [if_pos (by decide)]; simp [Op.lookupswitch.offset_cons, Op.lookupswitch.offset, ec1, Ne.symm ec1, ec2, Ne.symm ec2, ec3, Ne.symm ec3, ec4, Ne.symm ec4, ec5, Ne.symm ec5, ec6, Ne.symm ec6, xNx]) ?_
              refine wp_iload_n xi_66 dX6_apply_106 rfl ?_
              refine wp_iload_n xi_66 dX6_apply_107 rfl ?_
              obtain ⟨w22, G24, H⟩ := Option.bind_eq_some_iff.mp H
              have K23 : Wp (d + 0) 66 116 [some (.int p0), some (.int p1), some (.int p2)] [.int w22] h Q := by
                obtain ⟨rfl, rfl⟩ := oi2 H
                exact wp_iret xi_66 dX6_apply_116 hq
              clear H
              have H := G24
              clear G24
              refine wp_icmp_ne 115 xi_66 dX6_apply_108 rfl (fun c21 => ?_) (fun c21 => ?_)
              · rw [if_neg c21] at H
                refine wp_iconst 0 xi_66 dX6_apply_115 rfl ?_
                obtain rfl := Option.some.inj H
                exact Wp.more (by simp [xMore, Value.category]) K23
              · rw [if_pos c21] at H
                refine wp_iconst 1 xi_66 dX6_apply_111 rfl ?_
                refine wp_goto 116 xi_66 dX6_apply_112 rfl ?_
                obtain rfl := Option.some.inj H
                exact Wp.more (by simp [xMore, Value.category]) K23
/- FelledHasLost$State.isFelled()Z -/
def f_68  (a : Nat) (h : xH) : Option (Int32 × xH) :=
  (pFi h a 7 3).bind fun x1 =>
  ((if x1 = 0 then
  some (0)
  else
  some (1) : Option (Int32))).bind fun (w3 : Int32) =>
  pZ w3 h
set_option maxHeartbeats 4000000 in
theorem e_68 (d : Nat) (Q : Option Value → xH → Prop)  {h : xH} {a : Nat} {x : Int32} {h1 : xH} (H : f_68  a h = some (x, h1)) (hq : Q (some (.int x)) h1) : Wp (d + 0) 68 0 [some (.ref a)] [] h Q := by
  unfold f_68 at H
  refine wp_aload_n xi_68 dX7_isFelled_0 rfl ?_
  obtain ⟨x1, gx1, H⟩ := Option.bind_eq_some_iff.mp H
  refine wq_getfi xi_68 dX7_isFelled_1 xf_7_22 gx1 ?_
  obtain ⟨w3, G5, H⟩ := Option.bind_eq_some_iff.mp H
  have K4 : Wp (d + 0) 68 12 [some (.ref a)] [.int w3] h Q := by
    obtain ⟨gz, hz⟩ := pZ_ok H
    obtain ⟨rfl, rfl⟩ := Prod.mk.inj hz
    exact wp_zret xi_68 dX7_isFelled_12 gz hq
  clear H
  have H := G5
  clear G5
  refine wp_if_eq 11 xi_68 dX7_isFelled_4 rfl (fun c2 => ?_) (fun c2 => ?_)
  · rw [if_pos c2] at H
    refine wp_iconst 0 xi_68 dX7_isFelled_11 rfl ?_
    obtain rfl := Option.some.inj H
    exact Wp.more (by simp [xMore, Value.category]) K4
  · rw [if_neg c2] at H
    refine wp_iconst 1 xi_68 dX7_isFelled_7 rfl ?_
    refine wp_goto 12 xi_68 dX7_isFelled_8 rfl ?_
    obtain rfl := Option.some.inj H
    exact Wp.more (by simp [xMore, Value.category]) K4
/- FelledHasLost$State.begin()V -/
def f_69  (a : Nat) (h : xH) : Option (xH) :=
  (pP h a 7 1 (.int 0)).bind fun h1 =>
  (pP h1 a 7 2 (.int (-1))).bind fun h2 =>
  (pP h2 a 7 3 (.int 0)).bind fun h3 =>
  some h3
set_option maxHeartbeats 4000000 in
theorem e_69 (d : Nat) (Q : Option Value → xH → Prop)  {h : xH} {a : Nat} {h1 : xH} (H : f_69  a h = some h1) (hq : Q none h1) : Wp (d + 0) 69 0 [some (.ref a)] [] h Q := by
  unfold f_69 at H
  refine wp_aload_n xi_69 dX7_begin_0 rfl ?_
  refine wp_iconst 0 xi_69 dX7_begin_1 rfl ?_
  obtain ⟨h1, gh1, H⟩ := Option.bind_eq_some_iff.mp H
  refine wq_putf xi_69 dX7_begin_2 xf_7_25 (Or.inl rfl) gh1 ?_
  refine wp_aload_n xi_69 dX7_begin_5 rfl ?_
  refine wp_iconst (-1) xi_69 dX7_begin_6 rfl ?_
  obtain ⟨h2, gh2, H⟩ := Option.bind_eq_some_iff.mp H
  refine wq_putf xi_69 dX7_begin_7 xf_7_18 (Or.inl rfl) gh2 ?_
  refine wp_aload_n xi_69 dX7_begin_10 rfl ?_
  refine wp_iconst 0 xi_69 dX7_begin_11 rfl ?_
  obtain ⟨h3, gh3, H⟩ := Option.bind_eq_some_iff.mp H
  refine wq_putf xi_69 dX7_begin_12 xf_7_22 (Or.inl rfl) gh3 ?_
  obtain rfl := Option.some.inj H
  exact wp_vret xi_69 dX7_begin_15 hq
/- FelledHasLost$State.fell(III)V -/
def f_70  (a : Nat) (p0 : Int32) (p1 : Int32) (p2 : Int32) (h : xH) : Option (xH) :=
  (pFi h a 7 1).bind fun x1 =>
  (pP h a 7 2 (.int x1)).bind fun h2 =>
  (pP h2 a 7 3 (.int p0)).bind fun h3 =>
  (pP h3 a 7 4 (.int p1)).bind fun h4 =>
  (pP h4 a 7 5 (.int p2)).bind fun h5 =>
  some h5
set_option maxHeartbeats 4000000 in
theorem e_70 (d : Nat) (Q : Option Value → xH → Prop)  {h : xH} {a : Nat} {p0 : Int32} {p1 : Int32} {p2 : Int32} {h1 : xH} (H : f_70  a p0 p1 p2 h = some h1) (hq : Q none h1) : Wp (d + 0) 70 0 [some (.ref a), some (.int p0), some (.int p1), some (.int p2)] [] h Q := by
  unfold f_70 at H
  refine wp_aload_n xi_70 dX7_fell_0 rfl ?_
  refine wp_aload_n xi_70 dX7_fell_1 rfl ?_
  obtain ⟨x1, gx1, H⟩ := Option.bind_eq_some_iff.mp H
  refine wq_getfi xi_70 dX7_fell_2 xf_7_25 gx1 ?_
  obtain ⟨h2, gh2, H⟩ := Option.bind_eq_some_iff.mp H
  refine wq_putf xi_70 dX7_fell_5 xf_7_18 (Or.inl rfl) gh2 ?_
  refine wp_aload_n xi_70 dX7_fell_8 rfl ?_
  refine wp_iload_n xi_70 dX7_fell_9 rfl ?_
  obtain ⟨h3, gh3, H⟩ := Option.bind_eq_some_iff.mp H
  refine wq_putf xi_70 dX7_fell_10 xf_7_22 (Or.inl rfl) gh3 ?_
  refine wp_aload_n xi_70 dX7_fell_13 rfl ?_
  refine wp_iload_n xi_70 dX7_fell_14 rfl ?_
  obtain ⟨h4, gh4, H⟩ := Option.bind_eq_some_iff.mp H
  refine wq_putf xi_70 dX7_fell_15 xf_7_28 (Or.inl rfl) gh4 ?_
  refine wp_aload_n xi_70 dX7_fell_18 rfl ?_
  refine wp_iload_n xi_70 dX7_fell_19 rfl ?_
  obtain ⟨h5, gh5, H⟩ := Option.bind_eq_some_iff.mp H
  refine wq_putf xi_70 dX7_fell_20 xf_7_31 (Or.inl rfl) gh5 ?_
  obtain rfl := Option.some.inj H
  exact wp_vret xi_70 dX7_fell_23 hq
/- FelledHasLost$Text.addFour(I)Z -/
def f_73_14  : Nat → Nat → Int32 → Int32 → xH → Option (xH)
  | 0, _, _, _, _ => none
  | n + 1, a0, a1, a2, h =>
  (if a2 < 0 then
  some (h)
  else
  (pFr h a0 8 0).bind fun x2 =>
  (pFi h a0 8 1).bind fun x3 =>
  (pP h a0 8 1 (.int (x3 + 1))).bind fun h4 =>
  (pSi h4 x2 x3 ((((a1 : Int32).toUInt32 >>> ((a2 : Int32).toUInt32 &&& Int32.toUInt32 31)).toInt32) &&& 255)).bind fun h5 =>
  f_73_14 n a0 a1 (a2 + (-8)) h5)
theorem ef_73_14 (d : Nat) (Q : Option Value → xH → Prop)  : ∀ (n : Nat) (a0 : Nat) (a1 : Int32) (a2 : Int32) (h : xH) (r : xH), f_73_14 n a0 a1 a2 h = some r → (∀  (h1 : xH), r = h1 → Wp (d + 0) 73 47 [none, none, none] [] h1 Q) → Wp (d + 0) 73 14 [some (.ref a0), some (.int a1), some (.int a2)] [] h Q := by
  intro n
  induction n with
  | zero =>
    intro a0 a1 a2 h r H
    cases H
  | succ n ih =>
    intro a0 a1 a2 h r H KE
    unfold f_73_14 at H
    refine wp_iload_n xi_73 dX8_addFour_14 rfl ?_
    refine wp_if_lt 47 xi_73 dX8_addFour_15 rfl (fun c1 => ?_) (fun c1 => ?_)
    · rw [if_pos c1] at H
      obtain rfl := Option.some.inj H
      exact Wp.more (by simp [xMore, Value.category]) (KE  h rfl)
    · rw [if_neg c1] at H
      refine wp_aload_n xi_73 dX8_addFour_18 rfl ?_
      obtain ⟨x2, gx2, H⟩ := Option.bind_eq_some_iff.mp H
      refine wq_getfr xi_73 dX8_addFour_19 xf_8_9 gx2 ?_
      refine wp_aload_n xi_73 dX8_addFour_22 rfl ?_
      refine wp_dup xi_73 dX8_addFour_23 rfl ?_
      obtain ⟨x3, gx3, H⟩ := Option.bind_eq_some_iff.mp H
      refine wq_getfi xi_73 dX8_addFour_24 xf_8_13 gx3 ?_
      refine wp_dup_x1 xi_73 dX8_addFour_27 rfl rfl ?_
      refine wp_iconst 1 xi_73 dX8_addFour_28 rfl ?_
      refine wp_iadd xi_73 dX8_addFour_29 ?_
      obtain ⟨h4, gh4, H⟩ := Option.bind_eq_some_iff.mp H
      refine wq_putf xi_73 dX8_addFour_30 xf_8_13 (Or.inl rfl) gh4 ?_
      refine wp_iload_n xi_73 dX8_addFour_33 rfl ?_
      refine wp_iload_n xi_73 dX8_addFour_34 rfl ?_
      refine wp_iushr xi_73 dX8_addFour_35 ?_
      refine wp_sipush 255 xi_73 dX8_addFour_36 rfl ?_
      refine wp_iand xi_73 dX8_addFour_39 ?_
      obtain ⟨h5, gh5, H⟩ := Option.bind_eq_some_iff.mp H
      refine wq_iastore xi_73 dX8_addFour_40 gh5 ?_
      refine wp_iinc (a2 + (-8)) [some (.ref a0), some (.int a1), some (.int (a2 + (-8)))] xi_73 dX8_addFour_41 rfl rfl rfl ?_
      refine wp_goto 14 xi_73 dX8_addFour_44 rfl ?_
      exact Wp.more (by simp [xMore, Value.category]) (ih a0 a1 (a2 + (-8)) h5 _ H KE)
def f_73  (a : Nat) (p0 : Int32) (h : xH) : Option (Int32 × xH) :=
  (pFi h a 8 1).bind fun x1 =>
  (if x1 ≤ 76 then
  (f_73_14 100000 a p0 24 h).bind fun h3 =>
  pZ 1 h3
  else
  pZ 0 h)
set_option maxHeartbeats 4000000 in
theorem e_73 (d : Nat) (Q : Option Value → xH → Prop)  {h : xH} {a : Nat} {p0 : Int32} {x : Int32} {h1 : xH} (H : f_73  a p0 h = some (x, h1)) (hq : Q (some (.int x)) h1) : Wp (d + 0) 73 0 [some (.ref a), some (.int p0), none] [] h Q := by
  unfold f_73 at H
  refine wp_aload_n xi_73 dX8_addFour_0 rfl ?_
  obtain ⟨x1, gx1, H⟩ := Option.bind_eq_some_iff.mp H
  refine wq_getfi xi_73 dX8_addFour_1 xf_8_13 gx1 ?_
  refine wp_bipush 76 xi_73 dX8_addFour_4 rfl ?_
  refine wp_icmp_le 11 xi_73 dX8_addFour_6 rfl (fun c2 => ?_) (fun c2 => ?_)
  · rw [if_pos c2] at H
    refine wp_bipush 24 xi_73 dX8_addFour_11 rfl ?_
    refine wp_istore_n [some (.ref a), some (.int p0), some (.int 24)] xi_73 dX8_addFour_13 rfl ?_
    obtain ⟨h3, G4, H⟩ := Option.bind_eq_some_iff.mp H
    refine Wp.more (by simp [xMore, Value.category]) (ef_73_14 d Q  100000 a p0 24 h _ G4 (fun z0 e9 => ?_))
    cases e9
    refine wp_iconst 1 xi_73 dX8_addFour_47 rfl ?_
    obtain ⟨gz, hz⟩ := pZ_ok H
    obtain ⟨rfl, rfl⟩ := Prod.mk.inj hz
    exact wp_zret xi_73 dX8_addFour_48 gz hq
  · rw [if_neg c2] at H
    refine wp_iconst 0 xi_73 dX8_addFour_9 rfl ?_
    obtain ⟨gz, hz⟩ := pZ_ok H
    obtain ⟨rfl, rfl⟩ := Prod.mk.inj hz
    exact wp_zret xi_73 dX8_addFour_10 gz hq
/- FelledHasLost$Text.cut(I)Z -/
def f_74  (a : Nat) (p0 : Int32) (h : xH) : Option (Int32 × xH) :=
  (if p0 < 0 then
  pZ 0 h
  else
  (pFi h a 8 1).bind fun x2 =>
  (if p0 ≤ x2 then
  (pP h a 8 1 (.int p0)).bind fun h4 =>
  pZ 1 h4
  else
  pZ 0 h))
set_option maxHeartbeats 4000000 in
theorem e_74 (d : Nat) (Q : Option Value → xH → Prop)  {h : xH} {a : Nat} {p0 : Int32} {x : Int32} {h1 : xH} (H : f_74  a p0 h = some (x, h1)) (hq : Q (some (.int x)) h1) : Wp (d + 0) 74 0 [some (.ref a), some (.int p0)] [] h Q := by
  unfold f_74 at H
  refine wp_iload_n xi_74 dX8_cut_0 rfl ?_
  refine wp_if_lt 12 xi_74 dX8_cut_1 rfl (fun c1 => ?_) (fun c1 => ?_)
  · rw [if_pos c1] at H
    refine wp_iconst 0 xi_74 dX8_cut_12 rfl ?_
    obtain ⟨gz, hz⟩ := pZ_ok H
    obtain ⟨rfl, rfl⟩ := Prod.mk.inj hz
    exact wp_zret xi_74 dX8_cut_13 gz hq
  · rw [if_neg c1] at H
    refine wp_iload_n xi_74 dX8_cut_4 rfl ?_
    refine wp_aload_n xi_74 dX8_cut_5 rfl ?_
    obtain ⟨x2, gx2, H⟩ := Option.bind_eq_some_iff.mp H
    refine wq_getfi xi_74 dX8_cut_6 xf_8_13 gx2 ?_
    refine wp_icmp_le 14 xi_74 dX8_cut_9 rfl (fun c3 => ?_) (fun c3 => ?_)
    · rw [if_pos c3] at H
      refine wp_aload_n xi_74 dX8_cut_14 rfl ?_
      refine wp_iload_n xi_74 dX8_cut_15 rfl ?_
      obtain ⟨h4, gh4, H⟩ := Option.bind_eq_some_iff.mp H
      refine wq_putf xi_74 dX8_cut_16 xf_8_13 (Or.inl rfl) gh4 ?_
      refine wp_iconst 1 xi_74 dX8_cut_19 rfl ?_
      obtain ⟨gz, hz⟩ := pZ_ok H
      obtain ⟨rfl, rfl⟩ := Prod.mk.inj hz
      exact wp_zret xi_74 dX8_cut_20 gz hq
    · rw [if_neg c3] at H
      refine wp_iconst 0 xi_74 dX8_cut_12 rfl ?_
      obtain ⟨gz, hz⟩ := pZ_ok H
      obtain ⟨rfl, rfl⟩ := Prod.mk.inj hz
      exact wp_zret xi_74 dX8_cut_13 gz hq
/- FelledHasLost$Text.clear()V -/
def f_75  (a : Nat) (h : xH) : Option (xH) :=
  (pP h a 8 1 (.int 0)).bind fun h1 =>
  some h1
set_option maxHeartbeats 4000000 in
theorem e_75 (d : Nat) (Q : Option Value → xH → Prop)  {h : xH} {a : Nat} {h1 : xH} (H : f_75  a h = some h1) (hq : Q none h1) : Wp (d + 0) 75 0 [some (.ref a)] [] h Q := by
  unfold f_75 at H
  refine wp_aload_n xi_75 dX8_clear_0 rfl ?_
  refine wp_iconst 0 xi_75 dX8_clear_1 rfl ?_
  obtain ⟨h1, gh1, H⟩ := Option.bind_eq_some_iff.mp H
  refine wq_putf xi_75 dX8_clear_2 xf_8_13 (Or.inl rfl) gh1 ?_
  obtain rfl := Option.some.inj H
  exact wp_vret xi_75 dX8_clear_5 hq
/- FelledHasLost$Text.isDigit(I)Z -/
def f_76  (a : Nat) (p0 : Int32) (h : xH) : Option (Int32 × xH) :=
  ((if p0 < 0 then
  some (0)
  else
  (pFi h a 8 1).bind fun x12 =>
  (if x12 ≤ p0 then
  some (0)
  else
  (pFr h a 8 0).bind fun x14 =>
  (pAi h x14 p0).bind fun x15 =>
  (if x15 < 48 then
  some (0)
  else
  (pFr h a 8 0).bind fun x17 =>
  (pAi h x17 p0).bind fun x18 =>
  (if (57 : Int32) < x18 then
  some (0)
  else
  some (1)))) : Option (Int32))).bind fun (w10 : Int32) =>
  pZ w10 h
set_option maxHeartbeats 4000000 in
theorem e_76 (d : Nat) (Q : Option Value → xH → Prop)  {h : xH} {a : Nat} {p0 : Int32} {x : Int32} {h1 : xH} (H : f_76  a p0 h = some (x, h1)) (hq : Q (some (.int x)) h1) : Wp (d + 0) 76 0 [some (.ref a), some (.int p0)] [] h Q := by
  unfold f_76 at H
  refine wp_iload_n xi_76 dX8_isDigit_0 rfl ?_
  obtain ⟨w10, G20, H⟩ := Option.bind_eq_some_iff.mp H
  have K11 : Wp (d + 0) 76 39 [some (.ref a), some (.int p0)] [.int w10] h Q := by
    obtain ⟨gz, hz⟩ := pZ_ok H
    obtain ⟨rfl, rfl⟩ := Prod.mk.inj hz
    exact wp_zret xi_76 dX8_isDigit_39 gz hq
  clear H
  have H := G20
  clear G20
  refine wp_if_lt 38 xi_76 dX8_isDigit_1 rfl (fun c1 => ?_) (fun c1 => ?_)
  · rw [if_pos c1] at H
    refine wp_iconst 0 xi_76 dX8_isDigit_38 rfl ?_
    obtain rfl := Option.some.inj H
    exact Wp.more (by simp [xMore, Value.category]) K11
  · rw [if_neg c1] at H
    refine wp_iload_n xi_76 dX8_isDigit_4 rfl ?_
    refine wp_aload_n xi_76 dX8_isDigit_5 rfl ?_
    obtain ⟨x12, gx12, H⟩ := Option.bind_eq_some_iff.mp H
    refine wq_getfi xi_76 dX8_isDigit_6 xf_8_13 gx12 ?_
    refine wp_icmp_ge 38 xi_76 dX8_isDigit_9 rfl (fun c13 => ?_) (fun c13 => ?_)
    · rw [if_pos c13] at H
      refine wp_iconst 0 xi_76 dX8_isDigit_38 rfl ?_
      obtain rfl := Option.some.inj H
      exact Wp.more (by simp [xMore, Value.category]) K11
    · rw [if_neg c13] at H
      refine wp_aload_n xi_76 dX8_isDigit_12 rfl ?_
      obtain ⟨x14, gx14, H⟩ := Option.bind_eq_some_iff.mp H
      refine wq_getfr xi_76 dX8_isDigit_13 xf_8_9 gx14 ?_
      refine wp_iload_n xi_76 dX8_isDigit_16 rfl ?_
      obtain ⟨x15, gx15, H⟩ := Option.bind_eq_some_iff.mp H
      refine wq_iaload xi_76 dX8_isDigit_17 gx15 ?_
      refine wp_bipush 48 xi_76 dX8_isDigit_18 rfl ?_
      refine wp_icmp_lt 38 xi_76 dX8_isDigit_20 rfl (fun c16 => ?_) (fun c16 => ?_)
      · rw [if_pos c16] at H
        refine wp_iconst 0 xi_76 dX8_isDigit_38 rfl ?_
        obtain rfl := Option.some.inj H
        exact Wp.more (by simp [xMore, Value.category]) K11
      · rw [if_neg c16] at H
        refine wp_aload_n xi_76 dX8_isDigit_23 rfl ?_
        obtain ⟨x17, gx17, H⟩ := Option.bind_eq_some_iff.mp H
        refine wq_getfr xi_76 dX8_isDigit_24 xf_8_9 gx17 ?_
        refine wp_iload_n xi_76 dX8_isDigit_27 rfl ?_
        obtain ⟨x18, gx18, H⟩ := Option.bind_eq_some_iff.mp H
        refine wq_iaload xi_76 dX8_isDigit_28 gx18 ?_
        refine wp_bipush 57 xi_76 dX8_isDigit_29 rfl ?_
        refine wp_icmp_gt 38 xi_76 dX8_isDigit_31 rfl (fun c19 => ?_) (fun c19 => ?_)
        · rw [if_pos c19] at H
          refine wp_iconst 0 xi_76 dX8_isDigit_38 rfl ?_
          obtain rfl := Option.some.inj H
          exact Wp.more (by simp [xMore, Value.category]) K11
        · rw [if_neg c19] at H
          refine wp_iconst 1 xi_76 dX8_isDigit_34 rfl ?_
          refine wp_goto 39 xi_76 dX8_isDigit_35 rfl ?_
          obtain rfl := Option.some.inj H
          exact Wp.more (by simp [xMore, Value.category]) K11
/- FelledHasLost$Text.isOneOf(ILjava/lang/String;)Z -/
def f_77  (a : Nat) (p0 : Int32) (p1 : Nat) (h : xH) : Option (Int32 × xH) :=
  ((if p0 < 0 then
  some (0)
  else
  (pFi h a 8 1).bind fun x10 =>
  (if x10 ≤ p0 then
  some (0)
  else
  (pFr h a 8 0).bind fun x12 =>
  (pAi h x12 p0).bind fun x13 =>
  (pIx p1 (((x13 : Int32).toUInt32 % 65536).toInt32)).bind fun x14 =>
  (if x14 < 0 then
  some (0)
  else
  some (1))) : Option (Int32))).bind fun (w8 : Int32) =>
  pZ w8 h
set_option maxHeartbeats 4000000 in
theorem e_77 (d : Nat) (Q : Option Value → xH → Prop)  {h : xH} {a : Nat} {p0 : Int32} {p1 : Nat} {x : Int32} {h1 : xH} (H : f_77  a p0 p1 h = some (x, h1)) (hq : Q (some (.int x)) h1) : Wp (d + 0) 77 0 [some (.ref a), some (.int p0), some (.ref p1)] [] h Q := by
  unfold f_77 at H
  refine wp_iload_n xi_77 dX8_isOneOf_0 rfl ?_
  obtain ⟨w8, G16, H⟩ := Option.bind_eq_some_iff.mp H
  have K9 : Wp (d + 0) 77 31 [some (.ref a), some (.int p0), some (.ref p1)] [.int w8] h Q := by
    obtain ⟨gz, hz⟩ := pZ_ok H
    obtain ⟨rfl, rfl⟩ := Prod.mk.inj hz
    exact wp_zret xi_77 dX8_isOneOf_31 gz hq
  clear H
  have H := G16
  clear G16
  refine wp_if_lt 30 xi_77 dX8_isOneOf_1 rfl (fun c1 => ?_) (fun c1 => ?_)
  · rw [if_pos c1] at H
    refine wp_iconst 0 xi_77 dX8_isOneOf_30 rfl ?_
    obtain rfl := Option.some.inj H
    exact Wp.more (by simp [xMore, Value.category]) K9
  · rw [if_neg c1] at H
    refine wp_iload_n xi_77 dX8_isOneOf_4 rfl ?_
    refine wp_aload_n xi_77 dX8_isOneOf_5 rfl ?_
    obtain ⟨x10, gx10, H⟩ := Option.bind_eq_some_iff.mp H
    refine wq_getfi xi_77 dX8_isOneOf_6 xf_8_13 gx10 ?_
    refine wp_icmp_ge 30 xi_77 dX8_isOneOf_9 rfl (fun c11 => ?_) (fun c11 => ?_)
    · rw [if_pos c11] at H
      refine wp_iconst 0 xi_77 dX8_isOneOf_30 rfl ?_
      obtain rfl := Option.some.inj H
      exact Wp.more (by simp [xMore, Value.category]) K9
    · rw [if_neg c11] at H
      refine wp_aload_n xi_77 dX8_isOneOf_12 rfl ?_
      refine wp_aload_n xi_77 dX8_isOneOf_13 rfl ?_
      obtain ⟨x12, gx12, H⟩ := Option.bind_eq_some_iff.mp H
      refine wq_getfr xi_77 dX8_isOneOf_14 xf_8_9 gx12 ?_
      refine wp_iload_n xi_77 dX8_isOneOf_17 rfl ?_
      obtain ⟨x13, gx13, H⟩ := Option.bind_eq_some_iff.mp H
      refine wq_iaload xi_77 dX8_isOneOf_18 gx13 ?_
      refine wp_i2c xi_77 dX8_isOneOf_19 ?_
      obtain ⟨x14, gx14, H⟩ := Option.bind_eq_some_iff.mp H
      refine wq_ix xi_77 dX8_isOneOf_20 xm_8_17 (Nat.le_of_ble_eq_true rfl) gx14 ?_
      refine wp_if_lt 30 xi_77 dX8_isOneOf_23 rfl (fun c15 => ?_) (fun c15 => ?_)
      · rw [if_pos c15] at H
        refine wp_iconst 0 xi_77 dX8_isOneOf_30 rfl ?_
        obtain rfl := Option.some.inj H
        exact Wp.more (by simp [xMore, Value.category]) K9
      · rw [if_neg c15] at H
        refine wp_iconst 1 xi_77 dX8_isOneOf_26 rfl ?_
        refine wp_goto 31 xi_77 dX8_isOneOf_27 rfl ?_
        obtain rfl := Option.some.inj H
        exact Wp.more (by simp [xMore, Value.category]) K9
/- FelledHasLost$Touches.tell(IZ)Z -/
def f_80  (a : Nat) (p0 : Int32) (p1 : Int32) (h : xH) : Option (Int32 × xH) :=
  (pFi h a 9 10).bind fun x1 =>
  (if x1 < 20 then
  (pFr h a 9 0).bind fun x3 =>
  (pFi h a 9 10).bind fun x4 =>
  (pSi h x3 x4 p0).bind fun h5 =>
  (pFr h5 a 9 1).bind fun x6 =>
  (pFi h5 a 9 10).bind fun x7 =>
  (pP h5 a 9 10 (.int (x7 + 1))).bind fun h8 =>
  (pSb h8 x6 x7 p1).bind fun h9 =>
  pZ 1 h9
  else
  pZ 0 h)
set_option maxHeartbeats 4000000 in
theorem e_80 (d : Nat) (Q : Option Value → xH → Prop)  {h : xH} {a : Nat} {p0 : Int32} {p1 : Int32} {x : Int32} {h1 : xH} (H : f_80  a p0 p1 h = some (x, h1)) (hq : Q (some (.int x)) h1) : Wp (d + 0) 80 0 [some (.ref a), some (.int p0), some (.int p1)] [] h Q := by
  unfold f_80 at H
  refine wp_aload_n xi_80 dX9_tell_0 rfl ?_
  obtain ⟨x1, gx1, H⟩ := Option.bind_eq_some_iff.mp H
  refine wq_getfi xi_80 dX9_tell_1 xf_9_46 gx1 ?_
  refine wp_bipush 20 xi_80 dX9_tell_4 rfl ?_
  refine wp_icmp_lt 11 xi_80 dX9_tell_6 rfl (fun c2 => ?_) (fun c2 => ?_)
  · rw [if_pos c2] at H
    refine wp_aload_n xi_80 dX9_tell_11 rfl ?_
    obtain ⟨x3, gx3, H⟩ := Option.bind_eq_some_iff.mp H
    refine wq_getfr xi_80 dX9_tell_12 xf_9_11 gx3 ?_
    refine wp_aload_n xi_80 dX9_tell_15 rfl ?_
    obtain ⟨x4, gx4, H⟩ := Option.bind_eq_some_iff.mp H
    refine wq_getfi xi_80 dX9_tell_16 xf_9_46 gx4 ?_
    refine wp_iload_n xi_80 dX9_tell_19 rfl ?_
    obtain ⟨h5, gh5, H⟩ := Option.bind_eq_some_iff.mp H
    refine wq_iastore xi_80 dX9_tell_20 gh5 ?_
    refine wp_aload_n xi_80 dX9_tell_21 rfl ?_
    obtain ⟨x6, gx6, H⟩ := Option.bind_eq_some_iff.mp H
    refine wq_getfr xi_80 dX9_tell_22 xf_9_15 gx6 ?_
    refine wp_aload_n xi_80 dX9_tell_25 rfl ?_
    refine wp_dup xi_80 dX9_tell_26 rfl ?_
    obtain ⟨x7, gx7, H⟩ := Option.bind_eq_some_iff.mp H
    refine wq_getfi xi_80 dX9_tell_27 xf_9_46 gx7 ?_
    refine wp_dup_x1 xi_80 dX9_tell_30 rfl rfl ?_
    refine wp_iconst 1 xi_80 dX9_tell_31 rfl ?_
    refine wp_iadd xi_80 dX9_tell_32 ?_
    obtain ⟨h8, gh8, H⟩ := Option.bind_eq_some_iff.mp H
    refine wq_putf xi_80 dX9_tell_33 xf_9_46 (Or.inl rfl) gh8 ?_
    refine wp_iload_n xi_80 dX9_tell_36 rfl ?_
    obtain ⟨h9, gh9, H⟩ := Option.bind_eq_some_iff.mp H
    refine wq_bastore xi_80 dX9_tell_37 gh9 ?_
    refine wp_iconst 1 xi_80 dX9_tell_38 rfl ?_
    obtain ⟨gz, hz⟩ := pZ_ok H
    obtain ⟨rfl, rfl⟩ := Prod.mk.inj hz
    exact wp_zret xi_80 dX9_tell_39 gz hq
  · rw [if_neg c2] at H
    refine wp_iconst 0 xi_80 dX9_tell_9 rfl ?_
    obtain ⟨gz, hz⟩ := pZ_ok H
    obtain ⟨rfl, rfl⟩ := Prod.mk.inj hz
    exact wp_zret xi_80 dX9_tell_10 gz hq
/- FelledHasLost$Touches.noteRow(IIII)V -/
def f_83_55  : Nat → Nat → Int32 → Int32 → xH → Option (xH)
  | 0, _, _, _, _ => none
  | n + 1, a0, a4, a5, h =>
  (if (3 : Int32) ≤ a5 then
  some (h)
  else
  (pFr h a0 9 6).bind fun x2 =>
  (pAi h x2 a5).bind fun x3 =>
  (pSi h x2 a5 (x3 + ((a4 >>> (a5 &&& 31)) &&& 1))).bind fun h4 =>
  (pFr h4 a0 9 7).bind fun x5 =>
  (pAi h4 x5 a5).bind fun x6 =>
  (pFr h4 a0 9 9).bind fun x7 =>
  (pAi h4 x7 a5).bind fun x8 =>
  ((if x8 = (-1) then
  some (0)
  else
  (pFr h4 a0 9 9).bind fun x14 =>
  (pAi h4 x14 a5).bind fun x15 =>
  some ((1 <<< (x15 &&& 31))) : Option (Int32))).bind fun (w12 : Int32) =>
  (pSi h4 x5 a5 (x6 ||| w12)).bind fun h16 =>
  f_83_55 n a0 a4 (a5 + 1) h16)
theorem ef_83_55 (d : Nat) (Q : Option Value → xH → Prop)  : ∀ (n : Nat) (a0 : Nat) (a4 : Int32) (a5 : Int32) (h : xH) (r : xH), f_83_55 n a0 a4 a5 h = some r → (∀  (h1 : xH), r = h1 → Wp (d + 0) 83 118 [none, none, none, none, none, none] [] h1 Q) → Wp (d + 0) 83 55 [some (.ref a0), none, none, none, some (.int a4), some (.int a5)] [] h Q := by
  intro n
  induction n with
  | zero =>
    intro a0 a4 a5 h r H
    cases H
  | succ n ih =>
    intro a0 a4 a5 h r H KE
    unfold f_83_55 at H
    refine wp_iload xi_83 dX9_noteRow_55 rfl ?_
    refine wp_iconst 3 xi_83 dX9_noteRow_57 rfl ?_
    refine wp_icmp_ge 118 xi_83 dX9_noteRow_58 rfl (fun c1 => ?_) (fun c1 => ?_)
    · rw [if_pos c1] at H
      obtain rfl := Option.some.inj H
      exact Wp.more (by simp [xMore, Value.category]) (KE  h rfl)
    · rw [if_neg c1] at H
      refine wp_aload_n xi_83 dX9_noteRow_61 rfl ?_
      obtain ⟨x2, gx2, H⟩ := Option.bind_eq_some_iff.mp H
      refine wq_getfr xi_83 dX9_noteRow_62 xf_9_31 gx2 ?_
      refine wp_iload xi_83 dX9_noteRow_65 rfl ?_
      refine wp_dup2 xi_83 dX9_noteRow_67 rfl rfl ?_
      obtain ⟨x3, gx3, H⟩ := Option.bind_eq_some_iff.mp H
      refine wq_iaload xi_83 dX9_noteRow_68 gx3 ?_
      refine wp_iload xi_83 dX9_noteRow_69 rfl ?_
      refine wp_iload xi_83 dX9_noteRow_71 rfl ?_
      refine wp_ishr xi_83 dX9_noteRow_73 ?_
      refine wp_iconst 1 xi_83 dX9_noteRow_74 rfl ?_
      refine wp_iand xi_83 dX9_noteRow_75 ?_
      refine wp_iadd xi_83 dX9_noteRow_76 ?_
      obtain ⟨h4, gh4, H⟩ := Option.bind_eq_some_iff.mp H
      refine wq_iastore xi_83 dX9_noteRow_77 gh4 ?_
      refine wp_aload_n xi_83 dX9_noteRow_78 rfl ?_
      obtain ⟨x5, gx5, H⟩ := Option.bind_eq_some_iff.mp H
      refine wq_getfr xi_83 dX9_noteRow_79 xf_9_34 gx5 ?_
      refine wp_iload xi_83 dX9_noteRow_82 rfl ?_
      refine wp_dup2 xi_83 dX9_noteRow_84 rfl rfl ?_
      obtain ⟨x6, gx6, H⟩ := Option.bind_eq_some_iff.mp H
      refine wq_iaload xi_83 dX9_noteRow_85 gx6 ?_
      refine wp_aload_n xi_83 dX9_noteRow_86 rfl ?_
      obtain ⟨x7, gx7, H⟩ := Option.bind_eq_some_iff.mp H
      refine wq_getfr xi_83 dX9_noteRow_87 xf_9_40 gx7 ?_
      refine wp_iload xi_83 dX9_noteRow_90 rfl ?_
      obtain ⟨x8, gx8, H⟩ := Option.bind_eq_some_iff.mp H
      refine wq_iaload xi_83 dX9_noteRow_92 gx8 ?_
      refine wp_iconst (-1) xi_83 dX9_noteRow_93 rfl ?_
      obtain ⟨w12, G17, H⟩ := Option.bind_eq_some_iff.mp H
      have K13 : Wp (d + 0) 83 110 [some (.ref a0), none, none, none, some (.int a4), some (.int a5)] [.int w12, .int x6, .int a5, .ref x5] h4 Q := by
        refine wp_ior xi_83 dX9_noteRow_110 ?_
        obtain ⟨h16, gh16, H⟩ := Option.bind_eq_some_iff.mp H
        refine wq_iastore xi_83 dX9_noteRow_111 gh16 ?_
        refine wp_iinc (a5 + 1) [some (.ref a0), none, none, none, some (.int a4), some (.int (a5 + 1))] xi_83 dX9_noteRow_112 rfl rfl rfl ?_
        refine wp_goto 55 xi_83 dX9_noteRow_115 rfl ?_
        exact Wp.more (by simp [xMore, Value.category]) (ih a0 a4 (a5 + 1) h16 _ H KE)
      clear H
      have H := G17
      clear G17
      refine wp_icmp_ne 101 xi_83 dX9_noteRow_94 rfl (fun c9 => ?_) (fun c9 => ?_)
      · rw [if_neg c9] at H
        refine wp_iconst 1 xi_83 dX9_noteRow_101 rfl ?_
        refine wp_aload_n xi_83 dX9_noteRow_102 rfl ?_
        obtain ⟨x14, gx14, H⟩ := Option.bind_eq_some_iff.mp H
        refine wq_getfr xi_83 dX9_noteRow_103 xf_9_40 gx14 ?_
        refine wp_iload xi_83 dX9_noteRow_106 rfl ?_
        obtain ⟨x15, gx15, H⟩ := Option.bind_eq_some_iff.mp H
        refine wq_iaload xi_83 dX9_noteRow_108 gx15 ?_
        refine wp_ishl xi_83 dX9_noteRow_109 ?_
        obtain rfl := Option.some.inj H
        exact Wp.more (by simp [xMore, Value.category]) K13
      · rw [if_pos c9] at H
        refine wp_iconst 0 xi_83 dX9_noteRow_97 rfl ?_
        refine wp_goto 110 xi_83 dX9_noteRow_98 rfl ?_
        obtain rfl := Option.some.inj H
        exact Wp.more (by simp [xMore, Value.category]) K13
def f_83  (a : Nat) (p0 : Int32) (p1 : Int32) (p2 : Int32) (p3 : Int32) (h : xH) : Option (xH) :=
  (pFr h a 9 9).bind fun x1 =>
  (pSi h x1 0 p0).bind fun h2 =>
  (pFr h2 a 9 9).bind fun x3 =>
  (pSi h2 x3 1 p1).bind fun h4 =>
  (pFr h4 a 9 9).bind fun x5 =>
  (pSi h4 x5 2 p2).bind fun h6 =>
  (pFi h6 a 9 11).bind fun x7 =>
  ((if x7 = 0 then
  (pFr h6 a 9 9).bind fun x14 =>
  (pFr h6 a 9 8).bind fun x15 =>
  (pCpy h6 x14 0 x15 0 3).bind fun h16 =>
  some (h16)
  else
  some (h6) : Option (xH))).bind fun (h12 : xH) =>
  (pFi h12 a 9 11).bind fun x17 =>
  (pP h12 a 9 11 (.int (x17 + 1))).bind fun h18 =>
  (f_83_55 100000 a p3 0 h18).bind fun h19 =>
  some h19
set_option maxHeartbeats 4000000 in
theorem e_83 (d : Nat) (Q : Option Value → xH → Prop)  {h : xH} {a : Nat} {p0 : Int32} {p1 : Int32} {p2 : Int32} {p3 : Int32} {h1 : xH} (H : f_83  a p0 p1 p2 p3 h = some h1) (hq : Q none h1) : Wp (d + 0) 83 0 [some (.ref a), some (.int p0), some (.int p1), some (.int p2), some (.int p3), none] [] h Q := by
  unfold f_83 at H
  refine wp_aload_n xi_83 dX9_noteRow_0 rfl ?_
  obtain ⟨x1, gx1, H⟩ := Option.bind_eq_some_iff.mp H
  refine wq_getfr xi_83 dX9_noteRow_1 xf_9_40 gx1 ?_
  refine wp_iconst 0 xi_83 dX9_noteRow_4 rfl ?_
  refine wp_iload_n xi_83 dX9_noteRow_5 rfl ?_
  obtain ⟨h2, gh2, H⟩ := Option.bind_eq_some_iff.mp H
  refine wq_iastore xi_83 dX9_noteRow_6 gh2 ?_
  refine wp_aload_n xi_83 dX9_noteRow_7 rfl ?_
  obtain ⟨x3, gx3, H⟩ := Option.bind_eq_some_iff.mp H
  refine wq_getfr xi_83 dX9_noteRow_8 xf_9_40 gx3 ?_
  refine wp_iconst 1 xi_83 dX9_noteRow_11 rfl ?_
  refine wp_iload_n xi_83 dX9_noteRow_12 rfl ?_
  obtain ⟨h4, gh4, H⟩ := Option.bind_eq_some_iff.mp H
  refine wq_iastore xi_83 dX9_noteRow_13 gh4 ?_
  refine wp_aload_n xi_83 dX9_noteRow_14 rfl ?_
  obtain ⟨x5, gx5, H⟩ := Option.bind_eq_some_iff.mp H
  refine wq_getfr xi_83 dX9_noteRow_15 xf_9_40 gx5 ?_
  refine wp_iconst 2 xi_83 dX9_noteRow_18 rfl ?_
  refine wp_iload_n xi_83 dX9_noteRow_19 rfl ?_
  obtain ⟨h6, gh6, H⟩ := Option.bind_eq_some_iff.mp H
  refine wq_iastore xi_83 dX9_noteRow_20 gh6 ?_
  refine wp_aload_n xi_83 dX9_noteRow_21 rfl ?_
  obtain ⟨x7, gx7, H⟩ := Option.bind_eq_some_iff.mp H
  refine wq_getfi xi_83 dX9_noteRow_22 xf_9_66 gx7 ?_
  obtain ⟨h12, G22, H⟩ := Option.bind_eq_some_iff.mp H
  have K13 : Wp (d + 0) 83 42 [some (.ref a), some (.int p0), some (.int p1), some (.int p2), some (.int p3), none] [] h12 Q := by
    refine wp_aload_n xi_83 dX9_noteRow_42 rfl ?_
    refine wp_dup xi_83 dX9_noteRow_43 rfl ?_
    obtain ⟨x17, gx17, H⟩ := Option.bind_eq_some_iff.mp H
    refine wq_getfi xi_83 dX9_noteRow_44 xf_9_66 gx17 ?_
    refine wp_iconst 1 xi_83 dX9_noteRow_47 rfl ?_
    refine wp_iadd xi_83 dX9_noteRow_48 ?_
    obtain ⟨h18, gh18, H⟩ := Option.bind_eq_some_iff.mp H
    refine wq_putf xi_83 dX9_noteRow_49 xf_9_66 (Or.inl rfl) gh18 ?_
    refine wp_iconst 0 xi_83 dX9_noteRow_52 rfl ?_
    refine wp_istore [some (.ref a), some (.int p0), some (.int p1), some (.int p2), some (.int p3), some (.int 0)] xi_83 dX9_noteRow_53 rfl ?_
    obtain ⟨h19, G20, H⟩ := Option.bind_eq_some_iff.mp H
    refine Wp.more (by simp [xMore, Value.category]) (ef_83_55 d Q  100000 a p3 0 h18 _ G20 (fun z0 e9 => ?_))
    cases e9
    obtain rfl := Option.some.inj H
    exact wp_vret xi_83 dX9_noteRow_118 hq
  clear H
  have H := G22
  clear G22
  refine wp_if_ne 42 xi_83 dX9_noteRow_25 rfl (fun c8 => ?_) (fun c8 => ?_)
  · rw [if_neg c8] at H
    obtain rfl := Option.some.inj H
    exact Wp.more (by simp [xMore, Value.category]) K13
  · rw [if_pos c8] at H
    refine wp_aload_n xi_83 dX9_noteRow_28 rfl ?_
    obtain ⟨x14, gx14, H⟩ := Option.bind_eq_some_iff.mp H
    refine wq_getfr xi_83 dX9_noteRow_29 xf_9_40 gx14 ?_
    refine wp_iconst 0 xi_83 dX9_noteRow_32 rfl ?_
    refine wp_aload_n xi_83 dX9_noteRow_33 rfl ?_
    obtain ⟨x15, gx15, H⟩ := Option.bind_eq_some_iff.mp H
    refine wq_getfr xi_83 dX9_noteRow_34 xf_9_37 gx15 ?_
    refine wp_iconst 0 xi_83 dX9_noteRow_37 rfl ?_
    refine wp_iconst 3 xi_83 dX9_noteRow_38 rfl ?_
    obtain ⟨h16, gh16, H⟩ := Option.bind_eq_some_iff.mp H
    refine wq_cpy xi_83 dX9_noteRow_39 xm_9_77 (Nat.le_of_ble_eq_true rfl) gh16 ?_
    obtain rfl := Option.some.inj H
    exact Wp.more (by simp [xMore, Value.category]) K13
/- FelledHasLost$Tower.fitThickness(I)I -/
def f_85  (p0 : Int32) (h : xH) : Option (Int32 × xH) :=
  some ((pMax 0 (pMin 9 p0)), h)
set_option maxHeartbeats 4000000 in
theorem e_85 (d : Nat) (Q : Option Value → xH → Prop)  {h : xH} {p0 : Int32} {x : Int32} {h1 : xH} (H : f_85  p0 h = some (x, h1)) (hq : Q (some (.int x)) h1) : Wp (d + 0) 85 0 [some (.int p0)] [] h Q := by
  unfold f_85 at H
  refine wp_iconst 0 xi_85 dX10_fitThickness_0 rfl ?_
  refine wp_bipush 9 xi_85 dX10_fitThickness_1 rfl ?_
  refine wp_iload_n xi_85 dX10_fitThickness_3 rfl ?_
  refine wq_min xi_85 dX10_fitThickness_4 xm_10_30 (Nat.le_of_ble_eq_true rfl) ?_
  refine wq_max xi_85 dX10_fitThickness_7 xm_10_36 (Nat.le_of_ble_eq_true rfl) ?_
  obtain ⟨rfl, rfl⟩ := oi2 H
  exact wp_iret xi_85 dX10_fitThickness_10 hq
/- FelledHasLost$Tower.wrongSign(LFelledHasLost$Text;)I -/
def f_86_4  : Nat → Nat → Int32 → Int32 → xH → Option ((xH) ⊕ (Int32 × xH))
  | 0, _, _, _, _ => none
  | n + 1, a0, a1, a2, h =>
  (pFi h a0 8 1).bind fun x1 =>
  (if x1 ≤ a2 then
  some (.inl (h))
  else
  (pRem a2 4).bind fun x3 =>
  ((if x3 = 0 then
  some (0)
  else
  some (a1) : Option (Int32))).bind fun (w5 : Int32) =>
  (pDiv a2 4).bind fun x7 =>
  (if x7 < 16 then
  (if x3 = 3 then
  (pG (pIs h a0 8)).bind fun _ =>
  (f_77 a0 a2 (xKb + 10 + 1) h).bind fun (x24, h23) =>
  (if x24 = 0 then
  some (.inr (a2, h23))
  else
  (pG (pIs h23 a0 8)).bind fun _ =>
  (f_77 a0 a2 (xKb + 10 + 3) h23).bind fun (x28, h27) =>
  ((if x28 = 0 then
  some (0)
  else
  some (1) : Option (Int32))).bind fun (w30 : Int32) =>
  (if (w5 + w30) = 3 then
  some (.inr (a2, h27))
  else
  f_86_4 n a0 (w5 + w30) (a2 + 1) h27))
  else
  (pG (pIs h a0 8)).bind fun _ =>
  (f_77 a0 a2 (xKb + 10 + 2) h).bind fun (x12, h11) =>
  (if x12 = 0 then
  some (.inr (a2, h11))
  else
  (pG (pIs h11 a0 8)).bind fun _ =>
  (f_77 a0 a2 (xKb + 10 + 3) h11).bind fun (x16, h15) =>
  ((if x16 = 0 then
  some (0)
  else
  some (1) : Option (Int32))).bind fun (w18 : Int32) =>
  (if (w5 + w18) = 3 then
  some (.inr (a2, h15))
  else
  f_86_4 n a0 (w5 + w18) (a2 + 1) h15)))
  else
  some (.inr (a2, h))))
theorem ef_86_4 (d : Nat) (Q : Option Value → xH → Prop)  : ∀ (n : Nat) (a0 : Nat) (a1 : Int32) (a2 : Int32) (h : xH) (r : (xH) ⊕ (Int32 × xH)), f_86_4 n a0 a1 a2 h = some r → (∀  (h1 : xH), r = .inl h1 → Wp (d + 1) 86 97 [some (.ref a0), none, none, none] [] h1 Q) → (∀ (x : Int32) (h1 : xH), r = .inr (x, h1) → Q (some (.int x)) h1) → Wp (d + 1) 86 4 [some (.ref a0), some (.int a1), some (.int a2), none] [] h Q := by
  intro n
  induction n with
  | zero =>
    intro a0 a1 a2 h r H
    cases H
  | succ n ih =>
    intro a0 a1 a2 h r H KE KR
    unfold f_86_4 at H
    refine wp_iload_n xi_86 dX10_wrongSign_4 rfl ?_
    refine wp_aload_n xi_86 dX10_wrongSign_5 rfl ?_
    obtain ⟨x1, gx1, H⟩ := Option.bind_eq_some_iff.mp H
    refine wq_getfi xi_86 dX10_wrongSign_6 xf_10_39 gx1 ?_
    refine wp_icmp_ge 97 xi_86 dX10_wrongSign_9 rfl (fun c2 => ?_) (fun c2 => ?_)
    · rw [if_pos c2] at H
      obtain rfl := Option.some.inj H
      exact Wp.more (by simp [xMore, Value.category]) (KE  h rfl)
    · rw [if_neg c2] at H
      refine wp_iload_n xi_86 dX10_wrongSign_12 rfl ?_
      refine wp_iconst 4 xi_86 dX10_wrongSign_13 rfl ?_
      obtain ⟨x3, gx3, H⟩ := Option.bind_eq_some_iff.mp H
      refine wq_irem xi_86 dX10_wrongSign_14 gx3 ?_
      refine wp_istore_n [some (.ref a0), some (.int a1), some (.int a2), some (.int x3)] xi_86 dX10_wrongSign_15 rfl ?_
      refine wp_iload_n xi_86 dX10_wrongSign_16 rfl ?_
      obtain ⟨w5, G34, H⟩ := Option.bind_eq_some_iff.mp H
      have K6 : Wp (d + 1) 86 25 [some (.ref a0), some (.int a1), some (.int a2), some (.int x3)] [.int w5] h Q := by
        refine wp_istore_n [some (.ref a0), some (.int w5), some (.int a2), some (.int x3)] xi_86 dX10_wrongSign_25 rfl ?_
        refine wp_iload_n xi_86 dX10_wrongSign_26 rfl ?_
        refine wp_iconst 4 xi_86 dX10_wrongSign_27 rfl ?_
        obtain ⟨x7, gx7, H⟩ := Option.bind_eq_some_iff.mp H
        refine wq_idiv xi_86 dX10_wrongSign_28 gx7 ?_
        refine wp_bipush 16 xi_86 dX10_wrongSign_29 rfl ?_
        refine wp_icmp_lt 36 xi_86 dX10_wrongSign_31 rfl (fun c8 => ?_) (fun c8 => ?_)
        · rw [if_pos c8] at H
          refine wp_iload_n xi_86 dX10_wrongSign_36 rfl ?_
          refine wp_iconst 3 xi_86 dX10_wrongSign_37 rfl ?_
          refine wp_icmp_ne 54 xi_86 dX10_wrongSign_38 rfl (fun c9 => ?_) (fun c9 => ?_)
          · rw [if_neg c9] at H
            refine wp_aload_n xi_86 dX10_wrongSign_54 rfl ?_
            refine wp_iload_n xi_86 dX10_wrongSign_55 rfl ?_
            refine wp_ldcS xi_86 dX10_wrongSign_56 xs0_10_51 xs_10_51 ?_
            obtain ⟨u10, gu10, H⟩ := Option.bind_eq_some_iff.mp H
            obtain ⟨⟨x12, h11⟩, gh11, H⟩ := Option.bind_eq_some_iff.mp H
            dsimp only at H
            refine wq_callV (a := a0) (as := [.int a2, .ref (xKb + 10 + 2)]) (r := []) (v1 := (some (.int x12))) xi_86 xi_77 dX10_wrongSign_58 xm_10_47 rfl (Nat.le_of_ble_eq_true rfl) (pG_ok gu10) ⟨(Nat.le_of_ble_eq_true rfl), (Nat.le_of_ble_eq_true rfl)⟩ rfl nofun (e_77 d _ gh11 ⟨rfl, rfl⟩) ?_
            change Wp _ _ _ _ [.int x12] _ _
            refine wp_if_ne 66 xi_86 dX10_wrongSign_61 rfl (fun c13 => ?_) (fun c13 => ?_)
            · rw [if_neg c13] at H
              refine wp_iload_n xi_86 dX10_wrongSign_66 rfl ?_
              refine wp_aload_n xi_86 dX10_wrongSign_67 rfl ?_
              refine wp_iload_n xi_86 dX10_wrongSign_68 rfl ?_
              refine wp_ldcS xi_86 dX10_wrongSign_69 xs0_10_53 xs_10_53 ?_
              obtain ⟨u14, gu14, H⟩ := Option.bind_eq_some_iff.mp H
              obtain ⟨⟨x16, h15⟩, gh15, H⟩ := Option.bind_eq_some_iff.mp H
              dsimp only at H
              refine wq_callV (a := a0) (as := [.int a2, .ref (xKb + 10 + 3)]) (r := [.int w5]) (v1 := (some (.int x16))) xi_86 xi_77 dX10_wrongSign_71 xm_10_47 rfl (Nat.le_of_ble_eq_true rfl) (pG_ok gu14) ⟨(Nat.le_of_ble_eq_true rfl), (Nat.le_of_ble_eq_true rfl)⟩ rfl nofun (e_77 d _ gh15 ⟨rfl, rfl⟩) ?_
              change Wp _ _ _ _ [.int x16, .int w5] _ _
              obtain ⟨w18, G21, H⟩ := Option.bind_eq_some_iff.mp H
              have K19 : Wp (d + 1) 86 82 [some (.ref a0), some (.int w5), some (.int a2), some (.int x3)] [.int w18, .int w5] h15 Q := by
                refine wp_iadd xi_86 dX10_wrongSign_82 ?_
                refine wp_istore_n [some (.ref a0), some (.int (w5 + w18)), some (.int a2), some (.int x3)] xi_86 dX10_wrongSign_83 rfl ?_
                refine wp_iload_n xi_86 dX10_wrongSign_84 rfl ?_
                refine wp_iconst 3 xi_86 dX10_wrongSign_85 rfl ?_
                refine wp_icmp_ne 91 xi_86 dX10_wrongSign_86 rfl (fun c20 => ?_) (fun c20 => ?_)
                · rw [if_neg c20] at H
                  refine wp_iinc (a2 + 1) [some (.ref a0), some (.int (w5 + w18)), some (.int (a2 + 1)), some (.int x3)] xi_86 dX10_wrongSign_91 rfl rfl rfl ?_
                  refine wp_goto 4 xi_86 dX10_wrongSign_94 rfl ?_
                  exact Wp.more (by simp [xMore, Value.category]) (ih a0 (w5 + w18) (a2 + 1) h15 _ H KE KR)
                · rw [if_pos c20] at H
                  refine wp_iload_n xi_86 dX10_wrongSign_89 rfl ?_
                  obtain rfl := Option.some.inj H
                  exact wp_iret xi_86 dX10_wrongSign_90 (KR _ _ rfl)
              clear H
              have H := G21
              clear G21
              refine wp_if_eq 81 xi_86 dX10_wrongSign_74 rfl (fun c17 => ?_) (fun c17 => ?_)
              · rw [if_pos c17] at H
                refine wp_iconst 0 xi_86 dX10_wrongSign_81 rfl ?_
                obtain rfl := Option.some.inj H
                exact Wp.more (by simp [xMore, Value.category]) K19
              · rw [if_neg c17] at H
                refine wp_iconst 1 xi_86 dX10_wrongSign_77 rfl ?_
                refine wp_goto 82 xi_86 dX10_wrongSign_78 rfl ?_
                obtain rfl := Option.some.inj H
                exact Wp.more (by simp [xMore, Value.category]) K19
            · rw [if_pos c13] at H
              refine wp_iload_n xi_86 dX10_wrongSign_64 rfl ?_
              obtain rfl := Option.some.inj H
              exact wp_iret xi_86 dX10_wrongSign_65 (KR _ _ rfl)
          · rw [if_pos c9] at H
            refine wp_aload_n xi_86 dX10_wrongSign_41 rfl ?_
            refine wp_iload_n xi_86 dX10_wrongSign_42 rfl ?_
            refine wp_ldcS xi_86 dX10_wrongSign_43 xs0_10_45 xs_10_45 ?_
            obtain ⟨u22, gu22, H⟩ := Option.bind_eq_some_iff.mp H
            obtain ⟨⟨x24, h23⟩, gh23, H⟩ := Option.bind_eq_some_iff.mp H
            dsimp only at H
            refine wq_callV (a := a0) (as := [.int a2, .ref (xKb + 10 + 1)]) (r := []) (v1 := (some (.int x24))) xi_86 xi_77 dX10_wrongSign_45 xm_10_47 rfl (Nat.le_of_ble_eq_true rfl) (pG_ok gu22) ⟨(Nat.le_of_ble_eq_true rfl), (Nat.le_of_ble_eq_true rfl)⟩ rfl nofun (e_77 d _ gh23 ⟨rfl, rfl⟩) ?_
            change Wp _ _ _ _ [.int x24] _ _
            refine wp_if_ne 66 xi_86 dX10_wrongSign_48 rfl (fun c25 => ?_) (fun c25 => ?_)
            · rw [if_neg c25] at H
              refine wp_iload_n xi_86 dX10_wrongSign_66 rfl ?_
              refine wp_aload_n xi_86 dX10_wrongSign_67 rfl ?_
              refine wp_iload_n xi_86 dX10_wrongSign_68 rfl ?_
              refine wp_ldcS xi_86 dX10_wrongSign_69 xs0_10_53 xs_10_53 ?_
              obtain ⟨u26, gu26, H⟩ := Option.bind_eq_some_iff.mp H
              obtain ⟨⟨x28, h27⟩, gh27, H⟩ := Option.bind_eq_some_iff.mp H
              dsimp only at H
              refine wq_callV (a := a0) (as := [.int a2, .ref (xKb + 10 + 3)]) (r := [.int w5]) (v1 := (some (.int x28))) xi_86 xi_77 dX10_wrongSign_71 xm_10_47 rfl (Nat.le_of_ble_eq_true rfl) (pG_ok gu26) ⟨(Nat.le_of_ble_eq_true rfl), (Nat.le_of_ble_eq_true rfl)⟩ rfl nofun (e_77 d _ gh27 ⟨rfl, rfl⟩) ?_
              change Wp _ _ _ _ [.int x28, .int w5] _ _
              obtain ⟨w30, G33, H⟩ := Option.bind_eq_some_iff.mp H
              have K31 : Wp (d + 1) 86 82 [some (.ref a0), some (.int w5), some (.int a2), some (.int x3)] [.int w30, .int w5] h27 Q := by
                refine wp_iadd xi_86 dX10_wrongSign_82 ?_
                refine wp_istore_n [some (.ref a0), some (.int (w5 + w30)), some (.int a2), some (.int x3)] xi_86 dX10_wrongSign_83 rfl ?_
                refine wp_iload_n xi_86 dX10_wrongSign_84 rfl ?_
                refine wp_iconst 3 xi_86 dX10_wrongSign_85 rfl ?_
                refine wp_icmp_ne 91 xi_86 dX10_wrongSign_86 rfl (fun c32 => ?_) (fun c32 => ?_)
                · rw [if_neg c32] at H
                  refine wp_iinc (a2 + 1) [some (.ref a0), some (.int (w5 + w30)), some (.int (a2 + 1)), some (.int x3)] xi_86 dX10_wrongSign_91 rfl rfl rfl ?_
                  refine wp_goto 4 xi_86 dX10_wrongSign_94 rfl ?_
                  exact Wp.more (by simp [xMore, Value.category]) (ih a0 (w5 + w30) (a2 + 1) h27 _ H KE KR)
                · rw [if_pos c32] at H
                  refine wp_iload_n xi_86 dX10_wrongSign_89 rfl ?_
                  obtain rfl := Option.some.inj H
                  exact wp_iret xi_86 dX10_wrongSign_90 (KR _ _ rfl)
              clear H
              have H := G33
              clear G33
              refine wp_if_eq 81 xi_86 dX10_wrongSign_74 rfl (fun c29 => ?_) (fun c29 => ?_)
              · rw [if_pos c29] at H
                refine wp_iconst 0 xi_86 dX10_wrongSign_81 rfl ?_
                obtain rfl := Option.some.inj H
                exact Wp.more (by simp [xMore, Value.category]) K31
              · rw [if_neg c29] at H
                refine wp_iconst 1 xi_86 dX10_wrongSign_77 rfl ?_
                refine wp_goto 82 xi_86 dX10_wrongSign_78 rfl ?_
                obtain rfl := Option.some.inj H
                exact Wp.more (by simp [xMore, Value.category]) K31
            · rw [if_pos c25] at H
              refine wp_goto 64 xi_86 dX10_wrongSign_51 rfl ?_
              refine wp_iload_n xi_86 dX10_wrongSign_64 rfl ?_
              obtain rfl := Option.some.inj H
              exact wp_iret xi_86 dX10_wrongSign_65 (KR _ _ rfl)
        · rw [if_neg c8] at H
          refine wp_iload_n xi_86 dX10_wrongSign_34 rfl ?_
          obtain rfl := Option.some.inj H
          exact wp_iret xi_86 dX10_wrongSign_35 (KR _ _ rfl)
      clear H
      have H := G34
      clear G34
      refine wp_if_ne 24 xi_86 dX10_wrongSign_17 rfl (fun c4 => ?_) (fun c4 => ?_)
      · rw [if_neg c4] at H
        refine wp_iload_n xi_86 dX10_wrongSign_24 rfl ?_
        obtain rfl := Option.some.inj H
        exact Wp.more (by simp [xMore, Value.category]) K6
      · rw [if_pos c4] at H
        refine wp_iconst 0 xi_86 dX10_wrongSign_20 rfl ?_
        refine wp_goto 25 xi_86 dX10_wrongSign_21 rfl ?_
        obtain rfl := Option.some.inj H
        exact Wp.more (by simp [xMore, Value.category]) K6
def f_86  (p0 : Nat) (h : xH) : Option (Int32 × xH) :=
  (f_86_4 100000 p0 0 0 h).bind fun r4 => match r4 with
  | .inl h1 =>
  (pFi h1 p0 8 1).bind fun x5 =>
  ((if x5 = 0 then
  some ((-1))
  else
  (pFi h1 p0 8 1).bind fun x13 =>
  (pRem x13 4).bind fun x14 =>
  (if x14 = 3 then
  some ((-1))
  else
  (pFi h1 p0 8 1).bind fun x16 =>
  some (x16)) : Option (Int32))).bind fun (w11 : Int32) =>
  some (w11, h1)
  | .inr (x18, h19) => some (x18, h19)
set_option maxHeartbeats 4000000 in
theorem e_86 (d : Nat) (Q : Option Value → xH → Prop)  {h : xH} {p0 : Nat} {x : Int32} {h1 : xH} (H : f_86  p0 h = some (x, h1)) (hq : Q (some (.int x)) h1) : Wp (d + 1) 86 0 [some (.ref p0), none, none, none] [] h Q := by
  unfold f_86 at H
  refine wp_iconst 0 xi_86 dX10_wrongSign_0 rfl ?_
  refine wp_istore_n [some (.ref p0), some (.int 0), none, none] xi_86 dX10_wrongSign_1 rfl ?_
  refine wp_iconst 0 xi_86 dX10_wrongSign_2 rfl ?_
  refine wp_istore_n [some (.ref p0), some (.int 0), some (.int 0), none] xi_86 dX10_wrongSign_3 rfl ?_
  obtain ⟨r4, G2, H⟩ := Option.bind_eq_some_iff.mp H
  refine Wp.more (by simp [xMore, Value.category]) (ef_86_4 d Q  100000 p0 0 0 h _ G2 (fun z0 e9 => ?_) (fun x1 h1 e9 => ?_))
  · subst e9
    dsimp only at H
    obtain ⟨h1, rfl⟩ : ∃ z, z = z0 := ⟨_, rfl⟩
    refine wp_aload_n xi_86 dX10_wrongSign_97 rfl ?_
    obtain ⟨x5, gx5, H⟩ := Option.bind_eq_some_iff.mp H
    refine wq_getfi xi_86 dX10_wrongSign_98 xf_10_39 gx5 ?_
    obtain ⟨w11, G17, H⟩ := Option.bind_eq_some_iff.mp H
    have K12 : Wp (d + 1) 86 122 [some (.ref p0), none, none, none] [.int w11] h1 Q := by
      obtain ⟨rfl, rfl⟩ := oi2 H
      exact wp_iret xi_86 dX10_wrongSign_122 hq
    clear H
    have H := G17
    clear G17
    refine wp_if_eq 114 xi_86 dX10_wrongSign_101 rfl (fun c6 => ?_) (fun c6 => ?_)
    · rw [if_pos c6] at H
      refine wp_iconst (-1) xi_86 dX10_wrongSign_114 rfl ?_
      refine wp_goto 122 xi_86 dX10_wrongSign_115 rfl ?_
      obtain rfl := Option.some.inj H
      exact Wp.more (by simp [xMore, Value.category]) K12
    · rw [if_neg c6] at H
      refine wp_aload_n xi_86 dX10_wrongSign_104 rfl ?_
      obtain ⟨x13, gx13, H⟩ := Option.bind_eq_some_iff.mp H
      refine wq_getfi xi_86 dX10_wrongSign_105 xf_10_39 gx13 ?_
      refine wp_iconst 4 xi_86 dX10_wrongSign_108 rfl ?_
      obtain ⟨x14, gx14, H⟩ := Option.bind_eq_some_iff.mp H
      refine wq_irem xi_86 dX10_wrongSign_109 gx14 ?_
      refine wp_iconst 3 xi_86 dX10_wrongSign_110 rfl ?_
      refine wp_icmp_ne 118 xi_86 dX10_wrongSign_111 rfl (fun c15 => ?_) (fun c15 => ?_)
      · rw [if_neg c15] at H
        refine wp_aload_n xi_86 dX10_wrongSign_118 rfl ?_
        obtain ⟨x16, gx16, H⟩ := Option.bind_eq_some_iff.mp H
        refine wq_getfi xi_86 dX10_wrongSign_119 xf_10_39 gx16 ?_
        obtain rfl := Option.some.inj H
        exact Wp.more (by simp [xMore, Value.category]) K12
      · rw [if_pos c15] at H
        refine wp_iconst (-1) xi_86 dX10_wrongSign_114 rfl ?_
        refine wp_goto 122 xi_86 dX10_wrongSign_115 rfl ?_
        obtain rfl := Option.some.inj H
        exact Wp.more (by simp [xMore, Value.category]) K12
  · subst e9
    dsimp only at H
    obtain ⟨rfl, rfl⟩ := oi2 H
    exact hq
/- FelledHasLost$Tower.copyFrom(LFelledHasLost$Tower;)V -/
def f_89  (a : Nat) (p0 : Nat) (h : xH) : Option (xH) :=
  (pFr h p0 10 0).bind fun x1 =>
  (pFr h a 10 0).bind fun x2 =>
  (pCpy h x1 0 x2 0 48).bind fun h3 =>
  (pFr h3 p0 10 1).bind fun x4 =>
  (pFr h3 a 10 1).bind fun x5 =>
  (pCpy h3 x4 0 x5 0 16).bind fun h6 =>
  (pFr h6 p0 10 2).bind fun x7 =>
  (pFr h6 a 10 2).bind fun x8 =>
  (pCpy h6 x7 0 x8 0 16).bind fun h9 =>
  (pFr h9 p0 10 3).bind fun x10 =>
  (pFr h9 a 10 3).bind fun x11 =>
  (pCpy h9 x10 0 x11 0 16).bind fun h12 =>
  (pFi h12 p0 10 4).bind fun x13 =>
  (pP h12 a 10 4 (.int x13)).bind fun h14 =>
  some h14
set_option maxHeartbeats 4000000 in
theorem e_89 (d : Nat) (Q : Option Value → xH → Prop)  {h : xH} {a : Nat} {p0 : Nat} {h1 : xH} (H : f_89  a p0 h = some h1) (hq : Q none h1) : Wp (d + 0) 89 0 [some (.ref a), some (.ref p0)] [] h Q := by
  unfold f_89 at H
  refine wp_aload_n xi_89 dX10_copyFrom_0 rfl ?_
  obtain ⟨x1, gx1, H⟩ := Option.bind_eq_some_iff.mp H
  refine wq_getfr xi_89 dX10_copyFrom_1 xf_10_9 gx1 ?_
  refine wp_iconst 0 xi_89 dX10_copyFrom_4 rfl ?_
  refine wp_aload_n xi_89 dX10_copyFrom_5 rfl ?_
  obtain ⟨x2, gx2, H⟩ := Option.bind_eq_some_iff.mp H
  refine wq_getfr xi_89 dX10_copyFrom_6 xf_10_9 gx2 ?_
  refine wp_iconst 0 xi_89 dX10_copyFrom_9 rfl ?_
  refine wp_bipush 48 xi_89 dX10_copyFrom_10 rfl ?_
  obtain ⟨h3, gh3, H⟩ := Option.bind_eq_some_iff.mp H
  refine wq_cpy xi_89 dX10_copyFrom_12 xm_10_72 (Nat.le_of_ble_eq_true rfl) gh3 ?_
  refine wp_aload_n xi_89 dX10_copyFrom_15 rfl ?_
  obtain ⟨x4, gx4, H⟩ := Option.bind_eq_some_iff.mp H
  refine wq_getfr xi_89 dX10_copyFrom_16 xf_10_15 gx4 ?_
  refine wp_iconst 0 xi_89 dX10_copyFrom_19 rfl ?_
  refine wp_aload_n xi_89 dX10_copyFrom_20 rfl ?_
  obtain ⟨x5, gx5, H⟩ := Option.bind_eq_some_iff.mp H
  refine wq_getfr xi_89 dX10_copyFrom_21 xf_10_15 gx5 ?_
  refine wp_iconst 0 xi_89 dX10_copyFrom_24 rfl ?_
  refine wp_bipush 16 xi_89 dX10_copyFrom_25 rfl ?_
  obtain ⟨h6, gh6, H⟩ := Option.bind_eq_some_iff.mp H
  refine wq_cpy xi_89 dX10_copyFrom_27 xm_10_72 (Nat.le_of_ble_eq_true rfl) gh6 ?_
  refine wp_aload_n xi_89 dX10_copyFrom_30 rfl ?_
  obtain ⟨x7, gx7, H⟩ := Option.bind_eq_some_iff.mp H
  refine wq_getfr xi_89 dX10_copyFrom_31 xf_10_18 gx7 ?_
  refine wp_iconst 0 xi_89 dX10_copyFrom_34 rfl ?_
  refine wp_aload_n xi_89 dX10_copyFrom_35 rfl ?_
  obtain ⟨x8, gx8, H⟩ := Option.bind_eq_some_iff.mp H
  refine wq_getfr xi_89 dX10_copyFrom_36 xf_10_18 gx8 ?_
  refine wp_iconst 0 xi_89 dX10_copyFrom_39 rfl ?_
  refine wp_bipush 16 xi_89 dX10_copyFrom_40 rfl ?_
  obtain ⟨h9, gh9, H⟩ := Option.bind_eq_some_iff.mp H
  refine wq_cpy xi_89 dX10_copyFrom_42 xm_10_72 (Nat.le_of_ble_eq_true rfl) gh9 ?_
  refine wp_aload_n xi_89 dX10_copyFrom_45 rfl ?_
  obtain ⟨x10, gx10, H⟩ := Option.bind_eq_some_iff.mp H
  refine wq_getfr xi_89 dX10_copyFrom_46 xf_10_21 gx10 ?_
  refine wp_iconst 0 xi_89 dX10_copyFrom_49 rfl ?_
  refine wp_aload_n xi_89 dX10_copyFrom_50 rfl ?_
  obtain ⟨x11, gx11, H⟩ := Option.bind_eq_some_iff.mp H
  refine wq_getfr xi_89 dX10_copyFrom_51 xf_10_21 gx11 ?_
  refine wp_iconst 0 xi_89 dX10_copyFrom_54 rfl ?_
  refine wp_bipush 16 xi_89 dX10_copyFrom_55 rfl ?_
  obtain ⟨h12, gh12, H⟩ := Option.bind_eq_some_iff.mp H
  refine wq_cpy xi_89 dX10_copyFrom_57 xm_10_72 (Nat.le_of_ble_eq_true rfl) gh12 ?_
  refine wp_aload_n xi_89 dX10_copyFrom_60 rfl ?_
  refine wp_aload_n xi_89 dX10_copyFrom_61 rfl ?_
  obtain ⟨x13, gx13, H⟩ := Option.bind_eq_some_iff.mp H
  refine wq_getfi xi_89 dX10_copyFrom_62 xf_10_69 gx13 ?_
  obtain ⟨h14, gh14, H⟩ := Option.bind_eq_some_iff.mp H
  refine wq_putf xi_89 dX10_copyFrom_65 xf_10_69 (Or.inl rfl) gh14 ?_
  obtain rfl := Option.some.inj H
  exact wp_vret xi_89 dX10_copyFrom_68 hq
/- FelledHasLost$Tower.has(I)Z -/
def f_90  (a : Nat) (p0 : Int32) (h : xH) : Option (Int32 × xH) :=
  ((if p0 < 0 then
  some (0)
  else
  (if (48 : Int32) ≤ p0 then
  some (0)
  else
  (pFr h a 10 0).bind fun x9 =>
  (pAi h x9 p0).bind fun x10 =>
  (if x10 = (-1) then
  some (0)
  else
  some (1))) : Option (Int32))).bind fun (w6 : Int32) =>
  pZ w6 h
set_option maxHeartbeats 4000000 in
theorem e_90 (d : Nat) (Q : Option Value → xH → Prop)  {h : xH} {a : Nat} {p0 : Int32} {x : Int32} {h1 : xH} (H : f_90  a p0 h = some (x, h1)) (hq : Q (some (.int x)) h1) : Wp (d + 0) 90 0 [some (.ref a), some (.int p0)] [] h Q := by
  unfold f_90 at H
  refine wp_iload_n xi_90 dX10_has_0 rfl ?_
  obtain ⟨w6, G12, H⟩ := Option.bind_eq_some_iff.mp H
  have K7 : Wp (d + 0) 90 25 [some (.ref a), some (.int p0)] [.int w6] h Q := by
    obtain ⟨gz, hz⟩ := pZ_ok H
    obtain ⟨rfl, rfl⟩ := Prod.mk.inj hz
    exact wp_zret xi_90 dX10_has_25 gz hq
  clear H
  have H := G12
  clear G12
  refine wp_if_lt 24 xi_90 dX10_has_1 rfl (fun c1 => ?_) (fun c1 => ?_)
  · rw [if_pos c1] at H
    refine wp_iconst 0 xi_90 dX10_has_24 rfl ?_
    obtain rfl := Option.some.inj H
    exact Wp.more (by simp [xMore, Value.category]) K7
  · rw [if_neg c1] at H
    refine wp_iload_n xi_90 dX10_has_4 rfl ?_
    refine wp_bipush 48 xi_90 dX10_has_5 rfl ?_
    refine wp_icmp_ge 24 xi_90 dX10_has_7 rfl (fun c8 => ?_) (fun c8 => ?_)
    · rw [if_pos c8] at H
      refine wp_iconst 0 xi_90 dX10_has_24 rfl ?_
      obtain rfl := Option.some.inj H
      exact Wp.more (by simp [xMore, Value.category]) K7
    · rw [if_neg c8] at H
      refine wp_aload_n xi_90 dX10_has_10 rfl ?_
      obtain ⟨x9, gx9, H⟩ := Option.bind_eq_some_iff.mp H
      refine wq_getfr xi_90 dX10_has_11 xf_10_9 gx9 ?_
      refine wp_iload_n xi_90 dX10_has_14 rfl ?_
      obtain ⟨x10, gx10, H⟩ := Option.bind_eq_some_iff.mp H
      refine wq_iaload xi_90 dX10_has_15 gx10 ?_
      refine wp_iconst (-1) xi_90 dX10_has_16 rfl ?_
      refine wp_icmp_eq 24 xi_90 dX10_has_17 rfl (fun c11 => ?_) (fun c11 => ?_)
      · rw [if_pos c11] at H
        refine wp_iconst 0 xi_90 dX10_has_24 rfl ?_
        obtain rfl := Option.some.inj H
        exact Wp.more (by simp [xMore, Value.category]) K7
      · rw [if_neg c11] at H
        refine wp_iconst 1 xi_90 dX10_has_20 rfl ?_
        refine wp_goto 25 xi_90 dX10_has_21 rfl ?_
        obtain rfl := Option.some.inj H
        exact Wp.more (by simp [xMore, Value.category]) K7
/- FelledHasLost$Tower.hasLayer(I)Z -/
def f_91  (a : Nat) (p0 : Int32) (h : xH) : Option (Int32 × xH) :=
  ((if p0 < 0 then
  some (0)
  else
  (pFi h a 10 4).bind fun x6 =>
  (if x6 ≤ p0 then
  some (0)
  else
  some (1)) : Option (Int32))).bind fun (w4 : Int32) =>
  pZ w4 h
set_option maxHeartbeats 4000000 in
theorem e_91 (d : Nat) (Q : Option Value → xH → Prop)  {h : xH} {a : Nat} {p0 : Int32} {x : Int32} {h1 : xH} (H : f_91  a p0 h = some (x, h1)) (hq : Q (some (.int x)) h1) : Wp (d + 0) 91 0 [some (.ref a), some (.int p0)] [] h Q := by
  unfold f_91 at H
  refine wp_iload_n xi_91 dX10_hasLayer_0 rfl ?_
  obtain ⟨w4, G8, H⟩ := Option.bind_eq_some_iff.mp H
  have K5 : Wp (d + 0) 91 17 [some (.ref a), some (.int p0)] [.int w4] h Q := by
    obtain ⟨gz, hz⟩ := pZ_ok H
    obtain ⟨rfl, rfl⟩ := Prod.mk.inj hz
    exact wp_zret xi_91 dX10_hasLayer_17 gz hq
  clear H
  have H := G8
  clear G8
  refine wp_if_lt 16 xi_91 dX10_hasLayer_1 rfl (fun c1 => ?_) (fun c1 => ?_)
  · rw [if_pos c1] at H
    refine wp_iconst 0 xi_91 dX10_hasLayer_16 rfl ?_
    obtain rfl := Option.some.inj H
    exact Wp.more (by simp [xMore, Value.category]) K5
  · rw [if_neg c1] at H
    refine wp_iload_n xi_91 dX10_hasLayer_4 rfl ?_
    refine wp_aload_n xi_91 dX10_hasLayer_5 rfl ?_
    obtain ⟨x6, gx6, H⟩ := Option.bind_eq_some_iff.mp H
    refine wq_getfi xi_91 dX10_hasLayer_6 xf_10_69 gx6 ?_
    refine wp_icmp_ge 16 xi_91 dX10_hasLayer_9 rfl (fun c7 => ?_) (fun c7 => ?_)
    · rw [if_pos c7] at H
      refine wp_iconst 0 xi_91 dX10_hasLayer_16 rfl ?_
      obtain rfl := Option.some.inj H
      exact Wp.more (by simp [xMore, Value.category]) K5
    · rw [if_neg c7] at H
      refine wp_iconst 1 xi_91 dX10_hasLayer_12 rfl ?_
      refine wp_goto 17 xi_91 dX10_hasLayer_13 rfl ?_
      obtain rfl := Option.some.inj H
      exact Wp.more (by simp [xMore, Value.category]) K5
/- FelledHasLost$Tower.bearers(III)I -/
def f_96  (p0 : Int32) (p1 : Int32) (p2 : Int32) (h : xH) : Option (Int32 × xH) :=
  ((if p0 ≤ p2 then
  some (p2)
  else
  some (p0) : Option (Int32))).bind fun (w2 : Int32) =>
  ((if p1 ≤ w2 then
  some (w2)
  else
  some (p1) : Option (Int32))).bind fun (w5 : Int32) =>
  (if w5 = (-1) then
  some (0, h)
  else
  ((if p0 = w5 then
  some (1)
  else
  some (0) : Option (Int32))).bind fun (w9 : Int32) =>
  ((if p1 = w5 then
  some (2)
  else
  some (0) : Option (Int32))).bind fun (w12 : Int32) =>
  ((if p2 = w5 then
  some (4)
  else
  some (0) : Option (Int32))).bind fun (w15 : Int32) =>
  ((if ((w9 ||| w12) ||| w15) = 1 then
  some (p2)
  else
  some (p0) : Option (Int32))).bind fun (w18 : Int32) =>
  ((if p1 ≤ w18 then
  some (w18)
  else
  some (p1) : Option (Int32))).bind fun (w21 : Int32) =>
  (if ((w9 ||| w12) ||| w15) = 1 then
  (if w21 = (-1) then
  some (((w9 ||| w12) ||| w15), h)
  else
  ((if p0 = w21 then
  some (1)
  else
  some (0) : Option (Int32))).bind fun (w26 : Int32) =>
  ((if p1 = w21 then
  some (2)
  else
  some (0) : Option (Int32))).bind fun (w29 : Int32) =>
  ((if p2 = w21 then
  some (4)
  else
  some (0) : Option (Int32))).bind fun (w32 : Int32) =>
  some ((((((w9 ||| w12) ||| w15) ||| w26) ||| w29) ||| w32), h))
  else
  (if ((w9 ||| w12) ||| w15) = 4 then
  (if w21 = (-1) then
  some (((w9 ||| w12) ||| w15), h)
  else
  ((if p0 = w21 then
  some (1)
  else
  some (0) : Option (Int32))).bind fun (w40 : Int32) =>
  ((if p1 = w21 then
  some (2)
  else
  some (0) : Option (Int32))).bind fun (w43 : Int32) =>
  ((if p2 = w21 then
  some (4)
  else
  some (0) : Option (Int32))).bind fun (w46 : Int32) =>
  some ((((((w9 ||| w12) ||| w15) ||| w40) ||| w43) ||| w46), h))
  else
  some (((w9 ||| w12) ||| w15), h))))
set_option maxHeartbeats 4000000 in
theorem e_96 (d : Nat) (Q : Option Value → xH → Prop)  {h : xH} {p0 : Int32} {p1 : Int32} {p2 : Int32} {x : Int32} {h1 : xH} (H : f_96  p0 p1 p2 h = some (x, h1)) (hq : Q (some (.int x)) h1) : Wp (d + 0) 96 0 [some (.int p0), some (.int p1), some (.int p2), none, none, none, none, none] [] h Q := by
  unfold f_96 at H
  refine wp_iload_n xi_96 dX10_bearers_0 rfl ?_
  refine wp_iload_n xi_96 dX10_bearers_1 rfl ?_
  obtain ⟨w2, G57, H⟩ := Option.bind_eq_some_iff.mp H
  have K3 : Wp (d + 0) 96 10 [some (.int p0), some (.int p1), some (.int p2), none, none, none, none, none] [.int w2] h Q := by
    refine wp_istore_n [some (.int p0), some (.int p1), some (.int p2), some (.int w2), none, none, none, none] xi_96 dX10_bearers_10 rfl ?_
    refine wp_iload_n xi_96 dX10_bearers_11 rfl ?_
    refine wp_iload_n xi_96 dX10_bearers_12 rfl ?_
    obtain ⟨w5, G56, H⟩ := Option.bind_eq_some_iff.mp H
    have K6 : Wp (d + 0) 96 21 [some (.int p0), some (.int p1), some (.int p2), some (.int w2), none, none, none, none] [.int w5] h Q := by
      refine wp_istore [some (.int p0), some (.int p1), some (.int p2), some (.int w2), some (.int w5), none, none, none] xi_96 dX10_bearers_21 rfl ?_
      refine wp_iload xi_96 dX10_bearers_23 rfl ?_
      refine wp_iconst (-1) xi_96 dX10_bearers_25 rfl ?_
      refine wp_icmp_ne 31 xi_96 dX10_bearers_26 rfl (fun c7 => ?_) (fun c7 => ?_)
      · rw [if_neg c7] at H
        refine wp_iload_n xi_96 dX10_bearers_31 rfl ?_
        refine wp_iload xi_96 dX10_bearers_32 rfl ?_
        obtain ⟨w9, G55, H⟩ := Option.bind_eq_some_iff.mp H
        have K10 : Wp (d + 0) 96 42 [some (.int p0), some (.int p1), some (.int p2), some (.int w2), some (.int w5), none, none, none] [.int w9] h Q := by
          refine wp_iload_n xi_96 dX10_bearers_42 rfl ?_
          refine wp_iload xi_96 dX10_bearers_43 rfl ?_
          obtain ⟨w12, G54, H⟩ := Option.bind_eq_some_iff.mp H
          have K13 : Wp (d + 0) 96 53 [some (.int p0), some (.int p1), some (.int p2), some (.int w2), some (.int w5), none, none, none] [.int w12, .int w9] h Q := by
            refine wp_ior xi_96 dX10_bearers_53 ?_
            refine wp_iload_n xi_96 dX10_bearers_54 rfl ?_
            refine wp_iload xi_96 dX10_bearers_55 rfl ?_
            obtain ⟨w15, G53, H⟩ := Option.bind_eq_some_iff.mp H
            have K16 : Wp (d + 0) 96 65 [some (.int p0), some (.int p1), some (.int p2), some (.int w2), some (.int w5), none, none, none] [.int w15, .int (w9 ||| w12)] h Q := by
              refine wp_ior xi_96 dX10_bearers_65 ?_
              refine wp_istore [some (.int p0), some (.int p1), some (.int p2), some (.int w2), some (.int w5), some (.int ((w9 ||| w12) ||| w15)), none, none] xi_96 dX10_bearers_66 rfl ?_
              refine wp_iload xi_96 dX10_bearers_68 rfl ?_
              refine wp_iconst 1 xi_96 dX10_bearers_70 rfl ?_
              obtain ⟨w18, G52, H⟩ := Option.bind_eq_some_iff.mp H
              have K19 : Wp (d + 0) 96 79 [some (.int p0), some (.int p1), some (.int p2), some (.int w2), some (.int w5), some (.int ((w9 ||| w12) ||| w15)), none, none] [.int w18] h Q := by
                refine wp_istore [some (.int p0), some (.int p1), some (.int p2), some (.int w2), some (.int w5), some (.int ((w9 ||| w12) ||| w15)), some (.int w18), none] xi_96 dX10_bearers_79 rfl ?_
                refine wp_iload_n xi_96 dX10_bearers_81 rfl ?_
                refine wp_iload xi_96 dX10_bearers_82 rfl ?_
                obtain ⟨w21, G51, H⟩ := Option.bind_eq_some_iff.mp H
                have K22 : Wp (d + 0) 96 93 [some (.int p0), some (.int p1), some (.int p2), some (.int w2), some (.int w5), some (.int ((w9 ||| w12) ||| w15)), some (.int w18), none] [.int w21] h Q := by
                  refine wp_istore [some (.int p0), some (.int p1), some (.int p2), some (.int w2), some (.int w5), some (.int ((w9 ||| w12) ||| w15)), some (.int w18), some (.int w21)] xi_96 dX10_bearers_93 rfl ?_
                  refine wp_iload xi_96 dX10_bearers_95 rfl ?_
                  refine wp_iconst 1 xi_96 dX10_bearers_97 rfl ?_
                  refine wp_icmp_eq 107 xi_96 dX10_bearers_98 rfl (fun c23 => ?_) (fun c23 => ?_)
                  · rw [if_pos c23] at H
                    refine wp_iload xi_96 dX10_bearers_107 rfl ?_
                    refine wp_iconst (-1) xi_96 dX10_bearers_109 rfl ?_
                    refine wp_icmp_ne 116 xi_96 dX10_bearers_110 rfl (fun c24 => ?_) (fun c24 => ?_)
                    · rw [if_neg c24] at H
                      refine wp_iload xi_96 dX10_bearers_116 rfl ?_
                      refine wp_iload_n xi_96 dX10_bearers_118 rfl ?_
                      refine wp_iload xi_96 dX10_bearers_119 rfl ?_
                      obtain ⟨w26, G36, H⟩ := Option.bind_eq_some_iff.mp H
                      have K27 : Wp (d + 0) 96 129 [some (.int p0), some (.int p1), some (.int p2), some (.int w2), some (.int w5), some (.int ((w9 ||| w12) ||| w15)), some (.int w18), some (.int w21)] [.int w26, .int ((w9 ||| w12) ||| w15)] h Q := by
                        refine wp_ior xi_96 dX10_bearers_129 ?_
                        refine wp_iload_n xi_96 dX10_bearers_130 rfl ?_
                        refine wp_iload xi_96 dX10_bearers_131 rfl ?_
                        obtain ⟨w29, G35, H⟩ := Option.bind_eq_some_iff.mp H
                        have K30 : Wp (d + 0) 96 141 [some (.int p0), some (.int p1), some (.int p2), some (.int w2), some (.int w5), some (.int ((w9 ||| w12) ||| w15)), some (.int w18), some (.int w21)] [.int w29, .int (((w9 ||| w12) ||| w15) ||| w26)] h Q := by
                          refine wp_ior xi_96 dX10_bearers_141 ?_
                          refine wp_iload_n xi_96 dX10_bearers_142 rfl ?_
                          refine wp_iload xi_96 dX10_bearers_143 rfl ?_
                          obtain ⟨w32, G34, H⟩ := Option.bind_eq_some_iff.mp H
                          have K33 : Wp (d + 0) 96 153 [some (.int p0), some (.int p1), some (.int p2), some (.int w2), some (.int w5), some (.int ((w9 ||| w12) ||| w15)), some (.int w18), some (.int w21)] [.int w32, .int ((((w9 ||| w12) ||| w15) ||| w26) ||| w29)] h Q := by
                            refine wp_ior xi_96 dX10_bearers_153 ?_
                            obtain ⟨rfl, rfl⟩ := oi2 H
                            exact wp_iret xi_96 dX10_bearers_154 hq
                          clear H
                          have H := G34
                          clear G34
                          refine wp_icmp_ne 152 xi_96 dX10_bearers_145 rfl (fun c31 => ?_) (fun c31 => ?_)
                          · rw [if_neg c31] at H
                            refine wp_iconst 0 xi_96 dX10_bearers_152 rfl ?_
                            obtain rfl := Option.some.inj H
                            exact Wp.more (by simp [xMore, Value.category]) K33
                          · rw [if_pos c31] at H
                            refine wp_iconst 4 xi_96 dX10_bearers_148 rfl ?_
                            refine wp_goto 153 xi_96 dX10_bearers_149 rfl ?_
                            obtain rfl := Option.some.inj H
                            exact Wp.more (by simp [xMore, Value.category]) K33
                        clear H
                        have H := G35
                        clear G35
                        refine wp_icmp_ne 140 xi_96 dX10_bearers_133 rfl (fun c28 => ?_) (fun c28 => ?_)
                        · rw [if_neg c28] at H
                          refine wp_iconst 0 xi_96 dX10_bearers_140 rfl ?_
                          obtain rfl := Option.some.inj H
                          exact Wp.more (by simp [xMore, Value.category]) K30
                        · rw [if_pos c28] at H
                          refine wp_iconst 2 xi_96 dX10_bearers_136 rfl ?_
                          refine wp_goto 141 xi_96 dX10_bearers_137 rfl ?_
                          obtain rfl := Option.some.inj H
                          exact Wp.more (by simp [xMore, Value.category]) K30
                      clear H
                      have H := G36
                      clear G36
                      refine wp_icmp_ne 128 xi_96 dX10_bearers_121 rfl (fun c25 => ?_) (fun c25 => ?_)
                      · rw [if_neg c25] at H
                        refine wp_iconst 0 xi_96 dX10_bearers_128 rfl ?_
                        obtain rfl := Option.some.inj H
                        exact Wp.more (by simp [xMore, Value.category]) K27
                      · rw [if_pos c25] at H
                        refine wp_iconst 1 xi_96 dX10_bearers_124 rfl ?_
                        refine wp_goto 129 xi_96 dX10_bearers_125 rfl ?_
                        obtain rfl := Option.some.inj H
                        exact Wp.more (by simp [xMore, Value.category]) K27
                    · rw [if_pos c24] at H
                      refine wp_iload xi_96 dX10_bearers_113 rfl ?_
                      obtain ⟨rfl, rfl⟩ := oi2 H
                      exact wp_iret xi_96 dX10_bearers_115 hq
                  · rw [if_neg c23] at H
                    refine wp_iload xi_96 dX10_bearers_101 rfl ?_
                    refine wp_iconst 4 xi_96 dX10_bearers_103 rfl ?_
                    refine wp_icmp_ne 113 xi_96 dX10_bearers_104 rfl (fun c37 => ?_) (fun c37 => ?_)
                    · rw [if_neg c37] at H
                      refine wp_iload xi_96 dX10_bearers_113 rfl ?_
                      obtain ⟨rfl, rfl⟩ := oi2 H
                      exact wp_iret xi_96 dX10_bearers_115 hq
                    · rw [if_pos c37] at H
                      refine wp_iload xi_96 dX10_bearers_107 rfl ?_
                      refine wp_iconst (-1) xi_96 dX10_bearers_109 rfl ?_
                      refine wp_icmp_ne 116 xi_96 dX10_bearers_110 rfl (fun c38 => ?_) (fun c38 => ?_)
                      · rw [if_neg c38] at H
                        refine wp_iload xi_96 dX10_bearers_116 rfl ?_
                        refine wp_iload_n xi_96 dX10_bearers_118 rfl ?_
                        refine wp_iload xi_96 dX10_bearers_119 rfl ?_
                        obtain ⟨w40, G50, H⟩ := Option.bind_eq_some_iff.mp H
                        have K41 : Wp (d + 0) 96 129 [some (.int p0), some (.int p1), some (.int p2), some (.int w2), some (.int w5), some (.int ((w9 ||| w12) ||| w15)), some (.int w18), some (.int w21)] [.int w40, .int ((w9 ||| w12) ||| w15)] h Q := by
                          refine wp_ior xi_96 dX10_bearers_129 ?_
                          refine wp_iload_n xi_96 dX10_bearers_130 rfl ?_
                          refine wp_iload xi_96 dX10_bearers_131 rfl ?_
                          obtain ⟨w43, G49, H⟩ := Option.bind_eq_some_iff.mp H
                          have K44 : Wp (d + 0) 96 141 [some (.int p0), some (.int p1), some (.int p2), some (.int w2), some (.int w5), some (.int ((w9 ||| w12) ||| w15)), some (.int w18), some (.int w21)] [.int w43, .int (((w9 ||| w12) ||| w15) ||| w40)] h Q := by
                            refine wp_ior xi_96 dX10_bearers_141 ?_
                            refine wp_iload_n xi_96 dX10_bearers_142 rfl ?_
                            refine wp_iload xi_96 dX10_bearers_143 rfl ?_
                            obtain ⟨w46, G48, H⟩ := Option.bind_eq_some_iff.mp H
                            have K47 : Wp (d + 0) 96 153 [some (.int p0), some (.int p1), some (.int p2), some (.int w2), some (.int w5), some (.int ((w9 ||| w12) ||| w15)), some (.int w18), some (.int w21)] [.int w46, .int ((((w9 ||| w12) ||| w15) ||| w40) ||| w43)] h Q := by
                              refine wp_ior xi_96 dX10_bearers_153 ?_
                              obtain ⟨rfl, rfl⟩ := oi2 H
                              exact wp_iret xi_96 dX10_bearers_154 hq
                            clear H
                            have H := G48
                            clear G48
                            refine wp_icmp_ne 152 xi_96 dX10_bearers_145 rfl (fun c45 => ?_) (fun c45 => ?_)
                            · rw [if_neg c45] at H
                              refine wp_iconst 0 xi_96 dX10_bearers_152 rfl ?_
                              obtain rfl := Option.some.inj H
                              exact Wp.more (by simp [xMore, Value.category]) K47
                            · rw [if_pos c45] at H
                              refine wp_iconst 4 xi_96 dX10_bearers_148 rfl ?_
                              refine wp_goto 153 xi_96 dX10_bearers_149 rfl ?_
                              obtain rfl := Option.some.inj H
                              exact Wp.more (by simp [xMore, Value.category]) K47
                          clear H
                          have H := G49
                          clear G49
                          refine wp_icmp_ne 140 xi_96 dX10_bearers_133 rfl (fun c42 => ?_) (fun c42 => ?_)
                          · rw [if_neg c42] at H
                            refine wp_iconst 0 xi_96 dX10_bearers_140 rfl ?_
                            obtain rfl := Option.some.inj H
                            exact Wp.more (by simp [xMore, Value.category]) K44
                          · rw [if_pos c42] at H
                            refine wp_iconst 2 xi_96 dX10_bearers_136 rfl ?_
                            refine wp_goto 141 xi_96 dX10_bearers_137 rfl ?_
                            obtain rfl := Option.some.inj H
                            exact Wp.more (by simp [xMore, Value.category]) K44
                        clear H
                        have H := G50
                        clear G50
                        refine wp_icmp_ne 128 xi_96 dX10_bearers_121 rfl (fun c39 => ?_) (fun c39 => ?_)
                        · rw [if_neg c39] at H
                          refine wp_iconst 0 xi_96 dX10_bearers_128 rfl ?_
                          obtain rfl := Option.some.inj H
                          exact Wp.more (by simp [xMore, Value.category]) K41
                        · rw [if_pos c39] at H
                          refine wp_iconst 1 xi_96 dX10_bearers_124 rfl ?_
                          refine wp_goto 129 xi_96 dX10_bearers_125 rfl ?_
                          obtain rfl := Option.some.inj H
                          exact Wp.more (by simp [xMore, Value.category]) K41
                      · rw [if_pos c38] at H
                        refine wp_iload xi_96 dX10_bearers_113 rfl ?_
                        obtain ⟨rfl, rfl⟩ := oi2 H
                        exact wp_iret xi_96 dX10_bearers_115 hq
                clear H
                have H := G51
                clear G51
                refine wp_icmp_le 91 xi_96 dX10_bearers_84 rfl (fun c20 => ?_) (fun c20 => ?_)
                · rw [if_pos c20] at H
                  refine wp_iload xi_96 dX10_bearers_91 rfl ?_
                  obtain rfl := Option.some.inj H
                  exact Wp.more (by simp [xMore, Value.category]) K22
                · rw [if_neg c20] at H
                  refine wp_iload_n xi_96 dX10_bearers_87 rfl ?_
                  refine wp_goto 93 xi_96 dX10_bearers_88 rfl ?_
                  obtain rfl := Option.some.inj H
                  exact Wp.more (by simp [xMore, Value.category]) K22
              clear H
              have H := G52
              clear G52
              refine wp_icmp_ne 78 xi_96 dX10_bearers_71 rfl (fun c17 => ?_) (fun c17 => ?_)
              · rw [if_neg c17] at H
                refine wp_iload_n xi_96 dX10_bearers_78 rfl ?_
                obtain rfl := Option.some.inj H
                exact Wp.more (by simp [xMore, Value.category]) K19
              · rw [if_pos c17] at H
                refine wp_iload_n xi_96 dX10_bearers_74 rfl ?_
                refine wp_goto 79 xi_96 dX10_bearers_75 rfl ?_
                obtain rfl := Option.some.inj H
                exact Wp.more (by simp [xMore, Value.category]) K19
            clear H
            have H := G53
            clear G53
            refine wp_icmp_ne 64 xi_96 dX10_bearers_57 rfl (fun c14 => ?_) (fun c14 => ?_)
            · rw [if_neg c14] at H
              refine wp_iconst 0 xi_96 dX10_bearers_64 rfl ?_
              obtain rfl := Option.some.inj H
              exact Wp.more (by simp [xMore, Value.category]) K16
            · rw [if_pos c14] at H
              refine wp_iconst 4 xi_96 dX10_bearers_60 rfl ?_
              refine wp_goto 65 xi_96 dX10_bearers_61 rfl ?_
              obtain rfl := Option.some.inj H
              exact Wp.more (by simp [xMore, Value.category]) K16
          clear H
          have H := G54
          clear G54
          refine wp_icmp_ne 52 xi_96 dX10_bearers_45 rfl (fun c11 => ?_) (fun c11 => ?_)
          · rw [if_neg c11] at H
            refine wp_iconst 0 xi_96 dX10_bearers_52 rfl ?_
            obtain rfl := Option.some.inj H
            exact Wp.more (by simp [xMore, Value.category]) K13
          · rw [if_pos c11] at H
            refine wp_iconst 2 xi_96 dX10_bearers_48 rfl ?_
            refine wp_goto 53 xi_96 dX10_bearers_49 rfl ?_
            obtain rfl := Option.some.inj H
            exact Wp.more (by simp [xMore, Value.category]) K13
        clear H
        have H := G55
        clear G55
        refine wp_icmp_ne 41 xi_96 dX10_bearers_34 rfl (fun c8 => ?_) (fun c8 => ?_)
        · rw [if_neg c8] at H
          refine wp_iconst 0 xi_96 dX10_bearers_41 rfl ?_
          obtain rfl := Option.some.inj H
          exact Wp.more (by simp [xMore, Value.category]) K10
        · rw [if_pos c8] at H
          refine wp_iconst 1 xi_96 dX10_bearers_37 rfl ?_
          refine wp_goto 42 xi_96 dX10_bearers_38 rfl ?_
          obtain rfl := Option.some.inj H
          exact Wp.more (by simp [xMore, Value.category]) K10
      · rw [if_pos c7] at H
        refine wp_iconst 0 xi_96 dX10_bearers_29 rfl ?_
        obtain ⟨rfl, rfl⟩ := oi2 H
        exact wp_iret xi_96 dX10_bearers_30 hq
    clear H
    have H := G56
    clear G56
    refine wp_icmp_le 20 xi_96 dX10_bearers_13 rfl (fun c4 => ?_) (fun c4 => ?_)
    · rw [if_pos c4] at H
      refine wp_iload_n xi_96 dX10_bearers_20 rfl ?_
      obtain rfl := Option.some.inj H
      exact Wp.more (by simp [xMore, Value.category]) K6
    · rw [if_neg c4] at H
      refine wp_iload_n xi_96 dX10_bearers_16 rfl ?_
      refine wp_goto 21 xi_96 dX10_bearers_17 rfl ?_
      obtain rfl := Option.some.inj H
      exact Wp.more (by simp [xMore, Value.category]) K6
  clear H
  have H := G57
  clear G57
  refine wp_icmp_le 9 xi_96 dX10_bearers_2 rfl (fun c1 => ?_) (fun c1 => ?_)
  · rw [if_pos c1] at H
    refine wp_iload_n xi_96 dX10_bearers_9 rfl ?_
    obtain rfl := Option.some.inj H
    exact Wp.more (by simp [xMore, Value.category]) K3
  · rw [if_neg c1] at H
    refine wp_iload_n xi_96 dX10_bearers_5 rfl ?_
    refine wp_goto 10 xi_96 dX10_bearers_6 rfl ?_
    obtain rfl := Option.some.inj H
    exact Wp.more (by simp [xMore, Value.category]) K3
/- FelledHasLost$Tower.blocksIn(I)I -/
def f_97_4  : Nat → Nat → Int32 → Int32 → Int32 → xH → Option (Int32 × xH)
  | 0, _, _, _, _, _ => none
  | n + 1, a0, a1, a2, a3, h =>
  (if (3 : Int32) ≤ a3 then
  some (a2, h)
  else
  (pG (pIs h a0 10)).bind fun _ =>
  (f_90 a0 ((3 * a1) + a3) h).bind fun (x4, h3) =>
  ((if x4 = 0 then
  some (0)
  else
  some (1) : Option (Int32))).bind fun (w6 : Int32) =>
  f_97_4 n a0 a1 (a2 + w6) (a3 + 1) h3)
theorem ef_97_4 (d : Nat) (Q : Option Value → xH → Prop)  : ∀ (n : Nat) (a0 : Nat) (a1 : Int32) (a2 : Int32) (a3 : Int32) (h : xH) (r : Int32 × xH), f_97_4 n a0 a1 a2 a3 h = some r → (∀ (w2 : Int32) (h1 : xH), r = (w2, h1) → Wp (d + 1) 97 35 [none, none, some (.int w2), none] [] h1 Q) → Wp (d + 1) 97 4 [some (.ref a0), some (.int a1), some (.int a2), some (.int a3)] [] h Q := by
  intro n
  induction n with
  | zero =>
    intro a0 a1 a2 a3 h r H
    cases H
  | succ n ih =>
    intro a0 a1 a2 a3 h r H KE
    unfold f_97_4 at H
    refine wp_iload_n xi_97 dX10_blocksIn_4 rfl ?_
    refine wp_iconst 3 xi_97 dX10_blocksIn_5 rfl ?_
    refine wp_icmp_ge 35 xi_97 dX10_blocksIn_6 rfl (fun c1 => ?_) (fun c1 => ?_)
    · rw [if_pos c1] at H
      obtain rfl := Option.some.inj H
      exact Wp.more (by simp [xMore, Value.category]) (KE a2 h rfl)
    · rw [if_neg c1] at H
      refine wp_iload_n xi_97 dX10_blocksIn_9 rfl ?_
      refine wp_aload_n xi_97 dX10_blocksIn_10 rfl ?_
      refine wp_iconst 3 xi_97 dX10_blocksIn_11 rfl ?_
      refine wp_iload_n xi_97 dX10_blocksIn_12 rfl ?_
      refine wp_imul xi_97 dX10_blocksIn_13 ?_
      refine wp_iload_n xi_97 dX10_blocksIn_14 rfl ?_
      refine wp_iadd xi_97 dX10_blocksIn_15 ?_
      obtain ⟨u2, gu2, H⟩ := Option.bind_eq_some_iff.mp H
      obtain ⟨⟨x4, h3⟩, gh3, H⟩ := Option.bind_eq_some_iff.mp H
      dsimp only at H
      refine wq_callV (a := a0) (as := [.int ((3 * a1) + a3)]) (r := [.int a2]) (v1 := (some (.int x4))) xi_97 xi_90 dX10_blocksIn_16 xm_10_82 rfl (Nat.le_of_ble_eq_true rfl) (pG_ok gu2) ⟨(Nat.le_of_ble_eq_true rfl), (Nat.le_of_ble_eq_true rfl)⟩ rfl nofun (e_90 d _ gh3 ⟨rfl, rfl⟩) ?_
      change Wp _ _ _ _ [.int x4, .int a2] _ _
      obtain ⟨w6, G8, H⟩ := Option.bind_eq_some_iff.mp H
      have K7 : Wp (d + 1) 97 27 [some (.ref a0), some (.int a1), some (.int a2), some (.int a3)] [.int w6, .int a2] h3 Q := by
        refine wp_iadd xi_97 dX10_blocksIn_27 ?_
        refine wp_istore_n [some (.ref a0), some (.int a1), some (.int (a2 + w6)), some (.int a3)] xi_97 dX10_blocksIn_28 rfl ?_
        refine wp_iinc (a3 + 1) [some (.ref a0), some (.int a1), some (.int (a2 + w6)), some (.int (a3 + 1))] xi_97 dX10_blocksIn_29 rfl rfl rfl ?_
        refine wp_goto 4 xi_97 dX10_blocksIn_32 rfl ?_
        exact Wp.more (by simp [xMore, Value.category]) (ih a0 a1 (a2 + w6) (a3 + 1) h3 _ H KE)
      clear H
      have H := G8
      clear G8
      refine wp_if_eq 26 xi_97 dX10_blocksIn_19 rfl (fun c5 => ?_) (fun c5 => ?_)
      · rw [if_pos c5] at H
        refine wp_iconst 0 xi_97 dX10_blocksIn_26 rfl ?_
        obtain rfl := Option.some.inj H
        exact Wp.more (by simp [xMore, Value.category]) K7
      · rw [if_neg c5] at H
        refine wp_iconst 1 xi_97 dX10_blocksIn_22 rfl ?_
        refine wp_goto 27 xi_97 dX10_blocksIn_23 rfl ?_
        obtain rfl := Option.some.inj H
        exact Wp.more (by simp [xMore, Value.category]) K7
def f_97  (a : Nat) (p0 : Int32) (h : xH) : Option (Int32 × xH) :=
  (f_97_4 100000 a p0 0 0 h).bind fun (w2, h1) =>
  some (w2, h1)
set_option maxHeartbeats 4000000 in
theorem e_97 (d : Nat) (Q : Option Value → xH → Prop)  {h : xH} {a : Nat} {p0 : Int32} {x : Int32} {h1 : xH} (H : f_97  a p0 h = some (x, h1)) (hq : Q (some (.int x)) h1) : Wp (d + 1) 97 0 [some (.ref a), some (.int p0), none, none] [] h Q := by
  unfold f_97 at H
  refine wp_iconst 0 xi_97 dX10_blocksIn_0 rfl ?_
  refine wp_istore_n [some (.ref a), some (.int p0), some (.int 0), none] xi_97 dX10_blocksIn_1 rfl ?_
  refine wp_iconst 0 xi_97 dX10_blocksIn_2 rfl ?_
  refine wp_istore_n [some (.ref a), some (.int p0), some (.int 0), some (.int 0)] xi_97 dX10_blocksIn_3 rfl ?_
  obtain ⟨⟨w2, h1⟩, G3, H⟩ := Option.bind_eq_some_iff.mp H
  dsimp only at H
  refine Wp.more (by simp [xMore, Value.category]) (ef_97_4 d Q  100000 a p0 0 0 h _ G3 (fun z0 z1 e9 => ?_))
  cases e9
  refine wp_iload_n xi_97 dX10_blocksIn_35 rfl ?_
  obtain ⟨rfl, rfl⟩ := oi2 H
  exact wp_iret xi_97 dX10_blocksIn_36 hq
/- FelledHasLost$Tower.blocksAbove(I)I -/
def f_98_6  : Nat → Nat → Int32 → Int32 → xH → Option (Int32 × xH)
  | 0, _, _, _, _ => none
  | n + 1, a0, a2, a3, h =>
  (pFi h a0 10 4).bind fun x1 =>
  (if x1 ≤ a3 then
  some (a2, h)
  else
  (pG (pIs h a0 10)).bind fun _ =>
  (f_97 a0 a3 h).bind fun (x5, h4) =>
  f_98_6 n a0 (a2 + x5) (a3 + 1) h4)
theorem ef_98_6 (d : Nat) (Q : Option Value → xH → Prop)  : ∀ (n : Nat) (a0 : Nat) (a2 : Int32) (a3 : Int32) (h : xH) (r : Int32 × xH), f_98_6 n a0 a2 a3 h = some r → (∀ (w2 : Int32) (h1 : xH), r = (w2, h1) → Wp (d + 2) 98 28 [none, none, some (.int w2), none] [] h1 Q) → Wp (d + 2) 98 6 [some (.ref a0), none, some (.int a2), some (.int a3)] [] h Q := by
  intro n
  induction n with
  | zero =>
    intro a0 a2 a3 h r H
    cases H
  | succ n ih =>
    intro a0 a2 a3 h r H KE
    unfold f_98_6 at H
    refine wp_iload_n xi_98 dX10_blocksAbove_6 rfl ?_
    refine wp_aload_n xi_98 dX10_blocksAbove_7 rfl ?_
    obtain ⟨x1, gx1, H⟩ := Option.bind_eq_some_iff.mp H
    refine wq_getfi xi_98 dX10_blocksAbove_8 xf_10_69 gx1 ?_
    refine wp_icmp_ge 28 xi_98 dX10_blocksAbove_11 rfl (fun c2 => ?_) (fun c2 => ?_)
    · rw [if_pos c2] at H
      obtain rfl := Option.some.inj H
      exact Wp.more (by simp [xMore, Value.category]) (KE a2 h rfl)
    · rw [if_neg c2] at H
      refine wp_iload_n xi_98 dX10_blocksAbove_14 rfl ?_
      refine wp_aload_n xi_98 dX10_blocksAbove_15 rfl ?_
      refine wp_iload_n xi_98 dX10_blocksAbove_16 rfl ?_
      obtain ⟨u3, gu3, H⟩ := Option.bind_eq_some_iff.mp H
      obtain ⟨⟨x5, h4⟩, gh4, H⟩ := Option.bind_eq_some_iff.mp H
      dsimp only at H
      refine wq_callV (a := a0) (as := [.int a3]) (r := [.int a2]) (v1 := (some (.int x5))) xi_98 xi_97 dX10_blocksAbove_17 xm_10_93 rfl (Nat.le_of_ble_eq_true rfl) (pG_ok gu3) ⟨(Nat.le_of_ble_eq_true rfl), (Nat.le_of_ble_eq_true rfl)⟩ rfl nofun (e_97 d _ gh4 ⟨rfl, rfl⟩) ?_
      change Wp _ _ _ _ [.int x5, .int a2] _ _
      refine wp_iadd xi_98 dX10_blocksAbove_20 ?_
      refine wp_istore_n [some (.ref a0), none, some (.int (a2 + x5)), some (.int a3)] xi_98 dX10_blocksAbove_21 rfl ?_
      refine wp_iinc (a3 + 1) [some (.ref a0), none, some (.int (a2 + x5)), some (.int (a3 + 1))] xi_98 dX10_blocksAbove_22 rfl rfl rfl ?_
      refine wp_goto 6 xi_98 dX10_blocksAbove_25 rfl ?_
      exact Wp.more (by simp [xMore, Value.category]) (ih a0 (a2 + x5) (a3 + 1) h4 _ H KE)
def f_98  (a : Nat) (p0 : Int32) (h : xH) : Option (Int32 × xH) :=
  (f_98_6 100000 a 0 (p0 + 1) h).bind fun (w2, h1) =>
  some (w2, h1)
set_option maxHeartbeats 4000000 in
theorem e_98 (d : Nat) (Q : Option Value → xH → Prop)  {h : xH} {a : Nat} {p0 : Int32} {x : Int32} {h1 : xH} (H : f_98  a p0 h = some (x, h1)) (hq : Q (some (.int x)) h1) : Wp (d + 2) 98 0 [some (.ref a), some (.int p0), none, none] [] h Q := by
  unfold f_98 at H
  refine wp_iconst 0 xi_98 dX10_blocksAbove_0 rfl ?_
  refine wp_istore_n [some (.ref a), some (.int p0), some (.int 0), none] xi_98 dX10_blocksAbove_1 rfl ?_
  refine wp_iload_n xi_98 dX10_blocksAbove_2 rfl ?_
  refine wp_iconst 1 xi_98 dX10_blocksAbove_3 rfl ?_
  refine wp_iadd xi_98 dX10_blocksAbove_4 ?_
  refine wp_istore_n [some (.ref a), some (.int p0), some (.int 0), some (.int (p0 + 1))] xi_98 dX10_blocksAbove_5 rfl ?_
  obtain ⟨⟨w2, h1⟩, G3, H⟩ := Option.bind_eq_some_iff.mp H
  dsimp only at H
  refine Wp.more (by simp [xMore, Value.category]) (ef_98_6 d Q  100000 a 0 (p0 + 1) h _ G3 (fun z0 z1 e9 => ?_))
  cases e9
  refine wp_iload_n xi_98 dX10_blocksAbove_28 rfl ?_
  obtain ⟨rfl, rfl⟩ := oi2 H
  exact wp_iret xi_98 dX10_blocksAbove_29 hq
/- FelledHasLost$Tower.isTight(I)Z -/
def f_99  (a : Nat) (p0 : Int32) (h : xH) : Option (Int32 × xH) :=
  (pG (pIs h a 10)).bind fun _ =>
  (f_90 a p0 h).bind fun (x3, h2) =>
  ((if x3 = 0 then
  some (0)
  else
  (pFr h2 a 10 3).bind fun x12 =>
  (pDiv p0 3).bind fun x13 =>
  (pAi h2 x12 x13).bind fun x14 =>
  (pRem p0 3).bind fun x15 =>
  (if ((x14 >>> (x15 &&& 31)) &&& 1) = 1 then
  some (1)
  else
  some (0)) : Option (Int32))).bind fun (w10 : Int32) =>
  pZ w10 h2
set_option maxHeartbeats 4000000 in
theorem e_99 (d : Nat) (Q : Option Value → xH → Prop)  {h : xH} {a : Nat} {p0 : Int32} {x : Int32} {h1 : xH} (H : f_99  a p0 h = some (x, h1)) (hq : Q (some (.int x)) h1) : Wp (d + 1) 99 0 [some (.ref a), some (.int p0)] [] h Q := by
  unfold f_99 at H
  refine wp_aload_n xi_99 dX10_isTight_0 rfl ?_
  refine wp_iload_n xi_99 dX10_isTight_1 rfl ?_
  obtain ⟨u1, gu1, H⟩ := Option.bind_eq_some_iff.mp H
  obtain ⟨⟨x3, h2⟩, gh2, H⟩ := Option.bind_eq_some_iff.mp H
  dsimp only at H
  refine wq_callV (a := a) (as := [.int p0]) (r := []) (v1 := (some (.int x3))) xi_99 xi_90 dX10_isTight_2 xm_10_82 rfl (Nat.le_of_ble_eq_true rfl) (pG_ok gu1) ⟨(Nat.le_of_ble_eq_true rfl), (Nat.le_of_ble_eq_true rfl)⟩ rfl nofun (e_90 d _ gh2 ⟨rfl, rfl⟩) ?_
  change Wp _ _ _ _ [.int x3] _ _
  obtain ⟨w10, G17, H⟩ := Option.bind_eq_some_iff.mp H
  have K11 : Wp (d + 1) 99 31 [some (.ref a), some (.int p0)] [.int w10] h2 Q := by
    obtain ⟨gz, hz⟩ := pZ_ok H
    obtain ⟨rfl, rfl⟩ := Prod.mk.inj hz
    exact wp_zret xi_99 dX10_isTight_31 gz hq
  clear H
  have H := G17
  clear G17
  refine wp_if_eq 30 xi_99 dX10_isTight_5 rfl (fun c4 => ?_) (fun c4 => ?_)
  · rw [if_pos c4] at H
    refine wp_iconst 0 xi_99 dX10_isTight_30 rfl ?_
    obtain rfl := Option.some.inj H
    exact Wp.more (by simp [xMore, Value.category]) K11
  · rw [if_neg c4] at H
    refine wp_aload_n xi_99 dX10_isTight_8 rfl ?_
    obtain ⟨x12, gx12, H⟩ := Option.bind_eq_some_iff.mp H
    refine wq_getfr xi_99 dX10_isTight_9 xf_10_21 gx12 ?_
    refine wp_iload_n xi_99 dX10_isTight_12 rfl ?_
    refine wp_iconst 3 xi_99 dX10_isTight_13 rfl ?_
    obtain ⟨x13, gx13, H⟩ := Option.bind_eq_some_iff.mp H
    refine wq_idiv xi_99 dX10_isTight_14 gx13 ?_
    obtain ⟨x14, gx14, H⟩ := Option.bind_eq_some_iff.mp H
    refine wq_iaload xi_99 dX10_isTight_15 gx14 ?_
    refine wp_iload_n xi_99 dX10_isTight_16 rfl ?_
    refine wp_iconst 3 xi_99 dX10_isTight_17 rfl ?_
    obtain ⟨x15, gx15, H⟩ := Option.bind_eq_some_iff.mp H
    refine wq_irem xi_99 dX10_isTight_18 gx15 ?_
    refine wp_ishr xi_99 dX10_isTight_19 ?_
    refine wp_iconst 1 xi_99 dX10_isTight_20 rfl ?_
    refine wp_iand xi_99 dX10_isTight_21 ?_
    refine wp_iconst 1 xi_99 dX10_isTight_22 rfl ?_
    refine wp_icmp_ne 30 xi_99 dX10_isTight_23 rfl (fun c16 => ?_) (fun c16 => ?_)
    · rw [if_neg c16] at H
      refine wp_iconst 0 xi_99 dX10_isTight_30 rfl ?_
      obtain rfl := Option.some.inj H
      exact Wp.more (by simp [xMore, Value.category]) K11
    · rw [if_pos c16] at H
      refine wp_iconst 1 xi_99 dX10_isTight_26 rfl ?_
      refine wp_goto 31 xi_99 dX10_isTight_27 rfl ?_
      obtain rfl := Option.some.inj H
      exact Wp.more (by simp [xMore, Value.category]) K11
/- FelledHasLost$Tower.looseIn(I)I -/
def f_100_4  : Nat → Nat → Int32 → Int32 → Int32 → xH → Option (Int32 × xH)
  | 0, _, _, _, _, _ => none
  | n + 1, a0, a1, a2, a3, h =>
  (if (3 : Int32) ≤ a3 then
  some (a2, h)
  else
  (pG (pIs h a0 10)).bind fun _ =>
  (f_90 a0 ((3 * a1) + a3) h).bind fun (x4, h3) =>
  ((if x4 = 0 then
  some (0)
  else
  some ((1 <<< (a3 &&& 31))) : Option (Int32))).bind fun (w6 : Int32) =>
  f_100_4 n a0 a1 (a2 ||| w6) (a3 + 1) h3)
theorem ef_100_4 (d : Nat) (Q : Option Value → xH → Prop)  : ∀ (n : Nat) (a0 : Nat) (a1 : Int32) (a2 : Int32) (a3 : Int32) (h : xH) (r : Int32 × xH), f_100_4 n a0 a1 a2 a3 h = some r → (∀ (w2 : Int32) (h1 : xH), r = (w2, h1) → Wp (d + 1) 100 37 [some (.ref a0), some (.int a1), some (.int w2), none] [] h1 Q) → Wp (d + 1) 100 4 [some (.ref a0), some (.int a1), some (.int a2), some (.int a3)] [] h Q := by
  intro n
  induction n with
  | zero =>
    intro a0 a1 a2 a3 h r H
    cases H
  | succ n ih =>
    intro a0 a1 a2 a3 h r H KE
    unfold f_100_4 at H
    refine wp_iload_n xi_100 dX10_looseIn_4 rfl ?_
    refine wp_iconst 3 xi_100 dX10_looseIn_5 rfl ?_
    refine wp_icmp_ge 37 xi_100 dX10_looseIn_6 rfl (fun c1 => ?_) (fun c1 => ?_)
    · rw [if_pos c1] at H
      obtain rfl := Option.some.inj H
      exact Wp.more (by simp [xMore, Value.category]) (KE a2 h rfl)
    · rw [if_neg c1] at H
      refine wp_iload_n xi_100 dX10_looseIn_9 rfl ?_
      refine wp_aload_n xi_100 dX10_looseIn_10 rfl ?_
      refine wp_iconst 3 xi_100 dX10_looseIn_11 rfl ?_
      refine wp_iload_n xi_100 dX10_looseIn_12 rfl ?_
      refine wp_imul xi_100 dX10_looseIn_13 ?_
      refine wp_iload_n xi_100 dX10_looseIn_14 rfl ?_
      refine wp_iadd xi_100 dX10_looseIn_15 ?_
      obtain ⟨u2, gu2, H⟩ := Option.bind_eq_some_iff.mp H
      obtain ⟨⟨x4, h3⟩, gh3, H⟩ := Option.bind_eq_some_iff.mp H
      dsimp only at H
      refine wq_callV (a := a0) (as := [.int ((3 * a1) + a3)]) (r := [.int a2]) (v1 := (some (.int x4))) xi_100 xi_90 dX10_looseIn_16 xm_10_82 rfl (Nat.le_of_ble_eq_true rfl) (pG_ok gu2) ⟨(Nat.le_of_ble_eq_true rfl), (Nat.le_of_ble_eq_true rfl)⟩ rfl nofun (e_90 d _ gh3 ⟨rfl, rfl⟩) ?_
      change Wp _ _ _ _ [.int x4, .int a2] _ _
      obtain ⟨w6, G8, H⟩ := Option.bind_eq_some_iff.mp H
      have K7 : Wp (d + 1) 100 29 [some (.ref a0), some (.int a1), some (.int a2), some (.int a3)] [.int w6, .int a2] h3 Q := by
        refine wp_ior xi_100 dX10_looseIn_29 ?_
        refine wp_istore_n [some (.ref a0), some (.int a1), some (.int (a2 ||| w6)), some (.int a3)] xi_100 dX10_looseIn_30 rfl ?_
        refine wp_iinc (a3 + 1) [some (.ref a0), some (.int a1), some (.int (a2 ||| w6)), some (.int (a3 + 1))] xi_100 dX10_looseIn_31 rfl rfl rfl ?_
        refine wp_goto 4 xi_100 dX10_looseIn_34 rfl ?_
        exact Wp.more (by simp [xMore, Value.category]) (ih a0 a1 (a2 ||| w6) (a3 + 1) h3 _ H KE)
      clear H
      have H := G8
      clear G8
      refine wp_if_eq 28 xi_100 dX10_looseIn_19 rfl (fun c5 => ?_) (fun c5 => ?_)
      · rw [if_pos c5] at H
        refine wp_iconst 0 xi_100 dX10_looseIn_28 rfl ?_
        obtain rfl := Option.some.inj H
        exact Wp.more (by simp [xMore, Value.category]) K7
      · rw [if_neg c5] at H
        refine wp_iconst 1 xi_100 dX10_looseIn_22 rfl ?_
        refine wp_iload_n xi_100 dX10_looseIn_23 rfl ?_
        refine wp_ishl xi_100 dX10_looseIn_24 ?_
        refine wp_goto 29 xi_100 dX10_looseIn_25 rfl ?_
        obtain rfl := Option.some.inj H
        exact Wp.more (by simp [xMore, Value.category]) K7
def f_100  (a : Nat) (p0 : Int32) (h : xH) : Option (Int32 × xH) :=
  (f_100_4 100000 a p0 0 0 h).bind fun (w2, h1) =>
  (pG (pIs h1 a 10)).bind fun _ =>
  (f_91 a p0 h1).bind fun (x7, h6) =>
  ((if x7 = 0 then
  some (0)
  else
  (pFr h6 a 10 3).bind fun x13 =>
  (pAi h6 x13 p0).bind fun x14 =>
  some ((w2 &&& (x14 ^^^ (-1)))) : Option (Int32))).bind fun (w11 : Int32) =>
  some (w11, h6)
set_option maxHeartbeats 4000000 in
theorem e_100 (d : Nat) (Q : Option Value → xH → Prop)  {h : xH} {a : Nat} {p0 : Int32} {x : Int32} {h1 : xH} (H : f_100  a p0 h = some (x, h1)) (hq : Q (some (.int x)) h1) : Wp (d + 1) 100 0 [some (.ref a), some (.int p0), none, none] [] h Q := by
  unfold f_100 at H
  refine wp_iconst 0 xi_100 dX10_looseIn_0 rfl ?_
  refine wp_istore_n [some (.ref a), some (.int p0), some (.int 0), none] xi_100 dX10_looseIn_1 rfl ?_
  refine wp_iconst 0 xi_100 dX10_looseIn_2 rfl ?_
  refine wp_istore_n [some (.ref a), some (.int p0), some (.int 0), some (.int 0)] xi_100 dX10_looseIn_3 rfl ?_
  obtain ⟨⟨w2, h1⟩, G3, H⟩ := Option.bind_eq_some_iff.mp H
  dsimp only at H
  refine Wp.more (by simp [xMore, Value.category]) (ef_100_4 d Q  100000 a p0 0 0 h _ G3 (fun z0 z1 e9 => ?_))
  cases e9
  refine wp_aload_n xi_100 dX10_looseIn_37 rfl ?_
  refine wp_iload_n xi_100 dX10_looseIn_38 rfl ?_
  obtain ⟨u5, gu5, H⟩ := Option.bind_eq_some_iff.mp H
  obtain ⟨⟨x7, h6⟩, gh6, H⟩ := Option.bind_eq_some_iff.mp H
  dsimp only at H
  refine wq_callV (a := a) (as := [.int p0]) (r := []) (v1 := (some (.int x7))) xi_100 xi_91 dX10_looseIn_39 xm_10_96 rfl (Nat.le_of_ble_eq_true rfl) (pG_ok gu5) ⟨(Nat.le_of_ble_eq_true rfl), (Nat.le_of_ble_eq_true rfl)⟩ rfl nofun (e_91 d _ gh6 ⟨rfl, rfl⟩) ?_
  change Wp _ _ _ _ [.int x7] _ _
  obtain ⟨w11, G15, H⟩ := Option.bind_eq_some_iff.mp H
  have K12 : Wp (d + 1) 100 59 [some (.ref a), some (.int p0), some (.int w2), none] [.int w11] h6 Q := by
    obtain ⟨rfl, rfl⟩ := oi2 H
    exact wp_iret xi_100 dX10_looseIn_59 hq
  clear H
  have H := G15
  clear G15
  refine wp_if_eq 58 xi_100 dX10_looseIn_42 rfl (fun c8 => ?_) (fun c8 => ?_)
  · rw [if_pos c8] at H
    refine wp_iconst 0 xi_100 dX10_looseIn_58 rfl ?_
    obtain rfl := Option.some.inj H
    exact Wp.more (by simp [xMore, Value.category]) K12
  · rw [if_neg c8] at H
    refine wp_iload_n xi_100 dX10_looseIn_45 rfl ?_
    refine wp_aload_n xi_100 dX10_looseIn_46 rfl ?_
    obtain ⟨x13, gx13, H⟩ := Option.bind_eq_some_iff.mp H
    refine wq_getfr xi_100 dX10_looseIn_47 xf_10_21 gx13 ?_
    refine wp_iload_n xi_100 dX10_looseIn_50 rfl ?_
    obtain ⟨x14, gx14, H⟩ := Option.bind_eq_some_iff.mp H
    refine wq_iaload xi_100 dX10_looseIn_51 gx14 ?_
    refine wp_iconst (-1) xi_100 dX10_looseIn_52 rfl ?_
    refine wp_ixor xi_100 dX10_looseIn_53 ?_
    refine wp_iand xi_100 dX10_looseIn_54 ?_
    refine wp_goto 59 xi_100 dX10_looseIn_55 rfl ?_
    obtain rfl := Option.some.inj H
    exact Wp.more (by simp [xMore, Value.category]) K12
/- FelledHasLost$Tower.movesEnd()I -/
def f_101  (a : Nat) (h : xH) : Option (Int32 × xH) :=
  (pFi h a 10 4).bind fun x1 =>
  some ((30 * x1), h)
set_option maxHeartbeats 4000000 in
theorem e_101 (d : Nat) (Q : Option Value → xH → Prop)  {h : xH} {a : Nat} {x : Int32} {h1 : xH} (H : f_101  a h = some (x, h1)) (hq : Q (some (.int x)) h1) : Wp (d + 0) 101 0 [some (.ref a)] [] h Q := by
  unfold f_101 at H
  refine wp_bipush 30 xi_101 dX10_movesEnd_0 rfl ?_
  refine wp_aload_n xi_101 dX10_movesEnd_2 rfl ?_
  obtain ⟨x1, gx1, H⟩ := Option.bind_eq_some_iff.mp H
  refine wq_getfi xi_101 dX10_movesEnd_3 xf_10_69 gx1 ?_
  refine wp_imul xi_101 dX10_movesEnd_6 ?_
  obtain ⟨rfl, rfl⟩ := oi2 H
  exact wp_iret xi_101 dX10_movesEnd_7 hq
/- FelledHasLost$Tower.canGo(I)Z -/
def f_102  (a : Nat) (p0 : Int32) (h : xH) : Option (Int32 × xH) :=
  (if p0 < 0 then
  pZ 0 h
  else
  (pRem p0 10).bind fun x2 =>
  (if (3 : Int32) ≤ x2 then
  pZ 0 h
  else
  (pDiv p0 10).bind fun x4 =>
  (pG (pIs h a 10)).bind fun _ =>
  (f_90 a x4 h).bind fun (x7, h6) =>
  (if x7 = 0 then
  pZ 0 h6
  else
  (pDiv p0 10).bind fun x9 =>
  (pDiv x9 3).bind fun x10 =>
  (pFi h6 a 10 4).bind fun x11 =>
  (pG (pIs h6 a 10)).bind fun _ =>
  (f_97 a (x11 - 1) h6).bind fun (x14, h13) =>
  (if (3 : Int32) ≤ x14 then
  ((if (x11 - 1) ≤ x10 then
  some (0)
  else
  (pFi h13 a 10 4).bind fun x21 =>
  (if (16 : Int32) ≤ x21 then
  some (0)
  else
  some (1)) : Option (Int32))).bind fun (w19 : Int32) =>
  pZ w19 h13
  else
  ((if ((x11 - 1) - 1) ≤ x10 then
  some (0, h13)
  else
  (pRem p0 10).bind fun x33 =>
  (pG (pIs h13 a 10)).bind fun _ =>
  (f_90 a ((3 * (x11 - 1)) + x33) h13).bind fun (x36, h35) =>
  (if x36 = 0 then
  some (1, h35)
  else
  some (0, h35)) : Option (Int32 × xH))).bind fun (w30, h31) =>
  pZ w30 h31))))
set_option maxHeartbeats 4000000 in
theorem e_102 (d : Nat) (Q : Option Value → xH → Prop)  {h : xH} {a : Nat} {p0 : Int32} {x : Int32} {h1 : xH} (H : f_102  a p0 h = some (x, h1)) (hq : Q (some (.int x)) h1) : Wp (d + 2) 102 0 [some (.ref a), some (.int p0), none, none] [] h Q := by
  unfold f_102 at H
  refine wp_iload_n xi_102 dX10_canGo_0 rfl ?_
  refine wp_if_lt 23 xi_102 dX10_canGo_1 rfl (fun c1 => ?_) (fun c1 => ?_)
  · rw [if_pos c1] at H
    refine wp_iconst 0 xi_102 dX10_canGo_23 rfl ?_
    obtain ⟨gz, hz⟩ := pZ_ok H
    obtain ⟨rfl, rfl⟩ := Prod.mk.inj hz
    exact wp_zret xi_102 dX10_canGo_24 gz hq
  · rw [if_neg c1] at H
    refine wp_iload_n xi_102 dX10_canGo_4 rfl ?_
    refine wp_bipush 10 xi_102 dX10_canGo_5 rfl ?_
    obtain ⟨x2, gx2, H⟩ := Option.bind_eq_some_iff.mp H
    refine wq_irem xi_102 dX10_canGo_7 gx2 ?_
    refine wp_iconst 3 xi_102 dX10_canGo_8 rfl ?_
    refine wp_icmp_ge 23 xi_102 dX10_canGo_9 rfl (fun c3 => ?_) (fun c3 => ?_)
    · rw [if_pos c3] at H
      refine wp_iconst 0 xi_102 dX10_canGo_23 rfl ?_
      obtain ⟨gz, hz⟩ := pZ_ok H
      obtain ⟨rfl, rfl⟩ := Prod.mk.inj hz
      exact wp_zret xi_102 dX10_canGo_24 gz hq
    · rw [if_neg c3] at H
      refine wp_aload_n xi_102 dX10_canGo_12 rfl ?_
      refine wp_iload_n xi_102 dX10_canGo_13 rfl ?_
      refine wp_bipush 10 xi_102 dX10_canGo_14 rfl ?_
      obtain ⟨x4, gx4, H⟩ := Option.bind_eq_some_iff.mp H
      refine wq_idiv xi_102 dX10_canGo_16 gx4 ?_
      obtain ⟨u5, gu5, H⟩ := Option.bind_eq_some_iff.mp H
      obtain ⟨⟨x7, h6⟩, gh6, H⟩ := Option.bind_eq_some_iff.mp H
      dsimp only at H
      refine wq_callV (a := a) (as := [.int x4]) (r := []) (v1 := (some (.int x7))) xi_102 xi_90 dX10_canGo_17 xm_10_82 rfl (Nat.le_of_ble_eq_true rfl) (pG_ok gu5) ⟨(Nat.le_of_ble_eq_true rfl), (Nat.le_of_ble_eq_true rfl)⟩ rfl nofun (e_90 (d + 1) _ gh6 ⟨rfl, rfl⟩) ?_
      change Wp _ _ _ _ [.int x7] _ _
      refine wp_if_ne 25 xi_102 dX10_canGo_20 rfl (fun c8 => ?_) (fun c8 => ?_)
      · rw [if_neg c8] at H
        refine wp_iload_n xi_102 dX10_canGo_25 rfl ?_
        refine wp_bipush 10 xi_102 dX10_canGo_26 rfl ?_
        obtain ⟨x9, gx9, H⟩ := Option.bind_eq_some_iff.mp H
        refine wq_idiv xi_102 dX10_canGo_28 gx9 ?_
        refine wp_iconst 3 xi_102 dX10_canGo_29 rfl ?_
        obtain ⟨x10, gx10, H⟩ := Option.bind_eq_some_iff.mp H
        refine wq_idiv xi_102 dX10_canGo_30 gx10 ?_
        refine wp_istore_n [some (.ref a), some (.int p0), some (.int x10), none] xi_102 dX10_canGo_31 rfl ?_
        refine wp_aload_n xi_102 dX10_canGo_32 rfl ?_
        obtain ⟨x11, gx11, H⟩ := Option.bind_eq_some_iff.mp H
        refine wq_getfi xi_102 dX10_canGo_33 xf_10_69 gx11 ?_
        refine wp_iconst 1 xi_102 dX10_canGo_36 rfl ?_
        refine wp_isub xi_102 dX10_canGo_37 ?_
        refine wp_istore_n [some (.ref a), some (.int p0), some (.int x10), some (.int (x11 - 1))] xi_102 dX10_canGo_38 rfl ?_
        refine wp_aload_n xi_102 dX10_canGo_39 rfl ?_
        refine wp_iload_n xi_102 dX10_canGo_40 rfl ?_
        obtain ⟨u12, gu12, H⟩ := Option.bind_eq_some_iff.mp H
        obtain ⟨⟨x14, h13⟩, gh13, H⟩ := Option.bind_eq_some_iff.mp H
        dsimp only at H
        refine wq_callV (a := a) (as := [.int (x11 - 1)]) (r := []) (v1 := (some (.int x14))) xi_102 xi_97 dX10_canGo_41 xm_10_93 rfl (Nat.le_of_ble_eq_true rfl) (pG_ok gu12) ⟨(Nat.le_of_ble_eq_true rfl), (Nat.le_of_ble_eq_true rfl)⟩ rfl nofun (e_97 d _ gh13 ⟨rfl, rfl⟩) ?_
        change Wp _ _ _ _ [.int x14] _ _
        refine wp_iconst 3 xi_102 dX10_canGo_44 rfl ?_
        refine wp_icmp_ge 76 xi_102 dX10_canGo_45 rfl (fun c15 => ?_) (fun c15 => ?_)
        · rw [if_pos c15] at H
          refine wp_iload_n xi_102 dX10_canGo_76 rfl ?_
          refine wp_iload_n xi_102 dX10_canGo_77 rfl ?_
          obtain ⟨w19, G23, H⟩ := Option.bind_eq_some_iff.mp H
          have K20 : Wp (d + 2) 102 95 [some (.ref a), some (.int p0), some (.int x10), some (.int (x11 - 1))] [.int w19] h13 Q := by
            obtain ⟨gz, hz⟩ := pZ_ok H
            obtain ⟨rfl, rfl⟩ := Prod.mk.inj hz
            exact wp_zret xi_102 dX10_canGo_95 gz hq
          clear H
          have H := G23
          clear G23
          refine wp_icmp_ge 94 xi_102 dX10_canGo_78 rfl (fun c16 => ?_) (fun c16 => ?_)
          · rw [if_pos c16] at H
            refine wp_iconst 0 xi_102 dX10_canGo_94 rfl ?_
            obtain rfl := Option.some.inj H
            exact Wp.more (by simp [xMore, Value.category]) K20
          · rw [if_neg c16] at H
            refine wp_aload_n xi_102 dX10_canGo_81 rfl ?_
            obtain ⟨x21, gx21, H⟩ := Option.bind_eq_some_iff.mp H
            refine wq_getfi xi_102 dX10_canGo_82 xf_10_69 gx21 ?_
            refine wp_bipush 16 xi_102 dX10_canGo_85 rfl ?_
            refine wp_icmp_ge 94 xi_102 dX10_canGo_87 rfl (fun c22 => ?_) (fun c22 => ?_)
            · rw [if_pos c22] at H
              refine wp_iconst 0 xi_102 dX10_canGo_94 rfl ?_
              obtain rfl := Option.some.inj H
              exact Wp.more (by simp [xMore, Value.category]) K20
            · rw [if_neg c22] at H
              refine wp_iconst 1 xi_102 dX10_canGo_90 rfl ?_
              refine wp_goto 95 xi_102 dX10_canGo_91 rfl ?_
              obtain rfl := Option.some.inj H
              exact Wp.more (by simp [xMore, Value.category]) K20
        · rw [if_neg c15] at H
          refine wp_iload_n xi_102 dX10_canGo_48 rfl ?_
          refine wp_iload_n xi_102 dX10_canGo_49 rfl ?_
          refine wp_iconst 1 xi_102 dX10_canGo_50 rfl ?_
          refine wp_isub xi_102 dX10_canGo_51 ?_
          obtain ⟨⟨w30, h31⟩, G38, H⟩ := Option.bind_eq_some_iff.mp H
          dsimp only at H
          have K32 : Wp (d + 2) 102 75 [some (.ref a), some (.int p0), some (.int x10), some (.int (x11 - 1))] [.int w30] h31 Q := by
            obtain ⟨gz, hz⟩ := pZ_ok H
            obtain ⟨rfl, rfl⟩ := Prod.mk.inj hz
            exact wp_zret xi_102 dX10_canGo_75 gz hq
          clear H
          have H := G38
          clear G38
          refine wp_icmp_ge 74 xi_102 dX10_canGo_52 rfl (fun c24 => ?_) (fun c24 => ?_)
          · rw [if_pos c24] at H
            refine wp_iconst 0 xi_102 dX10_canGo_74 rfl ?_
            simp only [Option.some.injEq, Prod.mk.injEq] at H
            obtain ⟨rfl, rfl⟩ := H
            exact Wp.more (by simp [xMore, Value.category]) K32
          · rw [if_neg c24] at H
            refine wp_aload_n xi_102 dX10_canGo_55 rfl ?_
            refine wp_iconst 3 xi_102 dX10_canGo_56 rfl ?_
            refine wp_iload_n xi_102 dX10_canGo_57 rfl ?_
            refine wp_imul xi_102 dX10_canGo_58 ?_
            refine wp_iload_n xi_102 dX10_canGo_59 rfl ?_
            refine wp_bipush 10 xi_102 dX10_canGo_60 rfl ?_
            obtain ⟨x33, gx33, H⟩ := Option.bind_eq_some_iff.mp H
            refine wq_irem xi_102 dX10_canGo_62 gx33 ?_
            refine wp_iadd xi_102 dX10_canGo_63 ?_
            obtain ⟨u34, gu34, H⟩ := Option.bind_eq_some_iff.mp H
            obtain ⟨⟨x36, h35⟩, gh35, H⟩ := Option.bind_eq_some_iff.mp H
            dsimp only at H
            refine wq_callV (a := a) (as := [.int ((3 * (x11 - 1)) + x33)]) (r := []) (v1 := (some (.int x36))) xi_102 xi_90 dX10_canGo_64 xm_10_82 rfl (Nat.le_of_ble_eq_true rfl) (pG_ok gu34) ⟨(Nat.le_of_ble_eq_true rfl), (Nat.le_of_ble_eq_true rfl)⟩ rfl nofun (e_90 (d + 1) _ gh35 ⟨rfl, rfl⟩) ?_
            change Wp _ _ _ _ [.int x36] _ _
            refine wp_if_ne 74 xi_102 dX10_canGo_67 rfl (fun c37 => ?_) (fun c37 => ?_)
            · rw [if_neg c37] at H
              refine wp_iconst 0 xi_102 dX10_canGo_74 rfl ?_
              simp only [Option.some.injEq, Prod.mk.injEq] at H
              obtain ⟨rfl, rfl⟩ := H
              exact Wp.more (by simp [xMore, Value.category]) K32
            · rw [if_pos c37] at H
              refine wp_iconst 1 xi_102 dX10_canGo_70 rfl ?_
              refine wp_goto 75 xi_102 dX10_canGo_71 rfl ?_
              simp only [Option.some.injEq, Prod.mk.injEq] at H
              obtain ⟨rfl, rfl⟩ := H
              exact Wp.more (by simp [xMore, Value.category]) K32
      · rw [if_pos c8] at H
        refine wp_iconst 0 xi_102 dX10_canGo_23 rfl ?_
        obtain ⟨gz, hz⟩ := pZ_ok H
        obtain ⟨rfl, rfl⟩ := Prod.mk.inj hz
        exact wp_zret xi_102 dX10_canGo_24 gz hq
