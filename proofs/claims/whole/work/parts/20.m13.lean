/- FelledHasLost.copySheet(IIII)I -/
def f_116_18  : Nat → Int32 → Int32 → Int32 → Int32 → Nat → Int32 → Int32 → Int32 → xH → Option (Int32 × xH)
  | 0, _, _, _, _, _, _, _, _, _ => none
  | n + 1, a1, a2, a3, a4, a5, a6, a7, a8, h =>
  (if (48 : Int32) ≤ a8 then
  some (a6, h)
  else
  (pG (pIs h a5 10)).bind fun _ =>
  (f_90 a5 a8 h).bind fun (x4, h3) =>
  ((if x4 = 0 then
  some (a6, a7, h3)
  else
  ((if a2 ≤ a7 then
  some (0, h3)
  else
  (f_117 a1 (a3 + (a7 * a4)) h3).bind fun (x34, h33) =>
  (f_85 x34 h33).bind fun (x36, h35) =>
  some (x36, h35) : Option (Int32 × xH))).bind fun (w30, h31) =>
  (pG (pIs h31 a5 10)).bind fun _ =>
  (f_92 a5 a8 w30 h31).bind fun h38 =>
  some ((a6 + w30), (a7 + 1), h38) : Option (Int32 × Int32 × xH))).bind fun (w21, w22, h23) =>
  f_116_18 n a1 a2 a3 a4 a5 w21 w22 (a8 + 1) h23)
theorem ef_116_18 (d : Nat) (Q : Option Value → xH → Prop)  : ∀ (n : Nat) (a1 : Int32) (a2 : Int32) (a3 : Int32) (a4 : Int32) (a5 : Nat) (a6 : Int32) (a7 : Int32) (a8 : Int32) (h : xH) (r : Int32 × xH), f_116_18 n a1 a2 a3 a4 a5 a6 a7 a8 h = some r → (∀ (w6 : Int32) (h1 : xH), r = (w6, h1) → Wp (d + 3) 116 86 [none, none, none, none, none, none, some (.int w6), none, none, none] [] h1 Q) → Wp (d + 3) 116 18 [none, some (.int a1), some (.int a2), some (.int a3), some (.int a4), some (.ref a5), some (.int a6), some (.int a7), some (.int a8), none] [] h Q := by
  intro n
  induction n with
  | zero =>
    intro a1 a2 a3 a4 a5 a6 a7 a8 h r H
    cases H
  | succ n ih =>
    intro a1 a2 a3 a4 a5 a6 a7 a8 h r H KE
    unfold f_116_18 at H
    refine wp_iload xi_116 dX11_copySheet_18 rfl ?_
    refine wp_bipush 48 xi_116 dX11_copySheet_20 rfl ?_
    refine wp_icmp_ge 86 xi_116 dX11_copySheet_22 rfl (fun c1 => ?_) (fun c1 => ?_)
    · rw [if_pos c1] at H
      obtain rfl := Option.some.inj H
      exact Wp.more (by simp [xMore, Value.category]) (KE a6 h rfl)
    · rw [if_neg c1] at H
      refine wp_aload xi_116 dX11_copySheet_25 rfl ?_
      refine wp_iload xi_116 dX11_copySheet_27 rfl ?_
      obtain ⟨u2, gu2, H⟩ := Option.bind_eq_some_iff.mp H
      obtain ⟨⟨x4, h3⟩, gh3, H⟩ := Option.bind_eq_some_iff.mp H
      dsimp only at H
      refine wq_callV (a := a5) (as := [.int a8]) (r := []) (v1 := (some (.int x4))) xi_116 xi_90 dX11_copySheet_29 xm_11_165 rfl (Nat.le_of_ble_eq_true rfl) (pG_ok gu2) ⟨(Nat.le_of_ble_eq_true rfl), (Nat.le_of_ble_eq_true rfl)⟩ rfl nofun (e_90 (d + 2) _ gh3 ⟨rfl, rfl⟩) ?_
      change Wp _ _ _ _ [.int x4] _ _
      obtain ⟨⟨w21, w22, h23⟩, G40, H⟩ := Option.bind_eq_some_iff.mp H
      dsimp only at H
      have K24 : Wp (d + 3) 116 80 [none, some (.int a1), some (.int a2), some (.int a3), some (.int a4), some (.ref a5), some (.int w21), some (.int w22), some (.int a8), none] [] h23 Q := by
        refine wp_iinc (a8 + 1) [none, some (.int a1), some (.int a2), some (.int a3), some (.int a4), some (.ref a5), some (.int w21), some (.int w22), some (.int (a8 + 1)), none] xi_116 dX11_copySheet_80 rfl rfl rfl ?_
        refine wp_goto 18 xi_116 dX11_copySheet_83 rfl ?_
        exact Wp.more (by simp [xMore, Value.category]) (ih a1 a2 a3 a4 a5 w21 w22 (a8 + 1) h23 _ H KE)
      clear H
      have H := G40
      clear G40
      refine wp_if_eq 80 xi_116 dX11_copySheet_32 rfl (fun c5 => ?_) (fun c5 => ?_)
      · rw [if_pos c5] at H
        simp only [Option.some.injEq, Prod.mk.injEq] at H
        obtain ⟨rfl, rfl, rfl⟩ := H
        exact Wp.more (by simp [xMore, Value.category]) K24
      · rw [if_neg c5] at H
        refine wp_iload xi_116 dX11_copySheet_35 rfl ?_
        refine wp_iload_n xi_116 dX11_copySheet_37 rfl ?_
        obtain ⟨⟨w30, h31⟩, G39, H⟩ := Option.bind_eq_some_iff.mp H
        dsimp only at H
        have K32 : Wp (d + 3) 116 59 [none, some (.int a1), some (.int a2), some (.int a3), some (.int a4), some (.ref a5), some (.int a6), some (.int a7), some (.int a8), none] [.int w30] h31 Q := by
          refine wp_istore [none, some (.int a1), some (.int a2), some (.int a3), some (.int a4), some (.ref a5), some (.int a6), some (.int a7), some (.int a8), some (.int w30)] xi_116 dX11_copySheet_59 rfl ?_
          refine wp_aload xi_116 dX11_copySheet_61 rfl ?_
          refine wp_iload xi_116 dX11_copySheet_63 rfl ?_
          refine wp_iload xi_116 dX11_copySheet_65 rfl ?_
          obtain ⟨u37, gu37, H⟩ := Option.bind_eq_some_iff.mp H
          obtain ⟨h38, gh38, H⟩ := Option.bind_eq_some_iff.mp H
          refine wq_callV (a := a5) (as := [.int a8, .int w30]) (r := []) (v1 := none) xi_116 xi_92 dX11_copySheet_67 xm_11_200 rfl (Nat.le_of_ble_eq_true rfl) (pG_ok gu37) ⟨(Nat.le_of_ble_eq_true rfl), (Nat.le_of_ble_eq_true rfl)⟩ rfl nofun (e_92 d _ gh38 ⟨rfl, rfl⟩) ?_
          change Wp _ _ _ _ [] _ _
          refine wp_iload xi_116 dX11_copySheet_70 rfl ?_
          refine wp_iload xi_116 dX11_copySheet_72 rfl ?_
          refine wp_iadd xi_116 dX11_copySheet_74 ?_
          refine wp_istore [none, some (.int a1), some (.int a2), some (.int a3), some (.int a4), some (.ref a5), some (.int (a6 + w30)), some (.int a7), some (.int a8), some (.int w30)] xi_116 dX11_copySheet_75 rfl ?_
          refine wp_iinc (a7 + 1) [none, some (.int a1), some (.int a2), some (.int a3), some (.int a4), some (.ref a5), some (.int (a6 + w30)), some (.int (a7 + 1)), some (.int a8), some (.int w30)] xi_116 dX11_copySheet_77 rfl rfl rfl ?_
          simp only [Option.some.injEq, Prod.mk.injEq] at H
          obtain ⟨rfl, rfl, rfl⟩ := H
          exact Wp.more (by simp [xMore, Value.category]) K24
        clear H
        have H := G39
        clear G39
        refine wp_icmp_ge 58 xi_116 dX11_copySheet_38 rfl (fun c25 => ?_) (fun c25 => ?_)
        · rw [if_pos c25] at H
          refine wp_iconst 0 xi_116 dX11_copySheet_58 rfl ?_
          simp only [Option.some.injEq, Prod.mk.injEq] at H
          obtain ⟨rfl, rfl⟩ := H
          exact Wp.more (by simp [xMore, Value.category]) K32
        · rw [if_neg c25] at H
          refine wp_iload_n xi_116 dX11_copySheet_41 rfl ?_
          refine wp_iload_n xi_116 dX11_copySheet_42 rfl ?_
          refine wp_iload xi_116 dX11_copySheet_43 rfl ?_
          refine wp_iload xi_116 dX11_copySheet_45 rfl ?_
          refine wp_imul xi_116 dX11_copySheet_47 ?_
          refine wp_iadd xi_116 dX11_copySheet_48 ?_
          obtain ⟨⟨x34, h33⟩, gh33, H⟩ := Option.bind_eq_some_iff.mp H
          dsimp only at H
          refine wq_callS (as := [.int a1, .int (a3 + (a7 * a4))]) (r := []) (v1 := (some (.int x34))) xi_116 xi_117 dX11_copySheet_49 xm_11_233 rfl (Nat.le_of_ble_eq_true rfl) ⟨(Nat.le_of_ble_eq_true rfl), (Nat.le_of_ble_eq_true rfl)⟩ rfl nofun (e_117 (d + 2) _ gh33 ⟨rfl, rfl⟩) ?_
          change Wp _ _ _ _ [.int x34] _ _
          obtain ⟨⟨x36, h35⟩, gh35, H⟩ := Option.bind_eq_some_iff.mp H
          dsimp only at H
          refine wq_callS (as := [.int x34]) (r := []) (v1 := (some (.int x36))) xi_116 xi_85 dX11_copySheet_52 xm_11_237 rfl (Nat.le_of_ble_eq_true rfl) ⟨(Nat.le_of_ble_eq_true rfl), (Nat.le_of_ble_eq_true rfl)⟩ rfl nofun (e_85 (d + 2) _ gh35 ⟨rfl, rfl⟩) ?_
          change Wp _ _ _ _ [.int x36] _ _
          refine wp_goto 59 xi_116 dX11_copySheet_55 rfl ?_
          simp only [Option.some.injEq, Prod.mk.injEq] at H
          obtain ⟨rfl, rfl⟩ := H
          exact Wp.more (by simp [xMore, Value.category]) K32
def f_116  (a : Nat) (p0 : Int32) (p1 : Int32) (p2 : Int32) (p3 : Int32) (h : xH) : Option (Int32 × xH) :=
  (pFr h a 11 2).bind fun x1 =>
  (pFr h x1 7 0).bind fun x2 =>
  (f_116_18 100000 p0 p1 p2 p3 x2 0 0 0 h).bind fun (w4, h3) =>
  some (w4, h3)
set_option maxHeartbeats 4000000 in
theorem e_116 (d : Nat) (Q : Option Value → xH → Prop)  {h : xH} {a : Nat} {p0 : Int32} {p1 : Int32} {p2 : Int32} {p3 : Int32} {x : Int32} {h1 : xH} (H : f_116  a p0 p1 p2 p3 h = some (x, h1)) (hq : Q (some (.int x)) h1) : Wp (d + 3) 116 0 [some (.ref a), some (.int p0), some (.int p1), some (.int p2), some (.int p3), none, none, none, none, none] [] h Q := by
  unfold f_116 at H
  refine wp_aload_n xi_116 dX11_copySheet_0 rfl ?_
  obtain ⟨x1, gx1, H⟩ := Option.bind_eq_some_iff.mp H
  refine wq_getfr xi_116 dX11_copySheet_1 xf_11_26 gx1 ?_
  obtain ⟨x2, gx2, H⟩ := Option.bind_eq_some_iff.mp H
  refine wq_getfr xi_116 dX11_copySheet_4 xf_11_132 gx2 ?_
  refine wp_astore [some (.ref a), some (.int p0), some (.int p1), some (.int p2), some (.int p3), some (.ref x2), none, none, none, none] xi_116 dX11_copySheet_7 rfl ?_
  refine wp_iconst 0 xi_116 dX11_copySheet_9 rfl ?_
  refine wp_istore [some (.ref a), some (.int p0), some (.int p1), some (.int p2), some (.int p3), some (.ref x2), some (.int 0), none, none, none] xi_116 dX11_copySheet_10 rfl ?_
  refine wp_iconst 0 xi_116 dX11_copySheet_12 rfl ?_
  refine wp_istore [some (.ref a), some (.int p0), some (.int p1), some (.int p2), some (.int p3), some (.ref x2), some (.int 0), some (.int 0), none, none] xi_116 dX11_copySheet_13 rfl ?_
  refine wp_iconst 0 xi_116 dX11_copySheet_15 rfl ?_
  refine wp_istore [some (.ref a), some (.int p0), some (.int p1), some (.int p2), some (.int p3), some (.ref x2), some (.int 0), some (.int 0), some (.int 0), none] xi_116 dX11_copySheet_16 rfl ?_
  obtain ⟨⟨w4, h3⟩, G5, H⟩ := Option.bind_eq_some_iff.mp H
  dsimp only at H
  refine Wp.more (by simp [xMore, Value.category]) (ef_116_18 d Q  100000 p0 p1 p2 p3 x2 0 0 0 h _ G5 (fun z0 z1 e9 => ?_))
  cases e9
  refine wp_iload xi_116 dX11_copySheet_86 rfl ?_
  obtain ⟨rfl, rfl⟩ := oi2 H
  exact wp_iret xi_116 dX11_copySheet_88 hq
/- FelledHasLost.swell(II)I -/
def f_119_38  : Nat → Int32 → Int32 → Nat → Int32 → Int32 → xH → Option (Int32 × xH)
  | 0, _, _, _, _, _, _ => none
  | n + 1, a1, a2, a3, a4, a5, h =>
  (if ((3 * a1) + 3) ≤ a5 then
  some (a4, h)
  else
  (pG (pIs h a3 10)).bind fun _ =>
  (f_90 a3 a5 h).bind fun (x4, h3) =>
  ((if x4 = 0 then
  some (a4, h3)
  else
  (pFr h3 a3 10 0).bind fun x21 =>
  (pAi h3 x21 a5).bind fun x22 =>
  (f_85 (x22 + a2) h3).bind fun (x24, h23) =>
  (pFr h23 a3 10 0).bind fun x25 =>
  (pAi h23 x25 a5).bind fun x26 =>
  ((if x24 = x26 then
  some (0)
  else
  some (1) : Option (Int32))).bind fun (w28 : Int32) =>
  (pG (pIs h23 a3 10)).bind fun _ =>
  (f_92 a3 a5 x24 h23).bind fun h31 =>
  some ((a4 + w28), h31) : Option (Int32 × xH))).bind fun (w18, h19) =>
  f_119_38 n a1 a2 a3 w18 (a5 + 1) h19)
theorem ef_119_38 (d : Nat) (Q : Option Value → xH → Prop)  : ∀ (n : Nat) (a1 : Int32) (a2 : Int32) (a3 : Nat) (a4 : Int32) (a5 : Int32) (h : xH) (r : Int32 × xH), f_119_38 n a1 a2 a3 a4 a5 h = some r → (∀ (w4 : Int32) (h1 : xH), r = (w4, h1) → Wp (d + 3) 119 107 [none, none, none, none, some (.int w4), none, none] [] h1 Q) → Wp (d + 3) 119 38 [none, some (.int a1), some (.int a2), some (.ref a3), some (.int a4), some (.int a5), none] [] h Q := by
  intro n
  induction n with
  | zero =>
    intro a1 a2 a3 a4 a5 h r H
    cases H
  | succ n ih =>
    intro a1 a2 a3 a4 a5 h r H KE
    unfold f_119_38 at H
    refine wp_iload xi_119 dX11_swell_38 rfl ?_
    refine wp_iconst 3 xi_119 dX11_swell_40 rfl ?_
    refine wp_iload_n xi_119 dX11_swell_41 rfl ?_
    refine wp_imul xi_119 dX11_swell_42 ?_
    refine wp_iconst 3 xi_119 dX11_swell_43 rfl ?_
    refine wp_iadd xi_119 dX11_swell_44 ?_
    refine wp_icmp_ge 107 xi_119 dX11_swell_45 rfl (fun c1 => ?_) (fun c1 => ?_)
    · rw [if_pos c1] at H
      obtain rfl := Option.some.inj H
      exact Wp.more (by simp [xMore, Value.category]) (KE a4 h rfl)
    · rw [if_neg c1] at H
      refine wp_aload_n xi_119 dX11_swell_48 rfl ?_
      refine wp_iload xi_119 dX11_swell_49 rfl ?_
      obtain ⟨u2, gu2, H⟩ := Option.bind_eq_some_iff.mp H
      obtain ⟨⟨x4, h3⟩, gh3, H⟩ := Option.bind_eq_some_iff.mp H
      dsimp only at H
      refine wq_callV (a := a3) (as := [.int a5]) (r := []) (v1 := (some (.int x4))) xi_119 xi_90 dX11_swell_51 xm_11_165 rfl (Nat.le_of_ble_eq_true rfl) (pG_ok gu2) ⟨(Nat.le_of_ble_eq_true rfl), (Nat.le_of_ble_eq_true rfl)⟩ rfl nofun (e_90 (d + 2) _ gh3 ⟨rfl, rfl⟩) ?_
      change Wp _ _ _ _ [.int x4] _ _
      obtain ⟨⟨w18, h19⟩, G33, H⟩ := Option.bind_eq_some_iff.mp H
      dsimp only at H
      have K20 : Wp (d + 3) 119 101 [none, some (.int a1), some (.int a2), some (.ref a3), some (.int w18), some (.int a5), none] [] h19 Q := by
        refine wp_iinc (a5 + 1) [none, some (.int a1), some (.int a2), some (.ref a3), some (.int w18), some (.int (a5 + 1)), none] xi_119 dX11_swell_101 rfl rfl rfl ?_
        refine wp_goto 38 xi_119 dX11_swell_104 rfl ?_
        exact Wp.more (by simp [xMore, Value.category]) (ih a1 a2 a3 w18 (a5 + 1) h19 _ H KE)
      clear H
      have H := G33
      clear G33
      refine wp_if_eq 101 xi_119 dX11_swell_54 rfl (fun c5 => ?_) (fun c5 => ?_)
      · rw [if_pos c5] at H
        simp only [Option.some.injEq, Prod.mk.injEq] at H
        obtain ⟨rfl, rfl⟩ := H
        exact Wp.more (by simp [xMore, Value.category]) K20
      · rw [if_neg c5] at H
        refine wp_aload_n xi_119 dX11_swell_57 rfl ?_
        obtain ⟨x21, gx21, H⟩ := Option.bind_eq_some_iff.mp H
        refine wq_getfr xi_119 dX11_swell_58 xf_11_175 gx21 ?_
        refine wp_iload xi_119 dX11_swell_61 rfl ?_
        obtain ⟨x22, gx22, H⟩ := Option.bind_eq_some_iff.mp H
        refine wq_iaload xi_119 dX11_swell_63 gx22 ?_
        refine wp_iload_n xi_119 dX11_swell_64 rfl ?_
        refine wp_iadd xi_119 dX11_swell_65 ?_
        obtain ⟨⟨x24, h23⟩, gh23, H⟩ := Option.bind_eq_some_iff.mp H
        dsimp only at H
        refine wq_callS (as := [.int (x22 + a2)]) (r := []) (v1 := (some (.int x24))) xi_119 xi_85 dX11_swell_66 xm_11_237 rfl (Nat.le_of_ble_eq_true rfl) ⟨(Nat.le_of_ble_eq_true rfl), (Nat.le_of_ble_eq_true rfl)⟩ rfl nofun (e_85 (d + 2) _ gh23 ⟨rfl, rfl⟩) ?_
        change Wp _ _ _ _ [.int x24] _ _
        refine wp_istore [none, some (.int a1), some (.int a2), some (.ref a3), some (.int a4), some (.int a5), some (.int x24)] xi_119 dX11_swell_69 rfl ?_
        refine wp_iload xi_119 dX11_swell_71 rfl ?_
        refine wp_iload xi_119 dX11_swell_73 rfl ?_
        refine wp_aload_n xi_119 dX11_swell_75 rfl ?_
        obtain ⟨x25, gx25, H⟩ := Option.bind_eq_some_iff.mp H
        refine wq_getfr xi_119 dX11_swell_76 xf_11_175 gx25 ?_
        refine wp_iload xi_119 dX11_swell_79 rfl ?_
        obtain ⟨x26, gx26, H⟩ := Option.bind_eq_some_iff.mp H
        refine wq_iaload xi_119 dX11_swell_81 gx26 ?_
        obtain ⟨w28, G32, H⟩ := Option.bind_eq_some_iff.mp H
        have K29 : Wp (d + 3) 119 90 [none, some (.int a1), some (.int a2), some (.ref a3), some (.int a4), some (.int a5), some (.int x24)] [.int w28, .int a4] h23 Q := by
          refine wp_iadd xi_119 dX11_swell_90 ?_
          refine wp_istore [none, some (.int a1), some (.int a2), some (.ref a3), some (.int (a4 + w28)), some (.int a5), some (.int x24)] xi_119 dX11_swell_91 rfl ?_
          refine wp_aload_n xi_119 dX11_swell_93 rfl ?_
          refine wp_iload xi_119 dX11_swell_94 rfl ?_
          refine wp_iload xi_119 dX11_swell_96 rfl ?_
          obtain ⟨u30, gu30, H⟩ := Option.bind_eq_some_iff.mp H
          obtain ⟨h31, gh31, H⟩ := Option.bind_eq_some_iff.mp H
          refine wq_callV (a := a3) (as := [.int a5, .int x24]) (r := []) (v1 := none) xi_119 xi_92 dX11_swell_98 xm_11_200 rfl (Nat.le_of_ble_eq_true rfl) (pG_ok gu30) ⟨(Nat.le_of_ble_eq_true rfl), (Nat.le_of_ble_eq_true rfl)⟩ rfl nofun (e_92 d _ gh31 ⟨rfl, rfl⟩) ?_
          change Wp _ _ _ _ [] _ _
          simp only [Option.some.injEq, Prod.mk.injEq] at H
          obtain ⟨rfl, rfl⟩ := H
          exact Wp.more (by simp [xMore, Value.category]) K20
        clear H
        have H := G32
        clear G32
        refine wp_icmp_ne 89 xi_119 dX11_swell_82 rfl (fun c27 => ?_) (fun c27 => ?_)
        · rw [if_neg c27] at H
          refine wp_iconst 1 xi_119 dX11_swell_89 rfl ?_
          obtain rfl := Option.some.inj H
          exact Wp.more (by simp [xMore, Value.category]) K29
        · rw [if_pos c27] at H
          refine wp_iconst 0 xi_119 dX11_swell_85 rfl ?_
          refine wp_goto 90 xi_119 dX11_swell_86 rfl ?_
          obtain rfl := Option.some.inj H
          exact Wp.more (by simp [xMore, Value.category]) K29
def f_119  (a : Nat) (p0 : Int32) (p1 : Int32) (h : xH) : Option (Int32 × xH) :=
  (pFr h a 11 2).bind fun x1 =>
  (pFr h x1 7 0).bind fun x2 =>
  (pG (pIs h x2 10)).bind fun _ =>
  (f_91 x2 p0 h).bind fun (x5, h4) =>
  (if x5 = 0 then
  some ((-1), h4)
  else
  (if p1 < (-9) then
  some ((-1), h4)
  else
  (if p1 ≤ 9 then
  (f_119_38 100000 p0 p1 x2 0 (3 * p0) h4).bind fun (w10, h9) =>
  some (w10, h9)
  else
  some ((-1), h4))))
set_option maxHeartbeats 4000000 in
theorem e_119 (d : Nat) (Q : Option Value → xH → Prop)  {h : xH} {a : Nat} {p0 : Int32} {p1 : Int32} {x : Int32} {h1 : xH} (H : f_119  a p0 p1 h = some (x, h1)) (hq : Q (some (.int x)) h1) : Wp (d + 3) 119 0 [some (.ref a), some (.int p0), some (.int p1), none, none, none, none] [] h Q := by
  unfold f_119 at H
  refine wp_aload_n xi_119 dX11_swell_0 rfl ?_
  obtain ⟨x1, gx1, H⟩ := Option.bind_eq_some_iff.mp H
  refine wq_getfr xi_119 dX11_swell_1 xf_11_26 gx1 ?_
  obtain ⟨x2, gx2, H⟩ := Option.bind_eq_some_iff.mp H
  refine wq_getfr xi_119 dX11_swell_4 xf_11_132 gx2 ?_
  refine wp_astore_n [some (.ref a), some (.int p0), some (.int p1), some (.ref x2), none, none, none] xi_119 dX11_swell_7 rfl ?_
  refine wp_aload_n xi_119 dX11_swell_8 rfl ?_
  refine wp_iload_n xi_119 dX11_swell_9 rfl ?_
  obtain ⟨u3, gu3, H⟩ := Option.bind_eq_some_iff.mp H
  obtain ⟨⟨x5, h4⟩, gh4, H⟩ := Option.bind_eq_some_iff.mp H
  dsimp only at H
  refine wq_callV (a := x2) (as := [.int p0]) (r := []) (v1 := (some (.int x5))) xi_119 xi_91 dX11_swell_10 xm_11_204 rfl (Nat.le_of_ble_eq_true rfl) (pG_ok gu3) ⟨(Nat.le_of_ble_eq_true rfl), (Nat.le_of_ble_eq_true rfl)⟩ rfl nofun (e_91 (d + 2) _ gh4 ⟨rfl, rfl⟩) ?_
  change Wp _ _ _ _ [.int x5] _ _
  refine wp_if_eq 28 xi_119 dX11_swell_13 rfl (fun c6 => ?_) (fun c6 => ?_)
  · rw [if_pos c6] at H
    refine wp_iconst (-1) xi_119 dX11_swell_28 rfl ?_
    obtain ⟨rfl, rfl⟩ := oi2 H
    exact wp_iret xi_119 dX11_swell_29 hq
  · rw [if_neg c6] at H
    refine wp_iload_n xi_119 dX11_swell_16 rfl ?_
    refine wp_bipush (-9) xi_119 dX11_swell_17 rfl ?_
    refine wp_icmp_lt 28 xi_119 dX11_swell_19 rfl (fun c7 => ?_) (fun c7 => ?_)
    · rw [if_pos c7] at H
      refine wp_iconst (-1) xi_119 dX11_swell_28 rfl ?_
      obtain ⟨rfl, rfl⟩ := oi2 H
      exact wp_iret xi_119 dX11_swell_29 hq
    · rw [if_neg c7] at H
      refine wp_iload_n xi_119 dX11_swell_22 rfl ?_
      refine wp_bipush 9 xi_119 dX11_swell_23 rfl ?_
      refine wp_icmp_le 30 xi_119 dX11_swell_25 rfl (fun c8 => ?_) (fun c8 => ?_)
      · rw [if_pos c8] at H
        refine wp_iconst 0 xi_119 dX11_swell_30 rfl ?_
        refine wp_istore [some (.ref a), some (.int p0), some (.int p1), some (.ref x2), some (.int 0), none, none] xi_119 dX11_swell_31 rfl ?_
        refine wp_iconst 3 xi_119 dX11_swell_33 rfl ?_
        refine wp_iload_n xi_119 dX11_swell_34 rfl ?_
        refine wp_imul xi_119 dX11_swell_35 ?_
        refine wp_istore [some (.ref a), some (.int p0), some (.int p1), some (.ref x2), some (.int 0), some (.int (3 * p0)), none] xi_119 dX11_swell_36 rfl ?_
        obtain ⟨⟨w10, h9⟩, G11, H⟩ := Option.bind_eq_some_iff.mp H
        dsimp only at H
        refine Wp.more (by simp [xMore, Value.category]) (ef_119_38 d Q  100000 p0 p1 x2 0 (3 * p0) h4 _ G11 (fun z0 z1 e9 => ?_))
        cases e9
        refine wp_iload xi_119 dX11_swell_107 rfl ?_
        obtain ⟨rfl, rfl⟩ := oi2 H
        exact wp_iret xi_119 dX11_swell_109 hq
      · rw [if_neg c8] at H
        refine wp_iconst (-1) xi_119 dX11_swell_28 rfl ?_
        obtain ⟨rfl, rfl⟩ := oi2 H
        exact wp_iret xi_119 dX11_swell_29 hq
/- FelledHasLost.carryOut(I)V -/
def f_133  (a : Nat) (p0 : Int32) (h : xH) : Option (xH) :=
  (pFr h a 11 2).bind fun x1 =>
  (pFr h x1 7 0).bind fun x2 =>
  (pDiv p0 10).bind fun x3 =>
  (pDiv x3 3).bind fun x4 =>
  (pG (pIs h x2 10)).bind fun _ =>
  (f_97 x2 x4 h).bind fun (x7, h6) =>
  ((if (2 : Int32) ≤ x7 then
  (pG (pIs h6 x2 10)).bind fun _ =>
  (f_103 x2 p0 h6).bind fun (x49, h48) =>
  (pG (pIs h48 x2 10)).bind fun _ =>
  (f_93 x2 x3 h48).bind fun (x52, h51) =>
  (pFr h51 a 11 6).bind fun x53 =>
  (pG (pIs h51 x53 0)).bind fun _ =>
  (f_3 x53 x2 h51).bind fun (x56, h55) =>
  (if x56 = 0 then
  (pFr h55 a 11 2).bind fun x72 =>
  (pFr h55 a 11 6).bind fun x73 =>
  (pFi h55 x73 0 4).bind fun x74 =>
  (pFr h55 a 11 6).bind fun x75 =>
  (pFi h55 x75 0 5).bind fun x76 =>
  (pG (pIs h55 x72 7)).bind fun _ =>
  (f_70 x72 2 x74 x76 h55).bind fun h78 =>
  some (h78)
  else
  (pG (pIs h55 x2 10)).bind fun _ =>
  (f_92 x2 x49 x52 h55).bind fun h59 =>
  (pFr h59 a 11 6).bind fun x60 =>
  (pG (pIs h59 x60 0)).bind fun _ =>
  (f_3 x60 x2 h59).bind fun (x63, h62) =>
  (if x63 = 0 then
  (pFr h62 a 11 2).bind fun x65 =>
  (pFr h62 a 11 6).bind fun x66 =>
  (pFi h62 x66 0 4).bind fun x67 =>
  (pFr h62 a 11 6).bind fun x68 =>
  (pFi h62 x68 0 5).bind fun x69 =>
  (pG (pIs h62 x65 7)).bind fun _ =>
  (f_70 x65 3 x67 x69 h62).bind fun h71 =>
  some (h71)
  else
  some (h62)))
  else
  (pFr h6 a 11 2).bind fun x79 =>
  (pDiv x3 3).bind fun x80 =>
  (pG (pIs h6 x79 7)).bind fun _ =>
  (f_70 x79 1 x80 0 h6).bind fun h82 =>
  some (h82) : Option (xH))).bind fun (h45 : xH) =>
  (pFr h45 a 11 2).bind fun x83 =>
  (pFr h45 a 11 2).bind fun x84 =>
  (pFi h45 x84 7 1).bind fun x85 =>
  (pG (pIs h45 a 11)).bind fun _ =>
  (f_269 a (x85 + 1) h45).bind fun (x88, h87) =>
  (pP h87 x83 7 1 (.int x88)).bind fun h89 =>
  some h89
set_option maxHeartbeats 4000000 in
theorem e_133 (d : Nat) (Q : Option Value → xH → Prop)  {h : xH} {a : Nat} {p0 : Int32} {h1 : xH} (H : f_133  a p0 h = some h1) (hq : Q none h1) : Wp (d + 3) 133 0 [some (.ref a), some (.int p0), none, none, none, none] [] h Q := by
  unfold f_133 at H
  refine wp_aload_n xi_133 dX11_carryOut_0 rfl ?_
  obtain ⟨x1, gx1, H⟩ := Option.bind_eq_some_iff.mp H
  refine wq_getfr xi_133 dX11_carryOut_1 xf_11_26 gx1 ?_
  obtain ⟨x2, gx2, H⟩ := Option.bind_eq_some_iff.mp H
  refine wq_getfr xi_133 dX11_carryOut_4 xf_11_132 gx2 ?_
  refine wp_astore_n [some (.ref a), some (.int p0), some (.ref x2), none, none, none] xi_133 dX11_carryOut_7 rfl ?_
  refine wp_iload_n xi_133 dX11_carryOut_8 rfl ?_
  refine wp_bipush 10 xi_133 dX11_carryOut_9 rfl ?_
  obtain ⟨x3, gx3, H⟩ := Option.bind_eq_some_iff.mp H
  refine wq_idiv xi_133 dX11_carryOut_11 gx3 ?_
  refine wp_istore_n [some (.ref a), some (.int p0), some (.ref x2), some (.int x3), none, none] xi_133 dX11_carryOut_12 rfl ?_
  refine wp_aload_n xi_133 dX11_carryOut_13 rfl ?_
  refine wp_iload_n xi_133 dX11_carryOut_14 rfl ?_
  refine wp_iconst 3 xi_133 dX11_carryOut_15 rfl ?_
  obtain ⟨x4, gx4, H⟩ := Option.bind_eq_some_iff.mp H
  refine wq_idiv xi_133 dX11_carryOut_16 gx4 ?_
  obtain ⟨u5, gu5, H⟩ := Option.bind_eq_some_iff.mp H
  obtain ⟨⟨x7, h6⟩, gh6, H⟩ := Option.bind_eq_some_iff.mp H
  dsimp only at H
  refine wq_callV (a := x2) (as := [.int x4]) (r := []) (v1 := (some (.int x7))) xi_133 xi_97 dX11_carryOut_17 xm_11_190 rfl (Nat.le_of_ble_eq_true rfl) (pG_ok gu5) ⟨(Nat.le_of_ble_eq_true rfl), (Nat.le_of_ble_eq_true rfl)⟩ rfl nofun (e_97 (d + 1) _ gh6 ⟨rfl, rfl⟩) ?_
  change Wp _ _ _ _ [.int x7] _ _
  refine wp_iconst 2 xi_133 dX11_carryOut_20 rfl ?_
  obtain ⟨h45, G90, H⟩ := Option.bind_eq_some_iff.mp H
  have K46 : Wp (d + 3) 133 130 [some (.ref a), some (.int p0), some (.ref x2), some (.int x3), none, none] [] h45 Q := by
    refine wp_aload_n xi_133 dX11_carryOut_130 rfl ?_
    obtain ⟨x83, gx83, H⟩ := Option.bind_eq_some_iff.mp H
    refine wq_getfr xi_133 dX11_carryOut_131 xf_11_26 gx83 ?_
    refine wp_aload_n xi_133 dX11_carryOut_134 rfl ?_
    refine wp_aload_n xi_133 dX11_carryOut_135 rfl ?_
    obtain ⟨x84, gx84, H⟩ := Option.bind_eq_some_iff.mp H
    refine wq_getfr xi_133 dX11_carryOut_136 xf_11_26 gx84 ?_
    obtain ⟨x85, gx85, H⟩ := Option.bind_eq_some_iff.mp H
    refine wq_getfi xi_133 dX11_carryOut_139 xf_11_159 gx85 ?_
    refine wp_iconst 1 xi_133 dX11_carryOut_142 rfl ?_
    refine wp_iadd xi_133 dX11_carryOut_143 ?_
    obtain ⟨u86, gu86, H⟩ := Option.bind_eq_some_iff.mp H
    obtain ⟨⟨x88, h87⟩, gh87, H⟩ := Option.bind_eq_some_iff.mp H
    dsimp only at H
    refine wq_callV (a := a) (as := [.int (x85 + 1)]) (r := [.ref x83]) (v1 := (some (.int x88))) xi_133 xi_269 dX11_carryOut_144 xm_11_277 rfl (Nat.le_of_ble_eq_true rfl) (pG_ok gu86) ⟨(Nat.le_of_ble_eq_true rfl), (Nat.le_of_ble_eq_true rfl)⟩ rfl nofun (e_269 (d + 2) _ gh87 ⟨rfl, rfl⟩) ?_
    change Wp _ _ _ _ [.int x88, .ref x83] _ _
    obtain ⟨h89, gh89, H⟩ := Option.bind_eq_some_iff.mp H
    refine wq_putf xi_133 dX11_carryOut_147 xf_11_159 (Or.inl rfl) gh89 ?_
    obtain rfl := Option.some.inj H
    exact wp_vret xi_133 dX11_carryOut_150 hq
  clear H
  have H := G90
  clear G90
  refine wp_icmp_ge 39 xi_133 dX11_carryOut_21 rfl (fun c8 => ?_) (fun c8 => ?_)
  · rw [if_pos c8] at H
    refine wp_aload_n xi_133 dX11_carryOut_39 rfl ?_
    refine wp_iload_n xi_133 dX11_carryOut_40 rfl ?_
    obtain ⟨u47, gu47, H⟩ := Option.bind_eq_some_iff.mp H
    obtain ⟨⟨x49, h48⟩, gh48, H⟩ := Option.bind_eq_some_iff.mp H
    dsimp only at H
    refine wq_callV (a := x2) (as := [.int p0]) (r := []) (v1 := (some (.int x49))) xi_133 xi_103 dX11_carryOut_41 xm_11_351 rfl (Nat.le_of_ble_eq_true rfl) (pG_ok gu47) ⟨(Nat.le_of_ble_eq_true rfl), (Nat.le_of_ble_eq_true rfl)⟩ rfl nofun (e_103 d _ gh48 ⟨rfl, rfl⟩) ?_
    change Wp _ _ _ _ [.int x49] _ _
    refine wp_istore [some (.ref a), some (.int p0), some (.ref x2), some (.int x3), some (.int x49), none] xi_133 dX11_carryOut_44 rfl ?_
    refine wp_aload_n xi_133 dX11_carryOut_46 rfl ?_
    refine wp_iload_n xi_133 dX11_carryOut_47 rfl ?_
    obtain ⟨u50, gu50, H⟩ := Option.bind_eq_some_iff.mp H
    obtain ⟨⟨x52, h51⟩, gh51, H⟩ := Option.bind_eq_some_iff.mp H
    dsimp only at H
    refine wq_callV (a := x2) (as := [.int x3]) (r := []) (v1 := (some (.int x52))) xi_133 xi_93 dX11_carryOut_48 xm_11_193 rfl (Nat.le_of_ble_eq_true rfl) (pG_ok gu50) ⟨(Nat.le_of_ble_eq_true rfl), (Nat.le_of_ble_eq_true rfl)⟩ rfl nofun (e_93 d _ gh51 ⟨rfl, rfl⟩) ?_
    change Wp _ _ _ _ [.int x52] _ _
    refine wp_istore [some (.ref a), some (.int p0), some (.ref x2), some (.int x3), some (.int x49), some (.int x52)] xi_133 dX11_carryOut_51 rfl ?_
    refine wp_aload_n xi_133 dX11_carryOut_53 rfl ?_
    obtain ⟨x53, gx53, H⟩ := Option.bind_eq_some_iff.mp H
    refine wq_getfr xi_133 dX11_carryOut_54 xf_11_48 gx53 ?_
    refine wp_aload_n xi_133 dX11_carryOut_57 rfl ?_
    obtain ⟨u54, gu54, H⟩ := Option.bind_eq_some_iff.mp H
    obtain ⟨⟨x56, h55⟩, gh55, H⟩ := Option.bind_eq_some_iff.mp H
    dsimp only at H
    refine wq_callV (a := x53) (as := [.ref x2]) (r := []) (v1 := (some (.int x56))) xi_133 xi_3 dX11_carryOut_58 xm_11_196 rfl (Nat.le_of_ble_eq_true rfl) (pG_ok gu54) ⟨(Nat.le_of_ble_eq_true rfl), (Nat.le_of_ble_eq_true rfl)⟩ rfl nofun (e_3 (d + 1) _ gh55 ⟨rfl, rfl⟩) ?_
    change Wp _ _ _ _ [.int x56] _ _
    refine wp_if_ne 89 xi_133 dX11_carryOut_61 rfl (fun c57 => ?_) (fun c57 => ?_)
    · rw [if_neg c57] at H
      refine wp_aload_n xi_133 dX11_carryOut_89 rfl ?_
      refine wp_iload xi_133 dX11_carryOut_90 rfl ?_
      refine wp_iload xi_133 dX11_carryOut_92 rfl ?_
      obtain ⟨u58, gu58, H⟩ := Option.bind_eq_some_iff.mp H
      obtain ⟨h59, gh59, H⟩ := Option.bind_eq_some_iff.mp H
      refine wq_callV (a := x2) (as := [.int x49, .int x52]) (r := []) (v1 := none) xi_133 xi_92 dX11_carryOut_94 xm_11_200 rfl (Nat.le_of_ble_eq_true rfl) (pG_ok gu58) ⟨(Nat.le_of_ble_eq_true rfl), (Nat.le_of_ble_eq_true rfl)⟩ rfl nofun (e_92 d _ gh59 ⟨rfl, rfl⟩) ?_
      change Wp _ _ _ _ [] _ _
      refine wp_aload_n xi_133 dX11_carryOut_97 rfl ?_
      obtain ⟨x60, gx60, H⟩ := Option.bind_eq_some_iff.mp H
      refine wq_getfr xi_133 dX11_carryOut_98 xf_11_48 gx60 ?_
      refine wp_aload_n xi_133 dX11_carryOut_101 rfl ?_
      obtain ⟨u61, gu61, H⟩ := Option.bind_eq_some_iff.mp H
      obtain ⟨⟨x63, h62⟩, gh62, H⟩ := Option.bind_eq_some_iff.mp H
      dsimp only at H
      refine wq_callV (a := x60) (as := [.ref x2]) (r := []) (v1 := (some (.int x63))) xi_133 xi_3 dX11_carryOut_102 xm_11_196 rfl (Nat.le_of_ble_eq_true rfl) (pG_ok gu61) ⟨(Nat.le_of_ble_eq_true rfl), (Nat.le_of_ble_eq_true rfl)⟩ rfl nofun (e_3 (d + 1) _ gh62 ⟨rfl, rfl⟩) ?_
      change Wp _ _ _ _ [.int x63] _ _
      refine wp_if_ne 130 xi_133 dX11_carryOut_105 rfl (fun c64 => ?_) (fun c64 => ?_)
      · rw [if_neg c64] at H
        obtain rfl := Option.some.inj H
        exact Wp.more (by simp [xMore, Value.category]) K46
      · rw [if_pos c64] at H
        refine wp_aload_n xi_133 dX11_carryOut_108 rfl ?_
        obtain ⟨x65, gx65, H⟩ := Option.bind_eq_some_iff.mp H
        refine wq_getfr xi_133 dX11_carryOut_109 xf_11_26 gx65 ?_
        refine wp_iconst 3 xi_133 dX11_carryOut_112 rfl ?_
        refine wp_aload_n xi_133 dX11_carryOut_113 rfl ?_
        obtain ⟨x66, gx66, H⟩ := Option.bind_eq_some_iff.mp H
        refine wq_getfr xi_133 dX11_carryOut_114 xf_11_48 gx66 ?_
        obtain ⟨x67, gx67, H⟩ := Option.bind_eq_some_iff.mp H
        refine wq_getfi xi_133 dX11_carryOut_117 xf_11_245 gx67 ?_
        refine wp_aload_n xi_133 dX11_carryOut_120 rfl ?_
        obtain ⟨x68, gx68, H⟩ := Option.bind_eq_some_iff.mp H
        refine wq_getfr xi_133 dX11_carryOut_121 xf_11_48 gx68 ?_
        obtain ⟨x69, gx69, H⟩ := Option.bind_eq_some_iff.mp H
        refine wq_getfi xi_133 dX11_carryOut_124 xf_11_354 gx69 ?_
        obtain ⟨u70, gu70, H⟩ := Option.bind_eq_some_iff.mp H
        obtain ⟨h71, gh71, H⟩ := Option.bind_eq_some_iff.mp H
        refine wq_callV (a := x65) (as := [.int 3, .int x67, .int x69]) (r := []) (v1 := none) xi_133 xi_70 dX11_carryOut_127 xm_11_347 rfl (Nat.le_of_ble_eq_true rfl) (pG_ok gu70) ⟨(Nat.le_of_ble_eq_true rfl), (Nat.le_of_ble_eq_true rfl)⟩ rfl nofun (e_70 (d + 2) _ gh71 ⟨rfl, rfl⟩) ?_
        change Wp _ _ _ _ [] _ _
        obtain rfl := Option.some.inj H
        exact Wp.more (by simp [xMore, Value.category]) K46
    · rw [if_pos c57] at H
      refine wp_aload_n xi_133 dX11_carryOut_64 rfl ?_
      obtain ⟨x72, gx72, H⟩ := Option.bind_eq_some_iff.mp H
      refine wq_getfr xi_133 dX11_carryOut_65 xf_11_26 gx72 ?_
      refine wp_iconst 2 xi_133 dX11_carryOut_68 rfl ?_
      refine wp_aload_n xi_133 dX11_carryOut_69 rfl ?_
      obtain ⟨x73, gx73, H⟩ := Option.bind_eq_some_iff.mp H
      refine wq_getfr xi_133 dX11_carryOut_70 xf_11_48 gx73 ?_
      obtain ⟨x74, gx74, H⟩ := Option.bind_eq_some_iff.mp H
      refine wq_getfi xi_133 dX11_carryOut_73 xf_11_245 gx74 ?_
      refine wp_aload_n xi_133 dX11_carryOut_76 rfl ?_
      obtain ⟨x75, gx75, H⟩ := Option.bind_eq_some_iff.mp H
      refine wq_getfr xi_133 dX11_carryOut_77 xf_11_48 gx75 ?_
      obtain ⟨x76, gx76, H⟩ := Option.bind_eq_some_iff.mp H
      refine wq_getfi xi_133 dX11_carryOut_80 xf_11_354 gx76 ?_
      obtain ⟨u77, gu77, H⟩ := Option.bind_eq_some_iff.mp H
      obtain ⟨h78, gh78, H⟩ := Option.bind_eq_some_iff.mp H
      refine wq_callV (a := x72) (as := [.int 2, .int x74, .int x76]) (r := []) (v1 := none) xi_133 xi_70 dX11_carryOut_83 xm_11_347 rfl (Nat.le_of_ble_eq_true rfl) (pG_ok gu77) ⟨(Nat.le_of_ble_eq_true rfl), (Nat.le_of_ble_eq_true rfl)⟩ rfl nofun (e_70 (d + 2) _ gh78 ⟨rfl, rfl⟩) ?_
      change Wp _ _ _ _ [] _ _
      refine wp_goto 130 xi_133 dX11_carryOut_86 rfl ?_
      obtain rfl := Option.some.inj H
      exact Wp.more (by simp [xMore, Value.category]) K46
  · rw [if_neg c8] at H
    refine wp_aload_n xi_133 dX11_carryOut_24 rfl ?_
    obtain ⟨x79, gx79, H⟩ := Option.bind_eq_some_iff.mp H
    refine wq_getfr xi_133 dX11_carryOut_25 xf_11_26 gx79 ?_
    refine wp_iconst 1 xi_133 dX11_carryOut_28 rfl ?_
    refine wp_iload_n xi_133 dX11_carryOut_29 rfl ?_
    refine wp_iconst 3 xi_133 dX11_carryOut_30 rfl ?_
    obtain ⟨x80, gx80, H⟩ := Option.bind_eq_some_iff.mp H
    refine wq_idiv xi_133 dX11_carryOut_31 gx80 ?_
    refine wp_iconst 0 xi_133 dX11_carryOut_32 rfl ?_
    obtain ⟨u81, gu81, H⟩ := Option.bind_eq_some_iff.mp H
    obtain ⟨h82, gh82, H⟩ := Option.bind_eq_some_iff.mp H
    refine wq_callV (a := x79) (as := [.int 1, .int x80, .int 0]) (r := []) (v1 := none) xi_133 xi_70 dX11_carryOut_33 xm_11_347 rfl (Nat.le_of_ble_eq_true rfl) (pG_ok gu81) ⟨(Nat.le_of_ble_eq_true rfl), (Nat.le_of_ble_eq_true rfl)⟩ rfl nofun (e_70 (d + 2) _ gh82 ⟨rfl, rfl⟩) ?_
    change Wp _ _ _ _ [] _ _
    refine wp_goto 130 xi_133 dX11_carryOut_36 rfl ?_
    obtain rfl := Option.some.inj H
    exact Wp.more (by simp [xMore, Value.category]) K46
/- FelledHasLost.undo()I -/
def f_135  (a : Nat) (h : xH) : Option (Int32 × xH) :=
  (pFr h a 11 3).bind fun x1 =>
  (pFi h x1 3 2).bind fun x2 =>
  (if x2 = 0 then
  some ((-1), h)
  else
  (pFr h a 11 3).bind fun x4 =>
  (pFr h a 11 2).bind fun x5 =>
  (pG (pIs h x4 3)).bind fun _ =>
  (f_44 x4 x5 h).bind fun h7 =>
  (pFr h7 a 11 2).bind fun x8 =>
  (pFr h7 a 11 2).bind fun x9 =>
  (pFi h7 x9 7 1).bind fun x10 =>
  (pG (pIs h7 a 11)).bind fun _ =>
  (f_269 a x10 h7).bind fun (x13, h12) =>
  (pP h12 x8 7 1 (.int x13)).bind fun h14 =>
  (pFr h14 a 11 3).bind fun x15 =>
  (pFi h14 x15 3 2).bind fun x16 =>
  some (x16, h14))
set_option maxHeartbeats 4000000 in
theorem e_135 (d : Nat) (Q : Option Value → xH → Prop)  {h : xH} {a : Nat} {x : Int32} {h1 : xH} (H : f_135  a h = some (x, h1)) (hq : Q (some (.int x)) h1) : Wp (d + 3) 135 0 [some (.ref a)] [] h Q := by
  unfold f_135 at H
  refine wp_aload_n xi_135 dX11_undo_0 rfl ?_
  obtain ⟨x1, gx1, H⟩ := Option.bind_eq_some_iff.mp H
  refine wq_getfr xi_135 dX11_undo_1 xf_11_33 gx1 ?_
  obtain ⟨x2, gx2, H⟩ := Option.bind_eq_some_iff.mp H
  refine wq_getfi xi_135 dX11_undo_4 xf_11_364 gx2 ?_
  refine wp_if_ne 12 xi_135 dX11_undo_7 rfl (fun c3 => ?_) (fun c3 => ?_)
  · rw [if_neg c3] at H
    refine wp_aload_n xi_135 dX11_undo_12 rfl ?_
    obtain ⟨x4, gx4, H⟩ := Option.bind_eq_some_iff.mp H
    refine wq_getfr xi_135 dX11_undo_13 xf_11_33 gx4 ?_
    refine wp_aload_n xi_135 dX11_undo_16 rfl ?_
    obtain ⟨x5, gx5, H⟩ := Option.bind_eq_some_iff.mp H
    refine wq_getfr xi_135 dX11_undo_17 xf_11_26 gx5 ?_
    obtain ⟨u6, gu6, H⟩ := Option.bind_eq_some_iff.mp H
    obtain ⟨h7, gh7, H⟩ := Option.bind_eq_some_iff.mp H
    refine wq_callV (a := x4) (as := [.ref x5]) (r := []) (v1 := none) xi_135 xi_44 dX11_undo_20 xm_11_365 rfl (Nat.le_of_ble_eq_true rfl) (pG_ok gu6) ⟨(Nat.le_of_ble_eq_true rfl), (Nat.le_of_ble_eq_true rfl)⟩ rfl nofun (e_44 d _ gh7 ⟨rfl, rfl⟩) ?_
    change Wp _ _ _ _ [] _ _
    refine wp_aload_n xi_135 dX11_undo_23 rfl ?_
    obtain ⟨x8, gx8, H⟩ := Option.bind_eq_some_iff.mp H
    refine wq_getfr xi_135 dX11_undo_24 xf_11_26 gx8 ?_
    refine wp_aload_n xi_135 dX11_undo_27 rfl ?_
    refine wp_aload_n xi_135 dX11_undo_28 rfl ?_
    obtain ⟨x9, gx9, H⟩ := Option.bind_eq_some_iff.mp H
    refine wq_getfr xi_135 dX11_undo_29 xf_11_26 gx9 ?_
    obtain ⟨x10, gx10, H⟩ := Option.bind_eq_some_iff.mp H
    refine wq_getfi xi_135 dX11_undo_32 xf_11_159 gx10 ?_
    obtain ⟨u11, gu11, H⟩ := Option.bind_eq_some_iff.mp H
    obtain ⟨⟨x13, h12⟩, gh12, H⟩ := Option.bind_eq_some_iff.mp H
    dsimp only at H
    refine wq_callV (a := a) (as := [.int x10]) (r := [.ref x8]) (v1 := (some (.int x13))) xi_135 xi_269 dX11_undo_35 xm_11_277 rfl (Nat.le_of_ble_eq_true rfl) (pG_ok gu11) ⟨(Nat.le_of_ble_eq_true rfl), (Nat.le_of_ble_eq_true rfl)⟩ rfl nofun (e_269 (d + 2) _ gh12 ⟨rfl, rfl⟩) ?_
    change Wp _ _ _ _ [.int x13, .ref x8] _ _
    obtain ⟨h14, gh14, H⟩ := Option.bind_eq_some_iff.mp H
    refine wq_putf xi_135 dX11_undo_38 xf_11_159 (Or.inl rfl) gh14 ?_
    refine wp_aload_n xi_135 dX11_undo_41 rfl ?_
    obtain ⟨x15, gx15, H⟩ := Option.bind_eq_some_iff.mp H
    refine wq_getfr xi_135 dX11_undo_42 xf_11_33 gx15 ?_
    obtain ⟨x16, gx16, H⟩ := Option.bind_eq_some_iff.mp H
    refine wq_getfi xi_135 dX11_undo_45 xf_11_364 gx16 ?_
    obtain ⟨rfl, rfl⟩ := oi2 H
    exact wp_iret xi_135 dX11_undo_48 hq
  · rw [if_pos c3] at H
    refine wp_iconst (-1) xi_135 dX11_undo_10 rfl ?_
    obtain ⟨rfl, rfl⟩ := oi2 H
    exact wp_iret xi_135 dX11_undo_11 hq
/- FelledHasLost$Chooser.isSafe(LFelledHasLost$Tower;I)Z -/
def f_7  (a : Nat) (p0 : Nat) (p1 : Int32) (h : xH) : Option (Int32 × xH) :=
  (pDiv p1 10).bind fun x1 =>
  (pG (pIs h p0 10)).bind fun _ =>
  (f_102 p0 p1 h).bind fun (x4, h3) =>
  (if x4 = 0 then
  pZ 0 h3
  else
  (pDiv x1 3).bind fun x6 =>
  (pG (pIs h3 p0 10)).bind fun _ =>
  (f_97 p0 x6 h3).bind fun (x9, h8) =>
  (if (2 : Int32) ≤ x9 then
  (pG (pIs h8 p0 10)).bind fun _ =>
  (f_103 p0 p1 h8).bind fun (x13, h12) =>
  (pG (pIs h12 p0 10)).bind fun _ =>
  (f_93 p0 x1 h12).bind fun (x16, h15) =>
  (pFr h15 a 1 0).bind fun x17 =>
  (pG (pIs h15 x17 0)).bind fun _ =>
  (f_3 x17 p0 h15).bind fun (x20, h19) =>
  ((if x20 = 0 then
  some (x20, h19)
  else
  (pG (pIs h19 p0 10)).bind fun _ =>
  (f_92 p0 x13 x16 h19).bind fun h35 =>
  (pFr h35 a 1 0).bind fun x36 =>
  (pG (pIs h35 x36 0)).bind fun _ =>
  (f_3 x36 p0 h35).bind fun (x39, h38) =>
  (pG (pIs h38 p0 10)).bind fun _ =>
  (f_93 p0 x13 h38).bind fun (x42, h41) =>
  some (x39, h41) : Option (Int32 × xH))).bind fun (w31, h32) =>
  (pG (pIs h32 p0 10)).bind fun _ =>
  (f_92 p0 x1 x16 h32).bind fun h44 =>
  pZ w31 h44
  else
  pZ 0 h8))
set_option maxHeartbeats 4000000 in
theorem e_7 (d : Nat) (Q : Option Value → xH → Prop)  {h : xH} {a : Nat} {p0 : Nat} {p1 : Int32} {x : Int32} {h1 : xH} (H : f_7  a p0 p1 h = some (x, h1)) (hq : Q (some (.int x)) h1) : Wp (d + 3) 7 0 [some (.ref a), some (.ref p0), some (.int p1), none, none, none, none] [] h Q := by
  unfold f_7 at H
  refine wp_iload_n xi_7 dX1_isSafe_0 rfl ?_
  refine wp_bipush 10 xi_7 dX1_isSafe_1 rfl ?_
  obtain ⟨x1, gx1, H⟩ := Option.bind_eq_some_iff.mp H
  refine wq_idiv xi_7 dX1_isSafe_3 gx1 ?_
  refine wp_istore_n [some (.ref a), some (.ref p0), some (.int p1), some (.int x1), none, none, none] xi_7 dX1_isSafe_4 rfl ?_
  refine wp_aload_n xi_7 dX1_isSafe_5 rfl ?_
  refine wp_iload_n xi_7 dX1_isSafe_6 rfl ?_
  obtain ⟨u2, gu2, H⟩ := Option.bind_eq_some_iff.mp H
  obtain ⟨⟨x4, h3⟩, gh3, H⟩ := Option.bind_eq_some_iff.mp H
  dsimp only at H
  refine wq_callV (a := p0) (as := [.int p1]) (r := []) (v1 := (some (.int x4))) xi_7 xi_102 dX1_isSafe_7 xm_1_23 rfl (Nat.le_of_ble_eq_true rfl) (pG_ok gu2) ⟨(Nat.le_of_ble_eq_true rfl), (Nat.le_of_ble_eq_true rfl)⟩ rfl nofun (e_102 d _ gh3 ⟨rfl, rfl⟩) ?_
  change Wp _ _ _ _ [.int x4] _ _
  refine wp_if_eq 24 xi_7 dX1_isSafe_10 rfl (fun c5 => ?_) (fun c5 => ?_)
  · rw [if_pos c5] at H
    refine wp_iconst 0 xi_7 dX1_isSafe_24 rfl ?_
    obtain ⟨gz, hz⟩ := pZ_ok H
    obtain ⟨rfl, rfl⟩ := Prod.mk.inj hz
    exact wp_zret xi_7 dX1_isSafe_25 gz hq
  · rw [if_neg c5] at H
    refine wp_aload_n xi_7 dX1_isSafe_13 rfl ?_
    refine wp_iload_n xi_7 dX1_isSafe_14 rfl ?_
    refine wp_iconst 3 xi_7 dX1_isSafe_15 rfl ?_
    obtain ⟨x6, gx6, H⟩ := Option.bind_eq_some_iff.mp H
    refine wq_idiv xi_7 dX1_isSafe_16 gx6 ?_
    obtain ⟨u7, gu7, H⟩ := Option.bind_eq_some_iff.mp H
    obtain ⟨⟨x9, h8⟩, gh8, H⟩ := Option.bind_eq_some_iff.mp H
    dsimp only at H
    refine wq_callV (a := p0) (as := [.int x6]) (r := []) (v1 := (some (.int x9))) xi_7 xi_97 dX1_isSafe_17 xm_1_29 rfl (Nat.le_of_ble_eq_true rfl) (pG_ok gu7) ⟨(Nat.le_of_ble_eq_true rfl), (Nat.le_of_ble_eq_true rfl)⟩ rfl nofun (e_97 (d + 1) _ gh8 ⟨rfl, rfl⟩) ?_
    change Wp _ _ _ _ [.int x9] _ _
    refine wp_iconst 2 xi_7 dX1_isSafe_20 rfl ?_
    refine wp_icmp_ge 26 xi_7 dX1_isSafe_21 rfl (fun c10 => ?_) (fun c10 => ?_)
    · rw [if_pos c10] at H
      refine wp_aload_n xi_7 dX1_isSafe_26 rfl ?_
      refine wp_iload_n xi_7 dX1_isSafe_27 rfl ?_
      obtain ⟨u11, gu11, H⟩ := Option.bind_eq_some_iff.mp H
      obtain ⟨⟨x13, h12⟩, gh12, H⟩ := Option.bind_eq_some_iff.mp H
      dsimp only at H
      refine wq_callV (a := p0) (as := [.int p1]) (r := []) (v1 := (some (.int x13))) xi_7 xi_103 dX1_isSafe_28 xm_1_33 rfl (Nat.le_of_ble_eq_true rfl) (pG_ok gu11) ⟨(Nat.le_of_ble_eq_true rfl), (Nat.le_of_ble_eq_true rfl)⟩ rfl nofun (e_103 d _ gh12 ⟨rfl, rfl⟩) ?_
      change Wp _ _ _ _ [.int x13] _ _
      refine wp_istore [some (.ref a), some (.ref p0), some (.int p1), some (.int x1), some (.int x13), none, none] xi_7 dX1_isSafe_31 rfl ?_
      refine wp_aload_n xi_7 dX1_isSafe_33 rfl ?_
      refine wp_iload_n xi_7 dX1_isSafe_34 rfl ?_
      obtain ⟨u14, gu14, H⟩ := Option.bind_eq_some_iff.mp H
      obtain ⟨⟨x16, h15⟩, gh15, H⟩ := Option.bind_eq_some_iff.mp H
      dsimp only at H
      refine wq_callV (a := p0) (as := [.int x1]) (r := []) (v1 := (some (.int x16))) xi_7 xi_93 dX1_isSafe_35 xm_1_36 rfl (Nat.le_of_ble_eq_true rfl) (pG_ok gu14) ⟨(Nat.le_of_ble_eq_true rfl), (Nat.le_of_ble_eq_true rfl)⟩ rfl nofun (e_93 d _ gh15 ⟨rfl, rfl⟩) ?_
      change Wp _ _ _ _ [.int x16] _ _
      refine wp_istore [some (.ref a), some (.ref p0), some (.int p1), some (.int x1), some (.int x13), some (.int x16), none] xi_7 dX1_isSafe_38 rfl ?_
      refine wp_aload_n xi_7 dX1_isSafe_40 rfl ?_
      obtain ⟨x17, gx17, H⟩ := Option.bind_eq_some_iff.mp H
      refine wq_getfr xi_7 dX1_isSafe_41 xf_1_15 gx17 ?_
      refine wp_aload_n xi_7 dX1_isSafe_44 rfl ?_
      obtain ⟨u18, gu18, H⟩ := Option.bind_eq_some_iff.mp H
      obtain ⟨⟨x20, h19⟩, gh19, H⟩ := Option.bind_eq_some_iff.mp H
      dsimp only at H
      refine wq_callV (a := x17) (as := [.ref p0]) (r := []) (v1 := (some (.int x20))) xi_7 xi_3 dX1_isSafe_45 xm_1_39 rfl (Nat.le_of_ble_eq_true rfl) (pG_ok gu18) ⟨(Nat.le_of_ble_eq_true rfl), (Nat.le_of_ble_eq_true rfl)⟩ rfl nofun (e_3 (d + 1) _ gh19 ⟨rfl, rfl⟩) ?_
      change Wp _ _ _ _ [.int x20] _ _
      refine wp_istore [some (.ref a), some (.ref p0), some (.int p1), some (.int x1), some (.int x13), some (.int x16), some (.int x20)] xi_7 dX1_isSafe_48 rfl ?_
      refine wp_iload xi_7 dX1_isSafe_50 rfl ?_
      obtain ⟨⟨w31, h32⟩, G45, H⟩ := Option.bind_eq_some_iff.mp H
      dsimp only at H
      have K33 : Wp (d + 3) 7 80 [some (.ref a), some (.ref p0), some (.int p1), some (.int x1), some (.int x13), some (.int x16), some (.int w31)] [] h32 Q := by
        refine wp_aload_n xi_7 dX1_isSafe_80 rfl ?_
        refine wp_iload_n xi_7 dX1_isSafe_81 rfl ?_
        refine wp_iload xi_7 dX1_isSafe_82 rfl ?_
        obtain ⟨u43, gu43, H⟩ := Option.bind_eq_some_iff.mp H
        obtain ⟨h44, gh44, H⟩ := Option.bind_eq_some_iff.mp H
        refine wq_callV (a := p0) (as := [.int x1, .int x16]) (r := []) (v1 := none) xi_7 xi_92 dX1_isSafe_84 xm_1_45 rfl (Nat.le_of_ble_eq_true rfl) (pG_ok gu43) ⟨(Nat.le_of_ble_eq_true rfl), (Nat.le_of_ble_eq_true rfl)⟩ rfl nofun (e_92 d _ gh44 ⟨rfl, rfl⟩) ?_
        change Wp _ _ _ _ [] _ _
        refine wp_iload xi_7 dX1_isSafe_87 rfl ?_
        obtain ⟨gz, hz⟩ := pZ_ok H
        obtain ⟨rfl, rfl⟩ := Prod.mk.inj hz
        exact wp_zret xi_7 dX1_isSafe_89 gz hq
      clear H
      have H := G45
      clear G45
      refine wp_if_eq 80 xi_7 dX1_isSafe_52 rfl (fun c21 => ?_) (fun c21 => ?_)
      · rw [if_pos c21] at H
        simp only [Option.some.injEq, Prod.mk.injEq] at H
        obtain ⟨rfl, rfl⟩ := H
        exact Wp.more (by simp [xMore, Value.category]) K33
      · rw [if_neg c21] at H
        refine wp_aload_n xi_7 dX1_isSafe_55 rfl ?_
        refine wp_iload xi_7 dX1_isSafe_56 rfl ?_
        refine wp_iload xi_7 dX1_isSafe_58 rfl ?_
        obtain ⟨u34, gu34, H⟩ := Option.bind_eq_some_iff.mp H
        obtain ⟨h35, gh35, H⟩ := Option.bind_eq_some_iff.mp H
        refine wq_callV (a := p0) (as := [.int x13, .int x16]) (r := []) (v1 := none) xi_7 xi_92 dX1_isSafe_60 xm_1_45 rfl (Nat.le_of_ble_eq_true rfl) (pG_ok gu34) ⟨(Nat.le_of_ble_eq_true rfl), (Nat.le_of_ble_eq_true rfl)⟩ rfl nofun (e_92 d _ gh35 ⟨rfl, rfl⟩) ?_
        change Wp _ _ _ _ [] _ _
        refine wp_aload_n xi_7 dX1_isSafe_63 rfl ?_
        obtain ⟨x36, gx36, H⟩ := Option.bind_eq_some_iff.mp H
        refine wq_getfr xi_7 dX1_isSafe_64 xf_1_15 gx36 ?_
        refine wp_aload_n xi_7 dX1_isSafe_67 rfl ?_
        obtain ⟨u37, gu37, H⟩ := Option.bind_eq_some_iff.mp H
        obtain ⟨⟨x39, h38⟩, gh38, H⟩ := Option.bind_eq_some_iff.mp H
        dsimp only at H
        refine wq_callV (a := x36) (as := [.ref p0]) (r := []) (v1 := (some (.int x39))) xi_7 xi_3 dX1_isSafe_68 xm_1_39 rfl (Nat.le_of_ble_eq_true rfl) (pG_ok gu37) ⟨(Nat.le_of_ble_eq_true rfl), (Nat.le_of_ble_eq_true rfl)⟩ rfl nofun (e_3 (d + 1) _ gh38 ⟨rfl, rfl⟩) ?_
        change Wp _ _ _ _ [.int x39] _ _
        refine wp_istore [some (.ref a), some (.ref p0), some (.int p1), some (.int x1), some (.int x13), some (.int x16), some (.int x39)] xi_7 dX1_isSafe_71 rfl ?_
        refine wp_aload_n xi_7 dX1_isSafe_73 rfl ?_
        refine wp_iload xi_7 dX1_isSafe_74 rfl ?_
        obtain ⟨u40, gu40, H⟩ := Option.bind_eq_some_iff.mp H
        obtain ⟨⟨x42, h41⟩, gh41, H⟩ := Option.bind_eq_some_iff.mp H
        dsimp only at H
        refine wq_callV (a := p0) (as := [.int x13]) (r := []) (v1 := (some (.int x42))) xi_7 xi_93 dX1_isSafe_76 xm_1_36 rfl (Nat.le_of_ble_eq_true rfl) (pG_ok gu40) ⟨(Nat.le_of_ble_eq_true rfl), (Nat.le_of_ble_eq_true rfl)⟩ rfl nofun (e_93 d _ gh41 ⟨rfl, rfl⟩) ?_
        change Wp _ _ _ _ [.int x42] _ _
        refine wp_pop xi_7 dX1_isSafe_79 rfl ?_
        simp only [Option.some.injEq, Prod.mk.injEq] at H
        obtain ⟨rfl, rfl⟩ := H
        exact Wp.more (by simp [xMore, Value.category]) K33
    · rw [if_neg c10] at H
      refine wp_iconst 0 xi_7 dX1_isSafe_24 rfl ?_
      obtain ⟨gz, hz⟩ := pZ_ok H
      obtain ⟨rfl, rfl⟩ := Prod.mk.inj hz
      exact wp_zret xi_7 dX1_isSafe_25 gz hq
/- FelledHasLost$Chooser.survey(LFelledHasLost$Tower;)V -/
def f_8_27  : Nat → Nat → Nat → Int32 → Int32 → xH → Option (xH)
  | 0, _, _, _, _, _ => none
  | n + 1, a0, a1, a2, a3, h =>
  (if a2 ≤ a3 then
  some (h)
  else
  (pFi h a0 1 4).bind fun x2 =>
  (pG (pIs h a1 10)).bind fun _ =>
  (f_102 a1 a3 h).bind fun (x5, h4) =>
  ((if x5 = 0 then
  some (0)
  else
  some (1) : Option (Int32))).bind fun (w7 : Int32) =>
  (pP h4 a0 1 4 (.int (x2 + w7))).bind fun h9 =>
  (pG (pIs h9 a0 1)).bind fun _ =>
  (f_7 a0 a1 a3 h9).bind fun (x12, h11) =>
  ((if x12 = 0 then
  some (h11)
  else
  (pFi h11 a0 1 3).bind fun x27 =>
  (pP h11 a0 1 3 (.int (x27 + 1))).bind fun h28 =>
  (pFi h28 a0 1 5).bind fun x29 =>
  ((if x29 = (-1) then
  some (a3)
  else
  (pFi h28 a0 1 5).bind fun x34 =>
  some (x34) : Option (Int32))).bind fun (w32 : Int32) =>
  (pP h28 a0 1 5 (.int w32)).bind fun h35 =>
  (pP h35 a0 1 6 (.int a3)).bind fun h36 =>
  some (h36) : Option (xH))).bind fun (h25 : xH) =>
  f_8_27 n a0 a1 a2 (a3 + 1) h25)
theorem ef_8_27 (d : Nat) (Q : Option Value → xH → Prop)  : ∀ (n : Nat) (a0 : Nat) (a1 : Nat) (a2 : Int32) (a3 : Int32) (h : xH) (r : xH), f_8_27 n a0 a1 a2 a3 h = some r → (∀  (h1 : xH), r = h1 → Wp (d + 4) 8 104 [none, none, none, none] [] h1 Q) → Wp (d + 4) 8 27 [some (.ref a0), some (.ref a1), some (.int a2), some (.int a3)] [] h Q := by
  intro n
  induction n with
  | zero =>
    intro a0 a1 a2 a3 h r H
    cases H
  | succ n ih =>
    intro a0 a1 a2 a3 h r H KE
    unfold f_8_27 at H
    refine wp_iload_n xi_8 dX1_survey_27 rfl ?_
    refine wp_iload_n xi_8 dX1_survey_28 rfl ?_
    refine wp_icmp_ge 104 xi_8 dX1_survey_29 rfl (fun c1 => ?_) (fun c1 => ?_)
    · rw [if_pos c1] at H
      obtain rfl := Option.some.inj H
      exact Wp.more (by simp [xMore, Value.category]) (KE  h rfl)
    · rw [if_neg c1] at H
      refine wp_aload_n xi_8 dX1_survey_32 rfl ?_
      refine wp_dup xi_8 dX1_survey_33 rfl ?_
      obtain ⟨x2, gx2, H⟩ := Option.bind_eq_some_iff.mp H
      refine wq_getfi xi_8 dX1_survey_34 xf_1_57 gx2 ?_
      refine wp_aload_n xi_8 dX1_survey_37 rfl ?_
      refine wp_iload_n xi_8 dX1_survey_38 rfl ?_
      obtain ⟨u3, gu3, H⟩ := Option.bind_eq_some_iff.mp H
      obtain ⟨⟨x5, h4⟩, gh4, H⟩ := Option.bind_eq_some_iff.mp H
      dsimp only at H
      refine wq_callV (a := a1) (as := [.int a3]) (r := [.int x2, .ref a0]) (v1 := (some (.int x5))) xi_8 xi_102 dX1_survey_39 xm_1_23 rfl (Nat.le_of_ble_eq_true rfl) (pG_ok gu3) ⟨(Nat.le_of_ble_eq_true rfl), (Nat.le_of_ble_eq_true rfl)⟩ rfl nofun (e_102 (d + 1) _ gh4 ⟨rfl, rfl⟩) ?_
      change Wp _ _ _ _ [.int x5, .int x2, .ref a0] _ _
      obtain ⟨w7, G39, H⟩ := Option.bind_eq_some_iff.mp H
      have K8 : Wp (d + 4) 8 50 [some (.ref a0), some (.ref a1), some (.int a2), some (.int a3)] [.int w7, .int x2, .ref a0] h4 Q := by
        refine wp_iadd xi_8 dX1_survey_50 ?_
        obtain ⟨h9, gh9, H⟩ := Option.bind_eq_some_iff.mp H
        refine wq_putf xi_8 dX1_survey_51 xf_1_57 (Or.inl rfl) gh9 ?_
        refine wp_aload_n xi_8 dX1_survey_54 rfl ?_
        refine wp_aload_n xi_8 dX1_survey_55 rfl ?_
        refine wp_iload_n xi_8 dX1_survey_56 rfl ?_
        obtain ⟨u10, gu10, H⟩ := Option.bind_eq_some_iff.mp H
        obtain ⟨⟨x12, h11⟩, gh11, H⟩ := Option.bind_eq_some_iff.mp H
        dsimp only at H
        refine wq_callV (a := a0) (as := [.ref a1, .int a3]) (r := []) (v1 := (some (.int x12))) xi_8 xi_7 dX1_survey_57 xm_1_66 rfl (Nat.le_of_ble_eq_true rfl) (pG_ok gu10) ⟨(Nat.le_of_ble_eq_true rfl), (Nat.le_of_ble_eq_true rfl)⟩ rfl nofun (e_7 d _ gh11 ⟨rfl, rfl⟩) ?_
        change Wp _ _ _ _ [.int x12] _ _
        obtain ⟨h25, G38, H⟩ := Option.bind_eq_some_iff.mp H
        have K26 : Wp (d + 4) 8 98 [some (.ref a0), some (.ref a1), some (.int a2), some (.int a3)] [] h25 Q := by
          refine wp_iinc (a3 + 1) [some (.ref a0), some (.ref a1), some (.int a2), some (.int (a3 + 1))] xi_8 dX1_survey_98 rfl rfl rfl ?_
          refine wp_goto 27 xi_8 dX1_survey_101 rfl ?_
          exact Wp.more (by simp [xMore, Value.category]) (ih a0 a1 a2 (a3 + 1) h25 _ H KE)
        clear H
        have H := G38
        clear G38
        refine wp_if_eq 98 xi_8 dX1_survey_60 rfl (fun c13 => ?_) (fun c13 => ?_)
        · rw [if_pos c13] at H
          obtain rfl := Option.some.inj H
          exact Wp.more (by simp [xMore, Value.category]) K26
        · rw [if_neg c13] at H
          refine wp_aload_n xi_8 dX1_survey_63 rfl ?_
          refine wp_dup xi_8 dX1_survey_64 rfl ?_
          obtain ⟨x27, gx27, H⟩ := Option.bind_eq_some_iff.mp H
          refine wq_getfi xi_8 dX1_survey_65 xf_1_53 gx27 ?_
          refine wp_iconst 1 xi_8 dX1_survey_68 rfl ?_
          refine wp_iadd xi_8 dX1_survey_69 ?_
          obtain ⟨h28, gh28, H⟩ := Option.bind_eq_some_iff.mp H
          refine wq_putf xi_8 dX1_survey_70 xf_1_53 (Or.inl rfl) gh28 ?_
          refine wp_aload_n xi_8 dX1_survey_73 rfl ?_
          refine wp_aload_n xi_8 dX1_survey_74 rfl ?_
          obtain ⟨x29, gx29, H⟩ := Option.bind_eq_some_iff.mp H
          refine wq_getfi xi_8 dX1_survey_75 xf_1_60 gx29 ?_
          refine wp_iconst (-1) xi_8 dX1_survey_78 rfl ?_
          obtain ⟨w32, G37, H⟩ := Option.bind_eq_some_iff.mp H
          have K33 : Wp (d + 4) 8 90 [some (.ref a0), some (.ref a1), some (.int a2), some (.int a3)] [.int w32, .ref a0] h28 Q := by
            obtain ⟨h35, gh35, H⟩ := Option.bind_eq_some_iff.mp H
            refine wq_putf xi_8 dX1_survey_90 xf_1_60 (Or.inl rfl) gh35 ?_
            refine wp_aload_n xi_8 dX1_survey_93 rfl ?_
            refine wp_iload_n xi_8 dX1_survey_94 rfl ?_
            obtain ⟨h36, gh36, H⟩ := Option.bind_eq_some_iff.mp H
            refine wq_putf xi_8 dX1_survey_95 xf_1_63 (Or.inl rfl) gh36 ?_
            obtain rfl := Option.some.inj H
            exact Wp.more (by simp [xMore, Value.category]) K26
          clear H
          have H := G37
          clear G37
          refine wp_icmp_ne 86 xi_8 dX1_survey_79 rfl (fun c30 => ?_) (fun c30 => ?_)
          · rw [if_neg c30] at H
            refine wp_aload_n xi_8 dX1_survey_86 rfl ?_
            obtain ⟨x34, gx34, H⟩ := Option.bind_eq_some_iff.mp H
            refine wq_getfi xi_8 dX1_survey_87 xf_1_60 gx34 ?_
            obtain rfl := Option.some.inj H
            exact Wp.more (by simp [xMore, Value.category]) K33
          · rw [if_pos c30] at H
            refine wp_iload_n xi_8 dX1_survey_82 rfl ?_
            refine wp_goto 90 xi_8 dX1_survey_83 rfl ?_
            obtain rfl := Option.some.inj H
            exact Wp.more (by simp [xMore, Value.category]) K33
      clear H
      have H := G39
      clear G39
      refine wp_if_eq 49 xi_8 dX1_survey_42 rfl (fun c6 => ?_) (fun c6 => ?_)
      · rw [if_pos c6] at H
        refine wp_iconst 0 xi_8 dX1_survey_49 rfl ?_
        obtain rfl := Option.some.inj H
        exact Wp.more (by simp [xMore, Value.category]) K8
      · rw [if_neg c6] at H
        refine wp_iconst 1 xi_8 dX1_survey_45 rfl ?_
        refine wp_goto 50 xi_8 dX1_survey_46 rfl ?_
        obtain rfl := Option.some.inj H
        exact Wp.more (by simp [xMore, Value.category]) K8
def f_8  (a : Nat) (p0 : Nat) (h : xH) : Option (xH) :=
  (pG (pIs h p0 10)).bind fun _ =>
  (f_101 p0 h).bind fun (x3, h2) =>
  (pP h2 a 1 3 (.int 0)).bind fun h4 =>
  (pP h4 a 1 4 (.int 0)).bind fun h5 =>
  (pP h5 a 1 5 (.int (-1))).bind fun h6 =>
  (pP h6 a 1 6 (.int (-1))).bind fun h7 =>
  (f_8_27 100000 a p0 x3 0 h7).bind fun h8 =>
  some h8
set_option maxHeartbeats 4000000 in
theorem e_8 (d : Nat) (Q : Option Value → xH → Prop)  {h : xH} {a : Nat} {p0 : Nat} {h1 : xH} (H : f_8  a p0 h = some h1) (hq : Q none h1) : Wp (d + 4) 8 0 [some (.ref a), some (.ref p0), none, none] [] h Q := by
  unfold f_8 at H
  refine wp_aload_n xi_8 dX1_survey_0 rfl ?_
  obtain ⟨u1, gu1, H⟩ := Option.bind_eq_some_iff.mp H
  obtain ⟨⟨x3, h2⟩, gh2, H⟩ := Option.bind_eq_some_iff.mp H
  dsimp only at H
  refine wq_callV (a := p0) (as := []) (r := []) (v1 := (some (.int x3))) xi_8 xi_101 dX1_survey_1 xm_1_49 rfl (Nat.le_of_ble_eq_true rfl) (pG_ok gu1) ⟨(Nat.le_of_ble_eq_true rfl), (Nat.le_of_ble_eq_true rfl)⟩ rfl nofun (e_101 (d + 3) _ gh2 ⟨rfl, rfl⟩) ?_
  change Wp _ _ _ _ [.int x3] _ _
  refine wp_istore_n [some (.ref a), some (.ref p0), some (.int x3), none] xi_8 dX1_survey_4 rfl ?_
  refine wp_aload_n xi_8 dX1_survey_5 rfl ?_
  refine wp_iconst 0 xi_8 dX1_survey_6 rfl ?_
  obtain ⟨h4, gh4, H⟩ := Option.bind_eq_some_iff.mp H
  refine wq_putf xi_8 dX1_survey_7 xf_1_53 (Or.inl rfl) gh4 ?_
  refine wp_aload_n xi_8 dX1_survey_10 rfl ?_
  refine wp_iconst 0 xi_8 dX1_survey_11 rfl ?_
  obtain ⟨h5, gh5, H⟩ := Option.bind_eq_some_iff.mp H
  refine wq_putf xi_8 dX1_survey_12 xf_1_57 (Or.inl rfl) gh5 ?_
  refine wp_aload_n xi_8 dX1_survey_15 rfl ?_
  refine wp_iconst (-1) xi_8 dX1_survey_16 rfl ?_
  obtain ⟨h6, gh6, H⟩ := Option.bind_eq_some_iff.mp H
  refine wq_putf xi_8 dX1_survey_17 xf_1_60 (Or.inl rfl) gh6 ?_
  refine wp_aload_n xi_8 dX1_survey_20 rfl ?_
  refine wp_iconst (-1) xi_8 dX1_survey_21 rfl ?_
  obtain ⟨h7, gh7, H⟩ := Option.bind_eq_some_iff.mp H
  refine wq_putf xi_8 dX1_survey_22 xf_1_63 (Or.inl rfl) gh7 ?_
  refine wp_iconst 0 xi_8 dX1_survey_25 rfl ?_
  refine wp_istore_n [some (.ref a), some (.ref p0), some (.int x3), some (.int 0)] xi_8 dX1_survey_26 rfl ?_
  obtain ⟨h8, G9, H⟩ := Option.bind_eq_some_iff.mp H
  refine Wp.more (by simp [xMore, Value.category]) (ef_8_27 d Q  100000 a p0 x3 0 h7 _ G9 (fun z0 e9 => ?_))
  cases e9
  obtain rfl := Option.some.inj H
  exact wp_vret xi_8 dX1_survey_104 hq
/- FelledHasLost$Chooser.findBest(LFelledHasLost$Tower;I)V -/
def f_11_13  : Nat → Nat → Nat → Int32 → Int32 → Int32 → xH → Option (xH)
  | 0, _, _, _, _, _, _ => none
  | n + 1, a0, a1, a2, a3, a4, h =>
  (if a3 ≤ a4 then
  some (h)
  else
  (pG (pIs h a0 1)).bind fun _ =>
  (f_7 a0 a1 a4 h).bind fun (x4, h3) =>
  ((if x4 = 0 then
  some (h3)
  else
  (pG (pIs h3 a0 1)).bind fun _ =>
  (f_9 a0 a1 a4 a2 h3).bind fun h15 =>
  (pG (pIs h15 a0 1)).bind fun _ =>
  (f_12 a0 a4 0 h15).bind fun h17 =>
  (pG (pIs h17 a0 1)).bind fun _ =>
  (f_12 a0 a4 1 h17).bind fun h19 =>
  some (h19) : Option (xH))).bind fun (h12 : xH) =>
  f_11_13 n a0 a1 a2 a3 (a4 + 1) h12)
theorem ef_11_13 (d : Nat) (Q : Option Value → xH → Prop)  : ∀ (n : Nat) (a0 : Nat) (a1 : Nat) (a2 : Int32) (a3 : Int32) (a4 : Int32) (h : xH) (r : xH), f_11_13 n a0 a1 a2 a3 a4 h = some r → (∀  (h1 : xH), r = h1 → Wp (d + 4) 11 57 [none, none, none, none, none] [] h1 Q) → Wp (d + 4) 11 13 [some (.ref a0), some (.ref a1), some (.int a2), some (.int a3), some (.int a4)] [] h Q := by
  intro n
  induction n with
  | zero =>
    intro a0 a1 a2 a3 a4 h r H
    cases H
  | succ n ih =>
    intro a0 a1 a2 a3 a4 h r H KE
    unfold f_11_13 at H
    refine wp_iload xi_11 dX1_findBest_13 rfl ?_
    refine wp_iload_n xi_11 dX1_findBest_15 rfl ?_
    refine wp_icmp_ge 57 xi_11 dX1_findBest_16 rfl (fun c1 => ?_) (fun c1 => ?_)
    · rw [if_pos c1] at H
      obtain rfl := Option.some.inj H
      exact Wp.more (by simp [xMore, Value.category]) (KE  h rfl)
    · rw [if_neg c1] at H
      refine wp_aload_n xi_11 dX1_findBest_19 rfl ?_
      refine wp_aload_n xi_11 dX1_findBest_20 rfl ?_
      refine wp_iload xi_11 dX1_findBest_21 rfl ?_
      obtain ⟨u2, gu2, H⟩ := Option.bind_eq_some_iff.mp H
      obtain ⟨⟨x4, h3⟩, gh3, H⟩ := Option.bind_eq_some_iff.mp H
      dsimp only at H
      refine wq_callV (a := a0) (as := [.ref a1, .int a4]) (r := []) (v1 := (some (.int x4))) xi_11 xi_7 dX1_findBest_23 xm_1_66 rfl (Nat.le_of_ble_eq_true rfl) (pG_ok gu2) ⟨(Nat.le_of_ble_eq_true rfl), (Nat.le_of_ble_eq_true rfl)⟩ rfl nofun (e_7 d _ gh3 ⟨rfl, rfl⟩) ?_
      change Wp _ _ _ _ [.int x4] _ _
      obtain ⟨h12, G20, H⟩ := Option.bind_eq_some_iff.mp H
      have K13 : Wp (d + 4) 11 51 [some (.ref a0), some (.ref a1), some (.int a2), some (.int a3), some (.int a4)] [] h12 Q := by
        refine wp_iinc (a4 + 1) [some (.ref a0), some (.ref a1), some (.int a2), some (.int a3), some (.int (a4 + 1))] xi_11 dX1_findBest_51 rfl rfl rfl ?_
        refine wp_goto 13 xi_11 dX1_findBest_54 rfl ?_
        exact Wp.more (by simp [xMore, Value.category]) (ih a0 a1 a2 a3 (a4 + 1) h12 _ H KE)
      clear H
      have H := G20
      clear G20
      refine wp_if_eq 51 xi_11 dX1_findBest_26 rfl (fun c5 => ?_) (fun c5 => ?_)
      · rw [if_pos c5] at H
        obtain rfl := Option.some.inj H
        exact Wp.more (by simp [xMore, Value.category]) K13
      · rw [if_neg c5] at H
        refine wp_aload_n xi_11 dX1_findBest_29 rfl ?_
        refine wp_aload_n xi_11 dX1_findBest_30 rfl ?_
        refine wp_iload xi_11 dX1_findBest_31 rfl ?_
        refine wp_iload_n xi_11 dX1_findBest_33 rfl ?_
        obtain ⟨u14, gu14, H⟩ := Option.bind_eq_some_iff.mp H
        obtain ⟨h15, gh15, H⟩ := Option.bind_eq_some_iff.mp H
        refine wq_callV (a := a0) (as := [.ref a1, .int a4, .int a2]) (r := []) (v1 := none) xi_11 xi_9 dX1_findBest_34 xm_1_106 rfl (Nat.le_of_ble_eq_true rfl) (pG_ok gu14) ⟨(Nat.le_of_ble_eq_true rfl), (Nat.le_of_ble_eq_true rfl)⟩ rfl nofun (e_9 (d + 1) _ gh15 ⟨rfl, rfl⟩) ?_
        change Wp _ _ _ _ [] _ _
        refine wp_aload_n xi_11 dX1_findBest_37 rfl ?_
        refine wp_iload xi_11 dX1_findBest_38 rfl ?_
        refine wp_iconst 0 xi_11 dX1_findBest_40 rfl ?_
        obtain ⟨u16, gu16, H⟩ := Option.bind_eq_some_iff.mp H
        obtain ⟨h17, gh17, H⟩ := Option.bind_eq_some_iff.mp H
        refine wq_callV (a := a0) (as := [.int a4, .int 0]) (r := []) (v1 := none) xi_11 xi_12 dX1_findBest_41 xm_1_110 rfl (Nat.le_of_ble_eq_true rfl) (pG_ok gu16) ⟨(Nat.le_of_ble_eq_true rfl), (Nat.le_of_ble_eq_true rfl)⟩ rfl nofun (e_12 d _ gh17 ⟨rfl, rfl⟩) ?_
        change Wp _ _ _ _ [] _ _
        refine wp_aload_n xi_11 dX1_findBest_44 rfl ?_
        refine wp_iload xi_11 dX1_findBest_45 rfl ?_
        refine wp_iconst 1 xi_11 dX1_findBest_47 rfl ?_
        obtain ⟨u18, gu18, H⟩ := Option.bind_eq_some_iff.mp H
        obtain ⟨h19, gh19, H⟩ := Option.bind_eq_some_iff.mp H
        refine wq_callV (a := a0) (as := [.int a4, .int 1]) (r := []) (v1 := none) xi_11 xi_12 dX1_findBest_48 xm_1_110 rfl (Nat.le_of_ble_eq_true rfl) (pG_ok gu18) ⟨(Nat.le_of_ble_eq_true rfl), (Nat.le_of_ble_eq_true rfl)⟩ rfl nofun (e_12 d _ gh19 ⟨rfl, rfl⟩) ?_
        change Wp _ _ _ _ [] _ _
        obtain rfl := Option.some.inj H
        exact Wp.more (by simp [xMore, Value.category]) K13
def f_11  (a : Nat) (p0 : Nat) (p1 : Int32) (h : xH) : Option (xH) :=
  (pG (pIs h p0 10)).bind fun _ =>
  (f_101 p0 h).bind fun (x3, h2) =>
  (pP h2 a 1 7 (.int (-1))).bind fun h4 =>
  (f_11_13 100000 a p0 p1 x3 0 h4).bind fun h5 =>
  some h5
set_option maxHeartbeats 4000000 in
theorem e_11 (d : Nat) (Q : Option Value → xH → Prop)  {h : xH} {a : Nat} {p0 : Nat} {p1 : Int32} {h1 : xH} (H : f_11  a p0 p1 h = some h1) (hq : Q none h1) : Wp (d + 4) 11 0 [some (.ref a), some (.ref p0), some (.int p1), none, none] [] h Q := by
  unfold f_11 at H
  refine wp_aload_n xi_11 dX1_findBest_0 rfl ?_
  obtain ⟨u1, gu1, H⟩ := Option.bind_eq_some_iff.mp H
  obtain ⟨⟨x3, h2⟩, gh2, H⟩ := Option.bind_eq_some_iff.mp H
  dsimp only at H
  refine wq_callV (a := p0) (as := []) (r := []) (v1 := (some (.int x3))) xi_11 xi_101 dX1_findBest_1 xm_1_49 rfl (Nat.le_of_ble_eq_true rfl) (pG_ok gu1) ⟨(Nat.le_of_ble_eq_true rfl), (Nat.le_of_ble_eq_true rfl)⟩ rfl nofun (e_101 (d + 3) _ gh2 ⟨rfl, rfl⟩) ?_
  change Wp _ _ _ _ [.int x3] _ _
  refine wp_istore_n [some (.ref a), some (.ref p0), some (.int p1), some (.int x3), none] xi_11 dX1_findBest_4 rfl ?_
  refine wp_aload_n xi_11 dX1_findBest_5 rfl ?_
  refine wp_iconst (-1) xi_11 dX1_findBest_6 rfl ?_
  obtain ⟨h4, gh4, H⟩ := Option.bind_eq_some_iff.mp H
  refine wq_putf xi_11 dX1_findBest_7 xf_1_103 (Or.inl rfl) gh4 ?_
  refine wp_iconst 0 xi_11 dX1_findBest_10 rfl ?_
  refine wp_istore [some (.ref a), some (.ref p0), some (.int p1), some (.int x3), some (.int 0)] xi_11 dX1_findBest_11 rfl ?_
  obtain ⟨h5, G6, H⟩ := Option.bind_eq_some_iff.mp H
  refine Wp.more (by simp [xMore, Value.category]) (ef_11_13 d Q  100000 a p0 p1 x3 0 h4 _ G6 (fun z0 e9 => ?_))
  cases e9
  obtain rfl := Option.some.inj H
  exact wp_vret xi_11 dX1_findBest_57 hq
/- FelledHasLost$Chooser.findMeanest(LFelledHasLost$Tower;I)V -/
def f_13_13  : Nat → Nat → Nat → Int32 → Int32 → Int32 → xH → Option (xH)
  | 0, _, _, _, _, _, _ => none
  | n + 1, a0, a1, a2, a3, a4, h =>
  (if a3 ≤ a4 then
  some (h)
  else
  (pG (pIs h a0 1)).bind fun _ =>
  (f_7 a0 a1 a4 h).bind fun (x4, h3) =>
  ((if x4 = 0 then
  some (h3)
  else
  (pG (pIs h3 a0 1)).bind fun _ =>
  (f_9 a0 a1 a4 a2 h3).bind fun h47 =>
  (pG (pIs h47 a0 1)).bind fun _ =>
  (f_10 a0 0 h47).bind fun (x50, h49) =>
  (pG (pIs h49 a1 10)).bind fun _ =>
  (f_103 a1 a4 h49).bind fun (x53, h52) =>
  (pDiv a4 10).bind fun x54 =>
  (pG (pIs h52 a1 10)).bind fun _ =>
  (f_94 a1 x54 x53 h52).bind fun h56 =>
  (pG (pIs h56 a0 1)).bind fun _ =>
  (f_8 a0 a1 h56).bind fun h58 =>
  (pDiv a4 10).bind fun x59 =>
  (pG (pIs h58 a1 10)).bind fun _ =>
  (f_94 a1 x53 x59 h58).bind fun h61 =>
  (pFi h61 a0 1 7).bind fun x62 =>
  (if x62 = (-1) then
  (pP h61 a0 1 7 (.int a4)).bind fun h64 =>
  (pP h64 a0 1 8 (.int x50)).bind fun h65 =>
  (pFi h65 a0 1 3).bind fun x66 =>
  (pP h65 a0 1 10 (.int x66)).bind fun h67 =>
  some (h67)
  else
  (pFi h61 a0 1 3).bind fun x68 =>
  (pFi h61 a0 1 10).bind fun x69 =>
  (if x68 < x69 then
  (pP h61 a0 1 7 (.int a4)).bind fun h71 =>
  (pP h71 a0 1 8 (.int x50)).bind fun h72 =>
  (pFi h72 a0 1 3).bind fun x73 =>
  (pP h72 a0 1 10 (.int x73)).bind fun h74 =>
  some (h74)
  else
  (pFi h61 a0 1 3).bind fun x75 =>
  (pFi h61 a0 1 10).bind fun x76 =>
  (if x75 = x76 then
  (pFi h61 a0 1 8).bind fun x78 =>
  (if x78 ≤ x50 then
  some (h61)
  else
  (pP h61 a0 1 7 (.int a4)).bind fun h80 =>
  (pP h80 a0 1 8 (.int x50)).bind fun h81 =>
  (pFi h81 a0 1 3).bind fun x82 =>
  (pP h81 a0 1 10 (.int x82)).bind fun h83 =>
  some (h83))
  else
  some (h61)))) : Option (xH))).bind fun (h44 : xH) =>
  f_13_13 n a0 a1 a2 a3 (a4 + 1) h44)
theorem ef_13_13 (d : Nat) (Q : Option Value → xH → Prop)  : ∀ (n : Nat) (a0 : Nat) (a1 : Nat) (a2 : Int32) (a3 : Int32) (a4 : Int32) (h : xH) (r : xH), f_13_13 n a0 a1 a2 a3 a4 h = some r → (∀  (h1 : xH), r = h1 → Wp (d + 5) 13 144 [none, none, none, none, none, none, none] [] h1 Q) → Wp (d + 5) 13 13 [some (.ref a0), some (.ref a1), some (.int a2), some (.int a3), some (.int a4), none, none] [] h Q := by
  intro n
  induction n with
  | zero =>
    intro a0 a1 a2 a3 a4 h r H
    cases H
  | succ n ih =>
    intro a0 a1 a2 a3 a4 h r H KE
    unfold f_13_13 at H
    refine wp_iload xi_13 dX1_findMeanest_13 rfl ?_
    refine wp_iload_n xi_13 dX1_findMeanest_15 rfl ?_
    refine wp_icmp_ge 144 xi_13 dX1_findMeanest_16 rfl (fun c1 => ?_) (fun c1 => ?_)
    · rw [if_pos c1] at H
      obtain rfl := Option.some.inj H
      exact Wp.more (by simp [xMore, Value.category]) (KE  h rfl)
    · rw [if_neg c1] at H
      refine wp_aload_n xi_13 dX1_findMeanest_19 rfl ?_
      refine wp_aload_n xi_13 dX1_findMeanest_20 rfl ?_
      refine wp_iload xi_13 dX1_findMeanest_21 rfl ?_
      obtain ⟨u2, gu2, H⟩ := Option.bind_eq_some_iff.mp H
      obtain ⟨⟨x4, h3⟩, gh3, H⟩ := Option.bind_eq_some_iff.mp H
      dsimp only at H
      refine wq_callV (a := a0) (as := [.ref a1, .int a4]) (r := []) (v1 := (some (.int x4))) xi_13 xi_7 dX1_findMeanest_23 xm_1_66 rfl (Nat.le_of_ble_eq_true rfl) (pG_ok gu2) ⟨(Nat.le_of_ble_eq_true rfl), (Nat.le_of_ble_eq_true rfl)⟩ rfl nofun (e_7 (d + 1) _ gh3 ⟨rfl, rfl⟩) ?_
      change Wp _ _ _ _ [.int x4] _ _
      obtain ⟨h44, G84, H⟩ := Option.bind_eq_some_iff.mp H
      have K45 : Wp (d + 5) 13 138 [some (.ref a0), some (.ref a1), some (.int a2), some (.int a3), some (.int a4), none, none] [] h44 Q := by
        refine wp_iinc (a4 + 1) [some (.ref a0), some (.ref a1), some (.int a2), some (.int a3), some (.int (a4 + 1)), none, none] xi_13 dX1_findMeanest_138 rfl rfl rfl ?_
        refine wp_goto 13 xi_13 dX1_findMeanest_141 rfl ?_
        exact Wp.more (by simp [xMore, Value.category]) (ih a0 a1 a2 a3 (a4 + 1) h44 _ H KE)
      clear H
      have H := G84
      clear G84
      refine wp_if_eq 138 xi_13 dX1_findMeanest_26 rfl (fun c5 => ?_) (fun c5 => ?_)
      · rw [if_pos c5] at H
        obtain rfl := Option.some.inj H
        exact Wp.more (by simp [xMore, Value.category]) K45
      · rw [if_neg c5] at H
        refine wp_aload_n xi_13 dX1_findMeanest_29 rfl ?_
        refine wp_aload_n xi_13 dX1_findMeanest_30 rfl ?_
        refine wp_iload xi_13 dX1_findMeanest_31 rfl ?_
        refine wp_iload_n xi_13 dX1_findMeanest_33 rfl ?_
        obtain ⟨u46, gu46, H⟩ := Option.bind_eq_some_iff.mp H
        obtain ⟨h47, gh47, H⟩ := Option.bind_eq_some_iff.mp H
        refine wq_callV (a := a0) (as := [.ref a1, .int a4, .int a2]) (r := []) (v1 := none) xi_13 xi_9 dX1_findMeanest_34 xm_1_106 rfl (Nat.le_of_ble_eq_true rfl) (pG_ok gu46) ⟨(Nat.le_of_ble_eq_true rfl), (Nat.le_of_ble_eq_true rfl)⟩ rfl nofun (e_9 (d + 2) _ gh47 ⟨rfl, rfl⟩) ?_
        change Wp _ _ _ _ [] _ _
        refine wp_aload_n xi_13 dX1_findMeanest_37 rfl ?_
        refine wp_iconst 0 xi_13 dX1_findMeanest_38 rfl ?_
        obtain ⟨u48, gu48, H⟩ := Option.bind_eq_some_iff.mp H
        obtain ⟨⟨x50, h49⟩, gh49, H⟩ := Option.bind_eq_some_iff.mp H
        dsimp only at H
        refine wq_callV (a := a0) (as := [.int 0]) (r := []) (v1 := (some (.int x50))) xi_13 xi_10 dX1_findMeanest_39 xm_1_113 rfl (Nat.le_of_ble_eq_true rfl) (pG_ok gu48) ⟨(Nat.le_of_ble_eq_true rfl), (Nat.le_of_ble_eq_true rfl)⟩ rfl nofun (e_10 (d + 2) _ gh49 ⟨rfl, rfl⟩) ?_
        change Wp _ _ _ _ [.int x50] _ _
        refine wp_istore [some (.ref a0), some (.ref a1), some (.int a2), some (.int a3), some (.int a4), some (.int x50), none] xi_13 dX1_findMeanest_42 rfl ?_
        refine wp_aload_n xi_13 dX1_findMeanest_44 rfl ?_
        refine wp_iload xi_13 dX1_findMeanest_45 rfl ?_
        obtain ⟨u51, gu51, H⟩ := Option.bind_eq_some_iff.mp H
        obtain ⟨⟨x53, h52⟩, gh52, H⟩ := Option.bind_eq_some_iff.mp H
        dsimp only at H
        refine wq_callV (a := a1) (as := [.int a4]) (r := []) (v1 := (some (.int x53))) xi_13 xi_103 dX1_findMeanest_47 xm_1_33 rfl (Nat.le_of_ble_eq_true rfl) (pG_ok gu51) ⟨(Nat.le_of_ble_eq_true rfl), (Nat.le_of_ble_eq_true rfl)⟩ rfl nofun (e_103 (d + 2) _ gh52 ⟨rfl, rfl⟩) ?_
        change Wp _ _ _ _ [.int x53] _ _
        refine wp_istore [some (.ref a0), some (.ref a1), some (.int a2), some (.int a3), some (.int a4), some (.int x50), some (.int x53)] xi_13 dX1_findMeanest_50 rfl ?_
        refine wp_aload_n xi_13 dX1_findMeanest_52 rfl ?_
        refine wp_iload xi_13 dX1_findMeanest_53 rfl ?_
        refine wp_bipush 10 xi_13 dX1_findMeanest_55 rfl ?_
        obtain ⟨x54, gx54, H⟩ := Option.bind_eq_some_iff.mp H
        refine wq_idiv xi_13 dX1_findMeanest_57 gx54 ?_
        refine wp_iload xi_13 dX1_findMeanest_58 rfl ?_
        obtain ⟨u55, gu55, H⟩ := Option.bind_eq_some_iff.mp H
        obtain ⟨h56, gh56, H⟩ := Option.bind_eq_some_iff.mp H
        refine wq_callV (a := a1) (as := [.int x54, .int x53]) (r := []) (v1 := none) xi_13 xi_94 dX1_findMeanest_60 xm_1_122 rfl (Nat.le_of_ble_eq_true rfl) (pG_ok gu55) ⟨(Nat.le_of_ble_eq_true rfl), (Nat.le_of_ble_eq_true rfl)⟩ rfl nofun (e_94 (d + 1) _ gh56 ⟨rfl, rfl⟩) ?_
        change Wp _ _ _ _ [] _ _
        refine wp_aload_n xi_13 dX1_findMeanest_63 rfl ?_
        refine wp_aload_n xi_13 dX1_findMeanest_64 rfl ?_
        obtain ⟨u57, gu57, H⟩ := Option.bind_eq_some_iff.mp H
        obtain ⟨h58, gh58, H⟩ := Option.bind_eq_some_iff.mp H
        refine wq_callV (a := a0) (as := [.ref a1]) (r := []) (v1 := none) xi_13 xi_8 dX1_findMeanest_65 xm_1_125 rfl (Nat.le_of_ble_eq_true rfl) (pG_ok gu57) ⟨(Nat.le_of_ble_eq_true rfl), (Nat.le_of_ble_eq_true rfl)⟩ rfl nofun (e_8 d _ gh58 ⟨rfl, rfl⟩) ?_
        change Wp _ _ _ _ [] _ _
        refine wp_aload_n xi_13 dX1_findMeanest_68 rfl ?_
        refine wp_iload xi_13 dX1_findMeanest_69 rfl ?_
        refine wp_iload xi_13 dX1_findMeanest_71 rfl ?_
        refine wp_bipush 10 xi_13 dX1_findMeanest_73 rfl ?_
        obtain ⟨x59, gx59, H⟩ := Option.bind_eq_some_iff.mp H
        refine wq_idiv xi_13 dX1_findMeanest_75 gx59 ?_
        obtain ⟨u60, gu60, H⟩ := Option.bind_eq_some_iff.mp H
        obtain ⟨h61, gh61, H⟩ := Option.bind_eq_some_iff.mp H
        refine wq_callV (a := a1) (as := [.int x53, .int x59]) (r := []) (v1 := none) xi_13 xi_94 dX1_findMeanest_76 xm_1_122 rfl (Nat.le_of_ble_eq_true rfl) (pG_ok gu60) ⟨(Nat.le_of_ble_eq_true rfl), (Nat.le_of_ble_eq_true rfl)⟩ rfl nofun (e_94 (d + 1) _ gh61 ⟨rfl, rfl⟩) ?_
        change Wp _ _ _ _ [] _ _
        refine wp_aload_n xi_13 dX1_findMeanest_79 rfl ?_
        obtain ⟨x62, gx62, H⟩ := Option.bind_eq_some_iff.mp H
        refine wq_getfi xi_13 dX1_findMeanest_80 xf_1_103 gx62 ?_
        refine wp_iconst (-1) xi_13 dX1_findMeanest_83 rfl ?_
        refine wp_icmp_eq 118 xi_13 dX1_findMeanest_84 rfl (fun c63 => ?_) (fun c63 => ?_)
        · rw [if_pos c63] at H
          refine wp_aload_n xi_13 dX1_findMeanest_118 rfl ?_
          refine wp_iload xi_13 dX1_findMeanest_119 rfl ?_
          obtain ⟨h64, gh64, H⟩ := Option.bind_eq_some_iff.mp H
          refine wq_putf xi_13 dX1_findMeanest_121 xf_1_103 (Or.inl rfl) gh64 ?_
          refine wp_aload_n xi_13 dX1_findMeanest_124 rfl ?_
          refine wp_iload xi_13 dX1_findMeanest_125 rfl ?_
          obtain ⟨h65, gh65, H⟩ := Option.bind_eq_some_iff.mp H
          refine wq_putf xi_13 dX1_findMeanest_127 xf_1_116 (Or.inl rfl) gh65 ?_
          refine wp_aload_n xi_13 dX1_findMeanest_130 rfl ?_
          refine wp_aload_n xi_13 dX1_findMeanest_131 rfl ?_
          obtain ⟨x66, gx66, H⟩ := Option.bind_eq_some_iff.mp H
          refine wq_getfi xi_13 dX1_findMeanest_132 xf_1_53 gx66 ?_
          obtain ⟨h67, gh67, H⟩ := Option.bind_eq_some_iff.mp H
          refine wq_putf xi_13 dX1_findMeanest_135 xf_1_129 (Or.inl rfl) gh67 ?_
          obtain rfl := Option.some.inj H
          exact Wp.more (by simp [xMore, Value.category]) K45
        · rw [if_neg c63] at H
          refine wp_aload_n xi_13 dX1_findMeanest_87 rfl ?_
          obtain ⟨x68, gx68, H⟩ := Option.bind_eq_some_iff.mp H
          refine wq_getfi xi_13 dX1_findMeanest_88 xf_1_53 gx68 ?_
          refine wp_aload_n xi_13 dX1_findMeanest_91 rfl ?_
          obtain ⟨x69, gx69, H⟩ := Option.bind_eq_some_iff.mp H
          refine wq_getfi xi_13 dX1_findMeanest_92 xf_1_129 gx69 ?_
          refine wp_icmp_lt 118 xi_13 dX1_findMeanest_95 rfl (fun c70 => ?_) (fun c70 => ?_)
          · rw [if_pos c70] at H
            refine wp_aload_n xi_13 dX1_findMeanest_118 rfl ?_
            refine wp_iload xi_13 dX1_findMeanest_119 rfl ?_
            obtain ⟨h71, gh71, H⟩ := Option.bind_eq_some_iff.mp H
            refine wq_putf xi_13 dX1_findMeanest_121 xf_1_103 (Or.inl rfl) gh71 ?_
            refine wp_aload_n xi_13 dX1_findMeanest_124 rfl ?_
            refine wp_iload xi_13 dX1_findMeanest_125 rfl ?_
            obtain ⟨h72, gh72, H⟩ := Option.bind_eq_some_iff.mp H
            refine wq_putf xi_13 dX1_findMeanest_127 xf_1_116 (Or.inl rfl) gh72 ?_
            refine wp_aload_n xi_13 dX1_findMeanest_130 rfl ?_
            refine wp_aload_n xi_13 dX1_findMeanest_131 rfl ?_
            obtain ⟨x73, gx73, H⟩ := Option.bind_eq_some_iff.mp H
            refine wq_getfi xi_13 dX1_findMeanest_132 xf_1_53 gx73 ?_
            obtain ⟨h74, gh74, H⟩ := Option.bind_eq_some_iff.mp H
            refine wq_putf xi_13 dX1_findMeanest_135 xf_1_129 (Or.inl rfl) gh74 ?_
            obtain rfl := Option.some.inj H
            exact Wp.more (by simp [xMore, Value.category]) K45
          · rw [if_neg c70] at H
            refine wp_aload_n xi_13 dX1_findMeanest_98 rfl ?_
            obtain ⟨x75, gx75, H⟩ := Option.bind_eq_some_iff.mp H
            refine wq_getfi xi_13 dX1_findMeanest_99 xf_1_53 gx75 ?_
            refine wp_aload_n xi_13 dX1_findMeanest_102 rfl ?_
            obtain ⟨x76, gx76, H⟩ := Option.bind_eq_some_iff.mp H
            refine wq_getfi xi_13 dX1_findMeanest_103 xf_1_129 gx76 ?_
            refine wp_icmp_ne 138 xi_13 dX1_findMeanest_106 rfl (fun c77 => ?_) (fun c77 => ?_)
            · rw [if_neg c77] at H
              obtain rfl := Option.some.inj H
              exact Wp.more (by simp [xMore, Value.category]) K45
            · rw [if_pos c77] at H
              refine wp_iload xi_13 dX1_findMeanest_109 rfl ?_
              refine wp_aload_n xi_13 dX1_findMeanest_111 rfl ?_
              obtain ⟨x78, gx78, H⟩ := Option.bind_eq_some_iff.mp H
              refine wq_getfi xi_13 dX1_findMeanest_112 xf_1_116 gx78 ?_
              refine wp_icmp_ge 138 xi_13 dX1_findMeanest_115 rfl (fun c79 => ?_) (fun c79 => ?_)
              · rw [if_pos c79] at H
                obtain rfl := Option.some.inj H
                exact Wp.more (by simp [xMore, Value.category]) K45
              · rw [if_neg c79] at H
                refine wp_aload_n xi_13 dX1_findMeanest_118 rfl ?_
                refine wp_iload xi_13 dX1_findMeanest_119 rfl ?_
                obtain ⟨h80, gh80, H⟩ := Option.bind_eq_some_iff.mp H
                refine wq_putf xi_13 dX1_findMeanest_121 xf_1_103 (Or.inl rfl) gh80 ?_
                refine wp_aload_n xi_13 dX1_findMeanest_124 rfl ?_
                refine wp_iload xi_13 dX1_findMeanest_125 rfl ?_
                obtain ⟨h81, gh81, H⟩ := Option.bind_eq_some_iff.mp H
                refine wq_putf xi_13 dX1_findMeanest_127 xf_1_116 (Or.inl rfl) gh81 ?_
                refine wp_aload_n xi_13 dX1_findMeanest_130 rfl ?_
                refine wp_aload_n xi_13 dX1_findMeanest_131 rfl ?_
                obtain ⟨x82, gx82, H⟩ := Option.bind_eq_some_iff.mp H
                refine wq_getfi xi_13 dX1_findMeanest_132 xf_1_53 gx82 ?_
                obtain ⟨h83, gh83, H⟩ := Option.bind_eq_some_iff.mp H
                refine wq_putf xi_13 dX1_findMeanest_135 xf_1_129 (Or.inl rfl) gh83 ?_
                obtain rfl := Option.some.inj H
                exact Wp.more (by simp [xMore, Value.category]) K45
def f_13  (a : Nat) (p0 : Nat) (p1 : Int32) (h : xH) : Option (xH) :=
  (pG (pIs h p0 10)).bind fun _ =>
  (f_101 p0 h).bind fun (x3, h2) =>
  (pP h2 a 1 7 (.int (-1))).bind fun h4 =>
  (f_13_13 100000 a p0 p1 x3 0 h4).bind fun h5 =>
  some h5
set_option maxHeartbeats 4000000 in
theorem e_13 (d : Nat) (Q : Option Value → xH → Prop)  {h : xH} {a : Nat} {p0 : Nat} {p1 : Int32} {h1 : xH} (H : f_13  a p0 p1 h = some h1) (hq : Q none h1) : Wp (d + 5) 13 0 [some (.ref a), some (.ref p0), some (.int p1), none, none, none, none] [] h Q := by
  unfold f_13 at H
  refine wp_aload_n xi_13 dX1_findMeanest_0 rfl ?_
  obtain ⟨u1, gu1, H⟩ := Option.bind_eq_some_iff.mp H
  obtain ⟨⟨x3, h2⟩, gh2, H⟩ := Option.bind_eq_some_iff.mp H
  dsimp only at H
  refine wq_callV (a := p0) (as := []) (r := []) (v1 := (some (.int x3))) xi_13 xi_101 dX1_findMeanest_1 xm_1_49 rfl (Nat.le_of_ble_eq_true rfl) (pG_ok gu1) ⟨(Nat.le_of_ble_eq_true rfl), (Nat.le_of_ble_eq_true rfl)⟩ rfl nofun (e_101 (d + 4) _ gh2 ⟨rfl, rfl⟩) ?_
  change Wp _ _ _ _ [.int x3] _ _
  refine wp_istore_n [some (.ref a), some (.ref p0), some (.int p1), some (.int x3), none, none, none] xi_13 dX1_findMeanest_4 rfl ?_
  refine wp_aload_n xi_13 dX1_findMeanest_5 rfl ?_
  refine wp_iconst (-1) xi_13 dX1_findMeanest_6 rfl ?_
  obtain ⟨h4, gh4, H⟩ := Option.bind_eq_some_iff.mp H
  refine wq_putf xi_13 dX1_findMeanest_7 xf_1_103 (Or.inl rfl) gh4 ?_
  refine wp_iconst 0 xi_13 dX1_findMeanest_10 rfl ?_
  refine wp_istore [some (.ref a), some (.ref p0), some (.int p1), some (.int x3), some (.int 0), none, none] xi_13 dX1_findMeanest_11 rfl ?_
  obtain ⟨h5, G6, H⟩ := Option.bind_eq_some_iff.mp H
  refine Wp.more (by simp [xMore, Value.category]) (ef_13_13 d Q  100000 a p0 p1 x3 0 h4 _ G6 (fun z0 e9 => ?_))
  cases e9
  obtain rfl := Option.some.inj H
  exact wp_vret xi_13 dX1_findMeanest_144 hq
/- FelledHasLost$Chooser.findSteadiest(LFelledHasLost$Tower;I)V -/
def f_14_7  : Nat → Nat → Nat → Int32 → Int32 → xH → Option (xH)
  | 0, _, _, _, _, _ => none
  | n + 1, a0, a1, a2, a3, h =>
  (if (3 : Int32) ≤ a3 then
  some (h)
  else
  (pG (pIs h a0 1)).bind fun _ =>
  (f_7 a0 a1 ((10 * a2) + a3) h).bind fun (x4, h3) =>
  ((if x4 = 0 then
  some (h3)
  else
  (pFi h3 a0 1 7).bind fun x22 =>
  (if x22 = (-1) then
  (pP h3 a0 1 7 (.int a3)).bind fun h24 =>
  (pFr h24 a0 1 0).bind fun x25 =>
  (pFi h24 x25 0 7).bind fun x26 =>
  (pP h24 a0 1 10 (.int x26)).bind fun h27 =>
  some (h27)
  else
  (pFr h3 a0 1 0).bind fun x28 =>
  (pFi h3 x28 0 7).bind fun x29 =>
  (pFi h3 a0 1 10).bind fun x30 =>
  (if x29 ≤ x30 then
  some (h3)
  else
  (pP h3 a0 1 7 (.int a3)).bind fun h32 =>
  (pFr h32 a0 1 0).bind fun x33 =>
  (pFi h32 x33 0 7).bind fun x34 =>
  (pP h32 a0 1 10 (.int x34)).bind fun h35 =>
  some (h35))) : Option (xH))).bind fun (h20 : xH) =>
  f_14_7 n a0 a1 a2 (a3 + 1) h20)
theorem ef_14_7 (d : Nat) (Q : Option Value → xH → Prop)  : ∀ (n : Nat) (a0 : Nat) (a1 : Nat) (a2 : Int32) (a3 : Int32) (h : xH) (r : xH), f_14_7 n a0 a1 a2 a3 h = some r → (∀  (h1 : xH), r = h1 → Wp (d + 4) 14 70 [none, none, none, none] [] h1 Q) → Wp (d + 4) 14 7 [some (.ref a0), some (.ref a1), some (.int a2), some (.int a3)] [] h Q := by
  intro n
  induction n with
  | zero =>
    intro a0 a1 a2 a3 h r H
    cases H
  | succ n ih =>
    intro a0 a1 a2 a3 h r H KE
    unfold f_14_7 at H
    refine wp_iload_n xi_14 dX1_findSteadiest_7 rfl ?_
    refine wp_iconst 3 xi_14 dX1_findSteadiest_8 rfl ?_
    refine wp_icmp_ge 70 xi_14 dX1_findSteadiest_9 rfl (fun c1 => ?_) (fun c1 => ?_)
    · rw [if_pos c1] at H
      obtain rfl := Option.some.inj H
      exact Wp.more (by simp [xMore, Value.category]) (KE  h rfl)
    · rw [if_neg c1] at H
      refine wp_aload_n xi_14 dX1_findSteadiest_12 rfl ?_
      refine wp_aload_n xi_14 dX1_findSteadiest_13 rfl ?_
      refine wp_bipush 10 xi_14 dX1_findSteadiest_14 rfl ?_
      refine wp_iload_n xi_14 dX1_findSteadiest_16 rfl ?_
      refine wp_imul xi_14 dX1_findSteadiest_17 ?_
      refine wp_iload_n xi_14 dX1_findSteadiest_18 rfl ?_
      refine wp_iadd xi_14 dX1_findSteadiest_19 ?_
      obtain ⟨u2, gu2, H⟩ := Option.bind_eq_some_iff.mp H
      obtain ⟨⟨x4, h3⟩, gh3, H⟩ := Option.bind_eq_some_iff.mp H
      dsimp only at H
      refine wq_callV (a := a0) (as := [.ref a1, .int ((10 * a2) + a3)]) (r := []) (v1 := (some (.int x4))) xi_14 xi_7 dX1_findSteadiest_20 xm_1_66 rfl (Nat.le_of_ble_eq_true rfl) (pG_ok gu2) ⟨(Nat.le_of_ble_eq_true rfl), (Nat.le_of_ble_eq_true rfl)⟩ rfl nofun (e_7 d _ gh3 ⟨rfl, rfl⟩) ?_
      change Wp _ _ _ _ [.int x4] _ _
      obtain ⟨h20, G36, H⟩ := Option.bind_eq_some_iff.mp H
      have K21 : Wp (d + 4) 14 64 [some (.ref a0), some (.ref a1), some (.int a2), some (.int a3)] [] h20 Q := by
        refine wp_iinc (a3 + 1) [some (.ref a0), some (.ref a1), some (.int a2), some (.int (a3 + 1))] xi_14 dX1_findSteadiest_64 rfl rfl rfl ?_
        refine wp_goto 7 xi_14 dX1_findSteadiest_67 rfl ?_
        exact Wp.more (by simp [xMore, Value.category]) (ih a0 a1 a2 (a3 + 1) h20 _ H KE)
      clear H
      have H := G36
      clear G36
      refine wp_if_eq 64 xi_14 dX1_findSteadiest_23 rfl (fun c5 => ?_) (fun c5 => ?_)
      · rw [if_pos c5] at H
        obtain rfl := Option.some.inj H
        exact Wp.more (by simp [xMore, Value.category]) K21
      · rw [if_neg c5] at H
        refine wp_aload_n xi_14 dX1_findSteadiest_26 rfl ?_
        obtain ⟨x22, gx22, H⟩ := Option.bind_eq_some_iff.mp H
        refine wq_getfi xi_14 dX1_findSteadiest_27 xf_1_103 gx22 ?_
        refine wp_iconst (-1) xi_14 dX1_findSteadiest_30 rfl ?_
        refine wp_icmp_eq 48 xi_14 dX1_findSteadiest_31 rfl (fun c23 => ?_) (fun c23 => ?_)
        · rw [if_pos c23] at H
          refine wp_aload_n xi_14 dX1_findSteadiest_48 rfl ?_
          refine wp_iload_n xi_14 dX1_findSteadiest_49 rfl ?_
          obtain ⟨h24, gh24, H⟩ := Option.bind_eq_some_iff.mp H
          refine wq_putf xi_14 dX1_findSteadiest_50 xf_1_103 (Or.inl rfl) gh24 ?_
          refine wp_aload_n xi_14 dX1_findSteadiest_53 rfl ?_
          refine wp_aload_n xi_14 dX1_findSteadiest_54 rfl ?_
          obtain ⟨x25, gx25, H⟩ := Option.bind_eq_some_iff.mp H
          refine wq_getfr xi_14 dX1_findSteadiest_55 xf_1_15 gx25 ?_
          obtain ⟨x26, gx26, H⟩ := Option.bind_eq_some_iff.mp H
          refine wq_getfi xi_14 dX1_findSteadiest_58 xf_1_132 gx26 ?_
          obtain ⟨h27, gh27, H⟩ := Option.bind_eq_some_iff.mp H
          refine wq_putf xi_14 dX1_findSteadiest_61 xf_1_129 (Or.inl rfl) gh27 ?_
          obtain rfl := Option.some.inj H
          exact Wp.more (by simp [xMore, Value.category]) K21
        · rw [if_neg c23] at H
          refine wp_aload_n xi_14 dX1_findSteadiest_34 rfl ?_
          obtain ⟨x28, gx28, H⟩ := Option.bind_eq_some_iff.mp H
          refine wq_getfr xi_14 dX1_findSteadiest_35 xf_1_15 gx28 ?_
          obtain ⟨x29, gx29, H⟩ := Option.bind_eq_some_iff.mp H
          refine wq_getfi xi_14 dX1_findSteadiest_38 xf_1_132 gx29 ?_
          refine wp_aload_n xi_14 dX1_findSteadiest_41 rfl ?_
          obtain ⟨x30, gx30, H⟩ := Option.bind_eq_some_iff.mp H
          refine wq_getfi xi_14 dX1_findSteadiest_42 xf_1_129 gx30 ?_
          refine wp_icmp_le 64 xi_14 dX1_findSteadiest_45 rfl (fun c31 => ?_) (fun c31 => ?_)
          · rw [if_pos c31] at H
            obtain rfl := Option.some.inj H
            exact Wp.more (by simp [xMore, Value.category]) K21
          · rw [if_neg c31] at H
            refine wp_aload_n xi_14 dX1_findSteadiest_48 rfl ?_
            refine wp_iload_n xi_14 dX1_findSteadiest_49 rfl ?_
            obtain ⟨h32, gh32, H⟩ := Option.bind_eq_some_iff.mp H
            refine wq_putf xi_14 dX1_findSteadiest_50 xf_1_103 (Or.inl rfl) gh32 ?_
            refine wp_aload_n xi_14 dX1_findSteadiest_53 rfl ?_
            refine wp_aload_n xi_14 dX1_findSteadiest_54 rfl ?_
            obtain ⟨x33, gx33, H⟩ := Option.bind_eq_some_iff.mp H
            refine wq_getfr xi_14 dX1_findSteadiest_55 xf_1_15 gx33 ?_
            obtain ⟨x34, gx34, H⟩ := Option.bind_eq_some_iff.mp H
            refine wq_getfi xi_14 dX1_findSteadiest_58 xf_1_132 gx34 ?_
            obtain ⟨h35, gh35, H⟩ := Option.bind_eq_some_iff.mp H
            refine wq_putf xi_14 dX1_findSteadiest_61 xf_1_129 (Or.inl rfl) gh35 ?_
            obtain rfl := Option.some.inj H
            exact Wp.more (by simp [xMore, Value.category]) K21
def f_14  (a : Nat) (p0 : Nat) (p1 : Int32) (h : xH) : Option (xH) :=
  (pP h a 1 7 (.int (-1))).bind fun h1 =>
  (f_14_7 100000 a p0 p1 0 h1).bind fun h2 =>
  some h2
set_option maxHeartbeats 4000000 in
theorem e_14 (d : Nat) (Q : Option Value → xH → Prop)  {h : xH} {a : Nat} {p0 : Nat} {p1 : Int32} {h1 : xH} (H : f_14  a p0 p1 h = some h1) (hq : Q none h1) : Wp (d + 4) 14 0 [some (.ref a), some (.ref p0), some (.int p1), none] [] h Q := by
  unfold f_14 at H
  refine wp_aload_n xi_14 dX1_findSteadiest_0 rfl ?_
  refine wp_iconst (-1) xi_14 dX1_findSteadiest_1 rfl ?_
  obtain ⟨h1, gh1, H⟩ := Option.bind_eq_some_iff.mp H
  refine wq_putf xi_14 dX1_findSteadiest_2 xf_1_103 (Or.inl rfl) gh1 ?_
  refine wp_iconst 0 xi_14 dX1_findSteadiest_5 rfl ?_
  refine wp_istore_n [some (.ref a), some (.ref p0), some (.int p1), some (.int 0)] xi_14 dX1_findSteadiest_6 rfl ?_
  obtain ⟨h2, G3, H⟩ := Option.bind_eq_some_iff.mp H
  refine Wp.more (by simp [xMore, Value.category]) (ef_14_7 d Q  100000 a p0 p1 0 h1 _ G3 (fun z0 e9 => ?_))
  cases e9
  obtain rfl := Option.some.inj H
  exact wp_vret xi_14 dX1_findSteadiest_70 hq
/- FelledHasLost$Chooser.chancesBehind(LFelledHasLost$Tower;II)I -/
def f_16  (a : Nat) (p0 : Nat) (p1 : Int32) (p2 : Int32) (h : xH) : Option (Int32 × xH) :=
  (pG (pIs h p0 10)).bind fun _ =>
  (f_103 p0 p1 h).bind fun (x3, h2) =>
  (pDiv p1 10).bind fun x4 =>
  (pG (pIs h2 p0 10)).bind fun _ =>
  (f_94 p0 x4 x3 h2).bind fun h6 =>
  (pG (pIs h6 a 1)).bind fun _ =>
  (f_11 a p0 p2 h6).bind fun h8 =>
  (pDiv p1 10).bind fun x9 =>
  (pG (pIs h8 p0 10)).bind fun _ =>
  (f_94 p0 x3 x9 h8).bind fun h11 =>
  (pFi h11 a 1 7).bind fun x12 =>
  ((if x12 = (-1) then
  some (0)
  else
  (pFi h11 a 1 8).bind fun x17 =>
  some ((100 - x17)) : Option (Int32))).bind fun (w15 : Int32) =>
  some (w15, h11)
set_option maxHeartbeats 4000000 in
theorem e_16 (d : Nat) (Q : Option Value → xH → Prop)  {h : xH} {a : Nat} {p0 : Nat} {p1 : Int32} {p2 : Int32} {x : Int32} {h1 : xH} (H : f_16  a p0 p1 p2 h = some (x, h1)) (hq : Q (some (.int x)) h1) : Wp (d + 5) 16 0 [some (.ref a), some (.ref p0), some (.int p1), some (.int p2), none] [] h Q := by
  unfold f_16 at H
  refine wp_aload_n xi_16 dX1_chancesBehind_0 rfl ?_
  refine wp_iload_n xi_16 dX1_chancesBehind_1 rfl ?_
  obtain ⟨u1, gu1, H⟩ := Option.bind_eq_some_iff.mp H
  obtain ⟨⟨x3, h2⟩, gh2, H⟩ := Option.bind_eq_some_iff.mp H
  dsimp only at H
  refine wq_callV (a := p0) (as := [.int p1]) (r := []) (v1 := (some (.int x3))) xi_16 xi_103 dX1_chancesBehind_2 xm_1_33 rfl (Nat.le_of_ble_eq_true rfl) (pG_ok gu1) ⟨(Nat.le_of_ble_eq_true rfl), (Nat.le_of_ble_eq_true rfl)⟩ rfl nofun (e_103 (d + 2) _ gh2 ⟨rfl, rfl⟩) ?_
  change Wp _ _ _ _ [.int x3] _ _
  refine wp_istore [some (.ref a), some (.ref p0), some (.int p1), some (.int p2), some (.int x3)] xi_16 dX1_chancesBehind_5 rfl ?_
  refine wp_aload_n xi_16 dX1_chancesBehind_7 rfl ?_
  refine wp_iload_n xi_16 dX1_chancesBehind_8 rfl ?_
  refine wp_bipush 10 xi_16 dX1_chancesBehind_9 rfl ?_
  obtain ⟨x4, gx4, H⟩ := Option.bind_eq_some_iff.mp H
  refine wq_idiv xi_16 dX1_chancesBehind_11 gx4 ?_
  refine wp_iload xi_16 dX1_chancesBehind_12 rfl ?_
  obtain ⟨u5, gu5, H⟩ := Option.bind_eq_some_iff.mp H
  obtain ⟨h6, gh6, H⟩ := Option.bind_eq_some_iff.mp H
  refine wq_callV (a := p0) (as := [.int x4, .int x3]) (r := []) (v1 := none) xi_16 xi_94 dX1_chancesBehind_14 xm_1_122 rfl (Nat.le_of_ble_eq_true rfl) (pG_ok gu5) ⟨(Nat.le_of_ble_eq_true rfl), (Nat.le_of_ble_eq_true rfl)⟩ rfl nofun (e_94 (d + 1) _ gh6 ⟨rfl, rfl⟩) ?_
  change Wp _ _ _ _ [] _ _
  refine wp_aload_n xi_16 dX1_chancesBehind_17 rfl ?_
  refine wp_aload_n xi_16 dX1_chancesBehind_18 rfl ?_
  refine wp_iload_n xi_16 dX1_chancesBehind_19 rfl ?_
  obtain ⟨u7, gu7, H⟩ := Option.bind_eq_some_iff.mp H
  obtain ⟨h8, gh8, H⟩ := Option.bind_eq_some_iff.mp H
  refine wq_callV (a := a) (as := [.ref p0, .int p2]) (r := []) (v1 := none) xi_16 xi_11 dX1_chancesBehind_20 xm_1_139 rfl (Nat.le_of_ble_eq_true rfl) (pG_ok gu7) ⟨(Nat.le_of_ble_eq_true rfl), (Nat.le_of_ble_eq_true rfl)⟩ rfl nofun (e_11 d _ gh8 ⟨rfl, rfl⟩) ?_
  change Wp _ _ _ _ [] _ _
  refine wp_aload_n xi_16 dX1_chancesBehind_23 rfl ?_
  refine wp_iload xi_16 dX1_chancesBehind_24 rfl ?_
  refine wp_iload_n xi_16 dX1_chancesBehind_26 rfl ?_
  refine wp_bipush 10 xi_16 dX1_chancesBehind_27 rfl ?_
  obtain ⟨x9, gx9, H⟩ := Option.bind_eq_some_iff.mp H
  refine wq_idiv xi_16 dX1_chancesBehind_29 gx9 ?_
  obtain ⟨u10, gu10, H⟩ := Option.bind_eq_some_iff.mp H
  obtain ⟨h11, gh11, H⟩ := Option.bind_eq_some_iff.mp H
  refine wq_callV (a := p0) (as := [.int x3, .int x9]) (r := []) (v1 := none) xi_16 xi_94 dX1_chancesBehind_30 xm_1_122 rfl (Nat.le_of_ble_eq_true rfl) (pG_ok gu10) ⟨(Nat.le_of_ble_eq_true rfl), (Nat.le_of_ble_eq_true rfl)⟩ rfl nofun (e_94 (d + 1) _ gh11 ⟨rfl, rfl⟩) ?_
  change Wp _ _ _ _ [] _ _
  refine wp_aload_n xi_16 dX1_chancesBehind_33 rfl ?_
  obtain ⟨x12, gx12, H⟩ := Option.bind_eq_some_iff.mp H
  refine wq_getfi xi_16 dX1_chancesBehind_34 xf_1_103 gx12 ?_
  refine wp_iconst (-1) xi_16 dX1_chancesBehind_37 rfl ?_
  obtain ⟨w15, G18, H⟩ := Option.bind_eq_some_iff.mp H
  have K16 : Wp (d + 5) 16 52 [some (.ref a), some (.ref p0), some (.int p1), some (.int p2), some (.int x3)] [.int w15] h11 Q := by
    obtain ⟨rfl, rfl⟩ := oi2 H
    exact wp_iret xi_16 dX1_chancesBehind_52 hq
  clear H
  have H := G18
  clear G18
  refine wp_icmp_ne 45 xi_16 dX1_chancesBehind_38 rfl (fun c13 => ?_) (fun c13 => ?_)
  · rw [if_neg c13] at H
    refine wp_bipush 100 xi_16 dX1_chancesBehind_45 rfl ?_
    refine wp_aload_n xi_16 dX1_chancesBehind_47 rfl ?_
    obtain ⟨x17, gx17, H⟩ := Option.bind_eq_some_iff.mp H
    refine wq_getfi xi_16 dX1_chancesBehind_48 xf_1_116 gx17 ?_
    refine wp_isub xi_16 dX1_chancesBehind_51 ?_
    obtain rfl := Option.some.inj H
    exact Wp.more (by simp [xMore, Value.category]) K16
  · rw [if_pos c13] at H
    refine wp_iconst 0 xi_16 dX1_chancesBehind_41 rfl ?_
    refine wp_goto 52 xi_16 dX1_chancesBehind_42 rfl ?_
    obtain rfl := Option.some.inj H
    exact Wp.more (by simp [xMore, Value.category]) K16
/- FelledHasLost$Games.unpack(I)V -/
def f_25_9  : Nat → Nat → Int32 → Int32 → xH → Option (xH)
  | 0, _, _, _, _ => none
  | n + 1, a0, a1, a2, h =>
  (pFr h a0 2 8).bind fun x1 =>
  (pAi h x1 a1).bind fun x2 =>
  (if (3 * x2) ≤ a2 then
  some (h)
  else
  (pG (pIs h a0 2)).bind fun _ =>
  (f_24 a0 a1 a2 h).bind fun (x6, h5) =>
  ((if x6 = (-1) then
  some (h5)
  else
  (pFr h5 a0 2 1).bind fun x13 =>
  (pG (pIs h5 x13 10)).bind fun _ =>
  (f_92 x13 a2 x6 h5).bind fun h15 =>
  some (h15) : Option (xH))).bind fun (h11 : xH) =>
  f_25_9 n a0 a1 (a2 + 1) h11)
theorem ef_25_9 (d : Nat) (Q : Option Value → xH → Prop)  : ∀ (n : Nat) (a0 : Nat) (a1 : Int32) (a2 : Int32) (h : xH) (r : xH), f_25_9 n a0 a1 a2 h = some r → (∀  (h1 : xH), r = h1 → Wp (d + 3) 25 48 [none, none, none, none] [] h1 Q) → Wp (d + 3) 25 9 [some (.ref a0), some (.int a1), some (.int a2), none] [] h Q := by
  intro n
  induction n with
  | zero =>
    intro a0 a1 a2 h r H
    cases H
  | succ n ih =>
    intro a0 a1 a2 h r H KE
    unfold f_25_9 at H
    refine wp_iload_n xi_25 dX2_unpack_9 rfl ?_
    refine wp_iconst 3 xi_25 dX2_unpack_10 rfl ?_
    refine wp_aload_n xi_25 dX2_unpack_11 rfl ?_
    obtain ⟨x1, gx1, H⟩ := Option.bind_eq_some_iff.mp H
    refine wq_getfr xi_25 dX2_unpack_12 xf_2_38 gx1 ?_
    refine wp_iload_n xi_25 dX2_unpack_15 rfl ?_
    obtain ⟨x2, gx2, H⟩ := Option.bind_eq_some_iff.mp H
    refine wq_iaload xi_25 dX2_unpack_16 gx2 ?_
    refine wp_imul xi_25 dX2_unpack_17 ?_
    refine wp_icmp_ge 48 xi_25 dX2_unpack_18 rfl (fun c3 => ?_) (fun c3 => ?_)
    · rw [if_pos c3] at H
      obtain rfl := Option.some.inj H
      exact Wp.more (by simp [xMore, Value.category]) (KE  h rfl)
    · rw [if_neg c3] at H
      refine wp_aload_n xi_25 dX2_unpack_21 rfl ?_
      refine wp_iload_n xi_25 dX2_unpack_22 rfl ?_
      refine wp_iload_n xi_25 dX2_unpack_23 rfl ?_
      obtain ⟨u4, gu4, H⟩ := Option.bind_eq_some_iff.mp H
      obtain ⟨⟨x6, h5⟩, gh5, H⟩ := Option.bind_eq_some_iff.mp H
      dsimp only at H
      refine wq_callV (a := a0) (as := [.int a1, .int a2]) (r := []) (v1 := (some (.int x6))) xi_25 xi_24 dX2_unpack_24 xm_2_136 rfl (Nat.le_of_ble_eq_true rfl) (pG_ok gu4) ⟨(Nat.le_of_ble_eq_true rfl), (Nat.le_of_ble_eq_true rfl)⟩ rfl nofun (e_24 (d + 2) _ gh5 ⟨rfl, rfl⟩) ?_
      change Wp _ _ _ _ [.int x6] _ _
      refine wp_istore_n [some (.ref a0), some (.int a1), some (.int a2), some (.int x6)] xi_25 dX2_unpack_27 rfl ?_
      refine wp_iload_n xi_25 dX2_unpack_28 rfl ?_
      refine wp_iconst (-1) xi_25 dX2_unpack_29 rfl ?_
      obtain ⟨h11, G16, H⟩ := Option.bind_eq_some_iff.mp H
      have K12 : Wp (d + 3) 25 42 [some (.ref a0), some (.int a1), some (.int a2), some (.int x6)] [] h11 Q := by
        refine wp_iinc (a2 + 1) [some (.ref a0), some (.int a1), some (.int (a2 + 1)), some (.int x6)] xi_25 dX2_unpack_42 rfl rfl rfl ?_
        refine wp_goto 9 xi_25 dX2_unpack_45 rfl ?_
        exact Wp.more (by simp [xMore, Value.category]) (ih a0 a1 (a2 + 1) h11 _ H KE)
      clear H
      have H := G16
      clear G16
      refine wp_icmp_eq 42 xi_25 dX2_unpack_30 rfl (fun c7 => ?_) (fun c7 => ?_)
      · rw [if_pos c7] at H
        obtain rfl := Option.some.inj H
        exact Wp.more (by simp [xMore, Value.category]) K12
      · rw [if_neg c7] at H
        refine wp_aload_n xi_25 dX2_unpack_33 rfl ?_
        obtain ⟨x13, gx13, H⟩ := Option.bind_eq_some_iff.mp H
        refine wq_getfr xi_25 dX2_unpack_34 xf_2_12 gx13 ?_
        refine wp_iload_n xi_25 dX2_unpack_37 rfl ?_
        refine wp_iload_n xi_25 dX2_unpack_38 rfl ?_
        obtain ⟨u14, gu14, H⟩ := Option.bind_eq_some_iff.mp H
        obtain ⟨h15, gh15, H⟩ := Option.bind_eq_some_iff.mp H
        refine wq_callV (a := x13) (as := [.int a2, .int x6]) (r := []) (v1 := none) xi_25 xi_92 dX2_unpack_39 xm_2_140 rfl (Nat.le_of_ble_eq_true rfl) (pG_ok gu14) ⟨(Nat.le_of_ble_eq_true rfl), (Nat.le_of_ble_eq_true rfl)⟩ rfl nofun (e_92 d _ gh15 ⟨rfl, rfl⟩) ?_
        change Wp _ _ _ _ [] _ _
        obtain rfl := Option.some.inj H
        exact Wp.more (by simp [xMore, Value.category]) K12
def f_25  (a : Nat) (p0 : Int32) (h : xH) : Option (xH) :=
  (pFr h a 2 1).bind fun x1 =>
  (pG (pIs h x1 10)).bind fun _ =>
  (f_88 x1 h).bind fun h3 =>
  (f_25_9 100000 a p0 0 h3).bind fun h4 =>
  some h4
set_option maxHeartbeats 4000000 in
theorem e_25 (d : Nat) (Q : Option Value → xH → Prop)  {h : xH} {a : Nat} {p0 : Int32} {h1 : xH} (H : f_25  a p0 h = some h1) (hq : Q none h1) : Wp (d + 3) 25 0 [some (.ref a), some (.int p0), none, none] [] h Q := by
  unfold f_25 at H
  refine wp_aload_n xi_25 dX2_unpack_0 rfl ?_
  obtain ⟨x1, gx1, H⟩ := Option.bind_eq_some_iff.mp H
  refine wq_getfr xi_25 dX2_unpack_1 xf_2_12 gx1 ?_
  obtain ⟨u2, gu2, H⟩ := Option.bind_eq_some_iff.mp H
  obtain ⟨h3, gh3, H⟩ := Option.bind_eq_some_iff.mp H
  refine wq_callV (a := x1) (as := []) (r := []) (v1 := none) xi_25 xi_88 dX2_unpack_4 xm_2_133 rfl (Nat.le_of_ble_eq_true rfl) (pG_ok gu2) ⟨(Nat.le_of_ble_eq_true rfl), (Nat.le_of_ble_eq_true rfl)⟩ rfl nofun (e_88 (d + 1) _ gh3 ⟨rfl, rfl⟩) ?_
  change Wp _ _ _ _ [] _ _
  refine wp_iconst 0 xi_25 dX2_unpack_7 rfl ?_
  refine wp_istore_n [some (.ref a), some (.int p0), some (.int 0), none] xi_25 dX2_unpack_8 rfl ?_
  obtain ⟨h4, G5, H⟩ := Option.bind_eq_some_iff.mp H
  refine Wp.more (by simp [xMore, Value.category]) (ef_25_9 d Q  100000 a p0 0 h3 _ G5 (fun z0 e9 => ?_))
  cases e9
  obtain rfl := Option.some.inj H
  exact wp_vret xi_25 dX2_unpack_48 hq
/- FelledHasLost$MoveList.readFrom(LFelledHasLost$Text;)I -/
def f_46_20  : Nat → Nat → Nat → Int32 → Int32 → Int32 → xH → Option ((Int32 × xH) ⊕ (Int32 × xH))
  | 0, _, _, _, _, _, _ => none
  | n + 1, a0, a1, a2, a3, a4, h =>
  (if a2 ≤ a4 then
  some (.inl (a3, h))
  else
  (pG (pIs h a0 4)).bind fun _ =>
  (f_47 a0 a1 a4 a3 h).bind fun (x4, h3) =>
  (if x4 = (-1) then
  some (.inr (a4, h3))
  else
  f_46_20 n a0 a1 a2 x4 (a4 + 1) h3))
theorem ef_46_20 (d : Nat) (Q : Option Value → xH → Prop)  : ∀ (n : Nat) (a0 : Nat) (a1 : Nat) (a2 : Int32) (a3 : Int32) (a4 : Int32) (h : xH) (r : (Int32 × xH) ⊕ (Int32 × xH)), f_46_20 n a0 a1 a2 a3 a4 h = some r → (∀ (w3 : Int32) (h1 : xH), r = .inl (w3, h1) → Wp (d + 3) 46 49 [none, some (.ref a1), some (.int a2), some (.int w3), none] [] h1 Q) → (∀ (x : Int32) (h1 : xH), r = .inr (x, h1) → Q (some (.int x)) h1) → Wp (d + 3) 46 20 [some (.ref a0), some (.ref a1), some (.int a2), some (.int a3), some (.int a4)] [] h Q := by
  intro n
  induction n with
  | zero =>
    intro a0 a1 a2 a3 a4 h r H
    cases H
  | succ n ih =>
    intro a0 a1 a2 a3 a4 h r H KE KR
    unfold f_46_20 at H
    refine wp_iload xi_46 dX4_readFrom_20 rfl ?_
    refine wp_iload_n xi_46 dX4_readFrom_22 rfl ?_
    refine wp_icmp_ge 49 xi_46 dX4_readFrom_23 rfl (fun c1 => ?_) (fun c1 => ?_)
    · rw [if_pos c1] at H
      obtain rfl := Option.some.inj H
      exact Wp.more (by simp [xMore, Value.category]) (KE a3 h rfl)
    · rw [if_neg c1] at H
      refine wp_aload_n xi_46 dX4_readFrom_26 rfl ?_
      refine wp_aload_n xi_46 dX4_readFrom_27 rfl ?_
      refine wp_iload xi_46 dX4_readFrom_28 rfl ?_
      refine wp_iload_n xi_46 dX4_readFrom_30 rfl ?_
      obtain ⟨u2, gu2, H⟩ := Option.bind_eq_some_iff.mp H
      obtain ⟨⟨x4, h3⟩, gh3, H⟩ := Option.bind_eq_some_iff.mp H
      dsimp only at H
      refine wq_callV (a := a0) (as := [.ref a1, .int a4, .int a3]) (r := []) (v1 := (some (.int x4))) xi_46 xi_47 dX4_readFrom_31 xm_4_30 rfl (Nat.le_of_ble_eq_true rfl) (pG_ok gu2) ⟨(Nat.le_of_ble_eq_true rfl), (Nat.le_of_ble_eq_true rfl)⟩ rfl nofun (e_47 d _ gh3 ⟨rfl, rfl⟩) ?_
      change Wp _ _ _ _ [.int x4] _ _
      refine wp_istore_n [some (.ref a0), some (.ref a1), some (.int a2), some (.int x4), some (.int a4)] xi_46 dX4_readFrom_34 rfl ?_
      refine wp_iload_n xi_46 dX4_readFrom_35 rfl ?_
      refine wp_iconst (-1) xi_46 dX4_readFrom_36 rfl ?_
      refine wp_icmp_ne 43 xi_46 dX4_readFrom_37 rfl (fun c5 => ?_) (fun c5 => ?_)
      · rw [if_neg c5] at H
        refine wp_iinc (a4 + 1) [some (.ref a0), some (.ref a1), some (.int a2), some (.int x4), some (.int (a4 + 1))] xi_46 dX4_readFrom_43 rfl rfl rfl ?_
        refine wp_goto 20 xi_46 dX4_readFrom_46 rfl ?_
        exact Wp.more (by simp [xMore, Value.category]) (ih a0 a1 a2 x4 (a4 + 1) h3 _ H KE KR)
      · rw [if_pos c5] at H
        refine wp_iload xi_46 dX4_readFrom_40 rfl ?_
        obtain rfl := Option.some.inj H
        exact wp_iret xi_46 dX4_readFrom_42 (KR _ _ rfl)
def f_46  (a : Nat) (p0 : Nat) (h : xH) : Option (Int32 × xH) :=
  (pFi h p0 8 1).bind fun x1 =>
  (pP h a 4 1 (.int 0)).bind fun h2 =>
  (f_46_20 100000 a p0 (pMin 70 x1) 0 0 h2).bind fun r7 => match r7 with
  | .inl (w4, h3) =>
  (pFi h3 p0 8 1).bind fun x8 =>
  (if x8 ≤ 70 then
  ((if (pMin 70 x1) = 0 then
  some ((-1))
  else
  (if w4 = 5 then
  some ((-1))
  else
  some ((pMin 70 x1))) : Option (Int32))).bind fun (w12 : Int32) =>
  some (w12, h3)
  else
  some (70, h3))
  | .inr (x16, h17) => some (x16, h17)
set_option maxHeartbeats 4000000 in
theorem e_46 (d : Nat) (Q : Option Value → xH → Prop)  {h : xH} {a : Nat} {p0 : Nat} {x : Int32} {h1 : xH} (H : f_46  a p0 h = some (x, h1)) (hq : Q (some (.int x)) h1) : Wp (d + 3) 46 0 [some (.ref a), some (.ref p0), none, none, none] [] h Q := by
  unfold f_46 at H
  refine wp_bipush 70 xi_46 dX4_readFrom_0 rfl ?_
  refine wp_aload_n xi_46 dX4_readFrom_2 rfl ?_
  obtain ⟨x1, gx1, H⟩ := Option.bind_eq_some_iff.mp H
  refine wq_getfi xi_46 dX4_readFrom_3 xf_4_15 gx1 ?_
  refine wq_min xi_46 dX4_readFrom_6 xm_4_21 (Nat.le_of_ble_eq_true rfl) ?_
  refine wp_istore_n [some (.ref a), some (.ref p0), some (.int (pMin 70 x1)), none, none] xi_46 dX4_readFrom_9 rfl ?_
  refine wp_iconst 0 xi_46 dX4_readFrom_10 rfl ?_
  refine wp_istore_n [some (.ref a), some (.ref p0), some (.int (pMin 70 x1)), some (.int 0), none] xi_46 dX4_readFrom_11 rfl ?_
  refine wp_aload_n xi_46 dX4_readFrom_12 rfl ?_
  refine wp_iconst 0 xi_46 dX4_readFrom_13 rfl ?_
  obtain ⟨h2, gh2, H⟩ := Option.bind_eq_some_iff.mp H
  refine wq_putf xi_46 dX4_readFrom_14 xf_4_27 (Or.inl rfl) gh2 ?_
  refine wp_iconst 0 xi_46 dX4_readFrom_17 rfl ?_
  refine wp_istore [some (.ref a), some (.ref p0), some (.int (pMin 70 x1)), some (.int 0), some (.int 0)] xi_46 dX4_readFrom_18 rfl ?_
  obtain ⟨r7, G5, H⟩ := Option.bind_eq_some_iff.mp H
  refine Wp.more (by simp [xMore, Value.category]) (ef_46_20 d Q  100000 a p0 (pMin 70 x1) 0 0 h2 _ G5 (fun z0 z1 e9 => ?_) (fun x1 h1 e9 => ?_))
  · subst e9
    dsimp only at H
    obtain ⟨w4, rfl⟩ : ∃ z, z = z0 := ⟨_, rfl⟩; obtain ⟨h3, rfl⟩ : ∃ z, z = z1 := ⟨_, rfl⟩
    refine wp_aload_n xi_46 dX4_readFrom_49 rfl ?_
    obtain ⟨x8, gx8, H⟩ := Option.bind_eq_some_iff.mp H
    refine wq_getfi xi_46 dX4_readFrom_50 xf_4_15 gx8 ?_
    refine wp_bipush 70 xi_46 dX4_readFrom_53 rfl ?_
    refine wp_icmp_le 61 xi_46 dX4_readFrom_55 rfl (fun c9 => ?_) (fun c9 => ?_)
    · rw [if_pos c9] at H
      refine wp_iload_n xi_46 dX4_readFrom_61 rfl ?_
      obtain ⟨w12, G15, H⟩ := Option.bind_eq_some_iff.mp H
      have K13 : Wp (d + 3) 46 75 [none, some (.ref p0), some (.int (pMin 70 x1)), some (.int w4), none] [.int w12] h3 Q := by
        obtain ⟨rfl, rfl⟩ := oi2 H
        exact wp_iret xi_46 dX4_readFrom_75 hq
      clear H
      have H := G15
      clear G15
      refine wp_if_eq 70 xi_46 dX4_readFrom_62 rfl (fun c10 => ?_) (fun c10 => ?_)
      · rw [if_pos c10] at H
        refine wp_iconst (-1) xi_46 dX4_readFrom_70 rfl ?_
        refine wp_goto 75 xi_46 dX4_readFrom_71 rfl ?_
        obtain rfl := Option.some.inj H
        exact Wp.more (by simp [xMore, Value.category]) K13
      · rw [if_neg c10] at H
        refine wp_iload_n xi_46 dX4_readFrom_65 rfl ?_
        refine wp_iconst 5 xi_46 dX4_readFrom_66 rfl ?_
        refine wp_icmp_ne 74 xi_46 dX4_readFrom_67 rfl (fun c14 => ?_) (fun c14 => ?_)
        · rw [if_neg c14] at H
          refine wp_iload_n xi_46 dX4_readFrom_74 rfl ?_
          obtain rfl := Option.some.inj H
          exact Wp.more (by simp [xMore, Value.category]) K13
        · rw [if_pos c14] at H
          refine wp_iconst (-1) xi_46 dX4_readFrom_70 rfl ?_
          refine wp_goto 75 xi_46 dX4_readFrom_71 rfl ?_
          obtain rfl := Option.some.inj H
          exact Wp.more (by simp [xMore, Value.category]) K13
    · rw [if_neg c9] at H
      refine wp_bipush 70 xi_46 dX4_readFrom_58 rfl ?_
      obtain ⟨rfl, rfl⟩ := oi2 H
      exact wp_iret xi_46 dX4_readFrom_60 hq
  · subst e9
    dsimp only at H
    obtain ⟨rfl, rfl⟩ := oi2 H
    exact hq
