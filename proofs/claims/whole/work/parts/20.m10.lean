/- FelledHasLost.bump(I)I -/
def f_120_4  : Nat → Nat → Int32 → Int32 → xH → Option (xH)
  | 0, _, _, _, _ => none
  | n + 1, a0, a2, a3, h =>
  (if (2 : Int32) ≤ a3 then
  some (h)
  else
  (pFr h a0 11 6).bind fun x2 =>
  (pFr h x2 0 0).bind fun x3 =>
  (pRem (((((a2 * (1103515245)) + 12345) : Int32).toUInt32 >>> ((16 : Int32).toUInt32 &&& Int32.toUInt32 31)).toInt32) 19).bind fun x4 =>
  (pSi h x3 a3 (x4 - 9)).bind fun h5 =>
  f_120_4 n a0 ((a2 * (1103515245)) + 12345) (a3 + 1) h5)
theorem ef_120_4 (d : Nat) (Q : Option Value → xH → Prop)  : ∀ (n : Nat) (a0 : Nat) (a2 : Int32) (a3 : Int32) (h : xH) (r : xH), f_120_4 n a0 a2 a3 h = some r → (∀  (h1 : xH), r = h1 → Wp (d + 2) 120 43 [some (.ref a0), none, none, none] [] h1 Q) → Wp (d + 2) 120 4 [some (.ref a0), none, some (.int a2), some (.int a3)] [] h Q := by
  intro n
  induction n with
  | zero =>
    intro a0 a2 a3 h r H
    cases H
  | succ n ih =>
    intro a0 a2 a3 h r H KE
    unfold f_120_4 at H
    refine wp_iload_n xi_120 dX11_bump_4 rfl ?_
    refine wp_iconst 2 xi_120 dX11_bump_5 rfl ?_
    refine wp_icmp_ge 43 xi_120 dX11_bump_6 rfl (fun c1 => ?_) (fun c1 => ?_)
    · rw [if_pos c1] at H
      obtain rfl := Option.some.inj H
      exact Wp.more (by simp [xMore, Value.category]) (KE  h rfl)
    · rw [if_neg c1] at H
      refine wp_iload_n xi_120 dX11_bump_9 rfl ?_
      refine wp_ldc xi_120 dX11_bump_10 xc_11_243 ?_
      refine wp_imul xi_120 dX11_bump_12 ?_
      refine wp_sipush 12345 xi_120 dX11_bump_13 rfl ?_
      refine wp_iadd xi_120 dX11_bump_16 ?_
      refine wp_istore_n [some (.ref a0), none, some (.int ((a2 * (1103515245)) + 12345)), some (.int a3)] xi_120 dX11_bump_17 rfl ?_
      refine wp_aload_n xi_120 dX11_bump_18 rfl ?_
      obtain ⟨x2, gx2, H⟩ := Option.bind_eq_some_iff.mp H
      refine wq_getfr xi_120 dX11_bump_19 xf_11_48 gx2 ?_
      obtain ⟨x3, gx3, H⟩ := Option.bind_eq_some_iff.mp H
      refine wq_getfr xi_120 dX11_bump_22 xf_11_240 gx3 ?_
      refine wp_iload_n xi_120 dX11_bump_25 rfl ?_
      refine wp_iload_n xi_120 dX11_bump_26 rfl ?_
      refine wp_bipush 16 xi_120 dX11_bump_27 rfl ?_
      refine wp_iushr xi_120 dX11_bump_29 ?_
      refine wp_bipush 19 xi_120 dX11_bump_30 rfl ?_
      obtain ⟨x4, gx4, H⟩ := Option.bind_eq_some_iff.mp H
      refine wq_irem xi_120 dX11_bump_32 gx4 ?_
      refine wp_bipush 9 xi_120 dX11_bump_33 rfl ?_
      refine wp_isub xi_120 dX11_bump_35 ?_
      obtain ⟨h5, gh5, H⟩ := Option.bind_eq_some_iff.mp H
      refine wq_iastore xi_120 dX11_bump_36 gh5 ?_
      refine wp_iinc (a3 + 1) [some (.ref a0), none, some (.int ((a2 * (1103515245)) + 12345)), some (.int (a3 + 1))] xi_120 dX11_bump_37 rfl rfl rfl ?_
      refine wp_goto 4 xi_120 dX11_bump_40 rfl ?_
      exact Wp.more (by simp [xMore, Value.category]) (ih a0 ((a2 * (1103515245)) + 12345) (a3 + 1) h5 _ H KE)
def f_120  (a : Nat) (p0 : Int32) (h : xH) : Option (Int32 × xH) :=
  (f_120_4 100000 a p0 0 h).bind fun h1 =>
  (pFr h1 a 11 6).bind fun x4 =>
  (pFr h1 a 11 2).bind fun x5 =>
  (pFr h1 x5 7 0).bind fun x6 =>
  (pG (pIs h1 x4 0)).bind fun _ =>
  (f_3 x4 x6 h1).bind fun (x9, h8) =>
  ((if x9 = 0 then
  some (0)
  else
  some (1) : Option (Int32))).bind fun (w11 : Int32) =>
  some (w11, h8)
set_option maxHeartbeats 4000000 in
theorem e_120 (d : Nat) (Q : Option Value → xH → Prop)  {h : xH} {a : Nat} {p0 : Int32} {x : Int32} {h1 : xH} (H : f_120  a p0 h = some (x, h1)) (hq : Q (some (.int x)) h1) : Wp (d + 2) 120 0 [some (.ref a), some (.int p0), none, none] [] h Q := by
  unfold f_120 at H
  refine wp_iload_n xi_120 dX11_bump_0 rfl ?_
  refine wp_istore_n [some (.ref a), some (.int p0), some (.int p0), none] xi_120 dX11_bump_1 rfl ?_
  refine wp_iconst 0 xi_120 dX11_bump_2 rfl ?_
  refine wp_istore_n [some (.ref a), some (.int p0), some (.int p0), some (.int 0)] xi_120 dX11_bump_3 rfl ?_
  obtain ⟨h1, G2, H⟩ := Option.bind_eq_some_iff.mp H
  refine Wp.more (by simp [xMore, Value.category]) (ef_120_4 d Q  100000 a p0 0 h _ G2 (fun z0 e9 => ?_))
  cases e9
  refine wp_aload_n xi_120 dX11_bump_43 rfl ?_
  obtain ⟨x4, gx4, H⟩ := Option.bind_eq_some_iff.mp H
  refine wq_getfr xi_120 dX11_bump_44 xf_11_48 gx4 ?_
  refine wp_aload_n xi_120 dX11_bump_47 rfl ?_
  obtain ⟨x5, gx5, H⟩ := Option.bind_eq_some_iff.mp H
  refine wq_getfr xi_120 dX11_bump_48 xf_11_26 gx5 ?_
  obtain ⟨x6, gx6, H⟩ := Option.bind_eq_some_iff.mp H
  refine wq_getfr xi_120 dX11_bump_51 xf_11_132 gx6 ?_
  obtain ⟨u7, gu7, H⟩ := Option.bind_eq_some_iff.mp H
  obtain ⟨⟨x9, h8⟩, gh8, H⟩ := Option.bind_eq_some_iff.mp H
  dsimp only at H
  refine wq_callV (a := x4) (as := [.ref x6]) (r := []) (v1 := (some (.int x9))) xi_120 xi_3 dX11_bump_54 xm_11_196 rfl (Nat.le_of_ble_eq_true rfl) (pG_ok gu7) ⟨(Nat.le_of_ble_eq_true rfl), (Nat.le_of_ble_eq_true rfl)⟩ rfl nofun (e_3 d _ gh8 ⟨rfl, rfl⟩) ?_
  change Wp _ _ _ _ [.int x9] _ _
  obtain ⟨w11, G13, H⟩ := Option.bind_eq_some_iff.mp H
  have K12 : Wp (d + 2) 120 65 [some (.ref a), none, none, none] [.int w11] h8 Q := by
    obtain ⟨rfl, rfl⟩ := oi2 H
    exact wp_iret xi_120 dX11_bump_65 hq
  clear H
  have H := G13
  clear G13
  refine wp_if_eq 64 xi_120 dX11_bump_57 rfl (fun c10 => ?_) (fun c10 => ?_)
  · rw [if_pos c10] at H
    refine wp_iconst 0 xi_120 dX11_bump_64 rfl ?_
    obtain rfl := Option.some.inj H
    exact Wp.more (by simp [xMore, Value.category]) K12
  · rw [if_neg c10] at H
    refine wp_iconst 1 xi_120 dX11_bump_60 rfl ?_
    refine wp_goto 65 xi_120 dX11_bump_61 rfl ?_
    obtain rfl := Option.some.inj H
    exact Wp.more (by simp [xMore, Value.category]) K12
/- FelledHasLost.stands()I -/
def f_121  (a : Nat) (h : xH) : Option (Int32 × xH) :=
  (pFr h a 11 6).bind fun x1 =>
  (pFr h a 11 2).bind fun x2 =>
  (pFr h x2 7 0).bind fun x3 =>
  (pG (pIs h x1 0)).bind fun _ =>
  (f_3 x1 x3 h).bind fun (x6, h5) =>
  (pFr h5 a 11 1).bind fun x7 =>
  (pG (pIs h5 x7 5)).bind fun _ =>
  (f_50 x7 h5).bind fun h9 =>
  (pFr h9 a 11 1).bind fun x10 =>
  (pFr h9 a 11 6).bind fun x11 =>
  (pFi h9 x11 0 4).bind fun x12 =>
  (pG (pIs h9 x10 5)).bind fun _ =>
  (f_51 x10 ((x12 : Int32).toInt64) h9).bind fun h14 =>
  (pFr h14 a 11 1).bind fun x15 =>
  (pFr h14 a 11 6).bind fun x16 =>
  (pFi h14 x16 0 7).bind fun x17 =>
  (pG (pIs h14 x15 5)).bind fun _ =>
  (f_51 x15 ((x17 : Int32).toInt64) h14).bind fun h19 =>
  (pFr h19 a 11 6).bind fun x20 =>
  (pFi h19 x20 0 4).bind fun x21 =>
  ((if x21 = (-1) then
  some (1)
  else
  some (0) : Option (Int32))).bind fun (w23 : Int32) =>
  some (w23, h19)
set_option maxHeartbeats 4000000 in
theorem e_121 (d : Nat) (Q : Option Value → xH → Prop)  {h : xH} {a : Nat} {x : Int32} {h1 : xH} (H : f_121  a h = some (x, h1)) (hq : Q (some (.int x)) h1) : Wp (d + 2) 121 0 [some (.ref a)] [] h Q := by
  unfold f_121 at H
  refine wp_aload_n xi_121 dX11_stands_0 rfl ?_
  obtain ⟨x1, gx1, H⟩ := Option.bind_eq_some_iff.mp H
  refine wq_getfr xi_121 dX11_stands_1 xf_11_48 gx1 ?_
  refine wp_aload_n xi_121 dX11_stands_4 rfl ?_
  obtain ⟨x2, gx2, H⟩ := Option.bind_eq_some_iff.mp H
  refine wq_getfr xi_121 dX11_stands_5 xf_11_26 gx2 ?_
  obtain ⟨x3, gx3, H⟩ := Option.bind_eq_some_iff.mp H
  refine wq_getfr xi_121 dX11_stands_8 xf_11_132 gx3 ?_
  obtain ⟨u4, gu4, H⟩ := Option.bind_eq_some_iff.mp H
  obtain ⟨⟨x6, h5⟩, gh5, H⟩ := Option.bind_eq_some_iff.mp H
  dsimp only at H
  refine wq_callV (a := x1) (as := [.ref x3]) (r := []) (v1 := (some (.int x6))) xi_121 xi_3 dX11_stands_11 xm_11_196 rfl (Nat.le_of_ble_eq_true rfl) (pG_ok gu4) ⟨(Nat.le_of_ble_eq_true rfl), (Nat.le_of_ble_eq_true rfl)⟩ rfl nofun (e_3 d _ gh5 ⟨rfl, rfl⟩) ?_
  change Wp _ _ _ _ [.int x6] _ _
  refine wp_pop xi_121 dX11_stands_14 rfl ?_
  refine wp_aload_n xi_121 dX11_stands_15 rfl ?_
  obtain ⟨x7, gx7, H⟩ := Option.bind_eq_some_iff.mp H
  refine wq_getfr xi_121 dX11_stands_16 xf_11_19 gx7 ?_
  obtain ⟨u8, gu8, H⟩ := Option.bind_eq_some_iff.mp H
  obtain ⟨h9, gh9, H⟩ := Option.bind_eq_some_iff.mp H
  refine wq_callV (a := x7) (as := []) (r := []) (v1 := none) xi_121 xi_50 dX11_stands_19 xm_11_244 rfl (Nat.le_of_ble_eq_true rfl) (pG_ok gu8) ⟨(Nat.le_of_ble_eq_true rfl), (Nat.le_of_ble_eq_true rfl)⟩ rfl nofun (e_50 (d + 1) _ gh9 ⟨rfl, rfl⟩) ?_
  change Wp _ _ _ _ [] _ _
  refine wp_aload_n xi_121 dX11_stands_22 rfl ?_
  obtain ⟨x10, gx10, H⟩ := Option.bind_eq_some_iff.mp H
  refine wq_getfr xi_121 dX11_stands_23 xf_11_19 gx10 ?_
  refine wp_aload_n xi_121 dX11_stands_26 rfl ?_
  obtain ⟨x11, gx11, H⟩ := Option.bind_eq_some_iff.mp H
  refine wq_getfr xi_121 dX11_stands_27 xf_11_48 gx11 ?_
  obtain ⟨x12, gx12, H⟩ := Option.bind_eq_some_iff.mp H
  refine wq_getfi xi_121 dX11_stands_30 xf_11_245 gx12 ?_
  refine wp_i2l xi_121 dX11_stands_33 ?_
  obtain ⟨u13, gu13, H⟩ := Option.bind_eq_some_iff.mp H
  obtain ⟨h14, gh14, H⟩ := Option.bind_eq_some_iff.mp H
  refine wq_callV (a := x10) (as := [.long ((x12 : Int32).toInt64)]) (r := []) (v1 := none) xi_121 xi_51 dX11_stands_34 xm_11_248 rfl (Nat.le_of_ble_eq_true rfl) (pG_ok gu13) ⟨(Nat.le_of_ble_eq_true rfl), (Nat.le_of_ble_eq_true rfl)⟩ rfl nofun (e_51 (d + 1) _ gh14 ⟨rfl, rfl⟩) ?_
  change Wp _ _ _ _ [] _ _
  refine wp_aload_n xi_121 dX11_stands_37 rfl ?_
  obtain ⟨x15, gx15, H⟩ := Option.bind_eq_some_iff.mp H
  refine wq_getfr xi_121 dX11_stands_38 xf_11_19 gx15 ?_
  refine wp_aload_n xi_121 dX11_stands_41 rfl ?_
  obtain ⟨x16, gx16, H⟩ := Option.bind_eq_some_iff.mp H
  refine wq_getfr xi_121 dX11_stands_42 xf_11_48 gx16 ?_
  obtain ⟨x17, gx17, H⟩ := Option.bind_eq_some_iff.mp H
  refine wq_getfi xi_121 dX11_stands_45 xf_11_252 gx17 ?_
  refine wp_i2l xi_121 dX11_stands_48 ?_
  obtain ⟨u18, gu18, H⟩ := Option.bind_eq_some_iff.mp H
  obtain ⟨h19, gh19, H⟩ := Option.bind_eq_some_iff.mp H
  refine wq_callV (a := x15) (as := [.long ((x17 : Int32).toInt64)]) (r := []) (v1 := none) xi_121 xi_51 dX11_stands_49 xm_11_248 rfl (Nat.le_of_ble_eq_true rfl) (pG_ok gu18) ⟨(Nat.le_of_ble_eq_true rfl), (Nat.le_of_ble_eq_true rfl)⟩ rfl nofun (e_51 (d + 1) _ gh19 ⟨rfl, rfl⟩) ?_
  change Wp _ _ _ _ [] _ _
  refine wp_aload_n xi_121 dX11_stands_52 rfl ?_
  obtain ⟨x20, gx20, H⟩ := Option.bind_eq_some_iff.mp H
  refine wq_getfr xi_121 dX11_stands_53 xf_11_48 gx20 ?_
  obtain ⟨x21, gx21, H⟩ := Option.bind_eq_some_iff.mp H
  refine wq_getfi xi_121 dX11_stands_56 xf_11_245 gx21 ?_
  refine wp_iconst (-1) xi_121 dX11_stands_59 rfl ?_
  obtain ⟨w23, G25, H⟩ := Option.bind_eq_some_iff.mp H
  have K24 : Wp (d + 2) 121 68 [some (.ref a)] [.int w23] h19 Q := by
    obtain ⟨rfl, rfl⟩ := oi2 H
    exact wp_iret xi_121 dX11_stands_68 hq
  clear H
  have H := G25
  clear G25
  refine wp_icmp_ne 67 xi_121 dX11_stands_60 rfl (fun c22 => ?_) (fun c22 => ?_)
  · rw [if_neg c22] at H
    refine wp_iconst 0 xi_121 dX11_stands_67 rfl ?_
    obtain rfl := Option.some.inj H
    exact Wp.more (by simp [xMore, Value.category]) K24
  · rw [if_pos c22] at H
    refine wp_iconst 1 xi_121 dX11_stands_63 rfl ?_
    refine wp_goto 68 xi_121 dX11_stands_64 rfl ?_
    obtain rfl := Option.some.inj H
    exact Wp.more (by simp [xMore, Value.category]) K24
/- FelledHasLost.loose()I -/
def f_122_19  : Nat → Nat → Nat → Int32 → Int32 → xH → Option (Int32 × xH)
  | 0, _, _, _, _, _ => none
  | n + 1, a0, a1, a2, a3, h =>
  (pFi h a1 10 4).bind fun x1 =>
  (if x1 ≤ a3 then
  some (a2, h)
  else
  (pG (pIs h a1 10)).bind fun _ =>
  (f_100 a1 a3 h).bind fun (x5, h4) =>
  (f_267 x5 h4).bind fun (x7, h6) =>
  (pFr h6 a0 11 1).bind fun x8 =>
  (pG (pIs h6 x8 5)).bind fun _ =>
  (f_51 x8 ((x5 : Int32).toInt64) h6).bind fun h10 =>
  f_122_19 n a0 a1 (a2 + x7) (a3 + 1) h10)
theorem ef_122_19 (d : Nat) (Q : Option Value → xH → Prop)  : ∀ (n : Nat) (a0 : Nat) (a1 : Nat) (a2 : Int32) (a3 : Int32) (h : xH) (r : Int32 × xH), f_122_19 n a0 a1 a2 a3 h = some r → (∀ (w2 : Int32) (h1 : xH), r = (w2, h1) → Wp (d + 2) 122 58 [none, none, some (.int w2), none, none] [] h1 Q) → Wp (d + 2) 122 19 [some (.ref a0), some (.ref a1), some (.int a2), some (.int a3), none] [] h Q := by
  intro n
  induction n with
  | zero =>
    intro a0 a1 a2 a3 h r H
    cases H
  | succ n ih =>
    intro a0 a1 a2 a3 h r H KE
    unfold f_122_19 at H
    refine wp_iload_n xi_122 dX11_loose_19 rfl ?_
    refine wp_aload_n xi_122 dX11_loose_20 rfl ?_
    obtain ⟨x1, gx1, H⟩ := Option.bind_eq_some_iff.mp H
    refine wq_getfi xi_122 dX11_loose_21 xf_11_147 gx1 ?_
    refine wp_icmp_ge 58 xi_122 dX11_loose_24 rfl (fun c2 => ?_) (fun c2 => ?_)
    · rw [if_pos c2] at H
      obtain rfl := Option.some.inj H
      exact Wp.more (by simp [xMore, Value.category]) (KE a2 h rfl)
    · rw [if_neg c2] at H
      refine wp_aload_n xi_122 dX11_loose_27 rfl ?_
      refine wp_iload_n xi_122 dX11_loose_28 rfl ?_
      obtain ⟨u3, gu3, H⟩ := Option.bind_eq_some_iff.mp H
      obtain ⟨⟨x5, h4⟩, gh4, H⟩ := Option.bind_eq_some_iff.mp H
      dsimp only at H
      refine wq_callV (a := a1) (as := [.int a3]) (r := []) (v1 := (some (.int x5))) xi_122 xi_100 dX11_loose_29 xm_11_255 rfl (Nat.le_of_ble_eq_true rfl) (pG_ok gu3) ⟨(Nat.le_of_ble_eq_true rfl), (Nat.le_of_ble_eq_true rfl)⟩ rfl nofun (e_100 d _ gh4 ⟨rfl, rfl⟩) ?_
      change Wp _ _ _ _ [.int x5] _ _
      refine wp_istore [some (.ref a0), some (.ref a1), some (.int a2), some (.int a3), some (.int x5)] xi_122 dX11_loose_32 rfl ?_
      refine wp_iload_n xi_122 dX11_loose_34 rfl ?_
      refine wp_iload xi_122 dX11_loose_35 rfl ?_
      obtain ⟨⟨x7, h6⟩, gh6, H⟩ := Option.bind_eq_some_iff.mp H
      dsimp only at H
      refine wq_callS (as := [.int x5]) (r := [.int a2]) (v1 := (some (.int x7))) xi_122 xi_267 dX11_loose_37 xm_11_258 rfl (Nat.le_of_ble_eq_true rfl) ⟨(Nat.le_of_ble_eq_true rfl), (Nat.le_of_ble_eq_true rfl)⟩ rfl nofun (e_267 (d + 1) _ gh6 ⟨rfl, rfl⟩) ?_
      change Wp _ _ _ _ [.int x7, .int a2] _ _
      refine wp_iadd xi_122 dX11_loose_40 ?_
      refine wp_istore_n [some (.ref a0), some (.ref a1), some (.int (a2 + x7)), some (.int a3), some (.int x5)] xi_122 dX11_loose_41 rfl ?_
      refine wp_aload_n xi_122 dX11_loose_42 rfl ?_
      obtain ⟨x8, gx8, H⟩ := Option.bind_eq_some_iff.mp H
      refine wq_getfr xi_122 dX11_loose_43 xf_11_19 gx8 ?_
      refine wp_iload xi_122 dX11_loose_46 rfl ?_
      refine wp_i2l xi_122 dX11_loose_48 ?_
      obtain ⟨u9, gu9, H⟩ := Option.bind_eq_some_iff.mp H
      obtain ⟨h10, gh10, H⟩ := Option.bind_eq_some_iff.mp H
      refine wq_callV (a := x8) (as := [.long ((x5 : Int32).toInt64)]) (r := []) (v1 := none) xi_122 xi_51 dX11_loose_49 xm_11_248 rfl (Nat.le_of_ble_eq_true rfl) (pG_ok gu9) ⟨(Nat.le_of_ble_eq_true rfl), (Nat.le_of_ble_eq_true rfl)⟩ rfl nofun (e_51 (d + 1) _ gh10 ⟨rfl, rfl⟩) ?_
      change Wp _ _ _ _ [] _ _
      refine wp_iinc (a3 + 1) [some (.ref a0), some (.ref a1), some (.int (a2 + x7)), some (.int (a3 + 1)), some (.int x5)] xi_122 dX11_loose_52 rfl rfl rfl ?_
      refine wp_goto 19 xi_122 dX11_loose_55 rfl ?_
      exact Wp.more (by simp [xMore, Value.category]) (ih a0 a1 (a2 + x7) (a3 + 1) h10 _ H KE)
def f_122  (a : Nat) (h : xH) : Option (Int32 × xH) :=
  (pFr h a 11 2).bind fun x1 =>
  (pFr h x1 7 0).bind fun x2 =>
  (pFr h a 11 1).bind fun x3 =>
  (pG (pIs h x3 5)).bind fun _ =>
  (f_50 x3 h).bind fun h5 =>
  (f_122_19 100000 a x2 0 0 h5).bind fun (w7, h6) =>
  some (w7, h6)
set_option maxHeartbeats 4000000 in
theorem e_122 (d : Nat) (Q : Option Value → xH → Prop)  {h : xH} {a : Nat} {x : Int32} {h1 : xH} (H : f_122  a h = some (x, h1)) (hq : Q (some (.int x)) h1) : Wp (d + 2) 122 0 [some (.ref a), none, none, none, none] [] h Q := by
  unfold f_122 at H
  refine wp_aload_n xi_122 dX11_loose_0 rfl ?_
  obtain ⟨x1, gx1, H⟩ := Option.bind_eq_some_iff.mp H
  refine wq_getfr xi_122 dX11_loose_1 xf_11_26 gx1 ?_
  obtain ⟨x2, gx2, H⟩ := Option.bind_eq_some_iff.mp H
  refine wq_getfr xi_122 dX11_loose_4 xf_11_132 gx2 ?_
  refine wp_astore_n [some (.ref a), some (.ref x2), none, none, none] xi_122 dX11_loose_7 rfl ?_
  refine wp_iconst 0 xi_122 dX11_loose_8 rfl ?_
  refine wp_istore_n [some (.ref a), some (.ref x2), some (.int 0), none, none] xi_122 dX11_loose_9 rfl ?_
  refine wp_aload_n xi_122 dX11_loose_10 rfl ?_
  obtain ⟨x3, gx3, H⟩ := Option.bind_eq_some_iff.mp H
  refine wq_getfr xi_122 dX11_loose_11 xf_11_19 gx3 ?_
  obtain ⟨u4, gu4, H⟩ := Option.bind_eq_some_iff.mp H
  obtain ⟨h5, gh5, H⟩ := Option.bind_eq_some_iff.mp H
  refine wq_callV (a := x3) (as := []) (r := []) (v1 := none) xi_122 xi_50 dX11_loose_14 xm_11_244 rfl (Nat.le_of_ble_eq_true rfl) (pG_ok gu4) ⟨(Nat.le_of_ble_eq_true rfl), (Nat.le_of_ble_eq_true rfl)⟩ rfl nofun (e_50 (d + 1) _ gh5 ⟨rfl, rfl⟩) ?_
  change Wp _ _ _ _ [] _ _
  refine wp_iconst 0 xi_122 dX11_loose_17 rfl ?_
  refine wp_istore_n [some (.ref a), some (.ref x2), some (.int 0), some (.int 0), none] xi_122 dX11_loose_18 rfl ?_
  obtain ⟨⟨w7, h6⟩, G8, H⟩ := Option.bind_eq_some_iff.mp H
  dsimp only at H
  refine Wp.more (by simp [xMore, Value.category]) (ef_122_19 d Q  100000 a x2 0 0 h5 _ G8 (fun z0 z1 e9 => ?_))
  cases e9
  refine wp_iload_n xi_122 dX11_loose_58 rfl ?_
  obtain ⟨rfl, rfl⟩ := oi2 H
  exact wp_iret xi_122 dX11_loose_59 hq
/- FelledHasLost.weakest()I -/
def f_123  (a : Nat) (h : xH) : Option (Int32 × xH) :=
  (pFr h a 11 2).bind fun x1 =>
  (pFr h x1 7 0).bind fun x2 =>
  (pFi h x2 10 4).bind fun x3 =>
  (if (2 : Int32) ≤ x3 then
  (pFr h a 11 6).bind fun x5 =>
  (pFr h a 11 2).bind fun x6 =>
  (pFr h x6 7 0).bind fun x7 =>
  (pG (pIs h x5 0)).bind fun _ =>
  (f_3 x5 x7 h).bind fun (x10, h9) =>
  (pFr h9 a 11 1).bind fun x11 =>
  (pG (pIs h9 x11 5)).bind fun _ =>
  (f_50 x11 h9).bind fun h13 =>
  (pFr h13 a 11 1).bind fun x14 =>
  (pFr h13 a 11 6).bind fun x15 =>
  (pFi h13 x15 0 7).bind fun x16 =>
  (pG (pIs h13 x14 5)).bind fun _ =>
  (f_51 x14 ((x16 : Int32).toInt64) h13).bind fun h18 =>
  (pFr h18 a 11 6).bind fun x19 =>
  (pFi h18 x19 0 6).bind fun x20 =>
  some (x20, h18)
  else
  some ((-2), h))
set_option maxHeartbeats 4000000 in
theorem e_123 (d : Nat) (Q : Option Value → xH → Prop)  {h : xH} {a : Nat} {x : Int32} {h1 : xH} (H : f_123  a h = some (x, h1)) (hq : Q (some (.int x)) h1) : Wp (d + 2) 123 0 [some (.ref a)] [] h Q := by
  unfold f_123 at H
  refine wp_aload_n xi_123 dX11_weakest_0 rfl ?_
  obtain ⟨x1, gx1, H⟩ := Option.bind_eq_some_iff.mp H
  refine wq_getfr xi_123 dX11_weakest_1 xf_11_26 gx1 ?_
  obtain ⟨x2, gx2, H⟩ := Option.bind_eq_some_iff.mp H
  refine wq_getfr xi_123 dX11_weakest_4 xf_11_132 gx2 ?_
  obtain ⟨x3, gx3, H⟩ := Option.bind_eq_some_iff.mp H
  refine wq_getfi xi_123 dX11_weakest_7 xf_11_147 gx3 ?_
  refine wp_iconst 2 xi_123 dX11_weakest_10 rfl ?_
  refine wp_icmp_ge 17 xi_123 dX11_weakest_11 rfl (fun c4 => ?_) (fun c4 => ?_)
  · rw [if_pos c4] at H
    refine wp_aload_n xi_123 dX11_weakest_17 rfl ?_
    obtain ⟨x5, gx5, H⟩ := Option.bind_eq_some_iff.mp H
    refine wq_getfr xi_123 dX11_weakest_18 xf_11_48 gx5 ?_
    refine wp_aload_n xi_123 dX11_weakest_21 rfl ?_
    obtain ⟨x6, gx6, H⟩ := Option.bind_eq_some_iff.mp H
    refine wq_getfr xi_123 dX11_weakest_22 xf_11_26 gx6 ?_
    obtain ⟨x7, gx7, H⟩ := Option.bind_eq_some_iff.mp H
    refine wq_getfr xi_123 dX11_weakest_25 xf_11_132 gx7 ?_
    obtain ⟨u8, gu8, H⟩ := Option.bind_eq_some_iff.mp H
    obtain ⟨⟨x10, h9⟩, gh9, H⟩ := Option.bind_eq_some_iff.mp H
    dsimp only at H
    refine wq_callV (a := x5) (as := [.ref x7]) (r := []) (v1 := (some (.int x10))) xi_123 xi_3 dX11_weakest_28 xm_11_196 rfl (Nat.le_of_ble_eq_true rfl) (pG_ok gu8) ⟨(Nat.le_of_ble_eq_true rfl), (Nat.le_of_ble_eq_true rfl)⟩ rfl nofun (e_3 d _ gh9 ⟨rfl, rfl⟩) ?_
    change Wp _ _ _ _ [.int x10] _ _
    refine wp_pop xi_123 dX11_weakest_31 rfl ?_
    refine wp_aload_n xi_123 dX11_weakest_32 rfl ?_
    obtain ⟨x11, gx11, H⟩ := Option.bind_eq_some_iff.mp H
    refine wq_getfr xi_123 dX11_weakest_33 xf_11_19 gx11 ?_
    obtain ⟨u12, gu12, H⟩ := Option.bind_eq_some_iff.mp H
    obtain ⟨h13, gh13, H⟩ := Option.bind_eq_some_iff.mp H
    refine wq_callV (a := x11) (as := []) (r := []) (v1 := none) xi_123 xi_50 dX11_weakest_36 xm_11_244 rfl (Nat.le_of_ble_eq_true rfl) (pG_ok gu12) ⟨(Nat.le_of_ble_eq_true rfl), (Nat.le_of_ble_eq_true rfl)⟩ rfl nofun (e_50 (d + 1) _ gh13 ⟨rfl, rfl⟩) ?_
    change Wp _ _ _ _ [] _ _
    refine wp_aload_n xi_123 dX11_weakest_39 rfl ?_
    obtain ⟨x14, gx14, H⟩ := Option.bind_eq_some_iff.mp H
    refine wq_getfr xi_123 dX11_weakest_40 xf_11_19 gx14 ?_
    refine wp_aload_n xi_123 dX11_weakest_43 rfl ?_
    obtain ⟨x15, gx15, H⟩ := Option.bind_eq_some_iff.mp H
    refine wq_getfr xi_123 dX11_weakest_44 xf_11_48 gx15 ?_
    obtain ⟨x16, gx16, H⟩ := Option.bind_eq_some_iff.mp H
    refine wq_getfi xi_123 dX11_weakest_47 xf_11_252 gx16 ?_
    refine wp_i2l xi_123 dX11_weakest_50 ?_
    obtain ⟨u17, gu17, H⟩ := Option.bind_eq_some_iff.mp H
    obtain ⟨h18, gh18, H⟩ := Option.bind_eq_some_iff.mp H
    refine wq_callV (a := x14) (as := [.long ((x16 : Int32).toInt64)]) (r := []) (v1 := none) xi_123 xi_51 dX11_weakest_51 xm_11_248 rfl (Nat.le_of_ble_eq_true rfl) (pG_ok gu17) ⟨(Nat.le_of_ble_eq_true rfl), (Nat.le_of_ble_eq_true rfl)⟩ rfl nofun (e_51 (d + 1) _ gh18 ⟨rfl, rfl⟩) ?_
    change Wp _ _ _ _ [] _ _
    refine wp_aload_n xi_123 dX11_weakest_54 rfl ?_
    obtain ⟨x19, gx19, H⟩ := Option.bind_eq_some_iff.mp H
    refine wq_getfr xi_123 dX11_weakest_55 xf_11_48 gx19 ?_
    obtain ⟨x20, gx20, H⟩ := Option.bind_eq_some_iff.mp H
    refine wq_getfi xi_123 dX11_weakest_58 xf_11_263 gx20 ?_
    obtain ⟨rfl, rfl⟩ := oi2 H
    exact wp_iret xi_123 dX11_weakest_61 hq
  · rw [if_neg c4] at H
    refine wp_bipush (-2) xi_123 dX11_weakest_14 rfl ?_
    obtain ⟨rfl, rfl⟩ := oi2 H
    exact wp_iret xi_123 dX11_weakest_16 hq
/- FelledHasLost.handOf(I)I -/
def f_126  (a : Nat) (p0 : Int32) (h : xH) : Option (Int32 × xH) :=
  (pG (pIs h a 11)).bind fun _ =>
  (f_269 a p0 h).bind fun (x3, h2) =>
  ((if x3 < 0 then
  some (0)
  else
  (if (4 : Int32) ≤ x3 then
  some (0)
  else
  (pFr h2 a 11 14).bind fun x11 =>
  (pAi h2 x11 x3).bind fun x12 =>
  some (x12)) : Option (Int32))).bind fun (w8 : Int32) =>
  some (w8, h2)
set_option maxHeartbeats 4000000 in
theorem e_126 (d : Nat) (Q : Option Value → xH → Prop)  {h : xH} {a : Nat} {p0 : Int32} {x : Int32} {h1 : xH} (H : f_126  a p0 h = some (x, h1)) (hq : Q (some (.int x)) h1) : Wp (d + 1) 126 0 [some (.ref a), some (.int p0), none] [] h Q := by
  unfold f_126 at H
  refine wp_aload_n xi_126 dX11_handOf_0 rfl ?_
  refine wp_iload_n xi_126 dX11_handOf_1 rfl ?_
  obtain ⟨u1, gu1, H⟩ := Option.bind_eq_some_iff.mp H
  obtain ⟨⟨x3, h2⟩, gh2, H⟩ := Option.bind_eq_some_iff.mp H
  dsimp only at H
  refine wq_callV (a := a) (as := [.int p0]) (r := []) (v1 := (some (.int x3))) xi_126 xi_269 dX11_handOf_2 xm_11_277 rfl (Nat.le_of_ble_eq_true rfl) (pG_ok gu1) ⟨(Nat.le_of_ble_eq_true rfl), (Nat.le_of_ble_eq_true rfl)⟩ rfl nofun (e_269 d _ gh2 ⟨rfl, rfl⟩) ?_
  change Wp _ _ _ _ [.int x3] _ _
  refine wp_istore_n [some (.ref a), some (.int p0), some (.int x3)] xi_126 dX11_handOf_5 rfl ?_
  refine wp_iload_n xi_126 dX11_handOf_6 rfl ?_
  obtain ⟨w8, G13, H⟩ := Option.bind_eq_some_iff.mp H
  have K9 : Wp (d + 1) 126 25 [some (.ref a), some (.int p0), some (.int x3)] [.int w8] h2 Q := by
    obtain ⟨rfl, rfl⟩ := oi2 H
    exact wp_iret xi_126 dX11_handOf_25 hq
  clear H
  have H := G13
  clear G13
  refine wp_if_lt 24 xi_126 dX11_handOf_7 rfl (fun c4 => ?_) (fun c4 => ?_)
  · rw [if_pos c4] at H
    refine wp_iconst 0 xi_126 dX11_handOf_24 rfl ?_
    obtain rfl := Option.some.inj H
    exact Wp.more (by simp [xMore, Value.category]) K9
  · rw [if_neg c4] at H
    refine wp_iload_n xi_126 dX11_handOf_10 rfl ?_
    refine wp_iconst 4 xi_126 dX11_handOf_11 rfl ?_
    refine wp_icmp_ge 24 xi_126 dX11_handOf_12 rfl (fun c10 => ?_) (fun c10 => ?_)
    · rw [if_pos c10] at H
      refine wp_iconst 0 xi_126 dX11_handOf_24 rfl ?_
      obtain rfl := Option.some.inj H
      exact Wp.more (by simp [xMore, Value.category]) K9
    · rw [if_neg c10] at H
      refine wp_aload_n xi_126 dX11_handOf_15 rfl ?_
      obtain ⟨x11, gx11, H⟩ := Option.bind_eq_some_iff.mp H
      refine wq_getfr xi_126 dX11_handOf_16 xf_11_101 gx11 ?_
      refine wp_iload_n xi_126 dX11_handOf_19 rfl ?_
      obtain ⟨x12, gx12, H⟩ := Option.bind_eq_some_iff.mp H
      refine wq_iaload xi_126 dX11_handOf_20 gx12 ?_
      refine wp_goto 25 xi_126 dX11_handOf_21 rfl ?_
      obtain rfl := Option.some.inj H
      exact Wp.more (by simp [xMore, Value.category]) K9
/- FelledHasLost.forget()I -/
def f_150  (a : Nat) (h : xH) : Option (Int32 × xH) :=
  (pFr h a 11 10).bind fun x1 =>
  (pFi h x1 9 10).bind fun x2 =>
  (pFr h a 11 10).bind fun x3 =>
  (pG (pIs h x3 9)).bind fun _ =>
  (f_79 x3 h).bind fun h5 =>
  some (x2, h5)
set_option maxHeartbeats 4000000 in
theorem e_150 (d : Nat) (Q : Option Value → xH → Prop)  {h : xH} {a : Nat} {x : Int32} {h1 : xH} (H : f_150  a h = some (x, h1)) (hq : Q (some (.int x)) h1) : Wp (d + 2) 150 0 [some (.ref a), none] [] h Q := by
  unfold f_150 at H
  refine wp_aload_n xi_150 dX11_forget_0 rfl ?_
  obtain ⟨x1, gx1, H⟩ := Option.bind_eq_some_iff.mp H
  refine wq_getfr xi_150 dX11_forget_1 xf_11_80 gx1 ?_
  obtain ⟨x2, gx2, H⟩ := Option.bind_eq_some_iff.mp H
  refine wq_getfi xi_150 dX11_forget_4 xf_11_453 gx2 ?_
  refine wp_istore_n [some (.ref a), some (.int x2)] xi_150 dX11_forget_7 rfl ?_
  refine wp_aload_n xi_150 dX11_forget_8 rfl ?_
  obtain ⟨x3, gx3, H⟩ := Option.bind_eq_some_iff.mp H
  refine wq_getfr xi_150 dX11_forget_9 xf_11_80 gx3 ?_
  obtain ⟨u4, gu4, H⟩ := Option.bind_eq_some_iff.mp H
  obtain ⟨h5, gh5, H⟩ := Option.bind_eq_some_iff.mp H
  refine wq_callV (a := x3) (as := []) (r := []) (v1 := none) xi_150 xi_79 dX11_forget_12 xm_11_142 rfl (Nat.le_of_ble_eq_true rfl) (pG_ok gu4) ⟨(Nat.le_of_ble_eq_true rfl), (Nat.le_of_ble_eq_true rfl)⟩ rfl nofun (e_79 d _ gh5 ⟨rfl, rfl⟩) ?_
  change Wp _ _ _ _ [] _ _
  refine wp_iload_n xi_150 dX11_forget_15 rfl ?_
  obtain ⟨rfl, rfl⟩ := oi2 H
  exact wp_iret xi_150 dX11_forget_16 hq
/- FelledHasLost.fits(I)I -/
def f_151  (a : Nat) (p0 : Int32) (h : xH) : Option (Int32 × xH) :=
  (pFr h a 11 2).bind fun x1 =>
  (pFr h x1 7 0).bind fun x2 =>
  (pG (pIs h x2 10)).bind fun _ =>
  (f_91 x2 p0 h).bind fun (x5, h4) =>
  (if x5 = 0 then
  some ((-1), h4)
  else
  (pFr h4 a 11 10).bind fun x7 =>
  (pFr h4 a 11 2).bind fun x8 =>
  (pFr h4 x8 7 0).bind fun x9 =>
  (pG (pIs h4 x7 9)).bind fun _ =>
  (f_82 x7 x9 p0 h4).bind fun h11 =>
  (pFr h11 a 11 1).bind fun x12 =>
  (pG (pIs h11 x12 5)).bind fun _ =>
  (f_50 x12 h11).bind fun h14 =>
  (pFr h14 a 11 10).bind fun x15 =>
  (pFi h14 x15 9 11).bind fun x16 =>
  ((if x16 ≤ 0 then
  some (h14)
  else
  (pFr h14 a 11 10).bind fun x28 =>
  (pFr h14 x28 9 8).bind fun x29 =>
  (pG (pIs h14 a 11)).bind fun _ =>
  (f_152 a x29 h14).bind fun h31 =>
  (pFr h31 a 11 10).bind fun x32 =>
  (pFr h31 x32 9 9).bind fun x33 =>
  (pG (pIs h31 a 11)).bind fun _ =>
  (f_152 a x33 h31).bind fun h35 =>
  some (h35) : Option (xH))).bind fun (h26 : xH) =>
  (pFr h26 a 11 10).bind fun x36 =>
  (pFi h26 x36 9 11).bind fun x37 =>
  some (x37, h26))
set_option maxHeartbeats 4000000 in
theorem e_151 (d : Nat) (Q : Option Value → xH → Prop)  {h : xH} {a : Nat} {p0 : Int32} {x : Int32} {h1 : xH} (H : f_151  a p0 h = some (x, h1)) (hq : Q (some (.int x)) h1) : Wp (d + 3) 151 0 [some (.ref a), some (.int p0)] [] h Q := by
  unfold f_151 at H
  refine wp_aload_n xi_151 dX11_fits_0 rfl ?_
  obtain ⟨x1, gx1, H⟩ := Option.bind_eq_some_iff.mp H
  refine wq_getfr xi_151 dX11_fits_1 xf_11_26 gx1 ?_
  obtain ⟨x2, gx2, H⟩ := Option.bind_eq_some_iff.mp H
  refine wq_getfr xi_151 dX11_fits_4 xf_11_132 gx2 ?_
  refine wp_iload_n xi_151 dX11_fits_7 rfl ?_
  obtain ⟨u3, gu3, H⟩ := Option.bind_eq_some_iff.mp H
  obtain ⟨⟨x5, h4⟩, gh4, H⟩ := Option.bind_eq_some_iff.mp H
  dsimp only at H
  refine wq_callV (a := x2) (as := [.int p0]) (r := []) (v1 := (some (.int x5))) xi_151 xi_91 dX11_fits_8 xm_11_204 rfl (Nat.le_of_ble_eq_true rfl) (pG_ok gu3) ⟨(Nat.le_of_ble_eq_true rfl), (Nat.le_of_ble_eq_true rfl)⟩ rfl nofun (e_91 (d + 2) _ gh4 ⟨rfl, rfl⟩) ?_
  change Wp _ _ _ _ [.int x5] _ _
  refine wp_if_ne 16 xi_151 dX11_fits_11 rfl (fun c6 => ?_) (fun c6 => ?_)
  · rw [if_neg c6] at H
    refine wp_aload_n xi_151 dX11_fits_16 rfl ?_
    obtain ⟨x7, gx7, H⟩ := Option.bind_eq_some_iff.mp H
    refine wq_getfr xi_151 dX11_fits_17 xf_11_80 gx7 ?_
    refine wp_aload_n xi_151 dX11_fits_20 rfl ?_
    obtain ⟨x8, gx8, H⟩ := Option.bind_eq_some_iff.mp H
    refine wq_getfr xi_151 dX11_fits_21 xf_11_26 gx8 ?_
    obtain ⟨x9, gx9, H⟩ := Option.bind_eq_some_iff.mp H
    refine wq_getfr xi_151 dX11_fits_24 xf_11_132 gx9 ?_
    refine wp_iload_n xi_151 dX11_fits_27 rfl ?_
    obtain ⟨u10, gu10, H⟩ := Option.bind_eq_some_iff.mp H
    obtain ⟨h11, gh11, H⟩ := Option.bind_eq_some_iff.mp H
    refine wq_callV (a := x7) (as := [.ref x9, .int p0]) (r := []) (v1 := none) xi_151 xi_82 dX11_fits_28 xm_11_460 rfl (Nat.le_of_ble_eq_true rfl) (pG_ok gu10) ⟨(Nat.le_of_ble_eq_true rfl), (Nat.le_of_ble_eq_true rfl)⟩ rfl nofun (e_82 d _ gh11 ⟨rfl, rfl⟩) ?_
    change Wp _ _ _ _ [] _ _
    refine wp_aload_n xi_151 dX11_fits_31 rfl ?_
    obtain ⟨x12, gx12, H⟩ := Option.bind_eq_some_iff.mp H
    refine wq_getfr xi_151 dX11_fits_32 xf_11_19 gx12 ?_
    obtain ⟨u13, gu13, H⟩ := Option.bind_eq_some_iff.mp H
    obtain ⟨h14, gh14, H⟩ := Option.bind_eq_some_iff.mp H
    refine wq_callV (a := x12) (as := []) (r := []) (v1 := none) xi_151 xi_50 dX11_fits_35 xm_11_244 rfl (Nat.le_of_ble_eq_true rfl) (pG_ok gu13) ⟨(Nat.le_of_ble_eq_true rfl), (Nat.le_of_ble_eq_true rfl)⟩ rfl nofun (e_50 (d + 2) _ gh14 ⟨rfl, rfl⟩) ?_
    change Wp _ _ _ _ [] _ _
    refine wp_aload_n xi_151 dX11_fits_38 rfl ?_
    obtain ⟨x15, gx15, H⟩ := Option.bind_eq_some_iff.mp H
    refine wq_getfr xi_151 dX11_fits_39 xf_11_80 gx15 ?_
    obtain ⟨x16, gx16, H⟩ := Option.bind_eq_some_iff.mp H
    refine wq_getfi xi_151 dX11_fits_42 xf_11_463 gx16 ?_
    obtain ⟨h26, G38, H⟩ := Option.bind_eq_some_iff.mp H
    have K27 : Wp (d + 3) 151 70 [some (.ref a), some (.int p0)] [] h26 Q := by
      refine wp_aload_n xi_151 dX11_fits_70 rfl ?_
      obtain ⟨x36, gx36, H⟩ := Option.bind_eq_some_iff.mp H
      refine wq_getfr xi_151 dX11_fits_71 xf_11_80 gx36 ?_
      obtain ⟨x37, gx37, H⟩ := Option.bind_eq_some_iff.mp H
      refine wq_getfi xi_151 dX11_fits_74 xf_11_463 gx37 ?_
      obtain ⟨rfl, rfl⟩ := oi2 H
      exact wp_iret xi_151 dX11_fits_77 hq
    clear H
    have H := G38
    clear G38
    refine wp_if_le 70 xi_151 dX11_fits_45 rfl (fun c17 => ?_) (fun c17 => ?_)
    · rw [if_pos c17] at H
      obtain rfl := Option.some.inj H
      exact Wp.more (by simp [xMore, Value.category]) K27
    · rw [if_neg c17] at H
      refine wp_aload_n xi_151 dX11_fits_48 rfl ?_
      refine wp_aload_n xi_151 dX11_fits_49 rfl ?_
      obtain ⟨x28, gx28, H⟩ := Option.bind_eq_some_iff.mp H
      refine wq_getfr xi_151 dX11_fits_50 xf_11_80 gx28 ?_
      obtain ⟨x29, gx29, H⟩ := Option.bind_eq_some_iff.mp H
      refine wq_getfr xi_151 dX11_fits_53 xf_11_466 gx29 ?_
      obtain ⟨u30, gu30, H⟩ := Option.bind_eq_some_iff.mp H
      obtain ⟨h31, gh31, H⟩ := Option.bind_eq_some_iff.mp H
      refine wq_callV (a := a) (as := [.ref x29]) (r := []) (v1 := none) xi_151 xi_152 dX11_fits_56 xm_11_469 rfl (Nat.le_of_ble_eq_true rfl) (pG_ok gu30) ⟨(Nat.le_of_ble_eq_true rfl), (Nat.le_of_ble_eq_true rfl)⟩ rfl nofun (e_152 (d + 1) _ gh31 ⟨rfl, rfl⟩) ?_
      change Wp _ _ _ _ [] _ _
      refine wp_aload_n xi_151 dX11_fits_59 rfl ?_
      refine wp_aload_n xi_151 dX11_fits_60 rfl ?_
      obtain ⟨x32, gx32, H⟩ := Option.bind_eq_some_iff.mp H
      refine wq_getfr xi_151 dX11_fits_61 xf_11_80 gx32 ?_
      obtain ⟨x33, gx33, H⟩ := Option.bind_eq_some_iff.mp H
      refine wq_getfr xi_151 dX11_fits_64 xf_11_473 gx33 ?_
      obtain ⟨u34, gu34, H⟩ := Option.bind_eq_some_iff.mp H
      obtain ⟨h35, gh35, H⟩ := Option.bind_eq_some_iff.mp H
      refine wq_callV (a := a) (as := [.ref x33]) (r := []) (v1 := none) xi_151 xi_152 dX11_fits_67 xm_11_469 rfl (Nat.le_of_ble_eq_true rfl) (pG_ok gu34) ⟨(Nat.le_of_ble_eq_true rfl), (Nat.le_of_ble_eq_true rfl)⟩ rfl nofun (e_152 (d + 1) _ gh35 ⟨rfl, rfl⟩) ?_
      change Wp _ _ _ _ [] _ _
      obtain rfl := Option.some.inj H
      exact Wp.more (by simp [xMore, Value.category]) K27
  · rw [if_pos c6] at H
    refine wp_iconst (-1) xi_151 dX11_fits_14 rfl ?_
    obtain ⟨rfl, rfl⟩ := oi2 H
    exact wp_iret xi_151 dX11_fits_15 hq
/- FelledHasLost.span(I)I -/
def f_153  (a : Nat) (p0 : Int32) (h : xH) : Option (Int32 × xH) :=
  (pFr h a 11 2).bind fun x1 =>
  (pFr h x1 7 0).bind fun x2 =>
  (pG (pIs h x2 10)).bind fun _ =>
  (f_90 x2 p0 h).bind fun (x5, h4) =>
  (if x5 = 0 then
  some ((-1), h4)
  else
  (pFr h4 a 11 10).bind fun x7 =>
  (pFr h4 a 11 2).bind fun x8 =>
  (pFr h4 x8 7 0).bind fun x9 =>
  (pDiv p0 3).bind fun x10 =>
  (pG (pIs h4 x7 9)).bind fun _ =>
  (f_82 x7 x9 x10 h4).bind fun h12 =>
  (pFr h12 a 11 10).bind fun x13 =>
  (pFr h12 x13 9 7).bind fun x14 =>
  (pRem p0 3).bind fun x15 =>
  (pAi h12 x14 x15).bind fun x16 =>
  some (x16, h12))
set_option maxHeartbeats 4000000 in
theorem e_153 (d : Nat) (Q : Option Value → xH → Prop)  {h : xH} {a : Nat} {p0 : Int32} {x : Int32} {h1 : xH} (H : f_153  a p0 h = some (x, h1)) (hq : Q (some (.int x)) h1) : Wp (d + 3) 153 0 [some (.ref a), some (.int p0)] [] h Q := by
  unfold f_153 at H
  refine wp_aload_n xi_153 dX11_span_0 rfl ?_
  obtain ⟨x1, gx1, H⟩ := Option.bind_eq_some_iff.mp H
  refine wq_getfr xi_153 dX11_span_1 xf_11_26 gx1 ?_
  obtain ⟨x2, gx2, H⟩ := Option.bind_eq_some_iff.mp H
  refine wq_getfr xi_153 dX11_span_4 xf_11_132 gx2 ?_
  refine wp_iload_n xi_153 dX11_span_7 rfl ?_
  obtain ⟨u3, gu3, H⟩ := Option.bind_eq_some_iff.mp H
  obtain ⟨⟨x5, h4⟩, gh4, H⟩ := Option.bind_eq_some_iff.mp H
  dsimp only at H
  refine wq_callV (a := x2) (as := [.int p0]) (r := []) (v1 := (some (.int x5))) xi_153 xi_90 dX11_span_8 xm_11_165 rfl (Nat.le_of_ble_eq_true rfl) (pG_ok gu3) ⟨(Nat.le_of_ble_eq_true rfl), (Nat.le_of_ble_eq_true rfl)⟩ rfl nofun (e_90 (d + 2) _ gh4 ⟨rfl, rfl⟩) ?_
  change Wp _ _ _ _ [.int x5] _ _
  refine wp_if_ne 16 xi_153 dX11_span_11 rfl (fun c6 => ?_) (fun c6 => ?_)
  · rw [if_neg c6] at H
    refine wp_aload_n xi_153 dX11_span_16 rfl ?_
    obtain ⟨x7, gx7, H⟩ := Option.bind_eq_some_iff.mp H
    refine wq_getfr xi_153 dX11_span_17 xf_11_80 gx7 ?_
    refine wp_aload_n xi_153 dX11_span_20 rfl ?_
    obtain ⟨x8, gx8, H⟩ := Option.bind_eq_some_iff.mp H
    refine wq_getfr xi_153 dX11_span_21 xf_11_26 gx8 ?_
    obtain ⟨x9, gx9, H⟩ := Option.bind_eq_some_iff.mp H
    refine wq_getfr xi_153 dX11_span_24 xf_11_132 gx9 ?_
    refine wp_iload_n xi_153 dX11_span_27 rfl ?_
    refine wp_iconst 3 xi_153 dX11_span_28 rfl ?_
    obtain ⟨x10, gx10, H⟩ := Option.bind_eq_some_iff.mp H
    refine wq_idiv xi_153 dX11_span_29 gx10 ?_
    obtain ⟨u11, gu11, H⟩ := Option.bind_eq_some_iff.mp H
    obtain ⟨h12, gh12, H⟩ := Option.bind_eq_some_iff.mp H
    refine wq_callV (a := x7) (as := [.ref x9, .int x10]) (r := []) (v1 := none) xi_153 xi_82 dX11_span_30 xm_11_460 rfl (Nat.le_of_ble_eq_true rfl) (pG_ok gu11) ⟨(Nat.le_of_ble_eq_true rfl), (Nat.le_of_ble_eq_true rfl)⟩ rfl nofun (e_82 d _ gh12 ⟨rfl, rfl⟩) ?_
    change Wp _ _ _ _ [] _ _
    refine wp_aload_n xi_153 dX11_span_33 rfl ?_
    obtain ⟨x13, gx13, H⟩ := Option.bind_eq_some_iff.mp H
    refine wq_getfr xi_153 dX11_span_34 xf_11_80 gx13 ?_
    obtain ⟨x14, gx14, H⟩ := Option.bind_eq_some_iff.mp H
    refine wq_getfr xi_153 dX11_span_37 xf_11_476 gx14 ?_
    refine wp_iload_n xi_153 dX11_span_40 rfl ?_
    refine wp_iconst 3 xi_153 dX11_span_41 rfl ?_
    obtain ⟨x15, gx15, H⟩ := Option.bind_eq_some_iff.mp H
    refine wq_irem xi_153 dX11_span_42 gx15 ?_
    obtain ⟨x16, gx16, H⟩ := Option.bind_eq_some_iff.mp H
    refine wq_iaload xi_153 dX11_span_43 gx16 ?_
    obtain ⟨rfl, rfl⟩ := oi2 H
    exact wp_iret xi_153 dX11_span_44 hq
  · rw [if_pos c6] at H
    refine wp_iconst (-1) xi_153 dX11_span_14 rfl ?_
    obtain ⟨rfl, rfl⟩ := oi2 H
    exact wp_iret xi_153 dX11_span_15 hq
/- FelledHasLost.sure(I)I -/
def f_154  (a : Nat) (p0 : Int32) (h : xH) : Option (Int32 × xH) :=
  (pFr h a 11 2).bind fun x1 =>
  (pFr h x1 7 0).bind fun x2 =>
  (pG (pIs h x2 10)).bind fun _ =>
  (f_90 x2 p0 h).bind fun (x5, h4) =>
  (if x5 = 0 then
  some ((-1), h4)
  else
  (pFr h4 a 11 10).bind fun x7 =>
  (pFr h4 a 11 2).bind fun x8 =>
  (pFr h4 x8 7 0).bind fun x9 =>
  (pDiv p0 3).bind fun x10 =>
  (pG (pIs h4 x7 9)).bind fun _ =>
  (f_82 x7 x9 x10 h4).bind fun h12 =>
  (pFr h12 a 11 10).bind fun x13 =>
  (pFi h12 x13 9 11).bind fun x14 =>
  (if x14 = 0 then
  some ((-2), h12)
  else
  (pFr h12 a 11 10).bind fun x16 =>
  (pFr h12 x16 9 6).bind fun x17 =>
  (pRem p0 3).bind fun x18 =>
  (pAi h12 x17 x18).bind fun x19 =>
  (pFr h12 a 11 1).bind fun x20 =>
  (pG (pIs h12 x20 5)).bind fun _ =>
  (f_50 x20 h12).bind fun h22 =>
  (pFr h22 a 11 1).bind fun x23 =>
  (pG (pIs h22 x23 5)).bind fun _ =>
  (f_51 x23 ((x19 : Int32).toInt64) h22).bind fun h25 =>
  (pFr h25 a 11 1).bind fun x26 =>
  (pFr h25 a 11 10).bind fun x27 =>
  (pFi h25 x27 9 11).bind fun x28 =>
  (pG (pIs h25 x26 5)).bind fun _ =>
  (f_51 x26 ((x28 : Int32).toInt64) h25).bind fun h30 =>
  (if x19 = 0 then
  some (0, h30)
  else
  (pFr h30 a 11 10).bind fun x32 =>
  (pFi h30 x32 9 11).bind fun x33 =>
  ((if x19 = x33 then
  some (1)
  else
  some (2) : Option (Int32))).bind fun (w35 : Int32) =>
  some (w35, h30))))
set_option maxHeartbeats 4000000 in
theorem e_154 (d : Nat) (Q : Option Value → xH → Prop)  {h : xH} {a : Nat} {p0 : Int32} {x : Int32} {h1 : xH} (H : f_154  a p0 h = some (x, h1)) (hq : Q (some (.int x)) h1) : Wp (d + 3) 154 0 [some (.ref a), some (.int p0), none] [] h Q := by
  unfold f_154 at H
  refine wp_aload_n xi_154 dX11_sure_0 rfl ?_
  obtain ⟨x1, gx1, H⟩ := Option.bind_eq_some_iff.mp H
  refine wq_getfr xi_154 dX11_sure_1 xf_11_26 gx1 ?_
  obtain ⟨x2, gx2, H⟩ := Option.bind_eq_some_iff.mp H
  refine wq_getfr xi_154 dX11_sure_4 xf_11_132 gx2 ?_
  refine wp_iload_n xi_154 dX11_sure_7 rfl ?_
  obtain ⟨u3, gu3, H⟩ := Option.bind_eq_some_iff.mp H
  obtain ⟨⟨x5, h4⟩, gh4, H⟩ := Option.bind_eq_some_iff.mp H
  dsimp only at H
  refine wq_callV (a := x2) (as := [.int p0]) (r := []) (v1 := (some (.int x5))) xi_154 xi_90 dX11_sure_8 xm_11_165 rfl (Nat.le_of_ble_eq_true rfl) (pG_ok gu3) ⟨(Nat.le_of_ble_eq_true rfl), (Nat.le_of_ble_eq_true rfl)⟩ rfl nofun (e_90 (d + 2) _ gh4 ⟨rfl, rfl⟩) ?_
  change Wp _ _ _ _ [.int x5] _ _
  refine wp_if_ne 16 xi_154 dX11_sure_11 rfl (fun c6 => ?_) (fun c6 => ?_)
  · rw [if_neg c6] at H
    refine wp_aload_n xi_154 dX11_sure_16 rfl ?_
    obtain ⟨x7, gx7, H⟩ := Option.bind_eq_some_iff.mp H
    refine wq_getfr xi_154 dX11_sure_17 xf_11_80 gx7 ?_
    refine wp_aload_n xi_154 dX11_sure_20 rfl ?_
    obtain ⟨x8, gx8, H⟩ := Option.bind_eq_some_iff.mp H
    refine wq_getfr xi_154 dX11_sure_21 xf_11_26 gx8 ?_
    obtain ⟨x9, gx9, H⟩ := Option.bind_eq_some_iff.mp H
    refine wq_getfr xi_154 dX11_sure_24 xf_11_132 gx9 ?_
    refine wp_iload_n xi_154 dX11_sure_27 rfl ?_
    refine wp_iconst 3 xi_154 dX11_sure_28 rfl ?_
    obtain ⟨x10, gx10, H⟩ := Option.bind_eq_some_iff.mp H
    refine wq_idiv xi_154 dX11_sure_29 gx10 ?_
    obtain ⟨u11, gu11, H⟩ := Option.bind_eq_some_iff.mp H
    obtain ⟨h12, gh12, H⟩ := Option.bind_eq_some_iff.mp H
    refine wq_callV (a := x7) (as := [.ref x9, .int x10]) (r := []) (v1 := none) xi_154 xi_82 dX11_sure_30 xm_11_460 rfl (Nat.le_of_ble_eq_true rfl) (pG_ok gu11) ⟨(Nat.le_of_ble_eq_true rfl), (Nat.le_of_ble_eq_true rfl)⟩ rfl nofun (e_82 d _ gh12 ⟨rfl, rfl⟩) ?_
    change Wp _ _ _ _ [] _ _
    refine wp_aload_n xi_154 dX11_sure_33 rfl ?_
    obtain ⟨x13, gx13, H⟩ := Option.bind_eq_some_iff.mp H
    refine wq_getfr xi_154 dX11_sure_34 xf_11_80 gx13 ?_
    obtain ⟨x14, gx14, H⟩ := Option.bind_eq_some_iff.mp H
    refine wq_getfi xi_154 dX11_sure_37 xf_11_463 gx14 ?_
    refine wp_if_ne 46 xi_154 dX11_sure_40 rfl (fun c15 => ?_) (fun c15 => ?_)
    · rw [if_neg c15] at H
      refine wp_aload_n xi_154 dX11_sure_46 rfl ?_
      obtain ⟨x16, gx16, H⟩ := Option.bind_eq_some_iff.mp H
      refine wq_getfr xi_154 dX11_sure_47 xf_11_80 gx16 ?_
      obtain ⟨x17, gx17, H⟩ := Option.bind_eq_some_iff.mp H
      refine wq_getfr xi_154 dX11_sure_50 xf_11_479 gx17 ?_
      refine wp_iload_n xi_154 dX11_sure_53 rfl ?_
      refine wp_iconst 3 xi_154 dX11_sure_54 rfl ?_
      obtain ⟨x18, gx18, H⟩ := Option.bind_eq_some_iff.mp H
      refine wq_irem xi_154 dX11_sure_55 gx18 ?_
      obtain ⟨x19, gx19, H⟩ := Option.bind_eq_some_iff.mp H
      refine wq_iaload xi_154 dX11_sure_56 gx19 ?_
      refine wp_istore_n [some (.ref a), some (.int p0), some (.int x19)] xi_154 dX11_sure_57 rfl ?_
      refine wp_aload_n xi_154 dX11_sure_58 rfl ?_
      obtain ⟨x20, gx20, H⟩ := Option.bind_eq_some_iff.mp H
      refine wq_getfr xi_154 dX11_sure_59 xf_11_19 gx20 ?_
      obtain ⟨u21, gu21, H⟩ := Option.bind_eq_some_iff.mp H
      obtain ⟨h22, gh22, H⟩ := Option.bind_eq_some_iff.mp H
      refine wq_callV (a := x20) (as := []) (r := []) (v1 := none) xi_154 xi_50 dX11_sure_62 xm_11_244 rfl (Nat.le_of_ble_eq_true rfl) (pG_ok gu21) ⟨(Nat.le_of_ble_eq_true rfl), (Nat.le_of_ble_eq_true rfl)⟩ rfl nofun (e_50 (d + 2) _ gh22 ⟨rfl, rfl⟩) ?_
      change Wp _ _ _ _ [] _ _
      refine wp_aload_n xi_154 dX11_sure_65 rfl ?_
      obtain ⟨x23, gx23, H⟩ := Option.bind_eq_some_iff.mp H
      refine wq_getfr xi_154 dX11_sure_66 xf_11_19 gx23 ?_
      refine wp_iload_n xi_154 dX11_sure_69 rfl ?_
      refine wp_i2l xi_154 dX11_sure_70 ?_
      obtain ⟨u24, gu24, H⟩ := Option.bind_eq_some_iff.mp H
      obtain ⟨h25, gh25, H⟩ := Option.bind_eq_some_iff.mp H
      refine wq_callV (a := x23) (as := [.long ((x19 : Int32).toInt64)]) (r := []) (v1 := none) xi_154 xi_51 dX11_sure_71 xm_11_248 rfl (Nat.le_of_ble_eq_true rfl) (pG_ok gu24) ⟨(Nat.le_of_ble_eq_true rfl), (Nat.le_of_ble_eq_true rfl)⟩ rfl nofun (e_51 (d + 2) _ gh25 ⟨rfl, rfl⟩) ?_
      change Wp _ _ _ _ [] _ _
      refine wp_aload_n xi_154 dX11_sure_74 rfl ?_
      obtain ⟨x26, gx26, H⟩ := Option.bind_eq_some_iff.mp H
      refine wq_getfr xi_154 dX11_sure_75 xf_11_19 gx26 ?_
      refine wp_aload_n xi_154 dX11_sure_78 rfl ?_
      obtain ⟨x27, gx27, H⟩ := Option.bind_eq_some_iff.mp H
      refine wq_getfr xi_154 dX11_sure_79 xf_11_80 gx27 ?_
      obtain ⟨x28, gx28, H⟩ := Option.bind_eq_some_iff.mp H
      refine wq_getfi xi_154 dX11_sure_82 xf_11_463 gx28 ?_
      refine wp_i2l xi_154 dX11_sure_85 ?_
      obtain ⟨u29, gu29, H⟩ := Option.bind_eq_some_iff.mp H
      obtain ⟨h30, gh30, H⟩ := Option.bind_eq_some_iff.mp H
      refine wq_callV (a := x26) (as := [.long ((x28 : Int32).toInt64)]) (r := []) (v1 := none) xi_154 xi_51 dX11_sure_86 xm_11_248 rfl (Nat.le_of_ble_eq_true rfl) (pG_ok gu29) ⟨(Nat.le_of_ble_eq_true rfl), (Nat.le_of_ble_eq_true rfl)⟩ rfl nofun (e_51 (d + 2) _ gh30 ⟨rfl, rfl⟩) ?_
      change Wp _ _ _ _ [] _ _
      refine wp_iload_n xi_154 dX11_sure_89 rfl ?_
      refine wp_if_ne 95 xi_154 dX11_sure_90 rfl (fun c31 => ?_) (fun c31 => ?_)
      · rw [if_neg c31] at H
        refine wp_iload_n xi_154 dX11_sure_95 rfl ?_
        refine wp_aload_n xi_154 dX11_sure_96 rfl ?_
        obtain ⟨x32, gx32, H⟩ := Option.bind_eq_some_iff.mp H
        refine wq_getfr xi_154 dX11_sure_97 xf_11_80 gx32 ?_
        obtain ⟨x33, gx33, H⟩ := Option.bind_eq_some_iff.mp H
        refine wq_getfi xi_154 dX11_sure_100 xf_11_463 gx33 ?_
        obtain ⟨w35, G37, H⟩ := Option.bind_eq_some_iff.mp H
        have K36 : Wp (d + 3) 154 111 [some (.ref a), some (.int p0), some (.int x19)] [.int w35] h30 Q := by
          obtain ⟨rfl, rfl⟩ := oi2 H
          exact wp_iret xi_154 dX11_sure_111 hq
        clear H
        have H := G37
        clear G37
        refine wp_icmp_ne 110 xi_154 dX11_sure_103 rfl (fun c34 => ?_) (fun c34 => ?_)
        · rw [if_neg c34] at H
          refine wp_iconst 2 xi_154 dX11_sure_110 rfl ?_
          obtain rfl := Option.some.inj H
          exact Wp.more (by simp [xMore, Value.category]) K36
        · rw [if_pos c34] at H
          refine wp_iconst 1 xi_154 dX11_sure_106 rfl ?_
          refine wp_goto 111 xi_154 dX11_sure_107 rfl ?_
          obtain rfl := Option.some.inj H
          exact Wp.more (by simp [xMore, Value.category]) K36
      · rw [if_pos c31] at H
        refine wp_iconst 0 xi_154 dX11_sure_93 rfl ?_
        obtain ⟨rfl, rfl⟩ := oi2 H
        exact wp_iret xi_154 dX11_sure_94 hq
    · rw [if_pos c15] at H
      refine wp_bipush (-2) xi_154 dX11_sure_43 rfl ?_
      obtain ⟨rfl, rfl⟩ := oi2 H
      exact wp_iret xi_154 dX11_sure_45 hq
  · rw [if_pos c6] at H
    refine wp_iconst (-1) xi_154 dX11_sure_14 rfl ?_
    obtain ⟨rfl, rfl⟩ := oi2 H
    exact wp_iret xi_154 dX11_sure_15 hq
/- FelledHasLost.touch(I)I -/
def f_155_51  : Nat → Nat → Int32 → Int32 → Int32 → Int32 → xH → Option (Int32 × Int32 × xH)
  | 0, _, _, _, _, _, _ => none
  | n + 1, a0, a1, a2, a3, a4, h =>
  (if (3 : Int32) ≤ a4 then
  some (a2, a3, h)
  else
  (pFr h a0 11 10).bind fun x2 =>
  (pFr h x2 9 6).bind fun x3 =>
  (pAi h x3 a4).bind fun x4 =>
  (pFr h a0 11 10).bind fun x5 =>
  (pFi h x5 9 11).bind fun x6 =>
  (pFr h a0 11 10).bind fun x7 =>
  (pFr h x7 9 6).bind fun x8 =>
  (pAi h x8 a4).bind fun x9 =>
  (pFr h a0 11 2).bind fun x10 =>
  (pFr h x10 7 0).bind fun x11 =>
  (pG (pIs h x11 10)).bind fun _ =>
  (f_90 x11 ((3 * a1) + a4) h).bind fun (x14, h13) =>
  ((if x14 = 0 then
  some (a2, a3)
  else
  (if a2 = (-1) then
  some (((3 * a1) + a4), (pMax x4 (x6 - x9)))
  else
  (if a3 ≤ (pMax x4 (x6 - x9)) then
  some (a2, a3)
  else
  some (((3 * a1) + a4), (pMax x4 (x6 - x9))))) : Option (Int32 × Int32))).bind fun (w18, w19) =>
  f_155_51 n a0 a1 w18 w19 (a4 + 1) h13)
theorem ef_155_51 (d : Nat) (Q : Option Value → xH → Prop)  : ∀ (n : Nat) (a0 : Nat) (a1 : Int32) (a2 : Int32) (a3 : Int32) (a4 : Int32) (h : xH) (r : Int32 × Int32 × xH), f_155_51 n a0 a1 a2 a3 a4 h = some r → (∀ (w2 : Int32) (w3 : Int32) (h1 : xH), r = (w2, w3, h1) → Wp (d + 3) 155 136 [some (.ref a0), none, some (.int w2), some (.int w3), none, none] [] h1 Q) → Wp (d + 3) 155 51 [some (.ref a0), some (.int a1), some (.int a2), some (.int a3), some (.int a4), none] [] h Q := by
  intro n
  induction n with
  | zero =>
    intro a0 a1 a2 a3 a4 h r H
    cases H
  | succ n ih =>
    intro a0 a1 a2 a3 a4 h r H KE
    unfold f_155_51 at H
    refine wp_iload xi_155 dX11_touch_51 rfl ?_
    refine wp_iconst 3 xi_155 dX11_touch_53 rfl ?_
    refine wp_icmp_ge 136 xi_155 dX11_touch_54 rfl (fun c1 => ?_) (fun c1 => ?_)
    · rw [if_pos c1] at H
      obtain rfl := Option.some.inj H
      exact Wp.more (by simp [xMore, Value.category]) (KE a2 a3 h rfl)
    · rw [if_neg c1] at H
      refine wp_aload_n xi_155 dX11_touch_57 rfl ?_
      obtain ⟨x2, gx2, H⟩ := Option.bind_eq_some_iff.mp H
      refine wq_getfr xi_155 dX11_touch_58 xf_11_80 gx2 ?_
      obtain ⟨x3, gx3, H⟩ := Option.bind_eq_some_iff.mp H
      refine wq_getfr xi_155 dX11_touch_61 xf_11_479 gx3 ?_
      refine wp_iload xi_155 dX11_touch_64 rfl ?_
      obtain ⟨x4, gx4, H⟩ := Option.bind_eq_some_iff.mp H
      refine wq_iaload xi_155 dX11_touch_66 gx4 ?_
      refine wp_aload_n xi_155 dX11_touch_67 rfl ?_
      obtain ⟨x5, gx5, H⟩ := Option.bind_eq_some_iff.mp H
      refine wq_getfr xi_155 dX11_touch_68 xf_11_80 gx5 ?_
      obtain ⟨x6, gx6, H⟩ := Option.bind_eq_some_iff.mp H
      refine wq_getfi xi_155 dX11_touch_71 xf_11_463 gx6 ?_
      refine wp_aload_n xi_155 dX11_touch_74 rfl ?_
      obtain ⟨x7, gx7, H⟩ := Option.bind_eq_some_iff.mp H
      refine wq_getfr xi_155 dX11_touch_75 xf_11_80 gx7 ?_
      obtain ⟨x8, gx8, H⟩ := Option.bind_eq_some_iff.mp H
      refine wq_getfr xi_155 dX11_touch_78 xf_11_479 gx8 ?_
      refine wp_iload xi_155 dX11_touch_81 rfl ?_
      obtain ⟨x9, gx9, H⟩ := Option.bind_eq_some_iff.mp H
      refine wq_iaload xi_155 dX11_touch_83 gx9 ?_
      refine wp_isub xi_155 dX11_touch_84 ?_
      refine wq_max xi_155 dX11_touch_85 xm_11_435 (Nat.le_of_ble_eq_true rfl) ?_
      refine wp_istore [some (.ref a0), some (.int a1), some (.int a2), some (.int a3), some (.int a4), some (.int (pMax x4 (x6 - x9)))] xi_155 dX11_touch_88 rfl ?_
      refine wp_aload_n xi_155 dX11_touch_90 rfl ?_
      obtain ⟨x10, gx10, H⟩ := Option.bind_eq_some_iff.mp H
      refine wq_getfr xi_155 dX11_touch_91 xf_11_26 gx10 ?_
      obtain ⟨x11, gx11, H⟩ := Option.bind_eq_some_iff.mp H
      refine wq_getfr xi_155 dX11_touch_94 xf_11_132 gx11 ?_
      refine wp_iconst 3 xi_155 dX11_touch_97 rfl ?_
      refine wp_iload_n xi_155 dX11_touch_98 rfl ?_
      refine wp_imul xi_155 dX11_touch_99 ?_
      refine wp_iload xi_155 dX11_touch_100 rfl ?_
      refine wp_iadd xi_155 dX11_touch_102 ?_
      obtain ⟨u12, gu12, H⟩ := Option.bind_eq_some_iff.mp H
      obtain ⟨⟨x14, h13⟩, gh13, H⟩ := Option.bind_eq_some_iff.mp H
      dsimp only at H
      refine wq_callV (a := x11) (as := [.int ((3 * a1) + a4)]) (r := []) (v1 := (some (.int x14))) xi_155 xi_90 dX11_touch_103 xm_11_165 rfl (Nat.le_of_ble_eq_true rfl) (pG_ok gu12) ⟨(Nat.le_of_ble_eq_true rfl), (Nat.le_of_ble_eq_true rfl)⟩ rfl nofun (e_90 (d + 2) _ gh13 ⟨rfl, rfl⟩) ?_
      change Wp _ _ _ _ [.int x14] _ _
      obtain ⟨⟨w18, w19⟩, G23, H⟩ := Option.bind_eq_some_iff.mp H
      dsimp only at H
      have K20 : Wp (d + 3) 155 130 [some (.ref a0), some (.int a1), some (.int w18), some (.int w19), some (.int a4), some (.int (pMax x4 (x6 - x9)))] [] h13 Q := by
        refine wp_iinc (a4 + 1) [some (.ref a0), some (.int a1), some (.int w18), some (.int w19), some (.int (a4 + 1)), some (.int (pMax x4 (x6 - x9)))] xi_155 dX11_touch_130 rfl rfl rfl ?_
        refine wp_goto 51 xi_155 dX11_touch_133 rfl ?_
        exact Wp.more (by simp [xMore, Value.category]) (ih a0 a1 w18 w19 (a4 + 1) h13 _ H KE)
      clear H
      have H := G23
      clear G23
      refine wp_if_eq 130 xi_155 dX11_touch_106 rfl (fun c15 => ?_) (fun c15 => ?_)
      · rw [if_pos c15] at H
        simp only [Option.some.injEq, Prod.mk.injEq] at H
        obtain ⟨rfl, rfl⟩ := H
        exact Wp.more (by simp [xMore, Value.category]) K20
      · rw [if_neg c15] at H
        refine wp_iload_n xi_155 dX11_touch_109 rfl ?_
        refine wp_iconst (-1) xi_155 dX11_touch_110 rfl ?_
        refine wp_icmp_eq 120 xi_155 dX11_touch_111 rfl (fun c21 => ?_) (fun c21 => ?_)
        · rw [if_pos c21] at H
          refine wp_iconst 3 xi_155 dX11_touch_120 rfl ?_
          refine wp_iload_n xi_155 dX11_touch_121 rfl ?_
          refine wp_imul xi_155 dX11_touch_122 ?_
          refine wp_iload xi_155 dX11_touch_123 rfl ?_
          refine wp_iadd xi_155 dX11_touch_125 ?_
          refine wp_istore_n [some (.ref a0), some (.int a1), some (.int ((3 * a1) + a4)), some (.int a3), some (.int a4), some (.int (pMax x4 (x6 - x9)))] xi_155 dX11_touch_126 rfl ?_
          refine wp_iload xi_155 dX11_touch_127 rfl ?_
          refine wp_istore_n [some (.ref a0), some (.int a1), some (.int ((3 * a1) + a4)), some (.int (pMax x4 (x6 - x9))), some (.int a4), some (.int (pMax x4 (x6 - x9)))] xi_155 dX11_touch_129 rfl ?_
          simp only [Option.some.injEq, Prod.mk.injEq] at H
          obtain ⟨rfl, rfl⟩ := H
          exact Wp.more (by simp [xMore, Value.category]) K20
        · rw [if_neg c21] at H
          refine wp_iload xi_155 dX11_touch_114 rfl ?_
          refine wp_iload_n xi_155 dX11_touch_116 rfl ?_
          refine wp_icmp_ge 130 xi_155 dX11_touch_117 rfl (fun c22 => ?_) (fun c22 => ?_)
          · rw [if_pos c22] at H
            simp only [Option.some.injEq, Prod.mk.injEq] at H
            obtain ⟨rfl, rfl⟩ := H
            exact Wp.more (by simp [xMore, Value.category]) K20
          · rw [if_neg c22] at H
            refine wp_iconst 3 xi_155 dX11_touch_120 rfl ?_
            refine wp_iload_n xi_155 dX11_touch_121 rfl ?_
            refine wp_imul xi_155 dX11_touch_122 ?_
            refine wp_iload xi_155 dX11_touch_123 rfl ?_
            refine wp_iadd xi_155 dX11_touch_125 ?_
            refine wp_istore_n [some (.ref a0), some (.int a1), some (.int ((3 * a1) + a4)), some (.int a3), some (.int a4), some (.int (pMax x4 (x6 - x9)))] xi_155 dX11_touch_126 rfl ?_
            refine wp_iload xi_155 dX11_touch_127 rfl ?_
            refine wp_istore_n [some (.ref a0), some (.int a1), some (.int ((3 * a1) + a4)), some (.int (pMax x4 (x6 - x9))), some (.int a4), some (.int (pMax x4 (x6 - x9)))] xi_155 dX11_touch_129 rfl ?_
            simp only [Option.some.injEq, Prod.mk.injEq] at H
            obtain ⟨rfl, rfl⟩ := H
            exact Wp.more (by simp [xMore, Value.category]) K20
def f_155  (a : Nat) (p0 : Int32) (h : xH) : Option (Int32 × xH) :=
  (pFr h a 11 2).bind fun x1 =>
  (pFr h x1 7 0).bind fun x2 =>
  (pG (pIs h x2 10)).bind fun _ =>
  (f_91 x2 p0 h).bind fun (x5, h4) =>
  (if x5 = 0 then
  some ((-1), h4)
  else
  (pFr h4 a 11 10).bind fun x7 =>
  (pFr h4 a 11 2).bind fun x8 =>
  (pFr h4 x8 7 0).bind fun x9 =>
  (pG (pIs h4 x7 9)).bind fun _ =>
  (f_82 x7 x9 p0 h4).bind fun h11 =>
  (pFr h11 a 11 10).bind fun x12 =>
  (pFi h11 x12 9 11).bind fun x13 =>
  (if x13 = 0 then
  some ((-2), h11)
  else
  (f_155_51 100000 a p0 (-1) 0 0 h11).bind fun (w16, w17, h15) =>
  (pFr h15 a 11 1).bind fun x20 =>
  (pG (pIs h15 x20 5)).bind fun _ =>
  (f_50 x20 h15).bind fun h22 =>
  (pFr h22 a 11 1).bind fun x23 =>
  (pG (pIs h22 x23 5)).bind fun _ =>
  (f_51 x23 ((w17 : Int32).toInt64) h22).bind fun h25 =>
  some (w16, h25)))
set_option maxHeartbeats 4000000 in
theorem e_155 (d : Nat) (Q : Option Value → xH → Prop)  {h : xH} {a : Nat} {p0 : Int32} {x : Int32} {h1 : xH} (H : f_155  a p0 h = some (x, h1)) (hq : Q (some (.int x)) h1) : Wp (d + 3) 155 0 [some (.ref a), some (.int p0), none, none, none, none] [] h Q := by
  unfold f_155 at H
  refine wp_aload_n xi_155 dX11_touch_0 rfl ?_
  obtain ⟨x1, gx1, H⟩ := Option.bind_eq_some_iff.mp H
  refine wq_getfr xi_155 dX11_touch_1 xf_11_26 gx1 ?_
  obtain ⟨x2, gx2, H⟩ := Option.bind_eq_some_iff.mp H
  refine wq_getfr xi_155 dX11_touch_4 xf_11_132 gx2 ?_
  refine wp_iload_n xi_155 dX11_touch_7 rfl ?_
  obtain ⟨u3, gu3, H⟩ := Option.bind_eq_some_iff.mp H
  obtain ⟨⟨x5, h4⟩, gh4, H⟩ := Option.bind_eq_some_iff.mp H
  dsimp only at H
  refine wq_callV (a := x2) (as := [.int p0]) (r := []) (v1 := (some (.int x5))) xi_155 xi_91 dX11_touch_8 xm_11_204 rfl (Nat.le_of_ble_eq_true rfl) (pG_ok gu3) ⟨(Nat.le_of_ble_eq_true rfl), (Nat.le_of_ble_eq_true rfl)⟩ rfl nofun (e_91 (d + 2) _ gh4 ⟨rfl, rfl⟩) ?_
  change Wp _ _ _ _ [.int x5] _ _
  refine wp_if_ne 16 xi_155 dX11_touch_11 rfl (fun c6 => ?_) (fun c6 => ?_)
  · rw [if_neg c6] at H
    refine wp_aload_n xi_155 dX11_touch_16 rfl ?_
    obtain ⟨x7, gx7, H⟩ := Option.bind_eq_some_iff.mp H
    refine wq_getfr xi_155 dX11_touch_17 xf_11_80 gx7 ?_
    refine wp_aload_n xi_155 dX11_touch_20 rfl ?_
    obtain ⟨x8, gx8, H⟩ := Option.bind_eq_some_iff.mp H
    refine wq_getfr xi_155 dX11_touch_21 xf_11_26 gx8 ?_
    obtain ⟨x9, gx9, H⟩ := Option.bind_eq_some_iff.mp H
    refine wq_getfr xi_155 dX11_touch_24 xf_11_132 gx9 ?_
    refine wp_iload_n xi_155 dX11_touch_27 rfl ?_
    obtain ⟨u10, gu10, H⟩ := Option.bind_eq_some_iff.mp H
    obtain ⟨h11, gh11, H⟩ := Option.bind_eq_some_iff.mp H
    refine wq_callV (a := x7) (as := [.ref x9, .int p0]) (r := []) (v1 := none) xi_155 xi_82 dX11_touch_28 xm_11_460 rfl (Nat.le_of_ble_eq_true rfl) (pG_ok gu10) ⟨(Nat.le_of_ble_eq_true rfl), (Nat.le_of_ble_eq_true rfl)⟩ rfl nofun (e_82 d _ gh11 ⟨rfl, rfl⟩) ?_
    change Wp _ _ _ _ [] _ _
    refine wp_aload_n xi_155 dX11_touch_31 rfl ?_
    obtain ⟨x12, gx12, H⟩ := Option.bind_eq_some_iff.mp H
    refine wq_getfr xi_155 dX11_touch_32 xf_11_80 gx12 ?_
    obtain ⟨x13, gx13, H⟩ := Option.bind_eq_some_iff.mp H
    refine wq_getfi xi_155 dX11_touch_35 xf_11_463 gx13 ?_
    refine wp_if_ne 44 xi_155 dX11_touch_38 rfl (fun c14 => ?_) (fun c14 => ?_)
    · rw [if_neg c14] at H
      refine wp_iconst (-1) xi_155 dX11_touch_44 rfl ?_
      refine wp_istore_n [some (.ref a), some (.int p0), some (.int (-1)), none, none, none] xi_155 dX11_touch_45 rfl ?_
      refine wp_iconst 0 xi_155 dX11_touch_46 rfl ?_
      refine wp_istore_n [some (.ref a), some (.int p0), some (.int (-1)), some (.int 0), none, none] xi_155 dX11_touch_47 rfl ?_
      refine wp_iconst 0 xi_155 dX11_touch_48 rfl ?_
      refine wp_istore [some (.ref a), some (.int p0), some (.int (-1)), some (.int 0), some (.int 0), none] xi_155 dX11_touch_49 rfl ?_
      obtain ⟨⟨w16, w17, h15⟩, G18, H⟩ := Option.bind_eq_some_iff.mp H
      dsimp only at H
      refine Wp.more (by simp [xMore, Value.category]) (ef_155_51 d Q  100000 a p0 (-1) 0 0 h11 _ G18 (fun z0 z1 z2 e9 => ?_))
      cases e9
      refine wp_aload_n xi_155 dX11_touch_136 rfl ?_
      obtain ⟨x20, gx20, H⟩ := Option.bind_eq_some_iff.mp H
      refine wq_getfr xi_155 dX11_touch_137 xf_11_19 gx20 ?_
      obtain ⟨u21, gu21, H⟩ := Option.bind_eq_some_iff.mp H
      obtain ⟨h22, gh22, H⟩ := Option.bind_eq_some_iff.mp H
      refine wq_callV (a := x20) (as := []) (r := []) (v1 := none) xi_155 xi_50 dX11_touch_140 xm_11_244 rfl (Nat.le_of_ble_eq_true rfl) (pG_ok gu21) ⟨(Nat.le_of_ble_eq_true rfl), (Nat.le_of_ble_eq_true rfl)⟩ rfl nofun (e_50 (d + 2) _ gh22 ⟨rfl, rfl⟩) ?_
      change Wp _ _ _ _ [] _ _
      refine wp_aload_n xi_155 dX11_touch_143 rfl ?_
      obtain ⟨x23, gx23, H⟩ := Option.bind_eq_some_iff.mp H
      refine wq_getfr xi_155 dX11_touch_144 xf_11_19 gx23 ?_
      refine wp_iload_n xi_155 dX11_touch_147 rfl ?_
      refine wp_i2l xi_155 dX11_touch_148 ?_
      obtain ⟨u24, gu24, H⟩ := Option.bind_eq_some_iff.mp H
      obtain ⟨h25, gh25, H⟩ := Option.bind_eq_some_iff.mp H
      refine wq_callV (a := x23) (as := [.long ((w17 : Int32).toInt64)]) (r := []) (v1 := none) xi_155 xi_51 dX11_touch_149 xm_11_248 rfl (Nat.le_of_ble_eq_true rfl) (pG_ok gu24) ⟨(Nat.le_of_ble_eq_true rfl), (Nat.le_of_ble_eq_true rfl)⟩ rfl nofun (e_51 (d + 2) _ gh25 ⟨rfl, rfl⟩) ?_
      change Wp _ _ _ _ [] _ _
      refine wp_iload_n xi_155 dX11_touch_152 rfl ?_
      obtain ⟨rfl, rfl⟩ := oi2 H
      exact wp_iret xi_155 dX11_touch_153 hq
    · rw [if_pos c14] at H
      refine wp_bipush (-2) xi_155 dX11_touch_41 rfl ?_
      obtain ⟨rfl, rfl⟩ := oi2 H
      exact wp_iret xi_155 dX11_touch_43 hq
  · rw [if_pos c6] at H
    refine wp_iconst (-1) xi_155 dX11_touch_14 rfl ?_
    obtain ⟨rfl, rfl⟩ := oi2 H
    exact wp_iret xi_155 dX11_touch_15 hq
/- FelledHasLost.keep(I)Z -/
def f_156  (a : Nat) (p0 : Int32) (h : xH) : Option (Int32 × xH) :=
  (if p0 < 0 then
  pZ 0 h
  else
  (if p0 < 3 then
  (pFr h a 11 4).bind fun x3 =>
  (pAa h x3 p0).bind fun x4 =>
  (pFr h a 11 2).bind fun x5 =>
  (pG (pIs h x4 7)).bind fun _ =>
  (f_71 x4 x5 h).bind fun h7 =>
  (pFr h7 a 11 5).bind fun x8 =>
  (pSb h7 x8 p0 1).bind fun h9 =>
  pZ 1 h9
  else
  pZ 0 h))
set_option maxHeartbeats 4000000 in
theorem e_156 (d : Nat) (Q : Option Value → xH → Prop)  {h : xH} {a : Nat} {p0 : Int32} {x : Int32} {h1 : xH} (H : f_156  a p0 h = some (x, h1)) (hq : Q (some (.int x)) h1) : Wp (d + 2) 156 0 [some (.ref a), some (.int p0)] [] h Q := by
  unfold f_156 at H
  refine wp_iload_n xi_156 dX11_keep_0 rfl ?_
  refine wp_if_lt 9 xi_156 dX11_keep_1 rfl (fun c1 => ?_) (fun c1 => ?_)
  · rw [if_pos c1] at H
    refine wp_iconst 0 xi_156 dX11_keep_9 rfl ?_
    obtain ⟨gz, hz⟩ := pZ_ok H
    obtain ⟨rfl, rfl⟩ := Prod.mk.inj hz
    exact wp_zret xi_156 dX11_keep_10 gz hq
  · rw [if_neg c1] at H
    refine wp_iload_n xi_156 dX11_keep_4 rfl ?_
    refine wp_iconst 3 xi_156 dX11_keep_5 rfl ?_
    refine wp_icmp_lt 11 xi_156 dX11_keep_6 rfl (fun c2 => ?_) (fun c2 => ?_)
    · rw [if_pos c2] at H
      refine wp_aload_n xi_156 dX11_keep_11 rfl ?_
      obtain ⟨x3, gx3, H⟩ := Option.bind_eq_some_iff.mp H
      refine wq_getfr xi_156 dX11_keep_12 xf_11_37 gx3 ?_
      refine wp_iload_n xi_156 dX11_keep_15 rfl ?_
      obtain ⟨x4, gx4, H⟩ := Option.bind_eq_some_iff.mp H
      refine wq_aaload xi_156 dX11_keep_16 gx4 ?_
      refine wp_aload_n xi_156 dX11_keep_17 rfl ?_
      obtain ⟨x5, gx5, H⟩ := Option.bind_eq_some_iff.mp H
      refine wq_getfr xi_156 dX11_keep_18 xf_11_26 gx5 ?_
      obtain ⟨u6, gu6, H⟩ := Option.bind_eq_some_iff.mp H
      obtain ⟨h7, gh7, H⟩ := Option.bind_eq_some_iff.mp H
      refine wq_callV (a := x4) (as := [.ref x5]) (r := []) (v1 := none) xi_156 xi_71 dX11_keep_21 xm_11_482 rfl (Nat.le_of_ble_eq_true rfl) (pG_ok gu6) ⟨(Nat.le_of_ble_eq_true rfl), (Nat.le_of_ble_eq_true rfl)⟩ rfl nofun (e_71 d _ gh7 ⟨rfl, rfl⟩) ?_
      change Wp _ _ _ _ [] _ _
      refine wp_aload_n xi_156 dX11_keep_24 rfl ?_
      obtain ⟨x8, gx8, H⟩ := Option.bind_eq_some_iff.mp H
      refine wq_getfr xi_156 dX11_keep_25 xf_11_41 gx8 ?_
      refine wp_iload_n xi_156 dX11_keep_28 rfl ?_
      refine wp_iconst 1 xi_156 dX11_keep_29 rfl ?_
      obtain ⟨h9, gh9, H⟩ := Option.bind_eq_some_iff.mp H
      refine wq_bastore xi_156 dX11_keep_30 gh9 ?_
      refine wp_iconst 1 xi_156 dX11_keep_31 rfl ?_
      obtain ⟨gz, hz⟩ := pZ_ok H
      obtain ⟨rfl, rfl⟩ := Prod.mk.inj hz
      exact wp_zret xi_156 dX11_keep_32 gz hq
    · rw [if_neg c2] at H
      refine wp_iconst 0 xi_156 dX11_keep_9 rfl ?_
      obtain ⟨gz, hz⟩ := pZ_ok H
      obtain ⟨rfl, rfl⟩ := Prod.mk.inj hz
      exact wp_zret xi_156 dX11_keep_10 gz hq
/- FelledHasLost.again(I)Z -/
def f_157  (a : Nat) (p0 : Int32) (h : xH) : Option (Int32 × xH) :=
  (if p0 < 0 then
  pZ 0 h
  else
  (if (3 : Int32) ≤ p0 then
  pZ 0 h
  else
  (pFr h a 11 5).bind fun x3 =>
  (pAb h x3 p0).bind fun x4 =>
  (if x4 = 0 then
  pZ 0 h
  else
  (pFr h a 11 2).bind fun x6 =>
  (pFr h a 11 4).bind fun x7 =>
  (pAa h x7 p0).bind fun x8 =>
  (pG (pIs h x6 7)).bind fun _ =>
  (f_71 x6 x8 h).bind fun h10 =>
  (pFr h10 a 11 2).bind fun x11 =>
  (pFr h10 a 11 2).bind fun x12 =>
  (pFi h10 x12 7 1).bind fun x13 =>
  (pG (pIs h10 a 11)).bind fun _ =>
  (f_269 a x13 h10).bind fun (x16, h15) =>
  (pP h15 x11 7 1 (.int x16)).bind fun h17 =>
  (pFr h17 a 11 10).bind fun x18 =>
  (pG (pIs h17 x18 9)).bind fun _ =>
  (f_79 x18 h17).bind fun h20 =>
  (pFr h20 a 11 3).bind fun x21 =>
  (pG (pIs h20 x21 3)).bind fun _ =>
  (f_42 x21 h20).bind fun h23 =>
  pZ 1 h23)))
set_option maxHeartbeats 4000000 in
theorem e_157 (d : Nat) (Q : Option Value → xH → Prop)  {h : xH} {a : Nat} {p0 : Int32} {x : Int32} {h1 : xH} (H : f_157  a p0 h = some (x, h1)) (hq : Q (some (.int x)) h1) : Wp (d + 2) 157 0 [some (.ref a), some (.int p0)] [] h Q := by
  unfold f_157 at H
  refine wp_iload_n xi_157 dX11_again_0 rfl ?_
  refine wp_if_lt 18 xi_157 dX11_again_1 rfl (fun c1 => ?_) (fun c1 => ?_)
  · rw [if_pos c1] at H
    refine wp_iconst 0 xi_157 dX11_again_18 rfl ?_
    obtain ⟨gz, hz⟩ := pZ_ok H
    obtain ⟨rfl, rfl⟩ := Prod.mk.inj hz
    exact wp_zret xi_157 dX11_again_19 gz hq
  · rw [if_neg c1] at H
    refine wp_iload_n xi_157 dX11_again_4 rfl ?_
    refine wp_iconst 3 xi_157 dX11_again_5 rfl ?_
    refine wp_icmp_ge 18 xi_157 dX11_again_6 rfl (fun c2 => ?_) (fun c2 => ?_)
    · rw [if_pos c2] at H
      refine wp_iconst 0 xi_157 dX11_again_18 rfl ?_
      obtain ⟨gz, hz⟩ := pZ_ok H
      obtain ⟨rfl, rfl⟩ := Prod.mk.inj hz
      exact wp_zret xi_157 dX11_again_19 gz hq
    · rw [if_neg c2] at H
      refine wp_aload_n xi_157 dX11_again_9 rfl ?_
      obtain ⟨x3, gx3, H⟩ := Option.bind_eq_some_iff.mp H
      refine wq_getfr xi_157 dX11_again_10 xf_11_41 gx3 ?_
      refine wp_iload_n xi_157 dX11_again_13 rfl ?_
      obtain ⟨x4, gx4, H⟩ := Option.bind_eq_some_iff.mp H
      refine wq_baload xi_157 dX11_again_14 gx4 ?_
      refine wp_if_ne 20 xi_157 dX11_again_15 rfl (fun c5 => ?_) (fun c5 => ?_)
      · rw [if_neg c5] at H
        refine wp_aload_n xi_157 dX11_again_20 rfl ?_
        obtain ⟨x6, gx6, H⟩ := Option.bind_eq_some_iff.mp H
        refine wq_getfr xi_157 dX11_again_21 xf_11_26 gx6 ?_
        refine wp_aload_n xi_157 dX11_again_24 rfl ?_
        obtain ⟨x7, gx7, H⟩ := Option.bind_eq_some_iff.mp H
        refine wq_getfr xi_157 dX11_again_25 xf_11_37 gx7 ?_
        refine wp_iload_n xi_157 dX11_again_28 rfl ?_
        obtain ⟨x8, gx8, H⟩ := Option.bind_eq_some_iff.mp H
        refine wq_aaload xi_157 dX11_again_29 gx8 ?_
        obtain ⟨u9, gu9, H⟩ := Option.bind_eq_some_iff.mp H
        obtain ⟨h10, gh10, H⟩ := Option.bind_eq_some_iff.mp H
        refine wq_callV (a := x6) (as := [.ref x8]) (r := []) (v1 := none) xi_157 xi_71 dX11_again_30 xm_11_482 rfl (Nat.le_of_ble_eq_true rfl) (pG_ok gu9) ⟨(Nat.le_of_ble_eq_true rfl), (Nat.le_of_ble_eq_true rfl)⟩ rfl nofun (e_71 d _ gh10 ⟨rfl, rfl⟩) ?_
        change Wp _ _ _ _ [] _ _
        refine wp_aload_n xi_157 dX11_again_33 rfl ?_
        obtain ⟨x11, gx11, H⟩ := Option.bind_eq_some_iff.mp H
        refine wq_getfr xi_157 dX11_again_34 xf_11_26 gx11 ?_
        refine wp_aload_n xi_157 dX11_again_37 rfl ?_
        refine wp_aload_n xi_157 dX11_again_38 rfl ?_
        obtain ⟨x12, gx12, H⟩ := Option.bind_eq_some_iff.mp H
        refine wq_getfr xi_157 dX11_again_39 xf_11_26 gx12 ?_
        obtain ⟨x13, gx13, H⟩ := Option.bind_eq_some_iff.mp H
        refine wq_getfi xi_157 dX11_again_42 xf_11_159 gx13 ?_
        obtain ⟨u14, gu14, H⟩ := Option.bind_eq_some_iff.mp H
        obtain ⟨⟨x16, h15⟩, gh15, H⟩ := Option.bind_eq_some_iff.mp H
        dsimp only at H
        refine wq_callV (a := a) (as := [.int x13]) (r := [.ref x11]) (v1 := (some (.int x16))) xi_157 xi_269 dX11_again_45 xm_11_277 rfl (Nat.le_of_ble_eq_true rfl) (pG_ok gu14) ⟨(Nat.le_of_ble_eq_true rfl), (Nat.le_of_ble_eq_true rfl)⟩ rfl nofun (e_269 (d + 1) _ gh15 ⟨rfl, rfl⟩) ?_
        change Wp _ _ _ _ [.int x16, .ref x11] _ _
        obtain ⟨h17, gh17, H⟩ := Option.bind_eq_some_iff.mp H
        refine wq_putf xi_157 dX11_again_48 xf_11_159 (Or.inl rfl) gh17 ?_
        refine wp_aload_n xi_157 dX11_again_51 rfl ?_
        obtain ⟨x18, gx18, H⟩ := Option.bind_eq_some_iff.mp H
        refine wq_getfr xi_157 dX11_again_52 xf_11_80 gx18 ?_
        obtain ⟨u19, gu19, H⟩ := Option.bind_eq_some_iff.mp H
        obtain ⟨h20, gh20, H⟩ := Option.bind_eq_some_iff.mp H
        refine wq_callV (a := x18) (as := []) (r := []) (v1 := none) xi_157 xi_79 dX11_again_55 xm_11_142 rfl (Nat.le_of_ble_eq_true rfl) (pG_ok gu19) ⟨(Nat.le_of_ble_eq_true rfl), (Nat.le_of_ble_eq_true rfl)⟩ rfl nofun (e_79 d _ gh20 ⟨rfl, rfl⟩) ?_
        change Wp _ _ _ _ [] _ _
        refine wp_aload_n xi_157 dX11_again_58 rfl ?_
        obtain ⟨x21, gx21, H⟩ := Option.bind_eq_some_iff.mp H
        refine wq_getfr xi_157 dX11_again_59 xf_11_33 gx21 ?_
        obtain ⟨u22, gu22, H⟩ := Option.bind_eq_some_iff.mp H
        obtain ⟨h23, gh23, H⟩ := Option.bind_eq_some_iff.mp H
        refine wq_callV (a := x21) (as := []) (r := []) (v1 := none) xi_157 xi_42 dX11_again_62 xm_11_145 rfl (Nat.le_of_ble_eq_true rfl) (pG_ok gu22) ⟨(Nat.le_of_ble_eq_true rfl), (Nat.le_of_ble_eq_true rfl)⟩ rfl nofun (e_42 (d + 1) _ gh23 ⟨rfl, rfl⟩) ?_
        change Wp _ _ _ _ [] _ _
        refine wp_iconst 1 xi_157 dX11_again_65 rfl ?_
        obtain ⟨gz, hz⟩ := pZ_ok H
        obtain ⟨rfl, rfl⟩ := Prod.mk.inj hz
        exact wp_zret xi_157 dX11_again_66 gz hq
      · rw [if_pos c5] at H
        refine wp_iconst 0 xi_157 dX11_again_18 rfl ?_
        obtain ⟨gz, hz⟩ := pZ_ok H
        obtain ⟨rfl, rfl⟩ := Prod.mk.inj hz
        exact wp_zret xi_157 dX11_again_19 gz hq
/- FelledHasLostModel.tower()I -/
def f_179_24  : Nat → Nat → Int32 → Int32 → xH → Option ((Int32 × xH) ⊕ (Int32 × xH))
  | 0, _, _, _, _ => none
  | n + 1, a0, a2, a3, h =>
  (if a3 = 0 then
  some (.inl (a2, h))
  else
  (pG (pIs h a0 12)).bind fun _ =>
  (f_178 a0 a2 h).bind fun (x4, h3) =>
  (if x4 = 0 then
  (pFi h3 a0 12 11).bind fun x9 =>
  some (.inr (((-1) - x9), h3))
  else
  (pG (pIs h3 a0 12)).bind fun _ =>
  (f_174 a0 47 h3).bind fun (x8, h7) =>
  f_179_24 n a0 (a2 + 1) x8 h7))
theorem ef_179_24 (d : Nat) (Q : Option Value → xH → Prop)  : ∀ (n : Nat) (a0 : Nat) (a2 : Int32) (a3 : Int32) (h : xH) (r : (Int32 × xH) ⊕ (Int32 × xH)), f_179_24 n a0 a2 a3 h = some r → (∀ (w2 : Int32) (h1 : xH), r = .inl (w2, h1) → Wp (d + 3) 179 56 [some (.ref a0), none, some (.int w2), none, none] [] h1 Q) → (∀ (x : Int32) (h1 : xH), r = .inr (x, h1) → Q (some (.int x)) h1) → Wp (d + 3) 179 24 [some (.ref a0), none, some (.int a2), some (.int a3), none] [] h Q := by
  intro n
  induction n with
  | zero =>
    intro a0 a2 a3 h r H
    cases H
  | succ n ih =>
    intro a0 a2 a3 h r H KE KR
    unfold f_179_24 at H
    refine wp_iload_n xi_179 dX12_tower_24 rfl ?_
    refine wp_if_eq 56 xi_179 dX12_tower_25 rfl (fun c1 => ?_) (fun c1 => ?_)
    · rw [if_pos c1] at H
      obtain rfl := Option.some.inj H
      exact Wp.more (by simp [xMore, Value.category]) (KE a2 h rfl)
    · rw [if_neg c1] at H
      refine wp_aload_n xi_179 dX12_tower_28 rfl ?_
      refine wp_iload_n xi_179 dX12_tower_29 rfl ?_
      obtain ⟨u2, gu2, H⟩ := Option.bind_eq_some_iff.mp H
      obtain ⟨⟨x4, h3⟩, gh3, H⟩ := Option.bind_eq_some_iff.mp H
      dsimp only at H
      refine wq_callV (a := a0) (as := [.int a2]) (r := []) (v1 := (some (.int x4))) xi_179 xi_178 dX12_tower_30 xm_12_182 rfl (Nat.le_of_ble_eq_true rfl) (pG_ok gu2) ⟨(Nat.le_of_ble_eq_true rfl), (Nat.le_of_ble_eq_true rfl)⟩ rfl nofun (e_178 d _ gh3 ⟨rfl, rfl⟩) ?_
      change Wp _ _ _ _ [.int x4] _ _
      refine wp_if_ne 43 xi_179 dX12_tower_33 rfl (fun c5 => ?_) (fun c5 => ?_)
      · rw [if_neg c5] at H
        refine wp_iinc (a2 + 1) [some (.ref a0), none, some (.int (a2 + 1)), some (.int a3), none] xi_179 dX12_tower_43 rfl rfl rfl ?_
        refine wp_aload_n xi_179 dX12_tower_46 rfl ?_
        refine wp_bipush 47 xi_179 dX12_tower_47 rfl ?_
        obtain ⟨u6, gu6, H⟩ := Option.bind_eq_some_iff.mp H
        obtain ⟨⟨x8, h7⟩, gh7, H⟩ := Option.bind_eq_some_iff.mp H
        dsimp only at H
        refine wq_callV (a := a0) (as := [.int 47]) (r := []) (v1 := (some (.int x8))) xi_179 xi_174 dX12_tower_49 xm_12_186 rfl (Nat.le_of_ble_eq_true rfl) (pG_ok gu6) ⟨(Nat.le_of_ble_eq_true rfl), (Nat.le_of_ble_eq_true rfl)⟩ rfl nofun (e_174 (d + 1) _ gh7 ⟨rfl, rfl⟩) ?_
        change Wp _ _ _ _ [.int x8] _ _
        refine wp_istore_n [some (.ref a0), none, some (.int (a2 + 1)), some (.int x8), none] xi_179 dX12_tower_52 rfl ?_
        refine wp_goto 24 xi_179 dX12_tower_53 rfl ?_
        exact Wp.more (by simp [xMore, Value.category]) (ih a0 (a2 + 1) x8 h7 _ H KE KR)
      · rw [if_pos c5] at H
        refine wp_iconst (-1) xi_179 dX12_tower_36 rfl ?_
        refine wp_aload_n xi_179 dX12_tower_37 rfl ?_
        obtain ⟨x9, gx9, H⟩ := Option.bind_eq_some_iff.mp H
        refine wq_getfi xi_179 dX12_tower_38 xf_12_146 gx9 ?_
        refine wp_isub xi_179 dX12_tower_41 ?_
        obtain rfl := Option.some.inj H
        exact wp_iret xi_179 dX12_tower_42 (KR _ _ rfl)
def f_179_84  : Nat → Nat → Int32 → Int32 → xH → Option (xH)
  | 0, _, _, _, _ => none
  | n + 1, a0, a2, a4, h =>
  (if (3 * a2) ≤ a4 then
  some (h)
  else
  (pFr h a0 12 3).bind fun x2 =>
  (pFr h a0 12 14).bind fun x3 =>
  (pAi h x3 a4).bind fun x4 =>
  (pSi h x2 a4 x4).bind fun h5 =>
  f_179_84 n a0 a2 (a4 + 1) h5)
theorem ef_179_84 (d : Nat) (Q : Option Value → xH → Prop)  : ∀ (n : Nat) (a0 : Nat) (a2 : Int32) (a4 : Int32) (h : xH) (r : xH), f_179_84 n a0 a2 a4 h = some r → (∀  (h1 : xH), r = h1 → Wp (d + 3) 179 112 [some (.ref a0), none, some (.int a2), none, none] [] h1 Q) → Wp (d + 3) 179 84 [some (.ref a0), none, some (.int a2), none, some (.int a4)] [] h Q := by
  intro n
  induction n with
  | zero =>
    intro a0 a2 a4 h r H
    cases H
  | succ n ih =>
    intro a0 a2 a4 h r H KE
    unfold f_179_84 at H
    refine wp_iload xi_179 dX12_tower_84 rfl ?_
    refine wp_iconst 3 xi_179 dX12_tower_86 rfl ?_
    refine wp_iload_n xi_179 dX12_tower_87 rfl ?_
    refine wp_imul xi_179 dX12_tower_88 ?_
    refine wp_icmp_ge 112 xi_179 dX12_tower_89 rfl (fun c1 => ?_) (fun c1 => ?_)
    · rw [if_pos c1] at H
      obtain rfl := Option.some.inj H
      exact Wp.more (by simp [xMore, Value.category]) (KE  h rfl)
    · rw [if_neg c1] at H
      refine wp_aload_n xi_179 dX12_tower_92 rfl ?_
      obtain ⟨x2, gx2, H⟩ := Option.bind_eq_some_iff.mp H
      refine wq_getfr xi_179 dX12_tower_93 xf_12_24 gx2 ?_
      refine wp_iload xi_179 dX12_tower_96 rfl ?_
      refine wp_aload_n xi_179 dX12_tower_98 rfl ?_
      obtain ⟨x3, gx3, H⟩ := Option.bind_eq_some_iff.mp H
      refine wq_getfr xi_179 dX12_tower_99 xf_12_40 gx3 ?_
      refine wp_iload xi_179 dX12_tower_102 rfl ?_
      obtain ⟨x4, gx4, H⟩ := Option.bind_eq_some_iff.mp H
      refine wq_iaload xi_179 dX12_tower_104 gx4 ?_
      obtain ⟨h5, gh5, H⟩ := Option.bind_eq_some_iff.mp H
      refine wq_iastore xi_179 dX12_tower_105 gh5 ?_
      refine wp_iinc (a4 + 1) [some (.ref a0), none, some (.int a2), none, some (.int (a4 + 1))] xi_179 dX12_tower_106 rfl rfl rfl ?_
      refine wp_goto 84 xi_179 dX12_tower_109 rfl ?_
      exact Wp.more (by simp [xMore, Value.category]) (ih a0 a2 (a4 + 1) h5 _ H KE)
def f_179  (a : Nat) (h : xH) : Option (Int32 × xH) :=
  (pP h a 12 0 (.int 0)).bind fun h1 =>
  (pG (pIs h1 a 12)).bind fun _ =>
  (f_173 a 80 h1).bind fun (x4, h3) =>
  ((if x4 ≤ 0 then
  some (0)
  else
  some (1) : Option (Int32))).bind fun (w6 : Int32) =>
  (f_179_24 100000 a 0 w6 h3).bind fun r12 => match r12 with
  | .inl (w9, h8) =>
  (pFi h8 a 12 11).bind fun x13 =>
  (pFi h8 a 12 12).bind fun x14 =>
  (if x14 ≤ x13 then
  (pFr h8 a 12 3).bind fun x16 =>
  (f_167 x16 h8).bind fun h17 =>
  (f_179_84 100000 a w9 0 h17).bind fun h18 =>
  (pFr h18 a 12 3).bind fun x21 =>
  (pSi h18 x21 48 w9).bind fun h22 =>
  (pG (pIs h22 a 12)).bind fun _ =>
  (f_245 a h22).bind fun (x25, h24) =>
  (pP h24 a 12 28 (.int 0)).bind fun h26 =>
  some (w9, h26)
  else
  (pFi h8 a 12 11).bind fun x27 =>
  some (((-1) - x27), h8))
  | .inr (x28, h29) => some (x28, h29)
set_option maxHeartbeats 4000000 in
theorem e_179 (d : Nat) (Q : Option Value → xH → Prop)  {h : xH} {a : Nat} {x : Int32} {h1 : xH} (H : f_179  a h = some (x, h1)) (hq : Q (some (.int x)) h1) : Wp (d + 3) 179 0 [some (.ref a), none, none, none, none] [] h Q := by
  unfold f_179 at H
  refine wp_aload_n xi_179 dX12_tower_0 rfl ?_
  refine wp_iconst 0 xi_179 dX12_tower_1 rfl ?_
  obtain ⟨h1, gh1, H⟩ := Option.bind_eq_some_iff.mp H
  refine wq_putf xi_179 dX12_tower_2 xf_12_3 (Or.inl rfl) gh1 ?_
  refine wp_aload_n xi_179 dX12_tower_5 rfl ?_
  refine wp_bipush 80 xi_179 dX12_tower_6 rfl ?_
  obtain ⟨u2, gu2, H⟩ := Option.bind_eq_some_iff.mp H
  obtain ⟨⟨x4, h3⟩, gh3, H⟩ := Option.bind_eq_some_iff.mp H
  dsimp only at H
  refine wq_callV (a := a) (as := [.int 80]) (r := []) (v1 := (some (.int x4))) xi_179 xi_173 dX12_tower_8 xm_12_178 rfl (Nat.le_of_ble_eq_true rfl) (pG_ok gu2) ⟨(Nat.le_of_ble_eq_true rfl), (Nat.le_of_ble_eq_true rfl)⟩ rfl nofun (e_173 (d + 2) _ gh3 ⟨rfl, rfl⟩) ?_
  change Wp _ _ _ _ [.int x4] _ _
  refine wp_istore_n [some (.ref a), some (.int x4), none, none, none] xi_179 dX12_tower_11 rfl ?_
  refine wp_iconst 0 xi_179 dX12_tower_12 rfl ?_
  refine wp_istore_n [some (.ref a), some (.int x4), some (.int 0), none, none] xi_179 dX12_tower_13 rfl ?_
  refine wp_iload_n xi_179 dX12_tower_14 rfl ?_
  obtain ⟨w6, G30, H⟩ := Option.bind_eq_some_iff.mp H
  have K7 : Wp (d + 3) 179 23 [some (.ref a), some (.int x4), some (.int 0), none, none] [.int w6] h3 Q := by
    refine wp_istore_n [some (.ref a), some (.int x4), some (.int 0), some (.int w6), none] xi_179 dX12_tower_23 rfl ?_
    obtain ⟨r12, G10, H⟩ := Option.bind_eq_some_iff.mp H
    refine Wp.more (by simp [xMore, Value.category]) (ef_179_24 d Q  100000 a 0 w6 h3 _ G10 (fun z0 z1 e9 => ?_) (fun x1 h1 e9 => ?_))
    · subst e9
      dsimp only at H
      obtain ⟨w9, rfl⟩ : ∃ z, z = z0 := ⟨_, rfl⟩; obtain ⟨h8, rfl⟩ : ∃ z, z = z1 := ⟨_, rfl⟩
      refine wp_aload_n xi_179 dX12_tower_56 rfl ?_
      obtain ⟨x13, gx13, H⟩ := Option.bind_eq_some_iff.mp H
      refine wq_getfi xi_179 dX12_tower_57 xf_12_146 gx13 ?_
      refine wp_aload_n xi_179 dX12_tower_60 rfl ?_
      obtain ⟨x14, gx14, H⟩ := Option.bind_eq_some_iff.mp H
      refine wq_getfi xi_179 dX12_tower_61 xf_12_158 gx14 ?_
      refine wp_icmp_ge 74 xi_179 dX12_tower_64 rfl (fun c15 => ?_) (fun c15 => ?_)
      · rw [if_pos c15] at H
        refine wp_aload_n xi_179 dX12_tower_74 rfl ?_
        obtain ⟨x16, gx16, H⟩ := Option.bind_eq_some_iff.mp H
        refine wq_getfr xi_179 dX12_tower_75 xf_12_24 gx16 ?_
        obtain ⟨h17, gh17, H⟩ := Option.bind_eq_some_iff.mp H
        refine wq_callS (as := [.ref x16]) (r := []) (v1 := none) xi_179 xi_167 dX12_tower_78 xm_12_125 rfl (Nat.le_of_ble_eq_true rfl) ⟨(Nat.le_of_ble_eq_true rfl), (Nat.le_of_ble_eq_true rfl)⟩ rfl nofun (e_167 (d + 2) _ gh17 ⟨rfl, rfl⟩) ?_
        change Wp _ _ _ _ [] _ _
        refine wp_iconst 0 xi_179 dX12_tower_81 rfl ?_
        refine wp_istore [some (.ref a), none, some (.int w9), none, some (.int 0)] xi_179 dX12_tower_82 rfl ?_
        obtain ⟨h18, G19, H⟩ := Option.bind_eq_some_iff.mp H
        refine Wp.more (by simp [xMore, Value.category]) (ef_179_84 d Q  100000 a w9 0 h17 _ G19 (fun z0 e9 => ?_))
        cases e9
        refine wp_aload_n xi_179 dX12_tower_112 rfl ?_
        obtain ⟨x21, gx21, H⟩ := Option.bind_eq_some_iff.mp H
        refine wq_getfr xi_179 dX12_tower_113 xf_12_24 gx21 ?_
        refine wp_bipush 48 xi_179 dX12_tower_116 rfl ?_
        refine wp_iload_n xi_179 dX12_tower_118 rfl ?_
        obtain ⟨h22, gh22, H⟩ := Option.bind_eq_some_iff.mp H
        refine wq_iastore xi_179 dX12_tower_119 gh22 ?_
        refine wp_aload_n xi_179 dX12_tower_120 rfl ?_
        obtain ⟨u23, gu23, H⟩ := Option.bind_eq_some_iff.mp H
        obtain ⟨⟨x25, h24⟩, gh24, H⟩ := Option.bind_eq_some_iff.mp H
        dsimp only at H
        refine wq_callV (a := a) (as := []) (r := []) (v1 := (some (.int x25))) xi_179 xi_245 dX12_tower_121 xm_12_129 rfl (Nat.le_of_ble_eq_true rfl) (pG_ok gu23) ⟨(Nat.le_of_ble_eq_true rfl), (Nat.le_of_ble_eq_true rfl)⟩ rfl nofun (e_245 (d + 2) _ gh24 ⟨rfl, rfl⟩) ?_
        change Wp _ _ _ _ [.int x25] _ _
        refine wp_pop xi_179 dX12_tower_124 rfl ?_
        refine wp_aload_n xi_179 dX12_tower_125 rfl ?_
        refine wp_iconst 0 xi_179 dX12_tower_126 rfl ?_
        obtain ⟨h26, gh26, H⟩ := Option.bind_eq_some_iff.mp H
        refine wq_putf xi_179 dX12_tower_127 xf_12_189 (Or.inl rfl) gh26 ?_
        refine wp_iload_n xi_179 dX12_tower_130 rfl ?_
        obtain ⟨rfl, rfl⟩ := oi2 H
        exact wp_iret xi_179 dX12_tower_131 hq
      · rw [if_neg c15] at H
        refine wp_iconst (-1) xi_179 dX12_tower_67 rfl ?_
        refine wp_aload_n xi_179 dX12_tower_68 rfl ?_
        obtain ⟨x27, gx27, H⟩ := Option.bind_eq_some_iff.mp H
        refine wq_getfi xi_179 dX12_tower_69 xf_12_146 gx27 ?_
        refine wp_isub xi_179 dX12_tower_72 ?_
        obtain ⟨rfl, rfl⟩ := oi2 H
        exact wp_iret xi_179 dX12_tower_73 hq
    · subst e9
      dsimp only at H
      obtain ⟨rfl, rfl⟩ := oi2 H
      exact hq
  clear H
  have H := G30
  clear G30
  refine wp_if_le 22 xi_179 dX12_tower_15 rfl (fun c5 => ?_) (fun c5 => ?_)
  · rw [if_pos c5] at H
    refine wp_iconst 0 xi_179 dX12_tower_22 rfl ?_
    obtain rfl := Option.some.inj H
    exact Wp.more (by simp [xMore, Value.category]) K7
  · rw [if_neg c5] at H
    refine wp_iconst 1 xi_179 dX12_tower_18 rfl ?_
    refine wp_goto 23 xi_179 dX12_tower_19 rfl ?_
    obtain rfl := Option.some.inj H
    exact Wp.more (by simp [xMore, Value.category]) K7
/- FelledHasLostModel.loose()I -/
def f_198_30  : Nat → Nat → Int32 → Int32 → Int32 → Int32 → xH → Option (Int32 × xH)
  | 0, _, _, _, _, _, _ => none
  | n + 1, a0, a1, a2, a3, a4, h =>
  (if (3 : Int32) ≤ a4 then
  some (a3, h)
  else
  (pFr h a0 12 3).bind fun x2 =>
  (pAi h x2 ((3 * a2) + a4)).bind fun x3 =>
  ((if x3 < 0 then
  some (0)
  else
  some ((1 <<< (a4 &&& 31))) : Option (Int32))).bind fun (w5 : Int32) =>
  f_198_30 n a0 a1 a2 (a3 ||| w5) (a4 + 1) h)
theorem ef_198_30 (d : Nat) (Q : Option Value → xH → Prop)  : ∀ (n : Nat) (a0 : Nat) (a1 : Int32) (a2 : Int32) (a3 : Int32) (a4 : Int32) (h : xH) (r : Int32 × xH), f_198_30 n a0 a1 a2 a3 a4 h = some r → (∀ (w3 : Int32) (h1 : xH), r = (w3, h1) → Wp (d + 1) 198 67 [some (.ref a0), some (.int a1), some (.int a2), some (.int w3), none] [] h1 Q) → Wp (d + 1) 198 30 [some (.ref a0), some (.int a1), some (.int a2), some (.int a3), some (.int a4)] [] h Q := by
  intro n
  induction n with
  | zero =>
    intro a0 a1 a2 a3 a4 h r H
    cases H
  | succ n ih =>
    intro a0 a1 a2 a3 a4 h r H KE
    unfold f_198_30 at H
    refine wp_iload xi_198 dX12_loose_30 rfl ?_
    refine wp_iconst 3 xi_198 dX12_loose_32 rfl ?_
    refine wp_icmp_ge 67 xi_198 dX12_loose_33 rfl (fun c1 => ?_) (fun c1 => ?_)
    · rw [if_pos c1] at H
      obtain rfl := Option.some.inj H
      exact Wp.more (by simp [xMore, Value.category]) (KE a3 h rfl)
    · rw [if_neg c1] at H
      refine wp_iload_n xi_198 dX12_loose_36 rfl ?_
      refine wp_aload_n xi_198 dX12_loose_37 rfl ?_
      obtain ⟨x2, gx2, H⟩ := Option.bind_eq_some_iff.mp H
      refine wq_getfr xi_198 dX12_loose_38 xf_12_24 gx2 ?_
      refine wp_iconst 3 xi_198 dX12_loose_41 rfl ?_
      refine wp_iload_n xi_198 dX12_loose_42 rfl ?_
      refine wp_imul xi_198 dX12_loose_43 ?_
      refine wp_iload xi_198 dX12_loose_44 rfl ?_
      refine wp_iadd xi_198 dX12_loose_46 ?_
      obtain ⟨x3, gx3, H⟩ := Option.bind_eq_some_iff.mp H
      refine wq_iaload xi_198 dX12_loose_47 gx3 ?_
      obtain ⟨w5, G7, H⟩ := Option.bind_eq_some_iff.mp H
      have K6 : Wp (d + 1) 198 59 [some (.ref a0), some (.int a1), some (.int a2), some (.int a3), some (.int a4)] [.int w5, .int a3] h Q := by
        refine wp_ior xi_198 dX12_loose_59 ?_
        refine wp_istore_n [some (.ref a0), some (.int a1), some (.int a2), some (.int (a3 ||| w5)), some (.int a4)] xi_198 dX12_loose_60 rfl ?_
        refine wp_iinc (a4 + 1) [some (.ref a0), some (.int a1), some (.int a2), some (.int (a3 ||| w5)), some (.int (a4 + 1))] xi_198 dX12_loose_61 rfl rfl rfl ?_
        refine wp_goto 30 xi_198 dX12_loose_64 rfl ?_
        exact Wp.more (by simp [xMore, Value.category]) (ih a0 a1 a2 (a3 ||| w5) (a4 + 1) h _ H KE)
      clear H
      have H := G7
      clear G7
      refine wp_if_lt 58 xi_198 dX12_loose_48 rfl (fun c4 => ?_) (fun c4 => ?_)
      · rw [if_pos c4] at H
        refine wp_iconst 0 xi_198 dX12_loose_58 rfl ?_
        obtain rfl := Option.some.inj H
        exact Wp.more (by simp [xMore, Value.category]) K6
      · rw [if_neg c4] at H
        refine wp_iconst 1 xi_198 dX12_loose_51 rfl ?_
        refine wp_iload xi_198 dX12_loose_52 rfl ?_
        refine wp_ishl xi_198 dX12_loose_54 ?_
        refine wp_goto 59 xi_198 dX12_loose_55 rfl ?_
        obtain rfl := Option.some.inj H
        exact Wp.more (by simp [xMore, Value.category]) K6
def f_198_14  : Nat → Nat → Int32 → Int32 → xH → Option (Int32 × xH)
  | 0, _, _, _, _ => none
  | n + 1, a0, a1, a2, h =>
  (pFr h a0 12 3).bind fun x1 =>
  (pAi h x1 48).bind fun x2 =>
  (if x2 ≤ a2 then
  some (a1, h)
  else
  (f_198_30 100000 a0 a1 a2 0 0 h).bind fun (w5, h4) =>
  (pFr h4 a0 12 3).bind fun x8 =>
  (f_185 x8 a2 h4).bind fun (x10, h9) =>
  (f_267 (w5 &&& (x10 ^^^ (-1))) h9).bind fun (x12, h11) =>
  (pG (pIs h11 a0 12)).bind fun _ =>
  (f_165 a0 (((w5 &&& (x10 ^^^ (-1))) : Int32).toInt64) h11).bind fun h14 =>
  f_198_14 n a0 (a1 + x12) (a2 + 1) h14)
theorem ef_198_14 (d : Nat) (Q : Option Value → xH → Prop)  : ∀ (n : Nat) (a0 : Nat) (a1 : Int32) (a2 : Int32) (h : xH) (r : Int32 × xH), f_198_14 n a0 a1 a2 h = some r → (∀ (w1 : Int32) (h1 : xH), r = (w1, h1) → Wp (d + 1) 198 99 [none, some (.int w1), none, none, none] [] h1 Q) → Wp (d + 1) 198 14 [some (.ref a0), some (.int a1), some (.int a2), none, none] [] h Q := by
  intro n
  induction n with
  | zero =>
    intro a0 a1 a2 h r H
    cases H
  | succ n ih =>
    intro a0 a1 a2 h r H KE
    unfold f_198_14 at H
    refine wp_iload_n xi_198 dX12_loose_14 rfl ?_
    refine wp_aload_n xi_198 dX12_loose_15 rfl ?_
    obtain ⟨x1, gx1, H⟩ := Option.bind_eq_some_iff.mp H
    refine wq_getfr xi_198 dX12_loose_16 xf_12_24 gx1 ?_
    refine wp_bipush 48 xi_198 dX12_loose_19 rfl ?_
    obtain ⟨x2, gx2, H⟩ := Option.bind_eq_some_iff.mp H
    refine wq_iaload xi_198 dX12_loose_21 gx2 ?_
    refine wp_icmp_ge 99 xi_198 dX12_loose_22 rfl (fun c3 => ?_) (fun c3 => ?_)
    · rw [if_pos c3] at H
      obtain rfl := Option.some.inj H
      exact Wp.more (by simp [xMore, Value.category]) (KE a1 h rfl)
    · rw [if_neg c3] at H
      refine wp_iconst 0 xi_198 dX12_loose_25 rfl ?_
      refine wp_istore_n [some (.ref a0), some (.int a1), some (.int a2), some (.int 0), none] xi_198 dX12_loose_26 rfl ?_
      refine wp_iconst 0 xi_198 dX12_loose_27 rfl ?_
      refine wp_istore [some (.ref a0), some (.int a1), some (.int a2), some (.int 0), some (.int 0)] xi_198 dX12_loose_28 rfl ?_
      obtain ⟨⟨w5, h4⟩, G6, H⟩ := Option.bind_eq_some_iff.mp H
      dsimp only at H
      refine Wp.more (by simp [xMore, Value.category]) (ef_198_30 d Q  100000 a0 a1 a2 0 0 h _ G6 (fun z0 z1 e9 => ?_))
      cases e9
      refine wp_iload_n xi_198 dX12_loose_67 rfl ?_
      refine wp_aload_n xi_198 dX12_loose_68 rfl ?_
      obtain ⟨x8, gx8, H⟩ := Option.bind_eq_some_iff.mp H
      refine wq_getfr xi_198 dX12_loose_69 xf_12_24 gx8 ?_
      refine wp_iload_n xi_198 dX12_loose_72 rfl ?_
      obtain ⟨⟨x10, h9⟩, gh9, H⟩ := Option.bind_eq_some_iff.mp H
      dsimp only at H
      refine wq_callS (as := [.ref x8, .int a2]) (r := [.int w5]) (v1 := (some (.int x10))) xi_198 xi_185 dX12_loose_73 xm_12_227 rfl (Nat.le_of_ble_eq_true rfl) ⟨(Nat.le_of_ble_eq_true rfl), (Nat.le_of_ble_eq_true rfl)⟩ rfl nofun (e_185 d _ gh9 ⟨rfl, rfl⟩) ?_
      change Wp _ _ _ _ [.int x10, .int w5] _ _
      refine wp_iconst (-1) xi_198 dX12_loose_76 rfl ?_
      refine wp_ixor xi_198 dX12_loose_77 ?_
      refine wp_iand xi_198 dX12_loose_78 ?_
      refine wp_istore_n [some (.ref a0), some (.int a1), some (.int a2), some (.int (w5 &&& (x10 ^^^ (-1)))), none] xi_198 dX12_loose_79 rfl ?_
      refine wp_iload_n xi_198 dX12_loose_80 rfl ?_
      refine wp_iload_n xi_198 dX12_loose_81 rfl ?_
      obtain ⟨⟨x12, h11⟩, gh11, H⟩ := Option.bind_eq_some_iff.mp H
      dsimp only at H
      refine wq_callS (as := [.int (w5 &&& (x10 ^^^ (-1)))]) (r := [.int a1]) (v1 := (some (.int x12))) xi_198 xi_267 dX12_loose_82 xm_12_283 rfl (Nat.le_of_ble_eq_true rfl) ⟨(Nat.le_of_ble_eq_true rfl), (Nat.le_of_ble_eq_true rfl)⟩ rfl nofun (e_267 d _ gh11 ⟨rfl, rfl⟩) ?_
      change Wp _ _ _ _ [.int x12, .int a1] _ _
      refine wp_iadd xi_198 dX12_loose_85 ?_
      refine wp_istore_n [some (.ref a0), some (.int (a1 + x12)), some (.int a2), some (.int (w5 &&& (x10 ^^^ (-1)))), none] xi_198 dX12_loose_86 rfl ?_
      refine wp_aload_n xi_198 dX12_loose_87 rfl ?_
      refine wp_iload_n xi_198 dX12_loose_88 rfl ?_
      refine wp_i2l xi_198 dX12_loose_89 ?_
      obtain ⟨u13, gu13, H⟩ := Option.bind_eq_some_iff.mp H
      obtain ⟨h14, gh14, H⟩ := Option.bind_eq_some_iff.mp H
      refine wq_callV (a := a0) (as := [.long (((w5 &&& (x10 ^^^ (-1))) : Int32).toInt64)]) (r := []) (v1 := none) xi_198 xi_165 dX12_loose_90 xm_12_279 rfl (Nat.le_of_ble_eq_true rfl) (pG_ok gu13) ⟨(Nat.le_of_ble_eq_true rfl), (Nat.le_of_ble_eq_true rfl)⟩ rfl nofun (e_165 d _ gh14 ⟨rfl, rfl⟩) ?_
      change Wp _ _ _ _ [] _ _
      refine wp_iinc (a2 + 1) [some (.ref a0), some (.int (a1 + x12)), some (.int (a2 + 1)), some (.int (w5 &&& (x10 ^^^ (-1)))), none] xi_198 dX12_loose_93 rfl rfl rfl ?_
      refine wp_goto 14 xi_198 dX12_loose_96 rfl ?_
      exact Wp.more (by simp [xMore, Value.category]) (ih a0 (a1 + x12) (a2 + 1) h14 _ H KE)
def f_198  (a : Nat) (h : xH) : Option (Int32 × xH) :=
  (pP h a 12 0 (.int 0)).bind fun h1 =>
  (pP h1 a 12 1 (.int 0)).bind fun h2 =>
  (f_198_14 100000 a 0 0 h2).bind fun (w4, h3) =>
  some (w4, h3)
set_option maxHeartbeats 4000000 in
theorem e_198 (d : Nat) (Q : Option Value → xH → Prop)  {h : xH} {a : Nat} {x : Int32} {h1 : xH} (H : f_198  a h = some (x, h1)) (hq : Q (some (.int x)) h1) : Wp (d + 1) 198 0 [some (.ref a), none, none, none, none] [] h Q := by
  unfold f_198 at H
  refine wp_aload_n xi_198 dX12_loose_0 rfl ?_
  refine wp_iconst 0 xi_198 dX12_loose_1 rfl ?_
  obtain ⟨h1, gh1, H⟩ := Option.bind_eq_some_iff.mp H
  refine wq_putf xi_198 dX12_loose_2 xf_12_3 (Or.inl rfl) gh1 ?_
  refine wp_iconst 0 xi_198 dX12_loose_5 rfl ?_
  refine wp_istore_n [some (.ref a), some (.int 0), none, none, none] xi_198 dX12_loose_6 rfl ?_
  refine wp_aload_n xi_198 dX12_loose_7 rfl ?_
  refine wp_iconst 0 xi_198 dX12_loose_8 rfl ?_
  obtain ⟨h2, gh2, H⟩ := Option.bind_eq_some_iff.mp H
  refine wq_putf xi_198 dX12_loose_9 xf_12_15 (Or.inl rfl) gh2 ?_
  refine wp_iconst 0 xi_198 dX12_loose_12 rfl ?_
  refine wp_istore_n [some (.ref a), some (.int 0), some (.int 0), none, none] xi_198 dX12_loose_13 rfl ?_
  obtain ⟨⟨w4, h3⟩, G5, H⟩ := Option.bind_eq_some_iff.mp H
  dsimp only at H
  refine Wp.more (by simp [xMore, Value.category]) (ef_198_14 d Q  100000 a 0 0 h2 _ G5 (fun z0 z1 e9 => ?_))
  cases e9
  refine wp_iload_n xi_198 dX12_loose_99 rfl ?_
  obtain ⟨rfl, rfl⟩ := oi2 H
  exact wp_iret xi_198 dX12_loose_100 hq
/- FelledHasLostModel.slotOf([I)I -/
def f_225_7  : Nat → Nat → Nat → Int64 → Int32 → xH → Option (Int64 × xH)
  | 0, _, _, _, _, _ => none
  | n + 1, a0, a1, a2, a4, h =>
  (if (48 : Int32) ≤ a4 then
  some (a2, h)
  else
  (pAi h a1 a4).bind fun x2 =>
  f_225_7 n a0 a1 (((a2 * (31 : Int64)) + ((x2 : Int32).toInt64)) + (1 : Int64)) (a4 + 1) h)
theorem ef_225_7 (d : Nat) (Q : Option Value → xH → Prop)  : ∀ (n : Nat) (a0 : Nat) (a1 : Nat) (a2 : Int64) (a4 : Int32) (h : xH) (r : Int64 × xH), f_225_7 n a0 a1 a2 a4 h = some r → (∀ (w2 : Int64) (h1 : xH), r = (w2, h1) → Wp (d + 1) 225 34 [some (.ref a0), some (.ref a1), some (.long w2), none, none] [] h1 Q) → Wp (d + 1) 225 7 [some (.ref a0), some (.ref a1), some (.long a2), none, some (.int a4)] [] h Q := by
  intro n
  induction n with
  | zero =>
    intro a0 a1 a2 a4 h r H
    cases H
  | succ n ih =>
    intro a0 a1 a2 a4 h r H KE
    unfold f_225_7 at H
    refine wp_iload xi_225 dX12_slotOf_7 rfl ?_
    refine wp_bipush 48 xi_225 dX12_slotOf_9 rfl ?_
    refine wp_icmp_ge 34 xi_225 dX12_slotOf_11 rfl (fun c1 => ?_) (fun c1 => ?_)
    · rw [if_pos c1] at H
      obtain rfl := Option.some.inj H
      exact Wp.more (by simp [xMore, Value.category]) (KE a2 h rfl)
    · rw [if_neg c1] at H
      refine wp_lload_n xi_225 dX12_slotOf_14 rfl ?_
      refine wp_ldc2 xi_225 dX12_slotOf_15 xl_12_347 ?_
      refine wp_lmul xi_225 dX12_slotOf_18 ?_
      refine wp_aload_n xi_225 dX12_slotOf_19 rfl ?_
      refine wp_iload xi_225 dX12_slotOf_20 rfl ?_
      obtain ⟨x2, gx2, H⟩ := Option.bind_eq_some_iff.mp H
      refine wq_iaload xi_225 dX12_slotOf_22 gx2 ?_
      refine wp_i2l xi_225 dX12_slotOf_23 ?_
      refine wp_ladd xi_225 dX12_slotOf_24 ?_
      refine wp_lconst 1 xi_225 dX12_slotOf_25 rfl ?_
      refine wp_ladd xi_225 dX12_slotOf_26 ?_
      refine wp_lstore_n [some (.ref a0), some (.ref a1), some (.long (((a2 * (31 : Int64)) + ((x2 : Int32).toInt64)) + (1 : Int64))), none, some (.int a4)] xi_225 dX12_slotOf_27 rfl ?_
      refine wp_iinc (a4 + 1) [some (.ref a0), some (.ref a1), some (.long (((a2 * (31 : Int64)) + ((x2 : Int32).toInt64)) + (1 : Int64))), none, some (.int (a4 + 1))] xi_225 dX12_slotOf_28 rfl rfl rfl ?_
      refine wp_goto 7 xi_225 dX12_slotOf_31 rfl ?_
      exact Wp.more (by simp [xMore, Value.category]) (ih a0 a1 (((a2 * (31 : Int64)) + ((x2 : Int32).toInt64)) + (1 : Int64)) (a4 + 1) h _ H KE)
def f_225_47  : Nat → Nat → Nat → Int64 → Int32 → xH → Option (Int32 × xH)
  | 0, _, _, _, _, _ => none
  | n + 1, a0, a1, a2, a4, h =>
  (pFr h a0 12 36).bind fun x1 =>
  (pAi h x1 a4).bind fun x2 =>
  (if x2 < 0 then
  some (a4, h)
  else
  (pFr h a0 12 36).bind fun x4 =>
  (pAi h x4 a4).bind fun x5 =>
  (pG (pIs h a0 12)).bind fun _ =>
  (f_226 a0 a1 x5 h).bind fun (x8, h7) =>
  (if x8 = 0 then
  f_225_47 n a0 a1 a2 ((a4 + 1) &&& 2047) h7
  else
  some (a4, h7)))
theorem ef_225_47 (d : Nat) (Q : Option Value → xH → Prop)  : ∀ (n : Nat) (a0 : Nat) (a1 : Nat) (a2 : Int64) (a4 : Int32) (h : xH) (r : Int32 × xH), f_225_47 n a0 a1 a2 a4 h = some r → (∀ (w4 : Int32) (h1 : xH), r = (w4, h1) → Wp (d + 1) 225 85 [none, none, some (.long a2), none, some (.int w4)] [] h1 Q) → Wp (d + 1) 225 47 [some (.ref a0), some (.ref a1), some (.long a2), none, some (.int a4)] [] h Q := by
  intro n
  induction n with
  | zero =>
    intro a0 a1 a2 a4 h r H
    cases H
  | succ n ih =>
    intro a0 a1 a2 a4 h r H KE
    unfold f_225_47 at H
    refine wp_aload_n xi_225 dX12_slotOf_47 rfl ?_
    obtain ⟨x1, gx1, H⟩ := Option.bind_eq_some_iff.mp H
    refine wq_getfr xi_225 dX12_slotOf_48 xf_12_85 gx1 ?_
    refine wp_iload xi_225 dX12_slotOf_51 rfl ?_
    obtain ⟨x2, gx2, H⟩ := Option.bind_eq_some_iff.mp H
    refine wq_iaload xi_225 dX12_slotOf_53 gx2 ?_
    refine wp_if_lt 85 xi_225 dX12_slotOf_54 rfl (fun c3 => ?_) (fun c3 => ?_)
    · rw [if_pos c3] at H
      obtain rfl := Option.some.inj H
      exact Wp.more (by simp [xMore, Value.category]) (KE a4 h rfl)
    · rw [if_neg c3] at H
      refine wp_aload_n xi_225 dX12_slotOf_57 rfl ?_
      refine wp_aload_n xi_225 dX12_slotOf_58 rfl ?_
      refine wp_aload_n xi_225 dX12_slotOf_59 rfl ?_
      obtain ⟨x4, gx4, H⟩ := Option.bind_eq_some_iff.mp H
      refine wq_getfr xi_225 dX12_slotOf_60 xf_12_85 gx4 ?_
      refine wp_iload xi_225 dX12_slotOf_63 rfl ?_
      obtain ⟨x5, gx5, H⟩ := Option.bind_eq_some_iff.mp H
      refine wq_iaload xi_225 dX12_slotOf_65 gx5 ?_
      obtain ⟨u6, gu6, H⟩ := Option.bind_eq_some_iff.mp H
      obtain ⟨⟨x8, h7⟩, gh7, H⟩ := Option.bind_eq_some_iff.mp H
      dsimp only at H
      refine wq_callV (a := a0) (as := [.ref a1, .int x5]) (r := []) (v1 := (some (.int x8))) xi_225 xi_226 dX12_slotOf_66 xm_12_351 rfl (Nat.le_of_ble_eq_true rfl) (pG_ok gu6) ⟨(Nat.le_of_ble_eq_true rfl), (Nat.le_of_ble_eq_true rfl)⟩ rfl nofun (e_226 d _ gh7 ⟨rfl, rfl⟩) ?_
      change Wp _ _ _ _ [.int x8] _ _
      refine wp_if_ne 85 xi_225 dX12_slotOf_69 rfl (fun c9 => ?_) (fun c9 => ?_)
      · rw [if_neg c9] at H
        obtain rfl := Option.some.inj H
        exact Wp.more (by simp [xMore, Value.category]) (KE a4 h7 rfl)
      · rw [if_pos c9] at H
        refine wp_iload xi_225 dX12_slotOf_72 rfl ?_
        refine wp_iconst 1 xi_225 dX12_slotOf_74 rfl ?_
        refine wp_iadd xi_225 dX12_slotOf_75 ?_
        refine wp_sipush 2047 xi_225 dX12_slotOf_76 rfl ?_
        refine wp_iand xi_225 dX12_slotOf_79 ?_
        refine wp_istore [some (.ref a0), some (.ref a1), some (.long a2), none, some (.int ((a4 + 1) &&& 2047))] xi_225 dX12_slotOf_80 rfl ?_
        refine wp_goto 47 xi_225 dX12_slotOf_82 rfl ?_
        exact Wp.more (by simp [xMore, Value.category]) (ih a0 a1 a2 ((a4 + 1) &&& 2047) h7 _ H KE)
def f_225  (a : Nat) (p0 : Nat) (h : xH) : Option (Int32 × xH) :=
  (f_225_7 100000 a p0 (7 : Int64) 0 h).bind fun (w2, h1) =>
  (f_225_47 100000 a p0 w2 ((((w2 ^^^ (((w2 : Int64).toUInt64 >>> ((21 : Int32).toInt64.toUInt64 &&& Int64.toUInt64 63)).toInt64)) &&& (2047 : Int64)) : Int64).toInt32) h1).bind fun (w6, h5) =>
  some (w6, h5)
set_option maxHeartbeats 4000000 in
theorem e_225 (d : Nat) (Q : Option Value → xH → Prop)  {h : xH} {a : Nat} {p0 : Nat} {x : Int32} {h1 : xH} (H : f_225  a p0 h = some (x, h1)) (hq : Q (some (.int x)) h1) : Wp (d + 1) 225 0 [some (.ref a), some (.ref p0), none, none, none] [] h Q := by
  unfold f_225 at H
  refine wp_ldc2 xi_225 dX12_slotOf_0 xl_12_345 ?_
  refine wp_lstore_n [some (.ref a), some (.ref p0), some (.long (7 : Int64)), none, none] xi_225 dX12_slotOf_3 rfl ?_
  refine wp_iconst 0 xi_225 dX12_slotOf_4 rfl ?_
  refine wp_istore [some (.ref a), some (.ref p0), some (.long (7 : Int64)), none, some (.int 0)] xi_225 dX12_slotOf_5 rfl ?_
  obtain ⟨⟨w2, h1⟩, G3, H⟩ := Option.bind_eq_some_iff.mp H
  dsimp only at H
  refine Wp.more (by simp [xMore, Value.category]) (ef_225_7 d Q  100000 a p0 (7 : Int64) 0 h _ G3 (fun z0 z1 e9 => ?_))
  cases e9
  refine wp_lload_n xi_225 dX12_slotOf_34 rfl ?_
  refine wp_lload_n xi_225 dX12_slotOf_35 rfl ?_
  refine wp_bipush 21 xi_225 dX12_slotOf_36 rfl ?_
  refine wp_lushr xi_225 dX12_slotOf_38 ?_
  refine wp_lxor xi_225 dX12_slotOf_39 ?_
  refine wp_ldc2 xi_225 dX12_slotOf_40 xl_12_349 ?_
  refine wp_land xi_225 dX12_slotOf_43 ?_
  refine wp_l2i xi_225 dX12_slotOf_44 ?_
  refine wp_istore [some (.ref a), some (.ref p0), some (.long w2), none, some (.int ((((w2 ^^^ (((w2 : Int64).toUInt64 >>> ((21 : Int32).toInt64.toUInt64 &&& Int64.toUInt64 63)).toInt64)) &&& (2047 : Int64)) : Int64).toInt32))] xi_225 dX12_slotOf_45 rfl ?_
  obtain ⟨⟨w6, h5⟩, G7, H⟩ := Option.bind_eq_some_iff.mp H
  dsimp only at H
  refine Wp.more (by simp [xMore, Value.category]) (ef_225_47 d Q  100000 a p0 w2 ((((w2 ^^^ (((w2 : Int64).toUInt64 >>> ((21 : Int32).toInt64.toUInt64 &&& Int64.toUInt64 63)).toInt64)) &&& (2047 : Int64)) : Int64).toInt32) h1 _ G7 (fun z0 z1 e9 => ?_))
  cases e9
  refine wp_iload xi_225 dX12_slotOf_85 rfl ?_
  obtain ⟨rfl, rfl⟩ := oi2 H
  exact wp_iret xi_225 dX12_slotOf_87 hq
/- FelledHasLostModel.finds([III)V -/
def f_227_37  : Nat → Nat → Nat → Int32 → Int32 → Int32 → Int32 → xH → Option (xH)
  | 0, _, _, _, _, _, _, _ => none
  | n + 1, a0, a1, a2, a3, a4, a5, h =>
  (if (54 : Int32) ≤ a5 then
  some (h)
  else
  (pFr h a0 12 32).bind fun x2 =>
  (pFi h a0 12 37).bind fun x3 =>
  (pAi h a1 a5).bind fun x4 =>
  (pSi h x2 ((54 * x3) + a5) x4).bind fun h5 =>
  f_227_37 n a0 a1 a2 a3 a4 (a5 + 1) h5)
theorem ef_227_37 (d : Nat) (Q : Option Value → xH → Prop)  : ∀ (n : Nat) (a0 : Nat) (a1 : Nat) (a2 : Int32) (a3 : Int32) (a4 : Int32) (a5 : Int32) (h : xH) (r : xH), f_227_37 n a0 a1 a2 a3 a4 a5 h = some r → (∀  (h1 : xH), r = h1 → Wp (d + 2) 227 69 [some (.ref a0), none, some (.int a2), some (.int a3), some (.int a4), none] [] h1 Q) → Wp (d + 2) 227 37 [some (.ref a0), some (.ref a1), some (.int a2), some (.int a3), some (.int a4), some (.int a5)] [] h Q := by
  intro n
  induction n with
  | zero =>
    intro a0 a1 a2 a3 a4 a5 h r H
    cases H
  | succ n ih =>
    intro a0 a1 a2 a3 a4 a5 h r H KE
    unfold f_227_37 at H
    refine wp_iload xi_227 dX12_finds_37 rfl ?_
    refine wp_bipush 54 xi_227 dX12_finds_39 rfl ?_
    refine wp_icmp_ge 69 xi_227 dX12_finds_41 rfl (fun c1 => ?_) (fun c1 => ?_)
    · rw [if_pos c1] at H
      obtain rfl := Option.some.inj H
      exact Wp.more (by simp [xMore, Value.category]) (KE  h rfl)
    · rw [if_neg c1] at H
      refine wp_aload_n xi_227 dX12_finds_44 rfl ?_
      obtain ⟨x2, gx2, H⟩ := Option.bind_eq_some_iff.mp H
      refine wq_getfr xi_227 dX12_finds_45 xf_12_73 gx2 ?_
      refine wp_bipush 54 xi_227 dX12_finds_48 rfl ?_
      refine wp_aload_n xi_227 dX12_finds_50 rfl ?_
      obtain ⟨x3, gx3, H⟩ := Option.bind_eq_some_iff.mp H
      refine wq_getfi xi_227 dX12_finds_51 xf_12_357 gx3 ?_
      refine wp_imul xi_227 dX12_finds_54 ?_
      refine wp_iload xi_227 dX12_finds_55 rfl ?_
      refine wp_iadd xi_227 dX12_finds_57 ?_
      refine wp_aload_n xi_227 dX12_finds_58 rfl ?_
      refine wp_iload xi_227 dX12_finds_59 rfl ?_
      obtain ⟨x4, gx4, H⟩ := Option.bind_eq_some_iff.mp H
      refine wq_iaload xi_227 dX12_finds_61 gx4 ?_
      obtain ⟨h5, gh5, H⟩ := Option.bind_eq_some_iff.mp H
      refine wq_iastore xi_227 dX12_finds_62 gh5 ?_
      refine wp_iinc (a5 + 1) [some (.ref a0), some (.ref a1), some (.int a2), some (.int a3), some (.int a4), some (.int (a5 + 1))] xi_227 dX12_finds_63 rfl rfl rfl ?_
      refine wp_goto 37 xi_227 dX12_finds_66 rfl ?_
      exact Wp.more (by simp [xMore, Value.category]) (ih a0 a1 a2 a3 a4 (a5 + 1) h5 _ H KE)
def f_227  (a : Nat) (p0 : Nat) (p1 : Int32) (p2 : Int32) (h : xH) : Option (xH) :=
  (pG (pIs h a 12)).bind fun _ =>
  (f_225 a p0 h).bind fun (x3, h2) =>
  (pFr h2 a 12 36).bind fun x4 =>
  (pAi h2 x4 x3).bind fun x5 =>
  (if x5 < 0 then
  (pFi h2 a 12 37).bind fun x7 =>
  (if x7 = 400 then
  (pP h2 a 12 38 (.int 1)).bind fun h34 =>
  some h34
  else
  (f_227_37 100000 a p0 p1 p2 x3 0 h2).bind fun h9 =>
  (pFr h9 a 12 33).bind fun x12 =>
  (pFi h9 a 12 37).bind fun x13 =>
  (pSi h9 x12 x13 p1).bind fun h14 =>
  (pFr h14 a 12 34).bind fun x15 =>
  (pFi h14 a 12 37).bind fun x16 =>
  (pSi h14 x15 x16 p2).bind fun h17 =>
  (pFr h17 a 12 35).bind fun x18 =>
  (pFi h17 a 12 37).bind fun x19 =>
  ((if (0 : Int32) ≤ p1 then
  (pFr h17 a 12 35).bind fun x25 =>
  (pAi h17 x25 p1).bind fun x26 =>
  some ((x26 + 1))
  else
  some (0) : Option (Int32))).bind fun (w23 : Int32) =>
  (pSi h17 x18 x19 w23).bind fun h27 =>
  (pFr h27 a 12 36).bind fun x28 =>
  (pFi h27 a 12 37).bind fun x29 =>
  (pSi h27 x28 x3 x29).bind fun h30 =>
  (pFi h30 a 12 37).bind fun x31 =>
  (pP h30 a 12 37 (.int (x31 + 1))).bind fun h32 =>
  some h32)
  else
  some h2)
set_option maxHeartbeats 4000000 in
theorem e_227 (d : Nat) (Q : Option Value → xH → Prop)  {h : xH} {a : Nat} {p0 : Nat} {p1 : Int32} {p2 : Int32} {h1 : xH} (H : f_227  a p0 p1 p2 h = some h1) (hq : Q none h1) : Wp (d + 2) 227 0 [some (.ref a), some (.ref p0), some (.int p1), some (.int p2), none, none] [] h Q := by
  unfold f_227 at H
  refine wp_aload_n xi_227 dX12_finds_0 rfl ?_
  refine wp_aload_n xi_227 dX12_finds_1 rfl ?_
  obtain ⟨u1, gu1, H⟩ := Option.bind_eq_some_iff.mp H
  obtain ⟨⟨x3, h2⟩, gh2, H⟩ := Option.bind_eq_some_iff.mp H
  dsimp only at H
  refine wq_callV (a := a) (as := [.ref p0]) (r := []) (v1 := (some (.int x3))) xi_227 xi_225 dX12_finds_2 xm_12_354 rfl (Nat.le_of_ble_eq_true rfl) (pG_ok gu1) ⟨(Nat.le_of_ble_eq_true rfl), (Nat.le_of_ble_eq_true rfl)⟩ rfl nofun (e_225 d _ gh2 ⟨rfl, rfl⟩) ?_
  change Wp _ _ _ _ [.int x3] _ _
  refine wp_istore [some (.ref a), some (.ref p0), some (.int p1), some (.int p2), some (.int x3), none] xi_227 dX12_finds_5 rfl ?_
  refine wp_aload_n xi_227 dX12_finds_7 rfl ?_
  obtain ⟨x4, gx4, H⟩ := Option.bind_eq_some_iff.mp H
  refine wq_getfr xi_227 dX12_finds_8 xf_12_85 gx4 ?_
  refine wp_iload xi_227 dX12_finds_11 rfl ?_
  obtain ⟨x5, gx5, H⟩ := Option.bind_eq_some_iff.mp H
  refine wq_iaload xi_227 dX12_finds_13 gx5 ?_
  refine wp_if_lt 18 xi_227 dX12_finds_14 rfl (fun c6 => ?_) (fun c6 => ?_)
  · rw [if_pos c6] at H
    refine wp_aload_n xi_227 dX12_finds_18 rfl ?_
    obtain ⟨x7, gx7, H⟩ := Option.bind_eq_some_iff.mp H
    refine wq_getfi xi_227 dX12_finds_19 xf_12_357 gx7 ?_
    refine wp_sipush 400 xi_227 dX12_finds_22 rfl ?_
    refine wp_icmp_ne 34 xi_227 dX12_finds_25 rfl (fun c8 => ?_) (fun c8 => ?_)
    · rw [if_neg c8] at H
      refine wp_iconst 0 xi_227 dX12_finds_34 rfl ?_
      refine wp_istore [some (.ref a), some (.ref p0), some (.int p1), some (.int p2), some (.int x3), some (.int 0)] xi_227 dX12_finds_35 rfl ?_
      obtain ⟨h9, G10, H⟩ := Option.bind_eq_some_iff.mp H
      refine Wp.more (by simp [xMore, Value.category]) (ef_227_37 d Q  100000 a p0 p1 p2 x3 0 h2 _ G10 (fun z0 e9 => ?_))
      cases e9
      refine wp_aload_n xi_227 dX12_finds_69 rfl ?_
      obtain ⟨x12, gx12, H⟩ := Option.bind_eq_some_iff.mp H
      refine wq_getfr xi_227 dX12_finds_70 xf_12_76 gx12 ?_
      refine wp_aload_n xi_227 dX12_finds_73 rfl ?_
      obtain ⟨x13, gx13, H⟩ := Option.bind_eq_some_iff.mp H
      refine wq_getfi xi_227 dX12_finds_74 xf_12_357 gx13 ?_
      refine wp_iload_n xi_227 dX12_finds_77 rfl ?_
      obtain ⟨h14, gh14, H⟩ := Option.bind_eq_some_iff.mp H
      refine wq_iastore xi_227 dX12_finds_78 gh14 ?_
      refine wp_aload_n xi_227 dX12_finds_79 rfl ?_
      obtain ⟨x15, gx15, H⟩ := Option.bind_eq_some_iff.mp H
      refine wq_getfr xi_227 dX12_finds_80 xf_12_79 gx15 ?_
      refine wp_aload_n xi_227 dX12_finds_83 rfl ?_
      obtain ⟨x16, gx16, H⟩ := Option.bind_eq_some_iff.mp H
      refine wq_getfi xi_227 dX12_finds_84 xf_12_357 gx16 ?_
      refine wp_iload_n xi_227 dX12_finds_87 rfl ?_
      obtain ⟨h17, gh17, H⟩ := Option.bind_eq_some_iff.mp H
      refine wq_iastore xi_227 dX12_finds_88 gh17 ?_
      refine wp_aload_n xi_227 dX12_finds_89 rfl ?_
      obtain ⟨x18, gx18, H⟩ := Option.bind_eq_some_iff.mp H
      refine wq_getfr xi_227 dX12_finds_90 xf_12_82 gx18 ?_
      refine wp_aload_n xi_227 dX12_finds_93 rfl ?_
      obtain ⟨x19, gx19, H⟩ := Option.bind_eq_some_iff.mp H
      refine wq_getfi xi_227 dX12_finds_94 xf_12_357 gx19 ?_
      refine wp_iload_n xi_227 dX12_finds_97 rfl ?_
      obtain ⟨w23, G33, H⟩ := Option.bind_eq_some_iff.mp H
      have K24 : Wp (d + 2) 227 113 [some (.ref a), none, some (.int p1), some (.int p2), some (.int x3), none] [.int w23, .int x19, .ref x18] h17 Q := by
        obtain ⟨h27, gh27, H⟩ := Option.bind_eq_some_iff.mp H
        refine wq_iastore xi_227 dX12_finds_113 gh27 ?_
        refine wp_aload_n xi_227 dX12_finds_114 rfl ?_
        obtain ⟨x28, gx28, H⟩ := Option.bind_eq_some_iff.mp H
        refine wq_getfr xi_227 dX12_finds_115 xf_12_85 gx28 ?_
        refine wp_iload xi_227 dX12_finds_118 rfl ?_
        refine wp_aload_n xi_227 dX12_finds_120 rfl ?_
        obtain ⟨x29, gx29, H⟩ := Option.bind_eq_some_iff.mp H
        refine wq_getfi xi_227 dX12_finds_121 xf_12_357 gx29 ?_
        obtain ⟨h30, gh30, H⟩ := Option.bind_eq_some_iff.mp H
        refine wq_iastore xi_227 dX12_finds_124 gh30 ?_
        refine wp_aload_n xi_227 dX12_finds_125 rfl ?_
        refine wp_dup xi_227 dX12_finds_126 rfl ?_
        obtain ⟨x31, gx31, H⟩ := Option.bind_eq_some_iff.mp H
        refine wq_getfi xi_227 dX12_finds_127 xf_12_357 gx31 ?_
        refine wp_iconst 1 xi_227 dX12_finds_130 rfl ?_
        refine wp_iadd xi_227 dX12_finds_131 ?_
        obtain ⟨h32, gh32, H⟩ := Option.bind_eq_some_iff.mp H
        refine wq_putf xi_227 dX12_finds_132 xf_12_357 (Or.inl rfl) gh32 ?_
        obtain rfl := Option.some.inj H
        exact wp_vret xi_227 dX12_finds_135 hq
      clear H
      have H := G33
      clear G33
      refine wp_if_ge 105 xi_227 dX12_finds_98 rfl (fun c20 => ?_) (fun c20 => ?_)
      · rw [if_pos c20] at H
        refine wp_aload_n xi_227 dX12_finds_105 rfl ?_
        obtain ⟨x25, gx25, H⟩ := Option.bind_eq_some_iff.mp H
        refine wq_getfr xi_227 dX12_finds_106 xf_12_82 gx25 ?_
        refine wp_iload_n xi_227 dX12_finds_109 rfl ?_
        obtain ⟨x26, gx26, H⟩ := Option.bind_eq_some_iff.mp H
        refine wq_iaload xi_227 dX12_finds_110 gx26 ?_
        refine wp_iconst 1 xi_227 dX12_finds_111 rfl ?_
        refine wp_iadd xi_227 dX12_finds_112 ?_
        obtain rfl := Option.some.inj H
        exact Wp.more (by simp [xMore, Value.category]) K24
      · rw [if_neg c20] at H
        refine wp_iconst 0 xi_227 dX12_finds_101 rfl ?_
        refine wp_goto 113 xi_227 dX12_finds_102 rfl ?_
        obtain rfl := Option.some.inj H
        exact Wp.more (by simp [xMore, Value.category]) K24
    · rw [if_pos c8] at H
      refine wp_aload_n xi_227 dX12_finds_28 rfl ?_
      refine wp_iconst 1 xi_227 dX12_finds_29 rfl ?_
      obtain ⟨h34, gh34, H⟩ := Option.bind_eq_some_iff.mp H
      refine wq_putf xi_227 dX12_finds_30 xf_12_360 (Or.inl rfl) gh34 ?_
      obtain rfl := Option.some.inj H
      exact wp_vret xi_227 dX12_finds_33 hq
  · rw [if_neg c6] at H
    obtain rfl := Option.some.inj H
    exact wp_vret xi_227 dX12_finds_17 hq
