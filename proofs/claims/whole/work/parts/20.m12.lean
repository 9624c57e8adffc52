/- FelledHasLost$Games.follow(II)V -/
def f_20  (a : Nat) (p0 : Int32) (p1 : Int32) (h : xH) : Option (xH) :=
  (pFi h a 2 14).bind fun x1 =>
  (pFr h a 2 1).bind fun x2 =>
  (pG (pIs h x2 10)).bind fun _ =>
  (f_103 x2 p1 h).bind fun (x5, h4) =>
  (pFr h4 a 2 2).bind fun x6 =>
  (pFr h4 a 2 3).bind fun x7 =>
  (pCpy h4 x6 (3 * p0) x7 0 3).bind fun h8 =>
  (pDiv p1 10).bind fun x9 =>
  (pG (pIs h8 a 2)).bind fun _ =>
  (f_23 a x9 (-1) h8).bind fun h11 =>
  (pFr h11 a 2 1).bind fun x12 =>
  (pFr h11 x12 10 0).bind fun x13 =>
  (pDiv p1 10).bind fun x14 =>
  (pAi h11 x13 x14).bind fun x15 =>
  (pG (pIs h11 a 2)).bind fun _ =>
  (f_23 a x5 x15 h11).bind fun h17 =>
  (pG (pIs h17 a 2)).bind fun _ =>
  (f_26 a h17).bind fun (x20, h19) =>
  (if x20 = (-1) then
  (pP h19 a 2 15 (.int 1)).bind fun h48 =>
  some h48
  else
  (pFi h19 a 2 14).bind fun x22 =>
  ((if x22 ≤ x1 then
  some (h19)
  else
  (pDiv x5 3).bind fun x29 =>
  (pG (pIs h19 a 2)).bind fun _ =>
  (f_21 a x20 p0 p1 (x29 + 1) h19).bind fun h31 =>
  some (h31) : Option (xH))).bind fun (h27 : xH) =>
  (pFi h27 a 2 13).bind fun x32 =>
  (pFr h27 a 2 11).bind fun x33 =>
  (pLen h27 x33).bind fun x34 =>
  ((if x34 ≤ x32 then
  some (h27)
  else
  (pFr h27 a 2 11).bind fun x42 =>
  (pFi h27 a 2 13).bind fun x43 =>
  (pP h27 a 2 13 (.int (x43 + 1))).bind fun h44 =>
  (pSi h44 x42 x43 ((p1 * 1024) + x20)).bind fun h45 =>
  some (h45) : Option (xH))).bind fun (h40 : xH) =>
  some h40)
set_option maxHeartbeats 4000000 in
theorem e_20 (d : Nat) (Q : Option Value → xH → Prop)  {h : xH} {a : Nat} {p0 : Int32} {p1 : Int32} {h1 : xH} (H : f_20  a p0 p1 h = some h1) (hq : Q none h1) : Wp (d + 3) 20 0 [some (.ref a), some (.int p0), some (.int p1), none, none, none] [] h Q := by
  unfold f_20 at H
  refine wp_aload_n xi_20 dX2_follow_0 rfl ?_
  obtain ⟨x1, gx1, H⟩ := Option.bind_eq_some_iff.mp H
  refine wq_getfi xi_20 dX2_follow_1 xf_2_68 gx1 ?_
  refine wp_istore_n [some (.ref a), some (.int p0), some (.int p1), some (.int x1), none, none] xi_20 dX2_follow_4 rfl ?_
  refine wp_aload_n xi_20 dX2_follow_5 rfl ?_
  obtain ⟨x2, gx2, H⟩ := Option.bind_eq_some_iff.mp H
  refine wq_getfr xi_20 dX2_follow_6 xf_2_12 gx2 ?_
  refine wp_iload_n xi_20 dX2_follow_9 rfl ?_
  obtain ⟨u3, gu3, H⟩ := Option.bind_eq_some_iff.mp H
  obtain ⟨⟨x5, h4⟩, gh4, H⟩ := Option.bind_eq_some_iff.mp H
  dsimp only at H
  refine wq_callV (a := x2) (as := [.int p1]) (r := []) (v1 := (some (.int x5))) xi_20 xi_103 dX2_follow_10 xm_2_110 rfl (Nat.le_of_ble_eq_true rfl) (pG_ok gu3) ⟨(Nat.le_of_ble_eq_true rfl), (Nat.le_of_ble_eq_true rfl)⟩ rfl nofun (e_103 d _ gh4 ⟨rfl, rfl⟩) ?_
  change Wp _ _ _ _ [.int x5] _ _
  refine wp_istore [some (.ref a), some (.int p0), some (.int p1), some (.int x1), some (.int x5), none] xi_20 dX2_follow_13 rfl ?_
  refine wp_aload_n xi_20 dX2_follow_15 rfl ?_
  obtain ⟨x6, gx6, H⟩ := Option.bind_eq_some_iff.mp H
  refine wq_getfr xi_20 dX2_follow_16 xf_2_18 gx6 ?_
  refine wp_iconst 3 xi_20 dX2_follow_19 rfl ?_
  refine wp_iload_n xi_20 dX2_follow_20 rfl ?_
  refine wp_imul xi_20 dX2_follow_21 ?_
  refine wp_aload_n xi_20 dX2_follow_22 rfl ?_
  obtain ⟨x7, gx7, H⟩ := Option.bind_eq_some_iff.mp H
  refine wq_getfr xi_20 dX2_follow_23 xf_2_22 gx7 ?_
  refine wp_iconst 0 xi_20 dX2_follow_26 rfl ?_
  refine wp_iconst 3 xi_20 dX2_follow_27 rfl ?_
  obtain ⟨h8, gh8, H⟩ := Option.bind_eq_some_iff.mp H
  refine wq_cpy xi_20 dX2_follow_28 xm_2_114 (Nat.le_of_ble_eq_true rfl) gh8 ?_
  refine wp_aload_n xi_20 dX2_follow_31 rfl ?_
  refine wp_iload_n xi_20 dX2_follow_32 rfl ?_
  refine wp_bipush 10 xi_20 dX2_follow_33 rfl ?_
  obtain ⟨x9, gx9, H⟩ := Option.bind_eq_some_iff.mp H
  refine wq_idiv xi_20 dX2_follow_35 gx9 ?_
  refine wp_iconst (-1) xi_20 dX2_follow_36 rfl ?_
  obtain ⟨u10, gu10, H⟩ := Option.bind_eq_some_iff.mp H
  obtain ⟨h11, gh11, H⟩ := Option.bind_eq_some_iff.mp H
  refine wq_callV (a := a) (as := [.int x9, .int (-1)]) (r := []) (v1 := none) xi_20 xi_23 dX2_follow_37 xm_2_120 rfl (Nat.le_of_ble_eq_true rfl) (pG_ok gu10) ⟨(Nat.le_of_ble_eq_true rfl), (Nat.le_of_ble_eq_true rfl)⟩ rfl nofun (e_23 (d + 2) _ gh11 ⟨rfl, rfl⟩) ?_
  change Wp _ _ _ _ [] _ _
  refine wp_aload_n xi_20 dX2_follow_40 rfl ?_
  refine wp_iload xi_20 dX2_follow_41 rfl ?_
  refine wp_aload_n xi_20 dX2_follow_43 rfl ?_
  obtain ⟨x12, gx12, H⟩ := Option.bind_eq_some_iff.mp H
  refine wq_getfr xi_20 dX2_follow_44 xf_2_12 gx12 ?_
  obtain ⟨x13, gx13, H⟩ := Option.bind_eq_some_iff.mp H
  refine wq_getfr xi_20 dX2_follow_47 xf_2_123 gx13 ?_
  refine wp_iload_n xi_20 dX2_follow_50 rfl ?_
  refine wp_bipush 10 xi_20 dX2_follow_51 rfl ?_
  obtain ⟨x14, gx14, H⟩ := Option.bind_eq_some_iff.mp H
  refine wq_idiv xi_20 dX2_follow_53 gx14 ?_
  obtain ⟨x15, gx15, H⟩ := Option.bind_eq_some_iff.mp H
  refine wq_iaload xi_20 dX2_follow_54 gx15 ?_
  obtain ⟨u16, gu16, H⟩ := Option.bind_eq_some_iff.mp H
  obtain ⟨h17, gh17, H⟩ := Option.bind_eq_some_iff.mp H
  refine wq_callV (a := a) (as := [.int x5, .int x15]) (r := []) (v1 := none) xi_20 xi_23 dX2_follow_55 xm_2_120 rfl (Nat.le_of_ble_eq_true rfl) (pG_ok gu16) ⟨(Nat.le_of_ble_eq_true rfl), (Nat.le_of_ble_eq_true rfl)⟩ rfl nofun (e_23 (d + 2) _ gh17 ⟨rfl, rfl⟩) ?_
  change Wp _ _ _ _ [] _ _
  refine wp_aload_n xi_20 dX2_follow_58 rfl ?_
  obtain ⟨u18, gu18, H⟩ := Option.bind_eq_some_iff.mp H
  obtain ⟨⟨x20, h19⟩, gh19, H⟩ := Option.bind_eq_some_iff.mp H
  dsimp only at H
  refine wq_callV (a := a) (as := []) (r := []) (v1 := (some (.int x20))) xi_20 xi_26 dX2_follow_59 xm_2_79 rfl (Nat.le_of_ble_eq_true rfl) (pG_ok gu18) ⟨(Nat.le_of_ble_eq_true rfl), (Nat.le_of_ble_eq_true rfl)⟩ rfl nofun (e_26 (d + 1) _ gh19 ⟨rfl, rfl⟩) ?_
  change Wp _ _ _ _ [.int x20] _ _
  refine wp_istore [some (.ref a), some (.int p0), some (.int p1), some (.int x1), some (.int x5), some (.int x20)] xi_20 dX2_follow_62 rfl ?_
  refine wp_iload xi_20 dX2_follow_64 rfl ?_
  refine wp_iconst (-1) xi_20 dX2_follow_66 rfl ?_
  refine wp_icmp_ne 76 xi_20 dX2_follow_67 rfl (fun c21 => ?_) (fun c21 => ?_)
  · rw [if_neg c21] at H
    refine wp_aload_n xi_20 dX2_follow_76 rfl ?_
    obtain ⟨x22, gx22, H⟩ := Option.bind_eq_some_iff.mp H
    refine wq_getfi xi_20 dX2_follow_77 xf_2_68 gx22 ?_
    refine wp_iload_n xi_20 dX2_follow_80 rfl ?_
    obtain ⟨h27, G47, H⟩ := Option.bind_eq_some_iff.mp H
    have K28 : Wp (d + 3) 20 98 [some (.ref a), some (.int p0), some (.int p1), some (.int x1), some (.int x5), some (.int x20)] [] h27 Q := by
      refine wp_aload_n xi_20 dX2_follow_98 rfl ?_
      obtain ⟨x32, gx32, H⟩ := Option.bind_eq_some_iff.mp H
      refine wq_getfi xi_20 dX2_follow_99 xf_2_64 gx32 ?_
      refine wp_aload_n xi_20 dX2_follow_102 rfl ?_
      obtain ⟨x33, gx33, H⟩ := Option.bind_eq_some_iff.mp H
      refine wq_getfr xi_20 dX2_follow_103 xf_2_48 gx33 ?_
      obtain ⟨x34, gx34, H⟩ := Option.bind_eq_some_iff.mp H
      refine wq_alen xi_20 dX2_follow_106 gx34 ?_
      obtain ⟨h40, G46, H⟩ := Option.bind_eq_some_iff.mp H
      have K41 : Wp (d + 3) 20 134 [some (.ref a), some (.int p0), some (.int p1), some (.int x1), some (.int x5), some (.int x20)] [] h40 Q := by
        obtain rfl := Option.some.inj H
        exact wp_vret xi_20 dX2_follow_134 hq
      clear H
      have H := G46
      clear G46
      refine wp_icmp_ge 134 xi_20 dX2_follow_107 rfl (fun c35 => ?_) (fun c35 => ?_)
      · rw [if_pos c35] at H
        obtain rfl := Option.some.inj H
        exact Wp.more (by simp [xMore, Value.category]) K41
      · rw [if_neg c35] at H
        refine wp_aload_n xi_20 dX2_follow_110 rfl ?_
        obtain ⟨x42, gx42, H⟩ := Option.bind_eq_some_iff.mp H
        refine wq_getfr xi_20 dX2_follow_111 xf_2_48 gx42 ?_
        refine wp_aload_n xi_20 dX2_follow_114 rfl ?_
        refine wp_dup xi_20 dX2_follow_115 rfl ?_
        obtain ⟨x43, gx43, H⟩ := Option.bind_eq_some_iff.mp H
        refine wq_getfi xi_20 dX2_follow_116 xf_2_64 gx43 ?_
        refine wp_dup_x1 xi_20 dX2_follow_119 rfl rfl ?_
        refine wp_iconst 1 xi_20 dX2_follow_120 rfl ?_
        refine wp_iadd xi_20 dX2_follow_121 ?_
        obtain ⟨h44, gh44, H⟩ := Option.bind_eq_some_iff.mp H
        refine wq_putf xi_20 dX2_follow_122 xf_2_64 (Or.inl rfl) gh44 ?_
        refine wp_iload_n xi_20 dX2_follow_125 rfl ?_
        refine wp_sipush 1024 xi_20 dX2_follow_126 rfl ?_
        refine wp_imul xi_20 dX2_follow_129 ?_
        refine wp_iload xi_20 dX2_follow_130 rfl ?_
        refine wp_iadd xi_20 dX2_follow_132 ?_
        obtain ⟨h45, gh45, H⟩ := Option.bind_eq_some_iff.mp H
        refine wq_iastore xi_20 dX2_follow_133 gh45 ?_
        obtain rfl := Option.some.inj H
        exact Wp.more (by simp [xMore, Value.category]) K41
    clear H
    have H := G47
    clear G47
    refine wp_icmp_le 98 xi_20 dX2_follow_81 rfl (fun c23 => ?_) (fun c23 => ?_)
    · rw [if_pos c23] at H
      obtain rfl := Option.some.inj H
      exact Wp.more (by simp [xMore, Value.category]) K28
    · rw [if_neg c23] at H
      refine wp_aload_n xi_20 dX2_follow_84 rfl ?_
      refine wp_iload xi_20 dX2_follow_85 rfl ?_
      refine wp_iload_n xi_20 dX2_follow_87 rfl ?_
      refine wp_iload_n xi_20 dX2_follow_88 rfl ?_
      refine wp_iload xi_20 dX2_follow_89 rfl ?_
      refine wp_iconst 3 xi_20 dX2_follow_91 rfl ?_
      obtain ⟨x29, gx29, H⟩ := Option.bind_eq_some_iff.mp H
      refine wq_idiv xi_20 dX2_follow_92 gx29 ?_
      refine wp_iconst 1 xi_20 dX2_follow_93 rfl ?_
      refine wp_iadd xi_20 dX2_follow_94 ?_
      obtain ⟨u30, gu30, H⟩ := Option.bind_eq_some_iff.mp H
      obtain ⟨h31, gh31, H⟩ := Option.bind_eq_some_iff.mp H
      refine wq_callV (a := a) (as := [.int x20, .int p0, .int p1, .int (x29 + 1)]) (r := []) (v1 := none) xi_20 xi_21 dX2_follow_95 xm_2_86 rfl (Nat.le_of_ble_eq_true rfl) (pG_ok gu30) ⟨(Nat.le_of_ble_eq_true rfl), (Nat.le_of_ble_eq_true rfl)⟩ rfl nofun (e_21 (d + 2) _ gh31 ⟨rfl, rfl⟩) ?_
      change Wp _ _ _ _ [] _ _
      obtain rfl := Option.some.inj H
      exact Wp.more (by simp [xMore, Value.category]) K28
  · rw [if_pos c21] at H
    refine wp_aload_n xi_20 dX2_follow_70 rfl ?_
    refine wp_iconst 1 xi_20 dX2_follow_71 rfl ?_
    obtain ⟨h48, gh48, H⟩ := Option.bind_eq_some_iff.mp H
    refine wq_putf xi_20 dX2_follow_72 xf_2_71 (Or.inl rfl) gh48 ?_
    obtain rfl := Option.some.inj H
    exact wp_vret xi_20 dX2_follow_75 hq
/- FelledHasLost$History.push(LFelledHasLost$State;)V -/
def f_43  (a : Nat) (p0 : Nat) (h : xH) : Option (xH) :=
  (pFr h a 3 0).bind fun x1 =>
  (pFi h a 3 1).bind fun x2 =>
  (pAa h x1 x2).bind fun x3 =>
  (pG (pIs h x3 7)).bind fun _ =>
  (f_71 x3 p0 h).bind fun h5 =>
  (pFi h5 a 3 1).bind fun x6 =>
  (pRem (x6 + 1) 15).bind fun x7 =>
  (pP h5 a 3 1 (.int x7)).bind fun h8 =>
  (pFi h8 a 3 2).bind fun x9 =>
  (pP h8 a 3 2 (.int (pMin 15 (x9 + 1)))).bind fun h10 =>
  some h10
set_option maxHeartbeats 4000000 in
theorem e_43 (d : Nat) (Q : Option Value → xH → Prop)  {h : xH} {a : Nat} {p0 : Nat} {h1 : xH} (H : f_43  a p0 h = some h1) (hq : Q none h1) : Wp (d + 2) 43 0 [some (.ref a), some (.ref p0)] [] h Q := by
  unfold f_43 at H
  refine wp_aload_n xi_43 dX3_push_0 rfl ?_
  obtain ⟨x1, gx1, H⟩ := Option.bind_eq_some_iff.mp H
  refine wq_getfr xi_43 dX3_push_1 xf_3_11 gx1 ?_
  refine wp_aload_n xi_43 dX3_push_4 rfl ?_
  obtain ⟨x2, gx2, H⟩ := Option.bind_eq_some_iff.mp H
  refine wq_getfi xi_43 dX3_push_5 xf_3_20 gx2 ?_
  obtain ⟨x3, gx3, H⟩ := Option.bind_eq_some_iff.mp H
  refine wq_aaload xi_43 dX3_push_8 gx3 ?_
  refine wp_aload_n xi_43 dX3_push_9 rfl ?_
  obtain ⟨u4, gu4, H⟩ := Option.bind_eq_some_iff.mp H
  obtain ⟨h5, gh5, H⟩ := Option.bind_eq_some_iff.mp H
  refine wq_callV (a := x3) (as := [.ref p0]) (r := []) (v1 := none) xi_43 xi_71 dX3_push_10 xm_3_23 rfl (Nat.le_of_ble_eq_true rfl) (pG_ok gu4) ⟨(Nat.le_of_ble_eq_true rfl), (Nat.le_of_ble_eq_true rfl)⟩ rfl nofun (e_71 d _ gh5 ⟨rfl, rfl⟩) ?_
  change Wp _ _ _ _ [] _ _
  refine wp_aload_n xi_43 dX3_push_13 rfl ?_
  refine wp_aload_n xi_43 dX3_push_14 rfl ?_
  obtain ⟨x6, gx6, H⟩ := Option.bind_eq_some_iff.mp H
  refine wq_getfi xi_43 dX3_push_15 xf_3_20 gx6 ?_
  refine wp_iconst 1 xi_43 dX3_push_18 rfl ?_
  refine wp_iadd xi_43 dX3_push_19 ?_
  refine wp_bipush 15 xi_43 dX3_push_20 rfl ?_
  obtain ⟨x7, gx7, H⟩ := Option.bind_eq_some_iff.mp H
  refine wq_irem xi_43 dX3_push_22 gx7 ?_
  obtain ⟨h8, gh8, H⟩ := Option.bind_eq_some_iff.mp H
  refine wq_putf xi_43 dX3_push_23 xf_3_20 (Or.inl rfl) gh8 ?_
  refine wp_aload_n xi_43 dX3_push_26 rfl ?_
  refine wp_bipush 15 xi_43 dX3_push_27 rfl ?_
  refine wp_aload_n xi_43 dX3_push_29 rfl ?_
  obtain ⟨x9, gx9, H⟩ := Option.bind_eq_some_iff.mp H
  refine wq_getfi xi_43 dX3_push_30 xf_3_16 gx9 ?_
  refine wp_iconst 1 xi_43 dX3_push_33 rfl ?_
  refine wp_iadd xi_43 dX3_push_34 ?_
  refine wq_min xi_43 dX3_push_35 xm_3_27 (Nat.le_of_ble_eq_true rfl) ?_
  obtain ⟨h10, gh10, H⟩ := Option.bind_eq_some_iff.mp H
  refine wq_putf xi_43 dX3_push_38 xf_3_16 (Or.inl rfl) gh10 ?_
  obtain rfl := Option.some.inj H
  exact wp_vret xi_43 dX3_push_41 hq
/- FelledHasLost$History.popInto(LFelledHasLost$State;)V -/
def f_44  (a : Nat) (p0 : Nat) (h : xH) : Option (xH) :=
  (pFi h a 3 2).bind fun x1 =>
  ((if x1 ≤ 0 then
  some (h)
  else
  (pFi h a 3 1).bind fun x15 =>
  (pRem ((x15 + 15) - 1) 15).bind fun x16 =>
  (pP h a 3 1 (.int x16)).bind fun h17 =>
  (pFi h17 a 3 2).bind fun x18 =>
  (pP h17 a 3 2 (.int (x18 - 1))).bind fun h19 =>
  (pFr h19 a 3 0).bind fun x20 =>
  (pFi h19 a 3 1).bind fun x21 =>
  (pAa h19 x20 x21).bind fun x22 =>
  (pG (pIs h19 p0 7)).bind fun _ =>
  (f_71 p0 x22 h19).bind fun h24 =>
  some (h24) : Option (xH))).bind fun (h13 : xH) =>
  some h13
set_option maxHeartbeats 4000000 in
theorem e_44 (d : Nat) (Q : Option Value → xH → Prop)  {h : xH} {a : Nat} {p0 : Nat} {h1 : xH} (H : f_44  a p0 h = some h1) (hq : Q none h1) : Wp (d + 2) 44 0 [some (.ref a), some (.ref p0)] [] h Q := by
  unfold f_44 at H
  refine wp_aload_n xi_44 dX3_popInto_0 rfl ?_
  obtain ⟨x1, gx1, H⟩ := Option.bind_eq_some_iff.mp H
  refine wq_getfi xi_44 dX3_popInto_1 xf_3_16 gx1 ?_
  obtain ⟨h13, G25, H⟩ := Option.bind_eq_some_iff.mp H
  have K14 : Wp (d + 2) 44 46 [some (.ref a), some (.ref p0)] [] h13 Q := by
    obtain rfl := Option.some.inj H
    exact wp_vret xi_44 dX3_popInto_46 hq
  clear H
  have H := G25
  clear G25
  refine wp_if_le 46 xi_44 dX3_popInto_4 rfl (fun c2 => ?_) (fun c2 => ?_)
  · rw [if_pos c2] at H
    obtain rfl := Option.some.inj H
    exact Wp.more (by simp [xMore, Value.category]) K14
  · rw [if_neg c2] at H
    refine wp_aload_n xi_44 dX3_popInto_7 rfl ?_
    refine wp_aload_n xi_44 dX3_popInto_8 rfl ?_
    obtain ⟨x15, gx15, H⟩ := Option.bind_eq_some_iff.mp H
    refine wq_getfi xi_44 dX3_popInto_9 xf_3_20 gx15 ?_
    refine wp_bipush 15 xi_44 dX3_popInto_12 rfl ?_
    refine wp_iadd xi_44 dX3_popInto_14 ?_
    refine wp_iconst 1 xi_44 dX3_popInto_15 rfl ?_
    refine wp_isub xi_44 dX3_popInto_16 ?_
    refine wp_bipush 15 xi_44 dX3_popInto_17 rfl ?_
    obtain ⟨x16, gx16, H⟩ := Option.bind_eq_some_iff.mp H
    refine wq_irem xi_44 dX3_popInto_19 gx16 ?_
    obtain ⟨h17, gh17, H⟩ := Option.bind_eq_some_iff.mp H
    refine wq_putf xi_44 dX3_popInto_20 xf_3_20 (Or.inl rfl) gh17 ?_
    refine wp_aload_n xi_44 dX3_popInto_23 rfl ?_
    refine wp_dup xi_44 dX3_popInto_24 rfl ?_
    obtain ⟨x18, gx18, H⟩ := Option.bind_eq_some_iff.mp H
    refine wq_getfi xi_44 dX3_popInto_25 xf_3_16 gx18 ?_
    refine wp_iconst 1 xi_44 dX3_popInto_28 rfl ?_
    refine wp_isub xi_44 dX3_popInto_29 ?_
    obtain ⟨h19, gh19, H⟩ := Option.bind_eq_some_iff.mp H
    refine wq_putf xi_44 dX3_popInto_30 xf_3_16 (Or.inl rfl) gh19 ?_
    refine wp_aload_n xi_44 dX3_popInto_33 rfl ?_
    refine wp_aload_n xi_44 dX3_popInto_34 rfl ?_
    obtain ⟨x20, gx20, H⟩ := Option.bind_eq_some_iff.mp H
    refine wq_getfr xi_44 dX3_popInto_35 xf_3_11 gx20 ?_
    refine wp_aload_n xi_44 dX3_popInto_38 rfl ?_
    obtain ⟨x21, gx21, H⟩ := Option.bind_eq_some_iff.mp H
    refine wq_getfi xi_44 dX3_popInto_39 xf_3_20 gx21 ?_
    obtain ⟨x22, gx22, H⟩ := Option.bind_eq_some_iff.mp H
    refine wq_aaload xi_44 dX3_popInto_42 gx22 ?_
    obtain ⟨u23, gu23, H⟩ := Option.bind_eq_some_iff.mp H
    obtain ⟨h24, gh24, H⟩ := Option.bind_eq_some_iff.mp H
    refine wq_callV (a := p0) (as := [.ref x22]) (r := []) (v1 := none) xi_44 xi_71 dX3_popInto_43 xm_3_23 rfl (Nat.le_of_ble_eq_true rfl) (pG_ok gu23) ⟨(Nat.le_of_ble_eq_true rfl), (Nat.le_of_ble_eq_true rfl)⟩ rfl nofun (e_71 d _ gh24 ⟨rfl, rfl⟩) ?_
    change Wp _ _ _ _ [] _ _
    obtain rfl := Option.some.inj H
    exact Wp.more (by simp [xMore, Value.category]) K14
/- FelledHasLost$MoveList.step(LFelledHasLost$Text;II)I -/
def f_47  (a : Nat) (p0 : Nat) (p1 : Int32) (p2 : Int32) (h : xH) : Option (Int32 × xH) :=
  (if p2 = 5 then
  (pG (pIs h p0 8)).bind fun _ =>
  (f_77 p0 p1 (xKb + 10 + 8) h).bind fun (x50, h49) =>
  ((if x50 = 0 then
  some ((-1))
  else
  some (0) : Option (Int32))).bind fun (w52 : Int32) =>
  some (w52, h49)
  else
  (if p2 = 3 then
  (pG (pIs h p0 8)).bind fun _ =>
  (f_77 p0 p1 (xKb + 10 + 9) h).bind fun (x43, h42) =>
  ((if x43 = 0 then
  some ((-1))
  else
  some (4) : Option (Int32))).bind fun (w45 : Int32) =>
  some (w45, h42)
  else
  (if p2 = 0 then
  (pG (pIs h a 4)).bind fun _ =>
  (f_48 a p0 p1 p2 h).bind fun (x6, h5) =>
  some (x6, h5)
  else
  (if p2 = 1 then
  (pG (pIs h p0 8)).bind fun _ =>
  (f_76 p0 p1 h).bind fun (x23, h22) =>
  (if x23 = 0 then
  (pG (pIs h22 p0 8)).bind fun _ =>
  (f_77 p0 p1 (xKb + 10 + 10) h22).bind fun (x27, h26) =>
  (if x27 = 0 then
  some ((-1), h26)
  else
  (pFr h26 p0 8 0).bind fun x29 =>
  (pAi h26 x29 p1).bind fun x30 =>
  (pIx (xKb + 10 + 10) (((x30 : Int32).toUInt32 % 65536).toInt32)).bind fun x31 =>
  (if p2 = 4 then
  (pFi h26 a 4 2).bind fun x35 =>
  (pG (pIs h26 a 4)).bind fun _ =>
  (f_268 a ((10 * x35) + x31) h26).bind fun h37 =>
  some (5, h37)
  else
  (pFi h26 a 4 2).bind fun x33 =>
  (pP h26 a 4 2 (.int ((3 * x33) + x31))).bind fun h34 =>
  some (3, h34)))
  else
  (pG (pIs h22 a 4)).bind fun _ =>
  (f_48 a p0 p1 p2 h22).bind fun (x40, h39) =>
  some (x40, h39))
  else
  (pG (pIs h p0 8)).bind fun _ =>
  (f_77 p0 p1 (xKb + 10 + 10) h).bind fun (x10, h9) =>
  (if x10 = 0 then
  some ((-1), h9)
  else
  (pFr h9 p0 8 0).bind fun x12 =>
  (pAi h9 x12 p1).bind fun x13 =>
  (pIx (xKb + 10 + 10) (((x13 : Int32).toUInt32 % 65536).toInt32)).bind fun x14 =>
  (if p2 = 4 then
  (pFi h9 a 4 2).bind fun x18 =>
  (pG (pIs h9 a 4)).bind fun _ =>
  (f_268 a ((10 * x18) + x14) h9).bind fun h20 =>
  some (5, h20)
  else
  (pFi h9 a 4 2).bind fun x16 =>
  (pP h9 a 4 2 (.int ((3 * x16) + x14))).bind fun h17 =>
  some (3, h17)))))))
set_option maxHeartbeats 4000000 in
theorem e_47 (d : Nat) (Q : Option Value → xH → Prop)  {h : xH} {a : Nat} {p0 : Nat} {p1 : Int32} {p2 : Int32} {x : Int32} {h1 : xH} (H : f_47  a p0 p1 p2 h = some (x, h1)) (hq : Q (some (.int x)) h1) : Wp (d + 2) 47 0 [some (.ref a), some (.ref p0), some (.int p1), some (.int p2), none] [] h Q := by
  unfold f_47 at H
  refine wp_iload_n xi_47 dX4_step_0 rfl ?_
  refine wp_iconst 5 xi_47 dX4_step_1 rfl ?_
  refine wp_icmp_ne 21 xi_47 dX4_step_2 rfl (fun c1 => ?_) (fun c1 => ?_)
  · rw [if_neg c1] at H
    refine wp_iload_n xi_47 dX4_step_21 rfl ?_
    refine wp_iconst 3 xi_47 dX4_step_22 rfl ?_
    refine wp_icmp_ne 42 xi_47 dX4_step_23 rfl (fun c2 => ?_) (fun c2 => ?_)
    · rw [if_neg c2] at H
      refine wp_iload_n xi_47 dX4_step_42 rfl ?_
      refine wp_if_eq 59 xi_47 dX4_step_43 rfl (fun c3 => ?_) (fun c3 => ?_)
      · rw [if_pos c3] at H
        refine wp_aload_n xi_47 dX4_step_59 rfl ?_
        refine wp_aload_n xi_47 dX4_step_60 rfl ?_
        refine wp_iload_n xi_47 dX4_step_61 rfl ?_
        refine wp_iload_n xi_47 dX4_step_62 rfl ?_
        obtain ⟨u4, gu4, H⟩ := Option.bind_eq_some_iff.mp H
        obtain ⟨⟨x6, h5⟩, gh5, H⟩ := Option.bind_eq_some_iff.mp H
        dsimp only at H
        refine wq_callV (a := a) (as := [.ref p0, .int p1, .int p2]) (r := []) (v1 := (some (.int x6))) xi_47 xi_48 dX4_step_63 xm_4_46 rfl (Nat.le_of_ble_eq_true rfl) (pG_ok gu4) ⟨(Nat.le_of_ble_eq_true rfl), (Nat.le_of_ble_eq_true rfl)⟩ rfl nofun (e_48 d _ gh5 ⟨rfl, rfl⟩) ?_
        change Wp _ _ _ _ [.int x6] _ _
        obtain ⟨rfl, rfl⟩ := oi2 H
        exact wp_iret xi_47 dX4_step_66 hq
      · rw [if_neg c3] at H
        refine wp_iload_n xi_47 dX4_step_46 rfl ?_
        refine wp_iconst 1 xi_47 dX4_step_47 rfl ?_
        refine wp_icmp_ne 67 xi_47 dX4_step_48 rfl (fun c7 => ?_) (fun c7 => ?_)
        · rw [if_neg c7] at H
          refine wp_aload_n xi_47 dX4_step_67 rfl ?_
          refine wp_iload_n xi_47 dX4_step_68 rfl ?_
          refine wp_ldcS xi_47 dX4_step_69 xs0_4_49 xs_4_49 ?_
          obtain ⟨u8, gu8, H⟩ := Option.bind_eq_some_iff.mp H
          obtain ⟨⟨x10, h9⟩, gh9, H⟩ := Option.bind_eq_some_iff.mp H
          dsimp only at H
          refine wq_callV (a := p0) (as := [.int p1, .ref (xKb + 10 + 10)]) (r := []) (v1 := (some (.int x10))) xi_47 xi_77 dX4_step_71 xm_4_36 rfl (Nat.le_of_ble_eq_true rfl) (pG_ok gu8) ⟨(Nat.le_of_ble_eq_true rfl), (Nat.le_of_ble_eq_true rfl)⟩ rfl nofun (e_77 (d + 1) _ gh9 ⟨rfl, rfl⟩) ?_
          change Wp _ _ _ _ [.int x10] _ _
          refine wp_if_ne 79 xi_47 dX4_step_74 rfl (fun c11 => ?_) (fun c11 => ?_)
          · rw [if_neg c11] at H
            refine wp_ldcS xi_47 dX4_step_79 xs0_4_49 xs_4_49 ?_
            refine wp_aload_n xi_47 dX4_step_81 rfl ?_
            obtain ⟨x12, gx12, H⟩ := Option.bind_eq_some_iff.mp H
            refine wq_getfr xi_47 dX4_step_82 xf_4_51 gx12 ?_
            refine wp_iload_n xi_47 dX4_step_85 rfl ?_
            obtain ⟨x13, gx13, H⟩ := Option.bind_eq_some_iff.mp H
            refine wq_iaload xi_47 dX4_step_86 gx13 ?_
            refine wp_i2c xi_47 dX4_step_87 ?_
            obtain ⟨x14, gx14, H⟩ := Option.bind_eq_some_iff.mp H
            refine wq_ix xi_47 dX4_step_88 xm_4_54 (Nat.le_of_ble_eq_true rfl) gx14 ?_
            refine wp_istore [some (.ref a), some (.ref p0), some (.int p1), some (.int p2), some (.int x14)] xi_47 dX4_step_91 rfl ?_
            refine wp_iload_n xi_47 dX4_step_93 rfl ?_
            refine wp_iconst 4 xi_47 dX4_step_94 rfl ?_
            refine wp_icmp_ne 114 xi_47 dX4_step_95 rfl (fun c15 => ?_) (fun c15 => ?_)
            · rw [if_neg c15] at H
              refine wp_aload_n xi_47 dX4_step_114 rfl ?_
              refine wp_iconst 3 xi_47 dX4_step_115 rfl ?_
              refine wp_aload_n xi_47 dX4_step_116 rfl ?_
              obtain ⟨x16, gx16, H⟩ := Option.bind_eq_some_iff.mp H
              refine wq_getfi xi_47 dX4_step_117 xf_4_60 gx16 ?_
              refine wp_imul xi_47 dX4_step_120 ?_
              refine wp_iload xi_47 dX4_step_121 rfl ?_
              refine wp_iadd xi_47 dX4_step_123 ?_
              obtain ⟨h17, gh17, H⟩ := Option.bind_eq_some_iff.mp H
              refine wq_putf xi_47 dX4_step_124 xf_4_60 (Or.inl rfl) gh17 ?_
              refine wp_iconst 3 xi_47 dX4_step_127 rfl ?_
              obtain ⟨rfl, rfl⟩ := oi2 H
              exact wp_iret xi_47 dX4_step_128 hq
            · rw [if_pos c15] at H
              refine wp_aload_n xi_47 dX4_step_98 rfl ?_
              refine wp_bipush 10 xi_47 dX4_step_99 rfl ?_
              refine wp_aload_n xi_47 dX4_step_101 rfl ?_
              obtain ⟨x18, gx18, H⟩ := Option.bind_eq_some_iff.mp H
              refine wq_getfi xi_47 dX4_step_102 xf_4_60 gx18 ?_
              refine wp_imul xi_47 dX4_step_105 ?_
              refine wp_iload xi_47 dX4_step_106 rfl ?_
              refine wp_iadd xi_47 dX4_step_108 ?_
              obtain ⟨u19, gu19, H⟩ := Option.bind_eq_some_iff.mp H
              obtain ⟨h20, gh20, H⟩ := Option.bind_eq_some_iff.mp H
              refine wq_callV (a := a) (as := [.int ((10 * x18) + x14)]) (r := []) (v1 := none) xi_47 xi_268 dX4_step_109 xm_4_63 rfl (Nat.le_of_ble_eq_true rfl) (pG_ok gu19) ⟨(Nat.le_of_ble_eq_true rfl), (Nat.le_of_ble_eq_true rfl)⟩ rfl nofun (e_268 (d + 1) _ gh20 ⟨rfl, rfl⟩) ?_
              change Wp _ _ _ _ [] _ _
              refine wp_iconst 5 xi_47 dX4_step_112 rfl ?_
              obtain ⟨rfl, rfl⟩ := oi2 H
              exact wp_iret xi_47 dX4_step_113 hq
          · rw [if_pos c11] at H
            refine wp_iconst (-1) xi_47 dX4_step_77 rfl ?_
            obtain ⟨rfl, rfl⟩ := oi2 H
            exact wp_iret xi_47 dX4_step_78 hq
        · rw [if_pos c7] at H
          refine wp_aload_n xi_47 dX4_step_51 rfl ?_
          refine wp_iload_n xi_47 dX4_step_52 rfl ?_
          obtain ⟨u21, gu21, H⟩ := Option.bind_eq_some_iff.mp H
          obtain ⟨⟨x23, h22⟩, gh22, H⟩ := Option.bind_eq_some_iff.mp H
          dsimp only at H
          refine wq_callV (a := p0) (as := [.int p1]) (r := []) (v1 := (some (.int x23))) xi_47 xi_76 dX4_step_53 xm_4_42 rfl (Nat.le_of_ble_eq_true rfl) (pG_ok gu21) ⟨(Nat.le_of_ble_eq_true rfl), (Nat.le_of_ble_eq_true rfl)⟩ rfl nofun (e_76 (d + 1) _ gh22 ⟨rfl, rfl⟩) ?_
          change Wp _ _ _ _ [.int x23] _ _
          refine wp_if_eq 67 xi_47 dX4_step_56 rfl (fun c24 => ?_) (fun c24 => ?_)
          · rw [if_pos c24] at H
            refine wp_aload_n xi_47 dX4_step_67 rfl ?_
            refine wp_iload_n xi_47 dX4_step_68 rfl ?_
            refine wp_ldcS xi_47 dX4_step_69 xs0_4_49 xs_4_49 ?_
            obtain ⟨u25, gu25, H⟩ := Option.bind_eq_some_iff.mp H
            obtain ⟨⟨x27, h26⟩, gh26, H⟩ := Option.bind_eq_some_iff.mp H
            dsimp only at H
            refine wq_callV (a := p0) (as := [.int p1, .ref (xKb + 10 + 10)]) (r := []) (v1 := (some (.int x27))) xi_47 xi_77 dX4_step_71 xm_4_36 rfl (Nat.le_of_ble_eq_true rfl) (pG_ok gu25) ⟨(Nat.le_of_ble_eq_true rfl), (Nat.le_of_ble_eq_true rfl)⟩ rfl nofun (e_77 (d + 1) _ gh26 ⟨rfl, rfl⟩) ?_
            change Wp _ _ _ _ [.int x27] _ _
            refine wp_if_ne 79 xi_47 dX4_step_74 rfl (fun c28 => ?_) (fun c28 => ?_)
            · rw [if_neg c28] at H
              refine wp_ldcS xi_47 dX4_step_79 xs0_4_49 xs_4_49 ?_
              refine wp_aload_n xi_47 dX4_step_81 rfl ?_
              obtain ⟨x29, gx29, H⟩ := Option.bind_eq_some_iff.mp H
              refine wq_getfr xi_47 dX4_step_82 xf_4_51 gx29 ?_
              refine wp_iload_n xi_47 dX4_step_85 rfl ?_
              obtain ⟨x30, gx30, H⟩ := Option.bind_eq_some_iff.mp H
              refine wq_iaload xi_47 dX4_step_86 gx30 ?_
              refine wp_i2c xi_47 dX4_step_87 ?_
              obtain ⟨x31, gx31, H⟩ := Option.bind_eq_some_iff.mp H
              refine wq_ix xi_47 dX4_step_88 xm_4_54 (Nat.le_of_ble_eq_true rfl) gx31 ?_
              refine wp_istore [some (.ref a), some (.ref p0), some (.int p1), some (.int p2), some (.int x31)] xi_47 dX4_step_91 rfl ?_
              refine wp_iload_n xi_47 dX4_step_93 rfl ?_
              refine wp_iconst 4 xi_47 dX4_step_94 rfl ?_
              refine wp_icmp_ne 114 xi_47 dX4_step_95 rfl (fun c32 => ?_) (fun c32 => ?_)
              · rw [if_neg c32] at H
                refine wp_aload_n xi_47 dX4_step_114 rfl ?_
                refine wp_iconst 3 xi_47 dX4_step_115 rfl ?_
                refine wp_aload_n xi_47 dX4_step_116 rfl ?_
                obtain ⟨x33, gx33, H⟩ := Option.bind_eq_some_iff.mp H
                refine wq_getfi xi_47 dX4_step_117 xf_4_60 gx33 ?_
                refine wp_imul xi_47 dX4_step_120 ?_
                refine wp_iload xi_47 dX4_step_121 rfl ?_
                refine wp_iadd xi_47 dX4_step_123 ?_
                obtain ⟨h34, gh34, H⟩ := Option.bind_eq_some_iff.mp H
                refine wq_putf xi_47 dX4_step_124 xf_4_60 (Or.inl rfl) gh34 ?_
                refine wp_iconst 3 xi_47 dX4_step_127 rfl ?_
                obtain ⟨rfl, rfl⟩ := oi2 H
                exact wp_iret xi_47 dX4_step_128 hq
              · rw [if_pos c32] at H
                refine wp_aload_n xi_47 dX4_step_98 rfl ?_
                refine wp_bipush 10 xi_47 dX4_step_99 rfl ?_
                refine wp_aload_n xi_47 dX4_step_101 rfl ?_
                obtain ⟨x35, gx35, H⟩ := Option.bind_eq_some_iff.mp H
                refine wq_getfi xi_47 dX4_step_102 xf_4_60 gx35 ?_
                refine wp_imul xi_47 dX4_step_105 ?_
                refine wp_iload xi_47 dX4_step_106 rfl ?_
                refine wp_iadd xi_47 dX4_step_108 ?_
                obtain ⟨u36, gu36, H⟩ := Option.bind_eq_some_iff.mp H
                obtain ⟨h37, gh37, H⟩ := Option.bind_eq_some_iff.mp H
                refine wq_callV (a := a) (as := [.int ((10 * x35) + x31)]) (r := []) (v1 := none) xi_47 xi_268 dX4_step_109 xm_4_63 rfl (Nat.le_of_ble_eq_true rfl) (pG_ok gu36) ⟨(Nat.le_of_ble_eq_true rfl), (Nat.le_of_ble_eq_true rfl)⟩ rfl nofun (e_268 (d + 1) _ gh37 ⟨rfl, rfl⟩) ?_
                change Wp _ _ _ _ [] _ _
                refine wp_iconst 5 xi_47 dX4_step_112 rfl ?_
                obtain ⟨rfl, rfl⟩ := oi2 H
                exact wp_iret xi_47 dX4_step_113 hq
            · rw [if_pos c28] at H
              refine wp_iconst (-1) xi_47 dX4_step_77 rfl ?_
              obtain ⟨rfl, rfl⟩ := oi2 H
              exact wp_iret xi_47 dX4_step_78 hq
          · rw [if_neg c24] at H
            refine wp_aload_n xi_47 dX4_step_59 rfl ?_
            refine wp_aload_n xi_47 dX4_step_60 rfl ?_
            refine wp_iload_n xi_47 dX4_step_61 rfl ?_
            refine wp_iload_n xi_47 dX4_step_62 rfl ?_
            obtain ⟨u38, gu38, H⟩ := Option.bind_eq_some_iff.mp H
            obtain ⟨⟨x40, h39⟩, gh39, H⟩ := Option.bind_eq_some_iff.mp H
            dsimp only at H
            refine wq_callV (a := a) (as := [.ref p0, .int p1, .int p2]) (r := []) (v1 := (some (.int x40))) xi_47 xi_48 dX4_step_63 xm_4_46 rfl (Nat.le_of_ble_eq_true rfl) (pG_ok gu38) ⟨(Nat.le_of_ble_eq_true rfl), (Nat.le_of_ble_eq_true rfl)⟩ rfl nofun (e_48 d _ gh39 ⟨rfl, rfl⟩) ?_
            change Wp _ _ _ _ [.int x40] _ _
            obtain ⟨rfl, rfl⟩ := oi2 H
            exact wp_iret xi_47 dX4_step_66 hq
    · rw [if_pos c2] at H
      refine wp_aload_n xi_47 dX4_step_26 rfl ?_
      refine wp_iload_n xi_47 dX4_step_27 rfl ?_
      refine wp_ldcS xi_47 dX4_step_28 xs0_4_40 xs_4_40 ?_
      obtain ⟨u41, gu41, H⟩ := Option.bind_eq_some_iff.mp H
      obtain ⟨⟨x43, h42⟩, gh42, H⟩ := Option.bind_eq_some_iff.mp H
      dsimp only at H
      refine wq_callV (a := p0) (as := [.int p1, .ref (xKb + 10 + 9)]) (r := []) (v1 := (some (.int x43))) xi_47 xi_77 dX4_step_30 xm_4_36 rfl (Nat.le_of_ble_eq_true rfl) (pG_ok gu41) ⟨(Nat.le_of_ble_eq_true rfl), (Nat.le_of_ble_eq_true rfl)⟩ rfl nofun (e_77 (d + 1) _ gh42 ⟨rfl, rfl⟩) ?_
      change Wp _ _ _ _ [.int x43] _ _
      obtain ⟨w45, G47, H⟩ := Option.bind_eq_some_iff.mp H
      have K46 : Wp (d + 2) 47 41 [some (.ref a), some (.ref p0), some (.int p1), some (.int p2), none] [.int w45] h42 Q := by
        obtain ⟨rfl, rfl⟩ := oi2 H
        exact wp_iret xi_47 dX4_step_41 hq
      clear H
      have H := G47
      clear G47
      refine wp_if_eq 40 xi_47 dX4_step_33 rfl (fun c44 => ?_) (fun c44 => ?_)
      · rw [if_pos c44] at H
        refine wp_iconst (-1) xi_47 dX4_step_40 rfl ?_
        obtain rfl := Option.some.inj H
        exact Wp.more (by simp [xMore, Value.category]) K46
      · rw [if_neg c44] at H
        refine wp_iconst 4 xi_47 dX4_step_36 rfl ?_
        refine wp_goto 41 xi_47 dX4_step_37 rfl ?_
        obtain rfl := Option.some.inj H
        exact Wp.more (by simp [xMore, Value.category]) K46
  · rw [if_pos c1] at H
    refine wp_aload_n xi_47 dX4_step_5 rfl ?_
    refine wp_iload_n xi_47 dX4_step_6 rfl ?_
    refine wp_ldcS xi_47 dX4_step_7 xs0_4_34 xs_4_34 ?_
    obtain ⟨u48, gu48, H⟩ := Option.bind_eq_some_iff.mp H
    obtain ⟨⟨x50, h49⟩, gh49, H⟩ := Option.bind_eq_some_iff.mp H
    dsimp only at H
    refine wq_callV (a := p0) (as := [.int p1, .ref (xKb + 10 + 8)]) (r := []) (v1 := (some (.int x50))) xi_47 xi_77 dX4_step_9 xm_4_36 rfl (Nat.le_of_ble_eq_true rfl) (pG_ok gu48) ⟨(Nat.le_of_ble_eq_true rfl), (Nat.le_of_ble_eq_true rfl)⟩ rfl nofun (e_77 (d + 1) _ gh49 ⟨rfl, rfl⟩) ?_
    change Wp _ _ _ _ [.int x50] _ _
    obtain ⟨w52, G54, H⟩ := Option.bind_eq_some_iff.mp H
    have K53 : Wp (d + 2) 47 20 [some (.ref a), some (.ref p0), some (.int p1), some (.int p2), none] [.int w52] h49 Q := by
      obtain ⟨rfl, rfl⟩ := oi2 H
      exact wp_iret xi_47 dX4_step_20 hq
    clear H
    have H := G54
    clear G54
    refine wp_if_eq 19 xi_47 dX4_step_12 rfl (fun c51 => ?_) (fun c51 => ?_)
    · rw [if_pos c51] at H
      refine wp_iconst (-1) xi_47 dX4_step_19 rfl ?_
      obtain rfl := Option.some.inj H
      exact Wp.more (by simp [xMore, Value.category]) K53
    · rw [if_neg c51] at H
      refine wp_iconst 0 xi_47 dX4_step_15 rfl ?_
      refine wp_goto 20 xi_47 dX4_step_16 rfl ?_
      obtain rfl := Option.some.inj H
      exact Wp.more (by simp [xMore, Value.category]) K53
/- FelledHasLost$Rule.readBehindThing(LFelledHasLost$Text;I)Z -/
def f_60  (a : Nat) (p0 : Nat) (p1 : Int32) (h : xH) : Option (Int32 × xH) :=
  (pG (pIs h p0 8)).bind fun _ =>
  (f_76 p0 p1 h).bind fun (x3, h2) =>
  (if x3 = 0 then
  (pP h2 a 6 9 (.int 0)).bind fun h5 =>
  (pG (pIs h5 p0 8)).bind fun _ =>
  (f_77 p0 p1 (xKb + 10 + 6) h5).bind fun (x8, h7) =>
  (if x8 = 0 then
  (pG (pIs h7 p0 8)).bind fun _ =>
  (f_77 p0 p1 (xKb + 10 + 7) h7).bind fun (x12, h11) =>
  ((if x12 = 0 then
  some (0, h11)
  else
  (pFr h11 p0 8 0).bind fun x23 =>
  (pAi h11 x23 p1).bind fun x24 =>
  (pG (pIs h11 a 6)).bind fun _ =>
  (f_61 a x24 h11).bind fun (x27, h26) =>
  (if x27 = 0 then
  some (0, h26)
  else
  some (1, h26)) : Option (Int32 × xH))).bind fun (w20, h21) =>
  pZ w20 h21
  else
  (pFi h7 a 6 8).bind fun x30 =>
  (if x30 ≤ 0 then
  (pG (pIs h7 p0 8)).bind fun _ =>
  (f_77 p0 p1 (xKb + 10 + 7) h7).bind fun (x34, h33) =>
  ((if x34 = 0 then
  some (0, h33)
  else
  (pFr h33 p0 8 0).bind fun x45 =>
  (pAi h33 x45 p1).bind fun x46 =>
  (pG (pIs h33 a 6)).bind fun _ =>
  (f_61 a x46 h33).bind fun (x49, h48) =>
  (if x49 = 0 then
  some (0, h48)
  else
  some (1, h48)) : Option (Int32 × xH))).bind fun (w42, h43) =>
  pZ w42 h43
  else
  (pG (pIs h7 a 6)).bind fun _ =>
  (f_63 a 0 h7).bind fun h53 =>
  (pFi h53 a 6 7).bind fun x54 =>
  (pP h53 a 6 7 (.int (x54 - 1))).bind fun h55 =>
  (pFi h55 a 6 8).bind fun x56 =>
  (pP h55 a 6 8 (.int (x56 - 1))).bind fun h57 =>
  pZ 1 h57))
  else
  (pFi h2 a 6 9).bind fun x58 =>
  (if x58 ≤ 0 then
  (pP h2 a 6 9 (.int 0)).bind fun h60 =>
  (pG (pIs h60 p0 8)).bind fun _ =>
  (f_77 p0 p1 (xKb + 10 + 6) h60).bind fun (x63, h62) =>
  (if x63 = 0 then
  (pG (pIs h62 p0 8)).bind fun _ =>
  (f_77 p0 p1 (xKb + 10 + 7) h62).bind fun (x67, h66) =>
  ((if x67 = 0 then
  some (0, h66)
  else
  (pFr h66 p0 8 0).bind fun x78 =>
  (pAi h66 x78 p1).bind fun x79 =>
  (pG (pIs h66 a 6)).bind fun _ =>
  (f_61 a x79 h66).bind fun (x82, h81) =>
  (if x82 = 0 then
  some (0, h81)
  else
  some (1, h81)) : Option (Int32 × xH))).bind fun (w75, h76) =>
  pZ w75 h76
  else
  (pFi h62 a 6 8).bind fun x85 =>
  (if x85 ≤ 0 then
  (pG (pIs h62 p0 8)).bind fun _ =>
  (f_77 p0 p1 (xKb + 10 + 7) h62).bind fun (x89, h88) =>
  ((if x89 = 0 then
  some (0, h88)
  else
  (pFr h88 p0 8 0).bind fun x100 =>
  (pAi h88 x100 p1).bind fun x101 =>
  (pG (pIs h88 a 6)).bind fun _ =>
  (f_61 a x101 h88).bind fun (x104, h103) =>
  (if x104 = 0 then
  some (0, h103)
  else
  some (1, h103)) : Option (Int32 × xH))).bind fun (w97, h98) =>
  pZ w97 h98
  else
  (pG (pIs h62 a 6)).bind fun _ =>
  (f_63 a 0 h62).bind fun h108 =>
  (pFi h108 a 6 7).bind fun x109 =>
  (pP h108 a 6 7 (.int (x109 - 1))).bind fun h110 =>
  (pFi h110 a 6 8).bind fun x111 =>
  (pP h110 a 6 8 (.int (x111 - 1))).bind fun h112 =>
  pZ 1 h112))
  else
  (pFi h2 a 6 9).bind fun x113 =>
  (if (3 : Int32) ≤ x113 then
  (pP h2 a 6 9 (.int 0)).bind fun h115 =>
  (pG (pIs h115 p0 8)).bind fun _ =>
  (f_77 p0 p1 (xKb + 10 + 6) h115).bind fun (x118, h117) =>
  (if x118 = 0 then
  (pG (pIs h117 p0 8)).bind fun _ =>
  (f_77 p0 p1 (xKb + 10 + 7) h117).bind fun (x122, h121) =>
  ((if x122 = 0 then
  some (0, h121)
  else
  (pFr h121 p0 8 0).bind fun x133 =>
  (pAi h121 x133 p1).bind fun x134 =>
  (pG (pIs h121 a 6)).bind fun _ =>
  (f_61 a x134 h121).bind fun (x137, h136) =>
  (if x137 = 0 then
  some (0, h136)
  else
  some (1, h136)) : Option (Int32 × xH))).bind fun (w130, h131) =>
  pZ w130 h131
  else
  (pFi h117 a 6 8).bind fun x140 =>
  (if x140 ≤ 0 then
  (pG (pIs h117 p0 8)).bind fun _ =>
  (f_77 p0 p1 (xKb + 10 + 7) h117).bind fun (x144, h143) =>
  ((if x144 = 0 then
  some (0, h143)
  else
  (pFr h143 p0 8 0).bind fun x155 =>
  (pAi h143 x155 p1).bind fun x156 =>
  (pG (pIs h143 a 6)).bind fun _ =>
  (f_61 a x156 h143).bind fun (x159, h158) =>
  (if x159 = 0 then
  some (0, h158)
  else
  some (1, h158)) : Option (Int32 × xH))).bind fun (w152, h153) =>
  pZ w152 h153
  else
  (pG (pIs h117 a 6)).bind fun _ =>
  (f_63 a 0 h117).bind fun h163 =>
  (pFi h163 a 6 7).bind fun x164 =>
  (pP h163 a 6 7 (.int (x164 - 1))).bind fun h165 =>
  (pFi h165 a 6 8).bind fun x166 =>
  (pP h165 a 6 8 (.int (x166 - 1))).bind fun h167 =>
  pZ 1 h167))
  else
  (pFi h2 a 6 6).bind fun x168 =>
  (if x168 ≤ 0 then
  (pP h2 a 6 9 (.int 0)).bind fun h170 =>
  (pG (pIs h170 p0 8)).bind fun _ =>
  (f_77 p0 p1 (xKb + 10 + 6) h170).bind fun (x173, h172) =>
  (if x173 = 0 then
  (pG (pIs h172 p0 8)).bind fun _ =>
  (f_77 p0 p1 (xKb + 10 + 7) h172).bind fun (x177, h176) =>
  ((if x177 = 0 then
  some (0, h176)
  else
  (pFr h176 p0 8 0).bind fun x188 =>
  (pAi h176 x188 p1).bind fun x189 =>
  (pG (pIs h176 a 6)).bind fun _ =>
  (f_61 a x189 h176).bind fun (x192, h191) =>
  (if x192 = 0 then
  some (0, h191)
  else
  some (1, h191)) : Option (Int32 × xH))).bind fun (w185, h186) =>
  pZ w185 h186
  else
  (pFi h172 a 6 8).bind fun x195 =>
  (if x195 ≤ 0 then
  (pG (pIs h172 p0 8)).bind fun _ =>
  (f_77 p0 p1 (xKb + 10 + 7) h172).bind fun (x199, h198) =>
  ((if x199 = 0 then
  some (0, h198)
  else
  (pFr h198 p0 8 0).bind fun x210 =>
  (pAi h198 x210 p1).bind fun x211 =>
  (pG (pIs h198 a 6)).bind fun _ =>
  (f_61 a x211 h198).bind fun (x214, h213) =>
  (if x214 = 0 then
  some (0, h213)
  else
  some (1, h213)) : Option (Int32 × xH))).bind fun (w207, h208) =>
  pZ w207 h208
  else
  (pG (pIs h172 a 6)).bind fun _ =>
  (f_63 a 0 h172).bind fun h218 =>
  (pFi h218 a 6 7).bind fun x219 =>
  (pP h218 a 6 7 (.int (x219 - 1))).bind fun h220 =>
  (pFi h220 a 6 8).bind fun x221 =>
  (pP h220 a 6 8 (.int (x221 - 1))).bind fun h222 =>
  pZ 1 h222))
  else
  (pFr h2 a 6 1).bind fun x223 =>
  (pFi h2 a 6 6).bind fun x224 =>
  (pFr h2 a 6 1).bind fun x225 =>
  (pFi h2 a 6 6).bind fun x226 =>
  (pAi h2 x225 (x226 - 1)).bind fun x227 =>
  (pFr h2 p0 8 0).bind fun x228 =>
  (pAi h2 x228 p1).bind fun x229 =>
  (pSi h2 x223 (x224 - 1) (((10 * x227) + x229) - 48)).bind fun h230 =>
  (pFi h230 a 6 9).bind fun x231 =>
  (pP h230 a 6 9 (.int (x231 + 1))).bind fun h232 =>
  pZ 1 h232))))
set_option maxHeartbeats 4000000 in
theorem e_60 (d : Nat) (Q : Option Value → xH → Prop)  {h : xH} {a : Nat} {p0 : Nat} {p1 : Int32} {x : Int32} {h1 : xH} (H : f_60  a p0 p1 h = some (x, h1)) (hq : Q (some (.int x)) h1) : Wp (d + 3) 60 0 [some (.ref a), some (.ref p0), some (.int p1)] [] h Q := by
  unfold f_60 at H
  refine wp_aload_n xi_60 dX6_readBehindThing_0 rfl ?_
  refine wp_iload_n xi_60 dX6_readBehindThing_1 rfl ?_
  obtain ⟨u1, gu1, H⟩ := Option.bind_eq_some_iff.mp H
  obtain ⟨⟨x3, h2⟩, gh2, H⟩ := Option.bind_eq_some_iff.mp H
  dsimp only at H
  refine wq_callV (a := p0) (as := [.int p1]) (r := []) (v1 := (some (.int x3))) xi_60 xi_76 dX6_readBehindThing_2 xm_6_107 rfl (Nat.le_of_ble_eq_true rfl) (pG_ok gu1) ⟨(Nat.le_of_ble_eq_true rfl), (Nat.le_of_ble_eq_true rfl)⟩ rfl nofun (e_76 (d + 2) _ gh2 ⟨rfl, rfl⟩) ?_
  change Wp _ _ _ _ [.int x3] _ _
  refine wp_if_eq 77 xi_60 dX6_readBehindThing_5 rfl (fun c4 => ?_) (fun c4 => ?_)
  · rw [if_pos c4] at H
    refine wp_aload_n xi_60 dX6_readBehindThing_77 rfl ?_
    refine wp_iconst 0 xi_60 dX6_readBehindThing_78 rfl ?_
    obtain ⟨h5, gh5, H⟩ := Option.bind_eq_some_iff.mp H
    refine wq_putf xi_60 dX6_readBehindThing_79 xf_6_82 (Or.inl rfl) gh5 ?_
    refine wp_aload_n xi_60 dX6_readBehindThing_82 rfl ?_
    refine wp_iload_n xi_60 dX6_readBehindThing_83 rfl ?_
    refine wp_ldcS xi_60 dX6_readBehindThing_84 xs0_6_114 xs_6_114 ?_
    obtain ⟨u6, gu6, H⟩ := Option.bind_eq_some_iff.mp H
    obtain ⟨⟨x8, h7⟩, gh7, H⟩ := Option.bind_eq_some_iff.mp H
    dsimp only at H
    refine wq_callV (a := p0) (as := [.int p1, .ref (xKb + 10 + 6)]) (r := []) (v1 := (some (.int x8))) xi_60 xi_77 dX6_readBehindThing_86 xm_6_98 rfl (Nat.le_of_ble_eq_true rfl) (pG_ok gu6) ⟨(Nat.le_of_ble_eq_true rfl), (Nat.le_of_ble_eq_true rfl)⟩ rfl nofun (e_77 (d + 2) _ gh7 ⟨rfl, rfl⟩) ?_
    change Wp _ _ _ _ [.int x8] _ _
    refine wp_if_eq 126 xi_60 dX6_readBehindThing_89 rfl (fun c9 => ?_) (fun c9 => ?_)
    · rw [if_pos c9] at H
      refine wp_aload_n xi_60 dX6_readBehindThing_126 rfl ?_
      refine wp_iload_n xi_60 dX6_readBehindThing_127 rfl ?_
      refine wp_ldcS xi_60 dX6_readBehindThing_128 xs0_6_116 xs_6_116 ?_
      obtain ⟨u10, gu10, H⟩ := Option.bind_eq_some_iff.mp H
      obtain ⟨⟨x12, h11⟩, gh11, H⟩ := Option.bind_eq_some_iff.mp H
      dsimp only at H
      refine wq_callV (a := p0) (as := [.int p1, .ref (xKb + 10 + 7)]) (r := []) (v1 := (some (.int x12))) xi_60 xi_77 dX6_readBehindThing_130 xm_6_98 rfl (Nat.le_of_ble_eq_true rfl) (pG_ok gu10) ⟨(Nat.le_of_ble_eq_true rfl), (Nat.le_of_ble_eq_true rfl)⟩ rfl nofun (e_77 (d + 2) _ gh11 ⟨rfl, rfl⟩) ?_
      change Wp _ _ _ _ [.int x12] _ _
      obtain ⟨⟨w20, h21⟩, G29, H⟩ := Option.bind_eq_some_iff.mp H
      dsimp only at H
      have K22 : Wp (d + 3) 60 154 [some (.ref a), some (.ref p0), some (.int p1)] [.int w20] h21 Q := by
        obtain ⟨gz, hz⟩ := pZ_ok H
        obtain ⟨rfl, rfl⟩ := Prod.mk.inj hz
        exact wp_zret xi_60 dX6_readBehindThing_154 gz hq
      clear H
      have H := G29
      clear G29
      refine wp_if_eq 153 xi_60 dX6_readBehindThing_133 rfl (fun c13 => ?_) (fun c13 => ?_)
      · rw [if_pos c13] at H
        refine wp_iconst 0 xi_60 dX6_readBehindThing_153 rfl ?_
        simp only [Option.some.injEq, Prod.mk.injEq] at H
        obtain ⟨rfl, rfl⟩ := H
        exact Wp.more (by simp [xMore, Value.category]) K22
      · rw [if_neg c13] at H
        refine wp_aload_n xi_60 dX6_readBehindThing_136 rfl ?_
        refine wp_aload_n xi_60 dX6_readBehindThing_137 rfl ?_
        obtain ⟨x23, gx23, H⟩ := Option.bind_eq_some_iff.mp H
        refine wq_getfr xi_60 dX6_readBehindThing_138 xf_6_111 gx23 ?_
        refine wp_iload_n xi_60 dX6_readBehindThing_141 rfl ?_
        obtain ⟨x24, gx24, H⟩ := Option.bind_eq_some_iff.mp H
        refine wq_iaload xi_60 dX6_readBehindThing_142 gx24 ?_
        obtain ⟨u25, gu25, H⟩ := Option.bind_eq_some_iff.mp H
        obtain ⟨⟨x27, h26⟩, gh26, H⟩ := Option.bind_eq_some_iff.mp H
        dsimp only at H
        refine wq_callV (a := a) (as := [.int x24]) (r := []) (v1 := (some (.int x27))) xi_60 xi_61 dX6_readBehindThing_143 xm_6_118 rfl (Nat.le_of_ble_eq_true rfl) (pG_ok gu25) ⟨(Nat.le_of_ble_eq_true rfl), (Nat.le_of_ble_eq_true rfl)⟩ rfl nofun (e_61 d _ gh26 ⟨rfl, rfl⟩) ?_
        change Wp _ _ _ _ [.int x27] _ _
        refine wp_if_eq 153 xi_60 dX6_readBehindThing_146 rfl (fun c28 => ?_) (fun c28 => ?_)
        · rw [if_pos c28] at H
          refine wp_iconst 0 xi_60 dX6_readBehindThing_153 rfl ?_
          simp only [Option.some.injEq, Prod.mk.injEq] at H
          obtain ⟨rfl, rfl⟩ := H
          exact Wp.more (by simp [xMore, Value.category]) K22
        · rw [if_neg c28] at H
          refine wp_iconst 1 xi_60 dX6_readBehindThing_149 rfl ?_
          refine wp_goto 154 xi_60 dX6_readBehindThing_150 rfl ?_
          simp only [Option.some.injEq, Prod.mk.injEq] at H
          obtain ⟨rfl, rfl⟩ := H
          exact Wp.more (by simp [xMore, Value.category]) K22
    · rw [if_neg c9] at H
      refine wp_aload_n xi_60 dX6_readBehindThing_92 rfl ?_
      obtain ⟨x30, gx30, H⟩ := Option.bind_eq_some_iff.mp H
      refine wq_getfi xi_60 dX6_readBehindThing_93 xf_6_60 gx30 ?_
      refine wp_if_le 126 xi_60 dX6_readBehindThing_96 rfl (fun c31 => ?_) (fun c31 => ?_)
      · rw [if_pos c31] at H
        refine wp_aload_n xi_60 dX6_readBehindThing_126 rfl ?_
        refine wp_iload_n xi_60 dX6_readBehindThing_127 rfl ?_
        refine wp_ldcS xi_60 dX6_readBehindThing_128 xs0_6_116 xs_6_116 ?_
        obtain ⟨u32, gu32, H⟩ := Option.bind_eq_some_iff.mp H
        obtain ⟨⟨x34, h33⟩, gh33, H⟩ := Option.bind_eq_some_iff.mp H
        dsimp only at H
        refine wq_callV (a := p0) (as := [.int p1, .ref (xKb + 10 + 7)]) (r := []) (v1 := (some (.int x34))) xi_60 xi_77 dX6_readBehindThing_130 xm_6_98 rfl (Nat.le_of_ble_eq_true rfl) (pG_ok gu32) ⟨(Nat.le_of_ble_eq_true rfl), (Nat.le_of_ble_eq_true rfl)⟩ rfl nofun (e_77 (d + 2) _ gh33 ⟨rfl, rfl⟩) ?_
        change Wp _ _ _ _ [.int x34] _ _
        obtain ⟨⟨w42, h43⟩, G51, H⟩ := Option.bind_eq_some_iff.mp H
        dsimp only at H
        have K44 : Wp (d + 3) 60 154 [some (.ref a), some (.ref p0), some (.int p1)] [.int w42] h43 Q := by
          obtain ⟨gz, hz⟩ := pZ_ok H
          obtain ⟨rfl, rfl⟩ := Prod.mk.inj hz
          exact wp_zret xi_60 dX6_readBehindThing_154 gz hq
        clear H
        have H := G51
        clear G51
        refine wp_if_eq 153 xi_60 dX6_readBehindThing_133 rfl (fun c35 => ?_) (fun c35 => ?_)
        · rw [if_pos c35] at H
          refine wp_iconst 0 xi_60 dX6_readBehindThing_153 rfl ?_
          simp only [Option.some.injEq, Prod.mk.injEq] at H
          obtain ⟨rfl, rfl⟩ := H
          exact Wp.more (by simp [xMore, Value.category]) K44
        · rw [if_neg c35] at H
          refine wp_aload_n xi_60 dX6_readBehindThing_136 rfl ?_
          refine wp_aload_n xi_60 dX6_readBehindThing_137 rfl ?_
          obtain ⟨x45, gx45, H⟩ := Option.bind_eq_some_iff.mp H
          refine wq_getfr xi_60 dX6_readBehindThing_138 xf_6_111 gx45 ?_
          refine wp_iload_n xi_60 dX6_readBehindThing_141 rfl ?_
          obtain ⟨x46, gx46, H⟩ := Option.bind_eq_some_iff.mp H
          refine wq_iaload xi_60 dX6_readBehindThing_142 gx46 ?_
          obtain ⟨u47, gu47, H⟩ := Option.bind_eq_some_iff.mp H
          obtain ⟨⟨x49, h48⟩, gh48, H⟩ := Option.bind_eq_some_iff.mp H
          dsimp only at H
          refine wq_callV (a := a) (as := [.int x46]) (r := []) (v1 := (some (.int x49))) xi_60 xi_61 dX6_readBehindThing_143 xm_6_118 rfl (Nat.le_of_ble_eq_true rfl) (pG_ok gu47) ⟨(Nat.le_of_ble_eq_true rfl), (Nat.le_of_ble_eq_true rfl)⟩ rfl nofun (e_61 d _ gh48 ⟨rfl, rfl⟩) ?_
          change Wp _ _ _ _ [.int x49] _ _
          refine wp_if_eq 153 xi_60 dX6_readBehindThing_146 rfl (fun c50 => ?_) (fun c50 => ?_)
          · rw [if_pos c50] at H
            refine wp_iconst 0 xi_60 dX6_readBehindThing_153 rfl ?_
            simp only [Option.some.injEq, Prod.mk.injEq] at H
            obtain ⟨rfl, rfl⟩ := H
            exact Wp.more (by simp [xMore, Value.category]) K44
          · rw [if_neg c50] at H
            refine wp_iconst 1 xi_60 dX6_readBehindThing_149 rfl ?_
            refine wp_goto 154 xi_60 dX6_readBehindThing_150 rfl ?_
            simp only [Option.some.injEq, Prod.mk.injEq] at H
            obtain ⟨rfl, rfl⟩ := H
            exact Wp.more (by simp [xMore, Value.category]) K44
      · rw [if_neg c31] at H
        refine wp_aload_n xi_60 dX6_readBehindThing_99 rfl ?_
        refine wp_iconst 0 xi_60 dX6_readBehindThing_100 rfl ?_
        obtain ⟨u52, gu52, H⟩ := Option.bind_eq_some_iff.mp H
        obtain ⟨h53, gh53, H⟩ := Option.bind_eq_some_iff.mp H
        refine wq_callV (a := a) (as := [.int 0]) (r := []) (v1 := none) xi_60 xi_63 dX6_readBehindThing_101 xm_6_63 rfl (Nat.le_of_ble_eq_true rfl) (pG_ok gu52) ⟨(Nat.le_of_ble_eq_true rfl), (Nat.le_of_ble_eq_true rfl)⟩ rfl nofun (e_63 (d + 1) _ gh53 ⟨rfl, rfl⟩) ?_
        change Wp _ _ _ _ [] _ _
        refine wp_aload_n xi_60 dX6_readBehindThing_104 rfl ?_
        refine wp_dup xi_60 dX6_readBehindThing_105 rfl ?_
        obtain ⟨x54, gx54, H⟩ := Option.bind_eq_some_iff.mp H
        refine wq_getfi xi_60 dX6_readBehindThing_106 xf_6_79 gx54 ?_
        refine wp_iconst 1 xi_60 dX6_readBehindThing_109 rfl ?_
        refine wp_isub xi_60 dX6_readBehindThing_110 ?_
        obtain ⟨h55, gh55, H⟩ := Option.bind_eq_some_iff.mp H
        refine wq_putf xi_60 dX6_readBehindThing_111 xf_6_79 (Or.inl rfl) gh55 ?_
        refine wp_aload_n xi_60 dX6_readBehindThing_114 rfl ?_
        refine wp_dup xi_60 dX6_readBehindThing_115 rfl ?_
        obtain ⟨x56, gx56, H⟩ := Option.bind_eq_some_iff.mp H
        refine wq_getfi xi_60 dX6_readBehindThing_116 xf_6_60 gx56 ?_
        refine wp_iconst 1 xi_60 dX6_readBehindThing_119 rfl ?_
        refine wp_isub xi_60 dX6_readBehindThing_120 ?_
        obtain ⟨h57, gh57, H⟩ := Option.bind_eq_some_iff.mp H
        refine wq_putf xi_60 dX6_readBehindThing_121 xf_6_60 (Or.inl rfl) gh57 ?_
        refine wp_iconst 1 xi_60 dX6_readBehindThing_124 rfl ?_
        obtain ⟨gz, hz⟩ := pZ_ok H
        obtain ⟨rfl, rfl⟩ := Prod.mk.inj hz
        exact wp_zret xi_60 dX6_readBehindThing_125 gz hq
  · rw [if_neg c4] at H
    refine wp_aload_n xi_60 dX6_readBehindThing_8 rfl ?_
    obtain ⟨x58, gx58, H⟩ := Option.bind_eq_some_iff.mp H
    refine wq_getfi xi_60 dX6_readBehindThing_9 xf_6_82 gx58 ?_
    refine wp_if_le 77 xi_60 dX6_readBehindThing_12 rfl (fun c59 => ?_) (fun c59 => ?_)
    · rw [if_pos c59] at H
      refine wp_aload_n xi_60 dX6_readBehindThing_77 rfl ?_
      refine wp_iconst 0 xi_60 dX6_readBehindThing_78 rfl ?_
      obtain ⟨h60, gh60, H⟩ := Option.bind_eq_some_iff.mp H
      refine wq_putf xi_60 dX6_readBehindThing_79 xf_6_82 (Or.inl rfl) gh60 ?_
      refine wp_aload_n xi_60 dX6_readBehindThing_82 rfl ?_
      refine wp_iload_n xi_60 dX6_readBehindThing_83 rfl ?_
      refine wp_ldcS xi_60 dX6_readBehindThing_84 xs0_6_114 xs_6_114 ?_
      obtain ⟨u61, gu61, H⟩ := Option.bind_eq_some_iff.mp H
      obtain ⟨⟨x63, h62⟩, gh62, H⟩ := Option.bind_eq_some_iff.mp H
      dsimp only at H
      refine wq_callV (a := p0) (as := [.int p1, .ref (xKb + 10 + 6)]) (r := []) (v1 := (some (.int x63))) xi_60 xi_77 dX6_readBehindThing_86 xm_6_98 rfl (Nat.le_of_ble_eq_true rfl) (pG_ok gu61) ⟨(Nat.le_of_ble_eq_true rfl), (Nat.le_of_ble_eq_true rfl)⟩ rfl nofun (e_77 (d + 2) _ gh62 ⟨rfl, rfl⟩) ?_
      change Wp _ _ _ _ [.int x63] _ _
      refine wp_if_eq 126 xi_60 dX6_readBehindThing_89 rfl (fun c64 => ?_) (fun c64 => ?_)
      · rw [if_pos c64] at H
        refine wp_aload_n xi_60 dX6_readBehindThing_126 rfl ?_
        refine wp_iload_n xi_60 dX6_readBehindThing_127 rfl ?_
        refine wp_ldcS xi_60 dX6_readBehindThing_128 xs0_6_116 xs_6_116 ?_
        obtain ⟨u65, gu65, H⟩ := Option.bind_eq_some_iff.mp H
        obtain ⟨⟨x67, h66⟩, gh66, H⟩ := Option.bind_eq_some_iff.mp H
        dsimp only at H
        refine wq_callV (a := p0) (as := [.int p1, .ref (xKb + 10 + 7)]) (r := []) (v1 := (some (.int x67))) xi_60 xi_77 dX6_readBehindThing_130 xm_6_98 rfl (Nat.le_of_ble_eq_true rfl) (pG_ok gu65) ⟨(Nat.le_of_ble_eq_true rfl), (Nat.le_of_ble_eq_true rfl)⟩ rfl nofun (e_77 (d + 2) _ gh66 ⟨rfl, rfl⟩) ?_
        change Wp _ _ _ _ [.int x67] _ _
        obtain ⟨⟨w75, h76⟩, G84, H⟩ := Option.bind_eq_some_iff.mp H
        dsimp only at H
        have K77 : Wp (d + 3) 60 154 [some (.ref a), some (.ref p0), some (.int p1)] [.int w75] h76 Q := by
          obtain ⟨gz, hz⟩ := pZ_ok H
          obtain ⟨rfl, rfl⟩ := Prod.mk.inj hz
          exact wp_zret xi_60 dX6_readBehindThing_154 gz hq
        clear H
        have H := G84
        clear G84
        refine wp_if_eq 153 xi_60 dX6_readBehindThing_133 rfl (fun c68 => ?_) (fun c68 => ?_)
        · rw [if_pos c68] at H
          refine wp_iconst 0 xi_60 dX6_readBehindThing_153 rfl ?_
          simp only [Option.some.injEq, Prod.mk.injEq] at H
          obtain ⟨rfl, rfl⟩ := H
          exact Wp.more (by simp [xMore, Value.category]) K77
        · rw [if_neg c68] at H
          refine wp_aload_n xi_60 dX6_readBehindThing_136 rfl ?_
          refine wp_aload_n xi_60 dX6_readBehindThing_137 rfl ?_
          obtain ⟨x78, gx78, H⟩ := Option.bind_eq_some_iff.mp H
          refine wq_getfr xi_60 dX6_readBehindThing_138 xf_6_111 gx78 ?_
          refine wp_iload_n xi_60 dX6_readBehindThing_141 rfl ?_
          obtain ⟨x79, gx79, H⟩ := Option.bind_eq_some_iff.mp H
          refine wq_iaload xi_60 dX6_readBehindThing_142 gx79 ?_
          obtain ⟨u80, gu80, H⟩ := Option.bind_eq_some_iff.mp H
          obtain ⟨⟨x82, h81⟩, gh81, H⟩ := Option.bind_eq_some_iff.mp H
          dsimp only at H
          refine wq_callV (a := a) (as := [.int x79]) (r := []) (v1 := (some (.int x82))) xi_60 xi_61 dX6_readBehindThing_143 xm_6_118 rfl (Nat.le_of_ble_eq_true rfl) (pG_ok gu80) ⟨(Nat.le_of_ble_eq_true rfl), (Nat.le_of_ble_eq_true rfl)⟩ rfl nofun (e_61 d _ gh81 ⟨rfl, rfl⟩) ?_
          change Wp _ _ _ _ [.int x82] _ _
          refine wp_if_eq 153 xi_60 dX6_readBehindThing_146 rfl (fun c83 => ?_) (fun c83 => ?_)
          · rw [if_pos c83] at H
            refine wp_iconst 0 xi_60 dX6_readBehindThing_153 rfl ?_
            simp only [Option.some.injEq, Prod.mk.injEq] at H
            obtain ⟨rfl, rfl⟩ := H
            exact Wp.more (by simp [xMore, Value.category]) K77
          · rw [if_neg c83] at H
            refine wp_iconst 1 xi_60 dX6_readBehindThing_149 rfl ?_
            refine wp_goto 154 xi_60 dX6_readBehindThing_150 rfl ?_
            simp only [Option.some.injEq, Prod.mk.injEq] at H
            obtain ⟨rfl, rfl⟩ := H
            exact Wp.more (by simp [xMore, Value.category]) K77
      · rw [if_neg c64] at H
        refine wp_aload_n xi_60 dX6_readBehindThing_92 rfl ?_
        obtain ⟨x85, gx85, H⟩ := Option.bind_eq_some_iff.mp H
        refine wq_getfi xi_60 dX6_readBehindThing_93 xf_6_60 gx85 ?_
        refine wp_if_le 126 xi_60 dX6_readBehindThing_96 rfl (fun c86 => ?_) (fun c86 => ?_)
        · rw [if_pos c86] at H
          refine wp_aload_n xi_60 dX6_readBehindThing_126 rfl ?_
          refine wp_iload_n xi_60 dX6_readBehindThing_127 rfl ?_
          refine wp_ldcS xi_60 dX6_readBehindThing_128 xs0_6_116 xs_6_116 ?_
          obtain ⟨u87, gu87, H⟩ := Option.bind_eq_some_iff.mp H
          obtain ⟨⟨x89, h88⟩, gh88, H⟩ := Option.bind_eq_some_iff.mp H
          dsimp only at H
          refine wq_callV (a := p0) (as := [.int p1, .ref (xKb + 10 + 7)]) (r := []) (v1 := (some (.int x89))) xi_60 xi_77 dX6_readBehindThing_130 xm_6_98 rfl (Nat.le_of_ble_eq_true rfl) (pG_ok gu87) ⟨(Nat.le_of_ble_eq_true rfl), (Nat.le_of_ble_eq_true rfl)⟩ rfl nofun (e_77 (d + 2) _ gh88 ⟨rfl, rfl⟩) ?_
          change Wp _ _ _ _ [.int x89] _ _
          obtain ⟨⟨w97, h98⟩, G106, H⟩ := Option.bind_eq_some_iff.mp H
          dsimp only at H
          have K99 : Wp (d + 3) 60 154 [some (.ref a), some (.ref p0), some (.int p1)] [.int w97] h98 Q := by
            obtain ⟨gz, hz⟩ := pZ_ok H
            obtain ⟨rfl, rfl⟩ := Prod.mk.inj hz
            exact wp_zret xi_60 dX6_readBehindThing_154 gz hq
          clear H
          have H := G106
          clear G106
          refine wp_if_eq 153 xi_60 dX6_readBehindThing_133 rfl (fun c90 => ?_) (fun c90 => ?_)
          · rw [if_pos c90] at H
            refine wp_iconst 0 xi_60 dX6_readBehindThing_153 rfl ?_
            simp only [Option.some.injEq, Prod.mk.injEq] at H
            obtain ⟨rfl, rfl⟩ := H
            exact Wp.more (by simp [xMore, Value.category]) K99
          · rw [if_neg c90] at H
            refine wp_aload_n xi_60 dX6_readBehindThing_136 rfl ?_
            refine wp_aload_n xi_60 dX6_readBehindThing_137 rfl ?_
            obtain ⟨x100, gx100, H⟩ := Option.bind_eq_some_iff.mp H
            refine wq_getfr xi_60 dX6_readBehindThing_138 xf_6_111 gx100 ?_
            refine wp_iload_n xi_60 dX6_readBehindThing_141 rfl ?_
            obtain ⟨x101, gx101, H⟩ := Option.bind_eq_some_iff.mp H
            refine wq_iaload xi_60 dX6_readBehindThing_142 gx101 ?_
            obtain ⟨u102, gu102, H⟩ := Option.bind_eq_some_iff.mp H
            obtain ⟨⟨x104, h103⟩, gh103, H⟩ := Option.bind_eq_some_iff.mp H
            dsimp only at H
            refine wq_callV (a := a) (as := [.int x101]) (r := []) (v1 := (some (.int x104))) xi_60 xi_61 dX6_readBehindThing_143 xm_6_118 rfl (Nat.le_of_ble_eq_true rfl) (pG_ok gu102) ⟨(Nat.le_of_ble_eq_true rfl), (Nat.le_of_ble_eq_true rfl)⟩ rfl nofun (e_61 d _ gh103 ⟨rfl, rfl⟩) ?_
            change Wp _ _ _ _ [.int x104] _ _
            refine wp_if_eq 153 xi_60 dX6_readBehindThing_146 rfl (fun c105 => ?_) (fun c105 => ?_)
            · rw [if_pos c105] at H
              refine wp_iconst 0 xi_60 dX6_readBehindThing_153 rfl ?_
              simp only [Option.some.injEq, Prod.mk.injEq] at H
              obtain ⟨rfl, rfl⟩ := H
              exact Wp.more (by simp [xMore, Value.category]) K99
            · rw [if_neg c105] at H
              refine wp_iconst 1 xi_60 dX6_readBehindThing_149 rfl ?_
              refine wp_goto 154 xi_60 dX6_readBehindThing_150 rfl ?_
              simp only [Option.some.injEq, Prod.mk.injEq] at H
              obtain ⟨rfl, rfl⟩ := H
              exact Wp.more (by simp [xMore, Value.category]) K99
        · rw [if_neg c86] at H
          refine wp_aload_n xi_60 dX6_readBehindThing_99 rfl ?_
          refine wp_iconst 0 xi_60 dX6_readBehindThing_100 rfl ?_
          obtain ⟨u107, gu107, H⟩ := Option.bind_eq_some_iff.mp H
          obtain ⟨h108, gh108, H⟩ := Option.bind_eq_some_iff.mp H
          refine wq_callV (a := a) (as := [.int 0]) (r := []) (v1 := none) xi_60 xi_63 dX6_readBehindThing_101 xm_6_63 rfl (Nat.le_of_ble_eq_true rfl) (pG_ok gu107) ⟨(Nat.le_of_ble_eq_true rfl), (Nat.le_of_ble_eq_true rfl)⟩ rfl nofun (e_63 (d + 1) _ gh108 ⟨rfl, rfl⟩) ?_
          change Wp _ _ _ _ [] _ _
          refine wp_aload_n xi_60 dX6_readBehindThing_104 rfl ?_
          refine wp_dup xi_60 dX6_readBehindThing_105 rfl ?_
          obtain ⟨x109, gx109, H⟩ := Option.bind_eq_some_iff.mp H
          refine wq_getfi xi_60 dX6_readBehindThing_106 xf_6_79 gx109 ?_
          refine wp_iconst 1 xi_60 dX6_readBehindThing_109 rfl ?_
          refine wp_isub xi_60 dX6_readBehindThing_110 ?_
          obtain ⟨h110, gh110, H⟩ := Option.bind_eq_some_iff.mp H
          refine wq_putf xi_60 dX6_readBehindThing_111 xf_6_79 (Or.inl rfl) gh110 ?_
          refine wp_aload_n xi_60 dX6_readBehindThing_114 rfl ?_
          refine wp_dup xi_60 dX6_readBehindThing_115 rfl ?_
          obtain ⟨x111, gx111, H⟩ := Option.bind_eq_some_iff.mp H
          refine wq_getfi xi_60 dX6_readBehindThing_116 xf_6_60 gx111 ?_
          refine wp_iconst 1 xi_60 dX6_readBehindThing_119 rfl ?_
          refine wp_isub xi_60 dX6_readBehindThing_120 ?_
          obtain ⟨h112, gh112, H⟩ := Option.bind_eq_some_iff.mp H
          refine wq_putf xi_60 dX6_readBehindThing_121 xf_6_60 (Or.inl rfl) gh112 ?_
          refine wp_iconst 1 xi_60 dX6_readBehindThing_124 rfl ?_
          obtain ⟨gz, hz⟩ := pZ_ok H
          obtain ⟨rfl, rfl⟩ := Prod.mk.inj hz
          exact wp_zret xi_60 dX6_readBehindThing_125 gz hq
    · rw [if_neg c59] at H
      refine wp_aload_n xi_60 dX6_readBehindThing_15 rfl ?_
      obtain ⟨x113, gx113, H⟩ := Option.bind_eq_some_iff.mp H
      refine wq_getfi xi_60 dX6_readBehindThing_16 xf_6_82 gx113 ?_
      refine wp_iconst 3 xi_60 dX6_readBehindThing_19 rfl ?_
      refine wp_icmp_ge 77 xi_60 dX6_readBehindThing_20 rfl (fun c114 => ?_) (fun c114 => ?_)
      · rw [if_pos c114] at H
        refine wp_aload_n xi_60 dX6_readBehindThing_77 rfl ?_
        refine wp_iconst 0 xi_60 dX6_readBehindThing_78 rfl ?_
        obtain ⟨h115, gh115, H⟩ := Option.bind_eq_some_iff.mp H
        refine wq_putf xi_60 dX6_readBehindThing_79 xf_6_82 (Or.inl rfl) gh115 ?_
        refine wp_aload_n xi_60 dX6_readBehindThing_82 rfl ?_
        refine wp_iload_n xi_60 dX6_readBehindThing_83 rfl ?_
        refine wp_ldcS xi_60 dX6_readBehindThing_84 xs0_6_114 xs_6_114 ?_
        obtain ⟨u116, gu116, H⟩ := Option.bind_eq_some_iff.mp H
        obtain ⟨⟨x118, h117⟩, gh117, H⟩ := Option.bind_eq_some_iff.mp H
        dsimp only at H
        refine wq_callV (a := p0) (as := [.int p1, .ref (xKb + 10 + 6)]) (r := []) (v1 := (some (.int x118))) xi_60 xi_77 dX6_readBehindThing_86 xm_6_98 rfl (Nat.le_of_ble_eq_true rfl) (pG_ok gu116) ⟨(Nat.le_of_ble_eq_true rfl), (Nat.le_of_ble_eq_true rfl)⟩ rfl nofun (e_77 (d + 2) _ gh117 ⟨rfl, rfl⟩) ?_
        change Wp _ _ _ _ [.int x118] _ _
        refine wp_if_eq 126 xi_60 dX6_readBehindThing_89 rfl (fun c119 => ?_) (fun c119 => ?_)
        · rw [if_pos c119] at H
          refine wp_aload_n xi_60 dX6_readBehindThing_126 rfl ?_
          refine wp_iload_n xi_60 dX6_readBehindThing_127 rfl ?_
          refine wp_ldcS xi_60 dX6_readBehindThing_128 xs0_6_116 xs_6_116 ?_
          obtain ⟨u120, gu120, H⟩ := Option.bind_eq_some_iff.mp H
          obtain ⟨⟨x122, h121⟩, gh121, H⟩ := Option.bind_eq_some_iff.mp H
          dsimp only at H
          refine wq_callV (a := p0) (as := [.int p1, .ref (xKb + 10 + 7)]) (r := []) (v1 := (some (.int x122))) xi_60 xi_77 dX6_readBehindThing_130 xm_6_98 rfl (Nat.le_of_ble_eq_true rfl) (pG_ok gu120) ⟨(Nat.le_of_ble_eq_true rfl), (Nat.le_of_ble_eq_true rfl)⟩ rfl nofun (e_77 (d + 2) _ gh121 ⟨rfl, rfl⟩) ?_
          change Wp _ _ _ _ [.int x122] _ _
          obtain ⟨⟨w130, h131⟩, G139, H⟩ := Option.bind_eq_some_iff.mp H
          dsimp only at H
          have K132 : Wp (d + 3) 60 154 [some (.ref a), some (.ref p0), some (.int p1)] [.int w130] h131 Q := by
            obtain ⟨gz, hz⟩ := pZ_ok H
            obtain ⟨rfl, rfl⟩ := Prod.mk.inj hz
            exact wp_zret xi_60 dX6_readBehindThing_154 gz hq
          clear H
          have H := G139
          clear G139
          refine wp_if_eq 153 xi_60 dX6_readBehindThing_133 rfl (fun c123 => ?_) (fun c123 => ?_)
          · rw [if_pos c123] at H
            refine wp_iconst 0 xi_60 dX6_readBehindThing_153 rfl ?_
            simp only [Option.some.injEq, Prod.mk.injEq] at H
            obtain ⟨rfl, rfl⟩ := H
            exact Wp.more (by simp [xMore, Value.category]) K132
          · rw [if_neg c123] at H
            refine wp_aload_n xi_60 dX6_readBehindThing_136 rfl ?_
            refine wp_aload_n xi_60 dX6_readBehindThing_137 rfl ?_
            obtain ⟨x133, gx133, H⟩ := Option.bind_eq_some_iff.mp H
            refine wq_getfr xi_60 dX6_readBehindThing_138 xf_6_111 gx133 ?_
            refine wp_iload_n xi_60 dX6_readBehindThing_141 rfl ?_
            obtain ⟨x134, gx134, H⟩ := Option.bind_eq_some_iff.mp H
            refine wq_iaload xi_60 dX6_readBehindThing_142 gx134 ?_
            obtain ⟨u135, gu135, H⟩ := Option.bind_eq_some_iff.mp H
            obtain ⟨⟨x137, h136⟩, gh136, H⟩ := Option.bind_eq_some_iff.mp H
            dsimp only at H
            refine wq_callV (a := a) (as := [.int x134]) (r := []) (v1 := (some (.int x137))) xi_60 xi_61 dX6_readBehindThing_143 xm_6_118 rfl (Nat.le_of_ble_eq_true rfl) (pG_ok gu135) ⟨(Nat.le_of_ble_eq_true rfl), (Nat.le_of_ble_eq_true rfl)⟩ rfl nofun (e_61 d _ gh136 ⟨rfl, rfl⟩) ?_
            change Wp _ _ _ _ [.int x137] _ _
            refine wp_if_eq 153 xi_60 dX6_readBehindThing_146 rfl (fun c138 => ?_) (fun c138 => ?_)
            · rw [if_pos c138] at H
              refine wp_iconst 0 xi_60 dX6_readBehindThing_153 rfl ?_
              simp only [Option.some.injEq, Prod.mk.injEq] at H
              obtain ⟨rfl, rfl⟩ := H
              exact Wp.more (by simp [xMore, Value.category]) K132
            · rw [if_neg c138] at H
              refine wp_iconst 1 xi_60 dX6_readBehindThing_149 rfl ?_
              refine wp_goto 154 xi_60 dX6_readBehindThing_150 rfl ?_
              simp only [Option.some.injEq, Prod.mk.injEq] at H
              obtain ⟨rfl, rfl⟩ := H
              exact Wp.more (by simp [xMore, Value.category]) K132
        · rw [if_neg c119] at H
          refine wp_aload_n xi_60 dX6_readBehindThing_92 rfl ?_
          obtain ⟨x140, gx140, H⟩ := Option.bind_eq_some_iff.mp H
          refine wq_getfi xi_60 dX6_readBehindThing_93 xf_6_60 gx140 ?_
          refine wp_if_le 126 xi_60 dX6_readBehindThing_96 rfl (fun c141 => ?_) (fun c141 => ?_)
          · rw [if_pos c141] at H
            refine wp_aload_n xi_60 dX6_readBehindThing_126 rfl ?_
            refine wp_iload_n xi_60 dX6_readBehindThing_127 rfl ?_
            refine wp_ldcS xi_60 dX6_readBehindThing_128 xs0_6_116 xs_6_116 ?_
            obtain ⟨u142, gu142, H⟩ := Option.bind_eq_some_iff.mp H
            obtain ⟨⟨x144, h143⟩, gh143, H⟩ := Option.bind_eq_some_iff.mp H
            dsimp only at H
            refine wq_callV (a := p0) (as := [.int p1, .ref (xKb + 10 + 7)]) (r := []) (v1 := (some (.int x144))) xi_60 xi_77 dX6_readBehindThing_130 xm_6_98 rfl (Nat.le_of_ble_eq_true rfl) (pG_ok gu142) ⟨(Nat.le_of_ble_eq_true rfl), (Nat.le_of_ble_eq_true rfl)⟩ rfl nofun (e_77 (d + 2) _ gh143 ⟨rfl, rfl⟩) ?_
            change Wp _ _ _ _ [.int x144] _ _
            obtain ⟨⟨w152, h153⟩, G161, H⟩ := Option.bind_eq_some_iff.mp H
            dsimp only at H
            have K154 : Wp (d + 3) 60 154 [some (.ref a), some (.ref p0), some (.int p1)] [.int w152] h153 Q := by
              obtain ⟨gz, hz⟩ := pZ_ok H
              obtain ⟨rfl, rfl⟩ := Prod.mk.inj hz
              exact wp_zret xi_60 dX6_readBehindThing_154 gz hq
            clear H
            have H := G161
            clear G161
            refine wp_if_eq 153 xi_60 dX6_readBehindThing_133 rfl (fun c145 => ?_) (fun c145 => ?_)
            · rw [if_pos c145] at H
              refine wp_iconst 0 xi_60 dX6_readBehindThing_153 rfl ?_
              simp only [Option.some.injEq, Prod.mk.injEq] at H
              obtain ⟨rfl, rfl⟩ := H
              exact Wp.more (by simp [xMore, Value.category]) K154
            · rw [if_neg c145] at H
              refine wp_aload_n xi_60 dX6_readBehindThing_136 rfl ?_
              refine wp_aload_n xi_60 dX6_readBehindThing_137 rfl ?_
              obtain ⟨x155, gx155, H⟩ := Option.bind_eq_some_iff.mp H
              refine wq_getfr xi_60 dX6_readBehindThing_138 xf_6_111 gx155 ?_
              refine wp_iload_n xi_60 dX6_readBehindThing_141 rfl ?_
              obtain ⟨x156, gx156, H⟩ := Option.bind_eq_some_iff.mp H
              refine wq_iaload xi_60 dX6_readBehindThing_142 gx156 ?_
              obtain ⟨u157, gu157, H⟩ := Option.bind_eq_some_iff.mp H
              obtain ⟨⟨x159, h158⟩, gh158, H⟩ := Option.bind_eq_some_iff.mp H
              dsimp only at H
              refine wq_callV (a := a) (as := [.int x156]) (r := []) (v1 := (some (.int x159))) xi_60 xi_61 dX6_readBehindThing_143 xm_6_118 rfl (Nat.le_of_ble_eq_true rfl) (pG_ok gu157) ⟨(Nat.le_of_ble_eq_true rfl), (Nat.le_of_ble_eq_true rfl)⟩ rfl nofun (e_61 d _ gh158 ⟨rfl, rfl⟩) ?_
              change Wp _ _ _ _ [.int x159] _ _
              refine wp_if_eq 153 xi_60 dX6_readBehindThing_146 rfl (fun c160 => ?_) (fun c160 => ?_)
              · rw [if_pos c160] at H
                refine wp_iconst 0 xi_60 dX6_readBehindThing_153 rfl ?_
                simp only [Option.some.injEq, Prod.mk.injEq] at H
                obtain ⟨rfl, rfl⟩ := H
                exact Wp.more (by simp [xMore, Value.category]) K154
              · rw [if_neg c160] at H
                refine wp_iconst 1 xi_60 dX6_readBehindThing_149 rfl ?_
                refine wp_goto 154 xi_60 dX6_readBehindThing_150 rfl ?_
                simp only [Option.some.injEq, Prod.mk.injEq] at H
                obtain ⟨rfl, rfl⟩ := H
                exact Wp.more (by simp [xMore, Value.category]) K154
          · rw [if_neg c141] at H
            refine wp_aload_n xi_60 dX6_readBehindThing_99 rfl ?_
            refine wp_iconst 0 xi_60 dX6_readBehindThing_100 rfl ?_
            obtain ⟨u162, gu162, H⟩ := Option.bind_eq_some_iff.mp H
            obtain ⟨h163, gh163, H⟩ := Option.bind_eq_some_iff.mp H
            refine wq_callV (a := a) (as := [.int 0]) (r := []) (v1 := none) xi_60 xi_63 dX6_readBehindThing_101 xm_6_63 rfl (Nat.le_of_ble_eq_true rfl) (pG_ok gu162) ⟨(Nat.le_of_ble_eq_true rfl), (Nat.le_of_ble_eq_true rfl)⟩ rfl nofun (e_63 (d + 1) _ gh163 ⟨rfl, rfl⟩) ?_
            change Wp _ _ _ _ [] _ _
            refine wp_aload_n xi_60 dX6_readBehindThing_104 rfl ?_
            refine wp_dup xi_60 dX6_readBehindThing_105 rfl ?_
            obtain ⟨x164, gx164, H⟩ := Option.bind_eq_some_iff.mp H
            refine wq_getfi xi_60 dX6_readBehindThing_106 xf_6_79 gx164 ?_
            refine wp_iconst 1 xi_60 dX6_readBehindThing_109 rfl ?_
            refine wp_isub xi_60 dX6_readBehindThing_110 ?_
            obtain ⟨h165, gh165, H⟩ := Option.bind_eq_some_iff.mp H
            refine wq_putf xi_60 dX6_readBehindThing_111 xf_6_79 (Or.inl rfl) gh165 ?_
            refine wp_aload_n xi_60 dX6_readBehindThing_114 rfl ?_
            refine wp_dup xi_60 dX6_readBehindThing_115 rfl ?_
            obtain ⟨x166, gx166, H⟩ := Option.bind_eq_some_iff.mp H
            refine wq_getfi xi_60 dX6_readBehindThing_116 xf_6_60 gx166 ?_
            refine wp_iconst 1 xi_60 dX6_readBehindThing_119 rfl ?_
            refine wp_isub xi_60 dX6_readBehindThing_120 ?_
            obtain ⟨h167, gh167, H⟩ := Option.bind_eq_some_iff.mp H
            refine wq_putf xi_60 dX6_readBehindThing_121 xf_6_60 (Or.inl rfl) gh167 ?_
            refine wp_iconst 1 xi_60 dX6_readBehindThing_124 rfl ?_
            obtain ⟨gz, hz⟩ := pZ_ok H
            obtain ⟨rfl, rfl⟩ := Prod.mk.inj hz
            exact wp_zret xi_60 dX6_readBehindThing_125 gz hq
      · rw [if_neg c114] at H
        refine wp_aload_n xi_60 dX6_readBehindThing_23 rfl ?_
        obtain ⟨x168, gx168, H⟩ := Option.bind_eq_some_iff.mp H
        refine wq_getfi xi_60 dX6_readBehindThing_24 xf_6_73 gx168 ?_
        refine wp_if_le 77 xi_60 dX6_readBehindThing_27 rfl (fun c169 => ?_) (fun c169 => ?_)
        · rw [if_pos c169] at H
          refine wp_aload_n xi_60 dX6_readBehindThing_77 rfl ?_
          refine wp_iconst 0 xi_60 dX6_readBehindThing_78 rfl ?_
          obtain ⟨h170, gh170, H⟩ := Option.bind_eq_some_iff.mp H
          refine wq_putf xi_60 dX6_readBehindThing_79 xf_6_82 (Or.inl rfl) gh170 ?_
          refine wp_aload_n xi_60 dX6_readBehindThing_82 rfl ?_
          refine wp_iload_n xi_60 dX6_readBehindThing_83 rfl ?_
          refine wp_ldcS xi_60 dX6_readBehindThing_84 xs0_6_114 xs_6_114 ?_
          obtain ⟨u171, gu171, H⟩ := Option.bind_eq_some_iff.mp H
          obtain ⟨⟨x173, h172⟩, gh172, H⟩ := Option.bind_eq_some_iff.mp H
          dsimp only at H
          refine wq_callV (a := p0) (as := [.int p1, .ref (xKb + 10 + 6)]) (r := []) (v1 := (some (.int x173))) xi_60 xi_77 dX6_readBehindThing_86 xm_6_98 rfl (Nat.le_of_ble_eq_true rfl) (pG_ok gu171) ⟨(Nat.le_of_ble_eq_true rfl), (Nat.le_of_ble_eq_true rfl)⟩ rfl nofun (e_77 (d + 2) _ gh172 ⟨rfl, rfl⟩) ?_
          change Wp _ _ _ _ [.int x173] _ _
          refine wp_if_eq 126 xi_60 dX6_readBehindThing_89 rfl (fun c174 => ?_) (fun c174 => ?_)
          · rw [if_pos c174] at H
            refine wp_aload_n xi_60 dX6_readBehindThing_126 rfl ?_
            refine wp_iload_n xi_60 dX6_readBehindThing_127 rfl ?_
            refine wp_ldcS xi_60 dX6_readBehindThing_128 xs0_6_116 xs_6_116 ?_
            obtain ⟨u175, gu175, H⟩ := Option.bind_eq_some_iff.mp H
            obtain ⟨⟨x177, h176⟩, gh176, H⟩ := Option.bind_eq_some_iff.mp H
            dsimp only at H
            refine wq_callV (a := p0) (as := [.int p1, .ref (xKb + 10 + 7)]) (r := []) (v1 := (some (.int x177))) xi_60 xi_77 dX6_readBehindThing_130 xm_6_98 rfl (Nat.le_of_ble_eq_true rfl) (pG_ok gu175) ⟨(Nat.le_of_ble_eq_true rfl), (Nat.le_of_ble_eq_true rfl)⟩ rfl nofun (e_77 (d + 2) _ gh176 ⟨rfl, rfl⟩) ?_
            change Wp _ _ _ _ [.int x177] _ _
            obtain ⟨⟨w185, h186⟩, G194, H⟩ := Option.bind_eq_some_iff.mp H
            dsimp only at H
            have K187 : Wp (d + 3) 60 154 [some (.ref a), some (.ref p0), some (.int p1)] [.int w185] h186 Q := by
              obtain ⟨gz, hz⟩ := pZ_ok H
              obtain ⟨rfl, rfl⟩ := Prod.mk.inj hz
              exact wp_zret xi_60 dX6_readBehindThing_154 gz hq
            clear H
            have H := G194
            clear G194
            refine wp_if_eq 153 xi_60 dX6_readBehindThing_133 rfl (fun c178 => ?_) (fun c178 => ?_)
            · rw [if_pos c178] at H
              refine wp_iconst 0 xi_60 dX6_readBehindThing_153 rfl ?_
              simp only [Option.some.injEq, Prod.mk.injEq] at H
              obtain ⟨rfl, rfl⟩ := H
              exact Wp.more (by simp [xMore, Value.category]) K187
            · rw [if_neg c178] at H
              refine wp_aload_n xi_60 dX6_readBehindThing_136 rfl ?_
              refine wp_aload_n xi_60 dX6_readBehindThing_137 rfl ?_
              obtain ⟨x188, gx188, H⟩ := Option.bind_eq_some_iff.mp H
              refine wq_getfr xi_60 dX6_readBehindThing_138 xf_6_111 gx188 ?_
              refine wp_iload_n xi_60 dX6_readBehindThing_141 rfl ?_
              obtain ⟨x189, gx189, H⟩ := Option.bind_eq_some_iff.mp H
              refine wq_iaload xi_60 dX6_readBehindThing_142 gx189 ?_
              obtain ⟨u190, gu190, H⟩ := Option.bind_eq_some_iff.mp H
              obtain ⟨⟨x192, h191⟩, gh191, H⟩ := Option.bind_eq_some_iff.mp H
              dsimp only at H
              refine wq_callV (a := a) (as := [.int x189]) (r := []) (v1 := (some (.int x192))) xi_60 xi_61 dX6_readBehindThing_143 xm_6_118 rfl (Nat.le_of_ble_eq_true rfl) (pG_ok gu190) ⟨(Nat.le_of_ble_eq_true rfl), (Nat.le_of_ble_eq_true rfl)⟩ rfl nofun (e_61 d _ gh191 ⟨rfl, rfl⟩) ?_
              change Wp _ _ _ _ [.int x192] _ _
              refine wp_if_eq 153 xi_60 dX6_readBehindThing_146 rfl (fun c193 => ?_) (fun c193 => ?_)
              · rw [if_pos c193] at H
                refine wp_iconst 0 xi_60 dX6_readBehindThing_153 rfl ?_
                simp only [Option.some.injEq, Prod.mk.injEq] at H
                obtain ⟨rfl, rfl⟩ := H
                exact Wp.more (by simp [xMore, Value.category]) K187
              · rw [if_neg c193] at H
                refine wp_iconst 1 xi_60 dX6_readBehindThing_149 rfl ?_
                refine wp_goto 154 xi_60 dX6_readBehindThing_150 rfl ?_
                simp only [Option.some.injEq, Prod.mk.injEq] at H
                obtain ⟨rfl, rfl⟩ := H
                exact Wp.more (by simp [xMore, Value.category]) K187
          · rw [if_neg c174] at H
            refine wp_aload_n xi_60 dX6_readBehindThing_92 rfl ?_
            obtain ⟨x195, gx195, H⟩ := Option.bind_eq_some_iff.mp H
            refine wq_getfi xi_60 dX6_readBehindThing_93 xf_6_60 gx195 ?_
            refine wp_if_le 126 xi_60 dX6_readBehindThing_96 rfl (fun c196 => ?_) (fun c196 => ?_)
            · rw [if_pos c196] at H
              refine wp_aload_n xi_60 dX6_readBehindThing_126 rfl ?_
              refine wp_iload_n xi_60 dX6_readBehindThing_127 rfl ?_
              refine wp_ldcS xi_60 dX6_readBehindThing_128 xs0_6_116 xs_6_116 ?_
              obtain ⟨u197, gu197, H⟩ := Option.bind_eq_some_iff.mp H
              obtain ⟨⟨x199, h198⟩, gh198, H⟩ := Option.bind_eq_some_iff.mp H
              dsimp only at H
              refine wq_callV (a := p0) (as := [.int p1, .ref (xKb + 10 + 7)]) (r := []) (v1 := (some (.int x199))) xi_60 xi_77 dX6_readBehindThing_130 xm_6_98 rfl (Nat.le_of_ble_eq_true rfl) (pG_ok gu197) ⟨(Nat.le_of_ble_eq_true rfl), (Nat.le_of_ble_eq_true rfl)⟩ rfl nofun (e_77 (d + 2) _ gh198 ⟨rfl, rfl⟩) ?_
              change Wp _ _ _ _ [.int x199] _ _
              obtain ⟨⟨w207, h208⟩, G216, H⟩ := Option.bind_eq_some_iff.mp H
              dsimp only at H
              have K209 : Wp (d + 3) 60 154 [some (.ref a), some (.ref p0), some (.int p1)] [.int w207] h208 Q := by
                obtain ⟨gz, hz⟩ := pZ_ok H
                obtain ⟨rfl, rfl⟩ := Prod.mk.inj hz
                exact wp_zret xi_60 dX6_readBehindThing_154 gz hq
              clear H
              have H := G216
              clear G216
              refine wp_if_eq 153 xi_60 dX6_readBehindThing_133 rfl (fun c200 => ?_) (fun c200 => ?_)
              · rw [if_pos c200] at H
                refine wp_iconst 0 xi_60 dX6_readBehindThing_153 rfl ?_
                simp only [Option.some.injEq, Prod.mk.injEq] at H
                obtain ⟨rfl, rfl⟩ := H
                exact Wp.more (by simp [xMore, Value.category]) K209
              · rw [if_neg c200] at H
                refine wp_aload_n xi_60 dX6_readBehindThing_136 rfl ?_
                refine wp_aload_n xi_60 dX6_readBehindThing_137 rfl ?_
                obtain ⟨x210, gx210, H⟩ := Option.bind_eq_some_iff.mp H
                refine wq_getfr xi_60 dX6_readBehindThing_138 xf_6_111 gx210 ?_
                refine wp_iload_n xi_60 dX6_readBehindThing_141 rfl ?_
                obtain ⟨x211, gx211, H⟩ := Option.bind_eq_some_iff.mp H
                refine wq_iaload xi_60 dX6_readBehindThing_142 gx211 ?_
                obtain ⟨u212, gu212, H⟩ := Option.bind_eq_some_iff.mp H
                obtain ⟨⟨x214, h213⟩, gh213, H⟩ := Option.bind_eq_some_iff.mp H
                dsimp only at H
                refine wq_callV (a := a) (as := [.int x211]) (r := []) (v1 := (some (.int x214))) xi_60 xi_61 dX6_readBehindThing_143 xm_6_118 rfl (Nat.le_of_ble_eq_true rfl) (pG_ok gu212) ⟨(Nat.le_of_ble_eq_true rfl), (Nat.le_of_ble_eq_true rfl)⟩ rfl nofun (e_61 d _ gh213 ⟨rfl, rfl⟩) ?_
                change Wp _ _ _ _ [.int x214] _ _
                refine wp_if_eq 153 xi_60 dX6_readBehindThing_146 rfl (fun c215 => ?_) (fun c215 => ?_)
                · rw [if_pos c215] at H
                  refine wp_iconst 0 xi_60 dX6_readBehindThing_153 rfl ?_
                  simp only [Option.some.injEq, Prod.mk.injEq] at H
                  obtain ⟨rfl, rfl⟩ := H
                  exact Wp.more (by simp [xMore, Value.category]) K209
                · rw [if_neg c215] at H
                  refine wp_iconst 1 xi_60 dX6_readBehindThing_149 rfl ?_
                  refine wp_goto 154 xi_60 dX6_readBehindThing_150 rfl ?_
                  simp only [Option.some.injEq, Prod.mk.injEq] at H
                  obtain ⟨rfl, rfl⟩ := H
                  exact Wp.more (by simp [xMore, Value.category]) K209
            · rw [if_neg c196] at H
              refine wp_aload_n xi_60 dX6_readBehindThing_99 rfl ?_
              refine wp_iconst 0 xi_60 dX6_readBehindThing_100 rfl ?_
              obtain ⟨u217, gu217, H⟩ := Option.bind_eq_some_iff.mp H
              obtain ⟨h218, gh218, H⟩ := Option.bind_eq_some_iff.mp H
              refine wq_callV (a := a) (as := [.int 0]) (r := []) (v1 := none) xi_60 xi_63 dX6_readBehindThing_101 xm_6_63 rfl (Nat.le_of_ble_eq_true rfl) (pG_ok gu217) ⟨(Nat.le_of_ble_eq_true rfl), (Nat.le_of_ble_eq_true rfl)⟩ rfl nofun (e_63 (d + 1) _ gh218 ⟨rfl, rfl⟩) ?_
              change Wp _ _ _ _ [] _ _
              refine wp_aload_n xi_60 dX6_readBehindThing_104 rfl ?_
              refine wp_dup xi_60 dX6_readBehindThing_105 rfl ?_
              obtain ⟨x219, gx219, H⟩ := Option.bind_eq_some_iff.mp H
              refine wq_getfi xi_60 dX6_readBehindThing_106 xf_6_79 gx219 ?_
              refine wp_iconst 1 xi_60 dX6_readBehindThing_109 rfl ?_
              refine wp_isub xi_60 dX6_readBehindThing_110 ?_
              obtain ⟨h220, gh220, H⟩ := Option.bind_eq_some_iff.mp H
              refine wq_putf xi_60 dX6_readBehindThing_111 xf_6_79 (Or.inl rfl) gh220 ?_
              refine wp_aload_n xi_60 dX6_readBehindThing_114 rfl ?_
              refine wp_dup xi_60 dX6_readBehindThing_115 rfl ?_
              obtain ⟨x221, gx221, H⟩ := Option.bind_eq_some_iff.mp H
              refine wq_getfi xi_60 dX6_readBehindThing_116 xf_6_60 gx221 ?_
              refine wp_iconst 1 xi_60 dX6_readBehindThing_119 rfl ?_
              refine wp_isub xi_60 dX6_readBehindThing_120 ?_
              obtain ⟨h222, gh222, H⟩ := Option.bind_eq_some_iff.mp H
              refine wq_putf xi_60 dX6_readBehindThing_121 xf_6_60 (Or.inl rfl) gh222 ?_
              refine wp_iconst 1 xi_60 dX6_readBehindThing_124 rfl ?_
              obtain ⟨gz, hz⟩ := pZ_ok H
              obtain ⟨rfl, rfl⟩ := Prod.mk.inj hz
              exact wp_zret xi_60 dX6_readBehindThing_125 gz hq
        · rw [if_neg c169] at H
          refine wp_aload_n xi_60 dX6_readBehindThing_30 rfl ?_
          obtain ⟨x223, gx223, H⟩ := Option.bind_eq_some_iff.mp H
          refine wq_getfr xi_60 dX6_readBehindThing_31 xf_6_15 gx223 ?_
          refine wp_aload_n xi_60 dX6_readBehindThing_34 rfl ?_
          obtain ⟨x224, gx224, H⟩ := Option.bind_eq_some_iff.mp H
          refine wq_getfi xi_60 dX6_readBehindThing_35 xf_6_73 gx224 ?_
          refine wp_iconst 1 xi_60 dX6_readBehindThing_38 rfl ?_
          refine wp_isub xi_60 dX6_readBehindThing_39 ?_
          refine wp_bipush 10 xi_60 dX6_readBehindThing_40 rfl ?_
          refine wp_aload_n xi_60 dX6_readBehindThing_42 rfl ?_
          obtain ⟨x225, gx225, H⟩ := Option.bind_eq_some_iff.mp H
          refine wq_getfr xi_60 dX6_readBehindThing_43 xf_6_15 gx225 ?_
          refine wp_aload_n xi_60 dX6_readBehindThing_46 rfl ?_
          obtain ⟨x226, gx226, H⟩ := Option.bind_eq_some_iff.mp H
          refine wq_getfi xi_60 dX6_readBehindThing_47 xf_6_73 gx226 ?_
          refine wp_iconst 1 xi_60 dX6_readBehindThing_50 rfl ?_
          refine wp_isub xi_60 dX6_readBehindThing_51 ?_
          obtain ⟨x227, gx227, H⟩ := Option.bind_eq_some_iff.mp H
          refine wq_iaload xi_60 dX6_readBehindThing_52 gx227 ?_
          refine wp_imul xi_60 dX6_readBehindThing_53 ?_
          refine wp_aload_n xi_60 dX6_readBehindThing_54 rfl ?_
          obtain ⟨x228, gx228, H⟩ := Option.bind_eq_some_iff.mp H
          refine wq_getfr xi_60 dX6_readBehindThing_55 xf_6_111 gx228 ?_
          refine wp_iload_n xi_60 dX6_readBehindThing_58 rfl ?_
          obtain ⟨x229, gx229, H⟩ := Option.bind_eq_some_iff.mp H
          refine wq_iaload xi_60 dX6_readBehindThing_59 gx229 ?_
          refine wp_iadd xi_60 dX6_readBehindThing_60 ?_
          refine wp_bipush 48 xi_60 dX6_readBehindThing_61 rfl ?_
          refine wp_isub xi_60 dX6_readBehindThing_63 ?_
          obtain ⟨h230, gh230, H⟩ := Option.bind_eq_some_iff.mp H
          refine wq_iastore xi_60 dX6_readBehindThing_64 gh230 ?_
          refine wp_aload_n xi_60 dX6_readBehindThing_65 rfl ?_
          refine wp_dup xi_60 dX6_readBehindThing_66 rfl ?_
          obtain ⟨x231, gx231, H⟩ := Option.bind_eq_some_iff.mp H
          refine wq_getfi xi_60 dX6_readBehindThing_67 xf_6_82 gx231 ?_
          refine wp_iconst 1 xi_60 dX6_readBehindThing_70 rfl ?_
          refine wp_iadd xi_60 dX6_readBehindThing_71 ?_
          obtain ⟨h232, gh232, H⟩ := Option.bind_eq_some_iff.mp H
          refine wq_putf xi_60 dX6_readBehindThing_72 xf_6_82 (Or.inl rfl) gh232 ?_
          refine wp_iconst 1 xi_60 dX6_readBehindThing_75 rfl ?_
          obtain ⟨gz, hz⟩ := pZ_ok H
          obtain ⟨rfl, rfl⟩ := Prod.mk.inj hz
          exact wp_zret xi_60 dX6_readBehindThing_76 gz hq
/- FelledHasLost$Tower.put(II)V -/
def f_92  (a : Nat) (p0 : Int32) (p1 : Int32) (h : xH) : Option (xH) :=
  ((if p0 < 0 then
  some (h)
  else
  (if (48 : Int32) ≤ p0 then
  some (h)
  else
  (pFr h a 10 0).bind fun x14 =>
  (pSi h x14 p0 p1).bind fun h15 =>
  (pFi h15 a 10 4).bind fun x16 =>
  (pDiv p0 3).bind fun x17 =>
  (pP h15 a 10 4 (.int (pMax x16 (x17 + 1)))).bind fun h18 =>
  (pDiv p0 3).bind fun x19 =>
  (pG (pIs h18 a 10)).bind fun _ =>
  (f_95 a x19 h18).bind fun h21 =>
  some (h21)) : Option (xH))).bind fun (h11 : xH) =>
  some h11
set_option maxHeartbeats 4000000 in
theorem e_92 (d : Nat) (Q : Option Value → xH → Prop)  {h : xH} {a : Nat} {p0 : Int32} {p1 : Int32} {h1 : xH} (H : f_92  a p0 p1 h = some h1) (hq : Q none h1) : Wp (d + 2) 92 0 [some (.ref a), some (.int p0), some (.int p1)] [] h Q := by
  unfold f_92 at H
  refine wp_iload_n xi_92 dX10_put_0 rfl ?_
  obtain ⟨h11, G22, H⟩ := Option.bind_eq_some_iff.mp H
  have K12 : Wp (d + 2) 92 40 [some (.ref a), some (.int p0), some (.int p1)] [] h11 Q := by
    obtain rfl := Option.some.inj H
    exact wp_vret xi_92 dX10_put_40 hq
  clear H
  have H := G22
  clear G22
  refine wp_if_lt 40 xi_92 dX10_put_1 rfl (fun c1 => ?_) (fun c1 => ?_)
  · rw [if_pos c1] at H
    obtain rfl := Option.some.inj H
    exact Wp.more (by simp [xMore, Value.category]) K12
  · rw [if_neg c1] at H
    refine wp_iload_n xi_92 dX10_put_4 rfl ?_
    refine wp_bipush 48 xi_92 dX10_put_5 rfl ?_
    refine wp_icmp_ge 40 xi_92 dX10_put_7 rfl (fun c13 => ?_) (fun c13 => ?_)
    · rw [if_pos c13] at H
      obtain rfl := Option.some.inj H
      exact Wp.more (by simp [xMore, Value.category]) K12
    · rw [if_neg c13] at H
      refine wp_aload_n xi_92 dX10_put_10 rfl ?_
      obtain ⟨x14, gx14, H⟩ := Option.bind_eq_some_iff.mp H
      refine wq_getfr xi_92 dX10_put_11 xf_10_9 gx14 ?_
      refine wp_iload_n xi_92 dX10_put_14 rfl ?_
      refine wp_iload_n xi_92 dX10_put_15 rfl ?_
      obtain ⟨h15, gh15, H⟩ := Option.bind_eq_some_iff.mp H
      refine wq_iastore xi_92 dX10_put_16 gh15 ?_
      refine wp_aload_n xi_92 dX10_put_17 rfl ?_
      refine wp_aload_n xi_92 dX10_put_18 rfl ?_
      obtain ⟨x16, gx16, H⟩ := Option.bind_eq_some_iff.mp H
      refine wq_getfi xi_92 dX10_put_19 xf_10_69 gx16 ?_
      refine wp_iload_n xi_92 dX10_put_22 rfl ?_
      refine wp_iconst 3 xi_92 dX10_put_23 rfl ?_
      obtain ⟨x17, gx17, H⟩ := Option.bind_eq_some_iff.mp H
      refine wq_idiv xi_92 dX10_put_24 gx17 ?_
      refine wp_iconst 1 xi_92 dX10_put_25 rfl ?_
      refine wp_iadd xi_92 dX10_put_26 ?_
      refine wq_max xi_92 dX10_put_27 xm_10_36 (Nat.le_of_ble_eq_true rfl) ?_
      obtain ⟨h18, gh18, H⟩ := Option.bind_eq_some_iff.mp H
      refine wq_putf xi_92 dX10_put_30 xf_10_69 (Or.inl rfl) gh18 ?_
      refine wp_aload_n xi_92 dX10_put_33 rfl ?_
      refine wp_iload_n xi_92 dX10_put_34 rfl ?_
      refine wp_iconst 3 xi_92 dX10_put_35 rfl ?_
      obtain ⟨x19, gx19, H⟩ := Option.bind_eq_some_iff.mp H
      refine wq_idiv xi_92 dX10_put_36 gx19 ?_
      obtain ⟨u20, gu20, H⟩ := Option.bind_eq_some_iff.mp H
      obtain ⟨h21, gh21, H⟩ := Option.bind_eq_some_iff.mp H
      refine wq_callV (a := a) (as := [.int x19]) (r := []) (v1 := none) xi_92 xi_95 dX10_put_37 xm_10_78 rfl (Nat.le_of_ble_eq_true rfl) (pG_ok gu20) ⟨(Nat.le_of_ble_eq_true rfl), (Nat.le_of_ble_eq_true rfl)⟩ rfl nofun (e_95 d _ gh21 ⟨rfl, rfl⟩) ?_
      change Wp _ _ _ _ [] _ _
      obtain rfl := Option.some.inj H
      exact Wp.more (by simp [xMore, Value.category]) K12
/- FelledHasLost$Tower.take(I)I -/
def f_93  (a : Nat) (p0 : Int32) (h : xH) : Option (Int32 × xH) :=
  (pG (pIs h a 10)).bind fun _ =>
  (f_90 a p0 h).bind fun (x3, h2) =>
  (if x3 = 0 then
  some ((-1), h2)
  else
  (pFr h2 a 10 0).bind fun x5 =>
  (pAi h2 x5 p0).bind fun x6 =>
  (pDiv p0 3).bind fun x7 =>
  (pFr h2 a 10 0).bind fun x8 =>
  (pSi h2 x8 p0 (-1)).bind fun h9 =>
  (pG (pIs h9 a 10)).bind fun _ =>
  (f_95 a x7 h9).bind fun h11 =>
  (pFi h11 a 10 4).bind fun x12 =>
  ((if x7 = (x12 - 1) then
  (pFr h11 a 10 1).bind fun x20 =>
  (pAi h11 x20 x7).bind fun x21 =>
  (if x21 = 0 then
  (pP h11 a 10 4 (.int x7)).bind fun h23 =>
  some (h23)
  else
  some (h11))
  else
  some (h11) : Option (xH))).bind fun (h18 : xH) =>
  some (x6, h18))
set_option maxHeartbeats 4000000 in
theorem e_93 (d : Nat) (Q : Option Value → xH → Prop)  {h : xH} {a : Nat} {p0 : Int32} {x : Int32} {h1 : xH} (H : f_93  a p0 h = some (x, h1)) (hq : Q (some (.int x)) h1) : Wp (d + 2) 93 0 [some (.ref a), some (.int p0), none, none] [] h Q := by
  unfold f_93 at H
  refine wp_aload_n xi_93 dX10_take_0 rfl ?_
  refine wp_iload_n xi_93 dX10_take_1 rfl ?_
  obtain ⟨u1, gu1, H⟩ := Option.bind_eq_some_iff.mp H
  obtain ⟨⟨x3, h2⟩, gh2, H⟩ := Option.bind_eq_some_iff.mp H
  dsimp only at H
  refine wq_callV (a := a) (as := [.int p0]) (r := []) (v1 := (some (.int x3))) xi_93 xi_90 dX10_take_2 xm_10_82 rfl (Nat.le_of_ble_eq_true rfl) (pG_ok gu1) ⟨(Nat.le_of_ble_eq_true rfl), (Nat.le_of_ble_eq_true rfl)⟩ rfl nofun (e_90 (d + 1) _ gh2 ⟨rfl, rfl⟩) ?_
  change Wp _ _ _ _ [.int x3] _ _
  refine wp_if_ne 10 xi_93 dX10_take_5 rfl (fun c4 => ?_) (fun c4 => ?_)
  · rw [if_neg c4] at H
    refine wp_aload_n xi_93 dX10_take_10 rfl ?_
    obtain ⟨x5, gx5, H⟩ := Option.bind_eq_some_iff.mp H
    refine wq_getfr xi_93 dX10_take_11 xf_10_9 gx5 ?_
    refine wp_iload_n xi_93 dX10_take_14 rfl ?_
    obtain ⟨x6, gx6, H⟩ := Option.bind_eq_some_iff.mp H
    refine wq_iaload xi_93 dX10_take_15 gx6 ?_
    refine wp_istore_n [some (.ref a), some (.int p0), some (.int x6), none] xi_93 dX10_take_16 rfl ?_
    refine wp_iload_n xi_93 dX10_take_17 rfl ?_
    refine wp_iconst 3 xi_93 dX10_take_18 rfl ?_
    obtain ⟨x7, gx7, H⟩ := Option.bind_eq_some_iff.mp H
    refine wq_idiv xi_93 dX10_take_19 gx7 ?_
    refine wp_istore_n [some (.ref a), some (.int p0), some (.int x6), some (.int x7)] xi_93 dX10_take_20 rfl ?_
    refine wp_aload_n xi_93 dX10_take_21 rfl ?_
    obtain ⟨x8, gx8, H⟩ := Option.bind_eq_some_iff.mp H
    refine wq_getfr xi_93 dX10_take_22 xf_10_9 gx8 ?_
    refine wp_iload_n xi_93 dX10_take_25 rfl ?_
    refine wp_iconst (-1) xi_93 dX10_take_26 rfl ?_
    obtain ⟨h9, gh9, H⟩ := Option.bind_eq_some_iff.mp H
    refine wq_iastore xi_93 dX10_take_27 gh9 ?_
    refine wp_aload_n xi_93 dX10_take_28 rfl ?_
    refine wp_iload_n xi_93 dX10_take_29 rfl ?_
    obtain ⟨u10, gu10, H⟩ := Option.bind_eq_some_iff.mp H
    obtain ⟨h11, gh11, H⟩ := Option.bind_eq_some_iff.mp H
    refine wq_callV (a := a) (as := [.int x7]) (r := []) (v1 := none) xi_93 xi_95 dX10_take_30 xm_10_78 rfl (Nat.le_of_ble_eq_true rfl) (pG_ok gu10) ⟨(Nat.le_of_ble_eq_true rfl), (Nat.le_of_ble_eq_true rfl)⟩ rfl nofun (e_95 d _ gh11 ⟨rfl, rfl⟩) ?_
    change Wp _ _ _ _ [] _ _
    refine wp_iload_n xi_93 dX10_take_33 rfl ?_
    refine wp_aload_n xi_93 dX10_take_34 rfl ?_
    obtain ⟨x12, gx12, H⟩ := Option.bind_eq_some_iff.mp H
    refine wq_getfi xi_93 dX10_take_35 xf_10_69 gx12 ?_
    refine wp_iconst 1 xi_93 dX10_take_38 rfl ?_
    refine wp_isub xi_93 dX10_take_39 ?_
    obtain ⟨h18, G24, H⟩ := Option.bind_eq_some_iff.mp H
    have K19 : Wp (d + 2) 93 57 [some (.ref a), some (.int p0), some (.int x6), some (.int x7)] [] h18 Q := by
      refine wp_iload_n xi_93 dX10_take_57 rfl ?_
      obtain ⟨rfl, rfl⟩ := oi2 H
      exact wp_iret xi_93 dX10_take_58 hq
    clear H
    have H := G24
    clear G24
    refine wp_icmp_ne 57 xi_93 dX10_take_40 rfl (fun c13 => ?_) (fun c13 => ?_)
    · rw [if_neg c13] at H
      obtain rfl := Option.some.inj H
      exact Wp.more (by simp [xMore, Value.category]) K19
    · rw [if_pos c13] at H
      refine wp_aload_n xi_93 dX10_take_43 rfl ?_
      obtain ⟨x20, gx20, H⟩ := Option.bind_eq_some_iff.mp H
      refine wq_getfr xi_93 dX10_take_44 xf_10_15 gx20 ?_
      refine wp_iload_n xi_93 dX10_take_47 rfl ?_
      obtain ⟨x21, gx21, H⟩ := Option.bind_eq_some_iff.mp H
      refine wq_iaload xi_93 dX10_take_48 gx21 ?_
      refine wp_if_ne 57 xi_93 dX10_take_49 rfl (fun c22 => ?_) (fun c22 => ?_)
      · rw [if_neg c22] at H
        obtain rfl := Option.some.inj H
        exact Wp.more (by simp [xMore, Value.category]) K19
      · rw [if_pos c22] at H
        refine wp_aload_n xi_93 dX10_take_52 rfl ?_
        refine wp_iload_n xi_93 dX10_take_53 rfl ?_
        obtain ⟨h23, gh23, H⟩ := Option.bind_eq_some_iff.mp H
        refine wq_putf xi_93 dX10_take_54 xf_10_69 (Or.inl rfl) gh23 ?_
        obtain rfl := Option.some.inj H
        exact Wp.more (by simp [xMore, Value.category]) K19
  · rw [if_pos c4] at H
    refine wp_iconst (-1) xi_93 dX10_take_8 rfl ?_
    obtain ⟨rfl, rfl⟩ := oi2 H
    exact wp_iret xi_93 dX10_take_9 hq
/- FelledHasLost$Tower.carry(II)V -/
def f_94  (a : Nat) (p0 : Int32) (p1 : Int32) (h : xH) : Option (xH) :=
  (pG (pIs h a 10)).bind fun _ =>
  (f_93 a p0 h).bind fun (x3, h2) =>
  (pG (pIs h2 a 10)).bind fun _ =>
  (f_92 a p1 x3 h2).bind fun h5 =>
  some h5
set_option maxHeartbeats 4000000 in
theorem e_94 (d : Nat) (Q : Option Value → xH → Prop)  {h : xH} {a : Nat} {p0 : Int32} {p1 : Int32} {h1 : xH} (H : f_94  a p0 p1 h = some h1) (hq : Q none h1) : Wp (d + 3) 94 0 [some (.ref a), some (.int p0), some (.int p1)] [] h Q := by
  unfold f_94 at H
  refine wp_aload_n xi_94 dX10_carry_0 rfl ?_
  refine wp_iload_n xi_94 dX10_carry_1 rfl ?_
  refine wp_aload_n xi_94 dX10_carry_2 rfl ?_
  refine wp_iload_n xi_94 dX10_carry_3 rfl ?_
  obtain ⟨u1, gu1, H⟩ := Option.bind_eq_some_iff.mp H
  obtain ⟨⟨x3, h2⟩, gh2, H⟩ := Option.bind_eq_some_iff.mp H
  dsimp only at H
  refine wq_callV (a := a) (as := [.int p0]) (r := [.int p1, .ref a]) (v1 := (some (.int x3))) xi_94 xi_93 dX10_carry_4 xm_10_85 rfl (Nat.le_of_ble_eq_true rfl) (pG_ok gu1) ⟨(Nat.le_of_ble_eq_true rfl), (Nat.le_of_ble_eq_true rfl)⟩ rfl nofun (e_93 d _ gh2 ⟨rfl, rfl⟩) ?_
  change Wp _ _ _ _ [.int x3, .int p1, .ref a] _ _
  obtain ⟨u4, gu4, H⟩ := Option.bind_eq_some_iff.mp H
  obtain ⟨h5, gh5, H⟩ := Option.bind_eq_some_iff.mp H
  refine wq_callV (a := a) (as := [.int p1, .int x3]) (r := []) (v1 := none) xi_94 xi_92 dX10_carry_7 xm_10_65 rfl (Nat.le_of_ble_eq_true rfl) (pG_ok gu4) ⟨(Nat.le_of_ble_eq_true rfl), (Nat.le_of_ble_eq_true rfl)⟩ rfl nofun (e_92 d _ gh5 ⟨rfl, rfl⟩) ?_
  change Wp _ _ _ _ [] _ _
  obtain rfl := Option.some.inj H
  exact wp_vret xi_94 dX10_carry_10 hq
/- FelledHasLost.canBeDrawn(I)Z -/
def f_112  (a : Nat) (p0 : Int32) (h : xH) : Option (Int32 × xH) :=
  (pFr h a 11 2).bind fun x1 =>
  (pFr h x1 7 0).bind fun x2 =>
  (pDiv p0 3).bind fun x3 =>
  (pG (pIs h x2 10)).bind fun _ =>
  (f_97 x2 x3 h).bind fun (x6, h5) =>
  (if (2 : Int32) ≤ x6 then
  (pG (pIs h5 x2 10)).bind fun _ =>
  (f_93 x2 p0 h5).bind fun (x10, h9) =>
  (pFr h9 a 11 6).bind fun x11 =>
  (pG (pIs h9 x11 0)).bind fun _ =>
  (f_3 x11 x2 h9).bind fun (x14, h13) =>
  (pG (pIs h13 x2 10)).bind fun _ =>
  (f_92 x2 p0 x10 h13).bind fun h16 =>
  pZ x14 h16
  else
  pZ 0 h5)
set_option maxHeartbeats 4000000 in
theorem e_112 (d : Nat) (Q : Option Value → xH → Prop)  {h : xH} {a : Nat} {p0 : Int32} {x : Int32} {h1 : xH} (H : f_112  a p0 h = some (x, h1)) (hq : Q (some (.int x)) h1) : Wp (d + 3) 112 0 [some (.ref a), some (.int p0), none, none, none] [] h Q := by
  unfold f_112 at H
  refine wp_aload_n xi_112 dX11_canBeDrawn_0 rfl ?_
  obtain ⟨x1, gx1, H⟩ := Option.bind_eq_some_iff.mp H
  refine wq_getfr xi_112 dX11_canBeDrawn_1 xf_11_26 gx1 ?_
  obtain ⟨x2, gx2, H⟩ := Option.bind_eq_some_iff.mp H
  refine wq_getfr xi_112 dX11_canBeDrawn_4 xf_11_132 gx2 ?_
  refine wp_astore_n [some (.ref a), some (.int p0), some (.ref x2), none, none] xi_112 dX11_canBeDrawn_7 rfl ?_
  refine wp_aload_n xi_112 dX11_canBeDrawn_8 rfl ?_
  refine wp_iload_n xi_112 dX11_canBeDrawn_9 rfl ?_
  refine wp_iconst 3 xi_112 dX11_canBeDrawn_10 rfl ?_
  obtain ⟨x3, gx3, H⟩ := Option.bind_eq_some_iff.mp H
  refine wq_idiv xi_112 dX11_canBeDrawn_11 gx3 ?_
  obtain ⟨u4, gu4, H⟩ := Option.bind_eq_some_iff.mp H
  obtain ⟨⟨x6, h5⟩, gh5, H⟩ := Option.bind_eq_some_iff.mp H
  dsimp only at H
  refine wq_callV (a := x2) (as := [.int x3]) (r := []) (v1 := (some (.int x6))) xi_112 xi_97 dX11_canBeDrawn_12 xm_11_190 rfl (Nat.le_of_ble_eq_true rfl) (pG_ok gu4) ⟨(Nat.le_of_ble_eq_true rfl), (Nat.le_of_ble_eq_true rfl)⟩ rfl nofun (e_97 (d + 1) _ gh5 ⟨rfl, rfl⟩) ?_
  change Wp _ _ _ _ [.int x6] _ _
  refine wp_iconst 2 xi_112 dX11_canBeDrawn_15 rfl ?_
  refine wp_icmp_ge 21 xi_112 dX11_canBeDrawn_16 rfl (fun c7 => ?_) (fun c7 => ?_)
  · rw [if_pos c7] at H
    refine wp_aload_n xi_112 dX11_canBeDrawn_21 rfl ?_
    refine wp_iload_n xi_112 dX11_canBeDrawn_22 rfl ?_
    obtain ⟨u8, gu8, H⟩ := Option.bind_eq_some_iff.mp H
    obtain ⟨⟨x10, h9⟩, gh9, H⟩ := Option.bind_eq_some_iff.mp H
    dsimp only at H
    refine wq_callV (a := x2) (as := [.int p0]) (r := []) (v1 := (some (.int x10))) xi_112 xi_93 dX11_canBeDrawn_23 xm_11_193 rfl (Nat.le_of_ble_eq_true rfl) (pG_ok gu8) ⟨(Nat.le_of_ble_eq_true rfl), (Nat.le_of_ble_eq_true rfl)⟩ rfl nofun (e_93 d _ gh9 ⟨rfl, rfl⟩) ?_
    change Wp _ _ _ _ [.int x10] _ _
    refine wp_istore_n [some (.ref a), some (.int p0), some (.ref x2), some (.int x10), none] xi_112 dX11_canBeDrawn_26 rfl ?_
    refine wp_aload_n xi_112 dX11_canBeDrawn_27 rfl ?_
    obtain ⟨x11, gx11, H⟩ := Option.bind_eq_some_iff.mp H
    refine wq_getfr xi_112 dX11_canBeDrawn_28 xf_11_48 gx11 ?_
    refine wp_aload_n xi_112 dX11_canBeDrawn_31 rfl ?_
    obtain ⟨u12, gu12, H⟩ := Option.bind_eq_some_iff.mp H
    obtain ⟨⟨x14, h13⟩, gh13, H⟩ := Option.bind_eq_some_iff.mp H
    dsimp only at H
    refine wq_callV (a := x11) (as := [.ref x2]) (r := []) (v1 := (some (.int x14))) xi_112 xi_3 dX11_canBeDrawn_32 xm_11_196 rfl (Nat.le_of_ble_eq_true rfl) (pG_ok gu12) ⟨(Nat.le_of_ble_eq_true rfl), (Nat.le_of_ble_eq_true rfl)⟩ rfl nofun (e_3 (d + 1) _ gh13 ⟨rfl, rfl⟩) ?_
    change Wp _ _ _ _ [.int x14] _ _
    refine wp_istore [some (.ref a), some (.int p0), some (.ref x2), some (.int x10), some (.int x14)] xi_112 dX11_canBeDrawn_35 rfl ?_
    refine wp_aload_n xi_112 dX11_canBeDrawn_37 rfl ?_
    refine wp_iload_n xi_112 dX11_canBeDrawn_38 rfl ?_
    refine wp_iload_n xi_112 dX11_canBeDrawn_39 rfl ?_
    obtain ⟨u15, gu15, H⟩ := Option.bind_eq_some_iff.mp H
    obtain ⟨h16, gh16, H⟩ := Option.bind_eq_some_iff.mp H
    refine wq_callV (a := x2) (as := [.int p0, .int x10]) (r := []) (v1 := none) xi_112 xi_92 dX11_canBeDrawn_40 xm_11_200 rfl (Nat.le_of_ble_eq_true rfl) (pG_ok gu15) ⟨(Nat.le_of_ble_eq_true rfl), (Nat.le_of_ble_eq_true rfl)⟩ rfl nofun (e_92 d _ gh16 ⟨rfl, rfl⟩) ?_
    change Wp _ _ _ _ [] _ _
    refine wp_iload xi_112 dX11_canBeDrawn_43 rfl ?_
    obtain ⟨gz, hz⟩ := pZ_ok H
    obtain ⟨rfl, rfl⟩ := Prod.mk.inj hz
    exact wp_zret xi_112 dX11_canBeDrawn_45 gz hq
  · rw [if_neg c7] at H
    refine wp_iconst 0 xi_112 dX11_canBeDrawn_19 rfl ?_
    obtain ⟨gz, hz⟩ := pZ_ok H
    obtain ⟨rfl, rfl⟩ := Prod.mk.inj hz
    exact wp_zret xi_112 dX11_canBeDrawn_20 gz hq
/- FelledHasLost.plane(II)I -/
def f_114  (a : Nat) (p0 : Int32) (p1 : Int32) (h : xH) : Option (Int32 × xH) :=
  (pFr h a 11 2).bind fun x1 =>
  (pFr h x1 7 0).bind fun x2 =>
  (pG (pIs h x2 10)).bind fun _ =>
  (f_90 x2 p0 h).bind fun (x5, h4) =>
  (if x5 = 0 then
  some ((-1), h4)
  else
  (if p1 < 0 then
  some ((-1), h4)
  else
  (if p1 ≤ 9 then
  (pFr h4 a 11 2).bind fun x9 =>
  (pFr h4 x9 7 0).bind fun x10 =>
  (pFr h4 x10 10 0).bind fun x11 =>
  (pAi h4 x11 p0).bind fun x12 =>
  (pFr h4 a 11 2).bind fun x13 =>
  (pFr h4 x13 7 0).bind fun x14 =>
  (pG (pIs h4 x14 10)).bind fun _ =>
  (f_92 x14 p0 p1 h4).bind fun h16 =>
  some (x12, h16)
  else
  some ((-1), h4))))
set_option maxHeartbeats 4000000 in
theorem e_114 (d : Nat) (Q : Option Value → xH → Prop)  {h : xH} {a : Nat} {p0 : Int32} {p1 : Int32} {x : Int32} {h1 : xH} (H : f_114  a p0 p1 h = some (x, h1)) (hq : Q (some (.int x)) h1) : Wp (d + 3) 114 0 [some (.ref a), some (.int p0), some (.int p1), none] [] h Q := by
  unfold f_114 at H
  refine wp_aload_n xi_114 dX11_plane_0 rfl ?_
  obtain ⟨x1, gx1, H⟩ := Option.bind_eq_some_iff.mp H
  refine wq_getfr xi_114 dX11_plane_1 xf_11_26 gx1 ?_
  obtain ⟨x2, gx2, H⟩ := Option.bind_eq_some_iff.mp H
  refine wq_getfr xi_114 dX11_plane_4 xf_11_132 gx2 ?_
  refine wp_iload_n xi_114 dX11_plane_7 rfl ?_
  obtain ⟨u3, gu3, H⟩ := Option.bind_eq_some_iff.mp H
  obtain ⟨⟨x5, h4⟩, gh4, H⟩ := Option.bind_eq_some_iff.mp H
  dsimp only at H
  refine wq_callV (a := x2) (as := [.int p0]) (r := []) (v1 := (some (.int x5))) xi_114 xi_90 dX11_plane_8 xm_11_165 rfl (Nat.le_of_ble_eq_true rfl) (pG_ok gu3) ⟨(Nat.le_of_ble_eq_true rfl), (Nat.le_of_ble_eq_true rfl)⟩ rfl nofun (e_90 (d + 2) _ gh4 ⟨rfl, rfl⟩) ?_
  change Wp _ _ _ _ [.int x5] _ _
  refine wp_if_eq 24 xi_114 dX11_plane_11 rfl (fun c6 => ?_) (fun c6 => ?_)
  · rw [if_pos c6] at H
    refine wp_iconst (-1) xi_114 dX11_plane_24 rfl ?_
    obtain ⟨rfl, rfl⟩ := oi2 H
    exact wp_iret xi_114 dX11_plane_25 hq
  · rw [if_neg c6] at H
    refine wp_iload_n xi_114 dX11_plane_14 rfl ?_
    refine wp_if_lt 24 xi_114 dX11_plane_15 rfl (fun c7 => ?_) (fun c7 => ?_)
    · rw [if_pos c7] at H
      refine wp_iconst (-1) xi_114 dX11_plane_24 rfl ?_
      obtain ⟨rfl, rfl⟩ := oi2 H
      exact wp_iret xi_114 dX11_plane_25 hq
    · rw [if_neg c7] at H
      refine wp_iload_n xi_114 dX11_plane_18 rfl ?_
      refine wp_bipush 9 xi_114 dX11_plane_19 rfl ?_
      refine wp_icmp_le 26 xi_114 dX11_plane_21 rfl (fun c8 => ?_) (fun c8 => ?_)
      · rw [if_pos c8] at H
        refine wp_aload_n xi_114 dX11_plane_26 rfl ?_
        obtain ⟨x9, gx9, H⟩ := Option.bind_eq_some_iff.mp H
        refine wq_getfr xi_114 dX11_plane_27 xf_11_26 gx9 ?_
        obtain ⟨x10, gx10, H⟩ := Option.bind_eq_some_iff.mp H
        refine wq_getfr xi_114 dX11_plane_30 xf_11_132 gx10 ?_
        obtain ⟨x11, gx11, H⟩ := Option.bind_eq_some_iff.mp H
        refine wq_getfr xi_114 dX11_plane_33 xf_11_175 gx11 ?_
        refine wp_iload_n xi_114 dX11_plane_36 rfl ?_
        obtain ⟨x12, gx12, H⟩ := Option.bind_eq_some_iff.mp H
        refine wq_iaload xi_114 dX11_plane_37 gx12 ?_
        refine wp_istore_n [some (.ref a), some (.int p0), some (.int p1), some (.int x12)] xi_114 dX11_plane_38 rfl ?_
        refine wp_aload_n xi_114 dX11_plane_39 rfl ?_
        obtain ⟨x13, gx13, H⟩ := Option.bind_eq_some_iff.mp H
        refine wq_getfr xi_114 dX11_plane_40 xf_11_26 gx13 ?_
        obtain ⟨x14, gx14, H⟩ := Option.bind_eq_some_iff.mp H
        refine wq_getfr xi_114 dX11_plane_43 xf_11_132 gx14 ?_
        refine wp_iload_n xi_114 dX11_plane_46 rfl ?_
        refine wp_iload_n xi_114 dX11_plane_47 rfl ?_
        obtain ⟨u15, gu15, H⟩ := Option.bind_eq_some_iff.mp H
        obtain ⟨h16, gh16, H⟩ := Option.bind_eq_some_iff.mp H
        refine wq_callV (a := x14) (as := [.int p0, .int p1]) (r := []) (v1 := none) xi_114 xi_92 dX11_plane_48 xm_11_200 rfl (Nat.le_of_ble_eq_true rfl) (pG_ok gu15) ⟨(Nat.le_of_ble_eq_true rfl), (Nat.le_of_ble_eq_true rfl)⟩ rfl nofun (e_92 d _ gh16 ⟨rfl, rfl⟩) ?_
        change Wp _ _ _ _ [] _ _
        refine wp_iload_n xi_114 dX11_plane_51 rfl ?_
        obtain ⟨rfl, rfl⟩ := oi2 H
        exact wp_iret xi_114 dX11_plane_52 hq
      · rw [if_neg c8] at H
        refine wp_iconst (-1) xi_114 dX11_plane_24 rfl ?_
        obtain ⟨rfl, rfl⟩ := oi2 H
        exact wp_iret xi_114 dX11_plane_25 hq
