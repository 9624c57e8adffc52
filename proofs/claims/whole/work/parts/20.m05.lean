/- FelledHasLostModel.bump(I)I -/
def f_196  (a : Nat) (p0 : Int32) (h : xH) : Option (Int32 × xH) :=
  (pP h a 12 0 (.int 0)).bind fun h1 =>
  (pRem (((((p0 * (1103515245)) + 12345) : Int32).toUInt32 >>> ((16 : Int32).toUInt32 &&& Int32.toUInt32 31)).toInt32) 19).bind fun x2 =>
  (pP h1 a 12 7 (.int (x2 - 9))).bind fun h3 =>
  (pRem (((((((p0 * (1103515245)) + 12345) * (1103515245)) + 12345) : Int32).toUInt32 >>> ((16 : Int32).toUInt32 &&& Int32.toUInt32 31)).toInt32) 19).bind fun x4 =>
  (pP h3 a 12 8 (.int (x4 - 9))).bind fun h5 =>
  (pFr h5 a 12 3).bind fun x6 =>
  (pG (pIs h5 a 12)).bind fun _ =>
  (f_188 a x6 h5).bind fun (x9, h8) =>
  (f_163 x9 h8).bind fun (x11, h10) =>
  some (x11, h10)
set_option maxHeartbeats 4000000 in
theorem e_196 (d : Nat) (Q : Option Value → xH → Prop)  {h : xH} {a : Nat} {p0 : Int32} {x : Int32} {h1 : xH} (H : f_196  a p0 h = some (x, h1)) (hq : Q (some (.int x)) h1) : Wp (d + 3) 196 0 [some (.ref a), some (.int p0), none] [] h Q := by
  unfold f_196 at H
  refine wp_aload_n xi_196 dX12_bump_0 rfl ?_
  refine wp_iconst 0 xi_196 dX12_bump_1 rfl ?_
  obtain ⟨h1, gh1, H⟩ := Option.bind_eq_some_iff.mp H
  refine wq_putf xi_196 dX12_bump_2 xf_12_3 (Or.inl rfl) gh1 ?_
  refine wp_iload_n xi_196 dX12_bump_5 rfl ?_
  refine wp_ldc_w xi_196 dX12_bump_6 xc_12_278 ?_
  refine wp_imul xi_196 dX12_bump_9 ?_
  refine wp_sipush 12345 xi_196 dX12_bump_10 rfl ?_
  refine wp_iadd xi_196 dX12_bump_13 ?_
  refine wp_istore_n [some (.ref a), some (.int p0), some (.int ((p0 * (1103515245)) + 12345))] xi_196 dX12_bump_14 rfl ?_
  refine wp_aload_n xi_196 dX12_bump_15 rfl ?_
  refine wp_iload_n xi_196 dX12_bump_16 rfl ?_
  refine wp_bipush 16 xi_196 dX12_bump_17 rfl ?_
  refine wp_iushr xi_196 dX12_bump_19 ?_
  refine wp_bipush 19 xi_196 dX12_bump_20 rfl ?_
  obtain ⟨x2, gx2, H⟩ := Option.bind_eq_some_iff.mp H
  refine wq_irem xi_196 dX12_bump_22 gx2 ?_
  refine wp_bipush 9 xi_196 dX12_bump_23 rfl ?_
  refine wp_isub xi_196 dX12_bump_25 ?_
  obtain ⟨h3, gh3, H⟩ := Option.bind_eq_some_iff.mp H
  refine wq_putf xi_196 dX12_bump_26 xf_12_234 (Or.inl rfl) gh3 ?_
  refine wp_iload_n xi_196 dX12_bump_29 rfl ?_
  refine wp_ldc_w xi_196 dX12_bump_30 xc_12_278 ?_
  refine wp_imul xi_196 dX12_bump_33 ?_
  refine wp_sipush 12345 xi_196 dX12_bump_34 rfl ?_
  refine wp_iadd xi_196 dX12_bump_37 ?_
  refine wp_istore_n [some (.ref a), some (.int p0), some (.int ((((p0 * (1103515245)) + 12345) * (1103515245)) + 12345))] xi_196 dX12_bump_38 rfl ?_
  refine wp_aload_n xi_196 dX12_bump_39 rfl ?_
  refine wp_iload_n xi_196 dX12_bump_40 rfl ?_
  refine wp_bipush 16 xi_196 dX12_bump_41 rfl ?_
  refine wp_iushr xi_196 dX12_bump_43 ?_
  refine wp_bipush 19 xi_196 dX12_bump_44 rfl ?_
  obtain ⟨x4, gx4, H⟩ := Option.bind_eq_some_iff.mp H
  refine wq_irem xi_196 dX12_bump_46 gx4 ?_
  refine wp_bipush 9 xi_196 dX12_bump_47 rfl ?_
  refine wp_isub xi_196 dX12_bump_49 ?_
  obtain ⟨h5, gh5, H⟩ := Option.bind_eq_some_iff.mp H
  refine wq_putf xi_196 dX12_bump_50 xf_12_237 (Or.inl rfl) gh5 ?_
  refine wp_aload_n xi_196 dX12_bump_53 rfl ?_
  refine wp_aload_n xi_196 dX12_bump_54 rfl ?_
  obtain ⟨x6, gx6, H⟩ := Option.bind_eq_some_iff.mp H
  refine wq_getfr xi_196 dX12_bump_55 xf_12_24 gx6 ?_
  obtain ⟨u7, gu7, H⟩ := Option.bind_eq_some_iff.mp H
  obtain ⟨⟨x9, h8⟩, gh8, H⟩ := Option.bind_eq_some_iff.mp H
  dsimp only at H
  refine wq_callV (a := a) (as := [.ref x6]) (r := []) (v1 := (some (.int x9))) xi_196 xi_188 dX12_bump_58 xm_12_263 rfl (Nat.le_of_ble_eq_true rfl) (pG_ok gu7) ⟨(Nat.le_of_ble_eq_true rfl), (Nat.le_of_ble_eq_true rfl)⟩ rfl nofun (e_188 d _ gh8 ⟨rfl, rfl⟩) ?_
  change Wp _ _ _ _ [.int x9] _ _
  obtain ⟨⟨x11, h10⟩, gh10, H⟩ := Option.bind_eq_some_iff.mp H
  dsimp only at H
  refine wq_callS (as := [.int x9]) (r := []) (v1 := (some (.int x11))) xi_196 xi_163 dX12_bump_61 xm_12_139 rfl (Nat.le_of_ble_eq_true rfl) ⟨(Nat.le_of_ble_eq_true rfl), (Nat.le_of_ble_eq_true rfl)⟩ rfl nofun (e_163 (d + 2) _ gh10 ⟨rfl, rfl⟩) ?_
  change Wp _ _ _ _ [.int x11] _ _
  obtain ⟨rfl, rfl⟩ := oi2 H
  exact wp_iret xi_196 dX12_bump_64 hq
/- FelledHasLostModel.stands()I -/
def f_197  (a : Nat) (h : xH) : Option (Int32 × xH) :=
  (pP h a 12 0 (.int 0)).bind fun h1 =>
  (pFr h1 a 12 3).bind fun x2 =>
  (pG (pIs h1 a 12)).bind fun _ =>
  (f_187 a x2 h1).bind fun (x5, h4) =>
  (pP h4 a 12 1 (.int 0)).bind fun h6 =>
  (pG (pIs h6 a 12)).bind fun _ =>
  (f_165 a ((x5 : Int32).toInt64) h6).bind fun h8 =>
  (pFi h8 a 12 23).bind fun x9 =>
  ((if (0 : Int32) ≤ x9 then
  (pFr h8 a 12 22).bind fun x16 =>
  (pFi h8 a 12 23).bind fun x17 =>
  (pAi h8 x16 x17).bind fun x18 =>
  some ((x18 : Int32).toInt64)
  else
  some ((0 : Int64)) : Option (Int64))).bind fun (w14 : Int64) =>
  (pG (pIs h8 a 12)).bind fun _ =>
  (f_165 a w14 h8).bind fun h20 =>
  ((if (0 : Int32) ≤ x5 then
  some (0)
  else
  some (1) : Option (Int32))).bind fun (w22 : Int32) =>
  (f_163 w22 h20).bind fun (x25, h24) =>
  some (x25, h24)
set_option maxHeartbeats 4000000 in
theorem e_197 (d : Nat) (Q : Option Value → xH → Prop)  {h : xH} {a : Nat} {x : Int32} {h1 : xH} (H : f_197  a h = some (x, h1)) (hq : Q (some (.int x)) h1) : Wp (d + 2) 197 0 [some (.ref a), none] [] h Q := by
  unfold f_197 at H
  refine wp_aload_n xi_197 dX12_stands_0 rfl ?_
  refine wp_iconst 0 xi_197 dX12_stands_1 rfl ?_
  obtain ⟨h1, gh1, H⟩ := Option.bind_eq_some_iff.mp H
  refine wq_putf xi_197 dX12_stands_2 xf_12_3 (Or.inl rfl) gh1 ?_
  refine wp_aload_n xi_197 dX12_stands_5 rfl ?_
  refine wp_aload_n xi_197 dX12_stands_6 rfl ?_
  obtain ⟨x2, gx2, H⟩ := Option.bind_eq_some_iff.mp H
  refine wq_getfr xi_197 dX12_stands_7 xf_12_24 gx2 ?_
  obtain ⟨u3, gu3, H⟩ := Option.bind_eq_some_iff.mp H
  obtain ⟨⟨x5, h4⟩, gh4, H⟩ := Option.bind_eq_some_iff.mp H
  dsimp only at H
  refine wq_callV (a := a) (as := [.ref x2]) (r := []) (v1 := (some (.int x5))) xi_197 xi_187 dX12_stands_10 xm_12_240 rfl (Nat.le_of_ble_eq_true rfl) (pG_ok gu3) ⟨(Nat.le_of_ble_eq_true rfl), (Nat.le_of_ble_eq_true rfl)⟩ rfl nofun (e_187 d _ gh4 ⟨rfl, rfl⟩) ?_
  change Wp _ _ _ _ [.int x5] _ _
  refine wp_istore_n [some (.ref a), some (.int x5)] xi_197 dX12_stands_13 rfl ?_
  refine wp_aload_n xi_197 dX12_stands_14 rfl ?_
  refine wp_iconst 0 xi_197 dX12_stands_15 rfl ?_
  obtain ⟨h6, gh6, H⟩ := Option.bind_eq_some_iff.mp H
  refine wq_putf xi_197 dX12_stands_16 xf_12_15 (Or.inl rfl) gh6 ?_
  refine wp_aload_n xi_197 dX12_stands_19 rfl ?_
  refine wp_iload_n xi_197 dX12_stands_20 rfl ?_
  refine wp_i2l xi_197 dX12_stands_21 ?_
  obtain ⟨u7, gu7, H⟩ := Option.bind_eq_some_iff.mp H
  obtain ⟨h8, gh8, H⟩ := Option.bind_eq_some_iff.mp H
  refine wq_callV (a := a) (as := [.long ((x5 : Int32).toInt64)]) (r := []) (v1 := none) xi_197 xi_165 dX12_stands_22 xm_12_279 rfl (Nat.le_of_ble_eq_true rfl) (pG_ok gu7) ⟨(Nat.le_of_ble_eq_true rfl), (Nat.le_of_ble_eq_true rfl)⟩ rfl nofun (e_165 (d + 1) _ gh8 ⟨rfl, rfl⟩) ?_
  change Wp _ _ _ _ [] _ _
  refine wp_aload_n xi_197 dX12_stands_25 rfl ?_
  refine wp_aload_n xi_197 dX12_stands_26 rfl ?_
  obtain ⟨x9, gx9, H⟩ := Option.bind_eq_some_iff.mp H
  refine wq_getfi xi_197 dX12_stands_27 xf_12_231 gx9 ?_
  obtain ⟨w14, G27, H⟩ := Option.bind_eq_some_iff.mp H
  have K15 : Wp (d + 2) 197 47 [some (.ref a), some (.int x5)] [.long w14, .ref a] h8 Q := by
    obtain ⟨u19, gu19, H⟩ := Option.bind_eq_some_iff.mp H
    obtain ⟨h20, gh20, H⟩ := Option.bind_eq_some_iff.mp H
    refine wq_callV (a := a) (as := [.long w14]) (r := []) (v1 := none) xi_197 xi_165 dX12_stands_47 xm_12_279 rfl (Nat.le_of_ble_eq_true rfl) (pG_ok gu19) ⟨(Nat.le_of_ble_eq_true rfl), (Nat.le_of_ble_eq_true rfl)⟩ rfl nofun (e_165 (d + 1) _ gh20 ⟨rfl, rfl⟩) ?_
    change Wp _ _ _ _ [] _ _
    refine wp_iload_n xi_197 dX12_stands_50 rfl ?_
    obtain ⟨w22, G26, H⟩ := Option.bind_eq_some_iff.mp H
    have K23 : Wp (d + 2) 197 59 [some (.ref a), some (.int x5)] [.int w22] h20 Q := by
      obtain ⟨⟨x25, h24⟩, gh24, H⟩ := Option.bind_eq_some_iff.mp H
      dsimp only at H
      refine wq_callS (as := [.int w22]) (r := []) (v1 := (some (.int x25))) xi_197 xi_163 dX12_stands_59 xm_12_139 rfl (Nat.le_of_ble_eq_true rfl) ⟨(Nat.le_of_ble_eq_true rfl), (Nat.le_of_ble_eq_true rfl)⟩ rfl nofun (e_163 (d + 1) _ gh24 ⟨rfl, rfl⟩) ?_
      change Wp _ _ _ _ [.int x25] _ _
      obtain ⟨rfl, rfl⟩ := oi2 H
      exact wp_iret xi_197 dX12_stands_62 hq
    clear H
    have H := G26
    clear G26
    refine wp_if_ge 58 xi_197 dX12_stands_51 rfl (fun c21 => ?_) (fun c21 => ?_)
    · rw [if_pos c21] at H
      refine wp_iconst 0 xi_197 dX12_stands_58 rfl ?_
      obtain rfl := Option.some.inj H
      exact Wp.more (by simp [xMore, Value.category]) K23
    · rw [if_neg c21] at H
      refine wp_iconst 1 xi_197 dX12_stands_54 rfl ?_
      refine wp_goto 59 xi_197 dX12_stands_55 rfl ?_
      obtain rfl := Option.some.inj H
      exact Wp.more (by simp [xMore, Value.category]) K23
  clear H
  have H := G27
  clear G27
  refine wp_if_ge 37 xi_197 dX12_stands_30 rfl (fun c10 => ?_) (fun c10 => ?_)
  · rw [if_pos c10] at H
    refine wp_aload_n xi_197 dX12_stands_37 rfl ?_
    obtain ⟨x16, gx16, H⟩ := Option.bind_eq_some_iff.mp H
    refine wq_getfr xi_197 dX12_stands_38 xf_12_58 gx16 ?_
    refine wp_aload_n xi_197 dX12_stands_41 rfl ?_
    obtain ⟨x17, gx17, H⟩ := Option.bind_eq_some_iff.mp H
    refine wq_getfi xi_197 dX12_stands_42 xf_12_231 gx17 ?_
    obtain ⟨x18, gx18, H⟩ := Option.bind_eq_some_iff.mp H
    refine wq_iaload xi_197 dX12_stands_45 gx18 ?_
    refine wp_i2l xi_197 dX12_stands_46 ?_
    obtain rfl := Option.some.inj H
    exact Wp.more (by simp [xMore, Value.category]) K15
  · rw [if_neg c10] at H
    refine wp_lconst 0 xi_197 dX12_stands_33 rfl ?_
    refine wp_goto 47 xi_197 dX12_stands_34 rfl ?_
    obtain rfl := Option.some.inj H
    exact Wp.more (by simp [xMore, Value.category]) K15
/- FelledHasLostModel.weakest()I -/
def f_199  (a : Nat) (h : xH) : Option (Int32 × xH) :=
  (pP h a 12 0 (.int 0)).bind fun h1 =>
  (pFr h1 a 12 3).bind fun x2 =>
  (pG (pIs h1 a 12)).bind fun _ =>
  (f_187 a x2 h1).bind fun (x5, h4) =>
  (pFi h4 a 12 23).bind fun x6 =>
  (if (0 : Int32) ≤ x6 then
  (pP h4 a 12 1 (.int 0)).bind fun h8 =>
  (pFr h8 a 12 22).bind fun x9 =>
  (pFi h8 a 12 23).bind fun x10 =>
  (pAi h8 x9 x10).bind fun x11 =>
  (pG (pIs h8 a 12)).bind fun _ =>
  (f_165 a ((x11 : Int32).toInt64) h8).bind fun h13 =>
  (pFi h13 a 12 23).bind fun x14 =>
  some (x14, h13)
  else
  some ((-2), h4))
set_option maxHeartbeats 4000000 in
theorem e_199 (d : Nat) (Q : Option Value → xH → Prop)  {h : xH} {a : Nat} {x : Int32} {h1 : xH} (H : f_199  a h = some (x, h1)) (hq : Q (some (.int x)) h1) : Wp (d + 2) 199 0 [some (.ref a)] [] h Q := by
  unfold f_199 at H
  refine wp_aload_n xi_199 dX12_weakest_0 rfl ?_
  refine wp_iconst 0 xi_199 dX12_weakest_1 rfl ?_
  obtain ⟨h1, gh1, H⟩ := Option.bind_eq_some_iff.mp H
  refine wq_putf xi_199 dX12_weakest_2 xf_12_3 (Or.inl rfl) gh1 ?_
  refine wp_aload_n xi_199 dX12_weakest_5 rfl ?_
  refine wp_aload_n xi_199 dX12_weakest_6 rfl ?_
  obtain ⟨x2, gx2, H⟩ := Option.bind_eq_some_iff.mp H
  refine wq_getfr xi_199 dX12_weakest_7 xf_12_24 gx2 ?_
  obtain ⟨u3, gu3, H⟩ := Option.bind_eq_some_iff.mp H
  obtain ⟨⟨x5, h4⟩, gh4, H⟩ := Option.bind_eq_some_iff.mp H
  dsimp only at H
  refine wq_callV (a := a) (as := [.ref x2]) (r := []) (v1 := (some (.int x5))) xi_199 xi_187 dX12_weakest_10 xm_12_240 rfl (Nat.le_of_ble_eq_true rfl) (pG_ok gu3) ⟨(Nat.le_of_ble_eq_true rfl), (Nat.le_of_ble_eq_true rfl)⟩ rfl nofun (e_187 d _ gh4 ⟨rfl, rfl⟩) ?_
  change Wp _ _ _ _ [.int x5] _ _
  refine wp_pop xi_199 dX12_weakest_13 rfl ?_
  refine wp_aload_n xi_199 dX12_weakest_14 rfl ?_
  obtain ⟨x6, gx6, H⟩ := Option.bind_eq_some_iff.mp H
  refine wq_getfi xi_199 dX12_weakest_15 xf_12_231 gx6 ?_
  refine wp_if_ge 24 xi_199 dX12_weakest_18 rfl (fun c7 => ?_) (fun c7 => ?_)
  · rw [if_pos c7] at H
    refine wp_aload_n xi_199 dX12_weakest_24 rfl ?_
    refine wp_iconst 0 xi_199 dX12_weakest_25 rfl ?_
    obtain ⟨h8, gh8, H⟩ := Option.bind_eq_some_iff.mp H
    refine wq_putf xi_199 dX12_weakest_26 xf_12_15 (Or.inl rfl) gh8 ?_
    refine wp_aload_n xi_199 dX12_weakest_29 rfl ?_
    refine wp_aload_n xi_199 dX12_weakest_30 rfl ?_
    obtain ⟨x9, gx9, H⟩ := Option.bind_eq_some_iff.mp H
    refine wq_getfr xi_199 dX12_weakest_31 xf_12_58 gx9 ?_
    refine wp_aload_n xi_199 dX12_weakest_34 rfl ?_
    obtain ⟨x10, gx10, H⟩ := Option.bind_eq_some_iff.mp H
    refine wq_getfi xi_199 dX12_weakest_35 xf_12_231 gx10 ?_
    obtain ⟨x11, gx11, H⟩ := Option.bind_eq_some_iff.mp H
    refine wq_iaload xi_199 dX12_weakest_38 gx11 ?_
    refine wp_i2l xi_199 dX12_weakest_39 ?_
    obtain ⟨u12, gu12, H⟩ := Option.bind_eq_some_iff.mp H
    obtain ⟨h13, gh13, H⟩ := Option.bind_eq_some_iff.mp H
    refine wq_callV (a := a) (as := [.long ((x11 : Int32).toInt64)]) (r := []) (v1 := none) xi_199 xi_165 dX12_weakest_40 xm_12_279 rfl (Nat.le_of_ble_eq_true rfl) (pG_ok gu12) ⟨(Nat.le_of_ble_eq_true rfl), (Nat.le_of_ble_eq_true rfl)⟩ rfl nofun (e_165 (d + 1) _ gh13 ⟨rfl, rfl⟩) ?_
    change Wp _ _ _ _ [] _ _
    refine wp_aload_n xi_199 dX12_weakest_43 rfl ?_
    obtain ⟨x14, gx14, H⟩ := Option.bind_eq_some_iff.mp H
    refine wq_getfi xi_199 dX12_weakest_44 xf_12_231 gx14 ?_
    obtain ⟨rfl, rfl⟩ := oi2 H
    exact wp_iret xi_199 dX12_weakest_47 hq
  · rw [if_neg c7] at H
    refine wp_bipush (-2) xi_199 dX12_weakest_21 rfl ?_
    obtain ⟨rfl, rfl⟩ := oi2 H
    exact wp_iret xi_199 dX12_weakest_23 hq
/- FelledHasLostModel.lean(I)I -/
def f_200_26  : Nat → Nat → Int32 → Int32 → Int32 → Int32 → xH → Option (Int32 × Int32 × xH)
  | 0, _, _, _, _, _, _ => none
  | n + 1, a0, a1, a2, a3, a4, h =>
  (if (48 : Int32) ≤ a4 then
  some (a2, a3, h)
  else
  (pFr h a0 12 3).bind fun x2 =>
  (pAi h x2 a4).bind fun x3 =>
  ((if (0 : Int32) ≤ x3 then
  (pFr h a0 12 3).bind fun x9 =>
  (pAi h x9 a4).bind fun x10 =>
  some ((10 + x10))
  else
  some (0) : Option (Int32))).bind fun (w7 : Int32) =>
  (pDiv a4 3).bind fun x11 =>
  (pRem x11 2).bind fun x12 =>
  ((if x12 = a1 then
  (pRem a4 3).bind fun x17 =>
  some ((w7 * (x17 - 1)))
  else
  some (0) : Option (Int32))).bind fun (w15 : Int32) =>
  f_200_26 n a0 a1 (a2 + w15) (a3 + w7) (a4 + 1) h)
theorem ef_200_26 (d : Nat) (Q : Option Value → xH → Prop)  : ∀ (n : Nat) (a0 : Nat) (a1 : Int32) (a2 : Int32) (a3 : Int32) (a4 : Int32) (h : xH) (r : Int32 × Int32 × xH), f_200_26 n a0 a1 a2 a3 a4 h = some r → (∀ (w2 : Int32) (w3 : Int32) (h1 : xH), r = (w2, w3, h1) → Wp (d + 1) 200 96 [some (.ref a0), none, some (.int w2), some (.int w3), none, none] [] h1 Q) → Wp (d + 1) 200 26 [some (.ref a0), some (.int a1), some (.int a2), some (.int a3), some (.int a4), none] [] h Q := by
  intro n
  induction n with
  | zero =>
    intro a0 a1 a2 a3 a4 h r H
    cases H
  | succ n ih =>
    intro a0 a1 a2 a3 a4 h r H KE
    unfold f_200_26 at H
    refine wp_iload xi_200 dX12_lean_26 rfl ?_
    refine wp_bipush 48 xi_200 dX12_lean_28 rfl ?_
    refine wp_icmp_ge 96 xi_200 dX12_lean_30 rfl (fun c1 => ?_) (fun c1 => ?_)
    · rw [if_pos c1] at H
      obtain rfl := Option.some.inj H
      exact Wp.more (by simp [xMore, Value.category]) (KE a2 a3 h rfl)
    · rw [if_neg c1] at H
      refine wp_aload_n xi_200 dX12_lean_33 rfl ?_
      obtain ⟨x2, gx2, H⟩ := Option.bind_eq_some_iff.mp H
      refine wq_getfr xi_200 dX12_lean_34 xf_12_24 gx2 ?_
      refine wp_iload xi_200 dX12_lean_37 rfl ?_
      obtain ⟨x3, gx3, H⟩ := Option.bind_eq_some_iff.mp H
      refine wq_iaload xi_200 dX12_lean_39 gx3 ?_
      obtain ⟨w7, G19, H⟩ := Option.bind_eq_some_iff.mp H
      have K8 : Wp (d + 1) 200 57 [some (.ref a0), some (.int a1), some (.int a2), some (.int a3), some (.int a4), none] [.int w7] h Q := by
        refine wp_istore [some (.ref a0), some (.int a1), some (.int a2), some (.int a3), some (.int a4), some (.int w7)] xi_200 dX12_lean_57 rfl ?_
        refine wp_iload_n xi_200 dX12_lean_59 rfl ?_
        refine wp_iload xi_200 dX12_lean_60 rfl ?_
        refine wp_iconst 3 xi_200 dX12_lean_62 rfl ?_
        obtain ⟨x11, gx11, H⟩ := Option.bind_eq_some_iff.mp H
        refine wq_idiv xi_200 dX12_lean_63 gx11 ?_
        refine wp_iconst 2 xi_200 dX12_lean_64 rfl ?_
        obtain ⟨x12, gx12, H⟩ := Option.bind_eq_some_iff.mp H
        refine wq_irem xi_200 dX12_lean_65 gx12 ?_
        refine wp_iload_n xi_200 dX12_lean_66 rfl ?_
        obtain ⟨w15, G18, H⟩ := Option.bind_eq_some_iff.mp H
        have K16 : Wp (d + 1) 200 83 [some (.ref a0), some (.int a1), some (.int a2), some (.int a3), some (.int a4), some (.int w7)] [.int w15, .int a2] h Q := by
          refine wp_iadd xi_200 dX12_lean_83 ?_
          refine wp_istore_n [some (.ref a0), some (.int a1), some (.int (a2 + w15)), some (.int a3), some (.int a4), some (.int w7)] xi_200 dX12_lean_84 rfl ?_
          refine wp_iload_n xi_200 dX12_lean_85 rfl ?_
          refine wp_iload xi_200 dX12_lean_86 rfl ?_
          refine wp_iadd xi_200 dX12_lean_88 ?_
          refine wp_istore_n [some (.ref a0), some (.int a1), some (.int (a2 + w15)), some (.int (a3 + w7)), some (.int a4), some (.int w7)] xi_200 dX12_lean_89 rfl ?_
          refine wp_iinc (a4 + 1) [some (.ref a0), some (.int a1), some (.int (a2 + w15)), some (.int (a3 + w7)), some (.int (a4 + 1)), some (.int w7)] xi_200 dX12_lean_90 rfl rfl rfl ?_
          refine wp_goto 26 xi_200 dX12_lean_93 rfl ?_
          exact Wp.more (by simp [xMore, Value.category]) (ih a0 a1 (a2 + w15) (a3 + w7) (a4 + 1) h _ H KE)
        clear H
        have H := G18
        clear G18
        refine wp_icmp_ne 82 xi_200 dX12_lean_67 rfl (fun c13 => ?_) (fun c13 => ?_)
        · rw [if_neg c13] at H
          refine wp_iconst 0 xi_200 dX12_lean_82 rfl ?_
          obtain rfl := Option.some.inj H
          exact Wp.more (by simp [xMore, Value.category]) K16
        · rw [if_pos c13] at H
          refine wp_iload xi_200 dX12_lean_70 rfl ?_
          refine wp_iload xi_200 dX12_lean_72 rfl ?_
          refine wp_iconst 3 xi_200 dX12_lean_74 rfl ?_
          obtain ⟨x17, gx17, H⟩ := Option.bind_eq_some_iff.mp H
          refine wq_irem xi_200 dX12_lean_75 gx17 ?_
          refine wp_iconst 1 xi_200 dX12_lean_76 rfl ?_
          refine wp_isub xi_200 dX12_lean_77 ?_
          refine wp_imul xi_200 dX12_lean_78 ?_
          refine wp_goto 83 xi_200 dX12_lean_79 rfl ?_
          obtain rfl := Option.some.inj H
          exact Wp.more (by simp [xMore, Value.category]) K16
      clear H
      have H := G19
      clear G19
      refine wp_if_ge 47 xi_200 dX12_lean_40 rfl (fun c4 => ?_) (fun c4 => ?_)
      · rw [if_pos c4] at H
        refine wp_bipush 10 xi_200 dX12_lean_47 rfl ?_
        refine wp_aload_n xi_200 dX12_lean_49 rfl ?_
        obtain ⟨x9, gx9, H⟩ := Option.bind_eq_some_iff.mp H
        refine wq_getfr xi_200 dX12_lean_50 xf_12_24 gx9 ?_
        refine wp_iload xi_200 dX12_lean_53 rfl ?_
        obtain ⟨x10, gx10, H⟩ := Option.bind_eq_some_iff.mp H
        refine wq_iaload xi_200 dX12_lean_55 gx10 ?_
        refine wp_iadd xi_200 dX12_lean_56 ?_
        obtain rfl := Option.some.inj H
        exact Wp.more (by simp [xMore, Value.category]) K8
      · rw [if_neg c4] at H
        refine wp_iconst 0 xi_200 dX12_lean_43 rfl ?_
        refine wp_goto 57 xi_200 dX12_lean_44 rfl ?_
        obtain rfl := Option.some.inj H
        exact Wp.more (by simp [xMore, Value.category]) K8
def f_200  (a : Nat) (p0 : Int32) (h : xH) : Option (Int32 × xH) :=
  (pP h a 12 0 (.int 0)).bind fun h1 =>
  (f_162 ((p0 : Int32).toInt64) (0 : Int64) (1 : Int64) h1).bind fun (x3, h2) =>
  (if x3 = 0 then
  some ((-100000), h2)
  else
  (f_200_26 100000 a p0 0 0 0 h2).bind fun (w6, w7, h5) =>
  (pP h5 a 12 1 (.int 0)).bind fun h10 =>
  (pG (pIs h10 a 12)).bind fun _ =>
  (f_165 a ((w7 : Int32).toInt64) h10).bind fun h12 =>
  some (w6, h12))
set_option maxHeartbeats 4000000 in
theorem e_200 (d : Nat) (Q : Option Value → xH → Prop)  {h : xH} {a : Nat} {p0 : Int32} {x : Int32} {h1 : xH} (H : f_200  a p0 h = some (x, h1)) (hq : Q (some (.int x)) h1) : Wp (d + 1) 200 0 [some (.ref a), some (.int p0), none, none, none, none] [] h Q := by
  unfold f_200 at H
  refine wp_aload_n xi_200 dX12_lean_0 rfl ?_
  refine wp_iconst 0 xi_200 dX12_lean_1 rfl ?_
  obtain ⟨h1, gh1, H⟩ := Option.bind_eq_some_iff.mp H
  refine wq_putf xi_200 dX12_lean_2 xf_12_3 (Or.inl rfl) gh1 ?_
  refine wp_iload_n xi_200 dX12_lean_5 rfl ?_
  refine wp_i2l xi_200 dX12_lean_6 ?_
  refine wp_lconst 0 xi_200 dX12_lean_7 rfl ?_
  refine wp_lconst 1 xi_200 dX12_lean_8 rfl ?_
  obtain ⟨⟨x3, h2⟩, gh2, H⟩ := Option.bind_eq_some_iff.mp H
  dsimp only at H
  refine wq_callS (as := [.long ((p0 : Int32).toInt64), .long (0 : Int64), .long (1 : Int64)]) (r := []) (v1 := (some (.int x3))) xi_200 xi_162 dX12_lean_9 xm_12_135 rfl (Nat.le_of_ble_eq_true rfl) ⟨(Nat.le_of_ble_eq_true rfl), (Nat.le_of_ble_eq_true rfl)⟩ rfl nofun (e_162 d _ gh2 ⟨rfl, rfl⟩) ?_
  change Wp _ _ _ _ [.int x3] _ _
  refine wp_if_ne 19 xi_200 dX12_lean_12 rfl (fun c4 => ?_) (fun c4 => ?_)
  · rw [if_neg c4] at H
    refine wp_iconst 0 xi_200 dX12_lean_19 rfl ?_
    refine wp_istore_n [some (.ref a), some (.int p0), some (.int 0), none, none, none] xi_200 dX12_lean_20 rfl ?_
    refine wp_iconst 0 xi_200 dX12_lean_21 rfl ?_
    refine wp_istore_n [some (.ref a), some (.int p0), some (.int 0), some (.int 0), none, none] xi_200 dX12_lean_22 rfl ?_
    refine wp_iconst 0 xi_200 dX12_lean_23 rfl ?_
    refine wp_istore [some (.ref a), some (.int p0), some (.int 0), some (.int 0), some (.int 0), none] xi_200 dX12_lean_24 rfl ?_
    obtain ⟨⟨w6, w7, h5⟩, G8, H⟩ := Option.bind_eq_some_iff.mp H
    dsimp only at H
    refine Wp.more (by simp [xMore, Value.category]) (ef_200_26 d Q  100000 a p0 0 0 0 h2 _ G8 (fun z0 z1 z2 e9 => ?_))
    cases e9
    refine wp_aload_n xi_200 dX12_lean_96 rfl ?_
    refine wp_iconst 0 xi_200 dX12_lean_97 rfl ?_
    obtain ⟨h10, gh10, H⟩ := Option.bind_eq_some_iff.mp H
    refine wq_putf xi_200 dX12_lean_98 xf_12_15 (Or.inl rfl) gh10 ?_
    refine wp_aload_n xi_200 dX12_lean_101 rfl ?_
    refine wp_iload_n xi_200 dX12_lean_102 rfl ?_
    refine wp_i2l xi_200 dX12_lean_103 ?_
    obtain ⟨u11, gu11, H⟩ := Option.bind_eq_some_iff.mp H
    obtain ⟨h12, gh12, H⟩ := Option.bind_eq_some_iff.mp H
    refine wq_callV (a := a) (as := [.long ((w7 : Int32).toInt64)]) (r := []) (v1 := none) xi_200 xi_165 dX12_lean_104 xm_12_279 rfl (Nat.le_of_ble_eq_true rfl) (pG_ok gu11) ⟨(Nat.le_of_ble_eq_true rfl), (Nat.le_of_ble_eq_true rfl)⟩ rfl nofun (e_165 d _ gh12 ⟨rfl, rfl⟩) ?_
    change Wp _ _ _ _ [] _ _
    refine wp_iload_n xi_200 dX12_lean_107 rfl ?_
    obtain ⟨rfl, rfl⟩ := oi2 H
    exact wp_iret xi_200 dX12_lean_108 hq
  · rw [if_pos c4] at H
    refine wp_ldc_w xi_200 dX12_lean_15 xc_12_288 ?_
    obtain ⟨rfl, rfl⟩ := oi2 H
    exact wp_iret xi_200 dX12_lean_18 hq
/- FelledHasLostModel.hasGap([I)Z -/
def f_201  (p0 : Nat) (h : xH) : Option (Int32 × xH) :=
  (pAi h p0 48).bind fun x1 =>
  ((if x1 ≤ 0 then
  some (0, h)
  else
  (pAi h p0 48).bind fun x10 =>
  (f_170 p0 (x10 - 1) h).bind fun (x12, h11) =>
  (if (3 : Int32) ≤ x12 then
  some (0, h11)
  else
  some (1, h11)) : Option (Int32 × xH))).bind fun (w7, h8) =>
  pZ w7 h8
set_option maxHeartbeats 4000000 in
theorem e_201 (d : Nat) (Q : Option Value → xH → Prop)  {h : xH} {p0 : Nat} {x : Int32} {h1 : xH} (H : f_201  p0 h = some (x, h1)) (hq : Q (some (.int x)) h1) : Wp (d + 2) 201 0 [some (.ref p0)] [] h Q := by
  unfold f_201 at H
  refine wp_aload_n xi_201 dX12_hasGap_0 rfl ?_
  refine wp_bipush 48 xi_201 dX12_hasGap_1 rfl ?_
  obtain ⟨x1, gx1, H⟩ := Option.bind_eq_some_iff.mp H
  refine wq_iaload xi_201 dX12_hasGap_3 gx1 ?_
  obtain ⟨⟨w7, h8⟩, G14, H⟩ := Option.bind_eq_some_iff.mp H
  dsimp only at H
  have K9 : Wp (d + 2) 201 26 [some (.ref p0)] [.int w7] h8 Q := by
    obtain ⟨gz, hz⟩ := pZ_ok H
    obtain ⟨rfl, rfl⟩ := Prod.mk.inj hz
    exact wp_zret xi_201 dX12_hasGap_26 gz hq
  clear H
  have H := G14
  clear G14
  refine wp_if_le 25 xi_201 dX12_hasGap_4 rfl (fun c2 => ?_) (fun c2 => ?_)
  · rw [if_pos c2] at H
    refine wp_iconst 0 xi_201 dX12_hasGap_25 rfl ?_
    simp only [Option.some.injEq, Prod.mk.injEq] at H
    obtain ⟨rfl, rfl⟩ := H
    exact Wp.more (by simp [xMore, Value.category]) K9
  · rw [if_neg c2] at H
    refine wp_aload_n xi_201 dX12_hasGap_7 rfl ?_
    refine wp_aload_n xi_201 dX12_hasGap_8 rfl ?_
    refine wp_bipush 48 xi_201 dX12_hasGap_9 rfl ?_
    obtain ⟨x10, gx10, H⟩ := Option.bind_eq_some_iff.mp H
    refine wq_iaload xi_201 dX12_hasGap_11 gx10 ?_
    refine wp_iconst 1 xi_201 dX12_hasGap_12 rfl ?_
    refine wp_isub xi_201 dX12_hasGap_13 ?_
    obtain ⟨⟨x12, h11⟩, gh11, H⟩ := Option.bind_eq_some_iff.mp H
    dsimp only at H
    refine wq_callS (as := [.ref p0, .int (x10 - 1)]) (r := []) (v1 := (some (.int x12))) xi_201 xi_170 dX12_hasGap_14 xm_12_256 rfl (Nat.le_of_ble_eq_true rfl) ⟨(Nat.le_of_ble_eq_true rfl), (Nat.le_of_ble_eq_true rfl)⟩ rfl nofun (e_170 d _ gh11 ⟨rfl, rfl⟩) ?_
    change Wp _ _ _ _ [.int x12] _ _
    refine wp_iconst 3 xi_201 dX12_hasGap_17 rfl ?_
    refine wp_icmp_ge 25 xi_201 dX12_hasGap_18 rfl (fun c13 => ?_) (fun c13 => ?_)
    · rw [if_pos c13] at H
      refine wp_iconst 0 xi_201 dX12_hasGap_25 rfl ?_
      simp only [Option.some.injEq, Prod.mk.injEq] at H
      obtain ⟨rfl, rfl⟩ := H
      exact Wp.more (by simp [xMore, Value.category]) K9
    · rw [if_neg c13] at H
      refine wp_iconst 1 xi_201 dX12_hasGap_21 rfl ?_
      refine wp_goto 26 xi_201 dX12_hasGap_22 rfl ?_
      simp only [Option.some.injEq, Prod.mk.injEq] at H
      obtain ⟨rfl, rfl⟩ := H
      exact Wp.more (by simp [xMore, Value.category]) K9
/- FelledHasLostModel.canMove([II)Z -/
def f_202  (p0 : Nat) (p1 : Int32) (h : xH) : Option (Int32 × xH) :=
  (pDiv p1 10).bind fun x1 =>
  (pRem p1 10).bind fun x2 =>
  (pAi h p0 50).bind fun x3 =>
  (if (0 : Int32) < x3 then
  pZ 0 h
  else
  (if p1 < 0 then
  pZ 0 h
  else
  (if (3 : Int32) ≤ x2 then
  pZ 0 h
  else
  (f_169 p0 x1 h).bind fun (x8, h7) =>
  (if x8 = 0 then
  pZ 0 h7
  else
  (pAi h7 p0 48).bind fun x10 =>
  (f_201 p0 h7).bind fun (x12, h11) =>
  (pDiv x1 3).bind fun x13 =>
  (f_163 x12 h11).bind fun (x15, h14) =>
  (if x13 ≤ (((x10 - 1) - 1) - x15) then
  ((if x12 = 0 then
  (pAi h14 p0 48).bind fun x24 =>
  (if (16 : Int32) ≤ x24 then
  some (0)
  else
  some (1))
  else
  (pAi h14 p0 ((3 * (x10 - 1)) + x2)).bind fun x26 =>
  (if (0 : Int32) ≤ x26 then
  some (0)
  else
  some (1)) : Option (Int32))).bind fun (w22 : Int32) =>
  pZ w22 h14
  else
  pZ 0 h14)))))
set_option maxHeartbeats 4000000 in
theorem e_202 (d : Nat) (Q : Option Value → xH → Prop)  {h : xH} {p0 : Nat} {p1 : Int32} {x : Int32} {h1 : xH} (H : f_202  p0 p1 h = some (x, h1)) (hq : Q (some (.int x)) h1) : Wp (d + 3) 202 0 [some (.ref p0), some (.int p1), none, none, none, none] [] h Q := by
  unfold f_202 at H
  refine wp_iload_n xi_202 dX12_canMove_0 rfl ?_
  refine wp_bipush 10 xi_202 dX12_canMove_1 rfl ?_
  obtain ⟨x1, gx1, H⟩ := Option.bind_eq_some_iff.mp H
  refine wq_idiv xi_202 dX12_canMove_3 gx1 ?_
  refine wp_istore_n [some (.ref p0), some (.int p1), some (.int x1), none, none, none] xi_202 dX12_canMove_4 rfl ?_
  refine wp_iload_n xi_202 dX12_canMove_5 rfl ?_
  refine wp_bipush 10 xi_202 dX12_canMove_6 rfl ?_
  obtain ⟨x2, gx2, H⟩ := Option.bind_eq_some_iff.mp H
  refine wq_irem xi_202 dX12_canMove_8 gx2 ?_
  refine wp_istore_n [some (.ref p0), some (.int p1), some (.int x1), some (.int x2), none, none] xi_202 dX12_canMove_9 rfl ?_
  refine wp_aload_n xi_202 dX12_canMove_10 rfl ?_
  refine wp_bipush 50 xi_202 dX12_canMove_11 rfl ?_
  obtain ⟨x3, gx3, H⟩ := Option.bind_eq_some_iff.mp H
  refine wq_iaload xi_202 dX12_canMove_13 gx3 ?_
  refine wp_if_gt 34 xi_202 dX12_canMove_14 rfl (fun c4 => ?_) (fun c4 => ?_)
  · rw [if_pos c4] at H
    refine wp_iconst 0 xi_202 dX12_canMove_34 rfl ?_
    obtain ⟨gz, hz⟩ := pZ_ok H
    obtain ⟨rfl, rfl⟩ := Prod.mk.inj hz
    exact wp_zret xi_202 dX12_canMove_35 gz hq
  · rw [if_neg c4] at H
    refine wp_iload_n xi_202 dX12_canMove_17 rfl ?_
    refine wp_if_lt 34 xi_202 dX12_canMove_18 rfl (fun c5 => ?_) (fun c5 => ?_)
    · rw [if_pos c5] at H
      refine wp_iconst 0 xi_202 dX12_canMove_34 rfl ?_
      obtain ⟨gz, hz⟩ := pZ_ok H
      obtain ⟨rfl, rfl⟩ := Prod.mk.inj hz
      exact wp_zret xi_202 dX12_canMove_35 gz hq
    · rw [if_neg c5] at H
      refine wp_iload_n xi_202 dX12_canMove_21 rfl ?_
      refine wp_iconst 3 xi_202 dX12_canMove_22 rfl ?_
      refine wp_icmp_ge 34 xi_202 dX12_canMove_23 rfl (fun c6 => ?_) (fun c6 => ?_)
      · rw [if_pos c6] at H
        refine wp_iconst 0 xi_202 dX12_canMove_34 rfl ?_
        obtain ⟨gz, hz⟩ := pZ_ok H
        obtain ⟨rfl, rfl⟩ := Prod.mk.inj hz
        exact wp_zret xi_202 dX12_canMove_35 gz hq
      · rw [if_neg c6] at H
        refine wp_aload_n xi_202 dX12_canMove_26 rfl ?_
        refine wp_iload_n xi_202 dX12_canMove_27 rfl ?_
        obtain ⟨⟨x8, h7⟩, gh7, H⟩ := Option.bind_eq_some_iff.mp H
        dsimp only at H
        refine wq_callS (as := [.ref p0, .int x1]) (r := []) (v1 := (some (.int x8))) xi_202 xi_169 dX12_canMove_28 xm_12_244 rfl (Nat.le_of_ble_eq_true rfl) ⟨(Nat.le_of_ble_eq_true rfl), (Nat.le_of_ble_eq_true rfl)⟩ rfl nofun (e_169 (d + 1) _ gh7 ⟨rfl, rfl⟩) ?_
        change Wp _ _ _ _ [.int x8] _ _
        refine wp_if_ne 36 xi_202 dX12_canMove_31 rfl (fun c9 => ?_) (fun c9 => ?_)
        · rw [if_neg c9] at H
          refine wp_aload_n xi_202 dX12_canMove_36 rfl ?_
          refine wp_bipush 48 xi_202 dX12_canMove_37 rfl ?_
          obtain ⟨x10, gx10, H⟩ := Option.bind_eq_some_iff.mp H
          refine wq_iaload xi_202 dX12_canMove_39 gx10 ?_
          refine wp_iconst 1 xi_202 dX12_canMove_40 rfl ?_
          refine wp_isub xi_202 dX12_canMove_41 ?_
          refine wp_istore [some (.ref p0), some (.int p1), some (.int x1), some (.int x2), some (.int (x10 - 1)), none] xi_202 dX12_canMove_42 rfl ?_
          refine wp_aload_n xi_202 dX12_canMove_44 rfl ?_
          obtain ⟨⟨x12, h11⟩, gh11, H⟩ := Option.bind_eq_some_iff.mp H
          dsimp only at H
          refine wq_callS (as := [.ref p0]) (r := []) (v1 := (some (.int x12))) xi_202 xi_201 dX12_canMove_45 xm_12_289 rfl (Nat.le_of_ble_eq_true rfl) ⟨(Nat.le_of_ble_eq_true rfl), (Nat.le_of_ble_eq_true rfl)⟩ rfl nofun (e_201 d _ gh11 ⟨rfl, rfl⟩) ?_
          change Wp _ _ _ _ [.int x12] _ _
          refine wp_istore [some (.ref p0), some (.int p1), some (.int x1), some (.int x2), some (.int (x10 - 1)), some (.int x12)] xi_202 dX12_canMove_48 rfl ?_
          refine wp_iload_n xi_202 dX12_canMove_50 rfl ?_
          refine wp_iconst 3 xi_202 dX12_canMove_51 rfl ?_
          obtain ⟨x13, gx13, H⟩ := Option.bind_eq_some_iff.mp H
          refine wq_idiv xi_202 dX12_canMove_52 gx13 ?_
          refine wp_iload xi_202 dX12_canMove_53 rfl ?_
          refine wp_iconst 1 xi_202 dX12_canMove_55 rfl ?_
          refine wp_isub xi_202 dX12_canMove_56 ?_
          refine wp_iload xi_202 dX12_canMove_57 rfl ?_
          obtain ⟨⟨x15, h14⟩, gh14, H⟩ := Option.bind_eq_some_iff.mp H
          dsimp only at H
          refine wq_callS (as := [.int x12]) (r := [.int ((x10 - 1) - 1), .int x13]) (v1 := (some (.int x15))) xi_202 xi_163 dX12_canMove_59 xm_12_139 rfl (Nat.le_of_ble_eq_true rfl) ⟨(Nat.le_of_ble_eq_true rfl), (Nat.le_of_ble_eq_true rfl)⟩ rfl nofun (e_163 (d + 2) _ gh14 ⟨rfl, rfl⟩) ?_
          change Wp _ _ _ _ [.int x15, .int ((x10 - 1) - 1), .int x13] _ _
          refine wp_isub xi_202 dX12_canMove_62 ?_
          refine wp_icmp_le 68 xi_202 dX12_canMove_63 rfl (fun c16 => ?_) (fun c16 => ?_)
          · rw [if_pos c16] at H
            refine wp_iload xi_202 dX12_canMove_68 rfl ?_
            obtain ⟨w22, G28, H⟩ := Option.bind_eq_some_iff.mp H
            have K23 : Wp (d + 3) 202 106 [some (.ref p0), some (.int p1), some (.int x1), some (.int x2), some (.int (x10 - 1)), some (.int x12)] [.int w22] h14 Q := by
              obtain ⟨gz, hz⟩ := pZ_ok H
              obtain ⟨rfl, rfl⟩ := Prod.mk.inj hz
              exact wp_zret xi_202 dX12_canMove_106 gz hq
            clear H
            have H := G28
            clear G28
            refine wp_if_eq 92 xi_202 dX12_canMove_70 rfl (fun c17 => ?_) (fun c17 => ?_)
            · rw [if_pos c17] at H
              refine wp_aload_n xi_202 dX12_canMove_92 rfl ?_
              refine wp_bipush 48 xi_202 dX12_canMove_93 rfl ?_
              obtain ⟨x24, gx24, H⟩ := Option.bind_eq_some_iff.mp H
              refine wq_iaload xi_202 dX12_canMove_95 gx24 ?_
              refine wp_bipush 16 xi_202 dX12_canMove_96 rfl ?_
              refine wp_icmp_ge 105 xi_202 dX12_canMove_98 rfl (fun c25 => ?_) (fun c25 => ?_)
              · rw [if_pos c25] at H
                refine wp_iconst 0 xi_202 dX12_canMove_105 rfl ?_
                obtain rfl := Option.some.inj H
                exact Wp.more (by simp [xMore, Value.category]) K23
              · rw [if_neg c25] at H
                refine wp_iconst 1 xi_202 dX12_canMove_101 rfl ?_
                refine wp_goto 106 xi_202 dX12_canMove_102 rfl ?_
                obtain rfl := Option.some.inj H
                exact Wp.more (by simp [xMore, Value.category]) K23
            · rw [if_neg c17] at H
              refine wp_aload_n xi_202 dX12_canMove_73 rfl ?_
              refine wp_iconst 3 xi_202 dX12_canMove_74 rfl ?_
              refine wp_iload xi_202 dX12_canMove_75 rfl ?_
              refine wp_imul xi_202 dX12_canMove_77 ?_
              refine wp_iload_n xi_202 dX12_canMove_78 rfl ?_
              refine wp_iadd xi_202 dX12_canMove_79 ?_
              obtain ⟨x26, gx26, H⟩ := Option.bind_eq_some_iff.mp H
              refine wq_iaload xi_202 dX12_canMove_80 gx26 ?_
              refine wp_if_ge 88 xi_202 dX12_canMove_81 rfl (fun c27 => ?_) (fun c27 => ?_)
              · rw [if_pos c27] at H
                refine wp_iconst 0 xi_202 dX12_canMove_88 rfl ?_
                refine wp_goto 106 xi_202 dX12_canMove_89 rfl ?_
                obtain rfl := Option.some.inj H
                exact Wp.more (by simp [xMore, Value.category]) K23
              · rw [if_neg c27] at H
                refine wp_iconst 1 xi_202 dX12_canMove_84 rfl ?_
                refine wp_goto 106 xi_202 dX12_canMove_85 rfl ?_
                obtain rfl := Option.some.inj H
                exact Wp.more (by simp [xMore, Value.category]) K23
          · rw [if_neg c16] at H
            refine wp_iconst 0 xi_202 dX12_canMove_66 rfl ?_
            obtain ⟨gz, hz⟩ := pZ_ok H
            obtain ⟨rfl, rfl⟩ := Prod.mk.inj hz
            exact wp_zret xi_202 dX12_canMove_67 gz hq
        · rw [if_pos c9] at H
          refine wp_iconst 0 xi_202 dX12_canMove_34 rfl ?_
          obtain ⟨gz, hz⟩ := pZ_ok H
          obtain ⟨rfl, rfl⟩ := Prod.mk.inj hz
          exact wp_zret xi_202 dX12_canMove_35 gz hq
/- FelledHasLostModel.draws([II)I -/
def f_203  (a : Nat) (p0 : Nat) (p1 : Int32) (h : xH) : Option (Int32 × xH) :=
  (pDiv p1 10).bind fun x1 =>
  (pAi h p0 x1).bind fun x2 =>
  (pDiv x1 3).bind fun x3 =>
  (f_170 p0 x3 h).bind fun (x5, h4) =>
  (if x5 = 1 then
  some (1, h4)
  else
  (f_201 p0 h4).bind fun (x8, h7) =>
  (pSi h7 p0 x1 (-1)).bind fun h9 =>
  (pG (pIs h9 a 12)).bind fun _ =>
  (f_188 a p0 h9).bind fun (x12, h11) =>
  (if x12 = 0 then
  some (2, h11)
  else
  (pAi h11 p0 48).bind fun x14 =>
  ((if x8 = 0 then
  some (1)
  else
  some (0) : Option (Int32))).bind fun (w16 : Int32) =>
  (f_163 w16 h11).bind fun (x19, h18) =>
  (pSi h18 p0 48 (x14 + x19)).bind fun h20 =>
  (pAi h20 p0 48).bind fun x21 =>
  (pRem p1 10).bind fun x22 =>
  (pSi h20 p0 ((3 * (x21 - 1)) + x22) x2).bind fun h23 =>
  (pG (pIs h23 a 12)).bind fun _ =>
  (f_188 a p0 h23).bind fun (x26, h25) =>
  ((if x26 = 0 then
  some (3)
  else
  some (0) : Option (Int32))).bind fun (w28 : Int32) =>
  some (w28, h25)))
set_option maxHeartbeats 4000000 in
theorem e_203 (d : Nat) (Q : Option Value → xH → Prop)  {h : xH} {a : Nat} {p0 : Nat} {p1 : Int32} {x : Int32} {h1 : xH} (H : f_203  a p0 p1 h = some (x, h1)) (hq : Q (some (.int x)) h1) : Wp (d + 3) 203 0 [some (.ref a), some (.ref p0), some (.int p1), none, none, none] [] h Q := by
  unfold f_203 at H
  refine wp_iload_n xi_203 dX12_draws_0 rfl ?_
  refine wp_bipush 10 xi_203 dX12_draws_1 rfl ?_
  obtain ⟨x1, gx1, H⟩ := Option.bind_eq_some_iff.mp H
  refine wq_idiv xi_203 dX12_draws_3 gx1 ?_
  refine wp_istore_n [some (.ref a), some (.ref p0), some (.int p1), some (.int x1), none, none] xi_203 dX12_draws_4 rfl ?_
  refine wp_aload_n xi_203 dX12_draws_5 rfl ?_
  refine wp_iload_n xi_203 dX12_draws_6 rfl ?_
  obtain ⟨x2, gx2, H⟩ := Option.bind_eq_some_iff.mp H
  refine wq_iaload xi_203 dX12_draws_7 gx2 ?_
  refine wp_istore [some (.ref a), some (.ref p0), some (.int p1), some (.int x1), some (.int x2), none] xi_203 dX12_draws_8 rfl ?_
  refine wp_aload_n xi_203 dX12_draws_10 rfl ?_
  refine wp_iload_n xi_203 dX12_draws_11 rfl ?_
  refine wp_iconst 3 xi_203 dX12_draws_12 rfl ?_
  obtain ⟨x3, gx3, H⟩ := Option.bind_eq_some_iff.mp H
  refine wq_idiv xi_203 dX12_draws_13 gx3 ?_
  obtain ⟨⟨x5, h4⟩, gh4, H⟩ := Option.bind_eq_some_iff.mp H
  dsimp only at H
  refine wq_callS (as := [.ref p0, .int x3]) (r := []) (v1 := (some (.int x5))) xi_203 xi_170 dX12_draws_14 xm_12_256 rfl (Nat.le_of_ble_eq_true rfl) ⟨(Nat.le_of_ble_eq_true rfl), (Nat.le_of_ble_eq_true rfl)⟩ rfl nofun (e_170 (d + 1) _ gh4 ⟨rfl, rfl⟩) ?_
  change Wp _ _ _ _ [.int x5] _ _
  refine wp_iconst 1 xi_203 dX12_draws_17 rfl ?_
  refine wp_icmp_ne 23 xi_203 dX12_draws_18 rfl (fun c6 => ?_) (fun c6 => ?_)
  · rw [if_neg c6] at H
    refine wp_aload_n xi_203 dX12_draws_23 rfl ?_
    obtain ⟨⟨x8, h7⟩, gh7, H⟩ := Option.bind_eq_some_iff.mp H
    dsimp only at H
    refine wq_callS (as := [.ref p0]) (r := []) (v1 := (some (.int x8))) xi_203 xi_201 dX12_draws_24 xm_12_289 rfl (Nat.le_of_ble_eq_true rfl) ⟨(Nat.le_of_ble_eq_true rfl), (Nat.le_of_ble_eq_true rfl)⟩ rfl nofun (e_201 d _ gh7 ⟨rfl, rfl⟩) ?_
    change Wp _ _ _ _ [.int x8] _ _
    refine wp_istore [some (.ref a), some (.ref p0), some (.int p1), some (.int x1), some (.int x2), some (.int x8)] xi_203 dX12_draws_27 rfl ?_
    refine wp_aload_n xi_203 dX12_draws_29 rfl ?_
    refine wp_iload_n xi_203 dX12_draws_30 rfl ?_
    refine wp_iconst (-1) xi_203 dX12_draws_31 rfl ?_
    obtain ⟨h9, gh9, H⟩ := Option.bind_eq_some_iff.mp H
    refine wq_iastore xi_203 dX12_draws_32 gh9 ?_
    refine wp_aload_n xi_203 dX12_draws_33 rfl ?_
    refine wp_aload_n xi_203 dX12_draws_34 rfl ?_
    obtain ⟨u10, gu10, H⟩ := Option.bind_eq_some_iff.mp H
    obtain ⟨⟨x12, h11⟩, gh11, H⟩ := Option.bind_eq_some_iff.mp H
    dsimp only at H
    refine wq_callV (a := a) (as := [.ref p0]) (r := []) (v1 := (some (.int x12))) xi_203 xi_188 dX12_draws_35 xm_12_263 rfl (Nat.le_of_ble_eq_true rfl) (pG_ok gu10) ⟨(Nat.le_of_ble_eq_true rfl), (Nat.le_of_ble_eq_true rfl)⟩ rfl nofun (e_188 d _ gh11 ⟨rfl, rfl⟩) ?_
    change Wp _ _ _ _ [.int x12] _ _
    refine wp_if_ne 43 xi_203 dX12_draws_38 rfl (fun c13 => ?_) (fun c13 => ?_)
    · rw [if_neg c13] at H
      refine wp_aload_n xi_203 dX12_draws_43 rfl ?_
      refine wp_bipush 48 xi_203 dX12_draws_44 rfl ?_
      refine wp_dup2 xi_203 dX12_draws_46 rfl rfl ?_
      obtain ⟨x14, gx14, H⟩ := Option.bind_eq_some_iff.mp H
      refine wq_iaload xi_203 dX12_draws_47 gx14 ?_
      refine wp_iload xi_203 dX12_draws_48 rfl ?_
      obtain ⟨w16, G31, H⟩ := Option.bind_eq_some_iff.mp H
      have K17 : Wp (d + 3) 203 58 [some (.ref a), some (.ref p0), some (.int p1), some (.int x1), some (.int x2), some (.int x8)] [.int w16, .int x14, .int 48, .ref p0] h11 Q := by
        obtain ⟨⟨x19, h18⟩, gh18, H⟩ := Option.bind_eq_some_iff.mp H
        dsimp only at H
        refine wq_callS (as := [.int w16]) (r := [.int x14, .int 48, .ref p0]) (v1 := (some (.int x19))) xi_203 xi_163 dX12_draws_58 xm_12_139 rfl (Nat.le_of_ble_eq_true rfl) ⟨(Nat.le_of_ble_eq_true rfl), (Nat.le_of_ble_eq_true rfl)⟩ rfl nofun (e_163 (d + 2) _ gh18 ⟨rfl, rfl⟩) ?_
        change Wp _ _ _ _ [.int x19, .int x14, .int 48, .ref p0] _ _
        refine wp_iadd xi_203 dX12_draws_61 ?_
        obtain ⟨h20, gh20, H⟩ := Option.bind_eq_some_iff.mp H
        refine wq_iastore xi_203 dX12_draws_62 gh20 ?_
        refine wp_aload_n xi_203 dX12_draws_63 rfl ?_
        refine wp_iconst 3 xi_203 dX12_draws_64 rfl ?_
        refine wp_aload_n xi_203 dX12_draws_65 rfl ?_
        refine wp_bipush 48 xi_203 dX12_draws_66 rfl ?_
        obtain ⟨x21, gx21, H⟩ := Option.bind_eq_some_iff.mp H
        refine wq_iaload xi_203 dX12_draws_68 gx21 ?_
        refine wp_iconst 1 xi_203 dX12_draws_69 rfl ?_
        refine wp_isub xi_203 dX12_draws_70 ?_
        refine wp_imul xi_203 dX12_draws_71 ?_
        refine wp_iload_n xi_203 dX12_draws_72 rfl ?_
        refine wp_bipush 10 xi_203 dX12_draws_73 rfl ?_
        obtain ⟨x22, gx22, H⟩ := Option.bind_eq_some_iff.mp H
        refine wq_irem xi_203 dX12_draws_75 gx22 ?_
        refine wp_iadd xi_203 dX12_draws_76 ?_
        refine wp_iload xi_203 dX12_draws_77 rfl ?_
        obtain ⟨h23, gh23, H⟩ := Option.bind_eq_some_iff.mp H
        refine wq_iastore xi_203 dX12_draws_79 gh23 ?_
        refine wp_aload_n xi_203 dX12_draws_80 rfl ?_
        refine wp_aload_n xi_203 dX12_draws_81 rfl ?_
        obtain ⟨u24, gu24, H⟩ := Option.bind_eq_some_iff.mp H
        obtain ⟨⟨x26, h25⟩, gh25, H⟩ := Option.bind_eq_some_iff.mp H
        dsimp only at H
        refine wq_callV (a := a) (as := [.ref p0]) (r := []) (v1 := (some (.int x26))) xi_203 xi_188 dX12_draws_82 xm_12_263 rfl (Nat.le_of_ble_eq_true rfl) (pG_ok gu24) ⟨(Nat.le_of_ble_eq_true rfl), (Nat.le_of_ble_eq_true rfl)⟩ rfl nofun (e_188 d _ gh25 ⟨rfl, rfl⟩) ?_
        change Wp _ _ _ _ [.int x26] _ _
        obtain ⟨w28, G30, H⟩ := Option.bind_eq_some_iff.mp H
        have K29 : Wp (d + 3) 203 93 [some (.ref a), some (.ref p0), some (.int p1), some (.int x1), some (.int x2), some (.int x8)] [.int w28] h25 Q := by
          obtain ⟨rfl, rfl⟩ := oi2 H
          exact wp_iret xi_203 dX12_draws_93 hq
        clear H
        have H := G30
        clear G30
        refine wp_if_eq 92 xi_203 dX12_draws_85 rfl (fun c27 => ?_) (fun c27 => ?_)
        · rw [if_pos c27] at H
          refine wp_iconst 3 xi_203 dX12_draws_92 rfl ?_
          obtain rfl := Option.some.inj H
          exact Wp.more (by simp [xMore, Value.category]) K29
        · rw [if_neg c27] at H
          refine wp_iconst 0 xi_203 dX12_draws_88 rfl ?_
          refine wp_goto 93 xi_203 dX12_draws_89 rfl ?_
          obtain rfl := Option.some.inj H
          exact Wp.more (by simp [xMore, Value.category]) K29
      clear H
      have H := G31
      clear G31
      refine wp_if_ne 57 xi_203 dX12_draws_50 rfl (fun c15 => ?_) (fun c15 => ?_)
      · rw [if_neg c15] at H
        refine wp_iconst 0 xi_203 dX12_draws_57 rfl ?_
        obtain rfl := Option.some.inj H
        exact Wp.more (by simp [xMore, Value.category]) K17
      · rw [if_pos c15] at H
        refine wp_iconst 1 xi_203 dX12_draws_53 rfl ?_
        refine wp_goto 58 xi_203 dX12_draws_54 rfl ?_
        obtain rfl := Option.some.inj H
        exact Wp.more (by simp [xMore, Value.category]) K17
    · rw [if_pos c13] at H
      refine wp_iconst 2 xi_203 dX12_draws_41 rfl ?_
      obtain ⟨rfl, rfl⟩ := oi2 H
      exact wp_iret xi_203 dX12_draws_42 hq
  · rw [if_pos c6] at H
    refine wp_iconst 1 xi_203 dX12_draws_21 rfl ?_
    obtain ⟨rfl, rfl⟩ := oi2 H
    exact wp_iret xi_203 dX12_draws_22 hq
/- FelledHasLostModel.isSafe([II)Z -/
def f_204  (a : Nat) (p0 : Nat) (p1 : Int32) (h : xH) : Option (Int32 × xH) :=
  (f_202 p0 p1 h).bind fun (x2, h1) =>
  (if x2 = 0 then
  pZ 0 h1
  else
  (pFr h1 a 12 24).bind fun x4 =>
  (f_168 p0 x4 h1).bind fun h5 =>
  (pFr h5 a 12 24).bind fun x6 =>
  (pG (pIs h5 a 12)).bind fun _ =>
  (f_203 a x6 p1 h5).bind fun (x9, h8) =>
  ((if x9 = 0 then
  some (1)
  else
  some (0) : Option (Int32))).bind fun (w11 : Int32) =>
  pZ w11 h8)
set_option maxHeartbeats 4000000 in
theorem e_204 (d : Nat) (Q : Option Value → xH → Prop)  {h : xH} {a : Nat} {p0 : Nat} {p1 : Int32} {x : Int32} {h1 : xH} (H : f_204  a p0 p1 h = some (x, h1)) (hq : Q (some (.int x)) h1) : Wp (d + 4) 204 0 [some (.ref a), some (.ref p0), some (.int p1)] [] h Q := by
  unfold f_204 at H
  refine wp_aload_n xi_204 dX12_isSafe_0 rfl ?_
  refine wp_iload_n xi_204 dX12_isSafe_1 rfl ?_
  obtain ⟨⟨x2, h1⟩, gh1, H⟩ := Option.bind_eq_some_iff.mp H
  dsimp only at H
  refine wq_callS (as := [.ref p0, .int p1]) (r := []) (v1 := (some (.int x2))) xi_204 xi_202 dX12_isSafe_2 xm_12_292 rfl (Nat.le_of_ble_eq_true rfl) ⟨(Nat.le_of_ble_eq_true rfl), (Nat.le_of_ble_eq_true rfl)⟩ rfl nofun (e_202 d _ gh1 ⟨rfl, rfl⟩) ?_
  change Wp _ _ _ _ [.int x2] _ _
  refine wp_if_ne 10 xi_204 dX12_isSafe_5 rfl (fun c3 => ?_) (fun c3 => ?_)
  · rw [if_neg c3] at H
    refine wp_aload_n xi_204 dX12_isSafe_10 rfl ?_
    refine wp_aload_n xi_204 dX12_isSafe_11 rfl ?_
    obtain ⟨x4, gx4, H⟩ := Option.bind_eq_some_iff.mp H
    refine wq_getfr xi_204 dX12_isSafe_12 xf_12_61 gx4 ?_
    obtain ⟨h5, gh5, H⟩ := Option.bind_eq_some_iff.mp H
    refine wq_callS (as := [.ref p0, .ref x4]) (r := []) (v1 := none) xi_204 xi_168 dX12_isSafe_15 xm_12_259 rfl (Nat.le_of_ble_eq_true rfl) ⟨(Nat.le_of_ble_eq_true rfl), (Nat.le_of_ble_eq_true rfl)⟩ rfl nofun (e_168 (d + 3) _ gh5 ⟨rfl, rfl⟩) ?_
    change Wp _ _ _ _ [] _ _
    refine wp_aload_n xi_204 dX12_isSafe_18 rfl ?_
    refine wp_aload_n xi_204 dX12_isSafe_19 rfl ?_
    obtain ⟨x6, gx6, H⟩ := Option.bind_eq_some_iff.mp H
    refine wq_getfr xi_204 dX12_isSafe_20 xf_12_61 gx6 ?_
    refine wp_iload_n xi_204 dX12_isSafe_23 rfl ?_
    obtain ⟨u7, gu7, H⟩ := Option.bind_eq_some_iff.mp H
    obtain ⟨⟨x9, h8⟩, gh8, H⟩ := Option.bind_eq_some_iff.mp H
    dsimp only at H
    refine wq_callV (a := a) (as := [.ref x6, .int p1]) (r := []) (v1 := (some (.int x9))) xi_204 xi_203 dX12_isSafe_24 xm_12_295 rfl (Nat.le_of_ble_eq_true rfl) (pG_ok gu7) ⟨(Nat.le_of_ble_eq_true rfl), (Nat.le_of_ble_eq_true rfl)⟩ rfl nofun (e_203 d _ gh8 ⟨rfl, rfl⟩) ?_
    change Wp _ _ _ _ [.int x9] _ _
    obtain ⟨w11, G13, H⟩ := Option.bind_eq_some_iff.mp H
    have K12 : Wp (d + 4) 204 35 [some (.ref a), some (.ref p0), some (.int p1)] [.int w11] h8 Q := by
      obtain ⟨gz, hz⟩ := pZ_ok H
      obtain ⟨rfl, rfl⟩ := Prod.mk.inj hz
      exact wp_zret xi_204 dX12_isSafe_35 gz hq
    clear H
    have H := G13
    clear G13
    refine wp_if_ne 34 xi_204 dX12_isSafe_27 rfl (fun c10 => ?_) (fun c10 => ?_)
    · rw [if_neg c10] at H
      refine wp_iconst 0 xi_204 dX12_isSafe_34 rfl ?_
      obtain rfl := Option.some.inj H
      exact Wp.more (by simp [xMore, Value.category]) K12
    · rw [if_pos c10] at H
      refine wp_iconst 1 xi_204 dX12_isSafe_30 rfl ?_
      refine wp_goto 35 xi_204 dX12_isSafe_31 rfl ?_
      obtain rfl := Option.some.inj H
      exact Wp.more (by simp [xMore, Value.category]) K12
  · rw [if_pos c3] at H
    refine wp_iconst 0 xi_204 dX12_isSafe_8 rfl ?_
    obtain ⟨gz, hz⟩ := pZ_ok H
    obtain ⟨rfl, rfl⟩ := Prod.mk.inj hz
    exact wp_zret xi_204 dX12_isSafe_9 gz hq
/- FelledHasLostModel.marginOf([II)I -/
def f_205  (a : Nat) (p0 : Nat) (p1 : Int32) (h : xH) : Option (Int32 × xH) :=
  (pG (pIs h a 12)).bind fun _ =>
  (f_187 a p0 h).bind fun (x3, h2) =>
  (pFr h2 a 12 22).bind fun x4 =>
  (pAi h2 x4 p1).bind fun x5 =>
  some (x5, h2)
set_option maxHeartbeats 4000000 in
theorem e_205 (d : Nat) (Q : Option Value → xH → Prop)  {h : xH} {a : Nat} {p0 : Nat} {p1 : Int32} {x : Int32} {h1 : xH} (H : f_205  a p0 p1 h = some (x, h1)) (hq : Q (some (.int x)) h1) : Wp (d + 2) 205 0 [some (.ref a), some (.ref p0), some (.int p1)] [] h Q := by
  unfold f_205 at H
  refine wp_aload_n xi_205 dX12_marginOf_0 rfl ?_
  refine wp_aload_n xi_205 dX12_marginOf_1 rfl ?_
  obtain ⟨u1, gu1, H⟩ := Option.bind_eq_some_iff.mp H
  obtain ⟨⟨x3, h2⟩, gh2, H⟩ := Option.bind_eq_some_iff.mp H
  dsimp only at H
  refine wq_callV (a := a) (as := [.ref p0]) (r := []) (v1 := (some (.int x3))) xi_205 xi_187 dX12_marginOf_2 xm_12_240 rfl (Nat.le_of_ble_eq_true rfl) (pG_ok gu1) ⟨(Nat.le_of_ble_eq_true rfl), (Nat.le_of_ble_eq_true rfl)⟩ rfl nofun (e_187 d _ gh2 ⟨rfl, rfl⟩) ?_
  change Wp _ _ _ _ [.int x3] _ _
  refine wp_pop xi_205 dX12_marginOf_5 rfl ?_
  refine wp_aload_n xi_205 dX12_marginOf_6 rfl ?_
  obtain ⟨x4, gx4, H⟩ := Option.bind_eq_some_iff.mp H
  refine wq_getfr xi_205 dX12_marginOf_7 xf_12_58 gx4 ?_
  refine wp_iload_n xi_205 dX12_marginOf_10 rfl ?_
  obtain ⟨x5, gx5, H⟩ := Option.bind_eq_some_iff.mp H
  refine wq_iaload xi_205 dX12_marginOf_11 gx5 ?_
  obtain ⟨rfl, rfl⟩ := oi2 H
  exact wp_iret xi_205 dX12_marginOf_12 hq
/- FelledHasLostModel.thingOf([IIIII)I -/
def f_206  (a : Nat) (p0 : Nat) (p1 : Int32) (p2 : Int32) (p3 : Int32) (p4 : Int32) (h : xH) : Option (Int32 × xH) :=
  (pDiv p1 10).bind fun x1 =>
  (if p4 = 0 then
  (f_186 p0 x1 h).bind fun (x12, h11) =>
  (f_163 x12 h11).bind fun (x14, h13) =>
  some (x14, h13)
  else
  if p4 = 1 then
  (pAi h p0 x1).bind fun x15 =>
  some (x15, h)
  else
  if p4 = 2 then
  (pDiv x1 3).bind fun x16 =>
  some (x16, h)
  else
  if p4 = 3 then
  (pRem x1 3).bind fun x17 =>
  some (x17, h)
  else
  if p4 = 4 then
  (pRem p1 10).bind fun x18 =>
  some (x18, h)
  else
  if p4 = 5 then
  (pDiv x1 3).bind fun x19 =>
  (f_170 p0 x19 h).bind fun (x21, h20) =>
  some ((3 - x21), h20)
  else
  if p4 = 6 then
  (pAi h p0 48).bind fun x22 =>
  some (x22, h)
  else
  if p4 = 7 then
  (pDiv x1 3).bind fun x23 =>
  (pG (pIs h a 12)).bind fun _ =>
  (f_205 a p0 x23 h).bind fun (x26, h25) =>
  (pDiv x26 100).bind fun x27 =>
  some (x27, h25)
  else
  if p4 = 8 then
  some (p2, h)
  else
  some (p3, h))
set_option maxHeartbeats 4000000 in
theorem e_206 (d : Nat) (Q : Option Value → xH → Prop)  {h : xH} {a : Nat} {p0 : Nat} {p1 : Int32} {p2 : Int32} {p3 : Int32} {p4 : Int32} {x : Int32} {h1 : xH} (H : f_206  a p0 p1 p2 p3 p4 h = some (x, h1)) (hq : Q (some (.int x)) h1) : Wp (d + 3) 206 0 [some (.ref a), some (.ref p0), some (.int p1), some (.int p2), some (.int p3), some (.int p4), none] [] h Q := by
  unfold f_206 at H
  refine wp_iload_n xi_206 dX12_thingOf_0 rfl ?_
  refine wp_bipush 10 xi_206 dX12_thingOf_1 rfl ?_
  obtain ⟨x1, gx1, H⟩ := Option.bind_eq_some_iff.mp H
  refine wq_idiv xi_206 dX12_thingOf_3 gx1 ?_
  refine wp_istore [some (.ref a), some (.ref p0), some (.int p1), some (.int p2), some (.int p3), some (.int p4), some (.int x1)] xi_206 dX12_thingOf_4 rfl ?_
  refine wp_iload xi_206 dX12_thingOf_6 rfl ?_
  by_cases c2 : p4 = 0
  · rw [if_pos c2] at H
    refine Wp.pure (p2 := 60) (ls2 := [some (.ref a), some (.ref p0), some (.int p1), some (.int p2), some (.int p3), some (.int p4), some (.int x1)]) (st2 := []) (h2 := h) xi_206 dX12_thingOf_8 rfl rfl rfl (by rw [c2]; rfl) ?_
    refine wp_aload_n xi_206 dX12_thingOf_60 rfl ?_
    refine wp_iload xi_206 dX12_thingOf_61 rfl ?_
    obtain ⟨⟨x12, h11⟩, gh11, H⟩ := Option.bind_eq_some_iff.mp H
    dsimp only at H
    refine wq_callS (as := [.ref p0, .int x1]) (r := []) (v1 := (some (.int x12))) xi_206 xi_186 dX12_thingOf_63 xm_12_253 rfl (Nat.le_of_ble_eq_true rfl) ⟨(Nat.le_of_ble_eq_true rfl), (Nat.le_of_ble_eq_true rfl)⟩ rfl nofun (e_186 (d + 1) _ gh11 ⟨rfl, rfl⟩) ?_
    change Wp _ _ _ _ [.int x12] _ _
    obtain ⟨⟨x14, h13⟩, gh13, H⟩ := Option.bind_eq_some_iff.mp H
    dsimp only at H
    refine wq_callS (as := [.int x12]) (r := []) (v1 := (some (.int x14))) xi_206 xi_163 dX12_thingOf_66 xm_12_139 rfl (Nat.le_of_ble_eq_true rfl) ⟨(Nat.le_of_ble_eq_true rfl), (Nat.le_of_ble_eq_true rfl)⟩ rfl nofun (e_163 (d + 2) _ gh13 ⟨rfl, rfl⟩) ?_
    change Wp _ _ _ _ [.int x14] _ _
    obtain ⟨rfl, rfl⟩ := oi2 H
    exact wp_iret xi_206 dX12_thingOf_69 hq
  · rw [if_neg c2] at H
    by_cases c3 : p4 = 1
    · rw [if_pos c3] at H
      refine Wp.pure (p2 := 70) (ls2 := [some (.ref a), some (.ref p0), some (.int p1), some (.int p2), some (.int p3), some (.int p4), some (.int x1)]) (st2 := []) (h2 := h) xi_206 dX12_thingOf_8 rfl rfl rfl (by rw [c3]; rfl) ?_
      refine wp_aload_n xi_206 dX12_thingOf_70 rfl ?_
      refine wp_iload xi_206 dX12_thingOf_71 rfl ?_
      obtain ⟨x15, gx15, H⟩ := Option.bind_eq_some_iff.mp H
      refine wq_iaload xi_206 dX12_thingOf_73 gx15 ?_
      obtain ⟨rfl, rfl⟩ := oi2 H
      exact wp_iret xi_206 dX12_thingOf_74 hq
    · rw [if_neg c3] at H
      by_cases c4 : p4 = 2
      · rw [if_pos c4] at H
        refine Wp.pure (p2 := 75) (ls2 := [some (.ref a), some (.ref p0), some (.int p1), some (.int p2), some (.int p3), some (.int p4), some (.int x1)]) (st2 := []) (h2 := h) xi_206 dX12_thingOf_8 rfl rfl rfl (by rw [c4]; rfl) ?_
        refine wp_iload xi_206 dX12_thingOf_75 rfl ?_
        refine wp_iconst 3 xi_206 dX12_thingOf_77 rfl ?_
        obtain ⟨x16, gx16, H⟩ := Option.bind_eq_some_iff.mp H
        refine wq_idiv xi_206 dX12_thingOf_78 gx16 ?_
        obtain ⟨rfl, rfl⟩ := oi2 H
        exact wp_iret xi_206 dX12_thingOf_79 hq
      · rw [if_neg c4] at H
        by_cases c5 : p4 = 3
        · rw [if_pos c5] at H
          refine Wp.pure (p2 := 80) (ls2 := [some (.ref a), some (.ref p0), some (.int p1), some (.int p2), some (.int p3), some (.int p4), some (.int x1)]) (st2 := []) (h2 := h) xi_206 dX12_thingOf_8 rfl rfl rfl (by rw [c5]; rfl) ?_
          refine wp_iload xi_206 dX12_thingOf_80 rfl ?_
          refine wp_iconst 3 xi_206 dX12_thingOf_82 rfl ?_
          obtain ⟨x17, gx17, H⟩ := Option.bind_eq_some_iff.mp H
          refine wq_irem xi_206 dX12_thingOf_83 gx17 ?_
          obtain ⟨rfl, rfl⟩ := oi2 H
          exact wp_iret xi_206 dX12_thingOf_84 hq
        · rw [if_neg c5] at H
          by_cases c6 : p4 = 4
          · rw [if_pos c6] at H
            refine Wp.pure (p2 := 85) (ls2 := [some (.ref a), some (.ref p0), some (.int p1), some (.int p2), some (.int p3), some (.int p4), some (.int x1)]) (st2 := []) (h2 := h) xi_206 dX12_thingOf_8 rfl rfl rfl (by rw [c6]; rfl) ?_
            refine wp_iload_n xi_206 dX12_thingOf_85 rfl ?_
            refine wp_bipush 10 xi_206 dX12_thingOf_86 rfl ?_
            obtain ⟨x18, gx18, H⟩ := Option.bind_eq_some_iff.mp H
            refine wq_irem xi_206 dX12_thingOf_88 gx18 ?_
            obtain ⟨rfl, rfl⟩ := oi2 H
            exact wp_iret xi_206 dX12_thingOf_89 hq
          · rw [if_neg c6] at H
            by_cases c7 : p4 = 5
            · rw [if_pos c7] at H
              refine Wp.pure (p2 := 90) (ls2 := [some (.ref a), some (.ref p0), some (.int p1), some (.int p2), some (.int p3), some (.int p4), some (.int x1)]) (st2 := []) (h2 := h) xi_206 dX12_thingOf_8 rfl rfl rfl (by rw [c7]; rfl) ?_
              refine wp_iconst 3 xi_206 dX12_thingOf_90 rfl ?_
              refine wp_aload_n xi_206 dX12_thingOf_91 rfl ?_
              refine wp_iload xi_206 dX12_thingOf_92 rfl ?_
              refine wp_iconst 3 xi_206 dX12_thingOf_94 rfl ?_
              obtain ⟨x19, gx19, H⟩ := Option.bind_eq_some_iff.mp H
              refine wq_idiv xi_206 dX12_thingOf_95 gx19 ?_
              obtain ⟨⟨x21, h20⟩, gh20, H⟩ := Option.bind_eq_some_iff.mp H
              dsimp only at H
              refine wq_callS (as := [.ref p0, .int x19]) (r := [.int 3]) (v1 := (some (.int x21))) xi_206 xi_170 dX12_thingOf_96 xm_12_256 rfl (Nat.le_of_ble_eq_true rfl) ⟨(Nat.le_of_ble_eq_true rfl), (Nat.le_of_ble_eq_true rfl)⟩ rfl nofun (e_170 (d + 1) _ gh20 ⟨rfl, rfl⟩) ?_
              change Wp _ _ _ _ [.int x21, .int 3] _ _
              refine wp_isub xi_206 dX12_thingOf_99 ?_
              obtain ⟨rfl, rfl⟩ := oi2 H
              exact wp_iret xi_206 dX12_thingOf_100 hq
            · rw [if_neg c7] at H
              by_cases c8 : p4 = 6
              · rw [if_pos c8] at H
                refine Wp.pure (p2 := 101) (ls2 := [some (.ref a), some (.ref p0), some (.int p1), some (.int p2), some (.int p3), some (.int p4), some (.int x1)]) (st2 := []) (h2 := h) xi_206 dX12_thingOf_8 rfl rfl rfl (by rw [c8]; rfl) ?_
                refine wp_aload_n xi_206 dX12_thingOf_101 rfl ?_
                refine wp_bipush 48 xi_206 dX12_thingOf_102 rfl ?_
                obtain ⟨x22, gx22, H⟩ := Option.bind_eq_some_iff.mp H
                refine wq_iaload xi_206 dX12_thingOf_104 gx22 ?_
                obtain ⟨rfl, rfl⟩ := oi2 H
                exact wp_iret xi_206 dX12_thingOf_105 hq
              · rw [if_neg c8] at H
                by_cases c9 : p4 = 7
                · rw [if_pos c9] at H
                  refine Wp.pure (p2 := 106) (ls2 := [some (.ref a), some (.ref p0), some (.int p1), some (.int p2), some (.int p3), some (.int p4), some (.int x1)]) (st2 := []) (h2 := h) xi_206 dX12_thingOf_8 rfl rfl rfl (by rw [c9]; rfl) ?_
                  refine wp_aload_n xi_206 dX12_thingOf_106 rfl ?_
                  refine wp_aload_n xi_206 dX12_thingOf_107 rfl ?_
                  refine wp_iload xi_206 dX12_thingOf_108 rfl ?_
                  refine wp_iconst 3 xi_206 dX12_thingOf_110 rfl ?_
                  obtain ⟨x23, gx23, H⟩ := Option.bind_eq_some_iff.mp H
                  refine wq_idiv xi_206 dX12_thingOf_111 gx23 ?_
                  obtain ⟨u24, gu24, H⟩ := Option.bind_eq_some_iff.mp H
                  obtain ⟨⟨x26, h25⟩, gh25, H⟩ := Option.bind_eq_some_iff.mp H
                  dsimp only at H
                  refine wq_callV (a := a) (as := [.ref p0, .int x23]) (r := []) (v1 := (some (.int x26))) xi_206 xi_205 dX12_thingOf_112 xm_12_298 rfl (Nat.le_of_ble_eq_true rfl) (pG_ok gu24) ⟨(Nat.le_of_ble_eq_true rfl), (Nat.le_of_ble_eq_true rfl)⟩ rfl nofun (e_205 d _ gh25 ⟨rfl, rfl⟩) ?_
                  change Wp _ _ _ _ [.int x26] _ _
                  refine wp_bipush 100 xi_206 dX12_thingOf_115 rfl ?_
                  obtain ⟨x27, gx27, H⟩ := Option.bind_eq_some_iff.mp H
                  refine wq_idiv xi_206 dX12_thingOf_117 gx27 ?_
                  obtain ⟨rfl, rfl⟩ := oi2 H
                  exact wp_iret xi_206 dX12_thingOf_118 hq
                · rw [if_neg c9] at H
                  by_cases c10 : p4 = 8
                  · rw [if_pos c10] at H
                    refine Wp.pure (p2 := 119) (ls2 := [some (.ref a), some (.ref p0), some (.int p1), some (.int p2), some (.int p3), some (.int p4), some (.int x1)]) (st2 := []) (h2 := h) xi_206 dX12_thingOf_8 rfl rfl rfl (by rw [c10]; rfl) ?_
                    refine wp_iload_n xi_206 dX12_thingOf_119 rfl ?_
                    obtain ⟨rfl, rfl⟩ := oi2 H
                    exact wp_iret xi_206 dX12_thingOf_120 hq
                  · rw [if_neg c10] at H
                    have ec2 := lv_neT c2 (a := 0) (by decide)
                    have ec3 := lv_neT c3 (a := 1) (by decide)
                    have ec4 := lv_neT c4 (a := 2) (by decide)
                    have ec5 := lv_neT c5 (a := 3) (by decide)
                    have ec6 := lv_neT c6 (a := 4) (by decide)
                    have ec7 := lv_neT c7 (a := 5) (by decide)
                    have ec8 := lv_neT c8 (a := 6) (by decide)
                    have ec9 := lv_neT c9 (a := 7) (by decide)
                    have ec10 := lv_neT c10 (a := 8) (by decide)
                    refine Wp.pure (p2 := 121) (ls2 := [some (.ref a), some (.ref p0), some (.int p1), some (.int p2), some (.int p3), some (.int p4), some (.int x1)]) (st2 := []) (h2 := h) xi_206 dX12_thingOf_8 rfl rfl rfl (by simp only [xPure, xJ]; rw [if_pos (by omega)]; rfl) ?_
                    refine wp_iload xi_206 dX12_thingOf_121 rfl ?_
                    obtain ⟨rfl, rfl⟩ := oi2 H
                    exact wp_iret xi_206 dX12_thingOf_123 hq
/- FelledHasLostModel.worked(III)I -/
def f_207  (p0 : Int32) (p1 : Int32) (p2 : Int32) (h : xH) : Option (Int32 × xH) :=
  (if p0 = 0 then
  ((if p2 ≤ p1 then
  some (0)
  else
  some (1) : Option (Int32))).bind fun (w8 : Int32) =>
  (f_163 w8 h).bind fun (x11, h10) =>
  some (x11, h10)
  else
  if p0 = 1 then
  ((if p1 ≤ p2 then
  some (0)
  else
  some (1) : Option (Int32))).bind fun (w14 : Int32) =>
  (f_163 w14 h).bind fun (x17, h16) =>
  some (x17, h16)
  else
  if p0 = 2 then
  ((if p1 = p2 then
  some (1)
  else
  some (0) : Option (Int32))).bind fun (w20 : Int32) =>
  (f_163 w20 h).bind fun (x23, h22) =>
  some (x23, h22)
  else
  if p0 = 3 then
  some ((p1 + p2), h)
  else
  if p0 = 4 then
  some ((p1 - p2), h)
  else
  if p0 = 5 then
  some ((p1 * p2), h)
  else
  ((if p2 = 0 then
  some (0)
  else
  (pDiv p1 p2).bind fun x29 =>
  some (x29) : Option (Int32))).bind fun (w27 : Int32) =>
  some (w27, h))
set_option maxHeartbeats 4000000 in
theorem e_207 (d : Nat) (Q : Option Value → xH → Prop)  {h : xH} {p0 : Int32} {p1 : Int32} {p2 : Int32} {x : Int32} {h1 : xH} (H : f_207  p0 p1 p2 h = some (x, h1)) (hq : Q (some (.int x)) h1) : Wp (d + 1) 207 0 [some (.int p0), some (.int p1), some (.int p2)] [] h Q := by
  unfold f_207 at H
  refine wp_iload_n xi_207 dX12_worked_0 rfl ?_
  by_cases c1 : p0 = 0
  · rw [if_pos c1] at H
    refine Wp.pure (p2 := 40) (ls2 := [some (.int p0), some (.int p1), some (.int p2)]) (st2 := []) (h2 := h) xi_207 dX12_worked_1 rfl rfl rfl (by rw [c1]; rfl) ?_
    refine wp_iload_n xi_207 dX12_worked_40 rfl ?_
    refine wp_iload_n xi_207 dX12_worked_41 rfl ?_
    obtain ⟨w8, G12, H⟩ := Option.bind_eq_some_iff.mp H
    have K9 : Wp (d + 1) 207 50 [some (.int p0), some (.int p1), some (.int p2)] [.int w8] h Q := by
      obtain ⟨⟨x11, h10⟩, gh10, H⟩ := Option.bind_eq_some_iff.mp H
      dsimp only at H
      refine wq_callS (as := [.int w8]) (r := []) (v1 := (some (.int x11))) xi_207 xi_163 dX12_worked_50 xm_12_139 rfl (Nat.le_of_ble_eq_true rfl) ⟨(Nat.le_of_ble_eq_true rfl), (Nat.le_of_ble_eq_true rfl)⟩ rfl nofun (e_163 d _ gh10 ⟨rfl, rfl⟩) ?_
      change Wp _ _ _ _ [.int x11] _ _
      obtain ⟨rfl, rfl⟩ := oi2 H
      exact wp_iret xi_207 dX12_worked_53 hq
    clear H
    have H := G12
    clear G12
    refine wp_icmp_ge 49 xi_207 dX12_worked_42 rfl (fun c7 => ?_) (fun c7 => ?_)
    · rw [if_pos c7] at H
      refine wp_iconst 0 xi_207 dX12_worked_49 rfl ?_
      obtain rfl := Option.some.inj H
      exact Wp.more (by simp [xMore, Value.category]) K9
    · rw [if_neg c7] at H
      refine wp_iconst 1 xi_207 dX12_worked_45 rfl ?_
      refine wp_goto 50 xi_207 dX12_worked_46 rfl ?_
      obtain rfl := Option.some.inj H
      exact Wp.more (by simp [xMore, Value.category]) K9
  · rw [if_neg c1] at H
    by_cases c2 : p0 = 1
    · rw [if_pos c2] at H
      refine Wp.pure (p2 := 54) (ls2 := [some (.int p0), some (.int p1), some (.int p2)]) (st2 := []) (h2 := h) xi_207 dX12_worked_1 rfl rfl rfl (by rw [c2]; rfl) ?_
      refine wp_iload_n xi_207 dX12_worked_54 rfl ?_
      refine wp_iload_n xi_207 dX12_worked_55 rfl ?_
      obtain ⟨w14, G18, H⟩ := Option.bind_eq_some_iff.mp H
      have K15 : Wp (d + 1) 207 64 [some (.int p0), some (.int p1), some (.int p2)] [.int w14] h Q := by
        obtain ⟨⟨x17, h16⟩, gh16, H⟩ := Option.bind_eq_some_iff.mp H
        dsimp only at H
        refine wq_callS (as := [.int w14]) (r := []) (v1 := (some (.int x17))) xi_207 xi_163 dX12_worked_64 xm_12_139 rfl (Nat.le_of_ble_eq_true rfl) ⟨(Nat.le_of_ble_eq_true rfl), (Nat.le_of_ble_eq_true rfl)⟩ rfl nofun (e_163 d _ gh16 ⟨rfl, rfl⟩) ?_
        change Wp _ _ _ _ [.int x17] _ _
        obtain ⟨rfl, rfl⟩ := oi2 H
        exact wp_iret xi_207 dX12_worked_67 hq
      clear H
      have H := G18
      clear G18
      refine wp_icmp_le 63 xi_207 dX12_worked_56 rfl (fun c13 => ?_) (fun c13 => ?_)
      · rw [if_pos c13] at H
        refine wp_iconst 0 xi_207 dX12_worked_63 rfl ?_
        obtain rfl := Option.some.inj H
        exact Wp.more (by simp [xMore, Value.category]) K15
      · rw [if_neg c13] at H
        refine wp_iconst 1 xi_207 dX12_worked_59 rfl ?_
        refine wp_goto 64 xi_207 dX12_worked_60 rfl ?_
        obtain rfl := Option.some.inj H
        exact Wp.more (by simp [xMore, Value.category]) K15
    · rw [if_neg c2] at H
      by_cases c3 : p0 = 2
      · rw [if_pos c3] at H
        refine Wp.pure (p2 := 68) (ls2 := [some (.int p0), some (.int p1), some (.int p2)]) (st2 := []) (h2 := h) xi_207 dX12_worked_1 rfl rfl rfl (by rw [c3]; rfl) ?_
        refine wp_iload_n xi_207 dX12_worked_68 rfl ?_
        refine wp_iload_n xi_207 dX12_worked_69 rfl ?_
        obtain ⟨w20, G24, H⟩ := Option.bind_eq_some_iff.mp H
        have K21 : Wp (d + 1) 207 78 [some (.int p0), some (.int p1), some (.int p2)] [.int w20] h Q := by
          obtain ⟨⟨x23, h22⟩, gh22, H⟩ := Option.bind_eq_some_iff.mp H
          dsimp only at H
          refine wq_callS (as := [.int w20]) (r := []) (v1 := (some (.int x23))) xi_207 xi_163 dX12_worked_78 xm_12_139 rfl (Nat.le_of_ble_eq_true rfl) ⟨(Nat.le_of_ble_eq_true rfl), (Nat.le_of_ble_eq_true rfl)⟩ rfl nofun (e_163 d _ gh22 ⟨rfl, rfl⟩) ?_
          change Wp _ _ _ _ [.int x23] _ _
          obtain ⟨rfl, rfl⟩ := oi2 H
          exact wp_iret xi_207 dX12_worked_81 hq
        clear H
        have H := G24
        clear G24
        refine wp_icmp_ne 77 xi_207 dX12_worked_70 rfl (fun c19 => ?_) (fun c19 => ?_)
        · rw [if_neg c19] at H
          refine wp_iconst 0 xi_207 dX12_worked_77 rfl ?_
          obtain rfl := Option.some.inj H
          exact Wp.more (by simp [xMore, Value.category]) K21
        · rw [if_pos c19] at H
          refine wp_iconst 1 xi_207 dX12_worked_73 rfl ?_
          refine wp_goto 78 xi_207 dX12_worked_74 rfl ?_
          obtain rfl := Option.some.inj H
          exact Wp.more (by simp [xMore, Value.category]) K21
      · rw [if_neg c3] at H
        by_cases c4 : p0 = 3
        · rw [if_pos c4] at H
          refine Wp.pure (p2 := 82) (ls2 := [some (.int p0), some (.int p1), some (.int p2)]) (st2 := []) (h2 := h) xi_207 dX12_worked_1 rfl rfl rfl (by rw [c4]; rfl) ?_
          refine wp_iload_n xi_207 dX12_worked_82 rfl ?_
          refine wp_iload_n xi_207 dX12_worked_83 rfl ?_
          refine wp_iadd xi_207 dX12_worked_84 ?_
          obtain ⟨rfl, rfl⟩ := oi2 H
          exact wp_iret xi_207 dX12_worked_85 hq
        · rw [if_neg c4] at H
          by_cases c5 : p0 = 4
          · rw [if_pos c5] at H
            refine Wp.pure (p2 := 86) (ls2 := [some (.int p0), some (.int p1), some (.int p2)]) (st2 := []) (h2 := h) xi_207 dX12_worked_1 rfl rfl rfl (by rw [c5]; rfl) ?_
            refine wp_iload_n xi_207 dX12_worked_86 rfl ?_
            refine wp_iload_n xi_207 dX12_worked_87 rfl ?_
            refine wp_isub xi_207 dX12_worked_88 ?_
            obtain ⟨rfl, rfl⟩ := oi2 H
            exact wp_iret xi_207 dX12_worked_89 hq
          · rw [if_neg c5] at H
            by_cases c6 : p0 = 5
            · rw [if_pos c6] at H
              refine Wp.pure (p2 := 90) (ls2 := [some (.int p0), some (.int p1), some (.int p2)]) (st2 := []) (h2 := h) xi_207 dX12_worked_1 rfl rfl rfl (by rw [c6]; rfl) ?_
              refine wp_iload_n xi_207 dX12_worked_90 rfl ?_
              refine wp_iload_n xi_207 dX12_worked_91 rfl ?_
              refine wp_imul xi_207 dX12_worked_92 ?_
              obtain ⟨rfl, rfl⟩ := oi2 H
              exact wp_iret xi_207 dX12_worked_93 hq
            · rw [if_neg c6] at H
              have ec1 := lv_neT c1 (a := 0) (by decide)
              have ec2 := lv_neT c2 (a := 1) (by decide)
              have ec3 := lv_neT c3 (a := 2) (by decide)
              have ec4 := lv_neT c4 (a := 3) (by decide)
              have ec5 := lv_neT c5 (a := 4) (by decide)
              have ec6 := lv_neT c6 (a := 5) (by decide)
              refine Wp.pure (p2 := 94) (ls2 := [some (.int p0), some (.int p1), some (.int p2)]) (st2 := []) (h2 := h) xi_207 dX12_worked_1 rfl rfl rfl (by simp only [xPure, xJ]; rw [if_pos (by omega)]; rfl) ?_
              refine wp_iload_n xi_207 dX12_worked_94 rfl ?_
              obtain ⟨w27, G30, H⟩ := Option.bind_eq_some_iff.mp H
              have K28 : Wp (d + 1) 207 105 [some (.int p0), some (.int p1), some (.int p2)] [.int w27] h Q := by
                obtain ⟨rfl, rfl⟩ := oi2 H
                exact wp_iret xi_207 dX12_worked_105 hq
              clear H
              have H := G30
              clear G30
              refine wp_if_ne 102 xi_207 dX12_worked_95 rfl (fun c25 => ?_) (fun c25 => ?_)
              · rw [if_neg c25] at H
                refine wp_iload_n xi_207 dX12_worked_102 rfl ?_
                refine wp_iload_n xi_207 dX12_worked_103 rfl ?_
                obtain ⟨x29, gx29, H⟩ := Option.bind_eq_some_iff.mp H
                refine wq_idiv xi_207 dX12_worked_104 gx29 ?_
                obtain rfl := Option.some.inj H
                exact Wp.more (by simp [xMore, Value.category]) K28
              · rw [if_pos c25] at H
                refine wp_iconst 0 xi_207 dX12_worked_98 rfl ?_
                refine wp_goto 105 xi_207 dX12_worked_99 rfl ?_
                obtain rfl := Option.some.inj H
                exact Wp.more (by simp [xMore, Value.category]) K28
/- FelledHasLostModel.oddsOf([III)I -/
def f_208_39  : Nat → Nat → Nat → Int32 → Int32 → Int32 → Int32 → Int32 → xH → Option (xH)
  | 0, _, _, _, _, _, _, _, _ => none
  | n + 1, a0, a1, a2, a3, a4, a5, a6, h =>
  (pFi h a0 12 17).bind fun x1 =>
  (if x1 ≤ a6 then
  some (h)
  else
  (pFr h a0 12 15).bind fun x3 =>
  (pAi h x3 a6).bind fun x4 =>
  ((if x4 = 3000 then
  (pFr h a0 12 19).bind fun x57 =>
  (pFr h a0 12 19).bind fun x58 =>
  (pAi h x58 (a5 - 1)).bind fun x59 =>
  (pSi h x57 (a5 - 1) (-x59)).bind fun h60 =>
  some (a5, h60)
  else
  (if x4 < 2000 then
  (pFr h a0 12 19).bind fun x36 =>
  ((if x4 < 1000 then
  some (x4, h)
  else
  (pG (pIs h a0 12)).bind fun _ =>
  (f_206 a0 a1 a2 a4 a3 (x4 - 1000) h).bind fun (x46, h45) =>
  some (x46, h45) : Option (Int32 × xH))).bind fun (w41, h42) =>
  (pSi h42 x36 a5 w41).bind fun h47 =>
  some ((a5 + 1), h47)
  else
  (pFr h a0 12 19).bind fun x49 =>
  (pFr h a0 12 19).bind fun x50 =>
  (pAi h x50 ((a5 + (-1)) - 1)).bind fun x51 =>
  (pFr h a0 12 19).bind fun x52 =>
  (pAi h x52 (a5 + (-1))).bind fun x53 =>
  (f_207 (x4 - 2000) x51 x53 h).bind fun (x55, h54) =>
  (pSi h54 x49 ((a5 + (-1)) - 1) x55).bind fun h56 =>
  some ((a5 + (-1)), h56)) : Option (Int32 × xH))).bind fun (w32, h33) =>
  f_208_39 n a0 a1 a2 a3 a4 w32 (a6 + 1) h33)
theorem ef_208_39 (d : Nat) (Q : Option Value → xH → Prop)  : ∀ (n : Nat) (a0 : Nat) (a1 : Nat) (a2 : Int32) (a3 : Int32) (a4 : Int32) (a5 : Int32) (a6 : Int32) (h : xH) (r : xH), f_208_39 n a0 a1 a2 a3 a4 a5 a6 h = some r → (∀  (h1 : xH), r = h1 → Wp (d + 4) 208 179 [some (.ref a0), none, none, none, none, none, none, none] [] h1 Q) → Wp (d + 4) 208 39 [some (.ref a0), some (.ref a1), some (.int a2), some (.int a3), some (.int a4), some (.int a5), some (.int a6), none] [] h Q := by
  intro n
  induction n with
  | zero =>
    intro a0 a1 a2 a3 a4 a5 a6 h r H
    cases H
  | succ n ih =>
    intro a0 a1 a2 a3 a4 a5 a6 h r H KE
    unfold f_208_39 at H
    refine wp_iload xi_208 dX12_oddsOf_39 rfl ?_
    refine wp_aload_n xi_208 dX12_oddsOf_41 rfl ?_
    obtain ⟨x1, gx1, H⟩ := Option.bind_eq_some_iff.mp H
    refine wq_getfi xi_208 dX12_oddsOf_42 xf_12_221 gx1 ?_
    refine wp_icmp_ge 179 xi_208 dX12_oddsOf_45 rfl (fun c2 => ?_) (fun c2 => ?_)
    · rw [if_pos c2] at H
      obtain rfl := Option.some.inj H
      exact Wp.more (by simp [xMore, Value.category]) (KE  h rfl)
    · rw [if_neg c2] at H
      refine wp_aload_n xi_208 dX12_oddsOf_48 rfl ?_
      obtain ⟨x3, gx3, H⟩ := Option.bind_eq_some_iff.mp H
      refine wq_getfr xi_208 dX12_oddsOf_49 xf_12_43 gx3 ?_
      refine wp_iload xi_208 dX12_oddsOf_52 rfl ?_
      obtain ⟨x4, gx4, H⟩ := Option.bind_eq_some_iff.mp H
      refine wq_iaload xi_208 dX12_oddsOf_54 gx4 ?_
      refine wp_istore [some (.ref a0), some (.ref a1), some (.int a2), some (.int a3), some (.int a4), some (.int a5), some (.int a6), some (.int x4)] xi_208 dX12_oddsOf_55 rfl ?_
      refine wp_iload xi_208 dX12_oddsOf_57 rfl ?_
      refine wp_sipush 3000 xi_208 dX12_oddsOf_59 rfl ?_
      obtain ⟨⟨w32, h33⟩, G61, H⟩ := Option.bind_eq_some_iff.mp H
      dsimp only at H
      have K34 : Wp (d + 4) 208 173 [some (.ref a0), some (.ref a1), some (.int a2), some (.int a3), some (.int a4), some (.int w32), some (.int a6), some (.int x4)] [] h33 Q := by
        refine wp_iinc (a6 + 1) [some (.ref a0), some (.ref a1), some (.int a2), some (.int a3), some (.int a4), some (.int w32), some (.int (a6 + 1)), some (.int x4)] xi_208 dX12_oddsOf_173 rfl rfl rfl ?_
        refine wp_goto 39 xi_208 dX12_oddsOf_176 rfl ?_
        exact Wp.more (by simp [xMore, Value.category]) (ih a0 a1 a2 a3 a4 w32 (a6 + 1) h33 _ H KE)
      clear H
      have H := G61
      clear G61
      refine wp_icmp_ne 87 xi_208 dX12_oddsOf_62 rfl (fun c5 => ?_) (fun c5 => ?_)
      · rw [if_neg c5] at H
        refine wp_iload xi_208 dX12_oddsOf_87 rfl ?_
        refine wp_sipush 2000 xi_208 dX12_oddsOf_89 rfl ?_
        refine wp_icmp_lt 135 xi_208 dX12_oddsOf_92 rfl (fun c35 => ?_) (fun c35 => ?_)
        · rw [if_pos c35] at H
          refine wp_aload_n xi_208 dX12_oddsOf_135 rfl ?_
          obtain ⟨x36, gx36, H⟩ := Option.bind_eq_some_iff.mp H
          refine wq_getfr xi_208 dX12_oddsOf_136 xf_12_49 gx36 ?_
          refine wp_iload xi_208 dX12_oddsOf_139 rfl ?_
          refine wp_iload xi_208 dX12_oddsOf_141 rfl ?_
          refine wp_sipush 1000 xi_208 dX12_oddsOf_143 rfl ?_
          obtain ⟨⟨w41, h42⟩, G48, H⟩ := Option.bind_eq_some_iff.mp H
          dsimp only at H
          have K43 : Wp (d + 4) 208 169 [some (.ref a0), some (.ref a1), some (.int a2), some (.int a3), some (.int a4), some (.int a5), some (.int a6), some (.int x4)] [.int w41, .int a5, .ref x36] h42 Q := by
            obtain ⟨h47, gh47, H⟩ := Option.bind_eq_some_iff.mp H
            refine wq_iastore xi_208 dX12_oddsOf_169 gh47 ?_
            refine wp_iinc (a5 + 1) [some (.ref a0), some (.ref a1), some (.int a2), some (.int a3), some (.int a4), some (.int (a5 + 1)), some (.int a6), some (.int x4)] xi_208 dX12_oddsOf_170 rfl rfl rfl ?_
            simp only [Option.some.injEq, Prod.mk.injEq] at H
            obtain ⟨rfl, rfl⟩ := H
            exact Wp.more (by simp [xMore, Value.category]) K34
          clear H
          have H := G48
          clear G48
          refine wp_icmp_lt 167 xi_208 dX12_oddsOf_146 rfl (fun c37 => ?_) (fun c37 => ?_)
          · rw [if_pos c37] at H
            refine wp_iload xi_208 dX12_oddsOf_167 rfl ?_
            simp only [Option.some.injEq, Prod.mk.injEq] at H
            obtain ⟨rfl, rfl⟩ := H
            exact Wp.more (by simp [xMore, Value.category]) K43
          · rw [if_neg c37] at H
            refine wp_aload_n xi_208 dX12_oddsOf_149 rfl ?_
            refine wp_aload_n xi_208 dX12_oddsOf_150 rfl ?_
            refine wp_iload_n xi_208 dX12_oddsOf_151 rfl ?_
            refine wp_iload xi_208 dX12_oddsOf_152 rfl ?_
            refine wp_iload_n xi_208 dX12_oddsOf_154 rfl ?_
            refine wp_iload xi_208 dX12_oddsOf_155 rfl ?_
            refine wp_sipush 1000 xi_208 dX12_oddsOf_157 rfl ?_
            refine wp_isub xi_208 dX12_oddsOf_160 ?_
            obtain ⟨u44, gu44, H⟩ := Option.bind_eq_some_iff.mp H
            obtain ⟨⟨x46, h45⟩, gh45, H⟩ := Option.bind_eq_some_iff.mp H
            dsimp only at H
            refine wq_callV (a := a0) (as := [.ref a1, .int a2, .int a4, .int a3, .int (x4 - 1000)]) (r := [.int a5, .ref x36]) (v1 := (some (.int x46))) xi_208 xi_206 dX12_oddsOf_161 xm_12_305 rfl (Nat.le_of_ble_eq_true rfl) (pG_ok gu44) ⟨(Nat.le_of_ble_eq_true rfl), (Nat.le_of_ble_eq_true rfl)⟩ rfl nofun (e_206 d _ gh45 ⟨rfl, rfl⟩) ?_
            change Wp _ _ _ _ [.int x46, .int a5, .ref x36] _ _
            refine wp_goto 169 xi_208 dX12_oddsOf_164 rfl ?_
            simp only [Option.some.injEq, Prod.mk.injEq] at H
            obtain ⟨rfl, rfl⟩ := H
            exact Wp.more (by simp [xMore, Value.category]) K43
        · rw [if_neg c35] at H
          refine wp_iinc (a5 + (-1)) [some (.ref a0), some (.ref a1), some (.int a2), some (.int a3), some (.int a4), some (.int (a5 + (-1))), some (.int a6), some (.int x4)] xi_208 dX12_oddsOf_95 rfl rfl rfl ?_
          refine wp_aload_n xi_208 dX12_oddsOf_98 rfl ?_
          obtain ⟨x49, gx49, H⟩ := Option.bind_eq_some_iff.mp H
          refine wq_getfr xi_208 dX12_oddsOf_99 xf_12_49 gx49 ?_
          refine wp_iload xi_208 dX12_oddsOf_102 rfl ?_
          refine wp_iconst 1 xi_208 dX12_oddsOf_104 rfl ?_
          refine wp_isub xi_208 dX12_oddsOf_105 ?_
          refine wp_iload xi_208 dX12_oddsOf_106 rfl ?_
          refine wp_sipush 2000 xi_208 dX12_oddsOf_108 rfl ?_
          refine wp_isub xi_208 dX12_oddsOf_111 ?_
          refine wp_aload_n xi_208 dX12_oddsOf_112 rfl ?_
          obtain ⟨x50, gx50, H⟩ := Option.bind_eq_some_iff.mp H
          refine wq_getfr xi_208 dX12_oddsOf_113 xf_12_49 gx50 ?_
          refine wp_iload xi_208 dX12_oddsOf_116 rfl ?_
          refine wp_iconst 1 xi_208 dX12_oddsOf_118 rfl ?_
          refine wp_isub xi_208 dX12_oddsOf_119 ?_
          obtain ⟨x51, gx51, H⟩ := Option.bind_eq_some_iff.mp H
          refine wq_iaload xi_208 dX12_oddsOf_120 gx51 ?_
          refine wp_aload_n xi_208 dX12_oddsOf_121 rfl ?_
          obtain ⟨x52, gx52, H⟩ := Option.bind_eq_some_iff.mp H
          refine wq_getfr xi_208 dX12_oddsOf_122 xf_12_49 gx52 ?_
          refine wp_iload xi_208 dX12_oddsOf_125 rfl ?_
          obtain ⟨x53, gx53, H⟩ := Option.bind_eq_some_iff.mp H
          refine wq_iaload xi_208 dX12_oddsOf_127 gx53 ?_
          obtain ⟨⟨x55, h54⟩, gh54, H⟩ := Option.bind_eq_some_iff.mp H
          dsimp only at H
          refine wq_callS (as := [.int (x4 - 2000), .int x51, .int x53]) (r := [.int ((a5 + (-1)) - 1), .ref x49]) (v1 := (some (.int x55))) xi_208 xi_207 dX12_oddsOf_128 xm_12_301 rfl (Nat.le_of_ble_eq_true rfl) ⟨(Nat.le_of_ble_eq_true rfl), (Nat.le_of_ble_eq_true rfl)⟩ rfl nofun (e_207 (d + 2) _ gh54 ⟨rfl, rfl⟩) ?_
          change Wp _ _ _ _ [.int x55, .int ((a5 + (-1)) - 1), .ref x49] _ _
          obtain ⟨h56, gh56, H⟩ := Option.bind_eq_some_iff.mp H
          refine wq_iastore xi_208 dX12_oddsOf_131 gh56 ?_
          refine wp_goto 173 xi_208 dX12_oddsOf_132 rfl ?_
          simp only [Option.some.injEq, Prod.mk.injEq] at H
          obtain ⟨rfl, rfl⟩ := H
          exact Wp.more (by simp [xMore, Value.category]) K34
      · rw [if_pos c5] at H
        refine wp_aload_n xi_208 dX12_oddsOf_65 rfl ?_
        obtain ⟨x57, gx57, H⟩ := Option.bind_eq_some_iff.mp H
        refine wq_getfr xi_208 dX12_oddsOf_66 xf_12_49 gx57 ?_
        refine wp_iload xi_208 dX12_oddsOf_69 rfl ?_
        refine wp_iconst 1 xi_208 dX12_oddsOf_71 rfl ?_
        refine wp_isub xi_208 dX12_oddsOf_72 ?_
        refine wp_aload_n xi_208 dX12_oddsOf_73 rfl ?_
        obtain ⟨x58, gx58, H⟩ := Option.bind_eq_some_iff.mp H
        refine wq_getfr xi_208 dX12_oddsOf_74 xf_12_49 gx58 ?_
        refine wp_iload xi_208 dX12_oddsOf_77 rfl ?_
        refine wp_iconst 1 xi_208 dX12_oddsOf_79 rfl ?_
        refine wp_isub xi_208 dX12_oddsOf_80 ?_
        obtain ⟨x59, gx59, H⟩ := Option.bind_eq_some_iff.mp H
        refine wq_iaload xi_208 dX12_oddsOf_81 gx59 ?_
        refine wp_ineg xi_208 dX12_oddsOf_82 ?_
        obtain ⟨h60, gh60, H⟩ := Option.bind_eq_some_iff.mp H
        refine wq_iastore xi_208 dX12_oddsOf_83 gh60 ?_
        refine wp_goto 173 xi_208 dX12_oddsOf_84 rfl ?_
        simp only [Option.some.injEq, Prod.mk.injEq] at H
        obtain ⟨rfl, rfl⟩ := H
        exact Wp.more (by simp [xMore, Value.category]) K34
def f_208  (a : Nat) (p0 : Nat) (p1 : Int32) (p2 : Int32) (h : xH) : Option (Int32 × xH) :=
  (pFr h a 12 5).bind fun x1 =>
  (pAi h p0 49).bind fun x2 =>
  (pAi h x1 x2).bind fun x3 =>
  (pFi h a 12 17).bind fun x4 =>
  (if x4 = 0 then
  (pDiv p1 10).bind fun x11 =>
  (f_186 p0 x11 h).bind fun (x13, h12) =>
  (f_163 x13 h12).bind fun (x15, h14) =>
  some ((x3 * x15), h14)
  else
  (f_208_39 100000 a p0 p1 p2 x3 0 0 h).bind fun h6 =>
  (pFr h6 a 12 19).bind fun x9 =>
  (pAi h6 x9 0).bind fun x10 =>
  some ((pMax 0 (pMin 100 x10)), h6))
set_option maxHeartbeats 4000000 in
theorem e_208 (d : Nat) (Q : Option Value → xH → Prop)  {h : xH} {a : Nat} {p0 : Nat} {p1 : Int32} {p2 : Int32} {x : Int32} {h1 : xH} (H : f_208  a p0 p1 p2 h = some (x, h1)) (hq : Q (some (.int x)) h1) : Wp (d + 4) 208 0 [some (.ref a), some (.ref p0), some (.int p1), some (.int p2), none, none, none, none] [] h Q := by
  unfold f_208 at H
  refine wp_aload_n xi_208 dX12_oddsOf_0 rfl ?_
  obtain ⟨x1, gx1, H⟩ := Option.bind_eq_some_iff.mp H
  refine wq_getfr xi_208 dX12_oddsOf_1 xf_12_31 gx1 ?_
  refine wp_aload_n xi_208 dX12_oddsOf_4 rfl ?_
  refine wp_bipush 49 xi_208 dX12_oddsOf_5 rfl ?_
  obtain ⟨x2, gx2, H⟩ := Option.bind_eq_some_iff.mp H
  refine wq_iaload xi_208 dX12_oddsOf_7 gx2 ?_
  obtain ⟨x3, gx3, H⟩ := Option.bind_eq_some_iff.mp H
  refine wq_iaload xi_208 dX12_oddsOf_8 gx3 ?_
  refine wp_istore [some (.ref a), some (.ref p0), some (.int p1), some (.int p2), some (.int x3), none, none, none] xi_208 dX12_oddsOf_9 rfl ?_
  refine wp_aload_n xi_208 dX12_oddsOf_11 rfl ?_
  obtain ⟨x4, gx4, H⟩ := Option.bind_eq_some_iff.mp H
  refine wq_getfi xi_208 dX12_oddsOf_12 xf_12_221 gx4 ?_
  refine wp_if_ne 33 xi_208 dX12_oddsOf_15 rfl (fun c5 => ?_) (fun c5 => ?_)
  · rw [if_neg c5] at H
    refine wp_iconst 0 xi_208 dX12_oddsOf_33 rfl ?_
    refine wp_istore [some (.ref a), some (.ref p0), some (.int p1), some (.int p2), some (.int x3), some (.int 0), none, none] xi_208 dX12_oddsOf_34 rfl ?_
    refine wp_iconst 0 xi_208 dX12_oddsOf_36 rfl ?_
    refine wp_istore [some (.ref a), some (.ref p0), some (.int p1), some (.int p2), some (.int x3), some (.int 0), some (.int 0), none] xi_208 dX12_oddsOf_37 rfl ?_
    obtain ⟨h6, G7, H⟩ := Option.bind_eq_some_iff.mp H
    refine Wp.more (by simp [xMore, Value.category]) (ef_208_39 d Q  100000 a p0 p1 p2 x3 0 0 h _ G7 (fun z0 e9 => ?_))
    cases e9
    refine wp_iconst 0 xi_208 dX12_oddsOf_179 rfl ?_
    refine wp_bipush 100 xi_208 dX12_oddsOf_180 rfl ?_
    refine wp_aload_n xi_208 dX12_oddsOf_182 rfl ?_
    obtain ⟨x9, gx9, H⟩ := Option.bind_eq_some_iff.mp H
    refine wq_getfr xi_208 dX12_oddsOf_183 xf_12_49 gx9 ?_
    refine wp_iconst 0 xi_208 dX12_oddsOf_186 rfl ?_
    obtain ⟨x10, gx10, H⟩ := Option.bind_eq_some_iff.mp H
    refine wq_iaload xi_208 dX12_oddsOf_187 gx10 ?_
    refine wq_min xi_208 dX12_oddsOf_188 xm_12_152 (Nat.le_of_ble_eq_true rfl) ?_
    refine wq_max xi_208 dX12_oddsOf_191 xm_12_224 (Nat.le_of_ble_eq_true rfl) ?_
    obtain ⟨rfl, rfl⟩ := oi2 H
    exact wp_iret xi_208 dX12_oddsOf_194 hq
  · rw [if_pos c5] at H
    refine wp_iload xi_208 dX12_oddsOf_18 rfl ?_
    refine wp_aload_n xi_208 dX12_oddsOf_20 rfl ?_
    refine wp_iload_n xi_208 dX12_oddsOf_21 rfl ?_
    refine wp_bipush 10 xi_208 dX12_oddsOf_22 rfl ?_
    obtain ⟨x11, gx11, H⟩ := Option.bind_eq_some_iff.mp H
    refine wq_idiv xi_208 dX12_oddsOf_24 gx11 ?_
    obtain ⟨⟨x13, h12⟩, gh12, H⟩ := Option.bind_eq_some_iff.mp H
    dsimp only at H
    refine wq_callS (as := [.ref p0, .int x11]) (r := [.int x3]) (v1 := (some (.int x13))) xi_208 xi_186 dX12_oddsOf_25 xm_12_253 rfl (Nat.le_of_ble_eq_true rfl) ⟨(Nat.le_of_ble_eq_true rfl), (Nat.le_of_ble_eq_true rfl)⟩ rfl nofun (e_186 (d + 2) _ gh12 ⟨rfl, rfl⟩) ?_
    change Wp _ _ _ _ [.int x13, .int x3] _ _
    obtain ⟨⟨x15, h14⟩, gh14, H⟩ := Option.bind_eq_some_iff.mp H
    dsimp only at H
    refine wq_callS (as := [.int x13]) (r := [.int x3]) (v1 := (some (.int x15))) xi_208 xi_163 dX12_oddsOf_28 xm_12_139 rfl (Nat.le_of_ble_eq_true rfl) ⟨(Nat.le_of_ble_eq_true rfl), (Nat.le_of_ble_eq_true rfl)⟩ rfl nofun (e_163 (d + 3) _ gh14 ⟨rfl, rfl⟩) ?_
    change Wp _ _ _ _ [.int x15, .int x3] _ _
    refine wp_imul xi_208 dX12_oddsOf_31 ?_
    obtain ⟨rfl, rfl⟩ := oi2 H
    exact wp_iret xi_208 dX12_oddsOf_32 hq
/- FelledHasLostModel.moves()I -/
def f_209_17  : Nat → Nat → Int32 → Int32 → Int32 → Int32 → Int32 → xH → Option (Int32 × Int32 × Int32 × Int32 × xH)
  | 0, _, _, _, _, _, _, _ => none
  | n + 1, a0, a1, a2, a3, a4, a5, h =>
  (if (480 : Int32) ≤ a5 then
  some (a1, a2, a3, a4, h)
  else
  (pFr h a0 12 3).bind fun x2 =>
  (f_202 x2 a5 h).bind fun (x4, h3) =>
  (f_163 x4 h3).bind fun (x6, h5) =>
  (pFr h5 a0 12 3).bind fun x7 =>
  (pG (pIs h5 a0 12)).bind fun _ =>
  (f_204 a0 x7 a5 h5).bind fun (x10, h9) =>
  ((if x10 = 0 then
  some (a1, a3, a4)
  else
  ((if (0 : Int32) ≤ a3 then
  some (a3)
  else
  some (a5) : Option (Int32))).bind fun (w21 : Int32) =>
  some ((a1 + 1), w21, a5) : Option (Int32 × Int32 × Int32))).bind fun (w16, w17, w18) =>
  f_209_17 n a0 w16 (a2 + x6) w17 w18 (a5 + 1) h9)
theorem ef_209_17 (d : Nat) (Q : Option Value → xH → Prop)  : ∀ (n : Nat) (a0 : Nat) (a1 : Int32) (a2 : Int32) (a3 : Int32) (a4 : Int32) (a5 : Int32) (h : xH) (r : Int32 × Int32 × Int32 × Int32 × xH), f_209_17 n a0 a1 a2 a3 a4 a5 h = some r → (∀ (w1 : Int32) (w2 : Int32) (w3 : Int32) (w4 : Int32) (h1 : xH), r = (w1, w2, w3, w4, h1) → Wp (d + 5) 209 77 [some (.ref a0), some (.int w1), some (.int w2), some (.int w3), some (.int w4), none] [] h1 Q) → Wp (d + 5) 209 17 [some (.ref a0), some (.int a1), some (.int a2), some (.int a3), some (.int a4), some (.int a5)] [] h Q := by
  intro n
  induction n with
  | zero =>
    intro a0 a1 a2 a3 a4 a5 h r H
    cases H
  | succ n ih =>
    intro a0 a1 a2 a3 a4 a5 h r H KE
    unfold f_209_17 at H
    refine wp_iload xi_209 dX12_moves_17 rfl ?_
    refine wp_sipush 480 xi_209 dX12_moves_19 rfl ?_
    refine wp_icmp_ge 77 xi_209 dX12_moves_22 rfl (fun c1 => ?_) (fun c1 => ?_)
    · rw [if_pos c1] at H
      obtain rfl := Option.some.inj H
      exact Wp.more (by simp [xMore, Value.category]) (KE a1 a2 a3 a4 h rfl)
    · rw [if_neg c1] at H
      refine wp_iload_n xi_209 dX12_moves_25 rfl ?_
      refine wp_aload_n xi_209 dX12_moves_26 rfl ?_
      obtain ⟨x2, gx2, H⟩ := Option.bind_eq_some_iff.mp H
      refine wq_getfr xi_209 dX12_moves_27 xf_12_24 gx2 ?_
      refine wp_iload xi_209 dX12_moves_30 rfl ?_
      obtain ⟨⟨x4, h3⟩, gh3, H⟩ := Option.bind_eq_some_iff.mp H
      dsimp only at H
      refine wq_callS (as := [.ref x2, .int a5]) (r := [.int a2]) (v1 := (some (.int x4))) xi_209 xi_202 dX12_moves_32 xm_12_292 rfl (Nat.le_of_ble_eq_true rfl) ⟨(Nat.le_of_ble_eq_true rfl), (Nat.le_of_ble_eq_true rfl)⟩ rfl nofun (e_202 (d + 1) _ gh3 ⟨rfl, rfl⟩) ?_
      change Wp _ _ _ _ [.int x4, .int a2] _ _
      obtain ⟨⟨x6, h5⟩, gh5, H⟩ := Option.bind_eq_some_iff.mp H
      dsimp only at H
      refine wq_callS (as := [.int x4]) (r := [.int a2]) (v1 := (some (.int x6))) xi_209 xi_163 dX12_moves_35 xm_12_139 rfl (Nat.le_of_ble_eq_true rfl) ⟨(Nat.le_of_ble_eq_true rfl), (Nat.le_of_ble_eq_true rfl)⟩ rfl nofun (e_163 (d + 4) _ gh5 ⟨rfl, rfl⟩) ?_
      change Wp _ _ _ _ [.int x6, .int a2] _ _
      refine wp_iadd xi_209 dX12_moves_38 ?_
      refine wp_istore_n [some (.ref a0), some (.int a1), some (.int (a2 + x6)), some (.int a3), some (.int a4), some (.int a5)] xi_209 dX12_moves_39 rfl ?_
      refine wp_aload_n xi_209 dX12_moves_40 rfl ?_
      refine wp_aload_n xi_209 dX12_moves_41 rfl ?_
      obtain ⟨x7, gx7, H⟩ := Option.bind_eq_some_iff.mp H
      refine wq_getfr xi_209 dX12_moves_42 xf_12_24 gx7 ?_
      refine wp_iload xi_209 dX12_moves_45 rfl ?_
      obtain ⟨u8, gu8, H⟩ := Option.bind_eq_some_iff.mp H
      obtain ⟨⟨x10, h9⟩, gh9, H⟩ := Option.bind_eq_some_iff.mp H
      dsimp only at H
      refine wq_callV (a := a0) (as := [.ref x7, .int a5]) (r := []) (v1 := (some (.int x10))) xi_209 xi_204 dX12_moves_47 xm_12_309 rfl (Nat.le_of_ble_eq_true rfl) (pG_ok gu8) ⟨(Nat.le_of_ble_eq_true rfl), (Nat.le_of_ble_eq_true rfl)⟩ rfl nofun (e_204 d _ gh9 ⟨rfl, rfl⟩) ?_
      change Wp _ _ _ _ [.int x10] _ _
      obtain ⟨⟨w16, w17, w18⟩, G24, H⟩ := Option.bind_eq_some_iff.mp H
      dsimp only at H
      have K19 : Wp (d + 5) 209 71 [some (.ref a0), some (.int w16), some (.int (a2 + x6)), some (.int w17), some (.int w18), some (.int a5)] [] h9 Q := by
        refine wp_iinc (a5 + 1) [some (.ref a0), some (.int w16), some (.int (a2 + x6)), some (.int w17), some (.int w18), some (.int (a5 + 1))] xi_209 dX12_moves_71 rfl rfl rfl ?_
        refine wp_goto 17 xi_209 dX12_moves_74 rfl ?_
        exact Wp.more (by simp [xMore, Value.category]) (ih a0 w16 (a2 + x6) w17 w18 (a5 + 1) h9 _ H KE)
      clear H
      have H := G24
      clear G24
      refine wp_if_eq 71 xi_209 dX12_moves_50 rfl (fun c11 => ?_) (fun c11 => ?_)
      · rw [if_pos c11] at H
        simp only [Option.some.injEq, Prod.mk.injEq] at H
        obtain ⟨rfl, rfl, rfl⟩ := H
        exact Wp.more (by simp [xMore, Value.category]) K19
      · rw [if_neg c11] at H
        refine wp_iload_n xi_209 dX12_moves_53 rfl ?_
        obtain ⟨w21, G23, H⟩ := Option.bind_eq_some_iff.mp H
        have K22 : Wp (d + 5) 209 63 [some (.ref a0), some (.int a1), some (.int (a2 + x6)), some (.int a3), some (.int a4), some (.int a5)] [.int w21] h9 Q := by
          refine wp_istore_n [some (.ref a0), some (.int a1), some (.int (a2 + x6)), some (.int w21), some (.int a4), some (.int a5)] xi_209 dX12_moves_63 rfl ?_
          refine wp_iload xi_209 dX12_moves_64 rfl ?_
          refine wp_istore [some (.ref a0), some (.int a1), some (.int (a2 + x6)), some (.int w21), some (.int a5), some (.int a5)] xi_209 dX12_moves_66 rfl ?_
          refine wp_iinc (a1 + 1) [some (.ref a0), some (.int (a1 + 1)), some (.int (a2 + x6)), some (.int w21), some (.int a5), some (.int a5)] xi_209 dX12_moves_68 rfl rfl rfl ?_
          simp only [Option.some.injEq, Prod.mk.injEq] at H
          obtain ⟨rfl, rfl, rfl⟩ := H
          exact Wp.more (by simp [xMore, Value.category]) K19
        clear H
        have H := G23
        clear G23
        refine wp_if_ge 62 xi_209 dX12_moves_54 rfl (fun c20 => ?_) (fun c20 => ?_)
        · rw [if_pos c20] at H
          refine wp_iload_n xi_209 dX12_moves_62 rfl ?_
          obtain rfl := Option.some.inj H
          exact Wp.more (by simp [xMore, Value.category]) K22
        · rw [if_neg c20] at H
          refine wp_iload xi_209 dX12_moves_57 rfl ?_
          refine wp_goto 63 xi_209 dX12_moves_59 rfl ?_
          obtain rfl := Option.some.inj H
          exact Wp.more (by simp [xMore, Value.category]) K22
def f_209  (a : Nat) (h : xH) : Option (Int32 × xH) :=
  (pP h a 12 0 (.int 0)).bind fun h1 =>
  (f_209_17 100000 a 0 0 (-1) (-1) 0 h1).bind fun (w3, w4, w5, w6, h2) =>
  (pP h2 a 12 1 (.int 0)).bind fun h9 =>
  (pG (pIs h9 a 12)).bind fun _ =>
  (f_165 a ((w5 : Int32).toInt64) h9).bind fun h11 =>
  (pG (pIs h11 a 12)).bind fun _ =>
  (f_165 a ((w6 : Int32).toInt64) h11).bind fun h13 =>
  (pG (pIs h13 a 12)).bind fun _ =>
  (f_165 a ((w4 : Int32).toInt64) h13).bind fun h15 =>
  some (w3, h15)
set_option maxHeartbeats 4000000 in
theorem e_209 (d : Nat) (Q : Option Value → xH → Prop)  {h : xH} {a : Nat} {x : Int32} {h1 : xH} (H : f_209  a h = some (x, h1)) (hq : Q (some (.int x)) h1) : Wp (d + 5) 209 0 [some (.ref a), none, none, none, none, none] [] h Q := by
  unfold f_209 at H
  refine wp_aload_n xi_209 dX12_moves_0 rfl ?_
  refine wp_iconst 0 xi_209 dX12_moves_1 rfl ?_
  obtain ⟨h1, gh1, H⟩ := Option.bind_eq_some_iff.mp H
  refine wq_putf xi_209 dX12_moves_2 xf_12_3 (Or.inl rfl) gh1 ?_
  refine wp_iconst 0 xi_209 dX12_moves_5 rfl ?_
  refine wp_istore_n [some (.ref a), some (.int 0), none, none, none, none] xi_209 dX12_moves_6 rfl ?_
  refine wp_iconst 0 xi_209 dX12_moves_7 rfl ?_
  refine wp_istore_n [some (.ref a), some (.int 0), some (.int 0), none, none, none] xi_209 dX12_moves_8 rfl ?_
  refine wp_iconst (-1) xi_209 dX12_moves_9 rfl ?_
  refine wp_istore_n [some (.ref a), some (.int 0), some (.int 0), some (.int (-1)), none, none] xi_209 dX12_moves_10 rfl ?_
  refine wp_iconst (-1) xi_209 dX12_moves_11 rfl ?_
  refine wp_istore [some (.ref a), some (.int 0), some (.int 0), some (.int (-1)), some (.int (-1)), none] xi_209 dX12_moves_12 rfl ?_
  refine wp_iconst 0 xi_209 dX12_moves_14 rfl ?_
  refine wp_istore [some (.ref a), some (.int 0), some (.int 0), some (.int (-1)), some (.int (-1)), some (.int 0)] xi_209 dX12_moves_15 rfl ?_
  obtain ⟨⟨w3, w4, w5, w6, h2⟩, G7, H⟩ := Option.bind_eq_some_iff.mp H
  dsimp only at H
  refine Wp.more (by simp [xMore, Value.category]) (ef_209_17 d Q  100000 a 0 0 (-1) (-1) 0 h1 _ G7 (fun z0 z1 z2 z3 z4 e9 => ?_))
  cases e9
  refine wp_aload_n xi_209 dX12_moves_77 rfl ?_
  refine wp_iconst 0 xi_209 dX12_moves_78 rfl ?_
  obtain ⟨h9, gh9, H⟩ := Option.bind_eq_some_iff.mp H
  refine wq_putf xi_209 dX12_moves_79 xf_12_15 (Or.inl rfl) gh9 ?_
  refine wp_aload_n xi_209 dX12_moves_82 rfl ?_
  refine wp_iload_n xi_209 dX12_moves_83 rfl ?_
  refine wp_i2l xi_209 dX12_moves_84 ?_
  obtain ⟨u10, gu10, H⟩ := Option.bind_eq_some_iff.mp H
  obtain ⟨h11, gh11, H⟩ := Option.bind_eq_some_iff.mp H
  refine wq_callV (a := a) (as := [.long ((w5 : Int32).toInt64)]) (r := []) (v1 := none) xi_209 xi_165 dX12_moves_85 xm_12_279 rfl (Nat.le_of_ble_eq_true rfl) (pG_ok gu10) ⟨(Nat.le_of_ble_eq_true rfl), (Nat.le_of_ble_eq_true rfl)⟩ rfl nofun (e_165 (d + 4) _ gh11 ⟨rfl, rfl⟩) ?_
  change Wp _ _ _ _ [] _ _
  refine wp_aload_n xi_209 dX12_moves_88 rfl ?_
  refine wp_iload xi_209 dX12_moves_89 rfl ?_
  refine wp_i2l xi_209 dX12_moves_91 ?_
  obtain ⟨u12, gu12, H⟩ := Option.bind_eq_some_iff.mp H
  obtain ⟨h13, gh13, H⟩ := Option.bind_eq_some_iff.mp H
  refine wq_callV (a := a) (as := [.long ((w6 : Int32).toInt64)]) (r := []) (v1 := none) xi_209 xi_165 dX12_moves_92 xm_12_279 rfl (Nat.le_of_ble_eq_true rfl) (pG_ok gu12) ⟨(Nat.le_of_ble_eq_true rfl), (Nat.le_of_ble_eq_true rfl)⟩ rfl nofun (e_165 (d + 4) _ gh13 ⟨rfl, rfl⟩) ?_
  change Wp _ _ _ _ [] _ _
  refine wp_aload_n xi_209 dX12_moves_95 rfl ?_
  refine wp_iload_n xi_209 dX12_moves_96 rfl ?_
  refine wp_i2l xi_209 dX12_moves_97 ?_
  obtain ⟨u14, gu14, H⟩ := Option.bind_eq_some_iff.mp H
  obtain ⟨h15, gh15, H⟩ := Option.bind_eq_some_iff.mp H
  refine wq_callV (a := a) (as := [.long ((w4 : Int32).toInt64)]) (r := []) (v1 := none) xi_209 xi_165 dX12_moves_98 xm_12_279 rfl (Nat.le_of_ble_eq_true rfl) (pG_ok gu14) ⟨(Nat.le_of_ble_eq_true rfl), (Nat.le_of_ble_eq_true rfl)⟩ rfl nofun (e_165 (d + 4) _ gh15 ⟨rfl, rfl⟩) ?_
  change Wp _ _ _ _ [] _ _
  refine wp_iload_n xi_209 dX12_moves_101 rfl ?_
  obtain ⟨rfl, rfl⟩ := oi2 H
  exact wp_iret xi_209 dX12_moves_102 hq
/- FelledHasLostModel.odds(II)I -/
def f_210  (a : Nat) (p0 : Int32) (p1 : Int32) (h : xH) : Option (Int32 × xH) :=
  (pP h a 12 0 (.int 0)).bind fun h1 =>
  (f_162 ((p1 : Int32).toInt64) (0 : Int64) (1 : Int64) h1).bind fun (x3, h2) =>
  (if x3 = 0 then
  some ((-1), h2)
  else
  (pFr h2 a 12 3).bind fun x5 =>
  (f_202 x5 p0 h2).bind fun (x7, h6) =>
  (if x7 = 0 then
  some ((-2), h6)
  else
  (pFr h6 a 12 3).bind fun x9 =>
  (pG (pIs h6 a 12)).bind fun _ =>
  (f_204 a x9 p0 h6).bind fun (x12, h11) =>
  (pP h11 a 12 1 (.int 0)).bind fun h13 =>
  (f_163 x12 h13).bind fun (x15, h14) =>
  (pG (pIs h14 a 12)).bind fun _ =>
  (f_165 a ((x15 : Int32).toInt64) h14).bind fun h17 =>
  ((if x12 = 0 then
  some (100, h17)
  else
  (pFr h17 a 12 3).bind fun x26 =>
  (pG (pIs h17 a 12)).bind fun _ =>
  (f_208 a x26 p0 p1 h17).bind fun (x29, h28) =>
  some (x29, h28) : Option (Int32 × xH))).bind fun (w23, h24) =>
  some (w23, h24)))
set_option maxHeartbeats 4000000 in
theorem e_210 (d : Nat) (Q : Option Value → xH → Prop)  {h : xH} {a : Nat} {p0 : Int32} {p1 : Int32} {x : Int32} {h1 : xH} (H : f_210  a p0 p1 h = some (x, h1)) (hq : Q (some (.int x)) h1) : Wp (d + 5) 210 0 [some (.ref a), some (.int p0), some (.int p1), none] [] h Q := by
  unfold f_210 at H
  refine wp_aload_n xi_210 dX12_odds_0 rfl ?_
  refine wp_iconst 0 xi_210 dX12_odds_1 rfl ?_
  obtain ⟨h1, gh1, H⟩ := Option.bind_eq_some_iff.mp H
  refine wq_putf xi_210 dX12_odds_2 xf_12_3 (Or.inl rfl) gh1 ?_
  refine wp_iload_n xi_210 dX12_odds_5 rfl ?_
  refine wp_i2l xi_210 dX12_odds_6 ?_
  refine wp_lconst 0 xi_210 dX12_odds_7 rfl ?_
  refine wp_lconst 1 xi_210 dX12_odds_8 rfl ?_
  obtain ⟨⟨x3, h2⟩, gh2, H⟩ := Option.bind_eq_some_iff.mp H
  dsimp only at H
  refine wq_callS (as := [.long ((p1 : Int32).toInt64), .long (0 : Int64), .long (1 : Int64)]) (r := []) (v1 := (some (.int x3))) xi_210 xi_162 dX12_odds_9 xm_12_135 rfl (Nat.le_of_ble_eq_true rfl) ⟨(Nat.le_of_ble_eq_true rfl), (Nat.le_of_ble_eq_true rfl)⟩ rfl nofun (e_162 (d + 4) _ gh2 ⟨rfl, rfl⟩) ?_
  change Wp _ _ _ _ [.int x3] _ _
  refine wp_if_ne 17 xi_210 dX12_odds_12 rfl (fun c4 => ?_) (fun c4 => ?_)
  · rw [if_neg c4] at H
    refine wp_aload_n xi_210 dX12_odds_17 rfl ?_
    obtain ⟨x5, gx5, H⟩ := Option.bind_eq_some_iff.mp H
    refine wq_getfr xi_210 dX12_odds_18 xf_12_24 gx5 ?_
    refine wp_iload_n xi_210 dX12_odds_21 rfl ?_
    obtain ⟨⟨x7, h6⟩, gh6, H⟩ := Option.bind_eq_some_iff.mp H
    dsimp only at H
    refine wq_callS (as := [.ref x5, .int p0]) (r := []) (v1 := (some (.int x7))) xi_210 xi_202 dX12_odds_22 xm_12_292 rfl (Nat.le_of_ble_eq_true rfl) ⟨(Nat.le_of_ble_eq_true rfl), (Nat.le_of_ble_eq_true rfl)⟩ rfl nofun (e_202 (d + 1) _ gh6 ⟨rfl, rfl⟩) ?_
    change Wp _ _ _ _ [.int x7] _ _
    refine wp_if_ne 31 xi_210 dX12_odds_25 rfl (fun c8 => ?_) (fun c8 => ?_)
    · rw [if_neg c8] at H
      refine wp_aload_n xi_210 dX12_odds_31 rfl ?_
      refine wp_aload_n xi_210 dX12_odds_32 rfl ?_
      obtain ⟨x9, gx9, H⟩ := Option.bind_eq_some_iff.mp H
      refine wq_getfr xi_210 dX12_odds_33 xf_12_24 gx9 ?_
      refine wp_iload_n xi_210 dX12_odds_36 rfl ?_
      obtain ⟨u10, gu10, H⟩ := Option.bind_eq_some_iff.mp H
      obtain ⟨⟨x12, h11⟩, gh11, H⟩ := Option.bind_eq_some_iff.mp H
      dsimp only at H
      refine wq_callV (a := a) (as := [.ref x9, .int p0]) (r := []) (v1 := (some (.int x12))) xi_210 xi_204 dX12_odds_37 xm_12_309 rfl (Nat.le_of_ble_eq_true rfl) (pG_ok gu10) ⟨(Nat.le_of_ble_eq_true rfl), (Nat.le_of_ble_eq_true rfl)⟩ rfl nofun (e_204 d _ gh11 ⟨rfl, rfl⟩) ?_
      change Wp _ _ _ _ [.int x12] _ _
      refine wp_istore_n [some (.ref a), some (.int p0), some (.int p1), some (.int x12)] xi_210 dX12_odds_40 rfl ?_
      refine wp_aload_n xi_210 dX12_odds_41 rfl ?_
      refine wp_iconst 0 xi_210 dX12_odds_42 rfl ?_
      obtain ⟨h13, gh13, H⟩ := Option.bind_eq_some_iff.mp H
      refine wq_putf xi_210 dX12_odds_43 xf_12_15 (Or.inl rfl) gh13 ?_
      refine wp_aload_n xi_210 dX12_odds_46 rfl ?_
      refine wp_iload_n xi_210 dX12_odds_47 rfl ?_
      obtain ⟨⟨x15, h14⟩, gh14, H⟩ := Option.bind_eq_some_iff.mp H
      dsimp only at H
      refine wq_callS (as := [.int x12]) (r := [.ref a]) (v1 := (some (.int x15))) xi_210 xi_163 dX12_odds_48 xm_12_139 rfl (Nat.le_of_ble_eq_true rfl) ⟨(Nat.le_of_ble_eq_true rfl), (Nat.le_of_ble_eq_true rfl)⟩ rfl nofun (e_163 (d + 4) _ gh14 ⟨rfl, rfl⟩) ?_
      change Wp _ _ _ _ [.int x15, .ref a] _ _
      refine wp_i2l xi_210 dX12_odds_51 ?_
      obtain ⟨u16, gu16, H⟩ := Option.bind_eq_some_iff.mp H
      obtain ⟨h17, gh17, H⟩ := Option.bind_eq_some_iff.mp H
      refine wq_callV (a := a) (as := [.long ((x15 : Int32).toInt64)]) (r := []) (v1 := none) xi_210 xi_165 dX12_odds_52 xm_12_279 rfl (Nat.le_of_ble_eq_true rfl) (pG_ok gu16) ⟨(Nat.le_of_ble_eq_true rfl), (Nat.le_of_ble_eq_true rfl)⟩ rfl nofun (e_165 (d + 4) _ gh17 ⟨rfl, rfl⟩) ?_
      change Wp _ _ _ _ [] _ _
      refine wp_iload_n xi_210 dX12_odds_55 rfl ?_
      obtain ⟨⟨w23, h24⟩, G30, H⟩ := Option.bind_eq_some_iff.mp H
      dsimp only at H
      have K25 : Wp (d + 5) 210 74 [some (.ref a), some (.int p0), some (.int p1), some (.int x12)] [.int w23] h24 Q := by
        obtain ⟨rfl, rfl⟩ := oi2 H
        exact wp_iret xi_210 dX12_odds_74 hq
      clear H
      have H := G30
      clear G30
      refine wp_if_eq 72 xi_210 dX12_odds_56 rfl (fun c18 => ?_) (fun c18 => ?_)
      · rw [if_pos c18] at H
        refine wp_bipush 100 xi_210 dX12_odds_72 rfl ?_
        simp only [Option.some.injEq, Prod.mk.injEq] at H
        obtain ⟨rfl, rfl⟩ := H
        exact Wp.more (by simp [xMore, Value.category]) K25
      · rw [if_neg c18] at H
        refine wp_aload_n xi_210 dX12_odds_59 rfl ?_
        refine wp_aload_n xi_210 dX12_odds_60 rfl ?_
        obtain ⟨x26, gx26, H⟩ := Option.bind_eq_some_iff.mp H
        refine wq_getfr xi_210 dX12_odds_61 xf_12_24 gx26 ?_
        refine wp_iload_n xi_210 dX12_odds_64 rfl ?_
        refine wp_iload_n xi_210 dX12_odds_65 rfl ?_
        obtain ⟨u27, gu27, H⟩ := Option.bind_eq_some_iff.mp H
        obtain ⟨⟨x29, h28⟩, gh28, H⟩ := Option.bind_eq_some_iff.mp H
        dsimp only at H
        refine wq_callV (a := a) (as := [.ref x26, .int p0, .int p1]) (r := []) (v1 := (some (.int x29))) xi_210 xi_208 dX12_odds_66 xm_12_312 rfl (Nat.le_of_ble_eq_true rfl) (pG_ok gu27) ⟨(Nat.le_of_ble_eq_true rfl), (Nat.le_of_ble_eq_true rfl)⟩ rfl nofun (e_208 d _ gh28 ⟨rfl, rfl⟩) ?_
        change Wp _ _ _ _ [.int x29] _ _
        refine wp_goto 74 xi_210 dX12_odds_69 rfl ?_
        simp only [Option.some.injEq, Prod.mk.injEq] at H
        obtain ⟨rfl, rfl⟩ := H
        exact Wp.more (by simp [xMore, Value.category]) K25
    · rw [if_pos c8] at H
      refine wp_bipush (-2) xi_210 dX12_odds_28 rfl ?_
      obtain ⟨rfl, rfl⟩ := oi2 H
      exact wp_iret xi_210 dX12_odds_30 hq
  · rw [if_pos c4] at H
    refine wp_iconst (-1) xi_210 dX12_odds_15 rfl ?_
    obtain ⟨rfl, rfl⟩ := oi2 H
    exact wp_iret xi_210 dX12_odds_16 hq
/- FelledHasLostModel.bestMove([I)I -/
def f_211_18  : Nat → Nat → Nat → Int32 → Int32 → Int32 → xH → Option (Int32 × xH)
  | 0, _, _, _, _, _, _ => none
  | n + 1, a0, a1, a2, a3, a4, h =>
  (if (480 : Int32) ≤ a4 then
  some (a2, h)
  else
  (pG (pIs h a0 12)).bind fun _ =>
  (f_204 a0 a1 a4 h).bind fun (x4, h3) =>
  ((if x4 = 0 then
  some (a2, h3)
  else
  (pG (pIs h3 a0 12)).bind fun _ =>
  (f_208 a0 a1 a4 a3 h3).bind fun (x18, h17) =>
  (pFi h17 a0 12 25).bind fun x19 =>
  (if x19 ≤ x18 then
  some (a2, h17)
  else
  (pP h17 a0 12 25 (.int x18)).bind fun h21 =>
  (pP h21 a0 12 26 (.int a3)).bind fun h22 =>
  some (a4, h22)) : Option (Int32 × xH))).bind fun (w13, h14) =>
  f_211_18 n a0 a1 w13 a3 (a4 + 1) h14)
theorem ef_211_18 (d : Nat) (Q : Option Value → xH → Prop)  : ∀ (n : Nat) (a0 : Nat) (a1 : Nat) (a2 : Int32) (a3 : Int32) (a4 : Int32) (h : xH) (r : Int32 × xH), f_211_18 n a0 a1 a2 a3 a4 h = some r → (∀ (w2 : Int32) (h1 : xH), r = (w2, h1) → Wp (d + 5) 211 75 [some (.ref a0), some (.ref a1), some (.int w2), some (.int a3), none, none] [] h1 Q) → Wp (d + 5) 211 18 [some (.ref a0), some (.ref a1), some (.int a2), some (.int a3), some (.int a4), none] [] h Q := by
  intro n
  induction n with
  | zero =>
    intro a0 a1 a2 a3 a4 h r H
    cases H
  | succ n ih =>
    intro a0 a1 a2 a3 a4 h r H KE
    unfold f_211_18 at H
    refine wp_iload xi_211 dX12_bestMove_18 rfl ?_
    refine wp_sipush 480 xi_211 dX12_bestMove_20 rfl ?_
    refine wp_icmp_ge 75 xi_211 dX12_bestMove_23 rfl (fun c1 => ?_) (fun c1 => ?_)
    · rw [if_pos c1] at H
      obtain rfl := Option.some.inj H
      exact Wp.more (by simp [xMore, Value.category]) (KE a2 h rfl)
    · rw [if_neg c1] at H
      refine wp_aload_n xi_211 dX12_bestMove_26 rfl ?_
      refine wp_aload_n xi_211 dX12_bestMove_27 rfl ?_
      refine wp_iload xi_211 dX12_bestMove_28 rfl ?_
      obtain ⟨u2, gu2, H⟩ := Option.bind_eq_some_iff.mp H
      obtain ⟨⟨x4, h3⟩, gh3, H⟩ := Option.bind_eq_some_iff.mp H
      dsimp only at H
      refine wq_callV (a := a0) (as := [.ref a1, .int a4]) (r := []) (v1 := (some (.int x4))) xi_211 xi_204 dX12_bestMove_30 xm_12_309 rfl (Nat.le_of_ble_eq_true rfl) (pG_ok gu2) ⟨(Nat.le_of_ble_eq_true rfl), (Nat.le_of_ble_eq_true rfl)⟩ rfl nofun (e_204 d _ gh3 ⟨rfl, rfl⟩) ?_
      change Wp _ _ _ _ [.int x4] _ _
      obtain ⟨⟨w13, h14⟩, G23, H⟩ := Option.bind_eq_some_iff.mp H
      dsimp only at H
      have K15 : Wp (d + 5) 211 69 [some (.ref a0), some (.ref a1), some (.int w13), some (.int a3), some (.int a4), none] [] h14 Q := by
        refine wp_iinc (a4 + 1) [some (.ref a0), some (.ref a1), some (.int w13), some (.int a3), some (.int (a4 + 1)), none] xi_211 dX12_bestMove_69 rfl rfl rfl ?_
        refine wp_goto 18 xi_211 dX12_bestMove_72 rfl ?_
        exact Wp.more (by simp [xMore, Value.category]) (ih a0 a1 w13 a3 (a4 + 1) h14 _ H KE)
      clear H
      have H := G23
      clear G23
      refine wp_if_eq 69 xi_211 dX12_bestMove_33 rfl (fun c5 => ?_) (fun c5 => ?_)
      · rw [if_pos c5] at H
        simp only [Option.some.injEq, Prod.mk.injEq] at H
        obtain ⟨rfl, rfl⟩ := H
        exact Wp.more (by simp [xMore, Value.category]) K15
      · rw [if_neg c5] at H
        refine wp_aload_n xi_211 dX12_bestMove_36 rfl ?_
        refine wp_aload_n xi_211 dX12_bestMove_37 rfl ?_
        refine wp_iload xi_211 dX12_bestMove_38 rfl ?_
        refine wp_iload_n xi_211 dX12_bestMove_40 rfl ?_
        obtain ⟨u16, gu16, H⟩ := Option.bind_eq_some_iff.mp H
        obtain ⟨⟨x18, h17⟩, gh17, H⟩ := Option.bind_eq_some_iff.mp H
        dsimp only at H
        refine wq_callV (a := a0) (as := [.ref a1, .int a4, .int a3]) (r := []) (v1 := (some (.int x18))) xi_211 xi_208 dX12_bestMove_41 xm_12_312 rfl (Nat.le_of_ble_eq_true rfl) (pG_ok gu16) ⟨(Nat.le_of_ble_eq_true rfl), (Nat.le_of_ble_eq_true rfl)⟩ rfl nofun (e_208 d _ gh17 ⟨rfl, rfl⟩) ?_
        change Wp _ _ _ _ [.int x18] _ _
        refine wp_istore [some (.ref a0), some (.ref a1), some (.int a2), some (.int a3), some (.int a4), some (.int x18)] xi_211 dX12_bestMove_44 rfl ?_
        refine wp_iload xi_211 dX12_bestMove_46 rfl ?_
        refine wp_aload_n xi_211 dX12_bestMove_48 rfl ?_
        obtain ⟨x19, gx19, H⟩ := Option.bind_eq_some_iff.mp H
        refine wq_getfi xi_211 dX12_bestMove_49 xf_12_316 gx19 ?_
        refine wp_icmp_ge 69 xi_211 dX12_bestMove_52 rfl (fun c20 => ?_) (fun c20 => ?_)
        · rw [if_pos c20] at H
          simp only [Option.some.injEq, Prod.mk.injEq] at H
          obtain ⟨rfl, rfl⟩ := H
          exact Wp.more (by simp [xMore, Value.category]) K15
        · rw [if_neg c20] at H
          refine wp_iload xi_211 dX12_bestMove_55 rfl ?_
          refine wp_istore_n [some (.ref a0), some (.ref a1), some (.int a4), some (.int a3), some (.int a4), some (.int x18)] xi_211 dX12_bestMove_57 rfl ?_
          refine wp_aload_n xi_211 dX12_bestMove_58 rfl ?_
          refine wp_iload xi_211 dX12_bestMove_59 rfl ?_
          obtain ⟨h21, gh21, H⟩ := Option.bind_eq_some_iff.mp H
          refine wq_putf xi_211 dX12_bestMove_61 xf_12_316 (Or.inl rfl) gh21 ?_
          refine wp_aload_n xi_211 dX12_bestMove_64 rfl ?_
          refine wp_iload_n xi_211 dX12_bestMove_65 rfl ?_
          obtain ⟨h22, gh22, H⟩ := Option.bind_eq_some_iff.mp H
          refine wq_putf xi_211 dX12_bestMove_66 xf_12_319 (Or.inl rfl) gh22 ?_
          simp only [Option.some.injEq, Prod.mk.injEq] at H
          obtain ⟨rfl, rfl⟩ := H
          exact Wp.more (by simp [xMore, Value.category]) K15
def f_211_10  : Nat → Nat → Nat → Int32 → Int32 → xH → Option (Int32 × xH)
  | 0, _, _, _, _, _ => none
  | n + 1, a0, a1, a2, a3, h =>
  (if (2 : Int32) ≤ a3 then
  some (a2, h)
  else
  (f_211_18 100000 a0 a1 a2 a3 0 h).bind fun (w3, h2) =>
  f_211_10 n a0 a1 w3 (a3 + 1) h2)
theorem ef_211_10 (d : Nat) (Q : Option Value → xH → Prop)  : ∀ (n : Nat) (a0 : Nat) (a1 : Nat) (a2 : Int32) (a3 : Int32) (h : xH) (r : Int32 × xH), f_211_10 n a0 a1 a2 a3 h = some r → (∀ (w2 : Int32) (h1 : xH), r = (w2, h1) → Wp (d + 5) 211 81 [none, none, some (.int w2), none, none, none] [] h1 Q) → Wp (d + 5) 211 10 [some (.ref a0), some (.ref a1), some (.int a2), some (.int a3), none, none] [] h Q := by
  intro n
  induction n with
  | zero =>
    intro a0 a1 a2 a3 h r H
    cases H
  | succ n ih =>
    intro a0 a1 a2 a3 h r H KE
    unfold f_211_10 at H
    refine wp_iload_n xi_211 dX12_bestMove_10 rfl ?_
    refine wp_iconst 2 xi_211 dX12_bestMove_11 rfl ?_
    refine wp_icmp_ge 81 xi_211 dX12_bestMove_12 rfl (fun c1 => ?_) (fun c1 => ?_)
    · rw [if_pos c1] at H
      obtain rfl := Option.some.inj H
      exact Wp.more (by simp [xMore, Value.category]) (KE a2 h rfl)
    · rw [if_neg c1] at H
      refine wp_iconst 0 xi_211 dX12_bestMove_15 rfl ?_
      refine wp_istore [some (.ref a0), some (.ref a1), some (.int a2), some (.int a3), some (.int 0), none] xi_211 dX12_bestMove_16 rfl ?_
      obtain ⟨⟨w3, h2⟩, G4, H⟩ := Option.bind_eq_some_iff.mp H
      dsimp only at H
      refine Wp.more (by simp [xMore, Value.category]) (ef_211_18 d Q  100000 a0 a1 a2 a3 0 h _ G4 (fun z0 z1 e9 => ?_))
      cases e9
      refine wp_iinc (a3 + 1) [some (.ref a0), some (.ref a1), some (.int w3), some (.int (a3 + 1)), none, none] xi_211 dX12_bestMove_75 rfl rfl rfl ?_
      refine wp_goto 10 xi_211 dX12_bestMove_78 rfl ?_
      exact Wp.more (by simp [xMore, Value.category]) (ih a0 a1 w3 (a3 + 1) h2 _ H KE)
def f_211  (a : Nat) (p0 : Nat) (h : xH) : Option (Int32 × xH) :=
  (pP h a 12 25 (.int 101)).bind fun h1 =>
  (f_211_10 100000 a p0 (-1) 0 h1).bind fun (w3, h2) =>
  some (w3, h2)
set_option maxHeartbeats 4000000 in
theorem e_211 (d : Nat) (Q : Option Value → xH → Prop)  {h : xH} {a : Nat} {p0 : Nat} {x : Int32} {h1 : xH} (H : f_211  a p0 h = some (x, h1)) (hq : Q (some (.int x)) h1) : Wp (d + 5) 211 0 [some (.ref a), some (.ref p0), none, none, none, none] [] h Q := by
  unfold f_211 at H
  refine wp_iconst (-1) xi_211 dX12_bestMove_0 rfl ?_
  refine wp_istore_n [some (.ref a), some (.ref p0), some (.int (-1)), none, none, none] xi_211 dX12_bestMove_1 rfl ?_
  refine wp_aload_n xi_211 dX12_bestMove_2 rfl ?_
  refine wp_bipush 101 xi_211 dX12_bestMove_3 rfl ?_
  obtain ⟨h1, gh1, H⟩ := Option.bind_eq_some_iff.mp H
  refine wq_putf xi_211 dX12_bestMove_5 xf_12_316 (Or.inl rfl) gh1 ?_
  refine wp_iconst 0 xi_211 dX12_bestMove_8 rfl ?_
  refine wp_istore_n [some (.ref a), some (.ref p0), some (.int (-1)), some (.int 0), none, none] xi_211 dX12_bestMove_9 rfl ?_
  obtain ⟨⟨w3, h2⟩, G4, H⟩ := Option.bind_eq_some_iff.mp H
  dsimp only at H
  refine Wp.more (by simp [xMore, Value.category]) (ef_211_10 d Q  100000 a p0 (-1) 0 h1 _ G4 (fun z0 z1 e9 => ?_))
  cases e9
  refine wp_iload_n xi_211 dX12_bestMove_81 rfl ?_
  obtain ⟨rfl, rfl⟩ := oi2 H
  exact wp_iret xi_211 dX12_bestMove_82 hq
