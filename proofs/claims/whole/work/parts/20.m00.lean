/- FelledHasLost$Balance.leastPlace(I)I -/
def f_1  (p0 : Int32) (h : xH) : Option (Int32 × xH) :=
  (pAi h (xKb + 0) (p0 &&& 7)).bind fun x1 =>
  some (x1, h)
set_option maxHeartbeats 4000000 in
theorem e_1 (d : Nat) (Q : Option Value → xH → Prop)  {h : xH} {p0 : Int32} {x : Int32} {h1 : xH} (H : f_1  p0 h = some (x, h1)) (hq : Q (some (.int x)) h1) : Wp (d + 0) 1 0 [some (.int p0)] [] h Q := by
  unfold f_1 at H
  refine wp_getst xi_1 dX0_leastPlace_0 xg_0_31 ?_
  refine wp_iload_n xi_1 dX0_leastPlace_3 rfl ?_
  refine wp_bipush 7 xi_1 dX0_leastPlace_4 rfl ?_
  refine wp_iand xi_1 dX0_leastPlace_6 ?_
  obtain ⟨x1, gx1, H⟩ := Option.bind_eq_some_iff.mp H
  refine wq_iaload xi_1 dX0_leastPlace_7 gx1 ?_
  obtain ⟨rfl, rfl⟩ := oi2 H
  exact wp_iret xi_1 dX0_leastPlace_8 hq
/- FelledHasLost$Balance.greatestPlace(I)I -/
def f_2  (p0 : Int32) (h : xH) : Option (Int32 × xH) :=
  (pAi h (xKb + 1) (p0 &&& 7)).bind fun x1 =>
  some (x1, h)
set_option maxHeartbeats 4000000 in
theorem e_2 (d : Nat) (Q : Option Value → xH → Prop)  {h : xH} {p0 : Int32} {x : Int32} {h1 : xH} (H : f_2  p0 h = some (x, h1)) (hq : Q (some (.int x)) h1) : Wp (d + 0) 2 0 [some (.int p0)] [] h Q := by
  unfold f_2 at H
  refine wp_getst xi_2 dX0_greatestPlace_0 xg_0_34 ?_
  refine wp_iload_n xi_2 dX0_greatestPlace_3 rfl ?_
  refine wp_bipush 7 xi_2 dX0_greatestPlace_4 rfl ?_
  refine wp_iand xi_2 dX0_greatestPlace_6 ?_
  obtain ⟨x1, gx1, H⟩ := Option.bind_eq_some_iff.mp H
  refine wq_iaload xi_2 dX0_greatestPlace_7 gx1 ?_
  obtain ⟨rfl, rfl⟩ := oi2 H
  exact wp_iret xi_2 dX0_greatestPlace_8 hq
/- FelledHasLost$Balance.marginOf(III)I -/
def f_4  (p0 : Int32) (p1 : Int32) (p2 : Int32) (h : xH) : Option (Int32 × xH) :=
  (pAi h (xKb + 0) (p0 &&& 7)).bind fun x1 =>
  (pAi h (xKb + 1) (p0 &&& 7)).bind fun x2 =>
  some ((pMin ((2 * p2) - ((10 * p1) * ((2 * (x1 - 1)) - 1))) (((10 * p1) * ((2 * (x2 - 1)) + 1)) - (2 * p2))), h)
set_option maxHeartbeats 4000000 in
theorem e_4 (d : Nat) (Q : Option Value → xH → Prop)  {h : xH} {p0 : Int32} {p1 : Int32} {p2 : Int32} {x : Int32} {h1 : xH} (H : f_4  p0 p1 p2 h = some (x, h1)) (hq : Q (some (.int x)) h1) : Wp (d + 0) 4 0 [some (.int p0), some (.int p1), some (.int p2), none, none] [] h Q := by
  unfold f_4 at H
  refine wp_bipush 10 xi_4 dX0_marginOf_0 rfl ?_
  refine wp_iload_n xi_4 dX0_marginOf_2 rfl ?_
  refine wp_imul xi_4 dX0_marginOf_3 ?_
  refine wp_iconst 2 xi_4 dX0_marginOf_4 rfl ?_
  refine wp_getst xi_4 dX0_marginOf_5 xg_0_31 ?_
  refine wp_iload_n xi_4 dX0_marginOf_8 rfl ?_
  refine wp_bipush 7 xi_4 dX0_marginOf_9 rfl ?_
  refine wp_iand xi_4 dX0_marginOf_11 ?_
  obtain ⟨x1, gx1, H⟩ := Option.bind_eq_some_iff.mp H
  refine wq_iaload xi_4 dX0_marginOf_12 gx1 ?_
  refine wp_iconst 1 xi_4 dX0_marginOf_13 rfl ?_
  refine wp_isub xi_4 dX0_marginOf_14 ?_
  refine wp_imul xi_4 dX0_marginOf_15 ?_
  refine wp_iconst 1 xi_4 dX0_marginOf_16 rfl ?_
  refine wp_isub xi_4 dX0_marginOf_17 ?_
  refine wp_imul xi_4 dX0_marginOf_18 ?_
  refine wp_istore_n [some (.int p0), some (.int p1), some (.int p2), some (.int ((10 * p1) * ((2 * (x1 - 1)) - 1))), none] xi_4 dX0_marginOf_19 rfl ?_
  refine wp_bipush 10 xi_4 dX0_marginOf_20 rfl ?_
  refine wp_iload_n xi_4 dX0_marginOf_22 rfl ?_
  refine wp_imul xi_4 dX0_marginOf_23 ?_
  refine wp_iconst 2 xi_4 dX0_marginOf_24 rfl ?_
  refine wp_getst xi_4 dX0_marginOf_25 xg_0_34 ?_
  refine wp_iload_n xi_4 dX0_marginOf_28 rfl ?_
  refine wp_bipush 7 xi_4 dX0_marginOf_29 rfl ?_
  refine wp_iand xi_4 dX0_marginOf_31 ?_
  obtain ⟨x2, gx2, H⟩ := Option.bind_eq_some_iff.mp H
  refine wq_iaload xi_4 dX0_marginOf_32 gx2 ?_
  refine wp_iconst 1 xi_4 dX0_marginOf_33 rfl ?_
  refine wp_isub xi_4 dX0_marginOf_34 ?_
  refine wp_imul xi_4 dX0_marginOf_35 ?_
  refine wp_iconst 1 xi_4 dX0_marginOf_36 rfl ?_
  refine wp_iadd xi_4 dX0_marginOf_37 ?_
  refine wp_imul xi_4 dX0_marginOf_38 ?_
  refine wp_istore [some (.int p0), some (.int p1), some (.int p2), some (.int ((10 * p1) * ((2 * (x1 - 1)) - 1))), some (.int ((10 * p1) * ((2 * (x2 - 1)) + 1)))] xi_4 dX0_marginOf_39 rfl ?_
  refine wp_iconst 2 xi_4 dX0_marginOf_41 rfl ?_
  refine wp_iload_n xi_4 dX0_marginOf_42 rfl ?_
  refine wp_imul xi_4 dX0_marginOf_43 ?_
  refine wp_iload_n xi_4 dX0_marginOf_44 rfl ?_
  refine wp_isub xi_4 dX0_marginOf_45 ?_
  refine wp_iload xi_4 dX0_marginOf_46 rfl ?_
  refine wp_iconst 2 xi_4 dX0_marginOf_48 rfl ?_
  refine wp_iload_n xi_4 dX0_marginOf_49 rfl ?_
  refine wp_imul xi_4 dX0_marginOf_50 ?_
  refine wp_isub xi_4 dX0_marginOf_51 ?_
  refine wq_min xi_4 dX0_marginOf_52 xm_0_65 (Nat.le_of_ble_eq_true rfl) ?_
  obtain ⟨rfl, rfl⟩ := oi2 H
  exact wp_iret xi_4 dX0_marginOf_55 hq
/- FelledHasLost$Balance.note(IZ)V -/
def f_5  (a : Nat) (p0 : Int32) (p1 : Int32) (h : xH) : Option (xH) :=
  (pFr h a 0 3).bind fun x1 =>
  (pAi h x1 p0).bind fun x2 =>
  ((if (0 : Int32) ≤ x2 then
  some (h)
  else
  (pP h a 0 4 (.int p0)).bind fun h10 =>
  (pFr h10 a 0 3).bind fun x11 =>
  (pAi h10 x11 p0).bind fun x12 =>
  (pP h10 a 0 5 (.int x12)).bind fun h13 =>
  some (h13) : Option (xH))).bind fun (h8 : xH) =>
  ((if p1 = 0 then
  (pFi h8 a 0 6).bind fun x31 =>
  (if x31 = (-1) then
  (pP h8 a 0 6 (.int p0)).bind fun h33 =>
  (pFr h33 a 0 3).bind fun x34 =>
  (pAi h33 x34 p0).bind fun x35 =>
  (pP h33 a 0 7 (.int x35)).bind fun h36 =>
  some (h36)
  else
  (pFr h8 a 0 3).bind fun x37 =>
  (pAi h8 x37 p0).bind fun x38 =>
  (pFi h8 a 0 7).bind fun x39 =>
  (if x39 < x38 then
  some (h8)
  else
  (pP h8 a 0 6 (.int p0)).bind fun h41 =>
  (pFr h41 a 0 3).bind fun x42 =>
  (pAi h41 x42 p0).bind fun x43 =>
  (pP h41 a 0 7 (.int x43)).bind fun h44 =>
  some (h44)))
  else
  some (h8) : Option (xH))).bind fun (h29 : xH) =>
  some h29
set_option maxHeartbeats 4000000 in
theorem e_5 (d : Nat) (Q : Option Value → xH → Prop)  {h : xH} {a : Nat} {p0 : Int32} {p1 : Int32} {h1 : xH} (H : f_5  a p0 p1 h = some h1) (hq : Q none h1) : Wp (d + 0) 5 0 [some (.ref a), some (.int p0), some (.int p1)] [] h Q := by
  unfold f_5 at H
  refine wp_aload_n xi_5 dX0_note_0 rfl ?_
  obtain ⟨x1, gx1, H⟩ := Option.bind_eq_some_iff.mp H
  refine wq_getfr xi_5 dX0_note_1 xf_0_21 gx1 ?_
  refine wp_iload_n xi_5 dX0_note_4 rfl ?_
  obtain ⟨x2, gx2, H⟩ := Option.bind_eq_some_iff.mp H
  refine wq_iaload xi_5 dX0_note_5 gx2 ?_
  obtain ⟨h8, G46, H⟩ := Option.bind_eq_some_iff.mp H
  have K9 : Wp (d + 0) 5 24 [some (.ref a), some (.int p0), some (.int p1)] [] h8 Q := by
    refine wp_iload_n xi_5 dX0_note_24 rfl ?_
    obtain ⟨h29, G45, H⟩ := Option.bind_eq_some_iff.mp H
    have K30 : Wp (d + 0) 5 64 [some (.ref a), some (.int p0), some (.int p1)] [] h29 Q := by
      obtain rfl := Option.some.inj H
      exact wp_vret xi_5 dX0_note_64 hq
    clear H
    have H := G45
    clear G45
    refine wp_if_ne 64 xi_5 dX0_note_25 rfl (fun c14 => ?_) (fun c14 => ?_)
    · rw [if_neg c14] at H
      obtain rfl := Option.some.inj H
      exact Wp.more (by simp [xMore, Value.category]) K30
    · rw [if_pos c14] at H
      refine wp_aload_n xi_5 dX0_note_28 rfl ?_
      obtain ⟨x31, gx31, H⟩ := Option.bind_eq_some_iff.mp H
      refine wq_getfi xi_5 dX0_note_29 xf_0_28 gx31 ?_
      refine wp_iconst (-1) xi_5 dX0_note_32 rfl ?_
      refine wp_icmp_eq 49 xi_5 dX0_note_33 rfl (fun c32 => ?_) (fun c32 => ?_)
      · rw [if_pos c32] at H
        refine wp_aload_n xi_5 dX0_note_49 rfl ?_
        refine wp_iload_n xi_5 dX0_note_50 rfl ?_
        obtain ⟨h33, gh33, H⟩ := Option.bind_eq_some_iff.mp H
        refine wq_putf xi_5 dX0_note_51 xf_0_28 (Or.inl rfl) gh33 ?_
        refine wp_aload_n xi_5 dX0_note_54 rfl ?_
        refine wp_aload_n xi_5 dX0_note_55 rfl ?_
        obtain ⟨x34, gx34, H⟩ := Option.bind_eq_some_iff.mp H
        refine wq_getfr xi_5 dX0_note_56 xf_0_21 gx34 ?_
        refine wp_iload_n xi_5 dX0_note_59 rfl ?_
        obtain ⟨x35, gx35, H⟩ := Option.bind_eq_some_iff.mp H
        refine wq_iaload xi_5 dX0_note_60 gx35 ?_
        obtain ⟨h36, gh36, H⟩ := Option.bind_eq_some_iff.mp H
        refine wq_putf xi_5 dX0_note_61 xf_0_40 (Or.inl rfl) gh36 ?_
        obtain rfl := Option.some.inj H
        exact Wp.more (by simp [xMore, Value.category]) K30
      · rw [if_neg c32] at H
        refine wp_aload_n xi_5 dX0_note_36 rfl ?_
        obtain ⟨x37, gx37, H⟩ := Option.bind_eq_some_iff.mp H
        refine wq_getfr xi_5 dX0_note_37 xf_0_21 gx37 ?_
        refine wp_iload_n xi_5 dX0_note_40 rfl ?_
        obtain ⟨x38, gx38, H⟩ := Option.bind_eq_some_iff.mp H
        refine wq_iaload xi_5 dX0_note_41 gx38 ?_
        refine wp_aload_n xi_5 dX0_note_42 rfl ?_
        obtain ⟨x39, gx39, H⟩ := Option.bind_eq_some_iff.mp H
        refine wq_getfi xi_5 dX0_note_43 xf_0_40 gx39 ?_
        refine wp_icmp_gt 64 xi_5 dX0_note_46 rfl (fun c40 => ?_) (fun c40 => ?_)
        · rw [if_pos c40] at H
          obtain rfl := Option.some.inj H
          exact Wp.more (by simp [xMore, Value.category]) K30
        · rw [if_neg c40] at H
          refine wp_aload_n xi_5 dX0_note_49 rfl ?_
          refine wp_iload_n xi_5 dX0_note_50 rfl ?_
          obtain ⟨h41, gh41, H⟩ := Option.bind_eq_some_iff.mp H
          refine wq_putf xi_5 dX0_note_51 xf_0_28 (Or.inl rfl) gh41 ?_
          refine wp_aload_n xi_5 dX0_note_54 rfl ?_
          refine wp_aload_n xi_5 dX0_note_55 rfl ?_
          obtain ⟨x42, gx42, H⟩ := Option.bind_eq_some_iff.mp H
          refine wq_getfr xi_5 dX0_note_56 xf_0_21 gx42 ?_
          refine wp_iload_n xi_5 dX0_note_59 rfl ?_
          obtain ⟨x43, gx43, H⟩ := Option.bind_eq_some_iff.mp H
          refine wq_iaload xi_5 dX0_note_60 gx43 ?_
          obtain ⟨h44, gh44, H⟩ := Option.bind_eq_some_iff.mp H
          refine wq_putf xi_5 dX0_note_61 xf_0_40 (Or.inl rfl) gh44 ?_
          obtain rfl := Option.some.inj H
          exact Wp.more (by simp [xMore, Value.category]) K30
  clear H
  have H := G46
  clear G46
  refine wp_if_ge 24 xi_5 dX0_note_6 rfl (fun c3 => ?_) (fun c3 => ?_)
  · rw [if_pos c3] at H
    obtain rfl := Option.some.inj H
    exact Wp.more (by simp [xMore, Value.category]) K9
  · rw [if_neg c3] at H
    refine wp_aload_n xi_5 dX0_note_9 rfl ?_
    refine wp_iload_n xi_5 dX0_note_10 rfl ?_
    obtain ⟨h10, gh10, H⟩ := Option.bind_eq_some_iff.mp H
    refine wq_putf xi_5 dX0_note_11 xf_0_24 (Or.inl rfl) gh10 ?_
    refine wp_aload_n xi_5 dX0_note_14 rfl ?_
    refine wp_aload_n xi_5 dX0_note_15 rfl ?_
    obtain ⟨x11, gx11, H⟩ := Option.bind_eq_some_iff.mp H
    refine wq_getfr xi_5 dX0_note_16 xf_0_21 gx11 ?_
    refine wp_iload_n xi_5 dX0_note_19 rfl ?_
    obtain ⟨x12, gx12, H⟩ := Option.bind_eq_some_iff.mp H
    refine wq_iaload xi_5 dX0_note_20 gx12 ?_
    obtain ⟨h13, gh13, H⟩ := Option.bind_eq_some_iff.mp H
    refine wq_putf xi_5 dX0_note_21 xf_0_37 (Or.inl rfl) gh13 ?_
    obtain rfl := Option.some.inj H
    exact Wp.more (by simp [xMore, Value.category]) K9
/- FelledHasLost$Games.noteOrigin(IIII)V -/
def f_21  (a : Nat) (p0 : Int32) (p1 : Int32) (p2 : Int32) (p3 : Int32) (h : xH) : Option (xH) :=
  (pFr h a 2 5).bind fun x1 =>
  (pSi h x1 p0 p1).bind fun h2 =>
  (pFr h2 a 2 6).bind fun x3 =>
  (pSi h2 x3 p0 p2).bind fun h4 =>
  (pFr h4 a 2 7).bind fun x5 =>
  ((if p1 = (-1) then
  some (0)
  else
  (pFr h4 a 2 7).bind fun x11 =>
  (pAi h4 x11 p1).bind fun x12 =>
  some ((x12 + 1)) : Option (Int32))).bind fun (w9 : Int32) =>
  (pSi h4 x5 p0 w9).bind fun h13 =>
  (pFr h13 a 2 8).bind fun x14 =>
  (pSi h13 x14 p0 p3).bind fun h15 =>
  some h15
set_option maxHeartbeats 4000000 in
theorem e_21 (d : Nat) (Q : Option Value → xH → Prop)  {h : xH} {a : Nat} {p0 : Int32} {p1 : Int32} {p2 : Int32} {p3 : Int32} {h1 : xH} (H : f_21  a p0 p1 p2 p3 h = some h1) (hq : Q none h1) : Wp (d + 0) 21 0 [some (.ref a), some (.int p0), some (.int p1), some (.int p2), some (.int p3)] [] h Q := by
  unfold f_21 at H
  refine wp_aload_n xi_21 dX2_noteOrigin_0 rfl ?_
  obtain ⟨x1, gx1, H⟩ := Option.bind_eq_some_iff.mp H
  refine wq_getfr xi_21 dX2_noteOrigin_1 xf_2_29 gx1 ?_
  refine wp_iload_n xi_21 dX2_noteOrigin_4 rfl ?_
  refine wp_iload_n xi_21 dX2_noteOrigin_5 rfl ?_
  obtain ⟨h2, gh2, H⟩ := Option.bind_eq_some_iff.mp H
  refine wq_iastore xi_21 dX2_noteOrigin_6 gh2 ?_
  refine wp_aload_n xi_21 dX2_noteOrigin_7 rfl ?_
  obtain ⟨x3, gx3, H⟩ := Option.bind_eq_some_iff.mp H
  refine wq_getfr xi_21 dX2_noteOrigin_8 xf_2_32 gx3 ?_
  refine wp_iload_n xi_21 dX2_noteOrigin_11 rfl ?_
  refine wp_iload_n xi_21 dX2_noteOrigin_12 rfl ?_
  obtain ⟨h4, gh4, H⟩ := Option.bind_eq_some_iff.mp H
  refine wq_iastore xi_21 dX2_noteOrigin_13 gh4 ?_
  refine wp_aload_n xi_21 dX2_noteOrigin_14 rfl ?_
  obtain ⟨x5, gx5, H⟩ := Option.bind_eq_some_iff.mp H
  refine wq_getfr xi_21 dX2_noteOrigin_15 xf_2_35 gx5 ?_
  refine wp_iload_n xi_21 dX2_noteOrigin_18 rfl ?_
  refine wp_iload_n xi_21 dX2_noteOrigin_19 rfl ?_
  refine wp_iconst (-1) xi_21 dX2_noteOrigin_20 rfl ?_
  obtain ⟨w9, G16, H⟩ := Option.bind_eq_some_iff.mp H
  have K10 : Wp (d + 0) 21 36 [some (.ref a), some (.int p0), some (.int p1), some (.int p2), some (.int p3)] [.int w9, .int p0, .ref x5] h4 Q := by
    obtain ⟨h13, gh13, H⟩ := Option.bind_eq_some_iff.mp H
    refine wq_iastore xi_21 dX2_noteOrigin_36 gh13 ?_
    refine wp_aload_n xi_21 dX2_noteOrigin_37 rfl ?_
    obtain ⟨x14, gx14, H⟩ := Option.bind_eq_some_iff.mp H
    refine wq_getfr xi_21 dX2_noteOrigin_38 xf_2_38 gx14 ?_
    refine wp_iload_n xi_21 dX2_noteOrigin_41 rfl ?_
    refine wp_iload xi_21 dX2_noteOrigin_42 rfl ?_
    obtain ⟨h15, gh15, H⟩ := Option.bind_eq_some_iff.mp H
    refine wq_iastore xi_21 dX2_noteOrigin_44 gh15 ?_
    obtain rfl := Option.some.inj H
    exact wp_vret xi_21 dX2_noteOrigin_45 hq
  clear H
  have H := G16
  clear G16
  refine wp_icmp_ne 28 xi_21 dX2_noteOrigin_21 rfl (fun c6 => ?_) (fun c6 => ?_)
  · rw [if_neg c6] at H
    refine wp_aload_n xi_21 dX2_noteOrigin_28 rfl ?_
    obtain ⟨x11, gx11, H⟩ := Option.bind_eq_some_iff.mp H
    refine wq_getfr xi_21 dX2_noteOrigin_29 xf_2_35 gx11 ?_
    refine wp_iload_n xi_21 dX2_noteOrigin_32 rfl ?_
    obtain ⟨x12, gx12, H⟩ := Option.bind_eq_some_iff.mp H
    refine wq_iaload xi_21 dX2_noteOrigin_33 gx12 ?_
    refine wp_iconst 1 xi_21 dX2_noteOrigin_34 rfl ?_
    refine wp_iadd xi_21 dX2_noteOrigin_35 ?_
    obtain rfl := Option.some.inj H
    exact Wp.more (by simp [xMore, Value.category]) K10
  · rw [if_pos c6] at H
    refine wp_iconst 0 xi_21 dX2_noteOrigin_24 rfl ?_
    refine wp_goto 36 xi_21 dX2_noteOrigin_25 rfl ?_
    obtain rfl := Option.some.inj H
    exact Wp.more (by simp [xMore, Value.category]) K10
/- FelledHasLost$Games.setInKey(II)V -/
def f_23  (a : Nat) (p0 : Int32) (p1 : Int32) (h : xH) : Option (xH) :=
  (pRem p0 16).bind fun x1 =>
  (pDiv p0 16).bind fun x2 =>
  (pFr h a 2 3).bind fun x3 =>
  (pFr h a 2 3).bind fun x4 =>
  (pAl h x4 x2).bind fun x5 =>
  (pSl h x3 x2 ((x5 &&& (((15 : Int64) <<< (((4 * x1) : Int32).toInt64 &&& 63)) ^^^ (-1 : Int64))) ||| ((((p1 + 1) : Int32).toInt64) <<< (((4 * x1) : Int32).toInt64 &&& 63)))).bind fun h6 =>
  some h6
set_option maxHeartbeats 4000000 in
theorem e_23 (d : Nat) (Q : Option Value → xH → Prop)  {h : xH} {a : Nat} {p0 : Int32} {p1 : Int32} {h1 : xH} (H : f_23  a p0 p1 h = some h1) (hq : Q none h1) : Wp (d + 0) 23 0 [some (.ref a), some (.int p0), some (.int p1), none, none] [] h Q := by
  unfold f_23 at H
  refine wp_iconst 4 xi_23 dX2_setInKey_0 rfl ?_
  refine wp_iload_n xi_23 dX2_setInKey_1 rfl ?_
  refine wp_bipush 16 xi_23 dX2_setInKey_2 rfl ?_
  obtain ⟨x1, gx1, H⟩ := Option.bind_eq_some_iff.mp H
  refine wq_irem xi_23 dX2_setInKey_4 gx1 ?_
  refine wp_imul xi_23 dX2_setInKey_5 ?_
  refine wp_istore_n [some (.ref a), some (.int p0), some (.int p1), some (.int (4 * x1)), none] xi_23 dX2_setInKey_6 rfl ?_
  refine wp_iload_n xi_23 dX2_setInKey_7 rfl ?_
  refine wp_bipush 16 xi_23 dX2_setInKey_8 rfl ?_
  obtain ⟨x2, gx2, H⟩ := Option.bind_eq_some_iff.mp H
  refine wq_idiv xi_23 dX2_setInKey_10 gx2 ?_
  refine wp_istore [some (.ref a), some (.int p0), some (.int p1), some (.int (4 * x1)), some (.int x2)] xi_23 dX2_setInKey_11 rfl ?_
  refine wp_aload_n xi_23 dX2_setInKey_13 rfl ?_
  obtain ⟨x3, gx3, H⟩ := Option.bind_eq_some_iff.mp H
  refine wq_getfr xi_23 dX2_setInKey_14 xf_2_22 gx3 ?_
  refine wp_iload xi_23 dX2_setInKey_17 rfl ?_
  refine wp_aload_n xi_23 dX2_setInKey_19 rfl ?_
  obtain ⟨x4, gx4, H⟩ := Option.bind_eq_some_iff.mp H
  refine wq_getfr xi_23 dX2_setInKey_20 xf_2_22 gx4 ?_
  refine wp_iload xi_23 dX2_setInKey_23 rfl ?_
  obtain ⟨x5, gx5, H⟩ := Option.bind_eq_some_iff.mp H
  refine wq_laload xi_23 dX2_setInKey_25 gx5 ?_
  refine wp_ldc2 xi_23 dX2_setInKey_26 xl_2_129 ?_
  refine wp_iload_n xi_23 dX2_setInKey_29 rfl ?_
  refine wp_lshl xi_23 dX2_setInKey_30 ?_
  refine wp_ldc2 xi_23 dX2_setInKey_31 xl_2_131 ?_
  refine wp_lxor xi_23 dX2_setInKey_34 ?_
  refine wp_land xi_23 dX2_setInKey_35 ?_
  refine wp_iload_n xi_23 dX2_setInKey_36 rfl ?_
  refine wp_iconst 1 xi_23 dX2_setInKey_37 rfl ?_
  refine wp_iadd xi_23 dX2_setInKey_38 ?_
  refine wp_i2l xi_23 dX2_setInKey_39 ?_
  refine wp_iload_n xi_23 dX2_setInKey_40 rfl ?_
  refine wp_lshl xi_23 dX2_setInKey_41 ?_
  refine wp_lor xi_23 dX2_setInKey_42 ?_
  obtain ⟨h6, gh6, H⟩ := Option.bind_eq_some_iff.mp H
  refine wq_lastore xi_23 dX2_setInKey_43 gh6 ?_
  obtain rfl := Option.some.inj H
  exact wp_vret xi_23 dX2_setInKey_44 hq
/- FelledHasLost$Games.thicknessIn(II)I -/
def f_24  (a : Nat) (p0 : Int32) (p1 : Int32) (h : xH) : Option (Int32 × xH) :=
  (pFr h a 2 2).bind fun x1 =>
  (pDiv p1 16).bind fun x2 =>
  (pAl h x1 ((3 * p0) + x2)).bind fun x3 =>
  (pRem p1 16).bind fun x4 =>
  some ((((((((x3 : Int64).toUInt64 >>> (((4 * x4) : Int32).toInt64.toUInt64 &&& Int64.toUInt64 63)).toInt64) &&& (15 : Int64)) : Int64).toInt32) - 1), h)
set_option maxHeartbeats 4000000 in
theorem e_24 (d : Nat) (Q : Option Value → xH → Prop)  {h : xH} {a : Nat} {p0 : Int32} {p1 : Int32} {x : Int32} {h1 : xH} (H : f_24  a p0 p1 h = some (x, h1)) (hq : Q (some (.int x)) h1) : Wp (d + 0) 24 0 [some (.ref a), some (.int p0), some (.int p1)] [] h Q := by
  unfold f_24 at H
  refine wp_aload_n xi_24 dX2_thicknessIn_0 rfl ?_
  obtain ⟨x1, gx1, H⟩ := Option.bind_eq_some_iff.mp H
  refine wq_getfr xi_24 dX2_thicknessIn_1 xf_2_18 gx1 ?_
  refine wp_iconst 3 xi_24 dX2_thicknessIn_4 rfl ?_
  refine wp_iload_n xi_24 dX2_thicknessIn_5 rfl ?_
  refine wp_imul xi_24 dX2_thicknessIn_6 ?_
  refine wp_iload_n xi_24 dX2_thicknessIn_7 rfl ?_
  refine wp_bipush 16 xi_24 dX2_thicknessIn_8 rfl ?_
  obtain ⟨x2, gx2, H⟩ := Option.bind_eq_some_iff.mp H
  refine wq_idiv xi_24 dX2_thicknessIn_10 gx2 ?_
  refine wp_iadd xi_24 dX2_thicknessIn_11 ?_
  obtain ⟨x3, gx3, H⟩ := Option.bind_eq_some_iff.mp H
  refine wq_laload xi_24 dX2_thicknessIn_12 gx3 ?_
  refine wp_iconst 4 xi_24 dX2_thicknessIn_13 rfl ?_
  refine wp_iload_n xi_24 dX2_thicknessIn_14 rfl ?_
  refine wp_bipush 16 xi_24 dX2_thicknessIn_15 rfl ?_
  obtain ⟨x4, gx4, H⟩ := Option.bind_eq_some_iff.mp H
  refine wq_irem xi_24 dX2_thicknessIn_17 gx4 ?_
  refine wp_imul xi_24 dX2_thicknessIn_18 ?_
  refine wp_lushr xi_24 dX2_thicknessIn_19 ?_
  refine wp_ldc2 xi_24 dX2_thicknessIn_20 xl_2_129 ?_
  refine wp_land xi_24 dX2_thicknessIn_23 ?_
  refine wp_l2i xi_24 dX2_thicknessIn_24 ?_
  refine wp_iconst 1 xi_24 dX2_thicknessIn_25 rfl ?_
  refine wp_isub xi_24 dX2_thicknessIn_26 ?_
  obtain ⟨rfl, rfl⟩ := oi2 H
  exact wp_iret xi_24 dX2_thicknessIn_27 hq
/- FelledHasLost$Games.slotOfKey()I -/
def f_27_4  : Nat → Nat → Int64 → Int32 → xH → Option (Int64 × xH)
  | 0, _, _, _, _ => none
  | n + 1, a0, a1, a3, h =>
  (if (3 : Int32) ≤ a3 then
  some (a1, h)
  else
  (pFr h a0 2 3).bind fun x2 =>
  (pAl h x2 a3).bind fun x3 =>
  f_27_4 n a0 (((a1 ^^^ x3) * (-7046029254386353131 : Int64)) ^^^ (((((a1 ^^^ x3) * (-7046029254386353131 : Int64)) : Int64).toUInt64 >>> ((29 : Int32).toInt64.toUInt64 &&& Int64.toUInt64 63)).toInt64)) (a3 + 1) h)
theorem ef_27_4 (d : Nat) (Q : Option Value → xH → Prop)  : ∀ (n : Nat) (a0 : Nat) (a1 : Int64) (a3 : Int32) (h : xH) (r : Int64 × xH), f_27_4 n a0 a1 a3 h = some r → (∀ (w1 : Int64) (h1 : xH), r = (w1, h1) → Wp (d + 0) 27 35 [none, some (.long w1), none, none] [] h1 Q) → Wp (d + 0) 27 4 [some (.ref a0), some (.long a1), none, some (.int a3)] [] h Q := by
  intro n
  induction n with
  | zero =>
    intro a0 a1 a3 h r H
    cases H
  | succ n ih =>
    intro a0 a1 a3 h r H KE
    unfold f_27_4 at H
    refine wp_iload_n xi_27 dX2_slotOfKey_4 rfl ?_
    refine wp_iconst 3 xi_27 dX2_slotOfKey_5 rfl ?_
    refine wp_icmp_ge 35 xi_27 dX2_slotOfKey_6 rfl (fun c1 => ?_) (fun c1 => ?_)
    · rw [if_pos c1] at H
      obtain rfl := Option.some.inj H
      exact Wp.more (by simp [xMore, Value.category]) (KE a1 h rfl)
    · rw [if_neg c1] at H
      refine wp_lload_n xi_27 dX2_slotOfKey_9 rfl ?_
      refine wp_aload_n xi_27 dX2_slotOfKey_10 rfl ?_
      obtain ⟨x2, gx2, H⟩ := Option.bind_eq_some_iff.mp H
      refine wq_getfr xi_27 dX2_slotOfKey_11 xf_2_22 gx2 ?_
      refine wp_iload_n xi_27 dX2_slotOfKey_14 rfl ?_
      obtain ⟨x3, gx3, H⟩ := Option.bind_eq_some_iff.mp H
      refine wq_laload xi_27 dX2_slotOfKey_15 gx3 ?_
      refine wp_lxor xi_27 dX2_slotOfKey_16 ?_
      refine wp_ldc2 xi_27 dX2_slotOfKey_17 xl_2_150 ?_
      refine wp_lmul xi_27 dX2_slotOfKey_20 ?_
      refine wp_lstore_n [some (.ref a0), some (.long ((a1 ^^^ x3) * (-7046029254386353131 : Int64))), none, some (.int a3)] xi_27 dX2_slotOfKey_21 rfl ?_
      refine wp_lload_n xi_27 dX2_slotOfKey_22 rfl ?_
      refine wp_lload_n xi_27 dX2_slotOfKey_23 rfl ?_
      refine wp_bipush 29 xi_27 dX2_slotOfKey_24 rfl ?_
      refine wp_lushr xi_27 dX2_slotOfKey_26 ?_
      refine wp_lxor xi_27 dX2_slotOfKey_27 ?_
      refine wp_lstore_n [some (.ref a0), some (.long (((a1 ^^^ x3) * (-7046029254386353131 : Int64)) ^^^ (((((a1 ^^^ x3) * (-7046029254386353131 : Int64)) : Int64).toUInt64 >>> ((29 : Int32).toInt64.toUInt64 &&& Int64.toUInt64 63)).toInt64))), none, some (.int a3)] xi_27 dX2_slotOfKey_28 rfl ?_
      refine wp_iinc (a3 + 1) [some (.ref a0), some (.long (((a1 ^^^ x3) * (-7046029254386353131 : Int64)) ^^^ (((((a1 ^^^ x3) * (-7046029254386353131 : Int64)) : Int64).toUInt64 >>> ((29 : Int32).toInt64.toUInt64 &&& Int64.toUInt64 63)).toInt64))), none, some (.int (a3 + 1))] xi_27 dX2_slotOfKey_29 rfl rfl rfl ?_
      refine wp_goto 4 xi_27 dX2_slotOfKey_32 rfl ?_
      exact Wp.more (by simp [xMore, Value.category]) (ih a0 (((a1 ^^^ x3) * (-7046029254386353131 : Int64)) ^^^ (((((a1 ^^^ x3) * (-7046029254386353131 : Int64)) : Int64).toUInt64 >>> ((29 : Int32).toInt64.toUInt64 &&& Int64.toUInt64 63)).toInt64)) (a3 + 1) h _ H KE)
def f_27  (a : Nat) (h : xH) : Option (Int32 × xH) :=
  (f_27_4 100000 a (0 : Int64) 0 h).bind fun (w2, h1) =>
  some ((((((w2 : Int64).toUInt64 >>> ((32 : Int32).toInt64.toUInt64 &&& Int64.toUInt64 63)).toInt64 : Int64).toInt32) &&& 1023), h1)
set_option maxHeartbeats 4000000 in
theorem e_27 (d : Nat) (Q : Option Value → xH → Prop)  {h : xH} {a : Nat} {x : Int32} {h1 : xH} (H : f_27  a h = some (x, h1)) (hq : Q (some (.int x)) h1) : Wp (d + 0) 27 0 [some (.ref a), none, none, none] [] h Q := by
  unfold f_27 at H
  refine wp_lconst 0 xi_27 dX2_slotOfKey_0 rfl ?_
  refine wp_lstore_n [some (.ref a), some (.long (0 : Int64)), none, none] xi_27 dX2_slotOfKey_1 rfl ?_
  refine wp_iconst 0 xi_27 dX2_slotOfKey_2 rfl ?_
  refine wp_istore_n [some (.ref a), some (.long (0 : Int64)), none, some (.int 0)] xi_27 dX2_slotOfKey_3 rfl ?_
  obtain ⟨⟨w2, h1⟩, G3, H⟩ := Option.bind_eq_some_iff.mp H
  dsimp only at H
  refine Wp.more (by simp [xMore, Value.category]) (ef_27_4 d Q  100000 a (0 : Int64) 0 h _ G3 (fun z0 z1 e9 => ?_))
  cases e9
  refine wp_lload_n xi_27 dX2_slotOfKey_35 rfl ?_
  refine wp_bipush 32 xi_27 dX2_slotOfKey_36 rfl ?_
  refine wp_lushr xi_27 dX2_slotOfKey_38 ?_
  refine wp_l2i xi_27 dX2_slotOfKey_39 ?_
  refine wp_sipush 1023 xi_27 dX2_slotOfKey_40 rfl ?_
  refine wp_iand xi_27 dX2_slotOfKey_43 ?_
  obtain ⟨rfl, rfl⟩ := oi2 H
  exact wp_iret xi_27 dX2_slotOfKey_44 hq
/- FelledHasLost$Games.hasKey(I)Z -/
def f_28_2  : Nat → Nat → Int32 → Int32 → xH → Option ((xH) ⊕ (Int32 × xH))
  | 0, _, _, _, _ => none
  | n + 1, a0, a1, a2, h =>
  (if (3 : Int32) ≤ a2 then
  some (.inl (h))
  else
  (pFr h a0 2 2).bind fun x2 =>
  (pAl h x2 ((3 * a1) + a2)).bind fun x3 =>
  (pFr h a0 2 3).bind fun x4 =>
  (pAl h x4 a2).bind fun x5 =>
  (if (lg_cmp x3 x5) = 0 then
  f_28_2 n a0 a1 (a2 + 1) h
  else
  (pZ 0 h).bind fun q7 => some (.inr q7)))
theorem ef_28_2 (d : Nat) (Q : Option Value → xH → Prop)  : ∀ (n : Nat) (a0 : Nat) (a1 : Int32) (a2 : Int32) (h : xH) (r : (xH) ⊕ (Int32 × xH)), f_28_2 n a0 a1 a2 h = some r → (∀  (h1 : xH), r = .inl h1 → Wp (d + 0) 28 35 [none, none, none] [] h1 Q) → (∀ (x : Int32) (h1 : xH), r = .inr (x, h1) → Q (some (.int x)) h1) → Wp (d + 0) 28 2 [some (.ref a0), some (.int a1), some (.int a2)] [] h Q := by
  intro n
  induction n with
  | zero =>
    intro a0 a1 a2 h r H
    cases H
  | succ n ih =>
    intro a0 a1 a2 h r H KE KR
    unfold f_28_2 at H
    refine wp_iload_n xi_28 dX2_hasKey_2 rfl ?_
    refine wp_iconst 3 xi_28 dX2_hasKey_3 rfl ?_
    refine wp_icmp_ge 35 xi_28 dX2_hasKey_4 rfl (fun c1 => ?_) (fun c1 => ?_)
    · rw [if_pos c1] at H
      obtain rfl := Option.some.inj H
      exact Wp.more (by simp [xMore, Value.category]) (KE  h rfl)
    · rw [if_neg c1] at H
      refine wp_aload_n xi_28 dX2_hasKey_7 rfl ?_
      obtain ⟨x2, gx2, H⟩ := Option.bind_eq_some_iff.mp H
      refine wq_getfr xi_28 dX2_hasKey_8 xf_2_18 gx2 ?_
      refine wp_iconst 3 xi_28 dX2_hasKey_11 rfl ?_
      refine wp_iload_n xi_28 dX2_hasKey_12 rfl ?_
      refine wp_imul xi_28 dX2_hasKey_13 ?_
      refine wp_iload_n xi_28 dX2_hasKey_14 rfl ?_
      refine wp_iadd xi_28 dX2_hasKey_15 ?_
      obtain ⟨x3, gx3, H⟩ := Option.bind_eq_some_iff.mp H
      refine wq_laload xi_28 dX2_hasKey_16 gx3 ?_
      refine wp_aload_n xi_28 dX2_hasKey_17 rfl ?_
      obtain ⟨x4, gx4, H⟩ := Option.bind_eq_some_iff.mp H
      refine wq_getfr xi_28 dX2_hasKey_18 xf_2_22 gx4 ?_
      refine wp_iload_n xi_28 dX2_hasKey_21 rfl ?_
      obtain ⟨x5, gx5, H⟩ := Option.bind_eq_some_iff.mp H
      refine wq_laload xi_28 dX2_hasKey_22 gx5 ?_
      refine wp_lcmp xi_28 dX2_hasKey_23 ?_
      refine wp_if_eq 29 xi_28 dX2_hasKey_24 rfl (fun c6 => ?_) (fun c6 => ?_)
      · rw [if_pos c6] at H
        refine wp_iinc (a2 + 1) [some (.ref a0), some (.int a1), some (.int (a2 + 1))] xi_28 dX2_hasKey_29 rfl rfl rfl ?_
        refine wp_goto 2 xi_28 dX2_hasKey_32 rfl ?_
        exact Wp.more (by simp [xMore, Value.category]) (ih a0 a1 (a2 + 1) h _ H KE KR)
      · rw [if_neg c6] at H
        refine wp_iconst 0 xi_28 dX2_hasKey_27 rfl ?_
        obtain ⟨q7, gq7, H⟩ := Option.bind_eq_some_iff.mp H
        obtain ⟨gz, rfl⟩ := pZ_ok gq7
        obtain rfl := Option.some.inj H
        exact wp_zret xi_28 dX2_hasKey_28 gz (KR _ _ rfl)
def f_28  (a : Nat) (p0 : Int32) (h : xH) : Option (Int32 × xH) :=
  (f_28_2 100000 a p0 0 h).bind fun r4 => match r4 with
  | .inl h1 =>
  pZ 1 h1
  | .inr (x5, h6) => some (x5, h6)
set_option maxHeartbeats 4000000 in
theorem e_28 (d : Nat) (Q : Option Value → xH → Prop)  {h : xH} {a : Nat} {p0 : Int32} {x : Int32} {h1 : xH} (H : f_28  a p0 h = some (x, h1)) (hq : Q (some (.int x)) h1) : Wp (d + 0) 28 0 [some (.ref a), some (.int p0), none] [] h Q := by
  unfold f_28 at H
  refine wp_iconst 0 xi_28 dX2_hasKey_0 rfl ?_
  refine wp_istore_n [some (.ref a), some (.int p0), some (.int 0)] xi_28 dX2_hasKey_1 rfl ?_
  obtain ⟨r4, G2, H⟩ := Option.bind_eq_some_iff.mp H
  refine Wp.more (by simp [xMore, Value.category]) (ef_28_2 d Q  100000 a p0 0 h _ G2 (fun z0 e9 => ?_) (fun x1 h1 e9 => ?_))
  · subst e9
    dsimp only at H
    obtain ⟨h1, rfl⟩ : ∃ z, z = z0 := ⟨_, rfl⟩
    refine wp_iconst 1 xi_28 dX2_hasKey_35 rfl ?_
    obtain ⟨gz, hz⟩ := pZ_ok H
    obtain ⟨rfl, rfl⟩ := Prod.mk.inj hz
    exact wp_zret xi_28 dX2_hasKey_36 gz hq
  · subst e9
    dsimp only at H
    obtain ⟨rfl, rfl⟩ := oi2 H
    exact hq
/- FelledHasLost$Games.targetOf(I)I -/
def f_29  (p0 : Int32) (h : xH) : Option (Int32 × xH) :=
  (pRem p0 1024).bind fun x1 =>
  some (x1, h)
set_option maxHeartbeats 4000000 in
theorem e_29 (d : Nat) (Q : Option Value → xH → Prop)  {h : xH} {p0 : Int32} {x : Int32} {h1 : xH} (H : f_29  p0 h = some (x, h1)) (hq : Q (some (.int x)) h1) : Wp (d + 0) 29 0 [some (.int p0)] [] h Q := by
  unfold f_29 at H
  refine wp_iload_n xi_29 dX2_targetOf_0 rfl ?_
  refine wp_sipush 1024 xi_29 dX2_targetOf_1 rfl ?_
  obtain ⟨x1, gx1, H⟩ := Option.bind_eq_some_iff.mp H
  refine wq_irem xi_29 dX2_targetOf_4 gx1 ?_
  obtain ⟨rfl, rfl⟩ := oi2 H
  exact wp_iret xi_29 dX2_targetOf_5 hq
/- FelledHasLost$Games.valueWins()V -/
def f_30_25  : Nat → Nat → Int32 → Int32 → xH → Option (xH)
  | 0, _, _, _, _ => none
  | n + 1, a0, a1, a2, h =>
  (pFr h a0 2 10).bind fun x1 =>
  (pAi h x1 (a1 + 1)).bind fun x2 =>
  (if x2 ≤ a2 then
  some (h)
  else
  (pFr h a0 2 9).bind fun x4 =>
  (pFr h a0 2 11).bind fun x5 =>
  (pAi h x5 a2).bind fun x6 =>
  (f_29 x6 h).bind fun (x8, h7) =>
  (pAi h7 x4 x8).bind fun x9 =>
  ((if x9 = 0 then
  (pFr h7 a0 2 9).bind fun x15 =>
  (pSi h7 x15 a1 1).bind fun h16 =>
  some (h16)
  else
  some (h7) : Option (xH))).bind fun (h13 : xH) =>
  f_30_25 n a0 a1 (a2 + 1) h13)
theorem ef_30_25 (d : Nat) (Q : Option Value → xH → Prop)  : ∀ (n : Nat) (a0 : Nat) (a1 : Int32) (a2 : Int32) (h : xH) (r : xH), f_30_25 n a0 a1 a2 h = some r → (∀  (h1 : xH), r = h1 → Wp (d + 1) 30 67 [some (.ref a0), some (.int a1), none] [] h1 Q) → Wp (d + 1) 30 25 [some (.ref a0), some (.int a1), some (.int a2)] [] h Q := by
  intro n
  induction n with
  | zero =>
    intro a0 a1 a2 h r H
    cases H
  | succ n ih =>
    intro a0 a1 a2 h r H KE
    unfold f_30_25 at H
    refine wp_iload_n xi_30 dX2_valueWins_25 rfl ?_
    refine wp_aload_n xi_30 dX2_valueWins_26 rfl ?_
    obtain ⟨x1, gx1, H⟩ := Option.bind_eq_some_iff.mp H
    refine wq_getfr xi_30 dX2_valueWins_27 xf_2_44 gx1 ?_
    refine wp_iload_n xi_30 dX2_valueWins_30 rfl ?_
    refine wp_iconst 1 xi_30 dX2_valueWins_31 rfl ?_
    refine wp_iadd xi_30 dX2_valueWins_32 ?_
    obtain ⟨x2, gx2, H⟩ := Option.bind_eq_some_iff.mp H
    refine wq_iaload xi_30 dX2_valueWins_33 gx2 ?_
    refine wp_icmp_ge 67 xi_30 dX2_valueWins_34 rfl (fun c3 => ?_) (fun c3 => ?_)
    · rw [if_pos c3] at H
      obtain rfl := Option.some.inj H
      exact Wp.more (by simp [xMore, Value.category]) (KE  h rfl)
    · rw [if_neg c3] at H
      refine wp_aload_n xi_30 dX2_valueWins_37 rfl ?_
      obtain ⟨x4, gx4, H⟩ := Option.bind_eq_some_iff.mp H
      refine wq_getfr xi_30 dX2_valueWins_38 xf_2_41 gx4 ?_
      refine wp_aload_n xi_30 dX2_valueWins_41 rfl ?_
      obtain ⟨x5, gx5, H⟩ := Option.bind_eq_some_iff.mp H
      refine wq_getfr xi_30 dX2_valueWins_42 xf_2_48 gx5 ?_
      refine wp_iload_n xi_30 dX2_valueWins_45 rfl ?_
      obtain ⟨x6, gx6, H⟩ := Option.bind_eq_some_iff.mp H
      refine wq_iaload xi_30 dX2_valueWins_46 gx6 ?_
      obtain ⟨⟨x8, h7⟩, gh7, H⟩ := Option.bind_eq_some_iff.mp H
      dsimp only at H
      refine wq_callS (as := [.int x6]) (r := [.ref x4]) (v1 := (some (.int x8))) xi_30 xi_29 dX2_valueWins_47 xm_2_152 rfl (Nat.le_of_ble_eq_true rfl) ⟨(Nat.le_of_ble_eq_true rfl), (Nat.le_of_ble_eq_true rfl)⟩ rfl nofun (e_29 d _ gh7 ⟨rfl, rfl⟩) ?_
      change Wp _ _ _ _ [.int x8, .ref x4] _ _
      obtain ⟨x9, gx9, H⟩ := Option.bind_eq_some_iff.mp H
      refine wq_iaload xi_30 dX2_valueWins_50 gx9 ?_
      obtain ⟨h13, G17, H⟩ := Option.bind_eq_some_iff.mp H
      have K14 : Wp (d + 1) 30 61 [some (.ref a0), some (.int a1), some (.int a2)] [] h13 Q := by
        refine wp_iinc (a2 + 1) [some (.ref a0), some (.int a1), some (.int (a2 + 1))] xi_30 dX2_valueWins_61 rfl rfl rfl ?_
        refine wp_goto 25 xi_30 dX2_valueWins_64 rfl ?_
        exact Wp.more (by simp [xMore, Value.category]) (ih a0 a1 (a2 + 1) h13 _ H KE)
      clear H
      have H := G17
      clear G17
      refine wp_if_ne 61 xi_30 dX2_valueWins_51 rfl (fun c10 => ?_) (fun c10 => ?_)
      · rw [if_neg c10] at H
        obtain rfl := Option.some.inj H
        exact Wp.more (by simp [xMore, Value.category]) K14
      · rw [if_pos c10] at H
        refine wp_aload_n xi_30 dX2_valueWins_54 rfl ?_
        obtain ⟨x15, gx15, H⟩ := Option.bind_eq_some_iff.mp H
        refine wq_getfr xi_30 dX2_valueWins_55 xf_2_41 gx15 ?_
        refine wp_iload_n xi_30 dX2_valueWins_58 rfl ?_
        refine wp_iconst 1 xi_30 dX2_valueWins_59 rfl ?_
        obtain ⟨h16, gh16, H⟩ := Option.bind_eq_some_iff.mp H
        refine wq_iastore xi_30 dX2_valueWins_60 gh16 ?_
        obtain rfl := Option.some.inj H
        exact Wp.more (by simp [xMore, Value.category]) K14
def f_30_7  : Nat → Nat → Int32 → xH → Option (xH)
  | 0, _, _, _ => none
  | n + 1, a0, a1, h =>
  (if a1 < 0 then
  some (h)
  else
  (pFr h a0 2 9).bind fun x2 =>
  (pSi h x2 a1 0).bind fun h3 =>
  (pFr h3 a0 2 10).bind fun x4 =>
  (pAi h3 x4 a1).bind fun x5 =>
  (f_30_25 100000 a0 a1 x5 h3).bind fun h6 =>
  f_30_7 n a0 (a1 + (-1)) h6)
theorem ef_30_7 (d : Nat) (Q : Option Value → xH → Prop)  : ∀ (n : Nat) (a0 : Nat) (a1 : Int32) (h : xH) (r : xH), f_30_7 n a0 a1 h = some r → (∀  (h1 : xH), r = h1 → Wp (d + 1) 30 73 [none, none, none] [] h1 Q) → Wp (d + 1) 30 7 [some (.ref a0), some (.int a1), none] [] h Q := by
  intro n
  induction n with
  | zero =>
    intro a0 a1 h r H
    cases H
  | succ n ih =>
    intro a0 a1 h r H KE
    unfold f_30_7 at H
    refine wp_iload_n xi_30 dX2_valueWins_7 rfl ?_
    refine wp_if_lt 73 xi_30 dX2_valueWins_8 rfl (fun c1 => ?_) (fun c1 => ?_)
    · rw [if_pos c1] at H
      obtain rfl := Option.some.inj H
      exact Wp.more (by simp [xMore, Value.category]) (KE  h rfl)
    · rw [if_neg c1] at H
      refine wp_aload_n xi_30 dX2_valueWins_11 rfl ?_
      obtain ⟨x2, gx2, H⟩ := Option.bind_eq_some_iff.mp H
      refine wq_getfr xi_30 dX2_valueWins_12 xf_2_41 gx2 ?_
      refine wp_iload_n xi_30 dX2_valueWins_15 rfl ?_
      refine wp_iconst 0 xi_30 dX2_valueWins_16 rfl ?_
      obtain ⟨h3, gh3, H⟩ := Option.bind_eq_some_iff.mp H
      refine wq_iastore xi_30 dX2_valueWins_17 gh3 ?_
      refine wp_aload_n xi_30 dX2_valueWins_18 rfl ?_
      obtain ⟨x4, gx4, H⟩ := Option.bind_eq_some_iff.mp H
      refine wq_getfr xi_30 dX2_valueWins_19 xf_2_44 gx4 ?_
      refine wp_iload_n xi_30 dX2_valueWins_22 rfl ?_
      obtain ⟨x5, gx5, H⟩ := Option.bind_eq_some_iff.mp H
      refine wq_iaload xi_30 dX2_valueWins_23 gx5 ?_
      refine wp_istore_n [some (.ref a0), some (.int a1), some (.int x5)] xi_30 dX2_valueWins_24 rfl ?_
      obtain ⟨h6, G7, H⟩ := Option.bind_eq_some_iff.mp H
      refine Wp.more (by simp [xMore, Value.category]) (ef_30_25 d Q  100000 a0 a1 x5 h3 _ G7 (fun z0 e9 => ?_))
      cases e9
      refine wp_iinc (a1 + (-1)) [some (.ref a0), some (.int (a1 + (-1))), none] xi_30 dX2_valueWins_67 rfl rfl rfl ?_
      refine wp_goto 7 xi_30 dX2_valueWins_70 rfl ?_
      exact Wp.more (by simp [xMore, Value.category]) (ih a0 (a1 + (-1)) h6 _ H KE)
def f_30  (a : Nat) (h : xH) : Option (xH) :=
  (pFi h a 2 14).bind fun x1 =>
  (f_30_7 100000 a (x1 - 1) h).bind fun h2 =>
  some h2
set_option maxHeartbeats 4000000 in
theorem e_30 (d : Nat) (Q : Option Value → xH → Prop)  {h : xH} {a : Nat} {h1 : xH} (H : f_30  a h = some h1) (hq : Q none h1) : Wp (d + 1) 30 0 [some (.ref a), none, none] [] h Q := by
  unfold f_30 at H
  refine wp_aload_n xi_30 dX2_valueWins_0 rfl ?_
  obtain ⟨x1, gx1, H⟩ := Option.bind_eq_some_iff.mp H
  refine wq_getfi xi_30 dX2_valueWins_1 xf_2_68 gx1 ?_
  refine wp_iconst 1 xi_30 dX2_valueWins_4 rfl ?_
  refine wp_isub xi_30 dX2_valueWins_5 ?_
  refine wp_istore_n [some (.ref a), some (.int (x1 - 1)), none] xi_30 dX2_valueWins_6 rfl ?_
  obtain ⟨h2, G3, H⟩ := Option.bind_eq_some_iff.mp H
  refine Wp.more (by simp [xMore, Value.category]) (ef_30_7 d Q  100000 a (x1 - 1) h _ G3 (fun z0 e9 => ?_))
  cases e9
  obtain rfl := Option.some.inj H
  exact wp_vret xi_30 dX2_valueWins_73 hq
/- FelledHasLost$Games.valueLengths(Z)V -/
def f_31_25  : Nat → Nat → Int32 → Int32 → Int32 → xH → Option (xH)
  | 0, _, _, _, _, _ => none
  | n + 1, a0, a1, a2, a3, h =>
  (pFr h a0 2 10).bind fun x1 =>
  (pAi h x1 (a2 + 1)).bind fun x2 =>
  (if x2 ≤ a3 then
  some (h)
  else
  (pFr h a0 2 9).bind fun x4 =>
  (pFr h a0 2 11).bind fun x5 =>
  (pAi h x5 a3).bind fun x6 =>
  (f_29 x6 h).bind fun (x8, h7) =>
  (pAi h7 x4 x8).bind fun x9 =>
  (pFr h7 a0 2 9).bind fun x10 =>
  (pAi h7 x10 a2).bind fun x11 =>
  ((if x11 = 0 then
  (pFr h7 a0 2 9).bind fun x28 =>
  (pSi h7 x28 a2 (x9 + 1)).bind fun h29 =>
  some (h29)
  else
  (if a1 = 0 then
  (pFr h7 a0 2 9).bind fun x31 =>
  (pAi h7 x31 a2).bind fun x32 =>
  (if x32 ≤ (x9 + 1) then
  some (h7)
  else
  (pFr h7 a0 2 9).bind fun x34 =>
  (pSi h7 x34 a2 (x9 + 1)).bind fun h35 =>
  some (h35))
  else
  (pFr h7 a0 2 9).bind fun x36 =>
  (pAi h7 x36 a2).bind fun x37 =>
  (if (x9 + 1) ≤ x37 then
  some (h7)
  else
  (pFr h7 a0 2 9).bind fun x39 =>
  (pSi h7 x39 a2 (x9 + 1)).bind fun h40 =>
  some (h40))) : Option (xH))).bind fun (h26 : xH) =>
  f_31_25 n a0 a1 a2 (a3 + 1) h26)
theorem ef_31_25 (d : Nat) (Q : Option Value → xH → Prop)  : ∀ (n : Nat) (a0 : Nat) (a1 : Int32) (a2 : Int32) (a3 : Int32) (h : xH) (r : xH), f_31_25 n a0 a1 a2 a3 h = some r → (∀  (h1 : xH), r = h1 → Wp (d + 1) 31 107 [some (.ref a0), some (.int a1), some (.int a2), none, none] [] h1 Q) → Wp (d + 1) 31 25 [some (.ref a0), some (.int a1), some (.int a2), some (.int a3), none] [] h Q := by
  intro n
  induction n with
  | zero =>
    intro a0 a1 a2 a3 h r H
    cases H
  | succ n ih =>
    intro a0 a1 a2 a3 h r H KE
    unfold f_31_25 at H
    refine wp_iload_n xi_31 dX2_valueLengths_25 rfl ?_
    refine wp_aload_n xi_31 dX2_valueLengths_26 rfl ?_
    obtain ⟨x1, gx1, H⟩ := Option.bind_eq_some_iff.mp H
    refine wq_getfr xi_31 dX2_valueLengths_27 xf_2_44 gx1 ?_
    refine wp_iload_n xi_31 dX2_valueLengths_30 rfl ?_
    refine wp_iconst 1 xi_31 dX2_valueLengths_31 rfl ?_
    refine wp_iadd xi_31 dX2_valueLengths_32 ?_
    obtain ⟨x2, gx2, H⟩ := Option.bind_eq_some_iff.mp H
    refine wq_iaload xi_31 dX2_valueLengths_33 gx2 ?_
    refine wp_icmp_ge 107 xi_31 dX2_valueLengths_34 rfl (fun c3 => ?_) (fun c3 => ?_)
    · rw [if_pos c3] at H
      obtain rfl := Option.some.inj H
      exact Wp.more (by simp [xMore, Value.category]) (KE  h rfl)
    · rw [if_neg c3] at H
      refine wp_aload_n xi_31 dX2_valueLengths_37 rfl ?_
      obtain ⟨x4, gx4, H⟩ := Option.bind_eq_some_iff.mp H
      refine wq_getfr xi_31 dX2_valueLengths_38 xf_2_41 gx4 ?_
      refine wp_aload_n xi_31 dX2_valueLengths_41 rfl ?_
      obtain ⟨x5, gx5, H⟩ := Option.bind_eq_some_iff.mp H
      refine wq_getfr xi_31 dX2_valueLengths_42 xf_2_48 gx5 ?_
      refine wp_iload_n xi_31 dX2_valueLengths_45 rfl ?_
      obtain ⟨x6, gx6, H⟩ := Option.bind_eq_some_iff.mp H
      refine wq_iaload xi_31 dX2_valueLengths_46 gx6 ?_
      obtain ⟨⟨x8, h7⟩, gh7, H⟩ := Option.bind_eq_some_iff.mp H
      dsimp only at H
      refine wq_callS (as := [.int x6]) (r := [.ref x4]) (v1 := (some (.int x8))) xi_31 xi_29 dX2_valueLengths_47 xm_2_152 rfl (Nat.le_of_ble_eq_true rfl) ⟨(Nat.le_of_ble_eq_true rfl), (Nat.le_of_ble_eq_true rfl)⟩ rfl nofun (e_29 d _ gh7 ⟨rfl, rfl⟩) ?_
      change Wp _ _ _ _ [.int x8, .ref x4] _ _
      obtain ⟨x9, gx9, H⟩ := Option.bind_eq_some_iff.mp H
      refine wq_iaload xi_31 dX2_valueLengths_50 gx9 ?_
      refine wp_iconst 1 xi_31 dX2_valueLengths_51 rfl ?_
      refine wp_iadd xi_31 dX2_valueLengths_52 ?_
      refine wp_istore [some (.ref a0), some (.int a1), some (.int a2), some (.int a3), some (.int (x9 + 1))] xi_31 dX2_valueLengths_53 rfl ?_
      refine wp_aload_n xi_31 dX2_valueLengths_55 rfl ?_
      obtain ⟨x10, gx10, H⟩ := Option.bind_eq_some_iff.mp H
      refine wq_getfr xi_31 dX2_valueLengths_56 xf_2_41 gx10 ?_
      refine wp_iload_n xi_31 dX2_valueLengths_59 rfl ?_
      obtain ⟨x11, gx11, H⟩ := Option.bind_eq_some_iff.mp H
      refine wq_iaload xi_31 dX2_valueLengths_60 gx11 ?_
      obtain ⟨h26, G41, H⟩ := Option.bind_eq_some_iff.mp H
      have K27 : Wp (d + 1) 31 101 [some (.ref a0), some (.int a1), some (.int a2), some (.int a3), some (.int (x9 + 1))] [] h26 Q := by
        refine wp_iinc (a3 + 1) [some (.ref a0), some (.int a1), some (.int a2), some (.int (a3 + 1)), some (.int (x9 + 1))] xi_31 dX2_valueLengths_101 rfl rfl rfl ?_
        refine wp_goto 25 xi_31 dX2_valueLengths_104 rfl ?_
        exact Wp.more (by simp [xMore, Value.category]) (ih a0 a1 a2 (a3 + 1) h26 _ H KE)
      clear H
      have H := G41
      clear G41
      refine wp_if_eq 93 xi_31 dX2_valueLengths_61 rfl (fun c12 => ?_) (fun c12 => ?_)
      · rw [if_pos c12] at H
        refine wp_aload_n xi_31 dX2_valueLengths_93 rfl ?_
        obtain ⟨x28, gx28, H⟩ := Option.bind_eq_some_iff.mp H
        refine wq_getfr xi_31 dX2_valueLengths_94 xf_2_41 gx28 ?_
        refine wp_iload_n xi_31 dX2_valueLengths_97 rfl ?_
        refine wp_iload xi_31 dX2_valueLengths_98 rfl ?_
        obtain ⟨h29, gh29, H⟩ := Option.bind_eq_some_iff.mp H
        refine wq_iastore xi_31 dX2_valueLengths_100 gh29 ?_
        obtain rfl := Option.some.inj H
        exact Wp.more (by simp [xMore, Value.category]) K27
      · rw [if_neg c12] at H
        refine wp_iload_n xi_31 dX2_valueLengths_64 rfl ?_
        refine wp_if_eq 82 xi_31 dX2_valueLengths_65 rfl (fun c30 => ?_) (fun c30 => ?_)
        · rw [if_pos c30] at H
          refine wp_iload xi_31 dX2_valueLengths_82 rfl ?_
          refine wp_aload_n xi_31 dX2_valueLengths_84 rfl ?_
          obtain ⟨x31, gx31, H⟩ := Option.bind_eq_some_iff.mp H
          refine wq_getfr xi_31 dX2_valueLengths_85 xf_2_41 gx31 ?_
          refine wp_iload_n xi_31 dX2_valueLengths_88 rfl ?_
          obtain ⟨x32, gx32, H⟩ := Option.bind_eq_some_iff.mp H
          refine wq_iaload xi_31 dX2_valueLengths_89 gx32 ?_
          refine wp_icmp_ge 101 xi_31 dX2_valueLengths_90 rfl (fun c33 => ?_) (fun c33 => ?_)
          · rw [if_pos c33] at H
            obtain rfl := Option.some.inj H
            exact Wp.more (by simp [xMore, Value.category]) K27
          · rw [if_neg c33] at H
            refine wp_aload_n xi_31 dX2_valueLengths_93 rfl ?_
            obtain ⟨x34, gx34, H⟩ := Option.bind_eq_some_iff.mp H
            refine wq_getfr xi_31 dX2_valueLengths_94 xf_2_41 gx34 ?_
            refine wp_iload_n xi_31 dX2_valueLengths_97 rfl ?_
            refine wp_iload xi_31 dX2_valueLengths_98 rfl ?_
            obtain ⟨h35, gh35, H⟩ := Option.bind_eq_some_iff.mp H
            refine wq_iastore xi_31 dX2_valueLengths_100 gh35 ?_
            obtain rfl := Option.some.inj H
            exact Wp.more (by simp [xMore, Value.category]) K27
        · rw [if_neg c30] at H
          refine wp_iload xi_31 dX2_valueLengths_68 rfl ?_
          refine wp_aload_n xi_31 dX2_valueLengths_70 rfl ?_
          obtain ⟨x36, gx36, H⟩ := Option.bind_eq_some_iff.mp H
          refine wq_getfr xi_31 dX2_valueLengths_71 xf_2_41 gx36 ?_
          refine wp_iload_n xi_31 dX2_valueLengths_74 rfl ?_
          obtain ⟨x37, gx37, H⟩ := Option.bind_eq_some_iff.mp H
          refine wq_iaload xi_31 dX2_valueLengths_75 gx37 ?_
          refine wp_icmp_le 101 xi_31 dX2_valueLengths_76 rfl (fun c38 => ?_) (fun c38 => ?_)
          · rw [if_pos c38] at H
            obtain rfl := Option.some.inj H
            exact Wp.more (by simp [xMore, Value.category]) K27
          · rw [if_neg c38] at H
            refine wp_goto 93 xi_31 dX2_valueLengths_79 rfl ?_
            refine wp_aload_n xi_31 dX2_valueLengths_93 rfl ?_
            obtain ⟨x39, gx39, H⟩ := Option.bind_eq_some_iff.mp H
            refine wq_getfr xi_31 dX2_valueLengths_94 xf_2_41 gx39 ?_
            refine wp_iload_n xi_31 dX2_valueLengths_97 rfl ?_
            refine wp_iload xi_31 dX2_valueLengths_98 rfl ?_
            obtain ⟨h40, gh40, H⟩ := Option.bind_eq_some_iff.mp H
            refine wq_iastore xi_31 dX2_valueLengths_100 gh40 ?_
            obtain rfl := Option.some.inj H
            exact Wp.more (by simp [xMore, Value.category]) K27
def f_31_7  : Nat → Nat → Int32 → Int32 → xH → Option (xH)
  | 0, _, _, _, _ => none
  | n + 1, a0, a1, a2, h =>
  (if a2 < 0 then
  some (h)
  else
  (pFr h a0 2 9).bind fun x2 =>
  (pSi h x2 a2 0).bind fun h3 =>
  (pFr h3 a0 2 10).bind fun x4 =>
  (pAi h3 x4 a2).bind fun x5 =>
  (f_31_25 100000 a0 a1 a2 x5 h3).bind fun h6 =>
  f_31_7 n a0 a1 (a2 + (-1)) h6)
theorem ef_31_7 (d : Nat) (Q : Option Value → xH → Prop)  : ∀ (n : Nat) (a0 : Nat) (a1 : Int32) (a2 : Int32) (h : xH) (r : xH), f_31_7 n a0 a1 a2 h = some r → (∀  (h1 : xH), r = h1 → Wp (d + 1) 31 113 [none, none, none, none, none] [] h1 Q) → Wp (d + 1) 31 7 [some (.ref a0), some (.int a1), some (.int a2), none, none] [] h Q := by
  intro n
  induction n with
  | zero =>
    intro a0 a1 a2 h r H
    cases H
  | succ n ih =>
    intro a0 a1 a2 h r H KE
    unfold f_31_7 at H
    refine wp_iload_n xi_31 dX2_valueLengths_7 rfl ?_
    refine wp_if_lt 113 xi_31 dX2_valueLengths_8 rfl (fun c1 => ?_) (fun c1 => ?_)
    · rw [if_pos c1] at H
      obtain rfl := Option.some.inj H
      exact Wp.more (by simp [xMore, Value.category]) (KE  h rfl)
    · rw [if_neg c1] at H
      refine wp_aload_n xi_31 dX2_valueLengths_11 rfl ?_
      obtain ⟨x2, gx2, H⟩ := Option.bind_eq_some_iff.mp H
      refine wq_getfr xi_31 dX2_valueLengths_12 xf_2_41 gx2 ?_
      refine wp_iload_n xi_31 dX2_valueLengths_15 rfl ?_
      refine wp_iconst 0 xi_31 dX2_valueLengths_16 rfl ?_
      obtain ⟨h3, gh3, H⟩ := Option.bind_eq_some_iff.mp H
      refine wq_iastore xi_31 dX2_valueLengths_17 gh3 ?_
      refine wp_aload_n xi_31 dX2_valueLengths_18 rfl ?_
      obtain ⟨x4, gx4, H⟩ := Option.bind_eq_some_iff.mp H
      refine wq_getfr xi_31 dX2_valueLengths_19 xf_2_44 gx4 ?_
      refine wp_iload_n xi_31 dX2_valueLengths_22 rfl ?_
      obtain ⟨x5, gx5, H⟩ := Option.bind_eq_some_iff.mp H
      refine wq_iaload xi_31 dX2_valueLengths_23 gx5 ?_
      refine wp_istore_n [some (.ref a0), some (.int a1), some (.int a2), some (.int x5), none] xi_31 dX2_valueLengths_24 rfl ?_
      obtain ⟨h6, G7, H⟩ := Option.bind_eq_some_iff.mp H
      refine Wp.more (by simp [xMore, Value.category]) (ef_31_25 d Q  100000 a0 a1 a2 x5 h3 _ G7 (fun z0 e9 => ?_))
      cases e9
      refine wp_iinc (a2 + (-1)) [some (.ref a0), some (.int a1), some (.int (a2 + (-1))), none, none] xi_31 dX2_valueLengths_107 rfl rfl rfl ?_
      refine wp_goto 7 xi_31 dX2_valueLengths_110 rfl ?_
      exact Wp.more (by simp [xMore, Value.category]) (ih a0 a1 (a2 + (-1)) h6 _ H KE)
def f_31  (a : Nat) (p0 : Int32) (h : xH) : Option (xH) :=
  (pFi h a 2 14).bind fun x1 =>
  (f_31_7 100000 a p0 (x1 - 1) h).bind fun h2 =>
  some h2
set_option maxHeartbeats 4000000 in
theorem e_31 (d : Nat) (Q : Option Value → xH → Prop)  {h : xH} {a : Nat} {p0 : Int32} {h1 : xH} (H : f_31  a p0 h = some h1) (hq : Q none h1) : Wp (d + 1) 31 0 [some (.ref a), some (.int p0), none, none, none] [] h Q := by
  unfold f_31 at H
  refine wp_aload_n xi_31 dX2_valueLengths_0 rfl ?_
  obtain ⟨x1, gx1, H⟩ := Option.bind_eq_some_iff.mp H
  refine wq_getfi xi_31 dX2_valueLengths_1 xf_2_68 gx1 ?_
  refine wp_iconst 1 xi_31 dX2_valueLengths_4 rfl ?_
  refine wp_isub xi_31 dX2_valueLengths_5 ?_
  refine wp_istore_n [some (.ref a), some (.int p0), some (.int (x1 - 1)), none, none] xi_31 dX2_valueLengths_6 rfl ?_
  obtain ⟨h2, G3, H⟩ := Option.bind_eq_some_iff.mp H
  refine Wp.more (by simp [xMore, Value.category]) (ef_31_7 d Q  100000 a p0 (x1 - 1) h _ G3 (fun z0 e9 => ?_))
  cases e9
  obtain rfl := Option.some.inj H
  exact wp_vret xi_31 dX2_valueLengths_113 hq
/- FelledHasLost$Games.leastEdgeTo(II)I -/
def f_32_7  : Nat → Nat → Int32 → Int32 → Int32 → xH → Option ((xH) ⊕ (Int32 × xH))
  | 0, _, _, _, _, _ => none
  | n + 1, a0, a1, a2, a3, h =>
  (pFr h a0 2 10).bind fun x1 =>
  (pAi h x1 (a1 + 1)).bind fun x2 =>
  (if x2 ≤ a3 then
  some (.inl (h))
  else
  (pFr h a0 2 9).bind fun x4 =>
  (pFr h a0 2 11).bind fun x5 =>
  (pAi h x5 a3).bind fun x6 =>
  (f_29 x6 h).bind fun (x8, h7) =>
  (pAi h7 x4 x8).bind fun x9 =>
  (if x9 = a2 then
  (pFr h7 a0 2 11).bind fun x11 =>
  (pAi h7 x11 a3).bind fun x12 =>
  some (.inr (x12, h7))
  else
  f_32_7 n a0 a1 a2 (a3 + 1) h7))
theorem ef_32_7 (d : Nat) (Q : Option Value → xH → Prop)  : ∀ (n : Nat) (a0 : Nat) (a1 : Int32) (a2 : Int32) (a3 : Int32) (h : xH) (r : (xH) ⊕ (Int32 × xH)), f_32_7 n a0 a1 a2 a3 h = some r → (∀  (h1 : xH), r = .inl h1 → Wp (d + 1) 32 50 [none, none, none, none] [] h1 Q) → (∀ (x : Int32) (h1 : xH), r = .inr (x, h1) → Q (some (.int x)) h1) → Wp (d + 1) 32 7 [some (.ref a0), some (.int a1), some (.int a2), some (.int a3)] [] h Q := by
  intro n
  induction n with
  | zero =>
    intro a0 a1 a2 a3 h r H
    cases H
  | succ n ih =>
    intro a0 a1 a2 a3 h r H KE KR
    unfold f_32_7 at H
    refine wp_iload_n xi_32 dX2_leastEdgeTo_7 rfl ?_
    refine wp_aload_n xi_32 dX2_leastEdgeTo_8 rfl ?_
    obtain ⟨x1, gx1, H⟩ := Option.bind_eq_some_iff.mp H
    refine wq_getfr xi_32 dX2_leastEdgeTo_9 xf_2_44 gx1 ?_
    refine wp_iload_n xi_32 dX2_leastEdgeTo_12 rfl ?_
    refine wp_iconst 1 xi_32 dX2_leastEdgeTo_13 rfl ?_
    refine wp_iadd xi_32 dX2_leastEdgeTo_14 ?_
    obtain ⟨x2, gx2, H⟩ := Option.bind_eq_some_iff.mp H
    refine wq_iaload xi_32 dX2_leastEdgeTo_15 gx2 ?_
    refine wp_icmp_ge 50 xi_32 dX2_leastEdgeTo_16 rfl (fun c3 => ?_) (fun c3 => ?_)
    · rw [if_pos c3] at H
      obtain rfl := Option.some.inj H
      exact Wp.more (by simp [xMore, Value.category]) (KE  h rfl)
    · rw [if_neg c3] at H
      refine wp_aload_n xi_32 dX2_leastEdgeTo_19 rfl ?_
      obtain ⟨x4, gx4, H⟩ := Option.bind_eq_some_iff.mp H
      refine wq_getfr xi_32 dX2_leastEdgeTo_20 xf_2_41 gx4 ?_
      refine wp_aload_n xi_32 dX2_leastEdgeTo_23 rfl ?_
      obtain ⟨x5, gx5, H⟩ := Option.bind_eq_some_iff.mp H
      refine wq_getfr xi_32 dX2_leastEdgeTo_24 xf_2_48 gx5 ?_
      refine wp_iload_n xi_32 dX2_leastEdgeTo_27 rfl ?_
      obtain ⟨x6, gx6, H⟩ := Option.bind_eq_some_iff.mp H
      refine wq_iaload xi_32 dX2_leastEdgeTo_28 gx6 ?_
      obtain ⟨⟨x8, h7⟩, gh7, H⟩ := Option.bind_eq_some_iff.mp H
      dsimp only at H
      refine wq_callS (as := [.int x6]) (r := [.ref x4]) (v1 := (some (.int x8))) xi_32 xi_29 dX2_leastEdgeTo_29 xm_2_152 rfl (Nat.le_of_ble_eq_true rfl) ⟨(Nat.le_of_ble_eq_true rfl), (Nat.le_of_ble_eq_true rfl)⟩ rfl nofun (e_29 d _ gh7 ⟨rfl, rfl⟩) ?_
      change Wp _ _ _ _ [.int x8, .ref x4] _ _
      obtain ⟨x9, gx9, H⟩ := Option.bind_eq_some_iff.mp H
      refine wq_iaload xi_32 dX2_leastEdgeTo_32 gx9 ?_
      refine wp_iload_n xi_32 dX2_leastEdgeTo_33 rfl ?_
      refine wp_icmp_ne 44 xi_32 dX2_leastEdgeTo_34 rfl (fun c10 => ?_) (fun c10 => ?_)
      · rw [if_neg c10] at H
        refine wp_iinc (a3 + 1) [some (.ref a0), some (.int a1), some (.int a2), some (.int (a3 + 1))] xi_32 dX2_leastEdgeTo_44 rfl rfl rfl ?_
        refine wp_goto 7 xi_32 dX2_leastEdgeTo_47 rfl ?_
        exact Wp.more (by simp [xMore, Value.category]) (ih a0 a1 a2 (a3 + 1) h7 _ H KE KR)
      · rw [if_pos c10] at H
        refine wp_aload_n xi_32 dX2_leastEdgeTo_37 rfl ?_
        obtain ⟨x11, gx11, H⟩ := Option.bind_eq_some_iff.mp H
        refine wq_getfr xi_32 dX2_leastEdgeTo_38 xf_2_48 gx11 ?_
        refine wp_iload_n xi_32 dX2_leastEdgeTo_41 rfl ?_
        obtain ⟨x12, gx12, H⟩ := Option.bind_eq_some_iff.mp H
        refine wq_iaload xi_32 dX2_leastEdgeTo_42 gx12 ?_
        obtain rfl := Option.some.inj H
        exact wp_iret xi_32 dX2_leastEdgeTo_43 (KR _ _ rfl)
def f_32  (a : Nat) (p0 : Int32) (p1 : Int32) (h : xH) : Option (Int32 × xH) :=
  (pFr h a 2 10).bind fun x1 =>
  (pAi h x1 p0).bind fun x2 =>
  (f_32_7 100000 a p0 p1 x2 h).bind fun r6 => match r6 with
  | .inl h3 =>
  some ((-1), h3)
  | .inr (x7, h8) => some (x7, h8)
set_option maxHeartbeats 4000000 in
theorem e_32 (d : Nat) (Q : Option Value → xH → Prop)  {h : xH} {a : Nat} {p0 : Int32} {p1 : Int32} {x : Int32} {h1 : xH} (H : f_32  a p0 p1 h = some (x, h1)) (hq : Q (some (.int x)) h1) : Wp (d + 1) 32 0 [some (.ref a), some (.int p0), some (.int p1), none] [] h Q := by
  unfold f_32 at H
  refine wp_aload_n xi_32 dX2_leastEdgeTo_0 rfl ?_
  obtain ⟨x1, gx1, H⟩ := Option.bind_eq_some_iff.mp H
  refine wq_getfr xi_32 dX2_leastEdgeTo_1 xf_2_44 gx1 ?_
  refine wp_iload_n xi_32 dX2_leastEdgeTo_4 rfl ?_
  obtain ⟨x2, gx2, H⟩ := Option.bind_eq_some_iff.mp H
  refine wq_iaload xi_32 dX2_leastEdgeTo_5 gx2 ?_
  refine wp_istore_n [some (.ref a), some (.int p0), some (.int p1), some (.int x2)] xi_32 dX2_leastEdgeTo_6 rfl ?_
  obtain ⟨r6, G4, H⟩ := Option.bind_eq_some_iff.mp H
  refine Wp.more (by simp [xMore, Value.category]) (ef_32_7 d Q  100000 a p0 p1 x2 h _ G4 (fun z0 e9 => ?_) (fun x1 h1 e9 => ?_))
  · subst e9
    dsimp only at H
    obtain ⟨h3, rfl⟩ : ∃ z, z = z0 := ⟨_, rfl⟩
    refine wp_iconst (-1) xi_32 dX2_leastEdgeTo_50 rfl ?_
    obtain ⟨rfl, rfl⟩ := oi2 H
    exact wp_iret xi_32 dX2_leastEdgeTo_51 hq
  · subst e9
    dsimp only at H
    obtain ⟨rfl, rfl⟩ := oi2 H
    exact hq
/- FelledHasLost$Games.leastMoveTo(II)I -/
def f_33  (a : Nat) (p0 : Int32) (p1 : Int32) (h : xH) : Option (Int32 × xH) :=
  (pG (pIs h a 2)).bind fun _ =>
  (f_32 a p0 p1 h).bind fun (x3, h2) =>
  ((if x3 = (-1) then
  some ((-1))
  else
  (pDiv x3 1024).bind fun x8 =>
  some (x8) : Option (Int32))).bind fun (w6 : Int32) =>
  some (w6, h2)
set_option maxHeartbeats 4000000 in
theorem e_33 (d : Nat) (Q : Option Value → xH → Prop)  {h : xH} {a : Nat} {p0 : Int32} {p1 : Int32} {x : Int32} {h1 : xH} (H : f_33  a p0 p1 h = some (x, h1)) (hq : Q (some (.int x)) h1) : Wp (d + 2) 33 0 [some (.ref a), some (.int p0), some (.int p1), none] [] h Q := by
  unfold f_33 at H
  refine wp_aload_n xi_33 dX2_leastMoveTo_0 rfl ?_
  refine wp_iload_n xi_33 dX2_leastMoveTo_1 rfl ?_
  refine wp_iload_n xi_33 dX2_leastMoveTo_2 rfl ?_
  obtain ⟨u1, gu1, H⟩ := Option.bind_eq_some_iff.mp H
  obtain ⟨⟨x3, h2⟩, gh2, H⟩ := Option.bind_eq_some_iff.mp H
  dsimp only at H
  refine wq_callV (a := a) (as := [.int p0, .int p1]) (r := []) (v1 := (some (.int x3))) xi_33 xi_32 dX2_leastMoveTo_3 xm_2_155 rfl (Nat.le_of_ble_eq_true rfl) (pG_ok gu1) ⟨(Nat.le_of_ble_eq_true rfl), (Nat.le_of_ble_eq_true rfl)⟩ rfl nofun (e_32 d _ gh2 ⟨rfl, rfl⟩) ?_
  change Wp _ _ _ _ [.int x3] _ _
  refine wp_istore_n [some (.ref a), some (.int p0), some (.int p1), some (.int x3)] xi_33 dX2_leastMoveTo_6 rfl ?_
  refine wp_iload_n xi_33 dX2_leastMoveTo_7 rfl ?_
  refine wp_iconst (-1) xi_33 dX2_leastMoveTo_8 rfl ?_
  obtain ⟨w6, G9, H⟩ := Option.bind_eq_some_iff.mp H
  have K7 : Wp (d + 2) 33 21 [some (.ref a), some (.int p0), some (.int p1), some (.int x3)] [.int w6] h2 Q := by
    obtain ⟨rfl, rfl⟩ := oi2 H
    exact wp_iret xi_33 dX2_leastMoveTo_21 hq
  clear H
  have H := G9
  clear G9
  refine wp_icmp_ne 16 xi_33 dX2_leastMoveTo_9 rfl (fun c4 => ?_) (fun c4 => ?_)
  · rw [if_neg c4] at H
    refine wp_iload_n xi_33 dX2_leastMoveTo_16 rfl ?_
    refine wp_sipush 1024 xi_33 dX2_leastMoveTo_17 rfl ?_
    obtain ⟨x8, gx8, H⟩ := Option.bind_eq_some_iff.mp H
    refine wq_idiv xi_33 dX2_leastMoveTo_20 gx8 ?_
    obtain rfl := Option.some.inj H
    exact Wp.more (by simp [xMore, Value.category]) K7
  · rw [if_pos c4] at H
    refine wp_iconst (-1) xi_33 dX2_leastMoveTo_12 rfl ?_
    refine wp_goto 21 xi_33 dX2_leastMoveTo_13 rfl ?_
    obtain rfl := Option.some.inj H
    exact Wp.more (by simp [xMore, Value.category]) K7
/- FelledHasLost$Games.firstHighest()I -/
def f_35_4  : Nat → Nat → Int32 → Int32 → xH → Option (Int32 × xH)
  | 0, _, _, _, _ => none
  | n + 1, a0, a1, a2, h =>
  (pFi h a0 2 14).bind fun x1 =>
  (if x1 ≤ a2 then
  some (a1, h)
  else
  (pFr h a0 2 8).bind fun x3 =>
  (pAi h x3 a2).bind fun x4 =>
  (pFr h a0 2 8).bind fun x5 =>
  (pAi h x5 a1).bind fun x6 =>
  ((if x4 ≤ x6 then
  some (a1)
  else
  some (a2) : Option (Int32))).bind fun (w8 : Int32) =>
  f_35_4 n a0 w8 (a2 + 1) h)
theorem ef_35_4 (d : Nat) (Q : Option Value → xH → Prop)  : ∀ (n : Nat) (a0 : Nat) (a1 : Int32) (a2 : Int32) (h : xH) (r : Int32 × xH), f_35_4 n a0 a1 a2 h = some r → (∀ (w1 : Int32) (h1 : xH), r = (w1, h1) → Wp (d + 0) 35 35 [none, some (.int w1), none] [] h1 Q) → Wp (d + 0) 35 4 [some (.ref a0), some (.int a1), some (.int a2)] [] h Q := by
  intro n
  induction n with
  | zero =>
    intro a0 a1 a2 h r H
    cases H
  | succ n ih =>
    intro a0 a1 a2 h r H KE
    unfold f_35_4 at H
    refine wp_iload_n xi_35 dX2_firstHighest_4 rfl ?_
    refine wp_aload_n xi_35 dX2_firstHighest_5 rfl ?_
    obtain ⟨x1, gx1, H⟩ := Option.bind_eq_some_iff.mp H
    refine wq_getfi xi_35 dX2_firstHighest_6 xf_2_68 gx1 ?_
    refine wp_icmp_ge 35 xi_35 dX2_firstHighest_9 rfl (fun c2 => ?_) (fun c2 => ?_)
    · rw [if_pos c2] at H
      obtain rfl := Option.some.inj H
      exact Wp.more (by simp [xMore, Value.category]) (KE a1 h rfl)
    · rw [if_neg c2] at H
      refine wp_aload_n xi_35 dX2_firstHighest_12 rfl ?_
      obtain ⟨x3, gx3, H⟩ := Option.bind_eq_some_iff.mp H
      refine wq_getfr xi_35 dX2_firstHighest_13 xf_2_38 gx3 ?_
      refine wp_iload_n xi_35 dX2_firstHighest_16 rfl ?_
      obtain ⟨x4, gx4, H⟩ := Option.bind_eq_some_iff.mp H
      refine wq_iaload xi_35 dX2_firstHighest_17 gx4 ?_
      refine wp_aload_n xi_35 dX2_firstHighest_18 rfl ?_
      obtain ⟨x5, gx5, H⟩ := Option.bind_eq_some_iff.mp H
      refine wq_getfr xi_35 dX2_firstHighest_19 xf_2_38 gx5 ?_
      refine wp_iload_n xi_35 dX2_firstHighest_22 rfl ?_
      obtain ⟨x6, gx6, H⟩ := Option.bind_eq_some_iff.mp H
      refine wq_iaload xi_35 dX2_firstHighest_23 gx6 ?_
      obtain ⟨w8, G10, H⟩ := Option.bind_eq_some_iff.mp H
      have K9 : Wp (d + 0) 35 29 [some (.ref a0), some (.int w8), some (.int a2)] [] h Q := by
        refine wp_iinc (a2 + 1) [some (.ref a0), some (.int w8), some (.int (a2 + 1))] xi_35 dX2_firstHighest_29 rfl rfl rfl ?_
        refine wp_goto 4 xi_35 dX2_firstHighest_32 rfl ?_
        exact Wp.more (by simp [xMore, Value.category]) (ih a0 w8 (a2 + 1) h _ H KE)
      clear H
      have H := G10
      clear G10
      refine wp_icmp_le 29 xi_35 dX2_firstHighest_24 rfl (fun c7 => ?_) (fun c7 => ?_)
      · rw [if_pos c7] at H
        obtain rfl := Option.some.inj H
        exact Wp.more (by simp [xMore, Value.category]) K9
      · rw [if_neg c7] at H
        refine wp_iload_n xi_35 dX2_firstHighest_27 rfl ?_
        refine wp_istore_n [some (.ref a0), some (.int a2), some (.int a2)] xi_35 dX2_firstHighest_28 rfl ?_
        obtain rfl := Option.some.inj H
        exact Wp.more (by simp [xMore, Value.category]) K9
def f_35  (a : Nat) (h : xH) : Option (Int32 × xH) :=
  (f_35_4 100000 a 0 1 h).bind fun (w2, h1) =>
  some (w2, h1)
set_option maxHeartbeats 4000000 in
theorem e_35 (d : Nat) (Q : Option Value → xH → Prop)  {h : xH} {a : Nat} {x : Int32} {h1 : xH} (H : f_35  a h = some (x, h1)) (hq : Q (some (.int x)) h1) : Wp (d + 0) 35 0 [some (.ref a), none, none] [] h Q := by
  unfold f_35 at H
  refine wp_iconst 0 xi_35 dX2_firstHighest_0 rfl ?_
  refine wp_istore_n [some (.ref a), some (.int 0), none] xi_35 dX2_firstHighest_1 rfl ?_
  refine wp_iconst 1 xi_35 dX2_firstHighest_2 rfl ?_
  refine wp_istore_n [some (.ref a), some (.int 0), some (.int 1)] xi_35 dX2_firstHighest_3 rfl ?_
  obtain ⟨⟨w2, h1⟩, G3, H⟩ := Option.bind_eq_some_iff.mp H
  dsimp only at H
  refine Wp.more (by simp [xMore, Value.category]) (ef_35_4 d Q  100000 a 0 1 h _ G3 (fun z0 z1 e9 => ?_))
  cases e9
  refine wp_iload_n xi_35 dX2_firstHighest_35 rfl ?_
  obtain ⟨rfl, rfl⟩ := oi2 H
  exact wp_iret xi_35 dX2_firstHighest_36 hq
/- FelledHasLost$Games.firstWithGap(I)I -/
def f_36_2  : Nat → Nat → Int32 → Int32 → xH → Option ((xH) ⊕ (Int32 × xH))
  | 0, _, _, _, _ => none
  | n + 1, a0, a1, a2, h =>
  (pFi h a0 2 14).bind fun x1 =>
  (if x1 ≤ a2 then
  some (.inl (h))
  else
  (pG (pIs h a0 2)).bind fun _ =>
  (f_24 a0 a2 a1 h).bind fun (x5, h4) =>
  (if x5 = (-1) then
  some (.inr (a2, h4))
  else
  f_36_2 n a0 a1 (a2 + 1) h4))
theorem ef_36_2 (d : Nat) (Q : Option Value → xH → Prop)  : ∀ (n : Nat) (a0 : Nat) (a1 : Int32) (a2 : Int32) (h : xH) (r : (xH) ⊕ (Int32 × xH)), f_36_2 n a0 a1 a2 h = some r → (∀  (h1 : xH), r = .inl h1 → Wp (d + 1) 36 28 [none, none, none] [] h1 Q) → (∀ (x : Int32) (h1 : xH), r = .inr (x, h1) → Q (some (.int x)) h1) → Wp (d + 1) 36 2 [some (.ref a0), some (.int a1), some (.int a2)] [] h Q := by
  intro n
  induction n with
  | zero =>
    intro a0 a1 a2 h r H
    cases H
  | succ n ih =>
    intro a0 a1 a2 h r H KE KR
    unfold f_36_2 at H
    refine wp_iload_n xi_36 dX2_firstWithGap_2 rfl ?_
    refine wp_aload_n xi_36 dX2_firstWithGap_3 rfl ?_
    obtain ⟨x1, gx1, H⟩ := Option.bind_eq_some_iff.mp H
    refine wq_getfi xi_36 dX2_firstWithGap_4 xf_2_68 gx1 ?_
    refine wp_icmp_ge 28 xi_36 dX2_firstWithGap_7 rfl (fun c2 => ?_) (fun c2 => ?_)
    · rw [if_pos c2] at H
      obtain rfl := Option.some.inj H
      exact Wp.more (by simp [xMore, Value.category]) (KE  h rfl)
    · rw [if_neg c2] at H
      refine wp_aload_n xi_36 dX2_firstWithGap_10 rfl ?_
      refine wp_iload_n xi_36 dX2_firstWithGap_11 rfl ?_
      refine wp_iload_n xi_36 dX2_firstWithGap_12 rfl ?_
      obtain ⟨u3, gu3, H⟩ := Option.bind_eq_some_iff.mp H
      obtain ⟨⟨x5, h4⟩, gh4, H⟩ := Option.bind_eq_some_iff.mp H
      dsimp only at H
      refine wq_callV (a := a0) (as := [.int a2, .int a1]) (r := []) (v1 := (some (.int x5))) xi_36 xi_24 dX2_firstWithGap_13 xm_2_136 rfl (Nat.le_of_ble_eq_true rfl) (pG_ok gu3) ⟨(Nat.le_of_ble_eq_true rfl), (Nat.le_of_ble_eq_true rfl)⟩ rfl nofun (e_24 d _ gh4 ⟨rfl, rfl⟩) ?_
      change Wp _ _ _ _ [.int x5] _ _
      refine wp_iconst (-1) xi_36 dX2_firstWithGap_16 rfl ?_
      refine wp_icmp_ne 22 xi_36 dX2_firstWithGap_17 rfl (fun c6 => ?_) (fun c6 => ?_)
      · rw [if_neg c6] at H
        refine wp_iinc (a2 + 1) [some (.ref a0), some (.int a1), some (.int (a2 + 1))] xi_36 dX2_firstWithGap_22 rfl rfl rfl ?_
        refine wp_goto 2 xi_36 dX2_firstWithGap_25 rfl ?_
        exact Wp.more (by simp [xMore, Value.category]) (ih a0 a1 (a2 + 1) h4 _ H KE KR)
      · rw [if_pos c6] at H
        refine wp_iload_n xi_36 dX2_firstWithGap_20 rfl ?_
        obtain rfl := Option.some.inj H
        exact wp_iret xi_36 dX2_firstWithGap_21 (KR _ _ rfl)
def f_36  (a : Nat) (p0 : Int32) (h : xH) : Option (Int32 × xH) :=
  (f_36_2 100000 a p0 0 h).bind fun r4 => match r4 with
  | .inl h1 =>
  some ((-1), h1)
  | .inr (x5, h6) => some (x5, h6)
set_option maxHeartbeats 4000000 in
theorem e_36 (d : Nat) (Q : Option Value → xH → Prop)  {h : xH} {a : Nat} {p0 : Int32} {x : Int32} {h1 : xH} (H : f_36  a p0 h = some (x, h1)) (hq : Q (some (.int x)) h1) : Wp (d + 1) 36 0 [some (.ref a), some (.int p0), none] [] h Q := by
  unfold f_36 at H
  refine wp_iconst 0 xi_36 dX2_firstWithGap_0 rfl ?_
  refine wp_istore_n [some (.ref a), some (.int p0), some (.int 0)] xi_36 dX2_firstWithGap_1 rfl ?_
  obtain ⟨r4, G2, H⟩ := Option.bind_eq_some_iff.mp H
  refine Wp.more (by simp [xMore, Value.category]) (ef_36_2 d Q  100000 a p0 0 h _ G2 (fun z0 e9 => ?_) (fun x1 h1 e9 => ?_))
  · subst e9
    dsimp only at H
    obtain ⟨h1, rfl⟩ : ∃ z, z = z0 := ⟨_, rfl⟩
    refine wp_iconst (-1) xi_36 dX2_firstWithGap_28 rfl ?_
    obtain ⟨rfl, rfl⟩ := oi2 H
    exact wp_iret xi_36 dX2_firstWithGap_29 hq
  · subst e9
    dsimp only at H
    obtain ⟨rfl, rfl⟩ := oi2 H
    exact hq
/- FelledHasLost$Games.tracePath(I)V -/
def f_37_11  : Nat → Nat → Int32 → Int32 → xH → Option (xH)
  | 0, _, _, _, _ => none
  | n + 1, a0, a2, a3, h =>
  (if a3 < 0 then
  some (h)
  else
  (if (48 : Int32) ≤ a3 then
  some (h)
  else
  (if a2 ≤ 0 then
  some (h)
  else
  (pFr h a0 2 12).bind fun x4 =>
  (pFr h a0 2 6).bind fun x5 =>
  (pAi h x5 a2).bind fun x6 =>
  (pSi h x4 a3 x6).bind fun h7 =>
  (pFr h7 a0 2 5).bind fun x8 =>
  (pAi h7 x8 a2).bind fun x9 =>
  f_37_11 n a0 x9 (a3 + (-1)) h7)))
theorem ef_37_11 (d : Nat) (Q : Option Value → xH → Prop)  : ∀ (n : Nat) (a0 : Nat) (a2 : Int32) (a3 : Int32) (h : xH) (r : xH), f_37_11 n a0 a2 a3 h = some r → (∀  (h1 : xH), r = h1 → Wp (d + 0) 37 50 [none, none, none, none] [] h1 Q) → Wp (d + 0) 37 11 [some (.ref a0), none, some (.int a2), some (.int a3)] [] h Q := by
  intro n
  induction n with
  | zero =>
    intro a0 a2 a3 h r H
    cases H
  | succ n ih =>
    intro a0 a2 a3 h r H KE
    unfold f_37_11 at H
    refine wp_iload_n xi_37 dX2_tracePath_11 rfl ?_
    refine wp_if_lt 50 xi_37 dX2_tracePath_12 rfl (fun c1 => ?_) (fun c1 => ?_)
    · rw [if_pos c1] at H
      obtain rfl := Option.some.inj H
      exact Wp.more (by simp [xMore, Value.category]) (KE  h rfl)
    · rw [if_neg c1] at H
      refine wp_iload_n xi_37 dX2_tracePath_15 rfl ?_
      refine wp_bipush 48 xi_37 dX2_tracePath_16 rfl ?_
      refine wp_icmp_ge 50 xi_37 dX2_tracePath_18 rfl (fun c2 => ?_) (fun c2 => ?_)
      · rw [if_pos c2] at H
        obtain rfl := Option.some.inj H
        exact Wp.more (by simp [xMore, Value.category]) (KE  h rfl)
      · rw [if_neg c2] at H
        refine wp_iload_n xi_37 dX2_tracePath_21 rfl ?_
        refine wp_if_le 50 xi_37 dX2_tracePath_22 rfl (fun c3 => ?_) (fun c3 => ?_)
        · rw [if_pos c3] at H
          obtain rfl := Option.some.inj H
          exact Wp.more (by simp [xMore, Value.category]) (KE  h rfl)
        · rw [if_neg c3] at H
          refine wp_aload_n xi_37 dX2_tracePath_25 rfl ?_
          obtain ⟨x4, gx4, H⟩ := Option.bind_eq_some_iff.mp H
          refine wq_getfr xi_37 dX2_tracePath_26 xf_2_51 gx4 ?_
          refine wp_iload_n xi_37 dX2_tracePath_29 rfl ?_
          refine wp_aload_n xi_37 dX2_tracePath_30 rfl ?_
          obtain ⟨x5, gx5, H⟩ := Option.bind_eq_some_iff.mp H
          refine wq_getfr xi_37 dX2_tracePath_31 xf_2_32 gx5 ?_
          refine wp_iload_n xi_37 dX2_tracePath_34 rfl ?_
          obtain ⟨x6, gx6, H⟩ := Option.bind_eq_some_iff.mp H
          refine wq_iaload xi_37 dX2_tracePath_35 gx6 ?_
          obtain ⟨h7, gh7, H⟩ := Option.bind_eq_some_iff.mp H
          refine wq_iastore xi_37 dX2_tracePath_36 gh7 ?_
          refine wp_aload_n xi_37 dX2_tracePath_37 rfl ?_
          obtain ⟨x8, gx8, H⟩ := Option.bind_eq_some_iff.mp H
          refine wq_getfr xi_37 dX2_tracePath_38 xf_2_29 gx8 ?_
          refine wp_iload_n xi_37 dX2_tracePath_41 rfl ?_
          obtain ⟨x9, gx9, H⟩ := Option.bind_eq_some_iff.mp H
          refine wq_iaload xi_37 dX2_tracePath_42 gx9 ?_
          refine wp_istore_n [some (.ref a0), none, some (.int x9), some (.int a3)] xi_37 dX2_tracePath_43 rfl ?_
          refine wp_iinc (a3 + (-1)) [some (.ref a0), none, some (.int x9), some (.int (a3 + (-1)))] xi_37 dX2_tracePath_44 rfl rfl rfl ?_
          refine wp_goto 11 xi_37 dX2_tracePath_47 rfl ?_
          exact Wp.more (by simp [xMore, Value.category]) (ih a0 x9 (a3 + (-1)) h7 _ H KE)
def f_37  (a : Nat) (p0 : Int32) (h : xH) : Option (xH) :=
  (pFr h a 2 7).bind fun x1 =>
  (pAi h x1 p0).bind fun x2 =>
  (f_37_11 100000 a p0 (x2 - 1) h).bind fun h3 =>
  some h3
set_option maxHeartbeats 4000000 in
theorem e_37 (d : Nat) (Q : Option Value → xH → Prop)  {h : xH} {a : Nat} {p0 : Int32} {h1 : xH} (H : f_37  a p0 h = some h1) (hq : Q none h1) : Wp (d + 0) 37 0 [some (.ref a), some (.int p0), none, none] [] h Q := by
  unfold f_37 at H
  refine wp_iload_n xi_37 dX2_tracePath_0 rfl ?_
  refine wp_istore_n [some (.ref a), some (.int p0), some (.int p0), none] xi_37 dX2_tracePath_1 rfl ?_
  refine wp_aload_n xi_37 dX2_tracePath_2 rfl ?_
  obtain ⟨x1, gx1, H⟩ := Option.bind_eq_some_iff.mp H
  refine wq_getfr xi_37 dX2_tracePath_3 xf_2_35 gx1 ?_
  refine wp_iload_n xi_37 dX2_tracePath_6 rfl ?_
  obtain ⟨x2, gx2, H⟩ := Option.bind_eq_some_iff.mp H
  refine wq_iaload xi_37 dX2_tracePath_7 gx2 ?_
  refine wp_iconst 1 xi_37 dX2_tracePath_8 rfl ?_
  refine wp_isub xi_37 dX2_tracePath_9 ?_
  refine wp_istore_n [some (.ref a), some (.int p0), some (.int p0), some (.int (x2 - 1))] xi_37 dX2_tracePath_10 rfl ?_
  obtain ⟨h3, G4, H⟩ := Option.bind_eq_some_iff.mp H
  refine Wp.more (by simp [xMore, Value.category]) (ef_37_11 d Q  100000 a p0 (x2 - 1) h _ G4 (fun z0 e9 => ?_))
  cases e9
  obtain rfl := Option.some.inj H
  exact wp_vret xi_37 dX2_tracePath_50 hq
/- FelledHasLost$Games.firstMoveTo(I)I -/
def f_38  (a : Nat) (p0 : Int32) (h : xH) : Option (Int32 × xH) :=
  (pG (pIs h a 2)).bind fun _ =>
  (f_37 a p0 h).bind fun h2 =>
  (pFr h2 a 2 7).bind fun x3 =>
  (pAi h2 x3 p0).bind fun x4 =>
  ((if x4 = 0 then
  some ((-1))
  else
  (pFr h2 a 2 12).bind fun x10 =>
  (pAi h2 x10 0).bind fun x11 =>
  some (x11) : Option (Int32))).bind fun (w8 : Int32) =>
  some (w8, h2)
set_option maxHeartbeats 4000000 in
theorem e_38 (d : Nat) (Q : Option Value → xH → Prop)  {h : xH} {a : Nat} {p0 : Int32} {x : Int32} {h1 : xH} (H : f_38  a p0 h = some (x, h1)) (hq : Q (some (.int x)) h1) : Wp (d + 1) 38 0 [some (.ref a), some (.int p0)] [] h Q := by
  unfold f_38 at H
  refine wp_aload_n xi_38 dX2_firstMoveTo_0 rfl ?_
  refine wp_iload_n xi_38 dX2_firstMoveTo_1 rfl ?_
  obtain ⟨u1, gu1, H⟩ := Option.bind_eq_some_iff.mp H
  obtain ⟨h2, gh2, H⟩ := Option.bind_eq_some_iff.mp H
  refine wq_callV (a := a) (as := [.int p0]) (r := []) (v1 := none) xi_38 xi_37 dX2_firstMoveTo_2 xm_2_165 rfl (Nat.le_of_ble_eq_true rfl) (pG_ok gu1) ⟨(Nat.le_of_ble_eq_true rfl), (Nat.le_of_ble_eq_true rfl)⟩ rfl nofun (e_37 d _ gh2 ⟨rfl, rfl⟩) ?_
  change Wp _ _ _ _ [] _ _
  refine wp_aload_n xi_38 dX2_firstMoveTo_5 rfl ?_
  obtain ⟨x3, gx3, H⟩ := Option.bind_eq_some_iff.mp H
  refine wq_getfr xi_38 dX2_firstMoveTo_6 xf_2_35 gx3 ?_
  refine wp_iload_n xi_38 dX2_firstMoveTo_9 rfl ?_
  obtain ⟨x4, gx4, H⟩ := Option.bind_eq_some_iff.mp H
  refine wq_iaload xi_38 dX2_firstMoveTo_10 gx4 ?_
  obtain ⟨w8, G12, H⟩ := Option.bind_eq_some_iff.mp H
  have K9 : Wp (d + 1) 38 24 [some (.ref a), some (.int p0)] [.int w8] h2 Q := by
    obtain ⟨rfl, rfl⟩ := oi2 H
    exact wp_iret xi_38 dX2_firstMoveTo_24 hq
  clear H
  have H := G12
  clear G12
  refine wp_if_ne 18 xi_38 dX2_firstMoveTo_11 rfl (fun c5 => ?_) (fun c5 => ?_)
  · rw [if_neg c5] at H
    refine wp_aload_n xi_38 dX2_firstMoveTo_18 rfl ?_
    obtain ⟨x10, gx10, H⟩ := Option.bind_eq_some_iff.mp H
    refine wq_getfr xi_38 dX2_firstMoveTo_19 xf_2_51 gx10 ?_
    refine wp_iconst 0 xi_38 dX2_firstMoveTo_22 rfl ?_
    obtain ⟨x11, gx11, H⟩ := Option.bind_eq_some_iff.mp H
    refine wq_iaload xi_38 dX2_firstMoveTo_23 gx11 ?_
    obtain rfl := Option.some.inj H
    exact Wp.more (by simp [xMore, Value.category]) K9
  · rw [if_pos c5] at H
    refine wp_iconst (-1) xi_38 dX2_firstMoveTo_14 rfl ?_
    refine wp_goto 24 xi_38 dX2_firstMoveTo_15 rfl ?_
    obtain rfl := Option.some.inj H
    exact Wp.more (by simp [xMore, Value.category]) K9
/- FelledHasLost$Games.ends()I -/
def f_40_4  : Nat → Nat → Int32 → Int32 → xH → Option (Int32 × xH)
  | 0, _, _, _, _ => none
  | n + 1, a0, a1, a2, h =>
  (pFi h a0 2 14).bind fun x1 =>
  (if x1 ≤ a2 then
  some (a1, h)
  else
  (pFr h a0 2 10).bind fun x3 =>
  (pAi h x3 a2).bind fun x4 =>
  (pFr h a0 2 10).bind fun x5 =>
  (pAi h x5 (a2 + 1)).bind fun x6 =>
  ((if x4 = x6 then
  some (1)
  else
  some (0) : Option (Int32))).bind fun (w8 : Int32) =>
  f_40_4 n a0 (a1 + w8) (a2 + 1) h)
theorem ef_40_4 (d : Nat) (Q : Option Value → xH → Prop)  : ∀ (n : Nat) (a0 : Nat) (a1 : Int32) (a2 : Int32) (h : xH) (r : Int32 × xH), f_40_4 n a0 a1 a2 h = some r → (∀ (w1 : Int32) (h1 : xH), r = (w1, h1) → Wp (d + 0) 40 43 [none, some (.int w1), none] [] h1 Q) → Wp (d + 0) 40 4 [some (.ref a0), some (.int a1), some (.int a2)] [] h Q := by
  intro n
  induction n with
  | zero =>
    intro a0 a1 a2 h r H
    cases H
  | succ n ih =>
    intro a0 a1 a2 h r H KE
    unfold f_40_4 at H
    refine wp_iload_n xi_40 dX2_ends_4 rfl ?_
    refine wp_aload_n xi_40 dX2_ends_5 rfl ?_
    obtain ⟨x1, gx1, H⟩ := Option.bind_eq_some_iff.mp H
    refine wq_getfi xi_40 dX2_ends_6 xf_2_68 gx1 ?_
    refine wp_icmp_ge 43 xi_40 dX2_ends_9 rfl (fun c2 => ?_) (fun c2 => ?_)
    · rw [if_pos c2] at H
      obtain rfl := Option.some.inj H
      exact Wp.more (by simp [xMore, Value.category]) (KE a1 h rfl)
    · rw [if_neg c2] at H
      refine wp_iload_n xi_40 dX2_ends_12 rfl ?_
      refine wp_aload_n xi_40 dX2_ends_13 rfl ?_
      obtain ⟨x3, gx3, H⟩ := Option.bind_eq_some_iff.mp H
      refine wq_getfr xi_40 dX2_ends_14 xf_2_44 gx3 ?_
      refine wp_iload_n xi_40 dX2_ends_17 rfl ?_
      obtain ⟨x4, gx4, H⟩ := Option.bind_eq_some_iff.mp H
      refine wq_iaload xi_40 dX2_ends_18 gx4 ?_
      refine wp_aload_n xi_40 dX2_ends_19 rfl ?_
      obtain ⟨x5, gx5, H⟩ := Option.bind_eq_some_iff.mp H
      refine wq_getfr xi_40 dX2_ends_20 xf_2_44 gx5 ?_
      refine wp_iload_n xi_40 dX2_ends_23 rfl ?_
      refine wp_iconst 1 xi_40 dX2_ends_24 rfl ?_
      refine wp_iadd xi_40 dX2_ends_25 ?_
      obtain ⟨x6, gx6, H⟩ := Option.bind_eq_some_iff.mp H
      refine wq_iaload xi_40 dX2_ends_26 gx6 ?_
      obtain ⟨w8, G10, H⟩ := Option.bind_eq_some_iff.mp H
      have K9 : Wp (d + 0) 40 35 [some (.ref a0), some (.int a1), some (.int a2)] [.int w8, .int a1] h Q := by
        refine wp_iadd xi_40 dX2_ends_35 ?_
        refine wp_istore_n [some (.ref a0), some (.int (a1 + w8)), some (.int a2)] xi_40 dX2_ends_36 rfl ?_
        refine wp_iinc (a2 + 1) [some (.ref a0), some (.int (a1 + w8)), some (.int (a2 + 1))] xi_40 dX2_ends_37 rfl rfl rfl ?_
        refine wp_goto 4 xi_40 dX2_ends_40 rfl ?_
        exact Wp.more (by simp [xMore, Value.category]) (ih a0 (a1 + w8) (a2 + 1) h _ H KE)
      clear H
      have H := G10
      clear G10
      refine wp_icmp_ne 34 xi_40 dX2_ends_27 rfl (fun c7 => ?_) (fun c7 => ?_)
      · rw [if_neg c7] at H
        refine wp_iconst 0 xi_40 dX2_ends_34 rfl ?_
        obtain rfl := Option.some.inj H
        exact Wp.more (by simp [xMore, Value.category]) K9
      · rw [if_pos c7] at H
        refine wp_iconst 1 xi_40 dX2_ends_30 rfl ?_
        refine wp_goto 35 xi_40 dX2_ends_31 rfl ?_
        obtain rfl := Option.some.inj H
        exact Wp.more (by simp [xMore, Value.category]) K9
def f_40  (a : Nat) (h : xH) : Option (Int32 × xH) :=
  (f_40_4 100000 a 0 0 h).bind fun (w2, h1) =>
  some (w2, h1)
set_option maxHeartbeats 4000000 in
theorem e_40 (d : Nat) (Q : Option Value → xH → Prop)  {h : xH} {a : Nat} {x : Int32} {h1 : xH} (H : f_40  a h = some (x, h1)) (hq : Q (some (.int x)) h1) : Wp (d + 0) 40 0 [some (.ref a), none, none] [] h Q := by
  unfold f_40 at H
  refine wp_iconst 0 xi_40 dX2_ends_0 rfl ?_
  refine wp_istore_n [some (.ref a), some (.int 0), none] xi_40 dX2_ends_1 rfl ?_
  refine wp_iconst 0 xi_40 dX2_ends_2 rfl ?_
  refine wp_istore_n [some (.ref a), some (.int 0), some (.int 0)] xi_40 dX2_ends_3 rfl ?_
  obtain ⟨⟨w2, h1⟩, G3, H⟩ := Option.bind_eq_some_iff.mp H
  dsimp only at H
  refine Wp.more (by simp [xMore, Value.category]) (ef_40_4 d Q  100000 a 0 0 h _ G3 (fun z0 z1 e9 => ?_))
  cases e9
  refine wp_iload_n xi_40 dX2_ends_43 rfl ?_
  obtain ⟨rfl, rfl⟩ := oi2 H
  exact wp_iret xi_40 dX2_ends_44 hq
/- FelledHasLost$History.clear()V -/
def f_42  (a : Nat) (h : xH) : Option (xH) :=
  (pP h a 3 2 (.int 0)).bind fun h1 =>
  some h1
set_option maxHeartbeats 4000000 in
theorem e_42 (d : Nat) (Q : Option Value → xH → Prop)  {h : xH} {a : Nat} {h1 : xH} (H : f_42  a h = some h1) (hq : Q none h1) : Wp (d + 0) 42 0 [some (.ref a)] [] h Q := by
  unfold f_42 at H
  refine wp_aload_n xi_42 dX3_clear_0 rfl ?_
  refine wp_iconst 0 xi_42 dX3_clear_1 rfl ?_
  obtain ⟨h1, gh1, H⟩ := Option.bind_eq_some_iff.mp H
  refine wq_putf xi_42 dX3_clear_2 xf_3_16 (Or.inl rfl) gh1 ?_
  obtain rfl := Option.some.inj H
  exact wp_vret xi_42 dX3_clear_5 hq
/- FelledHasLost$Row.clear()V -/
def f_50  (a : Nat) (h : xH) : Option (xH) :=
  (pP h a 5 1 (.int 0)).bind fun h1 =>
  some h1
set_option maxHeartbeats 4000000 in
theorem e_50 (d : Nat) (Q : Option Value → xH → Prop)  {h : xH} {a : Nat} {h1 : xH} (H : f_50  a h = some h1) (hq : Q none h1) : Wp (d + 0) 50 0 [some (.ref a)] [] h Q := by
  unfold f_50 at H
  refine wp_aload_n xi_50 dX5_clear_0 rfl ?_
  refine wp_iconst 0 xi_50 dX5_clear_1 rfl ?_
  obtain ⟨h1, gh1, H⟩ := Option.bind_eq_some_iff.mp H
  refine wq_putf xi_50 dX5_clear_2 xf_5_15 (Or.inl rfl) gh1 ?_
  obtain rfl := Option.some.inj H
  exact wp_vret xi_50 dX5_clear_5 hq
/- FelledHasLost$Row.add(J)V -/
def f_51  (a : Nat) (p0 : Int64) (h : xH) : Option (xH) :=
  (pFi h a 5 1).bind fun x1 =>
  ((if (16 : Int32) ≤ x1 then
  some (h)
  else
  (pFr h a 5 0).bind fun x9 =>
  (pFi h a 5 1).bind fun x10 =>
  (pP h a 5 1 (.int (x10 + 1))).bind fun h11 =>
  (pSl h11 x9 x10 p0).bind fun h12 =>
  some (h12) : Option (xH))).bind fun (h7 : xH) =>
  some h7
set_option maxHeartbeats 4000000 in
theorem e_51 (d : Nat) (Q : Option Value → xH → Prop)  {h : xH} {a : Nat} {p0 : Int64} {h1 : xH} (H : f_51  a p0 h = some h1) (hq : Q none h1) : Wp (d + 0) 51 0 [some (.ref a), some (.long p0), none] [] h Q := by
  unfold f_51 at H
  refine wp_aload_n xi_51 dX5_add_0 rfl ?_
  obtain ⟨x1, gx1, H⟩ := Option.bind_eq_some_iff.mp H
  refine wq_getfi xi_51 dX5_add_1 xf_5_15 gx1 ?_
  refine wp_bipush 16 xi_51 dX5_add_4 rfl ?_
  obtain ⟨h7, G13, H⟩ := Option.bind_eq_some_iff.mp H
  have K8 : Wp (d + 0) 51 26 [some (.ref a), some (.long p0), none] [] h7 Q := by
    obtain rfl := Option.some.inj H
    exact wp_vret xi_51 dX5_add_26 hq
  clear H
  have H := G13
  clear G13
  refine wp_icmp_ge 26 xi_51 dX5_add_6 rfl (fun c2 => ?_) (fun c2 => ?_)
  · rw [if_pos c2] at H
    obtain rfl := Option.some.inj H
    exact Wp.more (by simp [xMore, Value.category]) K8
  · rw [if_neg c2] at H
    refine wp_aload_n xi_51 dX5_add_9 rfl ?_
    obtain ⟨x9, gx9, H⟩ := Option.bind_eq_some_iff.mp H
    refine wq_getfr xi_51 dX5_add_10 xf_5_9 gx9 ?_
    refine wp_aload_n xi_51 dX5_add_13 rfl ?_
    refine wp_dup xi_51 dX5_add_14 rfl ?_
    obtain ⟨x10, gx10, H⟩ := Option.bind_eq_some_iff.mp H
    refine wq_getfi xi_51 dX5_add_15 xf_5_15 gx10 ?_
    refine wp_dup_x1 xi_51 dX5_add_18 rfl rfl ?_
    refine wp_iconst 1 xi_51 dX5_add_19 rfl ?_
    refine wp_iadd xi_51 dX5_add_20 ?_
    obtain ⟨h11, gh11, H⟩ := Option.bind_eq_some_iff.mp H
    refine wq_putf xi_51 dX5_add_21 xf_5_15 (Or.inl rfl) gh11 ?_
    refine wp_lload_n xi_51 dX5_add_24 rfl ?_
    obtain ⟨h12, gh12, H⟩ := Option.bind_eq_some_iff.mp H
    refine wq_lastore xi_51 dX5_add_25 gh12 ?_
    obtain rfl := Option.some.inj H
    exact Wp.more (by simp [xMore, Value.category]) K8
/- FelledHasLost$Rule.adoptDraft()V -/
def f_54  (a : Nat) (h : xH) : Option (xH) :=
  (pFr h a 6 1).bind fun x1 =>
  (pFr h a 6 0).bind fun x2 =>
  (pCpy h x1 0 x2 0 40).bind fun h3 =>
  (pFi h3 a 6 6).bind fun x4 =>
  (pP h3 a 6 5 (.int x4)).bind fun h5 =>
  some h5
set_option maxHeartbeats 4000000 in
theorem e_54 (d : Nat) (Q : Option Value → xH → Prop)  {h : xH} {a : Nat} {h1 : xH} (H : f_54  a h = some h1) (hq : Q none h1) : Wp (d + 0) 54 0 [some (.ref a)] [] h Q := by
  unfold f_54 at H
  refine wp_aload_n xi_54 dX6_adoptDraft_0 rfl ?_
  obtain ⟨x1, gx1, H⟩ := Option.bind_eq_some_iff.mp H
  refine wq_getfr xi_54 dX6_adoptDraft_1 xf_6_15 gx1 ?_
  refine wp_iconst 0 xi_54 dX6_adoptDraft_4 rfl ?_
  refine wp_aload_n xi_54 dX6_adoptDraft_5 rfl ?_
  obtain ⟨x2, gx2, H⟩ := Option.bind_eq_some_iff.mp H
  refine wq_getfr xi_54 dX6_adoptDraft_6 xf_6_11 gx2 ?_
  refine wp_iconst 0 xi_54 dX6_adoptDraft_9 rfl ?_
  refine wp_bipush 40 xi_54 dX6_adoptDraft_10 rfl ?_
  obtain ⟨h3, gh3, H⟩ := Option.bind_eq_some_iff.mp H
  refine wq_cpy xi_54 dX6_adoptDraft_12 xm_6_67 (Nat.le_of_ble_eq_true rfl) gh3 ?_
  refine wp_aload_n xi_54 dX6_adoptDraft_15 rfl ?_
  refine wp_aload_n xi_54 dX6_adoptDraft_16 rfl ?_
  obtain ⟨x4, gx4, H⟩ := Option.bind_eq_some_iff.mp H
  refine wq_getfi xi_54 dX6_adoptDraft_17 xf_6_73 gx4 ?_
  obtain ⟨h5, gh5, H⟩ := Option.bind_eq_some_iff.mp H
  refine wq_putf xi_54 dX6_adoptDraft_20 xf_6_76 (Or.inl rfl) gh5 ?_
  obtain rfl := Option.some.inj H
  exact wp_vret xi_54 dX6_adoptDraft_23 hq
/- FelledHasLost$Rule.startReading()V -/
def f_55  (a : Nat) (h : xH) : Option (xH) :=
  (pP h a 6 6 (.int 0)).bind fun h1 =>
  (pP h1 a 6 7 (.int 0)).bind fun h2 =>
  (pP h2 a 6 8 (.int 0)).bind fun h3 =>
  (pP h3 a 6 9 (.int 0)).bind fun h4 =>
  (pP h4 a 6 10 (.int 1)).bind fun h5 =>
  (pFr h5 a 6 4).bind fun x6 =>
  (pSb h5 x6 0 0).bind fun h7 =>
  some h7
set_option maxHeartbeats 4000000 in
theorem e_55 (d : Nat) (Q : Option Value → xH → Prop)  {h : xH} {a : Nat} {h1 : xH} (H : f_55  a h = some h1) (hq : Q none h1) : Wp (d + 0) 55 0 [some (.ref a)] [] h Q := by
  unfold f_55 at H
  refine wp_aload_n xi_55 dX6_startReading_0 rfl ?_
  refine wp_iconst 0 xi_55 dX6_startReading_1 rfl ?_
  obtain ⟨h1, gh1, H⟩ := Option.bind_eq_some_iff.mp H
  refine wq_putf xi_55 dX6_startReading_2 xf_6_73 (Or.inl rfl) gh1 ?_
  refine wp_aload_n xi_55 dX6_startReading_5 rfl ?_
  refine wp_iconst 0 xi_55 dX6_startReading_6 rfl ?_
  obtain ⟨h2, gh2, H⟩ := Option.bind_eq_some_iff.mp H
  refine wq_putf xi_55 dX6_startReading_7 xf_6_79 (Or.inl rfl) gh2 ?_
  refine wp_aload_n xi_55 dX6_startReading_10 rfl ?_
  refine wp_iconst 0 xi_55 dX6_startReading_11 rfl ?_
  obtain ⟨h3, gh3, H⟩ := Option.bind_eq_some_iff.mp H
  refine wq_putf xi_55 dX6_startReading_12 xf_6_60 (Or.inl rfl) gh3 ?_
  refine wp_aload_n xi_55 dX6_startReading_15 rfl ?_
  refine wp_iconst 0 xi_55 dX6_startReading_16 rfl ?_
  obtain ⟨h4, gh4, H⟩ := Option.bind_eq_some_iff.mp H
  refine wq_putf xi_55 dX6_startReading_17 xf_6_82 (Or.inl rfl) gh4 ?_
  refine wp_aload_n xi_55 dX6_startReading_20 rfl ?_
  refine wp_iconst 1 xi_55 dX6_startReading_21 rfl ?_
  obtain ⟨h5, gh5, H⟩ := Option.bind_eq_some_iff.mp H
  refine wq_putf xi_55 dX6_startReading_22 xf_6_49 (Or.inl rfl) gh5 ?_
  refine wp_aload_n xi_55 dX6_startReading_25 rfl ?_
  obtain ⟨x6, gx6, H⟩ := Option.bind_eq_some_iff.mp H
  refine wq_getfr xi_55 dX6_startReading_26 xf_6_24 gx6 ?_
  refine wp_iconst 0 xi_55 dX6_startReading_29 rfl ?_
  refine wp_iconst 0 xi_55 dX6_startReading_30 rfl ?_
  obtain ⟨h7, gh7, H⟩ := Option.bind_eq_some_iff.mp H
  refine wq_bastore xi_55 dX6_startReading_31 gh7 ?_
  obtain rfl := Option.some.inj H
  exact wp_vret xi_55 dX6_startReading_32 hq
/- FelledHasLost$Rule.emit(I)V -/
def f_57  (a : Nat) (p0 : Int32) (h : xH) : Option (xH) :=
  (pFi h a 6 6).bind fun x1 =>
  ((if (40 : Int32) ≤ x1 then
  some (h)
  else
  (pFr h a 6 1).bind fun x9 =>
  (pFi h a 6 6).bind fun x10 =>
  (pP h a 6 6 (.int (x10 + 1))).bind fun h11 =>
  (pSi h11 x9 x10 p0).bind fun h12 =>
  some (h12) : Option (xH))).bind fun (h7 : xH) =>
  some h7
set_option maxHeartbeats 4000000 in
theorem e_57 (d : Nat) (Q : Option Value → xH → Prop)  {h : xH} {a : Nat} {p0 : Int32} {h1 : xH} (H : f_57  a p0 h = some h1) (hq : Q none h1) : Wp (d + 0) 57 0 [some (.ref a), some (.int p0)] [] h Q := by
  unfold f_57 at H
  refine wp_aload_n xi_57 dX6_emit_0 rfl ?_
  obtain ⟨x1, gx1, H⟩ := Option.bind_eq_some_iff.mp H
  refine wq_getfi xi_57 dX6_emit_1 xf_6_73 gx1 ?_
  refine wp_bipush 40 xi_57 dX6_emit_4 rfl ?_
  obtain ⟨h7, G13, H⟩ := Option.bind_eq_some_iff.mp H
  have K8 : Wp (d + 0) 57 26 [some (.ref a), some (.int p0)] [] h7 Q := by
    obtain rfl := Option.some.inj H
    exact wp_vret xi_57 dX6_emit_26 hq
  clear H
  have H := G13
  clear G13
  refine wp_icmp_ge 26 xi_57 dX6_emit_6 rfl (fun c2 => ?_) (fun c2 => ?_)
  · rw [if_pos c2] at H
    obtain rfl := Option.some.inj H
    exact Wp.more (by simp [xMore, Value.category]) K8
  · rw [if_neg c2] at H
    refine wp_aload_n xi_57 dX6_emit_9 rfl ?_
    obtain ⟨x9, gx9, H⟩ := Option.bind_eq_some_iff.mp H
    refine wq_getfr xi_57 dX6_emit_10 xf_6_15 gx9 ?_
    refine wp_aload_n xi_57 dX6_emit_13 rfl ?_
    refine wp_dup xi_57 dX6_emit_14 rfl ?_
    obtain ⟨x10, gx10, H⟩ := Option.bind_eq_some_iff.mp H
    refine wq_getfi xi_57 dX6_emit_15 xf_6_73 gx10 ?_
    refine wp_dup_x1 xi_57 dX6_emit_18 rfl rfl ?_
    refine wp_iconst 1 xi_57 dX6_emit_19 rfl ?_
    refine wp_iadd xi_57 dX6_emit_20 ?_
    obtain ⟨h11, gh11, H⟩ := Option.bind_eq_some_iff.mp H
    refine wq_putf xi_57 dX6_emit_21 xf_6_73 (Or.inl rfl) gh11 ?_
    refine wp_iload_n xi_57 dX6_emit_24 rfl ?_
    obtain ⟨h12, gh12, H⟩ := Option.bind_eq_some_iff.mp H
    refine wq_iastore xi_57 dX6_emit_25 gh12 ?_
    obtain rfl := Option.some.inj H
    exact Wp.more (by simp [xMore, Value.category]) K8
/- FelledHasLost$Rule.postpone(I)V -/
def f_58  (a : Nat) (p0 : Int32) (h : xH) : Option (xH) :=
  (pFi h a 6 7).bind fun x1 =>
  ((if (40 : Int32) ≤ x1 then
  some (h)
  else
  (pFr h a 6 2).bind fun x9 =>
  (pFi h a 6 7).bind fun x10 =>
  (pP h a 6 7 (.int (x10 + 1))).bind fun h11 =>
  (pSi h11 x9 x10 p0).bind fun h12 =>
  some (h12) : Option (xH))).bind fun (h7 : xH) =>
  some h7
set_option maxHeartbeats 4000000 in
theorem e_58 (d : Nat) (Q : Option Value → xH → Prop)  {h : xH} {a : Nat} {p0 : Int32} {h1 : xH} (H : f_58  a p0 h = some h1) (hq : Q none h1) : Wp (d + 0) 58 0 [some (.ref a), some (.int p0)] [] h Q := by
  unfold f_58 at H
  refine wp_aload_n xi_58 dX6_postpone_0 rfl ?_
  obtain ⟨x1, gx1, H⟩ := Option.bind_eq_some_iff.mp H
  refine wq_getfi xi_58 dX6_postpone_1 xf_6_79 gx1 ?_
  refine wp_bipush 40 xi_58 dX6_postpone_4 rfl ?_
  obtain ⟨h7, G13, H⟩ := Option.bind_eq_some_iff.mp H
  have K8 : Wp (d + 0) 58 26 [some (.ref a), some (.int p0)] [] h7 Q := by
    obtain rfl := Option.some.inj H
    exact wp_vret xi_58 dX6_postpone_26 hq
  clear H
  have H := G13
  clear G13
  refine wp_icmp_ge 26 xi_58 dX6_postpone_6 rfl (fun c2 => ?_) (fun c2 => ?_)
  · rw [if_pos c2] at H
    obtain rfl := Option.some.inj H
    exact Wp.more (by simp [xMore, Value.category]) K8
  · rw [if_neg c2] at H
    refine wp_aload_n xi_58 dX6_postpone_9 rfl ?_
    obtain ⟨x9, gx9, H⟩ := Option.bind_eq_some_iff.mp H
    refine wq_getfr xi_58 dX6_postpone_10 xf_6_18 gx9 ?_
    refine wp_aload_n xi_58 dX6_postpone_13 rfl ?_
    refine wp_dup xi_58 dX6_postpone_14 rfl ?_
    obtain ⟨x10, gx10, H⟩ := Option.bind_eq_some_iff.mp H
    refine wq_getfi xi_58 dX6_postpone_15 xf_6_79 gx10 ?_
    refine wp_dup_x1 xi_58 dX6_postpone_18 rfl rfl ?_
    refine wp_iconst 1 xi_58 dX6_postpone_19 rfl ?_
    refine wp_iadd xi_58 dX6_postpone_20 ?_
    obtain ⟨h11, gh11, H⟩ := Option.bind_eq_some_iff.mp H
    refine wq_putf xi_58 dX6_postpone_21 xf_6_79 (Or.inl rfl) gh11 ?_
    refine wp_iload_n xi_58 dX6_postpone_24 rfl ?_
    obtain ⟨h12, gh12, H⟩ := Option.bind_eq_some_iff.mp H
    refine wq_iastore xi_58 dX6_postpone_25 gh12 ?_
    obtain rfl := Option.some.inj H
    exact Wp.more (by simp [xMore, Value.category]) K8
/- FelledHasLost$Rule.bindingOf(I)I -/
def f_62  (p0 : Int32) (h : xH) : Option (Int32 × xH) :=
  (if (p0 - 2000) = 42 then
  some (3, h)
  else
  if (p0 - 2000) = 43 then
  some (2, h)
  else
  if (p0 - 2000) = 44 then
  some (4, h)
  else
  if (p0 - 2000) = 45 then
  some (2, h)
  else
  if (p0 - 2000) = 46 then
  some (4, h)
  else
  if (p0 - 2000) = 47 then
  some (3, h)
  else
  if (p0 - 2000) = 48 then
  some (4, h)
  else
  if (p0 - 2000) = 49 then
  some (4, h)
  else
  if (p0 - 2000) = 50 then
  some (4, h)
  else
  if (p0 - 2000) = 51 then
  some (4, h)
  else
  if (p0 - 2000) = 52 then
  some (4, h)
  else
  if (p0 - 2000) = 53 then
  some (4, h)
  else
  if (p0 - 2000) = 54 then
  some (4, h)
  else
  if (p0 - 2000) = 55 then
  some (4, h)
  else
  if (p0 - 2000) = 56 then
  some (4, h)
  else
  if (p0 - 2000) = 57 then
  some (4, h)
  else
  if (p0 - 2000) = 58 then
  some (4, h)
  else
  if (p0 - 2000) = 59 then
  some (4, h)
  else
  if (p0 - 2000) = 60 then
  some (1, h)
  else
  if (p0 - 2000) = 61 then
  some (1, h)
  else
  if (p0 - 2000) = 62 then
  some (1, h)
  else
  some (4, h))
set_option maxHeartbeats 4000000 in
theorem e_62 (d : Nat) (Q : Option Value → xH → Prop)  {h : xH} {p0 : Int32} {x : Int32} {h1 : xH} (H : f_62  p0 h = some (x, h1)) (hq : Q (some (.int x)) h1) : Wp (d + 0) 62 0 [some (.int p0)] [] h Q := by
  unfold f_62 at H
  refine wp_iload_n xi_62 dX6_bindingOf_0 rfl ?_
  refine wp_sipush 2000 xi_62 dX6_bindingOf_1 rfl ?_
  refine wp_isub xi_62 dX6_bindingOf_4 ?_
  by_cases c1 : (p0 - 2000) = 42
  · rw [if_pos c1] at H
    refine Wp.pure (p2 := 108) (ls2 := [some (.int p0)]) (st2 := []) (h2 := h) xi_62 dX6_bindingOf_5 rfl rfl rfl (by rw [c1]; rfl) ?_
    refine wp_iconst 3 xi_62 dX6_bindingOf_108 rfl ?_
    obtain ⟨rfl, rfl⟩ := oi2 H
    exact wp_iret xi_62 dX6_bindingOf_109 hq
  · rw [if_neg c1] at H
    by_cases c2 : (p0 - 2000) = 43
    · rw [if_pos c2] at H
      refine Wp.pure (p2 := 106) (ls2 := [some (.int p0)]) (st2 := []) (h2 := h) xi_62 dX6_bindingOf_5 rfl rfl rfl (by rw [c2]; rfl) ?_
      refine wp_iconst 2 xi_62 dX6_bindingOf_106 rfl ?_
      obtain ⟨rfl, rfl⟩ := oi2 H
      exact wp_iret xi_62 dX6_bindingOf_107 hq
    · rw [if_neg c2] at H
      by_cases c3 : (p0 - 2000) = 44
      · rw [if_pos c3] at H
        refine Wp.pure (p2 := 110) (ls2 := [some (.int p0)]) (st2 := []) (h2 := h) xi_62 dX6_bindingOf_5 rfl rfl rfl (by rw [c3]; rfl) ?_
        refine wp_iconst 4 xi_62 dX6_bindingOf_110 rfl ?_
        obtain ⟨rfl, rfl⟩ := oi2 H
        exact wp_iret xi_62 dX6_bindingOf_111 hq
      · rw [if_neg c3] at H
        by_cases c4 : (p0 - 2000) = 45
        · rw [if_pos c4] at H
          refine Wp.pure (p2 := 106) (ls2 := [some (.int p0)]) (st2 := []) (h2 := h) xi_62 dX6_bindingOf_5 rfl rfl rfl (by rw [c4]; rfl) ?_
          refine wp_iconst 2 xi_62 dX6_bindingOf_106 rfl ?_
          obtain ⟨rfl, rfl⟩ := oi2 H
          exact wp_iret xi_62 dX6_bindingOf_107 hq
        · rw [if_neg c4] at H
          by_cases c5 : (p0 - 2000) = 46
          · rw [if_pos c5] at H
            refine Wp.pure (p2 := 110) (ls2 := [some (.int p0)]) (st2 := []) (h2 := h) xi_62 dX6_bindingOf_5 rfl rfl rfl (by rw [c5]; rfl) ?_
            refine wp_iconst 4 xi_62 dX6_bindingOf_110 rfl ?_
            obtain ⟨rfl, rfl⟩ := oi2 H
            exact wp_iret xi_62 dX6_bindingOf_111 hq
          · rw [if_neg c5] at H
            by_cases c6 : (p0 - 2000) = 47
            · rw [if_pos c6] at H
              refine Wp.pure (p2 := 108) (ls2 := [some (.int p0)]) (st2 := []) (h2 := h) xi_62 dX6_bindingOf_5 rfl rfl rfl (by rw [c6]; rfl) ?_
              refine wp_iconst 3 xi_62 dX6_bindingOf_108 rfl ?_
              obtain ⟨rfl, rfl⟩ := oi2 H
              exact wp_iret xi_62 dX6_bindingOf_109 hq
            · rw [if_neg c6] at H
              by_cases c7 : (p0 - 2000) = 48
              · rw [if_pos c7] at H
                refine Wp.pure (p2 := 110) (ls2 := [some (.int p0)]) (st2 := []) (h2 := h) xi_62 dX6_bindingOf_5 rfl rfl rfl (by rw [c7]; rfl) ?_
                refine wp_iconst 4 xi_62 dX6_bindingOf_110 rfl ?_
                obtain ⟨rfl, rfl⟩ := oi2 H
                exact wp_iret xi_62 dX6_bindingOf_111 hq
              · rw [if_neg c7] at H
                by_cases c8 : (p0 - 2000) = 49
                · rw [if_pos c8] at H
                  refine Wp.pure (p2 := 110) (ls2 := [some (.int p0)]) (st2 := []) (h2 := h) xi_62 dX6_bindingOf_5 rfl rfl rfl (by rw [c8]; rfl) ?_
                  refine wp_iconst 4 xi_62 dX6_bindingOf_110 rfl ?_
                  obtain ⟨rfl, rfl⟩ := oi2 H
                  exact wp_iret xi_62 dX6_bindingOf_111 hq
                · rw [if_neg c8] at H
                  by_cases c9 : (p0 - 2000) = 50
                  · rw [if_pos c9] at H
                    refine Wp.pure (p2 := 110) (ls2 := [some (.int p0)]) (st2 := []) (h2 := h) xi_62 dX6_bindingOf_5 rfl rfl rfl (by rw [c9]; rfl) ?_
                    refine wp_iconst 4 xi_62 dX6_bindingOf_110 rfl ?_
                    obtain ⟨rfl, rfl⟩ := oi2 H
                    exact wp_iret xi_62 dX6_bindingOf_111 hq
                  · rw [if_neg c9] at H
                    by_cases c10 : (p0 - 2000) = 51
                    · rw [if_pos c10] at H
                      refine Wp.pure (p2 := 110) (ls2 := [some (.int p0)]) (st2 := []) (h2 := h) xi_62 dX6_bindingOf_5 rfl rfl rfl (by rw [c10]; rfl) ?_
                      refine wp_iconst 4 xi_62 dX6_bindingOf_110 rfl ?_
                      obtain ⟨rfl, rfl⟩ := oi2 H
                      exact wp_iret xi_62 dX6_bindingOf_111 hq
                    · rw [if_neg c10] at H
                      by_cases c11 : (p0 - 2000) = 52
                      · rw [if_pos c11] at H
                        refine Wp.pure (p2 := 110) (ls2 := [some (.int p0)]) (st2 := []) (h2 := h) xi_62 dX6_bindingOf_5 rfl rfl rfl (by rw [c11]; rfl) ?_
                        refine wp_iconst 4 xi_62 dX6_bindingOf_110 rfl ?_
                        obtain ⟨rfl, rfl⟩ := oi2 H
                        exact wp_iret xi_62 dX6_bindingOf_111 hq
                      · rw [if_neg c11] at H
                        by_cases c12 : (p0 - 2000) = 53
                        · rw [if_pos c12] at H
                          refine Wp.pure (p2 := 110) (ls2 := [some (.int p0)]) (st2 := []) (h2 := h) xi_62 dX6_bindingOf_5 rfl rfl rfl (by rw [c12]; rfl) ?_
                          refine wp_iconst 4 xi_62 dX6_bindingOf_110 rfl ?_
                          obtain ⟨rfl, rfl⟩ := oi2 H
                          exact wp_iret xi_62 dX6_bindingOf_111 hq
                        · rw [if_neg c12] at H
                          by_cases c13 : (p0 - 2000) = 54
                          · rw [if_pos c13] at H
                            refine Wp.pure (p2 := 110) (ls2 := [some (.int p0)]) (st2 := []) (h2 := h) xi_62 dX6_bindingOf_5 rfl rfl rfl (by rw [c13]; rfl) ?_
                            refine wp_iconst 4 xi_62 dX6_bindingOf_110 rfl ?_
                            obtain ⟨rfl, rfl⟩ := oi2 H
                            exact wp_iret xi_62 dX6_bindingOf_111 hq
                          · rw [if_neg c13] at H
                            by_cases c14 : (p0 - 2000) = 55
                            · rw [if_pos c14] at H
                              refine Wp.pure (p2 := 110) (ls2 := [some (.int p0)]) (st2 := []) (h2 := h) xi_62 dX6_bindingOf_5 rfl rfl rfl (by rw [c14]; rfl) ?_
                              refine wp_iconst 4 xi_62 dX6_bindingOf_110 rfl ?_
                              obtain ⟨rfl, rfl⟩ := oi2 H
                              exact wp_iret xi_62 dX6_bindingOf_111 hq
                            · rw [if_neg c14] at H
                              by_cases c15 : (p0 - 2000) = 56
                              · rw [if_pos c15] at H
                                refine Wp.pure (p2 := 110) (ls2 := [some (.int p0)]) (st2 := []) (h2 := h) xi_62 dX6_bindingOf_5 rfl rfl rfl (by rw [c15]; rfl) ?_
                                refine wp_iconst 4 xi_62 dX6_bindingOf_110 rfl ?_
                                obtain ⟨rfl, rfl⟩ := oi2 H
                                exact wp_iret xi_62 dX6_bindingOf_111 hq
                              · rw [if_neg c15] at H
                                by_cases c16 : (p0 - 2000) = 57
                                · rw [if_pos c16] at H
                                  refine Wp.pure (p2 := 110) (ls2 := [some (.int p0)]) (st2 := []) (h2 := h) xi_62 dX6_bindingOf_5 rfl rfl rfl (by rw [c16]; rfl) ?_
                                  refine wp_iconst 4 xi_62 dX6_bindingOf_110 rfl ?_
                                  obtain ⟨rfl, rfl⟩ := oi2 H
                                  exact wp_iret xi_62 dX6_bindingOf_111 hq
                                · rw [if_neg c16] at H
                                  by_cases c17 : (p0 - 2000) = 58
                                  · rw [if_pos c17] at H
                                    refine Wp.pure (p2 := 110) (ls2 := [some (.int p0)]) (st2 := []) (h2 := h) xi_62 dX6_bindingOf_5 rfl rfl rfl (by rw [c17]; rfl) ?_
                                    refine wp_iconst 4 xi_62 dX6_bindingOf_110 rfl ?_
                                    obtain ⟨rfl, rfl⟩ := oi2 H
                                    exact wp_iret xi_62 dX6_bindingOf_111 hq
                                  · rw [if_neg c17] at H
                                    by_cases c18 : (p0 - 2000) = 59
                                    · rw [if_pos c18] at H
                                      refine Wp.pure (p2 := 110) (ls2 := [some (.int p0)]) (st2 := []) (h2 := h) xi_62 dX6_bindingOf_5 rfl rfl rfl (by rw [c18]; rfl) ?_
                                      refine wp_iconst 4 xi_62 dX6_bindingOf_110 rfl ?_
                                      obtain ⟨rfl, rfl⟩ := oi2 H
                                      exact wp_iret xi_62 dX6_bindingOf_111 hq
                                    · rw [if_neg c18] at H
                                      by_cases c19 : (p0 - 2000) = 60
                                      · rw [if_pos c19] at H
                                        refine Wp.pure (p2 := 104) (ls2 := [some (.int p0)]) (st2 := []) (h2 := h) xi_62 dX6_bindingOf_5 rfl rfl rfl (by rw [c19]; rfl) ?_
                                        refine wp_iconst 1 xi_62 dX6_bindingOf_104 rfl ?_
                                        obtain ⟨rfl, rfl⟩ := oi2 H
                                        exact wp_iret xi_62 dX6_bindingOf_105 hq
                                      · rw [if_neg c19] at H
                                        by_cases c20 : (p0 - 2000) = 61
                                        · rw [if_pos c20] at H
                                          refine Wp.pure (p2 := 104) (ls2 := [some (.int p0)]) (st2 := []) (h2 := h) xi_62 dX6_bindingOf_5 rfl rfl rfl (by rw [c20]; rfl) ?_
                                          refine wp_iconst 1 xi_62 dX6_bindingOf_104 rfl ?_
                                          obtain ⟨rfl, rfl⟩ := oi2 H
                                          exact wp_iret xi_62 dX6_bindingOf_105 hq
                                        · rw [if_neg c20] at H
                                          by_cases c21 : (p0 - 2000) = 62
                                          · rw [if_pos c21] at H
                                            refine Wp.pure (p2 := 104) (ls2 := [some (.int p0)]) (st2 := []) (h2 := h) xi_62 dX6_bindingOf_5 rfl rfl rfl (by rw [c21]; rfl) ?_
                                            refine wp_iconst 1 xi_62 dX6_bindingOf_104 rfl ?_
                                            obtain ⟨rfl, rfl⟩ := oi2 H
                                            exact wp_iret xi_62 dX6_bindingOf_105 hq
                                          · rw [if_neg c21] at H
                                            have ec1 := lv_neT c1 (a := 42) (by decide)
                                            have ec2 := lv_neT c2 (a := 43) (by decide)
                                            have ec3 := lv_neT c3 (a := 44) (by decide)
                                            have ec4 := lv_neT c4 (a := 45) (by decide)
                                            have ec5 := lv_neT c5 (a := 46) (by decide)
                                            have ec6 := lv_neT c6 (a := 47) (by decide)
                                            have ec7 := lv_neT c7 (a := 48) (by decide)
                                            have ec8 := lv_neT c8 (a := 49) (by decide)
                                            have ec9 := lv_neT c9 (a := 50) (by decide)
                                            have ec10 := lv_neT c10 (a := 51) (by decide)
                                            have ec11 := lv_neT c11 (a := 52) (by decide)
                                            have ec12 := lv_neT c12 (a := 53) (by decide)
                                            have ec13 := lv_neT c13 (a := 54) (by decide)
                                            have ec14 := lv_neT c14 (a := 55) (by decide)
                                            have ec15 := lv_neT c15 (a := 56) (by decide)
                                            have ec16 := lv_neT c16 (a := 57) (by decide)
                                            have ec17 := lv_neT c17 (a := 58) (by decide)
                                            have ec18 := lv_neT c18 (a := 59) (by decide)
                                            have ec19 := lv_neT c19 (a := 60) (by decide)
                                            have ec20 := lv_neT c20 (a := 61) (by decide)
                                            have ec21 := lv_neT c21 (a := 62) (by decide)
                                            refine Wp.pure (p2 := 110) (ls2 := [some (.int p0)]) (st2 := []) (h2 := h) xi_62 dX6_bindingOf_5 rfl rfl rfl (by simp only [xPure, xJ]; rw [if_pos (by omega)]; rfl) ?_
                                            refine wp_iconst 4 xi_62 dX6_bindingOf_110 rfl ?_
                                            obtain ⟨rfl, rfl⟩ := oi2 H
                                            exact wp_iret xi_62 dX6_bindingOf_111 hq
/- FelledHasLost$Rule.releaseDownTo(I)V -/
def f_63_7  : Nat → Nat → Int32 → Int32 → xH → Option ((xH) ⊕ (xH))
  | 0, _, _, _, _ => none
  | n + 1, a0, a1, a2, h =>
  (if a2 < 0 then
  some (.inl (h))
  else
  (pFr h a0 6 2).bind fun x2 =>
  (pAi h x2 a2).bind fun x3 =>
  (if x3 = 4000 then
  some (.inr h)
  else
  (pFr h a0 6 2).bind fun x5 =>
  (pAi h x5 a2).bind fun x6 =>
  (f_62 x6 h).bind fun (x8, h7) =>
  (if a1 ≤ x8 then
  (pFr h7 a0 6 2).bind fun x10 =>
  (pAi h7 x10 a2).bind fun x11 =>
  (pG (pIs h7 a0 6)).bind fun _ =>
  (f_57 a0 x11 h7).bind fun h13 =>
  (pP h13 a0 6 7 (.int a2)).bind fun h14 =>
  f_63_7 n a0 a1 (a2 + (-1)) h14
  else
  some (.inr h7))))
theorem ef_63_7 (d : Nat) (Q : Option Value → xH → Prop)  : ∀ (n : Nat) (a0 : Nat) (a1 : Int32) (a2 : Int32) (h : xH) (r : (xH) ⊕ (xH)), f_63_7 n a0 a1 a2 h = some r → (∀  (h1 : xH), r = .inl h1 → Wp (d + 1) 63 58 [none, none, none] [] h1 Q) → (∀ (h1 : xH), r = .inr h1 → Q none h1) → Wp (d + 1) 63 7 [some (.ref a0), some (.int a1), some (.int a2)] [] h Q := by
  intro n
  induction n with
  | zero =>
    intro a0 a1 a2 h r H
    cases H
  | succ n ih =>
    intro a0 a1 a2 h r H KE KR
    unfold f_63_7 at H
    refine wp_iload_n xi_63 dX6_releaseDownTo_7 rfl ?_
    refine wp_if_lt 58 xi_63 dX6_releaseDownTo_8 rfl (fun c1 => ?_) (fun c1 => ?_)
    · rw [if_pos c1] at H
      obtain rfl := Option.some.inj H
      exact Wp.more (by simp [xMore, Value.category]) (KE  h rfl)
    · rw [if_neg c1] at H
      refine wp_aload_n xi_63 dX6_releaseDownTo_11 rfl ?_
      obtain ⟨x2, gx2, H⟩ := Option.bind_eq_some_iff.mp H
      refine wq_getfr xi_63 dX6_releaseDownTo_12 xf_6_18 gx2 ?_
      refine wp_iload_n xi_63 dX6_releaseDownTo_15 rfl ?_
      obtain ⟨x3, gx3, H⟩ := Option.bind_eq_some_iff.mp H
      refine wq_iaload xi_63 dX6_releaseDownTo_16 gx3 ?_
      refine wp_sipush 4000 xi_63 dX6_releaseDownTo_17 rfl ?_
      refine wp_icmp_eq 36 xi_63 dX6_releaseDownTo_20 rfl (fun c4 => ?_) (fun c4 => ?_)
      · rw [if_pos c4] at H
        obtain rfl := Option.some.inj H
        exact wp_vret xi_63 dX6_releaseDownTo_36 (KR _ rfl)
      · rw [if_neg c4] at H
        refine wp_aload_n xi_63 dX6_releaseDownTo_23 rfl ?_
        obtain ⟨x5, gx5, H⟩ := Option.bind_eq_some_iff.mp H
        refine wq_getfr xi_63 dX6_releaseDownTo_24 xf_6_18 gx5 ?_
        refine wp_iload_n xi_63 dX6_releaseDownTo_27 rfl ?_
        obtain ⟨x6, gx6, H⟩ := Option.bind_eq_some_iff.mp H
        refine wq_iaload xi_63 dX6_releaseDownTo_28 gx6 ?_
        obtain ⟨⟨x8, h7⟩, gh7, H⟩ := Option.bind_eq_some_iff.mp H
        dsimp only at H
        refine wq_callS (as := [.int x6]) (r := []) (v1 := (some (.int x8))) xi_63 xi_62 dX6_releaseDownTo_29 xm_6_121 rfl (Nat.le_of_ble_eq_true rfl) ⟨(Nat.le_of_ble_eq_true rfl), (Nat.le_of_ble_eq_true rfl)⟩ rfl nofun (e_62 d _ gh7 ⟨rfl, rfl⟩) ?_
        change Wp _ _ _ _ [.int x8] _ _
        refine wp_iload_n xi_63 dX6_releaseDownTo_32 rfl ?_
        refine wp_icmp_ge 37 xi_63 dX6_releaseDownTo_33 rfl (fun c9 => ?_) (fun c9 => ?_)
        · rw [if_pos c9] at H
          refine wp_aload_n xi_63 dX6_releaseDownTo_37 rfl ?_
          refine wp_aload_n xi_63 dX6_releaseDownTo_38 rfl ?_
          obtain ⟨x10, gx10, H⟩ := Option.bind_eq_some_iff.mp H
          refine wq_getfr xi_63 dX6_releaseDownTo_39 xf_6_18 gx10 ?_
          refine wp_iload_n xi_63 dX6_releaseDownTo_42 rfl ?_
          obtain ⟨x11, gx11, H⟩ := Option.bind_eq_some_iff.mp H
          refine wq_iaload xi_63 dX6_releaseDownTo_43 gx11 ?_
          obtain ⟨u12, gu12, H⟩ := Option.bind_eq_some_iff.mp H
          obtain ⟨h13, gh13, H⟩ := Option.bind_eq_some_iff.mp H
          refine wq_callV (a := a0) (as := [.int x11]) (r := []) (v1 := none) xi_63 xi_57 dX6_releaseDownTo_44 xm_6_93 rfl (Nat.le_of_ble_eq_true rfl) (pG_ok gu12) ⟨(Nat.le_of_ble_eq_true rfl), (Nat.le_of_ble_eq_true rfl)⟩ rfl nofun (e_57 d _ gh13 ⟨rfl, rfl⟩) ?_
          change Wp _ _ _ _ [] _ _
          refine wp_aload_n xi_63 dX6_releaseDownTo_47 rfl ?_
          refine wp_iload_n xi_63 dX6_releaseDownTo_48 rfl ?_
          obtain ⟨h14, gh14, H⟩ := Option.bind_eq_some_iff.mp H
          refine wq_putf xi_63 dX6_releaseDownTo_49 xf_6_79 (Or.inl rfl) gh14 ?_
          refine wp_iinc (a2 + (-1)) [some (.ref a0), some (.int a1), some (.int (a2 + (-1)))] xi_63 dX6_releaseDownTo_52 rfl rfl rfl ?_
          refine wp_goto 7 xi_63 dX6_releaseDownTo_55 rfl ?_
          exact Wp.more (by simp [xMore, Value.category]) (ih a0 a1 (a2 + (-1)) h14 _ H KE KR)
        · rw [if_neg c9] at H
          obtain rfl := Option.some.inj H
          exact wp_vret xi_63 dX6_releaseDownTo_36 (KR _ rfl)
def f_63  (a : Nat) (p0 : Int32) (h : xH) : Option (xH) :=
  (pFi h a 6 7).bind fun x1 =>
  (f_63_7 100000 a p0 (x1 - 1) h).bind fun r5 => match r5 with
  | .inl h2 =>
  some h2
  | .inr h7 => some h7
set_option maxHeartbeats 4000000 in
theorem e_63 (d : Nat) (Q : Option Value → xH → Prop)  {h : xH} {a : Nat} {p0 : Int32} {h1 : xH} (H : f_63  a p0 h = some h1) (hq : Q none h1) : Wp (d + 1) 63 0 [some (.ref a), some (.int p0), none] [] h Q := by
  unfold f_63 at H
  refine wp_aload_n xi_63 dX6_releaseDownTo_0 rfl ?_
  obtain ⟨x1, gx1, H⟩ := Option.bind_eq_some_iff.mp H
  refine wq_getfi xi_63 dX6_releaseDownTo_1 xf_6_79 gx1 ?_
  refine wp_iconst 1 xi_63 dX6_releaseDownTo_4 rfl ?_
  refine wp_isub xi_63 dX6_releaseDownTo_5 ?_
  refine wp_istore_n [some (.ref a), some (.int p0), some (.int (x1 - 1))] xi_63 dX6_releaseDownTo_6 rfl ?_
  obtain ⟨r5, G3, H⟩ := Option.bind_eq_some_iff.mp H
  refine Wp.more (by simp [xMore, Value.category]) (ef_63_7 d Q  100000 a p0 (x1 - 1) h _ G3 (fun z0 e9 => ?_) (fun h1 e9 => ?_))
  · subst e9
    dsimp only at H
    obtain ⟨h2, rfl⟩ : ∃ z, z = z0 := ⟨_, rfl⟩
    obtain rfl := Option.some.inj H
    exact wp_vret xi_63 dX6_releaseDownTo_58 hq
  · subst e9
    dsimp only at H
    obtain rfl := Option.some.inj H
    exact hq
/- FelledHasLost$Rule.factOf([II)I -/
def f_65  (p0 : Nat) (p1 : Int32) (h : xH) : Option (Int32 × xH) :=
  ((if p1 < 0 then
  some (0)
  else
  (pLen h p0).bind fun x7 =>
  (if x7 ≤ p1 then
  some (0)
  else
  (pAi h p0 p1).bind fun x9 =>
  some (x9)) : Option (Int32))).bind fun (w5 : Int32) =>
  some (w5, h)
set_option maxHeartbeats 4000000 in
theorem e_65 (d : Nat) (Q : Option Value → xH → Prop)  {h : xH} {p0 : Nat} {p1 : Int32} {x : Int32} {h1 : xH} (H : f_65  p0 p1 h = some (x, h1)) (hq : Q (some (.int x)) h1) : Wp (d + 0) 65 0 [some (.ref p0), some (.int p1)] [] h Q := by
  unfold f_65 at H
  refine wp_iload_n xi_65 dX6_factOf_0 rfl ?_
  obtain ⟨w5, G10, H⟩ := Option.bind_eq_some_iff.mp H
  have K6 : Wp (d + 0) 65 17 [some (.ref p0), some (.int p1)] [.int w5] h Q := by
    obtain ⟨rfl, rfl⟩ := oi2 H
    exact wp_iret xi_65 dX6_factOf_17 hq
  clear H
  have H := G10
  clear G10
  refine wp_if_lt 16 xi_65 dX6_factOf_1 rfl (fun c1 => ?_) (fun c1 => ?_)
  · rw [if_pos c1] at H
    refine wp_iconst 0 xi_65 dX6_factOf_16 rfl ?_
    obtain rfl := Option.some.inj H
    exact Wp.more (by simp [xMore, Value.category]) K6
  · rw [if_neg c1] at H
    refine wp_iload_n xi_65 dX6_factOf_4 rfl ?_
    refine wp_aload_n xi_65 dX6_factOf_5 rfl ?_
    obtain ⟨x7, gx7, H⟩ := Option.bind_eq_some_iff.mp H
    refine wq_alen xi_65 dX6_factOf_6 gx7 ?_
    refine wp_icmp_ge 16 xi_65 dX6_factOf_7 rfl (fun c8 => ?_) (fun c8 => ?_)
    · rw [if_pos c8] at H
      refine wp_iconst 0 xi_65 dX6_factOf_16 rfl ?_
      obtain rfl := Option.some.inj H
      exact Wp.more (by simp [xMore, Value.category]) K6
    · rw [if_neg c8] at H
      refine wp_aload_n xi_65 dX6_factOf_10 rfl ?_
      refine wp_iload_n xi_65 dX6_factOf_11 rfl ?_
      obtain ⟨x9, gx9, H⟩ := Option.bind_eq_some_iff.mp H
      refine wq_iaload xi_65 dX6_factOf_12 gx9 ?_
      refine wp_goto 17 xi_65 dX6_factOf_13 rfl ?_
      obtain rfl := Option.some.inj H
      exact Wp.more (by simp [xMore, Value.category]) K6
