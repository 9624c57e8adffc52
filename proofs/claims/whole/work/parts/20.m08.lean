/- FelledHasLostModel.row(I)J -/
def f_264  (a : Nat) (p0 : Int32) (h : xH) : Option (Int64 × xH) :=
  (pP h a 12 0 (.int 0)).bind fun h1 =>
  (pFi h1 a 12 1).bind fun x2 =>
  (f_162 ((p0 : Int32).toInt64) (0 : Int64) (((x2 - 1) : Int32).toInt64) h1).bind fun (x4, h3) =>
  (if x4 = 0 then
  (pP h3 a 12 0 (.int 1)).bind fun h8 =>
  some ((0 : Int64), h8)
  else
  (pFr h3 a 12 2).bind fun x6 =>
  (pAl h3 x6 p0).bind fun x7 =>
  some (x7, h3))
set_option maxHeartbeats 4000000 in
theorem e_264 (d : Nat) (Q : Option Value → xH → Prop)  {h : xH} {a : Nat} {p0 : Int32} {x : Int64} {h1 : xH} (H : f_264  a p0 h = some (x, h1)) (hq : Q (some (.long x)) h1) : Wp (d + 1) 264 0 [some (.ref a), some (.int p0)] [] h Q := by
  unfold f_264 at H
  refine wp_aload_n xi_264 dX12_row_0 rfl ?_
  refine wp_iconst 0 xi_264 dX12_row_1 rfl ?_
  obtain ⟨h1, gh1, H⟩ := Option.bind_eq_some_iff.mp H
  refine wq_putf xi_264 dX12_row_2 xf_12_3 (Or.inl rfl) gh1 ?_
  refine wp_iload_n xi_264 dX12_row_5 rfl ?_
  refine wp_i2l xi_264 dX12_row_6 ?_
  refine wp_lconst 0 xi_264 dX12_row_7 rfl ?_
  refine wp_aload_n xi_264 dX12_row_8 rfl ?_
  obtain ⟨x2, gx2, H⟩ := Option.bind_eq_some_iff.mp H
  refine wq_getfi xi_264 dX12_row_9 xf_12_15 gx2 ?_
  refine wp_iconst 1 xi_264 dX12_row_12 rfl ?_
  refine wp_isub xi_264 dX12_row_13 ?_
  refine wp_i2l xi_264 dX12_row_14 ?_
  obtain ⟨⟨x4, h3⟩, gh3, H⟩ := Option.bind_eq_some_iff.mp H
  dsimp only at H
  refine wq_callS (as := [.long ((p0 : Int32).toInt64), .long (0 : Int64), .long (((x2 - 1) : Int32).toInt64)]) (r := []) (v1 := (some (.int x4))) xi_264 xi_162 dX12_row_15 xm_12_135 rfl (Nat.le_of_ble_eq_true rfl) ⟨(Nat.le_of_ble_eq_true rfl), (Nat.le_of_ble_eq_true rfl)⟩ rfl nofun (e_162 d _ gh3 ⟨rfl, rfl⟩) ?_
  change Wp _ _ _ _ [.int x4] _ _
  refine wp_if_ne 28 xi_264 dX12_row_18 rfl (fun c5 => ?_) (fun c5 => ?_)
  · rw [if_neg c5] at H
    refine wp_aload_n xi_264 dX12_row_28 rfl ?_
    obtain ⟨x6, gx6, H⟩ := Option.bind_eq_some_iff.mp H
    refine wq_getfr xi_264 dX12_row_29 xf_12_11 gx6 ?_
    refine wp_iload_n xi_264 dX12_row_32 rfl ?_
    obtain ⟨x7, gx7, H⟩ := Option.bind_eq_some_iff.mp H
    refine wq_laload xi_264 dX12_row_33 gx7 ?_
    obtain ⟨rfl, rfl⟩ := oi2 H
    exact wp_lret xi_264 dX12_row_34 hq
  · rw [if_pos c5] at H
    refine wp_aload_n xi_264 dX12_row_21 rfl ?_
    refine wp_iconst 1 xi_264 dX12_row_22 rfl ?_
    obtain ⟨h8, gh8, H⟩ := Option.bind_eq_some_iff.mp H
    refine wq_putf xi_264 dX12_row_23 xf_12_3 (Or.inl rfl) gh8 ?_
    refine wp_lconst 0 xi_264 dX12_row_26 rfl ?_
    obtain ⟨rfl, rfl⟩ := oi2 H
    exact wp_lret xi_264 dX12_row_27 hq
/- java/util/Arrays.fill([JJ)V -/
def f_265_6  : Nat → Nat → Int64 → Int32 → Int32 → xH → Option (xH)
  | 0, _, _, _, _, _ => none
  | n + 1, a0, a1, a3, a4, h =>
  (if a4 ≤ a3 then
  some (h)
  else
  (pSl h a0 a3 a1).bind fun h2 =>
  f_265_6 n a0 a1 (a3 + 1) a4 h2)
theorem ef_265_6 (d : Nat) (Q : Option Value → xH → Prop)  : ∀ (n : Nat) (a0 : Nat) (a1 : Int64) (a3 : Int32) (a4 : Int32) (h : xH) (r : xH), f_265_6 n a0 a1 a3 a4 h = some r → (∀  (h1 : xH), r = h1 → Wp (d + 0) 265 22 [none, some (.long a1), none, none, none] [] h1 Q) → Wp (d + 0) 265 6 [some (.ref a0), some (.long a1), none, some (.int a3), some (.int a4)] [] h Q := by
  intro n
  induction n with
  | zero =>
    intro a0 a1 a3 a4 h r H
    cases H
  | succ n ih =>
    intro a0 a1 a3 a4 h r H KE
    unfold f_265_6 at H
    refine wp_iload_n xi_265 dJ7_fill_d0a16_6 rfl ?_
    refine wp_iload xi_265 dJ7_fill_d0a16_7 rfl ?_
    refine wp_icmp_ge 22 xi_265 dJ7_fill_d0a16_9 rfl (fun c1 => ?_) (fun c1 => ?_)
    · rw [if_pos c1] at H
      obtain rfl := Option.some.inj H
      exact Wp.more (by simp [xMore, Value.category]) (KE  h rfl)
    · rw [if_neg c1] at H
      refine wp_aload_n xi_265 dJ7_fill_d0a16_12 rfl ?_
      refine wp_iload_n xi_265 dJ7_fill_d0a16_13 rfl ?_
      refine wp_lload_n xi_265 dJ7_fill_d0a16_14 rfl ?_
      obtain ⟨h2, gh2, H⟩ := Option.bind_eq_some_iff.mp H
      refine wq_lastore xi_265 dJ7_fill_d0a16_15 gh2 ?_
      refine wp_iinc (a3 + 1) [some (.ref a0), some (.long a1), none, some (.int (a3 + 1)), some (.int a4)] xi_265 dJ7_fill_d0a16_16 rfl rfl rfl ?_
      refine wp_goto 6 xi_265 dJ7_fill_d0a16_19 rfl ?_
      exact Wp.more (by simp [xMore, Value.category]) (ih a0 a1 (a3 + 1) a4 h2 _ H KE)
def f_265  (p0 : Nat) (p1 : Int64) (h : xH) : Option (xH) :=
  (pLen h p0).bind fun x1 =>
  (f_265_6 100000 p0 p1 0 x1 h).bind fun h2 =>
  some h2
set_option maxHeartbeats 4000000 in
theorem e_265 (d : Nat) (Q : Option Value → xH → Prop)  {h : xH} {p0 : Nat} {p1 : Int64} {h1 : xH} (H : f_265  p0 p1 h = some h1) (hq : Q none h1) : Wp (d + 0) 265 0 [some (.ref p0), some (.long p1), none, none, none] [] h Q := by
  unfold f_265 at H
  refine wp_iconst 0 xi_265 dJ7_fill_d0a16_0 rfl ?_
  refine wp_istore_n [some (.ref p0), some (.long p1), none, some (.int 0), none] xi_265 dJ7_fill_d0a16_1 rfl ?_
  refine wp_aload_n xi_265 dJ7_fill_d0a16_2 rfl ?_
  obtain ⟨x1, gx1, H⟩ := Option.bind_eq_some_iff.mp H
  refine wq_alen xi_265 dJ7_fill_d0a16_3 gx1 ?_
  refine wp_istore [some (.ref p0), some (.long p1), none, some (.int 0), some (.int x1)] xi_265 dJ7_fill_d0a16_4 rfl ?_
  obtain ⟨h2, G3, H⟩ := Option.bind_eq_some_iff.mp H
  refine Wp.more (by simp [xMore, Value.category]) (ef_265_6 d Q  100000 p0 p1 0 x1 h _ G3 (fun z0 e9 => ?_))
  cases e9
  obtain rfl := Option.some.inj H
  exact wp_vret xi_265 dJ7_fill_d0a16_22 hq
/- java/util/Arrays.fill([II)V -/
def f_266_5  : Nat → Nat → Int32 → Int32 → Int32 → xH → Option (xH)
  | 0, _, _, _, _, _ => none
  | n + 1, a0, a1, a2, a3, h =>
  (if a3 ≤ a2 then
  some (h)
  else
  (pSi h a0 a2 a1).bind fun h2 =>
  f_266_5 n a0 a1 (a2 + 1) a3 h2)
theorem ef_266_5 (d : Nat) (Q : Option Value → xH → Prop)  : ∀ (n : Nat) (a0 : Nat) (a1 : Int32) (a2 : Int32) (a3 : Int32) (h : xH) (r : xH), f_266_5 n a0 a1 a2 a3 h = some r → (∀  (h1 : xH), r = h1 → Wp (d + 0) 266 20 [none, none, none, none] [] h1 Q) → Wp (d + 0) 266 5 [some (.ref a0), some (.int a1), some (.int a2), some (.int a3)] [] h Q := by
  intro n
  induction n with
  | zero =>
    intro a0 a1 a2 a3 h r H
    cases H
  | succ n ih =>
    intro a0 a1 a2 a3 h r H KE
    unfold f_266_5 at H
    refine wp_iload_n xi_266 dJ7_fill_53178_5 rfl ?_
    refine wp_iload_n xi_266 dJ7_fill_53178_6 rfl ?_
    refine wp_icmp_ge 20 xi_266 dJ7_fill_53178_7 rfl (fun c1 => ?_) (fun c1 => ?_)
    · rw [if_pos c1] at H
      obtain rfl := Option.some.inj H
      exact Wp.more (by simp [xMore, Value.category]) (KE  h rfl)
    · rw [if_neg c1] at H
      refine wp_aload_n xi_266 dJ7_fill_53178_10 rfl ?_
      refine wp_iload_n xi_266 dJ7_fill_53178_11 rfl ?_
      refine wp_iload_n xi_266 dJ7_fill_53178_12 rfl ?_
      obtain ⟨h2, gh2, H⟩ := Option.bind_eq_some_iff.mp H
      refine wq_iastore xi_266 dJ7_fill_53178_13 gh2 ?_
      refine wp_iinc (a2 + 1) [some (.ref a0), some (.int a1), some (.int (a2 + 1)), some (.int a3)] xi_266 dJ7_fill_53178_14 rfl rfl rfl ?_
      refine wp_goto 5 xi_266 dJ7_fill_53178_17 rfl ?_
      exact Wp.more (by simp [xMore, Value.category]) (ih a0 a1 (a2 + 1) a3 h2 _ H KE)
def f_266  (p0 : Nat) (p1 : Int32) (h : xH) : Option (xH) :=
  (pLen h p0).bind fun x1 =>
  (f_266_5 100000 p0 p1 0 x1 h).bind fun h2 =>
  some h2
set_option maxHeartbeats 4000000 in
theorem e_266 (d : Nat) (Q : Option Value → xH → Prop)  {h : xH} {p0 : Nat} {p1 : Int32} {h1 : xH} (H : f_266  p0 p1 h = some h1) (hq : Q none h1) : Wp (d + 0) 266 0 [some (.ref p0), some (.int p1), none, none] [] h Q := by
  unfold f_266 at H
  refine wp_iconst 0 xi_266 dJ7_fill_53178_0 rfl ?_
  refine wp_istore_n [some (.ref p0), some (.int p1), some (.int 0), none] xi_266 dJ7_fill_53178_1 rfl ?_
  refine wp_aload_n xi_266 dJ7_fill_53178_2 rfl ?_
  obtain ⟨x1, gx1, H⟩ := Option.bind_eq_some_iff.mp H
  refine wq_alen xi_266 dJ7_fill_53178_3 gx1 ?_
  refine wp_istore_n [some (.ref p0), some (.int p1), some (.int 0), some (.int x1)] xi_266 dJ7_fill_53178_4 rfl ?_
  obtain ⟨h2, G3, H⟩ := Option.bind_eq_some_iff.mp H
  refine Wp.more (by simp [xMore, Value.category]) (ef_266_5 d Q  100000 p0 p1 0 x1 h _ G3 (fun z0 e9 => ?_))
  cases e9
  obtain rfl := Option.some.inj H
  exact wp_vret xi_266 dJ7_fill_53178_20 hq
/- java/lang/Integer.bitCount(I)I -/
def f_267  (p0 : Int32) (h : xH) : Option (Int32 × xH) :=
  some (((((((((p0 - ((((p0 : Int32).toUInt32 >>> ((1 : Int32).toUInt32 &&& Int32.toUInt32 31)).toInt32) &&& (1431655765))) &&& (858993459)) + (((((p0 - ((((p0 : Int32).toUInt32 >>> ((1 : Int32).toUInt32 &&& Int32.toUInt32 31)).toInt32) &&& (1431655765))) : Int32).toUInt32 >>> ((2 : Int32).toUInt32 &&& Int32.toUInt32 31)).toInt32) &&& (858993459))) + ((((((p0 - ((((p0 : Int32).toUInt32 >>> ((1 : Int32).toUInt32 &&& Int32.toUInt32 31)).toInt32) &&& (1431655765))) &&& (858993459)) + (((((p0 - ((((p0 : Int32).toUInt32 >>> ((1 : Int32).toUInt32 &&& Int32.toUInt32 31)).toInt32) &&& (1431655765))) : Int32).toUInt32 >>> ((2 : Int32).toUInt32 &&& Int32.toUInt32 31)).toInt32) &&& (858993459))) : Int32).toUInt32 >>> ((4 : Int32).toUInt32 &&& Int32.toUInt32 31)).toInt32)) &&& (252645135)) + ((((((((p0 - ((((p0 : Int32).toUInt32 >>> ((1 : Int32).toUInt32 &&& Int32.toUInt32 31)).toInt32) &&& (1431655765))) &&& (858993459)) + (((((p0 - ((((p0 : Int32).toUInt32 >>> ((1 : Int32).toUInt32 &&& Int32.toUInt32 31)).toInt32) &&& (1431655765))) : Int32).toUInt32 >>> ((2 : Int32).toUInt32 &&& Int32.toUInt32 31)).toInt32) &&& (858993459))) + ((((((p0 - ((((p0 : Int32).toUInt32 >>> ((1 : Int32).toUInt32 &&& Int32.toUInt32 31)).toInt32) &&& (1431655765))) &&& (858993459)) + (((((p0 - ((((p0 : Int32).toUInt32 >>> ((1 : Int32).toUInt32 &&& Int32.toUInt32 31)).toInt32) &&& (1431655765))) : Int32).toUInt32 >>> ((2 : Int32).toUInt32 &&& Int32.toUInt32 31)).toInt32) &&& (858993459))) : Int32).toUInt32 >>> ((4 : Int32).toUInt32 &&& Int32.toUInt32 31)).toInt32)) &&& (252645135)) : Int32).toUInt32 >>> ((8 : Int32).toUInt32 &&& Int32.toUInt32 31)).toInt32)) + (((((((((p0 - ((((p0 : Int32).toUInt32 >>> ((1 : Int32).toUInt32 &&& Int32.toUInt32 31)).toInt32) &&& (1431655765))) &&& (858993459)) + (((((p0 - ((((p0 : Int32).toUInt32 >>> ((1 : Int32).toUInt32 &&& Int32.toUInt32 31)).toInt32) &&& (1431655765))) : Int32).toUInt32 >>> ((2 : Int32).toUInt32 &&& Int32.toUInt32 31)).toInt32) &&& (858993459))) + ((((((p0 - ((((p0 : Int32).toUInt32 >>> ((1 : Int32).toUInt32 &&& Int32.toUInt32 31)).toInt32) &&& (1431655765))) &&& (858993459)) + (((((p0 - ((((p0 : Int32).toUInt32 >>> ((1 : Int32).toUInt32 &&& Int32.toUInt32 31)).toInt32) &&& (1431655765))) : Int32).toUInt32 >>> ((2 : Int32).toUInt32 &&& Int32.toUInt32 31)).toInt32) &&& (858993459))) : Int32).toUInt32 >>> ((4 : Int32).toUInt32 &&& Int32.toUInt32 31)).toInt32)) &&& (252645135)) + ((((((((p0 - ((((p0 : Int32).toUInt32 >>> ((1 : Int32).toUInt32 &&& Int32.toUInt32 31)).toInt32) &&& (1431655765))) &&& (858993459)) + (((((p0 - ((((p0 : Int32).toUInt32 >>> ((1 : Int32).toUInt32 &&& Int32.toUInt32 31)).toInt32) &&& (1431655765))) : Int32).toUInt32 >>> ((2 : Int32).toUInt32 &&& Int32.toUInt32 31)).toInt32) &&& (858993459))) + ((((((p0 - ((((p0 : Int32).toUInt32 >>> ((1 : Int32).toUInt32 &&& Int32.toUInt32 31)).toInt32) &&& (1431655765))) &&& (858993459)) + (((((p0 - ((((p0 : Int32).toUInt32 >>> ((1 : Int32).toUInt32 &&& Int32.toUInt32 31)).toInt32) &&& (1431655765))) : Int32).toUInt32 >>> ((2 : Int32).toUInt32 &&& Int32.toUInt32 31)).toInt32) &&& (858993459))) : Int32).toUInt32 >>> ((4 : Int32).toUInt32 &&& Int32.toUInt32 31)).toInt32)) &&& (252645135)) : Int32).toUInt32 >>> ((8 : Int32).toUInt32 &&& Int32.toUInt32 31)).toInt32)) : Int32).toUInt32 >>> ((16 : Int32).toUInt32 &&& Int32.toUInt32 31)).toInt32)) &&& 63), h)
set_option maxHeartbeats 4000000 in
theorem e_267 (d : Nat) (Q : Option Value → xH → Prop)  {h : xH} {p0 : Int32} {x : Int32} {h1 : xH} (H : f_267  p0 h = some (x, h1)) (hq : Q (some (.int x)) h1) : Wp (d + 0) 267 0 [some (.int p0)] [] h Q := by
  unfold f_267 at H
  refine wp_iload_n xi_267 dJ6_bitCount_0f7a4_0 rfl ?_
  refine wp_iload_n xi_267 dJ6_bitCount_0f7a4_1 rfl ?_
  refine wp_iconst 1 xi_267 dJ6_bitCount_0f7a4_2 rfl ?_
  refine wp_iushr xi_267 dJ6_bitCount_0f7a4_3 ?_
  refine wp_ldc_w xi_267 dJ6_bitCount_0f7a4_4 xc_15_265 ?_
  refine wp_iand xi_267 dJ6_bitCount_0f7a4_7 ?_
  refine wp_isub xi_267 dJ6_bitCount_0f7a4_8 ?_
  refine wp_istore_n [some (.int (p0 - ((((p0 : Int32).toUInt32 >>> ((1 : Int32).toUInt32 &&& Int32.toUInt32 31)).toInt32) &&& (1431655765))))] xi_267 dJ6_bitCount_0f7a4_9 rfl ?_
  refine wp_iload_n xi_267 dJ6_bitCount_0f7a4_10 rfl ?_
  refine wp_ldc_w xi_267 dJ6_bitCount_0f7a4_11 xc_15_266 ?_
  refine wp_iand xi_267 dJ6_bitCount_0f7a4_14 ?_
  refine wp_iload_n xi_267 dJ6_bitCount_0f7a4_15 rfl ?_
  refine wp_iconst 2 xi_267 dJ6_bitCount_0f7a4_16 rfl ?_
  refine wp_iushr xi_267 dJ6_bitCount_0f7a4_17 ?_
  refine wp_ldc_w xi_267 dJ6_bitCount_0f7a4_18 xc_15_266 ?_
  refine wp_iand xi_267 dJ6_bitCount_0f7a4_21 ?_
  refine wp_iadd xi_267 dJ6_bitCount_0f7a4_22 ?_
  refine wp_istore_n [some (.int (((p0 - ((((p0 : Int32).toUInt32 >>> ((1 : Int32).toUInt32 &&& Int32.toUInt32 31)).toInt32) &&& (1431655765))) &&& (858993459)) + (((((p0 - ((((p0 : Int32).toUInt32 >>> ((1 : Int32).toUInt32 &&& Int32.toUInt32 31)).toInt32) &&& (1431655765))) : Int32).toUInt32 >>> ((2 : Int32).toUInt32 &&& Int32.toUInt32 31)).toInt32) &&& (858993459))))] xi_267 dJ6_bitCount_0f7a4_23 rfl ?_
  refine wp_iload_n xi_267 dJ6_bitCount_0f7a4_24 rfl ?_
  refine wp_iload_n xi_267 dJ6_bitCount_0f7a4_25 rfl ?_
  refine wp_iconst 4 xi_267 dJ6_bitCount_0f7a4_26 rfl ?_
  refine wp_iushr xi_267 dJ6_bitCount_0f7a4_27 ?_
  refine wp_iadd xi_267 dJ6_bitCount_0f7a4_28 ?_
  refine wp_ldc_w xi_267 dJ6_bitCount_0f7a4_29 xc_15_267 ?_
  refine wp_iand xi_267 dJ6_bitCount_0f7a4_32 ?_
  refine wp_istore_n [some (.int (((((p0 - ((((p0 : Int32).toUInt32 >>> ((1 : Int32).toUInt32 &&& Int32.toUInt32 31)).toInt32) &&& (1431655765))) &&& (858993459)) + (((((p0 - ((((p0 : Int32).toUInt32 >>> ((1 : Int32).toUInt32 &&& Int32.toUInt32 31)).toInt32) &&& (1431655765))) : Int32).toUInt32 >>> ((2 : Int32).toUInt32 &&& Int32.toUInt32 31)).toInt32) &&& (858993459))) + ((((((p0 - ((((p0 : Int32).toUInt32 >>> ((1 : Int32).toUInt32 &&& Int32.toUInt32 31)).toInt32) &&& (1431655765))) &&& (858993459)) + (((((p0 - ((((p0 : Int32).toUInt32 >>> ((1 : Int32).toUInt32 &&& Int32.toUInt32 31)).toInt32) &&& (1431655765))) : Int32).toUInt32 >>> ((2 : Int32).toUInt32 &&& Int32.toUInt32 31)).toInt32) &&& (858993459))) : Int32).toUInt32 >>> ((4 : Int32).toUInt32 &&& Int32.toUInt32 31)).toInt32)) &&& (252645135)))] xi_267 dJ6_bitCount_0f7a4_33 rfl ?_
  refine wp_iload_n xi_267 dJ6_bitCount_0f7a4_34 rfl ?_
  refine wp_iload_n xi_267 dJ6_bitCount_0f7a4_35 rfl ?_
  refine wp_bipush 8 xi_267 dJ6_bitCount_0f7a4_36 rfl ?_
  refine wp_iushr xi_267 dJ6_bitCount_0f7a4_38 ?_
  refine wp_iadd xi_267 dJ6_bitCount_0f7a4_39 ?_
  refine wp_istore_n [some (.int ((((((p0 - ((((p0 : Int32).toUInt32 >>> ((1 : Int32).toUInt32 &&& Int32.toUInt32 31)).toInt32) &&& (1431655765))) &&& (858993459)) + (((((p0 - ((((p0 : Int32).toUInt32 >>> ((1 : Int32).toUInt32 &&& Int32.toUInt32 31)).toInt32) &&& (1431655765))) : Int32).toUInt32 >>> ((2 : Int32).toUInt32 &&& Int32.toUInt32 31)).toInt32) &&& (858993459))) + ((((((p0 - ((((p0 : Int32).toUInt32 >>> ((1 : Int32).toUInt32 &&& Int32.toUInt32 31)).toInt32) &&& (1431655765))) &&& (858993459)) + (((((p0 - ((((p0 : Int32).toUInt32 >>> ((1 : Int32).toUInt32 &&& Int32.toUInt32 31)).toInt32) &&& (1431655765))) : Int32).toUInt32 >>> ((2 : Int32).toUInt32 &&& Int32.toUInt32 31)).toInt32) &&& (858993459))) : Int32).toUInt32 >>> ((4 : Int32).toUInt32 &&& Int32.toUInt32 31)).toInt32)) &&& (252645135)) + ((((((((p0 - ((((p0 : Int32).toUInt32 >>> ((1 : Int32).toUInt32 &&& Int32.toUInt32 31)).toInt32) &&& (1431655765))) &&& (858993459)) + (((((p0 - ((((p0 : Int32).toUInt32 >>> ((1 : Int32).toUInt32 &&& Int32.toUInt32 31)).toInt32) &&& (1431655765))) : Int32).toUInt32 >>> ((2 : Int32).toUInt32 &&& Int32.toUInt32 31)).toInt32) &&& (858993459))) + ((((((p0 - ((((p0 : Int32).toUInt32 >>> ((1 : Int32).toUInt32 &&& Int32.toUInt32 31)).toInt32) &&& (1431655765))) &&& (858993459)) + (((((p0 - ((((p0 : Int32).toUInt32 >>> ((1 : Int32).toUInt32 &&& Int32.toUInt32 31)).toInt32) &&& (1431655765))) : Int32).toUInt32 >>> ((2 : Int32).toUInt32 &&& Int32.toUInt32 31)).toInt32) &&& (858993459))) : Int32).toUInt32 >>> ((4 : Int32).toUInt32 &&& Int32.toUInt32 31)).toInt32)) &&& (252645135)) : Int32).toUInt32 >>> ((8 : Int32).toUInt32 &&& Int32.toUInt32 31)).toInt32)))] xi_267 dJ6_bitCount_0f7a4_40 rfl ?_
  refine wp_iload_n xi_267 dJ6_bitCount_0f7a4_41 rfl ?_
  refine wp_iload_n xi_267 dJ6_bitCount_0f7a4_42 rfl ?_
  refine wp_bipush 16 xi_267 dJ6_bitCount_0f7a4_43 rfl ?_
  refine wp_iushr xi_267 dJ6_bitCount_0f7a4_45 ?_
  refine wp_iadd xi_267 dJ6_bitCount_0f7a4_46 ?_
  refine wp_istore_n [some (.int (((((((p0 - ((((p0 : Int32).toUInt32 >>> ((1 : Int32).toUInt32 &&& Int32.toUInt32 31)).toInt32) &&& (1431655765))) &&& (858993459)) + (((((p0 - ((((p0 : Int32).toUInt32 >>> ((1 : Int32).toUInt32 &&& Int32.toUInt32 31)).toInt32) &&& (1431655765))) : Int32).toUInt32 >>> ((2 : Int32).toUInt32 &&& Int32.toUInt32 31)).toInt32) &&& (858993459))) + ((((((p0 - ((((p0 : Int32).toUInt32 >>> ((1 : Int32).toUInt32 &&& Int32.toUInt32 31)).toInt32) &&& (1431655765))) &&& (858993459)) + (((((p0 - ((((p0 : Int32).toUInt32 >>> ((1 : Int32).toUInt32 &&& Int32.toUInt32 31)).toInt32) &&& (1431655765))) : Int32).toUInt32 >>> ((2 : Int32).toUInt32 &&& Int32.toUInt32 31)).toInt32) &&& (858993459))) : Int32).toUInt32 >>> ((4 : Int32).toUInt32 &&& Int32.toUInt32 31)).toInt32)) &&& (252645135)) + ((((((((p0 - ((((p0 : Int32).toUInt32 >>> ((1 : Int32).toUInt32 &&& Int32.toUInt32 31)).toInt32) &&& (1431655765))) &&& (858993459)) + (((((p0 - ((((p0 : Int32).toUInt32 >>> ((1 : Int32).toUInt32 &&& Int32.toUInt32 31)).toInt32) &&& (1431655765))) : Int32).toUInt32 >>> ((2 : Int32).toUInt32 &&& Int32.toUInt32 31)).toInt32) &&& (858993459))) + ((((((p0 - ((((p0 : Int32).toUInt32 >>> ((1 : Int32).toUInt32 &&& Int32.toUInt32 31)).toInt32) &&& (1431655765))) &&& (858993459)) + (((((p0 - ((((p0 : Int32).toUInt32 >>> ((1 : Int32).toUInt32 &&& Int32.toUInt32 31)).toInt32) &&& (1431655765))) : Int32).toUInt32 >>> ((2 : Int32).toUInt32 &&& Int32.toUInt32 31)).toInt32) &&& (858993459))) : Int32).toUInt32 >>> ((4 : Int32).toUInt32 &&& Int32.toUInt32 31)).toInt32)) &&& (252645135)) : Int32).toUInt32 >>> ((8 : Int32).toUInt32 &&& Int32.toUInt32 31)).toInt32)) + (((((((((p0 - ((((p0 : Int32).toUInt32 >>> ((1 : Int32).toUInt32 &&& Int32.toUInt32 31)).toInt32) &&& (1431655765))) &&& (858993459)) + (((((p0 - ((((p0 : Int32).toUInt32 >>> ((1 : Int32).toUInt32 &&& Int32.toUInt32 31)).toInt32) &&& (1431655765))) : Int32).toUInt32 >>> ((2 : Int32).toUInt32 &&& Int32.toUInt32 31)).toInt32) &&& (858993459))) + ((((((p0 - ((((p0 : Int32).toUInt32 >>> ((1 : Int32).toUInt32 &&& Int32.toUInt32 31)).toInt32) &&& (1431655765))) &&& (858993459)) + (((((p0 - ((((p0 : Int32).toUInt32 >>> ((1 : Int32).toUInt32 &&& Int32.toUInt32 31)).toInt32) &&& (1431655765))) : Int32).toUInt32 >>> ((2 : Int32).toUInt32 &&& Int32.toUInt32 31)).toInt32) &&& (858993459))) : Int32).toUInt32 >>> ((4 : Int32).toUInt32 &&& Int32.toUInt32 31)).toInt32)) &&& (252645135)) + ((((((((p0 - ((((p0 : Int32).toUInt32 >>> ((1 : Int32).toUInt32 &&& Int32.toUInt32 31)).toInt32) &&& (1431655765))) &&& (858993459)) + (((((p0 - ((((p0 : Int32).toUInt32 >>> ((1 : Int32).toUInt32 &&& Int32.toUInt32 31)).toInt32) &&& (1431655765))) : Int32).toUInt32 >>> ((2 : Int32).toUInt32 &&& Int32.toUInt32 31)).toInt32) &&& (858993459))) + ((((((p0 - ((((p0 : Int32).toUInt32 >>> ((1 : Int32).toUInt32 &&& Int32.toUInt32 31)).toInt32) &&& (1431655765))) &&& (858993459)) + (((((p0 - ((((p0 : Int32).toUInt32 >>> ((1 : Int32).toUInt32 &&& Int32.toUInt32 31)).toInt32) &&& (1431655765))) : Int32).toUInt32 >>> ((2 : Int32).toUInt32 &&& Int32.toUInt32 31)).toInt32) &&& (858993459))) : Int32).toUInt32 >>> ((4 : Int32).toUInt32 &&& Int32.toUInt32 31)).toInt32)) &&& (252645135)) : Int32).toUInt32 >>> ((8 : Int32).toUInt32 &&& Int32.toUInt32 31)).toInt32)) : Int32).toUInt32 >>> ((16 : Int32).toUInt32 &&& Int32.toUInt32 31)).toInt32)))] xi_267 dJ6_bitCount_0f7a4_47 rfl ?_
  refine wp_iload_n xi_267 dJ6_bitCount_0f7a4_48 rfl ?_
  refine wp_bipush 63 xi_267 dJ6_bitCount_0f7a4_49 rfl ?_
  refine wp_iand xi_267 dJ6_bitCount_0f7a4_51 ?_
  obtain ⟨rfl, rfl⟩ := oi2 H
  exact wp_iret xi_267 dJ6_bitCount_0f7a4_52 hq
/- FelledHasLost$MoveList.note(I)V -/
def f_268  (a : Nat) (p0 : Int32) (h : xH) : Option (xH) :=
  (pFi h a 4 1).bind fun x1 =>
  ((if (70 : Int32) ≤ x1 then
  some (h)
  else
  (pFr h a 4 0).bind fun x9 =>
  (pFi h a 4 1).bind fun x10 =>
  (pP h a 4 1 (.int (x10 + 1))).bind fun h11 =>
  (pSi h11 x9 x10 p0).bind fun h12 =>
  some (h12) : Option (xH))).bind fun (h7 : xH) =>
  some h7
set_option maxHeartbeats 4000000 in
theorem e_268 (d : Nat) (Q : Option Value → xH → Prop)  {h : xH} {a : Nat} {p0 : Int32} {h1 : xH} (H : f_268  a p0 h = some h1) (hq : Q none h1) : Wp (d + 0) 268 0 [some (.ref a), some (.int p0)] [] h Q := by
  unfold f_268 at H
  refine wp_aload_n xi_268 dX4_note_0 rfl ?_
  obtain ⟨x1, gx1, H⟩ := Option.bind_eq_some_iff.mp H
  refine wq_getfi xi_268 dX4_note_1 xf_4_27 gx1 ?_
  refine wp_bipush 70 xi_268 dX4_note_4 rfl ?_
  obtain ⟨h7, G13, H⟩ := Option.bind_eq_some_iff.mp H
  have K8 : Wp (d + 0) 268 26 [some (.ref a), some (.int p0)] [] h7 Q := by
    obtain rfl := Option.some.inj H
    exact wp_vret xi_268 dX4_note_26 hq
  clear H
  have H := G13
  clear G13
  refine wp_icmp_ge 26 xi_268 dX4_note_6 rfl (fun c2 => ?_) (fun c2 => ?_)
  · rw [if_pos c2] at H
    obtain rfl := Option.some.inj H
    exact Wp.more (by simp [xMore, Value.category]) K8
  · rw [if_neg c2] at H
    refine wp_aload_n xi_268 dX4_note_9 rfl ?_
    obtain ⟨x9, gx9, H⟩ := Option.bind_eq_some_iff.mp H
    refine wq_getfr xi_268 dX4_note_10 xf_4_11 gx9 ?_
    refine wp_aload_n xi_268 dX4_note_13 rfl ?_
    refine wp_dup xi_268 dX4_note_14 rfl ?_
    obtain ⟨x10, gx10, H⟩ := Option.bind_eq_some_iff.mp H
    refine wq_getfi xi_268 dX4_note_15 xf_4_27 gx10 ?_
    refine wp_dup_x1 xi_268 dX4_note_18 rfl rfl ?_
    refine wp_iconst 1 xi_268 dX4_note_19 rfl ?_
    refine wp_iadd xi_268 dX4_note_20 ?_
    obtain ⟨h11, gh11, H⟩ := Option.bind_eq_some_iff.mp H
    refine wq_putf xi_268 dX4_note_21 xf_4_27 (Or.inl rfl) gh11 ?_
    refine wp_iload_n xi_268 dX4_note_24 rfl ?_
    obtain ⟨h12, gh12, H⟩ := Option.bind_eq_some_iff.mp H
    refine wq_iastore xi_268 dX4_note_25 gh12 ?_
    obtain rfl := Option.some.inj H
    exact Wp.more (by simp [xMore, Value.category]) K8
/- FelledHasLost.inTurn(I)I -/
def f_269  (a : Nat) (p0 : Int32) (h : xH) : Option (Int32 × xH) :=
  (pFi h a 11 16).bind fun x1 =>
  ((if x1 ≤ 0 then
  some (0)
  else
  (if p0 ≤ 0 then
  some (0)
  else
  (pFi h a 11 16).bind fun x9 =>
  (pRem p0 x9).bind fun x10 =>
  some (x10)) : Option (Int32))).bind fun (w6 : Int32) =>
  some (w6, h)
set_option maxHeartbeats 4000000 in
theorem e_269 (d : Nat) (Q : Option Value → xH → Prop)  {h : xH} {a : Nat} {p0 : Int32} {x : Int32} {h1 : xH} (H : f_269  a p0 h = some (x, h1)) (hq : Q (some (.int x)) h1) : Wp (d + 0) 269 0 [some (.ref a), some (.int p0)] [] h Q := by
  unfold f_269 at H
  refine wp_aload_n xi_269 dX11_inTurn_0 rfl ?_
  obtain ⟨x1, gx1, H⟩ := Option.bind_eq_some_iff.mp H
  refine wq_getfi xi_269 dX11_inTurn_1 xf_11_108 gx1 ?_
  obtain ⟨w6, G11, H⟩ := Option.bind_eq_some_iff.mp H
  have K7 : Wp (d + 0) 269 21 [some (.ref a), some (.int p0)] [.int w6] h Q := by
    obtain ⟨rfl, rfl⟩ := oi2 H
    exact wp_iret xi_269 dX11_inTurn_21 hq
  clear H
  have H := G11
  clear G11
  refine wp_if_le 20 xi_269 dX11_inTurn_4 rfl (fun c2 => ?_) (fun c2 => ?_)
  · rw [if_pos c2] at H
    refine wp_iconst 0 xi_269 dX11_inTurn_20 rfl ?_
    obtain rfl := Option.some.inj H
    exact Wp.more (by simp [xMore, Value.category]) K7
  · rw [if_neg c2] at H
    refine wp_iload_n xi_269 dX11_inTurn_7 rfl ?_
    refine wp_if_le 20 xi_269 dX11_inTurn_8 rfl (fun c8 => ?_) (fun c8 => ?_)
    · rw [if_pos c8] at H
      refine wp_iconst 0 xi_269 dX11_inTurn_20 rfl ?_
      obtain rfl := Option.some.inj H
      exact Wp.more (by simp [xMore, Value.category]) K7
    · rw [if_neg c8] at H
      refine wp_iload_n xi_269 dX11_inTurn_11 rfl ?_
      refine wp_aload_n xi_269 dX11_inTurn_12 rfl ?_
      obtain ⟨x9, gx9, H⟩ := Option.bind_eq_some_iff.mp H
      refine wq_getfi xi_269 dX11_inTurn_13 xf_11_108 gx9 ?_
      obtain ⟨x10, gx10, H⟩ := Option.bind_eq_some_iff.mp H
      refine wq_irem xi_269 dX11_inTurn_16 gx10 ?_
      refine wp_goto 21 xi_269 dX11_inTurn_17 rfl ?_
      obtain rfl := Option.some.inj H
      exact Wp.more (by simp [xMore, Value.category]) K7
/- FelledHasLost$Balance.weigh(LFelledHasLost$Tower;)Z -/
def f_3_38  : Nat → Nat → Nat → Int32 → Int32 → Int32 → Int32 → Int32 → xH → Option (xH)
  | 0, _, _, _, _, _, _, _, _ => none
  | n + 1, a0, a1, a2, a3, a4, a5, a6, h =>
  (if a6 < 0 then
  some (h)
  else
  (pRem a6 2).bind fun x2 =>
  ((if x2 = 0 then
  some (1)
  else
  some (0) : Option (Int32))).bind fun (w4 : Int32) =>
  (pFr h a0 0 1).bind fun x6 =>
  (pSi h x6 a6 a2).bind fun h7 =>
  (pFr h7 a0 0 2).bind fun x8 =>
  ((if w4 = 0 then
  some (a5)
  else
  some (a4) : Option (Int32))).bind fun (w10 : Int32) =>
  (pFr h7 a0 0 0).bind fun x12 =>
  (pRem a6 2).bind fun x13 =>
  (pAi h7 x12 x13).bind fun x14 =>
  (pSi h7 x8 a6 ((10 * w10) + (x14 * (a3 + a2)))).bind fun h15 =>
  (pFr h15 a0 0 3).bind fun x16 =>
  (pFr h15 a1 10 3).bind fun x17 =>
  (pAi h15 x17 a6).bind fun x18 =>
  (pFr h15 a0 0 2).bind fun x19 =>
  (pAi h15 x19 a6).bind fun x20 =>
  (f_4 x18 a2 x20 h15).bind fun (x22, h21) =>
  (pSi h21 x16 a6 x22).bind fun h23 =>
  (pFi h23 a1 10 4).bind fun x24 =>
  ((if a6 = (x24 - 1) then
  some (1)
  else
  some (0) : Option (Int32))).bind fun (w26 : Int32) =>
  (pG (pIs h23 a0 0)).bind fun _ =>
  (f_5 a0 a6 w26 h23).bind fun h29 =>
  (pFr h29 a1 10 1).bind fun x30 =>
  (pAi h29 x30 a6).bind fun x31 =>
  ((if w4 = 0 then
  some (0)
  else
  (pFr h29 a1 10 2).bind fun x37 =>
  (pAi h29 x37 a6).bind fun x38 =>
  some (x38) : Option (Int32))).bind fun (w35 : Int32) =>
  ((if w4 = 0 then
  (pFr h29 a1 10 2).bind fun x44 =>
  (pAi h29 x44 a6).bind fun x45 =>
  some (x45)
  else
  some (0) : Option (Int32))).bind fun (w42 : Int32) =>
  f_3_38 n a0 a1 (a2 + x31) (a3 + a2) (a4 + w35) (a5 + w42) (a6 + (-1)) h29)
theorem ef_3_38 (d : Nat) (Q : Option Value → xH → Prop)  : ∀ (n : Nat) (a0 : Nat) (a1 : Nat) (a2 : Int32) (a3 : Int32) (a4 : Int32) (a5 : Int32) (a6 : Int32) (h : xH) (r : xH), f_3_38 n a0 a1 a2 a3 a4 a5 a6 h = some r → (∀  (h1 : xH), r = h1 → Wp (d + 1) 3 208 [some (.ref a0), none, none, none, none, none, none, none] [] h1 Q) → Wp (d + 1) 3 38 [some (.ref a0), some (.ref a1), some (.int a2), some (.int a3), some (.int a4), some (.int a5), some (.int a6), none] [] h Q := by
  intro n
  induction n with
  | zero =>
    intro a0 a1 a2 a3 a4 a5 a6 h r H
    cases H
  | succ n ih =>
    intro a0 a1 a2 a3 a4 a5 a6 h r H KE
    unfold f_3_38 at H
    refine wp_iload xi_3 dX0_weigh_38 rfl ?_
    refine wp_if_lt 208 xi_3 dX0_weigh_40 rfl (fun c1 => ?_) (fun c1 => ?_)
    · rw [if_pos c1] at H
      obtain rfl := Option.some.inj H
      exact Wp.more (by simp [xMore, Value.category]) (KE  h rfl)
    · rw [if_neg c1] at H
      refine wp_iload xi_3 dX0_weigh_43 rfl ?_
      refine wp_iconst 2 xi_3 dX0_weigh_45 rfl ?_
      obtain ⟨x2, gx2, H⟩ := Option.bind_eq_some_iff.mp H
      refine wq_irem xi_3 dX0_weigh_46 gx2 ?_
      obtain ⟨w4, G50, H⟩ := Option.bind_eq_some_iff.mp H
      have K5 : Wp (d + 1) 3 55 [some (.ref a0), some (.ref a1), some (.int a2), some (.int a3), some (.int a4), some (.int a5), some (.int a6), none] [.int w4] h Q := by
        refine wp_istore [some (.ref a0), some (.ref a1), some (.int a2), some (.int a3), some (.int a4), some (.int a5), some (.int a6), some (.int w4)] xi_3 dX0_weigh_55 rfl ?_
        refine wp_iload_n xi_3 dX0_weigh_57 rfl ?_
        refine wp_iload_n xi_3 dX0_weigh_58 rfl ?_
        refine wp_iadd xi_3 dX0_weigh_59 ?_
        refine wp_istore_n [some (.ref a0), some (.ref a1), some (.int a2), some (.int (a3 + a2)), some (.int a4), some (.int a5), some (.int a6), some (.int w4)] xi_3 dX0_weigh_60 rfl ?_
        refine wp_aload_n xi_3 dX0_weigh_61 rfl ?_
        obtain ⟨x6, gx6, H⟩ := Option.bind_eq_some_iff.mp H
        refine wq_getfr xi_3 dX0_weigh_62 xf_0_15 gx6 ?_
        refine wp_iload xi_3 dX0_weigh_65 rfl ?_
        refine wp_iload_n xi_3 dX0_weigh_67 rfl ?_
        obtain ⟨h7, gh7, H⟩ := Option.bind_eq_some_iff.mp H
        refine wq_iastore xi_3 dX0_weigh_68 gh7 ?_
        refine wp_aload_n xi_3 dX0_weigh_69 rfl ?_
        obtain ⟨x8, gx8, H⟩ := Option.bind_eq_some_iff.mp H
        refine wq_getfr xi_3 dX0_weigh_70 xf_0_18 gx8 ?_
        refine wp_iload xi_3 dX0_weigh_73 rfl ?_
        refine wp_bipush 10 xi_3 dX0_weigh_75 rfl ?_
        refine wp_iload xi_3 dX0_weigh_77 rfl ?_
        obtain ⟨w10, G49, H⟩ := Option.bind_eq_some_iff.mp H
        have K11 : Wp (d + 1) 3 89 [some (.ref a0), some (.ref a1), some (.int a2), some (.int (a3 + a2)), some (.int a4), some (.int a5), some (.int a6), some (.int w4)] [.int w10, .int 10, .int a6, .ref x8] h7 Q := by
          refine wp_imul xi_3 dX0_weigh_89 ?_
          refine wp_aload_n xi_3 dX0_weigh_90 rfl ?_
          obtain ⟨x12, gx12, H⟩ := Option.bind_eq_some_iff.mp H
          refine wq_getfr xi_3 dX0_weigh_91 xf_0_9 gx12 ?_
          refine wp_iload xi_3 dX0_weigh_94 rfl ?_
          refine wp_iconst 2 xi_3 dX0_weigh_96 rfl ?_
          obtain ⟨x13, gx13, H⟩ := Option.bind_eq_some_iff.mp H
          refine wq_irem xi_3 dX0_weigh_97 gx13 ?_
          obtain ⟨x14, gx14, H⟩ := Option.bind_eq_some_iff.mp H
          refine wq_iaload xi_3 dX0_weigh_98 gx14 ?_
          refine wp_iload_n xi_3 dX0_weigh_99 rfl ?_
          refine wp_imul xi_3 dX0_weigh_100 ?_
          refine wp_iadd xi_3 dX0_weigh_101 ?_
          obtain ⟨h15, gh15, H⟩ := Option.bind_eq_some_iff.mp H
          refine wq_iastore xi_3 dX0_weigh_102 gh15 ?_
          refine wp_aload_n xi_3 dX0_weigh_103 rfl ?_
          obtain ⟨x16, gx16, H⟩ := Option.bind_eq_some_iff.mp H
          refine wq_getfr xi_3 dX0_weigh_104 xf_0_21 gx16 ?_
          refine wp_iload xi_3 dX0_weigh_107 rfl ?_
          refine wp_aload_n xi_3 dX0_weigh_109 rfl ?_
          obtain ⟨x17, gx17, H⟩ := Option.bind_eq_some_iff.mp H
          refine wq_getfr xi_3 dX0_weigh_110 xf_0_48 gx17 ?_
          refine wp_iload xi_3 dX0_weigh_113 rfl ?_
          obtain ⟨x18, gx18, H⟩ := Option.bind_eq_some_iff.mp H
          refine wq_iaload xi_3 dX0_weigh_115 gx18 ?_
          refine wp_iload_n xi_3 dX0_weigh_116 rfl ?_
          refine wp_aload_n xi_3 dX0_weigh_117 rfl ?_
          obtain ⟨x19, gx19, H⟩ := Option.bind_eq_some_iff.mp H
          refine wq_getfr xi_3 dX0_weigh_118 xf_0_18 gx19 ?_
          refine wp_iload xi_3 dX0_weigh_121 rfl ?_
          obtain ⟨x20, gx20, H⟩ := Option.bind_eq_some_iff.mp H
          refine wq_iaload xi_3 dX0_weigh_123 gx20 ?_
          obtain ⟨⟨x22, h21⟩, gh21, H⟩ := Option.bind_eq_some_iff.mp H
          dsimp only at H
          refine wq_callS (as := [.int x18, .int a2, .int x20]) (r := [.int a6, .ref x16]) (v1 := (some (.int x22))) xi_3 xi_4 dX0_weigh_124 xm_0_51 rfl (Nat.le_of_ble_eq_true rfl) ⟨(Nat.le_of_ble_eq_true rfl), (Nat.le_of_ble_eq_true rfl)⟩ rfl nofun (e_4 d _ gh21 ⟨rfl, rfl⟩) ?_
          change Wp _ _ _ _ [.int x22, .int a6, .ref x16] _ _
          obtain ⟨h23, gh23, H⟩ := Option.bind_eq_some_iff.mp H
          refine wq_iastore xi_3 dX0_weigh_127 gh23 ?_
          refine wp_aload_n xi_3 dX0_weigh_128 rfl ?_
          refine wp_iload xi_3 dX0_weigh_129 rfl ?_
          refine wp_iload xi_3 dX0_weigh_131 rfl ?_
          refine wp_aload_n xi_3 dX0_weigh_133 rfl ?_
          obtain ⟨x24, gx24, H⟩ := Option.bind_eq_some_iff.mp H
          refine wq_getfi xi_3 dX0_weigh_134 xf_0_43 gx24 ?_
          refine wp_iconst 1 xi_3 dX0_weigh_137 rfl ?_
          refine wp_isub xi_3 dX0_weigh_138 ?_
          obtain ⟨w26, G48, H⟩ := Option.bind_eq_some_iff.mp H
          have K27 : Wp (d + 1) 3 147 [some (.ref a0), some (.ref a1), some (.int a2), some (.int (a3 + a2)), some (.int a4), some (.int a5), some (.int a6), some (.int w4)] [.int w26, .int a6, .ref a0] h23 Q := by
            obtain ⟨u28, gu28, H⟩ := Option.bind_eq_some_iff.mp H
            obtain ⟨h29, gh29, H⟩ := Option.bind_eq_some_iff.mp H
            refine wq_callV (a := a0) (as := [.int a6, .int w26]) (r := []) (v1 := none) xi_3 xi_5 dX0_weigh_147 xm_0_55 rfl (Nat.le_of_ble_eq_true rfl) (pG_ok gu28) ⟨(Nat.le_of_ble_eq_true rfl), (Nat.le_of_ble_eq_true rfl)⟩ rfl nofun (e_5 d _ gh29 ⟨rfl, rfl⟩) ?_
            change Wp _ _ _ _ [] _ _
            refine wp_iload_n xi_3 dX0_weigh_150 rfl ?_
            refine wp_aload_n xi_3 dX0_weigh_151 rfl ?_
            obtain ⟨x30, gx30, H⟩ := Option.bind_eq_some_iff.mp H
            refine wq_getfr xi_3 dX0_weigh_152 xf_0_59 gx30 ?_
            refine wp_iload xi_3 dX0_weigh_155 rfl ?_
            obtain ⟨x31, gx31, H⟩ := Option.bind_eq_some_iff.mp H
            refine wq_iaload xi_3 dX0_weigh_157 gx31 ?_
            refine wp_iadd xi_3 dX0_weigh_158 ?_
            refine wp_istore_n [some (.ref a0), some (.ref a1), some (.int (a2 + x31)), some (.int (a3 + a2)), some (.int a4), some (.int a5), some (.int a6), some (.int w4)] xi_3 dX0_weigh_159 rfl ?_
            refine wp_iload xi_3 dX0_weigh_160 rfl ?_
            refine wp_iload xi_3 dX0_weigh_162 rfl ?_
            obtain ⟨w35, G47, H⟩ := Option.bind_eq_some_iff.mp H
            have K36 : Wp (d + 1) 3 178 [some (.ref a0), some (.ref a1), some (.int (a2 + x31)), some (.int (a3 + a2)), some (.int a4), some (.int a5), some (.int a6), some (.int w4)] [.int w35, .int a4] h29 Q := by
              refine wp_iadd xi_3 dX0_weigh_178 ?_
              refine wp_istore [some (.ref a0), some (.ref a1), some (.int (a2 + x31)), some (.int (a3 + a2)), some (.int (a4 + w35)), some (.int a5), some (.int a6), some (.int w4)] xi_3 dX0_weigh_179 rfl ?_
              refine wp_iload xi_3 dX0_weigh_181 rfl ?_
              refine wp_iload xi_3 dX0_weigh_183 rfl ?_
              obtain ⟨w42, G46, H⟩ := Option.bind_eq_some_iff.mp H
              have K43 : Wp (d + 1) 3 199 [some (.ref a0), some (.ref a1), some (.int (a2 + x31)), some (.int (a3 + a2)), some (.int (a4 + w35)), some (.int a5), some (.int a6), some (.int w4)] [.int w42, .int a5] h29 Q := by
                refine wp_iadd xi_3 dX0_weigh_199 ?_
                refine wp_istore [some (.ref a0), some (.ref a1), some (.int (a2 + x31)), some (.int (a3 + a2)), some (.int (a4 + w35)), some (.int (a5 + w42)), some (.int a6), some (.int w4)] xi_3 dX0_weigh_200 rfl ?_
                refine wp_iinc (a6 + (-1)) [some (.ref a0), some (.ref a1), some (.int (a2 + x31)), some (.int (a3 + a2)), some (.int (a4 + w35)), some (.int (a5 + w42)), some (.int (a6 + (-1))), some (.int w4)] xi_3 dX0_weigh_202 rfl rfl rfl ?_
                refine wp_goto 38 xi_3 dX0_weigh_205 rfl ?_
                exact Wp.more (by simp [xMore, Value.category]) (ih a0 a1 (a2 + x31) (a3 + a2) (a4 + w35) (a5 + w42) (a6 + (-1)) h29 _ H KE)
              clear H
              have H := G46
              clear G46
              refine wp_if_eq 192 xi_3 dX0_weigh_185 rfl (fun c39 => ?_) (fun c39 => ?_)
              · rw [if_pos c39] at H
                refine wp_aload_n xi_3 dX0_weigh_192 rfl ?_
                obtain ⟨x44, gx44, H⟩ := Option.bind_eq_some_iff.mp H
                refine wq_getfr xi_3 dX0_weigh_193 xf_0_62 gx44 ?_
                refine wp_iload xi_3 dX0_weigh_196 rfl ?_
                obtain ⟨x45, gx45, H⟩ := Option.bind_eq_some_iff.mp H
                refine wq_iaload xi_3 dX0_weigh_198 gx45 ?_
                obtain rfl := Option.some.inj H
                exact Wp.more (by simp [xMore, Value.category]) K43
              · rw [if_neg c39] at H
                refine wp_iconst 0 xi_3 dX0_weigh_188 rfl ?_
                refine wp_goto 199 xi_3 dX0_weigh_189 rfl ?_
                obtain rfl := Option.some.inj H
                exact Wp.more (by simp [xMore, Value.category]) K43
            clear H
            have H := G47
            clear G47
            refine wp_if_eq 177 xi_3 dX0_weigh_164 rfl (fun c32 => ?_) (fun c32 => ?_)
            · rw [if_pos c32] at H
              refine wp_iconst 0 xi_3 dX0_weigh_177 rfl ?_
              obtain rfl := Option.some.inj H
              exact Wp.more (by simp [xMore, Value.category]) K36
            · rw [if_neg c32] at H
              refine wp_aload_n xi_3 dX0_weigh_167 rfl ?_
              obtain ⟨x37, gx37, H⟩ := Option.bind_eq_some_iff.mp H
              refine wq_getfr xi_3 dX0_weigh_168 xf_0_62 gx37 ?_
              refine wp_iload xi_3 dX0_weigh_171 rfl ?_
              obtain ⟨x38, gx38, H⟩ := Option.bind_eq_some_iff.mp H
              refine wq_iaload xi_3 dX0_weigh_173 gx38 ?_
              refine wp_goto 178 xi_3 dX0_weigh_174 rfl ?_
              obtain rfl := Option.some.inj H
              exact Wp.more (by simp [xMore, Value.category]) K36
          clear H
          have H := G48
          clear G48
          refine wp_icmp_ne 146 xi_3 dX0_weigh_139 rfl (fun c25 => ?_) (fun c25 => ?_)
          · rw [if_neg c25] at H
            refine wp_iconst 0 xi_3 dX0_weigh_146 rfl ?_
            obtain rfl := Option.some.inj H
            exact Wp.more (by simp [xMore, Value.category]) K27
          · rw [if_pos c25] at H
            refine wp_iconst 1 xi_3 dX0_weigh_142 rfl ?_
            refine wp_goto 147 xi_3 dX0_weigh_143 rfl ?_
            obtain rfl := Option.some.inj H
            exact Wp.more (by simp [xMore, Value.category]) K27
        clear H
        have H := G49
        clear G49
        refine wp_if_eq 87 xi_3 dX0_weigh_79 rfl (fun c9 => ?_) (fun c9 => ?_)
        · rw [if_pos c9] at H
          refine wp_iload xi_3 dX0_weigh_87 rfl ?_
          obtain rfl := Option.some.inj H
          exact Wp.more (by simp [xMore, Value.category]) K11
        · rw [if_neg c9] at H
          refine wp_iload xi_3 dX0_weigh_82 rfl ?_
          refine wp_goto 89 xi_3 dX0_weigh_84 rfl ?_
          obtain rfl := Option.some.inj H
          exact Wp.more (by simp [xMore, Value.category]) K11
      clear H
      have H := G50
      clear G50
      refine wp_if_ne 54 xi_3 dX0_weigh_47 rfl (fun c3 => ?_) (fun c3 => ?_)
      · rw [if_neg c3] at H
        refine wp_iconst 0 xi_3 dX0_weigh_54 rfl ?_
        obtain rfl := Option.some.inj H
        exact Wp.more (by simp [xMore, Value.category]) K5
      · rw [if_pos c3] at H
        refine wp_iconst 1 xi_3 dX0_weigh_50 rfl ?_
        refine wp_goto 55 xi_3 dX0_weigh_51 rfl ?_
        obtain rfl := Option.some.inj H
        exact Wp.more (by simp [xMore, Value.category]) K5
def f_3  (a : Nat) (p0 : Nat) (h : xH) : Option (Int32 × xH) :=
  (pP h a 0 4 (.int (-1))).bind fun h1 =>
  (pP h1 a 0 5 (.int 0)).bind fun h2 =>
  (pP h2 a 0 6 (.int (-1))).bind fun h3 =>
  (pP h3 a 0 7 (.int 0)).bind fun h4 =>
  (pFi h4 p0 10 4).bind fun x5 =>
  (f_3_38 100000 a p0 0 0 0 0 (x5 - 1) h4).bind fun h6 =>
  (pFi h6 a 0 4).bind fun x9 =>
  ((if x9 = (-1) then
  some (1)
  else
  some (0) : Option (Int32))).bind fun (w11 : Int32) =>
  pZ w11 h6
set_option maxHeartbeats 4000000 in
theorem e_3 (d : Nat) (Q : Option Value → xH → Prop)  {h : xH} {a : Nat} {p0 : Nat} {x : Int32} {h1 : xH} (H : f_3  a p0 h = some (x, h1)) (hq : Q (some (.int x)) h1) : Wp (d + 1) 3 0 [some (.ref a), some (.ref p0), none, none, none, none, none, none] [] h Q := by
  unfold f_3 at H
  refine wp_iconst 0 xi_3 dX0_weigh_0 rfl ?_
  refine wp_istore_n [some (.ref a), some (.ref p0), some (.int 0), none, none, none, none, none] xi_3 dX0_weigh_1 rfl ?_
  refine wp_iconst 0 xi_3 dX0_weigh_2 rfl ?_
  refine wp_istore_n [some (.ref a), some (.ref p0), some (.int 0), some (.int 0), none, none, none, none] xi_3 dX0_weigh_3 rfl ?_
  refine wp_iconst 0 xi_3 dX0_weigh_4 rfl ?_
  refine wp_istore [some (.ref a), some (.ref p0), some (.int 0), some (.int 0), some (.int 0), none, none, none] xi_3 dX0_weigh_5 rfl ?_
  refine wp_iconst 0 xi_3 dX0_weigh_7 rfl ?_
  refine wp_istore [some (.ref a), some (.ref p0), some (.int 0), some (.int 0), some (.int 0), some (.int 0), none, none] xi_3 dX0_weigh_8 rfl ?_
  refine wp_aload_n xi_3 dX0_weigh_10 rfl ?_
  refine wp_iconst (-1) xi_3 dX0_weigh_11 rfl ?_
  obtain ⟨h1, gh1, H⟩ := Option.bind_eq_some_iff.mp H
  refine wq_putf xi_3 dX0_weigh_12 xf_0_24 (Or.inl rfl) gh1 ?_
  refine wp_aload_n xi_3 dX0_weigh_15 rfl ?_
  refine wp_iconst 0 xi_3 dX0_weigh_16 rfl ?_
  obtain ⟨h2, gh2, H⟩ := Option.bind_eq_some_iff.mp H
  refine wq_putf xi_3 dX0_weigh_17 xf_0_37 (Or.inl rfl) gh2 ?_
  refine wp_aload_n xi_3 dX0_weigh_20 rfl ?_
  refine wp_iconst (-1) xi_3 dX0_weigh_21 rfl ?_
  obtain ⟨h3, gh3, H⟩ := Option.bind_eq_some_iff.mp H
  refine wq_putf xi_3 dX0_weigh_22 xf_0_28 (Or.inl rfl) gh3 ?_
  refine wp_aload_n xi_3 dX0_weigh_25 rfl ?_
  refine wp_iconst 0 xi_3 dX0_weigh_26 rfl ?_
  obtain ⟨h4, gh4, H⟩ := Option.bind_eq_some_iff.mp H
  refine wq_putf xi_3 dX0_weigh_27 xf_0_40 (Or.inl rfl) gh4 ?_
  refine wp_aload_n xi_3 dX0_weigh_30 rfl ?_
  obtain ⟨x5, gx5, H⟩ := Option.bind_eq_some_iff.mp H
  refine wq_getfi xi_3 dX0_weigh_31 xf_0_43 gx5 ?_
  refine wp_iconst 1 xi_3 dX0_weigh_34 rfl ?_
  refine wp_isub xi_3 dX0_weigh_35 ?_
  refine wp_istore [some (.ref a), some (.ref p0), some (.int 0), some (.int 0), some (.int 0), some (.int 0), some (.int (x5 - 1)), none] xi_3 dX0_weigh_36 rfl ?_
  obtain ⟨h6, G7, H⟩ := Option.bind_eq_some_iff.mp H
  refine Wp.more (by simp [xMore, Value.category]) (ef_3_38 d Q  100000 a p0 0 0 0 0 (x5 - 1) h4 _ G7 (fun z0 e9 => ?_))
  cases e9
  refine wp_aload_n xi_3 dX0_weigh_208 rfl ?_
  obtain ⟨x9, gx9, H⟩ := Option.bind_eq_some_iff.mp H
  refine wq_getfi xi_3 dX0_weigh_209 xf_0_24 gx9 ?_
  refine wp_iconst (-1) xi_3 dX0_weigh_212 rfl ?_
  obtain ⟨w11, G13, H⟩ := Option.bind_eq_some_iff.mp H
  have K12 : Wp (d + 1) 3 221 [some (.ref a), none, none, none, none, none, none, none] [.int w11] h6 Q := by
    obtain ⟨gz, hz⟩ := pZ_ok H
    obtain ⟨rfl, rfl⟩ := Prod.mk.inj hz
    exact wp_zret xi_3 dX0_weigh_221 gz hq
  clear H
  have H := G13
  clear G13
  refine wp_icmp_ne 220 xi_3 dX0_weigh_213 rfl (fun c10 => ?_) (fun c10 => ?_)
  · rw [if_neg c10] at H
    refine wp_iconst 0 xi_3 dX0_weigh_220 rfl ?_
    obtain rfl := Option.some.inj H
    exact Wp.more (by simp [xMore, Value.category]) K12
  · rw [if_pos c10] at H
    refine wp_iconst 1 xi_3 dX0_weigh_216 rfl ?_
    refine wp_goto 221 xi_3 dX0_weigh_217 rfl ?_
    obtain rfl := Option.some.inj H
    exact Wp.more (by simp [xMore, Value.category]) K12
/- FelledHasLost$Chooser.noteFacts(LFelledHasLost$Tower;II)V -/
def f_9  (a : Nat) (p0 : Nat) (p1 : Int32) (p2 : Int32) (h : xH) : Option (xH) :=
  (pDiv p1 10).bind fun x1 =>
  (pDiv x1 3).bind fun x2 =>
  (pFr h a 1 0).bind fun x3 =>
  (pG (pIs h x3 0)).bind fun _ =>
  (f_3 x3 p0 h).bind fun (x6, h5) =>
  (pFr h5 a 1 2).bind fun x7 =>
  (pG (pIs h5 p0 10)).bind fun _ =>
  (f_99 p0 x1 h5).bind fun (x10, h9) =>
  ((if x10 = 0 then
  some (0)
  else
  some (1) : Option (Int32))).bind fun (w12 : Int32) =>
  (pSi h9 x7 0 w12).bind fun h14 =>
  (pFr h14 a 1 2).bind fun x15 =>
  (pG (pIs h14 p0 10)).bind fun _ =>
  (f_90 p0 x1 h14).bind fun (x18, h17) =>
  ((if x18 = 0 then
  some (0)
  else
  (pFr h17 p0 10 0).bind fun x24 =>
  (pAi h17 x24 x1).bind fun x25 =>
  some (x25) : Option (Int32))).bind fun (w22 : Int32) =>
  (pSi h17 x15 1 w22).bind fun h26 =>
  (pFr h26 a 1 2).bind fun x27 =>
  (pSi h26 x27 2 x2).bind fun h28 =>
  (pFr h28 a 1 2).bind fun x29 =>
  (pRem x1 3).bind fun x30 =>
  (pSi h28 x29 3 x30).bind fun h31 =>
  (pFr h31 a 1 2).bind fun x32 =>
  (pRem p1 10).bind fun x33 =>
  (pSi h31 x32 4 x33).bind fun h34 =>
  (pFr h34 a 1 2).bind fun x35 =>
  (pG (pIs h34 p0 10)).bind fun _ =>
  (f_97 p0 x2 h34).bind fun (x38, h37) =>
  (pSi h37 x35 5 (3 - x38)).bind fun h39 =>
  (pFr h39 a 1 2).bind fun x40 =>
  (pFi h39 p0 10 4).bind fun x41 =>
  (pSi h39 x40 6 x41).bind fun h42 =>
  (pFr h42 a 1 2).bind fun x43 =>
  (pG (pIs h42 p0 10)).bind fun _ =>
  (f_91 p0 x2 h42).bind fun (x46, h45) =>
  ((if x46 = 0 then
  some (0)
  else
  (pFr h45 a 1 0).bind fun x54 =>
  (pFr h45 x54 0 3).bind fun x55 =>
  (pAi h45 x55 x2).bind fun x56 =>
  (pDiv x56 100).bind fun x57 =>
  some (x57) : Option (Int32))).bind fun (w52 : Int32) =>
  (pSi h45 x43 7 w52).bind fun h58 =>
  (pFr h58 a 1 2).bind fun x59 =>
  (pSi h58 x59 8 p2).bind fun h60 =>
  some h60
set_option maxHeartbeats 4000000 in
theorem e_9 (d : Nat) (Q : Option Value → xH → Prop)  {h : xH} {a : Nat} {p0 : Nat} {p1 : Int32} {p2 : Int32} {h1 : xH} (H : f_9  a p0 p1 p2 h = some h1) (hq : Q none h1) : Wp (d + 2) 9 0 [some (.ref a), some (.ref p0), some (.int p1), some (.int p2), none, none] [] h Q := by
  unfold f_9 at H
  refine wp_iload_n xi_9 dX1_noteFacts_0 rfl ?_
  refine wp_bipush 10 xi_9 dX1_noteFacts_1 rfl ?_
  obtain ⟨x1, gx1, H⟩ := Option.bind_eq_some_iff.mp H
  refine wq_idiv xi_9 dX1_noteFacts_3 gx1 ?_
  refine wp_istore [some (.ref a), some (.ref p0), some (.int p1), some (.int p2), some (.int x1), none] xi_9 dX1_noteFacts_4 rfl ?_
  refine wp_iload xi_9 dX1_noteFacts_6 rfl ?_
  refine wp_iconst 3 xi_9 dX1_noteFacts_8 rfl ?_
  obtain ⟨x2, gx2, H⟩ := Option.bind_eq_some_iff.mp H
  refine wq_idiv xi_9 dX1_noteFacts_9 gx2 ?_
  refine wp_istore [some (.ref a), some (.ref p0), some (.int p1), some (.int p2), some (.int x1), some (.int x2)] xi_9 dX1_noteFacts_10 rfl ?_
  refine wp_aload_n xi_9 dX1_noteFacts_12 rfl ?_
  obtain ⟨x3, gx3, H⟩ := Option.bind_eq_some_iff.mp H
  refine wq_getfr xi_9 dX1_noteFacts_13 xf_1_15 gx3 ?_
  refine wp_aload_n xi_9 dX1_noteFacts_16 rfl ?_
  obtain ⟨u4, gu4, H⟩ := Option.bind_eq_some_iff.mp H
  obtain ⟨⟨x6, h5⟩, gh5, H⟩ := Option.bind_eq_some_iff.mp H
  dsimp only at H
  refine wq_callV (a := x3) (as := [.ref p0]) (r := []) (v1 := (some (.int x6))) xi_9 xi_3 dX1_noteFacts_17 xm_1_39 rfl (Nat.le_of_ble_eq_true rfl) (pG_ok gu4) ⟨(Nat.le_of_ble_eq_true rfl), (Nat.le_of_ble_eq_true rfl)⟩ rfl nofun (e_3 d _ gh5 ⟨rfl, rfl⟩) ?_
  change Wp _ _ _ _ [.int x6] _ _
  refine wp_pop xi_9 dX1_noteFacts_20 rfl ?_
  refine wp_aload_n xi_9 dX1_noteFacts_21 rfl ?_
  obtain ⟨x7, gx7, H⟩ := Option.bind_eq_some_iff.mp H
  refine wq_getfr xi_9 dX1_noteFacts_22 xf_1_9 gx7 ?_
  refine wp_iconst 0 xi_9 dX1_noteFacts_25 rfl ?_
  refine wp_aload_n xi_9 dX1_noteFacts_26 rfl ?_
  refine wp_iload xi_9 dX1_noteFacts_27 rfl ?_
  obtain ⟨u8, gu8, H⟩ := Option.bind_eq_some_iff.mp H
  obtain ⟨⟨x10, h9⟩, gh9, H⟩ := Option.bind_eq_some_iff.mp H
  dsimp only at H
  refine wq_callV (a := p0) (as := [.int x1]) (r := [.int 0, .ref x7]) (v1 := (some (.int x10))) xi_9 xi_99 dX1_noteFacts_29 xm_1_70 rfl (Nat.le_of_ble_eq_true rfl) (pG_ok gu8) ⟨(Nat.le_of_ble_eq_true rfl), (Nat.le_of_ble_eq_true rfl)⟩ rfl nofun (e_99 d _ gh9 ⟨rfl, rfl⟩) ?_
  change Wp _ _ _ _ [.int x10, .int 0, .ref x7] _ _
  obtain ⟨w12, G63, H⟩ := Option.bind_eq_some_iff.mp H
  have K13 : Wp (d + 2) 9 40 [some (.ref a), some (.ref p0), some (.int p1), some (.int p2), some (.int x1), some (.int x2)] [.int w12, .int 0, .ref x7] h9 Q := by
    obtain ⟨h14, gh14, H⟩ := Option.bind_eq_some_iff.mp H
    refine wq_iastore xi_9 dX1_noteFacts_40 gh14 ?_
    refine wp_aload_n xi_9 dX1_noteFacts_41 rfl ?_
    obtain ⟨x15, gx15, H⟩ := Option.bind_eq_some_iff.mp H
    refine wq_getfr xi_9 dX1_noteFacts_42 xf_1_9 gx15 ?_
    refine wp_iconst 1 xi_9 dX1_noteFacts_45 rfl ?_
    refine wp_aload_n xi_9 dX1_noteFacts_46 rfl ?_
    refine wp_iload xi_9 dX1_noteFacts_47 rfl ?_
    obtain ⟨u16, gu16, H⟩ := Option.bind_eq_some_iff.mp H
    obtain ⟨⟨x18, h17⟩, gh17, H⟩ := Option.bind_eq_some_iff.mp H
    dsimp only at H
    refine wq_callV (a := p0) (as := [.int x1]) (r := [.int 1, .ref x15]) (v1 := (some (.int x18))) xi_9 xi_90 dX1_noteFacts_49 xm_1_73 rfl (Nat.le_of_ble_eq_true rfl) (pG_ok gu16) ⟨(Nat.le_of_ble_eq_true rfl), (Nat.le_of_ble_eq_true rfl)⟩ rfl nofun (e_90 (d + 1) _ gh17 ⟨rfl, rfl⟩) ?_
    change Wp _ _ _ _ [.int x18, .int 1, .ref x15] _ _
    obtain ⟨w22, G62, H⟩ := Option.bind_eq_some_iff.mp H
    have K23 : Wp (d + 2) 9 66 [some (.ref a), some (.ref p0), some (.int p1), some (.int p2), some (.int x1), some (.int x2)] [.int w22, .int 1, .ref x15] h17 Q := by
      obtain ⟨h26, gh26, H⟩ := Option.bind_eq_some_iff.mp H
      refine wq_iastore xi_9 dX1_noteFacts_66 gh26 ?_
      refine wp_aload_n xi_9 dX1_noteFacts_67 rfl ?_
      obtain ⟨x27, gx27, H⟩ := Option.bind_eq_some_iff.mp H
      refine wq_getfr xi_9 dX1_noteFacts_68 xf_1_9 gx27 ?_
      refine wp_iconst 2 xi_9 dX1_noteFacts_71 rfl ?_
      refine wp_iload xi_9 dX1_noteFacts_72 rfl ?_
      obtain ⟨h28, gh28, H⟩ := Option.bind_eq_some_iff.mp H
      refine wq_iastore xi_9 dX1_noteFacts_74 gh28 ?_
      refine wp_aload_n xi_9 dX1_noteFacts_75 rfl ?_
      obtain ⟨x29, gx29, H⟩ := Option.bind_eq_some_iff.mp H
      refine wq_getfr xi_9 dX1_noteFacts_76 xf_1_9 gx29 ?_
      refine wp_iconst 3 xi_9 dX1_noteFacts_79 rfl ?_
      refine wp_iload xi_9 dX1_noteFacts_80 rfl ?_
      refine wp_iconst 3 xi_9 dX1_noteFacts_82 rfl ?_
      obtain ⟨x30, gx30, H⟩ := Option.bind_eq_some_iff.mp H
      refine wq_irem xi_9 dX1_noteFacts_83 gx30 ?_
      obtain ⟨h31, gh31, H⟩ := Option.bind_eq_some_iff.mp H
      refine wq_iastore xi_9 dX1_noteFacts_84 gh31 ?_
      refine wp_aload_n xi_9 dX1_noteFacts_85 rfl ?_
      obtain ⟨x32, gx32, H⟩ := Option.bind_eq_some_iff.mp H
      refine wq_getfr xi_9 dX1_noteFacts_86 xf_1_9 gx32 ?_
      refine wp_iconst 4 xi_9 dX1_noteFacts_89 rfl ?_
      refine wp_iload_n xi_9 dX1_noteFacts_90 rfl ?_
      refine wp_bipush 10 xi_9 dX1_noteFacts_91 rfl ?_
      obtain ⟨x33, gx33, H⟩ := Option.bind_eq_some_iff.mp H
      refine wq_irem xi_9 dX1_noteFacts_93 gx33 ?_
      obtain ⟨h34, gh34, H⟩ := Option.bind_eq_some_iff.mp H
      refine wq_iastore xi_9 dX1_noteFacts_94 gh34 ?_
      refine wp_aload_n xi_9 dX1_noteFacts_95 rfl ?_
      obtain ⟨x35, gx35, H⟩ := Option.bind_eq_some_iff.mp H
      refine wq_getfr xi_9 dX1_noteFacts_96 xf_1_9 gx35 ?_
      refine wp_iconst 5 xi_9 dX1_noteFacts_99 rfl ?_
      refine wp_iconst 3 xi_9 dX1_noteFacts_100 rfl ?_
      refine wp_aload_n xi_9 dX1_noteFacts_101 rfl ?_
      refine wp_iload xi_9 dX1_noteFacts_102 rfl ?_
      obtain ⟨u36, gu36, H⟩ := Option.bind_eq_some_iff.mp H
      obtain ⟨⟨x38, h37⟩, gh37, H⟩ := Option.bind_eq_some_iff.mp H
      dsimp only at H
      refine wq_callV (a := p0) (as := [.int x2]) (r := [.int 3, .int 5, .ref x35]) (v1 := (some (.int x38))) xi_9 xi_97 dX1_noteFacts_104 xm_1_29 rfl (Nat.le_of_ble_eq_true rfl) (pG_ok gu36) ⟨(Nat.le_of_ble_eq_true rfl), (Nat.le_of_ble_eq_true rfl)⟩ rfl nofun (e_97 d _ gh37 ⟨rfl, rfl⟩) ?_
      change Wp _ _ _ _ [.int x38, .int 3, .int 5, .ref x35] _ _
      refine wp_isub xi_9 dX1_noteFacts_107 ?_
      obtain ⟨h39, gh39, H⟩ := Option.bind_eq_some_iff.mp H
      refine wq_iastore xi_9 dX1_noteFacts_108 gh39 ?_
      refine wp_aload_n xi_9 dX1_noteFacts_109 rfl ?_
      obtain ⟨x40, gx40, H⟩ := Option.bind_eq_some_iff.mp H
      refine wq_getfr xi_9 dX1_noteFacts_110 xf_1_9 gx40 ?_
      refine wp_bipush 6 xi_9 dX1_noteFacts_113 rfl ?_
      refine wp_aload_n xi_9 dX1_noteFacts_115 rfl ?_
      obtain ⟨x41, gx41, H⟩ := Option.bind_eq_some_iff.mp H
      refine wq_getfi xi_9 dX1_noteFacts_116 xf_1_79 gx41 ?_
      obtain ⟨h42, gh42, H⟩ := Option.bind_eq_some_iff.mp H
      refine wq_iastore xi_9 dX1_noteFacts_119 gh42 ?_
      refine wp_aload_n xi_9 dX1_noteFacts_120 rfl ?_
      obtain ⟨x43, gx43, H⟩ := Option.bind_eq_some_iff.mp H
      refine wq_getfr xi_9 dX1_noteFacts_121 xf_1_9 gx43 ?_
      refine wp_bipush 7 xi_9 dX1_noteFacts_124 rfl ?_
      refine wp_aload_n xi_9 dX1_noteFacts_126 rfl ?_
      refine wp_iload xi_9 dX1_noteFacts_127 rfl ?_
      obtain ⟨u44, gu44, H⟩ := Option.bind_eq_some_iff.mp H
      obtain ⟨⟨x46, h45⟩, gh45, H⟩ := Option.bind_eq_some_iff.mp H
      dsimp only at H
      refine wq_callV (a := p0) (as := [.int x2]) (r := [.int 7, .ref x43]) (v1 := (some (.int x46))) xi_9 xi_91 dX1_noteFacts_129 xm_1_82 rfl (Nat.le_of_ble_eq_true rfl) (pG_ok gu44) ⟨(Nat.le_of_ble_eq_true rfl), (Nat.le_of_ble_eq_true rfl)⟩ rfl nofun (e_91 (d + 1) _ gh45 ⟨rfl, rfl⟩) ?_
      change Wp _ _ _ _ [.int x46, .int 7, .ref x43] _ _
      obtain ⟨w52, G61, H⟩ := Option.bind_eq_some_iff.mp H
      have K53 : Wp (d + 2) 9 152 [some (.ref a), some (.ref p0), some (.int p1), some (.int p2), some (.int x1), some (.int x2)] [.int w52, .int 7, .ref x43] h45 Q := by
        obtain ⟨h58, gh58, H⟩ := Option.bind_eq_some_iff.mp H
        refine wq_iastore xi_9 dX1_noteFacts_152 gh58 ?_
        refine wp_aload_n xi_9 dX1_noteFacts_153 rfl ?_
        obtain ⟨x59, gx59, H⟩ := Option.bind_eq_some_iff.mp H
        refine wq_getfr xi_9 dX1_noteFacts_154 xf_1_9 gx59 ?_
        refine wp_bipush 8 xi_9 dX1_noteFacts_157 rfl ?_
        refine wp_iload_n xi_9 dX1_noteFacts_159 rfl ?_
        obtain ⟨h60, gh60, H⟩ := Option.bind_eq_some_iff.mp H
        refine wq_iastore xi_9 dX1_noteFacts_160 gh60 ?_
        obtain rfl := Option.some.inj H
        exact wp_vret xi_9 dX1_noteFacts_161 hq
      clear H
      have H := G61
      clear G61
      refine wp_if_eq 151 xi_9 dX1_noteFacts_132 rfl (fun c47 => ?_) (fun c47 => ?_)
      · rw [if_pos c47] at H
        refine wp_iconst 0 xi_9 dX1_noteFacts_151 rfl ?_
        obtain rfl := Option.some.inj H
        exact Wp.more (by simp [xMore, Value.category]) K53
      · rw [if_neg c47] at H
        refine wp_aload_n xi_9 dX1_noteFacts_135 rfl ?_
        obtain ⟨x54, gx54, H⟩ := Option.bind_eq_some_iff.mp H
        refine wq_getfr xi_9 dX1_noteFacts_136 xf_1_15 gx54 ?_
        obtain ⟨x55, gx55, H⟩ := Option.bind_eq_some_iff.mp H
        refine wq_getfr xi_9 dX1_noteFacts_139 xf_1_85 gx55 ?_
        refine wp_iload xi_9 dX1_noteFacts_142 rfl ?_
        obtain ⟨x56, gx56, H⟩ := Option.bind_eq_some_iff.mp H
        refine wq_iaload xi_9 dX1_noteFacts_144 gx56 ?_
        refine wp_bipush 100 xi_9 dX1_noteFacts_145 rfl ?_
        obtain ⟨x57, gx57, H⟩ := Option.bind_eq_some_iff.mp H
        refine wq_idiv xi_9 dX1_noteFacts_147 gx57 ?_
        refine wp_goto 152 xi_9 dX1_noteFacts_148 rfl ?_
        obtain rfl := Option.some.inj H
        exact Wp.more (by simp [xMore, Value.category]) K53
    clear H
    have H := G62
    clear G62
    refine wp_if_eq 65 xi_9 dX1_noteFacts_52 rfl (fun c19 => ?_) (fun c19 => ?_)
    · rw [if_pos c19] at H
      refine wp_iconst 0 xi_9 dX1_noteFacts_65 rfl ?_
      obtain rfl := Option.some.inj H
      exact Wp.more (by simp [xMore, Value.category]) K23
    · rw [if_neg c19] at H
      refine wp_aload_n xi_9 dX1_noteFacts_55 rfl ?_
      obtain ⟨x24, gx24, H⟩ := Option.bind_eq_some_iff.mp H
      refine wq_getfr xi_9 dX1_noteFacts_56 xf_1_76 gx24 ?_
      refine wp_iload xi_9 dX1_noteFacts_59 rfl ?_
      obtain ⟨x25, gx25, H⟩ := Option.bind_eq_some_iff.mp H
      refine wq_iaload xi_9 dX1_noteFacts_61 gx25 ?_
      refine wp_goto 66 xi_9 dX1_noteFacts_62 rfl ?_
      obtain rfl := Option.some.inj H
      exact Wp.more (by simp [xMore, Value.category]) K23
  clear H
  have H := G63
  clear G63
  refine wp_if_eq 39 xi_9 dX1_noteFacts_32 rfl (fun c11 => ?_) (fun c11 => ?_)
  · rw [if_pos c11] at H
    refine wp_iconst 0 xi_9 dX1_noteFacts_39 rfl ?_
    obtain rfl := Option.some.inj H
    exact Wp.more (by simp [xMore, Value.category]) K13
  · rw [if_neg c11] at H
    refine wp_iconst 1 xi_9 dX1_noteFacts_35 rfl ?_
    refine wp_goto 40 xi_9 dX1_noteFacts_36 rfl ?_
    obtain rfl := Option.some.inj H
    exact Wp.more (by simp [xMore, Value.category]) K13
/- FelledHasLost$Games.packKey(LFelledHasLost$Tower;)V -/
def f_22_10  : Nat → Nat → Nat → Int32 → xH → Option (xH)
  | 0, _, _, _, _ => none
  | n + 1, a0, a1, a2, h =>
  (if (48 : Int32) ≤ a2 then
  some (h)
  else
  (pFr h a1 10 0).bind fun x2 =>
  (pAi h x2 a2).bind fun x3 =>
  (pG (pIs h a0 2)).bind fun _ =>
  (f_23 a0 a2 x3 h).bind fun h5 =>
  f_22_10 n a0 a1 (a2 + 1) h5)
theorem ef_22_10 (d : Nat) (Q : Option Value → xH → Prop)  : ∀ (n : Nat) (a0 : Nat) (a1 : Nat) (a2 : Int32) (h : xH) (r : xH), f_22_10 n a0 a1 a2 h = some r → (∀  (h1 : xH), r = h1 → Wp (d + 1) 22 33 [none, none, none] [] h1 Q) → Wp (d + 1) 22 10 [some (.ref a0), some (.ref a1), some (.int a2)] [] h Q := by
  intro n
  induction n with
  | zero =>
    intro a0 a1 a2 h r H
    cases H
  | succ n ih =>
    intro a0 a1 a2 h r H KE
    unfold f_22_10 at H
    refine wp_iload_n xi_22 dX2_packKey_10 rfl ?_
    refine wp_bipush 48 xi_22 dX2_packKey_11 rfl ?_
    refine wp_icmp_ge 33 xi_22 dX2_packKey_13 rfl (fun c1 => ?_) (fun c1 => ?_)
    · rw [if_pos c1] at H
      obtain rfl := Option.some.inj H
      exact Wp.more (by simp [xMore, Value.category]) (KE  h rfl)
    · rw [if_neg c1] at H
      refine wp_aload_n xi_22 dX2_packKey_16 rfl ?_
      refine wp_iload_n xi_22 dX2_packKey_17 rfl ?_
      refine wp_aload_n xi_22 dX2_packKey_18 rfl ?_
      obtain ⟨x2, gx2, H⟩ := Option.bind_eq_some_iff.mp H
      refine wq_getfr xi_22 dX2_packKey_19 xf_2_123 gx2 ?_
      refine wp_iload_n xi_22 dX2_packKey_22 rfl ?_
      obtain ⟨x3, gx3, H⟩ := Option.bind_eq_some_iff.mp H
      refine wq_iaload xi_22 dX2_packKey_23 gx3 ?_
      obtain ⟨u4, gu4, H⟩ := Option.bind_eq_some_iff.mp H
      obtain ⟨h5, gh5, H⟩ := Option.bind_eq_some_iff.mp H
      refine wq_callV (a := a0) (as := [.int a2, .int x3]) (r := []) (v1 := none) xi_22 xi_23 dX2_packKey_24 xm_2_120 rfl (Nat.le_of_ble_eq_true rfl) (pG_ok gu4) ⟨(Nat.le_of_ble_eq_true rfl), (Nat.le_of_ble_eq_true rfl)⟩ rfl nofun (e_23 d _ gh5 ⟨rfl, rfl⟩) ?_
      change Wp _ _ _ _ [] _ _
      refine wp_iinc (a2 + 1) [some (.ref a0), some (.ref a1), some (.int (a2 + 1))] xi_22 dX2_packKey_27 rfl rfl rfl ?_
      refine wp_goto 10 xi_22 dX2_packKey_30 rfl ?_
      exact Wp.more (by simp [xMore, Value.category]) (ih a0 a1 (a2 + 1) h5 _ H KE)
def f_22  (a : Nat) (p0 : Nat) (h : xH) : Option (xH) :=
  (pFr h a 2 3).bind fun x1 =>
  (f_265 x1 (0 : Int64) h).bind fun h2 =>
  (f_22_10 100000 a p0 0 h2).bind fun h3 =>
  some h3
set_option maxHeartbeats 4000000 in
theorem e_22 (d : Nat) (Q : Option Value → xH → Prop)  {h : xH} {a : Nat} {p0 : Nat} {h1 : xH} (H : f_22  a p0 h = some h1) (hq : Q none h1) : Wp (d + 1) 22 0 [some (.ref a), some (.ref p0), none] [] h Q := by
  unfold f_22 at H
  refine wp_aload_n xi_22 dX2_packKey_0 rfl ?_
  obtain ⟨x1, gx1, H⟩ := Option.bind_eq_some_iff.mp H
  refine wq_getfr xi_22 dX2_packKey_1 xf_2_22 gx1 ?_
  refine wp_lconst 0 xi_22 dX2_packKey_4 rfl ?_
  obtain ⟨h2, gh2, H⟩ := Option.bind_eq_some_iff.mp H
  refine wq_callS (as := [.ref x1, .long (0 : Int64)]) (r := []) (v1 := none) xi_22 xi_265 dX2_packKey_5 xm_2_126 rfl (Nat.le_of_ble_eq_true rfl) ⟨(Nat.le_of_ble_eq_true rfl), (Nat.le_of_ble_eq_true rfl)⟩ rfl nofun (e_265 d _ gh2 ⟨rfl, rfl⟩) ?_
  change Wp _ _ _ _ [] _ _
  refine wp_iconst 0 xi_22 dX2_packKey_8 rfl ?_
  refine wp_istore_n [some (.ref a), some (.ref p0), some (.int 0)] xi_22 dX2_packKey_9 rfl ?_
  obtain ⟨h3, G4, H⟩ := Option.bind_eq_some_iff.mp H
  refine Wp.more (by simp [xMore, Value.category]) (ef_22_10 d Q  100000 a p0 0 h2 _ G4 (fun z0 e9 => ?_))
  cases e9
  obtain rfl := Option.some.inj H
  exact wp_vret xi_22 dX2_packKey_33 hq
/- FelledHasLost$Games.nodeOfKey()I -/
def f_26_7  : Nat → Nat → Int32 → Int32 → xH → Option ((Int32 × xH) ⊕ (Int32 × xH))
  | 0, _, _, _, _ => none
  | n + 1, a0, a1, a2, h =>
  (if (1024 : Int32) ≤ a2 then
  some (.inl (a1, h))
  else
  (pFr h a0 2 4).bind fun x2 =>
  (pAi h x2 a1).bind fun x3 =>
  (if x3 = 0 then
  some (.inl (a1, h))
  else
  (pFr h a0 2 4).bind fun x5 =>
  (pAi h x5 a1).bind fun x6 =>
  (pG (pIs h a0 2)).bind fun _ =>
  (f_28 a0 (x6 - 1) h).bind fun (x9, h8) =>
  (if x9 = 0 then
  (pRem (a1 + 1) 1024).bind fun x11 =>
  f_26_7 n a0 x11 (a2 + 1) h8
  else
  (pFr h8 a0 2 4).bind fun x12 =>
  (pAi h8 x12 a1).bind fun x13 =>
  some (.inr ((x13 - 1), h8)))))
theorem ef_26_7 (d : Nat) (Q : Option Value → xH → Prop)  : ∀ (n : Nat) (a0 : Nat) (a1 : Int32) (a2 : Int32) (h : xH) (r : (Int32 × xH) ⊕ (Int32 × xH)), f_26_7 n a0 a1 a2 h = some r → (∀ (w1 : Int32) (h1 : xH), r = .inl (w1, h1) → Wp (d + 1) 26 61 [some (.ref a0), some (.int w1), none] [] h1 Q) → (∀ (x : Int32) (h1 : xH), r = .inr (x, h1) → Q (some (.int x)) h1) → Wp (d + 1) 26 7 [some (.ref a0), some (.int a1), some (.int a2)] [] h Q := by
  intro n
  induction n with
  | zero =>
    intro a0 a1 a2 h r H
    cases H
  | succ n ih =>
    intro a0 a1 a2 h r H KE KR
    unfold f_26_7 at H
    refine wp_iload_n xi_26 dX2_nodeOfKey_7 rfl ?_
    refine wp_sipush 1024 xi_26 dX2_nodeOfKey_8 rfl ?_
    refine wp_icmp_ge 61 xi_26 dX2_nodeOfKey_11 rfl (fun c1 => ?_) (fun c1 => ?_)
    · rw [if_pos c1] at H
      obtain rfl := Option.some.inj H
      exact Wp.more (by simp [xMore, Value.category]) (KE a1 h rfl)
    · rw [if_neg c1] at H
      refine wp_aload_n xi_26 dX2_nodeOfKey_14 rfl ?_
      obtain ⟨x2, gx2, H⟩ := Option.bind_eq_some_iff.mp H
      refine wq_getfr xi_26 dX2_nodeOfKey_15 xf_2_25 gx2 ?_
      refine wp_iload_n xi_26 dX2_nodeOfKey_18 rfl ?_
      obtain ⟨x3, gx3, H⟩ := Option.bind_eq_some_iff.mp H
      refine wq_iaload xi_26 dX2_nodeOfKey_19 gx3 ?_
      refine wp_if_eq 61 xi_26 dX2_nodeOfKey_20 rfl (fun c4 => ?_) (fun c4 => ?_)
      · rw [if_pos c4] at H
        obtain rfl := Option.some.inj H
        exact Wp.more (by simp [xMore, Value.category]) (KE a1 h rfl)
      · rw [if_neg c4] at H
        refine wp_aload_n xi_26 dX2_nodeOfKey_23 rfl ?_
        refine wp_aload_n xi_26 dX2_nodeOfKey_24 rfl ?_
        obtain ⟨x5, gx5, H⟩ := Option.bind_eq_some_iff.mp H
        refine wq_getfr xi_26 dX2_nodeOfKey_25 xf_2_25 gx5 ?_
        refine wp_iload_n xi_26 dX2_nodeOfKey_28 rfl ?_
        obtain ⟨x6, gx6, H⟩ := Option.bind_eq_some_iff.mp H
        refine wq_iaload xi_26 dX2_nodeOfKey_29 gx6 ?_
        refine wp_iconst 1 xi_26 dX2_nodeOfKey_30 rfl ?_
        refine wp_isub xi_26 dX2_nodeOfKey_31 ?_
        obtain ⟨u7, gu7, H⟩ := Option.bind_eq_some_iff.mp H
        obtain ⟨⟨x9, h8⟩, gh8, H⟩ := Option.bind_eq_some_iff.mp H
        dsimp only at H
        refine wq_callV (a := a0) (as := [.int (x6 - 1)]) (r := []) (v1 := (some (.int x9))) xi_26 xi_28 dX2_nodeOfKey_32 xm_2_146 rfl (Nat.le_of_ble_eq_true rfl) (pG_ok gu7) ⟨(Nat.le_of_ble_eq_true rfl), (Nat.le_of_ble_eq_true rfl)⟩ rfl nofun (e_28 d _ gh8 ⟨rfl, rfl⟩) ?_
        change Wp _ _ _ _ [.int x9] _ _
        refine wp_if_eq 47 xi_26 dX2_nodeOfKey_35 rfl (fun c10 => ?_) (fun c10 => ?_)
        · rw [if_pos c10] at H
          refine wp_iload_n xi_26 dX2_nodeOfKey_47 rfl ?_
          refine wp_iconst 1 xi_26 dX2_nodeOfKey_48 rfl ?_
          refine wp_iadd xi_26 dX2_nodeOfKey_49 ?_
          refine wp_sipush 1024 xi_26 dX2_nodeOfKey_50 rfl ?_
          obtain ⟨x11, gx11, H⟩ := Option.bind_eq_some_iff.mp H
          refine wq_irem xi_26 dX2_nodeOfKey_53 gx11 ?_
          refine wp_istore_n [some (.ref a0), some (.int x11), some (.int a2)] xi_26 dX2_nodeOfKey_54 rfl ?_
          refine wp_iinc (a2 + 1) [some (.ref a0), some (.int x11), some (.int (a2 + 1))] xi_26 dX2_nodeOfKey_55 rfl rfl rfl ?_
          refine wp_goto 7 xi_26 dX2_nodeOfKey_58 rfl ?_
          exact Wp.more (by simp [xMore, Value.category]) (ih a0 x11 (a2 + 1) h8 _ H KE KR)
        · rw [if_neg c10] at H
          refine wp_aload_n xi_26 dX2_nodeOfKey_38 rfl ?_
          obtain ⟨x12, gx12, H⟩ := Option.bind_eq_some_iff.mp H
          refine wq_getfr xi_26 dX2_nodeOfKey_39 xf_2_25 gx12 ?_
          refine wp_iload_n xi_26 dX2_nodeOfKey_42 rfl ?_
          obtain ⟨x13, gx13, H⟩ := Option.bind_eq_some_iff.mp H
          refine wq_iaload xi_26 dX2_nodeOfKey_43 gx13 ?_
          refine wp_iconst 1 xi_26 dX2_nodeOfKey_44 rfl ?_
          refine wp_isub xi_26 dX2_nodeOfKey_45 ?_
          obtain rfl := Option.some.inj H
          exact wp_iret xi_26 dX2_nodeOfKey_46 (KR _ _ rfl)
def f_26  (a : Nat) (h : xH) : Option (Int32 × xH) :=
  (pG (pIs h a 2)).bind fun _ =>
  (f_27 a h).bind fun (x3, h2) =>
  (f_26_7 100000 a x3 0 h2).bind fun r8 => match r8 with
  | .inl (w5, h4) =>
  (pFi h4 a 2 14).bind fun x9 =>
  (if x9 < 400 then
  (pFr h4 a 2 3).bind fun x11 =>
  (pFr h4 a 2 2).bind fun x12 =>
  (pFi h4 a 2 14).bind fun x13 =>
  (pCpy h4 x11 0 x12 (3 * x13) 3).bind fun h14 =>
  (pFr h14 a 2 4).bind fun x15 =>
  (pFi h14 a 2 14).bind fun x16 =>
  (pSi h14 x15 w5 (x16 + 1)).bind fun h17 =>
  (pFi h17 a 2 14).bind fun x18 =>
  (pP h17 a 2 14 (.int (x18 + 1))).bind fun h19 =>
  some (x18, h19)
  else
  some ((-1), h4))
  | .inr (x20, h21) => some (x20, h21)
set_option maxHeartbeats 4000000 in
theorem e_26 (d : Nat) (Q : Option Value → xH → Prop)  {h : xH} {a : Nat} {x : Int32} {h1 : xH} (H : f_26  a h = some (x, h1)) (hq : Q (some (.int x)) h1) : Wp (d + 1) 26 0 [some (.ref a), none, none] [] h Q := by
  unfold f_26 at H
  refine wp_aload_n xi_26 dX2_nodeOfKey_0 rfl ?_
  obtain ⟨u1, gu1, H⟩ := Option.bind_eq_some_iff.mp H
  obtain ⟨⟨x3, h2⟩, gh2, H⟩ := Option.bind_eq_some_iff.mp H
  dsimp only at H
  refine wq_callV (a := a) (as := []) (r := []) (v1 := (some (.int x3))) xi_26 xi_27 dX2_nodeOfKey_1 xm_2_143 rfl (Nat.le_of_ble_eq_true rfl) (pG_ok gu1) ⟨(Nat.le_of_ble_eq_true rfl), (Nat.le_of_ble_eq_true rfl)⟩ rfl nofun (e_27 d _ gh2 ⟨rfl, rfl⟩) ?_
  change Wp _ _ _ _ [.int x3] _ _
  refine wp_istore_n [some (.ref a), some (.int x3), none] xi_26 dX2_nodeOfKey_4 rfl ?_
  refine wp_iconst 0 xi_26 dX2_nodeOfKey_5 rfl ?_
  refine wp_istore_n [some (.ref a), some (.int x3), some (.int 0)] xi_26 dX2_nodeOfKey_6 rfl ?_
  obtain ⟨r8, G6, H⟩ := Option.bind_eq_some_iff.mp H
  refine Wp.more (by simp [xMore, Value.category]) (ef_26_7 d Q  100000 a x3 0 h2 _ G6 (fun z0 z1 e9 => ?_) (fun x1 h1 e9 => ?_))
  · subst e9
    dsimp only at H
    obtain ⟨w5, rfl⟩ : ∃ z, z = z0 := ⟨_, rfl⟩; obtain ⟨h4, rfl⟩ : ∃ z, z = z1 := ⟨_, rfl⟩
    refine wp_aload_n xi_26 dX2_nodeOfKey_61 rfl ?_
    obtain ⟨x9, gx9, H⟩ := Option.bind_eq_some_iff.mp H
    refine wq_getfi xi_26 dX2_nodeOfKey_62 xf_2_68 gx9 ?_
    refine wp_sipush 400 xi_26 dX2_nodeOfKey_65 rfl ?_
    refine wp_icmp_lt 73 xi_26 dX2_nodeOfKey_68 rfl (fun c10 => ?_) (fun c10 => ?_)
    · rw [if_pos c10] at H
      refine wp_aload_n xi_26 dX2_nodeOfKey_73 rfl ?_
      obtain ⟨x11, gx11, H⟩ := Option.bind_eq_some_iff.mp H
      refine wq_getfr xi_26 dX2_nodeOfKey_74 xf_2_22 gx11 ?_
      refine wp_iconst 0 xi_26 dX2_nodeOfKey_77 rfl ?_
      refine wp_aload_n xi_26 dX2_nodeOfKey_78 rfl ?_
      obtain ⟨x12, gx12, H⟩ := Option.bind_eq_some_iff.mp H
      refine wq_getfr xi_26 dX2_nodeOfKey_79 xf_2_18 gx12 ?_
      refine wp_iconst 3 xi_26 dX2_nodeOfKey_82 rfl ?_
      refine wp_aload_n xi_26 dX2_nodeOfKey_83 rfl ?_
      obtain ⟨x13, gx13, H⟩ := Option.bind_eq_some_iff.mp H
      refine wq_getfi xi_26 dX2_nodeOfKey_84 xf_2_68 gx13 ?_
      refine wp_imul xi_26 dX2_nodeOfKey_87 ?_
      refine wp_iconst 3 xi_26 dX2_nodeOfKey_88 rfl ?_
      obtain ⟨h14, gh14, H⟩ := Option.bind_eq_some_iff.mp H
      refine wq_cpy xi_26 dX2_nodeOfKey_89 xm_2_114 (Nat.le_of_ble_eq_true rfl) gh14 ?_
      refine wp_aload_n xi_26 dX2_nodeOfKey_92 rfl ?_
      obtain ⟨x15, gx15, H⟩ := Option.bind_eq_some_iff.mp H
      refine wq_getfr xi_26 dX2_nodeOfKey_93 xf_2_25 gx15 ?_
      refine wp_iload_n xi_26 dX2_nodeOfKey_96 rfl ?_
      refine wp_aload_n xi_26 dX2_nodeOfKey_97 rfl ?_
      obtain ⟨x16, gx16, H⟩ := Option.bind_eq_some_iff.mp H
      refine wq_getfi xi_26 dX2_nodeOfKey_98 xf_2_68 gx16 ?_
      refine wp_iconst 1 xi_26 dX2_nodeOfKey_101 rfl ?_
      refine wp_iadd xi_26 dX2_nodeOfKey_102 ?_
      obtain ⟨h17, gh17, H⟩ := Option.bind_eq_some_iff.mp H
      refine wq_iastore xi_26 dX2_nodeOfKey_103 gh17 ?_
      refine wp_aload_n xi_26 dX2_nodeOfKey_104 rfl ?_
      refine wp_dup xi_26 dX2_nodeOfKey_105 rfl ?_
      obtain ⟨x18, gx18, H⟩ := Option.bind_eq_some_iff.mp H
      refine wq_getfi xi_26 dX2_nodeOfKey_106 xf_2_68 gx18 ?_
      refine wp_dup_x1 xi_26 dX2_nodeOfKey_109 rfl rfl ?_
      refine wp_iconst 1 xi_26 dX2_nodeOfKey_110 rfl ?_
      refine wp_iadd xi_26 dX2_nodeOfKey_111 ?_
      obtain ⟨h19, gh19, H⟩ := Option.bind_eq_some_iff.mp H
      refine wq_putf xi_26 dX2_nodeOfKey_112 xf_2_68 (Or.inl rfl) gh19 ?_
      obtain ⟨rfl, rfl⟩ := oi2 H
      exact wp_iret xi_26 dX2_nodeOfKey_115 hq
    · rw [if_neg c10] at H
      refine wp_iconst (-1) xi_26 dX2_nodeOfKey_71 rfl ?_
      obtain ⟨rfl, rfl⟩ := oi2 H
      exact wp_iret xi_26 dX2_nodeOfKey_72 hq
  · subst e9
    dsimp only at H
    obtain ⟨rfl, rfl⟩ := oi2 H
    exact hq
/- FelledHasLost$Games.tellBestPath(LFelledHasLost$Row;)V -/
def f_34_8  : Nat → Nat → Nat → Int32 → Int32 → xH → Option ((xH) ⊕ (xH))
  | 0, _, _, _, _, _ => none
  | n + 1, a0, a1, a2, a3, h =>
  (if (10 : Int32) ≤ a3 then
  some (.inl (h))
  else
  (pFr h a0 2 9).bind fun x2 =>
  (pAi h x2 a2).bind fun x3 =>
  (if x3 ≤ 0 then
  some (.inl (h))
  else
  (pFr h a0 2 9).bind fun x5 =>
  (pAi h x5 a2).bind fun x6 =>
  (pG (pIs h a0 2)).bind fun _ =>
  (f_32 a0 a2 (x6 - 1) h).bind fun (x9, h8) =>
  (if x9 = (-1) then
  some (.inr h8)
  else
  (pDiv x9 1024).bind fun x11 =>
  (pG (pIs h8 a1 5)).bind fun _ =>
  (f_51 a1 ((x11 : Int32).toInt64) h8).bind fun h13 =>
  (f_29 x9 h13).bind fun (x15, h14) =>
  f_34_8 n a0 a1 x15 (a3 + 1) h14)))
theorem ef_34_8 (d : Nat) (Q : Option Value → xH → Prop)  : ∀ (n : Nat) (a0 : Nat) (a1 : Nat) (a2 : Int32) (a3 : Int32) (h : xH) (r : (xH) ⊕ (xH)), f_34_8 n a0 a1 a2 a3 h = some r → (∀  (h1 : xH), r = .inl h1 → Wp (d + 2) 34 68 [none, none, none, none, none] [] h1 Q) → (∀ (h1 : xH), r = .inr h1 → Q none h1) → Wp (d + 2) 34 8 [some (.ref a0), some (.ref a1), some (.int a2), some (.int a3), none] [] h Q := by
  intro n
  induction n with
  | zero =>
    intro a0 a1 a2 a3 h r H
    cases H
  | succ n ih =>
    intro a0 a1 a2 a3 h r H KE KR
    unfold f_34_8 at H
    refine wp_iload_n xi_34 dX2_tellBestPath_8 rfl ?_
    refine wp_bipush 10 xi_34 dX2_tellBestPath_9 rfl ?_
    refine wp_icmp_ge 68 xi_34 dX2_tellBestPath_11 rfl (fun c1 => ?_) (fun c1 => ?_)
    · rw [if_pos c1] at H
      obtain rfl := Option.some.inj H
      exact Wp.more (by simp [xMore, Value.category]) (KE  h rfl)
    · rw [if_neg c1] at H
      refine wp_aload_n xi_34 dX2_tellBestPath_14 rfl ?_
      obtain ⟨x2, gx2, H⟩ := Option.bind_eq_some_iff.mp H
      refine wq_getfr xi_34 dX2_tellBestPath_15 xf_2_41 gx2 ?_
      refine wp_iload_n xi_34 dX2_tellBestPath_18 rfl ?_
      obtain ⟨x3, gx3, H⟩ := Option.bind_eq_some_iff.mp H
      refine wq_iaload xi_34 dX2_tellBestPath_19 gx3 ?_
      refine wp_if_le 68 xi_34 dX2_tellBestPath_20 rfl (fun c4 => ?_) (fun c4 => ?_)
      · rw [if_pos c4] at H
        obtain rfl := Option.some.inj H
        exact Wp.more (by simp [xMore, Value.category]) (KE  h rfl)
      · rw [if_neg c4] at H
        refine wp_aload_n xi_34 dX2_tellBestPath_23 rfl ?_
        refine wp_iload_n xi_34 dX2_tellBestPath_24 rfl ?_
        refine wp_aload_n xi_34 dX2_tellBestPath_25 rfl ?_
        obtain ⟨x5, gx5, H⟩ := Option.bind_eq_some_iff.mp H
        refine wq_getfr xi_34 dX2_tellBestPath_26 xf_2_41 gx5 ?_
        refine wp_iload_n xi_34 dX2_tellBestPath_29 rfl ?_
        obtain ⟨x6, gx6, H⟩ := Option.bind_eq_some_iff.mp H
        refine wq_iaload xi_34 dX2_tellBestPath_30 gx6 ?_
        refine wp_iconst 1 xi_34 dX2_tellBestPath_31 rfl ?_
        refine wp_isub xi_34 dX2_tellBestPath_32 ?_
        obtain ⟨u7, gu7, H⟩ := Option.bind_eq_some_iff.mp H
        obtain ⟨⟨x9, h8⟩, gh8, H⟩ := Option.bind_eq_some_iff.mp H
        dsimp only at H
        refine wq_callV (a := a0) (as := [.int a2, .int (x6 - 1)]) (r := []) (v1 := (some (.int x9))) xi_34 xi_32 dX2_tellBestPath_33 xm_2_155 rfl (Nat.le_of_ble_eq_true rfl) (pG_ok gu7) ⟨(Nat.le_of_ble_eq_true rfl), (Nat.le_of_ble_eq_true rfl)⟩ rfl nofun (e_32 d _ gh8 ⟨rfl, rfl⟩) ?_
        change Wp _ _ _ _ [.int x9] _ _
        refine wp_istore [some (.ref a0), some (.ref a1), some (.int a2), some (.int a3), some (.int x9)] xi_34 dX2_tellBestPath_36 rfl ?_
        refine wp_iload xi_34 dX2_tellBestPath_38 rfl ?_
        refine wp_iconst (-1) xi_34 dX2_tellBestPath_40 rfl ?_
        refine wp_icmp_ne 45 xi_34 dX2_tellBestPath_41 rfl (fun c10 => ?_) (fun c10 => ?_)
        · rw [if_neg c10] at H
          refine wp_aload_n xi_34 dX2_tellBestPath_45 rfl ?_
          refine wp_iload xi_34 dX2_tellBestPath_46 rfl ?_
          refine wp_sipush 1024 xi_34 dX2_tellBestPath_48 rfl ?_
          obtain ⟨x11, gx11, H⟩ := Option.bind_eq_some_iff.mp H
          refine wq_idiv xi_34 dX2_tellBestPath_51 gx11 ?_
          refine wp_i2l xi_34 dX2_tellBestPath_52 ?_
          obtain ⟨u12, gu12, H⟩ := Option.bind_eq_some_iff.mp H
          obtain ⟨h13, gh13, H⟩ := Option.bind_eq_some_iff.mp H
          refine wq_callV (a := a1) (as := [.long ((x11 : Int32).toInt64)]) (r := []) (v1 := none) xi_34 xi_51 dX2_tellBestPath_53 xm_2_161 rfl (Nat.le_of_ble_eq_true rfl) (pG_ok gu12) ⟨(Nat.le_of_ble_eq_true rfl), (Nat.le_of_ble_eq_true rfl)⟩ rfl nofun (e_51 (d + 1) _ gh13 ⟨rfl, rfl⟩) ?_
          change Wp _ _ _ _ [] _ _
          refine wp_iload xi_34 dX2_tellBestPath_56 rfl ?_
          obtain ⟨⟨x15, h14⟩, gh14, H⟩ := Option.bind_eq_some_iff.mp H
          dsimp only at H
          refine wq_callS (as := [.int x9]) (r := []) (v1 := (some (.int x15))) xi_34 xi_29 dX2_tellBestPath_58 xm_2_152 rfl (Nat.le_of_ble_eq_true rfl) ⟨(Nat.le_of_ble_eq_true rfl), (Nat.le_of_ble_eq_true rfl)⟩ rfl nofun (e_29 (d + 1) _ gh14 ⟨rfl, rfl⟩) ?_
          change Wp _ _ _ _ [.int x15] _ _
          refine wp_istore_n [some (.ref a0), some (.ref a1), some (.int x15), some (.int a3), some (.int x9)] xi_34 dX2_tellBestPath_61 rfl ?_
          refine wp_iinc (a3 + 1) [some (.ref a0), some (.ref a1), some (.int x15), some (.int (a3 + 1)), some (.int x9)] xi_34 dX2_tellBestPath_62 rfl rfl rfl ?_
          refine wp_goto 8 xi_34 dX2_tellBestPath_65 rfl ?_
          exact Wp.more (by simp [xMore, Value.category]) (ih a0 a1 x15 (a3 + 1) h14 _ H KE KR)
        · rw [if_pos c10] at H
          obtain rfl := Option.some.inj H
          exact wp_vret xi_34 dX2_tellBestPath_44 (KR _ rfl)
def f_34  (a : Nat) (p0 : Nat) (h : xH) : Option (xH) :=
  (pG (pIs h p0 5)).bind fun _ =>
  (f_50 p0 h).bind fun h2 =>
  (f_34_8 100000 a p0 0 0 h2).bind fun r6 => match r6 with
  | .inl h3 =>
  some h3
  | .inr h8 => some h8
set_option maxHeartbeats 4000000 in
theorem e_34 (d : Nat) (Q : Option Value → xH → Prop)  {h : xH} {a : Nat} {p0 : Nat} {h1 : xH} (H : f_34  a p0 h = some h1) (hq : Q none h1) : Wp (d + 2) 34 0 [some (.ref a), some (.ref p0), none, none, none] [] h Q := by
  unfold f_34 at H
  refine wp_iconst 0 xi_34 dX2_tellBestPath_0 rfl ?_
  refine wp_istore_n [some (.ref a), some (.ref p0), some (.int 0), none, none] xi_34 dX2_tellBestPath_1 rfl ?_
  refine wp_aload_n xi_34 dX2_tellBestPath_2 rfl ?_
  obtain ⟨u1, gu1, H⟩ := Option.bind_eq_some_iff.mp H
  obtain ⟨h2, gh2, H⟩ := Option.bind_eq_some_iff.mp H
  refine wq_callV (a := p0) (as := []) (r := []) (v1 := none) xi_34 xi_50 dX2_tellBestPath_3 xm_2_158 rfl (Nat.le_of_ble_eq_true rfl) (pG_ok gu1) ⟨(Nat.le_of_ble_eq_true rfl), (Nat.le_of_ble_eq_true rfl)⟩ rfl nofun (e_50 (d + 1) _ gh2 ⟨rfl, rfl⟩) ?_
  change Wp _ _ _ _ [] _ _
  refine wp_iconst 0 xi_34 dX2_tellBestPath_6 rfl ?_
  refine wp_istore_n [some (.ref a), some (.ref p0), some (.int 0), some (.int 0), none] xi_34 dX2_tellBestPath_7 rfl ?_
  obtain ⟨r6, G4, H⟩ := Option.bind_eq_some_iff.mp H
  refine Wp.more (by simp [xMore, Value.category]) (ef_34_8 d Q  100000 a p0 0 0 h2 _ G4 (fun z0 e9 => ?_) (fun h1 e9 => ?_))
  · subst e9
    dsimp only at H
    obtain ⟨h3, rfl⟩ : ∃ z, z = z0 := ⟨_, rfl⟩
    obtain rfl := Option.some.inj H
    exact wp_vret xi_34 dX2_tellBestPath_68 hq
  · subst e9
    dsimp only at H
    obtain rfl := Option.some.inj H
    exact hq
/- FelledHasLost$Games.tellPathTo(ILFelledHasLost$Row;)V -/
def f_39_11  : Nat → Nat → Int32 → Nat → Int32 → xH → Option (xH)
  | 0, _, _, _, _, _ => none
  | n + 1, a0, a1, a2, a3, h =>
  (if (10 : Int32) ≤ a3 then
  some (h)
  else
  (pFr h a0 2 7).bind fun x2 =>
  (pAi h x2 a1).bind fun x3 =>
  (if x3 ≤ a3 then
  some (h)
  else
  (pFr h a0 2 12).bind fun x5 =>
  (pAi h x5 a3).bind fun x6 =>
  (pG (pIs h a2 5)).bind fun _ =>
  (f_51 a2 ((x6 : Int32).toInt64) h).bind fun h8 =>
  f_39_11 n a0 a1 a2 (a3 + 1) h8))
theorem ef_39_11 (d : Nat) (Q : Option Value → xH → Prop)  : ∀ (n : Nat) (a0 : Nat) (a1 : Int32) (a2 : Nat) (a3 : Int32) (h : xH) (r : xH), f_39_11 n a0 a1 a2 a3 h = some r → (∀  (h1 : xH), r = h1 → Wp (d + 1) 39 44 [none, none, none, none] [] h1 Q) → Wp (d + 1) 39 11 [some (.ref a0), some (.int a1), some (.ref a2), some (.int a3)] [] h Q := by
  intro n
  induction n with
  | zero =>
    intro a0 a1 a2 a3 h r H
    cases H
  | succ n ih =>
    intro a0 a1 a2 a3 h r H KE
    unfold f_39_11 at H
    refine wp_iload_n xi_39 dX2_tellPathTo_11 rfl ?_
    refine wp_bipush 10 xi_39 dX2_tellPathTo_12 rfl ?_
    refine wp_icmp_ge 44 xi_39 dX2_tellPathTo_14 rfl (fun c1 => ?_) (fun c1 => ?_)
    · rw [if_pos c1] at H
      obtain rfl := Option.some.inj H
      exact Wp.more (by simp [xMore, Value.category]) (KE  h rfl)
    · rw [if_neg c1] at H
      refine wp_iload_n xi_39 dX2_tellPathTo_17 rfl ?_
      refine wp_aload_n xi_39 dX2_tellPathTo_18 rfl ?_
      obtain ⟨x2, gx2, H⟩ := Option.bind_eq_some_iff.mp H
      refine wq_getfr xi_39 dX2_tellPathTo_19 xf_2_35 gx2 ?_
      refine wp_iload_n xi_39 dX2_tellPathTo_22 rfl ?_
      obtain ⟨x3, gx3, H⟩ := Option.bind_eq_some_iff.mp H
      refine wq_iaload xi_39 dX2_tellPathTo_23 gx3 ?_
      refine wp_icmp_ge 44 xi_39 dX2_tellPathTo_24 rfl (fun c4 => ?_) (fun c4 => ?_)
      · rw [if_pos c4] at H
        obtain rfl := Option.some.inj H
        exact Wp.more (by simp [xMore, Value.category]) (KE  h rfl)
      · rw [if_neg c4] at H
        refine wp_aload_n xi_39 dX2_tellPathTo_27 rfl ?_
        refine wp_aload_n xi_39 dX2_tellPathTo_28 rfl ?_
        obtain ⟨x5, gx5, H⟩ := Option.bind_eq_some_iff.mp H
        refine wq_getfr xi_39 dX2_tellPathTo_29 xf_2_51 gx5 ?_
        refine wp_iload_n xi_39 dX2_tellPathTo_32 rfl ?_
        obtain ⟨x6, gx6, H⟩ := Option.bind_eq_some_iff.mp H
        refine wq_iaload xi_39 dX2_tellPathTo_33 gx6 ?_
        refine wp_i2l xi_39 dX2_tellPathTo_34 ?_
        obtain ⟨u7, gu7, H⟩ := Option.bind_eq_some_iff.mp H
        obtain ⟨h8, gh8, H⟩ := Option.bind_eq_some_iff.mp H
        refine wq_callV (a := a2) (as := [.long ((x6 : Int32).toInt64)]) (r := []) (v1 := none) xi_39 xi_51 dX2_tellPathTo_35 xm_2_161 rfl (Nat.le_of_ble_eq_true rfl) (pG_ok gu7) ⟨(Nat.le_of_ble_eq_true rfl), (Nat.le_of_ble_eq_true rfl)⟩ rfl nofun (e_51 d _ gh8 ⟨rfl, rfl⟩) ?_
        change Wp _ _ _ _ [] _ _
        refine wp_iinc (a3 + 1) [some (.ref a0), some (.int a1), some (.ref a2), some (.int (a3 + 1))] xi_39 dX2_tellPathTo_38 rfl rfl rfl ?_
        refine wp_goto 11 xi_39 dX2_tellPathTo_41 rfl ?_
        exact Wp.more (by simp [xMore, Value.category]) (ih a0 a1 a2 (a3 + 1) h8 _ H KE)
def f_39  (a : Nat) (p0 : Int32) (p1 : Nat) (h : xH) : Option (xH) :=
  (pG (pIs h a 2)).bind fun _ =>
  (f_37 a p0 h).bind fun h2 =>
  (pG (pIs h2 p1 5)).bind fun _ =>
  (f_50 p1 h2).bind fun h4 =>
  (f_39_11 100000 a p0 p1 0 h4).bind fun h5 =>
  some h5
set_option maxHeartbeats 4000000 in
theorem e_39 (d : Nat) (Q : Option Value → xH → Prop)  {h : xH} {a : Nat} {p0 : Int32} {p1 : Nat} {h1 : xH} (H : f_39  a p0 p1 h = some h1) (hq : Q none h1) : Wp (d + 1) 39 0 [some (.ref a), some (.int p0), some (.ref p1), none] [] h Q := by
  unfold f_39 at H
  refine wp_aload_n xi_39 dX2_tellPathTo_0 rfl ?_
  refine wp_iload_n xi_39 dX2_tellPathTo_1 rfl ?_
  obtain ⟨u1, gu1, H⟩ := Option.bind_eq_some_iff.mp H
  obtain ⟨h2, gh2, H⟩ := Option.bind_eq_some_iff.mp H
  refine wq_callV (a := a) (as := [.int p0]) (r := []) (v1 := none) xi_39 xi_37 dX2_tellPathTo_2 xm_2_165 rfl (Nat.le_of_ble_eq_true rfl) (pG_ok gu1) ⟨(Nat.le_of_ble_eq_true rfl), (Nat.le_of_ble_eq_true rfl)⟩ rfl nofun (e_37 d _ gh2 ⟨rfl, rfl⟩) ?_
  change Wp _ _ _ _ [] _ _
  refine wp_aload_n xi_39 dX2_tellPathTo_5 rfl ?_
  obtain ⟨u3, gu3, H⟩ := Option.bind_eq_some_iff.mp H
  obtain ⟨h4, gh4, H⟩ := Option.bind_eq_some_iff.mp H
  refine wq_callV (a := p1) (as := []) (r := []) (v1 := none) xi_39 xi_50 dX2_tellPathTo_6 xm_2_158 rfl (Nat.le_of_ble_eq_true rfl) (pG_ok gu3) ⟨(Nat.le_of_ble_eq_true rfl), (Nat.le_of_ble_eq_true rfl)⟩ rfl nofun (e_50 d _ gh4 ⟨rfl, rfl⟩) ?_
  change Wp _ _ _ _ [] _ _
  refine wp_iconst 0 xi_39 dX2_tellPathTo_9 rfl ?_
  refine wp_istore_n [some (.ref a), some (.int p0), some (.ref p1), some (.int 0)] xi_39 dX2_tellPathTo_10 rfl ?_
  obtain ⟨h5, G6, H⟩ := Option.bind_eq_some_iff.mp H
  refine Wp.more (by simp [xMore, Value.category]) (ef_39_11 d Q  100000 a p0 p1 0 h4 _ G6 (fun z0 e9 => ?_))
  cases e9
  obtain rfl := Option.some.inj H
  exact wp_vret xi_39 dX2_tellPathTo_44 hq
/- FelledHasLost$MoveList.readDigit(LFelledHasLost$Text;II)I -/
def f_48  (a : Nat) (p0 : Nat) (p1 : Int32) (p2 : Int32) (h : xH) : Option (Int32 × xH) :=
  (pG (pIs h p0 8)).bind fun _ =>
  (f_76 p0 p1 h).bind fun (x3, h2) =>
  (if x3 = 0 then
  some ((-1), h2)
  else
  (pFr h2 p0 8 0).bind fun x5 =>
  (pAi h2 x5 p1).bind fun x6 =>
  ((if p2 = 0 then
  some ((x6 - 48))
  else
  (pFi h2 a 4 2).bind fun x11 =>
  some (((10 * x11) + (x6 - 48))) : Option (Int32))).bind fun (w9 : Int32) =>
  (pP h2 a 4 2 (.int w9)).bind fun h12 =>
  ((if p2 = 0 then
  some (1)
  else
  some (2) : Option (Int32))).bind fun (w14 : Int32) =>
  some (w14, h12))
set_option maxHeartbeats 4000000 in
theorem e_48 (d : Nat) (Q : Option Value → xH → Prop)  {h : xH} {a : Nat} {p0 : Nat} {p1 : Int32} {p2 : Int32} {x : Int32} {h1 : xH} (H : f_48  a p0 p1 p2 h = some (x, h1)) (hq : Q (some (.int x)) h1) : Wp (d + 1) 48 0 [some (.ref a), some (.ref p0), some (.int p1), some (.int p2), none] [] h Q := by
  unfold f_48 at H
  refine wp_aload_n xi_48 dX4_readDigit_0 rfl ?_
  refine wp_iload_n xi_48 dX4_readDigit_1 rfl ?_
  obtain ⟨u1, gu1, H⟩ := Option.bind_eq_some_iff.mp H
  obtain ⟨⟨x3, h2⟩, gh2, H⟩ := Option.bind_eq_some_iff.mp H
  dsimp only at H
  refine wq_callV (a := p0) (as := [.int p1]) (r := []) (v1 := (some (.int x3))) xi_48 xi_76 dX4_readDigit_2 xm_4_42 rfl (Nat.le_of_ble_eq_true rfl) (pG_ok gu1) ⟨(Nat.le_of_ble_eq_true rfl), (Nat.le_of_ble_eq_true rfl)⟩ rfl nofun (e_76 d _ gh2 ⟨rfl, rfl⟩) ?_
  change Wp _ _ _ _ [.int x3] _ _
  refine wp_if_ne 10 xi_48 dX4_readDigit_5 rfl (fun c4 => ?_) (fun c4 => ?_)
  · rw [if_neg c4] at H
    refine wp_aload_n xi_48 dX4_readDigit_10 rfl ?_
    obtain ⟨x5, gx5, H⟩ := Option.bind_eq_some_iff.mp H
    refine wq_getfr xi_48 dX4_readDigit_11 xf_4_51 gx5 ?_
    refine wp_iload_n xi_48 dX4_readDigit_14 rfl ?_
    obtain ⟨x6, gx6, H⟩ := Option.bind_eq_some_iff.mp H
    refine wq_iaload xi_48 dX4_readDigit_15 gx6 ?_
    refine wp_bipush 48 xi_48 dX4_readDigit_16 rfl ?_
    refine wp_isub xi_48 dX4_readDigit_18 ?_
    refine wp_istore [some (.ref a), some (.ref p0), some (.int p1), some (.int p2), some (.int (x6 - 48))] xi_48 dX4_readDigit_19 rfl ?_
    refine wp_aload_n xi_48 dX4_readDigit_21 rfl ?_
    refine wp_iload_n xi_48 dX4_readDigit_22 rfl ?_
    obtain ⟨w9, G17, H⟩ := Option.bind_eq_some_iff.mp H
    have K10 : Wp (d + 1) 48 41 [some (.ref a), some (.ref p0), some (.int p1), some (.int p2), some (.int (x6 - 48))] [.int w9, .ref a] h2 Q := by
      obtain ⟨h12, gh12, H⟩ := Option.bind_eq_some_iff.mp H
      refine wq_putf xi_48 dX4_readDigit_41 xf_4_60 (Or.inl rfl) gh12 ?_
      refine wp_iload_n xi_48 dX4_readDigit_44 rfl ?_
      obtain ⟨w14, G16, H⟩ := Option.bind_eq_some_iff.mp H
      have K15 : Wp (d + 1) 48 53 [some (.ref a), some (.ref p0), some (.int p1), some (.int p2), some (.int (x6 - 48))] [.int w14] h12 Q := by
        obtain ⟨rfl, rfl⟩ := oi2 H
        exact wp_iret xi_48 dX4_readDigit_53 hq
      clear H
      have H := G16
      clear G16
      refine wp_if_ne 52 xi_48 dX4_readDigit_45 rfl (fun c13 => ?_) (fun c13 => ?_)
      · rw [if_neg c13] at H
        refine wp_iconst 2 xi_48 dX4_readDigit_52 rfl ?_
        obtain rfl := Option.some.inj H
        exact Wp.more (by simp [xMore, Value.category]) K15
      · rw [if_pos c13] at H
        refine wp_iconst 1 xi_48 dX4_readDigit_48 rfl ?_
        refine wp_goto 53 xi_48 dX4_readDigit_49 rfl ?_
        obtain rfl := Option.some.inj H
        exact Wp.more (by simp [xMore, Value.category]) K15
    clear H
    have H := G17
    clear G17
    refine wp_if_ne 31 xi_48 dX4_readDigit_23 rfl (fun c7 => ?_) (fun c7 => ?_)
    · rw [if_neg c7] at H
      refine wp_bipush 10 xi_48 dX4_readDigit_31 rfl ?_
      refine wp_aload_n xi_48 dX4_readDigit_33 rfl ?_
      obtain ⟨x11, gx11, H⟩ := Option.bind_eq_some_iff.mp H
      refine wq_getfi xi_48 dX4_readDigit_34 xf_4_60 gx11 ?_
      refine wp_imul xi_48 dX4_readDigit_37 ?_
      refine wp_iload xi_48 dX4_readDigit_38 rfl ?_
      refine wp_iadd xi_48 dX4_readDigit_40 ?_
      obtain rfl := Option.some.inj H
      exact Wp.more (by simp [xMore, Value.category]) K10
    · rw [if_pos c7] at H
      refine wp_iload xi_48 dX4_readDigit_26 rfl ?_
      refine wp_goto 41 xi_48 dX4_readDigit_28 rfl ?_
      obtain rfl := Option.some.inj H
      exact Wp.more (by simp [xMore, Value.category]) K10
  · rw [if_pos c4] at H
    refine wp_iconst (-1) xi_48 dX4_readDigit_8 rfl ?_
    obtain ⟨rfl, rfl⟩ := oi2 H
    exact wp_iret xi_48 dX4_readDigit_9 hq
/- FelledHasLost$Rule.draftNone()V -/
def f_56  (a : Nat) (h : xH) : Option (xH) :=
  (pIx (xKb + 10 + 0) 104).bind fun x1 =>
  (pG (pIs h a 6)).bind fun _ =>
  (f_57 a (1000 + x1) h).bind fun h3 =>
  (pIx (xKb + 10 + 0) 116).bind fun x4 =>
  (pG (pIs h3 a 6)).bind fun _ =>
  (f_57 a (1000 + x4) h3).bind fun h6 =>
  (pG (pIs h6 a 6)).bind fun _ =>
  (f_57 a 2042 h6).bind fun h8 =>
  some h8
set_option maxHeartbeats 4000000 in
theorem e_56 (d : Nat) (Q : Option Value → xH → Prop)  {h : xH} {a : Nat} {h1 : xH} (H : f_56  a h = some h1) (hq : Q none h1) : Wp (d + 1) 56 0 [some (.ref a)] [] h Q := by
  unfold f_56 at H
  refine wp_aload_n xi_56 dX6_draftNone_0 rfl ?_
  refine wp_sipush 1000 xi_56 dX6_draftNone_1 rfl ?_
  refine wp_ldcS xi_56 dX6_draftNone_4 xs0_6_85 xs_6_85 ?_
  refine wp_bipush 104 xi_56 dX6_draftNone_6 rfl ?_
  obtain ⟨x1, gx1, H⟩ := Option.bind_eq_some_iff.mp H
  refine wq_ix xi_56 dX6_draftNone_8 xm_6_87 (Nat.le_of_ble_eq_true rfl) gx1 ?_
  refine wp_iadd xi_56 dX6_draftNone_11 ?_
  obtain ⟨u2, gu2, H⟩ := Option.bind_eq_some_iff.mp H
  obtain ⟨h3, gh3, H⟩ := Option.bind_eq_some_iff.mp H
  refine wq_callV (a := a) (as := [.int (1000 + x1)]) (r := []) (v1 := none) xi_56 xi_57 dX6_draftNone_12 xm_6_93 rfl (Nat.le_of_ble_eq_true rfl) (pG_ok gu2) ⟨(Nat.le_of_ble_eq_true rfl), (Nat.le_of_ble_eq_true rfl)⟩ rfl nofun (e_57 d _ gh3 ⟨rfl, rfl⟩) ?_
  change Wp _ _ _ _ [] _ _
  refine wp_aload_n xi_56 dX6_draftNone_15 rfl ?_
  refine wp_sipush 1000 xi_56 dX6_draftNone_16 rfl ?_
  refine wp_ldcS xi_56 dX6_draftNone_19 xs0_6_85 xs_6_85 ?_
  refine wp_bipush 116 xi_56 dX6_draftNone_21 rfl ?_
  obtain ⟨x4, gx4, H⟩ := Option.bind_eq_some_iff.mp H
  refine wq_ix xi_56 dX6_draftNone_23 xm_6_87 (Nat.le_of_ble_eq_true rfl) gx4 ?_
  refine wp_iadd xi_56 dX6_draftNone_26 ?_
  obtain ⟨u5, gu5, H⟩ := Option.bind_eq_some_iff.mp H
  obtain ⟨h6, gh6, H⟩ := Option.bind_eq_some_iff.mp H
  refine wq_callV (a := a) (as := [.int (1000 + x4)]) (r := []) (v1 := none) xi_56 xi_57 dX6_draftNone_27 xm_6_93 rfl (Nat.le_of_ble_eq_true rfl) (pG_ok gu5) ⟨(Nat.le_of_ble_eq_true rfl), (Nat.le_of_ble_eq_true rfl)⟩ rfl nofun (e_57 d _ gh6 ⟨rfl, rfl⟩) ?_
  change Wp _ _ _ _ [] _ _
  refine wp_aload_n xi_56 dX6_draftNone_30 rfl ?_
  refine wp_sipush 2042 xi_56 dX6_draftNone_31 rfl ?_
  obtain ⟨u7, gu7, H⟩ := Option.bind_eq_some_iff.mp H
  obtain ⟨h8, gh8, H⟩ := Option.bind_eq_some_iff.mp H
  refine wq_callV (a := a) (as := [.int 2042]) (r := []) (v1 := none) xi_56 xi_57 dX6_draftNone_34 xm_6_93 rfl (Nat.le_of_ble_eq_true rfl) (pG_ok gu7) ⟨(Nat.le_of_ble_eq_true rfl), (Nat.le_of_ble_eq_true rfl)⟩ rfl nofun (e_57 d _ gh8 ⟨rfl, rfl⟩) ?_
  change Wp _ _ _ _ [] _ _
  obtain rfl := Option.some.inj H
  exact wp_vret xi_56 dX6_draftNone_37 hq
/- FelledHasLost$Rule.readThing(LFelledHasLost$Text;I)Z -/
def f_59  (a : Nat) (p0 : Nat) (p1 : Int32) (h : xH) : Option (Int32 × xH) :=
  (pG (pIs h p0 8)).bind fun _ =>
  (f_77 p0 p1 (xKb + 10 + 4) h).bind fun (x3, h2) =>
  (if x3 = 0 then
  (pG (pIs h2 p0 8)).bind fun _ =>
  (f_77 p0 p1 (xKb + 10 + 5) h2).bind fun (x7, h6) =>
  (if x7 = 0 then
  (pG (pIs h6 p0 8)).bind fun _ =>
  (f_76 p0 p1 h6).bind fun (x11, h10) =>
  (if x11 = 0 then
  (pG (pIs h10 p0 8)).bind fun _ =>
  (f_77 p0 p1 (xKb + 10 + 0) h10).bind fun (x15, h14) =>
  (if x15 = 0 then
  pZ 0 h14
  else
  (pFr h14 p0 8 0).bind fun x17 =>
  (pAi h14 x17 p1).bind fun x18 =>
  (pIx (xKb + 10 + 0) (((x18 : Int32).toUInt32 % 65536).toInt32)).bind fun x19 =>
  (pG (pIs h14 a 6)).bind fun _ =>
  (f_57 a (1000 + x19) h14).bind fun h21 =>
  (pP h21 a 6 9 (.int 0)).bind fun h22 =>
  (pP h22 a 6 10 (.int 0)).bind fun h23 =>
  pZ 1 h23)
  else
  (pFr h10 p0 8 0).bind fun x24 =>
  (pAi h10 x24 p1).bind fun x25 =>
  (pG (pIs h10 a 6)).bind fun _ =>
  (f_57 a (x25 - 48) h10).bind fun h27 =>
  (pP h27 a 6 9 (.int 1)).bind fun h28 =>
  (pP h28 a 6 10 (.int 0)).bind fun h29 =>
  pZ 1 h29)
  else
  (pFi h6 a 6 8).bind fun x30 =>
  (if (4 : Int32) ≤ x30 then
  (pG (pIs h6 p0 8)).bind fun _ =>
  (f_76 p0 p1 h6).bind fun (x34, h33) =>
  (if x34 = 0 then
  (pG (pIs h33 p0 8)).bind fun _ =>
  (f_77 p0 p1 (xKb + 10 + 0) h33).bind fun (x38, h37) =>
  (if x38 = 0 then
  pZ 0 h37
  else
  (pFr h37 p0 8 0).bind fun x40 =>
  (pAi h37 x40 p1).bind fun x41 =>
  (pIx (xKb + 10 + 0) (((x41 : Int32).toUInt32 % 65536).toInt32)).bind fun x42 =>
  (pG (pIs h37 a 6)).bind fun _ =>
  (f_57 a (1000 + x42) h37).bind fun h44 =>
  (pP h44 a 6 9 (.int 0)).bind fun h45 =>
  (pP h45 a 6 10 (.int 0)).bind fun h46 =>
  pZ 1 h46)
  else
  (pFr h33 p0 8 0).bind fun x47 =>
  (pAi h33 x47 p1).bind fun x48 =>
  (pG (pIs h33 a 6)).bind fun _ =>
  (f_57 a (x48 - 48) h33).bind fun h50 =>
  (pP h50 a 6 9 (.int 1)).bind fun h51 =>
  (pP h51 a 6 10 (.int 0)).bind fun h52 =>
  pZ 1 h52)
  else
  (pG (pIs h6 a 6)).bind fun _ =>
  (f_58 a 4000 h6).bind fun h54 =>
  (pFi h54 a 6 8).bind fun x55 =>
  (pP h54 a 6 8 (.int (x55 + 1))).bind fun h56 =>
  (pFr h56 a 6 4).bind fun x57 =>
  (pFi h56 a 6 8).bind fun x58 =>
  (pSb h56 x57 x58 0).bind fun h59 =>
  pZ 1 h59))
  else
  (pG (pIs h2 a 6)).bind fun _ =>
  (f_58 a 3000 h2).bind fun h61 =>
  pZ 1 h61)
set_option maxHeartbeats 4000000 in
theorem e_59 (d : Nat) (Q : Option Value → xH → Prop)  {h : xH} {a : Nat} {p0 : Nat} {p1 : Int32} {x : Int32} {h1 : xH} (H : f_59  a p0 p1 h = some (x, h1)) (hq : Q (some (.int x)) h1) : Wp (d + 1) 59 0 [some (.ref a), some (.ref p0), some (.int p1)] [] h Q := by
  unfold f_59 at H
  refine wp_aload_n xi_59 dX6_readThing_0 rfl ?_
  refine wp_iload_n xi_59 dX6_readThing_1 rfl ?_
  refine wp_ldcS xi_59 dX6_readThing_2 xs0_6_96 xs_6_96 ?_
  obtain ⟨u1, gu1, H⟩ := Option.bind_eq_some_iff.mp H
  obtain ⟨⟨x3, h2⟩, gh2, H⟩ := Option.bind_eq_some_iff.mp H
  dsimp only at H
  refine wq_callV (a := p0) (as := [.int p1, .ref (xKb + 10 + 4)]) (r := []) (v1 := (some (.int x3))) xi_59 xi_77 dX6_readThing_4 xm_6_98 rfl (Nat.le_of_ble_eq_true rfl) (pG_ok gu1) ⟨(Nat.le_of_ble_eq_true rfl), (Nat.le_of_ble_eq_true rfl)⟩ rfl nofun (e_77 d _ gh2 ⟨rfl, rfl⟩) ?_
  change Wp _ _ _ _ [.int x3] _ _
  refine wp_if_eq 19 xi_59 dX6_readThing_7 rfl (fun c4 => ?_) (fun c4 => ?_)
  · rw [if_pos c4] at H
    refine wp_aload_n xi_59 dX6_readThing_19 rfl ?_
    refine wp_iload_n xi_59 dX6_readThing_20 rfl ?_
    refine wp_ldcS xi_59 dX6_readThing_21 xs0_6_105 xs_6_105 ?_
    obtain ⟨u5, gu5, H⟩ := Option.bind_eq_some_iff.mp H
    obtain ⟨⟨x7, h6⟩, gh6, H⟩ := Option.bind_eq_some_iff.mp H
    dsimp only at H
    refine wq_callV (a := p0) (as := [.int p1, .ref (xKb + 10 + 5)]) (r := []) (v1 := (some (.int x7))) xi_59 xi_77 dX6_readThing_23 xm_6_98 rfl (Nat.le_of_ble_eq_true rfl) (pG_ok gu5) ⟨(Nat.le_of_ble_eq_true rfl), (Nat.le_of_ble_eq_true rfl)⟩ rfl nofun (e_77 d _ gh6 ⟨rfl, rfl⟩) ?_
    change Wp _ _ _ _ [.int x7] _ _
    refine wp_if_eq 66 xi_59 dX6_readThing_26 rfl (fun c8 => ?_) (fun c8 => ?_)
    · rw [if_pos c8] at H
      refine wp_aload_n xi_59 dX6_readThing_66 rfl ?_
      refine wp_iload_n xi_59 dX6_readThing_67 rfl ?_
      obtain ⟨u9, gu9, H⟩ := Option.bind_eq_some_iff.mp H
      obtain ⟨⟨x11, h10⟩, gh10, H⟩ := Option.bind_eq_some_iff.mp H
      dsimp only at H
      refine wq_callV (a := p0) (as := [.int p1]) (r := []) (v1 := (some (.int x11))) xi_59 xi_76 dX6_readThing_68 xm_6_107 rfl (Nat.le_of_ble_eq_true rfl) (pG_ok gu9) ⟨(Nat.le_of_ble_eq_true rfl), (Nat.le_of_ble_eq_true rfl)⟩ rfl nofun (e_76 d _ gh10 ⟨rfl, rfl⟩) ?_
      change Wp _ _ _ _ [.int x11] _ _
      refine wp_if_eq 95 xi_59 dX6_readThing_71 rfl (fun c12 => ?_) (fun c12 => ?_)
      · rw [if_pos c12] at H
        refine wp_aload_n xi_59 dX6_readThing_95 rfl ?_
        refine wp_iload_n xi_59 dX6_readThing_96 rfl ?_
        refine wp_ldcS xi_59 dX6_readThing_97 xs0_6_85 xs_6_85 ?_
        obtain ⟨u13, gu13, H⟩ := Option.bind_eq_some_iff.mp H
        obtain ⟨⟨x15, h14⟩, gh14, H⟩ := Option.bind_eq_some_iff.mp H
        dsimp only at H
        refine wq_callV (a := p0) (as := [.int p1, .ref (xKb + 10 + 0)]) (r := []) (v1 := (some (.int x15))) xi_59 xi_77 dX6_readThing_99 xm_6_98 rfl (Nat.le_of_ble_eq_true rfl) (pG_ok gu13) ⟨(Nat.le_of_ble_eq_true rfl), (Nat.le_of_ble_eq_true rfl)⟩ rfl nofun (e_77 d _ gh14 ⟨rfl, rfl⟩) ?_
        change Wp _ _ _ _ [.int x15] _ _
        refine wp_if_eq 133 xi_59 dX6_readThing_102 rfl (fun c16 => ?_) (fun c16 => ?_)
        · rw [if_pos c16] at H
          refine wp_iconst 0 xi_59 dX6_readThing_133 rfl ?_
          obtain ⟨gz, hz⟩ := pZ_ok H
          obtain ⟨rfl, rfl⟩ := Prod.mk.inj hz
          exact wp_zret xi_59 dX6_readThing_134 gz hq
        · rw [if_neg c16] at H
          refine wp_aload_n xi_59 dX6_readThing_105 rfl ?_
          refine wp_sipush 1000 xi_59 dX6_readThing_106 rfl ?_
          refine wp_ldcS xi_59 dX6_readThing_109 xs0_6_85 xs_6_85 ?_
          refine wp_aload_n xi_59 dX6_readThing_111 rfl ?_
          obtain ⟨x17, gx17, H⟩ := Option.bind_eq_some_iff.mp H
          refine wq_getfr xi_59 dX6_readThing_112 xf_6_111 gx17 ?_
          refine wp_iload_n xi_59 dX6_readThing_115 rfl ?_
          obtain ⟨x18, gx18, H⟩ := Option.bind_eq_some_iff.mp H
          refine wq_iaload xi_59 dX6_readThing_116 gx18 ?_
          refine wp_i2c xi_59 dX6_readThing_117 ?_
          obtain ⟨x19, gx19, H⟩ := Option.bind_eq_some_iff.mp H
          refine wq_ix xi_59 dX6_readThing_118 xm_6_87 (Nat.le_of_ble_eq_true rfl) gx19 ?_
          refine wp_iadd xi_59 dX6_readThing_121 ?_
          obtain ⟨u20, gu20, H⟩ := Option.bind_eq_some_iff.mp H
          obtain ⟨h21, gh21, H⟩ := Option.bind_eq_some_iff.mp H
          refine wq_callV (a := a) (as := [.int (1000 + x19)]) (r := []) (v1 := none) xi_59 xi_57 dX6_readThing_122 xm_6_93 rfl (Nat.le_of_ble_eq_true rfl) (pG_ok gu20) ⟨(Nat.le_of_ble_eq_true rfl), (Nat.le_of_ble_eq_true rfl)⟩ rfl nofun (e_57 d _ gh21 ⟨rfl, rfl⟩) ?_
          change Wp _ _ _ _ [] _ _
          refine wp_aload_n xi_59 dX6_readThing_125 rfl ?_
          refine wp_iconst 0 xi_59 dX6_readThing_126 rfl ?_
          obtain ⟨h22, gh22, H⟩ := Option.bind_eq_some_iff.mp H
          refine wq_putf xi_59 dX6_readThing_127 xf_6_82 (Or.inl rfl) gh22 ?_
          refine wp_goto 135 xi_59 dX6_readThing_130 rfl ?_
          refine wp_aload_n xi_59 dX6_readThing_135 rfl ?_
          refine wp_iconst 0 xi_59 dX6_readThing_136 rfl ?_
          obtain ⟨h23, gh23, H⟩ := Option.bind_eq_some_iff.mp H
          refine wq_putf xi_59 dX6_readThing_137 xf_6_49 (Or.inl rfl) gh23 ?_
          refine wp_iconst 1 xi_59 dX6_readThing_140 rfl ?_
          obtain ⟨gz, hz⟩ := pZ_ok H
          obtain ⟨rfl, rfl⟩ := Prod.mk.inj hz
          exact wp_zret xi_59 dX6_readThing_141 gz hq
      · rw [if_neg c12] at H
        refine wp_aload_n xi_59 dX6_readThing_74 rfl ?_
        refine wp_aload_n xi_59 dX6_readThing_75 rfl ?_
        obtain ⟨x24, gx24, H⟩ := Option.bind_eq_some_iff.mp H
        refine wq_getfr xi_59 dX6_readThing_76 xf_6_111 gx24 ?_
        refine wp_iload_n xi_59 dX6_readThing_79 rfl ?_
        obtain ⟨x25, gx25, H⟩ := Option.bind_eq_some_iff.mp H
        refine wq_iaload xi_59 dX6_readThing_80 gx25 ?_
        refine wp_bipush 48 xi_59 dX6_readThing_81 rfl ?_
        refine wp_isub xi_59 dX6_readThing_83 ?_
        obtain ⟨u26, gu26, H⟩ := Option.bind_eq_some_iff.mp H
        obtain ⟨h27, gh27, H⟩ := Option.bind_eq_some_iff.mp H
        refine wq_callV (a := a) (as := [.int (x25 - 48)]) (r := []) (v1 := none) xi_59 xi_57 dX6_readThing_84 xm_6_93 rfl (Nat.le_of_ble_eq_true rfl) (pG_ok gu26) ⟨(Nat.le_of_ble_eq_true rfl), (Nat.le_of_ble_eq_true rfl)⟩ rfl nofun (e_57 d _ gh27 ⟨rfl, rfl⟩) ?_
        change Wp _ _ _ _ [] _ _
        refine wp_aload_n xi_59 dX6_readThing_87 rfl ?_
        refine wp_iconst 1 xi_59 dX6_readThing_88 rfl ?_
        obtain ⟨h28, gh28, H⟩ := Option.bind_eq_some_iff.mp H
        refine wq_putf xi_59 dX6_readThing_89 xf_6_82 (Or.inl rfl) gh28 ?_
        refine wp_goto 135 xi_59 dX6_readThing_92 rfl ?_
        refine wp_aload_n xi_59 dX6_readThing_135 rfl ?_
        refine wp_iconst 0 xi_59 dX6_readThing_136 rfl ?_
        obtain ⟨h29, gh29, H⟩ := Option.bind_eq_some_iff.mp H
        refine wq_putf xi_59 dX6_readThing_137 xf_6_49 (Or.inl rfl) gh29 ?_
        refine wp_iconst 1 xi_59 dX6_readThing_140 rfl ?_
        obtain ⟨gz, hz⟩ := pZ_ok H
        obtain ⟨rfl, rfl⟩ := Prod.mk.inj hz
        exact wp_zret xi_59 dX6_readThing_141 gz hq
    · rw [if_neg c8] at H
      refine wp_aload_n xi_59 dX6_readThing_29 rfl ?_
      obtain ⟨x30, gx30, H⟩ := Option.bind_eq_some_iff.mp H
      refine wq_getfi xi_59 dX6_readThing_30 xf_6_60 gx30 ?_
      refine wp_iconst 4 xi_59 dX6_readThing_33 rfl ?_
      refine wp_icmp_ge 66 xi_59 dX6_readThing_34 rfl (fun c31 => ?_) (fun c31 => ?_)
      · rw [if_pos c31] at H
        refine wp_aload_n xi_59 dX6_readThing_66 rfl ?_
        refine wp_iload_n xi_59 dX6_readThing_67 rfl ?_
        obtain ⟨u32, gu32, H⟩ := Option.bind_eq_some_iff.mp H
        obtain ⟨⟨x34, h33⟩, gh33, H⟩ := Option.bind_eq_some_iff.mp H
        dsimp only at H
        refine wq_callV (a := p0) (as := [.int p1]) (r := []) (v1 := (some (.int x34))) xi_59 xi_76 dX6_readThing_68 xm_6_107 rfl (Nat.le_of_ble_eq_true rfl) (pG_ok gu32) ⟨(Nat.le_of_ble_eq_true rfl), (Nat.le_of_ble_eq_true rfl)⟩ rfl nofun (e_76 d _ gh33 ⟨rfl, rfl⟩) ?_
        change Wp _ _ _ _ [.int x34] _ _
        refine wp_if_eq 95 xi_59 dX6_readThing_71 rfl (fun c35 => ?_) (fun c35 => ?_)
        · rw [if_pos c35] at H
          refine wp_aload_n xi_59 dX6_readThing_95 rfl ?_
          refine wp_iload_n xi_59 dX6_readThing_96 rfl ?_
          refine wp_ldcS xi_59 dX6_readThing_97 xs0_6_85 xs_6_85 ?_
          obtain ⟨u36, gu36, H⟩ := Option.bind_eq_some_iff.mp H
          obtain ⟨⟨x38, h37⟩, gh37, H⟩ := Option.bind_eq_some_iff.mp H
          dsimp only at H
          refine wq_callV (a := p0) (as := [.int p1, .ref (xKb + 10 + 0)]) (r := []) (v1 := (some (.int x38))) xi_59 xi_77 dX6_readThing_99 xm_6_98 rfl (Nat.le_of_ble_eq_true rfl) (pG_ok gu36) ⟨(Nat.le_of_ble_eq_true rfl), (Nat.le_of_ble_eq_true rfl)⟩ rfl nofun (e_77 d _ gh37 ⟨rfl, rfl⟩) ?_
          change Wp _ _ _ _ [.int x38] _ _
          refine wp_if_eq 133 xi_59 dX6_readThing_102 rfl (fun c39 => ?_) (fun c39 => ?_)
          · rw [if_pos c39] at H
            refine wp_iconst 0 xi_59 dX6_readThing_133 rfl ?_
            obtain ⟨gz, hz⟩ := pZ_ok H
            obtain ⟨rfl, rfl⟩ := Prod.mk.inj hz
            exact wp_zret xi_59 dX6_readThing_134 gz hq
          · rw [if_neg c39] at H
            refine wp_aload_n xi_59 dX6_readThing_105 rfl ?_
            refine wp_sipush 1000 xi_59 dX6_readThing_106 rfl ?_
            refine wp_ldcS xi_59 dX6_readThing_109 xs0_6_85 xs_6_85 ?_
            refine wp_aload_n xi_59 dX6_readThing_111 rfl ?_
            obtain ⟨x40, gx40, H⟩ := Option.bind_eq_some_iff.mp H
            refine wq_getfr xi_59 dX6_readThing_112 xf_6_111 gx40 ?_
            refine wp_iload_n xi_59 dX6_readThing_115 rfl ?_
            obtain ⟨x41, gx41, H⟩ := Option.bind_eq_some_iff.mp H
            refine wq_iaload xi_59 dX6_readThing_116 gx41 ?_
            refine wp_i2c xi_59 dX6_readThing_117 ?_
            obtain ⟨x42, gx42, H⟩ := Option.bind_eq_some_iff.mp H
            refine wq_ix xi_59 dX6_readThing_118 xm_6_87 (Nat.le_of_ble_eq_true rfl) gx42 ?_
            refine wp_iadd xi_59 dX6_readThing_121 ?_
            obtain ⟨u43, gu43, H⟩ := Option.bind_eq_some_iff.mp H
            obtain ⟨h44, gh44, H⟩ := Option.bind_eq_some_iff.mp H
            refine wq_callV (a := a) (as := [.int (1000 + x42)]) (r := []) (v1 := none) xi_59 xi_57 dX6_readThing_122 xm_6_93 rfl (Nat.le_of_ble_eq_true rfl) (pG_ok gu43) ⟨(Nat.le_of_ble_eq_true rfl), (Nat.le_of_ble_eq_true rfl)⟩ rfl nofun (e_57 d _ gh44 ⟨rfl, rfl⟩) ?_
            change Wp _ _ _ _ [] _ _
            refine wp_aload_n xi_59 dX6_readThing_125 rfl ?_
            refine wp_iconst 0 xi_59 dX6_readThing_126 rfl ?_
            obtain ⟨h45, gh45, H⟩ := Option.bind_eq_some_iff.mp H
            refine wq_putf xi_59 dX6_readThing_127 xf_6_82 (Or.inl rfl) gh45 ?_
            refine wp_goto 135 xi_59 dX6_readThing_130 rfl ?_
            refine wp_aload_n xi_59 dX6_readThing_135 rfl ?_
            refine wp_iconst 0 xi_59 dX6_readThing_136 rfl ?_
            obtain ⟨h46, gh46, H⟩ := Option.bind_eq_some_iff.mp H
            refine wq_putf xi_59 dX6_readThing_137 xf_6_49 (Or.inl rfl) gh46 ?_
            refine wp_iconst 1 xi_59 dX6_readThing_140 rfl ?_
            obtain ⟨gz, hz⟩ := pZ_ok H
            obtain ⟨rfl, rfl⟩ := Prod.mk.inj hz
            exact wp_zret xi_59 dX6_readThing_141 gz hq
        · rw [if_neg c35] at H
          refine wp_aload_n xi_59 dX6_readThing_74 rfl ?_
          refine wp_aload_n xi_59 dX6_readThing_75 rfl ?_
          obtain ⟨x47, gx47, H⟩ := Option.bind_eq_some_iff.mp H
          refine wq_getfr xi_59 dX6_readThing_76 xf_6_111 gx47 ?_
          refine wp_iload_n xi_59 dX6_readThing_79 rfl ?_
          obtain ⟨x48, gx48, H⟩ := Option.bind_eq_some_iff.mp H
          refine wq_iaload xi_59 dX6_readThing_80 gx48 ?_
          refine wp_bipush 48 xi_59 dX6_readThing_81 rfl ?_
          refine wp_isub xi_59 dX6_readThing_83 ?_
          obtain ⟨u49, gu49, H⟩ := Option.bind_eq_some_iff.mp H
          obtain ⟨h50, gh50, H⟩ := Option.bind_eq_some_iff.mp H
          refine wq_callV (a := a) (as := [.int (x48 - 48)]) (r := []) (v1 := none) xi_59 xi_57 dX6_readThing_84 xm_6_93 rfl (Nat.le_of_ble_eq_true rfl) (pG_ok gu49) ⟨(Nat.le_of_ble_eq_true rfl), (Nat.le_of_ble_eq_true rfl)⟩ rfl nofun (e_57 d _ gh50 ⟨rfl, rfl⟩) ?_
          change Wp _ _ _ _ [] _ _
          refine wp_aload_n xi_59 dX6_readThing_87 rfl ?_
          refine wp_iconst 1 xi_59 dX6_readThing_88 rfl ?_
          obtain ⟨h51, gh51, H⟩ := Option.bind_eq_some_iff.mp H
          refine wq_putf xi_59 dX6_readThing_89 xf_6_82 (Or.inl rfl) gh51 ?_
          refine wp_goto 135 xi_59 dX6_readThing_92 rfl ?_
          refine wp_aload_n xi_59 dX6_readThing_135 rfl ?_
          refine wp_iconst 0 xi_59 dX6_readThing_136 rfl ?_
          obtain ⟨h52, gh52, H⟩ := Option.bind_eq_some_iff.mp H
          refine wq_putf xi_59 dX6_readThing_137 xf_6_49 (Or.inl rfl) gh52 ?_
          refine wp_iconst 1 xi_59 dX6_readThing_140 rfl ?_
          obtain ⟨gz, hz⟩ := pZ_ok H
          obtain ⟨rfl, rfl⟩ := Prod.mk.inj hz
          exact wp_zret xi_59 dX6_readThing_141 gz hq
      · rw [if_neg c31] at H
        refine wp_aload_n xi_59 dX6_readThing_37 rfl ?_
        refine wp_sipush 4000 xi_59 dX6_readThing_38 rfl ?_
        obtain ⟨u53, gu53, H⟩ := Option.bind_eq_some_iff.mp H
        obtain ⟨h54, gh54, H⟩ := Option.bind_eq_some_iff.mp H
        refine wq_callV (a := a) (as := [.int 4000]) (r := []) (v1 := none) xi_59 xi_58 dX6_readThing_41 xm_6_102 rfl (Nat.le_of_ble_eq_true rfl) (pG_ok gu53) ⟨(Nat.le_of_ble_eq_true rfl), (Nat.le_of_ble_eq_true rfl)⟩ rfl nofun (e_58 d _ gh54 ⟨rfl, rfl⟩) ?_
        change Wp _ _ _ _ [] _ _
        refine wp_aload_n xi_59 dX6_readThing_44 rfl ?_
        refine wp_dup xi_59 dX6_readThing_45 rfl ?_
        obtain ⟨x55, gx55, H⟩ := Option.bind_eq_some_iff.mp H
        refine wq_getfi xi_59 dX6_readThing_46 xf_6_60 gx55 ?_
        refine wp_iconst 1 xi_59 dX6_readThing_49 rfl ?_
        refine wp_iadd xi_59 dX6_readThing_50 ?_
        obtain ⟨h56, gh56, H⟩ := Option.bind_eq_some_iff.mp H
        refine wq_putf xi_59 dX6_readThing_51 xf_6_60 (Or.inl rfl) gh56 ?_
        refine wp_aload_n xi_59 dX6_readThing_54 rfl ?_
        obtain ⟨x57, gx57, H⟩ := Option.bind_eq_some_iff.mp H
        refine wq_getfr xi_59 dX6_readThing_55 xf_6_24 gx57 ?_
        refine wp_aload_n xi_59 dX6_readThing_58 rfl ?_
        obtain ⟨x58, gx58, H⟩ := Option.bind_eq_some_iff.mp H
        refine wq_getfi xi_59 dX6_readThing_59 xf_6_60 gx58 ?_
        refine wp_iconst 0 xi_59 dX6_readThing_62 rfl ?_
        obtain ⟨h59, gh59, H⟩ := Option.bind_eq_some_iff.mp H
        refine wq_bastore xi_59 dX6_readThing_63 gh59 ?_
        refine wp_iconst 1 xi_59 dX6_readThing_64 rfl ?_
        obtain ⟨gz, hz⟩ := pZ_ok H
        obtain ⟨rfl, rfl⟩ := Prod.mk.inj hz
        exact wp_zret xi_59 dX6_readThing_65 gz hq
  · rw [if_neg c4] at H
    refine wp_aload_n xi_59 dX6_readThing_10 rfl ?_
    refine wp_sipush 3000 xi_59 dX6_readThing_11 rfl ?_
    obtain ⟨u60, gu60, H⟩ := Option.bind_eq_some_iff.mp H
    obtain ⟨h61, gh61, H⟩ := Option.bind_eq_some_iff.mp H
    refine wq_callV (a := a) (as := [.int 3000]) (r := []) (v1 := none) xi_59 xi_58 dX6_readThing_14 xm_6_102 rfl (Nat.le_of_ble_eq_true rfl) (pG_ok gu60) ⟨(Nat.le_of_ble_eq_true rfl), (Nat.le_of_ble_eq_true rfl)⟩ rfl nofun (e_58 d _ gh61 ⟨rfl, rfl⟩) ?_
    change Wp _ _ _ _ [] _ _
    refine wp_iconst 1 xi_59 dX6_readThing_17 rfl ?_
    obtain ⟨gz, hz⟩ := pZ_ok H
    obtain ⟨rfl, rfl⟩ := Prod.mk.inj hz
    exact wp_zret xi_59 dX6_readThing_18 gz hq
