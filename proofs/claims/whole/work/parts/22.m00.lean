/- FelledHasLost$Balance.<init>()V -/
def f_0  (a : Nat) (h : xH) : Option (xH) :=
  (pNi h 2).bind fun (x1, h2) =>
  (pP h2 a 0 0 (.ref x1)).bind fun h3 =>
  (pNi h3 16).bind fun (x4, h5) =>
  (pP h5 a 0 1 (.ref x4)).bind fun h6 =>
  (pNi h6 16).bind fun (x7, h8) =>
  (pP h8 a 0 2 (.ref x7)).bind fun h9 =>
  (pNi h9 16).bind fun (x10, h11) =>
  (pP h11 a 0 3 (.ref x10)).bind fun h12 =>
  (pP h12 a 0 4 (.int (-1))).bind fun h13 =>
  (pP h13 a 0 6 (.int (-1))).bind fun h14 =>
  some h14
set_option maxHeartbeats 4000000 in
theorem e_0 (d : Nat) (Q : Option Value → xH → Prop)  {h : xH} {a : Nat} {h1 : xH} (H : f_0  a h = some h1) (hq : Q none h1) : Wp (d + 0) 0 0 [some (.ref a)] [] h Q := by
  unfold f_0 at H
  refine wp_aload_n xi_0 dX0_init_0 rfl ?_
  refine wq_objI xi_0 dX0_init_1 xm_0_3 (Nat.le_of_ble_eq_true rfl) ?_
  refine wp_aload_n xi_0 dX0_init_4 rfl ?_
  refine wp_iconst 2 xi_0 dX0_init_5 rfl ?_
  obtain ⟨⟨x1, h2⟩, gx1, H⟩ := Option.bind_eq_some_iff.mp H
  dsimp only at H
  refine wq_newi xi_0 dX0_init_6 gx1 ?_
  obtain ⟨h3, gh3, H⟩ := Option.bind_eq_some_iff.mp H
  refine wq_putf xi_0 dX0_init_8 xf_0_9 (Or.inr ⟨rfl, rfl, rfl⟩) gh3 ?_
  refine wp_aload_n xi_0 dX0_init_11 rfl ?_
  refine wp_bipush 16 xi_0 dX0_init_12 rfl ?_
  obtain ⟨⟨x4, h5⟩, gx4, H⟩ := Option.bind_eq_some_iff.mp H
  dsimp only at H
  refine wq_newi xi_0 dX0_init_14 gx4 ?_
  obtain ⟨h6, gh6, H⟩ := Option.bind_eq_some_iff.mp H
  refine wq_putf xi_0 dX0_init_16 xf_0_15 (Or.inr ⟨rfl, rfl, rfl⟩) gh6 ?_
  refine wp_aload_n xi_0 dX0_init_19 rfl ?_
  refine wp_bipush 16 xi_0 dX0_init_20 rfl ?_
  obtain ⟨⟨x7, h8⟩, gx7, H⟩ := Option.bind_eq_some_iff.mp H
  dsimp only at H
  refine wq_newi xi_0 dX0_init_22 gx7 ?_
  obtain ⟨h9, gh9, H⟩ := Option.bind_eq_some_iff.mp H
  refine wq_putf xi_0 dX0_init_24 xf_0_18 (Or.inr ⟨rfl, rfl, rfl⟩) gh9 ?_
  refine wp_aload_n xi_0 dX0_init_27 rfl ?_
  refine wp_bipush 16 xi_0 dX0_init_28 rfl ?_
  obtain ⟨⟨x10, h11⟩, gx10, H⟩ := Option.bind_eq_some_iff.mp H
  dsimp only at H
  refine wq_newi xi_0 dX0_init_30 gx10 ?_
  obtain ⟨h12, gh12, H⟩ := Option.bind_eq_some_iff.mp H
  refine wq_putf xi_0 dX0_init_32 xf_0_21 (Or.inr ⟨rfl, rfl, rfl⟩) gh12 ?_
  refine wp_aload_n xi_0 dX0_init_35 rfl ?_
  refine wp_iconst (-1) xi_0 dX0_init_36 rfl ?_
  obtain ⟨h13, gh13, H⟩ := Option.bind_eq_some_iff.mp H
  refine wq_putf xi_0 dX0_init_37 xf_0_24 (Or.inl rfl) gh13 ?_
  refine wp_aload_n xi_0 dX0_init_40 rfl ?_
  refine wp_iconst (-1) xi_0 dX0_init_41 rfl ?_
  obtain ⟨h14, gh14, H⟩ := Option.bind_eq_some_iff.mp H
  refine wq_putf xi_0 dX0_init_42 xf_0_28 (Or.inl rfl) gh14 ?_
  obtain rfl := Option.some.inj H
  exact wp_vret xi_0 dX0_init_45 hq
/- FelledHasLost$Chooser.<init>(LFelledHasLost$Balance;LFelledHasLost$Rule;)V -/
def f_6  (a : Nat) (p0 : Nat) (p1 : Nat) (h : xH) : Option (xH) :=
  (pNi h 10).bind fun (x1, h2) =>
  (pP h2 a 1 2 (.ref x1)).bind fun h3 =>
  (pP h3 a 1 0 (.ref p0)).bind fun h4 =>
  (pP h4 a 1 1 (.ref p1)).bind fun h5 =>
  some h5
set_option maxHeartbeats 4000000 in
theorem e_6 (d : Nat) (Q : Option Value → xH → Prop)  {h : xH} {a : Nat} {p0 : Nat} {p1 : Nat} {h1 : xH} (H : f_6  a p0 p1 h = some h1) (hq : Q none h1) : Wp (d + 0) 6 0 [some (.ref a), some (.ref p0), some (.ref p1)] [] h Q := by
  unfold f_6 at H
  refine wp_aload_n xi_6 dX1_init_0 rfl ?_
  refine wq_objI xi_6 dX1_init_1 xm_1_3 (Nat.le_of_ble_eq_true rfl) ?_
  refine wp_aload_n xi_6 dX1_init_4 rfl ?_
  refine wp_bipush 10 xi_6 dX1_init_5 rfl ?_
  obtain ⟨⟨x1, h2⟩, gx1, H⟩ := Option.bind_eq_some_iff.mp H
  dsimp only at H
  refine wq_newi xi_6 dX1_init_7 gx1 ?_
  obtain ⟨h3, gh3, H⟩ := Option.bind_eq_some_iff.mp H
  refine wq_putf xi_6 dX1_init_9 xf_1_9 (Or.inr ⟨rfl, rfl, rfl⟩) gh3 ?_
  refine wp_aload_n xi_6 dX1_init_12 rfl ?_
  refine wp_aload_n xi_6 dX1_init_13 rfl ?_
  obtain ⟨h4, gh4, H⟩ := Option.bind_eq_some_iff.mp H
  refine wq_putf xi_6 dX1_init_14 xf_1_15 (Or.inr ⟨rfl, rfl, rfl⟩) gh4 ?_
  refine wp_aload_n xi_6 dX1_init_17 rfl ?_
  refine wp_aload_n xi_6 dX1_init_18 rfl ?_
  obtain ⟨h5, gh5, H⟩ := Option.bind_eq_some_iff.mp H
  refine wq_putf xi_6 dX1_init_19 xf_1_19 (Or.inr ⟨rfl, rfl, rfl⟩) gh5 ?_
  obtain rfl := Option.some.inj H
  exact wp_vret xi_6 dX1_init_22 hq
/- FelledHasLost$MoveList.<init>()V -/
def f_45  (a : Nat) (h : xH) : Option (xH) :=
  (pNi h 70).bind fun (x1, h2) =>
  (pP h2 a 4 0 (.ref x1)).bind fun h3 =>
  some h3
set_option maxHeartbeats 4000000 in
theorem e_45 (d : Nat) (Q : Option Value → xH → Prop)  {h : xH} {a : Nat} {h1 : xH} (H : f_45  a h = some h1) (hq : Q none h1) : Wp (d + 0) 45 0 [some (.ref a)] [] h Q := by
  unfold f_45 at H
  refine wp_aload_n xi_45 dX4_init_0 rfl ?_
  refine wq_objI xi_45 dX4_init_1 xm_4_3 (Nat.le_of_ble_eq_true rfl) ?_
  refine wp_aload_n xi_45 dX4_init_4 rfl ?_
  refine wp_bipush 70 xi_45 dX4_init_5 rfl ?_
  obtain ⟨⟨x1, h2⟩, gx1, H⟩ := Option.bind_eq_some_iff.mp H
  dsimp only at H
  refine wq_newi xi_45 dX4_init_7 gx1 ?_
  obtain ⟨h3, gh3, H⟩ := Option.bind_eq_some_iff.mp H
  refine wq_putf xi_45 dX4_init_9 xf_4_11 (Or.inr ⟨rfl, rfl, rfl⟩) gh3 ?_
  obtain rfl := Option.some.inj H
  exact wp_vret xi_45 dX4_init_12 hq
/- FelledHasLost$Row.<init>()V -/
def f_49  (a : Nat) (h : xH) : Option (xH) :=
  (pNl h 16).bind fun (x1, h2) =>
  (pP h2 a 5 0 (.ref x1)).bind fun h3 =>
  some h3
set_option maxHeartbeats 4000000 in
theorem e_49 (d : Nat) (Q : Option Value → xH → Prop)  {h : xH} {a : Nat} {h1 : xH} (H : f_49  a h = some h1) (hq : Q none h1) : Wp (d + 0) 49 0 [some (.ref a)] [] h Q := by
  unfold f_49 at H
  refine wp_aload_n xi_49 dX5_init_0 rfl ?_
  refine wq_objI xi_49 dX5_init_1 xm_5_3 (Nat.le_of_ble_eq_true rfl) ?_
  refine wp_aload_n xi_49 dX5_init_4 rfl ?_
  refine wp_bipush 16 xi_49 dX5_init_5 rfl ?_
  obtain ⟨⟨x1, h2⟩, gx1, H⟩ := Option.bind_eq_some_iff.mp H
  dsimp only at H
  refine wq_newl xi_49 dX5_init_7 gx1 ?_
  obtain ⟨h3, gh3, H⟩ := Option.bind_eq_some_iff.mp H
  refine wq_putf xi_49 dX5_init_9 xf_5_9 (Or.inr ⟨rfl, rfl, rfl⟩) gh3 ?_
  obtain rfl := Option.some.inj H
  exact wp_vret xi_49 dX5_init_12 hq
/- FelledHasLost$Text.<init>()V -/
def f_72  (a : Nat) (h : xH) : Option (xH) :=
  (pNi h 80).bind fun (x1, h2) =>
  (pP h2 a 8 0 (.ref x1)).bind fun h3 =>
  some h3
set_option maxHeartbeats 4000000 in
theorem e_72 (d : Nat) (Q : Option Value → xH → Prop)  {h : xH} {a : Nat} {h1 : xH} (H : f_72  a h = some h1) (hq : Q none h1) : Wp (d + 0) 72 0 [some (.ref a)] [] h Q := by
  unfold f_72 at H
  refine wp_aload_n xi_72 dX8_init_0 rfl ?_
  refine wq_objI xi_72 dX8_init_1 xm_8_1 (Nat.le_of_ble_eq_true rfl) ?_
  refine wp_aload_n xi_72 dX8_init_4 rfl ?_
  refine wp_bipush 80 xi_72 dX8_init_5 rfl ?_
  obtain ⟨⟨x1, h2⟩, gx1, H⟩ := Option.bind_eq_some_iff.mp H
  dsimp only at H
  refine wq_newi xi_72 dX8_init_7 gx1 ?_
  obtain ⟨h3, gh3, H⟩ := Option.bind_eq_some_iff.mp H
  refine wq_putf xi_72 dX8_init_9 xf_8_9 (Or.inr ⟨rfl, rfl, rfl⟩) gh3 ?_
  obtain rfl := Option.some.inj H
  exact wp_vret xi_72 dX8_init_12 hq
/- FelledHasLostModel.common(JJ)J -/
def fb_164 (F164 : Int64 → Int64 → xH → Option (Int64 × xH)) (p0 : Int64) (p1 : Int64) (h : xH) : Option (Int64 × xH) :=
  ((if (lg_cmp p1 (0 : Int64)) = 0 then
  some (p0, h)
  else
  (pRemL p0 p1).bind fun x8 =>
  (F164 p1 x8 h).bind fun (x10, h9) =>
  some (x10, h9) : Option (Int64 × xH))).bind fun (w5, h6) =>
  some (w5, h6)
set_option maxHeartbeats 4000000 in
theorem eb_164 (d : Nat) (Q : Option Value → xH → Prop) (F164 : Int64 → Int64 → xH → Option (Int64 × xH)) (hF164 : ∀ (Q : Option Value → xH → Prop) (b0 : Int64) (b1 : Int64) (h : xH) (x : Int64) (h1 : xH), F164 b0 b1 h = some (x, h1) → Q (some (.long x)) h1 → Wp d 164 0 [some (.long b0), none, some (.long b1), none] [] h Q) {h : xH} {p0 : Int64} {p1 : Int64} {x : Int64} {h1 : xH} (H : fb_164 F164 p0 p1 h = some (x, h1)) (hq : Q (some (.long x)) h1) : Wp (d + 1) 164 0 [some (.long p0), none, some (.long p1), none] [] h Q := by
  unfold fb_164 at H
  refine wp_lload_n xi_164 dX12_common_0 rfl ?_
  refine wp_lconst 0 xi_164 dX12_common_1 rfl ?_
  refine wp_lcmp xi_164 dX12_common_2 ?_
  obtain ⟨⟨w5, h6⟩, G11, H⟩ := Option.bind_eq_some_iff.mp H
  dsimp only at H
  have K7 : Wp (d + 1) 164 17 [some (.long p0), none, some (.long p1), none] [.long w5] h6 Q := by
    obtain ⟨rfl, rfl⟩ := oi2 H
    exact wp_lret xi_164 dX12_common_17 hq
  clear H
  have H := G11
  clear G11
  refine wp_if_ne 10 xi_164 dX12_common_3 rfl (fun c1 => ?_) (fun c1 => ?_)
  · rw [if_neg c1] at H
    refine wp_lload_n xi_164 dX12_common_10 rfl ?_
    refine wp_lload_n xi_164 dX12_common_11 rfl ?_
    refine wp_lload_n xi_164 dX12_common_12 rfl ?_
    obtain ⟨x8, gx8, H⟩ := Option.bind_eq_some_iff.mp H
    refine wq_lrem xi_164 dX12_common_13 gx8 ?_
    obtain ⟨⟨x10, h9⟩, gh9, H⟩ := Option.bind_eq_some_iff.mp H
    dsimp only at H
    refine wq_callS (as := [.long p1, .long x8]) (r := []) (v1 := (some (.long x10))) xi_164 xi_164 dX12_common_14 xm_12_7 rfl (Nat.le_of_ble_eq_true rfl) ⟨(Nat.le_of_ble_eq_true rfl), (Nat.le_of_ble_eq_true rfl)⟩ rfl nofun (hF164 _ _ _ _ _ _ gh9 ⟨rfl, rfl⟩) ?_
    change Wp _ _ _ _ [.long x10] _ _
    simp only [Option.some.injEq, Prod.mk.injEq] at H
    obtain ⟨rfl, rfl⟩ := H
    exact Wp.more (by simp [xMore, Value.category]) K7
  · rw [if_pos c1] at H
    refine wp_lload_n xi_164 dX12_common_6 rfl ?_
    refine wp_goto 17 xi_164 dX12_common_7 rfl ?_
    simp only [Option.some.injEq, Prod.mk.injEq] at H
    obtain ⟨rfl, rfl⟩ := H
    exact Wp.more (by simp [xMore, Value.category]) K7
def fr_164 : Nat → Int64 → Int64 → xH → Option (Int64 × xH)
  | 0, _, _, _ => none
  | n + 1, b0, b1, h => fb_164 (fr_164 n) b0 b1 h
theorem efr_164 : ∀ (n d : Nat) (Q : Option Value → xH → Prop) (b0 : Int64) (b1 : Int64) (h : xH) (x : Int64) (h1 : xH), fr_164 n b0 b1 h = some (x, h1) → Q (some (.long x)) h1 → Wp (d + n + 1) 164 0 [some (.long b0), none, some (.long b1), none] [] h Q := by
  intro n
  induction n with
  | zero =>
    intro d Q b0 b1 h x h1 H
    cases H
  | succ n ih =>
    intro d Q b0 b1 h x h1 H hq
    exact eb_164 (d + n + 1) Q (fr_164 n) (fun Q b0 b1 h x h1 H hq => ih d Q b0 b1 h x h1 H hq) H hq
def f_164 (b0 : Int64) (b1 : Int64) (h : xH) : Option (Int64 × xH) := fr_164 40 b0 b1 h
theorem e_164 (d : Nat) (Q : Option Value → xH → Prop) {h : xH} {b0 : Int64} {b1 : Int64} {x : Int64} {h1 : xH} (H : f_164 b0 b1 h = some (x, h1)) (hq : Q (some (.long x)) h1) : Wp (d + 41) 164 0 [some (.long b0), none, some (.long b1), none] [] h Q := efr_164 40 d Q b0 b1 h x h1 H hq
/- FelledHasLostModel.readsThing()Z -/
def f_182_34 (F182 : Nat → xH → Option (Int32 × xH)) (F183 : Nat → Int32 → xH → Option (Int32 × xH)) : Nat → Nat → Int32 → Int32 → xH → Option (Int32 × xH)
  | 0, _, _, _, _ => none
  | n + 1, a0, a1, a2, h =>
  (if (3 : Int32) ≤ a2 then
  some (a1, h)
  else
  (pG (pIs h a0 12)).bind fun _ =>
  (f_175 a0 h).bind fun (x4, h3) =>
  (if x4 = 0 then
  some (a1, h3)
  else
  (pFr h3 a0 12 9).bind fun x6 =>
  (pFi h3 a0 12 11).bind fun x7 =>
  (pAi h3 x6 x7).bind fun x8 =>
  (pFi h3 a0 12 11).bind fun x9 =>
  (pP h3 a0 12 11 (.int (x9 + 1))).bind fun h10 =>
  f_182_34 F182 F183 n a0 (((10 * a1) + x8) - 48) (a2 + 1) h10))
theorem ef_182_34 (d : Nat) (Q : Option Value → xH → Prop) (F182 : Nat → xH → Option (Int32 × xH)) (hF182 : ∀ (Q : Option Value → xH → Prop) (b0 : Nat) (h : xH) (x : Int32) (h1 : xH), F182 b0 h = some (x, h1) → Q (some (.int x)) h1 → Wp (d + 1) 182 0 [some (.ref b0), none, none] [] h Q) (F183 : Nat → Int32 → xH → Option (Int32 × xH)) (hF183 : ∀ (Q : Option Value → xH → Prop) (b0 : Nat) (b1 : Int32) (h : xH) (x : Int32) (h1 : xH), F183 b0 b1 h = some (x, h1) → Q (some (.int x)) h1 → Wp (d + 1) 183 0 [some (.ref b0), some (.int b1), none, none] [] h Q) : ∀ (n : Nat) (a0 : Nat) (a1 : Int32) (a2 : Int32) (h : xH) (r : Int32 × xH), f_182_34 F182 F183 n a0 a1 a2 h = some r → (∀ (w1 : Int32) (h1 : xH), r = (w1, h1) → Wp (d + 2) 182 80 [some (.ref a0), some (.int w1), none] [] h1 Q) → Wp (d + 2) 182 34 [some (.ref a0), some (.int a1), some (.int a2)] [] h Q := by
  intro n
  induction n with
  | zero =>
    intro a0 a1 a2 h r H
    cases H
  | succ n ih =>
    intro a0 a1 a2 h r H KE
    unfold f_182_34 at H
    refine wp_iload_n xi_182 dX12_readsThing_34 rfl ?_
    refine wp_iconst 3 xi_182 dX12_readsThing_35 rfl ?_
    refine wp_icmp_ge 80 xi_182 dX12_readsThing_36 rfl (fun c1 => ?_) (fun c1 => ?_)
    · rw [if_pos c1] at H
      obtain rfl := Option.some.inj H
      exact Wp.more (by simp [xMore, Value.category]) (KE a1 h rfl)
    · rw [if_neg c1] at H
      refine wp_aload_n xi_182 dX12_readsThing_39 rfl ?_
      obtain ⟨u2, gu2, H⟩ := Option.bind_eq_some_iff.mp H
      obtain ⟨⟨x4, h3⟩, gh3, H⟩ := Option.bind_eq_some_iff.mp H
      dsimp only at H
      refine wq_callV (a := a0) (as := []) (r := []) (v1 := (some (.int x4))) xi_182 xi_175 dX12_readsThing_40 xm_12_174 rfl (Nat.le_of_ble_eq_true rfl) (pG_ok gu2) ⟨(Nat.le_of_ble_eq_true rfl), (Nat.le_of_ble_eq_true rfl)⟩ rfl nofun (e_175 d _ gh3 ⟨rfl, rfl⟩) ?_
      change Wp _ _ _ _ [.int x4] _ _
      refine wp_if_eq 80 xi_182 dX12_readsThing_43 rfl (fun c5 => ?_) (fun c5 => ?_)
      · rw [if_pos c5] at H
        obtain rfl := Option.some.inj H
        exact Wp.more (by simp [xMore, Value.category]) (KE a1 h3 rfl)
      · rw [if_neg c5] at H
        refine wp_bipush 10 xi_182 dX12_readsThing_46 rfl ?_
        refine wp_iload_n xi_182 dX12_readsThing_48 rfl ?_
        refine wp_imul xi_182 dX12_readsThing_49 ?_
        refine wp_aload_n xi_182 dX12_readsThing_50 rfl ?_
        obtain ⟨x6, gx6, H⟩ := Option.bind_eq_some_iff.mp H
        refine wq_getfr xi_182 dX12_readsThing_51 xf_12_37 gx6 ?_
        refine wp_aload_n xi_182 dX12_readsThing_54 rfl ?_
        obtain ⟨x7, gx7, H⟩ := Option.bind_eq_some_iff.mp H
        refine wq_getfi xi_182 dX12_readsThing_55 xf_12_146 gx7 ?_
        obtain ⟨x8, gx8, H⟩ := Option.bind_eq_some_iff.mp H
        refine wq_iaload xi_182 dX12_readsThing_58 gx8 ?_
        refine wp_iadd xi_182 dX12_readsThing_59 ?_
        refine wp_bipush 48 xi_182 dX12_readsThing_60 rfl ?_
        refine wp_isub xi_182 dX12_readsThing_62 ?_
        refine wp_istore_n [some (.ref a0), some (.int (((10 * a1) + x8) - 48)), some (.int a2)] xi_182 dX12_readsThing_63 rfl ?_
        refine wp_aload_n xi_182 dX12_readsThing_64 rfl ?_
        refine wp_dup xi_182 dX12_readsThing_65 rfl ?_
        obtain ⟨x9, gx9, H⟩ := Option.bind_eq_some_iff.mp H
        refine wq_getfi xi_182 dX12_readsThing_66 xf_12_146 gx9 ?_
        refine wp_iconst 1 xi_182 dX12_readsThing_69 rfl ?_
        refine wp_iadd xi_182 dX12_readsThing_70 ?_
        obtain ⟨h10, gh10, H⟩ := Option.bind_eq_some_iff.mp H
        refine wq_putf xi_182 dX12_readsThing_71 xf_12_146 (Or.inl rfl) gh10 ?_
        refine wp_iinc (a2 + 1) [some (.ref a0), some (.int (((10 * a1) + x8) - 48)), some (.int (a2 + 1))] xi_182 dX12_readsThing_74 rfl rfl rfl ?_
        refine wp_goto 34 xi_182 dX12_readsThing_77 rfl ?_
        exact Wp.more (by simp [xMore, Value.category]) (ih a0 (((10 * a1) + x8) - 48) (a2 + 1) h10 _ H KE)
def fb_182 (F182 : Nat → xH → Option (Int32 × xH)) (F183 : Nat → Int32 → xH → Option (Int32 × xH)) (a : Nat) (h : xH) : Option (Int32 × xH) :=
  (pG (pIs h a 12)).bind fun _ =>
  (f_174 a 45 h).bind fun (x3, h2) =>
  (if x3 = 0 then
  (pG (pIs h2 a 12)).bind fun _ =>
  (f_175 a h2).bind fun (x7, h6) =>
  (if x7 = 0 then
  (pG (pIs h6 a 12)).bind fun _ =>
  (f_176 a (xKb + 10 + 0) h6).bind fun (x11, h10) =>
  (if x11 < 0 then
  (pFi h10 a 12 13).bind fun x13 =>
  (if x13 = 4 then
  pZ 0 h10
  else
  (pG (pIs h10 a 12)).bind fun _ =>
  (f_174 a 40 h10).bind fun (x17, h16) =>
  (if x17 = 0 then
  pZ 0 h16
  else
  (pFi h16 a 12 13).bind fun x19 =>
  (pP h16 a 12 13 (.int (x19 + 1))).bind fun h20 =>
  (pG (pIs h20 a 12)).bind fun _ =>
  (F183 a 0 h20).bind fun (x23, h22) =>
  (if x23 = 0 then
  pZ 0 h22
  else
  (pG (pIs h22 a 12)).bind fun _ =>
  (f_174 a 41 h22).bind fun (x27, h26) =>
  (if x27 = 0 then
  pZ 0 h26
  else
  (pFi h26 a 12 13).bind fun x29 =>
  (pP h26 a 12 13 (.int (x29 - 1))).bind fun h30 =>
  pZ 1 h30))))
  else
  (pFi h10 a 12 11).bind fun x31 =>
  (pP h10 a 12 11 (.int (x31 + 1))).bind fun h32 =>
  (pG (pIs h32 a 12)).bind fun _ =>
  (f_181 a (1000 + x11) h32).bind fun h34 =>
  pZ 1 h34)
  else
  (f_182_34 F182 F183 100000 a 0 0 h6).bind fun (w36, h35) =>
  (pG (pIs h35 a 12)).bind fun _ =>
  (f_181 a w36 h35).bind fun h40 =>
  pZ 1 h40)
  else
  (pG (pIs h2 a 12)).bind fun _ =>
  (F182 a h2).bind fun (x43, h42) =>
  (pG (pIs h42 a 12)).bind fun _ =>
  (f_181 a 3000 h42).bind fun h45 =>
  pZ x43 h45)
set_option maxHeartbeats 4000000 in
theorem eb_182 (d : Nat) (Q : Option Value → xH → Prop) (F182 : Nat → xH → Option (Int32 × xH)) (hF182 : ∀ (Q : Option Value → xH → Prop) (b0 : Nat) (h : xH) (x : Int32) (h1 : xH), F182 b0 h = some (x, h1) → Q (some (.int x)) h1 → Wp (d + 1) 182 0 [some (.ref b0), none, none] [] h Q) (F183 : Nat → Int32 → xH → Option (Int32 × xH)) (hF183 : ∀ (Q : Option Value → xH → Prop) (b0 : Nat) (b1 : Int32) (h : xH) (x : Int32) (h1 : xH), F183 b0 b1 h = some (x, h1) → Q (some (.int x)) h1 → Wp (d + 1) 183 0 [some (.ref b0), some (.int b1), none, none] [] h Q) {h : xH} {a : Nat} {x : Int32} {h1 : xH} (H : fb_182 F182 F183 a h = some (x, h1)) (hq : Q (some (.int x)) h1) : Wp (d + 2) 182 0 [some (.ref a), none, none] [] h Q := by
  unfold fb_182 at H
  refine wp_aload_n xi_182 dX12_readsThing_0 rfl ?_
  refine wp_bipush 45 xi_182 dX12_readsThing_1 rfl ?_
  obtain ⟨u1, gu1, H⟩ := Option.bind_eq_some_iff.mp H
  obtain ⟨⟨x3, h2⟩, gh2, H⟩ := Option.bind_eq_some_iff.mp H
  dsimp only at H
  refine wq_callV (a := a) (as := [.int 45]) (r := []) (v1 := (some (.int x3))) xi_182 xi_174 dX12_readsThing_3 xm_12_186 rfl (Nat.le_of_ble_eq_true rfl) (pG_ok gu1) ⟨(Nat.le_of_ble_eq_true rfl), (Nat.le_of_ble_eq_true rfl)⟩ rfl nofun (e_174 d _ gh2 ⟨rfl, rfl⟩) ?_
  change Wp _ _ _ _ [.int x3] _ _
  refine wp_if_eq 23 xi_182 dX12_readsThing_6 rfl (fun c4 => ?_) (fun c4 => ?_)
  · rw [if_pos c4] at H
    refine wp_aload_n xi_182 dX12_readsThing_23 rfl ?_
    obtain ⟨u5, gu5, H⟩ := Option.bind_eq_some_iff.mp H
    obtain ⟨⟨x7, h6⟩, gh6, H⟩ := Option.bind_eq_some_iff.mp H
    dsimp only at H
    refine wq_callV (a := a) (as := []) (r := []) (v1 := (some (.int x7))) xi_182 xi_175 dX12_readsThing_24 xm_12_174 rfl (Nat.le_of_ble_eq_true rfl) (pG_ok gu5) ⟨(Nat.le_of_ble_eq_true rfl), (Nat.le_of_ble_eq_true rfl)⟩ rfl nofun (e_175 d _ gh6 ⟨rfl, rfl⟩) ?_
    change Wp _ _ _ _ [.int x7] _ _
    refine wp_if_eq 87 xi_182 dX12_readsThing_27 rfl (fun c8 => ?_) (fun c8 => ?_)
    · rw [if_pos c8] at H
      refine wp_aload_n xi_182 dX12_readsThing_87 rfl ?_
      refine wp_ldcS xi_182 dX12_readsThing_88 xs0_12_206 xs_12_206 ?_
      obtain ⟨u9, gu9, H⟩ := Option.bind_eq_some_iff.mp H
      obtain ⟨⟨x11, h10⟩, gh10, H⟩ := Option.bind_eq_some_iff.mp H
      dsimp only at H
      refine wq_callV (a := a) (as := [.ref (xKb + 10 + 0)]) (r := []) (v1 := (some (.int x11))) xi_182 xi_176 dX12_readsThing_90 xm_12_208 rfl (Nat.le_of_ble_eq_true rfl) (pG_ok gu9) ⟨(Nat.le_of_ble_eq_true rfl), (Nat.le_of_ble_eq_true rfl)⟩ rfl nofun (e_176 (d + 1) _ gh10 ⟨rfl, rfl⟩) ?_
      change Wp _ _ _ _ [.int x11] _ _
      refine wp_istore_n [some (.ref a), some (.int x11), none] xi_182 dX12_readsThing_93 rfl ?_
      refine wp_iload_n xi_182 dX12_readsThing_94 rfl ?_
      refine wp_if_lt 119 xi_182 dX12_readsThing_95 rfl (fun c12 => ?_) (fun c12 => ?_)
      · rw [if_pos c12] at H
        refine wp_aload_n xi_182 dX12_readsThing_119 rfl ?_
        obtain ⟨x13, gx13, H⟩ := Option.bind_eq_some_iff.mp H
        refine wq_getfi xi_182 dX12_readsThing_120 xf_12_149 gx13 ?_
        refine wp_iconst 4 xi_182 dX12_readsThing_123 rfl ?_
        refine wp_icmp_eq 136 xi_182 dX12_readsThing_124 rfl (fun c14 => ?_) (fun c14 => ?_)
        · rw [if_pos c14] at H
          refine wp_iconst 0 xi_182 dX12_readsThing_136 rfl ?_
          obtain ⟨gz, hz⟩ := pZ_ok H
          obtain ⟨rfl, rfl⟩ := Prod.mk.inj hz
          exact wp_zret xi_182 dX12_readsThing_137 gz hq
        · rw [if_neg c14] at H
          refine wp_aload_n xi_182 dX12_readsThing_127 rfl ?_
          refine wp_bipush 40 xi_182 dX12_readsThing_128 rfl ?_
          obtain ⟨u15, gu15, H⟩ := Option.bind_eq_some_iff.mp H
          obtain ⟨⟨x17, h16⟩, gh16, H⟩ := Option.bind_eq_some_iff.mp H
          dsimp only at H
          refine wq_callV (a := a) (as := [.int 40]) (r := []) (v1 := (some (.int x17))) xi_182 xi_174 dX12_readsThing_130 xm_12_186 rfl (Nat.le_of_ble_eq_true rfl) (pG_ok gu15) ⟨(Nat.le_of_ble_eq_true rfl), (Nat.le_of_ble_eq_true rfl)⟩ rfl nofun (e_174 d _ gh16 ⟨rfl, rfl⟩) ?_
          change Wp _ _ _ _ [.int x17] _ _
          refine wp_if_ne 138 xi_182 dX12_readsThing_133 rfl (fun c18 => ?_) (fun c18 => ?_)
          · rw [if_neg c18] at H
            refine wp_aload_n xi_182 dX12_readsThing_138 rfl ?_
            refine wp_dup xi_182 dX12_readsThing_139 rfl ?_
            obtain ⟨x19, gx19, H⟩ := Option.bind_eq_some_iff.mp H
            refine wq_getfi xi_182 dX12_readsThing_140 xf_12_149 gx19 ?_
            refine wp_iconst 1 xi_182 dX12_readsThing_143 rfl ?_
            refine wp_iadd xi_182 dX12_readsThing_144 ?_
            obtain ⟨h20, gh20, H⟩ := Option.bind_eq_some_iff.mp H
            refine wq_putf xi_182 dX12_readsThing_145 xf_12_149 (Or.inl rfl) gh20 ?_
            refine wp_aload_n xi_182 dX12_readsThing_148 rfl ?_
            refine wp_iconst 0 xi_182 dX12_readsThing_149 rfl ?_
            obtain ⟨u21, gu21, H⟩ := Option.bind_eq_some_iff.mp H
            obtain ⟨⟨x23, h22⟩, gh22, H⟩ := Option.bind_eq_some_iff.mp H
            dsimp only at H
            refine wq_callV (a := a) (as := [.int 0]) (r := []) (v1 := (some (.int x23))) xi_182 xi_183 dX12_readsThing_150 xm_12_212 rfl (Nat.le_of_ble_eq_true rfl) (pG_ok gu21) ⟨(Nat.le_of_ble_eq_true rfl), (Nat.le_of_ble_eq_true rfl)⟩ rfl nofun (hF183 _ _ _ _ _ _ gh22 ⟨rfl, rfl⟩) ?_
            change Wp _ _ _ _ [.int x23] _ _
            refine wp_if_eq 165 xi_182 dX12_readsThing_153 rfl (fun c24 => ?_) (fun c24 => ?_)
            · rw [if_pos c24] at H
              refine wp_iconst 0 xi_182 dX12_readsThing_165 rfl ?_
              obtain ⟨gz, hz⟩ := pZ_ok H
              obtain ⟨rfl, rfl⟩ := Prod.mk.inj hz
              exact wp_zret xi_182 dX12_readsThing_166 gz hq
            · rw [if_neg c24] at H
              refine wp_aload_n xi_182 dX12_readsThing_156 rfl ?_
              refine wp_bipush 41 xi_182 dX12_readsThing_157 rfl ?_
              obtain ⟨u25, gu25, H⟩ := Option.bind_eq_some_iff.mp H
              obtain ⟨⟨x27, h26⟩, gh26, H⟩ := Option.bind_eq_some_iff.mp H
              dsimp only at H
              refine wq_callV (a := a) (as := [.int 41]) (r := []) (v1 := (some (.int x27))) xi_182 xi_174 dX12_readsThing_159 xm_12_186 rfl (Nat.le_of_ble_eq_true rfl) (pG_ok gu25) ⟨(Nat.le_of_ble_eq_true rfl), (Nat.le_of_ble_eq_true rfl)⟩ rfl nofun (e_174 d _ gh26 ⟨rfl, rfl⟩) ?_
              change Wp _ _ _ _ [.int x27] _ _
              refine wp_if_ne 167 xi_182 dX12_readsThing_162 rfl (fun c28 => ?_) (fun c28 => ?_)
              · rw [if_neg c28] at H
                refine wp_aload_n xi_182 dX12_readsThing_167 rfl ?_
                refine wp_dup xi_182 dX12_readsThing_168 rfl ?_
                obtain ⟨x29, gx29, H⟩ := Option.bind_eq_some_iff.mp H
                refine wq_getfi xi_182 dX12_readsThing_169 xf_12_149 gx29 ?_
                refine wp_iconst 1 xi_182 dX12_readsThing_172 rfl ?_
                refine wp_isub xi_182 dX12_readsThing_173 ?_
                obtain ⟨h30, gh30, H⟩ := Option.bind_eq_some_iff.mp H
                refine wq_putf xi_182 dX12_readsThing_174 xf_12_149 (Or.inl rfl) gh30 ?_
                refine wp_iconst 1 xi_182 dX12_readsThing_177 rfl ?_
                obtain ⟨gz, hz⟩ := pZ_ok H
                obtain ⟨rfl, rfl⟩ := Prod.mk.inj hz
                exact wp_zret xi_182 dX12_readsThing_178 gz hq
              · rw [if_pos c28] at H
                refine wp_iconst 0 xi_182 dX12_readsThing_165 rfl ?_
                obtain ⟨gz, hz⟩ := pZ_ok H
                obtain ⟨rfl, rfl⟩ := Prod.mk.inj hz
                exact wp_zret xi_182 dX12_readsThing_166 gz hq
          · rw [if_pos c18] at H
            refine wp_iconst 0 xi_182 dX12_readsThing_136 rfl ?_
            obtain ⟨gz, hz⟩ := pZ_ok H
            obtain ⟨rfl, rfl⟩ := Prod.mk.inj hz
            exact wp_zret xi_182 dX12_readsThing_137 gz hq
      · rw [if_neg c12] at H
        refine wp_aload_n xi_182 dX12_readsThing_98 rfl ?_
        refine wp_dup xi_182 dX12_readsThing_99 rfl ?_
        obtain ⟨x31, gx31, H⟩ := Option.bind_eq_some_iff.mp H
        refine wq_getfi xi_182 dX12_readsThing_100 xf_12_146 gx31 ?_
        refine wp_iconst 1 xi_182 dX12_readsThing_103 rfl ?_
        refine wp_iadd xi_182 dX12_readsThing_104 ?_
        obtain ⟨h32, gh32, H⟩ := Option.bind_eq_some_iff.mp H
        refine wq_putf xi_182 dX12_readsThing_105 xf_12_146 (Or.inl rfl) gh32 ?_
        refine wp_aload_n xi_182 dX12_readsThing_108 rfl ?_
        refine wp_sipush 1000 xi_182 dX12_readsThing_109 rfl ?_
        refine wp_iload_n xi_182 dX12_readsThing_112 rfl ?_
        refine wp_iadd xi_182 dX12_readsThing_113 ?_
        obtain ⟨u33, gu33, H⟩ := Option.bind_eq_some_iff.mp H
        obtain ⟨h34, gh34, H⟩ := Option.bind_eq_some_iff.mp H
        refine wq_callV (a := a) (as := [.int (1000 + x11)]) (r := []) (v1 := none) xi_182 xi_181 dX12_readsThing_114 xm_12_202 rfl (Nat.le_of_ble_eq_true rfl) (pG_ok gu33) ⟨(Nat.le_of_ble_eq_true rfl), (Nat.le_of_ble_eq_true rfl)⟩ rfl nofun (e_181 (d + 1) _ gh34 ⟨rfl, rfl⟩) ?_
        change Wp _ _ _ _ [] _ _
        refine wp_iconst 1 xi_182 dX12_readsThing_117 rfl ?_
        obtain ⟨gz, hz⟩ := pZ_ok H
        obtain ⟨rfl, rfl⟩ := Prod.mk.inj hz
        exact wp_zret xi_182 dX12_readsThing_118 gz hq
    · rw [if_neg c8] at H
      refine wp_iconst 0 xi_182 dX12_readsThing_30 rfl ?_
      refine wp_istore_n [some (.ref a), some (.int 0), none] xi_182 dX12_readsThing_31 rfl ?_
      refine wp_iconst 0 xi_182 dX12_readsThing_32 rfl ?_
      refine wp_istore_n [some (.ref a), some (.int 0), some (.int 0)] xi_182 dX12_readsThing_33 rfl ?_
      obtain ⟨⟨w36, h35⟩, G37, H⟩ := Option.bind_eq_some_iff.mp H
      dsimp only at H
      refine Wp.more (by simp [xMore, Value.category]) (ef_182_34 d Q F182 hF182 F183 hF183 100000 a 0 0 h6 _ G37 (fun z0 z1 e9 => ?_))
      cases e9
      refine wp_aload_n xi_182 dX12_readsThing_80 rfl ?_
      refine wp_iload_n xi_182 dX12_readsThing_81 rfl ?_
      obtain ⟨u39, gu39, H⟩ := Option.bind_eq_some_iff.mp H
      obtain ⟨h40, gh40, H⟩ := Option.bind_eq_some_iff.mp H
      refine wq_callV (a := a) (as := [.int w36]) (r := []) (v1 := none) xi_182 xi_181 dX12_readsThing_82 xm_12_202 rfl (Nat.le_of_ble_eq_true rfl) (pG_ok gu39) ⟨(Nat.le_of_ble_eq_true rfl), (Nat.le_of_ble_eq_true rfl)⟩ rfl nofun (e_181 (d + 1) _ gh40 ⟨rfl, rfl⟩) ?_
      change Wp _ _ _ _ [] _ _
      refine wp_iconst 1 xi_182 dX12_readsThing_85 rfl ?_
      obtain ⟨gz, hz⟩ := pZ_ok H
      obtain ⟨rfl, rfl⟩ := Prod.mk.inj hz
      exact wp_zret xi_182 dX12_readsThing_86 gz hq
  · rw [if_neg c4] at H
    refine wp_aload_n xi_182 dX12_readsThing_9 rfl ?_
    obtain ⟨u41, gu41, H⟩ := Option.bind_eq_some_iff.mp H
    obtain ⟨⟨x43, h42⟩, gh42, H⟩ := Option.bind_eq_some_iff.mp H
    dsimp only at H
    refine wq_callV (a := a) (as := []) (r := []) (v1 := (some (.int x43))) xi_182 xi_182 dX12_readsThing_10 xm_12_199 rfl (Nat.le_of_ble_eq_true rfl) (pG_ok gu41) ⟨(Nat.le_of_ble_eq_true rfl), (Nat.le_of_ble_eq_true rfl)⟩ rfl nofun (hF182 _ _ _ _ _ gh42 ⟨rfl, rfl⟩) ?_
    change Wp _ _ _ _ [.int x43] _ _
    refine wp_istore_n [some (.ref a), some (.int x43), none] xi_182 dX12_readsThing_13 rfl ?_
    refine wp_aload_n xi_182 dX12_readsThing_14 rfl ?_
    refine wp_sipush 3000 xi_182 dX12_readsThing_15 rfl ?_
    obtain ⟨u44, gu44, H⟩ := Option.bind_eq_some_iff.mp H
    obtain ⟨h45, gh45, H⟩ := Option.bind_eq_some_iff.mp H
    refine wq_callV (a := a) (as := [.int 3000]) (r := []) (v1 := none) xi_182 xi_181 dX12_readsThing_18 xm_12_202 rfl (Nat.le_of_ble_eq_true rfl) (pG_ok gu44) ⟨(Nat.le_of_ble_eq_true rfl), (Nat.le_of_ble_eq_true rfl)⟩ rfl nofun (e_181 (d + 1) _ gh45 ⟨rfl, rfl⟩) ?_
    change Wp _ _ _ _ [] _ _
    refine wp_iload_n xi_182 dX12_readsThing_21 rfl ?_
    obtain ⟨gz, hz⟩ := pZ_ok H
    obtain ⟨rfl, rfl⟩ := Prod.mk.inj hz
    exact wp_zret xi_182 dX12_readsThing_22 gz hq
/- FelledHasLostModel.readsRank(I)Z -/
def f_183_24 (F182 : Nat → xH → Option (Int32 × xH)) (F183 : Nat → Int32 → xH → Option (Int32 × xH)) : Nat → Nat → Int32 → Int32 → xH → Option ((xH) ⊕ (Int32 × xH))
  | 0, _, _, _, _ => none
  | n + 1, a0, a1, a2, h =>
  (if a2 = 0 then
  some (.inl (h))
  else
  ((if a1 = 0 then
  some ((xKb + 10 + 16))
  else
  (if a1 = 1 then
  some ((xKb + 10 + 17))
  else
  some ((xKb + 10 + 18))) : Option (Nat))).bind fun (w4 : Nat) =>
  (pG (pIs h a0 12)).bind fun _ =>
  (f_176 a0 w4 h).bind fun (x9, h8) =>
  (if (0 : Int32) ≤ x9 then
  (pFi h8 a0 12 11).bind fun x11 =>
  (pP h8 a0 12 11 (.int (x11 + 1))).bind fun h12 =>
  (pG (pIs h12 a0 12)).bind fun _ =>
  (F183 a0 (a1 + 1) h12).bind fun (x15, h14) =>
  (if x15 = 0 then
  (pZ 0 h14).bind fun q29 => some (.inr q29)
  else
  ((if a1 = 0 then
  some (0)
  else
  (if a1 = 1 then
  some (3)
  else
  some (5)) : Option (Int32))).bind fun (w19 : Int32) =>
  (pG (pIs h14 a0 12)).bind fun _ =>
  (f_181 a0 ((2000 + x9) + w19) h14).bind fun h23 =>
  ((if a1 ≤ 0 then
  some (0)
  else
  some (1) : Option (Int32))).bind fun (w25 : Int32) =>
  f_183_24 F182 F183 n a0 a1 w25 h23)
  else
  (pZ 1 h8).bind fun q30 => some (.inr q30)))
theorem ef_183_24 (d : Nat) (Q : Option Value → xH → Prop) (F182 : Nat → xH → Option (Int32 × xH)) (hF182 : ∀ (Q : Option Value → xH → Prop) (b0 : Nat) (h : xH) (x : Int32) (h1 : xH), F182 b0 h = some (x, h1) → Q (some (.int x)) h1 → Wp (d + 1) 182 0 [some (.ref b0), none, none] [] h Q) (F183 : Nat → Int32 → xH → Option (Int32 × xH)) (hF183 : ∀ (Q : Option Value → xH → Prop) (b0 : Nat) (b1 : Int32) (h : xH) (x : Int32) (h1 : xH), F183 b0 b1 h = some (x, h1) → Q (some (.int x)) h1 → Wp (d + 1) 183 0 [some (.ref b0), some (.int b1), none, none] [] h Q) : ∀ (n : Nat) (a0 : Nat) (a1 : Int32) (a2 : Int32) (h : xH) (r : (xH) ⊕ (Int32 × xH)), f_183_24 F182 F183 n a0 a1 a2 h = some r → (∀  (h1 : xH), r = .inl h1 → Wp (d + 2) 183 123 [none, none, none, none] [] h1 Q) → (∀ (x : Int32) (h1 : xH), r = .inr (x, h1) → Q (some (.int x)) h1) → Wp (d + 2) 183 24 [some (.ref a0), some (.int a1), some (.int a2), none] [] h Q := by
  intro n
  induction n with
  | zero =>
    intro a0 a1 a2 h r H
    cases H
  | succ n ih =>
    intro a0 a1 a2 h r H KE KR
    unfold f_183_24 at H
    refine wp_iload_n xi_183 dX12_readsRank_24 rfl ?_
    refine wp_if_eq 123 xi_183 dX12_readsRank_25 rfl (fun c1 => ?_) (fun c1 => ?_)
    · rw [if_pos c1] at H
      obtain rfl := Option.some.inj H
      exact Wp.more (by simp [xMore, Value.category]) (KE  h rfl)
    · rw [if_neg c1] at H
      refine wp_aload_n xi_183 dX12_readsRank_28 rfl ?_
      refine wp_iload_n xi_183 dX12_readsRank_29 rfl ?_
      obtain ⟨w4, G31, H⟩ := Option.bind_eq_some_iff.mp H
      have K5 : Wp (d + 2) 183 50 [some (.ref a0), some (.int a1), some (.int a2), none] [.ref w4, .ref a0] h Q := by
        obtain ⟨u7, gu7, H⟩ := Option.bind_eq_some_iff.mp H
        obtain ⟨⟨x9, h8⟩, gh8, H⟩ := Option.bind_eq_some_iff.mp H
        dsimp only at H
        refine wq_callV (a := a0) (as := [.ref w4]) (r := []) (v1 := (some (.int x9))) xi_183 xi_176 dX12_readsRank_50 xm_12_208 rfl (Nat.le_of_ble_eq_true rfl) (pG_ok gu7) ⟨(Nat.le_of_ble_eq_true rfl), (Nat.le_of_ble_eq_true rfl)⟩ rfl nofun (e_176 (d + 1) _ gh8 ⟨rfl, rfl⟩) ?_
        change Wp _ _ _ _ [.int x9] _ _
        refine wp_istore_n [some (.ref a0), some (.int a1), some (.int a2), some (.int x9)] xi_183 dX12_readsRank_53 rfl ?_
        refine wp_iload_n xi_183 dX12_readsRank_54 rfl ?_
        refine wp_if_ge 60 xi_183 dX12_readsRank_55 rfl (fun c10 => ?_) (fun c10 => ?_)
        · rw [if_pos c10] at H
          refine wp_aload_n xi_183 dX12_readsRank_60 rfl ?_
          refine wp_dup xi_183 dX12_readsRank_61 rfl ?_
          obtain ⟨x11, gx11, H⟩ := Option.bind_eq_some_iff.mp H
          refine wq_getfi xi_183 dX12_readsRank_62 xf_12_146 gx11 ?_
          refine wp_iconst 1 xi_183 dX12_readsRank_65 rfl ?_
          refine wp_iadd xi_183 dX12_readsRank_66 ?_
          obtain ⟨h12, gh12, H⟩ := Option.bind_eq_some_iff.mp H
          refine wq_putf xi_183 dX12_readsRank_67 xf_12_146 (Or.inl rfl) gh12 ?_
          refine wp_aload_n xi_183 dX12_readsRank_70 rfl ?_
          refine wp_iload_n xi_183 dX12_readsRank_71 rfl ?_
          refine wp_iconst 1 xi_183 dX12_readsRank_72 rfl ?_
          refine wp_iadd xi_183 dX12_readsRank_73 ?_
          obtain ⟨u13, gu13, H⟩ := Option.bind_eq_some_iff.mp H
          obtain ⟨⟨x15, h14⟩, gh14, H⟩ := Option.bind_eq_some_iff.mp H
          dsimp only at H
          refine wq_callV (a := a0) (as := [.int (a1 + 1)]) (r := []) (v1 := (some (.int x15))) xi_183 xi_183 dX12_readsRank_74 xm_12_212 rfl (Nat.le_of_ble_eq_true rfl) (pG_ok gu13) ⟨(Nat.le_of_ble_eq_true rfl), (Nat.le_of_ble_eq_true rfl)⟩ rfl nofun (hF183 _ _ _ _ _ _ gh14 ⟨rfl, rfl⟩) ?_
          change Wp _ _ _ _ [.int x15] _ _
          refine wp_if_ne 82 xi_183 dX12_readsRank_77 rfl (fun c16 => ?_) (fun c16 => ?_)
          · rw [if_neg c16] at H
            refine wp_aload_n xi_183 dX12_readsRank_82 rfl ?_
            refine wp_sipush 2000 xi_183 dX12_readsRank_83 rfl ?_
            refine wp_iload_n xi_183 dX12_readsRank_86 rfl ?_
            refine wp_iadd xi_183 dX12_readsRank_87 ?_
            refine wp_iload_n xi_183 dX12_readsRank_88 rfl ?_
            obtain ⟨w19, G28, H⟩ := Option.bind_eq_some_iff.mp H
            have K20 : Wp (d + 2) 183 106 [some (.ref a0), some (.int a1), some (.int a2), some (.int x9)] [.int w19, .int (2000 + x9), .ref a0] h14 Q := by
              refine wp_iadd xi_183 dX12_readsRank_106 ?_
              obtain ⟨u22, gu22, H⟩ := Option.bind_eq_some_iff.mp H
              obtain ⟨h23, gh23, H⟩ := Option.bind_eq_some_iff.mp H
              refine wq_callV (a := a0) (as := [.int ((2000 + x9) + w19)]) (r := []) (v1 := none) xi_183 xi_181 dX12_readsRank_107 xm_12_202 rfl (Nat.le_of_ble_eq_true rfl) (pG_ok gu22) ⟨(Nat.le_of_ble_eq_true rfl), (Nat.le_of_ble_eq_true rfl)⟩ rfl nofun (e_181 (d + 1) _ gh23 ⟨rfl, rfl⟩) ?_
              change Wp _ _ _ _ [] _ _
              refine wp_iload_n xi_183 dX12_readsRank_110 rfl ?_
              obtain ⟨w25, G27, H⟩ := Option.bind_eq_some_iff.mp H
              have K26 : Wp (d + 2) 183 119 [some (.ref a0), some (.int a1), some (.int a2), some (.int x9)] [.int w25] h23 Q := by
                refine wp_istore_n [some (.ref a0), some (.int a1), some (.int w25), some (.int x9)] xi_183 dX12_readsRank_119 rfl ?_
                refine wp_goto 24 xi_183 dX12_readsRank_120 rfl ?_
                exact Wp.more (by simp [xMore, Value.category]) (ih a0 a1 w25 h23 _ H KE KR)
              clear H
              have H := G27
              clear G27
              refine wp_if_le 118 xi_183 dX12_readsRank_111 rfl (fun c24 => ?_) (fun c24 => ?_)
              · rw [if_pos c24] at H
                refine wp_iconst 0 xi_183 dX12_readsRank_118 rfl ?_
                obtain rfl := Option.some.inj H
                exact Wp.more (by simp [xMore, Value.category]) K26
              · rw [if_neg c24] at H
                refine wp_iconst 1 xi_183 dX12_readsRank_114 rfl ?_
                refine wp_goto 119 xi_183 dX12_readsRank_115 rfl ?_
                obtain rfl := Option.some.inj H
                exact Wp.more (by simp [xMore, Value.category]) K26
            clear H
            have H := G28
            clear G28
            refine wp_if_ne 96 xi_183 dX12_readsRank_89 rfl (fun c17 => ?_) (fun c17 => ?_)
            · rw [if_neg c17] at H
              refine wp_iload_n xi_183 dX12_readsRank_96 rfl ?_
              refine wp_iconst 1 xi_183 dX12_readsRank_97 rfl ?_
              refine wp_icmp_ne 105 xi_183 dX12_readsRank_98 rfl (fun c21 => ?_) (fun c21 => ?_)
              · rw [if_neg c21] at H
                refine wp_iconst 5 xi_183 dX12_readsRank_105 rfl ?_
                obtain rfl := Option.some.inj H
                exact Wp.more (by simp [xMore, Value.category]) K20
              · rw [if_pos c21] at H
                refine wp_iconst 3 xi_183 dX12_readsRank_101 rfl ?_
                refine wp_goto 106 xi_183 dX12_readsRank_102 rfl ?_
                obtain rfl := Option.some.inj H
                exact Wp.more (by simp [xMore, Value.category]) K20
            · rw [if_pos c17] at H
              refine wp_iconst 0 xi_183 dX12_readsRank_92 rfl ?_
              refine wp_goto 106 xi_183 dX12_readsRank_93 rfl ?_
              obtain rfl := Option.some.inj H
              exact Wp.more (by simp [xMore, Value.category]) K20
          · rw [if_pos c16] at H
            refine wp_iconst 0 xi_183 dX12_readsRank_80 rfl ?_
            obtain ⟨q29, gq29, H⟩ := Option.bind_eq_some_iff.mp H
            obtain ⟨gz, rfl⟩ := pZ_ok gq29
            obtain rfl := Option.some.inj H
            exact wp_zret xi_183 dX12_readsRank_81 gz (KR _ _ rfl)
        · rw [if_neg c10] at H
          refine wp_iconst 1 xi_183 dX12_readsRank_58 rfl ?_
          obtain ⟨q30, gq30, H⟩ := Option.bind_eq_some_iff.mp H
          obtain ⟨gz, rfl⟩ := pZ_ok gq30
          obtain rfl := Option.some.inj H
          exact wp_zret xi_183 dX12_readsRank_59 gz (KR _ _ rfl)
      clear H
      have H := G31
      clear G31
      refine wp_if_ne 38 xi_183 dX12_readsRank_30 rfl (fun c2 => ?_) (fun c2 => ?_)
      · rw [if_neg c2] at H
        refine wp_iload_n xi_183 dX12_readsRank_38 rfl ?_
        refine wp_iconst 1 xi_183 dX12_readsRank_39 rfl ?_
        refine wp_icmp_ne 48 xi_183 dX12_readsRank_40 rfl (fun c6 => ?_) (fun c6 => ?_)
        · rw [if_neg c6] at H
          refine wp_ldcS xi_183 dX12_readsRank_48 xs0_12_219 xs_12_219 ?_
          obtain rfl := Option.some.inj H
          exact Wp.more (by simp [xMore, Value.category]) K5
        · rw [if_pos c6] at H
          refine wp_ldcS xi_183 dX12_readsRank_43 xs0_12_217 xs_12_217 ?_
          refine wp_goto 50 xi_183 dX12_readsRank_45 rfl ?_
          obtain rfl := Option.some.inj H
          exact Wp.more (by simp [xMore, Value.category]) K5
      · rw [if_pos c2] at H
        refine wp_ldcS xi_183 dX12_readsRank_33 xs0_12_215 xs_12_215 ?_
        refine wp_goto 50 xi_183 dX12_readsRank_35 rfl ?_
        obtain rfl := Option.some.inj H
        exact Wp.more (by simp [xMore, Value.category]) K5
def fb_183 (F182 : Nat → xH → Option (Int32 × xH)) (F183 : Nat → Int32 → xH → Option (Int32 × xH)) (a : Nat) (p0 : Int32) (h : xH) : Option (Int32 × xH) :=
  (if p0 = 3 then
  (pG (pIs h a 12)).bind fun _ =>
  (F182 a h).bind fun (x14, h13) =>
  pZ x14 h13
  else
  (pG (pIs h a 12)).bind fun _ =>
  (F183 a (p0 + 1) h).bind fun (x4, h3) =>
  (if x4 = 0 then
  pZ 0 h3
  else
  (f_183_24 F182 F183 100000 a p0 1 h3).bind fun r9 => match r9 with
  | .inl h6 =>
  pZ 1 h6
  | .inr (x10, h11) => some (x10, h11)))
set_option maxHeartbeats 4000000 in
theorem eb_183 (d : Nat) (Q : Option Value → xH → Prop) (F182 : Nat → xH → Option (Int32 × xH)) (hF182 : ∀ (Q : Option Value → xH → Prop) (b0 : Nat) (h : xH) (x : Int32) (h1 : xH), F182 b0 h = some (x, h1) → Q (some (.int x)) h1 → Wp (d + 1) 182 0 [some (.ref b0), none, none] [] h Q) (F183 : Nat → Int32 → xH → Option (Int32 × xH)) (hF183 : ∀ (Q : Option Value → xH → Prop) (b0 : Nat) (b1 : Int32) (h : xH) (x : Int32) (h1 : xH), F183 b0 b1 h = some (x, h1) → Q (some (.int x)) h1 → Wp (d + 1) 183 0 [some (.ref b0), some (.int b1), none, none] [] h Q) {h : xH} {a : Nat} {p0 : Int32} {x : Int32} {h1 : xH} (H : fb_183 F182 F183 a p0 h = some (x, h1)) (hq : Q (some (.int x)) h1) : Wp (d + 2) 183 0 [some (.ref a), some (.int p0), none, none] [] h Q := by
  unfold fb_183 at H
  refine wp_iload_n xi_183 dX12_readsRank_0 rfl ?_
  refine wp_iconst 3 xi_183 dX12_readsRank_1 rfl ?_
  refine wp_icmp_ne 10 xi_183 dX12_readsRank_2 rfl (fun c1 => ?_) (fun c1 => ?_)
  · rw [if_neg c1] at H
    refine wp_aload_n xi_183 dX12_readsRank_10 rfl ?_
    refine wp_iload_n xi_183 dX12_readsRank_11 rfl ?_
    refine wp_iconst 1 xi_183 dX12_readsRank_12 rfl ?_
    refine wp_iadd xi_183 dX12_readsRank_13 ?_
    obtain ⟨u2, gu2, H⟩ := Option.bind_eq_some_iff.mp H
    obtain ⟨⟨x4, h3⟩, gh3, H⟩ := Option.bind_eq_some_iff.mp H
    dsimp only at H
    refine wq_callV (a := a) (as := [.int (p0 + 1)]) (r := []) (v1 := (some (.int x4))) xi_183 xi_183 dX12_readsRank_14 xm_12_212 rfl (Nat.le_of_ble_eq_true rfl) (pG_ok gu2) ⟨(Nat.le_of_ble_eq_true rfl), (Nat.le_of_ble_eq_true rfl)⟩ rfl nofun (hF183 _ _ _ _ _ _ gh3 ⟨rfl, rfl⟩) ?_
    change Wp _ _ _ _ [.int x4] _ _
    refine wp_if_ne 22 xi_183 dX12_readsRank_17 rfl (fun c5 => ?_) (fun c5 => ?_)
    · rw [if_neg c5] at H
      refine wp_iconst 1 xi_183 dX12_readsRank_22 rfl ?_
      refine wp_istore_n [some (.ref a), some (.int p0), some (.int 1), none] xi_183 dX12_readsRank_23 rfl ?_
      obtain ⟨r9, G7, H⟩ := Option.bind_eq_some_iff.mp H
      refine Wp.more (by simp [xMore, Value.category]) (ef_183_24 d Q F182 hF182 F183 hF183 100000 a p0 1 h3 _ G7 (fun z0 e9 => ?_) (fun x1 h1 e9 => ?_))
      · subst e9
        dsimp only at H
        obtain ⟨h6, rfl⟩ : ∃ z, z = z0 := ⟨_, rfl⟩
        refine wp_iconst 1 xi_183 dX12_readsRank_123 rfl ?_
        obtain ⟨gz, hz⟩ := pZ_ok H
        obtain ⟨rfl, rfl⟩ := Prod.mk.inj hz
        exact wp_zret xi_183 dX12_readsRank_124 gz hq
      · subst e9
        dsimp only at H
        obtain ⟨rfl, rfl⟩ := oi2 H
        exact hq
    · rw [if_pos c5] at H
      refine wp_iconst 0 xi_183 dX12_readsRank_20 rfl ?_
      obtain ⟨gz, hz⟩ := pZ_ok H
      obtain ⟨rfl, rfl⟩ := Prod.mk.inj hz
      exact wp_zret xi_183 dX12_readsRank_21 gz hq
  · rw [if_pos c1] at H
    refine wp_aload_n xi_183 dX12_readsRank_5 rfl ?_
    obtain ⟨u12, gu12, H⟩ := Option.bind_eq_some_iff.mp H
    obtain ⟨⟨x14, h13⟩, gh13, H⟩ := Option.bind_eq_some_iff.mp H
    dsimp only at H
    refine wq_callV (a := a) (as := []) (r := []) (v1 := (some (.int x14))) xi_183 xi_182 dX12_readsRank_6 xm_12_199 rfl (Nat.le_of_ble_eq_true rfl) (pG_ok gu12) ⟨(Nat.le_of_ble_eq_true rfl), (Nat.le_of_ble_eq_true rfl)⟩ rfl nofun (hF182 _ _ _ _ _ gh13 ⟨rfl, rfl⟩) ?_
    change Wp _ _ _ _ [.int x14] _ _
    obtain ⟨gz, hz⟩ := pZ_ok H
    obtain ⟨rfl, rfl⟩ := Prod.mk.inj hz
    exact wp_zret xi_183 dX12_readsRank_9 gz hq
def fr_182 : Nat → Bool → Nat → Int32 → xH → Option (Int32 × xH)
  | 0, _, _, _, _ => none
  | n + 1, true, a, r, h => fb_182 (fun a h => fr_182 n true a 0 h) (fun a r h => fr_182 n false a r h) a h
  | n + 1, false, a, r, h => fb_183 (fun a h => fr_182 n true a 0 h) (fun a r h => fr_182 n false a r h) a r h
theorem efr_182 : ∀ (n d : Nat), (∀ (Q : Option Value → xH → Prop) (a : Nat) (r : Int32) (h : xH) (x : Int32) (h1 : xH), fr_182 n true a r h = some (x, h1) → Q (some (.int x)) h1 → Wp (d + n + 2) 182 0 [some (.ref a), none, none] [] h Q) ∧ (∀ (Q : Option Value → xH → Prop) (a : Nat) (r : Int32) (h : xH) (x : Int32) (h1 : xH), fr_182 n false a r h = some (x, h1) → Q (some (.int x)) h1 → Wp (d + n + 2) 183 0 [some (.ref a), some (.int r), none, none] [] h Q) := by
  intro n
  induction n with
  | zero =>
    intro d
    exact ⟨fun Q a r h x h1 H => by simp [fr_182] at H, fun Q a r h x h1 H => by simp [fr_182] at H⟩
  | succ n ih =>
    intro d
    refine ⟨fun Q a r h x h1 H hq => ?_, fun Q a r h x h1 H hq => ?_⟩
    · exact eb_182 (d + n + 1) Q (fun a h => fr_182 n true a 0 h) (fun Q a h x h1 H hq => (ih d).1 Q a 0 h x h1 H hq) (fun a r h => fr_182 n false a r h) (fun Q a r h x h1 H hq => (ih d).2 Q a r h x h1 H hq) H hq
    · exact eb_183 (d + n + 1) Q (fun a h => fr_182 n true a 0 h) (fun Q a h x h1 H hq => (ih d).1 Q a 0 h x h1 H hq) (fun a r h => fr_182 n false a r h) (fun Q a r h x h1 H hq => (ih d).2 Q a r h x h1 H hq) H hq
def f_182 (a : Nat) (h : xH) : Option (Int32 × xH) := fr_182 120 true a 0 h
def f_183 (a : Nat) (r : Int32) (h : xH) : Option (Int32 × xH) := fr_182 120 false a r h
theorem e_183 (d : Nat) (Q : Option Value → xH → Prop) {h : xH} {a : Nat} {p0 : Int32} {x : Int32} {h1 : xH} (H : f_183 a p0 h = some (x, h1)) (hq : Q (some (.int x)) h1) : Wp (d + 122) 183 0 [some (.ref a), some (.int p0), none, none] [] h Q := (efr_182 120 d).2 Q a p0 h x h1 H hq
/- FelledHasLostModel.rule()I -/
def f_184_61  : Nat → Nat → Int32 → xH → Option (xH)
  | 0, _, _, _ => none
  | n + 1, a0, a4, h =>
  (pFi h a0 12 18).bind fun x1 =>
  (if x1 ≤ a4 then
  some (h)
  else
  (pFr h a0 12 15).bind fun x3 =>
  (pFr h a0 12 16).bind fun x4 =>
  (pAi h x4 a4).bind fun x5 =>
  (pSi h x3 a4 x5).bind fun h6 =>
  f_184_61 n a0 (a4 + 1) h6)
theorem ef_184_61 (d : Nat) (Q : Option Value → xH → Prop)  : ∀ (n : Nat) (a0 : Nat) (a4 : Int32) (h : xH) (r : xH), f_184_61 n a0 a4 h = some r → (∀  (h1 : xH), r = h1 → Wp (d + 123) 184 90 [none, none, none, none, none] [] h1 Q) → Wp (d + 123) 184 61 [some (.ref a0), none, none, none, some (.int a4)] [] h Q := by
  intro n
  induction n with
  | zero =>
    intro a0 a4 h r H
    cases H
  | succ n ih =>
    intro a0 a4 h r H KE
    unfold f_184_61 at H
    refine wp_iload xi_184 dX12_rule_61 rfl ?_
    refine wp_aload_n xi_184 dX12_rule_63 rfl ?_
    obtain ⟨x1, gx1, H⟩ := Option.bind_eq_some_iff.mp H
    refine wq_getfi xi_184 dX12_rule_64 xf_12_196 gx1 ?_
    refine wp_icmp_ge 90 xi_184 dX12_rule_67 rfl (fun c2 => ?_) (fun c2 => ?_)
    · rw [if_pos c2] at H
      obtain rfl := Option.some.inj H
      exact Wp.more (by simp [xMore, Value.category]) (KE  h rfl)
    · rw [if_neg c2] at H
      refine wp_aload_n xi_184 dX12_rule_70 rfl ?_
      obtain ⟨x3, gx3, H⟩ := Option.bind_eq_some_iff.mp H
      refine wq_getfr xi_184 dX12_rule_71 xf_12_43 gx3 ?_
      refine wp_iload xi_184 dX12_rule_74 rfl ?_
      refine wp_aload_n xi_184 dX12_rule_76 rfl ?_
      obtain ⟨x4, gx4, H⟩ := Option.bind_eq_some_iff.mp H
      refine wq_getfr xi_184 dX12_rule_77 xf_12_46 gx4 ?_
      refine wp_iload xi_184 dX12_rule_80 rfl ?_
      obtain ⟨x5, gx5, H⟩ := Option.bind_eq_some_iff.mp H
      refine wq_iaload xi_184 dX12_rule_82 gx5 ?_
      obtain ⟨h6, gh6, H⟩ := Option.bind_eq_some_iff.mp H
      refine wq_iastore xi_184 dX12_rule_83 gh6 ?_
      refine wp_iinc (a4 + 1) [some (.ref a0), none, none, none, some (.int (a4 + 1))] xi_184 dX12_rule_84 rfl rfl rfl ?_
      refine wp_goto 61 xi_184 dX12_rule_87 rfl ?_
      exact Wp.more (by simp [xMore, Value.category]) (ih a0 (a4 + 1) h6 _ H KE)
def f_184  (a : Nat) (h : xH) : Option (Int32 × xH) :=
  (pP h a 12 0 (.int 0)).bind fun h1 =>
  (pG (pIs h1 a 12)).bind fun _ =>
  (f_173 a 40 h1).bind fun (x4, h3) =>
  (pP h3 a 12 18 (.int 0)).bind fun h5 =>
  ((if x4 = 0 then
  some (1, h5)
  else
  (pG (pIs h5 a 12)).bind fun _ =>
  (f_183 a 0 h5).bind fun (x16, h15) =>
  (if x16 = 0 then
  some (0, h15)
  else
  some (1, h15)) : Option (Int32 × xH))).bind fun (w11, h12) =>
  (pG (pIs h12 a 12)).bind fun _ =>
  (f_177 a x4 40 w11 h12).bind fun (x20, h19) =>
  (if (0 : Int32) ≤ x20 then
  (pFi h19 a 12 18).bind fun x22 =>
  (pP h19 a 12 17 (.int x22)).bind fun h23 =>
  (f_184_61 100000 a 0 h23).bind fun h24 =>
  some (0, h24)
  else
  some (x20, h19))
set_option maxHeartbeats 4000000 in
theorem e_184 (d : Nat) (Q : Option Value → xH → Prop)  {h : xH} {a : Nat} {x : Int32} {h1 : xH} (H : f_184  a h = some (x, h1)) (hq : Q (some (.int x)) h1) : Wp (d + 123) 184 0 [some (.ref a), none, none, none, none] [] h Q := by
  unfold f_184 at H
  refine wp_aload_n xi_184 dX12_rule_0 rfl ?_
  refine wp_iconst 0 xi_184 dX12_rule_1 rfl ?_
  obtain ⟨h1, gh1, H⟩ := Option.bind_eq_some_iff.mp H
  refine wq_putf xi_184 dX12_rule_2 xf_12_3 (Or.inl rfl) gh1 ?_
  refine wp_aload_n xi_184 dX12_rule_5 rfl ?_
  refine wp_bipush 40 xi_184 dX12_rule_6 rfl ?_
  obtain ⟨u2, gu2, H⟩ := Option.bind_eq_some_iff.mp H
  obtain ⟨⟨x4, h3⟩, gh3, H⟩ := Option.bind_eq_some_iff.mp H
  dsimp only at H
  refine wq_callV (a := a) (as := [.int 40]) (r := []) (v1 := (some (.int x4))) xi_184 xi_173 dX12_rule_8 xm_12_178 rfl (Nat.le_of_ble_eq_true rfl) (pG_ok gu2) ⟨(Nat.le_of_ble_eq_true rfl), (Nat.le_of_ble_eq_true rfl)⟩ rfl nofun (e_173 (d + 122) _ gh3 ⟨rfl, rfl⟩) ?_
  change Wp _ _ _ _ [.int x4] _ _
  refine wp_istore_n [some (.ref a), some (.int x4), none, none, none] xi_184 dX12_rule_11 rfl ?_
  refine wp_aload_n xi_184 dX12_rule_12 rfl ?_
  refine wp_iconst 0 xi_184 dX12_rule_13 rfl ?_
  obtain ⟨h5, gh5, H⟩ := Option.bind_eq_some_iff.mp H
  refine wq_putf xi_184 dX12_rule_14 xf_12_196 (Or.inl rfl) gh5 ?_
  refine wp_iload_n xi_184 dX12_rule_17 rfl ?_
  obtain ⟨⟨w11, h12⟩, G27, H⟩ := Option.bind_eq_some_iff.mp H
  dsimp only at H
  have K13 : Wp (d + 123) 184 34 [some (.ref a), some (.int x4), none, none, none] [.int w11] h12 Q := by
    refine wp_istore_n [some (.ref a), some (.int x4), some (.int w11), none, none] xi_184 dX12_rule_34 rfl ?_
    refine wp_aload_n xi_184 dX12_rule_35 rfl ?_
    refine wp_iload_n xi_184 dX12_rule_36 rfl ?_
    refine wp_bipush 40 xi_184 dX12_rule_37 rfl ?_
    refine wp_iload_n xi_184 dX12_rule_39 rfl ?_
    obtain ⟨u18, gu18, H⟩ := Option.bind_eq_some_iff.mp H
    obtain ⟨⟨x20, h19⟩, gh19, H⟩ := Option.bind_eq_some_iff.mp H
    dsimp only at H
    refine wq_callV (a := a) (as := [.int x4, .int 40, .int w11]) (r := []) (v1 := (some (.int x20))) xi_184 xi_177 dX12_rule_40 xm_12_192 rfl (Nat.le_of_ble_eq_true rfl) (pG_ok gu18) ⟨(Nat.le_of_ble_eq_true rfl), (Nat.le_of_ble_eq_true rfl)⟩ rfl nofun (e_177 (d + 122) _ gh19 ⟨rfl, rfl⟩) ?_
    change Wp _ _ _ _ [.int x20] _ _
    refine wp_istore_n [some (.ref a), some (.int x4), some (.int w11), some (.int x20), none] xi_184 dX12_rule_43 rfl ?_
    refine wp_iload_n xi_184 dX12_rule_44 rfl ?_
    refine wp_if_ge 50 xi_184 dX12_rule_45 rfl (fun c21 => ?_) (fun c21 => ?_)
    · rw [if_pos c21] at H
      refine wp_aload_n xi_184 dX12_rule_50 rfl ?_
      refine wp_aload_n xi_184 dX12_rule_51 rfl ?_
      obtain ⟨x22, gx22, H⟩ := Option.bind_eq_some_iff.mp H
      refine wq_getfi xi_184 dX12_rule_52 xf_12_196 gx22 ?_
      obtain ⟨h23, gh23, H⟩ := Option.bind_eq_some_iff.mp H
      refine wq_putf xi_184 dX12_rule_55 xf_12_221 (Or.inl rfl) gh23 ?_
      refine wp_iconst 0 xi_184 dX12_rule_58 rfl ?_
      refine wp_istore [some (.ref a), some (.int x4), some (.int w11), some (.int x20), some (.int 0)] xi_184 dX12_rule_59 rfl ?_
      obtain ⟨h24, G25, H⟩ := Option.bind_eq_some_iff.mp H
      refine Wp.more (by simp [xMore, Value.category]) (ef_184_61 d Q  100000 a 0 h23 _ G25 (fun z0 e9 => ?_))
      cases e9
      refine wp_iconst 0 xi_184 dX12_rule_90 rfl ?_
      obtain ⟨rfl, rfl⟩ := oi2 H
      exact wp_iret xi_184 dX12_rule_91 hq
    · rw [if_neg c21] at H
      refine wp_iload_n xi_184 dX12_rule_48 rfl ?_
      obtain ⟨rfl, rfl⟩ := oi2 H
      exact wp_iret xi_184 dX12_rule_49 hq
  clear H
  have H := G27
  clear G27
  refine wp_if_eq 29 xi_184 dX12_rule_18 rfl (fun c6 => ?_) (fun c6 => ?_)
  · rw [if_pos c6] at H
    refine wp_iconst 1 xi_184 dX12_rule_29 rfl ?_
    refine wp_goto 34 xi_184 dX12_rule_30 rfl ?_
    simp only [Option.some.injEq, Prod.mk.injEq] at H
    obtain ⟨rfl, rfl⟩ := H
    exact Wp.more (by simp [xMore, Value.category]) K13
  · rw [if_neg c6] at H
    refine wp_aload_n xi_184 dX12_rule_21 rfl ?_
    refine wp_iconst 0 xi_184 dX12_rule_22 rfl ?_
    obtain ⟨u14, gu14, H⟩ := Option.bind_eq_some_iff.mp H
    obtain ⟨⟨x16, h15⟩, gh15, H⟩ := Option.bind_eq_some_iff.mp H
    dsimp only at H
    refine wq_callV (a := a) (as := [.int 0]) (r := []) (v1 := (some (.int x16))) xi_184 xi_183 dX12_rule_23 xm_12_212 rfl (Nat.le_of_ble_eq_true rfl) (pG_ok gu14) ⟨(Nat.le_of_ble_eq_true rfl), (Nat.le_of_ble_eq_true rfl)⟩ rfl nofun (e_183 d _ gh15 ⟨rfl, rfl⟩) ?_
    change Wp _ _ _ _ [.int x16] _ _
    refine wp_if_eq 33 xi_184 dX12_rule_26 rfl (fun c17 => ?_) (fun c17 => ?_)
    · rw [if_pos c17] at H
      refine wp_iconst 0 xi_184 dX12_rule_33 rfl ?_
      simp only [Option.some.injEq, Prod.mk.injEq] at H
      obtain ⟨rfl, rfl⟩ := H
      exact Wp.more (by simp [xMore, Value.category]) K13
    · rw [if_neg c17] at H
      refine wp_iconst 1 xi_184 dX12_rule_29 rfl ?_
      refine wp_goto 34 xi_184 dX12_rule_30 rfl ?_
      simp only [Option.some.injEq, Prod.mk.injEq] at H
      obtain ⟨rfl, rfl⟩ := H
      exact Wp.more (by simp [xMore, Value.category]) K13
/- FelledHasLostModel.chance(I)I -/
def f_243_128  : Nat → Nat → Int32 → Int32 → Int32 → Int32 → Int32 → Int32 → Int32 → xH → Option (Int32 × xH)
  | 0, _, _, _, _, _, _, _, _, _ => none
  | n + 1, a0, a1, a2, a3, a4, a5, a6, a7, h =>
  (if (480 : Int32) ≤ a7 then
  some (a6, h)
  else
  (pFr h a0 12 27).bind fun x2 =>
  (pG (pIs h a0 12)).bind fun _ =>
  (f_204 a0 x2 a7 h).bind fun (x5, h4) =>
  ((if x5 = 0 then
  some (a6, h4)
  else
  (pFr h4 a0 12 27).bind fun x14 =>
  (pG (pIs h4 a0 12)).bind fun _ =>
  (f_242 a0 x14 a7 h4).bind fun (x17, h16) =>
  some ((pMax a6 x17), h16) : Option (Int32 × xH))).bind fun (w11, h12) =>
  f_243_128 n a0 a1 a2 a3 a4 a5 w11 (a7 + 1) h12)
theorem ef_243_128 (d : Nat) (Q : Option Value → xH → Prop)  : ∀ (n : Nat) (a0 : Nat) (a1 : Int32) (a2 : Int32) (a3 : Int32) (a4 : Int32) (a5 : Int32) (a6 : Int32) (a7 : Int32) (h : xH) (r : Int32 × xH), f_243_128 n a0 a1 a2 a3 a4 a5 a6 a7 h = some r → (∀ (w6 : Int32) (h1 : xH), r = (w6, h1) → Wp (d + 42) 243 177 [some (.ref a0), some (.int a1), some (.int a2), some (.int a3), some (.int a4), some (.int a5), some (.int w6), none] [] h1 Q) → Wp (d + 42) 243 128 [some (.ref a0), some (.int a1), some (.int a2), some (.int a3), some (.int a4), some (.int a5), some (.int a6), some (.int a7)] [] h Q := by
  intro n
  induction n with
  | zero =>
    intro a0 a1 a2 a3 a4 a5 a6 a7 h r H
    cases H
  | succ n ih =>
    intro a0 a1 a2 a3 a4 a5 a6 a7 h r H KE
    unfold f_243_128 at H
    refine wp_iload xi_243 dX12_chance_128 rfl ?_
    refine wp_sipush 480 xi_243 dX12_chance_130 rfl ?_
    refine wp_icmp_ge 177 xi_243 dX12_chance_133 rfl (fun c1 => ?_) (fun c1 => ?_)
    · rw [if_pos c1] at H
      obtain rfl := Option.some.inj H
      exact Wp.more (by simp [xMore, Value.category]) (KE a6 h rfl)
    · rw [if_neg c1] at H
      refine wp_aload_n xi_243 dX12_chance_136 rfl ?_
      refine wp_aload_n xi_243 dX12_chance_137 rfl ?_
      obtain ⟨x2, gx2, H⟩ := Option.bind_eq_some_iff.mp H
      refine wq_getfr xi_243 dX12_chance_138 xf_12_64 gx2 ?_
      refine wp_iload xi_243 dX12_chance_141 rfl ?_
      obtain ⟨u3, gu3, H⟩ := Option.bind_eq_some_iff.mp H
      obtain ⟨⟨x5, h4⟩, gh4, H⟩ := Option.bind_eq_some_iff.mp H
      dsimp only at H
      refine wq_callV (a := a0) (as := [.ref x2, .int a7]) (r := []) (v1 := (some (.int x5))) xi_243 xi_204 dX12_chance_143 xm_12_309 rfl (Nat.le_of_ble_eq_true rfl) (pG_ok gu3) ⟨(Nat.le_of_ble_eq_true rfl), (Nat.le_of_ble_eq_true rfl)⟩ rfl nofun (e_204 (d + 37) _ gh4 ⟨rfl, rfl⟩) ?_
      change Wp _ _ _ _ [.int x5] _ _
      obtain ⟨⟨w11, h12⟩, G18, H⟩ := Option.bind_eq_some_iff.mp H
      dsimp only at H
      have K13 : Wp (d + 42) 243 169 [some (.ref a0), some (.int a1), some (.int a2), some (.int a3), some (.int a4), some (.int a5), some (.int a6), some (.int a7)] [.int w11] h12 Q := by
        refine wp_istore [some (.ref a0), some (.int a1), some (.int a2), some (.int a3), some (.int a4), some (.int a5), some (.int w11), some (.int a7)] xi_243 dX12_chance_169 rfl ?_
        refine wp_iinc (a7 + 1) [some (.ref a0), some (.int a1), some (.int a2), some (.int a3), some (.int a4), some (.int a5), some (.int w11), some (.int (a7 + 1))] xi_243 dX12_chance_171 rfl rfl rfl ?_
        refine wp_goto 128 xi_243 dX12_chance_174 rfl ?_
        exact Wp.more (by simp [xMore, Value.category]) (ih a0 a1 a2 a3 a4 a5 w11 (a7 + 1) h12 _ H KE)
      clear H
      have H := G18
      clear G18
      refine wp_if_eq 167 xi_243 dX12_chance_146 rfl (fun c6 => ?_) (fun c6 => ?_)
      · rw [if_pos c6] at H
        refine wp_iload xi_243 dX12_chance_167 rfl ?_
        simp only [Option.some.injEq, Prod.mk.injEq] at H
        obtain ⟨rfl, rfl⟩ := H
        exact Wp.more (by simp [xMore, Value.category]) K13
      · rw [if_neg c6] at H
        refine wp_iload xi_243 dX12_chance_149 rfl ?_
        refine wp_aload_n xi_243 dX12_chance_151 rfl ?_
        refine wp_aload_n xi_243 dX12_chance_152 rfl ?_
        obtain ⟨x14, gx14, H⟩ := Option.bind_eq_some_iff.mp H
        refine wq_getfr xi_243 dX12_chance_153 xf_12_64 gx14 ?_
        refine wp_iload xi_243 dX12_chance_156 rfl ?_
        obtain ⟨u15, gu15, H⟩ := Option.bind_eq_some_iff.mp H
        obtain ⟨⟨x17, h16⟩, gh16, H⟩ := Option.bind_eq_some_iff.mp H
        dsimp only at H
        refine wq_callV (a := a0) (as := [.ref x14, .int a7]) (r := [.int a6]) (v1 := (some (.int x17))) xi_243 xi_242 dX12_chance_158 xm_12_398 rfl (Nat.le_of_ble_eq_true rfl) (pG_ok gu15) ⟨(Nat.le_of_ble_eq_true rfl), (Nat.le_of_ble_eq_true rfl)⟩ rfl nofun (e_242 (d + 36) _ gh16 ⟨rfl, rfl⟩) ?_
        change Wp _ _ _ _ [.int x17, .int a6] _ _
        refine wq_max xi_243 dX12_chance_161 xm_12_224 (Nat.le_of_ble_eq_true rfl) ?_
        refine wp_goto 169 xi_243 dX12_chance_164 rfl ?_
        simp only [Option.some.injEq, Prod.mk.injEq] at H
        obtain ⟨rfl, rfl⟩ := H
        exact Wp.more (by simp [xMore, Value.category]) K13
def f_243_34  : Nat → Nat → Int32 → Int32 → Int32 → Int32 → xH → Option (Int32 × Int32 × xH)
  | 0, _, _, _, _, _, _ => none
  | n + 1, a0, a1, a2, a3, a4, h =>
  (if (480 : Int32) ≤ a4 then
  some (a2, a3, h)
  else
  (if a1 ≤ 0 then
  some (a2, a3, h)
  else
  (pFr h a0 12 3).bind fun x3 =>
  (pG (pIs h a0 12)).bind fun _ =>
  (f_204 a0 x3 a4 h).bind fun (x6, h5) =>
  ((if x6 = 0 then
  some (a2, a3, h5)
  else
  (pFr h5 a0 12 3).bind fun x56 =>
  (pG (pIs h5 a0 12)).bind fun _ =>
  (f_242 a0 x56 a4 h5).bind fun (x59, h58) =>
  ((if a1 = 2 then
  (pFr h58 a0 12 3).bind fun x81 =>
  (pFr h58 a0 12 27).bind fun x82 =>
  (f_168 x81 x82 h58).bind fun h83 =>
  (pFr h83 a0 12 27).bind fun x84 =>
  (pG (pIs h83 a0 12)).bind fun _ =>
  (f_203 a0 x84 a4 h83).bind fun (x87, h86) =>
  (pFr h86 a0 12 27).bind fun x88 =>
  (pFr h86 a0 12 3).bind fun x89 =>
  (pAi h86 x89 49).bind fun x90 =>
  (pFi h86 a0 12 6).bind fun x91 =>
  (pRem (x90 + 1) x91).bind fun x92 =>
  (pSi h86 x88 49 x92).bind fun h93 =>
  (f_243_128 100000 a0 a1 a2 a3 a4 x59 0 0 h93).bind fun (w95, h94) =>
  some ((x59 * w95), h94)
  else
  some (x59, h58) : Option (Int32 × xH))).bind fun (w78, h79) =>
  (if w78 ≤ a2 then
  some (a2, a3, h79)
  else
  some (w78, a4, h79)) : Option (Int32 × Int32 × xH))).bind fun (w52, w53, h54) =>
  f_243_34 n a0 a1 w52 w53 (a4 + 1) h54))
theorem ef_243_34 (d : Nat) (Q : Option Value → xH → Prop)  : ∀ (n : Nat) (a0 : Nat) (a1 : Int32) (a2 : Int32) (a3 : Int32) (a4 : Int32) (h : xH) (r : Int32 × Int32 × xH), f_243_34 n a0 a1 a2 a3 a4 h = some r → (∀ (w2 : Int32) (w3 : Int32) (h1 : xH), r = (w2, w3, h1) → Wp (d + 42) 243 202 [some (.ref a0), some (.int a1), some (.int w2), some (.int w3), none, none, none, none] [] h1 Q) → Wp (d + 42) 243 34 [some (.ref a0), some (.int a1), some (.int a2), some (.int a3), some (.int a4), none, none, none] [] h Q := by
  intro n
  induction n with
  | zero =>
    intro a0 a1 a2 a3 a4 h r H
    cases H
  | succ n ih =>
    intro a0 a1 a2 a3 a4 h r H KE
    unfold f_243_34 at H
    refine wp_iload xi_243 dX12_chance_34 rfl ?_
    refine wp_sipush 480 xi_243 dX12_chance_36 rfl ?_
    refine wp_icmp_ge 202 xi_243 dX12_chance_39 rfl (fun c1 => ?_) (fun c1 => ?_)
    · rw [if_pos c1] at H
      obtain rfl := Option.some.inj H
      exact Wp.more (by simp [xMore, Value.category]) (KE a2 a3 h rfl)
    · rw [if_neg c1] at H
      refine wp_iload_n xi_243 dX12_chance_42 rfl ?_
      refine wp_if_le 202 xi_243 dX12_chance_43 rfl (fun c2 => ?_) (fun c2 => ?_)
      · rw [if_pos c2] at H
        obtain rfl := Option.some.inj H
        exact Wp.more (by simp [xMore, Value.category]) (KE a2 a3 h rfl)
      · rw [if_neg c2] at H
        refine wp_aload_n xi_243 dX12_chance_46 rfl ?_
        refine wp_aload_n xi_243 dX12_chance_47 rfl ?_
        obtain ⟨x3, gx3, H⟩ := Option.bind_eq_some_iff.mp H
        refine wq_getfr xi_243 dX12_chance_48 xf_12_24 gx3 ?_
        refine wp_iload xi_243 dX12_chance_51 rfl ?_
        obtain ⟨u4, gu4, H⟩ := Option.bind_eq_some_iff.mp H
        obtain ⟨⟨x6, h5⟩, gh5, H⟩ := Option.bind_eq_some_iff.mp H
        dsimp only at H
        refine wq_callV (a := a0) (as := [.ref x3, .int a4]) (r := []) (v1 := (some (.int x6))) xi_243 xi_204 dX12_chance_53 xm_12_309 rfl (Nat.le_of_ble_eq_true rfl) (pG_ok gu4) ⟨(Nat.le_of_ble_eq_true rfl), (Nat.le_of_ble_eq_true rfl)⟩ rfl nofun (e_204 (d + 37) _ gh5 ⟨rfl, rfl⟩) ?_
        change Wp _ _ _ _ [.int x6] _ _
        obtain ⟨⟨w52, w53, h54⟩, G100, H⟩ := Option.bind_eq_some_iff.mp H
        dsimp only at H
        have K55 : Wp (d + 42) 243 196 [some (.ref a0), some (.int a1), some (.int w52), some (.int w53), some (.int a4), none, none, none] [] h54 Q := by
          refine wp_iinc (a4 + 1) [some (.ref a0), some (.int a1), some (.int w52), some (.int w53), some (.int (a4 + 1)), none, none, none] xi_243 dX12_chance_196 rfl rfl rfl ?_
          refine wp_goto 34 xi_243 dX12_chance_199 rfl ?_
          exact Wp.more (by simp [xMore, Value.category]) (ih a0 a1 w52 w53 (a4 + 1) h54 _ H KE)
        clear H
        have H := G100
        clear G100
        refine wp_if_ne 62 xi_243 dX12_chance_56 rfl (fun c7 => ?_) (fun c7 => ?_)
        · rw [if_neg c7] at H
          refine wp_aload_n xi_243 dX12_chance_62 rfl ?_
          refine wp_aload_n xi_243 dX12_chance_63 rfl ?_
          obtain ⟨x56, gx56, H⟩ := Option.bind_eq_some_iff.mp H
          refine wq_getfr xi_243 dX12_chance_64 xf_12_24 gx56 ?_
          refine wp_iload xi_243 dX12_chance_67 rfl ?_
          obtain ⟨u57, gu57, H⟩ := Option.bind_eq_some_iff.mp H
          obtain ⟨⟨x59, h58⟩, gh58, H⟩ := Option.bind_eq_some_iff.mp H
          dsimp only at H
          refine wq_callV (a := a0) (as := [.ref x56, .int a4]) (r := []) (v1 := (some (.int x59))) xi_243 xi_242 dX12_chance_69 xm_12_398 rfl (Nat.le_of_ble_eq_true rfl) (pG_ok gu57) ⟨(Nat.le_of_ble_eq_true rfl), (Nat.le_of_ble_eq_true rfl)⟩ rfl nofun (e_242 (d + 36) _ gh58 ⟨rfl, rfl⟩) ?_
          change Wp _ _ _ _ [.int x59] _ _
          refine wp_istore [some (.ref a0), some (.int a1), some (.int a2), some (.int a3), some (.int a4), some (.int x59), none, none] xi_243 dX12_chance_72 rfl ?_
          refine wp_iload_n xi_243 dX12_chance_74 rfl ?_
          refine wp_iconst 2 xi_243 dX12_chance_75 rfl ?_
          obtain ⟨⟨w78, h79⟩, G99, H⟩ := Option.bind_eq_some_iff.mp H
          dsimp only at H
          have K80 : Wp (d + 42) 243 184 [some (.ref a0), some (.int a1), some (.int a2), some (.int a3), some (.int a4), some (.int w78), none, none] [] h79 Q := by
            refine wp_iload xi_243 dX12_chance_184 rfl ?_
            refine wp_iload_n xi_243 dX12_chance_186 rfl ?_
            refine wp_icmp_le 196 xi_243 dX12_chance_187 rfl (fun c98 => ?_) (fun c98 => ?_)
            · rw [if_pos c98] at H
              simp only [Option.some.injEq, Prod.mk.injEq] at H
              obtain ⟨rfl, rfl, rfl⟩ := H
              exact Wp.more (by simp [xMore, Value.category]) K55
            · rw [if_neg c98] at H
              refine wp_iload xi_243 dX12_chance_190 rfl ?_
              refine wp_istore_n [some (.ref a0), some (.int a1), some (.int w78), some (.int a3), some (.int a4), some (.int w78), none, none] xi_243 dX12_chance_192 rfl ?_
              refine wp_iload xi_243 dX12_chance_193 rfl ?_
              refine wp_istore_n [some (.ref a0), some (.int a1), some (.int w78), some (.int a4), some (.int a4), some (.int w78), none, none] xi_243 dX12_chance_195 rfl ?_
              simp only [Option.some.injEq, Prod.mk.injEq] at H
              obtain ⟨rfl, rfl, rfl⟩ := H
              exact Wp.more (by simp [xMore, Value.category]) K55
          clear H
          have H := G99
          clear G99
          refine wp_icmp_ne 184 xi_243 dX12_chance_76 rfl (fun c60 => ?_) (fun c60 => ?_)
          · rw [if_neg c60] at H
            simp only [Option.some.injEq, Prod.mk.injEq] at H
            obtain ⟨rfl, rfl⟩ := H
            exact Wp.more (by simp [xMore, Value.category]) K80
          · rw [if_pos c60] at H
            refine wp_aload_n xi_243 dX12_chance_79 rfl ?_
            obtain ⟨x81, gx81, H⟩ := Option.bind_eq_some_iff.mp H
            refine wq_getfr xi_243 dX12_chance_80 xf_12_24 gx81 ?_
            refine wp_aload_n xi_243 dX12_chance_83 rfl ?_
            obtain ⟨x82, gx82, H⟩ := Option.bind_eq_some_iff.mp H
            refine wq_getfr xi_243 dX12_chance_84 xf_12_64 gx82 ?_
            obtain ⟨h83, gh83, H⟩ := Option.bind_eq_some_iff.mp H
            refine wq_callS (as := [.ref x81, .ref x82]) (r := []) (v1 := none) xi_243 xi_168 dX12_chance_87 xm_12_259 rfl (Nat.le_of_ble_eq_true rfl) ⟨(Nat.le_of_ble_eq_true rfl), (Nat.le_of_ble_eq_true rfl)⟩ rfl nofun (e_168 (d + 41) _ gh83 ⟨rfl, rfl⟩) ?_
            change Wp _ _ _ _ [] _ _
            refine wp_aload_n xi_243 dX12_chance_90 rfl ?_
            refine wp_aload_n xi_243 dX12_chance_91 rfl ?_
            obtain ⟨x84, gx84, H⟩ := Option.bind_eq_some_iff.mp H
            refine wq_getfr xi_243 dX12_chance_92 xf_12_64 gx84 ?_
            refine wp_iload xi_243 dX12_chance_95 rfl ?_
            obtain ⟨u85, gu85, H⟩ := Option.bind_eq_some_iff.mp H
            obtain ⟨⟨x87, h86⟩, gh86, H⟩ := Option.bind_eq_some_iff.mp H
            dsimp only at H
            refine wq_callV (a := a0) (as := [.ref x84, .int a4]) (r := []) (v1 := (some (.int x87))) xi_243 xi_203 dX12_chance_97 xm_12_295 rfl (Nat.le_of_ble_eq_true rfl) (pG_ok gu85) ⟨(Nat.le_of_ble_eq_true rfl), (Nat.le_of_ble_eq_true rfl)⟩ rfl nofun (e_203 (d + 38) _ gh86 ⟨rfl, rfl⟩) ?_
            change Wp _ _ _ _ [.int x87] _ _
            refine wp_pop xi_243 dX12_chance_100 rfl ?_
            refine wp_aload_n xi_243 dX12_chance_101 rfl ?_
            obtain ⟨x88, gx88, H⟩ := Option.bind_eq_some_iff.mp H
            refine wq_getfr xi_243 dX12_chance_102 xf_12_64 gx88 ?_
            refine wp_bipush 49 xi_243 dX12_chance_105 rfl ?_
            refine wp_aload_n xi_243 dX12_chance_107 rfl ?_
            obtain ⟨x89, gx89, H⟩ := Option.bind_eq_some_iff.mp H
            refine wq_getfr xi_243 dX12_chance_108 xf_12_24 gx89 ?_
            refine wp_bipush 49 xi_243 dX12_chance_111 rfl ?_
            obtain ⟨x90, gx90, H⟩ := Option.bind_eq_some_iff.mp H
            refine wq_iaload xi_243 dX12_chance_113 gx90 ?_
            refine wp_iconst 1 xi_243 dX12_chance_114 rfl ?_
            refine wp_iadd xi_243 dX12_chance_115 ?_
            refine wp_aload_n xi_243 dX12_chance_116 rfl ?_
            obtain ⟨x91, gx91, H⟩ := Option.bind_eq_some_iff.mp H
            refine wq_getfi xi_243 dX12_chance_117 xf_12_34 gx91 ?_
            obtain ⟨x92, gx92, H⟩ := Option.bind_eq_some_iff.mp H
            refine wq_irem xi_243 dX12_chance_120 gx92 ?_
            obtain ⟨h93, gh93, H⟩ := Option.bind_eq_some_iff.mp H
            refine wq_iastore xi_243 dX12_chance_121 gh93 ?_
            refine wp_iconst 0 xi_243 dX12_chance_122 rfl ?_
            refine wp_istore [some (.ref a0), some (.int a1), some (.int a2), some (.int a3), some (.int a4), some (.int x59), some (.int 0), none] xi_243 dX12_chance_123 rfl ?_
            refine wp_iconst 0 xi_243 dX12_chance_125 rfl ?_
            refine wp_istore [some (.ref a0), some (.int a1), some (.int a2), some (.int a3), some (.int a4), some (.int x59), some (.int 0), some (.int 0)] xi_243 dX12_chance_126 rfl ?_
            obtain ⟨⟨w95, h94⟩, G96, H⟩ := Option.bind_eq_some_iff.mp H
            dsimp only at H
            refine Wp.more (by simp [xMore, Value.category]) (ef_243_128 d Q  100000 a0 a1 a2 a3 a4 x59 0 0 h93 _ G96 (fun z0 z1 e9 => ?_))
            cases e9
            refine wp_iload xi_243 dX12_chance_177 rfl ?_
            refine wp_iload xi_243 dX12_chance_179 rfl ?_
            refine wp_imul xi_243 dX12_chance_181 ?_
            refine wp_istore [some (.ref a0), some (.int a1), some (.int a2), some (.int a3), some (.int a4), some (.int (x59 * w95)), some (.int w95), none] xi_243 dX12_chance_182 rfl ?_
            simp only [Option.some.injEq, Prod.mk.injEq] at H
            obtain ⟨rfl, rfl⟩ := H
            exact Wp.more (by simp [xMore, Value.category]) K80
        · rw [if_pos c7] at H
          refine wp_goto 196 xi_243 dX12_chance_59 rfl ?_
          simp only [Option.some.injEq, Prod.mk.injEq] at H
          obtain ⟨rfl, rfl, rfl⟩ := H
          exact Wp.more (by simp [xMore, Value.category]) K55
def f_243  (a : Nat) (p0 : Int32) (h : xH) : Option (Int32 × xH) :=
  (pP h a 12 0 (.int 0)).bind fun h1 =>
  (f_162 ((p0 : Int32).toInt64) (0 : Int64) (2 : Int64) h1).bind fun (x3, h2) =>
  (if x3 = 0 then
  some ((-1), h2)
  else
  ((if p0 = 0 then
  some (1)
  else
  some (0) : Option (Int32))).bind fun (w6 : Int32) =>
  (f_243_34 100000 a p0 w6 (-1) 0 h2).bind fun (w9, w10, h8) =>
  ((if p0 = 0 then
  some (1)
  else
  (if p0 = 1 then
  some (100)
  else
  some (10000)) : Option (Int32))).bind fun (w15 : Int32) =>
  (f_164 ((w9 : Int32).toInt64) ((w15 : Int32).toInt64) h8).bind fun (x19, h18) =>
  (pP h18 a 12 1 (.int 0)).bind fun h20 =>
  (pDivL ((w9 : Int32).toInt64) x19).bind fun x21 =>
  (pG (pIs h20 a 12)).bind fun _ =>
  (f_165 a x21 h20).bind fun h23 =>
  (pDivL ((w15 : Int32).toInt64) x19).bind fun x24 =>
  (pG (pIs h23 a 12)).bind fun _ =>
  (f_165 a x24 h23).bind fun h26 =>
  (pG (pIs h26 a 12)).bind fun _ =>
  (f_165 a ((w10 : Int32).toInt64) h26).bind fun h28 =>
  some (0, h28))
set_option maxHeartbeats 4000000 in
theorem e_243 (d : Nat) (Q : Option Value → xH → Prop)  {h : xH} {a : Nat} {p0 : Int32} {x : Int32} {h1 : xH} (H : f_243  a p0 h = some (x, h1)) (hq : Q (some (.int x)) h1) : Wp (d + 42) 243 0 [some (.ref a), some (.int p0), none, none, none, none, none, none] [] h Q := by
  unfold f_243 at H
  refine wp_aload_n xi_243 dX12_chance_0 rfl ?_
  refine wp_iconst 0 xi_243 dX12_chance_1 rfl ?_
  obtain ⟨h1, gh1, H⟩ := Option.bind_eq_some_iff.mp H
  refine wq_putf xi_243 dX12_chance_2 xf_12_3 (Or.inl rfl) gh1 ?_
  refine wp_iload_n xi_243 dX12_chance_5 rfl ?_
  refine wp_i2l xi_243 dX12_chance_6 ?_
  refine wp_lconst 0 xi_243 dX12_chance_7 rfl ?_
  refine wp_ldc2 xi_243 dX12_chance_8 xl_12_396 ?_
  obtain ⟨⟨x3, h2⟩, gh2, H⟩ := Option.bind_eq_some_iff.mp H
  dsimp only at H
  refine wq_callS (as := [.long ((p0 : Int32).toInt64), .long (0 : Int64), .long (2 : Int64)]) (r := []) (v1 := (some (.int x3))) xi_243 xi_162 dX12_chance_11 xm_12_135 rfl (Nat.le_of_ble_eq_true rfl) ⟨(Nat.le_of_ble_eq_true rfl), (Nat.le_of_ble_eq_true rfl)⟩ rfl nofun (e_162 (d + 41) _ gh2 ⟨rfl, rfl⟩) ?_
  change Wp _ _ _ _ [.int x3] _ _
  refine wp_if_ne 19 xi_243 dX12_chance_14 rfl (fun c4 => ?_) (fun c4 => ?_)
  · rw [if_neg c4] at H
    refine wp_iload_n xi_243 dX12_chance_19 rfl ?_
    obtain ⟨w6, G30, H⟩ := Option.bind_eq_some_iff.mp H
    have K7 : Wp (d + 42) 243 28 [some (.ref a), some (.int p0), none, none, none, none, none, none] [.int w6] h2 Q := by
      refine wp_istore_n [some (.ref a), some (.int p0), some (.int w6), none, none, none, none, none] xi_243 dX12_chance_28 rfl ?_
      refine wp_iconst (-1) xi_243 dX12_chance_29 rfl ?_
      refine wp_istore_n [some (.ref a), some (.int p0), some (.int w6), some (.int (-1)), none, none, none, none] xi_243 dX12_chance_30 rfl ?_
      refine wp_iconst 0 xi_243 dX12_chance_31 rfl ?_
      refine wp_istore [some (.ref a), some (.int p0), some (.int w6), some (.int (-1)), some (.int 0), none, none, none] xi_243 dX12_chance_32 rfl ?_
      obtain ⟨⟨w9, w10, h8⟩, G11, H⟩ := Option.bind_eq_some_iff.mp H
      dsimp only at H
      refine Wp.more (by simp [xMore, Value.category]) (ef_243_34 d Q  100000 a p0 w6 (-1) 0 h2 _ G11 (fun z0 z1 z2 e9 => ?_))
      cases e9
      refine wp_iload_n xi_243 dX12_chance_202 rfl ?_
      obtain ⟨w15, G29, H⟩ := Option.bind_eq_some_iff.mp H
      have K16 : Wp (d + 42) 243 223 [some (.ref a), some (.int p0), some (.int w9), some (.int w10), none, none, none, none] [.int w15] h8 Q := by
        refine wp_istore [some (.ref a), some (.int p0), some (.int w9), some (.int w10), some (.int w15), none, none, none] xi_243 dX12_chance_223 rfl ?_
        refine wp_iload_n xi_243 dX12_chance_225 rfl ?_
        refine wp_i2l xi_243 dX12_chance_226 ?_
        refine wp_iload xi_243 dX12_chance_227 rfl ?_
        refine wp_i2l xi_243 dX12_chance_229 ?_
        obtain ⟨⟨x19, h18⟩, gh18, H⟩ := Option.bind_eq_some_iff.mp H
        dsimp only at H
        refine wq_callS (as := [.long ((w9 : Int32).toInt64), .long ((w15 : Int32).toInt64)]) (r := []) (v1 := (some (.long x19))) xi_243 xi_164 dX12_chance_230 xm_12_7 rfl (Nat.le_of_ble_eq_true rfl) ⟨(Nat.le_of_ble_eq_true rfl), (Nat.le_of_ble_eq_true rfl)⟩ rfl nofun (e_164 d _ gh18 ⟨rfl, rfl⟩) ?_
        change Wp _ _ _ _ [.long x19] _ _
        refine wp_lstore [some (.ref a), some (.int p0), some (.int w9), some (.int w10), some (.int w15), some (.long x19), none, none] xi_243 dX12_chance_233 rfl ?_
        refine wp_aload_n xi_243 dX12_chance_235 rfl ?_
        refine wp_iconst 0 xi_243 dX12_chance_236 rfl ?_
        obtain ⟨h20, gh20, H⟩ := Option.bind_eq_some_iff.mp H
        refine wq_putf xi_243 dX12_chance_237 xf_12_15 (Or.inl rfl) gh20 ?_
        refine wp_aload_n xi_243 dX12_chance_240 rfl ?_
        refine wp_iload_n xi_243 dX12_chance_241 rfl ?_
        refine wp_i2l xi_243 dX12_chance_242 ?_
        refine wp_lload xi_243 dX12_chance_243 rfl ?_
        obtain ⟨x21, gx21, H⟩ := Option.bind_eq_some_iff.mp H
        refine wq_ldiv xi_243 dX12_chance_245 gx21 ?_
        obtain ⟨u22, gu22, H⟩ := Option.bind_eq_some_iff.mp H
        obtain ⟨h23, gh23, H⟩ := Option.bind_eq_some_iff.mp H
        refine wq_callV (a := a) (as := [.long x21]) (r := []) (v1 := none) xi_243 xi_165 dX12_chance_246 xm_12_279 rfl (Nat.le_of_ble_eq_true rfl) (pG_ok gu22) ⟨(Nat.le_of_ble_eq_true rfl), (Nat.le_of_ble_eq_true rfl)⟩ rfl nofun (e_165 (d + 41) _ gh23 ⟨rfl, rfl⟩) ?_
        change Wp _ _ _ _ [] _ _
        refine wp_aload_n xi_243 dX12_chance_249 rfl ?_
        refine wp_iload xi_243 dX12_chance_250 rfl ?_
        refine wp_i2l xi_243 dX12_chance_252 ?_
        refine wp_lload xi_243 dX12_chance_253 rfl ?_
        obtain ⟨x24, gx24, H⟩ := Option.bind_eq_some_iff.mp H
        refine wq_ldiv xi_243 dX12_chance_255 gx24 ?_
        obtain ⟨u25, gu25, H⟩ := Option.bind_eq_some_iff.mp H
        obtain ⟨h26, gh26, H⟩ := Option.bind_eq_some_iff.mp H
        refine wq_callV (a := a) (as := [.long x24]) (r := []) (v1 := none) xi_243 xi_165 dX12_chance_256 xm_12_279 rfl (Nat.le_of_ble_eq_true rfl) (pG_ok gu25) ⟨(Nat.le_of_ble_eq_true rfl), (Nat.le_of_ble_eq_true rfl)⟩ rfl nofun (e_165 (d + 41) _ gh26 ⟨rfl, rfl⟩) ?_
        change Wp _ _ _ _ [] _ _
        refine wp_aload_n xi_243 dX12_chance_259 rfl ?_
        refine wp_iload_n xi_243 dX12_chance_260 rfl ?_
        refine wp_i2l xi_243 dX12_chance_261 ?_
        obtain ⟨u27, gu27, H⟩ := Option.bind_eq_some_iff.mp H
        obtain ⟨h28, gh28, H⟩ := Option.bind_eq_some_iff.mp H
        refine wq_callV (a := a) (as := [.long ((w10 : Int32).toInt64)]) (r := []) (v1 := none) xi_243 xi_165 dX12_chance_262 xm_12_279 rfl (Nat.le_of_ble_eq_true rfl) (pG_ok gu27) ⟨(Nat.le_of_ble_eq_true rfl), (Nat.le_of_ble_eq_true rfl)⟩ rfl nofun (e_165 (d + 41) _ gh28 ⟨rfl, rfl⟩) ?_
        change Wp _ _ _ _ [] _ _
        refine wp_iconst 0 xi_243 dX12_chance_265 rfl ?_
        obtain ⟨rfl, rfl⟩ := oi2 H
        exact wp_iret xi_243 dX12_chance_266 hq
      clear H
      have H := G29
      clear G29
      refine wp_if_ne 210 xi_243 dX12_chance_203 rfl (fun c13 => ?_) (fun c13 => ?_)
      · rw [if_neg c13] at H
        refine wp_iload_n xi_243 dX12_chance_210 rfl ?_
        refine wp_iconst 1 xi_243 dX12_chance_211 rfl ?_
        refine wp_icmp_ne 220 xi_243 dX12_chance_212 rfl (fun c17 => ?_) (fun c17 => ?_)
        · rw [if_neg c17] at H
          refine wp_sipush 10000 xi_243 dX12_chance_220 rfl ?_
          obtain rfl := Option.some.inj H
          exact Wp.more (by simp [xMore, Value.category]) K16
        · rw [if_pos c17] at H
          refine wp_bipush 100 xi_243 dX12_chance_215 rfl ?_
          refine wp_goto 223 xi_243 dX12_chance_217 rfl ?_
          obtain rfl := Option.some.inj H
          exact Wp.more (by simp [xMore, Value.category]) K16
      · rw [if_pos c13] at H
        refine wp_iconst 1 xi_243 dX12_chance_206 rfl ?_
        refine wp_goto 223 xi_243 dX12_chance_207 rfl ?_
        obtain rfl := Option.some.inj H
        exact Wp.more (by simp [xMore, Value.category]) K16
    clear H
    have H := G30
    clear G30
    refine wp_if_ne 27 xi_243 dX12_chance_20 rfl (fun c5 => ?_) (fun c5 => ?_)
    · rw [if_neg c5] at H
      refine wp_iconst 0 xi_243 dX12_chance_27 rfl ?_
      obtain rfl := Option.some.inj H
      exact Wp.more (by simp [xMore, Value.category]) K7
    · rw [if_pos c5] at H
      refine wp_iconst 1 xi_243 dX12_chance_23 rfl ?_
      refine wp_goto 28 xi_243 dX12_chance_24 rfl ?_
      obtain rfl := Option.some.inj H
      exact Wp.more (by simp [xMore, Value.category]) K7
  · rw [if_pos c4] at H
    refine wp_iconst (-1) xi_243 dX12_chance_17 rfl ?_
    obtain ⟨rfl, rfl⟩ := oi2 H
    exact wp_iret xi_243 dX12_chance_18 hq
/- FelledHasLost$Tower.<init>()V -/
def f_84  (a : Nat) (h : xH) : Option (xH) :=
  (pNi h 48).bind fun (x1, h2) =>
  (pP h2 a 10 0 (.ref x1)).bind fun h3 =>
  (pNi h3 16).bind fun (x4, h5) =>
  (pP h5 a 10 1 (.ref x4)).bind fun h6 =>
  (pNi h6 16).bind fun (x7, h8) =>
  (pP h8 a 10 2 (.ref x7)).bind fun h9 =>
  (pNi h9 16).bind fun (x10, h11) =>
  (pP h11 a 10 3 (.ref x10)).bind fun h12 =>
  (pFr h12 a 10 0).bind fun x13 =>
  (f_266 x13 (-1) h12).bind fun h14 =>
  some h14
set_option maxHeartbeats 4000000 in
theorem e_84 (d : Nat) (Q : Option Value → xH → Prop)  {h : xH} {a : Nat} {h1 : xH} (H : f_84  a h = some h1) (hq : Q none h1) : Wp (d + 1) 84 0 [some (.ref a)] [] h Q := by
  unfold f_84 at H
  refine wp_aload_n xi_84 dX10_init_0 rfl ?_
  refine wq_objI xi_84 dX10_init_1 xm_10_3 (Nat.le_of_ble_eq_true rfl) ?_
  refine wp_aload_n xi_84 dX10_init_4 rfl ?_
  refine wp_bipush 48 xi_84 dX10_init_5 rfl ?_
  obtain ⟨⟨x1, h2⟩, gx1, H⟩ := Option.bind_eq_some_iff.mp H
  dsimp only at H
  refine wq_newi xi_84 dX10_init_7 gx1 ?_
  obtain ⟨h3, gh3, H⟩ := Option.bind_eq_some_iff.mp H
  refine wq_putf xi_84 dX10_init_9 xf_10_9 (Or.inr ⟨rfl, rfl, rfl⟩) gh3 ?_
  refine wp_aload_n xi_84 dX10_init_12 rfl ?_
  refine wp_bipush 16 xi_84 dX10_init_13 rfl ?_
  obtain ⟨⟨x4, h5⟩, gx4, H⟩ := Option.bind_eq_some_iff.mp H
  dsimp only at H
  refine wq_newi xi_84 dX10_init_15 gx4 ?_
  obtain ⟨h6, gh6, H⟩ := Option.bind_eq_some_iff.mp H
  refine wq_putf xi_84 dX10_init_17 xf_10_15 (Or.inr ⟨rfl, rfl, rfl⟩) gh6 ?_
  refine wp_aload_n xi_84 dX10_init_20 rfl ?_
  refine wp_bipush 16 xi_84 dX10_init_21 rfl ?_
  obtain ⟨⟨x7, h8⟩, gx7, H⟩ := Option.bind_eq_some_iff.mp H
  dsimp only at H
  refine wq_newi xi_84 dX10_init_23 gx7 ?_
  obtain ⟨h9, gh9, H⟩ := Option.bind_eq_some_iff.mp H
  refine wq_putf xi_84 dX10_init_25 xf_10_18 (Or.inr ⟨rfl, rfl, rfl⟩) gh9 ?_
  refine wp_aload_n xi_84 dX10_init_28 rfl ?_
  refine wp_bipush 16 xi_84 dX10_init_29 rfl ?_
  obtain ⟨⟨x10, h11⟩, gx10, H⟩ := Option.bind_eq_some_iff.mp H
  dsimp only at H
  refine wq_newi xi_84 dX10_init_31 gx10 ?_
  obtain ⟨h12, gh12, H⟩ := Option.bind_eq_some_iff.mp H
  refine wq_putf xi_84 dX10_init_33 xf_10_21 (Or.inr ⟨rfl, rfl, rfl⟩) gh12 ?_
  refine wp_aload_n xi_84 dX10_init_36 rfl ?_
  obtain ⟨x13, gx13, H⟩ := Option.bind_eq_some_iff.mp H
  refine wq_getfr xi_84 dX10_init_37 xf_10_9 gx13 ?_
  refine wp_iconst (-1) xi_84 dX10_init_40 rfl ?_
  obtain ⟨h14, gh14, H⟩ := Option.bind_eq_some_iff.mp H
  refine wq_callS (as := [.ref x13, .int (-1)]) (r := []) (v1 := none) xi_84 xi_266 dX10_init_41 xm_10_24 rfl (Nat.le_of_ble_eq_true rfl) ⟨(Nat.le_of_ble_eq_true rfl), (Nat.le_of_ble_eq_true rfl)⟩ rfl nofun (e_266 d _ gh14 ⟨rfl, rfl⟩) ?_
  change Wp _ _ _ _ [] _ _
  obtain rfl := Option.some.inj H
  exact wp_vret xi_84 dX10_init_44 hq
/- FelledHasLostModel.<init>()V -/
def f_166  (a : Nat) (h : xH) : Option (xH) :=
  (pNl h 24).bind fun (x1, h2) =>
  (pP h2 a 12 2 (.ref x1)).bind fun h3 =>
  (pNi h3 54).bind fun (x4, h5) =>
  (pP h5 a 12 3 (.ref x4)).bind fun h6 =>
  (pNi h6 54).bind fun (x7, h8) =>
  (pP h8 a 12 4 (.ref x7)).bind fun h9 =>
  (pNi h9 4).bind fun (x10, h11) =>
  (pSi h11 x10 0 1).bind fun h12 =>
  (pSi h12 x10 1 1).bind fun h13 =>
  (pSi h13 x10 2 0).bind fun h14 =>
  (pSi h14 x10 3 0).bind fun h15 =>
  (pP h15 a 12 5 (.ref x10)).bind fun h16 =>
  (pP h16 a 12 6 (.int 2)).bind fun h17 =>
  (pNi h17 80).bind fun (x18, h19) =>
  (pP h19 a 12 9 (.ref x18)).bind fun h20 =>
  (pNi h20 48).bind fun (x21, h22) =>
  (pP h22 a 12 14 (.ref x21)).bind fun h23 =>
  (pNi h23 80).bind fun (x24, h25) =>
  (pP h25 a 12 15 (.ref x24)).bind fun h26 =>
  (pNi h26 80).bind fun (x27, h28) =>
  (pP h28 a 12 16 (.ref x27)).bind fun h29 =>
  (pNi h29 80).bind fun (x30, h31) =>
  (pP h31 a 12 19 (.ref x30)).bind fun h32 =>
  (pNi h32 16).bind fun (x33, h34) =>
  (pP h34 a 12 20 (.ref x33)).bind fun h35 =>
  (pNi h35 16).bind fun (x36, h37) =>
  (pP h37 a 12 21 (.ref x36)).bind fun h38 =>
  (pNi h38 16).bind fun (x39, h40) =>
  (pP h40 a 12 22 (.ref x39)).bind fun h41 =>
  (pNi h41 54).bind fun (x42, h43) =>
  (pP h43 a 12 24 (.ref x42)).bind fun h44 =>
  (pNi h44 54).bind fun (x45, h46) =>
  (pP h46 a 12 27 (.ref x45)).bind fun h47 =>
  (pNi h47 864).bind fun (x48, h49) =>
  (pP h49 a 12 29 (.ref x48)).bind fun h50 =>
  (pNi h50 70).bind fun (x51, h52) =>
  (pP h52 a 12 30 (.ref x51)).bind fun h53 =>
  (pNi h53 21600).bind fun (x54, h55) =>
  (pP h55 a 12 32 (.ref x54)).bind fun h56 =>
  (pNi h56 400).bind fun (x57, h58) =>
  (pP h58 a 12 33 (.ref x57)).bind fun h59 =>
  (pNi h59 400).bind fun (x60, h61) =>
  (pP h61 a 12 34 (.ref x60)).bind fun h62 =>
  (pNi h62 400).bind fun (x63, h64) =>
  (pP h64 a 12 35 (.ref x63)).bind fun h65 =>
  (pNi h65 2048).bind fun (x66, h67) =>
  (pP h67 a 12 36 (.ref x66)).bind fun h68 =>
  (pNi h68 54).bind fun (x69, h70) =>
  (pP h70 a 12 39 (.ref x69)).bind fun h71 =>
  (pNi h71 400).bind fun (x72, h73) =>
  (pP h73 a 12 40 (.ref x72)).bind fun h74 =>
  (pNi h74 400).bind fun (x75, h76) =>
  (pP h76 a 12 41 (.ref x75)).bind fun h77 =>
  (pNi h77 400).bind fun (x78, h79) =>
  (pP h79 a 12 42 (.ref x78)).bind fun h80 =>
  (pNi h80 4).bind fun (x81, h82) =>
  (pP h82 a 12 43 (.ref x81)).bind fun h83 =>
  (pNi h83 20).bind fun (x84, h85) =>
  (pP h85 a 12 45 (.ref x84)).bind fun h86 =>
  (pNi h86 20).bind fun (x87, h88) =>
  (pP h88 a 12 46 (.ref x87)).bind fun h89 =>
  (pNi h89 48).bind fun (x90, h91) =>
  (pP h91 a 12 47 (.ref x90)).bind fun h92 =>
  (pNi h92 48).bind fun (x93, h94) =>
  (pP h94 a 12 48 (.ref x93)).bind fun h95 =>
  (pNi h95 1000).bind fun (x96, h97) =>
  (pP h97 a 12 49 (.ref x96)).bind fun h98 =>
  (pNb h98 3).bind fun (x99, h100) =>
  (pP h100 a 12 51 (.ref x99)).bind fun h101 =>
  (pNi h101 162).bind fun (x102, h103) =>
  (pP h103 a 12 52 (.ref x102)).bind fun h104 =>
  (pFr h104 a 12 3).bind fun x105 =>
  (f_167 x105 h104).bind fun h106 =>
  (pG (pIs h106 a 12)).bind fun _ =>
  (f_245 a h106).bind fun (x109, h108) =>
  some h108
set_option maxHeartbeats 4000000 in
theorem e_166 (d : Nat) (Q : Option Value → xH → Prop)  {h : xH} {a : Nat} {h1 : xH} (H : f_166  a h = some h1) (hq : Q none h1) : Wp (d + 1) 166 0 [some (.ref a)] [] h Q := by
  unfold f_166 at H
  refine wp_aload_n xi_166 dX12_init_0 rfl ?_
  refine wq_objI xi_166 dX12_init_1 xm_12_18 (Nat.le_of_ble_eq_true rfl) ?_
  refine wp_aload_n xi_166 dX12_init_4 rfl ?_
  refine wp_bipush 24 xi_166 dX12_init_5 rfl ?_
  obtain ⟨⟨x1, h2⟩, gx1, H⟩ := Option.bind_eq_some_iff.mp H
  dsimp only at H
  refine wq_newl xi_166 dX12_init_7 gx1 ?_
  obtain ⟨h3, gh3, H⟩ := Option.bind_eq_some_iff.mp H
  refine wq_putf xi_166 dX12_init_9 xf_12_11 (Or.inr ⟨rfl, rfl, rfl⟩) gh3 ?_
  refine wp_aload_n xi_166 dX12_init_12 rfl ?_
  refine wp_bipush 54 xi_166 dX12_init_13 rfl ?_
  obtain ⟨⟨x4, h5⟩, gx4, H⟩ := Option.bind_eq_some_iff.mp H
  dsimp only at H
  refine wq_newi xi_166 dX12_init_15 gx4 ?_
  obtain ⟨h6, gh6, H⟩ := Option.bind_eq_some_iff.mp H
  refine wq_putf xi_166 dX12_init_17 xf_12_24 (Or.inr ⟨rfl, rfl, rfl⟩) gh6 ?_
  refine wp_aload_n xi_166 dX12_init_20 rfl ?_
  refine wp_bipush 54 xi_166 dX12_init_21 rfl ?_
  obtain ⟨⟨x7, h8⟩, gx7, H⟩ := Option.bind_eq_some_iff.mp H
  dsimp only at H
  refine wq_newi xi_166 dX12_init_23 gx7 ?_
  obtain ⟨h9, gh9, H⟩ := Option.bind_eq_some_iff.mp H
  refine wq_putf xi_166 dX12_init_25 xf_12_28 (Or.inr ⟨rfl, rfl, rfl⟩) gh9 ?_
  refine wp_aload_n xi_166 dX12_init_28 rfl ?_
  refine wp_iconst 4 xi_166 dX12_init_29 rfl ?_
  obtain ⟨⟨x10, h11⟩, gx10, H⟩ := Option.bind_eq_some_iff.mp H
  dsimp only at H
  refine wq_newi xi_166 dX12_init_30 gx10 ?_
  refine wp_dup xi_166 dX12_init_32 rfl ?_
  refine wp_iconst 0 xi_166 dX12_init_33 rfl ?_
  refine wp_iconst 1 xi_166 dX12_init_34 rfl ?_
  obtain ⟨h12, gh12, H⟩ := Option.bind_eq_some_iff.mp H
  refine wq_iastore xi_166 dX12_init_35 gh12 ?_
  refine wp_dup xi_166 dX12_init_36 rfl ?_
  refine wp_iconst 1 xi_166 dX12_init_37 rfl ?_
  refine wp_iconst 1 xi_166 dX12_init_38 rfl ?_
  obtain ⟨h13, gh13, H⟩ := Option.bind_eq_some_iff.mp H
  refine wq_iastore xi_166 dX12_init_39 gh13 ?_
  refine wp_dup xi_166 dX12_init_40 rfl ?_
  refine wp_iconst 2 xi_166 dX12_init_41 rfl ?_
  refine wp_iconst 0 xi_166 dX12_init_42 rfl ?_
  obtain ⟨h14, gh14, H⟩ := Option.bind_eq_some_iff.mp H
  refine wq_iastore xi_166 dX12_init_43 gh14 ?_
  refine wp_dup xi_166 dX12_init_44 rfl ?_
  refine wp_iconst 3 xi_166 dX12_init_45 rfl ?_
  refine wp_iconst 0 xi_166 dX12_init_46 rfl ?_
  obtain ⟨h15, gh15, H⟩ := Option.bind_eq_some_iff.mp H
  refine wq_iastore xi_166 dX12_init_47 gh15 ?_
  obtain ⟨h16, gh16, H⟩ := Option.bind_eq_some_iff.mp H
  refine wq_putf xi_166 dX12_init_48 xf_12_31 (Or.inr ⟨rfl, rfl, rfl⟩) gh16 ?_
  refine wp_aload_n xi_166 dX12_init_51 rfl ?_
  refine wp_iconst 2 xi_166 dX12_init_52 rfl ?_
  obtain ⟨h17, gh17, H⟩ := Option.bind_eq_some_iff.mp H
  refine wq_putf xi_166 dX12_init_53 xf_12_34 (Or.inl rfl) gh17 ?_
  refine wp_aload_n xi_166 dX12_init_56 rfl ?_
  refine wp_bipush 80 xi_166 dX12_init_57 rfl ?_
  obtain ⟨⟨x18, h19⟩, gx18, H⟩ := Option.bind_eq_some_iff.mp H
  dsimp only at H
  refine wq_newi xi_166 dX12_init_59 gx18 ?_
  obtain ⟨h20, gh20, H⟩ := Option.bind_eq_some_iff.mp H
  refine wq_putf xi_166 dX12_init_61 xf_12_37 (Or.inr ⟨rfl, rfl, rfl⟩) gh20 ?_
  refine wp_aload_n xi_166 dX12_init_64 rfl ?_
  refine wp_bipush 48 xi_166 dX12_init_65 rfl ?_
  obtain ⟨⟨x21, h22⟩, gx21, H⟩ := Option.bind_eq_some_iff.mp H
  dsimp only at H
  refine wq_newi xi_166 dX12_init_67 gx21 ?_
  obtain ⟨h23, gh23, H⟩ := Option.bind_eq_some_iff.mp H
  refine wq_putf xi_166 dX12_init_69 xf_12_40 (Or.inr ⟨rfl, rfl, rfl⟩) gh23 ?_
  refine wp_aload_n xi_166 dX12_init_72 rfl ?_
  refine wp_bipush 80 xi_166 dX12_init_73 rfl ?_
  obtain ⟨⟨x24, h25⟩, gx24, H⟩ := Option.bind_eq_some_iff.mp H
  dsimp only at H
  refine wq_newi xi_166 dX12_init_75 gx24 ?_
  obtain ⟨h26, gh26, H⟩ := Option.bind_eq_some_iff.mp H
  refine wq_putf xi_166 dX12_init_77 xf_12_43 (Or.inr ⟨rfl, rfl, rfl⟩) gh26 ?_
  refine wp_aload_n xi_166 dX12_init_80 rfl ?_
  refine wp_bipush 80 xi_166 dX12_init_81 rfl ?_
  obtain ⟨⟨x27, h28⟩, gx27, H⟩ := Option.bind_eq_some_iff.mp H
  dsimp only at H
  refine wq_newi xi_166 dX12_init_83 gx27 ?_
  obtain ⟨h29, gh29, H⟩ := Option.bind_eq_some_iff.mp H
  refine wq_putf xi_166 dX12_init_85 xf_12_46 (Or.inr ⟨rfl, rfl, rfl⟩) gh29 ?_
  refine wp_aload_n xi_166 dX12_init_88 rfl ?_
  refine wp_bipush 80 xi_166 dX12_init_89 rfl ?_
  obtain ⟨⟨x30, h31⟩, gx30, H⟩ := Option.bind_eq_some_iff.mp H
  dsimp only at H
  refine wq_newi xi_166 dX12_init_91 gx30 ?_
  obtain ⟨h32, gh32, H⟩ := Option.bind_eq_some_iff.mp H
  refine wq_putf xi_166 dX12_init_93 xf_12_49 (Or.inr ⟨rfl, rfl, rfl⟩) gh32 ?_
  refine wp_aload_n xi_166 dX12_init_96 rfl ?_
  refine wp_bipush 16 xi_166 dX12_init_97 rfl ?_
  obtain ⟨⟨x33, h34⟩, gx33, H⟩ := Option.bind_eq_some_iff.mp H
  dsimp only at H
  refine wq_newi xi_166 dX12_init_99 gx33 ?_
  obtain ⟨h35, gh35, H⟩ := Option.bind_eq_some_iff.mp H
  refine wq_putf xi_166 dX12_init_101 xf_12_52 (Or.inr ⟨rfl, rfl, rfl⟩) gh35 ?_
  refine wp_aload_n xi_166 dX12_init_104 rfl ?_
  refine wp_bipush 16 xi_166 dX12_init_105 rfl ?_
  obtain ⟨⟨x36, h37⟩, gx36, H⟩ := Option.bind_eq_some_iff.mp H
  dsimp only at H
  refine wq_newi xi_166 dX12_init_107 gx36 ?_
  obtain ⟨h38, gh38, H⟩ := Option.bind_eq_some_iff.mp H
  refine wq_putf xi_166 dX12_init_109 xf_12_55 (Or.inr ⟨rfl, rfl, rfl⟩) gh38 ?_
  refine wp_aload_n xi_166 dX12_init_112 rfl ?_
  refine wp_bipush 16 xi_166 dX12_init_113 rfl ?_
  obtain ⟨⟨x39, h40⟩, gx39, H⟩ := Option.bind_eq_some_iff.mp H
  dsimp only at H
  refine wq_newi xi_166 dX12_init_115 gx39 ?_
  obtain ⟨h41, gh41, H⟩ := Option.bind_eq_some_iff.mp H
  refine wq_putf xi_166 dX12_init_117 xf_12_58 (Or.inr ⟨rfl, rfl, rfl⟩) gh41 ?_
  refine wp_aload_n xi_166 dX12_init_120 rfl ?_
  refine wp_bipush 54 xi_166 dX12_init_121 rfl ?_
  obtain ⟨⟨x42, h43⟩, gx42, H⟩ := Option.bind_eq_some_iff.mp H
  dsimp only at H
  refine wq_newi xi_166 dX12_init_123 gx42 ?_
  obtain ⟨h44, gh44, H⟩ := Option.bind_eq_some_iff.mp H
  refine wq_putf xi_166 dX12_init_125 xf_12_61 (Or.inr ⟨rfl, rfl, rfl⟩) gh44 ?_
  refine wp_aload_n xi_166 dX12_init_128 rfl ?_
  refine wp_bipush 54 xi_166 dX12_init_129 rfl ?_
  obtain ⟨⟨x45, h46⟩, gx45, H⟩ := Option.bind_eq_some_iff.mp H
  dsimp only at H
  refine wq_newi xi_166 dX12_init_131 gx45 ?_
  obtain ⟨h47, gh47, H⟩ := Option.bind_eq_some_iff.mp H
  refine wq_putf xi_166 dX12_init_133 xf_12_64 (Or.inr ⟨rfl, rfl, rfl⟩) gh47 ?_
  refine wp_aload_n xi_166 dX12_init_136 rfl ?_
  refine wp_sipush 864 xi_166 dX12_init_137 rfl ?_
  obtain ⟨⟨x48, h49⟩, gx48, H⟩ := Option.bind_eq_some_iff.mp H
  dsimp only at H
  refine wq_newi xi_166 dX12_init_140 gx48 ?_
  obtain ⟨h50, gh50, H⟩ := Option.bind_eq_some_iff.mp H
  refine wq_putf xi_166 dX12_init_142 xf_12_67 (Or.inr ⟨rfl, rfl, rfl⟩) gh50 ?_
  refine wp_aload_n xi_166 dX12_init_145 rfl ?_
  refine wp_bipush 70 xi_166 dX12_init_146 rfl ?_
  obtain ⟨⟨x51, h52⟩, gx51, H⟩ := Option.bind_eq_some_iff.mp H
  dsimp only at H
  refine wq_newi xi_166 dX12_init_148 gx51 ?_
  obtain ⟨h53, gh53, H⟩ := Option.bind_eq_some_iff.mp H
  refine wq_putf xi_166 dX12_init_150 xf_12_70 (Or.inr ⟨rfl, rfl, rfl⟩) gh53 ?_
  refine wp_aload_n xi_166 dX12_init_153 rfl ?_
  refine wp_sipush 21600 xi_166 dX12_init_154 rfl ?_
  obtain ⟨⟨x54, h55⟩, gx54, H⟩ := Option.bind_eq_some_iff.mp H
  dsimp only at H
  refine wq_newi xi_166 dX12_init_157 gx54 ?_
  obtain ⟨h56, gh56, H⟩ := Option.bind_eq_some_iff.mp H
  refine wq_putf xi_166 dX12_init_159 xf_12_73 (Or.inr ⟨rfl, rfl, rfl⟩) gh56 ?_
  refine wp_aload_n xi_166 dX12_init_162 rfl ?_
  refine wp_sipush 400 xi_166 dX12_init_163 rfl ?_
  obtain ⟨⟨x57, h58⟩, gx57, H⟩ := Option.bind_eq_some_iff.mp H
  dsimp only at H
  refine wq_newi xi_166 dX12_init_166 gx57 ?_
  obtain ⟨h59, gh59, H⟩ := Option.bind_eq_some_iff.mp H
  refine wq_putf xi_166 dX12_init_168 xf_12_76 (Or.inr ⟨rfl, rfl, rfl⟩) gh59 ?_
  refine wp_aload_n xi_166 dX12_init_171 rfl ?_
  refine wp_sipush 400 xi_166 dX12_init_172 rfl ?_
  obtain ⟨⟨x60, h61⟩, gx60, H⟩ := Option.bind_eq_some_iff.mp H
  dsimp only at H
  refine wq_newi xi_166 dX12_init_175 gx60 ?_
  obtain ⟨h62, gh62, H⟩ := Option.bind_eq_some_iff.mp H
  refine wq_putf xi_166 dX12_init_177 xf_12_79 (Or.inr ⟨rfl, rfl, rfl⟩) gh62 ?_
  refine wp_aload_n xi_166 dX12_init_180 rfl ?_
  refine wp_sipush 400 xi_166 dX12_init_181 rfl ?_
  obtain ⟨⟨x63, h64⟩, gx63, H⟩ := Option.bind_eq_some_iff.mp H
  dsimp only at H
  refine wq_newi xi_166 dX12_init_184 gx63 ?_
  obtain ⟨h65, gh65, H⟩ := Option.bind_eq_some_iff.mp H
  refine wq_putf xi_166 dX12_init_186 xf_12_82 (Or.inr ⟨rfl, rfl, rfl⟩) gh65 ?_
  refine wp_aload_n xi_166 dX12_init_189 rfl ?_
  refine wp_sipush 2048 xi_166 dX12_init_190 rfl ?_
  obtain ⟨⟨x66, h67⟩, gx66, H⟩ := Option.bind_eq_some_iff.mp H
  dsimp only at H
  refine wq_newi xi_166 dX12_init_193 gx66 ?_
  obtain ⟨h68, gh68, H⟩ := Option.bind_eq_some_iff.mp H
  refine wq_putf xi_166 dX12_init_195 xf_12_85 (Or.inr ⟨rfl, rfl, rfl⟩) gh68 ?_
  refine wp_aload_n xi_166 dX12_init_198 rfl ?_
  refine wp_bipush 54 xi_166 dX12_init_199 rfl ?_
  obtain ⟨⟨x69, h70⟩, gx69, H⟩ := Option.bind_eq_some_iff.mp H
  dsimp only at H
  refine wq_newi xi_166 dX12_init_201 gx69 ?_
  obtain ⟨h71, gh71, H⟩ := Option.bind_eq_some_iff.mp H
  refine wq_putf xi_166 dX12_init_203 xf_12_88 (Or.inr ⟨rfl, rfl, rfl⟩) gh71 ?_
  refine wp_aload_n xi_166 dX12_init_206 rfl ?_
  refine wp_sipush 400 xi_166 dX12_init_207 rfl ?_
  obtain ⟨⟨x72, h73⟩, gx72, H⟩ := Option.bind_eq_some_iff.mp H
  dsimp only at H
  refine wq_newi xi_166 dX12_init_210 gx72 ?_
  obtain ⟨h74, gh74, H⟩ := Option.bind_eq_some_iff.mp H
  refine wq_putf xi_166 dX12_init_212 xf_12_91 (Or.inr ⟨rfl, rfl, rfl⟩) gh74 ?_
  refine wp_aload_n xi_166 dX12_init_215 rfl ?_
  refine wp_sipush 400 xi_166 dX12_init_216 rfl ?_
  obtain ⟨⟨x75, h76⟩, gx75, H⟩ := Option.bind_eq_some_iff.mp H
  dsimp only at H
  refine wq_newi xi_166 dX12_init_219 gx75 ?_
  obtain ⟨h77, gh77, H⟩ := Option.bind_eq_some_iff.mp H
  refine wq_putf xi_166 dX12_init_221 xf_12_94 (Or.inr ⟨rfl, rfl, rfl⟩) gh77 ?_
  refine wp_aload_n xi_166 dX12_init_224 rfl ?_
  refine wp_sipush 400 xi_166 dX12_init_225 rfl ?_
  obtain ⟨⟨x78, h79⟩, gx78, H⟩ := Option.bind_eq_some_iff.mp H
  dsimp only at H
  refine wq_newi xi_166 dX12_init_228 gx78 ?_
  obtain ⟨h80, gh80, H⟩ := Option.bind_eq_some_iff.mp H
  refine wq_putf xi_166 dX12_init_230 xf_12_97 (Or.inr ⟨rfl, rfl, rfl⟩) gh80 ?_
  refine wp_aload_n xi_166 dX12_init_233 rfl ?_
  refine wp_iconst 4 xi_166 dX12_init_234 rfl ?_
  obtain ⟨⟨x81, h82⟩, gx81, H⟩ := Option.bind_eq_some_iff.mp H
  dsimp only at H
  refine wq_newi xi_166 dX12_init_235 gx81 ?_
  obtain ⟨h83, gh83, H⟩ := Option.bind_eq_some_iff.mp H
  refine wq_putf xi_166 dX12_init_237 xf_12_100 (Or.inr ⟨rfl, rfl, rfl⟩) gh83 ?_
  refine wp_aload_n xi_166 dX12_init_240 rfl ?_
  refine wp_bipush 20 xi_166 dX12_init_241 rfl ?_
  obtain ⟨⟨x84, h85⟩, gx84, H⟩ := Option.bind_eq_some_iff.mp H
  dsimp only at H
  refine wq_newi xi_166 dX12_init_243 gx84 ?_
  obtain ⟨h86, gh86, H⟩ := Option.bind_eq_some_iff.mp H
  refine wq_putf xi_166 dX12_init_245 xf_12_103 (Or.inr ⟨rfl, rfl, rfl⟩) gh86 ?_
  refine wp_aload_n xi_166 dX12_init_248 rfl ?_
  refine wp_bipush 20 xi_166 dX12_init_249 rfl ?_
  obtain ⟨⟨x87, h88⟩, gx87, H⟩ := Option.bind_eq_some_iff.mp H
  dsimp only at H
  refine wq_newi xi_166 dX12_init_251 gx87 ?_
  obtain ⟨h89, gh89, H⟩ := Option.bind_eq_some_iff.mp H
  refine wq_putf xi_166 dX12_init_253 xf_12_106 (Or.inr ⟨rfl, rfl, rfl⟩) gh89 ?_
  refine wp_aload_n xi_166 dX12_init_256 rfl ?_
  refine wp_bipush 48 xi_166 dX12_init_257 rfl ?_
  obtain ⟨⟨x90, h91⟩, gx90, H⟩ := Option.bind_eq_some_iff.mp H
  dsimp only at H
  refine wq_newi xi_166 dX12_init_259 gx90 ?_
  obtain ⟨h92, gh92, H⟩ := Option.bind_eq_some_iff.mp H
  refine wq_putf xi_166 dX12_init_261 xf_12_109 (Or.inr ⟨rfl, rfl, rfl⟩) gh92 ?_
  refine wp_aload_n xi_166 dX12_init_264 rfl ?_
  refine wp_bipush 48 xi_166 dX12_init_265 rfl ?_
  obtain ⟨⟨x93, h94⟩, gx93, H⟩ := Option.bind_eq_some_iff.mp H
  dsimp only at H
  refine wq_newi xi_166 dX12_init_267 gx93 ?_
  obtain ⟨h95, gh95, H⟩ := Option.bind_eq_some_iff.mp H
  refine wq_putf xi_166 dX12_init_269 xf_12_112 (Or.inr ⟨rfl, rfl, rfl⟩) gh95 ?_
  refine wp_aload_n xi_166 dX12_init_272 rfl ?_
  refine wp_sipush 1000 xi_166 dX12_init_273 rfl ?_
  obtain ⟨⟨x96, h97⟩, gx96, H⟩ := Option.bind_eq_some_iff.mp H
  dsimp only at H
  refine wq_newi xi_166 dX12_init_276 gx96 ?_
  obtain ⟨h98, gh98, H⟩ := Option.bind_eq_some_iff.mp H
  refine wq_putf xi_166 dX12_init_278 xf_12_115 (Or.inr ⟨rfl, rfl, rfl⟩) gh98 ?_
  refine wp_aload_n xi_166 dX12_init_281 rfl ?_
  refine wp_iconst 3 xi_166 dX12_init_282 rfl ?_
  obtain ⟨⟨x99, h100⟩, gx99, H⟩ := Option.bind_eq_some_iff.mp H
  dsimp only at H
  refine wq_newb xi_166 dX12_init_283 gx99 ?_
  obtain ⟨h101, gh101, H⟩ := Option.bind_eq_some_iff.mp H
  refine wq_putf xi_166 dX12_init_285 xf_12_118 (Or.inr ⟨rfl, rfl, rfl⟩) gh101 ?_
  refine wp_aload_n xi_166 dX12_init_288 rfl ?_
  refine wp_sipush 162 xi_166 dX12_init_289 rfl ?_
  obtain ⟨⟨x102, h103⟩, gx102, H⟩ := Option.bind_eq_some_iff.mp H
  dsimp only at H
  refine wq_newi xi_166 dX12_init_292 gx102 ?_
  obtain ⟨h104, gh104, H⟩ := Option.bind_eq_some_iff.mp H
  refine wq_putf xi_166 dX12_init_294 xf_12_122 (Or.inr ⟨rfl, rfl, rfl⟩) gh104 ?_
  refine wp_aload_n xi_166 dX12_init_297 rfl ?_
  obtain ⟨x105, gx105, H⟩ := Option.bind_eq_some_iff.mp H
  refine wq_getfr xi_166 dX12_init_298 xf_12_24 gx105 ?_
  obtain ⟨h106, gh106, H⟩ := Option.bind_eq_some_iff.mp H
  refine wq_callS (as := [.ref x105]) (r := []) (v1 := none) xi_166 xi_167 dX12_init_301 xm_12_125 rfl (Nat.le_of_ble_eq_true rfl) ⟨(Nat.le_of_ble_eq_true rfl), (Nat.le_of_ble_eq_true rfl)⟩ rfl nofun (e_167 d _ gh106 ⟨rfl, rfl⟩) ?_
  change Wp _ _ _ _ [] _ _
  refine wp_aload_n xi_166 dX12_init_304 rfl ?_
  obtain ⟨u107, gu107, H⟩ := Option.bind_eq_some_iff.mp H
  obtain ⟨⟨x109, h108⟩, gh108, H⟩ := Option.bind_eq_some_iff.mp H
  dsimp only at H
  refine wq_callV (a := a) (as := []) (r := []) (v1 := (some (.int x109))) xi_166 xi_245 dX12_init_305 xm_12_129 rfl (Nat.le_of_ble_eq_true rfl) (pG_ok gu107) ⟨(Nat.le_of_ble_eq_true rfl), (Nat.le_of_ble_eq_true rfl)⟩ rfl nofun (e_245 d _ gh108 ⟨rfl, rfl⟩) ?_
  change Wp _ _ _ _ [.int x109] _ _
  refine wp_pop xi_166 dX12_init_308 rfl ?_
  obtain rfl := Option.some.inj H
  exact wp_vret xi_166 dX12_init_309 hq
