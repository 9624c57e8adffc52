/- FelledHasLostModel.firstMove(I)I -/
def f_237_2  : Nat → Nat → Int32 → xH → Option (Int32 × xH)
  | 0, _, _, _ => none
  | n + 1, a0, a2, h =>
  (pFr h a0 12 33).bind fun x1 =>
  (pAi h x1 a2).bind fun x2 =>
  (if x2 ≤ 0 then
  some (a2, h)
  else
  (pFr h a0 12 33).bind fun x4 =>
  (pAi h x4 a2).bind fun x5 =>
  f_237_2 n a0 x5 h)
theorem ef_237_2 (d : Nat) (Q : Option Value → xH → Prop)  : ∀ (n : Nat) (a0 : Nat) (a2 : Int32) (h : xH) (r : Int32 × xH), f_237_2 n a0 a2 h = some r → (∀ (w2 : Int32) (h1 : xH), r = (w2, h1) → Wp (d + 0) 237 21 [some (.ref a0), none, some (.int w2)] [] h1 Q) → Wp (d + 0) 237 2 [some (.ref a0), none, some (.int a2)] [] h Q := by
  intro n
  induction n with
  | zero =>
    intro a0 a2 h r H
    cases H
  | succ n ih =>
    intro a0 a2 h r H KE
    unfold f_237_2 at H
    refine wp_aload_n xi_237 dX12_firstMove_2 rfl ?_
    obtain ⟨x1, gx1, H⟩ := Option.bind_eq_some_iff.mp H
    refine wq_getfr xi_237 dX12_firstMove_3 xf_12_76 gx1 ?_
    refine wp_iload_n xi_237 dX12_firstMove_6 rfl ?_
    obtain ⟨x2, gx2, H⟩ := Option.bind_eq_some_iff.mp H
    refine wq_iaload xi_237 dX12_firstMove_7 gx2 ?_
    refine wp_if_le 21 xi_237 dX12_firstMove_8 rfl (fun c3 => ?_) (fun c3 => ?_)
    · rw [if_pos c3] at H
      obtain rfl := Option.some.inj H
      exact Wp.more (by simp [xMore, Value.category]) (KE a2 h rfl)
    · rw [if_neg c3] at H
      refine wp_aload_n xi_237 dX12_firstMove_11 rfl ?_
      obtain ⟨x4, gx4, H⟩ := Option.bind_eq_some_iff.mp H
      refine wq_getfr xi_237 dX12_firstMove_12 xf_12_76 gx4 ?_
      refine wp_iload_n xi_237 dX12_firstMove_15 rfl ?_
      obtain ⟨x5, gx5, H⟩ := Option.bind_eq_some_iff.mp H
      refine wq_iaload xi_237 dX12_firstMove_16 gx5 ?_
      refine wp_istore_n [some (.ref a0), none, some (.int x5)] xi_237 dX12_firstMove_17 rfl ?_
      refine wp_goto 2 xi_237 dX12_firstMove_18 rfl ?_
      exact Wp.more (by simp [xMore, Value.category]) (ih a0 x5 h _ H KE)
def f_237  (a : Nat) (p0 : Int32) (h : xH) : Option (Int32 × xH) :=
  (f_237_2 100000 a p0 h).bind fun (w2, h1) =>
  (pFr h1 a 12 34).bind fun x5 =>
  (pAi h1 x5 w2).bind fun x6 =>
  some (x6, h1)
set_option maxHeartbeats 4000000 in
theorem e_237 (d : Nat) (Q : Option Value → xH → Prop)  {h : xH} {a : Nat} {p0 : Int32} {x : Int32} {h1 : xH} (H : f_237  a p0 h = some (x, h1)) (hq : Q (some (.int x)) h1) : Wp (d + 0) 237 0 [some (.ref a), some (.int p0), none] [] h Q := by
  unfold f_237 at H
  refine wp_iload_n xi_237 dX12_firstMove_0 rfl ?_
  refine wp_istore_n [some (.ref a), some (.int p0), some (.int p0)] xi_237 dX12_firstMove_1 rfl ?_
  obtain ⟨⟨w2, h1⟩, G3, H⟩ := Option.bind_eq_some_iff.mp H
  dsimp only at H
  refine Wp.more (by simp [xMore, Value.category]) (ef_237_2 d Q  100000 a p0 h _ G3 (fun z0 z1 e9 => ?_))
  cases e9
  refine wp_aload_n xi_237 dX12_firstMove_21 rfl ?_
  obtain ⟨x5, gx5, H⟩ := Option.bind_eq_some_iff.mp H
  refine wq_getfr xi_237 dX12_firstMove_22 xf_12_79 gx5 ?_
  refine wp_iload_n xi_237 dX12_firstMove_25 rfl ?_
  obtain ⟨x6, gx6, H⟩ := Option.bind_eq_some_iff.mp H
  refine wq_iaload xi_237 dX12_firstMove_26 gx6 ?_
  obtain ⟨rfl, rfl⟩ := oi2 H
  exact wp_iret xi_237 dX12_firstMove_27 hq
/- FelledHasLostModel.tellsWay(I)I -/
def f_241_14  : Nat → Nat → Int32 → Int32 → Int32 → xH → Option (xH)
  | 0, _, _, _, _, _ => none
  | n + 1, a0, a2, a3, a4, h =>
  (if a4 < 0 then
  some (h)
  else
  (pFr h a0 12 42).bind fun x2 =>
  (pFr h a0 12 34).bind fun x3 =>
  (pAi h x3 a3).bind fun x4 =>
  (pSi h x2 a4 x4).bind fun h5 =>
  (pFr h5 a0 12 33).bind fun x6 =>
  (pAi h5 x6 a3).bind fun x7 =>
  f_241_14 n a0 a2 x7 (a4 + (-1)) h5)
theorem ef_241_14 (d : Nat) (Q : Option Value → xH → Prop)  : ∀ (n : Nat) (a0 : Nat) (a2 : Int32) (a3 : Int32) (a4 : Int32) (h : xH) (r : xH), f_241_14 n a0 a2 a3 a4 h = some r → (∀  (h1 : xH), r = h1 → Wp (d + 1) 241 45 [some (.ref a0), none, some (.int a2), none, none] [] h1 Q) → Wp (d + 1) 241 14 [some (.ref a0), none, some (.int a2), some (.int a3), some (.int a4)] [] h Q := by
  intro n
  induction n with
  | zero =>
    intro a0 a2 a3 a4 h r H
    cases H
  | succ n ih =>
    intro a0 a2 a3 a4 h r H KE
    unfold f_241_14 at H
    refine wp_iload xi_241 dX12_tellsWay_14 rfl ?_
    refine wp_if_lt 45 xi_241 dX12_tellsWay_16 rfl (fun c1 => ?_) (fun c1 => ?_)
    · rw [if_pos c1] at H
      obtain rfl := Option.some.inj H
      exact Wp.more (by simp [xMore, Value.category]) (KE  h rfl)
    · rw [if_neg c1] at H
      refine wp_aload_n xi_241 dX12_tellsWay_19 rfl ?_
      obtain ⟨x2, gx2, H⟩ := Option.bind_eq_some_iff.mp H
      refine wq_getfr xi_241 dX12_tellsWay_20 xf_12_97 gx2 ?_
      refine wp_iload xi_241 dX12_tellsWay_23 rfl ?_
      refine wp_aload_n xi_241 dX12_tellsWay_25 rfl ?_
      obtain ⟨x3, gx3, H⟩ := Option.bind_eq_some_iff.mp H
      refine wq_getfr xi_241 dX12_tellsWay_26 xf_12_79 gx3 ?_
      refine wp_iload_n xi_241 dX12_tellsWay_29 rfl ?_
      obtain ⟨x4, gx4, H⟩ := Option.bind_eq_some_iff.mp H
      refine wq_iaload xi_241 dX12_tellsWay_30 gx4 ?_
      obtain ⟨h5, gh5, H⟩ := Option.bind_eq_some_iff.mp H
      refine wq_iastore xi_241 dX12_tellsWay_31 gh5 ?_
      refine wp_aload_n xi_241 dX12_tellsWay_32 rfl ?_
      obtain ⟨x6, gx6, H⟩ := Option.bind_eq_some_iff.mp H
      refine wq_getfr xi_241 dX12_tellsWay_33 xf_12_76 gx6 ?_
      refine wp_iload_n xi_241 dX12_tellsWay_36 rfl ?_
      obtain ⟨x7, gx7, H⟩ := Option.bind_eq_some_iff.mp H
      refine wq_iaload xi_241 dX12_tellsWay_37 gx7 ?_
      refine wp_istore_n [some (.ref a0), none, some (.int a2), some (.int x7), some (.int a4)] xi_241 dX12_tellsWay_38 rfl ?_
      refine wp_iinc (a4 + (-1)) [some (.ref a0), none, some (.int a2), some (.int x7), some (.int (a4 + (-1)))] xi_241 dX12_tellsWay_39 rfl rfl rfl ?_
      refine wp_goto 14 xi_241 dX12_tellsWay_42 rfl ?_
      exact Wp.more (by simp [xMore, Value.category]) (ih a0 a2 x7 (a4 + (-1)) h5 _ H KE)
def f_241_53  : Nat → Nat → Int32 → Int32 → xH → Option (xH)
  | 0, _, _, _, _ => none
  | n + 1, a0, a2, a4, h =>
  (if a2 ≤ a4 then
  some (h)
  else
  (if (10 : Int32) ≤ a4 then
  some (h)
  else
  (pFr h a0 12 42).bind fun x3 =>
  (pAi h x3 a4).bind fun x4 =>
  (pG (pIs h a0 12)).bind fun _ =>
  (f_165 a0 ((x4 : Int32).toInt64) h).bind fun h6 =>
  f_241_53 n a0 a2 (a4 + 1) h6))
theorem ef_241_53 (d : Nat) (Q : Option Value → xH → Prop)  : ∀ (n : Nat) (a0 : Nat) (a2 : Int32) (a4 : Int32) (h : xH) (r : xH), f_241_53 n a0 a2 a4 h = some r → (∀  (h1 : xH), r = h1 → Wp (d + 1) 241 84 [none, none, some (.int a2), none, none] [] h1 Q) → Wp (d + 1) 241 53 [some (.ref a0), none, some (.int a2), none, some (.int a4)] [] h Q := by
  intro n
  induction n with
  | zero =>
    intro a0 a2 a4 h r H
    cases H
  | succ n ih =>
    intro a0 a2 a4 h r H KE
    unfold f_241_53 at H
    refine wp_iload xi_241 dX12_tellsWay_53 rfl ?_
    refine wp_iload_n xi_241 dX12_tellsWay_55 rfl ?_
    refine wp_icmp_ge 84 xi_241 dX12_tellsWay_56 rfl (fun c1 => ?_) (fun c1 => ?_)
    · rw [if_pos c1] at H
      obtain rfl := Option.some.inj H
      exact Wp.more (by simp [xMore, Value.category]) (KE  h rfl)
    · rw [if_neg c1] at H
      refine wp_iload xi_241 dX12_tellsWay_59 rfl ?_
      refine wp_bipush 10 xi_241 dX12_tellsWay_61 rfl ?_
      refine wp_icmp_ge 84 xi_241 dX12_tellsWay_63 rfl (fun c2 => ?_) (fun c2 => ?_)
      · rw [if_pos c2] at H
        obtain rfl := Option.some.inj H
        exact Wp.more (by simp [xMore, Value.category]) (KE  h rfl)
      · rw [if_neg c2] at H
        refine wp_aload_n xi_241 dX12_tellsWay_66 rfl ?_
        refine wp_aload_n xi_241 dX12_tellsWay_67 rfl ?_
        obtain ⟨x3, gx3, H⟩ := Option.bind_eq_some_iff.mp H
        refine wq_getfr xi_241 dX12_tellsWay_68 xf_12_97 gx3 ?_
        refine wp_iload xi_241 dX12_tellsWay_71 rfl ?_
        obtain ⟨x4, gx4, H⟩ := Option.bind_eq_some_iff.mp H
        refine wq_iaload xi_241 dX12_tellsWay_73 gx4 ?_
        refine wp_i2l xi_241 dX12_tellsWay_74 ?_
        obtain ⟨u5, gu5, H⟩ := Option.bind_eq_some_iff.mp H
        obtain ⟨h6, gh6, H⟩ := Option.bind_eq_some_iff.mp H
        refine wq_callV (a := a0) (as := [.long ((x4 : Int32).toInt64)]) (r := []) (v1 := none) xi_241 xi_165 dX12_tellsWay_75 xm_12_279 rfl (Nat.le_of_ble_eq_true rfl) (pG_ok gu5) ⟨(Nat.le_of_ble_eq_true rfl), (Nat.le_of_ble_eq_true rfl)⟩ rfl nofun (e_165 d _ gh6 ⟨rfl, rfl⟩) ?_
        change Wp _ _ _ _ [] _ _
        refine wp_iinc (a4 + 1) [some (.ref a0), none, some (.int a2), none, some (.int (a4 + 1))] xi_241 dX12_tellsWay_78 rfl rfl rfl ?_
        refine wp_goto 53 xi_241 dX12_tellsWay_81 rfl ?_
        exact Wp.more (by simp [xMore, Value.category]) (ih a0 a2 (a4 + 1) h6 _ H KE)
def f_241  (a : Nat) (p0 : Int32) (h : xH) : Option (Int32 × xH) :=
  (pFr h a 12 35).bind fun x1 =>
  (pAi h x1 p0).bind fun x2 =>
  (f_241_14 100000 a x2 p0 (x2 - 1) h).bind fun h3 =>
  (pP h3 a 12 1 (.int 0)).bind fun h6 =>
  (f_241_53 100000 a x2 0 h6).bind fun h7 =>
  some (x2, h7)
set_option maxHeartbeats 4000000 in
theorem e_241 (d : Nat) (Q : Option Value → xH → Prop)  {h : xH} {a : Nat} {p0 : Int32} {x : Int32} {h1 : xH} (H : f_241  a p0 h = some (x, h1)) (hq : Q (some (.int x)) h1) : Wp (d + 1) 241 0 [some (.ref a), some (.int p0), none, none, none] [] h Q := by
  unfold f_241 at H
  refine wp_aload_n xi_241 dX12_tellsWay_0 rfl ?_
  obtain ⟨x1, gx1, H⟩ := Option.bind_eq_some_iff.mp H
  refine wq_getfr xi_241 dX12_tellsWay_1 xf_12_82 gx1 ?_
  refine wp_iload_n xi_241 dX12_tellsWay_4 rfl ?_
  obtain ⟨x2, gx2, H⟩ := Option.bind_eq_some_iff.mp H
  refine wq_iaload xi_241 dX12_tellsWay_5 gx2 ?_
  refine wp_istore_n [some (.ref a), some (.int p0), some (.int x2), none, none] xi_241 dX12_tellsWay_6 rfl ?_
  refine wp_iload_n xi_241 dX12_tellsWay_7 rfl ?_
  refine wp_istore_n [some (.ref a), some (.int p0), some (.int x2), some (.int p0), none] xi_241 dX12_tellsWay_8 rfl ?_
  refine wp_iload_n xi_241 dX12_tellsWay_9 rfl ?_
  refine wp_iconst 1 xi_241 dX12_tellsWay_10 rfl ?_
  refine wp_isub xi_241 dX12_tellsWay_11 ?_
  refine wp_istore [some (.ref a), some (.int p0), some (.int x2), some (.int p0), some (.int (x2 - 1))] xi_241 dX12_tellsWay_12 rfl ?_
  obtain ⟨h3, G4, H⟩ := Option.bind_eq_some_iff.mp H
  refine Wp.more (by simp [xMore, Value.category]) (ef_241_14 d Q  100000 a x2 p0 (x2 - 1) h _ G4 (fun z0 e9 => ?_))
  cases e9
  refine wp_aload_n xi_241 dX12_tellsWay_45 rfl ?_
  refine wp_iconst 0 xi_241 dX12_tellsWay_46 rfl ?_
  obtain ⟨h6, gh6, H⟩ := Option.bind_eq_some_iff.mp H
  refine wq_putf xi_241 dX12_tellsWay_47 xf_12_15 (Or.inl rfl) gh6 ?_
  refine wp_iconst 0 xi_241 dX12_tellsWay_50 rfl ?_
  refine wp_istore [some (.ref a), none, some (.int x2), none, some (.int 0)] xi_241 dX12_tellsWay_51 rfl ?_
  obtain ⟨h7, G8, H⟩ := Option.bind_eq_some_iff.mp H
  refine Wp.more (by simp [xMore, Value.category]) (ef_241_53 d Q  100000 a x2 0 h6 _ G8 (fun z0 e9 => ?_))
  cases e9
  refine wp_iload_n xi_241 dX12_tellsWay_84 rfl ?_
  obtain ⟨rfl, rfl⟩ := oi2 H
  exact wp_iret xi_241 dX12_tellsWay_85 hq
/- FelledHasLostModel.better([II)I -/
def f_242  (a : Nat) (p0 : Nat) (p1 : Int32) (h : xH) : Option (Int32 × xH) :=
  (pG (pIs h a 12)).bind fun _ =>
  (f_208 a p0 p1 0 h).bind fun (x3, h2) =>
  (pG (pIs h2 a 12)).bind fun _ =>
  (f_208 a p0 p1 1 h2).bind fun (x6, h5) =>
  some ((100 - (pMin x3 x6)), h5)
set_option maxHeartbeats 4000000 in
theorem e_242 (d : Nat) (Q : Option Value → xH → Prop)  {h : xH} {a : Nat} {p0 : Nat} {p1 : Int32} {x : Int32} {h1 : xH} (H : f_242  a p0 p1 h = some (x, h1)) (hq : Q (some (.int x)) h1) : Wp (d + 5) 242 0 [some (.ref a), some (.ref p0), some (.int p1)] [] h Q := by
  unfold f_242 at H
  refine wp_bipush 100 xi_242 dX12_better_0 rfl ?_
  refine wp_aload_n xi_242 dX12_better_2 rfl ?_
  refine wp_aload_n xi_242 dX12_better_3 rfl ?_
  refine wp_iload_n xi_242 dX12_better_4 rfl ?_
  refine wp_iconst 0 xi_242 dX12_better_5 rfl ?_
  obtain ⟨u1, gu1, H⟩ := Option.bind_eq_some_iff.mp H
  obtain ⟨⟨x3, h2⟩, gh2, H⟩ := Option.bind_eq_some_iff.mp H
  dsimp only at H
  refine wq_callV (a := a) (as := [.ref p0, .int p1, .int 0]) (r := [.int 100]) (v1 := (some (.int x3))) xi_242 xi_208 dX12_better_6 xm_12_312 rfl (Nat.le_of_ble_eq_true rfl) (pG_ok gu1) ⟨(Nat.le_of_ble_eq_true rfl), (Nat.le_of_ble_eq_true rfl)⟩ rfl nofun (e_208 d _ gh2 ⟨rfl, rfl⟩) ?_
  change Wp _ _ _ _ [.int x3, .int 100] _ _
  refine wp_aload_n xi_242 dX12_better_9 rfl ?_
  refine wp_aload_n xi_242 dX12_better_10 rfl ?_
  refine wp_iload_n xi_242 dX12_better_11 rfl ?_
  refine wp_iconst 1 xi_242 dX12_better_12 rfl ?_
  obtain ⟨u4, gu4, H⟩ := Option.bind_eq_some_iff.mp H
  obtain ⟨⟨x6, h5⟩, gh5, H⟩ := Option.bind_eq_some_iff.mp H
  dsimp only at H
  refine wq_callV (a := a) (as := [.ref p0, .int p1, .int 1]) (r := [.int x3, .int 100]) (v1 := (some (.int x6))) xi_242 xi_208 dX12_better_13 xm_12_312 rfl (Nat.le_of_ble_eq_true rfl) (pG_ok gu4) ⟨(Nat.le_of_ble_eq_true rfl), (Nat.le_of_ble_eq_true rfl)⟩ rfl nofun (e_208 d _ gh5 ⟨rfl, rfl⟩) ?_
  change Wp _ _ _ _ [.int x6, .int x3, .int 100] _ _
  refine wq_min xi_242 dX12_better_16 xm_12_152 (Nat.le_of_ble_eq_true rfl) ?_
  refine wp_isub xi_242 dX12_better_19 ?_
  obtain ⟨rfl, rfl⟩ := oi2 H
  exact wp_iret xi_242 dX12_better_20 hq
/- FelledHasLostModel.loser(I)I -/
def f_244_21  : Nat → Nat → Int32 → Int32 → xH → Option (xH)
  | 0, _, _, _, _ => none
  | n + 1, a0, a1, a2, h =>
  (if (4 : Int32) ≤ a2 then
  some (h)
  else
  (pFr h a0 12 43).bind fun x2 =>
  (pSi h x2 a2 0).bind fun h3 =>
  f_244_21 n a0 a1 (a2 + 1) h3)
theorem ef_244_21 (d : Nat) (Q : Option Value → xH → Prop)  : ∀ (n : Nat) (a0 : Nat) (a1 : Int32) (a2 : Int32) (h : xH) (r : xH), f_244_21 n a0 a1 a2 h = some r → (∀  (h1 : xH), r = h1 → Wp (d + 6) 244 39 [some (.ref a0), some (.int a1), none, none, none, none] [] h1 Q) → Wp (d + 6) 244 21 [some (.ref a0), some (.int a1), some (.int a2), none, none, none] [] h Q := by
  intro n
  induction n with
  | zero =>
    intro a0 a1 a2 h r H
    cases H
  | succ n ih =>
    intro a0 a1 a2 h r H KE
    unfold f_244_21 at H
    refine wp_iload_n xi_244 dX12_loser_21 rfl ?_
    refine wp_iconst 4 xi_244 dX12_loser_22 rfl ?_
    refine wp_icmp_ge 39 xi_244 dX12_loser_23 rfl (fun c1 => ?_) (fun c1 => ?_)
    · rw [if_pos c1] at H
      obtain rfl := Option.some.inj H
      exact Wp.more (by simp [xMore, Value.category]) (KE  h rfl)
    · rw [if_neg c1] at H
      refine wp_aload_n xi_244 dX12_loser_26 rfl ?_
      obtain ⟨x2, gx2, H⟩ := Option.bind_eq_some_iff.mp H
      refine wq_getfr xi_244 dX12_loser_27 xf_12_100 gx2 ?_
      refine wp_iload_n xi_244 dX12_loser_30 rfl ?_
      refine wp_iconst 0 xi_244 dX12_loser_31 rfl ?_
      obtain ⟨h3, gh3, H⟩ := Option.bind_eq_some_iff.mp H
      refine wq_iastore xi_244 dX12_loser_32 gh3 ?_
      refine wp_iinc (a2 + 1) [some (.ref a0), some (.int a1), some (.int (a2 + 1)), none, none, none] xi_244 dX12_loser_33 rfl rfl rfl ?_
      refine wp_goto 21 xi_244 dX12_loser_36 rfl ?_
      exact Wp.more (by simp [xMore, Value.category]) (ih a0 a1 (a2 + 1) h3 _ H KE)
def f_244_74  : Nat → Nat → Int32 → Int32 → Int32 → Int32 → xH → Option (Int32 × xH)
  | 0, _, _, _, _, _, _ => none
  | n + 1, a0, a1, a2, a3, a4, h =>
  (if a1 ≤ a4 then
  some (a2, h)
  else
  (if a3 < 0 then
  some (a2, h)
  else
  (pFi h a0 12 25).bind fun x3 =>
  (pDiv (a2 * x3) 100).bind fun x4 =>
  (pFr h a0 12 43).bind fun x5 =>
  (pFr h a0 12 4).bind fun x6 =>
  (pAi h x6 49).bind fun x7 =>
  (pAi h x5 x7).bind fun x8 =>
  (pSi h x5 x7 (x8 + x4)).bind fun h9 =>
  (pFr h9 a0 12 4).bind fun x10 =>
  (pG (pIs h9 a0 12)).bind fun _ =>
  (f_203 a0 x10 a3 h9).bind fun (x13, h12) =>
  (pFr h12 a0 12 4).bind fun x14 =>
  (pFr h12 a0 12 4).bind fun x15 =>
  (pAi h12 x15 49).bind fun x16 =>
  (pFi h12 a0 12 6).bind fun x17 =>
  (pRem (x16 + 1) x17).bind fun x18 =>
  (pSi h12 x14 49 x18).bind fun h19 =>
  (pFr h19 a0 12 4).bind fun x20 =>
  (pG (pIs h19 a0 12)).bind fun _ =>
  (f_211 a0 x20 h19).bind fun (x23, h22) =>
  f_244_74 n a0 a1 (a2 - x4) x23 (a4 + 1) h22))
theorem ef_244_74 (d : Nat) (Q : Option Value → xH → Prop)  : ∀ (n : Nat) (a0 : Nat) (a1 : Int32) (a2 : Int32) (a3 : Int32) (a4 : Int32) (h : xH) (r : Int32 × xH), f_244_74 n a0 a1 a2 a3 a4 h = some r → (∀ (w2 : Int32) (h1 : xH), r = (w2, h1) → Wp (d + 6) 244 163 [some (.ref a0), none, some (.int w2), none, none, none] [] h1 Q) → Wp (d + 6) 244 74 [some (.ref a0), some (.int a1), some (.int a2), some (.int a3), some (.int a4), none] [] h Q := by
  intro n
  induction n with
  | zero =>
    intro a0 a1 a2 a3 a4 h r H
    cases H
  | succ n ih =>
    intro a0 a1 a2 a3 a4 h r H KE
    unfold f_244_74 at H
    refine wp_iload xi_244 dX12_loser_74 rfl ?_
    refine wp_iload_n xi_244 dX12_loser_76 rfl ?_
    refine wp_icmp_ge 163 xi_244 dX12_loser_77 rfl (fun c1 => ?_) (fun c1 => ?_)
    · rw [if_pos c1] at H
      obtain rfl := Option.some.inj H
      exact Wp.more (by simp [xMore, Value.category]) (KE a2 h rfl)
    · rw [if_neg c1] at H
      refine wp_iload_n xi_244 dX12_loser_80 rfl ?_
      refine wp_if_lt 163 xi_244 dX12_loser_81 rfl (fun c2 => ?_) (fun c2 => ?_)
      · rw [if_pos c2] at H
        obtain rfl := Option.some.inj H
        exact Wp.more (by simp [xMore, Value.category]) (KE a2 h rfl)
      · rw [if_neg c2] at H
        refine wp_iload_n xi_244 dX12_loser_84 rfl ?_
        refine wp_aload_n xi_244 dX12_loser_85 rfl ?_
        obtain ⟨x3, gx3, H⟩ := Option.bind_eq_some_iff.mp H
        refine wq_getfi xi_244 dX12_loser_86 xf_12_316 gx3 ?_
        refine wp_imul xi_244 dX12_loser_89 ?_
        refine wp_bipush 100 xi_244 dX12_loser_90 rfl ?_
        obtain ⟨x4, gx4, H⟩ := Option.bind_eq_some_iff.mp H
        refine wq_idiv xi_244 dX12_loser_92 gx4 ?_
        refine wp_istore [some (.ref a0), some (.int a1), some (.int a2), some (.int a3), some (.int a4), some (.int x4)] xi_244 dX12_loser_93 rfl ?_
        refine wp_aload_n xi_244 dX12_loser_95 rfl ?_
        obtain ⟨x5, gx5, H⟩ := Option.bind_eq_some_iff.mp H
        refine wq_getfr xi_244 dX12_loser_96 xf_12_100 gx5 ?_
        refine wp_aload_n xi_244 dX12_loser_99 rfl ?_
        obtain ⟨x6, gx6, H⟩ := Option.bind_eq_some_iff.mp H
        refine wq_getfr xi_244 dX12_loser_100 xf_12_28 gx6 ?_
        refine wp_bipush 49 xi_244 dX12_loser_103 rfl ?_
        obtain ⟨x7, gx7, H⟩ := Option.bind_eq_some_iff.mp H
        refine wq_iaload xi_244 dX12_loser_105 gx7 ?_
        refine wp_dup2 xi_244 dX12_loser_106 rfl rfl ?_
        obtain ⟨x8, gx8, H⟩ := Option.bind_eq_some_iff.mp H
        refine wq_iaload xi_244 dX12_loser_107 gx8 ?_
        refine wp_iload xi_244 dX12_loser_108 rfl ?_
        refine wp_iadd xi_244 dX12_loser_110 ?_
        obtain ⟨h9, gh9, H⟩ := Option.bind_eq_some_iff.mp H
        refine wq_iastore xi_244 dX12_loser_111 gh9 ?_
        refine wp_iload_n xi_244 dX12_loser_112 rfl ?_
        refine wp_iload xi_244 dX12_loser_113 rfl ?_
        refine wp_isub xi_244 dX12_loser_115 ?_
        refine wp_istore_n [some (.ref a0), some (.int a1), some (.int (a2 - x4)), some (.int a3), some (.int a4), some (.int x4)] xi_244 dX12_loser_116 rfl ?_
        refine wp_aload_n xi_244 dX12_loser_117 rfl ?_
        refine wp_aload_n xi_244 dX12_loser_118 rfl ?_
        obtain ⟨x10, gx10, H⟩ := Option.bind_eq_some_iff.mp H
        refine wq_getfr xi_244 dX12_loser_119 xf_12_28 gx10 ?_
        refine wp_iload_n xi_244 dX12_loser_122 rfl ?_
        obtain ⟨u11, gu11, H⟩ := Option.bind_eq_some_iff.mp H
        obtain ⟨⟨x13, h12⟩, gh12, H⟩ := Option.bind_eq_some_iff.mp H
        dsimp only at H
        refine wq_callV (a := a0) (as := [.ref x10, .int a3]) (r := []) (v1 := (some (.int x13))) xi_244 xi_203 dX12_loser_123 xm_12_295 rfl (Nat.le_of_ble_eq_true rfl) (pG_ok gu11) ⟨(Nat.le_of_ble_eq_true rfl), (Nat.le_of_ble_eq_true rfl)⟩ rfl nofun (e_203 (d + 2) _ gh12 ⟨rfl, rfl⟩) ?_
        change Wp _ _ _ _ [.int x13] _ _
        refine wp_pop xi_244 dX12_loser_126 rfl ?_
        refine wp_aload_n xi_244 dX12_loser_127 rfl ?_
        obtain ⟨x14, gx14, H⟩ := Option.bind_eq_some_iff.mp H
        refine wq_getfr xi_244 dX12_loser_128 xf_12_28 gx14 ?_
        refine wp_bipush 49 xi_244 dX12_loser_131 rfl ?_
        refine wp_aload_n xi_244 dX12_loser_133 rfl ?_
        obtain ⟨x15, gx15, H⟩ := Option.bind_eq_some_iff.mp H
        refine wq_getfr xi_244 dX12_loser_134 xf_12_28 gx15 ?_
        refine wp_bipush 49 xi_244 dX12_loser_137 rfl ?_
        obtain ⟨x16, gx16, H⟩ := Option.bind_eq_some_iff.mp H
        refine wq_iaload xi_244 dX12_loser_139 gx16 ?_
        refine wp_iconst 1 xi_244 dX12_loser_140 rfl ?_
        refine wp_iadd xi_244 dX12_loser_141 ?_
        refine wp_aload_n xi_244 dX12_loser_142 rfl ?_
        obtain ⟨x17, gx17, H⟩ := Option.bind_eq_some_iff.mp H
        refine wq_getfi xi_244 dX12_loser_143 xf_12_34 gx17 ?_
        obtain ⟨x18, gx18, H⟩ := Option.bind_eq_some_iff.mp H
        refine wq_irem xi_244 dX12_loser_146 gx18 ?_
        obtain ⟨h19, gh19, H⟩ := Option.bind_eq_some_iff.mp H
        refine wq_iastore xi_244 dX12_loser_147 gh19 ?_
        refine wp_aload_n xi_244 dX12_loser_148 rfl ?_
        refine wp_aload_n xi_244 dX12_loser_149 rfl ?_
        obtain ⟨x20, gx20, H⟩ := Option.bind_eq_some_iff.mp H
        refine wq_getfr xi_244 dX12_loser_150 xf_12_28 gx20 ?_
        obtain ⟨u21, gu21, H⟩ := Option.bind_eq_some_iff.mp H
        obtain ⟨⟨x23, h22⟩, gh22, H⟩ := Option.bind_eq_some_iff.mp H
        dsimp only at H
        refine wq_callV (a := a0) (as := [.ref x20]) (r := []) (v1 := (some (.int x23))) xi_244 xi_211 dX12_loser_153 xm_12_322 rfl (Nat.le_of_ble_eq_true rfl) (pG_ok gu21) ⟨(Nat.le_of_ble_eq_true rfl), (Nat.le_of_ble_eq_true rfl)⟩ rfl nofun (e_211 d _ gh22 ⟨rfl, rfl⟩) ?_
        change Wp _ _ _ _ [.int x23] _ _
        refine wp_istore_n [some (.ref a0), some (.int a1), some (.int (a2 - x4)), some (.int x23), some (.int a4), some (.int x4)] xi_244 dX12_loser_156 rfl ?_
        refine wp_iinc (a4 + 1) [some (.ref a0), some (.int a1), some (.int (a2 - x4)), some (.int x23), some (.int (a4 + 1)), some (.int x4)] xi_244 dX12_loser_157 rfl rfl rfl ?_
        refine wp_goto 74 xi_244 dX12_loser_160 rfl ?_
        exact Wp.more (by simp [xMore, Value.category]) (ih a0 a1 (a2 - x4) x23 (a4 + 1) h22 _ H KE)
def f_244_174  : Nat → Nat → Int32 → Int32 → Int32 → xH → Option (Int32 × xH)
  | 0, _, _, _, _, _ => none
  | n + 1, a0, a2, a4, a5, h =>
  (pFi h a0 12 6).bind fun x1 =>
  (if x1 ≤ a5 then
  some (a4, h)
  else
  (pFr h a0 12 43).bind fun x3 =>
  (pAi h x3 a5).bind fun x4 =>
  (pFr h a0 12 43).bind fun x5 =>
  (pAi h x5 a4).bind fun x6 =>
  ((if x4 ≤ x6 then
  some (a4)
  else
  some (a5) : Option (Int32))).bind fun (w8 : Int32) =>
  (pFr h a0 12 43).bind fun x10 =>
  (pAi h x10 a5).bind fun x11 =>
  (pG (pIs h a0 12)).bind fun _ =>
  (f_165 a0 ((x11 : Int32).toInt64) h).bind fun h13 =>
  f_244_174 n a0 a2 w8 (a5 + 1) h13)
theorem ef_244_174 (d : Nat) (Q : Option Value → xH → Prop)  : ∀ (n : Nat) (a0 : Nat) (a2 : Int32) (a4 : Int32) (a5 : Int32) (h : xH) (r : Int32 × xH), f_244_174 n a0 a2 a4 a5 h = some r → (∀ (w4 : Int32) (h1 : xH), r = (w4, h1) → Wp (d + 6) 244 227 [some (.ref a0), none, some (.int a2), none, some (.int w4), none] [] h1 Q) → Wp (d + 6) 244 174 [some (.ref a0), none, some (.int a2), none, some (.int a4), some (.int a5)] [] h Q := by
  intro n
  induction n with
  | zero =>
    intro a0 a2 a4 a5 h r H
    cases H
  | succ n ih =>
    intro a0 a2 a4 a5 h r H KE
    unfold f_244_174 at H
    refine wp_iload xi_244 dX12_loser_174 rfl ?_
    refine wp_aload_n xi_244 dX12_loser_176 rfl ?_
    obtain ⟨x1, gx1, H⟩ := Option.bind_eq_some_iff.mp H
    refine wq_getfi xi_244 dX12_loser_177 xf_12_34 gx1 ?_
    refine wp_icmp_ge 227 xi_244 dX12_loser_180 rfl (fun c2 => ?_) (fun c2 => ?_)
    · rw [if_pos c2] at H
      obtain rfl := Option.some.inj H
      exact Wp.more (by simp [xMore, Value.category]) (KE a4 h rfl)
    · rw [if_neg c2] at H
      refine wp_aload_n xi_244 dX12_loser_183 rfl ?_
      obtain ⟨x3, gx3, H⟩ := Option.bind_eq_some_iff.mp H
      refine wq_getfr xi_244 dX12_loser_184 xf_12_100 gx3 ?_
      refine wp_iload xi_244 dX12_loser_187 rfl ?_
      obtain ⟨x4, gx4, H⟩ := Option.bind_eq_some_iff.mp H
      refine wq_iaload xi_244 dX12_loser_189 gx4 ?_
      refine wp_aload_n xi_244 dX12_loser_190 rfl ?_
      obtain ⟨x5, gx5, H⟩ := Option.bind_eq_some_iff.mp H
      refine wq_getfr xi_244 dX12_loser_191 xf_12_100 gx5 ?_
      refine wp_iload xi_244 dX12_loser_194 rfl ?_
      obtain ⟨x6, gx6, H⟩ := Option.bind_eq_some_iff.mp H
      refine wq_iaload xi_244 dX12_loser_196 gx6 ?_
      obtain ⟨w8, G14, H⟩ := Option.bind_eq_some_iff.mp H
      have K9 : Wp (d + 6) 244 207 [some (.ref a0), none, some (.int a2), none, some (.int a4), some (.int a5)] [.int w8] h Q := by
        refine wp_istore [some (.ref a0), none, some (.int a2), none, some (.int w8), some (.int a5)] xi_244 dX12_loser_207 rfl ?_
        refine wp_aload_n xi_244 dX12_loser_209 rfl ?_
        refine wp_aload_n xi_244 dX12_loser_210 rfl ?_
        obtain ⟨x10, gx10, H⟩ := Option.bind_eq_some_iff.mp H
        refine wq_getfr xi_244 dX12_loser_211 xf_12_100 gx10 ?_
        refine wp_iload xi_244 dX12_loser_214 rfl ?_
        obtain ⟨x11, gx11, H⟩ := Option.bind_eq_some_iff.mp H
        refine wq_iaload xi_244 dX12_loser_216 gx11 ?_
        refine wp_i2l xi_244 dX12_loser_217 ?_
        obtain ⟨u12, gu12, H⟩ := Option.bind_eq_some_iff.mp H
        obtain ⟨h13, gh13, H⟩ := Option.bind_eq_some_iff.mp H
        refine wq_callV (a := a0) (as := [.long ((x11 : Int32).toInt64)]) (r := []) (v1 := none) xi_244 xi_165 dX12_loser_218 xm_12_279 rfl (Nat.le_of_ble_eq_true rfl) (pG_ok gu12) ⟨(Nat.le_of_ble_eq_true rfl), (Nat.le_of_ble_eq_true rfl)⟩ rfl nofun (e_165 (d + 5) _ gh13 ⟨rfl, rfl⟩) ?_
        change Wp _ _ _ _ [] _ _
        refine wp_iinc (a5 + 1) [some (.ref a0), none, some (.int a2), none, some (.int w8), some (.int (a5 + 1))] xi_244 dX12_loser_221 rfl rfl rfl ?_
        refine wp_goto 174 xi_244 dX12_loser_224 rfl ?_
        exact Wp.more (by simp [xMore, Value.category]) (ih a0 a2 w8 (a5 + 1) h13 _ H KE)
      clear H
      have H := G14
      clear G14
      refine wp_icmp_le 205 xi_244 dX12_loser_197 rfl (fun c7 => ?_) (fun c7 => ?_)
      · rw [if_pos c7] at H
        refine wp_iload xi_244 dX12_loser_205 rfl ?_
        obtain rfl := Option.some.inj H
        exact Wp.more (by simp [xMore, Value.category]) K9
      · rw [if_neg c7] at H
        refine wp_iload xi_244 dX12_loser_200 rfl ?_
        refine wp_goto 207 xi_244 dX12_loser_202 rfl ?_
        obtain rfl := Option.some.inj H
        exact Wp.more (by simp [xMore, Value.category]) K9
def f_244  (a : Nat) (p0 : Int32) (h : xH) : Option (Int32 × xH) :=
  (pP h a 12 0 (.int 0)).bind fun h1 =>
  (f_162 ((p0 : Int32).toInt64) (0 : Int64) (20 : Int64) h1).bind fun (x3, h2) =>
  (if x3 = 0 then
  some ((-1), h2)
  else
  (f_244_21 100000 a p0 0 h2).bind fun h5 =>
  (pFr h5 a 12 3).bind fun x8 =>
  (pFr h5 a 12 4).bind fun x9 =>
  (f_168 x8 x9 h5).bind fun h10 =>
  ((if p0 ≤ 0 then
  some ((-1), h10)
  else
  (pFr h10 a 12 4).bind fun x19 =>
  (pG (pIs h10 a 12)).bind fun _ =>
  (f_211 a x19 h10).bind fun (x22, h21) =>
  some (x22, h21) : Option (Int32 × xH))).bind fun (w16, h17) =>
  (f_244_74 100000 a p0 10000 w16 0 h17).bind fun (w24, h23) =>
  (pP h23 a 12 1 (.int 0)).bind fun h27 =>
  (f_244_174 100000 a w24 0 0 h27).bind fun (w29, h28) =>
  (pG (pIs h28 a 12)).bind fun _ =>
  (f_165 a ((w24 : Int32).toInt64) h28).bind fun h33 =>
  some (w29, h33))
set_option maxHeartbeats 4000000 in
theorem e_244 (d : Nat) (Q : Option Value → xH → Prop)  {h : xH} {a : Nat} {p0 : Int32} {x : Int32} {h1 : xH} (H : f_244  a p0 h = some (x, h1)) (hq : Q (some (.int x)) h1) : Wp (d + 6) 244 0 [some (.ref a), some (.int p0), none, none, none, none] [] h Q := by
  unfold f_244 at H
  refine wp_aload_n xi_244 dX12_loser_0 rfl ?_
  refine wp_iconst 0 xi_244 dX12_loser_1 rfl ?_
  obtain ⟨h1, gh1, H⟩ := Option.bind_eq_some_iff.mp H
  refine wq_putf xi_244 dX12_loser_2 xf_12_3 (Or.inl rfl) gh1 ?_
  refine wp_iload_n xi_244 dX12_loser_5 rfl ?_
  refine wp_i2l xi_244 dX12_loser_6 ?_
  refine wp_lconst 0 xi_244 dX12_loser_7 rfl ?_
  refine wp_ldc2 xi_244 dX12_loser_8 xl_12_401 ?_
  obtain ⟨⟨x3, h2⟩, gh2, H⟩ := Option.bind_eq_some_iff.mp H
  dsimp only at H
  refine wq_callS (as := [.long ((p0 : Int32).toInt64), .long (0 : Int64), .long (20 : Int64)]) (r := []) (v1 := (some (.int x3))) xi_244 xi_162 dX12_loser_11 xm_12_135 rfl (Nat.le_of_ble_eq_true rfl) ⟨(Nat.le_of_ble_eq_true rfl), (Nat.le_of_ble_eq_true rfl)⟩ rfl nofun (e_162 (d + 5) _ gh2 ⟨rfl, rfl⟩) ?_
  change Wp _ _ _ _ [.int x3] _ _
  refine wp_if_ne 19 xi_244 dX12_loser_14 rfl (fun c4 => ?_) (fun c4 => ?_)
  · rw [if_neg c4] at H
    refine wp_iconst 0 xi_244 dX12_loser_19 rfl ?_
    refine wp_istore_n [some (.ref a), some (.int p0), some (.int 0), none, none, none] xi_244 dX12_loser_20 rfl ?_
    obtain ⟨h5, G6, H⟩ := Option.bind_eq_some_iff.mp H
    refine Wp.more (by simp [xMore, Value.category]) (ef_244_21 d Q  100000 a p0 0 h2 _ G6 (fun z0 e9 => ?_))
    cases e9
    refine wp_aload_n xi_244 dX12_loser_39 rfl ?_
    obtain ⟨x8, gx8, H⟩ := Option.bind_eq_some_iff.mp H
    refine wq_getfr xi_244 dX12_loser_40 xf_12_24 gx8 ?_
    refine wp_aload_n xi_244 dX12_loser_43 rfl ?_
    obtain ⟨x9, gx9, H⟩ := Option.bind_eq_some_iff.mp H
    refine wq_getfr xi_244 dX12_loser_44 xf_12_28 gx9 ?_
    obtain ⟨h10, gh10, H⟩ := Option.bind_eq_some_iff.mp H
    refine wq_callS (as := [.ref x8, .ref x9]) (r := []) (v1 := none) xi_244 xi_168 dX12_loser_47 xm_12_259 rfl (Nat.le_of_ble_eq_true rfl) ⟨(Nat.le_of_ble_eq_true rfl), (Nat.le_of_ble_eq_true rfl)⟩ rfl nofun (e_168 (d + 5) _ gh10 ⟨rfl, rfl⟩) ?_
    change Wp _ _ _ _ [] _ _
    refine wp_sipush 10000 xi_244 dX12_loser_50 rfl ?_
    refine wp_istore_n [some (.ref a), some (.int p0), some (.int 10000), none, none, none] xi_244 dX12_loser_53 rfl ?_
    refine wp_iload_n xi_244 dX12_loser_54 rfl ?_
    obtain ⟨⟨w16, h17⟩, G34, H⟩ := Option.bind_eq_some_iff.mp H
    dsimp only at H
    have K18 : Wp (d + 6) 244 70 [some (.ref a), some (.int p0), some (.int 10000), none, none, none] [.int w16] h17 Q := by
      refine wp_istore_n [some (.ref a), some (.int p0), some (.int 10000), some (.int w16), none, none] xi_244 dX12_loser_70 rfl ?_
      refine wp_iconst 0 xi_244 dX12_loser_71 rfl ?_
      refine wp_istore [some (.ref a), some (.int p0), some (.int 10000), some (.int w16), some (.int 0), none] xi_244 dX12_loser_72 rfl ?_
      obtain ⟨⟨w24, h23⟩, G25, H⟩ := Option.bind_eq_some_iff.mp H
      dsimp only at H
      refine Wp.more (by simp [xMore, Value.category]) (ef_244_74 d Q  100000 a p0 10000 w16 0 h17 _ G25 (fun z0 z1 e9 => ?_))
      cases e9
      refine wp_iconst 0 xi_244 dX12_loser_163 rfl ?_
      refine wp_istore [some (.ref a), none, some (.int w24), none, some (.int 0), none] xi_244 dX12_loser_164 rfl ?_
      refine wp_aload_n xi_244 dX12_loser_166 rfl ?_
      refine wp_iconst 0 xi_244 dX12_loser_167 rfl ?_
      obtain ⟨h27, gh27, H⟩ := Option.bind_eq_some_iff.mp H
      refine wq_putf xi_244 dX12_loser_168 xf_12_15 (Or.inl rfl) gh27 ?_
      refine wp_iconst 0 xi_244 dX12_loser_171 rfl ?_
      refine wp_istore [some (.ref a), none, some (.int w24), none, some (.int 0), some (.int 0)] xi_244 dX12_loser_172 rfl ?_
      obtain ⟨⟨w29, h28⟩, G30, H⟩ := Option.bind_eq_some_iff.mp H
      dsimp only at H
      refine Wp.more (by simp [xMore, Value.category]) (ef_244_174 d Q  100000 a w24 0 0 h27 _ G30 (fun z0 z1 e9 => ?_))
      cases e9
      refine wp_aload_n xi_244 dX12_loser_227 rfl ?_
      refine wp_iload_n xi_244 dX12_loser_228 rfl ?_
      refine wp_i2l xi_244 dX12_loser_229 ?_
      obtain ⟨u32, gu32, H⟩ := Option.bind_eq_some_iff.mp H
      obtain ⟨h33, gh33, H⟩ := Option.bind_eq_some_iff.mp H
      refine wq_callV (a := a) (as := [.long ((w24 : Int32).toInt64)]) (r := []) (v1 := none) xi_244 xi_165 dX12_loser_230 xm_12_279 rfl (Nat.le_of_ble_eq_true rfl) (pG_ok gu32) ⟨(Nat.le_of_ble_eq_true rfl), (Nat.le_of_ble_eq_true rfl)⟩ rfl nofun (e_165 (d + 5) _ gh33 ⟨rfl, rfl⟩) ?_
      change Wp _ _ _ _ [] _ _
      refine wp_iload xi_244 dX12_loser_233 rfl ?_
      obtain ⟨rfl, rfl⟩ := oi2 H
      exact wp_iret xi_244 dX12_loser_235 hq
    clear H
    have H := G34
    clear G34
    refine wp_if_le 69 xi_244 dX12_loser_55 rfl (fun c11 => ?_) (fun c11 => ?_)
    · rw [if_pos c11] at H
      refine wp_iconst (-1) xi_244 dX12_loser_69 rfl ?_
      simp only [Option.some.injEq, Prod.mk.injEq] at H
      obtain ⟨rfl, rfl⟩ := H
      exact Wp.more (by simp [xMore, Value.category]) K18
    · rw [if_neg c11] at H
      refine wp_aload_n xi_244 dX12_loser_58 rfl ?_
      refine wp_aload_n xi_244 dX12_loser_59 rfl ?_
      obtain ⟨x19, gx19, H⟩ := Option.bind_eq_some_iff.mp H
      refine wq_getfr xi_244 dX12_loser_60 xf_12_28 gx19 ?_
      obtain ⟨u20, gu20, H⟩ := Option.bind_eq_some_iff.mp H
      obtain ⟨⟨x22, h21⟩, gh21, H⟩ := Option.bind_eq_some_iff.mp H
      dsimp only at H
      refine wq_callV (a := a) (as := [.ref x19]) (r := []) (v1 := (some (.int x22))) xi_244 xi_211 dX12_loser_63 xm_12_322 rfl (Nat.le_of_ble_eq_true rfl) (pG_ok gu20) ⟨(Nat.le_of_ble_eq_true rfl), (Nat.le_of_ble_eq_true rfl)⟩ rfl nofun (e_211 d _ gh21 ⟨rfl, rfl⟩) ?_
      change Wp _ _ _ _ [.int x22] _ _
      refine wp_goto 70 xi_244 dX12_loser_66 rfl ?_
      simp only [Option.some.injEq, Prod.mk.injEq] at H
      obtain ⟨rfl, rfl⟩ := H
      exact Wp.more (by simp [xMore, Value.category]) K18
  · rw [if_pos c4] at H
    refine wp_iconst (-1) xi_244 dX12_loser_17 rfl ?_
    obtain ⟨rfl, rfl⟩ := oi2 H
    exact wp_iret xi_244 dX12_loser_18 hq
/- FelledHasLostModel.forgets()I -/
def f_245_12  : Nat → Nat → Int32 → Int32 → xH → Option (xH)
  | 0, _, _, _, _ => none
  | n + 1, a0, a1, a2, h =>
  (if (48 : Int32) ≤ a2 then
  some (h)
  else
  (pFr h a0 12 47).bind fun x2 =>
  (pSi h x2 a2 0).bind fun h3 =>
  (pFr h3 a0 12 48).bind fun x4 =>
  (pSi h3 x4 a2 9).bind fun h5 =>
  f_245_12 n a0 a1 (a2 + 1) h5)
theorem ef_245_12 (d : Nat) (Q : Option Value → xH → Prop)  : ∀ (n : Nat) (a0 : Nat) (a1 : Int32) (a2 : Int32) (h : xH) (r : xH), f_245_12 n a0 a1 a2 h = some r → (∀  (h1 : xH), r = h1 → Wp (d + 0) 245 39 [none, some (.int a1), none] [] h1 Q) → Wp (d + 0) 245 12 [some (.ref a0), some (.int a1), some (.int a2)] [] h Q := by
  intro n
  induction n with
  | zero =>
    intro a0 a1 a2 h r H
    cases H
  | succ n ih =>
    intro a0 a1 a2 h r H KE
    unfold f_245_12 at H
    refine wp_iload_n xi_245 dX12_forgets_12 rfl ?_
    refine wp_bipush 48 xi_245 dX12_forgets_13 rfl ?_
    refine wp_icmp_ge 39 xi_245 dX12_forgets_15 rfl (fun c1 => ?_) (fun c1 => ?_)
    · rw [if_pos c1] at H
      obtain rfl := Option.some.inj H
      exact Wp.more (by simp [xMore, Value.category]) (KE  h rfl)
    · rw [if_neg c1] at H
      refine wp_aload_n xi_245 dX12_forgets_18 rfl ?_
      obtain ⟨x2, gx2, H⟩ := Option.bind_eq_some_iff.mp H
      refine wq_getfr xi_245 dX12_forgets_19 xf_12_109 gx2 ?_
      refine wp_iload_n xi_245 dX12_forgets_22 rfl ?_
      refine wp_iconst 0 xi_245 dX12_forgets_23 rfl ?_
      obtain ⟨h3, gh3, H⟩ := Option.bind_eq_some_iff.mp H
      refine wq_iastore xi_245 dX12_forgets_24 gh3 ?_
      refine wp_aload_n xi_245 dX12_forgets_25 rfl ?_
      obtain ⟨x4, gx4, H⟩ := Option.bind_eq_some_iff.mp H
      refine wq_getfr xi_245 dX12_forgets_26 xf_12_112 gx4 ?_
      refine wp_iload_n xi_245 dX12_forgets_29 rfl ?_
      refine wp_bipush 9 xi_245 dX12_forgets_30 rfl ?_
      obtain ⟨h5, gh5, H⟩ := Option.bind_eq_some_iff.mp H
      refine wq_iastore xi_245 dX12_forgets_32 gh5 ?_
      refine wp_iinc (a2 + 1) [some (.ref a0), some (.int a1), some (.int (a2 + 1))] xi_245 dX12_forgets_33 rfl rfl rfl ?_
      refine wp_goto 12 xi_245 dX12_forgets_36 rfl ?_
      exact Wp.more (by simp [xMore, Value.category]) (ih a0 a1 (a2 + 1) h5 _ H KE)
def f_245  (a : Nat) (h : xH) : Option (Int32 × xH) :=
  (pFi h a 12 44).bind fun x1 =>
  (pP h a 12 44 (.int 0)).bind fun h2 =>
  (f_245_12 100000 a x1 0 h2).bind fun h3 =>
  some (x1, h3)
set_option maxHeartbeats 4000000 in
theorem e_245 (d : Nat) (Q : Option Value → xH → Prop)  {h : xH} {a : Nat} {x : Int32} {h1 : xH} (H : f_245  a h = some (x, h1)) (hq : Q (some (.int x)) h1) : Wp (d + 0) 245 0 [some (.ref a), none, none] [] h Q := by
  unfold f_245 at H
  refine wp_aload_n xi_245 dX12_forgets_0 rfl ?_
  obtain ⟨x1, gx1, H⟩ := Option.bind_eq_some_iff.mp H
  refine wq_getfi xi_245 dX12_forgets_1 xf_12_403 gx1 ?_
  refine wp_istore_n [some (.ref a), some (.int x1), none] xi_245 dX12_forgets_4 rfl ?_
  refine wp_aload_n xi_245 dX12_forgets_5 rfl ?_
  refine wp_iconst 0 xi_245 dX12_forgets_6 rfl ?_
  obtain ⟨h2, gh2, H⟩ := Option.bind_eq_some_iff.mp H
  refine wq_putf xi_245 dX12_forgets_7 xf_12_403 (Or.inl rfl) gh2 ?_
  refine wp_iconst 0 xi_245 dX12_forgets_10 rfl ?_
  refine wp_istore_n [some (.ref a), some (.int x1), some (.int 0)] xi_245 dX12_forgets_11 rfl ?_
  obtain ⟨h3, G4, H⟩ := Option.bind_eq_some_iff.mp H
  refine Wp.more (by simp [xMore, Value.category]) (ef_245_12 d Q  100000 a x1 0 h2 _ G4 (fun z0 e9 => ?_))
  cases e9
  refine wp_iload_n xi_245 dX12_forgets_39 rfl ?_
  obtain ⟨rfl, rfl⟩ := oi2 H
  exact wp_iret xi_245 dX12_forgets_40 hq
/- FelledHasLostModel.felt(II)I -/
def f_246  (a : Nat) (p0 : Int32) (p1 : Int32) (h : xH) : Option (Int32 × xH) :=
  (pP h a 12 0 (.int 0)).bind fun h1 =>
  (pFr h1 a 12 3).bind fun x2 =>
  (f_169 x2 p0 h1).bind fun (x4, h3) =>
  (if x4 = 0 then
  some ((-1), h3)
  else
  (f_162 ((p1 : Int32).toInt64) (0 : Int64) (1 : Int64) h3).bind fun (x7, h6) =>
  (if x7 = 0 then
  some ((-1), h6)
  else
  (pFi h6 a 12 44).bind fun x9 =>
  (if x9 = 20 then
  some ((-1), h6)
  else
  (pFr h6 a 12 45).bind fun x11 =>
  (pFi h6 a 12 44).bind fun x12 =>
  (pSi h6 x11 x12 p0).bind fun h13 =>
  (pFr h13 a 12 46).bind fun x14 =>
  (pFi h13 a 12 44).bind fun x15 =>
  (pSi h13 x14 x15 p1).bind fun h16 =>
  (pFi h16 a 12 44).bind fun x17 =>
  (pP h16 a 12 44 (.int (x17 + 1))).bind fun h18 =>
  (pFi h18 a 12 44).bind fun x19 =>
  some (x19, h18))))
set_option maxHeartbeats 4000000 in
theorem e_246 (d : Nat) (Q : Option Value → xH → Prop)  {h : xH} {a : Nat} {p0 : Int32} {p1 : Int32} {x : Int32} {h1 : xH} (H : f_246  a p0 p1 h = some (x, h1)) (hq : Q (some (.int x)) h1) : Wp (d + 2) 246 0 [some (.ref a), some (.int p0), some (.int p1)] [] h Q := by
  unfold f_246 at H
  refine wp_aload_n xi_246 dX12_felt_0 rfl ?_
  refine wp_iconst 0 xi_246 dX12_felt_1 rfl ?_
  obtain ⟨h1, gh1, H⟩ := Option.bind_eq_some_iff.mp H
  refine wq_putf xi_246 dX12_felt_2 xf_12_3 (Or.inl rfl) gh1 ?_
  refine wp_aload_n xi_246 dX12_felt_5 rfl ?_
  obtain ⟨x2, gx2, H⟩ := Option.bind_eq_some_iff.mp H
  refine wq_getfr xi_246 dX12_felt_6 xf_12_24 gx2 ?_
  refine wp_iload_n xi_246 dX12_felt_9 rfl ?_
  obtain ⟨⟨x4, h3⟩, gh3, H⟩ := Option.bind_eq_some_iff.mp H
  dsimp only at H
  refine wq_callS (as := [.ref x2, .int p0]) (r := []) (v1 := (some (.int x4))) xi_246 xi_169 dX12_felt_10 xm_12_244 rfl (Nat.le_of_ble_eq_true rfl) ⟨(Nat.le_of_ble_eq_true rfl), (Nat.le_of_ble_eq_true rfl)⟩ rfl nofun (e_169 d _ gh3 ⟨rfl, rfl⟩) ?_
  change Wp _ _ _ _ [.int x4] _ _
  refine wp_if_eq 35 xi_246 dX12_felt_13 rfl (fun c5 => ?_) (fun c5 => ?_)
  · rw [if_pos c5] at H
    refine wp_iconst (-1) xi_246 dX12_felt_35 rfl ?_
    obtain ⟨rfl, rfl⟩ := oi2 H
    exact wp_iret xi_246 dX12_felt_36 hq
  · rw [if_neg c5] at H
    refine wp_iload_n xi_246 dX12_felt_16 rfl ?_
    refine wp_i2l xi_246 dX12_felt_17 ?_
    refine wp_lconst 0 xi_246 dX12_felt_18 rfl ?_
    refine wp_lconst 1 xi_246 dX12_felt_19 rfl ?_
    obtain ⟨⟨x7, h6⟩, gh6, H⟩ := Option.bind_eq_some_iff.mp H
    dsimp only at H
    refine wq_callS (as := [.long ((p1 : Int32).toInt64), .long (0 : Int64), .long (1 : Int64)]) (r := []) (v1 := (some (.int x7))) xi_246 xi_162 dX12_felt_20 xm_12_135 rfl (Nat.le_of_ble_eq_true rfl) ⟨(Nat.le_of_ble_eq_true rfl), (Nat.le_of_ble_eq_true rfl)⟩ rfl nofun (e_162 (d + 1) _ gh6 ⟨rfl, rfl⟩) ?_
    change Wp _ _ _ _ [.int x7] _ _
    refine wp_if_eq 35 xi_246 dX12_felt_23 rfl (fun c8 => ?_) (fun c8 => ?_)
    · rw [if_pos c8] at H
      refine wp_iconst (-1) xi_246 dX12_felt_35 rfl ?_
      obtain ⟨rfl, rfl⟩ := oi2 H
      exact wp_iret xi_246 dX12_felt_36 hq
    · rw [if_neg c8] at H
      refine wp_aload_n xi_246 dX12_felt_26 rfl ?_
      obtain ⟨x9, gx9, H⟩ := Option.bind_eq_some_iff.mp H
      refine wq_getfi xi_246 dX12_felt_27 xf_12_403 gx9 ?_
      refine wp_bipush 20 xi_246 dX12_felt_30 rfl ?_
      refine wp_icmp_ne 37 xi_246 dX12_felt_32 rfl (fun c10 => ?_) (fun c10 => ?_)
      · rw [if_neg c10] at H
        refine wp_aload_n xi_246 dX12_felt_37 rfl ?_
        obtain ⟨x11, gx11, H⟩ := Option.bind_eq_some_iff.mp H
        refine wq_getfr xi_246 dX12_felt_38 xf_12_103 gx11 ?_
        refine wp_aload_n xi_246 dX12_felt_41 rfl ?_
        obtain ⟨x12, gx12, H⟩ := Option.bind_eq_some_iff.mp H
        refine wq_getfi xi_246 dX12_felt_42 xf_12_403 gx12 ?_
        refine wp_iload_n xi_246 dX12_felt_45 rfl ?_
        obtain ⟨h13, gh13, H⟩ := Option.bind_eq_some_iff.mp H
        refine wq_iastore xi_246 dX12_felt_46 gh13 ?_
        refine wp_aload_n xi_246 dX12_felt_47 rfl ?_
        obtain ⟨x14, gx14, H⟩ := Option.bind_eq_some_iff.mp H
        refine wq_getfr xi_246 dX12_felt_48 xf_12_106 gx14 ?_
        refine wp_aload_n xi_246 dX12_felt_51 rfl ?_
        obtain ⟨x15, gx15, H⟩ := Option.bind_eq_some_iff.mp H
        refine wq_getfi xi_246 dX12_felt_52 xf_12_403 gx15 ?_
        refine wp_iload_n xi_246 dX12_felt_55 rfl ?_
        obtain ⟨h16, gh16, H⟩ := Option.bind_eq_some_iff.mp H
        refine wq_iastore xi_246 dX12_felt_56 gh16 ?_
        refine wp_aload_n xi_246 dX12_felt_57 rfl ?_
        refine wp_dup xi_246 dX12_felt_58 rfl ?_
        obtain ⟨x17, gx17, H⟩ := Option.bind_eq_some_iff.mp H
        refine wq_getfi xi_246 dX12_felt_59 xf_12_403 gx17 ?_
        refine wp_iconst 1 xi_246 dX12_felt_62 rfl ?_
        refine wp_iadd xi_246 dX12_felt_63 ?_
        obtain ⟨h18, gh18, H⟩ := Option.bind_eq_some_iff.mp H
        refine wq_putf xi_246 dX12_felt_64 xf_12_403 (Or.inl rfl) gh18 ?_
        refine wp_aload_n xi_246 dX12_felt_67 rfl ?_
        obtain ⟨x19, gx19, H⟩ := Option.bind_eq_some_iff.mp H
        refine wq_getfi xi_246 dX12_felt_68 xf_12_403 gx19 ?_
        obtain ⟨rfl, rfl⟩ := oi2 H
        exact wp_iret xi_246 dX12_felt_71 hq
      · rw [if_pos c10] at H
        refine wp_iconst (-1) xi_246 dX12_felt_35 rfl ?_
        obtain ⟨rfl, rfl⟩ := oi2 H
        exact wp_iret xi_246 dX12_felt_36 hq
/- FelledHasLostModel.known(III)Z -/
def f_247  (a : Nat) (p0 : Int32) (p1 : Int32) (p2 : Int32) (h : xH) : Option (Int32 × xH) :=
  (pP h a 12 0 (.int 0)).bind fun h1 =>
  (pFr h1 a 12 3).bind fun x2 =>
  (f_169 x2 p0 h1).bind fun (x4, h3) =>
  (if x4 = 0 then
  pZ 0 h3
  else
  (f_162 ((p1 : Int32).toInt64) (0 : Int64) (9 : Int64) h3).bind fun (x7, h6) =>
  (if x7 = 0 then
  pZ 0 h6
  else
  (f_162 ((p2 : Int32).toInt64) ((p1 : Int32).toInt64) (9 : Int64) h6).bind fun (x10, h9) =>
  (if x10 = 0 then
  pZ 0 h9
  else
  (pFr h9 a 12 47).bind fun x12 =>
  (pSi h9 x12 p0 p1).bind fun h13 =>
  (pFr h13 a 12 48).bind fun x14 =>
  (pSi h13 x14 p0 p2).bind fun h15 =>
  pZ 1 h15)))
set_option maxHeartbeats 4000000 in
theorem e_247 (d : Nat) (Q : Option Value → xH → Prop)  {h : xH} {a : Nat} {p0 : Int32} {p1 : Int32} {p2 : Int32} {x : Int32} {h1 : xH} (H : f_247  a p0 p1 p2 h = some (x, h1)) (hq : Q (some (.int x)) h1) : Wp (d + 2) 247 0 [some (.ref a), some (.int p0), some (.int p1), some (.int p2)] [] h Q := by
  unfold f_247 at H
  refine wp_aload_n xi_247 dX12_known_0 rfl ?_
  refine wp_iconst 0 xi_247 dX12_known_1 rfl ?_
  obtain ⟨h1, gh1, H⟩ := Option.bind_eq_some_iff.mp H
  refine wq_putf xi_247 dX12_known_2 xf_12_3 (Or.inl rfl) gh1 ?_
  refine wp_aload_n xi_247 dX12_known_5 rfl ?_
  obtain ⟨x2, gx2, H⟩ := Option.bind_eq_some_iff.mp H
  refine wq_getfr xi_247 dX12_known_6 xf_12_24 gx2 ?_
  refine wp_iload_n xi_247 dX12_known_9 rfl ?_
  obtain ⟨⟨x4, h3⟩, gh3, H⟩ := Option.bind_eq_some_iff.mp H
  dsimp only at H
  refine wq_callS (as := [.ref x2, .int p0]) (r := []) (v1 := (some (.int x4))) xi_247 xi_169 dX12_known_10 xm_12_244 rfl (Nat.le_of_ble_eq_true rfl) ⟨(Nat.le_of_ble_eq_true rfl), (Nat.le_of_ble_eq_true rfl)⟩ rfl nofun (e_169 d _ gh3 ⟨rfl, rfl⟩) ?_
  change Wp _ _ _ _ [.int x4] _ _
  refine wp_if_eq 41 xi_247 dX12_known_13 rfl (fun c5 => ?_) (fun c5 => ?_)
  · rw [if_pos c5] at H
    refine wp_iconst 0 xi_247 dX12_known_41 rfl ?_
    obtain ⟨gz, hz⟩ := pZ_ok H
    obtain ⟨rfl, rfl⟩ := Prod.mk.inj hz
    exact wp_zret xi_247 dX12_known_42 gz hq
  · rw [if_neg c5] at H
    refine wp_iload_n xi_247 dX12_known_16 rfl ?_
    refine wp_i2l xi_247 dX12_known_17 ?_
    refine wp_lconst 0 xi_247 dX12_known_18 rfl ?_
    refine wp_ldc2 xi_247 dX12_known_19 xl_12_272 ?_
    obtain ⟨⟨x7, h6⟩, gh6, H⟩ := Option.bind_eq_some_iff.mp H
    dsimp only at H
    refine wq_callS (as := [.long ((p1 : Int32).toInt64), .long (0 : Int64), .long (9 : Int64)]) (r := []) (v1 := (some (.int x7))) xi_247 xi_162 dX12_known_22 xm_12_135 rfl (Nat.le_of_ble_eq_true rfl) ⟨(Nat.le_of_ble_eq_true rfl), (Nat.le_of_ble_eq_true rfl)⟩ rfl nofun (e_162 (d + 1) _ gh6 ⟨rfl, rfl⟩) ?_
    change Wp _ _ _ _ [.int x7] _ _
    refine wp_if_eq 41 xi_247 dX12_known_25 rfl (fun c8 => ?_) (fun c8 => ?_)
    · rw [if_pos c8] at H
      refine wp_iconst 0 xi_247 dX12_known_41 rfl ?_
      obtain ⟨gz, hz⟩ := pZ_ok H
      obtain ⟨rfl, rfl⟩ := Prod.mk.inj hz
      exact wp_zret xi_247 dX12_known_42 gz hq
    · rw [if_neg c8] at H
      refine wp_iload_n xi_247 dX12_known_28 rfl ?_
      refine wp_i2l xi_247 dX12_known_29 ?_
      refine wp_iload_n xi_247 dX12_known_30 rfl ?_
      refine wp_i2l xi_247 dX12_known_31 ?_
      refine wp_ldc2 xi_247 dX12_known_32 xl_12_272 ?_
      obtain ⟨⟨x10, h9⟩, gh9, H⟩ := Option.bind_eq_some_iff.mp H
      dsimp only at H
      refine wq_callS (as := [.long ((p2 : Int32).toInt64), .long ((p1 : Int32).toInt64), .long (9 : Int64)]) (r := []) (v1 := (some (.int x10))) xi_247 xi_162 dX12_known_35 xm_12_135 rfl (Nat.le_of_ble_eq_true rfl) ⟨(Nat.le_of_ble_eq_true rfl), (Nat.le_of_ble_eq_true rfl)⟩ rfl nofun (e_162 (d + 1) _ gh9 ⟨rfl, rfl⟩) ?_
      change Wp _ _ _ _ [.int x10] _ _
      refine wp_if_ne 43 xi_247 dX12_known_38 rfl (fun c11 => ?_) (fun c11 => ?_)
      · rw [if_neg c11] at H
        refine wp_aload_n xi_247 dX12_known_43 rfl ?_
        obtain ⟨x12, gx12, H⟩ := Option.bind_eq_some_iff.mp H
        refine wq_getfr xi_247 dX12_known_44 xf_12_109 gx12 ?_
        refine wp_iload_n xi_247 dX12_known_47 rfl ?_
        refine wp_iload_n xi_247 dX12_known_48 rfl ?_
        obtain ⟨h13, gh13, H⟩ := Option.bind_eq_some_iff.mp H
        refine wq_iastore xi_247 dX12_known_49 gh13 ?_
        refine wp_aload_n xi_247 dX12_known_50 rfl ?_
        obtain ⟨x14, gx14, H⟩ := Option.bind_eq_some_iff.mp H
        refine wq_getfr xi_247 dX12_known_51 xf_12_112 gx14 ?_
        refine wp_iload_n xi_247 dX12_known_54 rfl ?_
        refine wp_iload_n xi_247 dX12_known_55 rfl ?_
        obtain ⟨h15, gh15, H⟩ := Option.bind_eq_some_iff.mp H
        refine wq_iastore xi_247 dX12_known_56 gh15 ?_
        refine wp_iconst 1 xi_247 dX12_known_57 rfl ?_
        obtain ⟨gz, hz⟩ := pZ_ok H
        obtain ⟨rfl, rfl⟩ := Prod.mk.inj hz
        exact wp_zret xi_247 dX12_known_58 gz hq
      · rw [if_pos c11] at H
        refine wp_iconst 0 xi_247 dX12_known_41 rfl ?_
        obtain ⟨gz, hz⟩ := pZ_ok H
        obtain ⟨rfl, rfl⟩ := Prod.mk.inj hz
        exact wp_zret xi_247 dX12_known_42 gz hq
/- FelledHasLostModel.forget()I -/
def f_248  (a : Nat) (h : xH) : Option (Int32 × xH) :=
  (pP h a 12 0 (.int 0)).bind fun h1 =>
  (pG (pIs h1 a 12)).bind fun _ =>
  (f_245 a h1).bind fun (x4, h3) =>
  some (x4, h3)
set_option maxHeartbeats 4000000 in
theorem e_248 (d : Nat) (Q : Option Value → xH → Prop)  {h : xH} {a : Nat} {x : Int32} {h1 : xH} (H : f_248  a h = some (x, h1)) (hq : Q (some (.int x)) h1) : Wp (d + 1) 248 0 [some (.ref a)] [] h Q := by
  unfold f_248 at H
  refine wp_aload_n xi_248 dX12_forget_0 rfl ?_
  refine wp_iconst 0 xi_248 dX12_forget_1 rfl ?_
  obtain ⟨h1, gh1, H⟩ := Option.bind_eq_some_iff.mp H
  refine wq_putf xi_248 dX12_forget_2 xf_12_3 (Or.inl rfl) gh1 ?_
  refine wp_aload_n xi_248 dX12_forget_5 rfl ?_
  obtain ⟨u2, gu2, H⟩ := Option.bind_eq_some_iff.mp H
  obtain ⟨⟨x4, h3⟩, gh3, H⟩ := Option.bind_eq_some_iff.mp H
  dsimp only at H
  refine wq_callV (a := a) (as := []) (r := []) (v1 := (some (.int x4))) xi_248 xi_245 dX12_forget_6 xm_12_129 rfl (Nat.le_of_ble_eq_true rfl) (pG_ok gu2) ⟨(Nat.le_of_ble_eq_true rfl), (Nat.le_of_ble_eq_true rfl)⟩ rfl nofun (e_245 d _ gh3 ⟨rfl, rfl⟩) ?_
  change Wp _ _ _ _ [.int x4] _ _
  obtain ⟨rfl, rfl⟩ := oi2 H
  exact wp_iret xi_248 dX12_forget_9 hq
/- FelledHasLostModel.canBe([II)Z -/
def f_249_12  : Nat → Nat → Nat → Int32 → Int32 → Int32 → Int32 → xH → Option (Int32 × xH)
  | 0, _, _, _, _, _, _, _ => none
  | n + 1, a0, a1, a2, a3, a4, a5, h =>
  (pFi h a0 12 44).bind fun x1 =>
  (if x1 ≤ a5 then
  some (a4, h)
  else
  (if a4 = 0 then
  some (a4, h)
  else
  (pFr h a0 12 45).bind fun x4 =>
  (pAi h x4 a5).bind fun x5 =>
  (pDiv x5 3).bind fun x6 =>
  ((if x6 = a2 then
  (pAi h a1 x5).bind fun x16 =>
  (if x16 < 0 then
  some (1)
  else
  (pRem x5 3).bind fun x18 =>
  (pFr h a0 12 46).bind fun x19 =>
  (pAi h x19 a5).bind fun x20 =>
  (if ((a3 >>> (x18 &&& 31)) &&& 1) = x20 then
  some (1)
  else
  some (0)))
  else
  some (1) : Option (Int32))).bind fun (w14 : Int32) =>
  f_249_12 n a0 a1 a2 a3 w14 (a5 + 1) h))
theorem ef_249_12 (d : Nat) (Q : Option Value → xH → Prop)  : ∀ (n : Nat) (a0 : Nat) (a1 : Nat) (a2 : Int32) (a3 : Int32) (a4 : Int32) (a5 : Int32) (h : xH) (r : Int32 × xH), f_249_12 n a0 a1 a2 a3 a4 a5 h = some r → (∀ (w4 : Int32) (h1 : xH), r = (w4, h1) → Wp (d + 1) 249 81 [none, none, none, none, some (.int w4), none, none] [] h1 Q) → Wp (d + 1) 249 12 [some (.ref a0), some (.ref a1), some (.int a2), some (.int a3), some (.int a4), some (.int a5), none] [] h Q := by
  intro n
  induction n with
  | zero =>
    intro a0 a1 a2 a3 a4 a5 h r H
    cases H
  | succ n ih =>
    intro a0 a1 a2 a3 a4 a5 h r H KE
    unfold f_249_12 at H
    refine wp_iload xi_249 dX12_canBe_12 rfl ?_
    refine wp_aload_n xi_249 dX12_canBe_14 rfl ?_
    obtain ⟨x1, gx1, H⟩ := Option.bind_eq_some_iff.mp H
    refine wq_getfi xi_249 dX12_canBe_15 xf_12_403 gx1 ?_
    refine wp_icmp_ge 81 xi_249 dX12_canBe_18 rfl (fun c2 => ?_) (fun c2 => ?_)
    · rw [if_pos c2] at H
      obtain rfl := Option.some.inj H
      exact Wp.more (by simp [xMore, Value.category]) (KE a4 h rfl)
    · rw [if_neg c2] at H
      refine wp_iload xi_249 dX12_canBe_21 rfl ?_
      refine wp_if_eq 81 xi_249 dX12_canBe_23 rfl (fun c3 => ?_) (fun c3 => ?_)
      · rw [if_pos c3] at H
        obtain rfl := Option.some.inj H
        exact Wp.more (by simp [xMore, Value.category]) (KE a4 h rfl)
      · rw [if_neg c3] at H
        refine wp_aload_n xi_249 dX12_canBe_26 rfl ?_
        obtain ⟨x4, gx4, H⟩ := Option.bind_eq_some_iff.mp H
        refine wq_getfr xi_249 dX12_canBe_27 xf_12_103 gx4 ?_
        refine wp_iload xi_249 dX12_canBe_30 rfl ?_
        obtain ⟨x5, gx5, H⟩ := Option.bind_eq_some_iff.mp H
        refine wq_iaload xi_249 dX12_canBe_32 gx5 ?_
        refine wp_istore [some (.ref a0), some (.ref a1), some (.int a2), some (.int a3), some (.int a4), some (.int a5), some (.int x5)] xi_249 dX12_canBe_33 rfl ?_
        refine wp_iload xi_249 dX12_canBe_35 rfl ?_
        refine wp_iconst 3 xi_249 dX12_canBe_37 rfl ?_
        obtain ⟨x6, gx6, H⟩ := Option.bind_eq_some_iff.mp H
        refine wq_idiv xi_249 dX12_canBe_38 gx6 ?_
        refine wp_iload_n xi_249 dX12_canBe_39 rfl ?_
        obtain ⟨w14, G22, H⟩ := Option.bind_eq_some_iff.mp H
        have K15 : Wp (d + 1) 249 73 [some (.ref a0), some (.ref a1), some (.int a2), some (.int a3), some (.int a4), some (.int a5), some (.int x5)] [.int w14] h Q := by
          refine wp_istore [some (.ref a0), some (.ref a1), some (.int a2), some (.int a3), some (.int w14), some (.int a5), some (.int x5)] xi_249 dX12_canBe_73 rfl ?_
          refine wp_iinc (a5 + 1) [some (.ref a0), some (.ref a1), some (.int a2), some (.int a3), some (.int w14), some (.int (a5 + 1)), some (.int x5)] xi_249 dX12_canBe_75 rfl rfl rfl ?_
          refine wp_goto 12 xi_249 dX12_canBe_78 rfl ?_
          exact Wp.more (by simp [xMore, Value.category]) (ih a0 a1 a2 a3 w14 (a5 + 1) h _ H KE)
        clear H
        have H := G22
        clear G22
        refine wp_icmp_ne 68 xi_249 dX12_canBe_40 rfl (fun c7 => ?_) (fun c7 => ?_)
        · rw [if_neg c7] at H
          refine wp_iconst 1 xi_249 dX12_canBe_68 rfl ?_
          refine wp_goto 73 xi_249 dX12_canBe_69 rfl ?_
          obtain rfl := Option.some.inj H
          exact Wp.more (by simp [xMore, Value.category]) K15
        · rw [if_pos c7] at H
          refine wp_aload_n xi_249 dX12_canBe_43 rfl ?_
          refine wp_iload xi_249 dX12_canBe_44 rfl ?_
          obtain ⟨x16, gx16, H⟩ := Option.bind_eq_some_iff.mp H
          refine wq_iaload xi_249 dX12_canBe_46 gx16 ?_
          refine wp_if_lt 68 xi_249 dX12_canBe_47 rfl (fun c17 => ?_) (fun c17 => ?_)
          · rw [if_pos c17] at H
            refine wp_iconst 1 xi_249 dX12_canBe_68 rfl ?_
            refine wp_goto 73 xi_249 dX12_canBe_69 rfl ?_
            obtain rfl := Option.some.inj H
            exact Wp.more (by simp [xMore, Value.category]) K15
          · rw [if_neg c17] at H
            refine wp_iload_n xi_249 dX12_canBe_50 rfl ?_
            refine wp_iload xi_249 dX12_canBe_51 rfl ?_
            refine wp_iconst 3 xi_249 dX12_canBe_53 rfl ?_
            obtain ⟨x18, gx18, H⟩ := Option.bind_eq_some_iff.mp H
            refine wq_irem xi_249 dX12_canBe_54 gx18 ?_
            refine wp_ishr xi_249 dX12_canBe_55 ?_
            refine wp_iconst 1 xi_249 dX12_canBe_56 rfl ?_
            refine wp_iand xi_249 dX12_canBe_57 ?_
            refine wp_aload_n xi_249 dX12_canBe_58 rfl ?_
            obtain ⟨x19, gx19, H⟩ := Option.bind_eq_some_iff.mp H
            refine wq_getfr xi_249 dX12_canBe_59 xf_12_106 gx19 ?_
            refine wp_iload xi_249 dX12_canBe_62 rfl ?_
            obtain ⟨x20, gx20, H⟩ := Option.bind_eq_some_iff.mp H
            refine wq_iaload xi_249 dX12_canBe_64 gx20 ?_
            refine wp_icmp_ne 72 xi_249 dX12_canBe_65 rfl (fun c21 => ?_) (fun c21 => ?_)
            · rw [if_neg c21] at H
              refine wp_iconst 0 xi_249 dX12_canBe_72 rfl ?_
              obtain rfl := Option.some.inj H
              exact Wp.more (by simp [xMore, Value.category]) K15
            · rw [if_pos c21] at H
              refine wp_iconst 1 xi_249 dX12_canBe_68 rfl ?_
              refine wp_goto 73 xi_249 dX12_canBe_69 rfl ?_
              obtain rfl := Option.some.inj H
              exact Wp.more (by simp [xMore, Value.category]) K15
def f_249  (a : Nat) (p0 : Nat) (p1 : Int32) (h : xH) : Option (Int32 × xH) :=
  (f_185 p0 p1 h).bind fun (x2, h1) =>
  (f_249_12 100000 a p0 p1 x2 1 0 h1).bind fun (w4, h3) =>
  pZ w4 h3
set_option maxHeartbeats 4000000 in
theorem e_249 (d : Nat) (Q : Option Value → xH → Prop)  {h : xH} {a : Nat} {p0 : Nat} {p1 : Int32} {x : Int32} {h1 : xH} (H : f_249  a p0 p1 h = some (x, h1)) (hq : Q (some (.int x)) h1) : Wp (d + 1) 249 0 [some (.ref a), some (.ref p0), some (.int p1), none, none, none, none] [] h Q := by
  unfold f_249 at H
  refine wp_aload_n xi_249 dX12_canBe_0 rfl ?_
  refine wp_iload_n xi_249 dX12_canBe_1 rfl ?_
  obtain ⟨⟨x2, h1⟩, gh1, H⟩ := Option.bind_eq_some_iff.mp H
  dsimp only at H
  refine wq_callS (as := [.ref p0, .int p1]) (r := []) (v1 := (some (.int x2))) xi_249 xi_185 dX12_canBe_2 xm_12_227 rfl (Nat.le_of_ble_eq_true rfl) ⟨(Nat.le_of_ble_eq_true rfl), (Nat.le_of_ble_eq_true rfl)⟩ rfl nofun (e_185 d _ gh1 ⟨rfl, rfl⟩) ?_
  change Wp _ _ _ _ [.int x2] _ _
  refine wp_istore_n [some (.ref a), some (.ref p0), some (.int p1), some (.int x2), none, none, none] xi_249 dX12_canBe_5 rfl ?_
  refine wp_iconst 1 xi_249 dX12_canBe_6 rfl ?_
  refine wp_istore [some (.ref a), some (.ref p0), some (.int p1), some (.int x2), some (.int 1), none, none] xi_249 dX12_canBe_7 rfl ?_
  refine wp_iconst 0 xi_249 dX12_canBe_9 rfl ?_
  refine wp_istore [some (.ref a), some (.ref p0), some (.int p1), some (.int x2), some (.int 1), some (.int 0), none] xi_249 dX12_canBe_10 rfl ?_
  obtain ⟨⟨w4, h3⟩, G5, H⟩ := Option.bind_eq_some_iff.mp H
  dsimp only at H
  refine Wp.more (by simp [xMore, Value.category]) (ef_249_12 d Q  100000 a p0 p1 x2 1 0 h1 _ G5 (fun z0 z1 e9 => ?_))
  cases e9
  refine wp_iload xi_249 dX12_canBe_81 rfl ?_
  obtain ⟨gz, hz⟩ := pZ_ok H
  obtain ⟨rfl, rfl⟩ := Prod.mk.inj hz
  exact wp_zret xi_249 dX12_canBe_83 gz hq
/- FelledHasLostModel.low(I)I -/
def f_251  (a : Nat) (p0 : Int32) (h : xH) : Option (Int32 × xH) :=
  (pFr h a 12 3).bind fun x1 =>
  (pAi h x1 p0).bind fun x2 =>
  ((if (0 : Int32) ≤ x2 then
  (pFr h a 12 47).bind fun x8 =>
  (pAi h x8 p0).bind fun x9 =>
  some (x9)
  else
  some ((-1)) : Option (Int32))).bind fun (w6 : Int32) =>
  some (w6, h)
set_option maxHeartbeats 4000000 in
theorem e_251 (d : Nat) (Q : Option Value → xH → Prop)  {h : xH} {a : Nat} {p0 : Int32} {x : Int32} {h1 : xH} (H : f_251  a p0 h = some (x, h1)) (hq : Q (some (.int x)) h1) : Wp (d + 0) 251 0 [some (.ref a), some (.int p0)] [] h Q := by
  unfold f_251 at H
  refine wp_aload_n xi_251 dX12_low_0 rfl ?_
  obtain ⟨x1, gx1, H⟩ := Option.bind_eq_some_iff.mp H
  refine wq_getfr xi_251 dX12_low_1 xf_12_24 gx1 ?_
  refine wp_iload_n xi_251 dX12_low_4 rfl ?_
  obtain ⟨x2, gx2, H⟩ := Option.bind_eq_some_iff.mp H
  refine wq_iaload xi_251 dX12_low_5 gx2 ?_
  obtain ⟨w6, G10, H⟩ := Option.bind_eq_some_iff.mp H
  have K7 : Wp (d + 0) 251 19 [some (.ref a), some (.int p0)] [.int w6] h Q := by
    obtain ⟨rfl, rfl⟩ := oi2 H
    exact wp_iret xi_251 dX12_low_19 hq
  clear H
  have H := G10
  clear G10
  refine wp_if_ge 13 xi_251 dX12_low_6 rfl (fun c3 => ?_) (fun c3 => ?_)
  · rw [if_pos c3] at H
    refine wp_aload_n xi_251 dX12_low_13 rfl ?_
    obtain ⟨x8, gx8, H⟩ := Option.bind_eq_some_iff.mp H
    refine wq_getfr xi_251 dX12_low_14 xf_12_109 gx8 ?_
    refine wp_iload_n xi_251 dX12_low_17 rfl ?_
    obtain ⟨x9, gx9, H⟩ := Option.bind_eq_some_iff.mp H
    refine wq_iaload xi_251 dX12_low_18 gx9 ?_
    obtain rfl := Option.some.inj H
    exact Wp.more (by simp [xMore, Value.category]) K7
  · rw [if_neg c3] at H
    refine wp_iconst (-1) xi_251 dX12_low_9 rfl ?_
    refine wp_goto 19 xi_251 dX12_low_10 rfl ?_
    obtain rfl := Option.some.inj H
    exact Wp.more (by simp [xMore, Value.category]) K7
/- FelledHasLostModel.high(I)I -/
def f_252  (a : Nat) (p0 : Int32) (h : xH) : Option (Int32 × xH) :=
  (pFr h a 12 3).bind fun x1 =>
  (pAi h x1 p0).bind fun x2 =>
  ((if (0 : Int32) ≤ x2 then
  (pFr h a 12 48).bind fun x8 =>
  (pAi h x8 p0).bind fun x9 =>
  some (x9)
  else
  some ((-1)) : Option (Int32))).bind fun (w6 : Int32) =>
  some (w6, h)
set_option maxHeartbeats 4000000 in
theorem e_252 (d : Nat) (Q : Option Value → xH → Prop)  {h : xH} {a : Nat} {p0 : Int32} {x : Int32} {h1 : xH} (H : f_252  a p0 h = some (x, h1)) (hq : Q (some (.int x)) h1) : Wp (d + 0) 252 0 [some (.ref a), some (.int p0)] [] h Q := by
  unfold f_252 at H
  refine wp_aload_n xi_252 dX12_high__0 rfl ?_
  obtain ⟨x1, gx1, H⟩ := Option.bind_eq_some_iff.mp H
  refine wq_getfr xi_252 dX12_high__1 xf_12_24 gx1 ?_
  refine wp_iload_n xi_252 dX12_high__4 rfl ?_
  obtain ⟨x2, gx2, H⟩ := Option.bind_eq_some_iff.mp H
  refine wq_iaload xi_252 dX12_high__5 gx2 ?_
  obtain ⟨w6, G10, H⟩ := Option.bind_eq_some_iff.mp H
  have K7 : Wp (d + 0) 252 19 [some (.ref a), some (.int p0)] [.int w6] h Q := by
    obtain ⟨rfl, rfl⟩ := oi2 H
    exact wp_iret xi_252 dX12_high__19 hq
  clear H
  have H := G10
  clear G10
  refine wp_if_ge 13 xi_252 dX12_high__6 rfl (fun c3 => ?_) (fun c3 => ?_)
  · rw [if_pos c3] at H
    refine wp_aload_n xi_252 dX12_high__13 rfl ?_
    obtain ⟨x8, gx8, H⟩ := Option.bind_eq_some_iff.mp H
    refine wq_getfr xi_252 dX12_high__14 xf_12_112 gx8 ?_
    refine wp_iload_n xi_252 dX12_high__17 rfl ?_
    obtain ⟨x9, gx9, H⟩ := Option.bind_eq_some_iff.mp H
    refine wq_iaload xi_252 dX12_high__18 gx9 ?_
    obtain rfl := Option.some.inj H
    exact Wp.more (by simp [xMore, Value.category]) K7
  · rw [if_neg c3] at H
    refine wp_iconst (-1) xi_252 dX12_high__9 rfl ?_
    refine wp_goto 19 xi_252 dX12_high__10 rfl ?_
    obtain rfl := Option.some.inj H
    exact Wp.more (by simp [xMore, Value.category]) K7
/- FelledHasLostModel.digitOf(II)I -/
def f_253  (p0 : Int32) (p1 : Int32) (h : xH) : Option (Int32 × xH) :=
  ((if p1 = 0 then
  (pDiv p0 100).bind fun x13 =>
  some (x13)
  else
  (if p1 = 1 then
  (pDiv p0 10).bind fun x11 =>
  (pRem x11 10).bind fun x12 =>
  some (x12)
  else
  (pRem p0 10).bind fun x10 =>
  some (x10)) : Option (Int32))).bind fun (w7 : Int32) =>
  some (w7, h)
set_option maxHeartbeats 4000000 in
theorem e_253 (d : Nat) (Q : Option Value → xH → Prop)  {h : xH} {p0 : Int32} {p1 : Int32} {x : Int32} {h1 : xH} (H : f_253  p0 p1 h = some (x, h1)) (hq : Q (some (.int x)) h1) : Wp (d + 0) 253 0 [some (.int p0), some (.int p1)] [] h Q := by
  unfold f_253 at H
  refine wp_iload_n xi_253 dX12_digitOf_0 rfl ?_
  obtain ⟨w7, G14, H⟩ := Option.bind_eq_some_iff.mp H
  have K8 : Wp (d + 0) 253 30 [some (.int p0), some (.int p1)] [.int w7] h Q := by
    obtain ⟨rfl, rfl⟩ := oi2 H
    exact wp_iret xi_253 dX12_digitOf_30 hq
  clear H
  have H := G14
  clear G14
  refine wp_if_ne 11 xi_253 dX12_digitOf_1 rfl (fun c1 => ?_) (fun c1 => ?_)
  · rw [if_neg c1] at H
    refine wp_iload_n xi_253 dX12_digitOf_11 rfl ?_
    refine wp_iconst 1 xi_253 dX12_digitOf_12 rfl ?_
    refine wp_icmp_ne 26 xi_253 dX12_digitOf_13 rfl (fun c9 => ?_) (fun c9 => ?_)
    · rw [if_neg c9] at H
      refine wp_iload_n xi_253 dX12_digitOf_26 rfl ?_
      refine wp_bipush 10 xi_253 dX12_digitOf_27 rfl ?_
      obtain ⟨x10, gx10, H⟩ := Option.bind_eq_some_iff.mp H
      refine wq_irem xi_253 dX12_digitOf_29 gx10 ?_
      obtain rfl := Option.some.inj H
      exact Wp.more (by simp [xMore, Value.category]) K8
    · rw [if_pos c9] at H
      refine wp_iload_n xi_253 dX12_digitOf_16 rfl ?_
      refine wp_bipush 10 xi_253 dX12_digitOf_17 rfl ?_
      obtain ⟨x11, gx11, H⟩ := Option.bind_eq_some_iff.mp H
      refine wq_idiv xi_253 dX12_digitOf_19 gx11 ?_
      refine wp_bipush 10 xi_253 dX12_digitOf_20 rfl ?_
      obtain ⟨x12, gx12, H⟩ := Option.bind_eq_some_iff.mp H
      refine wq_irem xi_253 dX12_digitOf_22 gx12 ?_
      refine wp_goto 30 xi_253 dX12_digitOf_23 rfl ?_
      obtain rfl := Option.some.inj H
      exact Wp.more (by simp [xMore, Value.category]) K8
  · rw [if_pos c1] at H
    refine wp_iload_n xi_253 dX12_digitOf_4 rfl ?_
    refine wp_bipush 100 xi_253 dX12_digitOf_5 rfl ?_
    obtain ⟨x13, gx13, H⟩ := Option.bind_eq_some_iff.mp H
    refine wq_idiv xi_253 dX12_digitOf_7 gx13 ?_
    refine wp_goto 30 xi_253 dX12_digitOf_8 rfl ?_
    obtain rfl := Option.some.inj H
    exact Wp.more (by simp [xMore, Value.category]) K8
/- FelledHasLostModel.entersRow(II)V -/
def f_254_2  : Nat → Nat → Int32 → Int32 → Int32 → xH → Option (xH)
  | 0, _, _, _, _, _ => none
  | n + 1, a0, a1, a2, a3, h =>
  (if (3 : Int32) ≤ a3 then
  some (h)
  else
  (pFr h a0 12 3).bind fun x2 =>
  (pAi h x2 ((3 * a1) + a3)).bind fun x3 =>
  ((if x3 < 0 then
  some (h)
  else
  (f_253 a2 a3 h).bind fun (x12, h11) =>
  (pG (pIs h11 a0 12)).bind fun _ =>
  (f_165 a0 ((x12 : Int32).toInt64) h11).bind fun h14 =>
  some (h14) : Option (xH))).bind fun (h9 : xH) =>
  f_254_2 n a0 a1 a2 (a3 + 1) h9)
theorem ef_254_2 (d : Nat) (Q : Option Value → xH → Prop)  : ∀ (n : Nat) (a0 : Nat) (a1 : Int32) (a2 : Int32) (a3 : Int32) (h : xH) (r : xH), f_254_2 n a0 a1 a2 a3 h = some r → (∀  (h1 : xH), r = h1 → Wp (d + 1) 254 36 [none, none, none, none] [] h1 Q) → Wp (d + 1) 254 2 [some (.ref a0), some (.int a1), some (.int a2), some (.int a3)] [] h Q := by
  intro n
  induction n with
  | zero =>
    intro a0 a1 a2 a3 h r H
    cases H
  | succ n ih =>
    intro a0 a1 a2 a3 h r H KE
    unfold f_254_2 at H
    refine wp_iload_n xi_254 dX12_entersRow_2 rfl ?_
    refine wp_iconst 3 xi_254 dX12_entersRow_3 rfl ?_
    refine wp_icmp_ge 36 xi_254 dX12_entersRow_4 rfl (fun c1 => ?_) (fun c1 => ?_)
    · rw [if_pos c1] at H
      obtain rfl := Option.some.inj H
      exact Wp.more (by simp [xMore, Value.category]) (KE  h rfl)
    · rw [if_neg c1] at H
      refine wp_aload_n xi_254 dX12_entersRow_7 rfl ?_
      obtain ⟨x2, gx2, H⟩ := Option.bind_eq_some_iff.mp H
      refine wq_getfr xi_254 dX12_entersRow_8 xf_12_24 gx2 ?_
      refine wp_iconst 3 xi_254 dX12_entersRow_11 rfl ?_
      refine wp_iload_n xi_254 dX12_entersRow_12 rfl ?_
      refine wp_imul xi_254 dX12_entersRow_13 ?_
      refine wp_iload_n xi_254 dX12_entersRow_14 rfl ?_
      refine wp_iadd xi_254 dX12_entersRow_15 ?_
      obtain ⟨x3, gx3, H⟩ := Option.bind_eq_some_iff.mp H
      refine wq_iaload xi_254 dX12_entersRow_16 gx3 ?_
      obtain ⟨h9, G15, H⟩ := Option.bind_eq_some_iff.mp H
      have K10 : Wp (d + 1) 254 30 [some (.ref a0), some (.int a1), some (.int a2), some (.int a3)] [] h9 Q := by
        refine wp_iinc (a3 + 1) [some (.ref a0), some (.int a1), some (.int a2), some (.int (a3 + 1))] xi_254 dX12_entersRow_30 rfl rfl rfl ?_
        refine wp_goto 2 xi_254 dX12_entersRow_33 rfl ?_
        exact Wp.more (by simp [xMore, Value.category]) (ih a0 a1 a2 (a3 + 1) h9 _ H KE)
      clear H
      have H := G15
      clear G15
      refine wp_if_lt 30 xi_254 dX12_entersRow_17 rfl (fun c4 => ?_) (fun c4 => ?_)
      · rw [if_pos c4] at H
        obtain rfl := Option.some.inj H
        exact Wp.more (by simp [xMore, Value.category]) K10
      · rw [if_neg c4] at H
        refine wp_aload_n xi_254 dX12_entersRow_20 rfl ?_
        refine wp_iload_n xi_254 dX12_entersRow_21 rfl ?_
        refine wp_iload_n xi_254 dX12_entersRow_22 rfl ?_
        obtain ⟨⟨x12, h11⟩, gh11, H⟩ := Option.bind_eq_some_iff.mp H
        dsimp only at H
        refine wq_callS (as := [.int a2, .int a3]) (r := [.ref a0]) (v1 := (some (.int x12))) xi_254 xi_253 dX12_entersRow_23 xm_12_418 rfl (Nat.le_of_ble_eq_true rfl) ⟨(Nat.le_of_ble_eq_true rfl), (Nat.le_of_ble_eq_true rfl)⟩ rfl nofun (e_253 d _ gh11 ⟨rfl, rfl⟩) ?_
        change Wp _ _ _ _ [.int x12, .ref a0] _ _
        refine wp_i2l xi_254 dX12_entersRow_26 ?_
        obtain ⟨u13, gu13, H⟩ := Option.bind_eq_some_iff.mp H
        obtain ⟨h14, gh14, H⟩ := Option.bind_eq_some_iff.mp H
        refine wq_callV (a := a0) (as := [.long ((x12 : Int32).toInt64)]) (r := []) (v1 := none) xi_254 xi_165 dX12_entersRow_27 xm_12_279 rfl (Nat.le_of_ble_eq_true rfl) (pG_ok gu13) ⟨(Nat.le_of_ble_eq_true rfl), (Nat.le_of_ble_eq_true rfl)⟩ rfl nofun (e_165 d _ gh14 ⟨rfl, rfl⟩) ?_
        change Wp _ _ _ _ [] _ _
        obtain rfl := Option.some.inj H
        exact Wp.more (by simp [xMore, Value.category]) K10
def f_254  (a : Nat) (p0 : Int32) (p1 : Int32) (h : xH) : Option (xH) :=
  (f_254_2 100000 a p0 p1 0 h).bind fun h1 =>
  some h1
set_option maxHeartbeats 4000000 in
theorem e_254 (d : Nat) (Q : Option Value → xH → Prop)  {h : xH} {a : Nat} {p0 : Int32} {p1 : Int32} {h1 : xH} (H : f_254  a p0 p1 h = some h1) (hq : Q none h1) : Wp (d + 1) 254 0 [some (.ref a), some (.int p0), some (.int p1), none] [] h Q := by
  unfold f_254 at H
  refine wp_iconst 0 xi_254 dX12_entersRow_0 rfl ?_
  refine wp_istore_n [some (.ref a), some (.int p0), some (.int p1), some (.int 0)] xi_254 dX12_entersRow_1 rfl ?_
  obtain ⟨h1, G2, H⟩ := Option.bind_eq_some_iff.mp H
  refine Wp.more (by simp [xMore, Value.category]) (ef_254_2 d Q  100000 a p0 p1 0 h _ G2 (fun z0 e9 => ?_))
  cases e9
  obtain rfl := Option.some.inj H
  exact wp_vret xi_254 dX12_entersRow_36 hq
/- FelledHasLostModel.tightIn(I)I -/
def f_257_32  : Nat → Nat → Int32 → Int32 → Int32 → Int32 → Int32 → xH → Option (xH)
  | 0, _, _, _, _, _, _, _ => none
  | n + 1, a0, a1, a2, a3, a4, a5, h =>
  (if (3 : Int32) ≤ a5 then
  some (h)
  else
  (pFr h a0 12 4).bind fun x2 =>
  (pFr h a0 12 3).bind fun x3 =>
  (pAi h x3 ((3 * a2) + a5)).bind fun x4 =>
  ((if (0 : Int32) ≤ x4 then
  (pFr h a0 12 49).bind fun x13 =>
  (pAi h x13 a4).bind fun x14 =>
  (f_253 x14 a5 h).bind fun (x16, h15) =>
  some (x16, h15)
  else
  some ((-1), h) : Option (Int32 × xH))).bind fun (w10, h11) =>
  (pSi h11 x2 ((3 * a2) + a5) w10).bind fun h17 =>
  f_257_32 n a0 a1 a2 a3 a4 (a5 + 1) h17)
theorem ef_257_32 (d : Nat) (Q : Option Value → xH → Prop)  : ∀ (n : Nat) (a0 : Nat) (a1 : Int32) (a2 : Int32) (a3 : Int32) (a4 : Int32) (a5 : Int32) (h : xH) (r : xH), f_257_32 n a0 a1 a2 a3 a4 a5 h = some r → (∀  (h1 : xH), r = h1 → Wp (d + 2) 257 85 [some (.ref a0), some (.int a1), some (.int a2), some (.int a3), some (.int a4), none] [] h1 Q) → Wp (d + 2) 257 32 [some (.ref a0), some (.int a1), some (.int a2), some (.int a3), some (.int a4), some (.int a5)] [] h Q := by
  intro n
  induction n with
  | zero =>
    intro a0 a1 a2 a3 a4 a5 h r H
    cases H
  | succ n ih =>
    intro a0 a1 a2 a3 a4 a5 h r H KE
    unfold f_257_32 at H
    refine wp_iload xi_257 dX12_tightIn_32 rfl ?_
    refine wp_iconst 3 xi_257 dX12_tightIn_34 rfl ?_
    refine wp_icmp_ge 85 xi_257 dX12_tightIn_35 rfl (fun c1 => ?_) (fun c1 => ?_)
    · rw [if_pos c1] at H
      obtain rfl := Option.some.inj H
      exact Wp.more (by simp [xMore, Value.category]) (KE  h rfl)
    · rw [if_neg c1] at H
      refine wp_aload_n xi_257 dX12_tightIn_38 rfl ?_
      obtain ⟨x2, gx2, H⟩ := Option.bind_eq_some_iff.mp H
      refine wq_getfr xi_257 dX12_tightIn_39 xf_12_28 gx2 ?_
      refine wp_iconst 3 xi_257 dX12_tightIn_42 rfl ?_
      refine wp_iload_n xi_257 dX12_tightIn_43 rfl ?_
      refine wp_imul xi_257 dX12_tightIn_44 ?_
      refine wp_iload xi_257 dX12_tightIn_45 rfl ?_
      refine wp_iadd xi_257 dX12_tightIn_47 ?_
      refine wp_aload_n xi_257 dX12_tightIn_48 rfl ?_
      obtain ⟨x3, gx3, H⟩ := Option.bind_eq_some_iff.mp H
      refine wq_getfr xi_257 dX12_tightIn_49 xf_12_24 gx3 ?_
      refine wp_iconst 3 xi_257 dX12_tightIn_52 rfl ?_
      refine wp_iload_n xi_257 dX12_tightIn_53 rfl ?_
      refine wp_imul xi_257 dX12_tightIn_54 ?_
      refine wp_iload xi_257 dX12_tightIn_55 rfl ?_
      refine wp_iadd xi_257 dX12_tightIn_57 ?_
      obtain ⟨x4, gx4, H⟩ := Option.bind_eq_some_iff.mp H
      refine wq_iaload xi_257 dX12_tightIn_58 gx4 ?_
      obtain ⟨⟨w10, h11⟩, G18, H⟩ := Option.bind_eq_some_iff.mp H
      dsimp only at H
      have K12 : Wp (d + 2) 257 78 [some (.ref a0), some (.int a1), some (.int a2), some (.int a3), some (.int a4), some (.int a5)] [.int w10, .int ((3 * a2) + a5), .ref x2] h11 Q := by
        obtain ⟨h17, gh17, H⟩ := Option.bind_eq_some_iff.mp H
        refine wq_iastore xi_257 dX12_tightIn_78 gh17 ?_
        refine wp_iinc (a5 + 1) [some (.ref a0), some (.int a1), some (.int a2), some (.int a3), some (.int a4), some (.int (a5 + 1))] xi_257 dX12_tightIn_79 rfl rfl rfl ?_
        refine wp_goto 32 xi_257 dX12_tightIn_82 rfl ?_
        exact Wp.more (by simp [xMore, Value.category]) (ih a0 a1 a2 a3 a4 (a5 + 1) h17 _ H KE)
      clear H
      have H := G18
      clear G18
      refine wp_if_ge 66 xi_257 dX12_tightIn_59 rfl (fun c5 => ?_) (fun c5 => ?_)
      · rw [if_pos c5] at H
        refine wp_aload_n xi_257 dX12_tightIn_66 rfl ?_
        obtain ⟨x13, gx13, H⟩ := Option.bind_eq_some_iff.mp H
        refine wq_getfr xi_257 dX12_tightIn_67 xf_12_115 gx13 ?_
        refine wp_iload xi_257 dX12_tightIn_70 rfl ?_
        obtain ⟨x14, gx14, H⟩ := Option.bind_eq_some_iff.mp H
        refine wq_iaload xi_257 dX12_tightIn_72 gx14 ?_
        refine wp_iload xi_257 dX12_tightIn_73 rfl ?_
        obtain ⟨⟨x16, h15⟩, gh15, H⟩ := Option.bind_eq_some_iff.mp H
        dsimp only at H
        refine wq_callS (as := [.int x14, .int a5]) (r := [.int ((3 * a2) + a5), .ref x2]) (v1 := (some (.int x16))) xi_257 xi_253 dX12_tightIn_75 xm_12_418 rfl (Nat.le_of_ble_eq_true rfl) ⟨(Nat.le_of_ble_eq_true rfl), (Nat.le_of_ble_eq_true rfl)⟩ rfl nofun (e_253 (d + 1) _ gh15 ⟨rfl, rfl⟩) ?_
        change Wp _ _ _ _ [.int x16, .int ((3 * a2) + a5), .ref x2] _ _
        simp only [Option.some.injEq, Prod.mk.injEq] at H
        obtain ⟨rfl, rfl⟩ := H
        exact Wp.more (by simp [xMore, Value.category]) K12
      · rw [if_neg c5] at H
        refine wp_iconst (-1) xi_257 dX12_tightIn_62 rfl ?_
        refine wp_goto 78 xi_257 dX12_tightIn_63 rfl ?_
        simp only [Option.some.injEq, Prod.mk.injEq] at H
        obtain ⟨rfl, rfl⟩ := H
        exact Wp.more (by simp [xMore, Value.category]) K12
def f_257_20  : Nat → Nat → Int32 → Int32 → Int32 → Int32 → xH → Option (Int32 × xH)
  | 0, _, _, _, _, _, _ => none
  | n + 1, a0, a1, a2, a3, a4, h =>
  (pFi h a0 12 50).bind fun x1 =>
  (if x1 ≤ a4 then
  some (a3, h)
  else
  (f_257_32 100000 a0 a1 a2 a3 a4 0 h).bind fun h3 =>
  (pFr h3 a0 12 4).bind fun x6 =>
  (f_186 x6 a1 h3).bind fun (x8, h7) =>
  (f_163 x8 h7).bind fun (x10, h9) =>
  f_257_20 n a0 a1 a2 (a3 + x10) (a4 + 1) h9)
theorem ef_257_20 (d : Nat) (Q : Option Value → xH → Prop)  : ∀ (n : Nat) (a0 : Nat) (a1 : Int32) (a2 : Int32) (a3 : Int32) (a4 : Int32) (h : xH) (r : Int32 × xH), f_257_20 n a0 a1 a2 a3 a4 h = some r → (∀ (w3 : Int32) (h1 : xH), r = (w3, h1) → Wp (d + 2) 257 105 [none, none, none, some (.int w3), none, none] [] h1 Q) → Wp (d + 2) 257 20 [some (.ref a0), some (.int a1), some (.int a2), some (.int a3), some (.int a4), none] [] h Q := by
  intro n
  induction n with
  | zero =>
    intro a0 a1 a2 a3 a4 h r H
    cases H
  | succ n ih =>
    intro a0 a1 a2 a3 a4 h r H KE
    unfold f_257_20 at H
    refine wp_iload xi_257 dX12_tightIn_20 rfl ?_
    refine wp_aload_n xi_257 dX12_tightIn_22 rfl ?_
    obtain ⟨x1, gx1, H⟩ := Option.bind_eq_some_iff.mp H
    refine wq_getfi xi_257 dX12_tightIn_23 xf_12_406 gx1 ?_
    refine wp_icmp_ge 105 xi_257 dX12_tightIn_26 rfl (fun c2 => ?_) (fun c2 => ?_)
    · rw [if_pos c2] at H
      obtain rfl := Option.some.inj H
      exact Wp.more (by simp [xMore, Value.category]) (KE a3 h rfl)
    · rw [if_neg c2] at H
      refine wp_iconst 0 xi_257 dX12_tightIn_29 rfl ?_
      refine wp_istore [some (.ref a0), some (.int a1), some (.int a2), some (.int a3), some (.int a4), some (.int 0)] xi_257 dX12_tightIn_30 rfl ?_
      obtain ⟨h3, G4, H⟩ := Option.bind_eq_some_iff.mp H
      refine Wp.more (by simp [xMore, Value.category]) (ef_257_32 d Q  100000 a0 a1 a2 a3 a4 0 h _ G4 (fun z0 e9 => ?_))
      cases e9
      refine wp_iload_n xi_257 dX12_tightIn_85 rfl ?_
      refine wp_aload_n xi_257 dX12_tightIn_86 rfl ?_
      obtain ⟨x6, gx6, H⟩ := Option.bind_eq_some_iff.mp H
      refine wq_getfr xi_257 dX12_tightIn_87 xf_12_28 gx6 ?_
      refine wp_iload_n xi_257 dX12_tightIn_90 rfl ?_
      obtain ⟨⟨x8, h7⟩, gh7, H⟩ := Option.bind_eq_some_iff.mp H
      dsimp only at H
      refine wq_callS (as := [.ref x6, .int a1]) (r := [.int a3]) (v1 := (some (.int x8))) xi_257 xi_186 dX12_tightIn_91 xm_12_253 rfl (Nat.le_of_ble_eq_true rfl) ⟨(Nat.le_of_ble_eq_true rfl), (Nat.le_of_ble_eq_true rfl)⟩ rfl nofun (e_186 d _ gh7 ⟨rfl, rfl⟩) ?_
      change Wp _ _ _ _ [.int x8, .int a3] _ _
      obtain ⟨⟨x10, h9⟩, gh9, H⟩ := Option.bind_eq_some_iff.mp H
      dsimp only at H
      refine wq_callS (as := [.int x8]) (r := [.int a3]) (v1 := (some (.int x10))) xi_257 xi_163 dX12_tightIn_94 xm_12_139 rfl (Nat.le_of_ble_eq_true rfl) ⟨(Nat.le_of_ble_eq_true rfl), (Nat.le_of_ble_eq_true rfl)⟩ rfl nofun (e_163 (d + 1) _ gh9 ⟨rfl, rfl⟩) ?_
      change Wp _ _ _ _ [.int x10, .int a3] _ _
      refine wp_iadd xi_257 dX12_tightIn_97 ?_
      refine wp_istore_n [some (.ref a0), some (.int a1), some (.int a2), some (.int (a3 + x10)), some (.int a4), none] xi_257 dX12_tightIn_98 rfl ?_
      refine wp_iinc (a4 + 1) [some (.ref a0), some (.int a1), some (.int a2), some (.int (a3 + x10)), some (.int (a4 + 1)), none] xi_257 dX12_tightIn_99 rfl rfl rfl ?_
      refine wp_goto 20 xi_257 dX12_tightIn_102 rfl ?_
      exact Wp.more (by simp [xMore, Value.category]) (ih a0 a1 a2 (a3 + x10) (a4 + 1) h9 _ H KE)
def f_257  (a : Nat) (p0 : Int32) (h : xH) : Option (Int32 × xH) :=
  (pDiv p0 3).bind fun x1 =>
  (pFr h a 12 3).bind fun x2 =>
  (pFr h a 12 4).bind fun x3 =>
  (f_168 x2 x3 h).bind fun h4 =>
  (f_257_20 100000 a p0 x1 0 0 h4).bind fun (w6, h5) =>
  some (w6, h5)
set_option maxHeartbeats 4000000 in
theorem e_257 (d : Nat) (Q : Option Value → xH → Prop)  {h : xH} {a : Nat} {p0 : Int32} {x : Int32} {h1 : xH} (H : f_257  a p0 h = some (x, h1)) (hq : Q (some (.int x)) h1) : Wp (d + 2) 257 0 [some (.ref a), some (.int p0), none, none, none, none] [] h Q := by
  unfold f_257 at H
  refine wp_iload_n xi_257 dX12_tightIn_0 rfl ?_
  refine wp_iconst 3 xi_257 dX12_tightIn_1 rfl ?_
  obtain ⟨x1, gx1, H⟩ := Option.bind_eq_some_iff.mp H
  refine wq_idiv xi_257 dX12_tightIn_2 gx1 ?_
  refine wp_istore_n [some (.ref a), some (.int p0), some (.int x1), none, none, none] xi_257 dX12_tightIn_3 rfl ?_
  refine wp_iconst 0 xi_257 dX12_tightIn_4 rfl ?_
  refine wp_istore_n [some (.ref a), some (.int p0), some (.int x1), some (.int 0), none, none] xi_257 dX12_tightIn_5 rfl ?_
  refine wp_aload_n xi_257 dX12_tightIn_6 rfl ?_
  obtain ⟨x2, gx2, H⟩ := Option.bind_eq_some_iff.mp H
  refine wq_getfr xi_257 dX12_tightIn_7 xf_12_24 gx2 ?_
  refine wp_aload_n xi_257 dX12_tightIn_10 rfl ?_
  obtain ⟨x3, gx3, H⟩ := Option.bind_eq_some_iff.mp H
  refine wq_getfr xi_257 dX12_tightIn_11 xf_12_28 gx3 ?_
  obtain ⟨h4, gh4, H⟩ := Option.bind_eq_some_iff.mp H
  refine wq_callS (as := [.ref x2, .ref x3]) (r := []) (v1 := none) xi_257 xi_168 dX12_tightIn_14 xm_12_259 rfl (Nat.le_of_ble_eq_true rfl) ⟨(Nat.le_of_ble_eq_true rfl), (Nat.le_of_ble_eq_true rfl)⟩ rfl nofun (e_168 (d + 1) _ gh4 ⟨rfl, rfl⟩) ?_
  change Wp _ _ _ _ [] _ _
  refine wp_iconst 0 xi_257 dX12_tightIn_17 rfl ?_
  refine wp_istore [some (.ref a), some (.int p0), some (.int x1), some (.int 0), some (.int 0), none] xi_257 dX12_tightIn_18 rfl ?_
  obtain ⟨⟨w6, h5⟩, G7, H⟩ := Option.bind_eq_some_iff.mp H
  dsimp only at H
  refine Wp.more (by simp [xMore, Value.category]) (ef_257_20 d Q  100000 a p0 x1 0 0 h4 _ G7 (fun z0 z1 e9 => ?_))
  cases e9
  refine wp_iload_n xi_257 dX12_tightIn_105 rfl ?_
  obtain ⟨rfl, rfl⟩ := oi2 H
  exact wp_iret xi_257 dX12_tightIn_106 hq
/- FelledHasLostModel.keep(I)Z -/
def f_260_28  : Nat → Nat → Int32 → Int32 → xH → Option (xH)
  | 0, _, _, _, _ => none
  | n + 1, a0, a1, a2, h =>
  (if (54 : Int32) ≤ a2 then
  some (h)
  else
  (pFr h a0 12 52).bind fun x2 =>
  (pFr h a0 12 3).bind fun x3 =>
  (pAi h x3 a2).bind fun x4 =>
  (pSi h x2 ((54 * a1) + a2) x4).bind fun h5 =>
  f_260_28 n a0 a1 (a2 + 1) h5)
theorem ef_260_28 (d : Nat) (Q : Option Value → xH → Prop)  : ∀ (n : Nat) (a0 : Nat) (a1 : Int32) (a2 : Int32) (h : xH) (r : xH), f_260_28 n a0 a1 a2 h = some r → (∀  (h1 : xH), r = h1 → Wp (d + 1) 260 57 [none, none, none] [] h1 Q) → Wp (d + 1) 260 28 [some (.ref a0), some (.int a1), some (.int a2)] [] h Q := by
  intro n
  induction n with
  | zero =>
    intro a0 a1 a2 h r H
    cases H
  | succ n ih =>
    intro a0 a1 a2 h r H KE
    unfold f_260_28 at H
    refine wp_iload_n xi_260 dX12_keep_28 rfl ?_
    refine wp_bipush 54 xi_260 dX12_keep_29 rfl ?_
    refine wp_icmp_ge 57 xi_260 dX12_keep_31 rfl (fun c1 => ?_) (fun c1 => ?_)
    · rw [if_pos c1] at H
      obtain rfl := Option.some.inj H
      exact Wp.more (by simp [xMore, Value.category]) (KE  h rfl)
    · rw [if_neg c1] at H
      refine wp_aload_n xi_260 dX12_keep_34 rfl ?_
      obtain ⟨x2, gx2, H⟩ := Option.bind_eq_some_iff.mp H
      refine wq_getfr xi_260 dX12_keep_35 xf_12_122 gx2 ?_
      refine wp_bipush 54 xi_260 dX12_keep_38 rfl ?_
      refine wp_iload_n xi_260 dX12_keep_40 rfl ?_
      refine wp_imul xi_260 dX12_keep_41 ?_
      refine wp_iload_n xi_260 dX12_keep_42 rfl ?_
      refine wp_iadd xi_260 dX12_keep_43 ?_
      refine wp_aload_n xi_260 dX12_keep_44 rfl ?_
      obtain ⟨x3, gx3, H⟩ := Option.bind_eq_some_iff.mp H
      refine wq_getfr xi_260 dX12_keep_45 xf_12_24 gx3 ?_
      refine wp_iload_n xi_260 dX12_keep_48 rfl ?_
      obtain ⟨x4, gx4, H⟩ := Option.bind_eq_some_iff.mp H
      refine wq_iaload xi_260 dX12_keep_49 gx4 ?_
      obtain ⟨h5, gh5, H⟩ := Option.bind_eq_some_iff.mp H
      refine wq_iastore xi_260 dX12_keep_50 gh5 ?_
      refine wp_iinc (a2 + 1) [some (.ref a0), some (.int a1), some (.int (a2 + 1))] xi_260 dX12_keep_51 rfl rfl rfl ?_
      refine wp_goto 28 xi_260 dX12_keep_54 rfl ?_
      exact Wp.more (by simp [xMore, Value.category]) (ih a0 a1 (a2 + 1) h5 _ H KE)
def f_260  (a : Nat) (p0 : Int32) (h : xH) : Option (Int32 × xH) :=
  (pP h a 12 0 (.int 0)).bind fun h1 =>
  (f_162 ((p0 : Int32).toInt64) (0 : Int64) (2 : Int64) h1).bind fun (x3, h2) =>
  (if x3 = 0 then
  pZ 0 h2
  else
  (pFr h2 a 12 51).bind fun x5 =>
  (pSb h2 x5 p0 1).bind fun h6 =>
  (f_260_28 100000 a p0 0 h6).bind fun h7 =>
  pZ 1 h7)
set_option maxHeartbeats 4000000 in
theorem e_260 (d : Nat) (Q : Option Value → xH → Prop)  {h : xH} {a : Nat} {p0 : Int32} {x : Int32} {h1 : xH} (H : f_260  a p0 h = some (x, h1)) (hq : Q (some (.int x)) h1) : Wp (d + 1) 260 0 [some (.ref a), some (.int p0), none] [] h Q := by
  unfold f_260 at H
  refine wp_aload_n xi_260 dX12_keep_0 rfl ?_
  refine wp_iconst 0 xi_260 dX12_keep_1 rfl ?_
  obtain ⟨h1, gh1, H⟩ := Option.bind_eq_some_iff.mp H
  refine wq_putf xi_260 dX12_keep_2 xf_12_3 (Or.inl rfl) gh1 ?_
  refine wp_iload_n xi_260 dX12_keep_5 rfl ?_
  refine wp_i2l xi_260 dX12_keep_6 ?_
  refine wp_lconst 0 xi_260 dX12_keep_7 rfl ?_
  refine wp_ldc2 xi_260 dX12_keep_8 xl_12_396 ?_
  obtain ⟨⟨x3, h2⟩, gh2, H⟩ := Option.bind_eq_some_iff.mp H
  dsimp only at H
  refine wq_callS (as := [.long ((p0 : Int32).toInt64), .long (0 : Int64), .long (2 : Int64)]) (r := []) (v1 := (some (.int x3))) xi_260 xi_162 dX12_keep_11 xm_12_135 rfl (Nat.le_of_ble_eq_true rfl) ⟨(Nat.le_of_ble_eq_true rfl), (Nat.le_of_ble_eq_true rfl)⟩ rfl nofun (e_162 d _ gh2 ⟨rfl, rfl⟩) ?_
  change Wp _ _ _ _ [.int x3] _ _
  refine wp_if_ne 19 xi_260 dX12_keep_14 rfl (fun c4 => ?_) (fun c4 => ?_)
  · rw [if_neg c4] at H
    refine wp_aload_n xi_260 dX12_keep_19 rfl ?_
    obtain ⟨x5, gx5, H⟩ := Option.bind_eq_some_iff.mp H
    refine wq_getfr xi_260 dX12_keep_20 xf_12_118 gx5 ?_
    refine wp_iload_n xi_260 dX12_keep_23 rfl ?_
    refine wp_iconst 1 xi_260 dX12_keep_24 rfl ?_
    obtain ⟨h6, gh6, H⟩ := Option.bind_eq_some_iff.mp H
    refine wq_bastore xi_260 dX12_keep_25 gh6 ?_
    refine wp_iconst 0 xi_260 dX12_keep_26 rfl ?_
    refine wp_istore_n [some (.ref a), some (.int p0), some (.int 0)] xi_260 dX12_keep_27 rfl ?_
    obtain ⟨h7, G8, H⟩ := Option.bind_eq_some_iff.mp H
    refine Wp.more (by simp [xMore, Value.category]) (ef_260_28 d Q  100000 a p0 0 h6 _ G8 (fun z0 e9 => ?_))
    cases e9
    refine wp_iconst 1 xi_260 dX12_keep_57 rfl ?_
    obtain ⟨gz, hz⟩ := pZ_ok H
    obtain ⟨rfl, rfl⟩ := Prod.mk.inj hz
    exact wp_zret xi_260 dX12_keep_58 gz hq
  · rw [if_pos c4] at H
    refine wp_iconst 0 xi_260 dX12_keep_17 rfl ?_
    obtain ⟨gz, hz⟩ := pZ_ok H
    obtain ⟨rfl, rfl⟩ := Prod.mk.inj hz
    exact wp_zret xi_260 dX12_keep_18 gz hq
/- FelledHasLostModel.again(I)Z -/
def f_261_30  : Nat → Nat → Int32 → Int32 → xH → Option (xH)
  | 0, _, _, _, _ => none
  | n + 1, a0, a1, a2, h =>
  (if (54 : Int32) ≤ a2 then
  some (h)
  else
  (pFr h a0 12 3).bind fun x2 =>
  (pFr h a0 12 52).bind fun x3 =>
  (pAi h x3 ((54 * a1) + a2)).bind fun x4 =>
  (pSi h x2 a2 x4).bind fun h5 =>
  f_261_30 n a0 a1 (a2 + 1) h5)
theorem ef_261_30 (d : Nat) (Q : Option Value → xH → Prop)  : ∀ (n : Nat) (a0 : Nat) (a1 : Int32) (a2 : Int32) (h : xH) (r : xH), f_261_30 n a0 a1 a2 h = some r → (∀  (h1 : xH), r = h1 → Wp (d + 1) 261 59 [some (.ref a0), none, none] [] h1 Q) → Wp (d + 1) 261 30 [some (.ref a0), some (.int a1), some (.int a2)] [] h Q := by
  intro n
  induction n with
  | zero =>
    intro a0 a1 a2 h r H
    cases H
  | succ n ih =>
    intro a0 a1 a2 h r H KE
    unfold f_261_30 at H
    refine wp_iload_n xi_261 dX12_again_30 rfl ?_
    refine wp_bipush 54 xi_261 dX12_again_31 rfl ?_
    refine wp_icmp_ge 59 xi_261 dX12_again_33 rfl (fun c1 => ?_) (fun c1 => ?_)
    · rw [if_pos c1] at H
      obtain rfl := Option.some.inj H
      exact Wp.more (by simp [xMore, Value.category]) (KE  h rfl)
    · rw [if_neg c1] at H
      refine wp_aload_n xi_261 dX12_again_36 rfl ?_
      obtain ⟨x2, gx2, H⟩ := Option.bind_eq_some_iff.mp H
      refine wq_getfr xi_261 dX12_again_37 xf_12_24 gx2 ?_
      refine wp_iload_n xi_261 dX12_again_40 rfl ?_
      refine wp_aload_n xi_261 dX12_again_41 rfl ?_
      obtain ⟨x3, gx3, H⟩ := Option.bind_eq_some_iff.mp H
      refine wq_getfr xi_261 dX12_again_42 xf_12_122 gx3 ?_
      refine wp_bipush 54 xi_261 dX12_again_45 rfl ?_
      refine wp_iload_n xi_261 dX12_again_47 rfl ?_
      refine wp_imul xi_261 dX12_again_48 ?_
      refine wp_iload_n xi_261 dX12_again_49 rfl ?_
      refine wp_iadd xi_261 dX12_again_50 ?_
      obtain ⟨x4, gx4, H⟩ := Option.bind_eq_some_iff.mp H
      refine wq_iaload xi_261 dX12_again_51 gx4 ?_
      obtain ⟨h5, gh5, H⟩ := Option.bind_eq_some_iff.mp H
      refine wq_iastore xi_261 dX12_again_52 gh5 ?_
      refine wp_iinc (a2 + 1) [some (.ref a0), some (.int a1), some (.int (a2 + 1))] xi_261 dX12_again_53 rfl rfl rfl ?_
      refine wp_goto 30 xi_261 dX12_again_56 rfl ?_
      exact Wp.more (by simp [xMore, Value.category]) (ih a0 a1 (a2 + 1) h5 _ H KE)
def f_261  (a : Nat) (p0 : Int32) (h : xH) : Option (Int32 × xH) :=
  (pP h a 12 0 (.int 0)).bind fun h1 =>
  (f_162 ((p0 : Int32).toInt64) (0 : Int64) (2 : Int64) h1).bind fun (x3, h2) =>
  (if x3 = 0 then
  pZ 0 h2
  else
  (pFr h2 a 12 51).bind fun x5 =>
  (pAb h2 x5 p0).bind fun x6 =>
  (if x6 = 0 then
  pZ 0 h2
  else
  (f_261_30 100000 a p0 0 h2).bind fun h8 =>
  (pFr h8 a 12 3).bind fun x11 =>
  (pAi h8 x11 49).bind fun x12 =>
  (pFi h8 a 12 6).bind fun x13 =>
  (pRem x12 x13).bind fun x14 =>
  (pSi h8 x11 49 x14).bind fun h15 =>
  (pG (pIs h15 a 12)).bind fun _ =>
  (f_245 a h15).bind fun (x18, h17) =>
  (pP h17 a 12 28 (.int 0)).bind fun h19 =>
  pZ 1 h19))
set_option maxHeartbeats 4000000 in
theorem e_261 (d : Nat) (Q : Option Value → xH → Prop)  {h : xH} {a : Nat} {p0 : Int32} {x : Int32} {h1 : xH} (H : f_261  a p0 h = some (x, h1)) (hq : Q (some (.int x)) h1) : Wp (d + 1) 261 0 [some (.ref a), some (.int p0), none] [] h Q := by
  unfold f_261 at H
  refine wp_aload_n xi_261 dX12_again_0 rfl ?_
  refine wp_iconst 0 xi_261 dX12_again_1 rfl ?_
  obtain ⟨h1, gh1, H⟩ := Option.bind_eq_some_iff.mp H
  refine wq_putf xi_261 dX12_again_2 xf_12_3 (Or.inl rfl) gh1 ?_
  refine wp_iload_n xi_261 dX12_again_5 rfl ?_
  refine wp_i2l xi_261 dX12_again_6 ?_
  refine wp_lconst 0 xi_261 dX12_again_7 rfl ?_
  refine wp_ldc2 xi_261 dX12_again_8 xl_12_396 ?_
  obtain ⟨⟨x3, h2⟩, gh2, H⟩ := Option.bind_eq_some_iff.mp H
  dsimp only at H
  refine wq_callS (as := [.long ((p0 : Int32).toInt64), .long (0 : Int64), .long (2 : Int64)]) (r := []) (v1 := (some (.int x3))) xi_261 xi_162 dX12_again_11 xm_12_135 rfl (Nat.le_of_ble_eq_true rfl) ⟨(Nat.le_of_ble_eq_true rfl), (Nat.le_of_ble_eq_true rfl)⟩ rfl nofun (e_162 d _ gh2 ⟨rfl, rfl⟩) ?_
  change Wp _ _ _ _ [.int x3] _ _
  refine wp_if_eq 26 xi_261 dX12_again_14 rfl (fun c4 => ?_) (fun c4 => ?_)
  · rw [if_pos c4] at H
    refine wp_iconst 0 xi_261 dX12_again_26 rfl ?_
    obtain ⟨gz, hz⟩ := pZ_ok H
    obtain ⟨rfl, rfl⟩ := Prod.mk.inj hz
    exact wp_zret xi_261 dX12_again_27 gz hq
  · rw [if_neg c4] at H
    refine wp_aload_n xi_261 dX12_again_17 rfl ?_
    obtain ⟨x5, gx5, H⟩ := Option.bind_eq_some_iff.mp H
    refine wq_getfr xi_261 dX12_again_18 xf_12_118 gx5 ?_
    refine wp_iload_n xi_261 dX12_again_21 rfl ?_
    obtain ⟨x6, gx6, H⟩ := Option.bind_eq_some_iff.mp H
    refine wq_baload xi_261 dX12_again_22 gx6 ?_
    refine wp_if_ne 28 xi_261 dX12_again_23 rfl (fun c7 => ?_) (fun c7 => ?_)
    · rw [if_neg c7] at H
      refine wp_iconst 0 xi_261 dX12_again_28 rfl ?_
      refine wp_istore_n [some (.ref a), some (.int p0), some (.int 0)] xi_261 dX12_again_29 rfl ?_
      obtain ⟨h8, G9, H⟩ := Option.bind_eq_some_iff.mp H
      refine Wp.more (by simp [xMore, Value.category]) (ef_261_30 d Q  100000 a p0 0 h2 _ G9 (fun z0 e9 => ?_))
      cases e9
      refine wp_aload_n xi_261 dX12_again_59 rfl ?_
      obtain ⟨x11, gx11, H⟩ := Option.bind_eq_some_iff.mp H
      refine wq_getfr xi_261 dX12_again_60 xf_12_24 gx11 ?_
      refine wp_bipush 49 xi_261 dX12_again_63 rfl ?_
      refine wp_dup2 xi_261 dX12_again_65 rfl rfl ?_
      obtain ⟨x12, gx12, H⟩ := Option.bind_eq_some_iff.mp H
      refine wq_iaload xi_261 dX12_again_66 gx12 ?_
      refine wp_aload_n xi_261 dX12_again_67 rfl ?_
      obtain ⟨x13, gx13, H⟩ := Option.bind_eq_some_iff.mp H
      refine wq_getfi xi_261 dX12_again_68 xf_12_34 gx13 ?_
      obtain ⟨x14, gx14, H⟩ := Option.bind_eq_some_iff.mp H
      refine wq_irem xi_261 dX12_again_71 gx14 ?_
      obtain ⟨h15, gh15, H⟩ := Option.bind_eq_some_iff.mp H
      refine wq_iastore xi_261 dX12_again_72 gh15 ?_
      refine wp_aload_n xi_261 dX12_again_73 rfl ?_
      obtain ⟨u16, gu16, H⟩ := Option.bind_eq_some_iff.mp H
      obtain ⟨⟨x18, h17⟩, gh17, H⟩ := Option.bind_eq_some_iff.mp H
      dsimp only at H
      refine wq_callV (a := a) (as := []) (r := []) (v1 := (some (.int x18))) xi_261 xi_245 dX12_again_74 xm_12_129 rfl (Nat.le_of_ble_eq_true rfl) (pG_ok gu16) ⟨(Nat.le_of_ble_eq_true rfl), (Nat.le_of_ble_eq_true rfl)⟩ rfl nofun (e_245 d _ gh17 ⟨rfl, rfl⟩) ?_
      change Wp _ _ _ _ [.int x18] _ _
      refine wp_pop xi_261 dX12_again_77 rfl ?_
      refine wp_aload_n xi_261 dX12_again_78 rfl ?_
      refine wp_iconst 0 xi_261 dX12_again_79 rfl ?_
      obtain ⟨h19, gh19, H⟩ := Option.bind_eq_some_iff.mp H
      refine wq_putf xi_261 dX12_again_80 xf_12_189 (Or.inl rfl) gh19 ?_
      refine wp_iconst 1 xi_261 dX12_again_83 rfl ?_
      obtain ⟨gz, hz⟩ := pZ_ok H
      obtain ⟨rfl, rfl⟩ := Prod.mk.inj hz
      exact wp_zret xi_261 dX12_again_84 gz hq
    · rw [if_pos c7] at H
      refine wp_iconst 0 xi_261 dX12_again_26 rfl ?_
      obtain ⟨gz, hz⟩ := pZ_ok H
      obtain ⟨rfl, rfl⟩ := Prod.mk.inj hz
      exact wp_zret xi_261 dX12_again_27 gz hq
/- FelledHasLostModel.blocks()I -/
def f_262_4  : Nat → Nat → Int32 → Int32 → xH → Option (Int32 × xH)
  | 0, _, _, _, _ => none
  | n + 1, a0, a1, a2, h =>
  (pFr h a0 12 3).bind fun x1 =>
  (pAi h x1 48).bind fun x2 =>
  (if x2 ≤ a2 then
  some (a1, h)
  else
  (pFr h a0 12 3).bind fun x4 =>
  (f_170 x4 a2 h).bind fun (x6, h5) =>
  f_262_4 n a0 (a1 + x6) (a2 + 1) h5)
theorem ef_262_4 (d : Nat) (Q : Option Value → xH → Prop)  : ∀ (n : Nat) (a0 : Nat) (a1 : Int32) (a2 : Int32) (h : xH) (r : Int32 × xH), f_262_4 n a0 a1 a2 h = some r → (∀ (w1 : Int32) (h1 : xH), r = (w1, h1) → Wp (d + 2) 262 32 [none, some (.int w1), none] [] h1 Q) → Wp (d + 2) 262 4 [some (.ref a0), some (.int a1), some (.int a2)] [] h Q := by
  intro n
  induction n with
  | zero =>
    intro a0 a1 a2 h r H
    cases H
  | succ n ih =>
    intro a0 a1 a2 h r H KE
    unfold f_262_4 at H
    refine wp_iload_n xi_262 dX12_blocks_4 rfl ?_
    refine wp_aload_n xi_262 dX12_blocks_5 rfl ?_
    obtain ⟨x1, gx1, H⟩ := Option.bind_eq_some_iff.mp H
    refine wq_getfr xi_262 dX12_blocks_6 xf_12_24 gx1 ?_
    refine wp_bipush 48 xi_262 dX12_blocks_9 rfl ?_
    obtain ⟨x2, gx2, H⟩ := Option.bind_eq_some_iff.mp H
    refine wq_iaload xi_262 dX12_blocks_11 gx2 ?_
    refine wp_icmp_ge 32 xi_262 dX12_blocks_12 rfl (fun c3 => ?_) (fun c3 => ?_)
    · rw [if_pos c3] at H
      obtain rfl := Option.some.inj H
      exact Wp.more (by simp [xMore, Value.category]) (KE a1 h rfl)
    · rw [if_neg c3] at H
      refine wp_iload_n xi_262 dX12_blocks_15 rfl ?_
      refine wp_aload_n xi_262 dX12_blocks_16 rfl ?_
      obtain ⟨x4, gx4, H⟩ := Option.bind_eq_some_iff.mp H
      refine wq_getfr xi_262 dX12_blocks_17 xf_12_24 gx4 ?_
      refine wp_iload_n xi_262 dX12_blocks_20 rfl ?_
      obtain ⟨⟨x6, h5⟩, gh5, H⟩ := Option.bind_eq_some_iff.mp H
      dsimp only at H
      refine wq_callS (as := [.ref x4, .int a2]) (r := [.int a1]) (v1 := (some (.int x6))) xi_262 xi_170 dX12_blocks_21 xm_12_256 rfl (Nat.le_of_ble_eq_true rfl) ⟨(Nat.le_of_ble_eq_true rfl), (Nat.le_of_ble_eq_true rfl)⟩ rfl nofun (e_170 d _ gh5 ⟨rfl, rfl⟩) ?_
      change Wp _ _ _ _ [.int x6, .int a1] _ _
      refine wp_iadd xi_262 dX12_blocks_24 ?_
      refine wp_istore_n [some (.ref a0), some (.int (a1 + x6)), some (.int a2)] xi_262 dX12_blocks_25 rfl ?_
      refine wp_iinc (a2 + 1) [some (.ref a0), some (.int (a1 + x6)), some (.int (a2 + 1))] xi_262 dX12_blocks_26 rfl rfl rfl ?_
      refine wp_goto 4 xi_262 dX12_blocks_29 rfl ?_
      exact Wp.more (by simp [xMore, Value.category]) (ih a0 (a1 + x6) (a2 + 1) h5 _ H KE)
def f_262  (a : Nat) (h : xH) : Option (Int32 × xH) :=
  (f_262_4 100000 a 0 0 h).bind fun (w2, h1) =>
  some (w2, h1)
set_option maxHeartbeats 4000000 in
theorem e_262 (d : Nat) (Q : Option Value → xH → Prop)  {h : xH} {a : Nat} {x : Int32} {h1 : xH} (H : f_262  a h = some (x, h1)) (hq : Q (some (.int x)) h1) : Wp (d + 2) 262 0 [some (.ref a), none, none] [] h Q := by
  unfold f_262 at H
  refine wp_iconst 0 xi_262 dX12_blocks_0 rfl ?_
  refine wp_istore_n [some (.ref a), some (.int 0), none] xi_262 dX12_blocks_1 rfl ?_
  refine wp_iconst 0 xi_262 dX12_blocks_2 rfl ?_
  refine wp_istore_n [some (.ref a), some (.int 0), some (.int 0)] xi_262 dX12_blocks_3 rfl ?_
  obtain ⟨⟨w2, h1⟩, G3, H⟩ := Option.bind_eq_some_iff.mp H
  dsimp only at H
  refine Wp.more (by simp [xMore, Value.category]) (ef_262_4 d Q  100000 a 0 0 h _ G3 (fun z0 z1 e9 => ?_))
  cases e9
  refine wp_iload_n xi_262 dX12_blocks_32 rfl ?_
  obtain ⟨rfl, rfl⟩ := oi2 H
  exact wp_iret xi_262 dX12_blocks_33 hq
/- FelledHasLostModel.count(I)I -/
def f_263  (a : Nat) (p0 : Int32) (h : xH) : Option (Int32 × xH) :=
  (pP h a 12 0 (.int 0)).bind fun h1 =>
  (if p0 = 0 then
  (pFr h1 a 12 3).bind fun x15 =>
  (pAi h1 x15 48).bind fun x16 =>
  some (x16, h1)
  else
  if p0 = 1 then
  (pG (pIs h1 a 12)).bind fun _ =>
  (f_262 a h1).bind fun (x19, h18) =>
  some (x19, h18)
  else
  if p0 = 2 then
  (pFr h1 a 12 3).bind fun x20 =>
  (pAi h1 x20 48).bind fun x21 =>
  (pG (pIs h1 a 12)).bind fun _ =>
  (f_262 a h1).bind fun (x24, h23) =>
  some (((3 * x21) - x24), h23)
  else
  if p0 = 3 then
  (pFi h1 a 12 6).bind fun x25 =>
  some (x25, h1)
  else
  if p0 = 4 then
  (pFr h1 a 12 3).bind fun x26 =>
  (pAi h1 x26 49).bind fun x27 =>
  some (x27, h1)
  else
  if p0 = 5 then
  (pFr h1 a 12 3).bind fun x28 =>
  (pAi h1 x28 50).bind fun x29 =>
  ((if x29 ≤ 0 then
  some (0)
  else
  some (1) : Option (Int32))).bind fun (w31 : Int32) =>
  (f_163 w31 h1).bind fun (x34, h33) =>
  some (x34, h33)
  else
  if p0 = 6 then
  (pFr h1 a 12 3).bind fun x36 =>
  (pAi h1 x36 51).bind fun x37 =>
  some (x37, h1)
  else
  if p0 = 7 then
  (pFi h1 a 12 7).bind fun x38 =>
  some (x38, h1)
  else
  if p0 = 8 then
  (pFi h1 a 12 8).bind fun x39 =>
  some (x39, h1)
  else
  if p0 = 9 then
  (pFi h1 a 12 28).bind fun x40 =>
  some (x40, h1)
  else
  if p0 = 10 then
  (pFi h1 a 12 44).bind fun x41 =>
  some (x41, h1)
  else
  if p0 = 11 then
  (pFi h1 a 12 1).bind fun x42 =>
  some (x42, h1)
  else
  if p0 = 12 then
  (pFi h1 a 12 10).bind fun x43 =>
  some (x43, h1)
  else
  some ((-100), h1))
set_option maxHeartbeats 4000000 in
theorem e_263 (d : Nat) (Q : Option Value → xH → Prop)  {h : xH} {a : Nat} {p0 : Int32} {x : Int32} {h1 : xH} (H : f_263  a p0 h = some (x, h1)) (hq : Q (some (.int x)) h1) : Wp (d + 3) 263 0 [some (.ref a), some (.int p0)] [] h Q := by
  unfold f_263 at H
  refine wp_aload_n xi_263 dX12_count_0 rfl ?_
  refine wp_iconst 0 xi_263 dX12_count_1 rfl ?_
  obtain ⟨h1, gh1, H⟩ := Option.bind_eq_some_iff.mp H
  refine wq_putf xi_263 dX12_count_2 xf_12_3 (Or.inl rfl) gh1 ?_
  refine wp_iload_n xi_263 dX12_count_5 rfl ?_
  by_cases c2 : p0 = 0
  · rw [if_pos c2] at H
    refine Wp.pure (p2 := 72) (ls2 := [some (.ref a), some (.int p0)]) (st2 := []) (h2 := h1) xi_263 dX12_count_6 rfl rfl rfl (by rw [c2]; rfl) ?_
    refine wp_aload_n xi_263 dX12_count_72 rfl ?_
    obtain ⟨x15, gx15, H⟩ := Option.bind_eq_some_iff.mp H
    refine wq_getfr xi_263 dX12_count_73 xf_12_24 gx15 ?_
    refine wp_bipush 48 xi_263 dX12_count_76 rfl ?_
    obtain ⟨x16, gx16, H⟩ := Option.bind_eq_some_iff.mp H
    refine wq_iaload xi_263 dX12_count_78 gx16 ?_
    obtain ⟨rfl, rfl⟩ := oi2 H
    exact wp_iret xi_263 dX12_count_79 hq
  · rw [if_neg c2] at H
    by_cases c3 : p0 = 1
    · rw [if_pos c3] at H
      refine Wp.pure (p2 := 80) (ls2 := [some (.ref a), some (.int p0)]) (st2 := []) (h2 := h1) xi_263 dX12_count_6 rfl rfl rfl (by rw [c3]; rfl) ?_
      refine wp_aload_n xi_263 dX12_count_80 rfl ?_
      obtain ⟨u17, gu17, H⟩ := Option.bind_eq_some_iff.mp H
      obtain ⟨⟨x19, h18⟩, gh18, H⟩ := Option.bind_eq_some_iff.mp H
      dsimp only at H
      refine wq_callV (a := a) (as := []) (r := []) (v1 := (some (.int x19))) xi_263 xi_262 dX12_count_81 xm_12_431 rfl (Nat.le_of_ble_eq_true rfl) (pG_ok gu17) ⟨(Nat.le_of_ble_eq_true rfl), (Nat.le_of_ble_eq_true rfl)⟩ rfl nofun (e_262 d _ gh18 ⟨rfl, rfl⟩) ?_
      change Wp _ _ _ _ [.int x19] _ _
      obtain ⟨rfl, rfl⟩ := oi2 H
      exact wp_iret xi_263 dX12_count_84 hq
    · rw [if_neg c3] at H
      by_cases c4 : p0 = 2
      · rw [if_pos c4] at H
        refine Wp.pure (p2 := 85) (ls2 := [some (.ref a), some (.int p0)]) (st2 := []) (h2 := h1) xi_263 dX12_count_6 rfl rfl rfl (by rw [c4]; rfl) ?_
        refine wp_iconst 3 xi_263 dX12_count_85 rfl ?_
        refine wp_aload_n xi_263 dX12_count_86 rfl ?_
        obtain ⟨x20, gx20, H⟩ := Option.bind_eq_some_iff.mp H
        refine wq_getfr xi_263 dX12_count_87 xf_12_24 gx20 ?_
        refine wp_bipush 48 xi_263 dX12_count_90 rfl ?_
        obtain ⟨x21, gx21, H⟩ := Option.bind_eq_some_iff.mp H
        refine wq_iaload xi_263 dX12_count_92 gx21 ?_
        refine wp_imul xi_263 dX12_count_93 ?_
        refine wp_aload_n xi_263 dX12_count_94 rfl ?_
        obtain ⟨u22, gu22, H⟩ := Option.bind_eq_some_iff.mp H
        obtain ⟨⟨x24, h23⟩, gh23, H⟩ := Option.bind_eq_some_iff.mp H
        dsimp only at H
        refine wq_callV (a := a) (as := []) (r := [.int (3 * x21)]) (v1 := (some (.int x24))) xi_263 xi_262 dX12_count_95 xm_12_431 rfl (Nat.le_of_ble_eq_true rfl) (pG_ok gu22) ⟨(Nat.le_of_ble_eq_true rfl), (Nat.le_of_ble_eq_true rfl)⟩ rfl nofun (e_262 d _ gh23 ⟨rfl, rfl⟩) ?_
        change Wp _ _ _ _ [.int x24, .int (3 * x21)] _ _
        refine wp_isub xi_263 dX12_count_98 ?_
        obtain ⟨rfl, rfl⟩ := oi2 H
        exact wp_iret xi_263 dX12_count_99 hq
      · rw [if_neg c4] at H
        by_cases c5 : p0 = 3
        · rw [if_pos c5] at H
          refine Wp.pure (p2 := 100) (ls2 := [some (.ref a), some (.int p0)]) (st2 := []) (h2 := h1) xi_263 dX12_count_6 rfl rfl rfl (by rw [c5]; rfl) ?_
          refine wp_aload_n xi_263 dX12_count_100 rfl ?_
          obtain ⟨x25, gx25, H⟩ := Option.bind_eq_some_iff.mp H
          refine wq_getfi xi_263 dX12_count_101 xf_12_34 gx25 ?_
          obtain ⟨rfl, rfl⟩ := oi2 H
          exact wp_iret xi_263 dX12_count_104 hq
        · rw [if_neg c5] at H
          by_cases c6 : p0 = 4
          · rw [if_pos c6] at H
            refine Wp.pure (p2 := 105) (ls2 := [some (.ref a), some (.int p0)]) (st2 := []) (h2 := h1) xi_263 dX12_count_6 rfl rfl rfl (by rw [c6]; rfl) ?_
            refine wp_aload_n xi_263 dX12_count_105 rfl ?_
            obtain ⟨x26, gx26, H⟩ := Option.bind_eq_some_iff.mp H
            refine wq_getfr xi_263 dX12_count_106 xf_12_24 gx26 ?_
            refine wp_bipush 49 xi_263 dX12_count_109 rfl ?_
            obtain ⟨x27, gx27, H⟩ := Option.bind_eq_some_iff.mp H
            refine wq_iaload xi_263 dX12_count_111 gx27 ?_
            obtain ⟨rfl, rfl⟩ := oi2 H
            exact wp_iret xi_263 dX12_count_112 hq
          · rw [if_neg c6] at H
            by_cases c7 : p0 = 5
            · rw [if_pos c7] at H
              refine Wp.pure (p2 := 113) (ls2 := [some (.ref a), some (.int p0)]) (st2 := []) (h2 := h1) xi_263 dX12_count_6 rfl rfl rfl (by rw [c7]; rfl) ?_
              refine wp_aload_n xi_263 dX12_count_113 rfl ?_
              obtain ⟨x28, gx28, H⟩ := Option.bind_eq_some_iff.mp H
              refine wq_getfr xi_263 dX12_count_114 xf_12_24 gx28 ?_
              refine wp_bipush 50 xi_263 dX12_count_117 rfl ?_
              obtain ⟨x29, gx29, H⟩ := Option.bind_eq_some_iff.mp H
              refine wq_iaload xi_263 dX12_count_119 gx29 ?_
              obtain ⟨w31, G35, H⟩ := Option.bind_eq_some_iff.mp H
              have K32 : Wp (d + 3) 263 128 [some (.ref a), some (.int p0)] [.int w31] h1 Q := by
                obtain ⟨⟨x34, h33⟩, gh33, H⟩ := Option.bind_eq_some_iff.mp H
                dsimp only at H
                refine wq_callS (as := [.int w31]) (r := []) (v1 := (some (.int x34))) xi_263 xi_163 dX12_count_128 xm_12_139 rfl (Nat.le_of_ble_eq_true rfl) ⟨(Nat.le_of_ble_eq_true rfl), (Nat.le_of_ble_eq_true rfl)⟩ rfl nofun (e_163 (d + 2) _ gh33 ⟨rfl, rfl⟩) ?_
                change Wp _ _ _ _ [.int x34] _ _
                obtain ⟨rfl, rfl⟩ := oi2 H
                exact wp_iret xi_263 dX12_count_131 hq
              clear H
              have H := G35
              clear G35
              refine wp_if_le 127 xi_263 dX12_count_120 rfl (fun c30 => ?_) (fun c30 => ?_)
              · rw [if_pos c30] at H
                refine wp_iconst 0 xi_263 dX12_count_127 rfl ?_
                obtain rfl := Option.some.inj H
                exact Wp.more (by simp [xMore, Value.category]) K32
              · rw [if_neg c30] at H
                refine wp_iconst 1 xi_263 dX12_count_123 rfl ?_
                refine wp_goto 128 xi_263 dX12_count_124 rfl ?_
                obtain rfl := Option.some.inj H
                exact Wp.more (by simp [xMore, Value.category]) K32
            · rw [if_neg c7] at H
              by_cases c8 : p0 = 6
              · rw [if_pos c8] at H
                refine Wp.pure (p2 := 132) (ls2 := [some (.ref a), some (.int p0)]) (st2 := []) (h2 := h1) xi_263 dX12_count_6 rfl rfl rfl (by rw [c8]; rfl) ?_
                refine wp_aload_n xi_263 dX12_count_132 rfl ?_
                obtain ⟨x36, gx36, H⟩ := Option.bind_eq_some_iff.mp H
                refine wq_getfr xi_263 dX12_count_133 xf_12_24 gx36 ?_
                refine wp_bipush 51 xi_263 dX12_count_136 rfl ?_
                obtain ⟨x37, gx37, H⟩ := Option.bind_eq_some_iff.mp H
                refine wq_iaload xi_263 dX12_count_138 gx37 ?_
                obtain ⟨rfl, rfl⟩ := oi2 H
                exact wp_iret xi_263 dX12_count_139 hq
              · rw [if_neg c8] at H
                by_cases c9 : p0 = 7
                · rw [if_pos c9] at H
                  refine Wp.pure (p2 := 140) (ls2 := [some (.ref a), some (.int p0)]) (st2 := []) (h2 := h1) xi_263 dX12_count_6 rfl rfl rfl (by rw [c9]; rfl) ?_
                  refine wp_aload_n xi_263 dX12_count_140 rfl ?_
                  obtain ⟨x38, gx38, H⟩ := Option.bind_eq_some_iff.mp H
                  refine wq_getfi xi_263 dX12_count_141 xf_12_234 gx38 ?_
                  obtain ⟨rfl, rfl⟩ := oi2 H
                  exact wp_iret xi_263 dX12_count_144 hq
                · rw [if_neg c9] at H
                  by_cases c10 : p0 = 8
                  · rw [if_pos c10] at H
                    refine Wp.pure (p2 := 145) (ls2 := [some (.ref a), some (.int p0)]) (st2 := []) (h2 := h1) xi_263 dX12_count_6 rfl rfl rfl (by rw [c10]; rfl) ?_
                    refine wp_aload_n xi_263 dX12_count_145 rfl ?_
                    obtain ⟨x39, gx39, H⟩ := Option.bind_eq_some_iff.mp H
                    refine wq_getfi xi_263 dX12_count_146 xf_12_237 gx39 ?_
                    obtain ⟨rfl, rfl⟩ := oi2 H
                    exact wp_iret xi_263 dX12_count_149 hq
                  · rw [if_neg c10] at H
                    by_cases c11 : p0 = 9
                    · rw [if_pos c11] at H
                      refine Wp.pure (p2 := 150) (ls2 := [some (.ref a), some (.int p0)]) (st2 := []) (h2 := h1) xi_263 dX12_count_6 rfl rfl rfl (by rw [c11]; rfl) ?_
                      refine wp_aload_n xi_263 dX12_count_150 rfl ?_
                      obtain ⟨x40, gx40, H⟩ := Option.bind_eq_some_iff.mp H
                      refine wq_getfi xi_263 dX12_count_151 xf_12_189 gx40 ?_
                      obtain ⟨rfl, rfl⟩ := oi2 H
                      exact wp_iret xi_263 dX12_count_154 hq
                    · rw [if_neg c11] at H
                      by_cases c12 : p0 = 10
                      · rw [if_pos c12] at H
                        refine Wp.pure (p2 := 155) (ls2 := [some (.ref a), some (.int p0)]) (st2 := []) (h2 := h1) xi_263 dX12_count_6 rfl rfl rfl (by rw [c12]; rfl) ?_
                        refine wp_aload_n xi_263 dX12_count_155 rfl ?_
                        obtain ⟨x41, gx41, H⟩ := Option.bind_eq_some_iff.mp H
                        refine wq_getfi xi_263 dX12_count_156 xf_12_403 gx41 ?_
                        obtain ⟨rfl, rfl⟩ := oi2 H
                        exact wp_iret xi_263 dX12_count_159 hq
                      · rw [if_neg c12] at H
                        by_cases c13 : p0 = 11
                        · rw [if_pos c13] at H
                          refine Wp.pure (p2 := 160) (ls2 := [some (.ref a), some (.int p0)]) (st2 := []) (h2 := h1) xi_263 dX12_count_6 rfl rfl rfl (by rw [c13]; rfl) ?_
                          refine wp_aload_n xi_263 dX12_count_160 rfl ?_
                          obtain ⟨x42, gx42, H⟩ := Option.bind_eq_some_iff.mp H
                          refine wq_getfi xi_263 dX12_count_161 xf_12_15 gx42 ?_
                          obtain ⟨rfl, rfl⟩ := oi2 H
                          exact wp_iret xi_263 dX12_count_164 hq
                        · rw [if_neg c13] at H
                          by_cases c14 : p0 = 12
                          · rw [if_pos c14] at H
                            refine Wp.pure (p2 := 165) (ls2 := [some (.ref a), some (.int p0)]) (st2 := []) (h2 := h1) xi_263 dX12_count_6 rfl rfl rfl (by rw [c14]; rfl) ?_
                            refine wp_aload_n xi_263 dX12_count_165 rfl ?_
                            obtain ⟨x43, gx43, H⟩ := Option.bind_eq_some_iff.mp H
                            refine wq_getfi xi_263 dX12_count_166 xf_12_143 gx43 ?_
                            obtain ⟨rfl, rfl⟩ := oi2 H
                            exact wp_iret xi_263 dX12_count_169 hq
                          · rw [if_neg c14] at H
                            have ec2 := lv_neT c2 (a := 0) (by decide)
                            have ec3 := lv_neT c3 (a := 1) (by decide)
                            have ec4 := lv_neT c4 (a := 2) (by decide)
                            have ec5 := lv_neT c5 (a := 3) (by decide)
                            have ec6 := lv_neT c6 (a := 4) (by decide)
                            have ec7 := lv_neT c7 (a := 5) (by decide)
                            have ec8 := lv_neT c8 (a := 6) (by decide)
                            have ec9 := lv_neT c9 (a := 7) (by decide)
                            have ec10 := lv_neT c10 (a := 8) (by decide)
                            have ec11 := lv_neT c11 (a := 9) (by decide)
                            have ec12 := lv_neT c12 (a := 10) (by decide)
                            have ec13 := lv_neT c13 (a := 11) (by decide)
                            have ec14 := lv_neT c14 (a := 12) (by decide)
                            refine Wp.pure (p2 := 170) (ls2 := [some (.ref a), some (.int p0)]) (st2 := []) (h2 := h1) xi_263 dX12_count_6 rfl rfl rfl (by simp only [xPure, xJ]; rw [if_pos (by omega)]; rfl) ?_
                            refine wp_bipush (-100) xi_263 dX12_count_170 rfl ?_
                            obtain ⟨rfl, rfl⟩ := oi2 H
                            exact wp_iret xi_263 dX12_count_172 hq
