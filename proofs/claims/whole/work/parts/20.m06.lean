/- FelledHasLostModel.best()I -/
def f_212  (a : Nat) (h : xH) : Option (Int32 × xH) :=
  (pP h a 12 0 (.int 0)).bind fun h1 =>
  (pFr h1 a 12 3).bind fun x2 =>
  (pG (pIs h1 a 12)).bind fun _ =>
  (f_211 a x2 h1).bind fun (x5, h4) =>
  (if (0 : Int32) ≤ x5 then
  (pP h4 a 12 1 (.int 0)).bind fun h7 =>
  (pFi h7 a 12 25).bind fun x8 =>
  (pG (pIs h7 a 12)).bind fun _ =>
  (f_165 a ((x8 : Int32).toInt64) h7).bind fun h10 =>
  (pFi h10 a 12 26).bind fun x11 =>
  (pG (pIs h10 a 12)).bind fun _ =>
  (f_165 a ((x11 : Int32).toInt64) h10).bind fun h13 =>
  some (x5, h13)
  else
  some ((-2), h4))
set_option maxHeartbeats 4000000 in
theorem e_212 (d : Nat) (Q : Option Value → xH → Prop)  {h : xH} {a : Nat} {x : Int32} {h1 : xH} (H : f_212  a h = some (x, h1)) (hq : Q (some (.int x)) h1) : Wp (d + 6) 212 0 [some (.ref a), none] [] h Q := by
  unfold f_212 at H
  refine wp_aload_n xi_212 dX12_best_0 rfl ?_
  refine wp_iconst 0 xi_212 dX12_best_1 rfl ?_
  obtain ⟨h1, gh1, H⟩ := Option.bind_eq_some_iff.mp H
  refine wq_putf xi_212 dX12_best_2 xf_12_3 (Or.inl rfl) gh1 ?_
  refine wp_aload_n xi_212 dX12_best_5 rfl ?_
  refine wp_aload_n xi_212 dX12_best_6 rfl ?_
  obtain ⟨x2, gx2, H⟩ := Option.bind_eq_some_iff.mp H
  refine wq_getfr xi_212 dX12_best_7 xf_12_24 gx2 ?_
  obtain ⟨u3, gu3, H⟩ := Option.bind_eq_some_iff.mp H
  obtain ⟨⟨x5, h4⟩, gh4, H⟩ := Option.bind_eq_some_iff.mp H
  dsimp only at H
  refine wq_callV (a := a) (as := [.ref x2]) (r := []) (v1 := (some (.int x5))) xi_212 xi_211 dX12_best_10 xm_12_322 rfl (Nat.le_of_ble_eq_true rfl) (pG_ok gu3) ⟨(Nat.le_of_ble_eq_true rfl), (Nat.le_of_ble_eq_true rfl)⟩ rfl nofun (e_211 d _ gh4 ⟨rfl, rfl⟩) ?_
  change Wp _ _ _ _ [.int x5] _ _
  refine wp_istore_n [some (.ref a), some (.int x5)] xi_212 dX12_best_13 rfl ?_
  refine wp_iload_n xi_212 dX12_best_14 rfl ?_
  refine wp_if_ge 21 xi_212 dX12_best_15 rfl (fun c6 => ?_) (fun c6 => ?_)
  · rw [if_pos c6] at H
    refine wp_aload_n xi_212 dX12_best_21 rfl ?_
    refine wp_iconst 0 xi_212 dX12_best_22 rfl ?_
    obtain ⟨h7, gh7, H⟩ := Option.bind_eq_some_iff.mp H
    refine wq_putf xi_212 dX12_best_23 xf_12_15 (Or.inl rfl) gh7 ?_
    refine wp_aload_n xi_212 dX12_best_26 rfl ?_
    refine wp_aload_n xi_212 dX12_best_27 rfl ?_
    obtain ⟨x8, gx8, H⟩ := Option.bind_eq_some_iff.mp H
    refine wq_getfi xi_212 dX12_best_28 xf_12_316 gx8 ?_
    refine wp_i2l xi_212 dX12_best_31 ?_
    obtain ⟨u9, gu9, H⟩ := Option.bind_eq_some_iff.mp H
    obtain ⟨h10, gh10, H⟩ := Option.bind_eq_some_iff.mp H
    refine wq_callV (a := a) (as := [.long ((x8 : Int32).toInt64)]) (r := []) (v1 := none) xi_212 xi_165 dX12_best_32 xm_12_279 rfl (Nat.le_of_ble_eq_true rfl) (pG_ok gu9) ⟨(Nat.le_of_ble_eq_true rfl), (Nat.le_of_ble_eq_true rfl)⟩ rfl nofun (e_165 (d + 5) _ gh10 ⟨rfl, rfl⟩) ?_
    change Wp _ _ _ _ [] _ _
    refine wp_aload_n xi_212 dX12_best_35 rfl ?_
    refine wp_aload_n xi_212 dX12_best_36 rfl ?_
    obtain ⟨x11, gx11, H⟩ := Option.bind_eq_some_iff.mp H
    refine wq_getfi xi_212 dX12_best_37 xf_12_319 gx11 ?_
    refine wp_i2l xi_212 dX12_best_40 ?_
    obtain ⟨u12, gu12, H⟩ := Option.bind_eq_some_iff.mp H
    obtain ⟨h13, gh13, H⟩ := Option.bind_eq_some_iff.mp H
    refine wq_callV (a := a) (as := [.long ((x11 : Int32).toInt64)]) (r := []) (v1 := none) xi_212 xi_165 dX12_best_41 xm_12_279 rfl (Nat.le_of_ble_eq_true rfl) (pG_ok gu12) ⟨(Nat.le_of_ble_eq_true rfl), (Nat.le_of_ble_eq_true rfl)⟩ rfl nofun (e_165 (d + 5) _ gh13 ⟨rfl, rfl⟩) ?_
    change Wp _ _ _ _ [] _ _
    refine wp_iload_n xi_212 dX12_best_44 rfl ?_
    obtain ⟨rfl, rfl⟩ := oi2 H
    exact wp_iret xi_212 dX12_best_45 hq
  · rw [if_neg c6] at H
    refine wp_bipush (-2) xi_212 dX12_best_18 rfl ?_
    obtain ⟨rfl, rfl⟩ := oi2 H
    exact wp_iret xi_212 dX12_best_20 hq
/- FelledHasLostModel.safeMoves([I)I -/
def f_213_4  : Nat → Nat → Nat → Int32 → Int32 → xH → Option (Int32 × xH)
  | 0, _, _, _, _, _ => none
  | n + 1, a0, a1, a2, a3, h =>
  (if (480 : Int32) ≤ a3 then
  some (a2, h)
  else
  (pG (pIs h a0 12)).bind fun _ =>
  (f_204 a0 a1 a3 h).bind fun (x4, h3) =>
  (f_163 x4 h3).bind fun (x6, h5) =>
  f_213_4 n a0 a1 (a2 + x6) (a3 + 1) h5)
theorem ef_213_4 (d : Nat) (Q : Option Value → xH → Prop)  : ∀ (n : Nat) (a0 : Nat) (a1 : Nat) (a2 : Int32) (a3 : Int32) (h : xH) (r : Int32 × xH), f_213_4 n a0 a1 a2 a3 h = some r → (∀ (w2 : Int32) (h1 : xH), r = (w2, h1) → Wp (d + 5) 213 29 [none, none, some (.int w2), none] [] h1 Q) → Wp (d + 5) 213 4 [some (.ref a0), some (.ref a1), some (.int a2), some (.int a3)] [] h Q := by
  intro n
  induction n with
  | zero =>
    intro a0 a1 a2 a3 h r H
    cases H
  | succ n ih =>
    intro a0 a1 a2 a3 h r H KE
    unfold f_213_4 at H
    refine wp_iload_n xi_213 dX12_safeMoves_4 rfl ?_
    refine wp_sipush 480 xi_213 dX12_safeMoves_5 rfl ?_
    refine wp_icmp_ge 29 xi_213 dX12_safeMoves_8 rfl (fun c1 => ?_) (fun c1 => ?_)
    · rw [if_pos c1] at H
      obtain rfl := Option.some.inj H
      exact Wp.more (by simp [xMore, Value.category]) (KE a2 h rfl)
    · rw [if_neg c1] at H
      refine wp_iload_n xi_213 dX12_safeMoves_11 rfl ?_
      refine wp_aload_n xi_213 dX12_safeMoves_12 rfl ?_
      refine wp_aload_n xi_213 dX12_safeMoves_13 rfl ?_
      refine wp_iload_n xi_213 dX12_safeMoves_14 rfl ?_
      obtain ⟨u2, gu2, H⟩ := Option.bind_eq_some_iff.mp H
      obtain ⟨⟨x4, h3⟩, gh3, H⟩ := Option.bind_eq_some_iff.mp H
      dsimp only at H
      refine wq_callV (a := a0) (as := [.ref a1, .int a3]) (r := [.int a2]) (v1 := (some (.int x4))) xi_213 xi_204 dX12_safeMoves_15 xm_12_309 rfl (Nat.le_of_ble_eq_true rfl) (pG_ok gu2) ⟨(Nat.le_of_ble_eq_true rfl), (Nat.le_of_ble_eq_true rfl)⟩ rfl nofun (e_204 d _ gh3 ⟨rfl, rfl⟩) ?_
      change Wp _ _ _ _ [.int x4, .int a2] _ _
      obtain ⟨⟨x6, h5⟩, gh5, H⟩ := Option.bind_eq_some_iff.mp H
      dsimp only at H
      refine wq_callS (as := [.int x4]) (r := [.int a2]) (v1 := (some (.int x6))) xi_213 xi_163 dX12_safeMoves_18 xm_12_139 rfl (Nat.le_of_ble_eq_true rfl) ⟨(Nat.le_of_ble_eq_true rfl), (Nat.le_of_ble_eq_true rfl)⟩ rfl nofun (e_163 (d + 4) _ gh5 ⟨rfl, rfl⟩) ?_
      change Wp _ _ _ _ [.int x6, .int a2] _ _
      refine wp_iadd xi_213 dX12_safeMoves_21 ?_
      refine wp_istore_n [some (.ref a0), some (.ref a1), some (.int (a2 + x6)), some (.int a3)] xi_213 dX12_safeMoves_22 rfl ?_
      refine wp_iinc (a3 + 1) [some (.ref a0), some (.ref a1), some (.int (a2 + x6)), some (.int (a3 + 1))] xi_213 dX12_safeMoves_23 rfl rfl rfl ?_
      refine wp_goto 4 xi_213 dX12_safeMoves_26 rfl ?_
      exact Wp.more (by simp [xMore, Value.category]) (ih a0 a1 (a2 + x6) (a3 + 1) h5 _ H KE)
def f_213  (a : Nat) (p0 : Nat) (h : xH) : Option (Int32 × xH) :=
  (f_213_4 100000 a p0 0 0 h).bind fun (w2, h1) =>
  some (w2, h1)
set_option maxHeartbeats 4000000 in
theorem e_213 (d : Nat) (Q : Option Value → xH → Prop)  {h : xH} {a : Nat} {p0 : Nat} {x : Int32} {h1 : xH} (H : f_213  a p0 h = some (x, h1)) (hq : Q (some (.int x)) h1) : Wp (d + 5) 213 0 [some (.ref a), some (.ref p0), none, none] [] h Q := by
  unfold f_213 at H
  refine wp_iconst 0 xi_213 dX12_safeMoves_0 rfl ?_
  refine wp_istore_n [some (.ref a), some (.ref p0), some (.int 0), none] xi_213 dX12_safeMoves_1 rfl ?_
  refine wp_iconst 0 xi_213 dX12_safeMoves_2 rfl ?_
  refine wp_istore_n [some (.ref a), some (.ref p0), some (.int 0), some (.int 0)] xi_213 dX12_safeMoves_3 rfl ?_
  obtain ⟨⟨w2, h1⟩, G3, H⟩ := Option.bind_eq_some_iff.mp H
  dsimp only at H
  refine Wp.more (by simp [xMore, Value.category]) (ef_213_4 d Q  100000 a p0 0 0 h _ G3 (fun z0 z1 e9 => ?_))
  cases e9
  refine wp_iload_n xi_213 dX12_safeMoves_29 rfl ?_
  obtain ⟨rfl, rfl⟩ := oi2 H
  exact wp_iret xi_213 dX12_safeMoves_30 hq
/- FelledHasLostModel.leave()I -/
def f_214_15  : Nat → Nat → Int32 → Int32 → Int32 → Int32 → xH → Option (Int32 × Int32 × Int32 × xH)
  | 0, _, _, _, _, _, _ => none
  | n + 1, a0, a1, a2, a3, a4, h =>
  (if (480 : Int32) ≤ a4 then
  some (a1, a2, a3, h)
  else
  (pFr h a0 12 3).bind fun x2 =>
  (pG (pIs h a0 12)).bind fun _ =>
  (f_204 a0 x2 a4 h).bind fun (x5, h4) =>
  ((if x5 = 0 then
  some (a1, a2, a3, h4)
  else
  (pFr h4 a0 12 3).bind fun x31 =>
  (pFr h4 a0 12 27).bind fun x32 =>
  (f_168 x31 x32 h4).bind fun h33 =>
  (pFr h33 a0 12 27).bind fun x34 =>
  (pG (pIs h33 a0 12)).bind fun _ =>
  (f_203 a0 x34 a4 h33).bind fun (x37, h36) =>
  (pFr h36 a0 12 27).bind fun x38 =>
  (pG (pIs h36 a0 12)).bind fun _ =>
  (f_213 a0 x38 h36).bind fun (x41, h40) =>
  (pFr h40 a0 12 3).bind fun x42 =>
  (pG (pIs h40 a0 12)).bind fun _ =>
  (f_208 a0 x42 a4 0 h40).bind fun (x45, h44) =>
  (if a1 < 0 then
  some (a4, x41, x45, h44)
  else
  (if x41 < a2 then
  some (a4, x41, x45, h44)
  else
  (if x41 = a2 then
  (if a3 ≤ x45 then
  some (a1, a2, a3, h44)
  else
  some (a4, x41, x45, h44))
  else
  some (a1, a2, a3, h44)))) : Option (Int32 × Int32 × Int32 × xH))).bind fun (w26, w27, w28, h29) =>
  f_214_15 n a0 w26 w27 w28 (a4 + 1) h29)
theorem ef_214_15 (d : Nat) (Q : Option Value → xH → Prop)  : ∀ (n : Nat) (a0 : Nat) (a1 : Int32) (a2 : Int32) (a3 : Int32) (a4 : Int32) (h : xH) (r : Int32 × Int32 × Int32 × xH), f_214_15 n a0 a1 a2 a3 a4 h = some r → (∀ (w1 : Int32) (w2 : Int32) (w3 : Int32) (h1 : xH), r = (w1, w2, w3, h1) → Wp (d + 6) 214 121 [some (.ref a0), some (.int w1), some (.int w2), some (.int w3), none, none, none] [] h1 Q) → Wp (d + 6) 214 15 [some (.ref a0), some (.int a1), some (.int a2), some (.int a3), some (.int a4), none, none] [] h Q := by
  intro n
  induction n with
  | zero =>
    intro a0 a1 a2 a3 a4 h r H
    cases H
  | succ n ih =>
    intro a0 a1 a2 a3 a4 h r H KE
    unfold f_214_15 at H
    refine wp_iload xi_214 dX12_leave_15 rfl ?_
    refine wp_sipush 480 xi_214 dX12_leave_17 rfl ?_
    refine wp_icmp_ge 121 xi_214 dX12_leave_20 rfl (fun c1 => ?_) (fun c1 => ?_)
    · rw [if_pos c1] at H
      obtain rfl := Option.some.inj H
      exact Wp.more (by simp [xMore, Value.category]) (KE a1 a2 a3 h rfl)
    · rw [if_neg c1] at H
      refine wp_aload_n xi_214 dX12_leave_23 rfl ?_
      refine wp_aload_n xi_214 dX12_leave_24 rfl ?_
      obtain ⟨x2, gx2, H⟩ := Option.bind_eq_some_iff.mp H
      refine wq_getfr xi_214 dX12_leave_25 xf_12_24 gx2 ?_
      refine wp_iload xi_214 dX12_leave_28 rfl ?_
      obtain ⟨u3, gu3, H⟩ := Option.bind_eq_some_iff.mp H
      obtain ⟨⟨x5, h4⟩, gh4, H⟩ := Option.bind_eq_some_iff.mp H
      dsimp only at H
      refine wq_callV (a := a0) (as := [.ref x2, .int a4]) (r := []) (v1 := (some (.int x5))) xi_214 xi_204 dX12_leave_30 xm_12_309 rfl (Nat.le_of_ble_eq_true rfl) (pG_ok gu3) ⟨(Nat.le_of_ble_eq_true rfl), (Nat.le_of_ble_eq_true rfl)⟩ rfl nofun (e_204 (d + 1) _ gh4 ⟨rfl, rfl⟩) ?_
      change Wp _ _ _ _ [.int x5] _ _
      obtain ⟨⟨w26, w27, w28, h29⟩, G50, H⟩ := Option.bind_eq_some_iff.mp H
      dsimp only at H
      have K30 : Wp (d + 6) 214 115 [some (.ref a0), some (.int w26), some (.int w27), some (.int w28), some (.int a4), none, none] [] h29 Q := by
        refine wp_iinc (a4 + 1) [some (.ref a0), some (.int w26), some (.int w27), some (.int w28), some (.int (a4 + 1)), none, none] xi_214 dX12_leave_115 rfl rfl rfl ?_
        refine wp_goto 15 xi_214 dX12_leave_118 rfl ?_
        exact Wp.more (by simp [xMore, Value.category]) (ih a0 w26 w27 w28 (a4 + 1) h29 _ H KE)
      clear H
      have H := G50
      clear G50
      refine wp_if_ne 39 xi_214 dX12_leave_33 rfl (fun c6 => ?_) (fun c6 => ?_)
      · rw [if_neg c6] at H
        refine wp_aload_n xi_214 dX12_leave_39 rfl ?_
        obtain ⟨x31, gx31, H⟩ := Option.bind_eq_some_iff.mp H
        refine wq_getfr xi_214 dX12_leave_40 xf_12_24 gx31 ?_
        refine wp_aload_n xi_214 dX12_leave_43 rfl ?_
        obtain ⟨x32, gx32, H⟩ := Option.bind_eq_some_iff.mp H
        refine wq_getfr xi_214 dX12_leave_44 xf_12_64 gx32 ?_
        obtain ⟨h33, gh33, H⟩ := Option.bind_eq_some_iff.mp H
        refine wq_callS (as := [.ref x31, .ref x32]) (r := []) (v1 := none) xi_214 xi_168 dX12_leave_47 xm_12_259 rfl (Nat.le_of_ble_eq_true rfl) ⟨(Nat.le_of_ble_eq_true rfl), (Nat.le_of_ble_eq_true rfl)⟩ rfl nofun (e_168 (d + 5) _ gh33 ⟨rfl, rfl⟩) ?_
        change Wp _ _ _ _ [] _ _
        refine wp_aload_n xi_214 dX12_leave_50 rfl ?_
        refine wp_aload_n xi_214 dX12_leave_51 rfl ?_
        obtain ⟨x34, gx34, H⟩ := Option.bind_eq_some_iff.mp H
        refine wq_getfr xi_214 dX12_leave_52 xf_12_64 gx34 ?_
        refine wp_iload xi_214 dX12_leave_55 rfl ?_
        obtain ⟨u35, gu35, H⟩ := Option.bind_eq_some_iff.mp H
        obtain ⟨⟨x37, h36⟩, gh36, H⟩ := Option.bind_eq_some_iff.mp H
        dsimp only at H
        refine wq_callV (a := a0) (as := [.ref x34, .int a4]) (r := []) (v1 := (some (.int x37))) xi_214 xi_203 dX12_leave_57 xm_12_295 rfl (Nat.le_of_ble_eq_true rfl) (pG_ok gu35) ⟨(Nat.le_of_ble_eq_true rfl), (Nat.le_of_ble_eq_true rfl)⟩ rfl nofun (e_203 (d + 2) _ gh36 ⟨rfl, rfl⟩) ?_
        change Wp _ _ _ _ [.int x37] _ _
        refine wp_pop xi_214 dX12_leave_60 rfl ?_
        refine wp_aload_n xi_214 dX12_leave_61 rfl ?_
        refine wp_aload_n xi_214 dX12_leave_62 rfl ?_
        obtain ⟨x38, gx38, H⟩ := Option.bind_eq_some_iff.mp H
        refine wq_getfr xi_214 dX12_leave_63 xf_12_64 gx38 ?_
        obtain ⟨u39, gu39, H⟩ := Option.bind_eq_some_iff.mp H
        obtain ⟨⟨x41, h40⟩, gh40, H⟩ := Option.bind_eq_some_iff.mp H
        dsimp only at H
        refine wq_callV (a := a0) (as := [.ref x38]) (r := []) (v1 := (some (.int x41))) xi_214 xi_213 dX12_leave_66 xm_12_325 rfl (Nat.le_of_ble_eq_true rfl) (pG_ok gu39) ⟨(Nat.le_of_ble_eq_true rfl), (Nat.le_of_ble_eq_true rfl)⟩ rfl nofun (e_213 d _ gh40 ⟨rfl, rfl⟩) ?_
        change Wp _ _ _ _ [.int x41] _ _
        refine wp_istore [some (.ref a0), some (.int a1), some (.int a2), some (.int a3), some (.int a4), some (.int x41), none] xi_214 dX12_leave_69 rfl ?_
        refine wp_aload_n xi_214 dX12_leave_71 rfl ?_
        refine wp_aload_n xi_214 dX12_leave_72 rfl ?_
        obtain ⟨x42, gx42, H⟩ := Option.bind_eq_some_iff.mp H
        refine wq_getfr xi_214 dX12_leave_73 xf_12_24 gx42 ?_
        refine wp_iload xi_214 dX12_leave_76 rfl ?_
        refine wp_iconst 0 xi_214 dX12_leave_78 rfl ?_
        obtain ⟨u43, gu43, H⟩ := Option.bind_eq_some_iff.mp H
        obtain ⟨⟨x45, h44⟩, gh44, H⟩ := Option.bind_eq_some_iff.mp H
        dsimp only at H
        refine wq_callV (a := a0) (as := [.ref x42, .int a4, .int 0]) (r := []) (v1 := (some (.int x45))) xi_214 xi_208 dX12_leave_79 xm_12_312 rfl (Nat.le_of_ble_eq_true rfl) (pG_ok gu43) ⟨(Nat.le_of_ble_eq_true rfl), (Nat.le_of_ble_eq_true rfl)⟩ rfl nofun (e_208 (d + 1) _ gh44 ⟨rfl, rfl⟩) ?_
        change Wp _ _ _ _ [.int x45] _ _
        refine wp_istore [some (.ref a0), some (.int a1), some (.int a2), some (.int a3), some (.int a4), some (.int x41), some (.int x45)] xi_214 dX12_leave_82 rfl ?_
        refine wp_iload_n xi_214 dX12_leave_84 rfl ?_
        refine wp_if_lt 106 xi_214 dX12_leave_85 rfl (fun c46 => ?_) (fun c46 => ?_)
        · rw [if_pos c46] at H
          refine wp_iload xi_214 dX12_leave_106 rfl ?_
          refine wp_istore_n [some (.ref a0), some (.int a4), some (.int a2), some (.int a3), some (.int a4), some (.int x41), some (.int x45)] xi_214 dX12_leave_108 rfl ?_
          refine wp_iload xi_214 dX12_leave_109 rfl ?_
          refine wp_istore_n [some (.ref a0), some (.int a4), some (.int x41), some (.int a3), some (.int a4), some (.int x41), some (.int x45)] xi_214 dX12_leave_111 rfl ?_
          refine wp_iload xi_214 dX12_leave_112 rfl ?_
          refine wp_istore_n [some (.ref a0), some (.int a4), some (.int x41), some (.int x45), some (.int a4), some (.int x41), some (.int x45)] xi_214 dX12_leave_114 rfl ?_
          simp only [Option.some.injEq, Prod.mk.injEq] at H
          obtain ⟨rfl, rfl, rfl, rfl⟩ := H
          exact Wp.more (by simp [xMore, Value.category]) K30
        · rw [if_neg c46] at H
          refine wp_iload xi_214 dX12_leave_88 rfl ?_
          refine wp_iload_n xi_214 dX12_leave_90 rfl ?_
          refine wp_icmp_lt 106 xi_214 dX12_leave_91 rfl (fun c47 => ?_) (fun c47 => ?_)
          · rw [if_pos c47] at H
            refine wp_iload xi_214 dX12_leave_106 rfl ?_
            refine wp_istore_n [some (.ref a0), some (.int a4), some (.int a2), some (.int a3), some (.int a4), some (.int x41), some (.int x45)] xi_214 dX12_leave_108 rfl ?_
            refine wp_iload xi_214 dX12_leave_109 rfl ?_
            refine wp_istore_n [some (.ref a0), some (.int a4), some (.int x41), some (.int a3), some (.int a4), some (.int x41), some (.int x45)] xi_214 dX12_leave_111 rfl ?_
            refine wp_iload xi_214 dX12_leave_112 rfl ?_
            refine wp_istore_n [some (.ref a0), some (.int a4), some (.int x41), some (.int x45), some (.int a4), some (.int x41), some (.int x45)] xi_214 dX12_leave_114 rfl ?_
            simp only [Option.some.injEq, Prod.mk.injEq] at H
            obtain ⟨rfl, rfl, rfl, rfl⟩ := H
            exact Wp.more (by simp [xMore, Value.category]) K30
          · rw [if_neg c47] at H
            refine wp_iload xi_214 dX12_leave_94 rfl ?_
            refine wp_iload_n xi_214 dX12_leave_96 rfl ?_
            refine wp_icmp_ne 115 xi_214 dX12_leave_97 rfl (fun c48 => ?_) (fun c48 => ?_)
            · rw [if_neg c48] at H
              simp only [Option.some.injEq, Prod.mk.injEq] at H
              obtain ⟨rfl, rfl, rfl, rfl⟩ := H
              exact Wp.more (by simp [xMore, Value.category]) K30
            · rw [if_pos c48] at H
              refine wp_iload xi_214 dX12_leave_100 rfl ?_
              refine wp_iload_n xi_214 dX12_leave_102 rfl ?_
              refine wp_icmp_ge 115 xi_214 dX12_leave_103 rfl (fun c49 => ?_) (fun c49 => ?_)
              · rw [if_pos c49] at H
                simp only [Option.some.injEq, Prod.mk.injEq] at H
                obtain ⟨rfl, rfl, rfl, rfl⟩ := H
                exact Wp.more (by simp [xMore, Value.category]) K30
              · rw [if_neg c49] at H
                refine wp_iload xi_214 dX12_leave_106 rfl ?_
                refine wp_istore_n [some (.ref a0), some (.int a4), some (.int a2), some (.int a3), some (.int a4), some (.int x41), some (.int x45)] xi_214 dX12_leave_108 rfl ?_
                refine wp_iload xi_214 dX12_leave_109 rfl ?_
                refine wp_istore_n [some (.ref a0), some (.int a4), some (.int x41), some (.int a3), some (.int a4), some (.int x41), some (.int x45)] xi_214 dX12_leave_111 rfl ?_
                refine wp_iload xi_214 dX12_leave_112 rfl ?_
                refine wp_istore_n [some (.ref a0), some (.int a4), some (.int x41), some (.int x45), some (.int a4), some (.int x41), some (.int x45)] xi_214 dX12_leave_114 rfl ?_
                simp only [Option.some.injEq, Prod.mk.injEq] at H
                obtain ⟨rfl, rfl, rfl, rfl⟩ := H
                exact Wp.more (by simp [xMore, Value.category]) K30
      · rw [if_pos c6] at H
        refine wp_goto 115 xi_214 dX12_leave_36 rfl ?_
        simp only [Option.some.injEq, Prod.mk.injEq] at H
        obtain ⟨rfl, rfl, rfl, rfl⟩ := H
        exact Wp.more (by simp [xMore, Value.category]) K30
def f_214  (a : Nat) (h : xH) : Option (Int32 × xH) :=
  (pP h a 12 0 (.int 0)).bind fun h1 =>
  (f_214_15 100000 a (-2) 0 0 0 h1).bind fun (w3, w4, w5, h2) =>
  (if (0 : Int32) ≤ w3 then
  (pP h2 a 12 1 (.int 0)).bind fun h9 =>
  (pG (pIs h9 a 12)).bind fun _ =>
  (f_165 a ((w4 : Int32).toInt64) h9).bind fun h11 =>
  (pG (pIs h11 a 12)).bind fun _ =>
  (f_165 a ((w5 : Int32).toInt64) h11).bind fun h13 =>
  some (w3, h13)
  else
  some ((-2), h2))
set_option maxHeartbeats 4000000 in
theorem e_214 (d : Nat) (Q : Option Value → xH → Prop)  {h : xH} {a : Nat} {x : Int32} {h1 : xH} (H : f_214  a h = some (x, h1)) (hq : Q (some (.int x)) h1) : Wp (d + 6) 214 0 [some (.ref a), none, none, none, none, none, none] [] h Q := by
  unfold f_214 at H
  refine wp_aload_n xi_214 dX12_leave_0 rfl ?_
  refine wp_iconst 0 xi_214 dX12_leave_1 rfl ?_
  obtain ⟨h1, gh1, H⟩ := Option.bind_eq_some_iff.mp H
  refine wq_putf xi_214 dX12_leave_2 xf_12_3 (Or.inl rfl) gh1 ?_
  refine wp_bipush (-2) xi_214 dX12_leave_5 rfl ?_
  refine wp_istore_n [some (.ref a), some (.int (-2)), none, none, none, none, none] xi_214 dX12_leave_7 rfl ?_
  refine wp_iconst 0 xi_214 dX12_leave_8 rfl ?_
  refine wp_istore_n [some (.ref a), some (.int (-2)), some (.int 0), none, none, none, none] xi_214 dX12_leave_9 rfl ?_
  refine wp_iconst 0 xi_214 dX12_leave_10 rfl ?_
  refine wp_istore_n [some (.ref a), some (.int (-2)), some (.int 0), some (.int 0), none, none, none] xi_214 dX12_leave_11 rfl ?_
  refine wp_iconst 0 xi_214 dX12_leave_12 rfl ?_
  refine wp_istore [some (.ref a), some (.int (-2)), some (.int 0), some (.int 0), some (.int 0), none, none] xi_214 dX12_leave_13 rfl ?_
  obtain ⟨⟨w3, w4, w5, h2⟩, G6, H⟩ := Option.bind_eq_some_iff.mp H
  dsimp only at H
  refine Wp.more (by simp [xMore, Value.category]) (ef_214_15 d Q  100000 a (-2) 0 0 0 h1 _ G6 (fun z0 z1 z2 z3 e9 => ?_))
  cases e9
  refine wp_iload_n xi_214 dX12_leave_121 rfl ?_
  refine wp_if_ge 128 xi_214 dX12_leave_122 rfl (fun c8 => ?_) (fun c8 => ?_)
  · rw [if_pos c8] at H
    refine wp_aload_n xi_214 dX12_leave_128 rfl ?_
    refine wp_iconst 0 xi_214 dX12_leave_129 rfl ?_
    obtain ⟨h9, gh9, H⟩ := Option.bind_eq_some_iff.mp H
    refine wq_putf xi_214 dX12_leave_130 xf_12_15 (Or.inl rfl) gh9 ?_
    refine wp_aload_n xi_214 dX12_leave_133 rfl ?_
    refine wp_iload_n xi_214 dX12_leave_134 rfl ?_
    refine wp_i2l xi_214 dX12_leave_135 ?_
    obtain ⟨u10, gu10, H⟩ := Option.bind_eq_some_iff.mp H
    obtain ⟨h11, gh11, H⟩ := Option.bind_eq_some_iff.mp H
    refine wq_callV (a := a) (as := [.long ((w4 : Int32).toInt64)]) (r := []) (v1 := none) xi_214 xi_165 dX12_leave_136 xm_12_279 rfl (Nat.le_of_ble_eq_true rfl) (pG_ok gu10) ⟨(Nat.le_of_ble_eq_true rfl), (Nat.le_of_ble_eq_true rfl)⟩ rfl nofun (e_165 (d + 5) _ gh11 ⟨rfl, rfl⟩) ?_
    change Wp _ _ _ _ [] _ _
    refine wp_aload_n xi_214 dX12_leave_139 rfl ?_
    refine wp_iload_n xi_214 dX12_leave_140 rfl ?_
    refine wp_i2l xi_214 dX12_leave_141 ?_
    obtain ⟨u12, gu12, H⟩ := Option.bind_eq_some_iff.mp H
    obtain ⟨h13, gh13, H⟩ := Option.bind_eq_some_iff.mp H
    refine wq_callV (a := a) (as := [.long ((w5 : Int32).toInt64)]) (r := []) (v1 := none) xi_214 xi_165 dX12_leave_142 xm_12_279 rfl (Nat.le_of_ble_eq_true rfl) (pG_ok gu12) ⟨(Nat.le_of_ble_eq_true rfl), (Nat.le_of_ble_eq_true rfl)⟩ rfl nofun (e_165 (d + 5) _ gh13 ⟨rfl, rfl⟩) ?_
    change Wp _ _ _ _ [] _ _
    refine wp_iload_n xi_214 dX12_leave_145 rfl ?_
    obtain ⟨rfl, rfl⟩ := oi2 H
    exact wp_iret xi_214 dX12_leave_146 hq
  · rw [if_neg c8] at H
    refine wp_bipush (-2) xi_214 dX12_leave_125 rfl ?_
    obtain ⟨rfl, rfl⟩ := oi2 H
    exact wp_iret xi_214 dX12_leave_127 hq
/- FelledHasLostModel.where(I)I -/
def f_215_26  : Nat → Nat → Int32 → Int32 → Int32 → Int32 → xH → Option (Int32 × Int32 × xH)
  | 0, _, _, _, _, _, _ => none
  | n + 1, a0, a1, a2, a3, a4, h =>
  (if (3 : Int32) ≤ a4 then
  some (a2, a3, h)
  else
  (pFr h a0 12 3).bind fun x2 =>
  (pG (pIs h a0 12)).bind fun _ =>
  (f_204 a0 x2 ((10 * a1) + a4) h).bind fun (x5, h4) =>
  ((if x5 = 0 then
  some (a2, a3, h4)
  else
  (pFr h4 a0 12 3).bind fun x35 =>
  (pFr h4 a0 12 27).bind fun x36 =>
  (f_168 x35 x36 h4).bind fun h37 =>
  (pFr h37 a0 12 27).bind fun x38 =>
  (pG (pIs h37 a0 12)).bind fun _ =>
  (f_203 a0 x38 ((10 * a1) + a4) h37).bind fun (x41, h40) =>
  (pFr h40 a0 12 27).bind fun x42 =>
  (pG (pIs h40 a0 12)).bind fun _ =>
  (f_187 a0 x42 h40).bind fun (x45, h44) =>
  (pFi h44 a0 12 23).bind fun x46 =>
  ((if (0 : Int32) ≤ x46 then
  (pFr h44 a0 12 22).bind fun x53 =>
  (pFi h44 a0 12 23).bind fun x54 =>
  (pAi h44 x53 x54).bind fun x55 =>
  some (x55)
  else
  some (0) : Option (Int32))).bind fun (w51 : Int32) =>
  (if a2 < 0 then
  some (a4, w51, h44)
  else
  (if w51 ≤ a3 then
  some (a2, a3, h44)
  else
  some (a4, w51, h44))) : Option (Int32 × Int32 × xH))).bind fun (w31, w32, h33) =>
  f_215_26 n a0 a1 w31 w32 (a4 + 1) h33)
theorem ef_215_26 (d : Nat) (Q : Option Value → xH → Prop)  : ∀ (n : Nat) (a0 : Nat) (a1 : Int32) (a2 : Int32) (a3 : Int32) (a4 : Int32) (h : xH) (r : Int32 × Int32 × xH), f_215_26 n a0 a1 a2 a3 a4 h = some r → (∀ (w2 : Int32) (w3 : Int32) (h1 : xH), r = (w2, w3, h1) → Wp (d + 5) 215 132 [some (.ref a0), none, some (.int w2), some (.int w3), none, none, none] [] h1 Q) → Wp (d + 5) 215 26 [some (.ref a0), some (.int a1), some (.int a2), some (.int a3), some (.int a4), none, none] [] h Q := by
  intro n
  induction n with
  | zero =>
    intro a0 a1 a2 a3 a4 h r H
    cases H
  | succ n ih =>
    intro a0 a1 a2 a3 a4 h r H KE
    unfold f_215_26 at H
    refine wp_iload xi_215 dX12_where_26 rfl ?_
    refine wp_iconst 3 xi_215 dX12_where_28 rfl ?_
    refine wp_icmp_ge 132 xi_215 dX12_where_29 rfl (fun c1 => ?_) (fun c1 => ?_)
    · rw [if_pos c1] at H
      obtain rfl := Option.some.inj H
      exact Wp.more (by simp [xMore, Value.category]) (KE a2 a3 h rfl)
    · rw [if_neg c1] at H
      refine wp_bipush 10 xi_215 dX12_where_32 rfl ?_
      refine wp_iload_n xi_215 dX12_where_34 rfl ?_
      refine wp_imul xi_215 dX12_where_35 ?_
      refine wp_iload xi_215 dX12_where_36 rfl ?_
      refine wp_iadd xi_215 dX12_where_38 ?_
      refine wp_istore [some (.ref a0), some (.int a1), some (.int a2), some (.int a3), some (.int a4), some (.int ((10 * a1) + a4)), none] xi_215 dX12_where_39 rfl ?_
      refine wp_aload_n xi_215 dX12_where_41 rfl ?_
      refine wp_aload_n xi_215 dX12_where_42 rfl ?_
      obtain ⟨x2, gx2, H⟩ := Option.bind_eq_some_iff.mp H
      refine wq_getfr xi_215 dX12_where_43 xf_12_24 gx2 ?_
      refine wp_iload xi_215 dX12_where_46 rfl ?_
      obtain ⟨u3, gu3, H⟩ := Option.bind_eq_some_iff.mp H
      obtain ⟨⟨x5, h4⟩, gh4, H⟩ := Option.bind_eq_some_iff.mp H
      dsimp only at H
      refine wq_callV (a := a0) (as := [.ref x2, .int ((10 * a1) + a4)]) (r := []) (v1 := (some (.int x5))) xi_215 xi_204 dX12_where_48 xm_12_309 rfl (Nat.le_of_ble_eq_true rfl) (pG_ok gu3) ⟨(Nat.le_of_ble_eq_true rfl), (Nat.le_of_ble_eq_true rfl)⟩ rfl nofun (e_204 d _ gh4 ⟨rfl, rfl⟩) ?_
      change Wp _ _ _ _ [.int x5] _ _
      obtain ⟨⟨w31, w32, h33⟩, G59, H⟩ := Option.bind_eq_some_iff.mp H
      dsimp only at H
      have K34 : Wp (d + 5) 215 126 [some (.ref a0), some (.int a1), some (.int w31), some (.int w32), some (.int a4), some (.int ((10 * a1) + a4)), none] [] h33 Q := by
        refine wp_iinc (a4 + 1) [some (.ref a0), some (.int a1), some (.int w31), some (.int w32), some (.int (a4 + 1)), some (.int ((10 * a1) + a4)), none] xi_215 dX12_where_126 rfl rfl rfl ?_
        refine wp_goto 26 xi_215 dX12_where_129 rfl ?_
        exact Wp.more (by simp [xMore, Value.category]) (ih a0 a1 w31 w32 (a4 + 1) h33 _ H KE)
      clear H
      have H := G59
      clear G59
      refine wp_if_ne 57 xi_215 dX12_where_51 rfl (fun c6 => ?_) (fun c6 => ?_)
      · rw [if_neg c6] at H
        refine wp_aload_n xi_215 dX12_where_57 rfl ?_
        obtain ⟨x35, gx35, H⟩ := Option.bind_eq_some_iff.mp H
        refine wq_getfr xi_215 dX12_where_58 xf_12_24 gx35 ?_
        refine wp_aload_n xi_215 dX12_where_61 rfl ?_
        obtain ⟨x36, gx36, H⟩ := Option.bind_eq_some_iff.mp H
        refine wq_getfr xi_215 dX12_where_62 xf_12_64 gx36 ?_
        obtain ⟨h37, gh37, H⟩ := Option.bind_eq_some_iff.mp H
        refine wq_callS (as := [.ref x35, .ref x36]) (r := []) (v1 := none) xi_215 xi_168 dX12_where_65 xm_12_259 rfl (Nat.le_of_ble_eq_true rfl) ⟨(Nat.le_of_ble_eq_true rfl), (Nat.le_of_ble_eq_true rfl)⟩ rfl nofun (e_168 (d + 4) _ gh37 ⟨rfl, rfl⟩) ?_
        change Wp _ _ _ _ [] _ _
        refine wp_aload_n xi_215 dX12_where_68 rfl ?_
        refine wp_aload_n xi_215 dX12_where_69 rfl ?_
        obtain ⟨x38, gx38, H⟩ := Option.bind_eq_some_iff.mp H
        refine wq_getfr xi_215 dX12_where_70 xf_12_64 gx38 ?_
        refine wp_iload xi_215 dX12_where_73 rfl ?_
        obtain ⟨u39, gu39, H⟩ := Option.bind_eq_some_iff.mp H
        obtain ⟨⟨x41, h40⟩, gh40, H⟩ := Option.bind_eq_some_iff.mp H
        dsimp only at H
        refine wq_callV (a := a0) (as := [.ref x38, .int ((10 * a1) + a4)]) (r := []) (v1 := (some (.int x41))) xi_215 xi_203 dX12_where_75 xm_12_295 rfl (Nat.le_of_ble_eq_true rfl) (pG_ok gu39) ⟨(Nat.le_of_ble_eq_true rfl), (Nat.le_of_ble_eq_true rfl)⟩ rfl nofun (e_203 (d + 1) _ gh40 ⟨rfl, rfl⟩) ?_
        change Wp _ _ _ _ [.int x41] _ _
        refine wp_pop xi_215 dX12_where_78 rfl ?_
        refine wp_aload_n xi_215 dX12_where_79 rfl ?_
        refine wp_aload_n xi_215 dX12_where_80 rfl ?_
        obtain ⟨x42, gx42, H⟩ := Option.bind_eq_some_iff.mp H
        refine wq_getfr xi_215 dX12_where_81 xf_12_64 gx42 ?_
        obtain ⟨u43, gu43, H⟩ := Option.bind_eq_some_iff.mp H
        obtain ⟨⟨x45, h44⟩, gh44, H⟩ := Option.bind_eq_some_iff.mp H
        dsimp only at H
        refine wq_callV (a := a0) (as := [.ref x42]) (r := []) (v1 := (some (.int x45))) xi_215 xi_187 dX12_where_84 xm_12_240 rfl (Nat.le_of_ble_eq_true rfl) (pG_ok gu43) ⟨(Nat.le_of_ble_eq_true rfl), (Nat.le_of_ble_eq_true rfl)⟩ rfl nofun (e_187 (d + 3) _ gh44 ⟨rfl, rfl⟩) ?_
        change Wp _ _ _ _ [.int x45] _ _
        refine wp_pop xi_215 dX12_where_87 rfl ?_
        refine wp_aload_n xi_215 dX12_where_88 rfl ?_
        obtain ⟨x46, gx46, H⟩ := Option.bind_eq_some_iff.mp H
        refine wq_getfi xi_215 dX12_where_89 xf_12_231 gx46 ?_
        obtain ⟨w51, G58, H⟩ := Option.bind_eq_some_iff.mp H
        have K52 : Wp (d + 5) 215 108 [some (.ref a0), some (.int a1), some (.int a2), some (.int a3), some (.int a4), some (.int ((10 * a1) + a4)), none] [.int w51] h44 Q := by
          refine wp_istore [some (.ref a0), some (.int a1), some (.int a2), some (.int a3), some (.int a4), some (.int ((10 * a1) + a4)), some (.int w51)] xi_215 dX12_where_108 rfl ?_
          refine wp_iload_n xi_215 dX12_where_110 rfl ?_
          refine wp_if_lt 120 xi_215 dX12_where_111 rfl (fun c56 => ?_) (fun c56 => ?_)
          · rw [if_pos c56] at H
            refine wp_iload xi_215 dX12_where_120 rfl ?_
            refine wp_istore_n [some (.ref a0), some (.int a1), some (.int a4), some (.int a3), some (.int a4), some (.int ((10 * a1) + a4)), some (.int w51)] xi_215 dX12_where_122 rfl ?_
            refine wp_iload xi_215 dX12_where_123 rfl ?_
            refine wp_istore_n [some (.ref a0), some (.int a1), some (.int a4), some (.int w51), some (.int a4), some (.int ((10 * a1) + a4)), some (.int w51)] xi_215 dX12_where_125 rfl ?_
            simp only [Option.some.injEq, Prod.mk.injEq] at H
            obtain ⟨rfl, rfl, rfl⟩ := H
            exact Wp.more (by simp [xMore, Value.category]) K34
          · rw [if_neg c56] at H
            refine wp_iload xi_215 dX12_where_114 rfl ?_
            refine wp_iload_n xi_215 dX12_where_116 rfl ?_
            refine wp_icmp_le 126 xi_215 dX12_where_117 rfl (fun c57 => ?_) (fun c57 => ?_)
            · rw [if_pos c57] at H
              simp only [Option.some.injEq, Prod.mk.injEq] at H
              obtain ⟨rfl, rfl, rfl⟩ := H
              exact Wp.more (by simp [xMore, Value.category]) K34
            · rw [if_neg c57] at H
              refine wp_iload xi_215 dX12_where_120 rfl ?_
              refine wp_istore_n [some (.ref a0), some (.int a1), some (.int a4), some (.int a3), some (.int a4), some (.int ((10 * a1) + a4)), some (.int w51)] xi_215 dX12_where_122 rfl ?_
              refine wp_iload xi_215 dX12_where_123 rfl ?_
              refine wp_istore_n [some (.ref a0), some (.int a1), some (.int a4), some (.int w51), some (.int a4), some (.int ((10 * a1) + a4)), some (.int w51)] xi_215 dX12_where_125 rfl ?_
              simp only [Option.some.injEq, Prod.mk.injEq] at H
              obtain ⟨rfl, rfl, rfl⟩ := H
              exact Wp.more (by simp [xMore, Value.category]) K34
        clear H
        have H := G58
        clear G58
        refine wp_if_ge 99 xi_215 dX12_where_92 rfl (fun c47 => ?_) (fun c47 => ?_)
        · rw [if_pos c47] at H
          refine wp_aload_n xi_215 dX12_where_99 rfl ?_
          obtain ⟨x53, gx53, H⟩ := Option.bind_eq_some_iff.mp H
          refine wq_getfr xi_215 dX12_where_100 xf_12_58 gx53 ?_
          refine wp_aload_n xi_215 dX12_where_103 rfl ?_
          obtain ⟨x54, gx54, H⟩ := Option.bind_eq_some_iff.mp H
          refine wq_getfi xi_215 dX12_where_104 xf_12_231 gx54 ?_
          obtain ⟨x55, gx55, H⟩ := Option.bind_eq_some_iff.mp H
          refine wq_iaload xi_215 dX12_where_107 gx55 ?_
          obtain rfl := Option.some.inj H
          exact Wp.more (by simp [xMore, Value.category]) K52
        · rw [if_neg c47] at H
          refine wp_iconst 0 xi_215 dX12_where_95 rfl ?_
          refine wp_goto 108 xi_215 dX12_where_96 rfl ?_
          obtain rfl := Option.some.inj H
          exact Wp.more (by simp [xMore, Value.category]) K52
      · rw [if_pos c6] at H
        refine wp_goto 126 xi_215 dX12_where_54 rfl ?_
        simp only [Option.some.injEq, Prod.mk.injEq] at H
        obtain ⟨rfl, rfl, rfl⟩ := H
        exact Wp.more (by simp [xMore, Value.category]) K34
def f_215  (a : Nat) (p0 : Int32) (h : xH) : Option (Int32 × xH) :=
  (pP h a 12 0 (.int 0)).bind fun h1 =>
  (pFr h1 a 12 3).bind fun x2 =>
  (f_169 x2 p0 h1).bind fun (x4, h3) =>
  (if x4 = 0 then
  some ((-1), h3)
  else
  (f_215_26 100000 a p0 (-2) 0 0 h3).bind fun (w7, w8, h6) =>
  (if (0 : Int32) ≤ w7 then
  (pP h6 a 12 1 (.int 0)).bind fun h12 =>
  (pG (pIs h12 a 12)).bind fun _ =>
  (f_165 a ((w8 : Int32).toInt64) h12).bind fun h14 =>
  some (w7, h14)
  else
  some ((-2), h6)))
set_option maxHeartbeats 4000000 in
theorem e_215 (d : Nat) (Q : Option Value → xH → Prop)  {h : xH} {a : Nat} {p0 : Int32} {x : Int32} {h1 : xH} (H : f_215  a p0 h = some (x, h1)) (hq : Q (some (.int x)) h1) : Wp (d + 5) 215 0 [some (.ref a), some (.int p0), none, none, none, none, none] [] h Q := by
  unfold f_215 at H
  refine wp_aload_n xi_215 dX12_where_0 rfl ?_
  refine wp_iconst 0 xi_215 dX12_where_1 rfl ?_
  obtain ⟨h1, gh1, H⟩ := Option.bind_eq_some_iff.mp H
  refine wq_putf xi_215 dX12_where_2 xf_12_3 (Or.inl rfl) gh1 ?_
  refine wp_aload_n xi_215 dX12_where_5 rfl ?_
  obtain ⟨x2, gx2, H⟩ := Option.bind_eq_some_iff.mp H
  refine wq_getfr xi_215 dX12_where_6 xf_12_24 gx2 ?_
  refine wp_iload_n xi_215 dX12_where_9 rfl ?_
  obtain ⟨⟨x4, h3⟩, gh3, H⟩ := Option.bind_eq_some_iff.mp H
  dsimp only at H
  refine wq_callS (as := [.ref x2, .int p0]) (r := []) (v1 := (some (.int x4))) xi_215 xi_169 dX12_where_10 xm_12_244 rfl (Nat.le_of_ble_eq_true rfl) ⟨(Nat.le_of_ble_eq_true rfl), (Nat.le_of_ble_eq_true rfl)⟩ rfl nofun (e_169 (d + 3) _ gh3 ⟨rfl, rfl⟩) ?_
  change Wp _ _ _ _ [.int x4] _ _
  refine wp_if_ne 18 xi_215 dX12_where_13 rfl (fun c5 => ?_) (fun c5 => ?_)
  · rw [if_neg c5] at H
    refine wp_bipush (-2) xi_215 dX12_where_18 rfl ?_
    refine wp_istore_n [some (.ref a), some (.int p0), some (.int (-2)), none, none, none, none] xi_215 dX12_where_20 rfl ?_
    refine wp_iconst 0 xi_215 dX12_where_21 rfl ?_
    refine wp_istore_n [some (.ref a), some (.int p0), some (.int (-2)), some (.int 0), none, none, none] xi_215 dX12_where_22 rfl ?_
    refine wp_iconst 0 xi_215 dX12_where_23 rfl ?_
    refine wp_istore [some (.ref a), some (.int p0), some (.int (-2)), some (.int 0), some (.int 0), none, none] xi_215 dX12_where_24 rfl ?_
    obtain ⟨⟨w7, w8, h6⟩, G9, H⟩ := Option.bind_eq_some_iff.mp H
    dsimp only at H
    refine Wp.more (by simp [xMore, Value.category]) (ef_215_26 d Q  100000 a p0 (-2) 0 0 h3 _ G9 (fun z0 z1 z2 e9 => ?_))
    cases e9
    refine wp_iload_n xi_215 dX12_where_132 rfl ?_
    refine wp_if_ge 139 xi_215 dX12_where_133 rfl (fun c11 => ?_) (fun c11 => ?_)
    · rw [if_pos c11] at H
      refine wp_aload_n xi_215 dX12_where_139 rfl ?_
      refine wp_iconst 0 xi_215 dX12_where_140 rfl ?_
      obtain ⟨h12, gh12, H⟩ := Option.bind_eq_some_iff.mp H
      refine wq_putf xi_215 dX12_where_141 xf_12_15 (Or.inl rfl) gh12 ?_
      refine wp_aload_n xi_215 dX12_where_144 rfl ?_
      refine wp_iload_n xi_215 dX12_where_145 rfl ?_
      refine wp_i2l xi_215 dX12_where_146 ?_
      obtain ⟨u13, gu13, H⟩ := Option.bind_eq_some_iff.mp H
      obtain ⟨h14, gh14, H⟩ := Option.bind_eq_some_iff.mp H
      refine wq_callV (a := a) (as := [.long ((w8 : Int32).toInt64)]) (r := []) (v1 := none) xi_215 xi_165 dX12_where_147 xm_12_279 rfl (Nat.le_of_ble_eq_true rfl) (pG_ok gu13) ⟨(Nat.le_of_ble_eq_true rfl), (Nat.le_of_ble_eq_true rfl)⟩ rfl nofun (e_165 (d + 4) _ gh14 ⟨rfl, rfl⟩) ?_
      change Wp _ _ _ _ [] _ _
      refine wp_iload_n xi_215 dX12_where_150 rfl ?_
      obtain ⟨rfl, rfl⟩ := oi2 H
      exact wp_iret xi_215 dX12_where_151 hq
    · rw [if_neg c11] at H
      refine wp_bipush (-2) xi_215 dX12_where_136 rfl ?_
      obtain ⟨rfl, rfl⟩ := oi2 H
      exact wp_iret xi_215 dX12_where_138 hq
  · rw [if_pos c5] at H
    refine wp_iconst (-1) xi_215 dX12_where_16 rfl ?_
    obtain ⟨rfl, rfl⟩ := oi2 H
    exact wp_iret xi_215 dX12_where_17 hq
/- FelledHasLostModel.putsBy()V -/
def f_216_2  : Nat → Nat → Int32 → xH → Option (xH)
  | 0, _, _, _ => none
  | n + 1, a0, a1, h =>
  (if (54 : Int32) ≤ a1 then
  some (h)
  else
  (pFr h a0 12 29).bind fun x2 =>
  (pFi h a0 12 28).bind fun x3 =>
  (pFr h a0 12 3).bind fun x4 =>
  (pAi h x4 a1).bind fun x5 =>
  (pSi h x2 ((54 * x3) + a1) x5).bind fun h6 =>
  f_216_2 n a0 (a1 + 1) h6)
theorem ef_216_2 (d : Nat) (Q : Option Value → xH → Prop)  : ∀ (n : Nat) (a0 : Nat) (a1 : Int32) (h : xH) (r : xH), f_216_2 n a0 a1 h = some r → (∀  (h1 : xH), r = h1 → Wp (d + 0) 216 34 [none, none] [] h1 Q) → Wp (d + 0) 216 2 [some (.ref a0), some (.int a1)] [] h Q := by
  intro n
  induction n with
  | zero =>
    intro a0 a1 h r H
    cases H
  | succ n ih =>
    intro a0 a1 h r H KE
    unfold f_216_2 at H
    refine wp_iload_n xi_216 dX12_putsBy_2 rfl ?_
    refine wp_bipush 54 xi_216 dX12_putsBy_3 rfl ?_
    refine wp_icmp_ge 34 xi_216 dX12_putsBy_5 rfl (fun c1 => ?_) (fun c1 => ?_)
    · rw [if_pos c1] at H
      obtain rfl := Option.some.inj H
      exact Wp.more (by simp [xMore, Value.category]) (KE  h rfl)
    · rw [if_neg c1] at H
      refine wp_aload_n xi_216 dX12_putsBy_8 rfl ?_
      obtain ⟨x2, gx2, H⟩ := Option.bind_eq_some_iff.mp H
      refine wq_getfr xi_216 dX12_putsBy_9 xf_12_67 gx2 ?_
      refine wp_bipush 54 xi_216 dX12_putsBy_12 rfl ?_
      refine wp_aload_n xi_216 dX12_putsBy_14 rfl ?_
      obtain ⟨x3, gx3, H⟩ := Option.bind_eq_some_iff.mp H
      refine wq_getfi xi_216 dX12_putsBy_15 xf_12_189 gx3 ?_
      refine wp_imul xi_216 dX12_putsBy_18 ?_
      refine wp_iload_n xi_216 dX12_putsBy_19 rfl ?_
      refine wp_iadd xi_216 dX12_putsBy_20 ?_
      refine wp_aload_n xi_216 dX12_putsBy_21 rfl ?_
      obtain ⟨x4, gx4, H⟩ := Option.bind_eq_some_iff.mp H
      refine wq_getfr xi_216 dX12_putsBy_22 xf_12_24 gx4 ?_
      refine wp_iload_n xi_216 dX12_putsBy_25 rfl ?_
      obtain ⟨x5, gx5, H⟩ := Option.bind_eq_some_iff.mp H
      refine wq_iaload xi_216 dX12_putsBy_26 gx5 ?_
      obtain ⟨h6, gh6, H⟩ := Option.bind_eq_some_iff.mp H
      refine wq_iastore xi_216 dX12_putsBy_27 gh6 ?_
      refine wp_iinc (a1 + 1) [some (.ref a0), some (.int (a1 + 1))] xi_216 dX12_putsBy_28 rfl rfl rfl ?_
      refine wp_goto 2 xi_216 dX12_putsBy_31 rfl ?_
      exact Wp.more (by simp [xMore, Value.category]) (ih a0 (a1 + 1) h6 _ H KE)
def f_216  (a : Nat) (h : xH) : Option (xH) :=
  (f_216_2 100000 a 0 h).bind fun h1 =>
  some h1
set_option maxHeartbeats 4000000 in
theorem e_216 (d : Nat) (Q : Option Value → xH → Prop)  {h : xH} {a : Nat} {h1 : xH} (H : f_216  a h = some h1) (hq : Q none h1) : Wp (d + 0) 216 0 [some (.ref a), none] [] h Q := by
  unfold f_216 at H
  refine wp_iconst 0 xi_216 dX12_putsBy_0 rfl ?_
  refine wp_istore_n [some (.ref a), some (.int 0)] xi_216 dX12_putsBy_1 rfl ?_
  obtain ⟨h1, G2, H⟩ := Option.bind_eq_some_iff.mp H
  refine Wp.more (by simp [xMore, Value.category]) (ef_216_2 d Q  100000 a 0 h _ G2 (fun z0 e9 => ?_))
  cases e9
  obtain rfl := Option.some.inj H
  exact wp_vret xi_216 dX12_putsBy_34 hq
/- FelledHasLostModel.adds()V -/
def f_217_21  : Nat → Nat → Int32 → xH → Option (xH)
  | 0, _, _, _ => none
  | n + 1, a0, a1, h =>
  (if (810 : Int32) ≤ a1 then
  some (h)
  else
  (pFr h a0 12 29).bind fun x2 =>
  (pFr h a0 12 29).bind fun x3 =>
  (pAi h x3 (a1 + 54)).bind fun x4 =>
  (pSi h x2 a1 x4).bind fun h5 =>
  f_217_21 n a0 (a1 + 1) h5)
theorem ef_217_21 (d : Nat) (Q : Option Value → xH → Prop)  : ∀ (n : Nat) (a0 : Nat) (a1 : Int32) (h : xH) (r : xH), f_217_21 n a0 a1 h = some r → (∀  (h1 : xH), r = h1 → Wp (d + 0) 217 49 [some (.ref a0), none] [] h1 Q) → Wp (d + 0) 217 21 [some (.ref a0), some (.int a1)] [] h Q := by
  intro n
  induction n with
  | zero =>
    intro a0 a1 h r H
    cases H
  | succ n ih =>
    intro a0 a1 h r H KE
    unfold f_217_21 at H
    refine wp_iload_n xi_217 dX12_adds_21 rfl ?_
    refine wp_sipush 810 xi_217 dX12_adds_22 rfl ?_
    refine wp_icmp_ge 49 xi_217 dX12_adds_25 rfl (fun c1 => ?_) (fun c1 => ?_)
    · rw [if_pos c1] at H
      obtain rfl := Option.some.inj H
      exact Wp.more (by simp [xMore, Value.category]) (KE  h rfl)
    · rw [if_neg c1] at H
      refine wp_aload_n xi_217 dX12_adds_28 rfl ?_
      obtain ⟨x2, gx2, H⟩ := Option.bind_eq_some_iff.mp H
      refine wq_getfr xi_217 dX12_adds_29 xf_12_67 gx2 ?_
      refine wp_iload_n xi_217 dX12_adds_32 rfl ?_
      refine wp_aload_n xi_217 dX12_adds_33 rfl ?_
      obtain ⟨x3, gx3, H⟩ := Option.bind_eq_some_iff.mp H
      refine wq_getfr xi_217 dX12_adds_34 xf_12_67 gx3 ?_
      refine wp_iload_n xi_217 dX12_adds_37 rfl ?_
      refine wp_bipush 54 xi_217 dX12_adds_38 rfl ?_
      refine wp_iadd xi_217 dX12_adds_40 ?_
      obtain ⟨x4, gx4, H⟩ := Option.bind_eq_some_iff.mp H
      refine wq_iaload xi_217 dX12_adds_41 gx4 ?_
      obtain ⟨h5, gh5, H⟩ := Option.bind_eq_some_iff.mp H
      refine wq_iastore xi_217 dX12_adds_42 gh5 ?_
      refine wp_iinc (a1 + 1) [some (.ref a0), some (.int (a1 + 1))] xi_217 dX12_adds_43 rfl rfl rfl ?_
      refine wp_goto 21 xi_217 dX12_adds_46 rfl ?_
      exact Wp.more (by simp [xMore, Value.category]) (ih a0 (a1 + 1) h5 _ H KE)
def f_217  (a : Nat) (h : xH) : Option (xH) :=
  (pFi h a 12 28).bind fun x1 =>
  (pP h a 12 28 (.int (x1 + 1))).bind fun h2 =>
  (pFi h2 a 12 28).bind fun x3 =>
  ((if x3 ≤ 15 then
  some (h2)
  else
  (f_217_21 100000 a 0 h2).bind fun h12 =>
  (pFi h12 a 12 28).bind fun x15 =>
  (pP h12 a 12 28 (.int (x15 - 1))).bind fun h16 =>
  some (h16) : Option (xH))).bind fun (h10 : xH) =>
  some h10
set_option maxHeartbeats 4000000 in
theorem e_217 (d : Nat) (Q : Option Value → xH → Prop)  {h : xH} {a : Nat} {h1 : xH} (H : f_217  a h = some h1) (hq : Q none h1) : Wp (d + 0) 217 0 [some (.ref a), none] [] h Q := by
  unfold f_217 at H
  refine wp_aload_n xi_217 dX12_adds_0 rfl ?_
  refine wp_dup xi_217 dX12_adds_1 rfl ?_
  obtain ⟨x1, gx1, H⟩ := Option.bind_eq_some_iff.mp H
  refine wq_getfi xi_217 dX12_adds_2 xf_12_189 gx1 ?_
  refine wp_iconst 1 xi_217 dX12_adds_5 rfl ?_
  refine wp_iadd xi_217 dX12_adds_6 ?_
  obtain ⟨h2, gh2, H⟩ := Option.bind_eq_some_iff.mp H
  refine wq_putf xi_217 dX12_adds_7 xf_12_189 (Or.inl rfl) gh2 ?_
  refine wp_aload_n xi_217 dX12_adds_10 rfl ?_
  obtain ⟨x3, gx3, H⟩ := Option.bind_eq_some_iff.mp H
  refine wq_getfi xi_217 dX12_adds_11 xf_12_189 gx3 ?_
  refine wp_bipush 15 xi_217 dX12_adds_14 rfl ?_
  obtain ⟨h10, G17, H⟩ := Option.bind_eq_some_iff.mp H
  have K11 : Wp (d + 0) 217 59 [some (.ref a), none] [] h10 Q := by
    obtain rfl := Option.some.inj H
    exact wp_vret xi_217 dX12_adds_59 hq
  clear H
  have H := G17
  clear G17
  refine wp_icmp_le 59 xi_217 dX12_adds_16 rfl (fun c4 => ?_) (fun c4 => ?_)
  · rw [if_pos c4] at H
    obtain rfl := Option.some.inj H
    exact Wp.more (by simp [xMore, Value.category]) K11
  · rw [if_neg c4] at H
    refine wp_iconst 0 xi_217 dX12_adds_19 rfl ?_
    refine wp_istore_n [some (.ref a), some (.int 0)] xi_217 dX12_adds_20 rfl ?_
    obtain ⟨h12, G13, H⟩ := Option.bind_eq_some_iff.mp H
    refine Wp.more (by simp [xMore, Value.category]) (ef_217_21 d Q  100000 a 0 h2 _ G13 (fun z0 e9 => ?_))
    cases e9
    refine wp_aload_n xi_217 dX12_adds_49 rfl ?_
    refine wp_dup xi_217 dX12_adds_50 rfl ?_
    obtain ⟨x15, gx15, H⟩ := Option.bind_eq_some_iff.mp H
    refine wq_getfi xi_217 dX12_adds_51 xf_12_189 gx15 ?_
    refine wp_iconst 1 xi_217 dX12_adds_54 rfl ?_
    refine wp_isub xi_217 dX12_adds_55 ?_
    obtain ⟨h16, gh16, H⟩ := Option.bind_eq_some_iff.mp H
    refine wq_putf xi_217 dX12_adds_56 xf_12_189 (Or.inl rfl) gh16 ?_
    obtain rfl := Option.some.inj H
    exact Wp.more (by simp [xMore, Value.category]) K11
/- FelledHasLostModel.undo()I -/
def f_218_26  : Nat → Nat → Int32 → xH → Option (xH)
  | 0, _, _, _ => none
  | n + 1, a0, a1, h =>
  (if (54 : Int32) ≤ a1 then
  some (h)
  else
  (pFr h a0 12 3).bind fun x2 =>
  (pFr h a0 12 29).bind fun x3 =>
  (pFi h a0 12 28).bind fun x4 =>
  (pAi h x3 ((54 * x4) + a1)).bind fun x5 =>
  (pSi h x2 a1 x5).bind fun h6 =>
  f_218_26 n a0 (a1 + 1) h6)
theorem ef_218_26 (d : Nat) (Q : Option Value → xH → Prop)  : ∀ (n : Nat) (a0 : Nat) (a1 : Int32) (h : xH) (r : xH), f_218_26 n a0 a1 h = some r → (∀  (h1 : xH), r = h1 → Wp (d + 0) 218 58 [some (.ref a0), none] [] h1 Q) → Wp (d + 0) 218 26 [some (.ref a0), some (.int a1)] [] h Q := by
  intro n
  induction n with
  | zero =>
    intro a0 a1 h r H
    cases H
  | succ n ih =>
    intro a0 a1 h r H KE
    unfold f_218_26 at H
    refine wp_iload_n xi_218 dX12_undo_26 rfl ?_
    refine wp_bipush 54 xi_218 dX12_undo_27 rfl ?_
    refine wp_icmp_ge 58 xi_218 dX12_undo_29 rfl (fun c1 => ?_) (fun c1 => ?_)
    · rw [if_pos c1] at H
      obtain rfl := Option.some.inj H
      exact Wp.more (by simp [xMore, Value.category]) (KE  h rfl)
    · rw [if_neg c1] at H
      refine wp_aload_n xi_218 dX12_undo_32 rfl ?_
      obtain ⟨x2, gx2, H⟩ := Option.bind_eq_some_iff.mp H
      refine wq_getfr xi_218 dX12_undo_33 xf_12_24 gx2 ?_
      refine wp_iload_n xi_218 dX12_undo_36 rfl ?_
      refine wp_aload_n xi_218 dX12_undo_37 rfl ?_
      obtain ⟨x3, gx3, H⟩ := Option.bind_eq_some_iff.mp H
      refine wq_getfr xi_218 dX12_undo_38 xf_12_67 gx3 ?_
      refine wp_bipush 54 xi_218 dX12_undo_41 rfl ?_
      refine wp_aload_n xi_218 dX12_undo_43 rfl ?_
      obtain ⟨x4, gx4, H⟩ := Option.bind_eq_some_iff.mp H
      refine wq_getfi xi_218 dX12_undo_44 xf_12_189 gx4 ?_
      refine wp_imul xi_218 dX12_undo_47 ?_
      refine wp_iload_n xi_218 dX12_undo_48 rfl ?_
      refine wp_iadd xi_218 dX12_undo_49 ?_
      obtain ⟨x5, gx5, H⟩ := Option.bind_eq_some_iff.mp H
      refine wq_iaload xi_218 dX12_undo_50 gx5 ?_
      obtain ⟨h6, gh6, H⟩ := Option.bind_eq_some_iff.mp H
      refine wq_iastore xi_218 dX12_undo_51 gh6 ?_
      refine wp_iinc (a1 + 1) [some (.ref a0), some (.int (a1 + 1))] xi_218 dX12_undo_52 rfl rfl rfl ?_
      refine wp_goto 26 xi_218 dX12_undo_55 rfl ?_
      exact Wp.more (by simp [xMore, Value.category]) (ih a0 (a1 + 1) h6 _ H KE)
def f_218  (a : Nat) (h : xH) : Option (Int32 × xH) :=
  (pP h a 12 0 (.int 0)).bind fun h1 =>
  (pFi h1 a 12 28).bind fun x2 =>
  (if x2 = 0 then
  some ((-1), h1)
  else
  (pFi h1 a 12 28).bind fun x4 =>
  (pP h1 a 12 28 (.int (x4 - 1))).bind fun h5 =>
  (f_218_26 100000 a 0 h5).bind fun h6 =>
  (pFr h6 a 12 3).bind fun x9 =>
  (pAi h6 x9 49).bind fun x10 =>
  (pFi h6 a 12 6).bind fun x11 =>
  (pRem x10 x11).bind fun x12 =>
  (pSi h6 x9 49 x12).bind fun h13 =>
  (pFi h13 a 12 28).bind fun x14 =>
  some (x14, h13))
set_option maxHeartbeats 4000000 in
theorem e_218 (d : Nat) (Q : Option Value → xH → Prop)  {h : xH} {a : Nat} {x : Int32} {h1 : xH} (H : f_218  a h = some (x, h1)) (hq : Q (some (.int x)) h1) : Wp (d + 0) 218 0 [some (.ref a), none] [] h Q := by
  unfold f_218 at H
  refine wp_aload_n xi_218 dX12_undo_0 rfl ?_
  refine wp_iconst 0 xi_218 dX12_undo_1 rfl ?_
  obtain ⟨h1, gh1, H⟩ := Option.bind_eq_some_iff.mp H
  refine wq_putf xi_218 dX12_undo_2 xf_12_3 (Or.inl rfl) gh1 ?_
  refine wp_aload_n xi_218 dX12_undo_5 rfl ?_
  obtain ⟨x2, gx2, H⟩ := Option.bind_eq_some_iff.mp H
  refine wq_getfi xi_218 dX12_undo_6 xf_12_189 gx2 ?_
  refine wp_if_ne 14 xi_218 dX12_undo_9 rfl (fun c3 => ?_) (fun c3 => ?_)
  · rw [if_neg c3] at H
    refine wp_aload_n xi_218 dX12_undo_14 rfl ?_
    refine wp_dup xi_218 dX12_undo_15 rfl ?_
    obtain ⟨x4, gx4, H⟩ := Option.bind_eq_some_iff.mp H
    refine wq_getfi xi_218 dX12_undo_16 xf_12_189 gx4 ?_
    refine wp_iconst 1 xi_218 dX12_undo_19 rfl ?_
    refine wp_isub xi_218 dX12_undo_20 ?_
    obtain ⟨h5, gh5, H⟩ := Option.bind_eq_some_iff.mp H
    refine wq_putf xi_218 dX12_undo_21 xf_12_189 (Or.inl rfl) gh5 ?_
    refine wp_iconst 0 xi_218 dX12_undo_24 rfl ?_
    refine wp_istore_n [some (.ref a), some (.int 0)] xi_218 dX12_undo_25 rfl ?_
    obtain ⟨h6, G7, H⟩ := Option.bind_eq_some_iff.mp H
    refine Wp.more (by simp [xMore, Value.category]) (ef_218_26 d Q  100000 a 0 h5 _ G7 (fun z0 e9 => ?_))
    cases e9
    refine wp_aload_n xi_218 dX12_undo_58 rfl ?_
    obtain ⟨x9, gx9, H⟩ := Option.bind_eq_some_iff.mp H
    refine wq_getfr xi_218 dX12_undo_59 xf_12_24 gx9 ?_
    refine wp_bipush 49 xi_218 dX12_undo_62 rfl ?_
    refine wp_dup2 xi_218 dX12_undo_64 rfl rfl ?_
    obtain ⟨x10, gx10, H⟩ := Option.bind_eq_some_iff.mp H
    refine wq_iaload xi_218 dX12_undo_65 gx10 ?_
    refine wp_aload_n xi_218 dX12_undo_66 rfl ?_
    obtain ⟨x11, gx11, H⟩ := Option.bind_eq_some_iff.mp H
    refine wq_getfi xi_218 dX12_undo_67 xf_12_34 gx11 ?_
    obtain ⟨x12, gx12, H⟩ := Option.bind_eq_some_iff.mp H
    refine wq_irem xi_218 dX12_undo_70 gx12 ?_
    obtain ⟨h13, gh13, H⟩ := Option.bind_eq_some_iff.mp H
    refine wq_iastore xi_218 dX12_undo_71 gh13 ?_
    refine wp_aload_n xi_218 dX12_undo_72 rfl ?_
    obtain ⟨x14, gx14, H⟩ := Option.bind_eq_some_iff.mp H
    refine wq_getfi xi_218 dX12_undo_73 xf_12_189 gx14 ?_
    obtain ⟨rfl, rfl⟩ := oi2 H
    exact wp_iret xi_218 dX12_undo_76 hq
  · rw [if_pos c3] at H
    refine wp_iconst (-1) xi_218 dX12_undo_12 rfl ?_
    obtain ⟨rfl, rfl⟩ := oi2 H
    exact wp_iret xi_218 dX12_undo_13 hq
/- FelledHasLostModel.makes(I)Z -/
def f_219  (a : Nat) (p0 : Int32) (h : xH) : Option (Int32 × xH) :=
  (pFr h a 12 3).bind fun x1 =>
  (pAi h x1 49).bind fun x2 =>
  (pFr h a 12 3).bind fun x3 =>
  (pG (pIs h a 12)).bind fun _ =>
  (f_203 a x3 p0 h).bind fun (x6, h5) =>
  (pFr h5 a 12 3).bind fun x7 =>
  (pFi h5 a 12 6).bind fun x8 =>
  (pRem (x2 + 1) x8).bind fun x9 =>
  (pSi h5 x7 49 x9).bind fun h10 =>
  (if x6 = 0 then
  pZ 1 h10
  else
  ((if x6 = 1 then
  (pDiv p0 10).bind fun x26 =>
  (pDiv x26 3).bind fun x27 =>
  some (x27, h10)
  else
  (pFr h10 a 12 3).bind fun x22 =>
  (pG (pIs h10 a 12)).bind fun _ =>
  (f_187 a x22 h10).bind fun (x25, h24) =>
  some (x25, h24) : Option (Int32 × xH))).bind fun (w19, h20) =>
  (pFr h20 a 12 3).bind fun x28 =>
  (pSi h20 x28 50 x6).bind fun h29 =>
  (pFr h29 a 12 3).bind fun x30 =>
  (pSi h29 x30 51 x2).bind fun h31 =>
  (pFr h31 a 12 3).bind fun x32 =>
  (pSi h31 x32 52 w19).bind fun h33 =>
  (pFr h33 a 12 3).bind fun x34 =>
  ((if x6 = 1 then
  some (0)
  else
  (pFr h33 a 12 22).bind fun x40 =>
  (pAi h33 x40 w19).bind fun x41 =>
  some (x41) : Option (Int32))).bind fun (w38 : Int32) =>
  (pSi h33 x34 53 w38).bind fun h42 =>
  pZ 0 h42)
set_option maxHeartbeats 4000000 in
theorem e_219 (d : Nat) (Q : Option Value → xH → Prop)  {h : xH} {a : Nat} {p0 : Int32} {x : Int32} {h1 : xH} (H : f_219  a p0 h = some (x, h1)) (hq : Q (some (.int x)) h1) : Wp (d + 4) 219 0 [some (.ref a), some (.int p0), none, none, none] [] h Q := by
  unfold f_219 at H
  refine wp_aload_n xi_219 dX12_makes_0 rfl ?_
  obtain ⟨x1, gx1, H⟩ := Option.bind_eq_some_iff.mp H
  refine wq_getfr xi_219 dX12_makes_1 xf_12_24 gx1 ?_
  refine wp_bipush 49 xi_219 dX12_makes_4 rfl ?_
  obtain ⟨x2, gx2, H⟩ := Option.bind_eq_some_iff.mp H
  refine wq_iaload xi_219 dX12_makes_6 gx2 ?_
  refine wp_istore_n [some (.ref a), some (.int p0), some (.int x2), none, none] xi_219 dX12_makes_7 rfl ?_
  refine wp_aload_n xi_219 dX12_makes_8 rfl ?_
  refine wp_aload_n xi_219 dX12_makes_9 rfl ?_
  obtain ⟨x3, gx3, H⟩ := Option.bind_eq_some_iff.mp H
  refine wq_getfr xi_219 dX12_makes_10 xf_12_24 gx3 ?_
  refine wp_iload_n xi_219 dX12_makes_13 rfl ?_
  obtain ⟨u4, gu4, H⟩ := Option.bind_eq_some_iff.mp H
  obtain ⟨⟨x6, h5⟩, gh5, H⟩ := Option.bind_eq_some_iff.mp H
  dsimp only at H
  refine wq_callV (a := a) (as := [.ref x3, .int p0]) (r := []) (v1 := (some (.int x6))) xi_219 xi_203 dX12_makes_14 xm_12_295 rfl (Nat.le_of_ble_eq_true rfl) (pG_ok gu4) ⟨(Nat.le_of_ble_eq_true rfl), (Nat.le_of_ble_eq_true rfl)⟩ rfl nofun (e_203 d _ gh5 ⟨rfl, rfl⟩) ?_
  change Wp _ _ _ _ [.int x6] _ _
  refine wp_istore_n [some (.ref a), some (.int p0), some (.int x2), some (.int x6), none] xi_219 dX12_makes_17 rfl ?_
  refine wp_aload_n xi_219 dX12_makes_18 rfl ?_
  obtain ⟨x7, gx7, H⟩ := Option.bind_eq_some_iff.mp H
  refine wq_getfr xi_219 dX12_makes_19 xf_12_24 gx7 ?_
  refine wp_bipush 49 xi_219 dX12_makes_22 rfl ?_
  refine wp_iload_n xi_219 dX12_makes_24 rfl ?_
  refine wp_iconst 1 xi_219 dX12_makes_25 rfl ?_
  refine wp_iadd xi_219 dX12_makes_26 ?_
  refine wp_aload_n xi_219 dX12_makes_27 rfl ?_
  obtain ⟨x8, gx8, H⟩ := Option.bind_eq_some_iff.mp H
  refine wq_getfi xi_219 dX12_makes_28 xf_12_34 gx8 ?_
  obtain ⟨x9, gx9, H⟩ := Option.bind_eq_some_iff.mp H
  refine wq_irem xi_219 dX12_makes_31 gx9 ?_
  obtain ⟨h10, gh10, H⟩ := Option.bind_eq_some_iff.mp H
  refine wq_iastore xi_219 dX12_makes_32 gh10 ?_
  refine wp_iload_n xi_219 dX12_makes_33 rfl ?_
  refine wp_if_ne 39 xi_219 dX12_makes_34 rfl (fun c11 => ?_) (fun c11 => ?_)
  · rw [if_neg c11] at H
    refine wp_iload_n xi_219 dX12_makes_39 rfl ?_
    refine wp_iconst 1 xi_219 dX12_makes_40 rfl ?_
    obtain ⟨⟨w19, h20⟩, G44, H⟩ := Option.bind_eq_some_iff.mp H
    dsimp only at H
    have K21 : Wp (d + 4) 219 61 [some (.ref a), some (.int p0), some (.int x2), some (.int x6), none] [.int w19] h20 Q := by
      refine wp_istore [some (.ref a), some (.int p0), some (.int x2), some (.int x6), some (.int w19)] xi_219 dX12_makes_61 rfl ?_
      refine wp_aload_n xi_219 dX12_makes_63 rfl ?_
      obtain ⟨x28, gx28, H⟩ := Option.bind_eq_some_iff.mp H
      refine wq_getfr xi_219 dX12_makes_64 xf_12_24 gx28 ?_
      refine wp_bipush 50 xi_219 dX12_makes_67 rfl ?_
      refine wp_iload_n xi_219 dX12_makes_69 rfl ?_
      obtain ⟨h29, gh29, H⟩ := Option.bind_eq_some_iff.mp H
      refine wq_iastore xi_219 dX12_makes_70 gh29 ?_
      refine wp_aload_n xi_219 dX12_makes_71 rfl ?_
      obtain ⟨x30, gx30, H⟩ := Option.bind_eq_some_iff.mp H
      refine wq_getfr xi_219 dX12_makes_72 xf_12_24 gx30 ?_
      refine wp_bipush 51 xi_219 dX12_makes_75 rfl ?_
      refine wp_iload_n xi_219 dX12_makes_77 rfl ?_
      obtain ⟨h31, gh31, H⟩ := Option.bind_eq_some_iff.mp H
      refine wq_iastore xi_219 dX12_makes_78 gh31 ?_
      refine wp_aload_n xi_219 dX12_makes_79 rfl ?_
      obtain ⟨x32, gx32, H⟩ := Option.bind_eq_some_iff.mp H
      refine wq_getfr xi_219 dX12_makes_80 xf_12_24 gx32 ?_
      refine wp_bipush 52 xi_219 dX12_makes_83 rfl ?_
      refine wp_iload xi_219 dX12_makes_85 rfl ?_
      obtain ⟨h33, gh33, H⟩ := Option.bind_eq_some_iff.mp H
      refine wq_iastore xi_219 dX12_makes_87 gh33 ?_
      refine wp_aload_n xi_219 dX12_makes_88 rfl ?_
      obtain ⟨x34, gx34, H⟩ := Option.bind_eq_some_iff.mp H
      refine wq_getfr xi_219 dX12_makes_89 xf_12_24 gx34 ?_
      refine wp_bipush 53 xi_219 dX12_makes_92 rfl ?_
      refine wp_iload_n xi_219 dX12_makes_94 rfl ?_
      refine wp_iconst 1 xi_219 dX12_makes_95 rfl ?_
      obtain ⟨w38, G43, H⟩ := Option.bind_eq_some_iff.mp H
      have K39 : Wp (d + 4) 219 110 [some (.ref a), some (.int p0), some (.int x2), some (.int x6), some (.int w19)] [.int w38, .int 53, .ref x34] h33 Q := by
        obtain ⟨h42, gh42, H⟩ := Option.bind_eq_some_iff.mp H
        refine wq_iastore xi_219 dX12_makes_110 gh42 ?_
        refine wp_iconst 0 xi_219 dX12_makes_111 rfl ?_
        obtain ⟨gz, hz⟩ := pZ_ok H
        obtain ⟨rfl, rfl⟩ := Prod.mk.inj hz
        exact wp_zret xi_219 dX12_makes_112 gz hq
      clear H
      have H := G43
      clear G43
      refine wp_icmp_ne 103 xi_219 dX12_makes_96 rfl (fun c35 => ?_) (fun c35 => ?_)
      · rw [if_neg c35] at H
        refine wp_aload_n xi_219 dX12_makes_103 rfl ?_
        obtain ⟨x40, gx40, H⟩ := Option.bind_eq_some_iff.mp H
        refine wq_getfr xi_219 dX12_makes_104 xf_12_58 gx40 ?_
        refine wp_iload xi_219 dX12_makes_107 rfl ?_
        obtain ⟨x41, gx41, H⟩ := Option.bind_eq_some_iff.mp H
        refine wq_iaload xi_219 dX12_makes_109 gx41 ?_
        obtain rfl := Option.some.inj H
        exact Wp.more (by simp [xMore, Value.category]) K39
      · rw [if_pos c35] at H
        refine wp_iconst 0 xi_219 dX12_makes_99 rfl ?_
        refine wp_goto 110 xi_219 dX12_makes_100 rfl ?_
        obtain rfl := Option.some.inj H
        exact Wp.more (by simp [xMore, Value.category]) K39
    clear H
    have H := G44
    clear G44
    refine wp_icmp_ne 53 xi_219 dX12_makes_41 rfl (fun c12 => ?_) (fun c12 => ?_)
    · rw [if_neg c12] at H
      refine wp_aload_n xi_219 dX12_makes_53 rfl ?_
      refine wp_aload_n xi_219 dX12_makes_54 rfl ?_
      obtain ⟨x22, gx22, H⟩ := Option.bind_eq_some_iff.mp H
      refine wq_getfr xi_219 dX12_makes_55 xf_12_24 gx22 ?_
      obtain ⟨u23, gu23, H⟩ := Option.bind_eq_some_iff.mp H
      obtain ⟨⟨x25, h24⟩, gh24, H⟩ := Option.bind_eq_some_iff.mp H
      dsimp only at H
      refine wq_callV (a := a) (as := [.ref x22]) (r := []) (v1 := (some (.int x25))) xi_219 xi_187 dX12_makes_58 xm_12_240 rfl (Nat.le_of_ble_eq_true rfl) (pG_ok gu23) ⟨(Nat.le_of_ble_eq_true rfl), (Nat.le_of_ble_eq_true rfl)⟩ rfl nofun (e_187 (d + 2) _ gh24 ⟨rfl, rfl⟩) ?_
      change Wp _ _ _ _ [.int x25] _ _
      simp only [Option.some.injEq, Prod.mk.injEq] at H
      obtain ⟨rfl, rfl⟩ := H
      exact Wp.more (by simp [xMore, Value.category]) K21
    · rw [if_pos c12] at H
      refine wp_iload_n xi_219 dX12_makes_44 rfl ?_
      refine wp_bipush 10 xi_219 dX12_makes_45 rfl ?_
      obtain ⟨x26, gx26, H⟩ := Option.bind_eq_some_iff.mp H
      refine wq_idiv xi_219 dX12_makes_47 gx26 ?_
      refine wp_iconst 3 xi_219 dX12_makes_48 rfl ?_
      obtain ⟨x27, gx27, H⟩ := Option.bind_eq_some_iff.mp H
      refine wq_idiv xi_219 dX12_makes_49 gx27 ?_
      refine wp_goto 61 xi_219 dX12_makes_50 rfl ?_
      simp only [Option.some.injEq, Prod.mk.injEq] at H
      obtain ⟨rfl, rfl⟩ := H
      exact Wp.more (by simp [xMore, Value.category]) K21
  · rw [if_pos c11] at H
    refine wp_iconst 1 xi_219 dX12_makes_37 rfl ?_
    obtain ⟨gz, hz⟩ := pZ_ok H
    obtain ⟨rfl, rfl⟩ := Prod.mk.inj hz
    exact wp_zret xi_219 dX12_makes_38 gz hq
/- FelledHasLostModel.move(I)I -/
def f_220  (a : Nat) (p0 : Int32) (h : xH) : Option (Int32 × xH) :=
  (pP h a 12 0 (.int 0)).bind fun h1 =>
  (pFr h1 a 12 3).bind fun x2 =>
  (f_202 x2 p0 h1).bind fun (x4, h3) =>
  (if x4 = 0 then
  some ((-2), h3)
  else
  (pG (pIs h3 a 12)).bind fun _ =>
  (f_216 a h3).bind fun h7 =>
  (pG (pIs h7 a 12)).bind fun _ =>
  (f_219 a p0 h7).bind fun (x10, h9) =>
  (pG (pIs h9 a 12)).bind fun _ =>
  (f_217 a h9).bind fun h12 =>
  (f_163 x10 h12).bind fun (x14, h13) =>
  some (x14, h13))
set_option maxHeartbeats 4000000 in
theorem e_220 (d : Nat) (Q : Option Value → xH → Prop)  {h : xH} {a : Nat} {p0 : Int32} {x : Int32} {h1 : xH} (H : f_220  a p0 h = some (x, h1)) (hq : Q (some (.int x)) h1) : Wp (d + 5) 220 0 [some (.ref a), some (.int p0), none] [] h Q := by
  unfold f_220 at H
  refine wp_aload_n xi_220 dX12_move_0 rfl ?_
  refine wp_iconst 0 xi_220 dX12_move_1 rfl ?_
  obtain ⟨h1, gh1, H⟩ := Option.bind_eq_some_iff.mp H
  refine wq_putf xi_220 dX12_move_2 xf_12_3 (Or.inl rfl) gh1 ?_
  refine wp_aload_n xi_220 dX12_move_5 rfl ?_
  obtain ⟨x2, gx2, H⟩ := Option.bind_eq_some_iff.mp H
  refine wq_getfr xi_220 dX12_move_6 xf_12_24 gx2 ?_
  refine wp_iload_n xi_220 dX12_move_9 rfl ?_
  obtain ⟨⟨x4, h3⟩, gh3, H⟩ := Option.bind_eq_some_iff.mp H
  dsimp only at H
  refine wq_callS (as := [.ref x2, .int p0]) (r := []) (v1 := (some (.int x4))) xi_220 xi_202 dX12_move_10 xm_12_292 rfl (Nat.le_of_ble_eq_true rfl) ⟨(Nat.le_of_ble_eq_true rfl), (Nat.le_of_ble_eq_true rfl)⟩ rfl nofun (e_202 (d + 1) _ gh3 ⟨rfl, rfl⟩) ?_
  change Wp _ _ _ _ [.int x4] _ _
  refine wp_if_ne 19 xi_220 dX12_move_13 rfl (fun c5 => ?_) (fun c5 => ?_)
  · rw [if_neg c5] at H
    refine wp_aload_n xi_220 dX12_move_19 rfl ?_
    obtain ⟨u6, gu6, H⟩ := Option.bind_eq_some_iff.mp H
    obtain ⟨h7, gh7, H⟩ := Option.bind_eq_some_iff.mp H
    refine wq_callV (a := a) (as := []) (r := []) (v1 := none) xi_220 xi_216 dX12_move_20 xm_12_328 rfl (Nat.le_of_ble_eq_true rfl) (pG_ok gu6) ⟨(Nat.le_of_ble_eq_true rfl), (Nat.le_of_ble_eq_true rfl)⟩ rfl nofun (e_216 (d + 4) _ gh7 ⟨rfl, rfl⟩) ?_
    change Wp _ _ _ _ [] _ _
    refine wp_aload_n xi_220 dX12_move_23 rfl ?_
    refine wp_iload_n xi_220 dX12_move_24 rfl ?_
    obtain ⟨u8, gu8, H⟩ := Option.bind_eq_some_iff.mp H
    obtain ⟨⟨x10, h9⟩, gh9, H⟩ := Option.bind_eq_some_iff.mp H
    dsimp only at H
    refine wq_callV (a := a) (as := [.int p0]) (r := []) (v1 := (some (.int x10))) xi_220 xi_219 dX12_move_25 xm_12_331 rfl (Nat.le_of_ble_eq_true rfl) (pG_ok gu8) ⟨(Nat.le_of_ble_eq_true rfl), (Nat.le_of_ble_eq_true rfl)⟩ rfl nofun (e_219 d _ gh9 ⟨rfl, rfl⟩) ?_
    change Wp _ _ _ _ [.int x10] _ _
    refine wp_istore_n [some (.ref a), some (.int p0), some (.int x10)] xi_220 dX12_move_28 rfl ?_
    refine wp_aload_n xi_220 dX12_move_29 rfl ?_
    obtain ⟨u11, gu11, H⟩ := Option.bind_eq_some_iff.mp H
    obtain ⟨h12, gh12, H⟩ := Option.bind_eq_some_iff.mp H
    refine wq_callV (a := a) (as := []) (r := []) (v1 := none) xi_220 xi_217 dX12_move_30 xm_12_334 rfl (Nat.le_of_ble_eq_true rfl) (pG_ok gu11) ⟨(Nat.le_of_ble_eq_true rfl), (Nat.le_of_ble_eq_true rfl)⟩ rfl nofun (e_217 (d + 4) _ gh12 ⟨rfl, rfl⟩) ?_
    change Wp _ _ _ _ [] _ _
    refine wp_iload_n xi_220 dX12_move_33 rfl ?_
    obtain ⟨⟨x14, h13⟩, gh13, H⟩ := Option.bind_eq_some_iff.mp H
    dsimp only at H
    refine wq_callS (as := [.int x10]) (r := []) (v1 := (some (.int x14))) xi_220 xi_163 dX12_move_34 xm_12_139 rfl (Nat.le_of_ble_eq_true rfl) ⟨(Nat.le_of_ble_eq_true rfl), (Nat.le_of_ble_eq_true rfl)⟩ rfl nofun (e_163 (d + 4) _ gh13 ⟨rfl, rfl⟩) ?_
    change Wp _ _ _ _ [.int x14] _ _
    obtain ⟨rfl, rfl⟩ := oi2 H
    exact wp_iret xi_220 dX12_move_37 hq
  · rw [if_pos c5] at H
    refine wp_bipush (-2) xi_220 dX12_move_16 rfl ?_
    obtain ⟨rfl, rfl⟩ := oi2 H
    exact wp_iret xi_220 dX12_move_18 hq
/- FelledHasLostModel.readsMove()Z -/
def f_221  (a : Nat) (h : xH) : Option (Int32 × xH) :=
  (pG (pIs h a 12)).bind fun _ =>
  (f_175 a h).bind fun (x3, h2) =>
  (if x3 = 0 then
  pZ 0 h2
  else
  (pFr h2 a 12 9).bind fun x5 =>
  (pFi h2 a 12 11).bind fun x6 =>
  (pAi h2 x5 x6).bind fun x7 =>
  (pFi h2 a 12 11).bind fun x8 =>
  (pP h2 a 12 11 (.int (x8 + 1))).bind fun h9 =>
  (pG (pIs h9 a 12)).bind fun _ =>
  (f_175 a h9).bind fun (x12, h11) =>
  ((if x12 = 0 then
  some ((x7 - 48), h11)
  else
  (pFr h11 a 12 9).bind fun x22 =>
  (pFi h11 a 12 11).bind fun x23 =>
  (pAi h11 x22 x23).bind fun x24 =>
  (pFi h11 a 12 11).bind fun x25 =>
  (pP h11 a 12 11 (.int (x25 + 1))).bind fun h26 =>
  some ((((10 * (x7 - 48)) + x24) - 48), h26) : Option (Int32 × xH))).bind fun (w19, h20) =>
  (pG (pIs h20 a 12)).bind fun _ =>
  (f_176 a (xKb + 10 + 10) h20).bind fun (x29, h28) =>
  (if (0 : Int32) ≤ x29 then
  (pFi h28 a 12 11).bind fun x31 =>
  (pP h28 a 12 11 (.int (x31 + 1))).bind fun h32 =>
  (pG (pIs h32 a 12)).bind fun _ =>
  (f_174 a 62 h32).bind fun (x35, h34) =>
  (if x35 = 0 then
  pZ 0 h34
  else
  (pG (pIs h34 a 12)).bind fun _ =>
  (f_176 a (xKb + 10 + 10) h34).bind fun (x39, h38) =>
  (if (0 : Int32) ≤ x39 then
  (pFi h38 a 12 11).bind fun x41 =>
  (pP h38 a 12 11 (.int (x41 + 1))).bind fun h42 =>
  (pFr h42 a 12 30).bind fun x43 =>
  (pFi h42 a 12 31).bind fun x44 =>
  ((if w19 < 16 then
  some (((10 * ((3 * w19) + x29)) + x39))
  else
  some ((-1)) : Option (Int32))).bind fun (w46 : Int32) =>
  (pSi h42 x43 x44 w46).bind fun h48 =>
  (pFi h48 a 12 31).bind fun x49 =>
  (pP h48 a 12 31 (.int (x49 + 1))).bind fun h50 =>
  pZ 1 h50
  else
  pZ 0 h38))
  else
  pZ 0 h28))
set_option maxHeartbeats 4000000 in
theorem e_221 (d : Nat) (Q : Option Value → xH → Prop)  {h : xH} {a : Nat} {x : Int32} {h1 : xH} (H : f_221  a h = some (x, h1)) (hq : Q (some (.int x)) h1) : Wp (d + 2) 221 0 [some (.ref a), none, none, none] [] h Q := by
  unfold f_221 at H
  refine wp_aload_n xi_221 dX12_readsMove_0 rfl ?_
  obtain ⟨u1, gu1, H⟩ := Option.bind_eq_some_iff.mp H
  obtain ⟨⟨x3, h2⟩, gh2, H⟩ := Option.bind_eq_some_iff.mp H
  dsimp only at H
  refine wq_callV (a := a) (as := []) (r := []) (v1 := (some (.int x3))) xi_221 xi_175 dX12_readsMove_1 xm_12_174 rfl (Nat.le_of_ble_eq_true rfl) (pG_ok gu1) ⟨(Nat.le_of_ble_eq_true rfl), (Nat.le_of_ble_eq_true rfl)⟩ rfl nofun (e_175 d _ gh2 ⟨rfl, rfl⟩) ?_
  change Wp _ _ _ _ [.int x3] _ _
  refine wp_if_ne 9 xi_221 dX12_readsMove_4 rfl (fun c4 => ?_) (fun c4 => ?_)
  · rw [if_neg c4] at H
    refine wp_aload_n xi_221 dX12_readsMove_9 rfl ?_
    obtain ⟨x5, gx5, H⟩ := Option.bind_eq_some_iff.mp H
    refine wq_getfr xi_221 dX12_readsMove_10 xf_12_37 gx5 ?_
    refine wp_aload_n xi_221 dX12_readsMove_13 rfl ?_
    obtain ⟨x6, gx6, H⟩ := Option.bind_eq_some_iff.mp H
    refine wq_getfi xi_221 dX12_readsMove_14 xf_12_146 gx6 ?_
    obtain ⟨x7, gx7, H⟩ := Option.bind_eq_some_iff.mp H
    refine wq_iaload xi_221 dX12_readsMove_17 gx7 ?_
    refine wp_bipush 48 xi_221 dX12_readsMove_18 rfl ?_
    refine wp_isub xi_221 dX12_readsMove_20 ?_
    refine wp_istore_n [some (.ref a), some (.int (x7 - 48)), none, none] xi_221 dX12_readsMove_21 rfl ?_
    refine wp_aload_n xi_221 dX12_readsMove_22 rfl ?_
    refine wp_dup xi_221 dX12_readsMove_23 rfl ?_
    obtain ⟨x8, gx8, H⟩ := Option.bind_eq_some_iff.mp H
    refine wq_getfi xi_221 dX12_readsMove_24 xf_12_146 gx8 ?_
    refine wp_iconst 1 xi_221 dX12_readsMove_27 rfl ?_
    refine wp_iadd xi_221 dX12_readsMove_28 ?_
    obtain ⟨h9, gh9, H⟩ := Option.bind_eq_some_iff.mp H
    refine wq_putf xi_221 dX12_readsMove_29 xf_12_146 (Or.inl rfl) gh9 ?_
    refine wp_aload_n xi_221 dX12_readsMove_32 rfl ?_
    obtain ⟨u10, gu10, H⟩ := Option.bind_eq_some_iff.mp H
    obtain ⟨⟨x12, h11⟩, gh11, H⟩ := Option.bind_eq_some_iff.mp H
    dsimp only at H
    refine wq_callV (a := a) (as := []) (r := []) (v1 := (some (.int x12))) xi_221 xi_175 dX12_readsMove_33 xm_12_174 rfl (Nat.le_of_ble_eq_true rfl) (pG_ok gu10) ⟨(Nat.le_of_ble_eq_true rfl), (Nat.le_of_ble_eq_true rfl)⟩ rfl nofun (e_175 d _ gh11 ⟨rfl, rfl⟩) ?_
    change Wp _ _ _ _ [.int x12] _ _
    obtain ⟨⟨w19, h20⟩, G52, H⟩ := Option.bind_eq_some_iff.mp H
    dsimp only at H
    have K21 : Wp (d + 2) 221 67 [some (.ref a), some (.int w19), none, none] [] h20 Q := by
      refine wp_aload_n xi_221 dX12_readsMove_67 rfl ?_
      refine wp_ldcWS xi_221 dX12_readsMove_68 xs0_12_337 xs_12_337 ?_
      obtain ⟨u27, gu27, H⟩ := Option.bind_eq_some_iff.mp H
      obtain ⟨⟨x29, h28⟩, gh28, H⟩ := Option.bind_eq_some_iff.mp H
      dsimp only at H
      refine wq_callV (a := a) (as := [.ref (xKb + 10 + 10)]) (r := []) (v1 := (some (.int x29))) xi_221 xi_176 dX12_readsMove_71 xm_12_208 rfl (Nat.le_of_ble_eq_true rfl) (pG_ok gu27) ⟨(Nat.le_of_ble_eq_true rfl), (Nat.le_of_ble_eq_true rfl)⟩ rfl nofun (e_176 (d + 1) _ gh28 ⟨rfl, rfl⟩) ?_
      change Wp _ _ _ _ [.int x29] _ _
      refine wp_istore_n [some (.ref a), some (.int w19), some (.int x29), none] xi_221 dX12_readsMove_74 rfl ?_
      refine wp_iload_n xi_221 dX12_readsMove_75 rfl ?_
      refine wp_if_ge 81 xi_221 dX12_readsMove_76 rfl (fun c30 => ?_) (fun c30 => ?_)
      · rw [if_pos c30] at H
        refine wp_aload_n xi_221 dX12_readsMove_81 rfl ?_
        refine wp_dup xi_221 dX12_readsMove_82 rfl ?_
        obtain ⟨x31, gx31, H⟩ := Option.bind_eq_some_iff.mp H
        refine wq_getfi xi_221 dX12_readsMove_83 xf_12_146 gx31 ?_
        refine wp_iconst 1 xi_221 dX12_readsMove_86 rfl ?_
        refine wp_iadd xi_221 dX12_readsMove_87 ?_
        obtain ⟨h32, gh32, H⟩ := Option.bind_eq_some_iff.mp H
        refine wq_putf xi_221 dX12_readsMove_88 xf_12_146 (Or.inl rfl) gh32 ?_
        refine wp_aload_n xi_221 dX12_readsMove_91 rfl ?_
        refine wp_bipush 62 xi_221 dX12_readsMove_92 rfl ?_
        obtain ⟨u33, gu33, H⟩ := Option.bind_eq_some_iff.mp H
        obtain ⟨⟨x35, h34⟩, gh34, H⟩ := Option.bind_eq_some_iff.mp H
        dsimp only at H
        refine wq_callV (a := a) (as := [.int 62]) (r := []) (v1 := (some (.int x35))) xi_221 xi_174 dX12_readsMove_94 xm_12_186 rfl (Nat.le_of_ble_eq_true rfl) (pG_ok gu33) ⟨(Nat.le_of_ble_eq_true rfl), (Nat.le_of_ble_eq_true rfl)⟩ rfl nofun (e_174 d _ gh34 ⟨rfl, rfl⟩) ?_
        change Wp _ _ _ _ [.int x35] _ _
        refine wp_if_ne 102 xi_221 dX12_readsMove_97 rfl (fun c36 => ?_) (fun c36 => ?_)
        · rw [if_neg c36] at H
          refine wp_aload_n xi_221 dX12_readsMove_102 rfl ?_
          refine wp_ldcWS xi_221 dX12_readsMove_103 xs0_12_337 xs_12_337 ?_
          obtain ⟨u37, gu37, H⟩ := Option.bind_eq_some_iff.mp H
          obtain ⟨⟨x39, h38⟩, gh38, H⟩ := Option.bind_eq_some_iff.mp H
          dsimp only at H
          refine wq_callV (a := a) (as := [.ref (xKb + 10 + 10)]) (r := []) (v1 := (some (.int x39))) xi_221 xi_176 dX12_readsMove_106 xm_12_208 rfl (Nat.le_of_ble_eq_true rfl) (pG_ok gu37) ⟨(Nat.le_of_ble_eq_true rfl), (Nat.le_of_ble_eq_true rfl)⟩ rfl nofun (e_176 (d + 1) _ gh38 ⟨rfl, rfl⟩) ?_
          change Wp _ _ _ _ [.int x39] _ _
          refine wp_istore_n [some (.ref a), some (.int w19), some (.int x29), some (.int x39)] xi_221 dX12_readsMove_109 rfl ?_
          refine wp_iload_n xi_221 dX12_readsMove_110 rfl ?_
          refine wp_if_ge 116 xi_221 dX12_readsMove_111 rfl (fun c40 => ?_) (fun c40 => ?_)
          · rw [if_pos c40] at H
            refine wp_aload_n xi_221 dX12_readsMove_116 rfl ?_
            refine wp_dup xi_221 dX12_readsMove_117 rfl ?_
            obtain ⟨x41, gx41, H⟩ := Option.bind_eq_some_iff.mp H
            refine wq_getfi xi_221 dX12_readsMove_118 xf_12_146 gx41 ?_
            refine wp_iconst 1 xi_221 dX12_readsMove_121 rfl ?_
            refine wp_iadd xi_221 dX12_readsMove_122 ?_
            obtain ⟨h42, gh42, H⟩ := Option.bind_eq_some_iff.mp H
            refine wq_putf xi_221 dX12_readsMove_123 xf_12_146 (Or.inl rfl) gh42 ?_
            refine wp_aload_n xi_221 dX12_readsMove_126 rfl ?_
            obtain ⟨x43, gx43, H⟩ := Option.bind_eq_some_iff.mp H
            refine wq_getfr xi_221 dX12_readsMove_127 xf_12_70 gx43 ?_
            refine wp_aload_n xi_221 dX12_readsMove_130 rfl ?_
            obtain ⟨x44, gx44, H⟩ := Option.bind_eq_some_iff.mp H
            refine wq_getfi xi_221 dX12_readsMove_131 xf_12_339 gx44 ?_
            refine wp_iload_n xi_221 dX12_readsMove_134 rfl ?_
            refine wp_bipush 16 xi_221 dX12_readsMove_135 rfl ?_
            obtain ⟨w46, G51, H⟩ := Option.bind_eq_some_iff.mp H
            have K47 : Wp (d + 2) 221 154 [some (.ref a), some (.int w19), some (.int x29), some (.int x39)] [.int w46, .int x44, .ref x43] h42 Q := by
              obtain ⟨h48, gh48, H⟩ := Option.bind_eq_some_iff.mp H
              refine wq_iastore xi_221 dX12_readsMove_154 gh48 ?_
              refine wp_aload_n xi_221 dX12_readsMove_155 rfl ?_
              refine wp_dup xi_221 dX12_readsMove_156 rfl ?_
              obtain ⟨x49, gx49, H⟩ := Option.bind_eq_some_iff.mp H
              refine wq_getfi xi_221 dX12_readsMove_157 xf_12_339 gx49 ?_
              refine wp_iconst 1 xi_221 dX12_readsMove_160 rfl ?_
              refine wp_iadd xi_221 dX12_readsMove_161 ?_
              obtain ⟨h50, gh50, H⟩ := Option.bind_eq_some_iff.mp H
              refine wq_putf xi_221 dX12_readsMove_162 xf_12_339 (Or.inl rfl) gh50 ?_
              refine wp_iconst 1 xi_221 dX12_readsMove_165 rfl ?_
              obtain ⟨gz, hz⟩ := pZ_ok H
              obtain ⟨rfl, rfl⟩ := Prod.mk.inj hz
              exact wp_zret xi_221 dX12_readsMove_166 gz hq
            clear H
            have H := G51
            clear G51
            refine wp_icmp_lt 144 xi_221 dX12_readsMove_137 rfl (fun c45 => ?_) (fun c45 => ?_)
            · rw [if_pos c45] at H
              refine wp_bipush 10 xi_221 dX12_readsMove_144 rfl ?_
              refine wp_iconst 3 xi_221 dX12_readsMove_146 rfl ?_
              refine wp_iload_n xi_221 dX12_readsMove_147 rfl ?_
              refine wp_imul xi_221 dX12_readsMove_148 ?_
              refine wp_iload_n xi_221 dX12_readsMove_149 rfl ?_
              refine wp_iadd xi_221 dX12_readsMove_150 ?_
              refine wp_imul xi_221 dX12_readsMove_151 ?_
              refine wp_iload_n xi_221 dX12_readsMove_152 rfl ?_
              refine wp_iadd xi_221 dX12_readsMove_153 ?_
              obtain rfl := Option.some.inj H
              exact Wp.more (by simp [xMore, Value.category]) K47
            · rw [if_neg c45] at H
              refine wp_iconst (-1) xi_221 dX12_readsMove_140 rfl ?_
              refine wp_goto 154 xi_221 dX12_readsMove_141 rfl ?_
              obtain rfl := Option.some.inj H
              exact Wp.more (by simp [xMore, Value.category]) K47
          · rw [if_neg c40] at H
            refine wp_iconst 0 xi_221 dX12_readsMove_114 rfl ?_
            obtain ⟨gz, hz⟩ := pZ_ok H
            obtain ⟨rfl, rfl⟩ := Prod.mk.inj hz
            exact wp_zret xi_221 dX12_readsMove_115 gz hq
        · rw [if_pos c36] at H
          refine wp_iconst 0 xi_221 dX12_readsMove_100 rfl ?_
          obtain ⟨gz, hz⟩ := pZ_ok H
          obtain ⟨rfl, rfl⟩ := Prod.mk.inj hz
          exact wp_zret xi_221 dX12_readsMove_101 gz hq
      · rw [if_neg c30] at H
        refine wp_iconst 0 xi_221 dX12_readsMove_79 rfl ?_
        obtain ⟨gz, hz⟩ := pZ_ok H
        obtain ⟨rfl, rfl⟩ := Prod.mk.inj hz
        exact wp_zret xi_221 dX12_readsMove_80 gz hq
    clear H
    have H := G52
    clear G52
    refine wp_if_eq 67 xi_221 dX12_readsMove_36 rfl (fun c13 => ?_) (fun c13 => ?_)
    · rw [if_pos c13] at H
      simp only [Option.some.injEq, Prod.mk.injEq] at H
      obtain ⟨rfl, rfl⟩ := H
      exact Wp.more (by simp [xMore, Value.category]) K21
    · rw [if_neg c13] at H
      refine wp_bipush 10 xi_221 dX12_readsMove_39 rfl ?_
      refine wp_iload_n xi_221 dX12_readsMove_41 rfl ?_
      refine wp_imul xi_221 dX12_readsMove_42 ?_
      refine wp_aload_n xi_221 dX12_readsMove_43 rfl ?_
      obtain ⟨x22, gx22, H⟩ := Option.bind_eq_some_iff.mp H
      refine wq_getfr xi_221 dX12_readsMove_44 xf_12_37 gx22 ?_
      refine wp_aload_n xi_221 dX12_readsMove_47 rfl ?_
      obtain ⟨x23, gx23, H⟩ := Option.bind_eq_some_iff.mp H
      refine wq_getfi xi_221 dX12_readsMove_48 xf_12_146 gx23 ?_
      obtain ⟨x24, gx24, H⟩ := Option.bind_eq_some_iff.mp H
      refine wq_iaload xi_221 dX12_readsMove_51 gx24 ?_
      refine wp_iadd xi_221 dX12_readsMove_52 ?_
      refine wp_bipush 48 xi_221 dX12_readsMove_53 rfl ?_
      refine wp_isub xi_221 dX12_readsMove_55 ?_
      refine wp_istore_n [some (.ref a), some (.int (((10 * (x7 - 48)) + x24) - 48)), none, none] xi_221 dX12_readsMove_56 rfl ?_
      refine wp_aload_n xi_221 dX12_readsMove_57 rfl ?_
      refine wp_dup xi_221 dX12_readsMove_58 rfl ?_
      obtain ⟨x25, gx25, H⟩ := Option.bind_eq_some_iff.mp H
      refine wq_getfi xi_221 dX12_readsMove_59 xf_12_146 gx25 ?_
      refine wp_iconst 1 xi_221 dX12_readsMove_62 rfl ?_
      refine wp_iadd xi_221 dX12_readsMove_63 ?_
      obtain ⟨h26, gh26, H⟩ := Option.bind_eq_some_iff.mp H
      refine wq_putf xi_221 dX12_readsMove_64 xf_12_146 (Or.inl rfl) gh26 ?_
      simp only [Option.some.injEq, Prod.mk.injEq] at H
      obtain ⟨rfl, rfl⟩ := H
      exact Wp.more (by simp [xMore, Value.category]) K21
  · rw [if_pos c4] at H
    refine wp_iconst 0 xi_221 dX12_readsMove_7 rfl ?_
    obtain ⟨gz, hz⟩ := pZ_ok H
    obtain ⟨rfl, rfl⟩ := Prod.mk.inj hz
    exact wp_zret xi_221 dX12_readsMove_8 gz hq
/- FelledHasLostModel.play()I -/
def f_222_29  : Nat → Nat → Int32 → Int32 → Int32 → xH → Option (Int32 × xH)
  | 0, _, _, _, _, _ => none
  | n + 1, a0, a1, a2, a3, h =>
  (if a3 = 0 then
  some (a2, h)
  else
  (pG (pIs h a0 12)).bind fun _ =>
  (f_221 a0 h).bind fun (x4, h3) =>
  ((if x4 = 0 then
  some (0, h3)
  else
  (pG (pIs h3 a0 12)).bind fun _ =>
  (f_174 a0 59 h3).bind fun (x15, h14) =>
  (if x15 = 0 then
  some (0, h14)
  else
  some (1, h14)) : Option (Int32 × xH))).bind fun (w10, h11) =>
  f_222_29 n a0 a1 x4 w10 h11)
theorem ef_222_29 (d : Nat) (Q : Option Value → xH → Prop)  : ∀ (n : Nat) (a0 : Nat) (a1 : Int32) (a2 : Int32) (a3 : Int32) (h : xH) (r : Int32 × xH), f_222_29 n a0 a1 a2 a3 h = some r → (∀ (w2 : Int32) (h1 : xH), r = (w2, h1) → Wp (d + 5) 222 60 [some (.ref a0), some (.int a1), some (.int w2), none, none, none, none, none] [] h1 Q) → Wp (d + 5) 222 29 [some (.ref a0), some (.int a1), some (.int a2), some (.int a3), none, none, none, none] [] h Q := by
  intro n
  induction n with
  | zero =>
    intro a0 a1 a2 a3 h r H
    cases H
  | succ n ih =>
    intro a0 a1 a2 a3 h r H KE
    unfold f_222_29 at H
    refine wp_iload_n xi_222 dX12_play_29 rfl ?_
    refine wp_if_eq 60 xi_222 dX12_play_30 rfl (fun c1 => ?_) (fun c1 => ?_)
    · rw [if_pos c1] at H
      obtain rfl := Option.some.inj H
      exact Wp.more (by simp [xMore, Value.category]) (KE a2 h rfl)
    · rw [if_neg c1] at H
      refine wp_aload_n xi_222 dX12_play_33 rfl ?_
      obtain ⟨u2, gu2, H⟩ := Option.bind_eq_some_iff.mp H
      obtain ⟨⟨x4, h3⟩, gh3, H⟩ := Option.bind_eq_some_iff.mp H
      dsimp only at H
      refine wq_callV (a := a0) (as := []) (r := []) (v1 := (some (.int x4))) xi_222 xi_221 dX12_play_34 xm_12_342 rfl (Nat.le_of_ble_eq_true rfl) (pG_ok gu2) ⟨(Nat.le_of_ble_eq_true rfl), (Nat.le_of_ble_eq_true rfl)⟩ rfl nofun (e_221 (d + 2) _ gh3 ⟨rfl, rfl⟩) ?_
      change Wp _ _ _ _ [.int x4] _ _
      refine wp_istore_n [some (.ref a0), some (.int a1), some (.int x4), some (.int a3), none, none, none, none] xi_222 dX12_play_37 rfl ?_
      refine wp_iload_n xi_222 dX12_play_38 rfl ?_
      obtain ⟨⟨w10, h11⟩, G17, H⟩ := Option.bind_eq_some_iff.mp H
      dsimp only at H
      have K12 : Wp (d + 5) 222 56 [some (.ref a0), some (.int a1), some (.int x4), some (.int a3), none, none, none, none] [.int w10] h11 Q := by
        refine wp_istore_n [some (.ref a0), some (.int a1), some (.int x4), some (.int w10), none, none, none, none] xi_222 dX12_play_56 rfl ?_
        refine wp_goto 29 xi_222 dX12_play_57 rfl ?_
        exact Wp.more (by simp [xMore, Value.category]) (ih a0 a1 x4 w10 h11 _ H KE)
      clear H
      have H := G17
      clear G17
      refine wp_if_eq 55 xi_222 dX12_play_39 rfl (fun c5 => ?_) (fun c5 => ?_)
      · rw [if_pos c5] at H
        refine wp_iconst 0 xi_222 dX12_play_55 rfl ?_
        simp only [Option.some.injEq, Prod.mk.injEq] at H
        obtain ⟨rfl, rfl⟩ := H
        exact Wp.more (by simp [xMore, Value.category]) K12
      · rw [if_neg c5] at H
        refine wp_aload_n xi_222 dX12_play_42 rfl ?_
        refine wp_bipush 59 xi_222 dX12_play_43 rfl ?_
        obtain ⟨u13, gu13, H⟩ := Option.bind_eq_some_iff.mp H
        obtain ⟨⟨x15, h14⟩, gh14, H⟩ := Option.bind_eq_some_iff.mp H
        dsimp only at H
        refine wq_callV (a := a0) (as := [.int 59]) (r := []) (v1 := (some (.int x15))) xi_222 xi_174 dX12_play_45 xm_12_186 rfl (Nat.le_of_ble_eq_true rfl) (pG_ok gu13) ⟨(Nat.le_of_ble_eq_true rfl), (Nat.le_of_ble_eq_true rfl)⟩ rfl nofun (e_174 (d + 3) _ gh14 ⟨rfl, rfl⟩) ?_
        change Wp _ _ _ _ [.int x15] _ _
        refine wp_if_eq 55 xi_222 dX12_play_48 rfl (fun c16 => ?_) (fun c16 => ?_)
        · rw [if_pos c16] at H
          refine wp_iconst 0 xi_222 dX12_play_55 rfl ?_
          simp only [Option.some.injEq, Prod.mk.injEq] at H
          obtain ⟨rfl, rfl⟩ := H
          exact Wp.more (by simp [xMore, Value.category]) K12
        · rw [if_neg c16] at H
          refine wp_iconst 1 xi_222 dX12_play_51 rfl ?_
          refine wp_goto 56 xi_222 dX12_play_52 rfl ?_
          simp only [Option.some.injEq, Prod.mk.injEq] at H
          obtain ⟨rfl, rfl⟩ := H
          exact Wp.more (by simp [xMore, Value.category]) K12
def f_222_91  : Nat → Nat → Int32 → Int32 → Int32 → xH → Option (Int32 × Int32 × xH)
  | 0, _, _, _, _, _ => none
  | n + 1, a0, a5, a6, a7, h =>
  (pFi h a0 12 31).bind fun x1 =>
  (if x1 ≤ a5 then
  some (a5, a6, h)
  else
  (if a6 = 0 then
  some (a5, a6, h)
  else
  (if a7 = 0 then
  some (a5, a6, h)
  else
  (pFr h a0 12 3).bind fun x5 =>
  (pFr h a0 12 30).bind fun x6 =>
  (pAi h x6 a5).bind fun x7 =>
  (f_202 x5 x7 h).bind fun (x9, h8) =>
  (if x9 = 0 then
  f_222_91 n a0 a5 x9 a7 h8
  else
  (pFr h8 a0 12 30).bind fun x11 =>
  (pAi h8 x11 a5).bind fun x12 =>
  (pG (pIs h8 a0 12)).bind fun _ =>
  (f_219 a0 x12 h8).bind fun (x15, h14) =>
  f_222_91 n a0 (a5 + 1) x9 x15 h14))))
theorem ef_222_91 (d : Nat) (Q : Option Value → xH → Prop)  : ∀ (n : Nat) (a0 : Nat) (a5 : Int32) (a6 : Int32) (a7 : Int32) (h : xH) (r : Int32 × Int32 × xH), f_222_91 n a0 a5 a6 a7 h = some r → (∀ (w5 : Int32) (w6 : Int32) (h1 : xH), r = (w5, w6, h1) → Wp (d + 5) 222 150 [some (.ref a0), none, none, none, none, some (.int w5), some (.int w6), none] [] h1 Q) → Wp (d + 5) 222 91 [some (.ref a0), none, none, none, none, some (.int a5), some (.int a6), some (.int a7)] [] h Q := by
  intro n
  induction n with
  | zero =>
    intro a0 a5 a6 a7 h r H
    cases H
  | succ n ih =>
    intro a0 a5 a6 a7 h r H KE
    unfold f_222_91 at H
    refine wp_iload xi_222 dX12_play_91 rfl ?_
    refine wp_aload_n xi_222 dX12_play_93 rfl ?_
    obtain ⟨x1, gx1, H⟩ := Option.bind_eq_some_iff.mp H
    refine wq_getfi xi_222 dX12_play_94 xf_12_339 gx1 ?_
    refine wp_icmp_ge 150 xi_222 dX12_play_97 rfl (fun c2 => ?_) (fun c2 => ?_)
    · rw [if_pos c2] at H
      obtain rfl := Option.some.inj H
      exact Wp.more (by simp [xMore, Value.category]) (KE a5 a6 h rfl)
    · rw [if_neg c2] at H
      refine wp_iload xi_222 dX12_play_100 rfl ?_
      refine wp_if_eq 150 xi_222 dX12_play_102 rfl (fun c3 => ?_) (fun c3 => ?_)
      · rw [if_pos c3] at H
        obtain rfl := Option.some.inj H
        exact Wp.more (by simp [xMore, Value.category]) (KE a5 a6 h rfl)
      · rw [if_neg c3] at H
        refine wp_iload xi_222 dX12_play_105 rfl ?_
        refine wp_if_eq 150 xi_222 dX12_play_107 rfl (fun c4 => ?_) (fun c4 => ?_)
        · rw [if_pos c4] at H
          obtain rfl := Option.some.inj H
          exact Wp.more (by simp [xMore, Value.category]) (KE a5 a6 h rfl)
        · rw [if_neg c4] at H
          refine wp_aload_n xi_222 dX12_play_110 rfl ?_
          obtain ⟨x5, gx5, H⟩ := Option.bind_eq_some_iff.mp H
          refine wq_getfr xi_222 dX12_play_111 xf_12_24 gx5 ?_
          refine wp_aload_n xi_222 dX12_play_114 rfl ?_
          obtain ⟨x6, gx6, H⟩ := Option.bind_eq_some_iff.mp H
          refine wq_getfr xi_222 dX12_play_115 xf_12_70 gx6 ?_
          refine wp_iload xi_222 dX12_play_118 rfl ?_
          obtain ⟨x7, gx7, H⟩ := Option.bind_eq_some_iff.mp H
          refine wq_iaload xi_222 dX12_play_120 gx7 ?_
          obtain ⟨⟨x9, h8⟩, gh8, H⟩ := Option.bind_eq_some_iff.mp H
          dsimp only at H
          refine wq_callS (as := [.ref x5, .int x7]) (r := []) (v1 := (some (.int x9))) xi_222 xi_202 dX12_play_121 xm_12_292 rfl (Nat.le_of_ble_eq_true rfl) ⟨(Nat.le_of_ble_eq_true rfl), (Nat.le_of_ble_eq_true rfl)⟩ rfl nofun (e_202 (d + 1) _ gh8 ⟨rfl, rfl⟩) ?_
          change Wp _ _ _ _ [.int x9] _ _
          refine wp_istore [some (.ref a0), none, none, none, none, some (.int a5), some (.int x9), some (.int a7)] xi_222 dX12_play_124 rfl ?_
          refine wp_iload xi_222 dX12_play_126 rfl ?_
          refine wp_if_eq 91 xi_222 dX12_play_128 rfl (fun c10 => ?_) (fun c10 => ?_)
          · rw [if_pos c10] at H
            exact Wp.more (by simp [xMore, Value.category]) (ih a0 a5 x9 a7 h8 _ H KE)
          · rw [if_neg c10] at H
            refine wp_aload_n xi_222 dX12_play_131 rfl ?_
            refine wp_aload_n xi_222 dX12_play_132 rfl ?_
            obtain ⟨x11, gx11, H⟩ := Option.bind_eq_some_iff.mp H
            refine wq_getfr xi_222 dX12_play_133 xf_12_70 gx11 ?_
            refine wp_iload xi_222 dX12_play_136 rfl ?_
            obtain ⟨x12, gx12, H⟩ := Option.bind_eq_some_iff.mp H
            refine wq_iaload xi_222 dX12_play_138 gx12 ?_
            obtain ⟨u13, gu13, H⟩ := Option.bind_eq_some_iff.mp H
            obtain ⟨⟨x15, h14⟩, gh14, H⟩ := Option.bind_eq_some_iff.mp H
            dsimp only at H
            refine wq_callV (a := a0) (as := [.int x12]) (r := []) (v1 := (some (.int x15))) xi_222 xi_219 dX12_play_139 xm_12_331 rfl (Nat.le_of_ble_eq_true rfl) (pG_ok gu13) ⟨(Nat.le_of_ble_eq_true rfl), (Nat.le_of_ble_eq_true rfl)⟩ rfl nofun (e_219 d _ gh14 ⟨rfl, rfl⟩) ?_
            change Wp _ _ _ _ [.int x15] _ _
            refine wp_istore [some (.ref a0), none, none, none, none, some (.int a5), some (.int x9), some (.int x15)] xi_222 dX12_play_142 rfl ?_
            refine wp_iinc (a5 + 1) [some (.ref a0), none, none, none, none, some (.int (a5 + 1)), some (.int x9), some (.int x15)] xi_222 dX12_play_144 rfl rfl rfl ?_
            refine wp_goto 91 xi_222 dX12_play_147 rfl ?_
            exact Wp.more (by simp [xMore, Value.category]) (ih a0 (a5 + 1) x9 x15 h14 _ H KE)
def f_222  (a : Nat) (h : xH) : Option (Int32 × xH) :=
  (pP h a 12 0 (.int 0)).bind fun h1 =>
  (pG (pIs h1 a 12)).bind fun _ =>
  (f_173 a 70 h1).bind fun (x4, h3) =>
  (pP h3 a 12 31 (.int 0)).bind fun h5 =>
  ((if x4 ≤ 0 then
  some (0)
  else
  some (1) : Option (Int32))).bind fun (w7 : Int32) =>
  (f_222_29 100000 a x4 1 w7 h5).bind fun (w10, h9) =>
  (pG (pIs h9 a 12)).bind fun _ =>
  (f_177 a x4 70 w10 h9).bind fun (x15, h14) =>
  (if (0 : Int32) ≤ x15 then
  (pG (pIs h14 a 12)).bind fun _ =>
  (f_216 a h14).bind fun h18 =>
  (f_222_91 100000 a 0 1 1 h18).bind fun (w20, w21, h19) =>
  ((if w20 ≤ 0 then
  some (h19)
  else
  (pG (pIs h19 a 12)).bind fun _ =>
  (f_217 a h19).bind fun h30 =>
  some (h30) : Option (xH))).bind fun (h27 : xH) =>
  (pP h27 a 12 1 (.int 0)).bind fun h31 =>
  ((if w21 = 0 then
  some (1)
  else
  some (0) : Option (Int32))).bind fun (w33 : Int32) =>
  (f_163 w33 h31).bind fun (x36, h35) =>
  (pG (pIs h35 a 12)).bind fun _ =>
  (f_165 a ((x36 : Int32).toInt64) h35).bind fun h38 =>
  (pFr h38 a 12 3).bind fun x39 =>
  (pAi h38 x39 50).bind fun x40 =>
  ((if x40 ≤ 0 then
  some (0)
  else
  some (1) : Option (Int32))).bind fun (w42 : Int32) =>
  (f_163 w42 h38).bind fun (x45, h44) =>
  (pG (pIs h44 a 12)).bind fun _ =>
  (f_165 a ((x45 : Int32).toInt64) h44).bind fun h47 =>
  some (w20, h47)
  else
  some (x15, h14))
set_option maxHeartbeats 4000000 in
theorem e_222 (d : Nat) (Q : Option Value → xH → Prop)  {h : xH} {a : Nat} {x : Int32} {h1 : xH} (H : f_222  a h = some (x, h1)) (hq : Q (some (.int x)) h1) : Wp (d + 5) 222 0 [some (.ref a), none, none, none, none, none, none, none] [] h Q := by
  unfold f_222 at H
  refine wp_aload_n xi_222 dX12_play_0 rfl ?_
  refine wp_iconst 0 xi_222 dX12_play_1 rfl ?_
  obtain ⟨h1, gh1, H⟩ := Option.bind_eq_some_iff.mp H
  refine wq_putf xi_222 dX12_play_2 xf_12_3 (Or.inl rfl) gh1 ?_
  refine wp_aload_n xi_222 dX12_play_5 rfl ?_
  refine wp_bipush 70 xi_222 dX12_play_6 rfl ?_
  obtain ⟨u2, gu2, H⟩ := Option.bind_eq_some_iff.mp H
  obtain ⟨⟨x4, h3⟩, gh3, H⟩ := Option.bind_eq_some_iff.mp H
  dsimp only at H
  refine wq_callV (a := a) (as := [.int 70]) (r := []) (v1 := (some (.int x4))) xi_222 xi_173 dX12_play_8 xm_12_178 rfl (Nat.le_of_ble_eq_true rfl) (pG_ok gu2) ⟨(Nat.le_of_ble_eq_true rfl), (Nat.le_of_ble_eq_true rfl)⟩ rfl nofun (e_173 (d + 4) _ gh3 ⟨rfl, rfl⟩) ?_
  change Wp _ _ _ _ [.int x4] _ _
  refine wp_istore_n [some (.ref a), some (.int x4), none, none, none, none, none, none] xi_222 dX12_play_11 rfl ?_
  refine wp_aload_n xi_222 dX12_play_12 rfl ?_
  refine wp_iconst 0 xi_222 dX12_play_13 rfl ?_
  obtain ⟨h5, gh5, H⟩ := Option.bind_eq_some_iff.mp H
  refine wq_putf xi_222 dX12_play_14 xf_12_339 (Or.inl rfl) gh5 ?_
  refine wp_iconst 1 xi_222 dX12_play_17 rfl ?_
  refine wp_istore_n [some (.ref a), some (.int x4), some (.int 1), none, none, none, none, none] xi_222 dX12_play_18 rfl ?_
  refine wp_iload_n xi_222 dX12_play_19 rfl ?_
  obtain ⟨w7, G51, H⟩ := Option.bind_eq_some_iff.mp H
  have K8 : Wp (d + 5) 222 28 [some (.ref a), some (.int x4), some (.int 1), none, none, none, none, none] [.int w7] h5 Q := by
    refine wp_istore_n [some (.ref a), some (.int x4), some (.int 1), some (.int w7), none, none, none, none] xi_222 dX12_play_28 rfl ?_
    obtain ⟨⟨w10, h9⟩, G11, H⟩ := Option.bind_eq_some_iff.mp H
    dsimp only at H
    refine Wp.more (by simp [xMore, Value.category]) (ef_222_29 d Q  100000 a x4 1 w7 h5 _ G11 (fun z0 z1 e9 => ?_))
    cases e9
    refine wp_aload_n xi_222 dX12_play_60 rfl ?_
    refine wp_iload_n xi_222 dX12_play_61 rfl ?_
    refine wp_bipush 70 xi_222 dX12_play_62 rfl ?_
    refine wp_iload_n xi_222 dX12_play_64 rfl ?_
    obtain ⟨u13, gu13, H⟩ := Option.bind_eq_some_iff.mp H
    obtain ⟨⟨x15, h14⟩, gh14, H⟩ := Option.bind_eq_some_iff.mp H
    dsimp only at H
    refine wq_callV (a := a) (as := [.int x4, .int 70, .int w10]) (r := []) (v1 := (some (.int x15))) xi_222 xi_177 dX12_play_65 xm_12_192 rfl (Nat.le_of_ble_eq_true rfl) (pG_ok gu13) ⟨(Nat.le_of_ble_eq_true rfl), (Nat.le_of_ble_eq_true rfl)⟩ rfl nofun (e_177 (d + 4) _ gh14 ⟨rfl, rfl⟩) ?_
    change Wp _ _ _ _ [.int x15] _ _
    refine wp_istore [some (.ref a), some (.int x4), some (.int w10), none, some (.int x15), none, none, none] xi_222 dX12_play_68 rfl ?_
    refine wp_iload xi_222 dX12_play_70 rfl ?_
    refine wp_if_ge 78 xi_222 dX12_play_72 rfl (fun c16 => ?_) (fun c16 => ?_)
    · rw [if_pos c16] at H
      refine wp_aload_n xi_222 dX12_play_78 rfl ?_
      obtain ⟨u17, gu17, H⟩ := Option.bind_eq_some_iff.mp H
      obtain ⟨h18, gh18, H⟩ := Option.bind_eq_some_iff.mp H
      refine wq_callV (a := a) (as := []) (r := []) (v1 := none) xi_222 xi_216 dX12_play_79 xm_12_328 rfl (Nat.le_of_ble_eq_true rfl) (pG_ok gu17) ⟨(Nat.le_of_ble_eq_true rfl), (Nat.le_of_ble_eq_true rfl)⟩ rfl nofun (e_216 (d + 4) _ gh18 ⟨rfl, rfl⟩) ?_
      change Wp _ _ _ _ [] _ _
      refine wp_iconst 0 xi_222 dX12_play_82 rfl ?_
      refine wp_istore [some (.ref a), some (.int x4), some (.int w10), none, some (.int x15), some (.int 0), none, none] xi_222 dX12_play_83 rfl ?_
      refine wp_iconst 1 xi_222 dX12_play_85 rfl ?_
      refine wp_istore [some (.ref a), some (.int x4), some (.int w10), none, some (.int x15), some (.int 0), some (.int 1), none] xi_222 dX12_play_86 rfl ?_
      refine wp_iconst 1 xi_222 dX12_play_88 rfl ?_
      refine wp_istore [some (.ref a), some (.int x4), some (.int w10), none, some (.int x15), some (.int 0), some (.int 1), some (.int 1)] xi_222 dX12_play_89 rfl ?_
      obtain ⟨⟨w20, w21, h19⟩, G22, H⟩ := Option.bind_eq_some_iff.mp H
      dsimp only at H
      refine Wp.more (by simp [xMore, Value.category]) (ef_222_91 d Q  100000 a 0 1 1 h18 _ G22 (fun z0 z1 z2 e9 => ?_))
      cases e9
      refine wp_iload xi_222 dX12_play_150 rfl ?_
      obtain ⟨h27, G50, H⟩ := Option.bind_eq_some_iff.mp H
      have K28 : Wp (d + 5) 222 159 [some (.ref a), none, none, none, none, some (.int w20), some (.int w21), none] [] h27 Q := by
        refine wp_aload_n xi_222 dX12_play_159 rfl ?_
        refine wp_iconst 0 xi_222 dX12_play_160 rfl ?_
        obtain ⟨h31, gh31, H⟩ := Option.bind_eq_some_iff.mp H
        refine wq_putf xi_222 dX12_play_161 xf_12_15 (Or.inl rfl) gh31 ?_
        refine wp_aload_n xi_222 dX12_play_164 rfl ?_
        refine wp_iload xi_222 dX12_play_165 rfl ?_
        obtain ⟨w33, G49, H⟩ := Option.bind_eq_some_iff.mp H
        have K34 : Wp (d + 5) 222 175 [some (.ref a), none, none, none, none, some (.int w20), some (.int w21), none] [.int w33, .ref a] h31 Q := by
          obtain ⟨⟨x36, h35⟩, gh35, H⟩ := Option.bind_eq_some_iff.mp H
          dsimp only at H
          refine wq_callS (as := [.int w33]) (r := [.ref a]) (v1 := (some (.int x36))) xi_222 xi_163 dX12_play_175 xm_12_139 rfl (Nat.le_of_ble_eq_true rfl) ⟨(Nat.le_of_ble_eq_true rfl), (Nat.le_of_ble_eq_true rfl)⟩ rfl nofun (e_163 (d + 4) _ gh35 ⟨rfl, rfl⟩) ?_
          change Wp _ _ _ _ [.int x36, .ref a] _ _
          refine wp_i2l xi_222 dX12_play_178 ?_
          obtain ⟨u37, gu37, H⟩ := Option.bind_eq_some_iff.mp H
          obtain ⟨h38, gh38, H⟩ := Option.bind_eq_some_iff.mp H
          refine wq_callV (a := a) (as := [.long ((x36 : Int32).toInt64)]) (r := []) (v1 := none) xi_222 xi_165 dX12_play_179 xm_12_279 rfl (Nat.le_of_ble_eq_true rfl) (pG_ok gu37) ⟨(Nat.le_of_ble_eq_true rfl), (Nat.le_of_ble_eq_true rfl)⟩ rfl nofun (e_165 (d + 4) _ gh38 ⟨rfl, rfl⟩) ?_
          change Wp _ _ _ _ [] _ _
          refine wp_aload_n xi_222 dX12_play_182 rfl ?_
          refine wp_aload_n xi_222 dX12_play_183 rfl ?_
          obtain ⟨x39, gx39, H⟩ := Option.bind_eq_some_iff.mp H
          refine wq_getfr xi_222 dX12_play_184 xf_12_24 gx39 ?_
          refine wp_bipush 50 xi_222 dX12_play_187 rfl ?_
          obtain ⟨x40, gx40, H⟩ := Option.bind_eq_some_iff.mp H
          refine wq_iaload xi_222 dX12_play_189 gx40 ?_
          obtain ⟨w42, G48, H⟩ := Option.bind_eq_some_iff.mp H
          have K43 : Wp (d + 5) 222 198 [some (.ref a), none, none, none, none, some (.int w20), some (.int w21), none] [.int w42, .ref a] h38 Q := by
            obtain ⟨⟨x45, h44⟩, gh44, H⟩ := Option.bind_eq_some_iff.mp H
            dsimp only at H
            refine wq_callS (as := [.int w42]) (r := [.ref a]) (v1 := (some (.int x45))) xi_222 xi_163 dX12_play_198 xm_12_139 rfl (Nat.le_of_ble_eq_true rfl) ⟨(Nat.le_of_ble_eq_true rfl), (Nat.le_of_ble_eq_true rfl)⟩ rfl nofun (e_163 (d + 4) _ gh44 ⟨rfl, rfl⟩) ?_
            change Wp _ _ _ _ [.int x45, .ref a] _ _
            refine wp_i2l xi_222 dX12_play_201 ?_
            obtain ⟨u46, gu46, H⟩ := Option.bind_eq_some_iff.mp H
            obtain ⟨h47, gh47, H⟩ := Option.bind_eq_some_iff.mp H
            refine wq_callV (a := a) (as := [.long ((x45 : Int32).toInt64)]) (r := []) (v1 := none) xi_222 xi_165 dX12_play_202 xm_12_279 rfl (Nat.le_of_ble_eq_true rfl) (pG_ok gu46) ⟨(Nat.le_of_ble_eq_true rfl), (Nat.le_of_ble_eq_true rfl)⟩ rfl nofun (e_165 (d + 4) _ gh47 ⟨rfl, rfl⟩) ?_
            change Wp _ _ _ _ [] _ _
            refine wp_iload xi_222 dX12_play_205 rfl ?_
            obtain ⟨rfl, rfl⟩ := oi2 H
            exact wp_iret xi_222 dX12_play_207 hq
          clear H
          have H := G48
          clear G48
          refine wp_if_le 197 xi_222 dX12_play_190 rfl (fun c41 => ?_) (fun c41 => ?_)
          · rw [if_pos c41] at H
            refine wp_iconst 0 xi_222 dX12_play_197 rfl ?_
            obtain rfl := Option.some.inj H
            exact Wp.more (by simp [xMore, Value.category]) K43
          · rw [if_neg c41] at H
            refine wp_iconst 1 xi_222 dX12_play_193 rfl ?_
            refine wp_goto 198 xi_222 dX12_play_194 rfl ?_
            obtain rfl := Option.some.inj H
            exact Wp.more (by simp [xMore, Value.category]) K43
        clear H
        have H := G49
        clear G49
        refine wp_if_ne 174 xi_222 dX12_play_167 rfl (fun c32 => ?_) (fun c32 => ?_)
        · rw [if_neg c32] at H
          refine wp_iconst 0 xi_222 dX12_play_174 rfl ?_
          obtain rfl := Option.some.inj H
          exact Wp.more (by simp [xMore, Value.category]) K34
        · rw [if_pos c32] at H
          refine wp_iconst 1 xi_222 dX12_play_170 rfl ?_
          refine wp_goto 175 xi_222 dX12_play_171 rfl ?_
          obtain rfl := Option.some.inj H
          exact Wp.more (by simp [xMore, Value.category]) K34
      clear H
      have H := G50
      clear G50
      refine wp_if_le 159 xi_222 dX12_play_152 rfl (fun c24 => ?_) (fun c24 => ?_)
      · rw [if_pos c24] at H
        obtain rfl := Option.some.inj H
        exact Wp.more (by simp [xMore, Value.category]) K28
      · rw [if_neg c24] at H
        refine wp_aload_n xi_222 dX12_play_155 rfl ?_
        obtain ⟨u29, gu29, H⟩ := Option.bind_eq_some_iff.mp H
        obtain ⟨h30, gh30, H⟩ := Option.bind_eq_some_iff.mp H
        refine wq_callV (a := a) (as := []) (r := []) (v1 := none) xi_222 xi_217 dX12_play_156 xm_12_334 rfl (Nat.le_of_ble_eq_true rfl) (pG_ok gu29) ⟨(Nat.le_of_ble_eq_true rfl), (Nat.le_of_ble_eq_true rfl)⟩ rfl nofun (e_217 (d + 4) _ gh30 ⟨rfl, rfl⟩) ?_
        change Wp _ _ _ _ [] _ _
        obtain rfl := Option.some.inj H
        exact Wp.more (by simp [xMore, Value.category]) K28
    · rw [if_neg c16] at H
      refine wp_iload xi_222 dX12_play_75 rfl ?_
      obtain ⟨rfl, rfl⟩ := oi2 H
      exact wp_iret xi_222 dX12_play_77 hq
  clear H
  have H := G51
  clear G51
  refine wp_if_le 27 xi_222 dX12_play_20 rfl (fun c6 => ?_) (fun c6 => ?_)
  · rw [if_pos c6] at H
    refine wp_iconst 0 xi_222 dX12_play_27 rfl ?_
    obtain rfl := Option.some.inj H
    exact Wp.more (by simp [xMore, Value.category]) K8
  · rw [if_neg c6] at H
    refine wp_iconst 1 xi_222 dX12_play_23 rfl ?_
    refine wp_goto 28 xi_222 dX12_play_24 rfl ?_
    obtain rfl := Option.some.inj H
    exact Wp.more (by simp [xMore, Value.category]) K8
/- FelledHasLostModel.why()I -/
def f_223  (a : Nat) (h : xH) : Option (Int32 × xH) :=
  (pP h a 12 0 (.int 0)).bind fun h1 =>
  (pP h1 a 12 1 (.int 0)).bind fun h2 =>
  (pFr h2 a 12 3).bind fun x3 =>
  (pAi h2 x3 50).bind fun x4 =>
  ((if x4 ≤ 0 then
  some (h2)
  else
  (pFr h2 a 12 3).bind fun x16 =>
  (pAi h2 x16 52).bind fun x17 =>
  (pG (pIs h2 a 12)).bind fun _ =>
  (f_165 a ((x17 : Int32).toInt64) h2).bind fun h19 =>
  (pFr h19 a 12 3).bind fun x20 =>
  (pAi h19 x20 53).bind fun x21 =>
  (pG (pIs h19 a 12)).bind fun _ =>
  (f_165 a ((x21 : Int32).toInt64) h19).bind fun h23 =>
  some (h23) : Option (xH))).bind fun (h14 : xH) =>
  (pFr h14 a 12 3).bind fun x24 =>
  (pAi h14 x24 50).bind fun x25 =>
  some (x25, h14)
set_option maxHeartbeats 4000000 in
theorem e_223 (d : Nat) (Q : Option Value → xH → Prop)  {h : xH} {a : Nat} {x : Int32} {h1 : xH} (H : f_223  a h = some (x, h1)) (hq : Q (some (.int x)) h1) : Wp (d + 1) 223 0 [some (.ref a)] [] h Q := by
  unfold f_223 at H
  refine wp_aload_n xi_223 dX12_why_0 rfl ?_
  refine wp_iconst 0 xi_223 dX12_why_1 rfl ?_
  obtain ⟨h1, gh1, H⟩ := Option.bind_eq_some_iff.mp H
  refine wq_putf xi_223 dX12_why_2 xf_12_3 (Or.inl rfl) gh1 ?_
  refine wp_aload_n xi_223 dX12_why_5 rfl ?_
  refine wp_iconst 0 xi_223 dX12_why_6 rfl ?_
  obtain ⟨h2, gh2, H⟩ := Option.bind_eq_some_iff.mp H
  refine wq_putf xi_223 dX12_why_7 xf_12_15 (Or.inl rfl) gh2 ?_
  refine wp_aload_n xi_223 dX12_why_10 rfl ?_
  obtain ⟨x3, gx3, H⟩ := Option.bind_eq_some_iff.mp H
  refine wq_getfr xi_223 dX12_why_11 xf_12_24 gx3 ?_
  refine wp_bipush 50 xi_223 dX12_why_14 rfl ?_
  obtain ⟨x4, gx4, H⟩ := Option.bind_eq_some_iff.mp H
  refine wq_iaload xi_223 dX12_why_16 gx4 ?_
  obtain ⟨h14, G26, H⟩ := Option.bind_eq_some_iff.mp H
  have K15 : Wp (d + 1) 223 44 [some (.ref a)] [] h14 Q := by
    refine wp_aload_n xi_223 dX12_why_44 rfl ?_
    obtain ⟨x24, gx24, H⟩ := Option.bind_eq_some_iff.mp H
    refine wq_getfr xi_223 dX12_why_45 xf_12_24 gx24 ?_
    refine wp_bipush 50 xi_223 dX12_why_48 rfl ?_
    obtain ⟨x25, gx25, H⟩ := Option.bind_eq_some_iff.mp H
    refine wq_iaload xi_223 dX12_why_50 gx25 ?_
    obtain ⟨rfl, rfl⟩ := oi2 H
    exact wp_iret xi_223 dX12_why_51 hq
  clear H
  have H := G26
  clear G26
  refine wp_if_le 44 xi_223 dX12_why_17 rfl (fun c5 => ?_) (fun c5 => ?_)
  · rw [if_pos c5] at H
    obtain rfl := Option.some.inj H
    exact Wp.more (by simp [xMore, Value.category]) K15
  · rw [if_neg c5] at H
    refine wp_aload_n xi_223 dX12_why_20 rfl ?_
    refine wp_aload_n xi_223 dX12_why_21 rfl ?_
    obtain ⟨x16, gx16, H⟩ := Option.bind_eq_some_iff.mp H
    refine wq_getfr xi_223 dX12_why_22 xf_12_24 gx16 ?_
    refine wp_bipush 52 xi_223 dX12_why_25 rfl ?_
    obtain ⟨x17, gx17, H⟩ := Option.bind_eq_some_iff.mp H
    refine wq_iaload xi_223 dX12_why_27 gx17 ?_
    refine wp_i2l xi_223 dX12_why_28 ?_
    obtain ⟨u18, gu18, H⟩ := Option.bind_eq_some_iff.mp H
    obtain ⟨h19, gh19, H⟩ := Option.bind_eq_some_iff.mp H
    refine wq_callV (a := a) (as := [.long ((x17 : Int32).toInt64)]) (r := []) (v1 := none) xi_223 xi_165 dX12_why_29 xm_12_279 rfl (Nat.le_of_ble_eq_true rfl) (pG_ok gu18) ⟨(Nat.le_of_ble_eq_true rfl), (Nat.le_of_ble_eq_true rfl)⟩ rfl nofun (e_165 d _ gh19 ⟨rfl, rfl⟩) ?_
    change Wp _ _ _ _ [] _ _
    refine wp_aload_n xi_223 dX12_why_32 rfl ?_
    refine wp_aload_n xi_223 dX12_why_33 rfl ?_
    obtain ⟨x20, gx20, H⟩ := Option.bind_eq_some_iff.mp H
    refine wq_getfr xi_223 dX12_why_34 xf_12_24 gx20 ?_
    refine wp_bipush 53 xi_223 dX12_why_37 rfl ?_
    obtain ⟨x21, gx21, H⟩ := Option.bind_eq_some_iff.mp H
    refine wq_iaload xi_223 dX12_why_39 gx21 ?_
    refine wp_i2l xi_223 dX12_why_40 ?_
    obtain ⟨u22, gu22, H⟩ := Option.bind_eq_some_iff.mp H
    obtain ⟨h23, gh23, H⟩ := Option.bind_eq_some_iff.mp H
    refine wq_callV (a := a) (as := [.long ((x21 : Int32).toInt64)]) (r := []) (v1 := none) xi_223 xi_165 dX12_why_41 xm_12_279 rfl (Nat.le_of_ble_eq_true rfl) (pG_ok gu22) ⟨(Nat.le_of_ble_eq_true rfl), (Nat.le_of_ble_eq_true rfl)⟩ rfl nofun (e_165 d _ gh23 ⟨rfl, rfl⟩) ?_
    change Wp _ _ _ _ [] _ _
    obtain rfl := Option.some.inj H
    exact Wp.more (by simp [xMore, Value.category]) K15
/- FelledHasLostModel.unpacks(I[I)V -/
def f_224_2  : Nat → Nat → Int32 → Nat → Int32 → xH → Option (xH)
  | 0, _, _, _, _, _ => none
  | n + 1, a0, a1, a2, a3, h =>
  (if (54 : Int32) ≤ a3 then
  some (h)
  else
  (pFr h a0 12 32).bind fun x2 =>
  (pAi h x2 ((54 * a1) + a3)).bind fun x3 =>
  (pSi h a2 a3 x3).bind fun h4 =>
  f_224_2 n a0 a1 a2 (a3 + 1) h4)
theorem ef_224_2 (d : Nat) (Q : Option Value → xH → Prop)  : ∀ (n : Nat) (a0 : Nat) (a1 : Int32) (a2 : Nat) (a3 : Int32) (h : xH) (r : xH), f_224_2 n a0 a1 a2 a3 h = some r → (∀  (h1 : xH), r = h1 → Wp (d + 0) 224 28 [none, none, none, none] [] h1 Q) → Wp (d + 0) 224 2 [some (.ref a0), some (.int a1), some (.ref a2), some (.int a3)] [] h Q := by
  intro n
  induction n with
  | zero =>
    intro a0 a1 a2 a3 h r H
    cases H
  | succ n ih =>
    intro a0 a1 a2 a3 h r H KE
    unfold f_224_2 at H
    refine wp_iload_n xi_224 dX12_unpacks_2 rfl ?_
    refine wp_bipush 54 xi_224 dX12_unpacks_3 rfl ?_
    refine wp_icmp_ge 28 xi_224 dX12_unpacks_5 rfl (fun c1 => ?_) (fun c1 => ?_)
    · rw [if_pos c1] at H
      obtain rfl := Option.some.inj H
      exact Wp.more (by simp [xMore, Value.category]) (KE  h rfl)
    · rw [if_neg c1] at H
      refine wp_aload_n xi_224 dX12_unpacks_8 rfl ?_
      refine wp_iload_n xi_224 dX12_unpacks_9 rfl ?_
      refine wp_aload_n xi_224 dX12_unpacks_10 rfl ?_
      obtain ⟨x2, gx2, H⟩ := Option.bind_eq_some_iff.mp H
      refine wq_getfr xi_224 dX12_unpacks_11 xf_12_73 gx2 ?_
      refine wp_bipush 54 xi_224 dX12_unpacks_14 rfl ?_
      refine wp_iload_n xi_224 dX12_unpacks_16 rfl ?_
      refine wp_imul xi_224 dX12_unpacks_17 ?_
      refine wp_iload_n xi_224 dX12_unpacks_18 rfl ?_
      refine wp_iadd xi_224 dX12_unpacks_19 ?_
      obtain ⟨x3, gx3, H⟩ := Option.bind_eq_some_iff.mp H
      refine wq_iaload xi_224 dX12_unpacks_20 gx3 ?_
      obtain ⟨h4, gh4, H⟩ := Option.bind_eq_some_iff.mp H
      refine wq_iastore xi_224 dX12_unpacks_21 gh4 ?_
      refine wp_iinc (a3 + 1) [some (.ref a0), some (.int a1), some (.ref a2), some (.int (a3 + 1))] xi_224 dX12_unpacks_22 rfl rfl rfl ?_
      refine wp_goto 2 xi_224 dX12_unpacks_25 rfl ?_
      exact Wp.more (by simp [xMore, Value.category]) (ih a0 a1 a2 (a3 + 1) h4 _ H KE)
def f_224  (a : Nat) (p0 : Int32) (p1 : Nat) (h : xH) : Option (xH) :=
  (f_224_2 100000 a p0 p1 0 h).bind fun h1 =>
  some h1
set_option maxHeartbeats 4000000 in
theorem e_224 (d : Nat) (Q : Option Value → xH → Prop)  {h : xH} {a : Nat} {p0 : Int32} {p1 : Nat} {h1 : xH} (H : f_224  a p0 p1 h = some h1) (hq : Q none h1) : Wp (d + 0) 224 0 [some (.ref a), some (.int p0), some (.ref p1), none] [] h Q := by
  unfold f_224 at H
  refine wp_iconst 0 xi_224 dX12_unpacks_0 rfl ?_
  refine wp_istore_n [some (.ref a), some (.int p0), some (.ref p1), some (.int 0)] xi_224 dX12_unpacks_1 rfl ?_
  obtain ⟨h1, G2, H⟩ := Option.bind_eq_some_iff.mp H
  refine Wp.more (by simp [xMore, Value.category]) (ef_224_2 d Q  100000 a p0 p1 0 h _ G2 (fun z0 e9 => ?_))
  cases e9
  obtain rfl := Option.some.inj H
  exact wp_vret xi_224 dX12_unpacks_28 hq
/- FelledHasLostModel.isSame([II)Z -/
def f_226_5  : Nat → Nat → Nat → Int32 → Int32 → Int32 → xH → Option (Int32 × xH)
  | 0, _, _, _, _, _, _ => none
  | n + 1, a0, a1, a2, a3, a4, h =>
  (if (48 : Int32) ≤ a4 then
  some (a3, h)
  else
  (if a3 = 0 then
  some (a3, h)
  else
  (pFr h a0 12 32).bind fun x3 =>
  (pAi h x3 ((54 * a2) + a4)).bind fun x4 =>
  (pAi h a1 a4).bind fun x5 =>
  ((if x4 = x5 then
  some (1)
  else
  some (0) : Option (Int32))).bind fun (w7 : Int32) =>
  f_226_5 n a0 a1 a2 w7 (a4 + 1) h))
theorem ef_226_5 (d : Nat) (Q : Option Value → xH → Prop)  : ∀ (n : Nat) (a0 : Nat) (a1 : Nat) (a2 : Int32) (a3 : Int32) (a4 : Int32) (h : xH) (r : Int32 × xH), f_226_5 n a0 a1 a2 a3 a4 h = some r → (∀ (w3 : Int32) (h1 : xH), r = (w3, h1) → Wp (d + 0) 226 47 [none, none, none, some (.int w3), none] [] h1 Q) → Wp (d + 0) 226 5 [some (.ref a0), some (.ref a1), some (.int a2), some (.int a3), some (.int a4)] [] h Q := by
  intro n
  induction n with
  | zero =>
    intro a0 a1 a2 a3 a4 h r H
    cases H
  | succ n ih =>
    intro a0 a1 a2 a3 a4 h r H KE
    unfold f_226_5 at H
    refine wp_iload xi_226 dX12_isSame_5 rfl ?_
    refine wp_bipush 48 xi_226 dX12_isSame_7 rfl ?_
    refine wp_icmp_ge 47 xi_226 dX12_isSame_9 rfl (fun c1 => ?_) (fun c1 => ?_)
    · rw [if_pos c1] at H
      obtain rfl := Option.some.inj H
      exact Wp.more (by simp [xMore, Value.category]) (KE a3 h rfl)
    · rw [if_neg c1] at H
      refine wp_iload_n xi_226 dX12_isSame_12 rfl ?_
      refine wp_if_eq 47 xi_226 dX12_isSame_13 rfl (fun c2 => ?_) (fun c2 => ?_)
      · rw [if_pos c2] at H
        obtain rfl := Option.some.inj H
        exact Wp.more (by simp [xMore, Value.category]) (KE a3 h rfl)
      · rw [if_neg c2] at H
        refine wp_aload_n xi_226 dX12_isSame_16 rfl ?_
        obtain ⟨x3, gx3, H⟩ := Option.bind_eq_some_iff.mp H
        refine wq_getfr xi_226 dX12_isSame_17 xf_12_73 gx3 ?_
        refine wp_bipush 54 xi_226 dX12_isSame_20 rfl ?_
        refine wp_iload_n xi_226 dX12_isSame_22 rfl ?_
        refine wp_imul xi_226 dX12_isSame_23 ?_
        refine wp_iload xi_226 dX12_isSame_24 rfl ?_
        refine wp_iadd xi_226 dX12_isSame_26 ?_
        obtain ⟨x4, gx4, H⟩ := Option.bind_eq_some_iff.mp H
        refine wq_iaload xi_226 dX12_isSame_27 gx4 ?_
        refine wp_aload_n xi_226 dX12_isSame_28 rfl ?_
        refine wp_iload xi_226 dX12_isSame_29 rfl ?_
        obtain ⟨x5, gx5, H⟩ := Option.bind_eq_some_iff.mp H
        refine wq_iaload xi_226 dX12_isSame_31 gx5 ?_
        obtain ⟨w7, G9, H⟩ := Option.bind_eq_some_iff.mp H
        have K8 : Wp (d + 0) 226 40 [some (.ref a0), some (.ref a1), some (.int a2), some (.int a3), some (.int a4)] [.int w7] h Q := by
          refine wp_istore_n [some (.ref a0), some (.ref a1), some (.int a2), some (.int w7), some (.int a4)] xi_226 dX12_isSame_40 rfl ?_
          refine wp_iinc (a4 + 1) [some (.ref a0), some (.ref a1), some (.int a2), some (.int w7), some (.int (a4 + 1))] xi_226 dX12_isSame_41 rfl rfl rfl ?_
          refine wp_goto 5 xi_226 dX12_isSame_44 rfl ?_
          exact Wp.more (by simp [xMore, Value.category]) (ih a0 a1 a2 w7 (a4 + 1) h _ H KE)
        clear H
        have H := G9
        clear G9
        refine wp_icmp_ne 39 xi_226 dX12_isSame_32 rfl (fun c6 => ?_) (fun c6 => ?_)
        · rw [if_neg c6] at H
          refine wp_iconst 0 xi_226 dX12_isSame_39 rfl ?_
          obtain rfl := Option.some.inj H
          exact Wp.more (by simp [xMore, Value.category]) K8
        · rw [if_pos c6] at H
          refine wp_iconst 1 xi_226 dX12_isSame_35 rfl ?_
          refine wp_goto 40 xi_226 dX12_isSame_36 rfl ?_
          obtain rfl := Option.some.inj H
          exact Wp.more (by simp [xMore, Value.category]) K8
def f_226  (a : Nat) (p0 : Nat) (p1 : Int32) (h : xH) : Option (Int32 × xH) :=
  (f_226_5 100000 a p0 p1 1 0 h).bind fun (w2, h1) =>
  pZ w2 h1
set_option maxHeartbeats 4000000 in
theorem e_226 (d : Nat) (Q : Option Value → xH → Prop)  {h : xH} {a : Nat} {p0 : Nat} {p1 : Int32} {x : Int32} {h1 : xH} (H : f_226  a p0 p1 h = some (x, h1)) (hq : Q (some (.int x)) h1) : Wp (d + 0) 226 0 [some (.ref a), some (.ref p0), some (.int p1), none, none] [] h Q := by
  unfold f_226 at H
  refine wp_iconst 1 xi_226 dX12_isSame_0 rfl ?_
  refine wp_istore_n [some (.ref a), some (.ref p0), some (.int p1), some (.int 1), none] xi_226 dX12_isSame_1 rfl ?_
  refine wp_iconst 0 xi_226 dX12_isSame_2 rfl ?_
  refine wp_istore [some (.ref a), some (.ref p0), some (.int p1), some (.int 1), some (.int 0)] xi_226 dX12_isSame_3 rfl ?_
  obtain ⟨⟨w2, h1⟩, G3, H⟩ := Option.bind_eq_some_iff.mp H
  dsimp only at H
  refine Wp.more (by simp [xMore, Value.category]) (ef_226_5 d Q  100000 a p0 p1 1 0 h _ G3 (fun z0 z1 e9 => ?_))
  cases e9
  refine wp_iload_n xi_226 dX12_isSame_47 rfl ?_
  obtain ⟨gz, hz⟩ := pZ_ok H
  obtain ⟨rfl, rfl⟩ := Prod.mk.inj hz
  exact wp_zret xi_226 dX12_isSame_48 gz hq
