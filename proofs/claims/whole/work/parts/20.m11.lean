/- FelledHasLostModel.findsFirst()V -/
def f_228_2  : Nat → Nat → Int32 → xH → Option (xH)
  | 0, _, _, _ => none
  | n + 1, a0, a1, h =>
  (if (2048 : Int32) ≤ a1 then
  some (h)
  else
  (pFr h a0 12 36).bind fun x2 =>
  (pSi h x2 a1 (-1)).bind fun h3 =>
  f_228_2 n a0 (a1 + 1) h3)
theorem ef_228_2 (d : Nat) (Q : Option Value → xH → Prop)  : ∀ (n : Nat) (a0 : Nat) (a1 : Int32) (h : xH) (r : xH), f_228_2 n a0 a1 h = some r → (∀  (h1 : xH), r = h1 → Wp (d + 3) 228 22 [some (.ref a0), none] [] h1 Q) → Wp (d + 3) 228 2 [some (.ref a0), some (.int a1)] [] h Q := by
  intro n
  induction n with
  | zero =>
    intro a0 a1 h r H
    cases H
  | succ n ih =>
    intro a0 a1 h r H KE
    unfold f_228_2 at H
    refine wp_iload_n xi_228 dX12_findsFirst_2 rfl ?_
    refine wp_sipush 2048 xi_228 dX12_findsFirst_3 rfl ?_
    refine wp_icmp_ge 22 xi_228 dX12_findsFirst_6 rfl (fun c1 => ?_) (fun c1 => ?_)
    · rw [if_pos c1] at H
      obtain rfl := Option.some.inj H
      exact Wp.more (by simp [xMore, Value.category]) (KE  h rfl)
    · rw [if_neg c1] at H
      refine wp_aload_n xi_228 dX12_findsFirst_9 rfl ?_
      obtain ⟨x2, gx2, H⟩ := Option.bind_eq_some_iff.mp H
      refine wq_getfr xi_228 dX12_findsFirst_10 xf_12_85 gx2 ?_
      refine wp_iload_n xi_228 dX12_findsFirst_13 rfl ?_
      refine wp_iconst (-1) xi_228 dX12_findsFirst_14 rfl ?_
      obtain ⟨h3, gh3, H⟩ := Option.bind_eq_some_iff.mp H
      refine wq_iastore xi_228 dX12_findsFirst_15 gh3 ?_
      refine wp_iinc (a1 + 1) [some (.ref a0), some (.int (a1 + 1))] xi_228 dX12_findsFirst_16 rfl rfl rfl ?_
      refine wp_goto 2 xi_228 dX12_findsFirst_19 rfl ?_
      exact Wp.more (by simp [xMore, Value.category]) (ih a0 (a1 + 1) h3 _ H KE)
def f_228  (a : Nat) (h : xH) : Option (xH) :=
  (f_228_2 100000 a 0 h).bind fun h1 =>
  (pP h1 a 12 37 (.int 0)).bind fun h4 =>
  (pP h4 a 12 38 (.int 0)).bind fun h5 =>
  (pFr h5 a 12 3).bind fun x6 =>
  (pG (pIs h5 a 12)).bind fun _ =>
  (f_227 a x6 (-1) (-1) h5).bind fun h8 =>
  some h8
set_option maxHeartbeats 4000000 in
theorem e_228 (d : Nat) (Q : Option Value → xH → Prop)  {h : xH} {a : Nat} {h1 : xH} (H : f_228  a h = some h1) (hq : Q none h1) : Wp (d + 3) 228 0 [some (.ref a), none] [] h Q := by
  unfold f_228 at H
  refine wp_iconst 0 xi_228 dX12_findsFirst_0 rfl ?_
  refine wp_istore_n [some (.ref a), some (.int 0)] xi_228 dX12_findsFirst_1 rfl ?_
  obtain ⟨h1, G2, H⟩ := Option.bind_eq_some_iff.mp H
  refine Wp.more (by simp [xMore, Value.category]) (ef_228_2 d Q  100000 a 0 h _ G2 (fun z0 e9 => ?_))
  cases e9
  refine wp_aload_n xi_228 dX12_findsFirst_22 rfl ?_
  refine wp_iconst 0 xi_228 dX12_findsFirst_23 rfl ?_
  obtain ⟨h4, gh4, H⟩ := Option.bind_eq_some_iff.mp H
  refine wq_putf xi_228 dX12_findsFirst_24 xf_12_357 (Or.inl rfl) gh4 ?_
  refine wp_aload_n xi_228 dX12_findsFirst_27 rfl ?_
  refine wp_iconst 0 xi_228 dX12_findsFirst_28 rfl ?_
  obtain ⟨h5, gh5, H⟩ := Option.bind_eq_some_iff.mp H
  refine wq_putf xi_228 dX12_findsFirst_29 xf_12_360 (Or.inl rfl) gh5 ?_
  refine wp_aload_n xi_228 dX12_findsFirst_32 rfl ?_
  refine wp_aload_n xi_228 dX12_findsFirst_33 rfl ?_
  obtain ⟨x6, gx6, H⟩ := Option.bind_eq_some_iff.mp H
  refine wq_getfr xi_228 dX12_findsFirst_34 xf_12_24 gx6 ?_
  refine wp_iconst (-1) xi_228 dX12_findsFirst_37 rfl ?_
  refine wp_iconst (-1) xi_228 dX12_findsFirst_38 rfl ?_
  obtain ⟨u7, gu7, H⟩ := Option.bind_eq_some_iff.mp H
  obtain ⟨h8, gh8, H⟩ := Option.bind_eq_some_iff.mp H
  refine wq_callV (a := a) (as := [.ref x6, .int (-1), .int (-1)]) (r := []) (v1 := none) xi_228 xi_227 dX12_findsFirst_39 xm_12_364 rfl (Nat.le_of_ble_eq_true rfl) (pG_ok gu7) ⟨(Nat.le_of_ble_eq_true rfl), (Nat.le_of_ble_eq_true rfl)⟩ rfl nofun (e_227 d _ gh8 ⟨rfl, rfl⟩) ?_
  change Wp _ _ _ _ [] _ _
  obtain rfl := Option.some.inj H
  exact wp_vret xi_228 dX12_findsFirst_42 hq
/- FelledHasLostModel.findsFrom(I)V -/
def f_229_11  : Nat → Nat → Int32 → Int32 → xH → Option (xH)
  | 0, _, _, _, _ => none
  | n + 1, a0, a1, a2, h =>
  (if (480 : Int32) ≤ a2 then
  some (h)
  else
  (pFi h a0 12 38).bind fun x2 =>
  (if x2 = 0 then
  (pFr h a0 12 39).bind fun x4 =>
  (f_202 x4 a2 h).bind fun (x6, h5) =>
  ((if x6 = 0 then
  some (h5)
  else
  (pFr h5 a0 12 39).bind fun x21 =>
  (pFr h5 a0 12 27).bind fun x22 =>
  (f_168 x21 x22 h5).bind fun h23 =>
  (pFr h23 a0 12 27).bind fun x24 =>
  (pG (pIs h23 a0 12)).bind fun _ =>
  (f_203 a0 x24 a2 h23).bind fun (x27, h26) =>
  (if x27 = 0 then
  (pFr h26 a0 12 27).bind fun x29 =>
  (pG (pIs h26 a0 12)).bind fun _ =>
  (f_227 a0 x29 a1 a2 h26).bind fun h31 =>
  some (h31)
  else
  some (h26)) : Option (xH))).bind fun (h19 : xH) =>
  f_229_11 n a0 a1 (a2 + 1) h19
  else
  some (h)))
theorem ef_229_11 (d : Nat) (Q : Option Value → xH → Prop)  : ∀ (n : Nat) (a0 : Nat) (a1 : Int32) (a2 : Int32) (h : xH) (r : xH), f_229_11 n a0 a1 a2 h = some r → (∀  (h1 : xH), r = h1 → Wp (d + 4) 229 75 [none, none, none] [] h1 Q) → Wp (d + 4) 229 11 [some (.ref a0), some (.int a1), some (.int a2)] [] h Q := by
  intro n
  induction n with
  | zero =>
    intro a0 a1 a2 h r H
    cases H
  | succ n ih =>
    intro a0 a1 a2 h r H KE
    unfold f_229_11 at H
    refine wp_iload_n xi_229 dX12_findsFrom_11 rfl ?_
    refine wp_sipush 480 xi_229 dX12_findsFrom_12 rfl ?_
    refine wp_icmp_ge 75 xi_229 dX12_findsFrom_15 rfl (fun c1 => ?_) (fun c1 => ?_)
    · rw [if_pos c1] at H
      obtain rfl := Option.some.inj H
      exact Wp.more (by simp [xMore, Value.category]) (KE  h rfl)
    · rw [if_neg c1] at H
      refine wp_aload_n xi_229 dX12_findsFrom_18 rfl ?_
      obtain ⟨x2, gx2, H⟩ := Option.bind_eq_some_iff.mp H
      refine wq_getfi xi_229 dX12_findsFrom_19 xf_12_360 gx2 ?_
      refine wp_if_ne 75 xi_229 dX12_findsFrom_22 rfl (fun c3 => ?_) (fun c3 => ?_)
      · rw [if_neg c3] at H
        obtain rfl := Option.some.inj H
        exact Wp.more (by simp [xMore, Value.category]) (KE  h rfl)
      · rw [if_pos c3] at H
        refine wp_aload_n xi_229 dX12_findsFrom_25 rfl ?_
        obtain ⟨x4, gx4, H⟩ := Option.bind_eq_some_iff.mp H
        refine wq_getfr xi_229 dX12_findsFrom_26 xf_12_88 gx4 ?_
        refine wp_iload_n xi_229 dX12_findsFrom_29 rfl ?_
        obtain ⟨⟨x6, h5⟩, gh5, H⟩ := Option.bind_eq_some_iff.mp H
        dsimp only at H
        refine wq_callS (as := [.ref x4, .int a2]) (r := []) (v1 := (some (.int x6))) xi_229 xi_202 dX12_findsFrom_30 xm_12_292 rfl (Nat.le_of_ble_eq_true rfl) ⟨(Nat.le_of_ble_eq_true rfl), (Nat.le_of_ble_eq_true rfl)⟩ rfl nofun (e_202 d _ gh5 ⟨rfl, rfl⟩) ?_
        change Wp _ _ _ _ [.int x6] _ _
        obtain ⟨h19, G32, H⟩ := Option.bind_eq_some_iff.mp H
        have K20 : Wp (d + 4) 229 69 [some (.ref a0), some (.int a1), some (.int a2)] [] h19 Q := by
          refine wp_iinc (a2 + 1) [some (.ref a0), some (.int a1), some (.int (a2 + 1))] xi_229 dX12_findsFrom_69 rfl rfl rfl ?_
          refine wp_goto 11 xi_229 dX12_findsFrom_72 rfl ?_
          exact Wp.more (by simp [xMore, Value.category]) (ih a0 a1 (a2 + 1) h19 _ H KE)
        clear H
        have H := G32
        clear G32
        refine wp_if_eq 69 xi_229 dX12_findsFrom_33 rfl (fun c7 => ?_) (fun c7 => ?_)
        · rw [if_pos c7] at H
          obtain rfl := Option.some.inj H
          exact Wp.more (by simp [xMore, Value.category]) K20
        · rw [if_neg c7] at H
          refine wp_aload_n xi_229 dX12_findsFrom_36 rfl ?_
          obtain ⟨x21, gx21, H⟩ := Option.bind_eq_some_iff.mp H
          refine wq_getfr xi_229 dX12_findsFrom_37 xf_12_88 gx21 ?_
          refine wp_aload_n xi_229 dX12_findsFrom_40 rfl ?_
          obtain ⟨x22, gx22, H⟩ := Option.bind_eq_some_iff.mp H
          refine wq_getfr xi_229 dX12_findsFrom_41 xf_12_64 gx22 ?_
          obtain ⟨h23, gh23, H⟩ := Option.bind_eq_some_iff.mp H
          refine wq_callS (as := [.ref x21, .ref x22]) (r := []) (v1 := none) xi_229 xi_168 dX12_findsFrom_44 xm_12_259 rfl (Nat.le_of_ble_eq_true rfl) ⟨(Nat.le_of_ble_eq_true rfl), (Nat.le_of_ble_eq_true rfl)⟩ rfl nofun (e_168 (d + 3) _ gh23 ⟨rfl, rfl⟩) ?_
          change Wp _ _ _ _ [] _ _
          refine wp_aload_n xi_229 dX12_findsFrom_47 rfl ?_
          refine wp_aload_n xi_229 dX12_findsFrom_48 rfl ?_
          obtain ⟨x24, gx24, H⟩ := Option.bind_eq_some_iff.mp H
          refine wq_getfr xi_229 dX12_findsFrom_49 xf_12_64 gx24 ?_
          refine wp_iload_n xi_229 dX12_findsFrom_52 rfl ?_
          obtain ⟨u25, gu25, H⟩ := Option.bind_eq_some_iff.mp H
          obtain ⟨⟨x27, h26⟩, gh26, H⟩ := Option.bind_eq_some_iff.mp H
          dsimp only at H
          refine wq_callV (a := a0) (as := [.ref x24, .int a2]) (r := []) (v1 := (some (.int x27))) xi_229 xi_203 dX12_findsFrom_53 xm_12_295 rfl (Nat.le_of_ble_eq_true rfl) (pG_ok gu25) ⟨(Nat.le_of_ble_eq_true rfl), (Nat.le_of_ble_eq_true rfl)⟩ rfl nofun (e_203 d _ gh26 ⟨rfl, rfl⟩) ?_
          change Wp _ _ _ _ [.int x27] _ _
          refine wp_if_ne 69 xi_229 dX12_findsFrom_56 rfl (fun c28 => ?_) (fun c28 => ?_)
          · rw [if_neg c28] at H
            obtain rfl := Option.some.inj H
            exact Wp.more (by simp [xMore, Value.category]) K20
          · rw [if_pos c28] at H
            refine wp_aload_n xi_229 dX12_findsFrom_59 rfl ?_
            refine wp_aload_n xi_229 dX12_findsFrom_60 rfl ?_
            obtain ⟨x29, gx29, H⟩ := Option.bind_eq_some_iff.mp H
            refine wq_getfr xi_229 dX12_findsFrom_61 xf_12_64 gx29 ?_
            refine wp_iload_n xi_229 dX12_findsFrom_64 rfl ?_
            refine wp_iload_n xi_229 dX12_findsFrom_65 rfl ?_
            obtain ⟨u30, gu30, H⟩ := Option.bind_eq_some_iff.mp H
            obtain ⟨h31, gh31, H⟩ := Option.bind_eq_some_iff.mp H
            refine wq_callV (a := a0) (as := [.ref x29, .int a1, .int a2]) (r := []) (v1 := none) xi_229 xi_227 dX12_findsFrom_66 xm_12_364 rfl (Nat.le_of_ble_eq_true rfl) (pG_ok gu30) ⟨(Nat.le_of_ble_eq_true rfl), (Nat.le_of_ble_eq_true rfl)⟩ rfl nofun (e_227 (d + 1) _ gh31 ⟨rfl, rfl⟩) ?_
            change Wp _ _ _ _ [] _ _
            obtain rfl := Option.some.inj H
            exact Wp.more (by simp [xMore, Value.category]) K20
def f_229  (a : Nat) (p0 : Int32) (h : xH) : Option (xH) :=
  (pFr h a 12 39).bind fun x1 =>
  (pG (pIs h a 12)).bind fun _ =>
  (f_224 a p0 x1 h).bind fun h3 =>
  (f_229_11 100000 a p0 0 h3).bind fun h4 =>
  some h4
set_option maxHeartbeats 4000000 in
theorem e_229 (d : Nat) (Q : Option Value → xH → Prop)  {h : xH} {a : Nat} {p0 : Int32} {h1 : xH} (H : f_229  a p0 h = some h1) (hq : Q none h1) : Wp (d + 4) 229 0 [some (.ref a), some (.int p0), none] [] h Q := by
  unfold f_229 at H
  refine wp_aload_n xi_229 dX12_findsFrom_0 rfl ?_
  refine wp_iload_n xi_229 dX12_findsFrom_1 rfl ?_
  refine wp_aload_n xi_229 dX12_findsFrom_2 rfl ?_
  obtain ⟨x1, gx1, H⟩ := Option.bind_eq_some_iff.mp H
  refine wq_getfr xi_229 dX12_findsFrom_3 xf_12_88 gx1 ?_
  obtain ⟨u2, gu2, H⟩ := Option.bind_eq_some_iff.mp H
  obtain ⟨h3, gh3, H⟩ := Option.bind_eq_some_iff.mp H
  refine wq_callV (a := a) (as := [.int p0, .ref x1]) (r := []) (v1 := none) xi_229 xi_224 dX12_findsFrom_6 xm_12_368 rfl (Nat.le_of_ble_eq_true rfl) (pG_ok gu2) ⟨(Nat.le_of_ble_eq_true rfl), (Nat.le_of_ble_eq_true rfl)⟩ rfl nofun (e_224 (d + 3) _ gh3 ⟨rfl, rfl⟩) ?_
  change Wp _ _ _ _ [] _ _
  refine wp_iconst 0 xi_229 dX12_findsFrom_9 rfl ?_
  refine wp_istore_n [some (.ref a), some (.int p0), some (.int 0)] xi_229 dX12_findsFrom_10 rfl ?_
  obtain ⟨h4, G5, H⟩ := Option.bind_eq_some_iff.mp H
  refine Wp.more (by simp [xMore, Value.category]) (ef_229_11 d Q  100000 a p0 0 h3 _ G5 (fun z0 e9 => ?_))
  cases e9
  obtain rfl := Option.some.inj H
  exact wp_vret xi_229 dX12_findsFrom_75 hq
/- FelledHasLostModel.findsAll()Z -/
def f_230_6  : Nat → Nat → Int32 → xH → Option (xH)
  | 0, _, _, _ => none
  | n + 1, a0, a1, h =>
  (pFi h a0 12 37).bind fun x1 =>
  (if x1 ≤ a1 then
  some (h)
  else
  (pFi h a0 12 38).bind fun x3 =>
  (if x3 = 0 then
  (pG (pIs h a0 12)).bind fun _ =>
  (f_229 a0 a1 h).bind fun h6 =>
  f_230_6 n a0 (a1 + 1) h6
  else
  some (h)))
theorem ef_230_6 (d : Nat) (Q : Option Value → xH → Prop)  : ∀ (n : Nat) (a0 : Nat) (a1 : Int32) (h : xH) (r : xH), f_230_6 n a0 a1 h = some r → (∀  (h1 : xH), r = h1 → Wp (d + 5) 230 32 [some (.ref a0), none] [] h1 Q) → Wp (d + 5) 230 6 [some (.ref a0), some (.int a1)] [] h Q := by
  intro n
  induction n with
  | zero =>
    intro a0 a1 h r H
    cases H
  | succ n ih =>
    intro a0 a1 h r H KE
    unfold f_230_6 at H
    refine wp_iload_n xi_230 dX12_findsAll_6 rfl ?_
    refine wp_aload_n xi_230 dX12_findsAll_7 rfl ?_
    obtain ⟨x1, gx1, H⟩ := Option.bind_eq_some_iff.mp H
    refine wq_getfi xi_230 dX12_findsAll_8 xf_12_357 gx1 ?_
    refine wp_icmp_ge 32 xi_230 dX12_findsAll_11 rfl (fun c2 => ?_) (fun c2 => ?_)
    · rw [if_pos c2] at H
      obtain rfl := Option.some.inj H
      exact Wp.more (by simp [xMore, Value.category]) (KE  h rfl)
    · rw [if_neg c2] at H
      refine wp_aload_n xi_230 dX12_findsAll_14 rfl ?_
      obtain ⟨x3, gx3, H⟩ := Option.bind_eq_some_iff.mp H
      refine wq_getfi xi_230 dX12_findsAll_15 xf_12_360 gx3 ?_
      refine wp_if_ne 32 xi_230 dX12_findsAll_18 rfl (fun c4 => ?_) (fun c4 => ?_)
      · rw [if_neg c4] at H
        obtain rfl := Option.some.inj H
        exact Wp.more (by simp [xMore, Value.category]) (KE  h rfl)
      · rw [if_pos c4] at H
        refine wp_aload_n xi_230 dX12_findsAll_21 rfl ?_
        refine wp_iload_n xi_230 dX12_findsAll_22 rfl ?_
        obtain ⟨u5, gu5, H⟩ := Option.bind_eq_some_iff.mp H
        obtain ⟨h6, gh6, H⟩ := Option.bind_eq_some_iff.mp H
        refine wq_callV (a := a0) (as := [.int a1]) (r := []) (v1 := none) xi_230 xi_229 dX12_findsAll_23 xm_12_375 rfl (Nat.le_of_ble_eq_true rfl) (pG_ok gu5) ⟨(Nat.le_of_ble_eq_true rfl), (Nat.le_of_ble_eq_true rfl)⟩ rfl nofun (e_229 d _ gh6 ⟨rfl, rfl⟩) ?_
        change Wp _ _ _ _ [] _ _
        refine wp_iinc (a1 + 1) [some (.ref a0), some (.int (a1 + 1))] xi_230 dX12_findsAll_26 rfl rfl rfl ?_
        refine wp_goto 6 xi_230 dX12_findsAll_29 rfl ?_
        exact Wp.more (by simp [xMore, Value.category]) (ih a0 (a1 + 1) h6 _ H KE)
def f_230  (a : Nat) (h : xH) : Option (Int32 × xH) :=
  (pG (pIs h a 12)).bind fun _ =>
  (f_228 a h).bind fun h2 =>
  (f_230_6 100000 a 0 h2).bind fun h3 =>
  (pFi h3 a 12 38).bind fun x6 =>
  ((if x6 = 0 then
  some (1)
  else
  some (0) : Option (Int32))).bind fun (w8 : Int32) =>
  pZ w8 h3
set_option maxHeartbeats 4000000 in
theorem e_230 (d : Nat) (Q : Option Value → xH → Prop)  {h : xH} {a : Nat} {x : Int32} {h1 : xH} (H : f_230  a h = some (x, h1)) (hq : Q (some (.int x)) h1) : Wp (d + 5) 230 0 [some (.ref a), none] [] h Q := by
  unfold f_230 at H
  refine wp_aload_n xi_230 dX12_findsAll_0 rfl ?_
  obtain ⟨u1, gu1, H⟩ := Option.bind_eq_some_iff.mp H
  obtain ⟨h2, gh2, H⟩ := Option.bind_eq_some_iff.mp H
  refine wq_callV (a := a) (as := []) (r := []) (v1 := none) xi_230 xi_228 dX12_findsAll_1 xm_12_372 rfl (Nat.le_of_ble_eq_true rfl) (pG_ok gu1) ⟨(Nat.le_of_ble_eq_true rfl), (Nat.le_of_ble_eq_true rfl)⟩ rfl nofun (e_228 (d + 1) _ gh2 ⟨rfl, rfl⟩) ?_
  change Wp _ _ _ _ [] _ _
  refine wp_iconst 0 xi_230 dX12_findsAll_4 rfl ?_
  refine wp_istore_n [some (.ref a), some (.int 0)] xi_230 dX12_findsAll_5 rfl ?_
  obtain ⟨h3, G4, H⟩ := Option.bind_eq_some_iff.mp H
  refine Wp.more (by simp [xMore, Value.category]) (ef_230_6 d Q  100000 a 0 h2 _ G4 (fun z0 e9 => ?_))
  cases e9
  refine wp_aload_n xi_230 dX12_findsAll_32 rfl ?_
  obtain ⟨x6, gx6, H⟩ := Option.bind_eq_some_iff.mp H
  refine wq_getfi xi_230 dX12_findsAll_33 xf_12_360 gx6 ?_
  obtain ⟨w8, G10, H⟩ := Option.bind_eq_some_iff.mp H
  have K9 : Wp (d + 5) 230 44 [some (.ref a), none] [.int w8] h3 Q := by
    obtain ⟨gz, hz⟩ := pZ_ok H
    obtain ⟨rfl, rfl⟩ := Prod.mk.inj hz
    exact wp_zret xi_230 dX12_findsAll_44 gz hq
  clear H
  have H := G10
  clear G10
  refine wp_if_ne 43 xi_230 dX12_findsAll_36 rfl (fun c7 => ?_) (fun c7 => ?_)
  · rw [if_neg c7] at H
    refine wp_iconst 0 xi_230 dX12_findsAll_43 rfl ?_
    obtain rfl := Option.some.inj H
    exact Wp.more (by simp [xMore, Value.category]) K9
  · rw [if_pos c7] at H
    refine wp_iconst 1 xi_230 dX12_findsAll_39 rfl ?_
    refine wp_goto 44 xi_230 dX12_findsAll_40 rfl ?_
    obtain rfl := Option.some.inj H
    exact Wp.more (by simp [xMore, Value.category]) K9
/- FelledHasLostModel.high()I -/
def f_238_19  : Nat → Nat → Int32 → Int32 → xH → Option (Int32 × xH)
  | 0, _, _, _, _ => none
  | n + 1, a0, a1, a2, h =>
  (pFi h a0 12 37).bind fun x1 =>
  (if x1 ≤ a2 then
  some (a1, h)
  else
  (pFr h a0 12 32).bind fun x3 =>
  (pAi h x3 ((54 * a2) + 48)).bind fun x4 =>
  (pFr h a0 12 32).bind fun x5 =>
  (pAi h x5 ((54 * a1) + 48)).bind fun x6 =>
  ((if x4 ≤ x6 then
  some (a1)
  else
  some (a2) : Option (Int32))).bind fun (w8 : Int32) =>
  f_238_19 n a0 w8 (a2 + 1) h)
theorem ef_238_19 (d : Nat) (Q : Option Value → xH → Prop)  : ∀ (n : Nat) (a0 : Nat) (a1 : Int32) (a2 : Int32) (h : xH) (r : Int32 × xH), f_238_19 n a0 a1 a2 h = some r → (∀ (w1 : Int32) (h1 : xH), r = (w1, h1) → Wp (d + 6) 238 66 [some (.ref a0), some (.int w1), none] [] h1 Q) → Wp (d + 6) 238 19 [some (.ref a0), some (.int a1), some (.int a2)] [] h Q := by
  intro n
  induction n with
  | zero =>
    intro a0 a1 a2 h r H
    cases H
  | succ n ih =>
    intro a0 a1 a2 h r H KE
    unfold f_238_19 at H
    refine wp_iload_n xi_238 dX12_high_19 rfl ?_
    refine wp_aload_n xi_238 dX12_high_20 rfl ?_
    obtain ⟨x1, gx1, H⟩ := Option.bind_eq_some_iff.mp H
    refine wq_getfi xi_238 dX12_high_21 xf_12_357 gx1 ?_
    refine wp_icmp_ge 66 xi_238 dX12_high_24 rfl (fun c2 => ?_) (fun c2 => ?_)
    · rw [if_pos c2] at H
      obtain rfl := Option.some.inj H
      exact Wp.more (by simp [xMore, Value.category]) (KE a1 h rfl)
    · rw [if_neg c2] at H
      refine wp_aload_n xi_238 dX12_high_27 rfl ?_
      obtain ⟨x3, gx3, H⟩ := Option.bind_eq_some_iff.mp H
      refine wq_getfr xi_238 dX12_high_28 xf_12_73 gx3 ?_
      refine wp_bipush 54 xi_238 dX12_high_31 rfl ?_
      refine wp_iload_n xi_238 dX12_high_33 rfl ?_
      refine wp_imul xi_238 dX12_high_34 ?_
      refine wp_bipush 48 xi_238 dX12_high_35 rfl ?_
      refine wp_iadd xi_238 dX12_high_37 ?_
      obtain ⟨x4, gx4, H⟩ := Option.bind_eq_some_iff.mp H
      refine wq_iaload xi_238 dX12_high_38 gx4 ?_
      refine wp_aload_n xi_238 dX12_high_39 rfl ?_
      obtain ⟨x5, gx5, H⟩ := Option.bind_eq_some_iff.mp H
      refine wq_getfr xi_238 dX12_high_40 xf_12_73 gx5 ?_
      refine wp_bipush 54 xi_238 dX12_high_43 rfl ?_
      refine wp_iload_n xi_238 dX12_high_45 rfl ?_
      refine wp_imul xi_238 dX12_high_46 ?_
      refine wp_bipush 48 xi_238 dX12_high_47 rfl ?_
      refine wp_iadd xi_238 dX12_high_49 ?_
      obtain ⟨x6, gx6, H⟩ := Option.bind_eq_some_iff.mp H
      refine wq_iaload xi_238 dX12_high_50 gx6 ?_
      obtain ⟨w8, G10, H⟩ := Option.bind_eq_some_iff.mp H
      have K9 : Wp (d + 6) 238 59 [some (.ref a0), some (.int a1), some (.int a2)] [.int w8] h Q := by
        refine wp_istore_n [some (.ref a0), some (.int w8), some (.int a2)] xi_238 dX12_high_59 rfl ?_
        refine wp_iinc (a2 + 1) [some (.ref a0), some (.int w8), some (.int (a2 + 1))] xi_238 dX12_high_60 rfl rfl rfl ?_
        refine wp_goto 19 xi_238 dX12_high_63 rfl ?_
        exact Wp.more (by simp [xMore, Value.category]) (ih a0 w8 (a2 + 1) h _ H KE)
      clear H
      have H := G10
      clear G10
      refine wp_icmp_le 58 xi_238 dX12_high_51 rfl (fun c7 => ?_) (fun c7 => ?_)
      · rw [if_pos c7] at H
        refine wp_iload_n xi_238 dX12_high_58 rfl ?_
        obtain rfl := Option.some.inj H
        exact Wp.more (by simp [xMore, Value.category]) K9
      · rw [if_neg c7] at H
        refine wp_iload_n xi_238 dX12_high_54 rfl ?_
        refine wp_goto 59 xi_238 dX12_high_55 rfl ?_
        obtain rfl := Option.some.inj H
        exact Wp.more (by simp [xMore, Value.category]) K9
def f_238  (a : Nat) (h : xH) : Option (Int32 × xH) :=
  (pP h a 12 0 (.int 0)).bind fun h1 =>
  (pG (pIs h1 a 12)).bind fun _ =>
  (f_230 a h1).bind fun (x4, h3) =>
  (if x4 = 0 then
  some ((-3), h3)
  else
  (f_238_19 100000 a 0 1 h3).bind fun (w7, h6) =>
  (pP h6 a 12 1 (.int 0)).bind fun h10 =>
  (pFr h10 a 12 35).bind fun x11 =>
  (pAi h10 x11 w7).bind fun x12 =>
  (pG (pIs h10 a 12)).bind fun _ =>
  (f_165 a ((x12 : Int32).toInt64) h10).bind fun h14 =>
  (pG (pIs h14 a 12)).bind fun _ =>
  (f_237 a w7 h14).bind fun (x17, h16) =>
  (pG (pIs h16 a 12)).bind fun _ =>
  (f_165 a ((x17 : Int32).toInt64) h16).bind fun h19 =>
  (pFr h19 a 12 32).bind fun x20 =>
  (pAi h19 x20 ((54 * w7) + 48)).bind fun x21 =>
  some (x21, h19))
set_option maxHeartbeats 4000000 in
theorem e_238 (d : Nat) (Q : Option Value → xH → Prop)  {h : xH} {a : Nat} {x : Int32} {h1 : xH} (H : f_238  a h = some (x, h1)) (hq : Q (some (.int x)) h1) : Wp (d + 6) 238 0 [some (.ref a), none, none] [] h Q := by
  unfold f_238 at H
  refine wp_aload_n xi_238 dX12_high_0 rfl ?_
  refine wp_iconst 0 xi_238 dX12_high_1 rfl ?_
  obtain ⟨h1, gh1, H⟩ := Option.bind_eq_some_iff.mp H
  refine wq_putf xi_238 dX12_high_2 xf_12_3 (Or.inl rfl) gh1 ?_
  refine wp_aload_n xi_238 dX12_high_5 rfl ?_
  obtain ⟨u2, gu2, H⟩ := Option.bind_eq_some_iff.mp H
  obtain ⟨⟨x4, h3⟩, gh3, H⟩ := Option.bind_eq_some_iff.mp H
  dsimp only at H
  refine wq_callV (a := a) (as := []) (r := []) (v1 := (some (.int x4))) xi_238 xi_230 dX12_high_6 xm_12_381 rfl (Nat.le_of_ble_eq_true rfl) (pG_ok gu2) ⟨(Nat.le_of_ble_eq_true rfl), (Nat.le_of_ble_eq_true rfl)⟩ rfl nofun (e_230 d _ gh3 ⟨rfl, rfl⟩) ?_
  change Wp _ _ _ _ [.int x4] _ _
  refine wp_if_ne 15 xi_238 dX12_high_9 rfl (fun c5 => ?_) (fun c5 => ?_)
  · rw [if_neg c5] at H
    refine wp_iconst 0 xi_238 dX12_high_15 rfl ?_
    refine wp_istore_n [some (.ref a), some (.int 0), none] xi_238 dX12_high_16 rfl ?_
    refine wp_iconst 1 xi_238 dX12_high_17 rfl ?_
    refine wp_istore_n [some (.ref a), some (.int 0), some (.int 1)] xi_238 dX12_high_18 rfl ?_
    obtain ⟨⟨w7, h6⟩, G8, H⟩ := Option.bind_eq_some_iff.mp H
    dsimp only at H
    refine Wp.more (by simp [xMore, Value.category]) (ef_238_19 d Q  100000 a 0 1 h3 _ G8 (fun z0 z1 e9 => ?_))
    cases e9
    refine wp_aload_n xi_238 dX12_high_66 rfl ?_
    refine wp_iconst 0 xi_238 dX12_high_67 rfl ?_
    obtain ⟨h10, gh10, H⟩ := Option.bind_eq_some_iff.mp H
    refine wq_putf xi_238 dX12_high_68 xf_12_15 (Or.inl rfl) gh10 ?_
    refine wp_aload_n xi_238 dX12_high_71 rfl ?_
    refine wp_aload_n xi_238 dX12_high_72 rfl ?_
    obtain ⟨x11, gx11, H⟩ := Option.bind_eq_some_iff.mp H
    refine wq_getfr xi_238 dX12_high_73 xf_12_82 gx11 ?_
    refine wp_iload_n xi_238 dX12_high_76 rfl ?_
    obtain ⟨x12, gx12, H⟩ := Option.bind_eq_some_iff.mp H
    refine wq_iaload xi_238 dX12_high_77 gx12 ?_
    refine wp_i2l xi_238 dX12_high_78 ?_
    obtain ⟨u13, gu13, H⟩ := Option.bind_eq_some_iff.mp H
    obtain ⟨h14, gh14, H⟩ := Option.bind_eq_some_iff.mp H
    refine wq_callV (a := a) (as := [.long ((x12 : Int32).toInt64)]) (r := []) (v1 := none) xi_238 xi_165 dX12_high_79 xm_12_279 rfl (Nat.le_of_ble_eq_true rfl) (pG_ok gu13) ⟨(Nat.le_of_ble_eq_true rfl), (Nat.le_of_ble_eq_true rfl)⟩ rfl nofun (e_165 (d + 5) _ gh14 ⟨rfl, rfl⟩) ?_
    change Wp _ _ _ _ [] _ _
    refine wp_aload_n xi_238 dX12_high_82 rfl ?_
    refine wp_aload_n xi_238 dX12_high_83 rfl ?_
    refine wp_iload_n xi_238 dX12_high_84 rfl ?_
    obtain ⟨u15, gu15, H⟩ := Option.bind_eq_some_iff.mp H
    obtain ⟨⟨x17, h16⟩, gh16, H⟩ := Option.bind_eq_some_iff.mp H
    dsimp only at H
    refine wq_callV (a := a) (as := [.int w7]) (r := [.ref a]) (v1 := (some (.int x17))) xi_238 xi_237 dX12_high_85 xm_12_390 rfl (Nat.le_of_ble_eq_true rfl) (pG_ok gu15) ⟨(Nat.le_of_ble_eq_true rfl), (Nat.le_of_ble_eq_true rfl)⟩ rfl nofun (e_237 (d + 5) _ gh16 ⟨rfl, rfl⟩) ?_
    change Wp _ _ _ _ [.int x17, .ref a] _ _
    refine wp_i2l xi_238 dX12_high_88 ?_
    obtain ⟨u18, gu18, H⟩ := Option.bind_eq_some_iff.mp H
    obtain ⟨h19, gh19, H⟩ := Option.bind_eq_some_iff.mp H
    refine wq_callV (a := a) (as := [.long ((x17 : Int32).toInt64)]) (r := []) (v1 := none) xi_238 xi_165 dX12_high_89 xm_12_279 rfl (Nat.le_of_ble_eq_true rfl) (pG_ok gu18) ⟨(Nat.le_of_ble_eq_true rfl), (Nat.le_of_ble_eq_true rfl)⟩ rfl nofun (e_165 (d + 5) _ gh19 ⟨rfl, rfl⟩) ?_
    change Wp _ _ _ _ [] _ _
    refine wp_aload_n xi_238 dX12_high_92 rfl ?_
    obtain ⟨x20, gx20, H⟩ := Option.bind_eq_some_iff.mp H
    refine wq_getfr xi_238 dX12_high_93 xf_12_73 gx20 ?_
    refine wp_bipush 54 xi_238 dX12_high_96 rfl ?_
    refine wp_iload_n xi_238 dX12_high_98 rfl ?_
    refine wp_imul xi_238 dX12_high_99 ?_
    refine wp_bipush 48 xi_238 dX12_high_100 rfl ?_
    refine wp_iadd xi_238 dX12_high_102 ?_
    obtain ⟨x21, gx21, H⟩ := Option.bind_eq_some_iff.mp H
    refine wq_iaload xi_238 dX12_high_103 gx21 ?_
    obtain ⟨rfl, rfl⟩ := oi2 H
    exact wp_iret xi_238 dX12_high_104 hq
  · rw [if_pos c5] at H
    refine wp_bipush (-3) xi_238 dX12_high_12 rfl ?_
    obtain ⟨rfl, rfl⟩ := oi2 H
    exact wp_iret xi_238 dX12_high_14 hq
/- FelledHasLostModel.towers()I -/
def f_239_19  : Nat → Nat → Int32 → Int32 → xH → Option (Int32 × xH)
  | 0, _, _, _, _ => none
  | n + 1, a0, a1, a2, h =>
  (pFi h a0 12 37).bind fun x1 =>
  (if x1 ≤ a2 then
  some (a1, h)
  else
  (pFr h a0 12 39).bind fun x3 =>
  (pG (pIs h a0 12)).bind fun _ =>
  (f_224 a0 a2 x3 h).bind fun h5 =>
  (pFr h5 a0 12 39).bind fun x6 =>
  (pG (pIs h5 a0 12)).bind fun _ =>
  (f_213 a0 x6 h5).bind fun (x9, h8) =>
  ((if x9 = 0 then
  some (1)
  else
  some (0) : Option (Int32))).bind fun (w11 : Int32) =>
  (f_163 w11 h8).bind fun (x14, h13) =>
  f_239_19 n a0 (a1 + x14) (a2 + 1) h13)
theorem ef_239_19 (d : Nat) (Q : Option Value → xH → Prop)  : ∀ (n : Nat) (a0 : Nat) (a1 : Int32) (a2 : Int32) (h : xH) (r : Int32 × xH), f_239_19 n a0 a1 a2 h = some r → (∀ (w1 : Int32) (h1 : xH), r = (w1, h1) → Wp (d + 6) 239 64 [some (.ref a0), some (.int w1), none] [] h1 Q) → Wp (d + 6) 239 19 [some (.ref a0), some (.int a1), some (.int a2)] [] h Q := by
  intro n
  induction n with
  | zero =>
    intro a0 a1 a2 h r H
    cases H
  | succ n ih =>
    intro a0 a1 a2 h r H KE
    unfold f_239_19 at H
    refine wp_iload_n xi_239 dX12_towers_19 rfl ?_
    refine wp_aload_n xi_239 dX12_towers_20 rfl ?_
    obtain ⟨x1, gx1, H⟩ := Option.bind_eq_some_iff.mp H
    refine wq_getfi xi_239 dX12_towers_21 xf_12_357 gx1 ?_
    refine wp_icmp_ge 64 xi_239 dX12_towers_24 rfl (fun c2 => ?_) (fun c2 => ?_)
    · rw [if_pos c2] at H
      obtain rfl := Option.some.inj H
      exact Wp.more (by simp [xMore, Value.category]) (KE a1 h rfl)
    · rw [if_neg c2] at H
      refine wp_aload_n xi_239 dX12_towers_27 rfl ?_
      refine wp_iload_n xi_239 dX12_towers_28 rfl ?_
      refine wp_aload_n xi_239 dX12_towers_29 rfl ?_
      obtain ⟨x3, gx3, H⟩ := Option.bind_eq_some_iff.mp H
      refine wq_getfr xi_239 dX12_towers_30 xf_12_88 gx3 ?_
      obtain ⟨u4, gu4, H⟩ := Option.bind_eq_some_iff.mp H
      obtain ⟨h5, gh5, H⟩ := Option.bind_eq_some_iff.mp H
      refine wq_callV (a := a0) (as := [.int a2, .ref x3]) (r := []) (v1 := none) xi_239 xi_224 dX12_towers_33 xm_12_368 rfl (Nat.le_of_ble_eq_true rfl) (pG_ok gu4) ⟨(Nat.le_of_ble_eq_true rfl), (Nat.le_of_ble_eq_true rfl)⟩ rfl nofun (e_224 (d + 5) _ gh5 ⟨rfl, rfl⟩) ?_
      change Wp _ _ _ _ [] _ _
      refine wp_iload_n xi_239 dX12_towers_36 rfl ?_
      refine wp_aload_n xi_239 dX12_towers_37 rfl ?_
      refine wp_aload_n xi_239 dX12_towers_38 rfl ?_
      obtain ⟨x6, gx6, H⟩ := Option.bind_eq_some_iff.mp H
      refine wq_getfr xi_239 dX12_towers_39 xf_12_88 gx6 ?_
      obtain ⟨u7, gu7, H⟩ := Option.bind_eq_some_iff.mp H
      obtain ⟨⟨x9, h8⟩, gh8, H⟩ := Option.bind_eq_some_iff.mp H
      dsimp only at H
      refine wq_callV (a := a0) (as := [.ref x6]) (r := [.int a1]) (v1 := (some (.int x9))) xi_239 xi_213 dX12_towers_42 xm_12_325 rfl (Nat.le_of_ble_eq_true rfl) (pG_ok gu7) ⟨(Nat.le_of_ble_eq_true rfl), (Nat.le_of_ble_eq_true rfl)⟩ rfl nofun (e_213 d _ gh8 ⟨rfl, rfl⟩) ?_
      change Wp _ _ _ _ [.int x9, .int a1] _ _
      obtain ⟨w11, G15, H⟩ := Option.bind_eq_some_iff.mp H
      have K12 : Wp (d + 6) 239 53 [some (.ref a0), some (.int a1), some (.int a2)] [.int w11, .int a1] h8 Q := by
        obtain ⟨⟨x14, h13⟩, gh13, H⟩ := Option.bind_eq_some_iff.mp H
        dsimp only at H
        refine wq_callS (as := [.int w11]) (r := [.int a1]) (v1 := (some (.int x14))) xi_239 xi_163 dX12_towers_53 xm_12_139 rfl (Nat.le_of_ble_eq_true rfl) ⟨(Nat.le_of_ble_eq_true rfl), (Nat.le_of_ble_eq_true rfl)⟩ rfl nofun (e_163 (d + 5) _ gh13 ⟨rfl, rfl⟩) ?_
        change Wp _ _ _ _ [.int x14, .int a1] _ _
        refine wp_iadd xi_239 dX12_towers_56 ?_
        refine wp_istore_n [some (.ref a0), some (.int (a1 + x14)), some (.int a2)] xi_239 dX12_towers_57 rfl ?_
        refine wp_iinc (a2 + 1) [some (.ref a0), some (.int (a1 + x14)), some (.int (a2 + 1))] xi_239 dX12_towers_58 rfl rfl rfl ?_
        refine wp_goto 19 xi_239 dX12_towers_61 rfl ?_
        exact Wp.more (by simp [xMore, Value.category]) (ih a0 (a1 + x14) (a2 + 1) h13 _ H KE)
      clear H
      have H := G15
      clear G15
      refine wp_if_ne 52 xi_239 dX12_towers_45 rfl (fun c10 => ?_) (fun c10 => ?_)
      · rw [if_neg c10] at H
        refine wp_iconst 0 xi_239 dX12_towers_52 rfl ?_
        obtain rfl := Option.some.inj H
        exact Wp.more (by simp [xMore, Value.category]) K12
      · rw [if_pos c10] at H
        refine wp_iconst 1 xi_239 dX12_towers_48 rfl ?_
        refine wp_goto 53 xi_239 dX12_towers_49 rfl ?_
        obtain rfl := Option.some.inj H
        exact Wp.more (by simp [xMore, Value.category]) K12
def f_239  (a : Nat) (h : xH) : Option (Int32 × xH) :=
  (pP h a 12 0 (.int 0)).bind fun h1 =>
  (pG (pIs h1 a 12)).bind fun _ =>
  (f_230 a h1).bind fun (x4, h3) =>
  (if x4 = 0 then
  some ((-3), h3)
  else
  (f_239_19 100000 a 0 0 h3).bind fun (w7, h6) =>
  (pP h6 a 12 1 (.int 0)).bind fun h10 =>
  (pG (pIs h10 a 12)).bind fun _ =>
  (f_165 a ((w7 : Int32).toInt64) h10).bind fun h12 =>
  (pFi h12 a 12 37).bind fun x13 =>
  some (x13, h12))
set_option maxHeartbeats 4000000 in
theorem e_239 (d : Nat) (Q : Option Value → xH → Prop)  {h : xH} {a : Nat} {x : Int32} {h1 : xH} (H : f_239  a h = some (x, h1)) (hq : Q (some (.int x)) h1) : Wp (d + 6) 239 0 [some (.ref a), none, none] [] h Q := by
  unfold f_239 at H
  refine wp_aload_n xi_239 dX12_towers_0 rfl ?_
  refine wp_iconst 0 xi_239 dX12_towers_1 rfl ?_
  obtain ⟨h1, gh1, H⟩ := Option.bind_eq_some_iff.mp H
  refine wq_putf xi_239 dX12_towers_2 xf_12_3 (Or.inl rfl) gh1 ?_
  refine wp_aload_n xi_239 dX12_towers_5 rfl ?_
  obtain ⟨u2, gu2, H⟩ := Option.bind_eq_some_iff.mp H
  obtain ⟨⟨x4, h3⟩, gh3, H⟩ := Option.bind_eq_some_iff.mp H
  dsimp only at H
  refine wq_callV (a := a) (as := []) (r := []) (v1 := (some (.int x4))) xi_239 xi_230 dX12_towers_6 xm_12_381 rfl (Nat.le_of_ble_eq_true rfl) (pG_ok gu2) ⟨(Nat.le_of_ble_eq_true rfl), (Nat.le_of_ble_eq_true rfl)⟩ rfl nofun (e_230 d _ gh3 ⟨rfl, rfl⟩) ?_
  change Wp _ _ _ _ [.int x4] _ _
  refine wp_if_ne 15 xi_239 dX12_towers_9 rfl (fun c5 => ?_) (fun c5 => ?_)
  · rw [if_neg c5] at H
    refine wp_iconst 0 xi_239 dX12_towers_15 rfl ?_
    refine wp_istore_n [some (.ref a), some (.int 0), none] xi_239 dX12_towers_16 rfl ?_
    refine wp_iconst 0 xi_239 dX12_towers_17 rfl ?_
    refine wp_istore_n [some (.ref a), some (.int 0), some (.int 0)] xi_239 dX12_towers_18 rfl ?_
    obtain ⟨⟨w7, h6⟩, G8, H⟩ := Option.bind_eq_some_iff.mp H
    dsimp only at H
    refine Wp.more (by simp [xMore, Value.category]) (ef_239_19 d Q  100000 a 0 0 h3 _ G8 (fun z0 z1 e9 => ?_))
    cases e9
    refine wp_aload_n xi_239 dX12_towers_64 rfl ?_
    refine wp_iconst 0 xi_239 dX12_towers_65 rfl ?_
    obtain ⟨h10, gh10, H⟩ := Option.bind_eq_some_iff.mp H
    refine wq_putf xi_239 dX12_towers_66 xf_12_15 (Or.inl rfl) gh10 ?_
    refine wp_aload_n xi_239 dX12_towers_69 rfl ?_
    refine wp_iload_n xi_239 dX12_towers_70 rfl ?_
    refine wp_i2l xi_239 dX12_towers_71 ?_
    obtain ⟨u11, gu11, H⟩ := Option.bind_eq_some_iff.mp H
    obtain ⟨h12, gh12, H⟩ := Option.bind_eq_some_iff.mp H
    refine wq_callV (a := a) (as := [.long ((w7 : Int32).toInt64)]) (r := []) (v1 := none) xi_239 xi_165 dX12_towers_72 xm_12_279 rfl (Nat.le_of_ble_eq_true rfl) (pG_ok gu11) ⟨(Nat.le_of_ble_eq_true rfl), (Nat.le_of_ble_eq_true rfl)⟩ rfl nofun (e_165 (d + 5) _ gh12 ⟨rfl, rfl⟩) ?_
    change Wp _ _ _ _ [] _ _
    refine wp_aload_n xi_239 dX12_towers_75 rfl ?_
    obtain ⟨x13, gx13, H⟩ := Option.bind_eq_some_iff.mp H
    refine wq_getfi xi_239 dX12_towers_76 xf_12_357 gx13 ?_
    obtain ⟨rfl, rfl⟩ := oi2 H
    exact wp_iret xi_239 dX12_towers_79 hq
  · rw [if_pos c5] at H
    refine wp_bipush (-3) xi_239 dX12_towers_12 rfl ?_
    obtain ⟨rfl, rfl⟩ := oi2 H
    exact wp_iret xi_239 dX12_towers_14 hq
/- FelledHasLostModel.free(I)I -/
def f_240_48  : Nat → Nat → Int32 → Int32 → Int32 → xH → Option ((Int32 × xH) ⊕ (Int32 × xH))
  | 0, _, _, _, _, _ => none
  | n + 1, a0, a1, a2, a3, h =>
  (pFi h a0 12 37).bind fun x1 =>
  (if x1 ≤ a2 then
  some (.inl (a2, h))
  else
  (pFr h a0 12 32).bind fun x3 =>
  (pAi h x3 ((54 * a2) + a1)).bind fun x4 =>
  (if (0 : Int32) ≤ x4 then
  f_240_48 n a0 a1 (a2 + 1) a3 h
  else
  (pG (pIs h a0 12)).bind fun _ =>
  (f_241 a0 a2 h).bind fun (x8, h7) =>
  some (.inr (x8, h7))))
theorem ef_240_48 (d : Nat) (Q : Option Value → xH → Prop)  : ∀ (n : Nat) (a0 : Nat) (a1 : Int32) (a2 : Int32) (a3 : Int32) (h : xH) (r : (Int32 × xH) ⊕ (Int32 × xH)), f_240_48 n a0 a1 a2 a3 h = some r → (∀ (w2 : Int32) (h1 : xH), r = .inl (w2, h1) → Wp (d + 5) 240 82 [some (.ref a0), some (.int a1), some (.int w2), some (.int a3)] [] h1 Q) → (∀ (x : Int32) (h1 : xH), r = .inr (x, h1) → Q (some (.int x)) h1) → Wp (d + 5) 240 48 [some (.ref a0), some (.int a1), some (.int a2), some (.int a3)] [] h Q := by
  intro n
  induction n with
  | zero =>
    intro a0 a1 a2 a3 h r H
    cases H
  | succ n ih =>
    intro a0 a1 a2 a3 h r H KE KR
    unfold f_240_48 at H
    refine wp_iload_n xi_240 dX12_free_48 rfl ?_
    refine wp_aload_n xi_240 dX12_free_49 rfl ?_
    obtain ⟨x1, gx1, H⟩ := Option.bind_eq_some_iff.mp H
    refine wq_getfi xi_240 dX12_free_50 xf_12_357 gx1 ?_
    refine wp_icmp_ge 82 xi_240 dX12_free_53 rfl (fun c2 => ?_) (fun c2 => ?_)
    · rw [if_pos c2] at H
      obtain rfl := Option.some.inj H
      exact Wp.more (by simp [xMore, Value.category]) (KE a2 h rfl)
    · rw [if_neg c2] at H
      refine wp_aload_n xi_240 dX12_free_56 rfl ?_
      obtain ⟨x3, gx3, H⟩ := Option.bind_eq_some_iff.mp H
      refine wq_getfr xi_240 dX12_free_57 xf_12_73 gx3 ?_
      refine wp_bipush 54 xi_240 dX12_free_60 rfl ?_
      refine wp_iload_n xi_240 dX12_free_62 rfl ?_
      refine wp_imul xi_240 dX12_free_63 ?_
      refine wp_iload_n xi_240 dX12_free_64 rfl ?_
      refine wp_iadd xi_240 dX12_free_65 ?_
      obtain ⟨x4, gx4, H⟩ := Option.bind_eq_some_iff.mp H
      refine wq_iaload xi_240 dX12_free_66 gx4 ?_
      refine wp_if_ge 76 xi_240 dX12_free_67 rfl (fun c5 => ?_) (fun c5 => ?_)
      · rw [if_pos c5] at H
        refine wp_iinc (a2 + 1) [some (.ref a0), some (.int a1), some (.int (a2 + 1)), some (.int a3)] xi_240 dX12_free_76 rfl rfl rfl ?_
        refine wp_goto 48 xi_240 dX12_free_79 rfl ?_
        exact Wp.more (by simp [xMore, Value.category]) (ih a0 a1 (a2 + 1) a3 h _ H KE KR)
      · rw [if_neg c5] at H
        refine wp_aload_n xi_240 dX12_free_70 rfl ?_
        refine wp_iload_n xi_240 dX12_free_71 rfl ?_
        obtain ⟨u6, gu6, H⟩ := Option.bind_eq_some_iff.mp H
        obtain ⟨⟨x8, h7⟩, gh7, H⟩ := Option.bind_eq_some_iff.mp H
        dsimp only at H
        refine wq_callV (a := a0) (as := [.int a2]) (r := []) (v1 := (some (.int x8))) xi_240 xi_241 dX12_free_72 xm_12_393 rfl (Nat.le_of_ble_eq_true rfl) (pG_ok gu6) ⟨(Nat.le_of_ble_eq_true rfl), (Nat.le_of_ble_eq_true rfl)⟩ rfl nofun (e_241 (d + 3) _ gh7 ⟨rfl, rfl⟩) ?_
        change Wp _ _ _ _ [.int x8] _ _
        obtain rfl := Option.some.inj H
        exact wp_iret xi_240 dX12_free_75 (KR _ _ rfl)
def f_240_40  : Nat → Nat → Int32 → Int32 → Int32 → xH → Option ((xH) ⊕ (Int32 × xH))
  | 0, _, _, _, _, _ => none
  | n + 1, a0, a1, a2, a3, h =>
  (pFi h a0 12 37).bind fun x1 =>
  (if x1 ≤ a3 then
  some (.inl (h))
  else
  (f_240_48 100000 a0 a1 a2 a3 h).bind fun r7 => match r7 with
  | .inl (w4, h3) =>
  (pFi h3 a0 12 38).bind fun x8 =>
  ((if x8 = 0 then
  (pG (pIs h3 a0 12)).bind fun _ =>
  (f_229 a0 a3 h3).bind fun h15 =>
  some (h15)
  else
  some (h3) : Option (xH))).bind fun (h12 : xH) =>
  f_240_40 n a0 a1 w4 (a3 + 1) h12
  | .inr (x17, h18) => some (.inr (x17, h18)))
theorem ef_240_40 (d : Nat) (Q : Option Value → xH → Prop)  : ∀ (n : Nat) (a0 : Nat) (a1 : Int32) (a2 : Int32) (a3 : Int32) (h : xH) (r : (xH) ⊕ (Int32 × xH)), f_240_40 n a0 a1 a2 a3 h = some r → (∀  (h1 : xH), r = .inl h1 → Wp (d + 5) 240 100 [some (.ref a0), none, none, none] [] h1 Q) → (∀ (x : Int32) (h1 : xH), r = .inr (x, h1) → Q (some (.int x)) h1) → Wp (d + 5) 240 40 [some (.ref a0), some (.int a1), some (.int a2), some (.int a3)] [] h Q := by
  intro n
  induction n with
  | zero =>
    intro a0 a1 a2 a3 h r H
    cases H
  | succ n ih =>
    intro a0 a1 a2 a3 h r H KE KR
    unfold f_240_40 at H
    refine wp_iload_n xi_240 dX12_free_40 rfl ?_
    refine wp_aload_n xi_240 dX12_free_41 rfl ?_
    obtain ⟨x1, gx1, H⟩ := Option.bind_eq_some_iff.mp H
    refine wq_getfi xi_240 dX12_free_42 xf_12_357 gx1 ?_
    refine wp_icmp_ge 100 xi_240 dX12_free_45 rfl (fun c2 => ?_) (fun c2 => ?_)
    · rw [if_pos c2] at H
      obtain rfl := Option.some.inj H
      exact Wp.more (by simp [xMore, Value.category]) (KE  h rfl)
    · rw [if_neg c2] at H
      obtain ⟨r7, G5, H⟩ := Option.bind_eq_some_iff.mp H
      refine Wp.more (by simp [xMore, Value.category]) (ef_240_48 d Q  100000 a0 a1 a2 a3 h _ G5 (fun z0 z1 e9 => ?_) (fun x1 h1 e9 => ?_))
      · subst e9
        dsimp only at H
        obtain ⟨w4, rfl⟩ : ∃ z, z = z0 := ⟨_, rfl⟩; obtain ⟨h3, rfl⟩ : ∃ z, z = z1 := ⟨_, rfl⟩
        refine wp_aload_n xi_240 dX12_free_82 rfl ?_
        obtain ⟨x8, gx8, H⟩ := Option.bind_eq_some_iff.mp H
        refine wq_getfi xi_240 dX12_free_83 xf_12_360 gx8 ?_
        obtain ⟨h12, G16, H⟩ := Option.bind_eq_some_iff.mp H
        have K13 : Wp (d + 5) 240 94 [some (.ref a0), some (.int a1), some (.int w4), some (.int a3)] [] h12 Q := by
          refine wp_iinc (a3 + 1) [some (.ref a0), some (.int a1), some (.int w4), some (.int (a3 + 1))] xi_240 dX12_free_94 rfl rfl rfl ?_
          refine wp_goto 40 xi_240 dX12_free_97 rfl ?_
          exact Wp.more (by simp [xMore, Value.category]) (ih a0 a1 w4 (a3 + 1) h12 _ H KE KR)
        clear H
        have H := G16
        clear G16
        refine wp_if_ne 94 xi_240 dX12_free_86 rfl (fun c9 => ?_) (fun c9 => ?_)
        · rw [if_neg c9] at H
          obtain rfl := Option.some.inj H
          exact Wp.more (by simp [xMore, Value.category]) K13
        · rw [if_pos c9] at H
          refine wp_aload_n xi_240 dX12_free_89 rfl ?_
          refine wp_iload_n xi_240 dX12_free_90 rfl ?_
          obtain ⟨u14, gu14, H⟩ := Option.bind_eq_some_iff.mp H
          obtain ⟨h15, gh15, H⟩ := Option.bind_eq_some_iff.mp H
          refine wq_callV (a := a0) (as := [.int a3]) (r := []) (v1 := none) xi_240 xi_229 dX12_free_91 xm_12_375 rfl (Nat.le_of_ble_eq_true rfl) (pG_ok gu14) ⟨(Nat.le_of_ble_eq_true rfl), (Nat.le_of_ble_eq_true rfl)⟩ rfl nofun (e_229 d _ gh15 ⟨rfl, rfl⟩) ?_
          change Wp _ _ _ _ [] _ _
          obtain rfl := Option.some.inj H
          exact Wp.more (by simp [xMore, Value.category]) K13
      · subst e9
        dsimp only at H
        obtain rfl := Option.some.inj H
        exact KR _ _ rfl
def f_240  (a : Nat) (p0 : Int32) (h : xH) : Option (Int32 × xH) :=
  (pP h a 12 0 (.int 0)).bind fun h1 =>
  (f_162 ((p0 : Int32).toInt64) (0 : Int64) (47 : Int64) h1).bind fun (x3, h2) =>
  (if x3 = 0 then
  some ((-1), h2)
  else
  (pDiv p0 3).bind fun x5 =>
  (pFr h2 a 12 3).bind fun x6 =>
  (pAi h2 x6 48).bind fun x7 =>
  (if x5 < x7 then
  (pG (pIs h2 a 12)).bind fun _ =>
  (f_228 a h2).bind fun h10 =>
  (f_240_40 100000 a p0 0 0 h10).bind fun r14 => match r14 with
  | .inl h11 =>
  (pFi h11 a 12 38).bind fun x15 =>
  ((if x15 = 0 then
  some ((-2))
  else
  some ((-3)) : Option (Int32))).bind fun (w17 : Int32) =>
  some (w17, h11)
  | .inr (x20, h21) => some (x20, h21)
  else
  some ((-1), h2)))
set_option maxHeartbeats 4000000 in
theorem e_240 (d : Nat) (Q : Option Value → xH → Prop)  {h : xH} {a : Nat} {p0 : Int32} {x : Int32} {h1 : xH} (H : f_240  a p0 h = some (x, h1)) (hq : Q (some (.int x)) h1) : Wp (d + 5) 240 0 [some (.ref a), some (.int p0), none, none] [] h Q := by
  unfold f_240 at H
  refine wp_aload_n xi_240 dX12_free_0 rfl ?_
  refine wp_iconst 0 xi_240 dX12_free_1 rfl ?_
  obtain ⟨h1, gh1, H⟩ := Option.bind_eq_some_iff.mp H
  refine wq_putf xi_240 dX12_free_2 xf_12_3 (Or.inl rfl) gh1 ?_
  refine wp_iload_n xi_240 dX12_free_5 rfl ?_
  refine wp_i2l xi_240 dX12_free_6 ?_
  refine wp_lconst 0 xi_240 dX12_free_7 rfl ?_
  refine wp_ldc2 xi_240 dX12_free_8 xl_12_133 ?_
  obtain ⟨⟨x3, h2⟩, gh2, H⟩ := Option.bind_eq_some_iff.mp H
  dsimp only at H
  refine wq_callS (as := [.long ((p0 : Int32).toInt64), .long (0 : Int64), .long (47 : Int64)]) (r := []) (v1 := (some (.int x3))) xi_240 xi_162 dX12_free_11 xm_12_135 rfl (Nat.le_of_ble_eq_true rfl) ⟨(Nat.le_of_ble_eq_true rfl), (Nat.le_of_ble_eq_true rfl)⟩ rfl nofun (e_162 (d + 4) _ gh2 ⟨rfl, rfl⟩) ?_
  change Wp _ _ _ _ [.int x3] _ _
  refine wp_if_eq 30 xi_240 dX12_free_14 rfl (fun c4 => ?_) (fun c4 => ?_)
  · rw [if_pos c4] at H
    refine wp_iconst (-1) xi_240 dX12_free_30 rfl ?_
    obtain ⟨rfl, rfl⟩ := oi2 H
    exact wp_iret xi_240 dX12_free_31 hq
  · rw [if_neg c4] at H
    refine wp_iload_n xi_240 dX12_free_17 rfl ?_
    refine wp_iconst 3 xi_240 dX12_free_18 rfl ?_
    obtain ⟨x5, gx5, H⟩ := Option.bind_eq_some_iff.mp H
    refine wq_idiv xi_240 dX12_free_19 gx5 ?_
    refine wp_aload_n xi_240 dX12_free_20 rfl ?_
    obtain ⟨x6, gx6, H⟩ := Option.bind_eq_some_iff.mp H
    refine wq_getfr xi_240 dX12_free_21 xf_12_24 gx6 ?_
    refine wp_bipush 48 xi_240 dX12_free_24 rfl ?_
    obtain ⟨x7, gx7, H⟩ := Option.bind_eq_some_iff.mp H
    refine wq_iaload xi_240 dX12_free_26 gx7 ?_
    refine wp_icmp_lt 32 xi_240 dX12_free_27 rfl (fun c8 => ?_) (fun c8 => ?_)
    · rw [if_pos c8] at H
      refine wp_aload_n xi_240 dX12_free_32 rfl ?_
      obtain ⟨u9, gu9, H⟩ := Option.bind_eq_some_iff.mp H
      obtain ⟨h10, gh10, H⟩ := Option.bind_eq_some_iff.mp H
      refine wq_callV (a := a) (as := []) (r := []) (v1 := none) xi_240 xi_228 dX12_free_33 xm_12_372 rfl (Nat.le_of_ble_eq_true rfl) (pG_ok gu9) ⟨(Nat.le_of_ble_eq_true rfl), (Nat.le_of_ble_eq_true rfl)⟩ rfl nofun (e_228 (d + 1) _ gh10 ⟨rfl, rfl⟩) ?_
      change Wp _ _ _ _ [] _ _
      refine wp_iconst 0 xi_240 dX12_free_36 rfl ?_
      refine wp_istore_n [some (.ref a), some (.int p0), some (.int 0), none] xi_240 dX12_free_37 rfl ?_
      refine wp_iconst 0 xi_240 dX12_free_38 rfl ?_
      refine wp_istore_n [some (.ref a), some (.int p0), some (.int 0), some (.int 0)] xi_240 dX12_free_39 rfl ?_
      obtain ⟨r14, G12, H⟩ := Option.bind_eq_some_iff.mp H
      refine Wp.more (by simp [xMore, Value.category]) (ef_240_40 d Q  100000 a p0 0 0 h10 _ G12 (fun z0 e9 => ?_) (fun x1 h1 e9 => ?_))
      · subst e9
        dsimp only at H
        obtain ⟨h11, rfl⟩ : ∃ z, z = z0 := ⟨_, rfl⟩
        refine wp_aload_n xi_240 dX12_free_100 rfl ?_
        obtain ⟨x15, gx15, H⟩ := Option.bind_eq_some_iff.mp H
        refine wq_getfi xi_240 dX12_free_101 xf_12_360 gx15 ?_
        obtain ⟨w17, G19, H⟩ := Option.bind_eq_some_iff.mp H
        have K18 : Wp (d + 5) 240 114 [some (.ref a), none, none, none] [.int w17] h11 Q := by
          obtain ⟨rfl, rfl⟩ := oi2 H
          exact wp_iret xi_240 dX12_free_114 hq
        clear H
        have H := G19
        clear G19
        refine wp_if_eq 112 xi_240 dX12_free_104 rfl (fun c16 => ?_) (fun c16 => ?_)
        · rw [if_pos c16] at H
          refine wp_bipush (-2) xi_240 dX12_free_112 rfl ?_
          obtain rfl := Option.some.inj H
          exact Wp.more (by simp [xMore, Value.category]) K18
        · rw [if_neg c16] at H
          refine wp_bipush (-3) xi_240 dX12_free_107 rfl ?_
          refine wp_goto 114 xi_240 dX12_free_109 rfl ?_
          obtain rfl := Option.some.inj H
          exact Wp.more (by simp [xMore, Value.category]) K18
      · subst e9
        dsimp only at H
        obtain ⟨rfl, rfl⟩ := oi2 H
        exact hq
    · rw [if_neg c8] at H
      refine wp_iconst (-1) xi_240 dX12_free_30 rfl ?_
      obtain ⟨rfl, rfl⟩ := oi2 H
      exact wp_iret xi_240 dX12_free_31 hq
/- FelledHasLostModel.laysRows(I)V -/
def f_250_65  : Nat → Nat → Int32 → Int32 → Int32 → Int32 → Int32 → xH → Option (xH)
  | 0, _, _, _, _, _, _, _ => none
  | n + 1, a0, a1, a2, a3, a4, a5, h =>
  (pG (pIs h a0 12)).bind fun _ =>
  (f_252 a0 (a2 + 2) h).bind fun (x3, h2) =>
  (if x3 < a5 then
  some (h2)
  else
  (pFr h2 a0 12 4).bind fun x5 =>
  (pSi h2 x5 a2 a3).bind fun h6 =>
  (pFr h6 a0 12 4).bind fun x7 =>
  (pSi h6 x7 (a2 + 1) a4).bind fun h8 =>
  (pFr h8 a0 12 4).bind fun x9 =>
  (pSi h8 x9 (a2 + 2) a5).bind fun h10 =>
  (pFr h10 a0 12 4).bind fun x11 =>
  (pG (pIs h10 a0 12)).bind fun _ =>
  (f_249 a0 x11 a1 h10).bind fun (x14, h13) =>
  ((if x14 = 0 then
  some (h13)
  else
  (pFr h13 a0 12 49).bind fun x23 =>
  (pFi h13 a0 12 50).bind fun x24 =>
  (pSi h13 x23 x24 (((100 * (pMax 0 a3)) + (10 * (pMax 0 a4))) + (pMax 0 a5))).bind fun h25 =>
  (pFi h25 a0 12 50).bind fun x26 =>
  (pP h25 a0 12 50 (.int (x26 + 1))).bind fun h27 =>
  some (h27) : Option (xH))).bind fun (h21 : xH) =>
  f_250_65 n a0 a1 a2 a3 a4 (a5 + 1) h21)
theorem ef_250_65 (d : Nat) (Q : Option Value → xH → Prop)  : ∀ (n : Nat) (a0 : Nat) (a1 : Int32) (a2 : Int32) (a3 : Int32) (a4 : Int32) (a5 : Int32) (h : xH) (r : xH), f_250_65 n a0 a1 a2 a3 a4 a5 h = some r → (∀  (h1 : xH), r = h1 → Wp (d + 2) 250 166 [some (.ref a0), some (.int a1), some (.int a2), some (.int a3), some (.int a4), none] [] h1 Q) → Wp (d + 2) 250 65 [some (.ref a0), some (.int a1), some (.int a2), some (.int a3), some (.int a4), some (.int a5)] [] h Q := by
  intro n
  induction n with
  | zero =>
    intro a0 a1 a2 a3 a4 a5 h r H
    cases H
  | succ n ih =>
    intro a0 a1 a2 a3 a4 a5 h r H KE
    unfold f_250_65 at H
    refine wp_iload xi_250 dX12_laysRows_65 rfl ?_
    refine wp_aload_n xi_250 dX12_laysRows_67 rfl ?_
    refine wp_iload_n xi_250 dX12_laysRows_68 rfl ?_
    refine wp_iconst 2 xi_250 dX12_laysRows_69 rfl ?_
    refine wp_iadd xi_250 dX12_laysRows_70 ?_
    obtain ⟨u1, gu1, H⟩ := Option.bind_eq_some_iff.mp H
    obtain ⟨⟨x3, h2⟩, gh2, H⟩ := Option.bind_eq_some_iff.mp H
    dsimp only at H
    refine wq_callV (a := a0) (as := [.int (a2 + 2)]) (r := [.int a5]) (v1 := (some (.int x3))) xi_250 xi_252 dX12_laysRows_71 xm_12_412 rfl (Nat.le_of_ble_eq_true rfl) (pG_ok gu1) ⟨(Nat.le_of_ble_eq_true rfl), (Nat.le_of_ble_eq_true rfl)⟩ rfl nofun (e_252 (d + 1) _ gh2 ⟨rfl, rfl⟩) ?_
    change Wp _ _ _ _ [.int x3, .int a5] _ _
    refine wp_icmp_gt 166 xi_250 dX12_laysRows_74 rfl (fun c4 => ?_) (fun c4 => ?_)
    · rw [if_pos c4] at H
      obtain rfl := Option.some.inj H
      exact Wp.more (by simp [xMore, Value.category]) (KE  h2 rfl)
    · rw [if_neg c4] at H
      refine wp_aload_n xi_250 dX12_laysRows_77 rfl ?_
      obtain ⟨x5, gx5, H⟩ := Option.bind_eq_some_iff.mp H
      refine wq_getfr xi_250 dX12_laysRows_78 xf_12_28 gx5 ?_
      refine wp_iload_n xi_250 dX12_laysRows_81 rfl ?_
      refine wp_iload_n xi_250 dX12_laysRows_82 rfl ?_
      obtain ⟨h6, gh6, H⟩ := Option.bind_eq_some_iff.mp H
      refine wq_iastore xi_250 dX12_laysRows_83 gh6 ?_
      refine wp_aload_n xi_250 dX12_laysRows_84 rfl ?_
      obtain ⟨x7, gx7, H⟩ := Option.bind_eq_some_iff.mp H
      refine wq_getfr xi_250 dX12_laysRows_85 xf_12_28 gx7 ?_
      refine wp_iload_n xi_250 dX12_laysRows_88 rfl ?_
      refine wp_iconst 1 xi_250 dX12_laysRows_89 rfl ?_
      refine wp_iadd xi_250 dX12_laysRows_90 ?_
      refine wp_iload xi_250 dX12_laysRows_91 rfl ?_
      obtain ⟨h8, gh8, H⟩ := Option.bind_eq_some_iff.mp H
      refine wq_iastore xi_250 dX12_laysRows_93 gh8 ?_
      refine wp_aload_n xi_250 dX12_laysRows_94 rfl ?_
      obtain ⟨x9, gx9, H⟩ := Option.bind_eq_some_iff.mp H
      refine wq_getfr xi_250 dX12_laysRows_95 xf_12_28 gx9 ?_
      refine wp_iload_n xi_250 dX12_laysRows_98 rfl ?_
      refine wp_iconst 2 xi_250 dX12_laysRows_99 rfl ?_
      refine wp_iadd xi_250 dX12_laysRows_100 ?_
      refine wp_iload xi_250 dX12_laysRows_101 rfl ?_
      obtain ⟨h10, gh10, H⟩ := Option.bind_eq_some_iff.mp H
      refine wq_iastore xi_250 dX12_laysRows_103 gh10 ?_
      refine wp_aload_n xi_250 dX12_laysRows_104 rfl ?_
      refine wp_aload_n xi_250 dX12_laysRows_105 rfl ?_
      obtain ⟨x11, gx11, H⟩ := Option.bind_eq_some_iff.mp H
      refine wq_getfr xi_250 dX12_laysRows_106 xf_12_28 gx11 ?_
      refine wp_iload_n xi_250 dX12_laysRows_109 rfl ?_
      obtain ⟨u12, gu12, H⟩ := Option.bind_eq_some_iff.mp H
      obtain ⟨⟨x14, h13⟩, gh13, H⟩ := Option.bind_eq_some_iff.mp H
      dsimp only at H
      refine wq_callV (a := a0) (as := [.ref x11, .int a1]) (r := []) (v1 := (some (.int x14))) xi_250 xi_249 dX12_laysRows_110 xm_12_415 rfl (Nat.le_of_ble_eq_true rfl) (pG_ok gu12) ⟨(Nat.le_of_ble_eq_true rfl), (Nat.le_of_ble_eq_true rfl)⟩ rfl nofun (e_249 d _ gh13 ⟨rfl, rfl⟩) ?_
      change Wp _ _ _ _ [.int x14] _ _
      obtain ⟨h21, G28, H⟩ := Option.bind_eq_some_iff.mp H
      have K22 : Wp (d + 2) 250 160 [some (.ref a0), some (.int a1), some (.int a2), some (.int a3), some (.int a4), some (.int a5)] [] h21 Q := by
        refine wp_iinc (a5 + 1) [some (.ref a0), some (.int a1), some (.int a2), some (.int a3), some (.int a4), some (.int (a5 + 1))] xi_250 dX12_laysRows_160 rfl rfl rfl ?_
        refine wp_goto 65 xi_250 dX12_laysRows_163 rfl ?_
        exact Wp.more (by simp [xMore, Value.category]) (ih a0 a1 a2 a3 a4 (a5 + 1) h21 _ H KE)
      clear H
      have H := G28
      clear G28
      refine wp_if_eq 160 xi_250 dX12_laysRows_113 rfl (fun c15 => ?_) (fun c15 => ?_)
      · rw [if_pos c15] at H
        obtain rfl := Option.some.inj H
        exact Wp.more (by simp [xMore, Value.category]) K22
      · rw [if_neg c15] at H
        refine wp_aload_n xi_250 dX12_laysRows_116 rfl ?_
        obtain ⟨x23, gx23, H⟩ := Option.bind_eq_some_iff.mp H
        refine wq_getfr xi_250 dX12_laysRows_117 xf_12_115 gx23 ?_
        refine wp_aload_n xi_250 dX12_laysRows_120 rfl ?_
        obtain ⟨x24, gx24, H⟩ := Option.bind_eq_some_iff.mp H
        refine wq_getfi xi_250 dX12_laysRows_121 xf_12_406 gx24 ?_
        refine wp_bipush 100 xi_250 dX12_laysRows_124 rfl ?_
        refine wp_iconst 0 xi_250 dX12_laysRows_126 rfl ?_
        refine wp_iload_n xi_250 dX12_laysRows_127 rfl ?_
        refine wq_max xi_250 dX12_laysRows_128 xm_12_224 (Nat.le_of_ble_eq_true rfl) ?_
        refine wp_imul xi_250 dX12_laysRows_131 ?_
        refine wp_bipush 10 xi_250 dX12_laysRows_132 rfl ?_
        refine wp_iconst 0 xi_250 dX12_laysRows_134 rfl ?_
        refine wp_iload xi_250 dX12_laysRows_135 rfl ?_
        refine wq_max xi_250 dX12_laysRows_137 xm_12_224 (Nat.le_of_ble_eq_true rfl) ?_
        refine wp_imul xi_250 dX12_laysRows_140 ?_
        refine wp_iadd xi_250 dX12_laysRows_141 ?_
        refine wp_iconst 0 xi_250 dX12_laysRows_142 rfl ?_
        refine wp_iload xi_250 dX12_laysRows_143 rfl ?_
        refine wq_max xi_250 dX12_laysRows_145 xm_12_224 (Nat.le_of_ble_eq_true rfl) ?_
        refine wp_iadd xi_250 dX12_laysRows_148 ?_
        obtain ⟨h25, gh25, H⟩ := Option.bind_eq_some_iff.mp H
        refine wq_iastore xi_250 dX12_laysRows_149 gh25 ?_
        refine wp_aload_n xi_250 dX12_laysRows_150 rfl ?_
        refine wp_dup xi_250 dX12_laysRows_151 rfl ?_
        obtain ⟨x26, gx26, H⟩ := Option.bind_eq_some_iff.mp H
        refine wq_getfi xi_250 dX12_laysRows_152 xf_12_406 gx26 ?_
        refine wp_iconst 1 xi_250 dX12_laysRows_155 rfl ?_
        refine wp_iadd xi_250 dX12_laysRows_156 ?_
        obtain ⟨h27, gh27, H⟩ := Option.bind_eq_some_iff.mp H
        refine wq_putf xi_250 dX12_laysRows_157 xf_12_406 (Or.inl rfl) gh27 ?_
        obtain rfl := Option.some.inj H
        exact Wp.more (by simp [xMore, Value.category]) K22
def f_250_44  : Nat → Nat → Int32 → Int32 → Int32 → Int32 → xH → Option (xH)
  | 0, _, _, _, _, _, _ => none
  | n + 1, a0, a1, a2, a3, a4, h =>
  (pG (pIs h a0 12)).bind fun _ =>
  (f_252 a0 (a2 + 1) h).bind fun (x3, h2) =>
  (if x3 < a4 then
  some (h2)
  else
  (pG (pIs h2 a0 12)).bind fun _ =>
  (f_251 a0 (a2 + 2) h2).bind fun (x7, h6) =>
  (f_250_65 100000 a0 a1 a2 a3 a4 x7 h6).bind fun h8 =>
  f_250_44 n a0 a1 a2 a3 (a4 + 1) h8)
theorem ef_250_44 (d : Nat) (Q : Option Value → xH → Prop)  : ∀ (n : Nat) (a0 : Nat) (a1 : Int32) (a2 : Int32) (a3 : Int32) (a4 : Int32) (h : xH) (r : xH), f_250_44 n a0 a1 a2 a3 a4 h = some r → (∀  (h1 : xH), r = h1 → Wp (d + 2) 250 172 [some (.ref a0), some (.int a1), some (.int a2), some (.int a3), none, none] [] h1 Q) → Wp (d + 2) 250 44 [some (.ref a0), some (.int a1), some (.int a2), some (.int a3), some (.int a4), none] [] h Q := by
  intro n
  induction n with
  | zero =>
    intro a0 a1 a2 a3 a4 h r H
    cases H
  | succ n ih =>
    intro a0 a1 a2 a3 a4 h r H KE
    unfold f_250_44 at H
    refine wp_iload xi_250 dX12_laysRows_44 rfl ?_
    refine wp_aload_n xi_250 dX12_laysRows_46 rfl ?_
    refine wp_iload_n xi_250 dX12_laysRows_47 rfl ?_
    refine wp_iconst 1 xi_250 dX12_laysRows_48 rfl ?_
    refine wp_iadd xi_250 dX12_laysRows_49 ?_
    obtain ⟨u1, gu1, H⟩ := Option.bind_eq_some_iff.mp H
    obtain ⟨⟨x3, h2⟩, gh2, H⟩ := Option.bind_eq_some_iff.mp H
    dsimp only at H
    refine wq_callV (a := a0) (as := [.int (a2 + 1)]) (r := [.int a4]) (v1 := (some (.int x3))) xi_250 xi_252 dX12_laysRows_50 xm_12_412 rfl (Nat.le_of_ble_eq_true rfl) (pG_ok gu1) ⟨(Nat.le_of_ble_eq_true rfl), (Nat.le_of_ble_eq_true rfl)⟩ rfl nofun (e_252 (d + 1) _ gh2 ⟨rfl, rfl⟩) ?_
    change Wp _ _ _ _ [.int x3, .int a4] _ _
    refine wp_icmp_gt 172 xi_250 dX12_laysRows_53 rfl (fun c4 => ?_) (fun c4 => ?_)
    · rw [if_pos c4] at H
      obtain rfl := Option.some.inj H
      exact Wp.more (by simp [xMore, Value.category]) (KE  h2 rfl)
    · rw [if_neg c4] at H
      refine wp_aload_n xi_250 dX12_laysRows_56 rfl ?_
      refine wp_iload_n xi_250 dX12_laysRows_57 rfl ?_
      refine wp_iconst 2 xi_250 dX12_laysRows_58 rfl ?_
      refine wp_iadd xi_250 dX12_laysRows_59 ?_
      obtain ⟨u5, gu5, H⟩ := Option.bind_eq_some_iff.mp H
      obtain ⟨⟨x7, h6⟩, gh6, H⟩ := Option.bind_eq_some_iff.mp H
      dsimp only at H
      refine wq_callV (a := a0) (as := [.int (a2 + 2)]) (r := []) (v1 := (some (.int x7))) xi_250 xi_251 dX12_laysRows_60 xm_12_409 rfl (Nat.le_of_ble_eq_true rfl) (pG_ok gu5) ⟨(Nat.le_of_ble_eq_true rfl), (Nat.le_of_ble_eq_true rfl)⟩ rfl nofun (e_251 (d + 1) _ gh6 ⟨rfl, rfl⟩) ?_
      change Wp _ _ _ _ [.int x7] _ _
      refine wp_istore [some (.ref a0), some (.int a1), some (.int a2), some (.int a3), some (.int a4), some (.int x7)] xi_250 dX12_laysRows_63 rfl ?_
      obtain ⟨h8, G9, H⟩ := Option.bind_eq_some_iff.mp H
      refine Wp.more (by simp [xMore, Value.category]) (ef_250_65 d Q  100000 a0 a1 a2 a3 a4 x7 h6 _ G9 (fun z0 e9 => ?_))
      cases e9
      refine wp_iinc (a4 + 1) [some (.ref a0), some (.int a1), some (.int a2), some (.int a3), some (.int (a4 + 1)), none] xi_250 dX12_laysRows_166 rfl rfl rfl ?_
      refine wp_goto 44 xi_250 dX12_laysRows_169 rfl ?_
      exact Wp.more (by simp [xMore, Value.category]) (ih a0 a1 a2 a3 (a4 + 1) h8 _ H KE)
def f_250_26  : Nat → Nat → Int32 → Int32 → Int32 → xH → Option (xH)
  | 0, _, _, _, _, _ => none
  | n + 1, a0, a1, a2, a3, h =>
  (pG (pIs h a0 12)).bind fun _ =>
  (f_252 a0 a2 h).bind fun (x3, h2) =>
  (if x3 < a3 then
  some (h2)
  else
  (pG (pIs h2 a0 12)).bind fun _ =>
  (f_251 a0 (a2 + 1) h2).bind fun (x7, h6) =>
  (f_250_44 100000 a0 a1 a2 a3 x7 h6).bind fun h8 =>
  f_250_26 n a0 a1 a2 (a3 + 1) h8)
theorem ef_250_26 (d : Nat) (Q : Option Value → xH → Prop)  : ∀ (n : Nat) (a0 : Nat) (a1 : Int32) (a2 : Int32) (a3 : Int32) (h : xH) (r : xH), f_250_26 n a0 a1 a2 a3 h = some r → (∀  (h1 : xH), r = h1 → Wp (d + 2) 250 178 [none, none, none, none, none, none] [] h1 Q) → Wp (d + 2) 250 26 [some (.ref a0), some (.int a1), some (.int a2), some (.int a3), none, none] [] h Q := by
  intro n
  induction n with
  | zero =>
    intro a0 a1 a2 a3 h r H
    cases H
  | succ n ih =>
    intro a0 a1 a2 a3 h r H KE
    unfold f_250_26 at H
    refine wp_iload_n xi_250 dX12_laysRows_26 rfl ?_
    refine wp_aload_n xi_250 dX12_laysRows_27 rfl ?_
    refine wp_iload_n xi_250 dX12_laysRows_28 rfl ?_
    obtain ⟨u1, gu1, H⟩ := Option.bind_eq_some_iff.mp H
    obtain ⟨⟨x3, h2⟩, gh2, H⟩ := Option.bind_eq_some_iff.mp H
    dsimp only at H
    refine wq_callV (a := a0) (as := [.int a2]) (r := [.int a3]) (v1 := (some (.int x3))) xi_250 xi_252 dX12_laysRows_29 xm_12_412 rfl (Nat.le_of_ble_eq_true rfl) (pG_ok gu1) ⟨(Nat.le_of_ble_eq_true rfl), (Nat.le_of_ble_eq_true rfl)⟩ rfl nofun (e_252 (d + 1) _ gh2 ⟨rfl, rfl⟩) ?_
    change Wp _ _ _ _ [.int x3, .int a3] _ _
    refine wp_icmp_gt 178 xi_250 dX12_laysRows_32 rfl (fun c4 => ?_) (fun c4 => ?_)
    · rw [if_pos c4] at H
      obtain rfl := Option.some.inj H
      exact Wp.more (by simp [xMore, Value.category]) (KE  h2 rfl)
    · rw [if_neg c4] at H
      refine wp_aload_n xi_250 dX12_laysRows_35 rfl ?_
      refine wp_iload_n xi_250 dX12_laysRows_36 rfl ?_
      refine wp_iconst 1 xi_250 dX12_laysRows_37 rfl ?_
      refine wp_iadd xi_250 dX12_laysRows_38 ?_
      obtain ⟨u5, gu5, H⟩ := Option.bind_eq_some_iff.mp H
      obtain ⟨⟨x7, h6⟩, gh6, H⟩ := Option.bind_eq_some_iff.mp H
      dsimp only at H
      refine wq_callV (a := a0) (as := [.int (a2 + 1)]) (r := []) (v1 := (some (.int x7))) xi_250 xi_251 dX12_laysRows_39 xm_12_409 rfl (Nat.le_of_ble_eq_true rfl) (pG_ok gu5) ⟨(Nat.le_of_ble_eq_true rfl), (Nat.le_of_ble_eq_true rfl)⟩ rfl nofun (e_251 (d + 1) _ gh6 ⟨rfl, rfl⟩) ?_
      change Wp _ _ _ _ [.int x7] _ _
      refine wp_istore [some (.ref a0), some (.int a1), some (.int a2), some (.int a3), some (.int x7), none] xi_250 dX12_laysRows_42 rfl ?_
      obtain ⟨h8, G9, H⟩ := Option.bind_eq_some_iff.mp H
      refine Wp.more (by simp [xMore, Value.category]) (ef_250_44 d Q  100000 a0 a1 a2 a3 x7 h6 _ G9 (fun z0 e9 => ?_))
      cases e9
      refine wp_iinc (a3 + 1) [some (.ref a0), some (.int a1), some (.int a2), some (.int (a3 + 1)), none, none] xi_250 dX12_laysRows_172 rfl rfl rfl ?_
      refine wp_goto 26 xi_250 dX12_laysRows_175 rfl ?_
      exact Wp.more (by simp [xMore, Value.category]) (ih a0 a1 a2 (a3 + 1) h8 _ H KE)
def f_250  (a : Nat) (p0 : Int32) (h : xH) : Option (xH) :=
  (pP h a 12 50 (.int 0)).bind fun h1 =>
  (pFr h1 a 12 3).bind fun x2 =>
  (pFr h1 a 12 4).bind fun x3 =>
  (f_168 x2 x3 h1).bind fun h4 =>
  (pG (pIs h4 a 12)).bind fun _ =>
  (f_251 a (3 * p0) h4).bind fun (x7, h6) =>
  (f_250_26 100000 a p0 (3 * p0) x7 h6).bind fun h8 =>
  some h8
set_option maxHeartbeats 4000000 in
theorem e_250 (d : Nat) (Q : Option Value → xH → Prop)  {h : xH} {a : Nat} {p0 : Int32} {h1 : xH} (H : f_250  a p0 h = some h1) (hq : Q none h1) : Wp (d + 2) 250 0 [some (.ref a), some (.int p0), none, none, none, none] [] h Q := by
  unfold f_250 at H
  refine wp_aload_n xi_250 dX12_laysRows_0 rfl ?_
  refine wp_iconst 0 xi_250 dX12_laysRows_1 rfl ?_
  obtain ⟨h1, gh1, H⟩ := Option.bind_eq_some_iff.mp H
  refine wq_putf xi_250 dX12_laysRows_2 xf_12_406 (Or.inl rfl) gh1 ?_
  refine wp_aload_n xi_250 dX12_laysRows_5 rfl ?_
  obtain ⟨x2, gx2, H⟩ := Option.bind_eq_some_iff.mp H
  refine wq_getfr xi_250 dX12_laysRows_6 xf_12_24 gx2 ?_
  refine wp_aload_n xi_250 dX12_laysRows_9 rfl ?_
  obtain ⟨x3, gx3, H⟩ := Option.bind_eq_some_iff.mp H
  refine wq_getfr xi_250 dX12_laysRows_10 xf_12_28 gx3 ?_
  obtain ⟨h4, gh4, H⟩ := Option.bind_eq_some_iff.mp H
  refine wq_callS (as := [.ref x2, .ref x3]) (r := []) (v1 := none) xi_250 xi_168 dX12_laysRows_13 xm_12_259 rfl (Nat.le_of_ble_eq_true rfl) ⟨(Nat.le_of_ble_eq_true rfl), (Nat.le_of_ble_eq_true rfl)⟩ rfl nofun (e_168 (d + 1) _ gh4 ⟨rfl, rfl⟩) ?_
  change Wp _ _ _ _ [] _ _
  refine wp_iconst 3 xi_250 dX12_laysRows_16 rfl ?_
  refine wp_iload_n xi_250 dX12_laysRows_17 rfl ?_
  refine wp_imul xi_250 dX12_laysRows_18 ?_
  refine wp_istore_n [some (.ref a), some (.int p0), some (.int (3 * p0)), none, none, none] xi_250 dX12_laysRows_19 rfl ?_
  refine wp_aload_n xi_250 dX12_laysRows_20 rfl ?_
  refine wp_iload_n xi_250 dX12_laysRows_21 rfl ?_
  obtain ⟨u5, gu5, H⟩ := Option.bind_eq_some_iff.mp H
  obtain ⟨⟨x7, h6⟩, gh6, H⟩ := Option.bind_eq_some_iff.mp H
  dsimp only at H
  refine wq_callV (a := a) (as := [.int (3 * p0)]) (r := []) (v1 := (some (.int x7))) xi_250 xi_251 dX12_laysRows_22 xm_12_409 rfl (Nat.le_of_ble_eq_true rfl) (pG_ok gu5) ⟨(Nat.le_of_ble_eq_true rfl), (Nat.le_of_ble_eq_true rfl)⟩ rfl nofun (e_251 (d + 1) _ gh6 ⟨rfl, rfl⟩) ?_
  change Wp _ _ _ _ [.int x7] _ _
  refine wp_istore_n [some (.ref a), some (.int p0), some (.int (3 * p0)), some (.int x7), none, none] xi_250 dX12_laysRows_25 rfl ?_
  obtain ⟨h8, G9, H⟩ := Option.bind_eq_some_iff.mp H
  refine Wp.more (by simp [xMore, Value.category]) (ef_250_26 d Q  100000 a p0 (3 * p0) x7 h6 _ G9 (fun z0 e9 => ?_))
  cases e9
  obtain rfl := Option.some.inj H
  exact wp_vret xi_250 dX12_laysRows_178 hq
/- FelledHasLostModel.fits(I)I -/
def f_255  (a : Nat) (p0 : Int32) (h : xH) : Option (Int32 × xH) :=
  (pP h a 12 0 (.int 0)).bind fun h1 =>
  (pG (pIs h1 a 12)).bind fun _ =>
  (f_190 a p0 h1).bind fun (x4, h3) =>
  (if x4 = 0 then
  some ((-1), h3)
  else
  (pG (pIs h3 a 12)).bind fun _ =>
  (f_250 a p0 h3).bind fun h7 =>
  (pP h7 a 12 1 (.int 0)).bind fun h8 =>
  (pFi h8 a 12 50).bind fun x9 =>
  ((if x9 ≤ 0 then
  some (h8)
  else
  (pFr h8 a 12 49).bind fun x22 =>
  (pAi h8 x22 0).bind fun x23 =>
  (pG (pIs h8 a 12)).bind fun _ =>
  (f_254 a p0 x23 h8).bind fun h25 =>
  (pFr h25 a 12 49).bind fun x26 =>
  (pFi h25 a 12 50).bind fun x27 =>
  (pAi h25 x26 (x27 - 1)).bind fun x28 =>
  (pG (pIs h25 a 12)).bind fun _ =>
  (f_254 a p0 x28 h25).bind fun h30 =>
  some (h30) : Option (xH))).bind fun (h20 : xH) =>
  (pFi h20 a 12 50).bind fun x31 =>
  some (x31, h20))
set_option maxHeartbeats 4000000 in
theorem e_255 (d : Nat) (Q : Option Value → xH → Prop)  {h : xH} {a : Nat} {p0 : Int32} {x : Int32} {h1 : xH} (H : f_255  a p0 h = some (x, h1)) (hq : Q (some (.int x)) h1) : Wp (d + 3) 255 0 [some (.ref a), some (.int p0)] [] h Q := by
  unfold f_255 at H
  refine wp_aload_n xi_255 dX12_fits_0 rfl ?_
  refine wp_iconst 0 xi_255 dX12_fits_1 rfl ?_
  obtain ⟨h1, gh1, H⟩ := Option.bind_eq_some_iff.mp H
  refine wq_putf xi_255 dX12_fits_2 xf_12_3 (Or.inl rfl) gh1 ?_
  refine wp_aload_n xi_255 dX12_fits_5 rfl ?_
  refine wp_iload_n xi_255 dX12_fits_6 rfl ?_
  obtain ⟨u2, gu2, H⟩ := Option.bind_eq_some_iff.mp H
  obtain ⟨⟨x4, h3⟩, gh3, H⟩ := Option.bind_eq_some_iff.mp H
  dsimp only at H
  refine wq_callV (a := a) (as := [.int p0]) (r := []) (v1 := (some (.int x4))) xi_255 xi_190 dX12_fits_7 xm_12_267 rfl (Nat.le_of_ble_eq_true rfl) (pG_ok gu2) ⟨(Nat.le_of_ble_eq_true rfl), (Nat.le_of_ble_eq_true rfl)⟩ rfl nofun (e_190 (d + 1) _ gh3 ⟨rfl, rfl⟩) ?_
  change Wp _ _ _ _ [.int x4] _ _
  refine wp_if_ne 15 xi_255 dX12_fits_10 rfl (fun c5 => ?_) (fun c5 => ?_)
  · rw [if_neg c5] at H
    refine wp_aload_n xi_255 dX12_fits_15 rfl ?_
    refine wp_iload_n xi_255 dX12_fits_16 rfl ?_
    obtain ⟨u6, gu6, H⟩ := Option.bind_eq_some_iff.mp H
    obtain ⟨h7, gh7, H⟩ := Option.bind_eq_some_iff.mp H
    refine wq_callV (a := a) (as := [.int p0]) (r := []) (v1 := none) xi_255 xi_250 dX12_fits_17 xm_12_421 rfl (Nat.le_of_ble_eq_true rfl) (pG_ok gu6) ⟨(Nat.le_of_ble_eq_true rfl), (Nat.le_of_ble_eq_true rfl)⟩ rfl nofun (e_250 d _ gh7 ⟨rfl, rfl⟩) ?_
    change Wp _ _ _ _ [] _ _
    refine wp_aload_n xi_255 dX12_fits_20 rfl ?_
    refine wp_iconst 0 xi_255 dX12_fits_21 rfl ?_
    obtain ⟨h8, gh8, H⟩ := Option.bind_eq_some_iff.mp H
    refine wq_putf xi_255 dX12_fits_22 xf_12_15 (Or.inl rfl) gh8 ?_
    refine wp_aload_n xi_255 dX12_fits_25 rfl ?_
    obtain ⟨x9, gx9, H⟩ := Option.bind_eq_some_iff.mp H
    refine wq_getfi xi_255 dX12_fits_26 xf_12_406 gx9 ?_
    obtain ⟨h20, G32, H⟩ := Option.bind_eq_some_iff.mp H
    have K21 : Wp (d + 3) 255 59 [some (.ref a), some (.int p0)] [] h20 Q := by
      refine wp_aload_n xi_255 dX12_fits_59 rfl ?_
      obtain ⟨x31, gx31, H⟩ := Option.bind_eq_some_iff.mp H
      refine wq_getfi xi_255 dX12_fits_60 xf_12_406 gx31 ?_
      obtain ⟨rfl, rfl⟩ := oi2 H
      exact wp_iret xi_255 dX12_fits_63 hq
    clear H
    have H := G32
    clear G32
    refine wp_if_le 59 xi_255 dX12_fits_29 rfl (fun c10 => ?_) (fun c10 => ?_)
    · rw [if_pos c10] at H
      obtain rfl := Option.some.inj H
      exact Wp.more (by simp [xMore, Value.category]) K21
    · rw [if_neg c10] at H
      refine wp_aload_n xi_255 dX12_fits_32 rfl ?_
      refine wp_iload_n xi_255 dX12_fits_33 rfl ?_
      refine wp_aload_n xi_255 dX12_fits_34 rfl ?_
      obtain ⟨x22, gx22, H⟩ := Option.bind_eq_some_iff.mp H
      refine wq_getfr xi_255 dX12_fits_35 xf_12_115 gx22 ?_
      refine wp_iconst 0 xi_255 dX12_fits_38 rfl ?_
      obtain ⟨x23, gx23, H⟩ := Option.bind_eq_some_iff.mp H
      refine wq_iaload xi_255 dX12_fits_39 gx23 ?_
      obtain ⟨u24, gu24, H⟩ := Option.bind_eq_some_iff.mp H
      obtain ⟨h25, gh25, H⟩ := Option.bind_eq_some_iff.mp H
      refine wq_callV (a := a) (as := [.int p0, .int x23]) (r := []) (v1 := none) xi_255 xi_254 dX12_fits_40 xm_12_424 rfl (Nat.le_of_ble_eq_true rfl) (pG_ok gu24) ⟨(Nat.le_of_ble_eq_true rfl), (Nat.le_of_ble_eq_true rfl)⟩ rfl nofun (e_254 (d + 1) _ gh25 ⟨rfl, rfl⟩) ?_
      change Wp _ _ _ _ [] _ _
      refine wp_aload_n xi_255 dX12_fits_43 rfl ?_
      refine wp_iload_n xi_255 dX12_fits_44 rfl ?_
      refine wp_aload_n xi_255 dX12_fits_45 rfl ?_
      obtain ⟨x26, gx26, H⟩ := Option.bind_eq_some_iff.mp H
      refine wq_getfr xi_255 dX12_fits_46 xf_12_115 gx26 ?_
      refine wp_aload_n xi_255 dX12_fits_49 rfl ?_
      obtain ⟨x27, gx27, H⟩ := Option.bind_eq_some_iff.mp H
      refine wq_getfi xi_255 dX12_fits_50 xf_12_406 gx27 ?_
      refine wp_iconst 1 xi_255 dX12_fits_53 rfl ?_
      refine wp_isub xi_255 dX12_fits_54 ?_
      obtain ⟨x28, gx28, H⟩ := Option.bind_eq_some_iff.mp H
      refine wq_iaload xi_255 dX12_fits_55 gx28 ?_
      obtain ⟨u29, gu29, H⟩ := Option.bind_eq_some_iff.mp H
      obtain ⟨h30, gh30, H⟩ := Option.bind_eq_some_iff.mp H
      refine wq_callV (a := a) (as := [.int p0, .int x28]) (r := []) (v1 := none) xi_255 xi_254 dX12_fits_56 xm_12_424 rfl (Nat.le_of_ble_eq_true rfl) (pG_ok gu29) ⟨(Nat.le_of_ble_eq_true rfl), (Nat.le_of_ble_eq_true rfl)⟩ rfl nofun (e_254 (d + 1) _ gh30 ⟨rfl, rfl⟩) ?_
      change Wp _ _ _ _ [] _ _
      obtain rfl := Option.some.inj H
      exact Wp.more (by simp [xMore, Value.category]) K21
  · rw [if_pos c5] at H
    refine wp_iconst (-1) xi_255 dX12_fits_13 rfl ?_
    obtain ⟨rfl, rfl⟩ := oi2 H
    exact wp_iret xi_255 dX12_fits_14 hq
/- FelledHasLostModel.span(I)I -/
def f_256_29  : Nat → Nat → Int32 → Int32 → Int32 → xH → Option (Int32 × xH)
  | 0, _, _, _, _, _ => none
  | n + 1, a0, a1, a2, a3, h =>
  (pFi h a0 12 50).bind fun x1 =>
  (if x1 ≤ a3 then
  some (a2, h)
  else
  (pFr h a0 12 49).bind fun x3 =>
  (pAi h x3 a3).bind fun x4 =>
  (pRem a1 3).bind fun x5 =>
  (f_253 x4 x5 h).bind fun (x7, h6) =>
  f_256_29 n a0 a1 (a2 ||| (1 <<< (x7 &&& 31))) (a3 + 1) h6)
theorem ef_256_29 (d : Nat) (Q : Option Value → xH → Prop)  : ∀ (n : Nat) (a0 : Nat) (a1 : Int32) (a2 : Int32) (a3 : Int32) (h : xH) (r : Int32 × xH), f_256_29 n a0 a1 a2 a3 h = some r → (∀ (w2 : Int32) (h1 : xH), r = (w2, h1) → Wp (d + 3) 256 60 [none, none, some (.int w2), none] [] h1 Q) → Wp (d + 3) 256 29 [some (.ref a0), some (.int a1), some (.int a2), some (.int a3)] [] h Q := by
  intro n
  induction n with
  | zero =>
    intro a0 a1 a2 a3 h r H
    cases H
  | succ n ih =>
    intro a0 a1 a2 a3 h r H KE
    unfold f_256_29 at H
    refine wp_iload_n xi_256 dX12_span_29 rfl ?_
    refine wp_aload_n xi_256 dX12_span_30 rfl ?_
    obtain ⟨x1, gx1, H⟩ := Option.bind_eq_some_iff.mp H
    refine wq_getfi xi_256 dX12_span_31 xf_12_406 gx1 ?_
    refine wp_icmp_ge 60 xi_256 dX12_span_34 rfl (fun c2 => ?_) (fun c2 => ?_)
    · rw [if_pos c2] at H
      obtain rfl := Option.some.inj H
      exact Wp.more (by simp [xMore, Value.category]) (KE a2 h rfl)
    · rw [if_neg c2] at H
      refine wp_iload_n xi_256 dX12_span_37 rfl ?_
      refine wp_iconst 1 xi_256 dX12_span_38 rfl ?_
      refine wp_aload_n xi_256 dX12_span_39 rfl ?_
      obtain ⟨x3, gx3, H⟩ := Option.bind_eq_some_iff.mp H
      refine wq_getfr xi_256 dX12_span_40 xf_12_115 gx3 ?_
      refine wp_iload_n xi_256 dX12_span_43 rfl ?_
      obtain ⟨x4, gx4, H⟩ := Option.bind_eq_some_iff.mp H
      refine wq_iaload xi_256 dX12_span_44 gx4 ?_
      refine wp_iload_n xi_256 dX12_span_45 rfl ?_
      refine wp_iconst 3 xi_256 dX12_span_46 rfl ?_
      obtain ⟨x5, gx5, H⟩ := Option.bind_eq_some_iff.mp H
      refine wq_irem xi_256 dX12_span_47 gx5 ?_
      obtain ⟨⟨x7, h6⟩, gh6, H⟩ := Option.bind_eq_some_iff.mp H
      dsimp only at H
      refine wq_callS (as := [.int x4, .int x5]) (r := [.int 1, .int a2]) (v1 := (some (.int x7))) xi_256 xi_253 dX12_span_48 xm_12_418 rfl (Nat.le_of_ble_eq_true rfl) ⟨(Nat.le_of_ble_eq_true rfl), (Nat.le_of_ble_eq_true rfl)⟩ rfl nofun (e_253 (d + 2) _ gh6 ⟨rfl, rfl⟩) ?_
      change Wp _ _ _ _ [.int x7, .int 1, .int a2] _ _
      refine wp_ishl xi_256 dX12_span_51 ?_
      refine wp_ior xi_256 dX12_span_52 ?_
      refine wp_istore_n [some (.ref a0), some (.int a1), some (.int (a2 ||| (1 <<< (x7 &&& 31)))), some (.int a3)] xi_256 dX12_span_53 rfl ?_
      refine wp_iinc (a3 + 1) [some (.ref a0), some (.int a1), some (.int (a2 ||| (1 <<< (x7 &&& 31)))), some (.int (a3 + 1))] xi_256 dX12_span_54 rfl rfl rfl ?_
      refine wp_goto 29 xi_256 dX12_span_57 rfl ?_
      exact Wp.more (by simp [xMore, Value.category]) (ih a0 a1 (a2 ||| (1 <<< (x7 &&& 31))) (a3 + 1) h6 _ H KE)
def f_256  (a : Nat) (p0 : Int32) (h : xH) : Option (Int32 × xH) :=
  (pP h a 12 0 (.int 0)).bind fun h1 =>
  (pFr h1 a 12 3).bind fun x2 =>
  (f_169 x2 p0 h1).bind fun (x4, h3) =>
  (if x4 = 0 then
  some ((-1), h3)
  else
  (pDiv p0 3).bind fun x6 =>
  (pG (pIs h3 a 12)).bind fun _ =>
  (f_250 a x6 h3).bind fun h8 =>
  (f_256_29 100000 a p0 0 0 h8).bind fun (w10, h9) =>
  some (w10, h9))
set_option maxHeartbeats 4000000 in
theorem e_256 (d : Nat) (Q : Option Value → xH → Prop)  {h : xH} {a : Nat} {p0 : Int32} {x : Int32} {h1 : xH} (H : f_256  a p0 h = some (x, h1)) (hq : Q (some (.int x)) h1) : Wp (d + 3) 256 0 [some (.ref a), some (.int p0), none, none] [] h Q := by
  unfold f_256 at H
  refine wp_aload_n xi_256 dX12_span_0 rfl ?_
  refine wp_iconst 0 xi_256 dX12_span_1 rfl ?_
  obtain ⟨h1, gh1, H⟩ := Option.bind_eq_some_iff.mp H
  refine wq_putf xi_256 dX12_span_2 xf_12_3 (Or.inl rfl) gh1 ?_
  refine wp_aload_n xi_256 dX12_span_5 rfl ?_
  obtain ⟨x2, gx2, H⟩ := Option.bind_eq_some_iff.mp H
  refine wq_getfr xi_256 dX12_span_6 xf_12_24 gx2 ?_
  refine wp_iload_n xi_256 dX12_span_9 rfl ?_
  obtain ⟨⟨x4, h3⟩, gh3, H⟩ := Option.bind_eq_some_iff.mp H
  dsimp only at H
  refine wq_callS (as := [.ref x2, .int p0]) (r := []) (v1 := (some (.int x4))) xi_256 xi_169 dX12_span_10 xm_12_244 rfl (Nat.le_of_ble_eq_true rfl) ⟨(Nat.le_of_ble_eq_true rfl), (Nat.le_of_ble_eq_true rfl)⟩ rfl nofun (e_169 (d + 1) _ gh3 ⟨rfl, rfl⟩) ?_
  change Wp _ _ _ _ [.int x4] _ _
  refine wp_if_ne 18 xi_256 dX12_span_13 rfl (fun c5 => ?_) (fun c5 => ?_)
  · rw [if_neg c5] at H
    refine wp_aload_n xi_256 dX12_span_18 rfl ?_
    refine wp_iload_n xi_256 dX12_span_19 rfl ?_
    refine wp_iconst 3 xi_256 dX12_span_20 rfl ?_
    obtain ⟨x6, gx6, H⟩ := Option.bind_eq_some_iff.mp H
    refine wq_idiv xi_256 dX12_span_21 gx6 ?_
    obtain ⟨u7, gu7, H⟩ := Option.bind_eq_some_iff.mp H
    obtain ⟨h8, gh8, H⟩ := Option.bind_eq_some_iff.mp H
    refine wq_callV (a := a) (as := [.int x6]) (r := []) (v1 := none) xi_256 xi_250 dX12_span_22 xm_12_421 rfl (Nat.le_of_ble_eq_true rfl) (pG_ok gu7) ⟨(Nat.le_of_ble_eq_true rfl), (Nat.le_of_ble_eq_true rfl)⟩ rfl nofun (e_250 d _ gh8 ⟨rfl, rfl⟩) ?_
    change Wp _ _ _ _ [] _ _
    refine wp_iconst 0 xi_256 dX12_span_25 rfl ?_
    refine wp_istore_n [some (.ref a), some (.int p0), some (.int 0), none] xi_256 dX12_span_26 rfl ?_
    refine wp_iconst 0 xi_256 dX12_span_27 rfl ?_
    refine wp_istore_n [some (.ref a), some (.int p0), some (.int 0), some (.int 0)] xi_256 dX12_span_28 rfl ?_
    obtain ⟨⟨w10, h9⟩, G11, H⟩ := Option.bind_eq_some_iff.mp H
    dsimp only at H
    refine Wp.more (by simp [xMore, Value.category]) (ef_256_29 d Q  100000 a p0 0 0 h8 _ G11 (fun z0 z1 e9 => ?_))
    cases e9
    refine wp_iload_n xi_256 dX12_span_60 rfl ?_
    obtain ⟨rfl, rfl⟩ := oi2 H
    exact wp_iret xi_256 dX12_span_61 hq
  · rw [if_pos c5] at H
    refine wp_iconst (-1) xi_256 dX12_span_16 rfl ?_
    obtain ⟨rfl, rfl⟩ := oi2 H
    exact wp_iret xi_256 dX12_span_17 hq
/- FelledHasLostModel.sure(I)I -/
def f_258  (a : Nat) (p0 : Int32) (h : xH) : Option (Int32 × xH) :=
  (pP h a 12 0 (.int 0)).bind fun h1 =>
  (pFr h1 a 12 3).bind fun x2 =>
  (f_169 x2 p0 h1).bind fun (x4, h3) =>
  (if x4 = 0 then
  some ((-1), h3)
  else
  (pDiv p0 3).bind fun x6 =>
  (pG (pIs h3 a 12)).bind fun _ =>
  (f_250 a x6 h3).bind fun h8 =>
  (pFi h8 a 12 50).bind fun x9 =>
  (if x9 = 0 then
  some ((-2), h8)
  else
  (pG (pIs h8 a 12)).bind fun _ =>
  (f_257 a p0 h8).bind fun (x13, h12) =>
  (pP h12 a 12 1 (.int 0)).bind fun h14 =>
  (pG (pIs h14 a 12)).bind fun _ =>
  (f_165 a ((x13 : Int32).toInt64) h14).bind fun h16 =>
  (pFi h16 a 12 50).bind fun x17 =>
  (pG (pIs h16 a 12)).bind fun _ =>
  (f_165 a ((x17 : Int32).toInt64) h16).bind fun h19 =>
  (pFi h19 a 12 50).bind fun x20 =>
  ((if x13 = x20 then
  some (1)
  else
  (if x13 = 0 then
  some (0)
  else
  some (2)) : Option (Int32))).bind fun (w23 : Int32) =>
  some (w23, h19)))
set_option maxHeartbeats 4000000 in
theorem e_258 (d : Nat) (Q : Option Value → xH → Prop)  {h : xH} {a : Nat} {p0 : Int32} {x : Int32} {h1 : xH} (H : f_258  a p0 h = some (x, h1)) (hq : Q (some (.int x)) h1) : Wp (d + 3) 258 0 [some (.ref a), some (.int p0), none] [] h Q := by
  unfold f_258 at H
  refine wp_aload_n xi_258 dX12_sure_0 rfl ?_
  refine wp_iconst 0 xi_258 dX12_sure_1 rfl ?_
  obtain ⟨h1, gh1, H⟩ := Option.bind_eq_some_iff.mp H
  refine wq_putf xi_258 dX12_sure_2 xf_12_3 (Or.inl rfl) gh1 ?_
  refine wp_aload_n xi_258 dX12_sure_5 rfl ?_
  obtain ⟨x2, gx2, H⟩ := Option.bind_eq_some_iff.mp H
  refine wq_getfr xi_258 dX12_sure_6 xf_12_24 gx2 ?_
  refine wp_iload_n xi_258 dX12_sure_9 rfl ?_
  obtain ⟨⟨x4, h3⟩, gh3, H⟩ := Option.bind_eq_some_iff.mp H
  dsimp only at H
  refine wq_callS (as := [.ref x2, .int p0]) (r := []) (v1 := (some (.int x4))) xi_258 xi_169 dX12_sure_10 xm_12_244 rfl (Nat.le_of_ble_eq_true rfl) ⟨(Nat.le_of_ble_eq_true rfl), (Nat.le_of_ble_eq_true rfl)⟩ rfl nofun (e_169 (d + 1) _ gh3 ⟨rfl, rfl⟩) ?_
  change Wp _ _ _ _ [.int x4] _ _
  refine wp_if_ne 18 xi_258 dX12_sure_13 rfl (fun c5 => ?_) (fun c5 => ?_)
  · rw [if_neg c5] at H
    refine wp_aload_n xi_258 dX12_sure_18 rfl ?_
    refine wp_iload_n xi_258 dX12_sure_19 rfl ?_
    refine wp_iconst 3 xi_258 dX12_sure_20 rfl ?_
    obtain ⟨x6, gx6, H⟩ := Option.bind_eq_some_iff.mp H
    refine wq_idiv xi_258 dX12_sure_21 gx6 ?_
    obtain ⟨u7, gu7, H⟩ := Option.bind_eq_some_iff.mp H
    obtain ⟨h8, gh8, H⟩ := Option.bind_eq_some_iff.mp H
    refine wq_callV (a := a) (as := [.int x6]) (r := []) (v1 := none) xi_258 xi_250 dX12_sure_22 xm_12_421 rfl (Nat.le_of_ble_eq_true rfl) (pG_ok gu7) ⟨(Nat.le_of_ble_eq_true rfl), (Nat.le_of_ble_eq_true rfl)⟩ rfl nofun (e_250 d _ gh8 ⟨rfl, rfl⟩) ?_
    change Wp _ _ _ _ [] _ _
    refine wp_aload_n xi_258 dX12_sure_25 rfl ?_
    obtain ⟨x9, gx9, H⟩ := Option.bind_eq_some_iff.mp H
    refine wq_getfi xi_258 dX12_sure_26 xf_12_406 gx9 ?_
    refine wp_if_ne 35 xi_258 dX12_sure_29 rfl (fun c10 => ?_) (fun c10 => ?_)
    · rw [if_neg c10] at H
      refine wp_aload_n xi_258 dX12_sure_35 rfl ?_
      refine wp_iload_n xi_258 dX12_sure_36 rfl ?_
      obtain ⟨u11, gu11, H⟩ := Option.bind_eq_some_iff.mp H
      obtain ⟨⟨x13, h12⟩, gh12, H⟩ := Option.bind_eq_some_iff.mp H
      dsimp only at H
      refine wq_callV (a := a) (as := [.int p0]) (r := []) (v1 := (some (.int x13))) xi_258 xi_257 dX12_sure_37 xm_12_428 rfl (Nat.le_of_ble_eq_true rfl) (pG_ok gu11) ⟨(Nat.le_of_ble_eq_true rfl), (Nat.le_of_ble_eq_true rfl)⟩ rfl nofun (e_257 d _ gh12 ⟨rfl, rfl⟩) ?_
      change Wp _ _ _ _ [.int x13] _ _
      refine wp_istore_n [some (.ref a), some (.int p0), some (.int x13)] xi_258 dX12_sure_40 rfl ?_
      refine wp_aload_n xi_258 dX12_sure_41 rfl ?_
      refine wp_iconst 0 xi_258 dX12_sure_42 rfl ?_
      obtain ⟨h14, gh14, H⟩ := Option.bind_eq_some_iff.mp H
      refine wq_putf xi_258 dX12_sure_43 xf_12_15 (Or.inl rfl) gh14 ?_
      refine wp_aload_n xi_258 dX12_sure_46 rfl ?_
      refine wp_iload_n xi_258 dX12_sure_47 rfl ?_
      refine wp_i2l xi_258 dX12_sure_48 ?_
      obtain ⟨u15, gu15, H⟩ := Option.bind_eq_some_iff.mp H
      obtain ⟨h16, gh16, H⟩ := Option.bind_eq_some_iff.mp H
      refine wq_callV (a := a) (as := [.long ((x13 : Int32).toInt64)]) (r := []) (v1 := none) xi_258 xi_165 dX12_sure_49 xm_12_279 rfl (Nat.le_of_ble_eq_true rfl) (pG_ok gu15) ⟨(Nat.le_of_ble_eq_true rfl), (Nat.le_of_ble_eq_true rfl)⟩ rfl nofun (e_165 (d + 2) _ gh16 ⟨rfl, rfl⟩) ?_
      change Wp _ _ _ _ [] _ _
      refine wp_aload_n xi_258 dX12_sure_52 rfl ?_
      refine wp_aload_n xi_258 dX12_sure_53 rfl ?_
      obtain ⟨x17, gx17, H⟩ := Option.bind_eq_some_iff.mp H
      refine wq_getfi xi_258 dX12_sure_54 xf_12_406 gx17 ?_
      refine wp_i2l xi_258 dX12_sure_57 ?_
      obtain ⟨u18, gu18, H⟩ := Option.bind_eq_some_iff.mp H
      obtain ⟨h19, gh19, H⟩ := Option.bind_eq_some_iff.mp H
      refine wq_callV (a := a) (as := [.long ((x17 : Int32).toInt64)]) (r := []) (v1 := none) xi_258 xi_165 dX12_sure_58 xm_12_279 rfl (Nat.le_of_ble_eq_true rfl) (pG_ok gu18) ⟨(Nat.le_of_ble_eq_true rfl), (Nat.le_of_ble_eq_true rfl)⟩ rfl nofun (e_165 (d + 2) _ gh19 ⟨rfl, rfl⟩) ?_
      change Wp _ _ _ _ [] _ _
      refine wp_iload_n xi_258 dX12_sure_61 rfl ?_
      refine wp_aload_n xi_258 dX12_sure_62 rfl ?_
      obtain ⟨x20, gx20, H⟩ := Option.bind_eq_some_iff.mp H
      refine wq_getfi xi_258 dX12_sure_63 xf_12_406 gx20 ?_
      obtain ⟨w23, G26, H⟩ := Option.bind_eq_some_iff.mp H
      have K24 : Wp (d + 3) 258 82 [some (.ref a), some (.int p0), some (.int x13)] [.int w23] h19 Q := by
        obtain ⟨rfl, rfl⟩ := oi2 H
        exact wp_iret xi_258 dX12_sure_82 hq
      clear H
      have H := G26
      clear G26
      refine wp_icmp_ne 73 xi_258 dX12_sure_66 rfl (fun c21 => ?_) (fun c21 => ?_)
      · rw [if_neg c21] at H
        refine wp_iload_n xi_258 dX12_sure_73 rfl ?_
        refine wp_if_ne 81 xi_258 dX12_sure_74 rfl (fun c25 => ?_) (fun c25 => ?_)
        · rw [if_neg c25] at H
          refine wp_iconst 2 xi_258 dX12_sure_81 rfl ?_
          obtain rfl := Option.some.inj H
          exact Wp.more (by simp [xMore, Value.category]) K24
        · rw [if_pos c25] at H
          refine wp_iconst 0 xi_258 dX12_sure_77 rfl ?_
          refine wp_goto 82 xi_258 dX12_sure_78 rfl ?_
          obtain rfl := Option.some.inj H
          exact Wp.more (by simp [xMore, Value.category]) K24
      · rw [if_pos c21] at H
        refine wp_iconst 1 xi_258 dX12_sure_69 rfl ?_
        refine wp_goto 82 xi_258 dX12_sure_70 rfl ?_
        obtain rfl := Option.some.inj H
        exact Wp.more (by simp [xMore, Value.category]) K24
    · rw [if_pos c10] at H
      refine wp_bipush (-2) xi_258 dX12_sure_32 rfl ?_
      obtain ⟨rfl, rfl⟩ := oi2 H
      exact wp_iret xi_258 dX12_sure_34 hq
  · rw [if_pos c5] at H
    refine wp_iconst (-1) xi_258 dX12_sure_16 rfl ?_
    obtain ⟨rfl, rfl⟩ := oi2 H
    exact wp_iret xi_258 dX12_sure_17 hq
/- FelledHasLostModel.touch(I)I -/
def f_259_39  : Nat → Nat → Int32 → Int32 → Int32 → Int32 → xH → Option (Int32 × Int32 × xH)
  | 0, _, _, _, _, _, _ => none
  | n + 1, a0, a1, a2, a3, a4, h =>
  (if ((3 * a1) + 3) ≤ a4 then
  some (a2, a3, h)
  else
  (pFr h a0 12 3).bind fun x2 =>
  (pAi h x2 a4).bind fun x3 =>
  ((if x3 < 0 then
  some (a2, a3, h)
  else
  (pG (pIs h a0 12)).bind fun _ =>
  (f_257 a0 a4 h).bind fun (x17, h16) =>
  (pFi h16 a0 12 50).bind fun x18 =>
  (if a2 < 0 then
  some (a4, (pMax x17 (x18 - x17)), h16)
  else
  (if a3 ≤ (pMax x17 (x18 - x17)) then
  some (a2, a3, h16)
  else
  some (a4, (pMax x17 (x18 - x17)), h16))) : Option (Int32 × Int32 × xH))).bind fun (w11, w12, h13) =>
  f_259_39 n a0 a1 w11 w12 (a4 + 1) h13)
theorem ef_259_39 (d : Nat) (Q : Option Value → xH → Prop)  : ∀ (n : Nat) (a0 : Nat) (a1 : Int32) (a2 : Int32) (a3 : Int32) (a4 : Int32) (h : xH) (r : Int32 × Int32 × xH), f_259_39 n a0 a1 a2 a3 a4 h = some r → (∀ (w2 : Int32) (w3 : Int32) (h1 : xH), r = (w2, w3, h1) → Wp (d + 3) 259 103 [some (.ref a0), none, some (.int w2), some (.int w3), none, none, none] [] h1 Q) → Wp (d + 3) 259 39 [some (.ref a0), some (.int a1), some (.int a2), some (.int a3), some (.int a4), none, none] [] h Q := by
  intro n
  induction n with
  | zero =>
    intro a0 a1 a2 a3 a4 h r H
    cases H
  | succ n ih =>
    intro a0 a1 a2 a3 a4 h r H KE
    unfold f_259_39 at H
    refine wp_iload xi_259 dX12_touch_39 rfl ?_
    refine wp_iconst 3 xi_259 dX12_touch_41 rfl ?_
    refine wp_iload_n xi_259 dX12_touch_42 rfl ?_
    refine wp_imul xi_259 dX12_touch_43 ?_
    refine wp_iconst 3 xi_259 dX12_touch_44 rfl ?_
    refine wp_iadd xi_259 dX12_touch_45 ?_
    refine wp_icmp_ge 103 xi_259 dX12_touch_46 rfl (fun c1 => ?_) (fun c1 => ?_)
    · rw [if_pos c1] at H
      obtain rfl := Option.some.inj H
      exact Wp.more (by simp [xMore, Value.category]) (KE a2 a3 h rfl)
    · rw [if_neg c1] at H
      refine wp_aload_n xi_259 dX12_touch_49 rfl ?_
      obtain ⟨x2, gx2, H⟩ := Option.bind_eq_some_iff.mp H
      refine wq_getfr xi_259 dX12_touch_50 xf_12_24 gx2 ?_
      refine wp_iload xi_259 dX12_touch_53 rfl ?_
      obtain ⟨x3, gx3, H⟩ := Option.bind_eq_some_iff.mp H
      refine wq_iaload xi_259 dX12_touch_55 gx3 ?_
      obtain ⟨⟨w11, w12, h13⟩, G21, H⟩ := Option.bind_eq_some_iff.mp H
      dsimp only at H
      have K14 : Wp (d + 3) 259 97 [some (.ref a0), some (.int a1), some (.int w11), some (.int w12), some (.int a4), none, none] [] h13 Q := by
        refine wp_iinc (a4 + 1) [some (.ref a0), some (.int a1), some (.int w11), some (.int w12), some (.int (a4 + 1)), none, none] xi_259 dX12_touch_97 rfl rfl rfl ?_
        refine wp_goto 39 xi_259 dX12_touch_100 rfl ?_
        exact Wp.more (by simp [xMore, Value.category]) (ih a0 a1 w11 w12 (a4 + 1) h13 _ H KE)
      clear H
      have H := G21
      clear G21
      refine wp_if_lt 97 xi_259 dX12_touch_56 rfl (fun c4 => ?_) (fun c4 => ?_)
      · rw [if_pos c4] at H
        simp only [Option.some.injEq, Prod.mk.injEq] at H
        obtain ⟨rfl, rfl, rfl⟩ := H
        exact Wp.more (by simp [xMore, Value.category]) K14
      · rw [if_neg c4] at H
        refine wp_aload_n xi_259 dX12_touch_59 rfl ?_
        refine wp_iload xi_259 dX12_touch_60 rfl ?_
        obtain ⟨u15, gu15, H⟩ := Option.bind_eq_some_iff.mp H
        obtain ⟨⟨x17, h16⟩, gh16, H⟩ := Option.bind_eq_some_iff.mp H
        dsimp only at H
        refine wq_callV (a := a0) (as := [.int a4]) (r := []) (v1 := (some (.int x17))) xi_259 xi_257 dX12_touch_62 xm_12_428 rfl (Nat.le_of_ble_eq_true rfl) (pG_ok gu15) ⟨(Nat.le_of_ble_eq_true rfl), (Nat.le_of_ble_eq_true rfl)⟩ rfl nofun (e_257 d _ gh16 ⟨rfl, rfl⟩) ?_
        change Wp _ _ _ _ [.int x17] _ _
        refine wp_istore [some (.ref a0), some (.int a1), some (.int a2), some (.int a3), some (.int a4), some (.int x17), none] xi_259 dX12_touch_65 rfl ?_
        refine wp_iload xi_259 dX12_touch_67 rfl ?_
        refine wp_aload_n xi_259 dX12_touch_69 rfl ?_
        obtain ⟨x18, gx18, H⟩ := Option.bind_eq_some_iff.mp H
        refine wq_getfi xi_259 dX12_touch_70 xf_12_406 gx18 ?_
        refine wp_iload xi_259 dX12_touch_73 rfl ?_
        refine wp_isub xi_259 dX12_touch_75 ?_
        refine wq_max xi_259 dX12_touch_76 xm_12_224 (Nat.le_of_ble_eq_true rfl) ?_
        refine wp_istore [some (.ref a0), some (.int a1), some (.int a2), some (.int a3), some (.int a4), some (.int x17), some (.int (pMax x17 (x18 - x17)))] xi_259 dX12_touch_79 rfl ?_
        refine wp_iload_n xi_259 dX12_touch_81 rfl ?_
        refine wp_if_lt 91 xi_259 dX12_touch_82 rfl (fun c19 => ?_) (fun c19 => ?_)
        · rw [if_pos c19] at H
          refine wp_iload xi_259 dX12_touch_91 rfl ?_
          refine wp_istore_n [some (.ref a0), some (.int a1), some (.int a4), some (.int a3), some (.int a4), some (.int x17), some (.int (pMax x17 (x18 - x17)))] xi_259 dX12_touch_93 rfl ?_
          refine wp_iload xi_259 dX12_touch_94 rfl ?_
          refine wp_istore_n [some (.ref a0), some (.int a1), some (.int a4), some (.int (pMax x17 (x18 - x17))), some (.int a4), some (.int x17), some (.int (pMax x17 (x18 - x17)))] xi_259 dX12_touch_96 rfl ?_
          simp only [Option.some.injEq, Prod.mk.injEq] at H
          obtain ⟨rfl, rfl, rfl⟩ := H
          exact Wp.more (by simp [xMore, Value.category]) K14
        · rw [if_neg c19] at H
          refine wp_iload xi_259 dX12_touch_85 rfl ?_
          refine wp_iload_n xi_259 dX12_touch_87 rfl ?_
          refine wp_icmp_ge 97 xi_259 dX12_touch_88 rfl (fun c20 => ?_) (fun c20 => ?_)
          · rw [if_pos c20] at H
            simp only [Option.some.injEq, Prod.mk.injEq] at H
            obtain ⟨rfl, rfl, rfl⟩ := H
            exact Wp.more (by simp [xMore, Value.category]) K14
          · rw [if_neg c20] at H
            refine wp_iload xi_259 dX12_touch_91 rfl ?_
            refine wp_istore_n [some (.ref a0), some (.int a1), some (.int a4), some (.int a3), some (.int a4), some (.int x17), some (.int (pMax x17 (x18 - x17)))] xi_259 dX12_touch_93 rfl ?_
            refine wp_iload xi_259 dX12_touch_94 rfl ?_
            refine wp_istore_n [some (.ref a0), some (.int a1), some (.int a4), some (.int (pMax x17 (x18 - x17))), some (.int a4), some (.int x17), some (.int (pMax x17 (x18 - x17)))] xi_259 dX12_touch_96 rfl ?_
            simp only [Option.some.injEq, Prod.mk.injEq] at H
            obtain ⟨rfl, rfl, rfl⟩ := H
            exact Wp.more (by simp [xMore, Value.category]) K14
def f_259  (a : Nat) (p0 : Int32) (h : xH) : Option (Int32 × xH) :=
  (pP h a 12 0 (.int 0)).bind fun h1 =>
  (pG (pIs h1 a 12)).bind fun _ =>
  (f_190 a p0 h1).bind fun (x4, h3) =>
  (if x4 = 0 then
  some ((-1), h3)
  else
  (pG (pIs h3 a 12)).bind fun _ =>
  (f_250 a p0 h3).bind fun h7 =>
  (pFi h7 a 12 50).bind fun x8 =>
  (if x8 = 0 then
  some ((-2), h7)
  else
  (f_259_39 100000 a p0 (-1) 0 (3 * p0) h7).bind fun (w11, w12, h10) =>
  (pP h10 a 12 1 (.int 0)).bind fun h15 =>
  (pG (pIs h15 a 12)).bind fun _ =>
  (f_165 a ((w12 : Int32).toInt64) h15).bind fun h17 =>
  some (w11, h17)))
set_option maxHeartbeats 4000000 in
theorem e_259 (d : Nat) (Q : Option Value → xH → Prop)  {h : xH} {a : Nat} {p0 : Int32} {x : Int32} {h1 : xH} (H : f_259  a p0 h = some (x, h1)) (hq : Q (some (.int x)) h1) : Wp (d + 3) 259 0 [some (.ref a), some (.int p0), none, none, none, none, none] [] h Q := by
  unfold f_259 at H
  refine wp_aload_n xi_259 dX12_touch_0 rfl ?_
  refine wp_iconst 0 xi_259 dX12_touch_1 rfl ?_
  obtain ⟨h1, gh1, H⟩ := Option.bind_eq_some_iff.mp H
  refine wq_putf xi_259 dX12_touch_2 xf_12_3 (Or.inl rfl) gh1 ?_
  refine wp_aload_n xi_259 dX12_touch_5 rfl ?_
  refine wp_iload_n xi_259 dX12_touch_6 rfl ?_
  obtain ⟨u2, gu2, H⟩ := Option.bind_eq_some_iff.mp H
  obtain ⟨⟨x4, h3⟩, gh3, H⟩ := Option.bind_eq_some_iff.mp H
  dsimp only at H
  refine wq_callV (a := a) (as := [.int p0]) (r := []) (v1 := (some (.int x4))) xi_259 xi_190 dX12_touch_7 xm_12_267 rfl (Nat.le_of_ble_eq_true rfl) (pG_ok gu2) ⟨(Nat.le_of_ble_eq_true rfl), (Nat.le_of_ble_eq_true rfl)⟩ rfl nofun (e_190 (d + 1) _ gh3 ⟨rfl, rfl⟩) ?_
  change Wp _ _ _ _ [.int x4] _ _
  refine wp_if_ne 15 xi_259 dX12_touch_10 rfl (fun c5 => ?_) (fun c5 => ?_)
  · rw [if_neg c5] at H
    refine wp_aload_n xi_259 dX12_touch_15 rfl ?_
    refine wp_iload_n xi_259 dX12_touch_16 rfl ?_
    obtain ⟨u6, gu6, H⟩ := Option.bind_eq_some_iff.mp H
    obtain ⟨h7, gh7, H⟩ := Option.bind_eq_some_iff.mp H
    refine wq_callV (a := a) (as := [.int p0]) (r := []) (v1 := none) xi_259 xi_250 dX12_touch_17 xm_12_421 rfl (Nat.le_of_ble_eq_true rfl) (pG_ok gu6) ⟨(Nat.le_of_ble_eq_true rfl), (Nat.le_of_ble_eq_true rfl)⟩ rfl nofun (e_250 d _ gh7 ⟨rfl, rfl⟩) ?_
    change Wp _ _ _ _ [] _ _
    refine wp_aload_n xi_259 dX12_touch_20 rfl ?_
    obtain ⟨x8, gx8, H⟩ := Option.bind_eq_some_iff.mp H
    refine wq_getfi xi_259 dX12_touch_21 xf_12_406 gx8 ?_
    refine wp_if_ne 30 xi_259 dX12_touch_24 rfl (fun c9 => ?_) (fun c9 => ?_)
    · rw [if_neg c9] at H
      refine wp_iconst (-1) xi_259 dX12_touch_30 rfl ?_
      refine wp_istore_n [some (.ref a), some (.int p0), some (.int (-1)), none, none, none, none] xi_259 dX12_touch_31 rfl ?_
      refine wp_iconst 0 xi_259 dX12_touch_32 rfl ?_
      refine wp_istore_n [some (.ref a), some (.int p0), some (.int (-1)), some (.int 0), none, none, none] xi_259 dX12_touch_33 rfl ?_
      refine wp_iconst 3 xi_259 dX12_touch_34 rfl ?_
      refine wp_iload_n xi_259 dX12_touch_35 rfl ?_
      refine wp_imul xi_259 dX12_touch_36 ?_
      refine wp_istore [some (.ref a), some (.int p0), some (.int (-1)), some (.int 0), some (.int (3 * p0)), none, none] xi_259 dX12_touch_37 rfl ?_
      obtain ⟨⟨w11, w12, h10⟩, G13, H⟩ := Option.bind_eq_some_iff.mp H
      dsimp only at H
      refine Wp.more (by simp [xMore, Value.category]) (ef_259_39 d Q  100000 a p0 (-1) 0 (3 * p0) h7 _ G13 (fun z0 z1 z2 e9 => ?_))
      cases e9
      refine wp_aload_n xi_259 dX12_touch_103 rfl ?_
      refine wp_iconst 0 xi_259 dX12_touch_104 rfl ?_
      obtain ⟨h15, gh15, H⟩ := Option.bind_eq_some_iff.mp H
      refine wq_putf xi_259 dX12_touch_105 xf_12_15 (Or.inl rfl) gh15 ?_
      refine wp_aload_n xi_259 dX12_touch_108 rfl ?_
      refine wp_iload_n xi_259 dX12_touch_109 rfl ?_
      refine wp_i2l xi_259 dX12_touch_110 ?_
      obtain ⟨u16, gu16, H⟩ := Option.bind_eq_some_iff.mp H
      obtain ⟨h17, gh17, H⟩ := Option.bind_eq_some_iff.mp H
      refine wq_callV (a := a) (as := [.long ((w12 : Int32).toInt64)]) (r := []) (v1 := none) xi_259 xi_165 dX12_touch_111 xm_12_279 rfl (Nat.le_of_ble_eq_true rfl) (pG_ok gu16) ⟨(Nat.le_of_ble_eq_true rfl), (Nat.le_of_ble_eq_true rfl)⟩ rfl nofun (e_165 (d + 2) _ gh17 ⟨rfl, rfl⟩) ?_
      change Wp _ _ _ _ [] _ _
      refine wp_iload_n xi_259 dX12_touch_114 rfl ?_
      obtain ⟨rfl, rfl⟩ := oi2 H
      exact wp_iret xi_259 dX12_touch_115 hq
    · rw [if_pos c9] at H
      refine wp_bipush (-2) xi_259 dX12_touch_27 rfl ?_
      obtain ⟨rfl, rfl⟩ := oi2 H
      exact wp_iret xi_259 dX12_touch_29 hq
  · rw [if_pos c5] at H
    refine wp_iconst (-1) xi_259 dX12_touch_13 rfl ?_
    obtain ⟨rfl, rfl⟩ := oi2 H
    exact wp_iret xi_259 dX12_touch_14 hq
/- FelledHasLost$Chooser.oddsNow(I)I -/
def f_10  (a : Nat) (p0 : Int32) (h : xH) : Option (Int32 × xH) :=
  (pFr h a 1 2).bind fun x1 =>
  (pSi h x1 9 p0).bind fun h2 =>
  (pFr h2 a 1 1).bind fun x3 =>
  (pFr h2 a 1 2).bind fun x4 =>
  (pG (pIs h2 x3 6)).bind fun _ =>
  (f_64 x3 x4 h2).bind fun (x7, h6) =>
  some ((pMax 0 (pMin 100 x7)), h6)
set_option maxHeartbeats 4000000 in
theorem e_10 (d : Nat) (Q : Option Value → xH → Prop)  {h : xH} {a : Nat} {p0 : Int32} {x : Int32} {h1 : xH} (H : f_10  a p0 h = some (x, h1)) (hq : Q (some (.int x)) h1) : Wp (d + 2) 10 0 [some (.ref a), some (.int p0)] [] h Q := by
  unfold f_10 at H
  refine wp_aload_n xi_10 dX1_oddsNow_0 rfl ?_
  obtain ⟨x1, gx1, H⟩ := Option.bind_eq_some_iff.mp H
  refine wq_getfr xi_10 dX1_oddsNow_1 xf_1_9 gx1 ?_
  refine wp_bipush 9 xi_10 dX1_oddsNow_4 rfl ?_
  refine wp_iload_n xi_10 dX1_oddsNow_6 rfl ?_
  obtain ⟨h2, gh2, H⟩ := Option.bind_eq_some_iff.mp H
  refine wq_iastore xi_10 dX1_oddsNow_7 gh2 ?_
  refine wp_iconst 0 xi_10 dX1_oddsNow_8 rfl ?_
  refine wp_bipush 100 xi_10 dX1_oddsNow_9 rfl ?_
  refine wp_aload_n xi_10 dX1_oddsNow_11 rfl ?_
  obtain ⟨x3, gx3, H⟩ := Option.bind_eq_some_iff.mp H
  refine wq_getfr xi_10 dX1_oddsNow_12 xf_1_19 gx3 ?_
  refine wp_aload_n xi_10 dX1_oddsNow_15 rfl ?_
  obtain ⟨x4, gx4, H⟩ := Option.bind_eq_some_iff.mp H
  refine wq_getfr xi_10 dX1_oddsNow_16 xf_1_9 gx4 ?_
  obtain ⟨u5, gu5, H⟩ := Option.bind_eq_some_iff.mp H
  obtain ⟨⟨x7, h6⟩, gh6, H⟩ := Option.bind_eq_some_iff.mp H
  dsimp only at H
  refine wq_callV (a := x3) (as := [.ref x4]) (r := [.int 100, .int 0]) (v1 := (some (.int x7))) xi_10 xi_64 dX1_oddsNow_19 xm_1_88 rfl (Nat.le_of_ble_eq_true rfl) (pG_ok gu5) ⟨(Nat.le_of_ble_eq_true rfl), (Nat.le_of_ble_eq_true rfl)⟩ rfl nofun (e_64 d _ gh6 ⟨rfl, rfl⟩) ?_
  change Wp _ _ _ _ [.int x7, .int 100, .int 0] _ _
  refine wq_min xi_10 dX1_oddsNow_22 xm_1_94 (Nat.le_of_ble_eq_true rfl) ?_
  refine wq_max xi_10 dX1_oddsNow_25 xm_1_100 (Nat.le_of_ble_eq_true rfl) ?_
  obtain ⟨rfl, rfl⟩ := oi2 H
  exact wp_iret xi_10 dX1_oddsNow_28 hq
/- FelledHasLost$Chooser.preferLower(II)V -/
def f_12  (a : Nat) (p0 : Int32) (p1 : Int32) (h : xH) : Option (xH) :=
  (pG (pIs h a 1)).bind fun _ =>
  (f_10 a p1 h).bind fun (x3, h2) =>
  (pFi h2 a 1 7).bind fun x4 =>
  ((if x4 = (-1) then
  (pP h2 a 1 7 (.int p0)).bind fun h23 =>
  (pP h23 a 1 8 (.int x3)).bind fun h24 =>
  (pP h24 a 1 9 (.int p1)).bind fun h25 =>
  some (h25)
  else
  (pFi h2 a 1 8).bind fun x26 =>
  (if x3 < x26 then
  (pP h2 a 1 7 (.int p0)).bind fun h28 =>
  (pP h28 a 1 8 (.int x3)).bind fun h29 =>
  (pP h29 a 1 9 (.int p1)).bind fun h30 =>
  some (h30)
  else
  (pFi h2 a 1 8).bind fun x31 =>
  (if x3 = x31 then
  (pFi h2 a 1 9).bind fun x33 =>
  (if x33 ≤ p1 then
  some (h2)
  else
  (pP h2 a 1 7 (.int p0)).bind fun h35 =>
  (pP h35 a 1 8 (.int x3)).bind fun h36 =>
  (pP h36 a 1 9 (.int p1)).bind fun h37 =>
  some (h37))
  else
  some (h2))) : Option (xH))).bind fun (h21 : xH) =>
  some h21
set_option maxHeartbeats 4000000 in
theorem e_12 (d : Nat) (Q : Option Value → xH → Prop)  {h : xH} {a : Nat} {p0 : Int32} {p1 : Int32} {h1 : xH} (H : f_12  a p0 p1 h = some h1) (hq : Q none h1) : Wp (d + 3) 12 0 [some (.ref a), some (.int p0), some (.int p1), none] [] h Q := by
  unfold f_12 at H
  refine wp_aload_n xi_12 dX1_preferLower_0 rfl ?_
  refine wp_iload_n xi_12 dX1_preferLower_1 rfl ?_
  obtain ⟨u1, gu1, H⟩ := Option.bind_eq_some_iff.mp H
  obtain ⟨⟨x3, h2⟩, gh2, H⟩ := Option.bind_eq_some_iff.mp H
  dsimp only at H
  refine wq_callV (a := a) (as := [.int p1]) (r := []) (v1 := (some (.int x3))) xi_12 xi_10 dX1_preferLower_2 xm_1_113 rfl (Nat.le_of_ble_eq_true rfl) (pG_ok gu1) ⟨(Nat.le_of_ble_eq_true rfl), (Nat.le_of_ble_eq_true rfl)⟩ rfl nofun (e_10 d _ gh2 ⟨rfl, rfl⟩) ?_
  change Wp _ _ _ _ [.int x3] _ _
  refine wp_istore_n [some (.ref a), some (.int p0), some (.int p1), some (.int x3)] xi_12 dX1_preferLower_5 rfl ?_
  refine wp_aload_n xi_12 dX1_preferLower_6 rfl ?_
  obtain ⟨x4, gx4, H⟩ := Option.bind_eq_some_iff.mp H
  refine wq_getfi xi_12 dX1_preferLower_7 xf_1_103 gx4 ?_
  refine wp_iconst (-1) xi_12 dX1_preferLower_10 rfl ?_
  obtain ⟨h21, G38, H⟩ := Option.bind_eq_some_iff.mp H
  have K22 : Wp (d + 3) 12 53 [some (.ref a), some (.int p0), some (.int p1), some (.int x3)] [] h21 Q := by
    obtain rfl := Option.some.inj H
    exact wp_vret xi_12 dX1_preferLower_53 hq
  clear H
  have H := G38
  clear G38
  refine wp_icmp_eq 38 xi_12 dX1_preferLower_11 rfl (fun c5 => ?_) (fun c5 => ?_)
  · rw [if_pos c5] at H
    refine wp_aload_n xi_12 dX1_preferLower_38 rfl ?_
    refine wp_iload_n xi_12 dX1_preferLower_39 rfl ?_
    obtain ⟨h23, gh23, H⟩ := Option.bind_eq_some_iff.mp H
    refine wq_putf xi_12 dX1_preferLower_40 xf_1_103 (Or.inl rfl) gh23 ?_
    refine wp_aload_n xi_12 dX1_preferLower_43 rfl ?_
    refine wp_iload_n xi_12 dX1_preferLower_44 rfl ?_
    obtain ⟨h24, gh24, H⟩ := Option.bind_eq_some_iff.mp H
    refine wq_putf xi_12 dX1_preferLower_45 xf_1_116 (Or.inl rfl) gh24 ?_
    refine wp_aload_n xi_12 dX1_preferLower_48 rfl ?_
    refine wp_iload_n xi_12 dX1_preferLower_49 rfl ?_
    obtain ⟨h25, gh25, H⟩ := Option.bind_eq_some_iff.mp H
    refine wq_putf xi_12 dX1_preferLower_50 xf_1_119 (Or.inl rfl) gh25 ?_
    obtain rfl := Option.some.inj H
    exact Wp.more (by simp [xMore, Value.category]) K22
  · rw [if_neg c5] at H
    refine wp_iload_n xi_12 dX1_preferLower_14 rfl ?_
    refine wp_aload_n xi_12 dX1_preferLower_15 rfl ?_
    obtain ⟨x26, gx26, H⟩ := Option.bind_eq_some_iff.mp H
    refine wq_getfi xi_12 dX1_preferLower_16 xf_1_116 gx26 ?_
    refine wp_icmp_lt 38 xi_12 dX1_preferLower_19 rfl (fun c27 => ?_) (fun c27 => ?_)
    · rw [if_pos c27] at H
      refine wp_aload_n xi_12 dX1_preferLower_38 rfl ?_
      refine wp_iload_n xi_12 dX1_preferLower_39 rfl ?_
      obtain ⟨h28, gh28, H⟩ := Option.bind_eq_some_iff.mp H
      refine wq_putf xi_12 dX1_preferLower_40 xf_1_103 (Or.inl rfl) gh28 ?_
      refine wp_aload_n xi_12 dX1_preferLower_43 rfl ?_
      refine wp_iload_n xi_12 dX1_preferLower_44 rfl ?_
      obtain ⟨h29, gh29, H⟩ := Option.bind_eq_some_iff.mp H
      refine wq_putf xi_12 dX1_preferLower_45 xf_1_116 (Or.inl rfl) gh29 ?_
      refine wp_aload_n xi_12 dX1_preferLower_48 rfl ?_
      refine wp_iload_n xi_12 dX1_preferLower_49 rfl ?_
      obtain ⟨h30, gh30, H⟩ := Option.bind_eq_some_iff.mp H
      refine wq_putf xi_12 dX1_preferLower_50 xf_1_119 (Or.inl rfl) gh30 ?_
      obtain rfl := Option.some.inj H
      exact Wp.more (by simp [xMore, Value.category]) K22
    · rw [if_neg c27] at H
      refine wp_iload_n xi_12 dX1_preferLower_22 rfl ?_
      refine wp_aload_n xi_12 dX1_preferLower_23 rfl ?_
      obtain ⟨x31, gx31, H⟩ := Option.bind_eq_some_iff.mp H
      refine wq_getfi xi_12 dX1_preferLower_24 xf_1_116 gx31 ?_
      refine wp_icmp_ne 53 xi_12 dX1_preferLower_27 rfl (fun c32 => ?_) (fun c32 => ?_)
      · rw [if_neg c32] at H
        obtain rfl := Option.some.inj H
        exact Wp.more (by simp [xMore, Value.category]) K22
      · rw [if_pos c32] at H
        refine wp_iload_n xi_12 dX1_preferLower_30 rfl ?_
        refine wp_aload_n xi_12 dX1_preferLower_31 rfl ?_
        obtain ⟨x33, gx33, H⟩ := Option.bind_eq_some_iff.mp H
        refine wq_getfi xi_12 dX1_preferLower_32 xf_1_119 gx33 ?_
        refine wp_icmp_ge 53 xi_12 dX1_preferLower_35 rfl (fun c34 => ?_) (fun c34 => ?_)
        · rw [if_pos c34] at H
          obtain rfl := Option.some.inj H
          exact Wp.more (by simp [xMore, Value.category]) K22
        · rw [if_neg c34] at H
          refine wp_aload_n xi_12 dX1_preferLower_38 rfl ?_
          refine wp_iload_n xi_12 dX1_preferLower_39 rfl ?_
          obtain ⟨h35, gh35, H⟩ := Option.bind_eq_some_iff.mp H
          refine wq_putf xi_12 dX1_preferLower_40 xf_1_103 (Or.inl rfl) gh35 ?_
          refine wp_aload_n xi_12 dX1_preferLower_43 rfl ?_
          refine wp_iload_n xi_12 dX1_preferLower_44 rfl ?_
          obtain ⟨h36, gh36, H⟩ := Option.bind_eq_some_iff.mp H
          refine wq_putf xi_12 dX1_preferLower_45 xf_1_116 (Or.inl rfl) gh36 ?_
          refine wp_aload_n xi_12 dX1_preferLower_48 rfl ?_
          refine wp_iload_n xi_12 dX1_preferLower_49 rfl ?_
          obtain ⟨h37, gh37, H⟩ := Option.bind_eq_some_iff.mp H
          refine wq_putf xi_12 dX1_preferLower_50 xf_1_119 (Or.inl rfl) gh37 ?_
          obtain rfl := Option.some.inj H
          exact Wp.more (by simp [xMore, Value.category]) K22
