/- FelledHasLost$Tower.landing(I)I -/
def f_103  (a : Nat) (p0 : Int32) (h : xH) : Option (Int32 × xH) :=
  (pFi h a 10 4).bind fun x1 =>
  (pG (pIs h a 10)).bind fun _ =>
  (f_97 a (x1 - 1) h).bind fun (x4, h3) =>
  ((if (3 : Int32) ≤ x4 then
  (pFi h3 a 10 4).bind fun x9 =>
  some (x9)
  else
  some ((x1 - 1)) : Option (Int32))).bind fun (w7 : Int32) =>
  (pRem p0 10).bind fun x10 =>
  some (((3 * w7) + x10), h3)
set_option maxHeartbeats 4000000 in
theorem e_103 (d : Nat) (Q : Option Value → xH → Prop)  {h : xH} {a : Nat} {p0 : Int32} {x : Int32} {h1 : xH} (H : f_103  a p0 h = some (x, h1)) (hq : Q (some (.int x)) h1) : Wp (d + 2) 103 0 [some (.ref a), some (.int p0), none] [] h Q := by
  unfold f_103 at H
  refine wp_aload_n xi_103 dX10_landing_0 rfl ?_
  obtain ⟨x1, gx1, H⟩ := Option.bind_eq_some_iff.mp H
  refine wq_getfi xi_103 dX10_landing_1 xf_10_69 gx1 ?_
  refine wp_iconst 1 xi_103 dX10_landing_4 rfl ?_
  refine wp_isub xi_103 dX10_landing_5 ?_
  refine wp_istore_n [some (.ref a), some (.int p0), some (.int (x1 - 1))] xi_103 dX10_landing_6 rfl ?_
  refine wp_iconst 3 xi_103 dX10_landing_7 rfl ?_
  refine wp_aload_n xi_103 dX10_landing_8 rfl ?_
  refine wp_iload_n xi_103 dX10_landing_9 rfl ?_
  obtain ⟨u2, gu2, H⟩ := Option.bind_eq_some_iff.mp H
  obtain ⟨⟨x4, h3⟩, gh3, H⟩ := Option.bind_eq_some_iff.mp H
  dsimp only at H
  refine wq_callV (a := a) (as := [.int (x1 - 1)]) (r := [.int 3]) (v1 := (some (.int x4))) xi_103 xi_97 dX10_landing_10 xm_10_93 rfl (Nat.le_of_ble_eq_true rfl) (pG_ok gu2) ⟨(Nat.le_of_ble_eq_true rfl), (Nat.le_of_ble_eq_true rfl)⟩ rfl nofun (e_97 d _ gh3 ⟨rfl, rfl⟩) ?_
  change Wp _ _ _ _ [.int x4, .int 3] _ _
  refine wp_iconst 3 xi_103 dX10_landing_13 rfl ?_
  obtain ⟨w7, G11, H⟩ := Option.bind_eq_some_iff.mp H
  have K8 : Wp (d + 2) 103 25 [some (.ref a), some (.int p0), some (.int (x1 - 1))] [.int w7, .int 3] h3 Q := by
    refine wp_imul xi_103 dX10_landing_25 ?_
    refine wp_iload_n xi_103 dX10_landing_26 rfl ?_
    refine wp_bipush 10 xi_103 dX10_landing_27 rfl ?_
    obtain ⟨x10, gx10, H⟩ := Option.bind_eq_some_iff.mp H
    refine wq_irem xi_103 dX10_landing_29 gx10 ?_
    refine wp_iadd xi_103 dX10_landing_30 ?_
    obtain ⟨rfl, rfl⟩ := oi2 H
    exact wp_iret xi_103 dX10_landing_31 hq
  clear H
  have H := G11
  clear G11
  refine wp_icmp_ge 21 xi_103 dX10_landing_14 rfl (fun c5 => ?_) (fun c5 => ?_)
  · rw [if_pos c5] at H
    refine wp_aload_n xi_103 dX10_landing_21 rfl ?_
    obtain ⟨x9, gx9, H⟩ := Option.bind_eq_some_iff.mp H
    refine wq_getfi xi_103 dX10_landing_22 xf_10_69 gx9 ?_
    obtain rfl := Option.some.inj H
    exact Wp.more (by simp [xMore, Value.category]) K8
  · rw [if_neg c5] at H
    refine wp_iload_n xi_103 dX10_landing_17 rfl ?_
    refine wp_goto 25 xi_103 dX10_landing_18 rfl ?_
    obtain rfl := Option.some.inj H
    exact Wp.more (by simp [xMore, Value.category]) K8
/- FelledHasLost.sign(I)I -/
def f_105  (a : Nat) (p0 : Int32) (h : xH) : Option (Int32 × xH) :=
  (pFr h a 11 0).bind fun x1 =>
  (pG (pIs h x1 8)).bind fun _ =>
  (f_73 x1 p0 h).bind fun (x4, h3) =>
  ((if x4 = 0 then
  some ((-1))
  else
  (pFr h3 a 11 0).bind fun x10 =>
  (pFi h3 x10 8 1).bind fun x11 =>
  some (x11) : Option (Int32))).bind fun (w8 : Int32) =>
  some (w8, h3)
set_option maxHeartbeats 4000000 in
theorem e_105 (d : Nat) (Q : Option Value → xH → Prop)  {h : xH} {a : Nat} {p0 : Int32} {x : Int32} {h1 : xH} (H : f_105  a p0 h = some (x, h1)) (hq : Q (some (.int x)) h1) : Wp (d + 1) 105 0 [some (.ref a), some (.int p0)] [] h Q := by
  unfold f_105 at H
  refine wp_aload_n xi_105 dX11_sign_0 rfl ?_
  obtain ⟨x1, gx1, H⟩ := Option.bind_eq_some_iff.mp H
  refine wq_getfr xi_105 dX11_sign_1 xf_11_12 gx1 ?_
  refine wp_iload_n xi_105 dX11_sign_4 rfl ?_
  obtain ⟨u2, gu2, H⟩ := Option.bind_eq_some_iff.mp H
  obtain ⟨⟨x4, h3⟩, gh3, H⟩ := Option.bind_eq_some_iff.mp H
  dsimp only at H
  refine wq_callV (a := x1) (as := [.int p0]) (r := []) (v1 := (some (.int x4))) xi_105 xi_73 dX11_sign_5 xm_11_118 rfl (Nat.le_of_ble_eq_true rfl) (pG_ok gu2) ⟨(Nat.le_of_ble_eq_true rfl), (Nat.le_of_ble_eq_true rfl)⟩ rfl nofun (e_73 d _ gh3 ⟨rfl, rfl⟩) ?_
  change Wp _ _ _ _ [.int x4] _ _
  obtain ⟨w8, G12, H⟩ := Option.bind_eq_some_iff.mp H
  have K9 : Wp (d + 1) 105 22 [some (.ref a), some (.int p0)] [.int w8] h3 Q := by
    obtain ⟨rfl, rfl⟩ := oi2 H
    exact wp_iret xi_105 dX11_sign_22 hq
  clear H
  have H := G12
  clear G12
  refine wp_if_eq 21 xi_105 dX11_sign_8 rfl (fun c5 => ?_) (fun c5 => ?_)
  · rw [if_pos c5] at H
    refine wp_iconst (-1) xi_105 dX11_sign_21 rfl ?_
    obtain rfl := Option.some.inj H
    exact Wp.more (by simp [xMore, Value.category]) K9
  · rw [if_neg c5] at H
    refine wp_aload_n xi_105 dX11_sign_11 rfl ?_
    obtain ⟨x10, gx10, H⟩ := Option.bind_eq_some_iff.mp H
    refine wq_getfr xi_105 dX11_sign_12 xf_11_12 gx10 ?_
    obtain ⟨x11, gx11, H⟩ := Option.bind_eq_some_iff.mp H
    refine wq_getfi xi_105 dX11_sign_15 xf_11_122 gx11 ?_
    refine wp_goto 22 xi_105 dX11_sign_18 rfl ?_
    obtain rfl := Option.some.inj H
    exact Wp.more (by simp [xMore, Value.category]) K9
/- FelledHasLost.end(I)Z -/
def f_106  (a : Nat) (p0 : Int32) (h : xH) : Option (Int32 × xH) :=
  (pFr h a 11 0).bind fun x1 =>
  (pG (pIs h x1 8)).bind fun _ =>
  (f_74 x1 p0 h).bind fun (x4, h3) =>
  pZ x4 h3
set_option maxHeartbeats 4000000 in
theorem e_106 (d : Nat) (Q : Option Value → xH → Prop)  {h : xH} {a : Nat} {p0 : Int32} {x : Int32} {h1 : xH} (H : f_106  a p0 h = some (x, h1)) (hq : Q (some (.int x)) h1) : Wp (d + 1) 106 0 [some (.ref a), some (.int p0)] [] h Q := by
  unfold f_106 at H
  refine wp_aload_n xi_106 dX11_end_0 rfl ?_
  obtain ⟨x1, gx1, H⟩ := Option.bind_eq_some_iff.mp H
  refine wq_getfr xi_106 dX11_end_1 xf_11_12 gx1 ?_
  refine wp_iload_n xi_106 dX11_end_4 rfl ?_
  obtain ⟨u2, gu2, H⟩ := Option.bind_eq_some_iff.mp H
  obtain ⟨⟨x4, h3⟩, gh3, H⟩ := Option.bind_eq_some_iff.mp H
  dsimp only at H
  refine wq_callV (a := x1) (as := [.int p0]) (r := []) (v1 := (some (.int x4))) xi_106 xi_74 dX11_end_5 xm_11_125 rfl (Nat.le_of_ble_eq_true rfl) (pG_ok gu2) ⟨(Nat.le_of_ble_eq_true rfl), (Nat.le_of_ble_eq_true rfl)⟩ rfl nofun (e_74 d _ gh3 ⟨rfl, rfl⟩) ?_
  change Wp _ _ _ _ [.int x4] _ _
  obtain ⟨gz, hz⟩ := pZ_ok H
  obtain ⟨rfl, rfl⟩ := Prod.mk.inj hz
  exact wp_zret xi_106 dX11_end_8 gz hq
/- FelledHasLost.wrongHand()I -/
def f_110_2  : Nat → Nat → Int32 → xH → Option ((xH) ⊕ (Int32 × xH))
  | 0, _, _, _ => none
  | n + 1, a0, a1, h =>
  (pFr h a0 11 0).bind fun x1 =>
  (pFi h x1 8 1).bind fun x2 =>
  (if x2 ≤ a1 then
  some (.inl (h))
  else
  (if (4 : Int32) ≤ a1 then
  some (.inl (h))
  else
  (pFr h a0 11 0).bind fun x5 =>
  (pG (pIs h x5 8)).bind fun _ =>
  (f_76 x5 a1 h).bind fun (x8, h7) =>
  (if x8 = 0 then
  some (.inr (a1, h7))
  else
  f_110_2 n a0 (a1 + 1) h7)))
theorem ef_110_2 (d : Nat) (Q : Option Value → xH → Prop)  : ∀ (n : Nat) (a0 : Nat) (a1 : Int32) (h : xH) (r : (xH) ⊕ (Int32 × xH)), f_110_2 n a0 a1 h = some r → (∀  (h1 : xH), r = .inl h1 → Wp (d + 1) 110 37 [some (.ref a0), none] [] h1 Q) → (∀ (x : Int32) (h1 : xH), r = .inr (x, h1) → Q (some (.int x)) h1) → Wp (d + 1) 110 2 [some (.ref a0), some (.int a1)] [] h Q := by
  intro n
  induction n with
  | zero =>
    intro a0 a1 h r H
    cases H
  | succ n ih =>
    intro a0 a1 h r H KE KR
    unfold f_110_2 at H
    refine wp_iload_n xi_110 dX11_wrongHand_2 rfl ?_
    refine wp_aload_n xi_110 dX11_wrongHand_3 rfl ?_
    obtain ⟨x1, gx1, H⟩ := Option.bind_eq_some_iff.mp H
    refine wq_getfr xi_110 dX11_wrongHand_4 xf_11_12 gx1 ?_
    obtain ⟨x2, gx2, H⟩ := Option.bind_eq_some_iff.mp H
    refine wq_getfi xi_110 dX11_wrongHand_7 xf_11_122 gx2 ?_
    refine wp_icmp_ge 37 xi_110 dX11_wrongHand_10 rfl (fun c3 => ?_) (fun c3 => ?_)
    · rw [if_pos c3] at H
      obtain rfl := Option.some.inj H
      exact Wp.more (by simp [xMore, Value.category]) (KE  h rfl)
    · rw [if_neg c3] at H
      refine wp_iload_n xi_110 dX11_wrongHand_13 rfl ?_
      refine wp_iconst 4 xi_110 dX11_wrongHand_14 rfl ?_
      refine wp_icmp_ge 37 xi_110 dX11_wrongHand_15 rfl (fun c4 => ?_) (fun c4 => ?_)
      · rw [if_pos c4] at H
        obtain rfl := Option.some.inj H
        exact Wp.more (by simp [xMore, Value.category]) (KE  h rfl)
      · rw [if_neg c4] at H
        refine wp_aload_n xi_110 dX11_wrongHand_18 rfl ?_
        obtain ⟨x5, gx5, H⟩ := Option.bind_eq_some_iff.mp H
        refine wq_getfr xi_110 dX11_wrongHand_19 xf_11_12 gx5 ?_
        refine wp_iload_n xi_110 dX11_wrongHand_22 rfl ?_
        obtain ⟨u6, gu6, H⟩ := Option.bind_eq_some_iff.mp H
        obtain ⟨⟨x8, h7⟩, gh7, H⟩ := Option.bind_eq_some_iff.mp H
        dsimp only at H
        refine wq_callV (a := x5) (as := [.int a1]) (r := []) (v1 := (some (.int x8))) xi_110 xi_76 dX11_wrongHand_23 xm_11_162 rfl (Nat.le_of_ble_eq_true rfl) (pG_ok gu6) ⟨(Nat.le_of_ble_eq_true rfl), (Nat.le_of_ble_eq_true rfl)⟩ rfl nofun (e_76 d _ gh7 ⟨rfl, rfl⟩) ?_
        change Wp _ _ _ _ [.int x8] _ _
        refine wp_if_ne 31 xi_110 dX11_wrongHand_26 rfl (fun c9 => ?_) (fun c9 => ?_)
        · rw [if_neg c9] at H
          refine wp_iinc (a1 + 1) [some (.ref a0), some (.int (a1 + 1))] xi_110 dX11_wrongHand_31 rfl rfl rfl ?_
          refine wp_goto 2 xi_110 dX11_wrongHand_34 rfl ?_
          exact Wp.more (by simp [xMore, Value.category]) (ih a0 (a1 + 1) h7 _ H KE KR)
        · rw [if_pos c9] at H
          refine wp_iload_n xi_110 dX11_wrongHand_29 rfl ?_
          obtain rfl := Option.some.inj H
          exact wp_iret xi_110 dX11_wrongHand_30 (KR _ _ rfl)
def f_110  (a : Nat) (h : xH) : Option (Int32 × xH) :=
  (f_110_2 100000 a 0 h).bind fun r4 => match r4 with
  | .inl h1 =>
  (pFr h1 a 11 0).bind fun x5 =>
  (pFi h1 x5 8 1).bind fun x6 =>
  (if x6 = 0 then
  some (0, h1)
  else
  (pFr h1 a 11 0).bind fun x8 =>
  (pFi h1 x8 8 1).bind fun x9 =>
  ((if x9 ≤ 4 then
  some ((-1))
  else
  some (4) : Option (Int32))).bind fun (w11 : Int32) =>
  some (w11, h1))
  | .inr (x14, h15) => some (x14, h15)
set_option maxHeartbeats 4000000 in
theorem e_110 (d : Nat) (Q : Option Value → xH → Prop)  {h : xH} {a : Nat} {x : Int32} {h1 : xH} (H : f_110  a h = some (x, h1)) (hq : Q (some (.int x)) h1) : Wp (d + 1) 110 0 [some (.ref a), none] [] h Q := by
  unfold f_110 at H
  refine wp_iconst 0 xi_110 dX11_wrongHand_0 rfl ?_
  refine wp_istore_n [some (.ref a), some (.int 0)] xi_110 dX11_wrongHand_1 rfl ?_
  obtain ⟨r4, G2, H⟩ := Option.bind_eq_some_iff.mp H
  refine Wp.more (by simp [xMore, Value.category]) (ef_110_2 d Q  100000 a 0 h _ G2 (fun z0 e9 => ?_) (fun x1 h1 e9 => ?_))
  · subst e9
    dsimp only at H
    obtain ⟨h1, rfl⟩ : ∃ z, z = z0 := ⟨_, rfl⟩
    refine wp_aload_n xi_110 dX11_wrongHand_37 rfl ?_
    obtain ⟨x5, gx5, H⟩ := Option.bind_eq_some_iff.mp H
    refine wq_getfr xi_110 dX11_wrongHand_38 xf_11_12 gx5 ?_
    obtain ⟨x6, gx6, H⟩ := Option.bind_eq_some_iff.mp H
    refine wq_getfi xi_110 dX11_wrongHand_41 xf_11_122 gx6 ?_
    refine wp_if_ne 49 xi_110 dX11_wrongHand_44 rfl (fun c7 => ?_) (fun c7 => ?_)
    · rw [if_neg c7] at H
      refine wp_aload_n xi_110 dX11_wrongHand_49 rfl ?_
      obtain ⟨x8, gx8, H⟩ := Option.bind_eq_some_iff.mp H
      refine wq_getfr xi_110 dX11_wrongHand_50 xf_11_12 gx8 ?_
      obtain ⟨x9, gx9, H⟩ := Option.bind_eq_some_iff.mp H
      refine wq_getfi xi_110 dX11_wrongHand_53 xf_11_122 gx9 ?_
      refine wp_iconst 4 xi_110 dX11_wrongHand_56 rfl ?_
      obtain ⟨w11, G13, H⟩ := Option.bind_eq_some_iff.mp H
      have K12 : Wp (d + 1) 110 65 [some (.ref a), none] [.int w11] h1 Q := by
        obtain ⟨rfl, rfl⟩ := oi2 H
        exact wp_iret xi_110 dX11_wrongHand_65 hq
      clear H
      have H := G13
      clear G13
      refine wp_icmp_le 64 xi_110 dX11_wrongHand_57 rfl (fun c10 => ?_) (fun c10 => ?_)
      · rw [if_pos c10] at H
        refine wp_iconst (-1) xi_110 dX11_wrongHand_64 rfl ?_
        obtain rfl := Option.some.inj H
        exact Wp.more (by simp [xMore, Value.category]) K12
      · rw [if_neg c10] at H
        refine wp_iconst 4 xi_110 dX11_wrongHand_60 rfl ?_
        refine wp_goto 65 xi_110 dX11_wrongHand_61 rfl ?_
        obtain rfl := Option.some.inj H
        exact Wp.more (by simp [xMore, Value.category]) K12
    · rw [if_pos c7] at H
      refine wp_iconst 0 xi_110 dX11_wrongHand_47 rfl ?_
      obtain ⟨rfl, rfl⟩ := oi2 H
      exact wp_iret xi_110 dX11_wrongHand_48 hq
  · subst e9
    dsimp only at H
    obtain ⟨rfl, rfl⟩ := oi2 H
    exact hq
/- FelledHasLost.entry(II)I -/
def f_117  (p0 : Int32) (p1 : Int32) (h : xH) : Option (Int32 × xH) :=
  (if p0 = 0 then
  some ((p1 : Int32).toInt8.toInt32, h)
  else
  ((if p0 = 1 then
  some ((p1 : Int32).toInt16.toInt32)
  else
  some (p1) : Option (Int32))).bind fun (w3 : Int32) =>
  some (w3, h))
set_option maxHeartbeats 4000000 in
theorem e_117 (d : Nat) (Q : Option Value → xH → Prop)  {h : xH} {p0 : Int32} {p1 : Int32} {x : Int32} {h1 : xH} (H : f_117  p0 p1 h = some (x, h1)) (hq : Q (some (.int x)) h1) : Wp (d + 0) 117 0 [some (.int p0), some (.int p1)] [] h Q := by
  unfold f_117 at H
  refine wp_iload_n xi_117 dX11_entry_0 rfl ?_
  refine wp_if_ne 7 xi_117 dX11_entry_1 rfl (fun c1 => ?_) (fun c1 => ?_)
  · rw [if_neg c1] at H
    refine wp_iload_n xi_117 dX11_entry_7 rfl ?_
    refine wp_iconst 1 xi_117 dX11_entry_8 rfl ?_
    obtain ⟨w3, G5, H⟩ := Option.bind_eq_some_iff.mp H
    have K4 : Wp (d + 0) 117 18 [some (.int p0), some (.int p1)] [.int w3] h Q := by
      obtain ⟨rfl, rfl⟩ := oi2 H
      exact wp_iret xi_117 dX11_entry_18 hq
    clear H
    have H := G5
    clear G5
    refine wp_icmp_ne 17 xi_117 dX11_entry_9 rfl (fun c2 => ?_) (fun c2 => ?_)
    · rw [if_neg c2] at H
      refine wp_iload_n xi_117 dX11_entry_17 rfl ?_
      obtain rfl := Option.some.inj H
      exact Wp.more (by simp [xMore, Value.category]) K4
    · rw [if_pos c2] at H
      refine wp_iload_n xi_117 dX11_entry_12 rfl ?_
      refine wp_i2s xi_117 dX11_entry_13 ?_
      refine wp_goto 18 xi_117 dX11_entry_14 rfl ?_
      obtain rfl := Option.some.inj H
      exact Wp.more (by simp [xMore, Value.category]) K4
  · rw [if_pos c1] at H
    refine wp_iload_n xi_117 dX11_entry_4 rfl ?_
    refine wp_i2b xi_117 dX11_entry_5 ?_
    obtain ⟨rfl, rfl⟩ := oi2 H
    exact wp_iret xi_117 dX11_entry_6 hq
/- FelledHasLost.table(II)Z -/
def f_118  (a : Nat) (p0 : Int32) (p1 : Int32) (h : xH) : Option (Int32 × xH) :=
  (if p0 < 0 then
  pZ 0 h
  else
  (if (1 : Int32) < p0 then
  pZ 0 h
  else
  (if p1 < (-9) then
  pZ 0 h
  else
  (if p1 ≤ 9 then
  (pFr h a 11 6).bind fun x5 =>
  (pFr h x5 0 0).bind fun x6 =>
  (pSi h x6 p0 p1).bind fun h7 =>
  pZ 1 h7
  else
  pZ 0 h))))
set_option maxHeartbeats 4000000 in
theorem e_118 (d : Nat) (Q : Option Value → xH → Prop)  {h : xH} {a : Nat} {p0 : Int32} {p1 : Int32} {x : Int32} {h1 : xH} (H : f_118  a p0 p1 h = some (x, h1)) (hq : Q (some (.int x)) h1) : Wp (d + 0) 118 0 [some (.ref a), some (.int p0), some (.int p1)] [] h Q := by
  unfold f_118 at H
  refine wp_iload_n xi_118 dX11_table_0 rfl ?_
  refine wp_if_lt 21 xi_118 dX11_table_1 rfl (fun c1 => ?_) (fun c1 => ?_)
  · rw [if_pos c1] at H
    refine wp_iconst 0 xi_118 dX11_table_21 rfl ?_
    obtain ⟨gz, hz⟩ := pZ_ok H
    obtain ⟨rfl, rfl⟩ := Prod.mk.inj hz
    exact wp_zret xi_118 dX11_table_22 gz hq
  · rw [if_neg c1] at H
    refine wp_iload_n xi_118 dX11_table_4 rfl ?_
    refine wp_iconst 1 xi_118 dX11_table_5 rfl ?_
    refine wp_icmp_gt 21 xi_118 dX11_table_6 rfl (fun c2 => ?_) (fun c2 => ?_)
    · rw [if_pos c2] at H
      refine wp_iconst 0 xi_118 dX11_table_21 rfl ?_
      obtain ⟨gz, hz⟩ := pZ_ok H
      obtain ⟨rfl, rfl⟩ := Prod.mk.inj hz
      exact wp_zret xi_118 dX11_table_22 gz hq
    · rw [if_neg c2] at H
      refine wp_iload_n xi_118 dX11_table_9 rfl ?_
      refine wp_bipush (-9) xi_118 dX11_table_10 rfl ?_
      refine wp_icmp_lt 21 xi_118 dX11_table_12 rfl (fun c3 => ?_) (fun c3 => ?_)
      · rw [if_pos c3] at H
        refine wp_iconst 0 xi_118 dX11_table_21 rfl ?_
        obtain ⟨gz, hz⟩ := pZ_ok H
        obtain ⟨rfl, rfl⟩ := Prod.mk.inj hz
        exact wp_zret xi_118 dX11_table_22 gz hq
      · rw [if_neg c3] at H
        refine wp_iload_n xi_118 dX11_table_15 rfl ?_
        refine wp_bipush 9 xi_118 dX11_table_16 rfl ?_
        refine wp_icmp_le 23 xi_118 dX11_table_18 rfl (fun c4 => ?_) (fun c4 => ?_)
        · rw [if_pos c4] at H
          refine wp_aload_n xi_118 dX11_table_23 rfl ?_
          obtain ⟨x5, gx5, H⟩ := Option.bind_eq_some_iff.mp H
          refine wq_getfr xi_118 dX11_table_24 xf_11_48 gx5 ?_
          obtain ⟨x6, gx6, H⟩ := Option.bind_eq_some_iff.mp H
          refine wq_getfr xi_118 dX11_table_27 xf_11_240 gx6 ?_
          refine wp_iload_n xi_118 dX11_table_30 rfl ?_
          refine wp_iload_n xi_118 dX11_table_31 rfl ?_
          obtain ⟨h7, gh7, H⟩ := Option.bind_eq_some_iff.mp H
          refine wq_iastore xi_118 dX11_table_32 gh7 ?_
          refine wp_iconst 1 xi_118 dX11_table_33 rfl ?_
          obtain ⟨gz, hz⟩ := pZ_ok H
          obtain ⟨rfl, rfl⟩ := Prod.mk.inj hz
          exact wp_zret xi_118 dX11_table_34 gz hq
        · rw [if_neg c4] at H
          refine wp_iconst 0 xi_118 dX11_table_21 rfl ?_
          obtain ⟨gz, hz⟩ := pZ_ok H
          obtain ⟨rfl, rfl⟩ := Prod.mk.inj hz
          exact wp_zret xi_118 dX11_table_22 gz hq
/- FelledHasLost.lean(I)I -/
def f_124_29  : Nat → Nat → Int32 → Nat → Int32 → Int32 → Int32 → xH → Option (Int32 × Int32 × xH)
  | 0, _, _, _, _, _, _, _ => none
  | n + 1, a0, a1, a2, a3, a4, a5, h =>
  (pFi h a2 10 4).bind fun x1 =>
  (if x1 ≤ a5 then
  some (a3, a4, h)
  else
  (pRem a5 2).bind fun x3 =>
  ((if x3 = a1 then
  (pFr h a2 10 2).bind fun x9 =>
  (pAi h x9 a5).bind fun x10 =>
  some (x10)
  else
  some (0) : Option (Int32))).bind fun (w7 : Int32) =>
  (pFr h a2 10 1).bind fun x11 =>
  (pAi h x11 a5).bind fun x12 =>
  f_124_29 n a0 a1 a2 (a3 + w7) (a4 + x12) (a5 + 1) h)
theorem ef_124_29 (d : Nat) (Q : Option Value → xH → Prop)  : ∀ (n : Nat) (a0 : Nat) (a1 : Int32) (a2 : Nat) (a3 : Int32) (a4 : Int32) (a5 : Int32) (h : xH) (r : Int32 × Int32 × xH), f_124_29 n a0 a1 a2 a3 a4 a5 h = some r → (∀ (w3 : Int32) (w4 : Int32) (h1 : xH), r = (w3, w4, h1) → Wp (d + 1) 124 78 [some (.ref a0), none, none, some (.int w3), some (.int w4), none] [] h1 Q) → Wp (d + 1) 124 29 [some (.ref a0), some (.int a1), some (.ref a2), some (.int a3), some (.int a4), some (.int a5)] [] h Q := by
  intro n
  induction n with
  | zero =>
    intro a0 a1 a2 a3 a4 a5 h r H
    cases H
  | succ n ih =>
    intro a0 a1 a2 a3 a4 a5 h r H KE
    unfold f_124_29 at H
    refine wp_iload xi_124 dX11_lean_29 rfl ?_
    refine wp_aload_n xi_124 dX11_lean_31 rfl ?_
    obtain ⟨x1, gx1, H⟩ := Option.bind_eq_some_iff.mp H
    refine wq_getfi xi_124 dX11_lean_32 xf_11_147 gx1 ?_
    refine wp_icmp_ge 78 xi_124 dX11_lean_35 rfl (fun c2 => ?_) (fun c2 => ?_)
    · rw [if_pos c2] at H
      obtain rfl := Option.some.inj H
      exact Wp.more (by simp [xMore, Value.category]) (KE a3 a4 h rfl)
    · rw [if_neg c2] at H
      refine wp_iload_n xi_124 dX11_lean_38 rfl ?_
      refine wp_iload xi_124 dX11_lean_39 rfl ?_
      refine wp_iconst 2 xi_124 dX11_lean_41 rfl ?_
      obtain ⟨x3, gx3, H⟩ := Option.bind_eq_some_iff.mp H
      refine wq_irem xi_124 dX11_lean_42 gx3 ?_
      refine wp_iload_n xi_124 dX11_lean_43 rfl ?_
      obtain ⟨w7, G13, H⟩ := Option.bind_eq_some_iff.mp H
      have K8 : Wp (d + 1) 124 58 [some (.ref a0), some (.int a1), some (.ref a2), some (.int a3), some (.int a4), some (.int a5)] [.int w7, .int a3] h Q := by
        refine wp_iadd xi_124 dX11_lean_58 ?_
        refine wp_istore_n [some (.ref a0), some (.int a1), some (.ref a2), some (.int (a3 + w7)), some (.int a4), some (.int a5)] xi_124 dX11_lean_59 rfl ?_
        refine wp_iload xi_124 dX11_lean_60 rfl ?_
        refine wp_aload_n xi_124 dX11_lean_62 rfl ?_
        obtain ⟨x11, gx11, H⟩ := Option.bind_eq_some_iff.mp H
        refine wq_getfr xi_124 dX11_lean_63 xf_11_270 gx11 ?_
        refine wp_iload xi_124 dX11_lean_66 rfl ?_
        obtain ⟨x12, gx12, H⟩ := Option.bind_eq_some_iff.mp H
        refine wq_iaload xi_124 dX11_lean_68 gx12 ?_
        refine wp_iadd xi_124 dX11_lean_69 ?_
        refine wp_istore [some (.ref a0), some (.int a1), some (.ref a2), some (.int (a3 + w7)), some (.int (a4 + x12)), some (.int a5)] xi_124 dX11_lean_70 rfl ?_
        refine wp_iinc (a5 + 1) [some (.ref a0), some (.int a1), some (.ref a2), some (.int (a3 + w7)), some (.int (a4 + x12)), some (.int (a5 + 1))] xi_124 dX11_lean_72 rfl rfl rfl ?_
        refine wp_goto 29 xi_124 dX11_lean_75 rfl ?_
        exact Wp.more (by simp [xMore, Value.category]) (ih a0 a1 a2 (a3 + w7) (a4 + x12) (a5 + 1) h _ H KE)
      clear H
      have H := G13
      clear G13
      refine wp_icmp_ne 57 xi_124 dX11_lean_44 rfl (fun c4 => ?_) (fun c4 => ?_)
      · rw [if_neg c4] at H
        refine wp_iconst 0 xi_124 dX11_lean_57 rfl ?_
        obtain rfl := Option.some.inj H
        exact Wp.more (by simp [xMore, Value.category]) K8
      · rw [if_pos c4] at H
        refine wp_aload_n xi_124 dX11_lean_47 rfl ?_
        obtain ⟨x9, gx9, H⟩ := Option.bind_eq_some_iff.mp H
        refine wq_getfr xi_124 dX11_lean_48 xf_11_267 gx9 ?_
        refine wp_iload xi_124 dX11_lean_51 rfl ?_
        obtain ⟨x10, gx10, H⟩ := Option.bind_eq_some_iff.mp H
        refine wq_iaload xi_124 dX11_lean_53 gx10 ?_
        refine wp_goto 58 xi_124 dX11_lean_54 rfl ?_
        obtain rfl := Option.some.inj H
        exact Wp.more (by simp [xMore, Value.category]) K8
def f_124  (a : Nat) (p0 : Int32) (h : xH) : Option (Int32 × xH) :=
  (if p0 < 0 then
  some ((-100000), h)
  else
  (if p0 ≤ 1 then
  (pFr h a 11 2).bind fun x3 =>
  (pFr h x3 7 0).bind fun x4 =>
  (f_124_29 100000 a p0 x4 0 0 0 h).bind fun (w6, w7, h5) =>
  (pFr h5 a 11 1).bind fun x10 =>
  (pG (pIs h5 x10 5)).bind fun _ =>
  (f_50 x10 h5).bind fun h12 =>
  (pFr h12 a 11 1).bind fun x13 =>
  (pG (pIs h12 x13 5)).bind fun _ =>
  (f_51 x13 ((w7 : Int32).toInt64) h12).bind fun h15 =>
  some (w6, h15)
  else
  some ((-100000), h)))
set_option maxHeartbeats 4000000 in
theorem e_124 (d : Nat) (Q : Option Value → xH → Prop)  {h : xH} {a : Nat} {p0 : Int32} {x : Int32} {h1 : xH} (H : f_124  a p0 h = some (x, h1)) (hq : Q (some (.int x)) h1) : Wp (d + 1) 124 0 [some (.ref a), some (.int p0), none, none, none, none] [] h Q := by
  unfold f_124 at H
  refine wp_iload_n xi_124 dX11_lean_0 rfl ?_
  refine wp_if_lt 9 xi_124 dX11_lean_1 rfl (fun c1 => ?_) (fun c1 => ?_)
  · rw [if_pos c1] at H
    refine wp_ldc_w xi_124 dX11_lean_9 xc_11_266 ?_
    obtain ⟨rfl, rfl⟩ := oi2 H
    exact wp_iret xi_124 dX11_lean_12 hq
  · rw [if_neg c1] at H
    refine wp_iload_n xi_124 dX11_lean_4 rfl ?_
    refine wp_iconst 1 xi_124 dX11_lean_5 rfl ?_
    refine wp_icmp_le 13 xi_124 dX11_lean_6 rfl (fun c2 => ?_) (fun c2 => ?_)
    · rw [if_pos c2] at H
      refine wp_aload_n xi_124 dX11_lean_13 rfl ?_
      obtain ⟨x3, gx3, H⟩ := Option.bind_eq_some_iff.mp H
      refine wq_getfr xi_124 dX11_lean_14 xf_11_26 gx3 ?_
      obtain ⟨x4, gx4, H⟩ := Option.bind_eq_some_iff.mp H
      refine wq_getfr xi_124 dX11_lean_17 xf_11_132 gx4 ?_
      refine wp_astore_n [some (.ref a), some (.int p0), some (.ref x4), none, none, none] xi_124 dX11_lean_20 rfl ?_
      refine wp_iconst 0 xi_124 dX11_lean_21 rfl ?_
      refine wp_istore_n [some (.ref a), some (.int p0), some (.ref x4), some (.int 0), none, none] xi_124 dX11_lean_22 rfl ?_
      refine wp_iconst 0 xi_124 dX11_lean_23 rfl ?_
      refine wp_istore [some (.ref a), some (.int p0), some (.ref x4), some (.int 0), some (.int 0), none] xi_124 dX11_lean_24 rfl ?_
      refine wp_iconst 0 xi_124 dX11_lean_26 rfl ?_
      refine wp_istore [some (.ref a), some (.int p0), some (.ref x4), some (.int 0), some (.int 0), some (.int 0)] xi_124 dX11_lean_27 rfl ?_
      obtain ⟨⟨w6, w7, h5⟩, G8, H⟩ := Option.bind_eq_some_iff.mp H
      dsimp only at H
      refine Wp.more (by simp [xMore, Value.category]) (ef_124_29 d Q  100000 a p0 x4 0 0 0 h _ G8 (fun z0 z1 z2 e9 => ?_))
      cases e9
      refine wp_aload_n xi_124 dX11_lean_78 rfl ?_
      obtain ⟨x10, gx10, H⟩ := Option.bind_eq_some_iff.mp H
      refine wq_getfr xi_124 dX11_lean_79 xf_11_19 gx10 ?_
      obtain ⟨u11, gu11, H⟩ := Option.bind_eq_some_iff.mp H
      obtain ⟨h12, gh12, H⟩ := Option.bind_eq_some_iff.mp H
      refine wq_callV (a := x10) (as := []) (r := []) (v1 := none) xi_124 xi_50 dX11_lean_82 xm_11_244 rfl (Nat.le_of_ble_eq_true rfl) (pG_ok gu11) ⟨(Nat.le_of_ble_eq_true rfl), (Nat.le_of_ble_eq_true rfl)⟩ rfl nofun (e_50 d _ gh12 ⟨rfl, rfl⟩) ?_
      change Wp _ _ _ _ [] _ _
      refine wp_aload_n xi_124 dX11_lean_85 rfl ?_
      obtain ⟨x13, gx13, H⟩ := Option.bind_eq_some_iff.mp H
      refine wq_getfr xi_124 dX11_lean_86 xf_11_19 gx13 ?_
      refine wp_iload xi_124 dX11_lean_89 rfl ?_
      refine wp_i2l xi_124 dX11_lean_91 ?_
      obtain ⟨u14, gu14, H⟩ := Option.bind_eq_some_iff.mp H
      obtain ⟨h15, gh15, H⟩ := Option.bind_eq_some_iff.mp H
      refine wq_callV (a := x13) (as := [.long ((w7 : Int32).toInt64)]) (r := []) (v1 := none) xi_124 xi_51 dX11_lean_92 xm_11_248 rfl (Nat.le_of_ble_eq_true rfl) (pG_ok gu14) ⟨(Nat.le_of_ble_eq_true rfl), (Nat.le_of_ble_eq_true rfl)⟩ rfl nofun (e_51 d _ gh15 ⟨rfl, rfl⟩) ?_
      change Wp _ _ _ _ [] _ _
      refine wp_iload_n xi_124 dX11_lean_95 rfl ?_
      obtain ⟨rfl, rfl⟩ := oi2 H
      exact wp_iret xi_124 dX11_lean_96 hq
    · rw [if_neg c2] at H
      refine wp_ldc_w xi_124 dX11_lean_9 xc_11_266 ?_
      obtain ⟨rfl, rfl⟩ := oi2 H
      exact wp_iret xi_124 dX11_lean_12 hq
/- FelledHasLost.movable()LFelledHasLost$Tower; -/
def f_125  (a : Nat) (h : xH) : Option (Nat × xH) :=
  (pFr h a 11 2).bind fun x1 =>
  (pG (pIs h x1 7)).bind fun _ =>
  (f_68 x1 h).bind fun (x4, h3) =>
  ((if x4 = 0 then
  (pFr h3 a 11 2).bind fun x11 =>
  (pFr h3 x11 7 0).bind fun x12 =>
  some (x12)
  else
  (pFr h3 a 11 12).bind fun x13 =>
  some (x13) : Option (Nat))).bind fun (w9 : Nat) =>
  some (w9, h3)
set_option maxHeartbeats 4000000 in
theorem e_125 (d : Nat) (Q : Option Value → xH → Prop)  {h : xH} {a : Nat} {x : Nat} {h1 : xH} (H : f_125  a h = some (x, h1)) (hq : Q (some (.ref x)) h1) : Wp (d + 1) 125 0 [some (.ref a)] [] h Q := by
  unfold f_125 at H
  refine wp_aload_n xi_125 dX11_movable_0 rfl ?_
  obtain ⟨x1, gx1, H⟩ := Option.bind_eq_some_iff.mp H
  refine wq_getfr xi_125 dX11_movable_1 xf_11_26 gx1 ?_
  obtain ⟨u2, gu2, H⟩ := Option.bind_eq_some_iff.mp H
  obtain ⟨⟨x4, h3⟩, gh3, H⟩ := Option.bind_eq_some_iff.mp H
  dsimp only at H
  refine wq_callV (a := x1) (as := []) (r := []) (v1 := (some (.int x4))) xi_125 xi_68 dX11_movable_4 xm_11_273 rfl (Nat.le_of_ble_eq_true rfl) (pG_ok gu2) ⟨(Nat.le_of_ble_eq_true rfl), (Nat.le_of_ble_eq_true rfl)⟩ rfl nofun (e_68 d _ gh3 ⟨rfl, rfl⟩) ?_
  change Wp _ _ _ _ [.int x4] _ _
  obtain ⟨w9, G14, H⟩ := Option.bind_eq_some_iff.mp H
  have K10 : Wp (d + 1) 125 24 [some (.ref a)] [.ref w9] h3 Q := by
    obtain ⟨rfl, rfl⟩ := oi2 H
    exact wp_aret xi_125 dX11_movable_24 hq
  clear H
  have H := G14
  clear G14
  refine wp_if_eq 17 xi_125 dX11_movable_7 rfl (fun c5 => ?_) (fun c5 => ?_)
  · rw [if_pos c5] at H
    refine wp_aload_n xi_125 dX11_movable_17 rfl ?_
    obtain ⟨x11, gx11, H⟩ := Option.bind_eq_some_iff.mp H
    refine wq_getfr xi_125 dX11_movable_18 xf_11_26 gx11 ?_
    obtain ⟨x12, gx12, H⟩ := Option.bind_eq_some_iff.mp H
    refine wq_getfr xi_125 dX11_movable_21 xf_11_132 gx12 ?_
    obtain rfl := Option.some.inj H
    exact Wp.more (by simp [xMore, Value.category]) K10
  · rw [if_neg c5] at H
    refine wp_aload_n xi_125 dX11_movable_10 rfl ?_
    obtain ⟨x13, gx13, H⟩ := Option.bind_eq_some_iff.mp H
    refine wq_getfr xi_125 dX11_movable_11 xf_11_94 gx13 ?_
    refine wp_goto 24 xi_125 dX11_movable_14 rfl ?_
    obtain rfl := Option.some.inj H
    exact Wp.more (by simp [xMore, Value.category]) K10
/- FelledHasLost.why()I -/
def f_136  (a : Nat) (h : xH) : Option (Int32 × xH) :=
  (pFr h a 11 1).bind fun x1 =>
  (pG (pIs h x1 5)).bind fun _ =>
  (f_50 x1 h).bind fun h3 =>
  (pFr h3 a 11 2).bind fun x4 =>
  (pG (pIs h3 x4 7)).bind fun _ =>
  (f_68 x4 h3).bind fun (x7, h6) =>
  ((if x7 = 0 then
  some (h6)
  else
  (pFr h6 a 11 1).bind fun x21 =>
  (pFr h6 a 11 2).bind fun x22 =>
  (pFi h6 x22 7 4).bind fun x23 =>
  (pG (pIs h6 x21 5)).bind fun _ =>
  (f_51 x21 ((x23 : Int32).toInt64) h6).bind fun h25 =>
  (pFr h25 a 11 1).bind fun x26 =>
  (pFr h25 a 11 2).bind fun x27 =>
  (pFi h25 x27 7 5).bind fun x28 =>
  (pG (pIs h25 x26 5)).bind fun _ =>
  (f_51 x26 ((x28 : Int32).toInt64) h25).bind fun h30 =>
  some (h30) : Option (xH))).bind fun (h19 : xH) =>
  (pFr h19 a 11 2).bind fun x31 =>
  (pFi h19 x31 7 3).bind fun x32 =>
  some (x32, h19)
set_option maxHeartbeats 4000000 in
theorem e_136 (d : Nat) (Q : Option Value → xH → Prop)  {h : xH} {a : Nat} {x : Int32} {h1 : xH} (H : f_136  a h = some (x, h1)) (hq : Q (some (.int x)) h1) : Wp (d + 1) 136 0 [some (.ref a)] [] h Q := by
  unfold f_136 at H
  refine wp_aload_n xi_136 dX11_why_0 rfl ?_
  obtain ⟨x1, gx1, H⟩ := Option.bind_eq_some_iff.mp H
  refine wq_getfr xi_136 dX11_why_1 xf_11_19 gx1 ?_
  obtain ⟨u2, gu2, H⟩ := Option.bind_eq_some_iff.mp H
  obtain ⟨h3, gh3, H⟩ := Option.bind_eq_some_iff.mp H
  refine wq_callV (a := x1) (as := []) (r := []) (v1 := none) xi_136 xi_50 dX11_why_4 xm_11_244 rfl (Nat.le_of_ble_eq_true rfl) (pG_ok gu2) ⟨(Nat.le_of_ble_eq_true rfl), (Nat.le_of_ble_eq_true rfl)⟩ rfl nofun (e_50 d _ gh3 ⟨rfl, rfl⟩) ?_
  change Wp _ _ _ _ [] _ _
  refine wp_aload_n xi_136 dX11_why_7 rfl ?_
  obtain ⟨x4, gx4, H⟩ := Option.bind_eq_some_iff.mp H
  refine wq_getfr xi_136 dX11_why_8 xf_11_26 gx4 ?_
  obtain ⟨u5, gu5, H⟩ := Option.bind_eq_some_iff.mp H
  obtain ⟨⟨x7, h6⟩, gh6, H⟩ := Option.bind_eq_some_iff.mp H
  dsimp only at H
  refine wq_callV (a := x4) (as := []) (r := []) (v1 := (some (.int x7))) xi_136 xi_68 dX11_why_11 xm_11_273 rfl (Nat.le_of_ble_eq_true rfl) (pG_ok gu5) ⟨(Nat.le_of_ble_eq_true rfl), (Nat.le_of_ble_eq_true rfl)⟩ rfl nofun (e_68 d _ gh6 ⟨rfl, rfl⟩) ?_
  change Wp _ _ _ _ [.int x7] _ _
  obtain ⟨h19, G33, H⟩ := Option.bind_eq_some_iff.mp H
  have K20 : Wp (d + 1) 136 47 [some (.ref a)] [] h19 Q := by
    refine wp_aload_n xi_136 dX11_why_47 rfl ?_
    obtain ⟨x31, gx31, H⟩ := Option.bind_eq_some_iff.mp H
    refine wq_getfr xi_136 dX11_why_48 xf_11_26 gx31 ?_
    obtain ⟨x32, gx32, H⟩ := Option.bind_eq_some_iff.mp H
    refine wq_getfi xi_136 dX11_why_51 xf_11_372 gx32 ?_
    obtain ⟨rfl, rfl⟩ := oi2 H
    exact wp_iret xi_136 dX11_why_54 hq
  clear H
  have H := G33
  clear G33
  refine wp_if_eq 47 xi_136 dX11_why_14 rfl (fun c8 => ?_) (fun c8 => ?_)
  · rw [if_pos c8] at H
    obtain rfl := Option.some.inj H
    exact Wp.more (by simp [xMore, Value.category]) K20
  · rw [if_neg c8] at H
    refine wp_aload_n xi_136 dX11_why_17 rfl ?_
    obtain ⟨x21, gx21, H⟩ := Option.bind_eq_some_iff.mp H
    refine wq_getfr xi_136 dX11_why_18 xf_11_19 gx21 ?_
    refine wp_aload_n xi_136 dX11_why_21 rfl ?_
    obtain ⟨x22, gx22, H⟩ := Option.bind_eq_some_iff.mp H
    refine wq_getfr xi_136 dX11_why_22 xf_11_26 gx22 ?_
    obtain ⟨x23, gx23, H⟩ := Option.bind_eq_some_iff.mp H
    refine wq_getfi xi_136 dX11_why_25 xf_11_368 gx23 ?_
    refine wp_i2l xi_136 dX11_why_28 ?_
    obtain ⟨u24, gu24, H⟩ := Option.bind_eq_some_iff.mp H
    obtain ⟨h25, gh25, H⟩ := Option.bind_eq_some_iff.mp H
    refine wq_callV (a := x21) (as := [.long ((x23 : Int32).toInt64)]) (r := []) (v1 := none) xi_136 xi_51 dX11_why_29 xm_11_248 rfl (Nat.le_of_ble_eq_true rfl) (pG_ok gu24) ⟨(Nat.le_of_ble_eq_true rfl), (Nat.le_of_ble_eq_true rfl)⟩ rfl nofun (e_51 d _ gh25 ⟨rfl, rfl⟩) ?_
    change Wp _ _ _ _ [] _ _
    refine wp_aload_n xi_136 dX11_why_32 rfl ?_
    obtain ⟨x26, gx26, H⟩ := Option.bind_eq_some_iff.mp H
    refine wq_getfr xi_136 dX11_why_33 xf_11_19 gx26 ?_
    refine wp_aload_n xi_136 dX11_why_36 rfl ?_
    obtain ⟨x27, gx27, H⟩ := Option.bind_eq_some_iff.mp H
    refine wq_getfr xi_136 dX11_why_37 xf_11_26 gx27 ?_
    obtain ⟨x28, gx28, H⟩ := Option.bind_eq_some_iff.mp H
    refine wq_getfi xi_136 dX11_why_40 xf_11_371 gx28 ?_
    refine wp_i2l xi_136 dX11_why_43 ?_
    obtain ⟨u29, gu29, H⟩ := Option.bind_eq_some_iff.mp H
    obtain ⟨h30, gh30, H⟩ := Option.bind_eq_some_iff.mp H
    refine wq_callV (a := x26) (as := [.long ((x28 : Int32).toInt64)]) (r := []) (v1 := none) xi_136 xi_51 dX11_why_44 xm_11_248 rfl (Nat.le_of_ble_eq_true rfl) (pG_ok gu29) ⟨(Nat.le_of_ble_eq_true rfl), (Nat.le_of_ble_eq_true rfl)⟩ rfl nofun (e_51 d _ gh30 ⟨rfl, rfl⟩) ?_
    change Wp _ _ _ _ [] _ _
    obtain rfl := Option.some.inj H
    exact Wp.more (by simp [xMore, Value.category]) K20
/- FelledHasLost.commonDivisor(II)I -/
def f_145_7  : Nat → Int32 → Int32 → Int32 → xH → Option (Int32 × xH)
  | 0, _, _, _, _ => none
  | n + 1, a2, a3, a4, h =>
  (if (64 : Int32) ≤ a4 then
  some (a2, h)
  else
  (if a3 = 0 then
  some (a2, h)
  else
  (pRem a2 a3).bind fun x3 =>
  f_145_7 n a3 x3 (a4 + 1) h))
theorem ef_145_7 (d : Nat) (Q : Option Value → xH → Prop)  : ∀ (n : Nat) (a2 : Int32) (a3 : Int32) (a4 : Int32) (h : xH) (r : Int32 × xH), f_145_7 n a2 a3 a4 h = some r → (∀ (w2 : Int32) (h1 : xH), r = (w2, h1) → Wp (d + 0) 145 34 [none, none, some (.int w2), none, none, none] [] h1 Q) → Wp (d + 0) 145 7 [none, none, some (.int a2), some (.int a3), some (.int a4), none] [] h Q := by
  intro n
  induction n with
  | zero =>
    intro a2 a3 a4 h r H
    cases H
  | succ n ih =>
    intro a2 a3 a4 h r H KE
    unfold f_145_7 at H
    refine wp_iload xi_145 dX11_commonDivisor_7 rfl ?_
    refine wp_bipush 64 xi_145 dX11_commonDivisor_9 rfl ?_
    refine wp_icmp_ge 34 xi_145 dX11_commonDivisor_11 rfl (fun c1 => ?_) (fun c1 => ?_)
    · rw [if_pos c1] at H
      obtain rfl := Option.some.inj H
      exact Wp.more (by simp [xMore, Value.category]) (KE a2 h rfl)
    · rw [if_neg c1] at H
      refine wp_iload_n xi_145 dX11_commonDivisor_14 rfl ?_
      refine wp_if_eq 34 xi_145 dX11_commonDivisor_15 rfl (fun c2 => ?_) (fun c2 => ?_)
      · rw [if_pos c2] at H
        obtain rfl := Option.some.inj H
        exact Wp.more (by simp [xMore, Value.category]) (KE a2 h rfl)
      · rw [if_neg c2] at H
        refine wp_iload_n xi_145 dX11_commonDivisor_18 rfl ?_
        refine wp_iload_n xi_145 dX11_commonDivisor_19 rfl ?_
        obtain ⟨x3, gx3, H⟩ := Option.bind_eq_some_iff.mp H
        refine wq_irem xi_145 dX11_commonDivisor_20 gx3 ?_
        refine wp_istore [none, none, some (.int a2), some (.int a3), some (.int a4), some (.int x3)] xi_145 dX11_commonDivisor_21 rfl ?_
        refine wp_iload_n xi_145 dX11_commonDivisor_23 rfl ?_
        refine wp_istore_n [none, none, some (.int a3), some (.int a3), some (.int a4), some (.int x3)] xi_145 dX11_commonDivisor_24 rfl ?_
        refine wp_iload xi_145 dX11_commonDivisor_25 rfl ?_
        refine wp_istore_n [none, none, some (.int a3), some (.int x3), some (.int a4), some (.int x3)] xi_145 dX11_commonDivisor_27 rfl ?_
        refine wp_iinc (a4 + 1) [none, none, some (.int a3), some (.int x3), some (.int (a4 + 1)), some (.int x3)] xi_145 dX11_commonDivisor_28 rfl rfl rfl ?_
        refine wp_goto 7 xi_145 dX11_commonDivisor_31 rfl ?_
        exact Wp.more (by simp [xMore, Value.category]) (ih a3 x3 (a4 + 1) h _ H KE)
def f_145  (p0 : Int32) (p1 : Int32) (h : xH) : Option (Int32 × xH) :=
  (f_145_7 100000 p0 p1 0 h).bind fun (w2, h1) =>
  some ((pMax 1 w2), h1)
set_option maxHeartbeats 4000000 in
theorem e_145 (d : Nat) (Q : Option Value → xH → Prop)  {h : xH} {p0 : Int32} {p1 : Int32} {x : Int32} {h1 : xH} (H : f_145  p0 p1 h = some (x, h1)) (hq : Q (some (.int x)) h1) : Wp (d + 0) 145 0 [some (.int p0), some (.int p1), none, none, none, none] [] h Q := by
  unfold f_145 at H
  refine wp_iload_n xi_145 dX11_commonDivisor_0 rfl ?_
  refine wp_istore_n [some (.int p0), some (.int p1), some (.int p0), none, none, none] xi_145 dX11_commonDivisor_1 rfl ?_
  refine wp_iload_n xi_145 dX11_commonDivisor_2 rfl ?_
  refine wp_istore_n [some (.int p0), some (.int p1), some (.int p0), some (.int p1), none, none] xi_145 dX11_commonDivisor_3 rfl ?_
  refine wp_iconst 0 xi_145 dX11_commonDivisor_4 rfl ?_
  refine wp_istore [some (.int p0), some (.int p1), some (.int p0), some (.int p1), some (.int 0), none] xi_145 dX11_commonDivisor_5 rfl ?_
  obtain ⟨⟨w2, h1⟩, G3, H⟩ := Option.bind_eq_some_iff.mp H
  dsimp only at H
  refine Wp.more (by simp [xMore, Value.category]) (ef_145_7 d Q  100000 p0 p1 0 h _ G3 (fun z0 z1 e9 => ?_))
  cases e9
  refine wp_iconst 1 xi_145 dX11_commonDivisor_34 rfl ?_
  refine wp_iload_n xi_145 dX11_commonDivisor_35 rfl ?_
  refine wq_max xi_145 dX11_commonDivisor_36 xm_11_435 (Nat.le_of_ble_eq_true rfl) ?_
  obtain ⟨rfl, rfl⟩ := oi2 H
  exact wp_iret xi_145 dX11_commonDivisor_39 hq
/- FelledHasLost.tellShares(I)I -/
def f_147_11  : Nat → Nat → Int32 → Int32 → Int32 → xH → Option (Int32 × xH)
  | 0, _, _, _, _, _ => none
  | n + 1, a0, a1, a2, a3, h =>
  (pFi h a0 11 16).bind fun x1 =>
  (if x1 ≤ a3 then
  some (a2, h)
  else
  (if (4 : Int32) ≤ a3 then
  some (a2, h)
  else
  (pFr h a0 11 1).bind fun x4 =>
  (pFr h a0 11 15).bind fun x5 =>
  (pAi h x5 a3).bind fun x6 =>
  (pG (pIs h x4 5)).bind fun _ =>
  (f_51 x4 ((x6 : Int32).toInt64) h).bind fun h8 =>
  (pFr h8 a0 11 15).bind fun x9 =>
  (pAi h8 x9 a3).bind fun x10 =>
  (pFr h8 a0 11 15).bind fun x11 =>
  (pAi h8 x11 a2).bind fun x12 =>
  ((if x10 ≤ x12 then
  some (a2)
  else
  some (a3) : Option (Int32))).bind fun (w14 : Int32) =>
  f_147_11 n a0 a1 w14 (a3 + 1) h8))
theorem ef_147_11 (d : Nat) (Q : Option Value → xH → Prop)  : ∀ (n : Nat) (a0 : Nat) (a1 : Int32) (a2 : Int32) (a3 : Int32) (h : xH) (r : Int32 × xH), f_147_11 n a0 a1 a2 a3 h = some r → (∀ (w2 : Int32) (h1 : xH), r = (w2, h1) → Wp (d + 1) 147 61 [some (.ref a0), some (.int a1), some (.int w2), none] [] h1 Q) → Wp (d + 1) 147 11 [some (.ref a0), some (.int a1), some (.int a2), some (.int a3)] [] h Q := by
  intro n
  induction n with
  | zero =>
    intro a0 a1 a2 a3 h r H
    cases H
  | succ n ih =>
    intro a0 a1 a2 a3 h r H KE
    unfold f_147_11 at H
    refine wp_iload_n xi_147 dX11_tellShares_11 rfl ?_
    refine wp_aload_n xi_147 dX11_tellShares_12 rfl ?_
    obtain ⟨x1, gx1, H⟩ := Option.bind_eq_some_iff.mp H
    refine wq_getfi xi_147 dX11_tellShares_13 xf_11_108 gx1 ?_
    refine wp_icmp_ge 61 xi_147 dX11_tellShares_16 rfl (fun c2 => ?_) (fun c2 => ?_)
    · rw [if_pos c2] at H
      obtain rfl := Option.some.inj H
      exact Wp.more (by simp [xMore, Value.category]) (KE a2 h rfl)
    · rw [if_neg c2] at H
      refine wp_iload_n xi_147 dX11_tellShares_19 rfl ?_
      refine wp_iconst 4 xi_147 dX11_tellShares_20 rfl ?_
      refine wp_icmp_ge 61 xi_147 dX11_tellShares_21 rfl (fun c3 => ?_) (fun c3 => ?_)
      · rw [if_pos c3] at H
        obtain rfl := Option.some.inj H
        exact Wp.more (by simp [xMore, Value.category]) (KE a2 h rfl)
      · rw [if_neg c3] at H
        refine wp_aload_n xi_147 dX11_tellShares_24 rfl ?_
        obtain ⟨x4, gx4, H⟩ := Option.bind_eq_some_iff.mp H
        refine wq_getfr xi_147 dX11_tellShares_25 xf_11_19 gx4 ?_
        refine wp_aload_n xi_147 dX11_tellShares_28 rfl ?_
        obtain ⟨x5, gx5, H⟩ := Option.bind_eq_some_iff.mp H
        refine wq_getfr xi_147 dX11_tellShares_29 xf_11_105 gx5 ?_
        refine wp_iload_n xi_147 dX11_tellShares_32 rfl ?_
        obtain ⟨x6, gx6, H⟩ := Option.bind_eq_some_iff.mp H
        refine wq_iaload xi_147 dX11_tellShares_33 gx6 ?_
        refine wp_i2l xi_147 dX11_tellShares_34 ?_
        obtain ⟨u7, gu7, H⟩ := Option.bind_eq_some_iff.mp H
        obtain ⟨h8, gh8, H⟩ := Option.bind_eq_some_iff.mp H
        refine wq_callV (a := x4) (as := [.long ((x6 : Int32).toInt64)]) (r := []) (v1 := none) xi_147 xi_51 dX11_tellShares_35 xm_11_248 rfl (Nat.le_of_ble_eq_true rfl) (pG_ok gu7) ⟨(Nat.le_of_ble_eq_true rfl), (Nat.le_of_ble_eq_true rfl)⟩ rfl nofun (e_51 d _ gh8 ⟨rfl, rfl⟩) ?_
        change Wp _ _ _ _ [] _ _
        refine wp_aload_n xi_147 dX11_tellShares_38 rfl ?_
        obtain ⟨x9, gx9, H⟩ := Option.bind_eq_some_iff.mp H
        refine wq_getfr xi_147 dX11_tellShares_39 xf_11_105 gx9 ?_
        refine wp_iload_n xi_147 dX11_tellShares_42 rfl ?_
        obtain ⟨x10, gx10, H⟩ := Option.bind_eq_some_iff.mp H
        refine wq_iaload xi_147 dX11_tellShares_43 gx10 ?_
        refine wp_aload_n xi_147 dX11_tellShares_44 rfl ?_
        obtain ⟨x11, gx11, H⟩ := Option.bind_eq_some_iff.mp H
        refine wq_getfr xi_147 dX11_tellShares_45 xf_11_105 gx11 ?_
        refine wp_iload_n xi_147 dX11_tellShares_48 rfl ?_
        obtain ⟨x12, gx12, H⟩ := Option.bind_eq_some_iff.mp H
        refine wq_iaload xi_147 dX11_tellShares_49 gx12 ?_
        obtain ⟨w14, G16, H⟩ := Option.bind_eq_some_iff.mp H
        have K15 : Wp (d + 1) 147 55 [some (.ref a0), some (.int a1), some (.int w14), some (.int a3)] [] h8 Q := by
          refine wp_iinc (a3 + 1) [some (.ref a0), some (.int a1), some (.int w14), some (.int (a3 + 1))] xi_147 dX11_tellShares_55 rfl rfl rfl ?_
          refine wp_goto 11 xi_147 dX11_tellShares_58 rfl ?_
          exact Wp.more (by simp [xMore, Value.category]) (ih a0 a1 w14 (a3 + 1) h8 _ H KE)
        clear H
        have H := G16
        clear G16
        refine wp_icmp_le 55 xi_147 dX11_tellShares_50 rfl (fun c13 => ?_) (fun c13 => ?_)
        · rw [if_pos c13] at H
          obtain rfl := Option.some.inj H
          exact Wp.more (by simp [xMore, Value.category]) K15
        · rw [if_neg c13] at H
          refine wp_iload_n xi_147 dX11_tellShares_53 rfl ?_
          refine wp_istore_n [some (.ref a0), some (.int a1), some (.int a3), some (.int a3)] xi_147 dX11_tellShares_54 rfl ?_
          obtain rfl := Option.some.inj H
          exact Wp.more (by simp [xMore, Value.category]) K15
def f_147  (a : Nat) (p0 : Int32) (h : xH) : Option (Int32 × xH) :=
  (pFr h a 11 1).bind fun x1 =>
  (pG (pIs h x1 5)).bind fun _ =>
  (f_50 x1 h).bind fun h3 =>
  (f_147_11 100000 a p0 0 0 h3).bind fun (w5, h4) =>
  (pFr h4 a 11 1).bind fun x8 =>
  (pG (pIs h4 x8 5)).bind fun _ =>
  (f_51 x8 ((p0 : Int32).toInt64) h4).bind fun h10 =>
  some (w5, h10)
set_option maxHeartbeats 4000000 in
theorem e_147 (d : Nat) (Q : Option Value → xH → Prop)  {h : xH} {a : Nat} {p0 : Int32} {x : Int32} {h1 : xH} (H : f_147  a p0 h = some (x, h1)) (hq : Q (some (.int x)) h1) : Wp (d + 1) 147 0 [some (.ref a), some (.int p0), none, none] [] h Q := by
  unfold f_147 at H
  refine wp_iconst 0 xi_147 dX11_tellShares_0 rfl ?_
  refine wp_istore_n [some (.ref a), some (.int p0), some (.int 0), none] xi_147 dX11_tellShares_1 rfl ?_
  refine wp_aload_n xi_147 dX11_tellShares_2 rfl ?_
  obtain ⟨x1, gx1, H⟩ := Option.bind_eq_some_iff.mp H
  refine wq_getfr xi_147 dX11_tellShares_3 xf_11_19 gx1 ?_
  obtain ⟨u2, gu2, H⟩ := Option.bind_eq_some_iff.mp H
  obtain ⟨h3, gh3, H⟩ := Option.bind_eq_some_iff.mp H
  refine wq_callV (a := x1) (as := []) (r := []) (v1 := none) xi_147 xi_50 dX11_tellShares_6 xm_11_244 rfl (Nat.le_of_ble_eq_true rfl) (pG_ok gu2) ⟨(Nat.le_of_ble_eq_true rfl), (Nat.le_of_ble_eq_true rfl)⟩ rfl nofun (e_50 d _ gh3 ⟨rfl, rfl⟩) ?_
  change Wp _ _ _ _ [] _ _
  refine wp_iconst 0 xi_147 dX11_tellShares_9 rfl ?_
  refine wp_istore_n [some (.ref a), some (.int p0), some (.int 0), some (.int 0)] xi_147 dX11_tellShares_10 rfl ?_
  obtain ⟨⟨w5, h4⟩, G6, H⟩ := Option.bind_eq_some_iff.mp H
  dsimp only at H
  refine Wp.more (by simp [xMore, Value.category]) (ef_147_11 d Q  100000 a p0 0 0 h3 _ G6 (fun z0 z1 e9 => ?_))
  cases e9
  refine wp_aload_n xi_147 dX11_tellShares_61 rfl ?_
  obtain ⟨x8, gx8, H⟩ := Option.bind_eq_some_iff.mp H
  refine wq_getfr xi_147 dX11_tellShares_62 xf_11_19 gx8 ?_
  refine wp_iload_n xi_147 dX11_tellShares_65 rfl ?_
  refine wp_i2l xi_147 dX11_tellShares_66 ?_
  obtain ⟨u9, gu9, H⟩ := Option.bind_eq_some_iff.mp H
  obtain ⟨h10, gh10, H⟩ := Option.bind_eq_some_iff.mp H
  refine wq_callV (a := x8) (as := [.long ((p0 : Int32).toInt64)]) (r := []) (v1 := none) xi_147 xi_51 dX11_tellShares_67 xm_11_248 rfl (Nat.le_of_ble_eq_true rfl) (pG_ok gu9) ⟨(Nat.le_of_ble_eq_true rfl), (Nat.le_of_ble_eq_true rfl)⟩ rfl nofun (e_51 d _ gh10 ⟨rfl, rfl⟩) ?_
  change Wp _ _ _ _ [] _ _
  refine wp_iload_n xi_147 dX11_tellShares_70 rfl ?_
  obtain ⟨rfl, rfl⟩ := oi2 H
  exact wp_iret xi_147 dX11_tellShares_71 hq
/- FelledHasLost.felt(II)I -/
def f_148  (a : Nat) (p0 : Int32) (p1 : Int32) (h : xH) : Option (Int32 × xH) :=
  (pFr h a 11 2).bind fun x1 =>
  (pFr h x1 7 0).bind fun x2 =>
  (pG (pIs h x2 10)).bind fun _ =>
  (f_90 x2 p0 h).bind fun (x5, h4) =>
  (if x5 = 0 then
  some ((-1), h4)
  else
  (if p1 < 0 then
  some ((-1), h4)
  else
  (if p1 ≤ 1 then
  (pFr h4 a 11 10).bind fun x9 =>
  ((if p1 = 1 then
  some (1)
  else
  some (0) : Option (Int32))).bind fun (w11 : Int32) =>
  (pG (pIs h4 x9 9)).bind fun _ =>
  (f_80 x9 p0 w11 h4).bind fun (x15, h14) =>
  ((if x15 = 0 then
  some ((-1))
  else
  (pFr h14 a 11 10).bind fun x21 =>
  (pFi h14 x21 9 10).bind fun x22 =>
  some (x22) : Option (Int32))).bind fun (w19 : Int32) =>
  some (w19, h14)
  else
  some ((-1), h4))))
set_option maxHeartbeats 4000000 in
theorem e_148 (d : Nat) (Q : Option Value → xH → Prop)  {h : xH} {a : Nat} {p0 : Int32} {p1 : Int32} {x : Int32} {h1 : xH} (H : f_148  a p0 p1 h = some (x, h1)) (hq : Q (some (.int x)) h1) : Wp (d + 1) 148 0 [some (.ref a), some (.int p0), some (.int p1)] [] h Q := by
  unfold f_148 at H
  refine wp_aload_n xi_148 dX11_felt_0 rfl ?_
  obtain ⟨x1, gx1, H⟩ := Option.bind_eq_some_iff.mp H
  refine wq_getfr xi_148 dX11_felt_1 xf_11_26 gx1 ?_
  obtain ⟨x2, gx2, H⟩ := Option.bind_eq_some_iff.mp H
  refine wq_getfr xi_148 dX11_felt_4 xf_11_132 gx2 ?_
  refine wp_iload_n xi_148 dX11_felt_7 rfl ?_
  obtain ⟨u3, gu3, H⟩ := Option.bind_eq_some_iff.mp H
  obtain ⟨⟨x5, h4⟩, gh4, H⟩ := Option.bind_eq_some_iff.mp H
  dsimp only at H
  refine wq_callV (a := x2) (as := [.int p0]) (r := []) (v1 := (some (.int x5))) xi_148 xi_90 dX11_felt_8 xm_11_165 rfl (Nat.le_of_ble_eq_true rfl) (pG_ok gu3) ⟨(Nat.le_of_ble_eq_true rfl), (Nat.le_of_ble_eq_true rfl)⟩ rfl nofun (e_90 d _ gh4 ⟨rfl, rfl⟩) ?_
  change Wp _ _ _ _ [.int x5] _ _
  refine wp_if_eq 23 xi_148 dX11_felt_11 rfl (fun c6 => ?_) (fun c6 => ?_)
  · rw [if_pos c6] at H
    refine wp_iconst (-1) xi_148 dX11_felt_23 rfl ?_
    obtain ⟨rfl, rfl⟩ := oi2 H
    exact wp_iret xi_148 dX11_felt_24 hq
  · rw [if_neg c6] at H
    refine wp_iload_n xi_148 dX11_felt_14 rfl ?_
    refine wp_if_lt 23 xi_148 dX11_felt_15 rfl (fun c7 => ?_) (fun c7 => ?_)
    · rw [if_pos c7] at H
      refine wp_iconst (-1) xi_148 dX11_felt_23 rfl ?_
      obtain ⟨rfl, rfl⟩ := oi2 H
      exact wp_iret xi_148 dX11_felt_24 hq
    · rw [if_neg c7] at H
      refine wp_iload_n xi_148 dX11_felt_18 rfl ?_
      refine wp_iconst 1 xi_148 dX11_felt_19 rfl ?_
      refine wp_icmp_le 25 xi_148 dX11_felt_20 rfl (fun c8 => ?_) (fun c8 => ?_)
      · rw [if_pos c8] at H
        refine wp_aload_n xi_148 dX11_felt_25 rfl ?_
        obtain ⟨x9, gx9, H⟩ := Option.bind_eq_some_iff.mp H
        refine wq_getfr xi_148 dX11_felt_26 xf_11_80 gx9 ?_
        refine wp_iload_n xi_148 dX11_felt_29 rfl ?_
        refine wp_iload_n xi_148 dX11_felt_30 rfl ?_
        refine wp_iconst 1 xi_148 dX11_felt_31 rfl ?_
        obtain ⟨w11, G24, H⟩ := Option.bind_eq_some_iff.mp H
        have K12 : Wp (d + 1) 148 40 [some (.ref a), some (.int p0), some (.int p1)] [.int w11, .int p0, .ref x9] h4 Q := by
          obtain ⟨u13, gu13, H⟩ := Option.bind_eq_some_iff.mp H
          obtain ⟨⟨x15, h14⟩, gh14, H⟩ := Option.bind_eq_some_iff.mp H
          dsimp only at H
          refine wq_callV (a := x9) (as := [.int p0, .int w11]) (r := []) (v1 := (some (.int x15))) xi_148 xi_80 dX11_felt_40 xm_11_449 rfl (Nat.le_of_ble_eq_true rfl) (pG_ok gu13) ⟨(Nat.le_of_ble_eq_true rfl), (Nat.le_of_ble_eq_true rfl)⟩ rfl nofun (e_80 d _ gh14 ⟨rfl, rfl⟩) ?_
          change Wp _ _ _ _ [.int x15] _ _
          obtain ⟨w19, G23, H⟩ := Option.bind_eq_some_iff.mp H
          have K20 : Wp (d + 1) 148 57 [some (.ref a), some (.int p0), some (.int p1)] [.int w19] h14 Q := by
            obtain ⟨rfl, rfl⟩ := oi2 H
            exact wp_iret xi_148 dX11_felt_57 hq
          clear H
          have H := G23
          clear G23
          refine wp_if_eq 56 xi_148 dX11_felt_43 rfl (fun c16 => ?_) (fun c16 => ?_)
          · rw [if_pos c16] at H
            refine wp_iconst (-1) xi_148 dX11_felt_56 rfl ?_
            obtain rfl := Option.some.inj H
            exact Wp.more (by simp [xMore, Value.category]) K20
          · rw [if_neg c16] at H
            refine wp_aload_n xi_148 dX11_felt_46 rfl ?_
            obtain ⟨x21, gx21, H⟩ := Option.bind_eq_some_iff.mp H
            refine wq_getfr xi_148 dX11_felt_47 xf_11_80 gx21 ?_
            obtain ⟨x22, gx22, H⟩ := Option.bind_eq_some_iff.mp H
            refine wq_getfi xi_148 dX11_felt_50 xf_11_453 gx22 ?_
            refine wp_goto 57 xi_148 dX11_felt_53 rfl ?_
            obtain rfl := Option.some.inj H
            exact Wp.more (by simp [xMore, Value.category]) K20
        clear H
        have H := G24
        clear G24
        refine wp_icmp_ne 39 xi_148 dX11_felt_32 rfl (fun c10 => ?_) (fun c10 => ?_)
        · rw [if_neg c10] at H
          refine wp_iconst 0 xi_148 dX11_felt_39 rfl ?_
          obtain rfl := Option.some.inj H
          exact Wp.more (by simp [xMore, Value.category]) K12
        · rw [if_pos c10] at H
          refine wp_iconst 1 xi_148 dX11_felt_35 rfl ?_
          refine wp_goto 40 xi_148 dX11_felt_36 rfl ?_
          obtain rfl := Option.some.inj H
          exact Wp.more (by simp [xMore, Value.category]) K12
      · rw [if_neg c8] at H
        refine wp_iconst (-1) xi_148 dX11_felt_23 rfl ?_
        obtain ⟨rfl, rfl⟩ := oi2 H
        exact wp_iret xi_148 dX11_felt_24 hq
/- FelledHasLost.known(III)Z -/
def f_149  (a : Nat) (p0 : Int32) (p1 : Int32) (p2 : Int32) (h : xH) : Option (Int32 × xH) :=
  (pFr h a 11 2).bind fun x1 =>
  (pFr h x1 7 0).bind fun x2 =>
  (pG (pIs h x2 10)).bind fun _ =>
  (f_90 x2 p0 h).bind fun (x5, h4) =>
  (if x5 = 0 then
  pZ 0 h4
  else
  (if p1 < 0 then
  pZ 0 h4
  else
  (if (9 : Int32) < p2 then
  pZ 0 h4
  else
  (if p1 ≤ p2 then
  (pFr h4 a 11 10).bind fun x10 =>
  (pFr h4 x10 9 2).bind fun x11 =>
  (pSi h4 x11 p0 p1).bind fun h12 =>
  (pFr h12 a 11 10).bind fun x13 =>
  (pFr h12 x13 9 3).bind fun x14 =>
  (pSi h12 x14 p0 p2).bind fun h15 =>
  pZ 1 h15
  else
  pZ 0 h4))))
set_option maxHeartbeats 4000000 in
theorem e_149 (d : Nat) (Q : Option Value → xH → Prop)  {h : xH} {a : Nat} {p0 : Int32} {p1 : Int32} {p2 : Int32} {x : Int32} {h1 : xH} (H : f_149  a p0 p1 p2 h = some (x, h1)) (hq : Q (some (.int x)) h1) : Wp (d + 1) 149 0 [some (.ref a), some (.int p0), some (.int p1), some (.int p2)] [] h Q := by
  unfold f_149 at H
  refine wp_aload_n xi_149 dX11_known_0 rfl ?_
  obtain ⟨x1, gx1, H⟩ := Option.bind_eq_some_iff.mp H
  refine wq_getfr xi_149 dX11_known_1 xf_11_26 gx1 ?_
  obtain ⟨x2, gx2, H⟩ := Option.bind_eq_some_iff.mp H
  refine wq_getfr xi_149 dX11_known_4 xf_11_132 gx2 ?_
  refine wp_iload_n xi_149 dX11_known_7 rfl ?_
  obtain ⟨u3, gu3, H⟩ := Option.bind_eq_some_iff.mp H
  obtain ⟨⟨x5, h4⟩, gh4, H⟩ := Option.bind_eq_some_iff.mp H
  dsimp only at H
  refine wq_callV (a := x2) (as := [.int p0]) (r := []) (v1 := (some (.int x5))) xi_149 xi_90 dX11_known_8 xm_11_165 rfl (Nat.le_of_ble_eq_true rfl) (pG_ok gu3) ⟨(Nat.le_of_ble_eq_true rfl), (Nat.le_of_ble_eq_true rfl)⟩ rfl nofun (e_90 d _ gh4 ⟨rfl, rfl⟩) ?_
  change Wp _ _ _ _ [.int x5] _ _
  refine wp_if_eq 29 xi_149 dX11_known_11 rfl (fun c6 => ?_) (fun c6 => ?_)
  · rw [if_pos c6] at H
    refine wp_iconst 0 xi_149 dX11_known_29 rfl ?_
    obtain ⟨gz, hz⟩ := pZ_ok H
    obtain ⟨rfl, rfl⟩ := Prod.mk.inj hz
    exact wp_zret xi_149 dX11_known_30 gz hq
  · rw [if_neg c6] at H
    refine wp_iload_n xi_149 dX11_known_14 rfl ?_
    refine wp_if_lt 29 xi_149 dX11_known_15 rfl (fun c7 => ?_) (fun c7 => ?_)
    · rw [if_pos c7] at H
      refine wp_iconst 0 xi_149 dX11_known_29 rfl ?_
      obtain ⟨gz, hz⟩ := pZ_ok H
      obtain ⟨rfl, rfl⟩ := Prod.mk.inj hz
      exact wp_zret xi_149 dX11_known_30 gz hq
    · rw [if_neg c7] at H
      refine wp_iload_n xi_149 dX11_known_18 rfl ?_
      refine wp_bipush 9 xi_149 dX11_known_19 rfl ?_
      refine wp_icmp_gt 29 xi_149 dX11_known_21 rfl (fun c8 => ?_) (fun c8 => ?_)
      · rw [if_pos c8] at H
        refine wp_iconst 0 xi_149 dX11_known_29 rfl ?_
        obtain ⟨gz, hz⟩ := pZ_ok H
        obtain ⟨rfl, rfl⟩ := Prod.mk.inj hz
        exact wp_zret xi_149 dX11_known_30 gz hq
      · rw [if_neg c8] at H
        refine wp_iload_n xi_149 dX11_known_24 rfl ?_
        refine wp_iload_n xi_149 dX11_known_25 rfl ?_
        refine wp_icmp_le 31 xi_149 dX11_known_26 rfl (fun c9 => ?_) (fun c9 => ?_)
        · rw [if_pos c9] at H
          refine wp_aload_n xi_149 dX11_known_31 rfl ?_
          obtain ⟨x10, gx10, H⟩ := Option.bind_eq_some_iff.mp H
          refine wq_getfr xi_149 dX11_known_32 xf_11_80 gx10 ?_
          obtain ⟨x11, gx11, H⟩ := Option.bind_eq_some_iff.mp H
          refine wq_getfr xi_149 dX11_known_35 xf_11_454 gx11 ?_
          refine wp_iload_n xi_149 dX11_known_38 rfl ?_
          refine wp_iload_n xi_149 dX11_known_39 rfl ?_
          obtain ⟨h12, gh12, H⟩ := Option.bind_eq_some_iff.mp H
          refine wq_iastore xi_149 dX11_known_40 gh12 ?_
          refine wp_aload_n xi_149 dX11_known_41 rfl ?_
          obtain ⟨x13, gx13, H⟩ := Option.bind_eq_some_iff.mp H
          refine wq_getfr xi_149 dX11_known_42 xf_11_80 gx13 ?_
          obtain ⟨x14, gx14, H⟩ := Option.bind_eq_some_iff.mp H
          refine wq_getfr xi_149 dX11_known_45 xf_11_457 gx14 ?_
          refine wp_iload_n xi_149 dX11_known_48 rfl ?_
          refine wp_iload_n xi_149 dX11_known_49 rfl ?_
          obtain ⟨h15, gh15, H⟩ := Option.bind_eq_some_iff.mp H
          refine wq_iastore xi_149 dX11_known_50 gh15 ?_
          refine wp_iconst 1 xi_149 dX11_known_51 rfl ?_
          obtain ⟨gz, hz⟩ := pZ_ok H
          obtain ⟨rfl, rfl⟩ := Prod.mk.inj hz
          exact wp_zret xi_149 dX11_known_52 gz hq
        · rw [if_neg c9] at H
          refine wp_iconst 0 xi_149 dX11_known_29 rfl ?_
          obtain ⟨gz, hz⟩ := pZ_ok H
          obtain ⟨rfl, rfl⟩ := Prod.mk.inj hz
          exact wp_zret xi_149 dX11_known_30 gz hq
/- FelledHasLost.tellThicknesses([I)V -/
def f_152_2  : Nat → Nat → Nat → Int32 → xH → Option (xH)
  | 0, _, _, _, _ => none
  | n + 1, a0, a1, a2, h =>
  (if (3 : Int32) ≤ a2 then
  some (h)
  else
  (pLen h a1).bind fun x2 =>
  (if x2 ≤ a2 then
  some (h)
  else
  (pAi h a1 a2).bind fun x4 =>
  ((if x4 = (-1) then
  some (h)
  else
  (pFr h a0 11 1).bind fun x12 =>
  (pAi h a1 a2).bind fun x13 =>
  (pG (pIs h x12 5)).bind fun _ =>
  (f_51 x12 ((x13 : Int32).toInt64) h).bind fun h15 =>
  some (h15) : Option (xH))).bind fun (h10 : xH) =>
  f_152_2 n a0 a1 (a2 + 1) h10))
theorem ef_152_2 (d : Nat) (Q : Option Value → xH → Prop)  : ∀ (n : Nat) (a0 : Nat) (a1 : Nat) (a2 : Int32) (h : xH) (r : xH), f_152_2 n a0 a1 a2 h = some r → (∀  (h1 : xH), r = h1 → Wp (d + 1) 152 37 [none, none, none] [] h1 Q) → Wp (d + 1) 152 2 [some (.ref a0), some (.ref a1), some (.int a2)] [] h Q := by
  intro n
  induction n with
  | zero =>
    intro a0 a1 a2 h r H
    cases H
  | succ n ih =>
    intro a0 a1 a2 h r H KE
    unfold f_152_2 at H
    refine wp_iload_n xi_152 dX11_tellThicknesses_2 rfl ?_
    refine wp_iconst 3 xi_152 dX11_tellThicknesses_3 rfl ?_
    refine wp_icmp_ge 37 xi_152 dX11_tellThicknesses_4 rfl (fun c1 => ?_) (fun c1 => ?_)
    · rw [if_pos c1] at H
      obtain rfl := Option.some.inj H
      exact Wp.more (by simp [xMore, Value.category]) (KE  h rfl)
    · rw [if_neg c1] at H
      refine wp_iload_n xi_152 dX11_tellThicknesses_7 rfl ?_
      refine wp_aload_n xi_152 dX11_tellThicknesses_8 rfl ?_
      obtain ⟨x2, gx2, H⟩ := Option.bind_eq_some_iff.mp H
      refine wq_alen xi_152 dX11_tellThicknesses_9 gx2 ?_
      refine wp_icmp_ge 37 xi_152 dX11_tellThicknesses_10 rfl (fun c3 => ?_) (fun c3 => ?_)
      · rw [if_pos c3] at H
        obtain rfl := Option.some.inj H
        exact Wp.more (by simp [xMore, Value.category]) (KE  h rfl)
      · rw [if_neg c3] at H
        refine wp_aload_n xi_152 dX11_tellThicknesses_13 rfl ?_
        refine wp_iload_n xi_152 dX11_tellThicknesses_14 rfl ?_
        obtain ⟨x4, gx4, H⟩ := Option.bind_eq_some_iff.mp H
        refine wq_iaload xi_152 dX11_tellThicknesses_15 gx4 ?_
        refine wp_iconst (-1) xi_152 dX11_tellThicknesses_16 rfl ?_
        obtain ⟨h10, G16, H⟩ := Option.bind_eq_some_iff.mp H
        have K11 : Wp (d + 1) 152 31 [some (.ref a0), some (.ref a1), some (.int a2)] [] h10 Q := by
          refine wp_iinc (a2 + 1) [some (.ref a0), some (.ref a1), some (.int (a2 + 1))] xi_152 dX11_tellThicknesses_31 rfl rfl rfl ?_
          refine wp_goto 2 xi_152 dX11_tellThicknesses_34 rfl ?_
          exact Wp.more (by simp [xMore, Value.category]) (ih a0 a1 (a2 + 1) h10 _ H KE)
        clear H
        have H := G16
        clear G16
        refine wp_icmp_eq 31 xi_152 dX11_tellThicknesses_17 rfl (fun c5 => ?_) (fun c5 => ?_)
        · rw [if_pos c5] at H
          obtain rfl := Option.some.inj H
          exact Wp.more (by simp [xMore, Value.category]) K11
        · rw [if_neg c5] at H
          refine wp_aload_n xi_152 dX11_tellThicknesses_20 rfl ?_
          obtain ⟨x12, gx12, H⟩ := Option.bind_eq_some_iff.mp H
          refine wq_getfr xi_152 dX11_tellThicknesses_21 xf_11_19 gx12 ?_
          refine wp_aload_n xi_152 dX11_tellThicknesses_24 rfl ?_
          refine wp_iload_n xi_152 dX11_tellThicknesses_25 rfl ?_
          obtain ⟨x13, gx13, H⟩ := Option.bind_eq_some_iff.mp H
          refine wq_iaload xi_152 dX11_tellThicknesses_26 gx13 ?_
          refine wp_i2l xi_152 dX11_tellThicknesses_27 ?_
          obtain ⟨u14, gu14, H⟩ := Option.bind_eq_some_iff.mp H
          obtain ⟨h15, gh15, H⟩ := Option.bind_eq_some_iff.mp H
          refine wq_callV (a := x12) (as := [.long ((x13 : Int32).toInt64)]) (r := []) (v1 := none) xi_152 xi_51 dX11_tellThicknesses_28 xm_11_248 rfl (Nat.le_of_ble_eq_true rfl) (pG_ok gu14) ⟨(Nat.le_of_ble_eq_true rfl), (Nat.le_of_ble_eq_true rfl)⟩ rfl nofun (e_51 d _ gh15 ⟨rfl, rfl⟩) ?_
          change Wp _ _ _ _ [] _ _
          obtain rfl := Option.some.inj H
          exact Wp.more (by simp [xMore, Value.category]) K11
def f_152  (a : Nat) (p0 : Nat) (h : xH) : Option (xH) :=
  (f_152_2 100000 a p0 0 h).bind fun h1 =>
  some h1
set_option maxHeartbeats 4000000 in
theorem e_152 (d : Nat) (Q : Option Value → xH → Prop)  {h : xH} {a : Nat} {p0 : Nat} {h1 : xH} (H : f_152  a p0 h = some h1) (hq : Q none h1) : Wp (d + 1) 152 0 [some (.ref a), some (.ref p0), none] [] h Q := by
  unfold f_152 at H
  refine wp_iconst 0 xi_152 dX11_tellThicknesses_0 rfl ?_
  refine wp_istore_n [some (.ref a), some (.ref p0), some (.int 0)] xi_152 dX11_tellThicknesses_1 rfl ?_
  obtain ⟨h1, G2, H⟩ := Option.bind_eq_some_iff.mp H
  refine Wp.more (by simp [xMore, Value.category]) (ef_152_2 d Q  100000 a p0 0 h _ G2 (fun z0 e9 => ?_))
  cases e9
  obtain rfl := Option.some.inj H
  exact wp_vret xi_152 dX11_tellThicknesses_37 hq
/- FelledHasLost.count(I)I -/
def f_158  (a : Nat) (p0 : Int32) (h : xH) : Option (Int32 × xH) :=
  (pFr h a 11 2).bind fun x1 =>
  (pFr h x1 7 0).bind fun x2 =>
  (if p0 = 0 then
  (pFi h x2 10 4).bind fun x16 =>
  some (x16, h)
  else
  if p0 = 1 then
  (pG (pIs h x2 10)).bind fun _ =>
  (f_98 x2 (-1) h).bind fun (x19, h18) =>
  some (x19, h18)
  else
  if p0 = 2 then
  (pFi h x2 10 4).bind fun x20 =>
  (pG (pIs h x2 10)).bind fun _ =>
  (f_98 x2 (-1) h).bind fun (x23, h22) =>
  some (((3 * x20) - x23), h22)
  else
  if p0 = 3 then
  (pFi h a 11 16).bind fun x24 =>
  some (x24, h)
  else
  if p0 = 4 then
  (pFr h a 11 2).bind fun x25 =>
  (pFi h x25 7 1).bind fun x26 =>
  some (x26, h)
  else
  if p0 = 5 then
  (pFr h a 11 2).bind fun x27 =>
  (pG (pIs h x27 7)).bind fun _ =>
  (f_68 x27 h).bind fun (x30, h29) =>
  ((if x30 = 0 then
  some (0)
  else
  some (1) : Option (Int32))).bind fun (w32 : Int32) =>
  some (w32, h29)
  else
  if p0 = 6 then
  (pFr h a 11 2).bind fun x35 =>
  (pFi h x35 7 2).bind fun x36 =>
  some (x36, h)
  else
  if p0 = 7 then
  (pFr h a 11 6).bind fun x37 =>
  (pFr h x37 0 0).bind fun x38 =>
  (pAi h x38 0).bind fun x39 =>
  some (x39, h)
  else
  if p0 = 8 then
  (pFr h a 11 6).bind fun x40 =>
  (pFr h x40 0 0).bind fun x41 =>
  (pAi h x41 1).bind fun x42 =>
  some (x42, h)
  else
  if p0 = 9 then
  (pFr h a 11 3).bind fun x43 =>
  (pFi h x43 3 2).bind fun x44 =>
  some (x44, h)
  else
  if p0 = 10 then
  (pFr h a 11 10).bind fun x45 =>
  (pFi h x45 9 10).bind fun x46 =>
  some (x46, h)
  else
  if p0 = 11 then
  (pFr h a 11 1).bind fun x47 =>
  (pFi h x47 5 1).bind fun x48 =>
  some (x48, h)
  else
  if p0 = 12 then
  (pFr h a 11 0).bind fun x49 =>
  (pFi h x49 8 1).bind fun x50 =>
  some (x50, h)
  else
  some ((-100), h))
set_option maxHeartbeats 4000000 in
theorem e_158 (d : Nat) (Q : Option Value → xH → Prop)  {h : xH} {a : Nat} {p0 : Int32} {x : Int32} {h1 : xH} (H : f_158  a p0 h = some (x, h1)) (hq : Q (some (.int x)) h1) : Wp (d + 3) 158 0 [some (.ref a), some (.int p0), none] [] h Q := by
  unfold f_158 at H
  refine wp_aload_n xi_158 dX11_count_0 rfl ?_
  obtain ⟨x1, gx1, H⟩ := Option.bind_eq_some_iff.mp H
  refine wq_getfr xi_158 dX11_count_1 xf_11_26 gx1 ?_
  obtain ⟨x2, gx2, H⟩ := Option.bind_eq_some_iff.mp H
  refine wq_getfr xi_158 dX11_count_4 xf_11_132 gx2 ?_
  refine wp_astore_n [some (.ref a), some (.int p0), some (.ref x2)] xi_158 dX11_count_7 rfl ?_
  refine wp_iload_n xi_158 dX11_count_8 rfl ?_
  by_cases c3 : p0 = 0
  · rw [if_pos c3] at H
    refine Wp.pure (p2 := 76) (ls2 := [some (.ref a), some (.int p0), some (.ref x2)]) (st2 := []) (h2 := h) xi_158 dX11_count_9 rfl rfl rfl (by rw [c3]; rfl) ?_
    refine wp_aload_n xi_158 dX11_count_76 rfl ?_
    obtain ⟨x16, gx16, H⟩ := Option.bind_eq_some_iff.mp H
    refine wq_getfi xi_158 dX11_count_77 xf_11_147 gx16 ?_
    obtain ⟨rfl, rfl⟩ := oi2 H
    exact wp_iret xi_158 dX11_count_80 hq
  · rw [if_neg c3] at H
    by_cases c4 : p0 = 1
    · rw [if_pos c4] at H
      refine Wp.pure (p2 := 81) (ls2 := [some (.ref a), some (.int p0), some (.ref x2)]) (st2 := []) (h2 := h) xi_158 dX11_count_9 rfl rfl rfl (by rw [c4]; rfl) ?_
      refine wp_aload_n xi_158 dX11_count_81 rfl ?_
      refine wp_iconst (-1) xi_158 dX11_count_82 rfl ?_
      obtain ⟨u17, gu17, H⟩ := Option.bind_eq_some_iff.mp H
      obtain ⟨⟨x19, h18⟩, gh18, H⟩ := Option.bind_eq_some_iff.mp H
      dsimp only at H
      refine wq_callV (a := x2) (as := [.int (-1)]) (r := []) (v1 := (some (.int x19))) xi_158 xi_98 dX11_count_83 xm_11_181 rfl (Nat.le_of_ble_eq_true rfl) (pG_ok gu17) ⟨(Nat.le_of_ble_eq_true rfl), (Nat.le_of_ble_eq_true rfl)⟩ rfl nofun (e_98 d _ gh18 ⟨rfl, rfl⟩) ?_
      change Wp _ _ _ _ [.int x19] _ _
      obtain ⟨rfl, rfl⟩ := oi2 H
      exact wp_iret xi_158 dX11_count_86 hq
    · rw [if_neg c4] at H
      by_cases c5 : p0 = 2
      · rw [if_pos c5] at H
        refine Wp.pure (p2 := 87) (ls2 := [some (.ref a), some (.int p0), some (.ref x2)]) (st2 := []) (h2 := h) xi_158 dX11_count_9 rfl rfl rfl (by rw [c5]; rfl) ?_
        refine wp_iconst 3 xi_158 dX11_count_87 rfl ?_
        refine wp_aload_n xi_158 dX11_count_88 rfl ?_
        obtain ⟨x20, gx20, H⟩ := Option.bind_eq_some_iff.mp H
        refine wq_getfi xi_158 dX11_count_89 xf_11_147 gx20 ?_
        refine wp_imul xi_158 dX11_count_92 ?_
        refine wp_aload_n xi_158 dX11_count_93 rfl ?_
        refine wp_iconst (-1) xi_158 dX11_count_94 rfl ?_
        obtain ⟨u21, gu21, H⟩ := Option.bind_eq_some_iff.mp H
        obtain ⟨⟨x23, h22⟩, gh22, H⟩ := Option.bind_eq_some_iff.mp H
        dsimp only at H
        refine wq_callV (a := x2) (as := [.int (-1)]) (r := [.int (3 * x20)]) (v1 := (some (.int x23))) xi_158 xi_98 dX11_count_95 xm_11_181 rfl (Nat.le_of_ble_eq_true rfl) (pG_ok gu21) ⟨(Nat.le_of_ble_eq_true rfl), (Nat.le_of_ble_eq_true rfl)⟩ rfl nofun (e_98 d _ gh22 ⟨rfl, rfl⟩) ?_
        change Wp _ _ _ _ [.int x23, .int (3 * x20)] _ _
        refine wp_isub xi_158 dX11_count_98 ?_
        obtain ⟨rfl, rfl⟩ := oi2 H
        exact wp_iret xi_158 dX11_count_99 hq
      · rw [if_neg c5] at H
        by_cases c6 : p0 = 3
        · rw [if_pos c6] at H
          refine Wp.pure (p2 := 100) (ls2 := [some (.ref a), some (.int p0), some (.ref x2)]) (st2 := []) (h2 := h) xi_158 dX11_count_9 rfl rfl rfl (by rw [c6]; rfl) ?_
          refine wp_aload_n xi_158 dX11_count_100 rfl ?_
          obtain ⟨x24, gx24, H⟩ := Option.bind_eq_some_iff.mp H
          refine wq_getfi xi_158 dX11_count_101 xf_11_108 gx24 ?_
          obtain ⟨rfl, rfl⟩ := oi2 H
          exact wp_iret xi_158 dX11_count_104 hq
        · rw [if_neg c6] at H
          by_cases c7 : p0 = 4
          · rw [if_pos c7] at H
            refine Wp.pure (p2 := 105) (ls2 := [some (.ref a), some (.int p0), some (.ref x2)]) (st2 := []) (h2 := h) xi_158 dX11_count_9 rfl rfl rfl (by rw [c7]; rfl) ?_
            refine wp_aload_n xi_158 dX11_count_105 rfl ?_
            obtain ⟨x25, gx25, H⟩ := Option.bind_eq_some_iff.mp H
            refine wq_getfr xi_158 dX11_count_106 xf_11_26 gx25 ?_
            obtain ⟨x26, gx26, H⟩ := Option.bind_eq_some_iff.mp H
            refine wq_getfi xi_158 dX11_count_109 xf_11_159 gx26 ?_
            obtain ⟨rfl, rfl⟩ := oi2 H
            exact wp_iret xi_158 dX11_count_112 hq
          · rw [if_neg c7] at H
            by_cases c8 : p0 = 5
            · rw [if_pos c8] at H
              refine Wp.pure (p2 := 113) (ls2 := [some (.ref a), some (.int p0), some (.ref x2)]) (st2 := []) (h2 := h) xi_158 dX11_count_9 rfl rfl rfl (by rw [c8]; rfl) ?_
              refine wp_aload_n xi_158 dX11_count_113 rfl ?_
              obtain ⟨x27, gx27, H⟩ := Option.bind_eq_some_iff.mp H
              refine wq_getfr xi_158 dX11_count_114 xf_11_26 gx27 ?_
              obtain ⟨u28, gu28, H⟩ := Option.bind_eq_some_iff.mp H
              obtain ⟨⟨x30, h29⟩, gh29, H⟩ := Option.bind_eq_some_iff.mp H
              dsimp only at H
              refine wq_callV (a := x27) (as := []) (r := []) (v1 := (some (.int x30))) xi_158 xi_68 dX11_count_117 xm_11_273 rfl (Nat.le_of_ble_eq_true rfl) (pG_ok gu28) ⟨(Nat.le_of_ble_eq_true rfl), (Nat.le_of_ble_eq_true rfl)⟩ rfl nofun (e_68 (d + 2) _ gh29 ⟨rfl, rfl⟩) ?_
              change Wp _ _ _ _ [.int x30] _ _
              obtain ⟨w32, G34, H⟩ := Option.bind_eq_some_iff.mp H
              have K33 : Wp (d + 3) 158 128 [some (.ref a), some (.int p0), some (.ref x2)] [.int w32] h29 Q := by
                obtain ⟨rfl, rfl⟩ := oi2 H
                exact wp_iret xi_158 dX11_count_128 hq
              clear H
              have H := G34
              clear G34
              refine wp_if_eq 127 xi_158 dX11_count_120 rfl (fun c31 => ?_) (fun c31 => ?_)
              · rw [if_pos c31] at H
                refine wp_iconst 0 xi_158 dX11_count_127 rfl ?_
                obtain rfl := Option.some.inj H
                exact Wp.more (by simp [xMore, Value.category]) K33
              · rw [if_neg c31] at H
                refine wp_iconst 1 xi_158 dX11_count_123 rfl ?_
                refine wp_goto 128 xi_158 dX11_count_124 rfl ?_
                obtain rfl := Option.some.inj H
                exact Wp.more (by simp [xMore, Value.category]) K33
            · rw [if_neg c8] at H
              by_cases c9 : p0 = 6
              · rw [if_pos c9] at H
                refine Wp.pure (p2 := 129) (ls2 := [some (.ref a), some (.int p0), some (.ref x2)]) (st2 := []) (h2 := h) xi_158 dX11_count_9 rfl rfl rfl (by rw [c9]; rfl) ?_
                refine wp_aload_n xi_158 dX11_count_129 rfl ?_
                obtain ⟨x35, gx35, H⟩ := Option.bind_eq_some_iff.mp H
                refine wq_getfr xi_158 dX11_count_130 xf_11_26 gx35 ?_
                obtain ⟨x36, gx36, H⟩ := Option.bind_eq_some_iff.mp H
                refine wq_getfi xi_158 dX11_count_133 xf_11_484 gx36 ?_
                obtain ⟨rfl, rfl⟩ := oi2 H
                exact wp_iret xi_158 dX11_count_136 hq
              · rw [if_neg c9] at H
                by_cases c10 : p0 = 7
                · rw [if_pos c10] at H
                  refine Wp.pure (p2 := 137) (ls2 := [some (.ref a), some (.int p0), some (.ref x2)]) (st2 := []) (h2 := h) xi_158 dX11_count_9 rfl rfl rfl (by rw [c10]; rfl) ?_
                  refine wp_aload_n xi_158 dX11_count_137 rfl ?_
                  obtain ⟨x37, gx37, H⟩ := Option.bind_eq_some_iff.mp H
                  refine wq_getfr xi_158 dX11_count_138 xf_11_48 gx37 ?_
                  obtain ⟨x38, gx38, H⟩ := Option.bind_eq_some_iff.mp H
                  refine wq_getfr xi_158 dX11_count_141 xf_11_240 gx38 ?_
                  refine wp_iconst 0 xi_158 dX11_count_144 rfl ?_
                  obtain ⟨x39, gx39, H⟩ := Option.bind_eq_some_iff.mp H
                  refine wq_iaload xi_158 dX11_count_145 gx39 ?_
                  obtain ⟨rfl, rfl⟩ := oi2 H
                  exact wp_iret xi_158 dX11_count_146 hq
                · rw [if_neg c10] at H
                  by_cases c11 : p0 = 8
                  · rw [if_pos c11] at H
                    refine Wp.pure (p2 := 147) (ls2 := [some (.ref a), some (.int p0), some (.ref x2)]) (st2 := []) (h2 := h) xi_158 dX11_count_9 rfl rfl rfl (by rw [c11]; rfl) ?_
                    refine wp_aload_n xi_158 dX11_count_147 rfl ?_
                    obtain ⟨x40, gx40, H⟩ := Option.bind_eq_some_iff.mp H
                    refine wq_getfr xi_158 dX11_count_148 xf_11_48 gx40 ?_
                    obtain ⟨x41, gx41, H⟩ := Option.bind_eq_some_iff.mp H
                    refine wq_getfr xi_158 dX11_count_151 xf_11_240 gx41 ?_
                    refine wp_iconst 1 xi_158 dX11_count_154 rfl ?_
                    obtain ⟨x42, gx42, H⟩ := Option.bind_eq_some_iff.mp H
                    refine wq_iaload xi_158 dX11_count_155 gx42 ?_
                    obtain ⟨rfl, rfl⟩ := oi2 H
                    exact wp_iret xi_158 dX11_count_156 hq
                  · rw [if_neg c11] at H
                    by_cases c12 : p0 = 9
                    · rw [if_pos c12] at H
                      refine Wp.pure (p2 := 157) (ls2 := [some (.ref a), some (.int p0), some (.ref x2)]) (st2 := []) (h2 := h) xi_158 dX11_count_9 rfl rfl rfl (by rw [c12]; rfl) ?_
                      refine wp_aload_n xi_158 dX11_count_157 rfl ?_
                      obtain ⟨x43, gx43, H⟩ := Option.bind_eq_some_iff.mp H
                      refine wq_getfr xi_158 dX11_count_158 xf_11_33 gx43 ?_
                      obtain ⟨x44, gx44, H⟩ := Option.bind_eq_some_iff.mp H
                      refine wq_getfi xi_158 dX11_count_161 xf_11_364 gx44 ?_
                      obtain ⟨rfl, rfl⟩ := oi2 H
                      exact wp_iret xi_158 dX11_count_164 hq
                    · rw [if_neg c12] at H
                      by_cases c13 : p0 = 10
                      · rw [if_pos c13] at H
                        refine Wp.pure (p2 := 165) (ls2 := [some (.ref a), some (.int p0), some (.ref x2)]) (st2 := []) (h2 := h) xi_158 dX11_count_9 rfl rfl rfl (by rw [c13]; rfl) ?_
                        refine wp_aload_n xi_158 dX11_count_165 rfl ?_
                        obtain ⟨x45, gx45, H⟩ := Option.bind_eq_some_iff.mp H
                        refine wq_getfr xi_158 dX11_count_166 xf_11_80 gx45 ?_
                        obtain ⟨x46, gx46, H⟩ := Option.bind_eq_some_iff.mp H
                        refine wq_getfi xi_158 dX11_count_169 xf_11_453 gx46 ?_
                        obtain ⟨rfl, rfl⟩ := oi2 H
                        exact wp_iret xi_158 dX11_count_172 hq
                      · rw [if_neg c13] at H
                        by_cases c14 : p0 = 11
                        · rw [if_pos c14] at H
                          refine Wp.pure (p2 := 173) (ls2 := [some (.ref a), some (.int p0), some (.ref x2)]) (st2 := []) (h2 := h) xi_158 dX11_count_9 rfl rfl rfl (by rw [c14]; rfl) ?_
                          refine wp_aload_n xi_158 dX11_count_173 rfl ?_
                          obtain ⟨x47, gx47, H⟩ := Option.bind_eq_some_iff.mp H
                          refine wq_getfr xi_158 dX11_count_174 xf_11_19 gx47 ?_
                          obtain ⟨x48, gx48, H⟩ := Option.bind_eq_some_iff.mp H
                          refine wq_getfi xi_158 dX11_count_177 xf_11_487 gx48 ?_
                          obtain ⟨rfl, rfl⟩ := oi2 H
                          exact wp_iret xi_158 dX11_count_180 hq
                        · rw [if_neg c14] at H
                          by_cases c15 : p0 = 12
                          · rw [if_pos c15] at H
                            refine Wp.pure (p2 := 181) (ls2 := [some (.ref a), some (.int p0), some (.ref x2)]) (st2 := []) (h2 := h) xi_158 dX11_count_9 rfl rfl rfl (by rw [c15]; rfl) ?_
                            refine wp_aload_n xi_158 dX11_count_181 rfl ?_
                            obtain ⟨x49, gx49, H⟩ := Option.bind_eq_some_iff.mp H
                            refine wq_getfr xi_158 dX11_count_182 xf_11_12 gx49 ?_
                            obtain ⟨x50, gx50, H⟩ := Option.bind_eq_some_iff.mp H
                            refine wq_getfi xi_158 dX11_count_185 xf_11_122 gx50 ?_
                            obtain ⟨rfl, rfl⟩ := oi2 H
                            exact wp_iret xi_158 dX11_count_188 hq
                          · rw [if_neg c15] at H
                            have ec3 := lv_neT c3 (a := 0) (by decide)
                            have ec4 := lv_neT c4 (a := 1) (by decide)
                            have ec5 := lv_neT c5 (a := 2) (by decide)
                            have ec6 := lv_neT c6 (a := 3) (by decide)
                            have ec7 := lv_neT c7 (a := 4) (by decide)
                            have ec8 := lv_neT c8 (a := 5) (by decide)
                            have ec9 := lv_neT c9 (a := 6) (by decide)
                            have ec10 := lv_neT c10 (a := 7) (by decide)
                            have ec11 := lv_neT c11 (a := 8) (by decide)
                            have ec12 := lv_neT c12 (a := 9) (by decide)
                            have ec13 := lv_neT c13 (a := 10) (by decide)
                            have ec14 := lv_neT c14 (a := 11) (by decide)
                            have ec15 := lv_neT c15 (a := 12) (by decide)
                            refine Wp.pure (p2 := 189) (ls2 := [some (.ref a), some (.int p0), some (.ref x2)]) (st2 := []) (h2 := h) xi_158 dX11_count_9 rfl rfl rfl (by simp only [xPure, xJ]; rw [if_pos (by omega)]; rfl) ?_
                            refine wp_bipush (-100) xi_158 dX11_count_189 rfl ?_
                            obtain ⟨rfl, rfl⟩ := oi2 H
                            exact wp_iret xi_158 dX11_count_191 hq
/- FelledHasLost.row(I)J -/
def f_159  (a : Nat) (p0 : Int32) (h : xH) : Option (Option Int64 × xH) :=
  (if p0 < 0 then
  some (none, (h.1, h.2.1 + 6, h.2.2.1 + 1, h.2.2.2))
  else
  (pFr h a 11 1).bind fun x2 =>
  (pFi h x2 5 1).bind fun x3 =>
  (if p0 < x3 then
  (pFr h a 11 1).bind fun x5 =>
  (pFr h x5 5 0).bind fun x6 =>
  (pAl h x6 p0).bind fun x7 =>
  some (some x7, h)
  else
  some (none, (h.1, h.2.1 + 6, h.2.2.1 + 1, h.2.2.2))))
set_option maxHeartbeats 4000000 in
theorem e_159 (d : Nat) (Q : Option Value → xH → Prop)  {h : xH} {a : Nat} {p0 : Int32} {x : Option Int64} {h1 : xH} (H : f_159  a p0 h = some (x, h1)) (hq : Q (some (xOl x)) h1) : Wp (d + 0) 159 0 [some (.ref a), some (.int p0)] [] h Q := by
  unfold f_159 at H
  refine wp_iload_n xi_159 dX11_row_0 rfl ?_
  refine wp_if_lt 15 xi_159 dX11_row_1 rfl (fun c1 => ?_) (fun c1 => ?_)
  · rw [if_pos c1] at H
    obtain ⟨rfl, rfl⟩ := oi2 H
    exact wq_throw xi_159 dX11_row_15 xn_11_168 hq
  · rw [if_neg c1] at H
    refine wp_iload_n xi_159 dX11_row_4 rfl ?_
    refine wp_aload_n xi_159 dX11_row_5 rfl ?_
    obtain ⟨x2, gx2, H⟩ := Option.bind_eq_some_iff.mp H
    refine wq_getfr xi_159 dX11_row_6 xf_11_19 gx2 ?_
    obtain ⟨x3, gx3, H⟩ := Option.bind_eq_some_iff.mp H
    refine wq_getfi xi_159 dX11_row_9 xf_11_487 gx3 ?_
    refine wp_icmp_lt 26 xi_159 dX11_row_12 rfl (fun c4 => ?_) (fun c4 => ?_)
    · rw [if_pos c4] at H
      refine wp_aload_n xi_159 dX11_row_26 rfl ?_
      obtain ⟨x5, gx5, H⟩ := Option.bind_eq_some_iff.mp H
      refine wq_getfr xi_159 dX11_row_27 xf_11_19 gx5 ?_
      obtain ⟨x6, gx6, H⟩ := Option.bind_eq_some_iff.mp H
      refine wq_getfr xi_159 dX11_row_30 xf_11_490 gx6 ?_
      refine wp_iload_n xi_159 dX11_row_33 rfl ?_
      obtain ⟨x7, gx7, H⟩ := Option.bind_eq_some_iff.mp H
      refine wq_laload xi_159 dX11_row_34 gx7 ?_
      obtain ⟨rfl, rfl⟩ := oi2 H
      exact wp_lret xi_159 dX11_row_35 hq
    · rw [if_neg c4] at H
      obtain ⟨rfl, rfl⟩ := oi2 H
      exact wq_throw xi_159 dX11_row_15 xn_11_168 hq
/- FelledHasLostModel.thrown()I -/
def f_160  (a : Nat) (h : xH) : Option (Int32 × xH) :=
  (pFi h a 12 0).bind fun x1 =>
  some (x1, h)
set_option maxHeartbeats 4000000 in
theorem e_160 (d : Nat) (Q : Option Value → xH → Prop)  {h : xH} {a : Nat} {x : Int32} {h1 : xH} (H : f_160  a h = some (x, h1)) (hq : Q (some (.int x)) h1) : Wp (d + 0) 160 0 [some (.ref a)] [] h Q := by
  unfold f_160 at H
  refine wp_aload_n xi_160 dX12_thrown_0 rfl ?_
  obtain ⟨x1, gx1, H⟩ := Option.bind_eq_some_iff.mp H
  refine wq_getfi xi_160 dX12_thrown_1 xf_12_3 gx1 ?_
  obtain ⟨rfl, rfl⟩ := oi2 H
  exact wp_iret xi_160 dX12_thrown_4 hq
/- FelledHasLostModel.refuse()I -/
def f_161  (a : Nat) (h : xH) : Option (Int32 × xH) :=
  (pP h a 12 0 (.int 1)).bind fun h1 =>
  some (0, h1)
set_option maxHeartbeats 4000000 in
theorem e_161 (d : Nat) (Q : Option Value → xH → Prop)  {h : xH} {a : Nat} {x : Int32} {h1 : xH} (H : f_161  a h = some (x, h1)) (hq : Q (some (.int x)) h1) : Wp (d + 0) 161 0 [some (.ref a)] [] h Q := by
  unfold f_161 at H
  refine wp_aload_n xi_161 dX12_refuse_0 rfl ?_
  refine wp_iconst 1 xi_161 dX12_refuse_1 rfl ?_
  obtain ⟨h1, gh1, H⟩ := Option.bind_eq_some_iff.mp H
  refine wq_putf xi_161 dX12_refuse_2 xf_12_3 (Or.inl rfl) gh1 ?_
  refine wp_iconst 0 xi_161 dX12_refuse_5 rfl ?_
  obtain ⟨rfl, rfl⟩ := oi2 H
  exact wp_iret xi_161 dX12_refuse_6 hq
/- FelledHasLostModel.in(JJJ)Z -/
def f_162  (p0 : Int64) (p1 : Int64) (p2 : Int64) (h : xH) : Option (Int32 × xH) :=
  ((if (lg_cmp p0 p1) < 0 then
  some (0)
  else
  (if (0 : Int32) < (lg_cmp p0 p2) then
  some (0)
  else
  some (1)) : Option (Int32))).bind fun (w3 : Int32) =>
  pZ w3 h
set_option maxHeartbeats 4000000 in
theorem e_162 (d : Nat) (Q : Option Value → xH → Prop)  {h : xH} {p0 : Int64} {p1 : Int64} {p2 : Int64} {x : Int32} {h1 : xH} (H : f_162  p0 p1 p2 h = some (x, h1)) (hq : Q (some (.int x)) h1) : Wp (d + 0) 162 0 [some (.long p0), none, some (.long p1), none, some (.long p2), none] [] h Q := by
  unfold f_162 at H
  refine wp_lload_n xi_162 dX12_in_0 rfl ?_
  refine wp_lload_n xi_162 dX12_in_1 rfl ?_
  refine wp_lcmp xi_162 dX12_in_2 ?_
  obtain ⟨w3, G6, H⟩ := Option.bind_eq_some_iff.mp H
  have K4 : Wp (d + 0) 162 18 [some (.long p0), none, some (.long p1), none, some (.long p2), none] [.int w3] h Q := by
    obtain ⟨gz, hz⟩ := pZ_ok H
    obtain ⟨rfl, rfl⟩ := Prod.mk.inj hz
    exact wp_zret xi_162 dX12_in_18 gz hq
  clear H
  have H := G6
  clear G6
  refine wp_if_lt 17 xi_162 dX12_in_3 rfl (fun c1 => ?_) (fun c1 => ?_)
  · rw [if_pos c1] at H
    refine wp_iconst 0 xi_162 dX12_in_17 rfl ?_
    obtain rfl := Option.some.inj H
    exact Wp.more (by simp [xMore, Value.category]) K4
  · rw [if_neg c1] at H
    refine wp_lload_n xi_162 dX12_in_6 rfl ?_
    refine wp_lload xi_162 dX12_in_7 rfl ?_
    refine wp_lcmp xi_162 dX12_in_9 ?_
    refine wp_if_gt 17 xi_162 dX12_in_10 rfl (fun c5 => ?_) (fun c5 => ?_)
    · rw [if_pos c5] at H
      refine wp_iconst 0 xi_162 dX12_in_17 rfl ?_
      obtain rfl := Option.some.inj H
      exact Wp.more (by simp [xMore, Value.category]) K4
    · rw [if_neg c5] at H
      refine wp_iconst 1 xi_162 dX12_in_13 rfl ?_
      refine wp_goto 18 xi_162 dX12_in_14 rfl ?_
      obtain rfl := Option.some.inj H
      exact Wp.more (by simp [xMore, Value.category]) K4
/- FelledHasLostModel.flag(Z)I -/
def f_163  (p0 : Int32) (h : xH) : Option (Int32 × xH) :=
  ((if p0 = 0 then
  some (0)
  else
  some (1) : Option (Int32))).bind fun (w2 : Int32) =>
  some (w2, h)
set_option maxHeartbeats 4000000 in
theorem e_163 (d : Nat) (Q : Option Value → xH → Prop)  {h : xH} {p0 : Int32} {x : Int32} {h1 : xH} (H : f_163  p0 h = some (x, h1)) (hq : Q (some (.int x)) h1) : Wp (d + 0) 163 0 [some (.int p0)] [] h Q := by
  unfold f_163 at H
  refine wp_iload_n xi_163 dX12_flag_0 rfl ?_
  obtain ⟨w2, G4, H⟩ := Option.bind_eq_some_iff.mp H
  have K3 : Wp (d + 0) 163 9 [some (.int p0)] [.int w2] h Q := by
    obtain ⟨rfl, rfl⟩ := oi2 H
    exact wp_iret xi_163 dX12_flag_9 hq
  clear H
  have H := G4
  clear G4
  refine wp_if_eq 8 xi_163 dX12_flag_1 rfl (fun c1 => ?_) (fun c1 => ?_)
  · rw [if_pos c1] at H
    refine wp_iconst 0 xi_163 dX12_flag_8 rfl ?_
    obtain rfl := Option.some.inj H
    exact Wp.more (by simp [xMore, Value.category]) K3
  · rw [if_neg c1] at H
    refine wp_iconst 1 xi_163 dX12_flag_4 rfl ?_
    refine wp_goto 9 xi_163 dX12_flag_5 rfl ?_
    obtain rfl := Option.some.inj H
    exact Wp.more (by simp [xMore, Value.category]) K3
/- FelledHasLostModel.enters(J)V -/
def f_165  (a : Nat) (p0 : Int64) (h : xH) : Option (xH) :=
  (pFr h a 12 2).bind fun x1 =>
  (pFi h a 12 1).bind fun x2 =>
  (pSl h x1 x2 p0).bind fun h3 =>
  (pFi h3 a 12 1).bind fun x4 =>
  (pP h3 a 12 1 (.int (x4 + 1))).bind fun h5 =>
  some h5
set_option maxHeartbeats 4000000 in
theorem e_165 (d : Nat) (Q : Option Value → xH → Prop)  {h : xH} {a : Nat} {p0 : Int64} {h1 : xH} (H : f_165  a p0 h = some h1) (hq : Q none h1) : Wp (d + 0) 165 0 [some (.ref a), some (.long p0), none] [] h Q := by
  unfold f_165 at H
  refine wp_aload_n xi_165 dX12_enters_0 rfl ?_
  obtain ⟨x1, gx1, H⟩ := Option.bind_eq_some_iff.mp H
  refine wq_getfr xi_165 dX12_enters_1 xf_12_11 gx1 ?_
  refine wp_aload_n xi_165 dX12_enters_4 rfl ?_
  obtain ⟨x2, gx2, H⟩ := Option.bind_eq_some_iff.mp H
  refine wq_getfi xi_165 dX12_enters_5 xf_12_15 gx2 ?_
  refine wp_lload_n xi_165 dX12_enters_8 rfl ?_
  obtain ⟨h3, gh3, H⟩ := Option.bind_eq_some_iff.mp H
  refine wq_lastore xi_165 dX12_enters_9 gh3 ?_
  refine wp_aload_n xi_165 dX12_enters_10 rfl ?_
  refine wp_dup xi_165 dX12_enters_11 rfl ?_
  obtain ⟨x4, gx4, H⟩ := Option.bind_eq_some_iff.mp H
  refine wq_getfi xi_165 dX12_enters_12 xf_12_15 gx4 ?_
  refine wp_iconst 1 xi_165 dX12_enters_15 rfl ?_
  refine wp_iadd xi_165 dX12_enters_16 ?_
  obtain ⟨h5, gh5, H⟩ := Option.bind_eq_some_iff.mp H
  refine wq_putf xi_165 dX12_enters_17 xf_12_15 (Or.inl rfl) gh5 ?_
  obtain rfl := Option.some.inj H
  exact wp_vret xi_165 dX12_enters_20 hq
/- FelledHasLostModel.empties([I)V -/
def f_167_2  : Nat → Nat → Int32 → xH → Option (xH)
  | 0, _, _, _ => none
  | n + 1, a0, a1, h =>
  (if (48 : Int32) ≤ a1 then
  some (h)
  else
  (pSi h a0 a1 (-1)).bind fun h2 =>
  f_167_2 n a0 (a1 + 1) h2)
theorem ef_167_2 (d : Nat) (Q : Option Value → xH → Prop)  : ∀ (n : Nat) (a0 : Nat) (a1 : Int32) (h : xH) (r : xH), f_167_2 n a0 a1 h = some r → (∀  (h1 : xH), r = h1 → Wp (d + 0) 167 18 [some (.ref a0), none] [] h1 Q) → Wp (d + 0) 167 2 [some (.ref a0), some (.int a1)] [] h Q := by
  intro n
  induction n with
  | zero =>
    intro a0 a1 h r H
    cases H
  | succ n ih =>
    intro a0 a1 h r H KE
    unfold f_167_2 at H
    refine wp_iload_n xi_167 dX12_empties_2 rfl ?_
    refine wp_bipush 48 xi_167 dX12_empties_3 rfl ?_
    refine wp_icmp_ge 18 xi_167 dX12_empties_5 rfl (fun c1 => ?_) (fun c1 => ?_)
    · rw [if_pos c1] at H
      obtain rfl := Option.some.inj H
      exact Wp.more (by simp [xMore, Value.category]) (KE  h rfl)
    · rw [if_neg c1] at H
      refine wp_aload_n xi_167 dX12_empties_8 rfl ?_
      refine wp_iload_n xi_167 dX12_empties_9 rfl ?_
      refine wp_iconst (-1) xi_167 dX12_empties_10 rfl ?_
      obtain ⟨h2, gh2, H⟩ := Option.bind_eq_some_iff.mp H
      refine wq_iastore xi_167 dX12_empties_11 gh2 ?_
      refine wp_iinc (a1 + 1) [some (.ref a0), some (.int (a1 + 1))] xi_167 dX12_empties_12 rfl rfl rfl ?_
      refine wp_goto 2 xi_167 dX12_empties_15 rfl ?_
      exact Wp.more (by simp [xMore, Value.category]) (ih a0 (a1 + 1) h2 _ H KE)
def f_167_21  : Nat → Nat → Int32 → xH → Option (xH)
  | 0, _, _, _ => none
  | n + 1, a0, a1, h =>
  (if (54 : Int32) ≤ a1 then
  some (h)
  else
  (pSi h a0 a1 0).bind fun h2 =>
  f_167_21 n a0 (a1 + 1) h2)
theorem ef_167_21 (d : Nat) (Q : Option Value → xH → Prop)  : ∀ (n : Nat) (a0 : Nat) (a1 : Int32) (h : xH) (r : xH), f_167_21 n a0 a1 h = some r → (∀  (h1 : xH), r = h1 → Wp (d + 0) 167 37 [some (.ref a0), none] [] h1 Q) → Wp (d + 0) 167 21 [some (.ref a0), some (.int a1)] [] h Q := by
  intro n
  induction n with
  | zero =>
    intro a0 a1 h r H
    cases H
  | succ n ih =>
    intro a0 a1 h r H KE
    unfold f_167_21 at H
    refine wp_iload_n xi_167 dX12_empties_21 rfl ?_
    refine wp_bipush 54 xi_167 dX12_empties_22 rfl ?_
    refine wp_icmp_ge 37 xi_167 dX12_empties_24 rfl (fun c1 => ?_) (fun c1 => ?_)
    · rw [if_pos c1] at H
      obtain rfl := Option.some.inj H
      exact Wp.more (by simp [xMore, Value.category]) (KE  h rfl)
    · rw [if_neg c1] at H
      refine wp_aload_n xi_167 dX12_empties_27 rfl ?_
      refine wp_iload_n xi_167 dX12_empties_28 rfl ?_
      refine wp_iconst 0 xi_167 dX12_empties_29 rfl ?_
      obtain ⟨h2, gh2, H⟩ := Option.bind_eq_some_iff.mp H
      refine wq_iastore xi_167 dX12_empties_30 gh2 ?_
      refine wp_iinc (a1 + 1) [some (.ref a0), some (.int (a1 + 1))] xi_167 dX12_empties_31 rfl rfl rfl ?_
      refine wp_goto 21 xi_167 dX12_empties_34 rfl ?_
      exact Wp.more (by simp [xMore, Value.category]) (ih a0 (a1 + 1) h2 _ H KE)
def f_167  (p0 : Nat) (h : xH) : Option (xH) :=
  (f_167_2 100000 p0 0 h).bind fun h1 =>
  (f_167_21 100000 p0 48 h1).bind fun h4 =>
  (pSi h4 p0 51 (-1)).bind fun h7 =>
  some h7
set_option maxHeartbeats 4000000 in
theorem e_167 (d : Nat) (Q : Option Value → xH → Prop)  {h : xH} {p0 : Nat} {h1 : xH} (H : f_167  p0 h = some h1) (hq : Q none h1) : Wp (d + 0) 167 0 [some (.ref p0), none] [] h Q := by
  unfold f_167 at H
  refine wp_iconst 0 xi_167 dX12_empties_0 rfl ?_
  refine wp_istore_n [some (.ref p0), some (.int 0)] xi_167 dX12_empties_1 rfl ?_
  obtain ⟨h1, G2, H⟩ := Option.bind_eq_some_iff.mp H
  refine Wp.more (by simp [xMore, Value.category]) (ef_167_2 d Q  100000 p0 0 h _ G2 (fun z0 e9 => ?_))
  cases e9
  refine wp_bipush 48 xi_167 dX12_empties_18 rfl ?_
  refine wp_istore_n [some (.ref p0), some (.int 48)] xi_167 dX12_empties_20 rfl ?_
  obtain ⟨h4, G5, H⟩ := Option.bind_eq_some_iff.mp H
  refine Wp.more (by simp [xMore, Value.category]) (ef_167_21 d Q  100000 p0 48 h1 _ G5 (fun z0 e9 => ?_))
  cases e9
  refine wp_aload_n xi_167 dX12_empties_37 rfl ?_
  refine wp_bipush 51 xi_167 dX12_empties_38 rfl ?_
  refine wp_iconst (-1) xi_167 dX12_empties_40 rfl ?_
  obtain ⟨h7, gh7, H⟩ := Option.bind_eq_some_iff.mp H
  refine wq_iastore xi_167 dX12_empties_41 gh7 ?_
  obtain rfl := Option.some.inj H
  exact wp_vret xi_167 dX12_empties_42 hq
/- FelledHasLostModel.puts([I[I)V -/
def f_168_2  : Nat → Nat → Nat → Int32 → xH → Option (xH)
  | 0, _, _, _, _ => none
  | n + 1, a0, a1, a2, h =>
  (if (54 : Int32) ≤ a2 then
  some (h)
  else
  (pAi h a0 a2).bind fun x2 =>
  (pSi h a1 a2 x2).bind fun h3 =>
  f_168_2 n a0 a1 (a2 + 1) h3)
theorem ef_168_2 (d : Nat) (Q : Option Value → xH → Prop)  : ∀ (n : Nat) (a0 : Nat) (a1 : Nat) (a2 : Int32) (h : xH) (r : xH), f_168_2 n a0 a1 a2 h = some r → (∀  (h1 : xH), r = h1 → Wp (d + 0) 168 20 [none, none, none] [] h1 Q) → Wp (d + 0) 168 2 [some (.ref a0), some (.ref a1), some (.int a2)] [] h Q := by
  intro n
  induction n with
  | zero =>
    intro a0 a1 a2 h r H
    cases H
  | succ n ih =>
    intro a0 a1 a2 h r H KE
    unfold f_168_2 at H
    refine wp_iload_n xi_168 dX12_puts_2 rfl ?_
    refine wp_bipush 54 xi_168 dX12_puts_3 rfl ?_
    refine wp_icmp_ge 20 xi_168 dX12_puts_5 rfl (fun c1 => ?_) (fun c1 => ?_)
    · rw [if_pos c1] at H
      obtain rfl := Option.some.inj H
      exact Wp.more (by simp [xMore, Value.category]) (KE  h rfl)
    · rw [if_neg c1] at H
      refine wp_aload_n xi_168 dX12_puts_8 rfl ?_
      refine wp_iload_n xi_168 dX12_puts_9 rfl ?_
      refine wp_aload_n xi_168 dX12_puts_10 rfl ?_
      refine wp_iload_n xi_168 dX12_puts_11 rfl ?_
      obtain ⟨x2, gx2, H⟩ := Option.bind_eq_some_iff.mp H
      refine wq_iaload xi_168 dX12_puts_12 gx2 ?_
      obtain ⟨h3, gh3, H⟩ := Option.bind_eq_some_iff.mp H
      refine wq_iastore xi_168 dX12_puts_13 gh3 ?_
      refine wp_iinc (a2 + 1) [some (.ref a0), some (.ref a1), some (.int (a2 + 1))] xi_168 dX12_puts_14 rfl rfl rfl ?_
      refine wp_goto 2 xi_168 dX12_puts_17 rfl ?_
      exact Wp.more (by simp [xMore, Value.category]) (ih a0 a1 (a2 + 1) h3 _ H KE)
def f_168  (p0 : Nat) (p1 : Nat) (h : xH) : Option (xH) :=
  (f_168_2 100000 p0 p1 0 h).bind fun h1 =>
  some h1
set_option maxHeartbeats 4000000 in
theorem e_168 (d : Nat) (Q : Option Value → xH → Prop)  {h : xH} {p0 : Nat} {p1 : Nat} {h1 : xH} (H : f_168  p0 p1 h = some h1) (hq : Q none h1) : Wp (d + 0) 168 0 [some (.ref p0), some (.ref p1), none] [] h Q := by
  unfold f_168 at H
  refine wp_iconst 0 xi_168 dX12_puts_0 rfl ?_
  refine wp_istore_n [some (.ref p0), some (.ref p1), some (.int 0)] xi_168 dX12_puts_1 rfl ?_
  obtain ⟨h1, G2, H⟩ := Option.bind_eq_some_iff.mp H
  refine Wp.more (by simp [xMore, Value.category]) (ef_168_2 d Q  100000 p0 p1 0 h _ G2 (fun z0 e9 => ?_))
  cases e9
  obtain rfl := Option.some.inj H
  exact wp_vret xi_168 dX12_puts_20 hq
/- FelledHasLostModel.isThere([II)Z -/
def f_169  (p0 : Nat) (p1 : Int32) (h : xH) : Option (Int32 × xH) :=
  (f_162 ((p1 : Int32).toInt64) (0 : Int64) (47 : Int64) h).bind fun (x2, h1) =>
  ((if x2 = 0 then
  some (0)
  else
  (pAi h1 p0 p1).bind fun x8 =>
  (if x8 < 0 then
  some (0)
  else
  some (1)) : Option (Int32))).bind fun (w6 : Int32) =>
  pZ w6 h1
set_option maxHeartbeats 4000000 in
theorem e_169 (d : Nat) (Q : Option Value → xH → Prop)  {h : xH} {p0 : Nat} {p1 : Int32} {x : Int32} {h1 : xH} (H : f_169  p0 p1 h = some (x, h1)) (hq : Q (some (.int x)) h1) : Wp (d + 1) 169 0 [some (.ref p0), some (.int p1)] [] h Q := by
  unfold f_169 at H
  refine wp_iload_n xi_169 dX12_isThere_0 rfl ?_
  refine wp_i2l xi_169 dX12_isThere_1 ?_
  refine wp_lconst 0 xi_169 dX12_isThere_2 rfl ?_
  refine wp_ldc2 xi_169 dX12_isThere_3 xl_12_133 ?_
  obtain ⟨⟨x2, h1⟩, gh1, H⟩ := Option.bind_eq_some_iff.mp H
  dsimp only at H
  refine wq_callS (as := [.long ((p1 : Int32).toInt64), .long (0 : Int64), .long (47 : Int64)]) (r := []) (v1 := (some (.int x2))) xi_169 xi_162 dX12_isThere_6 xm_12_135 rfl (Nat.le_of_ble_eq_true rfl) ⟨(Nat.le_of_ble_eq_true rfl), (Nat.le_of_ble_eq_true rfl)⟩ rfl nofun (e_162 d _ gh1 ⟨rfl, rfl⟩) ?_
  change Wp _ _ _ _ [.int x2] _ _
  obtain ⟨w6, G10, H⟩ := Option.bind_eq_some_iff.mp H
  have K7 : Wp (d + 1) 169 23 [some (.ref p0), some (.int p1)] [.int w6] h1 Q := by
    obtain ⟨gz, hz⟩ := pZ_ok H
    obtain ⟨rfl, rfl⟩ := Prod.mk.inj hz
    exact wp_zret xi_169 dX12_isThere_23 gz hq
  clear H
  have H := G10
  clear G10
  refine wp_if_eq 22 xi_169 dX12_isThere_9 rfl (fun c3 => ?_) (fun c3 => ?_)
  · rw [if_pos c3] at H
    refine wp_iconst 0 xi_169 dX12_isThere_22 rfl ?_
    obtain rfl := Option.some.inj H
    exact Wp.more (by simp [xMore, Value.category]) K7
  · rw [if_neg c3] at H
    refine wp_aload_n xi_169 dX12_isThere_12 rfl ?_
    refine wp_iload_n xi_169 dX12_isThere_13 rfl ?_
    obtain ⟨x8, gx8, H⟩ := Option.bind_eq_some_iff.mp H
    refine wq_iaload xi_169 dX12_isThere_14 gx8 ?_
    refine wp_if_lt 22 xi_169 dX12_isThere_15 rfl (fun c9 => ?_) (fun c9 => ?_)
    · rw [if_pos c9] at H
      refine wp_iconst 0 xi_169 dX12_isThere_22 rfl ?_
      obtain rfl := Option.some.inj H
      exact Wp.more (by simp [xMore, Value.category]) K7
    · rw [if_neg c9] at H
      refine wp_iconst 1 xi_169 dX12_isThere_18 rfl ?_
      refine wp_goto 23 xi_169 dX12_isThere_19 rfl ?_
      obtain rfl := Option.some.inj H
      exact Wp.more (by simp [xMore, Value.category]) K7
/- FelledHasLostModel.blocksOf([II)I -/
def f_170  (p0 : Nat) (p1 : Int32) (h : xH) : Option (Int32 × xH) :=
  (pAi h p0 (3 * p1)).bind fun x1 =>
  ((if x1 < 0 then
  some (0)
  else
  some (1) : Option (Int32))).bind fun (w3 : Int32) =>
  (f_163 w3 h).bind fun (x6, h5) =>
  (pAi h5 p0 ((3 * p1) + 1)).bind fun x7 =>
  ((if x7 < 0 then
  some (0)
  else
  some (1) : Option (Int32))).bind fun (w9 : Int32) =>
  (f_163 w9 h5).bind fun (x12, h11) =>
  (pAi h11 p0 ((3 * p1) + 2)).bind fun x13 =>
  ((if x13 < 0 then
  some (0)
  else
  some (1) : Option (Int32))).bind fun (w15 : Int32) =>
  (f_163 w15 h11).bind fun (x18, h17) =>
  some (((x6 + x12) + x18), h17)
set_option maxHeartbeats 4000000 in
theorem e_170 (d : Nat) (Q : Option Value → xH → Prop)  {h : xH} {p0 : Nat} {p1 : Int32} {x : Int32} {h1 : xH} (H : f_170  p0 p1 h = some (x, h1)) (hq : Q (some (.int x)) h1) : Wp (d + 1) 170 0 [some (.ref p0), some (.int p1)] [] h Q := by
  unfold f_170 at H
  refine wp_aload_n xi_170 dX12_blocksOf_0 rfl ?_
  refine wp_iconst 3 xi_170 dX12_blocksOf_1 rfl ?_
  refine wp_iload_n xi_170 dX12_blocksOf_2 rfl ?_
  refine wp_imul xi_170 dX12_blocksOf_3 ?_
  obtain ⟨x1, gx1, H⟩ := Option.bind_eq_some_iff.mp H
  refine wq_iaload xi_170 dX12_blocksOf_4 gx1 ?_
  obtain ⟨w3, G21, H⟩ := Option.bind_eq_some_iff.mp H
  have K4 : Wp (d + 1) 170 13 [some (.ref p0), some (.int p1)] [.int w3] h Q := by
    obtain ⟨⟨x6, h5⟩, gh5, H⟩ := Option.bind_eq_some_iff.mp H
    dsimp only at H
    refine wq_callS (as := [.int w3]) (r := []) (v1 := (some (.int x6))) xi_170 xi_163 dX12_blocksOf_13 xm_12_139 rfl (Nat.le_of_ble_eq_true rfl) ⟨(Nat.le_of_ble_eq_true rfl), (Nat.le_of_ble_eq_true rfl)⟩ rfl nofun (e_163 d _ gh5 ⟨rfl, rfl⟩) ?_
    change Wp _ _ _ _ [.int x6] _ _
    refine wp_aload_n xi_170 dX12_blocksOf_16 rfl ?_
    refine wp_iconst 3 xi_170 dX12_blocksOf_17 rfl ?_
    refine wp_iload_n xi_170 dX12_blocksOf_18 rfl ?_
    refine wp_imul xi_170 dX12_blocksOf_19 ?_
    refine wp_iconst 1 xi_170 dX12_blocksOf_20 rfl ?_
    refine wp_iadd xi_170 dX12_blocksOf_21 ?_
    obtain ⟨x7, gx7, H⟩ := Option.bind_eq_some_iff.mp H
    refine wq_iaload xi_170 dX12_blocksOf_22 gx7 ?_
    obtain ⟨w9, G20, H⟩ := Option.bind_eq_some_iff.mp H
    have K10 : Wp (d + 1) 170 31 [some (.ref p0), some (.int p1)] [.int w9, .int x6] h5 Q := by
      obtain ⟨⟨x12, h11⟩, gh11, H⟩ := Option.bind_eq_some_iff.mp H
      dsimp only at H
      refine wq_callS (as := [.int w9]) (r := [.int x6]) (v1 := (some (.int x12))) xi_170 xi_163 dX12_blocksOf_31 xm_12_139 rfl (Nat.le_of_ble_eq_true rfl) ⟨(Nat.le_of_ble_eq_true rfl), (Nat.le_of_ble_eq_true rfl)⟩ rfl nofun (e_163 d _ gh11 ⟨rfl, rfl⟩) ?_
      change Wp _ _ _ _ [.int x12, .int x6] _ _
      refine wp_iadd xi_170 dX12_blocksOf_34 ?_
      refine wp_aload_n xi_170 dX12_blocksOf_35 rfl ?_
      refine wp_iconst 3 xi_170 dX12_blocksOf_36 rfl ?_
      refine wp_iload_n xi_170 dX12_blocksOf_37 rfl ?_
      refine wp_imul xi_170 dX12_blocksOf_38 ?_
      refine wp_iconst 2 xi_170 dX12_blocksOf_39 rfl ?_
      refine wp_iadd xi_170 dX12_blocksOf_40 ?_
      obtain ⟨x13, gx13, H⟩ := Option.bind_eq_some_iff.mp H
      refine wq_iaload xi_170 dX12_blocksOf_41 gx13 ?_
      obtain ⟨w15, G19, H⟩ := Option.bind_eq_some_iff.mp H
      have K16 : Wp (d + 1) 170 50 [some (.ref p0), some (.int p1)] [.int w15, .int (x6 + x12)] h11 Q := by
        obtain ⟨⟨x18, h17⟩, gh17, H⟩ := Option.bind_eq_some_iff.mp H
        dsimp only at H
        refine wq_callS (as := [.int w15]) (r := [.int (x6 + x12)]) (v1 := (some (.int x18))) xi_170 xi_163 dX12_blocksOf_50 xm_12_139 rfl (Nat.le_of_ble_eq_true rfl) ⟨(Nat.le_of_ble_eq_true rfl), (Nat.le_of_ble_eq_true rfl)⟩ rfl nofun (e_163 d _ gh17 ⟨rfl, rfl⟩) ?_
        change Wp _ _ _ _ [.int x18, .int (x6 + x12)] _ _
        refine wp_iadd xi_170 dX12_blocksOf_53 ?_
        obtain ⟨rfl, rfl⟩ := oi2 H
        exact wp_iret xi_170 dX12_blocksOf_54 hq
      clear H
      have H := G19
      clear G19
      refine wp_if_lt 49 xi_170 dX12_blocksOf_42 rfl (fun c14 => ?_) (fun c14 => ?_)
      · rw [if_pos c14] at H
        refine wp_iconst 0 xi_170 dX12_blocksOf_49 rfl ?_
        obtain rfl := Option.some.inj H
        exact Wp.more (by simp [xMore, Value.category]) K16
      · rw [if_neg c14] at H
        refine wp_iconst 1 xi_170 dX12_blocksOf_45 rfl ?_
        refine wp_goto 50 xi_170 dX12_blocksOf_46 rfl ?_
        obtain rfl := Option.some.inj H
        exact Wp.more (by simp [xMore, Value.category]) K16
    clear H
    have H := G20
    clear G20
    refine wp_if_lt 30 xi_170 dX12_blocksOf_23 rfl (fun c8 => ?_) (fun c8 => ?_)
    · rw [if_pos c8] at H
      refine wp_iconst 0 xi_170 dX12_blocksOf_30 rfl ?_
      obtain rfl := Option.some.inj H
      exact Wp.more (by simp [xMore, Value.category]) K10
    · rw [if_neg c8] at H
      refine wp_iconst 1 xi_170 dX12_blocksOf_26 rfl ?_
      refine wp_goto 31 xi_170 dX12_blocksOf_27 rfl ?_
      obtain rfl := Option.some.inj H
      exact Wp.more (by simp [xMore, Value.category]) K10
  clear H
  have H := G21
  clear G21
  refine wp_if_lt 12 xi_170 dX12_blocksOf_5 rfl (fun c2 => ?_) (fun c2 => ?_)
  · rw [if_pos c2] at H
    refine wp_iconst 0 xi_170 dX12_blocksOf_12 rfl ?_
    obtain rfl := Option.some.inj H
    exact Wp.more (by simp [xMore, Value.category]) K4
  · rw [if_neg c2] at H
    refine wp_iconst 1 xi_170 dX12_blocksOf_8 rfl ?_
    refine wp_goto 13 xi_170 dX12_blocksOf_9 rfl ?_
    obtain rfl := Option.some.inj H
    exact Wp.more (by simp [xMore, Value.category]) K4
/- FelledHasLostModel.sign(I)I -/
def f_171_18  : Nat → Nat → Int32 → Int32 → xH → Option (xH)
  | 0, _, _, _, _ => none
  | n + 1, a0, a1, a2, h =>
  (if (4 : Int32) ≤ a2 then
  some (h)
  else
  (pFr h a0 12 9).bind fun x2 =>
  (pFi h a0 12 10).bind fun x3 =>
  (pSi h x2 (x3 + a2) ((a1 >>> ((24 - (8 * a2)) &&& 31)) &&& 255)).bind fun h4 =>
  f_171_18 n a0 a1 (a2 + 1) h4)
theorem ef_171_18 (d : Nat) (Q : Option Value → xH → Prop)  : ∀ (n : Nat) (a0 : Nat) (a1 : Int32) (a2 : Int32) (h : xH) (r : xH), f_171_18 n a0 a1 a2 h = some r → (∀  (h1 : xH), r = h1 → Wp (d + 0) 171 53 [some (.ref a0), none, none] [] h1 Q) → Wp (d + 0) 171 18 [some (.ref a0), some (.int a1), some (.int a2)] [] h Q := by
  intro n
  induction n with
  | zero =>
    intro a0 a1 a2 h r H
    cases H
  | succ n ih =>
    intro a0 a1 a2 h r H KE
    unfold f_171_18 at H
    refine wp_iload_n xi_171 dX12_sign_18 rfl ?_
    refine wp_iconst 4 xi_171 dX12_sign_19 rfl ?_
    refine wp_icmp_ge 53 xi_171 dX12_sign_20 rfl (fun c1 => ?_) (fun c1 => ?_)
    · rw [if_pos c1] at H
      obtain rfl := Option.some.inj H
      exact Wp.more (by simp [xMore, Value.category]) (KE  h rfl)
    · rw [if_neg c1] at H
      refine wp_aload_n xi_171 dX12_sign_23 rfl ?_
      obtain ⟨x2, gx2, H⟩ := Option.bind_eq_some_iff.mp H
      refine wq_getfr xi_171 dX12_sign_24 xf_12_37 gx2 ?_
      refine wp_aload_n xi_171 dX12_sign_27 rfl ?_
      obtain ⟨x3, gx3, H⟩ := Option.bind_eq_some_iff.mp H
      refine wq_getfi xi_171 dX12_sign_28 xf_12_143 gx3 ?_
      refine wp_iload_n xi_171 dX12_sign_31 rfl ?_
      refine wp_iadd xi_171 dX12_sign_32 ?_
      refine wp_iload_n xi_171 dX12_sign_33 rfl ?_
      refine wp_bipush 24 xi_171 dX12_sign_34 rfl ?_
      refine wp_bipush 8 xi_171 dX12_sign_36 rfl ?_
      refine wp_iload_n xi_171 dX12_sign_38 rfl ?_
      refine wp_imul xi_171 dX12_sign_39 ?_
      refine wp_isub xi_171 dX12_sign_40 ?_
      refine wp_ishr xi_171 dX12_sign_41 ?_
      refine wp_sipush 255 xi_171 dX12_sign_42 rfl ?_
      refine wp_iand xi_171 dX12_sign_45 ?_
      obtain ⟨h4, gh4, H⟩ := Option.bind_eq_some_iff.mp H
      refine wq_iastore xi_171 dX12_sign_46 gh4 ?_
      refine wp_iinc (a2 + 1) [some (.ref a0), some (.int a1), some (.int (a2 + 1))] xi_171 dX12_sign_47 rfl rfl rfl ?_
      refine wp_goto 18 xi_171 dX12_sign_50 rfl ?_
      exact Wp.more (by simp [xMore, Value.category]) (ih a0 a1 (a2 + 1) h4 _ H KE)
def f_171  (a : Nat) (p0 : Int32) (h : xH) : Option (Int32 × xH) :=
  (pP h a 12 0 (.int 0)).bind fun h1 =>
  (pFi h1 a 12 10).bind fun x2 =>
  (if x2 ≤ 76 then
  (f_171_18 100000 a p0 0 h1).bind fun h4 =>
  (pFi h4 a 12 10).bind fun x7 =>
  (pP h4 a 12 10 (.int (x7 + 4))).bind fun h8 =>
  (pFi h8 a 12 10).bind fun x9 =>
  some (x9, h8)
  else
  some ((-1), h1))
set_option maxHeartbeats 4000000 in
theorem e_171 (d : Nat) (Q : Option Value → xH → Prop)  {h : xH} {a : Nat} {p0 : Int32} {x : Int32} {h1 : xH} (H : f_171  a p0 h = some (x, h1)) (hq : Q (some (.int x)) h1) : Wp (d + 0) 171 0 [some (.ref a), some (.int p0), none] [] h Q := by
  unfold f_171 at H
  refine wp_aload_n xi_171 dX12_sign_0 rfl ?_
  refine wp_iconst 0 xi_171 dX12_sign_1 rfl ?_
  obtain ⟨h1, gh1, H⟩ := Option.bind_eq_some_iff.mp H
  refine wq_putf xi_171 dX12_sign_2 xf_12_3 (Or.inl rfl) gh1 ?_
  refine wp_aload_n xi_171 dX12_sign_5 rfl ?_
  obtain ⟨x2, gx2, H⟩ := Option.bind_eq_some_iff.mp H
  refine wq_getfi xi_171 dX12_sign_6 xf_12_143 gx2 ?_
  refine wp_bipush 76 xi_171 dX12_sign_9 rfl ?_
  refine wp_icmp_le 16 xi_171 dX12_sign_11 rfl (fun c3 => ?_) (fun c3 => ?_)
  · rw [if_pos c3] at H
    refine wp_iconst 0 xi_171 dX12_sign_16 rfl ?_
    refine wp_istore_n [some (.ref a), some (.int p0), some (.int 0)] xi_171 dX12_sign_17 rfl ?_
    obtain ⟨h4, G5, H⟩ := Option.bind_eq_some_iff.mp H
    refine Wp.more (by simp [xMore, Value.category]) (ef_171_18 d Q  100000 a p0 0 h1 _ G5 (fun z0 e9 => ?_))
    cases e9
    refine wp_aload_n xi_171 dX12_sign_53 rfl ?_
    refine wp_dup xi_171 dX12_sign_54 rfl ?_
    obtain ⟨x7, gx7, H⟩ := Option.bind_eq_some_iff.mp H
    refine wq_getfi xi_171 dX12_sign_55 xf_12_143 gx7 ?_
    refine wp_iconst 4 xi_171 dX12_sign_58 rfl ?_
    refine wp_iadd xi_171 dX12_sign_59 ?_
    obtain ⟨h8, gh8, H⟩ := Option.bind_eq_some_iff.mp H
    refine wq_putf xi_171 dX12_sign_60 xf_12_143 (Or.inl rfl) gh8 ?_
    refine wp_aload_n xi_171 dX12_sign_63 rfl ?_
    obtain ⟨x9, gx9, H⟩ := Option.bind_eq_some_iff.mp H
    refine wq_getfi xi_171 dX12_sign_64 xf_12_143 gx9 ?_
    obtain ⟨rfl, rfl⟩ := oi2 H
    exact wp_iret xi_171 dX12_sign_67 hq
  · rw [if_neg c3] at H
    refine wp_iconst (-1) xi_171 dX12_sign_14 rfl ?_
    obtain ⟨rfl, rfl⟩ := oi2 H
    exact wp_iret xi_171 dX12_sign_15 hq
/- FelledHasLostModel.end(I)Z -/
def f_172  (a : Nat) (p0 : Int32) (h : xH) : Option (Int32 × xH) :=
  (pP h a 12 0 (.int 0)).bind fun h1 =>
  (pFi h1 a 12 10).bind fun x2 =>
  (f_162 ((p0 : Int32).toInt64) (0 : Int64) ((x2 : Int32).toInt64) h1).bind fun (x4, h3) =>
  (if x4 = 0 then
  pZ 0 h3
  else
  (pP h3 a 12 10 (.int p0)).bind fun h6 =>
  pZ 1 h6)
set_option maxHeartbeats 4000000 in
theorem e_172 (d : Nat) (Q : Option Value → xH → Prop)  {h : xH} {a : Nat} {p0 : Int32} {x : Int32} {h1 : xH} (H : f_172  a p0 h = some (x, h1)) (hq : Q (some (.int x)) h1) : Wp (d + 1) 172 0 [some (.ref a), some (.int p0)] [] h Q := by
  unfold f_172 at H
  refine wp_aload_n xi_172 dX12_end_0 rfl ?_
  refine wp_iconst 0 xi_172 dX12_end_1 rfl ?_
  obtain ⟨h1, gh1, H⟩ := Option.bind_eq_some_iff.mp H
  refine wq_putf xi_172 dX12_end_2 xf_12_3 (Or.inl rfl) gh1 ?_
  refine wp_iload_n xi_172 dX12_end_5 rfl ?_
  refine wp_i2l xi_172 dX12_end_6 ?_
  refine wp_lconst 0 xi_172 dX12_end_7 rfl ?_
  refine wp_aload_n xi_172 dX12_end_8 rfl ?_
  obtain ⟨x2, gx2, H⟩ := Option.bind_eq_some_iff.mp H
  refine wq_getfi xi_172 dX12_end_9 xf_12_143 gx2 ?_
  refine wp_i2l xi_172 dX12_end_12 ?_
  obtain ⟨⟨x4, h3⟩, gh3, H⟩ := Option.bind_eq_some_iff.mp H
  dsimp only at H
  refine wq_callS (as := [.long ((p0 : Int32).toInt64), .long (0 : Int64), .long ((x2 : Int32).toInt64)]) (r := []) (v1 := (some (.int x4))) xi_172 xi_162 dX12_end_13 xm_12_135 rfl (Nat.le_of_ble_eq_true rfl) ⟨(Nat.le_of_ble_eq_true rfl), (Nat.le_of_ble_eq_true rfl)⟩ rfl nofun (e_162 d _ gh3 ⟨rfl, rfl⟩) ?_
  change Wp _ _ _ _ [.int x4] _ _
  refine wp_if_ne 21 xi_172 dX12_end_16 rfl (fun c5 => ?_) (fun c5 => ?_)
  · rw [if_neg c5] at H
    refine wp_aload_n xi_172 dX12_end_21 rfl ?_
    refine wp_iload_n xi_172 dX12_end_22 rfl ?_
    obtain ⟨h6, gh6, H⟩ := Option.bind_eq_some_iff.mp H
    refine wq_putf xi_172 dX12_end_23 xf_12_143 (Or.inl rfl) gh6 ?_
    refine wp_iconst 1 xi_172 dX12_end_26 rfl ?_
    obtain ⟨gz, hz⟩ := pZ_ok H
    obtain ⟨rfl, rfl⟩ := Prod.mk.inj hz
    exact wp_zret xi_172 dX12_end_27 gz hq
  · rw [if_pos c5] at H
    refine wp_iconst 0 xi_172 dX12_end_19 rfl ?_
    obtain ⟨gz, hz⟩ := pZ_ok H
    obtain ⟨rfl, rfl⟩ := Prod.mk.inj hz
    exact wp_zret xi_172 dX12_end_20 gz hq
/- FelledHasLostModel.begins(I)I -/
def f_173  (a : Nat) (p0 : Int32) (h : xH) : Option (Int32 × xH) :=
  (pFi h a 12 10).bind fun x1 =>
  (pP h a 12 10 (.int 0)).bind fun h2 =>
  (pP h2 a 12 11 (.int 0)).bind fun h3 =>
  (pP h3 a 12 13 (.int 0)).bind fun h4 =>
  (pP h4 a 12 12 (.int (pMin x1 p0))).bind fun h5 =>
  some (x1, h5)
set_option maxHeartbeats 4000000 in
theorem e_173 (d : Nat) (Q : Option Value → xH → Prop)  {h : xH} {a : Nat} {p0 : Int32} {x : Int32} {h1 : xH} (H : f_173  a p0 h = some (x, h1)) (hq : Q (some (.int x)) h1) : Wp (d + 0) 173 0 [some (.ref a), some (.int p0), none] [] h Q := by
  unfold f_173 at H
  refine wp_aload_n xi_173 dX12_begins_0 rfl ?_
  obtain ⟨x1, gx1, H⟩ := Option.bind_eq_some_iff.mp H
  refine wq_getfi xi_173 dX12_begins_1 xf_12_143 gx1 ?_
  refine wp_istore_n [some (.ref a), some (.int p0), some (.int x1)] xi_173 dX12_begins_4 rfl ?_
  refine wp_aload_n xi_173 dX12_begins_5 rfl ?_
  refine wp_iconst 0 xi_173 dX12_begins_6 rfl ?_
  obtain ⟨h2, gh2, H⟩ := Option.bind_eq_some_iff.mp H
  refine wq_putf xi_173 dX12_begins_7 xf_12_143 (Or.inl rfl) gh2 ?_
  refine wp_aload_n xi_173 dX12_begins_10 rfl ?_
  refine wp_iconst 0 xi_173 dX12_begins_11 rfl ?_
  obtain ⟨h3, gh3, H⟩ := Option.bind_eq_some_iff.mp H
  refine wq_putf xi_173 dX12_begins_12 xf_12_146 (Or.inl rfl) gh3 ?_
  refine wp_aload_n xi_173 dX12_begins_15 rfl ?_
  refine wp_iconst 0 xi_173 dX12_begins_16 rfl ?_
  obtain ⟨h4, gh4, H⟩ := Option.bind_eq_some_iff.mp H
  refine wq_putf xi_173 dX12_begins_17 xf_12_149 (Or.inl rfl) gh4 ?_
  refine wp_aload_n xi_173 dX12_begins_20 rfl ?_
  refine wp_iload_n xi_173 dX12_begins_21 rfl ?_
  refine wp_iload_n xi_173 dX12_begins_22 rfl ?_
  refine wq_min xi_173 dX12_begins_23 xm_12_152 (Nat.le_of_ble_eq_true rfl) ?_
  obtain ⟨h5, gh5, H⟩ := Option.bind_eq_some_iff.mp H
  refine wq_putf xi_173 dX12_begins_26 xf_12_158 (Or.inl rfl) gh5 ?_
  refine wp_iload_n xi_173 dX12_begins_29 rfl ?_
  obtain ⟨rfl, rfl⟩ := oi2 H
  exact wp_iret xi_173 dX12_begins_30 hq
