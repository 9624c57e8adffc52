/- FelledHasLost$Rule.readFrom(LFelledHasLost$Text;)I -/
def f_53_16  : Nat → Nat → Nat → Int32 → Int32 → xH → Option ((xH) ⊕ (Int32 × xH))
  | 0, _, _, _, _, _ => none
  | n + 1, a0, a1, a2, a3, h =>
  (if a2 ≤ a3 then
  some (.inl (h))
  else
  (pFi h a0 6 10).bind fun x2 =>
  (if x2 = 0 then
  (pG (pIs h a0 6)).bind fun _ =>
  (f_60 a0 a1 a3 h).bind fun (x6, h5) =>
  (if x6 = 0 then
  some (.inr (a3, h5))
  else
  f_53_16 n a0 a1 a2 (a3 + 1) h5)
  else
  (pG (pIs h a0 6)).bind fun _ =>
  (f_59 a0 a1 a3 h).bind fun (x10, h9) =>
  (if x10 = 0 then
  some (.inr (a3, h9))
  else
  f_53_16 n a0 a1 a2 (a3 + 1) h9)))
theorem ef_53_16 (d : Nat) (Q : Option Value → xH → Prop)  : ∀ (n : Nat) (a0 : Nat) (a1 : Nat) (a2 : Int32) (a3 : Int32) (h : xH) (r : (xH) ⊕ (Int32 × xH)), f_53_16 n a0 a1 a2 a3 h = some r → (∀  (h1 : xH), r = .inl h1 → Wp (d + 4) 53 57 [some (.ref a0), some (.ref a1), some (.int a2), none] [] h1 Q) → (∀ (x : Int32) (h1 : xH), r = .inr (x, h1) → Q (some (.int x)) h1) → Wp (d + 4) 53 16 [some (.ref a0), some (.ref a1), some (.int a2), some (.int a3)] [] h Q := by
  intro n
  induction n with
  | zero =>
    intro a0 a1 a2 a3 h r H
    cases H
  | succ n ih =>
    intro a0 a1 a2 a3 h r H KE KR
    unfold f_53_16 at H
    refine wp_iload_n xi_53 dX6_readFrom_16 rfl ?_
    refine wp_iload_n xi_53 dX6_readFrom_17 rfl ?_
    refine wp_icmp_ge 57 xi_53 dX6_readFrom_18 rfl (fun c1 => ?_) (fun c1 => ?_)
    · rw [if_pos c1] at H
      obtain rfl := Option.some.inj H
      exact Wp.more (by simp [xMore, Value.category]) (KE  h rfl)
    · rw [if_neg c1] at H
      refine wp_aload_n xi_53 dX6_readFrom_21 rfl ?_
      obtain ⟨x2, gx2, H⟩ := Option.bind_eq_some_iff.mp H
      refine wq_getfi xi_53 dX6_readFrom_22 xf_6_49 gx2 ?_
      refine wp_if_eq 40 xi_53 dX6_readFrom_25 rfl (fun c3 => ?_) (fun c3 => ?_)
      · rw [if_pos c3] at H
        refine wp_aload_n xi_53 dX6_readFrom_40 rfl ?_
        refine wp_aload_n xi_53 dX6_readFrom_41 rfl ?_
        refine wp_iload_n xi_53 dX6_readFrom_42 rfl ?_
        obtain ⟨u4, gu4, H⟩ := Option.bind_eq_some_iff.mp H
        obtain ⟨⟨x6, h5⟩, gh5, H⟩ := Option.bind_eq_some_iff.mp H
        dsimp only at H
        refine wq_callV (a := a0) (as := [.ref a1, .int a3]) (r := []) (v1 := (some (.int x6))) xi_53 xi_60 dX6_readFrom_43 xm_6_57 rfl (Nat.le_of_ble_eq_true rfl) (pG_ok gu4) ⟨(Nat.le_of_ble_eq_true rfl), (Nat.le_of_ble_eq_true rfl)⟩ rfl nofun (e_60 d _ gh5 ⟨rfl, rfl⟩) ?_
        change Wp _ _ _ _ [.int x6] _ _
        refine wp_if_ne 51 xi_53 dX6_readFrom_46 rfl (fun c7 => ?_) (fun c7 => ?_)
        · rw [if_neg c7] at H
          refine wp_iinc (a3 + 1) [some (.ref a0), some (.ref a1), some (.int a2), some (.int (a3 + 1))] xi_53 dX6_readFrom_51 rfl rfl rfl ?_
          refine wp_goto 16 xi_53 dX6_readFrom_54 rfl ?_
          exact Wp.more (by simp [xMore, Value.category]) (ih a0 a1 a2 (a3 + 1) h5 _ H KE KR)
        · rw [if_pos c7] at H
          refine wp_iload_n xi_53 dX6_readFrom_49 rfl ?_
          obtain rfl := Option.some.inj H
          exact wp_iret xi_53 dX6_readFrom_50 (KR _ _ rfl)
      · rw [if_neg c3] at H
        refine wp_aload_n xi_53 dX6_readFrom_28 rfl ?_
        refine wp_aload_n xi_53 dX6_readFrom_29 rfl ?_
        refine wp_iload_n xi_53 dX6_readFrom_30 rfl ?_
        obtain ⟨u8, gu8, H⟩ := Option.bind_eq_some_iff.mp H
        obtain ⟨⟨x10, h9⟩, gh9, H⟩ := Option.bind_eq_some_iff.mp H
        dsimp only at H
        refine wq_callV (a := a0) (as := [.ref a1, .int a3]) (r := []) (v1 := (some (.int x10))) xi_53 xi_59 dX6_readFrom_31 xm_6_53 rfl (Nat.le_of_ble_eq_true rfl) (pG_ok gu8) ⟨(Nat.le_of_ble_eq_true rfl), (Nat.le_of_ble_eq_true rfl)⟩ rfl nofun (e_59 (d + 2) _ gh9 ⟨rfl, rfl⟩) ?_
        change Wp _ _ _ _ [.int x10] _ _
        refine wp_if_ne 51 xi_53 dX6_readFrom_34 rfl (fun c11 => ?_) (fun c11 => ?_)
        · rw [if_neg c11] at H
          refine wp_iinc (a3 + 1) [some (.ref a0), some (.ref a1), some (.int a2), some (.int (a3 + 1))] xi_53 dX6_readFrom_51 rfl rfl rfl ?_
          refine wp_goto 16 xi_53 dX6_readFrom_54 rfl ?_
          exact Wp.more (by simp [xMore, Value.category]) (ih a0 a1 a2 (a3 + 1) h9 _ H KE KR)
        · rw [if_pos c11] at H
          refine wp_goto 49 xi_53 dX6_readFrom_37 rfl ?_
          refine wp_iload_n xi_53 dX6_readFrom_49 rfl ?_
          obtain rfl := Option.some.inj H
          exact wp_iret xi_53 dX6_readFrom_50 (KR _ _ rfl)
def f_53  (a : Nat) (p0 : Nat) (h : xH) : Option (Int32 × xH) :=
  (pFi h p0 8 1).bind fun x1 =>
  (pG (pIs h a 6)).bind fun _ =>
  (f_55 a h).bind fun h3 =>
  (f_53_16 100000 a p0 (pMin 40 x1) 0 h3).bind fun r7 => match r7 with
  | .inl h4 =>
  (pFi h4 p0 8 1).bind fun x8 =>
  (if x8 ≤ 40 then
  (if (pMin 40 x1) ≤ 0 then
  ((if (pMin 40 x1) = 0 then
  (pG (pIs h4 a 6)).bind fun _ =>
  (f_56 a h4).bind fun h17 =>
  some (h17)
  else
  some (h4) : Option (xH))).bind fun (h14 : xH) =>
  (pG (pIs h14 a 6)).bind fun _ =>
  (f_63 a 0 h14).bind fun h19 =>
  (pG (pIs h19 a 6)).bind fun _ =>
  (f_54 a h19).bind fun h21 =>
  some ((-1), h21)
  else
  (pFi h4 a 6 10).bind fun x23 =>
  (if x23 = 0 then
  (pFi h4 a 6 8).bind fun x25 =>
  (if x25 ≤ 0 then
  ((if (pMin 40 x1) = 0 then
  (pG (pIs h4 a 6)).bind fun _ =>
  (f_56 a h4).bind fun h33 =>
  some (h33)
  else
  some (h4) : Option (xH))).bind fun (h30 : xH) =>
  (pG (pIs h30 a 6)).bind fun _ =>
  (f_63 a 0 h30).bind fun h35 =>
  (pG (pIs h35 a 6)).bind fun _ =>
  (f_54 a h35).bind fun h37 =>
  some ((-1), h37)
  else
  some ((pMin 40 x1), h4))
  else
  some ((pMin 40 x1), h4)))
  else
  some (40, h4))
  | .inr (x39, h40) => some (x39, h40)
set_option maxHeartbeats 4000000 in
theorem e_53 (d : Nat) (Q : Option Value → xH → Prop)  {h : xH} {a : Nat} {p0 : Nat} {x : Int32} {h1 : xH} (H : f_53  a p0 h = some (x, h1)) (hq : Q (some (.int x)) h1) : Wp (d + 4) 53 0 [some (.ref a), some (.ref p0), none, none] [] h Q := by
  unfold f_53 at H
  refine wp_bipush 40 xi_53 dX6_readFrom_0 rfl ?_
  refine wp_aload_n xi_53 dX6_readFrom_2 rfl ?_
  obtain ⟨x1, gx1, H⟩ := Option.bind_eq_some_iff.mp H
  refine wq_getfi xi_53 dX6_readFrom_3 xf_6_34 gx1 ?_
  refine wq_min xi_53 dX6_readFrom_6 xm_6_40 (Nat.le_of_ble_eq_true rfl) ?_
  refine wp_istore_n [some (.ref a), some (.ref p0), some (.int (pMin 40 x1)), none] xi_53 dX6_readFrom_9 rfl ?_
  refine wp_aload_n xi_53 dX6_readFrom_10 rfl ?_
  obtain ⟨u2, gu2, H⟩ := Option.bind_eq_some_iff.mp H
  obtain ⟨h3, gh3, H⟩ := Option.bind_eq_some_iff.mp H
  refine wq_callV (a := a) (as := []) (r := []) (v1 := none) xi_53 xi_55 dX6_readFrom_11 xm_6_46 rfl (Nat.le_of_ble_eq_true rfl) (pG_ok gu2) ⟨(Nat.le_of_ble_eq_true rfl), (Nat.le_of_ble_eq_true rfl)⟩ rfl nofun (e_55 (d + 3) _ gh3 ⟨rfl, rfl⟩) ?_
  change Wp _ _ _ _ [] _ _
  refine wp_iconst 0 xi_53 dX6_readFrom_14 rfl ?_
  refine wp_istore_n [some (.ref a), some (.ref p0), some (.int (pMin 40 x1)), some (.int 0)] xi_53 dX6_readFrom_15 rfl ?_
  obtain ⟨r7, G5, H⟩ := Option.bind_eq_some_iff.mp H
  refine Wp.more (by simp [xMore, Value.category]) (ef_53_16 d Q  100000 a p0 (pMin 40 x1) 0 h3 _ G5 (fun z0 e9 => ?_) (fun x1 h1 e9 => ?_))
  · subst e9
    dsimp only at H
    obtain ⟨h4, rfl⟩ : ∃ z, z = z0 := ⟨_, rfl⟩
    refine wp_aload_n xi_53 dX6_readFrom_57 rfl ?_
    obtain ⟨x8, gx8, H⟩ := Option.bind_eq_some_iff.mp H
    refine wq_getfi xi_53 dX6_readFrom_58 xf_6_34 gx8 ?_
    refine wp_bipush 40 xi_53 dX6_readFrom_61 rfl ?_
    refine wp_icmp_le 69 xi_53 dX6_readFrom_63 rfl (fun c9 => ?_) (fun c9 => ?_)
    · rw [if_pos c9] at H
      refine wp_iload_n xi_53 dX6_readFrom_69 rfl ?_
      refine wp_if_le 89 xi_53 dX6_readFrom_70 rfl (fun c10 => ?_) (fun c10 => ?_)
      · rw [if_pos c10] at H
        refine wp_iload_n xi_53 dX6_readFrom_89 rfl ?_
        obtain ⟨h14, G22, H⟩ := Option.bind_eq_some_iff.mp H
        have K15 : Wp (d + 4) 53 97 [some (.ref a), some (.ref p0), some (.int (pMin 40 x1)), none] [] h14 Q := by
          refine wp_aload_n xi_53 dX6_readFrom_97 rfl ?_
          refine wp_iconst 0 xi_53 dX6_readFrom_98 rfl ?_
          obtain ⟨u18, gu18, H⟩ := Option.bind_eq_some_iff.mp H
          obtain ⟨h19, gh19, H⟩ := Option.bind_eq_some_iff.mp H
          refine wq_callV (a := a) (as := [.int 0]) (r := []) (v1 := none) xi_53 xi_63 dX6_readFrom_99 xm_6_63 rfl (Nat.le_of_ble_eq_true rfl) (pG_ok gu18) ⟨(Nat.le_of_ble_eq_true rfl), (Nat.le_of_ble_eq_true rfl)⟩ rfl nofun (e_63 (d + 2) _ gh19 ⟨rfl, rfl⟩) ?_
          change Wp _ _ _ _ [] _ _
          refine wp_aload_n xi_53 dX6_readFrom_102 rfl ?_
          obtain ⟨u20, gu20, H⟩ := Option.bind_eq_some_iff.mp H
          obtain ⟨h21, gh21, H⟩ := Option.bind_eq_some_iff.mp H
          refine wq_callV (a := a) (as := []) (r := []) (v1 := none) xi_53 xi_54 dX6_readFrom_103 xm_6_31 rfl (Nat.le_of_ble_eq_true rfl) (pG_ok gu20) ⟨(Nat.le_of_ble_eq_true rfl), (Nat.le_of_ble_eq_true rfl)⟩ rfl nofun (e_54 (d + 3) _ gh21 ⟨rfl, rfl⟩) ?_
          change Wp _ _ _ _ [] _ _
          refine wp_iconst (-1) xi_53 dX6_readFrom_106 rfl ?_
          obtain ⟨rfl, rfl⟩ := oi2 H
          exact wp_iret xi_53 dX6_readFrom_107 hq
        clear H
        have H := G22
        clear G22
        refine wp_if_ne 97 xi_53 dX6_readFrom_90 rfl (fun c11 => ?_) (fun c11 => ?_)
        · rw [if_neg c11] at H
          obtain rfl := Option.some.inj H
          exact Wp.more (by simp [xMore, Value.category]) K15
        · rw [if_pos c11] at H
          refine wp_aload_n xi_53 dX6_readFrom_93 rfl ?_
          obtain ⟨u16, gu16, H⟩ := Option.bind_eq_some_iff.mp H
          obtain ⟨h17, gh17, H⟩ := Option.bind_eq_some_iff.mp H
          refine wq_callV (a := a) (as := []) (r := []) (v1 := none) xi_53 xi_56 dX6_readFrom_94 xm_6_28 rfl (Nat.le_of_ble_eq_true rfl) (pG_ok gu16) ⟨(Nat.le_of_ble_eq_true rfl), (Nat.le_of_ble_eq_true rfl)⟩ rfl nofun (e_56 (d + 2) _ gh17 ⟨rfl, rfl⟩) ?_
          change Wp _ _ _ _ [] _ _
          obtain rfl := Option.some.inj H
          exact Wp.more (by simp [xMore, Value.category]) K15
      · rw [if_neg c10] at H
        refine wp_aload_n xi_53 dX6_readFrom_73 rfl ?_
        obtain ⟨x23, gx23, H⟩ := Option.bind_eq_some_iff.mp H
        refine wq_getfi xi_53 dX6_readFrom_74 xf_6_49 gx23 ?_
        refine wp_if_ne 87 xi_53 dX6_readFrom_77 rfl (fun c24 => ?_) (fun c24 => ?_)
        · rw [if_neg c24] at H
          refine wp_iload_n xi_53 dX6_readFrom_87 rfl ?_
          obtain ⟨rfl, rfl⟩ := oi2 H
          exact wp_iret xi_53 dX6_readFrom_88 hq
        · rw [if_pos c24] at H
          refine wp_aload_n xi_53 dX6_readFrom_80 rfl ?_
          obtain ⟨x25, gx25, H⟩ := Option.bind_eq_some_iff.mp H
          refine wq_getfi xi_53 dX6_readFrom_81 xf_6_60 gx25 ?_
          refine wp_if_le 89 xi_53 dX6_readFrom_84 rfl (fun c26 => ?_) (fun c26 => ?_)
          · rw [if_pos c26] at H
            refine wp_iload_n xi_53 dX6_readFrom_89 rfl ?_
            obtain ⟨h30, G38, H⟩ := Option.bind_eq_some_iff.mp H
            have K31 : Wp (d + 4) 53 97 [some (.ref a), some (.ref p0), some (.int (pMin 40 x1)), none] [] h30 Q := by
              refine wp_aload_n xi_53 dX6_readFrom_97 rfl ?_
              refine wp_iconst 0 xi_53 dX6_readFrom_98 rfl ?_
              obtain ⟨u34, gu34, H⟩ := Option.bind_eq_some_iff.mp H
              obtain ⟨h35, gh35, H⟩ := Option.bind_eq_some_iff.mp H
              refine wq_callV (a := a) (as := [.int 0]) (r := []) (v1 := none) xi_53 xi_63 dX6_readFrom_99 xm_6_63 rfl (Nat.le_of_ble_eq_true rfl) (pG_ok gu34) ⟨(Nat.le_of_ble_eq_true rfl), (Nat.le_of_ble_eq_true rfl)⟩ rfl nofun (e_63 (d + 2) _ gh35 ⟨rfl, rfl⟩) ?_
              change Wp _ _ _ _ [] _ _
              refine wp_aload_n xi_53 dX6_readFrom_102 rfl ?_
              obtain ⟨u36, gu36, H⟩ := Option.bind_eq_some_iff.mp H
              obtain ⟨h37, gh37, H⟩ := Option.bind_eq_some_iff.mp H
              refine wq_callV (a := a) (as := []) (r := []) (v1 := none) xi_53 xi_54 dX6_readFrom_103 xm_6_31 rfl (Nat.le_of_ble_eq_true rfl) (pG_ok gu36) ⟨(Nat.le_of_ble_eq_true rfl), (Nat.le_of_ble_eq_true rfl)⟩ rfl nofun (e_54 (d + 3) _ gh37 ⟨rfl, rfl⟩) ?_
              change Wp _ _ _ _ [] _ _
              refine wp_iconst (-1) xi_53 dX6_readFrom_106 rfl ?_
              obtain ⟨rfl, rfl⟩ := oi2 H
              exact wp_iret xi_53 dX6_readFrom_107 hq
            clear H
            have H := G38
            clear G38
            refine wp_if_ne 97 xi_53 dX6_readFrom_90 rfl (fun c27 => ?_) (fun c27 => ?_)
            · rw [if_neg c27] at H
              obtain rfl := Option.some.inj H
              exact Wp.more (by simp [xMore, Value.category]) K31
            · rw [if_pos c27] at H
              refine wp_aload_n xi_53 dX6_readFrom_93 rfl ?_
              obtain ⟨u32, gu32, H⟩ := Option.bind_eq_some_iff.mp H
              obtain ⟨h33, gh33, H⟩ := Option.bind_eq_some_iff.mp H
              refine wq_callV (a := a) (as := []) (r := []) (v1 := none) xi_53 xi_56 dX6_readFrom_94 xm_6_28 rfl (Nat.le_of_ble_eq_true rfl) (pG_ok gu32) ⟨(Nat.le_of_ble_eq_true rfl), (Nat.le_of_ble_eq_true rfl)⟩ rfl nofun (e_56 (d + 2) _ gh33 ⟨rfl, rfl⟩) ?_
              change Wp _ _ _ _ [] _ _
              obtain rfl := Option.some.inj H
              exact Wp.more (by simp [xMore, Value.category]) K31
          · rw [if_neg c26] at H
            refine wp_iload_n xi_53 dX6_readFrom_87 rfl ?_
            obtain ⟨rfl, rfl⟩ := oi2 H
            exact wp_iret xi_53 dX6_readFrom_88 hq
    · rw [if_neg c9] at H
      refine wp_bipush 40 xi_53 dX6_readFrom_66 rfl ?_
      obtain ⟨rfl, rfl⟩ := oi2 H
      exact wp_iret xi_53 dX6_readFrom_68 hq
  · subst e9
    dsimp only at H
    obtain ⟨rfl, rfl⟩ := oi2 H
    exact hq
/- FelledHasLost$Tower.readFrom(LFelledHasLost$Text;)V -/
def f_87_6  : Nat → Nat → Nat → Int32 → xH → Option (xH)
  | 0, _, _, _, _ => none
  | n + 1, a0, a1, a2, h =>
  (pFi h a1 8 1).bind fun x1 =>
  (if x1 ≤ a2 then
  some (h)
  else
  (pG (pIs h a1 8)).bind fun _ =>
  (f_76 a1 a2 h).bind fun (x5, h4) =>
  ((if x5 = 0 then
  some (h4)
  else
  (pDiv a2 4).bind fun x15 =>
  (pRem a2 4).bind fun x16 =>
  (pFr h4 a1 8 0).bind fun x17 =>
  (pAi h4 x17 a2).bind fun x18 =>
  (pG (pIs h4 a0 10)).bind fun _ =>
  (f_92 a0 ((x15 * 3) + x16) (x18 - 48) h4).bind fun h20 =>
  some (h20) : Option (xH))).bind fun (h13 : xH) =>
  f_87_6 n a0 a1 (a2 + 1) h13)
theorem ef_87_6 (d : Nat) (Q : Option Value → xH → Prop)  : ∀ (n : Nat) (a0 : Nat) (a1 : Nat) (a2 : Int32) (h : xH) (r : xH), f_87_6 n a0 a1 a2 h = some r → (∀  (h1 : xH), r = h1 → Wp (d + 3) 87 50 [none, none, none] [] h1 Q) → Wp (d + 3) 87 6 [some (.ref a0), some (.ref a1), some (.int a2)] [] h Q := by
  intro n
  induction n with
  | zero =>
    intro a0 a1 a2 h r H
    cases H
  | succ n ih =>
    intro a0 a1 a2 h r H KE
    unfold f_87_6 at H
    refine wp_iload_n xi_87 dX10_readFrom_6 rfl ?_
    refine wp_aload_n xi_87 dX10_readFrom_7 rfl ?_
    obtain ⟨x1, gx1, H⟩ := Option.bind_eq_some_iff.mp H
    refine wq_getfi xi_87 dX10_readFrom_8 xf_10_39 gx1 ?_
    refine wp_icmp_ge 50 xi_87 dX10_readFrom_11 rfl (fun c2 => ?_) (fun c2 => ?_)
    · rw [if_pos c2] at H
      obtain rfl := Option.some.inj H
      exact Wp.more (by simp [xMore, Value.category]) (KE  h rfl)
    · rw [if_neg c2] at H
      refine wp_aload_n xi_87 dX10_readFrom_14 rfl ?_
      refine wp_iload_n xi_87 dX10_readFrom_15 rfl ?_
      obtain ⟨u3, gu3, H⟩ := Option.bind_eq_some_iff.mp H
      obtain ⟨⟨x5, h4⟩, gh4, H⟩ := Option.bind_eq_some_iff.mp H
      dsimp only at H
      refine wq_callV (a := a1) (as := [.int a2]) (r := []) (v1 := (some (.int x5))) xi_87 xi_76 dX10_readFrom_16 xm_10_58 rfl (Nat.le_of_ble_eq_true rfl) (pG_ok gu3) ⟨(Nat.le_of_ble_eq_true rfl), (Nat.le_of_ble_eq_true rfl)⟩ rfl nofun (e_76 (d + 2) _ gh4 ⟨rfl, rfl⟩) ?_
      change Wp _ _ _ _ [.int x5] _ _
      obtain ⟨h13, G21, H⟩ := Option.bind_eq_some_iff.mp H
      have K14 : Wp (d + 3) 87 44 [some (.ref a0), some (.ref a1), some (.int a2)] [] h13 Q := by
        refine wp_iinc (a2 + 1) [some (.ref a0), some (.ref a1), some (.int (a2 + 1))] xi_87 dX10_readFrom_44 rfl rfl rfl ?_
        refine wp_goto 6 xi_87 dX10_readFrom_47 rfl ?_
        exact Wp.more (by simp [xMore, Value.category]) (ih a0 a1 (a2 + 1) h13 _ H KE)
      clear H
      have H := G21
      clear G21
      refine wp_if_eq 44 xi_87 dX10_readFrom_19 rfl (fun c6 => ?_) (fun c6 => ?_)
      · rw [if_pos c6] at H
        obtain rfl := Option.some.inj H
        exact Wp.more (by simp [xMore, Value.category]) K14
      · rw [if_neg c6] at H
        refine wp_aload_n xi_87 dX10_readFrom_22 rfl ?_
        refine wp_iload_n xi_87 dX10_readFrom_23 rfl ?_
        refine wp_iconst 4 xi_87 dX10_readFrom_24 rfl ?_
        obtain ⟨x15, gx15, H⟩ := Option.bind_eq_some_iff.mp H
        refine wq_idiv xi_87 dX10_readFrom_25 gx15 ?_
        refine wp_iconst 3 xi_87 dX10_readFrom_26 rfl ?_
        refine wp_imul xi_87 dX10_readFrom_27 ?_
        refine wp_iload_n xi_87 dX10_readFrom_28 rfl ?_
        refine wp_iconst 4 xi_87 dX10_readFrom_29 rfl ?_
        obtain ⟨x16, gx16, H⟩ := Option.bind_eq_some_iff.mp H
        refine wq_irem xi_87 dX10_readFrom_30 gx16 ?_
        refine wp_iadd xi_87 dX10_readFrom_31 ?_
        refine wp_aload_n xi_87 dX10_readFrom_32 rfl ?_
        obtain ⟨x17, gx17, H⟩ := Option.bind_eq_some_iff.mp H
        refine wq_getfr xi_87 dX10_readFrom_33 xf_10_62 gx17 ?_
        refine wp_iload_n xi_87 dX10_readFrom_36 rfl ?_
        obtain ⟨x18, gx18, H⟩ := Option.bind_eq_some_iff.mp H
        refine wq_iaload xi_87 dX10_readFrom_37 gx18 ?_
        refine wp_bipush 48 xi_87 dX10_readFrom_38 rfl ?_
        refine wp_isub xi_87 dX10_readFrom_40 ?_
        obtain ⟨u19, gu19, H⟩ := Option.bind_eq_some_iff.mp H
        obtain ⟨h20, gh20, H⟩ := Option.bind_eq_some_iff.mp H
        refine wq_callV (a := a0) (as := [.int ((x15 * 3) + x16), .int (x18 - 48)]) (r := []) (v1 := none) xi_87 xi_92 dX10_readFrom_41 xm_10_65 rfl (Nat.le_of_ble_eq_true rfl) (pG_ok gu19) ⟨(Nat.le_of_ble_eq_true rfl), (Nat.le_of_ble_eq_true rfl)⟩ rfl nofun (e_92 d _ gh20 ⟨rfl, rfl⟩) ?_
        change Wp _ _ _ _ [] _ _
        obtain rfl := Option.some.inj H
        exact Wp.more (by simp [xMore, Value.category]) K14
def f_87  (a : Nat) (p0 : Nat) (h : xH) : Option (xH) :=
  (pG (pIs h a 10)).bind fun _ =>
  (f_88 a h).bind fun h2 =>
  (f_87_6 100000 a p0 0 h2).bind fun h3 =>
  some h3
set_option maxHeartbeats 4000000 in
theorem e_87 (d : Nat) (Q : Option Value → xH → Prop)  {h : xH} {a : Nat} {p0 : Nat} {h1 : xH} (H : f_87  a p0 h = some h1) (hq : Q none h1) : Wp (d + 3) 87 0 [some (.ref a), some (.ref p0), none] [] h Q := by
  unfold f_87 at H
  refine wp_aload_n xi_87 dX10_readFrom_0 rfl ?_
  obtain ⟨u1, gu1, H⟩ := Option.bind_eq_some_iff.mp H
  obtain ⟨h2, gh2, H⟩ := Option.bind_eq_some_iff.mp H
  refine wq_callV (a := a) (as := []) (r := []) (v1 := none) xi_87 xi_88 dX10_readFrom_1 xm_10_55 rfl (Nat.le_of_ble_eq_true rfl) (pG_ok gu1) ⟨(Nat.le_of_ble_eq_true rfl), (Nat.le_of_ble_eq_true rfl)⟩ rfl nofun (e_88 (d + 1) _ gh2 ⟨rfl, rfl⟩) ?_
  change Wp _ _ _ _ [] _ _
  refine wp_iconst 0 xi_87 dX10_readFrom_4 rfl ?_
  refine wp_istore_n [some (.ref a), some (.ref p0), some (.int 0)] xi_87 dX10_readFrom_5 rfl ?_
  obtain ⟨h3, G4, H⟩ := Option.bind_eq_some_iff.mp H
  refine Wp.more (by simp [xMore, Value.category]) (ef_87_6 d Q  100000 a p0 0 h2 _ G4 (fun z0 e9 => ?_))
  cases e9
  obtain rfl := Option.some.inj H
  exact wp_vret xi_87 dX10_readFrom_50 hq
/- FelledHasLost.tower()I -/
def f_107  (a : Nat) (h : xH) : Option (Int32 × xH) :=
  (pFr h a 11 0).bind fun x1 =>
  (f_86 x1 h).bind fun (x3, h2) =>
  ((if x3 = (-1) then
  (pFr h2 a 11 2).bind fun x21 =>
  (pFr h2 x21 7 0).bind fun x22 =>
  (pFr h2 a 11 0).bind fun x23 =>
  (pG (pIs h2 x22 10)).bind fun _ =>
  (f_87 x22 x23 h2).bind fun h25 =>
  (pFr h25 a 11 2).bind fun x26 =>
  (pG (pIs h25 x26 7)).bind fun _ =>
  (f_69 x26 h25).bind fun h28 =>
  (pFr h28 a 11 10).bind fun x29 =>
  (pG (pIs h28 x29 9)).bind fun _ =>
  (f_79 x29 h28).bind fun h31 =>
  (pFr h31 a 11 3).bind fun x32 =>
  (pG (pIs h31 x32 3)).bind fun _ =>
  (f_42 x32 h31).bind fun h34 =>
  some (h34)
  else
  some (h2) : Option (xH))).bind fun (h19 : xH) =>
  (pFr h19 a 11 0).bind fun x35 =>
  (pG (pIs h19 x35 8)).bind fun _ =>
  (f_75 x35 h19).bind fun h37 =>
  ((if x3 = (-1) then
  (pFr h37 a 11 2).bind fun x44 =>
  (pFr h37 x44 7 0).bind fun x45 =>
  (pFi h37 x45 10 4).bind fun x46 =>
  some (x46)
  else
  some (((-1) - x3)) : Option (Int32))).bind fun (w42 : Int32) =>
  some (w42, h37)
set_option maxHeartbeats 4000000 in
theorem e_107 (d : Nat) (Q : Option Value → xH → Prop)  {h : xH} {a : Nat} {x : Int32} {h1 : xH} (H : f_107  a h = some (x, h1)) (hq : Q (some (.int x)) h1) : Wp (d + 4) 107 0 [some (.ref a), none] [] h Q := by
  unfold f_107 at H
  refine wp_aload_n xi_107 dX11_tower_0 rfl ?_
  obtain ⟨x1, gx1, H⟩ := Option.bind_eq_some_iff.mp H
  refine wq_getfr xi_107 dX11_tower_1 xf_11_12 gx1 ?_
  obtain ⟨⟨x3, h2⟩, gh2, H⟩ := Option.bind_eq_some_iff.mp H
  dsimp only at H
  refine wq_callS (as := [.ref x1]) (r := []) (v1 := (some (.int x3))) xi_107 xi_86 dX11_tower_4 xm_11_128 rfl (Nat.le_of_ble_eq_true rfl) ⟨(Nat.le_of_ble_eq_true rfl), (Nat.le_of_ble_eq_true rfl)⟩ rfl nofun (e_86 (d + 2) _ gh2 ⟨rfl, rfl⟩) ?_
  change Wp _ _ _ _ [.int x3] _ _
  refine wp_istore_n [some (.ref a), some (.int x3)] xi_107 dX11_tower_7 rfl ?_
  refine wp_iload_n xi_107 dX11_tower_8 rfl ?_
  refine wp_iconst (-1) xi_107 dX11_tower_9 rfl ?_
  obtain ⟨h19, G48, H⟩ := Option.bind_eq_some_iff.mp H
  have K20 : Wp (d + 4) 107 48 [some (.ref a), some (.int x3)] [] h19 Q := by
    refine wp_aload_n xi_107 dX11_tower_48 rfl ?_
    obtain ⟨x35, gx35, H⟩ := Option.bind_eq_some_iff.mp H
    refine wq_getfr xi_107 dX11_tower_49 xf_11_12 gx35 ?_
    obtain ⟨u36, gu36, H⟩ := Option.bind_eq_some_iff.mp H
    obtain ⟨h37, gh37, H⟩ := Option.bind_eq_some_iff.mp H
    refine wq_callV (a := x35) (as := []) (r := []) (v1 := none) xi_107 xi_75 dX11_tower_52 xm_11_146 rfl (Nat.le_of_ble_eq_true rfl) (pG_ok gu36) ⟨(Nat.le_of_ble_eq_true rfl), (Nat.le_of_ble_eq_true rfl)⟩ rfl nofun (e_75 (d + 3) _ gh37 ⟨rfl, rfl⟩) ?_
    change Wp _ _ _ _ [] _ _
    refine wp_iload_n xi_107 dX11_tower_55 rfl ?_
    refine wp_iconst (-1) xi_107 dX11_tower_56 rfl ?_
    obtain ⟨w42, G47, H⟩ := Option.bind_eq_some_iff.mp H
    have K43 : Wp (d + 4) 107 76 [some (.ref a), some (.int x3)] [.int w42] h37 Q := by
      obtain ⟨rfl, rfl⟩ := oi2 H
      exact wp_iret xi_107 dX11_tower_76 hq
    clear H
    have H := G47
    clear G47
    refine wp_icmp_ne 73 xi_107 dX11_tower_57 rfl (fun c38 => ?_) (fun c38 => ?_)
    · rw [if_neg c38] at H
      refine wp_iconst (-1) xi_107 dX11_tower_73 rfl ?_
      refine wp_iload_n xi_107 dX11_tower_74 rfl ?_
      refine wp_isub xi_107 dX11_tower_75 ?_
      obtain rfl := Option.some.inj H
      exact Wp.more (by simp [xMore, Value.category]) K43
    · rw [if_pos c38] at H
      refine wp_aload_n xi_107 dX11_tower_60 rfl ?_
      obtain ⟨x44, gx44, H⟩ := Option.bind_eq_some_iff.mp H
      refine wq_getfr xi_107 dX11_tower_61 xf_11_26 gx44 ?_
      obtain ⟨x45, gx45, H⟩ := Option.bind_eq_some_iff.mp H
      refine wq_getfr xi_107 dX11_tower_64 xf_11_132 gx45 ?_
      obtain ⟨x46, gx46, H⟩ := Option.bind_eq_some_iff.mp H
      refine wq_getfi xi_107 dX11_tower_67 xf_11_147 gx46 ?_
      refine wp_goto 76 xi_107 dX11_tower_70 rfl ?_
      obtain rfl := Option.some.inj H
      exact Wp.more (by simp [xMore, Value.category]) K43
  clear H
  have H := G48
  clear G48
  refine wp_icmp_ne 48 xi_107 dX11_tower_10 rfl (fun c4 => ?_) (fun c4 => ?_)
  · rw [if_neg c4] at H
    obtain rfl := Option.some.inj H
    exact Wp.more (by simp [xMore, Value.category]) K20
  · rw [if_pos c4] at H
    refine wp_aload_n xi_107 dX11_tower_13 rfl ?_
    obtain ⟨x21, gx21, H⟩ := Option.bind_eq_some_iff.mp H
    refine wq_getfr xi_107 dX11_tower_14 xf_11_26 gx21 ?_
    obtain ⟨x22, gx22, H⟩ := Option.bind_eq_some_iff.mp H
    refine wq_getfr xi_107 dX11_tower_17 xf_11_132 gx22 ?_
    refine wp_aload_n xi_107 dX11_tower_20 rfl ?_
    obtain ⟨x23, gx23, H⟩ := Option.bind_eq_some_iff.mp H
    refine wq_getfr xi_107 dX11_tower_21 xf_11_12 gx23 ?_
    obtain ⟨u24, gu24, H⟩ := Option.bind_eq_some_iff.mp H
    obtain ⟨h25, gh25, H⟩ := Option.bind_eq_some_iff.mp H
    refine wq_callV (a := x22) (as := [.ref x23]) (r := []) (v1 := none) xi_107 xi_87 dX11_tower_24 xm_11_135 rfl (Nat.le_of_ble_eq_true rfl) (pG_ok gu24) ⟨(Nat.le_of_ble_eq_true rfl), (Nat.le_of_ble_eq_true rfl)⟩ rfl nofun (e_87 d _ gh25 ⟨rfl, rfl⟩) ?_
    change Wp _ _ _ _ [] _ _
    refine wp_aload_n xi_107 dX11_tower_27 rfl ?_
    obtain ⟨x26, gx26, H⟩ := Option.bind_eq_some_iff.mp H
    refine wq_getfr xi_107 dX11_tower_28 xf_11_26 gx26 ?_
    obtain ⟨u27, gu27, H⟩ := Option.bind_eq_some_iff.mp H
    obtain ⟨h28, gh28, H⟩ := Option.bind_eq_some_iff.mp H
    refine wq_callV (a := x26) (as := []) (r := []) (v1 := none) xi_107 xi_69 dX11_tower_31 xm_11_139 rfl (Nat.le_of_ble_eq_true rfl) (pG_ok gu27) ⟨(Nat.le_of_ble_eq_true rfl), (Nat.le_of_ble_eq_true rfl)⟩ rfl nofun (e_69 (d + 3) _ gh28 ⟨rfl, rfl⟩) ?_
    change Wp _ _ _ _ [] _ _
    refine wp_aload_n xi_107 dX11_tower_34 rfl ?_
    obtain ⟨x29, gx29, H⟩ := Option.bind_eq_some_iff.mp H
    refine wq_getfr xi_107 dX11_tower_35 xf_11_80 gx29 ?_
    obtain ⟨u30, gu30, H⟩ := Option.bind_eq_some_iff.mp H
    obtain ⟨h31, gh31, H⟩ := Option.bind_eq_some_iff.mp H
    refine wq_callV (a := x29) (as := []) (r := []) (v1 := none) xi_107 xi_79 dX11_tower_38 xm_11_142 rfl (Nat.le_of_ble_eq_true rfl) (pG_ok gu30) ⟨(Nat.le_of_ble_eq_true rfl), (Nat.le_of_ble_eq_true rfl)⟩ rfl nofun (e_79 (d + 2) _ gh31 ⟨rfl, rfl⟩) ?_
    change Wp _ _ _ _ [] _ _
    refine wp_aload_n xi_107 dX11_tower_41 rfl ?_
    obtain ⟨x32, gx32, H⟩ := Option.bind_eq_some_iff.mp H
    refine wq_getfr xi_107 dX11_tower_42 xf_11_33 gx32 ?_
    obtain ⟨u33, gu33, H⟩ := Option.bind_eq_some_iff.mp H
    obtain ⟨h34, gh34, H⟩ := Option.bind_eq_some_iff.mp H
    refine wq_callV (a := x32) (as := []) (r := []) (v1 := none) xi_107 xi_42 dX11_tower_45 xm_11_145 rfl (Nat.le_of_ble_eq_true rfl) (pG_ok gu33) ⟨(Nat.le_of_ble_eq_true rfl), (Nat.le_of_ble_eq_true rfl)⟩ rfl nofun (e_42 (d + 3) _ gh34 ⟨rfl, rfl⟩) ?_
    change Wp _ _ _ _ [] _ _
    obtain rfl := Option.some.inj H
    exact Wp.more (by simp [xMore, Value.category]) K20
/- FelledHasLost.rule()I -/
def f_108  (a : Nat) (h : xH) : Option (Int32 × xH) :=
  (pFr h a 11 7).bind fun x1 =>
  (pFr h a 11 0).bind fun x2 =>
  (pG (pIs h x1 6)).bind fun _ =>
  (f_53 x1 x2 h).bind fun (x5, h4) =>
  (pFr h4 a 11 0).bind fun x6 =>
  (pG (pIs h4 x6 8)).bind fun _ =>
  (f_75 x6 h4).bind fun h8 =>
  ((if x5 = (-1) then
  some (0)
  else
  some (((-1) - x5)) : Option (Int32))).bind fun (w10 : Int32) =>
  some (w10, h8)
set_option maxHeartbeats 4000000 in
theorem e_108 (d : Nat) (Q : Option Value → xH → Prop)  {h : xH} {a : Nat} {x : Int32} {h1 : xH} (H : f_108  a h = some (x, h1)) (hq : Q (some (.int x)) h1) : Wp (d + 5) 108 0 [some (.ref a), none] [] h Q := by
  unfold f_108 at H
  refine wp_aload_n xi_108 dX11_rule_0 rfl ?_
  obtain ⟨x1, gx1, H⟩ := Option.bind_eq_some_iff.mp H
  refine wq_getfr xi_108 dX11_rule_1 xf_11_55 gx1 ?_
  refine wp_aload_n xi_108 dX11_rule_4 rfl ?_
  obtain ⟨x2, gx2, H⟩ := Option.bind_eq_some_iff.mp H
  refine wq_getfr xi_108 dX11_rule_5 xf_11_12 gx2 ?_
  obtain ⟨u3, gu3, H⟩ := Option.bind_eq_some_iff.mp H
  obtain ⟨⟨x5, h4⟩, gh4, H⟩ := Option.bind_eq_some_iff.mp H
  dsimp only at H
  refine wq_callV (a := x1) (as := [.ref x2]) (r := []) (v1 := (some (.int x5))) xi_108 xi_53 dX11_rule_8 xm_11_150 rfl (Nat.le_of_ble_eq_true rfl) (pG_ok gu3) ⟨(Nat.le_of_ble_eq_true rfl), (Nat.le_of_ble_eq_true rfl)⟩ rfl nofun (e_53 d _ gh4 ⟨rfl, rfl⟩) ?_
  change Wp _ _ _ _ [.int x5] _ _
  refine wp_istore_n [some (.ref a), some (.int x5)] xi_108 dX11_rule_11 rfl ?_
  refine wp_aload_n xi_108 dX11_rule_12 rfl ?_
  obtain ⟨x6, gx6, H⟩ := Option.bind_eq_some_iff.mp H
  refine wq_getfr xi_108 dX11_rule_13 xf_11_12 gx6 ?_
  obtain ⟨u7, gu7, H⟩ := Option.bind_eq_some_iff.mp H
  obtain ⟨h8, gh8, H⟩ := Option.bind_eq_some_iff.mp H
  refine wq_callV (a := x6) (as := []) (r := []) (v1 := none) xi_108 xi_75 dX11_rule_16 xm_11_146 rfl (Nat.le_of_ble_eq_true rfl) (pG_ok gu7) ⟨(Nat.le_of_ble_eq_true rfl), (Nat.le_of_ble_eq_true rfl)⟩ rfl nofun (e_75 (d + 4) _ gh8 ⟨rfl, rfl⟩) ?_
  change Wp _ _ _ _ [] _ _
  refine wp_iload_n xi_108 dX11_rule_19 rfl ?_
  refine wp_iconst (-1) xi_108 dX11_rule_20 rfl ?_
  obtain ⟨w10, G12, H⟩ := Option.bind_eq_some_iff.mp H
  have K11 : Wp (d + 5) 108 31 [some (.ref a), some (.int x5)] [.int w10] h8 Q := by
    obtain ⟨rfl, rfl⟩ := oi2 H
    exact wp_iret xi_108 dX11_rule_31 hq
  clear H
  have H := G12
  clear G12
  refine wp_icmp_ne 28 xi_108 dX11_rule_21 rfl (fun c9 => ?_) (fun c9 => ?_)
  · rw [if_neg c9] at H
    refine wp_iconst (-1) xi_108 dX11_rule_28 rfl ?_
    refine wp_iload_n xi_108 dX11_rule_29 rfl ?_
    refine wp_isub xi_108 dX11_rule_30 ?_
    obtain rfl := Option.some.inj H
    exact Wp.more (by simp [xMore, Value.category]) K11
  · rw [if_pos c9] at H
    refine wp_iconst 0 xi_108 dX11_rule_24 rfl ?_
    refine wp_goto 31 xi_108 dX11_rule_25 rfl ?_
    obtain rfl := Option.some.inj H
    exact Wp.more (by simp [xMore, Value.category]) K11
/- FelledHasLost.block(II)I -/
def f_111  (a : Nat) (p0 : Int32) (p1 : Int32) (h : xH) : Option (Option Int32 × xH) :=
  (pFr h a 11 2).bind fun x1 =>
  (pFr h x1 7 0).bind fun x2 =>
  (pG (pIs h x2 10)).bind fun _ =>
  (f_90 x2 p0 h).bind fun (x5, h4) =>
  (if x5 = 0 then
  some (none, (h4.1, h4.2.1 + 6, h4.2.2.1 + 1, h4.2.2.2))
  else
  (if p1 = 0 then
  (pFr h4 x2 10 0).bind fun x12 =>
  (pAi h4 x12 p0).bind fun x13 =>
  some (some x13, h4)
  else
  if p1 = 1 then
  (pFr h4 x2 10 0).bind fun x14 =>
  (pAi h4 x14 p0).bind fun x15 =>
  some (some (x15 + 10), h4)
  else
  if p1 = 2 then
  (pG (pIs h4 x2 10)).bind fun _ =>
  (f_99 x2 p0 h4).bind fun (x18, h17) =>
  ((if x18 = 0 then
  some (0)
  else
  some (1) : Option (Int32))).bind fun (w20 : Int32) =>
  some (some w20, h17)
  else
  if p1 = 3 then
  (pDiv p0 3).bind fun x23 =>
  (pG (pIs h4 x2 10)).bind fun _ =>
  (f_98 x2 x23 h4).bind fun (x26, h25) =>
  some (some x26, h25)
  else
  if p1 = 4 then
  (pG (pIs h4 a 11)).bind fun _ =>
  (f_112 a p0 h4).bind fun (x29, h28) =>
  ((if x29 = 0 then
  some (0)
  else
  some (1) : Option (Int32))).bind fun (w31 : Int32) =>
  some (some w31, h28)
  else
  some (none, (h4.1, h4.2.1 + 6, h4.2.2.1 + 1, h4.2.2.2))))
set_option maxHeartbeats 4000000 in
theorem e_111 (d : Nat) (Q : Option Value → xH → Prop)  {h : xH} {a : Nat} {p0 : Int32} {p1 : Int32} {x : Option Int32} {h1 : xH} (H : f_111  a p0 p1 h = some (x, h1)) (hq : Q (some (xOi x)) h1) : Wp (d + 4) 111 0 [some (.ref a), some (.int p0), some (.int p1), none] [] h Q := by
  unfold f_111 at H
  refine wp_aload_n xi_111 dX11_block_0 rfl ?_
  obtain ⟨x1, gx1, H⟩ := Option.bind_eq_some_iff.mp H
  refine wq_getfr xi_111 dX11_block_1 xf_11_26 gx1 ?_
  obtain ⟨x2, gx2, H⟩ := Option.bind_eq_some_iff.mp H
  refine wq_getfr xi_111 dX11_block_4 xf_11_132 gx2 ?_
  refine wp_astore_n [some (.ref a), some (.int p0), some (.int p1), some (.ref x2)] xi_111 dX11_block_7 rfl ?_
  refine wp_aload_n xi_111 dX11_block_8 rfl ?_
  refine wp_iload_n xi_111 dX11_block_9 rfl ?_
  obtain ⟨u3, gu3, H⟩ := Option.bind_eq_some_iff.mp H
  obtain ⟨⟨x5, h4⟩, gh4, H⟩ := Option.bind_eq_some_iff.mp H
  dsimp only at H
  refine wq_callV (a := x2) (as := [.int p0]) (r := []) (v1 := (some (.int x5))) xi_111 xi_90 dX11_block_10 xm_11_165 rfl (Nat.le_of_ble_eq_true rfl) (pG_ok gu3) ⟨(Nat.le_of_ble_eq_true rfl), (Nat.le_of_ble_eq_true rfl)⟩ rfl nofun (e_90 (d + 3) _ gh4 ⟨rfl, rfl⟩) ?_
  change Wp _ _ _ _ [.int x5] _ _
  refine wp_if_ne 26 xi_111 dX11_block_13 rfl (fun c6 => ?_) (fun c6 => ?_)
  · rw [if_neg c6] at H
    refine wp_iload_n xi_111 dX11_block_26 rfl ?_
    by_cases c7 : p1 = 0
    · rw [if_pos c7] at H
      refine Wp.pure (p2 := 60) (ls2 := [some (.ref a), some (.int p0), some (.int p1), some (.ref x2)]) (st2 := []) (h2 := h4) xi_111 dX11_block_27 rfl rfl rfl (by rw [c7]; rfl) ?_
      refine wp_aload_n xi_111 dX11_block_60 rfl ?_
      obtain ⟨x12, gx12, H⟩ := Option.bind_eq_some_iff.mp H
      refine wq_getfr xi_111 dX11_block_61 xf_11_175 gx12 ?_
      refine wp_iload_n xi_111 dX11_block_64 rfl ?_
      obtain ⟨x13, gx13, H⟩ := Option.bind_eq_some_iff.mp H
      refine wq_iaload xi_111 dX11_block_65 gx13 ?_
      obtain ⟨rfl, rfl⟩ := oi2 H
      exact wp_iret xi_111 dX11_block_66 hq
    · rw [if_neg c7] at H
      by_cases c8 : p1 = 1
      · rw [if_pos c8] at H
        refine Wp.pure (p2 := 67) (ls2 := [some (.ref a), some (.int p0), some (.int p1), some (.ref x2)]) (st2 := []) (h2 := h4) xi_111 dX11_block_27 rfl rfl rfl (by rw [c8]; rfl) ?_
        refine wp_aload_n xi_111 dX11_block_67 rfl ?_
        obtain ⟨x14, gx14, H⟩ := Option.bind_eq_some_iff.mp H
        refine wq_getfr xi_111 dX11_block_68 xf_11_175 gx14 ?_
        refine wp_iload_n xi_111 dX11_block_71 rfl ?_
        obtain ⟨x15, gx15, H⟩ := Option.bind_eq_some_iff.mp H
        refine wq_iaload xi_111 dX11_block_72 gx15 ?_
        refine wp_bipush 10 xi_111 dX11_block_73 rfl ?_
        refine wp_iadd xi_111 dX11_block_75 ?_
        obtain ⟨rfl, rfl⟩ := oi2 H
        exact wp_iret xi_111 dX11_block_76 hq
      · rw [if_neg c8] at H
        by_cases c9 : p1 = 2
        · rw [if_pos c9] at H
          refine Wp.pure (p2 := 77) (ls2 := [some (.ref a), some (.int p0), some (.int p1), some (.ref x2)]) (st2 := []) (h2 := h4) xi_111 dX11_block_27 rfl rfl rfl (by rw [c9]; rfl) ?_
          refine wp_aload_n xi_111 dX11_block_77 rfl ?_
          refine wp_iload_n xi_111 dX11_block_78 rfl ?_
          obtain ⟨u16, gu16, H⟩ := Option.bind_eq_some_iff.mp H
          obtain ⟨⟨x18, h17⟩, gh17, H⟩ := Option.bind_eq_some_iff.mp H
          dsimp only at H
          refine wq_callV (a := x2) (as := [.int p0]) (r := []) (v1 := (some (.int x18))) xi_111 xi_99 dX11_block_79 xm_11_178 rfl (Nat.le_of_ble_eq_true rfl) (pG_ok gu16) ⟨(Nat.le_of_ble_eq_true rfl), (Nat.le_of_ble_eq_true rfl)⟩ rfl nofun (e_99 (d + 2) _ gh17 ⟨rfl, rfl⟩) ?_
          change Wp _ _ _ _ [.int x18] _ _
          obtain ⟨w20, G22, H⟩ := Option.bind_eq_some_iff.mp H
          have K21 : Wp (d + 4) 111 90 [some (.ref a), some (.int p0), some (.int p1), some (.ref x2)] [.int w20] h17 Q := by
            obtain ⟨rfl, rfl⟩ := oi2 H
            exact wp_iret xi_111 dX11_block_90 hq
          clear H
          have H := G22
          clear G22
          refine wp_if_eq 89 xi_111 dX11_block_82 rfl (fun c19 => ?_) (fun c19 => ?_)
          · rw [if_pos c19] at H
            refine wp_iconst 0 xi_111 dX11_block_89 rfl ?_
            obtain rfl := Option.some.inj H
            exact Wp.more (by simp [xMore, Value.category]) K21
          · rw [if_neg c19] at H
            refine wp_iconst 1 xi_111 dX11_block_85 rfl ?_
            refine wp_goto 90 xi_111 dX11_block_86 rfl ?_
            obtain rfl := Option.some.inj H
            exact Wp.more (by simp [xMore, Value.category]) K21
        · rw [if_neg c9] at H
          by_cases c10 : p1 = 3
          · rw [if_pos c10] at H
            refine Wp.pure (p2 := 91) (ls2 := [some (.ref a), some (.int p0), some (.int p1), some (.ref x2)]) (st2 := []) (h2 := h4) xi_111 dX11_block_27 rfl rfl rfl (by rw [c10]; rfl) ?_
            refine wp_aload_n xi_111 dX11_block_91 rfl ?_
            refine wp_iload_n xi_111 dX11_block_92 rfl ?_
            refine wp_iconst 3 xi_111 dX11_block_93 rfl ?_
            obtain ⟨x23, gx23, H⟩ := Option.bind_eq_some_iff.mp H
            refine wq_idiv xi_111 dX11_block_94 gx23 ?_
            obtain ⟨u24, gu24, H⟩ := Option.bind_eq_some_iff.mp H
            obtain ⟨⟨x26, h25⟩, gh25, H⟩ := Option.bind_eq_some_iff.mp H
            dsimp only at H
            refine wq_callV (a := x2) (as := [.int x23]) (r := []) (v1 := (some (.int x26))) xi_111 xi_98 dX11_block_95 xm_11_181 rfl (Nat.le_of_ble_eq_true rfl) (pG_ok gu24) ⟨(Nat.le_of_ble_eq_true rfl), (Nat.le_of_ble_eq_true rfl)⟩ rfl nofun (e_98 (d + 1) _ gh25 ⟨rfl, rfl⟩) ?_
            change Wp _ _ _ _ [.int x26] _ _
            obtain ⟨rfl, rfl⟩ := oi2 H
            exact wp_iret xi_111 dX11_block_98 hq
          · rw [if_neg c10] at H
            by_cases c11 : p1 = 4
            · rw [if_pos c11] at H
              refine Wp.pure (p2 := 99) (ls2 := [some (.ref a), some (.int p0), some (.int p1), some (.ref x2)]) (st2 := []) (h2 := h4) xi_111 dX11_block_27 rfl rfl rfl (by rw [c11]; rfl) ?_
              refine wp_aload_n xi_111 dX11_block_99 rfl ?_
              refine wp_iload_n xi_111 dX11_block_100 rfl ?_
              obtain ⟨u27, gu27, H⟩ := Option.bind_eq_some_iff.mp H
              obtain ⟨⟨x29, h28⟩, gh28, H⟩ := Option.bind_eq_some_iff.mp H
              dsimp only at H
              refine wq_callV (a := a) (as := [.int p0]) (r := []) (v1 := (some (.int x29))) xi_111 xi_112 dX11_block_101 xm_11_185 rfl (Nat.le_of_ble_eq_true rfl) (pG_ok gu27) ⟨(Nat.le_of_ble_eq_true rfl), (Nat.le_of_ble_eq_true rfl)⟩ rfl nofun (e_112 d _ gh28 ⟨rfl, rfl⟩) ?_
              change Wp _ _ _ _ [.int x29] _ _
              obtain ⟨w31, G33, H⟩ := Option.bind_eq_some_iff.mp H
              have K32 : Wp (d + 4) 111 112 [some (.ref a), some (.int p0), some (.int p1), some (.ref x2)] [.int w31] h28 Q := by
                obtain ⟨rfl, rfl⟩ := oi2 H
                exact wp_iret xi_111 dX11_block_112 hq
              clear H
              have H := G33
              clear G33
              refine wp_if_eq 111 xi_111 dX11_block_104 rfl (fun c30 => ?_) (fun c30 => ?_)
              · rw [if_pos c30] at H
                refine wp_iconst 0 xi_111 dX11_block_111 rfl ?_
                obtain rfl := Option.some.inj H
                exact Wp.more (by simp [xMore, Value.category]) K32
              · rw [if_neg c30] at H
                refine wp_iconst 1 xi_111 dX11_block_107 rfl ?_
                refine wp_goto 112 xi_111 dX11_block_108 rfl ?_
                obtain rfl := Option.some.inj H
                exact Wp.more (by simp [xMore, Value.category]) K32
            · rw [if_neg c11] at H
              have ec7 := lv_neT c7 (a := 0) (by decide)
              have ec8 := lv_neT c8 (a := 1) (by decide)
              have ec9 := lv_neT c9 (a := 2) (by decide)
              have ec10 := lv_neT c10 (a := 3) (by decide)
              have ec11 := lv_neT c11 (a := 4) (by decide)
              refine Wp.pure (p2 := 113) (ls2 := [some (.ref a), some (.int p0), some (.int p1), some (.ref x2)]) (st2 := []) (h2 := h4) xi_111 dX11_block_27 rfl rfl rfl (by simp only [xPure, xJ]; rw [if_pos (by omega)]; rfl) ?_
              obtain ⟨rfl, rfl⟩ := oi2 H
              exact wq_throw xi_111 dX11_block_113 xn_11_168 hq
  · rw [if_pos c6] at H
    obtain ⟨rfl, rfl⟩ := oi2 H
    exact wq_throw xi_111 dX11_block_16 xn_11_168 hq
/- FelledHasLost.sheet(IIII)I -/
def f_115  (a : Nat) (p0 : Int32) (p1 : Int32) (p2 : Int32) (p3 : Int32) (h : xH) : Option (Int32 × xH) :=
  (if p0 < 0 then
  some ((-1), h)
  else
  (if (3 : Int32) < p0 then
  some ((-1), h)
  else
  (if p1 ≤ 48 then
  (if p0 = 3 then
  (pG (pIs h a 11)).bind fun _ =>
  (f_116 a p0 0 p2 p3 h).bind fun (x18, h17) =>
  some ((-3), h17)
  else
  ((if (0 : Int32) ≤ p1 then
  (pG (pIs h a 11)).bind fun _ =>
  (f_116 a p0 p1 p2 p3 h).bind fun (x14, h13) =>
  some (x14, h13)
  else
  some ((-2), h) : Option (Int32 × xH))).bind fun (w9, h10) =>
  some (w9, h10))
  else
  some ((-1), h))))
set_option maxHeartbeats 4000000 in
theorem e_115 (d : Nat) (Q : Option Value → xH → Prop)  {h : xH} {a : Nat} {p0 : Int32} {p1 : Int32} {p2 : Int32} {p3 : Int32} {x : Int32} {h1 : xH} (H : f_115  a p0 p1 p2 p3 h = some (x, h1)) (hq : Q (some (.int x)) h1) : Wp (d + 4) 115 0 [some (.ref a), some (.int p0), some (.int p1), some (.int p2), some (.int p3)] [] h Q := by
  unfold f_115 at H
  refine wp_iload_n xi_115 dX11_sheet_0 rfl ?_
  refine wp_if_lt 15 xi_115 dX11_sheet_1 rfl (fun c1 => ?_) (fun c1 => ?_)
  · rw [if_pos c1] at H
    refine wp_iconst (-1) xi_115 dX11_sheet_15 rfl ?_
    obtain ⟨rfl, rfl⟩ := oi2 H
    exact wp_iret xi_115 dX11_sheet_16 hq
  · rw [if_neg c1] at H
    refine wp_iload_n xi_115 dX11_sheet_4 rfl ?_
    refine wp_iconst 3 xi_115 dX11_sheet_5 rfl ?_
    refine wp_icmp_gt 15 xi_115 dX11_sheet_6 rfl (fun c2 => ?_) (fun c2 => ?_)
    · rw [if_pos c2] at H
      refine wp_iconst (-1) xi_115 dX11_sheet_15 rfl ?_
      obtain ⟨rfl, rfl⟩ := oi2 H
      exact wp_iret xi_115 dX11_sheet_16 hq
    · rw [if_neg c2] at H
      refine wp_iload_n xi_115 dX11_sheet_9 rfl ?_
      refine wp_bipush 48 xi_115 dX11_sheet_10 rfl ?_
      refine wp_icmp_le 17 xi_115 dX11_sheet_12 rfl (fun c3 => ?_) (fun c3 => ?_)
      · rw [if_pos c3] at H
        refine wp_iload_n xi_115 dX11_sheet_17 rfl ?_
        refine wp_iconst 3 xi_115 dX11_sheet_18 rfl ?_
        refine wp_icmp_ne 35 xi_115 dX11_sheet_19 rfl (fun c4 => ?_) (fun c4 => ?_)
        · rw [if_neg c4] at H
          refine wp_iload_n xi_115 dX11_sheet_35 rfl ?_
          obtain ⟨⟨w9, h10⟩, G15, H⟩ := Option.bind_eq_some_iff.mp H
          dsimp only at H
          have K11 : Wp (d + 4) 115 53 [some (.ref a), some (.int p0), some (.int p1), some (.int p2), some (.int p3)] [.int w9] h10 Q := by
            obtain ⟨rfl, rfl⟩ := oi2 H
            exact wp_iret xi_115 dX11_sheet_53 hq
          clear H
          have H := G15
          clear G15
          refine wp_if_ge 44 xi_115 dX11_sheet_36 rfl (fun c5 => ?_) (fun c5 => ?_)
          · rw [if_pos c5] at H
            refine wp_aload_n xi_115 dX11_sheet_44 rfl ?_
            refine wp_iload_n xi_115 dX11_sheet_45 rfl ?_
            refine wp_iload_n xi_115 dX11_sheet_46 rfl ?_
            refine wp_iload_n xi_115 dX11_sheet_47 rfl ?_
            refine wp_iload xi_115 dX11_sheet_48 rfl ?_
            obtain ⟨u12, gu12, H⟩ := Option.bind_eq_some_iff.mp H
            obtain ⟨⟨x14, h13⟩, gh13, H⟩ := Option.bind_eq_some_iff.mp H
            dsimp only at H
            refine wq_callV (a := a) (as := [.int p0, .int p1, .int p2, .int p3]) (r := []) (v1 := (some (.int x14))) xi_115 xi_116 dX11_sheet_50 xm_11_229 rfl (Nat.le_of_ble_eq_true rfl) (pG_ok gu12) ⟨(Nat.le_of_ble_eq_true rfl), (Nat.le_of_ble_eq_true rfl)⟩ rfl nofun (e_116 d _ gh13 ⟨rfl, rfl⟩) ?_
            change Wp _ _ _ _ [.int x14] _ _
            simp only [Option.some.injEq, Prod.mk.injEq] at H
            obtain ⟨rfl, rfl⟩ := H
            exact Wp.more (by simp [xMore, Value.category]) K11
          · rw [if_neg c5] at H
            refine wp_bipush (-2) xi_115 dX11_sheet_39 rfl ?_
            refine wp_goto 53 xi_115 dX11_sheet_41 rfl ?_
            simp only [Option.some.injEq, Prod.mk.injEq] at H
            obtain ⟨rfl, rfl⟩ := H
            exact Wp.more (by simp [xMore, Value.category]) K11
        · rw [if_pos c4] at H
          refine wp_aload_n xi_115 dX11_sheet_22 rfl ?_
          refine wp_iload_n xi_115 dX11_sheet_23 rfl ?_
          refine wp_iconst 0 xi_115 dX11_sheet_24 rfl ?_
          refine wp_iload_n xi_115 dX11_sheet_25 rfl ?_
          refine wp_iload xi_115 dX11_sheet_26 rfl ?_
          obtain ⟨u16, gu16, H⟩ := Option.bind_eq_some_iff.mp H
          obtain ⟨⟨x18, h17⟩, gh17, H⟩ := Option.bind_eq_some_iff.mp H
          dsimp only at H
          refine wq_callV (a := a) (as := [.int p0, .int 0, .int p2, .int p3]) (r := []) (v1 := (some (.int x18))) xi_115 xi_116 dX11_sheet_28 xm_11_229 rfl (Nat.le_of_ble_eq_true rfl) (pG_ok gu16) ⟨(Nat.le_of_ble_eq_true rfl), (Nat.le_of_ble_eq_true rfl)⟩ rfl nofun (e_116 d _ gh17 ⟨rfl, rfl⟩) ?_
          change Wp _ _ _ _ [.int x18] _ _
          refine wp_pop xi_115 dX11_sheet_31 rfl ?_
          refine wp_bipush (-3) xi_115 dX11_sheet_32 rfl ?_
          obtain ⟨rfl, rfl⟩ := oi2 H
          exact wp_iret xi_115 dX11_sheet_34 hq
      · rw [if_neg c3] at H
        refine wp_iconst (-1) xi_115 dX11_sheet_15 rfl ?_
        obtain ⟨rfl, rfl⟩ := oi2 H
        exact wp_iret xi_115 dX11_sheet_16 hq
/- FelledHasLost.moves()I -/
def f_127  (a : Nat) (h : xH) : Option (Int32 × xH) :=
  (pFr h a 11 8).bind fun x1 =>
  (pG (pIs h a 11)).bind fun _ =>
  (f_125 a h).bind fun (x4, h3) =>
  (pG (pIs h3 x1 1)).bind fun _ =>
  (f_8 x1 x4 h3).bind fun h6 =>
  (pFr h6 a 11 1).bind fun x7 =>
  (pG (pIs h6 x7 5)).bind fun _ =>
  (f_50 x7 h6).bind fun h9 =>
  (pFr h9 a 11 1).bind fun x10 =>
  (pFr h9 a 11 8).bind fun x11 =>
  (pFi h9 x11 1 5).bind fun x12 =>
  (pG (pIs h9 x10 5)).bind fun _ =>
  (f_51 x10 ((x12 : Int32).toInt64) h9).bind fun h14 =>
  (pFr h14 a 11 1).bind fun x15 =>
  (pFr h14 a 11 8).bind fun x16 =>
  (pFi h14 x16 1 6).bind fun x17 =>
  (pG (pIs h14 x15 5)).bind fun _ =>
  (f_51 x15 ((x17 : Int32).toInt64) h14).bind fun h19 =>
  (pFr h19 a 11 1).bind fun x20 =>
  (pFr h19 a 11 8).bind fun x21 =>
  (pFi h19 x21 1 4).bind fun x22 =>
  (pG (pIs h19 x20 5)).bind fun _ =>
  (f_51 x20 ((x22 : Int32).toInt64) h19).bind fun h24 =>
  (pFr h24 a 11 8).bind fun x25 =>
  (pFi h24 x25 1 3).bind fun x26 =>
  some (x26, h24)
set_option maxHeartbeats 4000000 in
theorem e_127 (d : Nat) (Q : Option Value → xH → Prop)  {h : xH} {a : Nat} {x : Int32} {h1 : xH} (H : f_127  a h = some (x, h1)) (hq : Q (some (.int x)) h1) : Wp (d + 5) 127 0 [some (.ref a)] [] h Q := by
  unfold f_127 at H
  refine wp_aload_n xi_127 dX11_moves_0 rfl ?_
  obtain ⟨x1, gx1, H⟩ := Option.bind_eq_some_iff.mp H
  refine wq_getfr xi_127 dX11_moves_1 xf_11_64 gx1 ?_
  refine wp_aload_n xi_127 dX11_moves_4 rfl ?_
  obtain ⟨u2, gu2, H⟩ := Option.bind_eq_some_iff.mp H
  obtain ⟨⟨x4, h3⟩, gh3, H⟩ := Option.bind_eq_some_iff.mp H
  dsimp only at H
  refine wq_callV (a := a) (as := []) (r := [.ref x1]) (v1 := (some (.ref x4))) xi_127 xi_125 dX11_moves_5 xm_11_280 rfl (Nat.le_of_ble_eq_true rfl) (pG_ok gu2) ⟨(Nat.le_of_ble_eq_true rfl), (Nat.le_of_ble_eq_true rfl)⟩ rfl nofun (e_125 (d + 3) _ gh3 ⟨rfl, rfl⟩) ?_
  change Wp _ _ _ _ [.ref x4, .ref x1] _ _
  obtain ⟨u5, gu5, H⟩ := Option.bind_eq_some_iff.mp H
  obtain ⟨h6, gh6, H⟩ := Option.bind_eq_some_iff.mp H
  refine wq_callV (a := x1) (as := [.ref x4]) (r := []) (v1 := none) xi_127 xi_8 dX11_moves_8 xm_11_284 rfl (Nat.le_of_ble_eq_true rfl) (pG_ok gu5) ⟨(Nat.le_of_ble_eq_true rfl), (Nat.le_of_ble_eq_true rfl)⟩ rfl nofun (e_8 d _ gh6 ⟨rfl, rfl⟩) ?_
  change Wp _ _ _ _ [] _ _
  refine wp_aload_n xi_127 dX11_moves_11 rfl ?_
  obtain ⟨x7, gx7, H⟩ := Option.bind_eq_some_iff.mp H
  refine wq_getfr xi_127 dX11_moves_12 xf_11_19 gx7 ?_
  obtain ⟨u8, gu8, H⟩ := Option.bind_eq_some_iff.mp H
  obtain ⟨h9, gh9, H⟩ := Option.bind_eq_some_iff.mp H
  refine wq_callV (a := x7) (as := []) (r := []) (v1 := none) xi_127 xi_50 dX11_moves_15 xm_11_244 rfl (Nat.le_of_ble_eq_true rfl) (pG_ok gu8) ⟨(Nat.le_of_ble_eq_true rfl), (Nat.le_of_ble_eq_true rfl)⟩ rfl nofun (e_50 (d + 4) _ gh9 ⟨rfl, rfl⟩) ?_
  change Wp _ _ _ _ [] _ _
  refine wp_aload_n xi_127 dX11_moves_18 rfl ?_
  obtain ⟨x10, gx10, H⟩ := Option.bind_eq_some_iff.mp H
  refine wq_getfr xi_127 dX11_moves_19 xf_11_19 gx10 ?_
  refine wp_aload_n xi_127 dX11_moves_22 rfl ?_
  obtain ⟨x11, gx11, H⟩ := Option.bind_eq_some_iff.mp H
  refine wq_getfr xi_127 dX11_moves_23 xf_11_64 gx11 ?_
  obtain ⟨x12, gx12, H⟩ := Option.bind_eq_some_iff.mp H
  refine wq_getfi xi_127 dX11_moves_26 xf_11_288 gx12 ?_
  refine wp_i2l xi_127 dX11_moves_29 ?_
  obtain ⟨u13, gu13, H⟩ := Option.bind_eq_some_iff.mp H
  obtain ⟨h14, gh14, H⟩ := Option.bind_eq_some_iff.mp H
  refine wq_callV (a := x10) (as := [.long ((x12 : Int32).toInt64)]) (r := []) (v1 := none) xi_127 xi_51 dX11_moves_30 xm_11_248 rfl (Nat.le_of_ble_eq_true rfl) (pG_ok gu13) ⟨(Nat.le_of_ble_eq_true rfl), (Nat.le_of_ble_eq_true rfl)⟩ rfl nofun (e_51 (d + 4) _ gh14 ⟨rfl, rfl⟩) ?_
  change Wp _ _ _ _ [] _ _
  refine wp_aload_n xi_127 dX11_moves_33 rfl ?_
  obtain ⟨x15, gx15, H⟩ := Option.bind_eq_some_iff.mp H
  refine wq_getfr xi_127 dX11_moves_34 xf_11_19 gx15 ?_
  refine wp_aload_n xi_127 dX11_moves_37 rfl ?_
  obtain ⟨x16, gx16, H⟩ := Option.bind_eq_some_iff.mp H
  refine wq_getfr xi_127 dX11_moves_38 xf_11_64 gx16 ?_
  obtain ⟨x17, gx17, H⟩ := Option.bind_eq_some_iff.mp H
  refine wq_getfi xi_127 dX11_moves_41 xf_11_291 gx17 ?_
  refine wp_i2l xi_127 dX11_moves_44 ?_
  obtain ⟨u18, gu18, H⟩ := Option.bind_eq_some_iff.mp H
  obtain ⟨h19, gh19, H⟩ := Option.bind_eq_some_iff.mp H
  refine wq_callV (a := x15) (as := [.long ((x17 : Int32).toInt64)]) (r := []) (v1 := none) xi_127 xi_51 dX11_moves_45 xm_11_248 rfl (Nat.le_of_ble_eq_true rfl) (pG_ok gu18) ⟨(Nat.le_of_ble_eq_true rfl), (Nat.le_of_ble_eq_true rfl)⟩ rfl nofun (e_51 (d + 4) _ gh19 ⟨rfl, rfl⟩) ?_
  change Wp _ _ _ _ [] _ _
  refine wp_aload_n xi_127 dX11_moves_48 rfl ?_
  obtain ⟨x20, gx20, H⟩ := Option.bind_eq_some_iff.mp H
  refine wq_getfr xi_127 dX11_moves_49 xf_11_19 gx20 ?_
  refine wp_aload_n xi_127 dX11_moves_52 rfl ?_
  obtain ⟨x21, gx21, H⟩ := Option.bind_eq_some_iff.mp H
  refine wq_getfr xi_127 dX11_moves_53 xf_11_64 gx21 ?_
  obtain ⟨x22, gx22, H⟩ := Option.bind_eq_some_iff.mp H
  refine wq_getfi xi_127 dX11_moves_56 xf_11_294 gx22 ?_
  refine wp_i2l xi_127 dX11_moves_59 ?_
  obtain ⟨u23, gu23, H⟩ := Option.bind_eq_some_iff.mp H
  obtain ⟨h24, gh24, H⟩ := Option.bind_eq_some_iff.mp H
  refine wq_callV (a := x20) (as := [.long ((x22 : Int32).toInt64)]) (r := []) (v1 := none) xi_127 xi_51 dX11_moves_60 xm_11_248 rfl (Nat.le_of_ble_eq_true rfl) (pG_ok gu23) ⟨(Nat.le_of_ble_eq_true rfl), (Nat.le_of_ble_eq_true rfl)⟩ rfl nofun (e_51 (d + 4) _ gh24 ⟨rfl, rfl⟩) ?_
  change Wp _ _ _ _ [] _ _
  refine wp_aload_n xi_127 dX11_moves_63 rfl ?_
  obtain ⟨x25, gx25, H⟩ := Option.bind_eq_some_iff.mp H
  refine wq_getfr xi_127 dX11_moves_64 xf_11_64 gx25 ?_
  obtain ⟨x26, gx26, H⟩ := Option.bind_eq_some_iff.mp H
  refine wq_getfi xi_127 dX11_moves_67 xf_11_297 gx26 ?_
  obtain ⟨rfl, rfl⟩ := oi2 H
  exact wp_iret xi_127 dX11_moves_70 hq
/- FelledHasLost.odds(II)I -/
def f_128  (a : Nat) (p0 : Int32) (p1 : Int32) (h : xH) : Option (Int32 × xH) :=
  (if p1 < 0 then
  some ((-1), h)
  else
  (if p1 ≤ 1 then
  (pG (pIs h a 11)).bind fun _ =>
  (f_125 a h).bind fun (x5, h4) =>
  (pG (pIs h4 x5 10)).bind fun _ =>
  (f_102 x5 p0 h4).bind fun (x8, h7) =>
  (if x8 = 0 then
  some ((-2), h7)
  else
  (pFr h7 a 11 8).bind fun x10 =>
  (pG (pIs h7 x10 1)).bind fun _ =>
  (f_7 x10 x5 p0 h7).bind fun (x13, h12) =>
  (pFr h12 a 11 1).bind fun x14 =>
  (pG (pIs h12 x14 5)).bind fun _ =>
  (f_50 x14 h12).bind fun h16 =>
  (pFr h16 a 11 1).bind fun x17 =>
  ((if x13 = 0 then
  some ((0 : Int64))
  else
  some ((1 : Int64)) : Option (Int64))).bind fun (w19 : Int64) =>
  (pG (pIs h16 x17 5)).bind fun _ =>
  (f_51 x17 w19 h16).bind fun h22 =>
  (if x13 = 0 then
  some (100, h22)
  else
  (pFr h22 a 11 8).bind fun x24 =>
  (pFr h22 a 11 2).bind fun x25 =>
  (pFi h22 x25 7 1).bind fun x26 =>
  (pG (pIs h22 a 11)).bind fun _ =>
  (f_126 a x26 h22).bind fun (x29, h28) =>
  (pG (pIs h28 x24 1)).bind fun _ =>
  (f_9 x24 x5 p0 x29 h28).bind fun h31 =>
  (pFr h31 a 11 8).bind fun x32 =>
  (pG (pIs h31 x32 1)).bind fun _ =>
  (f_10 x32 p1 h31).bind fun (x35, h34) =>
  some (x35, h34)))
  else
  some ((-1), h)))
set_option maxHeartbeats 4000000 in
theorem e_128 (d : Nat) (Q : Option Value → xH → Prop)  {h : xH} {a : Nat} {p0 : Int32} {p1 : Int32} {x : Int32} {h1 : xH} (H : f_128  a p0 p1 h = some (x, h1)) (hq : Q (some (.int x)) h1) : Wp (d + 4) 128 0 [some (.ref a), some (.int p0), some (.int p1), none, none] [] h Q := by
  unfold f_128 at H
  refine wp_iload_n xi_128 dX11_odds_0 rfl ?_
  refine wp_if_lt 9 xi_128 dX11_odds_1 rfl (fun c1 => ?_) (fun c1 => ?_)
  · rw [if_pos c1] at H
    refine wp_iconst (-1) xi_128 dX11_odds_9 rfl ?_
    obtain ⟨rfl, rfl⟩ := oi2 H
    exact wp_iret xi_128 dX11_odds_10 hq
  · rw [if_neg c1] at H
    refine wp_iload_n xi_128 dX11_odds_4 rfl ?_
    refine wp_iconst 1 xi_128 dX11_odds_5 rfl ?_
    refine wp_icmp_le 11 xi_128 dX11_odds_6 rfl (fun c2 => ?_) (fun c2 => ?_)
    · rw [if_pos c2] at H
      refine wp_aload_n xi_128 dX11_odds_11 rfl ?_
      obtain ⟨u3, gu3, H⟩ := Option.bind_eq_some_iff.mp H
      obtain ⟨⟨x5, h4⟩, gh4, H⟩ := Option.bind_eq_some_iff.mp H
      dsimp only at H
      refine wq_callV (a := a) (as := []) (r := []) (v1 := (some (.ref x5))) xi_128 xi_125 dX11_odds_12 xm_11_280 rfl (Nat.le_of_ble_eq_true rfl) (pG_ok gu3) ⟨(Nat.le_of_ble_eq_true rfl), (Nat.le_of_ble_eq_true rfl)⟩ rfl nofun (e_125 (d + 2) _ gh4 ⟨rfl, rfl⟩) ?_
      change Wp _ _ _ _ [.ref x5] _ _
      refine wp_astore_n [some (.ref a), some (.int p0), some (.int p1), some (.ref x5), none] xi_128 dX11_odds_15 rfl ?_
      refine wp_aload_n xi_128 dX11_odds_16 rfl ?_
      refine wp_iload_n xi_128 dX11_odds_17 rfl ?_
      obtain ⟨u6, gu6, H⟩ := Option.bind_eq_some_iff.mp H
      obtain ⟨⟨x8, h7⟩, gh7, H⟩ := Option.bind_eq_some_iff.mp H
      dsimp only at H
      refine wq_callV (a := x5) (as := [.int p0]) (r := []) (v1 := (some (.int x8))) xi_128 xi_102 dX11_odds_18 xm_11_300 rfl (Nat.le_of_ble_eq_true rfl) (pG_ok gu6) ⟨(Nat.le_of_ble_eq_true rfl), (Nat.le_of_ble_eq_true rfl)⟩ rfl nofun (e_102 (d + 1) _ gh7 ⟨rfl, rfl⟩) ?_
      change Wp _ _ _ _ [.int x8] _ _
      refine wp_if_ne 27 xi_128 dX11_odds_21 rfl (fun c9 => ?_) (fun c9 => ?_)
      · rw [if_neg c9] at H
        refine wp_aload_n xi_128 dX11_odds_27 rfl ?_
        obtain ⟨x10, gx10, H⟩ := Option.bind_eq_some_iff.mp H
        refine wq_getfr xi_128 dX11_odds_28 xf_11_64 gx10 ?_
        refine wp_aload_n xi_128 dX11_odds_31 rfl ?_
        refine wp_iload_n xi_128 dX11_odds_32 rfl ?_
        obtain ⟨u11, gu11, H⟩ := Option.bind_eq_some_iff.mp H
        obtain ⟨⟨x13, h12⟩, gh12, H⟩ := Option.bind_eq_some_iff.mp H
        dsimp only at H
        refine wq_callV (a := x10) (as := [.ref x5, .int p0]) (r := []) (v1 := (some (.int x13))) xi_128 xi_7 dX11_odds_33 xm_11_303 rfl (Nat.le_of_ble_eq_true rfl) (pG_ok gu11) ⟨(Nat.le_of_ble_eq_true rfl), (Nat.le_of_ble_eq_true rfl)⟩ rfl nofun (e_7 d _ gh12 ⟨rfl, rfl⟩) ?_
        change Wp _ _ _ _ [.int x13] _ _
        refine wp_istore [some (.ref a), some (.int p0), some (.int p1), some (.ref x5), some (.int x13)] xi_128 dX11_odds_36 rfl ?_
        refine wp_aload_n xi_128 dX11_odds_38 rfl ?_
        obtain ⟨x14, gx14, H⟩ := Option.bind_eq_some_iff.mp H
        refine wq_getfr xi_128 dX11_odds_39 xf_11_19 gx14 ?_
        obtain ⟨u15, gu15, H⟩ := Option.bind_eq_some_iff.mp H
        obtain ⟨h16, gh16, H⟩ := Option.bind_eq_some_iff.mp H
        refine wq_callV (a := x14) (as := []) (r := []) (v1 := none) xi_128 xi_50 dX11_odds_42 xm_11_244 rfl (Nat.le_of_ble_eq_true rfl) (pG_ok gu15) ⟨(Nat.le_of_ble_eq_true rfl), (Nat.le_of_ble_eq_true rfl)⟩ rfl nofun (e_50 (d + 3) _ gh16 ⟨rfl, rfl⟩) ?_
        change Wp _ _ _ _ [] _ _
        refine wp_aload_n xi_128 dX11_odds_45 rfl ?_
        obtain ⟨x17, gx17, H⟩ := Option.bind_eq_some_iff.mp H
        refine wq_getfr xi_128 dX11_odds_46 xf_11_19 gx17 ?_
        refine wp_iload xi_128 dX11_odds_49 rfl ?_
        obtain ⟨w19, G36, H⟩ := Option.bind_eq_some_iff.mp H
        have K20 : Wp (d + 4) 128 59 [some (.ref a), some (.int p0), some (.int p1), some (.ref x5), some (.int x13)] [.long w19, .ref x17] h16 Q := by
          obtain ⟨u21, gu21, H⟩ := Option.bind_eq_some_iff.mp H
          obtain ⟨h22, gh22, H⟩ := Option.bind_eq_some_iff.mp H
          refine wq_callV (a := x17) (as := [.long w19]) (r := []) (v1 := none) xi_128 xi_51 dX11_odds_59 xm_11_248 rfl (Nat.le_of_ble_eq_true rfl) (pG_ok gu21) ⟨(Nat.le_of_ble_eq_true rfl), (Nat.le_of_ble_eq_true rfl)⟩ rfl nofun (e_51 (d + 3) _ gh22 ⟨rfl, rfl⟩) ?_
          change Wp _ _ _ _ [] _ _
          refine wp_iload xi_128 dX11_odds_62 rfl ?_
          refine wp_if_ne 70 xi_128 dX11_odds_64 rfl (fun c23 => ?_) (fun c23 => ?_)
          · rw [if_neg c23] at H
            refine wp_aload_n xi_128 dX11_odds_70 rfl ?_
            obtain ⟨x24, gx24, H⟩ := Option.bind_eq_some_iff.mp H
            refine wq_getfr xi_128 dX11_odds_71 xf_11_64 gx24 ?_
            refine wp_aload_n xi_128 dX11_odds_74 rfl ?_
            refine wp_iload_n xi_128 dX11_odds_75 rfl ?_
            refine wp_aload_n xi_128 dX11_odds_76 rfl ?_
            refine wp_aload_n xi_128 dX11_odds_77 rfl ?_
            obtain ⟨x25, gx25, H⟩ := Option.bind_eq_some_iff.mp H
            refine wq_getfr xi_128 dX11_odds_78 xf_11_26 gx25 ?_
            obtain ⟨x26, gx26, H⟩ := Option.bind_eq_some_iff.mp H
            refine wq_getfi xi_128 dX11_odds_81 xf_11_159 gx26 ?_
            obtain ⟨u27, gu27, H⟩ := Option.bind_eq_some_iff.mp H
            obtain ⟨⟨x29, h28⟩, gh28, H⟩ := Option.bind_eq_some_iff.mp H
            dsimp only at H
            refine wq_callV (a := a) (as := [.int x26]) (r := [.int p0, .ref x5, .ref x24]) (v1 := (some (.int x29))) xi_128 xi_126 dX11_odds_84 xm_11_307 rfl (Nat.le_of_ble_eq_true rfl) (pG_ok gu27) ⟨(Nat.le_of_ble_eq_true rfl), (Nat.le_of_ble_eq_true rfl)⟩ rfl nofun (e_126 (d + 2) _ gh28 ⟨rfl, rfl⟩) ?_
            change Wp _ _ _ _ [.int x29, .int p0, .ref x5, .ref x24] _ _
            obtain ⟨u30, gu30, H⟩ := Option.bind_eq_some_iff.mp H
            obtain ⟨h31, gh31, H⟩ := Option.bind_eq_some_iff.mp H
            refine wq_callV (a := x24) (as := [.ref x5, .int p0, .int x29]) (r := []) (v1 := none) xi_128 xi_9 dX11_odds_87 xm_11_310 rfl (Nat.le_of_ble_eq_true rfl) (pG_ok gu30) ⟨(Nat.le_of_ble_eq_true rfl), (Nat.le_of_ble_eq_true rfl)⟩ rfl nofun (e_9 (d + 1) _ gh31 ⟨rfl, rfl⟩) ?_
            change Wp _ _ _ _ [] _ _
            refine wp_aload_n xi_128 dX11_odds_90 rfl ?_
            obtain ⟨x32, gx32, H⟩ := Option.bind_eq_some_iff.mp H
            refine wq_getfr xi_128 dX11_odds_91 xf_11_64 gx32 ?_
            refine wp_iload_n xi_128 dX11_odds_94 rfl ?_
            obtain ⟨u33, gu33, H⟩ := Option.bind_eq_some_iff.mp H
            obtain ⟨⟨x35, h34⟩, gh34, H⟩ := Option.bind_eq_some_iff.mp H
            dsimp only at H
            refine wq_callV (a := x32) (as := [.int p1]) (r := []) (v1 := (some (.int x35))) xi_128 xi_10 dX11_odds_95 xm_11_314 rfl (Nat.le_of_ble_eq_true rfl) (pG_ok gu33) ⟨(Nat.le_of_ble_eq_true rfl), (Nat.le_of_ble_eq_true rfl)⟩ rfl nofun (e_10 (d + 1) _ gh34 ⟨rfl, rfl⟩) ?_
            change Wp _ _ _ _ [.int x35] _ _
            obtain ⟨rfl, rfl⟩ := oi2 H
            exact wp_iret xi_128 dX11_odds_98 hq
          · rw [if_pos c23] at H
            refine wp_bipush 100 xi_128 dX11_odds_67 rfl ?_
            obtain ⟨rfl, rfl⟩ := oi2 H
            exact wp_iret xi_128 dX11_odds_69 hq
        clear H
        have H := G36
        clear G36
        refine wp_if_eq 58 xi_128 dX11_odds_51 rfl (fun c18 => ?_) (fun c18 => ?_)
        · rw [if_pos c18] at H
          refine wp_lconst 0 xi_128 dX11_odds_58 rfl ?_
          obtain rfl := Option.some.inj H
          exact Wp.more (by simp [xMore, Value.category]) K20
        · rw [if_neg c18] at H
          refine wp_lconst 1 xi_128 dX11_odds_54 rfl ?_
          refine wp_goto 59 xi_128 dX11_odds_55 rfl ?_
          obtain rfl := Option.some.inj H
          exact Wp.more (by simp [xMore, Value.category]) K20
      · rw [if_pos c9] at H
        refine wp_bipush (-2) xi_128 dX11_odds_24 rfl ?_
        obtain ⟨rfl, rfl⟩ := oi2 H
        exact wp_iret xi_128 dX11_odds_26 hq
    · rw [if_neg c2] at H
      refine wp_iconst (-1) xi_128 dX11_odds_9 rfl ?_
      obtain ⟨rfl, rfl⟩ := oi2 H
      exact wp_iret xi_128 dX11_odds_10 hq
/- FelledHasLost.best()I -/
def f_129  (a : Nat) (h : xH) : Option (Int32 × xH) :=
  (pFr h a 11 8).bind fun x1 =>
  (pG (pIs h a 11)).bind fun _ =>
  (f_125 a h).bind fun (x4, h3) =>
  (pFr h3 a 11 2).bind fun x5 =>
  (pFi h3 x5 7 1).bind fun x6 =>
  (pG (pIs h3 a 11)).bind fun _ =>
  (f_126 a x6 h3).bind fun (x9, h8) =>
  (pG (pIs h8 x1 1)).bind fun _ =>
  (f_11 x1 x4 x9 h8).bind fun h11 =>
  (pFr h11 a 11 8).bind fun x12 =>
  (pFi h11 x12 1 7).bind fun x13 =>
  (if x13 = (-1) then
  some ((-2), h11)
  else
  (pFr h11 a 11 1).bind fun x15 =>
  (pG (pIs h11 x15 5)).bind fun _ =>
  (f_50 x15 h11).bind fun h17 =>
  (pFr h17 a 11 1).bind fun x18 =>
  (pFr h17 a 11 8).bind fun x19 =>
  (pFi h17 x19 1 8).bind fun x20 =>
  (pG (pIs h17 x18 5)).bind fun _ =>
  (f_51 x18 ((x20 : Int32).toInt64) h17).bind fun h22 =>
  (pFr h22 a 11 1).bind fun x23 =>
  (pFr h22 a 11 8).bind fun x24 =>
  (pFi h22 x24 1 9).bind fun x25 =>
  (pG (pIs h22 x23 5)).bind fun _ =>
  (f_51 x23 ((x25 : Int32).toInt64) h22).bind fun h27 =>
  (pFr h27 a 11 8).bind fun x28 =>
  (pFi h27 x28 1 7).bind fun x29 =>
  some (x29, h27))
set_option maxHeartbeats 4000000 in
theorem e_129 (d : Nat) (Q : Option Value → xH → Prop)  {h : xH} {a : Nat} {x : Int32} {h1 : xH} (H : f_129  a h = some (x, h1)) (hq : Q (some (.int x)) h1) : Wp (d + 5) 129 0 [some (.ref a)] [] h Q := by
  unfold f_129 at H
  refine wp_aload_n xi_129 dX11_best_0 rfl ?_
  obtain ⟨x1, gx1, H⟩ := Option.bind_eq_some_iff.mp H
  refine wq_getfr xi_129 dX11_best_1 xf_11_64 gx1 ?_
  refine wp_aload_n xi_129 dX11_best_4 rfl ?_
  obtain ⟨u2, gu2, H⟩ := Option.bind_eq_some_iff.mp H
  obtain ⟨⟨x4, h3⟩, gh3, H⟩ := Option.bind_eq_some_iff.mp H
  dsimp only at H
  refine wq_callV (a := a) (as := []) (r := [.ref x1]) (v1 := (some (.ref x4))) xi_129 xi_125 dX11_best_5 xm_11_280 rfl (Nat.le_of_ble_eq_true rfl) (pG_ok gu2) ⟨(Nat.le_of_ble_eq_true rfl), (Nat.le_of_ble_eq_true rfl)⟩ rfl nofun (e_125 (d + 3) _ gh3 ⟨rfl, rfl⟩) ?_
  change Wp _ _ _ _ [.ref x4, .ref x1] _ _
  refine wp_aload_n xi_129 dX11_best_8 rfl ?_
  refine wp_aload_n xi_129 dX11_best_9 rfl ?_
  obtain ⟨x5, gx5, H⟩ := Option.bind_eq_some_iff.mp H
  refine wq_getfr xi_129 dX11_best_10 xf_11_26 gx5 ?_
  obtain ⟨x6, gx6, H⟩ := Option.bind_eq_some_iff.mp H
  refine wq_getfi xi_129 dX11_best_13 xf_11_159 gx6 ?_
  obtain ⟨u7, gu7, H⟩ := Option.bind_eq_some_iff.mp H
  obtain ⟨⟨x9, h8⟩, gh8, H⟩ := Option.bind_eq_some_iff.mp H
  dsimp only at H
  refine wq_callV (a := a) (as := [.int x6]) (r := [.ref x4, .ref x1]) (v1 := (some (.int x9))) xi_129 xi_126 dX11_best_16 xm_11_307 rfl (Nat.le_of_ble_eq_true rfl) (pG_ok gu7) ⟨(Nat.le_of_ble_eq_true rfl), (Nat.le_of_ble_eq_true rfl)⟩ rfl nofun (e_126 (d + 3) _ gh8 ⟨rfl, rfl⟩) ?_
  change Wp _ _ _ _ [.int x9, .ref x4, .ref x1] _ _
  obtain ⟨u10, gu10, H⟩ := Option.bind_eq_some_iff.mp H
  obtain ⟨h11, gh11, H⟩ := Option.bind_eq_some_iff.mp H
  refine wq_callV (a := x1) (as := [.ref x4, .int x9]) (r := []) (v1 := none) xi_129 xi_11 dX11_best_19 xm_11_317 rfl (Nat.le_of_ble_eq_true rfl) (pG_ok gu10) ⟨(Nat.le_of_ble_eq_true rfl), (Nat.le_of_ble_eq_true rfl)⟩ rfl nofun (e_11 d _ gh11 ⟨rfl, rfl⟩) ?_
  change Wp _ _ _ _ [] _ _
  refine wp_aload_n xi_129 dX11_best_22 rfl ?_
  obtain ⟨x12, gx12, H⟩ := Option.bind_eq_some_iff.mp H
  refine wq_getfr xi_129 dX11_best_23 xf_11_64 gx12 ?_
  obtain ⟨x13, gx13, H⟩ := Option.bind_eq_some_iff.mp H
  refine wq_getfi xi_129 dX11_best_26 xf_11_321 gx13 ?_
  refine wp_iconst (-1) xi_129 dX11_best_29 rfl ?_
  refine wp_icmp_ne 36 xi_129 dX11_best_30 rfl (fun c14 => ?_) (fun c14 => ?_)
  · rw [if_neg c14] at H
    refine wp_aload_n xi_129 dX11_best_36 rfl ?_
    obtain ⟨x15, gx15, H⟩ := Option.bind_eq_some_iff.mp H
    refine wq_getfr xi_129 dX11_best_37 xf_11_19 gx15 ?_
    obtain ⟨u16, gu16, H⟩ := Option.bind_eq_some_iff.mp H
    obtain ⟨h17, gh17, H⟩ := Option.bind_eq_some_iff.mp H
    refine wq_callV (a := x15) (as := []) (r := []) (v1 := none) xi_129 xi_50 dX11_best_40 xm_11_244 rfl (Nat.le_of_ble_eq_true rfl) (pG_ok gu16) ⟨(Nat.le_of_ble_eq_true rfl), (Nat.le_of_ble_eq_true rfl)⟩ rfl nofun (e_50 (d + 4) _ gh17 ⟨rfl, rfl⟩) ?_
    change Wp _ _ _ _ [] _ _
    refine wp_aload_n xi_129 dX11_best_43 rfl ?_
    obtain ⟨x18, gx18, H⟩ := Option.bind_eq_some_iff.mp H
    refine wq_getfr xi_129 dX11_best_44 xf_11_19 gx18 ?_
    refine wp_aload_n xi_129 dX11_best_47 rfl ?_
    obtain ⟨x19, gx19, H⟩ := Option.bind_eq_some_iff.mp H
    refine wq_getfr xi_129 dX11_best_48 xf_11_64 gx19 ?_
    obtain ⟨x20, gx20, H⟩ := Option.bind_eq_some_iff.mp H
    refine wq_getfi xi_129 dX11_best_51 xf_11_324 gx20 ?_
    refine wp_i2l xi_129 dX11_best_54 ?_
    obtain ⟨u21, gu21, H⟩ := Option.bind_eq_some_iff.mp H
    obtain ⟨h22, gh22, H⟩ := Option.bind_eq_some_iff.mp H
    refine wq_callV (a := x18) (as := [.long ((x20 : Int32).toInt64)]) (r := []) (v1 := none) xi_129 xi_51 dX11_best_55 xm_11_248 rfl (Nat.le_of_ble_eq_true rfl) (pG_ok gu21) ⟨(Nat.le_of_ble_eq_true rfl), (Nat.le_of_ble_eq_true rfl)⟩ rfl nofun (e_51 (d + 4) _ gh22 ⟨rfl, rfl⟩) ?_
    change Wp _ _ _ _ [] _ _
    refine wp_aload_n xi_129 dX11_best_58 rfl ?_
    obtain ⟨x23, gx23, H⟩ := Option.bind_eq_some_iff.mp H
    refine wq_getfr xi_129 dX11_best_59 xf_11_19 gx23 ?_
    refine wp_aload_n xi_129 dX11_best_62 rfl ?_
    obtain ⟨x24, gx24, H⟩ := Option.bind_eq_some_iff.mp H
    refine wq_getfr xi_129 dX11_best_63 xf_11_64 gx24 ?_
    obtain ⟨x25, gx25, H⟩ := Option.bind_eq_some_iff.mp H
    refine wq_getfi xi_129 dX11_best_66 xf_11_327 gx25 ?_
    refine wp_i2l xi_129 dX11_best_69 ?_
    obtain ⟨u26, gu26, H⟩ := Option.bind_eq_some_iff.mp H
    obtain ⟨h27, gh27, H⟩ := Option.bind_eq_some_iff.mp H
    refine wq_callV (a := x23) (as := [.long ((x25 : Int32).toInt64)]) (r := []) (v1 := none) xi_129 xi_51 dX11_best_70 xm_11_248 rfl (Nat.le_of_ble_eq_true rfl) (pG_ok gu26) ⟨(Nat.le_of_ble_eq_true rfl), (Nat.le_of_ble_eq_true rfl)⟩ rfl nofun (e_51 (d + 4) _ gh27 ⟨rfl, rfl⟩) ?_
    change Wp _ _ _ _ [] _ _
    refine wp_aload_n xi_129 dX11_best_73 rfl ?_
    obtain ⟨x28, gx28, H⟩ := Option.bind_eq_some_iff.mp H
    refine wq_getfr xi_129 dX11_best_74 xf_11_64 gx28 ?_
    obtain ⟨x29, gx29, H⟩ := Option.bind_eq_some_iff.mp H
    refine wq_getfi xi_129 dX11_best_77 xf_11_321 gx29 ?_
    obtain ⟨rfl, rfl⟩ := oi2 H
    exact wp_iret xi_129 dX11_best_80 hq
  · rw [if_pos c14] at H
    refine wp_bipush (-2) xi_129 dX11_best_33 rfl ?_
    obtain ⟨rfl, rfl⟩ := oi2 H
    exact wp_iret xi_129 dX11_best_35 hq
/- FelledHasLost.leave()I -/
def f_130  (a : Nat) (h : xH) : Option (Int32 × xH) :=
  (pFr h a 11 8).bind fun x1 =>
  (pG (pIs h a 11)).bind fun _ =>
  (f_125 a h).bind fun (x4, h3) =>
  (pFr h3 a 11 2).bind fun x5 =>
  (pFi h3 x5 7 1).bind fun x6 =>
  (pG (pIs h3 a 11)).bind fun _ =>
  (f_126 a x6 h3).bind fun (x9, h8) =>
  (pG (pIs h8 x1 1)).bind fun _ =>
  (f_13 x1 x4 x9 h8).bind fun h11 =>
  (pFr h11 a 11 8).bind fun x12 =>
  (pFi h11 x12 1 7).bind fun x13 =>
  (if x13 = (-1) then
  some ((-2), h11)
  else
  (pFr h11 a 11 1).bind fun x15 =>
  (pG (pIs h11 x15 5)).bind fun _ =>
  (f_50 x15 h11).bind fun h17 =>
  (pFr h17 a 11 1).bind fun x18 =>
  (pFr h17 a 11 8).bind fun x19 =>
  (pFi h17 x19 1 10).bind fun x20 =>
  (pG (pIs h17 x18 5)).bind fun _ =>
  (f_51 x18 ((x20 : Int32).toInt64) h17).bind fun h22 =>
  (pFr h22 a 11 1).bind fun x23 =>
  (pFr h22 a 11 8).bind fun x24 =>
  (pFi h22 x24 1 8).bind fun x25 =>
  (pG (pIs h22 x23 5)).bind fun _ =>
  (f_51 x23 ((x25 : Int32).toInt64) h22).bind fun h27 =>
  (pFr h27 a 11 8).bind fun x28 =>
  (pFi h27 x28 1 7).bind fun x29 =>
  some (x29, h27))
set_option maxHeartbeats 4000000 in
theorem e_130 (d : Nat) (Q : Option Value → xH → Prop)  {h : xH} {a : Nat} {x : Int32} {h1 : xH} (H : f_130  a h = some (x, h1)) (hq : Q (some (.int x)) h1) : Wp (d + 6) 130 0 [some (.ref a)] [] h Q := by
  unfold f_130 at H
  refine wp_aload_n xi_130 dX11_leave_0 rfl ?_
  obtain ⟨x1, gx1, H⟩ := Option.bind_eq_some_iff.mp H
  refine wq_getfr xi_130 dX11_leave_1 xf_11_64 gx1 ?_
  refine wp_aload_n xi_130 dX11_leave_4 rfl ?_
  obtain ⟨u2, gu2, H⟩ := Option.bind_eq_some_iff.mp H
  obtain ⟨⟨x4, h3⟩, gh3, H⟩ := Option.bind_eq_some_iff.mp H
  dsimp only at H
  refine wq_callV (a := a) (as := []) (r := [.ref x1]) (v1 := (some (.ref x4))) xi_130 xi_125 dX11_leave_5 xm_11_280 rfl (Nat.le_of_ble_eq_true rfl) (pG_ok gu2) ⟨(Nat.le_of_ble_eq_true rfl), (Nat.le_of_ble_eq_true rfl)⟩ rfl nofun (e_125 (d + 4) _ gh3 ⟨rfl, rfl⟩) ?_
  change Wp _ _ _ _ [.ref x4, .ref x1] _ _
  refine wp_aload_n xi_130 dX11_leave_8 rfl ?_
  refine wp_aload_n xi_130 dX11_leave_9 rfl ?_
  obtain ⟨x5, gx5, H⟩ := Option.bind_eq_some_iff.mp H
  refine wq_getfr xi_130 dX11_leave_10 xf_11_26 gx5 ?_
  obtain ⟨x6, gx6, H⟩ := Option.bind_eq_some_iff.mp H
  refine wq_getfi xi_130 dX11_leave_13 xf_11_159 gx6 ?_
  obtain ⟨u7, gu7, H⟩ := Option.bind_eq_some_iff.mp H
  obtain ⟨⟨x9, h8⟩, gh8, H⟩ := Option.bind_eq_some_iff.mp H
  dsimp only at H
  refine wq_callV (a := a) (as := [.int x6]) (r := [.ref x4, .ref x1]) (v1 := (some (.int x9))) xi_130 xi_126 dX11_leave_16 xm_11_307 rfl (Nat.le_of_ble_eq_true rfl) (pG_ok gu7) ⟨(Nat.le_of_ble_eq_true rfl), (Nat.le_of_ble_eq_true rfl)⟩ rfl nofun (e_126 (d + 4) _ gh8 ⟨rfl, rfl⟩) ?_
  change Wp _ _ _ _ [.int x9, .ref x4, .ref x1] _ _
  obtain ⟨u10, gu10, H⟩ := Option.bind_eq_some_iff.mp H
  obtain ⟨h11, gh11, H⟩ := Option.bind_eq_some_iff.mp H
  refine wq_callV (a := x1) (as := [.ref x4, .int x9]) (r := []) (v1 := none) xi_130 xi_13 dX11_leave_19 xm_11_330 rfl (Nat.le_of_ble_eq_true rfl) (pG_ok gu10) ⟨(Nat.le_of_ble_eq_true rfl), (Nat.le_of_ble_eq_true rfl)⟩ rfl nofun (e_13 d _ gh11 ⟨rfl, rfl⟩) ?_
  change Wp _ _ _ _ [] _ _
  refine wp_aload_n xi_130 dX11_leave_22 rfl ?_
  obtain ⟨x12, gx12, H⟩ := Option.bind_eq_some_iff.mp H
  refine wq_getfr xi_130 dX11_leave_23 xf_11_64 gx12 ?_
  obtain ⟨x13, gx13, H⟩ := Option.bind_eq_some_iff.mp H
  refine wq_getfi xi_130 dX11_leave_26 xf_11_321 gx13 ?_
  refine wp_iconst (-1) xi_130 dX11_leave_29 rfl ?_
  refine wp_icmp_ne 36 xi_130 dX11_leave_30 rfl (fun c14 => ?_) (fun c14 => ?_)
  · rw [if_neg c14] at H
    refine wp_aload_n xi_130 dX11_leave_36 rfl ?_
    obtain ⟨x15, gx15, H⟩ := Option.bind_eq_some_iff.mp H
    refine wq_getfr xi_130 dX11_leave_37 xf_11_19 gx15 ?_
    obtain ⟨u16, gu16, H⟩ := Option.bind_eq_some_iff.mp H
    obtain ⟨h17, gh17, H⟩ := Option.bind_eq_some_iff.mp H
    refine wq_callV (a := x15) (as := []) (r := []) (v1 := none) xi_130 xi_50 dX11_leave_40 xm_11_244 rfl (Nat.le_of_ble_eq_true rfl) (pG_ok gu16) ⟨(Nat.le_of_ble_eq_true rfl), (Nat.le_of_ble_eq_true rfl)⟩ rfl nofun (e_50 (d + 5) _ gh17 ⟨rfl, rfl⟩) ?_
    change Wp _ _ _ _ [] _ _
    refine wp_aload_n xi_130 dX11_leave_43 rfl ?_
    obtain ⟨x18, gx18, H⟩ := Option.bind_eq_some_iff.mp H
    refine wq_getfr xi_130 dX11_leave_44 xf_11_19 gx18 ?_
    refine wp_aload_n xi_130 dX11_leave_47 rfl ?_
    obtain ⟨x19, gx19, H⟩ := Option.bind_eq_some_iff.mp H
    refine wq_getfr xi_130 dX11_leave_48 xf_11_64 gx19 ?_
    obtain ⟨x20, gx20, H⟩ := Option.bind_eq_some_iff.mp H
    refine wq_getfi xi_130 dX11_leave_51 xf_11_333 gx20 ?_
    refine wp_i2l xi_130 dX11_leave_54 ?_
    obtain ⟨u21, gu21, H⟩ := Option.bind_eq_some_iff.mp H
    obtain ⟨h22, gh22, H⟩ := Option.bind_eq_some_iff.mp H
    refine wq_callV (a := x18) (as := [.long ((x20 : Int32).toInt64)]) (r := []) (v1 := none) xi_130 xi_51 dX11_leave_55 xm_11_248 rfl (Nat.le_of_ble_eq_true rfl) (pG_ok gu21) ⟨(Nat.le_of_ble_eq_true rfl), (Nat.le_of_ble_eq_true rfl)⟩ rfl nofun (e_51 (d + 5) _ gh22 ⟨rfl, rfl⟩) ?_
    change Wp _ _ _ _ [] _ _
    refine wp_aload_n xi_130 dX11_leave_58 rfl ?_
    obtain ⟨x23, gx23, H⟩ := Option.bind_eq_some_iff.mp H
    refine wq_getfr xi_130 dX11_leave_59 xf_11_19 gx23 ?_
    refine wp_aload_n xi_130 dX11_leave_62 rfl ?_
    obtain ⟨x24, gx24, H⟩ := Option.bind_eq_some_iff.mp H
    refine wq_getfr xi_130 dX11_leave_63 xf_11_64 gx24 ?_
    obtain ⟨x25, gx25, H⟩ := Option.bind_eq_some_iff.mp H
    refine wq_getfi xi_130 dX11_leave_66 xf_11_324 gx25 ?_
    refine wp_i2l xi_130 dX11_leave_69 ?_
    obtain ⟨u26, gu26, H⟩ := Option.bind_eq_some_iff.mp H
    obtain ⟨h27, gh27, H⟩ := Option.bind_eq_some_iff.mp H
    refine wq_callV (a := x23) (as := [.long ((x25 : Int32).toInt64)]) (r := []) (v1 := none) xi_130 xi_51 dX11_leave_70 xm_11_248 rfl (Nat.le_of_ble_eq_true rfl) (pG_ok gu26) ⟨(Nat.le_of_ble_eq_true rfl), (Nat.le_of_ble_eq_true rfl)⟩ rfl nofun (e_51 (d + 5) _ gh27 ⟨rfl, rfl⟩) ?_
    change Wp _ _ _ _ [] _ _
    refine wp_aload_n xi_130 dX11_leave_73 rfl ?_
    obtain ⟨x28, gx28, H⟩ := Option.bind_eq_some_iff.mp H
    refine wq_getfr xi_130 dX11_leave_74 xf_11_64 gx28 ?_
    obtain ⟨x29, gx29, H⟩ := Option.bind_eq_some_iff.mp H
    refine wq_getfi xi_130 dX11_leave_77 xf_11_321 gx29 ?_
    obtain ⟨rfl, rfl⟩ := oi2 H
    exact wp_iret xi_130 dX11_leave_80 hq
  · rw [if_pos c14] at H
    refine wp_bipush (-2) xi_130 dX11_leave_33 rfl ?_
    obtain ⟨rfl, rfl⟩ := oi2 H
    exact wp_iret xi_130 dX11_leave_35 hq
/- FelledHasLost.where(I)I -/
def f_131  (a : Nat) (p0 : Int32) (h : xH) : Option (Int32 × xH) :=
  (pFr h a 11 2).bind fun x1 =>
  (pFr h x1 7 0).bind fun x2 =>
  (pG (pIs h x2 10)).bind fun _ =>
  (f_90 x2 p0 h).bind fun (x5, h4) =>
  (if x5 = 0 then
  some ((-1), h4)
  else
  (pFr h4 a 11 8).bind fun x7 =>
  (pG (pIs h4 a 11)).bind fun _ =>
  (f_125 a h4).bind fun (x10, h9) =>
  (pG (pIs h9 x7 1)).bind fun _ =>
  (f_14 x7 x10 p0 h9).bind fun h12 =>
  (pFr h12 a 11 8).bind fun x13 =>
  (pFi h12 x13 1 7).bind fun x14 =>
  (if x14 = (-1) then
  some ((-2), h12)
  else
  (pFr h12 a 11 1).bind fun x16 =>
  (pG (pIs h12 x16 5)).bind fun _ =>
  (f_50 x16 h12).bind fun h18 =>
  (pFr h18 a 11 1).bind fun x19 =>
  (pFr h18 a 11 8).bind fun x20 =>
  (pFi h18 x20 1 10).bind fun x21 =>
  (pG (pIs h18 x19 5)).bind fun _ =>
  (f_51 x19 ((x21 : Int32).toInt64) h18).bind fun h23 =>
  (pFr h23 a 11 8).bind fun x24 =>
  (pFi h23 x24 1 7).bind fun x25 =>
  some (x25, h23)))
set_option maxHeartbeats 4000000 in
theorem e_131 (d : Nat) (Q : Option Value → xH → Prop)  {h : xH} {a : Nat} {p0 : Int32} {x : Int32} {h1 : xH} (H : f_131  a p0 h = some (x, h1)) (hq : Q (some (.int x)) h1) : Wp (d + 5) 131 0 [some (.ref a), some (.int p0)] [] h Q := by
  unfold f_131 at H
  refine wp_aload_n xi_131 dX11_where_0 rfl ?_
  obtain ⟨x1, gx1, H⟩ := Option.bind_eq_some_iff.mp H
  refine wq_getfr xi_131 dX11_where_1 xf_11_26 gx1 ?_
  obtain ⟨x2, gx2, H⟩ := Option.bind_eq_some_iff.mp H
  refine wq_getfr xi_131 dX11_where_4 xf_11_132 gx2 ?_
  refine wp_iload_n xi_131 dX11_where_7 rfl ?_
  obtain ⟨u3, gu3, H⟩ := Option.bind_eq_some_iff.mp H
  obtain ⟨⟨x5, h4⟩, gh4, H⟩ := Option.bind_eq_some_iff.mp H
  dsimp only at H
  refine wq_callV (a := x2) (as := [.int p0]) (r := []) (v1 := (some (.int x5))) xi_131 xi_90 dX11_where_8 xm_11_165 rfl (Nat.le_of_ble_eq_true rfl) (pG_ok gu3) ⟨(Nat.le_of_ble_eq_true rfl), (Nat.le_of_ble_eq_true rfl)⟩ rfl nofun (e_90 (d + 4) _ gh4 ⟨rfl, rfl⟩) ?_
  change Wp _ _ _ _ [.int x5] _ _
  refine wp_if_ne 16 xi_131 dX11_where_11 rfl (fun c6 => ?_) (fun c6 => ?_)
  · rw [if_neg c6] at H
    refine wp_aload_n xi_131 dX11_where_16 rfl ?_
    obtain ⟨x7, gx7, H⟩ := Option.bind_eq_some_iff.mp H
    refine wq_getfr xi_131 dX11_where_17 xf_11_64 gx7 ?_
    refine wp_aload_n xi_131 dX11_where_20 rfl ?_
    obtain ⟨u8, gu8, H⟩ := Option.bind_eq_some_iff.mp H
    obtain ⟨⟨x10, h9⟩, gh9, H⟩ := Option.bind_eq_some_iff.mp H
    dsimp only at H
    refine wq_callV (a := a) (as := []) (r := [.ref x7]) (v1 := (some (.ref x10))) xi_131 xi_125 dX11_where_21 xm_11_280 rfl (Nat.le_of_ble_eq_true rfl) (pG_ok gu8) ⟨(Nat.le_of_ble_eq_true rfl), (Nat.le_of_ble_eq_true rfl)⟩ rfl nofun (e_125 (d + 3) _ gh9 ⟨rfl, rfl⟩) ?_
    change Wp _ _ _ _ [.ref x10, .ref x7] _ _
    refine wp_iload_n xi_131 dX11_where_24 rfl ?_
    obtain ⟨u11, gu11, H⟩ := Option.bind_eq_some_iff.mp H
    obtain ⟨h12, gh12, H⟩ := Option.bind_eq_some_iff.mp H
    refine wq_callV (a := x7) (as := [.ref x10, .int p0]) (r := []) (v1 := none) xi_131 xi_14 dX11_where_25 xm_11_336 rfl (Nat.le_of_ble_eq_true rfl) (pG_ok gu11) ⟨(Nat.le_of_ble_eq_true rfl), (Nat.le_of_ble_eq_true rfl)⟩ rfl nofun (e_14 d _ gh12 ⟨rfl, rfl⟩) ?_
    change Wp _ _ _ _ [] _ _
    refine wp_aload_n xi_131 dX11_where_28 rfl ?_
    obtain ⟨x13, gx13, H⟩ := Option.bind_eq_some_iff.mp H
    refine wq_getfr xi_131 dX11_where_29 xf_11_64 gx13 ?_
    obtain ⟨x14, gx14, H⟩ := Option.bind_eq_some_iff.mp H
    refine wq_getfi xi_131 dX11_where_32 xf_11_321 gx14 ?_
    refine wp_iconst (-1) xi_131 dX11_where_35 rfl ?_
    refine wp_icmp_ne 42 xi_131 dX11_where_36 rfl (fun c15 => ?_) (fun c15 => ?_)
    · rw [if_neg c15] at H
      refine wp_aload_n xi_131 dX11_where_42 rfl ?_
      obtain ⟨x16, gx16, H⟩ := Option.bind_eq_some_iff.mp H
      refine wq_getfr xi_131 dX11_where_43 xf_11_19 gx16 ?_
      obtain ⟨u17, gu17, H⟩ := Option.bind_eq_some_iff.mp H
      obtain ⟨h18, gh18, H⟩ := Option.bind_eq_some_iff.mp H
      refine wq_callV (a := x16) (as := []) (r := []) (v1 := none) xi_131 xi_50 dX11_where_46 xm_11_244 rfl (Nat.le_of_ble_eq_true rfl) (pG_ok gu17) ⟨(Nat.le_of_ble_eq_true rfl), (Nat.le_of_ble_eq_true rfl)⟩ rfl nofun (e_50 (d + 4) _ gh18 ⟨rfl, rfl⟩) ?_
      change Wp _ _ _ _ [] _ _
      refine wp_aload_n xi_131 dX11_where_49 rfl ?_
      obtain ⟨x19, gx19, H⟩ := Option.bind_eq_some_iff.mp H
      refine wq_getfr xi_131 dX11_where_50 xf_11_19 gx19 ?_
      refine wp_aload_n xi_131 dX11_where_53 rfl ?_
      obtain ⟨x20, gx20, H⟩ := Option.bind_eq_some_iff.mp H
      refine wq_getfr xi_131 dX11_where_54 xf_11_64 gx20 ?_
      obtain ⟨x21, gx21, H⟩ := Option.bind_eq_some_iff.mp H
      refine wq_getfi xi_131 dX11_where_57 xf_11_333 gx21 ?_
      refine wp_i2l xi_131 dX11_where_60 ?_
      obtain ⟨u22, gu22, H⟩ := Option.bind_eq_some_iff.mp H
      obtain ⟨h23, gh23, H⟩ := Option.bind_eq_some_iff.mp H
      refine wq_callV (a := x19) (as := [.long ((x21 : Int32).toInt64)]) (r := []) (v1 := none) xi_131 xi_51 dX11_where_61 xm_11_248 rfl (Nat.le_of_ble_eq_true rfl) (pG_ok gu22) ⟨(Nat.le_of_ble_eq_true rfl), (Nat.le_of_ble_eq_true rfl)⟩ rfl nofun (e_51 (d + 4) _ gh23 ⟨rfl, rfl⟩) ?_
      change Wp _ _ _ _ [] _ _
      refine wp_aload_n xi_131 dX11_where_64 rfl ?_
      obtain ⟨x24, gx24, H⟩ := Option.bind_eq_some_iff.mp H
      refine wq_getfr xi_131 dX11_where_65 xf_11_64 gx24 ?_
      obtain ⟨x25, gx25, H⟩ := Option.bind_eq_some_iff.mp H
      refine wq_getfi xi_131 dX11_where_68 xf_11_321 gx25 ?_
      obtain ⟨rfl, rfl⟩ := oi2 H
      exact wp_iret xi_131 dX11_where_71 hq
    · rw [if_pos c15] at H
      refine wp_bipush (-2) xi_131 dX11_where_39 rfl ?_
      obtain ⟨rfl, rfl⟩ := oi2 H
      exact wp_iret xi_131 dX11_where_41 hq
  · rw [if_pos c6] at H
    refine wp_iconst (-1) xi_131 dX11_where_14 rfl ?_
    obtain ⟨rfl, rfl⟩ := oi2 H
    exact wp_iret xi_131 dX11_where_15 hq
/- FelledHasLost.move(I)I -/
def f_132  (a : Nat) (p0 : Int32) (h : xH) : Option (Int32 × xH) :=
  (pG (pIs h a 11)).bind fun _ =>
  (f_125 a h).bind fun (x3, h2) =>
  (pG (pIs h2 x3 10)).bind fun _ =>
  (f_102 x3 p0 h2).bind fun (x6, h5) =>
  (if x6 = 0 then
  some ((-2), h5)
  else
  (pFr h5 a 11 3).bind fun x8 =>
  (pFr h5 a 11 2).bind fun x9 =>
  (pG (pIs h5 x8 3)).bind fun _ =>
  (f_43 x8 x9 h5).bind fun h11 =>
  (pG (pIs h11 a 11)).bind fun _ =>
  (f_133 a p0 h11).bind fun h13 =>
  (pFr h13 a 11 2).bind fun x14 =>
  (pG (pIs h13 x14 7)).bind fun _ =>
  (f_68 x14 h13).bind fun (x17, h16) =>
  ((if x17 = 0 then
  some (1)
  else
  some (0) : Option (Int32))).bind fun (w19 : Int32) =>
  some (w19, h16))
set_option maxHeartbeats 4000000 in
theorem e_132 (d : Nat) (Q : Option Value → xH → Prop)  {h : xH} {a : Nat} {p0 : Int32} {x : Int32} {h1 : xH} (H : f_132  a p0 h = some (x, h1)) (hq : Q (some (.int x)) h1) : Wp (d + 4) 132 0 [some (.ref a), some (.int p0)] [] h Q := by
  unfold f_132 at H
  refine wp_aload_n xi_132 dX11_move_0 rfl ?_
  obtain ⟨u1, gu1, H⟩ := Option.bind_eq_some_iff.mp H
  obtain ⟨⟨x3, h2⟩, gh2, H⟩ := Option.bind_eq_some_iff.mp H
  dsimp only at H
  refine wq_callV (a := a) (as := []) (r := []) (v1 := (some (.ref x3))) xi_132 xi_125 dX11_move_1 xm_11_280 rfl (Nat.le_of_ble_eq_true rfl) (pG_ok gu1) ⟨(Nat.le_of_ble_eq_true rfl), (Nat.le_of_ble_eq_true rfl)⟩ rfl nofun (e_125 (d + 2) _ gh2 ⟨rfl, rfl⟩) ?_
  change Wp _ _ _ _ [.ref x3] _ _
  refine wp_iload_n xi_132 dX11_move_4 rfl ?_
  obtain ⟨u4, gu4, H⟩ := Option.bind_eq_some_iff.mp H
  obtain ⟨⟨x6, h5⟩, gh5, H⟩ := Option.bind_eq_some_iff.mp H
  dsimp only at H
  refine wq_callV (a := x3) (as := [.int p0]) (r := []) (v1 := (some (.int x6))) xi_132 xi_102 dX11_move_5 xm_11_300 rfl (Nat.le_of_ble_eq_true rfl) (pG_ok gu4) ⟨(Nat.le_of_ble_eq_true rfl), (Nat.le_of_ble_eq_true rfl)⟩ rfl nofun (e_102 (d + 1) _ gh5 ⟨rfl, rfl⟩) ?_
  change Wp _ _ _ _ [.int x6] _ _
  refine wp_if_ne 14 xi_132 dX11_move_8 rfl (fun c7 => ?_) (fun c7 => ?_)
  · rw [if_neg c7] at H
    refine wp_aload_n xi_132 dX11_move_14 rfl ?_
    obtain ⟨x8, gx8, H⟩ := Option.bind_eq_some_iff.mp H
    refine wq_getfr xi_132 dX11_move_15 xf_11_33 gx8 ?_
    refine wp_aload_n xi_132 dX11_move_18 rfl ?_
    obtain ⟨x9, gx9, H⟩ := Option.bind_eq_some_iff.mp H
    refine wq_getfr xi_132 dX11_move_19 xf_11_26 gx9 ?_
    obtain ⟨u10, gu10, H⟩ := Option.bind_eq_some_iff.mp H
    obtain ⟨h11, gh11, H⟩ := Option.bind_eq_some_iff.mp H
    refine wq_callV (a := x8) (as := [.ref x9]) (r := []) (v1 := none) xi_132 xi_43 dX11_move_22 xm_11_339 rfl (Nat.le_of_ble_eq_true rfl) (pG_ok gu10) ⟨(Nat.le_of_ble_eq_true rfl), (Nat.le_of_ble_eq_true rfl)⟩ rfl nofun (e_43 (d + 1) _ gh11 ⟨rfl, rfl⟩) ?_
    change Wp _ _ _ _ [] _ _
    refine wp_aload_n xi_132 dX11_move_25 rfl ?_
    refine wp_iload_n xi_132 dX11_move_26 rfl ?_
    obtain ⟨u12, gu12, H⟩ := Option.bind_eq_some_iff.mp H
    obtain ⟨h13, gh13, H⟩ := Option.bind_eq_some_iff.mp H
    refine wq_callV (a := a) (as := [.int p0]) (r := []) (v1 := none) xi_132 xi_133 dX11_move_27 xm_11_343 rfl (Nat.le_of_ble_eq_true rfl) (pG_ok gu12) ⟨(Nat.le_of_ble_eq_true rfl), (Nat.le_of_ble_eq_true rfl)⟩ rfl nofun (e_133 d _ gh13 ⟨rfl, rfl⟩) ?_
    change Wp _ _ _ _ [] _ _
    refine wp_aload_n xi_132 dX11_move_30 rfl ?_
    obtain ⟨x14, gx14, H⟩ := Option.bind_eq_some_iff.mp H
    refine wq_getfr xi_132 dX11_move_31 xf_11_26 gx14 ?_
    obtain ⟨u15, gu15, H⟩ := Option.bind_eq_some_iff.mp H
    obtain ⟨⟨x17, h16⟩, gh16, H⟩ := Option.bind_eq_some_iff.mp H
    dsimp only at H
    refine wq_callV (a := x14) (as := []) (r := []) (v1 := (some (.int x17))) xi_132 xi_68 dX11_move_34 xm_11_273 rfl (Nat.le_of_ble_eq_true rfl) (pG_ok gu15) ⟨(Nat.le_of_ble_eq_true rfl), (Nat.le_of_ble_eq_true rfl)⟩ rfl nofun (e_68 (d + 3) _ gh16 ⟨rfl, rfl⟩) ?_
    change Wp _ _ _ _ [.int x17] _ _
    obtain ⟨w19, G21, H⟩ := Option.bind_eq_some_iff.mp H
    have K20 : Wp (d + 4) 132 45 [some (.ref a), some (.int p0)] [.int w19] h16 Q := by
      obtain ⟨rfl, rfl⟩ := oi2 H
      exact wp_iret xi_132 dX11_move_45 hq
    clear H
    have H := G21
    clear G21
    refine wp_if_eq 44 xi_132 dX11_move_37 rfl (fun c18 => ?_) (fun c18 => ?_)
    · rw [if_pos c18] at H
      refine wp_iconst 1 xi_132 dX11_move_44 rfl ?_
      obtain rfl := Option.some.inj H
      exact Wp.more (by simp [xMore, Value.category]) K20
    · rw [if_neg c18] at H
      refine wp_iconst 0 xi_132 dX11_move_40 rfl ?_
      refine wp_goto 45 xi_132 dX11_move_41 rfl ?_
      obtain rfl := Option.some.inj H
      exact Wp.more (by simp [xMore, Value.category]) K20
  · rw [if_pos c7] at H
    refine wp_bipush (-2) xi_132 dX11_move_11 rfl ?_
    obtain ⟨rfl, rfl⟩ := oi2 H
    exact wp_iret xi_132 dX11_move_13 hq
/- FelledHasLost.play()I -/
def f_134_59  : Nat → Nat → Int32 → Int32 → Int32 → xH → Option (Int32 × Int32 × xH)
  | 0, _, _, _, _, _ => none
  | n + 1, a0, a2, a3, a4, h =>
  (pFr h a0 11 11).bind fun x1 =>
  (pFi h x1 4 1).bind fun x2 =>
  (if x2 ≤ a4 then
  some (a2, a3, h)
  else
  (if a3 = 0 then
  (pFr h a0 11 2).bind fun x5 =>
  (pG (pIs h x5 7)).bind fun _ =>
  (f_68 x5 h).bind fun (x8, h7) =>
  (if x8 = 0 then
  (pFr h7 a0 11 11).bind fun x10 =>
  (pFr h7 x10 4 0).bind fun x11 =>
  (pAi h7 x11 a4).bind fun x12 =>
  (pFr h7 a0 11 2).bind fun x13 =>
  (pFr h7 x13 7 0).bind fun x14 =>
  (pG (pIs h7 x14 10)).bind fun _ =>
  (f_102 x14 x12 h7).bind fun (x17, h16) =>
  ((if x17 = 0 then
  some (1)
  else
  some (0) : Option (Int32))).bind fun (w19 : Int32) =>
  ((if w19 = 0 then
  ((if a2 = 0 then
  (pFr h16 a0 11 3).bind fun x46 =>
  (pFr h16 a0 11 2).bind fun x47 =>
  (pG (pIs h16 x46 3)).bind fun _ =>
  (f_43 x46 x47 h16).bind fun h49 =>
  some (h49)
  else
  some (h16) : Option (xH))).bind fun (h44 : xH) =>
  (pG (pIs h44 a0 11)).bind fun _ =>
  (f_133 a0 x12 h44).bind fun h51 =>
  some ((a2 + 1), h51)
  else
  some (a2, h16) : Option (Int32 × xH))).bind fun (w36, h37) =>
  f_134_59 n a0 w36 w19 (a4 + 1) h37
  else
  some (a2, a3, h7))
  else
  some (a2, a3, h)))
theorem ef_134_59 (d : Nat) (Q : Option Value → xH → Prop)  : ∀ (n : Nat) (a0 : Nat) (a2 : Int32) (a3 : Int32) (a4 : Int32) (h : xH) (r : Int32 × Int32 × xH), f_134_59 n a0 a2 a3 a4 h = some r → (∀ (w2 : Int32) (w3 : Int32) (h1 : xH), r = (w2, w3, h1) → Wp (d + 4) 134 152 [some (.ref a0), none, some (.int w2), some (.int w3), none, none] [] h1 Q) → Wp (d + 4) 134 59 [some (.ref a0), none, some (.int a2), some (.int a3), some (.int a4), none] [] h Q := by
  intro n
  induction n with
  | zero =>
    intro a0 a2 a3 a4 h r H
    cases H
  | succ n ih =>
    intro a0 a2 a3 a4 h r H KE
    unfold f_134_59 at H
    refine wp_iload xi_134 dX11_play_59 rfl ?_
    refine wp_aload_n xi_134 dX11_play_61 rfl ?_
    obtain ⟨x1, gx1, H⟩ := Option.bind_eq_some_iff.mp H
    refine wq_getfr xi_134 dX11_play_62 xf_11_87 gx1 ?_
    obtain ⟨x2, gx2, H⟩ := Option.bind_eq_some_iff.mp H
    refine wq_getfi xi_134 dX11_play_65 xf_11_358 gx2 ?_
    refine wp_icmp_ge 152 xi_134 dX11_play_68 rfl (fun c3 => ?_) (fun c3 => ?_)
    · rw [if_pos c3] at H
      obtain rfl := Option.some.inj H
      exact Wp.more (by simp [xMore, Value.category]) (KE a2 a3 h rfl)
    · rw [if_neg c3] at H
      refine wp_iload_n xi_134 dX11_play_71 rfl ?_
      refine wp_if_ne 152 xi_134 dX11_play_72 rfl (fun c4 => ?_) (fun c4 => ?_)
      · rw [if_neg c4] at H
        obtain rfl := Option.some.inj H
        exact Wp.more (by simp [xMore, Value.category]) (KE a2 a3 h rfl)
      · rw [if_pos c4] at H
        refine wp_aload_n xi_134 dX11_play_75 rfl ?_
        obtain ⟨x5, gx5, H⟩ := Option.bind_eq_some_iff.mp H
        refine wq_getfr xi_134 dX11_play_76 xf_11_26 gx5 ?_
        obtain ⟨u6, gu6, H⟩ := Option.bind_eq_some_iff.mp H
        obtain ⟨⟨x8, h7⟩, gh7, H⟩ := Option.bind_eq_some_iff.mp H
        dsimp only at H
        refine wq_callV (a := x5) (as := []) (r := []) (v1 := (some (.int x8))) xi_134 xi_68 dX11_play_79 xm_11_273 rfl (Nat.le_of_ble_eq_true rfl) (pG_ok gu6) ⟨(Nat.le_of_ble_eq_true rfl), (Nat.le_of_ble_eq_true rfl)⟩ rfl nofun (e_68 (d + 3) _ gh7 ⟨rfl, rfl⟩) ?_
        change Wp _ _ _ _ [.int x8] _ _
        refine wp_if_ne 152 xi_134 dX11_play_82 rfl (fun c9 => ?_) (fun c9 => ?_)
        · rw [if_neg c9] at H
          obtain rfl := Option.some.inj H
          exact Wp.more (by simp [xMore, Value.category]) (KE a2 a3 h7 rfl)
        · rw [if_pos c9] at H
          refine wp_aload_n xi_134 dX11_play_85 rfl ?_
          obtain ⟨x10, gx10, H⟩ := Option.bind_eq_some_iff.mp H
          refine wq_getfr xi_134 dX11_play_86 xf_11_87 gx10 ?_
          obtain ⟨x11, gx11, H⟩ := Option.bind_eq_some_iff.mp H
          refine wq_getfr xi_134 dX11_play_89 xf_11_361 gx11 ?_
          refine wp_iload xi_134 dX11_play_92 rfl ?_
          obtain ⟨x12, gx12, H⟩ := Option.bind_eq_some_iff.mp H
          refine wq_iaload xi_134 dX11_play_94 gx12 ?_
          refine wp_istore [some (.ref a0), none, some (.int a2), some (.int a3), some (.int a4), some (.int x12)] xi_134 dX11_play_95 rfl ?_
          refine wp_aload_n xi_134 dX11_play_97 rfl ?_
          obtain ⟨x13, gx13, H⟩ := Option.bind_eq_some_iff.mp H
          refine wq_getfr xi_134 dX11_play_98 xf_11_26 gx13 ?_
          obtain ⟨x14, gx14, H⟩ := Option.bind_eq_some_iff.mp H
          refine wq_getfr xi_134 dX11_play_101 xf_11_132 gx14 ?_
          refine wp_iload xi_134 dX11_play_104 rfl ?_
          obtain ⟨u15, gu15, H⟩ := Option.bind_eq_some_iff.mp H
          obtain ⟨⟨x17, h16⟩, gh16, H⟩ := Option.bind_eq_some_iff.mp H
          dsimp only at H
          refine wq_callV (a := x14) (as := [.int x12]) (r := []) (v1 := (some (.int x17))) xi_134 xi_102 dX11_play_106 xm_11_300 rfl (Nat.le_of_ble_eq_true rfl) (pG_ok gu15) ⟨(Nat.le_of_ble_eq_true rfl), (Nat.le_of_ble_eq_true rfl)⟩ rfl nofun (e_102 (d + 1) _ gh16 ⟨rfl, rfl⟩) ?_
          change Wp _ _ _ _ [.int x17] _ _
          obtain ⟨w19, G54, H⟩ := Option.bind_eq_some_iff.mp H
          have K20 : Wp (d + 4) 134 117 [some (.ref a0), none, some (.int a2), some (.int a3), some (.int a4), some (.int x12)] [.int w19] h16 Q := by
            refine wp_istore_n [some (.ref a0), none, some (.int a2), some (.int w19), some (.int a4), some (.int x12)] xi_134 dX11_play_117 rfl ?_
            refine wp_iload_n xi_134 dX11_play_118 rfl ?_
            obtain ⟨⟨w36, h37⟩, G53, H⟩ := Option.bind_eq_some_iff.mp H
            dsimp only at H
            have K38 : Wp (d + 4) 134 146 [some (.ref a0), none, some (.int w36), some (.int w19), some (.int a4), some (.int x12)] [] h37 Q := by
              refine wp_iinc (a4 + 1) [some (.ref a0), none, some (.int w36), some (.int w19), some (.int (a4 + 1)), some (.int x12)] xi_134 dX11_play_146 rfl rfl rfl ?_
              refine wp_goto 59 xi_134 dX11_play_149 rfl ?_
              exact Wp.more (by simp [xMore, Value.category]) (ih a0 w36 w19 (a4 + 1) h37 _ H KE)
            clear H
            have H := G53
            clear G53
            refine wp_if_ne 146 xi_134 dX11_play_119 rfl (fun c21 => ?_) (fun c21 => ?_)
            · rw [if_neg c21] at H
              simp only [Option.some.injEq, Prod.mk.injEq] at H
              obtain ⟨rfl, rfl⟩ := H
              exact Wp.more (by simp [xMore, Value.category]) K38
            · rw [if_pos c21] at H
              refine wp_iload_n xi_134 dX11_play_122 rfl ?_
              obtain ⟨h44, G52, H⟩ := Option.bind_eq_some_iff.mp H
              have K45 : Wp (d + 4) 134 137 [some (.ref a0), none, some (.int a2), some (.int w19), some (.int a4), some (.int x12)] [] h44 Q := by
                refine wp_aload_n xi_134 dX11_play_137 rfl ?_
                refine wp_iload xi_134 dX11_play_138 rfl ?_
                obtain ⟨u50, gu50, H⟩ := Option.bind_eq_some_iff.mp H
                obtain ⟨h51, gh51, H⟩ := Option.bind_eq_some_iff.mp H
                refine wq_callV (a := a0) (as := [.int x12]) (r := []) (v1 := none) xi_134 xi_133 dX11_play_140 xm_11_343 rfl (Nat.le_of_ble_eq_true rfl) (pG_ok gu50) ⟨(Nat.le_of_ble_eq_true rfl), (Nat.le_of_ble_eq_true rfl)⟩ rfl nofun (e_133 d _ gh51 ⟨rfl, rfl⟩) ?_
                change Wp _ _ _ _ [] _ _
                refine wp_iinc (a2 + 1) [some (.ref a0), none, some (.int (a2 + 1)), some (.int w19), some (.int a4), some (.int x12)] xi_134 dX11_play_143 rfl rfl rfl ?_
                simp only [Option.some.injEq, Prod.mk.injEq] at H
                obtain ⟨rfl, rfl⟩ := H
                exact Wp.more (by simp [xMore, Value.category]) K38
              clear H
              have H := G52
              clear G52
              refine wp_if_ne 137 xi_134 dX11_play_123 rfl (fun c39 => ?_) (fun c39 => ?_)
              · rw [if_neg c39] at H
                obtain rfl := Option.some.inj H
                exact Wp.more (by simp [xMore, Value.category]) K45
              · rw [if_pos c39] at H
                refine wp_aload_n xi_134 dX11_play_126 rfl ?_
                obtain ⟨x46, gx46, H⟩ := Option.bind_eq_some_iff.mp H
                refine wq_getfr xi_134 dX11_play_127 xf_11_33 gx46 ?_
                refine wp_aload_n xi_134 dX11_play_130 rfl ?_
                obtain ⟨x47, gx47, H⟩ := Option.bind_eq_some_iff.mp H
                refine wq_getfr xi_134 dX11_play_131 xf_11_26 gx47 ?_
                obtain ⟨u48, gu48, H⟩ := Option.bind_eq_some_iff.mp H
                obtain ⟨h49, gh49, H⟩ := Option.bind_eq_some_iff.mp H
                refine wq_callV (a := x46) (as := [.ref x47]) (r := []) (v1 := none) xi_134 xi_43 dX11_play_134 xm_11_339 rfl (Nat.le_of_ble_eq_true rfl) (pG_ok gu48) ⟨(Nat.le_of_ble_eq_true rfl), (Nat.le_of_ble_eq_true rfl)⟩ rfl nofun (e_43 (d + 1) _ gh49 ⟨rfl, rfl⟩) ?_
                change Wp _ _ _ _ [] _ _
                obtain rfl := Option.some.inj H
                exact Wp.more (by simp [xMore, Value.category]) K45
          clear H
          have H := G54
          clear G54
          refine wp_if_ne 116 xi_134 dX11_play_109 rfl (fun c18 => ?_) (fun c18 => ?_)
          · rw [if_neg c18] at H
            refine wp_iconst 0 xi_134 dX11_play_116 rfl ?_
            obtain rfl := Option.some.inj H
            exact Wp.more (by simp [xMore, Value.category]) K20
          · rw [if_pos c18] at H
            refine wp_iconst 1 xi_134 dX11_play_112 rfl ?_
            refine wp_goto 117 xi_134 dX11_play_113 rfl ?_
            obtain rfl := Option.some.inj H
            exact Wp.more (by simp [xMore, Value.category]) K20
def f_134  (a : Nat) (h : xH) : Option (Int32 × xH) :=
  (pFr h a 11 11).bind fun x1 =>
  (pFr h a 11 0).bind fun x2 =>
  (pG (pIs h x1 4)).bind fun _ =>
  (f_46 x1 x2 h).bind fun (x5, h4) =>
  (pFr h4 a 11 0).bind fun x6 =>
  (pG (pIs h4 x6 8)).bind fun _ =>
  (f_75 x6 h4).bind fun h8 =>
  (if x5 = (-1) then
  (pFr h8 a 11 2).bind fun x10 =>
  (pG (pIs h8 x10 7)).bind fun _ =>
  (f_68 x10 h8).bind fun (x13, h12) =>
  ((if x13 = 0 then
  some (0)
  else
  (pFr h12 a 11 11).bind fun x20 =>
  (pFi h12 x20 4 1).bind fun x21 =>
  (if x21 ≤ 0 then
  some (0)
  else
  some (1)) : Option (Int32))).bind fun (w18 : Int32) =>
  (f_134_59 100000 a 0 w18 0 h12).bind fun (w24, w25, h23) =>
  (pFr h23 a 11 1).bind fun x28 =>
  (pG (pIs h23 x28 5)).bind fun _ =>
  (f_50 x28 h23).bind fun h30 =>
  (pFr h30 a 11 1).bind fun x31 =>
  ((if w25 = 0 then
  some ((0 : Int64))
  else
  some ((1 : Int64)) : Option (Int64))).bind fun (w33 : Int64) =>
  (pG (pIs h30 x31 5)).bind fun _ =>
  (f_51 x31 w33 h30).bind fun h36 =>
  (pFr h36 a 11 1).bind fun x37 =>
  (pFr h36 a 11 2).bind fun x38 =>
  (pG (pIs h36 x38 7)).bind fun _ =>
  (f_68 x38 h36).bind fun (x41, h40) =>
  ((if x41 = 0 then
  some ((0 : Int64))
  else
  some ((1 : Int64)) : Option (Int64))).bind fun (w43 : Int64) =>
  (pG (pIs h40 x37 5)).bind fun _ =>
  (f_51 x37 w43 h40).bind fun h46 =>
  some (w24, h46)
  else
  some (((-1) - x5), h8))
set_option maxHeartbeats 4000000 in
theorem e_134 (d : Nat) (Q : Option Value → xH → Prop)  {h : xH} {a : Nat} {x : Int32} {h1 : xH} (H : f_134  a h = some (x, h1)) (hq : Q (some (.int x)) h1) : Wp (d + 4) 134 0 [some (.ref a), none, none, none, none, none] [] h Q := by
  unfold f_134 at H
  refine wp_aload_n xi_134 dX11_play_0 rfl ?_
  obtain ⟨x1, gx1, H⟩ := Option.bind_eq_some_iff.mp H
  refine wq_getfr xi_134 dX11_play_1 xf_11_87 gx1 ?_
  refine wp_aload_n xi_134 dX11_play_4 rfl ?_
  obtain ⟨x2, gx2, H⟩ := Option.bind_eq_some_iff.mp H
  refine wq_getfr xi_134 dX11_play_5 xf_11_12 gx2 ?_
  obtain ⟨u3, gu3, H⟩ := Option.bind_eq_some_iff.mp H
  obtain ⟨⟨x5, h4⟩, gh4, H⟩ := Option.bind_eq_some_iff.mp H
  dsimp only at H
  refine wq_callV (a := x1) (as := [.ref x2]) (r := []) (v1 := (some (.int x5))) xi_134 xi_46 dX11_play_8 xm_11_357 rfl (Nat.le_of_ble_eq_true rfl) (pG_ok gu3) ⟨(Nat.le_of_ble_eq_true rfl), (Nat.le_of_ble_eq_true rfl)⟩ rfl nofun (e_46 d _ gh4 ⟨rfl, rfl⟩) ?_
  change Wp _ _ _ _ [.int x5] _ _
  refine wp_istore_n [some (.ref a), some (.int x5), none, none, none, none] xi_134 dX11_play_11 rfl ?_
  refine wp_aload_n xi_134 dX11_play_12 rfl ?_
  obtain ⟨x6, gx6, H⟩ := Option.bind_eq_some_iff.mp H
  refine wq_getfr xi_134 dX11_play_13 xf_11_12 gx6 ?_
  obtain ⟨u7, gu7, H⟩ := Option.bind_eq_some_iff.mp H
  obtain ⟨h8, gh8, H⟩ := Option.bind_eq_some_iff.mp H
  refine wq_callV (a := x6) (as := []) (r := []) (v1 := none) xi_134 xi_75 dX11_play_16 xm_11_146 rfl (Nat.le_of_ble_eq_true rfl) (pG_ok gu7) ⟨(Nat.le_of_ble_eq_true rfl), (Nat.le_of_ble_eq_true rfl)⟩ rfl nofun (e_75 (d + 3) _ gh8 ⟨rfl, rfl⟩) ?_
  change Wp _ _ _ _ [] _ _
  refine wp_iload_n xi_134 dX11_play_19 rfl ?_
  refine wp_iconst (-1) xi_134 dX11_play_20 rfl ?_
  refine wp_icmp_eq 28 xi_134 dX11_play_21 rfl (fun c9 => ?_) (fun c9 => ?_)
  · rw [if_pos c9] at H
    refine wp_iconst 0 xi_134 dX11_play_28 rfl ?_
    refine wp_istore_n [some (.ref a), some (.int x5), some (.int 0), none, none, none] xi_134 dX11_play_29 rfl ?_
    refine wp_aload_n xi_134 dX11_play_30 rfl ?_
    obtain ⟨x10, gx10, H⟩ := Option.bind_eq_some_iff.mp H
    refine wq_getfr xi_134 dX11_play_31 xf_11_26 gx10 ?_
    obtain ⟨u11, gu11, H⟩ := Option.bind_eq_some_iff.mp H
    obtain ⟨⟨x13, h12⟩, gh12, H⟩ := Option.bind_eq_some_iff.mp H
    dsimp only at H
    refine wq_callV (a := x10) (as := []) (r := []) (v1 := (some (.int x13))) xi_134 xi_68 dX11_play_34 xm_11_273 rfl (Nat.le_of_ble_eq_true rfl) (pG_ok gu11) ⟨(Nat.le_of_ble_eq_true rfl), (Nat.le_of_ble_eq_true rfl)⟩ rfl nofun (e_68 (d + 3) _ gh12 ⟨rfl, rfl⟩) ?_
    change Wp _ _ _ _ [.int x13] _ _
    obtain ⟨w18, G49, H⟩ := Option.bind_eq_some_iff.mp H
    have K19 : Wp (d + 4) 134 55 [some (.ref a), some (.int x5), some (.int 0), none, none, none] [.int w18] h12 Q := by
      refine wp_istore_n [some (.ref a), some (.int x5), some (.int 0), some (.int w18), none, none] xi_134 dX11_play_55 rfl ?_
      refine wp_iconst 0 xi_134 dX11_play_56 rfl ?_
      refine wp_istore [some (.ref a), some (.int x5), some (.int 0), some (.int w18), some (.int 0), none] xi_134 dX11_play_57 rfl ?_
      obtain ⟨⟨w24, w25, h23⟩, G26, H⟩ := Option.bind_eq_some_iff.mp H
      dsimp only at H
      refine Wp.more (by simp [xMore, Value.category]) (ef_134_59 d Q  100000 a 0 w18 0 h12 _ G26 (fun z0 z1 z2 e9 => ?_))
      cases e9
      refine wp_aload_n xi_134 dX11_play_152 rfl ?_
      obtain ⟨x28, gx28, H⟩ := Option.bind_eq_some_iff.mp H
      refine wq_getfr xi_134 dX11_play_153 xf_11_19 gx28 ?_
      obtain ⟨u29, gu29, H⟩ := Option.bind_eq_some_iff.mp H
      obtain ⟨h30, gh30, H⟩ := Option.bind_eq_some_iff.mp H
      refine wq_callV (a := x28) (as := []) (r := []) (v1 := none) xi_134 xi_50 dX11_play_156 xm_11_244 rfl (Nat.le_of_ble_eq_true rfl) (pG_ok gu29) ⟨(Nat.le_of_ble_eq_true rfl), (Nat.le_of_ble_eq_true rfl)⟩ rfl nofun (e_50 (d + 3) _ gh30 ⟨rfl, rfl⟩) ?_
      change Wp _ _ _ _ [] _ _
      refine wp_aload_n xi_134 dX11_play_159 rfl ?_
      obtain ⟨x31, gx31, H⟩ := Option.bind_eq_some_iff.mp H
      refine wq_getfr xi_134 dX11_play_160 xf_11_19 gx31 ?_
      refine wp_iload_n xi_134 dX11_play_163 rfl ?_
      obtain ⟨w33, G48, H⟩ := Option.bind_eq_some_iff.mp H
      have K34 : Wp (d + 4) 134 172 [some (.ref a), none, some (.int w24), some (.int w25), none, none] [.long w33, .ref x31] h30 Q := by
        obtain ⟨u35, gu35, H⟩ := Option.bind_eq_some_iff.mp H
        obtain ⟨h36, gh36, H⟩ := Option.bind_eq_some_iff.mp H
        refine wq_callV (a := x31) (as := [.long w33]) (r := []) (v1 := none) xi_134 xi_51 dX11_play_172 xm_11_248 rfl (Nat.le_of_ble_eq_true rfl) (pG_ok gu35) ⟨(Nat.le_of_ble_eq_true rfl), (Nat.le_of_ble_eq_true rfl)⟩ rfl nofun (e_51 (d + 3) _ gh36 ⟨rfl, rfl⟩) ?_
        change Wp _ _ _ _ [] _ _
        refine wp_aload_n xi_134 dX11_play_175 rfl ?_
        obtain ⟨x37, gx37, H⟩ := Option.bind_eq_some_iff.mp H
        refine wq_getfr xi_134 dX11_play_176 xf_11_19 gx37 ?_
        refine wp_aload_n xi_134 dX11_play_179 rfl ?_
        obtain ⟨x38, gx38, H⟩ := Option.bind_eq_some_iff.mp H
        refine wq_getfr xi_134 dX11_play_180 xf_11_26 gx38 ?_
        obtain ⟨u39, gu39, H⟩ := Option.bind_eq_some_iff.mp H
        obtain ⟨⟨x41, h40⟩, gh40, H⟩ := Option.bind_eq_some_iff.mp H
        dsimp only at H
        refine wq_callV (a := x38) (as := []) (r := [.ref x37]) (v1 := (some (.int x41))) xi_134 xi_68 dX11_play_183 xm_11_273 rfl (Nat.le_of_ble_eq_true rfl) (pG_ok gu39) ⟨(Nat.le_of_ble_eq_true rfl), (Nat.le_of_ble_eq_true rfl)⟩ rfl nofun (e_68 (d + 3) _ gh40 ⟨rfl, rfl⟩) ?_
        change Wp _ _ _ _ [.int x41, .ref x37] _ _
        obtain ⟨w43, G47, H⟩ := Option.bind_eq_some_iff.mp H
        have K44 : Wp (d + 4) 134 194 [some (.ref a), none, some (.int w24), some (.int w25), none, none] [.long w43, .ref x37] h40 Q := by
          obtain ⟨u45, gu45, H⟩ := Option.bind_eq_some_iff.mp H
          obtain ⟨h46, gh46, H⟩ := Option.bind_eq_some_iff.mp H
          refine wq_callV (a := x37) (as := [.long w43]) (r := []) (v1 := none) xi_134 xi_51 dX11_play_194 xm_11_248 rfl (Nat.le_of_ble_eq_true rfl) (pG_ok gu45) ⟨(Nat.le_of_ble_eq_true rfl), (Nat.le_of_ble_eq_true rfl)⟩ rfl nofun (e_51 (d + 3) _ gh46 ⟨rfl, rfl⟩) ?_
          change Wp _ _ _ _ [] _ _
          refine wp_iload_n xi_134 dX11_play_197 rfl ?_
          obtain ⟨rfl, rfl⟩ := oi2 H
          exact wp_iret xi_134 dX11_play_198 hq
        clear H
        have H := G47
        clear G47
        refine wp_if_eq 193 xi_134 dX11_play_186 rfl (fun c42 => ?_) (fun c42 => ?_)
        · rw [if_pos c42] at H
          refine wp_lconst 0 xi_134 dX11_play_193 rfl ?_
          obtain rfl := Option.some.inj H
          exact Wp.more (by simp [xMore, Value.category]) K44
        · rw [if_neg c42] at H
          refine wp_lconst 1 xi_134 dX11_play_189 rfl ?_
          refine wp_goto 194 xi_134 dX11_play_190 rfl ?_
          obtain rfl := Option.some.inj H
          exact Wp.more (by simp [xMore, Value.category]) K44
      clear H
      have H := G48
      clear G48
      refine wp_if_eq 171 xi_134 dX11_play_164 rfl (fun c32 => ?_) (fun c32 => ?_)
      · rw [if_pos c32] at H
        refine wp_lconst 0 xi_134 dX11_play_171 rfl ?_
        obtain rfl := Option.some.inj H
        exact Wp.more (by simp [xMore, Value.category]) K34
      · rw [if_neg c32] at H
        refine wp_lconst 1 xi_134 dX11_play_167 rfl ?_
        refine wp_goto 172 xi_134 dX11_play_168 rfl ?_
        obtain rfl := Option.some.inj H
        exact Wp.more (by simp [xMore, Value.category]) K34
    clear H
    have H := G49
    clear G49
    refine wp_if_eq 54 xi_134 dX11_play_37 rfl (fun c14 => ?_) (fun c14 => ?_)
    · rw [if_pos c14] at H
      refine wp_iconst 0 xi_134 dX11_play_54 rfl ?_
      obtain rfl := Option.some.inj H
      exact Wp.more (by simp [xMore, Value.category]) K19
    · rw [if_neg c14] at H
      refine wp_aload_n xi_134 dX11_play_40 rfl ?_
      obtain ⟨x20, gx20, H⟩ := Option.bind_eq_some_iff.mp H
      refine wq_getfr xi_134 dX11_play_41 xf_11_87 gx20 ?_
      obtain ⟨x21, gx21, H⟩ := Option.bind_eq_some_iff.mp H
      refine wq_getfi xi_134 dX11_play_44 xf_11_358 gx21 ?_
      refine wp_if_le 54 xi_134 dX11_play_47 rfl (fun c22 => ?_) (fun c22 => ?_)
      · rw [if_pos c22] at H
        refine wp_iconst 0 xi_134 dX11_play_54 rfl ?_
        obtain rfl := Option.some.inj H
        exact Wp.more (by simp [xMore, Value.category]) K19
      · rw [if_neg c22] at H
        refine wp_iconst 1 xi_134 dX11_play_50 rfl ?_
        refine wp_goto 55 xi_134 dX11_play_51 rfl ?_
        obtain rfl := Option.some.inj H
        exact Wp.more (by simp [xMore, Value.category]) K19
  · rw [if_neg c9] at H
    refine wp_iconst (-1) xi_134 dX11_play_24 rfl ?_
    refine wp_iload_n xi_134 dX11_play_25 rfl ?_
    refine wp_isub xi_134 dX11_play_26 ?_
    obtain ⟨rfl, rfl⟩ := oi2 H
    exact wp_iret xi_134 dX11_play_27 hq
