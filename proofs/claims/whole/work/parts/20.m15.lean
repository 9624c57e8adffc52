/- FelledHasLost.loser(I)I -/
def f_146_37  : Nat → Nat → Int32 → Int32 → Int32 → xH → Option ((Int32 × xH) ⊕ (Int32 × xH))
  | 0, _, _, _, _, _ => none
  | n + 1, a0, a1, a2, a3, h =>
  (if a1 ≤ a3 then
  some (.inl (a2, h))
  else
  (pFr h a0 11 2).bind fun x2 =>
  (pFi h x2 7 1).bind fun x3 =>
  (pG (pIs h a0 11)).bind fun _ =>
  (f_269 a0 (x3 + a3) h).bind fun (x6, h5) =>
  (pFr h5 a0 11 8).bind fun x7 =>
  (pFr h5 a0 11 13).bind fun x8 =>
  (pG (pIs h5 a0 11)).bind fun _ =>
  (f_126 a0 x6 h5).bind fun (x11, h10) =>
  (pG (pIs h10 x7 1)).bind fun _ =>
  (f_11 x7 x8 x11 h10).bind fun h13 =>
  (pFr h13 a0 11 8).bind fun x14 =>
  (pFi h13 x14 1 7).bind fun x15 =>
  (if x15 = (-1) then
  some (.inl (a2, h13))
  else
  (pFr h13 a0 11 8).bind fun x17 =>
  (pFi h13 x17 1 8).bind fun x18 =>
  (pDiv (a2 * x18) 100).bind fun x19 =>
  ((if x6 < 0 then
  some (h13)
  else
  (if (4 : Int32) ≤ x6 then
  some (h13)
  else
  (pFr h13 a0 11 15).bind fun x28 =>
  (pAi h13 x28 x6).bind fun x29 =>
  (pSi h13 x28 x6 (x29 + x19)).bind fun h30 =>
  some (h30)) : Option (xH))).bind fun (h25 : xH) =>
  (pFr h25 a0 11 13).bind fun x31 =>
  (pFr h25 a0 11 8).bind fun x32 =>
  (pFi h25 x32 1 7).bind fun x33 =>
  (pDiv x33 10).bind fun x34 =>
  (pFr h25 a0 11 13).bind fun x35 =>
  (pFr h25 a0 11 8).bind fun x36 =>
  (pFi h25 x36 1 7).bind fun x37 =>
  (pG (pIs h25 x35 10)).bind fun _ =>
  (f_103 x35 x37 h25).bind fun (x40, h39) =>
  (pG (pIs h39 x31 10)).bind fun _ =>
  (f_94 x31 x34 x40 h39).bind fun h42 =>
  f_146_37 n a0 a1 (a2 - x19) (a3 + 1) h42))
theorem ef_146_37 (d : Nat) (Q : Option Value → xH → Prop)  : ∀ (n : Nat) (a0 : Nat) (a1 : Int32) (a2 : Int32) (a3 : Int32) (h : xH) (r : (Int32 × xH) ⊕ (Int32 × xH)), f_146_37 n a0 a1 a2 a3 h = some r → (∀ (w2 : Int32) (h1 : xH), r = .inl (w2, h1) → Wp (d + 5) 146 167 [some (.ref a0), none, some (.int w2), none, none, none] [] h1 Q) → (∀ (x : Int32) (h1 : xH), r = .inr (x, h1) → Q (some (.int x)) h1) → Wp (d + 5) 146 37 [some (.ref a0), some (.int a1), some (.int a2), some (.int a3), none, none] [] h Q := by
  intro n
  induction n with
  | zero =>
    intro a0 a1 a2 a3 h r H
    cases H
  | succ n ih =>
    intro a0 a1 a2 a3 h r H KE KR
    unfold f_146_37 at H
    refine wp_iload_n xi_146 dX11_loser_37 rfl ?_
    refine wp_iload_n xi_146 dX11_loser_38 rfl ?_
    refine wp_icmp_ge 167 xi_146 dX11_loser_39 rfl (fun c1 => ?_) (fun c1 => ?_)
    · rw [if_pos c1] at H
      obtain rfl := Option.some.inj H
      exact Wp.more (by simp [xMore, Value.category]) (KE a2 h rfl)
    · rw [if_neg c1] at H
      refine wp_aload_n xi_146 dX11_loser_42 rfl ?_
      refine wp_aload_n xi_146 dX11_loser_43 rfl ?_
      obtain ⟨x2, gx2, H⟩ := Option.bind_eq_some_iff.mp H
      refine wq_getfr xi_146 dX11_loser_44 xf_11_26 gx2 ?_
      obtain ⟨x3, gx3, H⟩ := Option.bind_eq_some_iff.mp H
      refine wq_getfi xi_146 dX11_loser_47 xf_11_159 gx3 ?_
      refine wp_iload_n xi_146 dX11_loser_50 rfl ?_
      refine wp_iadd xi_146 dX11_loser_51 ?_
      obtain ⟨u4, gu4, H⟩ := Option.bind_eq_some_iff.mp H
      obtain ⟨⟨x6, h5⟩, gh5, H⟩ := Option.bind_eq_some_iff.mp H
      dsimp only at H
      refine wq_callV (a := a0) (as := [.int (x3 + a3)]) (r := []) (v1 := (some (.int x6))) xi_146 xi_269 dX11_loser_52 xm_11_277 rfl (Nat.le_of_ble_eq_true rfl) (pG_ok gu4) ⟨(Nat.le_of_ble_eq_true rfl), (Nat.le_of_ble_eq_true rfl)⟩ rfl nofun (e_269 (d + 4) _ gh5 ⟨rfl, rfl⟩) ?_
      change Wp _ _ _ _ [.int x6] _ _
      refine wp_istore [some (.ref a0), some (.int a1), some (.int a2), some (.int a3), some (.int x6), none] xi_146 dX11_loser_55 rfl ?_
      refine wp_aload_n xi_146 dX11_loser_57 rfl ?_
      obtain ⟨x7, gx7, H⟩ := Option.bind_eq_some_iff.mp H
      refine wq_getfr xi_146 dX11_loser_58 xf_11_64 gx7 ?_
      refine wp_aload_n xi_146 dX11_loser_61 rfl ?_
      obtain ⟨x8, gx8, H⟩ := Option.bind_eq_some_iff.mp H
      refine wq_getfr xi_146 dX11_loser_62 xf_11_98 gx8 ?_
      refine wp_aload_n xi_146 dX11_loser_65 rfl ?_
      refine wp_iload xi_146 dX11_loser_66 rfl ?_
      obtain ⟨u9, gu9, H⟩ := Option.bind_eq_some_iff.mp H
      obtain ⟨⟨x11, h10⟩, gh10, H⟩ := Option.bind_eq_some_iff.mp H
      dsimp only at H
      refine wq_callV (a := a0) (as := [.int x6]) (r := [.ref x8, .ref x7]) (v1 := (some (.int x11))) xi_146 xi_126 dX11_loser_68 xm_11_307 rfl (Nat.le_of_ble_eq_true rfl) (pG_ok gu9) ⟨(Nat.le_of_ble_eq_true rfl), (Nat.le_of_ble_eq_true rfl)⟩ rfl nofun (e_126 (d + 3) _ gh10 ⟨rfl, rfl⟩) ?_
      change Wp _ _ _ _ [.int x11, .ref x8, .ref x7] _ _
      obtain ⟨u12, gu12, H⟩ := Option.bind_eq_some_iff.mp H
      obtain ⟨h13, gh13, H⟩ := Option.bind_eq_some_iff.mp H
      refine wq_callV (a := x7) (as := [.ref x8, .int x11]) (r := []) (v1 := none) xi_146 xi_11 dX11_loser_71 xm_11_317 rfl (Nat.le_of_ble_eq_true rfl) (pG_ok gu12) ⟨(Nat.le_of_ble_eq_true rfl), (Nat.le_of_ble_eq_true rfl)⟩ rfl nofun (e_11 d _ gh13 ⟨rfl, rfl⟩) ?_
      change Wp _ _ _ _ [] _ _
      refine wp_aload_n xi_146 dX11_loser_74 rfl ?_
      obtain ⟨x14, gx14, H⟩ := Option.bind_eq_some_iff.mp H
      refine wq_getfr xi_146 dX11_loser_75 xf_11_64 gx14 ?_
      obtain ⟨x15, gx15, H⟩ := Option.bind_eq_some_iff.mp H
      refine wq_getfi xi_146 dX11_loser_78 xf_11_321 gx15 ?_
      refine wp_iconst (-1) xi_146 dX11_loser_81 rfl ?_
      refine wp_icmp_ne 88 xi_146 dX11_loser_82 rfl (fun c16 => ?_) (fun c16 => ?_)
      · rw [if_neg c16] at H
        refine wp_iload_n xi_146 dX11_loser_88 rfl ?_
        refine wp_aload_n xi_146 dX11_loser_89 rfl ?_
        obtain ⟨x17, gx17, H⟩ := Option.bind_eq_some_iff.mp H
        refine wq_getfr xi_146 dX11_loser_90 xf_11_64 gx17 ?_
        obtain ⟨x18, gx18, H⟩ := Option.bind_eq_some_iff.mp H
        refine wq_getfi xi_146 dX11_loser_93 xf_11_324 gx18 ?_
        refine wp_imul xi_146 dX11_loser_96 ?_
        refine wp_bipush 100 xi_146 dX11_loser_97 rfl ?_
        obtain ⟨x19, gx19, H⟩ := Option.bind_eq_some_iff.mp H
        refine wq_idiv xi_146 dX11_loser_99 gx19 ?_
        refine wp_istore [some (.ref a0), some (.int a1), some (.int a2), some (.int a3), some (.int x6), some (.int x19)] xi_146 dX11_loser_100 rfl ?_
        refine wp_iload xi_146 dX11_loser_102 rfl ?_
        obtain ⟨h25, G43, H⟩ := Option.bind_eq_some_iff.mp H
        have K26 : Wp (d + 5) 146 125 [some (.ref a0), some (.int a1), some (.int a2), some (.int a3), some (.int x6), some (.int x19)] [] h25 Q := by
          refine wp_iload_n xi_146 dX11_loser_125 rfl ?_
          refine wp_iload xi_146 dX11_loser_126 rfl ?_
          refine wp_isub xi_146 dX11_loser_128 ?_
          refine wp_istore_n [some (.ref a0), some (.int a1), some (.int (a2 - x19)), some (.int a3), some (.int x6), some (.int x19)] xi_146 dX11_loser_129 rfl ?_
          refine wp_aload_n xi_146 dX11_loser_130 rfl ?_
          obtain ⟨x31, gx31, H⟩ := Option.bind_eq_some_iff.mp H
          refine wq_getfr xi_146 dX11_loser_131 xf_11_98 gx31 ?_
          refine wp_aload_n xi_146 dX11_loser_134 rfl ?_
          obtain ⟨x32, gx32, H⟩ := Option.bind_eq_some_iff.mp H
          refine wq_getfr xi_146 dX11_loser_135 xf_11_64 gx32 ?_
          obtain ⟨x33, gx33, H⟩ := Option.bind_eq_some_iff.mp H
          refine wq_getfi xi_146 dX11_loser_138 xf_11_321 gx33 ?_
          refine wp_bipush 10 xi_146 dX11_loser_141 rfl ?_
          obtain ⟨x34, gx34, H⟩ := Option.bind_eq_some_iff.mp H
          refine wq_idiv xi_146 dX11_loser_143 gx34 ?_
          refine wp_aload_n xi_146 dX11_loser_144 rfl ?_
          obtain ⟨x35, gx35, H⟩ := Option.bind_eq_some_iff.mp H
          refine wq_getfr xi_146 dX11_loser_145 xf_11_98 gx35 ?_
          refine wp_aload_n xi_146 dX11_loser_148 rfl ?_
          obtain ⟨x36, gx36, H⟩ := Option.bind_eq_some_iff.mp H
          refine wq_getfr xi_146 dX11_loser_149 xf_11_64 gx36 ?_
          obtain ⟨x37, gx37, H⟩ := Option.bind_eq_some_iff.mp H
          refine wq_getfi xi_146 dX11_loser_152 xf_11_321 gx37 ?_
          obtain ⟨u38, gu38, H⟩ := Option.bind_eq_some_iff.mp H
          obtain ⟨⟨x40, h39⟩, gh39, H⟩ := Option.bind_eq_some_iff.mp H
          dsimp only at H
          refine wq_callV (a := x35) (as := [.int x37]) (r := [.int x34, .ref x31]) (v1 := (some (.int x40))) xi_146 xi_103 dX11_loser_155 xm_11_351 rfl (Nat.le_of_ble_eq_true rfl) (pG_ok gu38) ⟨(Nat.le_of_ble_eq_true rfl), (Nat.le_of_ble_eq_true rfl)⟩ rfl nofun (e_103 (d + 2) _ gh39 ⟨rfl, rfl⟩) ?_
          change Wp _ _ _ _ [.int x40, .int x34, .ref x31] _ _
          obtain ⟨u41, gu41, H⟩ := Option.bind_eq_some_iff.mp H
          obtain ⟨h42, gh42, H⟩ := Option.bind_eq_some_iff.mp H
          refine wq_callV (a := x31) (as := [.int x34, .int x40]) (r := []) (v1 := none) xi_146 xi_94 dX11_loser_158 xm_11_443 rfl (Nat.le_of_ble_eq_true rfl) (pG_ok gu41) ⟨(Nat.le_of_ble_eq_true rfl), (Nat.le_of_ble_eq_true rfl)⟩ rfl nofun (e_94 (d + 1) _ gh42 ⟨rfl, rfl⟩) ?_
          change Wp _ _ _ _ [] _ _
          refine wp_iinc (a3 + 1) [some (.ref a0), some (.int a1), some (.int (a2 - x19)), some (.int (a3 + 1)), some (.int x6), some (.int x19)] xi_146 dX11_loser_161 rfl rfl rfl ?_
          refine wp_goto 37 xi_146 dX11_loser_164 rfl ?_
          exact Wp.more (by simp [xMore, Value.category]) (ih a0 a1 (a2 - x19) (a3 + 1) h42 _ H KE KR)
        clear H
        have H := G43
        clear G43
        refine wp_if_lt 125 xi_146 dX11_loser_104 rfl (fun c20 => ?_) (fun c20 => ?_)
        · rw [if_pos c20] at H
          obtain rfl := Option.some.inj H
          exact Wp.more (by simp [xMore, Value.category]) K26
        · rw [if_neg c20] at H
          refine wp_iload xi_146 dX11_loser_107 rfl ?_
          refine wp_iconst 4 xi_146 dX11_loser_109 rfl ?_
          refine wp_icmp_ge 125 xi_146 dX11_loser_110 rfl (fun c27 => ?_) (fun c27 => ?_)
          · rw [if_pos c27] at H
            obtain rfl := Option.some.inj H
            exact Wp.more (by simp [xMore, Value.category]) K26
          · rw [if_neg c27] at H
            refine wp_aload_n xi_146 dX11_loser_113 rfl ?_
            obtain ⟨x28, gx28, H⟩ := Option.bind_eq_some_iff.mp H
            refine wq_getfr xi_146 dX11_loser_114 xf_11_105 gx28 ?_
            refine wp_iload xi_146 dX11_loser_117 rfl ?_
            refine wp_dup2 xi_146 dX11_loser_119 rfl rfl ?_
            obtain ⟨x29, gx29, H⟩ := Option.bind_eq_some_iff.mp H
            refine wq_iaload xi_146 dX11_loser_120 gx29 ?_
            refine wp_iload xi_146 dX11_loser_121 rfl ?_
            refine wp_iadd xi_146 dX11_loser_123 ?_
            obtain ⟨h30, gh30, H⟩ := Option.bind_eq_some_iff.mp H
            refine wq_iastore xi_146 dX11_loser_124 gh30 ?_
            obtain rfl := Option.some.inj H
            exact Wp.more (by simp [xMore, Value.category]) K26
      · rw [if_pos c16] at H
        refine wp_goto 167 xi_146 dX11_loser_85 rfl ?_
        obtain rfl := Option.some.inj H
        exact Wp.more (by simp [xMore, Value.category]) (KE a2 h13 rfl)
def f_146  (a : Nat) (p0 : Int32) (h : xH) : Option (Int32 × xH) :=
  (if p0 < 0 then
  some ((-1), h)
  else
  (if p0 ≤ 20 then
  (pFr h a 11 15).bind fun x3 =>
  (f_266 x3 0 h).bind fun h4 =>
  (pFr h4 a 11 13).bind fun x5 =>
  (pG (pIs h4 a 11)).bind fun _ =>
  (f_125 a h4).bind fun (x8, h7) =>
  (pG (pIs h7 x5 10)).bind fun _ =>
  (f_89 x5 x8 h7).bind fun h10 =>
  (f_146_37 100000 a p0 10000 0 h10).bind fun r15 => match r15 with
  | .inl (w12, h11) =>
  (pG (pIs h11 a 11)).bind fun _ =>
  (f_147 a w12 h11).bind fun (x18, h17) =>
  some (x18, h17)
  | .inr (x19, h20) => some (x19, h20)
  else
  some ((-1), h)))
set_option maxHeartbeats 4000000 in
theorem e_146 (d : Nat) (Q : Option Value → xH → Prop)  {h : xH} {a : Nat} {p0 : Int32} {x : Int32} {h1 : xH} (H : f_146  a p0 h = some (x, h1)) (hq : Q (some (.int x)) h1) : Wp (d + 5) 146 0 [some (.ref a), some (.int p0), none, none, none, none] [] h Q := by
  unfold f_146 at H
  refine wp_iload_n xi_146 dX11_loser_0 rfl ?_
  refine wp_if_lt 10 xi_146 dX11_loser_1 rfl (fun c1 => ?_) (fun c1 => ?_)
  · rw [if_pos c1] at H
    refine wp_iconst (-1) xi_146 dX11_loser_10 rfl ?_
    obtain ⟨rfl, rfl⟩ := oi2 H
    exact wp_iret xi_146 dX11_loser_11 hq
  · rw [if_neg c1] at H
    refine wp_iload_n xi_146 dX11_loser_4 rfl ?_
    refine wp_bipush 20 xi_146 dX11_loser_5 rfl ?_
    refine wp_icmp_le 12 xi_146 dX11_loser_7 rfl (fun c2 => ?_) (fun c2 => ?_)
    · rw [if_pos c2] at H
      refine wp_sipush 10000 xi_146 dX11_loser_12 rfl ?_
      refine wp_istore_n [some (.ref a), some (.int p0), some (.int 10000), none, none, none] xi_146 dX11_loser_15 rfl ?_
      refine wp_aload_n xi_146 dX11_loser_16 rfl ?_
      obtain ⟨x3, gx3, H⟩ := Option.bind_eq_some_iff.mp H
      refine wq_getfr xi_146 dX11_loser_17 xf_11_105 gx3 ?_
      refine wp_iconst 0 xi_146 dX11_loser_20 rfl ?_
      obtain ⟨h4, gh4, H⟩ := Option.bind_eq_some_iff.mp H
      refine wq_callS (as := [.ref x3, .int 0]) (r := []) (v1 := none) xi_146 xi_266 dX11_loser_21 xm_11_112 rfl (Nat.le_of_ble_eq_true rfl) ⟨(Nat.le_of_ble_eq_true rfl), (Nat.le_of_ble_eq_true rfl)⟩ rfl nofun (e_266 (d + 4) _ gh4 ⟨rfl, rfl⟩) ?_
      change Wp _ _ _ _ [] _ _
      refine wp_aload_n xi_146 dX11_loser_24 rfl ?_
      obtain ⟨x5, gx5, H⟩ := Option.bind_eq_some_iff.mp H
      refine wq_getfr xi_146 dX11_loser_25 xf_11_98 gx5 ?_
      refine wp_aload_n xi_146 dX11_loser_28 rfl ?_
      obtain ⟨u6, gu6, H⟩ := Option.bind_eq_some_iff.mp H
      obtain ⟨⟨x8, h7⟩, gh7, H⟩ := Option.bind_eq_some_iff.mp H
      dsimp only at H
      refine wq_callV (a := a) (as := []) (r := [.ref x5]) (v1 := (some (.ref x8))) xi_146 xi_125 dX11_loser_29 xm_11_280 rfl (Nat.le_of_ble_eq_true rfl) (pG_ok gu6) ⟨(Nat.le_of_ble_eq_true rfl), (Nat.le_of_ble_eq_true rfl)⟩ rfl nofun (e_125 (d + 3) _ gh7 ⟨rfl, rfl⟩) ?_
      change Wp _ _ _ _ [.ref x8, .ref x5] _ _
      obtain ⟨u9, gu9, H⟩ := Option.bind_eq_some_iff.mp H
      obtain ⟨h10, gh10, H⟩ := Option.bind_eq_some_iff.mp H
      refine wq_callV (a := x5) (as := [.ref x8]) (r := []) (v1 := none) xi_146 xi_89 dX11_loser_32 xm_11_440 rfl (Nat.le_of_ble_eq_true rfl) (pG_ok gu9) ⟨(Nat.le_of_ble_eq_true rfl), (Nat.le_of_ble_eq_true rfl)⟩ rfl nofun (e_89 (d + 4) _ gh10 ⟨rfl, rfl⟩) ?_
      change Wp _ _ _ _ [] _ _
      refine wp_iconst 0 xi_146 dX11_loser_35 rfl ?_
      refine wp_istore_n [some (.ref a), some (.int p0), some (.int 10000), some (.int 0), none, none] xi_146 dX11_loser_36 rfl ?_
      obtain ⟨r15, G13, H⟩ := Option.bind_eq_some_iff.mp H
      refine Wp.more (by simp [xMore, Value.category]) (ef_146_37 d Q  100000 a p0 10000 0 h10 _ G13 (fun z0 z1 e9 => ?_) (fun x1 h1 e9 => ?_))
      · subst e9
        dsimp only at H
        obtain ⟨w12, rfl⟩ : ∃ z, z = z0 := ⟨_, rfl⟩; obtain ⟨h11, rfl⟩ : ∃ z, z = z1 := ⟨_, rfl⟩
        refine wp_aload_n xi_146 dX11_loser_167 rfl ?_
        refine wp_iload_n xi_146 dX11_loser_168 rfl ?_
        obtain ⟨u16, gu16, H⟩ := Option.bind_eq_some_iff.mp H
        obtain ⟨⟨x18, h17⟩, gh17, H⟩ := Option.bind_eq_some_iff.mp H
        dsimp only at H
        refine wq_callV (a := a) (as := [.int w12]) (r := []) (v1 := (some (.int x18))) xi_146 xi_147 dX11_loser_169 xm_11_446 rfl (Nat.le_of_ble_eq_true rfl) (pG_ok gu16) ⟨(Nat.le_of_ble_eq_true rfl), (Nat.le_of_ble_eq_true rfl)⟩ rfl nofun (e_147 (d + 3) _ gh17 ⟨rfl, rfl⟩) ?_
        change Wp _ _ _ _ [.int x18] _ _
        obtain ⟨rfl, rfl⟩ := oi2 H
        exact wp_iret xi_146 dX11_loser_172 hq
      · subst e9
        dsimp only at H
        obtain ⟨rfl, rfl⟩ := oi2 H
        exact hq
    · rw [if_neg c2] at H
      refine wp_iconst (-1) xi_146 dX11_loser_10 rfl ?_
      obtain ⟨rfl, rfl⟩ := oi2 H
      exact wp_iret xi_146 dX11_loser_11 hq
/- FelledHasLost$Chooser.findLikeliest(LFelledHasLost$Tower;III)V -/
def f_15_15  : Nat → Nat → Nat → Int32 → Int32 → Int32 → Int32 → Int32 → Int32 → Int32 → xH → Option (Int32 × Int32 × xH)
  | 0, _, _, _, _, _, _, _, _, _, _ => none
  | n + 1, a0, a1, a2, a3, a4, a5, a6, a7, a8, h =>
  (if a5 ≤ a8 then
  some (a6, a7, h)
  else
  (pG (pIs h a0 1)).bind fun _ =>
  (f_7 a0 a1 a8 h).bind fun (x4, h3) =>
  ((if x4 = 0 then
  some (a6, a7, h3)
  else
  (pG (pIs h3 a0 1)).bind fun _ =>
  (f_9 a0 a1 a8 a2 h3).bind fun h31 =>
  (pG (pIs h31 a0 1)).bind fun _ =>
  (f_10 a0 0 h31).bind fun (x34, h33) =>
  (pG (pIs h33 a0 1)).bind fun _ =>
  (f_10 a0 1 h33).bind fun (x37, h36) =>
  ((if a4 = 2 then
  (pG (pIs h36 a0 1)).bind fun _ =>
  (f_16 a0 a1 a8 a3 h36).bind fun (x47, h46) =>
  some (((100 - (pMin x34 x37)) * x47), h46)
  else
  some ((100 - (pMin x34 x37)), h36) : Option (Int32 × xH))).bind fun (w42, h43) =>
  (if w42 ≤ a7 then
  some (a6, a7, h43)
  else
  some (a8, w42, h43)) : Option (Int32 × Int32 × xH))).bind fun (w26, w27, h28) =>
  f_15_15 n a0 a1 a2 a3 a4 a5 w26 w27 (a8 + 1) h28)
theorem ef_15_15 (d : Nat) (Q : Option Value → xH → Prop)  : ∀ (n : Nat) (a0 : Nat) (a1 : Nat) (a2 : Int32) (a3 : Int32) (a4 : Int32) (a5 : Int32) (a6 : Int32) (a7 : Int32) (a8 : Int32) (h : xH) (r : Int32 × Int32 × xH), f_15_15 n a0 a1 a2 a3 a4 a5 a6 a7 a8 h = some r → (∀ (w6 : Int32) (w7 : Int32) (h1 : xH), r = (w6, w7, h1) → Wp (d + 6) 15 98 [some (.ref a0), none, none, none, none, none, some (.int w6), some (.int w7), none, none] [] h1 Q) → Wp (d + 6) 15 15 [some (.ref a0), some (.ref a1), some (.int a2), some (.int a3), some (.int a4), some (.int a5), some (.int a6), some (.int a7), some (.int a8), none] [] h Q := by
  intro n
  induction n with
  | zero =>
    intro a0 a1 a2 a3 a4 a5 a6 a7 a8 h r H
    cases H
  | succ n ih =>
    intro a0 a1 a2 a3 a4 a5 a6 a7 a8 h r H KE
    unfold f_15_15 at H
    refine wp_iload xi_15 dX1_findLikeliest_15 rfl ?_
    refine wp_iload xi_15 dX1_findLikeliest_17 rfl ?_
    refine wp_icmp_ge 98 xi_15 dX1_findLikeliest_19 rfl (fun c1 => ?_) (fun c1 => ?_)
    · rw [if_pos c1] at H
      obtain rfl := Option.some.inj H
      exact Wp.more (by simp [xMore, Value.category]) (KE a6 a7 h rfl)
    · rw [if_neg c1] at H
      refine wp_aload_n xi_15 dX1_findLikeliest_22 rfl ?_
      refine wp_aload_n xi_15 dX1_findLikeliest_23 rfl ?_
      refine wp_iload xi_15 dX1_findLikeliest_24 rfl ?_
      obtain ⟨u2, gu2, H⟩ := Option.bind_eq_some_iff.mp H
      obtain ⟨⟨x4, h3⟩, gh3, H⟩ := Option.bind_eq_some_iff.mp H
      dsimp only at H
      refine wq_callV (a := a0) (as := [.ref a1, .int a8]) (r := []) (v1 := (some (.int x4))) xi_15 xi_7 dX1_findLikeliest_26 xm_1_66 rfl (Nat.le_of_ble_eq_true rfl) (pG_ok gu2) ⟨(Nat.le_of_ble_eq_true rfl), (Nat.le_of_ble_eq_true rfl)⟩ rfl nofun (e_7 (d + 2) _ gh3 ⟨rfl, rfl⟩) ?_
      change Wp _ _ _ _ [.int x4] _ _
      obtain ⟨⟨w26, w27, h28⟩, G50, H⟩ := Option.bind_eq_some_iff.mp H
      dsimp only at H
      have K29 : Wp (d + 6) 15 92 [some (.ref a0), some (.ref a1), some (.int a2), some (.int a3), some (.int a4), some (.int a5), some (.int w26), some (.int w27), some (.int a8), none] [] h28 Q := by
        refine wp_iinc (a8 + 1) [some (.ref a0), some (.ref a1), some (.int a2), some (.int a3), some (.int a4), some (.int a5), some (.int w26), some (.int w27), some (.int (a8 + 1)), none] xi_15 dX1_findLikeliest_92 rfl rfl rfl ?_
        refine wp_goto 15 xi_15 dX1_findLikeliest_95 rfl ?_
        exact Wp.more (by simp [xMore, Value.category]) (ih a0 a1 a2 a3 a4 a5 w26 w27 (a8 + 1) h28 _ H KE)
      clear H
      have H := G50
      clear G50
      refine wp_if_eq 92 xi_15 dX1_findLikeliest_29 rfl (fun c5 => ?_) (fun c5 => ?_)
      · rw [if_pos c5] at H
        simp only [Option.some.injEq, Prod.mk.injEq] at H
        obtain ⟨rfl, rfl, rfl⟩ := H
        exact Wp.more (by simp [xMore, Value.category]) K29
      · rw [if_neg c5] at H
        refine wp_aload_n xi_15 dX1_findLikeliest_32 rfl ?_
        refine wp_aload_n xi_15 dX1_findLikeliest_33 rfl ?_
        refine wp_iload xi_15 dX1_findLikeliest_34 rfl ?_
        refine wp_iload_n xi_15 dX1_findLikeliest_36 rfl ?_
        obtain ⟨u30, gu30, H⟩ := Option.bind_eq_some_iff.mp H
        obtain ⟨h31, gh31, H⟩ := Option.bind_eq_some_iff.mp H
        refine wq_callV (a := a0) (as := [.ref a1, .int a8, .int a2]) (r := []) (v1 := none) xi_15 xi_9 dX1_findLikeliest_37 xm_1_106 rfl (Nat.le_of_ble_eq_true rfl) (pG_ok gu30) ⟨(Nat.le_of_ble_eq_true rfl), (Nat.le_of_ble_eq_true rfl)⟩ rfl nofun (e_9 (d + 3) _ gh31 ⟨rfl, rfl⟩) ?_
        change Wp _ _ _ _ [] _ _
        refine wp_bipush 100 xi_15 dX1_findLikeliest_40 rfl ?_
        refine wp_aload_n xi_15 dX1_findLikeliest_42 rfl ?_
        refine wp_iconst 0 xi_15 dX1_findLikeliest_43 rfl ?_
        obtain ⟨u32, gu32, H⟩ := Option.bind_eq_some_iff.mp H
        obtain ⟨⟨x34, h33⟩, gh33, H⟩ := Option.bind_eq_some_iff.mp H
        dsimp only at H
        refine wq_callV (a := a0) (as := [.int 0]) (r := [.int 100]) (v1 := (some (.int x34))) xi_15 xi_10 dX1_findLikeliest_44 xm_1_113 rfl (Nat.le_of_ble_eq_true rfl) (pG_ok gu32) ⟨(Nat.le_of_ble_eq_true rfl), (Nat.le_of_ble_eq_true rfl)⟩ rfl nofun (e_10 (d + 3) _ gh33 ⟨rfl, rfl⟩) ?_
        change Wp _ _ _ _ [.int x34, .int 100] _ _
        refine wp_aload_n xi_15 dX1_findLikeliest_47 rfl ?_
        refine wp_iconst 1 xi_15 dX1_findLikeliest_48 rfl ?_
        obtain ⟨u35, gu35, H⟩ := Option.bind_eq_some_iff.mp H
        obtain ⟨⟨x37, h36⟩, gh36, H⟩ := Option.bind_eq_some_iff.mp H
        dsimp only at H
        refine wq_callV (a := a0) (as := [.int 1]) (r := [.int x34, .int 100]) (v1 := (some (.int x37))) xi_15 xi_10 dX1_findLikeliest_49 xm_1_113 rfl (Nat.le_of_ble_eq_true rfl) (pG_ok gu35) ⟨(Nat.le_of_ble_eq_true rfl), (Nat.le_of_ble_eq_true rfl)⟩ rfl nofun (e_10 (d + 3) _ gh36 ⟨rfl, rfl⟩) ?_
        change Wp _ _ _ _ [.int x37, .int x34, .int 100] _ _
        refine wq_min xi_15 dX1_findLikeliest_52 xm_1_94 (Nat.le_of_ble_eq_true rfl) ?_
        refine wp_isub xi_15 dX1_findLikeliest_55 ?_
        refine wp_istore [some (.ref a0), some (.ref a1), some (.int a2), some (.int a3), some (.int a4), some (.int a5), some (.int a6), some (.int a7), some (.int a8), some (.int (100 - (pMin x34 x37)))] xi_15 dX1_findLikeliest_56 rfl ?_
        refine wp_iload xi_15 dX1_findLikeliest_58 rfl ?_
        refine wp_iconst 2 xi_15 dX1_findLikeliest_60 rfl ?_
        obtain ⟨⟨w42, h43⟩, G49, H⟩ := Option.bind_eq_some_iff.mp H
        dsimp only at H
        have K44 : Wp (d + 6) 15 77 [some (.ref a0), some (.ref a1), some (.int a2), some (.int a3), some (.int a4), some (.int a5), some (.int a6), some (.int a7), some (.int a8), some (.int w42)] [] h43 Q := by
          refine wp_iload xi_15 dX1_findLikeliest_77 rfl ?_
          refine wp_iload xi_15 dX1_findLikeliest_79 rfl ?_
          refine wp_icmp_le 92 xi_15 dX1_findLikeliest_81 rfl (fun c48 => ?_) (fun c48 => ?_)
          · rw [if_pos c48] at H
            simp only [Option.some.injEq, Prod.mk.injEq] at H
            obtain ⟨rfl, rfl, rfl⟩ := H
            exact Wp.more (by simp [xMore, Value.category]) K29
          · rw [if_neg c48] at H
            refine wp_iload xi_15 dX1_findLikeliest_84 rfl ?_
            refine wp_istore [some (.ref a0), some (.ref a1), some (.int a2), some (.int a3), some (.int a4), some (.int a5), some (.int a6), some (.int w42), some (.int a8), some (.int w42)] xi_15 dX1_findLikeliest_86 rfl ?_
            refine wp_iload xi_15 dX1_findLikeliest_88 rfl ?_
            refine wp_istore [some (.ref a0), some (.ref a1), some (.int a2), some (.int a3), some (.int a4), some (.int a5), some (.int a8), some (.int w42), some (.int a8), some (.int w42)] xi_15 dX1_findLikeliest_90 rfl ?_
            simp only [Option.some.injEq, Prod.mk.injEq] at H
            obtain ⟨rfl, rfl, rfl⟩ := H
            exact Wp.more (by simp [xMore, Value.category]) K29
        clear H
        have H := G49
        clear G49
        refine wp_icmp_ne 77 xi_15 dX1_findLikeliest_61 rfl (fun c38 => ?_) (fun c38 => ?_)
        · rw [if_neg c38] at H
          simp only [Option.some.injEq, Prod.mk.injEq] at H
          obtain ⟨rfl, rfl⟩ := H
          exact Wp.more (by simp [xMore, Value.category]) K44
        · rw [if_pos c38] at H
          refine wp_iload xi_15 dX1_findLikeliest_64 rfl ?_
          refine wp_aload_n xi_15 dX1_findLikeliest_66 rfl ?_
          refine wp_aload_n xi_15 dX1_findLikeliest_67 rfl ?_
          refine wp_iload xi_15 dX1_findLikeliest_68 rfl ?_
          refine wp_iload_n xi_15 dX1_findLikeliest_70 rfl ?_
          obtain ⟨u45, gu45, H⟩ := Option.bind_eq_some_iff.mp H
          obtain ⟨⟨x47, h46⟩, gh46, H⟩ := Option.bind_eq_some_iff.mp H
          dsimp only at H
          refine wq_callV (a := a0) (as := [.ref a1, .int a8, .int a3]) (r := [.int (100 - (pMin x34 x37))]) (v1 := (some (.int x47))) xi_15 xi_16 dX1_findLikeliest_71 xm_1_135 rfl (Nat.le_of_ble_eq_true rfl) (pG_ok gu45) ⟨(Nat.le_of_ble_eq_true rfl), (Nat.le_of_ble_eq_true rfl)⟩ rfl nofun (e_16 d _ gh46 ⟨rfl, rfl⟩) ?_
          change Wp _ _ _ _ [.int x47, .int (100 - (pMin x34 x37))] _ _
          refine wp_imul xi_15 dX1_findLikeliest_74 ?_
          refine wp_istore [some (.ref a0), some (.ref a1), some (.int a2), some (.int a3), some (.int a4), some (.int a5), some (.int a6), some (.int a7), some (.int a8), some (.int ((100 - (pMin x34 x37)) * x47))] xi_15 dX1_findLikeliest_75 rfl ?_
          simp only [Option.some.injEq, Prod.mk.injEq] at H
          obtain ⟨rfl, rfl⟩ := H
          exact Wp.more (by simp [xMore, Value.category]) K44
def f_15  (a : Nat) (p0 : Nat) (p1 : Int32) (p2 : Int32) (p3 : Int32) (h : xH) : Option (xH) :=
  (pG (pIs h p0 10)).bind fun _ =>
  (f_101 p0 h).bind fun (x3, h2) =>
  (f_15_15 100000 a p0 p1 p2 p3 x3 (-1) 0 0 h2).bind fun (w5, w6, h4) =>
  (pP h4 a 1 7 (.int w5)).bind fun h9 =>
  (pP h9 a 1 10 (.int w6)).bind fun h10 =>
  some h10
set_option maxHeartbeats 4000000 in
theorem e_15 (d : Nat) (Q : Option Value → xH → Prop)  {h : xH} {a : Nat} {p0 : Nat} {p1 : Int32} {p2 : Int32} {p3 : Int32} {h1 : xH} (H : f_15  a p0 p1 p2 p3 h = some h1) (hq : Q none h1) : Wp (d + 6) 15 0 [some (.ref a), some (.ref p0), some (.int p1), some (.int p2), some (.int p3), none, none, none, none, none] [] h Q := by
  unfold f_15 at H
  refine wp_aload_n xi_15 dX1_findLikeliest_0 rfl ?_
  obtain ⟨u1, gu1, H⟩ := Option.bind_eq_some_iff.mp H
  obtain ⟨⟨x3, h2⟩, gh2, H⟩ := Option.bind_eq_some_iff.mp H
  dsimp only at H
  refine wq_callV (a := p0) (as := []) (r := []) (v1 := (some (.int x3))) xi_15 xi_101 dX1_findLikeliest_1 xm_1_49 rfl (Nat.le_of_ble_eq_true rfl) (pG_ok gu1) ⟨(Nat.le_of_ble_eq_true rfl), (Nat.le_of_ble_eq_true rfl)⟩ rfl nofun (e_101 (d + 5) _ gh2 ⟨rfl, rfl⟩) ?_
  change Wp _ _ _ _ [.int x3] _ _
  refine wp_istore [some (.ref a), some (.ref p0), some (.int p1), some (.int p2), some (.int p3), some (.int x3), none, none, none, none] xi_15 dX1_findLikeliest_4 rfl ?_
  refine wp_iconst (-1) xi_15 dX1_findLikeliest_6 rfl ?_
  refine wp_istore [some (.ref a), some (.ref p0), some (.int p1), some (.int p2), some (.int p3), some (.int x3), some (.int (-1)), none, none, none] xi_15 dX1_findLikeliest_7 rfl ?_
  refine wp_iconst 0 xi_15 dX1_findLikeliest_9 rfl ?_
  refine wp_istore [some (.ref a), some (.ref p0), some (.int p1), some (.int p2), some (.int p3), some (.int x3), some (.int (-1)), some (.int 0), none, none] xi_15 dX1_findLikeliest_10 rfl ?_
  refine wp_iconst 0 xi_15 dX1_findLikeliest_12 rfl ?_
  refine wp_istore [some (.ref a), some (.ref p0), some (.int p1), some (.int p2), some (.int p3), some (.int x3), some (.int (-1)), some (.int 0), some (.int 0), none] xi_15 dX1_findLikeliest_13 rfl ?_
  obtain ⟨⟨w5, w6, h4⟩, G7, H⟩ := Option.bind_eq_some_iff.mp H
  dsimp only at H
  refine Wp.more (by simp [xMore, Value.category]) (ef_15_15 d Q  100000 a p0 p1 p2 p3 x3 (-1) 0 0 h2 _ G7 (fun z0 z1 z2 e9 => ?_))
  cases e9
  refine wp_aload_n xi_15 dX1_findLikeliest_98 rfl ?_
  refine wp_iload xi_15 dX1_findLikeliest_99 rfl ?_
  obtain ⟨h9, gh9, H⟩ := Option.bind_eq_some_iff.mp H
  refine wq_putf xi_15 dX1_findLikeliest_101 xf_1_103 (Or.inl rfl) gh9 ?_
  refine wp_aload_n xi_15 dX1_findLikeliest_104 rfl ?_
  refine wp_iload xi_15 dX1_findLikeliest_105 rfl ?_
  obtain ⟨h10, gh10, H⟩ := Option.bind_eq_some_iff.mp H
  refine wq_putf xi_15 dX1_findLikeliest_107 xf_1_129 (Or.inl rfl) gh10 ?_
  obtain rfl := Option.some.inj H
  exact wp_vret xi_15 dX1_findLikeliest_110 hq
/- FelledHasLost$Games.expand(I)V -/
def f_19_15  : Nat → Nat → Int32 → Int32 → Int32 → xH → Option (xH)
  | 0, _, _, _, _, _ => none
  | n + 1, a0, a1, a2, a3, h =>
  (if a2 ≤ a3 then
  some (h)
  else
  (pFi h a0 2 15).bind fun x2 =>
  (if x2 = 0 then
  (pFr h a0 2 0).bind fun x4 =>
  (pFr h a0 2 1).bind fun x5 =>
  (pG (pIs h x4 1)).bind fun _ =>
  (f_7 x4 x5 a3 h).bind fun (x8, h7) =>
  ((if x8 = 0 then
  some (h7)
  else
  (pG (pIs h7 a0 2)).bind fun _ =>
  (f_20 a0 a1 a3 h7).bind fun h15 =>
  some (h15) : Option (xH))).bind fun (h12 : xH) =>
  f_19_15 n a0 a1 a2 (a3 + 1) h12
  else
  some (h)))
theorem ef_19_15 (d : Nat) (Q : Option Value → xH → Prop)  : ∀ (n : Nat) (a0 : Nat) (a1 : Int32) (a2 : Int32) (a3 : Int32) (h : xH) (r : xH), f_19_15 n a0 a1 a2 a3 h = some r → (∀  (h1 : xH), r = h1 → Wp (d + 4) 19 54 [none, none, none, none] [] h1 Q) → Wp (d + 4) 19 15 [some (.ref a0), some (.int a1), some (.int a2), some (.int a3)] [] h Q := by
  intro n
  induction n with
  | zero =>
    intro a0 a1 a2 a3 h r H
    cases H
  | succ n ih =>
    intro a0 a1 a2 a3 h r H KE
    unfold f_19_15 at H
    refine wp_iload_n xi_19 dX2_expand_15 rfl ?_
    refine wp_iload_n xi_19 dX2_expand_16 rfl ?_
    refine wp_icmp_ge 54 xi_19 dX2_expand_17 rfl (fun c1 => ?_) (fun c1 => ?_)
    · rw [if_pos c1] at H
      obtain rfl := Option.some.inj H
      exact Wp.more (by simp [xMore, Value.category]) (KE  h rfl)
    · rw [if_neg c1] at H
      refine wp_aload_n xi_19 dX2_expand_20 rfl ?_
      obtain ⟨x2, gx2, H⟩ := Option.bind_eq_some_iff.mp H
      refine wq_getfi xi_19 dX2_expand_21 xf_2_71 gx2 ?_
      refine wp_if_ne 54 xi_19 dX2_expand_24 rfl (fun c3 => ?_) (fun c3 => ?_)
      · rw [if_neg c3] at H
        obtain rfl := Option.some.inj H
        exact Wp.more (by simp [xMore, Value.category]) (KE  h rfl)
      · rw [if_pos c3] at H
        refine wp_aload_n xi_19 dX2_expand_27 rfl ?_
        obtain ⟨x4, gx4, H⟩ := Option.bind_eq_some_iff.mp H
        refine wq_getfr xi_19 dX2_expand_28 xf_2_54 gx4 ?_
        refine wp_aload_n xi_19 dX2_expand_31 rfl ?_
        obtain ⟨x5, gx5, H⟩ := Option.bind_eq_some_iff.mp H
        refine wq_getfr xi_19 dX2_expand_32 xf_2_12 gx5 ?_
        refine wp_iload_n xi_19 dX2_expand_35 rfl ?_
        obtain ⟨u6, gu6, H⟩ := Option.bind_eq_some_iff.mp H
        obtain ⟨⟨x8, h7⟩, gh7, H⟩ := Option.bind_eq_some_iff.mp H
        dsimp only at H
        refine wq_callV (a := x4) (as := [.ref x5, .int a3]) (r := []) (v1 := (some (.int x8))) xi_19 xi_7 dX2_expand_36 xm_2_100 rfl (Nat.le_of_ble_eq_true rfl) (pG_ok gu6) ⟨(Nat.le_of_ble_eq_true rfl), (Nat.le_of_ble_eq_true rfl)⟩ rfl nofun (e_7 d _ gh7 ⟨rfl, rfl⟩) ?_
        change Wp _ _ _ _ [.int x8] _ _
        obtain ⟨h12, G16, H⟩ := Option.bind_eq_some_iff.mp H
        have K13 : Wp (d + 4) 19 48 [some (.ref a0), some (.int a1), some (.int a2), some (.int a3)] [] h12 Q := by
          refine wp_iinc (a3 + 1) [some (.ref a0), some (.int a1), some (.int a2), some (.int (a3 + 1))] xi_19 dX2_expand_48 rfl rfl rfl ?_
          refine wp_goto 15 xi_19 dX2_expand_51 rfl ?_
          exact Wp.more (by simp [xMore, Value.category]) (ih a0 a1 a2 (a3 + 1) h12 _ H KE)
        clear H
        have H := G16
        clear G16
        refine wp_if_eq 48 xi_19 dX2_expand_39 rfl (fun c9 => ?_) (fun c9 => ?_)
        · rw [if_pos c9] at H
          obtain rfl := Option.some.inj H
          exact Wp.more (by simp [xMore, Value.category]) K13
        · rw [if_neg c9] at H
          refine wp_aload_n xi_19 dX2_expand_42 rfl ?_
          refine wp_iload_n xi_19 dX2_expand_43 rfl ?_
          refine wp_iload_n xi_19 dX2_expand_44 rfl ?_
          obtain ⟨u14, gu14, H⟩ := Option.bind_eq_some_iff.mp H
          obtain ⟨h15, gh15, H⟩ := Option.bind_eq_some_iff.mp H
          refine wq_callV (a := a0) (as := [.int a1, .int a3]) (r := []) (v1 := none) xi_19 xi_20 dX2_expand_45 xm_2_106 rfl (Nat.le_of_ble_eq_true rfl) (pG_ok gu14) ⟨(Nat.le_of_ble_eq_true rfl), (Nat.le_of_ble_eq_true rfl)⟩ rfl nofun (e_20 d _ gh15 ⟨rfl, rfl⟩) ?_
          change Wp _ _ _ _ [] _ _
          obtain rfl := Option.some.inj H
          exact Wp.more (by simp [xMore, Value.category]) K13
def f_19  (a : Nat) (p0 : Int32) (h : xH) : Option (xH) :=
  (pG (pIs h a 2)).bind fun _ =>
  (f_25 a p0 h).bind fun h2 =>
  (pFr h2 a 2 1).bind fun x3 =>
  (pG (pIs h2 x3 10)).bind fun _ =>
  (f_101 x3 h2).bind fun (x6, h5) =>
  (f_19_15 100000 a p0 x6 0 h5).bind fun h7 =>
  some h7
set_option maxHeartbeats 4000000 in
theorem e_19 (d : Nat) (Q : Option Value → xH → Prop)  {h : xH} {a : Nat} {p0 : Int32} {h1 : xH} (H : f_19  a p0 h = some h1) (hq : Q none h1) : Wp (d + 4) 19 0 [some (.ref a), some (.int p0), none, none] [] h Q := by
  unfold f_19 at H
  refine wp_aload_n xi_19 dX2_expand_0 rfl ?_
  refine wp_iload_n xi_19 dX2_expand_1 rfl ?_
  obtain ⟨u1, gu1, H⟩ := Option.bind_eq_some_iff.mp H
  obtain ⟨h2, gh2, H⟩ := Option.bind_eq_some_iff.mp H
  refine wq_callV (a := a) (as := [.int p0]) (r := []) (v1 := none) xi_19 xi_25 dX2_expand_2 xm_2_94 rfl (Nat.le_of_ble_eq_true rfl) (pG_ok gu1) ⟨(Nat.le_of_ble_eq_true rfl), (Nat.le_of_ble_eq_true rfl)⟩ rfl nofun (e_25 d _ gh2 ⟨rfl, rfl⟩) ?_
  change Wp _ _ _ _ [] _ _
  refine wp_aload_n xi_19 dX2_expand_5 rfl ?_
  obtain ⟨x3, gx3, H⟩ := Option.bind_eq_some_iff.mp H
  refine wq_getfr xi_19 dX2_expand_6 xf_2_12 gx3 ?_
  obtain ⟨u4, gu4, H⟩ := Option.bind_eq_some_iff.mp H
  obtain ⟨⟨x6, h5⟩, gh5, H⟩ := Option.bind_eq_some_iff.mp H
  dsimp only at H
  refine wq_callV (a := x3) (as := []) (r := []) (v1 := (some (.int x6))) xi_19 xi_101 dX2_expand_9 xm_2_97 rfl (Nat.le_of_ble_eq_true rfl) (pG_ok gu4) ⟨(Nat.le_of_ble_eq_true rfl), (Nat.le_of_ble_eq_true rfl)⟩ rfl nofun (e_101 (d + 3) _ gh5 ⟨rfl, rfl⟩) ?_
  change Wp _ _ _ _ [.int x6] _ _
  refine wp_istore_n [some (.ref a), some (.int p0), some (.int x6), none] xi_19 dX2_expand_12 rfl ?_
  refine wp_iconst 0 xi_19 dX2_expand_13 rfl ?_
  refine wp_istore_n [some (.ref a), some (.int p0), some (.int x6), some (.int 0)] xi_19 dX2_expand_14 rfl ?_
  obtain ⟨h7, G8, H⟩ := Option.bind_eq_some_iff.mp H
  refine Wp.more (by simp [xMore, Value.category]) (ef_19_15 d Q  100000 a p0 x6 0 h5 _ G8 (fun z0 e9 => ?_))
  cases e9
  obtain rfl := Option.some.inj H
  exact wp_vret xi_19 dX2_expand_54 hq
/- FelledHasLost.chance(I)I -/
def f_144  (a : Nat) (p0 : Int32) (h : xH) : Option (Int32 × xH) :=
  (if p0 < 0 then
  some ((-1), h)
  else
  (if p0 ≤ 2 then
  ((if p0 ≤ 0 then
  some (1, 1, (-1), h)
  else
  (pFr h a 11 8).bind fun x33 =>
  (pG (pIs h a 11)).bind fun _ =>
  (f_125 a h).bind fun (x36, h35) =>
  (pFr h35 a 11 2).bind fun x37 =>
  (pFi h35 x37 7 1).bind fun x38 =>
  (pG (pIs h35 a 11)).bind fun _ =>
  (f_126 a x38 h35).bind fun (x41, h40) =>
  (pFr h40 a 11 2).bind fun x42 =>
  (pFi h40 x42 7 1).bind fun x43 =>
  (pG (pIs h40 a 11)).bind fun _ =>
  (f_126 a (x43 + 1) h40).bind fun (x46, h45) =>
  (pG (pIs h45 x33 1)).bind fun _ =>
  (f_15 x33 x36 x41 x46 p0 h45).bind fun h48 =>
  (pFr h48 a 11 8).bind fun x49 =>
  (pFi h48 x49 1 10).bind fun x50 =>
  ((if p0 = 1 then
  some (100)
  else
  some (10000) : Option (Int32))).bind fun (w52 : Int32) =>
  (pFr h48 a 11 8).bind fun x54 =>
  (pFi h48 x54 1 7).bind fun x55 =>
  some (x50, w52, x55, h48) : Option (Int32 × Int32 × Int32 × xH))).bind fun (w28, w29, w30, h31) =>
  (f_145 w28 w29 h31).bind fun (x58, h57) =>
  (pFr h57 a 11 1).bind fun x59 =>
  (pG (pIs h57 x59 5)).bind fun _ =>
  (f_50 x59 h57).bind fun h61 =>
  (pFr h61 a 11 1).bind fun x62 =>
  (pDiv w28 x58).bind fun x63 =>
  (pG (pIs h61 x62 5)).bind fun _ =>
  (f_51 x62 ((x63 : Int32).toInt64) h61).bind fun h65 =>
  (pFr h65 a 11 1).bind fun x66 =>
  (pDiv w29 x58).bind fun x67 =>
  (pG (pIs h65 x66 5)).bind fun _ =>
  (f_51 x66 ((x67 : Int32).toInt64) h65).bind fun h69 =>
  (pFr h69 a 11 1).bind fun x70 =>
  (pG (pIs h69 x70 5)).bind fun _ =>
  (f_51 x70 ((w30 : Int32).toInt64) h69).bind fun h72 =>
  some (0, h72)
  else
  some ((-1), h)))
set_option maxHeartbeats 4000000 in
theorem e_144 (d : Nat) (Q : Option Value → xH → Prop)  {h : xH} {a : Nat} {p0 : Int32} {x : Int32} {h1 : xH} (H : f_144  a p0 h = some (x, h1)) (hq : Q (some (.int x)) h1) : Wp (d + 7) 144 0 [some (.ref a), some (.int p0), none, none, none, none] [] h Q := by
  unfold f_144 at H
  refine wp_iload_n xi_144 dX11_chance_0 rfl ?_
  refine wp_if_lt 9 xi_144 dX11_chance_1 rfl (fun c1 => ?_) (fun c1 => ?_)
  · rw [if_pos c1] at H
    refine wp_iconst (-1) xi_144 dX11_chance_9 rfl ?_
    obtain ⟨rfl, rfl⟩ := oi2 H
    exact wp_iret xi_144 dX11_chance_10 hq
  · rw [if_neg c1] at H
    refine wp_iload_n xi_144 dX11_chance_4 rfl ?_
    refine wp_iconst 2 xi_144 dX11_chance_5 rfl ?_
    refine wp_icmp_le 11 xi_144 dX11_chance_6 rfl (fun c2 => ?_) (fun c2 => ?_)
    · rw [if_pos c2] at H
      refine wp_iconst 1 xi_144 dX11_chance_11 rfl ?_
      refine wp_istore_n [some (.ref a), some (.int p0), some (.int 1), none, none, none] xi_144 dX11_chance_12 rfl ?_
      refine wp_iconst 1 xi_144 dX11_chance_13 rfl ?_
      refine wp_istore_n [some (.ref a), some (.int p0), some (.int 1), some (.int 1), none, none] xi_144 dX11_chance_14 rfl ?_
      refine wp_iconst (-1) xi_144 dX11_chance_15 rfl ?_
      refine wp_istore [some (.ref a), some (.int p0), some (.int 1), some (.int 1), some (.int (-1)), none] xi_144 dX11_chance_16 rfl ?_
      refine wp_iload_n xi_144 dX11_chance_18 rfl ?_
      obtain ⟨⟨w28, w29, w30, h31⟩, G73, H⟩ := Option.bind_eq_some_iff.mp H
      dsimp only at H
      have K32 : Wp (d + 7) 144 89 [some (.ref a), some (.int p0), some (.int w28), some (.int w29), some (.int w30), none] [] h31 Q := by
        refine wp_iload_n xi_144 dX11_chance_89 rfl ?_
        refine wp_iload_n xi_144 dX11_chance_90 rfl ?_
        obtain ⟨⟨x58, h57⟩, gh57, H⟩ := Option.bind_eq_some_iff.mp H
        dsimp only at H
        refine wq_callS (as := [.int w28, .int w29]) (r := []) (v1 := (some (.int x58))) xi_144 xi_145 dX11_chance_91 xm_11_432 rfl (Nat.le_of_ble_eq_true rfl) ⟨(Nat.le_of_ble_eq_true rfl), (Nat.le_of_ble_eq_true rfl)⟩ rfl nofun (e_145 (d + 6) _ gh57 ⟨rfl, rfl⟩) ?_
        change Wp _ _ _ _ [.int x58] _ _
        refine wp_istore [some (.ref a), some (.int p0), some (.int w28), some (.int w29), some (.int w30), some (.int x58)] xi_144 dX11_chance_94 rfl ?_
        refine wp_aload_n xi_144 dX11_chance_96 rfl ?_
        obtain ⟨x59, gx59, H⟩ := Option.bind_eq_some_iff.mp H
        refine wq_getfr xi_144 dX11_chance_97 xf_11_19 gx59 ?_
        obtain ⟨u60, gu60, H⟩ := Option.bind_eq_some_iff.mp H
        obtain ⟨h61, gh61, H⟩ := Option.bind_eq_some_iff.mp H
        refine wq_callV (a := x59) (as := []) (r := []) (v1 := none) xi_144 xi_50 dX11_chance_100 xm_11_244 rfl (Nat.le_of_ble_eq_true rfl) (pG_ok gu60) ⟨(Nat.le_of_ble_eq_true rfl), (Nat.le_of_ble_eq_true rfl)⟩ rfl nofun (e_50 (d + 6) _ gh61 ⟨rfl, rfl⟩) ?_
        change Wp _ _ _ _ [] _ _
        refine wp_aload_n xi_144 dX11_chance_103 rfl ?_
        obtain ⟨x62, gx62, H⟩ := Option.bind_eq_some_iff.mp H
        refine wq_getfr xi_144 dX11_chance_104 xf_11_19 gx62 ?_
        refine wp_iload_n xi_144 dX11_chance_107 rfl ?_
        refine wp_iload xi_144 dX11_chance_108 rfl ?_
        obtain ⟨x63, gx63, H⟩ := Option.bind_eq_some_iff.mp H
        refine wq_idiv xi_144 dX11_chance_110 gx63 ?_
        refine wp_i2l xi_144 dX11_chance_111 ?_
        obtain ⟨u64, gu64, H⟩ := Option.bind_eq_some_iff.mp H
        obtain ⟨h65, gh65, H⟩ := Option.bind_eq_some_iff.mp H
        refine wq_callV (a := x62) (as := [.long ((x63 : Int32).toInt64)]) (r := []) (v1 := none) xi_144 xi_51 dX11_chance_112 xm_11_248 rfl (Nat.le_of_ble_eq_true rfl) (pG_ok gu64) ⟨(Nat.le_of_ble_eq_true rfl), (Nat.le_of_ble_eq_true rfl)⟩ rfl nofun (e_51 (d + 6) _ gh65 ⟨rfl, rfl⟩) ?_
        change Wp _ _ _ _ [] _ _
        refine wp_aload_n xi_144 dX11_chance_115 rfl ?_
        obtain ⟨x66, gx66, H⟩ := Option.bind_eq_some_iff.mp H
        refine wq_getfr xi_144 dX11_chance_116 xf_11_19 gx66 ?_
        refine wp_iload_n xi_144 dX11_chance_119 rfl ?_
        refine wp_iload xi_144 dX11_chance_120 rfl ?_
        obtain ⟨x67, gx67, H⟩ := Option.bind_eq_some_iff.mp H
        refine wq_idiv xi_144 dX11_chance_122 gx67 ?_
        refine wp_i2l xi_144 dX11_chance_123 ?_
        obtain ⟨u68, gu68, H⟩ := Option.bind_eq_some_iff.mp H
        obtain ⟨h69, gh69, H⟩ := Option.bind_eq_some_iff.mp H
        refine wq_callV (a := x66) (as := [.long ((x67 : Int32).toInt64)]) (r := []) (v1 := none) xi_144 xi_51 dX11_chance_124 xm_11_248 rfl (Nat.le_of_ble_eq_true rfl) (pG_ok gu68) ⟨(Nat.le_of_ble_eq_true rfl), (Nat.le_of_ble_eq_true rfl)⟩ rfl nofun (e_51 (d + 6) _ gh69 ⟨rfl, rfl⟩) ?_
        change Wp _ _ _ _ [] _ _
        refine wp_aload_n xi_144 dX11_chance_127 rfl ?_
        obtain ⟨x70, gx70, H⟩ := Option.bind_eq_some_iff.mp H
        refine wq_getfr xi_144 dX11_chance_128 xf_11_19 gx70 ?_
        refine wp_iload xi_144 dX11_chance_131 rfl ?_
        refine wp_i2l xi_144 dX11_chance_133 ?_
        obtain ⟨u71, gu71, H⟩ := Option.bind_eq_some_iff.mp H
        obtain ⟨h72, gh72, H⟩ := Option.bind_eq_some_iff.mp H
        refine wq_callV (a := x70) (as := [.long ((w30 : Int32).toInt64)]) (r := []) (v1 := none) xi_144 xi_51 dX11_chance_134 xm_11_248 rfl (Nat.le_of_ble_eq_true rfl) (pG_ok gu71) ⟨(Nat.le_of_ble_eq_true rfl), (Nat.le_of_ble_eq_true rfl)⟩ rfl nofun (e_51 (d + 6) _ gh72 ⟨rfl, rfl⟩) ?_
        change Wp _ _ _ _ [] _ _
        refine wp_iconst 0 xi_144 dX11_chance_137 rfl ?_
        obtain ⟨rfl, rfl⟩ := oi2 H
        exact wp_iret xi_144 dX11_chance_138 hq
      clear H
      have H := G73
      clear G73
      refine wp_if_le 89 xi_144 dX11_chance_19 rfl (fun c3 => ?_) (fun c3 => ?_)
      · rw [if_pos c3] at H
        simp only [Option.some.injEq, Prod.mk.injEq] at H
        obtain ⟨rfl, rfl, rfl, rfl⟩ := H
        exact Wp.more (by simp [xMore, Value.category]) K32
      · rw [if_neg c3] at H
        refine wp_aload_n xi_144 dX11_chance_22 rfl ?_
        obtain ⟨x33, gx33, H⟩ := Option.bind_eq_some_iff.mp H
        refine wq_getfr xi_144 dX11_chance_23 xf_11_64 gx33 ?_
        refine wp_aload_n xi_144 dX11_chance_26 rfl ?_
        obtain ⟨u34, gu34, H⟩ := Option.bind_eq_some_iff.mp H
        obtain ⟨⟨x36, h35⟩, gh35, H⟩ := Option.bind_eq_some_iff.mp H
        dsimp only at H
        refine wq_callV (a := a) (as := []) (r := [.ref x33]) (v1 := (some (.ref x36))) xi_144 xi_125 dX11_chance_27 xm_11_280 rfl (Nat.le_of_ble_eq_true rfl) (pG_ok gu34) ⟨(Nat.le_of_ble_eq_true rfl), (Nat.le_of_ble_eq_true rfl)⟩ rfl nofun (e_125 (d + 5) _ gh35 ⟨rfl, rfl⟩) ?_
        change Wp _ _ _ _ [.ref x36, .ref x33] _ _
        refine wp_aload_n xi_144 dX11_chance_30 rfl ?_
        refine wp_aload_n xi_144 dX11_chance_31 rfl ?_
        obtain ⟨x37, gx37, H⟩ := Option.bind_eq_some_iff.mp H
        refine wq_getfr xi_144 dX11_chance_32 xf_11_26 gx37 ?_
        obtain ⟨x38, gx38, H⟩ := Option.bind_eq_some_iff.mp H
        refine wq_getfi xi_144 dX11_chance_35 xf_11_159 gx38 ?_
        obtain ⟨u39, gu39, H⟩ := Option.bind_eq_some_iff.mp H
        obtain ⟨⟨x41, h40⟩, gh40, H⟩ := Option.bind_eq_some_iff.mp H
        dsimp only at H
        refine wq_callV (a := a) (as := [.int x38]) (r := [.ref x36, .ref x33]) (v1 := (some (.int x41))) xi_144 xi_126 dX11_chance_38 xm_11_307 rfl (Nat.le_of_ble_eq_true rfl) (pG_ok gu39) ⟨(Nat.le_of_ble_eq_true rfl), (Nat.le_of_ble_eq_true rfl)⟩ rfl nofun (e_126 (d + 5) _ gh40 ⟨rfl, rfl⟩) ?_
        change Wp _ _ _ _ [.int x41, .ref x36, .ref x33] _ _
        refine wp_aload_n xi_144 dX11_chance_41 rfl ?_
        refine wp_aload_n xi_144 dX11_chance_42 rfl ?_
        obtain ⟨x42, gx42, H⟩ := Option.bind_eq_some_iff.mp H
        refine wq_getfr xi_144 dX11_chance_43 xf_11_26 gx42 ?_
        obtain ⟨x43, gx43, H⟩ := Option.bind_eq_some_iff.mp H
        refine wq_getfi xi_144 dX11_chance_46 xf_11_159 gx43 ?_
        refine wp_iconst 1 xi_144 dX11_chance_49 rfl ?_
        refine wp_iadd xi_144 dX11_chance_50 ?_
        obtain ⟨u44, gu44, H⟩ := Option.bind_eq_some_iff.mp H
        obtain ⟨⟨x46, h45⟩, gh45, H⟩ := Option.bind_eq_some_iff.mp H
        dsimp only at H
        refine wq_callV (a := a) (as := [.int (x43 + 1)]) (r := [.int x41, .ref x36, .ref x33]) (v1 := (some (.int x46))) xi_144 xi_126 dX11_chance_51 xm_11_307 rfl (Nat.le_of_ble_eq_true rfl) (pG_ok gu44) ⟨(Nat.le_of_ble_eq_true rfl), (Nat.le_of_ble_eq_true rfl)⟩ rfl nofun (e_126 (d + 5) _ gh45 ⟨rfl, rfl⟩) ?_
        change Wp _ _ _ _ [.int x46, .int x41, .ref x36, .ref x33] _ _
        refine wp_iload_n xi_144 dX11_chance_54 rfl ?_
        obtain ⟨u47, gu47, H⟩ := Option.bind_eq_some_iff.mp H
        obtain ⟨h48, gh48, H⟩ := Option.bind_eq_some_iff.mp H
        refine wq_callV (a := x33) (as := [.ref x36, .int x41, .int x46, .int p0]) (r := []) (v1 := none) xi_144 xi_15 dX11_chance_55 xm_11_428 rfl (Nat.le_of_ble_eq_true rfl) (pG_ok gu47) ⟨(Nat.le_of_ble_eq_true rfl), (Nat.le_of_ble_eq_true rfl)⟩ rfl nofun (e_15 d _ gh48 ⟨rfl, rfl⟩) ?_
        change Wp _ _ _ _ [] _ _
        refine wp_aload_n xi_144 dX11_chance_58 rfl ?_
        obtain ⟨x49, gx49, H⟩ := Option.bind_eq_some_iff.mp H
        refine wq_getfr xi_144 dX11_chance_59 xf_11_64 gx49 ?_
        obtain ⟨x50, gx50, H⟩ := Option.bind_eq_some_iff.mp H
        refine wq_getfi xi_144 dX11_chance_62 xf_11_333 gx50 ?_
        refine wp_istore_n [some (.ref a), some (.int p0), some (.int x50), some (.int 1), some (.int (-1)), none] xi_144 dX11_chance_65 rfl ?_
        refine wp_iload_n xi_144 dX11_chance_66 rfl ?_
        refine wp_iconst 1 xi_144 dX11_chance_67 rfl ?_
        obtain ⟨w52, G56, H⟩ := Option.bind_eq_some_iff.mp H
        have K53 : Wp (d + 7) 144 79 [some (.ref a), some (.int p0), some (.int x50), some (.int 1), some (.int (-1)), none] [.int w52] h48 Q := by
          refine wp_istore_n [some (.ref a), some (.int p0), some (.int x50), some (.int w52), some (.int (-1)), none] xi_144 dX11_chance_79 rfl ?_
          refine wp_aload_n xi_144 dX11_chance_80 rfl ?_
          obtain ⟨x54, gx54, H⟩ := Option.bind_eq_some_iff.mp H
          refine wq_getfr xi_144 dX11_chance_81 xf_11_64 gx54 ?_
          obtain ⟨x55, gx55, H⟩ := Option.bind_eq_some_iff.mp H
          refine wq_getfi xi_144 dX11_chance_84 xf_11_321 gx55 ?_
          refine wp_istore [some (.ref a), some (.int p0), some (.int x50), some (.int w52), some (.int x55), none] xi_144 dX11_chance_87 rfl ?_
          simp only [Option.some.injEq, Prod.mk.injEq] at H
          obtain ⟨rfl, rfl, rfl, rfl⟩ := H
          exact Wp.more (by simp [xMore, Value.category]) K32
        clear H
        have H := G56
        clear G56
        refine wp_icmp_ne 76 xi_144 dX11_chance_68 rfl (fun c51 => ?_) (fun c51 => ?_)
        · rw [if_neg c51] at H
          refine wp_sipush 10000 xi_144 dX11_chance_76 rfl ?_
          obtain rfl := Option.some.inj H
          exact Wp.more (by simp [xMore, Value.category]) K53
        · rw [if_pos c51] at H
          refine wp_bipush 100 xi_144 dX11_chance_71 rfl ?_
          refine wp_goto 79 xi_144 dX11_chance_73 rfl ?_
          obtain rfl := Option.some.inj H
          exact Wp.more (by simp [xMore, Value.category]) K53
    · rw [if_neg c2] at H
      refine wp_iconst (-1) xi_144 dX11_chance_9 rfl ?_
      obtain ⟨rfl, rfl⟩ := oi2 H
      exact wp_iret xi_144 dX11_chance_10 hq
/- FelledHasLost$Games.search(LFelledHasLost$Tower;Z)V -/
def f_18_46  : Nat → Nat → Int32 → Int32 → xH → Option (xH)
  | 0, _, _, _, _ => none
  | n + 1, a0, a2, a3, h =>
  (if (400 : Int32) ≤ a3 then
  some (h)
  else
  (pFi h a0 2 14).bind fun x2 =>
  (if x2 ≤ a3 then
  some (h)
  else
  (pFi h a0 2 15).bind fun x4 =>
  (if x4 = 0 then
  (pFr h a0 2 10).bind fun x6 =>
  (pFi h a0 2 13).bind fun x7 =>
  (pSi h x6 a3 x7).bind fun h8 =>
  ((if a2 = 0 then
  (pG (pIs h8 a0 2)).bind fun _ =>
  (f_19 a0 a3 h8).bind fun h15 =>
  some (h15)
  else
  some (h8) : Option (xH))).bind fun (h12 : xH) =>
  (pFr h12 a0 2 10).bind fun x16 =>
  (pFi h12 a0 2 13).bind fun x17 =>
  (pSi h12 x16 (a3 + 1) x17).bind fun h18 =>
  f_18_46 n a0 a2 (a3 + 1) h18
  else
  some (h))))
theorem ef_18_46 (d : Nat) (Q : Option Value → xH → Prop)  : ∀ (n : Nat) (a0 : Nat) (a2 : Int32) (a3 : Int32) (h : xH) (r : xH), f_18_46 n a0 a2 a3 h = some r → (∀  (h1 : xH), r = h1 → Wp (d + 5) 18 105 [none, none, none, none] [] h1 Q) → Wp (d + 5) 18 46 [some (.ref a0), none, some (.int a2), some (.int a3)] [] h Q := by
  intro n
  induction n with
  | zero =>
    intro a0 a2 a3 h r H
    cases H
  | succ n ih =>
    intro a0 a2 a3 h r H KE
    unfold f_18_46 at H
    refine wp_iload_n xi_18 dX2_search_46 rfl ?_
    refine wp_sipush 400 xi_18 dX2_search_47 rfl ?_
    refine wp_icmp_ge 105 xi_18 dX2_search_50 rfl (fun c1 => ?_) (fun c1 => ?_)
    · rw [if_pos c1] at H
      obtain rfl := Option.some.inj H
      exact Wp.more (by simp [xMore, Value.category]) (KE  h rfl)
    · rw [if_neg c1] at H
      refine wp_iload_n xi_18 dX2_search_53 rfl ?_
      refine wp_aload_n xi_18 dX2_search_54 rfl ?_
      obtain ⟨x2, gx2, H⟩ := Option.bind_eq_some_iff.mp H
      refine wq_getfi xi_18 dX2_search_55 xf_2_68 gx2 ?_
      refine wp_icmp_ge 105 xi_18 dX2_search_58 rfl (fun c3 => ?_) (fun c3 => ?_)
      · rw [if_pos c3] at H
        obtain rfl := Option.some.inj H
        exact Wp.more (by simp [xMore, Value.category]) (KE  h rfl)
      · rw [if_neg c3] at H
        refine wp_aload_n xi_18 dX2_search_61 rfl ?_
        obtain ⟨x4, gx4, H⟩ := Option.bind_eq_some_iff.mp H
        refine wq_getfi xi_18 dX2_search_62 xf_2_71 gx4 ?_
        refine wp_if_ne 105 xi_18 dX2_search_65 rfl (fun c5 => ?_) (fun c5 => ?_)
        · rw [if_neg c5] at H
          obtain rfl := Option.some.inj H
          exact Wp.more (by simp [xMore, Value.category]) (KE  h rfl)
        · rw [if_pos c5] at H
          refine wp_aload_n xi_18 dX2_search_68 rfl ?_
          obtain ⟨x6, gx6, H⟩ := Option.bind_eq_some_iff.mp H
          refine wq_getfr xi_18 dX2_search_69 xf_2_44 gx6 ?_
          refine wp_iload_n xi_18 dX2_search_72 rfl ?_
          refine wp_aload_n xi_18 dX2_search_73 rfl ?_
          obtain ⟨x7, gx7, H⟩ := Option.bind_eq_some_iff.mp H
          refine wq_getfi xi_18 dX2_search_74 xf_2_64 gx7 ?_
          obtain ⟨h8, gh8, H⟩ := Option.bind_eq_some_iff.mp H
          refine wq_iastore xi_18 dX2_search_77 gh8 ?_
          refine wp_iload_n xi_18 dX2_search_78 rfl ?_
          obtain ⟨h12, G19, H⟩ := Option.bind_eq_some_iff.mp H
          have K13 : Wp (d + 5) 18 87 [some (.ref a0), none, some (.int a2), some (.int a3)] [] h12 Q := by
            refine wp_aload_n xi_18 dX2_search_87 rfl ?_
            obtain ⟨x16, gx16, H⟩ := Option.bind_eq_some_iff.mp H
            refine wq_getfr xi_18 dX2_search_88 xf_2_44 gx16 ?_
            refine wp_iload_n xi_18 dX2_search_91 rfl ?_
            refine wp_iconst 1 xi_18 dX2_search_92 rfl ?_
            refine wp_iadd xi_18 dX2_search_93 ?_
            refine wp_aload_n xi_18 dX2_search_94 rfl ?_
            obtain ⟨x17, gx17, H⟩ := Option.bind_eq_some_iff.mp H
            refine wq_getfi xi_18 dX2_search_95 xf_2_64 gx17 ?_
            obtain ⟨h18, gh18, H⟩ := Option.bind_eq_some_iff.mp H
            refine wq_iastore xi_18 dX2_search_98 gh18 ?_
            refine wp_iinc (a3 + 1) [some (.ref a0), none, some (.int a2), some (.int (a3 + 1))] xi_18 dX2_search_99 rfl rfl rfl ?_
            refine wp_goto 46 xi_18 dX2_search_102 rfl ?_
            exact Wp.more (by simp [xMore, Value.category]) (ih a0 a2 (a3 + 1) h18 _ H KE)
          clear H
          have H := G19
          clear G19
          refine wp_if_ne 87 xi_18 dX2_search_79 rfl (fun c9 => ?_) (fun c9 => ?_)
          · rw [if_neg c9] at H
            obtain rfl := Option.some.inj H
            exact Wp.more (by simp [xMore, Value.category]) K13
          · rw [if_pos c9] at H
            refine wp_aload_n xi_18 dX2_search_82 rfl ?_
            refine wp_iload_n xi_18 dX2_search_83 rfl ?_
            obtain ⟨u14, gu14, H⟩ := Option.bind_eq_some_iff.mp H
            obtain ⟨h15, gh15, H⟩ := Option.bind_eq_some_iff.mp H
            refine wq_callV (a := a0) (as := [.int a3]) (r := []) (v1 := none) xi_18 xi_19 dX2_search_84 xm_2_90 rfl (Nat.le_of_ble_eq_true rfl) (pG_ok gu14) ⟨(Nat.le_of_ble_eq_true rfl), (Nat.le_of_ble_eq_true rfl)⟩ rfl nofun (e_19 d _ gh15 ⟨rfl, rfl⟩) ?_
            change Wp _ _ _ _ [] _ _
            obtain rfl := Option.some.inj H
            exact Wp.more (by simp [xMore, Value.category]) K13
def f_18  (a : Nat) (p0 : Nat) (p1 : Int32) (h : xH) : Option (xH) :=
  (pFr h a 2 4).bind fun x1 =>
  (f_266 x1 0 h).bind fun h2 =>
  (pP h2 a 2 13 (.int 0)).bind fun h3 =>
  (pP h3 a 2 14 (.int 0)).bind fun h4 =>
  (pP h4 a 2 15 (.int 0)).bind fun h5 =>
  (pG (pIs h5 a 2)).bind fun _ =>
  (f_22 a p0 h5).bind fun h7 =>
  (pG (pIs h7 a 2)).bind fun _ =>
  (f_26 a h7).bind fun (x10, h9) =>
  (pFi h9 p0 10 4).bind fun x11 =>
  (pG (pIs h9 a 2)).bind fun _ =>
  (f_21 a 0 (-1) (-1) x11 h9).bind fun h13 =>
  (f_18_46 100000 a p1 0 h13).bind fun h14 =>
  some h14
set_option maxHeartbeats 4000000 in
theorem e_18 (d : Nat) (Q : Option Value → xH → Prop)  {h : xH} {a : Nat} {p0 : Nat} {p1 : Int32} {h1 : xH} (H : f_18  a p0 p1 h = some h1) (hq : Q none h1) : Wp (d + 5) 18 0 [some (.ref a), some (.ref p0), some (.int p1), none] [] h Q := by
  unfold f_18 at H
  refine wp_aload_n xi_18 dX2_search_0 rfl ?_
  obtain ⟨x1, gx1, H⟩ := Option.bind_eq_some_iff.mp H
  refine wq_getfr xi_18 dX2_search_1 xf_2_25 gx1 ?_
  refine wp_iconst 0 xi_18 dX2_search_4 rfl ?_
  obtain ⟨h2, gh2, H⟩ := Option.bind_eq_some_iff.mp H
  refine wq_callS (as := [.ref x1, .int 0]) (r := []) (v1 := none) xi_18 xi_266 dX2_search_5 xm_2_58 rfl (Nat.le_of_ble_eq_true rfl) ⟨(Nat.le_of_ble_eq_true rfl), (Nat.le_of_ble_eq_true rfl)⟩ rfl nofun (e_266 (d + 4) _ gh2 ⟨rfl, rfl⟩) ?_
  change Wp _ _ _ _ [] _ _
  refine wp_aload_n xi_18 dX2_search_8 rfl ?_
  refine wp_iconst 0 xi_18 dX2_search_9 rfl ?_
  obtain ⟨h3, gh3, H⟩ := Option.bind_eq_some_iff.mp H
  refine wq_putf xi_18 dX2_search_10 xf_2_64 (Or.inl rfl) gh3 ?_
  refine wp_aload_n xi_18 dX2_search_13 rfl ?_
  refine wp_iconst 0 xi_18 dX2_search_14 rfl ?_
  obtain ⟨h4, gh4, H⟩ := Option.bind_eq_some_iff.mp H
  refine wq_putf xi_18 dX2_search_15 xf_2_68 (Or.inl rfl) gh4 ?_
  refine wp_aload_n xi_18 dX2_search_18 rfl ?_
  refine wp_iconst 0 xi_18 dX2_search_19 rfl ?_
  obtain ⟨h5, gh5, H⟩ := Option.bind_eq_some_iff.mp H
  refine wq_putf xi_18 dX2_search_20 xf_2_71 (Or.inl rfl) gh5 ?_
  refine wp_aload_n xi_18 dX2_search_23 rfl ?_
  refine wp_aload_n xi_18 dX2_search_24 rfl ?_
  obtain ⟨u6, gu6, H⟩ := Option.bind_eq_some_iff.mp H
  obtain ⟨h7, gh7, H⟩ := Option.bind_eq_some_iff.mp H
  refine wq_callV (a := a) (as := [.ref p0]) (r := []) (v1 := none) xi_18 xi_22 dX2_search_25 xm_2_75 rfl (Nat.le_of_ble_eq_true rfl) (pG_ok gu6) ⟨(Nat.le_of_ble_eq_true rfl), (Nat.le_of_ble_eq_true rfl)⟩ rfl nofun (e_22 (d + 3) _ gh7 ⟨rfl, rfl⟩) ?_
  change Wp _ _ _ _ [] _ _
  refine wp_aload_n xi_18 dX2_search_28 rfl ?_
  obtain ⟨u8, gu8, H⟩ := Option.bind_eq_some_iff.mp H
  obtain ⟨⟨x10, h9⟩, gh9, H⟩ := Option.bind_eq_some_iff.mp H
  dsimp only at H
  refine wq_callV (a := a) (as := []) (r := []) (v1 := (some (.int x10))) xi_18 xi_26 dX2_search_29 xm_2_79 rfl (Nat.le_of_ble_eq_true rfl) (pG_ok gu8) ⟨(Nat.le_of_ble_eq_true rfl), (Nat.le_of_ble_eq_true rfl)⟩ rfl nofun (e_26 (d + 3) _ gh9 ⟨rfl, rfl⟩) ?_
  change Wp _ _ _ _ [.int x10] _ _
  refine wp_pop xi_18 dX2_search_32 rfl ?_
  refine wp_aload_n xi_18 dX2_search_33 rfl ?_
  refine wp_iconst 0 xi_18 dX2_search_34 rfl ?_
  refine wp_iconst (-1) xi_18 dX2_search_35 rfl ?_
  refine wp_iconst (-1) xi_18 dX2_search_36 rfl ?_
  refine wp_aload_n xi_18 dX2_search_37 rfl ?_
  obtain ⟨x11, gx11, H⟩ := Option.bind_eq_some_iff.mp H
  refine wq_getfi xi_18 dX2_search_38 xf_2_83 gx11 ?_
  obtain ⟨u12, gu12, H⟩ := Option.bind_eq_some_iff.mp H
  obtain ⟨h13, gh13, H⟩ := Option.bind_eq_some_iff.mp H
  refine wq_callV (a := a) (as := [.int 0, .int (-1), .int (-1), .int x11]) (r := []) (v1 := none) xi_18 xi_21 dX2_search_41 xm_2_86 rfl (Nat.le_of_ble_eq_true rfl) (pG_ok gu12) ⟨(Nat.le_of_ble_eq_true rfl), (Nat.le_of_ble_eq_true rfl)⟩ rfl nofun (e_21 (d + 4) _ gh13 ⟨rfl, rfl⟩) ?_
  change Wp _ _ _ _ [] _ _
  refine wp_iconst 0 xi_18 dX2_search_44 rfl ?_
  refine wp_istore_n [some (.ref a), some (.ref p0), some (.int p1), some (.int 0)] xi_18 dX2_search_45 rfl ?_
  obtain ⟨h14, G15, H⟩ := Option.bind_eq_some_iff.mp H
  refine Wp.more (by simp [xMore, Value.category]) (ef_18_46 d Q  100000 a p1 0 h13 _ G15 (fun z0 e9 => ?_))
  cases e9
  obtain rfl := Option.some.inj H
  exact wp_vret xi_18 dX2_search_105 hq
/- FelledHasLost.findAllTowers()Z -/
def f_137  (a : Nat) (h : xH) : Option (Int32 × xH) :=
  (pFr h a 11 9).bind fun x1 =>
  (pFr h a 11 2).bind fun x2 =>
  (pFr h x2 7 0).bind fun x3 =>
  (pFr h a 11 2).bind fun x4 =>
  (pG (pIs h x4 7)).bind fun _ =>
  (f_68 x4 h).bind fun (x7, h6) =>
  (pG (pIs h6 x1 2)).bind fun _ =>
  (f_18 x1 x3 x7 h6).bind fun h9 =>
  (pFr h9 a 11 9).bind fun x10 =>
  (pFi h9 x10 2 15).bind fun x11 =>
  ((if x11 = 0 then
  some (1)
  else
  some (0) : Option (Int32))).bind fun (w13 : Int32) =>
  pZ w13 h9
set_option maxHeartbeats 4000000 in
theorem e_137 (d : Nat) (Q : Option Value → xH → Prop)  {h : xH} {a : Nat} {x : Int32} {h1 : xH} (H : f_137  a h = some (x, h1)) (hq : Q (some (.int x)) h1) : Wp (d + 6) 137 0 [some (.ref a)] [] h Q := by
  unfold f_137 at H
  refine wp_aload_n xi_137 dX11_findAllTowers_0 rfl ?_
  obtain ⟨x1, gx1, H⟩ := Option.bind_eq_some_iff.mp H
  refine wq_getfr xi_137 dX11_findAllTowers_1 xf_11_73 gx1 ?_
  refine wp_aload_n xi_137 dX11_findAllTowers_4 rfl ?_
  obtain ⟨x2, gx2, H⟩ := Option.bind_eq_some_iff.mp H
  refine wq_getfr xi_137 dX11_findAllTowers_5 xf_11_26 gx2 ?_
  obtain ⟨x3, gx3, H⟩ := Option.bind_eq_some_iff.mp H
  refine wq_getfr xi_137 dX11_findAllTowers_8 xf_11_132 gx3 ?_
  refine wp_aload_n xi_137 dX11_findAllTowers_11 rfl ?_
  obtain ⟨x4, gx4, H⟩ := Option.bind_eq_some_iff.mp H
  refine wq_getfr xi_137 dX11_findAllTowers_12 xf_11_26 gx4 ?_
  obtain ⟨u5, gu5, H⟩ := Option.bind_eq_some_iff.mp H
  obtain ⟨⟨x7, h6⟩, gh6, H⟩ := Option.bind_eq_some_iff.mp H
  dsimp only at H
  refine wq_callV (a := x4) (as := []) (r := [.ref x3, .ref x1]) (v1 := (some (.int x7))) xi_137 xi_68 dX11_findAllTowers_15 xm_11_273 rfl (Nat.le_of_ble_eq_true rfl) (pG_ok gu5) ⟨(Nat.le_of_ble_eq_true rfl), (Nat.le_of_ble_eq_true rfl)⟩ rfl nofun (e_68 (d + 5) _ gh6 ⟨rfl, rfl⟩) ?_
  change Wp _ _ _ _ [.int x7, .ref x3, .ref x1] _ _
  obtain ⟨u8, gu8, H⟩ := Option.bind_eq_some_iff.mp H
  obtain ⟨h9, gh9, H⟩ := Option.bind_eq_some_iff.mp H
  refine wq_callV (a := x1) (as := [.ref x3, .int x7]) (r := []) (v1 := none) xi_137 xi_18 dX11_findAllTowers_18 xm_11_375 rfl (Nat.le_of_ble_eq_true rfl) (pG_ok gu8) ⟨(Nat.le_of_ble_eq_true rfl), (Nat.le_of_ble_eq_true rfl)⟩ rfl nofun (e_18 d _ gh9 ⟨rfl, rfl⟩) ?_
  change Wp _ _ _ _ [] _ _
  refine wp_aload_n xi_137 dX11_findAllTowers_21 rfl ?_
  obtain ⟨x10, gx10, H⟩ := Option.bind_eq_some_iff.mp H
  refine wq_getfr xi_137 dX11_findAllTowers_22 xf_11_73 gx10 ?_
  obtain ⟨x11, gx11, H⟩ := Option.bind_eq_some_iff.mp H
  refine wq_getfi xi_137 dX11_findAllTowers_25 xf_11_379 gx11 ?_
  obtain ⟨w13, G15, H⟩ := Option.bind_eq_some_iff.mp H
  have K14 : Wp (d + 6) 137 36 [some (.ref a)] [.int w13] h9 Q := by
    obtain ⟨gz, hz⟩ := pZ_ok H
    obtain ⟨rfl, rfl⟩ := Prod.mk.inj hz
    exact wp_zret xi_137 dX11_findAllTowers_36 gz hq
  clear H
  have H := G15
  clear G15
  refine wp_if_ne 35 xi_137 dX11_findAllTowers_28 rfl (fun c12 => ?_) (fun c12 => ?_)
  · rw [if_neg c12] at H
    refine wp_iconst 0 xi_137 dX11_findAllTowers_35 rfl ?_
    obtain rfl := Option.some.inj H
    exact Wp.more (by simp [xMore, Value.category]) K14
  · rw [if_pos c12] at H
    refine wp_iconst 1 xi_137 dX11_findAllTowers_31 rfl ?_
    refine wp_goto 36 xi_137 dX11_findAllTowers_32 rfl ?_
    obtain rfl := Option.some.inj H
    exact Wp.more (by simp [xMore, Value.category]) K14
/- FelledHasLost.wins()I -/
def f_138  (a : Nat) (h : xH) : Option (Int32 × xH) :=
  (pG (pIs h a 11)).bind fun _ =>
  (f_137 a h).bind fun (x3, h2) =>
  (if x3 = 0 then
  some ((-3), h2)
  else
  (pFr h2 a 11 9).bind fun x5 =>
  (pG (pIs h2 x5 2)).bind fun _ =>
  (f_30 x5 h2).bind fun h7 =>
  (pFr h7 a 11 1).bind fun x8 =>
  (pG (pIs h7 x8 5)).bind fun _ =>
  (f_50 x8 h7).bind fun h10 =>
  (pFr h10 a 11 1).bind fun x11 =>
  (pFr h10 a 11 9).bind fun x12 =>
  (pG (pIs h10 x12 2)).bind fun _ =>
  (f_33 x12 0 0 h10).bind fun (x15, h14) =>
  (pG (pIs h14 x11 5)).bind fun _ =>
  (f_51 x11 ((x15 : Int32).toInt64) h14).bind fun h17 =>
  (pFr h17 a 11 9).bind fun x18 =>
  (pFr h17 x18 2 9).bind fun x19 =>
  (pAi h17 x19 0).bind fun x20 =>
  some (x20, h17))
set_option maxHeartbeats 4000000 in
theorem e_138 (d : Nat) (Q : Option Value → xH → Prop)  {h : xH} {a : Nat} {x : Int32} {h1 : xH} (H : f_138  a h = some (x, h1)) (hq : Q (some (.int x)) h1) : Wp (d + 7) 138 0 [some (.ref a)] [] h Q := by
  unfold f_138 at H
  refine wp_aload_n xi_138 dX11_wins_0 rfl ?_
  obtain ⟨u1, gu1, H⟩ := Option.bind_eq_some_iff.mp H
  obtain ⟨⟨x3, h2⟩, gh2, H⟩ := Option.bind_eq_some_iff.mp H
  dsimp only at H
  refine wq_callV (a := a) (as := []) (r := []) (v1 := (some (.int x3))) xi_138 xi_137 dX11_wins_1 xm_11_383 rfl (Nat.le_of_ble_eq_true rfl) (pG_ok gu1) ⟨(Nat.le_of_ble_eq_true rfl), (Nat.le_of_ble_eq_true rfl)⟩ rfl nofun (e_137 d _ gh2 ⟨rfl, rfl⟩) ?_
  change Wp _ _ _ _ [.int x3] _ _
  refine wp_if_ne 10 xi_138 dX11_wins_4 rfl (fun c4 => ?_) (fun c4 => ?_)
  · rw [if_neg c4] at H
    refine wp_aload_n xi_138 dX11_wins_10 rfl ?_
    obtain ⟨x5, gx5, H⟩ := Option.bind_eq_some_iff.mp H
    refine wq_getfr xi_138 dX11_wins_11 xf_11_73 gx5 ?_
    obtain ⟨u6, gu6, H⟩ := Option.bind_eq_some_iff.mp H
    obtain ⟨h7, gh7, H⟩ := Option.bind_eq_some_iff.mp H
    refine wq_callV (a := x5) (as := []) (r := []) (v1 := none) xi_138 xi_30 dX11_wins_14 xm_11_386 rfl (Nat.le_of_ble_eq_true rfl) (pG_ok gu6) ⟨(Nat.le_of_ble_eq_true rfl), (Nat.le_of_ble_eq_true rfl)⟩ rfl nofun (e_30 (d + 5) _ gh7 ⟨rfl, rfl⟩) ?_
    change Wp _ _ _ _ [] _ _
    refine wp_aload_n xi_138 dX11_wins_17 rfl ?_
    obtain ⟨x8, gx8, H⟩ := Option.bind_eq_some_iff.mp H
    refine wq_getfr xi_138 dX11_wins_18 xf_11_19 gx8 ?_
    obtain ⟨u9, gu9, H⟩ := Option.bind_eq_some_iff.mp H
    obtain ⟨h10, gh10, H⟩ := Option.bind_eq_some_iff.mp H
    refine wq_callV (a := x8) (as := []) (r := []) (v1 := none) xi_138 xi_50 dX11_wins_21 xm_11_244 rfl (Nat.le_of_ble_eq_true rfl) (pG_ok gu9) ⟨(Nat.le_of_ble_eq_true rfl), (Nat.le_of_ble_eq_true rfl)⟩ rfl nofun (e_50 (d + 6) _ gh10 ⟨rfl, rfl⟩) ?_
    change Wp _ _ _ _ [] _ _
    refine wp_aload_n xi_138 dX11_wins_24 rfl ?_
    obtain ⟨x11, gx11, H⟩ := Option.bind_eq_some_iff.mp H
    refine wq_getfr xi_138 dX11_wins_25 xf_11_19 gx11 ?_
    refine wp_aload_n xi_138 dX11_wins_28 rfl ?_
    obtain ⟨x12, gx12, H⟩ := Option.bind_eq_some_iff.mp H
    refine wq_getfr xi_138 dX11_wins_29 xf_11_73 gx12 ?_
    refine wp_iconst 0 xi_138 dX11_wins_32 rfl ?_
    refine wp_iconst 0 xi_138 dX11_wins_33 rfl ?_
    obtain ⟨u13, gu13, H⟩ := Option.bind_eq_some_iff.mp H
    obtain ⟨⟨x15, h14⟩, gh14, H⟩ := Option.bind_eq_some_iff.mp H
    dsimp only at H
    refine wq_callV (a := x12) (as := [.int 0, .int 0]) (r := [.ref x11]) (v1 := (some (.int x15))) xi_138 xi_33 dX11_wins_34 xm_11_389 rfl (Nat.le_of_ble_eq_true rfl) (pG_ok gu13) ⟨(Nat.le_of_ble_eq_true rfl), (Nat.le_of_ble_eq_true rfl)⟩ rfl nofun (e_33 (d + 4) _ gh14 ⟨rfl, rfl⟩) ?_
    change Wp _ _ _ _ [.int x15, .ref x11] _ _
    refine wp_i2l xi_138 dX11_wins_37 ?_
    obtain ⟨u16, gu16, H⟩ := Option.bind_eq_some_iff.mp H
    obtain ⟨h17, gh17, H⟩ := Option.bind_eq_some_iff.mp H
    refine wq_callV (a := x11) (as := [.long ((x15 : Int32).toInt64)]) (r := []) (v1 := none) xi_138 xi_51 dX11_wins_38 xm_11_248 rfl (Nat.le_of_ble_eq_true rfl) (pG_ok gu16) ⟨(Nat.le_of_ble_eq_true rfl), (Nat.le_of_ble_eq_true rfl)⟩ rfl nofun (e_51 (d + 6) _ gh17 ⟨rfl, rfl⟩) ?_
    change Wp _ _ _ _ [] _ _
    refine wp_aload_n xi_138 dX11_wins_41 rfl ?_
    obtain ⟨x18, gx18, H⟩ := Option.bind_eq_some_iff.mp H
    refine wq_getfr xi_138 dX11_wins_42 xf_11_73 gx18 ?_
    obtain ⟨x19, gx19, H⟩ := Option.bind_eq_some_iff.mp H
    refine wq_getfr xi_138 dX11_wins_45 xf_11_392 gx19 ?_
    refine wp_iconst 0 xi_138 dX11_wins_48 rfl ?_
    obtain ⟨x20, gx20, H⟩ := Option.bind_eq_some_iff.mp H
    refine wq_iaload xi_138 dX11_wins_49 gx20 ?_
    obtain ⟨rfl, rfl⟩ := oi2 H
    exact wp_iret xi_138 dX11_wins_50 hq
  · rw [if_pos c4] at H
    refine wp_bipush (-3) xi_138 dX11_wins_7 rfl ?_
    obtain ⟨rfl, rfl⟩ := oi2 H
    exact wp_iret xi_138 dX11_wins_9 hq
/- FelledHasLost.longest()I -/
def f_139  (a : Nat) (h : xH) : Option (Int32 × xH) :=
  (pG (pIs h a 11)).bind fun _ =>
  (f_137 a h).bind fun (x3, h2) =>
  (if x3 = 0 then
  some ((-3), h2)
  else
  (pFr h2 a 11 9).bind fun x5 =>
  (pG (pIs h2 x5 2)).bind fun _ =>
  (f_31 x5 1 h2).bind fun h7 =>
  (pFr h7 a 11 9).bind fun x8 =>
  (pFr h7 a 11 1).bind fun x9 =>
  (pG (pIs h7 x8 2)).bind fun _ =>
  (f_34 x8 x9 h7).bind fun h11 =>
  (pFr h11 a 11 9).bind fun x12 =>
  (pFr h11 x12 2 9).bind fun x13 =>
  (pAi h11 x13 0).bind fun x14 =>
  some (x14, h11))
set_option maxHeartbeats 4000000 in
theorem e_139 (d : Nat) (Q : Option Value → xH → Prop)  {h : xH} {a : Nat} {x : Int32} {h1 : xH} (H : f_139  a h = some (x, h1)) (hq : Q (some (.int x)) h1) : Wp (d + 7) 139 0 [some (.ref a)] [] h Q := by
  unfold f_139 at H
  refine wp_aload_n xi_139 dX11_longest_0 rfl ?_
  obtain ⟨u1, gu1, H⟩ := Option.bind_eq_some_iff.mp H
  obtain ⟨⟨x3, h2⟩, gh2, H⟩ := Option.bind_eq_some_iff.mp H
  dsimp only at H
  refine wq_callV (a := a) (as := []) (r := []) (v1 := (some (.int x3))) xi_139 xi_137 dX11_longest_1 xm_11_383 rfl (Nat.le_of_ble_eq_true rfl) (pG_ok gu1) ⟨(Nat.le_of_ble_eq_true rfl), (Nat.le_of_ble_eq_true rfl)⟩ rfl nofun (e_137 d _ gh2 ⟨rfl, rfl⟩) ?_
  change Wp _ _ _ _ [.int x3] _ _
  refine wp_if_ne 10 xi_139 dX11_longest_4 rfl (fun c4 => ?_) (fun c4 => ?_)
  · rw [if_neg c4] at H
    refine wp_aload_n xi_139 dX11_longest_10 rfl ?_
    obtain ⟨x5, gx5, H⟩ := Option.bind_eq_some_iff.mp H
    refine wq_getfr xi_139 dX11_longest_11 xf_11_73 gx5 ?_
    refine wp_iconst 1 xi_139 dX11_longest_14 rfl ?_
    obtain ⟨u6, gu6, H⟩ := Option.bind_eq_some_iff.mp H
    obtain ⟨h7, gh7, H⟩ := Option.bind_eq_some_iff.mp H
    refine wq_callV (a := x5) (as := [.int 1]) (r := []) (v1 := none) xi_139 xi_31 dX11_longest_15 xm_11_395 rfl (Nat.le_of_ble_eq_true rfl) (pG_ok gu6) ⟨(Nat.le_of_ble_eq_true rfl), (Nat.le_of_ble_eq_true rfl)⟩ rfl nofun (e_31 (d + 5) _ gh7 ⟨rfl, rfl⟩) ?_
    change Wp _ _ _ _ [] _ _
    refine wp_aload_n xi_139 dX11_longest_18 rfl ?_
    obtain ⟨x8, gx8, H⟩ := Option.bind_eq_some_iff.mp H
    refine wq_getfr xi_139 dX11_longest_19 xf_11_73 gx8 ?_
    refine wp_aload_n xi_139 dX11_longest_22 rfl ?_
    obtain ⟨x9, gx9, H⟩ := Option.bind_eq_some_iff.mp H
    refine wq_getfr xi_139 dX11_longest_23 xf_11_19 gx9 ?_
    obtain ⟨u10, gu10, H⟩ := Option.bind_eq_some_iff.mp H
    obtain ⟨h11, gh11, H⟩ := Option.bind_eq_some_iff.mp H
    refine wq_callV (a := x8) (as := [.ref x9]) (r := []) (v1 := none) xi_139 xi_34 dX11_longest_26 xm_11_399 rfl (Nat.le_of_ble_eq_true rfl) (pG_ok gu10) ⟨(Nat.le_of_ble_eq_true rfl), (Nat.le_of_ble_eq_true rfl)⟩ rfl nofun (e_34 (d + 4) _ gh11 ⟨rfl, rfl⟩) ?_
    change Wp _ _ _ _ [] _ _
    refine wp_aload_n xi_139 dX11_longest_29 rfl ?_
    obtain ⟨x12, gx12, H⟩ := Option.bind_eq_some_iff.mp H
    refine wq_getfr xi_139 dX11_longest_30 xf_11_73 gx12 ?_
    obtain ⟨x13, gx13, H⟩ := Option.bind_eq_some_iff.mp H
    refine wq_getfr xi_139 dX11_longest_33 xf_11_392 gx13 ?_
    refine wp_iconst 0 xi_139 dX11_longest_36 rfl ?_
    obtain ⟨x14, gx14, H⟩ := Option.bind_eq_some_iff.mp H
    refine wq_iaload xi_139 dX11_longest_37 gx14 ?_
    obtain ⟨rfl, rfl⟩ := oi2 H
    exact wp_iret xi_139 dX11_longest_38 hq
  · rw [if_pos c4] at H
    refine wp_bipush (-3) xi_139 dX11_longest_7 rfl ?_
    obtain ⟨rfl, rfl⟩ := oi2 H
    exact wp_iret xi_139 dX11_longest_9 hq
/- FelledHasLost.shortest()I -/
def f_140  (a : Nat) (h : xH) : Option (Int32 × xH) :=
  (pG (pIs h a 11)).bind fun _ =>
  (f_137 a h).bind fun (x3, h2) =>
  (if x3 = 0 then
  some ((-3), h2)
  else
  (pFr h2 a 11 9).bind fun x5 =>
  (pG (pIs h2 x5 2)).bind fun _ =>
  (f_31 x5 0 h2).bind fun h7 =>
  (pFr h7 a 11 9).bind fun x8 =>
  (pFr h7 a 11 1).bind fun x9 =>
  (pG (pIs h7 x8 2)).bind fun _ =>
  (f_34 x8 x9 h7).bind fun h11 =>
  (pFr h11 a 11 9).bind fun x12 =>
  (pFr h11 x12 2 9).bind fun x13 =>
  (pAi h11 x13 0).bind fun x14 =>
  some (x14, h11))
set_option maxHeartbeats 4000000 in
theorem e_140 (d : Nat) (Q : Option Value → xH → Prop)  {h : xH} {a : Nat} {x : Int32} {h1 : xH} (H : f_140  a h = some (x, h1)) (hq : Q (some (.int x)) h1) : Wp (d + 7) 140 0 [some (.ref a)] [] h Q := by
  unfold f_140 at H
  refine wp_aload_n xi_140 dX11_shortest_0 rfl ?_
  obtain ⟨u1, gu1, H⟩ := Option.bind_eq_some_iff.mp H
  obtain ⟨⟨x3, h2⟩, gh2, H⟩ := Option.bind_eq_some_iff.mp H
  dsimp only at H
  refine wq_callV (a := a) (as := []) (r := []) (v1 := (some (.int x3))) xi_140 xi_137 dX11_shortest_1 xm_11_383 rfl (Nat.le_of_ble_eq_true rfl) (pG_ok gu1) ⟨(Nat.le_of_ble_eq_true rfl), (Nat.le_of_ble_eq_true rfl)⟩ rfl nofun (e_137 d _ gh2 ⟨rfl, rfl⟩) ?_
  change Wp _ _ _ _ [.int x3] _ _
  refine wp_if_ne 10 xi_140 dX11_shortest_4 rfl (fun c4 => ?_) (fun c4 => ?_)
  · rw [if_neg c4] at H
    refine wp_aload_n xi_140 dX11_shortest_10 rfl ?_
    obtain ⟨x5, gx5, H⟩ := Option.bind_eq_some_iff.mp H
    refine wq_getfr xi_140 dX11_shortest_11 xf_11_73 gx5 ?_
    refine wp_iconst 0 xi_140 dX11_shortest_14 rfl ?_
    obtain ⟨u6, gu6, H⟩ := Option.bind_eq_some_iff.mp H
    obtain ⟨h7, gh7, H⟩ := Option.bind_eq_some_iff.mp H
    refine wq_callV (a := x5) (as := [.int 0]) (r := []) (v1 := none) xi_140 xi_31 dX11_shortest_15 xm_11_395 rfl (Nat.le_of_ble_eq_true rfl) (pG_ok gu6) ⟨(Nat.le_of_ble_eq_true rfl), (Nat.le_of_ble_eq_true rfl)⟩ rfl nofun (e_31 (d + 5) _ gh7 ⟨rfl, rfl⟩) ?_
    change Wp _ _ _ _ [] _ _
    refine wp_aload_n xi_140 dX11_shortest_18 rfl ?_
    obtain ⟨x8, gx8, H⟩ := Option.bind_eq_some_iff.mp H
    refine wq_getfr xi_140 dX11_shortest_19 xf_11_73 gx8 ?_
    refine wp_aload_n xi_140 dX11_shortest_22 rfl ?_
    obtain ⟨x9, gx9, H⟩ := Option.bind_eq_some_iff.mp H
    refine wq_getfr xi_140 dX11_shortest_23 xf_11_19 gx9 ?_
    obtain ⟨u10, gu10, H⟩ := Option.bind_eq_some_iff.mp H
    obtain ⟨h11, gh11, H⟩ := Option.bind_eq_some_iff.mp H
    refine wq_callV (a := x8) (as := [.ref x9]) (r := []) (v1 := none) xi_140 xi_34 dX11_shortest_26 xm_11_399 rfl (Nat.le_of_ble_eq_true rfl) (pG_ok gu10) ⟨(Nat.le_of_ble_eq_true rfl), (Nat.le_of_ble_eq_true rfl)⟩ rfl nofun (e_34 (d + 4) _ gh11 ⟨rfl, rfl⟩) ?_
    change Wp _ _ _ _ [] _ _
    refine wp_aload_n xi_140 dX11_shortest_29 rfl ?_
    obtain ⟨x12, gx12, H⟩ := Option.bind_eq_some_iff.mp H
    refine wq_getfr xi_140 dX11_shortest_30 xf_11_73 gx12 ?_
    obtain ⟨x13, gx13, H⟩ := Option.bind_eq_some_iff.mp H
    refine wq_getfr xi_140 dX11_shortest_33 xf_11_392 gx13 ?_
    refine wp_iconst 0 xi_140 dX11_shortest_36 rfl ?_
    obtain ⟨x14, gx14, H⟩ := Option.bind_eq_some_iff.mp H
    refine wq_iaload xi_140 dX11_shortest_37 gx14 ?_
    obtain ⟨rfl, rfl⟩ := oi2 H
    exact wp_iret xi_140 dX11_shortest_38 hq
  · rw [if_pos c4] at H
    refine wp_bipush (-3) xi_140 dX11_shortest_7 rfl ?_
    obtain ⟨rfl, rfl⟩ := oi2 H
    exact wp_iret xi_140 dX11_shortest_9 hq
/- FelledHasLost.high()I -/
def f_141  (a : Nat) (h : xH) : Option (Int32 × xH) :=
  (pG (pIs h a 11)).bind fun _ =>
  (f_137 a h).bind fun (x3, h2) =>
  (if x3 = 0 then
  some ((-3), h2)
  else
  (pFr h2 a 11 9).bind fun x5 =>
  (pG (pIs h2 x5 2)).bind fun _ =>
  (f_35 x5 h2).bind fun (x8, h7) =>
  (pFr h7 a 11 1).bind fun x9 =>
  (pG (pIs h7 x9 5)).bind fun _ =>
  (f_50 x9 h7).bind fun h11 =>
  (pFr h11 a 11 1).bind fun x12 =>
  (pFr h11 a 11 9).bind fun x13 =>
  (pFr h11 x13 2 7).bind fun x14 =>
  (pAi h11 x14 x8).bind fun x15 =>
  (pG (pIs h11 x12 5)).bind fun _ =>
  (f_51 x12 ((x15 : Int32).toInt64) h11).bind fun h17 =>
  (pFr h17 a 11 1).bind fun x18 =>
  (pFr h17 a 11 9).bind fun x19 =>
  (pG (pIs h17 x19 2)).bind fun _ =>
  (f_38 x19 x8 h17).bind fun (x22, h21) =>
  (pG (pIs h21 x18 5)).bind fun _ =>
  (f_51 x18 ((x22 : Int32).toInt64) h21).bind fun h24 =>
  (pFr h24 a 11 9).bind fun x25 =>
  (pFr h24 x25 2 8).bind fun x26 =>
  (pAi h24 x26 x8).bind fun x27 =>
  some (x27, h24))
set_option maxHeartbeats 4000000 in
theorem e_141 (d : Nat) (Q : Option Value → xH → Prop)  {h : xH} {a : Nat} {x : Int32} {h1 : xH} (H : f_141  a h = some (x, h1)) (hq : Q (some (.int x)) h1) : Wp (d + 7) 141 0 [some (.ref a), none] [] h Q := by
  unfold f_141 at H
  refine wp_aload_n xi_141 dX11_high_0 rfl ?_
  obtain ⟨u1, gu1, H⟩ := Option.bind_eq_some_iff.mp H
  obtain ⟨⟨x3, h2⟩, gh2, H⟩ := Option.bind_eq_some_iff.mp H
  dsimp only at H
  refine wq_callV (a := a) (as := []) (r := []) (v1 := (some (.int x3))) xi_141 xi_137 dX11_high_1 xm_11_383 rfl (Nat.le_of_ble_eq_true rfl) (pG_ok gu1) ⟨(Nat.le_of_ble_eq_true rfl), (Nat.le_of_ble_eq_true rfl)⟩ rfl nofun (e_137 d _ gh2 ⟨rfl, rfl⟩) ?_
  change Wp _ _ _ _ [.int x3] _ _
  refine wp_if_ne 10 xi_141 dX11_high_4 rfl (fun c4 => ?_) (fun c4 => ?_)
  · rw [if_neg c4] at H
    refine wp_aload_n xi_141 dX11_high_10 rfl ?_
    obtain ⟨x5, gx5, H⟩ := Option.bind_eq_some_iff.mp H
    refine wq_getfr xi_141 dX11_high_11 xf_11_73 gx5 ?_
    obtain ⟨u6, gu6, H⟩ := Option.bind_eq_some_iff.mp H
    obtain ⟨⟨x8, h7⟩, gh7, H⟩ := Option.bind_eq_some_iff.mp H
    dsimp only at H
    refine wq_callV (a := x5) (as := []) (r := []) (v1 := (some (.int x8))) xi_141 xi_35 dX11_high_14 xm_11_403 rfl (Nat.le_of_ble_eq_true rfl) (pG_ok gu6) ⟨(Nat.le_of_ble_eq_true rfl), (Nat.le_of_ble_eq_true rfl)⟩ rfl nofun (e_35 (d + 6) _ gh7 ⟨rfl, rfl⟩) ?_
    change Wp _ _ _ _ [.int x8] _ _
    refine wp_istore_n [some (.ref a), some (.int x8)] xi_141 dX11_high_17 rfl ?_
    refine wp_aload_n xi_141 dX11_high_18 rfl ?_
    obtain ⟨x9, gx9, H⟩ := Option.bind_eq_some_iff.mp H
    refine wq_getfr xi_141 dX11_high_19 xf_11_19 gx9 ?_
    obtain ⟨u10, gu10, H⟩ := Option.bind_eq_some_iff.mp H
    obtain ⟨h11, gh11, H⟩ := Option.bind_eq_some_iff.mp H
    refine wq_callV (a := x9) (as := []) (r := []) (v1 := none) xi_141 xi_50 dX11_high_22 xm_11_244 rfl (Nat.le_of_ble_eq_true rfl) (pG_ok gu10) ⟨(Nat.le_of_ble_eq_true rfl), (Nat.le_of_ble_eq_true rfl)⟩ rfl nofun (e_50 (d + 6) _ gh11 ⟨rfl, rfl⟩) ?_
    change Wp _ _ _ _ [] _ _
    refine wp_aload_n xi_141 dX11_high_25 rfl ?_
    obtain ⟨x12, gx12, H⟩ := Option.bind_eq_some_iff.mp H
    refine wq_getfr xi_141 dX11_high_26 xf_11_19 gx12 ?_
    refine wp_aload_n xi_141 dX11_high_29 rfl ?_
    obtain ⟨x13, gx13, H⟩ := Option.bind_eq_some_iff.mp H
    refine wq_getfr xi_141 dX11_high_30 xf_11_73 gx13 ?_
    obtain ⟨x14, gx14, H⟩ := Option.bind_eq_some_iff.mp H
    refine wq_getfr xi_141 dX11_high_33 xf_11_406 gx14 ?_
    refine wp_iload_n xi_141 dX11_high_36 rfl ?_
    obtain ⟨x15, gx15, H⟩ := Option.bind_eq_some_iff.mp H
    refine wq_iaload xi_141 dX11_high_37 gx15 ?_
    refine wp_i2l xi_141 dX11_high_38 ?_
    obtain ⟨u16, gu16, H⟩ := Option.bind_eq_some_iff.mp H
    obtain ⟨h17, gh17, H⟩ := Option.bind_eq_some_iff.mp H
    refine wq_callV (a := x12) (as := [.long ((x15 : Int32).toInt64)]) (r := []) (v1 := none) xi_141 xi_51 dX11_high_39 xm_11_248 rfl (Nat.le_of_ble_eq_true rfl) (pG_ok gu16) ⟨(Nat.le_of_ble_eq_true rfl), (Nat.le_of_ble_eq_true rfl)⟩ rfl nofun (e_51 (d + 6) _ gh17 ⟨rfl, rfl⟩) ?_
    change Wp _ _ _ _ [] _ _
    refine wp_aload_n xi_141 dX11_high_42 rfl ?_
    obtain ⟨x18, gx18, H⟩ := Option.bind_eq_some_iff.mp H
    refine wq_getfr xi_141 dX11_high_43 xf_11_19 gx18 ?_
    refine wp_aload_n xi_141 dX11_high_46 rfl ?_
    obtain ⟨x19, gx19, H⟩ := Option.bind_eq_some_iff.mp H
    refine wq_getfr xi_141 dX11_high_47 xf_11_73 gx19 ?_
    refine wp_iload_n xi_141 dX11_high_50 rfl ?_
    obtain ⟨u20, gu20, H⟩ := Option.bind_eq_some_iff.mp H
    obtain ⟨⟨x22, h21⟩, gh21, H⟩ := Option.bind_eq_some_iff.mp H
    dsimp only at H
    refine wq_callV (a := x19) (as := [.int x8]) (r := [.ref x18]) (v1 := (some (.int x22))) xi_141 xi_38 dX11_high_51 xm_11_409 rfl (Nat.le_of_ble_eq_true rfl) (pG_ok gu20) ⟨(Nat.le_of_ble_eq_true rfl), (Nat.le_of_ble_eq_true rfl)⟩ rfl nofun (e_38 (d + 5) _ gh21 ⟨rfl, rfl⟩) ?_
    change Wp _ _ _ _ [.int x22, .ref x18] _ _
    refine wp_i2l xi_141 dX11_high_54 ?_
    obtain ⟨u23, gu23, H⟩ := Option.bind_eq_some_iff.mp H
    obtain ⟨h24, gh24, H⟩ := Option.bind_eq_some_iff.mp H
    refine wq_callV (a := x18) (as := [.long ((x22 : Int32).toInt64)]) (r := []) (v1 := none) xi_141 xi_51 dX11_high_55 xm_11_248 rfl (Nat.le_of_ble_eq_true rfl) (pG_ok gu23) ⟨(Nat.le_of_ble_eq_true rfl), (Nat.le_of_ble_eq_true rfl)⟩ rfl nofun (e_51 (d + 6) _ gh24 ⟨rfl, rfl⟩) ?_
    change Wp _ _ _ _ [] _ _
    refine wp_aload_n xi_141 dX11_high_58 rfl ?_
    obtain ⟨x25, gx25, H⟩ := Option.bind_eq_some_iff.mp H
    refine wq_getfr xi_141 dX11_high_59 xf_11_73 gx25 ?_
    obtain ⟨x26, gx26, H⟩ := Option.bind_eq_some_iff.mp H
    refine wq_getfr xi_141 dX11_high_62 xf_11_412 gx26 ?_
    refine wp_iload_n xi_141 dX11_high_65 rfl ?_
    obtain ⟨x27, gx27, H⟩ := Option.bind_eq_some_iff.mp H
    refine wq_iaload xi_141 dX11_high_66 gx27 ?_
    obtain ⟨rfl, rfl⟩ := oi2 H
    exact wp_iret xi_141 dX11_high_67 hq
  · rw [if_pos c4] at H
    refine wp_bipush (-3) xi_141 dX11_high_7 rfl ?_
    obtain ⟨rfl, rfl⟩ := oi2 H
    exact wp_iret xi_141 dX11_high_9 hq
/- FelledHasLost.towers()I -/
def f_142  (a : Nat) (h : xH) : Option (Int32 × xH) :=
  (pG (pIs h a 11)).bind fun _ =>
  (f_137 a h).bind fun (x3, h2) =>
  (if x3 = 0 then
  some ((-3), h2)
  else
  (pFr h2 a 11 1).bind fun x5 =>
  (pG (pIs h2 x5 5)).bind fun _ =>
  (f_50 x5 h2).bind fun h7 =>
  (pFr h7 a 11 1).bind fun x8 =>
  (pFr h7 a 11 9).bind fun x9 =>
  (pG (pIs h7 x9 2)).bind fun _ =>
  (f_40 x9 h7).bind fun (x12, h11) =>
  (pG (pIs h11 x8 5)).bind fun _ =>
  (f_51 x8 ((x12 : Int32).toInt64) h11).bind fun h14 =>
  (pFr h14 a 11 9).bind fun x15 =>
  (pFi h14 x15 2 14).bind fun x16 =>
  some (x16, h14))
set_option maxHeartbeats 4000000 in
theorem e_142 (d : Nat) (Q : Option Value → xH → Prop)  {h : xH} {a : Nat} {x : Int32} {h1 : xH} (H : f_142  a h = some (x, h1)) (hq : Q (some (.int x)) h1) : Wp (d + 7) 142 0 [some (.ref a)] [] h Q := by
  unfold f_142 at H
  refine wp_aload_n xi_142 dX11_towers_0 rfl ?_
  obtain ⟨u1, gu1, H⟩ := Option.bind_eq_some_iff.mp H
  obtain ⟨⟨x3, h2⟩, gh2, H⟩ := Option.bind_eq_some_iff.mp H
  dsimp only at H
  refine wq_callV (a := a) (as := []) (r := []) (v1 := (some (.int x3))) xi_142 xi_137 dX11_towers_1 xm_11_383 rfl (Nat.le_of_ble_eq_true rfl) (pG_ok gu1) ⟨(Nat.le_of_ble_eq_true rfl), (Nat.le_of_ble_eq_true rfl)⟩ rfl nofun (e_137 d _ gh2 ⟨rfl, rfl⟩) ?_
  change Wp _ _ _ _ [.int x3] _ _
  refine wp_if_ne 10 xi_142 dX11_towers_4 rfl (fun c4 => ?_) (fun c4 => ?_)
  · rw [if_neg c4] at H
    refine wp_aload_n xi_142 dX11_towers_10 rfl ?_
    obtain ⟨x5, gx5, H⟩ := Option.bind_eq_some_iff.mp H
    refine wq_getfr xi_142 dX11_towers_11 xf_11_19 gx5 ?_
    obtain ⟨u6, gu6, H⟩ := Option.bind_eq_some_iff.mp H
    obtain ⟨h7, gh7, H⟩ := Option.bind_eq_some_iff.mp H
    refine wq_callV (a := x5) (as := []) (r := []) (v1 := none) xi_142 xi_50 dX11_towers_14 xm_11_244 rfl (Nat.le_of_ble_eq_true rfl) (pG_ok gu6) ⟨(Nat.le_of_ble_eq_true rfl), (Nat.le_of_ble_eq_true rfl)⟩ rfl nofun (e_50 (d + 6) _ gh7 ⟨rfl, rfl⟩) ?_
    change Wp _ _ _ _ [] _ _
    refine wp_aload_n xi_142 dX11_towers_17 rfl ?_
    obtain ⟨x8, gx8, H⟩ := Option.bind_eq_some_iff.mp H
    refine wq_getfr xi_142 dX11_towers_18 xf_11_19 gx8 ?_
    refine wp_aload_n xi_142 dX11_towers_21 rfl ?_
    obtain ⟨x9, gx9, H⟩ := Option.bind_eq_some_iff.mp H
    refine wq_getfr xi_142 dX11_towers_22 xf_11_73 gx9 ?_
    obtain ⟨u10, gu10, H⟩ := Option.bind_eq_some_iff.mp H
    obtain ⟨⟨x12, h11⟩, gh11, H⟩ := Option.bind_eq_some_iff.mp H
    dsimp only at H
    refine wq_callV (a := x9) (as := []) (r := [.ref x8]) (v1 := (some (.int x12))) xi_142 xi_40 dX11_towers_25 xm_11_415 rfl (Nat.le_of_ble_eq_true rfl) (pG_ok gu10) ⟨(Nat.le_of_ble_eq_true rfl), (Nat.le_of_ble_eq_true rfl)⟩ rfl nofun (e_40 (d + 6) _ gh11 ⟨rfl, rfl⟩) ?_
    change Wp _ _ _ _ [.int x12, .ref x8] _ _
    refine wp_i2l xi_142 dX11_towers_28 ?_
    obtain ⟨u13, gu13, H⟩ := Option.bind_eq_some_iff.mp H
    obtain ⟨h14, gh14, H⟩ := Option.bind_eq_some_iff.mp H
    refine wq_callV (a := x8) (as := [.long ((x12 : Int32).toInt64)]) (r := []) (v1 := none) xi_142 xi_51 dX11_towers_29 xm_11_248 rfl (Nat.le_of_ble_eq_true rfl) (pG_ok gu13) ⟨(Nat.le_of_ble_eq_true rfl), (Nat.le_of_ble_eq_true rfl)⟩ rfl nofun (e_51 (d + 6) _ gh14 ⟨rfl, rfl⟩) ?_
    change Wp _ _ _ _ [] _ _
    refine wp_aload_n xi_142 dX11_towers_32 rfl ?_
    obtain ⟨x15, gx15, H⟩ := Option.bind_eq_some_iff.mp H
    refine wq_getfr xi_142 dX11_towers_33 xf_11_73 gx15 ?_
    obtain ⟨x16, gx16, H⟩ := Option.bind_eq_some_iff.mp H
    refine wq_getfi xi_142 dX11_towers_36 xf_11_418 gx16 ?_
    obtain ⟨rfl, rfl⟩ := oi2 H
    exact wp_iret xi_142 dX11_towers_39 hq
  · rw [if_pos c4] at H
    refine wp_bipush (-3) xi_142 dX11_towers_7 rfl ?_
    obtain ⟨rfl, rfl⟩ := oi2 H
    exact wp_iret xi_142 dX11_towers_9 hq
/- FelledHasLost.free(I)I -/
def f_143  (a : Nat) (p0 : Int32) (h : xH) : Option (Int32 × xH) :=
  (if p0 < 0 then
  some ((-1), h)
  else
  (pFr h a 11 2).bind fun x2 =>
  (pFr h x2 7 0).bind fun x3 =>
  (pFi h x3 10 4).bind fun x4 =>
  (if p0 < (3 * x4) then
  (pFr h a 11 9).bind fun x6 =>
  (pFr h a 11 2).bind fun x7 =>
  (pFr h x7 7 0).bind fun x8 =>
  (pFr h a 11 2).bind fun x9 =>
  (pG (pIs h x9 7)).bind fun _ =>
  (f_68 x9 h).bind fun (x12, h11) =>
  (pG (pIs h11 x6 2)).bind fun _ =>
  (f_18 x6 x8 x12 h11).bind fun h14 =>
  (pFr h14 a 11 9).bind fun x15 =>
  (pG (pIs h14 x15 2)).bind fun _ =>
  (f_36 x15 p0 h14).bind fun (x18, h17) =>
  (if x18 = (-1) then
  (pFr h17 a 11 9).bind fun x27 =>
  (pFi h17 x27 2 15).bind fun x28 =>
  ((if x28 = 0 then
  some ((-2))
  else
  some ((-3)) : Option (Int32))).bind fun (w30 : Int32) =>
  some (w30, h17)
  else
  (pFr h17 a 11 9).bind fun x20 =>
  (pFr h17 a 11 1).bind fun x21 =>
  (pG (pIs h17 x20 2)).bind fun _ =>
  (f_39 x20 x18 x21 h17).bind fun h23 =>
  (pFr h23 a 11 9).bind fun x24 =>
  (pFr h23 x24 2 7).bind fun x25 =>
  (pAi h23 x25 x18).bind fun x26 =>
  some (x26, h23))
  else
  some ((-1), h)))
set_option maxHeartbeats 4000000 in
theorem e_143 (d : Nat) (Q : Option Value → xH → Prop)  {h : xH} {a : Nat} {p0 : Int32} {x : Int32} {h1 : xH} (H : f_143  a p0 h = some (x, h1)) (hq : Q (some (.int x)) h1) : Wp (d + 6) 143 0 [some (.ref a), some (.int p0), none] [] h Q := by
  unfold f_143 at H
  refine wp_iload_n xi_143 dX11_free_0 rfl ?_
  refine wp_if_lt 20 xi_143 dX11_free_1 rfl (fun c1 => ?_) (fun c1 => ?_)
  · rw [if_pos c1] at H
    refine wp_iconst (-1) xi_143 dX11_free_20 rfl ?_
    obtain ⟨rfl, rfl⟩ := oi2 H
    exact wp_iret xi_143 dX11_free_21 hq
  · rw [if_neg c1] at H
    refine wp_iload_n xi_143 dX11_free_4 rfl ?_
    refine wp_iconst 3 xi_143 dX11_free_5 rfl ?_
    refine wp_aload_n xi_143 dX11_free_6 rfl ?_
    obtain ⟨x2, gx2, H⟩ := Option.bind_eq_some_iff.mp H
    refine wq_getfr xi_143 dX11_free_7 xf_11_26 gx2 ?_
    obtain ⟨x3, gx3, H⟩ := Option.bind_eq_some_iff.mp H
    refine wq_getfr xi_143 dX11_free_10 xf_11_132 gx3 ?_
    obtain ⟨x4, gx4, H⟩ := Option.bind_eq_some_iff.mp H
    refine wq_getfi xi_143 dX11_free_13 xf_11_147 gx4 ?_
    refine wp_imul xi_143 dX11_free_16 ?_
    refine wp_icmp_lt 22 xi_143 dX11_free_17 rfl (fun c5 => ?_) (fun c5 => ?_)
    · rw [if_pos c5] at H
      refine wp_aload_n xi_143 dX11_free_22 rfl ?_
      obtain ⟨x6, gx6, H⟩ := Option.bind_eq_some_iff.mp H
      refine wq_getfr xi_143 dX11_free_23 xf_11_73 gx6 ?_
      refine wp_aload_n xi_143 dX11_free_26 rfl ?_
      obtain ⟨x7, gx7, H⟩ := Option.bind_eq_some_iff.mp H
      refine wq_getfr xi_143 dX11_free_27 xf_11_26 gx7 ?_
      obtain ⟨x8, gx8, H⟩ := Option.bind_eq_some_iff.mp H
      refine wq_getfr xi_143 dX11_free_30 xf_11_132 gx8 ?_
      refine wp_aload_n xi_143 dX11_free_33 rfl ?_
      obtain ⟨x9, gx9, H⟩ := Option.bind_eq_some_iff.mp H
      refine wq_getfr xi_143 dX11_free_34 xf_11_26 gx9 ?_
      obtain ⟨u10, gu10, H⟩ := Option.bind_eq_some_iff.mp H
      obtain ⟨⟨x12, h11⟩, gh11, H⟩ := Option.bind_eq_some_iff.mp H
      dsimp only at H
      refine wq_callV (a := x9) (as := []) (r := [.ref x8, .ref x6]) (v1 := (some (.int x12))) xi_143 xi_68 dX11_free_37 xm_11_273 rfl (Nat.le_of_ble_eq_true rfl) (pG_ok gu10) ⟨(Nat.le_of_ble_eq_true rfl), (Nat.le_of_ble_eq_true rfl)⟩ rfl nofun (e_68 (d + 5) _ gh11 ⟨rfl, rfl⟩) ?_
      change Wp _ _ _ _ [.int x12, .ref x8, .ref x6] _ _
      obtain ⟨u13, gu13, H⟩ := Option.bind_eq_some_iff.mp H
      obtain ⟨h14, gh14, H⟩ := Option.bind_eq_some_iff.mp H
      refine wq_callV (a := x6) (as := [.ref x8, .int x12]) (r := []) (v1 := none) xi_143 xi_18 dX11_free_40 xm_11_375 rfl (Nat.le_of_ble_eq_true rfl) (pG_ok gu13) ⟨(Nat.le_of_ble_eq_true rfl), (Nat.le_of_ble_eq_true rfl)⟩ rfl nofun (e_18 d _ gh14 ⟨rfl, rfl⟩) ?_
      change Wp _ _ _ _ [] _ _
      refine wp_aload_n xi_143 dX11_free_43 rfl ?_
      obtain ⟨x15, gx15, H⟩ := Option.bind_eq_some_iff.mp H
      refine wq_getfr xi_143 dX11_free_44 xf_11_73 gx15 ?_
      refine wp_iload_n xi_143 dX11_free_47 rfl ?_
      obtain ⟨u16, gu16, H⟩ := Option.bind_eq_some_iff.mp H
      obtain ⟨⟨x18, h17⟩, gh17, H⟩ := Option.bind_eq_some_iff.mp H
      dsimp only at H
      refine wq_callV (a := x15) (as := [.int p0]) (r := []) (v1 := (some (.int x18))) xi_143 xi_36 dX11_free_48 xm_11_421 rfl (Nat.le_of_ble_eq_true rfl) (pG_ok gu16) ⟨(Nat.le_of_ble_eq_true rfl), (Nat.le_of_ble_eq_true rfl)⟩ rfl nofun (e_36 (d + 4) _ gh17 ⟨rfl, rfl⟩) ?_
      change Wp _ _ _ _ [.int x18] _ _
      refine wp_istore_n [some (.ref a), some (.int p0), some (.int x18)] xi_143 dX11_free_51 rfl ?_
      refine wp_iload_n xi_143 dX11_free_52 rfl ?_
      refine wp_iconst (-1) xi_143 dX11_free_53 rfl ?_
      refine wp_icmp_ne 75 xi_143 dX11_free_54 rfl (fun c19 => ?_) (fun c19 => ?_)
      · rw [if_neg c19] at H
        refine wp_aload_n xi_143 dX11_free_75 rfl ?_
        obtain ⟨x20, gx20, H⟩ := Option.bind_eq_some_iff.mp H
        refine wq_getfr xi_143 dX11_free_76 xf_11_73 gx20 ?_
        refine wp_iload_n xi_143 dX11_free_79 rfl ?_
        refine wp_aload_n xi_143 dX11_free_80 rfl ?_
        obtain ⟨x21, gx21, H⟩ := Option.bind_eq_some_iff.mp H
        refine wq_getfr xi_143 dX11_free_81 xf_11_19 gx21 ?_
        obtain ⟨u22, gu22, H⟩ := Option.bind_eq_some_iff.mp H
        obtain ⟨h23, gh23, H⟩ := Option.bind_eq_some_iff.mp H
        refine wq_callV (a := x20) (as := [.int x18, .ref x21]) (r := []) (v1 := none) xi_143 xi_39 dX11_free_84 xm_11_424 rfl (Nat.le_of_ble_eq_true rfl) (pG_ok gu22) ⟨(Nat.le_of_ble_eq_true rfl), (Nat.le_of_ble_eq_true rfl)⟩ rfl nofun (e_39 (d + 4) _ gh23 ⟨rfl, rfl⟩) ?_
        change Wp _ _ _ _ [] _ _
        refine wp_aload_n xi_143 dX11_free_87 rfl ?_
        obtain ⟨x24, gx24, H⟩ := Option.bind_eq_some_iff.mp H
        refine wq_getfr xi_143 dX11_free_88 xf_11_73 gx24 ?_
        obtain ⟨x25, gx25, H⟩ := Option.bind_eq_some_iff.mp H
        refine wq_getfr xi_143 dX11_free_91 xf_11_406 gx25 ?_
        refine wp_iload_n xi_143 dX11_free_94 rfl ?_
        obtain ⟨x26, gx26, H⟩ := Option.bind_eq_some_iff.mp H
        refine wq_iaload xi_143 dX11_free_95 gx26 ?_
        obtain ⟨rfl, rfl⟩ := oi2 H
        exact wp_iret xi_143 dX11_free_96 hq
      · rw [if_pos c19] at H
        refine wp_aload_n xi_143 dX11_free_57 rfl ?_
        obtain ⟨x27, gx27, H⟩ := Option.bind_eq_some_iff.mp H
        refine wq_getfr xi_143 dX11_free_58 xf_11_73 gx27 ?_
        obtain ⟨x28, gx28, H⟩ := Option.bind_eq_some_iff.mp H
        refine wq_getfi xi_143 dX11_free_61 xf_11_379 gx28 ?_
        obtain ⟨w30, G32, H⟩ := Option.bind_eq_some_iff.mp H
        have K31 : Wp (d + 6) 143 74 [some (.ref a), some (.int p0), some (.int x18)] [.int w30] h17 Q := by
          obtain ⟨rfl, rfl⟩ := oi2 H
          exact wp_iret xi_143 dX11_free_74 hq
        clear H
        have H := G32
        clear G32
        refine wp_if_eq 72 xi_143 dX11_free_64 rfl (fun c29 => ?_) (fun c29 => ?_)
        · rw [if_pos c29] at H
          refine wp_bipush (-2) xi_143 dX11_free_72 rfl ?_
          obtain rfl := Option.some.inj H
          exact Wp.more (by simp [xMore, Value.category]) K31
        · rw [if_neg c29] at H
          refine wp_bipush (-3) xi_143 dX11_free_67 rfl ?_
          refine wp_goto 74 xi_143 dX11_free_69 rfl ?_
          obtain rfl := Option.some.inj H
          exact Wp.more (by simp [xMore, Value.category]) K31
    · rw [if_neg c5] at H
      refine wp_iconst (-1) xi_143 dX11_free_20 rfl ?_
      obtain ⟨rfl, rfl⟩ := oi2 H
      exact wp_iret xi_143 dX11_free_21 hq
