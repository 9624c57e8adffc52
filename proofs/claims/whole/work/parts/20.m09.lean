/- FelledHasLost$Rule.readOperator(I)Z -/
def f_61  (a : Nat) (p0 : Int32) (h : xH) : Option (Int32 × xH) :=
  (f_62 (2000 + p0) h).bind fun (x2, h1) =>
  (if x2 = 1 then
  (pFr h1 a 6 4).bind fun x9 =>
  (pFi h1 a 6 8).bind fun x10 =>
  (pAb h1 x9 x10).bind fun x11 =>
  (if x11 = 0 then
  (pFr h1 a 6 4).bind fun x13 =>
  (pFi h1 a 6 8).bind fun x14 =>
  (pSb h1 x13 x14 1).bind fun h15 =>
  (pG (pIs h15 a 6)).bind fun _ =>
  (f_63 a x2 h15).bind fun h17 =>
  (pG (pIs h17 a 6)).bind fun _ =>
  (f_58 a (2000 + p0) h17).bind fun h19 =>
  (pP h19 a 6 10 (.int 1)).bind fun h20 =>
  pZ 1 h20
  else
  pZ 0 h1)
  else
  (pG (pIs h1 a 6)).bind fun _ =>
  (f_63 a x2 h1).bind fun h5 =>
  (pG (pIs h5 a 6)).bind fun _ =>
  (f_58 a (2000 + p0) h5).bind fun h7 =>
  (pP h7 a 6 10 (.int 1)).bind fun h8 =>
  pZ 1 h8)
set_option maxHeartbeats 4000000 in
theorem e_61 (d : Nat) (Q : Option Value → xH → Prop)  {h : xH} {a : Nat} {p0 : Int32} {x : Int32} {h1 : xH} (H : f_61  a p0 h = some (x, h1)) (hq : Q (some (.int x)) h1) : Wp (d + 2) 61 0 [some (.ref a), some (.int p0), none] [] h Q := by
  unfold f_61 at H
  refine wp_sipush 2000 xi_61 dX6_readOperator_0 rfl ?_
  refine wp_iload_n xi_61 dX6_readOperator_3 rfl ?_
  refine wp_iadd xi_61 dX6_readOperator_4 ?_
  obtain ⟨⟨x2, h1⟩, gh1, H⟩ := Option.bind_eq_some_iff.mp H
  dsimp only at H
  refine wq_callS (as := [.int (2000 + p0)]) (r := []) (v1 := (some (.int x2))) xi_61 xi_62 dX6_readOperator_5 xm_6_121 rfl (Nat.le_of_ble_eq_true rfl) ⟨(Nat.le_of_ble_eq_true rfl), (Nat.le_of_ble_eq_true rfl)⟩ rfl nofun (e_62 (d + 1) _ gh1 ⟨rfl, rfl⟩) ?_
  change Wp _ _ _ _ [.int x2] _ _
  refine wp_istore_n [some (.ref a), some (.int p0), some (.int x2)] xi_61 dX6_readOperator_8 rfl ?_
  refine wp_iload_n xi_61 dX6_readOperator_9 rfl ?_
  refine wp_iconst 1 xi_61 dX6_readOperator_10 rfl ?_
  refine wp_icmp_ne 38 xi_61 dX6_readOperator_11 rfl (fun c3 => ?_) (fun c3 => ?_)
  · rw [if_neg c3] at H
    refine wp_aload_n xi_61 dX6_readOperator_38 rfl ?_
    refine wp_iload_n xi_61 dX6_readOperator_39 rfl ?_
    obtain ⟨u4, gu4, H⟩ := Option.bind_eq_some_iff.mp H
    obtain ⟨h5, gh5, H⟩ := Option.bind_eq_some_iff.mp H
    refine wq_callV (a := a) (as := [.int x2]) (r := []) (v1 := none) xi_61 xi_63 dX6_readOperator_40 xm_6_63 rfl (Nat.le_of_ble_eq_true rfl) (pG_ok gu4) ⟨(Nat.le_of_ble_eq_true rfl), (Nat.le_of_ble_eq_true rfl)⟩ rfl nofun (e_63 d _ gh5 ⟨rfl, rfl⟩) ?_
    change Wp _ _ _ _ [] _ _
    refine wp_aload_n xi_61 dX6_readOperator_43 rfl ?_
    refine wp_sipush 2000 xi_61 dX6_readOperator_44 rfl ?_
    refine wp_iload_n xi_61 dX6_readOperator_47 rfl ?_
    refine wp_iadd xi_61 dX6_readOperator_48 ?_
    obtain ⟨u6, gu6, H⟩ := Option.bind_eq_some_iff.mp H
    obtain ⟨h7, gh7, H⟩ := Option.bind_eq_some_iff.mp H
    refine wq_callV (a := a) (as := [.int (2000 + p0)]) (r := []) (v1 := none) xi_61 xi_58 dX6_readOperator_49 xm_6_102 rfl (Nat.le_of_ble_eq_true rfl) (pG_ok gu6) ⟨(Nat.le_of_ble_eq_true rfl), (Nat.le_of_ble_eq_true rfl)⟩ rfl nofun (e_58 (d + 1) _ gh7 ⟨rfl, rfl⟩) ?_
    change Wp _ _ _ _ [] _ _
    refine wp_aload_n xi_61 dX6_readOperator_52 rfl ?_
    refine wp_iconst 1 xi_61 dX6_readOperator_53 rfl ?_
    obtain ⟨h8, gh8, H⟩ := Option.bind_eq_some_iff.mp H
    refine wq_putf xi_61 dX6_readOperator_54 xf_6_49 (Or.inl rfl) gh8 ?_
    refine wp_iconst 1 xi_61 dX6_readOperator_57 rfl ?_
    obtain ⟨gz, hz⟩ := pZ_ok H
    obtain ⟨rfl, rfl⟩ := Prod.mk.inj hz
    exact wp_zret xi_61 dX6_readOperator_58 gz hq
  · rw [if_pos c3] at H
    refine wp_aload_n xi_61 dX6_readOperator_14 rfl ?_
    obtain ⟨x9, gx9, H⟩ := Option.bind_eq_some_iff.mp H
    refine wq_getfr xi_61 dX6_readOperator_15 xf_6_24 gx9 ?_
    refine wp_aload_n xi_61 dX6_readOperator_18 rfl ?_
    obtain ⟨x10, gx10, H⟩ := Option.bind_eq_some_iff.mp H
    refine wq_getfi xi_61 dX6_readOperator_19 xf_6_60 gx10 ?_
    obtain ⟨x11, gx11, H⟩ := Option.bind_eq_some_iff.mp H
    refine wq_baload xi_61 dX6_readOperator_22 gx11 ?_
    refine wp_if_eq 28 xi_61 dX6_readOperator_23 rfl (fun c12 => ?_) (fun c12 => ?_)
    · rw [if_pos c12] at H
      refine wp_aload_n xi_61 dX6_readOperator_28 rfl ?_
      obtain ⟨x13, gx13, H⟩ := Option.bind_eq_some_iff.mp H
      refine wq_getfr xi_61 dX6_readOperator_29 xf_6_24 gx13 ?_
      refine wp_aload_n xi_61 dX6_readOperator_32 rfl ?_
      obtain ⟨x14, gx14, H⟩ := Option.bind_eq_some_iff.mp H
      refine wq_getfi xi_61 dX6_readOperator_33 xf_6_60 gx14 ?_
      refine wp_iconst 1 xi_61 dX6_readOperator_36 rfl ?_
      obtain ⟨h15, gh15, H⟩ := Option.bind_eq_some_iff.mp H
      refine wq_bastore xi_61 dX6_readOperator_37 gh15 ?_
      refine wp_aload_n xi_61 dX6_readOperator_38 rfl ?_
      refine wp_iload_n xi_61 dX6_readOperator_39 rfl ?_
      obtain ⟨u16, gu16, H⟩ := Option.bind_eq_some_iff.mp H
      obtain ⟨h17, gh17, H⟩ := Option.bind_eq_some_iff.mp H
      refine wq_callV (a := a) (as := [.int x2]) (r := []) (v1 := none) xi_61 xi_63 dX6_readOperator_40 xm_6_63 rfl (Nat.le_of_ble_eq_true rfl) (pG_ok gu16) ⟨(Nat.le_of_ble_eq_true rfl), (Nat.le_of_ble_eq_true rfl)⟩ rfl nofun (e_63 d _ gh17 ⟨rfl, rfl⟩) ?_
      change Wp _ _ _ _ [] _ _
      refine wp_aload_n xi_61 dX6_readOperator_43 rfl ?_
      refine wp_sipush 2000 xi_61 dX6_readOperator_44 rfl ?_
      refine wp_iload_n xi_61 dX6_readOperator_47 rfl ?_
      refine wp_iadd xi_61 dX6_readOperator_48 ?_
      obtain ⟨u18, gu18, H⟩ := Option.bind_eq_some_iff.mp H
      obtain ⟨h19, gh19, H⟩ := Option.bind_eq_some_iff.mp H
      refine wq_callV (a := a) (as := [.int (2000 + p0)]) (r := []) (v1 := none) xi_61 xi_58 dX6_readOperator_49 xm_6_102 rfl (Nat.le_of_ble_eq_true rfl) (pG_ok gu18) ⟨(Nat.le_of_ble_eq_true rfl), (Nat.le_of_ble_eq_true rfl)⟩ rfl nofun (e_58 (d + 1) _ gh19 ⟨rfl, rfl⟩) ?_
      change Wp _ _ _ _ [] _ _
      refine wp_aload_n xi_61 dX6_readOperator_52 rfl ?_
      refine wp_iconst 1 xi_61 dX6_readOperator_53 rfl ?_
      obtain ⟨h20, gh20, H⟩ := Option.bind_eq_some_iff.mp H
      refine wq_putf xi_61 dX6_readOperator_54 xf_6_49 (Or.inl rfl) gh20 ?_
      refine wp_iconst 1 xi_61 dX6_readOperator_57 rfl ?_
      obtain ⟨gz, hz⟩ := pZ_ok H
      obtain ⟨rfl, rfl⟩ := Prod.mk.inj hz
      exact wp_zret xi_61 dX6_readOperator_58 gz hq
    · rw [if_neg c12] at H
      refine wp_iconst 0 xi_61 dX6_readOperator_26 rfl ?_
      obtain ⟨gz, hz⟩ := pZ_ok H
      obtain ⟨rfl, rfl⟩ := Prod.mk.inj hz
      exact wp_zret xi_61 dX6_readOperator_27 gz hq
/- FelledHasLost$Rule.valueOf([I)I -/
def f_64_4  : Nat → Nat → Nat → Int32 → Int32 → xH → Option (Int32 × xH)
  | 0, _, _, _, _, _ => none
  | n + 1, a0, a1, a2, a3, h =>
  (pFi h a0 6 5).bind fun x1 =>
  (if x1 ≤ a3 then
  some (a2, h)
  else
  (pFr h a0 6 0).bind fun x3 =>
  (pAi h x3 a3).bind fun x4 =>
  ((if x4 = 3000 then
  (if a2 ≤ 0 then
  (if x4 < 2000 then
  (if (2000 : Int32) ≤ x4 then
  some (a2, h)
  else
  (if (40 : Int32) ≤ a2 then
  some (a2, h)
  else
  (pFr h a0 6 3).bind fun x168 =>
  ((if (1000 : Int32) ≤ x4 then
  (f_65 a1 (x4 - 1000) h).bind fun (x176, h175) =>
  some (x176, h175)
  else
  some (x4, h) : Option (Int32 × xH))).bind fun (w172, h173) =>
  (pSi h173 x168 a2 w172).bind fun h177 =>
  some ((a2 + 1), h177)))
  else
  (if (3000 : Int32) ≤ x4 then
  (if (2000 : Int32) ≤ x4 then
  some (a2, h)
  else
  (if (40 : Int32) ≤ a2 then
  some (a2, h)
  else
  (pFr h a0 6 3).bind fun x182 =>
  ((if (1000 : Int32) ≤ x4 then
  (f_65 a1 (x4 - 1000) h).bind fun (x190, h189) =>
  some (x190, h189)
  else
  some (x4, h) : Option (Int32 × xH))).bind fun (w186, h187) =>
  (pSi h187 x182 a2 w186).bind fun h191 =>
  some ((a2 + 1), h191)))
  else
  (if a2 ≤ 1 then
  (if (2000 : Int32) ≤ x4 then
  some (a2, h)
  else
  (if (40 : Int32) ≤ a2 then
  some (a2, h)
  else
  (pFr h a0 6 3).bind fun x196 =>
  ((if (1000 : Int32) ≤ x4 then
  (f_65 a1 (x4 - 1000) h).bind fun (x204, h203) =>
  some (x204, h203)
  else
  some (x4, h) : Option (Int32 × xH))).bind fun (w200, h201) =>
  (pSi h201 x196 a2 w200).bind fun h205 =>
  some ((a2 + 1), h205)))
  else
  (pFr h a0 6 3).bind fun x207 =>
  (pFr h a0 6 3).bind fun x208 =>
  (pAi h x208 ((a2 + (-1)) - 1)).bind fun x209 =>
  (pFr h a0 6 3).bind fun x210 =>
  (pAi h x210 (a2 + (-1))).bind fun x211 =>
  (f_66 (x4 - 2000) x209 x211 h).bind fun (x213, h212) =>
  (pSi h212 x207 ((a2 + (-1)) - 1) x213).bind fun h214 =>
  some ((a2 + (-1)), h214))))
  else
  (pFr h a0 6 3).bind fun x215 =>
  (pFr h a0 6 3).bind fun x216 =>
  (pAi h x216 (a2 - 1)).bind fun x217 =>
  (pSi h x215 (a2 - 1) (-x217)).bind fun h218 =>
  some (a2, h218))
  else
  (if x4 < 2000 then
  (if (2000 : Int32) ≤ x4 then
  some (a2, h)
  else
  (if (40 : Int32) ≤ a2 then
  some (a2, h)
  else
  (pFr h a0 6 3).bind fun x117 =>
  ((if (1000 : Int32) ≤ x4 then
  (f_65 a1 (x4 - 1000) h).bind fun (x125, h124) =>
  some (x125, h124)
  else
  some (x4, h) : Option (Int32 × xH))).bind fun (w121, h122) =>
  (pSi h122 x117 a2 w121).bind fun h126 =>
  some ((a2 + 1), h126)))
  else
  (if (3000 : Int32) ≤ x4 then
  (if (2000 : Int32) ≤ x4 then
  some (a2, h)
  else
  (if (40 : Int32) ≤ a2 then
  some (a2, h)
  else
  (pFr h a0 6 3).bind fun x131 =>
  ((if (1000 : Int32) ≤ x4 then
  (f_65 a1 (x4 - 1000) h).bind fun (x139, h138) =>
  some (x139, h138)
  else
  some (x4, h) : Option (Int32 × xH))).bind fun (w135, h136) =>
  (pSi h136 x131 a2 w135).bind fun h140 =>
  some ((a2 + 1), h140)))
  else
  (if a2 ≤ 1 then
  (if (2000 : Int32) ≤ x4 then
  some (a2, h)
  else
  (if (40 : Int32) ≤ a2 then
  some (a2, h)
  else
  (pFr h a0 6 3).bind fun x145 =>
  ((if (1000 : Int32) ≤ x4 then
  (f_65 a1 (x4 - 1000) h).bind fun (x153, h152) =>
  some (x153, h152)
  else
  some (x4, h) : Option (Int32 × xH))).bind fun (w149, h150) =>
  (pSi h150 x145 a2 w149).bind fun h154 =>
  some ((a2 + 1), h154)))
  else
  (pFr h a0 6 3).bind fun x156 =>
  (pFr h a0 6 3).bind fun x157 =>
  (pAi h x157 ((a2 + (-1)) - 1)).bind fun x158 =>
  (pFr h a0 6 3).bind fun x159 =>
  (pAi h x159 (a2 + (-1))).bind fun x160 =>
  (f_66 (x4 - 2000) x158 x160 h).bind fun (x162, h161) =>
  (pSi h161 x156 ((a2 + (-1)) - 1) x162).bind fun h163 =>
  some ((a2 + (-1)), h163)))) : Option (Int32 × xH))).bind fun (w111, h112) =>
  f_64_4 n a0 a1 w111 (a3 + 1) h112)
theorem ef_64_4 (d : Nat) (Q : Option Value → xH → Prop)  : ∀ (n : Nat) (a0 : Nat) (a1 : Nat) (a2 : Int32) (a3 : Int32) (h : xH) (r : Int32 × xH), f_64_4 n a0 a1 a2 a3 h = some r → (∀ (w2 : Int32) (h1 : xH), r = (w2, h1) → Wp (d + 1) 64 162 [some (.ref a0), none, some (.int w2), none, none] [] h1 Q) → Wp (d + 1) 64 4 [some (.ref a0), some (.ref a1), some (.int a2), some (.int a3), none] [] h Q := by
  intro n
  induction n with
  | zero =>
    intro a0 a1 a2 a3 h r H
    cases H
  | succ n ih =>
    intro a0 a1 a2 a3 h r H KE
    unfold f_64_4 at H
    refine wp_iload_n xi_64 dX6_valueOf_4 rfl ?_
    refine wp_aload_n xi_64 dX6_valueOf_5 rfl ?_
    obtain ⟨x1, gx1, H⟩ := Option.bind_eq_some_iff.mp H
    refine wq_getfi xi_64 dX6_valueOf_6 xf_6_76 gx1 ?_
    refine wp_icmp_ge 162 xi_64 dX6_valueOf_9 rfl (fun c2 => ?_) (fun c2 => ?_)
    · rw [if_pos c2] at H
      obtain rfl := Option.some.inj H
      exact Wp.more (by simp [xMore, Value.category]) (KE a2 h rfl)
    · rw [if_neg c2] at H
      refine wp_aload_n xi_64 dX6_valueOf_12 rfl ?_
      obtain ⟨x3, gx3, H⟩ := Option.bind_eq_some_iff.mp H
      refine wq_getfr xi_64 dX6_valueOf_13 xf_6_11 gx3 ?_
      refine wp_iload_n xi_64 dX6_valueOf_16 rfl ?_
      obtain ⟨x4, gx4, H⟩ := Option.bind_eq_some_iff.mp H
      refine wq_iaload xi_64 dX6_valueOf_17 gx4 ?_
      refine wp_istore [some (.ref a0), some (.ref a1), some (.int a2), some (.int a3), some (.int x4)] xi_64 dX6_valueOf_18 rfl ?_
      refine wp_iload xi_64 dX6_valueOf_20 rfl ?_
      refine wp_sipush 3000 xi_64 dX6_valueOf_22 rfl ?_
      obtain ⟨⟨w111, h112⟩, G219, H⟩ := Option.bind_eq_some_iff.mp H
      dsimp only at H
      have K113 : Wp (d + 1) 64 156 [some (.ref a0), some (.ref a1), some (.int w111), some (.int a3), some (.int x4)] [] h112 Q := by
        refine wp_iinc (a3 + 1) [some (.ref a0), some (.ref a1), some (.int w111), some (.int (a3 + 1)), some (.int x4)] xi_64 dX6_valueOf_156 rfl rfl rfl ?_
        refine wp_goto 4 xi_64 dX6_valueOf_159 rfl ?_
        exact Wp.more (by simp [xMore, Value.category]) (ih a0 a1 w111 (a3 + 1) h112 _ H KE)
      clear H
      have H := G219
      clear G219
      refine wp_icmp_ne 52 xi_64 dX6_valueOf_25 rfl (fun c5 => ?_) (fun c5 => ?_)
      · rw [if_neg c5] at H
        refine wp_iload xi_64 dX6_valueOf_52 rfl ?_
        refine wp_sipush 2000 xi_64 dX6_valueOf_54 rfl ?_
        refine wp_icmp_lt 110 xi_64 dX6_valueOf_57 rfl (fun c114 => ?_) (fun c114 => ?_)
        · rw [if_pos c114] at H
          refine wp_iload xi_64 dX6_valueOf_110 rfl ?_
          refine wp_sipush 2000 xi_64 dX6_valueOf_112 rfl ?_
          refine wp_icmp_ge 156 xi_64 dX6_valueOf_115 rfl (fun c115 => ?_) (fun c115 => ?_)
          · rw [if_pos c115] at H
            simp only [Option.some.injEq, Prod.mk.injEq] at H
            obtain ⟨rfl, rfl⟩ := H
            exact Wp.more (by simp [xMore, Value.category]) K113
          · rw [if_neg c115] at H
            refine wp_iload_n xi_64 dX6_valueOf_118 rfl ?_
            refine wp_bipush 40 xi_64 dX6_valueOf_119 rfl ?_
            refine wp_icmp_ge 156 xi_64 dX6_valueOf_121 rfl (fun c116 => ?_) (fun c116 => ?_)
            · rw [if_pos c116] at H
              simp only [Option.some.injEq, Prod.mk.injEq] at H
              obtain ⟨rfl, rfl⟩ := H
              exact Wp.more (by simp [xMore, Value.category]) K113
            · rw [if_neg c116] at H
              refine wp_aload_n xi_64 dX6_valueOf_124 rfl ?_
              obtain ⟨x117, gx117, H⟩ := Option.bind_eq_some_iff.mp H
              refine wq_getfr xi_64 dX6_valueOf_125 xf_6_21 gx117 ?_
              refine wp_iload_n xi_64 dX6_valueOf_128 rfl ?_
              refine wp_iinc (a2 + 1) [some (.ref a0), some (.ref a1), some (.int (a2 + 1)), some (.int a3), some (.int x4)] xi_64 dX6_valueOf_129 rfl rfl rfl ?_
              refine wp_iload xi_64 dX6_valueOf_132 rfl ?_
              refine wp_sipush 1000 xi_64 dX6_valueOf_134 rfl ?_
              obtain ⟨⟨w121, h122⟩, G127, H⟩ := Option.bind_eq_some_iff.mp H
              dsimp only at H
              have K123 : Wp (d + 1) 64 155 [some (.ref a0), some (.ref a1), some (.int (a2 + 1)), some (.int a3), some (.int x4)] [.int w121, .int a2, .ref x117] h122 Q := by
                obtain ⟨h126, gh126, H⟩ := Option.bind_eq_some_iff.mp H
                refine wq_iastore xi_64 dX6_valueOf_155 gh126 ?_
                simp only [Option.some.injEq, Prod.mk.injEq] at H
                obtain ⟨rfl, rfl⟩ := H
                exact Wp.more (by simp [xMore, Value.category]) K113
              clear H
              have H := G127
              clear G127
              refine wp_icmp_ge 145 xi_64 dX6_valueOf_137 rfl (fun c118 => ?_) (fun c118 => ?_)
              · rw [if_pos c118] at H
                refine wp_aload_n xi_64 dX6_valueOf_145 rfl ?_
                refine wp_iload xi_64 dX6_valueOf_146 rfl ?_
                refine wp_sipush 1000 xi_64 dX6_valueOf_148 rfl ?_
                refine wp_isub xi_64 dX6_valueOf_151 ?_
                obtain ⟨⟨x125, h124⟩, gh124, H⟩ := Option.bind_eq_some_iff.mp H
                dsimp only at H
                refine wq_callS (as := [.ref a1, .int (x4 - 1000)]) (r := [.int a2, .ref x117]) (v1 := (some (.int x125))) xi_64 xi_65 dX6_valueOf_152 xm_6_128 rfl (Nat.le_of_ble_eq_true rfl) ⟨(Nat.le_of_ble_eq_true rfl), (Nat.le_of_ble_eq_true rfl)⟩ rfl nofun (e_65 d _ gh124 ⟨rfl, rfl⟩) ?_
                change Wp _ _ _ _ [.int x125, .int a2, .ref x117] _ _
                simp only [Option.some.injEq, Prod.mk.injEq] at H
                obtain ⟨rfl, rfl⟩ := H
                exact Wp.more (by simp [xMore, Value.category]) K123
              · rw [if_neg c118] at H
                refine wp_iload xi_64 dX6_valueOf_140 rfl ?_
                refine wp_goto 155 xi_64 dX6_valueOf_142 rfl ?_
                simp only [Option.some.injEq, Prod.mk.injEq] at H
                obtain ⟨rfl, rfl⟩ := H
                exact Wp.more (by simp [xMore, Value.category]) K123
        · rw [if_neg c114] at H
          refine wp_iload xi_64 dX6_valueOf_60 rfl ?_
          refine wp_sipush 3000 xi_64 dX6_valueOf_62 rfl ?_
          refine wp_icmp_ge 110 xi_64 dX6_valueOf_65 rfl (fun c128 => ?_) (fun c128 => ?_)
          · rw [if_pos c128] at H
            refine wp_iload xi_64 dX6_valueOf_110 rfl ?_
            refine wp_sipush 2000 xi_64 dX6_valueOf_112 rfl ?_
            refine wp_icmp_ge 156 xi_64 dX6_valueOf_115 rfl (fun c129 => ?_) (fun c129 => ?_)
            · rw [if_pos c129] at H
              simp only [Option.some.injEq, Prod.mk.injEq] at H
              obtain ⟨rfl, rfl⟩ := H
              exact Wp.more (by simp [xMore, Value.category]) K113
            · rw [if_neg c129] at H
              refine wp_iload_n xi_64 dX6_valueOf_118 rfl ?_
              refine wp_bipush 40 xi_64 dX6_valueOf_119 rfl ?_
              refine wp_icmp_ge 156 xi_64 dX6_valueOf_121 rfl (fun c130 => ?_) (fun c130 => ?_)
              · rw [if_pos c130] at H
                simp only [Option.some.injEq, Prod.mk.injEq] at H
                obtain ⟨rfl, rfl⟩ := H
                exact Wp.more (by simp [xMore, Value.category]) K113
              · rw [if_neg c130] at H
                refine wp_aload_n xi_64 dX6_valueOf_124 rfl ?_
                obtain ⟨x131, gx131, H⟩ := Option.bind_eq_some_iff.mp H
                refine wq_getfr xi_64 dX6_valueOf_125 xf_6_21 gx131 ?_
                refine wp_iload_n xi_64 dX6_valueOf_128 rfl ?_
                refine wp_iinc (a2 + 1) [some (.ref a0), some (.ref a1), some (.int (a2 + 1)), some (.int a3), some (.int x4)] xi_64 dX6_valueOf_129 rfl rfl rfl ?_
                refine wp_iload xi_64 dX6_valueOf_132 rfl ?_
                refine wp_sipush 1000 xi_64 dX6_valueOf_134 rfl ?_
                obtain ⟨⟨w135, h136⟩, G141, H⟩ := Option.bind_eq_some_iff.mp H
                dsimp only at H
                have K137 : Wp (d + 1) 64 155 [some (.ref a0), some (.ref a1), some (.int (a2 + 1)), some (.int a3), some (.int x4)] [.int w135, .int a2, .ref x131] h136 Q := by
                  obtain ⟨h140, gh140, H⟩ := Option.bind_eq_some_iff.mp H
                  refine wq_iastore xi_64 dX6_valueOf_155 gh140 ?_
                  simp only [Option.some.injEq, Prod.mk.injEq] at H
                  obtain ⟨rfl, rfl⟩ := H
                  exact Wp.more (by simp [xMore, Value.category]) K113
                clear H
                have H := G141
                clear G141
                refine wp_icmp_ge 145 xi_64 dX6_valueOf_137 rfl (fun c132 => ?_) (fun c132 => ?_)
                · rw [if_pos c132] at H
                  refine wp_aload_n xi_64 dX6_valueOf_145 rfl ?_
                  refine wp_iload xi_64 dX6_valueOf_146 rfl ?_
                  refine wp_sipush 1000 xi_64 dX6_valueOf_148 rfl ?_
                  refine wp_isub xi_64 dX6_valueOf_151 ?_
                  obtain ⟨⟨x139, h138⟩, gh138, H⟩ := Option.bind_eq_some_iff.mp H
                  dsimp only at H
                  refine wq_callS (as := [.ref a1, .int (x4 - 1000)]) (r := [.int a2, .ref x131]) (v1 := (some (.int x139))) xi_64 xi_65 dX6_valueOf_152 xm_6_128 rfl (Nat.le_of_ble_eq_true rfl) ⟨(Nat.le_of_ble_eq_true rfl), (Nat.le_of_ble_eq_true rfl)⟩ rfl nofun (e_65 d _ gh138 ⟨rfl, rfl⟩) ?_
                  change Wp _ _ _ _ [.int x139, .int a2, .ref x131] _ _
                  simp only [Option.some.injEq, Prod.mk.injEq] at H
                  obtain ⟨rfl, rfl⟩ := H
                  exact Wp.more (by simp [xMore, Value.category]) K137
                · rw [if_neg c132] at H
                  refine wp_iload xi_64 dX6_valueOf_140 rfl ?_
                  refine wp_goto 155 xi_64 dX6_valueOf_142 rfl ?_
                  simp only [Option.some.injEq, Prod.mk.injEq] at H
                  obtain ⟨rfl, rfl⟩ := H
                  exact Wp.more (by simp [xMore, Value.category]) K137
          · rw [if_neg c128] at H
            refine wp_iload_n xi_64 dX6_valueOf_68 rfl ?_
            refine wp_iconst 1 xi_64 dX6_valueOf_69 rfl ?_
            refine wp_icmp_le 110 xi_64 dX6_valueOf_70 rfl (fun c142 => ?_) (fun c142 => ?_)
            · rw [if_pos c142] at H
              refine wp_iload xi_64 dX6_valueOf_110 rfl ?_
              refine wp_sipush 2000 xi_64 dX6_valueOf_112 rfl ?_
              refine wp_icmp_ge 156 xi_64 dX6_valueOf_115 rfl (fun c143 => ?_) (fun c143 => ?_)
              · rw [if_pos c143] at H
                simp only [Option.some.injEq, Prod.mk.injEq] at H
                obtain ⟨rfl, rfl⟩ := H
                exact Wp.more (by simp [xMore, Value.category]) K113
              · rw [if_neg c143] at H
                refine wp_iload_n xi_64 dX6_valueOf_118 rfl ?_
                refine wp_bipush 40 xi_64 dX6_valueOf_119 rfl ?_
                refine wp_icmp_ge 156 xi_64 dX6_valueOf_121 rfl (fun c144 => ?_) (fun c144 => ?_)
                · rw [if_pos c144] at H
                  simp only [Option.some.injEq, Prod.mk.injEq] at H
                  obtain ⟨rfl, rfl⟩ := H
                  exact Wp.more (by simp [xMore, Value.category]) K113
                · rw [if_neg c144] at H
                  refine wp_aload_n xi_64 dX6_valueOf_124 rfl ?_
                  obtain ⟨x145, gx145, H⟩ := Option.bind_eq_some_iff.mp H
                  refine wq_getfr xi_64 dX6_valueOf_125 xf_6_21 gx145 ?_
                  refine wp_iload_n xi_64 dX6_valueOf_128 rfl ?_
                  refine wp_iinc (a2 + 1) [some (.ref a0), some (.ref a1), some (.int (a2 + 1)), some (.int a3), some (.int x4)] xi_64 dX6_valueOf_129 rfl rfl rfl ?_
                  refine wp_iload xi_64 dX6_valueOf_132 rfl ?_
                  refine wp_sipush 1000 xi_64 dX6_valueOf_134 rfl ?_
                  obtain ⟨⟨w149, h150⟩, G155, H⟩ := Option.bind_eq_some_iff.mp H
                  dsimp only at H
                  have K151 : Wp (d + 1) 64 155 [some (.ref a0), some (.ref a1), some (.int (a2 + 1)), some (.int a3), some (.int x4)] [.int w149, .int a2, .ref x145] h150 Q := by
                    obtain ⟨h154, gh154, H⟩ := Option.bind_eq_some_iff.mp H
                    refine wq_iastore xi_64 dX6_valueOf_155 gh154 ?_
                    simp only [Option.some.injEq, Prod.mk.injEq] at H
                    obtain ⟨rfl, rfl⟩ := H
                    exact Wp.more (by simp [xMore, Value.category]) K113
                  clear H
                  have H := G155
                  clear G155
                  refine wp_icmp_ge 145 xi_64 dX6_valueOf_137 rfl (fun c146 => ?_) (fun c146 => ?_)
                  · rw [if_pos c146] at H
                    refine wp_aload_n xi_64 dX6_valueOf_145 rfl ?_
                    refine wp_iload xi_64 dX6_valueOf_146 rfl ?_
                    refine wp_sipush 1000 xi_64 dX6_valueOf_148 rfl ?_
                    refine wp_isub xi_64 dX6_valueOf_151 ?_
                    obtain ⟨⟨x153, h152⟩, gh152, H⟩ := Option.bind_eq_some_iff.mp H
                    dsimp only at H
                    refine wq_callS (as := [.ref a1, .int (x4 - 1000)]) (r := [.int a2, .ref x145]) (v1 := (some (.int x153))) xi_64 xi_65 dX6_valueOf_152 xm_6_128 rfl (Nat.le_of_ble_eq_true rfl) ⟨(Nat.le_of_ble_eq_true rfl), (Nat.le_of_ble_eq_true rfl)⟩ rfl nofun (e_65 d _ gh152 ⟨rfl, rfl⟩) ?_
                    change Wp _ _ _ _ [.int x153, .int a2, .ref x145] _ _
                    simp only [Option.some.injEq, Prod.mk.injEq] at H
                    obtain ⟨rfl, rfl⟩ := H
                    exact Wp.more (by simp [xMore, Value.category]) K151
                  · rw [if_neg c146] at H
                    refine wp_iload xi_64 dX6_valueOf_140 rfl ?_
                    refine wp_goto 155 xi_64 dX6_valueOf_142 rfl ?_
                    simp only [Option.some.injEq, Prod.mk.injEq] at H
                    obtain ⟨rfl, rfl⟩ := H
                    exact Wp.more (by simp [xMore, Value.category]) K151
            · rw [if_neg c142] at H
              refine wp_iinc (a2 + (-1)) [some (.ref a0), some (.ref a1), some (.int (a2 + (-1))), some (.int a3), some (.int x4)] xi_64 dX6_valueOf_73 rfl rfl rfl ?_
              refine wp_aload_n xi_64 dX6_valueOf_76 rfl ?_
              obtain ⟨x156, gx156, H⟩ := Option.bind_eq_some_iff.mp H
              refine wq_getfr xi_64 dX6_valueOf_77 xf_6_21 gx156 ?_
              refine wp_iload_n xi_64 dX6_valueOf_80 rfl ?_
              refine wp_iconst 1 xi_64 dX6_valueOf_81 rfl ?_
              refine wp_isub xi_64 dX6_valueOf_82 ?_
              refine wp_iload xi_64 dX6_valueOf_83 rfl ?_
              refine wp_sipush 2000 xi_64 dX6_valueOf_85 rfl ?_
              refine wp_isub xi_64 dX6_valueOf_88 ?_
              refine wp_aload_n xi_64 dX6_valueOf_89 rfl ?_
              obtain ⟨x157, gx157, H⟩ := Option.bind_eq_some_iff.mp H
              refine wq_getfr xi_64 dX6_valueOf_90 xf_6_21 gx157 ?_
              refine wp_iload_n xi_64 dX6_valueOf_93 rfl ?_
              refine wp_iconst 1 xi_64 dX6_valueOf_94 rfl ?_
              refine wp_isub xi_64 dX6_valueOf_95 ?_
              obtain ⟨x158, gx158, H⟩ := Option.bind_eq_some_iff.mp H
              refine wq_iaload xi_64 dX6_valueOf_96 gx158 ?_
              refine wp_aload_n xi_64 dX6_valueOf_97 rfl ?_
              obtain ⟨x159, gx159, H⟩ := Option.bind_eq_some_iff.mp H
              refine wq_getfr xi_64 dX6_valueOf_98 xf_6_21 gx159 ?_
              refine wp_iload_n xi_64 dX6_valueOf_101 rfl ?_
              obtain ⟨x160, gx160, H⟩ := Option.bind_eq_some_iff.mp H
              refine wq_iaload xi_64 dX6_valueOf_102 gx160 ?_
              obtain ⟨⟨x162, h161⟩, gh161, H⟩ := Option.bind_eq_some_iff.mp H
              dsimp only at H
              refine wq_callS (as := [.int (x4 - 2000), .int x158, .int x160]) (r := [.int ((a2 + (-1)) - 1), .ref x156]) (v1 := (some (.int x162))) xi_64 xi_66 dX6_valueOf_103 xm_6_124 rfl (Nat.le_of_ble_eq_true rfl) ⟨(Nat.le_of_ble_eq_true rfl), (Nat.le_of_ble_eq_true rfl)⟩ rfl nofun (e_66 d _ gh161 ⟨rfl, rfl⟩) ?_
              change Wp _ _ _ _ [.int x162, .int ((a2 + (-1)) - 1), .ref x156] _ _
              obtain ⟨h163, gh163, H⟩ := Option.bind_eq_some_iff.mp H
              refine wq_iastore xi_64 dX6_valueOf_106 gh163 ?_
              refine wp_goto 156 xi_64 dX6_valueOf_107 rfl ?_
              simp only [Option.some.injEq, Prod.mk.injEq] at H
              obtain ⟨rfl, rfl⟩ := H
              exact Wp.more (by simp [xMore, Value.category]) K113
      · rw [if_pos c5] at H
        refine wp_iload_n xi_64 dX6_valueOf_28 rfl ?_
        refine wp_if_le 52 xi_64 dX6_valueOf_29 rfl (fun c164 => ?_) (fun c164 => ?_)
        · rw [if_pos c164] at H
          refine wp_iload xi_64 dX6_valueOf_52 rfl ?_
          refine wp_sipush 2000 xi_64 dX6_valueOf_54 rfl ?_
          refine wp_icmp_lt 110 xi_64 dX6_valueOf_57 rfl (fun c165 => ?_) (fun c165 => ?_)
          · rw [if_pos c165] at H
            refine wp_iload xi_64 dX6_valueOf_110 rfl ?_
            refine wp_sipush 2000 xi_64 dX6_valueOf_112 rfl ?_
            refine wp_icmp_ge 156 xi_64 dX6_valueOf_115 rfl (fun c166 => ?_) (fun c166 => ?_)
            · rw [if_pos c166] at H
              simp only [Option.some.injEq, Prod.mk.injEq] at H
              obtain ⟨rfl, rfl⟩ := H
              exact Wp.more (by simp [xMore, Value.category]) K113
            · rw [if_neg c166] at H
              refine wp_iload_n xi_64 dX6_valueOf_118 rfl ?_
              refine wp_bipush 40 xi_64 dX6_valueOf_119 rfl ?_
              refine wp_icmp_ge 156 xi_64 dX6_valueOf_121 rfl (fun c167 => ?_) (fun c167 => ?_)
              · rw [if_pos c167] at H
                simp only [Option.some.injEq, Prod.mk.injEq] at H
                obtain ⟨rfl, rfl⟩ := H
                exact Wp.more (by simp [xMore, Value.category]) K113
              · rw [if_neg c167] at H
                refine wp_aload_n xi_64 dX6_valueOf_124 rfl ?_
                obtain ⟨x168, gx168, H⟩ := Option.bind_eq_some_iff.mp H
                refine wq_getfr xi_64 dX6_valueOf_125 xf_6_21 gx168 ?_
                refine wp_iload_n xi_64 dX6_valueOf_128 rfl ?_
                refine wp_iinc (a2 + 1) [some (.ref a0), some (.ref a1), some (.int (a2 + 1)), some (.int a3), some (.int x4)] xi_64 dX6_valueOf_129 rfl rfl rfl ?_
                refine wp_iload xi_64 dX6_valueOf_132 rfl ?_
                refine wp_sipush 1000 xi_64 dX6_valueOf_134 rfl ?_
                obtain ⟨⟨w172, h173⟩, G178, H⟩ := Option.bind_eq_some_iff.mp H
                dsimp only at H
                have K174 : Wp (d + 1) 64 155 [some (.ref a0), some (.ref a1), some (.int (a2 + 1)), some (.int a3), some (.int x4)] [.int w172, .int a2, .ref x168] h173 Q := by
                  obtain ⟨h177, gh177, H⟩ := Option.bind_eq_some_iff.mp H
                  refine wq_iastore xi_64 dX6_valueOf_155 gh177 ?_
                  simp only [Option.some.injEq, Prod.mk.injEq] at H
                  obtain ⟨rfl, rfl⟩ := H
                  exact Wp.more (by simp [xMore, Value.category]) K113
                clear H
                have H := G178
                clear G178
                refine wp_icmp_ge 145 xi_64 dX6_valueOf_137 rfl (fun c169 => ?_) (fun c169 => ?_)
                · rw [if_pos c169] at H
                  refine wp_aload_n xi_64 dX6_valueOf_145 rfl ?_
                  refine wp_iload xi_64 dX6_valueOf_146 rfl ?_
                  refine wp_sipush 1000 xi_64 dX6_valueOf_148 rfl ?_
                  refine wp_isub xi_64 dX6_valueOf_151 ?_
                  obtain ⟨⟨x176, h175⟩, gh175, H⟩ := Option.bind_eq_some_iff.mp H
                  dsimp only at H
                  refine wq_callS (as := [.ref a1, .int (x4 - 1000)]) (r := [.int a2, .ref x168]) (v1 := (some (.int x176))) xi_64 xi_65 dX6_valueOf_152 xm_6_128 rfl (Nat.le_of_ble_eq_true rfl) ⟨(Nat.le_of_ble_eq_true rfl), (Nat.le_of_ble_eq_true rfl)⟩ rfl nofun (e_65 d _ gh175 ⟨rfl, rfl⟩) ?_
                  change Wp _ _ _ _ [.int x176, .int a2, .ref x168] _ _
                  simp only [Option.some.injEq, Prod.mk.injEq] at H
                  obtain ⟨rfl, rfl⟩ := H
                  exact Wp.more (by simp [xMore, Value.category]) K174
                · rw [if_neg c169] at H
                  refine wp_iload xi_64 dX6_valueOf_140 rfl ?_
                  refine wp_goto 155 xi_64 dX6_valueOf_142 rfl ?_
                  simp only [Option.some.injEq, Prod.mk.injEq] at H
                  obtain ⟨rfl, rfl⟩ := H
                  exact Wp.more (by simp [xMore, Value.category]) K174
          · rw [if_neg c165] at H
            refine wp_iload xi_64 dX6_valueOf_60 rfl ?_
            refine wp_sipush 3000 xi_64 dX6_valueOf_62 rfl ?_
            refine wp_icmp_ge 110 xi_64 dX6_valueOf_65 rfl (fun c179 => ?_) (fun c179 => ?_)
            · rw [if_pos c179] at H
              refine wp_iload xi_64 dX6_valueOf_110 rfl ?_
              refine wp_sipush 2000 xi_64 dX6_valueOf_112 rfl ?_
              refine wp_icmp_ge 156 xi_64 dX6_valueOf_115 rfl (fun c180 => ?_) (fun c180 => ?_)
              · rw [if_pos c180] at H
                simp only [Option.some.injEq, Prod.mk.injEq] at H
                obtain ⟨rfl, rfl⟩ := H
                exact Wp.more (by simp [xMore, Value.category]) K113
              · rw [if_neg c180] at H
                refine wp_iload_n xi_64 dX6_valueOf_118 rfl ?_
                refine wp_bipush 40 xi_64 dX6_valueOf_119 rfl ?_
                refine wp_icmp_ge 156 xi_64 dX6_valueOf_121 rfl (fun c181 => ?_) (fun c181 => ?_)
                · rw [if_pos c181] at H
                  simp only [Option.some.injEq, Prod.mk.injEq] at H
                  obtain ⟨rfl, rfl⟩ := H
                  exact Wp.more (by simp [xMore, Value.category]) K113
                · rw [if_neg c181] at H
                  refine wp_aload_n xi_64 dX6_valueOf_124 rfl ?_
                  obtain ⟨x182, gx182, H⟩ := Option.bind_eq_some_iff.mp H
                  refine wq_getfr xi_64 dX6_valueOf_125 xf_6_21 gx182 ?_
                  refine wp_iload_n xi_64 dX6_valueOf_128 rfl ?_
                  refine wp_iinc (a2 + 1) [some (.ref a0), some (.ref a1), some (.int (a2 + 1)), some (.int a3), some (.int x4)] xi_64 dX6_valueOf_129 rfl rfl rfl ?_
                  refine wp_iload xi_64 dX6_valueOf_132 rfl ?_
                  refine wp_sipush 1000 xi_64 dX6_valueOf_134 rfl ?_
                  obtain ⟨⟨w186, h187⟩, G192, H⟩ := Option.bind_eq_some_iff.mp H
                  dsimp only at H
                  have K188 : Wp (d + 1) 64 155 [some (.ref a0), some (.ref a1), some (.int (a2 + 1)), some (.int a3), some (.int x4)] [.int w186, .int a2, .ref x182] h187 Q := by
                    obtain ⟨h191, gh191, H⟩ := Option.bind_eq_some_iff.mp H
                    refine wq_iastore xi_64 dX6_valueOf_155 gh191 ?_
                    simp only [Option.some.injEq, Prod.mk.injEq] at H
                    obtain ⟨rfl, rfl⟩ := H
                    exact Wp.more (by simp [xMore, Value.category]) K113
                  clear H
                  have H := G192
                  clear G192
                  refine wp_icmp_ge 145 xi_64 dX6_valueOf_137 rfl (fun c183 => ?_) (fun c183 => ?_)
                  · rw [if_pos c183] at H
                    refine wp_aload_n xi_64 dX6_valueOf_145 rfl ?_
                    refine wp_iload xi_64 dX6_valueOf_146 rfl ?_
                    refine wp_sipush 1000 xi_64 dX6_valueOf_148 rfl ?_
                    refine wp_isub xi_64 dX6_valueOf_151 ?_
                    obtain ⟨⟨x190, h189⟩, gh189, H⟩ := Option.bind_eq_some_iff.mp H
                    dsimp only at H
                    refine wq_callS (as := [.ref a1, .int (x4 - 1000)]) (r := [.int a2, .ref x182]) (v1 := (some (.int x190))) xi_64 xi_65 dX6_valueOf_152 xm_6_128 rfl (Nat.le_of_ble_eq_true rfl) ⟨(Nat.le_of_ble_eq_true rfl), (Nat.le_of_ble_eq_true rfl)⟩ rfl nofun (e_65 d _ gh189 ⟨rfl, rfl⟩) ?_
                    change Wp _ _ _ _ [.int x190, .int a2, .ref x182] _ _
                    simp only [Option.some.injEq, Prod.mk.injEq] at H
                    obtain ⟨rfl, rfl⟩ := H
                    exact Wp.more (by simp [xMore, Value.category]) K188
                  · rw [if_neg c183] at H
                    refine wp_iload xi_64 dX6_valueOf_140 rfl ?_
                    refine wp_goto 155 xi_64 dX6_valueOf_142 rfl ?_
                    simp only [Option.some.injEq, Prod.mk.injEq] at H
                    obtain ⟨rfl, rfl⟩ := H
                    exact Wp.more (by simp [xMore, Value.category]) K188
            · rw [if_neg c179] at H
              refine wp_iload_n xi_64 dX6_valueOf_68 rfl ?_
              refine wp_iconst 1 xi_64 dX6_valueOf_69 rfl ?_
              refine wp_icmp_le 110 xi_64 dX6_valueOf_70 rfl (fun c193 => ?_) (fun c193 => ?_)
              · rw [if_pos c193] at H
                refine wp_iload xi_64 dX6_valueOf_110 rfl ?_
                refine wp_sipush 2000 xi_64 dX6_valueOf_112 rfl ?_
                refine wp_icmp_ge 156 xi_64 dX6_valueOf_115 rfl (fun c194 => ?_) (fun c194 => ?_)
                · rw [if_pos c194] at H
                  simp only [Option.some.injEq, Prod.mk.injEq] at H
                  obtain ⟨rfl, rfl⟩ := H
                  exact Wp.more (by simp [xMore, Value.category]) K113
                · rw [if_neg c194] at H
                  refine wp_iload_n xi_64 dX6_valueOf_118 rfl ?_
                  refine wp_bipush 40 xi_64 dX6_valueOf_119 rfl ?_
                  refine wp_icmp_ge 156 xi_64 dX6_valueOf_121 rfl (fun c195 => ?_) (fun c195 => ?_)
                  · rw [if_pos c195] at H
                    simp only [Option.some.injEq, Prod.mk.injEq] at H
                    obtain ⟨rfl, rfl⟩ := H
                    exact Wp.more (by simp [xMore, Value.category]) K113
                  · rw [if_neg c195] at H
                    refine wp_aload_n xi_64 dX6_valueOf_124 rfl ?_
                    obtain ⟨x196, gx196, H⟩ := Option.bind_eq_some_iff.mp H
                    refine wq_getfr xi_64 dX6_valueOf_125 xf_6_21 gx196 ?_
                    refine wp_iload_n xi_64 dX6_valueOf_128 rfl ?_
                    refine wp_iinc (a2 + 1) [some (.ref a0), some (.ref a1), some (.int (a2 + 1)), some (.int a3), some (.int x4)] xi_64 dX6_valueOf_129 rfl rfl rfl ?_
                    refine wp_iload xi_64 dX6_valueOf_132 rfl ?_
                    refine wp_sipush 1000 xi_64 dX6_valueOf_134 rfl ?_
                    obtain ⟨⟨w200, h201⟩, G206, H⟩ := Option.bind_eq_some_iff.mp H
                    dsimp only at H
                    have K202 : Wp (d + 1) 64 155 [some (.ref a0), some (.ref a1), some (.int (a2 + 1)), some (.int a3), some (.int x4)] [.int w200, .int a2, .ref x196] h201 Q := by
                      obtain ⟨h205, gh205, H⟩ := Option.bind_eq_some_iff.mp H
                      refine wq_iastore xi_64 dX6_valueOf_155 gh205 ?_
                      simp only [Option.some.injEq, Prod.mk.injEq] at H
                      obtain ⟨rfl, rfl⟩ := H
                      exact Wp.more (by simp [xMore, Value.category]) K113
                    clear H
                    have H := G206
                    clear G206
                    refine wp_icmp_ge 145 xi_64 dX6_valueOf_137 rfl (fun c197 => ?_) (fun c197 => ?_)
                    · rw [if_pos c197] at H
                      refine wp_aload_n xi_64 dX6_valueOf_145 rfl ?_
                      refine wp_iload xi_64 dX6_valueOf_146 rfl ?_
                      refine wp_sipush 1000 xi_64 dX6_valueOf_148 rfl ?_
                      refine wp_isub xi_64 dX6_valueOf_151 ?_
                      obtain ⟨⟨x204, h203⟩, gh203, H⟩ := Option.bind_eq_some_iff.mp H
                      dsimp only at H
                      refine wq_callS (as := [.ref a1, .int (x4 - 1000)]) (r := [.int a2, .ref x196]) (v1 := (some (.int x204))) xi_64 xi_65 dX6_valueOf_152 xm_6_128 rfl (Nat.le_of_ble_eq_true rfl) ⟨(Nat.le_of_ble_eq_true rfl), (Nat.le_of_ble_eq_true rfl)⟩ rfl nofun (e_65 d _ gh203 ⟨rfl, rfl⟩) ?_
                      change Wp _ _ _ _ [.int x204, .int a2, .ref x196] _ _
                      simp only [Option.some.injEq, Prod.mk.injEq] at H
                      obtain ⟨rfl, rfl⟩ := H
                      exact Wp.more (by simp [xMore, Value.category]) K202
                    · rw [if_neg c197] at H
                      refine wp_iload xi_64 dX6_valueOf_140 rfl ?_
                      refine wp_goto 155 xi_64 dX6_valueOf_142 rfl ?_
                      simp only [Option.some.injEq, Prod.mk.injEq] at H
                      obtain ⟨rfl, rfl⟩ := H
                      exact Wp.more (by simp [xMore, Value.category]) K202
              · rw [if_neg c193] at H
                refine wp_iinc (a2 + (-1)) [some (.ref a0), some (.ref a1), some (.int (a2 + (-1))), some (.int a3), some (.int x4)] xi_64 dX6_valueOf_73 rfl rfl rfl ?_
                refine wp_aload_n xi_64 dX6_valueOf_76 rfl ?_
                obtain ⟨x207, gx207, H⟩ := Option.bind_eq_some_iff.mp H
                refine wq_getfr xi_64 dX6_valueOf_77 xf_6_21 gx207 ?_
                refine wp_iload_n xi_64 dX6_valueOf_80 rfl ?_
                refine wp_iconst 1 xi_64 dX6_valueOf_81 rfl ?_
                refine wp_isub xi_64 dX6_valueOf_82 ?_
                refine wp_iload xi_64 dX6_valueOf_83 rfl ?_
                refine wp_sipush 2000 xi_64 dX6_valueOf_85 rfl ?_
                refine wp_isub xi_64 dX6_valueOf_88 ?_
                refine wp_aload_n xi_64 dX6_valueOf_89 rfl ?_
                obtain ⟨x208, gx208, H⟩ := Option.bind_eq_some_iff.mp H
                refine wq_getfr xi_64 dX6_valueOf_90 xf_6_21 gx208 ?_
                refine wp_iload_n xi_64 dX6_valueOf_93 rfl ?_
                refine wp_iconst 1 xi_64 dX6_valueOf_94 rfl ?_
                refine wp_isub xi_64 dX6_valueOf_95 ?_
                obtain ⟨x209, gx209, H⟩ := Option.bind_eq_some_iff.mp H
                refine wq_iaload xi_64 dX6_valueOf_96 gx209 ?_
                refine wp_aload_n xi_64 dX6_valueOf_97 rfl ?_
                obtain ⟨x210, gx210, H⟩ := Option.bind_eq_some_iff.mp H
                refine wq_getfr xi_64 dX6_valueOf_98 xf_6_21 gx210 ?_
                refine wp_iload_n xi_64 dX6_valueOf_101 rfl ?_
                obtain ⟨x211, gx211, H⟩ := Option.bind_eq_some_iff.mp H
                refine wq_iaload xi_64 dX6_valueOf_102 gx211 ?_
                obtain ⟨⟨x213, h212⟩, gh212, H⟩ := Option.bind_eq_some_iff.mp H
                dsimp only at H
                refine wq_callS (as := [.int (x4 - 2000), .int x209, .int x211]) (r := [.int ((a2 + (-1)) - 1), .ref x207]) (v1 := (some (.int x213))) xi_64 xi_66 dX6_valueOf_103 xm_6_124 rfl (Nat.le_of_ble_eq_true rfl) ⟨(Nat.le_of_ble_eq_true rfl), (Nat.le_of_ble_eq_true rfl)⟩ rfl nofun (e_66 d _ gh212 ⟨rfl, rfl⟩) ?_
                change Wp _ _ _ _ [.int x213, .int ((a2 + (-1)) - 1), .ref x207] _ _
                obtain ⟨h214, gh214, H⟩ := Option.bind_eq_some_iff.mp H
                refine wq_iastore xi_64 dX6_valueOf_106 gh214 ?_
                refine wp_goto 156 xi_64 dX6_valueOf_107 rfl ?_
                simp only [Option.some.injEq, Prod.mk.injEq] at H
                obtain ⟨rfl, rfl⟩ := H
                exact Wp.more (by simp [xMore, Value.category]) K113
        · rw [if_neg c164] at H
          refine wp_aload_n xi_64 dX6_valueOf_32 rfl ?_
          obtain ⟨x215, gx215, H⟩ := Option.bind_eq_some_iff.mp H
          refine wq_getfr xi_64 dX6_valueOf_33 xf_6_21 gx215 ?_
          refine wp_iload_n xi_64 dX6_valueOf_36 rfl ?_
          refine wp_iconst 1 xi_64 dX6_valueOf_37 rfl ?_
          refine wp_isub xi_64 dX6_valueOf_38 ?_
          refine wp_aload_n xi_64 dX6_valueOf_39 rfl ?_
          obtain ⟨x216, gx216, H⟩ := Option.bind_eq_some_iff.mp H
          refine wq_getfr xi_64 dX6_valueOf_40 xf_6_21 gx216 ?_
          refine wp_iload_n xi_64 dX6_valueOf_43 rfl ?_
          refine wp_iconst 1 xi_64 dX6_valueOf_44 rfl ?_
          refine wp_isub xi_64 dX6_valueOf_45 ?_
          obtain ⟨x217, gx217, H⟩ := Option.bind_eq_some_iff.mp H
          refine wq_iaload xi_64 dX6_valueOf_46 gx217 ?_
          refine wp_ineg xi_64 dX6_valueOf_47 ?_
          obtain ⟨h218, gh218, H⟩ := Option.bind_eq_some_iff.mp H
          refine wq_iastore xi_64 dX6_valueOf_48 gh218 ?_
          refine wp_goto 156 xi_64 dX6_valueOf_49 rfl ?_
          simp only [Option.some.injEq, Prod.mk.injEq] at H
          obtain ⟨rfl, rfl⟩ := H
          exact Wp.more (by simp [xMore, Value.category]) K113
def f_64  (a : Nat) (p0 : Nat) (h : xH) : Option (Int32 × xH) :=
  (f_64_4 100000 a p0 0 0 h).bind fun (w2, h1) =>
  ((if w2 ≤ 0 then
  some (0)
  else
  (pFr h1 a 6 3).bind fun x10 =>
  (pAi h1 x10 0).bind fun x11 =>
  some (x11) : Option (Int32))).bind fun (w8 : Int32) =>
  some (w8, h1)
set_option maxHeartbeats 4000000 in
theorem e_64 (d : Nat) (Q : Option Value → xH → Prop)  {h : xH} {a : Nat} {p0 : Nat} {x : Int32} {h1 : xH} (H : f_64  a p0 h = some (x, h1)) (hq : Q (some (.int x)) h1) : Wp (d + 1) 64 0 [some (.ref a), some (.ref p0), none, none, none] [] h Q := by
  unfold f_64 at H
  refine wp_iconst 0 xi_64 dX6_valueOf_0 rfl ?_
  refine wp_istore_n [some (.ref a), some (.ref p0), some (.int 0), none, none] xi_64 dX6_valueOf_1 rfl ?_
  refine wp_iconst 0 xi_64 dX6_valueOf_2 rfl ?_
  refine wp_istore_n [some (.ref a), some (.ref p0), some (.int 0), some (.int 0), none] xi_64 dX6_valueOf_3 rfl ?_
  obtain ⟨⟨w2, h1⟩, G3, H⟩ := Option.bind_eq_some_iff.mp H
  dsimp only at H
  refine Wp.more (by simp [xMore, Value.category]) (ef_64_4 d Q  100000 a p0 0 0 h _ G3 (fun z0 z1 e9 => ?_))
  cases e9
  refine wp_iload_n xi_64 dX6_valueOf_162 rfl ?_
  obtain ⟨w8, G12, H⟩ := Option.bind_eq_some_iff.mp H
  have K9 : Wp (d + 1) 64 176 [some (.ref a), none, some (.int w2), none, none] [.int w8] h1 Q := by
    obtain ⟨rfl, rfl⟩ := oi2 H
    exact wp_iret xi_64 dX6_valueOf_176 hq
  clear H
  have H := G12
  clear G12
  refine wp_if_le 175 xi_64 dX6_valueOf_163 rfl (fun c5 => ?_) (fun c5 => ?_)
  · rw [if_pos c5] at H
    refine wp_iconst 0 xi_64 dX6_valueOf_175 rfl ?_
    obtain rfl := Option.some.inj H
    exact Wp.more (by simp [xMore, Value.category]) K9
  · rw [if_neg c5] at H
    refine wp_aload_n xi_64 dX6_valueOf_166 rfl ?_
    obtain ⟨x10, gx10, H⟩ := Option.bind_eq_some_iff.mp H
    refine wq_getfr xi_64 dX6_valueOf_167 xf_6_21 gx10 ?_
    refine wp_iconst 0 xi_64 dX6_valueOf_170 rfl ?_
    obtain ⟨x11, gx11, H⟩ := Option.bind_eq_some_iff.mp H
    refine wq_iaload xi_64 dX6_valueOf_171 gx11 ?_
    refine wp_goto 176 xi_64 dX6_valueOf_172 rfl ?_
    obtain rfl := Option.some.inj H
    exact Wp.more (by simp [xMore, Value.category]) K9
/- FelledHasLost$State.copyFrom(LFelledHasLost$State;)V -/
def f_71  (a : Nat) (p0 : Nat) (h : xH) : Option (xH) :=
  (pFr h a 7 0).bind fun x1 =>
  (pFr h p0 7 0).bind fun x2 =>
  (pG (pIs h x1 10)).bind fun _ =>
  (f_89 x1 x2 h).bind fun h4 =>
  (pFi h4 p0 7 1).bind fun x5 =>
  (pP h4 a 7 1 (.int x5)).bind fun h6 =>
  (pFi h6 p0 7 2).bind fun x7 =>
  (pP h6 a 7 2 (.int x7)).bind fun h8 =>
  (pFi h8 p0 7 3).bind fun x9 =>
  (pP h8 a 7 3 (.int x9)).bind fun h10 =>
  (pFi h10 p0 7 4).bind fun x11 =>
  (pP h10 a 7 4 (.int x11)).bind fun h12 =>
  (pFi h12 p0 7 5).bind fun x13 =>
  (pP h12 a 7 5 (.int x13)).bind fun h14 =>
  some h14
set_option maxHeartbeats 4000000 in
theorem e_71 (d : Nat) (Q : Option Value → xH → Prop)  {h : xH} {a : Nat} {p0 : Nat} {h1 : xH} (H : f_71  a p0 h = some h1) (hq : Q none h1) : Wp (d + 1) 71 0 [some (.ref a), some (.ref p0)] [] h Q := by
  unfold f_71 at H
  refine wp_aload_n xi_71 dX7_copyFrom_0 rfl ?_
  obtain ⟨x1, gx1, H⟩ := Option.bind_eq_some_iff.mp H
  refine wq_getfr xi_71 dX7_copyFrom_1 xf_7_12 gx1 ?_
  refine wp_aload_n xi_71 dX7_copyFrom_4 rfl ?_
  obtain ⟨x2, gx2, H⟩ := Option.bind_eq_some_iff.mp H
  refine wq_getfr xi_71 dX7_copyFrom_5 xf_7_12 gx2 ?_
  obtain ⟨u3, gu3, H⟩ := Option.bind_eq_some_iff.mp H
  obtain ⟨h4, gh4, H⟩ := Option.bind_eq_some_iff.mp H
  refine wq_callV (a := x1) (as := [.ref x2]) (r := []) (v1 := none) xi_71 xi_89 dX7_copyFrom_8 xm_7_34 rfl (Nat.le_of_ble_eq_true rfl) (pG_ok gu3) ⟨(Nat.le_of_ble_eq_true rfl), (Nat.le_of_ble_eq_true rfl)⟩ rfl nofun (e_89 d _ gh4 ⟨rfl, rfl⟩) ?_
  change Wp _ _ _ _ [] _ _
  refine wp_aload_n xi_71 dX7_copyFrom_11 rfl ?_
  refine wp_aload_n xi_71 dX7_copyFrom_12 rfl ?_
  obtain ⟨x5, gx5, H⟩ := Option.bind_eq_some_iff.mp H
  refine wq_getfi xi_71 dX7_copyFrom_13 xf_7_25 gx5 ?_
  obtain ⟨h6, gh6, H⟩ := Option.bind_eq_some_iff.mp H
  refine wq_putf xi_71 dX7_copyFrom_16 xf_7_25 (Or.inl rfl) gh6 ?_
  refine wp_aload_n xi_71 dX7_copyFrom_19 rfl ?_
  refine wp_aload_n xi_71 dX7_copyFrom_20 rfl ?_
  obtain ⟨x7, gx7, H⟩ := Option.bind_eq_some_iff.mp H
  refine wq_getfi xi_71 dX7_copyFrom_21 xf_7_18 gx7 ?_
  obtain ⟨h8, gh8, H⟩ := Option.bind_eq_some_iff.mp H
  refine wq_putf xi_71 dX7_copyFrom_24 xf_7_18 (Or.inl rfl) gh8 ?_
  refine wp_aload_n xi_71 dX7_copyFrom_27 rfl ?_
  refine wp_aload_n xi_71 dX7_copyFrom_28 rfl ?_
  obtain ⟨x9, gx9, H⟩ := Option.bind_eq_some_iff.mp H
  refine wq_getfi xi_71 dX7_copyFrom_29 xf_7_22 gx9 ?_
  obtain ⟨h10, gh10, H⟩ := Option.bind_eq_some_iff.mp H
  refine wq_putf xi_71 dX7_copyFrom_32 xf_7_22 (Or.inl rfl) gh10 ?_
  refine wp_aload_n xi_71 dX7_copyFrom_35 rfl ?_
  refine wp_aload_n xi_71 dX7_copyFrom_36 rfl ?_
  obtain ⟨x11, gx11, H⟩ := Option.bind_eq_some_iff.mp H
  refine wq_getfi xi_71 dX7_copyFrom_37 xf_7_28 gx11 ?_
  obtain ⟨h12, gh12, H⟩ := Option.bind_eq_some_iff.mp H
  refine wq_putf xi_71 dX7_copyFrom_40 xf_7_28 (Or.inl rfl) gh12 ?_
  refine wp_aload_n xi_71 dX7_copyFrom_43 rfl ?_
  refine wp_aload_n xi_71 dX7_copyFrom_44 rfl ?_
  obtain ⟨x13, gx13, H⟩ := Option.bind_eq_some_iff.mp H
  refine wq_getfi xi_71 dX7_copyFrom_45 xf_7_31 gx13 ?_
  obtain ⟨h14, gh14, H⟩ := Option.bind_eq_some_iff.mp H
  refine wq_putf xi_71 dX7_copyFrom_48 xf_7_31 (Or.inl rfl) gh14 ?_
  obtain rfl := Option.some.inj H
  exact wp_vret xi_71 dX7_copyFrom_51 hq
/- FelledHasLost$Touches.clear()V -/
def f_79  (a : Nat) (h : xH) : Option (xH) :=
  (pP h a 9 10 (.int 0)).bind fun h1 =>
  (pFr h1 a 9 2).bind fun x2 =>
  (f_266 x2 0 h1).bind fun h3 =>
  (pFr h3 a 9 3).bind fun x4 =>
  (f_266 x4 9 h3).bind fun h5 =>
  some h5
set_option maxHeartbeats 4000000 in
theorem e_79 (d : Nat) (Q : Option Value → xH → Prop)  {h : xH} {a : Nat} {h1 : xH} (H : f_79  a h = some h1) (hq : Q none h1) : Wp (d + 1) 79 0 [some (.ref a)] [] h Q := by
  unfold f_79 at H
  refine wp_aload_n xi_79 dX9_clear_0 rfl ?_
  refine wp_iconst 0 xi_79 dX9_clear_1 rfl ?_
  obtain ⟨h1, gh1, H⟩ := Option.bind_eq_some_iff.mp H
  refine wq_putf xi_79 dX9_clear_2 xf_9_46 (Or.inl rfl) gh1 ?_
  refine wp_aload_n xi_79 dX9_clear_5 rfl ?_
  obtain ⟨x2, gx2, H⟩ := Option.bind_eq_some_iff.mp H
  refine wq_getfr xi_79 dX9_clear_6 xf_9_19 gx2 ?_
  refine wp_iconst 0 xi_79 dX9_clear_9 rfl ?_
  obtain ⟨h3, gh3, H⟩ := Option.bind_eq_some_iff.mp H
  refine wq_callS (as := [.ref x2, .int 0]) (r := []) (v1 := none) xi_79 xi_266 dX9_clear_10 xm_9_50 rfl (Nat.le_of_ble_eq_true rfl) ⟨(Nat.le_of_ble_eq_true rfl), (Nat.le_of_ble_eq_true rfl)⟩ rfl nofun (e_266 d _ gh3 ⟨rfl, rfl⟩) ?_
  change Wp _ _ _ _ [] _ _
  refine wp_aload_n xi_79 dX9_clear_13 rfl ?_
  obtain ⟨x4, gx4, H⟩ := Option.bind_eq_some_iff.mp H
  refine wq_getfr xi_79 dX9_clear_14 xf_9_22 gx4 ?_
  refine wp_bipush 9 xi_79 dX9_clear_17 rfl ?_
  obtain ⟨h5, gh5, H⟩ := Option.bind_eq_some_iff.mp H
  refine wq_callS (as := [.ref x4, .int 9]) (r := []) (v1 := none) xi_79 xi_266 dX9_clear_19 xm_9_50 rfl (Nat.le_of_ble_eq_true rfl) ⟨(Nat.le_of_ble_eq_true rfl), (Nat.le_of_ble_eq_true rfl)⟩ rfl nofun (e_266 d _ gh5 ⟨rfl, rfl⟩) ?_
  change Wp _ _ _ _ [] _ _
  obtain rfl := Option.some.inj H
  exact wp_vret xi_79 dX9_clear_22 hq
/- FelledHasLost$Touches.touched(LFelledHasLost$Tower;IZ)I -/
def f_81_6  : Nat → Nat → Nat → Int32 → Int32 → Int32 → Int32 → xH → Option (Int32 × xH)
  | 0, _, _, _, _, _, _, _ => none
  | n + 1, a0, a1, a2, a3, a4, a5, h =>
  (pFi h a0 9 10).bind fun x1 =>
  (if x1 ≤ a5 then
  some (a4, h)
  else
  (pFr h a0 9 0).bind fun x3 =>
  (pAi h x3 a5).bind fun x4 =>
  (pDiv x4 3).bind fun x5 =>
  ((if x5 = a2 then
  (pFr h a0 9 1).bind fun x22 =>
  (pAb h x22 a5).bind fun x23 =>
  (if x23 = a3 then
  (pFr h a0 9 0).bind fun x25 =>
  (pAi h x25 a5).bind fun x26 =>
  (pG (pIs h a1 10)).bind fun _ =>
  (f_90 a1 x26 h).bind fun (x29, h28) =>
  (if x29 = 0 then
  some (a4, h28)
  else
  (pFr h28 a0 9 0).bind fun x31 =>
  (pAi h28 x31 a5).bind fun x32 =>
  (pRem x32 3).bind fun x33 =>
  some ((a4 ||| (1 <<< (x33 &&& 31))), h28))
  else
  some (a4, h))
  else
  some (a4, h) : Option (Int32 × xH))).bind fun (w19, h20) =>
  f_81_6 n a0 a1 a2 a3 w19 (a5 + 1) h20)
theorem ef_81_6 (d : Nat) (Q : Option Value → xH → Prop)  : ∀ (n : Nat) (a0 : Nat) (a1 : Nat) (a2 : Int32) (a3 : Int32) (a4 : Int32) (a5 : Int32) (h : xH) (r : Int32 × xH), f_81_6 n a0 a1 a2 a3 a4 a5 h = some r → (∀ (w4 : Int32) (h1 : xH), r = (w4, h1) → Wp (d + 1) 81 75 [none, none, none, none, some (.int w4), none] [] h1 Q) → Wp (d + 1) 81 6 [some (.ref a0), some (.ref a1), some (.int a2), some (.int a3), some (.int a4), some (.int a5)] [] h Q := by
  intro n
  induction n with
  | zero =>
    intro a0 a1 a2 a3 a4 a5 h r H
    cases H
  | succ n ih =>
    intro a0 a1 a2 a3 a4 a5 h r H KE
    unfold f_81_6 at H
    refine wp_iload xi_81 dX9_touched_6 rfl ?_
    refine wp_aload_n xi_81 dX9_touched_8 rfl ?_
    obtain ⟨x1, gx1, H⟩ := Option.bind_eq_some_iff.mp H
    refine wq_getfi xi_81 dX9_touched_9 xf_9_46 gx1 ?_
    refine wp_icmp_ge 75 xi_81 dX9_touched_12 rfl (fun c2 => ?_) (fun c2 => ?_)
    · rw [if_pos c2] at H
      obtain rfl := Option.some.inj H
      exact Wp.more (by simp [xMore, Value.category]) (KE a4 h rfl)
    · rw [if_neg c2] at H
      refine wp_aload_n xi_81 dX9_touched_15 rfl ?_
      obtain ⟨x3, gx3, H⟩ := Option.bind_eq_some_iff.mp H
      refine wq_getfr xi_81 dX9_touched_16 xf_9_11 gx3 ?_
      refine wp_iload xi_81 dX9_touched_19 rfl ?_
      obtain ⟨x4, gx4, H⟩ := Option.bind_eq_some_iff.mp H
      refine wq_iaload xi_81 dX9_touched_21 gx4 ?_
      refine wp_iconst 3 xi_81 dX9_touched_22 rfl ?_
      obtain ⟨x5, gx5, H⟩ := Option.bind_eq_some_iff.mp H
      refine wq_idiv xi_81 dX9_touched_23 gx5 ?_
      refine wp_iload_n xi_81 dX9_touched_24 rfl ?_
      obtain ⟨⟨w19, h20⟩, G34, H⟩ := Option.bind_eq_some_iff.mp H
      dsimp only at H
      have K21 : Wp (d + 1) 81 69 [some (.ref a0), some (.ref a1), some (.int a2), some (.int a3), some (.int w19), some (.int a5)] [] h20 Q := by
        refine wp_iinc (a5 + 1) [some (.ref a0), some (.ref a1), some (.int a2), some (.int a3), some (.int w19), some (.int (a5 + 1))] xi_81 dX9_touched_69 rfl rfl rfl ?_
        refine wp_goto 6 xi_81 dX9_touched_72 rfl ?_
        exact Wp.more (by simp [xMore, Value.category]) (ih a0 a1 a2 a3 w19 (a5 + 1) h20 _ H KE)
      clear H
      have H := G34
      clear G34
      refine wp_icmp_ne 69 xi_81 dX9_touched_25 rfl (fun c6 => ?_) (fun c6 => ?_)
      · rw [if_neg c6] at H
        simp only [Option.some.injEq, Prod.mk.injEq] at H
        obtain ⟨rfl, rfl⟩ := H
        exact Wp.more (by simp [xMore, Value.category]) K21
      · rw [if_pos c6] at H
        refine wp_aload_n xi_81 dX9_touched_28 rfl ?_
        obtain ⟨x22, gx22, H⟩ := Option.bind_eq_some_iff.mp H
        refine wq_getfr xi_81 dX9_touched_29 xf_9_15 gx22 ?_
        refine wp_iload xi_81 dX9_touched_32 rfl ?_
        obtain ⟨x23, gx23, H⟩ := Option.bind_eq_some_iff.mp H
        refine wq_baload xi_81 dX9_touched_34 gx23 ?_
        refine wp_iload_n xi_81 dX9_touched_35 rfl ?_
        refine wp_icmp_ne 69 xi_81 dX9_touched_36 rfl (fun c24 => ?_) (fun c24 => ?_)
        · rw [if_neg c24] at H
          simp only [Option.some.injEq, Prod.mk.injEq] at H
          obtain ⟨rfl, rfl⟩ := H
          exact Wp.more (by simp [xMore, Value.category]) K21
        · rw [if_pos c24] at H
          refine wp_aload_n xi_81 dX9_touched_39 rfl ?_
          refine wp_aload_n xi_81 dX9_touched_40 rfl ?_
          obtain ⟨x25, gx25, H⟩ := Option.bind_eq_some_iff.mp H
          refine wq_getfr xi_81 dX9_touched_41 xf_9_11 gx25 ?_
          refine wp_iload xi_81 dX9_touched_44 rfl ?_
          obtain ⟨x26, gx26, H⟩ := Option.bind_eq_some_iff.mp H
          refine wq_iaload xi_81 dX9_touched_46 gx26 ?_
          obtain ⟨u27, gu27, H⟩ := Option.bind_eq_some_iff.mp H
          obtain ⟨⟨x29, h28⟩, gh28, H⟩ := Option.bind_eq_some_iff.mp H
          dsimp only at H
          refine wq_callV (a := a1) (as := [.int x26]) (r := []) (v1 := (some (.int x29))) xi_81 xi_90 dX9_touched_47 xm_9_56 rfl (Nat.le_of_ble_eq_true rfl) (pG_ok gu27) ⟨(Nat.le_of_ble_eq_true rfl), (Nat.le_of_ble_eq_true rfl)⟩ rfl nofun (e_90 d _ gh28 ⟨rfl, rfl⟩) ?_
          change Wp _ _ _ _ [.int x29] _ _
          refine wp_if_eq 69 xi_81 dX9_touched_50 rfl (fun c30 => ?_) (fun c30 => ?_)
          · rw [if_pos c30] at H
            simp only [Option.some.injEq, Prod.mk.injEq] at H
            obtain ⟨rfl, rfl⟩ := H
            exact Wp.more (by simp [xMore, Value.category]) K21
          · rw [if_neg c30] at H
            refine wp_iload xi_81 dX9_touched_53 rfl ?_
            refine wp_iconst 1 xi_81 dX9_touched_55 rfl ?_
            refine wp_aload_n xi_81 dX9_touched_56 rfl ?_
            obtain ⟨x31, gx31, H⟩ := Option.bind_eq_some_iff.mp H
            refine wq_getfr xi_81 dX9_touched_57 xf_9_11 gx31 ?_
            refine wp_iload xi_81 dX9_touched_60 rfl ?_
            obtain ⟨x32, gx32, H⟩ := Option.bind_eq_some_iff.mp H
            refine wq_iaload xi_81 dX9_touched_62 gx32 ?_
            refine wp_iconst 3 xi_81 dX9_touched_63 rfl ?_
            obtain ⟨x33, gx33, H⟩ := Option.bind_eq_some_iff.mp H
            refine wq_irem xi_81 dX9_touched_64 gx33 ?_
            refine wp_ishl xi_81 dX9_touched_65 ?_
            refine wp_ior xi_81 dX9_touched_66 ?_
            refine wp_istore [some (.ref a0), some (.ref a1), some (.int a2), some (.int a3), some (.int (a4 ||| (1 <<< (x33 &&& 31)))), some (.int a5)] xi_81 dX9_touched_67 rfl ?_
            simp only [Option.some.injEq, Prod.mk.injEq] at H
            obtain ⟨rfl, rfl⟩ := H
            exact Wp.more (by simp [xMore, Value.category]) K21
def f_81  (a : Nat) (p0 : Nat) (p1 : Int32) (p2 : Int32) (h : xH) : Option (Int32 × xH) :=
  (f_81_6 100000 a p0 p1 p2 0 0 h).bind fun (w2, h1) =>
  some (w2, h1)
set_option maxHeartbeats 4000000 in
theorem e_81 (d : Nat) (Q : Option Value → xH → Prop)  {h : xH} {a : Nat} {p0 : Nat} {p1 : Int32} {p2 : Int32} {x : Int32} {h1 : xH} (H : f_81  a p0 p1 p2 h = some (x, h1)) (hq : Q (some (.int x)) h1) : Wp (d + 1) 81 0 [some (.ref a), some (.ref p0), some (.int p1), some (.int p2), none, none] [] h Q := by
  unfold f_81 at H
  refine wp_iconst 0 xi_81 dX9_touched_0 rfl ?_
  refine wp_istore [some (.ref a), some (.ref p0), some (.int p1), some (.int p2), some (.int 0), none] xi_81 dX9_touched_1 rfl ?_
  refine wp_iconst 0 xi_81 dX9_touched_3 rfl ?_
  refine wp_istore [some (.ref a), some (.ref p0), some (.int p1), some (.int p2), some (.int 0), some (.int 0)] xi_81 dX9_touched_4 rfl ?_
  obtain ⟨⟨w2, h1⟩, G3, H⟩ := Option.bind_eq_some_iff.mp H
  dsimp only at H
  refine Wp.more (by simp [xMore, Value.category]) (ef_81_6 d Q  100000 a p0 p1 p2 0 0 h _ G3 (fun z0 z1 e9 => ?_))
  cases e9
  refine wp_iload xi_81 dX9_touched_75 rfl ?_
  obtain ⟨rfl, rfl⟩ := oi2 H
  exact wp_iret xi_81 dX9_touched_77 hq
/- FelledHasLost$Touches.sift(LFelledHasLost$Tower;I)V -/
def f_82_2  : Nat → Nat → Nat → Int32 → Int32 → xH → Option (xH)
  | 0, _, _, _, _, _ => none
  | n + 1, a0, a1, a2, a3, h =>
  (if (3 : Int32) ≤ a3 then
  some (h)
  else
  (pFr h a0 9 4).bind fun x2 =>
  (pG (pIs h a1 10)).bind fun _ =>
  (f_90 a1 ((3 * a2) + a3) h).bind fun (x5, h4) =>
  ((if x5 = 0 then
  some ((-1))
  else
  (pFr h4 a0 9 2).bind fun x11 =>
  (pAi h4 x11 ((3 * a2) + a3)).bind fun x12 =>
  some (x12) : Option (Int32))).bind fun (w9 : Int32) =>
  (pSi h4 x2 a3 w9).bind fun h13 =>
  (pFr h13 a0 9 5).bind fun x14 =>
  (pG (pIs h13 a1 10)).bind fun _ =>
  (f_90 a1 ((3 * a2) + a3) h13).bind fun (x17, h16) =>
  ((if x17 = 0 then
  some ((-1))
  else
  (pFr h16 a0 9 3).bind fun x23 =>
  (pAi h16 x23 ((3 * a2) + a3)).bind fun x24 =>
  some (x24) : Option (Int32))).bind fun (w21 : Int32) =>
  (pSi h16 x14 a3 w21).bind fun h25 =>
  f_82_2 n a0 a1 a2 (a3 + 1) h25)
theorem ef_82_2 (d : Nat) (Q : Option Value → xH → Prop)  : ∀ (n : Nat) (a0 : Nat) (a1 : Nat) (a2 : Int32) (a3 : Int32) (h : xH) (r : xH), f_82_2 n a0 a1 a2 a3 h = some r → (∀  (h1 : xH), r = h1 → Wp (d + 2) 82 72 [some (.ref a0), some (.ref a1), some (.int a2), none, none, none, none, none, none] [] h1 Q) → Wp (d + 2) 82 2 [some (.ref a0), some (.ref a1), some (.int a2), some (.int a3), none, none, none, none, none] [] h Q := by
  intro n
  induction n with
  | zero =>
    intro a0 a1 a2 a3 h r H
    cases H
  | succ n ih =>
    intro a0 a1 a2 a3 h r H KE
    unfold f_82_2 at H
    refine wp_iload_n xi_82 dX9_sift_2 rfl ?_
    refine wp_iconst 3 xi_82 dX9_sift_3 rfl ?_
    refine wp_icmp_ge 72 xi_82 dX9_sift_4 rfl (fun c1 => ?_) (fun c1 => ?_)
    · rw [if_pos c1] at H
      obtain rfl := Option.some.inj H
      exact Wp.more (by simp [xMore, Value.category]) (KE  h rfl)
    · rw [if_neg c1] at H
      refine wp_iconst 3 xi_82 dX9_sift_7 rfl ?_
      refine wp_iload_n xi_82 dX9_sift_8 rfl ?_
      refine wp_imul xi_82 dX9_sift_9 ?_
      refine wp_iload_n xi_82 dX9_sift_10 rfl ?_
      refine wp_iadd xi_82 dX9_sift_11 ?_
      refine wp_istore [some (.ref a0), some (.ref a1), some (.int a2), some (.int a3), some (.int ((3 * a2) + a3)), none, none, none, none] xi_82 dX9_sift_12 rfl ?_
      refine wp_aload_n xi_82 dX9_sift_14 rfl ?_
      obtain ⟨x2, gx2, H⟩ := Option.bind_eq_some_iff.mp H
      refine wq_getfr xi_82 dX9_sift_15 xf_9_25 gx2 ?_
      refine wp_iload_n xi_82 dX9_sift_18 rfl ?_
      refine wp_aload_n xi_82 dX9_sift_19 rfl ?_
      refine wp_iload xi_82 dX9_sift_20 rfl ?_
      obtain ⟨u3, gu3, H⟩ := Option.bind_eq_some_iff.mp H
      obtain ⟨⟨x5, h4⟩, gh4, H⟩ := Option.bind_eq_some_iff.mp H
      dsimp only at H
      refine wq_callV (a := a1) (as := [.int ((3 * a2) + a3)]) (r := [.int a3, .ref x2]) (v1 := (some (.int x5))) xi_82 xi_90 dX9_sift_22 xm_9_56 rfl (Nat.le_of_ble_eq_true rfl) (pG_ok gu3) ⟨(Nat.le_of_ble_eq_true rfl), (Nat.le_of_ble_eq_true rfl)⟩ rfl nofun (e_90 (d + 1) _ gh4 ⟨rfl, rfl⟩) ?_
      change Wp _ _ _ _ [.int x5, .int a3, .ref x2] _ _
      obtain ⟨w9, G27, H⟩ := Option.bind_eq_some_iff.mp H
      have K10 : Wp (d + 2) 82 39 [some (.ref a0), some (.ref a1), some (.int a2), some (.int a3), some (.int ((3 * a2) + a3)), none, none, none, none] [.int w9, .int a3, .ref x2] h4 Q := by
        obtain ⟨h13, gh13, H⟩ := Option.bind_eq_some_iff.mp H
        refine wq_iastore xi_82 dX9_sift_39 gh13 ?_
        refine wp_aload_n xi_82 dX9_sift_40 rfl ?_
        obtain ⟨x14, gx14, H⟩ := Option.bind_eq_some_iff.mp H
        refine wq_getfr xi_82 dX9_sift_41 xf_9_28 gx14 ?_
        refine wp_iload_n xi_82 dX9_sift_44 rfl ?_
        refine wp_aload_n xi_82 dX9_sift_45 rfl ?_
        refine wp_iload xi_82 dX9_sift_46 rfl ?_
        obtain ⟨u15, gu15, H⟩ := Option.bind_eq_some_iff.mp H
        obtain ⟨⟨x17, h16⟩, gh16, H⟩ := Option.bind_eq_some_iff.mp H
        dsimp only at H
        refine wq_callV (a := a1) (as := [.int ((3 * a2) + a3)]) (r := [.int a3, .ref x14]) (v1 := (some (.int x17))) xi_82 xi_90 dX9_sift_48 xm_9_56 rfl (Nat.le_of_ble_eq_true rfl) (pG_ok gu15) ⟨(Nat.le_of_ble_eq_true rfl), (Nat.le_of_ble_eq_true rfl)⟩ rfl nofun (e_90 (d + 1) _ gh16 ⟨rfl, rfl⟩) ?_
        change Wp _ _ _ _ [.int x17, .int a3, .ref x14] _ _
        obtain ⟨w21, G26, H⟩ := Option.bind_eq_some_iff.mp H
        have K22 : Wp (d + 2) 82 65 [some (.ref a0), some (.ref a1), some (.int a2), some (.int a3), some (.int ((3 * a2) + a3)), none, none, none, none] [.int w21, .int a3, .ref x14] h16 Q := by
          obtain ⟨h25, gh25, H⟩ := Option.bind_eq_some_iff.mp H
          refine wq_iastore xi_82 dX9_sift_65 gh25 ?_
          refine wp_iinc (a3 + 1) [some (.ref a0), some (.ref a1), some (.int a2), some (.int (a3 + 1)), some (.int ((3 * a2) + a3)), none, none, none, none] xi_82 dX9_sift_66 rfl rfl rfl ?_
          refine wp_goto 2 xi_82 dX9_sift_69 rfl ?_
          exact Wp.more (by simp [xMore, Value.category]) (ih a0 a1 a2 (a3 + 1) h25 _ H KE)
        clear H
        have H := G26
        clear G26
        refine wp_if_eq 64 xi_82 dX9_sift_51 rfl (fun c18 => ?_) (fun c18 => ?_)
        · rw [if_pos c18] at H
          refine wp_iconst (-1) xi_82 dX9_sift_64 rfl ?_
          obtain rfl := Option.some.inj H
          exact Wp.more (by simp [xMore, Value.category]) K22
        · rw [if_neg c18] at H
          refine wp_aload_n xi_82 dX9_sift_54 rfl ?_
          obtain ⟨x23, gx23, H⟩ := Option.bind_eq_some_iff.mp H
          refine wq_getfr xi_82 dX9_sift_55 xf_9_22 gx23 ?_
          refine wp_iload xi_82 dX9_sift_58 rfl ?_
          obtain ⟨x24, gx24, H⟩ := Option.bind_eq_some_iff.mp H
          refine wq_iaload xi_82 dX9_sift_60 gx24 ?_
          refine wp_goto 65 xi_82 dX9_sift_61 rfl ?_
          obtain rfl := Option.some.inj H
          exact Wp.more (by simp [xMore, Value.category]) K22
      clear H
      have H := G27
      clear G27
      refine wp_if_eq 38 xi_82 dX9_sift_25 rfl (fun c6 => ?_) (fun c6 => ?_)
      · rw [if_pos c6] at H
        refine wp_iconst (-1) xi_82 dX9_sift_38 rfl ?_
        obtain rfl := Option.some.inj H
        exact Wp.more (by simp [xMore, Value.category]) K10
      · rw [if_neg c6] at H
        refine wp_aload_n xi_82 dX9_sift_28 rfl ?_
        obtain ⟨x11, gx11, H⟩ := Option.bind_eq_some_iff.mp H
        refine wq_getfr xi_82 dX9_sift_29 xf_9_19 gx11 ?_
        refine wp_iload xi_82 dX9_sift_32 rfl ?_
        obtain ⟨x12, gx12, H⟩ := Option.bind_eq_some_iff.mp H
        refine wq_iaload xi_82 dX9_sift_34 gx12 ?_
        refine wp_goto 39 xi_82 dX9_sift_35 rfl ?_
        obtain rfl := Option.some.inj H
        exact Wp.more (by simp [xMore, Value.category]) K10
def f_82_156  : Nat → Nat → Int32 → Int32 → Int32 → Int32 → Int32 → xH → Option (xH)
  | 0, _, _, _, _, _, _, _ => none
  | n + 1, a0, a3, a4, a5, a6, a7, h =>
  (pFr h a0 9 5).bind fun x1 =>
  (pAi h x1 2).bind fun x2 =>
  (if x2 < a7 then
  some (h)
  else
  (f_96 a5 a6 a7 h).bind fun (x5, h4) =>
  ((if (x5 &&& a3) = a3 then
  (if (x5 &&& a4) = 0 then
  (pG (pIs h4 a0 9)).bind fun _ =>
  (f_83 a0 a5 a6 a7 x5 h4).bind fun h14 =>
  some (h14)
  else
  some (h4))
  else
  some (h4) : Option (xH))).bind fun (h10 : xH) =>
  f_82_156 n a0 a3 a4 a5 a6 (a7 + 1) h10)
theorem ef_82_156 (d : Nat) (Q : Option Value → xH → Prop)  : ∀ (n : Nat) (a0 : Nat) (a3 : Int32) (a4 : Int32) (a5 : Int32) (a6 : Int32) (a7 : Int32) (h : xH) (r : xH), f_82_156 n a0 a3 a4 a5 a6 a7 h = some r → (∀  (h1 : xH), r = h1 → Wp (d + 2) 82 212 [some (.ref a0), none, none, some (.int a3), some (.int a4), some (.int a5), some (.int a6), none, none] [] h1 Q) → Wp (d + 2) 82 156 [some (.ref a0), none, none, some (.int a3), some (.int a4), some (.int a5), some (.int a6), some (.int a7), none] [] h Q := by
  intro n
  induction n with
  | zero =>
    intro a0 a3 a4 a5 a6 a7 h r H
    cases H
  | succ n ih =>
    intro a0 a3 a4 a5 a6 a7 h r H KE
    unfold f_82_156 at H
    refine wp_iload xi_82 dX9_sift_156 rfl ?_
    refine wp_aload_n xi_82 dX9_sift_158 rfl ?_
    obtain ⟨x1, gx1, H⟩ := Option.bind_eq_some_iff.mp H
    refine wq_getfr xi_82 dX9_sift_159 xf_9_28 gx1 ?_
    refine wp_iconst 2 xi_82 dX9_sift_162 rfl ?_
    obtain ⟨x2, gx2, H⟩ := Option.bind_eq_some_iff.mp H
    refine wq_iaload xi_82 dX9_sift_163 gx2 ?_
    refine wp_icmp_gt 212 xi_82 dX9_sift_164 rfl (fun c3 => ?_) (fun c3 => ?_)
    · rw [if_pos c3] at H
      obtain rfl := Option.some.inj H
      exact Wp.more (by simp [xMore, Value.category]) (KE  h rfl)
    · rw [if_neg c3] at H
      refine wp_iload xi_82 dX9_sift_167 rfl ?_
      refine wp_iload xi_82 dX9_sift_169 rfl ?_
      refine wp_iload xi_82 dX9_sift_171 rfl ?_
      obtain ⟨⟨x5, h4⟩, gh4, H⟩ := Option.bind_eq_some_iff.mp H
      dsimp only at H
      refine wq_callS (as := [.int a5, .int a6, .int a7]) (r := []) (v1 := (some (.int x5))) xi_82 xi_96 dX9_sift_173 xm_9_69 rfl (Nat.le_of_ble_eq_true rfl) ⟨(Nat.le_of_ble_eq_true rfl), (Nat.le_of_ble_eq_true rfl)⟩ rfl nofun (e_96 (d + 1) _ gh4 ⟨rfl, rfl⟩) ?_
      change Wp _ _ _ _ [.int x5] _ _
      refine wp_istore [some (.ref a0), none, none, some (.int a3), some (.int a4), some (.int a5), some (.int a6), some (.int a7), some (.int x5)] xi_82 dX9_sift_176 rfl ?_
      refine wp_iload xi_82 dX9_sift_178 rfl ?_
      refine wp_iload_n xi_82 dX9_sift_180 rfl ?_
      refine wp_iand xi_82 dX9_sift_181 ?_
      refine wp_iload_n xi_82 dX9_sift_182 rfl ?_
      obtain ⟨h10, G15, H⟩ := Option.bind_eq_some_iff.mp H
      have K11 : Wp (d + 2) 82 206 [some (.ref a0), none, none, some (.int a3), some (.int a4), some (.int a5), some (.int a6), some (.int a7), some (.int x5)] [] h10 Q := by
        refine wp_iinc (a7 + 1) [some (.ref a0), none, none, some (.int a3), some (.int a4), some (.int a5), some (.int a6), some (.int (a7 + 1)), some (.int x5)] xi_82 dX9_sift_206 rfl rfl rfl ?_
        refine wp_goto 156 xi_82 dX9_sift_209 rfl ?_
        exact Wp.more (by simp [xMore, Value.category]) (ih a0 a3 a4 a5 a6 (a7 + 1) h10 _ H KE)
      clear H
      have H := G15
      clear G15
      refine wp_icmp_ne 206 xi_82 dX9_sift_183 rfl (fun c6 => ?_) (fun c6 => ?_)
      · rw [if_neg c6] at H
        obtain rfl := Option.some.inj H
        exact Wp.more (by simp [xMore, Value.category]) K11
      · rw [if_pos c6] at H
        refine wp_iload xi_82 dX9_sift_186 rfl ?_
        refine wp_iload xi_82 dX9_sift_188 rfl ?_
        refine wp_iand xi_82 dX9_sift_190 ?_
        refine wp_if_ne 206 xi_82 dX9_sift_191 rfl (fun c12 => ?_) (fun c12 => ?_)
        · rw [if_neg c12] at H
          obtain rfl := Option.some.inj H
          exact Wp.more (by simp [xMore, Value.category]) K11
        · rw [if_pos c12] at H
          refine wp_aload_n xi_82 dX9_sift_194 rfl ?_
          refine wp_iload xi_82 dX9_sift_195 rfl ?_
          refine wp_iload xi_82 dX9_sift_197 rfl ?_
          refine wp_iload xi_82 dX9_sift_199 rfl ?_
          refine wp_iload xi_82 dX9_sift_201 rfl ?_
          obtain ⟨u13, gu13, H⟩ := Option.bind_eq_some_iff.mp H
          obtain ⟨h14, gh14, H⟩ := Option.bind_eq_some_iff.mp H
          refine wq_callV (a := a0) (as := [.int a5, .int a6, .int a7, .int x5]) (r := []) (v1 := none) xi_82 xi_83 dX9_sift_203 xm_9_73 rfl (Nat.le_of_ble_eq_true rfl) (pG_ok gu13) ⟨(Nat.le_of_ble_eq_true rfl), (Nat.le_of_ble_eq_true rfl)⟩ rfl nofun (e_83 (d + 1) _ gh14 ⟨rfl, rfl⟩) ?_
          change Wp _ _ _ _ [] _ _
          obtain rfl := Option.some.inj H
          exact Wp.more (by simp [xMore, Value.category]) K11
def f_82_137  : Nat → Nat → Int32 → Int32 → Int32 → Int32 → xH → Option (xH)
  | 0, _, _, _, _, _, _ => none
  | n + 1, a0, a3, a4, a5, a6, h =>
  (pFr h a0 9 5).bind fun x1 =>
  (pAi h x1 1).bind fun x2 =>
  (if x2 < a6 then
  some (h)
  else
  (pFr h a0 9 4).bind fun x4 =>
  (pAi h x4 2).bind fun x5 =>
  (f_82_156 100000 a0 a3 a4 a5 a6 x5 h).bind fun h6 =>
  f_82_137 n a0 a3 a4 a5 (a6 + 1) h6)
theorem ef_82_137 (d : Nat) (Q : Option Value → xH → Prop)  : ∀ (n : Nat) (a0 : Nat) (a3 : Int32) (a4 : Int32) (a5 : Int32) (a6 : Int32) (h : xH) (r : xH), f_82_137 n a0 a3 a4 a5 a6 h = some r → (∀  (h1 : xH), r = h1 → Wp (d + 2) 82 218 [some (.ref a0), none, none, some (.int a3), some (.int a4), some (.int a5), none, none, none] [] h1 Q) → Wp (d + 2) 82 137 [some (.ref a0), none, none, some (.int a3), some (.int a4), some (.int a5), some (.int a6), none, none] [] h Q := by
  intro n
  induction n with
  | zero =>
    intro a0 a3 a4 a5 a6 h r H
    cases H
  | succ n ih =>
    intro a0 a3 a4 a5 a6 h r H KE
    unfold f_82_137 at H
    refine wp_iload xi_82 dX9_sift_137 rfl ?_
    refine wp_aload_n xi_82 dX9_sift_139 rfl ?_
    obtain ⟨x1, gx1, H⟩ := Option.bind_eq_some_iff.mp H
    refine wq_getfr xi_82 dX9_sift_140 xf_9_28 gx1 ?_
    refine wp_iconst 1 xi_82 dX9_sift_143 rfl ?_
    obtain ⟨x2, gx2, H⟩ := Option.bind_eq_some_iff.mp H
    refine wq_iaload xi_82 dX9_sift_144 gx2 ?_
    refine wp_icmp_gt 218 xi_82 dX9_sift_145 rfl (fun c3 => ?_) (fun c3 => ?_)
    · rw [if_pos c3] at H
      obtain rfl := Option.some.inj H
      exact Wp.more (by simp [xMore, Value.category]) (KE  h rfl)
    · rw [if_neg c3] at H
      refine wp_aload_n xi_82 dX9_sift_148 rfl ?_
      obtain ⟨x4, gx4, H⟩ := Option.bind_eq_some_iff.mp H
      refine wq_getfr xi_82 dX9_sift_149 xf_9_25 gx4 ?_
      refine wp_iconst 2 xi_82 dX9_sift_152 rfl ?_
      obtain ⟨x5, gx5, H⟩ := Option.bind_eq_some_iff.mp H
      refine wq_iaload xi_82 dX9_sift_153 gx5 ?_
      refine wp_istore [some (.ref a0), none, none, some (.int a3), some (.int a4), some (.int a5), some (.int a6), some (.int x5), none] xi_82 dX9_sift_154 rfl ?_
      obtain ⟨h6, G7, H⟩ := Option.bind_eq_some_iff.mp H
      refine Wp.more (by simp [xMore, Value.category]) (ef_82_156 d Q  100000 a0 a3 a4 a5 a6 x5 h _ G7 (fun z0 e9 => ?_))
      cases e9
      refine wp_iinc (a6 + 1) [some (.ref a0), none, none, some (.int a3), some (.int a4), some (.int a5), some (.int (a6 + 1)), none, none] xi_82 dX9_sift_212 rfl rfl rfl ?_
      refine wp_goto 137 xi_82 dX9_sift_215 rfl ?_
      exact Wp.more (by simp [xMore, Value.category]) (ih a0 a3 a4 a5 (a6 + 1) h6 _ H KE)
def f_82_118  : Nat → Nat → Int32 → Int32 → Int32 → xH → Option (xH)
  | 0, _, _, _, _, _ => none
  | n + 1, a0, a3, a4, a5, h =>
  (pFr h a0 9 5).bind fun x1 =>
  (pAi h x1 0).bind fun x2 =>
  (if x2 < a5 then
  some (h)
  else
  (pFr h a0 9 4).bind fun x4 =>
  (pAi h x4 1).bind fun x5 =>
  (f_82_137 100000 a0 a3 a4 a5 x5 h).bind fun h6 =>
  f_82_118 n a0 a3 a4 (a5 + 1) h6)
theorem ef_82_118 (d : Nat) (Q : Option Value → xH → Prop)  : ∀ (n : Nat) (a0 : Nat) (a3 : Int32) (a4 : Int32) (a5 : Int32) (h : xH) (r : xH), f_82_118 n a0 a3 a4 a5 h = some r → (∀  (h1 : xH), r = h1 → Wp (d + 2) 82 224 [none, none, none, none, none, none, none, none, none] [] h1 Q) → Wp (d + 2) 82 118 [some (.ref a0), none, none, some (.int a3), some (.int a4), some (.int a5), none, none, none] [] h Q := by
  intro n
  induction n with
  | zero =>
    intro a0 a3 a4 a5 h r H
    cases H
  | succ n ih =>
    intro a0 a3 a4 a5 h r H KE
    unfold f_82_118 at H
    refine wp_iload xi_82 dX9_sift_118 rfl ?_
    refine wp_aload_n xi_82 dX9_sift_120 rfl ?_
    obtain ⟨x1, gx1, H⟩ := Option.bind_eq_some_iff.mp H
    refine wq_getfr xi_82 dX9_sift_121 xf_9_28 gx1 ?_
    refine wp_iconst 0 xi_82 dX9_sift_124 rfl ?_
    obtain ⟨x2, gx2, H⟩ := Option.bind_eq_some_iff.mp H
    refine wq_iaload xi_82 dX9_sift_125 gx2 ?_
    refine wp_icmp_gt 224 xi_82 dX9_sift_126 rfl (fun c3 => ?_) (fun c3 => ?_)
    · rw [if_pos c3] at H
      obtain rfl := Option.some.inj H
      exact Wp.more (by simp [xMore, Value.category]) (KE  h rfl)
    · rw [if_neg c3] at H
      refine wp_aload_n xi_82 dX9_sift_129 rfl ?_
      obtain ⟨x4, gx4, H⟩ := Option.bind_eq_some_iff.mp H
      refine wq_getfr xi_82 dX9_sift_130 xf_9_25 gx4 ?_
      refine wp_iconst 1 xi_82 dX9_sift_133 rfl ?_
      obtain ⟨x5, gx5, H⟩ := Option.bind_eq_some_iff.mp H
      refine wq_iaload xi_82 dX9_sift_134 gx5 ?_
      refine wp_istore [some (.ref a0), none, none, some (.int a3), some (.int a4), some (.int a5), some (.int x5), none, none] xi_82 dX9_sift_135 rfl ?_
      obtain ⟨h6, G7, H⟩ := Option.bind_eq_some_iff.mp H
      refine Wp.more (by simp [xMore, Value.category]) (ef_82_137 d Q  100000 a0 a3 a4 a5 x5 h _ G7 (fun z0 e9 => ?_))
      cases e9
      refine wp_iinc (a5 + 1) [some (.ref a0), none, none, some (.int a3), some (.int a4), some (.int (a5 + 1)), none, none, none] xi_82 dX9_sift_218 rfl rfl rfl ?_
      refine wp_goto 118 xi_82 dX9_sift_221 rfl ?_
      exact Wp.more (by simp [xMore, Value.category]) (ih a0 a3 a4 (a5 + 1) h6 _ H KE)
def f_82  (a : Nat) (p0 : Nat) (p1 : Int32) (h : xH) : Option (xH) :=
  (f_82_2 100000 a p0 p1 0 h).bind fun h1 =>
  (pG (pIs h1 a 9)).bind fun _ =>
  (f_81 a p0 p1 1 h1).bind fun (x6, h5) =>
  (pG (pIs h5 a 9)).bind fun _ =>
  (f_81 a p0 p1 0 h5).bind fun (x9, h8) =>
  (pP h8 a 9 11 (.int 0)).bind fun h10 =>
  (pFr h10 a 9 6).bind fun x11 =>
  (f_266 x11 0 h10).bind fun h12 =>
  (pFr h12 a 9 7).bind fun x13 =>
  (f_266 x13 0 h12).bind fun h14 =>
  (pFr h14 a 9 4).bind fun x15 =>
  (pAi h14 x15 0).bind fun x16 =>
  (f_82_118 100000 a x6 x9 x16 h14).bind fun h17 =>
  some h17
set_option maxHeartbeats 4000000 in
theorem e_82 (d : Nat) (Q : Option Value → xH → Prop)  {h : xH} {a : Nat} {p0 : Nat} {p1 : Int32} {h1 : xH} (H : f_82  a p0 p1 h = some h1) (hq : Q none h1) : Wp (d + 2) 82 0 [some (.ref a), some (.ref p0), some (.int p1), none, none, none, none, none, none] [] h Q := by
  unfold f_82 at H
  refine wp_iconst 0 xi_82 dX9_sift_0 rfl ?_
  refine wp_istore_n [some (.ref a), some (.ref p0), some (.int p1), some (.int 0), none, none, none, none, none] xi_82 dX9_sift_1 rfl ?_
  obtain ⟨h1, G2, H⟩ := Option.bind_eq_some_iff.mp H
  refine Wp.more (by simp [xMore, Value.category]) (ef_82_2 d Q  100000 a p0 p1 0 h _ G2 (fun z0 e9 => ?_))
  cases e9
  refine wp_aload_n xi_82 dX9_sift_72 rfl ?_
  refine wp_aload_n xi_82 dX9_sift_73 rfl ?_
  refine wp_iload_n xi_82 dX9_sift_74 rfl ?_
  refine wp_iconst 1 xi_82 dX9_sift_75 rfl ?_
  obtain ⟨u4, gu4, H⟩ := Option.bind_eq_some_iff.mp H
  obtain ⟨⟨x6, h5⟩, gh5, H⟩ := Option.bind_eq_some_iff.mp H
  dsimp only at H
  refine wq_callV (a := a) (as := [.ref p0, .int p1, .int 1]) (r := []) (v1 := (some (.int x6))) xi_82 xi_81 dX9_sift_76 xm_9_62 rfl (Nat.le_of_ble_eq_true rfl) (pG_ok gu4) ⟨(Nat.le_of_ble_eq_true rfl), (Nat.le_of_ble_eq_true rfl)⟩ rfl nofun (e_81 d _ gh5 ⟨rfl, rfl⟩) ?_
  change Wp _ _ _ _ [.int x6] _ _
  refine wp_istore_n [some (.ref a), some (.ref p0), some (.int p1), some (.int x6), none, none, none, none, none] xi_82 dX9_sift_79 rfl ?_
  refine wp_aload_n xi_82 dX9_sift_80 rfl ?_
  refine wp_aload_n xi_82 dX9_sift_81 rfl ?_
  refine wp_iload_n xi_82 dX9_sift_82 rfl ?_
  refine wp_iconst 0 xi_82 dX9_sift_83 rfl ?_
  obtain ⟨u7, gu7, H⟩ := Option.bind_eq_some_iff.mp H
  obtain ⟨⟨x9, h8⟩, gh8, H⟩ := Option.bind_eq_some_iff.mp H
  dsimp only at H
  refine wq_callV (a := a) (as := [.ref p0, .int p1, .int 0]) (r := []) (v1 := (some (.int x9))) xi_82 xi_81 dX9_sift_84 xm_9_62 rfl (Nat.le_of_ble_eq_true rfl) (pG_ok gu7) ⟨(Nat.le_of_ble_eq_true rfl), (Nat.le_of_ble_eq_true rfl)⟩ rfl nofun (e_81 d _ gh8 ⟨rfl, rfl⟩) ?_
  change Wp _ _ _ _ [.int x9] _ _
  refine wp_istore [some (.ref a), some (.ref p0), some (.int p1), some (.int x6), some (.int x9), none, none, none, none] xi_82 dX9_sift_87 rfl ?_
  refine wp_aload_n xi_82 dX9_sift_89 rfl ?_
  refine wp_iconst 0 xi_82 dX9_sift_90 rfl ?_
  obtain ⟨h10, gh10, H⟩ := Option.bind_eq_some_iff.mp H
  refine wq_putf xi_82 dX9_sift_91 xf_9_66 (Or.inl rfl) gh10 ?_
  refine wp_aload_n xi_82 dX9_sift_94 rfl ?_
  obtain ⟨x11, gx11, H⟩ := Option.bind_eq_some_iff.mp H
  refine wq_getfr xi_82 dX9_sift_95 xf_9_31 gx11 ?_
  refine wp_iconst 0 xi_82 dX9_sift_98 rfl ?_
  obtain ⟨h12, gh12, H⟩ := Option.bind_eq_some_iff.mp H
  refine wq_callS (as := [.ref x11, .int 0]) (r := []) (v1 := none) xi_82 xi_266 dX9_sift_99 xm_9_50 rfl (Nat.le_of_ble_eq_true rfl) ⟨(Nat.le_of_ble_eq_true rfl), (Nat.le_of_ble_eq_true rfl)⟩ rfl nofun (e_266 (d + 1) _ gh12 ⟨rfl, rfl⟩) ?_
  change Wp _ _ _ _ [] _ _
  refine wp_aload_n xi_82 dX9_sift_102 rfl ?_
  obtain ⟨x13, gx13, H⟩ := Option.bind_eq_some_iff.mp H
  refine wq_getfr xi_82 dX9_sift_103 xf_9_34 gx13 ?_
  refine wp_iconst 0 xi_82 dX9_sift_106 rfl ?_
  obtain ⟨h14, gh14, H⟩ := Option.bind_eq_some_iff.mp H
  refine wq_callS (as := [.ref x13, .int 0]) (r := []) (v1 := none) xi_82 xi_266 dX9_sift_107 xm_9_50 rfl (Nat.le_of_ble_eq_true rfl) ⟨(Nat.le_of_ble_eq_true rfl), (Nat.le_of_ble_eq_true rfl)⟩ rfl nofun (e_266 (d + 1) _ gh14 ⟨rfl, rfl⟩) ?_
  change Wp _ _ _ _ [] _ _
  refine wp_aload_n xi_82 dX9_sift_110 rfl ?_
  obtain ⟨x15, gx15, H⟩ := Option.bind_eq_some_iff.mp H
  refine wq_getfr xi_82 dX9_sift_111 xf_9_25 gx15 ?_
  refine wp_iconst 0 xi_82 dX9_sift_114 rfl ?_
  obtain ⟨x16, gx16, H⟩ := Option.bind_eq_some_iff.mp H
  refine wq_iaload xi_82 dX9_sift_115 gx16 ?_
  refine wp_istore [some (.ref a), some (.ref p0), some (.int p1), some (.int x6), some (.int x9), some (.int x16), none, none, none] xi_82 dX9_sift_116 rfl ?_
  obtain ⟨h17, G18, H⟩ := Option.bind_eq_some_iff.mp H
  refine Wp.more (by simp [xMore, Value.category]) (ef_82_118 d Q  100000 a x6 x9 x16 h14 _ G18 (fun z0 e9 => ?_))
  cases e9
  obtain rfl := Option.some.inj H
  exact wp_vret xi_82 dX9_sift_224 hq
/- FelledHasLost$Tower.clear()V -/
def f_88  (a : Nat) (h : xH) : Option (xH) :=
  (pFr h a 10 0).bind fun x1 =>
  (f_266 x1 (-1) h).bind fun h2 =>
  (pP h2 a 10 4 (.int 0)).bind fun h3 =>
  some h3
set_option maxHeartbeats 4000000 in
theorem e_88 (d : Nat) (Q : Option Value → xH → Prop)  {h : xH} {a : Nat} {h1 : xH} (H : f_88  a h = some h1) (hq : Q none h1) : Wp (d + 1) 88 0 [some (.ref a)] [] h Q := by
  unfold f_88 at H
  refine wp_aload_n xi_88 dX10_clear_0 rfl ?_
  obtain ⟨x1, gx1, H⟩ := Option.bind_eq_some_iff.mp H
  refine wq_getfr xi_88 dX10_clear_1 xf_10_9 gx1 ?_
  refine wp_iconst (-1) xi_88 dX10_clear_4 rfl ?_
  obtain ⟨h2, gh2, H⟩ := Option.bind_eq_some_iff.mp H
  refine wq_callS (as := [.ref x1, .int (-1)]) (r := []) (v1 := none) xi_88 xi_266 dX10_clear_5 xm_10_24 rfl (Nat.le_of_ble_eq_true rfl) ⟨(Nat.le_of_ble_eq_true rfl), (Nat.le_of_ble_eq_true rfl)⟩ rfl nofun (e_266 d _ gh2 ⟨rfl, rfl⟩) ?_
  change Wp _ _ _ _ [] _ _
  refine wp_aload_n xi_88 dX10_clear_8 rfl ?_
  refine wp_iconst 0 xi_88 dX10_clear_9 rfl ?_
  obtain ⟨h3, gh3, H⟩ := Option.bind_eq_some_iff.mp H
  refine wq_putf xi_88 dX10_clear_10 xf_10_69 (Or.inl rfl) gh3 ?_
  obtain rfl := Option.some.inj H
  exact wp_vret xi_88 dX10_clear_13 hq
/- FelledHasLost$Tower.refresh(I)V -/
def f_95  (a : Nat) (p0 : Int32) (h : xH) : Option (xH) :=
  (pFr h a 10 0).bind fun x1 =>
  (pAi h x1 (3 * p0)).bind fun x2 =>
  (pFr h a 10 0).bind fun x3 =>
  (pAi h x3 ((3 * p0) + 1)).bind fun x4 =>
  (pFr h a 10 0).bind fun x5 =>
  (pAi h x5 ((3 * p0) + 2)).bind fun x6 =>
  ((if x2 = (-1) then
  some (0)
  else
  some ((x2 + 10)) : Option (Int32))).bind fun (w8 : Int32) =>
  ((if x4 = (-1) then
  some (0)
  else
  some ((x4 + 10)) : Option (Int32))).bind fun (w11 : Int32) =>
  ((if x6 = (-1) then
  some (0)
  else
  some ((x6 + 10)) : Option (Int32))).bind fun (w14 : Int32) =>
  (pFr h a 10 1).bind fun x16 =>
  (pSi h x16 p0 ((w8 + w11) + w14)).bind fun h17 =>
  (pFr h17 a 10 2).bind fun x18 =>
  (pSi h17 x18 p0 (w14 - w8)).bind fun h19 =>
  (pFr h19 a 10 3).bind fun x20 =>
  (f_96 x2 x4 x6 h19).bind fun (x22, h21) =>
  (pSi h21 x20 p0 x22).bind fun h23 =>
  some h23
set_option maxHeartbeats 4000000 in
theorem e_95 (d : Nat) (Q : Option Value → xH → Prop)  {h : xH} {a : Nat} {p0 : Int32} {h1 : xH} (H : f_95  a p0 h = some h1) (hq : Q none h1) : Wp (d + 1) 95 0 [some (.ref a), some (.int p0), none, none, none, none, none, none] [] h Q := by
  unfold f_95 at H
  refine wp_aload_n xi_95 dX10_refresh_0 rfl ?_
  obtain ⟨x1, gx1, H⟩ := Option.bind_eq_some_iff.mp H
  refine wq_getfr xi_95 dX10_refresh_1 xf_10_9 gx1 ?_
  refine wp_iconst 3 xi_95 dX10_refresh_4 rfl ?_
  refine wp_iload_n xi_95 dX10_refresh_5 rfl ?_
  refine wp_imul xi_95 dX10_refresh_6 ?_
  obtain ⟨x2, gx2, H⟩ := Option.bind_eq_some_iff.mp H
  refine wq_iaload xi_95 dX10_refresh_7 gx2 ?_
  refine wp_istore_n [some (.ref a), some (.int p0), some (.int x2), none, none, none, none, none] xi_95 dX10_refresh_8 rfl ?_
  refine wp_aload_n xi_95 dX10_refresh_9 rfl ?_
  obtain ⟨x3, gx3, H⟩ := Option.bind_eq_some_iff.mp H
  refine wq_getfr xi_95 dX10_refresh_10 xf_10_9 gx3 ?_
  refine wp_iconst 3 xi_95 dX10_refresh_13 rfl ?_
  refine wp_iload_n xi_95 dX10_refresh_14 rfl ?_
  refine wp_imul xi_95 dX10_refresh_15 ?_
  refine wp_iconst 1 xi_95 dX10_refresh_16 rfl ?_
  refine wp_iadd xi_95 dX10_refresh_17 ?_
  obtain ⟨x4, gx4, H⟩ := Option.bind_eq_some_iff.mp H
  refine wq_iaload xi_95 dX10_refresh_18 gx4 ?_
  refine wp_istore_n [some (.ref a), some (.int p0), some (.int x2), some (.int x4), none, none, none, none] xi_95 dX10_refresh_19 rfl ?_
  refine wp_aload_n xi_95 dX10_refresh_20 rfl ?_
  obtain ⟨x5, gx5, H⟩ := Option.bind_eq_some_iff.mp H
  refine wq_getfr xi_95 dX10_refresh_21 xf_10_9 gx5 ?_
  refine wp_iconst 3 xi_95 dX10_refresh_24 rfl ?_
  refine wp_iload_n xi_95 dX10_refresh_25 rfl ?_
  refine wp_imul xi_95 dX10_refresh_26 ?_
  refine wp_iconst 2 xi_95 dX10_refresh_27 rfl ?_
  refine wp_iadd xi_95 dX10_refresh_28 ?_
  obtain ⟨x6, gx6, H⟩ := Option.bind_eq_some_iff.mp H
  refine wq_iaload xi_95 dX10_refresh_29 gx6 ?_
  refine wp_istore [some (.ref a), some (.int p0), some (.int x2), some (.int x4), some (.int x6), none, none, none] xi_95 dX10_refresh_30 rfl ?_
  refine wp_iload_n xi_95 dX10_refresh_32 rfl ?_
  refine wp_iconst (-1) xi_95 dX10_refresh_33 rfl ?_
  obtain ⟨w8, G26, H⟩ := Option.bind_eq_some_iff.mp H
  have K9 : Wp (d + 1) 95 45 [some (.ref a), some (.int p0), some (.int x2), some (.int x4), some (.int x6), none, none, none] [.int w8] h Q := by
    refine wp_istore [some (.ref a), some (.int p0), some (.int x2), some (.int x4), some (.int x6), some (.int w8), none, none] xi_95 dX10_refresh_45 rfl ?_
    refine wp_iload_n xi_95 dX10_refresh_47 rfl ?_
    refine wp_iconst (-1) xi_95 dX10_refresh_48 rfl ?_
    obtain ⟨w11, G25, H⟩ := Option.bind_eq_some_iff.mp H
    have K12 : Wp (d + 1) 95 60 [some (.ref a), some (.int p0), some (.int x2), some (.int x4), some (.int x6), some (.int w8), none, none] [.int w11] h Q := by
      refine wp_istore [some (.ref a), some (.int p0), some (.int x2), some (.int x4), some (.int x6), some (.int w8), some (.int w11), none] xi_95 dX10_refresh_60 rfl ?_
      refine wp_iload xi_95 dX10_refresh_62 rfl ?_
      refine wp_iconst (-1) xi_95 dX10_refresh_64 rfl ?_
      obtain ⟨w14, G24, H⟩ := Option.bind_eq_some_iff.mp H
      have K15 : Wp (d + 1) 95 77 [some (.ref a), some (.int p0), some (.int x2), some (.int x4), some (.int x6), some (.int w8), some (.int w11), none] [.int w14] h Q := by
        refine wp_istore [some (.ref a), some (.int p0), some (.int x2), some (.int x4), some (.int x6), some (.int w8), some (.int w11), some (.int w14)] xi_95 dX10_refresh_77 rfl ?_
        refine wp_aload_n xi_95 dX10_refresh_79 rfl ?_
        obtain ⟨x16, gx16, H⟩ := Option.bind_eq_some_iff.mp H
        refine wq_getfr xi_95 dX10_refresh_80 xf_10_15 gx16 ?_
        refine wp_iload_n xi_95 dX10_refresh_83 rfl ?_
        refine wp_iload xi_95 dX10_refresh_84 rfl ?_
        refine wp_iload xi_95 dX10_refresh_86 rfl ?_
        refine wp_iadd xi_95 dX10_refresh_88 ?_
        refine wp_iload xi_95 dX10_refresh_89 rfl ?_
        refine wp_iadd xi_95 dX10_refresh_91 ?_
        obtain ⟨h17, gh17, H⟩ := Option.bind_eq_some_iff.mp H
        refine wq_iastore xi_95 dX10_refresh_92 gh17 ?_
        refine wp_aload_n xi_95 dX10_refresh_93 rfl ?_
        obtain ⟨x18, gx18, H⟩ := Option.bind_eq_some_iff.mp H
        refine wq_getfr xi_95 dX10_refresh_94 xf_10_18 gx18 ?_
        refine wp_iload_n xi_95 dX10_refresh_97 rfl ?_
        refine wp_iload xi_95 dX10_refresh_98 rfl ?_
        refine wp_iload xi_95 dX10_refresh_100 rfl ?_
        refine wp_isub xi_95 dX10_refresh_102 ?_
        obtain ⟨h19, gh19, H⟩ := Option.bind_eq_some_iff.mp H
        refine wq_iastore xi_95 dX10_refresh_103 gh19 ?_
        refine wp_aload_n xi_95 dX10_refresh_104 rfl ?_
        obtain ⟨x20, gx20, H⟩ := Option.bind_eq_some_iff.mp H
        refine wq_getfr xi_95 dX10_refresh_105 xf_10_21 gx20 ?_
        refine wp_iload_n xi_95 dX10_refresh_108 rfl ?_
        refine wp_iload_n xi_95 dX10_refresh_109 rfl ?_
        refine wp_iload_n xi_95 dX10_refresh_110 rfl ?_
        refine wp_iload xi_95 dX10_refresh_111 rfl ?_
        obtain ⟨⟨x22, h21⟩, gh21, H⟩ := Option.bind_eq_some_iff.mp H
        dsimp only at H
        refine wq_callS (as := [.int x2, .int x4, .int x6]) (r := [.int p0, .ref x20]) (v1 := (some (.int x22))) xi_95 xi_96 dX10_refresh_113 xm_10_89 rfl (Nat.le_of_ble_eq_true rfl) ⟨(Nat.le_of_ble_eq_true rfl), (Nat.le_of_ble_eq_true rfl)⟩ rfl nofun (e_96 d _ gh21 ⟨rfl, rfl⟩) ?_
        change Wp _ _ _ _ [.int x22, .int p0, .ref x20] _ _
        obtain ⟨h23, gh23, H⟩ := Option.bind_eq_some_iff.mp H
        refine wq_iastore xi_95 dX10_refresh_116 gh23 ?_
        obtain rfl := Option.some.inj H
        exact wp_vret xi_95 dX10_refresh_117 hq
      clear H
      have H := G24
      clear G24
      refine wp_icmp_ne 72 xi_95 dX10_refresh_65 rfl (fun c13 => ?_) (fun c13 => ?_)
      · rw [if_neg c13] at H
        refine wp_iload xi_95 dX10_refresh_72 rfl ?_
        refine wp_bipush 10 xi_95 dX10_refresh_74 rfl ?_
        refine wp_iadd xi_95 dX10_refresh_76 ?_
        obtain rfl := Option.some.inj H
        exact Wp.more (by simp [xMore, Value.category]) K15
      · rw [if_pos c13] at H
        refine wp_iconst 0 xi_95 dX10_refresh_68 rfl ?_
        refine wp_goto 77 xi_95 dX10_refresh_69 rfl ?_
        obtain rfl := Option.some.inj H
        exact Wp.more (by simp [xMore, Value.category]) K15
    clear H
    have H := G25
    clear G25
    refine wp_icmp_ne 56 xi_95 dX10_refresh_49 rfl (fun c10 => ?_) (fun c10 => ?_)
    · rw [if_neg c10] at H
      refine wp_iload_n xi_95 dX10_refresh_56 rfl ?_
      refine wp_bipush 10 xi_95 dX10_refresh_57 rfl ?_
      refine wp_iadd xi_95 dX10_refresh_59 ?_
      obtain rfl := Option.some.inj H
      exact Wp.more (by simp [xMore, Value.category]) K12
    · rw [if_pos c10] at H
      refine wp_iconst 0 xi_95 dX10_refresh_52 rfl ?_
      refine wp_goto 60 xi_95 dX10_refresh_53 rfl ?_
      obtain rfl := Option.some.inj H
      exact Wp.more (by simp [xMore, Value.category]) K12
  clear H
  have H := G26
  clear G26
  refine wp_icmp_ne 41 xi_95 dX10_refresh_34 rfl (fun c7 => ?_) (fun c7 => ?_)
  · rw [if_neg c7] at H
    refine wp_iload_n xi_95 dX10_refresh_41 rfl ?_
    refine wp_bipush 10 xi_95 dX10_refresh_42 rfl ?_
    refine wp_iadd xi_95 dX10_refresh_44 ?_
    obtain rfl := Option.some.inj H
    exact Wp.more (by simp [xMore, Value.category]) K9
  · rw [if_pos c7] at H
    refine wp_iconst 0 xi_95 dX10_refresh_37 rfl ?_
    refine wp_goto 45 xi_95 dX10_refresh_38 rfl ?_
    obtain rfl := Option.some.inj H
    exact Wp.more (by simp [xMore, Value.category]) K9
/- FelledHasLost.players()I -/
def f_109_23  : Nat → Nat → Int32 → Int32 → xH → Option (xH)
  | 0, _, _, _, _ => none
  | n + 1, a0, a1, a2, h =>
  (pFi h a0 11 16).bind fun x1 =>
  (if x1 ≤ a2 then
  some (h)
  else
  (if (4 : Int32) ≤ a2 then
  some (h)
  else
  (pFr h a0 11 14).bind fun x4 =>
  (pFr h a0 11 0).bind fun x5 =>
  (pFr h x5 8 0).bind fun x6 =>
  (pAi h x6 a2).bind fun x7 =>
  (pSi h x4 a2 (x7 - 48)).bind fun h8 =>
  f_109_23 n a0 a1 (a2 + 1) h8))
theorem ef_109_23 (d : Nat) (Q : Option Value → xH → Prop)  : ∀ (n : Nat) (a0 : Nat) (a1 : Int32) (a2 : Int32) (h : xH) (r : xH), f_109_23 n a0 a1 a2 h = some r → (∀  (h1 : xH), r = h1 → Wp (d + 2) 109 60 [some (.ref a0), some (.int a1), none] [] h1 Q) → Wp (d + 2) 109 23 [some (.ref a0), some (.int a1), some (.int a2)] [] h Q := by
  intro n
  induction n with
  | zero =>
    intro a0 a1 a2 h r H
    cases H
  | succ n ih =>
    intro a0 a1 a2 h r H KE
    unfold f_109_23 at H
    refine wp_iload_n xi_109 dX11_players_23 rfl ?_
    refine wp_aload_n xi_109 dX11_players_24 rfl ?_
    obtain ⟨x1, gx1, H⟩ := Option.bind_eq_some_iff.mp H
    refine wq_getfi xi_109 dX11_players_25 xf_11_108 gx1 ?_
    refine wp_icmp_ge 60 xi_109 dX11_players_28 rfl (fun c2 => ?_) (fun c2 => ?_)
    · rw [if_pos c2] at H
      obtain rfl := Option.some.inj H
      exact Wp.more (by simp [xMore, Value.category]) (KE  h rfl)
    · rw [if_neg c2] at H
      refine wp_iload_n xi_109 dX11_players_31 rfl ?_
      refine wp_iconst 4 xi_109 dX11_players_32 rfl ?_
      refine wp_icmp_ge 60 xi_109 dX11_players_33 rfl (fun c3 => ?_) (fun c3 => ?_)
      · rw [if_pos c3] at H
        obtain rfl := Option.some.inj H
        exact Wp.more (by simp [xMore, Value.category]) (KE  h rfl)
      · rw [if_neg c3] at H
        refine wp_aload_n xi_109 dX11_players_36 rfl ?_
        obtain ⟨x4, gx4, H⟩ := Option.bind_eq_some_iff.mp H
        refine wq_getfr xi_109 dX11_players_37 xf_11_101 gx4 ?_
        refine wp_iload_n xi_109 dX11_players_40 rfl ?_
        refine wp_aload_n xi_109 dX11_players_41 rfl ?_
        obtain ⟨x5, gx5, H⟩ := Option.bind_eq_some_iff.mp H
        refine wq_getfr xi_109 dX11_players_42 xf_11_12 gx5 ?_
        obtain ⟨x6, gx6, H⟩ := Option.bind_eq_some_iff.mp H
        refine wq_getfr xi_109 dX11_players_45 xf_11_156 gx6 ?_
        refine wp_iload_n xi_109 dX11_players_48 rfl ?_
        obtain ⟨x7, gx7, H⟩ := Option.bind_eq_some_iff.mp H
        refine wq_iaload xi_109 dX11_players_49 gx7 ?_
        refine wp_bipush 48 xi_109 dX11_players_50 rfl ?_
        refine wp_isub xi_109 dX11_players_52 ?_
        obtain ⟨h8, gh8, H⟩ := Option.bind_eq_some_iff.mp H
        refine wq_iastore xi_109 dX11_players_53 gh8 ?_
        refine wp_iinc (a2 + 1) [some (.ref a0), some (.int a1), some (.int (a2 + 1))] xi_109 dX11_players_54 rfl rfl rfl ?_
        refine wp_goto 23 xi_109 dX11_players_57 rfl ?_
        exact Wp.more (by simp [xMore, Value.category]) (ih a0 a1 (a2 + 1) h8 _ H KE)
def f_109  (a : Nat) (h : xH) : Option (Int32 × xH) :=
  (pG (pIs h a 11)).bind fun _ =>
  (f_110 a h).bind fun (x3, h2) =>
  ((if x3 = (-1) then
  (pFr h2 a 11 0).bind fun x15 =>
  (pFi h2 x15 8 1).bind fun x16 =>
  (pP h2 a 11 16 (.int x16)).bind fun h17 =>
  (f_109_23 100000 a x3 0 h17).bind fun h18 =>
  (pFr h18 a 11 2).bind fun x21 =>
  (pP h18 x21 7 1 (.int 0)).bind fun h22 =>
  some (h22)
  else
  some (h2) : Option (xH))).bind fun (h13 : xH) =>
  (pFr h13 a 11 0).bind fun x23 =>
  (pG (pIs h13 x23 8)).bind fun _ =>
  (f_75 x23 h13).bind fun h25 =>
  ((if x3 = (-1) then
  (pFi h25 a 11 16).bind fun x30 =>
  some (x30)
  else
  some (((-1) - x3)) : Option (Int32))).bind fun (w28 : Int32) =>
  some (w28, h25)
set_option maxHeartbeats 4000000 in
theorem e_109 (d : Nat) (Q : Option Value → xH → Prop)  {h : xH} {a : Nat} {x : Int32} {h1 : xH} (H : f_109  a h = some (x, h1)) (hq : Q (some (.int x)) h1) : Wp (d + 2) 109 0 [some (.ref a), none, none] [] h Q := by
  unfold f_109 at H
  refine wp_aload_n xi_109 dX11_players_0 rfl ?_
  obtain ⟨u1, gu1, H⟩ := Option.bind_eq_some_iff.mp H
  obtain ⟨⟨x3, h2⟩, gh2, H⟩ := Option.bind_eq_some_iff.mp H
  dsimp only at H
  refine wq_callV (a := a) (as := []) (r := []) (v1 := (some (.int x3))) xi_109 xi_110 dX11_players_1 xm_11_152 rfl (Nat.le_of_ble_eq_true rfl) (pG_ok gu1) ⟨(Nat.le_of_ble_eq_true rfl), (Nat.le_of_ble_eq_true rfl)⟩ rfl nofun (e_110 d _ gh2 ⟨rfl, rfl⟩) ?_
  change Wp _ _ _ _ [.int x3] _ _
  refine wp_istore_n [some (.ref a), some (.int x3), none] xi_109 dX11_players_4 rfl ?_
  refine wp_iload_n xi_109 dX11_players_5 rfl ?_
  refine wp_iconst (-1) xi_109 dX11_players_6 rfl ?_
  obtain ⟨h13, G32, H⟩ := Option.bind_eq_some_iff.mp H
  have K14 : Wp (d + 2) 109 68 [some (.ref a), some (.int x3), none] [] h13 Q := by
    refine wp_aload_n xi_109 dX11_players_68 rfl ?_
    obtain ⟨x23, gx23, H⟩ := Option.bind_eq_some_iff.mp H
    refine wq_getfr xi_109 dX11_players_69 xf_11_12 gx23 ?_
    obtain ⟨u24, gu24, H⟩ := Option.bind_eq_some_iff.mp H
    obtain ⟨h25, gh25, H⟩ := Option.bind_eq_some_iff.mp H
    refine wq_callV (a := x23) (as := []) (r := []) (v1 := none) xi_109 xi_75 dX11_players_72 xm_11_146 rfl (Nat.le_of_ble_eq_true rfl) (pG_ok gu24) ⟨(Nat.le_of_ble_eq_true rfl), (Nat.le_of_ble_eq_true rfl)⟩ rfl nofun (e_75 (d + 1) _ gh25 ⟨rfl, rfl⟩) ?_
    change Wp _ _ _ _ [] _ _
    refine wp_iload_n xi_109 dX11_players_75 rfl ?_
    refine wp_iconst (-1) xi_109 dX11_players_76 rfl ?_
    obtain ⟨w28, G31, H⟩ := Option.bind_eq_some_iff.mp H
    have K29 : Wp (d + 2) 109 90 [some (.ref a), some (.int x3), none] [.int w28] h25 Q := by
      obtain ⟨rfl, rfl⟩ := oi2 H
      exact wp_iret xi_109 dX11_players_90 hq
    clear H
    have H := G31
    clear G31
    refine wp_icmp_ne 87 xi_109 dX11_players_77 rfl (fun c26 => ?_) (fun c26 => ?_)
    · rw [if_neg c26] at H
      refine wp_iconst (-1) xi_109 dX11_players_87 rfl ?_
      refine wp_iload_n xi_109 dX11_players_88 rfl ?_
      refine wp_isub xi_109 dX11_players_89 ?_
      obtain rfl := Option.some.inj H
      exact Wp.more (by simp [xMore, Value.category]) K29
    · rw [if_pos c26] at H
      refine wp_aload_n xi_109 dX11_players_80 rfl ?_
      obtain ⟨x30, gx30, H⟩ := Option.bind_eq_some_iff.mp H
      refine wq_getfi xi_109 dX11_players_81 xf_11_108 gx30 ?_
      refine wp_goto 90 xi_109 dX11_players_84 rfl ?_
      obtain rfl := Option.some.inj H
      exact Wp.more (by simp [xMore, Value.category]) K29
  clear H
  have H := G32
  clear G32
  refine wp_icmp_ne 68 xi_109 dX11_players_7 rfl (fun c4 => ?_) (fun c4 => ?_)
  · rw [if_neg c4] at H
    obtain rfl := Option.some.inj H
    exact Wp.more (by simp [xMore, Value.category]) K14
  · rw [if_pos c4] at H
    refine wp_aload_n xi_109 dX11_players_10 rfl ?_
    refine wp_aload_n xi_109 dX11_players_11 rfl ?_
    obtain ⟨x15, gx15, H⟩ := Option.bind_eq_some_iff.mp H
    refine wq_getfr xi_109 dX11_players_12 xf_11_12 gx15 ?_
    obtain ⟨x16, gx16, H⟩ := Option.bind_eq_some_iff.mp H
    refine wq_getfi xi_109 dX11_players_15 xf_11_122 gx16 ?_
    obtain ⟨h17, gh17, H⟩ := Option.bind_eq_some_iff.mp H
    refine wq_putf xi_109 dX11_players_18 xf_11_108 (Or.inl rfl) gh17 ?_
    refine wp_iconst 0 xi_109 dX11_players_21 rfl ?_
    refine wp_istore_n [some (.ref a), some (.int x3), some (.int 0)] xi_109 dX11_players_22 rfl ?_
    obtain ⟨h18, G19, H⟩ := Option.bind_eq_some_iff.mp H
    refine Wp.more (by simp [xMore, Value.category]) (ef_109_23 d Q  100000 a x3 0 h17 _ G19 (fun z0 e9 => ?_))
    cases e9
    refine wp_aload_n xi_109 dX11_players_60 rfl ?_
    obtain ⟨x21, gx21, H⟩ := Option.bind_eq_some_iff.mp H
    refine wq_getfr xi_109 dX11_players_61 xf_11_26 gx21 ?_
    refine wp_iconst 0 xi_109 dX11_players_64 rfl ?_
    obtain ⟨h22, gh22, H⟩ := Option.bind_eq_some_iff.mp H
    refine wq_putf xi_109 dX11_players_65 xf_11_159 (Or.inl rfl) gh22 ?_
    obtain rfl := Option.some.inj H
    exact Wp.more (by simp [xMore, Value.category]) K14
/- FelledHasLost.layer(II)I -/
def f_113  (a : Nat) (p0 : Int32) (p1 : Int32) (h : xH) : Option (Option Int32 × xH) :=
  (pFr h a 11 2).bind fun x1 =>
  (pFr h x1 7 0).bind fun x2 =>
  (pG (pIs h x2 10)).bind fun _ =>
  (f_91 x2 p0 h).bind fun (x5, h4) =>
  (if x5 = 0 then
  some (none, (h4.1, h4.2.1 + 6, h4.2.2.1 + 1, h4.2.2.2))
  else
  (pFr h4 a 11 6).bind fun x7 =>
  (pG (pIs h4 x7 0)).bind fun _ =>
  (f_3 x7 x2 h4).bind fun (x10, h9) =>
  (if p1 = 0 then
  (pG (pIs h9 x2 10)).bind fun _ =>
  (f_97 x2 p0 h9).bind fun (x20, h19) =>
  some (some x20, h19)
  else
  if p1 = 1 then
  (pFr h9 a 11 6).bind fun x21 =>
  (pFr h9 x21 0 1).bind fun x22 =>
  (pAi h9 x22 p0).bind fun x23 =>
  some (some x23, h9)
  else
  if p1 = 2 then
  (pFr h9 a 11 6).bind fun x24 =>
  (pFr h9 x24 0 2).bind fun x25 =>
  (pAi h9 x25 p0).bind fun x26 =>
  some (some x26, h9)
  else
  if p1 = 3 then
  (pFr h9 a 11 6).bind fun x27 =>
  (pFr h9 x27 0 3).bind fun x28 =>
  (pAi h9 x28 p0).bind fun x29 =>
  some (some x29, h9)
  else
  if p1 = 4 then
  (pFr h9 x2 10 3).bind fun x30 =>
  (pAi h9 x30 p0).bind fun x31 =>
  (f_1 x31 h9).bind fun (x33, h32) =>
  some (some x33, h32)
  else
  if p1 = 5 then
  (pFr h9 x2 10 3).bind fun x34 =>
  (pAi h9 x34 p0).bind fun x35 =>
  (f_2 x35 h9).bind fun (x37, h36) =>
  some (some x37, h36)
  else
  if p1 = 6 then
  (pFr h9 x2 10 3).bind fun x38 =>
  (pAi h9 x38 p0).bind fun x39 =>
  some (some x39, h9)
  else
  some (none, (h9.1, h9.2.1 + 6, h9.2.2.1 + 1, h9.2.2.2))))
set_option maxHeartbeats 4000000 in
theorem e_113 (d : Nat) (Q : Option Value → xH → Prop)  {h : xH} {a : Nat} {p0 : Int32} {p1 : Int32} {x : Option Int32} {h1 : xH} (H : f_113  a p0 p1 h = some (x, h1)) (hq : Q (some (xOi x)) h1) : Wp (d + 2) 113 0 [some (.ref a), some (.int p0), some (.int p1), none] [] h Q := by
  unfold f_113 at H
  refine wp_aload_n xi_113 dX11_layer_0 rfl ?_
  obtain ⟨x1, gx1, H⟩ := Option.bind_eq_some_iff.mp H
  refine wq_getfr xi_113 dX11_layer_1 xf_11_26 gx1 ?_
  obtain ⟨x2, gx2, H⟩ := Option.bind_eq_some_iff.mp H
  refine wq_getfr xi_113 dX11_layer_4 xf_11_132 gx2 ?_
  refine wp_astore_n [some (.ref a), some (.int p0), some (.int p1), some (.ref x2)] xi_113 dX11_layer_7 rfl ?_
  refine wp_aload_n xi_113 dX11_layer_8 rfl ?_
  refine wp_iload_n xi_113 dX11_layer_9 rfl ?_
  obtain ⟨u3, gu3, H⟩ := Option.bind_eq_some_iff.mp H
  obtain ⟨⟨x5, h4⟩, gh4, H⟩ := Option.bind_eq_some_iff.mp H
  dsimp only at H
  refine wq_callV (a := x2) (as := [.int p0]) (r := []) (v1 := (some (.int x5))) xi_113 xi_91 dX11_layer_10 xm_11_204 rfl (Nat.le_of_ble_eq_true rfl) (pG_ok gu3) ⟨(Nat.le_of_ble_eq_true rfl), (Nat.le_of_ble_eq_true rfl)⟩ rfl nofun (e_91 (d + 1) _ gh4 ⟨rfl, rfl⟩) ?_
  change Wp _ _ _ _ [.int x5] _ _
  refine wp_if_ne 26 xi_113 dX11_layer_13 rfl (fun c6 => ?_) (fun c6 => ?_)
  · rw [if_neg c6] at H
    refine wp_aload_n xi_113 dX11_layer_26 rfl ?_
    obtain ⟨x7, gx7, H⟩ := Option.bind_eq_some_iff.mp H
    refine wq_getfr xi_113 dX11_layer_27 xf_11_48 gx7 ?_
    refine wp_aload_n xi_113 dX11_layer_30 rfl ?_
    obtain ⟨u8, gu8, H⟩ := Option.bind_eq_some_iff.mp H
    obtain ⟨⟨x10, h9⟩, gh9, H⟩ := Option.bind_eq_some_iff.mp H
    dsimp only at H
    refine wq_callV (a := x7) (as := [.ref x2]) (r := []) (v1 := (some (.int x10))) xi_113 xi_3 dX11_layer_31 xm_11_196 rfl (Nat.le_of_ble_eq_true rfl) (pG_ok gu8) ⟨(Nat.le_of_ble_eq_true rfl), (Nat.le_of_ble_eq_true rfl)⟩ rfl nofun (e_3 d _ gh9 ⟨rfl, rfl⟩) ?_
    change Wp _ _ _ _ [.int x10] _ _
    refine wp_pop xi_113 dX11_layer_34 rfl ?_
    refine wp_iload_n xi_113 dX11_layer_35 rfl ?_
    by_cases c11 : p1 = 0
    · rw [if_pos c11] at H
      refine Wp.pure (p2 := 80) (ls2 := [some (.ref a), some (.int p0), some (.int p1), some (.ref x2)]) (st2 := []) (h2 := h9) xi_113 dX11_layer_36 rfl rfl rfl (by rw [c11]; rfl) ?_
      refine wp_aload_n xi_113 dX11_layer_80 rfl ?_
      refine wp_iload_n xi_113 dX11_layer_81 rfl ?_
      obtain ⟨u18, gu18, H⟩ := Option.bind_eq_some_iff.mp H
      obtain ⟨⟨x20, h19⟩, gh19, H⟩ := Option.bind_eq_some_iff.mp H
      dsimp only at H
      refine wq_callV (a := x2) (as := [.int p0]) (r := []) (v1 := (some (.int x20))) xi_113 xi_97 dX11_layer_82 xm_11_190 rfl (Nat.le_of_ble_eq_true rfl) (pG_ok gu18) ⟨(Nat.le_of_ble_eq_true rfl), (Nat.le_of_ble_eq_true rfl)⟩ rfl nofun (e_97 d _ gh19 ⟨rfl, rfl⟩) ?_
      change Wp _ _ _ _ [.int x20] _ _
      obtain ⟨rfl, rfl⟩ := oi2 H
      exact wp_iret xi_113 dX11_layer_85 hq
    · rw [if_neg c11] at H
      by_cases c12 : p1 = 1
      · rw [if_pos c12] at H
        refine Wp.pure (p2 := 86) (ls2 := [some (.ref a), some (.int p0), some (.int p1), some (.ref x2)]) (st2 := []) (h2 := h9) xi_113 dX11_layer_36 rfl rfl rfl (by rw [c12]; rfl) ?_
        refine wp_aload_n xi_113 dX11_layer_86 rfl ?_
        obtain ⟨x21, gx21, H⟩ := Option.bind_eq_some_iff.mp H
        refine wq_getfr xi_113 dX11_layer_87 xf_11_48 gx21 ?_
        obtain ⟨x22, gx22, H⟩ := Option.bind_eq_some_iff.mp H
        refine wq_getfr xi_113 dX11_layer_90 xf_11_209 gx22 ?_
        refine wp_iload_n xi_113 dX11_layer_93 rfl ?_
        obtain ⟨x23, gx23, H⟩ := Option.bind_eq_some_iff.mp H
        refine wq_iaload xi_113 dX11_layer_94 gx23 ?_
        obtain ⟨rfl, rfl⟩ := oi2 H
        exact wp_iret xi_113 dX11_layer_95 hq
      · rw [if_neg c12] at H
        by_cases c13 : p1 = 2
        · rw [if_pos c13] at H
          refine Wp.pure (p2 := 96) (ls2 := [some (.ref a), some (.int p0), some (.int p1), some (.ref x2)]) (st2 := []) (h2 := h9) xi_113 dX11_layer_36 rfl rfl rfl (by rw [c13]; rfl) ?_
          refine wp_aload_n xi_113 dX11_layer_96 rfl ?_
          obtain ⟨x24, gx24, H⟩ := Option.bind_eq_some_iff.mp H
          refine wq_getfr xi_113 dX11_layer_97 xf_11_48 gx24 ?_
          obtain ⟨x25, gx25, H⟩ := Option.bind_eq_some_iff.mp H
          refine wq_getfr xi_113 dX11_layer_100 xf_11_212 gx25 ?_
          refine wp_iload_n xi_113 dX11_layer_103 rfl ?_
          obtain ⟨x26, gx26, H⟩ := Option.bind_eq_some_iff.mp H
          refine wq_iaload xi_113 dX11_layer_104 gx26 ?_
          obtain ⟨rfl, rfl⟩ := oi2 H
          exact wp_iret xi_113 dX11_layer_105 hq
        · rw [if_neg c13] at H
          by_cases c14 : p1 = 3
          · rw [if_pos c14] at H
            refine Wp.pure (p2 := 106) (ls2 := [some (.ref a), some (.int p0), some (.int p1), some (.ref x2)]) (st2 := []) (h2 := h9) xi_113 dX11_layer_36 rfl rfl rfl (by rw [c14]; rfl) ?_
            refine wp_aload_n xi_113 dX11_layer_106 rfl ?_
            obtain ⟨x27, gx27, H⟩ := Option.bind_eq_some_iff.mp H
            refine wq_getfr xi_113 dX11_layer_107 xf_11_48 gx27 ?_
            obtain ⟨x28, gx28, H⟩ := Option.bind_eq_some_iff.mp H
            refine wq_getfr xi_113 dX11_layer_110 xf_11_215 gx28 ?_
            refine wp_iload_n xi_113 dX11_layer_113 rfl ?_
            obtain ⟨x29, gx29, H⟩ := Option.bind_eq_some_iff.mp H
            refine wq_iaload xi_113 dX11_layer_114 gx29 ?_
            obtain ⟨rfl, rfl⟩ := oi2 H
            exact wp_iret xi_113 dX11_layer_115 hq
          · rw [if_neg c14] at H
            by_cases c15 : p1 = 4
            · rw [if_pos c15] at H
              refine Wp.pure (p2 := 116) (ls2 := [some (.ref a), some (.int p0), some (.int p1), some (.ref x2)]) (st2 := []) (h2 := h9) xi_113 dX11_layer_36 rfl rfl rfl (by rw [c15]; rfl) ?_
              refine wp_aload_n xi_113 dX11_layer_116 rfl ?_
              obtain ⟨x30, gx30, H⟩ := Option.bind_eq_some_iff.mp H
              refine wq_getfr xi_113 dX11_layer_117 xf_11_218 gx30 ?_
              refine wp_iload_n xi_113 dX11_layer_120 rfl ?_
              obtain ⟨x31, gx31, H⟩ := Option.bind_eq_some_iff.mp H
              refine wq_iaload xi_113 dX11_layer_121 gx31 ?_
              obtain ⟨⟨x33, h32⟩, gh32, H⟩ := Option.bind_eq_some_iff.mp H
              dsimp only at H
              refine wq_callS (as := [.int x31]) (r := []) (v1 := (some (.int x33))) xi_113 xi_1 dX11_layer_122 xm_11_221 rfl (Nat.le_of_ble_eq_true rfl) ⟨(Nat.le_of_ble_eq_true rfl), (Nat.le_of_ble_eq_true rfl)⟩ rfl nofun (e_1 (d + 1) _ gh32 ⟨rfl, rfl⟩) ?_
              change Wp _ _ _ _ [.int x33] _ _
              obtain ⟨rfl, rfl⟩ := oi2 H
              exact wp_iret xi_113 dX11_layer_125 hq
            · rw [if_neg c15] at H
              by_cases c16 : p1 = 5
              · rw [if_pos c16] at H
                refine Wp.pure (p2 := 126) (ls2 := [some (.ref a), some (.int p0), some (.int p1), some (.ref x2)]) (st2 := []) (h2 := h9) xi_113 dX11_layer_36 rfl rfl rfl (by rw [c16]; rfl) ?_
                refine wp_aload_n xi_113 dX11_layer_126 rfl ?_
                obtain ⟨x34, gx34, H⟩ := Option.bind_eq_some_iff.mp H
                refine wq_getfr xi_113 dX11_layer_127 xf_11_218 gx34 ?_
                refine wp_iload_n xi_113 dX11_layer_130 rfl ?_
                obtain ⟨x35, gx35, H⟩ := Option.bind_eq_some_iff.mp H
                refine wq_iaload xi_113 dX11_layer_131 gx35 ?_
                obtain ⟨⟨x37, h36⟩, gh36, H⟩ := Option.bind_eq_some_iff.mp H
                dsimp only at H
                refine wq_callS (as := [.int x35]) (r := []) (v1 := (some (.int x37))) xi_113 xi_2 dX11_layer_132 xm_11_224 rfl (Nat.le_of_ble_eq_true rfl) ⟨(Nat.le_of_ble_eq_true rfl), (Nat.le_of_ble_eq_true rfl)⟩ rfl nofun (e_2 (d + 1) _ gh36 ⟨rfl, rfl⟩) ?_
                change Wp _ _ _ _ [.int x37] _ _
                obtain ⟨rfl, rfl⟩ := oi2 H
                exact wp_iret xi_113 dX11_layer_135 hq
              · rw [if_neg c16] at H
                by_cases c17 : p1 = 6
                · rw [if_pos c17] at H
                  refine Wp.pure (p2 := 136) (ls2 := [some (.ref a), some (.int p0), some (.int p1), some (.ref x2)]) (st2 := []) (h2 := h9) xi_113 dX11_layer_36 rfl rfl rfl (by rw [c17]; rfl) ?_
                  refine wp_aload_n xi_113 dX11_layer_136 rfl ?_
                  obtain ⟨x38, gx38, H⟩ := Option.bind_eq_some_iff.mp H
                  refine wq_getfr xi_113 dX11_layer_137 xf_11_218 gx38 ?_
                  refine wp_iload_n xi_113 dX11_layer_140 rfl ?_
                  obtain ⟨x39, gx39, H⟩ := Option.bind_eq_some_iff.mp H
                  refine wq_iaload xi_113 dX11_layer_141 gx39 ?_
                  obtain ⟨rfl, rfl⟩ := oi2 H
                  exact wp_iret xi_113 dX11_layer_142 hq
                · rw [if_neg c17] at H
                  have ec11 := lv_neT c11 (a := 0) (by decide)
                  have ec12 := lv_neT c12 (a := 1) (by decide)
                  have ec13 := lv_neT c13 (a := 2) (by decide)
                  have ec14 := lv_neT c14 (a := 3) (by decide)
                  have ec15 := lv_neT c15 (a := 4) (by decide)
                  have ec16 := lv_neT c16 (a := 5) (by decide)
                  have ec17 := lv_neT c17 (a := 6) (by decide)
                  refine Wp.pure (p2 := 143) (ls2 := [some (.ref a), some (.int p0), some (.int p1), some (.ref x2)]) (st2 := []) (h2 := h9) xi_113 dX11_layer_36 rfl rfl rfl (by simp only [xPure, xJ]; rw [if_pos (by omega)]; rfl) ?_
                  obtain ⟨rfl, rfl⟩ := oi2 H
                  exact wq_throw xi_113 dX11_layer_143 xn_11_168 hq
  · rw [if_pos c6] at H
    obtain ⟨rfl, rfl⟩ := oi2 H
    exact wq_throw xi_113 dX11_layer_16 xn_11_168 hq
