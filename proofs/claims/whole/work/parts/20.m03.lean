/- FelledHasLostModel.takes(I)Z -/
def f_174  (a : Nat) (p0 : Int32) (h : xH) : Option (Int32 × xH) :=
  (pFi h a 12 11).bind fun x1 =>
  (pFi h a 12 12).bind fun x2 =>
  ((if x2 ≤ x1 then
  some (0)
  else
  (pFr h a 12 9).bind fun x10 =>
  (pFi h a 12 11).bind fun x11 =>
  (pAi h x10 x11).bind fun x12 =>
  (if x12 = p0 then
  some (1)
  else
  some (0)) : Option (Int32))).bind fun (w8 : Int32) =>
  (pFi h a 12 11).bind fun x14 =>
  (f_163 w8 h).bind fun (x16, h15) =>
  (pP h15 a 12 11 (.int (x14 + x16))).bind fun h17 =>
  pZ w8 h17
set_option maxHeartbeats 4000000 in
theorem e_174 (d : Nat) (Q : Option Value → xH → Prop)  {h : xH} {a : Nat} {p0 : Int32} {x : Int32} {h1 : xH} (H : f_174  a p0 h = some (x, h1)) (hq : Q (some (.int x)) h1) : Wp (d + 1) 174 0 [some (.ref a), some (.int p0), none] [] h Q := by
  unfold f_174 at H
  refine wp_aload_n xi_174 dX12_takes_0 rfl ?_
  obtain ⟨x1, gx1, H⟩ := Option.bind_eq_some_iff.mp H
  refine wq_getfi xi_174 dX12_takes_1 xf_12_146 gx1 ?_
  refine wp_aload_n xi_174 dX12_takes_4 rfl ?_
  obtain ⟨x2, gx2, H⟩ := Option.bind_eq_some_iff.mp H
  refine wq_getfi xi_174 dX12_takes_5 xf_12_158 gx2 ?_
  obtain ⟨w8, G18, H⟩ := Option.bind_eq_some_iff.mp H
  have K9 : Wp (d + 1) 174 29 [some (.ref a), some (.int p0), none] [.int w8] h Q := by
    refine wp_istore_n [some (.ref a), some (.int p0), some (.int w8)] xi_174 dX12_takes_29 rfl ?_
    refine wp_aload_n xi_174 dX12_takes_30 rfl ?_
    refine wp_dup xi_174 dX12_takes_31 rfl ?_
    obtain ⟨x14, gx14, H⟩ := Option.bind_eq_some_iff.mp H
    refine wq_getfi xi_174 dX12_takes_32 xf_12_146 gx14 ?_
    refine wp_iload_n xi_174 dX12_takes_35 rfl ?_
    obtain ⟨⟨x16, h15⟩, gh15, H⟩ := Option.bind_eq_some_iff.mp H
    dsimp only at H
    refine wq_callS (as := [.int w8]) (r := [.int x14, .ref a]) (v1 := (some (.int x16))) xi_174 xi_163 dX12_takes_36 xm_12_139 rfl (Nat.le_of_ble_eq_true rfl) ⟨(Nat.le_of_ble_eq_true rfl), (Nat.le_of_ble_eq_true rfl)⟩ rfl nofun (e_163 d _ gh15 ⟨rfl, rfl⟩) ?_
    change Wp _ _ _ _ [.int x16, .int x14, .ref a] _ _
    refine wp_iadd xi_174 dX12_takes_39 ?_
    obtain ⟨h17, gh17, H⟩ := Option.bind_eq_some_iff.mp H
    refine wq_putf xi_174 dX12_takes_40 xf_12_146 (Or.inl rfl) gh17 ?_
    refine wp_iload_n xi_174 dX12_takes_43 rfl ?_
    obtain ⟨gz, hz⟩ := pZ_ok H
    obtain ⟨rfl, rfl⟩ := Prod.mk.inj hz
    exact wp_zret xi_174 dX12_takes_44 gz hq
  clear H
  have H := G18
  clear G18
  refine wp_icmp_ge 28 xi_174 dX12_takes_8 rfl (fun c3 => ?_) (fun c3 => ?_)
  · rw [if_pos c3] at H
    refine wp_iconst 0 xi_174 dX12_takes_28 rfl ?_
    obtain rfl := Option.some.inj H
    exact Wp.more (by simp [xMore, Value.category]) K9
  · rw [if_neg c3] at H
    refine wp_aload_n xi_174 dX12_takes_11 rfl ?_
    obtain ⟨x10, gx10, H⟩ := Option.bind_eq_some_iff.mp H
    refine wq_getfr xi_174 dX12_takes_12 xf_12_37 gx10 ?_
    refine wp_aload_n xi_174 dX12_takes_15 rfl ?_
    obtain ⟨x11, gx11, H⟩ := Option.bind_eq_some_iff.mp H
    refine wq_getfi xi_174 dX12_takes_16 xf_12_146 gx11 ?_
    obtain ⟨x12, gx12, H⟩ := Option.bind_eq_some_iff.mp H
    refine wq_iaload xi_174 dX12_takes_19 gx12 ?_
    refine wp_iload_n xi_174 dX12_takes_20 rfl ?_
    refine wp_icmp_ne 28 xi_174 dX12_takes_21 rfl (fun c13 => ?_) (fun c13 => ?_)
    · rw [if_neg c13] at H
      refine wp_iconst 0 xi_174 dX12_takes_28 rfl ?_
      obtain rfl := Option.some.inj H
      exact Wp.more (by simp [xMore, Value.category]) K9
    · rw [if_pos c13] at H
      refine wp_iconst 1 xi_174 dX12_takes_24 rfl ?_
      refine wp_goto 29 xi_174 dX12_takes_25 rfl ?_
      obtain rfl := Option.some.inj H
      exact Wp.more (by simp [xMore, Value.category]) K9
/- FelledHasLostModel.isDigit()Z -/
def f_175  (a : Nat) (h : xH) : Option (Int32 × xH) :=
  (pFi h a 12 11).bind fun x1 =>
  (pFi h a 12 12).bind fun x2 =>
  ((if x2 ≤ x1 then
  some (0, h)
  else
  (pFr h a 12 9).bind fun x13 =>
  (pFi h a 12 11).bind fun x14 =>
  (pAi h x13 x14).bind fun x15 =>
  (f_162 ((x15 : Int32).toInt64) (48 : Int64) (57 : Int64) h).bind fun (x17, h16) =>
  (if x17 = 0 then
  some (0, h16)
  else
  some (1, h16)) : Option (Int32 × xH))).bind fun (w10, h11) =>
  pZ w10 h11
set_option maxHeartbeats 4000000 in
theorem e_175 (d : Nat) (Q : Option Value → xH → Prop)  {h : xH} {a : Nat} {x : Int32} {h1 : xH} (H : f_175  a h = some (x, h1)) (hq : Q (some (.int x)) h1) : Wp (d + 1) 175 0 [some (.ref a)] [] h Q := by
  unfold f_175 at H
  refine wp_aload_n xi_175 dX12_isDigit_0 rfl ?_
  obtain ⟨x1, gx1, H⟩ := Option.bind_eq_some_iff.mp H
  refine wq_getfi xi_175 dX12_isDigit_1 xf_12_146 gx1 ?_
  refine wp_aload_n xi_175 dX12_isDigit_4 rfl ?_
  obtain ⟨x2, gx2, H⟩ := Option.bind_eq_some_iff.mp H
  refine wq_getfi xi_175 dX12_isDigit_5 xf_12_158 gx2 ?_
  obtain ⟨⟨w10, h11⟩, G19, H⟩ := Option.bind_eq_some_iff.mp H
  dsimp only at H
  have K12 : Wp (d + 1) 175 38 [some (.ref a)] [.int w10] h11 Q := by
    obtain ⟨gz, hz⟩ := pZ_ok H
    obtain ⟨rfl, rfl⟩ := Prod.mk.inj hz
    exact wp_zret xi_175 dX12_isDigit_38 gz hq
  clear H
  have H := G19
  clear G19
  refine wp_icmp_ge 37 xi_175 dX12_isDigit_8 rfl (fun c3 => ?_) (fun c3 => ?_)
  · rw [if_pos c3] at H
    refine wp_iconst 0 xi_175 dX12_isDigit_37 rfl ?_
    simp only [Option.some.injEq, Prod.mk.injEq] at H
    obtain ⟨rfl, rfl⟩ := H
    exact Wp.more (by simp [xMore, Value.category]) K12
  · rw [if_neg c3] at H
    refine wp_aload_n xi_175 dX12_isDigit_11 rfl ?_
    obtain ⟨x13, gx13, H⟩ := Option.bind_eq_some_iff.mp H
    refine wq_getfr xi_175 dX12_isDigit_12 xf_12_37 gx13 ?_
    refine wp_aload_n xi_175 dX12_isDigit_15 rfl ?_
    obtain ⟨x14, gx14, H⟩ := Option.bind_eq_some_iff.mp H
    refine wq_getfi xi_175 dX12_isDigit_16 xf_12_146 gx14 ?_
    obtain ⟨x15, gx15, H⟩ := Option.bind_eq_some_iff.mp H
    refine wq_iaload xi_175 dX12_isDigit_19 gx15 ?_
    refine wp_i2l xi_175 dX12_isDigit_20 ?_
    refine wp_ldc2 xi_175 dX12_isDigit_21 xl_12_161 ?_
    refine wp_ldc2 xi_175 dX12_isDigit_24 xl_12_163 ?_
    obtain ⟨⟨x17, h16⟩, gh16, H⟩ := Option.bind_eq_some_iff.mp H
    dsimp only at H
    refine wq_callS (as := [.long ((x15 : Int32).toInt64), .long (48 : Int64), .long (57 : Int64)]) (r := []) (v1 := (some (.int x17))) xi_175 xi_162 dX12_isDigit_27 xm_12_135 rfl (Nat.le_of_ble_eq_true rfl) ⟨(Nat.le_of_ble_eq_true rfl), (Nat.le_of_ble_eq_true rfl)⟩ rfl nofun (e_162 d _ gh16 ⟨rfl, rfl⟩) ?_
    change Wp _ _ _ _ [.int x17] _ _
    refine wp_if_eq 37 xi_175 dX12_isDigit_30 rfl (fun c18 => ?_) (fun c18 => ?_)
    · rw [if_pos c18] at H
      refine wp_iconst 0 xi_175 dX12_isDigit_37 rfl ?_
      simp only [Option.some.injEq, Prod.mk.injEq] at H
      obtain ⟨rfl, rfl⟩ := H
      exact Wp.more (by simp [xMore, Value.category]) K12
    · rw [if_neg c18] at H
      refine wp_iconst 1 xi_175 dX12_isDigit_33 rfl ?_
      refine wp_goto 38 xi_175 dX12_isDigit_34 rfl ?_
      simp only [Option.some.injEq, Prod.mk.injEq] at H
      obtain ⟨rfl, rfl⟩ := H
      exact Wp.more (by simp [xMore, Value.category]) K12
/- FelledHasLostModel.among(Ljava/lang/String;)I -/
def f_176_2  : Nat → Nat → Nat → Int32 → xH → Option ((xH) ⊕ (Int32 × xH))
  | 0, _, _, _, _ => none
  | n + 1, a0, a1, a2, h =>
  (pTl a1).bind fun x1 =>
  (if x1 ≤ a2 then
  some (.inl (h))
  else
  (pFi h a0 12 11).bind fun x3 =>
  (pFi h a0 12 12).bind fun x4 =>
  (if x4 ≤ x3 then
  some (.inl (h))
  else
  (pTc a1 a2).bind fun x6 =>
  (pFr h a0 12 9).bind fun x7 =>
  (pFi h a0 12 11).bind fun x8 =>
  (pAi h x7 x8).bind fun x9 =>
  (if x6 = x9 then
  some (.inr (a2, h))
  else
  f_176_2 n a0 a1 (a2 + 1) h)))
theorem ef_176_2 (d : Nat) (Q : Option Value → xH → Prop)  : ∀ (n : Nat) (a0 : Nat) (a1 : Nat) (a2 : Int32) (h : xH) (r : (xH) ⊕ (Int32 × xH)), f_176_2 n a0 a1 a2 h = some r → (∀  (h1 : xH), r = .inl h1 → Wp (d + 0) 176 46 [none, none, none] [] h1 Q) → (∀ (x : Int32) (h1 : xH), r = .inr (x, h1) → Q (some (.int x)) h1) → Wp (d + 0) 176 2 [some (.ref a0), some (.ref a1), some (.int a2)] [] h Q := by
  intro n
  induction n with
  | zero =>
    intro a0 a1 a2 h r H
    cases H
  | succ n ih =>
    intro a0 a1 a2 h r H KE KR
    unfold f_176_2 at H
    refine wp_iload_n xi_176 dX12_among_2 rfl ?_
    refine wp_aload_n xi_176 dX12_among_3 rfl ?_
    obtain ⟨x1, gx1, H⟩ := Option.bind_eq_some_iff.mp H
    refine wq_tl xi_176 dX12_among_4 xm_12_165 (Nat.le_of_ble_eq_true rfl) gx1 ?_
    refine wp_icmp_ge 46 xi_176 dX12_among_7 rfl (fun c2 => ?_) (fun c2 => ?_)
    · rw [if_pos c2] at H
      obtain rfl := Option.some.inj H
      exact Wp.more (by simp [xMore, Value.category]) (KE  h rfl)
    · rw [if_neg c2] at H
      refine wp_aload_n xi_176 dX12_among_10 rfl ?_
      obtain ⟨x3, gx3, H⟩ := Option.bind_eq_some_iff.mp H
      refine wq_getfi xi_176 dX12_among_11 xf_12_146 gx3 ?_
      refine wp_aload_n xi_176 dX12_among_14 rfl ?_
      obtain ⟨x4, gx4, H⟩ := Option.bind_eq_some_iff.mp H
      refine wq_getfi xi_176 dX12_among_15 xf_12_158 gx4 ?_
      refine wp_icmp_ge 46 xi_176 dX12_among_18 rfl (fun c5 => ?_) (fun c5 => ?_)
      · rw [if_pos c5] at H
        obtain rfl := Option.some.inj H
        exact Wp.more (by simp [xMore, Value.category]) (KE  h rfl)
      · rw [if_neg c5] at H
        refine wp_aload_n xi_176 dX12_among_21 rfl ?_
        refine wp_iload_n xi_176 dX12_among_22 rfl ?_
        obtain ⟨x6, gx6, H⟩ := Option.bind_eq_some_iff.mp H
        refine wq_tc xi_176 dX12_among_23 xm_12_170 (Nat.le_of_ble_eq_true rfl) gx6 ?_
        refine wp_aload_n xi_176 dX12_among_26 rfl ?_
        obtain ⟨x7, gx7, H⟩ := Option.bind_eq_some_iff.mp H
        refine wq_getfr xi_176 dX12_among_27 xf_12_37 gx7 ?_
        refine wp_aload_n xi_176 dX12_among_30 rfl ?_
        obtain ⟨x8, gx8, H⟩ := Option.bind_eq_some_iff.mp H
        refine wq_getfi xi_176 dX12_among_31 xf_12_146 gx8 ?_
        obtain ⟨x9, gx9, H⟩ := Option.bind_eq_some_iff.mp H
        refine wq_iaload xi_176 dX12_among_34 gx9 ?_
        refine wp_icmp_ne 40 xi_176 dX12_among_35 rfl (fun c10 => ?_) (fun c10 => ?_)
        · rw [if_neg c10] at H
          refine wp_iinc (a2 + 1) [some (.ref a0), some (.ref a1), some (.int (a2 + 1))] xi_176 dX12_among_40 rfl rfl rfl ?_
          refine wp_goto 2 xi_176 dX12_among_43 rfl ?_
          exact Wp.more (by simp [xMore, Value.category]) (ih a0 a1 (a2 + 1) h _ H KE KR)
        · rw [if_pos c10] at H
          refine wp_iload_n xi_176 dX12_among_38 rfl ?_
          obtain rfl := Option.some.inj H
          exact wp_iret xi_176 dX12_among_39 (KR _ _ rfl)
def f_176  (a : Nat) (p0 : Nat) (h : xH) : Option (Int32 × xH) :=
  (f_176_2 100000 a p0 0 h).bind fun r4 => match r4 with
  | .inl h1 =>
  some ((-1), h1)
  | .inr (x5, h6) => some (x5, h6)
set_option maxHeartbeats 4000000 in
theorem e_176 (d : Nat) (Q : Option Value → xH → Prop)  {h : xH} {a : Nat} {p0 : Nat} {x : Int32} {h1 : xH} (H : f_176  a p0 h = some (x, h1)) (hq : Q (some (.int x)) h1) : Wp (d + 0) 176 0 [some (.ref a), some (.ref p0), none] [] h Q := by
  unfold f_176 at H
  refine wp_iconst 0 xi_176 dX12_among_0 rfl ?_
  refine wp_istore_n [some (.ref a), some (.ref p0), some (.int 0)] xi_176 dX12_among_1 rfl ?_
  obtain ⟨r4, G2, H⟩ := Option.bind_eq_some_iff.mp H
  refine Wp.more (by simp [xMore, Value.category]) (ef_176_2 d Q  100000 a p0 0 h _ G2 (fun z0 e9 => ?_) (fun x1 h1 e9 => ?_))
  · subst e9
    dsimp only at H
    obtain ⟨h1, rfl⟩ : ∃ z, z = z0 := ⟨_, rfl⟩
    refine wp_iconst (-1) xi_176 dX12_among_46 rfl ?_
    obtain ⟨rfl, rfl⟩ := oi2 H
    exact wp_iret xi_176 dX12_among_47 hq
  · subst e9
    dsimp only at H
    obtain ⟨rfl, rfl⟩ := oi2 H
    exact hq
/- FelledHasLostModel.faultOf(IIZ)I -/
def f_177  (a : Nat) (p0 : Int32) (p1 : Int32) (p2 : Int32) (h : xH) : Option (Int32 × xH) :=
  ((if p2 = 0 then
  some (0)
  else
  (pFi h a 12 11).bind fun x7 =>
  (pFi h a 12 12).bind fun x8 =>
  (if x7 = x8 then
  some (1)
  else
  some (0)) : Option (Int32))).bind fun (w5 : Int32) =>
  (if p0 ≤ p1 then
  ((if w5 = 0 then
  (pFi h a 12 11).bind fun x15 =>
  some (((-1) - x15))
  else
  some (0) : Option (Int32))).bind fun (w13 : Int32) =>
  some (w13, h)
  else
  (if w5 = 0 then
  (pFi h a 12 11).bind fun x18 =>
  (if x18 < p1 then
  ((if w5 = 0 then
  (pFi h a 12 11).bind fun x24 =>
  some (((-1) - x24))
  else
  some (0) : Option (Int32))).bind fun (w22 : Int32) =>
  some (w22, h)
  else
  some (((-1) - p1), h))
  else
  some (((-1) - p1), h)))
set_option maxHeartbeats 4000000 in
theorem e_177 (d : Nat) (Q : Option Value → xH → Prop)  {h : xH} {a : Nat} {p0 : Int32} {p1 : Int32} {p2 : Int32} {x : Int32} {h1 : xH} (H : f_177  a p0 p1 p2 h = some (x, h1)) (hq : Q (some (.int x)) h1) : Wp (d + 0) 177 0 [some (.ref a), some (.int p0), some (.int p1), some (.int p2), none] [] h Q := by
  unfold f_177 at H
  refine wp_iload_n xi_177 dX12_faultOf_0 rfl ?_
  obtain ⟨w5, G26, H⟩ := Option.bind_eq_some_iff.mp H
  have K6 : Wp (d + 0) 177 20 [some (.ref a), some (.int p0), some (.int p1), some (.int p2), none] [.int w5] h Q := by
    refine wp_istore [some (.ref a), some (.int p0), some (.int p1), some (.int p2), some (.int w5)] xi_177 dX12_faultOf_20 rfl ?_
    refine wp_iload_n xi_177 dX12_faultOf_22 rfl ?_
    refine wp_iload_n xi_177 dX12_faultOf_23 rfl ?_
    refine wp_icmp_le 44 xi_177 dX12_faultOf_24 rfl (fun c10 => ?_) (fun c10 => ?_)
    · rw [if_pos c10] at H
      refine wp_iload xi_177 dX12_faultOf_44 rfl ?_
      obtain ⟨w13, G16, H⟩ := Option.bind_eq_some_iff.mp H
      have K14 : Wp (d + 0) 177 59 [some (.ref a), some (.int p0), some (.int p1), some (.int p2), some (.int w5)] [.int w13] h Q := by
        obtain ⟨rfl, rfl⟩ := oi2 H
        exact wp_iret xi_177 dX12_faultOf_59 hq
      clear H
      have H := G16
      clear G16
      refine wp_if_eq 53 xi_177 dX12_faultOf_46 rfl (fun c11 => ?_) (fun c11 => ?_)
      · rw [if_pos c11] at H
        refine wp_iconst (-1) xi_177 dX12_faultOf_53 rfl ?_
        refine wp_aload_n xi_177 dX12_faultOf_54 rfl ?_
        obtain ⟨x15, gx15, H⟩ := Option.bind_eq_some_iff.mp H
        refine wq_getfi xi_177 dX12_faultOf_55 xf_12_146 gx15 ?_
        refine wp_isub xi_177 dX12_faultOf_58 ?_
        obtain rfl := Option.some.inj H
        exact Wp.more (by simp [xMore, Value.category]) K14
      · rw [if_neg c11] at H
        refine wp_iconst 0 xi_177 dX12_faultOf_49 rfl ?_
        refine wp_goto 59 xi_177 dX12_faultOf_50 rfl ?_
        obtain rfl := Option.some.inj H
        exact Wp.more (by simp [xMore, Value.category]) K14
    · rw [if_neg c10] at H
      refine wp_iload xi_177 dX12_faultOf_27 rfl ?_
      refine wp_if_ne 40 xi_177 dX12_faultOf_29 rfl (fun c17 => ?_) (fun c17 => ?_)
      · rw [if_neg c17] at H
        refine wp_iconst (-1) xi_177 dX12_faultOf_40 rfl ?_
        refine wp_iload_n xi_177 dX12_faultOf_41 rfl ?_
        refine wp_isub xi_177 dX12_faultOf_42 ?_
        obtain ⟨rfl, rfl⟩ := oi2 H
        exact wp_iret xi_177 dX12_faultOf_43 hq
      · rw [if_pos c17] at H
        refine wp_aload_n xi_177 dX12_faultOf_32 rfl ?_
        obtain ⟨x18, gx18, H⟩ := Option.bind_eq_some_iff.mp H
        refine wq_getfi xi_177 dX12_faultOf_33 xf_12_146 gx18 ?_
        refine wp_iload_n xi_177 dX12_faultOf_36 rfl ?_
        refine wp_icmp_lt 44 xi_177 dX12_faultOf_37 rfl (fun c19 => ?_) (fun c19 => ?_)
        · rw [if_pos c19] at H
          refine wp_iload xi_177 dX12_faultOf_44 rfl ?_
          obtain ⟨w22, G25, H⟩ := Option.bind_eq_some_iff.mp H
          have K23 : Wp (d + 0) 177 59 [some (.ref a), some (.int p0), some (.int p1), some (.int p2), some (.int w5)] [.int w22] h Q := by
            obtain ⟨rfl, rfl⟩ := oi2 H
            exact wp_iret xi_177 dX12_faultOf_59 hq
          clear H
          have H := G25
          clear G25
          refine wp_if_eq 53 xi_177 dX12_faultOf_46 rfl (fun c20 => ?_) (fun c20 => ?_)
          · rw [if_pos c20] at H
            refine wp_iconst (-1) xi_177 dX12_faultOf_53 rfl ?_
            refine wp_aload_n xi_177 dX12_faultOf_54 rfl ?_
            obtain ⟨x24, gx24, H⟩ := Option.bind_eq_some_iff.mp H
            refine wq_getfi xi_177 dX12_faultOf_55 xf_12_146 gx24 ?_
            refine wp_isub xi_177 dX12_faultOf_58 ?_
            obtain rfl := Option.some.inj H
            exact Wp.more (by simp [xMore, Value.category]) K23
          · rw [if_neg c20] at H
            refine wp_iconst 0 xi_177 dX12_faultOf_49 rfl ?_
            refine wp_goto 59 xi_177 dX12_faultOf_50 rfl ?_
            obtain rfl := Option.some.inj H
            exact Wp.more (by simp [xMore, Value.category]) K23
        · rw [if_neg c19] at H
          refine wp_iconst (-1) xi_177 dX12_faultOf_40 rfl ?_
          refine wp_iload_n xi_177 dX12_faultOf_41 rfl ?_
          refine wp_isub xi_177 dX12_faultOf_42 ?_
          obtain ⟨rfl, rfl⟩ := oi2 H
          exact wp_iret xi_177 dX12_faultOf_43 hq
  clear H
  have H := G26
  clear G26
  refine wp_if_eq 19 xi_177 dX12_faultOf_1 rfl (fun c1 => ?_) (fun c1 => ?_)
  · rw [if_pos c1] at H
    refine wp_iconst 0 xi_177 dX12_faultOf_19 rfl ?_
    obtain rfl := Option.some.inj H
    exact Wp.more (by simp [xMore, Value.category]) K6
  · rw [if_neg c1] at H
    refine wp_aload_n xi_177 dX12_faultOf_4 rfl ?_
    obtain ⟨x7, gx7, H⟩ := Option.bind_eq_some_iff.mp H
    refine wq_getfi xi_177 dX12_faultOf_5 xf_12_146 gx7 ?_
    refine wp_aload_n xi_177 dX12_faultOf_8 rfl ?_
    obtain ⟨x8, gx8, H⟩ := Option.bind_eq_some_iff.mp H
    refine wq_getfi xi_177 dX12_faultOf_9 xf_12_158 gx8 ?_
    refine wp_icmp_ne 19 xi_177 dX12_faultOf_12 rfl (fun c9 => ?_) (fun c9 => ?_)
    · rw [if_neg c9] at H
      refine wp_iconst 0 xi_177 dX12_faultOf_19 rfl ?_
      obtain rfl := Option.some.inj H
      exact Wp.more (by simp [xMore, Value.category]) K6
    · rw [if_pos c9] at H
      refine wp_iconst 1 xi_177 dX12_faultOf_15 rfl ?_
      refine wp_goto 20 xi_177 dX12_faultOf_16 rfl ?_
      obtain rfl := Option.some.inj H
      exact Wp.more (by simp [xMore, Value.category]) K6
/- FelledHasLostModel.readsLayer(I)Z -/
def f_178_4  : Nat → Nat → Int32 → Int32 → Int32 → xH → Option ((xH) ⊕ (Int32 × xH))
  | 0, _, _, _, _, _ => none
  | n + 1, a0, a1, a2, a3, h =>
  (if (3 : Int32) ≤ a3 then
  some (.inl (h))
  else
  (pFi h a0 12 11).bind fun x2 =>
  (pFi h a0 12 12).bind fun x3 =>
  ((if x3 ≤ x2 then
  some (0)
  else
  (pFr h a0 12 9).bind fun x11 =>
  (pFi h a0 12 11).bind fun x12 =>
  (pAi h x11 x12).bind fun x13 =>
  (if x13 = 46 then
  some (1)
  else
  some (0)) : Option (Int32))).bind fun (w9 : Int32) =>
  (if a1 = 16 then
  (pZ 0 h).bind fun q16 => some (.inr q16)
  else
  (if w9 = 0 then
  (pG (pIs h a0 12)).bind fun _ =>
  (f_175 a0 h).bind fun (x55, h54) =>
  (if x55 = 0 then
  (pZ 0 h54).bind fun q57 => some (.inr q57)
  else
  (if w9 = 0 then
  (pFr h54 a0 12 14).bind fun x59 =>
  ((if w9 = 0 then
  (pFr h54 a0 12 9).bind fun x66 =>
  (pFi h54 a0 12 11).bind fun x67 =>
  (pAi h54 x66 x67).bind fun x68 =>
  some ((x68 - 48))
  else
  some ((-1)) : Option (Int32))).bind fun (w64 : Int32) =>
  (pSi h54 x59 ((3 * a1) + a3) w64).bind fun h69 =>
  (f_163 w9 h69).bind fun (x71, h70) =>
  (pFi h70 a0 12 11).bind fun x72 =>
  (pP h70 a0 12 11 (.int (x72 + 1))).bind fun h73 =>
  f_178_4 n a0 a1 (a2 + x71) (a3 + 1) h73
  else
  (if a2 = 2 then
  (pZ 0 h54).bind fun q92 => some (.inr q92)
  else
  (pFr h54 a0 12 14).bind fun x76 =>
  ((if w9 = 0 then
  (pFr h54 a0 12 9).bind fun x83 =>
  (pFi h54 a0 12 11).bind fun x84 =>
  (pAi h54 x83 x84).bind fun x85 =>
  some ((x85 - 48))
  else
  some ((-1)) : Option (Int32))).bind fun (w81 : Int32) =>
  (pSi h54 x76 ((3 * a1) + a3) w81).bind fun h86 =>
  (f_163 w9 h86).bind fun (x88, h87) =>
  (pFi h87 a0 12 11).bind fun x89 =>
  (pP h87 a0 12 11 (.int (x89 + 1))).bind fun h90 =>
  f_178_4 n a0 a1 (a2 + x88) (a3 + 1) h90)))
  else
  (if w9 = 0 then
  (pFr h a0 12 14).bind fun x19 =>
  ((if w9 = 0 then
  (pFr h a0 12 9).bind fun x26 =>
  (pFi h a0 12 11).bind fun x27 =>
  (pAi h x26 x27).bind fun x28 =>
  some ((x28 - 48))
  else
  some ((-1)) : Option (Int32))).bind fun (w24 : Int32) =>
  (pSi h x19 ((3 * a1) + a3) w24).bind fun h29 =>
  (f_163 w9 h29).bind fun (x31, h30) =>
  (pFi h30 a0 12 11).bind fun x32 =>
  (pP h30 a0 12 11 (.int (x32 + 1))).bind fun h33 =>
  f_178_4 n a0 a1 (a2 + x31) (a3 + 1) h33
  else
  (if a2 = 2 then
  (pZ 0 h).bind fun q52 => some (.inr q52)
  else
  (pFr h a0 12 14).bind fun x36 =>
  ((if w9 = 0 then
  (pFr h a0 12 9).bind fun x43 =>
  (pFi h a0 12 11).bind fun x44 =>
  (pAi h x43 x44).bind fun x45 =>
  some ((x45 - 48))
  else
  some ((-1)) : Option (Int32))).bind fun (w41 : Int32) =>
  (pSi h x36 ((3 * a1) + a3) w41).bind fun h46 =>
  (f_163 w9 h46).bind fun (x48, h47) =>
  (pFi h47 a0 12 11).bind fun x49 =>
  (pP h47 a0 12 11 (.int (x49 + 1))).bind fun h50 =>
  f_178_4 n a0 a1 (a2 + x48) (a3 + 1) h50)))))
theorem ef_178_4 (d : Nat) (Q : Option Value → xH → Prop)  : ∀ (n : Nat) (a0 : Nat) (a1 : Int32) (a2 : Int32) (a3 : Int32) (h : xH) (r : (xH) ⊕ (Int32 × xH)), f_178_4 n a0 a1 a2 a3 h = some r → (∀  (h1 : xH), r = .inl h1 → Wp (d + 2) 178 126 [none, none, none, none, none] [] h1 Q) → (∀ (x : Int32) (h1 : xH), r = .inr (x, h1) → Q (some (.int x)) h1) → Wp (d + 2) 178 4 [some (.ref a0), some (.int a1), some (.int a2), some (.int a3), none] [] h Q := by
  intro n
  induction n with
  | zero =>
    intro a0 a1 a2 a3 h r H
    cases H
  | succ n ih =>
    intro a0 a1 a2 a3 h r H KE KR
    unfold f_178_4 at H
    refine wp_iload_n xi_178 dX12_readsLayer_4 rfl ?_
    refine wp_iconst 3 xi_178 dX12_readsLayer_5 rfl ?_
    refine wp_icmp_ge 126 xi_178 dX12_readsLayer_6 rfl (fun c1 => ?_) (fun c1 => ?_)
    · rw [if_pos c1] at H
      obtain rfl := Option.some.inj H
      exact Wp.more (by simp [xMore, Value.category]) (KE  h rfl)
    · rw [if_neg c1] at H
      refine wp_aload_n xi_178 dX12_readsLayer_9 rfl ?_
      obtain ⟨x2, gx2, H⟩ := Option.bind_eq_some_iff.mp H
      refine wq_getfi xi_178 dX12_readsLayer_10 xf_12_146 gx2 ?_
      refine wp_aload_n xi_178 dX12_readsLayer_13 rfl ?_
      obtain ⟨x3, gx3, H⟩ := Option.bind_eq_some_iff.mp H
      refine wq_getfi xi_178 dX12_readsLayer_14 xf_12_158 gx3 ?_
      obtain ⟨w9, G93, H⟩ := Option.bind_eq_some_iff.mp H
      have K10 : Wp (d + 2) 178 39 [some (.ref a0), some (.int a1), some (.int a2), some (.int a3), none] [.int w9] h Q := by
        refine wp_istore [some (.ref a0), some (.int a1), some (.int a2), some (.int a3), some (.int w9)] xi_178 dX12_readsLayer_39 rfl ?_
        refine wp_iload_n xi_178 dX12_readsLayer_41 rfl ?_
        refine wp_bipush 16 xi_178 dX12_readsLayer_42 rfl ?_
        refine wp_icmp_eq 69 xi_178 dX12_readsLayer_44 rfl (fun c15 => ?_) (fun c15 => ?_)
        · rw [if_pos c15] at H
          refine wp_iconst 0 xi_178 dX12_readsLayer_69 rfl ?_
          obtain ⟨q16, gq16, H⟩ := Option.bind_eq_some_iff.mp H
          obtain ⟨gz, rfl⟩ := pZ_ok gq16
          obtain rfl := Option.some.inj H
          exact wp_zret xi_178 dX12_readsLayer_70 gz (KR _ _ rfl)
        · rw [if_neg c15] at H
          refine wp_iload xi_178 dX12_readsLayer_47 rfl ?_
          refine wp_if_ne 59 xi_178 dX12_readsLayer_49 rfl (fun c17 => ?_) (fun c17 => ?_)
          · rw [if_neg c17] at H
            refine wp_iload xi_178 dX12_readsLayer_59 rfl ?_
            refine wp_if_eq 71 xi_178 dX12_readsLayer_61 rfl (fun c18 => ?_) (fun c18 => ?_)
            · rw [if_pos c18] at H
              refine wp_aload_n xi_178 dX12_readsLayer_71 rfl ?_
              obtain ⟨x19, gx19, H⟩ := Option.bind_eq_some_iff.mp H
              refine wq_getfr xi_178 dX12_readsLayer_72 xf_12_40 gx19 ?_
              refine wp_iconst 3 xi_178 dX12_readsLayer_75 rfl ?_
              refine wp_iload_n xi_178 dX12_readsLayer_76 rfl ?_
              refine wp_imul xi_178 dX12_readsLayer_77 ?_
              refine wp_iload_n xi_178 dX12_readsLayer_78 rfl ?_
              refine wp_iadd xi_178 dX12_readsLayer_79 ?_
              refine wp_iload xi_178 dX12_readsLayer_80 rfl ?_
              obtain ⟨w24, G34, H⟩ := Option.bind_eq_some_iff.mp H
              have K25 : Wp (d + 2) 178 101 [some (.ref a0), some (.int a1), some (.int a2), some (.int a3), some (.int w9)] [.int w24, .int ((3 * a1) + a3), .ref x19] h Q := by
                obtain ⟨h29, gh29, H⟩ := Option.bind_eq_some_iff.mp H
                refine wq_iastore xi_178 dX12_readsLayer_101 gh29 ?_
                refine wp_iload_n xi_178 dX12_readsLayer_102 rfl ?_
                refine wp_iload xi_178 dX12_readsLayer_103 rfl ?_
                obtain ⟨⟨x31, h30⟩, gh30, H⟩ := Option.bind_eq_some_iff.mp H
                dsimp only at H
                refine wq_callS (as := [.int w9]) (r := [.int a2]) (v1 := (some (.int x31))) xi_178 xi_163 dX12_readsLayer_105 xm_12_139 rfl (Nat.le_of_ble_eq_true rfl) ⟨(Nat.le_of_ble_eq_true rfl), (Nat.le_of_ble_eq_true rfl)⟩ rfl nofun (e_163 (d + 1) _ gh30 ⟨rfl, rfl⟩) ?_
                change Wp _ _ _ _ [.int x31, .int a2] _ _
                refine wp_iadd xi_178 dX12_readsLayer_108 ?_
                refine wp_istore_n [some (.ref a0), some (.int a1), some (.int (a2 + x31)), some (.int a3), some (.int w9)] xi_178 dX12_readsLayer_109 rfl ?_
                refine wp_aload_n xi_178 dX12_readsLayer_110 rfl ?_
                refine wp_dup xi_178 dX12_readsLayer_111 rfl ?_
                obtain ⟨x32, gx32, H⟩ := Option.bind_eq_some_iff.mp H
                refine wq_getfi xi_178 dX12_readsLayer_112 xf_12_146 gx32 ?_
                refine wp_iconst 1 xi_178 dX12_readsLayer_115 rfl ?_
                refine wp_iadd xi_178 dX12_readsLayer_116 ?_
                obtain ⟨h33, gh33, H⟩ := Option.bind_eq_some_iff.mp H
                refine wq_putf xi_178 dX12_readsLayer_117 xf_12_146 (Or.inl rfl) gh33 ?_
                refine wp_iinc (a3 + 1) [some (.ref a0), some (.int a1), some (.int (a2 + x31)), some (.int (a3 + 1)), some (.int w9)] xi_178 dX12_readsLayer_120 rfl rfl rfl ?_
                refine wp_goto 4 xi_178 dX12_readsLayer_123 rfl ?_
                exact Wp.more (by simp [xMore, Value.category]) (ih a0 a1 (a2 + x31) (a3 + 1) h33 _ H KE KR)
              clear H
              have H := G34
              clear G34
              refine wp_if_eq 89 xi_178 dX12_readsLayer_82 rfl (fun c20 => ?_) (fun c20 => ?_)
              · rw [if_pos c20] at H
                refine wp_aload_n xi_178 dX12_readsLayer_89 rfl ?_
                obtain ⟨x26, gx26, H⟩ := Option.bind_eq_some_iff.mp H
                refine wq_getfr xi_178 dX12_readsLayer_90 xf_12_37 gx26 ?_
                refine wp_aload_n xi_178 dX12_readsLayer_93 rfl ?_
                obtain ⟨x27, gx27, H⟩ := Option.bind_eq_some_iff.mp H
                refine wq_getfi xi_178 dX12_readsLayer_94 xf_12_146 gx27 ?_
                obtain ⟨x28, gx28, H⟩ := Option.bind_eq_some_iff.mp H
                refine wq_iaload xi_178 dX12_readsLayer_97 gx28 ?_
                refine wp_bipush 48 xi_178 dX12_readsLayer_98 rfl ?_
                refine wp_isub xi_178 dX12_readsLayer_100 ?_
                obtain rfl := Option.some.inj H
                exact Wp.more (by simp [xMore, Value.category]) K25
              · rw [if_neg c20] at H
                refine wp_iconst (-1) xi_178 dX12_readsLayer_85 rfl ?_
                refine wp_goto 101 xi_178 dX12_readsLayer_86 rfl ?_
                obtain rfl := Option.some.inj H
                exact Wp.more (by simp [xMore, Value.category]) K25
            · rw [if_neg c18] at H
              refine wp_iload_n xi_178 dX12_readsLayer_64 rfl ?_
              refine wp_iconst 2 xi_178 dX12_readsLayer_65 rfl ?_
              refine wp_icmp_ne 71 xi_178 dX12_readsLayer_66 rfl (fun c35 => ?_) (fun c35 => ?_)
              · rw [if_neg c35] at H
                refine wp_aload_n xi_178 dX12_readsLayer_71 rfl ?_
                obtain ⟨x36, gx36, H⟩ := Option.bind_eq_some_iff.mp H
                refine wq_getfr xi_178 dX12_readsLayer_72 xf_12_40 gx36 ?_
                refine wp_iconst 3 xi_178 dX12_readsLayer_75 rfl ?_
                refine wp_iload_n xi_178 dX12_readsLayer_76 rfl ?_
                refine wp_imul xi_178 dX12_readsLayer_77 ?_
                refine wp_iload_n xi_178 dX12_readsLayer_78 rfl ?_
                refine wp_iadd xi_178 dX12_readsLayer_79 ?_
                refine wp_iload xi_178 dX12_readsLayer_80 rfl ?_
                obtain ⟨w41, G51, H⟩ := Option.bind_eq_some_iff.mp H
                have K42 : Wp (d + 2) 178 101 [some (.ref a0), some (.int a1), some (.int a2), some (.int a3), some (.int w9)] [.int w41, .int ((3 * a1) + a3), .ref x36] h Q := by
                  obtain ⟨h46, gh46, H⟩ := Option.bind_eq_some_iff.mp H
                  refine wq_iastore xi_178 dX12_readsLayer_101 gh46 ?_
                  refine wp_iload_n xi_178 dX12_readsLayer_102 rfl ?_
                  refine wp_iload xi_178 dX12_readsLayer_103 rfl ?_
                  obtain ⟨⟨x48, h47⟩, gh47, H⟩ := Option.bind_eq_some_iff.mp H
                  dsimp only at H
                  refine wq_callS (as := [.int w9]) (r := [.int a2]) (v1 := (some (.int x48))) xi_178 xi_163 dX12_readsLayer_105 xm_12_139 rfl (Nat.le_of_ble_eq_true rfl) ⟨(Nat.le_of_ble_eq_true rfl), (Nat.le_of_ble_eq_true rfl)⟩ rfl nofun (e_163 (d + 1) _ gh47 ⟨rfl, rfl⟩) ?_
                  change Wp _ _ _ _ [.int x48, .int a2] _ _
                  refine wp_iadd xi_178 dX12_readsLayer_108 ?_
                  refine wp_istore_n [some (.ref a0), some (.int a1), some (.int (a2 + x48)), some (.int a3), some (.int w9)] xi_178 dX12_readsLayer_109 rfl ?_
                  refine wp_aload_n xi_178 dX12_readsLayer_110 rfl ?_
                  refine wp_dup xi_178 dX12_readsLayer_111 rfl ?_
                  obtain ⟨x49, gx49, H⟩ := Option.bind_eq_some_iff.mp H
                  refine wq_getfi xi_178 dX12_readsLayer_112 xf_12_146 gx49 ?_
                  refine wp_iconst 1 xi_178 dX12_readsLayer_115 rfl ?_
                  refine wp_iadd xi_178 dX12_readsLayer_116 ?_
                  obtain ⟨h50, gh50, H⟩ := Option.bind_eq_some_iff.mp H
                  refine wq_putf xi_178 dX12_readsLayer_117 xf_12_146 (Or.inl rfl) gh50 ?_
                  refine wp_iinc (a3 + 1) [some (.ref a0), some (.int a1), some (.int (a2 + x48)), some (.int (a3 + 1)), some (.int w9)] xi_178 dX12_readsLayer_120 rfl rfl rfl ?_
                  refine wp_goto 4 xi_178 dX12_readsLayer_123 rfl ?_
                  exact Wp.more (by simp [xMore, Value.category]) (ih a0 a1 (a2 + x48) (a3 + 1) h50 _ H KE KR)
                clear H
                have H := G51
                clear G51
                refine wp_if_eq 89 xi_178 dX12_readsLayer_82 rfl (fun c37 => ?_) (fun c37 => ?_)
                · rw [if_pos c37] at H
                  refine wp_aload_n xi_178 dX12_readsLayer_89 rfl ?_
                  obtain ⟨x43, gx43, H⟩ := Option.bind_eq_some_iff.mp H
                  refine wq_getfr xi_178 dX12_readsLayer_90 xf_12_37 gx43 ?_
                  refine wp_aload_n xi_178 dX12_readsLayer_93 rfl ?_
                  obtain ⟨x44, gx44, H⟩ := Option.bind_eq_some_iff.mp H
                  refine wq_getfi xi_178 dX12_readsLayer_94 xf_12_146 gx44 ?_
                  obtain ⟨x45, gx45, H⟩ := Option.bind_eq_some_iff.mp H
                  refine wq_iaload xi_178 dX12_readsLayer_97 gx45 ?_
                  refine wp_bipush 48 xi_178 dX12_readsLayer_98 rfl ?_
                  refine wp_isub xi_178 dX12_readsLayer_100 ?_
                  obtain rfl := Option.some.inj H
                  exact Wp.more (by simp [xMore, Value.category]) K42
                · rw [if_neg c37] at H
                  refine wp_iconst (-1) xi_178 dX12_readsLayer_85 rfl ?_
                  refine wp_goto 101 xi_178 dX12_readsLayer_86 rfl ?_
                  obtain rfl := Option.some.inj H
                  exact Wp.more (by simp [xMore, Value.category]) K42
              · rw [if_pos c35] at H
                refine wp_iconst 0 xi_178 dX12_readsLayer_69 rfl ?_
                obtain ⟨q52, gq52, H⟩ := Option.bind_eq_some_iff.mp H
                obtain ⟨gz, rfl⟩ := pZ_ok gq52
                obtain rfl := Option.some.inj H
                exact wp_zret xi_178 dX12_readsLayer_70 gz (KR _ _ rfl)
          · rw [if_pos c17] at H
            refine wp_aload_n xi_178 dX12_readsLayer_52 rfl ?_
            obtain ⟨u53, gu53, H⟩ := Option.bind_eq_some_iff.mp H
            obtain ⟨⟨x55, h54⟩, gh54, H⟩ := Option.bind_eq_some_iff.mp H
            dsimp only at H
            refine wq_callV (a := a0) (as := []) (r := []) (v1 := (some (.int x55))) xi_178 xi_175 dX12_readsLayer_53 xm_12_174 rfl (Nat.le_of_ble_eq_true rfl) (pG_ok gu53) ⟨(Nat.le_of_ble_eq_true rfl), (Nat.le_of_ble_eq_true rfl)⟩ rfl nofun (e_175 d _ gh54 ⟨rfl, rfl⟩) ?_
            change Wp _ _ _ _ [.int x55] _ _
            refine wp_if_eq 69 xi_178 dX12_readsLayer_56 rfl (fun c56 => ?_) (fun c56 => ?_)
            · rw [if_pos c56] at H
              refine wp_iconst 0 xi_178 dX12_readsLayer_69 rfl ?_
              obtain ⟨q57, gq57, H⟩ := Option.bind_eq_some_iff.mp H
              obtain ⟨gz, rfl⟩ := pZ_ok gq57
              obtain rfl := Option.some.inj H
              exact wp_zret xi_178 dX12_readsLayer_70 gz (KR _ _ rfl)
            · rw [if_neg c56] at H
              refine wp_iload xi_178 dX12_readsLayer_59 rfl ?_
              refine wp_if_eq 71 xi_178 dX12_readsLayer_61 rfl (fun c58 => ?_) (fun c58 => ?_)
              · rw [if_pos c58] at H
                refine wp_aload_n xi_178 dX12_readsLayer_71 rfl ?_
                obtain ⟨x59, gx59, H⟩ := Option.bind_eq_some_iff.mp H
                refine wq_getfr xi_178 dX12_readsLayer_72 xf_12_40 gx59 ?_
                refine wp_iconst 3 xi_178 dX12_readsLayer_75 rfl ?_
                refine wp_iload_n xi_178 dX12_readsLayer_76 rfl ?_
                refine wp_imul xi_178 dX12_readsLayer_77 ?_
                refine wp_iload_n xi_178 dX12_readsLayer_78 rfl ?_
                refine wp_iadd xi_178 dX12_readsLayer_79 ?_
                refine wp_iload xi_178 dX12_readsLayer_80 rfl ?_
                obtain ⟨w64, G74, H⟩ := Option.bind_eq_some_iff.mp H
                have K65 : Wp (d + 2) 178 101 [some (.ref a0), some (.int a1), some (.int a2), some (.int a3), some (.int w9)] [.int w64, .int ((3 * a1) + a3), .ref x59] h54 Q := by
                  obtain ⟨h69, gh69, H⟩ := Option.bind_eq_some_iff.mp H
                  refine wq_iastore xi_178 dX12_readsLayer_101 gh69 ?_
                  refine wp_iload_n xi_178 dX12_readsLayer_102 rfl ?_
                  refine wp_iload xi_178 dX12_readsLayer_103 rfl ?_
                  obtain ⟨⟨x71, h70⟩, gh70, H⟩ := Option.bind_eq_some_iff.mp H
                  dsimp only at H
                  refine wq_callS (as := [.int w9]) (r := [.int a2]) (v1 := (some (.int x71))) xi_178 xi_163 dX12_readsLayer_105 xm_12_139 rfl (Nat.le_of_ble_eq_true rfl) ⟨(Nat.le_of_ble_eq_true rfl), (Nat.le_of_ble_eq_true rfl)⟩ rfl nofun (e_163 (d + 1) _ gh70 ⟨rfl, rfl⟩) ?_
                  change Wp _ _ _ _ [.int x71, .int a2] _ _
                  refine wp_iadd xi_178 dX12_readsLayer_108 ?_
                  refine wp_istore_n [some (.ref a0), some (.int a1), some (.int (a2 + x71)), some (.int a3), some (.int w9)] xi_178 dX12_readsLayer_109 rfl ?_
                  refine wp_aload_n xi_178 dX12_readsLayer_110 rfl ?_
                  refine wp_dup xi_178 dX12_readsLayer_111 rfl ?_
                  obtain ⟨x72, gx72, H⟩ := Option.bind_eq_some_iff.mp H
                  refine wq_getfi xi_178 dX12_readsLayer_112 xf_12_146 gx72 ?_
                  refine wp_iconst 1 xi_178 dX12_readsLayer_115 rfl ?_
                  refine wp_iadd xi_178 dX12_readsLayer_116 ?_
                  obtain ⟨h73, gh73, H⟩ := Option.bind_eq_some_iff.mp H
                  refine wq_putf xi_178 dX12_readsLayer_117 xf_12_146 (Or.inl rfl) gh73 ?_
                  refine wp_iinc (a3 + 1) [some (.ref a0), some (.int a1), some (.int (a2 + x71)), some (.int (a3 + 1)), some (.int w9)] xi_178 dX12_readsLayer_120 rfl rfl rfl ?_
                  refine wp_goto 4 xi_178 dX12_readsLayer_123 rfl ?_
                  exact Wp.more (by simp [xMore, Value.category]) (ih a0 a1 (a2 + x71) (a3 + 1) h73 _ H KE KR)
                clear H
                have H := G74
                clear G74
                refine wp_if_eq 89 xi_178 dX12_readsLayer_82 rfl (fun c60 => ?_) (fun c60 => ?_)
                · rw [if_pos c60] at H
                  refine wp_aload_n xi_178 dX12_readsLayer_89 rfl ?_
                  obtain ⟨x66, gx66, H⟩ := Option.bind_eq_some_iff.mp H
                  refine wq_getfr xi_178 dX12_readsLayer_90 xf_12_37 gx66 ?_
                  refine wp_aload_n xi_178 dX12_readsLayer_93 rfl ?_
                  obtain ⟨x67, gx67, H⟩ := Option.bind_eq_some_iff.mp H
                  refine wq_getfi xi_178 dX12_readsLayer_94 xf_12_146 gx67 ?_
                  obtain ⟨x68, gx68, H⟩ := Option.bind_eq_some_iff.mp H
                  refine wq_iaload xi_178 dX12_readsLayer_97 gx68 ?_
                  refine wp_bipush 48 xi_178 dX12_readsLayer_98 rfl ?_
                  refine wp_isub xi_178 dX12_readsLayer_100 ?_
                  obtain rfl := Option.some.inj H
                  exact Wp.more (by simp [xMore, Value.category]) K65
                · rw [if_neg c60] at H
                  refine wp_iconst (-1) xi_178 dX12_readsLayer_85 rfl ?_
                  refine wp_goto 101 xi_178 dX12_readsLayer_86 rfl ?_
                  obtain rfl := Option.some.inj H
                  exact Wp.more (by simp [xMore, Value.category]) K65
              · rw [if_neg c58] at H
                refine wp_iload_n xi_178 dX12_readsLayer_64 rfl ?_
                refine wp_iconst 2 xi_178 dX12_readsLayer_65 rfl ?_
                refine wp_icmp_ne 71 xi_178 dX12_readsLayer_66 rfl (fun c75 => ?_) (fun c75 => ?_)
                · rw [if_neg c75] at H
                  refine wp_aload_n xi_178 dX12_readsLayer_71 rfl ?_
                  obtain ⟨x76, gx76, H⟩ := Option.bind_eq_some_iff.mp H
                  refine wq_getfr xi_178 dX12_readsLayer_72 xf_12_40 gx76 ?_
                  refine wp_iconst 3 xi_178 dX12_readsLayer_75 rfl ?_
                  refine wp_iload_n xi_178 dX12_readsLayer_76 rfl ?_
                  refine wp_imul xi_178 dX12_readsLayer_77 ?_
                  refine wp_iload_n xi_178 dX12_readsLayer_78 rfl ?_
                  refine wp_iadd xi_178 dX12_readsLayer_79 ?_
                  refine wp_iload xi_178 dX12_readsLayer_80 rfl ?_
                  obtain ⟨w81, G91, H⟩ := Option.bind_eq_some_iff.mp H
                  have K82 : Wp (d + 2) 178 101 [some (.ref a0), some (.int a1), some (.int a2), some (.int a3), some (.int w9)] [.int w81, .int ((3 * a1) + a3), .ref x76] h54 Q := by
                    obtain ⟨h86, gh86, H⟩ := Option.bind_eq_some_iff.mp H
                    refine wq_iastore xi_178 dX12_readsLayer_101 gh86 ?_
                    refine wp_iload_n xi_178 dX12_readsLayer_102 rfl ?_
                    refine wp_iload xi_178 dX12_readsLayer_103 rfl ?_
                    obtain ⟨⟨x88, h87⟩, gh87, H⟩ := Option.bind_eq_some_iff.mp H
                    dsimp only at H
                    refine wq_callS (as := [.int w9]) (r := [.int a2]) (v1 := (some (.int x88))) xi_178 xi_163 dX12_readsLayer_105 xm_12_139 rfl (Nat.le_of_ble_eq_true rfl) ⟨(Nat.le_of_ble_eq_true rfl), (Nat.le_of_ble_eq_true rfl)⟩ rfl nofun (e_163 (d + 1) _ gh87 ⟨rfl, rfl⟩) ?_
                    change Wp _ _ _ _ [.int x88, .int a2] _ _
                    refine wp_iadd xi_178 dX12_readsLayer_108 ?_
                    refine wp_istore_n [some (.ref a0), some (.int a1), some (.int (a2 + x88)), some (.int a3), some (.int w9)] xi_178 dX12_readsLayer_109 rfl ?_
                    refine wp_aload_n xi_178 dX12_readsLayer_110 rfl ?_
                    refine wp_dup xi_178 dX12_readsLayer_111 rfl ?_
                    obtain ⟨x89, gx89, H⟩ := Option.bind_eq_some_iff.mp H
                    refine wq_getfi xi_178 dX12_readsLayer_112 xf_12_146 gx89 ?_
                    refine wp_iconst 1 xi_178 dX12_readsLayer_115 rfl ?_
                    refine wp_iadd xi_178 dX12_readsLayer_116 ?_
                    obtain ⟨h90, gh90, H⟩ := Option.bind_eq_some_iff.mp H
                    refine wq_putf xi_178 dX12_readsLayer_117 xf_12_146 (Or.inl rfl) gh90 ?_
                    refine wp_iinc (a3 + 1) [some (.ref a0), some (.int a1), some (.int (a2 + x88)), some (.int (a3 + 1)), some (.int w9)] xi_178 dX12_readsLayer_120 rfl rfl rfl ?_
                    refine wp_goto 4 xi_178 dX12_readsLayer_123 rfl ?_
                    exact Wp.more (by simp [xMore, Value.category]) (ih a0 a1 (a2 + x88) (a3 + 1) h90 _ H KE KR)
                  clear H
                  have H := G91
                  clear G91
                  refine wp_if_eq 89 xi_178 dX12_readsLayer_82 rfl (fun c77 => ?_) (fun c77 => ?_)
                  · rw [if_pos c77] at H
                    refine wp_aload_n xi_178 dX12_readsLayer_89 rfl ?_
                    obtain ⟨x83, gx83, H⟩ := Option.bind_eq_some_iff.mp H
                    refine wq_getfr xi_178 dX12_readsLayer_90 xf_12_37 gx83 ?_
                    refine wp_aload_n xi_178 dX12_readsLayer_93 rfl ?_
                    obtain ⟨x84, gx84, H⟩ := Option.bind_eq_some_iff.mp H
                    refine wq_getfi xi_178 dX12_readsLayer_94 xf_12_146 gx84 ?_
                    obtain ⟨x85, gx85, H⟩ := Option.bind_eq_some_iff.mp H
                    refine wq_iaload xi_178 dX12_readsLayer_97 gx85 ?_
                    refine wp_bipush 48 xi_178 dX12_readsLayer_98 rfl ?_
                    refine wp_isub xi_178 dX12_readsLayer_100 ?_
                    obtain rfl := Option.some.inj H
                    exact Wp.more (by simp [xMore, Value.category]) K82
                  · rw [if_neg c77] at H
                    refine wp_iconst (-1) xi_178 dX12_readsLayer_85 rfl ?_
                    refine wp_goto 101 xi_178 dX12_readsLayer_86 rfl ?_
                    obtain rfl := Option.some.inj H
                    exact Wp.more (by simp [xMore, Value.category]) K82
                · rw [if_pos c75] at H
                  refine wp_iconst 0 xi_178 dX12_readsLayer_69 rfl ?_
                  obtain ⟨q92, gq92, H⟩ := Option.bind_eq_some_iff.mp H
                  obtain ⟨gz, rfl⟩ := pZ_ok gq92
                  obtain rfl := Option.some.inj H
                  exact wp_zret xi_178 dX12_readsLayer_70 gz (KR _ _ rfl)
      clear H
      have H := G93
      clear G93
      refine wp_icmp_ge 38 xi_178 dX12_readsLayer_17 rfl (fun c4 => ?_) (fun c4 => ?_)
      · rw [if_pos c4] at H
        refine wp_iconst 0 xi_178 dX12_readsLayer_38 rfl ?_
        obtain rfl := Option.some.inj H
        exact Wp.more (by simp [xMore, Value.category]) K10
      · rw [if_neg c4] at H
        refine wp_aload_n xi_178 dX12_readsLayer_20 rfl ?_
        obtain ⟨x11, gx11, H⟩ := Option.bind_eq_some_iff.mp H
        refine wq_getfr xi_178 dX12_readsLayer_21 xf_12_37 gx11 ?_
        refine wp_aload_n xi_178 dX12_readsLayer_24 rfl ?_
        obtain ⟨x12, gx12, H⟩ := Option.bind_eq_some_iff.mp H
        refine wq_getfi xi_178 dX12_readsLayer_25 xf_12_146 gx12 ?_
        obtain ⟨x13, gx13, H⟩ := Option.bind_eq_some_iff.mp H
        refine wq_iaload xi_178 dX12_readsLayer_28 gx13 ?_
        refine wp_bipush 46 xi_178 dX12_readsLayer_29 rfl ?_
        refine wp_icmp_ne 38 xi_178 dX12_readsLayer_31 rfl (fun c14 => ?_) (fun c14 => ?_)
        · rw [if_neg c14] at H
          refine wp_iconst 0 xi_178 dX12_readsLayer_38 rfl ?_
          obtain rfl := Option.some.inj H
          exact Wp.more (by simp [xMore, Value.category]) K10
        · rw [if_pos c14] at H
          refine wp_iconst 1 xi_178 dX12_readsLayer_34 rfl ?_
          refine wp_goto 39 xi_178 dX12_readsLayer_35 rfl ?_
          obtain rfl := Option.some.inj H
          exact Wp.more (by simp [xMore, Value.category]) K10
def f_178  (a : Nat) (p0 : Int32) (h : xH) : Option (Int32 × xH) :=
  (f_178_4 100000 a p0 0 0 h).bind fun r4 => match r4 with
  | .inl h1 =>
  pZ 1 h1
  | .inr (x5, h6) => some (x5, h6)
set_option maxHeartbeats 4000000 in
theorem e_178 (d : Nat) (Q : Option Value → xH → Prop)  {h : xH} {a : Nat} {p0 : Int32} {x : Int32} {h1 : xH} (H : f_178  a p0 h = some (x, h1)) (hq : Q (some (.int x)) h1) : Wp (d + 2) 178 0 [some (.ref a), some (.int p0), none, none, none] [] h Q := by
  unfold f_178 at H
  refine wp_iconst 0 xi_178 dX12_readsLayer_0 rfl ?_
  refine wp_istore_n [some (.ref a), some (.int p0), some (.int 0), none, none] xi_178 dX12_readsLayer_1 rfl ?_
  refine wp_iconst 0 xi_178 dX12_readsLayer_2 rfl ?_
  refine wp_istore_n [some (.ref a), some (.int p0), some (.int 0), some (.int 0), none] xi_178 dX12_readsLayer_3 rfl ?_
  obtain ⟨r4, G2, H⟩ := Option.bind_eq_some_iff.mp H
  refine Wp.more (by simp [xMore, Value.category]) (ef_178_4 d Q  100000 a p0 0 0 h _ G2 (fun z0 e9 => ?_) (fun x1 h1 e9 => ?_))
  · subst e9
    dsimp only at H
    obtain ⟨h1, rfl⟩ : ∃ z, z = z0 := ⟨_, rfl⟩
    refine wp_iconst 1 xi_178 dX12_readsLayer_126 rfl ?_
    obtain ⟨gz, hz⟩ := pZ_ok H
    obtain ⟨rfl, rfl⟩ := Prod.mk.inj hz
    exact wp_zret xi_178 dX12_readsLayer_127 gz hq
  · subst e9
    dsimp only at H
    obtain ⟨rfl, rfl⟩ := oi2 H
    exact hq
/- FelledHasLostModel.players()I -/
def f_180_13  : Nat → Nat → Int32 → Int32 → xH → Option (Int32 × xH)
  | 0, _, _, _, _ => none
  | n + 1, a0, a1, a2, h =>
  (pG (pIs h a0 12)).bind fun _ =>
  (f_175 a0 h).bind fun (x3, h2) =>
  (if x3 = 0 then
  some (a2, h2)
  else
  (pFr h2 a0 12 14).bind fun x5 =>
  (pFr h2 a0 12 9).bind fun x6 =>
  (pFi h2 a0 12 11).bind fun x7 =>
  (pAi h2 x6 x7).bind fun x8 =>
  (pSi h2 x5 a2 (x8 - 48)).bind fun h9 =>
  (pFi h9 a0 12 11).bind fun x10 =>
  (pP h9 a0 12 11 (.int (x10 + 1))).bind fun h11 =>
  f_180_13 n a0 a1 (a2 + 1) h11)
theorem ef_180_13 (d : Nat) (Q : Option Value → xH → Prop)  : ∀ (n : Nat) (a0 : Nat) (a1 : Int32) (a2 : Int32) (h : xH) (r : Int32 × xH), f_180_13 n a0 a1 a2 h = some r → (∀ (w2 : Int32) (h1 : xH), r = (w2, h1) → Wp (d + 2) 180 54 [some (.ref a0), some (.int a1), some (.int w2), none, none] [] h1 Q) → Wp (d + 2) 180 13 [some (.ref a0), some (.int a1), some (.int a2), none, none] [] h Q := by
  intro n
  induction n with
  | zero =>
    intro a0 a1 a2 h r H
    cases H
  | succ n ih =>
    intro a0 a1 a2 h r H KE
    unfold f_180_13 at H
    refine wp_aload_n xi_180 dX12_players_13 rfl ?_
    obtain ⟨u1, gu1, H⟩ := Option.bind_eq_some_iff.mp H
    obtain ⟨⟨x3, h2⟩, gh2, H⟩ := Option.bind_eq_some_iff.mp H
    dsimp only at H
    refine wq_callV (a := a0) (as := []) (r := []) (v1 := (some (.int x3))) xi_180 xi_175 dX12_players_14 xm_12_174 rfl (Nat.le_of_ble_eq_true rfl) (pG_ok gu1) ⟨(Nat.le_of_ble_eq_true rfl), (Nat.le_of_ble_eq_true rfl)⟩ rfl nofun (e_175 d _ gh2 ⟨rfl, rfl⟩) ?_
    change Wp _ _ _ _ [.int x3] _ _
    refine wp_if_eq 54 xi_180 dX12_players_17 rfl (fun c4 => ?_) (fun c4 => ?_)
    · rw [if_pos c4] at H
      obtain rfl := Option.some.inj H
      exact Wp.more (by simp [xMore, Value.category]) (KE a2 h2 rfl)
    · rw [if_neg c4] at H
      refine wp_aload_n xi_180 dX12_players_20 rfl ?_
      obtain ⟨x5, gx5, H⟩ := Option.bind_eq_some_iff.mp H
      refine wq_getfr xi_180 dX12_players_21 xf_12_40 gx5 ?_
      refine wp_iload_n xi_180 dX12_players_24 rfl ?_
      refine wp_aload_n xi_180 dX12_players_25 rfl ?_
      obtain ⟨x6, gx6, H⟩ := Option.bind_eq_some_iff.mp H
      refine wq_getfr xi_180 dX12_players_26 xf_12_37 gx6 ?_
      refine wp_aload_n xi_180 dX12_players_29 rfl ?_
      obtain ⟨x7, gx7, H⟩ := Option.bind_eq_some_iff.mp H
      refine wq_getfi xi_180 dX12_players_30 xf_12_146 gx7 ?_
      obtain ⟨x8, gx8, H⟩ := Option.bind_eq_some_iff.mp H
      refine wq_iaload xi_180 dX12_players_33 gx8 ?_
      refine wp_bipush 48 xi_180 dX12_players_34 rfl ?_
      refine wp_isub xi_180 dX12_players_36 ?_
      obtain ⟨h9, gh9, H⟩ := Option.bind_eq_some_iff.mp H
      refine wq_iastore xi_180 dX12_players_37 gh9 ?_
      refine wp_iinc (a2 + 1) [some (.ref a0), some (.int a1), some (.int (a2 + 1)), none, none] xi_180 dX12_players_38 rfl rfl rfl ?_
      refine wp_aload_n xi_180 dX12_players_41 rfl ?_
      refine wp_dup xi_180 dX12_players_42 rfl ?_
      obtain ⟨x10, gx10, H⟩ := Option.bind_eq_some_iff.mp H
      refine wq_getfi xi_180 dX12_players_43 xf_12_146 gx10 ?_
      refine wp_iconst 1 xi_180 dX12_players_46 rfl ?_
      refine wp_iadd xi_180 dX12_players_47 ?_
      obtain ⟨h11, gh11, H⟩ := Option.bind_eq_some_iff.mp H
      refine wq_putf xi_180 dX12_players_48 xf_12_146 (Or.inl rfl) gh11 ?_
      refine wp_goto 13 xi_180 dX12_players_51 rfl ?_
      exact Wp.more (by simp [xMore, Value.category]) (ih a0 a1 (a2 + 1) h11 _ H KE)
def f_180_79  : Nat → Nat → Int32 → Int32 → xH → Option (xH)
  | 0, _, _, _, _ => none
  | n + 1, a0, a2, a4, h =>
  (if a2 ≤ a4 then
  some (h)
  else
  (pFr h a0 12 5).bind fun x2 =>
  (pFr h a0 12 14).bind fun x3 =>
  (pAi h x3 a4).bind fun x4 =>
  (pSi h x2 a4 x4).bind fun h5 =>
  f_180_79 n a0 a2 (a4 + 1) h5)
theorem ef_180_79 (d : Nat) (Q : Option Value → xH → Prop)  : ∀ (n : Nat) (a0 : Nat) (a2 : Int32) (a4 : Int32) (h : xH) (r : xH), f_180_79 n a0 a2 a4 h = some r → (∀  (h1 : xH), r = h1 → Wp (d + 2) 180 105 [some (.ref a0), none, some (.int a2), none, none] [] h1 Q) → Wp (d + 2) 180 79 [some (.ref a0), none, some (.int a2), none, some (.int a4)] [] h Q := by
  intro n
  induction n with
  | zero =>
    intro a0 a2 a4 h r H
    cases H
  | succ n ih =>
    intro a0 a2 a4 h r H KE
    unfold f_180_79 at H
    refine wp_iload xi_180 dX12_players_79 rfl ?_
    refine wp_iload_n xi_180 dX12_players_81 rfl ?_
    refine wp_icmp_ge 105 xi_180 dX12_players_82 rfl (fun c1 => ?_) (fun c1 => ?_)
    · rw [if_pos c1] at H
      obtain rfl := Option.some.inj H
      exact Wp.more (by simp [xMore, Value.category]) (KE  h rfl)
    · rw [if_neg c1] at H
      refine wp_aload_n xi_180 dX12_players_85 rfl ?_
      obtain ⟨x2, gx2, H⟩ := Option.bind_eq_some_iff.mp H
      refine wq_getfr xi_180 dX12_players_86 xf_12_31 gx2 ?_
      refine wp_iload xi_180 dX12_players_89 rfl ?_
      refine wp_aload_n xi_180 dX12_players_91 rfl ?_
      obtain ⟨x3, gx3, H⟩ := Option.bind_eq_some_iff.mp H
      refine wq_getfr xi_180 dX12_players_92 xf_12_40 gx3 ?_
      refine wp_iload xi_180 dX12_players_95 rfl ?_
      obtain ⟨x4, gx4, H⟩ := Option.bind_eq_some_iff.mp H
      refine wq_iaload xi_180 dX12_players_97 gx4 ?_
      obtain ⟨h5, gh5, H⟩ := Option.bind_eq_some_iff.mp H
      refine wq_iastore xi_180 dX12_players_98 gh5 ?_
      refine wp_iinc (a4 + 1) [some (.ref a0), none, some (.int a2), none, some (.int (a4 + 1))] xi_180 dX12_players_99 rfl rfl rfl ?_
      refine wp_goto 79 xi_180 dX12_players_102 rfl ?_
      exact Wp.more (by simp [xMore, Value.category]) (ih a0 a2 (a4 + 1) h5 _ H KE)
def f_180  (a : Nat) (h : xH) : Option (Int32 × xH) :=
  (pP h a 12 0 (.int 0)).bind fun h1 =>
  (pG (pIs h1 a 12)).bind fun _ =>
  (f_173 a 4 h1).bind fun (x4, h3) =>
  (f_180_13 100000 a x4 0 h3).bind fun (w6, h5) =>
  ((if w6 ≤ 0 then
  some (0)
  else
  some (1) : Option (Int32))).bind fun (w10 : Int32) =>
  (pG (pIs h5 a 12)).bind fun _ =>
  (f_177 a x4 4 w10 h5).bind fun (x14, h13) =>
  (if (0 : Int32) ≤ x14 then
  (f_180_79 100000 a w6 0 h13).bind fun h16 =>
  (pP h16 a 12 6 (.int w6)).bind fun h19 =>
  (pFr h19 a 12 3).bind fun x20 =>
  (pSi h19 x20 49 0).bind fun h21 =>
  some (w6, h21)
  else
  some (x14, h13))
set_option maxHeartbeats 4000000 in
theorem e_180 (d : Nat) (Q : Option Value → xH → Prop)  {h : xH} {a : Nat} {x : Int32} {h1 : xH} (H : f_180  a h = some (x, h1)) (hq : Q (some (.int x)) h1) : Wp (d + 2) 180 0 [some (.ref a), none, none, none, none] [] h Q := by
  unfold f_180 at H
  refine wp_aload_n xi_180 dX12_players_0 rfl ?_
  refine wp_iconst 0 xi_180 dX12_players_1 rfl ?_
  obtain ⟨h1, gh1, H⟩ := Option.bind_eq_some_iff.mp H
  refine wq_putf xi_180 dX12_players_2 xf_12_3 (Or.inl rfl) gh1 ?_
  refine wp_aload_n xi_180 dX12_players_5 rfl ?_
  refine wp_iconst 4 xi_180 dX12_players_6 rfl ?_
  obtain ⟨u2, gu2, H⟩ := Option.bind_eq_some_iff.mp H
  obtain ⟨⟨x4, h3⟩, gh3, H⟩ := Option.bind_eq_some_iff.mp H
  dsimp only at H
  refine wq_callV (a := a) (as := [.int 4]) (r := []) (v1 := (some (.int x4))) xi_180 xi_173 dX12_players_7 xm_12_178 rfl (Nat.le_of_ble_eq_true rfl) (pG_ok gu2) ⟨(Nat.le_of_ble_eq_true rfl), (Nat.le_of_ble_eq_true rfl)⟩ rfl nofun (e_173 (d + 1) _ gh3 ⟨rfl, rfl⟩) ?_
  change Wp _ _ _ _ [.int x4] _ _
  refine wp_istore_n [some (.ref a), some (.int x4), none, none, none] xi_180 dX12_players_10 rfl ?_
  refine wp_iconst 0 xi_180 dX12_players_11 rfl ?_
  refine wp_istore_n [some (.ref a), some (.int x4), some (.int 0), none, none] xi_180 dX12_players_12 rfl ?_
  obtain ⟨⟨w6, h5⟩, G7, H⟩ := Option.bind_eq_some_iff.mp H
  dsimp only at H
  refine Wp.more (by simp [xMore, Value.category]) (ef_180_13 d Q  100000 a x4 0 h3 _ G7 (fun z0 z1 e9 => ?_))
  cases e9
  refine wp_aload_n xi_180 dX12_players_54 rfl ?_
  refine wp_iload_n xi_180 dX12_players_55 rfl ?_
  refine wp_iconst 4 xi_180 dX12_players_56 rfl ?_
  refine wp_iload_n xi_180 dX12_players_57 rfl ?_
  obtain ⟨w10, G22, H⟩ := Option.bind_eq_some_iff.mp H
  have K11 : Wp (d + 2) 180 66 [some (.ref a), some (.int x4), some (.int w6), none, none] [.int w10, .int 4, .int x4, .ref a] h5 Q := by
    obtain ⟨u12, gu12, H⟩ := Option.bind_eq_some_iff.mp H
    obtain ⟨⟨x14, h13⟩, gh13, H⟩ := Option.bind_eq_some_iff.mp H
    dsimp only at H
    refine wq_callV (a := a) (as := [.int x4, .int 4, .int w10]) (r := []) (v1 := (some (.int x14))) xi_180 xi_177 dX12_players_66 xm_12_192 rfl (Nat.le_of_ble_eq_true rfl) (pG_ok gu12) ⟨(Nat.le_of_ble_eq_true rfl), (Nat.le_of_ble_eq_true rfl)⟩ rfl nofun (e_177 (d + 1) _ gh13 ⟨rfl, rfl⟩) ?_
    change Wp _ _ _ _ [.int x14] _ _
    refine wp_istore_n [some (.ref a), some (.int x4), some (.int w6), some (.int x14), none] xi_180 dX12_players_69 rfl ?_
    refine wp_iload_n xi_180 dX12_players_70 rfl ?_
    refine wp_if_ge 76 xi_180 dX12_players_71 rfl (fun c15 => ?_) (fun c15 => ?_)
    · rw [if_pos c15] at H
      refine wp_iconst 0 xi_180 dX12_players_76 rfl ?_
      refine wp_istore [some (.ref a), some (.int x4), some (.int w6), some (.int x14), some (.int 0)] xi_180 dX12_players_77 rfl ?_
      obtain ⟨h16, G17, H⟩ := Option.bind_eq_some_iff.mp H
      refine Wp.more (by simp [xMore, Value.category]) (ef_180_79 d Q  100000 a w6 0 h13 _ G17 (fun z0 e9 => ?_))
      cases e9
      refine wp_aload_n xi_180 dX12_players_105 rfl ?_
      refine wp_iload_n xi_180 dX12_players_106 rfl ?_
      obtain ⟨h19, gh19, H⟩ := Option.bind_eq_some_iff.mp H
      refine wq_putf xi_180 dX12_players_107 xf_12_34 (Or.inl rfl) gh19 ?_
      refine wp_aload_n xi_180 dX12_players_110 rfl ?_
      obtain ⟨x20, gx20, H⟩ := Option.bind_eq_some_iff.mp H
      refine wq_getfr xi_180 dX12_players_111 xf_12_24 gx20 ?_
      refine wp_bipush 49 xi_180 dX12_players_114 rfl ?_
      refine wp_iconst 0 xi_180 dX12_players_116 rfl ?_
      obtain ⟨h21, gh21, H⟩ := Option.bind_eq_some_iff.mp H
      refine wq_iastore xi_180 dX12_players_117 gh21 ?_
      refine wp_iload_n xi_180 dX12_players_118 rfl ?_
      obtain ⟨rfl, rfl⟩ := oi2 H
      exact wp_iret xi_180 dX12_players_119 hq
    · rw [if_neg c15] at H
      refine wp_iload_n xi_180 dX12_players_74 rfl ?_
      obtain ⟨rfl, rfl⟩ := oi2 H
      exact wp_iret xi_180 dX12_players_75 hq
  clear H
  have H := G22
  clear G22
  refine wp_if_le 65 xi_180 dX12_players_58 rfl (fun c9 => ?_) (fun c9 => ?_)
  · rw [if_pos c9] at H
    refine wp_iconst 0 xi_180 dX12_players_65 rfl ?_
    obtain rfl := Option.some.inj H
    exact Wp.more (by simp [xMore, Value.category]) K11
  · rw [if_neg c9] at H
    refine wp_iconst 1 xi_180 dX12_players_61 rfl ?_
    refine wp_goto 66 xi_180 dX12_players_62 rfl ?_
    obtain rfl := Option.some.inj H
    exact Wp.more (by simp [xMore, Value.category]) K11
/- FelledHasLostModel.codes(I)V -/
def f_181  (a : Nat) (p0 : Int32) (h : xH) : Option (xH) :=
  (pFr h a 12 16).bind fun x1 =>
  (pFi h a 12 18).bind fun x2 =>
  (pSi h x1 x2 p0).bind fun h3 =>
  (pFi h3 a 12 18).bind fun x4 =>
  (pP h3 a 12 18 (.int (x4 + 1))).bind fun h5 =>
  some h5
set_option maxHeartbeats 4000000 in
theorem e_181 (d : Nat) (Q : Option Value → xH → Prop)  {h : xH} {a : Nat} {p0 : Int32} {h1 : xH} (H : f_181  a p0 h = some h1) (hq : Q none h1) : Wp (d + 0) 181 0 [some (.ref a), some (.int p0)] [] h Q := by
  unfold f_181 at H
  refine wp_aload_n xi_181 dX12_codes_0 rfl ?_
  obtain ⟨x1, gx1, H⟩ := Option.bind_eq_some_iff.mp H
  refine wq_getfr xi_181 dX12_codes_1 xf_12_46 gx1 ?_
  refine wp_aload_n xi_181 dX12_codes_4 rfl ?_
  obtain ⟨x2, gx2, H⟩ := Option.bind_eq_some_iff.mp H
  refine wq_getfi xi_181 dX12_codes_5 xf_12_196 gx2 ?_
  refine wp_iload_n xi_181 dX12_codes_8 rfl ?_
  obtain ⟨h3, gh3, H⟩ := Option.bind_eq_some_iff.mp H
  refine wq_iastore xi_181 dX12_codes_9 gh3 ?_
  refine wp_aload_n xi_181 dX12_codes_10 rfl ?_
  refine wp_dup xi_181 dX12_codes_11 rfl ?_
  obtain ⟨x4, gx4, H⟩ := Option.bind_eq_some_iff.mp H
  refine wq_getfi xi_181 dX12_codes_12 xf_12_196 gx4 ?_
  refine wp_iconst 1 xi_181 dX12_codes_15 rfl ?_
  refine wp_iadd xi_181 dX12_codes_16 ?_
  obtain ⟨h5, gh5, H⟩ := Option.bind_eq_some_iff.mp H
  refine wq_putf xi_181 dX12_codes_17 xf_12_196 (Or.inl rfl) gh5 ?_
  obtain rfl := Option.some.inj H
  exact wp_vret xi_181 dX12_codes_20 hq
/- FelledHasLostModel.bearing([II)I -/
def f_185_4  : Nat → Nat → Int32 → Int32 → Int32 → xH → Option (Int32 × xH)
  | 0, _, _, _, _, _ => none
  | n + 1, a0, a1, a2, a3, h =>
  (if (3 : Int32) ≤ a3 then
  some (a2, h)
  else
  (pAi h a0 ((3 * a1) + a3)).bind fun x2 =>
  f_185_4 n a0 a1 (pMax a2 x2) (a3 + 1) h)
theorem ef_185_4 (d : Nat) (Q : Option Value → xH → Prop)  : ∀ (n : Nat) (a0 : Nat) (a1 : Int32) (a2 : Int32) (a3 : Int32) (h : xH) (r : Int32 × xH), f_185_4 n a0 a1 a2 a3 h = some r → (∀ (w2 : Int32) (h1 : xH), r = (w2, h1) → Wp (d + 0) 185 27 [some (.ref a0), some (.int a1), some (.int w2), none, none, none, none] [] h1 Q) → Wp (d + 0) 185 4 [some (.ref a0), some (.int a1), some (.int a2), some (.int a3), none, none, none] [] h Q := by
  intro n
  induction n with
  | zero =>
    intro a0 a1 a2 a3 h r H
    cases H
  | succ n ih =>
    intro a0 a1 a2 a3 h r H KE
    unfold f_185_4 at H
    refine wp_iload_n xi_185 dX12_bearing_4 rfl ?_
    refine wp_iconst 3 xi_185 dX12_bearing_5 rfl ?_
    refine wp_icmp_ge 27 xi_185 dX12_bearing_6 rfl (fun c1 => ?_) (fun c1 => ?_)
    · rw [if_pos c1] at H
      obtain rfl := Option.some.inj H
      exact Wp.more (by simp [xMore, Value.category]) (KE a2 h rfl)
    · rw [if_neg c1] at H
      refine wp_iload_n xi_185 dX12_bearing_9 rfl ?_
      refine wp_aload_n xi_185 dX12_bearing_10 rfl ?_
      refine wp_iconst 3 xi_185 dX12_bearing_11 rfl ?_
      refine wp_iload_n xi_185 dX12_bearing_12 rfl ?_
      refine wp_imul xi_185 dX12_bearing_13 ?_
      refine wp_iload_n xi_185 dX12_bearing_14 rfl ?_
      refine wp_iadd xi_185 dX12_bearing_15 ?_
      obtain ⟨x2, gx2, H⟩ := Option.bind_eq_some_iff.mp H
      refine wq_iaload xi_185 dX12_bearing_16 gx2 ?_
      refine wq_max xi_185 dX12_bearing_17 xm_12_224 (Nat.le_of_ble_eq_true rfl) ?_
      refine wp_istore_n [some (.ref a0), some (.int a1), some (.int (pMax a2 x2)), some (.int a3), none, none, none] xi_185 dX12_bearing_20 rfl ?_
      refine wp_iinc (a3 + 1) [some (.ref a0), some (.int a1), some (.int (pMax a2 x2)), some (.int (a3 + 1)), none, none, none] xi_185 dX12_bearing_21 rfl rfl rfl ?_
      refine wp_goto 4 xi_185 dX12_bearing_24 rfl ?_
      exact Wp.more (by simp [xMore, Value.category]) (ih a0 a1 (pMax a2 x2) (a3 + 1) h _ H KE)
def f_185_35  : Nat → Nat → Int32 → Int32 → Int32 → Int32 → Int32 → xH → Option (Int32 × Int32 × xH)
  | 0, _, _, _, _, _, _, _ => none
  | n + 1, a0, a1, a2, a3, a4, a5, h =>
  (if (3 : Int32) ≤ a5 then
  some (a3, a4, h)
  else
  (pAi h a0 ((3 * a1) + a5)).bind fun x2 =>
  ((if x2 = a2 then
  some ((1 <<< (a5 &&& 31)))
  else
  some (0) : Option (Int32))).bind fun (w4 : Int32) =>
  ((if a2 ≤ x2 then
  some (a4)
  else
  some ((pMax a4 x2)) : Option (Int32))).bind fun (w7 : Int32) =>
  f_185_35 n a0 a1 a2 (a3 ||| w4) w7 (a5 + 1) h)
theorem ef_185_35 (d : Nat) (Q : Option Value → xH → Prop)  : ∀ (n : Nat) (a0 : Nat) (a1 : Int32) (a2 : Int32) (a3 : Int32) (a4 : Int32) (a5 : Int32) (h : xH) (r : Int32 × Int32 × xH), f_185_35 n a0 a1 a2 a3 a4 a5 h = some r → (∀ (w3 : Int32) (w4 : Int32) (h1 : xH), r = (w3, w4, h1) → Wp (d + 0) 185 94 [some (.ref a0), some (.int a1), none, some (.int w3), some (.int w4), none, none] [] h1 Q) → Wp (d + 0) 185 35 [some (.ref a0), some (.int a1), some (.int a2), some (.int a3), some (.int a4), some (.int a5), none] [] h Q := by
  intro n
  induction n with
  | zero =>
    intro a0 a1 a2 a3 a4 a5 h r H
    cases H
  | succ n ih =>
    intro a0 a1 a2 a3 a4 a5 h r H KE
    unfold f_185_35 at H
    refine wp_iload xi_185 dX12_bearing_35 rfl ?_
    refine wp_iconst 3 xi_185 dX12_bearing_37 rfl ?_
    refine wp_icmp_ge 94 xi_185 dX12_bearing_38 rfl (fun c1 => ?_) (fun c1 => ?_)
    · rw [if_pos c1] at H
      obtain rfl := Option.some.inj H
      exact Wp.more (by simp [xMore, Value.category]) (KE a3 a4 h rfl)
    · rw [if_neg c1] at H
      refine wp_aload_n xi_185 dX12_bearing_41 rfl ?_
      refine wp_iconst 3 xi_185 dX12_bearing_42 rfl ?_
      refine wp_iload_n xi_185 dX12_bearing_43 rfl ?_
      refine wp_imul xi_185 dX12_bearing_44 ?_
      refine wp_iload xi_185 dX12_bearing_45 rfl ?_
      refine wp_iadd xi_185 dX12_bearing_47 ?_
      obtain ⟨x2, gx2, H⟩ := Option.bind_eq_some_iff.mp H
      refine wq_iaload xi_185 dX12_bearing_48 gx2 ?_
      refine wp_istore [some (.ref a0), some (.int a1), some (.int a2), some (.int a3), some (.int a4), some (.int a5), some (.int x2)] xi_185 dX12_bearing_49 rfl ?_
      refine wp_iload_n xi_185 dX12_bearing_51 rfl ?_
      refine wp_iload xi_185 dX12_bearing_52 rfl ?_
      refine wp_iload_n xi_185 dX12_bearing_54 rfl ?_
      obtain ⟨w4, G10, H⟩ := Option.bind_eq_some_iff.mp H
      have K5 : Wp (d + 0) 185 66 [some (.ref a0), some (.int a1), some (.int a2), some (.int a3), some (.int a4), some (.int a5), some (.int x2)] [.int w4, .int a3] h Q := by
        refine wp_ior xi_185 dX12_bearing_66 ?_
        refine wp_istore_n [some (.ref a0), some (.int a1), some (.int a2), some (.int (a3 ||| w4)), some (.int a4), some (.int a5), some (.int x2)] xi_185 dX12_bearing_67 rfl ?_
        refine wp_iload xi_185 dX12_bearing_68 rfl ?_
        refine wp_iload_n xi_185 dX12_bearing_70 rfl ?_
        obtain ⟨w7, G9, H⟩ := Option.bind_eq_some_iff.mp H
        have K8 : Wp (d + 0) 185 86 [some (.ref a0), some (.int a1), some (.int a2), some (.int (a3 ||| w4)), some (.int a4), some (.int a5), some (.int x2)] [.int w7] h Q := by
          refine wp_istore [some (.ref a0), some (.int a1), some (.int a2), some (.int (a3 ||| w4)), some (.int w7), some (.int a5), some (.int x2)] xi_185 dX12_bearing_86 rfl ?_
          refine wp_iinc (a5 + 1) [some (.ref a0), some (.int a1), some (.int a2), some (.int (a3 ||| w4)), some (.int w7), some (.int (a5 + 1)), some (.int x2)] xi_185 dX12_bearing_88 rfl rfl rfl ?_
          refine wp_goto 35 xi_185 dX12_bearing_91 rfl ?_
          exact Wp.more (by simp [xMore, Value.category]) (ih a0 a1 a2 (a3 ||| w4) w7 (a5 + 1) h _ H KE)
        clear H
        have H := G9
        clear G9
        refine wp_icmp_ge 84 xi_185 dX12_bearing_71 rfl (fun c6 => ?_) (fun c6 => ?_)
        · rw [if_pos c6] at H
          refine wp_iload xi_185 dX12_bearing_84 rfl ?_
          obtain rfl := Option.some.inj H
          exact Wp.more (by simp [xMore, Value.category]) K8
        · rw [if_neg c6] at H
          refine wp_iload xi_185 dX12_bearing_74 rfl ?_
          refine wp_iload xi_185 dX12_bearing_76 rfl ?_
          refine wq_max xi_185 dX12_bearing_78 xm_12_224 (Nat.le_of_ble_eq_true rfl) ?_
          refine wp_goto 86 xi_185 dX12_bearing_81 rfl ?_
          obtain rfl := Option.some.inj H
          exact Wp.more (by simp [xMore, Value.category]) K8
      clear H
      have H := G10
      clear G10
      refine wp_icmp_ne 65 xi_185 dX12_bearing_55 rfl (fun c3 => ?_) (fun c3 => ?_)
      · rw [if_neg c3] at H
        refine wp_iconst 0 xi_185 dX12_bearing_65 rfl ?_
        obtain rfl := Option.some.inj H
        exact Wp.more (by simp [xMore, Value.category]) K5
      · rw [if_pos c3] at H
        refine wp_iconst 1 xi_185 dX12_bearing_58 rfl ?_
        refine wp_iload xi_185 dX12_bearing_59 rfl ?_
        refine wp_ishl xi_185 dX12_bearing_61 ?_
        refine wp_goto 66 xi_185 dX12_bearing_62 rfl ?_
        obtain rfl := Option.some.inj H
        exact Wp.more (by simp [xMore, Value.category]) K5
def f_185_112  : Nat → Nat → Int32 → Int32 → Int32 → Int32 → xH → Option (Int32 × xH)
  | 0, _, _, _, _, _, _ => none
  | n + 1, a0, a1, a3, a4, a5, h =>
  (if (3 : Int32) ≤ a5 then
  some (a3, h)
  else
  (pAi h a0 ((3 * a1) + a5)).bind fun x2 =>
  ((if x2 = a4 then
  some ((1 <<< (a5 &&& 31)))
  else
  some (0) : Option (Int32))).bind fun (w4 : Int32) =>
  f_185_112 n a0 a1 (a3 ||| w4) a4 (a5 + 1) h)
theorem ef_185_112 (d : Nat) (Q : Option Value → xH → Prop)  : ∀ (n : Nat) (a0 : Nat) (a1 : Int32) (a3 : Int32) (a4 : Int32) (a5 : Int32) (h : xH) (r : Int32 × xH), f_185_112 n a0 a1 a3 a4 a5 h = some r → (∀ (w3 : Int32) (h1 : xH), r = (w3, h1) → Wp (d + 0) 185 148 [none, none, none, some (.int w3), none, none, none] [] h1 Q) → Wp (d + 0) 185 112 [some (.ref a0), some (.int a1), none, some (.int a3), some (.int a4), some (.int a5), none] [] h Q := by
  intro n
  induction n with
  | zero =>
    intro a0 a1 a3 a4 a5 h r H
    cases H
  | succ n ih =>
    intro a0 a1 a3 a4 a5 h r H KE
    unfold f_185_112 at H
    refine wp_iload xi_185 dX12_bearing_112 rfl ?_
    refine wp_iconst 3 xi_185 dX12_bearing_114 rfl ?_
    refine wp_icmp_ge 148 xi_185 dX12_bearing_115 rfl (fun c1 => ?_) (fun c1 => ?_)
    · rw [if_pos c1] at H
      obtain rfl := Option.some.inj H
      exact Wp.more (by simp [xMore, Value.category]) (KE a3 h rfl)
    · rw [if_neg c1] at H
      refine wp_iload_n xi_185 dX12_bearing_118 rfl ?_
      refine wp_aload_n xi_185 dX12_bearing_119 rfl ?_
      refine wp_iconst 3 xi_185 dX12_bearing_120 rfl ?_
      refine wp_iload_n xi_185 dX12_bearing_121 rfl ?_
      refine wp_imul xi_185 dX12_bearing_122 ?_
      refine wp_iload xi_185 dX12_bearing_123 rfl ?_
      refine wp_iadd xi_185 dX12_bearing_125 ?_
      obtain ⟨x2, gx2, H⟩ := Option.bind_eq_some_iff.mp H
      refine wq_iaload xi_185 dX12_bearing_126 gx2 ?_
      refine wp_iload xi_185 dX12_bearing_127 rfl ?_
      obtain ⟨w4, G6, H⟩ := Option.bind_eq_some_iff.mp H
      have K5 : Wp (d + 0) 185 140 [some (.ref a0), some (.int a1), none, some (.int a3), some (.int a4), some (.int a5), none] [.int w4, .int a3] h Q := by
        refine wp_ior xi_185 dX12_bearing_140 ?_
        refine wp_istore_n [some (.ref a0), some (.int a1), none, some (.int (a3 ||| w4)), some (.int a4), some (.int a5), none] xi_185 dX12_bearing_141 rfl ?_
        refine wp_iinc (a5 + 1) [some (.ref a0), some (.int a1), none, some (.int (a3 ||| w4)), some (.int a4), some (.int (a5 + 1)), none] xi_185 dX12_bearing_142 rfl rfl rfl ?_
        refine wp_goto 112 xi_185 dX12_bearing_145 rfl ?_
        exact Wp.more (by simp [xMore, Value.category]) (ih a0 a1 (a3 ||| w4) a4 (a5 + 1) h _ H KE)
      clear H
      have H := G6
      clear G6
      refine wp_icmp_ne 139 xi_185 dX12_bearing_129 rfl (fun c3 => ?_) (fun c3 => ?_)
      · rw [if_neg c3] at H
        refine wp_iconst 0 xi_185 dX12_bearing_139 rfl ?_
        obtain rfl := Option.some.inj H
        exact Wp.more (by simp [xMore, Value.category]) K5
      · rw [if_pos c3] at H
        refine wp_iconst 1 xi_185 dX12_bearing_132 rfl ?_
        refine wp_iload xi_185 dX12_bearing_133 rfl ?_
        refine wp_ishl xi_185 dX12_bearing_135 ?_
        refine wp_goto 140 xi_185 dX12_bearing_136 rfl ?_
        obtain rfl := Option.some.inj H
        exact Wp.more (by simp [xMore, Value.category]) K5
def f_185  (p0 : Nat) (p1 : Int32) (h : xH) : Option (Int32 × xH) :=
  (f_185_4 100000 p0 p1 (-1) 0 h).bind fun (w2, h1) =>
  (f_185_35 100000 p0 p1 w2 0 (-1) 0 h1).bind fun (w6, w7, h5) =>
  ((if w6 = 1 then
  (if w7 < 0 then
  some (w6, h5)
  else
  (f_185_112 100000 p0 p1 w6 w7 0 h5).bind fun (w27, h26) =>
  some (w27, h26))
  else
  (if w6 = 4 then
  (if w7 < 0 then
  some (w6, h5)
  else
  (f_185_112 100000 p0 p1 w6 w7 0 h5).bind fun (w33, h32) =>
  some (w33, h32))
  else
  some (w6, h5)) : Option (Int32 × xH))).bind fun (w22, h23) =>
  some (w22, h23)
set_option maxHeartbeats 4000000 in
theorem e_185 (d : Nat) (Q : Option Value → xH → Prop)  {h : xH} {p0 : Nat} {p1 : Int32} {x : Int32} {h1 : xH} (H : f_185  p0 p1 h = some (x, h1)) (hq : Q (some (.int x)) h1) : Wp (d + 0) 185 0 [some (.ref p0), some (.int p1), none, none, none, none, none] [] h Q := by
  unfold f_185 at H
  refine wp_iconst (-1) xi_185 dX12_bearing_0 rfl ?_
  refine wp_istore_n [some (.ref p0), some (.int p1), some (.int (-1)), none, none, none, none] xi_185 dX12_bearing_1 rfl ?_
  refine wp_iconst 0 xi_185 dX12_bearing_2 rfl ?_
  refine wp_istore_n [some (.ref p0), some (.int p1), some (.int (-1)), some (.int 0), none, none, none] xi_185 dX12_bearing_3 rfl ?_
  obtain ⟨⟨w2, h1⟩, G3, H⟩ := Option.bind_eq_some_iff.mp H
  dsimp only at H
  refine Wp.more (by simp [xMore, Value.category]) (ef_185_4 d Q  100000 p0 p1 (-1) 0 h _ G3 (fun z0 z1 e9 => ?_))
  cases e9
  refine wp_iconst 0 xi_185 dX12_bearing_27 rfl ?_
  refine wp_istore_n [some (.ref p0), some (.int p1), some (.int w2), some (.int 0), none, none, none] xi_185 dX12_bearing_28 rfl ?_
  refine wp_iconst (-1) xi_185 dX12_bearing_29 rfl ?_
  refine wp_istore [some (.ref p0), some (.int p1), some (.int w2), some (.int 0), some (.int (-1)), none, none] xi_185 dX12_bearing_30 rfl ?_
  refine wp_iconst 0 xi_185 dX12_bearing_32 rfl ?_
  refine wp_istore [some (.ref p0), some (.int p1), some (.int w2), some (.int 0), some (.int (-1)), some (.int 0), none] xi_185 dX12_bearing_33 rfl ?_
  obtain ⟨⟨w6, w7, h5⟩, G8, H⟩ := Option.bind_eq_some_iff.mp H
  dsimp only at H
  refine Wp.more (by simp [xMore, Value.category]) (ef_185_35 d Q  100000 p0 p1 w2 0 (-1) 0 h1 _ G8 (fun z0 z1 z2 e9 => ?_))
  cases e9
  refine wp_iload_n xi_185 dX12_bearing_94 rfl ?_
  refine wp_iconst 1 xi_185 dX12_bearing_95 rfl ?_
  obtain ⟨⟨w22, h23⟩, G36, H⟩ := Option.bind_eq_some_iff.mp H
  dsimp only at H
  have K24 : Wp (d + 0) 185 148 [none, none, none, some (.int w22), none, none, none] [] h23 Q := by
    refine wp_iload_n xi_185 dX12_bearing_148 rfl ?_
    obtain ⟨rfl, rfl⟩ := oi2 H
    exact wp_iret xi_185 dX12_bearing_149 hq
  clear H
  have H := G36
  clear G36
  refine wp_icmp_eq 104 xi_185 dX12_bearing_96 rfl (fun c10 => ?_) (fun c10 => ?_)
  · rw [if_pos c10] at H
    refine wp_iload xi_185 dX12_bearing_104 rfl ?_
    refine wp_if_lt 148 xi_185 dX12_bearing_106 rfl (fun c25 => ?_) (fun c25 => ?_)
    · rw [if_pos c25] at H
      simp only [Option.some.injEq, Prod.mk.injEq] at H
      obtain ⟨rfl, rfl⟩ := H
      exact Wp.more (by simp [xMore, Value.category]) K24
    · rw [if_neg c25] at H
      refine wp_iconst 0 xi_185 dX12_bearing_109 rfl ?_
      refine wp_istore [some (.ref p0), some (.int p1), none, some (.int w6), some (.int w7), some (.int 0), none] xi_185 dX12_bearing_110 rfl ?_
      obtain ⟨⟨w27, h26⟩, G28, H⟩ := Option.bind_eq_some_iff.mp H
      dsimp only at H
      refine Wp.more (by simp [xMore, Value.category]) (ef_185_112 d Q  100000 p0 p1 w6 w7 0 h5 _ G28 (fun z0 z1 e9 => ?_))
      cases e9
      simp only [Option.some.injEq, Prod.mk.injEq] at H
      obtain ⟨rfl, rfl⟩ := H
      exact Wp.more (by simp [xMore, Value.category]) K24
  · rw [if_neg c10] at H
    refine wp_iload_n xi_185 dX12_bearing_99 rfl ?_
    refine wp_iconst 4 xi_185 dX12_bearing_100 rfl ?_
    refine wp_icmp_ne 148 xi_185 dX12_bearing_101 rfl (fun c30 => ?_) (fun c30 => ?_)
    · rw [if_neg c30] at H
      simp only [Option.some.injEq, Prod.mk.injEq] at H
      obtain ⟨rfl, rfl⟩ := H
      exact Wp.more (by simp [xMore, Value.category]) K24
    · rw [if_pos c30] at H
      refine wp_iload xi_185 dX12_bearing_104 rfl ?_
      refine wp_if_lt 148 xi_185 dX12_bearing_106 rfl (fun c31 => ?_) (fun c31 => ?_)
      · rw [if_pos c31] at H
        simp only [Option.some.injEq, Prod.mk.injEq] at H
        obtain ⟨rfl, rfl⟩ := H
        exact Wp.more (by simp [xMore, Value.category]) K24
      · rw [if_neg c31] at H
        refine wp_iconst 0 xi_185 dX12_bearing_109 rfl ?_
        refine wp_istore [some (.ref p0), some (.int p1), none, some (.int w6), some (.int w7), some (.int 0), none] xi_185 dX12_bearing_110 rfl ?_
        obtain ⟨⟨w33, h32⟩, G34, H⟩ := Option.bind_eq_some_iff.mp H
        dsimp only at H
        refine Wp.more (by simp [xMore, Value.category]) (ef_185_112 d Q  100000 p0 p1 w6 w7 0 h5 _ G34 (fun z0 z1 e9 => ?_))
        cases e9
        simp only [Option.some.injEq, Prod.mk.injEq] at H
        obtain ⟨rfl, rfl⟩ := H
        exact Wp.more (by simp [xMore, Value.category]) K24
/- FelledHasLostModel.isTight([II)Z -/
def f_186  (p0 : Nat) (p1 : Int32) (h : xH) : Option (Int32 × xH) :=
  (pDiv p1 3).bind fun x1 =>
  (f_185 p0 x1 h).bind fun (x3, h2) =>
  (pRem p1 3).bind fun x4 =>
  ((if ((x3 >>> (x4 &&& 31)) &&& 1) = 1 then
  some (1)
  else
  some (0) : Option (Int32))).bind fun (w6 : Int32) =>
  pZ w6 h2
set_option maxHeartbeats 4000000 in
theorem e_186 (d : Nat) (Q : Option Value → xH → Prop)  {h : xH} {p0 : Nat} {p1 : Int32} {x : Int32} {h1 : xH} (H : f_186  p0 p1 h = some (x, h1)) (hq : Q (some (.int x)) h1) : Wp (d + 1) 186 0 [some (.ref p0), some (.int p1)] [] h Q := by
  unfold f_186 at H
  refine wp_aload_n xi_186 dX12_isTight_0 rfl ?_
  refine wp_iload_n xi_186 dX12_isTight_1 rfl ?_
  refine wp_iconst 3 xi_186 dX12_isTight_2 rfl ?_
  obtain ⟨x1, gx1, H⟩ := Option.bind_eq_some_iff.mp H
  refine wq_idiv xi_186 dX12_isTight_3 gx1 ?_
  obtain ⟨⟨x3, h2⟩, gh2, H⟩ := Option.bind_eq_some_iff.mp H
  dsimp only at H
  refine wq_callS (as := [.ref p0, .int x1]) (r := []) (v1 := (some (.int x3))) xi_186 xi_185 dX12_isTight_4 xm_12_227 rfl (Nat.le_of_ble_eq_true rfl) ⟨(Nat.le_of_ble_eq_true rfl), (Nat.le_of_ble_eq_true rfl)⟩ rfl nofun (e_185 d _ gh2 ⟨rfl, rfl⟩) ?_
  change Wp _ _ _ _ [.int x3] _ _
  refine wp_iload_n xi_186 dX12_isTight_7 rfl ?_
  refine wp_iconst 3 xi_186 dX12_isTight_8 rfl ?_
  obtain ⟨x4, gx4, H⟩ := Option.bind_eq_some_iff.mp H
  refine wq_irem xi_186 dX12_isTight_9 gx4 ?_
  refine wp_ishr xi_186 dX12_isTight_10 ?_
  refine wp_iconst 1 xi_186 dX12_isTight_11 rfl ?_
  refine wp_iand xi_186 dX12_isTight_12 ?_
  refine wp_iconst 1 xi_186 dX12_isTight_13 rfl ?_
  obtain ⟨w6, G8, H⟩ := Option.bind_eq_some_iff.mp H
  have K7 : Wp (d + 1) 186 22 [some (.ref p0), some (.int p1)] [.int w6] h2 Q := by
    obtain ⟨gz, hz⟩ := pZ_ok H
    obtain ⟨rfl, rfl⟩ := Prod.mk.inj hz
    exact wp_zret xi_186 dX12_isTight_22 gz hq
  clear H
  have H := G8
  clear G8
  refine wp_icmp_ne 21 xi_186 dX12_isTight_14 rfl (fun c5 => ?_) (fun c5 => ?_)
  · rw [if_neg c5] at H
    refine wp_iconst 0 xi_186 dX12_isTight_21 rfl ?_
    obtain rfl := Option.some.inj H
    exact Wp.more (by simp [xMore, Value.category]) K7
  · rw [if_pos c5] at H
    refine wp_iconst 1 xi_186 dX12_isTight_17 rfl ?_
    refine wp_goto 22 xi_186 dX12_isTight_18 rfl ?_
    obtain rfl := Option.some.inj H
    exact Wp.more (by simp [xMore, Value.category]) K7
