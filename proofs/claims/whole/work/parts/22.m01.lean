/- FelledHasLostModel.asks(II)I -/
def f_232_37 (F232 : Nat → Int32 → Int32 → xH → Option (Int32 × xH)) : Nat → Nat → Int32 → Int32 → Int32 → Int32 → Int32 → xH → Option (Int32 × Int32 × xH)
  | 0, _, _, _, _, _, _, _ => none
  | n + 1, a0, a1, a2, a3, a4, a5, h =>
  (if (480 : Int32) ≤ a5 then
  some (a3, a4, h)
  else
  (pFr h a0 12 27).bind fun x2 =>
  (pG (pIs h a0 12)).bind fun _ =>
  (f_224 a0 a1 x2 h).bind fun h4 =>
  (pFr h4 a0 12 27).bind fun x5 =>
  (f_202 x5 a5 h4).bind fun (x7, h6) =>
  ((if x7 = 0 then
  some (a3, a4, h6)
  else
  (pFr h6 a0 12 27).bind fun x49 =>
  (pG (pIs h6 a0 12)).bind fun _ =>
  (f_203 a0 x49 a5 h6).bind fun (x52, h51) =>
  (if x52 = 0 then
  (pFr h51 a0 12 36).bind fun x54 =>
  (pFr h51 a0 12 27).bind fun x55 =>
  (pG (pIs h51 a0 12)).bind fun _ =>
  (f_225 a0 x55 h51).bind fun (x58, h57) =>
  (pAi h57 x54 x58).bind fun x59 =>
  (pG (pIs h57 a0 12)).bind fun _ =>
  (F232 a0 x59 a2 h57).bind fun (x62, h61) =>
  ((if a2 = 0 then
  some ((1 - x62))
  else
  some ((x62 + 1)) : Option (Int32))).bind fun (w64 : Int32) =>
  ((if a2 = 2 then
  (if a3 < 0 then
  some (1)
  else
  (if a3 ≤ w64 then
  some (0)
  else
  some (1)))
  else
  (if w64 ≤ a3 then
  some (0)
  else
  some (1)) : Option (Int32))).bind fun (w70 : Int32) =>
  ((if w70 = 0 then
  some (a4)
  else
  some (a5) : Option (Int32))).bind fun (w76 : Int32) =>
  ((if w70 = 0 then
  some (a3)
  else
  some (w64) : Option (Int32))).bind fun (w79 : Int32) =>
  some (w79, w76, h61)
  else
  some (a3, a4, h51)) : Option (Int32 × Int32 × xH))).bind fun (w45, w46, h47) =>
  f_232_37 F232 n a0 a1 a2 w45 w46 (a5 + 1) h47)
theorem ef_232_37 (d : Nat) (Q : Option Value → xH → Prop) (F232 : Nat → Int32 → Int32 → xH → Option (Int32 × xH)) (hF232 : ∀ (Q : Option Value → xH → Prop) (b0 : Nat) (b1 : Int32) (b2 : Int32) (h : xH) (x : Int32) (h1 : xH), F232 b0 b1 b2 h = some (x, h1) → Q (some (.int x)) h1 → Wp (d + 3) 232 0 [some (.ref b0), some (.int b1), some (.int b2), none, none, none, none, none, none] [] h Q) : ∀ (n : Nat) (a0 : Nat) (a1 : Int32) (a2 : Int32) (a3 : Int32) (a4 : Int32) (a5 : Int32) (h : xH) (r : Int32 × Int32 × xH), f_232_37 F232 n a0 a1 a2 a3 a4 a5 h = some r → (∀ (w3 : Int32) (w4 : Int32) (h1 : xH), r = (w3, w4, h1) → Wp (d + 4) 232 190 [some (.ref a0), some (.int a1), none, some (.int w3), some (.int w4), none, none, none, none] [] h1 Q) → Wp (d + 4) 232 37 [some (.ref a0), some (.int a1), some (.int a2), some (.int a3), some (.int a4), some (.int a5), none, none, none] [] h Q := by
  intro n
  induction n with
  | zero =>
    intro a0 a1 a2 a3 a4 a5 h r H
    cases H
  | succ n ih =>
    intro a0 a1 a2 a3 a4 a5 h r H KE
    unfold f_232_37 at H
    refine wp_iload xi_232 dX12_asks_37 rfl ?_
    refine wp_sipush 480 xi_232 dX12_asks_39 rfl ?_
    refine wp_icmp_ge 190 xi_232 dX12_asks_42 rfl (fun c1 => ?_) (fun c1 => ?_)
    · rw [if_pos c1] at H
      obtain rfl := Option.some.inj H
      exact Wp.more (by simp [xMore, Value.category]) (KE a3 a4 h rfl)
    · rw [if_neg c1] at H
      refine wp_aload_n xi_232 dX12_asks_45 rfl ?_
      refine wp_iload_n xi_232 dX12_asks_46 rfl ?_
      refine wp_aload_n xi_232 dX12_asks_47 rfl ?_
      obtain ⟨x2, gx2, H⟩ := Option.bind_eq_some_iff.mp H
      refine wq_getfr xi_232 dX12_asks_48 xf_12_64 gx2 ?_
      obtain ⟨u3, gu3, H⟩ := Option.bind_eq_some_iff.mp H
      obtain ⟨h4, gh4, H⟩ := Option.bind_eq_some_iff.mp H
      refine wq_callV (a := a0) (as := [.int a1, .ref x2]) (r := []) (v1 := none) xi_232 xi_224 dX12_asks_51 xm_12_368 rfl (Nat.le_of_ble_eq_true rfl) (pG_ok gu3) ⟨(Nat.le_of_ble_eq_true rfl), (Nat.le_of_ble_eq_true rfl)⟩ rfl nofun (e_224 (d + 3) _ gh4 ⟨rfl, rfl⟩) ?_
      change Wp _ _ _ _ [] _ _
      refine wp_aload_n xi_232 dX12_asks_54 rfl ?_
      obtain ⟨x5, gx5, H⟩ := Option.bind_eq_some_iff.mp H
      refine wq_getfr xi_232 dX12_asks_55 xf_12_64 gx5 ?_
      refine wp_iload xi_232 dX12_asks_58 rfl ?_
      obtain ⟨⟨x7, h6⟩, gh6, H⟩ := Option.bind_eq_some_iff.mp H
      dsimp only at H
      refine wq_callS (as := [.ref x5, .int a5]) (r := []) (v1 := (some (.int x7))) xi_232 xi_202 dX12_asks_60 xm_12_292 rfl (Nat.le_of_ble_eq_true rfl) ⟨(Nat.le_of_ble_eq_true rfl), (Nat.le_of_ble_eq_true rfl)⟩ rfl nofun (e_202 d _ gh6 ⟨rfl, rfl⟩) ?_
      change Wp _ _ _ _ [.int x7] _ _
      obtain ⟨⟨w45, w46, h47⟩, G85, H⟩ := Option.bind_eq_some_iff.mp H
      dsimp only at H
      have K48 : Wp (d + 4) 232 184 [some (.ref a0), some (.int a1), some (.int a2), some (.int w45), some (.int w46), some (.int a5), none, none, none] [] h47 Q := by
        refine wp_iinc (a5 + 1) [some (.ref a0), some (.int a1), some (.int a2), some (.int w45), some (.int w46), some (.int (a5 + 1)), none, none, none] xi_232 dX12_asks_184 rfl rfl rfl ?_
        refine wp_goto 37 xi_232 dX12_asks_187 rfl ?_
        exact Wp.more (by simp [xMore, Value.category]) (ih a0 a1 a2 w45 w46 (a5 + 1) h47 _ H KE)
      clear H
      have H := G85
      clear G85
      refine wp_if_ne 69 xi_232 dX12_asks_63 rfl (fun c8 => ?_) (fun c8 => ?_)
      · rw [if_neg c8] at H
        refine wp_aload_n xi_232 dX12_asks_69 rfl ?_
        refine wp_aload_n xi_232 dX12_asks_70 rfl ?_
        obtain ⟨x49, gx49, H⟩ := Option.bind_eq_some_iff.mp H
        refine wq_getfr xi_232 dX12_asks_71 xf_12_64 gx49 ?_
        refine wp_iload xi_232 dX12_asks_74 rfl ?_
        obtain ⟨u50, gu50, H⟩ := Option.bind_eq_some_iff.mp H
        obtain ⟨⟨x52, h51⟩, gh51, H⟩ := Option.bind_eq_some_iff.mp H
        dsimp only at H
        refine wq_callV (a := a0) (as := [.ref x49, .int a5]) (r := []) (v1 := (some (.int x52))) xi_232 xi_203 dX12_asks_76 xm_12_295 rfl (Nat.le_of_ble_eq_true rfl) (pG_ok gu50) ⟨(Nat.le_of_ble_eq_true rfl), (Nat.le_of_ble_eq_true rfl)⟩ rfl nofun (e_203 d _ gh51 ⟨rfl, rfl⟩) ?_
        change Wp _ _ _ _ [.int x52] _ _
        refine wp_if_eq 85 xi_232 dX12_asks_79 rfl (fun c53 => ?_) (fun c53 => ?_)
        · rw [if_pos c53] at H
          refine wp_aload_n xi_232 dX12_asks_85 rfl ?_
          refine wp_aload_n xi_232 dX12_asks_86 rfl ?_
          obtain ⟨x54, gx54, H⟩ := Option.bind_eq_some_iff.mp H
          refine wq_getfr xi_232 dX12_asks_87 xf_12_85 gx54 ?_
          refine wp_aload_n xi_232 dX12_asks_90 rfl ?_
          refine wp_aload_n xi_232 dX12_asks_91 rfl ?_
          obtain ⟨x55, gx55, H⟩ := Option.bind_eq_some_iff.mp H
          refine wq_getfr xi_232 dX12_asks_92 xf_12_64 gx55 ?_
          obtain ⟨u56, gu56, H⟩ := Option.bind_eq_some_iff.mp H
          obtain ⟨⟨x58, h57⟩, gh57, H⟩ := Option.bind_eq_some_iff.mp H
          dsimp only at H
          refine wq_callV (a := a0) (as := [.ref x55]) (r := [.ref x54, .ref a0]) (v1 := (some (.int x58))) xi_232 xi_225 dX12_asks_95 xm_12_354 rfl (Nat.le_of_ble_eq_true rfl) (pG_ok gu56) ⟨(Nat.le_of_ble_eq_true rfl), (Nat.le_of_ble_eq_true rfl)⟩ rfl nofun (e_225 (d + 2) _ gh57 ⟨rfl, rfl⟩) ?_
          change Wp _ _ _ _ [.int x58, .ref x54, .ref a0] _ _
          obtain ⟨x59, gx59, H⟩ := Option.bind_eq_some_iff.mp H
          refine wq_iaload xi_232 dX12_asks_98 gx59 ?_
          refine wp_iload_n xi_232 dX12_asks_99 rfl ?_
          obtain ⟨u60, gu60, H⟩ := Option.bind_eq_some_iff.mp H
          obtain ⟨⟨x62, h61⟩, gh61, H⟩ := Option.bind_eq_some_iff.mp H
          dsimp only at H
          refine wq_callV (a := a0) (as := [.int x59, .int a2]) (r := []) (v1 := (some (.int x62))) xi_232 xi_232 dX12_asks_100 xm_12_378 rfl (Nat.le_of_ble_eq_true rfl) (pG_ok gu60) ⟨(Nat.le_of_ble_eq_true rfl), (Nat.le_of_ble_eq_true rfl)⟩ rfl nofun (hF232 _ _ _ _ _ _ _ gh61 ⟨rfl, rfl⟩) ?_
          change Wp _ _ _ _ [.int x62] _ _
          refine wp_istore [some (.ref a0), some (.int a1), some (.int a2), some (.int a3), some (.int a4), some (.int a5), some (.int x62), none, none] xi_232 dX12_asks_103 rfl ?_
          refine wp_iload_n xi_232 dX12_asks_105 rfl ?_
          obtain ⟨w64, G84, H⟩ := Option.bind_eq_some_iff.mp H
          have K65 : Wp (d + 4) 232 120 [some (.ref a0), some (.int a1), some (.int a2), some (.int a3), some (.int a4), some (.int a5), some (.int x62), none, none] [.int w64] h61 Q := by
            refine wp_istore [some (.ref a0), some (.int a1), some (.int a2), some (.int a3), some (.int a4), some (.int a5), some (.int x62), some (.int w64), none] xi_232 dX12_asks_120 rfl ?_
            refine wp_iload_n xi_232 dX12_asks_122 rfl ?_
            refine wp_iconst 2 xi_232 dX12_asks_123 rfl ?_
            obtain ⟨w70, G83, H⟩ := Option.bind_eq_some_iff.mp H
            have K71 : Wp (d + 4) 232 156 [some (.ref a0), some (.int a1), some (.int a2), some (.int a3), some (.int a4), some (.int a5), some (.int x62), some (.int w64), none] [.int w70] h61 Q := by
              refine wp_istore [some (.ref a0), some (.int a1), some (.int a2), some (.int a3), some (.int a4), some (.int a5), some (.int x62), some (.int w64), some (.int w70)] xi_232 dX12_asks_156 rfl ?_
              refine wp_iload xi_232 dX12_asks_158 rfl ?_
              obtain ⟨w76, G82, H⟩ := Option.bind_eq_some_iff.mp H
              have K77 : Wp (d + 4) 232 170 [some (.ref a0), some (.int a1), some (.int a2), some (.int a3), some (.int a4), some (.int a5), some (.int x62), some (.int w64), some (.int w70)] [.int w76] h61 Q := by
                refine wp_istore [some (.ref a0), some (.int a1), some (.int a2), some (.int a3), some (.int w76), some (.int a5), some (.int x62), some (.int w64), some (.int w70)] xi_232 dX12_asks_170 rfl ?_
                refine wp_iload xi_232 dX12_asks_172 rfl ?_
                obtain ⟨w79, G81, H⟩ := Option.bind_eq_some_iff.mp H
                have K80 : Wp (d + 4) 232 183 [some (.ref a0), some (.int a1), some (.int a2), some (.int a3), some (.int w76), some (.int a5), some (.int x62), some (.int w64), some (.int w70)] [.int w79] h61 Q := by
                  refine wp_istore_n [some (.ref a0), some (.int a1), some (.int a2), some (.int w79), some (.int w76), some (.int a5), some (.int x62), some (.int w64), some (.int w70)] xi_232 dX12_asks_183 rfl ?_
                  simp only [Option.some.injEq, Prod.mk.injEq] at H
                  obtain ⟨rfl, rfl, rfl⟩ := H
                  exact Wp.more (by simp [xMore, Value.category]) K48
                clear H
                have H := G81
                clear G81
                refine wp_if_eq 182 xi_232 dX12_asks_174 rfl (fun c78 => ?_) (fun c78 => ?_)
                · rw [if_pos c78] at H
                  refine wp_iload_n xi_232 dX12_asks_182 rfl ?_
                  obtain rfl := Option.some.inj H
                  exact Wp.more (by simp [xMore, Value.category]) K80
                · rw [if_neg c78] at H
                  refine wp_iload xi_232 dX12_asks_177 rfl ?_
                  refine wp_goto 183 xi_232 dX12_asks_179 rfl ?_
                  obtain rfl := Option.some.inj H
                  exact Wp.more (by simp [xMore, Value.category]) K80
              clear H
              have H := G82
              clear G82
              refine wp_if_eq 168 xi_232 dX12_asks_160 rfl (fun c75 => ?_) (fun c75 => ?_)
              · rw [if_pos c75] at H
                refine wp_iload xi_232 dX12_asks_168 rfl ?_
                obtain rfl := Option.some.inj H
                exact Wp.more (by simp [xMore, Value.category]) K77
              · rw [if_neg c75] at H
                refine wp_iload xi_232 dX12_asks_163 rfl ?_
                refine wp_goto 170 xi_232 dX12_asks_165 rfl ?_
                obtain rfl := Option.some.inj H
                exact Wp.more (by simp [xMore, Value.category]) K77
            clear H
            have H := G83
            clear G83
            refine wp_icmp_ne 145 xi_232 dX12_asks_124 rfl (fun c66 => ?_) (fun c66 => ?_)
            · rw [if_neg c66] at H
              refine wp_iload xi_232 dX12_asks_145 rfl ?_
              refine wp_iload_n xi_232 dX12_asks_147 rfl ?_
              refine wp_icmp_le 155 xi_232 dX12_asks_148 rfl (fun c72 => ?_) (fun c72 => ?_)
              · rw [if_pos c72] at H
                refine wp_iconst 0 xi_232 dX12_asks_155 rfl ?_
                obtain rfl := Option.some.inj H
                exact Wp.more (by simp [xMore, Value.category]) K71
              · rw [if_neg c72] at H
                refine wp_iconst 1 xi_232 dX12_asks_151 rfl ?_
                refine wp_goto 156 xi_232 dX12_asks_152 rfl ?_
                obtain rfl := Option.some.inj H
                exact Wp.more (by simp [xMore, Value.category]) K71
            · rw [if_pos c66] at H
              refine wp_iload_n xi_232 dX12_asks_127 rfl ?_
              refine wp_if_lt 137 xi_232 dX12_asks_128 rfl (fun c73 => ?_) (fun c73 => ?_)
              · rw [if_pos c73] at H
                refine wp_iconst 1 xi_232 dX12_asks_137 rfl ?_
                refine wp_goto 156 xi_232 dX12_asks_138 rfl ?_
                obtain rfl := Option.some.inj H
                exact Wp.more (by simp [xMore, Value.category]) K71
              · rw [if_neg c73] at H
                refine wp_iload xi_232 dX12_asks_131 rfl ?_
                refine wp_iload_n xi_232 dX12_asks_133 rfl ?_
                refine wp_icmp_ge 141 xi_232 dX12_asks_134 rfl (fun c74 => ?_) (fun c74 => ?_)
                · rw [if_pos c74] at H
                  refine wp_iconst 0 xi_232 dX12_asks_141 rfl ?_
                  refine wp_goto 156 xi_232 dX12_asks_142 rfl ?_
                  obtain rfl := Option.some.inj H
                  exact Wp.more (by simp [xMore, Value.category]) K71
                · rw [if_neg c74] at H
                  refine wp_iconst 1 xi_232 dX12_asks_137 rfl ?_
                  refine wp_goto 156 xi_232 dX12_asks_138 rfl ?_
                  obtain rfl := Option.some.inj H
                  exact Wp.more (by simp [xMore, Value.category]) K71
          clear H
          have H := G84
          clear G84
          refine wp_if_ne 116 xi_232 dX12_asks_106 rfl (fun c63 => ?_) (fun c63 => ?_)
          · rw [if_neg c63] at H
            refine wp_iload xi_232 dX12_asks_116 rfl ?_
            refine wp_iconst 1 xi_232 dX12_asks_118 rfl ?_
            refine wp_iadd xi_232 dX12_asks_119 ?_
            obtain rfl := Option.some.inj H
            exact Wp.more (by simp [xMore, Value.category]) K65
          · rw [if_pos c63] at H
            refine wp_iconst 1 xi_232 dX12_asks_109 rfl ?_
            refine wp_iload xi_232 dX12_asks_110 rfl ?_
            refine wp_isub xi_232 dX12_asks_112 ?_
            refine wp_goto 120 xi_232 dX12_asks_113 rfl ?_
            obtain rfl := Option.some.inj H
            exact Wp.more (by simp [xMore, Value.category]) K65
        · rw [if_neg c53] at H
          refine wp_goto 184 xi_232 dX12_asks_82 rfl ?_
          simp only [Option.some.injEq, Prod.mk.injEq] at H
          obtain ⟨rfl, rfl, rfl⟩ := H
          exact Wp.more (by simp [xMore, Value.category]) K48
      · rw [if_pos c8] at H
        refine wp_goto 184 xi_232 dX12_asks_66 rfl ?_
        simp only [Option.some.injEq, Prod.mk.injEq] at H
        obtain ⟨rfl, rfl, rfl⟩ := H
        exact Wp.more (by simp [xMore, Value.category]) K48
def fb_232 (F232 : Nat → Int32 → Int32 → xH → Option (Int32 × xH)) (a : Nat) (p0 : Int32) (p1 : Int32) (h : xH) : Option (Int32 × xH) :=
  (pFr h a 12 40).bind fun x1 =>
  (pAi h x1 p0).bind fun x2 =>
  (if x2 < 0 then
  ((if p1 = 0 then
  some (0)
  else
  (if p1 = 1 then
  some (0)
  else
  some ((-1))) : Option (Int32))).bind fun (w6 : Int32) =>
  (f_232_37 F232 100000 a p0 p1 w6 (-1) 0 h).bind fun (w10, w11, h9) =>
  (pFr h9 a 12 40).bind fun x14 =>
  (pSi h9 x14 p0 (pMax 0 w10)).bind fun h15 =>
  (pFr h15 a 12 41).bind fun x16 =>
  (pSi h15 x16 p0 w11).bind fun h17 =>
  (pFr h17 a 12 40).bind fun x18 =>
  (pAi h17 x18 p0).bind fun x19 =>
  some (x19, h17)
  else
  (pFr h a 12 40).bind fun x21 =>
  (pAi h x21 p0).bind fun x22 =>
  some (x22, h))
set_option maxHeartbeats 4000000 in
theorem eb_232 (d : Nat) (Q : Option Value → xH → Prop) (F232 : Nat → Int32 → Int32 → xH → Option (Int32 × xH)) (hF232 : ∀ (Q : Option Value → xH → Prop) (b0 : Nat) (b1 : Int32) (b2 : Int32) (h : xH) (x : Int32) (h1 : xH), F232 b0 b1 b2 h = some (x, h1) → Q (some (.int x)) h1 → Wp (d + 3) 232 0 [some (.ref b0), some (.int b1), some (.int b2), none, none, none, none, none, none] [] h Q) {h : xH} {a : Nat} {p0 : Int32} {p1 : Int32} {x : Int32} {h1 : xH} (H : fb_232 F232 a p0 p1 h = some (x, h1)) (hq : Q (some (.int x)) h1) : Wp (d + 4) 232 0 [some (.ref a), some (.int p0), some (.int p1), none, none, none, none, none, none] [] h Q := by
  unfold fb_232 at H
  refine wp_aload_n xi_232 dX12_asks_0 rfl ?_
  obtain ⟨x1, gx1, H⟩ := Option.bind_eq_some_iff.mp H
  refine wq_getfr xi_232 dX12_asks_1 xf_12_91 gx1 ?_
  refine wp_iload_n xi_232 dX12_asks_4 rfl ?_
  obtain ⟨x2, gx2, H⟩ := Option.bind_eq_some_iff.mp H
  refine wq_iaload xi_232 dX12_asks_5 gx2 ?_
  refine wp_if_lt 16 xi_232 dX12_asks_6 rfl (fun c3 => ?_) (fun c3 => ?_)
  · rw [if_pos c3] at H
    refine wp_iload_n xi_232 dX12_asks_16 rfl ?_
    obtain ⟨w6, G20, H⟩ := Option.bind_eq_some_iff.mp H
    have K7 : Wp (d + 4) 232 30 [some (.ref a), some (.int p0), some (.int p1), none, none, none, none, none, none] [.int w6] h Q := by
      refine wp_istore_n [some (.ref a), some (.int p0), some (.int p1), some (.int w6), none, none, none, none, none] xi_232 dX12_asks_30 rfl ?_
      refine wp_iconst (-1) xi_232 dX12_asks_31 rfl ?_
      refine wp_istore [some (.ref a), some (.int p0), some (.int p1), some (.int w6), some (.int (-1)), none, none, none, none] xi_232 dX12_asks_32 rfl ?_
      refine wp_iconst 0 xi_232 dX12_asks_34 rfl ?_
      refine wp_istore [some (.ref a), some (.int p0), some (.int p1), some (.int w6), some (.int (-1)), some (.int 0), none, none, none] xi_232 dX12_asks_35 rfl ?_
      obtain ⟨⟨w10, w11, h9⟩, G12, H⟩ := Option.bind_eq_some_iff.mp H
      dsimp only at H
      refine Wp.more (by simp [xMore, Value.category]) (ef_232_37 d Q F232 hF232 100000 a p0 p1 w6 (-1) 0 h _ G12 (fun z0 z1 z2 e9 => ?_))
      cases e9
      refine wp_aload_n xi_232 dX12_asks_190 rfl ?_
      obtain ⟨x14, gx14, H⟩ := Option.bind_eq_some_iff.mp H
      refine wq_getfr xi_232 dX12_asks_191 xf_12_91 gx14 ?_
      refine wp_iload_n xi_232 dX12_asks_194 rfl ?_
      refine wp_iconst 0 xi_232 dX12_asks_195 rfl ?_
      refine wp_iload_n xi_232 dX12_asks_196 rfl ?_
      refine wq_max xi_232 dX12_asks_197 xm_12_224 (Nat.le_of_ble_eq_true rfl) ?_
      obtain ⟨h15, gh15, H⟩ := Option.bind_eq_some_iff.mp H
      refine wq_iastore xi_232 dX12_asks_200 gh15 ?_
      refine wp_aload_n xi_232 dX12_asks_201 rfl ?_
      obtain ⟨x16, gx16, H⟩ := Option.bind_eq_some_iff.mp H
      refine wq_getfr xi_232 dX12_asks_202 xf_12_94 gx16 ?_
      refine wp_iload_n xi_232 dX12_asks_205 rfl ?_
      refine wp_iload xi_232 dX12_asks_206 rfl ?_
      obtain ⟨h17, gh17, H⟩ := Option.bind_eq_some_iff.mp H
      refine wq_iastore xi_232 dX12_asks_208 gh17 ?_
      refine wp_aload_n xi_232 dX12_asks_209 rfl ?_
      obtain ⟨x18, gx18, H⟩ := Option.bind_eq_some_iff.mp H
      refine wq_getfr xi_232 dX12_asks_210 xf_12_91 gx18 ?_
      refine wp_iload_n xi_232 dX12_asks_213 rfl ?_
      obtain ⟨x19, gx19, H⟩ := Option.bind_eq_some_iff.mp H
      refine wq_iaload xi_232 dX12_asks_214 gx19 ?_
      obtain ⟨rfl, rfl⟩ := oi2 H
      exact wp_iret xi_232 dX12_asks_215 hq
    clear H
    have H := G20
    clear G20
    refine wp_if_eq 25 xi_232 dX12_asks_17 rfl (fun c4 => ?_) (fun c4 => ?_)
    · rw [if_pos c4] at H
      refine wp_iconst 0 xi_232 dX12_asks_25 rfl ?_
      refine wp_goto 30 xi_232 dX12_asks_26 rfl ?_
      obtain rfl := Option.some.inj H
      exact Wp.more (by simp [xMore, Value.category]) K7
    · rw [if_neg c4] at H
      refine wp_iload_n xi_232 dX12_asks_20 rfl ?_
      refine wp_iconst 1 xi_232 dX12_asks_21 rfl ?_
      refine wp_icmp_ne 29 xi_232 dX12_asks_22 rfl (fun c8 => ?_) (fun c8 => ?_)
      · rw [if_neg c8] at H
        refine wp_iconst (-1) xi_232 dX12_asks_29 rfl ?_
        obtain rfl := Option.some.inj H
        exact Wp.more (by simp [xMore, Value.category]) K7
      · rw [if_pos c8] at H
        refine wp_iconst 0 xi_232 dX12_asks_25 rfl ?_
        refine wp_goto 30 xi_232 dX12_asks_26 rfl ?_
        obtain rfl := Option.some.inj H
        exact Wp.more (by simp [xMore, Value.category]) K7
  · rw [if_neg c3] at H
    refine wp_aload_n xi_232 dX12_asks_9 rfl ?_
    obtain ⟨x21, gx21, H⟩ := Option.bind_eq_some_iff.mp H
    refine wq_getfr xi_232 dX12_asks_10 xf_12_91 gx21 ?_
    refine wp_iload_n xi_232 dX12_asks_13 rfl ?_
    obtain ⟨x22, gx22, H⟩ := Option.bind_eq_some_iff.mp H
    refine wq_iaload xi_232 dX12_asks_14 gx22 ?_
    obtain ⟨rfl, rfl⟩ := oi2 H
    exact wp_iret xi_232 dX12_asks_15 hq
def fr_232 : Nat → Nat → Int32 → Int32 → xH → Option (Int32 × xH)
  | 0, _, _, _, _ => none
  | n + 1, b0, b1, b2, h => fb_232 (fr_232 n) b0 b1 b2 h
theorem efr_232 : ∀ (n d : Nat) (Q : Option Value → xH → Prop) (b0 : Nat) (b1 : Int32) (b2 : Int32) (h : xH) (x : Int32) (h1 : xH), fr_232 n b0 b1 b2 h = some (x, h1) → Q (some (.int x)) h1 → Wp (d + n + 4) 232 0 [some (.ref b0), some (.int b1), some (.int b2), none, none, none, none, none, none] [] h Q := by
  intro n
  induction n with
  | zero =>
    intro d Q b0 b1 b2 h x h1 H
    cases H
  | succ n ih =>
    intro d Q b0 b1 b2 h x h1 H hq
    exact eb_232 (d + n + 1) Q (fr_232 n) (fun Q b0 b1 b2 h x h1 H hq => ih d Q b0 b1 b2 h x h1 H hq) H hq
def f_232 (b0 : Nat) (b1 : Int32) (b2 : Int32) (h : xH) : Option (Int32 × xH) := fr_232 60 b0 b1 b2 h
theorem e_232 (d : Nat) (Q : Option Value → xH → Prop) {h : xH} {b0 : Nat} {b1 : Int32} {b2 : Int32} {x : Int32} {h1 : xH} (H : f_232 b0 b1 b2 h = some (x, h1)) (hq : Q (some (.int x)) h1) : Wp (d + 64) 232 0 [some (.ref b0), some (.int b1), some (.int b2), none, none, none, none, none, none] [] h Q := efr_232 60 d Q b0 b1 b2 h x h1 H hq
/- FelledHasLost$Games.<init>(LFelledHasLost$Chooser;)V -/
def f_17  (a : Nat) (p0 : Nat) (h : xH) : Option (xH) :=
  (pNw h 10).bind fun (x1, h2) =>
  (pG (pIs h2 x1 10)).bind fun _ =>
  (f_84 x1 h2).bind fun h4 =>
  (pP h4 a 2 1 (.ref x1)).bind fun h5 =>
  (pNl h5 1200).bind fun (x6, h7) =>
  (pP h7 a 2 2 (.ref x6)).bind fun h8 =>
  (pNl h8 3).bind fun (x9, h10) =>
  (pP h10 a 2 3 (.ref x9)).bind fun h11 =>
  (pNi h11 1024).bind fun (x12, h13) =>
  (pP h13 a 2 4 (.ref x12)).bind fun h14 =>
  (pNi h14 400).bind fun (x15, h16) =>
  (pP h16 a 2 5 (.ref x15)).bind fun h17 =>
  (pNi h17 400).bind fun (x18, h19) =>
  (pP h19 a 2 6 (.ref x18)).bind fun h20 =>
  (pNi h20 400).bind fun (x21, h22) =>
  (pP h22 a 2 7 (.ref x21)).bind fun h23 =>
  (pNi h23 400).bind fun (x24, h25) =>
  (pP h25 a 2 8 (.ref x24)).bind fun h26 =>
  (pNi h26 400).bind fun (x27, h28) =>
  (pP h28 a 2 9 (.ref x27)).bind fun h29 =>
  (pNi h29 401).bind fun (x30, h31) =>
  (pP h31 a 2 10 (.ref x30)).bind fun h32 =>
  (pNi h32 (50400)).bind fun (x33, h34) =>
  (pP h34 a 2 11 (.ref x33)).bind fun h35 =>
  (pNi h35 48).bind fun (x36, h37) =>
  (pP h37 a 2 12 (.ref x36)).bind fun h38 =>
  (pP h38 a 2 0 (.ref p0)).bind fun h39 =>
  some h39
set_option maxHeartbeats 4000000 in
theorem e_17 (d : Nat) (Q : Option Value → xH → Prop)  {h : xH} {a : Nat} {p0 : Nat} {h1 : xH} (H : f_17  a p0 h = some h1) (hq : Q none h1) : Wp (d + 2) 17 0 [some (.ref a), some (.ref p0)] [] h Q := by
  unfold f_17 at H
  refine wp_aload_n xi_17 dX2_init_0 rfl ?_
  refine wq_objI xi_17 dX2_init_1 xm_2_3 (Nat.le_of_ble_eq_true rfl) ?_
  refine wp_aload_n xi_17 dX2_init_4 rfl ?_
  obtain ⟨⟨x1, h2⟩, gx1, H⟩ := Option.bind_eq_some_iff.mp H
  dsimp only at H
  refine wq_new xi_17 dX2_init_5 xn_2_9 (by decide) gx1 ?_
  refine wp_dup xi_17 dX2_init_8 rfl ?_
  obtain ⟨u3, gu3, H⟩ := Option.bind_eq_some_iff.mp H
  obtain ⟨h4, gh4, H⟩ := Option.bind_eq_some_iff.mp H
  refine wq_callI (a := x1) (as := []) (r := [.ref x1, .ref a]) (v1 := none) xi_17 xi_84 dX2_init_9 xm_2_11 (Or.inl rfl) rfl (Nat.le_of_ble_eq_true rfl) (pG_ok gu3) ⟨(Nat.le_of_ble_eq_true rfl), (Nat.le_of_ble_eq_true rfl)⟩ rfl nofun (e_84 d _ gh4 ⟨rfl, rfl⟩) ?_
  change Wp _ _ _ _ [.ref x1, .ref a] _ _
  obtain ⟨h5, gh5, H⟩ := Option.bind_eq_some_iff.mp H
  refine wq_putf xi_17 dX2_init_12 xf_2_12 (Or.inr ⟨rfl, rfl, rfl⟩) gh5 ?_
  refine wp_aload_n xi_17 dX2_init_15 rfl ?_
  refine wp_sipush 1200 xi_17 dX2_init_16 rfl ?_
  obtain ⟨⟨x6, h7⟩, gx6, H⟩ := Option.bind_eq_some_iff.mp H
  dsimp only at H
  refine wq_newl xi_17 dX2_init_19 gx6 ?_
  obtain ⟨h8, gh8, H⟩ := Option.bind_eq_some_iff.mp H
  refine wq_putf xi_17 dX2_init_21 xf_2_18 (Or.inr ⟨rfl, rfl, rfl⟩) gh8 ?_
  refine wp_aload_n xi_17 dX2_init_24 rfl ?_
  refine wp_iconst 3 xi_17 dX2_init_25 rfl ?_
  obtain ⟨⟨x9, h10⟩, gx9, H⟩ := Option.bind_eq_some_iff.mp H
  dsimp only at H
  refine wq_newl xi_17 dX2_init_26 gx9 ?_
  obtain ⟨h11, gh11, H⟩ := Option.bind_eq_some_iff.mp H
  refine wq_putf xi_17 dX2_init_28 xf_2_22 (Or.inr ⟨rfl, rfl, rfl⟩) gh11 ?_
  refine wp_aload_n xi_17 dX2_init_31 rfl ?_
  refine wp_sipush 1024 xi_17 dX2_init_32 rfl ?_
  obtain ⟨⟨x12, h13⟩, gx12, H⟩ := Option.bind_eq_some_iff.mp H
  dsimp only at H
  refine wq_newi xi_17 dX2_init_35 gx12 ?_
  obtain ⟨h14, gh14, H⟩ := Option.bind_eq_some_iff.mp H
  refine wq_putf xi_17 dX2_init_37 xf_2_25 (Or.inr ⟨rfl, rfl, rfl⟩) gh14 ?_
  refine wp_aload_n xi_17 dX2_init_40 rfl ?_
  refine wp_sipush 400 xi_17 dX2_init_41 rfl ?_
  obtain ⟨⟨x15, h16⟩, gx15, H⟩ := Option.bind_eq_some_iff.mp H
  dsimp only at H
  refine wq_newi xi_17 dX2_init_44 gx15 ?_
  obtain ⟨h17, gh17, H⟩ := Option.bind_eq_some_iff.mp H
  refine wq_putf xi_17 dX2_init_46 xf_2_29 (Or.inr ⟨rfl, rfl, rfl⟩) gh17 ?_
  refine wp_aload_n xi_17 dX2_init_49 rfl ?_
  refine wp_sipush 400 xi_17 dX2_init_50 rfl ?_
  obtain ⟨⟨x18, h19⟩, gx18, H⟩ := Option.bind_eq_some_iff.mp H
  dsimp only at H
  refine wq_newi xi_17 dX2_init_53 gx18 ?_
  obtain ⟨h20, gh20, H⟩ := Option.bind_eq_some_iff.mp H
  refine wq_putf xi_17 dX2_init_55 xf_2_32 (Or.inr ⟨rfl, rfl, rfl⟩) gh20 ?_
  refine wp_aload_n xi_17 dX2_init_58 rfl ?_
  refine wp_sipush 400 xi_17 dX2_init_59 rfl ?_
  obtain ⟨⟨x21, h22⟩, gx21, H⟩ := Option.bind_eq_some_iff.mp H
  dsimp only at H
  refine wq_newi xi_17 dX2_init_62 gx21 ?_
  obtain ⟨h23, gh23, H⟩ := Option.bind_eq_some_iff.mp H
  refine wq_putf xi_17 dX2_init_64 xf_2_35 (Or.inr ⟨rfl, rfl, rfl⟩) gh23 ?_
  refine wp_aload_n xi_17 dX2_init_67 rfl ?_
  refine wp_sipush 400 xi_17 dX2_init_68 rfl ?_
  obtain ⟨⟨x24, h25⟩, gx24, H⟩ := Option.bind_eq_some_iff.mp H
  dsimp only at H
  refine wq_newi xi_17 dX2_init_71 gx24 ?_
  obtain ⟨h26, gh26, H⟩ := Option.bind_eq_some_iff.mp H
  refine wq_putf xi_17 dX2_init_73 xf_2_38 (Or.inr ⟨rfl, rfl, rfl⟩) gh26 ?_
  refine wp_aload_n xi_17 dX2_init_76 rfl ?_
  refine wp_sipush 400 xi_17 dX2_init_77 rfl ?_
  obtain ⟨⟨x27, h28⟩, gx27, H⟩ := Option.bind_eq_some_iff.mp H
  dsimp only at H
  refine wq_newi xi_17 dX2_init_80 gx27 ?_
  obtain ⟨h29, gh29, H⟩ := Option.bind_eq_some_iff.mp H
  refine wq_putf xi_17 dX2_init_82 xf_2_41 (Or.inr ⟨rfl, rfl, rfl⟩) gh29 ?_
  refine wp_aload_n xi_17 dX2_init_85 rfl ?_
  refine wp_sipush 401 xi_17 dX2_init_86 rfl ?_
  obtain ⟨⟨x30, h31⟩, gx30, H⟩ := Option.bind_eq_some_iff.mp H
  dsimp only at H
  refine wq_newi xi_17 dX2_init_89 gx30 ?_
  obtain ⟨h32, gh32, H⟩ := Option.bind_eq_some_iff.mp H
  refine wq_putf xi_17 dX2_init_91 xf_2_44 (Or.inr ⟨rfl, rfl, rfl⟩) gh32 ?_
  refine wp_aload_n xi_17 dX2_init_94 rfl ?_
  refine wp_ldc xi_17 dX2_init_95 xc_2_47 ?_
  obtain ⟨⟨x33, h34⟩, gx33, H⟩ := Option.bind_eq_some_iff.mp H
  dsimp only at H
  refine wq_newi xi_17 dX2_init_97 gx33 ?_
  obtain ⟨h35, gh35, H⟩ := Option.bind_eq_some_iff.mp H
  refine wq_putf xi_17 dX2_init_99 xf_2_48 (Or.inr ⟨rfl, rfl, rfl⟩) gh35 ?_
  refine wp_aload_n xi_17 dX2_init_102 rfl ?_
  refine wp_bipush 48 xi_17 dX2_init_103 rfl ?_
  obtain ⟨⟨x36, h37⟩, gx36, H⟩ := Option.bind_eq_some_iff.mp H
  dsimp only at H
  refine wq_newi xi_17 dX2_init_105 gx36 ?_
  obtain ⟨h38, gh38, H⟩ := Option.bind_eq_some_iff.mp H
  refine wq_putf xi_17 dX2_init_107 xf_2_51 (Or.inr ⟨rfl, rfl, rfl⟩) gh38 ?_
  refine wp_aload_n xi_17 dX2_init_110 rfl ?_
  refine wp_aload_n xi_17 dX2_init_111 rfl ?_
  obtain ⟨h39, gh39, H⟩ := Option.bind_eq_some_iff.mp H
  refine wq_putf xi_17 dX2_init_112 xf_2_54 (Or.inr ⟨rfl, rfl, rfl⟩) gh39 ?_
  obtain rfl := Option.some.inj H
  exact wp_vret xi_17 dX2_init_115 hq
/- FelledHasLost$Rule.<init>()V -/
def f_52  (a : Nat) (h : xH) : Option (xH) :=
  (pNi h 40).bind fun (x1, h2) =>
  (pP h2 a 6 0 (.ref x1)).bind fun h3 =>
  (pNi h3 40).bind fun (x4, h5) =>
  (pP h5 a 6 1 (.ref x4)).bind fun h6 =>
  (pNi h6 40).bind fun (x7, h8) =>
  (pP h8 a 6 2 (.ref x7)).bind fun h9 =>
  (pNi h9 40).bind fun (x10, h11) =>
  (pP h11 a 6 3 (.ref x10)).bind fun h12 =>
  (pNb h12 5).bind fun (x13, h14) =>
  (pP h14 a 6 4 (.ref x13)).bind fun h15 =>
  (pG (pIs h15 a 6)).bind fun _ =>
  (f_56 a h15).bind fun h17 =>
  (pG (pIs h17 a 6)).bind fun _ =>
  (f_54 a h17).bind fun h19 =>
  some h19
set_option maxHeartbeats 4000000 in
theorem e_52 (d : Nat) (Q : Option Value → xH → Prop)  {h : xH} {a : Nat} {h1 : xH} (H : f_52  a h = some h1) (hq : Q none h1) : Wp (d + 2) 52 0 [some (.ref a)] [] h Q := by
  unfold f_52 at H
  refine wp_aload_n xi_52 dX6_init_0 rfl ?_
  refine wq_objI xi_52 dX6_init_1 xm_6_3 (Nat.le_of_ble_eq_true rfl) ?_
  refine wp_aload_n xi_52 dX6_init_4 rfl ?_
  refine wp_bipush 40 xi_52 dX6_init_5 rfl ?_
  obtain ⟨⟨x1, h2⟩, gx1, H⟩ := Option.bind_eq_some_iff.mp H
  dsimp only at H
  refine wq_newi xi_52 dX6_init_7 gx1 ?_
  obtain ⟨h3, gh3, H⟩ := Option.bind_eq_some_iff.mp H
  refine wq_putf xi_52 dX6_init_9 xf_6_11 (Or.inr ⟨rfl, rfl, rfl⟩) gh3 ?_
  refine wp_aload_n xi_52 dX6_init_12 rfl ?_
  refine wp_bipush 40 xi_52 dX6_init_13 rfl ?_
  obtain ⟨⟨x4, h5⟩, gx4, H⟩ := Option.bind_eq_some_iff.mp H
  dsimp only at H
  refine wq_newi xi_52 dX6_init_15 gx4 ?_
  obtain ⟨h6, gh6, H⟩ := Option.bind_eq_some_iff.mp H
  refine wq_putf xi_52 dX6_init_17 xf_6_15 (Or.inr ⟨rfl, rfl, rfl⟩) gh6 ?_
  refine wp_aload_n xi_52 dX6_init_20 rfl ?_
  refine wp_bipush 40 xi_52 dX6_init_21 rfl ?_
  obtain ⟨⟨x7, h8⟩, gx7, H⟩ := Option.bind_eq_some_iff.mp H
  dsimp only at H
  refine wq_newi xi_52 dX6_init_23 gx7 ?_
  obtain ⟨h9, gh9, H⟩ := Option.bind_eq_some_iff.mp H
  refine wq_putf xi_52 dX6_init_25 xf_6_18 (Or.inr ⟨rfl, rfl, rfl⟩) gh9 ?_
  refine wp_aload_n xi_52 dX6_init_28 rfl ?_
  refine wp_bipush 40 xi_52 dX6_init_29 rfl ?_
  obtain ⟨⟨x10, h11⟩, gx10, H⟩ := Option.bind_eq_some_iff.mp H
  dsimp only at H
  refine wq_newi xi_52 dX6_init_31 gx10 ?_
  obtain ⟨h12, gh12, H⟩ := Option.bind_eq_some_iff.mp H
  refine wq_putf xi_52 dX6_init_33 xf_6_21 (Or.inr ⟨rfl, rfl, rfl⟩) gh12 ?_
  refine wp_aload_n xi_52 dX6_init_36 rfl ?_
  refine wp_iconst 5 xi_52 dX6_init_37 rfl ?_
  obtain ⟨⟨x13, h14⟩, gx13, H⟩ := Option.bind_eq_some_iff.mp H
  dsimp only at H
  refine wq_newb xi_52 dX6_init_38 gx13 ?_
  obtain ⟨h15, gh15, H⟩ := Option.bind_eq_some_iff.mp H
  refine wq_putf xi_52 dX6_init_40 xf_6_24 (Or.inr ⟨rfl, rfl, rfl⟩) gh15 ?_
  refine wp_aload_n xi_52 dX6_init_43 rfl ?_
  obtain ⟨u16, gu16, H⟩ := Option.bind_eq_some_iff.mp H
  obtain ⟨h17, gh17, H⟩ := Option.bind_eq_some_iff.mp H
  refine wq_callV (a := a) (as := []) (r := []) (v1 := none) xi_52 xi_56 dX6_init_44 xm_6_28 rfl (Nat.le_of_ble_eq_true rfl) (pG_ok gu16) ⟨(Nat.le_of_ble_eq_true rfl), (Nat.le_of_ble_eq_true rfl)⟩ rfl nofun (e_56 d _ gh17 ⟨rfl, rfl⟩) ?_
  change Wp _ _ _ _ [] _ _
  refine wp_aload_n xi_52 dX6_init_47 rfl ?_
  obtain ⟨u18, gu18, H⟩ := Option.bind_eq_some_iff.mp H
  obtain ⟨h19, gh19, H⟩ := Option.bind_eq_some_iff.mp H
  refine wq_callV (a := a) (as := []) (r := []) (v1 := none) xi_52 xi_54 dX6_init_48 xm_6_31 rfl (Nat.le_of_ble_eq_true rfl) (pG_ok gu18) ⟨(Nat.le_of_ble_eq_true rfl), (Nat.le_of_ble_eq_true rfl)⟩ rfl nofun (e_54 (d + 1) _ gh19 ⟨rfl, rfl⟩) ?_
  change Wp _ _ _ _ [] _ _
  obtain rfl := Option.some.inj H
  exact wp_vret xi_52 dX6_init_51 hq
/- FelledHasLost$State.<init>()V -/
def f_67  (a : Nat) (h : xH) : Option (xH) :=
  (pNw h 10).bind fun (x1, h2) =>
  (pG (pIs h2 x1 10)).bind fun _ =>
  (f_84 x1 h2).bind fun h4 =>
  (pP h4 a 7 0 (.ref x1)).bind fun h5 =>
  (pP h5 a 7 2 (.int (-1))).bind fun h6 =>
  (pP h6 a 7 3 (.int 0)).bind fun h7 =>
  some h7
set_option maxHeartbeats 4000000 in
theorem e_67 (d : Nat) (Q : Option Value → xH → Prop)  {h : xH} {a : Nat} {h1 : xH} (H : f_67  a h = some h1) (hq : Q none h1) : Wp (d + 2) 67 0 [some (.ref a)] [] h Q := by
  unfold f_67 at H
  refine wp_aload_n xi_67 dX7_init_0 rfl ?_
  refine wq_objI xi_67 dX7_init_1 xm_7_3 (Nat.le_of_ble_eq_true rfl) ?_
  refine wp_aload_n xi_67 dX7_init_4 rfl ?_
  obtain ⟨⟨x1, h2⟩, gx1, H⟩ := Option.bind_eq_some_iff.mp H
  dsimp only at H
  refine wq_new xi_67 dX7_init_5 xn_7_9 (by decide) gx1 ?_
  refine wp_dup xi_67 dX7_init_8 rfl ?_
  obtain ⟨u3, gu3, H⟩ := Option.bind_eq_some_iff.mp H
  obtain ⟨h4, gh4, H⟩ := Option.bind_eq_some_iff.mp H
  refine wq_callI (a := x1) (as := []) (r := [.ref x1, .ref a]) (v1 := none) xi_67 xi_84 dX7_init_9 xm_7_11 (Or.inl rfl) rfl (Nat.le_of_ble_eq_true rfl) (pG_ok gu3) ⟨(Nat.le_of_ble_eq_true rfl), (Nat.le_of_ble_eq_true rfl)⟩ rfl nofun (e_84 d _ gh4 ⟨rfl, rfl⟩) ?_
  change Wp _ _ _ _ [.ref x1, .ref a] _ _
  obtain ⟨h5, gh5, H⟩ := Option.bind_eq_some_iff.mp H
  refine wq_putf xi_67 dX7_init_12 xf_7_12 (Or.inr ⟨rfl, rfl, rfl⟩) gh5 ?_
  refine wp_aload_n xi_67 dX7_init_15 rfl ?_
  refine wp_iconst (-1) xi_67 dX7_init_16 rfl ?_
  obtain ⟨h6, gh6, H⟩ := Option.bind_eq_some_iff.mp H
  refine wq_putf xi_67 dX7_init_17 xf_7_18 (Or.inl rfl) gh6 ?_
  refine wp_aload_n xi_67 dX7_init_20 rfl ?_
  refine wp_iconst 0 xi_67 dX7_init_21 rfl ?_
  obtain ⟨h7, gh7, H⟩ := Option.bind_eq_some_iff.mp H
  refine wq_putf xi_67 dX7_init_22 xf_7_22 (Or.inl rfl) gh7 ?_
  obtain rfl := Option.some.inj H
  exact wp_vret xi_67 dX7_init_25 hq
/- FelledHasLost$Touches.<init>()V -/
def f_78  (a : Nat) (h : xH) : Option (xH) :=
  (pNi h 20).bind fun (x1, h2) =>
  (pP h2 a 9 0 (.ref x1)).bind fun h3 =>
  (pNb h3 20).bind fun (x4, h5) =>
  (pP h5 a 9 1 (.ref x4)).bind fun h6 =>
  (pNi h6 48).bind fun (x7, h8) =>
  (pP h8 a 9 2 (.ref x7)).bind fun h9 =>
  (pNi h9 48).bind fun (x10, h11) =>
  (pP h11 a 9 3 (.ref x10)).bind fun h12 =>
  (pNi h12 3).bind fun (x13, h14) =>
  (pP h14 a 9 4 (.ref x13)).bind fun h15 =>
  (pNi h15 3).bind fun (x16, h17) =>
  (pP h17 a 9 5 (.ref x16)).bind fun h18 =>
  (pNi h18 3).bind fun (x19, h20) =>
  (pP h20 a 9 6 (.ref x19)).bind fun h21 =>
  (pNi h21 3).bind fun (x22, h23) =>
  (pP h23 a 9 7 (.ref x22)).bind fun h24 =>
  (pNi h24 3).bind fun (x25, h26) =>
  (pP h26 a 9 8 (.ref x25)).bind fun h27 =>
  (pNi h27 3).bind fun (x28, h29) =>
  (pP h29 a 9 9 (.ref x28)).bind fun h30 =>
  (pG (pIs h30 a 9)).bind fun _ =>
  (f_79 a h30).bind fun h32 =>
  some h32
set_option maxHeartbeats 4000000 in
theorem e_78 (d : Nat) (Q : Option Value → xH → Prop)  {h : xH} {a : Nat} {h1 : xH} (H : f_78  a h = some h1) (hq : Q none h1) : Wp (d + 2) 78 0 [some (.ref a)] [] h Q := by
  unfold f_78 at H
  refine wp_aload_n xi_78 dX9_init_0 rfl ?_
  refine wq_objI xi_78 dX9_init_1 xm_9_3 (Nat.le_of_ble_eq_true rfl) ?_
  refine wp_aload_n xi_78 dX9_init_4 rfl ?_
  refine wp_bipush 20 xi_78 dX9_init_5 rfl ?_
  obtain ⟨⟨x1, h2⟩, gx1, H⟩ := Option.bind_eq_some_iff.mp H
  dsimp only at H
  refine wq_newi xi_78 dX9_init_7 gx1 ?_
  obtain ⟨h3, gh3, H⟩ := Option.bind_eq_some_iff.mp H
  refine wq_putf xi_78 dX9_init_9 xf_9_11 (Or.inr ⟨rfl, rfl, rfl⟩) gh3 ?_
  refine wp_aload_n xi_78 dX9_init_12 rfl ?_
  refine wp_bipush 20 xi_78 dX9_init_13 rfl ?_
  obtain ⟨⟨x4, h5⟩, gx4, H⟩ := Option.bind_eq_some_iff.mp H
  dsimp only at H
  refine wq_newb xi_78 dX9_init_15 gx4 ?_
  obtain ⟨h6, gh6, H⟩ := Option.bind_eq_some_iff.mp H
  refine wq_putf xi_78 dX9_init_17 xf_9_15 (Or.inr ⟨rfl, rfl, rfl⟩) gh6 ?_
  refine wp_aload_n xi_78 dX9_init_20 rfl ?_
  refine wp_bipush 48 xi_78 dX9_init_21 rfl ?_
  obtain ⟨⟨x7, h8⟩, gx7, H⟩ := Option.bind_eq_some_iff.mp H
  dsimp only at H
  refine wq_newi xi_78 dX9_init_23 gx7 ?_
  obtain ⟨h9, gh9, H⟩ := Option.bind_eq_some_iff.mp H
  refine wq_putf xi_78 dX9_init_25 xf_9_19 (Or.inr ⟨rfl, rfl, rfl⟩) gh9 ?_
  refine wp_aload_n xi_78 dX9_init_28 rfl ?_
  refine wp_bipush 48 xi_78 dX9_init_29 rfl ?_
  obtain ⟨⟨x10, h11⟩, gx10, H⟩ := Option.bind_eq_some_iff.mp H
  dsimp only at H
  refine wq_newi xi_78 dX9_init_31 gx10 ?_
  obtain ⟨h12, gh12, H⟩ := Option.bind_eq_some_iff.mp H
  refine wq_putf xi_78 dX9_init_33 xf_9_22 (Or.inr ⟨rfl, rfl, rfl⟩) gh12 ?_
  refine wp_aload_n xi_78 dX9_init_36 rfl ?_
  refine wp_iconst 3 xi_78 dX9_init_37 rfl ?_
  obtain ⟨⟨x13, h14⟩, gx13, H⟩ := Option.bind_eq_some_iff.mp H
  dsimp only at H
  refine wq_newi xi_78 dX9_init_38 gx13 ?_
  obtain ⟨h15, gh15, H⟩ := Option.bind_eq_some_iff.mp H
  refine wq_putf xi_78 dX9_init_40 xf_9_25 (Or.inr ⟨rfl, rfl, rfl⟩) gh15 ?_
  refine wp_aload_n xi_78 dX9_init_43 rfl ?_
  refine wp_iconst 3 xi_78 dX9_init_44 rfl ?_
  obtain ⟨⟨x16, h17⟩, gx16, H⟩ := Option.bind_eq_some_iff.mp H
  dsimp only at H
  refine wq_newi xi_78 dX9_init_45 gx16 ?_
  obtain ⟨h18, gh18, H⟩ := Option.bind_eq_some_iff.mp H
  refine wq_putf xi_78 dX9_init_47 xf_9_28 (Or.inr ⟨rfl, rfl, rfl⟩) gh18 ?_
  refine wp_aload_n xi_78 dX9_init_50 rfl ?_
  refine wp_iconst 3 xi_78 dX9_init_51 rfl ?_
  obtain ⟨⟨x19, h20⟩, gx19, H⟩ := Option.bind_eq_some_iff.mp H
  dsimp only at H
  refine wq_newi xi_78 dX9_init_52 gx19 ?_
  obtain ⟨h21, gh21, H⟩ := Option.bind_eq_some_iff.mp H
  refine wq_putf xi_78 dX9_init_54 xf_9_31 (Or.inr ⟨rfl, rfl, rfl⟩) gh21 ?_
  refine wp_aload_n xi_78 dX9_init_57 rfl ?_
  refine wp_iconst 3 xi_78 dX9_init_58 rfl ?_
  obtain ⟨⟨x22, h23⟩, gx22, H⟩ := Option.bind_eq_some_iff.mp H
  dsimp only at H
  refine wq_newi xi_78 dX9_init_59 gx22 ?_
  obtain ⟨h24, gh24, H⟩ := Option.bind_eq_some_iff.mp H
  refine wq_putf xi_78 dX9_init_61 xf_9_34 (Or.inr ⟨rfl, rfl, rfl⟩) gh24 ?_
  refine wp_aload_n xi_78 dX9_init_64 rfl ?_
  refine wp_iconst 3 xi_78 dX9_init_65 rfl ?_
  obtain ⟨⟨x25, h26⟩, gx25, H⟩ := Option.bind_eq_some_iff.mp H
  dsimp only at H
  refine wq_newi xi_78 dX9_init_66 gx25 ?_
  obtain ⟨h27, gh27, H⟩ := Option.bind_eq_some_iff.mp H
  refine wq_putf xi_78 dX9_init_68 xf_9_37 (Or.inr ⟨rfl, rfl, rfl⟩) gh27 ?_
  refine wp_aload_n xi_78 dX9_init_71 rfl ?_
  refine wp_iconst 3 xi_78 dX9_init_72 rfl ?_
  obtain ⟨⟨x28, h29⟩, gx28, H⟩ := Option.bind_eq_some_iff.mp H
  dsimp only at H
  refine wq_newi xi_78 dX9_init_73 gx28 ?_
  obtain ⟨h30, gh30, H⟩ := Option.bind_eq_some_iff.mp H
  refine wq_putf xi_78 dX9_init_75 xf_9_40 (Or.inr ⟨rfl, rfl, rfl⟩) gh30 ?_
  refine wp_aload_n xi_78 dX9_init_78 rfl ?_
  obtain ⟨u31, gu31, H⟩ := Option.bind_eq_some_iff.mp H
  obtain ⟨h32, gh32, H⟩ := Option.bind_eq_some_iff.mp H
  refine wq_callV (a := a) (as := []) (r := []) (v1 := none) xi_78 xi_79 dX9_init_79 xm_9_43 rfl (Nat.le_of_ble_eq_true rfl) (pG_ok gu31) ⟨(Nat.le_of_ble_eq_true rfl), (Nat.le_of_ble_eq_true rfl)⟩ rfl nofun (e_79 d _ gh32 ⟨rfl, rfl⟩) ?_
  change Wp _ _ _ _ [] _ _
  obtain rfl := Option.some.inj H
  exact wp_vret xi_78 dX9_init_82 hq
/- FelledHasLostModel.values(I)V -/
def f_231_2  : Nat → Nat → Int32 → Int32 → xH → Option (xH)
  | 0, _, _, _, _ => none
  | n + 1, a0, a1, a2, h =>
  (pFi h a0 12 37).bind fun x1 =>
  (if x1 ≤ a2 then
  some (h)
  else
  (pFr h a0 12 40).bind fun x3 =>
  (pSi h x3 a2 (-1)).bind fun h4 =>
  f_231_2 n a0 a1 (a2 + 1) h4)
theorem ef_231_2 (d : Nat) (Q : Option Value → xH → Prop)  : ∀ (n : Nat) (a0 : Nat) (a1 : Int32) (a2 : Int32) (h : xH) (r : xH), f_231_2 n a0 a1 a2 h = some r → (∀  (h1 : xH), r = h1 → Wp (d + 65) 231 23 [some (.ref a0), some (.int a1), none] [] h1 Q) → Wp (d + 65) 231 2 [some (.ref a0), some (.int a1), some (.int a2)] [] h Q := by
  intro n
  induction n with
  | zero =>
    intro a0 a1 a2 h r H
    cases H
  | succ n ih =>
    intro a0 a1 a2 h r H KE
    unfold f_231_2 at H
    refine wp_iload_n xi_231 dX12_values_2 rfl ?_
    refine wp_aload_n xi_231 dX12_values_3 rfl ?_
    obtain ⟨x1, gx1, H⟩ := Option.bind_eq_some_iff.mp H
    refine wq_getfi xi_231 dX12_values_4 xf_12_357 gx1 ?_
    refine wp_icmp_ge 23 xi_231 dX12_values_7 rfl (fun c2 => ?_) (fun c2 => ?_)
    · rw [if_pos c2] at H
      obtain rfl := Option.some.inj H
      exact Wp.more (by simp [xMore, Value.category]) (KE  h rfl)
    · rw [if_neg c2] at H
      refine wp_aload_n xi_231 dX12_values_10 rfl ?_
      obtain ⟨x3, gx3, H⟩ := Option.bind_eq_some_iff.mp H
      refine wq_getfr xi_231 dX12_values_11 xf_12_91 gx3 ?_
      refine wp_iload_n xi_231 dX12_values_14 rfl ?_
      refine wp_iconst (-1) xi_231 dX12_values_15 rfl ?_
      obtain ⟨h4, gh4, H⟩ := Option.bind_eq_some_iff.mp H
      refine wq_iastore xi_231 dX12_values_16 gh4 ?_
      refine wp_iinc (a2 + 1) [some (.ref a0), some (.int a1), some (.int (a2 + 1))] xi_231 dX12_values_17 rfl rfl rfl ?_
      refine wp_goto 2 xi_231 dX12_values_20 rfl ?_
      exact Wp.more (by simp [xMore, Value.category]) (ih a0 a1 (a2 + 1) h4 _ H KE)
def f_231  (a : Nat) (p0 : Int32) (h : xH) : Option (xH) :=
  (f_231_2 100000 a p0 0 h).bind fun h1 =>
  (pG (pIs h1 a 12)).bind fun _ =>
  (f_232 a 0 p0 h1).bind fun (x6, h5) =>
  some h5
set_option maxHeartbeats 4000000 in
theorem e_231 (d : Nat) (Q : Option Value → xH → Prop)  {h : xH} {a : Nat} {p0 : Int32} {h1 : xH} (H : f_231  a p0 h = some h1) (hq : Q none h1) : Wp (d + 65) 231 0 [some (.ref a), some (.int p0), none] [] h Q := by
  unfold f_231 at H
  refine wp_iconst 0 xi_231 dX12_values_0 rfl ?_
  refine wp_istore_n [some (.ref a), some (.int p0), some (.int 0)] xi_231 dX12_values_1 rfl ?_
  obtain ⟨h1, G2, H⟩ := Option.bind_eq_some_iff.mp H
  refine Wp.more (by simp [xMore, Value.category]) (ef_231_2 d Q  100000 a p0 0 h _ G2 (fun z0 e9 => ?_))
  cases e9
  refine wp_aload_n xi_231 dX12_values_23 rfl ?_
  refine wp_iconst 0 xi_231 dX12_values_24 rfl ?_
  refine wp_iload_n xi_231 dX12_values_25 rfl ?_
  obtain ⟨u4, gu4, H⟩ := Option.bind_eq_some_iff.mp H
  obtain ⟨⟨x6, h5⟩, gh5, H⟩ := Option.bind_eq_some_iff.mp H
  dsimp only at H
  refine wq_callV (a := a) (as := [.int 0, .int p0]) (r := []) (v1 := (some (.int x6))) xi_231 xi_232 dX12_values_26 xm_12_378 rfl (Nat.le_of_ble_eq_true rfl) (pG_ok gu4) ⟨(Nat.le_of_ble_eq_true rfl), (Nat.le_of_ble_eq_true rfl)⟩ rfl nofun (e_232 d _ gh5 ⟨rfl, rfl⟩) ?_
  change Wp _ _ _ _ [.int x6] _ _
  refine wp_pop xi_231 dX12_values_29 rfl ?_
  obtain rfl := Option.some.inj H
  exact wp_vret xi_231 dX12_values_30 hq
/- FelledHasLostModel.wins()I -/
def f_233  (a : Nat) (h : xH) : Option (Int32 × xH) :=
  (pP h a 12 0 (.int 0)).bind fun h1 =>
  (pG (pIs h1 a 12)).bind fun _ =>
  (f_230 a h1).bind fun (x4, h3) =>
  (if x4 = 0 then
  some ((-3), h3)
  else
  (pG (pIs h3 a 12)).bind fun _ =>
  (f_231 a 0 h3).bind fun h7 =>
  (pP h7 a 12 1 (.int 0)).bind fun h8 =>
  (pFr h8 a 12 41).bind fun x9 =>
  (pAi h8 x9 0).bind fun x10 =>
  (pG (pIs h8 a 12)).bind fun _ =>
  (f_165 a ((x10 : Int32).toInt64) h8).bind fun h12 =>
  (pFr h12 a 12 40).bind fun x13 =>
  (pAi h12 x13 0).bind fun x14 =>
  some (x14, h12))
set_option maxHeartbeats 4000000 in
theorem e_233 (d : Nat) (Q : Option Value → xH → Prop)  {h : xH} {a : Nat} {x : Int32} {h1 : xH} (H : f_233  a h = some (x, h1)) (hq : Q (some (.int x)) h1) : Wp (d + 66) 233 0 [some (.ref a)] [] h Q := by
  unfold f_233 at H
  refine wp_aload_n xi_233 dX12_wins_0 rfl ?_
  refine wp_iconst 0 xi_233 dX12_wins_1 rfl ?_
  obtain ⟨h1, gh1, H⟩ := Option.bind_eq_some_iff.mp H
  refine wq_putf xi_233 dX12_wins_2 xf_12_3 (Or.inl rfl) gh1 ?_
  refine wp_aload_n xi_233 dX12_wins_5 rfl ?_
  obtain ⟨u2, gu2, H⟩ := Option.bind_eq_some_iff.mp H
  obtain ⟨⟨x4, h3⟩, gh3, H⟩ := Option.bind_eq_some_iff.mp H
  dsimp only at H
  refine wq_callV (a := a) (as := []) (r := []) (v1 := (some (.int x4))) xi_233 xi_230 dX12_wins_6 xm_12_381 rfl (Nat.le_of_ble_eq_true rfl) (pG_ok gu2) ⟨(Nat.le_of_ble_eq_true rfl), (Nat.le_of_ble_eq_true rfl)⟩ rfl nofun (e_230 (d + 60) _ gh3 ⟨rfl, rfl⟩) ?_
  change Wp _ _ _ _ [.int x4] _ _
  refine wp_if_ne 15 xi_233 dX12_wins_9 rfl (fun c5 => ?_) (fun c5 => ?_)
  · rw [if_neg c5] at H
    refine wp_aload_n xi_233 dX12_wins_15 rfl ?_
    refine wp_iconst 0 xi_233 dX12_wins_16 rfl ?_
    obtain ⟨u6, gu6, H⟩ := Option.bind_eq_some_iff.mp H
    obtain ⟨h7, gh7, H⟩ := Option.bind_eq_some_iff.mp H
    refine wq_callV (a := a) (as := [.int 0]) (r := []) (v1 := none) xi_233 xi_231 dX12_wins_17 xm_12_384 rfl (Nat.le_of_ble_eq_true rfl) (pG_ok gu6) ⟨(Nat.le_of_ble_eq_true rfl), (Nat.le_of_ble_eq_true rfl)⟩ rfl nofun (e_231 d _ gh7 ⟨rfl, rfl⟩) ?_
    change Wp _ _ _ _ [] _ _
    refine wp_aload_n xi_233 dX12_wins_20 rfl ?_
    refine wp_iconst 0 xi_233 dX12_wins_21 rfl ?_
    obtain ⟨h8, gh8, H⟩ := Option.bind_eq_some_iff.mp H
    refine wq_putf xi_233 dX12_wins_22 xf_12_15 (Or.inl rfl) gh8 ?_
    refine wp_aload_n xi_233 dX12_wins_25 rfl ?_
    refine wp_aload_n xi_233 dX12_wins_26 rfl ?_
    obtain ⟨x9, gx9, H⟩ := Option.bind_eq_some_iff.mp H
    refine wq_getfr xi_233 dX12_wins_27 xf_12_94 gx9 ?_
    refine wp_iconst 0 xi_233 dX12_wins_30 rfl ?_
    obtain ⟨x10, gx10, H⟩ := Option.bind_eq_some_iff.mp H
    refine wq_iaload xi_233 dX12_wins_31 gx10 ?_
    refine wp_i2l xi_233 dX12_wins_32 ?_
    obtain ⟨u11, gu11, H⟩ := Option.bind_eq_some_iff.mp H
    obtain ⟨h12, gh12, H⟩ := Option.bind_eq_some_iff.mp H
    refine wq_callV (a := a) (as := [.long ((x10 : Int32).toInt64)]) (r := []) (v1 := none) xi_233 xi_165 dX12_wins_33 xm_12_279 rfl (Nat.le_of_ble_eq_true rfl) (pG_ok gu11) ⟨(Nat.le_of_ble_eq_true rfl), (Nat.le_of_ble_eq_true rfl)⟩ rfl nofun (e_165 (d + 65) _ gh12 ⟨rfl, rfl⟩) ?_
    change Wp _ _ _ _ [] _ _
    refine wp_aload_n xi_233 dX12_wins_36 rfl ?_
    obtain ⟨x13, gx13, H⟩ := Option.bind_eq_some_iff.mp H
    refine wq_getfr xi_233 dX12_wins_37 xf_12_91 gx13 ?_
    refine wp_iconst 0 xi_233 dX12_wins_40 rfl ?_
    obtain ⟨x14, gx14, H⟩ := Option.bind_eq_some_iff.mp H
    refine wq_iaload xi_233 dX12_wins_41 gx14 ?_
    obtain ⟨rfl, rfl⟩ := oi2 H
    exact wp_iret xi_233 dX12_wins_42 hq
  · rw [if_pos c5] at H
    refine wp_bipush (-3) xi_233 dX12_wins_12 rfl ?_
    obtain ⟨rfl, rfl⟩ := oi2 H
    exact wp_iret xi_233 dX12_wins_14 hq
/- FelledHasLostModel.tellsLine(I)I -/
def f_234_29  : Nat → Nat → Int32 → Int32 → xH → Option (xH)
  | 0, _, _, _, _ => none
  | n + 1, a0, a2, a3, h =>
  (if a3 ≤ 0 then
  some (h)
  else
  (pFi h a0 12 1).bind fun x2 =>
  ((if (10 : Int32) ≤ x2 then
  some (h)
  else
  (pFr h a0 12 41).bind fun x10 =>
  (pAi h x10 a2).bind fun x11 =>
  (pG (pIs h a0 12)).bind fun _ =>
  (f_165 a0 ((x11 : Int32).toInt64) h).bind fun h13 =>
  some (h13) : Option (xH))).bind fun (h8 : xH) =>
  (pFr h8 a0 12 27).bind fun x14 =>
  (pG (pIs h8 a0 12)).bind fun _ =>
  (f_224 a0 a2 x14 h8).bind fun h16 =>
  (pFr h16 a0 12 27).bind fun x17 =>
  (pFr h16 a0 12 41).bind fun x18 =>
  (pAi h16 x18 a2).bind fun x19 =>
  (pG (pIs h16 a0 12)).bind fun _ =>
  (f_203 a0 x17 x19 h16).bind fun (x22, h21) =>
  (pFr h21 a0 12 36).bind fun x23 =>
  (pFr h21 a0 12 27).bind fun x24 =>
  (pG (pIs h21 a0 12)).bind fun _ =>
  (f_225 a0 x24 h21).bind fun (x27, h26) =>
  (pAi h26 x23 x27).bind fun x28 =>
  f_234_29 n a0 x28 (a3 + (-1)) h26)
theorem ef_234_29 (d : Nat) (Q : Option Value → xH → Prop)  : ∀ (n : Nat) (a0 : Nat) (a2 : Int32) (a3 : Int32) (h : xH) (r : xH), f_234_29 n a0 a2 a3 h = some r → (∀  (h1 : xH), r = h1 → Wp (d + 66) 234 97 [some (.ref a0), none, none, none] [] h1 Q) → Wp (d + 66) 234 29 [some (.ref a0), none, some (.int a2), some (.int a3)] [] h Q := by
  intro n
  induction n with
  | zero =>
    intro a0 a2 a3 h r H
    cases H
  | succ n ih =>
    intro a0 a2 a3 h r H KE
    unfold f_234_29 at H
    refine wp_iload_n xi_234 dX12_tellsLine_29 rfl ?_
    refine wp_if_le 97 xi_234 dX12_tellsLine_30 rfl (fun c1 => ?_) (fun c1 => ?_)
    · rw [if_pos c1] at H
      obtain rfl := Option.some.inj H
      exact Wp.more (by simp [xMore, Value.category]) (KE  h rfl)
    · rw [if_neg c1] at H
      refine wp_aload_n xi_234 dX12_tellsLine_33 rfl ?_
      obtain ⟨x2, gx2, H⟩ := Option.bind_eq_some_iff.mp H
      refine wq_getfi xi_234 dX12_tellsLine_34 xf_12_15 gx2 ?_
      refine wp_bipush 10 xi_234 dX12_tellsLine_37 rfl ?_
      obtain ⟨h8, G29, H⟩ := Option.bind_eq_some_iff.mp H
      have K9 : Wp (d + 66) 234 53 [some (.ref a0), none, some (.int a2), some (.int a3)] [] h8 Q := by
        refine wp_aload_n xi_234 dX12_tellsLine_53 rfl ?_
        refine wp_iload_n xi_234 dX12_tellsLine_54 rfl ?_
        refine wp_aload_n xi_234 dX12_tellsLine_55 rfl ?_
        obtain ⟨x14, gx14, H⟩ := Option.bind_eq_some_iff.mp H
        refine wq_getfr xi_234 dX12_tellsLine_56 xf_12_64 gx14 ?_
        obtain ⟨u15, gu15, H⟩ := Option.bind_eq_some_iff.mp H
        obtain ⟨h16, gh16, H⟩ := Option.bind_eq_some_iff.mp H
        refine wq_callV (a := a0) (as := [.int a2, .ref x14]) (r := []) (v1 := none) xi_234 xi_224 dX12_tellsLine_59 xm_12_368 rfl (Nat.le_of_ble_eq_true rfl) (pG_ok gu15) ⟨(Nat.le_of_ble_eq_true rfl), (Nat.le_of_ble_eq_true rfl)⟩ rfl nofun (e_224 (d + 65) _ gh16 ⟨rfl, rfl⟩) ?_
        change Wp _ _ _ _ [] _ _
        refine wp_aload_n xi_234 dX12_tellsLine_62 rfl ?_
        refine wp_aload_n xi_234 dX12_tellsLine_63 rfl ?_
        obtain ⟨x17, gx17, H⟩ := Option.bind_eq_some_iff.mp H
        refine wq_getfr xi_234 dX12_tellsLine_64 xf_12_64 gx17 ?_
        refine wp_aload_n xi_234 dX12_tellsLine_67 rfl ?_
        obtain ⟨x18, gx18, H⟩ := Option.bind_eq_some_iff.mp H
        refine wq_getfr xi_234 dX12_tellsLine_68 xf_12_94 gx18 ?_
        refine wp_iload_n xi_234 dX12_tellsLine_71 rfl ?_
        obtain ⟨x19, gx19, H⟩ := Option.bind_eq_some_iff.mp H
        refine wq_iaload xi_234 dX12_tellsLine_72 gx19 ?_
        obtain ⟨u20, gu20, H⟩ := Option.bind_eq_some_iff.mp H
        obtain ⟨⟨x22, h21⟩, gh21, H⟩ := Option.bind_eq_some_iff.mp H
        dsimp only at H
        refine wq_callV (a := a0) (as := [.ref x17, .int x19]) (r := []) (v1 := (some (.int x22))) xi_234 xi_203 dX12_tellsLine_73 xm_12_295 rfl (Nat.le_of_ble_eq_true rfl) (pG_ok gu20) ⟨(Nat.le_of_ble_eq_true rfl), (Nat.le_of_ble_eq_true rfl)⟩ rfl nofun (e_203 (d + 62) _ gh21 ⟨rfl, rfl⟩) ?_
        change Wp _ _ _ _ [.int x22] _ _
        refine wp_pop xi_234 dX12_tellsLine_76 rfl ?_
        refine wp_aload_n xi_234 dX12_tellsLine_77 rfl ?_
        obtain ⟨x23, gx23, H⟩ := Option.bind_eq_some_iff.mp H
        refine wq_getfr xi_234 dX12_tellsLine_78 xf_12_85 gx23 ?_
        refine wp_aload_n xi_234 dX12_tellsLine_81 rfl ?_
        refine wp_aload_n xi_234 dX12_tellsLine_82 rfl ?_
        obtain ⟨x24, gx24, H⟩ := Option.bind_eq_some_iff.mp H
        refine wq_getfr xi_234 dX12_tellsLine_83 xf_12_64 gx24 ?_
        obtain ⟨u25, gu25, H⟩ := Option.bind_eq_some_iff.mp H
        obtain ⟨⟨x27, h26⟩, gh26, H⟩ := Option.bind_eq_some_iff.mp H
        dsimp only at H
        refine wq_callV (a := a0) (as := [.ref x24]) (r := [.ref x23]) (v1 := (some (.int x27))) xi_234 xi_225 dX12_tellsLine_86 xm_12_354 rfl (Nat.le_of_ble_eq_true rfl) (pG_ok gu25) ⟨(Nat.le_of_ble_eq_true rfl), (Nat.le_of_ble_eq_true rfl)⟩ rfl nofun (e_225 (d + 64) _ gh26 ⟨rfl, rfl⟩) ?_
        change Wp _ _ _ _ [.int x27, .ref x23] _ _
        obtain ⟨x28, gx28, H⟩ := Option.bind_eq_some_iff.mp H
        refine wq_iaload xi_234 dX12_tellsLine_89 gx28 ?_
        refine wp_istore_n [some (.ref a0), none, some (.int x28), some (.int a3)] xi_234 dX12_tellsLine_90 rfl ?_
        refine wp_iinc (a3 + (-1)) [some (.ref a0), none, some (.int x28), some (.int (a3 + (-1)))] xi_234 dX12_tellsLine_91 rfl rfl rfl ?_
        refine wp_goto 29 xi_234 dX12_tellsLine_94 rfl ?_
        exact Wp.more (by simp [xMore, Value.category]) (ih a0 x28 (a3 + (-1)) h26 _ H KE)
      clear H
      have H := G29
      clear G29
      refine wp_icmp_ge 53 xi_234 dX12_tellsLine_39 rfl (fun c3 => ?_) (fun c3 => ?_)
      · rw [if_pos c3] at H
        obtain rfl := Option.some.inj H
        exact Wp.more (by simp [xMore, Value.category]) K9
      · rw [if_neg c3] at H
        refine wp_aload_n xi_234 dX12_tellsLine_42 rfl ?_
        refine wp_aload_n xi_234 dX12_tellsLine_43 rfl ?_
        obtain ⟨x10, gx10, H⟩ := Option.bind_eq_some_iff.mp H
        refine wq_getfr xi_234 dX12_tellsLine_44 xf_12_94 gx10 ?_
        refine wp_iload_n xi_234 dX12_tellsLine_47 rfl ?_
        obtain ⟨x11, gx11, H⟩ := Option.bind_eq_some_iff.mp H
        refine wq_iaload xi_234 dX12_tellsLine_48 gx11 ?_
        refine wp_i2l xi_234 dX12_tellsLine_49 ?_
        obtain ⟨u12, gu12, H⟩ := Option.bind_eq_some_iff.mp H
        obtain ⟨h13, gh13, H⟩ := Option.bind_eq_some_iff.mp H
        refine wq_callV (a := a0) (as := [.long ((x11 : Int32).toInt64)]) (r := []) (v1 := none) xi_234 xi_165 dX12_tellsLine_50 xm_12_279 rfl (Nat.le_of_ble_eq_true rfl) (pG_ok gu12) ⟨(Nat.le_of_ble_eq_true rfl), (Nat.le_of_ble_eq_true rfl)⟩ rfl nofun (e_165 (d + 65) _ gh13 ⟨rfl, rfl⟩) ?_
        change Wp _ _ _ _ [] _ _
        obtain rfl := Option.some.inj H
        exact Wp.more (by simp [xMore, Value.category]) K9
def f_234  (a : Nat) (p0 : Int32) (h : xH) : Option (Int32 × xH) :=
  (pG (pIs h a 12)).bind fun _ =>
  (f_230 a h).bind fun (x3, h2) =>
  (if x3 = 0 then
  some ((-3), h2)
  else
  (pG (pIs h2 a 12)).bind fun _ =>
  (f_231 a p0 h2).bind fun h6 =>
  (pP h6 a 12 1 (.int 0)).bind fun h7 =>
  (pFr h7 a 12 40).bind fun x8 =>
  (pAi h7 x8 0).bind fun x9 =>
  (f_234_29 100000 a 0 x9 h7).bind fun h10 =>
  (pFr h10 a 12 40).bind fun x13 =>
  (pAi h10 x13 0).bind fun x14 =>
  some (x14, h10))
set_option maxHeartbeats 4000000 in
theorem e_234 (d : Nat) (Q : Option Value → xH → Prop)  {h : xH} {a : Nat} {p0 : Int32} {x : Int32} {h1 : xH} (H : f_234  a p0 h = some (x, h1)) (hq : Q (some (.int x)) h1) : Wp (d + 66) 234 0 [some (.ref a), some (.int p0), none, none] [] h Q := by
  unfold f_234 at H
  refine wp_aload_n xi_234 dX12_tellsLine_0 rfl ?_
  obtain ⟨u1, gu1, H⟩ := Option.bind_eq_some_iff.mp H
  obtain ⟨⟨x3, h2⟩, gh2, H⟩ := Option.bind_eq_some_iff.mp H
  dsimp only at H
  refine wq_callV (a := a) (as := []) (r := []) (v1 := (some (.int x3))) xi_234 xi_230 dX12_tellsLine_1 xm_12_381 rfl (Nat.le_of_ble_eq_true rfl) (pG_ok gu1) ⟨(Nat.le_of_ble_eq_true rfl), (Nat.le_of_ble_eq_true rfl)⟩ rfl nofun (e_230 (d + 60) _ gh2 ⟨rfl, rfl⟩) ?_
  change Wp _ _ _ _ [.int x3] _ _
  refine wp_if_ne 10 xi_234 dX12_tellsLine_4 rfl (fun c4 => ?_) (fun c4 => ?_)
  · rw [if_neg c4] at H
    refine wp_aload_n xi_234 dX12_tellsLine_10 rfl ?_
    refine wp_iload_n xi_234 dX12_tellsLine_11 rfl ?_
    obtain ⟨u5, gu5, H⟩ := Option.bind_eq_some_iff.mp H
    obtain ⟨h6, gh6, H⟩ := Option.bind_eq_some_iff.mp H
    refine wq_callV (a := a) (as := [.int p0]) (r := []) (v1 := none) xi_234 xi_231 dX12_tellsLine_12 xm_12_384 rfl (Nat.le_of_ble_eq_true rfl) (pG_ok gu5) ⟨(Nat.le_of_ble_eq_true rfl), (Nat.le_of_ble_eq_true rfl)⟩ rfl nofun (e_231 d _ gh6 ⟨rfl, rfl⟩) ?_
    change Wp _ _ _ _ [] _ _
    refine wp_aload_n xi_234 dX12_tellsLine_15 rfl ?_
    refine wp_iconst 0 xi_234 dX12_tellsLine_16 rfl ?_
    obtain ⟨h7, gh7, H⟩ := Option.bind_eq_some_iff.mp H
    refine wq_putf xi_234 dX12_tellsLine_17 xf_12_15 (Or.inl rfl) gh7 ?_
    refine wp_iconst 0 xi_234 dX12_tellsLine_20 rfl ?_
    refine wp_istore_n [some (.ref a), some (.int p0), some (.int 0), none] xi_234 dX12_tellsLine_21 rfl ?_
    refine wp_aload_n xi_234 dX12_tellsLine_22 rfl ?_
    obtain ⟨x8, gx8, H⟩ := Option.bind_eq_some_iff.mp H
    refine wq_getfr xi_234 dX12_tellsLine_23 xf_12_91 gx8 ?_
    refine wp_iconst 0 xi_234 dX12_tellsLine_26 rfl ?_
    obtain ⟨x9, gx9, H⟩ := Option.bind_eq_some_iff.mp H
    refine wq_iaload xi_234 dX12_tellsLine_27 gx9 ?_
    refine wp_istore_n [some (.ref a), some (.int p0), some (.int 0), some (.int x9)] xi_234 dX12_tellsLine_28 rfl ?_
    obtain ⟨h10, G11, H⟩ := Option.bind_eq_some_iff.mp H
    refine Wp.more (by simp [xMore, Value.category]) (ef_234_29 d Q  100000 a 0 x9 h7 _ G11 (fun z0 e9 => ?_))
    cases e9
    refine wp_aload_n xi_234 dX12_tellsLine_97 rfl ?_
    obtain ⟨x13, gx13, H⟩ := Option.bind_eq_some_iff.mp H
    refine wq_getfr xi_234 dX12_tellsLine_98 xf_12_91 gx13 ?_
    refine wp_iconst 0 xi_234 dX12_tellsLine_101 rfl ?_
    obtain ⟨x14, gx14, H⟩ := Option.bind_eq_some_iff.mp H
    refine wq_iaload xi_234 dX12_tellsLine_102 gx14 ?_
    obtain ⟨rfl, rfl⟩ := oi2 H
    exact wp_iret xi_234 dX12_tellsLine_103 hq
  · rw [if_pos c4] at H
    refine wp_bipush (-3) xi_234 dX12_tellsLine_7 rfl ?_
    obtain ⟨rfl, rfl⟩ := oi2 H
    exact wp_iret xi_234 dX12_tellsLine_9 hq
/- FelledHasLostModel.longest()I -/
def f_235  (a : Nat) (h : xH) : Option (Int32 × xH) :=
  (pP h a 12 0 (.int 0)).bind fun h1 =>
  (pG (pIs h1 a 12)).bind fun _ =>
  (f_234 a 1 h1).bind fun (x4, h3) =>
  some (x4, h3)
set_option maxHeartbeats 4000000 in
theorem e_235 (d : Nat) (Q : Option Value → xH → Prop)  {h : xH} {a : Nat} {x : Int32} {h1 : xH} (H : f_235  a h = some (x, h1)) (hq : Q (some (.int x)) h1) : Wp (d + 67) 235 0 [some (.ref a)] [] h Q := by
  unfold f_235 at H
  refine wp_aload_n xi_235 dX12_longest_0 rfl ?_
  refine wp_iconst 0 xi_235 dX12_longest_1 rfl ?_
  obtain ⟨h1, gh1, H⟩ := Option.bind_eq_some_iff.mp H
  refine wq_putf xi_235 dX12_longest_2 xf_12_3 (Or.inl rfl) gh1 ?_
  refine wp_aload_n xi_235 dX12_longest_5 rfl ?_
  refine wp_iconst 1 xi_235 dX12_longest_6 rfl ?_
  obtain ⟨u2, gu2, H⟩ := Option.bind_eq_some_iff.mp H
  obtain ⟨⟨x4, h3⟩, gh3, H⟩ := Option.bind_eq_some_iff.mp H
  dsimp only at H
  refine wq_callV (a := a) (as := [.int 1]) (r := []) (v1 := (some (.int x4))) xi_235 xi_234 dX12_longest_7 xm_12_387 rfl (Nat.le_of_ble_eq_true rfl) (pG_ok gu2) ⟨(Nat.le_of_ble_eq_true rfl), (Nat.le_of_ble_eq_true rfl)⟩ rfl nofun (e_234 d _ gh3 ⟨rfl, rfl⟩) ?_
  change Wp _ _ _ _ [.int x4] _ _
  obtain ⟨rfl, rfl⟩ := oi2 H
  exact wp_iret xi_235 dX12_longest_10 hq
/- FelledHasLostModel.shortest()I -/
def f_236  (a : Nat) (h : xH) : Option (Int32 × xH) :=
  (pP h a 12 0 (.int 0)).bind fun h1 =>
  (pG (pIs h1 a 12)).bind fun _ =>
  (f_234 a 2 h1).bind fun (x4, h3) =>
  some (x4, h3)
set_option maxHeartbeats 4000000 in
theorem e_236 (d : Nat) (Q : Option Value → xH → Prop)  {h : xH} {a : Nat} {x : Int32} {h1 : xH} (H : f_236  a h = some (x, h1)) (hq : Q (some (.int x)) h1) : Wp (d + 67) 236 0 [some (.ref a)] [] h Q := by
  unfold f_236 at H
  refine wp_aload_n xi_236 dX12_shortest_0 rfl ?_
  refine wp_iconst 0 xi_236 dX12_shortest_1 rfl ?_
  obtain ⟨h1, gh1, H⟩ := Option.bind_eq_some_iff.mp H
  refine wq_putf xi_236 dX12_shortest_2 xf_12_3 (Or.inl rfl) gh1 ?_
  refine wp_aload_n xi_236 dX12_shortest_5 rfl ?_
  refine wp_iconst 2 xi_236 dX12_shortest_6 rfl ?_
  obtain ⟨u2, gu2, H⟩ := Option.bind_eq_some_iff.mp H
  obtain ⟨⟨x4, h3⟩, gh3, H⟩ := Option.bind_eq_some_iff.mp H
  dsimp only at H
  refine wq_callV (a := a) (as := [.int 2]) (r := []) (v1 := (some (.int x4))) xi_236 xi_234 dX12_shortest_7 xm_12_387 rfl (Nat.le_of_ble_eq_true rfl) (pG_ok gu2) ⟨(Nat.le_of_ble_eq_true rfl), (Nat.le_of_ble_eq_true rfl)⟩ rfl nofun (e_234 d _ gh3 ⟨rfl, rfl⟩) ?_
  change Wp _ _ _ _ [.int x4] _ _
  obtain ⟨rfl, rfl⟩ := oi2 H
  exact wp_iret xi_236 dX12_shortest_10 hq
/- FelledHasLost$History.<init>()V -/
def f_41_15  : Nat → Nat → Int32 → xH → Option (xH)
  | 0, _, _, _ => none
  | n + 1, a0, a1, h =>
  (if (15 : Int32) ≤ a1 then
  some (h)
  else
  (pFr h a0 3 0).bind fun x2 =>
  (pNw h 7).bind fun (x3, h4) =>
  (pG (pIs h4 x3 7)).bind fun _ =>
  (f_67 x3 h4).bind fun h6 =>
  (pSa h6 x2 a1 x3).bind fun h7 =>
  f_41_15 n a0 (a1 + 1) h7)
theorem ef_41_15 (d : Nat) (Q : Option Value → xH → Prop)  : ∀ (n : Nat) (a0 : Nat) (a1 : Int32) (h : xH) (r : xH), f_41_15 n a0 a1 h = some r → (∀  (h1 : xH), r = h1 → Wp (d + 3) 41 40 [none, none] [] h1 Q) → Wp (d + 3) 41 15 [some (.ref a0), some (.int a1)] [] h Q := by
  intro n
  induction n with
  | zero =>
    intro a0 a1 h r H
    cases H
  | succ n ih =>
    intro a0 a1 h r H KE
    unfold f_41_15 at H
    refine wp_iload_n xi_41 dX3_init_15 rfl ?_
    refine wp_bipush 15 xi_41 dX3_init_16 rfl ?_
    refine wp_icmp_ge 40 xi_41 dX3_init_18 rfl (fun c1 => ?_) (fun c1 => ?_)
    · rw [if_pos c1] at H
      obtain rfl := Option.some.inj H
      exact Wp.more (by simp [xMore, Value.category]) (KE  h rfl)
    · rw [if_neg c1] at H
      refine wp_aload_n xi_41 dX3_init_21 rfl ?_
      obtain ⟨x2, gx2, H⟩ := Option.bind_eq_some_iff.mp H
      refine wq_getfr xi_41 dX3_init_22 xf_3_11 gx2 ?_
      refine wp_iload_n xi_41 dX3_init_25 rfl ?_
      obtain ⟨⟨x3, h4⟩, gx3, H⟩ := Option.bind_eq_some_iff.mp H
      dsimp only at H
      refine wq_new xi_41 dX3_init_26 xn_3_9 (by decide) gx3 ?_
      refine wp_dup xi_41 dX3_init_29 rfl ?_
      obtain ⟨u5, gu5, H⟩ := Option.bind_eq_some_iff.mp H
      obtain ⟨h6, gh6, H⟩ := Option.bind_eq_some_iff.mp H
      refine wq_callI (a := x3) (as := []) (r := [.ref x3, .int a1, .ref x2]) (v1 := none) xi_41 xi_67 dX3_init_30 xm_3_15 (Or.inr rfl) rfl (Nat.le_of_ble_eq_true rfl) (pG_ok gu5) ⟨(Nat.le_of_ble_eq_true rfl), (Nat.le_of_ble_eq_true rfl)⟩ rfl nofun (e_67 d _ gh6 ⟨rfl, rfl⟩) ?_
      change Wp _ _ _ _ [.ref x3, .int a1, .ref x2] _ _
      obtain ⟨h7, gh7, H⟩ := Option.bind_eq_some_iff.mp H
      refine wq_aastore xi_41 dX3_init_33 gh7 ?_
      refine wp_iinc (a1 + 1) [some (.ref a0), some (.int (a1 + 1))] xi_41 dX3_init_34 rfl rfl rfl ?_
      refine wp_goto 15 xi_41 dX3_init_37 rfl ?_
      exact Wp.more (by simp [xMore, Value.category]) (ih a0 (a1 + 1) h7 _ H KE)
def f_41  (a : Nat) (h : xH) : Option (xH) :=
  (pNq h 15).bind fun (x1, h2) =>
  (pP h2 a 3 0 (.ref x1)).bind fun h3 =>
  (f_41_15 100000 a 0 h3).bind fun h4 =>
  some h4
set_option maxHeartbeats 4000000 in
theorem e_41 (d : Nat) (Q : Option Value → xH → Prop)  {h : xH} {a : Nat} {h1 : xH} (H : f_41  a h = some h1) (hq : Q none h1) : Wp (d + 3) 41 0 [some (.ref a), none] [] h Q := by
  unfold f_41 at H
  refine wp_aload_n xi_41 dX3_init_0 rfl ?_
  refine wq_objI xi_41 dX3_init_1 xm_3_1 (Nat.le_of_ble_eq_true rfl) ?_
  refine wp_aload_n xi_41 dX3_init_4 rfl ?_
  refine wp_bipush 15 xi_41 dX3_init_5 rfl ?_
  obtain ⟨⟨x1, h2⟩, gx1, H⟩ := Option.bind_eq_some_iff.mp H
  dsimp only at H
  refine wq_newq xi_41 dX3_init_7 xn_3_9 gx1 ?_
  obtain ⟨h3, gh3, H⟩ := Option.bind_eq_some_iff.mp H
  refine wq_putf xi_41 dX3_init_10 xf_3_11 (Or.inr ⟨rfl, rfl, rfl⟩) gh3 ?_
  refine wp_iconst 0 xi_41 dX3_init_13 rfl ?_
  refine wp_istore_n [some (.ref a), some (.int 0)] xi_41 dX3_init_14 rfl ?_
  obtain ⟨h4, G5, H⟩ := Option.bind_eq_some_iff.mp H
  refine Wp.more (by simp [xMore, Value.category]) (ef_41_15 d Q  100000 a 0 h3 _ G5 (fun z0 e9 => ?_))
  cases e9
  obtain rfl := Option.some.inj H
  exact wp_vret xi_41 dX3_init_40 hq
/- FelledHasLost.<init>()V -/
def f_104_184  : Nat → Nat → Int32 → xH → Option (xH)
  | 0, _, _, _ => none
  | n + 1, a0, a1, h =>
  (if (3 : Int32) ≤ a1 then
  some (h)
  else
  (pFr h a0 11 4).bind fun x2 =>
  (pNw h 7).bind fun (x3, h4) =>
  (pG (pIs h4 x3 7)).bind fun _ =>
  (f_67 x3 h4).bind fun h6 =>
  (pSa h6 x2 a1 x3).bind fun h7 =>
  f_104_184 n a0 (a1 + 1) h7)
theorem ef_104_184 (d : Nat) (Q : Option Value → xH → Prop)  : ∀ (n : Nat) (a0 : Nat) (a1 : Int32) (h : xH) (r : xH), f_104_184 n a0 a1 h = some r → (∀  (h1 : xH), r = h1 → Wp (d + 4) 104 208 [some (.ref a0), none] [] h1 Q) → Wp (d + 4) 104 184 [some (.ref a0), some (.int a1)] [] h Q := by
  intro n
  induction n with
  | zero =>
    intro a0 a1 h r H
    cases H
  | succ n ih =>
    intro a0 a1 h r H KE
    unfold f_104_184 at H
    refine wp_iload_n xi_104 dX11_init_184 rfl ?_
    refine wp_iconst 3 xi_104 dX11_init_185 rfl ?_
    refine wp_icmp_ge 208 xi_104 dX11_init_186 rfl (fun c1 => ?_) (fun c1 => ?_)
    · rw [if_pos c1] at H
      obtain rfl := Option.some.inj H
      exact Wp.more (by simp [xMore, Value.category]) (KE  h rfl)
    · rw [if_neg c1] at H
      refine wp_aload_n xi_104 dX11_init_189 rfl ?_
      obtain ⟨x2, gx2, H⟩ := Option.bind_eq_some_iff.mp H
      refine wq_getfr xi_104 dX11_init_190 xf_11_37 gx2 ?_
      refine wp_iload_n xi_104 dX11_init_193 rfl ?_
      obtain ⟨⟨x3, h4⟩, gx3, H⟩ := Option.bind_eq_some_iff.mp H
      dsimp only at H
      refine wq_new xi_104 dX11_init_194 xn_11_23 (by decide) gx3 ?_
      refine wp_dup xi_104 dX11_init_197 rfl ?_
      obtain ⟨u5, gu5, H⟩ := Option.bind_eq_some_iff.mp H
      obtain ⟨h6, gh6, H⟩ := Option.bind_eq_some_iff.mp H
      refine wq_callI (a := x3) (as := []) (r := [.ref x3, .int a1, .ref x2]) (v1 := none) xi_104 xi_67 dX11_init_198 xm_11_25 (Or.inr rfl) rfl (Nat.le_of_ble_eq_true rfl) (pG_ok gu5) ⟨(Nat.le_of_ble_eq_true rfl), (Nat.le_of_ble_eq_true rfl)⟩ rfl nofun (e_67 (d + 1) _ gh6 ⟨rfl, rfl⟩) ?_
      change Wp _ _ _ _ [.ref x3, .int a1, .ref x2] _ _
      obtain ⟨h7, gh7, H⟩ := Option.bind_eq_some_iff.mp H
      refine wq_aastore xi_104 dX11_init_201 gh7 ?_
      refine wp_iinc (a1 + 1) [some (.ref a0), some (.int (a1 + 1))] xi_104 dX11_init_202 rfl rfl rfl ?_
      refine wp_goto 184 xi_104 dX11_init_205 rfl ?_
      exact Wp.more (by simp [xMore, Value.category]) (ih a0 (a1 + 1) h7 _ H KE)
def f_104  (a : Nat) (h : xH) : Option (xH) :=
  (pNw h 8).bind fun (x1, h2) =>
  (pG (pIs h2 x1 8)).bind fun _ =>
  (f_72 x1 h2).bind fun h4 =>
  (pP h4 a 11 0 (.ref x1)).bind fun h5 =>
  (pNw h5 5).bind fun (x6, h7) =>
  (pG (pIs h7 x6 5)).bind fun _ =>
  (f_49 x6 h7).bind fun h9 =>
  (pP h9 a 11 1 (.ref x6)).bind fun h10 =>
  (pNw h10 7).bind fun (x11, h12) =>
  (pG (pIs h12 x11 7)).bind fun _ =>
  (f_67 x11 h12).bind fun h14 =>
  (pP h14 a 11 2 (.ref x11)).bind fun h15 =>
  (pNw h15 3).bind fun (x16, h17) =>
  (pG (pIs h17 x16 3)).bind fun _ =>
  (f_41 x16 h17).bind fun h19 =>
  (pP h19 a 11 3 (.ref x16)).bind fun h20 =>
  (pNq h20 3).bind fun (x21, h22) =>
  (pP h22 a 11 4 (.ref x21)).bind fun h23 =>
  (pNb h23 3).bind fun (x24, h25) =>
  (pP h25 a 11 5 (.ref x24)).bind fun h26 =>
  (pNw h26 0).bind fun (x27, h28) =>
  (pG (pIs h28 x27 0)).bind fun _ =>
  (f_0 x27 h28).bind fun h30 =>
  (pP h30 a 11 6 (.ref x27)).bind fun h31 =>
  (pNw h31 6).bind fun (x32, h33) =>
  (pG (pIs h33 x32 6)).bind fun _ =>
  (f_52 x32 h33).bind fun h35 =>
  (pP h35 a 11 7 (.ref x32)).bind fun h36 =>
  (pNw h36 1).bind fun (x37, h38) =>
  (pFr h38 a 11 6).bind fun x39 =>
  (pFr h38 a 11 7).bind fun x40 =>
  (pG (pIs h38 x37 1)).bind fun _ =>
  (f_6 x37 x39 x40 h38).bind fun h42 =>
  (pP h42 a 11 8 (.ref x37)).bind fun h43 =>
  (pNw h43 2).bind fun (x44, h45) =>
  (pFr h45 a 11 8).bind fun x46 =>
  (pG (pIs h45 x44 2)).bind fun _ =>
  (f_17 x44 x46 h45).bind fun h48 =>
  (pP h48 a 11 9 (.ref x44)).bind fun h49 =>
  (pNw h49 9).bind fun (x50, h51) =>
  (pG (pIs h51 x50 9)).bind fun _ =>
  (f_78 x50 h51).bind fun h53 =>
  (pP h53 a 11 10 (.ref x50)).bind fun h54 =>
  (pNw h54 4).bind fun (x55, h56) =>
  (pG (pIs h56 x55 4)).bind fun _ =>
  (f_45 x55 h56).bind fun h58 =>
  (pP h58 a 11 11 (.ref x55)).bind fun h59 =>
  (pNw h59 10).bind fun (x60, h61) =>
  (pG (pIs h61 x60 10)).bind fun _ =>
  (f_84 x60 h61).bind fun h63 =>
  (pP h63 a 11 12 (.ref x60)).bind fun h64 =>
  (pNw h64 10).bind fun (x65, h66) =>
  (pG (pIs h66 x65 10)).bind fun _ =>
  (f_84 x65 h66).bind fun h68 =>
  (pP h68 a 11 13 (.ref x65)).bind fun h69 =>
  (pNi h69 4).bind fun (x70, h71) =>
  (pP h71 a 11 14 (.ref x70)).bind fun h72 =>
  (pNi h72 4).bind fun (x73, h74) =>
  (pP h74 a 11 15 (.ref x73)).bind fun h75 =>
  (pP h75 a 11 16 (.int 2)).bind fun h76 =>
  (f_104_184 100000 a 0 h76).bind fun h77 =>
  (pFr h77 a 11 14).bind fun x80 =>
  (f_266 x80 1 h77).bind fun h81 =>
  some h81
set_option maxHeartbeats 4000000 in
theorem e_104 (d : Nat) (Q : Option Value → xH → Prop)  {h : xH} {a : Nat} {h1 : xH} (H : f_104  a h = some h1) (hq : Q none h1) : Wp (d + 4) 104 0 [some (.ref a), none] [] h Q := by
  unfold f_104 at H
  refine wp_aload_n xi_104 dX11_init_0 rfl ?_
  refine wq_objI xi_104 dX11_init_1 xm_11_3 (Nat.le_of_ble_eq_true rfl) ?_
  refine wp_aload_n xi_104 dX11_init_4 rfl ?_
  obtain ⟨⟨x1, h2⟩, gx1, H⟩ := Option.bind_eq_some_iff.mp H
  dsimp only at H
  refine wq_new xi_104 dX11_init_5 xn_11_9 (by decide) gx1 ?_
  refine wp_dup xi_104 dX11_init_8 rfl ?_
  obtain ⟨u3, gu3, H⟩ := Option.bind_eq_some_iff.mp H
  obtain ⟨h4, gh4, H⟩ := Option.bind_eq_some_iff.mp H
  refine wq_callI (a := x1) (as := []) (r := [.ref x1, .ref a]) (v1 := none) xi_104 xi_72 dX11_init_9 xm_11_11 (Or.inr rfl) rfl (Nat.le_of_ble_eq_true rfl) (pG_ok gu3) ⟨(Nat.le_of_ble_eq_true rfl), (Nat.le_of_ble_eq_true rfl)⟩ rfl nofun (e_72 (d + 3) _ gh4 ⟨rfl, rfl⟩) ?_
  change Wp _ _ _ _ [.ref x1, .ref a] _ _
  obtain ⟨h5, gh5, H⟩ := Option.bind_eq_some_iff.mp H
  refine wq_putf xi_104 dX11_init_12 xf_11_12 (Or.inr ⟨rfl, rfl, rfl⟩) gh5 ?_
  refine wp_aload_n xi_104 dX11_init_15 rfl ?_
  obtain ⟨⟨x6, h7⟩, gx6, H⟩ := Option.bind_eq_some_iff.mp H
  dsimp only at H
  refine wq_new xi_104 dX11_init_16 xn_11_16 (by decide) gx6 ?_
  refine wp_dup xi_104 dX11_init_19 rfl ?_
  obtain ⟨u8, gu8, H⟩ := Option.bind_eq_some_iff.mp H
  obtain ⟨h9, gh9, H⟩ := Option.bind_eq_some_iff.mp H
  refine wq_callI (a := x6) (as := []) (r := [.ref x6, .ref a]) (v1 := none) xi_104 xi_49 dX11_init_20 xm_11_18 (Or.inr rfl) rfl (Nat.le_of_ble_eq_true rfl) (pG_ok gu8) ⟨(Nat.le_of_ble_eq_true rfl), (Nat.le_of_ble_eq_true rfl)⟩ rfl nofun (e_49 (d + 3) _ gh9 ⟨rfl, rfl⟩) ?_
  change Wp _ _ _ _ [.ref x6, .ref a] _ _
  obtain ⟨h10, gh10, H⟩ := Option.bind_eq_some_iff.mp H
  refine wq_putf xi_104 dX11_init_23 xf_11_19 (Or.inr ⟨rfl, rfl, rfl⟩) gh10 ?_
  refine wp_aload_n xi_104 dX11_init_26 rfl ?_
  obtain ⟨⟨x11, h12⟩, gx11, H⟩ := Option.bind_eq_some_iff.mp H
  dsimp only at H
  refine wq_new xi_104 dX11_init_27 xn_11_23 (by decide) gx11 ?_
  refine wp_dup xi_104 dX11_init_30 rfl ?_
  obtain ⟨u13, gu13, H⟩ := Option.bind_eq_some_iff.mp H
  obtain ⟨h14, gh14, H⟩ := Option.bind_eq_some_iff.mp H
  refine wq_callI (a := x11) (as := []) (r := [.ref x11, .ref a]) (v1 := none) xi_104 xi_67 dX11_init_31 xm_11_25 (Or.inr rfl) rfl (Nat.le_of_ble_eq_true rfl) (pG_ok gu13) ⟨(Nat.le_of_ble_eq_true rfl), (Nat.le_of_ble_eq_true rfl)⟩ rfl nofun (e_67 (d + 1) _ gh14 ⟨rfl, rfl⟩) ?_
  change Wp _ _ _ _ [.ref x11, .ref a] _ _
  obtain ⟨h15, gh15, H⟩ := Option.bind_eq_some_iff.mp H
  refine wq_putf xi_104 dX11_init_34 xf_11_26 (Or.inr ⟨rfl, rfl, rfl⟩) gh15 ?_
  refine wp_aload_n xi_104 dX11_init_37 rfl ?_
  obtain ⟨⟨x16, h17⟩, gx16, H⟩ := Option.bind_eq_some_iff.mp H
  dsimp only at H
  refine wq_new xi_104 dX11_init_38 xn_11_30 (by decide) gx16 ?_
  refine wp_dup xi_104 dX11_init_41 rfl ?_
  obtain ⟨u18, gu18, H⟩ := Option.bind_eq_some_iff.mp H
  obtain ⟨h19, gh19, H⟩ := Option.bind_eq_some_iff.mp H
  refine wq_callI (a := x16) (as := []) (r := [.ref x16, .ref a]) (v1 := none) xi_104 xi_41 dX11_init_42 xm_11_32 (Or.inl rfl) rfl (Nat.le_of_ble_eq_true rfl) (pG_ok gu18) ⟨(Nat.le_of_ble_eq_true rfl), (Nat.le_of_ble_eq_true rfl)⟩ rfl nofun (e_41 d _ gh19 ⟨rfl, rfl⟩) ?_
  change Wp _ _ _ _ [.ref x16, .ref a] _ _
  obtain ⟨h20, gh20, H⟩ := Option.bind_eq_some_iff.mp H
  refine wq_putf xi_104 dX11_init_45 xf_11_33 (Or.inr ⟨rfl, rfl, rfl⟩) gh20 ?_
  refine wp_aload_n xi_104 dX11_init_48 rfl ?_
  refine wp_iconst 3 xi_104 dX11_init_49 rfl ?_
  obtain ⟨⟨x21, h22⟩, gx21, H⟩ := Option.bind_eq_some_iff.mp H
  dsimp only at H
  refine wq_newq xi_104 dX11_init_50 xn_11_23 gx21 ?_
  obtain ⟨h23, gh23, H⟩ := Option.bind_eq_some_iff.mp H
  refine wq_putf xi_104 dX11_init_53 xf_11_37 (Or.inr ⟨rfl, rfl, rfl⟩) gh23 ?_
  refine wp_aload_n xi_104 dX11_init_56 rfl ?_
  refine wp_iconst 3 xi_104 dX11_init_57 rfl ?_
  obtain ⟨⟨x24, h25⟩, gx24, H⟩ := Option.bind_eq_some_iff.mp H
  dsimp only at H
  refine wq_newb xi_104 dX11_init_58 gx24 ?_
  obtain ⟨h26, gh26, H⟩ := Option.bind_eq_some_iff.mp H
  refine wq_putf xi_104 dX11_init_60 xf_11_41 (Or.inr ⟨rfl, rfl, rfl⟩) gh26 ?_
  refine wp_aload_n xi_104 dX11_init_63 rfl ?_
  obtain ⟨⟨x27, h28⟩, gx27, H⟩ := Option.bind_eq_some_iff.mp H
  dsimp only at H
  refine wq_new xi_104 dX11_init_64 xn_11_45 (by decide) gx27 ?_
  refine wp_dup xi_104 dX11_init_67 rfl ?_
  obtain ⟨u29, gu29, H⟩ := Option.bind_eq_some_iff.mp H
  obtain ⟨h30, gh30, H⟩ := Option.bind_eq_some_iff.mp H
  refine wq_callI (a := x27) (as := []) (r := [.ref x27, .ref a]) (v1 := none) xi_104 xi_0 dX11_init_68 xm_11_47 (Or.inr rfl) rfl (Nat.le_of_ble_eq_true rfl) (pG_ok gu29) ⟨(Nat.le_of_ble_eq_true rfl), (Nat.le_of_ble_eq_true rfl)⟩ rfl nofun (e_0 (d + 3) _ gh30 ⟨rfl, rfl⟩) ?_
  change Wp _ _ _ _ [.ref x27, .ref a] _ _
  obtain ⟨h31, gh31, H⟩ := Option.bind_eq_some_iff.mp H
  refine wq_putf xi_104 dX11_init_71 xf_11_48 (Or.inr ⟨rfl, rfl, rfl⟩) gh31 ?_
  refine wp_aload_n xi_104 dX11_init_74 rfl ?_
  obtain ⟨⟨x32, h33⟩, gx32, H⟩ := Option.bind_eq_some_iff.mp H
  dsimp only at H
  refine wq_new xi_104 dX11_init_75 xn_11_52 (by decide) gx32 ?_
  refine wp_dup xi_104 dX11_init_78 rfl ?_
  obtain ⟨u34, gu34, H⟩ := Option.bind_eq_some_iff.mp H
  obtain ⟨h35, gh35, H⟩ := Option.bind_eq_some_iff.mp H
  refine wq_callI (a := x32) (as := []) (r := [.ref x32, .ref a]) (v1 := none) xi_104 xi_52 dX11_init_79 xm_11_54 (Or.inl rfl) rfl (Nat.le_of_ble_eq_true rfl) (pG_ok gu34) ⟨(Nat.le_of_ble_eq_true rfl), (Nat.le_of_ble_eq_true rfl)⟩ rfl nofun (e_52 (d + 1) _ gh35 ⟨rfl, rfl⟩) ?_
  change Wp _ _ _ _ [.ref x32, .ref a] _ _
  obtain ⟨h36, gh36, H⟩ := Option.bind_eq_some_iff.mp H
  refine wq_putf xi_104 dX11_init_82 xf_11_55 (Or.inr ⟨rfl, rfl, rfl⟩) gh36 ?_
  refine wp_aload_n xi_104 dX11_init_85 rfl ?_
  obtain ⟨⟨x37, h38⟩, gx37, H⟩ := Option.bind_eq_some_iff.mp H
  dsimp only at H
  refine wq_new xi_104 dX11_init_86 xn_11_59 (by decide) gx37 ?_
  refine wp_dup xi_104 dX11_init_89 rfl ?_
  refine wp_aload_n xi_104 dX11_init_90 rfl ?_
  obtain ⟨x39, gx39, H⟩ := Option.bind_eq_some_iff.mp H
  refine wq_getfr xi_104 dX11_init_91 xf_11_48 gx39 ?_
  refine wp_aload_n xi_104 dX11_init_94 rfl ?_
  obtain ⟨x40, gx40, H⟩ := Option.bind_eq_some_iff.mp H
  refine wq_getfr xi_104 dX11_init_95 xf_11_55 gx40 ?_
  obtain ⟨u41, gu41, H⟩ := Option.bind_eq_some_iff.mp H
  obtain ⟨h42, gh42, H⟩ := Option.bind_eq_some_iff.mp H
  refine wq_callI (a := x37) (as := [.ref x39, .ref x40]) (r := [.ref x37, .ref a]) (v1 := none) xi_104 xi_6 dX11_init_98 xm_11_61 (Or.inl rfl) rfl (Nat.le_of_ble_eq_true rfl) (pG_ok gu41) ⟨(Nat.le_of_ble_eq_true rfl), (Nat.le_of_ble_eq_true rfl)⟩ rfl nofun (e_6 (d + 3) _ gh42 ⟨rfl, rfl⟩) ?_
  change Wp _ _ _ _ [.ref x37, .ref a] _ _
  obtain ⟨h43, gh43, H⟩ := Option.bind_eq_some_iff.mp H
  refine wq_putf xi_104 dX11_init_101 xf_11_64 (Or.inr ⟨rfl, rfl, rfl⟩) gh43 ?_
  refine wp_aload_n xi_104 dX11_init_104 rfl ?_
  obtain ⟨⟨x44, h45⟩, gx44, H⟩ := Option.bind_eq_some_iff.mp H
  dsimp only at H
  refine wq_new xi_104 dX11_init_105 xn_11_68 (by decide) gx44 ?_
  refine wp_dup xi_104 dX11_init_108 rfl ?_
  refine wp_aload_n xi_104 dX11_init_109 rfl ?_
  obtain ⟨x46, gx46, H⟩ := Option.bind_eq_some_iff.mp H
  refine wq_getfr xi_104 dX11_init_110 xf_11_64 gx46 ?_
  obtain ⟨u47, gu47, H⟩ := Option.bind_eq_some_iff.mp H
  obtain ⟨h48, gh48, H⟩ := Option.bind_eq_some_iff.mp H
  refine wq_callI (a := x44) (as := [.ref x46]) (r := [.ref x44, .ref a]) (v1 := none) xi_104 xi_17 dX11_init_113 xm_11_70 (Or.inl rfl) rfl (Nat.le_of_ble_eq_true rfl) (pG_ok gu47) ⟨(Nat.le_of_ble_eq_true rfl), (Nat.le_of_ble_eq_true rfl)⟩ rfl nofun (e_17 (d + 1) _ gh48 ⟨rfl, rfl⟩) ?_
  change Wp _ _ _ _ [.ref x44, .ref a] _ _
  obtain ⟨h49, gh49, H⟩ := Option.bind_eq_some_iff.mp H
  refine wq_putf xi_104 dX11_init_116 xf_11_73 (Or.inr ⟨rfl, rfl, rfl⟩) gh49 ?_
  refine wp_aload_n xi_104 dX11_init_119 rfl ?_
  obtain ⟨⟨x50, h51⟩, gx50, H⟩ := Option.bind_eq_some_iff.mp H
  dsimp only at H
  refine wq_new xi_104 dX11_init_120 xn_11_77 (by decide) gx50 ?_
  refine wp_dup xi_104 dX11_init_123 rfl ?_
  obtain ⟨u52, gu52, H⟩ := Option.bind_eq_some_iff.mp H
  obtain ⟨h53, gh53, H⟩ := Option.bind_eq_some_iff.mp H
  refine wq_callI (a := x50) (as := []) (r := [.ref x50, .ref a]) (v1 := none) xi_104 xi_78 dX11_init_124 xm_11_79 (Or.inl rfl) rfl (Nat.le_of_ble_eq_true rfl) (pG_ok gu52) ⟨(Nat.le_of_ble_eq_true rfl), (Nat.le_of_ble_eq_true rfl)⟩ rfl nofun (e_78 (d + 1) _ gh53 ⟨rfl, rfl⟩) ?_
  change Wp _ _ _ _ [.ref x50, .ref a] _ _
  obtain ⟨h54, gh54, H⟩ := Option.bind_eq_some_iff.mp H
  refine wq_putf xi_104 dX11_init_127 xf_11_80 (Or.inr ⟨rfl, rfl, rfl⟩) gh54 ?_
  refine wp_aload_n xi_104 dX11_init_130 rfl ?_
  obtain ⟨⟨x55, h56⟩, gx55, H⟩ := Option.bind_eq_some_iff.mp H
  dsimp only at H
  refine wq_new xi_104 dX11_init_131 xn_11_84 (by decide) gx55 ?_
  refine wp_dup xi_104 dX11_init_134 rfl ?_
  obtain ⟨u57, gu57, H⟩ := Option.bind_eq_some_iff.mp H
  obtain ⟨h58, gh58, H⟩ := Option.bind_eq_some_iff.mp H
  refine wq_callI (a := x55) (as := []) (r := [.ref x55, .ref a]) (v1 := none) xi_104 xi_45 dX11_init_135 xm_11_86 (Or.inr rfl) rfl (Nat.le_of_ble_eq_true rfl) (pG_ok gu57) ⟨(Nat.le_of_ble_eq_true rfl), (Nat.le_of_ble_eq_true rfl)⟩ rfl nofun (e_45 (d + 3) _ gh58 ⟨rfl, rfl⟩) ?_
  change Wp _ _ _ _ [.ref x55, .ref a] _ _
  obtain ⟨h59, gh59, H⟩ := Option.bind_eq_some_iff.mp H
  refine wq_putf xi_104 dX11_init_138 xf_11_87 (Or.inr ⟨rfl, rfl, rfl⟩) gh59 ?_
  refine wp_aload_n xi_104 dX11_init_141 rfl ?_
  obtain ⟨⟨x60, h61⟩, gx60, H⟩ := Option.bind_eq_some_iff.mp H
  dsimp only at H
  refine wq_new xi_104 dX11_init_142 xn_11_91 (by decide) gx60 ?_
  refine wp_dup xi_104 dX11_init_145 rfl ?_
  obtain ⟨u62, gu62, H⟩ := Option.bind_eq_some_iff.mp H
  obtain ⟨h63, gh63, H⟩ := Option.bind_eq_some_iff.mp H
  refine wq_callI (a := x60) (as := []) (r := [.ref x60, .ref a]) (v1 := none) xi_104 xi_84 dX11_init_146 xm_11_93 (Or.inl rfl) rfl (Nat.le_of_ble_eq_true rfl) (pG_ok gu62) ⟨(Nat.le_of_ble_eq_true rfl), (Nat.le_of_ble_eq_true rfl)⟩ rfl nofun (e_84 (d + 2) _ gh63 ⟨rfl, rfl⟩) ?_
  change Wp _ _ _ _ [.ref x60, .ref a] _ _
  obtain ⟨h64, gh64, H⟩ := Option.bind_eq_some_iff.mp H
  refine wq_putf xi_104 dX11_init_149 xf_11_94 (Or.inr ⟨rfl, rfl, rfl⟩) gh64 ?_
  refine wp_aload_n xi_104 dX11_init_152 rfl ?_
  obtain ⟨⟨x65, h66⟩, gx65, H⟩ := Option.bind_eq_some_iff.mp H
  dsimp only at H
  refine wq_new xi_104 dX11_init_153 xn_11_91 (by decide) gx65 ?_
  refine wp_dup xi_104 dX11_init_156 rfl ?_
  obtain ⟨u67, gu67, H⟩ := Option.bind_eq_some_iff.mp H
  obtain ⟨h68, gh68, H⟩ := Option.bind_eq_some_iff.mp H
  refine wq_callI (a := x65) (as := []) (r := [.ref x65, .ref a]) (v1 := none) xi_104 xi_84 dX11_init_157 xm_11_93 (Or.inl rfl) rfl (Nat.le_of_ble_eq_true rfl) (pG_ok gu67) ⟨(Nat.le_of_ble_eq_true rfl), (Nat.le_of_ble_eq_true rfl)⟩ rfl nofun (e_84 (d + 2) _ gh68 ⟨rfl, rfl⟩) ?_
  change Wp _ _ _ _ [.ref x65, .ref a] _ _
  obtain ⟨h69, gh69, H⟩ := Option.bind_eq_some_iff.mp H
  refine wq_putf xi_104 dX11_init_160 xf_11_98 (Or.inr ⟨rfl, rfl, rfl⟩) gh69 ?_
  refine wp_aload_n xi_104 dX11_init_163 rfl ?_
  refine wp_iconst 4 xi_104 dX11_init_164 rfl ?_
  obtain ⟨⟨x70, h71⟩, gx70, H⟩ := Option.bind_eq_some_iff.mp H
  dsimp only at H
  refine wq_newi xi_104 dX11_init_165 gx70 ?_
  obtain ⟨h72, gh72, H⟩ := Option.bind_eq_some_iff.mp H
  refine wq_putf xi_104 dX11_init_167 xf_11_101 (Or.inr ⟨rfl, rfl, rfl⟩) gh72 ?_
  refine wp_aload_n xi_104 dX11_init_170 rfl ?_
  refine wp_iconst 4 xi_104 dX11_init_171 rfl ?_
  obtain ⟨⟨x73, h74⟩, gx73, H⟩ := Option.bind_eq_some_iff.mp H
  dsimp only at H
  refine wq_newi xi_104 dX11_init_172 gx73 ?_
  obtain ⟨h75, gh75, H⟩ := Option.bind_eq_some_iff.mp H
  refine wq_putf xi_104 dX11_init_174 xf_11_105 (Or.inr ⟨rfl, rfl, rfl⟩) gh75 ?_
  refine wp_aload_n xi_104 dX11_init_177 rfl ?_
  refine wp_iconst 2 xi_104 dX11_init_178 rfl ?_
  obtain ⟨h76, gh76, H⟩ := Option.bind_eq_some_iff.mp H
  refine wq_putf xi_104 dX11_init_179 xf_11_108 (Or.inl rfl) gh76 ?_
  refine wp_iconst 0 xi_104 dX11_init_182 rfl ?_
  refine wp_istore_n [some (.ref a), some (.int 0)] xi_104 dX11_init_183 rfl ?_
  obtain ⟨h77, G78, H⟩ := Option.bind_eq_some_iff.mp H
  refine Wp.more (by simp [xMore, Value.category]) (ef_104_184 d Q  100000 a 0 h76 _ G78 (fun z0 e9 => ?_))
  cases e9
  refine wp_aload_n xi_104 dX11_init_208 rfl ?_
  obtain ⟨x80, gx80, H⟩ := Option.bind_eq_some_iff.mp H
  refine wq_getfr xi_104 dX11_init_209 xf_11_101 gx80 ?_
  refine wp_iconst 1 xi_104 dX11_init_212 rfl ?_
  obtain ⟨h81, gh81, H⟩ := Option.bind_eq_some_iff.mp H
  refine wq_callS (as := [.ref x80, .int 1]) (r := []) (v1 := none) xi_104 xi_266 dX11_init_213 xm_11_112 rfl (Nat.le_of_ble_eq_true rfl) ⟨(Nat.le_of_ble_eq_true rfl), (Nat.le_of_ble_eq_true rfl)⟩ rfl nofun (e_266 (d + 3) _ gh81 ⟨rfl, rfl⟩) ?_
  change Wp _ _ _ _ [] _ _
  obtain rfl := Option.some.inj H
  exact wp_vret xi_104 dX11_init_216 hq
