/-! ===== games: the reference's values ===== -/
def clO (φ : Bool) (t0 t1 : Int32) (L : List gE) : Prop := ∀ (k : Nat) (e : gE) (mv : Nat), L[k]? = some e → gSf φ t0 t1 e.1 mv = true → ∃ t, gLk L (gNx e.1 mv) = some t
/-- what is worked out already -/
def rV (φ : Bool) (t0 t1 : Int32) (how : Nat) (m : yM) (L : List gE) : Prop := ∀ (k : Nat) (e : gE), L[k]? = some e → m.1 201 k = -1 ∨ (m.1 201 k = yN (gv (gW how φ t0 t1 e.1)) ∧ m.1 202 k = mvI (gW how φ t0 t1 e.1) ∧ ∀ mv t, gSf φ t0 t1 e.1 mv = true → gLk L (gNx e.1 mv) = some t → m.1 201 t ≠ -1)
theorem gW0_le {φ : Bool} {t0 t1 : Int32} {x : zN} (o : nOk x) : gv (gW 0 φ t0 t1 x) ≤ 1 := by
  cases h : gW 0 φ t0 t1 x with
  | none => exact Nat.zero_le _
  | some p =>
    obtain ⟨b, m⟩ := p
    obtain ⟨-, -, h3, -⟩ := gW_mv o h
    show b ≤ 1
    rw [h3]; unfold gBe; rw [if_pos rfl]; omega
def stJ (how : Nat) (st : Option (Nat × Nat)) : Int32 := match st with
  | none => if how = 2 then -1 else 0
  | some p => yN p.1
def rcF (κ : yK) (φ : Bool) (t0 t1 : Int32) (how : Nat) (s : gS) (hw : Int32) (F : Nat → Int32 → Int32 → xH → Option (Int32 × xH)) (lo : Nat) : Prop := ∀ (k : Nat) (e : gE) (m : yM), s.1[k]? = some e → lo ≤ gMu e.1 → RG m s hw → rV φ t0 t1 how m s.1 → m.1 178 7 = t0 → m.1 178 8 = t1 →
  ∃ m', F 178 (yN k) (yN how) (yH κ m) = some (yN (gv (gW how φ t0 t1 e.1)), yH κ m') ∧ RG m' s hw ∧ rV φ t0 t1 how m' s.1 ∧ m'.1 201 k ≠ -1 ∧ (∀ j, m.1 201 j ≠ -1 → m'.1 201 j ≠ -1) ∧ yFr sGr m m'
section GQ
variable {κ : yK} {r : zN} {t0 t1 : Int32} {φ : Bool} {s : gS} {d how : Nat} {hw : Int32} {F : Nat → Int32 → Int32 → xH → Option (Int32 × xH)}
theorem yNne {n : Nat} (h : n < 2147483648) : yN n ≠ -1 := by rw [Ne, yN_eqm h]; exact id
/-- a move in the row laid: whether it is safe, where it leads -/
theorem mLd {m : yM} {k mv : Nat} {e : gE} (J : gJ r d s) (ho : hwO φ hw) (hcl : clO φ t0 t1 s.1) (hk : s.1[k]? = some e) (hG : RG m s hw) (hx : Rw m 192 e.1 hw) (h0 : m.1 178 7 = t0) (h1 : m.1 178 8 = t1) (hm : mv < 480) (hc : tCg e.1.1 e.1.2 mv = true) (hf : φ = true) :
    ∃ m' v, f_203 178 192 (yN mv) (yH κ m) = some (v, yH κ m') ∧ (v = 0 ↔ gSf φ t0 t1 e.1 mv = true) ∧ yFr sGr m m' ∧ RG m' s hw ∧ (∀ y j, 200 ≤ y → y ≤ 203 → m'.1 y j = m.1 y j) ∧ (gSf φ t0 t1 e.1 mv = true → ∃ t sl, gLk s.1 (gNx e.1 mv) = some t ∧ f_225 178 192 (yH κ m') = some (yN sl, yH κ m') ∧ pAi (yH κ m') 199 (yN sl) = some (yN t)) := by
  have o := (J.nod k e hk).1
  obtain ⟨m', v, e2, hv, hR, F2⟩ := mTry (κ := κ) (φ := φ) (t0 := t0) (t1 := t1) (mv := mv) o hx ho h0 h1 hm hc hf
  have o2 : ∀ y j, y ≠ 192 → ¬ sM y j → m'.1 y j = m.1 y j := fun y j z w => by unfold sM at w; rw [F2.2 _ _ (by unfold sD sM; omega)]
  have R2 : RG m' s hw := hG.c (fun y j z => o2 y j (by omega) (by unfold sM; omega))
  refine ⟨m', v, e2, hv, F2.wk (fun y j z => by unfold sD sM at z; unfold sGr sM; omega), R2, fun y j h1 h2 => o2 y j (by omega) (by unfold sM; omega), fun hs => ?_⟩
  obtain ⟨t, ht⟩ := hcl k e mv hk hs
  rcases m225 (κ := κ) (x := gNx e.1 mv) (hw := hw) yAr_192 (hR hs).1 J.len R2.2.2.1 R2.2.2.2 J.dup with ⟨hq, -⟩ | ⟨t', sl, hq, hsl, hv', e'⟩
  · rw [ht] at hq; simp at hq
  · rw [ht] at hq
    simp only [Option.some.injEq] at hq
    subst hq
    exact ⟨t, sl, ht, e', by rw [show pAi (yH κ m') 199 (yN sl) = _ from ya_199 hsl, hv']⟩
theorem m232_37 {k : Nat} {e : gE} (hh : how ≤ 2) (J : gJ r d s) (ho : hwO φ hw) (hcl : clO φ t0 t1 s.1) (hk : s.1[k]? = some e) (hF : rcF κ φ t0 t1 how s hw F (gMu e.1 + 1)) : ∀ (D n fu : Nat) (m : yM), n + D = 480 → D < fu → RG m s hw → rV φ t0 t1 how m s.1 → m.1 178 7 = t0 → m.1 178 8 = t1 → (∀ mv t, mv < n → gSf φ t0 t1 e.1 mv = true → gLk s.1 (gNx e.1 mv) = some t → m.1 201 t ≠ -1) →
    ∃ m', f_232_37 F fu 178 (yN k) (yN how) (stJ how (gFd how (fun mv => gv (gW how φ t0 t1 (gNx e.1 mv))) ((List.range n).filter (gSf φ t0 t1 e.1)))) (mvI (gFd how (fun mv => gv (gW how φ t0 t1 (gNx e.1 mv))) ((List.range n).filter (gSf φ t0 t1 e.1)))) (yN n) (yH κ m) = some (stJ how (gW how φ t0 t1 e.1), mvI (gW how φ t0 t1 e.1), yH κ m') ∧ RG m' s hw ∧ rV φ t0 t1 how m' s.1 ∧ (∀ j, m.1 201 j ≠ -1 → m'.1 201 j ≠ -1) ∧ (∀ mv t, gSf φ t0 t1 e.1 mv = true → gLk s.1 (gNx e.1 mv) = some t → m'.1 201 t ≠ -1) ∧ yFr sGr m m' := by
  have hl := J.len
  have hkl := ge_lt hk
  have o := (J.nod k e hk).1
  intro D
  induction D with
  | zero =>
    intro n fu m hn hf hG hV h0 h1 hset
    obtain ⟨fu, rfl⟩ : ∃ k, fu = k + 1 := ⟨fu - 1, by omega⟩
    obtain rfl : n = 480 := by omega
    refine ⟨m, ?_, hG, hV, fun _ => id, fun mv t hs ht => hset mv t ?_ hs ht, yFr.rf m⟩
    · rw [f_232_37, if_pos (by decide), ← gW_e o]
    · have := gSf_b o hs
      have := o.1.1
      omega
  | succ D ih =>
    intro n fu m hn hf hG hV h0 h1 hset
    obtain ⟨fu, rfl⟩ : ∃ k, fu = k + 1 := ⟨fu - 1, by omega⟩
    obtain ⟨m1, e1, X1, F1⟩ := m224r (κ := κ) (hw := hw) yAr_192 (by omega) (show k < 400 by omega) hG.2.2.1 hk
    have o1 : ∀ y j, y ≠ 192 → m1.1 y j = m.1 y j := fun y j z => F1.2 y j z
    have R1 : RG m1 s hw := hG.c (fun y j z => o1 y j (by omega))
    have V1 : rV φ t0 t1 how m1 s.1 := fun k e h => by rw [F1.row (x := 201) (fun j z => by omega), F1.row (x := 202) (fun j z => by omega)]; exact hV k e h
    have G1 : yFr sGr m m1 := F1.wk (fun y j z => by have : y = 192 := z; unfold sGr; omega)
    have q0 : m1.1 178 7 = t0 := by rw [o1 _ _ (by omega)]; exact h0
    have q1 : m1.1 178 8 = t1 := by rw [o1 _ _ (by omega)]; exact h1
    rw [f_232_37, if_neg (by rw [yN_lle (by omega) (by omega)]; show ¬ 480 ≤ n; omega), yr_178_27, yBs, yis_178, pG_t, yBs, e1, yBs, yr_178_27, yBs]
    have e202 : f_202 192 (yN n) (yH κ m1) = some (yB (φ && tCg e.1.1 e.1.2 n), yH κ m1) := by
      cases hφ : φ with
      | true => rw [Bool.true_and]; exact s202 yAr_192 X1.tor o.1 (by rw [X1.2.2]; exact ho.1 hφ) (by omega)
      | false => rw [Bool.false_and]; exact s202f yAr_192 (by rw [X1.2.2]; exact ho.2 hφ)
    rw [e202, yBs]
    dsimp only
    have fno : gSf φ t0 t1 e.1 n = false → (List.range (n + 1)).filter (gSf φ t0 t1 e.1) = (List.range n).filter (gSf φ t0 t1 e.1) := fun z => by
      rw [List.range_succ, List.filter_append, List.filter_cons_of_neg (by rw [z]; decide), List.filter_nil, List.append_nil]
    have fye : gSf φ t0 t1 e.1 n = true → (List.range (n + 1)).filter (gSf φ t0 t1 e.1) = (List.range n).filter (gSf φ t0 t1 e.1) ++ [n] := fun z => by
      rw [List.range_succ, List.filter_append, List.filter_cons_of_pos z, List.filter_nil]
    have skip : ∀ (m2 : yM), gSf φ t0 t1 e.1 n = false → RG m2 s hw → (∀ y j, 200 ≤ y → y ≤ 203 → m2.1 y j = m.1 y j) → m2.1 178 7 = t0 → m2.1 178 8 = t1 → yFr sGr m m2 → ∃ m', f_232_37 F fu 178 (yN k) (yN how) (stJ how (gFd how (fun mv => gv (gW how φ t0 t1 (gNx e.1 mv))) ((List.range n).filter (gSf φ t0 t1 e.1)))) (mvI (gFd how (fun mv => gv (gW how φ t0 t1 (gNx e.1 mv))) ((List.range n).filter (gSf φ t0 t1 e.1)))) (yN n + 1) (yH κ m2) = some (stJ how (gW how φ t0 t1 e.1), mvI (gW how φ t0 t1 e.1), yH κ m') ∧ RG m' s hw ∧ rV φ t0 t1 how m' s.1 ∧ (∀ j, m.1 201 j ≠ -1 → m'.1 201 j ≠ -1) ∧ (∀ mv t, gSf φ t0 t1 e.1 mv = true → gLk s.1 (gNx e.1 mv) = some t → m'.1 201 t ≠ -1) ∧ yFr sGr m m' := by
      intro m2 hs R2 p2 a0 a1 G2
      have V2 : rV φ t0 t1 how m2 s.1 := fun k e h => by
        rcases hV k e h with z | ⟨z1, z2, z3⟩
        · exact Or.inl (by rw [p2 _ _ (by omega) (by omega)]; exact z)
        · exact Or.inr ⟨by rw [p2 _ _ (by omega) (by omega)]; exact z1, by rw [p2 _ _ (by omega) (by omega)]; exact z2, fun mv t u v => by rw [p2 _ _ (by omega) (by omega)]; exact z3 mv t u v⟩
      obtain ⟨m', b1, b2, b3, b4, b5, b6⟩ := ih (n + 1) fu m2 (by omega) (by omega) R2 V2 a0 a1 (fun mv t h2 h3 h4 => by
        rw [p2 _ _ (by omega) (by omega)]
        by_cases z : mv = n
        · subst z; rw [hs] at h3; simp at h3
        · exact hset mv t (by omega) h3 h4)
      rw [fno hs] at b1
      exact ⟨m', by rw [yN_addl]; exact b1, b2, b3, fun j hj => b4 j (by rw [p2 _ _ (by omega) (by omega)]; exact hj), b5, G2.tr b6 (fun _ _ => orSelf)⟩
    cases hc : (φ && tCg e.1.1 e.1.2 n) with
    | false =>
      have hs : gSf φ t0 t1 e.1 n = false := by
        cases z : gSf φ t0 t1 e.1 n with
        | false => rfl
        | true =>
          obtain ⟨-, z2, -⟩ := gSf_c z
          unfold gSf at z
          rw [Bool.and_eq_true] at z
          rw [z.1, z2] at hc; simp at hc
      rw [yB_f, if_pos rfl, yBs]
      exact skip m1 hs R1 (fun y j h2 h3 => o1 y j (by omega)) q0 q1 G1
    | true =>
      rw [Bool.and_eq_true] at hc
      rw [yB_t, if_neg (show ¬ ((1 : Int32) = 0) by decide), yr_178_27, yBs, yis_178, pG_t, yBs]
      obtain ⟨m2, v, e2, hv, F2, R2, p2, hsafe⟩ := mLd (κ := κ) (mv := n) J ho hcl hk R1 X1 q0 q1 (by omega) hc.2 hc.1
      have G2 : yFr sGr m m2 := G1.tr F2 (fun _ _ => orSelf)
      have p2' : ∀ y j, 200 ≤ y → y ≤ 203 → m2.1 y j = m.1 y j := fun y j h2 h3 => by rw [p2 y j h2 h3, o1 _ _ (by omega)]
      have a0 : m2.1 178 7 = t0 := by rw [F2.2 _ _ (by unfold sGr sM; omega)]; exact q0
      have a1 : m2.1 178 8 = t1 := by rw [F2.2 _ _ (by unfold sGr sM; omega)]; exact q1
      rw [e2, yBs]
      dsimp only
      cases hs : gSf φ t0 t1 e.1 n with
      | false =>
        have hv0 : ¬ v = 0 := fun z => by rw [hv.1 z] at hs; simp at hs
        rw [if_neg hv0, yBs]
        exact skip m2 hs R2 p2' a0 a1 G2
      | true =>
        obtain ⟨t, sl, ht, e5, e6⟩ := hsafe hs
        obtain ⟨e', he', hx', -, -, htl⟩ := edge_t J hk hs ht
        have V2 : rV φ t0 t1 how m2 s.1 := fun k e h => by
          rcases hV k e h with z | ⟨z1, z2, z3⟩
          · exact Or.inl (by rw [p2' _ _ (by omega) (by omega)]; exact z)
          · exact Or.inr ⟨by rw [p2' _ _ (by omega) (by omega)]; exact z1, by rw [p2' _ _ (by omega) (by omega)]; exact z2, fun mv t u v => by rw [p2' _ _ (by omega) (by omega)]; exact z3 mv t u v⟩
        obtain ⟨m3, e3, R3, V3, s3, k3, G3⟩ := hF t e' m2 he' (by rw [hx', gMu_nx o hs]; exact Nat.le_refl _) R2 V2 a0 a1
        rw [hx'] at e3
        have hle : gv (gW how φ t0 t1 (gNx e.1 n)) ≤ 49 := gW_le
        have hle0 : how = 0 → gv (gW how φ t0 t1 (gNx e.1 n)) ≤ 1 := fun z => by subst z; exact gW0_le (gNx_ok o hs)
        obtain ⟨m', b1, b2, b3, b4, b5, b6⟩ := ih (n + 1) fu m3 (by omega) (by omega) R3 V3 (by rw [G3.2 _ _ (by unfold sGr sM; omega)]; exact a0) (by rw [G3.2 _ _ (by unfold sGr sM; omega)]; exact a1) (fun mv t' h2 h3 h4 => by
          by_cases z : mv = n
          · subst z
            rw [ht] at h4
            simp only [Option.some.injEq] at h4
            subst h4
            exact s3
          · exact k3 t' (by rw [p2' _ _ (by omega) (by omega)]; exact hset mv t' (by omega) h3 h4))
        rw [fye hs, gFd_ap] at b1
        refine ⟨m', ?_, b2, b3, fun j hj => b4 j (k3 j (by rw [p2' _ _ (by omega) (by omega)]; exact hj)), b5, (G2.tr G3 (S3 := sGr) (fun _ _ => orSelf)).tr b6 (fun _ _ => orSelf)⟩
        have hcur : ∀ p, gFd how (fun mv => gv (gW how φ t0 t1 (gNx e.1 mv))) ((List.range n).filter (gSf φ t0 t1 e.1)) = some p → p.1 ≤ 50 := fun p hp => by
          obtain ⟨-, h2, -⟩ := gFd_m _ p.1 p.2 hp
          have : gv (gW how φ t0 t1 (gNx e.1 p.2)) ≤ 49 := gW_le
          rw [h2]; unfold gBe; split <;> omega
        generalize gFd how (fun mv => gv (gW how φ t0 t1 (gNx e.1 mv))) ((List.range n).filter (gSf φ t0 t1 e.1)) = st at *
        generalize hvv : gv (gW how φ t0 t1 (gNx e.1 n)) = vv at *
        have hgsp : gSp how (fun mv => gv (gW how φ t0 t1 (gNx e.1 mv))) st n = if gBt how st (gBe how vv) = true then some (gBe how vv, n) else st := by subst hvv; rfl
        rw [hgsp] at b1
        have hbe : gBe how vv ≤ 50 := by unfold gBe; split <;> omega
        have e64 : ((if yN how = 0 then some (1 - yN vv) else some (yN vv + 1)) : Option Int32) = some (yN (gBe how vv)) := by
          unfold gBe
          by_cases z : how = 0
          · have := hle0 z
            rw [if_pos z, if_pos (by rw [z]; rfl), show (1 : Int32) - yN vv = yN (1 - vv) from yN_lsub (by omega)]
          · rw [if_neg z, if_neg (by rw [yN_eql (by omega) (by omega)]; exact z), yN_addl]
        have e70 : ((if yN how = 2 then (if stJ how st < 0 then some 1 else (if stJ how st ≤ yN (gBe how vv) then some 0 else some 1)) else (if yN (gBe how vv) ≤ stJ how st then some 0 else some 1)) : Option Int32) = some (yB (gBt how st (gBe how vv))) := by
          unfold gBt stJ
          by_cases z : how = 2
          · rw [if_pos (by rw [z]; rfl)]
            cases st with
            | none =>
              dsimp only
              rw [if_pos z, if_pos (by decide), decide_eq_true (show 0 < gBe how vv by unfold gBe; rw [if_neg (by omega)]; omega)]; rfl
            | some p =>
              have := hcur p rfl
              dsimp only
              rw [if_pos (t := decide (gBe how vv < p.1)) z, if_neg (by rw [yN_ltl (by omega) (by omega)]; omega)]
              by_cases w : gBe how vv < p.1
              · rw [if_neg (by rw [yN_le (by omega) (by omega)]; omega), decide_eq_true w]; rfl
              · rw [if_pos (by rw [yN_le (by omega) (by omega)]; omega), decide_eq_false w]; rfl
          · rw [if_neg (by rw [yN_eql (by omega) (by omega)]; exact z)]
            cases st with
            | none =>
              dsimp only
              rw [if_neg z]
              by_cases w : 0 < gBe how vv
              · rw [if_neg (by rw [yN_lel (by omega) (by omega)]; omega), decide_eq_true w]; rfl
              · rw [if_pos (by rw [yN_lel (by omega) (by omega)]; omega), decide_eq_false w]; rfl
            | some p =>
              have := hcur p rfl
              dsimp only
              rw [if_neg (e := decide (p.1 < gBe how vv)) z]
              by_cases w : p.1 < gBe how vv
              · rw [if_neg (by rw [yN_le (by omega) (by omega)]; omega), decide_eq_true w]; rfl
              · rw [if_pos (by rw [yN_le (by omega) (by omega)]; omega), decide_eq_false w]; rfl
        rw [if_pos (hv.2 hs), yr_178_36, yBs, yr_178_27, yBs, yis_178, pG_t, yBs, e5, yBs]
        dsimp only
        rw [e6, yBs, yis_178, pG_t, yBs, e3, yBs]
        dsimp only
        rw [e64, yBs, e70, yBs]
        cases hbt : gBt how st (gBe how vv) with
        | true =>
          rw [hbt, if_pos rfl] at b1
          rw [yB_t, if_neg (show ¬ ((1 : Int32) = 0) by decide), yBs, if_neg (show ¬ ((1 : Int32) = 0) by decide), yBs, yBs]
          dsimp only
          rw [yN_addl]; exact b1
        | false =>
          rw [hbt, if_neg (show ¬ (false = true) by decide)] at b1
          rw [yB_f, if_pos rfl, yBs, if_pos rfl, yBs, yBs]
          dsimp only
          rw [yN_addl]; exact b1
end GQ
