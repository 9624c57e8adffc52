/-! ===== runs of the abstract machine, instruction by instruction ===== -/
theorem xRun_up : ∀ (n d M pc : Nat) (ls : xL) (st : List Value) (h : xH) (q : Option Value × xH), xRun n d M pc ls st h = some q → xRun (n + 1) d M pc ls st h = some q
  | 0, d, M, pc, ls, st, h, q, hs => by simp [xRun] at hs
  | n + 1, d, M, pc, ls, st, h, q, hs => by
    unfold xRun at hs ⊢
    split at hs
    next => cases hs
    next i len hd =>
      split at hs
      next => cases hs
      next hn =>
        try dsimp only
        rw [if_neg hn]
        split at hs
        next v1 hv => (try dsimp only); exact hs
        next hv =>
          try dsimp only
          split at hs
          next pc1 ls1 st1 h1 ha => (try dsimp only); exact xRun_up n d M _ _ _ _ _ hs
          next N as r ha =>
            try dsimp only
            split at hs
            next => cases hs
            next d1 =>
              try dsimp only
              split at hs
              next hc =>
                rw [if_pos hc]
                split at hs
                next v1 h1 hr =>
                  rw [xRun_up n _ _ _ _ _ _ _ hr]
                  try dsimp only
                  split at hs
                  next => cases hs
                  next hv1 =>
                    rw [if_neg hv1]
                    exact xRun_up n _ _ _ _ _ _ _ hs
                next => cases hs
              next => cases hs
          next N as r o ha =>
            try dsimp only
            split at hs
            next d1 =>
              try dsimp only
              split at hs
              next hc =>
                rw [if_pos hc]
                split at hs
                next v1 h1 hr =>
                  rw [xRun_up n _ _ _ _ _ _ _ hr]
                  try dsimp only
                  split at hs
                  next k h2 hca =>
                    try dsimp only
                    exact xRun_up n _ _ _ _ _ _ _ hs
                  next => cases hs
                next => cases hs
              next => cases hs
            next => cases hs
          next v1 h1 ha => (try dsimp only); exact hs
          next => cases hs
theorem xRun_up' {n m d M pc : Nat} {ls : xL} {st : List Value} {h : xH} {q : Option Value × xH} (hnm : n ≤ m) (hs : xRun n d M pc ls st h = some q) : xRun m d M pc ls st h = some q := by
  induction hnm with
  | refl => exact hs
  | step _ ih => exact xRun_up _ _ _ _ _ _ _ _ ih
section XWP
variable {d M o ml pc : Nat} {y : MethodName} {cc : ByteArray} {rt : Option FieldType} {ls ls2 : xL} {st : List Value} {h : xH} {Q : Option Value → xH → Prop}
theorem Wp.step {i : Instr} {len p2 : Nat} {st2 : List Value} {h2 : xH} (hM : xMeth M = (o, y, cc, ml, rt)) (hd : decode cc pc = .ok (i, len)) (hl : xLn i len = true) (hr : xRetI i M st = none) (hs : xStep i M pc ls st h = some (.inl (p2, ls2, st2, h2))) (k : Wp d M p2 ls2 st2 h2 Q) : Wp d M pc ls st h Q := by
  obtain ⟨n, v, h', hn, hq⟩ := k
  refine ⟨n + 1, v, h', ?_, hq⟩
  have hd' : decode (xCode M) pc = .ok (i, len) := by rw [show xCode M = cc by unfold xCode; rw [hM]]; exact hd
  unfold xRun
  rw [hd']
  dsimp only
  rw [hl, hr, hs]
  exact hn
theorem Wp.pure {i : Instr} {len p2 : Nat} {st2 : List Value} {h2 : xH} (hM : xMeth M = (o, y, cc, ml, rt)) (hd : decode cc pc = .ok (i, len)) (hl : xLn i len = true) (hr : xRetI i M st = none) (hi : xIdx i = none) (hs : xPure i pc ls st h = some (.inl (p2, ls2, st2, h2))) (k : Wp d M p2 ls2 st2 h2 Q) : Wp d M pc ls st h Q :=
  Wp.step hM hd hl hr (by unfold xStep; rw [hi]; dsimp only; rw [hs]) k
theorem Wp.ret {i : Instr} {len : Nat} {v : Option Value} (hM : xMeth M = (o, y, cc, ml, rt)) (hd : decode cc pc = .ok (i, len)) (hl : xLn i len = true) (hr : xRetI i M st = some v) (hq : Q v h) : Wp d M pc ls st h Q := by
  refine ⟨1, v, h, ?_, hq⟩
  have hd' : decode (xCode M) pc = .ok (i, len) := by rw [show xCode M = cc by unfold xCode; rw [hM]]; exact hd
  unfold xRun
  rw [hd']
  dsimp only
  rw [hl, hr]
  rfl
theorem Wp.weaken {Q' : Option Value → xH → Prop} (k : Wp d M pc ls st h Q') (hq : ∀ v h', Q' v h' → Q v h') : Wp d M pc ls st h Q := by
  obtain ⟨n, v, h', hn, h1⟩ := k
  exact ⟨n, v, h', hn, hq v h' h1⟩
theorem Wp.call {i : Instr} {w j N : Nat} {as r : List Value} {ls0 : xL} {Qc : Option Value → xH → Prop} (hM : xMeth M = (o, y, cc, ml, rt)) (hd : decode cc pc = .ok (i, 3)) (hl : xLn i 3 = true) (hr : xRetI i M st = none) (hs : xStep i M pc ls st h = some (.inr (.inl (N, as, r, none)))) (hL : xMaxL N ≤ 40 ∧ (xArgs as).length ≤ xMaxL N) (he : xEntry N as = ls0) (hc : Wp d N 0 ls0 [] h Qc) (k : ∀ v h', Qc v h' → v ≠ some .null ∧ Wp (d + 1) M (pc + 3) ls (v.toList ++ r) h' Q) : Wp (d + 1) M pc ls st h Q := by
  subst he
  obtain ⟨n1, v1, h1, hn1, hq1⟩ := hc
  obtain ⟨hv1, n2, v2, h2, hn2, hq2⟩ := k v1 h1 hq1
  refine ⟨max n1 n2 + 1, v2, h2, ?_, hq2⟩
  have hd' : decode (xCode M) pc = .ok (i, 3) := by rw [show xCode M = cc by unfold xCode; rw [hM]]; exact hd
  unfold xRun
  rw [hd']
  dsimp only
  rw [hl, hr, hs]
  dsimp only
  rw [if_neg (by decide), if_pos hL, xRun_up' (Nat.le_max_left n1 n2) hn1]
  dsimp only
  rw [if_neg hv1]
  exact xRun_up' (Nat.le_max_right n1 n2) hn2
theorem wp_iconst {n : Int} (v : Int32) (hM : xMeth M = (o, y, cc, ml, rt)) (hd : decode cc pc = .ok (.iconst n, 1)) (hv : Int32.ofInt n = v) (k : Wp d M (pc + 1) ls (.int v :: st) h Q) : Wp d M pc ls st h Q := Wp.pure hM hd rfl rfl rfl (by subst hv; rfl) k
theorem wp_bipush {n : Int} (v : Int32) (hM : xMeth M = (o, y, cc, ml, rt)) (hd : decode cc pc = .ok (.bipush n, 2)) (hv : (Int8.ofInt n).toInt32 = v) (k : Wp d M (pc + 2) ls (.int v :: st) h Q) : Wp d M pc ls st h Q := Wp.pure hM hd rfl rfl rfl (by subst hv; rfl) k
theorem wp_sipush {n : Int} (v : Int32) (hM : xMeth M = (o, y, cc, ml, rt)) (hd : decode cc pc = .ok (.sipush n, 3)) (hv : (Int16.ofInt n).toInt32 = v) (k : Wp d M (pc + 3) ls (.int v :: st) h Q) : Wp d M pc ls st h Q := Wp.pure hM hd rfl rfl rfl (by subst hv; rfl) k
theorem wp_lconst {n : Fin 2} (v : Int64) (hM : xMeth M = (o, y, cc, ml, rt)) (hd : decode cc pc = .ok (.lconst n, 1)) (hv : Int64.ofNat (n : Nat) = v) (k : Wp d M (pc + 1) ls (.long v :: st) h Q) : Wp d M pc ls st h Q := Wp.pure hM hd rfl rfl rfl (by subst hv; rfl) k
theorem wp_iload {i : Nat} {x : Int32} (hM : xMeth M = (o, y, cc, ml, rt)) (hd : decode cc pc = .ok (.iload i, 2)) (hl : ls[i]? = some (some (.int x))) (k : Wp d M (pc + 2) ls (.int x :: st) h Q) : Wp d M pc ls st h Q := Wp.pure hM hd rfl rfl rfl (by show xLdI (pc + 2) ls st h i = _; unfold xLdI; rw [hl]; rfl) k
theorem wp_iload_n {i : Fin 4} {x : Int32} (hM : xMeth M = (o, y, cc, ml, rt)) (hd : decode cc pc = .ok (.iload_n i, 1)) (hl : ls[(i : Nat)]? = some (some (.int x))) (k : Wp d M (pc + 1) ls (.int x :: st) h Q) : Wp d M pc ls st h Q := Wp.pure hM hd rfl rfl rfl (by show xLdI (pc + 1) ls st h i = _; unfold xLdI; rw [hl]; rfl) k
theorem wp_lload {i : Nat} {x : Int64} (hM : xMeth M = (o, y, cc, ml, rt)) (hd : decode cc pc = .ok (.lload i, 2)) (hl : ls[i]? = some (some (.long x))) (k : Wp d M (pc + 2) ls (.long x :: st) h Q) : Wp d M pc ls st h Q := Wp.pure hM hd rfl rfl rfl (by show xLdL (pc + 2) ls st h i = _; unfold xLdL; rw [hl]; rfl) k
theorem wp_lload_n {i : Fin 4} {x : Int64} (hM : xMeth M = (o, y, cc, ml, rt)) (hd : decode cc pc = .ok (.lload_n i, 1)) (hl : ls[(i : Nat)]? = some (some (.long x))) (k : Wp d M (pc + 1) ls (.long x :: st) h Q) : Wp d M pc ls st h Q := Wp.pure hM hd rfl rfl rfl (by show xLdL (pc + 1) ls st h i = _; unfold xLdL; rw [hl]; rfl) k
theorem wp_aload {i : Nat} {x : Nat} (hM : xMeth M = (o, y, cc, ml, rt)) (hd : decode cc pc = .ok (.aload i, 2)) (hl : ls[i]? = some (some (.ref x))) (k : Wp d M (pc + 2) ls (.ref x :: st) h Q) : Wp d M pc ls st h Q := Wp.pure hM hd rfl rfl rfl (by show xLdA (pc + 2) ls st h i = _; unfold xLdA; rw [hl]; rfl) k
theorem wp_aload_n {i : Fin 4} {x : Nat} (hM : xMeth M = (o, y, cc, ml, rt)) (hd : decode cc pc = .ok (.aload_n i, 1)) (hl : ls[(i : Nat)]? = some (some (.ref x))) (k : Wp d M (pc + 1) ls (.ref x :: st) h Q) : Wp d M pc ls st h Q := Wp.pure hM hd rfl rfl rfl (by show xLdA (pc + 1) ls st h i = _; unfold xLdA; rw [hl]; rfl) k
theorem wp_istore {i : Nat} {x : Int32} (ls2 : xL) (hM : xMeth M = (o, y, cc, ml, rt)) (hd : decode cc pc = .ok (.istore i, 2)) (hl : xSet ls i (.int x) = some ls2) (k : Wp d M (pc + 2) ls2 st h Q) : Wp d M pc ls (.int x :: st) h Q := Wp.pure hM hd rfl rfl rfl (by show xStI (pc + 2) ls (.int x :: st) h i = _; unfold xStI; dsimp only; rw [hl]; rfl) k
theorem wp_istore_n {i : Fin 4} {x : Int32} (ls2 : xL) (hM : xMeth M = (o, y, cc, ml, rt)) (hd : decode cc pc = .ok (.istore_n i, 1)) (hl : xSet ls i (.int x) = some ls2) (k : Wp d M (pc + 1) ls2 st h Q) : Wp d M pc ls (.int x :: st) h Q := Wp.pure hM hd rfl rfl rfl (by show xStI (pc + 1) ls (.int x :: st) h i = _; unfold xStI; dsimp only; rw [hl]; rfl) k
theorem wp_lstore {i : Nat} {x : Int64} (ls2 : xL) (hM : xMeth M = (o, y, cc, ml, rt)) (hd : decode cc pc = .ok (.lstore i, 2)) (hl : xSet2 ls i (.long x) = some ls2) (k : Wp d M (pc + 2) ls2 st h Q) : Wp d M pc ls (.long x :: st) h Q := Wp.pure hM hd rfl rfl rfl (by show xStL (pc + 2) ls (.long x :: st) h i = _; unfold xStL; dsimp only; rw [hl]; rfl) k
theorem wp_lstore_n {i : Fin 4} {x : Int64} (ls2 : xL) (hM : xMeth M = (o, y, cc, ml, rt)) (hd : decode cc pc = .ok (.lstore_n i, 1)) (hl : xSet2 ls i (.long x) = some ls2) (k : Wp d M (pc + 1) ls2 st h Q) : Wp d M pc ls (.long x :: st) h Q := Wp.pure hM hd rfl rfl rfl (by show xStL (pc + 1) ls (.long x :: st) h i = _; unfold xStL; dsimp only; rw [hl]; rfl) k
theorem wp_astore {i : Nat} {x : Nat} (ls2 : xL) (hM : xMeth M = (o, y, cc, ml, rt)) (hd : decode cc pc = .ok (.astore i, 2)) (hl : xSet ls i (.ref x) = some ls2) (k : Wp d M (pc + 2) ls2 st h Q) : Wp d M pc ls (.ref x :: st) h Q := Wp.pure hM hd rfl rfl rfl (by show xStA (pc + 2) ls (.ref x :: st) h i = _; unfold xStA; dsimp only; rw [hl]; rfl) k
theorem wp_astore_n {i : Fin 4} {x : Nat} (ls2 : xL) (hM : xMeth M = (o, y, cc, ml, rt)) (hd : decode cc pc = .ok (.astore_n i, 1)) (hl : xSet ls i (.ref x) = some ls2) (k : Wp d M (pc + 1) ls2 st h Q) : Wp d M pc ls (.ref x :: st) h Q := Wp.pure hM hd rfl rfl rfl (by show xStA (pc + 1) ls (.ref x :: st) h i = _; unfold xStA; dsimp only; rw [hl]; rfl) k
theorem wp_iinc {i : Nat} {n : Int} {x : Int32} (v : Int32) (ls2 : xL) (hM : xMeth M = (o, y, cc, ml, rt)) (hd : decode cc pc = .ok (.iinc i n, 3)) (hl : ls[i]? = some (some (.int x))) (hv : x + Int32.ofInt n = v) (hl2 : xSet ls i (.int v) = some ls2) (k : Wp d M (pc + 3) ls2 st h Q) : Wp d M pc ls st h Q := Wp.pure hM hd rfl rfl rfl (by subst hv; show (match ls[i]? with | some (some (.int x)) => (xSet ls i (.int (x + Int32.ofInt n))).bind fun ls2 => xNx (pc + 3) ls2 st h | _ => none) = _; rw [hl]; dsimp only; rw [hl2]; rfl) k
theorem wp_iadd {x y9 : Int32} (hM : xMeth M = (o, y, cc, ml, rt)) (hd : decode cc pc = .ok (.iadd, 1)) (k : Wp d M (pc + 1) ls (.int (x + y9) :: st) h Q) : Wp d M pc ls (.int y9 :: .int x :: st) h Q := Wp.pure hM hd rfl rfl rfl rfl k
theorem wp_isub {x y9 : Int32} (hM : xMeth M = (o, y, cc, ml, rt)) (hd : decode cc pc = .ok (.isub, 1)) (k : Wp d M (pc + 1) ls (.int (x - y9) :: st) h Q) : Wp d M pc ls (.int y9 :: .int x :: st) h Q := Wp.pure hM hd rfl rfl rfl rfl k
theorem wp_imul {x y9 : Int32} (hM : xMeth M = (o, y, cc, ml, rt)) (hd : decode cc pc = .ok (.imul, 1)) (k : Wp d M (pc + 1) ls (.int (x * y9) :: st) h Q) : Wp d M pc ls (.int y9 :: .int x :: st) h Q := Wp.pure hM hd rfl rfl rfl rfl k
theorem wp_iand {x y9 : Int32} (hM : xMeth M = (o, y, cc, ml, rt)) (hd : decode cc pc = .ok (.iand, 1)) (k : Wp d M (pc + 1) ls (.int (x &&& y9) :: st) h Q) : Wp d M pc ls (.int y9 :: .int x :: st) h Q := Wp.pure hM hd rfl rfl rfl rfl k
theorem wp_ior {x y9 : Int32} (hM : xMeth M = (o, y, cc, ml, rt)) (hd : decode cc pc = .ok (.ior, 1)) (k : Wp d M (pc + 1) ls (.int (x ||| y9) :: st) h Q) : Wp d M pc ls (.int y9 :: .int x :: st) h Q := Wp.pure hM hd rfl rfl rfl rfl k
theorem wp_ixor {x y9 : Int32} (hM : xMeth M = (o, y, cc, ml, rt)) (hd : decode cc pc = .ok (.ixor, 1)) (k : Wp d M (pc + 1) ls (.int (x ^^^ y9) :: st) h Q) : Wp d M pc ls (.int y9 :: .int x :: st) h Q := Wp.pure hM hd rfl rfl rfl rfl k
theorem wp_ishl {x y9 : Int32} (hM : xMeth M = (o, y, cc, ml, rt)) (hd : decode cc pc = .ok (.ishl, 1)) (k : Wp d M (pc + 1) ls (.int (x <<< (y9 &&& 31)) :: st) h Q) : Wp d M pc ls (.int y9 :: .int x :: st) h Q := Wp.pure hM hd rfl rfl rfl rfl k
theorem wp_ishr {x y9 : Int32} (hM : xMeth M = (o, y, cc, ml, rt)) (hd : decode cc pc = .ok (.ishr, 1)) (k : Wp d M (pc + 1) ls (.int (x >>> (y9 &&& 31)) :: st) h Q) : Wp d M pc ls (.int y9 :: .int x :: st) h Q := Wp.pure hM hd rfl rfl rfl rfl k
theorem wp_iushr {x y9 : Int32} (hM : xMeth M = (o, y, cc, ml, rt)) (hd : decode cc pc = .ok (.iushr, 1)) (k : Wp d M (pc + 1) ls (.int ((x.toUInt32 >>> (y9.toUInt32 &&& Int32.toUInt32 31)).toInt32) :: st) h Q) : Wp d M pc ls (.int y9 :: .int x :: st) h Q := Wp.pure hM hd rfl rfl rfl rfl k
theorem wp_idiv {x y9 : Int32} (hM : xMeth M = (o, y, cc, ml, rt)) (hd : decode cc pc = .ok (.idiv, 1)) (hy : ¬ y9 = 0) (k : Wp d M (pc + 1) ls (.int (x / y9) :: st) h Q) : Wp d M pc ls (.int y9 :: .int x :: st) h Q := Wp.pure hM hd rfl rfl rfl (by simp only [xPure, xID]; rw [if_neg hy]; rfl) k
theorem wp_irem {x y9 : Int32} (hM : xMeth M = (o, y, cc, ml, rt)) (hd : decode cc pc = .ok (.irem, 1)) (hy : ¬ y9 = 0) (k : Wp d M (pc + 1) ls (.int (x - x / y9 * y9) :: st) h Q) : Wp d M pc ls (.int y9 :: .int x :: st) h Q := Wp.pure hM hd rfl rfl rfl (by simp only [xPure, xID]; rw [if_neg hy]; rfl) k
theorem wp_ladd {x y9 : Int64} (hM : xMeth M = (o, y, cc, ml, rt)) (hd : decode cc pc = .ok (.ladd, 1)) (k : Wp d M (pc + 1) ls (.long (x + y9) :: st) h Q) : Wp d M pc ls (.long y9 :: .long x :: st) h Q := Wp.pure hM hd rfl rfl rfl rfl k
theorem wp_lmul {x y9 : Int64} (hM : xMeth M = (o, y, cc, ml, rt)) (hd : decode cc pc = .ok (.lmul, 1)) (k : Wp d M (pc + 1) ls (.long (x * y9) :: st) h Q) : Wp d M pc ls (.long y9 :: .long x :: st) h Q := Wp.pure hM hd rfl rfl rfl rfl k
theorem wp_land {x y9 : Int64} (hM : xMeth M = (o, y, cc, ml, rt)) (hd : decode cc pc = .ok (.land, 1)) (k : Wp d M (pc + 1) ls (.long (x &&& y9) :: st) h Q) : Wp d M pc ls (.long y9 :: .long x :: st) h Q := Wp.pure hM hd rfl rfl rfl rfl k
theorem wp_lor {x y9 : Int64} (hM : xMeth M = (o, y, cc, ml, rt)) (hd : decode cc pc = .ok (.lor, 1)) (k : Wp d M (pc + 1) ls (.long (x ||| y9) :: st) h Q) : Wp d M pc ls (.long y9 :: .long x :: st) h Q := Wp.pure hM hd rfl rfl rfl rfl k
theorem wp_lxor {x y9 : Int64} (hM : xMeth M = (o, y, cc, ml, rt)) (hd : decode cc pc = .ok (.lxor, 1)) (k : Wp d M (pc + 1) ls (.long (x ^^^ y9) :: st) h Q) : Wp d M pc ls (.long y9 :: .long x :: st) h Q := Wp.pure hM hd rfl rfl rfl rfl k
theorem wp_lcmp {x y9 : Int64} (hM : xMeth M = (o, y, cc, ml, rt)) (hd : decode cc pc = .ok (.lcmp, 1)) (k : Wp d M (pc + 1) ls (.int (lg_cmp x y9) :: st) h Q) : Wp d M pc ls (.long y9 :: .long x :: st) h Q := Wp.pure hM hd rfl rfl rfl rfl k
theorem wp_ldiv {x y9 : Int64} (hM : xMeth M = (o, y, cc, ml, rt)) (hd : decode cc pc = .ok (.ldiv, 1)) (hy : ¬ y9 = 0) (k : Wp d M (pc + 1) ls (.long (x / y9) :: st) h Q) : Wp d M pc ls (.long y9 :: .long x :: st) h Q := Wp.pure hM hd rfl rfl rfl (by simp only [xPure, xLD]; rw [if_neg hy]; rfl) k
theorem wp_lrem {x y9 : Int64} (hM : xMeth M = (o, y, cc, ml, rt)) (hd : decode cc pc = .ok (.lrem, 1)) (hy : ¬ y9 = 0) (k : Wp d M (pc + 1) ls (.long (x - x / y9 * y9) :: st) h Q) : Wp d M pc ls (.long y9 :: .long x :: st) h Q := Wp.pure hM hd rfl rfl rfl (by simp only [xPure, xLD]; rw [if_neg hy]; rfl) k
theorem wp_lshl {x : Int64} {y9 : Int32} (hM : xMeth M = (o, y, cc, ml, rt)) (hd : decode cc pc = .ok (.lshl, 1)) (k : Wp d M (pc + 1) ls (.long (x <<< (y9.toInt64 &&& 63)) :: st) h Q) : Wp d M pc ls (.int y9 :: .long x :: st) h Q := Wp.pure hM hd rfl rfl rfl rfl k
theorem wp_lushr {x : Int64} {y9 : Int32} (hM : xMeth M = (o, y, cc, ml, rt)) (hd : decode cc pc = .ok (.lushr, 1)) (k : Wp d M (pc + 1) ls (.long ((x.toUInt64 >>> (y9.toInt64.toUInt64 &&& Int64.toUInt64 63)).toInt64) :: st) h Q) : Wp d M pc ls (.int y9 :: .long x :: st) h Q := Wp.pure hM hd rfl rfl rfl rfl k
theorem wp_ineg {x : Int32} (hM : xMeth M = (o, y, cc, ml, rt)) (hd : decode cc pc = .ok (.ineg, 1)) (k : Wp d M (pc + 1) ls (.int (-x) :: st) h Q) : Wp d M pc ls (.int x :: st) h Q := Wp.pure hM hd rfl rfl rfl rfl k
theorem wp_i2l {x : Int32} (hM : xMeth M = (o, y, cc, ml, rt)) (hd : decode cc pc = .ok (.i2l, 1)) (k : Wp d M (pc + 1) ls (.long x.toInt64 :: st) h Q) : Wp d M pc ls (.int x :: st) h Q := Wp.pure hM hd rfl rfl rfl rfl k
theorem wp_i2b {x : Int32} (hM : xMeth M = (o, y, cc, ml, rt)) (hd : decode cc pc = .ok (.i2b, 1)) (k : Wp d M (pc + 1) ls (.int x.toInt8.toInt32 :: st) h Q) : Wp d M pc ls (.int x :: st) h Q := Wp.pure hM hd rfl rfl rfl rfl k
theorem wp_i2s {x : Int32} (hM : xMeth M = (o, y, cc, ml, rt)) (hd : decode cc pc = .ok (.i2s, 1)) (k : Wp d M (pc + 1) ls (.int x.toInt16.toInt32 :: st) h Q) : Wp d M pc ls (.int x :: st) h Q := Wp.pure hM hd rfl rfl rfl rfl k
theorem wp_i2c {x : Int32} (hM : xMeth M = (o, y, cc, ml, rt)) (hd : decode cc pc = .ok (.i2c, 1)) (k : Wp d M (pc + 1) ls (.int (x.toUInt32 % 65536).toInt32 :: st) h Q) : Wp d M pc ls (.int x :: st) h Q := Wp.pure hM hd rfl rfl rfl rfl k
theorem wp_l2i {x : Int64} (hM : xMeth M = (o, y, cc, ml, rt)) (hd : decode cc pc = .ok (.l2i, 1)) (k : Wp d M (pc + 1) ls (.int x.toInt32 :: st) h Q) : Wp d M pc ls (.long x :: st) h Q := Wp.pure hM hd rfl rfl rfl rfl k
theorem wp_dup {v : Value} (hM : xMeth M = (o, y, cc, ml, rt)) (hd : decode cc pc = .ok (.dup, 1)) (hv : v.category = 1) (k : Wp d M (pc + 1) ls (v :: v :: st) h Q) : Wp d M pc ls (v :: st) h Q := Wp.pure hM hd rfl rfl rfl (by simp [xPure, hv, xNx]) k
theorem wp_pop {v : Value} (hM : xMeth M = (o, y, cc, ml, rt)) (hd : decode cc pc = .ok (.pop, 1)) (hv : v.category = 1) (k : Wp d M (pc + 1) ls st h Q) : Wp d M pc ls (v :: st) h Q := Wp.pure hM hd rfl rfl rfl (by simp [xPure, hv, xNx]) k
theorem wp_dup_x1 {v w : Value} (hM : xMeth M = (o, y, cc, ml, rt)) (hd : decode cc pc = .ok (.dup_x1, 1)) (hv : v.category = 1) (hw : w.category = 1) (k : Wp d M (pc + 1) ls (v :: w :: v :: st) h Q) : Wp d M pc ls (v :: w :: st) h Q := Wp.pure hM hd rfl rfl rfl (by simp [xPure, hv, hw, xNx]) k
theorem wp_dup2 {v w : Value} (hM : xMeth M = (o, y, cc, ml, rt)) (hd : decode cc pc = .ok (.dup2, 1)) (hv : v.category = 1) (hw : w.category = 1) (k : Wp d M (pc + 1) ls (v :: w :: v :: w :: st) h Q) : Wp d M pc ls (v :: w :: st) h Q := Wp.pure hM hd rfl rfl rfl (by simp [xPure, hv, hw, xNx]) k
theorem wp_goto {off : Int} (t : Nat) (hM : xMeth M = (o, y, cc, ml, rt)) (hd : decode cc pc = .ok (.goto off, 3)) (ht : (pc : Int) + off = (t : Int)) (k : Wp d M t ls st h Q) : Wp d M pc ls st h Q := Wp.pure hM hd rfl rfl rfl (by show xJ pc off ls st h = _; unfold xJ; rw [if_pos (by omega), ht]; rfl) k
theorem wp_if_eq {x : Int32} {off : Int} (t : Nat) (hM : xMeth M = (o, y, cc, ml, rt)) (hd : decode cc pc = .ok (.ifCond .eq off, 3)) (ht : (pc : Int) + off = (t : Int)) (kt : x = 0 → Wp d M t ls st h Q) (kf : ¬ x = 0 → Wp d M (pc + 3) ls st h Q) : Wp d M pc ls (.int x :: st) h Q := by
  by_cases hc : xCm .eq x 0 = true
  · refine Wp.pure (p2 := t) (ls2 := ls) (st2 := st) (h2 := h) hM hd rfl rfl rfl ?_ (kt (by simpa [xCm] using hc))
    simp only [xPure]; rw [if_neg (by omega), if_pos hc, ht]; rfl
  · refine Wp.pure (p2 := pc + 3) (ls2 := ls) (st2 := st) (h2 := h) hM hd rfl rfl rfl ?_ (kf (by simpa [xCm] using hc))
    simp only [xPure]; rw [if_neg (by omega), if_neg hc]; rfl
theorem wp_icmp_eq {x y9 : Int32} {off : Int} (t : Nat) (hM : xMeth M = (o, y, cc, ml, rt)) (hd : decode cc pc = .ok (.if_icmp .eq off, 3)) (ht : (pc : Int) + off = (t : Int)) (kt : x = y9 → Wp d M t ls st h Q) (kf : ¬ x = y9 → Wp d M (pc + 3) ls st h Q) : Wp d M pc ls (.int y9 :: .int x :: st) h Q := by
  by_cases hc : xCm .eq x y9 = true
  · refine Wp.pure (p2 := t) (ls2 := ls) (st2 := st) (h2 := h) hM hd rfl rfl rfl ?_ (kt (by simpa [xCm] using hc))
    simp only [xPure]; rw [if_neg (by omega), if_pos hc, ht]; rfl
  · refine Wp.pure (p2 := pc + 3) (ls2 := ls) (st2 := st) (h2 := h) hM hd rfl rfl rfl ?_ (kf (by simpa [xCm] using hc))
    simp only [xPure]; rw [if_neg (by omega), if_neg hc]; rfl
theorem wp_if_ne {x : Int32} {off : Int} (t : Nat) (hM : xMeth M = (o, y, cc, ml, rt)) (hd : decode cc pc = .ok (.ifCond .ne off, 3)) (ht : (pc : Int) + off = (t : Int)) (kt : ¬ x = 0 → Wp d M t ls st h Q) (kf : x = 0 → Wp d M (pc + 3) ls st h Q) : Wp d M pc ls (.int x :: st) h Q := by
  by_cases hc : xCm .ne x 0 = true
  · refine Wp.pure (p2 := t) (ls2 := ls) (st2 := st) (h2 := h) hM hd rfl rfl rfl ?_ (kt (by simpa [xCm] using hc))
    simp only [xPure]; rw [if_neg (by omega), if_pos hc, ht]; rfl
  · refine Wp.pure (p2 := pc + 3) (ls2 := ls) (st2 := st) (h2 := h) hM hd rfl rfl rfl ?_ (kf (by simpa [xCm] using hc))
    simp only [xPure]; rw [if_neg (by omega), if_neg hc]; rfl
theorem wp_icmp_ne {x y9 : Int32} {off : Int} (t : Nat) (hM : xMeth M = (o, y, cc, ml, rt)) (hd : decode cc pc = .ok (.if_icmp .ne off, 3)) (ht : (pc : Int) + off = (t : Int)) (kt : ¬ x = y9 → Wp d M t ls st h Q) (kf : x = y9 → Wp d M (pc + 3) ls st h Q) : Wp d M pc ls (.int y9 :: .int x :: st) h Q := by
  by_cases hc : xCm .ne x y9 = true
  · refine Wp.pure (p2 := t) (ls2 := ls) (st2 := st) (h2 := h) hM hd rfl rfl rfl ?_ (kt (by simpa [xCm] using hc))
    simp only [xPure]; rw [if_neg (by omega), if_pos hc, ht]; rfl
  · refine Wp.pure (p2 := pc + 3) (ls2 := ls) (st2 := st) (h2 := h) hM hd rfl rfl rfl ?_ (kf (by simpa [xCm] using hc))
    simp only [xPure]; rw [if_neg (by omega), if_neg hc]; rfl
theorem wp_if_lt {x : Int32} {off : Int} (t : Nat) (hM : xMeth M = (o, y, cc, ml, rt)) (hd : decode cc pc = .ok (.ifCond .lt off, 3)) (ht : (pc : Int) + off = (t : Int)) (kt : x < 0 → Wp d M t ls st h Q) (kf : ¬ x < 0 → Wp d M (pc + 3) ls st h Q) : Wp d M pc ls (.int x :: st) h Q := by
  by_cases hc : xCm .lt x 0 = true
  · refine Wp.pure (p2 := t) (ls2 := ls) (st2 := st) (h2 := h) hM hd rfl rfl rfl ?_ (kt (by simpa [xCm] using hc))
    simp only [xPure]; rw [if_neg (by omega), if_pos hc, ht]; rfl
  · refine Wp.pure (p2 := pc + 3) (ls2 := ls) (st2 := st) (h2 := h) hM hd rfl rfl rfl ?_ (kf (by simpa [xCm] using hc))
    simp only [xPure]; rw [if_neg (by omega), if_neg hc]; rfl
theorem wp_icmp_lt {x y9 : Int32} {off : Int} (t : Nat) (hM : xMeth M = (o, y, cc, ml, rt)) (hd : decode cc pc = .ok (.if_icmp .lt off, 3)) (ht : (pc : Int) + off = (t : Int)) (kt : x < y9 → Wp d M t ls st h Q) (kf : ¬ x < y9 → Wp d M (pc + 3) ls st h Q) : Wp d M pc ls (.int y9 :: .int x :: st) h Q := by
  by_cases hc : xCm .lt x y9 = true
  · refine Wp.pure (p2 := t) (ls2 := ls) (st2 := st) (h2 := h) hM hd rfl rfl rfl ?_ (kt (by simpa [xCm] using hc))
    simp only [xPure]; rw [if_neg (by omega), if_pos hc, ht]; rfl
  · refine Wp.pure (p2 := pc + 3) (ls2 := ls) (st2 := st) (h2 := h) hM hd rfl rfl rfl ?_ (kf (by simpa [xCm] using hc))
    simp only [xPure]; rw [if_neg (by omega), if_neg hc]; rfl
theorem wp_if_ge {x : Int32} {off : Int} (t : Nat) (hM : xMeth M = (o, y, cc, ml, rt)) (hd : decode cc pc = .ok (.ifCond .ge off, 3)) (ht : (pc : Int) + off = (t : Int)) (kt : 0 ≤ x → Wp d M t ls st h Q) (kf : ¬ 0 ≤ x → Wp d M (pc + 3) ls st h Q) : Wp d M pc ls (.int x :: st) h Q := by
  by_cases hc : xCm .ge x 0 = true
  · refine Wp.pure (p2 := t) (ls2 := ls) (st2 := st) (h2 := h) hM hd rfl rfl rfl ?_ (kt (by simpa [xCm] using hc))
    simp only [xPure]; rw [if_neg (by omega), if_pos hc, ht]; rfl
  · refine Wp.pure (p2 := pc + 3) (ls2 := ls) (st2 := st) (h2 := h) hM hd rfl rfl rfl ?_ (kf (by simpa [xCm] using hc))
    simp only [xPure]; rw [if_neg (by omega), if_neg hc]; rfl
theorem wp_icmp_ge {x y9 : Int32} {off : Int} (t : Nat) (hM : xMeth M = (o, y, cc, ml, rt)) (hd : decode cc pc = .ok (.if_icmp .ge off, 3)) (ht : (pc : Int) + off = (t : Int)) (kt : y9 ≤ x → Wp d M t ls st h Q) (kf : ¬ y9 ≤ x → Wp d M (pc + 3) ls st h Q) : Wp d M pc ls (.int y9 :: .int x :: st) h Q := by
  by_cases hc : xCm .ge x y9 = true
  · refine Wp.pure (p2 := t) (ls2 := ls) (st2 := st) (h2 := h) hM hd rfl rfl rfl ?_ (kt (by simpa [xCm] using hc))
    simp only [xPure]; rw [if_neg (by omega), if_pos hc, ht]; rfl
  · refine Wp.pure (p2 := pc + 3) (ls2 := ls) (st2 := st) (h2 := h) hM hd rfl rfl rfl ?_ (kf (by simpa [xCm] using hc))
    simp only [xPure]; rw [if_neg (by omega), if_neg hc]; rfl
theorem wp_if_gt {x : Int32} {off : Int} (t : Nat) (hM : xMeth M = (o, y, cc, ml, rt)) (hd : decode cc pc = .ok (.ifCond .gt off, 3)) (ht : (pc : Int) + off = (t : Int)) (kt : 0 < x → Wp d M t ls st h Q) (kf : ¬ 0 < x → Wp d M (pc + 3) ls st h Q) : Wp d M pc ls (.int x :: st) h Q := by
  by_cases hc : xCm .gt x 0 = true
  · refine Wp.pure (p2 := t) (ls2 := ls) (st2 := st) (h2 := h) hM hd rfl rfl rfl ?_ (kt (by simpa [xCm] using hc))
    simp only [xPure]; rw [if_neg (by omega), if_pos hc, ht]; rfl
  · refine Wp.pure (p2 := pc + 3) (ls2 := ls) (st2 := st) (h2 := h) hM hd rfl rfl rfl ?_ (kf (by simpa [xCm] using hc))
    simp only [xPure]; rw [if_neg (by omega), if_neg hc]; rfl
theorem wp_icmp_gt {x y9 : Int32} {off : Int} (t : Nat) (hM : xMeth M = (o, y, cc, ml, rt)) (hd : decode cc pc = .ok (.if_icmp .gt off, 3)) (ht : (pc : Int) + off = (t : Int)) (kt : y9 < x → Wp d M t ls st h Q) (kf : ¬ y9 < x → Wp d M (pc + 3) ls st h Q) : Wp d M pc ls (.int y9 :: .int x :: st) h Q := by
  by_cases hc : xCm .gt x y9 = true
  · refine Wp.pure (p2 := t) (ls2 := ls) (st2 := st) (h2 := h) hM hd rfl rfl rfl ?_ (kt (by simpa [xCm] using hc))
    simp only [xPure]; rw [if_neg (by omega), if_pos hc, ht]; rfl
  · refine Wp.pure (p2 := pc + 3) (ls2 := ls) (st2 := st) (h2 := h) hM hd rfl rfl rfl ?_ (kf (by simpa [xCm] using hc))
    simp only [xPure]; rw [if_neg (by omega), if_neg hc]; rfl
theorem wp_if_le {x : Int32} {off : Int} (t : Nat) (hM : xMeth M = (o, y, cc, ml, rt)) (hd : decode cc pc = .ok (.ifCond .le off, 3)) (ht : (pc : Int) + off = (t : Int)) (kt : x ≤ 0 → Wp d M t ls st h Q) (kf : ¬ x ≤ 0 → Wp d M (pc + 3) ls st h Q) : Wp d M pc ls (.int x :: st) h Q := by
  by_cases hc : xCm .le x 0 = true
  · refine Wp.pure (p2 := t) (ls2 := ls) (st2 := st) (h2 := h) hM hd rfl rfl rfl ?_ (kt (by simpa [xCm] using hc))
    simp only [xPure]; rw [if_neg (by omega), if_pos hc, ht]; rfl
  · refine Wp.pure (p2 := pc + 3) (ls2 := ls) (st2 := st) (h2 := h) hM hd rfl rfl rfl ?_ (kf (by simpa [xCm] using hc))
    simp only [xPure]; rw [if_neg (by omega), if_neg hc]; rfl
theorem wp_icmp_le {x y9 : Int32} {off : Int} (t : Nat) (hM : xMeth M = (o, y, cc, ml, rt)) (hd : decode cc pc = .ok (.if_icmp .le off, 3)) (ht : (pc : Int) + off = (t : Int)) (kt : x ≤ y9 → Wp d M t ls st h Q) (kf : ¬ x ≤ y9 → Wp d M (pc + 3) ls st h Q) : Wp d M pc ls (.int y9 :: .int x :: st) h Q := by
  by_cases hc : xCm .le x y9 = true
  · refine Wp.pure (p2 := t) (ls2 := ls) (st2 := st) (h2 := h) hM hd rfl rfl rfl ?_ (kt (by simpa [xCm] using hc))
    simp only [xPure]; rw [if_neg (by omega), if_pos hc, ht]; rfl
  · refine Wp.pure (p2 := pc + 3) (ls2 := ls) (st2 := st) (h2 := h) hM hd rfl rfl rfl ?_ (kf (by simpa [xCm] using hc))
    simp only [xPure]; rw [if_neg (by omega), if_neg hc]; rfl
theorem wp_getf {i ci k a : Nat} {ne : Nat} {fs : List Value} {v : Value} (hM : xMeth M = (o, y, cc, ml, rt)) (hd : decode cc pc = .ok (.getfield i, 3)) (hf : xFld o i = some (ci, k, ne)) (hc : h.2.2.2 a = .inr (ci, fs)) (hv : fs[k]? = some v) (k9 : Wp d M (pc + 3) ls (v :: st) h Q) : Wp d M pc ls (.ref a :: st) h Q := by
  refine Wp.step hM hd rfl rfl ?_ k9
  have ho : xOwn M = o := by unfold xOwn; rw [hM]
  show xGetf M i pc ls (.ref a :: st) h = _
  unfold xGetf
  rw [ho, hf]
  dsimp only
  rw [hc]
  dsimp only
  rw [if_pos rfl, hv]
  rfl
theorem wp_putf {i ci k a : Nat} {ne : Nat} {fs : List Value} {v : Value} (fs2 : List Value) (hM : xMeth M = (o, y, cc, ml, rt)) (hd : decode cc pc = .ok (.putfield i, 3)) (hf : xFld o i = some (ci, k, ne)) (hc : h.2.2.2 a = .inr (ci, fs)) (hk : k < fs.length) (ht : xFits (xTy ci k) v = true) (hn : xFin ci k = false ∨ (ne = 0 ∧ o = ci ∧ y.name = "<init>")) (hs : fs.set k v = fs2) (k9 : Wp d M (pc + 3) ls st (xPut h a (.inr (ci, fs2))) Q) : Wp d M pc ls (v :: .ref a :: st) h Q := by
  subst hs
  refine Wp.step hM hd rfl rfl ?_ k9
  have ho : xOwn M = o := by unfold xOwn; rw [hM]
  have hi : xIsIn M = (y.name == "<init>") := by unfold xIsIn xNm; rw [hM]
  show xPutf M i pc ls (v :: .ref a :: st) h = _
  unfold xPutf
  rw [ho, hf]
  dsimp only
  rw [hc]
  dsimp only
  rw [if_pos ⟨rfl, hk, ht, by rcases hn with hn | ⟨h1, h2, h3⟩; exact Or.inl hn; exact Or.inr ⟨h1, h2, by rw [hi, h3]; rfl⟩⟩]
  rfl
theorem wp_iaload {a n : Nat} {j : Int32} {f : Nat → Int32} (hM : xMeth M = (o, y, cc, ml, rt)) (hd : decode cc pc = .ok (.iaload, 1)) (hc : h.2.2.2 a = .inl (0, n, .inl f)) (hj : vp_in j n) (k9 : Wp d M (pc + 1) ls (.int (f j.toNatClampNeg) :: st) h Q) : Wp d M pc ls (.int j :: .ref a :: st) h Q := by
  refine Wp.step hM hd rfl rfl ?_ k9
  unfold vp_in at hj
  simp [xStep, xIdx, xPure, xCell, hc, hj, xNx]
theorem wp_laload {a n : Nat} {j : Int32} {f : Nat → Int64} (hM : xMeth M = (o, y, cc, ml, rt)) (hd : decode cc pc = .ok (.laload, 1)) (hc : h.2.2.2 a = .inl (1, n, .inr (.inl f))) (hj : vp_in j n) (k9 : Wp d M (pc + 1) ls (.long (f j.toNatClampNeg) :: st) h Q) : Wp d M pc ls (.int j :: .ref a :: st) h Q := by
  refine Wp.step hM hd rfl rfl ?_ k9
  unfold vp_in at hj
  simp [xStep, xIdx, xPure, xCell, hc, hj, xNx]
theorem wp_baload {a n : Nat} {j : Int32} {f : Nat → Int32} (hM : xMeth M = (o, y, cc, ml, rt)) (hd : decode cc pc = .ok (.baload, 1)) (hc : h.2.2.2 a = .inl (2, n, .inl f)) (hj : vp_in j n) (k9 : Wp d M (pc + 1) ls (.int (f j.toNatClampNeg) :: st) h Q) : Wp d M pc ls (.int j :: .ref a :: st) h Q := by
  refine Wp.step hM hd rfl rfl ?_ k9
  unfold vp_in at hj
  simp [xStep, xIdx, xPure, xCell, hc, hj, xNx]
theorem wp_ialoadK {a n : Nat} {j : Int32} {f : Nat → Int32} (hM : xMeth M = (o, y, cc, ml, rt)) (hd : decode cc pc = .ok (.iaload, 1)) (hc : h.2.2.2 a = .inl (10, n, .inl f)) (ha : xKb ≤ a) (hj : vp_in j n) (k9 : Wp d M (pc + 1) ls (.int (f j.toNatClampNeg) :: st) h Q) : Wp d M pc ls (.int j :: .ref a :: st) h Q := by
  refine Wp.step hM hd rfl rfl ?_ k9
  unfold vp_in at hj
  simp [xStep, xIdx, xPure, xCell, hc, hj, ha, xNx]
theorem wp_iastore {a n : Nat} {j : Int32} {f : Nat → Int32} {x : Int32} (hM : xMeth M = (o, y, cc, ml, rt)) (hd : decode cc pc = .ok (.iastore, 1)) (hc : h.2.2.2 a = .inl (0, n, .inl f)) (hj : vp_in j n) (k9 : Wp d M (pc + 1) ls st (xPut h a (.inl (0, n, .inl (upd f j.toNatClampNeg x)))) Q) : Wp d M pc ls (.int x :: .int j :: .ref a :: st) h Q := by
  refine Wp.step hM hd rfl rfl ?_ k9
  unfold vp_in at hj
  simp [xStep, xIdx, xPure, xCell, hc, hj, xNx]
theorem wp_lastore {a n : Nat} {j : Int32} {f : Nat → Int64} {x : Int64} (hM : xMeth M = (o, y, cc, ml, rt)) (hd : decode cc pc = .ok (.lastore, 1)) (hc : h.2.2.2 a = .inl (1, n, .inr (.inl f))) (hj : vp_in j n) (k9 : Wp d M (pc + 1) ls st (xPut h a (.inl (1, n, .inr (.inl (vp_updL f j.toNatClampNeg x))))) Q) : Wp d M pc ls (.long x :: .int j :: .ref a :: st) h Q := by
  refine Wp.step hM hd rfl rfl ?_ k9
  unfold vp_in at hj
  simp [xStep, xIdx, xPure, xCell, hc, hj, xNx]
theorem wp_bastore {a n : Nat} {j : Int32} {f : Nat → Int32} {x : Int32} (hM : xMeth M = (o, y, cc, ml, rt)) (hd : decode cc pc = .ok (.bastore, 1)) (hc : h.2.2.2 a = .inl (2, n, .inl f)) (hj : vp_in j n) (k9 : Wp d M (pc + 1) ls st (xPut h a (.inl (2, n, .inl (upd f j.toNatClampNeg (x &&& 1))))) Q) : Wp d M pc ls (.int x :: .int j :: .ref a :: st) h Q := by
  refine Wp.step hM hd rfl rfl ?_ k9
  unfold vp_in at hj
  simp [xStep, xIdx, xPure, xCell, hc, hj, xNx]
theorem wp_aaload {a n b : Nat} {j : Int32} {f : Nat → Option Nat} (hM : xMeth M = (o, y, cc, ml, rt)) (hd : decode cc pc = .ok (.aaload, 1)) (hc : h.2.2.2 a = .inl (3, n, .inr (.inr (.inr (.inr f))))) (hj : vp_in j n) (hf : f j.toNatClampNeg = some b) (k9 : Wp d M (pc + 1) ls (.ref b :: st) h Q) : Wp d M pc ls (.int j :: .ref a :: st) h Q := by
  refine Wp.step hM hd rfl rfl ?_ k9
  unfold vp_in at hj
  simp [xStep, xIdx, xPure, xCell, hc, hj, hf, xNx]
theorem wp_alen {a n t : Nat} {x : (Nat → Int32) ⊕ (Nat → Int64) ⊕ (Nat → UInt32) ⊕ (Nat → UInt64) ⊕ (Nat → Option Nat)} (hM : xMeth M = (o, y, cc, ml, rt)) (hd : decode cc pc = .ok (.arraylength, 1)) (hc : h.2.2.2 a = .inl (t, n, x)) (ht : t < 4 ∨ (t = 10 ∧ xKb ≤ a)) (k9 : Wp d M (pc + 1) ls (.int (Int32.ofNat n) :: st) h Q) : Wp d M pc ls (.ref a :: st) h Q := by
  refine Wp.step hM hd rfl rfl ?_ k9
  simp [xStep, xIdx, xPure, xCell, hc, ht, xNx]
theorem wp_getst {i j : Nat} (hM : xMeth M = (o, y, cc, ml, rt)) (hd : decode cc pc = .ok (.getstatic i, 3)) (hf : xGst o i = some j) (k9 : Wp d M (pc + 3) ls (.ref (xKb + j) :: st) h Q) : Wp d M pc ls st h Q := by
  refine Wp.step hM hd rfl rfl ?_ k9
  have ho : xOwn M = o := by unfold xOwn; rw [hM]
  simp [xStep, xIdx, xPure, xCell, ho, hf, xNx]
theorem wp_ldc {i : Nat} {v : Int32} (hM : xMeth M = (o, y, cc, ml, rt)) (hd : decode cc pc = .ok (.ldc i, 2)) (hf : xLdc o i = some v) (k9 : Wp d M (pc + 2) ls (.int v :: st) h Q) : Wp d M pc ls st h Q := by
  refine Wp.step hM hd rfl rfl ?_ k9
  have ho : xOwn M = o := by unfold xOwn; rw [hM]
  simp [xStep, xIdx, xPure, xCell, ho, hf, xNx]
theorem wp_ldc_w {i : Nat} {v : Int32} (hM : xMeth M = (o, y, cc, ml, rt)) (hd : decode cc pc = .ok (.ldc_w i, 3)) (hf : xLdc o i = some v) (k9 : Wp d M (pc + 3) ls (.int v :: st) h Q) : Wp d M pc ls st h Q := by
  refine Wp.step hM hd rfl rfl ?_ k9
  have ho : xOwn M = o := by unfold xOwn; rw [hM]
  simp [xStep, xIdx, xPure, xCell, ho, hf, xNx]
theorem wp_ldc2 {i : Nat} {v : Int64} (hM : xMeth M = (o, y, cc, ml, rt)) (hd : decode cc pc = .ok (.ldc2_w i, 3)) (hf : xLd2 o i = some v) (k9 : Wp d M (pc + 3) ls (.long v :: st) h Q) : Wp d M pc ls st h Q := by
  refine Wp.step hM hd rfl rfl ?_ k9
  have ho : xOwn M = o := by unfold xOwn; rw [hM]
  simp [xStep, xIdx, xPure, xCell, ho, hf, xNx]
theorem wp_ldcS {i j : Nat} (hM : xMeth M = (o, y, cc, ml, rt)) (hd : decode cc pc = .ok (.ldc i, 2)) (hf0 : xLdc o i = none) (hf : xLds o i = some j) (k9 : Wp d M (pc + 2) ls (.ref (xKb + 10 + j) :: st) h Q) : Wp d M pc ls st h Q := by
  refine Wp.step hM hd rfl rfl ?_ k9
  have ho : xOwn M = o := by unfold xOwn; rw [hM]
  simp [xStep, xIdx, xPure, xCell, ho, hf0, hf, xNx]
theorem wp_ldcWS {i j : Nat} (hM : xMeth M = (o, y, cc, ml, rt)) (hd : decode cc pc = .ok (.ldc_w i, 3)) (hf0 : xLdc o i = none) (hf : xLds o i = some j) (k9 : Wp d M (pc + 3) ls (.ref (xKb + 10 + j) :: st) h Q) : Wp d M pc ls st h Q := by
  refine Wp.step hM hd rfl rfl ?_ k9
  have ho : xOwn M = o := by unfold xOwn; rw [hM]
  simp [xStep, xIdx, xPure, xCell, ho, hf0, hf, xNx]
theorem wp_iret {x : Int32} (hM : xMeth M = (o, y, cc, ml, some .int)) (hd : decode cc pc = .ok (.ireturn, 1)) (hq : Q (some (.int x)) h) : Wp d M pc ls [.int x] h Q := by
  refine Wp.ret hM hd rfl ?_ hq
  have hr : xRet M = some .int := by unfold xRet; rw [hM]
  simp [xRetI, hr]
theorem wp_zret {x : Int32} (hM : xMeth M = (o, y, cc, ml, some .boolean)) (hd : decode cc pc = .ok (.ireturn, 1)) (hx : x &&& 1 = x) (hq : Q (some (.int x)) h) : Wp d M pc ls [.int x] h Q := by
  refine Wp.ret hM hd rfl ?_ hq
  have hr : xRet M = some .boolean := by unfold xRet; rw [hM]
  simp [xRetI, hr, hx]
theorem wp_lret {x : Int64} (hM : xMeth M = (o, y, cc, ml, some .long)) (hd : decode cc pc = .ok (.lreturn, 1)) (hq : Q (some (.long x)) h) : Wp d M pc ls [.long x] h Q := by
  refine Wp.ret hM hd rfl ?_ hq
  have hr : xRet M = some .long := by unfold xRet; rw [hM]
  simp [xRetI, hr]
theorem wp_aret {x : Nat} {nm : String} (hM : xMeth M = (o, y, cc, ml, some (.object nm))) (hd : decode cc pc = .ok (.areturn, 1)) (hq : Q (some (.ref x)) h) : Wp d M pc ls [.ref x] h Q := by
  refine Wp.ret hM hd rfl ?_ hq
  have hr : xRet M = some (.object nm) := by unfold xRet; rw [hM]
  simp [xRetI, hr]
theorem wp_vret (hM : xMeth M = (o, y, cc, ml, none)) (hd : decode cc pc = .ok (.return_, 1)) (hq : Q none h) : Wp d M pc ls [] h Q := by
  refine Wp.ret hM hd rfl ?_ hq
  have hr : xRet M = none := by unfold xRet; rw [hM]
  simp [xRetI, hr]
theorem wp_max {x y9 : Int32} {j N na : Nat} (hM : xMeth M = (o, y, cc, ml, rt)) (hd : decode cc pc = .ok (.invokestatic j, 3)) (hm : xMet o j = some (11, N, na)) (hs : xCat st ≤ 8) (k9 : Wp d M (pc + 3) ls (.int (if x < y9 then y9 else x) :: st) h Q) : Wp d M pc ls (.int y9 :: .int x :: st) h Q := by
  refine Wp.step hM hd rfl rfl ?_ k9
  have ho : xOwn M = o := by unfold xOwn; rw [hM]
  simp [xStep, xIdx, xCall, ho, hm, xKindL, xLib, hs, xNx]
theorem wp_min {x y9 : Int32} {j N na : Nat} (hM : xMeth M = (o, y, cc, ml, rt)) (hd : decode cc pc = .ok (.invokestatic j, 3)) (hm : xMet o j = some (12, N, na)) (hs : xCat st ≤ 8) (k9 : Wp d M (pc + 3) ls (.int (if y9 < x then y9 else x) :: st) h Q) : Wp d M pc ls (.int y9 :: .int x :: st) h Q := by
  refine Wp.step hM hd rfl rfl ?_ k9
  have ho : xOwn M = o := by unfold xOwn; rw [hM]
  simp [xStep, xIdx, xCall, ho, hm, xKindL, xLib, hs, xNx]
theorem wp_objInit {a j N na : Nat} (hM : xMeth M = (o, y, cc, ml, rt)) (hd : decode cc pc = .ok (.invokespecial j, 3)) (hm : xMet o j = some (10, N, na)) (hs : xCat st ≤ 8) (k9 : Wp d M (pc + 3) ls st h Q) : Wp d M pc ls (.ref a :: st) h Q := by
  refine Wp.step hM hd rfl rfl ?_ k9
  have ho : xOwn M = o := by unfold xOwn; rw [hM]
  simp [xStep, xIdx, xCall, ho, hm, xKindL, xLib, hs, xNx]
theorem wp_callV {j N na a : Nat} {as r : List Value} {ls0 : xL} {fs : List Value} {o2 : Nat} {y2 : MethodName} {cc2 : ByteArray} {ml2 : Nat} {rt2 : Option FieldType} {Qc : Option Value → xH → Prop} (hM : xMeth M = (o, y, cc, ml, rt)) (hN : xMeth N = (o2, y2, cc2, ml2, rt2)) (hd : decode cc pc = .ok (.invokevirtual j, 3)) (hm : xMet o j = some (0, N, na)) (hp : xPop (na + 1) [] st = some (.ref a :: as, r)) (hs : xCat r ≤ 8) (hv : h.2.2.2 a = .inr (o2, fs)) (hL : ml2 ≤ 40 ∧ (xArgs (.ref a :: as)).length ≤ ml2) (he : xArgs (.ref a :: as) ++ List.replicate (ml2 - (xArgs (.ref a :: as)).length) none = ls0) (hc : Wp d N 0 ls0 [] h Qc) (k9 : ∀ v h', Qc v h' → v ≠ some .null ∧ Wp (d + 1) M (pc + 3) ls (v.toList ++ r) h' Q) : Wp (d + 1) M pc ls st h Q := by
  have ho : xOwn M = o := by unfold xOwn; rw [hM]
  have ho2 : xOwn N = o2 := by unfold xOwn; rw [hN]
  have hml2 : xMaxL N = ml2 := by unfold xMaxL; rw [hN]
  refine Wp.call (w := 0) (j := j) hM hd rfl rfl ?_ (by rw [hml2]; exact hL) (by unfold xEntry; rw [hml2]; exact he) hc k9
  simp [xStep, xIdx, xCall, ho, hm, xKindL, xKind, hp, hs, xRecv, hv, ho2]
theorem wp_callS {j N na : Nat} {as r : List Value} {ls0 : xL} {o2 : Nat} {y2 : MethodName} {cc2 : ByteArray} {ml2 : Nat} {rt2 : Option FieldType} {Qc : Option Value → xH → Prop} (hM : xMeth M = (o, y, cc, ml, rt)) (hN : xMeth N = (o2, y2, cc2, ml2, rt2)) (hd : decode cc pc = .ok (.invokestatic j, 3)) (hm : xMet o j = some (1, N, na)) (hp : xPop na [] st = some (as, r)) (hs : xCat r ≤ 8) (hL : ml2 ≤ 40 ∧ (xArgs as).length ≤ ml2) (he : xArgs as ++ List.replicate (ml2 - (xArgs as).length) none = ls0) (hc : Wp d N 0 ls0 [] h Qc) (k9 : ∀ v h', Qc v h' → v ≠ some .null ∧ Wp (d + 1) M (pc + 3) ls (v.toList ++ r) h' Q) : Wp (d + 1) M pc ls st h Q := by
  have ho : xOwn M = o := by unfold xOwn; rw [hM]
  have hml2 : xMaxL N = ml2 := by unfold xMaxL; rw [hN]
  refine Wp.call (w := 1) (j := j) hM hd rfl rfl ?_ (by rw [hml2]; exact hL) (by unfold xEntry; rw [hml2]; exact he) hc k9
  simp [xStep, xIdx, xCall, ho, hm, xKindL, xKind, hp, hs]
end XWP
