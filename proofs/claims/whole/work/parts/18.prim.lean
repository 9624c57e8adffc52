/-! ===== the acts of a method on the heap, as plain functions; a method is then a plain function too ===== -/
def pF (h : xH) (a ci k : Nat) : Option Value := match h.2.2.2 a with
  | .inr (cj, fs) => if cj = ci then fs[k]? else none
  | _ => none
def pFi (h : xH) (a ci k : Nat) : Option Int32 := match pF h a ci k with
  | some (.int x) => some x
  | _ => none
def pFr (h : xH) (a ci k : Nat) : Option Nat := match pF h a ci k with
  | some (.ref x) => some x
  | _ => none
def pP (h : xH) (a ci k : Nat) (v : Value) : Option xH := match h.2.2.2 a with
  | .inr (cj, fs) => if cj = ci ∧ k < fs.length ∧ xFits (xTy ci k) v = true then some (xPut h a (.inr (ci, fs.set k v))) else none
  | _ => none
def pAi (h : xH) (a : Nat) (j : Int32) : Option Int32 := match h.2.2.2 a with
  | .inl (t, n, .inl f) => if (t = 0 ∨ (t = 10 ∧ xKb ≤ a)) ∧ ¬ (j < 0 ∨ n ≤ j.toNatClampNeg) then some (f j.toNatClampNeg) else none
  | _ => none
def pSi (h : xH) (a : Nat) (j x : Int32) : Option xH := match h.2.2.2 a with
  | .inl (t, n, .inl f) => if t = 0 ∧ ¬ (j < 0 ∨ n ≤ j.toNatClampNeg) then some (xPut h a (.inl (0, n, .inl (upd f j.toNatClampNeg x)))) else none
  | _ => none
def pAl (h : xH) (a : Nat) (j : Int32) : Option Int64 := match h.2.2.2 a with
  | .inl (t, n, .inr (.inl f)) => if t = 1 ∧ ¬ (j < 0 ∨ n ≤ j.toNatClampNeg) then some (f j.toNatClampNeg) else none
  | _ => none
def pSl (h : xH) (a : Nat) (j : Int32) (x : Int64) : Option xH := match h.2.2.2 a with
  | .inl (t, n, .inr (.inl f)) => if t = 1 ∧ ¬ (j < 0 ∨ n ≤ j.toNatClampNeg) then some (xPut h a (.inl (1, n, .inr (.inl (vp_updL f j.toNatClampNeg x))))) else none
  | _ => none
def pAb (h : xH) (a : Nat) (j : Int32) : Option Int32 := match h.2.2.2 a with
  | .inl (t, n, .inl f) => if t = 2 ∧ ¬ (j < 0 ∨ n ≤ j.toNatClampNeg) then some (f j.toNatClampNeg) else none
  | _ => none
def pSb (h : xH) (a : Nat) (j x : Int32) : Option xH := match h.2.2.2 a with
  | .inl (t, n, .inl f) => if t = 2 ∧ ¬ (j < 0 ∨ n ≤ j.toNatClampNeg) then some (xPut h a (.inl (2, n, .inl (upd f j.toNatClampNeg (x &&& 1))))) else none
  | _ => none
def pAa (h : xH) (a : Nat) (j : Int32) : Option Nat := match h.2.2.2 a with
  | .inl (t, n, .inr (.inr (.inr (.inr f)))) => if t = 3 ∧ ¬ (j < 0 ∨ n ≤ j.toNatClampNeg) then f j.toNatClampNeg else none
  | _ => none
def pLen (h : xH) (a : Nat) : Option Int32 := match h.2.2.2 a with
  | .inl (t, n, _) => if t < 4 ∨ (t = 10 ∧ xKb ≤ a) then some (Int32.ofNat n) else none
  | _ => none
def pIs (h : xH) (a o : Nat) : Bool := match h.2.2.2 a with
  | .inr (ci, _) => ci == o
  | _ => false
def pMax (x y : Int32) : Int32 := if x < y then y else x
def pMin (x y : Int32) : Int32 := if y < x then y else x
def pDiv (x y : Int32) : Option Int32 := if y = 0 then none else some (x / y)
def pRem (x y : Int32) : Option Int32 := if y = 0 then none else some (x - x / y * y)
def pDivL (x y : Int64) : Option Int64 := if y = 0 then none else some (x / y)
def pRemL (x y : Int64) : Option Int64 := if y = 0 then none else some (x - x / y * y)
def pCpy (h : xH) (a : Nat) (sp : Int32) (b : Nat) (dp n : Int32) : Option xH := if ¬ sp < 0 ∧ ¬ dp < 0 ∧ ¬ n < 0 then match h.2.2.2 a, h.2.2.2 b with
    | .inl (t, n0, .inl f), .inl (t', n1, .inl g) => if t = 0 ∧ t' = 0 ∧ sp.toNatClampNeg + n.toNatClampNeg ≤ n0 ∧ dp.toNatClampNeg + n.toNatClampNeg ≤ n1 then some (xPut h b (.inl (0, n1, .inl (va_cpy f g sp.toNatClampNeg dp.toNatClampNeg n.toNatClampNeg)))) else none
    | .inl (t, n0, .inr (.inl f)), .inl (t', n1, .inr (.inl g)) => if t = 1 ∧ t' = 1 ∧ sp.toNatClampNeg + n.toNatClampNeg ≤ n0 ∧ dp.toNatClampNeg + n.toNatClampNeg ≤ n1 then some (xPut h b (.inl (1, n1, .inr (.inl (va_cpy f g sp.toNatClampNeg dp.toNatClampNeg n.toNatClampNeg))))) else none
    | _, _ => none
  else none
def pIx (a : Nat) (c : Int32) : Option Int32 := if xKb + 10 ≤ a ∧ a < xKb + 10 + xTxt.length then some (xIx (xTxt.getD (a - (xKb + 10)) []) c) else none
def pTl (a : Nat) : Option Int32 := if xKb + 10 ≤ a ∧ a < xKb + 10 + xTxt.length then some (Int32.ofNat (xTxt.getD (a - (xKb + 10)) []).length) else none
def pTc (a : Nat) (j : Int32) : Option Int32 := if xKb + 10 ≤ a ∧ a < xKb + 10 + xTxt.length ∧ ¬ (j < 0 ∨ (xTxt.getD (a - (xKb + 10)) []).length ≤ j.toNatClampNeg) then some ((xTxt.getD (a - (xKb + 10)) []).getD j.toNatClampNeg 0) else none
section XQ
variable {d M o ml pc : Nat} {y : MethodName} {cc : ByteArray} {rt : Option FieldType} {ls ls2 : xL} {st : List Value} {h : xH} {Q : Option Value → xH → Prop}
theorem pF_ok {a ci k : Nat} {v : Value} (hp : pF h a ci k = some v) : ∃ fs, h.2.2.2 a = .inr (ci, fs) ∧ fs[k]? = some v := by
  unfold pF at hp
  split at hp
  next cj fs hk =>
    split at hp
    next hc => subst hc; exact ⟨fs, hk, hp⟩
    next => cases hp
  next => cases hp
theorem wq_getfi {i ci k a ne : Nat} {x : Int32} (hM : xMeth M = (o, y, cc, ml, rt)) (hd : decode cc pc = .ok (.getfield i, 3)) (hf : xFld o i = some (ci, k, ne)) (hp : pFi h a ci k = some x) (k9 : Wp d M (pc + 3) ls (.int x :: st) h Q) : Wp d M pc ls (.ref a :: st) h Q := by
  unfold pFi at hp
  split at hp
  next x1 hx =>
    cases hp
    obtain ⟨fs, h1, h2⟩ := pF_ok hx
    exact wp_getf hM hd hf h1 h2 k9
  next => cases hp
theorem wq_getfr {i ci k a ne : Nat} {x : Nat} (hM : xMeth M = (o, y, cc, ml, rt)) (hd : decode cc pc = .ok (.getfield i, 3)) (hf : xFld o i = some (ci, k, ne)) (hp : pFr h a ci k = some x) (k9 : Wp d M (pc + 3) ls (.ref x :: st) h Q) : Wp d M pc ls (.ref a :: st) h Q := by
  unfold pFr at hp
  split at hp
  next x1 hx =>
    cases hp
    obtain ⟨fs, h1, h2⟩ := pF_ok hx
    exact wp_getf hM hd hf h1 h2 k9
  next => cases hp
theorem wq_putf {i ci k a ne : Nat} {v : Value} {h2 : xH} (hM : xMeth M = (o, y, cc, ml, rt)) (hd : decode cc pc = .ok (.putfield i, 3)) (hf : xFld o i = some (ci, k, ne)) (hn : xFin ci k = false ∨ (ne = 0 ∧ o = ci ∧ y.name = "<init>")) (hp : pP h a ci k v = some h2) (k9 : Wp d M (pc + 3) ls st h2 Q) : Wp d M pc ls (v :: .ref a :: st) h Q := by
  unfold pP at hp
  split at hp
  next cj fs hk =>
    split at hp
    next hc =>
      obtain ⟨rfl, h3, h4⟩ := hc
      cases hp
      exact wp_putf _ hM hd hf hk h3 h4 hn rfl k9
    next => cases hp
  next => cases hp
theorem wq_iaload {a : Nat} {j x : Int32} (hM : xMeth M = (o, y, cc, ml, rt)) (hd : decode cc pc = .ok (.iaload, 1)) (hp : pAi h a j = some x) (k9 : Wp d M (pc + 1) ls (.int x :: st) h Q) : Wp d M pc ls (.int j :: .ref a :: st) h Q := by
  unfold pAi at hp
  split at hp
  next t n f hk =>
    split at hp
    next hc =>
      cases hp
      rcases hc.1 with rfl | ⟨rfl, ha⟩
      · exact wp_iaload hM hd hk hc.2 k9
      · exact wp_ialoadK hM hd hk ha hc.2 k9
    next => cases hp
  next => cases hp
theorem wq_iastore {a : Nat} {j x : Int32} {h2 : xH} (hM : xMeth M = (o, y, cc, ml, rt)) (hd : decode cc pc = .ok (.iastore, 1)) (hp : pSi h a j x = some h2) (k9 : Wp d M (pc + 1) ls st h2 Q) : Wp d M pc ls (.int x :: .int j :: .ref a :: st) h Q := by
  unfold pSi at hp
  split at hp
  next t n f hk =>
    split at hp
    next hc =>
      obtain ⟨rfl, hc⟩ := hc
      cases hp
      exact wp_iastore hM hd hk hc k9
    next => cases hp
  next => cases hp
theorem wq_laload {a : Nat} {j : Int32} {x : Int64} (hM : xMeth M = (o, y, cc, ml, rt)) (hd : decode cc pc = .ok (.laload, 1)) (hp : pAl h a j = some x) (k9 : Wp d M (pc + 1) ls (.long x :: st) h Q) : Wp d M pc ls (.int j :: .ref a :: st) h Q := by
  unfold pAl at hp
  split at hp
  next t n f hk =>
    split at hp
    next hc =>
      obtain ⟨rfl, hc⟩ := hc
      cases hp
      exact wp_laload hM hd hk hc k9
    next => cases hp
  next => cases hp
theorem wq_lastore {a : Nat} {j : Int32} {x : Int64} {h2 : xH} (hM : xMeth M = (o, y, cc, ml, rt)) (hd : decode cc pc = .ok (.lastore, 1)) (hp : pSl h a j x = some h2) (k9 : Wp d M (pc + 1) ls st h2 Q) : Wp d M pc ls (.long x :: .int j :: .ref a :: st) h Q := by
  unfold pSl at hp
  split at hp
  next t n f hk =>
    split at hp
    next hc =>
      obtain ⟨rfl, hc⟩ := hc
      cases hp
      exact wp_lastore hM hd hk hc k9
    next => cases hp
  next => cases hp
theorem wq_baload {a : Nat} {j x : Int32} (hM : xMeth M = (o, y, cc, ml, rt)) (hd : decode cc pc = .ok (.baload, 1)) (hp : pAb h a j = some x) (k9 : Wp d M (pc + 1) ls (.int x :: st) h Q) : Wp d M pc ls (.int j :: .ref a :: st) h Q := by
  unfold pAb at hp
  split at hp
  next t n f hk =>
    split at hp
    next hc =>
      obtain ⟨rfl, hc⟩ := hc
      cases hp
      exact wp_baload hM hd hk hc k9
    next => cases hp
  next => cases hp
theorem wq_bastore {a : Nat} {j x : Int32} {h2 : xH} (hM : xMeth M = (o, y, cc, ml, rt)) (hd : decode cc pc = .ok (.bastore, 1)) (hp : pSb h a j x = some h2) (k9 : Wp d M (pc + 1) ls st h2 Q) : Wp d M pc ls (.int x :: .int j :: .ref a :: st) h Q := by
  unfold pSb at hp
  split at hp
  next t n f hk =>
    split at hp
    next hc =>
      obtain ⟨rfl, hc⟩ := hc
      cases hp
      exact wp_bastore hM hd hk hc k9
    next => cases hp
  next => cases hp
theorem wq_aaload {a x : Nat} {j : Int32} (hM : xMeth M = (o, y, cc, ml, rt)) (hd : decode cc pc = .ok (.aaload, 1)) (hp : pAa h a j = some x) (k9 : Wp d M (pc + 1) ls (.ref x :: st) h Q) : Wp d M pc ls (.int j :: .ref a :: st) h Q := by
  unfold pAa at hp
  split at hp
  next t n f hk =>
    split at hp
    next hc =>
      obtain ⟨rfl, hc⟩ := hc
      exact wp_aaload hM hd hk hc hp k9
    next => cases hp
  next => cases hp
theorem wq_alen {a : Nat} {x : Int32} (hM : xMeth M = (o, y, cc, ml, rt)) (hd : decode cc pc = .ok (.arraylength, 1)) (hp : pLen h a = some x) (k9 : Wp d M (pc + 1) ls (.int x :: st) h Q) : Wp d M pc ls (.ref a :: st) h Q := by
  unfold pLen at hp
  split at hp
  next t n f hk =>
    split at hp
    next hc =>
      cases hp
      exact wp_alen hM hd hk hc k9
    next => cases hp
  next => cases hp
theorem wq_idiv {x y9 z : Int32} (hM : xMeth M = (o, y, cc, ml, rt)) (hd : decode cc pc = .ok (.idiv, 1)) (hp : pDiv x y9 = some z) (k9 : Wp d M (pc + 1) ls (.int z :: st) h Q) : Wp d M pc ls (.int y9 :: .int x :: st) h Q := by
  unfold pDiv at hp
  split at hp
  next => cases hp
  next hc => cases hp; exact wp_idiv hM hd hc k9
theorem wq_irem {x y9 z : Int32} (hM : xMeth M = (o, y, cc, ml, rt)) (hd : decode cc pc = .ok (.irem, 1)) (hp : pRem x y9 = some z) (k9 : Wp d M (pc + 1) ls (.int z :: st) h Q) : Wp d M pc ls (.int y9 :: .int x :: st) h Q := by
  unfold pRem at hp
  split at hp
  next => cases hp
  next hc => cases hp; exact wp_irem hM hd hc k9
theorem wq_ldiv {x y9 z : Int64} (hM : xMeth M = (o, y, cc, ml, rt)) (hd : decode cc pc = .ok (.ldiv, 1)) (hp : pDivL x y9 = some z) (k9 : Wp d M (pc + 1) ls (.long z :: st) h Q) : Wp d M pc ls (.long y9 :: .long x :: st) h Q := by
  unfold pDivL at hp
  split at hp
  next => cases hp
  next hc => cases hp; exact wp_ldiv hM hd hc k9
theorem wq_lrem {x y9 z : Int64} (hM : xMeth M = (o, y, cc, ml, rt)) (hd : decode cc pc = .ok (.lrem, 1)) (hp : pRemL x y9 = some z) (k9 : Wp d M (pc + 1) ls (.long z :: st) h Q) : Wp d M pc ls (.long y9 :: .long x :: st) h Q := by
  unfold pRemL at hp
  split at hp
  next => cases hp
  next hc => cases hp; exact wp_lrem hM hd hc k9
theorem wq_max {x y9 : Int32} {j N na : Nat} (hM : xMeth M = (o, y, cc, ml, rt)) (hd : decode cc pc = .ok (.invokestatic j, 3)) (hm : xMet o j = some (11, N, na)) (hs : xCat st ≤ 8) (k9 : Wp d M (pc + 3) ls (.int (pMax x y9) :: st) h Q) : Wp d M pc ls (.int y9 :: .int x :: st) h Q := wp_max hM hd hm hs k9
theorem wq_min {x y9 : Int32} {j N na : Nat} (hM : xMeth M = (o, y, cc, ml, rt)) (hd : decode cc pc = .ok (.invokestatic j, 3)) (hm : xMet o j = some (12, N, na)) (hs : xCat st ≤ 8) (k9 : Wp d M (pc + 3) ls (.int (pMin x y9) :: st) h Q) : Wp d M pc ls (.int y9 :: .int x :: st) h Q := wp_min hM hd hm hs k9
theorem wq_cpy {a b j N na : Nat} {n dp sp : Int32} {h2 : xH} (hM : xMeth M = (o, y, cc, ml, rt)) (hd : decode cc pc = .ok (.invokestatic j, 3)) (hm : xMet o j = some (13, N, na)) (hs : xCat st ≤ 8) (hp : pCpy h a sp b dp n = some h2) (k9 : Wp d M (pc + 3) ls st h2 Q) : Wp d M pc ls (.int n :: .int dp :: .ref b :: .int sp :: .ref a :: st) h Q := by
  refine Wp.step hM hd rfl rfl ?_ k9
  have ho : xOwn M = o := by unfold xOwn; rw [hM]
  simp only [xStep, xIdx, xCall, ho, hm, xKindL, xLib]
  unfold pCpy at hp
  split at hp
  next hc =>
    have hc' : xCat st ≤ 8 ∧ ¬ sp < 0 ∧ ¬ dp < 0 ∧ ¬ n < 0 := ⟨hs, hc⟩
    rw [if_pos (by decide)]
    try dsimp only
    rw [if_pos hc']
    split at hp
    next t n0 f t' n1 g hk1 hk2 =>
      split at hp
      next hq => cases hp; rw [hk1, hk2]; dsimp only; rw [if_pos hq]; rfl
      next => cases hp
    next t n0 f t' n1 g hk1 hk2 =>
      split at hp
      next hq => cases hp; rw [hk1, hk2]; dsimp only; rw [if_pos hq]; rfl
      next => cases hp
    next => cases hp
  next => cases hp
theorem wq_ix {a j N na : Nat} {c x : Int32} (hM : xMeth M = (o, y, cc, ml, rt)) (hd : decode cc pc = .ok (.invokevirtual j, 3)) (hm : xMet o j = some (14, N, na)) (hs : xCat st ≤ 8) (hp : pIx a c = some x) (k9 : Wp d M (pc + 3) ls (.int x :: st) h Q) : Wp d M pc ls (.int c :: .ref a :: st) h Q := by
  refine Wp.step hM hd rfl rfl ?_ k9
  have ho : xOwn M = o := by unfold xOwn; rw [hM]
  unfold pIx at hp
  split at hp
  next hc => rw [← Option.some.inj hp]; simp only [xStep, xIdx, xCall, ho, hm, xKindL, xLib]; rw [if_pos (by decide), if_pos ⟨hs, hc⟩]; rfl
  next => cases hp
theorem wq_tl {a j N na : Nat} {x : Int32} (hM : xMeth M = (o, y, cc, ml, rt)) (hd : decode cc pc = .ok (.invokevirtual j, 3)) (hm : xMet o j = some (15, N, na)) (hs : xCat st ≤ 8) (hp : pTl a = some x) (k9 : Wp d M (pc + 3) ls (.int x :: st) h Q) : Wp d M pc ls (.ref a :: st) h Q := by
  refine Wp.step hM hd rfl rfl ?_ k9
  have ho : xOwn M = o := by unfold xOwn; rw [hM]
  unfold pTl at hp
  split at hp
  next hc => rw [← Option.some.inj hp]; simp only [xStep, xIdx, xCall, ho, hm, xKindL, xLib]; rw [if_pos (by decide), if_pos ⟨hs, hc⟩]; rfl
  next => cases hp
theorem wq_tc {a j N na : Nat} {i x : Int32} (hM : xMeth M = (o, y, cc, ml, rt)) (hd : decode cc pc = .ok (.invokevirtual j, 3)) (hm : xMet o j = some (16, N, na)) (hs : xCat st ≤ 8) (hp : pTc a i = some x) (k9 : Wp d M (pc + 3) ls (.int x :: st) h Q) : Wp d M pc ls (.int i :: .ref a :: st) h Q := by
  refine Wp.step hM hd rfl rfl ?_ k9
  have ho : xOwn M = o := by unfold xOwn; rw [hM]
  unfold pTc at hp
  split at hp
  next hc => rw [← Option.some.inj hp]; simp only [xStep, xIdx, xCall, ho, hm, xKindL, xLib]; rw [if_pos (by decide), if_pos ⟨hs, hc⟩]; rfl
  next => cases hp
theorem pIs_ok {a o2 : Nat} (hp : pIs h a o2 = true) : ∃ fs, h.2.2.2 a = .inr (o2, fs) := by
  unfold pIs at hp
  split at hp
  next ci fs hk => exact ⟨fs, by rw [hk]; simp at hp; rw [hp]⟩
  next => cases hp
theorem wq_callV {j N na a : Nat} {as r : List Value} {ls0 : xL} {o2 : Nat} {y2 : MethodName} {cc2 : ByteArray} {ml2 : Nat} {rt2 : Option FieldType} {v1 : Option Value} {h1 : xH} (hM : xMeth M = (o, y, cc, ml, rt)) (hN : xMeth N = (o2, y2, cc2, ml2, rt2)) (hd : decode cc pc = .ok (.invokevirtual j, 3)) (hm : xMet o j = some (0, N, na)) (hp : xPop (na + 1) [] st = some (.ref a :: as, r)) (hs : xCat r ≤ 8) (hv : pIs h a o2 = true) (hL : ml2 ≤ 40 ∧ (xArgs (.ref a :: as)).length ≤ ml2) (he : xArgs (.ref a :: as) ++ List.replicate (ml2 - (xArgs (.ref a :: as)).length) none = ls0) (hn : v1 ≠ some .null) (hc : Wp d N 0 ls0 [] h (fun v h2 => v = v1 ∧ h2 = h1)) (k9 : Wp (d + 1) M (pc + 3) ls (v1.toList ++ r) h1 Q) : Wp (d + 1) M pc ls st h Q := by
  obtain ⟨fs, hfs⟩ := pIs_ok hv
  exact wp_callV hM hN hd hm hp hs hfs hL he hc (fun v h' hq => by obtain ⟨rfl, rfl⟩ := hq; exact ⟨hn, k9⟩)
theorem wq_callS {j N na : Nat} {as r : List Value} {ls0 : xL} {o2 : Nat} {y2 : MethodName} {cc2 : ByteArray} {ml2 : Nat} {rt2 : Option FieldType} {v1 : Option Value} {h1 : xH} (hM : xMeth M = (o, y, cc, ml, rt)) (hN : xMeth N = (o2, y2, cc2, ml2, rt2)) (hd : decode cc pc = .ok (.invokestatic j, 3)) (hm : xMet o j = some (1, N, na)) (hp : xPop na [] st = some (as, r)) (hs : xCat r ≤ 8) (hL : ml2 ≤ 40 ∧ (xArgs as).length ≤ ml2) (he : xArgs as ++ List.replicate (ml2 - (xArgs as).length) none = ls0) (hn : v1 ≠ some .null) (hc : Wp d N 0 ls0 [] h (fun v h2 => v = v1 ∧ h2 = h1)) (k9 : Wp (d + 1) M (pc + 3) ls (v1.toList ++ r) h1 Q) : Wp (d + 1) M pc ls st h Q :=
  wp_callS hM hN hd hm hp hs hL he hc (fun v h' hq => by obtain ⟨rfl, rfl⟩ := hq; exact ⟨hn, k9⟩)
theorem wq_throw {i : Nat} (hM : xMeth M = (o, y, cc, ml, rt)) (hd : decode cc pc = .ok (.new i, 3)) (hn : xNew o i = some 99) (hq : Q (some .null) (h.1, h.2.1 + 6, h.2.2.1 + 1, h.2.2.2)) : Wp d M pc ls [] h Q := by
  refine ⟨1, _, _, ?_, hq⟩
  have hd' : decode (xCode M) pc = .ok (.new i, 3) := by rw [show xCode M = cc by unfold xCode; rw [hM]]; exact hd
  have ho : xOwn M = o := by unfold xOwn; rw [hM]
  unfold xRun
  rw [hd']
  dsimp only
  simp [xLn, xRetI, xStep, xIdx, xPure, xCell, ho, hn]
end XQ
