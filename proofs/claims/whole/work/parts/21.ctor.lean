/-! ===== making things; calls of constructors; calls that catch ===== -/
def pNw (h : xH) (ci : Nat) : Option (Nat × xH) := if xKb ≤ h.1 ∨ h.2.2.1 ≠ 0 then none else some (h.1, xAdd h (xDef.getD ci []).length (.inr (ci, xDef.getD ci [])))
def pNi (h : xH) (n : Int32) : Option (Nat × xH) := if n < 0 ∨ 65536 < n.toNatClampNeg ∨ xKb ≤ h.1 ∨ h.2.2.1 ≠ 0 then none else some (h.1, xAdd h n.toNatClampNeg (.inl (0, n.toNatClampNeg, .inl (fun _ => 0))))
def pNl (h : xH) (n : Int32) : Option (Nat × xH) := if n < 0 ∨ 65536 < n.toNatClampNeg ∨ xKb ≤ h.1 ∨ h.2.2.1 ≠ 0 then none else some (h.1, xAdd h n.toNatClampNeg (.inl (1, n.toNatClampNeg, .inr (.inl (fun _ => 0)))))
def pNb (h : xH) (n : Int32) : Option (Nat × xH) := if n < 0 ∨ 65536 < n.toNatClampNeg ∨ xKb ≤ h.1 ∨ h.2.2.1 ≠ 0 then none else some (h.1, xAdd h n.toNatClampNeg (.inl (2, n.toNatClampNeg, .inl (fun _ => 0))))
def pNq (h : xH) (n : Int32) : Option (Nat × xH) := if n < 0 ∨ 65536 < n.toNatClampNeg ∨ xKb ≤ h.1 ∨ h.2.2.1 ≠ 0 then none else some (h.1, xAdd h n.toNatClampNeg (.inl (3, n.toNatClampNeg, .inr (.inr (.inr (.inr (fun _ => none)))))))
def pSa (h : xH) (a : Nat) (j : Int32) (x : Nat) : Option xH := match h.2.2.2 a, h.2.2.2 x with
  | .inl (t, n, .inr (.inr (.inr (.inr f)))), .inr (ci, _) => if t = 3 ∧ ci = 7 ∧ ¬ (j < 0 ∨ n ≤ j.toNatClampNeg) then some (xPut h a (.inl (3, n, .inr (.inr (.inr (.inr (va_up f j.toNatClampNeg (some x)))))))) else none
  | _, _ => none
def pCau (v : Option Value) (o : Nat) (h : xH) : Option (Int32 × xH) := xCaught v o h
section XK
variable {d M o ml pc : Nat} {y : MethodName} {cc : ByteArray} {rt : Option FieldType} {ls ls2 : xL} {st : List Value} {h : xH} {Q : Option Value → xH → Prop}
theorem wq_new {i ci a : Nat} {h2 : xH} (hM : xMeth M = (o, y, cc, ml, rt)) (hd : decode cc pc = .ok (.new i, 3)) (hn : xNew o i = some ci) (hc : ci < 13) (hp : pNw h ci = some (a, h2)) (k9 : Wp d M (pc + 3) ls (.ref a :: st) h2 Q) : Wp d M pc ls st h Q := by
  refine Wp.step hM hd rfl rfl ?_ k9
  have ho : xOwn M = o := by unfold xOwn; rw [hM]
  unfold pNw at hp
  split at hp
  next => cases hp
  next hq =>
    obtain ⟨rfl, rfl⟩ := oi2 hp
    simp only [xStep, xIdx, xPure, xCell, ho, hn]
    rw [if_pos hc, if_neg hq]
    rfl
theorem wq_newi {n : Int32} {a : Nat} {h2 : xH} (hM : xMeth M = (o, y, cc, ml, rt)) (hd : decode cc pc = .ok (.newarray .int, 2)) (hp : pNi h n = some (a, h2)) (k9 : Wp d M (pc + 2) ls (.ref a :: st) h2 Q) : Wp d M pc ls (.int n :: st) h Q := by
  refine Wp.step hM hd rfl rfl ?_ k9
  unfold pNi at hp
  split at hp
  next => cases hp
  next hq =>
    obtain ⟨rfl, rfl⟩ := oi2 hp
    simp only [xStep, xIdx, xPure, xCell]
    rw [if_neg hq]
    rfl
theorem wq_newl {n : Int32} {a : Nat} {h2 : xH} (hM : xMeth M = (o, y, cc, ml, rt)) (hd : decode cc pc = .ok (.newarray .long, 2)) (hp : pNl h n = some (a, h2)) (k9 : Wp d M (pc + 2) ls (.ref a :: st) h2 Q) : Wp d M pc ls (.int n :: st) h Q := by
  refine Wp.step hM hd rfl rfl ?_ k9
  unfold pNl at hp
  split at hp
  next => cases hp
  next hq =>
    obtain ⟨rfl, rfl⟩ := oi2 hp
    simp only [xStep, xIdx, xPure, xCell]
    rw [if_neg hq]
    rfl
theorem wq_newb {n : Int32} {a : Nat} {h2 : xH} (hM : xMeth M = (o, y, cc, ml, rt)) (hd : decode cc pc = .ok (.newarray .boolean, 2)) (hp : pNb h n = some (a, h2)) (k9 : Wp d M (pc + 2) ls (.ref a :: st) h2 Q) : Wp d M pc ls (.int n :: st) h Q := by
  refine Wp.step hM hd rfl rfl ?_ k9
  unfold pNb at hp
  split at hp
  next => cases hp
  next hq =>
    obtain ⟨rfl, rfl⟩ := oi2 hp
    simp only [xStep, xIdx, xPure, xCell]
    rw [if_neg hq]
    rfl
theorem wq_newq {n : Int32} {i a : Nat} {h2 : xH} (hM : xMeth M = (o, y, cc, ml, rt)) (hd : decode cc pc = .ok (.anewarray i, 3)) (hn : xNew o i = some 7) (hp : pNq h n = some (a, h2)) (k9 : Wp d M (pc + 3) ls (.ref a :: st) h2 Q) : Wp d M pc ls (.int n :: st) h Q := by
  refine Wp.step hM hd rfl rfl ?_ k9
  have ho : xOwn M = o := by unfold xOwn; rw [hM]
  unfold pNq at hp
  split at hp
  next => cases hp
  next hq =>
    obtain ⟨rfl, rfl⟩ := oi2 hp
    simp only [xStep, xIdx, xPure, xCell, ho, hn]
    rw [if_neg hq]
    rfl
theorem wq_aastore {a x : Nat} {j : Int32} {h2 : xH} (hM : xMeth M = (o, y, cc, ml, rt)) (hd : decode cc pc = .ok (.aastore, 1)) (hp : pSa h a j x = some h2) (k9 : Wp d M (pc + 1) ls st h2 Q) : Wp d M pc ls (.ref x :: .int j :: .ref a :: st) h Q := by
  refine Wp.step hM hd rfl rfl ?_ k9
  unfold pSa at hp
  split at hp
  next t n f ci fs hk1 hk2 =>
    split at hp
    next hc =>
      rw [← Option.some.inj hp]
      simp only [xStep, xIdx, xPure, xCell, hk1, hk2]
      rw [if_pos hc]
      rfl
    next => cases hp
  next => cases hp
theorem wq_objI {a j N na : Nat} (hM : xMeth M = (o, y, cc, ml, rt)) (hd : decode cc pc = .ok (.invokespecial j, 3)) (hm : xMet o j = some (10, N, na)) (hs : xCat st ≤ 8) (k9 : Wp d M (pc + 3) ls st h Q) : Wp d M pc ls (.ref a :: st) h Q := wp_objInit hM hd hm hs k9
theorem wq_callI {j N na a kd : Nat} {as r : List Value} {ls0 : xL} {o2 : Nat} {y2 : MethodName} {cc2 : ByteArray} {ml2 : Nat} {rt2 : Option FieldType} {v1 : Option Value} {h1 : xH} (hM : xMeth M = (o, y, cc, ml, rt)) (hN : xMeth N = (o2, y2, cc2, ml2, rt2)) (hd : decode cc pc = .ok (.invokespecial j, 3)) (hm : xMet o j = some (kd, N, na)) (hkd : kd = 2 ∨ kd = 3) (hp : xPop (na + 1) [] st = some (.ref a :: as, r)) (hs : xCat r ≤ 8) (hv : pIs h a o2 = true) (hL : ml2 ≤ 40 ∧ (xArgs (.ref a :: as)).length ≤ ml2) (he : xArgs (.ref a :: as) ++ List.replicate (ml2 - (xArgs (.ref a :: as)).length) none = ls0) (hn : v1 ≠ some .null) (hc : Wp d N 0 ls0 [] h (fun v h2 => v = v1 ∧ h2 = h1)) (k9 : Wp (d + 1) M (pc + 3) ls (v1.toList ++ r) h1 Q) : Wp (d + 1) M pc ls st h Q := by
  obtain ⟨fs, hfs⟩ := pIs_ok hv
  have ho : xOwn M = o := by unfold xOwn; rw [hM]
  have ho2 : xOwn N = o2 := by unfold xOwn; rw [hN]
  have hml2 : xMaxL N = ml2 := by unfold xMaxL; rw [hN]
  refine Wp.call (w := 2) (j := j) hM hd rfl rfl ?_ (by rw [hml2]; exact hL) (by unfold xEntry; rw [hml2]; exact he) hc (fun v h' hq => by obtain ⟨rfl, rfl⟩ := hq; exact ⟨hn, k9⟩)
  rcases hkd with rfl | rfl <;> simp [xStep, xIdx, xCall, ho, hm, xKindL, xKind, hp, hs, xRecv, hfs, ho2]
theorem wq_try {j N N0 na a k b : Nat} {as r st' : List Value} {ls0 : xL} {o2 : Nat} {y2 : MethodName} {cc2 : ByteArray} {ml2 : Nat} {rt2 : Option FieldType} {v1 : Option Value} {h1 h2 : xH} {ci : Int32} (hM : xMeth M = (o, y, cc, ml, rt)) (hN : xMeth N = (o2, y2, cc2, ml2, rt2)) (hd : decode cc pc = .ok (.invokestatic j, 3)) (hm : xMet o j = some (k, N0, na)) (hk1 : xKindL 1 k = false) (hk2 : xKind 1 k = false) (hk : xTry k = some N) (hp : xPop (na - 1) [] st' = some (.ref a :: as, r)) (hs : xCat r ≤ 8) (hv : pIs h a o2 = true) (hL : ml2 ≤ 40 ∧ (xArgs (.ref a :: as)).length ≤ ml2) (he : xArgs (.ref a :: as) ++ List.replicate (ml2 - (xArgs (.ref a :: as)).length) none = ls0) (hc : Wp d N 0 ls0 [] h (fun v h2 => v = v1 ∧ h2 = h1)) (hca : pCau v1 b h1 = some (ci, h2)) (k9 : Wp (d + 2) M (pc + 3) ls (.int ci :: r) h2 Q) (hii : xInts (.ref a :: as) = true := by rfl) : Wp (d + 2) M pc ls (.ref b :: st') h Q := by
  subst he
  obtain ⟨fs, hfs⟩ := pIs_ok hv
  have ho : xOwn M = o := by unfold xOwn; rw [hM]
  have ho2 : xOwn N = o2 := by unfold xOwn; rw [hN]
  have hml2 : xMaxL N = ml2 := by unfold xMaxL; rw [hN]
  obtain ⟨n1, v, h3, hn1, rfl, rfl⟩ := hc
  obtain ⟨n2, v2, h4, hn2, hq2⟩ := k9
  refine ⟨max n1 n2 + 1, v2, h4, ?_, hq2⟩
  have hd' : decode (xCode M) pc = .ok (.invokestatic j, 3) := by rw [show xCode M = cc by unfold xCode; rw [hM]]; exact hd
  have hst : xStep (.invokestatic j) M pc ls (.ref b :: st') h = some (.inr (.inl (N, .ref a :: as, r, some b))) := by
    simp [xStep, xIdx, xCall, ho, hm, hk1, hk2, hk, hp, hs, xRecv, hfs, ho2, hii]
  unfold xRun
  rw [hd']
  dsimp only
  rw [show xLn (.invokestatic j) 3 = true from rfl, show xRetI (.invokestatic j) M (.ref b :: st') = none from rfl, hst]
  dsimp only
  rw [if_neg (by decide), if_pos (by rw [hml2]; exact hL)]
  have he2 : xEntry N (.ref a :: as) = xArgs (.ref a :: as) ++ List.replicate (ml2 - (xArgs (.ref a :: as)).length) none := by unfold xEntry; rw [hml2]
  rw [he2, xRun_up' (Nat.le_max_left n1 n2) hn1]
  dsimp only
  rw [show xCaught v b h3 = some (ci, h2) from hca]
  exact xRun_up' (Nat.le_max_right n1 n2) hn2
end XK
