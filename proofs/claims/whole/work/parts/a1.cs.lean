/-! ===== the constructors: heaps as lists of cells ===== -/
def cH (cs : List xE) (sl L : Nat) (xs : Nat → Int32) : xH := (cs.length, sl, 0, fun a => match cs[a]? with
  | some e => e
  | none => xKc0 L xs a)
theorem fitR {t : FieldType} {x : Nat} (h : fits t (.ref 0) = true) : xFits t (.ref x) = true := by
  unfold xFits
  cases t with
  | _ => first | (cases h; done) | (simp [narrow, fits] at h ⊢)
section CS
variable {cs cs' rest rest' : List xE} {sl sl' L a i ci k n : Nat} {xs : Nat → Int32} {fs : List Value} {v : Value}
theorem c_get {e : xE} (h : cs[a]? = some e) : (cH cs sl L xs).2.2.2 a = e := by
  show (match cs[a]? with | some e => e | none => xKc0 L xs a) = e
  rw [h]
theorem c_put {e : xE} (h : a < cs.length) : xPut (cH cs sl L xs) a e = cH (cs.set a e) sl L xs := by
  unfold xPut cH
  rw [List.length_set]
  congr 3
  funext x
  unfold va_up
  rw [List.getElem?_set]
  by_cases q : x = a
  · subst q; rw [if_pos rfl, if_pos rfl, if_pos h]
  · rw [if_neg q, if_neg (fun z => q z.symm)]
theorem c_add {e : xE} : xAdd (cH cs sl L xs) n e = cH (cs ++ [e]) (sl + n) L xs := by
  unfold xAdd cH
  rw [List.length_append]
  congr 3
  funext x
  unfold va_up
  by_cases q : x = cs.length
  · subst q; rw [if_pos rfl, List.getElem?_append_right (Nat.le_refl _), Nat.sub_self]; rfl
  · rw [if_neg q]
    rcases Nat.lt_or_ge x cs.length with y | y
    · rw [List.getElem?_append_left y]
    · dsimp only
      rw [List.getElem?_eq_none y, List.getElem?_append_right y, List.getElem?_eq_none (by simp; omega)]
theorem g_lt {e : xE} (h : cs[a]? = some e) : a < cs.length := by
  rcases Nat.lt_or_ge a cs.length with q | q
  · exact q
  · rw [List.getElem?_eq_none q] at h; simp at h
theorem o_P (h : cs[a]? = some (.inr (ci, fs))) (hk : k < fs.length) (hf : xFits (xTy ci k) v = true) (hr : cs.set a (.inr (ci, fs.set k v)) = cs') : pP (cH cs sl L xs) a ci k v = some (cH cs' sl L xs) := by
  have e := c_get (sl := sl) (L := L) (xs := xs) h
  simp only [pP, e]
  rw [if_pos ⟨trivial, hk, hf⟩, c_put (g_lt h), hr]
theorem o_Is (h : cs[a]? = some (.inr (ci, fs))) : pIs (cH cs sl L xs) a ci = true := by
  have e := c_get (sl := sl) (L := L) (xs := xs) h
  simp only [pIs, e]
  exact beq_self_eq_true _
theorem o_Fr {x : Nat} (h : cs[a]? = some (.inr (ci, fs))) (hk : fs[k]? = some (.ref x)) : pFr (cH cs sl L xs) a ci k = some x := by
  have e := c_get (sl := sl) (L := L) (xs := xs) h
  simp only [pFr, pF, e, if_true, hk]
theorem o_Fi {x : Int32} (h : cs[a]? = some (.inr (ci, fs))) (hk : fs[k]? = some (.int x)) : pFi (cH cs sl L xs) a ci k = some x := by
  have e := c_get (sl := sl) (L := L) (xs := xs) h
  simp only [pFi, pF, e, if_true, hk]
theorem o_Nw (hl : cs.length < 1000) (ha : cs.length = a) (hr : cs ++ [.inr (ci, xDef.getD ci [])] = cs') (hs : sl + (xDef.getD ci []).length = sl') : pNw (cH cs sl L xs) ci = some (a, cH cs' sl' L xs) := by
  unfold pNw
  rw [if_neg (by rintro (q | q); exact absurd q (by show ¬ 1000000 ≤ cs.length; omega); exact q rfl), c_add, hr, hs, ← ha]; rfl
theorem o_Ni (hn : n ≤ 65536) (hl : cs.length < 1000) (ha : cs.length = a) (hr : cs ++ [.inl (0, n, .inl (fun _ => 0))] = cs') (hs : sl + n = sl') : pNi (cH cs sl L xs) (yN n) = some (a, cH cs' sl' L xs) := by
  have hc : (yN n).toNatClampNeg = n := yI_cl (by omega)
  unfold pNi
  rw [hc, if_neg (by rintro (q | q | q | q); rw [yN_ltl (by omega) (by omega)] at q; omega; omega; exact absurd q (by show ¬ 1000000 ≤ cs.length; omega); exact q rfl), c_add, hr, hs, ← ha]; rfl
theorem o_Nl (hn : n ≤ 65536) (hl : cs.length < 1000) (ha : cs.length = a) (hr : cs ++ [.inl (1, n, .inr (.inl (fun _ => 0)))] = cs') (hs : sl + n = sl') : pNl (cH cs sl L xs) (yN n) = some (a, cH cs' sl' L xs) := by
  have hc : (yN n).toNatClampNeg = n := yI_cl (by omega)
  unfold pNl
  rw [hc, if_neg (by rintro (q | q | q | q); rw [yN_ltl (by omega) (by omega)] at q; omega; omega; exact absurd q (by show ¬ 1000000 ≤ cs.length; omega); exact q rfl), c_add, hr, hs, ← ha]; rfl
theorem o_Nb (hn : n ≤ 65536) (hl : cs.length < 1000) (ha : cs.length = a) (hr : cs ++ [.inl (2, n, .inl (fun _ => 0))] = cs') (hs : sl + n = sl') : pNb (cH cs sl L xs) (yN n) = some (a, cH cs' sl' L xs) := by
  have hc : (yN n).toNatClampNeg = n := yI_cl (by omega)
  unfold pNb
  rw [hc, if_neg (by rintro (q | q | q | q); rw [yN_ltl (by omega) (by omega)] at q; omega; omega; exact absurd q (by show ¬ 1000000 ≤ cs.length; omega); exact q rfl), c_add, hr, hs, ← ha]; rfl
theorem o_Nq (hn : n ≤ 65536) (hl : cs.length < 1000) (ha : cs.length = a) (hr : cs ++ [.inl (3, n, .inr (.inr (.inr (.inr (fun _ => none)))))] = cs') (hs : sl + n = sl') : pNq (cH cs sl L xs) (yN n) = some (a, cH cs' sl' L xs) := by
  have hc : (yN n).toNatClampNeg = n := yI_cl (by omega)
  unfold pNq
  rw [hc, if_neg (by rintro (q | q | q | q); rw [yN_ltl (by omega) (by omega)] at q; omega; omega; exact absurd q (by show ¬ 1000000 ≤ cs.length; omega); exact q rfl), c_add, hr, hs, ← ha]; rfl
theorem o_Si {f : Nat → Int32} {j N : Nat} {x : Int32} (h : cs[a]? = some (.inl (0, N, .inl f))) (hj : j < N) (hN : N ≤ 65536) (hr : cs.set a (.inl (0, N, .inl (upd f j x))) = cs') : pSi (cH cs sl L xs) a (yN j) x = some (cH cs' sl L xs) := by
  have e := c_get (sl := sl) (L := L) (xs := xs) h
  have hc : (yN j).toNatClampNeg = j := yI_cl (by omega)
  simp only [pSi, e, hc]
  rw [if_pos ⟨trivial, by rintro (q | q); rw [yN_ltl (by omega) (by omega)] at q; omega; omega⟩, c_put (g_lt h), hr]
theorem o_Len {f : Nat → Int32} {N : Nat} (h : cs[a]? = some (.inl (0, N, .inl f))) : pLen (cH cs sl L xs) a = some (yN N) := by
  have e := c_get (sl := sl) (L := L) (xs := xs) h
  simp only [pLen, e]
  rw [if_pos (Or.inl (by omega))]
/-- a part of a row is filled -/
def fil (f : Nat → Int32) (lo hi : Nat) (v : Int32) : Nat → Int32 := fun j => if lo ≤ j ∧ j < hi then v else f j
theorem fil_0 (f : Nat → Int32) (lo : Nat) (v : Int32) : fil f lo lo v = f := funext fun j => by unfold fil; rw [if_neg (by omega)]
theorem fil_s {f : Nat → Int32} {lo hi : Nat} {v : Int32} (h : lo ≤ hi) : upd (fil f lo hi v) hi v = fil f lo (hi + 1) v := funext fun j => by
  unfold upd fil
  by_cases q : j = hi
  · rw [if_pos q, if_pos (by omega)]
  · rw [if_neg q]
    by_cases z : lo ≤ j ∧ j < hi
    · rw [if_pos z, if_pos (by omega)]
    · rw [if_neg z, if_neg (by omega)]
theorem set_get {e : xE} (h : a < cs.length) : (cs.set a e)[a]? = some e := by rw [List.getElem?_set, if_pos rfl, if_pos h]
theorem o_fill {f : Nat → Int32} {N : Nat} {x : Int32} (h : cs[a]? = some (.inl (0, N, .inl f))) (hN : N ≤ 65536) (hr : cs.set a (.inl (0, N, .inl (fil f 0 N x))) = cs') : f_266 a x (cH cs sl L xs) = some (cH cs' sl L xs) := by
  have lp : ∀ (D k fu : Nat), k + D = N → D < fu → f_266_5 fu a x (yN k) (yN N) (cH (cs.set a (.inl (0, N, .inl (fil f 0 k x)))) sl L xs) = some (cH (cs.set a (.inl (0, N, .inl (fil f 0 N x)))) sl L xs) := by
    intro D
    induction D with
    | zero =>
      intro k fu hk hf
      obtain ⟨fu, rfl⟩ : ∃ k, fu = k + 1 := ⟨fu - 1, by omega⟩
      obtain rfl : k = N := by omega
      rw [f_266_5, if_pos (by rw [yN_le (by omega) (by omega)]; omega)]
    | succ D ih =>
      intro k fu hk hf
      obtain ⟨fu, rfl⟩ : ∃ k, fu = k + 1 := ⟨fu - 1, by omega⟩
      rw [f_266_5, if_neg (by rw [yN_le (by omega) (by omega)]; omega), o_Si (cs' := cs.set a (.inl (0, N, .inl (fil f 0 (k + 1) x)))) (set_get (g_lt h)) (by omega) hN (by rw [List.set_set, fil_s (Nat.zero_le _)]), yBs, yN_addl]
      exact ih (k + 1) fu (by omega) (by omega)
  have e0 : cs.set a (.inl (0, N, .inl (fil f 0 0 x))) = cs := by
    rw [fil_0]
    apply List.ext_getElem?
    intro j
    rw [List.getElem?_set]
    by_cases q : a = j
    · subst q; rw [if_pos rfl, if_pos (g_lt h), h]
    · rw [if_neg q]
  have := lp N 0 100000 (by omega) (by omega)
  rw [e0] at this
  unfold f_266
  rw [o_Len h, yBs, show f_266_5 100000 a x 0 (yN N) (cH cs sl L xs) = _ from this, yBs, hr]
theorem ga (i : Nat) : (cs ++ rest)[cs.length + i]? = rest[i]? := by rw [List.getElem?_append_right (by omega), show cs.length + i - cs.length = i by omega]
theorem sa {e : xE} (i : Nat) : (cs ++ rest).set (cs.length + i) e = cs ++ rest.set i e := by rw [List.set_append_right _ _ (by omega), show cs.length + i - cs.length = i by omega]
theorem la : (cs ++ rest).length = cs.length + rest.length := List.length_append
end CS
