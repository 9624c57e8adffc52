/-! ===== the constructors: further acts on lists of cells ===== -/
section CO2
variable {cs cs' : List xE} {sl L a b c i ci k : Nat} {xs : Nat → Int32} {fs : List Value}
theorem o_Sa {f : Nat → Option Nat} {j N x : Nat} {gs : List Value} (h : cs[a]? = some (.inl (3, N, .inr (.inr (.inr (.inr f)))))) (hx : cs[x]? = some (.inr (7, gs))) (hj : j < N) (hN : N ≤ 65536) (hr : cs.set a (.inl (3, N, .inr (.inr (.inr (.inr (va_up f j (some x))))))) = cs') : pSa (cH cs sl L xs) a (yN j) x = some (cH cs' sl L xs) := by
  have e := c_get (sl := sl) (L := L) (xs := xs) h
  have e2 := c_get (sl := sl) (L := L) (xs := xs) hx
  have hc : (yN j).toNatClampNeg = j := yI_cl (by omega)
  simp only [pSa, e, e2, hc]
  rw [if_pos ⟨trivial, trivial, by rintro (q | q); rw [yN_ltl (by omega) (by omega)] at q; omega; omega⟩, c_put (g_lt h), hr]
theorem o_Cpy {f g : Nat → Int32} {N M n : Nat} (h : cs[a]? = some (.inl (0, N, .inl f))) (h2 : cs[b]? = some (.inl (0, M, .inl g))) (hn : n ≤ N) (hm : n ≤ M) (hb : n ≤ 65536) (hr : cs.set b (.inl (0, M, .inl (va_cpy f g 0 0 n))) = cs') : pCpy (cH cs sl L xs) a 0 b 0 (yN n) = some (cH cs' sl L xs) := by
  have e := c_get (sl := sl) (L := L) (xs := xs) h
  have e2 := c_get (sl := sl) (L := L) (xs := xs) h2
  have hc : (yN n).toNatClampNeg = n := yI_cl (by omega)
  have h0 : (0 : Int32).toNatClampNeg = 0 := rfl
  unfold pCpy
  rw [if_pos ⟨by decide, by decide, by rw [yN_ltl (by omega) (by omega)]; omega⟩]
  simp only [e, e2, hc, h0]
  rw [if_pos ⟨trivial, trivial, by omega, by omega⟩, c_put (g_lt h2), hr]
theorem o_57 {f : Nat → Int32} {v : Int32} (h : cs[a]? = some (.inr (6, fs))) (h6 : fs[6]? = some (.int (yN k))) (h1 : fs[1]? = some (.ref b)) (hab : a ≠ b) (hb : cs[b]? = some (.inl (0, 40, .inl f))) (hk : k < 40) (hr : (cs.set a (.inr (6, fs.set 6 (.int (yN (k + 1)))))).set b (.inl (0, 40, .inl (upd f k v))) = cs') : f_57 a v (cH cs sl L xs) = some (cH cs' sl L xs) := by
  have hl : 6 < fs.length := by
    rcases Nat.lt_or_ge 6 fs.length with q | q
    · exact q
    · rw [List.getElem?_eq_none q] at h6; simp at h6
  have hb' : (cs.set a (.inr (6, fs.set 6 (.int (yN (k + 1))))))[b]? = some (.inl (0, 40, .inl f)) := by rw [List.getElem?_set, if_neg hab]; exact hb
  unfold f_57
  rw [o_Fi h h6, yBs, if_neg (by rw [yN_lle (by omega) (by omega)]; show ¬ 40 ≤ k; omega), o_Fr h h1, yBs, yBs, yN_addl, o_P (cs' := cs.set a (.inr (6, fs.set 6 (.int (yN (k + 1)))))) h hl (by rw [show xTy 6 6 = .int from rfl]; simp [xFits, narrow, fits]) rfl, yBs, o_Si hb' hk (by omega) hr, yBs, yBs]
theorem o_167 {f : Nat → Int32} (h : cs[a]? = some (.inl (0, 54, .inl f))) (hr : cs.set a (.inl (0, 54, .inl (upd (fil (fil f 0 48 (-1)) 48 54 0) 51 (-1)))) = cs') : f_167 a (cH cs sl L xs) = some (cH cs' sl L xs) := by
  have hl := g_lt h
  have l1 : ∀ (D k fu : Nat), k + D = 48 → D < fu → f_167_2 fu a (yN k) (cH (cs.set a (.inl (0, 54, .inl (fil f 0 k (-1))))) sl L xs) = some (cH (cs.set a (.inl (0, 54, .inl (fil f 0 48 (-1))))) sl L xs) := by
    intro D
    induction D with
    | zero =>
      intro k fu hk hf
      obtain ⟨fu, rfl⟩ : ∃ k, fu = k + 1 := ⟨fu - 1, by omega⟩
      obtain rfl : k = 48 := by omega
      rw [f_167_2, if_pos (by decide)]
    | succ D ih =>
      intro k fu hk hf
      obtain ⟨fu, rfl⟩ : ∃ k, fu = k + 1 := ⟨fu - 1, by omega⟩
      rw [f_167_2, if_neg (by rw [yN_lle (by omega) (by omega)]; show ¬ 48 ≤ k; omega), o_Si (cs' := cs.set a (.inl (0, 54, .inl (fil f 0 (k + 1) (-1))))) (set_get hl) (by omega) (by omega) (by rw [List.set_set, fil_s (Nat.zero_le _)]), yBs, yN_addl]
      exact ih (k + 1) fu (by omega) (by omega)
  have l2 : ∀ (D k fu : Nat), k + D = 54 → 48 ≤ k → D < fu → f_167_21 fu a (yN k) (cH (cs.set a (.inl (0, 54, .inl (fil (fil f 0 48 (-1)) 48 k 0)))) sl L xs) = some (cH (cs.set a (.inl (0, 54, .inl (fil (fil f 0 48 (-1)) 48 54 0)))) sl L xs) := by
    intro D
    induction D with
    | zero =>
      intro k fu hk hk2 hf
      obtain ⟨fu, rfl⟩ : ∃ k, fu = k + 1 := ⟨fu - 1, by omega⟩
      obtain rfl : k = 54 := by omega
      rw [f_167_21, if_pos (by decide)]
    | succ D ih =>
      intro k fu hk hk2 hf
      obtain ⟨fu, rfl⟩ : ∃ k, fu = k + 1 := ⟨fu - 1, by omega⟩
      rw [f_167_21, if_neg (by rw [yN_lle (by omega) (by omega)]; show ¬ 54 ≤ k; omega), o_Si (cs' := cs.set a (.inl (0, 54, .inl (fil (fil f 0 48 (-1)) 48 (k + 1) 0)))) (set_get hl) (by omega) (by omega) (by rw [List.set_set, fil_s hk2]), yBs, yN_addl]
      exact ih (k + 1) fu (by omega) (by omega) (by omega)
  have e0 : cs.set a (.inl (0, 54, .inl (fil f 0 0 (-1)))) = cs := by
    rw [fil_0]
    apply List.ext_getElem?
    intro j
    rw [List.getElem?_set]
    by_cases q : a = j
    · subst q; rw [if_pos rfl, if_pos hl, h]
    · rw [if_neg q]
  have a1 := l1 48 0 100000 (by omega) (by omega)
  rw [e0] at a1
  have a2 := l2 6 48 100000 (by omega) (by omega) (by omega)
  rw [fil_0] at a2
  unfold f_167
  rw [show f_167_2 100000 a 0 (cH cs sl L xs) = _ from a1, yBs, show f_167_21 100000 a 48 (cH (cs.set a (.inl (0, 54, .inl (fil f 0 48 (-1))))) sl L xs) = _ from a2, yBs, show pSi (cH (cs.set a (.inl (0, 54, .inl (fil (fil f 0 48 (-1)) 48 54 0)))) sl L xs) a 51 (-1) = some (cH cs' sl L xs) from o_Si (j := 51) (set_get hl) (by omega) (by omega) (by rw [List.set_set]; exact hr), yBs]
/-- both rows of touches are filled -/
theorem o_245 {f g : Nat → Int32} {x : Int32} (h : cs[a]? = some (.inr (12, fs))) (h44 : fs[44]? = some (.int x)) (h47 : (fs.set 44 (.int 0))[47]? = some (.ref b)) (h48 : (fs.set 44 (.int 0))[48]? = some (.ref c)) (hab : a ≠ b) (hac : a ≠ c) (hbc : b ≠ c) (hb : cs[b]? = some (.inl (0, 48, .inl f))) (hc : cs[c]? = some (.inl (0, 48, .inl g))) (hr : ((cs.set a (.inr (12, fs.set 44 (.int 0)))).set b (.inl (0, 48, .inl (fil f 0 48 0)))).set c (.inl (0, 48, .inl (fil g 0 48 9))) = cs') : f_245 a (cH cs sl L xs) = some (x, cH cs' sl L xs) := by
  have hl : 44 < fs.length := by
    rcases Nat.lt_or_ge 44 fs.length with q | q
    · exact q
    · rw [List.getElem?_eq_none q] at h44; simp at h44
  have la := g_lt h
  have lb := g_lt hb
  have lc := g_lt hc
  have gA : ∀ k, (((cs.set a (.inr (12, fs.set 44 (.int 0)))).set b (.inl (0, 48, .inl (fil f 0 k 0)))).set c (.inl (0, 48, .inl (fil g 0 k 9))))[a]? = some (.inr (12, fs.set 44 (.int 0))) := fun k => by
    rw [List.getElem?_set, if_neg (fun z => hac z.symm), List.getElem?_set, if_neg (fun z => hab z.symm), List.getElem?_set, if_pos rfl, if_pos la]
  have gB : ∀ k, (((cs.set a (.inr (12, fs.set 44 (.int 0)))).set b (.inl (0, 48, .inl (fil f 0 k 0)))).set c (.inl (0, 48, .inl (fil g 0 k 9))))[b]? = some (.inl (0, 48, .inl (fil f 0 k 0))) := fun k => by
    rw [List.getElem?_set, if_neg (fun z => hbc z.symm), List.getElem?_set, if_pos rfl, if_pos (by rw [List.length_set]; exact lb)]
  have lp : ∀ (D k fu : Nat), k + D = 48 → D < fu → f_245_12 fu a x (yN k) (cH (((cs.set a (.inr (12, fs.set 44 (.int 0)))).set b (.inl (0, 48, .inl (fil f 0 k 0)))).set c (.inl (0, 48, .inl (fil g 0 k 9)))) sl L xs) = some (cH (((cs.set a (.inr (12, fs.set 44 (.int 0)))).set b (.inl (0, 48, .inl (fil f 0 48 0)))).set c (.inl (0, 48, .inl (fil g 0 48 9)))) sl L xs) := by
    intro D
    induction D with
    | zero =>
      intro k fu hk hf
      obtain ⟨fu, rfl⟩ : ∃ k, fu = k + 1 := ⟨fu - 1, by omega⟩
      obtain rfl : k = 48 := by omega
      rw [f_245_12, if_pos (by decide)]
    | succ D ih =>
      intro k fu hk hf
      obtain ⟨fu, rfl⟩ : ∃ k, fu = k + 1 := ⟨fu - 1, by omega⟩
      have e2 : (((cs.set a (.inr (12, fs.set 44 (.int 0)))).set b (.inl (0, 48, .inl (fil f 0 k 0)))).set c (.inl (0, 48, .inl (fil g 0 k 9)))).set b (.inl (0, 48, .inl (upd (fil f 0 k 0) k 0))) = ((cs.set a (.inr (12, fs.set 44 (.int 0)))).set b (.inl (0, 48, .inl (fil f 0 (k + 1) 0)))).set c (.inl (0, 48, .inl (fil g 0 k 9))) := by
        rw [List.set_comm _ _ (fun z => hbc z.symm), List.set_set, fil_s (Nat.zero_le _)]
      have gA2 : (((cs.set a (.inr (12, fs.set 44 (.int 0)))).set b (.inl (0, 48, .inl (fil f 0 (k + 1) 0)))).set c (.inl (0, 48, .inl (fil g 0 k 9))))[a]? = some (.inr (12, fs.set 44 (.int 0))) := by
        rw [List.getElem?_set, if_neg (fun z => hac z.symm), List.getElem?_set, if_neg (fun z => hab z.symm), List.getElem?_set, if_pos rfl, if_pos la]
      have gC2 : (((cs.set a (.inr (12, fs.set 44 (.int 0)))).set b (.inl (0, 48, .inl (fil f 0 (k + 1) 0)))).set c (.inl (0, 48, .inl (fil g 0 k 9))))[c]? = some (.inl (0, 48, .inl (fil g 0 k 9))) := set_get (by rw [List.length_set, List.length_set]; exact lc)
      rw [f_245_12, if_neg (by rw [yN_lle (by omega) (by omega)]; show ¬ 48 ≤ k; omega), o_Fr (gA k) h47, yBs, o_Si (gB k) (by omega) (by omega) e2, yBs, o_Fr gA2 h48, yBs, o_Si (cs' := ((cs.set a (.inr (12, fs.set 44 (.int 0)))).set b (.inl (0, 48, .inl (fil f 0 (k + 1) 0)))).set c (.inl (0, 48, .inl (fil g 0 (k + 1) 9)))) gC2 (by omega) (by omega) (by rw [List.set_set, fil_s (Nat.zero_le _)]), yBs, yN_addl]
      exact ih (k + 1) fu (by omega) (by omega)
  have same : ∀ {ds : List xE} {j : Nat} {e : xE}, ds[j]? = some e → ds.set j e = ds := fun {ds j e} hd => by
    apply List.ext_getElem?
    intro y
    rw [List.getElem?_set]
    by_cases q : j = y
    · subst q; rw [if_pos rfl, if_pos (g_lt hd), hd]
    · rw [if_neg q]
  have hb0 : (cs.set a (.inr (12, fs.set 44 (.int 0))))[b]? = some (.inl (0, 48, .inl f)) := by rw [List.getElem?_set, if_neg hab]; exact hb
  have hc0 : (cs.set a (.inr (12, fs.set 44 (.int 0))))[c]? = some (.inl (0, 48, .inl g)) := by rw [List.getElem?_set, if_neg hac]; exact hc
  have e0 : ((cs.set a (.inr (12, fs.set 44 (.int 0)))).set b (.inl (0, 48, .inl (fil f 0 0 0)))).set c (.inl (0, 48, .inl (fil g 0 0 9))) = cs.set a (.inr (12, fs.set 44 (.int 0))) := by
    rw [fil_0, fil_0, same hb0, same hc0]
  have a1 := lp 48 0 100000 (by omega) (by omega)
  rw [e0, hr] at a1
  unfold f_245
  rw [o_Fi h h44, yBs, o_P (cs' := cs.set a (.inr (12, fs.set 44 (.int 0)))) h hl (by decide) rfl, yBs, show f_245_12 100000 a x 0 (cH (cs.set a (.inr (12, fs.set 44 (.int 0)))) sl L xs) = _ from a1, yBs]
end CO2
