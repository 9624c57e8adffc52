/-! ===== the heap behind the constructors: rows of ints and rows of longs, of a fixed shape ===== -/
abbrev yM : Type := (Nat → Nat → Int32) × (Nat → Nat → Int64)
abbrev yS : Type := (Nat × Nat) ⊕ (List Nat ⊕ (Nat × List (Option Nat)))
def ySh : List yS := [
  .inr (.inr (11, [some 1, some 3, some 5, some 11, some 103, some 104, some 105, some 110, some 116, some 118, some 135, some 146, some 148, some 153, some 158, some 159, none])),
  .inr (.inr (8, [some 2, none])),
  .inl (0, 80),
  .inr (.inr (5, [some 4, none])),
  .inl (1, 16),
  .inr (.inr (7, [some 6, none, none, none, none, none])),
  .inr (.inr (10, [some 7, some 8, some 9, some 10, none])),
  .inl (0, 48),
  .inl (0, 16),
  .inl (0, 16),
  .inl (0, 16),
  .inr (.inr (3, [some 12, none, none])),
  .inr (.inl [13, 19, 25, 31, 37, 43, 49, 55, 61, 67, 73, 79, 85, 91, 97]),
  .inr (.inr (7, [some 14, none, none, none, none, none])),
  .inr (.inr (10, [some 15, some 16, some 17, some 18, none])),
  .inl (0, 48),
  .inl (0, 16),
  .inl (0, 16),
  .inl (0, 16),
  .inr (.inr (7, [some 20, none, none, none, none, none])),
  .inr (.inr (10, [some 21, some 22, some 23, some 24, none])),
  .inl (0, 48),
  .inl (0, 16),
  .inl (0, 16),
  .inl (0, 16),
  .inr (.inr (7, [some 26, none, none, none, none, none])),
  .inr (.inr (10, [some 27, some 28, some 29, some 30, none])),
  .inl (0, 48),
  .inl (0, 16),
  .inl (0, 16),
  .inl (0, 16),
  .inr (.inr (7, [some 32, none, none, none, none, none])),
  .inr (.inr (10, [some 33, some 34, some 35, some 36, none])),
  .inl (0, 48),
  .inl (0, 16),
  .inl (0, 16),
  .inl (0, 16),
  .inr (.inr (7, [some 38, none, none, none, none, none])),
  .inr (.inr (10, [some 39, some 40, some 41, some 42, none])),
  .inl (0, 48),
  .inl (0, 16),
  .inl (0, 16),
  .inl (0, 16),
  .inr (.inr (7, [some 44, none, none, none, none, none])),
  .inr (.inr (10, [some 45, some 46, some 47, some 48, none])),
  .inl (0, 48),
  .inl (0, 16),
  .inl (0, 16),
  .inl (0, 16),
  .inr (.inr (7, [some 50, none, none, none, none, none])),
  .inr (.inr (10, [some 51, some 52, some 53, some 54, none])),
  .inl (0, 48),
  .inl (0, 16),
  .inl (0, 16),
  .inl (0, 16),
  .inr (.inr (7, [some 56, none, none, none, none, none])),
  .inr (.inr (10, [some 57, some 58, some 59, some 60, none])),
  .inl (0, 48),
  .inl (0, 16),
  .inl (0, 16),
  .inl (0, 16),
  .inr (.inr (7, [some 62, none, none, none, none, none])),
  .inr (.inr (10, [some 63, some 64, some 65, some 66, none])),
  .inl (0, 48),
  .inl (0, 16),
  .inl (0, 16),
  .inl (0, 16),
  .inr (.inr (7, [some 68, none, none, none, none, none])),
  .inr (.inr (10, [some 69, some 70, some 71, some 72, none])),
  .inl (0, 48),
  .inl (0, 16),
  .inl (0, 16),
  .inl (0, 16),
  .inr (.inr (7, [some 74, none, none, none, none, none])),
  .inr (.inr (10, [some 75, some 76, some 77, some 78, none])),
  .inl (0, 48),
  .inl (0, 16),
  .inl (0, 16),
  .inl (0, 16),
  .inr (.inr (7, [some 80, none, none, none, none, none])),
  .inr (.inr (10, [some 81, some 82, some 83, some 84, none])),
  .inl (0, 48),
  .inl (0, 16),
  .inl (0, 16),
  .inl (0, 16),
  .inr (.inr (7, [some 86, none, none, none, none, none])),
  .inr (.inr (10, [some 87, some 88, some 89, some 90, none])),
  .inl (0, 48),
  .inl (0, 16),
  .inl (0, 16),
  .inl (0, 16),
  .inr (.inr (7, [some 92, none, none, none, none, none])),
  .inr (.inr (10, [some 93, some 94, some 95, some 96, none])),
  .inl (0, 48),
  .inl (0, 16),
  .inl (0, 16),
  .inl (0, 16),
  .inr (.inr (7, [some 98, none, none, none, none, none])),
  .inr (.inr (10, [some 99, some 100, some 101, some 102, none])),
  .inl (0, 48),
  .inl (0, 16),
  .inl (0, 16),
  .inl (0, 16),
  .inr (.inl [160, 166, 172]),
  .inl (2, 3),
  .inr (.inr (0, [some 106, some 107, some 108, some 109, none, none, none, none])),
  .inl (0, 2),
  .inl (0, 16),
  .inl (0, 16),
  .inl (0, 16),
  .inr (.inr (6, [some 111, some 112, some 113, some 114, some 115, none, none, none, none, none, none])),
  .inl (0, 40),
  .inl (0, 40),
  .inl (0, 40),
  .inl (0, 40),
  .inl (2, 5),
  .inr (.inr (1, [some 105, some 110, some 117, none, none, none, none, none, none, none, none])),
  .inl (0, 10),
  .inr (.inr (2, [some 116, some 119, some 124, some 125, some 126, some 127, some 128, some 129, some 130, some 131, some 132, some 133, some 134, none, none, none])),
  .inr (.inr (10, [some 120, some 121, some 122, some 123, none])),
  .inl (0, 48),
  .inl (0, 16),
  .inl (0, 16),
  .inl (0, 16),
  .inl (1, 1200),
  .inl (1, 3),
  .inl (0, 1024),
  .inl (0, 400),
  .inl (0, 400),
  .inl (0, 400),
  .inl (0, 400),
  .inl (0, 400),
  .inl (0, 401),
  .inl (0, 50400),
  .inl (0, 48),
  .inr (.inr (9, [some 136, some 137, some 138, some 139, some 140, some 141, some 142, some 143, some 144, some 145, none, none])),
  .inl (0, 20),
  .inl (2, 20),
  .inl (0, 48),
  .inl (0, 48),
  .inl (0, 3),
  .inl (0, 3),
  .inl (0, 3),
  .inl (0, 3),
  .inl (0, 3),
  .inl (0, 3),
  .inr (.inr (4, [some 147, none, none])),
  .inl (0, 70),
  .inr (.inr (10, [some 149, some 150, some 151, some 152, none])),
  .inl (0, 48),
  .inl (0, 16),
  .inl (0, 16),
  .inl (0, 16),
  .inr (.inr (10, [some 154, some 155, some 156, some 157, none])),
  .inl (0, 48),
  .inl (0, 16),
  .inl (0, 16),
  .inl (0, 16),
  .inl (0, 4),
  .inl (0, 4),
  .inr (.inr (7, [some 161, none, none, none, none, none])),
  .inr (.inr (10, [some 162, some 163, some 164, some 165, none])),
  .inl (0, 48),
  .inl (0, 16),
  .inl (0, 16),
  .inl (0, 16),
  .inr (.inr (7, [some 167, none, none, none, none, none])),
  .inr (.inr (10, [some 168, some 169, some 170, some 171, none])),
  .inl (0, 48),
  .inl (0, 16),
  .inl (0, 16),
  .inl (0, 16),
  .inr (.inr (7, [some 173, none, none, none, none, none])),
  .inr (.inr (10, [some 174, some 175, some 176, some 177, none])),
  .inl (0, 48),
  .inl (0, 16),
  .inl (0, 16),
  .inl (0, 16),
  .inr (.inr (12, [none, none, some 179, some 180, some 181, some 182, none, none, none, some 183, none, none, none, none, some 184, some 185, some 186, none, none, some 187, some 188, some 189, some 190, none, some 191, none, none, some 192, none, some 193, some 194, none, some 195, some 196, some 197, some 198, some 199, none, none, some 200, some 201, some 202, some 203, some 204, none, some 205, some 206, some 207, some 208, some 209, none, some 210, some 211])),
  .inl (1, 24),
  .inl (0, 54),
  .inl (0, 54),
  .inl (0, 4),
  .inl (0, 80),
  .inl (0, 48),
  .inl (0, 80),
  .inl (0, 80),
  .inl (0, 80),
  .inl (0, 16),
  .inl (0, 16),
  .inl (0, 16),
  .inl (0, 54),
  .inl (0, 54),
  .inl (0, 864),
  .inl (0, 70),
  .inl (0, 21600),
  .inl (0, 400),
  .inl (0, 400),
  .inl (0, 400),
  .inl (0, 2048),
  .inl (0, 54),
  .inl (0, 400),
  .inl (0, 400),
  .inl (0, 400),
  .inl (0, 4),
  .inl (0, 20),
  .inl (0, 20),
  .inl (0, 48),
  .inl (0, 48),
  .inl (0, 1000),
  .inl (2, 3),
  .inl (0, 162),
  .inl (1, 1)]
def yFs (f : Nat → Int32) : Nat → List (Option Nat) → List Value
  | _, [] => []
  | k, some r :: t => .ref r :: yFs f (k + 1) t
  | k, none :: t => .int (f k) :: yFs f (k + 1) t
def yC (m : yM) (a : Nat) (s : yS) : xE := match s with
  | .inl (t, n) => if t = 1 then .inl (1, n, .inr (.inl (m.2 a))) else .inl (t, n, .inl (m.1 a))
  | .inr (.inl rs) => .inl (3, rs.length, .inr (.inr (.inr (.inr (fun j => rs[j]?)))))
  | .inr (.inr (ci, fl)) => .inr (ci, yFs (m.1 a) 0 fl)
/-- cells, slots, thrown, the script -/
abbrev yK : Type := Nat × Nat × Nat × Nat × (Nat → Int32)
def yCs (κ : yK) (m : yM) (a : Nat) : xE := match ySh[a]? with
  | some s => yC m a s
  | none => xKc0 κ.2.2.2.1 κ.2.2.2.2 a
def yH (κ : yK) (m : yM) : xH := (κ.1, κ.2.1, κ.2.2.1, yCs κ m)
/-- a row of ints is another one; an int of a row is another one; likewise longs -/
def yR (m : yM) (a : Nat) (f : Nat → Int32) : yM := (fun x => if x = a then f else m.1 x, m.2)
def yW (m : yM) (a k : Nat) (x : Int32) : yM := yR m a (upd (m.1 a) k x)
def yRl (m : yM) (a : Nat) (f : Nat → Int64) : yM := (m.1, fun x => if x = a then f else m.2 x)
def yWl (m : yM) (a k : Nat) (x : Int64) : yM := yRl m a (vp_updL (m.2 a) k x)
theorem yR_eq (m : yM) (a : Nat) (f : Nat → Int32) : (yR m a f).1 a = f := by simp [yR]
theorem yR_ne (m : yM) {a b : Nat} (f : Nat → Int32) (h : b ≠ a) : (yR m a f).1 b = m.1 b := by simp [yR, h]
theorem yR_2 (m : yM) (a : Nat) (f : Nat → Int32) : (yR m a f).2 = m.2 := rfl
theorem yRl_1 (m : yM) (a : Nat) (f : Nat → Int64) : (yRl m a f).1 = m.1 := rfl
theorem yRl_eq (m : yM) (a : Nat) (f : Nat → Int64) : (yRl m a f).2 a = f := by simp [yRl]
theorem yRl_ne (m : yM) {a b : Nat} (f : Nat → Int64) (h : b ≠ a) : (yRl m a f).2 b = m.2 b := by simp [yRl, h]
theorem yW_2 (m : yM) (a k : Nat) (x : Int32) : (yW m a k x).2 = m.2 := rfl
theorem yWl_1 (m : yM) (a k : Nat) (x : Int64) : (yWl m a k x).1 = m.1 := rfl
theorem yW_get (m : yM) (a k : Nat) (x : Int32) (b j : Nat) : (yW m a k x).1 b j = if b = a ∧ j = k then x else m.1 b j := by
  unfold yW yR upd
  by_cases hb : b = a
  · subst hb; simp
  · simp [hb]
theorem yWl_get (m : yM) (a k : Nat) (x : Int64) (b j : Nat) : (yWl m a k x).2 b j = if b = a ∧ j = k then x else m.2 b j := by
  unfold yWl yRl vp_updL
  by_cases hb : b = a
  · subst hb; simp
  · simp [hb]
theorem yCs_of {κ : yK} {m : yM} {a : Nat} {s : yS} (h : ySh[a]? = some s) : yCs κ m a = yC m a s := by unfold yCs; rw [h]
theorem yFs_get (f : Nat → Int32) : ∀ (fl : List (Option Nat)) (k i : Nat), (yFs f k fl)[i]? = match fl[i]? with
    | some (some r) => some (.ref r)
    | some none => some (.int (f (k + i)))
    | none => none := by
  intro fl
  induction fl with
  | nil => intro k i; rfl
  | cons x t ih =>
    intro k i
    cases i with
    | zero => cases x <;> rfl
    | succ i =>
      cases x with
      | some r =>
        simp only [yFs, List.getElem?_cons_succ]
        rw [ih, show k + 1 + i = k + (i + 1) by omega]
      | none =>
        simp only [yFs, List.getElem?_cons_succ]
        rw [ih, show k + 1 + i = k + (i + 1) by omega]
theorem yFs_len (f : Nat → Int32) : ∀ (fl : List (Option Nat)) (k : Nat), (yFs f k fl).length = fl.length := by
  intro fl
  induction fl with
  | nil => intro k; rfl
  | cons x t ih => intro k; cases x <;> simp [yFs, ih]
theorem yFs_set (f : Nat → Int32) (fl : List (Option Nat)) (k : Nat) (x : Int32) (h : fl[k]? = some none) : (yFs f 0 fl).set k (.int x) = yFs (upd f k x) 0 fl := by
  apply List.ext_getElem?
  intro i
  rw [List.getElem?_set, yFs_get, yFs_get, yFs_len]
  by_cases hi : k = i
  · subst hi
    have hl : k < fl.length := by
      rcases Nat.lt_or_ge k fl.length with q | q
      · exact q
      · rw [List.getElem?_eq_none q] at h; cases h
    rw [if_pos rfl, if_pos hl, h]
    simp [upd]
  · rw [if_neg hi]
    split
    · rfl
    · simp [upd]; omega
    · rfl
theorem yPut_i {κ : yK} {m : yM} {a : Nat} {e : xE} {f : Nat → Int32} {s : yS} (hs : ySh[a]? = some s) (he : e = yC (yR m a f) a s) : xPut (yH κ m) a e = yH κ (yR m a f) := by
  unfold xPut yH
  simp only [Prod.mk.injEq, true_and]
  funext x
  unfold va_up
  by_cases hx : x = a
  · subst hx; rw [if_pos rfl, he, yCs_of hs]
  · rw [if_neg hx]
    unfold yCs
    cases ySh[x]? with
    | none => rfl
    | some s2 => simp only [yC, yR_ne m f hx, yR_2]
theorem yPut_l {κ : yK} {m : yM} {a : Nat} {e : xE} {f : Nat → Int64} {s : yS} (hs : ySh[a]? = some s) (he : e = yC (yRl m a f) a s) : xPut (yH κ m) a e = yH κ (yRl m a f) := by
  unfold xPut yH
  simp only [Prod.mk.injEq, true_and]
  funext x
  unfold va_up
  by_cases hx : x = a
  · subst hx; rw [if_pos rfl, he, yCs_of hs]
  · rw [if_neg hx]
    unfold yCs
    cases ySh[x]? with
    | none => rfl
    | some s2 => simp only [yC, yRl_ne m f hx, yRl_1]
section YH
variable {κ : yK} {m : yM} {a ci k b : Nat} {fl : List (Option Nat)}
theorem yh_fr {r : Nat} (h1 : ySh[a]? = some (.inr (.inr (ci, fl)))) (h2 : fl[k]? = some (some r)) : pFr (yH κ m) a ci k = some r := by
  have e : (yH κ m).2.2.2 a = .inr (ci, yFs (m.1 a) 0 fl) := yCs_of h1
  simp only [pFr, pF, e, if_true, yFs_get, h2]
theorem yh_fi (h1 : ySh[a]? = some (.inr (.inr (ci, fl)))) (h2 : fl[k]? = some none) : pFi (yH κ m) a ci k = some (m.1 a k) := by
  have e : (yH κ m).2.2.2 a = .inr (ci, yFs (m.1 a) 0 fl) := yCs_of h1
  simp only [pFi, pF, e, if_true, yFs_get, h2, Nat.zero_add]
theorem yh_p {x : Int32} (h1 : ySh[a]? = some (.inr (.inr (ci, fl)))) (h2 : fl[k]? = some none) (h3 : xTy ci k = .int) : pP (yH κ m) a ci k (.int x) = some (yH κ (yW m a k x)) := by
  have e : (yH κ m).2.2.2 a = .inr (ci, yFs (m.1 a) 0 fl) := yCs_of h1
  have hl : k < fl.length := by
    rcases Nat.lt_or_ge k fl.length with q | q
    · exact q
    · rw [List.getElem?_eq_none q] at h2; cases h2
  simp only [pP, e]
  rw [if_pos ⟨trivial, by rw [yFs_len]; exact hl, by rw [h3]; simp [xFits, narrow, fits]⟩]
  congr 1
  refine yPut_i h1 ?_
  simp only [yC, yR_eq, yFs_set _ _ _ _ h2]
theorem yh_pb {x : Int32} (h1 : ySh[a]? = some (.inr (.inr (ci, fl)))) (h2 : fl[k]? = some none) (h3 : xTy ci k = .boolean) (hx : x = 0 ∨ x = 1) : pP (yH κ m) a ci k (.int x) = some (yH κ (yW m a k x)) := by
  have e : (yH κ m).2.2.2 a = .inr (ci, yFs (m.1 a) 0 fl) := yCs_of h1
  have hl : k < fl.length := by
    rcases Nat.lt_or_ge k fl.length with q | q
    · exact q
    · rw [List.getElem?_eq_none q] at h2; cases h2
  simp only [pP, e]
  rw [if_pos ⟨trivial, by rw [yFs_len]; exact hl, by rw [h3]; rcases hx with rfl | rfl <;> decide⟩]
  congr 1
  refine yPut_i h1 ?_
  simp only [yC, yR_eq, yFs_set _ _ _ _ h2]
theorem yh_is (h1 : ySh[a]? = some (.inr (.inr (ci, fl)))) : pIs (yH κ m) a ci = true := by
  have e : (yH κ m).2.2.2 a = .inr (ci, yFs (m.1 a) 0 fl) := yCs_of h1
  simp only [pIs, e, beq_self_eq_true]
theorem yI_cl {i : Nat} (h : i < 2147483648) : (Int32.ofNat i).toNatClampNeg = i := by
  rw [Int32.toNatClampNeg, Int32.toInt_ofNat_of_lt h]; rfl
theorem yI_nn {i : Nat} (h : i < 2147483648) : ¬ (Int32.ofNat i < 0) := by
  rw [Int32.lt_iff_toInt_lt, Int32.toInt_ofNat_of_lt h]
  show ¬ ((i : Int) < 0)
  omega
variable {n : Nat}
theorem ySh_lt {s : yS} (h1 : ySh[a]? = some s) : a < 213 := by
  rcases Nat.lt_or_ge a 213 with q | q
  · exact q
  · rw [List.getElem?_eq_none (show ySh.length ≤ a from q)] at h1; cases h1
theorem yh_ai {i : Nat} (h1 : ySh[a]? = some (.inl (0, n))) (hn : n ≤ 65536) (hi : i < n) : pAi (yH κ m) a (Int32.ofNat i) = some (m.1 a i) := by
  have e : (yH κ m).2.2.2 a = .inl (0, n, .inl (m.1 a)) := yCs_of h1
  simp only [pAi, e]
  rw [yI_cl (by omega), if_pos ⟨Or.inl trivial, fun hc => hc.elim (yI_nn (by omega)) (by omega)⟩]
theorem yh_si {i : Nat} {x : Int32} (h1 : ySh[a]? = some (.inl (0, n))) (hn : n ≤ 65536) (hi : i < n) : pSi (yH κ m) a (Int32.ofNat i) x = some (yH κ (yW m a i x)) := by
  have e : (yH κ m).2.2.2 a = .inl (0, n, .inl (m.1 a)) := yCs_of h1
  simp only [pSi, e]
  rw [yI_cl (by omega), if_pos ⟨trivial, fun hc => hc.elim (yI_nn (by omega)) (by omega)⟩]
  congr 1
  refine yPut_i h1 ?_
  simp only [yC, yR_eq]
  rfl
theorem yh_ab {i : Nat} (h1 : ySh[a]? = some (.inl (2, n))) (hn : n ≤ 65536) (hi : i < n) : pAb (yH κ m) a (Int32.ofNat i) = some (m.1 a i) := by
  have e : (yH κ m).2.2.2 a = .inl (2, n, .inl (m.1 a)) := yCs_of h1
  simp only [pAb, e]
  rw [yI_cl (by omega), if_pos ⟨trivial, fun hc => hc.elim (yI_nn (by omega)) (by omega)⟩]
theorem yh_sb {i : Nat} {x : Int32} (h1 : ySh[a]? = some (.inl (2, n))) (hn : n ≤ 65536) (hi : i < n) : pSb (yH κ m) a (Int32.ofNat i) x = some (yH κ (yW m a i (x &&& 1))) := by
  have e : (yH κ m).2.2.2 a = .inl (2, n, .inl (m.1 a)) := yCs_of h1
  simp only [pSb, e]
  rw [yI_cl (by omega), if_pos ⟨trivial, fun hc => hc.elim (yI_nn (by omega)) (by omega)⟩]
  congr 1
  refine yPut_i h1 ?_
  simp only [yC, yR_eq]
  rfl
theorem yh_al {i : Nat} (h1 : ySh[a]? = some (.inl (1, n))) (hn : n ≤ 65536) (hi : i < n) : pAl (yH κ m) a (Int32.ofNat i) = some (m.2 a i) := by
  have e : (yH κ m).2.2.2 a = .inl (1, n, .inr (.inl (m.2 a))) := yCs_of h1
  simp only [pAl, e]
  rw [yI_cl (by omega), if_pos ⟨trivial, fun hc => hc.elim (yI_nn (by omega)) (by omega)⟩]
theorem yh_sl {i : Nat} {x : Int64} (h1 : ySh[a]? = some (.inl (1, n))) (hn : n ≤ 65536) (hi : i < n) : pSl (yH κ m) a (Int32.ofNat i) x = some (yH κ (yWl m a i x)) := by
  have e : (yH κ m).2.2.2 a = .inl (1, n, .inr (.inl (m.2 a))) := yCs_of h1
  simp only [pSl, e]
  rw [yI_cl (by omega), if_pos ⟨trivial, fun hc => hc.elim (yI_nn (by omega)) (by omega)⟩]
  congr 1
  refine yPut_l h1 ?_
  simp only [yC, yRl_eq]
  rfl
theorem yh_aa {i r : Nat} {rs : List Nat} (h1 : ySh[a]? = some (.inr (.inl rs))) (hn : rs.length ≤ 65536) (hi : rs[i]? = some r) : pAa (yH κ m) a (Int32.ofNat i) = some r := by
  have e : (yH κ m).2.2.2 a = .inl (3, rs.length, .inr (.inr (.inr (.inr (fun j => rs[j]?))))) := yCs_of h1
  have hl : i < rs.length := by
    rcases Nat.lt_or_ge i rs.length with q | q
    · exact q
    · rw [List.getElem?_eq_none q] at hi; cases hi
  simp only [pAa, e]
  rw [yI_cl (by omega), if_pos ⟨trivial, fun hc => hc.elim (yI_nn (by omega)) (by omega)⟩, hi]
theorem yh_len {t : Nat} (h1 : ySh[a]? = some (.inl (t, n))) (ht : t < 3) : pLen (yH κ m) a = some (Int32.ofNat n) := by
  by_cases h9 : t = 1
  · subst h9
    have e : (yH κ m).2.2.2 a = .inl (1, n, .inr (.inl (m.2 a))) := yCs_of h1
    simp only [pLen, e]
    rw [if_pos (Or.inl (by omega))]
  · have e : (yH κ m).2.2.2 a = .inl (t, n, .inl (m.1 a)) := by
      show yCs κ m a = _
      rw [yCs_of h1]; simp only [yC]; rw [if_neg h9]
    simp only [pLen, e]
    rw [if_pos (Or.inl (by omega))]
theorem yh_cpy {sp dp c n2 : Nat} (h1 : ySh[a]? = some (.inl (0, n))) (h2 : ySh[b]? = some (.inl (0, n2))) (hn : n ≤ 65536) (hn2 : n2 ≤ 65536) (hs : sp + c ≤ n) (hd : dp + c ≤ n2) : pCpy (yH κ m) a (Int32.ofNat sp) b (Int32.ofNat dp) (Int32.ofNat c) = some (yH κ (yR m b (va_cpy (m.1 a) (m.1 b) sp dp c))) := by
  have e : (yH κ m).2.2.2 a = .inl (0, n, .inl (m.1 a)) := yCs_of h1
  have e2 : (yH κ m).2.2.2 b = .inl (0, n2, .inl (m.1 b)) := yCs_of h2
  simp only [pCpy, e, e2]
  rw [if_pos ⟨yI_nn (by omega), yI_nn (by omega), yI_nn (by omega)⟩, yI_cl (by omega), yI_cl (by omega), yI_cl (by omega), if_pos ⟨trivial, trivial, hs, hd⟩]
  congr 1
  refine yPut_i h2 ?_
  simp only [yC, yR_eq]
  rfl
theorem yh_cpyl {sp dp c n2 : Nat} (h1 : ySh[a]? = some (.inl (1, n))) (h2 : ySh[b]? = some (.inl (1, n2))) (hn : n ≤ 65536) (hn2 : n2 ≤ 65536) (hs : sp + c ≤ n) (hd : dp + c ≤ n2) : pCpy (yH κ m) a (Int32.ofNat sp) b (Int32.ofNat dp) (Int32.ofNat c) = some (yH κ (yRl m b (va_cpy (m.2 a) (m.2 b) sp dp c))) := by
  have e : (yH κ m).2.2.2 a = .inl (1, n, .inr (.inl (m.2 a))) := yCs_of h1
  have e2 : (yH κ m).2.2.2 b = .inl (1, n2, .inr (.inl (m.2 b))) := yCs_of h2
  simp only [pCpy, e, e2]
  rw [if_pos ⟨yI_nn (by omega), yI_nn (by omega), yI_nn (by omega)⟩, yI_cl (by omega), yI_cl (by omega), yI_cl (by omega), if_pos ⟨trivial, trivial, hs, hd⟩]
  congr 1
  refine yPut_l h2 ?_
  simp only [yC, yRl_eq]
  rfl
set_option maxRecDepth 4096 in
theorem ySh_n : ySh.length = 213 := rfl
theorem ySh_K {j : Nat} : ySh[xKb + j]? = none := List.getElem?_eq_none (by rw [ySh_n]; unfold xKb; omega)
theorem yh_k0 {i : Nat} (hi : i < 8) : pAi (yH κ m) (xKb + 0) (Int32.ofNat i) = some (([0, 0, 1, 0, 2, 0, 1, 0] : List Int32).getD i 0) := by
  have e : (yH κ m).2.2.2 (xKb + 0) = .inl (10, 8, .inl (fun j => ([0, 0, 1, 0, 2, 0, 1, 0] : List Int32).getD j 0)) := by
    show yCs κ m (xKb + 0) = _
    unfold yCs; rw [ySh_K]; simp only [xKc0]; rw [if_pos (Nat.add_zero _)]
  simp only [pAi, e]
  rw [yI_cl (by omega), if_pos ⟨Or.inr ⟨trivial, by omega⟩, fun hc => hc.elim (yI_nn (by omega)) (by omega)⟩]
theorem yh_k1 {i : Nat} (hi : i < 8) : pAi (yH κ m) (xKb + 1) (Int32.ofNat i) = some (([0, 0, 1, 1, 2, 2, 2, 2] : List Int32).getD i 0) := by
  have e : (yH κ m).2.2.2 (xKb + 1) = .inl (10, 8, .inl (fun j => ([0, 0, 1, 1, 2, 2, 2, 2] : List Int32).getD j 0)) := by
    show yCs κ m (xKb + 1) = _
    unfold yCs; rw [ySh_K]; simp only [xKc0]; rw [if_neg (by omega), if_pos trivial]
  simp only [pAi, e]
  rw [yI_cl (by omega), if_pos ⟨Or.inr ⟨trivial, by omega⟩, fun hc => hc.elim (yI_nn (by omega)) (by omega)⟩]
theorem yh_k2 {i : Nat} (hL : κ.2.2.2.1 ≤ 65536) (hi : i < κ.2.2.2.1) : pAi (yH κ m) (xKb + 2) (Int32.ofNat i) = some (κ.2.2.2.2 i) := by
  have e : (yH κ m).2.2.2 (xKb + 2) = .inl (10, κ.2.2.2.1, .inl κ.2.2.2.2) := by
    show yCs κ m (xKb + 2) = _
    unfold yCs; rw [ySh_K]; simp only [xKc0]; rw [if_neg (by omega), if_neg (by omega), if_pos trivial]
  simp only [pAi, e]
  rw [yI_cl (by omega), if_pos ⟨Or.inr ⟨trivial, by omega⟩, fun hc => hc.elim (yI_nn (by omega)) (by omega)⟩]
theorem yh_lenk : pLen (yH κ m) (xKb + 2) = some (Int32.ofNat κ.2.2.2.1) := by
  have e : (yH κ m).2.2.2 (xKb + 2) = .inl (10, κ.2.2.2.1, .inl κ.2.2.2.2) := by
    show yCs κ m (xKb + 2) = _
    unfold yCs; rw [ySh_K]; simp only [xKc0]; rw [if_neg (by omega), if_neg (by omega), if_pos trivial]
  simp only [pLen, e]
  rw [if_pos (Or.inr ⟨trivial, by omega⟩)]
end YH
section YG
variable {κ : yK} {m : yM}
theorem yis_0 : pIs (yH κ m) 0 11 = true := yh_is rfl
theorem yr_0_0 : pFr (yH κ m) 0 11 0 = some 1 := yh_fr rfl rfl
theorem yr_0_1 : pFr (yH κ m) 0 11 1 = some 3 := yh_fr rfl rfl
theorem yr_0_2 : pFr (yH κ m) 0 11 2 = some 5 := yh_fr rfl rfl
theorem yr_0_3 : pFr (yH κ m) 0 11 3 = some 11 := yh_fr rfl rfl
theorem yr_0_4 : pFr (yH κ m) 0 11 4 = some 103 := yh_fr rfl rfl
theorem yr_0_5 : pFr (yH κ m) 0 11 5 = some 104 := yh_fr rfl rfl
theorem yr_0_6 : pFr (yH κ m) 0 11 6 = some 105 := yh_fr rfl rfl
theorem yr_0_7 : pFr (yH κ m) 0 11 7 = some 110 := yh_fr rfl rfl
theorem yr_0_8 : pFr (yH κ m) 0 11 8 = some 116 := yh_fr rfl rfl
theorem yr_0_9 : pFr (yH κ m) 0 11 9 = some 118 := yh_fr rfl rfl
theorem yr_0_10 : pFr (yH κ m) 0 11 10 = some 135 := yh_fr rfl rfl
theorem yr_0_11 : pFr (yH κ m) 0 11 11 = some 146 := yh_fr rfl rfl
theorem yr_0_12 : pFr (yH κ m) 0 11 12 = some 148 := yh_fr rfl rfl
theorem yr_0_13 : pFr (yH κ m) 0 11 13 = some 153 := yh_fr rfl rfl
theorem yr_0_14 : pFr (yH κ m) 0 11 14 = some 158 := yh_fr rfl rfl
theorem yr_0_15 : pFr (yH κ m) 0 11 15 = some 159 := yh_fr rfl rfl
theorem yi_0_16 : pFi (yH κ m) 0 11 16 = some (m.1 0 16) := yh_fi rfl rfl
theorem yp_0_16 {x : Int32} : pP (yH κ m) 0 11 16 (.int x) = some (yH κ (yW m 0 16 x)) := yh_p rfl rfl rfl
theorem yis_1 : pIs (yH κ m) 1 8 = true := yh_is rfl
theorem yr_1_0 : pFr (yH κ m) 1 8 0 = some 2 := yh_fr rfl rfl
theorem yi_1_1 : pFi (yH κ m) 1 8 1 = some (m.1 1 1) := yh_fi rfl rfl
theorem yp_1_1 {x : Int32} : pP (yH κ m) 1 8 1 (.int x) = some (yH κ (yW m 1 1 x)) := yh_p rfl rfl rfl
theorem yis_3 : pIs (yH κ m) 3 5 = true := yh_is rfl
theorem yr_3_0 : pFr (yH κ m) 3 5 0 = some 4 := yh_fr rfl rfl
theorem yi_3_1 : pFi (yH κ m) 3 5 1 = some (m.1 3 1) := yh_fi rfl rfl
theorem yp_3_1 {x : Int32} : pP (yH κ m) 3 5 1 (.int x) = some (yH κ (yW m 3 1 x)) := yh_p rfl rfl rfl
theorem yis_11 : pIs (yH κ m) 11 3 = true := yh_is rfl
theorem yr_11_0 : pFr (yH κ m) 11 3 0 = some 12 := yh_fr rfl rfl
theorem yi_11_1 : pFi (yH κ m) 11 3 1 = some (m.1 11 1) := yh_fi rfl rfl
theorem yp_11_1 {x : Int32} : pP (yH κ m) 11 3 1 (.int x) = some (yH κ (yW m 11 1 x)) := yh_p rfl rfl rfl
theorem yi_11_2 : pFi (yH κ m) 11 3 2 = some (m.1 11 2) := yh_fi rfl rfl
theorem yp_11_2 {x : Int32} : pP (yH κ m) 11 3 2 (.int x) = some (yH κ (yW m 11 2 x)) := yh_p rfl rfl rfl
theorem yis_105 : pIs (yH κ m) 105 0 = true := yh_is rfl
theorem yr_105_0 : pFr (yH κ m) 105 0 0 = some 106 := yh_fr rfl rfl
theorem yr_105_1 : pFr (yH κ m) 105 0 1 = some 107 := yh_fr rfl rfl
theorem yr_105_2 : pFr (yH κ m) 105 0 2 = some 108 := yh_fr rfl rfl
theorem yr_105_3 : pFr (yH κ m) 105 0 3 = some 109 := yh_fr rfl rfl
theorem yi_105_4 : pFi (yH κ m) 105 0 4 = some (m.1 105 4) := yh_fi rfl rfl
theorem yp_105_4 {x : Int32} : pP (yH κ m) 105 0 4 (.int x) = some (yH κ (yW m 105 4 x)) := yh_p rfl rfl rfl
theorem yi_105_5 : pFi (yH κ m) 105 0 5 = some (m.1 105 5) := yh_fi rfl rfl
theorem yp_105_5 {x : Int32} : pP (yH κ m) 105 0 5 (.int x) = some (yH κ (yW m 105 5 x)) := yh_p rfl rfl rfl
theorem yi_105_6 : pFi (yH κ m) 105 0 6 = some (m.1 105 6) := yh_fi rfl rfl
theorem yp_105_6 {x : Int32} : pP (yH κ m) 105 0 6 (.int x) = some (yH κ (yW m 105 6 x)) := yh_p rfl rfl rfl
theorem yi_105_7 : pFi (yH κ m) 105 0 7 = some (m.1 105 7) := yh_fi rfl rfl
theorem yp_105_7 {x : Int32} : pP (yH κ m) 105 0 7 (.int x) = some (yH κ (yW m 105 7 x)) := yh_p rfl rfl rfl
theorem yis_110 : pIs (yH κ m) 110 6 = true := yh_is rfl
theorem yr_110_0 : pFr (yH κ m) 110 6 0 = some 111 := yh_fr rfl rfl
theorem yr_110_1 : pFr (yH κ m) 110 6 1 = some 112 := yh_fr rfl rfl
theorem yr_110_2 : pFr (yH κ m) 110 6 2 = some 113 := yh_fr rfl rfl
theorem yr_110_3 : pFr (yH κ m) 110 6 3 = some 114 := yh_fr rfl rfl
theorem yr_110_4 : pFr (yH κ m) 110 6 4 = some 115 := yh_fr rfl rfl
theorem yi_110_5 : pFi (yH κ m) 110 6 5 = some (m.1 110 5) := yh_fi rfl rfl
theorem yp_110_5 {x : Int32} : pP (yH κ m) 110 6 5 (.int x) = some (yH κ (yW m 110 5 x)) := yh_p rfl rfl rfl
theorem yi_110_6 : pFi (yH κ m) 110 6 6 = some (m.1 110 6) := yh_fi rfl rfl
theorem yp_110_6 {x : Int32} : pP (yH κ m) 110 6 6 (.int x) = some (yH κ (yW m 110 6 x)) := yh_p rfl rfl rfl
theorem yi_110_7 : pFi (yH κ m) 110 6 7 = some (m.1 110 7) := yh_fi rfl rfl
theorem yp_110_7 {x : Int32} : pP (yH κ m) 110 6 7 (.int x) = some (yH κ (yW m 110 7 x)) := yh_p rfl rfl rfl
theorem yi_110_8 : pFi (yH κ m) 110 6 8 = some (m.1 110 8) := yh_fi rfl rfl
theorem yp_110_8 {x : Int32} : pP (yH κ m) 110 6 8 (.int x) = some (yH κ (yW m 110 8 x)) := yh_p rfl rfl rfl
theorem yi_110_9 : pFi (yH κ m) 110 6 9 = some (m.1 110 9) := yh_fi rfl rfl
theorem yp_110_9 {x : Int32} : pP (yH κ m) 110 6 9 (.int x) = some (yH κ (yW m 110 9 x)) := yh_p rfl rfl rfl
theorem yi_110_10 : pFi (yH κ m) 110 6 10 = some (m.1 110 10) := yh_fi rfl rfl
theorem yp0_110_10 : pP (yH κ m) 110 6 10 (.int 0) = some (yH κ (yW m 110 10 0)) := yh_pb rfl rfl rfl (Or.inl rfl)
theorem yp1_110_10 : pP (yH κ m) 110 6 10 (.int 1) = some (yH κ (yW m 110 10 1)) := yh_pb rfl rfl rfl (Or.inr rfl)
theorem yis_116 : pIs (yH κ m) 116 1 = true := yh_is rfl
theorem yr_116_0 : pFr (yH κ m) 116 1 0 = some 105 := yh_fr rfl rfl
theorem yr_116_1 : pFr (yH κ m) 116 1 1 = some 110 := yh_fr rfl rfl
theorem yr_116_2 : pFr (yH κ m) 116 1 2 = some 117 := yh_fr rfl rfl
theorem yi_116_3 : pFi (yH κ m) 116 1 3 = some (m.1 116 3) := yh_fi rfl rfl
theorem yp_116_3 {x : Int32} : pP (yH κ m) 116 1 3 (.int x) = some (yH κ (yW m 116 3 x)) := yh_p rfl rfl rfl
theorem yi_116_4 : pFi (yH κ m) 116 1 4 = some (m.1 116 4) := yh_fi rfl rfl
theorem yp_116_4 {x : Int32} : pP (yH κ m) 116 1 4 (.int x) = some (yH κ (yW m 116 4 x)) := yh_p rfl rfl rfl
theorem yi_116_5 : pFi (yH κ m) 116 1 5 = some (m.1 116 5) := yh_fi rfl rfl
theorem yp_116_5 {x : Int32} : pP (yH κ m) 116 1 5 (.int x) = some (yH κ (yW m 116 5 x)) := yh_p rfl rfl rfl
theorem yi_116_6 : pFi (yH κ m) 116 1 6 = some (m.1 116 6) := yh_fi rfl rfl
theorem yp_116_6 {x : Int32} : pP (yH κ m) 116 1 6 (.int x) = some (yH κ (yW m 116 6 x)) := yh_p rfl rfl rfl
theorem yi_116_7 : pFi (yH κ m) 116 1 7 = some (m.1 116 7) := yh_fi rfl rfl
theorem yp_116_7 {x : Int32} : pP (yH κ m) 116 1 7 (.int x) = some (yH κ (yW m 116 7 x)) := yh_p rfl rfl rfl
theorem yi_116_8 : pFi (yH κ m) 116 1 8 = some (m.1 116 8) := yh_fi rfl rfl
theorem yp_116_8 {x : Int32} : pP (yH κ m) 116 1 8 (.int x) = some (yH κ (yW m 116 8 x)) := yh_p rfl rfl rfl
theorem yi_116_9 : pFi (yH κ m) 116 1 9 = some (m.1 116 9) := yh_fi rfl rfl
theorem yp_116_9 {x : Int32} : pP (yH κ m) 116 1 9 (.int x) = some (yH κ (yW m 116 9 x)) := yh_p rfl rfl rfl
theorem yi_116_10 : pFi (yH κ m) 116 1 10 = some (m.1 116 10) := yh_fi rfl rfl
theorem yp_116_10 {x : Int32} : pP (yH κ m) 116 1 10 (.int x) = some (yH κ (yW m 116 10 x)) := yh_p rfl rfl rfl
theorem yis_118 : pIs (yH κ m) 118 2 = true := yh_is rfl
theorem yr_118_0 : pFr (yH κ m) 118 2 0 = some 116 := yh_fr rfl rfl
theorem yr_118_1 : pFr (yH κ m) 118 2 1 = some 119 := yh_fr rfl rfl
theorem yr_118_2 : pFr (yH κ m) 118 2 2 = some 124 := yh_fr rfl rfl
theorem yr_118_3 : pFr (yH κ m) 118 2 3 = some 125 := yh_fr rfl rfl
theorem yr_118_4 : pFr (yH κ m) 118 2 4 = some 126 := yh_fr rfl rfl
theorem yr_118_5 : pFr (yH κ m) 118 2 5 = some 127 := yh_fr rfl rfl
theorem yr_118_6 : pFr (yH κ m) 118 2 6 = some 128 := yh_fr rfl rfl
theorem yr_118_7 : pFr (yH κ m) 118 2 7 = some 129 := yh_fr rfl rfl
theorem yr_118_8 : pFr (yH κ m) 118 2 8 = some 130 := yh_fr rfl rfl
theorem yr_118_9 : pFr (yH κ m) 118 2 9 = some 131 := yh_fr rfl rfl
theorem yr_118_10 : pFr (yH κ m) 118 2 10 = some 132 := yh_fr rfl rfl
theorem yr_118_11 : pFr (yH κ m) 118 2 11 = some 133 := yh_fr rfl rfl
theorem yr_118_12 : pFr (yH κ m) 118 2 12 = some 134 := yh_fr rfl rfl
theorem yi_118_13 : pFi (yH κ m) 118 2 13 = some (m.1 118 13) := yh_fi rfl rfl
theorem yp_118_13 {x : Int32} : pP (yH κ m) 118 2 13 (.int x) = some (yH κ (yW m 118 13 x)) := yh_p rfl rfl rfl
theorem yi_118_14 : pFi (yH κ m) 118 2 14 = some (m.1 118 14) := yh_fi rfl rfl
theorem yp_118_14 {x : Int32} : pP (yH κ m) 118 2 14 (.int x) = some (yH κ (yW m 118 14 x)) := yh_p rfl rfl rfl
theorem yi_118_15 : pFi (yH κ m) 118 2 15 = some (m.1 118 15) := yh_fi rfl rfl
theorem yp0_118_15 : pP (yH κ m) 118 2 15 (.int 0) = some (yH κ (yW m 118 15 0)) := yh_pb rfl rfl rfl (Or.inl rfl)
theorem yp1_118_15 : pP (yH κ m) 118 2 15 (.int 1) = some (yH κ (yW m 118 15 1)) := yh_pb rfl rfl rfl (Or.inr rfl)
theorem yis_135 : pIs (yH κ m) 135 9 = true := yh_is rfl
theorem yr_135_0 : pFr (yH κ m) 135 9 0 = some 136 := yh_fr rfl rfl
theorem yr_135_1 : pFr (yH κ m) 135 9 1 = some 137 := yh_fr rfl rfl
theorem yr_135_2 : pFr (yH κ m) 135 9 2 = some 138 := yh_fr rfl rfl
theorem yr_135_3 : pFr (yH κ m) 135 9 3 = some 139 := yh_fr rfl rfl
theorem yr_135_4 : pFr (yH κ m) 135 9 4 = some 140 := yh_fr rfl rfl
theorem yr_135_5 : pFr (yH κ m) 135 9 5 = some 141 := yh_fr rfl rfl
theorem yr_135_6 : pFr (yH κ m) 135 9 6 = some 142 := yh_fr rfl rfl
theorem yr_135_7 : pFr (yH κ m) 135 9 7 = some 143 := yh_fr rfl rfl
theorem yr_135_8 : pFr (yH κ m) 135 9 8 = some 144 := yh_fr rfl rfl
theorem yr_135_9 : pFr (yH κ m) 135 9 9 = some 145 := yh_fr rfl rfl
theorem yi_135_10 : pFi (yH κ m) 135 9 10 = some (m.1 135 10) := yh_fi rfl rfl
theorem yp_135_10 {x : Int32} : pP (yH κ m) 135 9 10 (.int x) = some (yH κ (yW m 135 10 x)) := yh_p rfl rfl rfl
theorem yi_135_11 : pFi (yH κ m) 135 9 11 = some (m.1 135 11) := yh_fi rfl rfl
theorem yp_135_11 {x : Int32} : pP (yH κ m) 135 9 11 (.int x) = some (yH κ (yW m 135 11 x)) := yh_p rfl rfl rfl
theorem yis_146 : pIs (yH κ m) 146 4 = true := yh_is rfl
theorem yr_146_0 : pFr (yH κ m) 146 4 0 = some 147 := yh_fr rfl rfl
theorem yi_146_1 : pFi (yH κ m) 146 4 1 = some (m.1 146 1) := yh_fi rfl rfl
theorem yp_146_1 {x : Int32} : pP (yH κ m) 146 4 1 (.int x) = some (yH κ (yW m 146 1 x)) := yh_p rfl rfl rfl
theorem yi_146_2 : pFi (yH κ m) 146 4 2 = some (m.1 146 2) := yh_fi rfl rfl
theorem yp_146_2 {x : Int32} : pP (yH κ m) 146 4 2 (.int x) = some (yH κ (yW m 146 2 x)) := yh_p rfl rfl rfl
theorem yis_178 : pIs (yH κ m) 178 12 = true := yh_is rfl
theorem yi_178_0 : pFi (yH κ m) 178 12 0 = some (m.1 178 0) := yh_fi rfl rfl
theorem yp_178_0 {x : Int32} : pP (yH κ m) 178 12 0 (.int x) = some (yH κ (yW m 178 0 x)) := yh_p rfl rfl rfl
theorem yi_178_1 : pFi (yH κ m) 178 12 1 = some (m.1 178 1) := yh_fi rfl rfl
theorem yp_178_1 {x : Int32} : pP (yH κ m) 178 12 1 (.int x) = some (yH κ (yW m 178 1 x)) := yh_p rfl rfl rfl
theorem yr_178_2 : pFr (yH κ m) 178 12 2 = some 179 := yh_fr rfl rfl
theorem yr_178_3 : pFr (yH κ m) 178 12 3 = some 180 := yh_fr rfl rfl
theorem yr_178_4 : pFr (yH κ m) 178 12 4 = some 181 := yh_fr rfl rfl
theorem yr_178_5 : pFr (yH κ m) 178 12 5 = some 182 := yh_fr rfl rfl
theorem yi_178_6 : pFi (yH κ m) 178 12 6 = some (m.1 178 6) := yh_fi rfl rfl
theorem yp_178_6 {x : Int32} : pP (yH κ m) 178 12 6 (.int x) = some (yH κ (yW m 178 6 x)) := yh_p rfl rfl rfl
theorem yi_178_7 : pFi (yH κ m) 178 12 7 = some (m.1 178 7) := yh_fi rfl rfl
theorem yp_178_7 {x : Int32} : pP (yH κ m) 178 12 7 (.int x) = some (yH κ (yW m 178 7 x)) := yh_p rfl rfl rfl
theorem yi_178_8 : pFi (yH κ m) 178 12 8 = some (m.1 178 8) := yh_fi rfl rfl
theorem yp_178_8 {x : Int32} : pP (yH κ m) 178 12 8 (.int x) = some (yH κ (yW m 178 8 x)) := yh_p rfl rfl rfl
theorem yr_178_9 : pFr (yH κ m) 178 12 9 = some 183 := yh_fr rfl rfl
theorem yi_178_10 : pFi (yH κ m) 178 12 10 = some (m.1 178 10) := yh_fi rfl rfl
theorem yp_178_10 {x : Int32} : pP (yH κ m) 178 12 10 (.int x) = some (yH κ (yW m 178 10 x)) := yh_p rfl rfl rfl
theorem yi_178_11 : pFi (yH κ m) 178 12 11 = some (m.1 178 11) := yh_fi rfl rfl
theorem yp_178_11 {x : Int32} : pP (yH κ m) 178 12 11 (.int x) = some (yH κ (yW m 178 11 x)) := yh_p rfl rfl rfl
theorem yi_178_12 : pFi (yH κ m) 178 12 12 = some (m.1 178 12) := yh_fi rfl rfl
theorem yp_178_12 {x : Int32} : pP (yH κ m) 178 12 12 (.int x) = some (yH κ (yW m 178 12 x)) := yh_p rfl rfl rfl
theorem yi_178_13 : pFi (yH κ m) 178 12 13 = some (m.1 178 13) := yh_fi rfl rfl
theorem yp_178_13 {x : Int32} : pP (yH κ m) 178 12 13 (.int x) = some (yH κ (yW m 178 13 x)) := yh_p rfl rfl rfl
theorem yr_178_14 : pFr (yH κ m) 178 12 14 = some 184 := yh_fr rfl rfl
theorem yr_178_15 : pFr (yH κ m) 178 12 15 = some 185 := yh_fr rfl rfl
theorem yr_178_16 : pFr (yH κ m) 178 12 16 = some 186 := yh_fr rfl rfl
theorem yi_178_17 : pFi (yH κ m) 178 12 17 = some (m.1 178 17) := yh_fi rfl rfl
theorem yp_178_17 {x : Int32} : pP (yH κ m) 178 12 17 (.int x) = some (yH κ (yW m 178 17 x)) := yh_p rfl rfl rfl
theorem yi_178_18 : pFi (yH κ m) 178 12 18 = some (m.1 178 18) := yh_fi rfl rfl
theorem yp_178_18 {x : Int32} : pP (yH κ m) 178 12 18 (.int x) = some (yH κ (yW m 178 18 x)) := yh_p rfl rfl rfl
theorem yr_178_19 : pFr (yH κ m) 178 12 19 = some 187 := yh_fr rfl rfl
theorem yr_178_20 : pFr (yH κ m) 178 12 20 = some 188 := yh_fr rfl rfl
theorem yr_178_21 : pFr (yH κ m) 178 12 21 = some 189 := yh_fr rfl rfl
theorem yr_178_22 : pFr (yH κ m) 178 12 22 = some 190 := yh_fr rfl rfl
theorem yi_178_23 : pFi (yH κ m) 178 12 23 = some (m.1 178 23) := yh_fi rfl rfl
theorem yp_178_23 {x : Int32} : pP (yH κ m) 178 12 23 (.int x) = some (yH κ (yW m 178 23 x)) := yh_p rfl rfl rfl
theorem yr_178_24 : pFr (yH κ m) 178 12 24 = some 191 := yh_fr rfl rfl
theorem yi_178_25 : pFi (yH κ m) 178 12 25 = some (m.1 178 25) := yh_fi rfl rfl
theorem yp_178_25 {x : Int32} : pP (yH κ m) 178 12 25 (.int x) = some (yH κ (yW m 178 25 x)) := yh_p rfl rfl rfl
theorem yi_178_26 : pFi (yH κ m) 178 12 26 = some (m.1 178 26) := yh_fi rfl rfl
theorem yp_178_26 {x : Int32} : pP (yH κ m) 178 12 26 (.int x) = some (yH κ (yW m 178 26 x)) := yh_p rfl rfl rfl
theorem yr_178_27 : pFr (yH κ m) 178 12 27 = some 192 := yh_fr rfl rfl
theorem yi_178_28 : pFi (yH κ m) 178 12 28 = some (m.1 178 28) := yh_fi rfl rfl
theorem yp_178_28 {x : Int32} : pP (yH κ m) 178 12 28 (.int x) = some (yH κ (yW m 178 28 x)) := yh_p rfl rfl rfl
theorem yr_178_29 : pFr (yH κ m) 178 12 29 = some 193 := yh_fr rfl rfl
theorem yr_178_30 : pFr (yH κ m) 178 12 30 = some 194 := yh_fr rfl rfl
theorem yi_178_31 : pFi (yH κ m) 178 12 31 = some (m.1 178 31) := yh_fi rfl rfl
theorem yp_178_31 {x : Int32} : pP (yH κ m) 178 12 31 (.int x) = some (yH κ (yW m 178 31 x)) := yh_p rfl rfl rfl
theorem yr_178_32 : pFr (yH κ m) 178 12 32 = some 195 := yh_fr rfl rfl
theorem yr_178_33 : pFr (yH κ m) 178 12 33 = some 196 := yh_fr rfl rfl
theorem yr_178_34 : pFr (yH κ m) 178 12 34 = some 197 := yh_fr rfl rfl
theorem yr_178_35 : pFr (yH κ m) 178 12 35 = some 198 := yh_fr rfl rfl
theorem yr_178_36 : pFr (yH κ m) 178 12 36 = some 199 := yh_fr rfl rfl
theorem yi_178_37 : pFi (yH κ m) 178 12 37 = some (m.1 178 37) := yh_fi rfl rfl
theorem yp_178_37 {x : Int32} : pP (yH κ m) 178 12 37 (.int x) = some (yH κ (yW m 178 37 x)) := yh_p rfl rfl rfl
theorem yi_178_38 : pFi (yH κ m) 178 12 38 = some (m.1 178 38) := yh_fi rfl rfl
theorem yp0_178_38 : pP (yH κ m) 178 12 38 (.int 0) = some (yH κ (yW m 178 38 0)) := yh_pb rfl rfl rfl (Or.inl rfl)
theorem yp1_178_38 : pP (yH κ m) 178 12 38 (.int 1) = some (yH κ (yW m 178 38 1)) := yh_pb rfl rfl rfl (Or.inr rfl)
theorem yr_178_39 : pFr (yH κ m) 178 12 39 = some 200 := yh_fr rfl rfl
theorem yr_178_40 : pFr (yH κ m) 178 12 40 = some 201 := yh_fr rfl rfl
theorem yr_178_41 : pFr (yH κ m) 178 12 41 = some 202 := yh_fr rfl rfl
theorem yr_178_42 : pFr (yH κ m) 178 12 42 = some 203 := yh_fr rfl rfl
theorem yr_178_43 : pFr (yH κ m) 178 12 43 = some 204 := yh_fr rfl rfl
theorem yi_178_44 : pFi (yH κ m) 178 12 44 = some (m.1 178 44) := yh_fi rfl rfl
theorem yp_178_44 {x : Int32} : pP (yH κ m) 178 12 44 (.int x) = some (yH κ (yW m 178 44 x)) := yh_p rfl rfl rfl
theorem yr_178_45 : pFr (yH κ m) 178 12 45 = some 205 := yh_fr rfl rfl
theorem yr_178_46 : pFr (yH κ m) 178 12 46 = some 206 := yh_fr rfl rfl
theorem yr_178_47 : pFr (yH κ m) 178 12 47 = some 207 := yh_fr rfl rfl
theorem yr_178_48 : pFr (yH κ m) 178 12 48 = some 208 := yh_fr rfl rfl
theorem yr_178_49 : pFr (yH κ m) 178 12 49 = some 209 := yh_fr rfl rfl
theorem yi_178_50 : pFi (yH κ m) 178 12 50 = some (m.1 178 50) := yh_fi rfl rfl
theorem yp_178_50 {x : Int32} : pP (yH κ m) 178 12 50 (.int x) = some (yH κ (yW m 178 50 x)) := yh_p rfl rfl rfl
theorem yr_178_51 : pFr (yH κ m) 178 12 51 = some 210 := yh_fr rfl rfl
theorem yr_178_52 : pFr (yH κ m) 178 12 52 = some 211 := yh_fr rfl rfl
theorem yis_5 : pIs (yH κ m) 5 7 = true := yh_is rfl
theorem yr_5_0 : pFr (yH κ m) 5 7 0 = some 6 := yh_fr rfl rfl
theorem yi_5_1 : pFi (yH κ m) 5 7 1 = some (m.1 5 1) := yh_fi rfl rfl
theorem yp_5_1 {x : Int32} : pP (yH κ m) 5 7 1 (.int x) = some (yH κ (yW m 5 1 x)) := yh_p rfl rfl rfl
theorem yi_5_2 : pFi (yH κ m) 5 7 2 = some (m.1 5 2) := yh_fi rfl rfl
theorem yp_5_2 {x : Int32} : pP (yH κ m) 5 7 2 (.int x) = some (yH κ (yW m 5 2 x)) := yh_p rfl rfl rfl
theorem yi_5_3 : pFi (yH κ m) 5 7 3 = some (m.1 5 3) := yh_fi rfl rfl
theorem yp_5_3 {x : Int32} : pP (yH κ m) 5 7 3 (.int x) = some (yH κ (yW m 5 3 x)) := yh_p rfl rfl rfl
theorem yi_5_4 : pFi (yH κ m) 5 7 4 = some (m.1 5 4) := yh_fi rfl rfl
theorem yp_5_4 {x : Int32} : pP (yH κ m) 5 7 4 (.int x) = some (yH κ (yW m 5 4 x)) := yh_p rfl rfl rfl
theorem yi_5_5 : pFi (yH κ m) 5 7 5 = some (m.1 5 5) := yh_fi rfl rfl
theorem yp_5_5 {x : Int32} : pP (yH κ m) 5 7 5 (.int x) = some (yH κ (yW m 5 5 x)) := yh_p rfl rfl rfl
theorem ya_2 {i : Nat} (hi : i < 80) : pAi (yH κ m) 2 (Int32.ofNat i) = some (m.1 2 i) := yh_ai rfl (by decide) hi
theorem yst_2 {i : Nat} {x : Int32} (hi : i < 80) : pSi (yH κ m) 2 (Int32.ofNat i) x = some (yH κ (yW m 2 i x)) := yh_si rfl (by decide) hi
theorem ya_4 {i : Nat} (hi : i < 16) : pAl (yH κ m) 4 (Int32.ofNat i) = some (m.2 4 i) := yh_al rfl (by decide) hi
theorem yst_4 {i : Nat} {x : Int64} (hi : i < 16) : pSl (yH κ m) 4 (Int32.ofNat i) x = some (yH κ (yWl m 4 i x)) := yh_sl rfl (by decide) hi
theorem ya_104 {i : Nat} (hi : i < 3) : pAb (yH κ m) 104 (Int32.ofNat i) = some (m.1 104 i) := yh_ab rfl (by decide) hi
theorem yst_104 {i : Nat} {x : Int32} (hi : i < 3) : pSb (yH κ m) 104 (Int32.ofNat i) x = some (yH κ (yW m 104 i (x &&& 1))) := yh_sb rfl (by decide) hi
theorem ya_106 {i : Nat} (hi : i < 2) : pAi (yH κ m) 106 (Int32.ofNat i) = some (m.1 106 i) := yh_ai rfl (by decide) hi
theorem yst_106 {i : Nat} {x : Int32} (hi : i < 2) : pSi (yH κ m) 106 (Int32.ofNat i) x = some (yH κ (yW m 106 i x)) := yh_si rfl (by decide) hi
theorem ya_107 {i : Nat} (hi : i < 16) : pAi (yH κ m) 107 (Int32.ofNat i) = some (m.1 107 i) := yh_ai rfl (by decide) hi
theorem yst_107 {i : Nat} {x : Int32} (hi : i < 16) : pSi (yH κ m) 107 (Int32.ofNat i) x = some (yH κ (yW m 107 i x)) := yh_si rfl (by decide) hi
theorem ya_108 {i : Nat} (hi : i < 16) : pAi (yH κ m) 108 (Int32.ofNat i) = some (m.1 108 i) := yh_ai rfl (by decide) hi
theorem yst_108 {i : Nat} {x : Int32} (hi : i < 16) : pSi (yH κ m) 108 (Int32.ofNat i) x = some (yH κ (yW m 108 i x)) := yh_si rfl (by decide) hi
theorem ya_109 {i : Nat} (hi : i < 16) : pAi (yH κ m) 109 (Int32.ofNat i) = some (m.1 109 i) := yh_ai rfl (by decide) hi
theorem yst_109 {i : Nat} {x : Int32} (hi : i < 16) : pSi (yH κ m) 109 (Int32.ofNat i) x = some (yH κ (yW m 109 i x)) := yh_si rfl (by decide) hi
theorem ya_111 {i : Nat} (hi : i < 40) : pAi (yH κ m) 111 (Int32.ofNat i) = some (m.1 111 i) := yh_ai rfl (by decide) hi
theorem yst_111 {i : Nat} {x : Int32} (hi : i < 40) : pSi (yH κ m) 111 (Int32.ofNat i) x = some (yH κ (yW m 111 i x)) := yh_si rfl (by decide) hi
theorem ya_112 {i : Nat} (hi : i < 40) : pAi (yH κ m) 112 (Int32.ofNat i) = some (m.1 112 i) := yh_ai rfl (by decide) hi
theorem yst_112 {i : Nat} {x : Int32} (hi : i < 40) : pSi (yH κ m) 112 (Int32.ofNat i) x = some (yH κ (yW m 112 i x)) := yh_si rfl (by decide) hi
theorem ya_113 {i : Nat} (hi : i < 40) : pAi (yH κ m) 113 (Int32.ofNat i) = some (m.1 113 i) := yh_ai rfl (by decide) hi
theorem yst_113 {i : Nat} {x : Int32} (hi : i < 40) : pSi (yH κ m) 113 (Int32.ofNat i) x = some (yH κ (yW m 113 i x)) := yh_si rfl (by decide) hi
theorem ya_114 {i : Nat} (hi : i < 40) : pAi (yH κ m) 114 (Int32.ofNat i) = some (m.1 114 i) := yh_ai rfl (by decide) hi
theorem yst_114 {i : Nat} {x : Int32} (hi : i < 40) : pSi (yH κ m) 114 (Int32.ofNat i) x = some (yH κ (yW m 114 i x)) := yh_si rfl (by decide) hi
theorem ya_115 {i : Nat} (hi : i < 5) : pAb (yH κ m) 115 (Int32.ofNat i) = some (m.1 115 i) := yh_ab rfl (by decide) hi
theorem yst_115 {i : Nat} {x : Int32} (hi : i < 5) : pSb (yH κ m) 115 (Int32.ofNat i) x = some (yH κ (yW m 115 i (x &&& 1))) := yh_sb rfl (by decide) hi
theorem ya_117 {i : Nat} (hi : i < 10) : pAi (yH κ m) 117 (Int32.ofNat i) = some (m.1 117 i) := yh_ai rfl (by decide) hi
theorem yst_117 {i : Nat} {x : Int32} (hi : i < 10) : pSi (yH κ m) 117 (Int32.ofNat i) x = some (yH κ (yW m 117 i x)) := yh_si rfl (by decide) hi
theorem ya_124 {i : Nat} (hi : i < 1200) : pAl (yH κ m) 124 (Int32.ofNat i) = some (m.2 124 i) := yh_al rfl (by decide) hi
theorem yst_124 {i : Nat} {x : Int64} (hi : i < 1200) : pSl (yH κ m) 124 (Int32.ofNat i) x = some (yH κ (yWl m 124 i x)) := yh_sl rfl (by decide) hi
theorem ya_125 {i : Nat} (hi : i < 3) : pAl (yH κ m) 125 (Int32.ofNat i) = some (m.2 125 i) := yh_al rfl (by decide) hi
theorem yst_125 {i : Nat} {x : Int64} (hi : i < 3) : pSl (yH κ m) 125 (Int32.ofNat i) x = some (yH κ (yWl m 125 i x)) := yh_sl rfl (by decide) hi
theorem ya_126 {i : Nat} (hi : i < 1024) : pAi (yH κ m) 126 (Int32.ofNat i) = some (m.1 126 i) := yh_ai rfl (by decide) hi
theorem yst_126 {i : Nat} {x : Int32} (hi : i < 1024) : pSi (yH κ m) 126 (Int32.ofNat i) x = some (yH κ (yW m 126 i x)) := yh_si rfl (by decide) hi
theorem ya_127 {i : Nat} (hi : i < 400) : pAi (yH κ m) 127 (Int32.ofNat i) = some (m.1 127 i) := yh_ai rfl (by decide) hi
theorem yst_127 {i : Nat} {x : Int32} (hi : i < 400) : pSi (yH κ m) 127 (Int32.ofNat i) x = some (yH κ (yW m 127 i x)) := yh_si rfl (by decide) hi
theorem ya_128 {i : Nat} (hi : i < 400) : pAi (yH κ m) 128 (Int32.ofNat i) = some (m.1 128 i) := yh_ai rfl (by decide) hi
theorem yst_128 {i : Nat} {x : Int32} (hi : i < 400) : pSi (yH κ m) 128 (Int32.ofNat i) x = some (yH κ (yW m 128 i x)) := yh_si rfl (by decide) hi
theorem ya_129 {i : Nat} (hi : i < 400) : pAi (yH κ m) 129 (Int32.ofNat i) = some (m.1 129 i) := yh_ai rfl (by decide) hi
theorem yst_129 {i : Nat} {x : Int32} (hi : i < 400) : pSi (yH κ m) 129 (Int32.ofNat i) x = some (yH κ (yW m 129 i x)) := yh_si rfl (by decide) hi
theorem ya_130 {i : Nat} (hi : i < 400) : pAi (yH κ m) 130 (Int32.ofNat i) = some (m.1 130 i) := yh_ai rfl (by decide) hi
theorem yst_130 {i : Nat} {x : Int32} (hi : i < 400) : pSi (yH κ m) 130 (Int32.ofNat i) x = some (yH κ (yW m 130 i x)) := yh_si rfl (by decide) hi
theorem ya_131 {i : Nat} (hi : i < 400) : pAi (yH κ m) 131 (Int32.ofNat i) = some (m.1 131 i) := yh_ai rfl (by decide) hi
theorem yst_131 {i : Nat} {x : Int32} (hi : i < 400) : pSi (yH κ m) 131 (Int32.ofNat i) x = some (yH κ (yW m 131 i x)) := yh_si rfl (by decide) hi
theorem ya_132 {i : Nat} (hi : i < 401) : pAi (yH κ m) 132 (Int32.ofNat i) = some (m.1 132 i) := yh_ai rfl (by decide) hi
theorem yst_132 {i : Nat} {x : Int32} (hi : i < 401) : pSi (yH κ m) 132 (Int32.ofNat i) x = some (yH κ (yW m 132 i x)) := yh_si rfl (by decide) hi
theorem ya_133 {i : Nat} (hi : i < 50400) : pAi (yH κ m) 133 (Int32.ofNat i) = some (m.1 133 i) := yh_ai rfl (by decide) hi
theorem yst_133 {i : Nat} {x : Int32} (hi : i < 50400) : pSi (yH κ m) 133 (Int32.ofNat i) x = some (yH κ (yW m 133 i x)) := yh_si rfl (by decide) hi
theorem ya_134 {i : Nat} (hi : i < 48) : pAi (yH κ m) 134 (Int32.ofNat i) = some (m.1 134 i) := yh_ai rfl (by decide) hi
theorem yst_134 {i : Nat} {x : Int32} (hi : i < 48) : pSi (yH κ m) 134 (Int32.ofNat i) x = some (yH κ (yW m 134 i x)) := yh_si rfl (by decide) hi
theorem ya_136 {i : Nat} (hi : i < 20) : pAi (yH κ m) 136 (Int32.ofNat i) = some (m.1 136 i) := yh_ai rfl (by decide) hi
theorem yst_136 {i : Nat} {x : Int32} (hi : i < 20) : pSi (yH κ m) 136 (Int32.ofNat i) x = some (yH κ (yW m 136 i x)) := yh_si rfl (by decide) hi
theorem ya_137 {i : Nat} (hi : i < 20) : pAb (yH κ m) 137 (Int32.ofNat i) = some (m.1 137 i) := yh_ab rfl (by decide) hi
theorem yst_137 {i : Nat} {x : Int32} (hi : i < 20) : pSb (yH κ m) 137 (Int32.ofNat i) x = some (yH κ (yW m 137 i (x &&& 1))) := yh_sb rfl (by decide) hi
theorem ya_138 {i : Nat} (hi : i < 48) : pAi (yH κ m) 138 (Int32.ofNat i) = some (m.1 138 i) := yh_ai rfl (by decide) hi
theorem yst_138 {i : Nat} {x : Int32} (hi : i < 48) : pSi (yH κ m) 138 (Int32.ofNat i) x = some (yH κ (yW m 138 i x)) := yh_si rfl (by decide) hi
theorem ya_139 {i : Nat} (hi : i < 48) : pAi (yH κ m) 139 (Int32.ofNat i) = some (m.1 139 i) := yh_ai rfl (by decide) hi
theorem yst_139 {i : Nat} {x : Int32} (hi : i < 48) : pSi (yH κ m) 139 (Int32.ofNat i) x = some (yH κ (yW m 139 i x)) := yh_si rfl (by decide) hi
theorem ya_140 {i : Nat} (hi : i < 3) : pAi (yH κ m) 140 (Int32.ofNat i) = some (m.1 140 i) := yh_ai rfl (by decide) hi
theorem yst_140 {i : Nat} {x : Int32} (hi : i < 3) : pSi (yH κ m) 140 (Int32.ofNat i) x = some (yH κ (yW m 140 i x)) := yh_si rfl (by decide) hi
theorem ya_141 {i : Nat} (hi : i < 3) : pAi (yH κ m) 141 (Int32.ofNat i) = some (m.1 141 i) := yh_ai rfl (by decide) hi
theorem yst_141 {i : Nat} {x : Int32} (hi : i < 3) : pSi (yH κ m) 141 (Int32.ofNat i) x = some (yH κ (yW m 141 i x)) := yh_si rfl (by decide) hi
theorem ya_142 {i : Nat} (hi : i < 3) : pAi (yH κ m) 142 (Int32.ofNat i) = some (m.1 142 i) := yh_ai rfl (by decide) hi
theorem yst_142 {i : Nat} {x : Int32} (hi : i < 3) : pSi (yH κ m) 142 (Int32.ofNat i) x = some (yH κ (yW m 142 i x)) := yh_si rfl (by decide) hi
theorem ya_143 {i : Nat} (hi : i < 3) : pAi (yH κ m) 143 (Int32.ofNat i) = some (m.1 143 i) := yh_ai rfl (by decide) hi
theorem yst_143 {i : Nat} {x : Int32} (hi : i < 3) : pSi (yH κ m) 143 (Int32.ofNat i) x = some (yH κ (yW m 143 i x)) := yh_si rfl (by decide) hi
theorem ya_144 {i : Nat} (hi : i < 3) : pAi (yH κ m) 144 (Int32.ofNat i) = some (m.1 144 i) := yh_ai rfl (by decide) hi
theorem yst_144 {i : Nat} {x : Int32} (hi : i < 3) : pSi (yH κ m) 144 (Int32.ofNat i) x = some (yH κ (yW m 144 i x)) := yh_si rfl (by decide) hi
theorem ya_145 {i : Nat} (hi : i < 3) : pAi (yH κ m) 145 (Int32.ofNat i) = some (m.1 145 i) := yh_ai rfl (by decide) hi
theorem yst_145 {i : Nat} {x : Int32} (hi : i < 3) : pSi (yH κ m) 145 (Int32.ofNat i) x = some (yH κ (yW m 145 i x)) := yh_si rfl (by decide) hi
theorem ya_147 {i : Nat} (hi : i < 70) : pAi (yH κ m) 147 (Int32.ofNat i) = some (m.1 147 i) := yh_ai rfl (by decide) hi
theorem yst_147 {i : Nat} {x : Int32} (hi : i < 70) : pSi (yH κ m) 147 (Int32.ofNat i) x = some (yH κ (yW m 147 i x)) := yh_si rfl (by decide) hi
theorem ya_158 {i : Nat} (hi : i < 4) : pAi (yH κ m) 158 (Int32.ofNat i) = some (m.1 158 i) := yh_ai rfl (by decide) hi
theorem yst_158 {i : Nat} {x : Int32} (hi : i < 4) : pSi (yH κ m) 158 (Int32.ofNat i) x = some (yH κ (yW m 158 i x)) := yh_si rfl (by decide) hi
theorem ya_159 {i : Nat} (hi : i < 4) : pAi (yH κ m) 159 (Int32.ofNat i) = some (m.1 159 i) := yh_ai rfl (by decide) hi
theorem yst_159 {i : Nat} {x : Int32} (hi : i < 4) : pSi (yH κ m) 159 (Int32.ofNat i) x = some (yH κ (yW m 159 i x)) := yh_si rfl (by decide) hi
theorem ya_179 {i : Nat} (hi : i < 24) : pAl (yH κ m) 179 (Int32.ofNat i) = some (m.2 179 i) := yh_al rfl (by decide) hi
theorem yst_179 {i : Nat} {x : Int64} (hi : i < 24) : pSl (yH κ m) 179 (Int32.ofNat i) x = some (yH κ (yWl m 179 i x)) := yh_sl rfl (by decide) hi
theorem ya_180 {i : Nat} (hi : i < 54) : pAi (yH κ m) 180 (Int32.ofNat i) = some (m.1 180 i) := yh_ai rfl (by decide) hi
theorem yst_180 {i : Nat} {x : Int32} (hi : i < 54) : pSi (yH κ m) 180 (Int32.ofNat i) x = some (yH κ (yW m 180 i x)) := yh_si rfl (by decide) hi
theorem ya_181 {i : Nat} (hi : i < 54) : pAi (yH κ m) 181 (Int32.ofNat i) = some (m.1 181 i) := yh_ai rfl (by decide) hi
theorem yst_181 {i : Nat} {x : Int32} (hi : i < 54) : pSi (yH κ m) 181 (Int32.ofNat i) x = some (yH κ (yW m 181 i x)) := yh_si rfl (by decide) hi
theorem ya_182 {i : Nat} (hi : i < 4) : pAi (yH κ m) 182 (Int32.ofNat i) = some (m.1 182 i) := yh_ai rfl (by decide) hi
theorem yst_182 {i : Nat} {x : Int32} (hi : i < 4) : pSi (yH κ m) 182 (Int32.ofNat i) x = some (yH κ (yW m 182 i x)) := yh_si rfl (by decide) hi
theorem ya_183 {i : Nat} (hi : i < 80) : pAi (yH κ m) 183 (Int32.ofNat i) = some (m.1 183 i) := yh_ai rfl (by decide) hi
theorem yst_183 {i : Nat} {x : Int32} (hi : i < 80) : pSi (yH κ m) 183 (Int32.ofNat i) x = some (yH κ (yW m 183 i x)) := yh_si rfl (by decide) hi
theorem ya_184 {i : Nat} (hi : i < 48) : pAi (yH κ m) 184 (Int32.ofNat i) = some (m.1 184 i) := yh_ai rfl (by decide) hi
theorem yst_184 {i : Nat} {x : Int32} (hi : i < 48) : pSi (yH κ m) 184 (Int32.ofNat i) x = some (yH κ (yW m 184 i x)) := yh_si rfl (by decide) hi
theorem ya_185 {i : Nat} (hi : i < 80) : pAi (yH κ m) 185 (Int32.ofNat i) = some (m.1 185 i) := yh_ai rfl (by decide) hi
theorem yst_185 {i : Nat} {x : Int32} (hi : i < 80) : pSi (yH κ m) 185 (Int32.ofNat i) x = some (yH κ (yW m 185 i x)) := yh_si rfl (by decide) hi
theorem ya_186 {i : Nat} (hi : i < 80) : pAi (yH κ m) 186 (Int32.ofNat i) = some (m.1 186 i) := yh_ai rfl (by decide) hi
theorem yst_186 {i : Nat} {x : Int32} (hi : i < 80) : pSi (yH κ m) 186 (Int32.ofNat i) x = some (yH κ (yW m 186 i x)) := yh_si rfl (by decide) hi
theorem ya_187 {i : Nat} (hi : i < 80) : pAi (yH κ m) 187 (Int32.ofNat i) = some (m.1 187 i) := yh_ai rfl (by decide) hi
theorem yst_187 {i : Nat} {x : Int32} (hi : i < 80) : pSi (yH κ m) 187 (Int32.ofNat i) x = some (yH κ (yW m 187 i x)) := yh_si rfl (by decide) hi
theorem ya_188 {i : Nat} (hi : i < 16) : pAi (yH κ m) 188 (Int32.ofNat i) = some (m.1 188 i) := yh_ai rfl (by decide) hi
theorem yst_188 {i : Nat} {x : Int32} (hi : i < 16) : pSi (yH κ m) 188 (Int32.ofNat i) x = some (yH κ (yW m 188 i x)) := yh_si rfl (by decide) hi
theorem ya_189 {i : Nat} (hi : i < 16) : pAi (yH κ m) 189 (Int32.ofNat i) = some (m.1 189 i) := yh_ai rfl (by decide) hi
theorem yst_189 {i : Nat} {x : Int32} (hi : i < 16) : pSi (yH κ m) 189 (Int32.ofNat i) x = some (yH κ (yW m 189 i x)) := yh_si rfl (by decide) hi
theorem ya_190 {i : Nat} (hi : i < 16) : pAi (yH κ m) 190 (Int32.ofNat i) = some (m.1 190 i) := yh_ai rfl (by decide) hi
theorem yst_190 {i : Nat} {x : Int32} (hi : i < 16) : pSi (yH κ m) 190 (Int32.ofNat i) x = some (yH κ (yW m 190 i x)) := yh_si rfl (by decide) hi
theorem ya_191 {i : Nat} (hi : i < 54) : pAi (yH κ m) 191 (Int32.ofNat i) = some (m.1 191 i) := yh_ai rfl (by decide) hi
theorem yst_191 {i : Nat} {x : Int32} (hi : i < 54) : pSi (yH κ m) 191 (Int32.ofNat i) x = some (yH κ (yW m 191 i x)) := yh_si rfl (by decide) hi
theorem ya_192 {i : Nat} (hi : i < 54) : pAi (yH κ m) 192 (Int32.ofNat i) = some (m.1 192 i) := yh_ai rfl (by decide) hi
theorem yst_192 {i : Nat} {x : Int32} (hi : i < 54) : pSi (yH κ m) 192 (Int32.ofNat i) x = some (yH κ (yW m 192 i x)) := yh_si rfl (by decide) hi
theorem ya_193 {i : Nat} (hi : i < 864) : pAi (yH κ m) 193 (Int32.ofNat i) = some (m.1 193 i) := yh_ai rfl (by decide) hi
theorem yst_193 {i : Nat} {x : Int32} (hi : i < 864) : pSi (yH κ m) 193 (Int32.ofNat i) x = some (yH κ (yW m 193 i x)) := yh_si rfl (by decide) hi
theorem ya_194 {i : Nat} (hi : i < 70) : pAi (yH κ m) 194 (Int32.ofNat i) = some (m.1 194 i) := yh_ai rfl (by decide) hi
theorem yst_194 {i : Nat} {x : Int32} (hi : i < 70) : pSi (yH κ m) 194 (Int32.ofNat i) x = some (yH κ (yW m 194 i x)) := yh_si rfl (by decide) hi
theorem ya_195 {i : Nat} (hi : i < 21600) : pAi (yH κ m) 195 (Int32.ofNat i) = some (m.1 195 i) := yh_ai rfl (by decide) hi
theorem yst_195 {i : Nat} {x : Int32} (hi : i < 21600) : pSi (yH κ m) 195 (Int32.ofNat i) x = some (yH κ (yW m 195 i x)) := yh_si rfl (by decide) hi
theorem ya_196 {i : Nat} (hi : i < 400) : pAi (yH κ m) 196 (Int32.ofNat i) = some (m.1 196 i) := yh_ai rfl (by decide) hi
theorem yst_196 {i : Nat} {x : Int32} (hi : i < 400) : pSi (yH κ m) 196 (Int32.ofNat i) x = some (yH κ (yW m 196 i x)) := yh_si rfl (by decide) hi
theorem ya_197 {i : Nat} (hi : i < 400) : pAi (yH κ m) 197 (Int32.ofNat i) = some (m.1 197 i) := yh_ai rfl (by decide) hi
theorem yst_197 {i : Nat} {x : Int32} (hi : i < 400) : pSi (yH κ m) 197 (Int32.ofNat i) x = some (yH κ (yW m 197 i x)) := yh_si rfl (by decide) hi
theorem ya_198 {i : Nat} (hi : i < 400) : pAi (yH κ m) 198 (Int32.ofNat i) = some (m.1 198 i) := yh_ai rfl (by decide) hi
theorem yst_198 {i : Nat} {x : Int32} (hi : i < 400) : pSi (yH κ m) 198 (Int32.ofNat i) x = some (yH κ (yW m 198 i x)) := yh_si rfl (by decide) hi
theorem ya_199 {i : Nat} (hi : i < 2048) : pAi (yH κ m) 199 (Int32.ofNat i) = some (m.1 199 i) := yh_ai rfl (by decide) hi
theorem yst_199 {i : Nat} {x : Int32} (hi : i < 2048) : pSi (yH κ m) 199 (Int32.ofNat i) x = some (yH κ (yW m 199 i x)) := yh_si rfl (by decide) hi
theorem ya_200 {i : Nat} (hi : i < 54) : pAi (yH κ m) 200 (Int32.ofNat i) = some (m.1 200 i) := yh_ai rfl (by decide) hi
theorem yst_200 {i : Nat} {x : Int32} (hi : i < 54) : pSi (yH κ m) 200 (Int32.ofNat i) x = some (yH κ (yW m 200 i x)) := yh_si rfl (by decide) hi
theorem ya_201 {i : Nat} (hi : i < 400) : pAi (yH κ m) 201 (Int32.ofNat i) = some (m.1 201 i) := yh_ai rfl (by decide) hi
theorem yst_201 {i : Nat} {x : Int32} (hi : i < 400) : pSi (yH κ m) 201 (Int32.ofNat i) x = some (yH κ (yW m 201 i x)) := yh_si rfl (by decide) hi
theorem ya_202 {i : Nat} (hi : i < 400) : pAi (yH κ m) 202 (Int32.ofNat i) = some (m.1 202 i) := yh_ai rfl (by decide) hi
theorem yst_202 {i : Nat} {x : Int32} (hi : i < 400) : pSi (yH κ m) 202 (Int32.ofNat i) x = some (yH κ (yW m 202 i x)) := yh_si rfl (by decide) hi
theorem ya_203 {i : Nat} (hi : i < 400) : pAi (yH κ m) 203 (Int32.ofNat i) = some (m.1 203 i) := yh_ai rfl (by decide) hi
theorem yst_203 {i : Nat} {x : Int32} (hi : i < 400) : pSi (yH κ m) 203 (Int32.ofNat i) x = some (yH κ (yW m 203 i x)) := yh_si rfl (by decide) hi
theorem ya_204 {i : Nat} (hi : i < 4) : pAi (yH κ m) 204 (Int32.ofNat i) = some (m.1 204 i) := yh_ai rfl (by decide) hi
theorem yst_204 {i : Nat} {x : Int32} (hi : i < 4) : pSi (yH κ m) 204 (Int32.ofNat i) x = some (yH κ (yW m 204 i x)) := yh_si rfl (by decide) hi
theorem ya_205 {i : Nat} (hi : i < 20) : pAi (yH κ m) 205 (Int32.ofNat i) = some (m.1 205 i) := yh_ai rfl (by decide) hi
theorem yst_205 {i : Nat} {x : Int32} (hi : i < 20) : pSi (yH κ m) 205 (Int32.ofNat i) x = some (yH κ (yW m 205 i x)) := yh_si rfl (by decide) hi
theorem ya_206 {i : Nat} (hi : i < 20) : pAi (yH κ m) 206 (Int32.ofNat i) = some (m.1 206 i) := yh_ai rfl (by decide) hi
theorem yst_206 {i : Nat} {x : Int32} (hi : i < 20) : pSi (yH κ m) 206 (Int32.ofNat i) x = some (yH κ (yW m 206 i x)) := yh_si rfl (by decide) hi
theorem ya_207 {i : Nat} (hi : i < 48) : pAi (yH κ m) 207 (Int32.ofNat i) = some (m.1 207 i) := yh_ai rfl (by decide) hi
theorem yst_207 {i : Nat} {x : Int32} (hi : i < 48) : pSi (yH κ m) 207 (Int32.ofNat i) x = some (yH κ (yW m 207 i x)) := yh_si rfl (by decide) hi
theorem ya_208 {i : Nat} (hi : i < 48) : pAi (yH κ m) 208 (Int32.ofNat i) = some (m.1 208 i) := yh_ai rfl (by decide) hi
theorem yst_208 {i : Nat} {x : Int32} (hi : i < 48) : pSi (yH κ m) 208 (Int32.ofNat i) x = some (yH κ (yW m 208 i x)) := yh_si rfl (by decide) hi
theorem ya_209 {i : Nat} (hi : i < 1000) : pAi (yH κ m) 209 (Int32.ofNat i) = some (m.1 209 i) := yh_ai rfl (by decide) hi
theorem yst_209 {i : Nat} {x : Int32} (hi : i < 1000) : pSi (yH κ m) 209 (Int32.ofNat i) x = some (yH κ (yW m 209 i x)) := yh_si rfl (by decide) hi
theorem ya_210 {i : Nat} (hi : i < 3) : pAb (yH κ m) 210 (Int32.ofNat i) = some (m.1 210 i) := yh_ab rfl (by decide) hi
theorem yst_210 {i : Nat} {x : Int32} (hi : i < 3) : pSb (yH κ m) 210 (Int32.ofNat i) x = some (yH κ (yW m 210 i (x &&& 1))) := yh_sb rfl (by decide) hi
theorem ya_211 {i : Nat} (hi : i < 162) : pAi (yH κ m) 211 (Int32.ofNat i) = some (m.1 211 i) := yh_ai rfl (by decide) hi
theorem yst_211 {i : Nat} {x : Int32} (hi : i < 162) : pSi (yH κ m) 211 (Int32.ofNat i) x = some (yH κ (yW m 211 i x)) := yh_si rfl (by decide) hi
theorem ya_212 {i : Nat} (hi : i < 1) : pAl (yH κ m) 212 (Int32.ofNat i) = some (m.2 212 i) := yh_al rfl (by decide) hi
theorem yst_212 {i : Nat} {x : Int64} (hi : i < 1) : pSl (yH κ m) 212 (Int32.ofNat i) x = some (yH κ (yWl m 212 i x)) := yh_sl rfl (by decide) hi
end YG
/-- a tower lies at a; a state lies at a -/
def yTw (a : Nat) : Prop := ySh[a]? = some (.inr (.inr (10, [some (a + 1), some (a + 2), some (a + 3), some (a + 4), none]))) ∧ ySh[a + 1]? = some (.inl (0, 48)) ∧ ySh[a + 2]? = some (.inl (0, 16)) ∧ ySh[a + 3]? = some (.inl (0, 16)) ∧ ySh[a + 4]? = some (.inl (0, 16))
def ySt (a : Nat) : Prop := ySh[a]? = some (.inr (.inr (7, [some (a + 1), none, none, none, none, none]))) ∧ yTw (a + 1)
section YT
variable {κ : yK} {m : yM} {a : Nat}
theorem yt_is (h : yTw a) : pIs (yH κ m) a 10 = true := yh_is h.1
theorem yt_0 (h : yTw a) : pFr (yH κ m) a 10 0 = some (a + 1) := yh_fr h.1 rfl
theorem yt_1 (h : yTw a) : pFr (yH κ m) a 10 1 = some (a + 2) := yh_fr h.1 rfl
theorem yt_2 (h : yTw a) : pFr (yH κ m) a 10 2 = some (a + 3) := yh_fr h.1 rfl
theorem yt_3 (h : yTw a) : pFr (yH κ m) a 10 3 = some (a + 4) := yh_fr h.1 rfl
theorem yt_4 (h : yTw a) : pFi (yH κ m) a 10 4 = some (m.1 a 4) := yh_fi h.1 rfl
theorem yt_p {x : Int32} (h : yTw a) : pP (yH κ m) a 10 4 (.int x) = some (yH κ (yW m a 4 x)) := yh_p h.1 rfl rfl
theorem yt_a1 {i : Nat} (h : yTw a) (hi : i < 48) : pAi (yH κ m) (a + 1) (Int32.ofNat i) = some (m.1 (a + 1) i) := yh_ai h.2.1 (by decide) hi
theorem yt_a2 {i : Nat} (h : yTw a) (hi : i < 16) : pAi (yH κ m) (a + 2) (Int32.ofNat i) = some (m.1 (a + 2) i) := yh_ai h.2.2.1 (by decide) hi
theorem yt_a3 {i : Nat} (h : yTw a) (hi : i < 16) : pAi (yH κ m) (a + 3) (Int32.ofNat i) = some (m.1 (a + 3) i) := yh_ai h.2.2.2.1 (by decide) hi
theorem yt_a4 {i : Nat} (h : yTw a) (hi : i < 16) : pAi (yH κ m) (a + 4) (Int32.ofNat i) = some (m.1 (a + 4) i) := yh_ai h.2.2.2.2 (by decide) hi
theorem yt_s1 {i : Nat} {x : Int32} (h : yTw a) (hi : i < 48) : pSi (yH κ m) (a + 1) (Int32.ofNat i) x = some (yH κ (yW m (a + 1) i x)) := yh_si h.2.1 (by decide) hi
theorem yt_s2 {i : Nat} {x : Int32} (h : yTw a) (hi : i < 16) : pSi (yH κ m) (a + 2) (Int32.ofNat i) x = some (yH κ (yW m (a + 2) i x)) := yh_si h.2.2.1 (by decide) hi
theorem yt_s3 {i : Nat} {x : Int32} (h : yTw a) (hi : i < 16) : pSi (yH κ m) (a + 3) (Int32.ofNat i) x = some (yH κ (yW m (a + 3) i x)) := yh_si h.2.2.2.1 (by decide) hi
theorem yt_s4 {i : Nat} {x : Int32} (h : yTw a) (hi : i < 16) : pSi (yH κ m) (a + 4) (Int32.ofNat i) x = some (yH κ (yW m (a + 4) i x)) := yh_si h.2.2.2.2 (by decide) hi
theorem ys_is (h : ySt a) : pIs (yH κ m) a 7 = true := yh_is h.1
theorem ys_0 (h : ySt a) : pFr (yH κ m) a 7 0 = some (a + 1) := yh_fr h.1 rfl
theorem ys_i1 (h : ySt a) : pFi (yH κ m) a 7 1 = some (m.1 a 1) := yh_fi h.1 rfl
theorem ys_i2 (h : ySt a) : pFi (yH κ m) a 7 2 = some (m.1 a 2) := yh_fi h.1 rfl
theorem ys_i3 (h : ySt a) : pFi (yH κ m) a 7 3 = some (m.1 a 3) := yh_fi h.1 rfl
theorem ys_i4 (h : ySt a) : pFi (yH κ m) a 7 4 = some (m.1 a 4) := yh_fi h.1 rfl
theorem ys_i5 (h : ySt a) : pFi (yH κ m) a 7 5 = some (m.1 a 5) := yh_fi h.1 rfl
theorem ys_p1 {x : Int32} (h : ySt a) : pP (yH κ m) a 7 1 (.int x) = some (yH κ (yW m a 1 x)) := yh_p h.1 rfl rfl
theorem ys_p2 {x : Int32} (h : ySt a) : pP (yH κ m) a 7 2 (.int x) = some (yH κ (yW m a 2 x)) := yh_p h.1 rfl rfl
theorem ys_p3 {x : Int32} (h : ySt a) : pP (yH κ m) a 7 3 (.int x) = some (yH κ (yW m a 3 x)) := yh_p h.1 rfl rfl
theorem ys_p4 {x : Int32} (h : ySt a) : pP (yH κ m) a 7 4 (.int x) = some (yH κ (yW m a 4 x)) := yh_p h.1 rfl rfl
theorem ys_p5 {x : Int32} (h : ySt a) : pP (yH κ m) a 7 5 (.int x) = some (yH κ (yW m a 5 x)) := yh_p h.1 rfl rfl
end YT
theorem ysw_5 : ySt 5 := ⟨rfl, ⟨rfl, rfl, rfl, rfl, rfl⟩⟩
theorem ytw_6 : yTw 6 := ⟨rfl, rfl, rfl, rfl, rfl⟩
theorem ysw_13 : ySt 13 := ⟨rfl, ⟨rfl, rfl, rfl, rfl, rfl⟩⟩
theorem ytw_14 : yTw 14 := ⟨rfl, rfl, rfl, rfl, rfl⟩
theorem ysw_19 : ySt 19 := ⟨rfl, ⟨rfl, rfl, rfl, rfl, rfl⟩⟩
theorem ytw_20 : yTw 20 := ⟨rfl, rfl, rfl, rfl, rfl⟩
theorem ysw_25 : ySt 25 := ⟨rfl, ⟨rfl, rfl, rfl, rfl, rfl⟩⟩
theorem ytw_26 : yTw 26 := ⟨rfl, rfl, rfl, rfl, rfl⟩
theorem ysw_31 : ySt 31 := ⟨rfl, ⟨rfl, rfl, rfl, rfl, rfl⟩⟩
theorem ytw_32 : yTw 32 := ⟨rfl, rfl, rfl, rfl, rfl⟩
theorem ysw_37 : ySt 37 := ⟨rfl, ⟨rfl, rfl, rfl, rfl, rfl⟩⟩
theorem ytw_38 : yTw 38 := ⟨rfl, rfl, rfl, rfl, rfl⟩
theorem ysw_43 : ySt 43 := ⟨rfl, ⟨rfl, rfl, rfl, rfl, rfl⟩⟩
theorem ytw_44 : yTw 44 := ⟨rfl, rfl, rfl, rfl, rfl⟩
theorem ysw_49 : ySt 49 := ⟨rfl, ⟨rfl, rfl, rfl, rfl, rfl⟩⟩
theorem ytw_50 : yTw 50 := ⟨rfl, rfl, rfl, rfl, rfl⟩
theorem ysw_55 : ySt 55 := ⟨rfl, ⟨rfl, rfl, rfl, rfl, rfl⟩⟩
theorem ytw_56 : yTw 56 := ⟨rfl, rfl, rfl, rfl, rfl⟩
theorem ysw_61 : ySt 61 := ⟨rfl, ⟨rfl, rfl, rfl, rfl, rfl⟩⟩
theorem ytw_62 : yTw 62 := ⟨rfl, rfl, rfl, rfl, rfl⟩
theorem ysw_67 : ySt 67 := ⟨rfl, ⟨rfl, rfl, rfl, rfl, rfl⟩⟩
theorem ytw_68 : yTw 68 := ⟨rfl, rfl, rfl, rfl, rfl⟩
theorem ysw_73 : ySt 73 := ⟨rfl, ⟨rfl, rfl, rfl, rfl, rfl⟩⟩
theorem ytw_74 : yTw 74 := ⟨rfl, rfl, rfl, rfl, rfl⟩
theorem ysw_79 : ySt 79 := ⟨rfl, ⟨rfl, rfl, rfl, rfl, rfl⟩⟩
theorem ytw_80 : yTw 80 := ⟨rfl, rfl, rfl, rfl, rfl⟩
theorem ysw_85 : ySt 85 := ⟨rfl, ⟨rfl, rfl, rfl, rfl, rfl⟩⟩
theorem ytw_86 : yTw 86 := ⟨rfl, rfl, rfl, rfl, rfl⟩
theorem ysw_91 : ySt 91 := ⟨rfl, ⟨rfl, rfl, rfl, rfl, rfl⟩⟩
theorem ytw_92 : yTw 92 := ⟨rfl, rfl, rfl, rfl, rfl⟩
theorem ysw_97 : ySt 97 := ⟨rfl, ⟨rfl, rfl, rfl, rfl, rfl⟩⟩
theorem ytw_98 : yTw 98 := ⟨rfl, rfl, rfl, rfl, rfl⟩
theorem ytw_119 : yTw 119 := ⟨rfl, rfl, rfl, rfl, rfl⟩
theorem ytw_148 : yTw 148 := ⟨rfl, rfl, rfl, rfl, rfl⟩
theorem ytw_153 : yTw 153 := ⟨rfl, rfl, rfl, rfl, rfl⟩
theorem ysw_160 : ySt 160 := ⟨rfl, ⟨rfl, rfl, rfl, rfl, rfl⟩⟩
theorem ytw_161 : yTw 161 := ⟨rfl, rfl, rfl, rfl, rfl⟩
theorem ysw_166 : ySt 166 := ⟨rfl, ⟨rfl, rfl, rfl, rfl, rfl⟩⟩
theorem ytw_167 : yTw 167 := ⟨rfl, rfl, rfl, rfl, rfl⟩
theorem ysw_172 : ySt 172 := ⟨rfl, ⟨rfl, rfl, rfl, rfl, rfl⟩⟩
theorem ytw_173 : yTw 173 := ⟨rfl, rfl, rfl, rfl, rfl⟩
