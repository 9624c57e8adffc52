/-! ===== which rows of thicknesses a layer can have: fits(), span(), sure(), touch() ===== -/
/-- thickness of a block of a layer: from, to (a gap is 0, thickness t is t + 1) -/
def qL (th : Nat → Int32) (F : zF) (b : Nat) : Nat := if tHas th b then F.2.2.2.1 b + 1 else 0
def qH (th : Nat → Int32) (F : zF) (b : Nat) : Nat := if tHas th b then F.2.2.2.2 b + 1 else 0
def qBt (x y z : Nat) : Nat := (tBr (tEn x) (tEn y) (tEn z)).toNatClampNeg
theorem tEn_lt : ∀ a b : Fin 12, (tEn a.val < tEn b.val) ↔ a.val < b.val := by decide +kernel
theorem tEn_ad : ∀ a : Fin 12, tEn a.val + 1 = tEn (a.val + 1) := by decide +kernel
theorem tEn_mx : ∀ a : Fin 12, pMax 0 (tEn a.val) = yN (a.val - 1) := by decide +kernel
theorem tEn_m1 : ∀ a : Fin 12, (tEn a.val = -1) ↔ a.val = 0 := by decide +kernel
theorem tEn_ng : ∀ a : Fin 12, (tEn a.val < 0) ↔ a.val = 0 := by decide +kernel
theorem tEn_su : ∀ a : Fin 12, tEn (a.val + 1) = yN a.val := by decide +kernel
theorem qBt_ok {x y z : Nat} (hx : x ≤ 10) (hy : y ≤ 10) (hz : z ≤ 10) (h : 0 < x + y + z) : qBt x y z < 8 ∧ tBr (tEn x) (tEn y) (tEn z) = yN (qBt x y z) ∧ rBr (tEn x) (tEn y) (tEn z) = yN (qBt x y z) := by
  have h1 := tBr_all ⟨x, by omega⟩ ⟨y, by omega⟩ ⟨z, by omega⟩
  have h2 := rBr_all ⟨x, by omega⟩ ⟨y, by omega⟩ ⟨z, by omega⟩
  have n : ¬ ((⟨x, by omega⟩ : Fin 11) = 0 ∧ (⟨y, by omega⟩ : Fin 11) = 0 ∧ (⟨z, by omega⟩ : Fin 11) = 0) := by
    rintro ⟨a, b, c⟩
    have a' : x = 0 := congrArg Fin.val a
    have b' : y = 0 := congrArg Fin.val b
    have c' : z = 0 := congrArg Fin.val c
    omega
  rcases h1 with h1 | h1
  · exact absurd h1 n
  · rcases h2 with h2 | h2
    · exact absurd h2 n
    · exact ⟨h1.1, h1.2.2, h2.trans h1.2.2⟩
theorem q8a : ∀ b a : Fin 8, ((yN b.val &&& yN a.val = yN a.val) ↔ (b.val &&& a.val = a.val)) ∧ ((yN b.val &&& yN a.val = 0) ↔ (b.val &&& a.val = 0)) := by decide +kernel
theorem q8b : ∀ b a : Fin 8, ∀ r : Fin 3, (a.val ||| 1 <<< r.val) < 8 ∧ yN a.val ||| ((1 : Int32) <<< (yN r.val &&& 31)) = yN (a.val ||| 1 <<< r.val) ∧ ((b.val &&& (a.val ||| 1 <<< r.val) = (a.val ||| 1 <<< r.val)) ↔ (b.val &&& a.val = a.val ∧ b.val.testBit r.val = true)) ∧ ((b.val &&& (a.val ||| 1 <<< r.val) = 0) ↔ (b.val &&& a.val = 0 ∧ b.val.testBit r.val = false)) ∧ ((yN b.val >>> (yN r.val &&& 31)) &&& 1) = yB (b.val.testBit r.val) := by decide +kernel
section QM
variable (th : Nat → Int32) (F : zF) (l : Nat)
/-- the touch tells of a block of the layer -/
def qCd (j : Nat) : Bool := decide (F.2.1 j / 3 = l) && tHas th (F.2.1 j)
def qMk (t : Bool) : Nat → Nat
  | 0 => 0
  | k + 1 => if (qCd th F l k && (F.2.2.1 k == t)) = true then qMk t k ||| 1 <<< (F.2.1 k % 3) else qMk t k
def qFo (b : Nat) : Nat → Bool
  | 0 => true
  | k + 1 => qFo b k && (!qCd th F l k || (b.testBit (F.2.1 k % 3) == F.2.2.1 k))
theorem qMk_lt (t : Bool) : ∀ k, qMk th F l t k < 8
  | 0 => by rw [qMk]; omega
  | k + 1 => by
    rw [qMk]
    have ih := qMk_lt t k
    split
    · exact (q8b 0 ⟨_, ih⟩ ⟨F.2.1 k % 3, Nat.mod_lt _ (by omega)⟩).1
    · exact ih
theorem qFo_iff {b : Nat} (hb : b < 8) : ∀ k, (b &&& qMk th F l true k = qMk th F l true k ∧ b &&& qMk th F l false k = 0) ↔ qFo th F l b k = true
  | 0 => by rw [qMk, qMk, qFo]; simp
  | k + 1 => by
    have ih := qFo_iff hb k
    have q1 := q8b ⟨b, hb⟩ ⟨_, qMk_lt th F l true k⟩ ⟨F.2.1 k % 3, Nat.mod_lt _ (by omega)⟩
    have q0 := q8b ⟨b, hb⟩ ⟨_, qMk_lt th F l false k⟩ ⟨F.2.1 k % 3, Nat.mod_lt _ (by omega)⟩
    have a1 := q1.2.2.1
    have a0 := q0.2.2.2.1
    dsimp only at a1 a0
    rw [qMk, qMk, qFo, Bool.and_eq_true (qFo th F l b k), ← ih]
    cases hc : qCd th F l k with
    | false => simp
    | true =>
      cases ht : F.2.2.1 k with
      | true =>
        simp only [Bool.true_and, Bool.not_true, Bool.false_or]
        rw [if_pos (show (true == true) = true from rfl), if_neg (show ¬ (true == false) = true by decide), a1]
        simp only [beq_iff_eq]
        constructor
        · rintro ⟨⟨p, q⟩, r⟩; exact ⟨⟨p, r⟩, q⟩
        · rintro ⟨⟨p, r⟩, q⟩; exact ⟨⟨p, q⟩, r⟩
      | false =>
        simp only [Bool.true_and, Bool.not_true, Bool.false_or]
        rw [if_neg (show ¬ (false == true) = true by decide), if_pos (show (false == false) = true from rfl), a0]
        simp only [beq_iff_eq]
        constructor
        · rintro ⟨p, q, r⟩; exact ⟨⟨p, q⟩, r⟩
        · rintro ⟨⟨p, q⟩, r⟩; exact ⟨p, q, r⟩
theorem qFo_mono {b : Nat} {j : Nat} (h : qFo th F l b j = false) : ∀ k, j ≤ k → qFo th F l b k = false
  | 0, hk => by obtain rfl : j = 0 := by omega
                exact h
  | k + 1, hk => by
    by_cases q : j = k + 1
    · subst q; exact h
    · rw [qFo, qFo_mono h k (by omega)]; rfl
end QM
/-- rows of thicknesses, in their order -/
abbrev qT : Type := Nat × Nat × Nat
def qI (t : qT) (i : Nat) : Nat := if i = 0 then t.1 else if i = 1 then t.2.1 else t.2.2
def qB (t : qT) : Nat := qBt t.1 t.2.1 t.2.2
section QQ
variable (P : Nat → Bool) (Z0 Zd Y0 Yd : Nat)
def q3 (x y : Nat) : Nat → Nat → List qT
  | 0, _ => []
  | d + 1, z => (if P (qBt x y z) = true then [(x, y, z)] else []) ++ q3 x y d (z + 1)
def q2 (x : Nat) : Nat → Nat → List qT
  | 0, _ => []
  | d + 1, y => q3 P x y Zd Z0 ++ q2 x d (y + 1)
def q1 : Nat → Nat → List qT
  | 0, _ => []
  | d + 1, x => q2 P Z0 Zd x Yd Y0 ++ q1 d (x + 1)
theorem q3_len (x y : Nat) : ∀ d z, (q3 P x y d z).length ≤ d
  | 0, _ => by rw [q3]; exact Nat.le_refl 0
  | d + 1, z => by
    have := q3_len x y d (z + 1)
    rw [q3, List.length_append]
    split <;> simp <;> omega
theorem q2_len (x : Nat) : ∀ d y, (q2 P Z0 Zd x d y).length ≤ Zd * d
  | 0, _ => by rw [q2]; exact Nat.zero_le _
  | d + 1, y => by
    have h1 := q2_len x d (y + 1)
    have h2 := q3_len P x y Zd Z0
    rw [q2, List.length_append, Nat.mul_succ]; omega
theorem q3_mem {x y : Nat} {t : qT} : ∀ {d z}, t ∈ q3 P x y d z → t.1 = x ∧ t.2.1 = y ∧ z ≤ t.2.2 ∧ t.2.2 < z + d
  | 0, _, h => by rw [q3] at h; exact absurd h (by simp)
  | d + 1, z, h => by
    rw [q3, List.mem_append] at h
    rcases h with h | h
    · split at h
      · rw [List.mem_singleton] at h
        subst h; exact ⟨rfl, rfl, Nat.le_refl _, by show z < z + (d + 1); omega⟩
      · exact absurd h (by simp)
    · have := q3_mem h; omega
theorem q2_mem {x : Nat} {t : qT} : ∀ {d y}, t ∈ q2 P Z0 Zd x d y → t.1 = x ∧ (y ≤ t.2.1 ∧ t.2.1 < y + d) ∧ Z0 ≤ t.2.2 ∧ t.2.2 < Z0 + Zd
  | 0, _, h => by rw [q2] at h; exact absurd h (by simp)
  | d + 1, y, h => by
    rw [q2, List.mem_append] at h
    rcases h with h | h
    · have := q3_mem P h; omega
    · have := q2_mem h; omega
theorem q1_mem {t : qT} : ∀ {d x}, t ∈ q1 P Z0 Zd Y0 Yd d x → (x ≤ t.1 ∧ t.1 < x + d) ∧ (Y0 ≤ t.2.1 ∧ t.2.1 < Y0 + Yd) ∧ Z0 ≤ t.2.2 ∧ t.2.2 < Z0 + Zd
  | 0, _, h => by rw [q1] at h; exact absurd h (by simp)
  | d + 1, x, h => by
    rw [q1, List.mem_append] at h
    rcases h with h | h
    · have := q2_mem P Z0 Zd h; omega
    · have := q1_mem h; omega
end QQ
/-- how many steps from..to takes -/
def qD (th : Nat → Int32) (F : zF) (b : Nat) : Nat := qH th F b + 1 - qL th F b
/-- all rows that the layer can have -/
def qR (th : Nat → Int32) (F : zF) (l : Nat) : List qT := q1 (fun b => qFo th F l b F.1) (qL th F (3 * l + 2)) (qD th F (3 * l + 2)) (qL th F (3 * l + 1)) (qD th F (3 * l + 1)) (qD th F (3 * l)) (qL th F (3 * l))
theorem qLH {th : Nat → Int32} {F : zF} (oF : okF F) {b : Nat} (hb : b < 48) : qL th F b ≤ qH th F b ∧ qH th F b ≤ 10 ∧ qL th F b + qD th F b = qH th F b + 1 ∧ qD th F b ≤ 10 ∧ (tHas th b = true → 1 ≤ qL th F b) ∧ (tHas th b = false → qH th F b = 0) := by
  have h := oF.2.2 b hb
  unfold qD qL qH
  cases tHas th b with
  | true => simp only [if_true]; refine ⟨by omega, by omega, by omega, by omega, fun _ => by omega, fun q => by simp at q⟩
  | false => simp
/-- what a row of the list is -/
def qG (th : Nat → Int32) (l : Nat) (t : qT) : Prop := ∀ i, i < 3 → qI t i ≤ 10 ∧ (qI t i = 0 ↔ tHas th (3 * l + i) = false)
theorem qR_mem {th : Nat → Int32} {F : zF} (oF : okF F) {l : Nat} (hl : l < 16) {t : qT} (h : t ∈ qR th F l) : qG th l t := by
  have h := q1_mem _ _ _ _ _ h
  have a0 := qLH (th := th) oF (b := 3 * l) (by omega)
  have a1 := qLH (th := th) oF (b := 3 * l + 1) (by omega)
  have a2 := qLH (th := th) oF (b := 3 * l + 2) (by omega)
  have key : ∀ (b v : Nat), qL th F b ≤ v → v < qL th F b + qD th F b → (qL th F b ≤ qH th F b ∧ qH th F b ≤ 10 ∧ qL th F b + qD th F b = qH th F b + 1 ∧ qD th F b ≤ 10 ∧ (tHas th b = true → 1 ≤ qL th F b) ∧ (tHas th b = false → qH th F b = 0)) → v ≤ 10 ∧ (v = 0 ↔ tHas th b = false) := by
    intro b v p q r
    refine ⟨by omega, fun e => ?_, fun e => by have := r.2.2.2.2.2 e; omega⟩
    cases hb : tHas th b with
    | true => have := r.2.2.2.2.1 hb; omega
    | false => rfl
  intro i hi
  unfold qI
  by_cases i0 : i = 0
  · subst i0; rw [if_pos rfl]; exact key _ _ h.1.1 h.1.2 a0
  · rw [if_neg i0]
    by_cases i1 : i = 1
    · subst i1; rw [if_pos rfl]; exact key _ _ h.2.1.1 h.2.1.2 a1
    · rw [if_neg i1]
      obtain rfl : i = 2 := by omega
      exact key _ _ h.2.2.1 h.2.2.2 a2
theorem qG_pos {th : Nat → Int32} {l : Nat} {t : qT} (h : qG th l t) (h0 : 0 < tBl th l) : 0 < t.1 + t.2.1 + t.2.2 := by
  have g0 := h 0 (by omega); have g1 := h 1 (by omega); have g2 := h 2 (by omega)
  unfold qI at g0 g1 g2
  simp only [if_true, Nat.add_zero, if_neg (show ¬ (1 : Nat) = 0 by omega), if_neg (show ¬ (2 : Nat) = 0 by omega), if_neg (show ¬ (2 : Nat) = 1 by omega)] at g0 g1 g2
  rcases Nat.eq_zero_or_pos (t.1 + t.2.1 + t.2.2) with q | q
  · exfalso
    unfold tBl at h0
    rw [g0.2.1 (by omega), g1.2.1 (by omega), g2.2.1 (by omega)] at h0
    simp at h0
  · exact q
