/-! ===== what each layer bears, its pull, its margin: from the top down ===== -/
/-- of the d highest layers: weight, lever, along, across -/
def wS (th : Nat → Int32) (n : Nat) : Nat → Int32 × Int32 × Int32 × Int32
  | 0 => (0, 0, 0, 0)
  | d + 1 => ((wS th n d).1 + tWg th (n - 1 - d), (wS th n d).2.1 + (wS th n d).1, (wS th n d).2.2.1 + (if (n - 1 - d) % 2 = 0 then tMo th (n - 1 - d) else 0), (wS th n d).2.2.2 + (if (n - 1 - d) % 2 = 0 then 0 else tMo th (n - 1 - d)))
def wP (th : Nat → Int32) (n : Nat) (t0 t1 : Int32) (d : Nat) : Int32 := (10 * (if (n - 1 - d) % 2 = 0 then (wS th n d).2.2.1 else (wS th n d).2.2.2)) + ((if (n - 1 - d) % 2 = 0 then t0 else t1) * ((wS th n d).2.1 + (wS th n d).1))
def tLo (k : Nat) : Nat := if k % 2 = 1 then 0 else if k % 4 > 1 then 1 else 2
def tHi (k : Nat) : Nat := if k > 3 then 2 else if k > 1 then 1 else 0
def mgO (k : Nat) (A P : Int32) : Int32 := pMin ((2 * P) - ((10 * A) * ((2 * (yN (tLo k) - 1)) - 1))) (((10 * A) * ((2 * (yN (tHi k) - 1)) + 1)) - (2 * P))
def wM (th : Nat → Int32) (n : Nat) (t0 t1 : Int32) (d : Nat) : Int32 := mgO (tBe th (n - 1 - d)).toNatClampNeg (wS th n d).1 (wP th n t0 t1 d)
/-- of the d highest layers: the lowest that gives way, its margin; the lowest with the least margin but the highest one, that margin -/
def wB (th : Nat → Int32) (n : Nat) (t0 t1 : Int32) : Nat → Int32 × Int32 × Int32 × Int32
  | 0 => (-1, 0, -1, 0)
  | d + 1 =>
    (if wM th n t0 t1 d < 0 then yN (n - 1 - d) else (wB th n t0 t1 d).1,
     if wM th n t0 t1 d < 0 then wM th n t0 t1 d else (wB th n t0 t1 d).2.1,
     if 0 < d ∧ ((wB th n t0 t1 d).2.2.1 = -1 ∨ wM th n t0 t1 d ≤ (wB th n t0 t1 d).2.2.2) then yN (n - 1 - d) else (wB th n t0 t1 d).2.2.1,
     if 0 < d ∧ ((wB th n t0 t1 d).2.2.1 = -1 ∨ wM th n t0 t1 d ≤ (wB th n t0 t1 d).2.2.2) then wM th n t0 t1 d else (wB th n t0 t1 d).2.2.2)
/-- it stands -/
def tSt (th : Nat → Int32) (n : Nat) (t0 t1 : Int32) : Bool := decide ((wB th n t0 t1 n).1 = -1)
/-- thicknesses that there are: one more, and a gap -/
def tEn (i : Nat) : Int32 := yN i - 1
theorem tEn_of {x : Int32} (h : x = -1 ∨ (0 ≤ x ∧ x ≤ 9)) : ∃ i : Fin 11, x = tEn i.val := by
  rcases h with rfl | ⟨h1, h2⟩
  · exact ⟨0, rfl⟩
  · obtain ⟨k, hk, rfl⟩ := yN_of' h1
    rw [yN_lel hk (by omega)] at h2
    exact ⟨⟨k + 1, by omega⟩, by unfold tEn; rw [yN_subl (by simp)]; rfl⟩
set_option maxRecDepth 100000 in
theorem tBr_all : ∀ i j k : Fin 11, (i = 0 ∧ j = 0 ∧ k = 0) ∨ ((tBr (tEn i.val) (tEn j.val) (tEn k.val)).toNatClampNeg < 8 ∧ 0 < (tBr (tEn i.val) (tEn j.val) (tEn k.val)).toNatClampNeg ∧ tBr (tEn i.val) (tEn j.val) (tEn k.val) = yN (tBr (tEn i.val) (tEn j.val) (tEn k.val)).toNatClampNeg) := by decide +kernel
theorem tBe_rng {th : Nat → Int32} {n l : Nat} (hk : tOk th n) (hl : l < n) : (tBe th l).toNatClampNeg < 8 ∧ 0 < (tBe th l).toNatClampNeg ∧ tBe th l = yN (tBe th l).toNatClampNeg := by
  have hn := hk.1
  obtain ⟨i, hi⟩ := tEn_of (hk.2.1 (3 * l) (by omega))
  obtain ⟨j, hj⟩ := tEn_of (hk.2.1 (3 * l + 1) (by omega))
  obtain ⟨k, hk2⟩ := tEn_of (hk.2.1 (3 * l + 2) (by omega))
  unfold tBe
  rw [hi, hj, hk2]
  rcases tBr_all i j k with ⟨rfl, rfl, rfl⟩ | h
  · exfalso
    have h0 := hk.2.2.2 l hl
    have e : tEn (0 : Fin 11).val = -1 := rfl
    unfold tBl tHas at h0
    rw [hi, hj, hk2, e] at h0
    simp at h0
  · exact h
theorem tLo_tab : ∀ k : Fin 8, 0 < k.val → ([0, 0, 1, 0, 2, 0, 1, 0] : List Int32).getD k.val 0 = yN (tLo k.val) := by decide
theorem tHi_tab : ∀ k : Fin 8, 0 < k.val → ([0, 0, 1, 1, 2, 2, 2, 2] : List Int32).getD k.val 0 = yN (tHi k.val) := by decide
theorem and7 : ∀ k : Fin 8, yN k.val &&& 7 = yN k.val := by decide
section WZ
variable {κ : yK} {m : yM} {a n : Nat} {th : Nat → Int32}
theorem s4 {k : Nat} {A P : Int32} (hk : k < 8) (h0 : 0 < k) : f_4 (yN k) A P (yH κ m) = some (mgO k A P, yH κ m) := by
  unfold f_4
  rw [and7 ⟨k, hk⟩, yh_k0 hk, yh_k1 hk, yBs, yBs, tLo_tab ⟨k, hk⟩ h0, tHi_tab ⟨k, hk⟩ h0]
  rfl
/-- note() -/
def wNo (m : yM) (l : Nat) (w : Int32) : yM :=
  let m1 := if m.1 109 l < 0 then yW (yW m 105 4 (yN l)) 105 5 (m.1 109 l) else m
  if w = 0 ∧ (m1.1 105 6 = -1 ∨ m.1 109 l ≤ m1.1 105 7) then yW (yW m1 105 6 (yN l)) 105 7 (m.1 109 l) else m1
theorem wNo_109 (m : yM) (l : Nat) (w : Int32) (x : Nat) (hx : x ≠ 105) : (wNo m l w).1 x = m.1 x := by
  unfold wNo
  simp only
  split <;> split <;> simp [yW_row hx]
theorem wNo_2 (m : yM) (l : Nat) (w : Int32) : (wNo m l w).2 = m.2 := by
  unfold wNo
  simp only
  split <;> split <;> rfl
theorem s5 {l : Nat} {w : Int32} (hl : l < 16) : f_5 105 (yN l) w (yH κ m) = some (yH κ (wNo m l w)) := by
  unfold f_5 wNo
  simp (disch := first | assumption | omega) only [yr_105_0, yr_105_1, yr_105_2, yr_105_3, yi_105_4, yp_105_4, yi_105_5, yp_105_5, yi_105_6, yp_105_6, yi_105_7, yp_105_7, yis_105, ya_109, yBs, pG_t, pZ_0, pZ_1, pZ_B]
  by_cases h1 : m.1 109 l < 0
  · have h1' : ¬ (0 : Int32) ≤ m.1 109 l := by rw [yLe_iff]; rw [yLt_iff] at h1; have : (0 : Int32).toInt = 0 := rfl; omega
    rw [if_neg h1']
    simp (disch := first | assumption | omega) only [yr_105_0, yr_105_1, yr_105_2, yr_105_3, yi_105_4, yp_105_4, yi_105_5, yp_105_5, yi_105_6, yp_105_6, yi_105_7, yp_105_7, yis_105, ya_109, yBs, pG_t, pZ_0, pZ_1, pZ_B, if_pos h1, yW_row]
    by_cases h2 : w = 0
    · rw [if_pos h2]
      by_cases h3 : (yW (yW m 105 4 (yN l)) 105 5 (m.1 109 l)).1 105 6 = -1
      · rw [if_pos h3, yBs, if_pos ⟨h2, Or.inl h3⟩]
      · rw [if_neg h3]
        by_cases h4 : (yW (yW m 105 4 (yN l)) 105 5 (m.1 109 l)).1 105 7 < m.1 109 l
        · rw [if_pos h4, yBs, if_neg]
          rintro ⟨-, q | q⟩
          · exact h3 q
          · rw [yLe_iff] at q; rw [yLt_iff] at h4; omega
        · rw [if_neg h4, yBs, if_pos ⟨h2, Or.inr (yLe_of_lt h4)⟩]
    · rw [if_neg h2, yBs, if_neg (fun q => h2 q.1)]
  · have h1' : (0 : Int32) ≤ m.1 109 l := yLe_of_lt h1
    rw [if_pos h1']
    simp (disch := first | assumption | omega) only [yr_105_0, yr_105_1, yr_105_2, yr_105_3, yi_105_4, yp_105_4, yi_105_5, yp_105_5, yi_105_6, yp_105_6, yi_105_7, yp_105_7, yis_105, ya_109, yBs, pG_t, pZ_0, pZ_1, pZ_B, if_neg h1, yW_row]
    by_cases h2 : w = 0
    · rw [if_pos h2]
      by_cases h3 : m.1 105 6 = -1
      · rw [if_pos h3, yBs, if_pos ⟨h2, Or.inl h3⟩]
      · rw [if_neg h3]
        by_cases h4 : m.1 105 7 < m.1 109 l
        · rw [if_pos h4, yBs, if_neg]
          rintro ⟨-, q | q⟩
          · exact h3 q
          · rw [yLe_iff] at q; rw [yLt_iff] at h4; omega
        · rw [if_neg h4, yBs, if_pos ⟨h2, Or.inr (yLe_of_lt h4)⟩]
    · rw [if_neg h2, yBs, if_neg (fun q => h2 q.1)]
end WZ
