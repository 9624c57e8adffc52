/-! ===== the class: sift() ===== -/
def qC (L : List qT) (i : Nat) : Nat := (L.filter (fun t => (qB t).testBit i)).length
def qW (e : Nat) : Int32 := if tEn e = -1 then 0 else (1 : Int32) <<< (tEn e &&& 31)
def qS (L : List qT) (i : Nat) : Int32 := L.foldl (fun s t => s ||| qW (qI t i)) 0
theorem qC_ap (L : List qT) (t : qT) (i : Nat) : qC (L ++ [t]) i = qC L i + ((qB t).testBit i).toNat := by
  unfold qC
  rw [List.filter_append, List.length_append]
  cases h : (qB t).testBit i with
  | true => simp [h]
  | false => simp [h]
theorem qC_le (L : List qT) (i : Nat) : qC L i ≤ L.length := List.length_filter_le _ _
theorem qS_ap (L : List qT) (t : qT) (i : Nat) : qS (L ++ [t]) i = qS L i ||| qW (qI t i) := by
  unfold qS; rw [List.foldl_append]; rfl
/-- what the class holds of the rows found so far -/
def Sc (m : yM) (L : List qT) : Prop := m.1 135 11 = yN L.length ∧ ∀ i, i < 3 → m.1 142 i = yN (qC L i) ∧ m.1 143 i = qS L i ∧ (∀ t, L.head? = some t → m.1 144 i = tEn (qI t i)) ∧ ∀ t, L.getLast? = some t → m.1 145 i = tEn (qI t i)
def sQ (x j : Nat) : Prop := (x = 135 ∧ j = 11) ∨ (142 ≤ x ∧ x ≤ 145)
def sQ2 (x j : Nat) : Prop := (x = 135 ∧ j = 11) ∨ (140 ≤ x ∧ x ≤ 145)
section SJ
variable {κ : yK} {m : yM} {th : Nat → Int32} {F : zF} {l n : Nat}
theorem s83_s {fu i : Nat} {b : Int32} (hi : i < 3) : f_83_55 (fu + 1) 135 b (yN i) (yH κ m) = f_83_55 fu 135 b (yN (i + 1)) (yH κ (yW (yW m 142 i (m.1 142 i + ((b >>> (yN i &&& 31)) &&& 1))) 143 i (m.1 143 i ||| (if m.1 145 i = -1 then 0 else (1 : Int32) <<< (m.1 145 i &&& 31))))) := by
  rw [f_83_55]
  rw [if_neg (by rw [yN_lle (by omega) (by omega)]; omega), yr_135_6, yBs, ya_142 hi, yBs, yst_142 hi, yBs, yr_135_7, yBs]
  simp only [yBs, ya_143 hi, yr_135_9, ya_145 hi, yIte_some, yst_143 hi, yN_addl, yW_row (show (143 : Nat) ≠ 142 by omega), yW_row (show (145 : Nat) ≠ 142 by omega)]
theorem s83_e {fu : Nat} {b : Int32} : f_83_55 (fu + 1) 135 b (yN 3) (yH κ m) = some (yH κ m) := by
  rw [f_83_55, if_pos (by decide)]
theorem s83 {L : List qT} {t : qT} (hg : ∀ i, i < 3 → qI t i ≤ 10) (h0 : 0 < t.1 + t.2.1 + t.2.2) (hL : L.length < 1000) (hS : Sc m L) : ∃ m', f_83 135 (tEn t.1) (tEn t.2.1) (tEn t.2.2) (yN (qB t)) (yH κ m) = some (yH κ m') ∧ Sc m' (L ++ [t]) ∧ yFr sQ m m' := by
  have hb8 : qB t < 8 := (qBt_ok (hg 0 (by omega)) (hg 1 (by omega)) (hg 2 (by omega)) h0).1
  have hbit : ∀ i, i < 3 → ((yN (qB t) >>> (yN i &&& 31)) &&& 1) = yN ((qB t).testBit i).toNat := fun i hi => by
    have := (q8b ⟨_, hb8⟩ 0 ⟨i, hi⟩).2.2.2.2
    dsimp only at this
    rw [this]; cases (qB t).testBit i <;> rfl
  let m1 := yW (yW (yW m 145 0 (tEn t.1)) 145 1 (tEn t.2.1)) 145 2 (tEn t.2.2)
  have r145 : ∀ i, i < 3 → m1.1 145 i = tEn (qI t i) := by
    intro i hi
    show (yW (yW (yW m 145 0 (tEn t.1)) 145 1 (tEn t.2.1)) 145 2 (tEn t.2.2)).1 145 i = _
    rw [yW_get, yW_get, yW_get]
    unfold qI
    by_cases i0 : i = 0
    · subst i0; rfl
    · by_cases i1 : i = 1
      · subst i1; rfl
      · obtain rfl : i = 2 := by omega
        rfl
  have rO : ∀ x j, x ≠ 145 → m1.1 x j = m.1 x j := fun x j q => by
    show (yW (yW (yW m 145 0 (tEn t.1)) 145 1 (tEn t.2.1)) 145 2 (tEn t.2.2)).1 x j = _
    rw [yW_row q, yW_row q, yW_row q]
  have F1 : yFr sQ m m1 := ⟨rfl, fun x j q => rO x j (fun e => q (by unfold sQ; omega))⟩
  obtain ⟨m2, e2, F2, R2, H2⟩ : ∃ m2, ((if m1.1 135 11 = 0 then (pFr (yH κ m1) 135 9 9).bind fun x14 => (pFr (yH κ m1) 135 9 8).bind fun x15 => (pCpy (yH κ m1) x14 0 x15 0 3).bind fun h16 => some h16 else some (yH κ m1)) : Option xH) = some (yH κ m2) ∧ yFr (fun x _ => x = 144) m1 m2 ∧ (L ≠ [] → m2 = m1) ∧ (L = [] → ∀ i, i < 3 → m2.1 144 i = tEn (qI t i)) := by
    rw [rO _ _ (by omega), hS.1]
    cases L with
    | nil =>
      rw [if_pos (by decide), yr_135_9, yBs, yr_135_8, yBs, show pCpy (yH κ m1) 145 0 144 0 3 = some (yH κ (yR m1 144 (va_cpy (m1.1 145) (m1.1 144) 0 0 3))) from yh_cpy (sp := 0) (dp := 0) (c := 3) (n := 3) (n2 := 3) rfl rfl (by omega) (by omega) (by omega) (by omega), yBs]
      refine ⟨_, rfl, ⟨rfl, fun x j q => by rw [yR_ne _ _ q]⟩, fun q => absurd rfl q, fun _ i hi => ?_⟩
      rw [yR_eq]
      unfold va_cpy
      rw [if_pos (by omega)]
      rw [← r145 i hi, Nat.sub_zero, Nat.zero_add]
    | cons a L =>
      rw [if_neg (by rw [yN_eql (by simp at hL ⊢; omega) (by omega)]; simp)]
      exact ⟨m1, rfl, yFr.rf _, fun _ => rfl, fun q => absurd q (by simp)⟩
  have k2 : m2.1 135 11 = yN L.length := by rw [F2.2 _ _ (by omega), rO _ _ (by omega), hS.1]
  have k145 : ∀ i, i < 3 → m2.1 145 i = tEn (qI t i) := fun i hi => by rw [F2.2 _ _ (by omega), r145 i hi]
  have kO : ∀ x j, x = 142 ∨ x = 143 → m2.1 x j = m.1 x j := fun x j q => by rw [F2.2 _ _ (by omega), rO _ _ (by omega)]
  let m3 := yW m2 135 11 (yN (L.length + 1))
  have g3 : ∀ x j, x ≠ 135 → m3.1 x j = m2.1 x j := fun x j q => by show (yW m2 135 11 _).1 x j = _; rw [yW_row q]
  let s1 := fun (m : yM) (i : Nat) => yW (yW m 142 i (m.1 142 i + ((yN (qB t) >>> (yN i &&& 31)) &&& 1))) 143 i (m.1 143 i ||| (if m.1 145 i = -1 then 0 else (1 : Int32) <<< (m.1 145 i &&& 31)))
  have sg : ∀ m i x j, (s1 m i).1 x j = if x = 143 ∧ j = i then (m.1 143 i ||| (if m.1 145 i = -1 then 0 else (1 : Int32) <<< (m.1 145 i &&& 31))) else if x = 142 ∧ j = i then (m.1 142 i + ((yN (qB t) >>> (yN i &&& 31)) &&& 1)) else m.1 x j := fun m i x j => by
    show (yW (yW m 142 i _) 143 i _).1 x j = _
    rw [yW_get, yW_get]
  have sF : ∀ m i, yFr sQ m (s1 m i) := fun m i => ⟨rfl, fun x j q => by rw [sg, if_neg (fun e => q (by unfold sQ; omega)), if_neg (fun e => q (by unfold sQ; omega))]⟩
  have e3 : f_83_55 100000 135 (yN (qB t)) 0 (yH κ m3) = some (yH κ (s1 (s1 (s1 m3 0) 1) 2)) := by
    rw [show (0 : Int32) = yN 0 from rfl, s83_s (fu := 99999) (by omega), s83_s (fu := 99998) (by omega), s83_s (fu := 99997) (by omega)]
    exact s83_e (fu := 99996)
  have FF : yFr sQ m (s1 (s1 (s1 m3 0) 1) 2) := ((((F1.tr F2 (S3 := sQ) (fun x j q => q.elim id (fun e => by unfold sQ; omega))).tr (yFr.w (S := sQ) m2 (Or.inl ⟨rfl, rfl⟩)) (S3 := sQ) (fun _ _ => orSelf)).tr (sF _ 0) (S3 := sQ) (fun _ _ => orSelf)).tr (sF _ 1) (S3 := sQ) (fun _ _ => orSelf)).tr (sF _ 2) (fun _ _ => orSelf)
  refine ⟨_, ?_, ?_, FF⟩
  · unfold f_83
    rw [yr_135_9, yBs, show pSi (yH κ m) 145 0 (tEn t.1) = _ from yst_145 (i := 0) (by omega), yBs, yr_135_9, yBs, show pSi (yH κ (yW m 145 0 (tEn t.1))) 145 1 (tEn t.2.1) = _ from yst_145 (i := 1) (by omega), yBs, yr_135_9, yBs, show pSi (yH κ (yW (yW m 145 0 (tEn t.1)) 145 1 (tEn t.2.1))) 145 2 (tEn t.2.2) = some (yH κ m1) from yst_145 (i := 2) (by omega), yBs, yi_135_11, yBs, e2, yBs, yi_135_11, yBs, k2, yN_addl, yp_135_11, yBs, e3, yBs]
  · have v135 : (s1 (s1 (s1 m3 0) 1) 2).1 135 11 = yN (L.length + 1) := by
      rw [sg, if_neg (by omega), if_neg (by omega), sg, if_neg (by omega), if_neg (by omega), sg, if_neg (by omega), if_neg (by omega)]
      show (yW m2 135 11 _).1 135 11 = _
      rw [yW_self, upd_eq]
    have vO : ∀ x j, x = 144 ∨ x = 145 → (s1 (s1 (s1 m3 0) 1) 2).1 x j = m2.1 x j := fun x j q => by
      rw [sg, if_neg (by omega), if_neg (by omega), sg, if_neg (by omega), if_neg (by omega), sg, if_neg (by omega), if_neg (by omega), g3 _ _ (by omega)]
    have v142 : ∀ i, i < 3 → (s1 (s1 (s1 m3 0) 1) 2).1 142 i = m2.1 142 i + ((yN (qB t) >>> (yN i &&& 31)) &&& 1) := fun i hi => by
      by_cases i0 : i = 0
      · subst i0
        rw [sg, if_neg (by omega), if_neg (by omega), sg, if_neg (by omega), if_neg (by omega), sg, if_neg (by omega), if_pos (by omega), g3 _ _ (by omega)]
      · by_cases i1 : i = 1
        · subst i1
          rw [sg, if_neg (by omega), if_neg (by omega), sg, if_neg (by omega), if_pos (by omega), sg, if_neg (by omega), if_neg (by omega), g3 _ _ (by omega)]
        · obtain rfl : i = 2 := by omega
          rw [sg, if_neg (by omega), if_pos (by omega), sg, if_neg (by omega), if_neg (by omega), sg, if_neg (by omega), if_neg (by omega), g3 _ _ (by omega)]
    have v143 : ∀ i, i < 3 → (s1 (s1 (s1 m3 0) 1) 2).1 143 i = m2.1 143 i ||| qW (qI t i) := fun i hi => by
      unfold qW
      rw [← k145 i hi]
      have n3 : ∀ m i k, i ≠ k → (s1 m i).1 143 k = m.1 143 k := fun m i k q => by rw [sg, if_neg (by omega), if_neg (by omega)]
      have n5 : ∀ m i k, (s1 m i).1 145 k = m.1 145 k := fun m i k => by rw [sg, if_neg (by omega), if_neg (by omega)]
      have y3 : ∀ m i, (s1 m i).1 143 i = (m.1 143 i ||| (if m.1 145 i = -1 then 0 else (1 : Int32) <<< (m.1 145 i &&& 31))) := fun m i => by rw [sg, if_pos ⟨rfl, rfl⟩]
      have a3 : ∀ k, m3.1 143 k = m2.1 143 k := fun k => g3 _ _ (by omega)
      have a5 : ∀ k, m3.1 145 k = m2.1 145 k := fun k => g3 _ _ (by omega)
      by_cases i0 : i = 0
      · subst i0
        rw [n3 _ 2 0 (by omega), n3 _ 1 0 (by omega), y3, a3, a5]
      · by_cases i1 : i = 1
        · subst i1
          rw [n3 _ 2 1 (by omega), y3, n3 _ 0 1 (by omega), n5, a3, a5]
        · obtain rfl : i = 2 := by omega
          rw [y3, n3 _ 1 2 (by omega), n3 _ 0 2 (by omega), n5, n5, a3, a5]
    refine ⟨by rw [v135, List.length_append]; rfl, fun i hi => ⟨?_, ?_, fun u hu => ?_, fun u hu => ?_⟩⟩
    · rw [v142 i hi, kO _ _ (by omega), (hS.2 i hi).1, hbit i hi, yN_add, qC_ap]
    · rw [v143 i hi, kO _ _ (by omega), (hS.2 i hi).2.1, qS_ap]
    · rw [vO _ _ (by omega)]
      cases L with
      | nil =>
        simp at hu; subst hu
        exact H2 rfl i hi
      | cons a L =>
        rw [R2 (by simp), rO _ _ (by omega)]
        exact (hS.2 i hi).2.2.1 u (by simpa using hu)
    · rw [vO _ _ (by omega), k145 i hi]
      simp at hu; subst hu; rfl
end SJ
