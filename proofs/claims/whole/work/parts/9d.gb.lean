/-! ===== games: the search ===== -/
/-- tower, from where, by which move, how far -/
abbrev gE : Type := zN × Int32 × Int32 × Nat
abbrev gS : Type := List gE × Bool
def gLk (L : List gE) (x : zN) : Option Nat := L.findIdx? (fun y => gK y.1.1 == gK x.1)
theorem gLk_s {x : zN} : ∀ {L : List gE} {t : Nat}, gLk L x = some t → ∃ e, L[t]? = some e ∧ gK e.1.1 = gK x.1
  | [], t, h => by simp [gLk] at h
  | y :: r, t, h => by
    unfold gLk at h
    rw [List.findIdx?_cons] at h
    by_cases q : (gK y.1.1 == gK x.1) = true
    · rw [if_pos q] at h
      simp at h
      subst h
      exact ⟨y, rfl, by simpa using q⟩
    · rw [if_neg q] at h
      cases hr : List.findIdx? (fun y => gK y.1.1 == gK x.1) r with
      | none => rw [hr] at h; simp at h
      | some u =>
        rw [hr] at h
        simp at h
        subst h
        exact gLk_s (L := r) hr
theorem gLk_n {x : zN} : ∀ {L : List gE}, gLk L x = none → ∀ (j : Nat) (e : gE), L[j]? = some e → gK e.1.1 ≠ gK x.1
  | [], h, j, e, q => by simp at q
  | y :: r, h, j, e, q => by
    unfold gLk at h
    rw [List.findIdx?_cons] at h
    by_cases z : (gK y.1.1 == gK x.1) = true
    · rw [if_pos z] at h; simp at h
    · rw [if_neg z] at h
      have hr : gLk r x = none := by
        unfold gLk
        cases hr : List.findIdx? (fun y => gK y.1.1 == gK x.1) r with
        | none => rfl
        | some u => rw [hr] at h; simp at h
      cases j with
      | zero =>
        simp at q; subst q
        simpa using z
      | succ j => exact gLk_n hr j e (by simpa using q)
theorem gLk_ap {x : zN} {L T : List gE} {t : Nat} (h : gLk L x = some t) : gLk (L ++ T) x = some t := by
  unfold gLk at h ⊢
  rw [List.findIdx?_append, h]; rfl
theorem ge_ap {L T : List gE} {j : Nat} {e : gE} (h : L[j]? = some e) : (L ++ T)[j]? = some e := by
  have hj : j < L.length := by
    rcases Nat.lt_or_ge j L.length with q | q
    · exact q
    · rw [List.getElem?_eq_none q] at h; simp at h
  rw [List.getElem?_append_left hj]; exact h
theorem ge_lt {L : List gE} {j : Nat} {e : gE} (h : L[j]? = some e) : j < L.length := by
  rcases Nat.lt_or_ge j L.length with q | q
  · exact q
  · rw [List.getElem?_eq_none q] at h; simp at h
theorem ge_of {L : List gE} {j : Nat} (h : j < L.length) : ∃ e, L[j]? = some e := ⟨_, List.getElem?_eq_getElem h⟩
theorem ge_one {L : List gE} {y e : gE} {j : Nat} (h : (L ++ [y])[j]? = some e) : (j = L.length ∧ e = y) ∨ (j < L.length ∧ L[j]? = some e) := by
  rcases Nat.lt_or_ge j L.length with q | q
  · rw [List.getElem?_append_left q] at h; exact Or.inr ⟨q, h⟩
  · rw [List.getElem?_append_right q] at h
    have := ge_lt h
    simp at this
    have hj : j - L.length = 0 := by omega
    rw [hj] at h
    simp at h
    exact Or.inl ⟨by omega, h.symm⟩
/-- a move of node i -/
def gSt (φ : Bool) (t0 t1 : Int32) (i : Nat) (x : zN) (d : Nat) (s : gS) (m : Nat) : gS :=
  if s.2 = false ∧ gSf φ t0 t1 x m = true ∧ gLk s.1 (gNx x m) = none then (if s.1.length = 400 then (s.1, true) else (s.1 ++ [(gNx x m, yN i, yN m, d + 1)], false)) else s
def gXk (φ : Bool) (t0 t1 : Int32) (i : Nat) (x : zN) (d : Nat) (s : gS) : Nat → gS
  | 0 => s
  | k + 1 => gSt φ t0 t1 i x d (gXk φ t0 t1 i x d s k) k
def gX (φ : Bool) (t0 t1 : Int32) (i : Nat) (s : gS) : gS := match s.1[i]? with
  | some e => gXk φ t0 t1 i e.1 e.2.2.2 s 480
  | none => s
/-- nodes 0 to k - 1 are done -/
def gAk (φ : Bool) (t0 t1 : Int32) (r : zN) : Nat → gS
  | 0 => ([(r, -1, -1, 0)], false)
  | k + 1 => if (gAk φ t0 t1 r k).2 = false then gX φ t0 t1 k (gAk φ t0 t1 r k) else gAk φ t0 t1 r k
def gJ (r : zN) (d : Nat) (s : gS) : Prop := (s.1.length ≤ 400) ∧ (s.2 = true → s.1.length = 400) ∧ (s.1[0]? = some ((r, -1, -1, 0) : gE)) ∧ (∀ (j : Nat) (e : gE), s.1[j]? = some e → nOk e.1 ∧ gMu e.1 = gMu r + e.2.2.2) ∧ (∀ (j j' : Nat) (e e' : gE), s.1[j]? = some e → s.1[j']? = some e' → gK e.1.1 = gK e'.1.1 → j = j') ∧ (∀ (j j' : Nat) (e e' : gE), j ≤ j' → s.1[j]? = some e → s.1[j']? = some e' → e.2.2.2 ≤ e'.2.2.2) ∧ (∀ (j : Nat) (e : gE), 0 < j → s.1[j]? = some e → ∃ (i m : Nat) (e' : gE), i < j ∧ s.1[i]? = some e' ∧ e.2.1 = yN i ∧ e.2.2.1 = yN m ∧ m < 480 ∧ e.2.2.2 = e'.2.2.2 + 1) ∧ (∀ (j : Nat) (e : gE), s.1[j]? = some e → e.2.2.2 ≤ d + 1)
theorem gJ.len {r : zN} {d : Nat} {s : gS} (h : gJ r d s) : s.1.length ≤ 400 := h.1
theorem gJ.ful {r : zN} {d : Nat} {s : gS} (h : gJ r d s) : s.2 = true → s.1.length = 400 := h.2.1
theorem gJ.fst {r : zN} {d : Nat} {s : gS} (h : gJ r d s) : s.1[0]? = some ((r, -1, -1, 0) : gE) := h.2.2.1
theorem gJ.nod {r : zN} {d : Nat} {s : gS} (h : gJ r d s) : ∀ (j : Nat) (e : gE), s.1[j]? = some e → nOk e.1 ∧ gMu e.1 = gMu r + e.2.2.2 := h.2.2.2.1
theorem gJ.dup {r : zN} {d : Nat} {s : gS} (h : gJ r d s) : ∀ (j j' : Nat) (e e' : gE), s.1[j]? = some e → s.1[j']? = some e' → gK e.1.1 = gK e'.1.1 → j = j' := h.2.2.2.2.1
theorem gJ.srt {r : zN} {d : Nat} {s : gS} (h : gJ r d s) : ∀ (j j' : Nat) (e e' : gE), j ≤ j' → s.1[j]? = some e → s.1[j']? = some e' → e.2.2.2 ≤ e'.2.2.2 := h.2.2.2.2.2.1
theorem gJ.par {r : zN} {d : Nat} {s : gS} (h : gJ r d s) : ∀ (j : Nat) (e : gE), 0 < j → s.1[j]? = some e → ∃ (i m : Nat) (e' : gE), i < j ∧ s.1[i]? = some e' ∧ e.2.1 = yN i ∧ e.2.2.1 = yN m ∧ m < 480 ∧ e.2.2.2 = e'.2.2.2 + 1 := h.2.2.2.2.2.2.1
theorem gJ.bnd {r : zN} {d : Nat} {s : gS} (h : gJ r d s) : ∀ (j : Nat) (e : gE), s.1[j]? = some e → e.2.2.2 ≤ d + 1 := h.2.2.2.2.2.2.2
section GB
variable {φ : Bool} {t0 t1 : Int32} {r : zN}
theorem gSt_ok {i d m : Nat} {x : zN} {s : gS} {p q : Int32} (J : gJ r d s) (hm : m < 480) (hi : s.1[i]? = some (x, p, q, d)) :
    gJ r d (gSt φ t0 t1 i x d s m) ∧ (∃ T, (gSt φ t0 t1 i x d s m).1 = s.1 ++ T) ∧ ((gSt φ t0 t1 i x d s m).2 = false → s.2 = false ∧ (gSf φ t0 t1 x m = true → ∃ t, gLk (gSt φ t0 t1 i x d s m).1 (gNx x m) = some t)) := by
  unfold gSt
  by_cases c : s.2 = false ∧ gSf φ t0 t1 x m = true ∧ gLk s.1 (gNx x m) = none
  · rw [if_pos c]
    obtain ⟨c1, c2, c3⟩ := c
    by_cases f : s.1.length = 400
    · rw [if_pos f]
      exact ⟨⟨J.len, fun _ => f, J.fst, J.nod, J.dup, J.srt, J.par, J.bnd⟩, ⟨[], (List.append_nil _).symm⟩, fun z => by simp at z⟩
    · rw [if_neg f]
      have hx := J.nod i _ hi
      have hne := gLk_n c3
      have hl := J.len
      refine ⟨⟨by simp; omega, fun z => by simp at z, ge_ap J.fst, fun j e h => ?_, fun j j' e e' h h' hk => ?_, fun j j' e e' hj h h' => ?_, fun j e hj h => ?_, fun j e h => ?_⟩, ⟨_, rfl⟩, fun _ => ⟨c1, fun _ => ⟨s.1.length, ?_⟩⟩⟩
      · rcases ge_one h with ⟨-, rfl⟩ | ⟨-, h⟩
        · refine ⟨gNx_ok hx.1 c2, ?_⟩
          have := gMu_nx hx.1 c2
          have h2 := hx.2
          show gMu (gNx x m) = gMu r + (d + 1)
          dsimp only at this h2
          omega
        · exact J.nod j e h
      · rcases ge_one h with ⟨rfl, rfl⟩ | ⟨hj, h⟩
        · rcases ge_one h' with ⟨rfl, rfl⟩ | ⟨hj', h'⟩
          · rfl
          · exact absurd hk.symm (hne j' e' h')
        · rcases ge_one h' with ⟨rfl, rfl⟩ | ⟨hj', h'⟩
          · exact absurd hk (hne j e h)
          · exact J.dup j j' e e' h h' hk
      · rcases ge_one h' with ⟨rfl, rfl⟩ | ⟨hj', h'⟩
        · rcases ge_one h with ⟨rfl, rfl⟩ | ⟨hj2, h⟩
          · exact Nat.le_refl _
          · exact J.bnd j e h
        · rcases ge_one h with ⟨rfl, rfl⟩ | ⟨hj2, h⟩
          · omega
          · exact J.srt j j' e e' hj h h'
      · rcases ge_one h with ⟨rfl, rfl⟩ | ⟨hj2, h⟩
        · exact ⟨i, m, _, ge_lt hi, ge_ap hi, rfl, rfl, hm, rfl⟩
        · obtain ⟨a, b, e', h1, h2, h3⟩ := J.par j e hj h
          exact ⟨a, b, e', h1, ge_ap h2, h3⟩
      · rcases ge_one h with ⟨rfl, rfl⟩ | ⟨hj2, h⟩
        · exact Nat.le_refl _
        · exact J.bnd j e h
      · unfold gLk at c3 ⊢
        rw [List.findIdx?_append, c3]
        simp
  · rw [if_neg c]
    refine ⟨J, ⟨[], (List.append_nil _).symm⟩, fun z => ⟨z, fun y => ?_⟩⟩
    cases hl : gLk s.1 (gNx x m) with
    | some t => exact ⟨t, rfl⟩
    | none => exact absurd ⟨z, y, hl⟩ c
theorem gXk_ok {i d : Nat} {x : zN} {s : gS} {p q : Int32} (J : gJ r d s) (hi : s.1[i]? = some (x, p, q, d)) : ∀ k, k ≤ 480 →
    gJ r d (gXk φ t0 t1 i x d s k) ∧ (∃ T, (gXk φ t0 t1 i x d s k).1 = s.1 ++ T) ∧ ((gXk φ t0 t1 i x d s k).2 = false → s.2 = false ∧ ∀ m, m < k → gSf φ t0 t1 x m = true → ∃ t, gLk (gXk φ t0 t1 i x d s k).1 (gNx x m) = some t) := by
  intro k
  induction k with
  | zero => intro _; exact ⟨J, ⟨[], (List.append_nil _).symm⟩, fun z => ⟨z, fun m hm => by omega⟩⟩
  | succ k ih =>
    intro hk
    obtain ⟨J1, ⟨T, hT⟩, c1⟩ := ih (by omega)
    have hi1 : (gXk φ t0 t1 i x d s k).1[i]? = some (x, p, q, d) := by rw [hT]; exact ge_ap hi
    obtain ⟨J2, ⟨T2, hT2⟩, c2⟩ := gSt_ok (φ := φ) (t0 := t0) (t1 := t1) J1 (show k < 480 by omega) hi1
    rw [gXk]
    refine ⟨J2, ⟨T ++ T2, by rw [hT2, hT, List.append_assoc]⟩, fun z => ?_⟩
    obtain ⟨z1, z2⟩ := c2 z
    obtain ⟨z3, z4⟩ := c1 z1
    refine ⟨z3, fun m hm hs => ?_⟩
    by_cases q : m = k
    · subst q; exact z2 hs
    · obtain ⟨t, ht⟩ := z4 m (by omega) hs
      exact ⟨t, by rw [hT2]; exact gLk_ap ht⟩
theorem gXk_top {i d : Nat} {x : zN} {s : gS} (o : nOk x) : ∀ e, gXk φ t0 t1 i x d s (30 * x.2 + e) = gXk φ t0 t1 i x d s (30 * x.2) := by
  intro e
  induction e with
  | zero => rfl
  | succ e ih =>
    rw [← Nat.add_assoc, gXk, ih]
    unfold gSt
    rw [if_neg]
    rintro ⟨-, h, -⟩
    have := gSf_b o h
    omega
theorem gXk_480 {i d : Nat} {x : zN} {s : gS} (o : nOk x) : gXk φ t0 t1 i x d s (30 * x.2) = gXk φ t0 t1 i x d s 480 := by
  have := o.1.1
  rw [← gXk_top (φ := φ) (t0 := t0) (t1 := t1) (i := i) (d := d) (s := s) o (480 - 30 * x.2), show 30 * x.2 + (480 - 30 * x.2) = 480 by omega]
def gI (φ : Bool) (t0 t1 : Int32) (r : zN) (k : Nat) (s : gS) : Prop := (∃ d, gJ r d s) ∧ (∀ (e : gE), s.1[k]? = some e → gJ r e.2.2.2 s) ∧ (s.2 = false → ∀ (j : Nat) (e : gE) (m : Nat), j < k → s.1[j]? = some e → gSf φ t0 t1 e.1 m = true → ∃ t, gLk s.1 (gNx e.1 m) = some t)
theorem gI.j {φ : Bool} {t0 t1 : Int32} {r : zN} {k : Nat} {s : gS} (h : gI φ t0 t1 r k s) : ∃ d, gJ r d s := h.1
theorem gI.nx {φ : Bool} {t0 t1 : Int32} {r : zN} {k : Nat} {s : gS} (h : gI φ t0 t1 r k s) : ∀ (e : gE), s.1[k]? = some e → gJ r e.2.2.2 s := h.2.1
theorem gI.cl {φ : Bool} {t0 t1 : Int32} {r : zN} {k : Nat} {s : gS} (h : gI φ t0 t1 r k s) : s.2 = false → ∀ (j : Nat) (e : gE) (m : Nat), j < k → s.1[j]? = some e → gSf φ t0 t1 e.1 m = true → ∃ t, gLk s.1 (gNx e.1 m) = some t := h.2.2
theorem gJ.up {d d' : Nat} {s : gS} (J : gJ r d s) (h : d ≤ d') : gJ r d' s := ⟨J.len, J.ful, J.fst, J.nod, J.dup, J.srt, J.par, fun j e q => Nat.le_trans (J.bnd j e q) (by omega)⟩
theorem gAk_ok (hr : nOk r) : ∀ k, gI φ t0 t1 r k (gAk φ t0 t1 r k) := by
  intro k
  induction k with
  | zero =>
    have J : gJ r 0 (gAk φ t0 t1 r 0) := by
      have one : ∀ (j : Nat) (e : gE), (gAk φ t0 t1 r 0).1[j]? = some e → j = 0 ∧ e = ((r, -1, -1, 0) : gE) := fun j e h => by
        have hl := ge_lt h
        have : j = 0 := by simp [gAk] at hl; exact hl
        subst this
        simp [gAk] at h
        exact ⟨rfl, h.symm⟩
      refine ⟨by simp [gAk], fun z => by simp [gAk] at z, rfl, fun j e h => ?_, fun j j' e e' h h' _ => ?_, fun j j' e e' _ h h' => ?_, fun j e hj h => ?_, fun j e h => ?_⟩
      · obtain ⟨-, rfl⟩ := one j e h; exact ⟨hr, rfl⟩
      · rw [(one j e h).1, (one j' e' h').1]
      · rw [(one j e h).2, (one j' e' h').2]; exact Nat.le_refl _
      · have := (one j e h).1; omega
      · rw [(one j e h).2]; exact Nat.zero_le _
    exact ⟨⟨0, J⟩, fun e h => J.up (Nat.zero_le _), fun _ j e m hj => by omega⟩
  | succ k ih =>
    obtain ⟨⟨d, J⟩, nx, cl⟩ := ih
    rw [gAk]
    generalize gAk φ t0 t1 r k = s at *
    by_cases f : s.2 = false
    · rw [if_pos f]
      unfold gX
      cases he : s.1[k]? with
      | none =>
        dsimp only
        refine ⟨⟨d, J⟩, fun e h => ?_, fun z j e m hj h hs => ?_⟩
        · have := ge_lt h
          rw [List.getElem?_eq_none_iff] at he
          omega
        · by_cases q : j = k
          · subst q; rw [he] at h; simp at h
          · exact cl z j e m (by omega) h hs
      | some e =>
        dsimp only
        obtain ⟨x, p, q, d'⟩ := e
        have J0 := nx _ he
        obtain ⟨J1, ⟨T, hT⟩, c1⟩ := gXk_ok (φ := φ) (t0 := t0) (t1 := t1) J0 he 480 (Nat.le_refl _)
        dsimp only at J1 hT c1 ⊢
        have hk1 : (gXk φ t0 t1 k x d' s 480).1[k]? = some (x, p, q, d') := by rw [hT]; exact ge_ap he
        refine ⟨⟨d', J1⟩, fun e h => J1.up ?_, fun z j e m hj h hs => ?_⟩
        · exact J1.srt k (k + 1) _ e (by omega) hk1 h
        · by_cases w : j = k
          · subst w
            rw [hk1] at h
            simp only [Option.some.injEq] at h
            subst h
            have hb := gSf_b (J1.nod _ _ hk1).1 hs
            have hn := (J1.nod _ _ hk1).1.1.1
            dsimp only at hb hn
            exact (c1 z).2 m (by omega) hs
          · obtain ⟨e', he'⟩ := ge_of (show j < s.1.length by have := ge_lt he; omega)
            have : e' = e := by
              have h2 := ge_ap (T := T) he'
              rw [← hT, h] at h2
              exact (Option.some.inj h2).symm
            subst this
            obtain ⟨t, ht⟩ := cl f j e' m (by omega) he' hs
            exact ⟨t, by rw [hT]; exact gLk_ap ht⟩
    · rw [if_neg f]
      refine ⟨⟨d, J⟩, fun e h => ?_, fun z => absurd z f⟩
      obtain ⟨e', he'⟩ := ge_of (show k < s.1.length by have := ge_lt h; omega)
      exact (nx e' he').up (J.srt k (k + 1) e' e (by omega) he' h)
theorem gAk_pre (k : Nat) (hr : nOk r) : ∃ T, (gAk φ t0 t1 r (k + 1)).1 = (gAk φ t0 t1 r k).1 ++ T := by
  have I := gAk_ok (φ := φ) (t0 := t0) (t1 := t1) hr k
  rw [gAk]
  generalize gAk φ t0 t1 r k = s at *
  by_cases f : s.2 = false
  · rw [if_pos f]
    unfold gX
    cases he : s.1[k]? with
    | none => exact ⟨[], (List.append_nil _).symm⟩
    | some e => exact (gXk_ok (φ := φ) (t0 := t0) (t1 := t1) (I.nx _ he) he 480 (Nat.le_refl _)).2.1
  · rw [if_neg f]; exact ⟨[], (List.append_nil _).symm⟩
theorem gAk_pre' (hr : nOk r) (k : Nat) : ∀ d, ∃ T, (gAk φ t0 t1 r (k + d)).1 = (gAk φ t0 t1 r k).1 ++ T
  | 0 => ⟨[], (List.append_nil _).symm⟩
  | d + 1 => by
    obtain ⟨T, h⟩ := gAk_pre' hr k d
    obtain ⟨T2, h2⟩ := gAk_pre (φ := φ) (t0 := t0) (t1 := t1) (k + d) hr
    exact ⟨T ++ T2, by rw [← Nat.add_assoc, h2, h, List.append_assoc]⟩
/-- behind the last node nothing is added -/
theorem gAk_end {k : Nat} (h : (gAk φ t0 t1 r k).1.length ≤ k ∨ (gAk φ t0 t1 r k).2 = true) : ∀ d, gAk φ t0 t1 r (k + d) = gAk φ t0 t1 r k
  | 0 => rfl
  | d + 1 => by
    rw [← Nat.add_assoc, gAk, gAk_end h d]
    rcases h with h | h
    · by_cases f : (gAk φ t0 t1 r k).2 = false
      · rw [if_pos f]
        unfold gX
        rw [List.getElem?_eq_none (by omega)]
      · rw [if_neg f]
    · rw [if_neg (by rw [h]; decide)]
end GB
