/-! ===== games: towers that can come ===== -/
abbrev zN : Type := (Nat → Int32) × Nat
def nOk (x : zN) : Prop := tOk x.1 x.2 ∧ ∀ j, 48 ≤ j → x.1 j = 0
/-- safe moves, if it is not felled; what they lead to -/
def gSf (φ : Bool) (t0 t1 : Int32) (x : zN) (m : Nat) : Bool := φ && tSf x.1 x.2 t0 t1 m
def gNx (x : zN) (m : Nat) : zN := (tLn x.1 x.2 m, tNn x.1 x.2)
/-- how far it is built -/
def gMu (x : zN) : Nat := 3 * (x.2 - 1) + tBl x.1 (x.2 - 1)
theorem gMu_le {x : zN} (h : nOk x) : gMu x ≤ 48 := by
  have := tBl_le x.1 (x.2 - 1)
  have := h.1.1
  unfold gMu; omega
theorem gSf_c {φ : Bool} {t0 t1 : Int32} {x : zN} {m : Nat} (h : gSf φ t0 t1 x m = true) : tSf x.1 x.2 t0 t1 m = true ∧ tCg x.1 x.2 m = true ∧ 2 ≤ tBl x.1 (m / 10 / 3) := by
  unfold gSf at h
  rw [Bool.and_eq_true] at h
  refine ⟨h.2, ?_, tSf_2 h.2⟩
  have := h.2
  unfold tSf at this
  rw [Bool.and_eq_true] at this
  exact this.1
theorem gNx_ok {φ : Bool} {t0 t1 : Int32} {x : zN} {m : Nat} (o : nOk x) (h : gSf φ t0 t1 x m = true) : nOk (gNx x m) := by
  obtain ⟨-, hc, h2⟩ := gSf_c h
  exact ⟨tLn_ok o.1 hc h2, tLn_z o.1 hc o.2⟩
theorem gMu_nx {φ : Bool} {t0 t1 : Int32} {x : zN} {m : Nat} (o : nOk x) (h : gSf φ t0 t1 x m = true) : gMu (gNx x m) = gMu x + 1 := by
  obtain ⟨-, hc, h2⟩ := gSf_c h
  obtain ⟨th, n⟩ := x
  have hk : tOk th n := o.1
  have hn := hk.1
  obtain ⟨g1, g2, g3, g4, g5, g6, g7⟩ := tCg_f hk hc
  dsimp only at g2 g4 g5 g6 g7 h2
  have hv := tOk_v hk g1
  have hh : tHas (tLn th n m) (tLd th n m) = true := by
    unfold tLn; exact tHas_self g4 (y0m hv.1)
  have ht := tBl_take hh
  rw [tLn_back hk hc] at ht
  unfold gMu gNx
  dsimp only
  rw [show tNn th n - 1 = tLd th n m / 3 by omega, ← ht]
  unfold tNn at g5
  by_cases hg : tBl th (n - 1) < 3
  · rw [if_pos hg] at g5
    rw [show tLd th n m / 3 = n - 1 by omega, tDn_bl g2]; omega
  · rw [if_neg hg] at g5
    have hl : tLd th n m / 3 = n := by omega
    have h3 := tBl_le th (n - 1)
    have z : ∀ i, i < 3 → tHas th (3 * n + i) = false := fun i hi => by
      cases hq : tHas th (3 * n + i) with
      | false => rfl
      | true => have := tHas_n hk hq; omega
    have e0 : tBl th n = 0 := by
      unfold tBl
      rw [show 3 * n = 3 * n + 0 from rfl, z 0 (by omega), show 3 * n + 0 + 1 = 3 * n + 1 from rfl, show 3 * n + 0 + 2 = 3 * n + 2 from rfl, z 1 (by omega), z 2 (by omega)]; rfl
    have e1 : tBl (tDn th m) n = tBl th n := by unfold tDn; exact tBl_upd (by omega)
    rw [hl, e1, e0]; omega
theorem gSf_b {φ : Bool} {t0 t1 : Int32} {x : zN} {m : Nat} (o : nOk x) (h : gSf φ t0 t1 x m = true) : m % 10 < 3 ∧ m / 10 < 42 ∧ m < 30 * x.2 := by
  obtain ⟨-, hc, -⟩ := gSf_c h
  have hn := o.1.1
  obtain ⟨g1, g2, g3, g4, g5, g6, g7⟩ := tCg_f o.1 hc
  unfold tCg at hc
  simp only [Bool.and_eq_true, decide_eq_true_eq] at hc
  obtain ⟨⟨-, -⟩, h4⟩ := hc
  split at h4
  · simp only [Bool.and_eq_true, decide_eq_true_eq] at h4
    exact ⟨g3, by omega, by omega⟩
  · simp only [Bool.and_eq_true, decide_eq_true_eq] at h4
    exact ⟨g3, by omega, by omega⟩
/-- the same tower: the same thicknesses -/
def gK (th : Nat → Int32) : List Int32 := (List.range 48).map th
theorem gK_e {th th' : Nat → Int32} (h : gK th = gK th') : ∀ b, b < 48 → th b = th' b := by
  intro b hb
  have e : ∀ f : Nat → Int32, (gK f)[b]? = some (f b) := fun f => by unfold gK; rw [List.getElem?_map, List.getElem?_range hb]; rfl
  have := e th
  rw [h, e th'] at this
  exact (Option.some.inj this).symm
theorem gK_c {th th' : Nat → Int32} (h : ∀ b, b < 48 → th b = th' b) : gK th = gK th' := by
  unfold gK
  exact List.map_congr_left (fun b hb => h b (List.mem_range.1 hb))
theorem tHas_cg {th th' : Nat → Int32} (h : ∀ b, b < 48 → th b = th' b) (b : Nat) : tHas th b = tHas th' b := by
  unfold tHas
  by_cases q : b < 48
  · rw [h b q]
  · rw [decide_eq_false q]; rfl
theorem tOk_n {th : Nat → Int32} {n n' : Nat} (h : tOk th n) (h' : tOk th n') : n = n' := by
  have key : ∀ {n n'}, tOk th n → tOk th n' → ¬ n < n' := by
    intro n n' a b q
    have := b.2.2.2 n q
    have hn := b.1
    have z : ∀ i, i < 3 → tHas th (3 * n + i) = false := fun i hi => by
      cases hq : tHas th (3 * n + i) with
      | false => rfl
      | true => have := tHas_n a hq; omega
    unfold tBl at this
    rw [show 3 * n = 3 * n + 0 from rfl, z 0 (by omega), show 3 * n + 0 + 1 = 3 * n + 1 from rfl, show 3 * n + 0 + 2 = 3 * n + 2 from rfl, z 1 (by omega), z 2 (by omega)] at this
    exact absurd this (by decide)
  have := key h h'
  have := key h' h
  omega
theorem nOk_e {x y : zN} (a : nOk x) (b : nOk y) (h : gK x.1 = gK y.1) : x = y := by
  have e : x.1 = y.1 := funext fun j => by
    by_cases q : j < 48
    · exact gK_e h j q
    · rw [a.2 j (by omega), b.2 j (by omega)]
  have a1 := a.1
  rw [e] at a1
  exact Prod.ext e (tOk_n a1 b.1)
