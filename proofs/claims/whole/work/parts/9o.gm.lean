/-! ===== games: what a tower is worth ===== -/
def gv (o : Option (Nat × Nat)) : Nat := match o with
  | none => 0
  | some p => p.1
/-- 0: wins, 1: longest, 2: shortest -/
def gBe (how its : Nat) : Nat := if how = 0 then 1 - its else its + 1
def gBt (how : Nat) (st : Option (Nat × Nat)) (v : Nat) : Bool := match st with
  | none => decide (0 < v)
  | some p => if how = 2 then decide (v < p.1) else decide (p.1 < v)
def gSp (how : Nat) (V : Nat → Nat) (st : Option (Nat × Nat)) (m : Nat) : Option (Nat × Nat) := if gBt how st (gBe how (V m)) = true then some (gBe how (V m), m) else st
def gFd (how : Nat) (V : Nat → Nat) (l : List Nat) : Option (Nat × Nat) := l.foldl (gSp how V) none
theorem gFd_ap (how : Nat) (V : Nat → Nat) (l : List Nat) (m : Nat) : gFd how V (l ++ [m]) = gSp how V (gFd how V l) m := by
  unfold gFd; rw [List.foldl_append]; rfl
theorem snoc_ind {α : Type} {P : List α → Prop} (h0 : P []) (h1 : ∀ l a, P l → P (l ++ [a])) : ∀ l, P l := by
  have : ∀ n (l : List α), l.length = n → P l := by
    intro n
    induction n with
    | zero => intro l hl; rw [List.length_eq_zero_iff.1 hl]; exact h0
    | succ n ih =>
      intro l hl
      have hne : l ≠ [] := fun z => by rw [z] at hl; simp at hl
      have e := List.dropLast_concat_getLast hne
      rw [← e]
      exact h1 _ _ (ih _ (by rw [List.length_dropLast, hl]; rfl))
  intro l; exact this _ l rfl
theorem gFd_c {how : Nat} {V V' : Nat → Nat} : ∀ l : List Nat, (∀ m, m ∈ l → V m = V' m) → gFd how V l = gFd how V' l := by
  refine snoc_ind (fun _ => rfl) (fun l a ih h => ?_)
  rw [gFd_ap, gFd_ap, ih (fun m hm => h m (List.mem_append_left _ hm))]
  unfold gSp
  rw [h a (by simp)]
theorem gFd_m {how : Nat} {V : Nat → Nat} : ∀ l : List Nat, ∀ b m, gFd how V l = some (b, m) → m ∈ l ∧ b = gBe how (V m) ∧ 0 < b := by
  refine snoc_ind (fun b m h => by simp [gFd] at h) (fun l a ih b m h => ?_)
  rw [gFd_ap] at h
  unfold gSp at h
  by_cases q : gBt how (gFd how V l) (gBe how (V a)) = true
  · rw [if_pos q] at h
    simp only [Option.some.injEq, Prod.mk.injEq] at h
    obtain ⟨rfl, rfl⟩ := h
    refine ⟨by simp, rfl, ?_⟩
    unfold gBt at q
    cases hf : gFd how V l with
    | none => rw [hf] at q; exact of_decide_eq_true q
    | some p =>
      have := ih p.1 p.2 hf
      rw [hf] at q
      dsimp only at q
      unfold gBe at q ⊢
      split at q
      next h2 => rw [if_neg (by omega)]; omega
      next h2 => have := of_decide_eq_true q; omega
  · rw [if_neg q] at h
    obtain ⟨h1, h2⟩ := ih b m h
    exact ⟨List.mem_append_left _ h1, h2⟩
/-- the first that is as good -/
theorem gFd_f {how : Nat} {V : Nat → Nat} : ∀ l : List Nat, (∀ b m, gFd how V l = some (b, m) → l.find? (fun k => gBe how (V k) == b) = some m ∧ (how ≠ 2 → ∀ k, k ∈ l → gBe how (V k) ≤ b) ∧ (how = 2 → ∀ k, k ∈ l → b ≤ gBe how (V k))) ∧ (gFd how V l = none → ∀ k, k ∈ l → gBe how (V k) = 0) := by
  refine snoc_ind ⟨fun b m h => by simp [gFd] at h, fun _ k hk => by simp at hk⟩ (fun l a ih => ?_)
  obtain ⟨ih1, ih2⟩ := ih
  rw [gFd_ap]
  unfold gSp
  by_cases q : gBt how (gFd how V l) (gBe how (V a)) = true
  · rw [if_pos q]
    refine ⟨fun b m h => ?_, fun h => by simp at h⟩
    simp only [Option.some.injEq, Prod.mk.injEq] at h
    obtain ⟨rfl, rfl⟩ := h
    unfold gBt at q
    cases hf : gFd how V l with
    | none =>
      have hz := ih2 hf
      rw [hf] at q
      have hp := of_decide_eq_true q
      refine ⟨?_, fun _ k hk => ?_, fun h2 k hk => ?_⟩
      · rw [List.find?_append, List.find?_eq_none.2 (fun k hk => by rw [hz k hk]; simp; omega)]; simp
      · rw [List.mem_append] at hk
        rcases hk with hk | hk
        · rw [hz k hk]; exact Nat.zero_le _
        · simp at hk; subst hk; exact Nat.le_refl _
      · rw [List.mem_append] at hk
        rcases hk with hk | hk
        · have := hz k hk
          unfold gBe at this
          rw [if_neg (by omega)] at this
          omega
        · simp at hk; subst hk; exact Nat.le_refl _
    | some p =>
      obtain ⟨i1, i2, i3⟩ := ih1 p.1 p.2 hf
      rw [hf] at q
      dsimp only at q
      by_cases h2 : how = 2
      · rw [if_pos h2] at q
        have hp := of_decide_eq_true q
        refine ⟨?_, fun h => absurd h2 h, fun _ k hk => ?_⟩
        · rw [List.find?_append, List.find?_eq_none.2 (fun k hk => by have := i3 h2 k hk; simp; omega)]; simp
        · rw [List.mem_append] at hk
          rcases hk with hk | hk
          · have := i3 h2 k hk; omega
          · simp at hk; subst hk; exact Nat.le_refl _
      · rw [if_neg h2] at q
        have hp := of_decide_eq_true q
        refine ⟨?_, fun _ k hk => ?_, fun h => absurd h h2⟩
        · rw [List.find?_append, List.find?_eq_none.2 (fun k hk => by have := i2 h2 k hk; simp; omega)]; simp
        · rw [List.mem_append] at hk
          rcases hk with hk | hk
          · have := i2 h2 k hk; omega
          · simp at hk; subst hk; exact Nat.le_refl _
  · rw [if_neg q]
    refine ⟨fun b m h => ?_, fun h k hk => ?_⟩
    · obtain ⟨i1, i2, i3⟩ := ih1 b m h
      unfold gBt at q
      rw [h] at q
      dsimp only at q
      refine ⟨by rw [List.find?_append, i1]; rfl, fun h2 k hk => ?_, fun h2 k hk => ?_⟩
      · rw [List.mem_append] at hk
        rcases hk with hk | hk
        · exact i2 h2 k hk
        · simp at hk; subst hk
          rw [if_neg h2, decide_eq_true_eq] at q
          omega
      · rw [List.mem_append] at hk
        rcases hk with hk | hk
        · exact i3 h2 k hk
        · simp at hk; subst hk
          rw [if_pos h2, decide_eq_true_eq] at q
          omega
    · rw [List.mem_append] at hk
      rcases hk with hk | hk
      · exact ih2 h k hk
      · simp at hk; subst hk
        unfold gBt at q
        rw [h] at q
        dsimp only at q
        rw [decide_eq_true_eq] at q
        omega
def gVal (how : Nat) (φ : Bool) (t0 t1 : Int32) : Nat → zN → Option (Nat × Nat)
  | 0, _ => none
  | f + 1, x => gFd how (fun m => gv (gVal how φ t0 t1 f (gNx x m))) ((List.range 480).filter (gSf φ t0 t1 x))
def gW (how : Nat) (φ : Bool) (t0 t1 : Int32) (x : zN) : Option (Nat × Nat) := gVal how φ t0 t1 (49 - gMu x) x
theorem gW_e {how : Nat} {φ : Bool} {t0 t1 : Int32} {x : zN} (o : nOk x) : gW how φ t0 t1 x = gFd how (fun m => gv (gW how φ t0 t1 (gNx x m))) ((List.range 480).filter (gSf φ t0 t1 x)) := by
  have hm := gMu_le o
  unfold gW
  rw [show 49 - gMu x = (48 - gMu x) + 1 by omega, gVal]
  refine gFd_c _ (fun m hm => ?_)
  rw [List.mem_filter] at hm
  rw [gMu_nx o hm.2, show 49 - (gMu x + 1) = 48 - gMu x by omega]
theorem gVal_le {how : Nat} {φ : Bool} {t0 t1 : Int32} : ∀ (f : Nat) (x : zN), gv (gVal how φ t0 t1 f x) ≤ f
  | 0, x => Nat.le_refl _
  | f + 1, x => by
    rw [gVal]
    cases h : gFd how (fun m => gv (gVal how φ t0 t1 f (gNx x m))) ((List.range 480).filter (gSf φ t0 t1 x)) with
    | none => exact Nat.zero_le _
    | some p =>
      obtain ⟨-, h2, -⟩ := gFd_m _ p.1 p.2 h
      show p.1 ≤ f + 1
      rw [h2]
      have := gVal_le (how := how) (φ := φ) (t0 := t0) (t1 := t1) f (gNx x p.2)
      unfold gBe
      split <;> omega
theorem gW_le {how : Nat} {φ : Bool} {t0 t1 : Int32} {x : zN} : gv (gW how φ t0 t1 x) ≤ 49 := Nat.le_trans (gVal_le _ _) (by omega)
theorem gW_mv {how : Nat} {φ : Bool} {t0 t1 : Int32} {x : zN} {b m : Nat} (o : nOk x) (h : gW how φ t0 t1 x = some (b, m)) : gSf φ t0 t1 x m = true ∧ m < 480 ∧ b = gBe how (gv (gW how φ t0 t1 (gNx x m))) ∧ 0 < b := by
  rw [gW_e o] at h
  obtain ⟨h1, h2, h3⟩ := gFd_m _ b m h
  rw [List.mem_filter, List.mem_range] at h1
  exact ⟨h1.2, h1.1, h2, h3⟩
/-- an edge leads to a later tower -/
theorem edge_t {φ : Bool} {t0 t1 : Int32} {r : zN} {d i mv t : Nat} {s : gS} {e : gE} (J : gJ r d s) (hi : s.1[i]? = some e) (hs : gSf φ t0 t1 e.1 mv = true) (ht : gLk s.1 (gNx e.1 mv) = some t) : ∃ e' : gE, s.1[t]? = some e' ∧ e'.1 = gNx e.1 mv ∧ e'.2.2.2 = e.2.2.2 + 1 ∧ i < t ∧ t < s.1.length := by
  obtain ⟨e', he', hk⟩ := gLk_s ht
  have o := J.nod i e hi
  have o' := J.nod t e' he'
  have hx := nOk_e o'.1 (gNx_ok o.1 hs) hk
  have hm := gMu_nx o.1 hs
  rw [← hx] at hm
  have h1 := o.2
  have h2 := o'.2
  refine ⟨e', he', hx, by omega, ?_, ge_lt he'⟩
  rcases Nat.lt_or_ge i t with q | q
  · exact q
  · have := J.srt t i e' e q he' hi
    omega
