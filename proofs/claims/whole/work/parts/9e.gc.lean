/-! ===== games: tables with open slots ===== -/
def cnT (T : Nat → Option Nat) : Nat → Nat
  | 0 => 0
  | n + 1 => cnT T n + (if T n = none then 0 else 1)
theorem cnT_all {T : Nat → Option Nat} : ∀ {n : Nat}, (∀ s, s < n → T s ≠ none) → cnT T n = n
  | 0, _ => rfl
  | n + 1, h => by rw [cnT, cnT_all (fun s q => h s (by omega)), if_neg (h n (by omega))]
def upT (T : Nat → Option Nat) (s k : Nat) : Nat → Option Nat := fun j => if j = s then some k else T j
theorem cnT_up {T : Nat → Option Nat} {s k : Nat} (h : T s = none) : ∀ {n : Nat}, cnT (upT T s k) n = cnT T n + (if s < n then 1 else 0)
  | 0 => rfl
  | n + 1 => by
    rw [cnT, cnT, cnT_up h]
    unfold upT
    by_cases q : n = s
    · subst q
      rw [if_pos rfl, h, if_neg (by omega), if_neg (by simp), if_pos rfl, if_pos (by omega)]
    · rw [if_neg q]
      by_cases z : s < n
      · rw [if_pos z, if_pos (show s < n + 1 by omega)]; omega
      · rw [if_neg z, if_neg (show ¬ s < n + 1 by omega)]; omega
/-- a table of M slots that holds 0 to len - 1, each on the way from its place -/
def pIn (M : Nat) (T : Nat → Option Nat) (hs : Nat → Nat) (len : Nat) : Prop :=
  (∀ s k, s < M → T s = some k → k < len) ∧ (∀ k, k < len → ∃ d, d < M ∧ T ((hs k + d) % M) = some k ∧ ∀ d', d' < d → T ((hs k + d') % M) ≠ none) ∧ cnT T M = len
theorem leastP {Q : Nat → Prop} : ∀ n, Q n → ∃ d, d ≤ n ∧ Q d ∧ ∀ d', d' < d → ¬ Q d' := by
  intro n
  induction n using Nat.strongRecOn with
  | _ n ih =>
    intro h
    by_cases q : ∃ k, k < n ∧ Q k
    · obtain ⟨k, hk, hq⟩ := q
      obtain ⟨d, a, b, c⟩ := ih k hk hq
      exact ⟨d, by omega, b, c⟩
    · exact ⟨n, Nat.le_refl _, h, fun d' hd z => q ⟨d', hd, z⟩⟩
/-- the way from h: where it comes to an open slot, or to one that fits -/
theorem pLk {M len h : Nat} {T : Nat → Option Nat} {hs : Nat → Nat} {mt : Nat → Prop} (P : pIn M T hs len) (hl : len < M) (hh : ∀ k, k < len → mt k → hs k = h) :
    ∃ d, d < M ∧ (∀ d', d' < d → ∃ k, k < len ∧ T ((h + d') % M) = some k ∧ ¬ mt k) ∧ ((T ((h + d) % M) = none ∧ ∀ k, k < len → ¬ mt k) ∨ ∃ k, k < len ∧ T ((h + d) % M) = some k ∧ mt k) := by
  obtain ⟨P1, P2, P3⟩ := P
  have hM : 0 < M := by omega
  have ex : ∃ e, e < M ∧ T e = none := by
    refine Classical.byContradiction fun q => ?_
    have := cnT_all (T := T) (n := M) (fun s hs z => q ⟨s, hs, z⟩)
    omega
  obtain ⟨e, he, hT⟩ := ex
  have hmod : (h + (e + (M - h % M)) % M) % M = e := by
    have h1 := Nat.mod_lt h hM
    rw [Nat.add_mod_mod]
    have h2 := Nat.div_add_mod h M
    have : h + (e + (M - h % M)) = e + M * (h / M + 1) := by rw [Nat.mul_add]; omega
    rw [this, Nat.add_mul_mod_self_left, Nat.mod_eq_of_lt he]
  obtain ⟨d, hd, hQ, hm⟩ := leastP (Q := fun d => T ((h + d) % M) = none ∨ ∃ k, k < len ∧ T ((h + d) % M) = some k ∧ mt k) ((e + (M - h % M)) % M) (Or.inl (by rw [hmod]; exact hT))
  have hdM : d < M := Nat.lt_of_le_of_lt hd (Nat.mod_lt _ hM)
  refine ⟨d, hdM, fun d' hd' => ?_, ?_⟩
  · cases hk : T ((h + d') % M) with
    | none => exact absurd (Or.inl hk) (hm d' hd')
    | some k => exact ⟨k, P1 _ k (Nat.mod_lt _ hM) hk, rfl, fun z => hm d' hd' (Or.inr ⟨k, P1 _ k (Nat.mod_lt _ hM) hk, hk, z⟩)⟩
  · rcases hQ with hQ | hQ
    · refine Or.inl ⟨hQ, fun k hk z => ?_⟩
      obtain ⟨dk, a, b, c⟩ := P2 k hk
      rw [hh k hk z] at b c
      rcases Nat.lt_trichotomy d dk with y | y | y
      · exact c d y hQ
      · subst y; rw [hQ] at b; simp at b
      · exact hm dk y (Or.inr ⟨k, hk, b, z⟩)
    · exact Or.inr hQ
/-- a new one comes into the open slot -/
theorem pIn.put {M len d h : Nat} {T : Nat → Option Nat} {hs : Nat → Nat} (P : pIn M T hs len) (hd : d < M) (hT : T ((h + d) % M) = none) (hw : ∀ d', d' < d → T ((h + d') % M) ≠ none) : pIn M (upT T ((h + d) % M) len) (fun k => if k = len then h else hs k) (len + 1) := by
  obtain ⟨P1, P2, P3⟩ := P
  have hM : 0 < M := by omega
  have keep : ∀ s, T s ≠ none → upT T ((h + d) % M) len s = T s := fun s q => by
    unfold upT
    rw [if_neg]
    intro z; rw [z] at q; exact q hT
  refine ⟨fun s k hs hk => ?_, fun k hk => ?_, ?_⟩
  · unfold upT at hk
    by_cases q : s = (h + d) % M
    · rw [if_pos q] at hk; simp at hk; omega
    · rw [if_neg q] at hk; have := P1 s k hs hk; omega
  · by_cases q : k = len
    · subst q
      have e : (fun j => if j = k then h else hs j) k = h := if_pos rfl
      refine ⟨d, hd, ?_, fun d' hd' => ?_⟩
      · rw [e]; unfold upT; rw [if_pos rfl]
      · rw [e, keep _ (hw d' hd')]; exact hw d' hd'
    · obtain ⟨dk, a, b, c⟩ := P2 k (by omega)
      have e : (fun j => if j = len then h else hs j) k = hs k := if_neg q
      refine ⟨dk, a, ?_, fun d' hd' => ?_⟩
      · rw [e, keep _ (by rw [b]; simp)]; exact b
      · rw [e, keep _ (c d' hd')]; exact c d' hd'
  · rw [cnT_up hT, if_pos (Nat.mod_lt _ hM), P3]
theorem pIn.nil {M : Nat} {hs : Nat → Nat} : pIn M (fun _ => none) hs 0 := by
  refine ⟨fun s k _ h => by simp at h, fun k h => by omega, ?_⟩
  have : ∀ n, cnT (fun _ => none) n = 0 := fun n => by
    induction n with
    | zero => rfl
    | succ n ih => rw [cnT, ih]; rfl
  exact this M
theorem pIn.cg {M len : Nat} {T : Nat → Option Nat} {hs hs' : Nat → Nat} (P : pIn M T hs len) (h : ∀ k, k < len → hs' k = hs k) : pIn M T hs' len :=
  ⟨P.1, fun k hk => by rw [h k hk]; exact P.2.1 k hk, P.2.2⟩
