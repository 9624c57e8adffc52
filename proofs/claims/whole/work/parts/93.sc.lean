/-! ===== rule(): what the reference finds, said of the class ===== -/
def lvO (c : Int32) : Nat := if c = 3000 then 4 else if c = 2042 ∨ c = 2047 then 3 else if c = 2043 ∨ c = 2045 then 2 else 1
theorem lvO_e (c : Int32) : lev c = yN (lvO c) := by
  unfold lev lvO
  split
  · rfl
  · split
    · rfl
    · split <;> rfl
theorem lvO_le (c : Int32) : 1 ≤ lvO c ∧ lvO c ≤ 4 := by
  unfold lvO
  split
  · omega
  · split
    · omega
    · split <;> omega
def tOkL (q : Nat) (T : List Int32) : Prop := ∀ c, c ∈ T → c ≠ 4000 ∧ q ≤ lvO c
theorem popL_T {q : Nat} (hq : q ≤ 4) {S : List Int32} : ∀ {T : List Int32}, tOkL q T → popL (yN q) (T ++ S) = (T ++ (popL (yN q) S).1, (popL (yN q) S).2)
  | [], _ => rfl
  | c :: r, h => by
    have hc := h c (by simp)
    have ih := popL_T hq (S := S) (T := r) (fun d k => h d (by simp [k]))
    have := lvO_le c
    rw [List.cons_append, popL, if_neg hc.1, lvO_e, if_pos (by rw [yN_le (by omega) (by omega)]; exact hc.2), ih]; rfl
/-- from i in s the class comes to j in s' -/
def uTo (f : Nat → Nat) (i : Nat) (s : uS) (j : Nat) (s' : uS) : Prop := i ≤ j ∧ ∀ M, j ≤ M → uR f (M - i) i s = uR f (M - j) j s'
theorem uTo.rf {f : Nat → Nat} {i : Nat} {s : uS} : uTo f i s i s := ⟨Nat.le_refl _, fun _ _ => rfl⟩
theorem uTo.tr {f : Nat → Nat} {i j k : Nat} {s s' s'' : uS} (h : uTo f i s j s') (g : uTo f j s' k s'') : uTo f i s k s'' :=
  ⟨Nat.le_trans h.1 g.1, fun M hM => (h.2 M (Nat.le_trans g.1 hM)).trans (g.2 M hM)⟩
theorem uTo.st {f : Nat → Nat} {i : Nat} {s s' : uS} (h : uX s (f i) = some s') : uTo f i s (i + 1) s' :=
  ⟨Nat.le_succ _, fun M hM => by rw [show M - i = (M - (i + 1)) + 1 by omega, uR, h]⟩
def uV (N : Nat) (r : Option Nat × uS) : Option Nat := match r.1 with
  | some e => some e
  | none => if r.2.2.2.2.2.2 = false ∧ r.2.2.2.1 = 0 then none else some N
theorem uTo.v {f : Nat → Nat} {i j N : Nat} {s s' : uS} {o : Option Nat} (h : uTo f i s j s') (hj : j ≤ N) (v : uV N (uR f (N - j) j s') = o) : uV N (uR f (N - i) i s) = o := by rw [h.2 N hj]; exact v
theorem uV_x {f : Nat → Nat} {i N : Nat} {s : uS} (hi : i < N) (h : uX s (f i) = none) : uV N (uR f (N - i) i s) = some i := by
  rw [show N - i = (N - (i + 1)) + 1 by omega, uR, h]; rfl
theorem uV_n {f : Nat → Nat} {N : Nat} {s : uS} (h : ¬ (s.2.2.2.2.2 = false ∧ s.2.2.1 = 0)) : uV N (uR f (N - N) N s) = some N := by
  rw [Nat.sub_self, uR]; exact if_neg h
/-- what may stand behind -/
def nxC (f : Nat → Nat) (N p j d : Nat) (cmp : Nat → Bool) (dg : Nat) : Prop := j < N → (dig (f j) = true → dg = 0 ∨ 3 ≤ dg) ∧ (opk (f j) = true → lvO (2000 + yN (f j)) ≤ p ∨ (p = 0 ∧ lvO (2000 + yN (f j)) = 1 ∧ cmp d = true))
def rUp (V : List Int32) : Prop := ∀ r k, rDp (V ++ r) k = rDp r (k + 1)
def rKp (V : List Int32) : Prop := ∀ r k, rDp (V ++ r) (k + 1) = rDp r (k + 1)
def pre (p d : Nat) (S : List Int32) (cmp : Nat → Bool) : Prop := d ≤ 4 ∧ (p < 3 → popL (yN (p + 1)) S = ([], S)) ∧ (p = 0 → cmp d = false)
/-- the reference reads an expression of level p (3: a factor) from i to j and gives out V -/
def gL (f : Nat → Nat) (N p i d : Nat) (ok : Bool) (j : Nat) (V : List Int32) : Prop := i ≤ j ∧ j ≤ N ∧ V.length + i ≤ j ∧
  (ok = true → rUp V ∧ ∀ O S cmp dg, pre p d S cmp → ∃ X T cmp' dg', uTo f i (O, S, d, cmp, dg, true) j (O ++ X, T ++ S, d, cmp', dg', false) ∧ X ++ T = V.map rCv ∧ tOkL (p + 1) T ∧ (∀ e, e < d ∨ (e = d ∧ 0 < p) → cmp' e = cmp e) ∧ nxC f N p j d cmp' dg') ∧
  (ok = false → ∀ O S cmp dg, pre p d S cmp → uV N (uR f (N - i) i (O, S, d, cmp, dg, true)) = some j)
/-- it goes on with operators of level p from j to k -/
def gO (f : Nat → Nat) (N p : Nat) (go : Bool) (j d : Nat) (ok : Bool) (k : Nat) (W : List Int32) : Prop := j ≤ k ∧ k ≤ N ∧ W.length + j ≤ k ∧
  (ok = true → rKp W ∧ ∀ O T S cmp dg, d ≤ 4 → popL (yN (p + 1)) S = ([], S) → (p = 0 → cmp d = !go) → tOkL (p + 1) T → nxC f N (p + 1) j d cmp dg → ∃ X T' cmp' dg', uTo f j (O, T ++ S, d, cmp, dg, false) k (O ++ X, T' ++ S, d, cmp', dg', false) ∧ X ++ T' = T ++ W.map rCv ∧ tOkL (p + 1) T' ∧ (∀ e, e < d ∨ (e = d ∧ 0 < p) → cmp' e = cmp e) ∧ nxC f N p k d cmp' dg') ∧
  (ok = false → ∀ O T S cmp dg, d ≤ 4 → popL (yN (p + 1)) S = ([], S) → (p = 0 → cmp d = !go) → tOkL (p + 1) T → nxC f N (p + 1) j d cmp dg → uV N (uR f (N - j) j (O, T ++ S, d, cmp, dg, false)) = some k)
theorem ixT : ∀ k : Fin 256, 0 ≤ xIx (xTxt.getD 0 []) (yN k.val) → xIx (xTxt.getD 0 []) (yN k.val) = yN (xIx (xTxt.getD 0 []) (yN k.val)).toNatClampNeg ∧ (xIx (xTxt.getD 0 []) (yN k.val)).toNatClampNeg < 10 := by decide +kernel
theorem ixU : ∀ x : Fin 10, ¬ (1000 + yN x.val = 3000) ∧ ¬ (2000 ≤ 1000 + yN x.val) ∧ (0 ≤ 1000 + yN x.val ∧ 1000 + yN x.val < 1010) := by decide +kernel
theorem opl3 : ∀ k : Fin 256, lvO (2000 + yN k.val) ≤ 3 := by decide +kernel
theorem num3 : ∀ x : Fin 1000, ¬ (yN x.val = 3000) ∧ ¬ (2000 ≤ yN x.val) ∧ (0 ≤ yN x.val ∧ yN x.val < 1010) := by decide +kernel
/-- operators of the reference's level p -/
def opx (p k : Nat) : Int32 := xIx (xTxt.getD (16 + p) []) (yN k)
def opR (p k : Nat) : Int32 := (2000 + opx p k) + (if p = 0 then 0 else if p = 1 then 3 else 5)
theorem opx_f : ∀ (p : Fin 3) (k : Fin 256), (0 ≤ opx p.val k.val → opk k.val = true ∧ dig k.val = false ∧ k.val ≠ 41 ∧ lvO (2000 + yN k.val) = p.val + 1 ∧ rCv (opR p.val k.val) = 2000 + yN k.val ∧ opR p.val k.val ≠ 3000 ∧ 2000 ≤ opR p.val k.val ∧ opR p.val k.val ≤ 2006 ∧ 2000 + yN k.val ≠ 4000) ∧ (¬ 0 ≤ opx p.val k.val → opk k.val = true → lvO (2000 + yN k.val) ≠ p.val + 1) := by decide +kernel
/-- at most k digits more -/
def rDg (f : Nat → Nat) (N : Nat) : Nat → Nat → Nat → Nat × Nat
  | 0, i, v => (v, i)
  | k + 1, i, v => if i < N ∧ dig (f i) = true then rDg f N k (i + 1) (10 * v + (f i - 48)) else (v, i)
section SC
variable {f : Nat → Nat} {N : Nat}
theorem gL_minus {i d j : Nat} {ok : Bool} {V : List Int32} (hi : i < N) (h : f i = 45) (g : gL f N 3 (i + 1) d ok j V) : gL f N 3 i d ok j (V ++ [3000]) := by
  obtain ⟨g1, g2, g3, g4, g5⟩ := g
  have st : ∀ O S cmp dg, uTo f i (O, S, d, cmp, dg, true) (i + 1) (O, 3000 :: S, d, cmp, dg, true) := fun O S cmp dg => uTo.st (by unfold uX uF; rw [if_pos rfl, if_pos h])
  refine ⟨by omega, g2, by rw [List.length_append]; simp; omega, fun q => ⟨fun r k => ?_, fun O S cmp dg hp => ?_⟩, fun q O S cmp dg hp => ?_⟩
  · rw [List.append_assoc, (g4 q).1]
    show (if (3000 : Int32) = 3000 then (if 1 ≤ k + 1 then rDp r (k + 1) else none) else _) = _
    rw [if_pos rfl, if_pos (by omega)]
  · obtain ⟨X, T, cmp', dg', a, b, c, e, n⟩ := (g4 q).2 O (3000 :: S) cmp dg ⟨hp.1, fun q => by omega, fun q => by omega⟩
    refine ⟨X, T ++ [3000], cmp', dg', ?_, ?_, ?_, e, n⟩
    · rw [List.append_assoc]; exact (st O S cmp dg).tr a
    · rw [← List.append_assoc, b, List.map_append]; rfl
    · intro x hx
      rw [List.mem_append] at hx
      rcases hx with hx | hx
      · exact c x hx
      · simp at hx; subst hx; exact ⟨by decide, by decide⟩
  · exact (st O S cmp dg).v (by omega) (g5 q O (3000 :: S) cmp dg ⟨hp.1, fun q => by omega, fun q => by omega⟩)
theorem gL_let {i d : Nat} (hf : ∀ i, i < N → f i < 256) (hi : i < N) (h1 : f i ≠ 45) (h2 : dig (f i) = false) (h3 : 0 ≤ xIx (xTxt.getD 0 []) (yN (f i))) : gL f N 3 i d true (i + 1) [1000 + xIx (xTxt.getD 0 []) (yN (f i))] := by
  have hk := hf i hi
  have h40 : f i ≠ 40 := fun q => by
    have := (ix45 ⟨_, hk⟩).2.2 q
    exact absurd h3 (of_decide_eq_false this.2)
  obtain ⟨x, hx, hxe⟩ : ∃ x, x < 10 ∧ xIx (xTxt.getD 0 []) (yN (f i)) = yN x := ⟨_, (ixT ⟨_, hk⟩ h3).2, (ixT ⟨_, hk⟩ h3).1⟩
  refine ⟨by omega, by omega, by simp; omega, fun _ => ⟨fun r k => ?_, fun O S cmp dg hp => ?_⟩, fun q => by simp at q⟩
  · rw [hxe]
    obtain ⟨a1, a2, a3⟩ := ixU ⟨x, hx⟩
    show (if 1000 + yN x = 3000 then _ else if 2000 ≤ 1000 + yN x then _ else if 0 ≤ 1000 + yN x ∧ 1000 + yN x < 1010 then rDp r (k + 1) else none) = _
    rw [if_neg a1, if_neg a2, if_pos a3]
  · refine ⟨[1000 + xIx (xTxt.getD 0 []) (yN (f i))], [], cmp, 0, uTo.st ?_, ?_, fun c q => by simp at q, fun _ _ => rfl, fun z => ⟨fun _ => Or.inl rfl, fun _ => Or.inl (opl3 ⟨_, hf _ z⟩)⟩⟩
    · unfold uX uF
      rw [if_pos rfl, if_neg h1, if_neg h40, if_neg (by rw [h2]; decide), if_pos h3]; rfl
    · rw [hxe]
      show [1000 + yN x] ++ [] = [rCv (1000 + yN x)]
      rw [rCv_1 (ixU ⟨x, hx⟩).2.1]; rfl
theorem rDg_u {d : Nat} {S : List Int32} {cmp : Nat → Bool} {O : List Int32} : ∀ (k i v dg : Nat), dg + k = 3 → 1 ≤ dg → i ≤ N → (v + 1) * 10 ^ k ≤ 1000 → (∀ i, i < N → f i < 256) →
    ∃ dg', uTo f i (O ++ [yN v], S, d, cmp, dg, false) (rDg f N k i v).2 (O ++ [yN (rDg f N k i v).1], S, d, cmp, dg', false) ∧ (rDg f N k i v).2 ≤ N ∧ (rDg f N k i v).1 < 1000 ∧ ((rDg f N k i v).2 < N → dig (f (rDg f N k i v).2) = true → dg' = 0 ∨ 3 ≤ dg') := by
  intro k
  induction k with
  | zero =>
    intro i v dg h1 h2 h3 h4 hf
    rw [rDg]
    exact ⟨dg, uTo.rf, h3, by simp at h4; omega, fun _ _ => Or.inr (by omega)⟩
  | succ k ih =>
    intro i v dg h1 h2 h3 h4 hf
    rw [rDg]
    by_cases q : i < N ∧ dig (f i) = true
    · rw [if_pos q]
      have hd := of_decide_eq_true q.2
      have hb : (10 * v + (f i - 48) + 1) * 10 ^ k ≤ 1000 := by
        refine Nat.le_trans (Nat.mul_le_mul_right _ (show 10 * v + (f i - 48) + 1 ≤ 10 * (v + 1) by omega)) ?_
        rw [Nat.mul_comm 10, Nat.mul_assoc, ← Nat.pow_succ']; exact h4
      have hv : v < 1000 := by
        have : 0 < 10 ^ (k + 1) := Nat.pow_pos (by omega)
        have := Nat.le_mul_of_pos_right (v + 1) this
        omega
      obtain ⟨dg', a, b, c, e⟩ := ih (i + 1) (10 * v + (f i - 48)) (dg + 1) (by omega) (by omega) (by omega) hb hf
      refine ⟨dg', (uTo.st ?_).tr a, b, c, e⟩
      unfold uX uG
      dsimp only
      rw [if_neg (show ¬ (false = true) by decide), if_pos ⟨q.2, h2, by omega⟩]
      have e1 : (10 * (O ++ [yN v]).getLastD 0) + yN (f i) - 48 = yN (10 * v + (f i - 48)) := by
        have : (O ++ [yN v]).getLastD 0 = yN v := by simp
        rw [this, yN_lmul, yN_add, yN_subl (by omega)]
        congr 1; omega
      rw [e1]
      simp
    · rw [if_neg q]
      refine ⟨dg, uTo.rf, h3, ?_, fun z y => absurd ⟨z, y⟩ q⟩
      have : 0 < 10 ^ (k + 1) := Nat.pow_pos (by omega)
      have := Nat.le_mul_of_pos_right (v + 1) this
      omega
theorem rDg_le : ∀ (k i v : Nat), i ≤ (rDg f N k i v).2
  | 0, i, v => Nat.le_refl _
  | k + 1, i, v => by
    rw [rDg]
    split
    · exact Nat.le_trans (Nat.le_succ _) (rDg_le k (i + 1) _)
    · exact Nat.le_refl _
theorem gL_num {i d : Nat} (hf : ∀ i, i < N → f i < 256) (hi : i < N) (h2 : dig (f i) = true) : gL f N 3 i d true (rDg f N 3 i 0).2 [yN (rDg f N 3 i 0).1] := by
  have hd := of_decide_eq_true h2
  have e : rDg f N 3 i 0 = rDg f N 2 (i + 1) (f i - 48) := by
    rw [show (3 : Nat) = 2 + 1 from rfl, rDg, if_pos ⟨hi, h2⟩]; congr 1; omega
  rw [e]
  have hle := rDg_le (f := f) (N := N) 2 (i + 1) (f i - 48)
  have key := fun O S cmp => rDg_u (f := f) (N := N) (d := d) (S := S) (cmp := cmp) (O := O) 2 (i + 1) (f i - 48) 1 (by omega) (by omega) (by omega) (by omega) hf
  obtain ⟨-, -, hN, hv, -⟩ := key [] [] (fun _ => false)
  refine ⟨by omega, hN, by simp; omega, fun _ => ⟨fun r k => ?_, fun O S cmp dg hp => ?_⟩, fun q => by simp at q⟩
  · obtain ⟨a1, a2, a3⟩ := num3 ⟨_, hv⟩
    show (if yN (rDg f N 2 (i + 1) (f i - 48)).1 = 3000 then _ else if 2000 ≤ yN (rDg f N 2 (i + 1) (f i - 48)).1 then _ else if 0 ≤ yN (rDg f N 2 (i + 1) (f i - 48)).1 ∧ yN (rDg f N 2 (i + 1) (f i - 48)).1 < 1010 then rDp r (k + 1) else none) = _
    rw [if_neg a1, if_neg a2, if_pos a3]
  · obtain ⟨dg', a, b, c, e'⟩ := key O S cmp
    refine ⟨[yN (rDg f N 2 (i + 1) (f i - 48)).1], [], cmp, dg', (uTo.st ?_).tr a, ?_, fun c q => by simp at q, fun _ _ => rfl, fun z => ⟨e' z, fun _ => Or.inl (opl3 ⟨_, hf _ z⟩)⟩⟩
    · unfold uX uF
      rw [if_pos rfl, if_neg (by omega), if_neg (by omega), if_pos h2]
    · show [yN _] ++ [] = [rCv (yN _)]
      rw [rCv_1 (num3 ⟨_, hv⟩).2.1]; rfl
theorem gL_bad {i d : Nat} (hi : i ≤ N) (h : i < N → f i ≠ 45 ∧ dig (f i) = false ∧ ¬ 0 ≤ xIx (xTxt.getD 0 []) (yN (f i)) ∧ (d = 4 ∨ f i ≠ 40)) : gL f N 3 i d false i [] := by
  refine ⟨Nat.le_refl _, hi, by simp, fun q => by simp at q, fun _ O S cmp dg hp => ?_⟩
  by_cases z : i < N
  · obtain ⟨h1, h2, h3, h4⟩ := h z
    refine uV_x z ?_
    unfold uX uF
    rw [if_pos rfl, if_neg h1]
    by_cases h40 : f i = 40
    · rw [if_pos h40, if_neg (show ¬ d < 4 by rcases h4 with h4 | h4
                                              · omega
                                              · exact absurd h40 h4)]
    · rw [if_neg h40, if_neg (by rw [h2]; decide), if_neg h3]
  · obtain rfl : i = N := by omega
    exact uV_n (fun q => by simp at q)
/-- an opening bracket -/
theorem br_st {i d : Nat} (hi : i < N) (h : f i = 40) (hd : d < 4) (O S : List Int32) (cmp : Nat → Bool) (dg : Nat) : uTo f i (O, S, d, cmp, dg, true) (i + 1) (O, 4000 :: S, d + 1, (fun e => if e = d + 1 then false else cmp e), dg, true) := uTo.st (by unfold uX uF; rw [if_pos rfl, if_neg (by omega), if_pos h, if_pos hd])
theorem br_pre {d : Nat} (hd : d < 4) {S : List Int32} {cmp : Nat → Bool} : pre 0 (d + 1) (4000 :: S) (fun e => if e = d + 1 then false else cmp e) := ⟨by omega, fun _ => by rw [popL, if_pos rfl], fun _ => if_pos rfl⟩
theorem gL_brN {i d j : Nat} {V : List Int32} (hi : i < N) (h : f i = 40) (hd : d < 4) (g : gL f N 0 (i + 1) (d + 1) false j V) : gL f N 3 i d false j V := by
  obtain ⟨g1, g2, g3, g4, g5⟩ := g
  exact ⟨by omega, g2, by omega, fun q => by simp at q, fun _ O S cmp dg hp => (br_st hi h hd O S cmp dg).v (by omega) (g5 rfl _ _ _ _ (br_pre hd))⟩
/-- what stands behind where an operator or a bracket should -/
theorem nx_bad {O S : List Int32} {d dg j : Nat} {cmp : Nat → Bool} (hf : ∀ i, i < N → f i < 256) (hj : j < N) (n : nxC f N 0 j d cmp dg) (h : d = 0 ∨ f j ≠ 41) : uX (O, S, d, cmp, dg, false) (f j) = none := by
  obtain ⟨n1, n2⟩ := n hj
  unfold uX uG uT
  dsimp only
  rw [if_neg (show ¬ (false = true) by decide), if_neg (show ¬ (dig (f j) = true ∧ 1 ≤ dg ∧ dg < 3) by
    intro q
    rcases n1 q.1 with z | z <;> omega)]
  by_cases h41 : f j = 41
  · rw [if_pos h41, if_neg (by rcases h with h | h
                               · show ¬ 0 < d; omega
                               · exact absurd h41 h)]
  · rw [if_neg h41]
    by_cases ho : opk (f j) = true
    · rw [if_pos ho]
      unfold uO
      rcases n2 ho with z | ⟨-, z, y⟩
      · have := lvO_le (2000 + yN (f j)); omega
      · rw [if_pos (show lev (2000 + yN (f j)) = 1 by rw [lvO_e, z]; rfl), if_pos y]
    · rw [if_neg ho]
theorem gL_brC {i d j : Nat} {V : List Int32} (hf : ∀ i, i < N → f i < 256) (hi : i < N) (h : f i = 40) (hd : d < 4) (g : gL f N 0 (i + 1) (d + 1) true j V) (h41 : j < N → f j ≠ 41) : gL f N 3 i d false j V := by
  obtain ⟨g1, g2, g3, g4, g5⟩ := g
  refine ⟨by omega, g2, by omega, fun q => by simp at q, fun _ O S cmp dg hp => ?_⟩
  obtain ⟨X, T, cmp', dg', a, b, c, e, n⟩ := (g4 rfl).2 O (4000 :: S) _ dg (br_pre hd (cmp := cmp))
  refine ((br_st hi h hd O S cmp dg).tr a).v g2 ?_
  by_cases z : j < N
  · exact uV_x z (nx_bad hf z n (Or.inr (h41 z)))
  · obtain rfl : j = N := by omega
    exact uV_n (fun q => by simp at q)
theorem gL_brO {i d j : Nat} {V : List Int32} (hf : ∀ i, i < N → f i < 256) (hi : i < N) (h : f i = 40) (hd : d < 4) (g : gL f N 0 (i + 1) (d + 1) true j V) (hj : j < N) (h41 : f j = 41) : gL f N 3 i d true (j + 1) V := by
  obtain ⟨g1, g2, g3, g4, g5⟩ := g
  refine ⟨by omega, by omega, by omega, fun _ => ⟨(g4 rfl).1, fun O S cmp dg hp => ?_⟩, fun q => by simp at q⟩
  obtain ⟨X, T, cmp', dg', a, b, c, e, n⟩ := (g4 rfl).2 O (4000 :: S) _ dg (br_pre hd (cmp := cmp))
  have st : uTo f j (O ++ X, T ++ 4000 :: S, d + 1, cmp', dg', false) (j + 1) (O ++ (X ++ T), S, d, cmp', 0, false) := by
    refine uTo.st ?_
    unfold uX uG uT
    dsimp only
    rw [if_neg (show ¬ (false = true) by decide), if_neg (show ¬ (dig (f j) = true ∧ 1 ≤ dg' ∧ dg' < 3) by rw [h41]; intro q; exact absurd q.1 (by decide)), if_pos h41, if_pos (show 0 < d + 1 by omega), show (0 : Int32) = yN 0 from rfl, popL_T (by omega) (fun x hx => ⟨(c x hx).1, Nat.zero_le _⟩), popL, if_pos rfl, List.append_nil, List.append_assoc]
    rfl
  refine ⟨X ++ T, [], cmp', 0, ((br_st hi h hd O S cmp dg).tr a).tr st, by rw [List.append_nil]; exact b, fun c q => by simp at q, fun x hx => ?_, fun z => ⟨fun _ => Or.inl rfl, fun _ => Or.inl (opl3 ⟨_, hf _ z⟩)⟩⟩
  rw [e x (by omega)]
  exact if_neg (by omega)
end SC
