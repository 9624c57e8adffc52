/-! ===== play(): the text ===== -/
def dig (k : Nat) : Bool := decide (48 ≤ k ∧ k ≤ 57)
def lmr (k : Nat) : Option Nat := if k = 108 then some 0 else if k = 109 then some 1 else if k = 114 then some 2 else none
def pX : Nat → Nat → Nat → Option (Nat × Nat × Option Nat)
  | 0, _, k => if dig k = true then some (1, k - 48, none) else none
  | 1, v, k => if dig k = true then some (2, 10 * v + (k - 48), none) else (lmr k).map fun j => (3, 3 * v + j, none)
  | 2, v, k => (lmr k).map fun j => (3, 3 * v + j, none)
  | 3, v, k => if k = 62 then some (4, v, none) else none
  | 4, v, k => (lmr k).map fun j => (5, v, some (10 * v + j))
  | _, v, k => if k = 59 then some (0, v, none) else none
/-- what is found from here on: where it goes wrong, in which state it ends, the moves -/
def pS (f : Nat → Nat) : Nat → Nat → Nat → Nat → Option Nat × Nat × List Nat
  | 0, _, st, _ => (none, st, [])
  | d + 1, i, st, v => match pX st v (f i) with
    | none => (some i, st, [])
    | some (st', v', oc) => ((pS f d (i + 1) st' v').1, (pS f d (i + 1) st' v').2.1, oc.toList ++ (pS f d (i + 1) st' v').2.2)
def pE (f : Nat → Nat) (N i st v : Nat) : Option Nat × Nat × List Nat := pS f (N - i) i st v
theorem pE_n {f : Nat → Nat} {N st v : Nat} : pE f N N st v = (none, st, []) := by unfold pE; rw [Nat.sub_self, pS]
theorem pE_lt {f : Nat → Nat} {N i st v : Nat} (h : i < N) : pE f N i st v = match pX st v (f i) with
    | none => (some i, st, [])
    | some (st', v', oc) => ((pE f N (i + 1) st' v').1, (pE f N (i + 1) st' v').2.1, oc.toList ++ (pE f N (i + 1) st' v').2.2) := by
  unfold pE; rw [show N - i = (N - (i + 1)) + 1 by omega, pS]
/-- how great the value can be -/
def pV (st v : Nat) : Prop := st ≤ 5 ∧ (st = 1 → v ≤ 9) ∧ (st = 2 → v ≤ 99) ∧ (3 ≤ st → v ≤ 299)
theorem lmr_le {k j : Nat} (h : lmr k = some j) : j ≤ 2 := by
  unfold lmr at h
  split at h
  · simp at h; omega
  · split at h
    · simp at h; omega
    · split at h
      · simp at h; omega
      · simp at h
theorem pX_v {st v k st' v' : Nat} {oc : Option Nat} (h : pX st v k = some (st', v', oc)) (hv : pV st v) : pV st' v' ∧ (∀ c, oc = some c → c ≤ 2992) := by
  obtain ⟨h5, h1, h2, h3⟩ := hv
  have key : ∀ w, w ≤ 99 → ((lmr k).map fun j => (3, 3 * w + j, (none : Option Nat))) = some (st', v', oc) → pV st' v' ∧ (∀ c, oc = some c → c ≤ 2992) := by
    intro w hw q
    cases hl : lmr k with
    | none => rw [hl] at q; simp at q
    | some j =>
      rw [hl] at q
      simp at q
      obtain ⟨rfl, rfl, rfl⟩ := q
      have := lmr_le hl
      exact ⟨⟨by omega, fun q => by omega, fun q => by omega, fun _ => by omega⟩, fun c q => by simp at q⟩
  have d9 : dig k = true → k - 48 ≤ 9 := fun q => by have := of_decide_eq_true q; omega
  match st, h5, h1, h2, h3, h with
  | 0, _, _, _, _, h =>
    rw [pX] at h
    split at h
    next q =>
      simp at h; obtain ⟨rfl, rfl, rfl⟩ := h
      have := d9 q
      exact ⟨⟨by omega, fun _ => this, fun q => by omega, fun q => by omega⟩, fun c q => by simp at q⟩
    · simp at h
  | 1, _, h1, _, _, h =>
    rw [pX] at h
    split at h
    next q =>
      simp at h; obtain ⟨rfl, rfl, rfl⟩ := h
      have := d9 q
      have := h1 rfl
      exact ⟨⟨by omega, fun q => by omega, fun _ => by omega, fun q => by omega⟩, fun c q => by simp at q⟩
    · exact key v (by have := h1 rfl; omega) h
  | 2, _, _, h2, _, h => rw [pX] at h; exact key v (h2 rfl) h
  | 3, _, _, _, h3, h =>
    rw [pX] at h
    split at h
    · simp at h; obtain ⟨rfl, rfl, rfl⟩ := h
      exact ⟨⟨by omega, fun q => by omega, fun q => by omega, fun _ => h3 (by omega)⟩, fun c q => by simp at q⟩
    · simp at h
  | 4, _, _, _, h3, h =>
    rw [pX] at h
    cases hl : lmr k with
    | none => rw [hl] at h; simp at h
    | some j =>
      rw [hl] at h
      simp at h
      obtain ⟨rfl, rfl, rfl⟩ := h
      have := lmr_le hl
      have := h3 (by omega)
      exact ⟨⟨by omega, fun q => by omega, fun q => by omega, fun _ => this⟩, fun c q => by simp at q; omega⟩
  | 5, _, _, _, h3, h =>
    rw [pX] at h
    · split at h
      · simp at h; obtain ⟨rfl, rfl, rfl⟩ := h
        exact ⟨⟨by omega, fun q => by omega, fun q => by omega, fun q => by omega⟩, fun c q => by simp at q⟩
      · simp at h
    all_goals omega
def ch (C : zC) (i : Nat) : Nat := (C.2 i).toNatClampNeg
theorem ch_e {C : zC} (o : okC C) {i : Nat} (h : i < C.1) : ch C i < 256 ∧ C.2 i = yN (ch C i) := by
  obtain ⟨k, hk, e⟩ := o.2 i h
  have : ch C i = k := by unfold ch; rw [e]; exact yI_cl (by omega)
  rw [this]; exact ⟨hk, e⟩
theorem ix8910 : ∀ k : Fin 256, decide (0 ≤ xIx (xTxt.getD 8 []) (yN k.val)) = decide (k.val = 59) ∧ decide (0 ≤ xIx (xTxt.getD 9 []) (yN k.val)) = decide (k.val = 62) ∧ decide (0 ≤ xIx (xTxt.getD 10 []) (yN k.val)) = (lmr k.val).isSome ∧ xIx (xTxt.getD 10 []) (yN k.val) = (match lmr k.val with | some j => yN j | none => -1) ∧ isD (yN k.val) = dig k.val := by decide +kernel
/-- moves in the class's row -/
def Mc (m : yM) (cs : List Nat) : Prop := m.1 146 1 = yN cs.length ∧ ∀ j c, cs[j]? = some c → m.1 147 j = yN c
def sP6 (x j : Nat) : Prop := (x = 146 ∧ (j = 1 ∨ j = 2)) ∨ x = 147
theorem list_ap {cs : List Nat} {x c j : Nat} (h : (cs ++ [x])[j]? = some c) : (j = cs.length ∧ c = x) ∨ (j < cs.length ∧ cs[j]? = some c) := by
  by_cases hj : j = cs.length
  · subst hj
    rw [List.getElem?_append_right (Nat.le_refl _)] at h
    simp at h
    exact Or.inl ⟨rfl, h.symm⟩
  · have hlt : j < (cs ++ [x]).length := by
      rcases Nat.lt_or_ge j (cs ++ [x]).length with q | q
      · exact q
      · rw [List.getElem?_eq_none q] at h; simp at h
    rw [List.length_append] at hlt
    simp at hlt
    rw [List.getElem?_append_left (by omega)] at h
    exact Or.inr ⟨by omega, h⟩
section PP
variable {κ : yK} {C : zC}
/-- a move is noted -/
theorem s268 {m : yM} {n : Nat} {x : Int32} (h : m.1 146 1 = yN n) (hn : n < 70) : f_268 146 x (yH κ m) = some (yH κ (yW (yW m 146 1 (yN (n + 1))) 147 n x)) := by
  unfold f_268
  rw [yi_146_1, yBs, h, if_neg (by rw [yN_lle (by omega) (by omega)]; omega), yr_146_0, yBs, yBs, yN_addl, yp_146_1, yBs, yst_147 hn, yBs, yBs]
theorem s47 {m : yM} {i st v : Nat} {cs : List Nat} (hT : cTx m C) (oC : okC C) (hi : i < C.1) (hv : pV st v) (h2 : st ≠ 0 → m.1 146 2 = yN v) (hM : Mc m cs) (hl : cs.length < 70) :
    (pX st v (ch C i) = none ∧ f_47 146 1 (yN i) (yN st) (yH κ m) = some (-1, yH κ m)) ∨
    ∃ st' v' oc m', pX st v (ch C i) = some (st', v', oc) ∧ f_47 146 1 (yN i) (yN st) (yH κ m) = some (yN st', yH κ m') ∧ (st' ≠ 0 → m'.1 146 2 = yN v') ∧ Mc m' (cs ++ oc.toList) ∧ yFr sP6 m m' := by
  have hC := oC.1
  obtain ⟨hk, e⟩ := ch_e oC hi
  obtain ⟨x8, x9, x10, xv, xd⟩ := ix8910 ⟨_, hk⟩
  dsimp only at x8 x9 x10 xv xd
  have u := u16 ⟨_, hk⟩
  dsimp only at u
  have e8 : f_77 1 (yN i) (xKb + 10 + 8) (yH κ m) = some (yB (decide (ch C i = 59)), yH κ m) := by rw [s77 (by omega) hT oC hi, e, x8]
  have e9 : f_77 1 (yN i) (xKb + 10 + 9) (yH κ m) = some (yB (decide (ch C i = 62)), yH κ m) := by rw [s77 (by omega) hT oC hi, e, x9]
  have e10 : f_77 1 (yN i) (xKb + 10 + 10) (yH κ m) = some (yB (lmr (ch C i)).isSome, yH κ m) := by rw [s77 (by omega) hT oC hi, e, x10]
  have e76 : f_76 1 (yN i) (yH κ m) = some (yB (dig (ch C i)), yH κ m) := by rw [s76 hT hC hi, e, xd]
  have ea : pAi (yH κ m) 2 (yN i) = some (yN (ch C i)) := by rw [show pAi (yH κ m) 2 (yN i) = _ from ya_2 (by omega), hT.2 i hi, e]
  have fW : ∀ x, yFr sP6 m (yW m 146 2 x) := fun x => yFr.w m (Or.inl ⟨rfl, Or.inr rfl⟩)
  have mW : ∀ x, Mc (yW m 146 2 x) cs := fun x => ⟨by rw [yW_get, if_neg (by omega)]; exact hM.1, fun j c q => by rw [yW_row (by omega)]; exact hM.2 j c q⟩
  have w2 : ∀ x, (yW m 146 2 x).1 146 2 = x := fun x => by rw [yW_self, upd_eq]
  have ix : ∀ j, lmr (ch C i) = some j → (pIx (xKb + 10 + 10) (((yN (ch C i)).toUInt32 % 65536).toInt32)) = some (yN j) := fun j q => by rw [u, pIx_t (by omega), xv, q]
  obtain ⟨h5, v1, v2, v3⟩ := hv
  have nil : ∀ l : List Nat, l ++ (none : Option Nat).toList = l := fun l => List.append_nil l
  match st, h5, v1, v2, v3, h2 with
  | 0, _, _, _, _, _ =>
    unfold f_47 f_48
    rw [if_neg (by decide), if_neg (by decide), if_pos (by decide), yis_146, pG_t, yBs, yis_1, pG_t, yBs, e76, yBs]
    dsimp only
    cases hd : dig (ch C i) with
    | false => left; exact ⟨by rw [pX, hd]; rfl, by rw [yB_f, if_pos rfl]; rfl⟩
    | true =>
      have := of_decide_eq_true hd
      right
      refine ⟨1, ch C i - 48, none, yW m 146 2 (yN (ch C i - 48)), by rw [pX, hd]; rfl, ?_, fun _ => w2 _, by rw [nil]; exact mW _, fW _⟩
      rw [yB_t, if_neg (by decide), yr_1_0, yBs, ea, yBs, if_pos (by decide), yBs, yN_subl (by omega), yp_146_2, yBs, if_pos (by decide), yBs, yBs]; rfl
  | 1, _, v1, _, _, h2 =>
    have h2' := h2 (by omega)
    have v9 := v1 rfl
    unfold f_47 f_48
    rw [if_neg (by decide), if_neg (by decide), if_neg (by decide), if_pos (by decide), yis_1, pG_t, yBs, e76, yBs]
    dsimp only
    cases hd : dig (ch C i) with
    | true =>
      have := of_decide_eq_true hd
      right
      refine ⟨2, 10 * v + (ch C i - 48), none, yW m 146 2 (yN (10 * v + (ch C i - 48))), by rw [pX, hd]; rfl, ?_, fun _ => w2 _, by rw [nil]; exact mW _, fW _⟩
      rw [yB_t, if_neg (by decide), yis_146, pG_t, yBs, yis_1, pG_t, yBs, e76, hd, yBs]
      dsimp only
      rw [yB_t, if_neg (by decide), yr_1_0, yBs, ea, yBs, if_neg (by decide), yi_146_2, yBs, h2', yBs, yN_subl (by omega), yN_lmul, yN_add, yp_146_2, yBs, if_neg (by decide), yBs, yBs]; rfl
    | false =>
      rw [yB_f, if_pos rfl, yis_1, pG_t, yBs, e10, yBs]
      dsimp only
      cases hl3 : lmr (ch C i) with
      | none => left; exact ⟨by rw [pX, hd, hl3]; rfl, by rw [show yB (none : Option Nat).isSome = 0 from rfl, if_pos rfl]⟩
      | some j =>
        right
        refine ⟨3, 3 * v + j, none, yW m 146 2 (yN (3 * v + j)), by rw [pX, hd, hl3]; rfl, ?_, fun _ => w2 _, by rw [nil]; exact mW _, fW _⟩
        rw [show yB (some j).isSome = 1 from rfl, if_neg (by decide), yr_1_0, yBs, ea, yBs, ix j hl3, yBs, if_neg (by decide), yi_146_2, yBs, h2', yN_lmul, yN_add, yp_146_2, yBs]; rfl
  | 2, _, _, v2, _, h2 =>
    have h2' := h2 (by omega)
    have v9 := v2 rfl
    unfold f_47
    rw [if_neg (by decide), if_neg (by decide), if_neg (by decide), if_neg (by decide), yis_1, pG_t, yBs, e10, yBs]
    dsimp only
    cases hl3 : lmr (ch C i) with
    | none => left; exact ⟨by rw [pX, hl3]; rfl, by rw [show yB (none : Option Nat).isSome = 0 from rfl, if_pos rfl]⟩
    | some j =>
      right
      refine ⟨3, 3 * v + j, none, yW m 146 2 (yN (3 * v + j)), by rw [pX, hl3]; rfl, ?_, fun _ => w2 _, by rw [nil]; exact mW _, fW _⟩
      rw [show yB (some j).isSome = 1 from rfl, if_neg (by decide), yr_1_0, yBs, ea, yBs, ix j hl3, yBs, if_neg (by decide), yi_146_2, yBs, h2', yN_lmul, yN_add, yp_146_2, yBs]; rfl
  | 3, _, _, _, _, h2 =>
    unfold f_47
    rw [if_neg (by decide), if_pos (by decide), yis_1, pG_t, yBs, e9, yBs]
    dsimp only
    by_cases q : ch C i = 62
    · right
      refine ⟨4, v, none, m, by rw [pX, if_pos q], ?_, fun _ => h2 (by omega), by rw [nil]; exact hM, yFr.rf m⟩
      rw [decide_eq_true q, yB_t, if_neg (by decide), yBs]; rfl
    · left
      rw [decide_eq_false q, yB_f, if_pos rfl, yBs]; exact ⟨by rw [pX, if_neg q], rfl⟩
  | 4, _, _, _, v3, h2 =>
    have h2' := h2 (by omega)
    have v9 := v3 (by omega)
    unfold f_47
    rw [if_neg (by decide), if_neg (by decide), if_neg (by decide), if_neg (by decide), yis_1, pG_t, yBs, e10, yBs]
    dsimp only
    cases hl3 : lmr (ch C i) with
    | none => left; exact ⟨by rw [pX, hl3]; rfl, by rw [show yB (none : Option Nat).isSome = 0 from rfl, if_pos rfl]⟩
    | some j =>
      right
      have k2 : (yW m 146 1 (yN (cs.length + 1))).1 146 2 = yN v := by rw [yW_get, if_neg (by omega)]; exact h2'
      refine ⟨5, v, some (10 * v + j), yW (yW m 146 1 (yN (cs.length + 1))) 147 cs.length (yN (10 * v + j)), by rw [pX, hl3]; rfl, ?_, fun _ => by rw [yW_row (by omega)]; exact k2, ⟨?_, fun i' c' q => ?_⟩, (yFr.w (S := sP6) m (Or.inl ⟨rfl, Or.inl rfl⟩)).tr (yFr.w (S := sP6) _ (Or.inr rfl)) (fun _ _ => orSelf)⟩
      · rw [show yB (some j).isSome = 1 from rfl, if_neg (by decide), yr_1_0, yBs, ea, yBs, ix j hl3, yBs, if_pos (by decide), yi_146_2, yBs, h2', yN_lmul, yN_add, yis_146, pG_t, yBs, s268 hM.1 hl, yBs]; rfl
      · rw [yW_row (by omega), yW_self, upd_eq, List.length_append]; rfl
      · rcases list_ap q with ⟨rfl, rfl⟩ | ⟨q1, q2⟩
        · rw [yW_self, upd_eq]
        · rw [yW_get, if_neg (by omega), yW_row (by omega)]; exact hM.2 _ _ q2
  | 5, _, _, _, _, h2 =>
    · unfold f_47
      rw [if_pos (by decide), yis_1, pG_t, yBs, e8, yBs]
      dsimp only
      by_cases q : ch C i = 59
      · right
        refine ⟨0, v, none, m, by show (if ch C i = 59 then some (0, v, none) else none) = _; rw [if_pos q], ?_, fun q => absurd rfl q, by rw [nil]; exact hM, yFr.rf m⟩
        rw [decide_eq_true q, yB_t, if_neg (by decide), yBs]; rfl
      · left
        rw [decide_eq_false q, yB_f, if_pos rfl, yBs]; exact ⟨by show (if ch C i = 59 then some (0, v, none) else none) = _; rw [if_neg q], rfl⟩
end PP
