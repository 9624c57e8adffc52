/-! ===== games: the reference's rows and table ===== -/
def sGr (x j : Nat) : Prop := sM x j ∨ x = 191 ∨ x = 192 ∨ (195 ≤ x ∧ x ≤ 203) ∨ (x = 178 ∧ (j = 37 ∨ j = 38))
theorem sGr_R {x j : Nat} (h : sGr x j) : sR x j := by unfold sGr sM at h; unfold sR; omega
theorem sGr_Rs {x j : Nat} (h : sGr x j) : sRs x j := by unfold sGr sM at h; unfold sRs; omega
/-- a tower in a row; how it is felled -/
def Rw (m : yM) (p : Nat) (x : zN) (hw : Int32) : Prop := (∀ b, b < 48 → m.1 p b = x.1 b) ∧ m.1 p 48 = yN x.2 ∧ m.1 p 50 = hw
theorem Rw.tor {m : yM} {p : Nat} {x : zN} {hw : Int32} (h : Rw m p x hw) : Tor m p x.1 x.2 := ⟨h.1, h.2.1⟩
theorem Rw.c {m m' : yM} {p : Nat} {x : zN} {hw : Int32} (h : Rw m p x hw) (e : ∀ j, j < 54 → m'.1 p j = m.1 p j) : Rw m' p x hw := ⟨fun b hb => by rw [e b (by omega)]; exact h.1 b hb, by rw [e _ (by omega)]; exact h.2.1, by rw [e _ (by omega)]; exact h.2.2⟩
def rNd (m : yM) (L : List gE) (hw : Int32) : Prop := ∀ (k : Nat) (e : gE), L[k]? = some e → (∀ b, b < 48 → m.1 195 (54 * k + b) = e.1.1 b) ∧ m.1 195 (54 * k + 48) = yN e.1.2 ∧ m.1 195 (54 * k + 50) = hw ∧ m.1 196 k = e.2.1 ∧ m.1 197 k = e.2.2.1 ∧ m.1 198 k = yN e.2.2.2
def hL (f : Nat → Int32) : Nat → Int64
  | 0 => 7
  | k + 1 => (((hL f k) * (31 : Int64)) + ((f k : Int32).toInt64)) + (1 : Int64)
def rHI (f : Nat → Int32) : Int32 := ((((hL f 48) ^^^ ((((hL f 48) : Int64).toUInt64 >>> ((21 : Int32).toInt64.toUInt64 &&& Int64.toUInt64 63)).toInt64)) &&& (2047 : Int64)) : Int64).toInt32
def rHa (f : Nat → Int32) : Nat := (rHI f).toBitVec.toNat
theorem and2047 (x : Int64) : ((x &&& 2047).toInt32).toBitVec.toNat < 2048 ∧ (x &&& 2047).toInt32 = yN ((x &&& 2047).toInt32).toBitVec.toNat := by
  have h : ((x &&& 2047).toInt32).toBitVec.toNat < 2048 := by
    rw [Int64.toBitVec_toInt32, BitVec.signExtend_eq_setWidth_of_le _ (by omega), BitVec.toNat_setWidth, Int64.toBitVec_and, BitVec.toNat_and]
    exact Nat.lt_of_le_of_lt (Nat.mod_le _ _) (Nat.lt_of_le_of_lt Nat.and_le_right (by decide))
  refine ⟨h, ?_⟩
  apply Int32.toBitVec_inj.1
  show _ = BitVec.ofNat 32 _
  rw [BitVec.ofNat_toNat, BitVec.setWidth_eq]
theorem rHa_e (f : Nat → Int32) : rHa f < 2048 ∧ rHI f = yN (rHa f) := and2047 _
theorem hL_c {f g : Nat → Int32} : ∀ k, (∀ b, b < k → f b = g b) → hL f k = hL g k
  | 0, _ => rfl
  | k + 1, h => by rw [hL, hL, hL_c k (fun b hb => h b (by omega)), h k (by omega)]
theorem rHa_c {f g : Nat → Int32} (h : ∀ b, b < 48 → f b = g b) : rHa f = rHa g := by
  unfold rHa rHI
  rw [hL_c 48 h]
theorem mk2047 : ∀ k : Fin 2048, (yN (k.val + 1)) &&& 2047 = yN ((k.val + 1) % 2048) := by decide +kernel
def enR (o : Option Nat) : Int32 := match o with
  | none => -1
  | some k => yN k
def rSl (m : yM) (L : List gE) : Prop := ∃ T, (∀ s, s < 2048 → m.1 199 s = enR (T s)) ∧ pIn 2048 T (fun k => match L[k]? with | some e => rHa e.1.1 | none => 0) L.length
def eqB (f g : Nat → Int32) : Nat → Nat → Bool
  | 0, _ => true
  | D + 1, j => decide (f j = g j) && eqB f g D (j + 1)
theorem eqB_t {f g : Nat → Int32} : ∀ D j, (eqB f g D j = true ↔ ∀ b, j ≤ b → b < j + D → f b = g b)
  | 0, j => by
    rw [eqB]
    exact ⟨fun _ b h1 h2 => by omega, fun _ => rfl⟩
  | D + 1, j => by
    rw [eqB, Bool.and_eq_true, decide_eq_true_eq, eqB_t D (j + 1)]
    constructor
    · rintro ⟨h1, h2⟩ b h3 h4
      by_cases q : b = j
      · subst q; exact h1
      · exact h2 b (by omega) (by omega)
    · intro h
      exact ⟨h j (by omega) (by omega), fun b h1 h2 => h b (by omega) (by omega)⟩
section GJ
variable {κ : yK} {L : List gE} {x : zN} {hw : Int32}
theorem m225_7 {m : yM} {p : Nat} (hp : yAr p) : ∀ (D b fu : Nat), b + D = 48 → D < fu → f_225_7 fu 178 p (hL (m.1 p) b) (yN b) (yH κ m) = some (hL (m.1 p) 48, yH κ m) := by
  intro D
  induction D with
  | zero =>
    intro b fu hb hf
    obtain ⟨fu, rfl⟩ : ∃ k, fu = k + 1 := ⟨fu - 1, by omega⟩
    obtain rfl : b = 48 := by omega
    rw [f_225_7, if_pos (by decide)]
  | succ D ih =>
    intro b fu hb hf
    obtain ⟨fu, rfl⟩ : ∃ k, fu = k + 1 := ⟨fu - 1, by omega⟩
    have := ih (b + 1) fu (by omega) (by omega)
    rw [hL] at this
    rw [f_225_7, if_neg (by rw [yN_lle (by omega) (by omega)]; show ¬ 48 ≤ b; omega), yr_a hp (by omega), yBs, yN_addl]
    exact this
theorem m226_5 {m : yM} {p k : Nat} (hp : yAr p) (hk : k < 400) : ∀ (D j fu : Nat), j + D = 48 → D < fu → f_226_5 fu 178 p (yN k) 1 (yN j) (yH κ m) = some (yB (eqB (fun b => m.1 195 (54 * k + b)) (m.1 p) D j), yH κ m) := by
  intro D
  induction D with
  | zero =>
    intro j fu hj hf
    obtain ⟨fu, rfl⟩ : ∃ k, fu = k + 1 := ⟨fu - 1, by omega⟩
    obtain rfl : j = 48 := by omega
    rw [f_226_5, if_pos (by decide)]; rfl
  | succ D ih =>
    intro j fu hj hf
    obtain ⟨fu, rfl⟩ : ∃ k, fu = k + 1 := ⟨fu - 1, by omega⟩
    rw [f_226_5, if_neg (by rw [yN_lle (by omega) (by omega)]; show ¬ 48 ≤ j; omega), if_neg (by decide), yr_178_32, yBs, yN_lmul, yN_add, show pAi (yH κ m) 195 (yN (54 * k + j)) = _ from ya_195 (by omega), yBs, yr_a hp (by omega), yBs, eqB]
    by_cases q : m.1 195 (54 * k + j) = m.1 p j
    · rw [if_pos q, yBs, yN_addl, ih (j + 1) fu (by omega) (by omega), decide_eq_true q, Bool.true_and]
    · rw [if_neg q, yBs, yN_addl, decide_eq_false q, Bool.false_and]
      cases fu with
      | zero => omega
      | succ fu =>
        rw [f_226_5]
        by_cases z : (48 : Int32) ≤ yN (j + 1)
        · rw [if_pos z]; rfl
        · rw [if_neg z, if_pos rfl]; rfl
theorem m226 {m : yM} {p k : Nat} (hp : yAr p) (hk : k < 400) : f_226 178 p (yN k) (yH κ m) = some (yB (eqB (fun b => m.1 195 (54 * k + b)) (m.1 p) 48 0), yH κ m) := by
  unfold f_226
  rw [show f_226_5 100000 178 p (yN k) 1 0 (yH κ m) = _ from m226_5 hp hk 48 0 100000 (by omega) (by omega), yBs]
  exact pZ_B _ _
/-- where a tower stands among those found, or would stand -/
theorem m225 {m : yM} {p : Nat} (hp : yAr p) (hx : ∀ b, b < 48 → m.1 p b = x.1 b) (hl : L.length ≤ 400) (hN : rNd m L hw) (hS : rSl m L) (hD : dupF L) :
    (gLk L x = none ∧ ∃ d T, d < 2048 ∧ (∀ s, s < 2048 → m.1 199 s = enR (T s)) ∧ pIn 2048 T (fun k => match L[k]? with | some e => rHa e.1.1 | none => 0) L.length ∧ T ((rHa x.1 + d) % 2048) = none ∧ (∀ d', d' < d → T ((rHa x.1 + d') % 2048) ≠ none) ∧ f_225 178 p (yH κ m) = some (yN ((rHa x.1 + d) % 2048), yH κ m)) ∨
    (∃ t s, gLk L x = some t ∧ s < 2048 ∧ m.1 199 s = yN t ∧ f_225 178 p (yH κ m) = some (yN s, yH κ m)) := by
  have hS0 := hS
  obtain ⟨T, hT, P⟩ := hS
  have hh := (rHa_e x.1).1
  have ehash : rHI (m.1 p) = yN (rHa x.1) := by rw [(rHa_e (m.1 p)).2, rHa_c hx]
  have mt : ∀ (k : Nat) (e : gE), L[k]? = some e → (eqB (fun b => m.1 195 (54 * k + b)) (m.1 p) 48 0 = true ↔ gK e.1.1 = gK x.1) := fun k e h => by
    rw [eqB_t]
    constructor
    · intro q
      refine gK_c (fun b hb => ?_)
      rw [← (hN k e h).1 b hb, ← hx b hb]
      exact q b (Nat.zero_le _) (by omega)
    · intro q b _ hb
      show m.1 195 (54 * k + b) = m.1 p b
      rw [(hN k e h).1 b (by omega), hx b (by omega)]
      exact gK_e q b (by omega)
  obtain ⟨d, hd, hwk, hend⟩ := pLk (mt := fun k => eqB (fun b => m.1 195 (54 * k + b)) (m.1 p) 48 0 = true) (h := rHa x.1) P (by omega) (fun k hk z => by
    obtain ⟨e, he⟩ := ge_of hk
    rw [he]
    exact rHa_c (gK_e ((mt k e he).1 z)))
  have e7 : f_225_7 100000 178 p (7 : Int64) 0 (yH κ m) = some (hL (m.1 p) 48, yH κ m) := m225_7 hp 48 0 100000 (by omega) (by omega)
  have walk : ∀ (w : Int64) (R : Option (Int32 × xH)), (∀ fu, f_225_47 (fu + 1) 178 p w (yN ((rHa x.1 + d) % 2048)) (yH κ m) = R) → ∀ (c d0 fu : Nat), d0 + c = d → c < fu → f_225_47 fu 178 p w (yN ((rHa x.1 + d0) % 2048)) (yH κ m) = R := by
    intro w R hR c
    induction c with
    | zero =>
      intro d0 fu h1 h2
      obtain ⟨fu, rfl⟩ : ∃ k, fu = k + 1 := ⟨fu - 1, by omega⟩
      obtain rfl : d0 = d := by omega
      exact hR fu
    | succ c ih =>
      intro d0 fu h1 h2
      obtain ⟨fu, rfl⟩ : ∃ k, fu = k + 1 := ⟨fu - 1, by omega⟩
      obtain ⟨k, hk1, hk2, hk3⟩ := hwk d0 (by omega)
      have hlt := Nat.mod_lt (rHa x.1 + d0) (show 0 < 2048 by omega)
      have ha : pAi (yH κ m) 199 (yN ((rHa x.1 + d0) % 2048)) = some (yN k) := by rw [show pAi (yH κ m) 199 (yN ((rHa x.1 + d0) % 2048)) = _ from ya_199 hlt, hT _ hlt, hk2]; rfl
      have hk3' : eqB (fun b => m.1 195 (54 * k + b)) (m.1 p) 48 0 = false := by
        cases q : eqB (fun b => m.1 195 (54 * k + b)) (m.1 p) 48 0 with
        | false => rfl
        | true => exact absurd q hk3
      rw [f_225_47, yr_178_36, yBs, ha, yBs, if_neg (by rw [yN_ltl (by omega) (by omega)]; omega), yBs, ha, yBs, yis_178, pG_t, yBs, m226 hp (by omega), hk3', yBs]
      dsimp only
      rw [yB_f, if_pos rfl, yN_addl, mk2047 ⟨_, hlt⟩]
      have := ih (d0 + 1) fu (by omega) (by omega)
      rw [show ((rHa x.1 + d0) % 2048 + 1) % 2048 = (rHa x.1 + (d0 + 1)) % 2048 by omega]
      exact this
  have h0 : (rHa x.1 + 0) % 2048 = rHa x.1 := by omega
  have hlt := Nat.mod_lt (rHa x.1 + d) (show 0 < 2048 by omega)
  have fin : ∀ v : Nat, f_225_47 100000 178 p (hL (m.1 p) 48) (yN (rHa x.1)) (yH κ m) = some (yN v, yH κ m) → f_225 178 p (yH κ m) = some (yN v, yH κ m) := fun v h => by
    unfold f_225
    rw [e7, yBs]
    dsimp only
    rw [show ((((hL (m.1 p) 48) ^^^ ((((hL (m.1 p) 48) : Int64).toUInt64 >>> ((21 : Int32).toInt64.toUInt64 &&& Int64.toUInt64 63)).toInt64)) &&& (2047 : Int64)) : Int64).toInt32 = yN (rHa x.1) from ehash, h, yBs]
  rcases hend with ⟨e1, e2⟩ | ⟨k, k1, k2, k3⟩
  · left
    have hn : gLk L x = none := by
      cases hq : gLk L x with
      | none => rfl
      | some t =>
        obtain ⟨e, he, hk⟩ := gLk_s hq
        exact absurd ((mt t e he).2 hk) (e2 t (ge_lt he))
    refine ⟨hn, d, T, hd, hT, P, e1, fun d' hd' z => ?_, fin _ ?_⟩
    · obtain ⟨k, -, hk2, -⟩ := hwk d' hd'
      rw [z] at hk2; simp at hk2
    · have := walk (hL (m.1 p) 48) _ (fun fu => by
        have ha : pAi (yH κ m) 199 (yN ((rHa x.1 + d) % 2048)) = some (-1) := by rw [show pAi (yH κ m) 199 (yN ((rHa x.1 + d) % 2048)) = _ from ya_199 hlt, hT _ hlt, e1]; rfl
        rw [f_225_47, yr_178_36, yBs, ha, yBs, if_pos (by decide)]) d 0 100000 (by omega) (by omega)
      rw [h0] at this
      exact this
  · right
    obtain ⟨e, he⟩ := ge_of k1
    have hke := (mt k e he).1 k3
    have hq : gLk L x = some k := by
      cases hq : gLk L x with
      | none => exact absurd hke (gLk_n hq k e he)
      | some t =>
        obtain ⟨e', he', hk'⟩ := gLk_s hq
        rw [hD t k e' e he' he (hk'.trans hke.symm)]
    have hv : m.1 199 ((rHa x.1 + d) % 2048) = yN k := by rw [hT _ hlt, k2]; rfl
    refine ⟨k, (rHa x.1 + d) % 2048, hq, hlt, hv, fin _ ?_⟩
    have := walk (hL (m.1 p) 48) _ (fun fu => by
      have ha : pAi (yH κ m) 199 (yN ((rHa x.1 + d) % 2048)) = some (yN k) := by rw [show pAi (yH κ m) 199 (yN ((rHa x.1 + d) % 2048)) = _ from ya_199 hlt, hv]
      rw [f_225_47, yr_178_36, yBs, ha, yBs, if_neg (by rw [yN_ltl (by omega) (by omega)]; omega), yBs, ha, yBs, yis_178, pG_t, yBs, m226 hp (by omega), k3, yBs]
      dsimp only
      rw [yB_t, if_neg (show ¬ ((1 : Int32) = 0) by decide)]) d 0 100000 (by omega) (by omega)
    rw [h0] at this
    exact this
/-- a row found is copied; a row is copied to those found -/
theorem m224 {m : yM} {p k : Nat} (hp : yAr p) (h195 : p ≠ 195 ∧ p ≠ 178) (hk : k < 400) : f_224 178 (yN k) p (yH κ m) = some (yH κ (yR m p (cpO (m.1 195) (54 * k) (m.1 p) 0 0))) := by
  have lp : ∀ (d j fu : Nat) (m : yM), j + d = 54 → d < fu → f_224_2 fu 178 (yN k) p (yN j) (yH κ m) = some (yH κ (yR m p (cpO (m.1 195) (54 * k) (m.1 p) 0 j))) := by
    intro d
    induction d with
    | zero =>
      intro j fu m hj hf
      obtain ⟨fu, rfl⟩ : ∃ k, fu = k + 1 := ⟨fu - 1, by omega⟩
      obtain rfl : j = 54 := by omega
      rw [f_224_2, if_pos (by decide), cpO_end, yR_id]
    | succ d ih =>
      intro j fu m hj hf
      obtain ⟨fu, rfl⟩ : ∃ k, fu = k + 1 := ⟨fu - 1, by omega⟩
      rw [f_224_2, if_neg (by rw [yN_lle (by omega) (by omega)]; show ¬ 54 ≤ j; omega), yr_178_32, yBs, yN_lmul, yN_add, show pAi (yH κ m) 195 (yN (54 * k + j)) = _ from ya_195 (by omega), yBs, yr_s hp (by omega), yBs, yN_addl, ih (j + 1) fu _ (by omega) (by omega), yR_yW, yW_row (by omega), yW_self, cpO_step (k := j) (by omega) (by omega) rfl]
  unfold f_224
  rw [show f_224_2 100000 178 (yN k) p 0 (yH κ m) = _ from lp 54 0 100000 m (by omega) (by omega), yBs]
theorem m227_37 {p k : Nat} {a b c : Int32} (hp : yAr p) (h195 : p ≠ 195 ∧ p ≠ 178) (hk : k < 400) : ∀ (d j fu : Nat) (m : yM), j + d = 54 → d < fu → m.1 178 37 = yN k → f_227_37 fu 178 p a b c (yN j) (yH κ m) = some (yH κ (yR m 195 (cpO (m.1 p) 0 (m.1 195) (54 * k) j))) := by
  intro d
  induction d with
  | zero =>
    intro j fu m hj hf h37
    obtain ⟨fu, rfl⟩ : ∃ k, fu = k + 1 := ⟨fu - 1, by omega⟩
    obtain rfl : j = 54 := by omega
    rw [f_227_37, if_pos (by decide), cpO_end, yR_id]
  | succ d ih =>
    intro j fu m hj hf h37
    obtain ⟨fu, rfl⟩ : ∃ k, fu = k + 1 := ⟨fu - 1, by omega⟩
    rw [f_227_37, if_neg (by rw [yN_lle (by omega) (by omega)]; show ¬ 54 ≤ j; omega), yr_178_32, yBs, yi_178_37, yBs, h37, yr_a hp (by omega), yBs, yN_lmul, yN_add, yst_195 (by omega), yBs, yN_addl, ih (j + 1) fu _ (by omega) (by omega) (by rw [yW_row (by omega)]; exact h37), yR_yW, yW_row (by omega), yW_self, cpO_step (k := j) (by omega) (by omega) (by rw [Nat.zero_add])]
end GJ
