/-! ===== chance() ===== -/
/-- Euclid, with so many steps left -/
def gcS : Nat → Nat → Nat → Nat
  | 0, x, _ => x
  | d + 1, x, y => if y = 0 then x else gcS d y (x % y)
theorem gcS_eq : ∀ k x y d, y < 2 ^ k → 2 * k ≤ d → gcS d x y = Nat.gcd x y := by
  intro k
  induction k with
  | zero =>
    intro x y d hy _
    have : y = 0 := by omega
    subst this
    cases d with
    | zero => simp [gcS]
    | succ d => simp [gcS]
  | succ k ih =>
    intro x y d hy hd
    obtain ⟨d, rfl⟩ : ∃ e, d = e + 1 + 1 := ⟨d - 2, by omega⟩
    rw [gcS]
    by_cases h0 : y = 0
    · rw [if_pos h0, h0, Nat.gcd_zero_right]
    · rw [if_neg h0, gcS]
      have e1 : Nat.gcd x y = Nat.gcd y (x % y) := by rw [Nat.gcd_comm x y, Nat.gcd_rec y x, Nat.gcd_comm]
      by_cases h1 : x % y = 0
      · rw [if_pos h1, e1, h1, Nat.gcd_zero_right]
      · rw [if_neg h1, e1]
        have e2 : Nat.gcd y (x % y) = Nat.gcd (x % y) (y % (x % y)) := by rw [Nat.gcd_comm y, Nat.gcd_rec (x % y) y, Nat.gcd_comm]
        rw [e2]
        refine ih _ _ _ ?_ (by omega)
        have h2 : x % y < y := Nat.mod_lt _ (by omega)
        have h3 : y % (x % y) < x % y := Nat.mod_lt _ (by omega)
        have h4 : y % (x % y) + (x % y) ≤ y := by
          have h5 := Nat.div_add_mod y (x % y)
          have h6 : 1 ≤ y / (x % y) := Nat.div_pos (by omega) (by omega)
          have h7 : x % y ≤ (x % y) * (y / (x % y)) := Nat.le_mul_of_pos_right _ h6
          omega
        have h8 : 2 ^ (k + 1) = 2 * 2 ^ k := by rw [Nat.pow_succ]; omega
        omega
theorem s145_7 {h : xH} : ∀ (d i x y fu : Nat), i + d = 64 → d < fu → x < 2147483648 → y < 2147483648 → f_145_7 fu (yN x) (yN y) (yN i) h = some (yN (gcS d x y), h) := by
  intro d
  induction d with
  | zero =>
    intro i x y fu hi hf hx hy
    obtain ⟨fu, rfl⟩ : ∃ k, fu = k + 1 := ⟨fu - 1, by omega⟩
    obtain rfl : i = 64 := by omega
    rw [f_145_7, if_pos (by decide)]; rfl
  | succ d ih =>
    intro i x y fu hi hf hx hy
    obtain ⟨fu, rfl⟩ : ∃ k, fu = k + 1 := ⟨fu - 1, by omega⟩
    rw [f_145_7, if_neg (by rw [yN_lle (by omega) (by omega)]; omega), gcS]
    by_cases h0 : y = 0
    · rw [if_pos h0, if_pos (by rw [h0]; rfl)]
    · rw [if_neg h0, if_neg (by rw [yN_eql hy (by omega)]; exact h0), yp_remN hx hy h0, yBs, yN_addl]
      exact ih (i + 1) y (x % y) fu (by omega) (by omega) hy (Nat.lt_of_lt_of_le (Nat.mod_lt _ (by omega)) (by omega))
theorem s145 {h : xH} {x y : Nat} (hx : x < 2147483648) (hy : y < 16384) (h0 : 0 < y) : f_145 (yN x) (yN y) h = some (yN (Nat.gcd x y), h) := by
  unfold f_145
  have e : f_145_7 100000 (yN x) (yN y) 0 h = some (yN (gcS 64 x y), h) := s145_7 64 0 x y 100000 (by omega) (by omega) hx (by omega)
  rw [e, yBs]
  dsimp only
  have g := gcS_eq 14 x y 64 (by omega) (by omega)
  have hg : 0 < Nat.gcd x y := Nat.gcd_pos_of_pos_right _ h0
  have hg2 : Nat.gcd x y ≤ y := Nat.gcd_le_right _ h0
  rw [g, show (1 : Int32) = yN 1 from rfl, yp_maxN (by omega) (by omega), show max 1 (Nat.gcd x y) = Nat.gcd x y by omega]
/-- longs that are numbers -/
def yL (a : Nat) : Int64 := (yN a).toInt64
theorem yL_toInt {a : Nat} (h : a < 2147483648) : (yL a).toInt = (a : Int) := by unfold yL; rw [Int32.toInt_toInt64, yN_toInt h]
theorem yL_eq {a b : Nat} (ha : a < 2147483648) (hb : b < 2147483648) : (yL a = yL b) = (a = b) := by
  rw [← Int64.toInt_inj, yL_toInt ha, yL_toInt hb]; exact propext (by omega)
theorem yL_div {a b : Nat} (ha : a < 2147483648) (hb : b < 2147483648) : yL a / yL b = yL (a / b) := by
  have hd : a / b ≤ a := Nat.div_le_self a b
  rw [← Int64.toInt_inj, Int64.toInt_div, yL_toInt ha, yL_toInt hb, yL_toInt (by omega)]
  rw [show ((a : Int).tdiv (b : Int)) = ((a / b : Nat) : Int) by rw [Int.ofNat_tdiv]]
  generalize a / b = q at *
  rw [Int.bmod_eq_of_le] <;> omega
theorem yL_rem {a b : Nat} (ha : a < 2147483648) (hb : b < 2147483648) : yL a - yL a / yL b * yL b = yL (a % b) := by
  rw [yL_div ha hb]
  have hm := Nat.div_add_mod' a b
  have hle : a / b * b ≤ a := Nat.div_mul_le_self a b
  have hlt : a % b ≤ a := Nat.mod_le a b
  have hd : a / b ≤ a := Nat.div_le_self a b
  rw [← Int64.toInt_inj, Int64.toInt_sub, Int64.toInt_mul, yL_toInt ha, yL_toInt hb, yL_toInt (by omega), yL_toInt (by omega)]
  rw [show ((a / b : Nat) : Int) * (b : Int) = ((a / b * b : Nat) : Int) by rw [Int.natCast_mul]]
  generalize a / b * b = q at *
  generalize a % b = r at *
  rw [show ((q : Int)).bmod (2 ^ 64) = (q : Int) from Int.bmod_eq_of_le (by omega) (by omega), Int.bmod_eq_of_le (by omega) (by omega)]
  omega
theorem pRemL_n {a b : Nat} (ha : a < 2147483648) (hb : b < 2147483648) (h0 : b ≠ 0) : pRemL (yL a) (yL b) = some (yL (a % b)) := by
  unfold pRemL
  rw [if_neg, yL_rem ha hb]
  rw [show (0 : Int64) = yL 0 from rfl, yL_eq hb (by omega)]; exact h0
theorem pDivL_n {a b : Nat} (ha : a < 2147483648) (hb : b < 2147483648) (h0 : b ≠ 0) : pDivL (yL a) (yL b) = some (yL (a / b)) := by
  unfold pDivL
  rw [if_neg, yL_div ha hb]
  rw [show (0 : Int64) = yL 0 from rfl, yL_eq hb (by omega)]; exact h0
theorem lgc_0 (x : Int64) : (lg_cmp x 0 = 0) = (x = 0) := by
  unfold lg_cmp
  by_cases h : (0 : Int64) < x
  · rw [if_pos h]
    refine propext ⟨fun q => absurd q (by decide), fun q => ?_⟩
    rw [q] at h; exact absurd h (by decide)
  · rw [if_neg h]
    by_cases h2 : x = 0
    · rw [if_pos h2]; exact propext ⟨fun _ => h2, fun _ => rfl⟩
    · rw [if_neg h2]; exact propext ⟨fun q => absurd q (by decide), fun q => absurd q h2⟩
theorem m164_0 {h : xH} {n x : Nat} : fr_164 (n + 1) (yL x) (yL 0) h = some (yL x, h) := by
  rw [fr_164]
  unfold fb_164
  rw [if_pos (show lg_cmp (yL 0) 0 = 0 by decide), yBs]
theorem m164_s {h : xH} {n x y g : Nat} (hx : x < 2147483648) (hy : y < 2147483648) (h0 : y ≠ 0) (e : fr_164 n (yL y) (yL (x % y)) h = some (yL g, h)) : fr_164 (n + 1) (yL x) (yL y) h = some (yL g, h) := by
  rw [fr_164]
  unfold fb_164
  rw [if_neg (show ¬ lg_cmp (yL y) 0 = 0 by rw [lgc_0, show (0 : Int64) = yL 0 from rfl, yL_eq hy (by omega)]; exact h0), pRemL_n hx hy h0, yBs, e, yBs, yBs]
theorem m164 {h : xH} : ∀ k x y d, x < 2147483648 → y < 2147483648 → y < 2 ^ k → 2 * k ≤ d → fr_164 (d + 1) (yL x) (yL y) h = some (yL (Nat.gcd x y), h) := by
  intro k
  induction k with
  | zero =>
    intro x y d hx hy h2 _
    have : y = 0 := by omega
    subst this
    rw [Nat.gcd_zero_right]; exact m164_0
  | succ k ih =>
    intro x y d hx hy h2 hd
    obtain ⟨d, rfl⟩ : ∃ e, d = e + 1 + 1 := ⟨d - 2, by omega⟩
    by_cases h0 : y = 0
    · subst h0; rw [Nat.gcd_zero_right]; exact m164_0
    · have e1 : Nat.gcd x y = Nat.gcd y (x % y) := by rw [Nat.gcd_comm x y, Nat.gcd_rec y x, Nat.gcd_comm]
      have q2 : x % y < y := Nat.mod_lt _ (by omega)
      refine m164_s hx hy h0 ?_
      rw [e1]
      by_cases h1 : x % y = 0
      · rw [h1, Nat.gcd_zero_right]; exact m164_0
      · have e2 : Nat.gcd y (x % y) = Nat.gcd (x % y) (y % (x % y)) := by rw [Nat.gcd_comm y, Nat.gcd_rec (x % y) y, Nat.gcd_comm]
        have h3 : y % (x % y) < x % y := Nat.mod_lt _ (by omega)
        refine m164_s hy (by omega) h1 ?_
        rw [e2]
        refine ih _ _ _ (by omega) (by omega) ?_ (by omega)
        have h4 : y % (x % y) + (x % y) ≤ y := by
          have h5 := Nat.div_add_mod y (x % y)
          have h6 : 1 ≤ y / (x % y) := Nat.div_pos (by omega) (by omega)
          have h7 : x % y ≤ (x % y) * (y / (x % y)) := Nat.le_mul_of_pos_right _ h6
          omega
        have h8 : 2 ^ (k + 1) = 2 * 2 ^ k := by rw [Nat.pow_succ]; omega
        omega
theorem s164 {h : xH} {x y : Nat} (hx : x < 2147483648) (hy : y < 16384) : f_164 (yL x) (yL y) h = some (yL (Nat.gcd x y), h) := m164 14 x y 39 hx (by omega) (by omega) (by omega)
/-- the best odds of the next one, as chances -/
def cbH (st : bT) : Nat := match st with
  | none => 0
  | some (_, o, _) => 100 - o
theorem cbH_le (st : bT) : cbH st ≤ 100 := by
  match st with
  | none => exact Nat.zero_le _
  | some (c, o, j) => show 100 - o ≤ 100; omega
/-- chances of a move: alone, or with the next one behind it -/
def chV (R : List Int32) (th : Nat → Int32) (n : Nat) (t0 t1 hand hand2 : Int32) (two : Bool) (mv : Nat) : Nat := (100 - min (zOn R th n t0 t1 hand 0 mv) (zOn R th n t0 t1 hand 1 mv)) * (if two = true then cbH (bC (tSf (tLn th n mv) (tNn th n) t0 t1) (zOn R (tLn th n mv) (tNn th n) t0 t1 hand2) (30 * tNn th n)) else 1)
theorem chV_le (R : List Int32) (th : Nat → Int32) (n : Nat) (t0 t1 hand hand2 : Int32) (two : Bool) (mv : Nat) : chV R th n t0 t1 hand hand2 two mv ≤ (if two = true then 10000 else 100) := by
  unfold chV
  have h1 : 100 - min (zOn R th n t0 t1 hand 0 mv) (zOn R th n t0 t1 hand 1 mv) ≤ 100 := by omega
  cases two with
  | false => simp only [Bool.false_eq_true, if_false]; omega
  | true =>
    simp only [if_true]
    exact Nat.mul_le_mul h1 (cbH_le _)
def chS (P : Nat → Bool) (V : Nat → Nat) : Nat → Int32 × Nat
  | 0 => (-1, 0)
  | k + 1 => if P k = true then (if V k ≤ (chS P V k).2 then chS P V k else (yN k, V k)) else chS P V k
theorem chS_top {P : Nat → Bool} {V : Nat → Nat} {N : Nat} (hP : ∀ m, P m = true → m < N) : ∀ d, chS P V (N + d) = chS P V N := by
  intro d
  induction d with
  | zero => rfl
  | succ d ih =>
    rw [show N + (d + 1) = (N + d) + 1 by omega, chS, if_neg (fun q => by have := hP _ q; omega), ih]
theorem chS_le {P : Nat → Bool} {V : Nat → Nat} {B : Nat} (h : ∀ k, V k ≤ B) : ∀ k, (chS P V k).2 ≤ B := by
  intro k
  induction k with
  | zero => exact Nat.zero_le _
  | succ k ih =>
    rw [chS]
    split
    · split
      · exact ih
      · exact h k
    · exact ih
/-- the greatest, as the reference looks for it -/
def mxS (P : Nat → Bool) (O : Nat → Nat → Nat) : Nat → Nat
  | 0 => 0
  | k + 1 => if P k = true then max (mxS P O k) (100 - min (O 0 k) (O 1 k)) else mxS P O k
theorem mxS_up {P : Nat → Bool} {O : Nat → Nat → Nat} {B : Nat} (h : ∀ m, P m = true → 100 - min (O 0 m) (O 1 m) ≤ B) : ∀ k, mxS P O k ≤ B := by
  intro k
  induction k with
  | zero => exact Nat.zero_le _
  | succ k ih =>
    rw [mxS]
    split
    next q => have := h k q; omega
    next => exact ih
theorem mxS_lo {P : Nat → Bool} {O : Nat → Nat → Nat} : ∀ k m, m < k → P m = true → 100 - min (O 0 m) (O 1 m) ≤ mxS P O k := by
  intro k
  induction k with
  | zero => intro m h; omega
  | succ k ih =>
    intro m hm hp
    rw [mxS]
    by_cases h : m = k
    · subst h; rw [if_pos hp]; omega
    · have := ih m (by omega) hp
      split <;> omega
theorem mxS_bC {P : Nat → Bool} {O : Nat → Nat → Nat} {N M : Nat} (hP : ∀ m, P m = true → m < N) (hM : N ≤ M) : mxS P O M = cbH (bC P O N) := by
  have h := bC_min (P := P) (O := O) N
  cases hs : bC P O N with
  | none =>
    rw [hs] at h
    have : mxS P O M ≤ 0 := mxS_up (fun m q => absurd ⟨Nat.zero_le 1, hP m q, q⟩ (h 0 m)) M
    show mxS P O M = 0; omega
  | some q =>
    obtain ⟨c, o, j⟩ := q
    rw [hs] at h
    obtain ⟨⟨a0, a1, a3⟩, a2, a4⟩ := h
    have u := mxS_up (P := P) (O := O) (B := 100 - o) (fun m q => by
      have e0 := a4 0 m ⟨by omega, hP m q, q⟩
      have e1 := a4 1 m ⟨by omega, hP m q, q⟩
      omega) M
    have l := mxS_lo (P := P) (O := O) M c (by omega) a3
    show mxS P O M = 100 - o
    rcases (show j = 0 ∨ j = 1 by omega) with rfl | rfl <;> omega
section CH
variable {κ : yK} {m : yM} {a n : Nat} {th : Nat → Int32} {t0 t1 hand hand2 : Int32} {R : List Int32}
/-- chancesBehind() -/
theorem s16 {mv : Nat} (ha : yTw a) (hd : a + 4 < 105 ∨ 117 < a) (hk : tOk th n) (oR : okR R) (ht : Tow m a th n) (h0 : m.1 106 0 = t0) (h1 : m.1 106 1 = t1) (hR : cRu m R) (hs : tSf th n t0 t1 mv = true) (hm : mv < 480) : ∃ m', f_16 116 a (yN mv) hand2 (yH κ m) = some (yN (cbH (bC (tSf (tLn th n mv) (tNn th n) t0 t1) (zOn R (tLn th n mv) (tNn th n) t0 t1 hand2) (30 * tNn th n))), yH κ m') ∧ Tow m' a th n ∧ yFr (sCh a) m m' := by
  have hn := hk.1
  have hc := tSf_cg hs
  obtain ⟨g1, g2, g3, g4, g5, g6, g7⟩ := tCg_f hk hc
  have hkl := tLn_ok hk hc (tSf_2 hs)
  obtain ⟨m1, e1, T1, F1⟩ := s94a (κ := κ) ha hk ht hs
  obtain ⟨m2, e2, T2, B2, F2⟩ := s11 (κ := κ) (hand := hand2) ha hd hkl oR T1 (by rw [F1.2 _ _ (by unfold sT; omega), h0]) (by rw [F1.2 _ _ (by unfold sT; omega), h1]) (hR.fr F1 (fun j => by unfold sT; omega) (by unfold sT; omega))
  obtain ⟨m3, e3, T3, F3⟩ := s94b (κ := κ) ha hk hs T2
  have F : yFr (sCh a) m m3 := ((F1.wk (S3 := sCh a) (fun _ _ => Or.inl)).tr (F2.wk (S3 := sCh a) (fun x j q => by unfold sB sTW sT sW at q; unfold sCh sT sW; omega)) (fun _ _ => orSelf)).tr (F3.wk (S3 := sCh a) (fun _ _ => Or.inl)) (fun _ _ => orSelf)
  refine ⟨m3, ?_, T3, F⟩
  have B3 := B2.fr (m' := m3) (fun j p q => F3.2 _ _ (by unfold sT; omega))
  have hb := bC_B (tLn th n mv) (tNn th n) t0 t1 hand2 R (30 * tNn th n) (by have := hkl.1; omega)
  have d10 : pDiv (yN mv) 10 = some (yN (mv / 10)) := yp_div (by omega) (by omega) (by omega)
  unfold f_16
  rw [yt_is ha, pG_t, yBs, s103 ha ht hn (by omega) (by omega), yBs]
  dsimp only
  rw [d10, yBs, yt_is ha, pG_t, yBs, e1, yBs, yis_116, pG_t, yBs, e2, yBs, yBs, yt_is ha, pG_t, yBs, e3, yBs, yi_116_7, yBs]
  generalize bC (tSf (tLn th n mv) (tNn th n) t0 t1) (zOn R (tLn th n mv) (tNn th n) t0 t1 hand2) (30 * tNn th n) = st at *
  match st, hb, B3 with
  | none, hb, B3 =>
    have b1 : m3.1 116 7 = -1 := B3
    rw [b1, if_pos rfl, yBs]; rfl
  | some (c, o, j), hb, B3 =>
    obtain ⟨b1, b2, b3⟩ := B3
    obtain ⟨q1, q2, q3⟩ := hb _ _ _ rfl
    rw [b1, if_neg (by rw [yN_eqm (by omega)]; exact id), yi_116_8, yBs, b2, yBs, yN_lsub q2]
    rfl
theorem s15_15 {two : Bool} {N : Int32} (hN : (N = 2) = (two = true)) (ha : yTw a) (hd : a + 4 < 105 ∨ 117 < a) (hk : tOk th n) (oR : okR R) : ∀ (d k fu : Nat) (m : yM), k + d = 30 * n → d < fu → Tow m a th n → m.1 106 0 = t0 → m.1 106 1 = t1 → cRu m R →
    ∃ m', f_15_15 fu 116 a hand hand2 N (yN (30 * n)) (chS (tSf th n t0 t1) (chV R th n t0 t1 hand hand2 two) k).1 (yN (chS (tSf th n t0 t1) (chV R th n t0 t1 hand hand2 two) k).2) (yN k) (yH κ m) = some ((chS (tSf th n t0 t1) (chV R th n t0 t1 hand hand2 two) (30 * n)).1, yN (chS (tSf th n t0 t1) (chV R th n t0 t1 hand hand2 two) (30 * n)).2, yH κ m') ∧ Tow m' a th n ∧ yFr (sCh a) m m' := by
  have hn := hk.1
  intro d
  induction d with
  | zero =>
    intro k fu m hd2 hf ht h0 h1 hR
    obtain ⟨fu, rfl⟩ : ∃ k, fu = k + 1 := ⟨fu - 1, by omega⟩
    obtain rfl : k = 30 * n := by omega
    refine ⟨m, ?_, ht, yFr.rf m⟩
    rw [f_15_15, if_pos (by rw [yN_le (by omega) (by omega)]; omega)]
  | succ d ih =>
    intro k fu m hd2 hf ht h0 h1 hR
    obtain ⟨fu, rfl⟩ : ∃ k, fu = k + 1 := ⟨fu - 1, by omega⟩
    obtain ⟨m1, e1, T1, -, F1⟩ := s7 (κ := κ) (mv := k) ha (by omega) hk ht h0 h1 (by omega)
    have F1' : yFr (sCh a) m m1 := F1.wk (fun x j q => by unfold sTW sT sW at q; unfold sCh sT sW; omega)
    have keep : ∀ m1, yFr (sCh a) m m1 → m1.1 106 0 = t0 ∧ m1.1 106 1 = t1 ∧ cRu m1 R := fun m1 F => ⟨by rw [F.2 _ _ (by unfold sCh sT sW; omega), h0], by rw [F.2 _ _ (by unfold sCh sT sW; omega), h1], hR.fr F (fun j => by unfold sCh sT sW; omega) (by unfold sCh sT sW; omega)⟩
    obtain ⟨u0, u1, uR⟩ := keep m1 F1'
    rw [f_15_15, if_neg (by rw [yN_le (by omega) (by omega)]; omega), yis_116, pG_t, yBs, e1, yBs]
    dsimp only
    cases hs : tSf th n t0 t1 k with
    | false =>
      obtain ⟨m', e', T', F'⟩ := ih (k + 1) fu m1 (by omega) (by omega) T1 u0 u1 uR
      rw [show chS (tSf th n t0 t1) (chV R th n t0 t1 hand hand2 two) (k + 1) = chS (tSf th n t0 t1) (chV R th n t0 t1 hand hand2 two) k by rw [chS, if_neg (by rw [hs]; decide)]] at e'
      refine ⟨m', ?_, T', F1'.tr F' (fun _ _ => orSelf)⟩
      rw [if_pos (by decide), yBs, yN_addl]
      exact e'
    | true =>
      have hc := tSf_cg hs
      obtain ⟨q0, p0⟩ := zOn_eq R th n t0 t1 hand 0 k
      obtain ⟨q1, p1⟩ := zOn_eq R th n t0 t1 hand 1 k
      obtain ⟨m2, e2, N2, F2⟩ := s9 (κ := κ) (hand := hand) ha hd hk T1 hc u0 u1 (show k < 2147483648 by omega)
      have F2' : yFr (sCh a) m m2 := F1'.tr F2 (fun x j q => q.elim id (fun r => by unfold s117 sW at r; unfold sCh sW; omega))
      obtain ⟨v0, v1, vR⟩ := keep m2 F2'
      obtain ⟨m3, e3, F3⟩ := s10 (κ := κ) (jk := yN 0) N2 vR oR
      rw [q0] at e3
      have F3' : yFr (sCh a) m m3 := F2'.tr F3 (fun x j q => q.elim id (fun r => by unfold s114 at r; unfold sCh; omega))
      obtain ⟨w0, w1, wR⟩ := keep m3 F3'
      obtain ⟨m4, e4, F4⟩ := s10 (κ := κ) (m := m3) (mv := k) (th := th) (n := n) (t0 := t0) (t1 := t1) (hand := hand) (jk := yN 1) (fun i hi => by rw [F3.2 _ _ (by unfold s114; omega)]; exact N2 i hi) wR oR
      rw [q1] at e4
      have F4' : yFr (sCh a) m m4 := F3'.tr F4 (fun x j q => q.elim id (fun r => by unfold s114 at r; unfold sCh; omega))
      obtain ⟨x0, x1, xR⟩ := keep m4 F4'
      have T4 : Tow m4 a th n := ((T1.fr F2 (fun x j p q => by unfold s117 sW; omega)).fr F3 (fun x j p q => by unfold s114; omega)).fr F4 (fun x j p q => by unfold s114; omega)
      have e3' : f_10 116 0 (yH κ m2) = some (yN (zOn R th n t0 t1 hand 0 k), yH κ m3) := e3
      have e4' : f_10 116 1 (yH κ m3) = some (yN (zOn R th n t0 t1 hand 1 k), yH κ m4) := e4
      have hmin : (100 - pMin (yN (zOn R th n t0 t1 hand 0 k)) (yN (zOn R th n t0 t1 hand 1 k)) : Int32) = yN (100 - min (zOn R th n t0 t1 hand 0 k) (zOn R th n t0 t1 hand 1 k)) := by rw [yp_minN (by omega) (by omega), yN_lsub (by show min _ _ ≤ 100; omega)]
      have W : ∃ m5, ((if N = 2 then (pG (pIs (yH κ m4) 116 1)).bind fun _ => (f_16 116 a (yN k) hand2 (yH κ m4)).bind fun (x47, h46) => some (((100 - (pMin (yN (zOn R th n t0 t1 hand 0 k)) (yN (zOn R th n t0 t1 hand 1 k)))) * x47), h46) else some ((100 - (pMin (yN (zOn R th n t0 t1 hand 0 k)) (yN (zOn R th n t0 t1 hand 1 k)))), yH κ m4) : Option (Int32 × xH))) = some (yN (chV R th n t0 t1 hand hand2 two k), yH κ m5) ∧ Tow m5 a th n ∧ yFr (sCh a) m m5 := by
        cases two with
        | true =>
          obtain ⟨m5, e5, T5, F5⟩ := s16 (κ := κ) (hand2 := hand2) ha hd hk oR T4 x0 x1 xR hs (by omega)
          refine ⟨m5, ?_, T5, F4'.tr F5 (fun _ _ => orSelf)⟩
          rw [if_pos (by rw [hN]), yis_116, pG_t, yBs, e5, yBs]
          dsimp only
          rw [hmin, yN_mul]
          rfl
        | false =>
          refine ⟨m4, ?_, T4, F4'⟩
          rw [if_neg (by rw [hN]; decide), hmin]
          unfold chV
          rw [if_neg (by decide), Nat.mul_one]
      obtain ⟨m5, e5, T5, F5⟩ := W
      obtain ⟨y0, y1, yR⟩ := keep m5 F5
      have hv := chV_le R th n t0 t1 hand hand2 two k
      have hv2 : chV R th n t0 t1 hand hand2 two k ≤ 10000 := by cases two <;> simp at hv <;> omega
      have hc2 := chS_le (P := tSf th n t0 t1) (V := chV R th n t0 t1 hand hand2 two) (B := 10000) (fun k => by have := chV_le R th n t0 t1 hand hand2 two k; cases two <;> simp at this <;> omega) k
      obtain ⟨m', e', T', F'⟩ := ih (k + 1) fu m5 (by omega) (by omega) T5 y0 y1 yR
      refine ⟨m', ?_, T', F5.tr F' (fun _ _ => orSelf)⟩
      rw [if_neg (by decide), yis_116, pG_t, yBs, e2, yBs, yis_116, pG_t, yBs, e3', yBs]
      dsimp only
      rw [yis_116, pG_t, yBs, e4', yBs]
      dsimp only
      rw [e5, yBs]
      dsimp only
      by_cases hq : chV R th n t0 t1 hand hand2 two k ≤ (chS (tSf th n t0 t1) (chV R th n t0 t1 hand hand2 two) k).2
      · rw [show chS (tSf th n t0 t1) (chV R th n t0 t1 hand hand2 two) (k + 1) = chS (tSf th n t0 t1) (chV R th n t0 t1 hand hand2 two) k by rw [chS, if_pos hs, if_pos hq]] at e'
        rw [if_pos (by rw [yN_le (by omega) (by omega)]; exact hq), yBs, yN_addl]
        exact e'
      · rw [show chS (tSf th n t0 t1) (chV R th n t0 t1 hand hand2 two) (k + 1) = (yN k, chV R th n t0 t1 hand hand2 two k) by rw [chS, if_pos hs, if_neg hq]] at e'
        rw [if_neg (by rw [yN_le (by omega) (by omega)]; exact hq), yBs, yN_addl]
        exact e'
theorem s15 {two : Bool} {N : Int32} (hN : (N = 2) = (two = true)) (ha : yTw a) (hd : a + 4 < 105 ∨ 117 < a) (hk : tOk th n) (oR : okR R) (ht : Tow m a th n) (h0 : m.1 106 0 = t0) (h1 : m.1 106 1 = t1) (hR : cRu m R) :
    ∃ m', f_15 116 a hand hand2 N (yH κ m) = some (yH κ m') ∧ Tow m' a th n ∧ m'.1 116 7 = (chS (tSf th n t0 t1) (chV R th n t0 t1 hand hand2 two) (30 * n)).1 ∧ m'.1 116 10 = yN (chS (tSf th n t0 t1) (chV R th n t0 t1 hand hand2 two) (30 * n)).2 ∧ yFr (sCh a) m m' := by
  have hn := hk.1
  obtain ⟨m1, e1, T1, F1⟩ := s15_15 (κ := κ) (t0 := t0) (t1 := t1) (hand := hand) (hand2 := hand2) hN ha hd hk oR (30 * n) 0 100000 m (by omega) (by omega) ht h0 h1 hR
  have w116 : ∀ (m : yM) (j : Nat) (x : Int32), yFr (sCh a) m (yW m 116 j x) := fun m j x => yFr.w m (by unfold sCh; omega)
  have t : ∀ (m : yM) (j : Nat) (x : Int32), Tow m a th n → Tow (yW m 116 j x) a th n := fun m j x h => h.g (yG.w (S := fun x _ => x = 116) m rfl) (fun x j p q r => by have : x = 116 := r; omega)
  refine ⟨yW (yW m1 116 7 (chS (tSf th n t0 t1) (chV R th n t0 t1 hand hand2 two) (30 * n)).1) 116 10 (yN (chS (tSf th n t0 t1) (chV R th n t0 t1 hand hand2 two) (30 * n)).2), ?_, t _ _ _ (t _ _ _ T1), ?_, ?_, (F1.tr (w116 m1 7 _) (fun _ _ => orSelf)).tr (w116 _ 10 _) (fun _ _ => orSelf)⟩
  · unfold f_15
    have e2 : f_15_15 100000 116 a hand hand2 N (yN (30 * n)) (-1) 0 0 (yH κ m) = _ := e1
    simp (disch := first | assumption | omega) only [yt_is ha, s101 ha ht, yBs, pG_t, pZ_0, pZ_1, pZ_B, e2, yp_116_7, yp_116_10]
  · rw [yW_get, if_neg (by omega), yW_self, upd_eq]
  · rw [yW_self, upd_eq]
end CH
