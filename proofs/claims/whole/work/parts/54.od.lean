/-! ===== odds of a move ===== -/
def zFa (th : Nat → Int32) (n : Nat) (t0 t1 hand jerk : Int32) (mv k : Nat) : Int32 :=
  if k = 0 then yB (tTi th (mv / 10)) else if k = 1 then th (mv / 10) else if k = 2 then yN (mv / 10 / 3) else if k = 3 then yN (mv / 10 % 3) else if k = 4 then yN (mv % 10) else if k = 5 then 3 - yN (tBl th (mv / 10 / 3)) else if k = 6 then yN n else if k = 7 then wM th n t0 t1 (n - 1 - mv / 10 / 3) / 100 else if k = 8 then hand else jerk
def rN (R : List Int32) : List Int32 := if R = [] then [1008, 1000, 2005] else R
theorem rCl_N (R : List Int32) : rCl R = (rN R).map rCv := by
  unfold rCl rN
  by_cases h : R = []
  · rw [if_pos h, if_pos h]; decide
  · rw [if_neg h, if_neg h]
theorem rN_ok {R : List Int32} (o : okR R) : (rN R).length ≤ 40 ∧ rDp (rN R) 0 = some 1 := by
  unfold rN
  by_cases h : R = []
  · rw [if_pos h]; exact ⟨by decide, by decide⟩
  · rw [if_neg h]; exact ⟨o.1, o.2.resolve_left h⟩
/-- the odds of a safe move -/
def zOd (R : List Int32) (th : Nat → Int32) (n : Nat) (t0 t1 hand jerk : Int32) (mv : Nat) : Int32 := pMax 0 (pMin 100 ((rEv (zFa th n t0 t1 hand jerk mv) (rN R) []).getD 0 0))
theorem clp (v : Int32) : 0 ≤ pMax 0 (pMin 100 v) ∧ pMax 0 (pMin 100 v) ≤ 100 := by
  unfold pMax pMin
  simp only [yLe_iff, yLt_iff]
  have h0 : (0 : Int32).toInt = 0 := rfl
  have h9 : (100 : Int32).toInt = 100 := rfl
  by_cases h : v.toInt < (100 : Int32).toInt
  · rw [if_pos h]
    by_cases h2 : (0 : Int32).toInt < v.toInt
    · rw [if_pos h2]; omega
    · rw [if_neg h2]; omega
  · rw [if_neg h, if_pos (by omega)]; omega
theorem zOd_nat (R : List Int32) (th : Nat → Int32) (n : Nat) (t0 t1 hand jerk : Int32) (mv : Nat) : ∃ k, k ≤ 100 ∧ zOd R th n t0 t1 hand jerk mv = yN k := by
  obtain ⟨h1, h2⟩ := clp ((rEv (zFa th n t0 t1 hand jerk mv) (rN R) []).getD 0 0)
  obtain ⟨k, hk, e⟩ := yN_of' h1
  refine ⟨k, ?_, e⟩
  rw [e, yN_lel hk (by omega)] at h2
  exact h2
def s117 (x _j : Nat) : Prop := x = 117 ∨ sW x _j
section OD
variable {κ : yK} {m : yM} {a n : Nat} {th : Nat → Int32} {t0 t1 hand : Int32}
theorem y117 {k : Nat} {x : Int32} {f : Nat → Int32} (hi : OfNat.ofNat k < 10) : pSi (yH κ (yR m 117 f)) 117 (no_index (OfNat.ofNat k) : Int32) x = some (yH κ (yR m 117 (upd f (OfNat.ofNat k) x))) := by
  have e : pSi (yH κ (yR m 117 f)) 117 (no_index (OfNat.ofNat k) : Int32) x = some (yH κ (yW (yR m 117 f) 117 (OfNat.ofNat k) x)) := yh_si rfl (by decide) hi
  rw [e]; unfold yW; rw [yR_eq, yR_yR]
/-- noteFacts() -/
theorem s9 {mv : Nat} (ha : yTw a) (hd : a + 4 < 105 ∨ 117 < a) (hk : tOk th n) (ht : Tow m a th n) (hc : tCg th n mv = true) (h0 : m.1 106 0 = t0) (h1 : m.1 106 1 = t1) (hm : mv < 2147483648) :
    ∃ m', f_9 116 a (yN mv) hand (yH κ m) = some (yH κ m') ∧ (∀ k, k < 9 → m'.1 117 k = zFa th n t0 t1 hand 0 mv k) ∧ yFr s117 m m' := by
  have hn := hk.1
  have hdv : mv / 10 < 2147483648 := Nat.lt_of_le_of_lt (Nat.div_le_self _ _) hm
  obtain ⟨g1, g2, g3, g4, g5, g6, g7⟩ := tCg_f hk hc
  have h48 := tHas_lt g1
  have hbl := tBl_le th (mv / 10 / 3)
  obtain ⟨m1, e1, R1, F1⟩ := s3 (κ := κ) ha (by omega) hk ht h0 h1
  have T1 : Tow m1 a th n := ht.fr F1 (fun x j p q => by unfold sW; omega)
  have T : ∀ f, Tow (yR m1 117 f) a th n := fun f => T1.g (yG.r (S := fun x _ => x = 117) m1 (fun _ _ => rfl)) (fun x j p q r => by have : x = 117 := r; omega)
  have k0 : yH κ m1 = yH κ (yR m1 117 (m1.1 117)) := by rw [yR_id]
  have k99 : ∀ f, f_99 a (yN (mv / 10)) (yH κ (yR m1 117 f)) = some (yB (tTi th (mv / 10)), yH κ (yR m1 117 f)) := fun f => by rw [s99 ha (T f) hk hdv, g1, Bool.true_and]
  have k90 : ∀ f, f_90 a (yN (mv / 10)) (yH κ (yR m1 117 f)) = some (1, yH κ (yR m1 117 f)) := fun f => by rw [s90 ha (T f).1 hdv, g1]; rfl
  have k97 : ∀ f, f_97 a (yN (mv / 10 / 3)) (yH κ (yR m1 117 f)) = some (yN (tBl th (mv / 10 / 3)), yH κ (yR m1 117 f)) := fun f => s97 ha (T f).1 (by omega)
  have k91 : ∀ f, f_91 a (yN (mv / 10 / 3)) (yH κ (yR m1 117 f)) = some (1, yH κ (yR m1 117 f)) := fun f => by rw [s91 ha (T f) hn (by omega), decide_eq_true (show mv / 10 / 3 < n by omega)]; rfl
  have kth : ∀ f, (yR m1 117 f).1 (a + 1) (mv / 10) = th (mv / 10) := fun f => by rw [(T f).1]
  have k4 : ∀ f, (yR m1 117 f).1 a 4 = yN n := fun f => (T f).2.1
  have k109 : ∀ f, (yR m1 117 f).1 109 (mv / 10 / 3) = wM th n t0 t1 (n - 1 - mv / 10 / 3) := fun f => by rw [yR_ne _ _ (by omega)]; exact (R1.2.2.2.2 _ (Nat.zero_le _) (by omega)).2.2
  have kB : (if yB (tTi th (mv / 10)) = 0 then some 0 else some 1 : Option Int32) = some (yB (tTi th (mv / 10))) := by cases tTi th (mv / 10) <;> rfl
  refine ⟨yR m1 117 (upd (upd (upd (upd (upd (upd (upd (upd (upd (m1.1 117) 0 (yB (tTi th (mv / 10)))) 1 (th (mv / 10))) 2 (yN (mv / 10 / 3))) 3 (yN (mv / 10 % 3))) 4 (yN (mv % 10))) 5 (3 - yN (tBl th (mv / 10 / 3)))) 6 (yN n)) 7 (wM th n t0 t1 (n - 1 - mv / 10 / 3) / 100)) 8 hand), ?_, fun k hk9 => ?_, ?_⟩
  · unfold f_9
    have p10 : pDiv (yN mv) 10 = some (yN (mv / 10)) := yp_div hm (by omega) (by omega)
    have p3 : pDiv (yN (mv / 10)) 3 = some (yN (mv / 10 / 3)) := yp_div hdv (by omega) (by omega)
    have r3 : pRem (yN (mv / 10)) 3 = some (yN (mv / 10 % 3)) := yp_rem hdv (by omega) (by omega)
    have r10 : pRem (yN mv) 10 = some (yN (mv % 10)) := yp_rem hm (by omega) (by omega)
    have d100 : ∀ x, pDiv x 100 = some (x / 100) := fun x => pDiv_ne (by decide)
    rw [p10, yBs, p3, yBs, yr_116_0, yBs, yis_105, pG_t, yBs, e1, yBs, k0]
    simp (disch := first | assumption | omega) only [yr_116_2, yr_116_0, yr_105_3, yt_is ha, pG_t, yBs, k99, kB, y117, k90, y10, if_false, yt_0 ha, yt_a1 ha, kth, r3, r10, k97, yt_4 ha, k4, k91, ya_109, k109, d100]
  · rw [yR_eq]
    unfold zFa
    rcases (show k = 0 ∨ k = 1 ∨ k = 2 ∨ k = 3 ∨ k = 4 ∨ k = 5 ∨ k = 6 ∨ k = 7 ∨ k = 8 by omega) with rfl | rfl | rfl | rfl | rfl | rfl | rfl | rfl | rfl <;> simp [upd]
  · refine F1.tr (S2 := fun x _ => x = 117) (S3 := s117) ⟨rfl, fun x j q => by rw [yR_ne _ _ q]⟩ (fun x j q => q.elim Or.inr Or.inl)
theorem zFa_9 {jk : Int32} {mv k : Nat} (h : k < 9) : zFa th n t0 t1 hand jk mv k = zFa th n t0 t1 hand 0 mv k := by
  unfold zFa
  rcases (show k = 0 ∨ k = 1 ∨ k = 2 ∨ k = 3 ∨ k = 4 ∨ k = 5 ∨ k = 6 ∨ k = 7 ∨ k = 8 by omega) with rfl | rfl | rfl | rfl | rfl | rfl | rfl | rfl | rfl <;> rfl
def s114 (x j : Nat) : Prop := x = 114 ∨ (x = 117 ∧ j = 9)
/-- oddsNow() -/
theorem s10 {mv : Nat} {jk : Int32} {R : List Int32} (hF : ∀ k, k < 9 → m.1 117 k = zFa th n t0 t1 hand 0 mv k) (hR : cRu m R) (oR : okR R) :
    ∃ m', f_10 116 jk (yH κ m) = some (zOd R th n t0 t1 hand jk mv, yH κ m') ∧ yFr s114 m m' := by
  obtain ⟨o1, o2⟩ := rN_ok oR
  obtain ⟨q1, q2⟩ := hR
  rw [rCl_N, List.length_map] at q1
  have hC : Cd ((yW m 117 9 jk).1 111) 0 ((rN R).map rCv) := fun j hj => by
    rw [yW_row (by omega), Nat.zero_add, q2 j (by rw [rCl_N]; exact hj), rCl_N]
  have hF' : ∀ k, k < 10 → (yW m 117 9 jk).1 117 k = zFa th n t0 t1 hand jk mv k := fun k hk => by
    rw [yW_get]
    by_cases h9 : k = 9
    · subst h9; rw [if_pos ⟨rfl, rfl⟩]; rfl
    · rw [if_neg (by omega), hF k (by omega)]; exact (zFa_9 (by omega)).symm
  obtain ⟨a', e', k1, k2⟩ := s64_4 (κ := κ) hF' (rN R) 0 100000 [] ((yW m 117 9 jk).1 114) 1 (by omega) (by omega) (Nat.le_refl _) (by rw [yW_row (by omega), q1, Nat.zero_add]) hC o2 (fun j hj => absurd hj (Nat.not_lt_zero j))
  rw [yR_id] at e'
  have e2 : f_64_4 100000 110 117 0 0 (yH κ (yW m 117 9 jk)) = some (yN 1, yH κ (yR (yW m 117 9 jk) 114 a')) := by rw [← k2]; exact e'
  obtain ⟨x, hx⟩ : ∃ x, rEv (zFa th n t0 t1 hand jk mv) (rN R) [] = [x] := by
    match hq : rEv (zFa th n t0 t1 hand jk mv) (rN R) [], k2 with
    | [x], _ => exact ⟨x, rfl⟩
  refine ⟨yR (yW m 117 9 jk) 114 a', ?_, rfl, fun y j q => ?_⟩
  · unfold f_10 f_64 zOd
    rw [hx] at k1 ⊢
    have t := k1.top
    have e3 : pAi (yH κ (yR (yW m 117 9 jk) 114 a')) 114 0 = some (a' 0) := by
      have := ya_114 (κ := κ) (m := yR (yW m 117 9 jk) 114 a') (i := 0) (by omega)
      rw [yR_eq] at this; exact this
    have e4 : pSi (yH κ m) 117 9 jk = some (yH κ (yW m 117 9 jk)) := yst_117 (i := 9) (by omega)
    rw [yr_116_2, yBs, e4, yBs, yr_116_1, yBs, yr_116_2, yBs, yis_110, pG_t, yBs, e2, yBs]
    try dsimp only
    rw [if_neg (by decide), yr_110_3, yBs, e3, yBs, yBs]
    try dsimp only
    rw [yBs]
    try dsimp only
    rw [show a' 0 = x from t]
    rfl
  · unfold s114 at q
    rw [yR_ne _ _ (by omega), yW_get, if_neg (by omega)]
end OD
/-! the reference -/
def sO (x j : Nat) : Prop := x = 187 ∨ sM x j
section OR
variable {κ : yK} {m : yM} {s n : Nat} {th : Nat → Int32} {t0 t1 hand jk : Int32} {mv : Nat}
theorem m206 {k : Nat} (hS : yAr s) (hd : s ≠ 178 ∧ s ≠ 188 ∧ s ≠ 189 ∧ s ≠ 190) (hk : tOk th n) (ht : Tor m s th n) (hc : tCg th n mv = true) (h0 : m.1 178 7 = t0) (h1 : m.1 178 8 = t1) (hm : mv < 2147483648) (hk9 : k < 10) :
    ∃ m', f_206 178 s (yN mv) hand jk (yN k) (yH κ m) = some (zFa th n t0 t1 hand jk mv k, yH κ m') ∧ yFr sM m m' := by
  have hn := hk.1
  have hdv : mv / 10 < 2147483648 := Nat.lt_of_le_of_lt (Nat.div_le_self _ _) hm
  obtain ⟨g1, g2, g3, g4, g5, g6, g7⟩ := tCg_f hk hc
  have h48 := tHas_lt g1
  have hbl := tBl_le th (mv / 10 / 3)
  have p10 : pDiv (yN mv) 10 = some (yN (mv / 10)) := yp_div hm (by omega) (by omega)
  have p3 : pDiv (yN (mv / 10)) 3 = some (yN (mv / 10 / 3)) := yp_div hdv (by omega) (by omega)
  have r3 : pRem (yN (mv / 10)) 3 = some (yN (mv / 10 % 3)) := yp_rem hdv (by omega) (by omega)
  have r10 : pRem (yN mv) 10 = some (yN (mv % 10)) := yp_rem hm (by omega) (by omega)
  have d100 : ∀ x, pDiv x 100 = some (x / 100) := fun x => pDiv_ne (by decide)
  unfold f_206
  rw [p10, yBs]
  rcases (show k = 0 ∨ k = 1 ∨ k = 2 ∨ k = 3 ∨ k = 4 ∨ k = 5 ∨ k = 6 ∨ k = 7 ∨ k = 8 ∨ k = 9 by omega) with rfl | rfl | rfl | rfl | rfl | rfl | rfl | rfl | rfl | rfl
  · refine ⟨m, ?_, yFr.rf m⟩
    rw [if_pos (by decide)]
    simp (disch := first | assumption | omega) only [s186 hS ht hk.2.1 h48 (hk.2.2.2 _ (by omega)), yBs, s163]
    rfl
  · refine ⟨m, ?_, yFr.rf m⟩
    rw [if_neg (by decide), if_pos (by decide)]
    simp (disch := first | assumption | omega) only [yr_a hS, yBs, ht.1 _ h48]
    rfl
  · refine ⟨m, ?_, yFr.rf m⟩
    rw [if_neg (by decide), if_neg (by decide), if_pos (by decide), p3, yBs]
    rfl
  · refine ⟨m, ?_, yFr.rf m⟩
    rw [if_neg (by decide), if_neg (by decide), if_neg (by decide), if_pos (by decide), r3, yBs]
    rfl
  · refine ⟨m, ?_, yFr.rf m⟩
    rw [if_neg (by decide), if_neg (by decide), if_neg (by decide), if_neg (by decide), if_pos (by decide), r10, yBs]
    rfl
  · refine ⟨m, ?_, yFr.rf m⟩
    rw [if_neg (by decide), if_neg (by decide), if_neg (by decide), if_neg (by decide), if_neg (by decide), if_pos (by decide), p3, yBs, s170 hS ht hk.2.1 (by omega), yBs]
    rfl
  · refine ⟨m, ?_, yFr.rf m⟩
    rw [if_neg (by decide), if_neg (by decide), if_neg (by decide), if_neg (by decide), if_neg (by decide), if_neg (by decide), if_pos (by decide)]
    simp (disch := first | assumption | omega) only [yr_al hS, yBs, ht.2]
    rfl
  · obtain ⟨m1, e1, R1, F1⟩ := s187 (κ := κ) hS hd hk ht h0 h1
    refine ⟨m1, ?_, F1⟩
    rw [if_neg (by decide), if_neg (by decide), if_neg (by decide), if_neg (by decide), if_neg (by decide), if_neg (by decide), if_neg (by decide), if_pos (by decide), p3, yBs]
    unfold f_205
    have e190 : m1.1 190 (mv / 10 / 3) = wM th n t0 t1 (n - 1 - mv / 10 / 3) := (R1.2 _ (Nat.zero_le _) (by omega)).2.2
    simp (disch := first | assumption | omega) only [yis_178, pG_t, yBs, e1, yr_178_22, ya_190, e190, d100]
    rfl
  · refine ⟨m, ?_, yFr.rf m⟩
    rw [if_neg (by decide), if_neg (by decide), if_neg (by decide), if_neg (by decide), if_neg (by decide), if_neg (by decide), if_neg (by decide), if_neg (by decide), if_pos (by decide)]
    rfl
  · refine ⟨m, ?_, yFr.rf m⟩
    rw [if_neg (by decide), if_neg (by decide), if_neg (by decide), if_neg (by decide), if_neg (by decide), if_neg (by decide), if_neg (by decide), if_neg (by decide), if_neg (by decide)]
    rfl
theorem m208_39 (hS : yAr s) (hd : s ≠ 178 ∧ s ≠ 187 ∧ s ≠ 188 ∧ s ≠ 189 ∧ s ≠ 190) (hk : tOk th n) (hc : tCg th n mv = true) (hm : mv < 2147483648) : ∀ (r : List Int32) (i fu : Nat) (st : List Int32) (m : yM) (d : Nat), r.length < fu → i + r.length ≤ 40 → st.length ≤ i → Tor m s th n → m.1 178 7 = t0 → m.1 178 8 = t1 → m.1 178 17 = yN (i + r.length) → Cd (m.1 185) i r → rDp r st.length = some d → Sk (m.1 187) st → ∃ m', f_208_39 fu 178 s (yN mv) jk hand (yN st.length) (yN i) (yH κ m) = some (yH κ m') ∧ Sk (m'.1 187) (rEv (zFa th n t0 t1 hand jk mv) r st) ∧ (rEv (zFa th n t0 t1 hand jk mv) r st).length = d ∧ yFr sO m m' := by
  intro r
  induction r with
  | nil =>
    intro i fu st m d hfu hi hs ht h0 h1 h5 hC hD hS2
    obtain ⟨fu, rfl⟩ : ∃ k, fu = k + 1 := ⟨fu - 1, by simp at hfu; omega⟩
    refine ⟨m, ?_, hS2, ?_, yFr.rf m⟩
    · unfold f_208_39
      rw [yi_178_17, yBs, h5, if_pos (by rw [yN_le (by simp at hi; simp; omega) (by simp at hi; omega)]; simp)]
    · simp only [rDp] at hD; exact Option.some.inj hD
  | cons c r ih =>
    intro i fu st m d hfu hi hs ht h0 h1 h5 hC hD hS2
    rw [List.length_cons] at hfu hi h5
    obtain ⟨fu, rfl⟩ : ∃ k, fu = k + 1 := ⟨fu - 1, by omega⟩
    have e111 : m.1 185 i = c := hC.hd
    have nx := fun st m d => ih (i + 1) fu st m d (by omega) (by omega)
    have stp : ∀ m1, yFr sO m m1 → Tor m1 s th n ∧ m1.1 178 7 = t0 ∧ m1.1 178 8 = t1 ∧ m1.1 178 17 = yN (i + 1 + r.length) ∧ Cd (m1.1 185) (i + 1) r := fun m1 F => by
      refine ⟨ht.fr F (fun j _ => by unfold sO sM; omega), by rw [F.2 _ _ (by unfold sO sM; omega), h0], by rw [F.2 _ _ (by unfold sO sM; omega), h1], by rw [F.2 _ _ (by unfold sO sM; omega), h5]; congr 1; omega, ?_⟩
      rw [F.row (fun j => by unfold sO sM; omega)]; exact hC.tl
    rw [f_208_39, yi_178_17, yBs, h5]
    simp only [rDp] at hD
    rw [if_neg (by rw [yN_le (by omega) (by omega)]; omega), yr_178_15, yBs, ya_185 (by omega), yBs, e111]
    by_cases h3 : c = 3000
    · subst h3
      rw [if_pos rfl] at hD
      by_cases q1 : 1 ≤ st.length
      · rw [if_pos q1] at hD
        obtain ⟨x, t, rfl⟩ : ∃ x t, st = x :: t := by cases st with
          | nil => simp at q1
          | cons x t => exact ⟨x, t, rfl⟩
        rw [List.length_cons] at hs hD ⊢
        have ev : rEv (zFa th n t0 t1 hand jk mv) (3000 :: r) (x :: t) = rEv (zFa th n t0 t1 hand jk mv) r ((-x) :: t) := by rw [rEv, if_pos rfl]; rfl
        have F1 : yFr sO m (yW m 187 t.length (-x)) := yFr.w m (Or.inl rfl)
        obtain ⟨u1, u2, u3, u4, u5⟩ := stp _ F1
        obtain ⟨m', e', k1, k2, F'⟩ := nx ((-x) :: t) _ d (by rw [List.length_cons]; omega) u1 u2 u3 u4 u5 (by rw [List.length_cons]; exact hD) (by rw [yW_self]; exact hS2.tail.push)
        rw [ev]
        refine ⟨m', ?_, k1, k2, F1.tr F' (fun _ _ => orSelf)⟩
        have eT : m.1 187 t.length = x := hS2.top
        rw [List.length_cons] at e'
        rw [if_pos rfl]
        simp (disch := first | assumption | omega) only [yr_178_19, yBs, yN_s1, ya_187, eT, yst_187, yN_addl]
        exact e'
      · rw [if_neg q1] at hD; cases hD
    · rw [if_neg h3] at hD ⊢
      by_cases h2 : 2000 ≤ c
      · rw [if_pos h2] at hD
        rw [if_neg (yLe_lt h2)]
        by_cases q1 : 2 ≤ st.length ∧ c ≤ 2006
        · rw [if_pos q1] at hD
          obtain ⟨y, x, t, rfl⟩ : ∃ y x t, st = y :: x :: t := by
            cases st with
            | nil => simp at q1
            | cons y s2 => cases s2 with
              | nil => simp at q1
              | cons x t => exact ⟨y, x, t, rfl⟩
          rw [List.length_cons, List.length_cons] at hs hD ⊢
          have ev : rEv (zFa th n t0 t1 hand jk mv) (c :: r) (y :: x :: t) = rEv (zFa th n t0 t1 hand jk mv) r (rWk c x y :: t) := by rw [rEv, if_neg h3, if_pos h2]; rfl
          have F1 : yFr sO m (yW m 187 t.length (rWk c x y)) := yFr.w m (Or.inl rfl)
          obtain ⟨u1, u2, u3, u4, u5⟩ := stp _ F1
          obtain ⟨m', e', k1, k2, F'⟩ := nx (rWk c x y :: t) _ d (by rw [List.length_cons]; omega) u1 u2 u3 u4 u5 (by rw [List.length_cons]; exact hD) (by rw [yW_self]; exact hS2.tail.tail.push)
          rw [ev]
          refine ⟨m', ?_, k1, k2, F1.tr F' (fun _ _ => orSelf)⟩
          have eT : m.1 187 t.length = x := hS2.tail.top
          have eT2 : m.1 187 (t.length + 1) = y := hS2.top
          rw [List.length_cons] at e'
          simp (disch := first | assumption | omega) only [yr_178_19, yBs, yN_addm, yN_s1, ya_187, eT, eT2, s207 h2 q1.2, yst_187, yN_addl]
          exact e'
        · rw [if_neg q1] at hD; cases hD
      · rw [if_neg h2] at hD
        rw [if_pos (yLt_of_le h2)]
        by_cases q1 : 0 ≤ c ∧ c < 1010
        · rw [if_pos q1] at hD
          have ev : rEv (zFa th n t0 t1 hand jk mv) (c :: r) st = rEv (zFa th n t0 t1 hand jk mv) r ((if 1000 ≤ c then zFa th n t0 t1 hand jk mv (c - 1000).toNatClampNeg else c) :: st) := by rw [rEv, if_neg h3, if_neg h2]
          rw [ev]
          have w : ∃ m1, (if c < 1000 then some (c, yH κ m) else (pG (pIs (yH κ m) 178 12)).bind fun _ => (f_206 178 s (yN mv) hand jk (c - 1000) (yH κ m)).bind fun (x46, h45) => some (x46, h45) : Option (Int32 × xH)) = some ((if 1000 ≤ c then zFa th n t0 t1 hand jk mv (c - 1000).toNatClampNeg else c), yH κ m1) ∧ yFr sM m m1 := by
            by_cases q : 1000 ≤ c
            · obtain ⟨k, hk9, q2, q3⟩ := c10 q1.1 q q1.2
              obtain ⟨m1, e1, F1⟩ := m206 (κ := κ) (hand := hand) (jk := jk) hS (by omega) hk ht hc h0 h1 hm hk9
              refine ⟨m1, ?_, F1⟩
              rw [if_neg (yLe_lt q), if_pos q, q3, q2, yis_178, pG_t, yBs, e1, yBs]
            · exact ⟨m, by rw [if_pos (yLt_of_le q), if_neg q], yFr.rf m⟩
          obtain ⟨m1, w1, F1⟩ := w
          have F2 : yFr sO m (yW m1 187 st.length (if 1000 ≤ c then zFa th n t0 t1 hand jk mv (c - 1000).toNatClampNeg else c)) := F1.tr (yFr.w (S := sO) m1 (Or.inl rfl)) (fun x j q => q.elim Or.inr id)
          obtain ⟨u1, u2, u3, u4, u5⟩ := stp _ F2
          obtain ⟨m', e', k1, k2, F'⟩ := nx ((if 1000 ≤ c then zFa th n t0 t1 hand jk mv (c - 1000).toNatClampNeg else c) :: st) _ d (by rw [List.length_cons]; omega) u1 u2 u3 u4 u5 (by rw [List.length_cons]; exact hD) (by rw [yW_self, F1.row (fun j => by unfold sM; omega)]; exact hS2.push)
          refine ⟨m', ?_, k1, k2, F2.tr F' (fun _ _ => orSelf)⟩
          rw [List.length_cons] at e'
          rw [yr_178_19, yBs, w1, yBs]
          simp (disch := first | assumption | omega) only [yst_187, yBs, yN_addl]
          exact e'
        · rw [if_neg q1] at hD; cases hD
/-- oddsOf() -/
theorem m208 {u : Nat} {R : List Int32} (hS : yAr s) (hd : s ≠ 178 ∧ s ≠ 187 ∧ s ≠ 188 ∧ s ≠ 189 ∧ s ≠ 190) (hk : tOk th n) (ht : Tor m s th n) (hc : tCg th n mv = true) (hm : mv < 2147483648) (h49 : m.1 s 49 = yN u) (hu : u < 4) (hh : m.1 182 u = hand) (hh9 : ∃ h, h ≤ 9 ∧ hand = yN h) (hR : rRu m R) (oR : okR R) (h0 : m.1 178 7 = t0) (h1 : m.1 178 8 = t1) :
    ∃ m', f_208 178 s (yN mv) jk (yH κ m) = some (zOd R th n t0 t1 hand jk mv, yH κ m') ∧ yFr sO m m' := by
  have hn := hk.1
  have hdv : mv / 10 < 2147483648 := Nat.lt_of_le_of_lt (Nat.div_le_self _ _) hm
  obtain ⟨g1, g2, g3, g4, g5, g6, g7⟩ := tCg_f hk hc
  have h48 := tHas_lt g1
  have e49 : pAi (yH κ m) s 49 = some (yN u) := by rw [yr_al hS (by omega)]; exact congrArg some h49
  have p10 : pDiv (yN mv) 10 = some (yN (mv / 10)) := yp_div hm (by omega) (by omega)
  unfold f_208
  rw [yr_178_5, yBs, e49, yBs, ya_182 hu, yBs, hh, yi_178_17, yBs, hR.1]
  have oL := oR.1
  by_cases hE : R = []
  · subst hE
    refine ⟨m, ?_, yFr.rf m⟩
    rw [if_pos (show yN ([] : List Int32).length = 0 from rfl), p10, yBs, s186 hS ht hk.2.1 h48 (hk.2.2.2 _ (by omega)), yBs]
    try dsimp only
    rw [s163, yBs]
    try dsimp only
    congr 2
    obtain ⟨h, hh1, rfl⟩ := hh9
    unfold zOd
    have ev : rEv (zFa th n t0 t1 (yN h) jk mv) (rN []) [] = [yN h * yB (tTi th (mv / 10))] := by
      rw [show rN [] = [1008, 1000, 2005] from rfl, rEv, if_neg (by decide), if_neg (by decide), if_pos (by decide), rEv, if_neg (by decide), if_neg (by decide), if_pos (by decide), rEv, if_neg (by decide), if_pos (by decide)]
      rfl
    rw [ev]
    show yN h * yB (tTi th (mv / 10)) = pMax 0 (pMin 100 (yN h * yB (tTi th (mv / 10))))
    rw [show yB (tTi th (mv / 10)) = yN (tTi th (mv / 10)).toNat by cases tTi th (mv / 10) <;> rfl, yN_mul]
    have hle : h * (tTi th (mv / 10)).toNat ≤ 9 := by
      have := Bool.toNat_le (tTi th (mv / 10))
      calc h * (tTi th (mv / 10)).toNat ≤ h * 1 := Nat.mul_le_mul_left _ this
        _ ≤ 9 := by omega
    rw [show (100 : Int32) = yN 100 from rfl, yp_minN (by omega) (by omega), show (0 : Int32) = yN 0 from rfl, yp_maxN (by omega) (by omega)]
    congr 1; omega
  · have hlen : 0 < R.length := List.length_pos_iff.mpr hE
    obtain ⟨m1, e1, k1, k2, F1⟩ := m208_39 (κ := κ) (t0 := t0) (t1 := t1) (hand := hand) (jk := jk) hS hd hk hc hm R 0 100000 [] m 1 (by omega) (by omega) (Nat.le_refl _) ht h0 h1 (by rw [Nat.zero_add]; exact hR.1) (fun j hj => by rw [Nat.zero_add]; exact hR.2 j hj) (oR.2.resolve_left hE) (fun j hj => absurd hj (Nat.not_lt_zero j))
    obtain ⟨x, hx⟩ : ∃ x, rEv (zFa th n t0 t1 hand jk mv) R [] = [x] := by
      match hq : rEv (zFa th n t0 t1 hand jk mv) R [], k2 with
      | [x], _ => exact ⟨x, rfl⟩
    refine ⟨m1, ?_, F1⟩
    have e2 : f_208_39 100000 178 s (yN mv) jk hand 0 0 (yH κ m) = some (yH κ m1) := e1
    rw [if_neg (by rw [yN_eql (by omega) (by omega)]; omega), e2, yBs, yr_178_19, yBs]
    have e3 : pAi (yH κ m1) 187 0 = some (m1.1 187 0) := ya_187 (i := 0) (by omega)
    rw [e3, yBs]
    rw [hx] at k1
    have t : m1.1 187 0 = x := k1.top
    unfold zOd
    rw [show rN R = R by unfold rN; rw [if_neg hE], hx, t]
    rfl
end OR
