/-! ===== best(), odds(): the reference, and the calls ===== -/
/-- a row of the reference whose moves are those of th: it tells th, or it is felled -/
def Rx (m : yM) (s : Nat) (th : Nat → Int32) (n : Nat) : Prop := (m.1 s 50 = 0 ∧ Tor m s th n) ∨ (0 < m.1 s 50 ∧ th = zB0 ∧ n = 0)
def rS4 (s : Nat) : Prop := s = 180 ∨ s = 181 ∨ s = 192 ∨ s = 200
theorem rS4.ar {s : Nat} (h : rS4 s) : yAr s := by rcases h with rfl | rfl | rfl | rfl <;> rfl
/-- who moves in it, with which hand; the rule; tilts -/
def Ro (m : yM) (s : Nat) (t0 t1 hand : Int32) (R : List Int32) : Prop := (∃ u, u < 4 ∧ m.1 s 49 = yN u ∧ m.1 182 u = hand) ∧ rRu m R ∧ m.1 178 7 = t0 ∧ m.1 178 8 = t1
def bI (st : bT) : Int32 := match st with
  | none => -1
  | some (c, _, _) => yN c
def bO (st : bT) : Nat := match st with
  | none => 101
  | some (_, o, _) => o
def Br (m : yM) (st : bT) : Prop := m.1 178 25 = yN (bO st) ∧ ∀ c o j, st = some (c, o, j) → m.1 178 26 = yN j
def sBm (x j : Nat) : Prop := sO x j ∨ x = 191 ∨ (x = 178 ∧ (j = 25 ∨ j = 26))
theorem sBm_R {x j : Nat} (h : sBm x j) : sR x j := by unfold sBm sO sM at h; unfold sR; omega
theorem sBm_Rs {x j : Nat} (h : sBm x j) : sRs x j := by unfold sBm sO sM at h; unfold sRs; omega
section BF
variable {κ : yK} {m m' : yM} {s n : Nat} {th : Nat → Int32} {t0 t1 hand : Int32} {R : List Int32} {S : Nat → Nat → Prop}
theorem Rx.fr (h : Rx m s th n) (F : yFr S m m') (hs : ∀ j, j < 54 → ¬ S s j) : Rx m' s th n := by
  rcases h with ⟨h1, h2⟩ | ⟨h1, h2⟩
  · exact Or.inl ⟨by rw [F.2 _ _ (hs _ (by omega))]; exact h1, h2.fr F hs⟩
  · exact Or.inr ⟨by rw [F.2 _ _ (hs _ (by omega))]; exact h1, h2⟩
theorem rRu.fr (h : rRu m R) (F : yFr S m m') (hs : ∀ j, ¬ S 185 j) (h5 : ¬ S 178 17) : rRu m' R := ⟨by rw [F.2 _ _ h5]; exact h.1, fun j hj => by rw [F.2 _ _ (hs j)]; exact h.2 j hj⟩
theorem Ro.fr (h : Ro m s t0 t1 hand R) (F : yFr S m m') (hs : ¬ S s 49) (h2 : ∀ j, ¬ S 182 j) (h5 : ∀ j, ¬ S 185 j) (h8 : ¬ S 178 7 ∧ ¬ S 178 8 ∧ ¬ S 178 17) : Ro m' s t0 t1 hand R := by
  obtain ⟨⟨u, u1, u2, u3⟩, r1, r2, r3⟩ := h
  exact ⟨⟨u, u1, by rw [F.2 _ _ hs]; exact u2, by rw [F.2 _ _ (h2 u)]; exact u3⟩, r1.fr F h5 h8.2.2, by rw [F.2 _ _ h8.1]; exact r2, by rw [F.2 _ _ h8.2.1]; exact r3⟩
theorem Ro.bm (h : Ro m s t0 t1 hand R) (hs : rS4 s) (F : yFr sBm m m') : Ro m' s t0 t1 hand R := h.fr F (by unfold rS4 at hs; unfold sBm sO sM; omega) (fun j => by unfold sBm sO sM; omega) (fun j => by unfold sBm sO sM; omega) ⟨by unfold sBm sO sM; omega, by unfold sBm sO sM; omega, by unfold sBm sO sM; omega⟩
theorem Rx.bm (h : Rx m s th n) (hs : rS4 s) (F : yFr sBm m m') : Rx m' s th n := h.fr F (fun j _ => by unfold rS4 at hs; unfold sBm sO sM; omega)
theorem rx202 {mv : Nat} (hs : rS4 s) (hk : tOk th n) (hx : Rx m s th n) (hm : mv < 2147483648) : f_202 s (yN mv) (yH κ m) = some (yB (tCg th n mv), yH κ m) := by
  rcases hx with ⟨h1, h2⟩ | ⟨h1, rfl, rfl⟩
  · exact s202 hs.ar h2 hk h1 hm
  · rw [tCg_b0]; exact s202f hs.ar h1
theorem rx204 {mv : Nat} (hs : rS4 s) (hk : tOk th n) (hx : Rx m s th n) (h0 : m.1 178 7 = t0) (h1 : m.1 178 8 = t1) (hm : mv < 2147483648) : ∃ m', f_204 178 s (yN mv) (yH κ m) = some (yB (tSf th n t0 t1 mv), yH κ m') ∧ yFr sI m m' := by
  rcases hx with ⟨q1, q2⟩ | ⟨q1, rfl, rfl⟩
  · exact s204 hs.ar (by unfold rS4 at hs; omega) hk q2 q1 h0 h1 hm
  · rw [tSf_b0]; exact ⟨m, s204f hs.ar q1, yFr.rf m⟩
theorem Rx.tor (hx : Rx m s th n) {mv : Nat} (hc : tCg th n mv = true) : Tor m s th n := by
  rcases hx with ⟨q1, q2⟩ | ⟨q1, rfl, rfl⟩
  · exact q2
  · rw [tCg_b0] at hc; cases hc
theorem rx208 {mv j : Nat} (hs : rS4 s) (hk : tOk th n) (hx : Rx m s th n) (hr : Ro m s t0 t1 hand R) (hh : ∃ h, h ≤ 9 ∧ hand = yN h) (oR : okR R) (hc : tCg th n mv = true) (hm : mv < 2147483648) : ∃ m', f_208 178 s (yN mv) (yN j) (yH κ m) = some (yN (zOn R th n t0 t1 hand j mv), yH κ m') ∧ yFr sO m m' := by
  obtain ⟨⟨u, u1, u2, u3⟩, r1, r2, r3⟩ := hr
  obtain ⟨m1, e1, F1⟩ := m208 (κ := κ) (jk := yN j) hs.ar (by unfold rS4 at hs; omega) hk (hx.tor hc) hc hm u2 u1 u3 hh r1 oR r2 r3
  rw [(zOn_eq R th n t0 t1 hand j mv).1] at e1
  exact ⟨m1, e1, F1⟩
theorem bR_B (P : Nat → Bool) (th : Nat → Int32) (n : Nat) (t0 t1 hand : Int32) (R : List Int32) {j : Nat} (hj : j ≤ 1) {s0 : bT} (h0 : bB s0) : ∀ k, k ≤ 480 → bB (bR P (zOn R th n t0 t1 hand) j s0 k) := by
  intro k
  induction k with
  | zero => intro _; exact h0
  | succ k ih =>
    intro hk
    rw [bR]
    split
    · exact (ih (by omega)).q (by omega) (zOn_eq _ _ _ _ _ _ _ _).2 hj
    · exact ih (by omega)
theorem m211_18 (hs : rS4 s) (hk : tOk th n) (hh : ∃ h, h ≤ 9 ∧ hand = yN h) (oR : okR R) {j : Nat} (hj : j ≤ 1) {s0 : bT} (hb : bB s0) : ∀ (d k fu : Nat) (m : yM), k + d = 480 → d < fu → Rx m s th n → Ro m s t0 t1 hand R → Br m (bR (tSf th n t0 t1) (zOn R th n t0 t1 hand) j s0 k) →
    ∃ m', f_211_18 fu 178 s (bI (bR (tSf th n t0 t1) (zOn R th n t0 t1 hand) j s0 k)) (yN j) (yN k) (yH κ m) = some (bI (bR (tSf th n t0 t1) (zOn R th n t0 t1 hand) j s0 480), yH κ m') ∧ Br m' (bR (tSf th n t0 t1) (zOn R th n t0 t1 hand) j s0 480) ∧ yFr sBm m m' := by
  intro d
  induction d with
  | zero =>
    intro k fu m hd hf hx hr hB
    obtain ⟨fu, rfl⟩ : ∃ k, fu = k + 1 := ⟨fu - 1, by omega⟩
    obtain rfl : k = 480 := by omega
    refine ⟨m, ?_, hB, yFr.rf m⟩
    rw [f_211_18, if_pos (by decide)]
  | succ d ih =>
    intro k fu m hd hf hx hr hB
    obtain ⟨fu, rfl⟩ : ∃ k, fu = k + 1 := ⟨fu - 1, by omega⟩
    obtain ⟨m1, e1, F1⟩ := rx204 (κ := κ) (mv := k) hs hk hx hr.2.2.1 hr.2.2.2 (by omega)
    have F1' : yFr sBm m m1 := F1.wk (fun x i q => by unfold sI sM at q; unfold sBm sO sM; omega)
    have B1 : Br m1 (bR (tSf th n t0 t1) (zOn R th n t0 t1 hand) j s0 k) := ⟨by rw [F1.2 _ _ (by unfold sI sM; omega)]; exact hB.1, fun c o i e => by rw [F1.2 _ _ (by unfold sI sM; omega)]; exact hB.2 c o i e⟩
    rw [f_211_18, if_neg (by rw [yN_lle (by omega) (by omega)]; omega)]
    cases hq : tSf th n t0 t1 k with
    | false =>
      rw [hq, yB_f] at e1
      have eb : bR (tSf th n t0 t1) (zOn R th n t0 t1 hand) j s0 (k + 1) = bR (tSf th n t0 t1) (zOn R th n t0 t1 hand) j s0 k := by rw [bR, if_neg (by rw [hq]; decide)]
      obtain ⟨m', e', B', F'⟩ := ih (k + 1) fu m1 (by omega) (by omega) (hx.bm hs F1') (hr.bm hs F1') (by rw [eb]; exact B1)
      refine ⟨m', ?_, B', F1'.tr F' (fun _ _ => orSelf)⟩
      rw [eb] at e'
      simp (disch := first | assumption | omega) only [yis_178, yBs, pG_t, pZ_0, pZ_1, pZ_B, e1, if_true, yN_addl]
      exact e'
    | true =>
      rw [hq, yB_t] at e1
      obtain ⟨m2, e2, F2⟩ := rx208 (κ := κ) (j := j) hs hk (hx.bm hs F1') (hr.bm hs F1') hh oR (tSf_cg hq) (show k < 2147483648 by omega)
      have F2' : yFr sBm m m2 := F1'.tr F2 (fun x i q => q.elim id Or.inl)
      have B2 : Br m2 (bR (tSf th n t0 t1) (zOn R th n t0 t1 hand) j s0 k) := ⟨by rw [F2.2 _ _ (by unfold sO sM; omega)]; exact B1.1, fun c o i e => by rw [F2.2 _ _ (by unfold sO sM; omega)]; exact B1.2 c o i e⟩
      have hbk := bR_B (tSf th n t0 t1) th n t0 t1 hand R hj hb k (by omega)
      have ho := (zOn_eq R th n t0 t1 hand j k).2
      have eb : bR (tSf th n t0 t1) (zOn R th n t0 t1 hand) j s0 (k + 1) = bQ (bR (tSf th n t0 t1) (zOn R th n t0 t1 hand) j s0 k) k (zOn R th n t0 t1 hand j k) j := by rw [bR, if_pos hq]
      have hbO : bO (bR (tSf th n t0 t1) (zOn R th n t0 t1 hand) j s0 k) ≤ 101 := by
        cases hst : bR (tSf th n t0 t1) (zOn R th n t0 t1 hand) j s0 k with
        | none => exact Nat.le_refl _
        | some q => obtain ⟨c, o, i⟩ := q; have := (hbk _ _ _ hst).2.1; show o ≤ 101; omega
      by_cases hlt : zOn R th n t0 t1 hand j k < bO (bR (tSf th n t0 t1) (zOn R th n t0 t1 hand) j s0 k)
      · have en : bQ (bR (tSf th n t0 t1) (zOn R th n t0 t1 hand) j s0 k) k (zOn R th n t0 t1 hand j k) j = some (k, zOn R th n t0 t1 hand j k, j) := by
          cases hst : bR (tSf th n t0 t1) (zOn R th n t0 t1 hand) j s0 k with
          | none => rfl
          | some q => obtain ⟨c, o, i⟩ := q; rw [hst] at hlt; exact if_pos hlt
        have F3 : yFr sBm m (yW (yW m2 178 25 (yN (zOn R th n t0 t1 hand j k))) 178 26 (yN j)) := (F2'.tr (yFr.w (S := sBm) m2 (by unfold sBm; omega)) (fun _ _ => orSelf)).tr (yFr.w (S := sBm) _ (by unfold sBm; omega)) (fun _ _ => orSelf)
        obtain ⟨m', e', B', F'⟩ := ih (k + 1) fu _ (by omega) (by omega) (hx.bm hs F3) (hr.bm hs F3) (by rw [eb, en]; exact ⟨by rw [yW_get, if_neg (by omega), yW_self, upd_eq]; rfl, fun c o i e => by cases e; rw [yW_self, upd_eq]⟩)
        refine ⟨m', ?_, B', F3.tr F' (fun _ _ => orSelf)⟩
        rw [eb, en] at e'
        simp (disch := first | assumption | omega) only [yis_178, yBs, pG_t, pZ_0, pZ_1, pZ_B, e1, y10, if_false, e2, yi_178_25, B2.1]
        rw [if_neg (by rw [yN_le (by omega) (by omega)]; omega)]
        simp (disch := first | assumption | omega) only [yp_178_25, yp_178_26, yBs, yN_addl]
        exact e'
      · have en : bQ (bR (tSf th n t0 t1) (zOn R th n t0 t1 hand) j s0 k) k (zOn R th n t0 t1 hand j k) j = bR (tSf th n t0 t1) (zOn R th n t0 t1 hand) j s0 k := by
          cases hst : bR (tSf th n t0 t1) (zOn R th n t0 t1 hand) j s0 k with
          | none => rw [hst] at hlt; exact absurd (show zOn R th n t0 t1 hand j k < 101 by omega) hlt
          | some q => obtain ⟨c, o, i⟩ := q; rw [hst] at hlt; exact if_neg hlt
        obtain ⟨m', e', B', F'⟩ := ih (k + 1) fu m2 (by omega) (by omega) (hx.bm hs F2') (hr.bm hs F2') (by rw [eb, en]; exact B2)
        refine ⟨m', ?_, B', F2'.tr F' (fun _ _ => orSelf)⟩
        rw [eb, en] at e'
        simp (disch := first | assumption | omega) only [yis_178, yBs, pG_t, pZ_0, pZ_1, pZ_B, e1, y10, if_false, e2, yi_178_25, B2.1]
        rw [if_pos (by rw [yN_le (by omega) (by omega)]; omega)]
        simp (disch := first | assumption | omega) only [yBs, yN_addl]
        exact e'
/-- bestMove() -/
theorem m211 (hs : rS4 s) (hk : tOk th n) (hh : ∃ h, h ≤ 9 ∧ hand = yN h) (oR : okR R) (hx : Rx m s th n) (hr : Ro m s t0 t1 hand R) :
    ∃ m', f_211 178 s (yH κ m) = some (bI (bC (tSf th n t0 t1) (zOn R th n t0 t1 hand) (30 * n)), yH κ m') ∧ Br m' (bC (tSf th n t0 t1) (zOn R th n t0 t1 hand) (30 * n)) ∧ yFr sBm m m' := by
  have hn := hk.1
  have F0 : yFr sBm m (yW m 178 25 101) := yFr.w m (by unfold sBm; omega)
  have hb0 : bB none := fun c o j e => by cases e
  obtain ⟨m1, e1, B1, F1⟩ := m211_18 (κ := κ) (j := 0) hs hk hh oR (by omega) hb0 480 0 100000 (yW m 178 25 101) (by omega) (by omega) (hx.bm hs F0) (hr.bm hs F0) ⟨by rw [yW_self, upd_eq]; rfl, fun c o j e => by cases e⟩
  have F01 := F0.tr F1 (S3 := sBm) (fun _ _ => orSelf)
  have hb1 := bR_B (tSf th n t0 t1) th n t0 t1 hand R (j := 0) (by omega) hb0 480 (by omega)
  obtain ⟨m2, e2, B2, F2⟩ := m211_18 (κ := κ) (j := 1) hs hk hh oR (by omega) hb1 480 0 100000 m1 (by omega) (by omega) (hx.bm hs F01) (hr.bm hs F01) B1
  rw [bC_bR (fun mv h => tSf_lt hk h) (show 30 * n ≤ 480 by omega)] at e2 B2
  refine ⟨m2, ?_, B2, F01.tr F2 (fun _ _ => orSelf)⟩
  unfold f_211
  have e1' : f_211_18 100000 178 s (-1) 0 0 (yH κ (yW m 178 25 101)) = some (bI (bR (tSf th n t0 t1) (zOn R th n t0 t1 hand) 0 none 480), yH κ m1) := e1
  have e2' : f_211_18 100000 178 s (bI (bR (tSf th n t0 t1) (zOn R th n t0 t1 hand) 0 none 480)) (0 + 1) 0 (yH κ m1) = some (bI (bC (tSf th n t0 t1) (zOn R th n t0 t1 hand) (30 * n)), yH κ m2) := e2
  rw [yp_178_25, yBs, show (100000 : Nat) = 99997 + 1 + 1 + 1 from rfl]
  rw [f_211_10, if_neg (by decide), e1', yBs]
  dsimp only
  rw [f_211_10, if_neg (by decide), e2', yBs]
  dsimp only
  rw [f_211_10, if_pos (by decide), yBs]
end BF
section BG
variable {κ : yK} {m : yM} {A : zT} {H : zH} {K : zK} {C : zC} {D : List Int64} {E : zE} {F : zF}
/-- handOf() -/
theorem s126 {u : Nat} (c : cEn m E) (o : okE E) (hu : u < 2147483648) : f_126 0 (yN u) (yH κ m) = some (E.2.2.2.1 (u % E.2.2.1), yH κ m) := by
  obtain ⟨o1, o2, o3, -⟩ := o
  have hl : u % E.2.2.1 < E.2.2.1 := Nat.mod_lt _ (by omega)
  unfold f_126
  rw [yis_0, pG_t, yBs, s269 c.2.1.1 o1 o2 hu, yBs]
  dsimp only
  rw [if_neg (by rw [yN_ltl (by omega) (by omega)]; omega), if_neg (by rw [yN_lle (by omega) (by omega)]; omega), yr_0_14, yBs, ya_158 (by omega), yBs, c.2.1.2 _ hl, yBs]
theorem Rf.rx (c : Rf m A H K C D E F) (o : Ok A H K C D E F) : Rx m 180 (zMT A).1 (zMT A).2 := by
  have h4 := o.1.1.2.2.2
  have r50 : m.1 180 50 = yN (zho A) := c.1.2.2.2.1
  unfold zMT
  by_cases h : zho A = 0
  · rw [if_pos h]; exact Or.inl ⟨by rw [r50, h]; rfl, c.1.tor⟩
  · rw [if_neg h]; exact Or.inr ⟨by rw [r50, show (0 : Int32) = yN 0 from rfl, yN_lt (by omega) (by omega)]; omega, rfl, rfl⟩
theorem Rf.ro (c : Rf m A H K C D E F) (o : Ok A H K C D E F) : Ro m 180 E.1 E.2.1 (E.2.2.2.1 (zmv A)) E.2.2.2.2 :=
  ⟨⟨zmv A, o.1.1.2.2.1, c.1.2.2.1, c.2.2.2.2.2.1.2.1.2 _ o.1.2⟩, c.2.2.2.2.2.1.2.2, c.2.2.2.2.2.1.1.1, c.2.2.2.2.2.1.1.2⟩
end BG
theorem z_best : zCall (f_129 0) (f_212 178) := by
  intro κ A H K C D E F o
  have hk := zMT_ok o.1.1
  have hn := hk.1
  have oE := o.2.2.2.2.2.1
  have hm4 := o.1.1.2.2.1
  obtain ⟨st, hst⟩ : ∃ st, st = bC (tSf (zMT A).1 (zMT A).2 E.1 E.2.1) (zOn E.2.2.2.2 (zMT A).1 (zMT A).2 E.1 E.2.1 (E.2.2.2.1 (zmv A))) (30 * (zMT A).2) := ⟨_, rfl⟩
  have hb := bC_B (zMT A).1 (zMT A).2 E.1 E.2.1 (E.2.2.2.1 (zmv A)) E.2.2.2.2 (30 * (zMT A).2) (by omega)
  rw [← hst] at hb
  have X : ∀ m, Cl m A H K C D E F → ∃ m1, f_11 116 (zad A) (E.2.2.2.1 (zmv A)) (yH κ m) = some (yH κ m1) ∧ Bo m1 st ∧ Cl m1 A H K C D E F ∧ yG sC m m1 := fun m c => by
    obtain ⟨m1, e1, T1, B1, F1⟩ := s11 (κ := κ) (hand := E.2.2.2.1 (zmv A)) zad_tw (by rcases zad_or (A := A) with ⟨q, -⟩ | ⟨q, -⟩ <;> omega) hk oE.2.2.2 c.mt c.2.2.2.2.2.1.1.1 c.2.2.2.2.2.1.1.2 c.2.2.2.2.2.1.2.2.1
    have G1 : yG (sCh (zad A)) m m1 := F1.g (fun x j q => by unfold sB sTW sT sW at q; unfold sCh sT sW; omega)
    exact ⟨m1, e1, by rw [hst]; exact B1, c.ch o.2.1.1 G1 T1, G1.wk (fun _ _ => sCh_C)⟩
  have Y : ∀ m, Rf m A H K C D E F → ∃ m1, f_211 178 180 (yH κ m) = some (bI st, yH κ m1) ∧ Br m1 st ∧ Rf m1 A H K C D E F ∧ yG sR m m1 := fun m c => by
    obtain ⟨m1, e1, B1, F1⟩ := m211 (κ := κ) (Or.inl rfl) hk (oE.2.2.1 _ o.1.2) oE.2.2.2 (c.rx o) (c.ro o)
    rw [← hst] at e1 B1
    exact ⟨m1, e1, B1, c.fr (F1.g (fun _ _ q => q)) (fun _ _ => sBm_Rs), F1.g (fun _ _ => sBm_R)⟩
  have hmod : zmv A % E.2.2.1 = zmv A := Nat.mod_eq_of_lt o.1.2
  cases hs2 : st with
  | none =>
    rw [hs2] at X Y
    refine ⟨-2, A, H, K, C, D, E, F, o, fun m c => ?_, fun m c => ?_⟩
    · obtain ⟨m1, e1, B1, c1, g1⟩ := X m c
      refine ⟨m1, ?_, c1, g1⟩
      have b1 : m1.1 116 7 = -1 := B1
      have e6 := s126 (κ := κ) (u := zmv A) c.2.2.2.2.2.1 oE (by omega)
      rw [hmod] at e6
      unfold f_129
      simp (disch := first | assumption | omega) only [yr_0_8, yis_0, yBs, pG_t, pZ_0, pZ_1, pZ_B, s125z c o, yr_0_2, ys_i1 ysw_5, c.1.2.1, e6, yis_116, e1, yi_116_7, b1, if_true]
    · obtain ⟨c0, g0⟩ := c.th 0
      obtain ⟨m1, e1, B1, c1, g1⟩ := Y _ c0
      refine ⟨m1, ?_, c1, g0.tr g1 (fun _ _ => orSelf)⟩
      unfold f_212
      rw [yp_178_0, yBs, yr_178_3, yBs, yis_178, pG_t, yBs, e1, yBs]
      dsimp only
      rw [if_neg (by decide)]
  | some q =>
    obtain ⟨cc, oo, jj⟩ := q
    rw [hs2] at X Y
    obtain ⟨h1, h2, h3⟩ := hb _ _ _ hs2
    refine ⟨yN cc, A, H, K, C, [(yN oo).toInt64, (yN jj).toInt64], E, F, ⟨o.1, o.2.1, o.2.2.1, o.2.2.2.1, by simp, o.2.2.2.2.2⟩, fun m c => ?_, fun m c => ?_⟩
    · obtain ⟨m1, e1, B1, c1, g1⟩ := X m c
      refine ⟨_, ?_, c1.row o.2.1.1 _, g1.tr (rAs_g m1 _) (fun x j q => q.elim id sA3_C)⟩
      obtain ⟨b1, b2, b3⟩ := B1
      have e6 := s126 (κ := κ) (u := zmv A) c.2.2.2.2.2.1 oE (by omega)
      rw [hmod] at e6
      have k1 : ∀ l : List Int64, (rAs m1 l).1 116 = m1.1 116 := fun l => rAs_row (by omega)
      have b1n : (yN cc = -1) = False := yN_eqm (by omega)
      unfold f_129
      simp (disch := first | assumption | omega) only [yr_0_8, yis_0, yBs, pG_t, pZ_0, pZ_1, pZ_B, s125z c o, yr_0_2, ys_i1 ysw_5, c.1.2.1, e6, yis_116, e1, yi_116_7, b1, b1n, if_false, yr_0_1, yis_3, s50, s51a, s51b, yi_116_8, yi_116_9, k1, b2, b3]
    · obtain ⟨c0, g0⟩ := c.th 0
      obtain ⟨m1, e1, B1, c1, g1⟩ := Y _ c0
      refine ⟨_, ?_, c1.row _, (g0.tr g1 (fun _ _ => orSelf)).tr (rBs_g m1 _) (fun x j q => q.elim id sB3_R)⟩
      have b25 : m1.1 178 25 = yN oo := B1.1
      have b26 : m1.1 178 26 = yN jj := B1.2 _ _ _ rfl
      have k1 : ∀ l : List Int64, (rBs m1 l).1 178 26 = m1.1 178 26 := fun l => rBs_fl (by omega)
      have k2 : (yW m1 178 1 0).1 178 25 = m1.1 178 25 := by rw [yW_get, if_neg (by omega)]
      unfold f_212
      rw [yp_178_0, yBs, yr_178_3, yBs, yis_178, pG_t, yBs, e1, yBs]
      dsimp only
      rw [if_pos (by show 0 ≤ yN cc; rw [yI0n (by omega)]; trivial)]
      simp (disch := first | assumption | omega) only [yp_178_1, yi_178_25, yi_178_26, yis_178, yBs, pG_t, pZ_0, pZ_1, pZ_B, k2, b25, s165_0, k1, b26, s165b]
      rfl
theorem z_odds (p q : Int32) : zCall (f_128 0 p q) (f_210 178 p q) := by
  intro κ A H K C D E F o
  have hk := zMT_ok o.1.1
  have hn := hk.1
  have oE := o.2.2.2.2.2.1
  have hm4 := o.1.1.2.2.1
  have hmod : zmv A % E.2.2.1 = zmv A := Nat.mod_eq_of_lt o.1.2
  by_cases hq : 0 ≤ q ∧ q ≤ 1
  · have hq0 : ¬ q < 0 := yLe_lt hq.1
    obtain ⟨j, hj, rfl⟩ := yN_of' hq.1
    by_cases h : ∃ mv, mv < 2147483648 ∧ p = yN mv ∧ tCg (zMT A).1 (zMT A).2 mv = true
    · obtain ⟨mv, hm, rfl, hc⟩ := h
      have his : ∀ m, pIs (yH κ m) (zad A) 10 = true := fun m => yt_is zad_tw
      cases hs : tSf (zMT A).1 (zMT A).2 E.1 E.2.1 mv with
      | false =>
        refine ⟨100, A, H, K, C, [0], E, F, ⟨o.1, o.2.1, o.2.2.1, o.2.2.2.1, by simp, o.2.2.2.2.2⟩, fun m c => ?_, fun m c => ?_⟩
        · obtain ⟨m1, e1, T1, -, F1⟩ := s7 (κ := κ) zad_tw (by rcases zad_or (A := A) with ⟨q, -⟩ | ⟨q, -⟩ <;> omega) hk c.mt c.2.2.2.2.2.1.1.1 c.2.2.2.2.2.1.1.2 hm
          have G1 : yG (sCh (zad A)) m m1 := F1.g (fun x j q => by unfold sTW sT sW at q; unfold sCh sT sW; omega)
          have c1 := c.ch o.2.1.1 G1 T1
          rw [hs, yB_f] at e1
          refine ⟨_, ?_, c1.row o.2.1.1 _, (G1.wk (fun _ _ => sCh_C)).tr (rAs_g m1 _) (fun x j q => q.elim id sA3_C)⟩
          unfold f_128
          rw [if_neg hq0, if_pos hq.2]
          simp (disch := first | assumption | omega) only [yis_0, yBs, pG_t, pZ_0, pZ_1, pZ_B, s125z c o, his, s102 zad_tw c.mt hk, hc, yB_t, y10, if_false, yr_0_8, yis_116, e1, if_true, yr_0_1, yis_3, s50, s51a]
        · obtain ⟨c0, g0⟩ := c.th 0
          obtain ⟨m1, e1, c1, g1⟩ := m204 (κ := κ) c0 o hm
          rw [hs, yB_f] at e1
          refine ⟨_, ?_, c1.row _, (g0.tr (g1.wk (S3 := sR) (fun _ _ => sI_R)) (fun _ _ => orSelf)).tr (rBs_g m1 _) (fun x j q => q.elim id sB3_R)⟩
          unfold f_210
          simp (disch := first | assumption | omega) only [yp_178_0, yBs]
          rw [s162l _ 0 1 0 1 rfl rfl, decide_eq_true hq]
          simp (disch := first | assumption | omega) only [yB_t, y10, if_false, yBs, pG_t, pZ_0, pZ_1, pZ_B, yr_178_3, m202 c0 o, hc, yis_178, e1, yp_178_1, s163_0, s165_0, if_true]
          rfl
      | true =>
        refine ⟨zOd E.2.2.2.2 (zMT A).1 (zMT A).2 E.1 E.2.1 (E.2.2.2.1 (zmv A)) (yN j) mv, A, H, K, C, [1], E, F, ⟨o.1, o.2.1, o.2.2.1, o.2.2.2.1, by simp, o.2.2.2.2.2⟩, fun m c => ?_, fun m c => ?_⟩
        · have hd : zad A + 4 < 105 ∨ 117 < zad A := by rcases zad_or (A := A) with ⟨q, -⟩ | ⟨q, -⟩ <;> omega
          obtain ⟨m1, e1, T1, -, F1⟩ := s7 (κ := κ) zad_tw (by omega) hk c.mt c.2.2.2.2.2.1.1.1 c.2.2.2.2.2.1.1.2 hm
          have G1 : yG (sCh (zad A)) m m1 := F1.g (fun x j q => by unfold sTW sT sW at q; unfold sCh sT sW; omega)
          have c1 := c.ch o.2.1.1 G1 T1
          rw [hs, yB_t] at e1
          have c2 := c1.row o.2.1.1 [1]
          obtain ⟨m3, e3, N3, F3⟩ := s9 (κ := κ) (hand := E.2.2.2.1 (zmv A)) zad_tw hd hk c2.mt hc c2.2.2.2.2.2.1.1.1 c2.2.2.2.2.2.1.1.2 hm
          have G3 : yG (sCh (zad A)) (rAs m1 [1]) m3 := F3.g (fun x j q => by unfold s117 sW at q; unfold sCh sW; omega)
          have T3 := c2.mt.fr F3 (fun x j p q => by unfold s117 sW; omega)
          have c3 := c2.ch o.2.1.1 G3 T3
          obtain ⟨m4, e4, F4⟩ := s10 (κ := κ) (jk := yN j) N3 c3.2.2.2.2.2.1.2.2.1 oE.2.2.2
          have G4 : yG (sCh (zad A)) m3 m4 := F4.g (fun x j q => by unfold s114 at q; unfold sCh; omega)
          have c4 := c3.ch o.2.1.1 G4 (c3.mt.fr F4 (fun x j p q => by unfold s114; omega))
          refine ⟨m4, ?_, c4, (((G1.wk (fun _ _ => sCh_C)).tr (rAs_g m1 [1]) (S3 := sC) (fun x j q => q.elim id sA3_C)).tr (G3.wk (S3 := sC) (fun _ _ => sCh_C)) (fun _ _ => orSelf)).tr (G4.wk (S3 := sC) (fun _ _ => sCh_C)) (fun _ _ => orSelf)⟩
          have e6 := s126 (κ := κ) (u := zmv A) c2.2.2.2.2.2.1 oE (by omega)
          rw [hmod] at e6
          unfold f_128
          rw [if_neg hq0, if_pos hq.2]
          simp (disch := first | assumption | omega) only [yis_0, yBs, pG_t, pZ_0, pZ_1, pZ_B, s125z c o, his, s102 zad_tw c.mt hk, hc, yB_t, y10, if_false, yr_0_8, yis_116, e1, yr_0_1, yis_3, s50, s51a, yr_0_2, ys_i1 ysw_5, c2.1.2.1, e6, e3, e4]
        · obtain ⟨c0, g0⟩ := c.th 0
          obtain ⟨m1, e1, c1, g1⟩ := m204 (κ := κ) c0 o hm
          rw [hs, yB_t] at e1
          have c2 := c1.row [1]
          obtain ⟨⟨u, u1, u2, u3⟩, r1, r2, r3⟩ := c2.ro ⟨o.1, o.2.1, o.2.2.1, o.2.2.2.1, by simp, o.2.2.2.2.2⟩
          obtain ⟨m3, e3, F3⟩ := m208 (κ := κ) (jk := yN j) yAr_180 (by omega) hk ((c2.rx ⟨o.1, o.2.1, o.2.2.1, o.2.2.2.1, by simp, o.2.2.2.2.2⟩).tor hc) hc hm u2 u1 u3 (oE.2.2.1 _ o.1.2) r1 oE.2.2.2 r2 r3
          refine ⟨m3, ?_, c2.fr (F3.g (fun _ _ q => q)) (fun x j q => by unfold sO sM at q; unfold sRs; omega), ((g0.tr (g1.wk (S3 := sR) (fun _ _ => sI_R)) (fun _ _ => orSelf)).tr (rBs_g m1 [1]) (S3 := sR) (fun x j q => q.elim id sB3_R)).tr (F3.g (S3 := sR) (fun x j q => by unfold sO sM at q; unfold sR; omega)) (fun _ _ => orSelf)⟩
          have e10 : ((1 : Int32).toInt64) = 1 := rfl
          unfold f_210
          simp (disch := first | assumption | omega) only [yp_178_0, yBs]
          rw [s162l _ 0 1 0 1 rfl rfl, decide_eq_true hq]
          simp (disch := first | assumption | omega) only [yB_t, y10, if_false, yBs, pG_t, pZ_0, pZ_1, pZ_B, yr_178_3, m202 c0 o, hc, yis_178, e1, yp_178_1, s163_1, s165_0, e10, e3]
    · refine ⟨-2, A, H, K, C, D, E, F, o, zCx.same fun m c => ?_, zCm.same fun m c => ?_⟩
      · have key : f_102 (zad A) p (yH κ m) = some (0, yH κ m) := by
          by_cases hp : p < 0
          · exact s102m hp
          · obtain ⟨k, hk2, rfl⟩ := yN_of hp
            rw [s102 zad_tw c.mt hk hk2]
            cases hq : tCg (zMT A).1 (zMT A).2 k with
            | false => rfl
            | true => exact absurd ⟨k, hk2, rfl, hq⟩ h
        have his : pIs (yH κ m) (zad A) 10 = true := yt_is zad_tw
        unfold f_128
        rw [if_neg hq0, if_pos hq.2]
        simp (disch := first | assumption | omega) only [yis_0, yBs, pG_t, pZ_0, pZ_1, pZ_B, s125z c o, his, key, if_true]
      · obtain ⟨c0, g0⟩ := c.th 0
        have key : f_202 180 p (yH κ (yW m 178 0 0)) = some (0, yH κ (yW m 178 0 0)) := by
          by_cases hp : p < 0
          · exact s202m yAr_180 hp
          · obtain ⟨k, hk2, rfl⟩ := yN_of hp
            rw [m202 c0 o hk2]
            cases hq : tCg (zMT A).1 (zMT A).2 k with
            | false => rfl
            | true => exact absurd ⟨k, hk2, rfl, hq⟩ h
        unfold f_210
        simp (disch := first | assumption | omega) only [yp_178_0, yBs]
        rw [s162l _ 0 1 0 1 rfl rfl, decide_eq_true hq]
        simp (disch := first | assumption | omega) only [yB_t, y10, if_false, yBs, pG_t, pZ_0, pZ_1, pZ_B, yr_178_3, key, if_true]
  · refine ⟨-1, A, H, K, C, D, E, F, o, zCx.same fun m c => ?_, zCm.same fun m c => ?_⟩
    · unfold f_128
      by_cases h1 : q < 0
      · rw [if_pos h1]
      · rw [if_neg h1, if_neg (fun a => hq ⟨yLe_of_lt h1, a⟩)]
    · unfold f_210
      simp (disch := first | assumption | omega) only [yp_178_0, yBs]
      rw [s162l _ 0 1 0 1 rfl rfl, decide_eq_false hq]
      simp only [yBs, pZ_0, pZ_1, pZ_B, if_true, if_false, y10, y01, yB_t, yB_f]
