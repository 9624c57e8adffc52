section XC
variable {P : xP} {d M : Nat} {p : Program} {l : Launch} {e : Env} {R : Room} {s : State} {m : MethodId} {args : Array Value} {below : List Frame} {meth : Method} {c : Code} {Q : State → Prop} {c0 s0 : Nat}
theorem xw_sz {H : Heap} {locs : List Loc} {cells slots : Nat} {g : JFrame} (k : H.size ≤ s.heap.size + cells → W p l e R s m args below meth c H locs cells slots Q g) : W p l e R s m args below meth c H locs cells slots Q g :=
  fun T hT X => k (by have h := X.same.2.2.1; rw [← hT]; exact h) T hT X
theorem xs_getf (F : xFr P c0 d M p R s m args meth c) {pc i : Nat} {ls : xL} {st : List Value} {h : xH} {a : xA} (hd : decode (xCode M) pc = .ok (.getfield i, 3)) (hs : xGetf M i pc ls st h = some a) :
    ∃ pc' ls' st', a = .inl (pc', ls', st', h) ∧ (xGo P M p l e R s m args below meth c Q c0 s0 pc' ls' st' h → xGo P M p l e R s m args below meth c Q c0 s0 pc ls st h) := by
  obtain ⟨hx, hb, -, -, hown, hts, -, -, g, -⟩ := id F
  unfold xGetf at hs
  split at hs
  next a r ci k ne hf =>
    split at hs
    next cj fs hk =>
      split at hs
      next hc =>
        subst hc
        split at hs
        next v hv =>
          obtain rfl := Option.some.inj hs
          refine ⟨_, _, _, rfl, fun kk arr H locs h1 h2 h3 h4 h5 => ?_⟩
          obtain ⟨⟨C, T, N⟩, hr, hkN, ho1, hl⟩ := xFld_ok hf
          obtain ⟨hci, hty, hnm, hin⟩ := xCl_ok hr
          have ha := xRep.inO g h2 hk hci
          have he : (xW P h)[a]? = some (xAd P a, .inr (cj, fs.map (xV (xAd P)))) := by rw [xW_get P ha, hk]; rfl
          have hv' : (fs.map (xV (xAd P)))[k]? = some (xV (xAd P) v) := by rw [List.getElem?_map, hv]; rfl
          have ho2 : (T k).1 = C := ho1
          rcases hl with ⟨-, hl⟩ | ⟨-, hl⟩
          · exact va_get hx hb hts hin hown g.2.1 h2.2.1 a he hr k hkN (hts _ hl) (fun x h9 => by rw [ho2] at h9; exact h9) hv' hd (kk arr H locs h1 h2 h3 h4 h5)
          · exact va_getN hx hb hts hin hown g.2.1 h2.2.1 a he hr k hkN (va_Nw.use rfl (g.2.2.1 _ hl rfl)) (fun x h9 => by rw [ho2] at h9; exact h9) hv' hd (kk arr H locs h1 h2 h3 h4 h5)
        next => cases hs
      next => cases hs
    next => cases hs
  next => cases hs
theorem xFits_ok {t : FieldType} {v : Value} {β : Nat → Nat} (h : xFits t v = true) : narrow t (xV β v) = xV β v ∧ fits t (xV β v) = true := by
  simp only [xFits, Bool.and_eq_true, decide_eq_true_eq] at h
  obtain ⟨h1, h2⟩ := h
  cases v with
  | ref a => cases t <;> first | exact ⟨rfl, rfl⟩ | (simp [fits] at h2)
  | _ => exact ⟨h1, h2⟩
theorem x_map_set (β : Nat → Nat) (fs : List Value) (k : Nat) (v : Value) : (fs.map (xV β)).set k (xV β v) = (fs.set k v).map (xV β) := by rw [List.map_set]
theorem xs_putf (F : xFr P c0 d M p R s m args meth c) {pc i : Nat} {ls : xL} {st : List Value} {h : xH} {a : xA} (hd : decode (xCode M) pc = .ok (.putfield i, 3)) (hs : xPutf M i pc ls st h = some a) :
    ∃ pc' ls' st' b k, a = .inl (pc', ls', st', xPut h b k) ∧ (xGo P M p l e R s m args below meth c Q c0 s0 pc' ls' st' (xPut h b k) → xGo P M p l e R s m args below meth c Q c0 s0 pc ls st h) := by
  obtain ⟨hx, hb, -, -, hown, hts, -, hini, g, -⟩ := id F
  unfold xPutf at hs
  split at hs
  next v a r ci k ne hf =>
    split at hs
    next cj fs hk =>
      split at hs
      next hc =>
        obtain ⟨rfl, hkl, hft, hfin⟩ := hc
        obtain rfl := Option.some.inj hs
        refine ⟨_, _, _, _, _, rfl, fun kk arr H locs h1 h2 h3 h4 h5 => ?_⟩
        obtain ⟨⟨C, T, N⟩, hr, hkN, ho1, hl⟩ := xFld_ok hf
        obtain ⟨hci, hty, hnm, hin⟩ := xCl_ok hr
        have ha := xRep.inO g h2 hk hci
        have he : (xW P h)[a]? = some (xAd P a, .inr (cj, fs.map (xV (xAd P)))) := by rw [xW_get P ha, hk]; rfl
        have ho2 : (T k).1 = C := ho1
        have hD := g.D (h := h) h2.1
        obtain ⟨hn1, hn2⟩ := xFits_ok (β := xAd P) hft
        have hl1 : k < (fs.map (xV (xAd P))).length := by rw [List.length_map]; exact hkl
        have hTy := hty k hkN
        have fin : ∀ (H1 : Heap) (locs1 : List Loc), va_P (xDD P) vwCl ((xW P h).set a (xAd P a, .inr (cj, (fs.map (xV (xAd P))).set k (xV (xAd P) v)))) H1 → va_D (xAA P) ((xW P h).set a (xAd P a, .inr (cj, (fs.map (xV (xAd P))).set k (xV (xAd P) v)))) → va_S (xAA P) s.heap H1 locs1 → W p l e R s m args below meth c H1 locs1 (h.1 + h.2.2.1 - c0) (h.2.1 - s0) Q (F0 m (pc + 3) arr (r.map (xV (xAd P)))) := by
          intro H1 locs1 hP1 hD1 hS1
          rw [x_map_set] at hP1
          exact kk arr H1 locs1 h1 (h2.put ha hP1) hS1 h4 h5
        have hfq : xFin cj k = (T k).2.2.2 := by unfold xFin; rw [hr]
        rcases hl with ⟨-, hl⟩ | ⟨hne, hl⟩
        · by_cases hf0 : (T k).2.2.2 = false
          · exact va_put hx hb hts hin _ hty hnm hown g.2.1 h2.2.1 hD h3 a he hr k hkN (hts _ hl) (fun x h9 => by rw [ho2] at h9; exact h9) hf0 hTy hn1 hn2 hl1 hd fin
          · have hf1 : (T k).2.2.2 = true := by simpa using hf0
            rcases hfin with h0 | ⟨-, ho, hi⟩
            · rw [hfq, hf1] at h0; cases h0
            · have hco : C = xCls cj := by
                have := List.all_eq_true.mp xObjC_ok cj (List.mem_range.mpr hci)
                unfold xObjC at this
                rw [hr] at this
                simp only [Bool.and_eq_true, decide_eq_true_eq] at this
                exact this.1.1.1.1.1
              exact va_putF hx hb hts hin _ hty hnm hown g.2.1 h2.2.1 hD h3 a he hr k hkN (hts _ hl) (fun x h9 => by rw [ho2] at h9; exact h9) hf1 (hini hi) (by rw [ho2, ho]; exact hco) hTy hn1 hn2 hl1 hd fin
        · rcases hfin with h0 | ⟨h0, -⟩
          · exact va_putN hx hb hts hin _ hty hnm hown g.2.1 h2.2.1 hD h3 a he hr k hkN (va_Nw.use rfl (g.2.2.1 _ hl rfl)) (fun x h9 => by rw [ho2] at h9; exact h9) (by rw [← hfq]; exact h0) hTy hn1 hn2 hl1 hd fin
          · exact absurd h0 hne
      next => cases hs
    next => cases hs
  next => cases hs
/-- a new cell comes at the next address -/
theorem x_newAt {U : State} (g : xGl P U) {h : xH} {H1 : Heap} {q : Nat} {k : va_E} (hK : h.1 < xKb) (hg0 : h.2.2.1 = 0) (hc0 : c0 ≤ h.1 + h.2.2.1) (hz0 : s.heap.size ≤ xBs P + c0) (hz : H1.size ≤ s.heap.size + (h.1 + h.2.2.1 - c0 + 1)) (hP : va_P (xDD P) vwCl (xW P h ++ [(q, k)]) H1) (hD : va_D (xAA P) (xW P h ++ [(q, k)])) : q = xAd P h.1 := by
  have hq : (xW P h ++ [(q, k)])[h.1]? = some (q, k) := by
    rw [List.getElem?_append_right (by rw [xW_len]; exact Nat.le_refl _), xW_len]
    simp
  have h1 : q < H1.size := (hP _ _ hq).lt
  have h2 : xBs P ≤ q := hD.2 _ _ hq
  have h3 : ∀ i, i < h.1 → q ≠ xBs P + i := by
    intro i hi e
    have h4 : (xW P h ++ [(q, k)])[i]? = some (xAd P i, xCe (xAd P) (xCA P) (h.2.2.2 i)) := by
      rw [List.getElem?_append_left (by rw [xW_len]; exact hi), xW_get P hi]
    have h5 := hD.1 i h.1 _ _ h4 hq (by rw [g.1 i (by omega)]; exact e.symm)
    omega
  rw [g.1 h.1 hK]
  by_cases h6 : q < xBs P + h.1
  · exact absurd (show q = xBs P + (q - xBs P) by omega) (h3 (q - xBs P) (by omega))
  · omega
theorem xRep.add {h : xH} {H H1 : Heap} (r : xRep P h H) {n : Nat} {k : xE} (hK : h.1 < xKb) (hP : va_P (xDD P) vwCl (xW P h ++ [(xAd P h.1, xCe (xAd P) (xCA P) k)]) H1) : xRep P (xAdd h n k) H1 := by
  obtain ⟨r2, r3, r4, r5⟩ := r
  refine ⟨hK, by rw [← xW_add P h n]; exact hP, fun b h1 h2 => ?_, fun b h1 => ?_⟩
  · have h1 : h.1 + 1 ≤ b := h1
    show va_up h.2.2.2 h.1 k b = xNo
    rw [va_up_ne _ _ (show b ≠ h.1 by omega)]
    exact r4 b (by omega) h2
  · show va_up h.2.2.2 h.1 k b = xKc P b
    rw [va_up_ne _ _ (show b ≠ h.1 by omega)]
    exact r5 b h1
theorem x_tys (P : xP) {t : Nat} {q : ClassId × FieldType} (h : (xTys P)[t]? = some q) : q.1 = xCA P t := by
  match t, h with
  | 0, h => cases h; rfl
  | 1, h => cases h; rfl
  | 2, h => cases h; rfl
  | 3, h => cases h; rfl
  | k + 4, h => simp [xTys] at h
theorem x_RA {U : State} {a b : ClassId} {ty : FieldType} (h1 : va_RA U a ty) (h2 : va_RA U b ty) : a = b := by
  cases ty with
  | object C =>
    obtain ⟨_, _, -, -, -, h3⟩ := h1
    obtain ⟨_, _, -, -, -, h4⟩ := h2
    exact Option.some.inj (h3.symm.trans h4)
  | _ => exact Option.some.inj (Eq.trans (Eq.symm h1) h2)
/-- the class of a new array is the one that the tables have -/
theorem x_newC {U : State} (g : xGl P U) {cA : ClassId} {ty : FieldType} {t : Nat} (ht : (xTys P)[t]? = some (xCA P t, ty)) (hK : va_K (xDD P) vwCl (xTys P ++ [(cA, ty)]) U) : cA = xCA P t := by
  have h1 := (hK.2 4 (cA, ty) (by simp [xTys])).2
  have h2 := (g.2.1.2 t _ ht).2
  exact x_RA h1 h2
end XC
