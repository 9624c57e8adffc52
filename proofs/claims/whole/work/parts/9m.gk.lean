/-! ===== games: the reference's search ===== -/
def RG (m : yM) (s : gS) (hw : Int32) : Prop := m.1 178 37 = yN s.1.length ∧ m.1 178 38 = yB s.2 ∧ rNd m s.1 hw ∧ rSl m s.1
theorem RG.c {m m' : yM} {s : gS} {hw : Int32} (h : RG m s hw) (a : ∀ x j, ((x = 178 ∧ (j = 37 ∨ j = 38)) ∨ (195 ≤ x ∧ x ≤ 199)) → m'.1 x j = m.1 x j) : RG m' s hw := by
  obtain ⟨h1, h2, h3, ⟨T, h5, h6⟩⟩ := h
  refine ⟨by rw [a _ _ (by omega)]; exact h1, by rw [a _ _ (by omega)]; exact h2, fun k e he => ?_, ⟨T, fun s hs => by rw [a _ _ (by omega)]; exact h5 s hs, h6⟩⟩
  obtain ⟨r1, r2, r3, r4, r5, r6⟩ := h3 k e he
  exact ⟨fun b hb => by rw [a _ _ (by omega)]; exact r1 b hb, by rw [a _ _ (by omega)]; exact r2, by rw [a _ _ (by omega)]; exact r3, by rw [a _ _ (by omega)]; exact r4, by rw [a _ _ (by omega)]; exact r5, by rw [a _ _ (by omega)]; exact r6⟩
/-- a tower is noted, if it is new -/
def gPt (s : gS) (x : zN) (p q : Int32) (d : Nat) : gS := if gLk s.1 x = none then (if s.1.length = 400 then (s.1, true) else (s.1 ++ [(x, p, q, d)], false)) else s
theorem gPt_st {φ : Bool} {t0 t1 : Int32} {i d m : Nat} {x : zN} {s : gS} (hf : s.2 = false) (hs : gSf φ t0 t1 x m = true) : gSt φ t0 t1 i x d s m = gPt s (gNx x m) (yN i) (yN m) (d + 1) := by
  unfold gSt gPt
  by_cases q : gLk s.1 (gNx x m) = none
  · rw [if_pos ⟨hf, hs, q⟩, if_pos q]
  · rw [if_neg (fun z => q z.2.2), if_neg q]
section GK
variable {κ : yK} {hw : Int32}
theorem m227 {m : yM} {p d : Nat} {s : gS} {x : zN} {a b : Int32} (hp : yAr p) (h195 : p ≠ 195 ∧ p ≠ 178 ∧ (p < 195 ∨ 199 < p)) (hl : s.1.length ≤ 400) (hf : s.2 = false) (hD : dupF s.1) (hG : RG m s hw) (hx : Rw m p x hw) (ha : (a = -1 ∧ d = 0) ∨ ∃ i d' : Nat, i < s.1.length ∧ a = yN i ∧ m.1 198 i = yN d' ∧ d = d' + 1) :
    ∃ m', f_227 178 p a b (yH κ m) = some (yH κ m') ∧ RG m' (gPt s x a b d) hw ∧ yFr (fun y j => (195 ≤ y ∧ y ≤ 199) ∨ (y = 178 ∧ (j = 37 ∨ j = 38))) m m' := by
  have hG0 := hG
  obtain ⟨c37, c38, cN, cS⟩ := hG0
  unfold gPt
  rcases m225 (κ := κ) (hw := hw) hp hx.1 hl cN cS hD with ⟨hq, dd, T, hdd, hT, P, ho, hwk, e⟩ | ⟨t, sl, hq, hsl, hv, e⟩
  · rw [if_pos hq]
    have hlt := Nat.mod_lt (rHa x.1 + dd) (show 0 < 2048 by omega)
    have es : pAi (yH κ m) 199 (yN ((rHa x.1 + dd) % 2048)) = some (-1) := by rw [show pAi (yH κ m) 199 (yN ((rHa x.1 + dd) % 2048)) = _ from ya_199 hlt, hT _ hlt, ho]; rfl
    by_cases h4 : s.1.length = 400
    · rw [if_pos h4]
      refine ⟨yW m 178 38 1, ?_, ⟨?_, ?_, fun k e he => ?_, ⟨T, fun s hs => ?_, P⟩⟩, yFr.w m (Or.inr ⟨rfl, Or.inr rfl⟩)⟩
      · unfold f_227
        rw [yis_178, pG_t, yBs, e, yBs]
        dsimp only
        rw [yr_178_36, yBs, es, yBs, if_pos (by decide), yi_178_37, yBs, c37, h4, if_pos (by decide), yp1_178_38, yBs]
      · rw [yW_get, if_neg (by omega)]; exact c37
      · rw [yW_self, upd_eq]; rfl
      · obtain ⟨r1, r2, r3, r4, r5, r6⟩ := cN k e he
        rw [yW_row (by omega), yW_row (by omega), yW_row (by omega), yW_row (by omega)]
        exact ⟨r1, r2, r3, r4, r5, r6⟩
      · rw [yW_row (by omega)]; exact hT s hs
    · rw [if_neg h4]
      have hlen : s.1.length < 400 := by omega
      generalize hN : s.1.length = N at *
      let m1 := yR m 195 (cpO (m.1 p) 0 (m.1 195) (54 * N) 0)
      have h1o : ∀ y, y ≠ 195 → m1.1 y = m.1 y := fun y h => yR_ne _ _ h
      have h1n : ∀ j, j < 54 → m1.1 195 (54 * N + j) = m.1 p j := fun j hj => by
        show (yR m 195 _).1 195 _ = _
        rw [yR_eq, cpO_in hj, Nat.zero_add]
      have h1k : ∀ j, j < 54 * N → m1.1 195 j = m.1 195 j := fun j hj => by
        show (yR m 195 _).1 195 _ = _
        rw [yR_eq, cpO_out (Or.inl hj)]
      let m2 := yW (yW (yW (yW (yW m1 196 N a) 197 N b) 198 N (yN d)) 199 ((rHa x.1 + dd) % 2048) (yN N)) 178 37 (yN (N + 1))
      have h2 : ∀ y j, m2.1 y j = if y = 178 ∧ j = 37 then yN (N + 1) else if y = 199 ∧ j = (rHa x.1 + dd) % 2048 then yN N else if y = 198 ∧ j = N then yN d else if y = 197 ∧ j = N then b else if y = 196 ∧ j = N then a else m1.1 y j := fun y j => by
        show (yW (yW (yW (yW (yW m1 196 N a) 197 N b) 198 N (yN d)) 199 _ (yN N)) 178 37 _).1 y j = _
        rw [yW_get, yW_get, yW_get, yW_get, yW_get]
      have h2r : ∀ j, m2.1 195 j = m1.1 195 j := fun j => by rw [h2, if_neg (by omega), if_neg (by omega), if_neg (by omega), if_neg (by omega), if_neg (by omega)]
      have ew : ((if (0 : Int32) ≤ a then (some 198).bind fun x25 => (pAi (yH κ (yW (yW m1 196 N a) 197 N b)) x25 a).bind fun x26 => some ((x26 + 1)) else some (0)) : Option Int32) = some (yN d) := by
        rcases ha with ⟨rfl, rfl⟩ | ⟨i, d', hi, rfl, hi2, rfl⟩
        · rw [if_neg (by decide)]; rfl
        · rw [if_pos (by rw [yN_lle (by omega) (by omega)]; exact Nat.zero_le _), yBs, show pAi (yH κ (yW (yW m1 196 N (yN i)) 197 N b)) 198 (yN i) = _ from ya_198 (by omega), yBs, yW_row (by omega), yW_row (by omega), h1o _ (by omega), hi2, yN_addl]
      refine ⟨m2, ?_, ⟨?_, ?_, fun k e he => ?_, ⟨upT T ((rHa x.1 + dd) % 2048) N, fun s hs => ?_, ?_⟩⟩, rfl, fun y j q => ?_⟩
      · unfold f_227
        rw [yis_178, pG_t, yBs, e, yBs]
        dsimp only
        rw [yr_178_36, yBs, es, yBs, if_pos (by decide), yi_178_37, yBs, c37, if_neg (by rw [yN_eql (by omega) (by omega)]; exact h4), show f_227_37 100000 178 p a b (yN ((rHa x.1 + dd) % 2048)) 0 (yH κ m) = some (yH κ m1) from m227_37 hp ⟨h195.1, h195.2.1⟩ hlen 54 0 100000 m (by omega) (by omega) c37, yBs, yr_178_33, yBs, yi_178_37, yBs, h1o 178 (by omega), c37, yst_196 hlen, yBs, yr_178_34, yBs, yi_178_37, yBs, yW_row (by omega), h1o 178 (by omega), c37, yst_197 hlen, yBs, yr_178_35, yBs, yi_178_37, yBs, yW_row (by omega), yW_row (by omega), h1o 178 (by omega), c37, ew, yBs, yst_198 hlen, yBs, yr_178_36, yBs, yi_178_37, yBs, yW_row (by omega), yW_row (by omega), yW_row (by omega), h1o 178 (by omega), c37, yst_199 hlt, yBs, yi_178_37, yBs, yW_row (by omega), yW_row (by omega), yW_row (by omega), yW_row (by omega), h1o 178 (by omega), c37, yN_addl, yp_178_37, yBs]
      · rw [h2, if_pos ⟨rfl, rfl⟩, List.length_append, hN]; rfl
      · rw [h2, if_neg (by omega), if_neg (by omega), if_neg (by omega), if_neg (by omega), if_neg (by omega), h1o _ (by omega), c38, hf]
      · rcases ge_one he with ⟨hk, rfl⟩ | ⟨hk, he⟩
        · rw [hN] at hk
          subst hk
          refine ⟨fun b hb => ?_, ?_, ?_, ?_, ?_, ?_⟩
          · rw [h2r, h1n b (by omega)]; exact hx.1 b hb
          · rw [h2r, h1n 48 (by omega)]; exact hx.2.1
          · rw [h2r, h1n 50 (by omega)]; exact hx.2.2
          · rw [h2, if_neg (by omega), if_neg (by omega), if_neg (by omega), if_neg (by omega), if_pos ⟨rfl, rfl⟩]
          · rw [h2, if_neg (by omega), if_neg (by omega), if_neg (by omega), if_pos ⟨rfl, rfl⟩]
          · rw [h2, if_neg (by omega), if_neg (by omega), if_pos ⟨rfl, rfl⟩]
        · rw [hN] at hk
          obtain ⟨r1, r2, r3, r4, r5, r6⟩ := cN k e he
          refine ⟨fun b hb => ?_, ?_, ?_, ?_, ?_, ?_⟩
          · rw [h2r, h1k _ (by omega)]; exact r1 b hb
          · rw [h2r, h1k _ (by omega)]; exact r2
          · rw [h2r, h1k _ (by omega)]; exact r3
          · rw [h2, if_neg (by omega), if_neg (by omega), if_neg (by omega), if_neg (by omega), if_neg (by omega), h1o _ (by omega)]; exact r4
          · rw [h2, if_neg (by omega), if_neg (by omega), if_neg (by omega), if_neg (by omega), if_neg (by omega), h1o _ (by omega)]; exact r5
          · rw [h2, if_neg (by omega), if_neg (by omega), if_neg (by omega), if_neg (by omega), if_neg (by omega), h1o _ (by omega)]; exact r6
      · rw [h2, if_neg (by omega)]
        unfold upT
        by_cases w : s = (rHa x.1 + dd) % 2048
        · rw [if_pos ⟨rfl, w⟩, if_pos w]; rfl
        · rw [if_neg (by omega), if_neg w, if_neg (by omega), if_neg (by omega), if_neg (by omega), h1o _ (by omega)]; exact hT s hs
      · have P2 := P.put hdd ho hwk
        rw [List.length_append, hN]
        refine P2.cg (fun k hk => ?_)
        by_cases w : k = N
        · subst w
          rw [if_pos rfl, List.getElem?_append_right (by omega), hN, Nat.sub_self]; rfl
        · rw [if_neg w, List.getElem?_append_left (by omega)]
      · rw [h2, if_neg (by omega), if_neg (by omega), if_neg (by omega), if_neg (by omega), if_neg (by omega), h1o _ (by omega)]
  · rw [if_neg (by rw [hq]; simp)]
    refine ⟨m, ?_, hG, yFr.rf m⟩
    unfold f_227
    obtain ⟨et, het, -⟩ := gLk_s hq
    have htl := ge_lt het
    rw [yis_178, pG_t, yBs, e, yBs]
    dsimp only
    rw [yr_178_36, yBs, show pAi (yH κ m) 199 (yN sl) = _ from ya_199 hsl, yBs, hv, if_neg (by rw [yN_ltl (by omega) (by omega)]; omega)]
end GK
