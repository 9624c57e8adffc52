/-! ===== games: the class's values ===== -/
theorem gSp_0 {V : Nat → Nat} {l : List Nat} {m : Nat} : gv (gSp 0 V (gFd 0 V l) m) = if V m = 0 then 1 else gv (gFd 0 V l) := by
  unfold gSp gBt gBe
  cases h : gFd 0 V l with
  | none =>
    dsimp only
    rw [if_pos rfl]
    by_cases q : V m = 0
    · rw [q, if_pos (by decide), if_pos rfl]; rfl
    · rw [if_neg (by rw [decide_eq_true_eq]; omega), if_neg q]
  | some p =>
    obtain ⟨-, h2, h3⟩ := gFd_m l p.1 p.2 h
    unfold gBe at h2
    rw [if_pos rfl] at h2
    dsimp only
    rw [if_pos rfl, if_neg (show ¬ ((if 0 = 2 then decide (1 - V m < p.1) else decide (p.1 < 1 - V m)) = true) by rw [if_neg (show ¬ (0 = 2) by omega), decide_eq_true_eq]; omega)]
    show p.1 = if V m = 0 then 1 else p.1
    by_cases q : V m = 0
    · rw [if_pos q]; omega
    · rw [if_neg q]
theorem gSp_1 {how : Nat} {V : Nat → Nat} {l : List Nat} {m : Nat} (hh : how ≠ 0) : gv (gSp how V (gFd how V l) m) = if gv (gFd how V l) = 0 then V m + 1 else if how = 2 then (if V m + 1 < gv (gFd how V l) then V m + 1 else gv (gFd how V l)) else (if gv (gFd how V l) < V m + 1 then V m + 1 else gv (gFd how V l)) := by
  unfold gSp gBt gBe
  rw [if_neg hh]
  cases h : gFd how V l with
  | none =>
    dsimp only
    rw [if_pos (by rw [decide_eq_true_eq]; omega), if_pos (show gv none = 0 from rfl)]; rfl
  | some p =>
    obtain ⟨-, h2, h3⟩ := gFd_m l p.1 p.2 h
    dsimp only
    rw [if_neg (show ¬ gv (some p) = 0 by show ¬ p.1 = 0; omega)]
    by_cases h2 : how = 2
    · rw [if_pos (c := how = 2) (t := if V m + 1 < gv (some p) then V m + 1 else gv (some p)) h2]
      by_cases q : V m + 1 < p.1
      · rw [if_pos (show (if how = 2 then decide (V m + 1 < p.1) else decide (p.1 < V m + 1)) = true by rw [if_pos h2]; exact decide_eq_true q), if_pos (show V m + 1 < gv (some p) from q)]; rfl
      · rw [if_neg (show ¬ ((if how = 2 then decide (V m + 1 < p.1) else decide (p.1 < V m + 1)) = true) by rw [if_pos h2, decide_eq_true_eq]; exact q), if_neg (show ¬ V m + 1 < gv (some p) from q)]
    · rw [if_neg (c := how = 2) (t := if V m + 1 < gv (some p) then V m + 1 else gv (some p)) h2]
      by_cases q : p.1 < V m + 1
      · rw [if_pos (show (if how = 2 then decide (V m + 1 < p.1) else decide (p.1 < V m + 1)) = true by rw [if_neg h2]; exact decide_eq_true q), if_pos (show gv (some p) < V m + 1 from q)]; rfl
      · rw [if_neg (show ¬ ((if how = 2 then decide (V m + 1 < p.1) else decide (p.1 < V m + 1)) = true) by rw [if_neg h2, decide_eq_true_eq]; exact q), if_neg (show ¬ gv (some p) < V m + 1 from q)]
theorem tk_map {l : List (Nat × Nat)} {j : Nat} {p : Nat × Nat} (h : l[j]? = some p) : (l.take (j + 1)).map Prod.fst = (l.take j).map Prod.fst ++ [p.1] := by
  rw [List.take_add_one, h, List.map_append]; rfl
theorem s29 {mv t : Nat} {h : xH} (hm : mv < 480) (ht : t < 400) : f_29 (yN (mv * 1024 + t)) h = some (yN t, h) := by
  unfold f_29
  rw [yp_rem (by omega) (by omega) (by decide), yBs, show (mv * 1024 + t) % 1024 = t by omega]
section GN
variable {κ : yK} {r : zN} {t0 t1 : Int32} {φ : Bool} {s : gS} {d how : Nat} {fe : Nat → Nat} {E : Nat → List (Nat × Nat)}
/-- all that one edge tells -/
theorem edge_f {m : yM} {i j : Nat} {e : gE} {p : Nat × Nat} (J : gJ r d s) (hi : s.1[i]? = some e) (hE : eOk φ t0 t1 s.1 e.1 480 (E i)) (hC : eC m (fe i) (E i)) (hp : (E i)[j]? = some p) : m.1 133 (fe i + j) = yN (p.1 * 1024 + p.2) ∧ p.1 < 480 ∧ gSf φ t0 t1 e.1 p.1 = true ∧ ∃ e' : gE, s.1[p.2]? = some e' ∧ e'.1 = gNx e.1 p.1 ∧ i < p.2 ∧ p.2 < s.1.length := by
  have hmem := List.mem_of_getElem? hp
  have hq : p.1 ∈ (List.range 480).filter (gSf φ t0 t1 e.1) := by rw [← hE.1]; exact List.mem_map_of_mem hmem
  rw [List.mem_filter, List.mem_range] at hq
  obtain ⟨e', a, b, -, c, f⟩ := edge_t J hi hq.2 (hE.2 p hmem)
  exact ⟨hC j p hp, hq.1, hq.2, e', a, b, c, f⟩
theorem s30_25 {i : Nat} {e : gE} (J : gJ r d s) (hi : s.1[i]? = some e) (hE : eOk φ t0 t1 s.1 e.1 480 (E i)) (hfe : fe i + (E i).length ≤ 50400) (hn : fe (i + 1) = fe i + (E i).length) : ∀ (D j fu : Nat) (m : yM), j + D = (E i).length → D < fu → m.1 132 (i + 1) = yN (fe (i + 1)) → eC m (fe i) (E i) → (∀ (t : Nat) (e' : gE), i < t → s.1[t]? = some e' → m.1 131 t = yN (gv (gW 0 φ t0 t1 e'.1))) → m.1 131 i = yN (gv (gFd 0 (fun mv => gv (gW 0 φ t0 t1 (gNx e.1 mv))) (((E i).take j).map Prod.fst))) →
    ∃ m', f_30_25 fu 118 (yN i) (yN (fe i + j)) (yH κ m) = some (yH κ m') ∧ m'.1 131 i = yN (gv (gW 0 φ t0 t1 e.1)) ∧ yFr (fun y j => y = 131 ∧ j = i) m m' := by
  have hil := ge_lt hi
  have hl := J.len
  intro D
  induction D with
  | zero =>
    intro j fu m hj hf h132 hC hV hv
    obtain ⟨fu, rfl⟩ : ∃ k, fu = k + 1 := ⟨fu - 1, by omega⟩
    obtain rfl : j = (E i).length := by omega
    rw [List.take_length, hE.1, ← gW_e (J.nod i e hi).1] at hv
    refine ⟨m, ?_, hv, yFr.rf m⟩
    rw [f_30_25, yr_118_10, yBs, yN_addl, show pAi (yH κ m) 132 (yN (i + 1)) = _ from ya_132 (by omega), yBs, h132, if_pos (by rw [yN_le (by omega) (by omega)]; omega)]
  | succ D ih =>
    intro j fu m hj hf h132 hC hV hv
    obtain ⟨fu, rfl⟩ : ∃ k, fu = k + 1 := ⟨fu - 1, by omega⟩
    obtain ⟨p, hp⟩ : ∃ p, (E i)[j]? = some p := ⟨_, List.getElem?_eq_getElem (show j < (E i).length by omega)⟩
    obtain ⟨c1, c2, c3, e', a1, a2, a3, a4⟩ := edge_f (m := m) J hi hE hC hp
    have hvt : m.1 131 p.2 = yN (gv (gW 0 φ t0 t1 (gNx e.1 p.1))) := by rw [hV p.2 e' a3 a1, a2]
    have hle : gv (gW 0 φ t0 t1 (gNx e.1 p.1)) ≤ 49 := gW_le
    rw [f_30_25, yr_118_10, yBs, yN_addl, show pAi (yH κ m) 132 (yN (i + 1)) = _ from ya_132 (by omega), yBs, h132, if_neg (by rw [yN_le (by omega) (by omega)]; omega), yr_118_9, yBs, yr_118_11, yBs, show pAi (yH κ m) 133 (yN (fe i + j)) = _ from ya_133 (by omega), yBs, c1, s29 c2 (by omega), yBs]
    dsimp only
    rw [show pAi (yH κ m) 131 (yN p.2) = _ from ya_131 (by omega), yBs, hvt]
    have hstep : gv (gFd 0 (fun mv => gv (gW 0 φ t0 t1 (gNx e.1 mv))) (((E i).take (j + 1)).map Prod.fst)) = if gv (gW 0 φ t0 t1 (gNx e.1 p.1)) = 0 then 1 else gv (gFd 0 (fun mv => gv (gW 0 φ t0 t1 (gNx e.1 mv))) (((E i).take j).map Prod.fst)) := by
      rw [tk_map hp, gFd_ap, gSp_0]
    by_cases q : gv (gW 0 φ t0 t1 (gNx e.1 p.1)) = 0
    · rw [if_pos (by rw [q]; rfl), yr_118_9, yBs, yst_131 (by omega), yBs, yBs, yN_addl]
      obtain ⟨m', b1, b2, b3⟩ := ih (j + 1) fu (yW m 131 i 1) (by omega) (by omega) (by rw [yW_row (by omega)]; exact h132) (fun j p hp => by rw [yW_row (by omega)]; exact hC j p hp) (fun t e' ht he' => by rw [yW_get, if_neg (by omega)]; exact hV t e' ht he') (by rw [hstep, if_pos q, yW_self, upd_eq]; rfl)
      refine ⟨m', ?_, b2, (yFr.w (S := fun y j => y = 131 ∧ j = i) m ⟨rfl, rfl⟩).tr b3 (fun _ _ => orSelf)⟩
      rw [show fe i + j + 1 = fe i + (j + 1) by omega]; exact b1
    · rw [if_neg (by rw [yN_eql (by omega) (by omega)]; exact q), yBs, yN_addl]
      obtain ⟨m', b1, b2, b3⟩ := ih (j + 1) fu m (by omega) (by omega) h132 hC hV (by rw [hstep, if_neg q]; exact hv)
      refine ⟨m', ?_, b2, b3⟩
      rw [show fe i + j + 1 = fe i + (j + 1) by omega]; exact b1
theorem s31_25 {i : Nat} {e : gE} (hh : how = 1 ∨ how = 2) (J : gJ r d s) (hi : s.1[i]? = some e) (hE : eOk φ t0 t1 s.1 e.1 480 (E i)) (hfe : fe i + (E i).length ≤ 50400) (hn : fe (i + 1) = fe i + (E i).length) : ∀ (D j fu : Nat) (m : yM), j + D = (E i).length → D < fu → m.1 132 (i + 1) = yN (fe (i + 1)) → eC m (fe i) (E i) → (∀ (t : Nat) (e' : gE), i < t → s.1[t]? = some e' → m.1 131 t = yN (gv (gW how φ t0 t1 e'.1))) → m.1 131 i = yN (gv (gFd how (fun mv => gv (gW how φ t0 t1 (gNx e.1 mv))) (((E i).take j).map Prod.fst))) →
    ∃ m', f_31_25 fu 118 (yB (decide (how = 1))) (yN i) (yN (fe i + j)) (yH κ m) = some (yH κ m') ∧ m'.1 131 i = yN (gv (gW how φ t0 t1 e.1)) ∧ yFr (fun y j => y = 131 ∧ j = i) m m' := by
  have hil := ge_lt hi
  have hl := J.len
  intro D
  induction D with
  | zero =>
    intro j fu m hj hf h132 hC hV hv
    obtain ⟨fu, rfl⟩ : ∃ k, fu = k + 1 := ⟨fu - 1, by omega⟩
    obtain rfl : j = (E i).length := by omega
    rw [List.take_length, hE.1, ← gW_e (J.nod i e hi).1] at hv
    refine ⟨m, ?_, hv, yFr.rf m⟩
    rw [f_31_25, yr_118_10, yBs, yN_addl, show pAi (yH κ m) 132 (yN (i + 1)) = _ from ya_132 (by omega), yBs, h132, if_pos (by rw [yN_le (by omega) (by omega)]; omega)]
  | succ D ih =>
    intro j fu m hj hf h132 hC hV hv
    obtain ⟨fu, rfl⟩ : ∃ k, fu = k + 1 := ⟨fu - 1, by omega⟩
    obtain ⟨p, hp⟩ : ∃ p, (E i)[j]? = some p := ⟨_, List.getElem?_eq_getElem (show j < (E i).length by omega)⟩
    obtain ⟨c1, c2, c3, e', a1, a2, a3, a4⟩ := edge_f (m := m) J hi hE hC hp
    have hvt : m.1 131 p.2 = yN (gv (gW how φ t0 t1 (gNx e.1 p.1))) := by rw [hV p.2 e' a3 a1, a2]
    have hle : gv (gW how φ t0 t1 (gNx e.1 p.1)) ≤ 49 := gW_le
    have hstep := gSp_1 (how := how) (V := fun mv => gv (gW how φ t0 t1 (gNx e.1 mv))) (l := ((E i).take j).map Prod.fst) (m := p.1) (by omega)
    rw [← gFd_ap, ← tk_map hp] at hstep
    have hcur : gv (gFd how (fun mv => gv (gW how φ t0 t1 (gNx e.1 mv))) (((E i).take j).map Prod.fst)) ≤ 50 := by
      cases h : gFd how (fun mv => gv (gW how φ t0 t1 (gNx e.1 mv))) (((E i).take j).map Prod.fst) with
      | none => exact Nat.zero_le _
      | some q =>
        obtain ⟨-, h2, -⟩ := gFd_m _ q.1 q.2 h
        have : gv (gW how φ t0 t1 (gNx e.1 q.2)) ≤ 49 := gW_le
        show q.1 ≤ 50
        rw [h2]; unfold gBe; split <;> omega
    generalize hV0 : gv (gW how φ t0 t1 (gNx e.1 p.1)) = v at *
    generalize hC0 : gv (gFd how (fun mv => gv (gW how φ t0 t1 (gNx e.1 mv))) (((E i).take j).map Prod.fst)) = c at *
    have hset : ∃ m', f_31_25 fu 118 (yB (decide (how = 1))) (yN i) (yN (fe i + j) + 1) (yH κ (yW m 131 i (yN (v + 1)))) = some (yH κ m') ∧ (gv (gFd how (fun mv => gv (gW how φ t0 t1 (gNx e.1 mv))) (((E i).take (j + 1)).map Prod.fst)) = v + 1 → m'.1 131 i = yN (gv (gW how φ t0 t1 e.1)) ∧ yFr (fun y j => y = 131 ∧ j = i) m m') ∨ gv (gFd how (fun mv => gv (gW how φ t0 t1 (gNx e.1 mv))) (((E i).take (j + 1)).map Prod.fst)) ≠ v + 1 := by
      by_cases q : gv (gFd how (fun mv => gv (gW how φ t0 t1 (gNx e.1 mv))) (((E i).take (j + 1)).map Prod.fst)) = v + 1
      · obtain ⟨m', b1, b2, b3⟩ := ih (j + 1) fu (yW m 131 i (yN (v + 1))) (by omega) (by omega) (by rw [yW_row (by omega)]; exact h132) (fun j p hp => by rw [yW_row (by omega)]; exact hC j p hp) (fun t e' ht he' => by rw [yW_get, if_neg (by omega)]; exact hV t e' ht he') (by rw [q, yW_self, upd_eq])
        refine ⟨m', Or.inl ⟨?_, fun _ => ⟨b2, (yFr.w (S := fun y j => y = 131 ∧ j = i) m ⟨rfl, rfl⟩).tr b3 (fun _ _ => orSelf)⟩⟩⟩
        rw [yN_addl, show fe i + j + 1 = fe i + (j + 1) by omega]; exact b1
      · exact ⟨m, Or.inr q⟩
    have hkeep : gv (gFd how (fun mv => gv (gW how φ t0 t1 (gNx e.1 mv))) (((E i).take (j + 1)).map Prod.fst)) = c → ∃ m', f_31_25 fu 118 (yB (decide (how = 1))) (yN i) (yN (fe i + j) + 1) (yH κ m) = some (yH κ m') ∧ m'.1 131 i = yN (gv (gW how φ t0 t1 e.1)) ∧ yFr (fun y j => y = 131 ∧ j = i) m m' := fun q => by
      obtain ⟨m', b1, b2, b3⟩ := ih (j + 1) fu m (by omega) (by omega) h132 hC hV (by rw [q]; exact hv)
      refine ⟨m', ?_, b2, b3⟩
      rw [yN_addl, show fe i + j + 1 = fe i + (j + 1) by omega]; exact b1
    have hset2 : gv (gFd how (fun mv => gv (gW how φ t0 t1 (gNx e.1 mv))) (((E i).take (j + 1)).map Prod.fst)) = v + 1 → ∃ m', f_31_25 fu 118 (yB (decide (how = 1))) (yN i) (yN (fe i + j) + 1) (yH κ (yW m 131 i (yN (v + 1)))) = some (yH κ m') ∧ m'.1 131 i = yN (gv (gW how φ t0 t1 e.1)) ∧ yFr (fun y j => y = 131 ∧ j = i) m m' := fun q => by
      rcases hset with ⟨m', b | b⟩
      · exact ⟨m', b.1, b.2 q⟩
      · exact absurd q b
    have ai : pAi (yH κ m) 131 (yN i) = some (yN c) := by rw [show pAi (yH κ m) 131 (yN i) = _ from ya_131 (by omega), hv]
    rw [f_31_25, yr_118_10, yBs, yN_addl, show pAi (yH κ m) 132 (yN (i + 1)) = _ from ya_132 (by omega), yBs, h132, if_neg (by rw [yN_le (by omega) (by omega)]; omega), yr_118_9, yBs, yr_118_11, yBs, show pAi (yH κ m) 133 (yN (fe i + j)) = _ from ya_133 (by omega), yBs, c1, s29 c2 (by omega), yBs]
    dsimp only
    rw [show pAi (yH κ m) 131 (yN p.2) = _ from ya_131 (by omega), yBs, hvt, yr_118_9, yBs, ai, yBs, yN_addl]
    by_cases q0 : c = 0
    · rw [if_pos (by rw [q0]; rfl), yBs, yst_131 (by omega), yBs, yBs]
      exact hset2 (by rw [hstep, if_pos q0])
    · rw [if_neg (show ¬ (yN c = 0) by rw [yN_eql (by omega) (by omega)]; exact q0)]
      rw [if_neg q0] at hstep
      rcases hh with rfl | rfl
      · rw [show yB (decide (1 = 1)) = 1 from rfl, if_neg (show ¬ ((1 : Int32) = 0) by decide), yBs, ai, yBs]
        rw [if_neg (show ¬ (1 = 2) by omega)] at hstep
        by_cases q : c < v + 1
        · rw [if_neg (by rw [yN_le (by omega) (by omega)]; omega), yBs, yst_131 (by omega), yBs, yBs]
          exact hset2 (by rw [hstep, if_pos q])
        · rw [if_pos (by rw [yN_le (by omega) (by omega)]; omega), yBs]
          exact hkeep (by rw [hstep, if_neg q])
      · rw [show yB (decide (2 = 1)) = 0 from rfl, if_pos rfl, yBs, ai, yBs]
        rw [if_pos rfl] at hstep
        by_cases q : v + 1 < c
        · rw [if_neg (by rw [yN_le (by omega) (by omega)]; omega), yBs, yst_131 (by omega), yBs, yBs]
          exact hset2 (by rw [hstep, if_pos q])
        · rw [if_pos (by rw [yN_le (by omega) (by omega)]; omega), yBs]
          exact hkeep (by rw [hstep, if_neg q])
end GN
