/-! ===== rule() ===== -/
theorem sU_C {x j : Nat} (h : sU x j) : sC x j := by unfold sU at h; unfold sC; omega
theorem sU_Cs {x j : Nat} (h : sU x j) : sCs x j := by unfold sU at h; unfold sCs; omega
theorem sUf_C {x j : Nat} (h : sUf x j) : sC x j := by unfold sUf sU at h; unfold sC; omega
section SK
variable {κ : yK} {m m' : yM} {A : zT} {H : zH} {K : zK} {C : zC} {D : List Int64} {E : zE} {F : zF}
theorem Cl.ru {R : List Int32} (c : Cl m A H K C D E F) (o : H.1 ≤ 15) (f : yFr sUf m m') (n : cRu m' R) : Cl m' A H K C D (E.1, E.2.1, E.2.2.1, E.2.2.2.1, R) F := by
  obtain ⟨⟨e1, e2⟩, ⟨e3, e4⟩, -, e6, e7, e8⟩ := c.2.2.2.2.2.1
  have k : ∀ x j, x < 110 ∨ 115 < x → m'.1 x j = m.1 x j := fun x j q => f.2 x j (by unfold sUf sU; omega)
  refine c.fE o (f.g (fun _ _ => id)) (fun x j q => by unfold sUf sU at q; unfold sCs; omega) ⟨⟨?_, ?_⟩, ⟨?_, fun i hk => ?_⟩, n, e6.g (f.g (fun _ _ => id)) (fun x j p q r => by unfold sUf sU at r; omega), fun j hj => ?_, fun j hj => ?_⟩
  · rw [k _ _ (by omega)]; exact e1
  · rw [k _ _ (by omega)]; exact e2
  · rw [k _ _ (by omega)]; exact e3
  · rw [k _ _ (by omega)]; exact e4 _ hk
  · rw [k _ _ (by omega)]; exact e7 j hj
  · rw [k _ _ (by omega)]; exact e8 j hj
theorem s108 {v w : Int32} {E' : zE} (o : H.1 ≤ 15) (e : f_53 110 1 (yH κ m) = some (v, yH κ m')) (c : Cl m' A H K C D E' F) (g : yG sC m m') (hv : (if v = -1 then some 0 else some (-1 - v) : Option Int32) = some w) : ∃ m'', f_108 0 (yH κ m) = some (w, yH κ m'') ∧ Cl m'' A H K (0, C.2) D E' F ∧ yG sC m m'' := by
  obtain ⟨c2, g2⟩ := c.tx0 o
  refine ⟨_, ?_, c2, g.tr g2 (fun _ _ => orSelf)⟩
  unfold f_108 f_75
  rw [yr_0_7, yBs, yr_0_0, yBs, yis_110, pG_t, yBs, e, yBs]
  dsimp only
  rw [yr_0_0, yBs, yis_1, pG_t, yBs, yp_1_1, yBs, yBs, hv, yBs]
end SK
theorem z_rule : zCall (f_108 0) (f_184 178) := by
  intro κ A H K C D E F o
  have oC := o.2.2.2.1
  have hC := oC.1
  have oH := o.2.1.1
  have oN : ∀ R, okR R → Ok A H K (0, C.2) D (E.1, E.2.1, E.2.2.1, E.2.2.2.1, R) F := fun R r => ⟨o.1, o.2.1, o.2.2.1, okC0 C, o.2.2.2.2.1, ⟨o.2.2.2.2.2.1.1, o.2.2.2.2.2.1.2.1, o.2.2.2.2.2.1.2.2.1, r⟩, o.2.2.2.2.2.2⟩
  by_cases h0 : C.1 = 0
  · refine ⟨0, A, H, K, (0, C.2), D, (E.1, E.2.1, E.2.2.1, E.2.2.2.1, []), F, oN [] ⟨by simp, Or.inl rfl⟩, fun m c => ?_, fun m c => m184_0 oC h0 c⟩
    obtain ⟨m1, e1, r1, f1⟩ := s53_0 (κ := κ) c.2.2.2.1 oC h0
    exact s108 oH e1 (c.ru oH f1 r1) (f1.g (fun _ _ => sUf_C)) (if_pos rfl)
  · let m0 : yM := (fun x j => if x = 183 then C.2 j else if x = 178 ∧ j = 12 then yN (min 40 C.1) else 0, fun _ _ => 0)
    have r0 : rS C (min 40 C.1) m0 0 [] := ⟨rfl, rfl, fun _ _ => rfl, rfl, fun j c q => by simp at q⟩
    obtain ⟨ok, j, V, -, -, g, -, -, -⟩ := m183 (κ := κ) oC (N := min 40 C.1) (by omega) (by omega) [] m0 (by omega) (by omega) (by simp) r0 rfl
    have hj := g.2.1
    have hVj := g.2.2.1
    obtain ⟨a1, a2⟩ := rul oC (by omega) g
    by_cases q : ok = true ∧ j = min 40 C.1 ∧ C.1 ≤ 40
    · obtain ⟨X, T, cmp, dg, e, v⟩ := a2 q.1 q.2.1
      have r1 : rDp V 0 = some 1 := by have := (g.2.2.2.1 q.1).1 [] 0; rw [List.append_nil] at this; exact this
      have hV : V ≠ [] := fun z => by subst z; simp [rDp] at r1
      refine ⟨0, A, H, K, (0, C.2), D, (E.1, E.2.1, E.2.2.1, E.2.2.2.1, V), F, oN V ⟨by omega, Or.inr r1⟩, fun m c => ?_, fun m c => ?_⟩
      · obtain ⟨m1, e1, r1, f1⟩ := s53_k (κ := κ) c.2.2.2.1 oC h0 q.2.2 e
        have n : cRu m1 V := by
          unfold cRu rCl
          rw [if_neg hV, ← v]; exact r1
        exact s108 oH e1 (c.ru oH f1 n) (f1.g (fun _ _ => sUf_C)) (if_pos rfl)
      · obtain ⟨ok', j', V', m', g', -, b⟩ := m184 (κ := κ) oC h0 c
        obtain ⟨u1, u2, u3⟩ := gL_uni oC (by omega) g g'
        have q' := u1.2 ⟨q.1, q.2.1⟩
        rw [u3 ⟨q.1, q.2.1⟩] at b
        exact ⟨m', b ⟨q'.1, q'.2, q.2.2⟩⟩
    · have oE : Ok A H K (0, C.2) D E F := ⟨o.1, o.2.1, o.2.2.1, okC0 C, o.2.2.2.2⟩
      refine ⟨-1 - yN (if ok = true ∧ j = min 40 C.1 then 40 else j), A, H, K, (0, C.2), D, E, F, oE, fun m c => ?_, fun m c => ?_⟩
      · by_cases w : ok = true ∧ j = min 40 C.1
        · obtain ⟨X, T, cmp, dg, e, v⟩ := a2 w.1 w.2
          have h4 : ¬ C.1 ≤ 40 := fun z => q ⟨w.1, w.2, z⟩
          obtain ⟨m1, e1, f1⟩ := s53_4 (κ := κ) c.2.2.2.1 oC (by omega) (by rw [e])
          rw [if_pos w]
          exact s108 oH e1 (c.fr oH (f1.g (fun _ _ => id)) (fun _ _ => sU_Cs)) (f1.g (fun _ _ => sU_C)) (if_neg (by decide))
        · obtain ⟨m1, e1, f1⟩ := s53_f (κ := κ) c.2.2.2.1 oC h0 (a1 w)
          rw [if_neg w]
          exact s108 oH e1 (c.fr oH (f1.g (fun _ _ => id)) (fun _ _ => sU_Cs)) (f1.g (fun _ _ => sU_C)) (if_neg (by rw [yN_eqm (by omega)]; exact id))
      · obtain ⟨ok', j', V', m', g', b, -⟩ := m184 (κ := κ) oC h0 c
        obtain ⟨u1, u2, u3⟩ := gL_uni oC (by omega) g g'
        obtain ⟨b1, b2, b3⟩ := b (fun z => q ⟨(u1.1 ⟨z.1, z.2.1⟩).1, (u1.1 ⟨z.1, z.2.1⟩).2, z.2.2⟩)
        refine ⟨m', ?_, b2, b3⟩
        by_cases w : ok = true ∧ j = min 40 C.1
        · rw [if_pos (u1.2 w)] at b1
          rw [if_pos w]; exact b1
        · rw [if_neg (fun z => w (u1.1 z)), u2 w] at b1
          rw [if_neg w]; exact b1
