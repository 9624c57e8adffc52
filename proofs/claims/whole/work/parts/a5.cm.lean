/-! ===== the class is made ===== -/
def stB (n : Nat) : Nat → List xE
  | 0 => []
  | k + 1 => stB n k ++ B67 (n + 6 * k)
theorem stB_len (n : Nat) : ∀ k, (stB n k).length = 6 * k
  | 0 => rfl
  | k + 1 => by rw [stB, List.length_append, stB_len n k]; show 6 * k + 6 = _; omega
def stA (n N k : Nat) : xE := .inl (3, N, .inr (.inr (.inr (.inr (fun j => if j < k then some (n + 6 * j) else none)))))
theorem stA_s (n N k : Nat) : (.inl (3, N, .inr (.inr (.inr (.inr (va_up (fun j => if j < k then some (n + 6 * j) else none) k (some (n + 6 * k))))))) : xE) = stA n N (k + 1) := by
  unfold stA
  congr 7
  funext j
  unfold va_up
  by_cases q : j = k
  · subst q; rw [if_pos rfl, if_pos (by omega)]
  · rw [if_neg q]
    dsimp only
    by_cases z : j < k
    · rw [if_pos z, if_pos (show j < k + 1 by omega)]
    · rw [if_neg z, if_neg (show ¬ j < k + 1 by omega)]
section CM
variable {cs R : List xE} {sl L : Nat} {xs : Nat → Int32}
/-- a state is made and noted in a row of states -/
theorem stN {ar N k n : Nat} (hl : cs.length < 880) (hn : cs.length = n + 6 * k) (h : cs[ar]? = some (stA n N k)) (hk : k < N) (hN : N ≤ 65536) : pNw (cH cs sl L xs) 7 = some (cs.length, cH (cs ++ [.inr (7, xDef.getD 7 [])]) (sl + 6) L xs) ∧ pIs (cH (cs ++ [.inr (7, xDef.getD 7 [])]) (sl + 6) L xs) cs.length 7 = true ∧ f_67 cs.length (cH (cs ++ [.inr (7, xDef.getD 7 [])]) (sl + 6) L xs) = some (cH (cs ++ B67 cs.length) (sl + 6 + 101) L xs) ∧ pSa (cH (cs ++ B67 cs.length) (sl + 6 + 101) L xs) ar (yN k) cs.length = some (cH (cs.set ar (stA n N (k + 1)) ++ B67 (n + 6 * k)) (sl + 6 + 101) L xs) := by
  have hlt := g_lt h
  refine ⟨o_Nw (by omega) rfl rfl rfl, o_Is ((ga (rest := [.inr (7, xDef.getD 7 [])]) 0).trans rfl), k67 (by omega), ?_⟩
  refine o_Sa (f := fun j => if j < k then some (n + 6 * j) else none) (by rw [List.getElem?_append_left hlt]; exact h) ((ga (rest := B67 cs.length) 0).trans rfl) hk hN ?_
  rw [List.set_append_left _ _ hlt, hn, stA_s]
theorem k41 (hl : cs.length < 700) : f_41 cs.length (cH (cs ++ [.inr (3, xDef.getD 3 [])]) sl L xs) = some (cH (cs ++ ([.inr (3, [.ref (cs.length + 1), .int 0, .int 0]), stA (cs.length + 2) 15 15] ++ stB (cs.length + 2) 15)) (sl + 15 + 1605) L xs) := by
  have lp : ∀ (D k fu : Nat), k + D = 15 → D < fu → f_41_15 fu cs.length (yN k) (cH (cs ++ ([.inr (3, [.ref (cs.length + 1), .int 0, .int 0]), stA (cs.length + 2) 15 k] ++ stB (cs.length + 2) k)) (sl + 15 + 107 * k) L xs) = some (cH (cs ++ ([.inr (3, [.ref (cs.length + 1), .int 0, .int 0]), stA (cs.length + 2) 15 15] ++ stB (cs.length + 2) 15)) (sl + 15 + 1605) L xs) := by
    intro D
    induction D with
    | zero =>
      intro k fu hk hf
      obtain ⟨fu, rfl⟩ : ∃ k, fu = k + 1 := ⟨fu - 1, by omega⟩
      obtain rfl : k = 15 := by omega
      rw [f_41_15, if_pos (by decide)]
    | succ D ih =>
      intro k fu hk hf
      obtain ⟨fu, rfl⟩ : ∃ k, fu = k + 1 := ⟨fu - 1, by omega⟩
      have hlen : (cs ++ ([.inr (3, [.ref (cs.length + 1), .int 0, .int 0]), stA (cs.length + 2) 15 k] ++ stB (cs.length + 2) k)).length = cs.length + 2 + 6 * k := by
        rw [List.length_append, List.length_append, stB_len]; show cs.length + (2 + 6 * k) = _; omega
      have g1 : (cs ++ ([.inr (3, [.ref (cs.length + 1), .int 0, .int 0]), stA (cs.length + 2) 15 k] ++ stB (cs.length + 2) k))[cs.length + 1]? = some (stA (cs.length + 2) 15 k) := (ga 1).trans rfl
      have g0 : pFr (cH (cs ++ ([.inr (3, [.ref (cs.length + 1), .int 0, .int 0]), stA (cs.length + 2) 15 k] ++ stB (cs.length + 2) k)) (sl + 15 + 107 * k) L xs) cs.length 3 0 = some (cs.length + 1) := o_Fr ((ga 0).trans rfl) rfl
      obtain ⟨s1, s2, s3, s4⟩ := stN (sl := sl + 15 + 107 * k) (L := L) (xs := xs) (by rw [hlen]; omega) hlen g1 (by omega) (by omega)
      have e5 : (cs ++ ([.inr (3, [.ref (cs.length + 1), .int 0, .int 0]), stA (cs.length + 2) 15 k] ++ stB (cs.length + 2) k)).set (cs.length + 1) (stA (cs.length + 2) 15 (k + 1)) ++ B67 (cs.length + 2 + 6 * k) = cs ++ ([.inr (3, [.ref (cs.length + 1), .int 0, .int 0]), stA (cs.length + 2) 15 (k + 1)] ++ stB (cs.length + 2) (k + 1)) := by
        rw [sa 1, stB, List.append_assoc]; rfl
      rw [e5] at s4
      rw [f_41_15, if_neg (by rw [yN_lle (by omega) (by omega)]; show ¬ 15 ≤ k; omega), g0, yBs, s1, yBs]
      dsimp only
      rw [s2, pG_t, yBs, s3, yBs, s4, yBs, yN_addl, show sl + 15 + 107 * k + 6 + 101 = sl + 15 + 107 * (k + 1) by omega]
      exact ih (k + 1) fu (by omega) (by omega)
  have e1 : pNq (cH (cs ++ [.inr (3, xDef.getD 3 [])]) sl L xs) 15 = some (cs.length + 1, cH (cs ++ [.inr (3, [.null, .int 0, .int 0]), .inl (3, 15, .inr (.inr (.inr (.inr (fun _ => none)))))]) (sl + 15) L xs) := o_Nq (n := 15) (by omega) (by rw [la]; show cs.length + 1 < 1000; omega) la ((List.append_assoc _ _ _).trans rfl) rfl
  have hA : (.inl (3, 15, .inr (.inr (.inr (.inr (fun _ => none))))) : xE) = stA (cs.length + 2) 15 0 := by
    unfold stA
    congr 7
  have e2 : pP (cH (cs ++ [.inr (3, [.null, .int 0, .int 0]), .inl (3, 15, .inr (.inr (.inr (.inr (fun _ => none)))))]) (sl + 15) L xs) cs.length 3 0 (.ref (cs.length + 1)) = some (cH (cs ++ ([.inr (3, [.ref (cs.length + 1), .int 0, .int 0]), stA (cs.length + 2) 15 0] ++ stB (cs.length + 2) 0)) (sl + 15) L xs) := by
    rw [hA]
    exact o_P ((ga 0).trans rfl) (by show 0 < 3; omega) (fitR rfl) ((sa 0).trans rfl)
  have e3 := lp 15 0 100000 (by omega) (by omega)
  rw [Nat.mul_zero, Nat.add_zero] at e3
  unfold f_41
  rw [e1, yBs]
  dsimp only
  rw [e2, yBs, show f_41_15 100000 cs.length 0 (cH (cs ++ ([.inr (3, [.ref (cs.length + 1), .int 0, .int 0]), stA (cs.length + 2) 15 0] ++ stB (cs.length + 2) 0)) (sl + 15) L xs) = _ from e3, yBs]
end CM
