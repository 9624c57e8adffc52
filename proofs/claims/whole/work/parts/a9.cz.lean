/-! ===== the first state; the law answers 1 ===== -/
def A0 : zT := (zB0, 0, 0, 0, -1, 0, 0)
def E0 : zE := (0, 0, 2, fun _ => 1, [])
def G0 : zF := (0, fun _ => 0, fun _ => false, fun _ => 0, fun _ => 9)
theorem fil_zB : fil (fun _ => 0) 0 48 (-1) = zB0 := funext fun j => by
  unfold fil zB0
  by_cases q : j < 48
  · rw [if_pos ⟨Nat.zero_le _, q⟩, if_pos q]
  · rw [if_neg (fun z => q z.2), if_neg q]
theorem fil_z {j : Nat} (h : 48 ≤ j) : fil (fun _ => 0) 0 48 (-1) j = 0 := by unfold fil; rw [if_neg (by omega)]
theorem Ok0 : Ok A0 (0, fun _ => A0) (fun _ => none) (0, fun _ => 0) [] E0 G0 := by
  refine ⟨⟨⟨zB0_ok, fun j hj => ?_, by decide, by decide⟩, by decide⟩, ⟨Nat.zero_le _, fun j hj => absurd hj (Nat.not_lt_zero j)⟩, fun i _ s h => by simp at h, ⟨Nat.zero_le _, fun j hj => absurd hj (Nat.not_lt_zero j)⟩, by simp, ⟨by decide, by decide, fun k _ => ⟨1, by omega, rfl⟩, ⟨by simp [E0], Or.inl rfl⟩⟩, ⟨by decide, fun j hj => absurd hj (Nat.not_lt_zero j), fun b _ => ⟨Nat.zero_le _, Nat.le_refl _⟩⟩⟩
  show (if j < 48 then (-1 : Int32) else 0) = 0
  rw [if_neg (by omega)]
theorem tow0 {a : Nat} (h1 : m0.1 (a + 1) = fil (fun _ => 0) 0 48 (-1)) (h2 : m0.1 a 4 = 0) : Tow m0 a zB0 0 := ⟨by rw [h1, fil_zB], h2, fun l hl => absurd hl (Nat.not_lt_zero l)⟩
set_option maxRecDepth 100000 in
theorem Cl0 : Cl m0 A0 (0, fun _ => A0) (fun _ => none) (0, fun _ => 0) [] E0 G0 := by
  have r15 : ∀ i, i < 15 → m0.1 (15 + 6 * i) = fil (fun _ => 0) 0 48 (-1) := fun i hi => by
    rcases (show i = 0 ∨ i = 1 ∨ i = 2 ∨ i = 3 ∨ i = 4 ∨ i = 5 ∨ i = 6 ∨ i = 7 ∨ i = 8 ∨ i = 9 ∨ i = 10 ∨ i = 11 ∨ i = 12 ∨ i = 13 ∨ i = 14 by omega) with rfl | rfl | rfl | rfl | rfl | rfl | rfl | rfl | rfl | rfl | rfl | rfl | rfl | rfl | rfl <;> rfl
  have r162 : ∀ i, i < 3 → m0.1 (162 + 6 * i) = fil (fun _ => 0) 0 48 (-1) := fun i hi => by
    rcases (show i = 0 ∨ i = 1 ∨ i = 2 by omega) with rfl | rfl | rfl <;> rfl
  have r104 : m0.1 104 = fun _ => 0 := rfl
  have r158 : m0.1 158 = fil (fun _ => 0) 0 4 1 := rfl
  have r120 : m0.1 120 = fil (fun _ => 0) 0 48 (-1) := rfl
  have r154 : m0.1 154 = fil (fun _ => 0) 0 48 (-1) := rfl
  have r138 : m0.1 138 = fun _ => 0 := rfl
  have r139 : m0.1 139 = fil (fun _ => 0) 0 48 9 := rfl
  have r111 : m0.1 111 = va_cpy (upd (upd (upd (fun _ => 0) 0 1008) 1 1000) 2 2042) (fun _ => 0) 0 0 40 := rfl
  refine ⟨⟨tow0 rfl rfl, rfl, rfl, rfl, fun q => absurd rfl q⟩, ⟨rfl, fun i hi j hj => by rw [r15 i hi]; exact fil_z hj, 0, by omega, rfl, fun j hj => absurd hj (Nat.not_lt_zero j)⟩, ⟨fun i hi j hj => by rw [r162 i hi]; exact fil_z hj, fun i hi => ⟨by rw [r104]; rfl, fun s q => by simp at q⟩⟩, ⟨rfl, fun j hj => absurd hj (Nat.not_lt_zero j)⟩, ⟨rfl, fun j hj => absurd hj (Nat.not_lt_zero j)⟩, ⟨⟨rfl, rfl⟩, ⟨rfl, fun k hk => ?_⟩, ⟨rfl, fun j hj => ?_⟩, tow0 rfl rfl, fun j hj => by rw [r120]; exact fil_z hj, fun j hj => by rw [r154]; exact fil_z hj⟩, ⟨rfl, fun j hj => absurd hj (Nat.not_lt_zero j), fun b hb => ⟨by rw [r138]; rfl, ?_⟩⟩⟩
  · have hk2 : k < 2 := hk
    rw [r158]
    show fil (fun _ => 0) 0 4 1 k = 1
    unfold fil
    rw [if_pos (by omega)]
  · have hj3 : j < 3 := hj
    rw [r111]
    rcases (show j = 0 ∨ j = 1 ∨ j = 2 by omega) with rfl | rfl | rfl <;> rfl
  · rw [r139]
    show fil (fun _ => 0) 0 48 9 b = yN 9
    unfold fil
    rw [if_pos (by omega)]; rfl
set_option maxRecDepth 100000 in
theorem Rf0 : Rf m0 A0 (0, fun _ => A0) (fun _ => none) (0, fun _ => 0) [] E0 G0 := by
  have r180 : m0.1 180 = upd (fil (fil (fun _ => 0) 0 48 (-1)) 48 54 0) 51 (-1) := rfl
  have r210 : m0.1 210 = fun _ => 0 := rfl
  have r182 : m0.1 182 = upd (upd (upd (upd (fun _ => 0) 0 1) 1 1) 2 0) 3 0 := rfl
  have r207 : m0.1 207 = fil (fun _ => 0) 0 48 0 := rfl
  have r208 : m0.1 208 = fil (fun _ => 0) 0 48 9 := rfl
  refine ⟨⟨fun b hb => ?_, by rw [r180]; rfl, by rw [r180]; rfl, by rw [r180]; rfl, by rw [r180]; rfl, fun q => absurd rfl q⟩, ⟨rfl, fun j hj => absurd hj (Nat.not_lt_zero j)⟩, fun i hi => ⟨by rw [r210]; rfl, fun s q => by simp at q⟩, ⟨rfl, fun j hj => absurd hj (Nat.not_lt_zero j)⟩, ⟨rfl, fun j hj => absurd hj (Nat.not_lt_zero j)⟩, ⟨⟨rfl, rfl⟩, ⟨rfl, fun k hk => ?_⟩, ⟨rfl, fun j hj => absurd hj (Nat.not_lt_zero j)⟩⟩, ⟨rfl, fun j hj => absurd hj (Nat.not_lt_zero j), fun b hb => ⟨?_, ?_⟩⟩⟩
  · rw [r180, Nat.zero_add, upd_ne _ _ (by omega)]
    show fil (fil (fun _ => 0) 0 48 (-1)) 48 54 0 b = (if b < 48 then (-1 : Int32) else 0)
    unfold fil
    rw [if_neg (by omega), if_pos (by omega), if_pos hb]
  · have hk2 : k < 2 := hk
    rw [r182]
    rcases (show k = 0 ∨ k = 1 by omega) with rfl | rfl <;> rfl
  · rw [r207]
    show fil (fun _ => 0) 0 48 0 b = yN 0
    unfold fil
    rw [if_pos (by omega)]; rfl
  · rw [r208]
    show fil (fun _ => 0) 0 48 9 b = yN 9
    unfold fil
    rw [if_pos (by omega)]; rfl
theorem St0 : St m0 := ⟨A0, (0, fun _ => A0), fun _ => none, (0, fun _ => 0), [], E0, G0, Ok0, Cl0, Rf0⟩
