/-! ===== frames of ints and longs; what both sides hold ===== -/
/-- nothing changed, ints and longs, but at S -/
def yG (S : Nat → Nat → Prop) (m m' : yM) : Prop := ∀ x j, ¬ S x j → m'.1 x j = m.1 x j ∧ m'.2 x j = m.2 x j
theorem yFr.g {S S3 : Nat → Nat → Prop} {m m' : yM} (h : yFr S m m') (hs : ∀ x j, S x j → S3 x j) : yG S3 m m' :=
  fun x j q => ⟨h.2 x j (fun p => q (hs x j p)), by rw [h.1]⟩
theorem yG.rf {S : Nat → Nat → Prop} (m : yM) : yG S m m := fun _ _ _ => ⟨rfl, rfl⟩
theorem yG.tr {S S2 S3 : Nat → Nat → Prop} {m m2 m3 : yM} (h1 : yG S m m2) (h2 : yG S2 m2 m3) (hs : ∀ x j, S x j ∨ S2 x j → S3 x j) : yG S3 m m3 :=
  fun x j q => ⟨(h2 x j (fun p => q (hs x j (Or.inr p)))).1.trans (h1 x j (fun p => q (hs x j (Or.inl p)))).1, (h2 x j (fun p => q (hs x j (Or.inr p)))).2.trans (h1 x j (fun p => q (hs x j (Or.inl p)))).2⟩
theorem yG.wk {S S3 : Nat → Nat → Prop} {m m2 : yM} (h1 : yG S m m2) (hs : ∀ x j, S x j → S3 x j) : yG S3 m m2 := fun x j q => h1 x j (fun p => q (hs x j p))
theorem yG.w {S : Nat → Nat → Prop} (m : yM) {a k : Nat} {x : Int32} (hs : S a k) : yG S m (yW m a k x) :=
  fun b j h => ⟨by rw [yW_get, if_neg]; rintro ⟨rfl, rfl⟩; exact h hs, rfl⟩
theorem yG.r {S : Nat → Nat → Prop} (m : yM) {a : Nat} {f : Nat → Int32} (hs : ∀ j, f j ≠ m.1 a j → S a j) : yG S m (yR m a f) := by
  intro b j h
  refine ⟨?_, rfl⟩
  by_cases hb : b = a
  · subst hb
    rw [yR_eq]
    by_cases q : f j = m.1 b j
    · exact q
    · exact absurd (hs j q) h
  · rw [yR_ne _ _ hb]
theorem yG.wl {S : Nat → Nat → Prop} (m : yM) {a k : Nat} {x : Int64} (hs : S a k) : yG S m (yWl m a k x) :=
  fun b j h => ⟨rfl, by rw [yWl_get, if_neg]; rintro ⟨rfl, rfl⟩; exact h hs⟩
theorem yG.row {S : Nat → Nat → Prop} {m m2 : yM} (h1 : yG S m m2) {x : Nat} (hs : ∀ j, ¬ S x j) : m2.1 x = m.1 x := funext fun j => (h1 x j (hs j)).1
theorem Tow.g {m m' : yM} {a n : Nat} {th : Nat → Int32} {S : Nat → Nat → Prop} (h : Tow m a th n) (hf : yG S m m') (hs : ∀ x j, a ≤ x → x ≤ a + 4 → ¬ S x j) : Tow m' a th n := by
  obtain ⟨h1, h2, h3⟩ := h
  refine ⟨by rw [hf.row (fun j => hs _ j (by omega) (by omega)), h1], by rw [(hf _ _ (hs _ _ (by omega) (by omega))).1, h2], fun l hl => ?_⟩
  rw [(hf _ _ (hs _ _ (by omega) (by omega))).1, (hf _ _ (hs _ _ (by omega) (by omega))).1, (hf _ _ (hs _ _ (by omega) (by omega))).1]
  exact h3 l hl
theorem Tor.g {m m' : yM} {s n : Nat} {th : Nat → Int32} {S : Nat → Nat → Prop} (h : Tor m s th n) (hf : yG S m m') (hs : ∀ j, j < 49 → ¬ S s j) : Tor m' s th n :=
  ⟨fun b hb => by rw [(hf _ _ (hs _ (by omega))).1, h.1 b hb], by rw [(hf _ _ (hs _ (by omega))).1, h.2]⟩
/-- a game: tower, layers, who is to move, how it is felled, by whom, at which layer, by which margin -/
abbrev zT : Type := (Nat → Int32) × Nat × Nat × Nat × Int32 × Int32 × Int32
abbrev zth (s : zT) : Nat → Int32 := s.1
abbrev zn (s : zT) : Nat := s.2.1
abbrev zmv (s : zT) : Nat := s.2.2.1
abbrev zho (s : zT) : Nat := s.2.2.2.1
abbrev zwo (s : zT) : Int32 := s.2.2.2.2.1
abbrev zwl (s : zT) : Int32 := s.2.2.2.2.2.1
abbrev zwb (s : zT) : Int32 := s.2.2.2.2.2.2
def zOkT (s : zT) : Prop := tOk (zth s) (zn s) ∧ (∀ j, 48 ≤ j → zth s j = 0) ∧ zmv s < 4 ∧ zho s < 4
/-- the class's state at a; the reference's row at s, from o on -/
def cSt (m : yM) (a : Nat) (s : zT) : Prop := Tow m (a + 1) (zth s) (zn s) ∧ m.1 a 1 = yN (zmv s) ∧ m.1 a 2 = zwo s ∧ m.1 a 3 = yN (zho s) ∧ (zho s ≠ 0 → m.1 a 4 = zwl s ∧ m.1 a 5 = zwb s)
def rSt (m : yM) (r o : Nat) (s : zT) : Prop := (∀ b, b < 48 → m.1 r (o + b) = zth s b) ∧ m.1 r (o + 48) = yN (zn s) ∧ m.1 r (o + 49) = yN (zmv s) ∧ m.1 r (o + 50) = yN (zho s) ∧ m.1 r (o + 51) = zwo s ∧ (zho s ≠ 0 → m.1 r (o + 52) = zwl s ∧ m.1 r (o + 53) = zwb s)
theorem cSt.g {m m' : yM} {a : Nat} {s : zT} {S : Nat → Nat → Prop} (h : cSt m a s) (g : yG S m m') (hs : ∀ x j, S x j → ¬ (a ≤ x ∧ x ≤ a + 5)) : cSt m' a s := by
  obtain ⟨h1, h2, h3, h4, h5⟩ := h
  have k : ∀ x j, a ≤ x → x ≤ a + 5 → m'.1 x j = m.1 x j := fun x j p q => (g x j (fun r => hs x j r ⟨p, q⟩)).1
  refine ⟨h1.g g (fun x j p q r => hs x j r ⟨by omega, by omega⟩), by rw [k _ _ (by omega) (by omega), h2], by rw [k _ _ (by omega) (by omega), h3], by rw [k _ _ (by omega) (by omega), h4], fun q => ?_⟩
  rw [k _ _ (by omega) (by omega), k _ _ (by omega) (by omega)]
  exact h5 q
theorem rSt.g {m m' : yM} {r o : Nat} {s : zT} {S : Nat → Nat → Prop} (h : rSt m r o s) (g : yG S m m') (hs : ∀ j, o ≤ j → j < o + 54 → ¬ S r j) : rSt m' r o s := by
  obtain ⟨h1, h2, h3, h4, h5, h6⟩ := h
  have k : ∀ j, o ≤ j → j < o + 54 → m'.1 r j = m.1 r j := fun j p q => (g r j (hs j p q)).1
  refine ⟨fun b hb => by rw [k _ (by omega) (by omega), h1 b hb], by rw [k _ (by omega) (by omega), h2], by rw [k _ (by omega) (by omega), h3], by rw [k _ (by omega) (by omega), h4], by rw [k _ (by omega) (by omega), h5], fun q => ?_⟩
  rw [k _ (by omega) (by omega), k _ (by omega) (by omega)]
  exact h6 q
theorem rSt.tor {m : yM} {r : Nat} {s : zT} (h : rSt m r 0 s) : Tor m r (zth s) (zn s) := by
  refine ⟨fun b hb => ?_, ?_⟩
  · have := h.1 b hb; rwa [Nat.zero_add] at this
  · exact h.2.1
/-- a row of the reference is the same as another, element by element -/
theorem rSt.cp {m m' : yM} {r o r' o' : Nat} {s : zT} (h : rSt m r o s) (e : ∀ j, j < 54 → m'.1 r' (o' + j) = m.1 r (o + j)) : rSt m' r' o' s := by
  obtain ⟨h1, h2, h3, h4, h5, h6⟩ := h
  refine ⟨fun b hb => by rw [e b (by omega), h1 b hb], by rw [e 48 (by omega), h2], by rw [e 49 (by omega), h3], by rw [e 50 (by omega), h4], by rw [e 51 (by omega), h5], fun q => ?_⟩
  rw [e 52 (by omega), e 53 (by omega)]
  exact h6 q
/-- games that can be undone: how many, the latest first -/
abbrev zH : Type := Nat × (Nat → zT)
def cHi (m : yM) (H : zH) : Prop := m.1 11 2 = yN H.1 ∧ (∀ i, i < 15 → ∀ j, 48 ≤ j → m.1 (15 + 6 * i) j = 0) ∧ ∃ nx, nx < 15 ∧ m.1 11 1 = yN nx ∧ ∀ j, j < H.1 → cSt m (13 + 6 * ((nx + 14 - j) % 15)) (H.2 j)
def rHi (m : yM) (H : zH) : Prop := m.1 178 28 = yN H.1 ∧ ∀ j, j < H.1 → rSt m 193 (54 * (H.1 - 1 - j)) (H.2 j)
def okH (H : zH) : Prop := H.1 ≤ 15 ∧ ∀ j, j < H.1 → zOkT (H.2 j)
abbrev zK : Type := Nat → Option zT
def cKe (m : yM) (K : zK) : Prop := (∀ i, i < 3 → ∀ j, 48 ≤ j → m.1 (162 + 6 * i) j = 0) ∧ ∀ i, i < 3 → m.1 104 i = yB (K i).isSome ∧ ∀ s, K i = some s → cSt m (160 + 6 * i) s
def rKe (m : yM) (K : zK) : Prop := ∀ i, i < 3 → m.1 210 i = yB (K i).isSome ∧ ∀ s, K i = some s → rSt m 211 (54 * i) s
def okK (K : zK) : Prop := ∀ i, i < 3 → ∀ s, K i = some s → zOkT s
/-- the text -/
abbrev zC : Type := Nat × (Nat → Int32)
def cTx (m : yM) (C : zC) : Prop := m.1 1 1 = yN C.1 ∧ ∀ j, j < C.1 → m.1 2 j = C.2 j
def rTx (m : yM) (C : zC) : Prop := m.1 178 10 = yN C.1 ∧ ∀ j, j < C.1 → m.1 183 j = C.2 j
def okC (C : zC) : Prop := C.1 ≤ 80 ∧ ∀ j, j < C.1 → ∃ k, k < 256 ∧ C.2 j = yN k
/-- the row -/
def cRo (m : yM) (D : List Int64) : Prop := m.1 3 1 = yN D.length ∧ ∀ j, j < D.length → m.2 4 j = D.getD j 0
def rRo (m : yM) (D : List Int64) : Prop := m.1 178 1 = yN D.length ∧ ∀ j, j < D.length → m.2 179 j = D.getD j 0
/-- a rule: codes of the reference; what the class has for them -/
def rCv (c : Int32) : Int32 := if c = 3000 then 3000 else if 2000 ≤ c then 2000 + (if c = 2000 then 60 else if c = 2001 then 62 else if c = 2002 then 61 else if c = 2003 then 43 else if c = 2004 then 45 else if c = 2005 then 42 else 47) else c
def rCl (R : List Int32) : List Int32 := if R = [] then [1008, 1000, 2042] else R.map rCv
def cRu (m : yM) (R : List Int32) : Prop := m.1 110 5 = yN (rCl R).length ∧ ∀ j, j < (rCl R).length → m.1 111 j = (rCl R).getD j 0
def rRu (m : yM) (R : List Int32) : Prop := m.1 178 17 = yN R.length ∧ ∀ j, j < R.length → m.1 185 j = R.getD j 0
/-- how deep the stack is behind codes -/
def rDp : List Int32 → Nat → Option Nat
  | [], k => some k
  | c :: r, k => if c = 3000 then (if 1 ≤ k then rDp r k else none) else if 2000 ≤ c then (if 2 ≤ k ∧ c ≤ 2006 then rDp r (k - 1) else none) else if 0 ≤ c ∧ c < 1010 then rDp r (k + 1) else none
def okR (R : List Int32) : Prop := R.length ≤ 40 ∧ (R = [] ∨ rDp R 0 = some 1)
/-- tilts, players, hands, rule -/
abbrev zE : Type := Int32 × Int32 × Nat × (Nat → Int32) × List Int32
def zB0 : Nat → Int32 := fun j => if j < 48 then -1 else 0
def cEn (m : yM) (E : zE) : Prop := (m.1 106 0 = E.1 ∧ m.1 106 1 = E.2.1) ∧ (m.1 0 16 = yN E.2.2.1 ∧ ∀ k, k < E.2.2.1 → m.1 158 k = E.2.2.2.1 k) ∧ cRu m E.2.2.2.2 ∧ Tow m 148 zB0 0 ∧ (∀ j, 48 ≤ j → m.1 120 j = 0) ∧ ∀ j, 48 ≤ j → m.1 154 j = 0
def rEn (m : yM) (E : zE) : Prop := (m.1 178 7 = E.1 ∧ m.1 178 8 = E.2.1) ∧ (m.1 178 6 = yN E.2.2.1 ∧ ∀ k, k < E.2.2.1 → m.1 182 k = E.2.2.2.1 k) ∧ rRu m E.2.2.2.2
def okE (E : zE) : Prop := 1 ≤ E.2.2.1 ∧ E.2.2.1 ≤ 4 ∧ (∀ k, k < E.2.2.1 → ∃ h, h ≤ 9 ∧ E.2.2.2.1 k = yN h) ∧ okR E.2.2.2.2
/-- touches: how many, blocks, tight; what is known -/
abbrev zF : Type := Nat × (Nat → Nat) × (Nat → Bool) × (Nat → Nat) × (Nat → Nat)
def cTo (m : yM) (F : zF) : Prop := m.1 135 10 = yN F.1 ∧ (∀ j, j < F.1 → m.1 136 j = yN (F.2.1 j) ∧ m.1 137 j = yB (F.2.2.1 j)) ∧ ∀ b, b < 48 → m.1 138 b = yN (F.2.2.2.1 b) ∧ m.1 139 b = yN (F.2.2.2.2 b)
def rTo (m : yM) (F : zF) : Prop := m.1 178 44 = yN F.1 ∧ (∀ j, j < F.1 → m.1 205 j = yN (F.2.1 j) ∧ m.1 206 j = yB (F.2.2.1 j)) ∧ ∀ b, b < 48 → m.1 207 b = yN (F.2.2.2.1 b) ∧ m.1 208 b = yN (F.2.2.2.2 b)
def okF (F : zF) : Prop := F.1 ≤ 20 ∧ (∀ j, j < F.1 → F.2.1 j < 48) ∧ ∀ b, b < 48 → F.2.2.2.1 b ≤ F.2.2.2.2 b ∧ F.2.2.2.2 b ≤ 9
def Cl (m : yM) (A : zT) (H : zH) (K : zK) (C : zC) (D : List Int64) (E : zE) (F : zF) : Prop := cSt m 5 A ∧ cHi m H ∧ cKe m K ∧ cTx m C ∧ cRo m D ∧ cEn m E ∧ cTo m F
def Rf (m : yM) (A : zT) (H : zH) (K : zK) (C : zC) (D : List Int64) (E : zE) (F : zF) : Prop := rSt m 180 0 A ∧ rHi m H ∧ rKe m K ∧ rTx m C ∧ rRo m D ∧ rEn m E ∧ rTo m F
def Ok (A : zT) (H : zH) (K : zK) (C : zC) (D : List Int64) (E : zE) (F : zF) : Prop := (zOkT A ∧ zmv A < E.2.2.1) ∧ okH H ∧ okK K ∧ okC C ∧ D.length ≤ 16 ∧ okE E ∧ okF F
/-- the class's cells that nothing rests on -/
def sCs (x j : Nat) : Prop := x = 105 ∨ (107 ≤ x ∧ x ≤ 109) ∨ (x = 110 ∧ j ≠ 5) ∨ (112 ≤ x ∧ x ≤ 119) ∨ (x = 120 ∧ j < 48) ∨ (121 ≤ x ∧ x ≤ 134) ∨ (x = 135 ∧ j ≠ 10) ∨ (140 ≤ x ∧ x ≤ 147) ∨ x = 153 ∨ (x = 154 ∧ j < 48) ∨ (155 ≤ x ∧ x ≤ 157) ∨ x = 159 ∨ 178 ≤ x
/-- the reference's -/
def sRs (x j : Nat) : Prop := x < 178 ∨ (x = 178 ∧ (j = 0 ∨ (11 ≤ j ∧ j ≤ 13) ∨ j = 18 ∨ j = 23 ∨ j = 25 ∨ j = 26 ∨ j = 31 ∨ j = 37 ∨ j = 38 ∨ j = 50)) ∨ x = 181 ∨ x = 184 ∨ (186 ≤ x ∧ x ≤ 192) ∨ (194 ≤ x ∧ x ≤ 204) ∨ x = 209 ∨ 212 ≤ x
section FR
variable {m m' : yM} {S : Nat → Nat → Prop}
theorem cHi.g {H : zH} (h : cHi m H) (g : yG S m m') (hs : ∀ x j, S x j → ¬ (11 ≤ x ∧ x ≤ 102)) (ho : H.1 ≤ 15) : cHi m' H := by
  obtain ⟨h1, h2, nx, h3, h4, h5⟩ := h
  have k : ∀ x j, 11 ≤ x → x ≤ 102 → m'.1 x j = m.1 x j := fun x j p q => (g x j (fun r => hs x j r ⟨p, q⟩)).1
  refine ⟨by rw [k _ _ (by omega) (by omega), h1], fun i hi j hj => by rw [k _ _ (by omega) (by omega), h2 i hi j hj], nx, h3, by rw [k _ _ (by omega) (by omega), h4], fun j hj => ?_⟩
  have hl : (nx + 14 - j) % 15 < 15 := Nat.mod_lt _ (by omega)
  exact (h5 j hj).g g (fun x j r p => hs x j r ⟨by omega, by omega⟩)
theorem cKe.g {K : zK} (h : cKe m K) (g : yG S m m') (hs : ∀ x j, S x j → ¬ (x = 104 ∨ (160 ≤ x ∧ x ≤ 177))) : cKe m' K := by
  obtain ⟨h1, h2⟩ := h
  have k : ∀ x j, x = 104 ∨ (160 ≤ x ∧ x ≤ 177) → m'.1 x j = m.1 x j := fun x j p => (g x j (fun r => hs x j r p)).1
  refine ⟨fun i hi j hj => by rw [k _ _ (by omega), h1 i hi j hj], fun i hi => ⟨by rw [k _ _ (by omega), (h2 i hi).1], fun s e => ?_⟩⟩
  exact ((h2 i hi).2 s e).g g (fun x j r p => hs x j r (by omega))
theorem cTx.g {C : zC} (h : cTx m C) (g : yG S m m') (hs : ∀ x j, S x j → ¬ (x = 1 ∨ x = 2)) : cTx m' C := by
  have k : ∀ x j, (x = 1 ∨ x = 2) → m'.1 x j = m.1 x j := fun x j p => (g x j (fun r => hs x j r p)).1
  exact ⟨by rw [k _ _ (by omega), h.1], fun j hj => by rw [k _ _ (by omega), h.2 j hj]⟩
theorem cRo.g {D : List Int64} (h : cRo m D) (g : yG S m m') (hs : ∀ x j, S x j → ¬ (x = 3 ∨ x = 4)) : cRo m' D :=
  ⟨by rw [(g 3 1 (fun r => hs _ _ r (by omega))).1, h.1], fun j hj => by rw [(g 4 j (fun r => hs _ _ r (by omega))).2, h.2 j hj]⟩
theorem cEn.g {E : zE} (h : cEn m E) (g : yG S m m') (hs : ∀ x j, S x j → ¬ (x = 0 ∨ x = 106 ∨ (x = 110 ∧ j = 5) ∨ x = 111 ∨ (x = 120 ∧ 48 ≤ j) ∨ (148 ≤ x ∧ x ≤ 152) ∨ (x = 154 ∧ 48 ≤ j) ∨ x = 158)) : cEn m' E := by
  obtain ⟨⟨h1, h2⟩, ⟨h3, h4⟩, ⟨h5, h6⟩, h7, h8, h9⟩ := h
  have k : ∀ x j, (x = 0 ∨ x = 106 ∨ (x = 110 ∧ j = 5) ∨ x = 111 ∨ (x = 120 ∧ 48 ≤ j) ∨ (148 ≤ x ∧ x ≤ 152) ∨ (x = 154 ∧ 48 ≤ j) ∨ x = 158) → m'.1 x j = m.1 x j := fun x j p => (g x j (fun r => hs x j r p)).1
  refine ⟨⟨by rw [k _ _ (by omega), h1], by rw [k _ _ (by omega), h2]⟩, ⟨by rw [k _ _ (by omega), h3], fun i hi => by rw [k _ _ (by omega), h4 i hi]⟩, ⟨by rw [k _ _ (by omega), h5], fun i hi => by rw [k _ _ (by omega), h6 i hi]⟩, h7.g g (fun x j p q r => hs x j r (by omega)), fun j hj => by rw [k _ _ (by omega), h8 j hj], fun j hj => by rw [k _ _ (by omega), h9 j hj]⟩
theorem cTo.g {F : zF} (h : cTo m F) (g : yG S m m') (hs : ∀ x j, S x j → ¬ ((x = 135 ∧ j = 10) ∨ (136 ≤ x ∧ x ≤ 139))) : cTo m' F := by
  obtain ⟨h1, h2, h3⟩ := h
  have k : ∀ x j, ((x = 135 ∧ j = 10) ∨ (136 ≤ x ∧ x ≤ 139)) → m'.1 x j = m.1 x j := fun x j p => (g x j (fun r => hs x j r p)).1
  refine ⟨by rw [k _ _ (by omega), h1], fun i hi => ?_, fun b hb => ?_⟩
  · rw [k _ _ (by omega), k _ _ (by omega)]; exact h2 i hi
  · rw [k _ _ (by omega), k _ _ (by omega)]; exact h3 b hb
theorem rHi.g {H : zH} (h : rHi m H) (g : yG S m m') (hs : ∀ x j, S x j → ¬ ((x = 178 ∧ j = 28) ∨ x = 193)) : rHi m' H :=
  ⟨by rw [(g 178 28 (fun r => hs _ _ r (by omega))).1, h.1], fun j hj => (h.2 j hj).g g (fun i _ _ r => hs _ _ r (by omega))⟩
theorem rKe.g {K : zK} (h : rKe m K) (g : yG S m m') (hs : ∀ x j, S x j → ¬ (x = 210 ∨ x = 211)) : rKe m' K :=
  fun i hi => ⟨by rw [(g 210 i (fun r => hs _ _ r (by omega))).1, (h i hi).1], fun s e => ((h i hi).2 s e).g g (fun i _ _ r => hs _ _ r (by omega))⟩
theorem rTx.g {C : zC} (h : rTx m C) (g : yG S m m') (hs : ∀ x j, S x j → ¬ ((x = 178 ∧ j = 10) ∨ x = 183)) : rTx m' C :=
  ⟨by rw [(g 178 10 (fun r => hs _ _ r (by omega))).1, h.1], fun j hj => by rw [(g 183 j (fun r => hs _ _ r (by omega))).1, h.2 j hj]⟩
theorem rRo.g {D : List Int64} (h : rRo m D) (g : yG S m m') (hs : ∀ x j, S x j → ¬ ((x = 178 ∧ j = 1) ∨ x = 179)) : rRo m' D :=
  ⟨by rw [(g 178 1 (fun r => hs _ _ r (by omega))).1, h.1], fun j hj => by rw [(g 179 j (fun r => hs _ _ r (by omega))).2, h.2 j hj]⟩
theorem rEn.g {E : zE} (h : rEn m E) (g : yG S m m') (hs : ∀ x j, S x j → ¬ ((x = 178 ∧ (j = 6 ∨ j = 7 ∨ j = 8 ∨ j = 17)) ∨ x = 182 ∨ x = 185)) : rEn m' E := by
  obtain ⟨⟨h1, h2⟩, ⟨h3, h4⟩, ⟨h5, h6⟩⟩ := h
  have k : ∀ x j, ((x = 178 ∧ (j = 6 ∨ j = 7 ∨ j = 8 ∨ j = 17)) ∨ x = 182 ∨ x = 185) → m'.1 x j = m.1 x j := fun x j p => (g x j (fun r => hs x j r p)).1
  exact ⟨⟨by rw [k _ _ (by omega), h1], by rw [k _ _ (by omega), h2]⟩, ⟨by rw [k _ _ (by omega), h3], fun i hi => by rw [k _ _ (by omega), h4 i hi]⟩, ⟨by rw [k _ _ (by omega), h5], fun i hi => by rw [k _ _ (by omega), h6 i hi]⟩⟩
theorem rTo.g {F : zF} (h : rTo m F) (g : yG S m m') (hs : ∀ x j, S x j → ¬ ((x = 178 ∧ j = 44) ∨ (205 ≤ x ∧ x ≤ 208))) : rTo m' F := by
  obtain ⟨h1, h2, h3⟩ := h
  have k : ∀ x j, ((x = 178 ∧ j = 44) ∨ (205 ≤ x ∧ x ≤ 208)) → m'.1 x j = m.1 x j := fun x j p => (g x j (fun r => hs x j r p)).1
  refine ⟨by rw [k _ _ (by omega), h1], fun i hi => ?_, fun b hb => ?_⟩
  · rw [k _ _ (by omega), k _ _ (by omega)]; exact h2 i hi
  · rw [k _ _ (by omega), k _ _ (by omega)]; exact h3 b hb
variable {A A' : zT} {H H' : zH} {K K' : zK} {C C' : zC} {D D' : List Int64} {E E' : zE} {F F' : zF}
/-- one thing that the class holds changes -/
theorem Cl.fA (c : Cl m A H K C D E F) (o : H.1 ≤ 15) (g : yG S m m') (hs : ∀ x j, S x j → sCs x j ∨ (5 ≤ x ∧ x ≤ 10)) (n : cSt m' 5 A') : Cl m' A' H K C D E F :=
  ⟨n, c.2.1.g g (fun x j q => by have := hs x j q; unfold sCs at this; omega) o, c.2.2.1.g g (fun x j q => by have := hs x j q; unfold sCs at this; omega), c.2.2.2.1.g g (fun x j q => by have := hs x j q; unfold sCs at this; omega), c.2.2.2.2.1.g g (fun x j q => by have := hs x j q; unfold sCs at this; omega), c.2.2.2.2.2.1.g g (fun x j q => by have := hs x j q; unfold sCs at this; omega), c.2.2.2.2.2.2.g g (fun x j q => by have := hs x j q; unfold sCs at this; omega)⟩
theorem Cl.fH (c : Cl m A H K C D E F) (g : yG S m m') (hs : ∀ x j, S x j → sCs x j ∨ (11 ≤ x ∧ x ≤ 102)) (n : cHi m' H') : Cl m' A H' K C D E F :=
  ⟨c.1.g g (fun x j q => by have := hs x j q; unfold sCs at this; omega), n, c.2.2.1.g g (fun x j q => by have := hs x j q; unfold sCs at this; omega), c.2.2.2.1.g g (fun x j q => by have := hs x j q; unfold sCs at this; omega), c.2.2.2.2.1.g g (fun x j q => by have := hs x j q; unfold sCs at this; omega), c.2.2.2.2.2.1.g g (fun x j q => by have := hs x j q; unfold sCs at this; omega), c.2.2.2.2.2.2.g g (fun x j q => by have := hs x j q; unfold sCs at this; omega)⟩
theorem Cl.fK (c : Cl m A H K C D E F) (o : H.1 ≤ 15) (g : yG S m m') (hs : ∀ x j, S x j → sCs x j ∨ x = 104 ∨ (160 ≤ x ∧ x ≤ 177)) (n : cKe m' K') : Cl m' A H K' C D E F :=
  ⟨c.1.g g (fun x j q => by have := hs x j q; unfold sCs at this; omega), c.2.1.g g (fun x j q => by have := hs x j q; unfold sCs at this; omega) o, n, c.2.2.2.1.g g (fun x j q => by have := hs x j q; unfold sCs at this; omega), c.2.2.2.2.1.g g (fun x j q => by have := hs x j q; unfold sCs at this; omega), c.2.2.2.2.2.1.g g (fun x j q => by have := hs x j q; unfold sCs at this; omega), c.2.2.2.2.2.2.g g (fun x j q => by have := hs x j q; unfold sCs at this; omega)⟩
theorem Cl.fC (c : Cl m A H K C D E F) (o : H.1 ≤ 15) (g : yG S m m') (hs : ∀ x j, S x j → sCs x j ∨ x = 1 ∨ x = 2) (n : cTx m' C') : Cl m' A H K C' D E F :=
  ⟨c.1.g g (fun x j q => by have := hs x j q; unfold sCs at this; omega), c.2.1.g g (fun x j q => by have := hs x j q; unfold sCs at this; omega) o, c.2.2.1.g g (fun x j q => by have := hs x j q; unfold sCs at this; omega), n, c.2.2.2.2.1.g g (fun x j q => by have := hs x j q; unfold sCs at this; omega), c.2.2.2.2.2.1.g g (fun x j q => by have := hs x j q; unfold sCs at this; omega), c.2.2.2.2.2.2.g g (fun x j q => by have := hs x j q; unfold sCs at this; omega)⟩
theorem Cl.fD (c : Cl m A H K C D E F) (o : H.1 ≤ 15) (g : yG S m m') (hs : ∀ x j, S x j → sCs x j ∨ x = 3 ∨ x = 4) (n : cRo m' D') : Cl m' A H K C D' E F :=
  ⟨c.1.g g (fun x j q => by have := hs x j q; unfold sCs at this; omega), c.2.1.g g (fun x j q => by have := hs x j q; unfold sCs at this; omega) o, c.2.2.1.g g (fun x j q => by have := hs x j q; unfold sCs at this; omega), c.2.2.2.1.g g (fun x j q => by have := hs x j q; unfold sCs at this; omega), n, c.2.2.2.2.2.1.g g (fun x j q => by have := hs x j q; unfold sCs at this; omega), c.2.2.2.2.2.2.g g (fun x j q => by have := hs x j q; unfold sCs at this; omega)⟩
theorem Cl.fE (c : Cl m A H K C D E F) (o : H.1 ≤ 15) (g : yG S m m') (hs : ∀ x j, S x j → sCs x j ∨ (x = 0 ∨ x = 106 ∨ x = 110 ∨ x = 111 ∨ x = 120 ∨ (148 ≤ x ∧ x ≤ 152) ∨ x = 154 ∨ x = 158)) (n : cEn m' E') : Cl m' A H K C D E' F :=
  ⟨c.1.g g (fun x j q => by have := hs x j q; unfold sCs at this; omega), c.2.1.g g (fun x j q => by have := hs x j q; unfold sCs at this; omega) o, c.2.2.1.g g (fun x j q => by have := hs x j q; unfold sCs at this; omega), c.2.2.2.1.g g (fun x j q => by have := hs x j q; unfold sCs at this; omega), c.2.2.2.2.1.g g (fun x j q => by have := hs x j q; unfold sCs at this; omega), n, c.2.2.2.2.2.2.g g (fun x j q => by have := hs x j q; unfold sCs at this; omega)⟩
theorem Cl.fF (c : Cl m A H K C D E F) (o : H.1 ≤ 15) (g : yG S m m') (hs : ∀ x j, S x j → sCs x j ∨ (135 ≤ x ∧ x ≤ 139)) (n : cTo m' F') : Cl m' A H K C D E F' :=
  ⟨c.1.g g (fun x j q => by have := hs x j q; unfold sCs at this; omega), c.2.1.g g (fun x j q => by have := hs x j q; unfold sCs at this; omega) o, c.2.2.1.g g (fun x j q => by have := hs x j q; unfold sCs at this; omega), c.2.2.2.1.g g (fun x j q => by have := hs x j q; unfold sCs at this; omega), c.2.2.2.2.1.g g (fun x j q => by have := hs x j q; unfold sCs at this; omega), c.2.2.2.2.2.1.g g (fun x j q => by have := hs x j q; unfold sCs at this; omega), n⟩
theorem Cl.fr (c : Cl m A H K C D E F) (o : H.1 ≤ 15) (g : yG S m m') (hs : ∀ x j, S x j → sCs x j) : Cl m' A H K C D E F :=
  c.fC o g (fun x j q => Or.inl (hs x j q)) (c.2.2.2.1.g g (fun x j q => by have := hs x j q; unfold sCs at this; omega))
theorem Rf.fA (c : Rf m A H K C D E F) (g : yG S m m') (hs : ∀ x j, S x j → sRs x j ∨ x = 180) (n : rSt m' 180 0 A') : Rf m' A' H K C D E F :=
  ⟨n, c.2.1.g g (fun x j q => by have := hs x j q; unfold sRs at this; omega), c.2.2.1.g g (fun x j q => by have := hs x j q; unfold sRs at this; omega), c.2.2.2.1.g g (fun x j q => by have := hs x j q; unfold sRs at this; omega), c.2.2.2.2.1.g g (fun x j q => by have := hs x j q; unfold sRs at this; omega), c.2.2.2.2.2.1.g g (fun x j q => by have := hs x j q; unfold sRs at this; omega), c.2.2.2.2.2.2.g g (fun x j q => by have := hs x j q; unfold sRs at this; omega)⟩
theorem Rf.fH (c : Rf m A H K C D E F) (g : yG S m m') (hs : ∀ x j, S x j → sRs x j ∨ (x = 178 ∧ j = 28) ∨ x = 193) (n : rHi m' H') : Rf m' A H' K C D E F :=
  ⟨c.1.g g (fun j _ _ q => by have := hs _ j q; unfold sRs at this; omega), n, c.2.2.1.g g (fun x j q => by have := hs x j q; unfold sRs at this; omega), c.2.2.2.1.g g (fun x j q => by have := hs x j q; unfold sRs at this; omega), c.2.2.2.2.1.g g (fun x j q => by have := hs x j q; unfold sRs at this; omega), c.2.2.2.2.2.1.g g (fun x j q => by have := hs x j q; unfold sRs at this; omega), c.2.2.2.2.2.2.g g (fun x j q => by have := hs x j q; unfold sRs at this; omega)⟩
theorem Rf.fK (c : Rf m A H K C D E F) (g : yG S m m') (hs : ∀ x j, S x j → sRs x j ∨ x = 210 ∨ x = 211) (n : rKe m' K') : Rf m' A H K' C D E F :=
  ⟨c.1.g g (fun j _ _ q => by have := hs _ j q; unfold sRs at this; omega), c.2.1.g g (fun x j q => by have := hs x j q; unfold sRs at this; omega), n, c.2.2.2.1.g g (fun x j q => by have := hs x j q; unfold sRs at this; omega), c.2.2.2.2.1.g g (fun x j q => by have := hs x j q; unfold sRs at this; omega), c.2.2.2.2.2.1.g g (fun x j q => by have := hs x j q; unfold sRs at this; omega), c.2.2.2.2.2.2.g g (fun x j q => by have := hs x j q; unfold sRs at this; omega)⟩
theorem Rf.fC (c : Rf m A H K C D E F) (g : yG S m m') (hs : ∀ x j, S x j → sRs x j ∨ (x = 178 ∧ j = 10) ∨ x = 183) (n : rTx m' C') : Rf m' A H K C' D E F :=
  ⟨c.1.g g (fun j _ _ q => by have := hs _ j q; unfold sRs at this; omega), c.2.1.g g (fun x j q => by have := hs x j q; unfold sRs at this; omega), c.2.2.1.g g (fun x j q => by have := hs x j q; unfold sRs at this; omega), n, c.2.2.2.2.1.g g (fun x j q => by have := hs x j q; unfold sRs at this; omega), c.2.2.2.2.2.1.g g (fun x j q => by have := hs x j q; unfold sRs at this; omega), c.2.2.2.2.2.2.g g (fun x j q => by have := hs x j q; unfold sRs at this; omega)⟩
theorem Rf.fD (c : Rf m A H K C D E F) (g : yG S m m') (hs : ∀ x j, S x j → sRs x j ∨ (x = 178 ∧ j = 1) ∨ x = 179) (n : rRo m' D') : Rf m' A H K C D' E F :=
  ⟨c.1.g g (fun j _ _ q => by have := hs _ j q; unfold sRs at this; omega), c.2.1.g g (fun x j q => by have := hs x j q; unfold sRs at this; omega), c.2.2.1.g g (fun x j q => by have := hs x j q; unfold sRs at this; omega), c.2.2.2.1.g g (fun x j q => by have := hs x j q; unfold sRs at this; omega), n, c.2.2.2.2.2.1.g g (fun x j q => by have := hs x j q; unfold sRs at this; omega), c.2.2.2.2.2.2.g g (fun x j q => by have := hs x j q; unfold sRs at this; omega)⟩
theorem Rf.fE (c : Rf m A H K C D E F) (g : yG S m m') (hs : ∀ x j, S x j → sRs x j ∨ (x = 178 ∧ (j = 6 ∨ j = 7 ∨ j = 8 ∨ j = 17)) ∨ x = 182 ∨ x = 185) (n : rEn m' E') : Rf m' A H K C D E' F :=
  ⟨c.1.g g (fun j _ _ q => by have := hs _ j q; unfold sRs at this; omega), c.2.1.g g (fun x j q => by have := hs x j q; unfold sRs at this; omega), c.2.2.1.g g (fun x j q => by have := hs x j q; unfold sRs at this; omega), c.2.2.2.1.g g (fun x j q => by have := hs x j q; unfold sRs at this; omega), c.2.2.2.2.1.g g (fun x j q => by have := hs x j q; unfold sRs at this; omega), n, c.2.2.2.2.2.2.g g (fun x j q => by have := hs x j q; unfold sRs at this; omega)⟩
theorem Rf.fF (c : Rf m A H K C D E F) (g : yG S m m') (hs : ∀ x j, S x j → sRs x j ∨ (x = 178 ∧ j = 44) ∨ (205 ≤ x ∧ x ≤ 208)) (n : rTo m' F') : Rf m' A H K C D E F' :=
  ⟨c.1.g g (fun j _ _ q => by have := hs _ j q; unfold sRs at this; omega), c.2.1.g g (fun x j q => by have := hs x j q; unfold sRs at this; omega), c.2.2.1.g g (fun x j q => by have := hs x j q; unfold sRs at this; omega), c.2.2.2.1.g g (fun x j q => by have := hs x j q; unfold sRs at this; omega), c.2.2.2.2.1.g g (fun x j q => by have := hs x j q; unfold sRs at this; omega), c.2.2.2.2.2.1.g g (fun x j q => by have := hs x j q; unfold sRs at this; omega), n⟩
theorem Rf.fr (c : Rf m A H K C D E F) (g : yG S m m') (hs : ∀ x j, S x j → sRs x j) : Rf m' A H K C D E F :=
  c.fC g (fun x j q => Or.inl (hs x j q)) (c.2.2.2.1.g g (fun x j q => by have := hs x j q; unfold sRs at this; omega))
end FR
/-- cells of the class; of the reference -/
def sC (x _j : Nat) : Prop := x < 178
def sR (x _j : Nat) : Prop := 178 ≤ x ∧ x < 212
