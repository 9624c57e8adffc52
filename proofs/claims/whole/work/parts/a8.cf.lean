/-! ===== behind the constructors ===== -/
def zCs : List xE := (W4 ++ B166 178) ++ [.inl (1, 1, .inr (.inl (fun _ => 0)))]
def cI (e : xE) : Nat → Int32 := match e with
  | .inl (_, _, .inl f) => f
  | .inr (_, fs) => fun k => match fs[k]? with
    | some (.int v) => v
    | _ => 0
  | _ => fun _ => 0
def cL (e : xE) : Nat → Int64 := match e with
  | .inl (_, _, .inr (.inl f)) => f
  | _ => fun _ => 0
def m0 : yM := (fun x => cI (zCs.getD x xNo), fun x => cL (zCs.getD x xNo))
def chF : List Value → List (Option Nat) → Bool
  | [], [] => true
  | .ref r :: t, some q :: u => decide (r = q) && chF t u
  | .int _ :: t, none :: u => chF t u
  | _, _ => false
def chk (e : xE) (s : yS) : Bool := match e, s with
  | .inl (t, n, .inl _), .inl (t', n') => decide (t = t' ∧ n = n' ∧ t ≠ 1)
  | .inl (t, n, .inr (.inl _)), .inl (t', n') => decide (t = 1 ∧ t' = 1 ∧ n = n')
  | .inr (ci, fs), .inr (.inr (ci', fl)) => decide (ci = ci') && chF fs fl
  | _, _ => false
theorem chF_ok : ∀ (fs : List Value) (fl : List (Option Nat)) (k : Nat) (f : Nat → Int32), chF fs fl = true → (∀ i v, fs[i]? = some (.int v) → f (k + i) = v) → yFs f k fl = fs
  | [], [], _, _, _, _ => rfl
  | .ref r :: t, some q :: u, k, f, h, g => by
    rw [chF, Bool.and_eq_true, decide_eq_true_eq] at h
    rw [yFs, chF_ok t u (k + 1) f h.2 (fun i v e => by rw [show k + 1 + i = k + (i + 1) by omega]; exact g (i + 1) v (by simpa using e)), h.1]
  | .int x :: t, none :: u, k, f, h, g => by
    rw [chF] at h
    rw [yFs, chF_ok t u (k + 1) f h (fun i v e => by rw [show k + 1 + i = k + (i + 1) by omega]; exact g (i + 1) v (by simpa using e)), show f k = x from g 0 x rfl]
  | [], _ :: _, _, _, h, _ => by simp [chF] at h
  | .ref _ :: _, [], _, _, h, _ => by simp [chF] at h
  | .ref _ :: _, none :: _, _, _, h, _ => by simp [chF] at h
  | .int _ :: _, [], _, _, h, _ => by simp [chF] at h
  | .int _ :: _, some _ :: _, _, _, h, _ => by simp [chF] at h
  | .long _ :: _, _, _, _, h, _ => by simp [chF] at h
  | .null :: _, _, _, _, h, _ => by simp [chF] at h
  | .float _ :: _, _, _, _, h, _ => by simp [chF] at h
  | .double _ :: _, _, _, _, h, _ => by simp [chF] at h
theorem chk_ok {e : xE} {s : yS} {m : yM} {a : Nat} (h : chk e s = true) (h1 : m.1 a = cI e) (h2 : m.2 a = cL e) : yC m a s = e := by
  match e, s, h with
  | .inl (t, n, .inl f), .inl (t', n'), h =>
    unfold chk at h
    rw [decide_eq_true_eq] at h
    obtain ⟨rfl, rfl, hne⟩ := h
    unfold yC
    dsimp only
    rw [if_neg hne, h1]; rfl
  | .inl (t, n, .inr (.inl f)), .inl (t', n'), h =>
    unfold chk at h
    rw [decide_eq_true_eq] at h
    obtain ⟨rfl, rfl, rfl⟩ := h
    unfold yC
    dsimp only
    rw [if_pos rfl, h2]; rfl
  | .inr (ci, fs), .inr (.inr (ci', fl)), h =>
    unfold chk at h
    rw [Bool.and_eq_true, decide_eq_true_eq] at h
    obtain ⟨rfl, h⟩ := h
    unfold yC
    dsimp only
    rw [chF_ok fs fl 0 (m.1 a) h (fun i v e => by rw [h1, Nat.zero_add]; unfold cI; dsimp only; rw [e])]
theorem zCs_chk : ∀ a : Fin 213, a.val = 12 ∨ a.val = 103 ∨ chk (zCs.getD a.val xNo) (ySh.getD a.val (.inl (9, 9))) = true := by decide +kernel
theorem zCs_len : zCs.length = 213 := by decide +kernel
theorem ySh_len : ySh.length = 213 := by decide +kernel
theorem stA_rs {n N : Nat} {rs : List Nat} (hl : rs.length = N) (h : ∀ j, j < N → rs[j]? = some (n + 6 * j)) : stA n N N = .inl (3, rs.length, .inr (.inr (.inr (.inr (fun j => rs[j]?))))) := by
  unfold stA
  rw [hl]
  congr 7
  funext j
  by_cases q : j < N
  · rw [if_pos q, h j q]
  · rw [if_neg q, List.getElem?_eq_none (by omega)]
theorem zCs_y {sl L : Nat} {xs : Nat → Int32} : cH zCs sl L xs = yH (213, sl, 0, L, xs) m0 := by
  unfold cH yH
  rw [zCs_len]
  congr 3
  funext a
  by_cases h : a < 213
  · have hF : zCs[a]? = some (zCs.getD a xNo) := by rw [List.getD, List.getElem?_eq_getElem (by rw [zCs_len]; exact h)]; rfl
    have hY : ySh[a]? = some (ySh.getD a (.inl (9, 9))) := by rw [List.getD, List.getElem?_eq_getElem (by rw [ySh_len]; exact h)]; rfl
    rw [hF, yCs_of hY]
    dsimp only
    rcases zCs_chk ⟨a, h⟩ with q | q | q
    · have q : a = 12 := q
      subst q
      show stA (11 + 2) 15 15 = _
      rw [stA_rs (n := 11 + 2) (N := 15) (rs := [13, 19, 25, 31, 37, 43, 49, 55, 61, 67, 73, 79, 85, 91, 97]) rfl (fun j hj => y12l ⟨j, hj⟩)]
      rfl
    · have q : a = 103 := q
      subst q
      show stA 160 3 3 = _
      rw [stA_rs (n := 160) (N := 3) (rs := [160, 166, 172]) rfl (fun j hj => by rcases (show j = 0 ∨ j = 1 ∨ j = 2 by omega) with rfl | rfl | rfl <;> rfl)]
      rfl
    · exact (chk_ok q rfl rfl).symm
  · have hF : zCs[a]? = none := List.getElem?_eq_none (by rw [zCs_len]; omega)
    have hY : ySh[a]? = none := List.getElem?_eq_none (by rw [ySh_len]; omega)
    unfold yCs
    rw [hF, hY]
