/-! PART 40: numbers, options as ints, rows -/
def eO (o : Option Nat) : Int32 := match o with
  | none => -1
  | some k => nI k
theorem nI_mul (a b : Nat) : nI a * nI b = nI (a * b) := by simp [nI, Int32.ofNat_mul]
theorem nI_m1 {a : Nat} (h : a < 2 ^ 31) : ¬ nI a = -1 := by
  intro e
  have h1 := congrArg Int32.toInt e
  rw [nI_toInt h] at h1
  have h2 : (-1 : Int32).toInt = -1 := by decide
  omega
theorem nI_k (k : Nat) (x : Int32) (h : Int32.ofNat k = x := by rfl) : x = nI k := h.symm
theorem eO_none {o : Option Nat} (h : ∀ k, o = some k → k < 2 ^ 31) : eO o = -1 ↔ o = none := by
  cases o with
  | none => simp [eO]
  | some k => simpa [eO] using nI_m1 (h k rfl)
theorem eO_inj {o u : Option Nat} (h : ∀ k, o = some k → k < 2 ^ 31) (h' : ∀ k, u = some k → k < 2 ^ 31) (e : eO o = eO u) : o = u := by
  cases o with
  | none => exact ((eO_none h').mp e.symm).symm
  | some k =>
    cases u with
    | none => exact absurd e (nI_m1 (h k rfl))
    | some j => exact congrArg some ((nI_eq (h k rfl) (h' j rfl)).mp e)
theorem m_ald {α : Type} {n i : Nat} (f : Nat → α) (hi : i < n) (hn : n < 2 ^ 31) : ald n f (nI i) = some (f i) := by
  unfold ald
  rw [if_neg (nI_in hi hn), nI_clamp (by omega)]
theorem m_ast {n i : Nat} (f : Nat → Int32) (v : Int32) (hi : i < n) (hn : n < 2 ^ 31) : ast n f (nI i) v = some (upd f i v) := by
  unfold ast
  rw [if_neg (nI_in hi hn), nI_clamp (by omega)]
theorem m_lst {n i : Nat} (f : Nat → Int64) (v : Int64) (hi : i < n) (hn : n < 2 ^ 31) : lst n f (nI i) v = some (vp_updL f i v) := by
  unfold lst
  rw [if_neg (nI_in hi hn), nI_clamp (by omega)]
theorem m_at {n i : Nat} (f : Nat → Int32) (hi : i < n) (hn : n < 2 ^ 31) : FX1_at n f (nI i) = some (f i) := by
  unfold FX1_at
  rw [if_neg (nI_pos (by omega)), if_neg (show ¬ Int32.ofNat n ≤ nI i from nI_ge hi hn), m_ald f hi hn]
  rfl
theorem m_atN (n : Nat) (f : Nat → Int32) : FX1_at n f (-1) = some (-1) := by
  unfold FX1_at
  rw [if_pos (by decide)]
theorem m_put {n i : Nat} (f : Nat → Int32) (v : Int32) (hi : i < n) (hn : n < 2 ^ 31) : FX1_put n f (nI i) v = some (upd f i v) := by
  unfold FX1_put
  rw [if_neg (nI_pos (by omega)), if_neg (show ¬ Int32.ofNat n ≤ nI i from nI_ge hi hn), m_ast f v hi hn]
  rfl
theorem m_lat {n i : Nat} (f : Nat → Int64) (hi : i < n) (hn : n < 2 ^ 31) : FX2_at n f (nI i) = some (f i) := by
  unfold FX2_at
  rw [if_neg (nI_pos (by omega)), if_neg (show ¬ Int32.ofNat n ≤ nI i from nI_ge hi hn), m_ald f hi hn]
  rfl
theorem m_lput {n i : Nat} (f : Nat → Int64) (v : Int64) (hi : i < n) (hn : n < 2 ^ 31) : FX2_put n f (nI i) v = some (vp_updL f i v) := by
  unfold FX2_put
  rw [if_neg (nI_pos (by omega)), if_neg (show ¬ Int32.ofNat n ≤ nI i from nI_ge hi hn), m_lst f v hi hn]
  rfl
theorem m_fillL {n : Nat} (hn : n < 2 ^ 31) (v : Int32) (k9 : (Nat → Int32) → Int32 → Option (Nat → Int32)) : ∀ (m j : Nat) (f : Nat → Int32), j ≤ n → n - j < m → FJ7_fill_53178_L5 n v (nI n) k9 m f (nI j) = k9 (fun i => if j ≤ i ∧ i < n then v else f i) (nI n) := by
  intro m
  induction m with
  | zero => intro j f h1 h2; omega
  | succ m ih =>
    intro j f h1 h2
    rw [FJ7_fill_53178_L5]
    by_cases h : j = n
    · subst h
      rw [if_pos (nI_le (Nat.le_refl _) hn)]
      congr 1
      funext i
      rw [if_neg (by omega)]
    · rw [if_neg (nI_ge (by omega) hn), m_ast f v (by omega) hn]
      show FJ7_fill_53178_L5 n v (nI n) k9 m (upd f j v) (nI j + 1) = _
      rw [nI_1, ih (j + 1) _ (by omega) (by omega)]
      congr 1
      funext i
      unfold upd
      by_cases h3 : i = j
      · subst h3
        rw [if_neg (by omega), if_pos rfl, if_pos (by omega)]
      · by_cases h4 : j + 1 ≤ i ∧ i < n
        · rw [if_pos h4, if_pos (by omega)]
        · rw [if_neg h4, if_neg h3, if_neg (by omega)]
theorem m_fill {n : Nat} (hn : n < 100000) (f : Nat → Int32) (v : Int32) : FX1_fill n f v = some (fun i => if i < n then v else f i) := by
  unfold FX1_fill FJ7_fill_53178
  have h := m_fillL (n := n) (by omega) v (fun f_4 _ => some f_4) 100000 0 f (by omega) (by omega)
  have h0 : nI 0 = 0 := nI_0
  rw [h0] at h
  show ((FJ7_fill_53178_L5 n v (nI n) (fun f_4 w2_4 => some f_4) 100000 f 0).bind fun s1 => some s1) = _
  rw [h]
  simp
-- counting
def cntT : Nat → (Nat → Option Nat) → Nat → Nat
  | 0, _, _ => 0
  | n + 1, T, k => cntT n T k + (if T n = some k then 1 else 0)
theorem cntT_congr {T U : Nat → Option Nat} (k : Nat) : ∀ n, (∀ s, s < n → T s = U s) → cntT n T k = cntT n U k := by
  intro n
  induction n with
  | zero => intro _; rfl
  | succ n ih =>
    intro h
    show cntT n T k + _ = cntT n U k + _
    rw [ih (fun s hs => h s (by omega)), h n (by omega)]
theorem cntT_upd (T : Nat → Option Nat) (s : Nat) (o : Option Nat) (k : Nat) : ∀ n, s < n → cntT n (vf_upd T s o) k + (if T s = some k then 1 else 0) = cntT n T k + (if o = some k then 1 else 0) := by
  intro n
  induction n with
  | zero => intro h; omega
  | succ n ih =>
    intro h
    show cntT n (vf_upd T s o) k + (if vf_upd T s o n = some k then 1 else 0) + _ = cntT n T k + (if T n = some k then 1 else 0) + _
    by_cases hs : s = n
    · subst hs
      rw [cntT_congr (T := vf_upd T s o) (U := T) k s (fun i hi => by unfold vf_upd; rw [if_neg (by omega)])]
      have : vf_upd T s o s = o := by unfold vf_upd; rw [if_pos rfl]
      rw [this]
      omega
    · have h1 := ih (by omega)
      have : vf_upd T s o n = T n := by unfold vf_upd; rw [if_neg (fun e => hs e.symm)]
      rw [this]
      omega
theorem cntT_pos {T : Nat → Option Nat} {k : Nat} : ∀ n, 0 < cntT n T k ↔ ∃ s, s < n ∧ T s = some k := by
  intro n
  induction n with
  | zero => constructor
            · intro h; exact absurd h (by simp [cntT])
            · rintro ⟨s, hs, -⟩; omega
  | succ n ih =>
    show 0 < cntT n T k + _ ↔ _
    by_cases h : T n = some k
    · rw [if_pos h]
      exact ⟨fun _ => ⟨n, by omega, h⟩, fun _ => by omega⟩
    · rw [if_neg h, Nat.add_zero, ih]
      constructor
      · rintro ⟨s, hs, e⟩; exact ⟨s, by omega, e⟩
      · rintro ⟨s, hs, e⟩
        by_cases hsn : s = n
        · subst hsn; exact absurd e h
        · exact ⟨s, by omega, e⟩
theorem cntT_le (T : Nat → Option Nat) (k : Nat) : ∀ n, cntT n T k ≤ n := by
  intro n
  induction n with
  | zero => exact Nat.le_refl 0
  | succ n ih =>
    show cntT n T k + _ ≤ _
    split <;> omega
def frN : Nat → (Nat → Option Nat) → Nat
  | 0, _ => 0
  | n + 1, lev => frN n lev + (if lev n = none then 1 else 0)
theorem frN_le (lev : Nat → Option Nat) : ∀ n, frN n lev ≤ n := by
  intro n
  induction n with
  | zero => exact Nat.le_refl 0
  | succ n ih =>
    show frN n lev + _ ≤ _
    split <;> omega
theorem frN_congr {T U : Nat → Option Nat} : ∀ n, (∀ s, s < n → T s = U s) → frN n T = frN n U := by
  intro n
  induction n with
  | zero => intro _; rfl
  | succ n ih =>
    intro h
    show frN n T + _ = frN n U + _
    rw [ih (fun s hs => h s (by omega)), h n (by omega)]
theorem frN_upd (T : Nat → Option Nat) (s : Nat) (o : Option Nat) : ∀ n, s < n → frN n (vf_upd T s o) + (if T s = none then 1 else 0) = frN n T + (if o = none then 1 else 0) := by
  intro n
  induction n with
  | zero => intro h; omega
  | succ n ih =>
    intro h
    show frN n (vf_upd T s o) + (if vf_upd T s o n = none then 1 else 0) + _ = frN n T + (if T n = none then 1 else 0) + _
    by_cases hs : s = n
    · subst hs
      rw [frN_congr (T := vf_upd T s o) (U := T) s (fun i hi => by unfold vf_upd; rw [if_neg (by omega)])]
      have : vf_upd T s o s = o := by unfold vf_upd; rw [if_pos rfl]
      rw [this]
      omega
    · have h1 := ih (by omega)
      have : vf_upd T s o n = T n := by unfold vf_upd; rw [if_neg (fun e => hs e.symm)]
      rw [this]
      omega
theorem frN_pos {lev : Nat → Option Nat} : ∀ n, 0 < frN n lev → ∃ k, k < n ∧ lev k = none ∧ ∀ i, i < k → lev i ≠ none := by
  intro n
  induction n with
  | zero => intro h; exact absurd h (by simp [frN])
  | succ n ih =>
    intro h
    by_cases h0 : 0 < frN n lev
    · obtain ⟨k, h1, h2, h3⟩ := ih h0
      exact ⟨k, by omega, h2, h3⟩
    · have h1 : frN n lev + (if lev n = none then 1 else 0) > 0 := h
      by_cases hn : lev n = none
      · refine ⟨n, by omega, hn, fun i hi e => ?_⟩
        have h2 : ∀ m, i < m → 0 < frN m lev := by
          intro m hm
          induction m with
          | zero => omega
          | succ m ihm =>
            show 0 < frN m lev + _
            by_cases him : i = m
            · subst him; rw [if_pos e]; omega
            · have := ihm (by omega); omega
        exact h0 (h2 n hi)
      · rw [if_neg hn] at h1; omega
