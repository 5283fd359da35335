/-! PART 46: the reference's sweeps -/
theorem nar1 : vp_nar .boolean 1 = 1 := rfl
theorem nar0 : vp_nar .boolean 0 = 0 := rfl
theorem kmul (a b : Nat) (c : Int32) (hc : c = nI a) : c * nI b = nI (a * b) := by rw [hc, nI_mul]
theorem rchN_lev {lev T : Nat → Option Nat} (h : bStr lev T) : ∀ (n k : Nat), rchN T n k → n ≤ 3 ∧ lev k = some (3 - n) := by
  intro n
  induction n with
  | zero =>
    rintro k ⟨s, h1, h2, h3⟩
    obtain ⟨l, a1, a2⟩ := h s k h2 h3
    unfold slv at a2
    rw [if_neg (by omega)] at a2
    cases a2
    exact ⟨by omega, a1⟩
  | succ n ih =>
    rintro k ⟨p, i, h1, h2, h3, h4⟩
    obtain ⟨b1, b2⟩ := ih p h1
    obtain ⟨l, a1, a2⟩ := h (8 * p + i) k (by omega) h4
    unfold slv at a2
    rw [if_pos (by omega), show (8 * p + i) / 8 = p by omega, b2] at a2
    have e := Option.some.inj a2
    refine ⟨by omega, by rw [a1]; congr 1; omega⟩
def mkd (N : Nat) (r : Nat → Int32) (M : Nat → Prop) : Prop := ∀ k, k < N → (M k → r k = 1) ∧ (¬ M k → r k = 0)
theorem mkd_add {N : Nat} {r : Nat → Int32} {M M' : Nat → Prop} {j : Nat} (h : mkd N r M) (hM : ∀ k, M' k ↔ (M k ∨ k = j)) : mkd N (upd r j 1) M' := by
  intro k hk
  by_cases e : k = j
  · subst e
    exact ⟨fun _ => upd_self, fun z => absurd ((hM k).mpr (Or.inr rfl)) z⟩
  · rw [upd_ne e]
    exact ⟨fun z => (h k hk).1 (((hM k).mp z).resolve_right e), fun z => (h k hk).2 (fun y => z ((hM k).mpr (Or.inl y)))⟩
theorem mkd_iff {N : Nat} {r : Nat → Int32} {M M' : Nat → Prop} (h : mkd N r M) (hM : ∀ k, M' k ↔ M k) : mkd N r M' := fun k hk => ⟨fun z => (h k hk).1 ((hM k).mp z), fun z => (h k hk).2 (fun y => z ((hM k).mpr y))⟩
def liveT (bz sn t : Nat) : Prop := t = 0 ∨ (t = 1 ∧ bz = 1) ∨ (2 ≤ t ∧ t < 2 + sn)
theorem m8_isTree {x : MS} {v bz sn t : Nat} (hv : v < 2) (hbz : MS_busy x v = nI bz) (hb : bz < 2) (hsn : MS_snaps x v = nI sn) (hs : sn ≤ 20) (ht : t < 22) :
    (liveT bz sn t → FX8_isTree x (nI v) (nI t) = some 1) ∧ (¬ liveT bz sn t → FX8_isTree x (nI v) (nI t) = some 0) := by
  unfold FX8_isTree liveT
  have e2 : (2 : Int32) = nI 2 := rfl
  have e1 : (1 : Int32) = nI 1 := rfl
  by_cases h0 : t = 0
  · subst h0
    rw [if_pos nI_0]
    exact ⟨fun _ => rfl, fun z => absurd (Or.inl rfl) z⟩
  · rw [if_neg (nI_ne0 (by omega) (by omega))]
    have h2s : (2 : Int32) + nI sn = nI (2 + sn) := by rw [e2, nI_add]
    by_cases h1 : t = 1
    · subst h1
      rw [if_pos e1.symm, m_ald _ hv (by omega)]
      simp only [Option.bind_some]
      rw [hbz]
      by_cases hz : bz = 0
      · subst hz
        rw [if_pos nI_0, if_pos (by rw [e2]; exact nI_lt (by omega) (by omega))]
        exact ⟨fun z => by omega, fun _ => rfl⟩
      · rw [if_neg (nI_ne0 (by omega) (by omega))]
        exact ⟨fun _ => rfl, fun z => absurd (Or.inr (Or.inl ⟨by trivial, by omega⟩)) z⟩
    · rw [if_neg (fun z => h1 ((nI_eq (by omega) (by omega)).mp (z.trans e1))), if_neg (by rw [e2]; exact nI_nlt (by omega) (by omega)), m_ald _ hv (by omega)]
      simp only [Option.bind_some]
      rw [hsn, h2s]
      by_cases hq : 2 + sn ≤ t
      · rw [if_pos (nI_le hq (by omega))]
        exact ⟨fun z => by omega, fun _ => rfl⟩
      · rw [if_neg (nI_ge (by omega) (by omega))]
        exact ⟨fun _ => rfl, fun z => by omega⟩
theorem m8_swL2 {x : MS} {v N : Nat} (hv : v < 2) (hN : MS_many x v = nI N) (hN2 : N ≤ 600) (k9 : MS → Int32 → Option MS) :
    ∀ (m j : Nat) (r : Nat → Int32), j ≤ N → N - j < m → (∀ k, k < j → r k = 0) → ∃ r', FX8_sweeps_L2 (nI v) k9 m (MS_setrch x r) (nI j) = k9 (MS_setrch x r') (nI N) ∧ mkd N r' (fun _ => False) := by
  intro m
  induction m with
  | zero => intro j r h1 h2; omega
  | succ m ih =>
    intro j r h1 h2 hr
    rw [FX8_sweeps_L2, m_ald _ hv (by omega)]
    simp only [Option.bind_some]
    have hN' : MS_many (MS_setrch x r) v = nI N := hN
    rw [hN']
    by_cases hj : j = N
    · subst hj
      rw [if_pos (nI_le (Nat.le_refl _) (by omega))]
      exact ⟨r, rfl, fun k hk => ⟨fun z => z.elim, fun _ => hr k hk⟩⟩
    · rw [if_neg (nI_ge (by omega) (by omega)), m_ast _ _ (by omega : j < 600) (by omega)]
      simp only [Option.bind_some]
      rw [nar0, nI_1]
      exact ih (j + 1) (upd r j 0) (by omega) (by omega) (fun k hk => by
        by_cases e : k = j
        · subst e; exact upd_self
        · rw [upd_ne e]; exact hr k (by omega))
theorem m8_swL27 {x : MS} {v N bz sn : Nat} {T : Nat → Option Nat} (hv : v < 2) (hN2 : N ≤ 600) (hbz : MS_busy x v = nI bz) (hb : bz < 2) (hsn : MS_snaps x v = nI sn) (hs : sn ≤ 20)
    (hT : ∀ t, t < 22 → liveT bz sn t → MS_tt x (22 * v + t) = eO (T (4800 + t))) (hT0 : ∀ t, t < 22 → ¬ liveT bz sn t → T (4800 + t) = none) (hTN : ∀ t k, t < 22 → T (4800 + t) = some k → k < N) (k9 : MS → Int32 → Option MS) :
    ∀ (m j : Nat) (r : Nat → Int32), j ≤ 22 → 22 - j < m → mkd N r (fun k => ∃ t, t < j ∧ T (4800 + t) = some k) → ∃ r', FX8_sweeps_L27 (nI v) k9 m (MS_setrch x r) (nI j) = k9 (MS_setrch x r') (nI 22) ∧ mkd N r' (fun k => ∃ t, t < 22 ∧ T (4800 + t) = some k) := by
  intro m
  induction m with
  | zero => intro j r h1 h2; omega
  | succ m ih =>
    intro j r h1 h2 hr
    have e22 : (22 : Int32) = nI 22 := rfl
    rw [FX8_sweeps_L27]
    by_cases hj : j = 22
    · subst hj
      rw [if_pos (by rw [e22]; exact nI_le (Nat.le_refl _) (by omega))]
      exact ⟨r, rfl, hr⟩
    · rw [if_neg (by rw [e22]; exact nI_ge (by omega) (by omega))]
      obtain ⟨t1, t0⟩ := m8_isTree (x := MS_setrch x r) (v := v) (bz := bz) (sn := sn) (t := j) hv hbz hb hsn hs (by omega)
      have hnone : T (4800 + j) = none → mkd N r (fun k => ∃ t, t < j + 1 ∧ T (4800 + t) = some k) := fun e => mkd_iff hr (fun k => ⟨fun ⟨t, a, c⟩ => ⟨t, by
        by_cases z : t = j
        · subst z; rw [e] at c; cases c
        · omega, c⟩, fun ⟨t, a, c⟩ => ⟨t, by omega, c⟩⟩)
      by_cases hlv : liveT bz sn j
      · rw [t1 hlv]
        simp only [Option.bind_some]
        rw [if_neg (by decide), mix 22 v j 22 rfl, m_ald _ (by omega) (by omega)]
        simp only [Option.bind_some]
        have ht : MS_tt (MS_setrch x r) (22 * v + j) = eO (T (4800 + j)) := hT j (by omega) hlv
        rw [ht]
        cases e : T (4800 + j) with
        | none =>
          rw [if_pos (show eO none = -1 from rfl), nI_1]
          exact ih (j + 1) r (by omega) (by omega) (hnone e)
        | some q =>
          have hq := hTN j q (by omega) e
          have e9 : eO (some q) = nI q := rfl
          rw [e9, if_neg (nI_m1 (by omega)), m_ast _ _ (by omega : q < 600) (by omega)]
          simp only [Option.bind_some]
          rw [nar1, nI_1]
          exact ih (j + 1) (upd r q 1) (by omega) (by omega) (mkd_add hr (fun k => ⟨fun ⟨t, a, c⟩ => by
            by_cases z : t = j
            · subst z; rw [e] at c; exact Or.inr (Option.some.inj c).symm
            · exact Or.inl ⟨t, by omega, c⟩, fun z => z.elim (fun ⟨t, a, c⟩ => ⟨t, by omega, c⟩) (fun z => ⟨j, by omega, by rw [e, z]⟩)⟩))
      · rw [t0 hlv]
        simp only [Option.bind_some]
        rw [if_pos trivial, nI_1]
        exact ih (j + 1) r (by omega) (by omega) (hnone (hT0 j (by omega) hlv))
theorem m8_swL129 {x : MS} {v N p : Nat} {T : Nat → Option Nat} (hv : v < 2) (hN2 : N ≤ 600) (hp : p < 600) (v2 : Int32)
    (hT : ∀ i, i < 8 → MS_tel x (4800 * v + (8 * p + i)) = eO (T (8 * p + i))) (hTN : ∀ i k, i < 8 → T (8 * p + i) = some k → k < N) (k9 : MS → Int32 → Option MS) (M : Nat → Prop) :
    ∀ (m j : Nat) (r : Nat → Int32), j ≤ 8 → 8 - j < m → mkd N r (fun k => M k ∨ ∃ i, i < j ∧ T (8 * p + i) = some k) → ∃ r', FX8_sweeps_L129 (nI v) v2 (nI p) k9 m (MS_setrch x r) (nI j) = k9 (MS_setrch x r') (nI 8) ∧ mkd N r' (fun k => M k ∨ ∃ i, i < 8 ∧ T (8 * p + i) = some k) := by
  intro m
  induction m with
  | zero => intro j r h1 h2; omega
  | succ m ih =>
    intro j r h1 h2 hr
    have e8 : (8 : Int32) = nI 8 := rfl
    rw [FX8_sweeps_L129]
    by_cases hj : j = 8
    · subst hj
      rw [if_pos (by rw [e8]; exact nI_le (Nat.le_refl _) (by omega))]
      exact ⟨r, rfl, hr⟩
    · rw [if_neg (by rw [e8]; exact nI_ge (by omega) (by omega))]
      have hix : ((4800 * nI v) + (8 * nI p)) + nI j = nI (4800 * v + (8 * p + j)) := by rw [kmul 4800 v 4800 rfl, kmul 8 p 8 rfl, nI_add, nI_add, Nat.add_assoc]
      rw [hix, m_ald _ (by omega) (by omega)]
      simp only [Option.bind_some]
      have ht : MS_tel (MS_setrch x r) (4800 * v + (8 * p + j)) = eO (T (8 * p + j)) := hT j (by omega)
      rw [ht]
      cases e : T (8 * p + j) with
      | none =>
        rw [if_pos (show eO none = -1 from rfl), nI_1]
        exact ih (j + 1) r (by omega) (by omega) (mkd_iff hr (fun k => ⟨fun z => z.elim Or.inl (fun ⟨t, a, c⟩ => Or.inr ⟨t, by
          by_cases z : t = j
          · subst z; rw [e] at c; cases c
          · omega, c⟩), fun z => z.elim Or.inl (fun ⟨t, a, c⟩ => Or.inr ⟨t, by omega, c⟩)⟩))
      | some q =>
        have hq := hTN j q (by omega) e
        have e9 : eO (some q) = nI q := rfl
        rw [e9, if_neg (nI_m1 (by omega)), m_ast _ _ (by omega : q < 600) (by omega)]
        simp only [Option.bind_some]
        rw [nar1, nI_1]
        exact ih (j + 1) (upd r q 1) (by omega) (by omega) (mkd_add hr (fun k => ⟨fun z => z.elim (fun a => Or.inl (Or.inl a)) (fun ⟨t, a, c⟩ => by
          by_cases z : t = j
          · subst z; rw [e] at c; exact Or.inr (Option.some.inj c).symm
          · exact Or.inl (Or.inr ⟨t, by omega, c⟩)), fun z => z.elim (fun z => z.elim Or.inl (fun ⟨t, a, c⟩ => Or.inr ⟨t, by omega, c⟩)) (fun z => Or.inr ⟨j, by omega, by rw [e, z]⟩)⟩))
