/-! PART 47: the reference's sweeps, whole -/
theorem nI_dec (n : Nat) : nI (n + 1) + (-1) = nI n := by rw [Int32.add_neg_eq_sub, nI_pred]
theorem m8_swL88 {x : MS} {v N l : Nat} {lev T : Nat → Option Nat} (hv : v < 2) (hN : MS_many x v = nI N) (hN2 : N ≤ 600) (hl : 0 < l) (hl3 : l ≤ 3)
    (hlev : ∀ k, k < 600 → MS_lev x (600 * v + k) = eO (lev k)) (hlN : ∀ k y, lev k = some y → k < N ∧ y ≤ 3) (hstr : bStr lev T)
    (hT : ∀ k y i, lev k = some (y + 1) → i < 8 → MS_tel x (4800 * v + (8 * k + i)) = eO (T (8 * k + i))) (k9 : MS → Int32 → Option MS) (M : Nat → Prop) :
    ∀ (m j : Nat) (r : Nat → Int32), j ≤ N → N - j < m → mkd N r (fun k => M k ∨ ∃ p, p < j ∧ M p ∧ lev p = some l ∧ ∃ i, i < 8 ∧ T (8 * p + i) = some k) →
      ∃ r', FX8_sweeps_L88 (nI v) (nI l) k9 m (MS_setrch x r) (nI j) = k9 (MS_setrch x r') (nI N) ∧ mkd N r' (fun k => M k ∨ ∃ p, p < N ∧ M p ∧ lev p = some l ∧ ∃ i, i < 8 ∧ T (8 * p + i) = some k) := by
  intro m
  induction m with
  | zero => intro j r h1 h2; omega
  | succ m ih =>
    intro j r h1 h2 hr
    have hN' : MS_many (MS_setrch x r) v = nI N := hN
    rw [FX8_sweeps_L88, m_ald _ hv (by omega)]
    simp only [Option.bind_some]
    rw [hN']
    by_cases hj : j = N
    · subst hj
      rw [if_pos (nI_le (Nat.le_refl _) (by omega))]
      exact ⟨r, rfl, hr⟩
    · have hjN : j < N := by omega
      rw [if_neg (nI_ge hjN (by omega)), m_ald _ (by omega : j < 600) (by omega)]
      simp only [Option.bind_some]
      have hrj : MS_rch (MS_setrch x r) j = r j := rfl
      rw [hrj]
      -- what a turn that does nothing keeps
      have skip : ¬ (M j ∧ lev j = some l) → mkd N r (fun k => M k ∨ ∃ p, p < j + 1 ∧ M p ∧ lev p = some l ∧ ∃ i, i < 8 ∧ T (8 * p + i) = some k) := fun hn => mkd_iff hr (fun k => ⟨fun z => z.elim Or.inl (fun ⟨p, a, c, d, e⟩ => Or.inr ⟨p, by
        by_cases z : p = j
        · subst z; exact absurd ⟨c, d⟩ hn
        · omega, c, d, e⟩), fun z => z.elim Or.inl (fun ⟨p, a, c⟩ => Or.inr ⟨p, by omega, c⟩)⟩)
      by_cases hM : M j ∨ ∃ p, p < j ∧ M p ∧ lev p = some l ∧ ∃ i, i < 8 ∧ T (8 * p + i) = some j
      · rw [(hr j hjN).1 hM, if_neg (by decide)]
        have hix : (600 * nI v) + nI j = nI (600 * v + j) := mix 600 v j 600 rfl
        rw [hix, m_ald _ (by omega) (by omega)]
        simp only [Option.bind_some]
        have hlj : MS_lev (MS_setrch x r) (600 * v + j) = eO (lev j) := hlev j (by omega)
        rw [hlj]
        by_cases hll : lev j = some l
        · have hMj : M j := by
            rcases hM with z | ⟨p, a, c, d, i, e, f⟩
            · exact z
            · obtain ⟨l', g1, g2⟩ := hstr (8 * p + i) j (by have := (hlN p l d).1; omega) f
              unfold slv at g2
              rw [if_pos (by have := (hlN p l d).1; omega), show (8 * p + i) / 8 = p by omega, d] at g2
              rw [hll] at g1
              have := Option.some.inj g1
              have := Option.some.inj g2
              omega
          obtain ⟨y, rfl⟩ : ∃ y, l = y + 1 := ⟨l - 1, by omega⟩
          have e9 : eO (some (y + 1)) = nI (y + 1) := rfl
          rw [hll, e9, if_pos rfl]
          obtain ⟨r1, q1, q2⟩ := m8_swL129 (x := x) (v := v) (N := N) (p := j) (T := T) hv hN2 (by omega) (nI (y + 1)) (fun i hi => hT j y i hll hi)
            (fun i k hi e => by
              obtain ⟨l', g1, -⟩ := hstr (8 * j + i) k (by omega) e
              exact (hlN k l' g1).1)
            (fun xq37 w4_37 => FX8_sweeps_L88 (nI v) (nI (y + 1)) k9 m xq37 (nI j + 1)) _ 100000 0 r (by omega) (by omega) (mkd_iff hr (fun k => ⟨fun z => z.elim id (fun ⟨i, a, _⟩ => by omega), Or.inl⟩))
          rw [nI_0] at q1
          rw [q1, nI_1]
          exact ih (j + 1) r1 (by omega) (by omega) (mkd_iff q2 (fun k => ⟨fun z => z.elim (fun a => Or.inl (Or.inl a)) (fun ⟨p, a, c, d, e⟩ => by
            by_cases z : p = j
            · subst z; exact Or.inr e
            · exact Or.inl (Or.inr ⟨p, by omega, c, d, e⟩)), fun z => z.elim (fun z => z.elim Or.inl (fun ⟨p, a, c⟩ => Or.inr ⟨p, by omega, c⟩)) (fun z => Or.inr ⟨j, by omega, hMj, hll, z⟩)⟩))
        · have hne : ¬ eO (lev j) = nI l := by
            cases e : lev j with
            | none => intro z; exact nI_m1 (by omega) z.symm
            | some y =>
              intro z
              have hy := (hlN j y e).2
              exact hll (by rw [e, (nI_eq (by omega) (by omega)).mp z])
          rw [if_neg hne, nI_1]
          exact ih (j + 1) r (by omega) (by omega) (skip (fun z => hll z.2))
      · rw [(hr j hjN).2 hM]
        simp only [if_true]
        rw [nI_1]
        exact ih (j + 1) r (by omega) (by omega) (skip (fun z => hM (Or.inl z.1)))
theorem m8_swL202 {x : MS} {v N : Nat} (hv : v < 2) (hN : MS_many x v = nI N) (hN2 : N ≤ 600) (r : Nat → Int32) (hr : MS_rch x = r) (k9 : MS → Int32 → Option MS) :
    ∀ (m j : Nat) (g : Nat → Int32), j ≤ N → N - j < m → (∀ k, k < j → r k = 0 → g (600 * v + k) = -1) → (∀ i, (∀ k, k < j → i = 600 * v + k → r k ≠ 0) → g i = MS_lev x i) →
      ∃ g', FX8_sweeps_L202 (nI v) k9 m (MS_setlev x g) (nI j) = k9 (MS_setlev x g') (nI N) ∧ (∀ k, k < N → r k = 0 → g' (600 * v + k) = -1) ∧ (∀ i, (∀ k, k < N → i = 600 * v + k → r k ≠ 0) → g' i = MS_lev x i) := by
  intro m
  induction m with
  | zero => intro j g h1 h2; omega
  | succ m ih =>
    intro j g h1 h2 ha hb
    have hN' : MS_many (MS_setlev x g) v = nI N := hN
    rw [FX8_sweeps_L202, m_ald _ hv (by omega)]
    simp only [Option.bind_some]
    rw [hN']
    by_cases hj : j = N
    · subst hj
      rw [if_pos (nI_le (Nat.le_refl _) (by omega))]
      exact ⟨g, rfl, ha, hb⟩
    · rw [if_neg (nI_ge (by omega) (by omega)), m_ald _ (by omega : j < 600) (by omega)]
      simp only [Option.bind_some]
      have hrj : MS_rch (MS_setlev x g) j = r j := congrFun hr j
      rw [hrj]
      by_cases hz : r j = 0
      · rw [if_pos hz, mix 600 v j 600 rfl, m_ast _ _ (by omega) (by omega)]
        simp only [Option.bind_some]
        rw [nI_1]
        refine ih (j + 1) (upd g (600 * v + j) (-1)) (by omega) (by omega) (fun k hk h0 => ?_) (fun i hi => ?_)
        · by_cases e : k = j
          · subst e; exact upd_self
          · rw [upd_ne (by omega)]; exact ha k (by omega) h0
        · have hne : i ≠ 600 * v + j := fun e => hi j (by omega) e hz
          rw [upd_ne hne]
          exact hb i (fun k hk => hi k (by omega))
      · rw [if_neg hz, nI_1]
        refine ih (j + 1) g (by omega) (by omega) (fun k hk h0 => ?_) (fun i hi => hb i (fun k hk => hi k (by omega)))
        by_cases e : k = j
        · subst e; exact absurd h0 hz
        · exact ha k (by omega) h0
theorem m8_sweeps {x : MS} {v N bz sn : Nat} {lev T : Nat → Option Nat} (hv : v < 2) (hN : MS_many x v = nI N) (hN2 : N ≤ 600) (hbz : MS_busy x v = nI bz) (hb : bz < 2) (hsn : MS_snaps x v = nI sn) (hs : sn ≤ 20)
    (hlev : ∀ k, k < 600 → MS_lev x (600 * v + k) = eO (lev k)) (hlN : ∀ k y, lev k = some y → k < N ∧ y ≤ 3) (hstr : bStr lev T)
    (hT : ∀ k y i, lev k = some (y + 1) → i < 8 → MS_tel x (4800 * v + (8 * k + i)) = eO (T (8 * k + i)))
    (hTt : ∀ t, t < 22 → liveT bz sn t → MS_tt x (22 * v + t) = eO (T (4800 + t))) (hT0 : ∀ t, t < 22 → ¬ liveT bz sn t → T (4800 + t) = none) :
    ∃ r g, FX8_sweeps x (nI v) = some (MS_setlev (MS_setrch x r) g) ∧ (∀ k, k < N → rch T k → g (600 * v + k) = eO (lev k)) ∧ (∀ k, k < N → ¬ rch T k → g (600 * v + k) = -1) ∧ (∀ i, (∀ k, k < N → i ≠ 600 * v + k) → g i = MS_lev x i) := by
  have hTN : ∀ s k, s < 4822 → T s = some k → k < N := fun s k hs e => by
    obtain ⟨l, g1, -⟩ := hstr s k hs e
    exact (hlN k l g1).1
  obtain ⟨P, hP⟩ : ∃ P : Nat → Nat → Prop, ∀ l k, P l k ↔ (rch T k ∧ ∃ y, lev k = some y ∧ l ≤ y) := ⟨fun l k => rch T k ∧ ∃ y, lev k = some y ∧ l ≤ y, fun _ _ => Iff.rfl⟩
  have hstep : ∀ l, 0 < l → l ≤ 3 → ∀ k, P (l - 1) k ↔ (P l k ∨ ∃ p, p < N ∧ P l p ∧ lev p = some l ∧ ∃ i, i < 8 ∧ T (8 * p + i) = some k) := by
    intro l h0 h3 k
    rw [hP, hP]
    constructor
    · rintro ⟨⟨n, hn⟩, y, hy, hle⟩
      obtain ⟨a1, a2⟩ := rchN_lev hstr n k hn
      rw [a2] at hy
      have hy2 := Option.some.inj hy
      by_cases hc : l ≤ y
      · exact Or.inl ⟨⟨n, hn⟩, y, by rw [a2, hy2], hc⟩
      · cases n with
        | zero => omega
        | succ n =>
          obtain ⟨p, i, c1, c2, c3, c4⟩ := hn
          obtain ⟨d1, d2⟩ := rchN_lev hstr n p c1
          have hlp : lev p = some l := by rw [d2]; congr 1; omega
          exact Or.inr ⟨p, (hlN p _ hlp).1, (hP l p).mpr ⟨⟨n, c1⟩, l, hlp, Nat.le_refl _⟩, hlp, i, c3, c4⟩
    · rintro (⟨a, y, b, c⟩ | ⟨p, a, b, c, i, d, e⟩)
      · exact ⟨a, y, b, by omega⟩
      · obtain ⟨⟨n, hn⟩, -⟩ := (hP l p).mp b
        obtain ⟨l', g1, g2⟩ := hstr (8 * p + i) k (by have := hN2; omega) e
        unfold slv at g2
        rw [if_pos (by omega), show (8 * p + i) / 8 = p by omega, c] at g2
        have := Option.some.inj g2
        exact ⟨⟨n + 1, p, i, hn, by omega, d, e⟩, l', g1, by omega⟩
  have h3 : ∀ k, P 3 k ↔ ∃ t, t < 22 ∧ T (4800 + t) = some k := by
    intro k
    rw [hP]
    constructor
    · rintro ⟨⟨n, hn⟩, y, hy, hle⟩
      obtain ⟨a1, a2⟩ := rchN_lev hstr n k hn
      rw [a2] at hy
      have hy2 := Option.some.inj hy
      have hn0 : n = 0 := by omega
      subst hn0
      obtain ⟨s, b1, b2, b3⟩ := hn
      exact ⟨s % 4800, by omega, by rw [show 4800 + s % 4800 = s by omega]; exact b3⟩
    · rintro ⟨t, a, b⟩
      have hn : rchN T 0 k := ⟨4800 + t, by omega, by omega, b⟩
      obtain ⟨-, a2⟩ := rchN_lev hstr 0 k hn
      exact ⟨⟨0, hn⟩, 3, a2, Nat.le_refl _⟩
  have h0 : ∀ k, P 0 k ↔ rch T k := fun k => by
    rw [hP]
    exact ⟨fun z => z.1, fun z => ⟨z, by
      obtain ⟨n, hn⟩ := z
      obtain ⟨-, a2⟩ := rchN_lev hstr n k hn
      exact ⟨_, a2, Nat.zero_le _⟩⟩⟩
  unfold FX8_sweeps
  have x0 : x = MS_setrch x (MS_rch x) := rfl
  obtain ⟨r1, p1, p2⟩ := m8_swL2 (x := x) hv hN hN2 (fun xq6 w2_6 =>
    FX8_sweeps_L27 (nI v) (fun xq18 w2_18 =>
      FX8_sweeps_L82 (nI v) (fun xq39 w2_39 =>
        FX8_sweeps_L202 (nI v) (fun xq48 w2_48 =>
          some xq48) 100000 xq39 0) 100000 xq18 3) 100000 xq6 0) 100000 0 (MS_rch x) (by omega) (by omega) (fun k hk => by omega)
  rw [nI_0] at p1
  have p1' := p1
  rw [← x0] at p1'
  rw [p1']
  obtain ⟨r2, q1, q2⟩ := m8_swL27 (x := x) (N := N) hv hN2 hbz hb hsn hs hTt hT0 (fun t k ht e => hTN _ k (by omega) e) (fun xq18 w2_18 =>
      FX8_sweeps_L82 (nI v) (fun xq39 w2_39 =>
        FX8_sweeps_L202 (nI v) (fun xq48 w2_48 =>
          some xq48) 100000 xq39 0) 100000 xq18 3) 100000 0 r1 (by omega) (by omega) (mkd_iff p2 (fun k => ⟨fun ⟨t, a, _⟩ => by omega, fun z => z.elim⟩))
  rw [nI_0] at q1
  rw [q1]
  have q3 : mkd N r2 (P 3) := mkd_iff q2 h3
  -- the levels, from 3 down
  have pass : ∀ (l : Nat) (r : Nat → Int32) (kk : MS → Int32 → Option MS), 0 < l → l ≤ 3 → mkd N r (P l) → ∃ r', FX8_sweeps_L88 (nI v) (nI l) kk 100000 (MS_setrch x r) 0 = kk (MS_setrch x r') (nI N) ∧ mkd N r' (P (l - 1)) := by
    intro l r kk a1 a2 hr
    obtain ⟨r', c1, c2⟩ := m8_swL88 (x := x) hv hN hN2 a1 a2 hlev hlN hstr hT kk (P l) 100000 0 r (by omega) (by omega) (mkd_iff hr (fun k => ⟨fun z => z.elim id (fun ⟨p, a, _⟩ => by omega), Or.inl⟩))
    rw [nI_0] at c1
    exact ⟨r', c1, mkd_iff c2 (hstep l a1 a2)⟩
  have turn : ∀ (n l : Nat) (r : Nat → Int32) (kk : MS → Int32 → Option MS), l < 3 → mkd N r (P (l + 1)) → ∃ r', FX8_sweeps_L82 (nI v) kk (n + 1) (MS_setrch x r) (nI (l + 1)) = FX8_sweeps_L82 (nI v) kk n (MS_setrch x r') (nI l) ∧ mkd N r' (P l) := by
    intro n l r kk a1 hr
    obtain ⟨r', c1, c2⟩ := pass (l + 1) r (fun xq38 w3_38 => FX8_sweeps_L82 (nI v) kk n xq38 (nI (l + 1) + (-1))) (by omega) (by omega) hr
    refine ⟨r', ?_, c2⟩
    rw [FX8_sweeps_L82, if_neg (nI_nle (by omega) (by omega)), c1, nI_dec]
  obtain ⟨r3, t1, t2⟩ := turn 99999 2 r2 (fun xq39 w2_39 => FX8_sweeps_L202 (nI v) (fun xq48 w2_48 => some xq48) 100000 xq39 0) (by omega) q3
  have e3 : nI (2 + 1) = 3 := rfl
  rw [e3] at t1
  rw [show (100000 : Nat) = 99999 + 1 from rfl] at t1 ⊢
  rw [t1]
  obtain ⟨r4, t3, t4⟩ := turn 99998 1 r3 (fun xq39 w2_39 => FX8_sweeps_L202 (nI v) (fun xq48 w2_48 => some xq48) (99999 + 1) xq39 0) (by omega) t2
  rw [show (99999 : Nat) = 99998 + 1 from rfl] at t3 ⊢
  rw [t3]
  obtain ⟨r5, t5, t6⟩ := turn 99997 0 r4 (fun xq39 w2_39 => FX8_sweeps_L202 (nI v) (fun xq48 w2_48 => some xq48) (99998 + 1 + 1) xq39 0) (by omega) t4
  rw [show FX8_sweeps_L82 (nI v) (fun xq39 w2_39 => FX8_sweeps_L202 (nI v) (fun xq48 w2_48 => some xq48) (99998 + 1 + 1) xq39 0) 99998 (MS_setrch x r4) (nI 1) = _ from t5]
  rw [show (99997 : Nat) = 99996 + 1 from rfl, FX8_sweeps_L82, nI_0, if_pos (by decide)]
  obtain ⟨g, u1, u2, u3⟩ := m8_swL202 (x := MS_setrch x r5) (v := v) (N := N) hv hN hN2 r5 rfl (fun xq48 w2_48 => some xq48) (99998 + 1 + 1) 0 (MS_lev x) (by omega) (by omega) (fun k hk => by omega) (fun i _ => rfl)
  rw [nI_0] at u1
  have x1 : MS_setrch x r5 = MS_setlev (MS_setrch x r5) (MS_lev x) := rfl
  refine ⟨r5, g, ?_, ?_, ?_, ?_⟩
  · rw [← u1, ← x1]
  · intro k hk hr
    have h1 := (t6 k hk).1 ((h0 k).mpr hr)
    rw [u3 (600 * v + k) (fun k' hk' e => by
      have : k' = k := by omega
      rw [this, h1]; decide)]
    exact hlev k (by omega)
  · intro k hk hr
    exact u2 k hk ((t6 k hk).2 (fun z => hr ((h0 k).mp z)))
  · intro i hi
    exact u3 i (fun k hk e => absurd e (hi k hk))
