/-! PART 62: settle and sweeps leave the same -/
theorem setInv_refl {lev T : Nat → Option Nat} {B : Nat → Nat} (h : bStr lev T) : setInv lev T B lev T B :=
  ⟨h, fun _ _ => ⟨rfl, fun _ _ => ⟨rfl, rfl⟩⟩, fun _ _ _ => ⟨rfl, rfl⟩, fun _ _ => rfl, fun _ _ _ => rfl, fun _ _ => Or.inr rfl⟩
theorem rch_in {lev T : Nat → Option Nat} {B : Nat → Nat} {lev1 T1 : Nat → Option Nat} {B1 : Nat → Nat} (h : setInv lev T B lev1 T1 B1) : ∀ (n k : Nat), rchN T n k ↔ rchN T1 n k := by
  intro n
  induction n with
  | zero =>
    intro k
    constructor
    · rintro ⟨s, a1, a2, a3⟩
      exact ⟨s, a1, a2, by rw [(h.2.2.1 s a1 a2).1]; exact a3⟩
    · rintro ⟨s, a1, a2, a3⟩
      exact ⟨s, a1, a2, by rw [← (h.2.2.1 s a1 a2).1]; exact a3⟩
  | succ n ih =>
    intro k
    constructor
    · rintro ⟨p, i, a1, a2, a3, a4⟩
      exact ⟨p, i, (ih p).mp a1, a2, a3, by rw [((h.2.1 p ⟨n, a1⟩).2 i a3).1]; exact a4⟩
    · rintro ⟨p, i, a1, a2, a3, a4⟩
      have a1' := (ih p).mpr a1
      exact ⟨p, i, a1', a2, a3, by rw [← ((h.2.1 p ⟨n, a1'⟩).2 i a3).1]; exact a4⟩
theorem rch_inv {lev T : Nat → Option Nat} {B : Nat → Nat} {lev1 T1 : Nat → Option Nat} {B1 : Nat → Nat} (h : setInv lev T B lev1 T1 B1) (k : Nat) : rch T k ↔ rch T1 k :=
  ⟨fun ⟨n, hn⟩ => ⟨n, (rch_in h n k).mp hn⟩, fun ⟨n, hn⟩ => ⟨n, (rch_in h n k).mpr hn⟩⟩
theorem setInv_trans {lev T : Nat → Option Nat} {B : Nat → Nat} {lev1 T1 : Nat → Option Nat} {B1 : Nat → Nat} {lev2 T2 : Nat → Option Nat} {B2 : Nat → Nat} (h : setInv lev T B lev1 T1 B1) (h' : setInv lev1 T1 B1 lev2 T2 B2) : setInv lev T B lev2 T2 B2 := by
  refine ⟨h'.1, ?_, ?_, ?_, ?_, ?_⟩
  · intro k hk
    obtain ⟨a1, a2⟩ := h.2.1 k hk
    obtain ⟨b1, b2⟩ := h'.2.1 k ((rch_inv h k).mp hk)
    exact ⟨b1.trans a1, fun i hi => ⟨(b2 i hi).1.trans (a2 i hi).1, (b2 i hi).2.trans (a2 i hi).2⟩⟩
  · intro s a1 a2
    have c1 := h.2.2.1 s a1 a2
    have c2 := h'.2.2.1 s a1 a2
    exact ⟨c2.1.trans c1.1, c2.2.trans c1.2⟩
  · intro k hk
    have c2 := h'.2.2.2.1 k hk
    rw [c2]
    exact h.2.2.2.1 k (by rw [← c2]; exact hk)
  · intro s hs hn
    have c2 := h'.2.2.2.2.1 s hs hn
    rw [c2]
    exact h.2.2.2.2.1 s hs (by rw [← c2]; exact hn)
  · intro s hs
    rcases h'.2.2.2.2.2 s hs with z | z
    · exact Or.inl z
    · rw [z]; exact h.2.2.2.2.2 s hs
theorem rch_lev {lev T : Nat → Option Nat} (hT : ∀ s k, s < 4822 → T s = some k → lev k ≠ none) {k : Nat} (h : rch T k) : lev k ≠ none := by
  obtain ⟨n, hn⟩ := h
  cases n with
  | zero =>
    obtain ⟨s, a1, a2, a3⟩ := hn
    exact hT s k a2 a3
  | succ n =>
    obtain ⟨p, i, a1, a2, a3, a4⟩ := hn
    exact hT _ k (by omega) a4
/-- a TREE less -/
theorem rch_drop {T : Nat → Option Nat} {s0 : Nat} (h0 : 4800 ≤ s0) : ∀ (n k : Nat), rchN (vf_upd T s0 none) n k → rchN T n k := by
  intro n
  induction n with
  | zero =>
    rintro k ⟨s, a1, a2, a3⟩
    by_cases e : s = s0
    · rw [e, vf_self] at a3; cases a3
    · rw [vf_ne e] at a3; exact ⟨s, a1, a2, a3⟩
  | succ n ih =>
    rintro k ⟨p, i, a1, a2, a3, a4⟩
    rw [vf_ne (by omega)] at a4
    exact ⟨p, i, ih p a1, a2, a3, a4⟩
theorem setInv_drop {lev T : Nat → Option Nat} {B : Nat → Nat} {lev1 T1 : Nat → Option Nat} {B1 : Nat → Nat} {s0 u : Nat} (h : setInv lev T B lev1 T1 B1) (h0 : 4800 ≤ s0) (hk6 : ∀ k, rch T k → k < 600) : setInv lev (vf_upd T s0 none) (vf_upd B s0 u) lev1 (vf_upd T1 s0 none) (vf_upd B1 s0 u) := by
  refine ⟨bStr_none h.1, ?_, ?_, h.2.2.2.1, ?_, ?_⟩
  · rintro k ⟨n, hn⟩
    have hr : rch T k := ⟨n, rch_drop h0 n k hn⟩
    have := hk6 k hr
    obtain ⟨a1, a2⟩ := h.2.1 k hr
    refine ⟨a1, fun i hi => ?_⟩
    rw [vf_ne (by omega), vf_ne (by omega), vf_ne (by omega), vf_ne (by omega)]
    exact a2 i hi
  · intro s a1 a2
    by_cases e : s = s0
    · rw [e, vf_self, vf_self, vf_self, vf_self]; exact ⟨rfl, rfl⟩
    · rw [vf_ne e, vf_ne e, vf_ne e, vf_ne e]; exact h.2.2.1 s a1 a2
  · intro s hs hn
    by_cases e : s = s0
    · rw [e, vf_self] at hn; exact absurd rfl hn
    · rw [vf_ne e] at hn ⊢; rw [vf_ne e]; exact h.2.2.2.2.1 s hs hn
  · intro s hs
    by_cases e : s = s0
    · rw [e, vf_self, vf_self]; exact Or.inr rfl
    · rw [vf_ne e, vf_ne e]; exact h.2.2.2.2.2 s hs
theorem rT_sw (x : MS) (r g : Nat → Int32) (v s : Nat) : rT (MS_setlev (MS_setrch x r) g) v s = rT x v s ∧ rB (MS_setlev (MS_setrch x r) g) v s = rB x v s := by unfold rT rB; exact ⟨rfl, rfl⟩
theorem both_settleG {v N bz sn : Nat} {b : BS} {x : MS} {lev T : Nat → Option Nat} {B : Nat → Nat} {lev1 T1 : Nat → Option Nat} {B1 : Nat → Nat} (hv : v < 2) (hb : bRel N b lev1 T1 B1 none) (hi : setInv lev T B lev1 T1 B1) (hr : rRel x v bz sn lev T B) (hstr : bStr lev T)
    (hlN : ∀ k y, lev k = some y → k < N ∧ y ≤ 3) (hTl : ∀ s k, s < 4822 → T s = some k → lev k ≠ none) (hN : MS_many x v = nI N) (hbz : MS_busy x v = nI bz) (hb2 : bz < 2) (hsn : MS_snaps x v = nI sn) (hs2 : sn ≤ 20) (hT0 : ∀ t, t < 22 → ¬ liveT bz sn t → T (4800 + t) = none) :
    ∃ b' x' lev' T' B', FX0_settle b = some b' ∧ FX8_sweeps x (nI v) = some x' ∧ bRel N b' lev' T' B' none ∧ rRel x' v bz sn lev' T' B' ∧ setInv lev T B lev' T' B' ∧ (∀ k, lev' k ≠ none → 0 < cntT 4822 T' k) ∧ mF v x x' ∧ MS_dat x' = MS_dat x ∧ BS_num b' = BS_num b := by
  have hN6 : N ≤ 600 := hb.2.1
  obtain ⟨b', lev', T', B', a1, a2, a3, a4, a5, a6⟩ := m_settle hb hi.1
  obtain ⟨r, g, c1, c2, c3, c4⟩ := m8_sweeps (lev := lev) (T := T) hv hN hN6 hbz hb2 hsn hs2 hr.1 hlN hstr
    (fun k y i hy hi2 => by
      have hk := (hlN k _ hy).1
      have := (hr.2 (8 * k + i) (by omega) ((aS_lo (by omega)).mpr ⟨y, by rw [show (8 * k + i) / 8 = k by omega]; exact hy⟩)).1
      unfold rT at this
      rw [if_pos (by omega)] at this
      exact this)
    (fun t ht hl => by
      have := (hr.2 (4800 + t) (by omega) ((aS_hi (by omega)).mpr (by rw [show (4800 + t) % 4800 = t by omega]; exact hl))).1
      unfold rT at this
      rw [if_neg (by omega), show (4800 + t) % 4800 = t by omega] at this
      exact this) hT0
  have hi2 := setInv_trans hi a3
  have hlev' : ∀ k, lev' k ≠ none → rch T k ∧ lev' k = lev k := by
    intro k hk
    have h1 : rch T1 k := Classical.byContradiction fun z => hk (a6 k z)
    exact ⟨(rch_inv hi k).mpr h1, hi2.2.2.2.1 k hk⟩
  refine ⟨b', _, lev', T', B', a1, c1, a2, ⟨?_, ?_⟩, hi2, a5, ?_, rfl, a4⟩
  · intro k hk
    show g (600 * v + k) = eO (lev' k)
    by_cases hrk : rch T k
    · have hl := rch_lev hTl hrk
      have hkN : k < N := by
        cases e : lev k with
        | none => exact absurd e hl
        | some y => exact (hlN k y e).1
      rw [c2 k hkN hrk, (hi2.2.1 k hrk).1]
    · have hn : lev' k = none := by
        cases e : lev' k with
        | none => rfl
        | some y => exact absurd (hlev' k (by rw [e]; simp)).1 hrk
      rw [hn]
      by_cases hkN : k < N
      · rw [c3 k hkN hrk]; rfl
      · rw [c4 _ (fun k2 hk2 => by omega), hr.1 k hk]
        cases e : lev k with
        | none => rfl
        | some y => exact absurd (hlN k y e).1 hkN
  · intro s hs ha
    obtain ⟨t1, t2⟩ := rT_sw x r g v s
    rw [t1, t2]
    by_cases hs4 : s < 4800
    · obtain ⟨y, hy⟩ := (aS_lo hs4).mp ha
      obtain ⟨d1, d2⟩ := hlev' (s / 8) (by rw [hy]; simp)
      obtain ⟨-, d3⟩ := hi2.2.1 (s / 8) d1
      have d4 := d3 (s % 8) (by omega)
      rw [show 8 * (s / 8) + s % 8 = s by omega] at d4
      rw [d4.1, d4.2]
      exact hr.2 s hs ((aS_lo hs4).mpr ⟨y, by rw [← d2]; exact hy⟩)
    · have d4 := hi2.2.2.1 s (by omega) hs
      rw [d4.1, d4.2]
      exact hr.2 s hs ((aS_hi hs4).mpr ((aS_hi hs4).mp ha))
  · refine ⟨⟨rfl, rfl, rfl, rfl, rfl, rfl, rfl, rfl, rfl, rfl, rfl, rfl, rfl, rfl, rfl, rfl, rfl, rfl⟩, ?_, fun _ _ => ⟨rfl, rfl⟩, fun _ _ => ⟨rfl, rfl⟩⟩
    intro i hi3
    exact ⟨c4 i (fun k hk => by omega), rfl⟩
