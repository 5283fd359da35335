/-! PART 44: settle: what stays is what one comes to from the TREES -/
theorem frN_lt {lev : Nat → Option Nat} {k : Nat} (hk : lev k ≠ none) : ∀ n, k < n → frN n lev < n := by
  intro n
  induction n with
  | zero => intro h; omega
  | succ n ih =>
    intro h
    show frN n lev + (if lev n = none then 1 else 0) < n + 1
    by_cases e : k = n
    · subst e
      rw [if_neg hk]
      have := frN_le lev k
      omega
    · have := ih (by omega)
      split <;> omega
/-- what settle keeps, against the state ahead of it -/
def setInv (lev T : Nat → Option Nat) (B : Nat → Nat) (lev1 T1 : Nat → Option Nat) (B1 : Nat → Nat) : Prop :=
  bStr lev1 T1 ∧
  (∀ k, rch T k → lev1 k = lev k ∧ ∀ i, i < 8 → T1 (8 * k + i) = T (8 * k + i) ∧ B1 (8 * k + i) = B (8 * k + i)) ∧
  (∀ s, 4800 ≤ s → s < 4822 → T1 s = T s ∧ B1 s = B s) ∧
  (∀ k, lev1 k ≠ none → lev1 k = lev k) ∧
  (∀ s, s < 4822 → T1 s ≠ none → T1 s = T s) ∧
  (∀ s, s < 4822 → B1 s = 0 ∨ B1 s = B s)
theorem rch_cnt {lev T : Nat → Option Nat} {B : Nat → Nat} {lev1 T1 : Nat → Option Nat} {B1 : Nat → Nat} (h : setInv lev T B lev1 T1 B1) {k : Nat} (hr : rch T k) : 0 < cntT 4822 T1 k := by
  obtain ⟨n, hn⟩ := hr
  refine (cntT_pos 4822).mpr ?_
  cases n with
  | zero =>
    obtain ⟨s, h1, h2, h3⟩ := hn
    exact ⟨s, h2, by rw [(h.2.2.1 s h1 h2).1]; exact h3⟩
  | succ n =>
    obtain ⟨p, i, h1, h2, h3, h4⟩ := hn
    exact ⟨8 * p + i, by omega, by rw [((h.2.1 p ⟨n, h1⟩).2 i h3).1]; exact h4⟩
theorem setInv_kill {lev T : Nat → Option Nat} {B : Nat → Nat} {lev1 T1 : Nat → Option Nat} {B1 : Nat → Nat} (h : setInv lev T B lev1 T1 B1) {k : Nat} {T2 : Nat → Option Nat} {B2 : Nat → Nat} (hk : k < 600) (hc : cntT 4822 T1 k = 0)
    (h1 : ∀ s, ¬ (8 * k ≤ s ∧ s < 8 * k + 8) → T2 s = T1 s ∧ B2 s = B1 s) (h2 : ∀ s, 8 * k ≤ s → s < 8 * k + 8 → T2 s = none ∧ (B2 s = 0 ∨ B2 s = B1 s)) : setInv lev T B (vf_upd lev1 k none) T2 B2 := by
  have hnr : ¬ rch T k := fun z => by have := rch_cnt h z; omega
  refine ⟨?_, ?_, ?_, ?_, ?_, ?_⟩
  · intro s x hs e
    by_cases hin : 8 * k ≤ s ∧ s < 8 * k + 8
    · rw [(h2 s hin.1 hin.2).1] at e; cases e
    · rw [(h1 s hin).1] at e
      obtain ⟨l, a1, a2⟩ := h.1 s x hs e
      have hx : x ≠ k := fun z => by
        subst z
        have := (cntT_pos 4822).mpr ⟨s, hs, e⟩
        omega
      refine ⟨l, by rw [vf_ne hx]; exact a1, ?_⟩
      unfold slv at a2 ⊢
      by_cases hs2 : s < 4800
      · rw [if_pos hs2] at a2 ⊢
        rw [vf_ne (by omega)]
        exact a2
      · rw [if_neg hs2] at a2 ⊢
        exact a2
  · intro x hx
    have hne : x ≠ k := fun z => hnr (z ▸ hx)
    obtain ⟨a1, a2⟩ := h.2.1 x hx
    refine ⟨by rw [vf_ne hne]; exact a1, fun i hi => ?_⟩
    obtain ⟨c1, c2⟩ := h1 (8 * x + i) (by omega)
    obtain ⟨d1, d2⟩ := a2 i hi
    exact ⟨c1.trans d1, c2.trans d2⟩
  · intro s a1 a2
    obtain ⟨c1, c2⟩ := h1 s (by omega)
    obtain ⟨d1, d2⟩ := h.2.2.1 s a1 a2
    exact ⟨c1.trans d1, c2.trans d2⟩
  · intro x hx
    by_cases e : x = k
    · subst e; rw [vf_self] at hx; exact absurd rfl hx
    · rw [vf_ne e] at hx ⊢; exact h.2.2.2.1 x hx
  · intro s hs hn
    by_cases hin : 8 * k ≤ s ∧ s < 8 * k + 8
    · exact absurd (h2 s hin.1 hin.2).1 hn
    · rw [(h1 s hin).1] at hn ⊢; exact h.2.2.2.2.1 s hs hn
  · intro s hs
    by_cases hin : 8 * k ≤ s ∧ s < 8 * k + 8
    · rcases (h2 s hin.1 hin.2).2 with z | z
      · exact Or.inl z
      · rw [z]; exact h.2.2.2.2.2 s hs
    · rw [(h1 s hin).2]; exact h.2.2.2.2.2 s hs
theorem m_setL2 {N : Nat} {lev T : Nat → Option Nat} {B : Nat → Nat} (hN : N ≤ 600) :
    ∀ (m t : Nat) (b : BS) (lev1 T1 : Nat → Option Nat) (B1 : Nat → Nat), t ≤ 600 → 600 - t < m → bRel N b lev1 T1 B1 none → setInv lev T B lev1 T1 B1 → frN N lev1 = frN N lev + t →
      ∃ b' lev' T' B', FX0_settle_L2 (fun b_14 _ => some b_14) m b (nI t) = some b' ∧ bRel N b' lev' T' B' none ∧ setInv lev T B lev' T' B' ∧ BS_num b' = BS_num b ∧ ∀ k, lev' k ≠ none → 0 < cntT 4822 T' k := by
  intro m
  induction m with
  | zero => intro t b lev1 T1 B1 h1 h2; omega
  | succ m ih =>
    intro t b lev1 T1 B1 h1 h2 hr hi hf
    have e6 : (600 : Int32) = nI 600 := rfl
    rw [FX0_settle_L2]
    by_cases ht : t = 600
    · subst ht
      refine ⟨b, lev1, T1, B1, by rw [if_pos (by rw [e6]; exact nI_le (Nat.le_refl _) (by omega))], hr, hi, rfl, fun k hk => ?_⟩
      have := frN_lt hk N (bRel_lev hr hk).1
      omega
    · rw [if_neg (by rw [e6]; exact nI_ge (by omega) (by omega))]
      by_cases hlc : BS_lc b ≤ 0
      · rw [if_pos hlc]
        refine ⟨b, lev1, T1, B1, rfl, hr, hi, rfl, fun k hk => ?_⟩
        obtain ⟨g1, g2, g3, g4, g5, g6, g7, g8, g9, g10, g11, ls, ⟨m1, m2, m3⟩, m4⟩ := id hr
        have hlen : ls.length ≤ 600 := nodup_le 600 ls m2 (fun x hx => (bRel_lev hr ((m4 x).mp hx).1).2)
        have hz : ls.length = 0 := by
          rcases Nat.eq_zero_or_pos ls.length with z | z
          · exact z
          · rw [m1] at hlc
            exact absurd hlc (nI_nle z (by omega))
        have hnil : ls = [] := List.length_eq_zero_iff.mp hz
        rcases Nat.eq_zero_or_pos (cntT 4822 T1 k) with z | z
        · have := (m4 k).mpr ⟨hk, z, by simp⟩
          rw [hnil] at this
          exact absurd this List.not_mem_nil
        · exact z
      · rw [if_neg hlc]
        obtain ⟨k, b2, T2, B2, c1, c2, c3, c4, c5, c6, c7⟩ := m_kill hr hi.1 hlc (nI t) (fun b_14 _ => some b_14) m
        rw [c3, nI_1]
        have hkN := bRel_lev hr c1
        have hfr := frN_upd lev1 k none N hkN.1
        rw [if_neg c1, if_pos rfl] at hfr
        obtain ⟨b', lev', T', B', d1, d2, d3, d4, d5⟩ := ih (t + 1) b2 _ T2 B2 (by omega) (by omega) c4 (setInv_kill hi hkN.2 c2 c6 c7) (by omega)
        exact ⟨b', lev', T', B', d1, d2, d3, d4.trans c5, d5⟩
theorem m_settle {N : Nat} {b : BS} {lev T : Nat → Option Nat} {B : Nat → Nat} (h : bRel N b lev T B none) (hstr : bStr lev T) :
    ∃ b' lev' T' B', FX0_settle b = some b' ∧ bRel N b' lev' T' B' none ∧ setInv lev T B lev' T' B' ∧ BS_num b' = BS_num b ∧ (∀ k, lev' k ≠ none → 0 < cntT 4822 T' k) ∧ ∀ k, ¬ rch T k → lev' k = none := by
  obtain ⟨b', lev', T', B', d1, d2, d3, d4, d5⟩ := m_setL2 (lev := lev) (T := T) (B := B) h.2.1 100000 0 b lev T B (by omega) (by omega) h ⟨hstr, fun k _ => ⟨rfl, fun i _ => ⟨rfl, rfl⟩⟩, fun s _ _ => ⟨rfl, rfl⟩, fun k _ => rfl, fun s _ _ => rfl, fun s _ => Or.inr rfl⟩ (by omega)
  rw [nI_0] at d1
  refine ⟨b', lev', T', B', d1, d2, d3, d4, d5, fun k hk => ?_⟩
  have key : ∀ (d k l : Nat), lev' k = some l → 3 - l ≤ d → rch T k := by
    intro d
    induction d with
    | zero =>
      intro k l hl hd
      have hl3 := (d2.2.2.2.1 k l hl).2
      obtain ⟨s, hs, e⟩ := (cntT_pos 4822).mp (d5 k (by rw [hl]; simp))
      obtain ⟨l', a1, a2⟩ := d3.1 s k hs e
      rw [hl] at a1
      cases a1
      have eT := d3.2.2.2.2.1 s hs (by rw [e]; simp)
      unfold slv at a2
      by_cases hs2 : s < 4800
      · rw [if_pos hs2] at a2
        have := (d2.2.2.2.1 _ _ a2).2
        omega
      · exact ⟨0, s, by omega, hs, by rw [← eT]; exact e⟩
    | succ d ihd =>
      intro k l hl hd
      obtain ⟨s, hs, e⟩ := (cntT_pos 4822).mp (d5 k (by rw [hl]; simp))
      obtain ⟨l', a1, a2⟩ := d3.1 s k hs e
      rw [hl] at a1
      cases a1
      have eT := d3.2.2.2.2.1 s hs (by rw [e]; simp)
      unfold slv at a2
      by_cases hs2 : s < 4800
      · rw [if_pos hs2] at a2
        obtain ⟨n, hn⟩ := ihd (s / 8) (l + 1) a2 (by omega)
        exact ⟨n + 1, s / 8, s % 8, hn, by omega, by omega, by rw [show 8 * (s / 8) + s % 8 = s by omega, ← eT]; exact e⟩
      · exact ⟨0, s, by omega, hs, by rw [← eT]; exact e⟩
  cases e : lev' k with
  | none => rfl
  | some l => exact absurd (key (3 - l) k l e (Nat.le_refl _)) hk
