/-! PART 89: a call of the law, both sides; printed by wip/whole/gen_agree.py -/
def gT9 (c : Nat) (t : TS) (x : MS) : Prop := gS c t.1 t.2.1 t.2.2.1 t.2.2.2.1 t.2.2.2.2.1 t.2.2.2.2.2.1 t.2.2.2.2.2.2 x
theorem lw_format {c : Nat} {nm0 : Int64} {sb0 : SB} {d0 : SD} {ve0 vo0 : VS} {re0 ro0 : RC} {x : MS} (h : gS c nm0 sb0 d0 ve0 vo0 re0 ro0 x) (p1 : Int32) (p2 : Int32) : ∃ (res : Except String (VS × VS × RC × RC)) (x' : MS), FX7_format nm0 sb0 d0 ve0 vo0 re0 ro0 p1 p2 = some res ∧ FX8_format x p1 p2 = some x' ∧ (∀ E, res = .error E → E = xIA) ∧ ∀ (r : Int32) (w : TS), ((∃ E, res = .error E ∧ w = (nm0, sb0, d0, ve0, vo0, re0, ro0) ∧ ((E = xIA ∧ r = 1))) ∨ (∃ (u : VS × VS × RC × RC), res = .ok u ∧ r = 0 ∧ w = (nm0, sb0, d0, u.1, u.2.1, u.2.2.1, u.2.2.2))) → MS_thr x' = r ∧ gT9 (c + 1) w x' := by
  obtain ⟨x', hR, ⟨e, t, hA, hcd, ht, hg⟩ | ⟨a1, a2, a3, a4, hA, ht, hg⟩⟩ := ag_format h p1 p2
  · refine ⟨_, x', hA, hR, fun E hE => ?_, ?_⟩
    · have e9 : e = E := by injection hE
      subst e9
      exact hcd.1
    · rintro r w (⟨E, hE, rfl, hcod⟩ | hbad)
      · have e9 : e = E := by injection hE
        subst e9
        obtain ⟨-, rfl⟩ := hcd
        obtain ⟨-, rfl⟩ := hcod
        exact ⟨ht.trans rfl, hg⟩
      · obtain ⟨u, hE, -⟩ := hbad
        cases hE
  · refine ⟨_, x', hA, hR, fun E hE => (by cases hE), ?_⟩
    rintro r w (⟨E, hE, -⟩ | ⟨u, hE, rfl, rfl⟩)
    · cases hE
    · cases hE
      exact ⟨ht, hg⟩
theorem lw_write {c : Nat} {nm0 : Int64} {sb0 : SB} {d0 : SD} {ve0 vo0 : VS} {re0 ro0 : RC} {x : MS} (h : gS c nm0 sb0 d0 ve0 vo0 re0 ro0 x) (out : Nat → Int64) (p1 : Int32) (p2 : Int32) (p3 : Int64) : ∃ (res : Except String (Int32 × (VS × VS))) (q : Int32) (x' : MS), FX7_write nm0 sb0 d0 ve0 vo0 re0 ro0 p1 p2 p3 = some res ∧ FX8_write x p1 p2 p3 = some (q, x') ∧ (∀ E, res = .error E → E = xIA) ∧ ∀ (r : Int32) (w : TS × (Nat → Int64)), ((∃ E, res = .error E ∧ w = ((nm0, sb0, d0, ve0, vo0, re0, ro0), out) ∧ ((E = xIA ∧ r = 1))) ∨ (∃ (q : Int32) (u : VS × VS), res = .ok (q, u) ∧ r = 0 ∧ w = ((nm0, sb0, d0, u.1, u.2, re0, ro0), vp_updL out 0 q.toInt64))) → MS_thr x' = r ∧ gT9 (c + 1) w.1 x' ∧ (r = 0 → w.2 0 = q.toInt64) := by
  obtain ⟨q, x', hR, ⟨e, t, hA, hcd, ht, hg⟩ | ⟨a1, a2, hA, ht, hg⟩⟩ := ag_write h p1 p2 p3
  · refine ⟨_, q, x', hA, hR, fun E hE => ?_, ?_⟩
    · have e9 : e = E := by injection hE
      subst e9
      exact hcd.1
    · rintro r w (⟨E, hE, rfl, hcod⟩ | hbad)
      · have e9 : e = E := by injection hE
        subst e9
        obtain ⟨-, rfl⟩ := hcd
        obtain ⟨-, rfl⟩ := hcod
        exact ⟨ht.trans rfl, hg, fun h9 => absurd h9 (by decide)⟩
      · obtain ⟨q2, u, hE, -⟩ := hbad
        cases hE
  · refine ⟨_, q, x', hA, hR, fun E hE => (by cases hE), ?_⟩
    rintro r w (⟨E, hE, -⟩ | ⟨q2, u, hE, rfl, rfl⟩)
    · cases hE
    · cases hE
      exact ⟨ht, hg, fun _ => by show vp_updL out 0 _ 0 = _; unfold vp_updL; exact if_pos rfl⟩
theorem lw_clear {c : Nat} {nm0 : Int64} {sb0 : SB} {d0 : SD} {ve0 vo0 : VS} {re0 ro0 : RC} {x : MS} (h : gS c nm0 sb0 d0 ve0 vo0 re0 ro0 x) (out : Nat → Int64) (p1 : Int32) (p2 : Int32) : ∃ (res : Except String (Int32 × (VS × VS))) (q : Int32) (x' : MS), FX7_clear nm0 sb0 d0 ve0 vo0 re0 ro0 p1 p2 = some res ∧ FX8_clear x p1 p2 = some (q, x') ∧ (∀ E, res = .error E → E = xIA) ∧ ∀ (r : Int32) (w : TS × (Nat → Int64)), ((∃ E, res = .error E ∧ w = ((nm0, sb0, d0, ve0, vo0, re0, ro0), out) ∧ ((E = xIA ∧ r = 1))) ∨ (∃ (q : Int32) (u : VS × VS), res = .ok (q, u) ∧ r = 0 ∧ w = ((nm0, sb0, d0, u.1, u.2, re0, ro0), vp_updL out 0 q.toInt64))) → MS_thr x' = r ∧ gT9 (c + 1) w.1 x' ∧ (r = 0 → w.2 0 = q.toInt64) := by
  obtain ⟨q, x', hR, ⟨e, t, hA, hcd, ht, hg⟩ | ⟨a1, a2, hA, ht, hg⟩⟩ := ag_clear h p1 p2
  · refine ⟨_, q, x', hA, hR, fun E hE => ?_, ?_⟩
    · have e9 : e = E := by injection hE
      subst e9
      exact hcd.1
    · rintro r w (⟨E, hE, rfl, hcod⟩ | hbad)
      · have e9 : e = E := by injection hE
        subst e9
        obtain ⟨-, rfl⟩ := hcd
        obtain ⟨-, rfl⟩ := hcod
        exact ⟨ht.trans rfl, hg, fun h9 => absurd h9 (by decide)⟩
      · obtain ⟨q2, u, hE, -⟩ := hbad
        cases hE
  · refine ⟨_, q, x', hA, hR, fun E hE => (by cases hE), ?_⟩
    rintro r w (⟨E, hE, -⟩ | ⟨q2, u, hE, rfl, rfl⟩)
    · cases hE
    · cases hE
      exact ⟨ht, hg, fun _ => by show vp_updL out 0 _ 0 = _; unfold vp_updL; exact if_pos rfl⟩
theorem lw_read {c : Nat} {nm0 : Int64} {sb0 : SB} {d0 : SD} {ve0 vo0 : VS} {re0 ro0 : RC} {x : MS} (h : gS c nm0 sb0 d0 ve0 vo0 re0 ro0 x) (out : Nat → Int64) (p1 : Int32) (p2 : Int32) (p3 : Int32) : ∃ (res : Except String (Int64 × Unit)) (q : Int64) (x' : MS), FX7_read nm0 sb0 d0 ve0 vo0 re0 ro0 p1 p2 p3 = some res ∧ FX8_read x p1 p2 p3 = some (q, x') ∧ (∀ E, res = .error E → E = xIA ∨ E = xNS) ∧ ∀ (r : Int32) (w : TS × (Nat → Int64)), ((∃ E, res = .error E ∧ w = ((nm0, sb0, d0, ve0, vo0, re0, ro0), out) ∧ ((E = xIA ∧ r = 1) ∨ (E = xNS ∧ r = 2))) ∨ (∃ (q : Int64) (u : Unit), res = .ok (q, u) ∧ r = 0 ∧ w = ((nm0, sb0, d0, ve0, vo0, re0, ro0), vp_updL out 0 q))) → MS_thr x' = r ∧ gT9 (c + 1) w.1 x' ∧ (r = 0 → w.2 0 = q) := by
  obtain ⟨q, x', hR, ⟨e, t, hA, hcd, ht, hg⟩ | ⟨hA, ht, hg⟩⟩ := ag_read h p1 p2 p3
  · refine ⟨_, q, x', hA, hR, fun E hE => ?_, ?_⟩
    · have e9 : e = E := by injection hE
      subst e9
      rcases hcd with ⟨h1, -⟩ | ⟨h1, -⟩
      · exact Or.inl h1
      · exact Or.inr (h1)
    · rintro r w (⟨E, hE, rfl, hcod⟩ | hbad)
      · have e9 : e = E := by injection hE
        subst e9
        rcases hcd with ⟨h1, rfl⟩ | ⟨h1, rfl⟩
        · rcases hcod with ⟨h2, rfl⟩ | ⟨h2, rfl⟩
          · exact ⟨ht.trans rfl, hg, fun h9 => absurd h9 (by decide)⟩
          · exact absurd (h1.symm.trans h2) (by decide)
        · rcases hcod with ⟨h2, rfl⟩ | ⟨h2, rfl⟩
          · exact absurd (h1.symm.trans h2) (by decide)
          · exact ⟨ht.trans rfl, hg, fun h9 => absurd h9 (by decide)⟩
      · obtain ⟨q2, u, hE, -⟩ := hbad
        cases hE
  · refine ⟨_, q, x', hA, hR, fun E hE => (by cases hE), ?_⟩
    rintro r w (⟨E, hE, -⟩ | ⟨q2, u, hE, rfl, rfl⟩)
    · cases hE
    · cases hE
      exact ⟨ht, hg, fun _ => by show vp_updL out 0 _ 0 = _; unfold vp_updL; exact if_pos rfl⟩
theorem lw_snapshot {c : Nat} {nm0 : Int64} {sb0 : SB} {d0 : SD} {ve0 vo0 : VS} {re0 ro0 : RC} {x : MS} (h : gS c nm0 sb0 d0 ve0 vo0 re0 ro0 x) (hc : c ≤ 1000) (out : Nat → Int64) (p1 : Int32) : ∃ (res : Except String (Int32 × (Int64 × VS × VS))) (q : Int32) (x' : MS), FX7_snapshot nm0 sb0 d0 ve0 vo0 re0 ro0 p1 = some res ∧ FX8_snapshot x p1 = some (q, x') ∧ (∀ E, res = .error E → E = xIA ∨ E = xIS ∨ E = xUO) ∧ ∀ (r : Int32) (w : TS × (Nat → Int64)), ((∃ E, res = .error E ∧ w = ((nm0, sb0, d0, ve0, vo0, re0, ro0), out) ∧ ((E = xIA ∧ r = 1) ∨ (E = xIS ∧ r = 2) ∨ (E = xUO ∧ r = 3))) ∨ (∃ (q : Int32) (u : Int64 × VS × VS), res = .ok (q, u) ∧ r = 0 ∧ w = ((u.1, sb0, d0, u.2.1, u.2.2, re0, ro0), vp_updL out 0 q.toInt64))) → MS_thr x' = r ∧ gT9 (c + 1) w.1 x' ∧ (r = 0 → w.2 0 = q.toInt64) := by
  obtain ⟨q, x', hR, ⟨e, t, hA, hcd, ht, hg⟩ | ⟨a1, a2, a3, hA, ht, hg⟩⟩ := ag_snapshot h hc p1
  · refine ⟨_, q, x', hA, hR, fun E hE => ?_, ?_⟩
    · have e9 : e = E := by injection hE
      subst e9
      rcases hcd with ⟨h1, -⟩ | ⟨h1, -⟩ | ⟨h1, -⟩
      · exact Or.inl h1
      · exact Or.inr (Or.inl h1)
      · exact Or.inr (Or.inr (h1))
    · rintro r w (⟨E, hE, rfl, hcod⟩ | hbad)
      · have e9 : e = E := by injection hE
        subst e9
        rcases hcd with ⟨h1, rfl⟩ | ⟨h1, rfl⟩ | ⟨h1, rfl⟩
        · rcases hcod with ⟨h2, rfl⟩ | ⟨h2, rfl⟩ | ⟨h2, rfl⟩
          · exact ⟨ht.trans rfl, hg, fun h9 => absurd h9 (by decide)⟩
          · exact absurd (h1.symm.trans h2) (by decide)
          · exact absurd (h1.symm.trans h2) (by decide)
        · rcases hcod with ⟨h2, rfl⟩ | ⟨h2, rfl⟩ | ⟨h2, rfl⟩
          · exact absurd (h1.symm.trans h2) (by decide)
          · exact ⟨ht.trans rfl, hg, fun h9 => absurd h9 (by decide)⟩
          · exact absurd (h1.symm.trans h2) (by decide)
        · rcases hcod with ⟨h2, rfl⟩ | ⟨h2, rfl⟩ | ⟨h2, rfl⟩
          · exact absurd (h1.symm.trans h2) (by decide)
          · exact absurd (h1.symm.trans h2) (by decide)
          · exact ⟨ht.trans rfl, hg, fun h9 => absurd h9 (by decide)⟩
      · obtain ⟨q2, u, hE, -⟩ := hbad
        cases hE
  · refine ⟨_, q, x', hA, hR, fun E hE => (by cases hE), ?_⟩
    rintro r w (⟨E, hE, -⟩ | ⟨q2, u, hE, rfl, rfl⟩)
    · cases hE
    · cases hE
      exact ⟨ht, hg, fun _ => by show vp_updL out 0 _ 0 = _; unfold vp_updL; exact if_pos rfl⟩
theorem lw_destroy {c : Nat} {nm0 : Int64} {sb0 : SB} {d0 : SD} {ve0 vo0 : VS} {re0 ro0 : RC} {x : MS} (h : gS c nm0 sb0 d0 ve0 vo0 re0 ro0 x) (out : Nat → Int64) (p1 : Int32) (p2 : Int32) : ∃ (res : Except String (Int32 × (VS × VS))) (q : Int32) (x' : MS), FX7_destroy nm0 sb0 d0 ve0 vo0 re0 ro0 p1 p2 = some res ∧ FX8_destroy x p1 p2 = some (q, x') ∧ (∀ E, res = .error E → E = xIA ∨ E = xIS ∨ E = xNS) ∧ ∀ (r : Int32) (w : TS × (Nat → Int64)), ((∃ E, res = .error E ∧ w = ((nm0, sb0, d0, ve0, vo0, re0, ro0), out) ∧ ((E = xIA ∧ r = 1) ∨ (E = xIS ∧ r = 2) ∨ (E = xNS ∧ r = 3))) ∨ (∃ (q : Int32) (u : VS × VS), res = .ok (q, u) ∧ r = 0 ∧ w = ((nm0, sb0, d0, u.1, u.2, re0, ro0), vp_updL out 0 q.toInt64))) → MS_thr x' = r ∧ gT9 (c + 1) w.1 x' ∧ (r = 0 → w.2 0 = q.toInt64) := by
  obtain ⟨q, x', hR, ⟨e, t, hA, hcd, ht, hg⟩ | ⟨a1, a2, hA, ht, hg⟩⟩ := ag_destroy h p1 p2
  · refine ⟨_, q, x', hA, hR, fun E hE => ?_, ?_⟩
    · have e9 : e = E := by injection hE
      subst e9
      rcases hcd with ⟨h1, -⟩ | ⟨h1, -⟩ | ⟨h1, -⟩
      · exact Or.inl h1
      · exact Or.inr (Or.inl h1)
      · exact Or.inr (Or.inr (h1))
    · rintro r w (⟨E, hE, rfl, hcod⟩ | hbad)
      · have e9 : e = E := by injection hE
        subst e9
        rcases hcd with ⟨h1, rfl⟩ | ⟨h1, rfl⟩ | ⟨h1, rfl⟩
        · rcases hcod with ⟨h2, rfl⟩ | ⟨h2, rfl⟩ | ⟨h2, rfl⟩
          · exact ⟨ht.trans rfl, hg, fun h9 => absurd h9 (by decide)⟩
          · exact absurd (h1.symm.trans h2) (by decide)
          · exact absurd (h1.symm.trans h2) (by decide)
        · rcases hcod with ⟨h2, rfl⟩ | ⟨h2, rfl⟩ | ⟨h2, rfl⟩
          · exact absurd (h1.symm.trans h2) (by decide)
          · exact ⟨ht.trans rfl, hg, fun h9 => absurd h9 (by decide)⟩
          · exact absurd (h1.symm.trans h2) (by decide)
        · rcases hcod with ⟨h2, rfl⟩ | ⟨h2, rfl⟩ | ⟨h2, rfl⟩
          · exact absurd (h1.symm.trans h2) (by decide)
          · exact absurd (h1.symm.trans h2) (by decide)
          · exact ⟨ht.trans rfl, hg, fun h9 => absurd h9 (by decide)⟩
      · obtain ⟨q2, u, hE, -⟩ := hbad
        cases hE
  · refine ⟨_, q, x', hA, hR, fun E hE => (by cases hE), ?_⟩
    rintro r w (⟨E, hE, -⟩ | ⟨q2, u, hE, rfl, rfl⟩)
    · cases hE
    · cases hE
      exact ⟨ht, hg, fun _ => by show vp_updL out 0 _ 0 = _; unfold vp_updL; exact if_pos rfl⟩
theorem lw_rollback {c : Nat} {nm0 : Int64} {sb0 : SB} {d0 : SD} {ve0 vo0 : VS} {re0 ro0 : RC} {x : MS} (h : gS c nm0 sb0 d0 ve0 vo0 re0 ro0 x) (out : Nat → Int64) (p1 : Int32) : ∃ (res : Except String (Int32 × (VS × VS))) (q : Int32) (x' : MS), FX7_rollback nm0 sb0 d0 ve0 vo0 re0 ro0 p1 = some res ∧ FX8_rollback x p1 = some (q, x') ∧ (∀ E, res = .error E → E = xIA ∨ E = xIS ∨ E = xNS) ∧ ∀ (r : Int32) (w : TS × (Nat → Int64)), ((∃ E, res = .error E ∧ w = ((nm0, sb0, d0, ve0, vo0, re0, ro0), out) ∧ ((E = xIA ∧ r = 1) ∨ (E = xIS ∧ r = 2) ∨ (E = xNS ∧ r = 3))) ∨ (∃ (q : Int32) (u : VS × VS), res = .ok (q, u) ∧ r = 0 ∧ w = ((nm0, sb0, d0, u.1, u.2, re0, ro0), vp_updL out 0 q.toInt64))) → MS_thr x' = r ∧ gT9 (c + 1) w.1 x' ∧ (r = 0 → w.2 0 = q.toInt64) := by
  obtain ⟨q, x', hR, ⟨e, t, hA, hcd, ht, hg⟩ | ⟨a1, a2, hA, ht, hg⟩⟩ := ag_rollback h p1
  · refine ⟨_, q, x', hA, hR, fun E hE => ?_, ?_⟩
    · have e9 : e = E := by injection hE
      subst e9
      rcases hcd with ⟨h1, -⟩ | ⟨h1, -⟩ | ⟨h1, -⟩
      · exact Or.inl h1
      · exact Or.inr (Or.inl h1)
      · exact Or.inr (Or.inr (h1))
    · rintro r w (⟨E, hE, rfl, hcod⟩ | hbad)
      · have e9 : e = E := by injection hE
        subst e9
        rcases hcd with ⟨h1, rfl⟩ | ⟨h1, rfl⟩ | ⟨h1, rfl⟩
        · rcases hcod with ⟨h2, rfl⟩ | ⟨h2, rfl⟩ | ⟨h2, rfl⟩
          · exact ⟨ht.trans rfl, hg, fun h9 => absurd h9 (by decide)⟩
          · exact absurd (h1.symm.trans h2) (by decide)
          · exact absurd (h1.symm.trans h2) (by decide)
        · rcases hcod with ⟨h2, rfl⟩ | ⟨h2, rfl⟩ | ⟨h2, rfl⟩
          · exact absurd (h1.symm.trans h2) (by decide)
          · exact ⟨ht.trans rfl, hg, fun h9 => absurd h9 (by decide)⟩
          · exact absurd (h1.symm.trans h2) (by decide)
        · rcases hcod with ⟨h2, rfl⟩ | ⟨h2, rfl⟩ | ⟨h2, rfl⟩
          · exact absurd (h1.symm.trans h2) (by decide)
          · exact absurd (h1.symm.trans h2) (by decide)
          · exact ⟨ht.trans rfl, hg, fun h9 => absurd h9 (by decide)⟩
      · obtain ⟨q2, u, hE, -⟩ := hbad
        cases hE
  · refine ⟨_, q, x', hA, hR, fun E hE => (by cases hE), ?_⟩
    rintro r w (⟨E, hE, -⟩ | ⟨q2, u, hE, rfl, rfl⟩)
    · cases hE
    · cases hE
      exact ⟨ht, hg, fun _ => by show vp_updL out 0 _ 0 = _; unfold vp_updL; exact if_pos rfl⟩
theorem lw_send {c : Nat} {nm0 : Int64} {sb0 : SB} {d0 : SD} {ve0 vo0 : VS} {re0 ro0 : RC} {x : MS} (h : gS c nm0 sb0 d0 ve0 vo0 re0 ro0 x) (out : Nat → Int64) (p1 : Int32) (p2 : Int32) (p3 : Int32) : ∃ (res : Except String (Int32 × (SB × SD))) (q : Int32) (x' : MS), FX7_send nm0 sb0 d0 ve0 vo0 re0 ro0 p1 p2 p3 = some res ∧ FX8_send x p1 p2 p3 = some (q, x') ∧ (∀ E, res = .error E → E = xIA ∨ E = xNS ∨ E = xIS) ∧ ∀ (r : Int32) (w : TS × (Nat → Int64)), ((∃ E, res = .error E ∧ w = ((nm0, sb0, d0, ve0, vo0, re0, ro0), out) ∧ ((E = xIA ∧ r = 1) ∨ (E = xNS ∧ r = 2) ∨ (E = xIS ∧ r = 3))) ∨ (∃ (q : Int32) (u : SB × SD), res = .ok (q, u) ∧ r = 0 ∧ w = ((nm0, u.1, u.2, ve0, vo0, re0, ro0), vp_updL out 0 q.toInt64))) → MS_thr x' = r ∧ gT9 (c + 1) w.1 x' ∧ (r = 0 → w.2 0 = q.toInt64) := by
  obtain ⟨q, x', hR, ⟨e, t, hA, hcd, ht, hg⟩ | ⟨a1, a2, hA, ht, hg⟩⟩ := ag_send h p1 p2 p3
  · refine ⟨_, q, x', hA, hR, fun E hE => ?_, ?_⟩
    · have e9 : e = E := by injection hE
      subst e9
      rcases hcd with ⟨h1, -⟩ | ⟨h1, -⟩ | ⟨h1, -⟩
      · exact Or.inl h1
      · exact Or.inr (Or.inl h1)
      · exact Or.inr (Or.inr (h1))
    · rintro r w (⟨E, hE, rfl, hcod⟩ | hbad)
      · have e9 : e = E := by injection hE
        subst e9
        rcases hcd with ⟨h1, rfl⟩ | ⟨h1, rfl⟩ | ⟨h1, rfl⟩
        · rcases hcod with ⟨h2, rfl⟩ | ⟨h2, rfl⟩ | ⟨h2, rfl⟩
          · exact ⟨ht.trans rfl, hg, fun h9 => absurd h9 (by decide)⟩
          · exact absurd (h1.symm.trans h2) (by decide)
          · exact absurd (h1.symm.trans h2) (by decide)
        · rcases hcod with ⟨h2, rfl⟩ | ⟨h2, rfl⟩ | ⟨h2, rfl⟩
          · exact absurd (h1.symm.trans h2) (by decide)
          · exact ⟨ht.trans rfl, hg, fun h9 => absurd h9 (by decide)⟩
          · exact absurd (h1.symm.trans h2) (by decide)
        · rcases hcod with ⟨h2, rfl⟩ | ⟨h2, rfl⟩ | ⟨h2, rfl⟩
          · exact absurd (h1.symm.trans h2) (by decide)
          · exact absurd (h1.symm.trans h2) (by decide)
          · exact ⟨ht.trans rfl, hg, fun h9 => absurd h9 (by decide)⟩
      · obtain ⟨q2, u, hE, -⟩ := hbad
        cases hE
  · refine ⟨_, q, x', hA, hR, fun E hE => (by cases hE), ?_⟩
    rintro r w (⟨E, hE, -⟩ | ⟨q2, u, hE, rfl, rfl⟩)
    · cases hE
    · cases hE
      exact ⟨ht, hg, fun _ => by show vp_updL out 0 _ 0 = _; unfold vp_updL; exact if_pos rfl⟩
theorem lw_receive {c : Nat} {nm0 : Int64} {sb0 : SB} {d0 : SD} {ve0 vo0 : VS} {re0 ro0 : RC} {x : MS} (h : gS c nm0 sb0 d0 ve0 vo0 re0 ro0 x) (out : Nat → Int64) (p1 : Int32) : ∃ (res : Except String (Int32 × (VS × VS × RC × RC))) (q : Int32) (x' : MS), FX7_receive nm0 sb0 d0 ve0 vo0 re0 ro0 p1 = some res ∧ FX8_receive x p1 = some (q, x') ∧ (∀ E, res = .error E → E = xIA) ∧ ∀ (r : Int32) (w : TS × (Nat → Int64)), ((∃ E, res = .error E ∧ w = ((nm0, sb0, d0, ve0, vo0, re0, ro0), out) ∧ ((E = xIA ∧ r = 1))) ∨ (∃ (q : Int32) (u : VS × VS × RC × RC), res = .ok (q, u) ∧ r = 0 ∧ w = ((nm0, sb0, d0, u.1, u.2.1, u.2.2.1, u.2.2.2), vp_updL out 0 q.toInt64))) → MS_thr x' = r ∧ gT9 (c + 1) w.1 x' ∧ (r = 0 → w.2 0 = q.toInt64) := by
  obtain ⟨q, x', hR, ⟨e, t, hA, hcd, ht, hg⟩ | ⟨a1, a2, a3, a4, hA, ht, hg⟩⟩ := ag_receive h p1
  · refine ⟨_, q, x', hA, hR, fun E hE => ?_, ?_⟩
    · have e9 : e = E := by injection hE
      subst e9
      exact hcd.1
    · rintro r w (⟨E, hE, rfl, hcod⟩ | hbad)
      · have e9 : e = E := by injection hE
        subst e9
        obtain ⟨-, rfl⟩ := hcd
        obtain ⟨-, rfl⟩ := hcod
        exact ⟨ht.trans rfl, hg, fun h9 => absurd h9 (by decide)⟩
      · obtain ⟨q2, u, hE, -⟩ := hbad
        cases hE
  · refine ⟨_, q, x', hA, hR, fun E hE => (by cases hE), ?_⟩
    rintro r w (⟨E, hE, -⟩ | ⟨q2, u, hE, rfl, rfl⟩)
    · cases hE
    · cases hE
      exact ⟨ht, hg, fun _ => by show vp_updL out 0 _ 0 = _; unfold vp_updL; exact if_pos rfl⟩
theorem lw_step {c : Nat} {nm0 : Int64} {sb0 : SB} {d0 : SD} {ve0 vo0 : VS} {re0 ro0 : RC} {x : MS} (h : gS c nm0 sb0 d0 ve0 vo0 re0 ro0 x) (hc : c ≤ 1000) (out : Nat → Int64) (p1 : Int32) (p2 : Int32) : ∃ (res : Except String (Int32 × (VS × VS × RC × RC))) (q : Int32) (x' : MS), FX7_step nm0 sb0 d0 ve0 vo0 re0 ro0 p1 p2 = some res ∧ FX8_step x p1 p2 = some (q, x') ∧ (∀ E, res = .error E → E = xIA ∨ E = xIS) ∧ ∀ (r : Int32) (w : TS × (Nat → Int64)), ((∃ E, res = .error E ∧ w = ((nm0, sb0, d0, ve0, vo0, re0, ro0), out) ∧ ((E = xIA ∧ r = 1) ∨ (E = xIS ∧ r = 2))) ∨ (∃ (q : Int32) (u : VS × VS × RC × RC), res = .ok (q, u) ∧ r = 0 ∧ w = ((nm0, sb0, d0, u.1, u.2.1, u.2.2.1, u.2.2.2), vp_updL out 0 q.toInt64))) → MS_thr x' = r ∧ gT9 (c + 1) w.1 x' ∧ (r = 0 → w.2 0 = q.toInt64) := by
  obtain ⟨q, x', hR, ⟨e, t, hA, hcd, ht, hg⟩ | ⟨a1, a2, a3, a4, hA, ht, hg⟩⟩ := ag_step h hc p1 p2
  · refine ⟨_, q, x', hA, hR, fun E hE => ?_, ?_⟩
    · have e9 : e = E := by injection hE
      subst e9
      rcases hcd with ⟨h1, -⟩ | ⟨h1, -⟩
      · exact Or.inl h1
      · exact Or.inr (h1)
    · rintro r w (⟨E, hE, rfl, hcod⟩ | hbad)
      · have e9 : e = E := by injection hE
        subst e9
        rcases hcd with ⟨h1, rfl⟩ | ⟨h1, rfl⟩
        · rcases hcod with ⟨h2, rfl⟩ | ⟨h2, rfl⟩
          · exact ⟨ht.trans rfl, hg, fun h9 => absurd h9 (by decide)⟩
          · exact absurd (h1.symm.trans h2) (by decide)
        · rcases hcod with ⟨h2, rfl⟩ | ⟨h2, rfl⟩
          · exact absurd (h1.symm.trans h2) (by decide)
          · exact ⟨ht.trans rfl, hg, fun h9 => absurd h9 (by decide)⟩
      · obtain ⟨q2, u, hE, -⟩ := hbad
        cases hE
  · refine ⟨_, q, x', hA, hR, fun E hE => (by cases hE), ?_⟩
    rintro r w (⟨E, hE, -⟩ | ⟨q2, u, hE, rfl, rfl⟩)
    · cases hE
    · cases hE
      exact ⟨ht, hg, fun _ => by show vp_updL out 0 _ 0 = _; unfold vp_updL; exact if_pos rfl⟩
theorem lw_crash {c : Nat} {nm0 : Int64} {sb0 : SB} {d0 : SD} {ve0 vo0 : VS} {re0 ro0 : RC} {x : MS} (h : gS c nm0 sb0 d0 ve0 vo0 re0 ro0 x) (out : Nat → Int64) (p1 : Int32) : ∃ (res : Except String (Int32 × (VS × VS))) (q : Int32) (x' : MS), FX7_crash nm0 sb0 d0 ve0 vo0 re0 ro0 p1 = some res ∧ FX8_crash x p1 = some (q, x') ∧ (∀ E, res = .error E → E = xIA) ∧ ∀ (r : Int32) (w : TS × (Nat → Int64)), ((∃ E, res = .error E ∧ w = ((nm0, sb0, d0, ve0, vo0, re0, ro0), out) ∧ ((E = xIA ∧ r = 1))) ∨ (∃ (q : Int32) (u : VS × VS), res = .ok (q, u) ∧ r = 0 ∧ w = ((nm0, sb0, d0, u.1, u.2, re0, ro0), vp_updL out 0 (if q = 0 then 0 else 1)))) → MS_thr x' = r ∧ gT9 (c + 1) w.1 x' ∧ (r = 0 → w.2 0 = (if q = 0 then 0 else 1)) := by
  obtain ⟨q, x', hR, ⟨e, t, hA, hcd, ht, hg⟩ | ⟨a1, a2, hA, ht, hg⟩⟩ := ag_crash h p1
  · refine ⟨_, q, x', hA, hR, fun E hE => ?_, ?_⟩
    · have e9 : e = E := by injection hE
      subst e9
      exact hcd.1
    · rintro r w (⟨E, hE, rfl, hcod⟩ | hbad)
      · have e9 : e = E := by injection hE
        subst e9
        obtain ⟨-, rfl⟩ := hcd
        obtain ⟨-, rfl⟩ := hcod
        exact ⟨ht.trans rfl, hg, fun h9 => absurd h9 (by decide)⟩
      · obtain ⟨q2, u, hE, -⟩ := hbad
        cases hE
  · refine ⟨_, q, x', hA, hR, fun E hE => (by cases hE), ?_⟩
    rintro r w (⟨E, hE, -⟩ | ⟨q2, u, hE, rfl, rfl⟩)
    · cases hE
    · cases hE
      exact ⟨ht, hg, fun _ => by show vp_updL out 0 _ 0 = _; unfold vp_updL; exact if_pos rfl⟩
theorem lw_patch {c : Nat} {nm0 : Int64} {sb0 : SB} {d0 : SD} {ve0 vo0 : VS} {re0 ro0 : RC} {x : MS} (h : gS c nm0 sb0 d0 ve0 vo0 re0 ro0 x) (out : Nat → Int64) (p1 : Int32) (p2 : Int32) : ∃ (res : Except String (Int32 × (SB))) (q : Int32) (x' : MS), FX7_patch nm0 sb0 d0 ve0 vo0 re0 ro0 p1 p2 = some res ∧ FX8_patch x p1 p2 = some (q, x') ∧ (∀ E, res = .error E → E = xNS) ∧ ∀ (r : Int32) (w : TS × (Nat → Int64)), ((∃ E, res = .error E ∧ w = ((nm0, sb0, d0, ve0, vo0, re0, ro0), out) ∧ ((E = xNS ∧ r = 1))) ∨ (∃ (q : Int32) (u : SB), res = .ok (q, u) ∧ r = 0 ∧ w = ((nm0, u, d0, ve0, vo0, re0, ro0), vp_updL out 0 q.toInt64))) → MS_thr x' = r ∧ gT9 (c + 1) w.1 x' ∧ (r = 0 → w.2 0 = q.toInt64) := by
  obtain ⟨q, x', hR, ⟨e, t, hA, hcd, ht, hg⟩ | ⟨a1, hA, ht, hg⟩⟩ := ag_patch h p1 p2
  · refine ⟨_, q, x', hA, hR, fun E hE => ?_, ?_⟩
    · have e9 : e = E := by injection hE
      subst e9
      exact hcd.1
    · rintro r w (⟨E, hE, rfl, hcod⟩ | hbad)
      · have e9 : e = E := by injection hE
        subst e9
        obtain ⟨-, rfl⟩ := hcd
        obtain ⟨-, rfl⟩ := hcod
        exact ⟨ht.trans rfl, hg, fun h9 => absurd h9 (by decide)⟩
      · obtain ⟨q2, u, hE, -⟩ := hbad
        cases hE
  · refine ⟨_, q, x', hA, hR, fun E hE => (by cases hE), ?_⟩
    rintro r w (⟨E, hE, -⟩ | ⟨q2, u, hE, rfl, rfl⟩)
    · cases hE
    · cases hE
      exact ⟨ht, hg, fun _ => by show vp_updL out 0 _ 0 = _; unfold vp_updL; exact if_pos rfl⟩
theorem lw_cut {c : Nat} {nm0 : Int64} {sb0 : SB} {d0 : SD} {ve0 vo0 : VS} {re0 ro0 : RC} {x : MS} (h : gS c nm0 sb0 d0 ve0 vo0 re0 ro0 x) (p1 : Int32) : ∃ (res : Except String (SB)) (x' : MS), FX7_cut nm0 sb0 d0 ve0 vo0 re0 ro0 p1 = some res ∧ FX8_cut x p1 = some x' ∧ (∀ E, res = .error E → E = xIA) ∧ ∀ (r : Int32) (w : TS), ((∃ E, res = .error E ∧ w = (nm0, sb0, d0, ve0, vo0, re0, ro0) ∧ ((E = xIA ∧ r = 1))) ∨ (∃ (u : SB), res = .ok u ∧ r = 0 ∧ w = (nm0, u, d0, ve0, vo0, re0, ro0))) → MS_thr x' = r ∧ gT9 (c + 1) w x' := by
  obtain ⟨x', hR, ⟨e, t, hA, hcd, ht, hg⟩ | ⟨a1, hA, ht, hg⟩⟩ := ag_cut h p1
  · refine ⟨_, x', hA, hR, fun E hE => ?_, ?_⟩
    · have e9 : e = E := by injection hE
      subst e9
      exact hcd.1
    · rintro r w (⟨E, hE, rfl, hcod⟩ | hbad)
      · have e9 : e = E := by injection hE
        subst e9
        obtain ⟨-, rfl⟩ := hcd
        obtain ⟨-, rfl⟩ := hcod
        exact ⟨ht.trans rfl, hg⟩
      · obtain ⟨u, hE, -⟩ := hbad
        cases hE
  · refine ⟨_, x', hA, hR, fun E hE => (by cases hE), ?_⟩
    rintro r w (⟨E, hE, -⟩ | ⟨u, hE, rfl, rfl⟩)
    · cases hE
    · cases hE
      exact ⟨ht, hg⟩
