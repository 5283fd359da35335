/-! PART 83: each call of the face; printed by wip/whole/gen_faces.py -/
def agR (c : Nat) (nm : Int64) (sb : SB) (d : SD) (ve vo : VS) (re ro : RC) (code : String → Int32 → Prop) (A : Option (Except String (Int64 × Unit))) (R : Option (Int64 × MS)) : Prop :=
  ∃ q x', R = some (q, x') ∧ ((∃ e t, A = some (.error e) ∧ code e t ∧ MS_thr x' = t ∧ gS (c + 1) nm sb d ve vo re ro x') ∨ (A = some (.ok (q, ())) ∧ MS_thr x' = 0 ∧ gS (c + 1) nm sb d ve vo re ro x'))
def agS (c : Nat) (nm : Int64) (sb : SB) (d : SD) (ve vo : VS) (re ro : RC) (code : String → Int32 → Prop) (A : Option (Except String (Int32 × (Int64 × VS × VS)))) (R : Option (Int32 × MS)) : Prop :=
  ∃ q x', R = some (q, x') ∧ ((∃ e t, A = some (.error e) ∧ code e t ∧ MS_thr x' = t ∧ gS (c + 1) nm sb d ve vo re ro x') ∨ (∃ nm' ve' vo', A = some (.ok (q, (nm', ve', vo'))) ∧ MS_thr x' = 0 ∧ gS (c + 1) nm' sb d ve' vo' re ro x'))
def ag4 (c : Nat) (nm : Int64) (sb : SB) (d : SD) (ve vo : VS) (re ro : RC) (code : String → Int32 → Prop) (A : Option (Except String (Int32 × (VS × VS × RC × RC)))) (R : Option (Int32 × MS)) : Prop :=
  ∃ q x', R = some (q, x') ∧ ((∃ e t, A = some (.error e) ∧ code e t ∧ MS_thr x' = t ∧ gS (c + 1) nm sb d ve vo re ro x') ∨ (∃ ve' vo' re' ro', A = some (.ok (q, (ve', vo', re', ro'))) ∧ MS_thr x' = 0 ∧ gS (c + 1) nm sb d ve' vo' re' ro' x'))
def agF (c : Nat) (nm : Int64) (sb : SB) (d : SD) (ve vo : VS) (re ro : RC) (code : String → Int32 → Prop) (A : Option (Except String (VS × VS × RC × RC))) (R : Option MS) : Prop :=
  ∃ x', R = some x' ∧ ((∃ e t, A = some (.error e) ∧ code e t ∧ MS_thr x' = t ∧ gS (c + 1) nm sb d ve vo re ro x') ∨ (∃ ve' vo' re' ro', A = some (.ok (ve', vo', re', ro')) ∧ MS_thr x' = 0 ∧ gS (c + 1) nm sb d ve' vo' re' ro' x'))
def agD (c : Nat) (nm : Int64) (sb : SB) (d : SD) (ve vo : VS) (re ro : RC) (code : String → Int32 → Prop) (A : Option (Except String (Int32 × (SB × SD)))) (R : Option (Int32 × MS)) : Prop :=
  ∃ q x', R = some (q, x') ∧ ((∃ e t, A = some (.error e) ∧ code e t ∧ MS_thr x' = t ∧ gS (c + 1) nm sb d ve vo re ro x') ∨ (∃ sb' d', A = some (.ok (q, (sb', d'))) ∧ MS_thr x' = 0 ∧ gS (c + 1) nm sb' d' ve vo re ro x'))
def agP (c : Nat) (nm : Int64) (sb : SB) (d : SD) (ve vo : VS) (re ro : RC) (code : String → Int32 → Prop) (A : Option (Except String (Int32 × SB))) (R : Option (Int32 × MS)) : Prop :=
  ∃ q x', R = some (q, x') ∧ ((∃ e t, A = some (.error e) ∧ code e t ∧ MS_thr x' = t ∧ gS (c + 1) nm sb d ve vo re ro x') ∨ (∃ sb', A = some (.ok (q, sb')) ∧ MS_thr x' = 0 ∧ gS (c + 1) nm sb' d ve vo re ro x'))
def agC (c : Nat) (nm : Int64) (sb : SB) (d : SD) (ve vo : VS) (re ro : RC) (code : String → Int32 → Prop) (A : Option (Except String SB)) (R : Option MS) : Prop :=
  ∃ x', R = some x' ∧ ((∃ e t, A = some (.error e) ∧ code e t ∧ MS_thr x' = t ∧ gS (c + 1) nm sb d ve vo re ro x') ∨ (∃ sb', A = some (.ok sb') ∧ MS_thr x' = 0 ∧ gS (c + 1) nm sb' d ve vo re ro x'))
def agL {α : Type} (c : Nat) (nm : Int64) (sb : SB) (d : SD) (ve vo : VS) (re ro : RC) (A : Option α) (R : Option (α × MS)) : Prop :=
  ∃ q x', R = some (q, x') ∧ A = some q ∧ gS (c + 1) nm sb d ve vo re ro x'
theorem lt20 {c : Nat} (h : c ≤ 1000) : c < 2 ^ 20 := by omega
theorem frthr {v : Nat} {x y : MS} {a : Int32} (h : fr v (MS_setthr x a) y) : MS_thr y = a := h.2.2.2.2.2.2.2
theorem read_eq (x0 : MS) (p1 p2 p3 : Int32) : FX8_read x0 p1 p2 p3 =
  (FX8_isVolume p1).bind fun r1 =>
  if r1 = 0 then
    some (0, (MS_setthr x0 1))
  else
    (FX8_isPlace p3).bind fun r4 =>
    if r4 = 0 then
      some (0, (MS_setthr x0 1))
    else
      if p2 = (-1) then wayData (MS_setthr x0 0) p1 0 p3
      else
        (FX8_isSnap x0 p1 p2).bind fun r23 =>
        if r23 = 0 then
          some (0, (MS_setthr x0 2))
        else wayData (MS_setthr x0 0) p1 (2 + p2) p3 := rfl
theorem des_eq (x0 : MS) (p1 p2 : Int32) : FX8_destroy x0 p1 p2 =
  (FX8_isVolume p1).bind fun r1 =>
  if r1 = 0 then
    some (0, (MS_setthr x0 1))
  else
    (ald 2 (MS_busy x0) p1).bind fun r4 =>
    if r4 = 0 then
      (FX8_isSnap x0 p1 p2).bind fun r7 =>
      if r7 = 0 then
        some (0, (MS_setthr x0 3))
      else destroyRest (MS_setthr x0 0) p1 p2
    else
      some (0, (MS_setthr x0 2)) := rfl
theorem roll_eq (x0 : MS) (p1 : Int32) : FX8_rollback x0 p1 =
  (FX8_isVolume p1).bind fun r1 =>
  if r1 = 0 then
    some (0, (MS_setthr x0 1))
  else
    (ald 2 (MS_busy x0) p1).bind fun r4 =>
    if r4 = 0 then
      (ald 2 (MS_snaps x0) p1).bind fun r7 =>
      if r7 = 0 then
        some (0, (MS_setthr x0 3))
      else rollRest (MS_setthr x0 0) p1
    else
      some (0, (MS_setthr x0 2)) := rfl
theorem send_eq (x0 : MS) (p1 p2 p3 : Int32) : FX8_send x0 p1 p2 p3 =
  (FX8_isVolume p1).bind fun r1 =>
  if r1 = 0 then
    some (0, (MS_setthr x0 1))
  else
    (FX8_isSnap x0 p1 p3).bind fun r4 =>
    if r4 = 0 then
      some (0, (MS_setthr x0 2))
    else
      if p2 < (-1) then
        some (0, (MS_setthr x0 3))
      else
        if p2 < p3 then
          if p2 = (-1) then sendN (MS_setthr x0 0) p1 p2 p3
          else
            (ald 40 (MS_sg x0) ((20 * p1) + p2)).bind fun r10 => sendB (MS_setthr x0 0) p1 p2 p3 r10
        else
          some (0, (MS_setthr x0 3)) := rfl
theorem lt_m1 {p : Int32} (h : ¬ p = -1) : p < -1 ↔ p < 0 := by
  rw [Int32.lt_iff_toInt_lt, Int32.lt_iff_toInt_lt]
  have : p.toInt ≠ (-1 : Int32).toInt := fun e => h (Int32.toInt_inj.mp e)
  have e1 : (-1 : Int32).toInt = -1 := by decide
  have e2 : (0 : Int32).toInt = 0 := by decide
  omega
theorem m1_lt {p : Int32} (h : ¬ p < 0) : (-1 : Int32) < p := by
  rw [Int32.lt_iff_toInt_lt] at h ⊢
  have e1 : (-1 : Int32).toInt = -1 := by decide
  have e2 : (0 : Int32).toInt = 0 := by decide
  omega
theorem has_pos {w : VS} {k : Int32} (h : FX6_hasSnapshot w k = some 1) : ¬ k < 0 := by
  intro z
  unfold FX6_hasSnapshot at h
  rw [if_pos z] at h
  exact absurd (Option.some.inj h) (by decide)
theorem ag_clear {c : Nat} {nm : Int64} {sb : SB} {d : SD} {ve vo : VS} {re ro : RC} {x : MS} (h : gS c nm sb d ve vo re ro x) (p1 p2 : Int32) :
    ag2 c nm sb d ve vo re ro x (fun e t => e = xIA ∧ t = 1) (FX7_clear nm sb d ve vo re ro p1 p2) (FX8_clear x p1 p2) := by
  have h' := gS_thr0 0 h
  have bad1 : FX8_clear x p1 p2 = some (0, MS_setthr x 1) → FX7_clear nm sb d ve vo re ro p1 p2 = some (.error xIA) → ag2 c nm sb d ve vo re ro x (fun e t => e = xIA ∧ t = 1) (FX7_clear nm sb d ve vo re ro p1 p2) (FX8_clear x p1 p2) :=
    fun e1 e2 => ⟨0, _, e1, Or.inl ⟨xIA, 1, e2, ⟨rfl, rfl⟩, rfl, gS_thr 1 h⟩⟩
  by_cases h0 : p1 = 0
  · subst h0
    rcases isPl_any p2 with ⟨e1, e2⟩ | ⟨p, hp, rfl, e1, e2⟩
    · exact bad1 (by simp only [FX8_clear, isV0, e2, Option.bind_some, i10, if_false, if_true]) (by simp only [FX7_clear, find_0, e1, Option.bind_some, i10, if_false, if_true])
    · rcases v_busy h'.1 with ⟨b1, b2⟩ | ⟨b1, b2⟩
      · obtain ⟨k, w1, w', x1, x2, x', c1, c2, c3, c4, c5, c6, c7⟩ := v_clear (by omega) h'.1 hp b2
        have b3 : MS_busy x 0 = 0 := b2
        have c3' : FX8_begins (MS_setthr x 0) 0 = some x1 := c3
        have c4' : FX8_clears x1 0 0 (nI p) = some (if k = 0 then 5 else 0, x2) := c4
        have c5' : FX8_sweeps x2 0 = some x' := c5
        refine ⟨if k = 0 then 5 else 0, x', ?_, Or.inr ⟨w', vo, ?_, frthr c6, gS_0 h' c6 c7⟩⟩
        · simp only [FX8_clear, isV0, e2, Option.bind_some, i10, if_false, if_true, ald0, b3, c3', c4', c5']
        · simp only [FX7_clear, find_0, e1, Option.bind_some, i10, if_false, if_true, b1, c1, c2]
          split <;> rfl
      · have b3 : MS_busy x 0 = 1 := b2
        refine ⟨6, MS_setthr x 0, ?_, Or.inr ⟨ve, vo, ?_, rfl, gS_thr 0 h⟩⟩
        · simp only [FX8_clear, isV0, e2, Option.bind_some, i10, if_false, if_true, ald0, b3]
        · simp only [FX7_clear, find_0, e1, Option.bind_some, i10, if_false, if_true, b1]
  · by_cases h1 : p1 = 1
    · subst h1
      rcases isPl_any p2 with ⟨e1, e2⟩ | ⟨p, hp, rfl, e1, e2⟩
      · exact bad1 (by simp only [FX8_clear, isV1, e2, Option.bind_some, i10, if_false, if_true]) (by simp only [FX7_clear, find_1, e1, Option.bind_some, i10, if_false, if_true])
      · rcases v_busy h'.2.1 with ⟨b1, b2⟩ | ⟨b1, b2⟩
        · obtain ⟨k, w1, w', x1, x2, x', c1, c2, c3, c4, c5, c6, c7⟩ := v_clear (by omega) h'.2.1 hp b2
          have b3 : MS_busy x 1 = 0 := b2
          have c3' : FX8_begins (MS_setthr x 0) 1 = some x1 := c3
          have c4' : FX8_clears x1 1 0 (nI p) = some (if k = 0 then 5 else 0, x2) := c4
          have c5' : FX8_sweeps x2 1 = some x' := c5
          refine ⟨if k = 0 then 5 else 0, x', ?_, Or.inr ⟨ve, w', ?_, frthr c6, gS_1 h' c6 c7⟩⟩
          · simp only [FX8_clear, isV1, e2, Option.bind_some, i10, if_false, if_true, ald1, b3, c3', c4', c5']
          · simp only [FX7_clear, find_1, e1, Option.bind_some, i10, if_false, if_true, b1, c1, c2]
            split <;> rfl
        · have b3 : MS_busy x 1 = 1 := b2
          refine ⟨6, MS_setthr x 0, ?_, Or.inr ⟨ve, vo, ?_, rfl, gS_thr 0 h⟩⟩
          · simp only [FX8_clear, isV1, e2, Option.bind_some, i10, if_false, if_true, ald1, b3]
          · simp only [FX7_clear, find_1, e1, Option.bind_some, i10, if_false, if_true, b1]
    · obtain ⟨f1, f2⟩ := find_n nm h0 h1
      exact bad1 (by simp only [FX8_clear, f2, Option.bind_some, if_true]) (by simp only [FX7_clear, f1, Option.bind_some])
theorem ag_read {c : Nat} {nm : Int64} {sb : SB} {d : SD} {ve vo : VS} {re ro : RC} {x : MS} (h : gS c nm sb d ve vo re ro x) (p1 p2 p3 : Int32) :
    agR c nm sb d ve vo re ro (fun e t => (e = xIA ∧ t = 1) ∨ (e = xNS ∧ t = 2)) (FX7_read nm sb d ve vo re ro p1 p2 p3) (FX8_read x p1 p2 p3) := by
  have h' := gS_thr0 0 h
  have bad1 : FX8_read x p1 p2 p3 = some (0, MS_setthr x 1) → FX7_read nm sb d ve vo re ro p1 p2 p3 = some (.error xIA) → agR c nm sb d ve vo re ro (fun e t => (e = xIA ∧ t = 1) ∨ (e = xNS ∧ t = 2)) (FX7_read nm sb d ve vo re ro p1 p2 p3) (FX8_read x p1 p2 p3) :=
    fun e1 e2 => ⟨0, _, e1, Or.inl ⟨xIA, 1, e2, Or.inl ⟨rfl, rfl⟩, rfl, gS_thr 1 h⟩⟩
  have bad2 : FX8_read x p1 p2 p3 = some (0, MS_setthr x 2) → FX7_read nm sb d ve vo re ro p1 p2 p3 = some (.error xNS) → agR c nm sb d ve vo re ro (fun e t => (e = xIA ∧ t = 1) ∨ (e = xNS ∧ t = 2)) (FX7_read nm sb d ve vo re ro p1 p2 p3) (FX8_read x p1 p2 p3) :=
    fun e1 e2 => ⟨0, _, e1, Or.inl ⟨xNS, 2, e2, Or.inr (⟨rfl, rfl⟩), rfl, gS_thr 2 h⟩⟩
  by_cases h0 : p1 = 0
  · subst h0
    rcases isPl_any p3 with ⟨e1, e2⟩ | ⟨p, hp, rfl, e1, e2⟩
    · exact bad1 (by simp only [read_eq, isV0, e2, Option.bind_some, i10, if_false, if_true]) (by simp only [FX7_read, find_0, e1, Option.bind_some, i10, if_false, if_true])
    · by_cases hk : p2 = -1
      · subst hk
        obtain ⟨q, x', c1, c2, c3, c4⟩ := v_readL (by omega) h'.1 hp
        have c2' : wayData (MS_setthr x 0) 0 0 (nI p) = some (q, x') := c2
        refine ⟨q, x', ?_, Or.inr ⟨?_, frthr c3, gS_0 h' c3 c4⟩⟩
        · simp only [read_eq, isV0, e2, Option.bind_some, i10, if_false, if_true, c2']
        · simp only [FX7_read, find_0, e1, Option.bind_some, i10, if_false, if_true, c1]
      · rcases v_readS (by omega) h.1 hp p2 with ⟨s1, s2⟩ | ⟨s1, s2, q, x', c1, c2, c3, c4⟩
        · have s2' : FX8_isSnap x 0 p2 = some 0 := s2
          exact bad2 (by simp only [read_eq, isV0, e2, Option.bind_some, i10, if_false, if_true, hk, s2']) (by simp only [FX7_read, find_0, e1, Option.bind_some, i10, if_false, if_true, hk, s1])
        · have s2' : FX8_isSnap x 0 p2 = some 1 := s2
          have c2' : wayData (MS_setthr x 0) 0 (2 + p2) (nI p) = some (q, x') := c2
          refine ⟨q, x', ?_, Or.inr ⟨?_, frthr c3, gS_0 h' c3 c4⟩⟩
          · simp only [read_eq, isV0, e2, Option.bind_some, i10, if_false, if_true, hk, s2', c2']
          · simp only [FX7_read, find_0, e1, Option.bind_some, i10, if_false, if_true, hk, s1, c1]
  · by_cases h1 : p1 = 1
    · subst h1
      rcases isPl_any p3 with ⟨e1, e2⟩ | ⟨p, hp, rfl, e1, e2⟩
      · exact bad1 (by simp only [read_eq, isV1, e2, Option.bind_some, i10, if_false, if_true]) (by simp only [FX7_read, find_1, e1, Option.bind_some, i10, if_false, if_true])
      · by_cases hk : p2 = -1
        · subst hk
          obtain ⟨q, x', c1, c2, c3, c4⟩ := v_readL (by omega) h'.2.1 hp
          have c2' : wayData (MS_setthr x 0) 1 0 (nI p) = some (q, x') := c2
          refine ⟨q, x', ?_, Or.inr ⟨?_, frthr c3, gS_1 h' c3 c4⟩⟩
          · simp only [read_eq, isV1, e2, Option.bind_some, i10, if_false, if_true, c2']
          · simp only [FX7_read, find_1, e1, Option.bind_some, i10, if_false, if_true, c1]
        · rcases v_readS (by omega) h.2.1 hp p2 with ⟨s1, s2⟩ | ⟨s1, s2, q, x', c1, c2, c3, c4⟩
          · have s2' : FX8_isSnap x 1 p2 = some 0 := s2
            exact bad2 (by simp only [read_eq, isV1, e2, Option.bind_some, i10, if_false, if_true, hk, s2']) (by simp only [FX7_read, find_1, e1, Option.bind_some, i10, if_false, if_true, hk, s1])
          · have s2' : FX8_isSnap x 1 p2 = some 1 := s2
            have c2' : wayData (MS_setthr x 0) 1 (2 + p2) (nI p) = some (q, x') := c2
            refine ⟨q, x', ?_, Or.inr ⟨?_, frthr c3, gS_1 h' c3 c4⟩⟩
            · simp only [read_eq, isV1, e2, Option.bind_some, i10, if_false, if_true, hk, s2', c2']
            · simp only [FX7_read, find_1, e1, Option.bind_some, i10, if_false, if_true, hk, s1, c1]
    · obtain ⟨f1, f2⟩ := find_n nm h0 h1
      exact bad1 (by simp only [read_eq, f2, Option.bind_some, if_true]) (by simp only [FX7_read, f1, Option.bind_some])
theorem vS_nm {v c : Nat} {w : VS} {r : RC} {x : MS} {z : Int64} (h : vS v c w r x) : vS v c w r (MS_setnm x z) := by
  obtain ⟨N, bz, sn, g, lev, T, B, a1, a2, a3, a4, a5⟩ := h
  exact ⟨N, bz, sn, g, lev, T, B, vol_eq a1 ⟨rfl, rfl, rfl, rfl, rfl⟩ ⟨rfl, rfl, rfl, rfl, rfl, rfl, rfl⟩, a2, a3, a4, a5⟩
theorem ag_snapshot {c : Nat} {nm : Int64} {sb : SB} {d : SD} {ve vo : VS} {re ro : RC} {x : MS} (h : gS c nm sb d ve vo re ro x) (hc : c ≤ 1000) (p1 : Int32) :
    agS c nm sb d ve vo re ro (fun e t => (e = xIA ∧ t = 1) ∨ (e = xIS ∧ t = 2) ∨ (e = xUO ∧ t = 3)) (FX7_snapshot nm sb d ve vo re ro p1) (FX8_snapshot x p1) := by
  have h' := gS_thr0 0 h
  have bad1 : FX8_snapshot x p1 = some (0, MS_setthr x 1) → FX7_snapshot nm sb d ve vo re ro p1 = some (.error xIA) → agS c nm sb d ve vo re ro (fun e t => (e = xIA ∧ t = 1) ∨ (e = xIS ∧ t = 2) ∨ (e = xUO ∧ t = 3)) (FX7_snapshot nm sb d ve vo re ro p1) (FX8_snapshot x p1) :=
    fun e1 e2 => ⟨0, _, e1, Or.inl ⟨xIA, 1, e2, Or.inl ⟨rfl, rfl⟩, rfl, gS_thr 1 h⟩⟩
  have bad2 : FX8_snapshot x p1 = some (0, MS_setthr x 2) → FX7_snapshot nm sb d ve vo re ro p1 = some (.error xIS) → agS c nm sb d ve vo re ro (fun e t => (e = xIA ∧ t = 1) ∨ (e = xIS ∧ t = 2) ∨ (e = xUO ∧ t = 3)) (FX7_snapshot nm sb d ve vo re ro p1) (FX8_snapshot x p1) :=
    fun e1 e2 => ⟨0, _, e1, Or.inl ⟨xIS, 2, e2, Or.inr (Or.inl ⟨rfl, rfl⟩), rfl, gS_thr 2 h⟩⟩
  have bad3 : FX8_snapshot x p1 = some (0, MS_setthr x 3) → FX7_snapshot nm sb d ve vo re ro p1 = some (.error xUO) → agS c nm sb d ve vo re ro (fun e t => (e = xIA ∧ t = 1) ∨ (e = xIS ∧ t = 2) ∨ (e = xUO ∧ t = 3)) (FX7_snapshot nm sb d ve vo re ro p1) (FX8_snapshot x p1) :=
    fun e1 e2 => ⟨0, _, e1, Or.inl ⟨xUO, 3, e2, Or.inr (Or.inr (⟨rfl, rfl⟩)), rfl, gS_thr 3 h⟩⟩
  by_cases h0 : p1 = 0
  · subst h0
    rcases v_busy h'.1 with ⟨b1, b2⟩ | ⟨b1, b2⟩
    · have b3 : MS_busy x 0 = 0 := b2
      rcases v_snap nm (by omega) h'.1 (lt20 hc) b2 with ⟨q, s1, s2, s3⟩ | ⟨q, k, w', y, s1, s2, s3, s4, s5, s6, s7, s8⟩
      · have s3' : MS_snaps x 0 = 20 := s3
        exact bad3 (by simp only [FX8_snapshot, isV0, Option.bind_some, i10, if_false, if_true, ald0, b3, s3']) (by simp only [FX7_snapshot, find_0, Option.bind_some, i10, if_false, if_true, b1, s1, s2])
      · have s3' : ¬ MS_snaps x 0 = 20 := s3
        have hnm := h.2.2.2.2.2.2
        have s5' : FX8_snaps (MS_setthr x 0) 0 0 (MS_nm x) = some y := by rw [← hnm]; exact s5
        have g1 := gS_0 h' s7 s8
        obtain ⟨g2, g3, ⟨L, g4⟩, g5, g6, g7, g8⟩ := g1
        refine ⟨k, MS_setnm y (MS_nm y + 1), ?_, Or.inr ⟨nm + 1, w', vo, ?_, (frthr s7 : MS_thr y = 0), ?_⟩⟩
        · simp only [FX8_snapshot, isV0, Option.bind_some, i10, if_false, if_true, ald0, b3, s3', s5', s6]
        · simp only [FX7_snapshot, find_0, Option.bind_some, i10, if_false, if_true, b1, s1, s2, s4]
        · exact ⟨vS_nm g2, vS_nm g3, ⟨L, g4.1, g4.2.1, g4.2.2.1, g4.2.2.2⟩, g5, g6, g7, by rw [g8]⟩
    · have b3 : MS_busy x 0 = 1 := b2
      exact bad2 (by simp only [FX8_snapshot, isV0, Option.bind_some, i10, if_false, if_true, ald0, b3]) (by simp only [FX7_snapshot, find_0, Option.bind_some, i10, if_false, if_true, b1])
  · by_cases h1 : p1 = 1
    · subst h1
      rcases v_busy h'.2.1 with ⟨b1, b2⟩ | ⟨b1, b2⟩
      · have b3 : MS_busy x 1 = 0 := b2
        rcases v_snap nm (by omega) h'.2.1 (lt20 hc) b2 with ⟨q, s1, s2, s3⟩ | ⟨q, k, w', y, s1, s2, s3, s4, s5, s6, s7, s8⟩
        · have s3' : MS_snaps x 1 = 20 := s3
          exact bad3 (by simp only [FX8_snapshot, isV1, Option.bind_some, i10, if_false, if_true, ald1, b3, s3']) (by simp only [FX7_snapshot, find_1, Option.bind_some, i10, if_false, if_true, b1, s1, s2])
        · have s3' : ¬ MS_snaps x 1 = 20 := s3
          have hnm := h.2.2.2.2.2.2
          have s5' : FX8_snaps (MS_setthr x 0) 1 0 (MS_nm x) = some y := by rw [← hnm]; exact s5
          have g1 := gS_1 h' s7 s8
          obtain ⟨g2, g3, ⟨L, g4⟩, g5, g6, g7, g8⟩ := g1
          refine ⟨k, MS_setnm y (MS_nm y + 1), ?_, Or.inr ⟨nm + 1, ve, w', ?_, (frthr s7 : MS_thr y = 0), ?_⟩⟩
          · simp only [FX8_snapshot, isV1, Option.bind_some, i10, if_false, if_true, ald1, b3, s3', s5', s6]
          · simp only [FX7_snapshot, find_1, Option.bind_some, i10, if_false, if_true, b1, s1, s2, s4]
          · exact ⟨vS_nm g2, vS_nm g3, ⟨L, g4.1, g4.2.1, g4.2.2.1, g4.2.2.2⟩, g5, g6, g7, by rw [g8]⟩
      · have b3 : MS_busy x 1 = 1 := b2
        exact bad2 (by simp only [FX8_snapshot, isV1, Option.bind_some, i10, if_false, if_true, ald1, b3]) (by simp only [FX7_snapshot, find_1, Option.bind_some, i10, if_false, if_true, b1])
    · obtain ⟨f1, f2⟩ := find_n nm h0 h1
      exact bad1 (by simp only [FX8_snapshot, f2, Option.bind_some, if_true]) (by simp only [FX7_snapshot, f1, Option.bind_some])
theorem ag_destroy {c : Nat} {nm : Int64} {sb : SB} {d : SD} {ve vo : VS} {re ro : RC} {x : MS} (h : gS c nm sb d ve vo re ro x) (p1 p2 : Int32) :
    ag2 c nm sb d ve vo re ro x (fun e t => (e = xIA ∧ t = 1) ∨ (e = xIS ∧ t = 2) ∨ (e = xNS ∧ t = 3)) (FX7_destroy nm sb d ve vo re ro p1 p2) (FX8_destroy x p1 p2) := by
  have h' := gS_thr0 0 h
  have bad1 : FX8_destroy x p1 p2 = some (0, MS_setthr x 1) → FX7_destroy nm sb d ve vo re ro p1 p2 = some (.error xIA) → ag2 c nm sb d ve vo re ro x (fun e t => (e = xIA ∧ t = 1) ∨ (e = xIS ∧ t = 2) ∨ (e = xNS ∧ t = 3)) (FX7_destroy nm sb d ve vo re ro p1 p2) (FX8_destroy x p1 p2) :=
    fun e1 e2 => ⟨0, _, e1, Or.inl ⟨xIA, 1, e2, Or.inl ⟨rfl, rfl⟩, rfl, gS_thr 1 h⟩⟩
  have bad2 : FX8_destroy x p1 p2 = some (0, MS_setthr x 2) → FX7_destroy nm sb d ve vo re ro p1 p2 = some (.error xIS) → ag2 c nm sb d ve vo re ro x (fun e t => (e = xIA ∧ t = 1) ∨ (e = xIS ∧ t = 2) ∨ (e = xNS ∧ t = 3)) (FX7_destroy nm sb d ve vo re ro p1 p2) (FX8_destroy x p1 p2) :=
    fun e1 e2 => ⟨0, _, e1, Or.inl ⟨xIS, 2, e2, Or.inr (Or.inl ⟨rfl, rfl⟩), rfl, gS_thr 2 h⟩⟩
  have bad3 : FX8_destroy x p1 p2 = some (0, MS_setthr x 3) → FX7_destroy nm sb d ve vo re ro p1 p2 = some (.error xNS) → ag2 c nm sb d ve vo re ro x (fun e t => (e = xIA ∧ t = 1) ∨ (e = xIS ∧ t = 2) ∨ (e = xNS ∧ t = 3)) (FX7_destroy nm sb d ve vo re ro p1 p2) (FX8_destroy x p1 p2) :=
    fun e1 e2 => ⟨0, _, e1, Or.inl ⟨xNS, 3, e2, Or.inr (Or.inr (⟨rfl, rfl⟩)), rfl, gS_thr 3 h⟩⟩
  by_cases h0 : p1 = 0
  · subst h0
    rcases v_busy h.1 with ⟨b1, b2⟩ | ⟨b1, b2⟩
    · have b3 : MS_busy x 0 = 0 := b2
      rcases v_destroy (by omega) h.1 b2 p2 with ⟨s1, s2⟩ | ⟨s1, s2, q, w', x', c1, c2, c3, c4⟩
      · have s2' : FX8_isSnap x 0 p2 = some 0 := s2
        exact bad3 (by simp only [des_eq, isV0, Option.bind_some, i10, if_false, if_true, ald0, b3, s2']) (by simp only [FX7_destroy, find_0, Option.bind_some, i10, if_false, if_true, b1, s1])
      · have s2' : FX8_isSnap x 0 p2 = some 1 := s2
        have c2' : destroyRest (MS_setthr x 0) 0 p2 = some (q, x') := c2
        refine ⟨q, x', ?_, Or.inr ⟨w', vo, ?_, frthr c3, gS_0 h' c3 c4⟩⟩
        · simp only [des_eq, isV0, Option.bind_some, i10, if_false, if_true, ald0, b3, s2', c2']
        · simp only [FX7_destroy, find_0, Option.bind_some, i10, if_false, if_true, b1, s1, c1]
    · have b3 : MS_busy x 0 = 1 := b2
      exact bad2 (by simp only [des_eq, isV0, Option.bind_some, i10, if_false, if_true, ald0, b3]) (by simp only [FX7_destroy, find_0, Option.bind_some, i10, if_false, if_true, b1])
  · by_cases h1 : p1 = 1
    · subst h1
      rcases v_busy h.2.1 with ⟨b1, b2⟩ | ⟨b1, b2⟩
      · have b3 : MS_busy x 1 = 0 := b2
        rcases v_destroy (by omega) h.2.1 b2 p2 with ⟨s1, s2⟩ | ⟨s1, s2, q, w', x', c1, c2, c3, c4⟩
        · have s2' : FX8_isSnap x 1 p2 = some 0 := s2
          exact bad3 (by simp only [des_eq, isV1, Option.bind_some, i10, if_false, if_true, ald1, b3, s2']) (by simp only [FX7_destroy, find_1, Option.bind_some, i10, if_false, if_true, b1, s1])
        · have s2' : FX8_isSnap x 1 p2 = some 1 := s2
          have c2' : destroyRest (MS_setthr x 0) 1 p2 = some (q, x') := c2
          refine ⟨q, x', ?_, Or.inr ⟨ve, w', ?_, frthr c3, gS_1 h' c3 c4⟩⟩
          · simp only [des_eq, isV1, Option.bind_some, i10, if_false, if_true, ald1, b3, s2', c2']
          · simp only [FX7_destroy, find_1, Option.bind_some, i10, if_false, if_true, b1, s1, c1]
      · have b3 : MS_busy x 1 = 1 := b2
        exact bad2 (by simp only [des_eq, isV1, Option.bind_some, i10, if_false, if_true, ald1, b3]) (by simp only [FX7_destroy, find_1, Option.bind_some, i10, if_false, if_true, b1])
    · obtain ⟨f1, f2⟩ := find_n nm h0 h1
      exact bad1 (by simp only [des_eq, f2, Option.bind_some, if_true]) (by simp only [FX7_destroy, f1, Option.bind_some])
theorem ag_rollback {c : Nat} {nm : Int64} {sb : SB} {d : SD} {ve vo : VS} {re ro : RC} {x : MS} (h : gS c nm sb d ve vo re ro x) (p1 : Int32) :
    ag2 c nm sb d ve vo re ro x (fun e t => (e = xIA ∧ t = 1) ∨ (e = xIS ∧ t = 2) ∨ (e = xNS ∧ t = 3)) (FX7_rollback nm sb d ve vo re ro p1) (FX8_rollback x p1) := by
  have h' := gS_thr0 0 h
  have bad1 : FX8_rollback x p1 = some (0, MS_setthr x 1) → FX7_rollback nm sb d ve vo re ro p1 = some (.error xIA) → ag2 c nm sb d ve vo re ro x (fun e t => (e = xIA ∧ t = 1) ∨ (e = xIS ∧ t = 2) ∨ (e = xNS ∧ t = 3)) (FX7_rollback nm sb d ve vo re ro p1) (FX8_rollback x p1) :=
    fun e1 e2 => ⟨0, _, e1, Or.inl ⟨xIA, 1, e2, Or.inl ⟨rfl, rfl⟩, rfl, gS_thr 1 h⟩⟩
  have bad2 : FX8_rollback x p1 = some (0, MS_setthr x 2) → FX7_rollback nm sb d ve vo re ro p1 = some (.error xIS) → ag2 c nm sb d ve vo re ro x (fun e t => (e = xIA ∧ t = 1) ∨ (e = xIS ∧ t = 2) ∨ (e = xNS ∧ t = 3)) (FX7_rollback nm sb d ve vo re ro p1) (FX8_rollback x p1) :=
    fun e1 e2 => ⟨0, _, e1, Or.inl ⟨xIS, 2, e2, Or.inr (Or.inl ⟨rfl, rfl⟩), rfl, gS_thr 2 h⟩⟩
  have bad3 : FX8_rollback x p1 = some (0, MS_setthr x 3) → FX7_rollback nm sb d ve vo re ro p1 = some (.error xNS) → ag2 c nm sb d ve vo re ro x (fun e t => (e = xIA ∧ t = 1) ∨ (e = xIS ∧ t = 2) ∨ (e = xNS ∧ t = 3)) (FX7_rollback nm sb d ve vo re ro p1) (FX8_rollback x p1) :=
    fun e1 e2 => ⟨0, _, e1, Or.inl ⟨xNS, 3, e2, Or.inr (Or.inr (⟨rfl, rfl⟩)), rfl, gS_thr 3 h⟩⟩
  by_cases h0 : p1 = 0
  · subst h0
    rcases v_busy h'.1 with ⟨b1, b2⟩ | ⟨b1, b2⟩
    · have b3 : MS_busy x 0 = 0 := b2
      rcases v_roll (by omega) h'.1 b2 with ⟨q, s1, rfl, s3⟩ | ⟨q, s1, s2, s3, k, w', x', c1, c2, c3, c4⟩
      · have s3' : MS_snaps x 0 = 0 := s3
        exact bad3 (by simp only [roll_eq, isV0, Option.bind_some, i10, if_false, if_true, ald0, b3, s3']) (by simp only [FX7_rollback, find_0, Option.bind_some, i10, if_false, if_true, b1, s1])
      · have s3' : ¬ MS_snaps x 0 = 0 := s3
        have c2' : rollRest (MS_setthr x 0) 0 = some (k, x') := c2
        refine ⟨k, x', ?_, Or.inr ⟨w', vo, ?_, frthr c3, gS_0 h' c3 c4⟩⟩
        · simp only [roll_eq, isV0, Option.bind_some, i10, if_false, if_true, ald0, b3, s3', c2']
        · simp only [FX7_rollback, find_0, Option.bind_some, i10, if_false, if_true, b1, s1, s2, c1]
    · have b3 : MS_busy x 0 = 1 := b2
      exact bad2 (by simp only [roll_eq, isV0, Option.bind_some, i10, if_false, if_true, ald0, b3]) (by simp only [FX7_rollback, find_0, Option.bind_some, i10, if_false, if_true, b1])
  · by_cases h1 : p1 = 1
    · subst h1
      rcases v_busy h'.2.1 with ⟨b1, b2⟩ | ⟨b1, b2⟩
      · have b3 : MS_busy x 1 = 0 := b2
        rcases v_roll (by omega) h'.2.1 b2 with ⟨q, s1, rfl, s3⟩ | ⟨q, s1, s2, s3, k, w', x', c1, c2, c3, c4⟩
        · have s3' : MS_snaps x 1 = 0 := s3
          exact bad3 (by simp only [roll_eq, isV1, Option.bind_some, i10, if_false, if_true, ald1, b3, s3']) (by simp only [FX7_rollback, find_1, Option.bind_some, i10, if_false, if_true, b1, s1])
        · have s3' : ¬ MS_snaps x 1 = 0 := s3
          have c2' : rollRest (MS_setthr x 0) 1 = some (k, x') := c2
          refine ⟨k, x', ?_, Or.inr ⟨ve, w', ?_, frthr c3, gS_1 h' c3 c4⟩⟩
          · simp only [roll_eq, isV1, Option.bind_some, i10, if_false, if_true, ald1, b3, s3', c2']
          · simp only [FX7_rollback, find_1, Option.bind_some, i10, if_false, if_true, b1, s1, s2, c1]
      · have b3 : MS_busy x 1 = 1 := b2
        exact bad2 (by simp only [roll_eq, isV1, Option.bind_some, i10, if_false, if_true, ald1, b3]) (by simp only [FX7_rollback, find_1, Option.bind_some, i10, if_false, if_true, b1])
    · obtain ⟨f1, f2⟩ := find_n nm h0 h1
      exact bad1 (by simp only [roll_eq, f2, Option.bind_some, if_true]) (by simp only [FX7_rollback, f1, Option.bind_some])
theorem ag_crash {c : Nat} {nm : Int64} {sb : SB} {d : SD} {ve vo : VS} {re ro : RC} {x : MS} (h : gS c nm sb d ve vo re ro x) (p1 : Int32) :
    ag2 c nm sb d ve vo re ro x (fun e t => e = xIA ∧ t = 1) (FX7_crash nm sb d ve vo re ro p1) (FX8_crash x p1) := by
  have h' := gS_thr0 0 h
  have bad1 : FX8_crash x p1 = some (0, MS_setthr x 1) → FX7_crash nm sb d ve vo re ro p1 = some (.error xIA) → ag2 c nm sb d ve vo re ro x (fun e t => e = xIA ∧ t = 1) (FX7_crash nm sb d ve vo re ro p1) (FX8_crash x p1) :=
    fun e1 e2 => ⟨0, _, e1, Or.inl ⟨xIA, 1, e2, ⟨rfl, rfl⟩, rfl, gS_thr 1 h⟩⟩
  by_cases h0 : p1 = 0
  · subst h0
    rcases v_busy h'.1 with ⟨b1, b2⟩ | ⟨b1, b2⟩
    · have b3 : MS_busy x 0 = 0 := b2
      obtain ⟨w', c1, c2⟩ := v_crash0 h'.1 b2
      refine ⟨0, MS_setthr x 0, ?_, Or.inr ⟨w', vo, ?_, rfl, gS_0 h' (fr_refl 0 _) c2⟩⟩
      · simp only [FX8_crash, isV0, Option.bind_some, i10, if_false, if_true, ald0, b3]
      · simp only [FX7_crash, find_0, Option.bind_some, i10, if_false, if_true, b1, c1]
        rfl
    · have b3 : MS_busy x 0 = 1 := b2
      obtain ⟨w', x', c1, c2, c3, c4⟩ := v_crash1 (by omega) h'.1
      have c2' : FX8_stops (MS_setthr x 0) 0 = some x' := c2
      refine ⟨1, x', ?_, Or.inr ⟨w', vo, ?_, frthr c3, gS_0 h' c3 c4⟩⟩
      · simp only [FX8_crash, isV0, Option.bind_some, i10, if_false, if_true, ald0, b3, c2']
      · simp only [FX7_crash, find_0, Option.bind_some, i10, if_false, if_true, b1, c1]
        rfl
  · by_cases h1 : p1 = 1
    · subst h1
      rcases v_busy h'.2.1 with ⟨b1, b2⟩ | ⟨b1, b2⟩
      · have b3 : MS_busy x 1 = 0 := b2
        obtain ⟨w', c1, c2⟩ := v_crash0 h'.2.1 b2
        refine ⟨0, MS_setthr x 0, ?_, Or.inr ⟨ve, w', ?_, rfl, gS_1 h' (fr_refl 1 _) c2⟩⟩
        · simp only [FX8_crash, isV1, Option.bind_some, i10, if_false, if_true, ald1, b3]
        · simp only [FX7_crash, find_1, Option.bind_some, i10, if_false, if_true, b1, c1]
          rfl
      · have b3 : MS_busy x 1 = 1 := b2
        obtain ⟨w', x', c1, c2, c3, c4⟩ := v_crash1 (by omega) h'.2.1
        have c2' : FX8_stops (MS_setthr x 0) 1 = some x' := c2
        refine ⟨1, x', ?_, Or.inr ⟨ve, w', ?_, frthr c3, gS_1 h' c3 c4⟩⟩
        · simp only [FX8_crash, isV1, Option.bind_some, i10, if_false, if_true, ald1, b3, c2']
        · simp only [FX7_crash, find_1, Option.bind_some, i10, if_false, if_true, b1, c1]
          rfl
    · obtain ⟨f1, f2⟩ := find_n nm h0 h1
      exact bad1 (by simp only [FX8_crash, f2, Option.bind_some, if_true]) (by simp only [FX7_crash, f1, Option.bind_some])
theorem ag_receive {c : Nat} {nm : Int64} {sb : SB} {d : SD} {ve vo : VS} {re ro : RC} {x : MS} (h : gS c nm sb d ve vo re ro x) (p1 : Int32) :
    ag4 c nm sb d ve vo re ro (fun e t => e = xIA ∧ t = 1) (FX7_receive nm sb d ve vo re ro p1) (FX8_receive x p1) := by
  have h' := gS_thr0 0 h
  have bad1 : FX8_receive x p1 = some (0, MS_setthr x 1) → FX7_receive nm sb d ve vo re ro p1 = some (.error xIA) → ag4 c nm sb d ve vo re ro (fun e t => e = xIA ∧ t = 1) (FX7_receive nm sb d ve vo re ro p1) (FX8_receive x p1) :=
    fun e1 e2 => ⟨0, _, e1, Or.inl ⟨xIA, 1, e2, ⟨rfl, rfl⟩, rfl, gS_thr 1 h⟩⟩
  by_cases h0 : p1 = 0
  · subst h0
    obtain ⟨L, hs⟩ := h.2.2.1
    obtain ⟨code, r', w', x', c1, c2, c3, c4⟩ := v_receive (by omega) h.1 hs
    have c2' : FX8_receive x 0 = some (code, x') := c2
    refine ⟨code, x', c2', Or.inr ⟨w', vo, r', ro, ?_, frthr c3, gS_0 h' c3 c4⟩⟩
    simp only [FX7_receive, find_0, FX7_receivingOf, Option.bind_some, i10, if_false, if_true, c1]
  · by_cases h1 : p1 = 1
    · subst h1
      obtain ⟨L, hs⟩ := h.2.2.1
      obtain ⟨code, r', w', x', c1, c2, c3, c4⟩ := v_receive (by omega) h.2.1 hs
      have c2' : FX8_receive x 1 = some (code, x') := c2
      refine ⟨code, x', c2', Or.inr ⟨ve, w', re, r', ?_, frthr c3, gS_1 h' c3 c4⟩⟩
      simp only [FX7_receive, find_1, FX7_receivingOf, Option.bind_some, i10, if_false, if_true, c1]
    · obtain ⟨f1, f2⟩ := find_n nm h0 h1
      exact bad1 (by simp only [rcv_eq, f2, Option.bind_some, if_true]) (by simp only [FX7_receive, f1, Option.bind_some])
theorem ag_step {c : Nat} {nm : Int64} {sb : SB} {d : SD} {ve vo : VS} {re ro : RC} {x : MS} (h : gS c nm sb d ve vo re ro x) (hc : c ≤ 1000) (p1 p2 : Int32) :
    ag4 c nm sb d ve vo re ro (fun e t => (e = xIA ∧ t = 1) ∨ (e = xIS ∧ t = 2)) (FX7_step nm sb d ve vo re ro p1 p2) (FX8_step x p1 p2) := by
  have h' := gS_thr0 0 h
  have bad1 : FX8_step x p1 p2 = some (0, MS_setthr x 1) → FX7_step nm sb d ve vo re ro p1 p2 = some (.error xIA) → ag4 c nm sb d ve vo re ro (fun e t => (e = xIA ∧ t = 1) ∨ (e = xIS ∧ t = 2)) (FX7_step nm sb d ve vo re ro p1 p2) (FX8_step x p1 p2) :=
    fun e1 e2 => ⟨0, _, e1, Or.inl ⟨xIA, 1, e2, Or.inl ⟨rfl, rfl⟩, rfl, gS_thr 1 h⟩⟩
  have bad2 : FX8_step x p1 p2 = some (0, MS_setthr x 2) → FX7_step nm sb d ve vo re ro p1 p2 = some (.error xIS) → ag4 c nm sb d ve vo re ro (fun e t => (e = xIA ∧ t = 1) ∨ (e = xIS ∧ t = 2)) (FX7_step nm sb d ve vo re ro p1 p2) (FX8_step x p1 p2) :=
    fun e1 e2 => ⟨0, _, e1, Or.inl ⟨xIS, 2, e2, Or.inr (⟨rfl, rfl⟩), rfl, gS_thr 2 h⟩⟩
  by_cases h0 : p1 = 0
  · subst h0
    obtain ⟨L, hs⟩ := h'.2.2.1
    by_cases hn : 1 ≤ p2
    · obtain ⟨j, hj, rfl⟩ : ∃ j : Nat, j < 2 ^ 31 ∧ p2 = nI j := nI_of (fun z => by
        rw [Int32.lt_iff_toInt_lt] at z
        rw [Int32.le_iff_toInt_le] at hn
        have e1 : (1 : Int32).toInt = 1 := by decide
        have e2 : (0 : Int32).toInt = 0 := by decide
        omega)
      rcases v_busy h'.1 with ⟨b1, b2⟩ | ⟨b1, b2⟩
      · have b3 : MS_busy x 0 = 0 := b2
        exact bad2 (by simp only [FX8_step, isV0, Option.bind_some, i10, if_false, if_true, ald0, b3, hn]) (by simp only [FX7_step, find_0, Option.bind_some, i10, if_false, if_true, b1, hn])
      · have b3 : MS_busy x 0 = 1 := b2
        obtain ⟨code, r', w', x', c1, c2, c3, c4⟩ := v_step (by omega) h'.1 (lt20 hc) hs hj b2
        have c2' : FX8_step_L49 0 (nI j) (fun xq13 w3_13 _ => some (w3_13, xq13)) 100000 (MS_setthr x 0) 7 0 = some (code, x') := c2
        refine ⟨code, x', ?_, Or.inr ⟨w', vo, r', ro, ?_, frthr c3, gS_0 h' c3 c4⟩⟩
        · simp only [FX8_step, isV0, Option.bind_some, i10, if_false, if_true, ald0, b3, hn, c2']
        · simp only [FX7_step, find_0, FX7_receivingOf, Option.bind_some, i10, if_false, if_true, b1, hn, c1]
    · exact bad1 (by simp only [FX8_step, isV0, Option.bind_some, i10, if_false, if_true, hn]) (by simp only [FX7_step, find_0, Option.bind_some, i10, if_false, if_true, hn])
  · by_cases h1 : p1 = 1
    · subst h1
      obtain ⟨L, hs⟩ := h'.2.2.1
      by_cases hn : 1 ≤ p2
      · obtain ⟨j, hj, rfl⟩ : ∃ j : Nat, j < 2 ^ 31 ∧ p2 = nI j := nI_of (fun z => by
          rw [Int32.lt_iff_toInt_lt] at z
          rw [Int32.le_iff_toInt_le] at hn
          have e1 : (1 : Int32).toInt = 1 := by decide
          have e2 : (0 : Int32).toInt = 0 := by decide
          omega)
        rcases v_busy h'.2.1 with ⟨b1, b2⟩ | ⟨b1, b2⟩
        · have b3 : MS_busy x 1 = 0 := b2
          exact bad2 (by simp only [FX8_step, isV1, Option.bind_some, i10, if_false, if_true, ald1, b3, hn]) (by simp only [FX7_step, find_1, Option.bind_some, i10, if_false, if_true, b1, hn])
        · have b3 : MS_busy x 1 = 1 := b2
          obtain ⟨code, r', w', x', c1, c2, c3, c4⟩ := v_step (by omega) h'.2.1 (lt20 hc) hs hj b2
          have c2' : FX8_step_L49 1 (nI j) (fun xq13 w3_13 _ => some (w3_13, xq13)) 100000 (MS_setthr x 0) 7 0 = some (code, x') := c2
          refine ⟨code, x', ?_, Or.inr ⟨ve, w', re, r', ?_, frthr c3, gS_1 h' c3 c4⟩⟩
          · simp only [FX8_step, isV1, Option.bind_some, i10, if_false, if_true, ald1, b3, hn, c2']
          · simp only [FX7_step, find_1, FX7_receivingOf, Option.bind_some, i10, if_false, if_true, b1, hn, c1]
      · exact bad1 (by simp only [FX8_step, isV1, Option.bind_some, i10, if_false, if_true, hn]) (by simp only [FX7_step, find_1, Option.bind_some, i10, if_false, if_true, hn])
    · obtain ⟨f1, f2⟩ := find_n nm h0 h1
      exact bad1 (by simp only [FX8_step, f2, Option.bind_some, if_true]) (by simp only [FX7_step, f1, Option.bind_some])
theorem ag_format {c : Nat} {nm : Int64} {sb : SB} {d : SD} {ve vo : VS} {re ro : RC} {x : MS} (h : gS c nm sb d ve vo re ro x) (p1 p2 : Int32) :
    agF c nm sb d ve vo re ro (fun e t => e = xIA ∧ t = 1) (FX7_format nm sb d ve vo re ro p1 p2) (FX8_format x p1 p2) := by
  have h' := gS_thr0 0 h
  have bad1 : FX8_format x p1 p2 = some (MS_setthr x 1) → FX7_format nm sb d ve vo re ro p1 p2 = some (.error xIA) → agF c nm sb d ve vo re ro (fun e t => e = xIA ∧ t = 1) (FX7_format nm sb d ve vo re ro p1 p2) (FX8_format x p1 p2) :=
    fun e1 e2 => ⟨_, e1, Or.inl ⟨xIA, 1, e2, ⟨rfl, rfl⟩, rfl, gS_thr 1 h⟩⟩
  by_cases h0 : p1 = 0
  · subst h0
    by_cases h4 : p2 < 4
    · exact bad1 (by simp only [FX8_format, isV0, Option.bind_some, i10, if_false, if_true, h4]) (by simp only [FX7_format, find_0, Option.bind_some, i10, if_false, if_true, h4])
    · by_cases h6 : p2 ≤ 600
      · obtain ⟨N, hN, rfl⟩ : ∃ N : Nat, N ≤ 600 ∧ p2 = nI N := nI_of2 (M := 600) (by decide) (fun z => h4 (by
          rw [Int32.lt_iff_toInt_lt] at z ⊢
          have e1 : (4 : Int32).toInt = 4 := by decide
          have e2 : (0 : Int32).toInt = 0 := by decide
          omega)) h6
        obtain ⟨w', y, c1, c2, c3, c4⟩ := v_format (c := c) (v := 0) ve re (MS_setthr x 0) (by omega) hN
        have c2' : FX8_fresh (MS_setthr x 0) 0 (nI N) = some y := c2
        obtain ⟨r', hr'⟩ : ∃ r', r' = RC_setrec re 0 := ⟨_, rfl⟩
        rw [← hr'] at c4
        refine ⟨y, ?_, Or.inr ⟨w', vo, r', ro, ?_, frthr c3, gS_0 h' c3 c4⟩⟩
        · simp only [FX8_format, isV0, Option.bind_some, i10, if_false, if_true, h4, h6, c2']
        · rw [hr']
          simp only [FX7_format, find_0, FX7_receivingOf, FX3_forget, Option.bind_some, i10, if_false, if_true, h4, h6, c1]
      · exact bad1 (by simp only [FX8_format, isV0, Option.bind_some, i10, if_false, if_true, h4, h6]) (by simp only [FX7_format, find_0, Option.bind_some, i10, if_false, if_true, h4, h6])
  · by_cases h1 : p1 = 1
    · subst h1
      by_cases h4 : p2 < 4
      · exact bad1 (by simp only [FX8_format, isV1, Option.bind_some, i10, if_false, if_true, h4]) (by simp only [FX7_format, find_1, Option.bind_some, i10, if_false, if_true, h4])
      · by_cases h6 : p2 ≤ 600
        · obtain ⟨N, hN, rfl⟩ : ∃ N : Nat, N ≤ 600 ∧ p2 = nI N := nI_of2 (M := 600) (by decide) (fun z => h4 (by
            rw [Int32.lt_iff_toInt_lt] at z ⊢
            have e1 : (4 : Int32).toInt = 4 := by decide
            have e2 : (0 : Int32).toInt = 0 := by decide
            omega)) h6
          obtain ⟨w', y, c1, c2, c3, c4⟩ := v_format (c := c) (v := 1) vo ro (MS_setthr x 0) (by omega) hN
          have c2' : FX8_fresh (MS_setthr x 0) 1 (nI N) = some y := c2
          obtain ⟨r', hr'⟩ : ∃ r', r' = RC_setrec ro 0 := ⟨_, rfl⟩
          rw [← hr'] at c4
          refine ⟨y, ?_, Or.inr ⟨ve, w', re, r', ?_, frthr c3, gS_1 h' c3 c4⟩⟩
          · simp only [FX8_format, isV1, Option.bind_some, i10, if_false, if_true, h4, h6, c2']
          · rw [hr']
            simp only [FX7_format, find_1, FX7_receivingOf, FX3_forget, Option.bind_some, i10, if_false, if_true, h4, h6, c1]
        · exact bad1 (by simp only [FX8_format, isV1, Option.bind_some, i10, if_false, if_true, h4, h6]) (by simp only [FX7_format, find_1, Option.bind_some, i10, if_false, if_true, h4, h6])
    · obtain ⟨f1, f2⟩ := find_n nm h0 h1
      exact bad1 (by simp only [FX8_format, f2, Option.bind_some, if_true]) (by simp only [FX7_format, f1, Option.bind_some])
theorem ag_send {c : Nat} {nm : Int64} {sb : SB} {d : SD} {ve vo : VS} {re ro : RC} {x : MS} (h : gS c nm sb d ve vo re ro x) (p1 p2 p3 : Int32) :
    agD c nm sb d ve vo re ro (fun e t => (e = xIA ∧ t = 1) ∨ (e = xNS ∧ t = 2) ∨ (e = xIS ∧ t = 3)) (FX7_send nm sb d ve vo re ro p1 p2 p3) (FX8_send x p1 p2 p3) := by
  have h' := gS_thr0 0 h
  have bad1 : FX8_send x p1 p2 p3 = some (0, MS_setthr x 1) → FX7_send nm sb d ve vo re ro p1 p2 p3 = some (.error xIA) → agD c nm sb d ve vo re ro (fun e t => (e = xIA ∧ t = 1) ∨ (e = xNS ∧ t = 2) ∨ (e = xIS ∧ t = 3)) (FX7_send nm sb d ve vo re ro p1 p2 p3) (FX8_send x p1 p2 p3) :=
    fun e1 e2 => ⟨0, _, e1, Or.inl ⟨xIA, 1, e2, Or.inl ⟨rfl, rfl⟩, rfl, gS_thr 1 h⟩⟩
  have bad2 : FX8_send x p1 p2 p3 = some (0, MS_setthr x 2) → FX7_send nm sb d ve vo re ro p1 p2 p3 = some (.error xNS) → agD c nm sb d ve vo re ro (fun e t => (e = xIA ∧ t = 1) ∨ (e = xNS ∧ t = 2) ∨ (e = xIS ∧ t = 3)) (FX7_send nm sb d ve vo re ro p1 p2 p3) (FX8_send x p1 p2 p3) :=
    fun e1 e2 => ⟨0, _, e1, Or.inl ⟨xNS, 2, e2, Or.inr (Or.inl ⟨rfl, rfl⟩), rfl, gS_thr 2 h⟩⟩
  have bad3 : FX8_send x p1 p2 p3 = some (0, MS_setthr x 3) → FX7_send nm sb d ve vo re ro p1 p2 p3 = some (.error xIS) → agD c nm sb d ve vo re ro (fun e t => (e = xIA ∧ t = 1) ∨ (e = xNS ∧ t = 2) ∨ (e = xIS ∧ t = 3)) (FX7_send nm sb d ve vo re ro p1 p2 p3) (FX8_send x p1 p2 p3) :=
    fun e1 e2 => ⟨0, _, e1, Or.inl ⟨xIS, 3, e2, Or.inr (Or.inr (⟨rfl, rfl⟩)), rfl, gS_thr 3 h⟩⟩
  by_cases h0 : p1 = 0
  · subst h0
    obtain ⟨L, hs⟩ := h'.2.2.1
    rcases v_send d (by omega) h'.1 hs p3 with ⟨s1, s2⟩ | ⟨s1, s2, hN, hB⟩
    · have s2' : FX8_isSnap x 0 p3 = some 0 := s2
      exact bad2 (by simp only [send_eq, isV0, Option.bind_some, i10, if_false, if_true, s2']) (by simp only [FX7_send, find_0, Option.bind_some, i10, if_false, if_true, s1])
    · have s2' : FX8_isSnap x 0 p3 = some 1 := s2
      have hp3 := has_pos s1
      have fin : ∀ {sb' : SB} {d' : SD} {x' : MS} {L' : Nat}, strR sb' x' L' → fS (MS_setthr x 0) x' → SD_wr d' = MS_wr x' → SD_cl d' = MS_cl x' → SD_sn d' = MS_sn x' → gS (c + 1) nm sb' d' ve vo re ro x' :=
        fun q1 q2 q3 q4 q5 => ⟨vS_same h'.1 (fS_V q2 0), vS_same h'.2.1 (fS_V q2 1), ⟨_, q1⟩, q3, q4, q5, by rw [q2.2.2.2.2.2.2.2.2.2.2.2.2.2.2.2.2]; exact h.2.2.2.2.2.2⟩
      by_cases hk : p2 = -1
      · subst hk
        obtain ⟨d', sb', x', L', c1, c2, c3, c4, c5, c6, c7⟩ := hN
        have c2' : sendN (MS_setthr x 0) 0 (-1) p3 = some (SB_len sb', x') := c2
        have hlt := m1_lt hp3
        refine ⟨SB_len sb', x', ?_, Or.inr ⟨sb', d', ?_, c4.1, fin c3 c4 c5 c6 c7⟩⟩
        · simp only [send_eq, isV0, Option.bind_some, i10, if_false, if_true, s2', hlt, show ¬ ((-1 : Int32) < -1) by decide, c2']
        · simp only [FX7_send, find_0, Option.bind_some, i10, if_false, if_true, s1, c1, FX5_length]
      · have hl := lt_m1 hk
        by_cases hn : p2 < 0
        · have hn' := hl.mpr hn
          exact bad3 (by simp only [send_eq, isV0, Option.bind_some, i10, if_false, if_true, s2', hn']) (by simp only [FX7_send, find_0, Option.bind_some, i10, if_false, if_true, s1, hk, hn])
        · have hn' : ¬ p2 < -1 := fun z => hn (hl.mp z)
          by_cases hb : p2 < p3
          · obtain ⟨d', sb', x', L', g0, c0, c1, c2, c3, c4, c5, c6, c7⟩ := hB p2 hn hb
            have c0' : ald 40 (MS_sg x) ((20 * 0) + p2) = some g0 := c0
            have c2' : sendB (MS_setthr x 0) 0 p2 p3 g0 = some (SB_len sb', x') := c2
            refine ⟨SB_len sb', x', ?_, Or.inr ⟨sb', d', ?_, c4.1, fin c3 c4 c5 c6 c7⟩⟩
            · simp only [send_eq, isV0, Option.bind_some, i10, if_false, if_true, s2', hn', hb, hk, c0', c2']
            · simp only [FX7_send, find_0, Option.bind_some, i10, if_false, if_true, s1, hk, hn, hb, c1, FX5_length]
          · exact bad3 (by simp only [send_eq, isV0, Option.bind_some, i10, if_false, if_true, s2', hn', hb]) (by simp only [FX7_send, find_0, Option.bind_some, i10, if_false, if_true, s1, hk, hn, hb])
  · by_cases h1 : p1 = 1
    · subst h1
      obtain ⟨L, hs⟩ := h'.2.2.1
      rcases v_send d (by omega) h'.2.1 hs p3 with ⟨s1, s2⟩ | ⟨s1, s2, hN, hB⟩
      · have s2' : FX8_isSnap x 1 p3 = some 0 := s2
        exact bad2 (by simp only [send_eq, isV1, Option.bind_some, i10, if_false, if_true, s2']) (by simp only [FX7_send, find_1, Option.bind_some, i10, if_false, if_true, s1])
      · have s2' : FX8_isSnap x 1 p3 = some 1 := s2
        have hp3 := has_pos s1
        have fin : ∀ {sb' : SB} {d' : SD} {x' : MS} {L' : Nat}, strR sb' x' L' → fS (MS_setthr x 0) x' → SD_wr d' = MS_wr x' → SD_cl d' = MS_cl x' → SD_sn d' = MS_sn x' → gS (c + 1) nm sb' d' ve vo re ro x' :=
          fun q1 q2 q3 q4 q5 => ⟨vS_same h'.1 (fS_V q2 0), vS_same h'.2.1 (fS_V q2 1), ⟨_, q1⟩, q3, q4, q5, by rw [q2.2.2.2.2.2.2.2.2.2.2.2.2.2.2.2.2]; exact h.2.2.2.2.2.2⟩
        by_cases hk : p2 = -1
        · subst hk
          obtain ⟨d', sb', x', L', c1, c2, c3, c4, c5, c6, c7⟩ := hN
          have c2' : sendN (MS_setthr x 0) 1 (-1) p3 = some (SB_len sb', x') := c2
          have hlt := m1_lt hp3
          refine ⟨SB_len sb', x', ?_, Or.inr ⟨sb', d', ?_, c4.1, fin c3 c4 c5 c6 c7⟩⟩
          · simp only [send_eq, isV1, Option.bind_some, i10, if_false, if_true, s2', hlt, show ¬ ((-1 : Int32) < -1) by decide, c2']
          · simp only [FX7_send, find_1, Option.bind_some, i10, if_false, if_true, s1, c1, FX5_length]
        · have hl := lt_m1 hk
          by_cases hn : p2 < 0
          · have hn' := hl.mpr hn
            exact bad3 (by simp only [send_eq, isV1, Option.bind_some, i10, if_false, if_true, s2', hn']) (by simp only [FX7_send, find_1, Option.bind_some, i10, if_false, if_true, s1, hk, hn])
          · have hn' : ¬ p2 < -1 := fun z => hn (hl.mp z)
            by_cases hb : p2 < p3
            · obtain ⟨d', sb', x', L', g0, c0, c1, c2, c3, c4, c5, c6, c7⟩ := hB p2 hn hb
              have c0' : ald 40 (MS_sg x) ((20 * 1) + p2) = some g0 := c0
              have c2' : sendB (MS_setthr x 0) 1 p2 p3 g0 = some (SB_len sb', x') := c2
              refine ⟨SB_len sb', x', ?_, Or.inr ⟨sb', d', ?_, c4.1, fin c3 c4 c5 c6 c7⟩⟩
              · simp only [send_eq, isV1, Option.bind_some, i10, if_false, if_true, s2', hn', hb, hk, c0', c2']
              · simp only [FX7_send, find_1, Option.bind_some, i10, if_false, if_true, s1, hk, hn, hb, c1, FX5_length]
            · exact bad3 (by simp only [send_eq, isV1, Option.bind_some, i10, if_false, if_true, s2', hn', hb]) (by simp only [FX7_send, find_1, Option.bind_some, i10, if_false, if_true, s1, hk, hn, hb])
    · obtain ⟨f1, f2⟩ := find_n nm h0 h1
      exact bad1 (by simp only [send_eq, f2, Option.bind_some, if_true]) (by simp only [FX7_send, f1, Option.bind_some])
