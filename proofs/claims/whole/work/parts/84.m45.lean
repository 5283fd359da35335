/-! PART 84: looks; printed by wip/whole/gen_looks.py -/
def lkBlock (b : BS) (k p3 : Int32) : Option Int32 := (FX0_has b k).bind fun r5 => if r5 = 0 then some (-1) else clsBlock b k p3
theorem blk_7_0 (nm : Int64) (sb : SB) (d : SD) (ve vo : VS) (re ro : RC) (p2 p3 : Int32) : FX7_block nm sb d ve vo re ro 0 p2 p3 = lkBlock (VS_b ve) p2 p3 := rfl
theorem blk_7_1 (nm : Int64) (sb : SB) (d : SD) (ve vo : VS) (re ro : RC) (p2 p3 : Int32) : FX7_block nm sb d ve vo re ro 1 p2 p3 = lkBlock (VS_b vo) p2 p3 := rfl
theorem blk_8 (x0 : MS) (p1 p2 p3 : Int32) : FX8_block x0 p1 p2 p3 = (FX8_isBlock (MS_setthr x0 0) p1 p2).bind fun r1 => if r1 = 0 then some ((-1), (MS_setthr x0 0)) else refBlock (MS_setthr x0 0) p1 p2 p3 := rfl
def lkPtr (b : BS) (k p3 p4 : Int32) : Option Int32 := (FX0_has b k).bind fun r5 => if r5 = 0 then some (-1) else clsPtr b k p3 p4
theorem ptr_7_0 (nm : Int64) (sb : SB) (d : SD) (ve vo : VS) (re ro : RC) (p2 p3 p4 : Int32) : FX7_pointer nm sb d ve vo re ro 0 p2 p3 p4 = lkPtr (VS_b ve) p2 p3 p4 := rfl
theorem ptr_7_1 (nm : Int64) (sb : SB) (d : SD) (ve vo : VS) (re ro : RC) (p2 p3 p4 : Int32) : FX7_pointer nm sb d ve vo re ro 1 p2 p3 p4 = lkPtr (VS_b vo) p2 p3 p4 := rfl
theorem ptr_8 (x0 : MS) (p1 p2 p3 p4 : Int32) : FX8_pointer x0 p1 p2 p3 p4 = (FX8_isBlock (MS_setthr x0 0) p1 p2).bind fun r1 => if r1 = 0 then some ((-1), (MS_setthr x0 0)) else refPtr (MS_setthr x0 0) p1 p2 p3 p4 := rfl
def lkData (b : BS) (k : Int32) : Option Int64 := (FX0_has b k).bind fun r5 => if r5 = 0 then some 0 else clsData b k
theorem data_7_0 (nm : Int64) (sb : SB) (d : SD) (ve vo : VS) (re ro : RC) (p2 : Int32) : FX7_data nm sb d ve vo re ro 0 p2 = lkData (VS_b ve) p2 := rfl
theorem data_7_1 (nm : Int64) (sb : SB) (d : SD) (ve vo : VS) (re ro : RC) (p2 : Int32) : FX7_data nm sb d ve vo re ro 1 p2 = lkData (VS_b vo) p2 := rfl
theorem data_8 (x0 : MS) (p1 p2 : Int32) : FX8_data x0 p1 p2 = (FX8_isBlock (MS_setthr x0 0) p1 p2).bind fun r1 => if r1 = 0 then some (0, (MS_setthr x0 0)) else refData (MS_setthr x0 0) p1 p2 := rfl
theorem isB_n (x : MS) {p b : Int32} (h0 : ¬ p = 0) (h1 : ¬ p = 1) : FX8_isBlock x p b = some 0 := by
  unfold FX8_isBlock
  rw [show FX8_isVolume p = some 0 from (find_n 0 h0 h1).2, Option.bind_some, if_pos rfl]
theorem v_blk {v c : Nat} {w : VS} {r : RC} {X : MS} (hv : v < 2) (h : vS v c w r X) (b p3 : Int32) : ∃ q, lkBlock (VS_b w) b p3 = some q ∧ ((FX8_isBlock X (nI v) b).bind fun r1 => if r1 = 0 then some ((-1), X) else refBlock X (nI v) b p3) = some (q, X) := by
  obtain ⟨N, bz, sn, g, lev, T, B, a1, a2, a3, a4, a5⟩ := h
  unfold lkBlock
  rcases has_b hv a1 b with ⟨e1, e2⟩ | ⟨k, hk, rfl, e1, e2⟩
  · exact ⟨-1, by rw [e1, Option.bind_some, if_pos rfl], by rw [e2, Option.bind_some, if_pos rfl]⟩
  · obtain ⟨q, q1, q2⟩ := vol_block hv a1 a2 hk p3
    exact ⟨q, by rw [e1, Option.bind_some, if_neg (by decide), q1], by rw [e2, Option.bind_some, if_neg (by decide), q2]⟩
theorem v_ptr {v c : Nat} {w : VS} {r : RC} {X : MS} (hv : v < 2) (h : vS v c w r X) (b p3 p4 : Int32) : ∃ q, lkPtr (VS_b w) b p3 p4 = some q ∧ ((FX8_isBlock X (nI v) b).bind fun r1 => if r1 = 0 then some ((-1), X) else refPtr X (nI v) b p3 p4) = some (q, X) := by
  obtain ⟨N, bz, sn, g, lev, T, B, a1, a2, a3, a4, a5⟩ := h
  unfold lkPtr
  rcases has_b hv a1 b with ⟨e1, e2⟩ | ⟨k, hk, rfl, e1, e2⟩
  · exact ⟨-1, by rw [e1, Option.bind_some, if_pos rfl], by rw [e2, Option.bind_some, if_pos rfl]⟩
  · obtain ⟨q, q1, q2⟩ := vol_ptr hv a1 hk p3 p4
    exact ⟨q, by rw [e1, Option.bind_some, if_neg (by decide), q1], by rw [e2, Option.bind_some, if_neg (by decide), q2]⟩
theorem v_data {v c : Nat} {w : VS} {r : RC} {X : MS} (hv : v < 2) (h : vS v c w r X) (b : Int32) : ∃ q, lkData (VS_b w) b = some q ∧ ((FX8_isBlock X (nI v) b).bind fun r1 => if r1 = 0 then some (0, X) else refData X (nI v) b) = some (q, X) := by
  obtain ⟨N, bz, sn, g, lev, T, B, a1, a2, a3, a4, a5⟩ := h
  unfold lkData
  rcases has_b hv a1 b with ⟨e1, e2⟩ | ⟨k, hk, rfl, e1, e2⟩
  · exact ⟨0, by rw [e1, Option.bind_some, if_pos rfl], by rw [e2, Option.bind_some, if_pos rfl]⟩
  · obtain ⟨q, q1, q2⟩ := vol_data hv a1 hk
    exact ⟨q, by rw [e1, Option.bind_some, if_neg (by decide), q1], by rw [e2, Option.bind_some, if_neg (by decide), q2]⟩
def lkSnap (w : VS) (p2 p3 : Int32) : Option Int64 :=
    (FX6_hasSnapshot w p2).bind fun r3 =>
    if r3 = 0 then
      some (-1)
    else
      if p3 = 0 then
        (FX6_markOf w p2).bind fun r7 =>
        some r7
      else
        if p3 = 1 then
          (FX6_generationOf w p2).bind fun r10 =>
          some ((r10 : Int32).toInt64)
        else
          if p3 = 2 then
            (FX0_told (VS_b w) (4802 + p2)).bind fun r15 =>
            some ((r15 : Int32).toInt64)
          else
            if p3 = 3 then
              (FX0_birth (VS_b w) (4802 + p2)).bind fun r20 =>
              some ((r20 : Int32).toInt64)
            else
              some (-1)
theorem snap_7_0 (nm : Int64) (sb : SB) (d : SD) (ve vo : VS) (re ro : RC) (p2 p3 : Int32) : FX7_snap nm sb d ve vo re ro 0 p2 p3 = lkSnap ve p2 p3 := rfl
theorem snap_7_1 (nm : Int64) (sb : SB) (d : SD) (ve vo : VS) (re ro : RC) (p2 p3 : Int32) : FX7_snap nm sb d ve vo re ro 1 p2 p3 = lkSnap vo p2 p3 := rfl
theorem v_snapl {v c : Nat} {w : VS} {r : RC} {x : MS} (hv : v < 2) (h : vS v c w r (MS_setthr x 0)) (p2 p3 : Int32) : ∃ q, lkSnap w p2 p3 = some q ∧ FX8_snap x (nI v) p2 p3 = some (q, MS_setthr x 0) := by
  obtain ⟨N, bz, sn, g, lev, T, B, a1, a2, a3, a4, a5⟩ := h
  unfold lkSnap FX8_snap
  rw [isVol hv, Option.bind_some, if_neg (show ¬ (1 : Int32) = 0 by decide)]
  rcases has_any hv a1 p2 with ⟨e1, e2⟩ | ⟨m, hm, rfl, e1, e2⟩
  · rw [e1, e2, Option.bind_some, Option.bind_some, if_pos rfl, if_pos rfl]
    exact ⟨_, rfl, rfl⟩
  · obtain ⟨b1, b2, b3, b4, c1, c2, c3, c4, c5, c6, c7, c8⟩ := vol_snapk hv a1 hm
    have c2' : ald 40 (MS_sm x) ((20 * nI v) + nI m) = some b1 := c2
    have c4' : ald 40 (MS_sg x) ((20 * nI v) + nI m) = some b2 := c4
    have c6' : ald 44 (MS_tt x) (((22 * nI v) + 2) + nI m) = some b3 := c6
    have c8' : ald 44 (MS_tb x) (((22 * nI v) + 2) + nI m) = some b4 := c8
    rw [e1, e2, Option.bind_some, Option.bind_some, if_neg (show ¬ (1 : Int32) = 0 by decide), if_neg (show ¬ (1 : Int32) = 0 by decide), c1, c2', c3, c4', c5, c6', c7, c8', Option.bind_some, Option.bind_some, Option.bind_some, Option.bind_some, Option.bind_some, Option.bind_some, Option.bind_some, Option.bind_some]
    by_cases h0 : p3 = 0
    · rw [if_pos h0, if_pos h0]; exact ⟨_, rfl, rfl⟩
    · rw [if_neg h0, if_neg h0]
      by_cases h1 : p3 = 1
      · rw [if_pos h1, if_pos h1]; exact ⟨_, rfl, rfl⟩
      · rw [if_neg h1, if_neg h1]
        by_cases h2 : p3 = 2
        · rw [if_pos h2, if_pos h2]; exact ⟨_, rfl, rfl⟩
        · rw [if_neg h2, if_neg h2]
          by_cases h3 : p3 = 3
          · rw [if_pos h3, if_pos h3]; exact ⟨_, rfl, rfl⟩
          · rw [if_neg h3, if_neg h3]; exact ⟨_, rfl, rfl⟩
def lkLook (w : VS) (r : RC) (p2 : Int32) : Option Int32 :=
    if p2 = 0 then
      (FX0_count (VS_b w)).bind fun r6 =>
      some r6
    else
      if p2 = 1 then
        (FX0_free (VS_b w)).bind fun r11 =>
        some r11
      else
        if p2 = 2 then
          (FX6_generation w).bind fun r14 =>
          some r14
        else
          if p2 = 3 then
            (FX6_snapshots w).bind fun r17 =>
            some r17
          else
            if p2 = 4 then
              (FX6_isBusy w).bind fun r20 =>
              if r20 = 0 then
                some 0
              else
                some 1
            else
              if p2 = 5 then
                (FX0_told (VS_b w) 4800).bind fun r26 =>
                some r26
              else
                if p2 = 6 then
                  (FX0_birth (VS_b w) 4800).bind fun r31 =>
                  some r31
                else
                  if p2 = 7 then
                    (FX0_told (VS_b w) 4801).bind fun r36 =>
                    some r36
                  else
                    if p2 = 8 then
                        (FX3_received r).bind fun r41 =>
                        some r41
                    else
                      some (-1)
theorem look_7_0 (nm : Int64) (sb : SB) (d : SD) (ve vo : VS) (re ro : RC) (p2 : Int32) : FX7_look nm sb d ve vo re ro 0 p2 = lkLook ve re p2 := rfl
theorem look_7_1 (nm : Int64) (sb : SB) (d : SD) (ve vo : VS) (re ro : RC) (p2 : Int32) : FX7_look nm sb d ve vo re ro 1 p2 = lkLook vo ro p2 := rfl
theorem v_look {v c : Nat} {w : VS} {r : RC} {x : MS} (hv : v < 2) (h : vS v c w r (MS_setthr x 0)) (p2 : Int32) : ∃ q y, lkLook w r p2 = some q ∧ FX8_look x (nI v) p2 = some (q, y) ∧ fr v (MS_setthr x 0) y ∧ vS v (c + 1) w r y := by
  obtain ⟨N, bz, sn, g, lev, T, B, a1, a2, a3, a4, a5⟩ := h
  obtain ⟨y, b1, b2, b3, b4⟩ := vol_begins hv a1
  have hvy := vS_mF b4 b2 a2 (show g ≤ c + 1 by omega) a4 a5
  obtain ⟨k1, k2, k3, k4⟩ := fr_frec b4
  obtain ⟨t1, t2, t3, u1, u2, u3, u4, u5, u6, u7⟩ := vol_lh hv b2
  have hcnt := b2.1.1
  have hmany := b2.2.2.2.2.2.1
  have hfr := b2.1.2.2.2.2.2.2.2.2.2.1
  have hfm := m8_freeMany hv hmany b2.1.2.1 b3
  obtain ⟨hg1, hg2, -⟩ := b2.2.2.2.2.1
  obtain ⟨hs1, hs2, -⟩ := b2.2.2.2.2.2.2.2.1
  have hbusy := busy_c b2
  obtain ⟨hz1, hz2, hz3⟩ := b2.2.2.2.2.2.2.1
  have hrec : RC_rec r = MS_rec y v := by rw [k2]; exact a4
  have key : ∃ q, lkLook w r p2 = some q ∧ FX8_look x (nI v) p2 = some (q, y) := by
    unfold lkLook FX8_look FX0_count FX0_free FX6_generation FX6_snapshots FX3_received
    rw [isVol hv]
    simp only [Option.bind_some, i10, if_false]
    rw [b1]
    simp only [Option.bind_some]
    rw [hfm, m_ald _ hv (by omega), m_ald _ hv (by omega), m_ald _ hv (by omega), m_ald _ hv (by omega), m_ald _ hv (by omega), hcnt, hmany, hfr, hg1, hg2, hs1, hs2, hbusy, hz2, u1, u2, u3, u4, u5, hrec]
    simp only [Option.bind_some]
    by_cases c0 : p2 = 0
    · rw [if_pos c0, if_pos c0]; exact ⟨_, rfl, rfl⟩
    rw [if_neg c0, if_neg c0]
    by_cases c1 : p2 = 1
    · rw [if_pos c1, if_pos c1]; exact ⟨_, rfl, rfl⟩
    rw [if_neg c1, if_neg c1]
    by_cases c2 : p2 = 2
    · rw [if_pos c2, if_pos c2]; exact ⟨_, rfl, rfl⟩
    rw [if_neg c2, if_neg c2]
    by_cases c3 : p2 = 3
    · rw [if_pos c3, if_pos c3]; exact ⟨_, rfl, rfl⟩
    rw [if_neg c3, if_neg c3]
    by_cases c4 : p2 = 4
    · rw [if_pos c4, if_pos c4]
      by_cases e : nI bz = 0
      · rw [if_pos e, if_pos e]; exact ⟨_, rfl, rfl⟩
      · rw [if_neg e, if_neg e]; exact ⟨_, rfl, rfl⟩
    rw [if_neg c4, if_neg c4]
    by_cases c5 : p2 = 5
    · rw [if_pos c5, if_pos c5]; exact ⟨_, rfl, rfl⟩
    rw [if_neg c5, if_neg c5]
    by_cases c6 : p2 = 6
    · rw [if_pos c6, if_pos c6]; exact ⟨_, rfl, rfl⟩
    rw [if_neg c6, if_neg c6]
    by_cases c7 : p2 = 7
    · rw [if_pos c7, if_pos c7]
      by_cases e : nI bz = 0
      · rw [if_pos e, u6 (hz2.trans e)]; exact ⟨_, rfl, rfl⟩
      · rw [if_neg e, u7 (fun z => e (hz2.symm.trans z)), Option.bind_some]; exact ⟨_, rfl, rfl⟩
    rw [if_neg c7, if_neg c7]
    by_cases c8 : p2 = 8
    · rw [if_pos c8, if_pos c8]; exact ⟨_, rfl, rfl⟩
    rw [if_neg c8, if_neg c8]
    exact ⟨_, rfl, rfl⟩
  obtain ⟨q, q1, q2⟩ := key
  exact ⟨q, y, q1, q2, k1, hvy⟩
theorem ag_snap {c : Nat} {nm : Int64} {sb : SB} {d : SD} {ve vo : VS} {re ro : RC} {x : MS} (h : gS c nm sb d ve vo re ro x) (p1 p2 p3 : Int32) : agL c nm sb d ve vo re ro (FX7_snap nm sb d ve vo re ro p1 p2 p3) (FX8_snap x p1 p2 p3) := by
  have h' := gS_thr0 0 h
  by_cases h0 : p1 = 0
  · subst h0
    obtain ⟨q, q1, q2⟩ := v_snapl (by omega) h'.1 p2 p3
    exact ⟨q, MS_setthr x 0, q2, by rw [snap_7_0]; exact q1, gS_thr 0 h⟩
  · by_cases h1 : p1 = 1
    · subst h1
      obtain ⟨q, q1, q2⟩ := v_snapl (by omega) h'.2.1 p2 p3
      exact ⟨q, MS_setthr x 0, q2, by rw [snap_7_1]; exact q1, gS_thr 0 h⟩
    · obtain ⟨f1, f2⟩ := find_n nm h0 h1
      refine ⟨-1, MS_setthr x 0, ?_, ?_, gS_thr 0 h⟩
      · simp only [FX8_snap, f2, Option.bind_some, i10, if_false, if_true]
      · simp only [FX7_snap, f1, Option.bind_some, i10, if_false, if_true]
theorem ag_block {c : Nat} {nm : Int64} {sb : SB} {d : SD} {ve vo : VS} {re ro : RC} {x : MS} (h : gS c nm sb d ve vo re ro x) (p1 p2 p3 : Int32) : agL c nm sb d ve vo re ro (FX7_block nm sb d ve vo re ro p1 p2 p3) (FX8_block x p1 p2 p3) := by
  have h' := gS_thr0 0 h
  by_cases h0 : p1 = 0
  · subst h0
    obtain ⟨q, q1, q2⟩ := v_blk (by omega) h'.1 p2 p3
    exact ⟨q, MS_setthr x 0, by rw [blk_8]; exact q2, by rw [blk_7_0]; exact q1, gS_thr 0 h⟩
  · by_cases h1 : p1 = 1
    · subst h1
      obtain ⟨q, q1, q2⟩ := v_blk (by omega) h'.2.1 p2 p3
      exact ⟨q, MS_setthr x 0, by rw [blk_8]; exact q2, by rw [blk_7_1]; exact q1, gS_thr 0 h⟩
    · obtain ⟨f1, f2⟩ := find_n nm h0 h1
      refine ⟨-1, MS_setthr x 0, ?_, ?_, gS_thr 0 h⟩
      · simp only [blk_8, isB_n _ h0 h1, Option.bind_some, i10, if_false, if_true]
      · simp only [FX7_block, f1, Option.bind_some, i10, if_false, if_true]
theorem ag_pointer {c : Nat} {nm : Int64} {sb : SB} {d : SD} {ve vo : VS} {re ro : RC} {x : MS} (h : gS c nm sb d ve vo re ro x) (p1 p2 p3 p4 : Int32) : agL c nm sb d ve vo re ro (FX7_pointer nm sb d ve vo re ro p1 p2 p3 p4) (FX8_pointer x p1 p2 p3 p4) := by
  have h' := gS_thr0 0 h
  by_cases h0 : p1 = 0
  · subst h0
    obtain ⟨q, q1, q2⟩ := v_ptr (by omega) h'.1 p2 p3 p4
    exact ⟨q, MS_setthr x 0, by rw [ptr_8]; exact q2, by rw [ptr_7_0]; exact q1, gS_thr 0 h⟩
  · by_cases h1 : p1 = 1
    · subst h1
      obtain ⟨q, q1, q2⟩ := v_ptr (by omega) h'.2.1 p2 p3 p4
      exact ⟨q, MS_setthr x 0, by rw [ptr_8]; exact q2, by rw [ptr_7_1]; exact q1, gS_thr 0 h⟩
    · obtain ⟨f1, f2⟩ := find_n nm h0 h1
      refine ⟨-1, MS_setthr x 0, ?_, ?_, gS_thr 0 h⟩
      · simp only [ptr_8, isB_n _ h0 h1, Option.bind_some, i10, if_false, if_true]
      · simp only [FX7_pointer, f1, Option.bind_some, i10, if_false, if_true]
theorem ag_data {c : Nat} {nm : Int64} {sb : SB} {d : SD} {ve vo : VS} {re ro : RC} {x : MS} (h : gS c nm sb d ve vo re ro x) (p1 p2 : Int32) : agL c nm sb d ve vo re ro (FX7_data nm sb d ve vo re ro p1 p2) (FX8_data x p1 p2) := by
  have h' := gS_thr0 0 h
  by_cases h0 : p1 = 0
  · subst h0
    obtain ⟨q, q1, q2⟩ := v_data (by omega) h'.1 p2
    exact ⟨q, MS_setthr x 0, by rw [data_8]; exact q2, by rw [data_7_0]; exact q1, gS_thr 0 h⟩
  · by_cases h1 : p1 = 1
    · subst h1
      obtain ⟨q, q1, q2⟩ := v_data (by omega) h'.2.1 p2
      exact ⟨q, MS_setthr x 0, by rw [data_8]; exact q2, by rw [data_7_1]; exact q1, gS_thr 0 h⟩
    · obtain ⟨f1, f2⟩ := find_n nm h0 h1
      refine ⟨0, MS_setthr x 0, ?_, ?_, gS_thr 0 h⟩
      · simp only [data_8, isB_n _ h0 h1, Option.bind_some, i10, if_false, if_true]
      · simp only [FX7_data, f1, Option.bind_some, i10, if_false, if_true]
theorem ag_look {c : Nat} {nm : Int64} {sb : SB} {d : SD} {ve vo : VS} {re ro : RC} {x : MS} (h : gS c nm sb d ve vo re ro x) (p1 p2 : Int32) : agL c nm sb d ve vo re ro (FX7_look nm sb d ve vo re ro p1 p2) (FX8_look x p1 p2) := by
  have h' := gS_thr0 0 h
  by_cases h0 : p1 = 0
  · subst h0
    obtain ⟨q, y, q1, q2, q3, q4⟩ := v_look (by omega) h'.1 p2
    exact ⟨q, y, q2, by rw [look_7_0]; exact q1, gS_0 h' q3 q4⟩
  · by_cases h1 : p1 = 1
    · subst h1
      obtain ⟨q, y, q1, q2, q3, q4⟩ := v_look (by omega) h'.2.1 p2
      exact ⟨q, y, q2, by rw [look_7_1]; exact q1, gS_1 h' q3 q4⟩
    · obtain ⟨f1, f2⟩ := find_n nm h0 h1
      refine ⟨-1, MS_setthr x 0, ?_, ?_, gS_thr 0 h⟩
      · simp only [FX8_look, f2, Option.bind_some, i10, if_false, if_true]
      · simp only [FX7_look, f1, Option.bind_some, i10, if_false, if_true]
theorem ag_stream {c : Nat} {nm : Int64} {sb : SB} {d : SD} {ve vo : VS} {re ro : RC} {x : MS} (h : gS c nm sb d ve vo re ro x) (p1 : Int32) : agL c nm sb d ve vo re ro (FX7_stream nm sb d ve vo re ro p1) (FX8_stream x p1) := by
  obtain ⟨L, hs⟩ := h.2.2.1
  have h3 := hs.2.2.1
  by_cases hn : p1 < 0
  · refine ⟨-1, MS_setthr x 0, ?_, ?_, gS_thr 0 h⟩
    · simp only [FX8_stream, hn, if_true]
    · simp only [FX7_stream, FX5_at, hn, if_true, Option.bind_some]
  · obtain ⟨i, hi, rfl⟩ := nI_of hn
    by_cases hL : i < L
    · have e := at_in hs hL
      refine ⟨MS_str x i &&& 255, MS_setthr x 0, ?_, ?_, gS_thr 0 h⟩
      · unfold FX8_stream
        rw [if_neg hn, hs.2.1, if_pos (nI_lt hL (by omega)), m_ald _ (by omega) (by omega), Option.bind_some]
      · unfold FX7_stream
        rw [e, Option.bind_some]
    · have e := at_out hs (show L ≤ i by omega) hi
      refine ⟨-1, MS_setthr x 0, ?_, ?_, gS_thr 0 h⟩
      · unfold FX8_stream
        rw [if_neg hn, hs.2.1, if_neg (nI_nlt (by omega) hi)]
      · unfold FX7_stream
        rw [e, Option.bind_some]
theorem vS_str {v c : Nat} {w : VS} {r : RC} {x : MS} {f : Nat → Int32} (h : vS v c w r x) : vS v c w r (MS_setstr x f) := by
  obtain ⟨N, bz, sn, g, lev, T, B, a1, a2, a3, a4, a5⟩ := h
  exact ⟨N, bz, sn, g, lev, T, B, vol_eq a1 ⟨rfl, rfl, rfl, rfl, rfl⟩ ⟨rfl, rfl, rfl, rfl, rfl, rfl, rfl⟩, a2, a3, a4, a5⟩
theorem vS_len {v c : Nat} {w : VS} {r : RC} {x : MS} {f : Int32} (h : vS v c w r x) : vS v c w r (MS_setlen x f) := by
  obtain ⟨N, bz, sn, g, lev, T, B, a1, a2, a3, a4, a5⟩ := h
  exact ⟨N, bz, sn, g, lev, T, B, vol_eq a1 ⟨rfl, rfl, rfl, rfl, rfl⟩ ⟨rfl, rfl, rfl, rfl, rfl, rfl, rfl⟩, a2, a3, a4, a5⟩
theorem ag_patch {c : Nat} {nm : Int64} {sb : SB} {d : SD} {ve vo : VS} {re ro : RC} {x : MS} (h : gS c nm sb d ve vo re ro x) (p1 p2 : Int32) : agP c nm sb d ve vo re ro (fun e t => e = xNS ∧ t = 1) (FX7_patch nm sb d ve vo re ro p1 p2) (FX8_patch x p1 p2) := by
  obtain ⟨L, hs⟩ := h.2.2.1
  have h3 := hs.2.2.1
  by_cases hn : p1 < 0
  · refine ⟨0, MS_setthr x 1, ?_, Or.inl ⟨xNS, 1, ?_, ⟨rfl, rfl⟩, rfl, gS_thr 1 h⟩⟩
    · simp only [FX8_patch, hn, if_true]
    · simp only [FX7_patch, hn, if_true]
  · obtain ⟨i, hi, rfl⟩ := nI_of hn
    by_cases hL : i < L
    · have e := at_in hs hL
      obtain ⟨g1, g2, g3, g4, g5, g6, g7⟩ := gS_thr 0 h
      refine ⟨MS_str x i &&& 255, MS_setstr (MS_setthr x 0) (upd (MS_str x) i (vp_nar .byte (p2.toInt8.toInt32))), ?_, Or.inr ⟨SB_setcells sb (upd (SB_cells sb) i (vp_nar .byte (p2.toInt8.toInt32))), ?_, rfl, vS_str g1, vS_str g2, ⟨L, hs.1, hs.2.1, h3, ?_⟩, g4, g5, g6, g7⟩⟩
      · unfold FX8_patch
        rw [if_neg hn, hs.2.1, if_pos (nI_lt hL (by omega)), m_ald _ (by omega) (by omega), Option.bind_some, m_ast _ _ (by omega) (by omega), Option.bind_some]
      · unfold FX7_patch FX5_length FX5_put
        rw [if_neg hn, Option.bind_some, hs.1, if_pos (nI_lt hL (by omega)), e, Option.bind_some, if_neg hn, i9766, if_neg (nI_ge (by omega) (by omega)), m_ast _ _ (by omega) (by omega), Option.bind_some, Option.bind_some]
      · intro j hj
        show upd (SB_cells sb) i _ j = upd (MS_str x) i _ j ∧ bOk (upd (MS_str x) i _ j)
        by_cases e2 : j = i
        · rw [e2, upd_self, upd_self]
          exact ⟨rfl, by rw [nar_byte, b_idem]; exact bOk_mk _⟩
        · rw [upd_ne e2, upd_ne e2]
          exact hs.2.2.2 j hj
    · refine ⟨0, MS_setthr x 1, ?_, Or.inl ⟨xNS, 1, ?_, ⟨rfl, rfl⟩, rfl, gS_thr 1 h⟩⟩
      · unfold FX8_patch
        rw [if_neg hn, hs.2.1, if_neg (nI_nlt (by omega) hi)]
      · unfold FX7_patch FX5_length
        rw [if_neg hn, Option.bind_some, hs.1, if_neg (nI_nlt (by omega) hi)]
theorem ag_cut {c : Nat} {nm : Int64} {sb : SB} {d : SD} {ve vo : VS} {re ro : RC} {x : MS} (h : gS c nm sb d ve vo re ro x) (p1 : Int32) : agC c nm sb d ve vo re ro (fun e t => e = xIA ∧ t = 1) (FX7_cut nm sb d ve vo re ro p1) (FX8_cut x p1) := by
  obtain ⟨L, hs⟩ := h.2.2.1
  have h3 := hs.2.2.1
  by_cases hn : p1 < 0
  · refine ⟨MS_setthr x 1, ?_, Or.inl ⟨xIA, 1, ?_, ⟨rfl, rfl⟩, rfl, gS_thr 1 h⟩⟩
    · simp only [FX8_cut, hn, if_true]
    · simp only [FX7_cut, hn, if_true]
  · obtain ⟨i, hi, rfl⟩ := nI_of hn
    by_cases hL : i ≤ L
    · obtain ⟨g1, g2, g3, g4, g5, g6, g7⟩ := gS_thr 0 h
      refine ⟨MS_setlen (MS_setthr x 0) (nI i), ?_, Or.inr ⟨SB_setlen sb (nI i), ?_, rfl, vS_len g1, vS_len g2, ⟨i, rfl, rfl, by omega, hs.2.2.2⟩, g4, g5, g6, g7⟩⟩
      · unfold FX8_cut
        rw [if_neg hn, hs.2.1, if_pos (nI_le hL (by omega))]
      · unfold FX7_cut FX5_length FX5_shorten
        rw [if_neg hn, Option.bind_some, hs.1, if_pos (nI_le hL (by omega)), Option.bind_some]
    · refine ⟨MS_setthr x 1, ?_, Or.inl ⟨xIA, 1, ?_, ⟨rfl, rfl⟩, rfl, gS_thr 1 h⟩⟩
      · unfold FX8_cut
        rw [if_neg hn, hs.2.1, if_neg (nI_ge (by omega) hi)]
      · unfold FX7_cut FX5_length
        rw [if_neg hn, Option.bind_some, hs.1, if_neg (nI_ge (by omega) hi)]
theorem ag_sent {c : Nat} {nm : Int64} {sb : SB} {d : SD} {ve vo : VS} {re ro : RC} {x : MS} (h : gS c nm sb d ve vo re ro x) (p1 : Int32) : agL c nm sb d ve vo re ro (FX7_sent nm sb d ve vo re ro p1) (FX8_sent x p1) := by
  obtain ⟨g1, g2, ⟨L, hs⟩, g4, g5, g6, g7⟩ := id h
  subst g7
  have h' := gS_thr 0 h
  have hl : SB_len sb = MS_len x := by rw [hs.1, hs.2.1]
  unfold FX7_sent FX8_sent FX4_writes FX4_clears FX4_seen FX5_length
  simp only [Option.bind_some]
  rw [g4, g5, g6, hl]
  by_cases c0 : p1 = 0
  · rw [if_pos c0, if_pos c0]; exact ⟨_, _, rfl, rfl, h'⟩
  rw [if_neg c0, if_neg c0]
  by_cases c1 : p1 = 1
  · rw [if_pos c1, if_pos c1]; exact ⟨_, _, rfl, rfl, h'⟩
  rw [if_neg c1, if_neg c1]
  by_cases c2 : p1 = 2
  · rw [if_pos c2, if_pos c2]; exact ⟨_, _, rfl, rfl, h'⟩
  rw [if_neg c2, if_neg c2]
  by_cases c3 : p1 = 3
  · rw [if_pos c3, if_pos c3]; exact ⟨_, _, rfl, rfl, h'⟩
  rw [if_neg c3, if_neg c3]
  by_cases c4 : p1 = 4
  · rw [if_pos c4, if_pos c4]; exact ⟨_, _, rfl, rfl, h'⟩
  rw [if_neg c4, if_neg c4]
  exact ⟨_, _, rfl, rfl, h'⟩
