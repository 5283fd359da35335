/-! PART 74: receive of both -/
theorem both_loop {v N sn g L : Nat} {w : VS} {X : MS} {lev T : Nat → Option Nat} {B : Nat → Nat} {sb : SB} {z : Int64} (r : RC) (r14 : Int64) (r16 : Int32) (hv : v < 2) (h : vol v N 0 sn g w X lev T B) (hst : stl lev T) (hs : strR sb X L) (hL : 17 ≤ L) (hz : FX8_number X 9 8 = some z) :
    (FX6_hasMark w z = some 1 ∧ rcvLoop X (nI v) r14 r16 = some (4, X)) ∨
    (FX6_hasMark w z = some 0 ∧ ∃ w' x', FX6_makeHidden w = some w' ∧ rcvLoop X (nI v) r14 r16 = some (0, x') ∧ begun v N sn g L sb (RC_settgt (RC_setrec (RC_setpos r 25) 0) z) w' X x' lev) := by
  have hsn := h.2.2.2.2.2.2.2.1.2.2
  rcases mark_L hv h hz (nI v) r14 (r16 - 1) ((22 * nI v) + 0) 1 (fun _ => some 0) (fun xq39 _ => rcvHide (nI v) xq39) sn 0 100000 100000 (by omega) (by omega) (by omega) with ⟨q1, q2⟩ | ⟨q1, q2⟩
  · exact Or.inl ⟨q1, q2⟩
  · obtain ⟨w', x', a1, a2, a3⟩ := hide_both r hv h hst hs hL hz
    exact Or.inr ⟨q1, w', x', a1, q2.trans a2, a3⟩
theorem tkD_yes {r : RC} {w : VS} {z : Int64} (h : FX6_isDirty w = some 1) : tkDirty r w z = some (3, r, w) := by
  unfold tkDirty
  rw [h, Option.bind_some, if_neg (by decide)]
theorem tkD_have {r : RC} {w : VS} {z : Int64} (h : FX6_isDirty w = some 0) (h2 : FX6_hasMark w z = some 1) : tkDirty r w z = some (4, r, w) := by
  unfold tkDirty
  rw [h, Option.bind_some, if_pos rfl, h2, Option.bind_some, if_neg (by decide)]
theorem tkD_go {r : RC} {w w' : VS} {z : Int64} (h : FX6_isDirty w = some 0) (h2 : FX6_hasMark w z = some 0) (h3 : FX6_makeHidden w = some w') : tkDirty r w z = some (0, (RC_settgt (RC_setrec (RC_setpos r 25) 0) z), w') := by
  unfold tkDirty
  rw [h, Option.bind_some, if_pos rfl, h2, Option.bind_some, if_pos rfl, h3, Option.bind_some]
/-- outcomes of a receive, from where it may begin -/
def rOut (v N sn g L : Nat) (sb : SB) (r r' : RC) (w w' : VS) (X x' : MS) (lev : Nat → Option Nat) : Prop :=
  (r' = r ∧ w' = w ∧ x' = X) ∨ begun v N sn g L sb r' w' X x' lev
theorem both_dirty {v N sn g L : Nat} {w : VS} {x : MS} {lev T : Nat → Option Nat} {B : Nat → Nat} {sb : SB} {z : Int64} (r : RC) (r14 : Int64) (hv : v < 2) (h : vol v N 0 sn g w (MS_setthr x 0) lev T B) (hst : stl lev T) (hs : strR sb (MS_setthr x 0) L) (hL : 17 ≤ L) (hz : FX8_number (MS_setthr x 0) 9 8 = some z) :
    ∃ code r' w' x', tkDirty r w z = some (code, r', w') ∧ rcvDirty x (nI v) r14 (nI sn) = some (code, x') ∧ rOut v N sn g L sb r r' w w' (MS_setthr x 0) x' lev := by
  have hsn := h.2.2.2.2.2.2.2.1.2.2
  obtain ⟨c1, c2⟩ := tree_x h (by omega : 0 < 22) (Or.inl rfl) 4800 rfl
  rw [Nat.add_zero] at c1 c2
  have c1' : MS_tt x (22 * v) = eO (T 4800) := c1
  have c2' : MS_tb x (22 * v) = nI (B 4800) := c2
  cases sn with
  | zero =>
    have hd := dirty_0 h
    by_cases e : eO (T 4800) = -1
    · rw [if_pos e] at hd
      have hR : rcvDirty x (nI v) r14 (nI 0) = rcvLoop (MS_setthr x 0) (nI v) r14 (nI 0) := by
        unfold rcvDirty
        rw [if_neg (by decide), p0 22 v 22 rfl, m_ald _ (by omega) (by omega), Option.bind_some, c1', if_pos e]
      rw [hR]
      rcases both_loop r r14 (nI 0) hv h hst hs hL hz with ⟨q1, q2⟩ | ⟨q1, w', x', q2, q3, q4⟩
      · exact ⟨4, r, w, _, tkD_have hd q1, q2, Or.inl ⟨rfl, rfl, rfl⟩⟩
      · exact ⟨0, _, w', x', tkD_go hd q1 q2, q3, Or.inr q4⟩
    · rw [if_neg e] at hd
      refine ⟨3, r, w, MS_setthr x 0, tkD_yes hd, ?_, Or.inl ⟨rfl, rfl, rfl⟩⟩
      unfold rcvDirty
      rw [if_neg (by decide), p0 22 v 22 rfl, m_ald _ (by omega) (by omega), Option.bind_some, c1', if_neg e]
  | succ m =>
    have hd := dirty_s h
    obtain ⟨c3, c4⟩ := tree_x h (by omega : 2 + m < 22) (Or.inr (Or.inr (by omega))) (4802 + m) (by omega)
    have c3' : MS_tt x (22 * v + (2 + m)) = eO (T (4802 + m)) := c3
    have c4' : MS_tb x (22 * v + (2 + m)) = nI (B (4802 + m)) := c4
    have h0 : (0 : Int32) ≤ nI m := by rw [show (0 : Int32) = nI 0 from rfl]; exact nI_le (by omega) (by omega)
    by_cases e : eO (T 4800) = eO (T (4802 + m))
    · by_cases e2 : nI (B 4800) = nI (B (4802 + m))
      · rw [if_pos e, if_pos e2] at hd
        have hR : rcvDirty x (nI v) r14 (nI (m + 1)) = rcvLoop (MS_setthr x 0) (nI v) r14 (nI (m + 1)) := by
          unfold rcvDirty
          rw [nI_pred, if_pos h0, p0 22 v 22 rfl, p2', m_ald _ (by omega) (by omega), Option.bind_some, m_ald _ (by omega) (by omega), Option.bind_some, c1', c3', if_pos e, m_ald _ (by omega) (by omega), Option.bind_some, m_ald _ (by omega) (by omega), Option.bind_some, c2', c4', if_pos e2]
        rw [hR]
        rcases both_loop r r14 (nI (m + 1)) hv h hst hs hL hz with ⟨q1, q2⟩ | ⟨q1, w', x', q2, q3, q4⟩
        · exact ⟨4, r, w, _, tkD_have hd q1, q2, Or.inl ⟨rfl, rfl, rfl⟩⟩
        · exact ⟨0, _, w', x', tkD_go hd q1 q2, q3, Or.inr q4⟩
      · rw [if_pos e, if_neg e2] at hd
        refine ⟨3, r, w, MS_setthr x 0, tkD_yes hd, ?_, Or.inl ⟨rfl, rfl, rfl⟩⟩
        unfold rcvDirty
        rw [nI_pred, if_pos h0, p0 22 v 22 rfl, p2', m_ald _ (by omega) (by omega), Option.bind_some, m_ald _ (by omega) (by omega), Option.bind_some, c1', c3', if_pos e, m_ald _ (by omega) (by omega), Option.bind_some, m_ald _ (by omega) (by omega), Option.bind_some, c2', c4', if_neg e2]
    · rw [if_neg e] at hd
      refine ⟨3, r, w, MS_setthr x 0, tkD_yes hd, ?_, Or.inl ⟨rfl, rfl, rfl⟩⟩
      unfold rcvDirty
      rw [nI_pred, if_pos h0, p0 22 v 22 rfl, p2', m_ald _ (by omega) (by omega), Option.bind_some, m_ald _ (by omega) (by omega), Option.bind_some, c1', c3', if_neg e]
theorem thr_vol {v N bz sn g : Nat} {w : VS} {x : MS} {lev T : Nat → Option Nat} {B : Nat → Nat} (a : Int32) (h : vol v N bz sn g w x lev T B) : vol v N bz sn g w (MS_setthr x a) lev T B := vol_eq h ⟨rfl, rfl, rfl, rfl, rfl⟩ ⟨rfl, rfl, rfl, rfl, rfl, rfl, rfl⟩
theorem thr_str {sb : SB} {x : MS} {L : Nat} (a : Int32) (h : strR sb x L) : strR sb (MS_setthr x a) L := ⟨h.1, h.2.1, h.2.2.1, h.2.2.2⟩
theorem busy_c {v N bz sn g : Nat} {w : VS} {x : MS} {lev T : Nat → Option Nat} {B : Nat → Nat} (h : vol v N bz sn g w x lev T B) : FX6_isBusy w = some (nI bz) := by
  have h2 := h.2.2.2.2.2.2.1.2.2
  unfold FX6_isBusy
  rw [h.2.2.2.2.2.2.1.1]
  have : bz = 0 ∨ bz = 1 := by omega
  rcases this with rfl | rfl <;> rfl
theorem tk_busy {r : RC} {w : VS} {sb : SB} (h : FX6_isBusy w = some (nI 1)) : FX3_takeBegin r w sb = some (6, r, w) := by
  rw [tk_eq, h, Option.bind_some, if_neg (by decide)]
theorem tk_bad1 {r : RC} {w : VS} {sb : SB} {c : Int32} (h : FX6_isBusy w = some (nI 0)) (h1 : FX5_at sb 0 = some c) (hc : ¬ c = 1) : FX3_takeBegin r w sb = some (1, r, w) := by
  rw [tk_eq, h, Option.bind_some, if_pos nI_0, h1, Option.bind_some, if_neg hc]
theorem tk_bad2 {r : RC} {w : VS} {sb : SB} {c : Int32} (h : FX6_isBusy w = some (nI 0)) (h1 : FX5_at sb 0 = some c) (hc : c = 1) (h2 : FX5_isWhole sb 0 25 = some 0) : FX3_takeBegin r w sb = some (1, r, w) := by
  rw [tk_eq, h, Option.bind_some, if_pos nI_0, h1, Option.bind_some, if_pos hc, h2, Option.bind_some, if_pos rfl]
theorem rv_busy {x : MS} {v : Nat} (hv : v < 2) (h : MS_busy x v = nI 1) : FX8_receive x (nI v) = some (6, MS_setthr x 0) := by
  rw [rcv_eq, isVol hv, Option.bind_some, if_neg (by decide), m_ald _ hv (by omega), Option.bind_some, h, if_neg (by decide)]
theorem rv_short {x : MS} {v : Nat} (hv : v < 2) (h : MS_busy x v = nI 0) (hl : MS_len x < 1) : FX8_receive x (nI v) = some (1, MS_setthr x 0) := by
  rw [rcv_eq, isVol hv, Option.bind_some, if_neg (by decide), m_ald _ hv (by omega), Option.bind_some, h, if_pos nI_0, if_pos hl]
theorem rv_bad1 {x : MS} {v : Nat} (hv : v < 2) (h : MS_busy x v = nI 0) (hl : ¬ MS_len x < 1) (hc : ¬ MS_str x 0 = 1) : FX8_receive x (nI v) = some (1, MS_setthr x 0) := by
  rw [rcv_eq, isVol hv, Option.bind_some, if_neg (by decide), m_ald _ hv (by omega), Option.bind_some, h, if_pos nI_0, if_neg hl, show ald 16000 (MS_str x) 0 = some (MS_str x 0) from m_ald (i := 0) _ (by omega) (by omega), Option.bind_some, if_neg hc]
theorem rv_bad2 {x : MS} {v : Nat} (hv : v < 2) (h : MS_busy x v = nI 0) (hl : ¬ MS_len x < 1) (hc : MS_str x 0 = 1) (h2 : FX8_isWhole (MS_setthr x 0) 0 25 = some 0) : FX8_receive x (nI v) = some (1, MS_setthr x 0) := by
  rw [rcv_eq, isVol hv, Option.bind_some, if_neg (by decide), m_ald _ hv (by omega), Option.bind_some, h, if_pos nI_0, if_neg hl, show ald 16000 (MS_str x) 0 = some (MS_str x 0) from m_ald (i := 0) _ (by omega) (by omega), Option.bind_some, if_pos hc, h2, Option.bind_some, if_pos rfl]
theorem rv_mid {x : MS} {v : Nat} {z s : Int64} {q : Int32} (hv : v < 2) (h : MS_busy x v = nI 0) (hl : ¬ MS_len x < 1) (hc : MS_str x 0 = 1) (h2 : FX8_isWhole (MS_setthr x 0) 0 25 = some 1) (h3 : FX8_number (MS_setthr x 0) 1 8 = some z) (h4 : MS_snaps x v = q) : FX8_receive x (nI v) = rcvMid x (nI v) z q := by
  rw [rcv_eq, isVol hv, Option.bind_some, if_neg (by decide), m_ald _ hv (by omega), Option.bind_some, h, if_pos nI_0, if_neg hl, show ald 16000 (MS_str x) 0 = some (MS_str x 0) from m_ald (i := 0) _ (by omega) (by omega), Option.bind_some, if_pos hc, h2, Option.bind_some, if_neg (by decide), h3, Option.bind_some, m_ald _ hv (by omega), Option.bind_some, h4]
theorem both_receive {v N bz sn g L : Nat} {w : VS} {x : MS} {lev T : Nat → Option Nat} {B : Nat → Nat} {sb : SB} (r : RC) (hv : v < 2) (h : vol v N bz sn g w x lev T B) (hst : stl lev T) (hs : strR sb x L) :
    ∃ code r' w' x', FX3_takeBegin r w sb = some (code, r', w') ∧ FX8_receive x (nI v) = some (code, x') ∧ ((r' = r ∧ w' = w ∧ x' = MS_setthr x 0) ∨ (bz = 0 ∧ begun v N sn g L sb r' w' (MS_setthr x 0) x' lev)) := by
  have hbz := h.2.2.2.2.2.2.1.2.2
  have hsn := h.2.2.2.2.2.2.2.1.2.2
  have hs2 := h.2.2.2.2.2.2.2.1.2.1
  have hs1 := h.2.2.2.2.2.2.2.1.1
  have hM := h.2.2.2.2.2.2.2.2.2.2
  have hB := busy_c h
  have hBx := h.2.2.2.2.2.2.1.2.1
  have hb : bz = 1 ∨ bz = 0 := by omega
  have hs0 := thr_str 0 hs
  have hv0 := thr_vol 0 h
  rcases hb with rfl | rfl
  · exact ⟨6, r, w, _, tk_busy hB, rv_busy hv hBx, Or.inl ⟨rfl, rfl, rfl⟩⟩
  · by_cases hL0 : L = 0
    · subst hL0
      have e1 : FX5_at sb 0 = some (-1) := at_out (i := 0) hs (by omega) (by omega)
      exact ⟨1, r, w, _, tk_bad1 hB e1 (by decide), rv_short hv hBx (by rw [hs.2.1]; decide), Or.inl ⟨rfl, rfl, rfl⟩⟩
    · have hlen : ¬ MS_len x < 1 := by rw [hs.2.1, show (1 : Int32) = nI 1 from rfl]; exact nI_nlt (by omega) (by have := hs.2.2.1; omega)
      have e1 : FX5_at sb 0 = some (MS_str x 0 &&& 255) := at_in (i := 0) hs (by omega)
      have e2 := b_255 (hs.2.2.2 0 (by omega)).2 (r := 1) (by omega)
      have e2' : (MS_str x 0 &&& 255 = 1) ↔ MS_str x 0 = 1 := e2
      by_cases hc : MS_str x 0 = 1
      · obtain ⟨r7, w1, w2, w3, w4⟩ := both_whole (s := 0) (sz := 25) hs0 (by omega) (by omega) (by omega)
        have w1' : FX5_isWhole sb 0 25 = some r7 := w1
        have w2' : FX8_isWhole (MS_setthr x 0) 0 25 = some r7 := w2
        rcases w3 with rfl | rfl
        · exact ⟨1, r, w, _, tk_bad2 hB e1 (e2'.mpr hc) w1', rv_bad2 hv hBx hlen hc w2', Or.inl ⟨rfl, rfl, rfl⟩⟩
        · have hL25 := w4 rfl
          obtain ⟨z1, m1, m2⟩ := both_num (s := 1) (sz := 8) hs0 (by omega)
          obtain ⟨z2, m3, m4⟩ := both_num (s := 9) (sz := 8) hs0 (by omega)
          have m1' : FX5_numberAt sb 1 8 = some z1 := m1
          have m2' : FX8_number (MS_setthr x 0) 1 8 = some z1 := m2
          have m3' : FX5_numberAt sb 9 8 = some z2 := m3
          have m4' : FX8_number (MS_setthr x 0) 9 8 = some z2 := m4
          obtain ⟨code, r', w', x', d1, d2, d3⟩ := both_dirty r z1 hv hv0 hst hs0 (by omega) m4'
          have hR := rv_mid (s := 0) hv hBx hlen hc w2' m2' hs2
          have hT : FX3_takeBegin r w sb = (if (lg_cmp z1 0) = 0 then
          (FX6_snapshots w).bind fun r26 =>
          if r26 ≤ 0 then tkDirty r w z2
          else
            some (2, r, w)
        else
          (FX6_isLatest w z1).bind fun r15 =>
          if r15 = 0 then
            some (2, r, w)
          else tkDirty r w z2) := by
            rw [tk_eq, hB, Option.bind_some, if_pos nI_0, e1, Option.bind_some, if_pos (e2'.mpr hc), w1', Option.bind_some, if_neg (by decide), m1', Option.bind_some, m3', Option.bind_some]
          have go : FX3_takeBegin r w sb = tkDirty r w z2 → FX8_receive x (nI v) = rcvDirty x (nI v) z1 (nI sn) → ∃ code r' w' x', FX3_takeBegin r w sb = some (code, r', w') ∧ FX8_receive x (nI v) = some (code, x') ∧ ((r' = r ∧ w' = w ∧ x' = MS_setthr x 0) ∨ (0 = 0 ∧ begun v N sn g L sb r' w' (MS_setthr x 0) x' lev)) := by
            intro g1 g2
            refine ⟨code, r', w', x', g1.trans d1, g2.trans d2, ?_⟩
            rcases d3 with q | q
            · exact Or.inl q
            · exact Or.inr ⟨rfl, q⟩
          have no : FX3_takeBegin r w sb = some (2, r, w) → FX8_receive x (nI v) = some (2, MS_setthr x 0) → ∃ code r' w' x', FX3_takeBegin r w sb = some (code, r', w') ∧ FX8_receive x (nI v) = some (code, x') ∧ ((r' = r ∧ w' = w ∧ x' = MS_setthr x 0) ∨ (0 = 0 ∧ begun v N sn g L sb r' w' (MS_setthr x 0) x' lev)) :=
            fun g1 g2 => ⟨2, r, w, _, g1, g2, Or.inl ⟨rfl, rfl, rfl⟩⟩
          unfold rcvMid at hR
          unfold FX6_snapshots FX6_isLatest at hT
          by_cases hz : lg_cmp z1 0 = 0
          · rw [if_pos hz] at hR hT
            rw [Option.bind_some, hs1] at hT
            cases sn with
            | zero =>
              rw [if_pos (by decide)] at hR hT
              exact go hT hR
            | succ m =>
              rw [if_neg (nI_nle (by omega) (by omega))] at hT
              rw [nI_pred, if_neg (nlt_0 (by omega))] at hR
              exact no hT hR
          · rw [if_neg hz] at hR hT
            rw [hs1] at hT
            cases sn with
            | zero =>
              rw [if_pos (by decide)] at hR hT
              rw [Option.bind_some, if_pos rfl] at hT
              exact no hT hR
            | succ m =>
              have q := (hM m (by omega)).1
              rw [if_neg (nI_nle (by omega) (by omega)), nI_pred, m_lat _ (by omega) (by omega), Option.bind_some, q] at hT
              rw [nI_pred, if_neg (nlt_0 (by omega)), mix 20 v m 20 rfl, m_ald _ (by omega) (by omega), Option.bind_some] at hR
              by_cases e : lg_cmp (MS_sm x (20 * v + m)) z1 = 0
              · rw [if_pos e] at hR hT
                rw [Option.bind_some, if_neg (by decide)] at hT
                exact go hT hR
              · rw [if_neg e] at hR hT
                rw [Option.bind_some, if_pos rfl] at hT
                exact no hT hR
      · exact ⟨1, r, w, _, tk_bad1 hB e1 (fun z => hc (e2'.mp z)), rv_bad1 hv hBx hlen hc, Or.inl ⟨rfl, rfl, rfl⟩⟩
