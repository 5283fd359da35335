/-! PART 80: what each call does to one volume -/
theorem vS_mF {v c N bz sn g : Nat} {w : VS} {r : RC} {x y : MS} {lev T : Nat → Option Nat} {B : Nat → Nat} (hm : mF v x y) (h : vol v N bz sn g w y lev T B) (hst : stl lev T) (hg : g ≤ c) (hr : RC_rec r = MS_rec x v) (hrc : bz = 1 → ∃ pos rc, rcS v r x pos rc) : vS v c w r y := by
  obtain ⟨f1, f2, f3, f4⟩ := fr_frec hm
  refine ⟨N, bz, sn, g, lev, T, B, h, hst, hg, by rw [f2]; exact hr, fun e => ?_⟩
  obtain ⟨pos, rc, p1, p2, p3, p4, p5, p6⟩ := hrc e
  exact ⟨pos, rc, p1, by rw [f3]; exact p2, p3, by rw [f2]; exact p4, by rw [f4]; exact p5, p6⟩
theorem v_readL {v c p : Nat} {w : VS} {r : RC} {x : MS} (hv : v < 2) (h : vS v c w r x) (hp : p < 512) : ∃ d x', FX6_readPlace w 4800 (nI p) = some d ∧ wayData x (nI v) 0 (nI p) = some (d, x') ∧ fr v x x' ∧ vS v (c + 1) w r x' := by
  obtain ⟨N, bz, sn, g, lev, T, B, a1, a2, a3, a4, a5⟩ := h
  obtain ⟨d, x', b1, b2, b3, b4⟩ := vol_read (s0 := 4800) hv hp (by omega) (by omega) (lv0 bz sn) a1
  exact ⟨d, x', b1, b2, fr_mF b3, vS_mF b3 b4 a2 (by omega) a4 a5⟩
theorem v_readS {v c p : Nat} {w : VS} {r : RC} {x : MS} (hv : v < 2) (h : vS v c w r x) (hp : p < 512) (k : Int32) : (FX6_hasSnapshot w k = some 0 ∧ FX8_isSnap x (nI v) k = some 0) ∨
    (FX6_hasSnapshot w k = some 1 ∧ FX8_isSnap x (nI v) k = some 1 ∧ ∃ d x', FX6_readPlace w (4802 + k) (nI p) = some d ∧ wayData (MS_setthr x 0) (nI v) (2 + k) (nI p) = some (d, x') ∧ fr v (MS_setthr x 0) x' ∧ vS v (c + 1) w r x') := by
  obtain ⟨N, bz, sn, g, lev, T, B, a1, a2, a3, a4, a5⟩ := h
  rcases has_any hv a1 k with q | ⟨m, h1, rfl, h3, h4⟩
  · exact Or.inl q
  · have hsn := a1.2.2.2.2.2.2.2.1.2.2
    obtain ⟨d, x', b1, b2, b3, b4⟩ := vol_read (s0 := 4802 + m) hv hp (by omega) (by omega) (Or.inr (Or.inr (by omega))) (thr_vol 0 a1)
    rw [show (4802 + m) % 4800 = 2 + m by omega, ← nI_add] at b2
    rw [← nI_add] at b1
    exact Or.inr ⟨h3, h4, d, x', b1, b2, fr_mF b3, vS_mF b3 b4 a2 (by omega) a4 a5⟩
theorem v_snap {v c : Nat} {w : VS} {r : RC} {x : MS} (z : Int64) (hv : v < 2) (h : vS v c w r x) (hc : c < 2 ^ 20) (hb : MS_busy x v = 0) :
    (∃ q, FX6_snapshots w = some q ∧ ¬ q < 20 ∧ MS_snaps x v = 20) ∨
    (∃ q k w' y, FX6_snapshots w = some q ∧ q < 20 ∧ ¬ MS_snaps x v = 20 ∧ FX6_keepLive w z = some (k, w') ∧ FX8_snaps x (nI v) 0 z = some y ∧ MS_snaps y v - 1 = k ∧ fr v x y ∧ vS v (c + 1) w' r y) := by
  obtain ⟨N, sn, g, lev, T, B, a1, a2, a3, a4⟩ := v_free h hb
  obtain ⟨s1, s2, s3⟩ := a1.2.2.2.2.2.2.2.1
  by_cases hs : sn < 20
  · obtain ⟨w', y, T', B', b1, b2, b3, b4, b5, b6, b7, b8, b9⟩ := vol_keep z hv a1 hs (by omega)
    refine Or.inr ⟨nI sn, nI sn, w', y, by unfold FX6_snapshots; rw [s1], by rw [show (20 : Int32) = nI 20 from rfl]; exact nI_lt hs (by omega), ?_, b1, b2, ?_, b5, vS_mk b3 (b4 a2) (by omega) (by rw [b7]; exact a4)⟩
    · rw [s2, show (20 : Int32) = nI 20 from rfl]
      exact fun e => by have := (nI_eq (by omega) (by omega)).mp e; omega
    · rw [b3.2.2.2.2.2.2.2.1.2.1, nI_pred]
  · have : sn = 20 := by omega
    subst this
    exact Or.inl ⟨nI 20, by unfold FX6_snapshots; rw [s1], by decide, s2⟩
theorem v_destroy {v c : Nat} {w : VS} {r : RC} {x : MS} (hv : v < 2) (h : vS v c w r x) (hb : MS_busy x v = 0) (k : Int32) : (FX6_hasSnapshot w k = some 0 ∧ FX8_isSnap x (nI v) k = some 0) ∨
    (FX6_hasSnapshot w k = some 1 ∧ FX8_isSnap x (nI v) k = some 1 ∧ ∃ q w' x', FX6_dropSnapshot w k = some (q, w') ∧ destroyRest (MS_setthr x 0) (nI v) k = some (q, x') ∧ fr v (MS_setthr x 0) x' ∧ vS v (c + 1) w' r x') := by
  obtain ⟨N, sn, g, lev, T, B, a1, a2, a3, a4⟩ := v_free h hb
  rcases has_any hv a1 k with q | ⟨m, h1, rfl, h3, h4⟩
  · exact Or.inl q
  · cases sn with
    | zero => omega
    | succ s =>
      obtain ⟨w', y, lev', T', B', b1, b2, b3, b4, b5, b6⟩ := vol_destroy hv (thr_vol 0 a1) h1
      exact Or.inr ⟨h3, h4, nI s, w', y, b1, b2, b5, vS_mk b3 b4 (by omega) (by rw [b6]; exact a4)⟩
theorem v_roll {v c : Nat} {w : VS} {r : RC} {x : MS} (hv : v < 2) (h : vS v c w r x) (hb : MS_busy x v = 0) :
    (∃ q, FX6_snapshots w = some q ∧ q = 0 ∧ MS_snaps x v = 0) ∨
    (∃ q, FX6_snapshots w = some q ∧ ¬ q = 0 ∧ ¬ MS_snaps x v = 0 ∧ ∃ k w' x', FX6_returnToLatest w = some (k, w') ∧ rollRest x (nI v) = some (k, x') ∧ fr v x x' ∧ vS v (c + 1) w' r x') := by
  obtain ⟨N, sn, g, lev, T, B, a1, a2, a3, a4⟩ := v_free h hb
  obtain ⟨s1, s2, s3⟩ := a1.2.2.2.2.2.2.2.1
  cases sn with
  | zero => exact Or.inl ⟨nI 0, by unfold FX6_snapshots; rw [s1], rfl, s2⟩
  | succ s =>
    obtain ⟨w', y, lev', T', B', b1, b2, b3, b4, b5⟩ := vol_roll hv a1
    obtain ⟨f1, f2, -, -⟩ := fr_frec b5
    exact Or.inr ⟨nI (s + 1), by unfold FX6_snapshots; rw [s1], nI_ne0 (by omega) (by omega), by rw [s2]; exact nI_ne0 (by omega) (by omega), nI s, w', y, b1, b2, f1, vS_mk b3 b4 (by omega) (by rw [f2]; exact a4)⟩
theorem v_receive {v c L : Nat} {w : VS} {r : RC} {x : MS} {sb : SB} (hv : v < 2) (h : vS v c w r x) (hs : strR sb x L) :
    ∃ code r' w' x', FX3_takeBegin r w sb = some (code, r', w') ∧ FX8_receive x (nI v) = some (code, x') ∧ fr v (MS_setthr x 0) x' ∧ vS v (c + 1) w' r' x' := by
  obtain ⟨N, bz, sn, g, lev, T, B, a1, a2, a3, a4, a5⟩ := id h
  obtain ⟨code, r', w', x', b1, b2, b3⟩ := both_receive r hv a1 a2 hs
  rcases b3 with ⟨rfl, rfl, rfl⟩ | ⟨rfl, T', B', c1, c2, c3, c4, c5, c6, c7, c8, c9⟩
  · exact ⟨code, r', w', _, b1, b2, fr_refl v _, vS_up (vS_thr0 0 h)⟩
  · refine ⟨code, r', w', x', b1, b2, c3, N, 1, sn, g, lev, T', B', c1, c2, by omega, by rw [c6, c7], fun _ => ⟨25, 0, c4, c5, by rw [c6]; rfl, by rw [c7]; rfl, c8, by omega, by omega⟩⟩
theorem v_step {v c j L : Nat} {w : VS} {r : RC} {x : MS} {sb : SB} (hv : v < 2) (h : vS v c w r x) (hc : c < 2 ^ 20) (hs : strR sb x L) (hj : j < 2 ^ 31) (hb : MS_busy x v = 1) :
    ∃ code r' w' x', FX3_takeRecords r w sb (nI j) = some (code, r', w') ∧ FX8_step_L49 (nI v) (nI j) (fun xq13 w3_13 _ => some (w3_13, xq13)) 100000 x 7 0 = some (code, x') ∧ fr v x x' ∧ vS v (c + 1) w' r' x' := by
  obtain ⟨N, bz, sn, g, lev, T, B, a1, a2, a3, a4, a5⟩ := id h
  have b2 := a1.2.2.2.2.2.2.1.2.1
  have b3 := a1.2.2.2.2.2.2.1.2.2
  have hbz : bz = 1 := by
    rw [b2] at hb
    exact (nI_eq (b := 1) (by omega) (by omega)).mp hb
  subst hbz
  obtain ⟨pos, rc, hr⟩ := a5 rfl
  obtain ⟨code, r', w', x', d1, d2, d3, d4, d5⟩ := both_step hv (by omega) hj hr hs a1 a2
  refine ⟨code, r', w', x', d1, d2, d3, ?_⟩
  rcases d5 with ⟨-, lev', T', B', pos', rc', e1, e2, e3⟩ | ⟨-, lev', T', B', e1, e2, e3⟩ | ⟨-, lev', T', B', e1, e2⟩
  · exact ⟨N, 1, sn, g, lev', T', B', e1, e2, by omega, d4, fun _ => ⟨pos', rc', e3⟩⟩
  · exact vS_mk e1 e2 (by omega) d4
  · exact vS_mk e1 e2 (by omega) d4
theorem v_crash0 {v c : Nat} {w : VS} {r : RC} {x : MS} (h : vS v c w r x) (hb : MS_busy x v = 0) : ∃ w', FX6_dropHidden w = some w' ∧ vS v (c + 1) w' r x := by
  obtain ⟨N, sn, g, lev, T, B, a1, a2, a3, a4⟩ := v_free h hb
  obtain ⟨w', T', B', b1, b2, b3⟩ := vol_crash0 a1 a2
  exact ⟨w', b1, vS_mk b2 b3 (by omega) a4⟩
theorem v_crash1 {v c : Nat} {w : VS} {r : RC} {x : MS} (hv : v < 2) (h : vS v c w r x) : ∃ w' x', FX6_dropHidden w = some w' ∧ FX8_stops x (nI v) = some x' ∧ fr v x x' ∧ vS v (c + 1) w' r x' := by
  obtain ⟨N, bz, sn, g, lev, T, B, a1, a2, a3, a4, a5⟩ := h
  obtain ⟨b3, w', x', lev', T', B', c1, c2, c3, c4, c5, c6, c7⟩ := vol_done hv a1
  refine ⟨w', x', ?_, c3, c6, vS_mk c4 c5 (by omega) (by rw [c7]; exact a4)⟩
  unfold FX6_dropHidden
  rw [c1, Option.bind_some]
  unfold FX6_settle at c2
  have c2' : (FX0_settle b3).bind (fun s1 => some (VS_setb (VS_setbusy (VS_setb w b3) 0) s1)) = some w' := c2
  cases e : FX0_settle b3 with
  | none => rw [e] at c2'; cases c2'
  | some s1 =>
    rw [e, Option.bind_some] at c2'
    rw [Option.bind_some, ← Option.some.inj c2']
theorem v_format {v c N : Nat} (w : VS) (r : RC) (x : MS) (hv : v < 2) (hN : N ≤ 600) : ∃ w' y, FX6_startAnew w (nI N) = some w' ∧ FX8_fresh x (nI v) (nI N) = some y ∧ fr v x y ∧ vS v (c + 1) w' (RC_setrec r 0) y := by
  obtain ⟨y, a1, a2, a3, a4, a5, a6, a7, a8, a9, a10⟩ := ref_fresh (N := N) hv x
  obtain ⟨w', b1, b2, b3⟩ := vol_new w hN a3 a4 a5 a6 a7 a8 a9
  exact ⟨w', y, b1, a1, a2, vS_mk b2 b3 (by omega) (by rw [a10])⟩
theorem v_send {v c L : Nat} {w : VS} {r : RC} {X : MS} {sb : SB} (d : SD) (hv : v < 2) (h : vS v c w r X) (hs : strR sb X L) (k : Int32) :
    (FX6_hasSnapshot w k = some 0 ∧ FX8_isSnap X (nI v) k = some 0) ∨
    (FX6_hasSnapshot w k = some 1 ∧ FX8_isSnap X (nI v) k = some 1 ∧
      (∃ d' sb' x' L', FX4_fillStream d sb w (-1) k = some (d', sb') ∧ sendN X (nI v) (-1) k = some (SB_len sb', x') ∧ strR sb' x' L' ∧ fS X x' ∧ SD_wr d' = MS_wr x' ∧ SD_cl d' = MS_cl x' ∧ SD_sn d' = MS_sn x') ∧
      (∀ b : Int32, ¬ b < 0 → b < k → ∃ d' sb' x' L' g0, ald 40 (MS_sg X) ((20 * nI v) + b) = some g0 ∧ FX4_fillStream d sb w b k = some (d', sb') ∧ sendB X (nI v) b k g0 = some (SB_len sb', x') ∧ strR sb' x' L' ∧ fS X x' ∧ SD_wr d' = MS_wr x' ∧ SD_cl d' = MS_cl x' ∧ SD_sn d' = MS_sn x')) := by
  obtain ⟨N, bz, sn, g, lev, T, B, a1, a2, a3, a4, a5⟩ := h
  rcases has_any hv a1 k with q | ⟨m, h1, rfl, h3, h4⟩
  · exact Or.inl q
  · have hsn := a1.2.2.2.2.2.2.2.1.2.2
    refine Or.inr ⟨h3, h4, vol_sendN d hv a1 h1 hs, fun b hb hbk => ?_⟩
    obtain ⟨mb, hb1, rfl⟩ := nI_of hb
    have hlt : mb < m := (nI_ltI hb1 (by omega)).mp hbk
    obtain ⟨d', sb', x', L', e1, e2, e3⟩ := vol_sendB d hv a1 h1 hlt hs
    exact ⟨d', sb', x', L', MS_sg X (20 * v + mb), by rw [mix 20 v mb 20 rfl, m_ald _ (by omega) (by omega)], e1, e2, e3⟩
