/-! PART 65: HIDDEN goes: crash, BAD, END -/
theorem settle_stl {N : Nat} {b : BS} {lev T : Nat → Option Nat} {B : Nat → Nat} (h : bRel N b lev T B none) (hst : stl lev T) : FX0_settle b = some b := by
  obtain ⟨g1, g2, g3, g4, g5, g6, g7, g8, g9, g10, g11, ls, ⟨m1, m2, m3⟩, m4⟩ := h
  have hz : ls = [] := by
    cases ls with
    | nil => rfl
    | cons k ks =>
      have q := (m4 k).mp List.mem_cons_self
      have := hst k q.1
      omega
  have hl : BS_lc b = 0 := by rw [m1, hz]; rfl
  unfold FX0_settle
  rw [show (100000 : Nat) = 99999 + 1 from rfl, FX0_settle_L2, if_neg (by decide), hl, if_pos (by decide)]
theorem rT_busy (x : MS) (f : Nat → Int32) (v s : Nat) : rT (MS_setbusy x f) v s = rT x v s ∧ rB (MS_setbusy x f) v s = rB x v s := by unfold rT rB; exact ⟨rfl, rfl⟩
theorem fr_busy {v : Nat} (x : MS) (a : Int32) : fr v x (MS_setbusy x (upd (MS_busy x) v a)) := by
  refine ⟨fun u hu hne => ⟨rfl, rfl, rfl, upd_ne hne, rfl, rfl, rfl, fun _ _ => ⟨rfl, rfl⟩, fun s _ => rT_busy x _ u s, fun k hk => ⟨rfl, rfl⟩⟩, rfl, rfl, rfl, rfl, rfl, rfl, rfl⟩
/-- HIDDEN gone: y is x without it -/
theorem vol_unhide {v N bz sn g : Nat} {w : VS} {x y : MS} {lev T : Nat → Option Nat} {B : Nat → Nat} (h : vol v N bz sn g w x lev T B) (hy : sEq x y) (hy2 : MS_busy y v = 0 ∧ MS_gen y = MS_gen x ∧ MS_many y = MS_many x ∧ MS_snaps y = MS_snaps x ∧ MS_dat y = MS_dat x ∧ MS_sm y = MS_sm x ∧ MS_sg y = MS_sg x) :
    ∃ b', FX0_point (VS_b w) 4801 (-1) 0 = some b' ∧ vol v N 0 sn g (VS_setbusy (VS_setb w b') 0) y lev (vf_upd T 4801 none) (vf_upd B 4801 0) ∧ BS_num b' = BS_num (VS_b w) := by
  obtain ⟨b', a1, a2, a3⟩ := m_un (s0 := 4801) h.1 (by omega)
  obtain ⟨hb, hr, hs, hB, ⟨hg1, hg2, hg3⟩, hN, ⟨hz1, hz2, hz3⟩, ⟨hs1, hs2, hs3⟩, hd, hT0, hM⟩ := h
  obtain ⟨y1, y2, y3, y4, y5, y6, y7⟩ := hy2
  refine ⟨b', a1, ⟨a2, ?_, bStr_none hs, upB hB (by omega), ⟨hg1, by rw [y2]; exact hg2, hg3⟩, by rw [y3]; exact hN, ⟨rfl, y1, by omega⟩, ⟨hs1, by rw [y4]; exact hs2, hs3⟩, ?_, ?_, ?_⟩, a3⟩
  · refine rRel_sub (rRel_eq hr hy) (fun i hi ha => ?_)
    have hne : i ≠ 4801 := by
      intro e
      rw [e] at ha
      rcases (aS_hi (by omega)).mp ha with q | q | q <;> omega
    refine ⟨?_, vf_ne hne, vf_ne hne⟩
    by_cases h4 : i < 4800
    · exact (aS_lo h4).mpr ((aS_lo h4).mp ha)
    · refine (aS_hi h4).mpr ?_
      rcases (aS_hi h4).mp ha with q | q | q
      · exact Or.inl q
      · omega
      · exact Or.inr (Or.inr q)
  · intro k hk e
    rw [y5]
    exact (congrFun a3 k).trans (hd k hk e)
  · intro t ht hl
    by_cases e : 4800 + t = 4801
    · rw [e, vf_self]
    · rw [vf_ne e]
      refine hT0 t ht (fun q => hl ?_)
      rcases q with q | q | q
      · exact Or.inl q
      · omega
      · exact Or.inr (Or.inr q)
  · intro k hk
    rw [y6, y7]
    exact hM k hk
/-- the class: HIDDEN dropped, where there is none -/
theorem vol_crash0 {v N sn g : Nat} {w : VS} {x : MS} {lev T : Nat → Option Nat} {B : Nat → Nat} (h : vol v N 0 sn g w x lev T B) (hst : stl lev T) :
    ∃ w' T' B', FX6_dropHidden w = some w' ∧ vol v N 0 sn g w' x lev T' B' ∧ stl lev T' := by
  obtain ⟨b', a1, a2, -⟩ := vol_unhide h ⟨rfl, rfl, rfl, rfl, rfl⟩ ⟨h.2.2.2.2.2.2.1.2.1, rfl, rfl, rfl, rfl, rfl, rfl⟩
  have hst' : stl lev (vf_upd T 4801 none) := stl_cp hst (by omega) (h.2.2.2.2.2.2.2.2.2.1 1 (by omega) (fun q => by rcases q with q | q | q <;> omega))
  refine ⟨_, _, _, ?_, a2, hst'⟩
  unfold FX6_dropHidden
  rw [a1, Option.bind_some, settle_stl a2.1 hst', Option.bind_some]
theorem stops_eq {x y : MS} {v : Nat} (hv : v < 2) (h : FX8_sweeps (MS_setbusy x (upd (MS_busy x) v 0)) (nI v) = some y) : FX8_stops x (nI v) = some y := by
  unfold FX8_stops
  rw [nar0, m_ast _ _ hv (by omega), Option.bind_some, h, Option.bind_some]
/-- BAD or FULL: the class settles, then drops HIDDEN; the reference stops -/
theorem vol_stop {v N bz sn g : Nat} {w : VS} {x : MS} {lev T : Nat → Option Nat} {B : Nat → Nat} (hv : v < 2) (h : vol v N bz sn g w x lev T B) :
    ∃ w1 w' x' lev' T' B', FX6_settle w = some w1 ∧ FX6_dropHidden w1 = some w' ∧ FX8_stops x (nI v) = some x' ∧ vol v N 0 sn g w' x' lev' T' B' ∧ stl lev' T' ∧ fr v x x' ∧ MS_rec x' = MS_rec x := by
  obtain ⟨hb, hr, hs, hB, ⟨hg1, hg2, hg3⟩, hN, ⟨hz1, hz2, hz3⟩, ⟨hs1, hs2, hs3⟩, hd, hT0, hM⟩ := id h
  obtain ⟨b1, lev1, T1, B1, s1, s2, s3, s4, s5, -⟩ := m_settle hb hs
  obtain ⟨b2, p1, p2, p3⟩ := m_un (s0 := 4801) s2 (by omega)
  have hTl := hb.2.2.2.2.2.1
  have hk6 : ∀ k, rch T k → k < 600 := fun k hk => (bRel_lev hb (rch_lev hTl hk)).2
  have hi := setInv_drop (s0 := 4801) (u := 0) s3 (by omega) hk6
  have hy : sEq x (MS_setbusy x (upd (MS_busy x) v 0)) := ⟨rfl, rfl, rfl, rfl, rfl⟩
  obtain ⟨b0, z1, z2, z3⟩ := vol_unhide h hy ⟨upd_self, rfl, rfl, rfl, rfl, rfl, rfl⟩
  obtain ⟨b', x', lev', T', B', c1, c2, c3, c4, c5, c6, c7, c8, c9⟩ := both_settleG hv p2 hi z2.2.1 z2.2.2.1 z2.1.2.2.2.1 z2.1.2.2.2.2.2.1 z2.2.2.2.2.2.1 z2.2.2.2.2.2.2.1.2.1 (by omega) z2.2.2.2.2.2.2.2.1.2.1 hs3 z2.2.2.2.2.2.2.2.2.2.1
  refine ⟨VS_setb w b1, VS_setbusy (VS_setb w b') 0, x', lev', T', B', ?_, ?_, stops_eq hv c2, ?_, c6, fr_trans (fr_busy x 0) (fr_mF c7), ?_⟩
  · unfold FX6_settle
    rw [s1, Option.bind_some]
  · unfold FX6_dropHidden
    show (FX0_point b1 4801 (-1) 0).bind _ = _
    rw [i4801, p1, Option.bind_some, c1, Option.bind_some]
  · refine vol_mE (w := VS_setbusy (VS_setb w b0) 0) z2 c7 c3 c4 c5.1 ?_ ?_ ?_
    · intro s hs4
      rcases c5.2.2.2.2.2 s hs4 with q | q
      · rw [q]; omega
      · rw [q]; exact z2.2.2.2.1 s hs4
    · intro k hk e
      rw [c8, c9, p3, s4]
      exact hd k hk (by rw [← c5.2.2.2.1 k (by rw [e]; simp)]; exact e)
    · intro s u1 u2 e _
      rw [(c5.2.2.1 s u1 u2).1]
      exact e
  · exact c7.1.2.2.2.2.2.2.2.2.1
theorem vol_eq {v N bz sn g : Nat} {w : VS} {x y : MS} {lev T : Nat → Option Nat} {B : Nat → Nat} (h : vol v N bz sn g w x lev T B) (hy : sEq x y) (hy2 : MS_busy y = MS_busy x ∧ MS_gen y = MS_gen x ∧ MS_many y = MS_many x ∧ MS_snaps y = MS_snaps x ∧ MS_dat y = MS_dat x ∧ MS_sm y = MS_sm x ∧ MS_sg y = MS_sg x) : vol v N bz sn g w y lev T B := by
  obtain ⟨hb, hr, hs, hB, ⟨hg1, hg2, hg3⟩, hN, ⟨hz1, hz2, hz3⟩, ⟨hs1, hs2, hs3⟩, hd, hT0, hM⟩ := h
  obtain ⟨y1, y2, y3, y4, y5, y6, y7⟩ := hy2
  exact ⟨hb, rRel_eq hr hy, hs, hB, ⟨hg1, by rw [y2]; exact hg2, hg3⟩, by rw [y3]; exact hN, ⟨hz1, by rw [y1]; exact hz2, hz3⟩, ⟨hs1, by rw [y4]; exact hs2, hs3⟩, by rw [y5]; exact hd, hT0, by rw [y6, y7]; exact hM⟩
/-- END: HIDDEN is made LIVE, and a SNAPSHOT of it kept -/
theorem vol_end {v N sn g : Nat} {w : VS} {x : MS} {lev T : Nat → Option Nat} {B : Nat → Nat} (z : Int64) (hv : v < 2) (h : vol v N 1 sn g w x lev T B) (hsn : sn < 20) (hg : g + 1 < 2 ^ 31) :
    ∃ w2 y T' B', FX6_keepHidden w z = ((FX0_point (VS_b w2) 4801 (-1) 0).bind fun s10 => some (VS_setbusy (VS_setb w2 s10) 0)) ∧
      FX8_snaps (MS_settb (MS_settt x (upd (MS_tt x) (22 * v) (MS_tt x (22 * v + 1)))) (upd (MS_tb x) (22 * v) (MS_tb x (22 * v + 1)))) (nI v) 0 z = some y ∧ vol v N 1 (sn + 1) (g + 1) w2 y lev T' B' ∧ fr v x y ∧ MS_rec y = MS_rec x := by
  obtain ⟨b1, x1, a1, a2, a3, a4⟩ := vol_live (t := 1) hv h (by omega) (Or.inr (Or.inl ⟨rfl, rfl⟩))
  obtain ⟨w2, y, T2, B2, c1, c2, c3, -, c5, c6, c7, c8, c9⟩ := vol_keep z hv a3 hsn hg
  obtain ⟨t1, t2⟩ := c_told h.1 (show 4801 < 4822 by omega)
  rw [a2] at c2 c5 a4 c7
  refine ⟨w2, y, T2, B2, ?_, c2, c3, fr_trans (fr_mF a4) c5, c7.trans rfl⟩
  unfold FX6_keepHidden
  rw [i4801, t1, Option.bind_some, t2, Option.bind_some, a1, Option.bind_some, c1, Option.bind_some]
/-- HIDDEN goes, both clean up -/
theorem vol_done {v N bz sn g : Nat} {w : VS} {y : MS} {lev T : Nat → Option Nat} {B : Nat → Nat} (hv : v < 2) (h : vol v N bz sn g w y lev T B) :
    ∃ b3 w' x' lev' T' B', FX0_point (VS_b w) 4801 (-1) 0 = some b3 ∧ FX6_settle (VS_setbusy (VS_setb w b3) 0) = some w' ∧ FX8_stops y (nI v) = some x' ∧ vol v N 0 sn g w' x' lev' T' B' ∧ stl lev' T' ∧ fr v y x' ∧ MS_rec x' = MS_rec y := by
  have hy : sEq y (MS_setbusy y (upd (MS_busy y) v 0)) := ⟨rfl, rfl, rfl, rfl, rfl⟩
  obtain ⟨b3, d1, d2, d3⟩ := vol_unhide h hy ⟨upd_self, rfl, rfl, rfl, rfl, rfl, rfl⟩
  obtain ⟨w4, x4, lev4, T4, B4, e1, e2, e3, e4, e5⟩ := vol_settle hv d2
  exact ⟨b3, w4, x4, lev4, T4, B4, d1, e1, stops_eq hv e2, e3, e4, fr_trans (fr_busy y 0) (fr_mF e5), e5.1.2.2.2.2.2.2.2.2.1⟩
