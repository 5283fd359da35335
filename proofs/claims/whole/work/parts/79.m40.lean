/-! PART 79: the whole state of both -/
def vS (v c : Nat) (w : VS) (r : RC) (x : MS) : Prop := ∃ N bz sn g lev T B, vol v N bz sn g w x lev T B ∧ stl lev T ∧ g ≤ c ∧ RC_rec r = MS_rec x v ∧ (bz = 1 → ∃ pos rc, rcS v r x pos rc)
def gS (c : Nat) (nm : Int64) (sb : SB) (d : SD) (ve vo : VS) (re ro : RC) (x : MS) : Prop :=
  vS 0 c ve re x ∧ vS 1 c vo ro x ∧ (∃ L, strR sb x L) ∧ SD_wr d = MS_wr x ∧ SD_cl d = MS_cl x ∧ SD_sn d = MS_sn x ∧ nm = MS_nm x
theorem vS_same {v c : Nat} {w : VS} {r : RC} {x y : MS} (h : vS v c w r x) (hs : sameV v x y) : vS v (c + 1) w r y := by
  obtain ⟨N, bz, sn, g, lev, T, B, a1, a2, a3, a4, a5⟩ := h
  obtain ⟨b1, b2, b3, b4, b5, b6, b7, -⟩ := id hs
  refine ⟨N, bz, sn, g, lev, T, B, vol_same a1 hs, a2, by omega, by rw [a4, b6], fun e => ?_⟩
  obtain ⟨pos, rc, p1, p2, p3, p4, p5, p6⟩ := a5 e
  exact ⟨pos, rc, p1, by rw [b5]; exact p2, p3, by rw [b6]; exact p4, by rw [b7]; exact p5, p6⟩
theorem gS_0 {c : Nat} {nm : Int64} {sb : SB} {d : SD} {ve vo ve' : VS} {re ro re' : RC} {x y : MS} (h : gS c nm sb d ve vo re ro x) (hf : fr 0 x y) (hv : vS 0 (c + 1) ve' re' y) : gS (c + 1) nm sb d ve' vo re' ro y := by
  obtain ⟨a1, a2, ⟨L, a3⟩, a4, a5, a6, a7⟩ := h
  obtain ⟨b0, b1, b2, b3, b4, b5, b6, b7⟩ := id hf
  exact ⟨hv, vS_same a2 (b0 1 (by omega) (by omega)), ⟨L, str_fr a3 hf⟩, by rw [b4]; exact a4, by rw [b5]; exact a5, by rw [b6]; exact a6, by rw [b1]; exact a7⟩
theorem gS_1 {c : Nat} {nm : Int64} {sb : SB} {d : SD} {ve vo vo' : VS} {re ro ro' : RC} {x y : MS} (h : gS c nm sb d ve vo re ro x) (hf : fr 1 x y) (hv : vS 1 (c + 1) vo' ro' y) : gS (c + 1) nm sb d ve vo' re ro' y := by
  obtain ⟨a1, a2, ⟨L, a3⟩, a4, a5, a6, a7⟩ := h
  obtain ⟨b0, b1, b2, b3, b4, b5, b6, b7⟩ := id hf
  exact ⟨vS_same a1 (b0 0 (by omega) (by omega)), hv, ⟨L, str_fr a3 hf⟩, by rw [b4]; exact a4, by rw [b5]; exact a5, by rw [b6]; exact a6, by rw [b1]; exact a7⟩
theorem same_thr (v : Nat) (x : MS) (a : Int32) : sameV v x (MS_setthr x a) := by
  refine ⟨rfl, rfl, rfl, rfl, rfl, rfl, rfl, fun _ _ => ⟨rfl, rfl⟩, fun s _ => ?_, fun _ _ => ⟨rfl, rfl⟩⟩
  unfold rT rB
  exact ⟨rfl, rfl⟩
theorem vS_up {v c : Nat} {w : VS} {r : RC} {x : MS} (h : vS v c w r x) : vS v (c + 1) w r x := vS_same h (sameV_refl v x)
theorem vS_thr0 {v c : Nat} {w : VS} {r : RC} {x : MS} (a : Int32) (h : vS v c w r x) : vS v c w r (MS_setthr x a) := by
  obtain ⟨N, bz, sn, g, lev, T, B, a1, a2, a3, a4, a5⟩ := h
  exact ⟨N, bz, sn, g, lev, T, B, thr_vol a a1, a2, a3, a4, a5⟩
theorem gS_thr0 {c : Nat} {nm : Int64} {sb : SB} {d : SD} {ve vo : VS} {re ro : RC} {x : MS} (a : Int32) (h : gS c nm sb d ve vo re ro x) : gS c nm sb d ve vo re ro (MS_setthr x a) := by
  obtain ⟨a1, a2, ⟨L, a3⟩, a4⟩ := h
  exact ⟨vS_thr0 a a1, vS_thr0 a a2, ⟨L, thr_str a a3⟩, a4⟩
theorem gS_thr {c : Nat} {nm : Int64} {sb : SB} {d : SD} {ve vo : VS} {re ro : RC} {x : MS} (a : Int32) (h : gS c nm sb d ve vo re ro x) : gS (c + 1) nm sb d ve vo re ro (MS_setthr x a) := by
  obtain ⟨a1, a2, a3⟩ := gS_thr0 a h
  exact ⟨vS_up a1, vS_up a2, a3⟩
theorem i10 : ((1 : Int32) = 0) = False := eq_false (by decide)
theorem isPl_any (p : Int32) : (FX7_isPlace p = some 0 ∧ FX8_isPlace p = some 0) ∨ (∃ m, m < 512 ∧ p = nI m ∧ FX7_isPlace p = some 1 ∧ FX8_isPlace p = some 1) := by
  by_cases h : p < 0
  · left
    unfold FX7_isPlace FX8_isPlace
    rw [if_pos h]
    exact ⟨rfl, rfl⟩
  · obtain ⟨m, h1, rfl⟩ := nI_of h
    obtain ⟨a1, a2⟩ := isPl h1
    by_cases h5 : m < 512
    · rw [if_pos h5] at a1 a2
      exact Or.inr ⟨m, h5, rfl, a1, a2⟩
    · rw [if_neg h5] at a1 a2
      exact Or.inl ⟨a1, a2⟩
theorem has_any {v N bz sn g : Nat} {w : VS} {x : MS} {lev T : Nat → Option Nat} {B : Nat → Nat} (hv : v < 2) (h : vol v N bz sn g w x lev T B) (k : Int32) :
    (FX6_hasSnapshot w k = some 0 ∧ FX8_isSnap x (nI v) k = some 0) ∨ (∃ m, m < sn ∧ k = nI m ∧ FX6_hasSnapshot w k = some 1 ∧ FX8_isSnap x (nI v) k = some 1) := by
  obtain ⟨s1, s2, s3⟩ := h.2.2.2.2.2.2.2.1
  by_cases h0 : k < 0
  · left
    unfold FX6_hasSnapshot FX8_isSnap
    rw [if_pos h0, if_pos h0]
    exact ⟨rfl, rfl⟩
  · obtain ⟨m, h1, rfl⟩ := nI_of h0
    unfold FX6_hasSnapshot FX8_isSnap
    rw [if_neg h0, if_neg h0, m_ald _ hv (by omega), Option.bind_some, s1, s2]
    by_cases h5 : m < sn
    · rw [if_neg (nI_ge h5 (by omega))]
      exact Or.inr ⟨m, h5, rfl, rfl, rfl⟩
    · rw [if_pos (nI_le (show sn ≤ m by omega) h1)]
      exact Or.inl ⟨rfl, rfl⟩
theorem v_busy {v c : Nat} {w : VS} {r : RC} {x : MS} (h : vS v c w r x) : (FX6_isBusy w = some 0 ∧ MS_busy x v = 0) ∨ (FX6_isBusy w = some 1 ∧ MS_busy x v = 1) := by
  obtain ⟨N, bz, sn, g, lev, T, B, a1, -⟩ := h
  have b := busy_c a1
  have b2 := a1.2.2.2.2.2.2.1.2.1
  have b3 := a1.2.2.2.2.2.2.1.2.2
  have : bz = 0 ∨ bz = 1 := by omega
  rcases this with rfl | rfl
  · exact Or.inl ⟨b, b2⟩
  · exact Or.inr ⟨b, b2⟩
/-- a volume that is not BUSY -/
theorem v_free {v c : Nat} {w : VS} {r : RC} {x : MS} (h : vS v c w r x) (hb : MS_busy x v = 0) : ∃ N sn g lev T B, vol v N 0 sn g w x lev T B ∧ stl lev T ∧ g ≤ c ∧ RC_rec r = MS_rec x v := by
  obtain ⟨N, bz, sn, g, lev, T, B, a1, a2, a3, a4, a5⟩ := h
  have b2 := a1.2.2.2.2.2.2.1.2.1
  have b3 := a1.2.2.2.2.2.2.1.2.2
  have : bz = 0 := by
    rw [b2] at hb
    exact (nI_eq (b := 0) (by omega) (by omega)).mp hb
  subst this
  exact ⟨N, sn, g, lev, T, B, a1, a2, a3, a4⟩
theorem vS_mk {v c N sn g : Nat} {w : VS} {r : RC} {x : MS} {lev T : Nat → Option Nat} {B : Nat → Nat} (h : vol v N 0 sn g w x lev T B) (hst : stl lev T) (hg : g ≤ c) (hr : RC_rec r = MS_rec x v) : vS v c w r x := ⟨N, 0, sn, g, lev, T, B, h, hst, hg, hr, fun e => by omega⟩
theorem v_write {v c p : Nat} {w : VS} {r : RC} {x : MS} (z : Int64) (hv : v < 2) (h : vS v c w r x) (hp : p < 512) (hb : MS_busy x v = 0) :
    ∃ k w1 w' x1 x2 x', FX6_writePlace w 4800 (nI p) z = some (k, w1) ∧ FX6_settle w1 = some w' ∧ FX8_begins x (nI v) = some x1 ∧ FX8_writes x1 (nI v) 0 (nI p) z = some (if k = 0 then 5 else 0, x2) ∧ FX8_sweeps x2 (nI v) = some x' ∧ fr v x x' ∧ vS v (c + 1) w' r x' := by
  obtain ⟨N, sn, g, lev, T, B, a1, a2, a3, a4⟩ := v_free h hb
  obtain ⟨x1, b1, b2, b3, b4⟩ := vol_begins hv a1
  obtain ⟨k, w1, x2, lev2, T2, B2, c1, c2, c3, c4, c5, c6⟩ := vol_writes (s0 := 4800) z hv hp (by omega) (by omega) (lv0 0 sn) b2 b3
  obtain ⟨w', x', lev', T', B', d1, d2, d3, d4, d5⟩ := vol_settle hv c4
  obtain ⟨f1, f2, -, -⟩ := fr_frec (mF_trans b4 (mF_trans c6 d5))
  exact ⟨k, w1, w', x1, x2, x', c1, d1, b1, c2, d2, f1, vS_mk d3 d4 (by omega) (by rw [f2]; exact a4)⟩
theorem v_clear {v c p : Nat} {w : VS} {r : RC} {x : MS} (hv : v < 2) (h : vS v c w r x) (hp : p < 512) (hb : MS_busy x v = 0) :
    ∃ k w1 w' x1 x2 x', FX6_clearPlace w 4800 (nI p) = some (k, w1) ∧ FX6_settle w1 = some w' ∧ FX8_begins x (nI v) = some x1 ∧ FX8_clears x1 (nI v) 0 (nI p) = some (if k = 0 then 5 else 0, x2) ∧ FX8_sweeps x2 (nI v) = some x' ∧ fr v x x' ∧ vS v (c + 1) w' r x' := by
  obtain ⟨N, sn, g, lev, T, B, a1, a2, a3, a4⟩ := v_free h hb
  obtain ⟨x1, b1, b2, b3, b4⟩ := vol_begins hv a1
  obtain ⟨k, w1, x2, lev2, T2, B2, c1, c2, c3, c4, c5, c6⟩ := vol_clears (s0 := 4800) hv hp (by omega) (by omega) (lv0 0 sn) b2 b3
  obtain ⟨w', x', lev', T', B', d1, d2, d3, d4, d5⟩ := vol_settle hv c4
  obtain ⟨f1, f2, -, -⟩ := fr_frec (mF_trans b4 (mF_trans c6 d5))
  exact ⟨k, w1, w', x1, x2, x', c1, d1, b1, c2, d2, f1, vS_mk d3 d4 (by omega) (by rw [f2]; exact a4)⟩
theorem find_0 (nm : Int64) : FX7_find nm 0 = some (some 0) := rfl
theorem find_1 (nm : Int64) : FX7_find nm 1 = some (some 1) := rfl
theorem find_n (nm : Int64) {p : Int32} (h0 : ¬ p = 0) (h1 : ¬ p = 1) : FX7_find nm p = some none ∧ FX8_isVolume p = some 0 := by
  unfold FX7_find FX8_isVolume
  rw [if_neg h0, if_neg h1, if_neg h0, if_neg h1]
  exact ⟨rfl, rfl⟩
theorem isV0 : FX8_isVolume 0 = some 1 := rfl
theorem isV1 : FX8_isVolume 1 = some 1 := rfl
/-- answers with two volumes -/
def ag2 (c : Nat) (nm : Int64) (sb : SB) (d : SD) (ve vo : VS) (re ro : RC) (x : MS) (code : String → Int32 → Prop) (A : Option (Except String (Int32 × (VS × VS)))) (R : Option (Int32 × MS)) : Prop :=
  ∃ q x', R = some (q, x') ∧ ((∃ e t, A = some (.error e) ∧ code e t ∧ MS_thr x' = t ∧ gS (c + 1) nm sb d ve vo re ro x') ∨ (∃ ve' vo', A = some (.ok (q, (ve', vo'))) ∧ MS_thr x' = 0 ∧ gS (c + 1) nm sb d ve' vo' re ro x'))
theorem ald0 (f : Nat → Int32) : ald 2 f 0 = some (f 0) := m_ald (i := 0) f (by omega) (by omega)
theorem ald1 (f : Nat → Int32) : ald 2 f 1 = some (f 1) := m_ald (i := 1) f (by omega) (by omega)
theorem ag_write {c : Nat} {nm : Int64} {sb : SB} {d : SD} {ve vo : VS} {re ro : RC} {x : MS} (h : gS c nm sb d ve vo re ro x) (p1 p2 : Int32) (p3 : Int64) :
    ag2 c nm sb d ve vo re ro x (fun e t => e = xIA ∧ t = 1) (FX7_write nm sb d ve vo re ro p1 p2 p3) (FX8_write x p1 p2 p3) := by
  have h' := gS_thr0 0 h
  have bad : FX8_write x p1 p2 p3 = some (0, MS_setthr x 1) → FX7_write nm sb d ve vo re ro p1 p2 p3 = some (.error xIA) → ag2 c nm sb d ve vo re ro x (fun e t => e = xIA ∧ t = 1) (FX7_write nm sb d ve vo re ro p1 p2 p3) (FX8_write x p1 p2 p3) :=
    fun e1 e2 => ⟨0, _, e1, Or.inl ⟨xIA, 1, e2, ⟨rfl, rfl⟩, rfl, gS_thr 1 h⟩⟩
  by_cases h0 : p1 = 0
  · subst h0
    rcases isPl_any p2 with ⟨e1, e2⟩ | ⟨p, hp, rfl, e1, e2⟩
    · exact bad (by simp only [FX8_write, isV0, e2, Option.bind_some, i10, if_false, if_true]) (by simp only [FX7_write, find_0, e1, Option.bind_some, if_true])
    · rcases v_busy h'.1 with ⟨b1, b2⟩ | ⟨b1, b2⟩
      · obtain ⟨k, w1, w', x1, x2, x', c1, c2, c3, c4, c5, c6, c7⟩ := v_write p3 (by omega) h'.1 hp b2
        have b3 : MS_busy x 0 = 0 := b2
        have c3' : FX8_begins (MS_setthr x 0) 0 = some x1 := c3
        have c4' : FX8_writes x1 0 0 (nI p) p3 = some (if k = 0 then 5 else 0, x2) := c4
        have c5' : FX8_sweeps x2 0 = some x' := c5
        refine ⟨if k = 0 then 5 else 0, x', ?_, Or.inr ⟨w', vo, ?_, ?_, gS_0 h' c6 c7⟩⟩
        · simp only [FX8_write, isV0, e2, Option.bind_some, i10, if_false, ald0, b3, if_true, c3', c4', c5']
        · simp only [FX7_write, find_0, e1, Option.bind_some, i10, if_false, b1, if_true, c1, c2]
          split <;> rfl
        · rw [c6.2.2.2.2.2.2.2]
      · have b3 : MS_busy x 0 = 1 := b2
        refine ⟨6, MS_setthr x 0, ?_, Or.inr ⟨ve, vo, ?_, rfl, gS_thr 0 h⟩⟩
        · simp only [FX8_write, isV0, e2, Option.bind_some, i10, if_false, ald0, b3]
        · simp only [FX7_write, find_0, e1, Option.bind_some, i10, if_false, b1]
  · by_cases h1 : p1 = 1
    · subst h1
      rcases isPl_any p2 with ⟨e1, e2⟩ | ⟨p, hp, rfl, e1, e2⟩
      · exact bad (by simp only [FX8_write, isV1, e2, Option.bind_some, i10, if_false, if_true]) (by simp only [FX7_write, find_1, e1, Option.bind_some, if_true])
      · rcases v_busy h'.2.1 with ⟨b1, b2⟩ | ⟨b1, b2⟩
        · obtain ⟨k, w1, w', x1, x2, x', c1, c2, c3, c4, c5, c6, c7⟩ := v_write p3 (by omega) h'.2.1 hp b2
          have b3 : MS_busy x 1 = 0 := b2
          have c3' : FX8_begins (MS_setthr x 0) 1 = some x1 := c3
          have c4' : FX8_writes x1 1 0 (nI p) p3 = some (if k = 0 then 5 else 0, x2) := c4
          have c5' : FX8_sweeps x2 1 = some x' := c5
          refine ⟨if k = 0 then 5 else 0, x', ?_, Or.inr ⟨ve, w', ?_, ?_, gS_1 h' c6 c7⟩⟩
          · simp only [FX8_write, isV1, e2, Option.bind_some, i10, if_false, ald1, b3, if_true, c3', c4', c5']
          · simp only [FX7_write, find_1, e1, Option.bind_some, i10, if_false, b1, if_true, c1, c2]
            split <;> rfl
          · rw [c6.2.2.2.2.2.2.2]
        · have b3 : MS_busy x 1 = 1 := b2
          refine ⟨6, MS_setthr x 0, ?_, Or.inr ⟨ve, vo, ?_, rfl, gS_thr 0 h⟩⟩
          · simp only [FX8_write, isV1, e2, Option.bind_some, i10, if_false, ald1, b3]
          · simp only [FX7_write, find_1, e1, Option.bind_some, i10, if_false, b1]
    · obtain ⟨f1, f2⟩ := find_n nm h0 h1
      exact bad (by simp only [FX8_write, f2, Option.bind_some, if_true]) (by simp only [FX7_write, f1, Option.bind_some])
