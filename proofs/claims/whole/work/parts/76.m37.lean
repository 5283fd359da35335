/-! PART 76: WRITE, CLEAR, END received -/
theorem isPl {m : Nat} (hm : m < 2 ^ 31) : FX7_isPlace (nI m) = some (if m < 512 then 1 else 0) ∧ FX8_isPlace (nI m) = some (if m < 512 then 1 else 0) := by
  unfold FX7_isPlace FX8_isPlace
  rw [if_neg (nlt_0 hm)]
  by_cases h : m < 512
  · rw [if_neg (nge_lit (C := 512) (c := 512) (i := m) rfl h (by omega)), if_pos h]
    exact ⟨rfl, rfl⟩
  · rw [if_pos (show (512 : Int32) ≤ nI m by rw [show (512 : Int32) = nI 512 from rfl]; exact nI_le (by omega) hm), if_neg h]
    exact ⟨rfl, rfl⟩
theorem nI_3 (a : Nat) : nI a + 3 = nI (a + 3) := nI_add a 3
theorem nI_13 (a : Nat) : nI a + 13 = nI (a + 13) := nI_add a 13
theorem nI_19 (a : Nat) : nI a + 19 = nI (a + 19) := nI_add a 19
theorem num512 {m : Nat} (hm : m < 65536) : lg_cmp (Int64.ofNat m) 512 < 0 ↔ m < 512 := by
  rw [lg_cmp_lt]
  exact lN_lt (a := m) (b := 512) (by omega) (by omega)
theorem tw_bad {r : RC} {w : VS} {sb : SB} {pos m : Nat} (hp : RC_pos r = nI pos) (hm : m < 65536) (h1 : FX5_numberAt sb (nI (pos + 1)) 2 = some (Int64.ofNat m)) (h : ¬ m < 512) : FX3_takeWrite r w sb = some (1, w) := by
  unfold FX3_takeWrite
  rw [hp, nI_1, h1, Option.bind_some, show (Int64.ofNat m).toInt32 = nI m from lN_i m, (isPl (by omega)).1, if_neg h, Option.bind_some, if_pos rfl]
theorem tw_go {r : RC} {w w' : VS} {sb : SB} {pos m : Nat} {z : Int64} {q : Int32} (hp : RC_pos r = nI pos) (hm : m < 65536) (h1 : FX5_numberAt sb (nI (pos + 1)) 2 = some (Int64.ofNat m)) (h : m < 512) (h2 : FX5_numberAt sb (nI (pos + 3)) 8 = some z) (h3 : FX6_writePlace w (nI 4801) (nI m) z = some (q, w')) :
    FX3_takeWrite r w sb = some (if q = 0 then 5 else 7, w') := by
  unfold FX3_takeWrite
  rw [hp, nI_1, h1, Option.bind_some, show (Int64.ofNat m).toInt32 = nI m from lN_i m, (isPl (by omega)).1, if_pos h, Option.bind_some, if_neg (by decide), nI_3, h2, Option.bind_some, i4801, h3, Option.bind_some]
  show (if q = 0 then _ else _) = _
  by_cases e : q = 0
  · rw [if_pos e, if_pos e]
  · rw [if_neg e, if_neg e]
theorem wh_torn {x : MS} {v pos : Nat} (hv : v < 2) (ha : MS_at x v = nI pos) (h1 : FX8_isWhole x (nI pos) 19 = some 0) : FX8_writesHere x (nI v) = some (1, x) := by
  unfold FX8_writesHere
  rw [m_ald _ hv (by omega), Option.bind_some, ha, h1, Option.bind_some, if_pos rfl]
theorem wh_bad {x : MS} {v pos m : Nat} (hv : v < 2) (ha : MS_at x v = nI pos) (h1 : FX8_isWhole x (nI pos) 19 = some 1) (hm : m < 65536) (h2 : FX8_number x (nI (pos + 1)) 2 = some (Int64.ofNat m)) (h : ¬ m < 512) : FX8_writesHere x (nI v) = some (1, x) := by
  unfold FX8_writesHere
  rw [m_ald _ hv (by omega), Option.bind_some, ha, h1, Option.bind_some, if_neg (by decide), nI_1, h2, Option.bind_some, if_neg (fun z => h ((num512 hm).mp z))]
theorem wh_go {x x2 : MS} {v pos m : Nat} {z : Int64} {q : Int32} (hv : v < 2) (ha : MS_at x v = nI pos) (h1 : FX8_isWhole x (nI pos) 19 = some 1) (hm : m < 65536) (h2 : FX8_number x (nI (pos + 1)) 2 = some (Int64.ofNat m)) (h : m < 512)
    (h3 : FX8_number (MS_setat x (upd (MS_at x) v (nI (pos + 19)))) (nI (pos + 1)) 2 = some (Int64.ofNat m)) (h4 : FX8_number (MS_setat x (upd (MS_at x) v (nI (pos + 19)))) (nI (pos + 3)) 8 = some z)
    (h5 : FX8_writes (MS_setat x (upd (MS_at x) v (nI (pos + 19)))) (nI v) 1 (nI m) z = some (q, x2)) : FX8_writesHere x (nI v) = some (q, x2) := by
  unfold FX8_writesHere
  rw [m_ald _ hv (by omega), Option.bind_some, ha, h1, Option.bind_some, if_neg (by decide), nI_1, h2, Option.bind_some, if_pos ((num512 hm).mpr h), nI_19, m_ast _ _ hv (by omega), Option.bind_some, h3, Option.bind_some, nI_3, h4, Option.bind_some, show (Int64.ofNat m).toInt32 = nI m from lN_i m, h5, Option.bind_some]
theorem lv1 (sn : Nat) : liveT 1 sn (4801 % 4800) := Or.inr (Or.inl ⟨rfl, rfl⟩)
/-- it goes on -/
theorem out_go {v N sn g pos pos' rc : Nat} {sb : SB} {r r' : RC} {w w1 : VS} {x x2 : MS} {lev T : Nat → Option Nat} {B : Nat → Nat} (hv : v < 2) (hr : rcS v r x pos rc) (h : vol v N 1 sn g w1 x2 lev T B) (hf : fr v x x2) (hrec : MS_rec x2 v = nI rc) (hat : MS_at x2 v = nI pos') (htg : MS_tgt x2 v = MS_tgt x v)
    (hr1 : RC_pos r' = nI pos') (hr2 : RC_rec r' = nI (rc + 1)) (hr3 : RC_tgt r' = RC_tgt r) (hp : pos + 13 ≤ pos') (hp2 : pos' ≤ 9766)
    (h1 : FX3_takeRecord r w sb = some (7, r', w1)) (h2 : ∀ s, FX8_sweeps (MS_setrec x2 (upd (MS_rec x2) v (MS_rec x2 v + 1))) (nI v) = some s → FX8_record x (nI v) = some (7, s)) : recOut v N sn g pos sb r w x := by
  obtain ⟨w', x', lev', T', B', a1, a2, a3, a4, a5⟩ := vol_settle hv (vol_rec (upd (MS_rec x2) v (MS_rec x2 v + 1)) h)
  obtain ⟨f1, f2, f3, f4⟩ := fr_frec a5
  have hrec' : MS_rec x' v = nI (rc + 1) := by
    rw [f2]
    show upd (MS_rec x2) v (MS_rec x2 v + 1) v = _
    rw [upd_self, hrec, nI_1]
  refine ⟨7, r', w1, x', h1, h2 x' a2, fr_trans hf (fr_trans (fr_rec x2 _) f1), by rw [hr2, hrec'], Or.inl ⟨rfl, w', lev', T', B', pos', rc + 1, a1, a3, a4, ⟨hr1, ?_, hr2, hrec', ?_, ?_, hp2⟩, by omega⟩⟩
  · rw [f3]; exact hat
  · rw [hr3, f4]
    show _ = MS_tgt x2 v
    rw [htg]; exact hr.2.2.2.2.1
  · have := hr.2.2.2.2.2.1
    omega
theorem rec_2 {v N sn g pos rc L : Nat} {sb : SB} {r : RC} {w : VS} {x x1 : MS} {lev T : Nat → Option Nat} {B : Nat → Nat} (hv : v < 2) (hr : rcS v r x pos rc) (hs : strR sb x L) (hp : pos < L) (hb : FX8_begins x (nI v) = some x1) (h : vol v N 1 sn g w x1 lev T B) (hf : rFree x1 v N lev) (hm : mF v x x1) (hc : MS_str x pos = 2) (hc2 : FX5_at sb (nI pos) = some 2) : recOut v N sn g pos sb r w x := by
  obtain ⟨f1, f2, f3, f4⟩ := fr_frec hm
  have hL := hs.2.2.1
  have hs1 := str_fr hs f1
  have hnear := rec_near hv hs hr.2.1 hp hb
  rw [hc] at hnear
  have hat : MS_at x1 v = nI pos := by rw [f3]; exact hr.2.1
  obtain ⟨q, w1, w2, w3, w4⟩ := both_whole (s := pos) (sz := 19) hs1 (by omega) (by omega) (by omega)
  have w1' : FX5_isWhole sb (RC_pos r) 19 = some q := by rw [hr.1]; exact w1
  have hc2' : FX5_at sb (RC_pos r) = some 2 := by rw [hr.1]; exact hc2
  have w2' : FX8_isWhole x1 (nI pos) 19 = some q := w2
  rcases w3 with rfl | rfl
  · exact out_stop hv hr h f1 f2 (Or.inl rfl) (tk_torn hc2' rfl w1') (fun s hs => by rw [hnear]; exact rest_2stop (wh_torn hv hat w2') (by decide) hs)
  · have hle := w4 rfl
    obtain ⟨m, m1, m2, m3⟩ := both_num2 (s := pos + 1) hs1 (by omega)
    by_cases hm5 : m < 512
    · obtain ⟨fa1, -⟩ := fr_at (v := v) x1 (nI (pos + 19))
      have hs2 := str_fr hs1 (fr_at (v := v) x1 (nI (pos + 19)))
      obtain ⟨m', m1', m2', m3'⟩ := both_num2 (s := pos + 1) hs2 (by omega)
      have hmm : Int64.ofNat m' = Int64.ofNat m := by rw [m2] at m2'; exact (Option.some.inj m2').symm
      rw [hmm] at m3'
      obtain ⟨z, z1, z2⟩ := both_num (s := pos + 3) (sz := 8) hs2 (by omega)
      have z1' : FX5_numberAt sb (nI (pos + 3)) 8 = some z := z1
      have z2' : FX8_number (MS_setat x1 (upd (MS_at x1) v (nI (pos + 19)))) (nI (pos + 3)) 8 = some z := z2
      obtain ⟨k, w2', x2, lev', T', B', c1, c2, c3, c4, c5, c6⟩ := vol_writes (s0 := 4801) (p := m) z hv hm5 (by omega) (by omega) (lv1 sn) (vol_at (upd (MS_at x1) v (nI (pos + 19))) h) hf
      have c2' : FX8_writes (MS_setat x1 (upd (MS_at x1) v (nI (pos + 19)))) (nI v) 1 (nI m) z = some (if k = 0 then 5 else 0, x2) := c2
      obtain ⟨k1, k2, k3, k4⟩ := fr_frec c6
      have hW := wh_go hv hat w2 m1 m3 hm5 m3' z2' c2'
      have hT := tw_go (w := w) hr.1 m1 m2 hm5 z1' c1
      have hTk := tk_2 (w := w) hc2' w1'
      rw [hT] at hTk
      have hfr : fr v x x2 := fr_trans f1 (fr_trans (fr_at x1 _) k1)
      rcases c3 with rfl | rfl
      · rw [if_pos rfl] at hW hTk
        rw [tkRest_stop (Or.inr rfl)] at hTk
        refine out_stop hv hr c4 hfr (k2.trans f2) (Or.inr rfl) hTk (fun s hs => by rw [hnear]; exact rest_2stop hW (by decide) hs)
      · rw [if_neg (by decide)] at hW hTk
        rw [tkRest_go (Or.inl rfl)] at hTk
        refine out_go (r' := RC_setrec (RC_setpos r (RC_pos r + 19)) (RC_rec r + 1)) (pos' := pos + 19) hv hr c4 hfr ?_ ?_ ?_ ?_ ?_ rfl (by omega) (by omega) hTk (fun s hs => by rw [hnear]; exact rest_2go hv hW hs)
        · rw [k2]
          show MS_rec x1 v = nI rc
          rw [f2]; exact hr.2.2.2.1
        · rw [k3]; exact upd_self
        · rw [k4]
          show MS_tgt x1 v = _
          rw [f4]
        · show RC_pos r + 19 = _
          rw [hr.1, nI_19]
        · show RC_rec r + 1 = _
          rw [hr.2.2.1, nI_1]
    · have hTk := tk_2 (w := w) hc2' w1'
      rw [tw_bad hr.1 m1 m2 hm5, tkRest_stop (Or.inl rfl)] at hTk
      exact out_stop hv hr h f1 f2 (Or.inl rfl) hTk (fun s hs => by rw [hnear]; exact rest_2stop (wh_bad hv hat w2 m1 m3 hm5) (by decide) hs)
