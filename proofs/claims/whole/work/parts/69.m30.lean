/-! PART 69: RECORDS put behind THE STREAM; SUMS held against them -/
theorem sub_ltI {a b c : Nat} (ha : a < 2 ^ 20) (hb : b < 2 ^ 20) (hc : c < 2 ^ 20) : nI a - nI b < nI c ↔ a < b + c := by
  rw [Int32.lt_iff_toInt_lt, Int32.toInt_sub, nI_toInt (by omega), nI_toInt (by omega), nI_toInt (by omega), Int.bmod_eq_of_le (by omega) (by omega)]
  omega
theorem nI_sub8 {k : Nat} : nI (k + 8) - 8 = nI k := by
  rw [← nI_add, show (8 : Int32) = nI 8 from rfl, Int32.add_sub_cancel]
theorem both_whole {sb : SB} {x : MS} {L s sz : Nat} (h : strR sb x L) (hs : s < 2 ^ 20) (h8 : 8 ≤ sz) (hsz : sz < 2 ^ 20) :
    ∃ r, FX5_isWhole sb (nI s) (nI sz) = some r ∧ FX8_isWhole x (nI s) (nI sz) = some r ∧ (r = 0 ∨ r = 1) ∧ (r = 1 → s + sz ≤ L) := by
  obtain ⟨h1, h2, h3, h4⟩ := id h
  unfold FX5_isWhole FX8_isWhole
  rw [if_neg (show ¬ nI sz < 8 by rw [show (8 : Int32) = nI 8 from rfl]; exact nI_nlt h8 (by omega)), h1, h2, nI_add]
  by_cases hle : s + sz ≤ L
  · rw [if_pos (nI_le hle (by omega)), if_neg (fun z => by have := (sub_ltI (by omega) hs hsz).mp z; omega)]
    obtain ⟨k, hk⟩ : ∃ k, s + sz = k + 8 := ⟨s + sz - 8, by omega⟩
    rw [hk, nI_sub8]
    obtain ⟨z1, q1, q2⟩ := both_sum (s := s) (e := k) h (by omega) (by omega)
    obtain ⟨z2, q3, q4⟩ := both_num (s := k) (sz := 8) h (by omega)
    have q3' : FX5_numberAt sb (nI k) 8 = some z2 := q3
    have q4' : FX8_number x (nI k) 8 = some z2 := q4
    rw [q1, q2, q3', q4', Option.bind_some, Option.bind_some, Option.bind_some, Option.bind_some]
    by_cases e : z1 = z2
    · rw [if_pos ((lg_cmp_eq z1 z2).mpr e), if_pos ((lg_cmp_eq z2 z1).mpr e.symm)]
      exact ⟨1, rfl, rfl, Or.inr rfl, fun _ => by omega⟩
    · rw [if_neg (fun z => e ((lg_cmp_eq z1 z2).mp z)), if_neg (fun z => e ((lg_cmp_eq z2 z1).mp z).symm)]
      exact ⟨0, rfl, rfl, Or.inl rfl, fun z => by cases z⟩
  · rw [if_neg (nI_ge (by omega) (by omega)), if_pos ((sub_ltI (by omega) hs hsz).mpr (by omega))]
    exact ⟨0, rfl, rfl, Or.inl rfl, fun z => by cases z⟩
/-- what x holds but for THE STREAM and what is told of it, y holds -/
def fS (x y : MS) : Prop := MS_thr y = MS_thr x ∧ MS_many y = MS_many x ∧ MS_lev y = MS_lev x ∧ MS_tel y = MS_tel x ∧ MS_bir y = MS_bir x ∧ MS_dat y = MS_dat x ∧ MS_tt y = MS_tt x ∧ MS_tb y = MS_tb x ∧ MS_gen y = MS_gen x ∧ MS_snaps y = MS_snaps x ∧ MS_sg y = MS_sg x ∧ MS_sm y = MS_sm x ∧ MS_busy y = MS_busy x ∧ MS_at y = MS_at x ∧ MS_rec y = MS_rec x ∧ MS_tgt y = MS_tgt x ∧ MS_nm y = MS_nm x
theorem fS_refl (x : MS) : fS x x := ⟨rfl, rfl, rfl, rfl, rfl, rfl, rfl, rfl, rfl, rfl, rfl, rfl, rfl, rfl, rfl, rfl, rfl⟩
theorem fS_trans {x y z : MS} (h : fS x y) (h' : fS y z) : fS x z := by
  obtain ⟨a1, a2, a3, a4, a5, a6, a7, a8, a9, a10, a11, a12, a13, a14, a15, a16, a17⟩ := h
  obtain ⟨b1, b2, b3, b4, b5, b6, b7, b8, b9, b10, b11, b12, b13, b14, b15, b16, b17⟩ := h'
  exact ⟨b1.trans a1, b2.trans a2, b3.trans a3, b4.trans a4, b5.trans a5, b6.trans a6, b7.trans a7, b8.trans a8, b9.trans a9, b10.trans a10, b11.trans a11, b12.trans a12, b13.trans a13, b14.trans a14, b15.trans a15, b16.trans a16, b17.trans a17⟩
/-- the counts are the same too -/
def pF (x y : MS) : Prop := fS x y ∧ MS_recs y = MS_recs x ∧ MS_wr y = MS_wr x ∧ MS_cl y = MS_cl x ∧ MS_sn y = MS_sn x ∧ MS_rf y = MS_rf x
theorem pF_refl (x : MS) : pF x x := ⟨fS_refl x, rfl, rfl, rfl, rfl, rfl⟩
theorem pF_trans {x y z : MS} (h : pF x y) (h' : pF y z) : pF x z := by
  obtain ⟨a0, a1, a2, a3, a4, a5⟩ := h
  obtain ⟨b0, b1, b2, b3, b4, b5⟩ := h'
  exact ⟨fS_trans a0 b0, b1.trans a1, b2.trans a2, b3.trans a3, b4.trans a4, b5.trans a5⟩
theorem put_1 {sb : SB} {x : MS} {L k : Nat} (n : Int64) (h : strR sb x L) (hL : L < 9766) (hk : k < 8) :
    ∃ sb' y, FX5_put sb (nI L) (((((n : Int64).toUInt64 >>> (((8 * nI k) : Int32).toInt64.toUInt64 &&& Int64.toUInt64 63)).toInt64) : Int64).toInt32) = some sb' ∧ SB_len sb' = nI L ∧
      ast 16000 (MS_str x) (nI L) (vp_nar .byte (((((n >>> (((8 * nI k) : Int32).toInt64 &&& 63)) : Int64).toInt32) : Int32).toInt8.toInt32)) = some y ∧ strR (SB_setlen sb' (nI (L + 1))) (MS_setlen (MS_setstr x y) (nI (L + 1))) (L + 1) := by
  obtain ⟨h1, h2, h3, h4⟩ := id h
  refine ⟨SB_setcells sb (upd (SB_cells sb) L (vp_nar .byte ((((((n : Int64).toUInt64 >>> (((8 * nI k) : Int32).toInt64.toUInt64 &&& Int64.toUInt64 63)).toInt64) : Int64).toInt32).toInt8.toInt32))), upd (MS_str x) L (vp_nar .byte (((((n >>> (((8 * nI k) : Int32).toInt64 &&& 63)) : Int64).toInt32) : Int32).toInt8.toInt32)), ?_, h1, ?_, rfl, rfl, by omega, ?_⟩
  · unfold FX5_put
    rw [if_neg (nlt_0 (by omega)), i9766, if_neg (nI_ge hL (by omega)), m_ast _ _ hL (by omega), Option.bind_some]
  · rw [m_ast _ _ (by omega) (by omega)]
  · intro i hi
    show upd (SB_cells sb) L _ i = upd (MS_str x) L _ i ∧ bOk (upd (MS_str x) L _ i)
    by_cases e : i = L
    · rw [e, upd_self, upd_self, b_sh n k hk]
      exact ⟨rfl, by rw [nar_byte, b_idem]; exact bOk_mk _⟩
    · rw [upd_ne e, upd_ne e]
      exact h4 i hi
theorem put_L (n : Int64) (v3 v3' : Int32) (k9 : SB → Int32 → Option SB) (k8 : MS → Int32 → Option MS) : ∀ (k n9 m9 L : Nat) (sb : SB) (x : MS), k ≤ 8 → k < n9 → k < m9 → strR sb x L → L + k ≤ 9766 →
    ∃ sb' y, FX5_addNumber_L5 n v3 k9 n9 sb (nI k + (-1)) = k9 sb' (-1) ∧ FX8_put_L5 n v3' k8 m9 x (nI k + (-1)) = k8 y (-1) ∧ strR sb' y (L + k) ∧ pF x y := by
  intro k
  induction k with
  | zero =>
    intro n9 m9 L sb x h1 h2 h3 h h4
    cases n9 with
    | zero => omega
    | succ n9 =>
      cases m9 with
      | zero => omega
      | succ m9 =>
        refine ⟨sb, x, ?_, ?_, h, pF_refl x⟩
        · rw [FX5_addNumber_L5, if_pos (by decide)]; rfl
        · rw [FX8_put_L5, if_pos (by decide)]; rfl
  | succ k ih =>
    intro n9 m9 L sb x h1 h2 h3 h h4
    cases n9 with
    | zero => omega
    | succ n9 =>
      cases m9 with
      | zero => omega
      | succ m9 =>
        obtain ⟨sb1, f, p1, p2, p3, p4⟩ := put_1 (k := k) n h (by omega) (by omega)
        obtain ⟨sb', y, q1, q2, q3, q4⟩ := ih n9 m9 (L + 1) _ _ (by omega) (by omega) (by omega) p4 (by omega)
        refine ⟨sb', y, ?_, ?_, by rw [show L + (k + 1) = L + 1 + k by omega]; exact q3, pF_trans ⟨⟨rfl, rfl, rfl, rfl, rfl, rfl, rfl, rfl, rfl, rfl, rfl, rfl, rfl, rfl, rfl, rfl, rfl⟩, rfl, rfl, rfl, rfl, rfl⟩ q4⟩
        · rw [nI_dn, FX5_addNumber_L5, if_neg (nlt_0 (by omega)), i9766, h.1, if_neg (nI_ge (by omega) (by omega)), p1, Option.bind_some, p2, nI_1]
          exact q1
        · rw [nI_dn, FX8_put_L5, if_neg (nlt_0 (by omega)), h.2.1, p3, Option.bind_some, nI_1]
          exact q2
theorem both_put {sb : SB} {x : MS} {L sz : Nat} (n : Int64) (h : strR sb x L) (h8 : sz ≤ 8) (hL : L + sz ≤ 9766) :
    ∃ sb' y, FX5_addNumber sb n (nI sz) = some sb' ∧ FX8_put x n (nI sz) = some y ∧ strR sb' y (L + sz) ∧ pF x y := by
  obtain ⟨sb', y, q1, q2, q3, q4⟩ := put_L n (nI sz) (nI sz) (fun sbq5 _ => some sbq5) (fun xq4 _ => some xq4) sz 100000 100000 L sb x h8 (by omega) (by omega) h hL
  rw [← Int32.sub_eq_add_neg] at q1 q2
  exact ⟨sb', y, q1, q2, q3, q4⟩
theorem both_ends {sb : SB} {x : MS} {L s : Nat} (h : strR sb x L) (hr : MS_rf x = nI s) (hs : s ≤ L) (hL : L + 8 ≤ 9766) :
    ∃ z sb' y, FX5_sumOf sb (nI s) (SB_len sb) = some z ∧ FX5_addNumber sb z 8 = some sb' ∧ FX8_ends x = some y ∧ strR sb' y (L + 8) ∧ fS x y ∧ MS_recs y = MS_recs x + 1 ∧ MS_wr y = MS_wr x ∧ MS_cl y = MS_cl x ∧ MS_sn y = MS_sn x ∧ MS_rf y = nI (L + 8) := by
  obtain ⟨z, q1, q2⟩ := both_sum (s := s) (e := L) h hs (Nat.le_refl _)
  obtain ⟨sb', y, p1, p2, p3, p4⟩ := both_put (sz := 8) z h (by omega) hL
  have p1' : FX5_addNumber sb z 8 = some sb' := p1
  have p2' : FX8_put x z 8 = some y := p2
  refine ⟨z, sb', MS_setrecs (MS_setrf y (MS_len y)) (MS_recs y + 1), by rw [h.1]; exact q1, p1', ?_, ⟨p3.1, p3.2.1, p3.2.2.1, p3.2.2.2⟩, fS_trans p4.1 ⟨rfl, rfl, rfl, rfl, rfl, rfl, rfl, rfl, rfl, rfl, rfl, rfl, rfl, rfl, rfl, rfl, rfl⟩, ?_, p4.2.2.1, p4.2.2.2.1, p4.2.2.2.2.1, p3.2.1⟩
  · unfold FX8_ends
    rw [hr, h.2.1, q2, Option.bind_some, p2', Option.bind_some]
  · show MS_recs y + 1 = _
    rw [p4.2.1]
/-- the state of both while they send -/
def sendS (x0 : MS) (since : Int32) (d : SD) (sb : SB) (x : MS) (L : Nat) : Prop :=
  strR sb x L ∧ MS_rf x = nI L ∧ SD_since d = since ∧ SD_wr d = MS_wr x ∧ SD_cl d = MS_cl x ∧ SD_sn d = MS_sn x ∧ MS_recs x = (1 + MS_wr x) + MS_cl x ∧ fS x0 x
theorem both_clear {sb : SB} {x : MS} {L : Nat} (pl n : Int32) (h : strR sb x L) (hr : MS_rf x = nI L) (hL : L + 13 ≤ 9766) :
    ∃ sb' y, FX5_addClear sb pl n = some sb' ∧ ((FX8_put x 3 1).bind fun s18 => (FX8_put s18 ((pl : Int32).toInt64) 2).bind fun s20 => (FX8_put s20 ((n : Int32).toInt64) 2).bind fun s22 => FX8_ends s22) = some y ∧
      strR sb' y (L + 13) ∧ fS x y ∧ MS_recs y = MS_recs x + 1 ∧ MS_wr y = MS_wr x ∧ MS_cl y = MS_cl x ∧ MS_sn y = MS_sn x ∧ MS_rf y = nI (L + 13) := by
  obtain ⟨s1, y1, a1, a2, a3, a4⟩ := both_put (sz := 1) 3 h (by omega) (by omega)
  obtain ⟨s2, y2, c1, c2, c3, c4⟩ := both_put (sz := 2) ((pl : Int32).toInt64) a3 (by omega) (by omega)
  obtain ⟨s3, y3, d1, d2, d3, d4⟩ := both_put (sz := 2) ((n : Int32).toInt64) c3 (by omega) (by omega)
  have hp := pF_trans a4 (pF_trans c4 d4)
  obtain ⟨z, s4, y4, e1, e2, e3, e4, e5, e6, e7, e8, e9, e10⟩ := both_ends (s := L) d3 (by rw [hp.2.2.2.2.2]; exact hr) (by omega) (by omega)
  refine ⟨s4, y4, ?_, ?_, e4, fS_trans hp.1 e5, by rw [e6, hp.2.1], by rw [e7, hp.2.2.1], by rw [e8, hp.2.2.2.1], by rw [e9, hp.2.2.2.2.1], e10⟩
  · have a1' : FX5_addNumber sb 3 1 = some s1 := a1
    have c1' : FX5_addNumber s1 ((pl : Int32).toInt64) 2 = some s2 := c1
    have d1' : FX5_addNumber s2 ((n : Int32).toInt64) 2 = some s3 := d1
    unfold FX5_addClear
    rw [a1', Option.bind_some, c1', Option.bind_some, d1', Option.bind_some, h.1, e1, Option.bind_some, e2, Option.bind_some]
  · have a1' : FX8_put x 3 1 = some y1 := a2
    have c1' : FX8_put y1 ((pl : Int32).toInt64) 2 = some y2 := c2
    have d1' : FX8_put y2 ((n : Int32).toInt64) 2 = some y3 := d2
    rw [a1', Option.bind_some, c1', Option.bind_some, d1', Option.bind_some, e3]
theorem both_write1 {sb : SB} {x : MS} {L : Nat} (pl : Int32) (n : Int64) (h : strR sb x L) (hr : MS_rf x = nI L) (hL : L + 19 ≤ 9766) :
    ∃ sb' y, FX5_addWrite sb pl n = some sb' ∧ (∃ y2, ((FX8_put x 2 1).bind fun s18 => FX8_put s18 ((pl : Int32).toInt64) 2) = some y2 ∧ fS x y2 ∧ ((FX8_put y2 n 8).bind fun s22 => FX8_ends s22) = some y) ∧
      strR sb' y (L + 19) ∧ fS x y ∧ MS_recs y = MS_recs x + 1 ∧ MS_wr y = MS_wr x ∧ MS_cl y = MS_cl x ∧ MS_sn y = MS_sn x ∧ MS_rf y = nI (L + 19) := by
  obtain ⟨s1, y1, a1, a2, a3, a4⟩ := both_put (sz := 1) 2 h (by omega) (by omega)
  obtain ⟨s2, y2, c1, c2, c3, c4⟩ := both_put (sz := 2) ((pl : Int32).toInt64) a3 (by omega) (by omega)
  obtain ⟨s3, y3, d1, d2, d3, d4⟩ := both_put (sz := 8) n c3 (by omega) (by omega)
  have hp := pF_trans a4 (pF_trans c4 d4)
  obtain ⟨z, s4, y4, e1, e2, e3, e4, e5, e6, e7, e8, e9, e10⟩ := both_ends (s := L) d3 (by rw [hp.2.2.2.2.2]; exact hr) (by omega) (by omega)
  refine ⟨s4, y4, ?_, ⟨y2, ?_, (pF_trans a4 c4).1, ?_⟩, e4, fS_trans hp.1 e5, by rw [e6, hp.2.1], by rw [e7, hp.2.2.1], by rw [e8, hp.2.2.2.1], by rw [e9, hp.2.2.2.2.1], e10⟩
  · have a1' : FX5_addNumber sb 2 1 = some s1 := a1
    have c1' : FX5_addNumber s1 ((pl : Int32).toInt64) 2 = some s2 := c1
    have d1' : FX5_addNumber s2 n 8 = some s3 := d1
    unfold FX5_addWrite
    rw [a1', Option.bind_some, c1', Option.bind_some, d1', Option.bind_some, h.1, e1, Option.bind_some, e2, Option.bind_some]
  · have a1' : FX8_put x 2 1 = some y1 := a2
    have c1' : FX8_put y1 ((pl : Int32).toInt64) 2 = some y2 := c2
    rw [a1', Option.bind_some, c1']
  · have d1' : FX8_put y2 n 8 = some y3 := d2
    rw [d1', Option.bind_some, e3]
theorem both_begin {sb : SB} {x : MS} (n1 n2 : Int64) (h : strR sb x 0) (hr : MS_rf x = 0) :
    ∃ sb' y1 y2 y, FX5_addBegin sb n1 n2 = some sb' ∧ FX8_put x 1 1 = some y1 ∧ fS x y1 ∧ FX8_put y1 n1 8 = some y2 ∧ fS x y2 ∧ ((FX8_put y2 n2 8).bind fun s22 => FX8_ends s22) = some y ∧
      strR sb' y 25 ∧ fS x y ∧ MS_recs y = MS_recs x + 1 ∧ MS_wr y = MS_wr x ∧ MS_cl y = MS_cl x ∧ MS_sn y = MS_sn x ∧ MS_rf y = nI 25 := by
  obtain ⟨s1, y1, a1, a2, a3, a4⟩ := both_put (sz := 1) 1 h (by omega) (by omega)
  obtain ⟨s2, y2, c1, c2, c3, c4⟩ := both_put (sz := 8) n1 a3 (by omega) (by omega)
  obtain ⟨s3, y3, d1, d2, d3, d4⟩ := both_put (sz := 8) n2 c3 (by omega) (by omega)
  have hp := pF_trans a4 (pF_trans c4 d4)
  obtain ⟨z, s4, y4, e1, e2, e3, e4, e5, e6, e7, e8, e9, e10⟩ := both_ends (s := 0) d3 (by rw [hp.2.2.2.2.2]; exact hr) (by omega) (by omega)
  refine ⟨s4, y1, y2, y4, ?_, a2, a4.1, c2, (pF_trans a4 c4).1, ?_, e4, fS_trans hp.1 e5, by rw [e6, hp.2.1], by rw [e7, hp.2.2.1], by rw [e8, hp.2.2.2.1], by rw [e9, hp.2.2.2.2.1], e10⟩
  · have a1' : FX5_addNumber sb 1 1 = some s1 := a1
    have c1' : FX5_addNumber s1 n1 8 = some s2 := c1
    have d1' : FX5_addNumber s2 n2 8 = some s3 := d1
    unfold FX5_addBegin
    rw [a1', Option.bind_some, c1', Option.bind_some, d1', Option.bind_some, h.1, e1, Option.bind_some, e2, Option.bind_some]
  · have d1' : FX8_put y2 n2 8 = some y3 := d2
    rw [d1', Option.bind_some, e3]
theorem both_end1 {sb : SB} {x : MS} {L : Nat} (h : strR sb x L) (hr : MS_rf x = nI L) (hL : L + 13 ≤ 9766) :
    ∃ sb' y, FX5_addEnd sb (MS_recs x) = some sb' ∧ ((FX8_put x 4 1).bind fun s71 => (FX8_put s71 (((MS_recs s71) : Int32).toInt64) 4).bind fun s73 => (FX8_ends s73).bind fun s75 => some ((MS_len s75), s75)) = some (SB_len sb', y) ∧
      strR sb' y (L + 13) ∧ fS x y ∧ MS_wr y = MS_wr x ∧ MS_cl y = MS_cl x ∧ MS_sn y = MS_sn x := by
  obtain ⟨s1, y1, a1, a2, a3, a4⟩ := both_put (sz := 1) 4 h (by omega) (by omega)
  obtain ⟨s2, y2, c1, c2, c3, c4⟩ := both_put (sz := 4) (((MS_recs x) : Int32).toInt64) a3 (by omega) (by omega)
  have hp := pF_trans a4 c4
  obtain ⟨z, s4, y4, e1, e2, e3, e4, e5, e6, e7, e8, e9, e10⟩ := both_ends (s := L) c3 (by rw [hp.2.2.2.2.2]; exact hr) (by omega) (by omega)
  refine ⟨s4, y4, ?_, ?_, e4, fS_trans hp.1 e5, by rw [e7, hp.2.2.1], by rw [e8, hp.2.2.2.1], by rw [e9, hp.2.2.2.2.1]⟩
  · have a1' : FX5_addNumber sb 4 1 = some s1 := a1
    have c1' : FX5_addNumber s1 ((MS_recs x : Int32).toInt64) 4 = some s2 := c1
    unfold FX5_addEnd
    rw [a1', Option.bind_some, c1', Option.bind_some, h.1, e1, Option.bind_some, e2, Option.bind_some]
  · have a1' : FX8_put x 4 1 = some y1 := a2
    have c1' : FX8_put y1 ((MS_recs x : Int32).toInt64) 4 = some y2 := c2
    rw [a1', Option.bind_some, a4.2.1, c1', Option.bind_some, e3, Option.bind_some, e4.1, e4.2.1]
