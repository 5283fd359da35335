/-! PART 77: CLEAR and END received -/
theorem both_clearsL {v N sn g a c : Nat} {r : RC} {sb : SB} (hv : v < 2) (hac : a + c ≤ 512) (w2 : Int32) (k9 : VS → Int32 → Option (Int32 × VS)) (k8 : MS → Int32 → Int32 → Option (Int32 × MS)) :
    ∀ (m i n9 m9 : Nat) (w : VS) (x : MS) (lev T : Nat → Option Nat) (B : Nat → Nat), i + m = c → m < n9 → m < m9 → vol v N 1 sn g w x lev T B → rFree x v N lev →
      ∃ w' x' lev' T' B', vol v N 1 sn g w' x' lev' T' B' ∧ rFree x' v N lev' ∧ mF v x x' ∧
        ((∃ u, FX3_takeClear_L57 r sb (nI a) (nI c) k9 n9 w (nI i) = some (5, w') ∧ FX8_clearsHere_L64 (nI v) w2 (nI a) (nI c) k8 m9 x 0 (nI (a + i)) = k8 x' 5 u) ∨
         (FX3_takeClear_L57 r sb (nI a) (nI c) k9 n9 w (nI i) = k9 w' (nI c) ∧ FX8_clearsHere_L64 (nI v) w2 (nI a) (nI c) k8 m9 x 0 (nI (a + i)) = k8 x' 0 (nI (a + c)))) := by
  intro m
  induction m with
  | zero =>
    intro i n9 m9 w x lev T B h1 h2 h3 h hf
    cases n9 with
    | zero => omega
    | succ n9 =>
      cases m9 with
      | zero => omega
      | succ m9 =>
        have hi : i = c := by omega
        subst hi
        refine ⟨w, x, lev, T, B, h, hf, mF_refl v x, Or.inr ⟨?_, ?_⟩⟩
        · rw [FX3_takeClear_L57, if_pos (nI_le (Nat.le_refl _) (by omega))]
        · rw [FX8_clearsHere_L64, nI_add, if_pos (nI_le (Nat.le_refl _) (by omega))]
  | succ m ih =>
    intro i n9 m9 w x lev T B h1 h2 h3 h hf
    cases n9 with
    | zero => omega
    | succ n9 =>
      cases m9 with
      | zero => omega
      | succ m9 =>
        obtain ⟨k, w1, x1, lev1, T1, B1, c1, c2, c3, c4, c5, c6⟩ := vol_clears (s0 := 4801) (p := a + i) hv (by omega) (by omega) (by omega) (lv1 sn) h hf
        have c2' : FX8_clears x (nI v) 1 (nI (a + i)) = some (if k = 0 then 5 else 0, x1) := c2
        have E1 : FX3_takeClear_L57 r sb (nI a) (nI c) k9 (n9 + 1) w (nI i) = if k = 0 then some (5, w1) else FX3_takeClear_L57 r sb (nI a) (nI c) k9 n9 w1 (nI (i + 1)) := by
          rw [FX3_takeClear_L57, if_neg (nI_ge (by omega) (by omega)), nI_add, i4801, c1, Option.bind_some, nI_1]
        have E2 : FX8_clearsHere_L64 (nI v) w2 (nI a) (nI c) k8 (m9 + 1) x 0 (nI (a + i)) = FX8_clearsHere_L64 (nI v) w2 (nI a) (nI c) k8 m9 x1 (if k = 0 then 5 else 0) (nI (a + (i + 1))) := by
          rw [FX8_clearsHere_L64, nI_add, if_neg (nI_ge (by omega) (by omega)), if_pos rfl, c2', Option.bind_some, nI_1]
          rfl
        rw [E1, E2]
        rcases c3 with rfl | rfl
        · rw [if_pos rfl, if_pos rfl]
          refine ⟨w1, x1, lev1, T1, B1, c4, c5, c6, Or.inl ⟨nI (a + (i + 1)), rfl, ?_⟩⟩
          cases m9 with
          | zero => omega
          | succ m9 =>
            rw [FX8_clearsHere_L64]
            split
            · rfl
            · rw [if_neg (by decide)]
        · rw [if_neg (by decide), if_neg (by decide)]
          obtain ⟨w', x', lev', T', B', d1, d2, d3, d4⟩ := ih (i + 1) n9 m9 w1 x1 lev1 T1 B1 (by omega) (by omega) (by omega) c4 c5
          exact ⟨w', x', lev', T', B', d1, d2, mF_trans c6 d3, d4⟩
theorem tc_bad {r : RC} {w : VS} {sb : SB} {pos a c : Nat} (hp : RC_pos r = nI pos) (ha : a < 65536) (hc : c < 65536) (h1 : FX5_numberAt sb (nI (pos + 1)) 2 = some (Int64.ofNat a)) (h2 : FX5_numberAt sb (nI (pos + 3)) 2 = some (Int64.ofNat c)) (h : ¬ (1 ≤ c ∧ a + c ≤ 512)) : FX3_takeClear r w sb = some (1, w) := by
  unfold FX3_takeClear
  rw [hp, nI_1, h1, Option.bind_some, nI_3, h2, Option.bind_some, show (Int64.ofNat a).toInt32 = nI a from lN_i a, show (Int64.ofNat c).toInt32 = nI c from lN_i c, (isPl (by omega)).1, Option.bind_some]
  by_cases h5 : a < 512
  · rw [if_pos h5, if_neg (by decide)]
    by_cases h6 : c < 1
    · rw [if_pos (show nI c < 1 by rw [show (1 : Int32) = nI 1 from rfl]; exact nI_lt h6 (by omega))]
    · rw [if_neg (show ¬ nI c < 1 by rw [show (1 : Int32) = nI 1 from rfl]; exact nI_nlt (by omega) (by omega)), nI_add, if_neg (show ¬ nI (a + c) ≤ 512 by rw [show (512 : Int32) = nI 512 from rfl]; exact nI_ge (by omega) (by omega))]
  · rw [if_neg h5, if_pos rfl]
theorem tc_go {r : RC} {w : VS} {sb : SB} {pos a c : Nat} (hp : RC_pos r = nI pos) (h1 : FX5_numberAt sb (nI (pos + 1)) 2 = some (Int64.ofNat a)) (h2 : FX5_numberAt sb (nI (pos + 3)) 2 = some (Int64.ofNat c)) (h : 1 ≤ c ∧ a + c ≤ 512) : FX3_takeClear r w sb = FX3_takeClear_L57 r sb (nI a) (nI c) (fun vq15 _ => some (7, vq15)) 100000 w 0 := by
  unfold FX3_takeClear
  rw [hp, nI_1, h1, Option.bind_some, nI_3, h2, Option.bind_some, show (Int64.ofNat a).toInt32 = nI a from lN_i a, show (Int64.ofNat c).toInt32 = nI c from lN_i c, (isPl (by omega)).1, Option.bind_some, if_pos (show a < 512 by omega), if_neg (by decide), if_neg (show ¬ nI c < 1 by rw [show (1 : Int32) = nI 1 from rfl]; exact nI_nlt (by omega) (by omega)), nI_add, if_pos (show nI (a + c) ≤ 512 by rw [show (512 : Int32) = nI 512 from rfl]; exact nI_le (by omega) (by omega))]
theorem ch_torn {x : MS} {v pos : Nat} (hv : v < 2) (ha : MS_at x v = nI pos) (h1 : FX8_isWhole x (nI pos) 13 = some 0) : FX8_clearsHere x (nI v) = some (1, x) := by
  unfold FX8_clearsHere
  rw [m_ald _ hv (by omega), Option.bind_some, ha, h1, Option.bind_some, if_pos rfl]
theorem ch_bad {x : MS} {v pos a c : Nat} (hv : v < 2) (hat : MS_at x v = nI pos) (h0 : FX8_isWhole x (nI pos) 13 = some 1) (ha : a < 65536) (hc : c < 65536) (h1 : FX8_number x (nI (pos + 1)) 2 = some (Int64.ofNat a)) (h2 : FX8_number x (nI (pos + 3)) 2 = some (Int64.ofNat c)) (h : ¬ (1 ≤ c ∧ a + c ≤ 512)) : FX8_clearsHere x (nI v) = some (1, x) := by
  unfold FX8_clearsHere
  rw [m_ald _ hv (by omega), Option.bind_some, hat, h0, Option.bind_some, if_neg (by decide), nI_1, h1, Option.bind_some, nI_3, h2, Option.bind_some, show (Int64.ofNat a).toInt32 = nI a from lN_i a, show (Int64.ofNat c).toInt32 = nI c from lN_i c]
  by_cases h6 : c < 1
  · rw [if_pos (show nI c < 1 by rw [show (1 : Int32) = nI 1 from rfl]; exact nI_lt h6 (by omega))]
  · rw [if_neg (show ¬ nI c < 1 by rw [show (1 : Int32) = nI 1 from rfl]; exact nI_nlt (by omega) (by omega)), nI_add, if_neg (show ¬ nI (a + c) ≤ 512 by rw [show (512 : Int32) = nI 512 from rfl]; exact nI_ge (by omega) (by omega))]
theorem ch_go {x : MS} {v pos a c : Nat} (hv : v < 2) (hat : MS_at x v = nI pos) (h0 : FX8_isWhole x (nI pos) 13 = some 1) (h1 : FX8_number x (nI (pos + 1)) 2 = some (Int64.ofNat a)) (h2 : FX8_number x (nI (pos + 3)) 2 = some (Int64.ofNat c)) (h : 1 ≤ c ∧ a + c ≤ 512) :
    FX8_clearsHere x (nI v) = FX8_clearsHere_L64 (nI v) (nI pos) (nI a) (nI c) (fun xq17 w5_17 _ => (ast 2 (MS_at xq17) (nI v) (nI (pos + 13))).bind fun g18 => some (w5_17, (MS_setat xq17 g18))) 100000 x 0 (nI a) := by
  unfold FX8_clearsHere
  rw [m_ald _ hv (by omega), Option.bind_some, hat, h0, Option.bind_some, if_neg (by decide), nI_1, h1, Option.bind_some, nI_3, h2, Option.bind_some, show (Int64.ofNat a).toInt32 = nI a from lN_i a, show (Int64.ofNat c).toInt32 = nI c from lN_i c, if_neg (show ¬ nI c < 1 by rw [show (1 : Int32) = nI 1 from rfl]; exact nI_nlt (by omega) (by omega)), nI_add, if_pos (show nI (a + c) ≤ 512 by rw [show (512 : Int32) = nI 512 from rfl]; exact nI_le (by omega) (by omega)), nI_13]
theorem rec_3 {v N sn g pos rc L : Nat} {sb : SB} {r : RC} {w : VS} {x x1 : MS} {lev T : Nat → Option Nat} {B : Nat → Nat} (hv : v < 2) (hr : rcS v r x pos rc) (hs : strR sb x L) (hp : pos < L) (hb : FX8_begins x (nI v) = some x1) (h : vol v N 1 sn g w x1 lev T B) (hf : rFree x1 v N lev) (hm : mF v x x1) (hc : MS_str x pos = 3) (hc2 : FX5_at sb (nI pos) = some 3) : recOut v N sn g pos sb r w x := by
  obtain ⟨f1, f2, f3, f4⟩ := fr_frec hm
  have hL := hs.2.2.1
  have hs1 := str_fr hs f1
  have hnear := rec_near hv hs hr.2.1 hp hb
  rw [hc] at hnear
  have hat : MS_at x1 v = nI pos := by rw [f3]; exact hr.2.1
  obtain ⟨q, w1, w2, w3, w4⟩ := both_whole (s := pos) (sz := 13) hs1 (by omega) (by omega) (by omega)
  have w1' : FX5_isWhole sb (RC_pos r) 13 = some q := by rw [hr.1]; exact w1
  have hc2' : FX5_at sb (RC_pos r) = some 3 := by rw [hr.1]; exact hc2
  have w2' : FX8_isWhole x1 (nI pos) 13 = some q := w2
  rcases w3 with rfl | rfl
  · exact out_stop hv hr h f1 f2 (Or.inl rfl) (tk_torn hc2' rfl w1') (fun s hs => by rw [hnear]; exact rest_3stop (ch_torn hv hat w2') (by decide) hs)
  · have hle := w4 rfl
    obtain ⟨a, a1, a2, a3⟩ := both_num2 (s := pos + 1) hs1 (by omega)
    obtain ⟨c, c1, c2, c3⟩ := both_num2 (s := pos + 3) hs1 (by omega)
    have hTk := tk_3 (w := w) hc2' w1'
    by_cases hok : 1 ≤ c ∧ a + c ≤ 512
    · rw [tc_go hr.1 a2 c2 hok] at hTk
      have hC := ch_go hv hat w2' a3 c3 hok
      obtain ⟨w', x', lev', T', B', d1, d2, d3, d4⟩ := both_clearsL (r := r) (sb := sb) hv hok.2 (nI pos) (fun vq15 _ => some (7, vq15)) (fun xq17 w5_17 _ => (ast 2 (MS_at xq17) (nI v) (nI (pos + 13))).bind fun g18 => some (w5_17, (MS_setat xq17 g18))) c 0 100000 100000 w x1 lev T B (by omega) (by omega) (by omega) h hf
      obtain ⟨k1, k2, k3, k4⟩ := fr_frec d3
      rcases d4 with ⟨u, e1, e2⟩ | ⟨e1, e2⟩
      · have e1' : FX3_takeClear_L57 r sb (nI a) (nI c) (fun vq15 _ => some (7, vq15)) 100000 w 0 = some (5, w') := e1
        have e2' := hC.trans e2
        rw [m_ast _ _ hv (by omega), Option.bind_some] at e2'
        rw [e1', tkRest_stop (Or.inr rfl)] at hTk
        exact out_stop hv hr (vol_at (upd (MS_at x') v (nI (pos + 13))) d1) (fr_trans f1 (fr_trans k1 (fr_at x' _))) (k2.trans f2) (Or.inr rfl) hTk (fun s hs => by rw [hnear]; exact rest_3stop e2' (by decide) hs)
      · have e1' : FX3_takeClear_L57 r sb (nI a) (nI c) (fun vq15 _ => some (7, vq15)) 100000 w 0 = some (7, w') := e1
        have e2' := hC.trans e2
        rw [m_ast _ _ hv (by omega), Option.bind_some] at e2'
        rw [e1', tkRest_go (Or.inl rfl)] at hTk
        refine out_go (r' := RC_setrec (RC_setpos r (RC_pos r + 13)) (RC_rec r + 1)) (pos' := pos + 13) hv hr (vol_at (upd (MS_at x') v (nI (pos + 13))) d1) (fr_trans f1 (fr_trans k1 (fr_at x' _))) ?_ ?_ ?_ ?_ ?_ rfl (by omega) (by omega) hTk (fun s hs => by rw [hnear]; exact rest_3go hv e2' hs)
        · show MS_rec x' v = nI rc
          rw [k2, f2]; exact hr.2.2.2.1
        · exact upd_self
        · show MS_tgt x' v = _
          rw [k4, f4]
        · show RC_pos r + 13 = _
          rw [hr.1, nI_13]
        · show RC_rec r + 1 = _
          rw [hr.2.2.1, nI_1]
    · rw [tc_bad hr.1 a1 c1 a2 c2 hok, tkRest_stop (Or.inl rfl)] at hTk
      exact out_stop hv hr h f1 f2 (Or.inl rfl) hTk (fun s hs => by rw [hnear]; exact rest_3stop (ch_bad hv hat w2' a1 c1 a3 c3 hok) (by decide) hs)
theorem te_bad {r : RC} {w : VS} {sb : SB} {pos rc L : Nat} {z : Int64} (hp : RC_pos r = nI pos) (hrc : RC_rec r = nI rc) (hL : SB_len sb = nI L) (h1 : FX5_numberAt sb (nI (pos + 1)) 4 = some z) (hrc2 : rc < 2 ^ 20) (hp2 : pos < 2 ^ 20) (hL2 : L < 2 ^ 20) (h : ¬ (z = lN (rc + 1) ∧ pos + 13 = L)) : FX3_takeEnd r w sb = some (1, w) := by
  have e1 : (1 : Int64) + (nI rc).toInt64 = lN (rc + 1) := by rw [nI_l (by omega), show (1 : Int64) = lN 1 from rfl, lN_add, Nat.add_comm]
  unfold FX3_takeEnd FX5_length
  rw [hp, nI_1, h1, Option.bind_some, hrc, e1]
  by_cases h5 : z = lN (rc + 1)
  · rw [if_pos ((lg_cmp_eq _ _).mpr h5), Option.bind_some, nI_13, hL, if_neg (fun q => h ⟨h5, (nI_eq (by omega) (by omega)).mp q⟩)]
  · rw [if_neg (fun q => h5 ((lg_cmp_eq _ _).mp q))]
theorem te_full {r : RC} {w : VS} {sb : SB} {pos rc L : Nat} (hp : RC_pos r = nI pos) (hrc : RC_rec r = nI rc) (hL : SB_len sb = nI L) (h1 : FX5_numberAt sb (nI (pos + 1)) 4 = some (lN (rc + 1))) (hrc2 : rc < 2 ^ 20) (h : pos + 13 = L) (hsn : VS_snaps w = nI 20) : FX3_takeEnd r w sb = some (5, w) := by
  have e1 : (1 : Int64) + (nI rc).toInt64 = lN (rc + 1) := by rw [nI_l (by omega), show (1 : Int64) = lN 1 from rfl, lN_add, Nat.add_comm]
  unfold FX3_takeEnd FX5_length FX6_snapshots
  rw [hp, nI_1, h1, Option.bind_some, hrc, e1, if_pos ((lg_cmp_eq _ _).mpr rfl), Option.bind_some, nI_13, hL, h, if_pos rfl, Option.bind_some, hsn, if_neg (by decide)]
theorem te_go {r : RC} {w w' : VS} {sb : SB} {pos rc L sn : Nat} (hp : RC_pos r = nI pos) (hrc : RC_rec r = nI rc) (hL : SB_len sb = nI L) (h1 : FX5_numberAt sb (nI (pos + 1)) 4 = some (lN (rc + 1))) (hrc2 : rc < 2 ^ 20) (h : pos + 13 = L) (hsn : VS_snaps w = nI sn) (hsn2 : sn < 20) (h2 : FX6_keepHidden w (RC_tgt r) = some w') : FX3_takeEnd r w sb = some (0, w') := by
  have e1 : (1 : Int64) + (nI rc).toInt64 = lN (rc + 1) := by rw [nI_l (by omega), show (1 : Int64) = lN 1 from rfl, lN_add, Nat.add_comm]
  unfold FX3_takeEnd FX5_length FX6_snapshots
  rw [hp, nI_1, h1, Option.bind_some, hrc, e1, if_pos ((lg_cmp_eq _ _).mpr rfl), Option.bind_some, nI_13, hL, h, if_pos rfl, Option.bind_some, hsn, if_pos (show nI sn < 20 by rw [show (20 : Int32) = nI 20 from rfl]; exact nI_lt hsn2 (by omega)), h2, Option.bind_some]
theorem eh_torn {x : MS} {v pos : Nat} (hv : v < 2) (ha : MS_at x v = nI pos) (h1 : FX8_isWhole x (nI pos) 13 = some 0) : FX8_endsHere x (nI v) = some (1, x) := by
  unfold FX8_endsHere
  rw [m_ald _ hv (by omega), Option.bind_some, ha, h1, Option.bind_some, if_pos rfl]
theorem eh_bad {x : MS} {v pos rc L : Nat} {z : Int64} (hv : v < 2) (hat : MS_at x v = nI pos) (hrc : MS_rec x v = nI rc) (hL : MS_len x = nI L) (h0 : FX8_isWhole x (nI pos) 13 = some 1) (h1 : FX8_number x (nI (pos + 1)) 4 = some z) (hrc2 : rc < 2 ^ 20) (hp2 : pos < 2 ^ 20) (hL2 : L < 2 ^ 20) (h : ¬ (z = lN (rc + 1) ∧ pos + 13 = L)) : FX8_endsHere x (nI v) = some (1, x) := by
  unfold FX8_endsHere
  rw [m_ald _ hv (by omega), Option.bind_some, hat, h0, Option.bind_some, if_neg (by decide), Option.bind_some, nI_1, h1, Option.bind_some, m_ald _ hv (by omega), Option.bind_some, hrc, nI_1, nI_l (by omega)]
  by_cases h5 : z = lN (rc + 1)
  · rw [if_pos ((lg_cmp_eq _ _).mpr h5), Option.bind_some, nI_13, hL, if_neg (fun q => h ⟨h5, ((nI_eq (by omega) (by omega)).mp q).symm⟩)]
  · rw [if_neg (fun q => h5 ((lg_cmp_eq _ _).mp q))]
theorem eh_full {x : MS} {v pos rc L : Nat} (hv : v < 2) (hat : MS_at x v = nI pos) (hrc : MS_rec x v = nI rc) (hL : MS_len x = nI L) (h0 : FX8_isWhole x (nI pos) 13 = some 1) (h1 : FX8_number x (nI (pos + 1)) 4 = some (lN (rc + 1))) (hrc2 : rc < 2 ^ 20) (h : pos + 13 = L) (hsn : MS_snaps x v = nI 20) : FX8_endsHere x (nI v) = some (5, x) := by
  unfold FX8_endsHere
  rw [m_ald _ hv (by omega), Option.bind_some, hat, h0, Option.bind_some, if_neg (by decide), Option.bind_some, nI_1, h1, Option.bind_some, m_ald _ hv (by omega), Option.bind_some, hrc, nI_1, nI_l (by omega), if_pos ((lg_cmp_eq _ _).mpr rfl), Option.bind_some, nI_13, hL, h, if_pos rfl, m_ald _ hv (by omega), Option.bind_some, hsn, if_pos (by decide)]
theorem eh_go {x y : MS} {v pos rc L sn : Nat} (hv : v < 2) (hat : MS_at x v = nI pos) (hrc : MS_rec x v = nI rc) (hL : MS_len x = nI L) (h0 : FX8_isWhole x (nI pos) 13 = some 1) (h1 : FX8_number x (nI (pos + 1)) 4 = some (lN (rc + 1))) (hrc2 : rc < 2 ^ 20) (h : pos + 13 = L) (hsn : MS_snaps x v = nI sn) (hsn2 : sn < 20)
    (h2 : FX8_snaps (MS_settb (MS_settt x (upd (MS_tt x) (22 * v) (MS_tt x (22 * v + 1)))) (upd (MS_tb x) (22 * v) (MS_tb x (22 * v + 1)))) (nI v) 0 (MS_tgt x v) = some y) : FX8_endsHere x (nI v) = some (0, y) := by
  unfold FX8_endsHere
  rw [m_ald _ hv (by omega), Option.bind_some, hat, h0, Option.bind_some, if_neg (by decide), Option.bind_some, nI_1, h1, Option.bind_some, m_ald _ hv (by omega), Option.bind_some, hrc, nI_1, nI_l (by omega), if_pos ((lg_cmp_eq _ _).mpr rfl), Option.bind_some, nI_13, hL, h, if_pos rfl, m_ald _ hv (by omega), Option.bind_some, hsn,
    if_neg (show ¬ nI sn = 20 by rw [show (20 : Int32) = nI 20 from rfl]; exact fun q => by have := (nI_eq (by omega) (by omega)).mp q; omega), p0 22 v 22 rfl, p1' 22 v 22 rfl, m_ald _ (by omega) (by omega), Option.bind_some, m_ast _ _ (by omega) (by omega), Option.bind_some, m_ald _ (by omega) (by omega), Option.bind_some, m_ast _ _ (by omega) (by omega), Option.bind_some, m_ald _ hv (by omega), Option.bind_some, h2, Option.bind_some]
theorem rec_4 {v N sn g pos rc L : Nat} {sb : SB} {r : RC} {w : VS} {x x1 : MS} {lev T : Nat → Option Nat} {B : Nat → Nat} (hv : v < 2) (hg : g + 1 < 2 ^ 31) (hr : rcS v r x pos rc) (hs : strR sb x L) (hp : pos < L) (hb : FX8_begins x (nI v) = some x1) (h : vol v N 1 sn g w x1 lev T B) (hm : mF v x x1) (hc : MS_str x pos = 4) (hc2 : FX5_at sb (nI pos) = some 4) : recOut v N sn g pos sb r w x := by
  obtain ⟨f1, f2, f3, f4⟩ := fr_frec hm
  have hL := hs.2.2.1
  have hs1 := str_fr hs f1
  have hnear := rec_near hv hs hr.2.1 hp hb
  rw [hc] at hnear
  have hat : MS_at x1 v = nI pos := by rw [f3]; exact hr.2.1
  have hrx : MS_rec x1 v = nI rc := by rw [f2]; exact hr.2.2.2.1
  have hrc := hr.2.2.2.2.2.1
  obtain ⟨q, w1, w2, w3, w4⟩ := both_whole (s := pos) (sz := 13) hs1 (by omega) (by omega) (by omega)
  have w1' : FX5_isWhole sb (RC_pos r) 13 = some q := by rw [hr.1]; exact w1
  have hc2' : FX5_at sb (RC_pos r) = some 4 := by rw [hr.1]; exact hc2
  have w2' : FX8_isWhole x1 (nI pos) 13 = some q := w2
  rcases w3 with rfl | rfl
  · exact out_stop hv hr h f1 f2 (Or.inl rfl) (tk_torn hc2' rfl w1') (fun s hs => by rw [hnear]; exact rest_4stop (eh_torn hv hat w2') (by decide) hs)
  · have hle := w4 rfl
    obtain ⟨z, z1, z2⟩ := both_num (s := pos + 1) (sz := 4) hs1 (by omega)
    have z1' : FX5_numberAt sb (nI (pos + 1)) 4 = some z := z1
    have z2' : FX8_number x1 (nI (pos + 1)) 4 = some z := z2
    have hTk := tk_4 (w := w) hc2' w1'
    by_cases hok : z = lN (rc + 1) ∧ pos + 13 = L
    · obtain ⟨hz, hpL⟩ := hok
      subst hz
      obtain ⟨hsn1, hsn2, hsn3⟩ := h.2.2.2.2.2.2.2.1
      by_cases hsn : sn = 20
      · subst hsn
        rw [te_full hr.1 hr.2.2.1 hs1.1 z1' (by omega) hpL hsn1, tkRest_stop (Or.inr rfl)] at hTk
        exact out_stop hv hr h f1 f2 (Or.inr rfl) hTk (fun s hs => by rw [hnear]; exact rest_4stop (eh_full hv hat hrx hs1.2.1 w2' z2' (by omega) hpL hsn2) (by decide) hs)
      · obtain ⟨w2, y, T', B', d1, d2, d3, d4, d5⟩ := vol_end (RC_tgt r) hv h (by omega) hg
        obtain ⟨b3, w', x', lev', T'', B'', e1, e2, e3, e4, e5, e6, e7⟩ := vol_done hv (vol_rec (upd (MS_rec y) v (MS_rec y v + 1)) d3)
        rw [e1, Option.bind_some] at d1
        have htg : RC_tgt r = MS_tgt x1 v := by rw [f4]; exact hr.2.2.2.2.1
        rw [htg] at d2
        rw [te_go hr.1 hr.2.2.1 hs1.1 z1' (by omega) hpL hsn1 (by omega) d1, tkRest_go (Or.inr rfl)] at hTk
        refine ⟨0, _, _, x', hTk, ?_, fr_trans f1 (fr_trans d4 (fr_trans (fr_rec y _) e6)), ?_, Or.inr (Or.inl ⟨rfl, w', lev', T'', B'', e2, e4, e5, by omega⟩)⟩
        · rw [hnear]
          exact rest_4go hv (eh_go hv hat hrx hs1.2.1 w2' z2' (by omega) hpL hsn2 (by omega) d2) e3
        · rw [e7]
          show RC_rec r + 1 = upd (MS_rec y) v (MS_rec y v + 1) v
          rw [upd_self, d5, f2, hr.2.2.1, hr.2.2.2.1]
    · rw [te_bad hr.1 hr.2.2.1 hs1.1 z1' (by omega) (by omega) (by omega) hok, tkRest_stop (Or.inl rfl)] at hTk
      exact out_stop hv hr h f1 f2 (Or.inl rfl) hTk (fun s hs => by rw [hnear]; exact rest_4stop (eh_bad hv hat hrx hs1.2.1 w2' z2' (by omega) (by omega) (by omega) hok) (by decide) hs)
