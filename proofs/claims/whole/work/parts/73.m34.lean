/-! PART 73: both begin to receive -/
def rcvHide (p1 : Int32) (xq39 : MS) : Option (Int32 × MS) :=
                        (ald 44 (MS_tt xq39) ((22 * p1) + 0)).bind fun r40 =>
                        (ast 44 (MS_tt xq39) ((22 * p1) + 1) r40).bind fun g42 =>
                        (ald 44 (MS_tb xq39) ((22 * p1) + 0)).bind fun r44 =>
                        (ast 44 (MS_tb xq39) ((22 * p1) + 1) r44).bind fun g46 =>
                        (ast 2 (MS_busy xq39) p1 (vp_nar .boolean 1)).bind fun g48 =>
                        (ast 2 (MS_at xq39) p1 25).bind fun g50 =>
                        (ast 2 (MS_rec xq39) p1 0).bind fun g52 =>
                        (FX8_number (MS_setrec (MS_setat (MS_setbusy (MS_settb (MS_settt xq39 g42) g46) g48) g50) g52) 9 8).bind fun r54 =>
                        (lst 2 (MS_tgt xq39) p1 r54).bind fun g56 =>
                        some (0, (MS_settgt (MS_setrec (MS_setat (MS_setbusy (MS_settb (MS_settt xq39 g42) g46) g48) g50) g52) g56))
def rcvLoop (X : MS) (p1 : Int32) (r14 : Int64) (r16 : Int32) : Option (Int32 × MS) :=
  FX8_receive_L222 p1 p1 r14 (r16 - 1) ((22 * p1) + 0) 1 (fun xq39 _ => rcvHide p1 xq39) 100000 X 0
def rcvDirty (x0 : MS) (p1 : Int32) (r14 : Int64) (r16 : Int32) : Option (Int32 × MS) :=
                if 0 ≤ (r16 - 1) then
                  (ald 44 (MS_tt x0) ((22 * p1) + 0)).bind fun r21 =>
                  (ald 44 (MS_tt x0) (((22 * p1) + 2) + (r16 - 1))).bind fun r23 =>
                  if r21 = r23 then
                    (ald 44 (MS_tb x0) ((22 * p1) + 0)).bind fun r26 =>
                    (ald 44 (MS_tb x0) (((22 * p1) + 2) + (r16 - 1))).bind fun r28 =>
                    if r26 = r28 then rcvLoop (MS_setthr x0 0) p1 r14 r16
                    else
                      some (3, (MS_setthr x0 0))
                  else
                    some (3, (MS_setthr x0 0))
                else
                  (ald 44 (MS_tt x0) ((22 * p1) + 0)).bind fun r58 =>
                  if r58 = (-1) then rcvLoop (MS_setthr x0 0) p1 r14 r16
                  else
                    some (3, (MS_setthr x0 0))
def rcvMid (x0 : MS) (p1 : Int32) (r14 : Int64) (r16 : Int32) : Option (Int32 × MS) :=
            if (lg_cmp r14 0) = 0 then
              if (r16 - 1) < 0 then rcvDirty x0 p1 r14 r16
              else
                some (2, (MS_setthr x0 0))
            else
              if (r16 - 1) < 0 then
                some (2, (MS_setthr x0 0))
              else
                (ald 40 (MS_sm x0) ((20 * p1) + (r16 - 1))).bind fun r81 =>
                if (lg_cmp r81 r14) = 0 then rcvDirty x0 p1 r14 r16
                else
                  some (2, (MS_setthr x0 0))
theorem rcv_eq (x0 : MS) (p1 : Int32) : FX8_receive x0 p1 =
  (FX8_isVolume p1).bind fun r1 =>
  if r1 = 0 then
    some (0, (MS_setthr x0 1))
  else
    (ald 2 (MS_busy x0) p1).bind fun r4 =>
    if r4 = 0 then
      if (MS_len x0) < 1 then
        some (1, (MS_setthr x0 0))
      else
        (ald 16000 (MS_str x0) 0).bind fun r8 =>
        if r8 = 1 then
          (FX8_isWhole (MS_setthr x0 0) 0 25).bind fun r11 =>
          if r11 = 0 then
            some (1, (MS_setthr x0 0))
          else
            (FX8_number (MS_setthr x0 0) 1 8).bind fun r14 =>
            (ald 2 (MS_snaps x0) p1).bind fun r16 => rcvMid x0 p1 r14 r16
        else
          some (1, (MS_setthr x0 0))
    else
      some (6, (MS_setthr x0 0)) := rfl
def tkDirty (r0 : RC) (v0 : VS) (r12 : Int64) : Option (Int32 × RC × VS) :=
            (FX6_isDirty v0).bind fun r29 =>
            if r29 = 0 then
              (FX6_hasMark v0 r12).bind fun r32 =>
              if r32 = 0 then
                (FX6_makeHidden v0).bind fun s35 =>
                some (0, (RC_settgt (RC_setrec (RC_setpos r0 25) 0) r12), s35)
              else
                some (4, r0, v0)
            else
              some (3, r0, v0)
theorem tk_eq (r0 : RC) (v0 : VS) (sb0 : SB) : FX3_takeBegin r0 v0 sb0 =
  (FX6_isBusy v0).bind fun r1 =>
  if r1 = 0 then
    (FX5_at sb0 0).bind fun r4 =>
    if r4 = 1 then
      (FX5_isWhole sb0 0 25).bind fun r7 =>
      if r7 = 0 then
        some (1, r0, v0)
      else
        (FX5_numberAt sb0 1 8).bind fun r10 =>
        (FX5_numberAt sb0 9 8).bind fun r12 =>
        if (lg_cmp r10 0) = 0 then
          (FX6_snapshots v0).bind fun r26 =>
          if r26 ≤ 0 then tkDirty r0 v0 r12
          else
            some (2, r0, v0)
        else
          (FX6_isLatest v0 r10).bind fun r15 =>
          if r15 = 0 then
            some (2, r0, v0)
          else tkDirty r0 v0 r12
    else
      some (1, r0, v0)
  else
    some (6, r0, v0) := rfl
theorem isVol {v : Nat} (hv : v < 2) : FX8_isVolume (nI v) = some 1 := by
  have : v = 0 ∨ v = 1 := by omega
  rcases this with rfl | rfl <;> decide
theorem mark_L {v N bz sn g : Nat} {w : VS} {x : MS} {lev T : Nat → Option Nat} {B : Nat → Nat} {z : Int64} (hv : v < 2) (h : vol v N bz sn g w x lev T B) (hz : FX8_number x 9 8 = some z) (v1 : Int32) (v3 : Int64) (v5 v6 v7 : Int32) (k9 : Int32 → Option Int32) (k8 : MS → Int32 → Option (Int32 × MS)) :
    ∀ (m i n9 m9 : Nat), i + m = sn → m < n9 → m < m9 → (FX6_hasMark_L2 w z k9 n9 (nI i) = some 1 ∧ FX8_receive_L222 v1 (nI v) v3 v5 v6 v7 k8 m9 x (nI i) = some (4, x)) ∨ (FX6_hasMark_L2 w z k9 n9 (nI i) = k9 (nI sn) ∧ FX8_receive_L222 v1 (nI v) v3 v5 v6 v7 k8 m9 x (nI i) = k8 x (nI sn)) := by
  obtain ⟨hb, hr, hs, hB, ⟨hg1, hg2, hg3⟩, hN, ⟨hz1, hz2, hz3⟩, ⟨hs1, hs2, hs3⟩, hd, hT0, hM⟩ := h
  intro m
  induction m with
  | zero =>
    intro i n9 m9 h1 h2 h3
    cases n9 with
    | zero => omega
    | succ n9 =>
      cases m9 with
      | zero => omega
      | succ m9 =>
        have hi : i = sn := by omega
        subst hi
        refine Or.inr ⟨?_, ?_⟩
        · rw [FX6_hasMark_L2, hs1, if_pos (nI_le (Nat.le_refl _) (by omega))]
        · rw [FX8_receive_L222, m_ald _ hv (by omega), Option.bind_some, hs2, if_pos (nI_le (Nat.le_refl _) (by omega))]
  | succ m ih =>
    intro i n9 m9 h1 h2 h3
    cases n9 with
    | zero => omega
    | succ n9 =>
      cases m9 with
      | zero => omega
      | succ m9 =>
        have q := hM i (by omega)
        rw [FX6_hasMark_L2, hs1, if_neg (nI_ge (by omega) (by omega)), m_lat _ (by omega) (by omega), Option.bind_some, FX8_receive_L222, m_ald _ hv (by omega), Option.bind_some, hs2, if_neg (nI_ge (by omega) (by omega)), mix 20 v i 20 rfl, m_ald _ (by omega) (by omega), Option.bind_some, hz, Option.bind_some, q.1, nI_1]
        by_cases e : lg_cmp (MS_sm x (20 * v + i)) z = 0
        · rw [if_pos e, if_pos e]
          exact Or.inl ⟨rfl, rfl⟩
        · rw [if_neg e, if_neg e]
          exact ih (i + 1) n9 m9 (by omega) (by omega) (by omega)
theorem dirty_0 {v N bz g : Nat} {w : VS} {x : MS} {lev T : Nat → Option Nat} {B : Nat → Nat} (h : vol v N bz 0 g w x lev T B) : FX6_isDirty w = some (if eO (T 4800) = -1 then 0 else 1) := by
  obtain ⟨t1, t2⟩ := c_told h.1 (show 4800 < 4822 by omega)
  unfold FX6_isDirty
  rw [h.2.2.2.2.2.2.2.1.1, if_pos nI_0, i4800, t1, Option.bind_some]
  by_cases e : eO (T 4800) = -1
  · rw [if_pos e, if_pos e]
  · rw [if_neg e, if_neg e]
theorem dirty_s {v N bz g m : Nat} {w : VS} {x : MS} {lev T : Nat → Option Nat} {B : Nat → Nat} (h : vol v N bz (m + 1) g w x lev T B) : FX6_isDirty w = some (if eO (T 4800) = eO (T (4802 + m)) then (if nI (B 4800) = nI (B (4802 + m)) then 0 else 1) else 1) := by
  have hs3 := h.2.2.2.2.2.2.2.1.2.2
  obtain ⟨t1, t2⟩ := c_told h.1 (show 4800 < 4822 by omega)
  obtain ⟨t3, t4⟩ := c_told h.1 (show 4802 + m < 4822 by omega)
  have e1 : (4802 : Int32) + nI (m + 1) - 1 = nI (4802 + m) := by rw [i4802, nI_add, show 4802 + (m + 1) = (4802 + m) + 1 by omega, nI_pred]
  unfold FX6_isDirty
  rw [h.2.2.2.2.2.2.2.1.1, if_neg (nI_ne0 (by omega) (by omega)), e1, i4800, t1, Option.bind_some, t3, Option.bind_some, t2, Option.bind_some, t4, Option.bind_some]
  by_cases e : eO (T 4800) = eO (T (4802 + m))
  · rw [if_pos e, if_pos e]
    by_cases e2 : nI (B 4800) = nI (B (4802 + m))
    · rw [if_pos e2, if_pos e2]
    · rw [if_neg e2, if_neg e2]
  · rw [if_neg e, if_neg e]
theorem tree_x {v N bz sn g t : Nat} {w : VS} {x : MS} {lev T : Nat → Option Nat} {B : Nat → Nat} (h : vol v N bz sn g w x lev T B) (ht : t < 22) (hl : liveT bz sn t) (s : Nat) (hs : s = 4800 + t) : MS_tt x (22 * v + t) = eO (T s) ∧ MS_tb x (22 * v + t) = nI (B s) := by
  subst hs
  have hq := h.2.1.2 (4800 + t) (by omega) ((aS_hi (by omega)).mpr (by rw [show (4800 + t) % 4800 = t by omega]; exact hl))
  unfold rT rB at hq
  rw [if_neg (by omega), if_neg (by omega), show (4800 + t) % 4800 = t by omega] at hq
  exact hq
theorem p0 (a v : Nat) (c : Int32) (hc : c = nI a) : c * nI v + 0 = nI (a * v) := by rw [show (0 : Int32) = nI 0 from rfl, mix a v 0 c hc]; rfl
theorem p1' (a v : Nat) (c : Int32) (hc : c = nI a) : c * nI v + 1 = nI (a * v + 1) := by rw [show (1 : Int32) = nI 1 from rfl, mix a v 1 c hc]
theorem p2' (v k : Nat) : ((22 : Int32) * nI v + 2) + nI k = nI (22 * v + (2 + k)) := by rw [show (2 : Int32) = nI 2 from rfl, mix 22 v 2 22 rfl, nI_add, Nat.add_assoc]
/-- what is so when receiving begins -/
def begun (v N sn g L : Nat) (sb : SB) (r' : RC) (w' : VS) (X x' : MS) (lev : Nat → Option Nat) : Prop :=
  ∃ T' B', vol v N 1 sn g w' x' lev T' B' ∧ stl lev T' ∧ fr v X x' ∧ RC_pos r' = 25 ∧ MS_at x' v = 25 ∧ RC_rec r' = 0 ∧ MS_rec x' v = 0 ∧ RC_tgt r' = MS_tgt x' v ∧ strR sb x' L
theorem hide_both {v N sn g L : Nat} {w : VS} {X : MS} {lev T : Nat → Option Nat} {B : Nat → Nat} {sb : SB} {z : Int64} (r : RC) (hv : v < 2) (h : vol v N 0 sn g w X lev T B) (hst : stl lev T) (hs : strR sb X L) (hL : 17 ≤ L) (hz : FX8_number X 9 8 = some z) :
    ∃ w' x', FX6_makeHidden w = some w' ∧ rcvHide (nI v) X = some (0, x') ∧ begun v N sn g L sb (RC_settgt (RC_setrec (RC_setpos r 25) 0) z) w' X x' lev := by
  obtain ⟨w', y, T', B', a1, a2, a3, a4, a5⟩ := vol_hide hv h
  refine ⟨w', MS_settgt (MS_setrec (MS_setat y (upd (MS_at X) v 25)) (upd (MS_rec X) v 0)) (vp_updL (MS_tgt X) v z), a1, ?_, T', B', ?_, a4 hst, ?_, rfl, ?_, rfl, ?_, ?_, ?_⟩
  · have hn : FX8_number (MS_setrec (MS_setat y (upd (MS_at X) v 25)) (upd (MS_rec X) v 0)) 9 8 = some z := by
      have hs2 : strR sb (MS_setrec (MS_setat y (upd (MS_at X) v 25)) (upd (MS_rec X) v 0)) L := by rw [a2]; exact ⟨hs.1, hs.2.1, hs.2.2.1, hs.2.2.2⟩
      obtain ⟨z1, q1, q2⟩ := both_num (s := 9) (sz := 8) hs (by omega)
      obtain ⟨z2, q3, q4⟩ := both_num (s := 9) (sz := 8) hs2 (by omega)
      have q2' : FX8_number X 9 8 = some z1 := q2
      rw [q1] at q3
      rw [hz] at q2'
      rw [Option.some.inj q2', Option.some.inj q3]
      exact q4
    rw [a2] at hn
    unfold rcvHide
    rw [p0 22 v 22 rfl, p1' 22 v 22 rfl, m_ald _ (by omega) (by omega), Option.bind_some, m_ast _ _ (by omega) (by omega), Option.bind_some, m_ald _ (by omega) (by omega), Option.bind_some, m_ast _ _ (by omega) (by omega), Option.bind_some, nar1, m_ast _ _ hv (by omega), Option.bind_some, m_ast _ _ hv (by omega), Option.bind_some, m_ast _ _ hv (by omega), Option.bind_some, hn, Option.bind_some, m_lst _ _ hv (by omega), Option.bind_some, a2]
  · exact vol_eq a3 ⟨rfl, rfl, rfl, rfl, rfl⟩ ⟨rfl, rfl, rfl, rfl, rfl, rfl, rfl⟩
  · have hat : MS_at y = MS_at X := by rw [a2]
    have hrec : MS_rec y = MS_rec X := by rw [a2]
    have htg : MS_tgt y = MS_tgt X := by rw [a2]
    refine fr_trans a5 ⟨fun u hu hne => ⟨rfl, rfl, rfl, rfl, ?_, ?_, ?_, fun _ _ => ⟨rfl, rfl⟩, fun s hs4 => ?_, fun k hk => ⟨rfl, rfl⟩⟩, rfl, rfl, rfl, rfl, rfl, rfl, rfl⟩
    · rw [hat]; exact upd_ne hne
    · rw [hrec]; exact upd_ne hne
    · rw [htg]
      show vp_updL (MS_tgt X) v z u = _
      unfold vp_updL
      rw [if_neg hne]
    · unfold rT rB
      exact ⟨rfl, rfl⟩
  · exact upd_self
  · exact upd_self
  · show z = vp_updL (MS_tgt X) v z v
    unfold vp_updL
    rw [if_pos rfl]
  · rw [a2]
    exact ⟨hs.1, hs.2.1, hs.2.2.1, hs.2.2.2⟩
