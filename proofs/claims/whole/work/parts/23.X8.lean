/-! PART 23.X8: walks, printed by wip/whole/walk.py -/
def FX8_record (x0 : MS) (p1 : Int32) : Option (Int32 × MS) :=
  (ald 2 (MS_at x0) p1).bind fun r1 =>
  if (MS_len x0) ≤ r1 then
    (FX8_begins x0 p1).bind fun s4 =>
    (FX8_stops s4 p1).bind fun s6 =>
    some (1, s6)
  else
    (ald 2 (MS_at x0) p1).bind fun r8 =>
    (ald 16000 (MS_str x0) r8).bind fun r10 =>
    (FX8_begins x0 p1).bind fun s12 =>
    if r10 = 2 then
      (FX8_writesHere s12 p1).bind fun (r46, s47) =>
      if r46 = 0 then
        (ald 2 (MS_rec s47) p1).bind fun r50 =>
        (ast 2 (MS_rec s47) p1 (r50 + 1)).bind fun g52 =>
        if r10 = 4 then
          (FX8_stops (MS_setrec s47 g52) p1).bind fun s57 =>
          some (0, s57)
        else
          (FX8_sweeps (MS_setrec s47 g52) p1).bind fun s55 =>
          some (7, s55)
      else
        (FX8_stops s47 p1).bind fun s59 =>
        some (r46, s59)
    else
      if r10 = 3 then
        (FX8_clearsHere s12 p1).bind fun (r31, s32) =>
        if r31 = 0 then
          (ald 2 (MS_rec s32) p1).bind fun r35 =>
          (ast 2 (MS_rec s32) p1 (r35 + 1)).bind fun g37 =>
          if r10 = 4 then
            (FX8_stops (MS_setrec s32 g37) p1).bind fun s42 =>
            some (0, s42)
          else
            (FX8_sweeps (MS_setrec s32 g37) p1).bind fun s40 =>
            some (7, s40)
        else
          (FX8_stops s32 p1).bind fun s44 =>
          some (r31, s44)
      else
        if r10 = 4 then
          (FX8_endsHere s12 p1).bind fun (r19, s20) =>
          if r19 = 0 then
            (ald 2 (MS_rec s20) p1).bind fun r23 =>
            (ast 2 (MS_rec s20) p1 (r23 + 1)).bind fun g25 =>
            (FX8_stops (MS_setrec s20 g25) p1).bind fun s27 =>
            some (0, s27)
          else
            (FX8_stops s20 p1).bind fun s29 =>
            some (r19, s29)
        else
          (FX8_stops s12 p1).bind fun s17 =>
          some (1, s17)
def rX8_record : Room := { frames := 4, cells := 0, slots := 0, locals := 105 }
set_option maxHeartbeats 4000000 in
set_option maxRecDepth 100000 in
theorem c_X8_record (l : Launch) (D : va_G) (cB cI cJ cZ : ClassId) (x_0 x_1 x_2 x_3 x_4 x_5 x_6 x_7 x_8 x_9 x_10 x_11 x_12 x_13 x_14 x_15 x_16 x_17 x_18 x_19 : Nat) {x0 : MS} {p1 : Int32} {res : Int32 × MS} (hF : FX8_record x0 p1 = some res) : gMi l yX8_record wsX8_record rX8_record D (gT cB cI cJ cZ) [.ref x_0, .int p1] (wM cB cI cJ cZ x_0 x_1 x_2 x_3 x_4 x_5 x_6 x_7 x_8 x_9 x_10 x_11 x_12 x_13 x_14 x_15 x_16 x_17 x_18 x_19 x0) res.1 (wM cB cI cJ cZ x_0 x_1 x_2 x_3 x_4 x_5 x_6 x_7 x_8 x_9 x_10 x_11 x_12 x_13 x_14 x_15 x_16 x_17 x_18 x_19 res.2) := by
  refine g_enter (own := RX8) (free := (fun sz => va_A (wM cB cI cJ cZ x_0 x_1 x_2 x_3 x_4 x_5 x_6 x_7 x_8 x_9 x_10 x_11 x_12 x_13 x_14 x_15 x_16 x_17 x_18 x_19 x0) sz)) (Qc := (fun sz => gQi D (wM cB cI cJ cZ x_0 x_1 x_2 x_3 x_4 x_5 x_6 x_7 x_8 x_9 x_10 x_11 x_12 x_13 x_14 x_15 x_16 x_17 x_18 x_19 x0) sz res.1 (wM cB cI cJ cZ x_0 x_1 x_2 x_3 x_4 x_5 x_6 x_7 x_8 x_9 x_10 x_11 x_12 x_13 x_14 x_15 x_16 x_17 x_18 x_19 res.2))) (fun sz => va_A (wM cB cI cJ cZ x_0 x_1 x_2 x_3 x_4 x_5 x_6 x_7 x_8 x_9 x_10 x_11 x_12 x_13 x_14 x_15 x_16 x_17 x_18 x_19 x0) sz) (fun sz => Or.inr rfl) rfl (by decide) rfl (Nat.le_of_ble_eq_true rfl) rfl ?_
  intro p e s m args below meth c C
  unfold FX8_record at hF
  refine g_aload_n (z := 0) C (tdec DX8_record 0 rfl) rfl rfl rfl ?_
  refine g_getf (C' := RX8) (T := TX8) (N := 27) (v := .ref x_14) C 0 14 (gIn iw_X8) rfl rfl (by decide) (gMem fl_X8_51) rfl rfl (tdec DX8_record 1 rfl) rfl ?_
  refine g_iload_n (z := 1) C (tdec DX8_record 2 rfl) rfl rfl rfl ?_
  obtain ⟨r1, y2, hF⟩ := o_bind hF
  refine g_iald C 14 1 rfl rfl y2 (tdec DX8_record 3 rfl) rfl ?_
  refine g_aload_n (z := 0) C (tdec DX8_record 4 rfl) rfl rfl rfl ?_
  refine g_getf (C' := RX8) (T := TX8) (N := 27) (v := .int (MS_len x0)) C 0 19 (gIn iw_X8) rfl rfl (by decide) (gMem fl_X8_147) rfl rfl (tdec DX8_record 5 rfl) rfl ?_
  refine g_icmp_ge (pt := 27) C (tdec DX8_record 6 rfl) (by decide) rfl (fun h3 => ?_) (fun h3 => ?_)
  · have hF := o_ifp hF h3
    refine g_iconst (v := (-1)) C (tdec DX8_record 15 rfl) (by decide) rfl ?_
    refine g_istore_n (L' := [(2, .int (-1)), (0, .ref x_0), (1, .int p1)]) C (tdec DX8_record 16 rfl) rfl (by decide) rfl rfl ?_
    refine g_aload_n (z := 1) C (tdec DX8_record 17 rfl) rfl rfl rfl ?_
    refine g_iload_n (z := 2) C (tdec DX8_record 18 rfl) rfl rfl rfl ?_
    obtain ⟨s4, y5, hF⟩ := o_bind hF
    refine g_callVvMS (q0 := 0) (W' := wM cB cI cJ cZ x_0 x_1 x_2 x_3 x_4 x_5 x_6 x_7 x_8 x_9 x_10 x_11 x_12 x_13 x_14 x_15 x_16 x_17 x_18 x_19 s4) (S := [wM cB cI cJ cZ x_0 x_1 x_2 x_3 x_4 x_5 x_6 x_7 x_8 x_9 x_10 x_11 x_12 x_13 x_14 x_15 x_16 x_17 x_18 x_19 x0]) (S0 := [wM cB cI cJ cZ x_0 x_1 x_2 x_3 x_4 x_5 x_6 x_7 x_8 x_9 x_10 x_11 x_12 x_13 x_14 x_15 x_16 x_17 x_18 x_19 x0]) (S1 := [wM cB cI cJ cZ x_0 x_1 x_2 x_3 x_4 x_5 x_6 x_7 x_8 x_9 x_10 x_11 x_12 x_13 x_14 x_15 x_16 x_17 x_18 x_19 s4]) (S' := [wM cB cI cJ cZ x_0 x_1 x_2 x_3 x_4 x_5 x_6 x_7 x_8 x_9 x_10 x_11 x_12 x_13 x_14 x_15 x_16 x_17 x_18 x_19 s4]) C (c_X8_begins l D cB cI cJ cZ x_0 x_1 x_2 x_3 x_4 x_5 x_6 x_7 x_8 x_9 x_10 x_11 x_12 x_13 x_14 x_15 x_16 x_17 x_18 x_19 y5) rfl rfl (gIV ml_X8_127 im_X8_begins sl_X8_begins in_X8 cd_X8_begins) rfl eX8_begins rfl ⟨rfl, rfl⟩ ⟨Nat.le_of_ble_eq_true rfl, Nat.le_of_ble_eq_true rfl⟩ rfl rfl rfl [0] rfl rfl rfl rfl (gA_cons aM gA_nil) rfl rfl (Nat.le_of_ble_eq_true rfl) (tdec DX8_record 19 rfl) rfl ?_
    refine g_iload_n (z := 0) C (tdec DX8_record 20 rfl) rfl rfl rfl ?_
    refine g_iconst (v := 2) C (tdec DX8_record 21 rfl) (by decide) rfl ?_
    refine g_icmp_ne (pt := 47) C (tdec DX8_record 22 rfl) (by decide) rfl (fun _ => ?_) (fun h => absurd h (by decide))
    refine g_iload_n (z := 0) C (tdec DX8_record 27 rfl) rfl rfl rfl ?_
    refine g_iconst (v := 3) C (tdec DX8_record 28 rfl) (by decide) rfl ?_
    refine g_icmp_ne (pt := 60) C (tdec DX8_record 29 rfl) (by decide) rfl (fun _ => ?_) (fun h => absurd h (by decide))
    refine g_iload_n (z := 0) C (tdec DX8_record 34 rfl) rfl rfl rfl ?_
    refine g_iconst (v := 4) C (tdec DX8_record 35 rfl) (by decide) rfl ?_
    refine g_icmp_ne (pt := 73) C (tdec DX8_record 36 rfl) (by decide) rfl (fun _ => ?_) (fun h => absurd h (by decide))
    refine g_iconst (v := 1) C (tdec DX8_record 41 rfl) (by decide) rfl ?_
    refine g_istore_n (L' := [(3, .int 1), (2, .int (-1)), (0, .ref x_0), (1, .int p1)]) C (tdec DX8_record 42 rfl) rfl (by decide) rfl rfl ?_
    refine g_iload_n (z := 0) C (tdec DX8_record 43 rfl) rfl rfl rfl ?_
    refine g_if_eq (pt := 86) C (tdec DX8_record 44 rfl) (by decide) rfl (fun h => absurd h (by decide)) (fun _ => ?_)
    refine g_aload_n (z := 2) C (tdec DX8_record 45 rfl) rfl rfl rfl ?_
    refine g_iload_n (z := 3) C (tdec DX8_record 46 rfl) rfl rfl rfl ?_
    obtain ⟨s6, y7, hF⟩ := o_bind hF
    refine g_callVvMS (q0 := 0) (W' := wM cB cI cJ cZ x_0 x_1 x_2 x_3 x_4 x_5 x_6 x_7 x_8 x_9 x_10 x_11 x_12 x_13 x_14 x_15 x_16 x_17 x_18 x_19 s6) (S := [wM cB cI cJ cZ x_0 x_1 x_2 x_3 x_4 x_5 x_6 x_7 x_8 x_9 x_10 x_11 x_12 x_13 x_14 x_15 x_16 x_17 x_18 x_19 s4]) (S0 := [wM cB cI cJ cZ x_0 x_1 x_2 x_3 x_4 x_5 x_6 x_7 x_8 x_9 x_10 x_11 x_12 x_13 x_14 x_15 x_16 x_17 x_18 x_19 s4]) (S1 := [wM cB cI cJ cZ x_0 x_1 x_2 x_3 x_4 x_5 x_6 x_7 x_8 x_9 x_10 x_11 x_12 x_13 x_14 x_15 x_16 x_17 x_18 x_19 s6]) (S' := [wM cB cI cJ cZ x_0 x_1 x_2 x_3 x_4 x_5 x_6 x_7 x_8 x_9 x_10 x_11 x_12 x_13 x_14 x_15 x_16 x_17 x_18 x_19 s6]) C (c_X8_stops l D cB cI cJ cZ x_0 x_1 x_2 x_3 x_4 x_5 x_6 x_7 x_8 x_9 x_10 x_11 x_12 x_13 x_14 x_15 x_16 x_17 x_18 x_19 y7) rfl rfl (gIV ml_X8_203 im_X8_stops sl_X8_stops in_X8 cd_X8_stops) rfl eX8_stops rfl ⟨rfl, rfl⟩ ⟨Nat.le_of_ble_eq_true rfl, Nat.le_of_ble_eq_true rfl⟩ rfl rfl rfl [0] rfl rfl rfl rfl (gA_cons aM gA_nil) rfl rfl (Nat.le_of_ble_eq_true rfl) (tdec DX8_record 47 rfl) rfl ?_
    refine g_iload_n (z := 0) C (tdec DX8_record 48 rfl) rfl rfl rfl ?_
    have hr9 := o_some hF
    subst hr9
    exact g_iret C rfl rfl (tdec DX8_record 49 rfl)
  · have hF := o_ifn hF h3
    refine g_aload_n (z := 0) C (tdec DX8_record 7 rfl) rfl rfl rfl ?_
    refine g_getf (C' := RX8) (T := TX8) (N := 27) (v := .ref x_17) C 0 18 (gIn iw_X8) rfl rfl (by decide) (gMem fl_X8_64) rfl rfl (tdec DX8_record 8 rfl) rfl ?_
    refine g_aload_n (z := 0) C (tdec DX8_record 9 rfl) rfl rfl rfl ?_
    refine g_getf (C' := RX8) (T := TX8) (N := 27) (v := .ref x_14) C 0 14 (gIn iw_X8) rfl rfl (by decide) (gMem fl_X8_51) rfl rfl (tdec DX8_record 10 rfl) rfl ?_
    refine g_iload_n (z := 1) C (tdec DX8_record 11 rfl) rfl rfl rfl ?_
    obtain ⟨r8, y9, hF⟩ := o_bind hF
    refine g_iald C 14 1 rfl rfl y9 (tdec DX8_record 12 rfl) rfl ?_
    obtain ⟨r10, y11, hF⟩ := o_bind hF
    refine g_bald C 17 0 rfl rfl y11 (tdec DX8_record 13 rfl) rfl ?_
    refine g_goto (pt := 28) C (tdec DX8_record 14 rfl) (by decide) ?_
    refine g_istore_n (L' := [(2, .int r10), (0, .ref x_0), (1, .int p1)]) C (tdec DX8_record 16 rfl) rfl (by decide) rfl rfl ?_
    refine g_aload_n (z := 1) C (tdec DX8_record 17 rfl) rfl rfl rfl ?_
    refine g_iload_n (z := 2) C (tdec DX8_record 18 rfl) rfl rfl rfl ?_
    obtain ⟨s12, y13, hF⟩ := o_bind hF
    refine g_callVvMS (q0 := 0) (W' := wM cB cI cJ cZ x_0 x_1 x_2 x_3 x_4 x_5 x_6 x_7 x_8 x_9 x_10 x_11 x_12 x_13 x_14 x_15 x_16 x_17 x_18 x_19 s12) (S := [wM cB cI cJ cZ x_0 x_1 x_2 x_3 x_4 x_5 x_6 x_7 x_8 x_9 x_10 x_11 x_12 x_13 x_14 x_15 x_16 x_17 x_18 x_19 x0]) (S0 := [wM cB cI cJ cZ x_0 x_1 x_2 x_3 x_4 x_5 x_6 x_7 x_8 x_9 x_10 x_11 x_12 x_13 x_14 x_15 x_16 x_17 x_18 x_19 x0]) (S1 := [wM cB cI cJ cZ x_0 x_1 x_2 x_3 x_4 x_5 x_6 x_7 x_8 x_9 x_10 x_11 x_12 x_13 x_14 x_15 x_16 x_17 x_18 x_19 s12]) (S' := [wM cB cI cJ cZ x_0 x_1 x_2 x_3 x_4 x_5 x_6 x_7 x_8 x_9 x_10 x_11 x_12 x_13 x_14 x_15 x_16 x_17 x_18 x_19 s12]) C (c_X8_begins l D cB cI cJ cZ x_0 x_1 x_2 x_3 x_4 x_5 x_6 x_7 x_8 x_9 x_10 x_11 x_12 x_13 x_14 x_15 x_16 x_17 x_18 x_19 y13) rfl rfl (gIV ml_X8_127 im_X8_begins sl_X8_begins in_X8 cd_X8_begins) rfl eX8_begins rfl ⟨rfl, rfl⟩ ⟨Nat.le_of_ble_eq_true rfl, Nat.le_of_ble_eq_true rfl⟩ rfl rfl rfl [0] rfl rfl rfl rfl (gA_cons aM gA_nil) rfl rfl (Nat.le_of_ble_eq_true rfl) (tdec DX8_record 19 rfl) rfl ?_
    refine g_iload_n (z := 0) C (tdec DX8_record 20 rfl) rfl rfl rfl ?_
    refine g_iconst (v := 2) C (tdec DX8_record 21 rfl) (by decide) rfl ?_
    refine g_icmp_ne (pt := 47) C (tdec DX8_record 22 rfl) (by decide) rfl (fun h14 => ?_) (fun h14 => ?_)
    · have hF := o_ifn hF h14
      refine g_iload_n (z := 0) C (tdec DX8_record 27 rfl) rfl rfl rfl ?_
      refine g_iconst (v := 3) C (tdec DX8_record 28 rfl) (by decide) rfl ?_
      refine g_icmp_ne (pt := 60) C (tdec DX8_record 29 rfl) (by decide) rfl (fun h15 => ?_) (fun h15 => ?_)
      · have hF := o_ifn hF h15
        refine g_iload_n (z := 0) C (tdec DX8_record 34 rfl) rfl rfl rfl ?_
        refine g_iconst (v := 4) C (tdec DX8_record 35 rfl) (by decide) rfl ?_
        refine g_icmp_ne (pt := 73) C (tdec DX8_record 36 rfl) (by decide) rfl (fun h16 => ?_) (fun h16 => ?_)
        · have hF := o_ifn hF h16
          refine g_iconst (v := 1) C (tdec DX8_record 41 rfl) (by decide) rfl ?_
          refine g_istore_n (L' := [(3, .int 1), (2, .int r10), (0, .ref x_0), (1, .int p1)]) C (tdec DX8_record 42 rfl) rfl (by decide) rfl rfl ?_
          refine g_iload_n (z := 0) C (tdec DX8_record 43 rfl) rfl rfl rfl ?_
          refine g_if_eq (pt := 86) C (tdec DX8_record 44 rfl) (by decide) rfl (fun h => absurd h (by decide)) (fun _ => ?_)
          refine g_aload_n (z := 2) C (tdec DX8_record 45 rfl) rfl rfl rfl ?_
          refine g_iload_n (z := 3) C (tdec DX8_record 46 rfl) rfl rfl rfl ?_
          obtain ⟨s17, y18, hF⟩ := o_bind hF
          refine g_callVvMS (q0 := 0) (W' := wM cB cI cJ cZ x_0 x_1 x_2 x_3 x_4 x_5 x_6 x_7 x_8 x_9 x_10 x_11 x_12 x_13 x_14 x_15 x_16 x_17 x_18 x_19 s17) (S := [wM cB cI cJ cZ x_0 x_1 x_2 x_3 x_4 x_5 x_6 x_7 x_8 x_9 x_10 x_11 x_12 x_13 x_14 x_15 x_16 x_17 x_18 x_19 s12]) (S0 := [wM cB cI cJ cZ x_0 x_1 x_2 x_3 x_4 x_5 x_6 x_7 x_8 x_9 x_10 x_11 x_12 x_13 x_14 x_15 x_16 x_17 x_18 x_19 s12]) (S1 := [wM cB cI cJ cZ x_0 x_1 x_2 x_3 x_4 x_5 x_6 x_7 x_8 x_9 x_10 x_11 x_12 x_13 x_14 x_15 x_16 x_17 x_18 x_19 s17]) (S' := [wM cB cI cJ cZ x_0 x_1 x_2 x_3 x_4 x_5 x_6 x_7 x_8 x_9 x_10 x_11 x_12 x_13 x_14 x_15 x_16 x_17 x_18 x_19 s17]) C (c_X8_stops l D cB cI cJ cZ x_0 x_1 x_2 x_3 x_4 x_5 x_6 x_7 x_8 x_9 x_10 x_11 x_12 x_13 x_14 x_15 x_16 x_17 x_18 x_19 y18) rfl rfl (gIV ml_X8_203 im_X8_stops sl_X8_stops in_X8 cd_X8_stops) rfl eX8_stops rfl ⟨rfl, rfl⟩ ⟨Nat.le_of_ble_eq_true rfl, Nat.le_of_ble_eq_true rfl⟩ rfl rfl rfl [0] rfl rfl rfl rfl (gA_cons aM gA_nil) rfl rfl (Nat.le_of_ble_eq_true rfl) (tdec DX8_record 47 rfl) rfl ?_
          refine g_iload_n (z := 0) C (tdec DX8_record 48 rfl) rfl rfl rfl ?_
          have hr9 := o_some hF
          subst hr9
          exact g_iret C rfl rfl (tdec DX8_record 49 rfl)
        · have hF := o_ifp hF h16
          refine g_aload_n (z := 1) C (tdec DX8_record 37 rfl) rfl rfl rfl ?_
          refine g_iload_n (z := 2) C (tdec DX8_record 38 rfl) rfl rfl rfl ?_
          obtain ⟨⟨r19, s20⟩, y21, hF⟩ := o_bind hF
          refine g_callViMS (q0 := 0) (W' := wM cB cI cJ cZ x_0 x_1 x_2 x_3 x_4 x_5 x_6 x_7 x_8 x_9 x_10 x_11 x_12 x_13 x_14 x_15 x_16 x_17 x_18 x_19 s20) (S := [wM cB cI cJ cZ x_0 x_1 x_2 x_3 x_4 x_5 x_6 x_7 x_8 x_9 x_10 x_11 x_12 x_13 x_14 x_15 x_16 x_17 x_18 x_19 s12]) (S0 := [wM cB cI cJ cZ x_0 x_1 x_2 x_3 x_4 x_5 x_6 x_7 x_8 x_9 x_10 x_11 x_12 x_13 x_14 x_15 x_16 x_17 x_18 x_19 s12]) (S1 := [wM cB cI cJ cZ x_0 x_1 x_2 x_3 x_4 x_5 x_6 x_7 x_8 x_9 x_10 x_11 x_12 x_13 x_14 x_15 x_16 x_17 x_18 x_19 s20]) (S' := [wM cB cI cJ cZ x_0 x_1 x_2 x_3 x_4 x_5 x_6 x_7 x_8 x_9 x_10 x_11 x_12 x_13 x_14 x_15 x_16 x_17 x_18 x_19 s20]) C (c_X8_endsHere l D cB cI cJ cZ x_0 x_1 x_2 x_3 x_4 x_5 x_6 x_7 x_8 x_9 x_10 x_11 x_12 x_13 x_14 x_15 x_16 x_17 x_18 x_19 y21) rfl rfl (gIV ml_X8_200 im_X8_endsHere sl_X8_endsHere in_X8 cd_X8_endsHere) rfl eX8_endsHere rfl ⟨rfl, rfl⟩ ⟨Nat.le_of_ble_eq_true rfl, Nat.le_of_ble_eq_true rfl⟩ rfl rfl rfl [0] rfl rfl rfl rfl (gA_cons aM gA_nil) rfl rfl (Nat.le_of_ble_eq_true rfl) (tdec DX8_record 39 rfl) rfl ?_
          refine g_goto (pt := 74) C (tdec DX8_record 40 rfl) (by decide) ?_
          refine g_istore_n (L' := [(3, .int r19), (2, .int r10), (0, .ref x_0), (1, .int p1)]) C (tdec DX8_record 42 rfl) rfl (by decide) rfl rfl ?_
          refine g_iload_n (z := 0) C (tdec DX8_record 43 rfl) rfl rfl rfl ?_
          refine g_if_eq (pt := 86) C (tdec DX8_record 44 rfl) (by decide) rfl (fun h22 => ?_) (fun h22 => ?_)
          · have hF := o_ifp hF h22
            refine g_aload_n (z := 2) C (tdec DX8_record 50 rfl) rfl rfl rfl ?_
            refine g_getf (C' := RX8) (T := TX8) (N := 27) (v := .ref x_15) C 0 15 (gIn iw_X8) rfl rfl (by decide) (gMem fl_X8_54) rfl rfl (tdec DX8_record 51 rfl) rfl ?_
            refine g_iload_n (z := 3) C (tdec DX8_record 52 rfl) rfl rfl rfl ?_
            refine g_dup2 C (tdec DX8_record 53 rfl) rfl rfl rfl ?_
            obtain ⟨r23, y24, hF⟩ := o_bind hF
            refine g_iald C 15 1 rfl rfl y24 (tdec DX8_record 54 rfl) rfl ?_
            refine g_iconst (v := 1) C (tdec DX8_record 55 rfl) (by decide) rfl ?_
            refine g_iadd C (tdec DX8_record 56 rfl) rfl ?_
            obtain ⟨g25, y26, hF⟩ := o_bind hF
            refine g_iast (ws' := wM cB cI cJ cZ x_0 x_1 x_2 x_3 x_4 x_5 x_6 x_7 x_8 x_9 x_10 x_11 x_12 x_13 x_14 x_15 x_16 x_17 x_18 x_19 (MS_setrec s20 g25)) C 15 1 rfl rfl y26 rfl (tdec DX8_record 57 rfl) rfl ?_
            refine g_iload_n (z := 1) C (tdec DX8_record 58 rfl) rfl rfl rfl ?_
            refine g_iconst (v := 4) C (tdec DX8_record 59 rfl) (by decide) rfl ?_
            refine g_icmp_ne (pt := 108) C (tdec DX8_record 60 rfl) (by decide) rfl (fun h => absurd h16 h) (fun _ => ?_)
            refine g_aload_n (z := 2) C (tdec DX8_record 61 rfl) rfl rfl rfl ?_
            refine g_iload_n (z := 3) C (tdec DX8_record 62 rfl) rfl rfl rfl ?_
            obtain ⟨s27, y28, hF⟩ := o_bind hF
            refine g_callVvMS (q0 := 0) (W' := wM cB cI cJ cZ x_0 x_1 x_2 x_3 x_4 x_5 x_6 x_7 x_8 x_9 x_10 x_11 x_12 x_13 x_14 x_15 x_16 x_17 x_18 x_19 s27) (S := [wM cB cI cJ cZ x_0 x_1 x_2 x_3 x_4 x_5 x_6 x_7 x_8 x_9 x_10 x_11 x_12 x_13 x_14 x_15 x_16 x_17 x_18 x_19 (MS_setrec s20 g25)]) (S0 := [wM cB cI cJ cZ x_0 x_1 x_2 x_3 x_4 x_5 x_6 x_7 x_8 x_9 x_10 x_11 x_12 x_13 x_14 x_15 x_16 x_17 x_18 x_19 (MS_setrec s20 g25)]) (S1 := [wM cB cI cJ cZ x_0 x_1 x_2 x_3 x_4 x_5 x_6 x_7 x_8 x_9 x_10 x_11 x_12 x_13 x_14 x_15 x_16 x_17 x_18 x_19 s27]) (S' := [wM cB cI cJ cZ x_0 x_1 x_2 x_3 x_4 x_5 x_6 x_7 x_8 x_9 x_10 x_11 x_12 x_13 x_14 x_15 x_16 x_17 x_18 x_19 s27]) C (c_X8_stops l D cB cI cJ cZ x_0 x_1 x_2 x_3 x_4 x_5 x_6 x_7 x_8 x_9 x_10 x_11 x_12 x_13 x_14 x_15 x_16 x_17 x_18 x_19 y28) rfl rfl (gIV ml_X8_203 im_X8_stops sl_X8_stops in_X8 cd_X8_stops) rfl eX8_stops rfl ⟨rfl, rfl⟩ ⟨Nat.le_of_ble_eq_true rfl, Nat.le_of_ble_eq_true rfl⟩ rfl rfl rfl [0] rfl rfl rfl rfl (gA_cons aM gA_nil) rfl rfl (Nat.le_of_ble_eq_true rfl) (tdec DX8_record 63 rfl) rfl ?_
            refine g_iconst (v := 0) C (tdec DX8_record 64 rfl) (by decide) rfl ?_
            have hr9 := o_some hF
            subst hr9
            exact g_iret C rfl rfl (tdec DX8_record 65 rfl)
          · have hF := o_ifn hF h22
            refine g_aload_n (z := 2) C (tdec DX8_record 45 rfl) rfl rfl rfl ?_
            refine g_iload_n (z := 3) C (tdec DX8_record 46 rfl) rfl rfl rfl ?_
            obtain ⟨s29, y30, hF⟩ := o_bind hF
            refine g_callVvMS (q0 := 0) (W' := wM cB cI cJ cZ x_0 x_1 x_2 x_3 x_4 x_5 x_6 x_7 x_8 x_9 x_10 x_11 x_12 x_13 x_14 x_15 x_16 x_17 x_18 x_19 s29) (S := [wM cB cI cJ cZ x_0 x_1 x_2 x_3 x_4 x_5 x_6 x_7 x_8 x_9 x_10 x_11 x_12 x_13 x_14 x_15 x_16 x_17 x_18 x_19 s20]) (S0 := [wM cB cI cJ cZ x_0 x_1 x_2 x_3 x_4 x_5 x_6 x_7 x_8 x_9 x_10 x_11 x_12 x_13 x_14 x_15 x_16 x_17 x_18 x_19 s20]) (S1 := [wM cB cI cJ cZ x_0 x_1 x_2 x_3 x_4 x_5 x_6 x_7 x_8 x_9 x_10 x_11 x_12 x_13 x_14 x_15 x_16 x_17 x_18 x_19 s29]) (S' := [wM cB cI cJ cZ x_0 x_1 x_2 x_3 x_4 x_5 x_6 x_7 x_8 x_9 x_10 x_11 x_12 x_13 x_14 x_15 x_16 x_17 x_18 x_19 s29]) C (c_X8_stops l D cB cI cJ cZ x_0 x_1 x_2 x_3 x_4 x_5 x_6 x_7 x_8 x_9 x_10 x_11 x_12 x_13 x_14 x_15 x_16 x_17 x_18 x_19 y30) rfl rfl (gIV ml_X8_203 im_X8_stops sl_X8_stops in_X8 cd_X8_stops) rfl eX8_stops rfl ⟨rfl, rfl⟩ ⟨Nat.le_of_ble_eq_true rfl, Nat.le_of_ble_eq_true rfl⟩ rfl rfl rfl [0] rfl rfl rfl rfl (gA_cons aM gA_nil) rfl rfl (Nat.le_of_ble_eq_true rfl) (tdec DX8_record 47 rfl) rfl ?_
            refine g_iload_n (z := 0) C (tdec DX8_record 48 rfl) rfl rfl rfl ?_
            have hr9 := o_some hF
            subst hr9
            exact g_iret C rfl rfl (tdec DX8_record 49 rfl)
      · have hF := o_ifp hF h15
        refine g_aload_n (z := 1) C (tdec DX8_record 30 rfl) rfl rfl rfl ?_
        refine g_iload_n (z := 2) C (tdec DX8_record 31 rfl) rfl rfl rfl ?_
        obtain ⟨⟨r31, s32⟩, y33, hF⟩ := o_bind hF
        refine g_callViMS (q0 := 0) (W' := wM cB cI cJ cZ x_0 x_1 x_2 x_3 x_4 x_5 x_6 x_7 x_8 x_9 x_10 x_11 x_12 x_13 x_14 x_15 x_16 x_17 x_18 x_19 s32) (S := [wM cB cI cJ cZ x_0 x_1 x_2 x_3 x_4 x_5 x_6 x_7 x_8 x_9 x_10 x_11 x_12 x_13 x_14 x_15 x_16 x_17 x_18 x_19 s12]) (S0 := [wM cB cI cJ cZ x_0 x_1 x_2 x_3 x_4 x_5 x_6 x_7 x_8 x_9 x_10 x_11 x_12 x_13 x_14 x_15 x_16 x_17 x_18 x_19 s12]) (S1 := [wM cB cI cJ cZ x_0 x_1 x_2 x_3 x_4 x_5 x_6 x_7 x_8 x_9 x_10 x_11 x_12 x_13 x_14 x_15 x_16 x_17 x_18 x_19 s32]) (S' := [wM cB cI cJ cZ x_0 x_1 x_2 x_3 x_4 x_5 x_6 x_7 x_8 x_9 x_10 x_11 x_12 x_13 x_14 x_15 x_16 x_17 x_18 x_19 s32]) C (c_X8_clearsHere l D cB cI cJ cZ x_0 x_1 x_2 x_3 x_4 x_5 x_6 x_7 x_8 x_9 x_10 x_11 x_12 x_13 x_14 x_15 x_16 x_17 x_18 x_19 y33) rfl rfl (gIV ml_X8_197 im_X8_clearsHere sl_X8_clearsHere in_X8 cd_X8_clearsHere) rfl eX8_clearsHere rfl ⟨rfl, rfl⟩ ⟨Nat.le_of_ble_eq_true rfl, Nat.le_of_ble_eq_true rfl⟩ rfl rfl rfl [0] rfl rfl rfl rfl (gA_cons aM gA_nil) rfl rfl (Nat.le_of_ble_eq_true rfl) (tdec DX8_record 32 rfl) rfl ?_
        refine g_goto (pt := 74) C (tdec DX8_record 33 rfl) (by decide) ?_
        refine g_istore_n (L' := [(3, .int r31), (2, .int r10), (0, .ref x_0), (1, .int p1)]) C (tdec DX8_record 42 rfl) rfl (by decide) rfl rfl ?_
        refine g_iload_n (z := 0) C (tdec DX8_record 43 rfl) rfl rfl rfl ?_
        refine g_if_eq (pt := 86) C (tdec DX8_record 44 rfl) (by decide) rfl (fun h34 => ?_) (fun h34 => ?_)
        · have hF := o_ifp hF h34
          refine g_aload_n (z := 2) C (tdec DX8_record 50 rfl) rfl rfl rfl ?_
          refine g_getf (C' := RX8) (T := TX8) (N := 27) (v := .ref x_15) C 0 15 (gIn iw_X8) rfl rfl (by decide) (gMem fl_X8_54) rfl rfl (tdec DX8_record 51 rfl) rfl ?_
          refine g_iload_n (z := 3) C (tdec DX8_record 52 rfl) rfl rfl rfl ?_
          refine g_dup2 C (tdec DX8_record 53 rfl) rfl rfl rfl ?_
          obtain ⟨r35, y36, hF⟩ := o_bind hF
          refine g_iald C 15 1 rfl rfl y36 (tdec DX8_record 54 rfl) rfl ?_
          refine g_iconst (v := 1) C (tdec DX8_record 55 rfl) (by decide) rfl ?_
          refine g_iadd C (tdec DX8_record 56 rfl) rfl ?_
          obtain ⟨g37, y38, hF⟩ := o_bind hF
          refine g_iast (ws' := wM cB cI cJ cZ x_0 x_1 x_2 x_3 x_4 x_5 x_6 x_7 x_8 x_9 x_10 x_11 x_12 x_13 x_14 x_15 x_16 x_17 x_18 x_19 (MS_setrec s32 g37)) C 15 1 rfl rfl y38 rfl (tdec DX8_record 57 rfl) rfl ?_
          refine g_iload_n (z := 1) C (tdec DX8_record 58 rfl) rfl rfl rfl ?_
          refine g_iconst (v := 4) C (tdec DX8_record 59 rfl) (by decide) rfl ?_
          refine g_icmp_ne (pt := 108) C (tdec DX8_record 60 rfl) (by decide) rfl (fun h39 => ?_) (fun h39 => ?_)
          · have hF := o_ifn hF h39
            refine g_aload_n (z := 2) C (tdec DX8_record 66 rfl) rfl rfl rfl ?_
            refine g_iload_n (z := 3) C (tdec DX8_record 67 rfl) rfl rfl rfl ?_
            obtain ⟨s40, y41, hF⟩ := o_bind hF
            refine g_callVvMS (q0 := 0) (W' := wM cB cI cJ cZ x_0 x_1 x_2 x_3 x_4 x_5 x_6 x_7 x_8 x_9 x_10 x_11 x_12 x_13 x_14 x_15 x_16 x_17 x_18 x_19 s40) (S := [wM cB cI cJ cZ x_0 x_1 x_2 x_3 x_4 x_5 x_6 x_7 x_8 x_9 x_10 x_11 x_12 x_13 x_14 x_15 x_16 x_17 x_18 x_19 (MS_setrec s32 g37)]) (S0 := [wM cB cI cJ cZ x_0 x_1 x_2 x_3 x_4 x_5 x_6 x_7 x_8 x_9 x_10 x_11 x_12 x_13 x_14 x_15 x_16 x_17 x_18 x_19 (MS_setrec s32 g37)]) (S1 := [wM cB cI cJ cZ x_0 x_1 x_2 x_3 x_4 x_5 x_6 x_7 x_8 x_9 x_10 x_11 x_12 x_13 x_14 x_15 x_16 x_17 x_18 x_19 s40]) (S' := [wM cB cI cJ cZ x_0 x_1 x_2 x_3 x_4 x_5 x_6 x_7 x_8 x_9 x_10 x_11 x_12 x_13 x_14 x_15 x_16 x_17 x_18 x_19 s40]) C (c_X8_sweeps l D cB cI cJ cZ x_0 x_1 x_2 x_3 x_4 x_5 x_6 x_7 x_8 x_9 x_10 x_11 x_12 x_13 x_14 x_15 x_16 x_17 x_18 x_19 y41) rfl rfl (gIV ml_X8_135 im_X8_sweeps sl_X8_sweeps in_X8 cd_X8_sweeps) rfl eX8_sweeps rfl ⟨rfl, rfl⟩ ⟨Nat.le_of_ble_eq_true rfl, Nat.le_of_ble_eq_true rfl⟩ rfl rfl rfl [0] rfl rfl rfl rfl (gA_cons aM gA_nil) rfl rfl (Nat.le_of_ble_eq_true rfl) (tdec DX8_record 68 rfl) rfl ?_
            refine g_bipush (v := 7) C (tdec DX8_record 69 rfl) (by decide) rfl ?_
            have hr9 := o_some hF
            subst hr9
            exact g_iret C rfl rfl (tdec DX8_record 70 rfl)
          · have hF := o_ifp hF h39
            refine g_aload_n (z := 2) C (tdec DX8_record 61 rfl) rfl rfl rfl ?_
            refine g_iload_n (z := 3) C (tdec DX8_record 62 rfl) rfl rfl rfl ?_
            obtain ⟨s42, y43, hF⟩ := o_bind hF
            refine g_callVvMS (q0 := 0) (W' := wM cB cI cJ cZ x_0 x_1 x_2 x_3 x_4 x_5 x_6 x_7 x_8 x_9 x_10 x_11 x_12 x_13 x_14 x_15 x_16 x_17 x_18 x_19 s42) (S := [wM cB cI cJ cZ x_0 x_1 x_2 x_3 x_4 x_5 x_6 x_7 x_8 x_9 x_10 x_11 x_12 x_13 x_14 x_15 x_16 x_17 x_18 x_19 (MS_setrec s32 g37)]) (S0 := [wM cB cI cJ cZ x_0 x_1 x_2 x_3 x_4 x_5 x_6 x_7 x_8 x_9 x_10 x_11 x_12 x_13 x_14 x_15 x_16 x_17 x_18 x_19 (MS_setrec s32 g37)]) (S1 := [wM cB cI cJ cZ x_0 x_1 x_2 x_3 x_4 x_5 x_6 x_7 x_8 x_9 x_10 x_11 x_12 x_13 x_14 x_15 x_16 x_17 x_18 x_19 s42]) (S' := [wM cB cI cJ cZ x_0 x_1 x_2 x_3 x_4 x_5 x_6 x_7 x_8 x_9 x_10 x_11 x_12 x_13 x_14 x_15 x_16 x_17 x_18 x_19 s42]) C (c_X8_stops l D cB cI cJ cZ x_0 x_1 x_2 x_3 x_4 x_5 x_6 x_7 x_8 x_9 x_10 x_11 x_12 x_13 x_14 x_15 x_16 x_17 x_18 x_19 y43) rfl rfl (gIV ml_X8_203 im_X8_stops sl_X8_stops in_X8 cd_X8_stops) rfl eX8_stops rfl ⟨rfl, rfl⟩ ⟨Nat.le_of_ble_eq_true rfl, Nat.le_of_ble_eq_true rfl⟩ rfl rfl rfl [0] rfl rfl rfl rfl (gA_cons aM gA_nil) rfl rfl (Nat.le_of_ble_eq_true rfl) (tdec DX8_record 63 rfl) rfl ?_
            refine g_iconst (v := 0) C (tdec DX8_record 64 rfl) (by decide) rfl ?_
            have hr9 := o_some hF
            subst hr9
            exact g_iret C rfl rfl (tdec DX8_record 65 rfl)
        · have hF := o_ifn hF h34
          refine g_aload_n (z := 2) C (tdec DX8_record 45 rfl) rfl rfl rfl ?_
          refine g_iload_n (z := 3) C (tdec DX8_record 46 rfl) rfl rfl rfl ?_
          obtain ⟨s44, y45, hF⟩ := o_bind hF
          refine g_callVvMS (q0 := 0) (W' := wM cB cI cJ cZ x_0 x_1 x_2 x_3 x_4 x_5 x_6 x_7 x_8 x_9 x_10 x_11 x_12 x_13 x_14 x_15 x_16 x_17 x_18 x_19 s44) (S := [wM cB cI cJ cZ x_0 x_1 x_2 x_3 x_4 x_5 x_6 x_7 x_8 x_9 x_10 x_11 x_12 x_13 x_14 x_15 x_16 x_17 x_18 x_19 s32]) (S0 := [wM cB cI cJ cZ x_0 x_1 x_2 x_3 x_4 x_5 x_6 x_7 x_8 x_9 x_10 x_11 x_12 x_13 x_14 x_15 x_16 x_17 x_18 x_19 s32]) (S1 := [wM cB cI cJ cZ x_0 x_1 x_2 x_3 x_4 x_5 x_6 x_7 x_8 x_9 x_10 x_11 x_12 x_13 x_14 x_15 x_16 x_17 x_18 x_19 s44]) (S' := [wM cB cI cJ cZ x_0 x_1 x_2 x_3 x_4 x_5 x_6 x_7 x_8 x_9 x_10 x_11 x_12 x_13 x_14 x_15 x_16 x_17 x_18 x_19 s44]) C (c_X8_stops l D cB cI cJ cZ x_0 x_1 x_2 x_3 x_4 x_5 x_6 x_7 x_8 x_9 x_10 x_11 x_12 x_13 x_14 x_15 x_16 x_17 x_18 x_19 y45) rfl rfl (gIV ml_X8_203 im_X8_stops sl_X8_stops in_X8 cd_X8_stops) rfl eX8_stops rfl ⟨rfl, rfl⟩ ⟨Nat.le_of_ble_eq_true rfl, Nat.le_of_ble_eq_true rfl⟩ rfl rfl rfl [0] rfl rfl rfl rfl (gA_cons aM gA_nil) rfl rfl (Nat.le_of_ble_eq_true rfl) (tdec DX8_record 47 rfl) rfl ?_
          refine g_iload_n (z := 0) C (tdec DX8_record 48 rfl) rfl rfl rfl ?_
          have hr9 := o_some hF
          subst hr9
          exact g_iret C rfl rfl (tdec DX8_record 49 rfl)
    · have hF := o_ifp hF h14
      refine g_aload_n (z := 1) C (tdec DX8_record 23 rfl) rfl rfl rfl ?_
      refine g_iload_n (z := 2) C (tdec DX8_record 24 rfl) rfl rfl rfl ?_
      obtain ⟨⟨r46, s47⟩, y48, hF⟩ := o_bind hF
      refine g_callViMS (q0 := 0) (W' := wM cB cI cJ cZ x_0 x_1 x_2 x_3 x_4 x_5 x_6 x_7 x_8 x_9 x_10 x_11 x_12 x_13 x_14 x_15 x_16 x_17 x_18 x_19 s47) (S := [wM cB cI cJ cZ x_0 x_1 x_2 x_3 x_4 x_5 x_6 x_7 x_8 x_9 x_10 x_11 x_12 x_13 x_14 x_15 x_16 x_17 x_18 x_19 s12]) (S0 := [wM cB cI cJ cZ x_0 x_1 x_2 x_3 x_4 x_5 x_6 x_7 x_8 x_9 x_10 x_11 x_12 x_13 x_14 x_15 x_16 x_17 x_18 x_19 s12]) (S1 := [wM cB cI cJ cZ x_0 x_1 x_2 x_3 x_4 x_5 x_6 x_7 x_8 x_9 x_10 x_11 x_12 x_13 x_14 x_15 x_16 x_17 x_18 x_19 s47]) (S' := [wM cB cI cJ cZ x_0 x_1 x_2 x_3 x_4 x_5 x_6 x_7 x_8 x_9 x_10 x_11 x_12 x_13 x_14 x_15 x_16 x_17 x_18 x_19 s47]) C (c_X8_writesHere l D cB cI cJ cZ x_0 x_1 x_2 x_3 x_4 x_5 x_6 x_7 x_8 x_9 x_10 x_11 x_12 x_13 x_14 x_15 x_16 x_17 x_18 x_19 y48) rfl rfl (gIV ml_X8_194 im_X8_writesHere sl_X8_writesHere in_X8 cd_X8_writesHere) rfl eX8_writesHere rfl ⟨rfl, rfl⟩ ⟨Nat.le_of_ble_eq_true rfl, Nat.le_of_ble_eq_true rfl⟩ rfl rfl rfl [0] rfl rfl rfl rfl (gA_cons aM gA_nil) rfl rfl (Nat.le_of_ble_eq_true rfl) (tdec DX8_record 25 rfl) rfl ?_
      refine g_goto (pt := 74) C (tdec DX8_record 26 rfl) (by decide) ?_
      refine g_istore_n (L' := [(3, .int r46), (2, .int r10), (0, .ref x_0), (1, .int p1)]) C (tdec DX8_record 42 rfl) rfl (by decide) rfl rfl ?_
      refine g_iload_n (z := 0) C (tdec DX8_record 43 rfl) rfl rfl rfl ?_
      refine g_if_eq (pt := 86) C (tdec DX8_record 44 rfl) (by decide) rfl (fun h49 => ?_) (fun h49 => ?_)
      · have hF := o_ifp hF h49
        refine g_aload_n (z := 2) C (tdec DX8_record 50 rfl) rfl rfl rfl ?_
        refine g_getf (C' := RX8) (T := TX8) (N := 27) (v := .ref x_15) C 0 15 (gIn iw_X8) rfl rfl (by decide) (gMem fl_X8_54) rfl rfl (tdec DX8_record 51 rfl) rfl ?_
        refine g_iload_n (z := 3) C (tdec DX8_record 52 rfl) rfl rfl rfl ?_
        refine g_dup2 C (tdec DX8_record 53 rfl) rfl rfl rfl ?_
        obtain ⟨r50, y51, hF⟩ := o_bind hF
        refine g_iald C 15 1 rfl rfl y51 (tdec DX8_record 54 rfl) rfl ?_
        refine g_iconst (v := 1) C (tdec DX8_record 55 rfl) (by decide) rfl ?_
        refine g_iadd C (tdec DX8_record 56 rfl) rfl ?_
        obtain ⟨g52, y53, hF⟩ := o_bind hF
        refine g_iast (ws' := wM cB cI cJ cZ x_0 x_1 x_2 x_3 x_4 x_5 x_6 x_7 x_8 x_9 x_10 x_11 x_12 x_13 x_14 x_15 x_16 x_17 x_18 x_19 (MS_setrec s47 g52)) C 15 1 rfl rfl y53 rfl (tdec DX8_record 57 rfl) rfl ?_
        refine g_iload_n (z := 1) C (tdec DX8_record 58 rfl) rfl rfl rfl ?_
        refine g_iconst (v := 4) C (tdec DX8_record 59 rfl) (by decide) rfl ?_
        refine g_icmp_ne (pt := 108) C (tdec DX8_record 60 rfl) (by decide) rfl (fun h54 => ?_) (fun h54 => ?_)
        · have hF := o_ifn hF h54
          refine g_aload_n (z := 2) C (tdec DX8_record 66 rfl) rfl rfl rfl ?_
          refine g_iload_n (z := 3) C (tdec DX8_record 67 rfl) rfl rfl rfl ?_
          obtain ⟨s55, y56, hF⟩ := o_bind hF
          refine g_callVvMS (q0 := 0) (W' := wM cB cI cJ cZ x_0 x_1 x_2 x_3 x_4 x_5 x_6 x_7 x_8 x_9 x_10 x_11 x_12 x_13 x_14 x_15 x_16 x_17 x_18 x_19 s55) (S := [wM cB cI cJ cZ x_0 x_1 x_2 x_3 x_4 x_5 x_6 x_7 x_8 x_9 x_10 x_11 x_12 x_13 x_14 x_15 x_16 x_17 x_18 x_19 (MS_setrec s47 g52)]) (S0 := [wM cB cI cJ cZ x_0 x_1 x_2 x_3 x_4 x_5 x_6 x_7 x_8 x_9 x_10 x_11 x_12 x_13 x_14 x_15 x_16 x_17 x_18 x_19 (MS_setrec s47 g52)]) (S1 := [wM cB cI cJ cZ x_0 x_1 x_2 x_3 x_4 x_5 x_6 x_7 x_8 x_9 x_10 x_11 x_12 x_13 x_14 x_15 x_16 x_17 x_18 x_19 s55]) (S' := [wM cB cI cJ cZ x_0 x_1 x_2 x_3 x_4 x_5 x_6 x_7 x_8 x_9 x_10 x_11 x_12 x_13 x_14 x_15 x_16 x_17 x_18 x_19 s55]) C (c_X8_sweeps l D cB cI cJ cZ x_0 x_1 x_2 x_3 x_4 x_5 x_6 x_7 x_8 x_9 x_10 x_11 x_12 x_13 x_14 x_15 x_16 x_17 x_18 x_19 y56) rfl rfl (gIV ml_X8_135 im_X8_sweeps sl_X8_sweeps in_X8 cd_X8_sweeps) rfl eX8_sweeps rfl ⟨rfl, rfl⟩ ⟨Nat.le_of_ble_eq_true rfl, Nat.le_of_ble_eq_true rfl⟩ rfl rfl rfl [0] rfl rfl rfl rfl (gA_cons aM gA_nil) rfl rfl (Nat.le_of_ble_eq_true rfl) (tdec DX8_record 68 rfl) rfl ?_
          refine g_bipush (v := 7) C (tdec DX8_record 69 rfl) (by decide) rfl ?_
          have hr9 := o_some hF
          subst hr9
          exact g_iret C rfl rfl (tdec DX8_record 70 rfl)
        · have hF := o_ifp hF h54
          refine g_aload_n (z := 2) C (tdec DX8_record 61 rfl) rfl rfl rfl ?_
          refine g_iload_n (z := 3) C (tdec DX8_record 62 rfl) rfl rfl rfl ?_
          obtain ⟨s57, y58, hF⟩ := o_bind hF
          refine g_callVvMS (q0 := 0) (W' := wM cB cI cJ cZ x_0 x_1 x_2 x_3 x_4 x_5 x_6 x_7 x_8 x_9 x_10 x_11 x_12 x_13 x_14 x_15 x_16 x_17 x_18 x_19 s57) (S := [wM cB cI cJ cZ x_0 x_1 x_2 x_3 x_4 x_5 x_6 x_7 x_8 x_9 x_10 x_11 x_12 x_13 x_14 x_15 x_16 x_17 x_18 x_19 (MS_setrec s47 g52)]) (S0 := [wM cB cI cJ cZ x_0 x_1 x_2 x_3 x_4 x_5 x_6 x_7 x_8 x_9 x_10 x_11 x_12 x_13 x_14 x_15 x_16 x_17 x_18 x_19 (MS_setrec s47 g52)]) (S1 := [wM cB cI cJ cZ x_0 x_1 x_2 x_3 x_4 x_5 x_6 x_7 x_8 x_9 x_10 x_11 x_12 x_13 x_14 x_15 x_16 x_17 x_18 x_19 s57]) (S' := [wM cB cI cJ cZ x_0 x_1 x_2 x_3 x_4 x_5 x_6 x_7 x_8 x_9 x_10 x_11 x_12 x_13 x_14 x_15 x_16 x_17 x_18 x_19 s57]) C (c_X8_stops l D cB cI cJ cZ x_0 x_1 x_2 x_3 x_4 x_5 x_6 x_7 x_8 x_9 x_10 x_11 x_12 x_13 x_14 x_15 x_16 x_17 x_18 x_19 y58) rfl rfl (gIV ml_X8_203 im_X8_stops sl_X8_stops in_X8 cd_X8_stops) rfl eX8_stops rfl ⟨rfl, rfl⟩ ⟨Nat.le_of_ble_eq_true rfl, Nat.le_of_ble_eq_true rfl⟩ rfl rfl rfl [0] rfl rfl rfl rfl (gA_cons aM gA_nil) rfl rfl (Nat.le_of_ble_eq_true rfl) (tdec DX8_record 63 rfl) rfl ?_
          refine g_iconst (v := 0) C (tdec DX8_record 64 rfl) (by decide) rfl ?_
          have hr9 := o_some hF
          subst hr9
          exact g_iret C rfl rfl (tdec DX8_record 65 rfl)
      · have hF := o_ifn hF h49
        refine g_aload_n (z := 2) C (tdec DX8_record 45 rfl) rfl rfl rfl ?_
        refine g_iload_n (z := 3) C (tdec DX8_record 46 rfl) rfl rfl rfl ?_
        obtain ⟨s59, y60, hF⟩ := o_bind hF
        refine g_callVvMS (q0 := 0) (W' := wM cB cI cJ cZ x_0 x_1 x_2 x_3 x_4 x_5 x_6 x_7 x_8 x_9 x_10 x_11 x_12 x_13 x_14 x_15 x_16 x_17 x_18 x_19 s59) (S := [wM cB cI cJ cZ x_0 x_1 x_2 x_3 x_4 x_5 x_6 x_7 x_8 x_9 x_10 x_11 x_12 x_13 x_14 x_15 x_16 x_17 x_18 x_19 s47]) (S0 := [wM cB cI cJ cZ x_0 x_1 x_2 x_3 x_4 x_5 x_6 x_7 x_8 x_9 x_10 x_11 x_12 x_13 x_14 x_15 x_16 x_17 x_18 x_19 s47]) (S1 := [wM cB cI cJ cZ x_0 x_1 x_2 x_3 x_4 x_5 x_6 x_7 x_8 x_9 x_10 x_11 x_12 x_13 x_14 x_15 x_16 x_17 x_18 x_19 s59]) (S' := [wM cB cI cJ cZ x_0 x_1 x_2 x_3 x_4 x_5 x_6 x_7 x_8 x_9 x_10 x_11 x_12 x_13 x_14 x_15 x_16 x_17 x_18 x_19 s59]) C (c_X8_stops l D cB cI cJ cZ x_0 x_1 x_2 x_3 x_4 x_5 x_6 x_7 x_8 x_9 x_10 x_11 x_12 x_13 x_14 x_15 x_16 x_17 x_18 x_19 y60) rfl rfl (gIV ml_X8_203 im_X8_stops sl_X8_stops in_X8 cd_X8_stops) rfl eX8_stops rfl ⟨rfl, rfl⟩ ⟨Nat.le_of_ble_eq_true rfl, Nat.le_of_ble_eq_true rfl⟩ rfl rfl rfl [0] rfl rfl rfl rfl (gA_cons aM gA_nil) rfl rfl (Nat.le_of_ble_eq_true rfl) (tdec DX8_record 47 rfl) rfl ?_
        refine g_iload_n (z := 0) C (tdec DX8_record 48 rfl) rfl rfl rfl ?_
        have hr9 := o_some hF
        subst hr9
        exact g_iret C rfl rfl (tdec DX8_record 49 rfl)
def FX8_step_L49 (v1 : Int32) (v2 : Int32) (k9 : MS → Int32 → Int32 → Option (Int32 × MS)) : Nat → MS → Int32 → Int32 → Option (Int32 × MS)
  | 0, _, _, _ => none
  | n9 + 1, x, v3, v4 =>
    if v2 ≤ v4 then
      k9 x v3 v4
    else
      if v3 = 7 then
        (FX8_record x v1).bind fun (r10, s11) =>
        FX8_step_L49 v1 v2 k9 n9 s11 r10 (v4 + 1)
      else
        k9 x v3 v4
def FX8_step (x0 : MS) (p1 : Int32) (p2 : Int32) : Option (Int32 × MS) :=
  (FX8_isVolume p1).bind fun r1 =>
  if r1 = 0 then
    some (0, (MS_setthr x0 1))
  else
    if 1 ≤ p2 then
      (ald 2 (MS_busy x0) p1).bind fun r5 =>
      if r5 = 0 then
        some (0, (MS_setthr x0 2))
      else
        FX8_step_L49 p1 p2 (fun xq13 w3_13 w4_13 =>
          some (w3_13, xq13)) 100000 (MS_setthr x0 0) 7 0
    else
      some (0, (MS_setthr x0 1))
def rX8_step : Room := { frames := 5, cells := 0, slots := 0, locals := 128 }
set_option maxHeartbeats 4000000 in
set_option maxRecDepth 100000 in
theorem c_FX8_step_L49 {p : Program} {l : Launch} {e : Env} {s : State} {m : MethodId} {args : Array Value} {below : List Frame} {meth : Method} {c : Code} {D : va_G} {cB cI cJ cZ : ClassId} {x_0 x_1 x_2 x_3 x_4 x_5 x_6 x_7 x_8 x_9 x_10 x_11 x_12 x_13 x_14 x_15 x_16 x_17 x_18 x_19 : Nat} {x0 : MS} {res : Int32 × MS} (C : gC p s m args meth c cX8_step 5 RX8 wsX8_step D (gT cB cI cJ cZ) (some .int) (va_A (wM cB cI cJ cZ x_0 x_1 x_2 x_3 x_4 x_5 x_6 x_7 x_8 x_9 x_10 x_11 x_12 x_13 x_14 x_15 x_16 x_17 x_18 x_19 x0) s.heap.size)) {v1 : Int32} {v2 : Int32} {k9 : MS → Int32 → Int32 → Option (Int32 × MS)} (hk9 : ∀ (x : MS) (v3 : Int32) (v4 : Int32), k9 x v3 v4 = some res → gG p l e (headSpec wsX8_step rX8_step).room s m args below meth c 0 0 D (va_A (wM cB cI cJ cZ x_0 x_1 x_2 x_3 x_4 x_5 x_6 x_7 x_8 x_9 x_10 x_11 x_12 x_13 x_14 x_15 x_16 x_17 x_18 x_19 x0) s.heap.size) (va_A (wM cB cI cJ cZ x_0 x_1 x_2 x_3 x_4 x_5 x_6 x_7 x_8 x_9 x_10 x_11 x_12 x_13 x_14 x_15 x_16 x_17 x_18 x_19 x0) s.heap.size) 5 (MQ below (gQi D (wM cB cI cJ cZ x_0 x_1 x_2 x_3 x_4 x_5 x_6 x_7 x_8 x_9 x_10 x_11 x_12 x_13 x_14 x_15 x_16 x_17 x_18 x_19 x0) s.heap.size res.1 (wM cB cI cJ cZ x_0 x_1 x_2 x_3 x_4 x_5 x_6 x_7 x_8 x_9 x_10 x_11 x_12 x_13 x_14 x_15 x_16 x_17 x_18 x_19 res.2)) args s 0 0 (va_A (wM cB cI cJ cZ x_0 x_1 x_2 x_3 x_4 x_5 x_6 x_7 x_8 x_9 x_10 x_11 x_12 x_13 x_14 x_15 x_16 x_17 x_18 x_19 x0) s.heap.size)) (wM cB cI cJ cZ x_0 x_1 x_2 x_3 x_4 x_5 x_6 x_7 x_8 x_9 x_10 x_11 x_12 x_13 x_14 x_15 x_16 x_17 x_18 x_19 x) 73 [(0, .ref x_0), (1, .int v1), (2, .int v2), (3, .int v3), (4, .int v4)] []) :
    ∀ (n9 : Nat) (x : MS) (v3 : Int32) (v4 : Int32), FX8_step_L49 v1 v2 k9 n9 x v3 v4 = some res → gG p l e (headSpec wsX8_step rX8_step).room s m args below meth c 0 0 D (va_A (wM cB cI cJ cZ x_0 x_1 x_2 x_3 x_4 x_5 x_6 x_7 x_8 x_9 x_10 x_11 x_12 x_13 x_14 x_15 x_16 x_17 x_18 x_19 x0) s.heap.size) (va_A (wM cB cI cJ cZ x_0 x_1 x_2 x_3 x_4 x_5 x_6 x_7 x_8 x_9 x_10 x_11 x_12 x_13 x_14 x_15 x_16 x_17 x_18 x_19 x0) s.heap.size) 5 (MQ below (gQi D (wM cB cI cJ cZ x_0 x_1 x_2 x_3 x_4 x_5 x_6 x_7 x_8 x_9 x_10 x_11 x_12 x_13 x_14 x_15 x_16 x_17 x_18 x_19 x0) s.heap.size res.1 (wM cB cI cJ cZ x_0 x_1 x_2 x_3 x_4 x_5 x_6 x_7 x_8 x_9 x_10 x_11 x_12 x_13 x_14 x_15 x_16 x_17 x_18 x_19 res.2)) args s 0 0 (va_A (wM cB cI cJ cZ x_0 x_1 x_2 x_3 x_4 x_5 x_6 x_7 x_8 x_9 x_10 x_11 x_12 x_13 x_14 x_15 x_16 x_17 x_18 x_19 x0) s.heap.size)) (wM cB cI cJ cZ x_0 x_1 x_2 x_3 x_4 x_5 x_6 x_7 x_8 x_9 x_10 x_11 x_12 x_13 x_14 x_15 x_16 x_17 x_18 x_19 x) 49 [(0, .ref x_0), (1, .int v1), (2, .int v2), (3, .int v3), (4, .int v4)] [] := by
  intro n9
  induction n9 with
  | zero =>
    intro x v3 v4 hF
    exact absurd hF (by simp [FX8_step_L49])
  | succ n9 ih9 =>
    intro x v3 v4 hF
    rw [FX8_step_L49] at hF
    refine g_iload (z := 4) C (tdec DX8_step 27 rfl) rfl rfl ?_
    refine g_iload_n (z := 2) C (tdec DX8_step 28 rfl) rfl rfl rfl ?_
    refine g_icmp_ge (pt := 73) C (tdec DX8_step 29 rfl) (by decide) rfl (fun h8 => ?_) (fun h8 => ?_)
    · have hF := o_ifp hF h8
      refine g_sub (L' := [(0, .ref x_0), (1, .int v1), (2, .int v2), (3, .int v3), (4, .int v4)]) [0, 1, 2, 3, 4] rfl ?_
      exact hk9 _ _ _ hF
    · have hF := o_ifn hF h8
      refine g_iload_n (z := 3) C (tdec DX8_step 30 rfl) rfl rfl rfl ?_
      refine g_bipush (v := 7) C (tdec DX8_step 31 rfl) (by decide) rfl ?_
      refine g_icmp_ne (pt := 73) C (tdec DX8_step 32 rfl) (by decide) rfl (fun h9 => ?_) (fun h9 => ?_)
      · have hF := o_ifn hF h9
        refine g_sub (L' := [(0, .ref x_0), (1, .int v1), (2, .int v2), (3, .int v3), (4, .int v4)]) [0, 1, 2, 3, 4] rfl ?_
        exact hk9 _ _ _ hF
      · have hF := o_ifp hF h9
        refine g_aload_n (z := 0) C (tdec DX8_step 33 rfl) rfl rfl rfl ?_
        refine g_iload_n (z := 1) C (tdec DX8_step 34 rfl) rfl rfl rfl ?_
        obtain ⟨⟨r10, s11⟩, y12, hF⟩ := o_bind hF
        refine g_callViMS (q0 := 0) (W' := wM cB cI cJ cZ x_0 x_1 x_2 x_3 x_4 x_5 x_6 x_7 x_8 x_9 x_10 x_11 x_12 x_13 x_14 x_15 x_16 x_17 x_18 x_19 s11) (S := [wM cB cI cJ cZ x_0 x_1 x_2 x_3 x_4 x_5 x_6 x_7 x_8 x_9 x_10 x_11 x_12 x_13 x_14 x_15 x_16 x_17 x_18 x_19 x]) (S0 := [wM cB cI cJ cZ x_0 x_1 x_2 x_3 x_4 x_5 x_6 x_7 x_8 x_9 x_10 x_11 x_12 x_13 x_14 x_15 x_16 x_17 x_18 x_19 x]) (S1 := [wM cB cI cJ cZ x_0 x_1 x_2 x_3 x_4 x_5 x_6 x_7 x_8 x_9 x_10 x_11 x_12 x_13 x_14 x_15 x_16 x_17 x_18 x_19 s11]) (S' := [wM cB cI cJ cZ x_0 x_1 x_2 x_3 x_4 x_5 x_6 x_7 x_8 x_9 x_10 x_11 x_12 x_13 x_14 x_15 x_16 x_17 x_18 x_19 s11]) C (c_X8_record l D cB cI cJ cZ x_0 x_1 x_2 x_3 x_4 x_5 x_6 x_7 x_8 x_9 x_10 x_11 x_12 x_13 x_14 x_15 x_16 x_17 x_18 x_19 y12) rfl rfl (gIV ml_X8_206 im_X8_record sl_X8_record in_X8 cd_X8_record) rfl eX8_record rfl ⟨rfl, rfl⟩ ⟨Nat.le_of_ble_eq_true rfl, Nat.le_of_ble_eq_true rfl⟩ rfl rfl rfl [0] rfl rfl rfl rfl (gA_cons aM gA_nil) rfl rfl (Nat.le_of_ble_eq_true rfl) (tdec DX8_step 35 rfl) rfl ?_
        refine g_istore_n (L' := [(3, .int r10), (0, .ref x_0), (1, .int v1), (2, .int v2), (4, .int v4)]) C (tdec DX8_step 36 rfl) rfl (by decide) rfl rfl ?_
        refine g_iinc (z := 4) (v := (v4 + 1)) (L' := [(4, .int (v4 + 1)), (3, .int r10), (0, .ref x_0), (1, .int v1), (2, .int v2)]) C (tdec DX8_step 37 rfl) rfl rfl (by decide) rfl rfl ?_
        refine g_goto (pt := 49) C (tdec DX8_step 38 rfl) (by decide) ?_
        refine g_sub (L' := [(0, .ref x_0), (1, .int v1), (2, .int v2), (3, .int r10), (4, .int (v4 + 1))]) [2, 3, 4, 1, 0] rfl ?_
        exact ih9 _ _ _ hF
set_option maxHeartbeats 4000000 in
set_option maxRecDepth 100000 in
theorem c_X8_step (l : Launch) (D : va_G) (cB cI cJ cZ : ClassId) (x_0 x_1 x_2 x_3 x_4 x_5 x_6 x_7 x_8 x_9 x_10 x_11 x_12 x_13 x_14 x_15 x_16 x_17 x_18 x_19 : Nat) {x0 : MS} {p1 : Int32} {p2 : Int32} {res : Int32 × MS} (hF : FX8_step x0 p1 p2 = some res) : gMi l yX8_step wsX8_step rX8_step D (gT cB cI cJ cZ) [.ref x_0, .int p1, .int p2] (wM cB cI cJ cZ x_0 x_1 x_2 x_3 x_4 x_5 x_6 x_7 x_8 x_9 x_10 x_11 x_12 x_13 x_14 x_15 x_16 x_17 x_18 x_19 x0) res.1 (wM cB cI cJ cZ x_0 x_1 x_2 x_3 x_4 x_5 x_6 x_7 x_8 x_9 x_10 x_11 x_12 x_13 x_14 x_15 x_16 x_17 x_18 x_19 res.2) := by
  refine g_enter (own := RX8) (free := (fun sz => va_A (wM cB cI cJ cZ x_0 x_1 x_2 x_3 x_4 x_5 x_6 x_7 x_8 x_9 x_10 x_11 x_12 x_13 x_14 x_15 x_16 x_17 x_18 x_19 x0) sz)) (Qc := (fun sz => gQi D (wM cB cI cJ cZ x_0 x_1 x_2 x_3 x_4 x_5 x_6 x_7 x_8 x_9 x_10 x_11 x_12 x_13 x_14 x_15 x_16 x_17 x_18 x_19 x0) sz res.1 (wM cB cI cJ cZ x_0 x_1 x_2 x_3 x_4 x_5 x_6 x_7 x_8 x_9 x_10 x_11 x_12 x_13 x_14 x_15 x_16 x_17 x_18 x_19 res.2))) (fun sz => va_A (wM cB cI cJ cZ x_0 x_1 x_2 x_3 x_4 x_5 x_6 x_7 x_8 x_9 x_10 x_11 x_12 x_13 x_14 x_15 x_16 x_17 x_18 x_19 x0) sz) (fun sz => Or.inr rfl) rfl (by decide) rfl (Nat.le_of_ble_eq_true rfl) rfl ?_
  intro p e s m args below meth c C
  unfold FX8_step at hF
  refine g_aload_n (z := 0) C (tdec DX8_step 0 rfl) rfl rfl rfl ?_
  refine g_iload_n (z := 1) C (tdec DX8_step 1 rfl) rfl rfl rfl ?_
  obtain ⟨r1, y2, hF⟩ := o_bind hF
  refine g_callSiR C (c_X8_isVolume l D cB cI cJ cZ y2) (gIS ml_X8_82 st_X8_isVolume in_X8 cd_X8_isVolume) eX8_isVolume rfl ⟨rfl, rfl⟩ ⟨Nat.le_of_ble_eq_true rfl, Nat.le_of_ble_eq_true rfl⟩ rfl [] rfl rfl rfl (Nat.le_of_ble_eq_true rfl) (tdec DX8_step 2 rfl) rfl ?_
  refine g_if_eq (pt := 13) C (tdec DX8_step 3 rfl) (by decide) rfl (fun h3 => ?_) (fun h3 => ?_)
  · have hF := o_ifp hF h3
    refine g_iconst (v := 1) C (tdec DX8_step 7 rfl) (by decide) rfl ?_
    refine g_goto (pt := 31) C (tdec DX8_step 8 rfl) (by decide) ?_
    refine g_putf (C' := RX8) (T := TX8) (N := 27) (v := .int 1) (ws' := wM cB cI cJ cZ x_0 x_1 x_2 x_3 x_4 x_5 x_6 x_7 x_8 x_9 x_10 x_11 x_12 x_13 x_14 x_15 x_16 x_17 x_18 x_19 (MS_setthr x0 1)) C 0 0 tyX8 tyX8_ok nmX8 (gIn iw_X8) rfl rfl (by decide) (gMem fl_X8_78) rfl rfl (tyX8_ok 0 (by decide)) rfl rfl (Nat.le_of_ble_eq_true rfl) rfl (tdec DX8_step 17 rfl) rfl ?_
    refine g_aload_n (z := 0) C (tdec DX8_step 18 rfl) rfl rfl rfl ?_
    refine g_getf (C' := RX8) (T := TX8) (N := 27) (v := .int 1) C 0 0 (gIn iw_X8) rfl rfl (by decide) (gMem fl_X8_78) rfl rfl (tdec DX8_step 19 rfl) rfl ?_
    refine g_if_le (pt := 43) C (tdec DX8_step 20 rfl) (by decide) rfl (fun h => absurd h (by decide)) (fun _ => ?_)
    refine g_iconst (v := 0) C (tdec DX8_step 21 rfl) (by decide) rfl ?_
    have hr9 := o_some hF
    subst hr9
    exact g_iret C rfl rfl (tdec DX8_step 22 rfl)
  · have hF := o_ifn hF h3
    refine g_iload_n (z := 2) C (tdec DX8_step 4 rfl) rfl rfl rfl ?_
    refine g_iconst (v := 1) C (tdec DX8_step 5 rfl) (by decide) rfl ?_
    refine g_icmp_ge (pt := 17) C (tdec DX8_step 6 rfl) (by decide) rfl (fun h4 => ?_) (fun h4 => ?_)
    · have hF := o_ifp hF h4
      refine g_aload_n (z := 0) C (tdec DX8_step 9 rfl) rfl rfl rfl ?_
      refine g_getf (C' := RX8) (T := TX8) (N := 27) (v := .ref x_13) C 0 13 (gIn iw_X8) rfl rfl (by decide) (gMem fl_X8_48) rfl rfl (tdec DX8_step 10 rfl) rfl ?_
      refine g_iload_n (z := 1) C (tdec DX8_step 11 rfl) rfl rfl rfl ?_
      obtain ⟨r5, y6, hF⟩ := o_bind hF
      refine g_zald C 13 3 rfl rfl y6 (tdec DX8_step 12 rfl) rfl ?_
      refine g_if_ne (pt := 30) C (tdec DX8_step 13 rfl) (by decide) rfl (fun h7 => ?_) (fun h7 => ?_)
      · have hF := o_ifn hF h7
        refine g_iconst (v := 0) C (tdec DX8_step 16 rfl) (by decide) rfl ?_
        refine g_putf (C' := RX8) (T := TX8) (N := 27) (v := .int 0) (ws' := wM cB cI cJ cZ x_0 x_1 x_2 x_3 x_4 x_5 x_6 x_7 x_8 x_9 x_10 x_11 x_12 x_13 x_14 x_15 x_16 x_17 x_18 x_19 (MS_setthr x0 0)) C 0 0 tyX8 tyX8_ok nmX8 (gIn iw_X8) rfl rfl (by decide) (gMem fl_X8_78) rfl rfl (tyX8_ok 0 (by decide)) rfl rfl (Nat.le_of_ble_eq_true rfl) rfl (tdec DX8_step 17 rfl) rfl ?_
        refine g_aload_n (z := 0) C (tdec DX8_step 18 rfl) rfl rfl rfl ?_
        refine g_getf (C' := RX8) (T := TX8) (N := 27) (v := .int 0) C 0 0 (gIn iw_X8) rfl rfl (by decide) (gMem fl_X8_78) rfl rfl (tdec DX8_step 19 rfl) rfl ?_
        refine g_if_le (pt := 43) C (tdec DX8_step 20 rfl) (by decide) rfl (fun _ => ?_) (fun h => absurd h (by decide))
        refine g_bipush (v := 7) C (tdec DX8_step 23 rfl) (by decide) rfl ?_
        refine g_istore_n (L' := [(3, .int 7), (0, .ref x_0), (1, .int p1), (2, .int p2)]) C (tdec DX8_step 24 rfl) rfl (by decide) rfl rfl ?_
        refine g_iconst (v := 0) C (tdec DX8_step 25 rfl) (by decide) rfl ?_
        refine g_istore (L' := [(4, .int 0), (3, .int 7), (0, .ref x_0), (1, .int p1), (2, .int p2)]) C (tdec DX8_step 26 rfl) (by decide) rfl rfl ?_
        refine g_sub (L' := [(0, .ref x_0), (1, .int p1), (2, .int p2), (3, .int 7), (4, .int 0)]) [2, 3, 4, 1, 0] rfl ?_
        refine c_FX8_step_L49 C (fun xq13 w3_13 w4_13 hF => ?_) 100000 _ _ _ hF
        refine g_iload_n (z := 3) C (tdec DX8_step 39 rfl) rfl rfl rfl ?_
        have hr9 := o_some hF
        subst hr9
        exact g_iret C rfl rfl (tdec DX8_step 40 rfl)
      · have hF := o_ifp hF h7
        refine g_iconst (v := 2) C (tdec DX8_step 14 rfl) (by decide) rfl ?_
        refine g_goto (pt := 31) C (tdec DX8_step 15 rfl) (by decide) ?_
        refine g_putf (C' := RX8) (T := TX8) (N := 27) (v := .int 2) (ws' := wM cB cI cJ cZ x_0 x_1 x_2 x_3 x_4 x_5 x_6 x_7 x_8 x_9 x_10 x_11 x_12 x_13 x_14 x_15 x_16 x_17 x_18 x_19 (MS_setthr x0 2)) C 0 0 tyX8 tyX8_ok nmX8 (gIn iw_X8) rfl rfl (by decide) (gMem fl_X8_78) rfl rfl (tyX8_ok 0 (by decide)) rfl rfl (Nat.le_of_ble_eq_true rfl) rfl (tdec DX8_step 17 rfl) rfl ?_
        refine g_aload_n (z := 0) C (tdec DX8_step 18 rfl) rfl rfl rfl ?_
        refine g_getf (C' := RX8) (T := TX8) (N := 27) (v := .int 2) C 0 0 (gIn iw_X8) rfl rfl (by decide) (gMem fl_X8_78) rfl rfl (tdec DX8_step 19 rfl) rfl ?_
        refine g_if_le (pt := 43) C (tdec DX8_step 20 rfl) (by decide) rfl (fun h => absurd h (by decide)) (fun _ => ?_)
        refine g_iconst (v := 0) C (tdec DX8_step 21 rfl) (by decide) rfl ?_
        have hr9 := o_some hF
        subst hr9
        exact g_iret C rfl rfl (tdec DX8_step 22 rfl)
    · have hF := o_ifn hF h4
      refine g_iconst (v := 1) C (tdec DX8_step 7 rfl) (by decide) rfl ?_
      refine g_goto (pt := 31) C (tdec DX8_step 8 rfl) (by decide) ?_
      refine g_putf (C' := RX8) (T := TX8) (N := 27) (v := .int 1) (ws' := wM cB cI cJ cZ x_0 x_1 x_2 x_3 x_4 x_5 x_6 x_7 x_8 x_9 x_10 x_11 x_12 x_13 x_14 x_15 x_16 x_17 x_18 x_19 (MS_setthr x0 1)) C 0 0 tyX8 tyX8_ok nmX8 (gIn iw_X8) rfl rfl (by decide) (gMem fl_X8_78) rfl rfl (tyX8_ok 0 (by decide)) rfl rfl (Nat.le_of_ble_eq_true rfl) rfl (tdec DX8_step 17 rfl) rfl ?_
      refine g_aload_n (z := 0) C (tdec DX8_step 18 rfl) rfl rfl rfl ?_
      refine g_getf (C' := RX8) (T := TX8) (N := 27) (v := .int 1) C 0 0 (gIn iw_X8) rfl rfl (by decide) (gMem fl_X8_78) rfl rfl (tdec DX8_step 19 rfl) rfl ?_
      refine g_if_le (pt := 43) C (tdec DX8_step 20 rfl) (by decide) rfl (fun h => absurd h (by decide)) (fun _ => ?_)
      refine g_iconst (v := 0) C (tdec DX8_step 21 rfl) (by decide) rfl ?_
      have hr9 := o_some hF
      subst hr9
      exact g_iret C rfl rfl (tdec DX8_step 22 rfl)
def FX8_crash (x0 : MS) (p1 : Int32) : Option (Int32 × MS) :=
  (FX8_isVolume p1).bind fun r1 =>
  if r1 = 0 then
    some (0, (MS_setthr x0 1))
  else
    (ald 2 (MS_busy x0) p1).bind fun r4 =>
    if r4 = 0 then
      some (0, (MS_setthr x0 0))
    else
      (FX8_stops (MS_setthr x0 0) p1).bind fun s7 =>
      some (1, s7)
def rX8_crash : Room := { frames := 3, cells := 0, slots := 0, locals := 67 }
set_option maxHeartbeats 4000000 in
set_option maxRecDepth 100000 in
theorem c_X8_crash (l : Launch) (D : va_G) (cB cI cJ cZ : ClassId) (x_0 x_1 x_2 x_3 x_4 x_5 x_6 x_7 x_8 x_9 x_10 x_11 x_12 x_13 x_14 x_15 x_16 x_17 x_18 x_19 : Nat) {x0 : MS} {p1 : Int32} {res : Int32 × MS} (hF : FX8_crash x0 p1 = some res) : gMi l yX8_crash wsX8_crash rX8_crash D (gT cB cI cJ cZ) [.ref x_0, .int p1] (wM cB cI cJ cZ x_0 x_1 x_2 x_3 x_4 x_5 x_6 x_7 x_8 x_9 x_10 x_11 x_12 x_13 x_14 x_15 x_16 x_17 x_18 x_19 x0) res.1 (wM cB cI cJ cZ x_0 x_1 x_2 x_3 x_4 x_5 x_6 x_7 x_8 x_9 x_10 x_11 x_12 x_13 x_14 x_15 x_16 x_17 x_18 x_19 res.2) := by
  refine g_enter (own := RX8) (free := (fun sz => va_A (wM cB cI cJ cZ x_0 x_1 x_2 x_3 x_4 x_5 x_6 x_7 x_8 x_9 x_10 x_11 x_12 x_13 x_14 x_15 x_16 x_17 x_18 x_19 x0) sz)) (Qc := (fun sz => gQi D (wM cB cI cJ cZ x_0 x_1 x_2 x_3 x_4 x_5 x_6 x_7 x_8 x_9 x_10 x_11 x_12 x_13 x_14 x_15 x_16 x_17 x_18 x_19 x0) sz res.1 (wM cB cI cJ cZ x_0 x_1 x_2 x_3 x_4 x_5 x_6 x_7 x_8 x_9 x_10 x_11 x_12 x_13 x_14 x_15 x_16 x_17 x_18 x_19 res.2))) (fun sz => va_A (wM cB cI cJ cZ x_0 x_1 x_2 x_3 x_4 x_5 x_6 x_7 x_8 x_9 x_10 x_11 x_12 x_13 x_14 x_15 x_16 x_17 x_18 x_19 x0) sz) (fun sz => Or.inr rfl) rfl (by decide) rfl (Nat.le_of_ble_eq_true rfl) rfl ?_
  intro p e s m args below meth c C
  unfold FX8_crash at hF
  refine g_aload_n (z := 0) C (tdec DX8_crash 0 rfl) rfl rfl rfl ?_
  refine g_iload_n (z := 1) C (tdec DX8_crash 1 rfl) rfl rfl rfl ?_
  obtain ⟨r1, y2, hF⟩ := o_bind hF
  refine g_callSiR C (c_X8_isVolume l D cB cI cJ cZ y2) (gIS ml_X8_82 st_X8_isVolume in_X8 cd_X8_isVolume) eX8_isVolume rfl ⟨rfl, rfl⟩ ⟨Nat.le_of_ble_eq_true rfl, Nat.le_of_ble_eq_true rfl⟩ rfl [] rfl rfl rfl (Nat.le_of_ble_eq_true rfl) (tdec DX8_crash 2 rfl) rfl ?_
  refine g_if_eq (pt := 12) C (tdec DX8_crash 3 rfl) (by decide) rfl (fun h3 => ?_) (fun h3 => ?_)
  · have hF := o_ifp hF h3
    refine g_iconst (v := 1) C (tdec DX8_crash 6 rfl) (by decide) rfl ?_
    refine g_putf (C' := RX8) (T := TX8) (N := 27) (v := .int 1) (ws' := wM cB cI cJ cZ x_0 x_1 x_2 x_3 x_4 x_5 x_6 x_7 x_8 x_9 x_10 x_11 x_12 x_13 x_14 x_15 x_16 x_17 x_18 x_19 (MS_setthr x0 1)) C 0 0 tyX8 tyX8_ok nmX8 (gIn iw_X8) rfl rfl (by decide) (gMem fl_X8_78) rfl rfl (tyX8_ok 0 (by decide)) rfl rfl (Nat.le_of_ble_eq_true rfl) rfl (tdec DX8_crash 7 rfl) rfl ?_
    refine g_aload_n (z := 0) C (tdec DX8_crash 8 rfl) rfl rfl rfl ?_
    refine g_getf (C' := RX8) (T := TX8) (N := 27) (v := .int 1) C 0 0 (gIn iw_X8) rfl rfl (by decide) (gMem fl_X8_78) rfl rfl (tdec DX8_crash 9 rfl) rfl ?_
    refine g_if_gt (pt := 32) C (tdec DX8_crash 10 rfl) (by decide) rfl (fun _ => ?_) (fun h => absurd h (by decide))
    refine g_iconst (v := 0) C (tdec DX8_crash 16 rfl) (by decide) rfl ?_
    have hr9 := o_some hF
    subst hr9
    exact g_zret C rfl rfl rfl (tdec DX8_crash 17 rfl)
  · have hF := o_ifn hF h3
    refine g_iconst (v := 0) C (tdec DX8_crash 4 rfl) (by decide) rfl ?_
    refine g_goto (pt := 13) C (tdec DX8_crash 5 rfl) (by decide) ?_
    refine g_putf (C' := RX8) (T := TX8) (N := 27) (v := .int 0) (ws' := wM cB cI cJ cZ x_0 x_1 x_2 x_3 x_4 x_5 x_6 x_7 x_8 x_9 x_10 x_11 x_12 x_13 x_14 x_15 x_16 x_17 x_18 x_19 (MS_setthr x0 0)) C 0 0 tyX8 tyX8_ok nmX8 (gIn iw_X8) rfl rfl (by decide) (gMem fl_X8_78) rfl rfl (tyX8_ok 0 (by decide)) rfl rfl (Nat.le_of_ble_eq_true rfl) rfl (tdec DX8_crash 7 rfl) rfl ?_
    refine g_aload_n (z := 0) C (tdec DX8_crash 8 rfl) rfl rfl rfl ?_
    refine g_getf (C' := RX8) (T := TX8) (N := 27) (v := .int 0) C 0 0 (gIn iw_X8) rfl rfl (by decide) (gMem fl_X8_78) rfl rfl (tdec DX8_crash 9 rfl) rfl ?_
    refine g_if_gt (pt := 32) C (tdec DX8_crash 10 rfl) (by decide) rfl (fun h => absurd h (by decide)) (fun _ => ?_)
    refine g_aload_n (z := 0) C (tdec DX8_crash 11 rfl) rfl rfl rfl ?_
    refine g_getf (C' := RX8) (T := TX8) (N := 27) (v := .ref x_13) C 0 13 (gIn iw_X8) rfl rfl (by decide) (gMem fl_X8_48) rfl rfl (tdec DX8_crash 12 rfl) rfl ?_
    refine g_iload_n (z := 1) C (tdec DX8_crash 13 rfl) rfl rfl rfl ?_
    obtain ⟨r4, y5, hF⟩ := o_bind hF
    refine g_zald C 13 3 rfl rfl y5 (tdec DX8_crash 14 rfl) rfl ?_
    refine g_if_ne (pt := 34) C (tdec DX8_crash 15 rfl) (by decide) rfl (fun h6 => ?_) (fun h6 => ?_)
    · have hF := o_ifn hF h6
      refine g_aload_n (z := 0) C (tdec DX8_crash 18 rfl) rfl rfl rfl ?_
      refine g_iload_n (z := 1) C (tdec DX8_crash 19 rfl) rfl rfl rfl ?_
      obtain ⟨s7, y8, hF⟩ := o_bind hF
      refine g_callVvMS (q0 := 0) (W' := wM cB cI cJ cZ x_0 x_1 x_2 x_3 x_4 x_5 x_6 x_7 x_8 x_9 x_10 x_11 x_12 x_13 x_14 x_15 x_16 x_17 x_18 x_19 s7) (S := [wM cB cI cJ cZ x_0 x_1 x_2 x_3 x_4 x_5 x_6 x_7 x_8 x_9 x_10 x_11 x_12 x_13 x_14 x_15 x_16 x_17 x_18 x_19 (MS_setthr x0 0)]) (S0 := [wM cB cI cJ cZ x_0 x_1 x_2 x_3 x_4 x_5 x_6 x_7 x_8 x_9 x_10 x_11 x_12 x_13 x_14 x_15 x_16 x_17 x_18 x_19 (MS_setthr x0 0)]) (S1 := [wM cB cI cJ cZ x_0 x_1 x_2 x_3 x_4 x_5 x_6 x_7 x_8 x_9 x_10 x_11 x_12 x_13 x_14 x_15 x_16 x_17 x_18 x_19 s7]) (S' := [wM cB cI cJ cZ x_0 x_1 x_2 x_3 x_4 x_5 x_6 x_7 x_8 x_9 x_10 x_11 x_12 x_13 x_14 x_15 x_16 x_17 x_18 x_19 s7]) C (c_X8_stops l D cB cI cJ cZ x_0 x_1 x_2 x_3 x_4 x_5 x_6 x_7 x_8 x_9 x_10 x_11 x_12 x_13 x_14 x_15 x_16 x_17 x_18 x_19 y8) rfl rfl (gIV ml_X8_203 im_X8_stops sl_X8_stops in_X8 cd_X8_stops) rfl eX8_stops rfl ⟨rfl, rfl⟩ ⟨Nat.le_of_ble_eq_true rfl, Nat.le_of_ble_eq_true rfl⟩ rfl rfl rfl [0] rfl rfl rfl rfl (gA_cons aM gA_nil) rfl rfl (Nat.le_of_ble_eq_true rfl) (tdec DX8_crash 20 rfl) rfl ?_
      refine g_iconst (v := 1) C (tdec DX8_crash 21 rfl) (by decide) rfl ?_
      have hr9 := o_some hF
      subst hr9
      exact g_zret C rfl rfl rfl (tdec DX8_crash 22 rfl)
    · have hF := o_ifp hF h6
      refine g_iconst (v := 0) C (tdec DX8_crash 16 rfl) (by decide) rfl ?_
      have hr9 := o_some hF
      subst hr9
      exact g_zret C rfl rfl rfl (tdec DX8_crash 17 rfl)
def FX8_stream (x0 : MS) (p1 : Int32) : Option (Int32 × MS) :=
  if p1 < 0 then
    some ((-1), (MS_setthr x0 0))
  else
    if p1 < (MS_len x0) then
      (ald 16000 (MS_str x0) p1).bind fun r3 =>
      some ((r3 &&& 255), (MS_setthr x0 0))
    else
      some ((-1), (MS_setthr x0 0))
def rX8_stream : Room := { frames := 0, cells := 0, slots := 0, locals := 0 }
set_option maxHeartbeats 4000000 in
set_option maxRecDepth 100000 in
theorem c_X8_stream (l : Launch) (D : va_G) (cB cI cJ cZ : ClassId) (x_0 x_1 x_2 x_3 x_4 x_5 x_6 x_7 x_8 x_9 x_10 x_11 x_12 x_13 x_14 x_15 x_16 x_17 x_18 x_19 : Nat) {x0 : MS} {p1 : Int32} {res : Int32 × MS} (hF : FX8_stream x0 p1 = some res) : gMi l yX8_stream wsX8_stream rX8_stream D (gT cB cI cJ cZ) [.ref x_0, .int p1] (wM cB cI cJ cZ x_0 x_1 x_2 x_3 x_4 x_5 x_6 x_7 x_8 x_9 x_10 x_11 x_12 x_13 x_14 x_15 x_16 x_17 x_18 x_19 x0) res.1 (wM cB cI cJ cZ x_0 x_1 x_2 x_3 x_4 x_5 x_6 x_7 x_8 x_9 x_10 x_11 x_12 x_13 x_14 x_15 x_16 x_17 x_18 x_19 res.2) := by
  refine g_enter (own := RX8) (free := (fun sz => va_A (wM cB cI cJ cZ x_0 x_1 x_2 x_3 x_4 x_5 x_6 x_7 x_8 x_9 x_10 x_11 x_12 x_13 x_14 x_15 x_16 x_17 x_18 x_19 x0) sz)) (Qc := (fun sz => gQi D (wM cB cI cJ cZ x_0 x_1 x_2 x_3 x_4 x_5 x_6 x_7 x_8 x_9 x_10 x_11 x_12 x_13 x_14 x_15 x_16 x_17 x_18 x_19 x0) sz res.1 (wM cB cI cJ cZ x_0 x_1 x_2 x_3 x_4 x_5 x_6 x_7 x_8 x_9 x_10 x_11 x_12 x_13 x_14 x_15 x_16 x_17 x_18 x_19 res.2))) (fun sz => va_A (wM cB cI cJ cZ x_0 x_1 x_2 x_3 x_4 x_5 x_6 x_7 x_8 x_9 x_10 x_11 x_12 x_13 x_14 x_15 x_16 x_17 x_18 x_19 x0) sz) (fun sz => Or.inr rfl) rfl (by decide) rfl (Nat.le_of_ble_eq_true rfl) rfl ?_
  intro p e s m args below meth c C
  unfold FX8_stream at hF
  refine g_aload_n (z := 0) C (tdec DX8_stream 0 rfl) rfl rfl rfl ?_
  refine g_iconst (v := 0) C (tdec DX8_stream 1 rfl) (by decide) rfl ?_
  refine g_putf (C' := RX8) (T := TX8) (N := 27) (v := .int 0) (ws' := wM cB cI cJ cZ x_0 x_1 x_2 x_3 x_4 x_5 x_6 x_7 x_8 x_9 x_10 x_11 x_12 x_13 x_14 x_15 x_16 x_17 x_18 x_19 (MS_setthr x0 0)) C 0 0 tyX8 tyX8_ok nmX8 (gIn iw_X8) rfl rfl (by decide) (gMem fl_X8_78) rfl rfl (tyX8_ok 0 (by decide)) rfl rfl (Nat.le_of_ble_eq_true rfl) rfl (tdec DX8_stream 2 rfl) rfl ?_
  refine g_iload_n (z := 1) C (tdec DX8_stream 3 rfl) rfl rfl rfl ?_
  refine g_if_lt (pt := 17) C (tdec DX8_stream 4 rfl) (by decide) rfl (fun h1 => ?_) (fun h1 => ?_)
  · have hF := o_ifp hF h1
    refine g_iconst (v := (-1)) C (tdec DX8_stream 9 rfl) (by decide) rfl ?_
    refine g_goto (pt := 31) C (tdec DX8_stream 10 rfl) (by decide) ?_
    have hr9 := o_some hF
    subst hr9
    exact g_iret C rfl rfl (tdec DX8_stream 17 rfl)
  · have hF := o_ifn hF h1
    refine g_iload_n (z := 1) C (tdec DX8_stream 5 rfl) rfl rfl rfl ?_
    refine g_aload_n (z := 0) C (tdec DX8_stream 6 rfl) rfl rfl rfl ?_
    refine g_getf (C' := RX8) (T := TX8) (N := 27) (v := .int (MS_len x0)) C 0 19 (gIn iw_X8) rfl rfl (by decide) (gMem fl_X8_147) rfl rfl (tdec DX8_stream 7 rfl) rfl ?_
    refine g_icmp_lt (pt := 21) C (tdec DX8_stream 8 rfl) (by decide) rfl (fun h2 => ?_) (fun h2 => ?_)
    · have hF := o_ifp hF h2
      refine g_aload_n (z := 0) C (tdec DX8_stream 11 rfl) rfl rfl rfl ?_
      refine g_getf (C' := RX8) (T := TX8) (N := 27) (v := .ref x_17) C 0 18 (gIn iw_X8) rfl rfl (by decide) (gMem fl_X8_64) rfl rfl (tdec DX8_stream 12 rfl) rfl ?_
      refine g_iload_n (z := 1) C (tdec DX8_stream 13 rfl) rfl rfl rfl ?_
      obtain ⟨r3, y4, hF⟩ := o_bind hF
      refine g_bald C 17 0 rfl rfl y4 (tdec DX8_stream 14 rfl) rfl ?_
      refine g_sipush (v := 255) C (tdec DX8_stream 15 rfl) (by decide) rfl ?_
      refine g_iand C (tdec DX8_stream 16 rfl) rfl ?_
      have hr9 := o_some hF
      subst hr9
      exact g_iret C rfl rfl (tdec DX8_stream 17 rfl)
    · have hF := o_ifn hF h2
      refine g_iconst (v := (-1)) C (tdec DX8_stream 9 rfl) (by decide) rfl ?_
      refine g_goto (pt := 31) C (tdec DX8_stream 10 rfl) (by decide) ?_
      have hr9 := o_some hF
      subst hr9
      exact g_iret C rfl rfl (tdec DX8_stream 17 rfl)
def FX8_patch (x0 : MS) (p1 : Int32) (p2 : Int32) : Option (Int32 × MS) :=
  if p1 < 0 then
    some (0, (MS_setthr x0 1))
  else
    if p1 < (MS_len x0) then
      (ald 16000 (MS_str x0) p1).bind fun r3 =>
      (ast 16000 (MS_str x0) p1 (vp_nar .byte ((p2 : Int32).toInt8.toInt32))).bind fun g5 =>
      some ((r3 &&& 255), (MS_setstr (MS_setthr x0 0) g5))
    else
      some (0, (MS_setthr x0 1))
def rX8_patch : Room := { frames := 0, cells := 0, slots := 0, locals := 0 }
set_option maxHeartbeats 4000000 in
set_option maxRecDepth 100000 in
theorem c_X8_patch (l : Launch) (D : va_G) (cB cI cJ cZ : ClassId) (x_0 x_1 x_2 x_3 x_4 x_5 x_6 x_7 x_8 x_9 x_10 x_11 x_12 x_13 x_14 x_15 x_16 x_17 x_18 x_19 : Nat) {x0 : MS} {p1 : Int32} {p2 : Int32} {res : Int32 × MS} (hF : FX8_patch x0 p1 p2 = some res) : gMi l yX8_patch wsX8_patch rX8_patch D (gT cB cI cJ cZ) [.ref x_0, .int p1, .int p2] (wM cB cI cJ cZ x_0 x_1 x_2 x_3 x_4 x_5 x_6 x_7 x_8 x_9 x_10 x_11 x_12 x_13 x_14 x_15 x_16 x_17 x_18 x_19 x0) res.1 (wM cB cI cJ cZ x_0 x_1 x_2 x_3 x_4 x_5 x_6 x_7 x_8 x_9 x_10 x_11 x_12 x_13 x_14 x_15 x_16 x_17 x_18 x_19 res.2) := by
  refine g_enter (own := RX8) (free := (fun sz => va_A (wM cB cI cJ cZ x_0 x_1 x_2 x_3 x_4 x_5 x_6 x_7 x_8 x_9 x_10 x_11 x_12 x_13 x_14 x_15 x_16 x_17 x_18 x_19 x0) sz)) (Qc := (fun sz => gQi D (wM cB cI cJ cZ x_0 x_1 x_2 x_3 x_4 x_5 x_6 x_7 x_8 x_9 x_10 x_11 x_12 x_13 x_14 x_15 x_16 x_17 x_18 x_19 x0) sz res.1 (wM cB cI cJ cZ x_0 x_1 x_2 x_3 x_4 x_5 x_6 x_7 x_8 x_9 x_10 x_11 x_12 x_13 x_14 x_15 x_16 x_17 x_18 x_19 res.2))) (fun sz => va_A (wM cB cI cJ cZ x_0 x_1 x_2 x_3 x_4 x_5 x_6 x_7 x_8 x_9 x_10 x_11 x_12 x_13 x_14 x_15 x_16 x_17 x_18 x_19 x0) sz) (fun sz => Or.inr rfl) rfl (by decide) rfl (Nat.le_of_ble_eq_true rfl) rfl ?_
  intro p e s m args below meth c C
  unfold FX8_patch at hF
  refine g_aload_n (z := 0) C (tdec DX8_patch 0 rfl) rfl rfl rfl ?_
  refine g_iload_n (z := 1) C (tdec DX8_patch 1 rfl) rfl rfl rfl ?_
  refine g_if_lt (pt := 13) C (tdec DX8_patch 2 rfl) (by decide) rfl (fun h1 => ?_) (fun h1 => ?_)
  · have hF := o_ifp hF h1
    refine g_iconst (v := 1) C (tdec DX8_patch 7 rfl) (by decide) rfl ?_
    refine g_goto (pt := 18) C (tdec DX8_patch 8 rfl) (by decide) ?_
    refine g_putf (C' := RX8) (T := TX8) (N := 27) (v := .int 1) (ws' := wM cB cI cJ cZ x_0 x_1 x_2 x_3 x_4 x_5 x_6 x_7 x_8 x_9 x_10 x_11 x_12 x_13 x_14 x_15 x_16 x_17 x_18 x_19 (MS_setthr x0 1)) C 0 0 tyX8 tyX8_ok nmX8 (gIn iw_X8) rfl rfl (by decide) (gMem fl_X8_78) rfl rfl (tyX8_ok 0 (by decide)) rfl rfl (Nat.le_of_ble_eq_true rfl) rfl (tdec DX8_patch 10 rfl) rfl ?_
    refine g_aload_n (z := 0) C (tdec DX8_patch 11 rfl) rfl rfl rfl ?_
    refine g_getf (C' := RX8) (T := TX8) (N := 27) (v := .int 1) C 0 0 (gIn iw_X8) rfl rfl (by decide) (gMem fl_X8_78) rfl rfl (tdec DX8_patch 12 rfl) rfl ?_
    refine g_if_le (pt := 30) C (tdec DX8_patch 13 rfl) (by decide) rfl (fun h => absurd h (by decide)) (fun _ => ?_)
    refine g_iconst (v := 0) C (tdec DX8_patch 14 rfl) (by decide) rfl ?_
    have hr9 := o_some hF
    subst hr9
    exact g_iret C rfl rfl (tdec DX8_patch 15 rfl)
  · have hF := o_ifn hF h1
    refine g_iload_n (z := 1) C (tdec DX8_patch 3 rfl) rfl rfl rfl ?_
    refine g_aload_n (z := 0) C (tdec DX8_patch 4 rfl) rfl rfl rfl ?_
    refine g_getf (C' := RX8) (T := TX8) (N := 27) (v := .int (MS_len x0)) C 0 19 (gIn iw_X8) rfl rfl (by decide) (gMem fl_X8_147) rfl rfl (tdec DX8_patch 5 rfl) rfl ?_
    refine g_icmp_lt (pt := 17) C (tdec DX8_patch 6 rfl) (by decide) rfl (fun h2 => ?_) (fun h2 => ?_)
    · have hF := o_ifp hF h2
      refine g_iconst (v := 0) C (tdec DX8_patch 9 rfl) (by decide) rfl ?_
      refine g_putf (C' := RX8) (T := TX8) (N := 27) (v := .int 0) (ws' := wM cB cI cJ cZ x_0 x_1 x_2 x_3 x_4 x_5 x_6 x_7 x_8 x_9 x_10 x_11 x_12 x_13 x_14 x_15 x_16 x_17 x_18 x_19 (MS_setthr x0 0)) C 0 0 tyX8 tyX8_ok nmX8 (gIn iw_X8) rfl rfl (by decide) (gMem fl_X8_78) rfl rfl (tyX8_ok 0 (by decide)) rfl rfl (Nat.le_of_ble_eq_true rfl) rfl (tdec DX8_patch 10 rfl) rfl ?_
      refine g_aload_n (z := 0) C (tdec DX8_patch 11 rfl) rfl rfl rfl ?_
      refine g_getf (C' := RX8) (T := TX8) (N := 27) (v := .int 0) C 0 0 (gIn iw_X8) rfl rfl (by decide) (gMem fl_X8_78) rfl rfl (tdec DX8_patch 12 rfl) rfl ?_
      refine g_if_le (pt := 30) C (tdec DX8_patch 13 rfl) (by decide) rfl (fun _ => ?_) (fun h => absurd h (by decide))
      refine g_aload_n (z := 0) C (tdec DX8_patch 16 rfl) rfl rfl rfl ?_
      refine g_getf (C' := RX8) (T := TX8) (N := 27) (v := .ref x_17) C 0 18 (gIn iw_X8) rfl rfl (by decide) (gMem fl_X8_64) rfl rfl (tdec DX8_patch 17 rfl) rfl ?_
      refine g_iload_n (z := 1) C (tdec DX8_patch 18 rfl) rfl rfl rfl ?_
      obtain ⟨r3, y4, hF⟩ := o_bind hF
      refine g_bald C 17 0 rfl rfl y4 (tdec DX8_patch 19 rfl) rfl ?_
      refine g_sipush (v := 255) C (tdec DX8_patch 20 rfl) (by decide) rfl ?_
      refine g_iand C (tdec DX8_patch 21 rfl) rfl ?_
      refine g_istore_n (L' := [(3, .int (r3 &&& 255)), (0, .ref x_0), (1, .int p1), (2, .int p2)]) C (tdec DX8_patch 22 rfl) rfl (by decide) rfl rfl ?_
      refine g_aload_n (z := 1) C (tdec DX8_patch 23 rfl) rfl rfl rfl ?_
      refine g_getf (C' := RX8) (T := TX8) (N := 27) (v := .ref x_17) C 0 18 (gIn iw_X8) rfl rfl (by decide) (gMem fl_X8_64) rfl rfl (tdec DX8_patch 24 rfl) rfl ?_
      refine g_iload_n (z := 2) C (tdec DX8_patch 25 rfl) rfl rfl rfl ?_
      refine g_iload_n (z := 3) C (tdec DX8_patch 26 rfl) rfl rfl rfl ?_
      refine g_i2b C (tdec DX8_patch 27 rfl) rfl ?_
      obtain ⟨g5, y6, hF⟩ := o_bind hF
      refine g_bast (ws' := wM cB cI cJ cZ x_0 x_1 x_2 x_3 x_4 x_5 x_6 x_7 x_8 x_9 x_10 x_11 x_12 x_13 x_14 x_15 x_16 x_17 x_18 x_19 (MS_setstr (MS_setthr x0 0) g5)) C 17 0 rfl rfl y6 rfl (tdec DX8_patch 28 rfl) rfl ?_
      refine g_iload_n (z := 0) C (tdec DX8_patch 29 rfl) rfl rfl rfl ?_
      have hr9 := o_some hF
      subst hr9
      exact g_iret C rfl rfl (tdec DX8_patch 30 rfl)
    · have hF := o_ifn hF h2
      refine g_iconst (v := 1) C (tdec DX8_patch 7 rfl) (by decide) rfl ?_
      refine g_goto (pt := 18) C (tdec DX8_patch 8 rfl) (by decide) ?_
      refine g_putf (C' := RX8) (T := TX8) (N := 27) (v := .int 1) (ws' := wM cB cI cJ cZ x_0 x_1 x_2 x_3 x_4 x_5 x_6 x_7 x_8 x_9 x_10 x_11 x_12 x_13 x_14 x_15 x_16 x_17 x_18 x_19 (MS_setthr x0 1)) C 0 0 tyX8 tyX8_ok nmX8 (gIn iw_X8) rfl rfl (by decide) (gMem fl_X8_78) rfl rfl (tyX8_ok 0 (by decide)) rfl rfl (Nat.le_of_ble_eq_true rfl) rfl (tdec DX8_patch 10 rfl) rfl ?_
      refine g_aload_n (z := 0) C (tdec DX8_patch 11 rfl) rfl rfl rfl ?_
      refine g_getf (C' := RX8) (T := TX8) (N := 27) (v := .int 1) C 0 0 (gIn iw_X8) rfl rfl (by decide) (gMem fl_X8_78) rfl rfl (tdec DX8_patch 12 rfl) rfl ?_
      refine g_if_le (pt := 30) C (tdec DX8_patch 13 rfl) (by decide) rfl (fun h => absurd h (by decide)) (fun _ => ?_)
      refine g_iconst (v := 0) C (tdec DX8_patch 14 rfl) (by decide) rfl ?_
      have hr9 := o_some hF
      subst hr9
      exact g_iret C rfl rfl (tdec DX8_patch 15 rfl)
def FX8_cut (x0 : MS) (p1 : Int32) : Option (MS) :=
  if p1 < 0 then
    some (MS_setthr x0 1)
  else
    if p1 ≤ (MS_len x0) then
      some (MS_setlen (MS_setthr x0 0) p1)
    else
      some (MS_setthr x0 1)
def rX8_cut : Room := { frames := 0, cells := 0, slots := 0, locals := 0 }
set_option maxHeartbeats 4000000 in
set_option maxRecDepth 100000 in
theorem c_X8_cut (l : Launch) (D : va_G) (cB cI cJ cZ : ClassId) (x_0 x_1 x_2 x_3 x_4 x_5 x_6 x_7 x_8 x_9 x_10 x_11 x_12 x_13 x_14 x_15 x_16 x_17 x_18 x_19 : Nat) {x0 : MS} {p1 : Int32} {res : MS} (hF : FX8_cut x0 p1 = some res) : gMv l yX8_cut wsX8_cut rX8_cut D (gT cB cI cJ cZ) [.ref x_0, .int p1] (wM cB cI cJ cZ x_0 x_1 x_2 x_3 x_4 x_5 x_6 x_7 x_8 x_9 x_10 x_11 x_12 x_13 x_14 x_15 x_16 x_17 x_18 x_19 x0) (wM cB cI cJ cZ x_0 x_1 x_2 x_3 x_4 x_5 x_6 x_7 x_8 x_9 x_10 x_11 x_12 x_13 x_14 x_15 x_16 x_17 x_18 x_19 res) := by
  refine g_enter (own := RX8) (free := (fun sz => va_A (wM cB cI cJ cZ x_0 x_1 x_2 x_3 x_4 x_5 x_6 x_7 x_8 x_9 x_10 x_11 x_12 x_13 x_14 x_15 x_16 x_17 x_18 x_19 x0) sz)) (Qc := (fun sz => gQv D (wM cB cI cJ cZ x_0 x_1 x_2 x_3 x_4 x_5 x_6 x_7 x_8 x_9 x_10 x_11 x_12 x_13 x_14 x_15 x_16 x_17 x_18 x_19 x0) sz (wM cB cI cJ cZ x_0 x_1 x_2 x_3 x_4 x_5 x_6 x_7 x_8 x_9 x_10 x_11 x_12 x_13 x_14 x_15 x_16 x_17 x_18 x_19 res))) (fun sz => va_A (wM cB cI cJ cZ x_0 x_1 x_2 x_3 x_4 x_5 x_6 x_7 x_8 x_9 x_10 x_11 x_12 x_13 x_14 x_15 x_16 x_17 x_18 x_19 x0) sz) (fun sz => Or.inr rfl) rfl (by decide) rfl (Nat.le_of_ble_eq_true rfl) rfl ?_
  intro p e s m args below meth c C
  unfold FX8_cut at hF
  refine g_aload_n (z := 0) C (tdec DX8_cut 0 rfl) rfl rfl rfl ?_
  refine g_iload_n (z := 1) C (tdec DX8_cut 1 rfl) rfl rfl rfl ?_
  refine g_if_lt (pt := 13) C (tdec DX8_cut 2 rfl) (by decide) rfl (fun h1 => ?_) (fun h1 => ?_)
  · have hF := o_ifp hF h1
    refine g_iconst (v := 1) C (tdec DX8_cut 7 rfl) (by decide) rfl ?_
    refine g_goto (pt := 18) C (tdec DX8_cut 8 rfl) (by decide) ?_
    refine g_putf (C' := RX8) (T := TX8) (N := 27) (v := .int 1) (ws' := wM cB cI cJ cZ x_0 x_1 x_2 x_3 x_4 x_5 x_6 x_7 x_8 x_9 x_10 x_11 x_12 x_13 x_14 x_15 x_16 x_17 x_18 x_19 (MS_setthr x0 1)) C 0 0 tyX8 tyX8_ok nmX8 (gIn iw_X8) rfl rfl (by decide) (gMem fl_X8_78) rfl rfl (tyX8_ok 0 (by decide)) rfl rfl (Nat.le_of_ble_eq_true rfl) rfl (tdec DX8_cut 10 rfl) rfl ?_
    refine g_aload_n (z := 0) C (tdec DX8_cut 11 rfl) rfl rfl rfl ?_
    refine g_getf (C' := RX8) (T := TX8) (N := 27) (v := .int 1) C 0 0 (gIn iw_X8) rfl rfl (by decide) (gMem fl_X8_78) rfl rfl (tdec DX8_cut 12 rfl) rfl ?_
    refine g_if_ne (pt := 33) C (tdec DX8_cut 13 rfl) (by decide) rfl (fun _ => ?_) (fun h => absurd h (by decide))
    have hr9 := o_some hF
    subst hr9
    exact g_vret C rfl (tdec DX8_cut 17 rfl)
  · have hF := o_ifn hF h1
    refine g_iload_n (z := 1) C (tdec DX8_cut 3 rfl) rfl rfl rfl ?_
    refine g_aload_n (z := 0) C (tdec DX8_cut 4 rfl) rfl rfl rfl ?_
    refine g_getf (C' := RX8) (T := TX8) (N := 27) (v := .int (MS_len x0)) C 0 19 (gIn iw_X8) rfl rfl (by decide) (gMem fl_X8_147) rfl rfl (tdec DX8_cut 5 rfl) rfl ?_
    refine g_icmp_le (pt := 17) C (tdec DX8_cut 6 rfl) (by decide) rfl (fun h2 => ?_) (fun h2 => ?_)
    · have hF := o_ifp hF h2
      refine g_iconst (v := 0) C (tdec DX8_cut 9 rfl) (by decide) rfl ?_
      refine g_putf (C' := RX8) (T := TX8) (N := 27) (v := .int 0) (ws' := wM cB cI cJ cZ x_0 x_1 x_2 x_3 x_4 x_5 x_6 x_7 x_8 x_9 x_10 x_11 x_12 x_13 x_14 x_15 x_16 x_17 x_18 x_19 (MS_setthr x0 0)) C 0 0 tyX8 tyX8_ok nmX8 (gIn iw_X8) rfl rfl (by decide) (gMem fl_X8_78) rfl rfl (tyX8_ok 0 (by decide)) rfl rfl (Nat.le_of_ble_eq_true rfl) rfl (tdec DX8_cut 10 rfl) rfl ?_
      refine g_aload_n (z := 0) C (tdec DX8_cut 11 rfl) rfl rfl rfl ?_
      refine g_getf (C' := RX8) (T := TX8) (N := 27) (v := .int 0) C 0 0 (gIn iw_X8) rfl rfl (by decide) (gMem fl_X8_78) rfl rfl (tdec DX8_cut 12 rfl) rfl ?_
      refine g_if_ne (pt := 33) C (tdec DX8_cut 13 rfl) (by decide) rfl (fun h => absurd h (by decide)) (fun _ => ?_)
      refine g_aload_n (z := 0) C (tdec DX8_cut 14 rfl) rfl rfl rfl ?_
      refine g_iload_n (z := 1) C (tdec DX8_cut 15 rfl) rfl rfl rfl ?_
      refine g_putf (C' := RX8) (T := TX8) (N := 27) (v := .int p1) (ws' := wM cB cI cJ cZ x_0 x_1 x_2 x_3 x_4 x_5 x_6 x_7 x_8 x_9 x_10 x_11 x_12 x_13 x_14 x_15 x_16 x_17 x_18 x_19 (MS_setlen (MS_setthr x0 0) p1)) C 0 19 tyX8 tyX8_ok nmX8 (gIn iw_X8) rfl rfl (by decide) (gMem fl_X8_147) rfl rfl (tyX8_ok 19 (by decide)) rfl rfl (Nat.le_of_ble_eq_true rfl) rfl (tdec DX8_cut 16 rfl) rfl ?_
      have hr9 := o_some hF
      subst hr9
      exact g_vret C rfl (tdec DX8_cut 17 rfl)
    · have hF := o_ifn hF h2
      refine g_iconst (v := 1) C (tdec DX8_cut 7 rfl) (by decide) rfl ?_
      refine g_goto (pt := 18) C (tdec DX8_cut 8 rfl) (by decide) ?_
      refine g_putf (C' := RX8) (T := TX8) (N := 27) (v := .int 1) (ws' := wM cB cI cJ cZ x_0 x_1 x_2 x_3 x_4 x_5 x_6 x_7 x_8 x_9 x_10 x_11 x_12 x_13 x_14 x_15 x_16 x_17 x_18 x_19 (MS_setthr x0 1)) C 0 0 tyX8 tyX8_ok nmX8 (gIn iw_X8) rfl rfl (by decide) (gMem fl_X8_78) rfl rfl (tyX8_ok 0 (by decide)) rfl rfl (Nat.le_of_ble_eq_true rfl) rfl (tdec DX8_cut 10 rfl) rfl ?_
      refine g_aload_n (z := 0) C (tdec DX8_cut 11 rfl) rfl rfl rfl ?_
      refine g_getf (C' := RX8) (T := TX8) (N := 27) (v := .int 1) C 0 0 (gIn iw_X8) rfl rfl (by decide) (gMem fl_X8_78) rfl rfl (tdec DX8_cut 12 rfl) rfl ?_
      refine g_if_ne (pt := 33) C (tdec DX8_cut 13 rfl) (by decide) rfl (fun _ => ?_) (fun h => absurd h (by decide))
      have hr9 := o_some hF
      subst hr9
      exact g_vret C rfl (tdec DX8_cut 17 rfl)
def FX8_snap (x0 : MS) (p1 : Int32) (p2 : Int32) (p3 : Int32) : Option (Int64 × MS) :=
  (FX8_isVolume p1).bind fun r1 =>
  if r1 = 0 then
    some ((-1), (MS_setthr x0 0))
  else
    (FX8_isSnap (MS_setthr x0 0) p1 p2).bind fun r4 =>
    if r4 = 0 then
      some ((-1), (MS_setthr x0 0))
    else
      if p3 = 0 then
        (ald 40 (MS_sm x0) ((20 * p1) + p2)).bind fun r8 =>
        some (r8, (MS_setthr x0 0))
      else
        if p3 = 1 then
          (ald 40 (MS_sg x0) ((20 * p1) + p2)).bind fun r11 =>
          some (((r11 : Int32).toInt64), (MS_setthr x0 0))
        else
          if p3 = 2 then
            (ald 44 (MS_tt x0) (((22 * p1) + 2) + p2)).bind fun r14 =>
            some (((r14 : Int32).toInt64), (MS_setthr x0 0))
          else
            if p3 = 3 then
              (ald 44 (MS_tb x0) (((22 * p1) + 2) + p2)).bind fun r17 =>
              some (((r17 : Int32).toInt64), (MS_setthr x0 0))
            else
              some ((-1), (MS_setthr x0 0))
def rX8_snap : Room := { frames := 1, cells := 0, slots := 0, locals := 22 }
set_option maxHeartbeats 4000000 in
set_option maxRecDepth 100000 in
theorem c_X8_snap (l : Launch) (D : va_G) (cB cI cJ cZ : ClassId) (x_0 x_1 x_2 x_3 x_4 x_5 x_6 x_7 x_8 x_9 x_10 x_11 x_12 x_13 x_14 x_15 x_16 x_17 x_18 x_19 : Nat) {x0 : MS} {p1 : Int32} {p2 : Int32} {p3 : Int32} {res : Int64 × MS} (hF : FX8_snap x0 p1 p2 p3 = some res) : gMl l yX8_snap wsX8_snap rX8_snap D (gT cB cI cJ cZ) [.ref x_0, .int p1, .int p2, .int p3] (wM cB cI cJ cZ x_0 x_1 x_2 x_3 x_4 x_5 x_6 x_7 x_8 x_9 x_10 x_11 x_12 x_13 x_14 x_15 x_16 x_17 x_18 x_19 x0) res.1 (wM cB cI cJ cZ x_0 x_1 x_2 x_3 x_4 x_5 x_6 x_7 x_8 x_9 x_10 x_11 x_12 x_13 x_14 x_15 x_16 x_17 x_18 x_19 res.2) := by
  refine g_enter (own := RX8) (free := (fun sz => va_A (wM cB cI cJ cZ x_0 x_1 x_2 x_3 x_4 x_5 x_6 x_7 x_8 x_9 x_10 x_11 x_12 x_13 x_14 x_15 x_16 x_17 x_18 x_19 x0) sz)) (Qc := (fun sz => gQl D (wM cB cI cJ cZ x_0 x_1 x_2 x_3 x_4 x_5 x_6 x_7 x_8 x_9 x_10 x_11 x_12 x_13 x_14 x_15 x_16 x_17 x_18 x_19 x0) sz res.1 (wM cB cI cJ cZ x_0 x_1 x_2 x_3 x_4 x_5 x_6 x_7 x_8 x_9 x_10 x_11 x_12 x_13 x_14 x_15 x_16 x_17 x_18 x_19 res.2))) (fun sz => va_A (wM cB cI cJ cZ x_0 x_1 x_2 x_3 x_4 x_5 x_6 x_7 x_8 x_9 x_10 x_11 x_12 x_13 x_14 x_15 x_16 x_17 x_18 x_19 x0) sz) (fun sz => Or.inr rfl) rfl (by decide) rfl (Nat.le_of_ble_eq_true rfl) rfl ?_
  intro p e s m args below meth c C
  unfold FX8_snap at hF
  refine g_aload_n (z := 0) C (tdec DX8_snap 0 rfl) rfl rfl rfl ?_
  refine g_iconst (v := 0) C (tdec DX8_snap 1 rfl) (by decide) rfl ?_
  refine g_putf (C' := RX8) (T := TX8) (N := 27) (v := .int 0) (ws' := wM cB cI cJ cZ x_0 x_1 x_2 x_3 x_4 x_5 x_6 x_7 x_8 x_9 x_10 x_11 x_12 x_13 x_14 x_15 x_16 x_17 x_18 x_19 (MS_setthr x0 0)) C 0 0 tyX8 tyX8_ok nmX8 (gIn iw_X8) rfl rfl (by decide) (gMem fl_X8_78) rfl rfl (tyX8_ok 0 (by decide)) rfl rfl (Nat.le_of_ble_eq_true rfl) rfl (tdec DX8_snap 2 rfl) rfl ?_
  refine g_iload_n (z := 1) C (tdec DX8_snap 3 rfl) rfl rfl rfl ?_
  obtain ⟨r1, y2, hF⟩ := o_bind hF
  refine g_callSiR C (c_X8_isVolume l D cB cI cJ cZ y2) (gIS ml_X8_82 st_X8_isVolume in_X8 cd_X8_isVolume) eX8_isVolume rfl ⟨rfl, rfl⟩ ⟨Nat.le_of_ble_eq_true rfl, Nat.le_of_ble_eq_true rfl⟩ rfl [] rfl rfl rfl (Nat.le_of_ble_eq_true rfl) (tdec DX8_snap 4 rfl) rfl ?_
  refine g_if_eq (pt := 21) C (tdec DX8_snap 5 rfl) (by decide) rfl (fun h3 => ?_) (fun h3 => ?_)
  · have hF := o_ifp hF h3
    refine g_ldc2 C (gMem kl_X8_209) (tdec DX8_snap 11 rfl) rfl ?_
    have hr9 := o_some hF
    subst hr9
    exact g_lret C rfl rfl (tdec DX8_snap 12 rfl)
  · have hF := o_ifn hF h3
    refine g_aload_n (z := 0) C (tdec DX8_snap 6 rfl) rfl rfl rfl ?_
    refine g_iload_n (z := 1) C (tdec DX8_snap 7 rfl) rfl rfl rfl ?_
    refine g_iload_n (z := 2) C (tdec DX8_snap 8 rfl) rfl rfl rfl ?_
    obtain ⟨r4, y5, hF⟩ := o_bind hF
    refine g_callViRS (q0 := 0) (S := [wM cB cI cJ cZ x_0 x_1 x_2 x_3 x_4 x_5 x_6 x_7 x_8 x_9 x_10 x_11 x_12 x_13 x_14 x_15 x_16 x_17 x_18 x_19 (MS_setthr x0 0)]) (S0 := [wM cB cI cJ cZ x_0 x_1 x_2 x_3 x_4 x_5 x_6 x_7 x_8 x_9 x_10 x_11 x_12 x_13 x_14 x_15 x_16 x_17 x_18 x_19 (MS_setthr x0 0)]) C (c_X8_isSnap l D cB cI cJ cZ x_0 x_1 x_2 x_3 x_4 x_5 x_6 x_7 x_8 x_9 x_10 x_11 x_12 x_13 x_14 x_15 x_16 x_17 x_18 x_19 y5) rfl rfl (gIV ml_X8_141 im_X8_isSnap sl_X8_isSnap in_X8 cd_X8_isSnap) rfl eX8_isSnap rfl ⟨rfl, rfl⟩ ⟨Nat.le_of_ble_eq_true rfl, Nat.le_of_ble_eq_true rfl⟩ rfl rfl rfl [0] rfl rfl rfl (Nat.le_of_ble_eq_true rfl) (tdec DX8_snap 9 rfl) rfl ?_
    refine g_if_ne (pt := 25) C (tdec DX8_snap 10 rfl) (by decide) rfl (fun h6 => ?_) (fun h6 => ?_)
    · have hF := o_ifn hF h6
      refine g_iload_n (z := 3) C (tdec DX8_snap 13 rfl) rfl rfl rfl ?_
      by_cases h7 : p3 = 0
      · have hF := o_ifp hF h7
        refine g_switchIn (pt := 56) C (0) (tdec DX8_snap 14 rfl) (h7.trans (by decide)) (by decide) (by decide) (by decide) rfl (by decide) ?_
        refine g_aload_n (z := 0) C (tdec DX8_snap 15 rfl) rfl rfl rfl ?_
        refine g_getf (C' := RX8) (T := TX8) (N := 27) (v := .ref x_12) C 0 12 (gIn iw_X8) rfl rfl (by decide) (gMem fl_X8_45) rfl rfl (tdec DX8_snap 16 rfl) rfl ?_
        refine g_bipush (v := 20) C (tdec DX8_snap 17 rfl) (by decide) rfl ?_
        refine g_iload_n (z := 1) C (tdec DX8_snap 18 rfl) rfl rfl rfl ?_
        refine g_imul C (tdec DX8_snap 19 rfl) rfl ?_
        refine g_iload_n (z := 2) C (tdec DX8_snap 20 rfl) rfl rfl rfl ?_
        refine g_iadd C (tdec DX8_snap 21 rfl) rfl ?_
        obtain ⟨r8, y9, hF⟩ := o_bind hF
        refine g_lald C 12 2 rfl rfl y9 (tdec DX8_snap 22 rfl) rfl ?_
        have hr9 := o_some hF
        subst hr9
        exact g_lret C rfl rfl (tdec DX8_snap 23 rfl)
      · have hF := o_ifn hF h7
        by_cases h10 : p3 = 1
        · have hF := o_ifp hF h10
          refine g_switchIn (pt := 68) C (1) (tdec DX8_snap 14 rfl) (h10.trans (by decide)) (by decide) (by decide) (by decide) rfl (by decide) ?_
          refine g_aload_n (z := 0) C (tdec DX8_snap 24 rfl) rfl rfl rfl ?_
          refine g_getf (C' := RX8) (T := TX8) (N := 27) (v := .ref x_11) C 0 11 (gIn iw_X8) rfl rfl (by decide) (gMem fl_X8_42) rfl rfl (tdec DX8_snap 25 rfl) rfl ?_
          refine g_bipush (v := 20) C (tdec DX8_snap 26 rfl) (by decide) rfl ?_
          refine g_iload_n (z := 1) C (tdec DX8_snap 27 rfl) rfl rfl rfl ?_
          refine g_imul C (tdec DX8_snap 28 rfl) rfl ?_
          refine g_iload_n (z := 2) C (tdec DX8_snap 29 rfl) rfl rfl rfl ?_
          refine g_iadd C (tdec DX8_snap 30 rfl) rfl ?_
          obtain ⟨r11, y12, hF⟩ := o_bind hF
          refine g_iald C 11 1 rfl rfl y12 (tdec DX8_snap 31 rfl) rfl ?_
          refine g_i2l C (tdec DX8_snap 32 rfl) rfl ?_
          have hr9 := o_some hF
          subst hr9
          exact g_lret C rfl rfl (tdec DX8_snap 33 rfl)
        · have hF := o_ifn hF h10
          by_cases h13 : p3 = 2
          · have hF := o_ifp hF h13
            refine g_switchIn (pt := 81) C (2) (tdec DX8_snap 14 rfl) (h13.trans (by decide)) (by decide) (by decide) (by decide) rfl (by decide) ?_
            refine g_aload_n (z := 0) C (tdec DX8_snap 34 rfl) rfl rfl rfl ?_
            refine g_getf (C' := RX8) (T := TX8) (N := 27) (v := .ref x_7) C 0 7 (gIn iw_X8) rfl rfl (by decide) (gMem fl_X8_30) rfl rfl (tdec DX8_snap 35 rfl) rfl ?_
            refine g_bipush (v := 22) C (tdec DX8_snap 36 rfl) (by decide) rfl ?_
            refine g_iload_n (z := 1) C (tdec DX8_snap 37 rfl) rfl rfl rfl ?_
            refine g_imul C (tdec DX8_snap 38 rfl) rfl ?_
            refine g_iconst (v := 2) C (tdec DX8_snap 39 rfl) (by decide) rfl ?_
            refine g_iadd C (tdec DX8_snap 40 rfl) rfl ?_
            refine g_iload_n (z := 2) C (tdec DX8_snap 41 rfl) rfl rfl rfl ?_
            refine g_iadd C (tdec DX8_snap 42 rfl) rfl ?_
            obtain ⟨r14, y15, hF⟩ := o_bind hF
            refine g_iald C 7 1 rfl rfl y15 (tdec DX8_snap 43 rfl) rfl ?_
            refine g_i2l C (tdec DX8_snap 44 rfl) rfl ?_
            have hr9 := o_some hF
            subst hr9
            exact g_lret C rfl rfl (tdec DX8_snap 45 rfl)
          · have hF := o_ifn hF h13
            by_cases h16 : p3 = 3
            · have hF := o_ifp hF h16
              refine g_switchIn (pt := 96) C (3) (tdec DX8_snap 14 rfl) (h16.trans (by decide)) (by decide) (by decide) (by decide) rfl (by decide) ?_
              refine g_aload_n (z := 0) C (tdec DX8_snap 46 rfl) rfl rfl rfl ?_
              refine g_getf (C' := RX8) (T := TX8) (N := 27) (v := .ref x_8) C 0 8 (gIn iw_X8) rfl rfl (by decide) (gMem fl_X8_33) rfl rfl (tdec DX8_snap 47 rfl) rfl ?_
              refine g_bipush (v := 22) C (tdec DX8_snap 48 rfl) (by decide) rfl ?_
              refine g_iload_n (z := 1) C (tdec DX8_snap 49 rfl) rfl rfl rfl ?_
              refine g_imul C (tdec DX8_snap 50 rfl) rfl ?_
              refine g_iconst (v := 2) C (tdec DX8_snap 51 rfl) (by decide) rfl ?_
              refine g_iadd C (tdec DX8_snap 52 rfl) rfl ?_
              refine g_iload_n (z := 2) C (tdec DX8_snap 53 rfl) rfl rfl rfl ?_
              refine g_iadd C (tdec DX8_snap 54 rfl) rfl ?_
              obtain ⟨r17, y18, hF⟩ := o_bind hF
              refine g_iald C 8 1 rfl rfl y18 (tdec DX8_snap 55 rfl) rfl ?_
              refine g_i2l C (tdec DX8_snap 56 rfl) rfl ?_
              have hr9 := o_some hF
              subst hr9
              exact g_lret C rfl rfl (tdec DX8_snap 57 rfl)
            · have hF := o_ifn hF h16
              refine g_switchOut (pt := 111) C (tdec DX8_snap 14 rfl) (sw_out4 0 (fun z => h7 (z.trans (by decide))) (fun z => h10 (z.trans (by decide))) (fun z => h13 (z.trans (by decide))) (fun z => h16 (z.trans (by decide)))) (by decide) ?_
              refine g_ldc2 C (gMem kl_X8_209) (tdec DX8_snap 58 rfl) rfl ?_
              have hr9 := o_some hF
              subst hr9
              exact g_lret C rfl rfl (tdec DX8_snap 59 rfl)
    · have hF := o_ifp hF h6
      refine g_ldc2 C (gMem kl_X8_209) (tdec DX8_snap 11 rfl) rfl ?_
      have hr9 := o_some hF
      subst hr9
      exact g_lret C rfl rfl (tdec DX8_snap 12 rfl)
def FX8_isBlock (x0 : MS) (p1 : Int32) (p2 : Int32) : Option (Int32) :=
  (FX8_isVolume p1).bind fun r1 =>
  if r1 = 0 then
    some 0
  else
    if p2 < 0 then
      some 0
    else
      (ald 2 (MS_many x0) p1).bind fun r5 =>
      if r5 ≤ p2 then
        some 0
      else
        some 1
def rX8_isBlock : Room := { frames := 1, cells := 0, slots := 0, locals := 20 }
set_option maxHeartbeats 4000000 in
set_option maxRecDepth 100000 in
theorem c_X8_isBlock (l : Launch) (D : va_G) (cB cI cJ cZ : ClassId) (x_0 x_1 x_2 x_3 x_4 x_5 x_6 x_7 x_8 x_9 x_10 x_11 x_12 x_13 x_14 x_15 x_16 x_17 x_18 x_19 : Nat) {x0 : MS} {p1 : Int32} {p2 : Int32} {res : Int32} (hF : FX8_isBlock x0 p1 p2 = some res) : gRi l yX8_isBlock wsX8_isBlock rX8_isBlock D (gT cB cI cJ cZ) [.ref x_0, .int p1, .int p2] (wM cB cI cJ cZ x_0 x_1 x_2 x_3 x_4 x_5 x_6 x_7 x_8 x_9 x_10 x_11 x_12 x_13 x_14 x_15 x_16 x_17 x_18 x_19 x0) res := by
  refine g_enter (own := RX8) (free := (fun _ _ => False)) (Qc := (fun sz => gRQi res)) (fun _ _ => True) (fun sz => Or.inl rfl) rfl (by decide) rfl (Nat.le_of_ble_eq_true rfl) rfl ?_
  intro p e s m args below meth c C
  unfold FX8_isBlock at hF
  refine g_iload_n (z := 1) C (tdec DX8_isBlock 0 rfl) rfl rfl rfl ?_
  obtain ⟨r1, y2, hF⟩ := o_bind hF
  refine g_callSiR C (c_X8_isVolume l D cB cI cJ cZ y2) (gIS ml_X8_82 st_X8_isVolume in_X8 cd_X8_isVolume) eX8_isVolume rfl ⟨rfl, rfl⟩ ⟨Nat.le_of_ble_eq_true rfl, Nat.le_of_ble_eq_true rfl⟩ rfl [] rfl rfl rfl (Nat.le_of_ble_eq_true rfl) (tdec DX8_isBlock 1 rfl) rfl ?_
  refine g_if_eq (pt := 25) C (tdec DX8_isBlock 2 rfl) (by decide) rfl (fun h3 => ?_) (fun h3 => ?_)
  · have hF := o_ifp hF h3
    refine g_iconst (v := 0) C (tdec DX8_isBlock 13 rfl) (by decide) rfl ?_
    have hr9 := o_some hF
    subst hr9
    exact g_zretR C rfl rfl (tdec DX8_isBlock 14 rfl)
  · have hF := o_ifn hF h3
    refine g_iload_n (z := 2) C (tdec DX8_isBlock 3 rfl) rfl rfl rfl ?_
    refine g_if_lt (pt := 25) C (tdec DX8_isBlock 4 rfl) (by decide) rfl (fun h4 => ?_) (fun h4 => ?_)
    · have hF := o_ifp hF h4
      refine g_iconst (v := 0) C (tdec DX8_isBlock 13 rfl) (by decide) rfl ?_
      have hr9 := o_some hF
      subst hr9
      exact g_zretR C rfl rfl (tdec DX8_isBlock 14 rfl)
    · have hF := o_ifn hF h4
      refine g_iload_n (z := 2) C (tdec DX8_isBlock 5 rfl) rfl rfl rfl ?_
      refine g_aload_n (z := 0) C (tdec DX8_isBlock 6 rfl) rfl rfl rfl ?_
      refine g_getf (C' := RX8) (T := TX8) (N := 27) (v := .ref x_1) C 0 1 (gIn iw_X8) rfl rfl (by decide) (gMem fl_X8_9) rfl rfl (tdec DX8_isBlock 7 rfl) rfl ?_
      refine g_iload_n (z := 1) C (tdec DX8_isBlock 8 rfl) rfl rfl rfl ?_
      obtain ⟨r5, y6, hF⟩ := o_bind hF
      refine g_iald C 1 1 rfl rfl y6 (tdec DX8_isBlock 9 rfl) rfl ?_
      refine g_icmp_ge (pt := 25) C (tdec DX8_isBlock 10 rfl) (by decide) rfl (fun h7 => ?_) (fun h7 => ?_)
      · have hF := o_ifp hF h7
        refine g_iconst (v := 0) C (tdec DX8_isBlock 13 rfl) (by decide) rfl ?_
        have hr9 := o_some hF
        subst hr9
        exact g_zretR C rfl rfl (tdec DX8_isBlock 14 rfl)
      · have hF := o_ifn hF h7
        refine g_iconst (v := 1) C (tdec DX8_isBlock 11 rfl) (by decide) rfl ?_
        refine g_goto (pt := 26) C (tdec DX8_isBlock 12 rfl) (by decide) ?_
        have hr9 := o_some hF
        subst hr9
        exact g_zretR C rfl rfl (tdec DX8_isBlock 14 rfl)
def FX8_block_L55 (v1 : Int32) (v2 : Int32) (v3 : Int32) (v4 : Int32) (k9 : MS → Int32 → Int32 → Int32 → Option (Int32 × MS)) : Nat → MS → Int32 → Int32 → Int32 → Option (Int32 × MS)
  | 0, _, _, _, _ => none
  | n9 + 1, x, v5, v6, v7 =>
    if 22 ≤ v7 then
      k9 x v5 v6 v7
    else
      if v4 = (-1) then
        k9 x v5 v6 v7
      else
        (FX8_isTree x v1 v7).bind fun r11 =>
        if r11 = 0 then
          FX8_block_L55 v1 v2 v3 v4 k9 n9 x v5 v6 (v7 + 1)
        else
          (ald 44 (MS_tt x) ((22 * v1) + v7)).bind fun r14 =>
          if r14 = v2 then
            (ald 44 (MS_tb x) ((22 * v1) + v7)).bind fun r17 =>
            FX8_block_L55 v1 v2 v3 v4 k9 n9 x (v5 + 1) r17 (v7 + 1)
          else
            FX8_block_L55 v1 v2 v3 v4 k9 n9 x v5 v6 (v7 + 1)
def FX8_block_L123 (v1 : Int32) (v2 : Int32) (v3 : Int32) (v4 : Int32) (k9 : MS → Int32 → Int32 → Int32 → Option (Int32 × MS)) : Nat → MS → Int32 → Int32 → Int32 → Option (Int32 × MS)
  | 0, _, _, _, _ => none
  | n9 + 1, x, v5, v6, v7 =>
    (ald 2 (MS_many x) v1).bind fun r20 =>
    if (8 * r20) ≤ v7 then
      k9 x v5 v6 v7
    else
      if v4 = (-1) then
        k9 x v5 v6 v7
      else
        (ald 1200 (MS_lev x) ((600 * v1) + (v7 / 8))).bind fun r24 =>
        if r24 < 1 then
          FX8_block_L123 v1 v2 v3 v4 k9 n9 x v5 v6 (v7 + 1)
        else
          (FX8_told x v1 v7).bind fun r27 =>
          if r27 = v2 then
            (FX8_born x v1 v7).bind fun r30 =>
            FX8_block_L123 v1 v2 v3 v4 k9 n9 x (v5 + 1) r30 (v7 + 1)
          else
            FX8_block_L123 v1 v2 v3 v4 k9 n9 x v5 v6 (v7 + 1)
def FX8_block (x0 : MS) (p1 : Int32) (p2 : Int32) (p3 : Int32) : Option (Int32 × MS) :=
  (FX8_isBlock (MS_setthr x0 0) p1 p2).bind fun r1 =>
  if r1 = 0 then
    some ((-1), (MS_setthr x0 0))
  else
    if p3 < 0 then
      some ((-1), (MS_setthr x0 0))
    else
      if p3 ≤ 2 then
        (ald 1200 (MS_lev x0) ((600 * p1) + p2)).bind fun r6 =>
        if p3 = 0 then
          some (r6, (MS_setthr x0 0))
        else
          FX8_block_L55 p1 p2 p3 r6 (fun xq19 w5_19 w6_19 w7_19 =>
            FX8_block_L123 p1 p2 p3 r6 (fun xq32 w5_32 w6_32 w7_32 =>
              if p3 = 1 then
                some (w6_32, xq32)
              else
                some (w5_32, xq32)) 100000 xq19 w5_19 w6_19 0) 100000 (MS_setthr x0 0) 0 (-1) 0
      else
        some ((-1), (MS_setthr x0 0))
def rX8_block : Room := { frames := 2, cells := 0, slots := 0, locals := 42 }
set_option maxHeartbeats 4000000 in
set_option maxRecDepth 100000 in
theorem c_FX8_block_L55 {p : Program} {l : Launch} {e : Env} {s : State} {m : MethodId} {args : Array Value} {below : List Frame} {meth : Method} {c : Code} {D : va_G} {cB cI cJ cZ : ClassId} {x_0 x_1 x_2 x_3 x_4 x_5 x_6 x_7 x_8 x_9 x_10 x_11 x_12 x_13 x_14 x_15 x_16 x_17 x_18 x_19 : Nat} {x0 : MS} {res : Int32 × MS} (C : gC p s m args meth c cX8_block 8 RX8 wsX8_block D (gT cB cI cJ cZ) (some .int) (va_A (wM cB cI cJ cZ x_0 x_1 x_2 x_3 x_4 x_5 x_6 x_7 x_8 x_9 x_10 x_11 x_12 x_13 x_14 x_15 x_16 x_17 x_18 x_19 x0) s.heap.size)) {v1 : Int32} {v2 : Int32} {v3 : Int32} {v4 : Int32} {k9 : MS → Int32 → Int32 → Int32 → Option (Int32 × MS)} (hk9 : ∀ (x : MS) (v5 : Int32) (v6 : Int32) (v7 : Int32), k9 x v5 v6 v7 = some res → gG p l e (headSpec wsX8_block rX8_block).room s m args below meth c 0 0 D (va_A (wM cB cI cJ cZ x_0 x_1 x_2 x_3 x_4 x_5 x_6 x_7 x_8 x_9 x_10 x_11 x_12 x_13 x_14 x_15 x_16 x_17 x_18 x_19 x0) s.heap.size) (va_A (wM cB cI cJ cZ x_0 x_1 x_2 x_3 x_4 x_5 x_6 x_7 x_8 x_9 x_10 x_11 x_12 x_13 x_14 x_15 x_16 x_17 x_18 x_19 x0) s.heap.size) 8 (MQ below (gQi D (wM cB cI cJ cZ x_0 x_1 x_2 x_3 x_4 x_5 x_6 x_7 x_8 x_9 x_10 x_11 x_12 x_13 x_14 x_15 x_16 x_17 x_18 x_19 x0) s.heap.size res.1 (wM cB cI cJ cZ x_0 x_1 x_2 x_3 x_4 x_5 x_6 x_7 x_8 x_9 x_10 x_11 x_12 x_13 x_14 x_15 x_16 x_17 x_18 x_19 res.2)) args s 0 0 (va_A (wM cB cI cJ cZ x_0 x_1 x_2 x_3 x_4 x_5 x_6 x_7 x_8 x_9 x_10 x_11 x_12 x_13 x_14 x_15 x_16 x_17 x_18 x_19 x0) s.heap.size)) (wM cB cI cJ cZ x_0 x_1 x_2 x_3 x_4 x_5 x_6 x_7 x_8 x_9 x_10 x_11 x_12 x_13 x_14 x_15 x_16 x_17 x_18 x_19 x) 120 [(0, .ref x_0), (1, .int v1), (2, .int v2), (3, .int v3), (4, .int v4), (5, .int v5), (6, .int v6), (7, .int v7)] []) :
    ∀ (n9 : Nat) (x : MS) (v5 : Int32) (v6 : Int32) (v7 : Int32), FX8_block_L55 v1 v2 v3 v4 k9 n9 x v5 v6 v7 = some res → gG p l e (headSpec wsX8_block rX8_block).room s m args below meth c 0 0 D (va_A (wM cB cI cJ cZ x_0 x_1 x_2 x_3 x_4 x_5 x_6 x_7 x_8 x_9 x_10 x_11 x_12 x_13 x_14 x_15 x_16 x_17 x_18 x_19 x0) s.heap.size) (va_A (wM cB cI cJ cZ x_0 x_1 x_2 x_3 x_4 x_5 x_6 x_7 x_8 x_9 x_10 x_11 x_12 x_13 x_14 x_15 x_16 x_17 x_18 x_19 x0) s.heap.size) 8 (MQ below (gQi D (wM cB cI cJ cZ x_0 x_1 x_2 x_3 x_4 x_5 x_6 x_7 x_8 x_9 x_10 x_11 x_12 x_13 x_14 x_15 x_16 x_17 x_18 x_19 x0) s.heap.size res.1 (wM cB cI cJ cZ x_0 x_1 x_2 x_3 x_4 x_5 x_6 x_7 x_8 x_9 x_10 x_11 x_12 x_13 x_14 x_15 x_16 x_17 x_18 x_19 res.2)) args s 0 0 (va_A (wM cB cI cJ cZ x_0 x_1 x_2 x_3 x_4 x_5 x_6 x_7 x_8 x_9 x_10 x_11 x_12 x_13 x_14 x_15 x_16 x_17 x_18 x_19 x0) s.heap.size)) (wM cB cI cJ cZ x_0 x_1 x_2 x_3 x_4 x_5 x_6 x_7 x_8 x_9 x_10 x_11 x_12 x_13 x_14 x_15 x_16 x_17 x_18 x_19 x) 55 [(0, .ref x_0), (1, .int v1), (2, .int v2), (3, .int v3), (4, .int v4), (5, .int v5), (6, .int v6), (7, .int v7)] [] := by
  intro n9
  induction n9 with
  | zero =>
    intro x v5 v6 v7 hF
    exact absurd hF (by simp [FX8_block_L55])
  | succ n9 ih9 =>
    intro x v5 v6 v7 hF
    rw [FX8_block_L55] at hF
    refine g_iload (z := 7) C (tdec DX8_block 34 rfl) rfl rfl ?_
    refine g_bipush (v := 22) C (tdec DX8_block 35 rfl) (by decide) rfl ?_
    refine g_icmp_ge (pt := 120) C (tdec DX8_block 36 rfl) (by decide) rfl (fun h9 => ?_) (fun h9 => ?_)
    · have hF := o_ifp hF h9
      refine g_sub (L' := [(0, .ref x_0), (1, .int v1), (2, .int v2), (3, .int v3), (4, .int v4), (5, .int v5), (6, .int v6), (7, .int v7)]) [0, 1, 2, 3, 4, 5, 6, 7] rfl ?_
      exact hk9 _ _ _ _ hF
    · have hF := o_ifn hF h9
      refine g_iload (z := 4) C (tdec DX8_block 37 rfl) rfl rfl ?_
      refine g_iconst (v := (-1)) C (tdec DX8_block 38 rfl) (by decide) rfl ?_
      refine g_icmp_eq (pt := 120) C (tdec DX8_block 39 rfl) (by decide) rfl (fun h10 => ?_) (fun h10 => ?_)
      · have hF := o_ifp hF h10
        refine g_sub (L' := [(0, .ref x_0), (1, .int v1), (2, .int v2), (3, .int v3), (4, .int v4), (5, .int v5), (6, .int v6), (7, .int v7)]) [0, 1, 2, 3, 4, 5, 6, 7] rfl ?_
        exact hk9 _ _ _ _ hF
      · have hF := o_ifn hF h10
        refine g_aload_n (z := 0) C (tdec DX8_block 40 rfl) rfl rfl rfl ?_
        refine g_iload_n (z := 1) C (tdec DX8_block 41 rfl) rfl rfl rfl ?_
        refine g_iload (z := 7) C (tdec DX8_block 42 rfl) rfl rfl ?_
        obtain ⟨r11, y12, hF⟩ := o_bind hF
        refine g_callViRS (q0 := 0) (S := [wM cB cI cJ cZ x_0 x_1 x_2 x_3 x_4 x_5 x_6 x_7 x_8 x_9 x_10 x_11 x_12 x_13 x_14 x_15 x_16 x_17 x_18 x_19 x]) (S0 := [wM cB cI cJ cZ x_0 x_1 x_2 x_3 x_4 x_5 x_6 x_7 x_8 x_9 x_10 x_11 x_12 x_13 x_14 x_15 x_16 x_17 x_18 x_19 x]) C (c_X8_isTree l D cB cI cJ cZ x_0 x_1 x_2 x_3 x_4 x_5 x_6 x_7 x_8 x_9 x_10 x_11 x_12 x_13 x_14 x_15 x_16 x_17 x_18 x_19 y12) rfl rfl (gIV ml_X8_86 im_X8_isTree sl_X8_isTree in_X8 cd_X8_isTree) rfl eX8_isTree rfl ⟨rfl, rfl⟩ ⟨Nat.le_of_ble_eq_true rfl, Nat.le_of_ble_eq_true rfl⟩ rfl rfl rfl [0] rfl rfl rfl (Nat.le_of_ble_eq_true rfl) (tdec DX8_block 43 rfl) rfl ?_
        refine g_if_eq (pt := 114) C (tdec DX8_block 44 rfl) (by decide) rfl (fun h13 => ?_) (fun h13 => ?_)
        · have hF := o_ifp hF h13
          refine g_iinc (z := 7) (v := (v7 + 1)) (L' := [(7, .int (v7 + 1)), (0, .ref x_0), (1, .int v1), (2, .int v2), (3, .int v3), (4, .int v4), (5, .int v5), (6, .int v6)]) C (tdec DX8_block 66 rfl) rfl rfl (by decide) rfl rfl ?_
          refine g_goto (pt := 55) C (tdec DX8_block 67 rfl) (by decide) ?_
          refine g_sub (L' := [(0, .ref x_0), (1, .int v1), (2, .int v2), (3, .int v3), (4, .int v4), (5, .int v5), (6, .int v6), (7, .int (v7 + 1))]) [1, 2, 3, 4, 5, 6, 7, 0] rfl ?_
          exact ih9 _ _ _ _ hF
        · have hF := o_ifn hF h13
          refine g_aload_n (z := 0) C (tdec DX8_block 45 rfl) rfl rfl rfl ?_
          refine g_getf (C' := RX8) (T := TX8) (N := 27) (v := .ref x_7) C 0 7 (gIn iw_X8) rfl rfl (by decide) (gMem fl_X8_30) rfl rfl (tdec DX8_block 46 rfl) rfl ?_
          refine g_bipush (v := 22) C (tdec DX8_block 47 rfl) (by decide) rfl ?_
          refine g_iload_n (z := 1) C (tdec DX8_block 48 rfl) rfl rfl rfl ?_
          refine g_imul C (tdec DX8_block 49 rfl) rfl ?_
          refine g_iload (z := 7) C (tdec DX8_block 50 rfl) rfl rfl ?_
          refine g_iadd C (tdec DX8_block 51 rfl) rfl ?_
          obtain ⟨r14, y15, hF⟩ := o_bind hF
          refine g_iald C 7 1 rfl rfl y15 (tdec DX8_block 52 rfl) rfl ?_
          refine g_iload_n (z := 2) C (tdec DX8_block 53 rfl) rfl rfl rfl ?_
          refine g_icmp_eq (pt := 97) C (tdec DX8_block 54 rfl) (by decide) rfl (fun h16 => ?_) (fun h16 => ?_)
          · have hF := o_ifp hF h16
            refine g_iinc (z := 5) (v := (v5 + 1)) (L' := [(5, .int (v5 + 1)), (0, .ref x_0), (1, .int v1), (2, .int v2), (3, .int v3), (4, .int v4), (6, .int v6), (7, .int v7)]) C (tdec DX8_block 56 rfl) rfl rfl (by decide) rfl rfl ?_
            refine g_aload_n (z := 1) C (tdec DX8_block 57 rfl) rfl rfl rfl ?_
            refine g_getf (C' := RX8) (T := TX8) (N := 27) (v := .ref x_8) C 0 8 (gIn iw_X8) rfl rfl (by decide) (gMem fl_X8_33) rfl rfl (tdec DX8_block 58 rfl) rfl ?_
            refine g_bipush (v := 22) C (tdec DX8_block 59 rfl) (by decide) rfl ?_
            refine g_iload_n (z := 2) C (tdec DX8_block 60 rfl) rfl rfl rfl ?_
            refine g_imul C (tdec DX8_block 61 rfl) rfl ?_
            refine g_iload (z := 7) C (tdec DX8_block 62 rfl) rfl rfl ?_
            refine g_iadd C (tdec DX8_block 63 rfl) rfl ?_
            obtain ⟨r17, y18, hF⟩ := o_bind hF
            refine g_iald C 8 1 rfl rfl y18 (tdec DX8_block 64 rfl) rfl ?_
            refine g_istore (L' := [(6, .int r17), (5, .int (v5 + 1)), (0, .ref x_0), (1, .int v1), (2, .int v2), (3, .int v3), (4, .int v4), (7, .int v7)]) C (tdec DX8_block 65 rfl) (by decide) rfl rfl ?_
            refine g_iinc (z := 7) (v := (v7 + 1)) (L' := [(7, .int (v7 + 1)), (6, .int r17), (5, .int (v5 + 1)), (0, .ref x_0), (1, .int v1), (2, .int v2), (3, .int v3), (4, .int v4)]) C (tdec DX8_block 66 rfl) rfl rfl (by decide) rfl rfl ?_
            refine g_goto (pt := 55) C (tdec DX8_block 67 rfl) (by decide) ?_
            refine g_sub (L' := [(0, .ref x_0), (1, .int v1), (2, .int v2), (3, .int v3), (4, .int v4), (5, .int (v5 + 1)), (6, .int r17), (7, .int (v7 + 1))]) [3, 4, 5, 6, 7, 2, 1, 0] rfl ?_
            exact ih9 _ _ _ _ hF
          · have hF := o_ifn hF h16
            refine g_goto (pt := 114) C (tdec DX8_block 55 rfl) (by decide) ?_
            refine g_iinc (z := 7) (v := (v7 + 1)) (L' := [(7, .int (v7 + 1)), (0, .ref x_0), (1, .int v1), (2, .int v2), (3, .int v3), (4, .int v4), (5, .int v5), (6, .int v6)]) C (tdec DX8_block 66 rfl) rfl rfl (by decide) rfl rfl ?_
            refine g_goto (pt := 55) C (tdec DX8_block 67 rfl) (by decide) ?_
            refine g_sub (L' := [(0, .ref x_0), (1, .int v1), (2, .int v2), (3, .int v3), (4, .int v4), (5, .int v5), (6, .int v6), (7, .int (v7 + 1))]) [1, 2, 3, 4, 5, 6, 7, 0] rfl ?_
            exact ih9 _ _ _ _ hF
set_option maxHeartbeats 4000000 in
set_option maxRecDepth 100000 in
theorem c_FX8_block_L123 {p : Program} {l : Launch} {e : Env} {s : State} {m : MethodId} {args : Array Value} {below : List Frame} {meth : Method} {c : Code} {D : va_G} {cB cI cJ cZ : ClassId} {x_0 x_1 x_2 x_3 x_4 x_5 x_6 x_7 x_8 x_9 x_10 x_11 x_12 x_13 x_14 x_15 x_16 x_17 x_18 x_19 : Nat} {x0 : MS} {res : Int32 × MS} (C : gC p s m args meth c cX8_block 8 RX8 wsX8_block D (gT cB cI cJ cZ) (some .int) (va_A (wM cB cI cJ cZ x_0 x_1 x_2 x_3 x_4 x_5 x_6 x_7 x_8 x_9 x_10 x_11 x_12 x_13 x_14 x_15 x_16 x_17 x_18 x_19 x0) s.heap.size)) {v1 : Int32} {v2 : Int32} {v3 : Int32} {v4 : Int32} {k9 : MS → Int32 → Int32 → Int32 → Option (Int32 × MS)} (hk9 : ∀ (x : MS) (v5 : Int32) (v6 : Int32) (v7 : Int32), k9 x v5 v6 v7 = some res → gG p l e (headSpec wsX8_block rX8_block).room s m args below meth c 0 0 D (va_A (wM cB cI cJ cZ x_0 x_1 x_2 x_3 x_4 x_5 x_6 x_7 x_8 x_9 x_10 x_11 x_12 x_13 x_14 x_15 x_16 x_17 x_18 x_19 x0) s.heap.size) (va_A (wM cB cI cJ cZ x_0 x_1 x_2 x_3 x_4 x_5 x_6 x_7 x_8 x_9 x_10 x_11 x_12 x_13 x_14 x_15 x_16 x_17 x_18 x_19 x0) s.heap.size) 8 (MQ below (gQi D (wM cB cI cJ cZ x_0 x_1 x_2 x_3 x_4 x_5 x_6 x_7 x_8 x_9 x_10 x_11 x_12 x_13 x_14 x_15 x_16 x_17 x_18 x_19 x0) s.heap.size res.1 (wM cB cI cJ cZ x_0 x_1 x_2 x_3 x_4 x_5 x_6 x_7 x_8 x_9 x_10 x_11 x_12 x_13 x_14 x_15 x_16 x_17 x_18 x_19 res.2)) args s 0 0 (va_A (wM cB cI cJ cZ x_0 x_1 x_2 x_3 x_4 x_5 x_6 x_7 x_8 x_9 x_10 x_11 x_12 x_13 x_14 x_15 x_16 x_17 x_18 x_19 x0) s.heap.size)) (wM cB cI cJ cZ x_0 x_1 x_2 x_3 x_4 x_5 x_6 x_7 x_8 x_9 x_10 x_11 x_12 x_13 x_14 x_15 x_16 x_17 x_18 x_19 x) 195 [(0, .ref x_0), (1, .int v1), (2, .int v2), (3, .int v3), (4, .int v4), (5, .int v5), (6, .int v6), (7, .int v7)] []) :
    ∀ (n9 : Nat) (x : MS) (v5 : Int32) (v6 : Int32) (v7 : Int32), FX8_block_L123 v1 v2 v3 v4 k9 n9 x v5 v6 v7 = some res → gG p l e (headSpec wsX8_block rX8_block).room s m args below meth c 0 0 D (va_A (wM cB cI cJ cZ x_0 x_1 x_2 x_3 x_4 x_5 x_6 x_7 x_8 x_9 x_10 x_11 x_12 x_13 x_14 x_15 x_16 x_17 x_18 x_19 x0) s.heap.size) (va_A (wM cB cI cJ cZ x_0 x_1 x_2 x_3 x_4 x_5 x_6 x_7 x_8 x_9 x_10 x_11 x_12 x_13 x_14 x_15 x_16 x_17 x_18 x_19 x0) s.heap.size) 8 (MQ below (gQi D (wM cB cI cJ cZ x_0 x_1 x_2 x_3 x_4 x_5 x_6 x_7 x_8 x_9 x_10 x_11 x_12 x_13 x_14 x_15 x_16 x_17 x_18 x_19 x0) s.heap.size res.1 (wM cB cI cJ cZ x_0 x_1 x_2 x_3 x_4 x_5 x_6 x_7 x_8 x_9 x_10 x_11 x_12 x_13 x_14 x_15 x_16 x_17 x_18 x_19 res.2)) args s 0 0 (va_A (wM cB cI cJ cZ x_0 x_1 x_2 x_3 x_4 x_5 x_6 x_7 x_8 x_9 x_10 x_11 x_12 x_13 x_14 x_15 x_16 x_17 x_18 x_19 x0) s.heap.size)) (wM cB cI cJ cZ x_0 x_1 x_2 x_3 x_4 x_5 x_6 x_7 x_8 x_9 x_10 x_11 x_12 x_13 x_14 x_15 x_16 x_17 x_18 x_19 x) 123 [(0, .ref x_0), (1, .int v1), (2, .int v2), (3, .int v3), (4, .int v4), (5, .int v5), (6, .int v6), (7, .int v7)] [] := by
  intro n9
  induction n9 with
  | zero =>
    intro x v5 v6 v7 hF
    exact absurd hF (by simp [FX8_block_L123])
  | succ n9 ih9 =>
    intro x v5 v6 v7 hF
    rw [FX8_block_L123] at hF
    refine g_iload (z := 7) C (tdec DX8_block 70 rfl) rfl rfl ?_
    refine g_bipush (v := 8) C (tdec DX8_block 71 rfl) (by decide) rfl ?_
    refine g_aload_n (z := 0) C (tdec DX8_block 72 rfl) rfl rfl rfl ?_
    refine g_getf (C' := RX8) (T := TX8) (N := 27) (v := .ref x_1) C 0 1 (gIn iw_X8) rfl rfl (by decide) (gMem fl_X8_9) rfl rfl (tdec DX8_block 73 rfl) rfl ?_
    refine g_iload_n (z := 1) C (tdec DX8_block 74 rfl) rfl rfl rfl ?_
    obtain ⟨r20, y21, hF⟩ := o_bind hF
    refine g_iald C 1 1 rfl rfl y21 (tdec DX8_block 75 rfl) rfl ?_
    refine g_imul C (tdec DX8_block 76 rfl) rfl ?_
    refine g_icmp_ge (pt := 195) C (tdec DX8_block 77 rfl) (by decide) rfl (fun h22 => ?_) (fun h22 => ?_)
    · have hF := o_ifp hF h22
      refine g_sub (L' := [(0, .ref x_0), (1, .int v1), (2, .int v2), (3, .int v3), (4, .int v4), (5, .int v5), (6, .int v6), (7, .int v7)]) [0, 1, 2, 3, 4, 5, 6, 7] rfl ?_
      exact hk9 _ _ _ _ hF
    · have hF := o_ifn hF h22
      refine g_iload (z := 4) C (tdec DX8_block 78 rfl) rfl rfl ?_
      refine g_iconst (v := (-1)) C (tdec DX8_block 79 rfl) (by decide) rfl ?_
      refine g_icmp_eq (pt := 195) C (tdec DX8_block 80 rfl) (by decide) rfl (fun h23 => ?_) (fun h23 => ?_)
      · have hF := o_ifp hF h23
        refine g_sub (L' := [(0, .ref x_0), (1, .int v1), (2, .int v2), (3, .int v3), (4, .int v4), (5, .int v5), (6, .int v6), (7, .int v7)]) [0, 1, 2, 3, 4, 5, 6, 7] rfl ?_
        exact hk9 _ _ _ _ hF
      · have hF := o_ifn hF h23
        refine g_aload_n (z := 0) C (tdec DX8_block 81 rfl) rfl rfl rfl ?_
        refine g_getf (C' := RX8) (T := TX8) (N := 27) (v := .ref x_2) C 0 2 (gIn iw_X8) rfl rfl (by decide) (gMem fl_X8_13) rfl rfl (tdec DX8_block 82 rfl) rfl ?_
        refine g_sipush (v := 600) C (tdec DX8_block 83 rfl) (by decide) rfl ?_
        refine g_iload_n (z := 1) C (tdec DX8_block 84 rfl) rfl rfl rfl ?_
        refine g_imul C (tdec DX8_block 85 rfl) rfl ?_
        refine g_iload (z := 7) C (tdec DX8_block 86 rfl) rfl rfl ?_
        refine g_bipush (v := 8) C (tdec DX8_block 87 rfl) (by decide) rfl ?_
        refine g_idiv C (tdec DX8_block 88 rfl) (by decide) rfl ?_
        refine g_iadd C (tdec DX8_block 89 rfl) rfl ?_
        obtain ⟨r24, y25, hF⟩ := o_bind hF
        refine g_iald C 2 1 rfl rfl y25 (tdec DX8_block 90 rfl) rfl ?_
        refine g_iconst (v := 1) C (tdec DX8_block 91 rfl) (by decide) rfl ?_
        refine g_icmp_lt (pt := 189) C (tdec DX8_block 92 rfl) (by decide) rfl (fun h26 => ?_) (fun h26 => ?_)
        · have hF := o_ifp hF h26
          refine g_iinc (z := 7) (v := (v7 + 1)) (L' := [(7, .int (v7 + 1)), (0, .ref x_0), (1, .int v1), (2, .int v2), (3, .int v3), (4, .int v4), (5, .int v5), (6, .int v6)]) C (tdec DX8_block 106 rfl) rfl rfl (by decide) rfl rfl ?_
          refine g_goto (pt := 123) C (tdec DX8_block 107 rfl) (by decide) ?_
          refine g_sub (L' := [(0, .ref x_0), (1, .int v1), (2, .int v2), (3, .int v3), (4, .int v4), (5, .int v5), (6, .int v6), (7, .int (v7 + 1))]) [1, 2, 3, 4, 5, 6, 7, 0] rfl ?_
          exact ih9 _ _ _ _ hF
        · have hF := o_ifn hF h26
          refine g_aload_n (z := 0) C (tdec DX8_block 93 rfl) rfl rfl rfl ?_
          refine g_iload_n (z := 1) C (tdec DX8_block 94 rfl) rfl rfl rfl ?_
          refine g_iload (z := 7) C (tdec DX8_block 95 rfl) rfl rfl ?_
          obtain ⟨r27, y28, hF⟩ := o_bind hF
          refine g_callViRS (q0 := 0) (S := [wM cB cI cJ cZ x_0 x_1 x_2 x_3 x_4 x_5 x_6 x_7 x_8 x_9 x_10 x_11 x_12 x_13 x_14 x_15 x_16 x_17 x_18 x_19 x]) (S0 := [wM cB cI cJ cZ x_0 x_1 x_2 x_3 x_4 x_5 x_6 x_7 x_8 x_9 x_10 x_11 x_12 x_13 x_14 x_15 x_16 x_17 x_18 x_19 x]) C (c_X8_told l D cB cI cJ cZ x_0 x_1 x_2 x_3 x_4 x_5 x_6 x_7 x_8 x_9 x_10 x_11 x_12 x_13 x_14 x_15 x_16 x_17 x_18 x_19 y28) rfl rfl (gIV ml_X8_90 im_X8_told sl_X8_told in_X8 cd_X8_told) rfl eX8_told rfl ⟨rfl, rfl⟩ ⟨Nat.le_of_ble_eq_true rfl, Nat.le_of_ble_eq_true rfl⟩ rfl rfl rfl [0] rfl rfl rfl (Nat.le_of_ble_eq_true rfl) (tdec DX8_block 96 rfl) rfl ?_
          refine g_iload_n (z := 2) C (tdec DX8_block 97 rfl) rfl rfl rfl ?_
          refine g_icmp_eq (pt := 177) C (tdec DX8_block 98 rfl) (by decide) rfl (fun h29 => ?_) (fun h29 => ?_)
          · have hF := o_ifp hF h29
            refine g_iinc (z := 5) (v := (v5 + 1)) (L' := [(5, .int (v5 + 1)), (0, .ref x_0), (1, .int v1), (2, .int v2), (3, .int v3), (4, .int v4), (6, .int v6), (7, .int v7)]) C (tdec DX8_block 100 rfl) rfl rfl (by decide) rfl rfl ?_
            refine g_aload_n (z := 1) C (tdec DX8_block 101 rfl) rfl rfl rfl ?_
            refine g_iload_n (z := 2) C (tdec DX8_block 102 rfl) rfl rfl rfl ?_
            refine g_iload (z := 7) C (tdec DX8_block 103 rfl) rfl rfl ?_
            obtain ⟨r30, y31, hF⟩ := o_bind hF
            refine g_callViRS (q0 := 0) (S := [wM cB cI cJ cZ x_0 x_1 x_2 x_3 x_4 x_5 x_6 x_7 x_8 x_9 x_10 x_11 x_12 x_13 x_14 x_15 x_16 x_17 x_18 x_19 x]) (S0 := [wM cB cI cJ cZ x_0 x_1 x_2 x_3 x_4 x_5 x_6 x_7 x_8 x_9 x_10 x_11 x_12 x_13 x_14 x_15 x_16 x_17 x_18 x_19 x]) C (c_X8_born l D cB cI cJ cZ x_0 x_1 x_2 x_3 x_4 x_5 x_6 x_7 x_8 x_9 x_10 x_11 x_12 x_13 x_14 x_15 x_16 x_17 x_18 x_19 y31) rfl rfl (gIV ml_X8_97 im_X8_born sl_X8_born in_X8 cd_X8_born) rfl eX8_born rfl ⟨rfl, rfl⟩ ⟨Nat.le_of_ble_eq_true rfl, Nat.le_of_ble_eq_true rfl⟩ rfl rfl rfl [0] rfl rfl rfl (Nat.le_of_ble_eq_true rfl) (tdec DX8_block 104 rfl) rfl ?_
            refine g_istore (L' := [(6, .int r30), (5, .int (v5 + 1)), (0, .ref x_0), (1, .int v1), (2, .int v2), (3, .int v3), (4, .int v4), (7, .int v7)]) C (tdec DX8_block 105 rfl) (by decide) rfl rfl ?_
            refine g_iinc (z := 7) (v := (v7 + 1)) (L' := [(7, .int (v7 + 1)), (6, .int r30), (5, .int (v5 + 1)), (0, .ref x_0), (1, .int v1), (2, .int v2), (3, .int v3), (4, .int v4)]) C (tdec DX8_block 106 rfl) rfl rfl (by decide) rfl rfl ?_
            refine g_goto (pt := 123) C (tdec DX8_block 107 rfl) (by decide) ?_
            refine g_sub (L' := [(0, .ref x_0), (1, .int v1), (2, .int v2), (3, .int v3), (4, .int v4), (5, .int (v5 + 1)), (6, .int r30), (7, .int (v7 + 1))]) [3, 4, 5, 6, 7, 2, 1, 0] rfl ?_
            exact ih9 _ _ _ _ hF
          · have hF := o_ifn hF h29
            refine g_goto (pt := 189) C (tdec DX8_block 99 rfl) (by decide) ?_
            refine g_iinc (z := 7) (v := (v7 + 1)) (L' := [(7, .int (v7 + 1)), (0, .ref x_0), (1, .int v1), (2, .int v2), (3, .int v3), (4, .int v4), (5, .int v5), (6, .int v6)]) C (tdec DX8_block 106 rfl) rfl rfl (by decide) rfl rfl ?_
            refine g_goto (pt := 123) C (tdec DX8_block 107 rfl) (by decide) ?_
            refine g_sub (L' := [(0, .ref x_0), (1, .int v1), (2, .int v2), (3, .int v3), (4, .int v4), (5, .int v5), (6, .int v6), (7, .int (v7 + 1))]) [1, 2, 3, 4, 5, 6, 7, 0] rfl ?_
            exact ih9 _ _ _ _ hF
set_option maxHeartbeats 4000000 in
set_option maxRecDepth 100000 in
theorem c_X8_block (l : Launch) (D : va_G) (cB cI cJ cZ : ClassId) (x_0 x_1 x_2 x_3 x_4 x_5 x_6 x_7 x_8 x_9 x_10 x_11 x_12 x_13 x_14 x_15 x_16 x_17 x_18 x_19 : Nat) {x0 : MS} {p1 : Int32} {p2 : Int32} {p3 : Int32} {res : Int32 × MS} (hF : FX8_block x0 p1 p2 p3 = some res) : gMi l yX8_block wsX8_block rX8_block D (gT cB cI cJ cZ) [.ref x_0, .int p1, .int p2, .int p3] (wM cB cI cJ cZ x_0 x_1 x_2 x_3 x_4 x_5 x_6 x_7 x_8 x_9 x_10 x_11 x_12 x_13 x_14 x_15 x_16 x_17 x_18 x_19 x0) res.1 (wM cB cI cJ cZ x_0 x_1 x_2 x_3 x_4 x_5 x_6 x_7 x_8 x_9 x_10 x_11 x_12 x_13 x_14 x_15 x_16 x_17 x_18 x_19 res.2) := by
  refine g_enter (own := RX8) (free := (fun sz => va_A (wM cB cI cJ cZ x_0 x_1 x_2 x_3 x_4 x_5 x_6 x_7 x_8 x_9 x_10 x_11 x_12 x_13 x_14 x_15 x_16 x_17 x_18 x_19 x0) sz)) (Qc := (fun sz => gQi D (wM cB cI cJ cZ x_0 x_1 x_2 x_3 x_4 x_5 x_6 x_7 x_8 x_9 x_10 x_11 x_12 x_13 x_14 x_15 x_16 x_17 x_18 x_19 x0) sz res.1 (wM cB cI cJ cZ x_0 x_1 x_2 x_3 x_4 x_5 x_6 x_7 x_8 x_9 x_10 x_11 x_12 x_13 x_14 x_15 x_16 x_17 x_18 x_19 res.2))) (fun sz => va_A (wM cB cI cJ cZ x_0 x_1 x_2 x_3 x_4 x_5 x_6 x_7 x_8 x_9 x_10 x_11 x_12 x_13 x_14 x_15 x_16 x_17 x_18 x_19 x0) sz) (fun sz => Or.inr rfl) rfl (by decide) rfl (Nat.le_of_ble_eq_true rfl) rfl ?_
  intro p e s m args below meth c C
  unfold FX8_block at hF
  refine g_aload_n (z := 0) C (tdec DX8_block 0 rfl) rfl rfl rfl ?_
  refine g_iconst (v := 0) C (tdec DX8_block 1 rfl) (by decide) rfl ?_
  refine g_putf (C' := RX8) (T := TX8) (N := 27) (v := .int 0) (ws' := wM cB cI cJ cZ x_0 x_1 x_2 x_3 x_4 x_5 x_6 x_7 x_8 x_9 x_10 x_11 x_12 x_13 x_14 x_15 x_16 x_17 x_18 x_19 (MS_setthr x0 0)) C 0 0 tyX8 tyX8_ok nmX8 (gIn iw_X8) rfl rfl (by decide) (gMem fl_X8_78) rfl rfl (tyX8_ok 0 (by decide)) rfl rfl (Nat.le_of_ble_eq_true rfl) rfl (tdec DX8_block 2 rfl) rfl ?_
  refine g_aload_n (z := 0) C (tdec DX8_block 3 rfl) rfl rfl rfl ?_
  refine g_iload_n (z := 1) C (tdec DX8_block 4 rfl) rfl rfl rfl ?_
  refine g_iload_n (z := 2) C (tdec DX8_block 5 rfl) rfl rfl rfl ?_
  obtain ⟨r1, y2, hF⟩ := o_bind hF
  refine g_callViRS (q0 := 0) (S := [wM cB cI cJ cZ x_0 x_1 x_2 x_3 x_4 x_5 x_6 x_7 x_8 x_9 x_10 x_11 x_12 x_13 x_14 x_15 x_16 x_17 x_18 x_19 (MS_setthr x0 0)]) (S0 := [wM cB cI cJ cZ x_0 x_1 x_2 x_3 x_4 x_5 x_6 x_7 x_8 x_9 x_10 x_11 x_12 x_13 x_14 x_15 x_16 x_17 x_18 x_19 (MS_setthr x0 0)]) C (c_X8_isBlock l D cB cI cJ cZ x_0 x_1 x_2 x_3 x_4 x_5 x_6 x_7 x_8 x_9 x_10 x_11 x_12 x_13 x_14 x_15 x_16 x_17 x_18 x_19 y2) rfl rfl (gIV ml_X8_211 im_X8_isBlock sl_X8_isBlock in_X8 cd_X8_isBlock) rfl eX8_isBlock rfl ⟨rfl, rfl⟩ ⟨Nat.le_of_ble_eq_true rfl, Nat.le_of_ble_eq_true rfl⟩ rfl rfl rfl [0] rfl rfl rfl (Nat.le_of_ble_eq_true rfl) (tdec DX8_block 6 rfl) rfl ?_
  refine g_if_eq (pt := 23) C (tdec DX8_block 7 rfl) (by decide) rfl (fun h3 => ?_) (fun h3 => ?_)
  · have hF := o_ifp hF h3
    refine g_iconst (v := (-1)) C (tdec DX8_block 13 rfl) (by decide) rfl ?_
    have hr9 := o_some hF
    subst hr9
    exact g_iret C rfl rfl (tdec DX8_block 14 rfl)
  · have hF := o_ifn hF h3
    refine g_iload_n (z := 3) C (tdec DX8_block 8 rfl) rfl rfl rfl ?_
    refine g_if_lt (pt := 23) C (tdec DX8_block 9 rfl) (by decide) rfl (fun h4 => ?_) (fun h4 => ?_)
    · have hF := o_ifp hF h4
      refine g_iconst (v := (-1)) C (tdec DX8_block 13 rfl) (by decide) rfl ?_
      have hr9 := o_some hF
      subst hr9
      exact g_iret C rfl rfl (tdec DX8_block 14 rfl)
    · have hF := o_ifn hF h4
      refine g_iload_n (z := 3) C (tdec DX8_block 10 rfl) rfl rfl rfl ?_
      refine g_iconst (v := 2) C (tdec DX8_block 11 rfl) (by decide) rfl ?_
      refine g_icmp_le (pt := 25) C (tdec DX8_block 12 rfl) (by decide) rfl (fun h5 => ?_) (fun h5 => ?_)
      · have hF := o_ifp hF h5
        refine g_aload_n (z := 0) C (tdec DX8_block 15 rfl) rfl rfl rfl ?_
        refine g_getf (C' := RX8) (T := TX8) (N := 27) (v := .ref x_2) C 0 2 (gIn iw_X8) rfl rfl (by decide) (gMem fl_X8_13) rfl rfl (tdec DX8_block 16 rfl) rfl ?_
        refine g_sipush (v := 600) C (tdec DX8_block 17 rfl) (by decide) rfl ?_
        refine g_iload_n (z := 1) C (tdec DX8_block 18 rfl) rfl rfl rfl ?_
        refine g_imul C (tdec DX8_block 19 rfl) rfl ?_
        refine g_iload_n (z := 2) C (tdec DX8_block 20 rfl) rfl rfl rfl ?_
        refine g_iadd C (tdec DX8_block 21 rfl) rfl ?_
        obtain ⟨r6, y7, hF⟩ := o_bind hF
        refine g_iald C 2 1 rfl rfl y7 (tdec DX8_block 22 rfl) rfl ?_
        refine g_istore (L' := [(4, .int r6), (0, .ref x_0), (1, .int p1), (2, .int p2), (3, .int p3)]) C (tdec DX8_block 23 rfl) (by decide) rfl rfl ?_
        refine g_iload_n (z := 4) C (tdec DX8_block 24 rfl) rfl rfl rfl ?_
        refine g_if_ne (pt := 46) C (tdec DX8_block 25 rfl) (by decide) rfl (fun h8 => ?_) (fun h8 => ?_)
        · have hF := o_ifn hF h8
          refine g_iconst (v := 0) C (tdec DX8_block 28 rfl) (by decide) rfl ?_
          refine g_istore (L' := [(5, .int 0), (4, .int r6), (0, .ref x_0), (1, .int p1), (2, .int p2), (3, .int p3)]) C (tdec DX8_block 29 rfl) (by decide) rfl rfl ?_
          refine g_iconst (v := (-1)) C (tdec DX8_block 30 rfl) (by decide) rfl ?_
          refine g_istore (L' := [(6, .int (-1)), (5, .int 0), (4, .int r6), (0, .ref x_0), (1, .int p1), (2, .int p2), (3, .int p3)]) C (tdec DX8_block 31 rfl) (by decide) rfl rfl ?_
          refine g_iconst (v := 0) C (tdec DX8_block 32 rfl) (by decide) rfl ?_
          refine g_istore (L' := [(7, .int 0), (6, .int (-1)), (5, .int 0), (4, .int r6), (0, .ref x_0), (1, .int p1), (2, .int p2), (3, .int p3)]) C (tdec DX8_block 33 rfl) (by decide) rfl rfl ?_
          refine g_sub (L' := [(0, .ref x_0), (1, .int p1), (2, .int p2), (3, .int p3), (4, .int r6), (5, .int 0), (6, .int (-1)), (7, .int 0)]) [4, 5, 6, 7, 3, 2, 1, 0] rfl ?_
          refine c_FX8_block_L55 C (fun xq19 w5_19 w6_19 w7_19 hF => ?_) 100000 _ _ _ _ hF
          refine g_iconst (v := 0) C (tdec DX8_block 68 rfl) (by decide) rfl ?_
          refine g_istore (L' := [(7, .int 0), (0, .ref x_0), (1, .int p1), (2, .int p2), (3, .int p3), (4, .int r6), (5, .int w5_19), (6, .int w6_19)]) C (tdec DX8_block 69 rfl) (by decide) rfl rfl ?_
          refine g_sub (L' := [(0, .ref x_0), (1, .int p1), (2, .int p2), (3, .int p3), (4, .int r6), (5, .int w5_19), (6, .int w6_19), (7, .int 0)]) [1, 2, 3, 4, 5, 6, 7, 0] rfl ?_
          refine c_FX8_block_L123 C (fun xq32 w5_32 w6_32 w7_32 hF => ?_) 100000 _ _ _ _ hF
          refine g_iload_n (z := 3) C (tdec DX8_block 108 rfl) rfl rfl rfl ?_
          refine g_iconst (v := 1) C (tdec DX8_block 109 rfl) (by decide) rfl ?_
          refine g_icmp_ne (pt := 205) C (tdec DX8_block 110 rfl) (by decide) rfl (fun h33 => ?_) (fun h33 => ?_)
          · have hF := o_ifn hF h33
            refine g_iload (z := 5) C (tdec DX8_block 113 rfl) rfl rfl ?_
            have hr9 := o_some hF
            subst hr9
            exact g_iret C rfl rfl (tdec DX8_block 114 rfl)
          · have hF := o_ifp hF h33
            refine g_iload (z := 6) C (tdec DX8_block 111 rfl) rfl rfl ?_
            refine g_goto (pt := 207) C (tdec DX8_block 112 rfl) (by decide) ?_
            have hr9 := o_some hF
            subst hr9
            exact g_iret C rfl rfl (tdec DX8_block 114 rfl)
        · have hF := o_ifp hF h8
          refine g_iload (z := 0) C (tdec DX8_block 26 rfl) rfl rfl ?_
          have hr9 := o_some hF
          subst hr9
          exact g_iret C rfl rfl (tdec DX8_block 27 rfl)
      · have hF := o_ifn hF h5
        refine g_iconst (v := (-1)) C (tdec DX8_block 13 rfl) (by decide) rfl ?_
        have hr9 := o_some hF
        subst hr9
        exact g_iret C rfl rfl (tdec DX8_block 14 rfl)
def FX8_pointer (x0 : MS) (p1 : Int32) (p2 : Int32) (p3 : Int32) (p4 : Int32) : Option (Int32 × MS) :=
  (FX8_isBlock (MS_setthr x0 0) p1 p2).bind fun r1 =>
  if r1 = 0 then
    some ((-1), (MS_setthr x0 0))
  else
    (ald 1200 (MS_lev x0) ((600 * p1) + p2)).bind fun r4 =>
    if r4 < 1 then
      some ((-1), (MS_setthr x0 0))
    else
      if p3 < 0 then
        some ((-1), (MS_setthr x0 0))
      else
        if p3 ≤ 7 then
          if p4 = 0 then
            (FX8_told (MS_setthr x0 0) p1 ((8 * p2) + p3)).bind fun r13 =>
            some (r13, (MS_setthr x0 0))
          else
            if p4 = 1 then
              (FX8_born (MS_setthr x0 0) p1 ((8 * p2) + p3)).bind fun r11 =>
              some (r11, (MS_setthr x0 0))
            else
              some ((-1), (MS_setthr x0 0))
        else
          some ((-1), (MS_setthr x0 0))
def rX8_pointer : Room := { frames := 2, cells := 0, slots := 0, locals := 42 }
set_option maxHeartbeats 4000000 in
set_option maxRecDepth 100000 in
theorem c_X8_pointer (l : Launch) (D : va_G) (cB cI cJ cZ : ClassId) (x_0 x_1 x_2 x_3 x_4 x_5 x_6 x_7 x_8 x_9 x_10 x_11 x_12 x_13 x_14 x_15 x_16 x_17 x_18 x_19 : Nat) {x0 : MS} {p1 : Int32} {p2 : Int32} {p3 : Int32} {p4 : Int32} {res : Int32 × MS} (hF : FX8_pointer x0 p1 p2 p3 p4 = some res) : gMi l yX8_pointer wsX8_pointer rX8_pointer D (gT cB cI cJ cZ) [.ref x_0, .int p1, .int p2, .int p3, .int p4] (wM cB cI cJ cZ x_0 x_1 x_2 x_3 x_4 x_5 x_6 x_7 x_8 x_9 x_10 x_11 x_12 x_13 x_14 x_15 x_16 x_17 x_18 x_19 x0) res.1 (wM cB cI cJ cZ x_0 x_1 x_2 x_3 x_4 x_5 x_6 x_7 x_8 x_9 x_10 x_11 x_12 x_13 x_14 x_15 x_16 x_17 x_18 x_19 res.2) := by
  refine g_enter (own := RX8) (free := (fun sz => va_A (wM cB cI cJ cZ x_0 x_1 x_2 x_3 x_4 x_5 x_6 x_7 x_8 x_9 x_10 x_11 x_12 x_13 x_14 x_15 x_16 x_17 x_18 x_19 x0) sz)) (Qc := (fun sz => gQi D (wM cB cI cJ cZ x_0 x_1 x_2 x_3 x_4 x_5 x_6 x_7 x_8 x_9 x_10 x_11 x_12 x_13 x_14 x_15 x_16 x_17 x_18 x_19 x0) sz res.1 (wM cB cI cJ cZ x_0 x_1 x_2 x_3 x_4 x_5 x_6 x_7 x_8 x_9 x_10 x_11 x_12 x_13 x_14 x_15 x_16 x_17 x_18 x_19 res.2))) (fun sz => va_A (wM cB cI cJ cZ x_0 x_1 x_2 x_3 x_4 x_5 x_6 x_7 x_8 x_9 x_10 x_11 x_12 x_13 x_14 x_15 x_16 x_17 x_18 x_19 x0) sz) (fun sz => Or.inr rfl) rfl (by decide) rfl (Nat.le_of_ble_eq_true rfl) rfl ?_
  intro p e s m args below meth c C
  unfold FX8_pointer at hF
  refine g_aload_n (z := 0) C (tdec DX8_pointer 0 rfl) rfl rfl rfl ?_
  refine g_iconst (v := 0) C (tdec DX8_pointer 1 rfl) (by decide) rfl ?_
  refine g_putf (C' := RX8) (T := TX8) (N := 27) (v := .int 0) (ws' := wM cB cI cJ cZ x_0 x_1 x_2 x_3 x_4 x_5 x_6 x_7 x_8 x_9 x_10 x_11 x_12 x_13 x_14 x_15 x_16 x_17 x_18 x_19 (MS_setthr x0 0)) C 0 0 tyX8 tyX8_ok nmX8 (gIn iw_X8) rfl rfl (by decide) (gMem fl_X8_78) rfl rfl (tyX8_ok 0 (by decide)) rfl rfl (Nat.le_of_ble_eq_true rfl) rfl (tdec DX8_pointer 2 rfl) rfl ?_
  refine g_aload_n (z := 0) C (tdec DX8_pointer 3 rfl) rfl rfl rfl ?_
  refine g_iload_n (z := 1) C (tdec DX8_pointer 4 rfl) rfl rfl rfl ?_
  refine g_iload_n (z := 2) C (tdec DX8_pointer 5 rfl) rfl rfl rfl ?_
  obtain ⟨r1, y2, hF⟩ := o_bind hF
  refine g_callViRS (q0 := 0) (S := [wM cB cI cJ cZ x_0 x_1 x_2 x_3 x_4 x_5 x_6 x_7 x_8 x_9 x_10 x_11 x_12 x_13 x_14 x_15 x_16 x_17 x_18 x_19 (MS_setthr x0 0)]) (S0 := [wM cB cI cJ cZ x_0 x_1 x_2 x_3 x_4 x_5 x_6 x_7 x_8 x_9 x_10 x_11 x_12 x_13 x_14 x_15 x_16 x_17 x_18 x_19 (MS_setthr x0 0)]) C (c_X8_isBlock l D cB cI cJ cZ x_0 x_1 x_2 x_3 x_4 x_5 x_6 x_7 x_8 x_9 x_10 x_11 x_12 x_13 x_14 x_15 x_16 x_17 x_18 x_19 y2) rfl rfl (gIV ml_X8_211 im_X8_isBlock sl_X8_isBlock in_X8 cd_X8_isBlock) rfl eX8_isBlock rfl ⟨rfl, rfl⟩ ⟨Nat.le_of_ble_eq_true rfl, Nat.le_of_ble_eq_true rfl⟩ rfl rfl rfl [0] rfl rfl rfl (Nat.le_of_ble_eq_true rfl) (tdec DX8_pointer 6 rfl) rfl ?_
  refine g_if_eq (pt := 40) C (tdec DX8_pointer 7 rfl) (by decide) rfl (fun h3 => ?_) (fun h3 => ?_)
  · have hF := o_ifp hF h3
    refine g_iconst (v := (-1)) C (tdec DX8_pointer 23 rfl) (by decide) rfl ?_
    have hr9 := o_some hF
    subst hr9
    exact g_iret C rfl rfl (tdec DX8_pointer 24 rfl)
  · have hF := o_ifn hF h3
    refine g_aload_n (z := 0) C (tdec DX8_pointer 8 rfl) rfl rfl rfl ?_
    refine g_getf (C' := RX8) (T := TX8) (N := 27) (v := .ref x_2) C 0 2 (gIn iw_X8) rfl rfl (by decide) (gMem fl_X8_13) rfl rfl (tdec DX8_pointer 9 rfl) rfl ?_
    refine g_sipush (v := 600) C (tdec DX8_pointer 10 rfl) (by decide) rfl ?_
    refine g_iload_n (z := 1) C (tdec DX8_pointer 11 rfl) rfl rfl rfl ?_
    refine g_imul C (tdec DX8_pointer 12 rfl) rfl ?_
    refine g_iload_n (z := 2) C (tdec DX8_pointer 13 rfl) rfl rfl rfl ?_
    refine g_iadd C (tdec DX8_pointer 14 rfl) rfl ?_
    obtain ⟨r4, y5, hF⟩ := o_bind hF
    refine g_iald C 2 1 rfl rfl y5 (tdec DX8_pointer 15 rfl) rfl ?_
    refine g_iconst (v := 1) C (tdec DX8_pointer 16 rfl) (by decide) rfl ?_
    refine g_icmp_lt (pt := 40) C (tdec DX8_pointer 17 rfl) (by decide) rfl (fun h6 => ?_) (fun h6 => ?_)
    · have hF := o_ifp hF h6
      refine g_iconst (v := (-1)) C (tdec DX8_pointer 23 rfl) (by decide) rfl ?_
      have hr9 := o_some hF
      subst hr9
      exact g_iret C rfl rfl (tdec DX8_pointer 24 rfl)
    · have hF := o_ifn hF h6
      refine g_iload_n (z := 3) C (tdec DX8_pointer 18 rfl) rfl rfl rfl ?_
      refine g_if_lt (pt := 40) C (tdec DX8_pointer 19 rfl) (by decide) rfl (fun h7 => ?_) (fun h7 => ?_)
      · have hF := o_ifp hF h7
        refine g_iconst (v := (-1)) C (tdec DX8_pointer 23 rfl) (by decide) rfl ?_
        have hr9 := o_some hF
        subst hr9
        exact g_iret C rfl rfl (tdec DX8_pointer 24 rfl)
      · have hF := o_ifn hF h7
        refine g_iload_n (z := 3) C (tdec DX8_pointer 20 rfl) rfl rfl rfl ?_
        refine g_bipush (v := 7) C (tdec DX8_pointer 21 rfl) (by decide) rfl ?_
        refine g_icmp_le (pt := 42) C (tdec DX8_pointer 22 rfl) (by decide) rfl (fun h8 => ?_) (fun h8 => ?_)
        · have hF := o_ifp hF h8
          refine g_iload (z := 4) C (tdec DX8_pointer 25 rfl) rfl rfl ?_
          refine g_if_ne (pt := 61) C (tdec DX8_pointer 26 rfl) (by decide) rfl (fun h9 => ?_) (fun h9 => ?_)
          · have hF := o_ifn hF h9
            refine g_iload (z := 4) C (tdec DX8_pointer 36 rfl) rfl rfl ?_
            refine g_iconst (v := 1) C (tdec DX8_pointer 37 rfl) (by decide) rfl ?_
            refine g_icmp_ne (pt := 81) C (tdec DX8_pointer 38 rfl) (by decide) rfl (fun h10 => ?_) (fun h10 => ?_)
            · have hF := o_ifn hF h10
              refine g_iconst (v := (-1)) C (tdec DX8_pointer 48 rfl) (by decide) rfl ?_
              have hr9 := o_some hF
              subst hr9
              exact g_iret C rfl rfl (tdec DX8_pointer 49 rfl)
            · have hF := o_ifp hF h10
              refine g_aload_n (z := 0) C (tdec DX8_pointer 39 rfl) rfl rfl rfl ?_
              refine g_iload_n (z := 1) C (tdec DX8_pointer 40 rfl) rfl rfl rfl ?_
              refine g_bipush (v := 8) C (tdec DX8_pointer 41 rfl) (by decide) rfl ?_
              refine g_iload_n (z := 2) C (tdec DX8_pointer 42 rfl) rfl rfl rfl ?_
              refine g_imul C (tdec DX8_pointer 43 rfl) rfl ?_
              refine g_iload_n (z := 3) C (tdec DX8_pointer 44 rfl) rfl rfl rfl ?_
              refine g_iadd C (tdec DX8_pointer 45 rfl) rfl ?_
              obtain ⟨r11, y12, hF⟩ := o_bind hF
              refine g_callViRS (q0 := 0) (S := [wM cB cI cJ cZ x_0 x_1 x_2 x_3 x_4 x_5 x_6 x_7 x_8 x_9 x_10 x_11 x_12 x_13 x_14 x_15 x_16 x_17 x_18 x_19 (MS_setthr x0 0)]) (S0 := [wM cB cI cJ cZ x_0 x_1 x_2 x_3 x_4 x_5 x_6 x_7 x_8 x_9 x_10 x_11 x_12 x_13 x_14 x_15 x_16 x_17 x_18 x_19 (MS_setthr x0 0)]) C (c_X8_born l D cB cI cJ cZ x_0 x_1 x_2 x_3 x_4 x_5 x_6 x_7 x_8 x_9 x_10 x_11 x_12 x_13 x_14 x_15 x_16 x_17 x_18 x_19 y12) rfl rfl (gIV ml_X8_97 im_X8_born sl_X8_born in_X8 cd_X8_born) rfl eX8_born rfl ⟨rfl, rfl⟩ ⟨Nat.le_of_ble_eq_true rfl, Nat.le_of_ble_eq_true rfl⟩ rfl rfl rfl [0] rfl rfl rfl (Nat.le_of_ble_eq_true rfl) (tdec DX8_pointer 46 rfl) rfl ?_
              refine g_goto (pt := 82) C (tdec DX8_pointer 47 rfl) (by decide) ?_
              have hr9 := o_some hF
              subst hr9
              exact g_iret C rfl rfl (tdec DX8_pointer 49 rfl)
          · have hF := o_ifp hF h9
            refine g_aload_n (z := 0) C (tdec DX8_pointer 27 rfl) rfl rfl rfl ?_
            refine g_iload_n (z := 1) C (tdec DX8_pointer 28 rfl) rfl rfl rfl ?_
            refine g_bipush (v := 8) C (tdec DX8_pointer 29 rfl) (by decide) rfl ?_
            refine g_iload_n (z := 2) C (tdec DX8_pointer 30 rfl) rfl rfl rfl ?_
            refine g_imul C (tdec DX8_pointer 31 rfl) rfl ?_
            refine g_iload_n (z := 3) C (tdec DX8_pointer 32 rfl) rfl rfl rfl ?_
            refine g_iadd C (tdec DX8_pointer 33 rfl) rfl ?_
            obtain ⟨r13, y14, hF⟩ := o_bind hF
            refine g_callViRS (q0 := 0) (S := [wM cB cI cJ cZ x_0 x_1 x_2 x_3 x_4 x_5 x_6 x_7 x_8 x_9 x_10 x_11 x_12 x_13 x_14 x_15 x_16 x_17 x_18 x_19 (MS_setthr x0 0)]) (S0 := [wM cB cI cJ cZ x_0 x_1 x_2 x_3 x_4 x_5 x_6 x_7 x_8 x_9 x_10 x_11 x_12 x_13 x_14 x_15 x_16 x_17 x_18 x_19 (MS_setthr x0 0)]) C (c_X8_told l D cB cI cJ cZ x_0 x_1 x_2 x_3 x_4 x_5 x_6 x_7 x_8 x_9 x_10 x_11 x_12 x_13 x_14 x_15 x_16 x_17 x_18 x_19 y14) rfl rfl (gIV ml_X8_90 im_X8_told sl_X8_told in_X8 cd_X8_told) rfl eX8_told rfl ⟨rfl, rfl⟩ ⟨Nat.le_of_ble_eq_true rfl, Nat.le_of_ble_eq_true rfl⟩ rfl rfl rfl [0] rfl rfl rfl (Nat.le_of_ble_eq_true rfl) (tdec DX8_pointer 34 rfl) rfl ?_
            refine g_goto (pt := 82) C (tdec DX8_pointer 35 rfl) (by decide) ?_
            have hr9 := o_some hF
            subst hr9
            exact g_iret C rfl rfl (tdec DX8_pointer 49 rfl)
        · have hF := o_ifn hF h8
          refine g_iconst (v := (-1)) C (tdec DX8_pointer 23 rfl) (by decide) rfl ?_
          have hr9 := o_some hF
          subst hr9
          exact g_iret C rfl rfl (tdec DX8_pointer 24 rfl)
def FX8_data (x0 : MS) (p1 : Int32) (p2 : Int32) : Option (Int64 × MS) :=
  (FX8_isBlock (MS_setthr x0 0) p1 p2).bind fun r1 =>
  if r1 = 0 then
    some (0, (MS_setthr x0 0))
  else
    (ald 1200 (MS_lev x0) ((600 * p1) + p2)).bind fun r4 =>
    if r4 = 0 then
      (ald 1200 (MS_dat x0) ((600 * p1) + p2)).bind fun r7 =>
      some (r7, (MS_setthr x0 0))
    else
      some (0, (MS_setthr x0 0))
def rX8_data : Room := { frames := 2, cells := 0, slots := 0, locals := 42 }
set_option maxHeartbeats 4000000 in
set_option maxRecDepth 100000 in
theorem c_X8_data (l : Launch) (D : va_G) (cB cI cJ cZ : ClassId) (x_0 x_1 x_2 x_3 x_4 x_5 x_6 x_7 x_8 x_9 x_10 x_11 x_12 x_13 x_14 x_15 x_16 x_17 x_18 x_19 : Nat) {x0 : MS} {p1 : Int32} {p2 : Int32} {res : Int64 × MS} (hF : FX8_data x0 p1 p2 = some res) : gMl l yX8_data wsX8_data rX8_data D (gT cB cI cJ cZ) [.ref x_0, .int p1, .int p2] (wM cB cI cJ cZ x_0 x_1 x_2 x_3 x_4 x_5 x_6 x_7 x_8 x_9 x_10 x_11 x_12 x_13 x_14 x_15 x_16 x_17 x_18 x_19 x0) res.1 (wM cB cI cJ cZ x_0 x_1 x_2 x_3 x_4 x_5 x_6 x_7 x_8 x_9 x_10 x_11 x_12 x_13 x_14 x_15 x_16 x_17 x_18 x_19 res.2) := by
  refine g_enter (own := RX8) (free := (fun sz => va_A (wM cB cI cJ cZ x_0 x_1 x_2 x_3 x_4 x_5 x_6 x_7 x_8 x_9 x_10 x_11 x_12 x_13 x_14 x_15 x_16 x_17 x_18 x_19 x0) sz)) (Qc := (fun sz => gQl D (wM cB cI cJ cZ x_0 x_1 x_2 x_3 x_4 x_5 x_6 x_7 x_8 x_9 x_10 x_11 x_12 x_13 x_14 x_15 x_16 x_17 x_18 x_19 x0) sz res.1 (wM cB cI cJ cZ x_0 x_1 x_2 x_3 x_4 x_5 x_6 x_7 x_8 x_9 x_10 x_11 x_12 x_13 x_14 x_15 x_16 x_17 x_18 x_19 res.2))) (fun sz => va_A (wM cB cI cJ cZ x_0 x_1 x_2 x_3 x_4 x_5 x_6 x_7 x_8 x_9 x_10 x_11 x_12 x_13 x_14 x_15 x_16 x_17 x_18 x_19 x0) sz) (fun sz => Or.inr rfl) rfl (by decide) rfl (Nat.le_of_ble_eq_true rfl) rfl ?_
  intro p e s m args below meth c C
  unfold FX8_data at hF
  refine g_aload_n (z := 0) C (tdec DX8_data 0 rfl) rfl rfl rfl ?_
  refine g_iconst (v := 0) C (tdec DX8_data 1 rfl) (by decide) rfl ?_
  refine g_putf (C' := RX8) (T := TX8) (N := 27) (v := .int 0) (ws' := wM cB cI cJ cZ x_0 x_1 x_2 x_3 x_4 x_5 x_6 x_7 x_8 x_9 x_10 x_11 x_12 x_13 x_14 x_15 x_16 x_17 x_18 x_19 (MS_setthr x0 0)) C 0 0 tyX8 tyX8_ok nmX8 (gIn iw_X8) rfl rfl (by decide) (gMem fl_X8_78) rfl rfl (tyX8_ok 0 (by decide)) rfl rfl (Nat.le_of_ble_eq_true rfl) rfl (tdec DX8_data 2 rfl) rfl ?_
  refine g_aload_n (z := 0) C (tdec DX8_data 3 rfl) rfl rfl rfl ?_
  refine g_iload_n (z := 1) C (tdec DX8_data 4 rfl) rfl rfl rfl ?_
  refine g_iload_n (z := 2) C (tdec DX8_data 5 rfl) rfl rfl rfl ?_
  obtain ⟨r1, y2, hF⟩ := o_bind hF
  refine g_callViRS (q0 := 0) (S := [wM cB cI cJ cZ x_0 x_1 x_2 x_3 x_4 x_5 x_6 x_7 x_8 x_9 x_10 x_11 x_12 x_13 x_14 x_15 x_16 x_17 x_18 x_19 (MS_setthr x0 0)]) (S0 := [wM cB cI cJ cZ x_0 x_1 x_2 x_3 x_4 x_5 x_6 x_7 x_8 x_9 x_10 x_11 x_12 x_13 x_14 x_15 x_16 x_17 x_18 x_19 (MS_setthr x0 0)]) C (c_X8_isBlock l D cB cI cJ cZ x_0 x_1 x_2 x_3 x_4 x_5 x_6 x_7 x_8 x_9 x_10 x_11 x_12 x_13 x_14 x_15 x_16 x_17 x_18 x_19 y2) rfl rfl (gIV ml_X8_211 im_X8_isBlock sl_X8_isBlock in_X8 cd_X8_isBlock) rfl eX8_isBlock rfl ⟨rfl, rfl⟩ ⟨Nat.le_of_ble_eq_true rfl, Nat.le_of_ble_eq_true rfl⟩ rfl rfl rfl [0] rfl rfl rfl (Nat.le_of_ble_eq_true rfl) (tdec DX8_data 6 rfl) rfl ?_
  refine g_if_eq (pt := 44) C (tdec DX8_data 7 rfl) (by decide) rfl (fun h3 => ?_) (fun h3 => ?_)
  · have hF := o_ifp hF h3
    refine g_lconst (v := 0) C (tdec DX8_data 26 rfl) (by decide) rfl ?_
    have hr9 := o_some hF
    subst hr9
    exact g_lret C rfl rfl (tdec DX8_data 27 rfl)
  · have hF := o_ifn hF h3
    refine g_aload_n (z := 0) C (tdec DX8_data 8 rfl) rfl rfl rfl ?_
    refine g_getf (C' := RX8) (T := TX8) (N := 27) (v := .ref x_2) C 0 2 (gIn iw_X8) rfl rfl (by decide) (gMem fl_X8_13) rfl rfl (tdec DX8_data 9 rfl) rfl ?_
    refine g_sipush (v := 600) C (tdec DX8_data 10 rfl) (by decide) rfl ?_
    refine g_iload_n (z := 1) C (tdec DX8_data 11 rfl) rfl rfl rfl ?_
    refine g_imul C (tdec DX8_data 12 rfl) rfl ?_
    refine g_iload_n (z := 2) C (tdec DX8_data 13 rfl) rfl rfl rfl ?_
    refine g_iadd C (tdec DX8_data 14 rfl) rfl ?_
    obtain ⟨r4, y5, hF⟩ := o_bind hF
    refine g_iald C 2 1 rfl rfl y5 (tdec DX8_data 15 rfl) rfl ?_
    refine g_if_ne (pt := 44) C (tdec DX8_data 16 rfl) (by decide) rfl (fun h6 => ?_) (fun h6 => ?_)
    · have hF := o_ifn hF h6
      refine g_lconst (v := 0) C (tdec DX8_data 26 rfl) (by decide) rfl ?_
      have hr9 := o_some hF
      subst hr9
      exact g_lret C rfl rfl (tdec DX8_data 27 rfl)
    · have hF := o_ifp hF h6
      refine g_aload_n (z := 0) C (tdec DX8_data 17 rfl) rfl rfl rfl ?_
      refine g_getf (C' := RX8) (T := TX8) (N := 27) (v := .ref x_5) C 0 5 (gIn iw_X8) rfl rfl (by decide) (gMem fl_X8_22) rfl rfl (tdec DX8_data 18 rfl) rfl ?_
      refine g_sipush (v := 600) C (tdec DX8_data 19 rfl) (by decide) rfl ?_
      refine g_iload_n (z := 1) C (tdec DX8_data 20 rfl) rfl rfl rfl ?_
      refine g_imul C (tdec DX8_data 21 rfl) rfl ?_
      refine g_iload_n (z := 2) C (tdec DX8_data 22 rfl) rfl rfl rfl ?_
      refine g_iadd C (tdec DX8_data 23 rfl) rfl ?_
      obtain ⟨r7, y8, hF⟩ := o_bind hF
      refine g_lald C 5 2 rfl rfl y8 (tdec DX8_data 24 rfl) rfl ?_
      refine g_goto (pt := 45) C (tdec DX8_data 25 rfl) (by decide) ?_
      have hr9 := o_some hF
      subst hr9
      exact g_lret C rfl rfl (tdec DX8_data 27 rfl)
def FX8_look (x0 : MS) (p1 : Int32) (p2 : Int32) : Option (Int32 × MS) :=
  (FX8_isVolume p1).bind fun r1 =>
  if r1 = 0 then
    some ((-1), (MS_setthr x0 0))
  else
    (FX8_begins (MS_setthr x0 0) p1).bind fun s4 =>
    if p2 = 0 then
      (ald 2 (MS_many s4) p1).bind fun r7 =>
      some (r7, s4)
    else
      if p2 = 1 then
        (FX8_freeMany s4 p1).bind fun r10 =>
        some (r10, s4)
      else
        if p2 = 2 then
          (ald 2 (MS_gen s4) p1).bind fun r13 =>
          some (r13, s4)
        else
          if p2 = 3 then
            (ald 2 (MS_snaps s4) p1).bind fun r16 =>
            some (r16, s4)
          else
            if p2 = 4 then
              (ald 2 (MS_busy s4) p1).bind fun r19 =>
              if r19 = 0 then
                some (0, s4)
              else
                some (1, s4)
            else
              if p2 = 5 then
                (ald 44 (MS_tt s4) ((22 * p1) + 0)).bind fun r23 =>
                some (r23, s4)
              else
                if p2 = 6 then
                  (ald 44 (MS_tb s4) ((22 * p1) + 0)).bind fun r26 =>
                  some (r26, s4)
                else
                  if p2 = 7 then
                    (ald 2 (MS_busy s4) p1).bind fun r29 =>
                    if r29 = 0 then
                      some ((-1), s4)
                    else
                      (ald 44 (MS_tt s4) ((22 * p1) + 1)).bind fun r32 =>
                      some (r32, s4)
                  else
                    if p2 = 8 then
                      (ald 2 (MS_rec s4) p1).bind fun r35 =>
                      some (r35, s4)
                    else
                      some ((-1), s4)
def rX8_look : Room := { frames := 1, cells := 0, slots := 0, locals := 23 }
set_option maxHeartbeats 4000000 in
set_option maxRecDepth 100000 in
theorem c_X8_look (l : Launch) (D : va_G) (cB cI cJ cZ : ClassId) (x_0 x_1 x_2 x_3 x_4 x_5 x_6 x_7 x_8 x_9 x_10 x_11 x_12 x_13 x_14 x_15 x_16 x_17 x_18 x_19 : Nat) {x0 : MS} {p1 : Int32} {p2 : Int32} {res : Int32 × MS} (hF : FX8_look x0 p1 p2 = some res) : gMi l yX8_look wsX8_look rX8_look D (gT cB cI cJ cZ) [.ref x_0, .int p1, .int p2] (wM cB cI cJ cZ x_0 x_1 x_2 x_3 x_4 x_5 x_6 x_7 x_8 x_9 x_10 x_11 x_12 x_13 x_14 x_15 x_16 x_17 x_18 x_19 x0) res.1 (wM cB cI cJ cZ x_0 x_1 x_2 x_3 x_4 x_5 x_6 x_7 x_8 x_9 x_10 x_11 x_12 x_13 x_14 x_15 x_16 x_17 x_18 x_19 res.2) := by
  refine g_enter (own := RX8) (free := (fun sz => va_A (wM cB cI cJ cZ x_0 x_1 x_2 x_3 x_4 x_5 x_6 x_7 x_8 x_9 x_10 x_11 x_12 x_13 x_14 x_15 x_16 x_17 x_18 x_19 x0) sz)) (Qc := (fun sz => gQi D (wM cB cI cJ cZ x_0 x_1 x_2 x_3 x_4 x_5 x_6 x_7 x_8 x_9 x_10 x_11 x_12 x_13 x_14 x_15 x_16 x_17 x_18 x_19 x0) sz res.1 (wM cB cI cJ cZ x_0 x_1 x_2 x_3 x_4 x_5 x_6 x_7 x_8 x_9 x_10 x_11 x_12 x_13 x_14 x_15 x_16 x_17 x_18 x_19 res.2))) (fun sz => va_A (wM cB cI cJ cZ x_0 x_1 x_2 x_3 x_4 x_5 x_6 x_7 x_8 x_9 x_10 x_11 x_12 x_13 x_14 x_15 x_16 x_17 x_18 x_19 x0) sz) (fun sz => Or.inr rfl) rfl (by decide) rfl (Nat.le_of_ble_eq_true rfl) rfl ?_
  intro p e s m args below meth c C
  unfold FX8_look at hF
  refine g_aload_n (z := 0) C (tdec DX8_look 0 rfl) rfl rfl rfl ?_
  refine g_iconst (v := 0) C (tdec DX8_look 1 rfl) (by decide) rfl ?_
  refine g_putf (C' := RX8) (T := TX8) (N := 27) (v := .int 0) (ws' := wM cB cI cJ cZ x_0 x_1 x_2 x_3 x_4 x_5 x_6 x_7 x_8 x_9 x_10 x_11 x_12 x_13 x_14 x_15 x_16 x_17 x_18 x_19 (MS_setthr x0 0)) C 0 0 tyX8 tyX8_ok nmX8 (gIn iw_X8) rfl rfl (by decide) (gMem fl_X8_78) rfl rfl (tyX8_ok 0 (by decide)) rfl rfl (Nat.le_of_ble_eq_true rfl) rfl (tdec DX8_look 2 rfl) rfl ?_
  refine g_iload_n (z := 1) C (tdec DX8_look 3 rfl) rfl rfl rfl ?_
  obtain ⟨r1, y2, hF⟩ := o_bind hF
  refine g_callSiR C (c_X8_isVolume l D cB cI cJ cZ y2) (gIS ml_X8_82 st_X8_isVolume in_X8 cd_X8_isVolume) eX8_isVolume rfl ⟨rfl, rfl⟩ ⟨Nat.le_of_ble_eq_true rfl, Nat.le_of_ble_eq_true rfl⟩ rfl [] rfl rfl rfl (Nat.le_of_ble_eq_true rfl) (tdec DX8_look 4 rfl) rfl ?_
  refine g_if_ne (pt := 14) C (tdec DX8_look 5 rfl) (by decide) rfl (fun h3 => ?_) (fun h3 => ?_)
  · have hF := o_ifn hF h3
    refine g_iload_n (z := 1) C (tdec DX8_look 8 rfl) rfl rfl rfl ?_
    refine g_istore_n (L' := [(3, .int p1), (0, .ref x_0), (1, .int p1), (2, .int p2)]) C (tdec DX8_look 9 rfl) rfl (by decide) rfl rfl ?_
    refine g_aload_n (z := 1) C (tdec DX8_look 10 rfl) rfl rfl rfl ?_
    refine g_iload_n (z := 0) C (tdec DX8_look 11 rfl) rfl rfl rfl ?_
    obtain ⟨s4, y5, hF⟩ := o_bind hF
    refine g_callVvMS (q0 := 0) (W' := wM cB cI cJ cZ x_0 x_1 x_2 x_3 x_4 x_5 x_6 x_7 x_8 x_9 x_10 x_11 x_12 x_13 x_14 x_15 x_16 x_17 x_18 x_19 s4) (S := [wM cB cI cJ cZ x_0 x_1 x_2 x_3 x_4 x_5 x_6 x_7 x_8 x_9 x_10 x_11 x_12 x_13 x_14 x_15 x_16 x_17 x_18 x_19 (MS_setthr x0 0)]) (S0 := [wM cB cI cJ cZ x_0 x_1 x_2 x_3 x_4 x_5 x_6 x_7 x_8 x_9 x_10 x_11 x_12 x_13 x_14 x_15 x_16 x_17 x_18 x_19 (MS_setthr x0 0)]) (S1 := [wM cB cI cJ cZ x_0 x_1 x_2 x_3 x_4 x_5 x_6 x_7 x_8 x_9 x_10 x_11 x_12 x_13 x_14 x_15 x_16 x_17 x_18 x_19 s4]) (S' := [wM cB cI cJ cZ x_0 x_1 x_2 x_3 x_4 x_5 x_6 x_7 x_8 x_9 x_10 x_11 x_12 x_13 x_14 x_15 x_16 x_17 x_18 x_19 s4]) C (c_X8_begins l D cB cI cJ cZ x_0 x_1 x_2 x_3 x_4 x_5 x_6 x_7 x_8 x_9 x_10 x_11 x_12 x_13 x_14 x_15 x_16 x_17 x_18 x_19 y5) rfl rfl (gIV ml_X8_127 im_X8_begins sl_X8_begins in_X8 cd_X8_begins) rfl eX8_begins rfl ⟨rfl, rfl⟩ ⟨Nat.le_of_ble_eq_true rfl, Nat.le_of_ble_eq_true rfl⟩ rfl rfl rfl [0] rfl rfl rfl rfl (gA_cons aM gA_nil) rfl rfl (Nat.le_of_ble_eq_true rfl) (tdec DX8_look 12 rfl) rfl ?_
    refine g_iload_n (z := 3) C (tdec DX8_look 13 rfl) rfl rfl rfl ?_
    by_cases h6 : p2 = 0
    · have hF := o_ifp hF h6
      refine g_switchIn (pt := 72) C (0) (tdec DX8_look 14 rfl) (h6.trans (by decide)) (by decide) (by decide) (by decide) rfl (by decide) ?_
      refine g_aload_n (z := 1) C (tdec DX8_look 15 rfl) rfl rfl rfl ?_
      refine g_getf (C' := RX8) (T := TX8) (N := 27) (v := .ref x_1) C 0 1 (gIn iw_X8) rfl rfl (by decide) (gMem fl_X8_9) rfl rfl (tdec DX8_look 16 rfl) rfl ?_
      refine g_iload_n (z := 0) C (tdec DX8_look 17 rfl) rfl rfl rfl ?_
      obtain ⟨r7, y8, hF⟩ := o_bind hF
      refine g_iald C 1 1 rfl rfl y8 (tdec DX8_look 18 rfl) rfl ?_
      have hr9 := o_some hF
      subst hr9
      exact g_iret C rfl rfl (tdec DX8_look 19 rfl)
    · have hF := o_ifn hF h6
      by_cases h9 : p2 = 1
      · have hF := o_ifp hF h9
        refine g_switchIn (pt := 79) C (1) (tdec DX8_look 14 rfl) (h9.trans (by decide)) (by decide) (by decide) (by decide) rfl (by decide) ?_
        refine g_aload_n (z := 1) C (tdec DX8_look 20 rfl) rfl rfl rfl ?_
        refine g_iload_n (z := 0) C (tdec DX8_look 21 rfl) rfl rfl rfl ?_
        obtain ⟨r10, y11, hF⟩ := o_bind hF
        refine g_callViRS (q0 := 0) (S := [wM cB cI cJ cZ x_0 x_1 x_2 x_3 x_4 x_5 x_6 x_7 x_8 x_9 x_10 x_11 x_12 x_13 x_14 x_15 x_16 x_17 x_18 x_19 s4]) (S0 := [wM cB cI cJ cZ x_0 x_1 x_2 x_3 x_4 x_5 x_6 x_7 x_8 x_9 x_10 x_11 x_12 x_13 x_14 x_15 x_16 x_17 x_18 x_19 s4]) C (c_X8_freeMany l D cB cI cJ cZ x_0 x_1 x_2 x_3 x_4 x_5 x_6 x_7 x_8 x_9 x_10 x_11 x_12 x_13 x_14 x_15 x_16 x_17 x_18 x_19 y11) rfl rfl (gIV ml_X8_114 im_X8_freeMany sl_X8_freeMany in_X8 cd_X8_freeMany) rfl eX8_freeMany rfl ⟨rfl, rfl⟩ ⟨Nat.le_of_ble_eq_true rfl, Nat.le_of_ble_eq_true rfl⟩ rfl rfl rfl [0] rfl rfl rfl (Nat.le_of_ble_eq_true rfl) (tdec DX8_look 22 rfl) rfl ?_
        have hr9 := o_some hF
        subst hr9
        exact g_iret C rfl rfl (tdec DX8_look 23 rfl)
      · have hF := o_ifn hF h9
        by_cases h12 : p2 = 2
        · have hF := o_ifp hF h12
          refine g_switchIn (pt := 85) C (2) (tdec DX8_look 14 rfl) (h12.trans (by decide)) (by decide) (by decide) (by decide) rfl (by decide) ?_
          refine g_aload_n (z := 1) C (tdec DX8_look 24 rfl) rfl rfl rfl ?_
          refine g_getf (C' := RX8) (T := TX8) (N := 27) (v := .ref x_9) C 0 9 (gIn iw_X8) rfl rfl (by decide) (gMem fl_X8_36) rfl rfl (tdec DX8_look 25 rfl) rfl ?_
          refine g_iload_n (z := 0) C (tdec DX8_look 26 rfl) rfl rfl rfl ?_
          obtain ⟨r13, y14, hF⟩ := o_bind hF
          refine g_iald C 9 1 rfl rfl y14 (tdec DX8_look 27 rfl) rfl ?_
          have hr9 := o_some hF
          subst hr9
          exact g_iret C rfl rfl (tdec DX8_look 28 rfl)
        · have hF := o_ifn hF h12
          by_cases h15 : p2 = 3
          · have hF := o_ifp hF h15
            refine g_switchIn (pt := 92) C (3) (tdec DX8_look 14 rfl) (h15.trans (by decide)) (by decide) (by decide) (by decide) rfl (by decide) ?_
            refine g_aload_n (z := 1) C (tdec DX8_look 29 rfl) rfl rfl rfl ?_
            refine g_getf (C' := RX8) (T := TX8) (N := 27) (v := .ref x_10) C 0 10 (gIn iw_X8) rfl rfl (by decide) (gMem fl_X8_39) rfl rfl (tdec DX8_look 30 rfl) rfl ?_
            refine g_iload_n (z := 0) C (tdec DX8_look 31 rfl) rfl rfl rfl ?_
            obtain ⟨r16, y17, hF⟩ := o_bind hF
            refine g_iald C 10 1 rfl rfl y17 (tdec DX8_look 32 rfl) rfl ?_
            have hr9 := o_some hF
            subst hr9
            exact g_iret C rfl rfl (tdec DX8_look 33 rfl)
          · have hF := o_ifn hF h15
            by_cases h18 : p2 = 4
            · have hF := o_ifp hF h18
              refine g_switchIn (pt := 99) C (4) (tdec DX8_look 14 rfl) (h18.trans (by decide)) (by decide) (by decide) (by decide) rfl (by decide) ?_
              refine g_aload_n (z := 1) C (tdec DX8_look 34 rfl) rfl rfl rfl ?_
              refine g_getf (C' := RX8) (T := TX8) (N := 27) (v := .ref x_13) C 0 13 (gIn iw_X8) rfl rfl (by decide) (gMem fl_X8_48) rfl rfl (tdec DX8_look 35 rfl) rfl ?_
              refine g_iload_n (z := 0) C (tdec DX8_look 36 rfl) rfl rfl rfl ?_
              obtain ⟨r19, y20, hF⟩ := o_bind hF
              refine g_zald C 13 3 rfl rfl y20 (tdec DX8_look 37 rfl) rfl ?_
              refine g_if_eq (pt := 112) C (tdec DX8_look 38 rfl) (by decide) rfl (fun h21 => ?_) (fun h21 => ?_)
              · have hF := o_ifp hF h21
                refine g_iconst (v := 0) C (tdec DX8_look 41 rfl) (by decide) rfl ?_
                have hr9 := o_some hF
                subst hr9
                exact g_iret C rfl rfl (tdec DX8_look 42 rfl)
              · have hF := o_ifn hF h21
                refine g_iconst (v := 1) C (tdec DX8_look 39 rfl) (by decide) rfl ?_
                refine g_goto (pt := 113) C (tdec DX8_look 40 rfl) (by decide) ?_
                have hr9 := o_some hF
                subst hr9
                exact g_iret C rfl rfl (tdec DX8_look 42 rfl)
            · have hF := o_ifn hF h18
              by_cases h22 : p2 = 5
              · have hF := o_ifp hF h22
                refine g_switchIn (pt := 114) C (5) (tdec DX8_look 14 rfl) (h22.trans (by decide)) (by decide) (by decide) (by decide) rfl (by decide) ?_
                refine g_aload_n (z := 1) C (tdec DX8_look 43 rfl) rfl rfl rfl ?_
                refine g_getf (C' := RX8) (T := TX8) (N := 27) (v := .ref x_7) C 0 7 (gIn iw_X8) rfl rfl (by decide) (gMem fl_X8_30) rfl rfl (tdec DX8_look 44 rfl) rfl ?_
                refine g_bipush (v := 22) C (tdec DX8_look 45 rfl) (by decide) rfl ?_
                refine g_iload_n (z := 0) C (tdec DX8_look 46 rfl) rfl rfl rfl ?_
                refine g_imul C (tdec DX8_look 47 rfl) rfl ?_
                refine g_iconst (v := 0) C (tdec DX8_look 48 rfl) (by decide) rfl ?_
                refine g_iadd C (tdec DX8_look 49 rfl) rfl ?_
                obtain ⟨r23, y24, hF⟩ := o_bind hF
                refine g_iald C 7 1 rfl rfl y24 (tdec DX8_look 50 rfl) rfl ?_
                have hr9 := o_some hF
                subst hr9
                exact g_iret C rfl rfl (tdec DX8_look 51 rfl)
              · have hF := o_ifn hF h22
                by_cases h25 : p2 = 6
                · have hF := o_ifp hF h25
                  refine g_switchIn (pt := 126) C (6) (tdec DX8_look 14 rfl) (h25.trans (by decide)) (by decide) (by decide) (by decide) rfl (by decide) ?_
                  refine g_aload_n (z := 1) C (tdec DX8_look 52 rfl) rfl rfl rfl ?_
                  refine g_getf (C' := RX8) (T := TX8) (N := 27) (v := .ref x_8) C 0 8 (gIn iw_X8) rfl rfl (by decide) (gMem fl_X8_33) rfl rfl (tdec DX8_look 53 rfl) rfl ?_
                  refine g_bipush (v := 22) C (tdec DX8_look 54 rfl) (by decide) rfl ?_
                  refine g_iload_n (z := 0) C (tdec DX8_look 55 rfl) rfl rfl rfl ?_
                  refine g_imul C (tdec DX8_look 56 rfl) rfl ?_
                  refine g_iconst (v := 0) C (tdec DX8_look 57 rfl) (by decide) rfl ?_
                  refine g_iadd C (tdec DX8_look 58 rfl) rfl ?_
                  obtain ⟨r26, y27, hF⟩ := o_bind hF
                  refine g_iald C 8 1 rfl rfl y27 (tdec DX8_look 59 rfl) rfl ?_
                  have hr9 := o_some hF
                  subst hr9
                  exact g_iret C rfl rfl (tdec DX8_look 60 rfl)
                · have hF := o_ifn hF h25
                  by_cases h28 : p2 = 7
                  · have hF := o_ifp hF h28
                    refine g_switchIn (pt := 138) C (7) (tdec DX8_look 14 rfl) (h28.trans (by decide)) (by decide) (by decide) (by decide) rfl (by decide) ?_
                    refine g_aload_n (z := 1) C (tdec DX8_look 61 rfl) rfl rfl rfl ?_
                    refine g_getf (C' := RX8) (T := TX8) (N := 27) (v := .ref x_13) C 0 13 (gIn iw_X8) rfl rfl (by decide) (gMem fl_X8_48) rfl rfl (tdec DX8_look 62 rfl) rfl ?_
                    refine g_iload_n (z := 0) C (tdec DX8_look 63 rfl) rfl rfl rfl ?_
                    obtain ⟨r29, y30, hF⟩ := o_bind hF
                    refine g_zald C 13 3 rfl rfl y30 (tdec DX8_look 64 rfl) rfl ?_
                    refine g_if_eq (pt := 161) C (tdec DX8_look 65 rfl) (by decide) rfl (fun h31 => ?_) (fun h31 => ?_)
                    · have hF := o_ifp hF h31
                      refine g_iconst (v := (-1)) C (tdec DX8_look 75 rfl) (by decide) rfl ?_
                      have hr9 := o_some hF
                      subst hr9
                      exact g_iret C rfl rfl (tdec DX8_look 76 rfl)
                    · have hF := o_ifn hF h31
                      refine g_aload_n (z := 1) C (tdec DX8_look 66 rfl) rfl rfl rfl ?_
                      refine g_getf (C' := RX8) (T := TX8) (N := 27) (v := .ref x_7) C 0 7 (gIn iw_X8) rfl rfl (by decide) (gMem fl_X8_30) rfl rfl (tdec DX8_look 67 rfl) rfl ?_
                      refine g_bipush (v := 22) C (tdec DX8_look 68 rfl) (by decide) rfl ?_
                      refine g_iload_n (z := 0) C (tdec DX8_look 69 rfl) rfl rfl rfl ?_
                      refine g_imul C (tdec DX8_look 70 rfl) rfl ?_
                      refine g_iconst (v := 1) C (tdec DX8_look 71 rfl) (by decide) rfl ?_
                      refine g_iadd C (tdec DX8_look 72 rfl) rfl ?_
                      obtain ⟨r32, y33, hF⟩ := o_bind hF
                      refine g_iald C 7 1 rfl rfl y33 (tdec DX8_look 73 rfl) rfl ?_
                      refine g_goto (pt := 162) C (tdec DX8_look 74 rfl) (by decide) ?_
                      have hr9 := o_some hF
                      subst hr9
                      exact g_iret C rfl rfl (tdec DX8_look 76 rfl)
                  · have hF := o_ifn hF h28
                    by_cases h34 : p2 = 8
                    · have hF := o_ifp hF h34
                      refine g_switchIn (pt := 163) C (8) (tdec DX8_look 14 rfl) (h34.trans (by decide)) (by decide) (by decide) (by decide) rfl (by decide) ?_
                      refine g_aload_n (z := 1) C (tdec DX8_look 77 rfl) rfl rfl rfl ?_
                      refine g_getf (C' := RX8) (T := TX8) (N := 27) (v := .ref x_15) C 0 15 (gIn iw_X8) rfl rfl (by decide) (gMem fl_X8_54) rfl rfl (tdec DX8_look 78 rfl) rfl ?_
                      refine g_iload_n (z := 0) C (tdec DX8_look 79 rfl) rfl rfl rfl ?_
                      obtain ⟨r35, y36, hF⟩ := o_bind hF
                      refine g_iald C 15 1 rfl rfl y36 (tdec DX8_look 80 rfl) rfl ?_
                      have hr9 := o_some hF
                      subst hr9
                      exact g_iret C rfl rfl (tdec DX8_look 81 rfl)
                    · have hF := o_ifn hF h34
                      refine g_switchOut (pt := 170) C (tdec DX8_look 14 rfl) (sw_out9 0 (fun z => h6 (z.trans (by decide))) (fun z => h9 (z.trans (by decide))) (fun z => h12 (z.trans (by decide))) (fun z => h15 (z.trans (by decide))) (fun z => h18 (z.trans (by decide))) (fun z => h22 (z.trans (by decide))) (fun z => h25 (z.trans (by decide))) (fun z => h28 (z.trans (by decide))) (fun z => h34 (z.trans (by decide)))) (by decide) ?_
                      refine g_iconst (v := (-1)) C (tdec DX8_look 82 rfl) (by decide) rfl ?_
                      have hr9 := o_some hF
                      subst hr9
                      exact g_iret C rfl rfl (tdec DX8_look 83 rfl)
  · have hF := o_ifp hF h3
    refine g_iconst (v := (-1)) C (tdec DX8_look 6 rfl) (by decide) rfl ?_
    have hr9 := o_some hF
    subst hr9
    exact g_iret C rfl rfl (tdec DX8_look 7 rfl)
def FX8_sent (x0 : MS) (p1 : Int32) : Option (Int32 × MS) :=
  if p1 = 0 then
    some ((MS_wr x0), (MS_setthr x0 0))
  else
    if p1 = 1 then
      some ((MS_cl x0), (MS_setthr x0 0))
    else
      if p1 = 2 then
        some ((MS_sn x0), (MS_setthr x0 0))
      else
        if p1 = 3 then
          some ((MS_len x0), (MS_setthr x0 0))
        else
          if p1 = 4 then
            some ((((MS_nm x0) : Int64).toInt32), (MS_setthr x0 0))
          else
            some ((-1), (MS_setthr x0 0))
def rX8_sent : Room := { frames := 0, cells := 0, slots := 0, locals := 0 }
set_option maxHeartbeats 4000000 in
set_option maxRecDepth 100000 in
theorem c_X8_sent (l : Launch) (D : va_G) (cB cI cJ cZ : ClassId) (x_0 x_1 x_2 x_3 x_4 x_5 x_6 x_7 x_8 x_9 x_10 x_11 x_12 x_13 x_14 x_15 x_16 x_17 x_18 x_19 : Nat) {x0 : MS} {p1 : Int32} {res : Int32 × MS} (hF : FX8_sent x0 p1 = some res) : gMi l yX8_sent wsX8_sent rX8_sent D (gT cB cI cJ cZ) [.ref x_0, .int p1] (wM cB cI cJ cZ x_0 x_1 x_2 x_3 x_4 x_5 x_6 x_7 x_8 x_9 x_10 x_11 x_12 x_13 x_14 x_15 x_16 x_17 x_18 x_19 x0) res.1 (wM cB cI cJ cZ x_0 x_1 x_2 x_3 x_4 x_5 x_6 x_7 x_8 x_9 x_10 x_11 x_12 x_13 x_14 x_15 x_16 x_17 x_18 x_19 res.2) := by
  refine g_enter (own := RX8) (free := (fun sz => va_A (wM cB cI cJ cZ x_0 x_1 x_2 x_3 x_4 x_5 x_6 x_7 x_8 x_9 x_10 x_11 x_12 x_13 x_14 x_15 x_16 x_17 x_18 x_19 x0) sz)) (Qc := (fun sz => gQi D (wM cB cI cJ cZ x_0 x_1 x_2 x_3 x_4 x_5 x_6 x_7 x_8 x_9 x_10 x_11 x_12 x_13 x_14 x_15 x_16 x_17 x_18 x_19 x0) sz res.1 (wM cB cI cJ cZ x_0 x_1 x_2 x_3 x_4 x_5 x_6 x_7 x_8 x_9 x_10 x_11 x_12 x_13 x_14 x_15 x_16 x_17 x_18 x_19 res.2))) (fun sz => va_A (wM cB cI cJ cZ x_0 x_1 x_2 x_3 x_4 x_5 x_6 x_7 x_8 x_9 x_10 x_11 x_12 x_13 x_14 x_15 x_16 x_17 x_18 x_19 x0) sz) (fun sz => Or.inr rfl) rfl (by decide) rfl (Nat.le_of_ble_eq_true rfl) rfl ?_
  intro p e s m args below meth c C
  unfold FX8_sent at hF
  refine g_aload_n (z := 0) C (tdec DX8_sent 0 rfl) rfl rfl rfl ?_
  refine g_iconst (v := 0) C (tdec DX8_sent 1 rfl) (by decide) rfl ?_
  refine g_putf (C' := RX8) (T := TX8) (N := 27) (v := .int 0) (ws' := wM cB cI cJ cZ x_0 x_1 x_2 x_3 x_4 x_5 x_6 x_7 x_8 x_9 x_10 x_11 x_12 x_13 x_14 x_15 x_16 x_17 x_18 x_19 (MS_setthr x0 0)) C 0 0 tyX8 tyX8_ok nmX8 (gIn iw_X8) rfl rfl (by decide) (gMem fl_X8_78) rfl rfl (tyX8_ok 0 (by decide)) rfl rfl (Nat.le_of_ble_eq_true rfl) rfl (tdec DX8_sent 2 rfl) rfl ?_
  refine g_iload_n (z := 1) C (tdec DX8_sent 3 rfl) rfl rfl rfl ?_
  by_cases h1 : p1 = 0
  · have hF := o_ifp hF h1
    refine g_switchIn (pt := 40) C (0) (tdec DX8_sent 4 rfl) (h1.trans (by decide)) (by decide) (by decide) (by decide) rfl (by decide) ?_
    refine g_aload_n (z := 0) C (tdec DX8_sent 5 rfl) rfl rfl rfl ?_
    refine g_getf (C' := RX8) (T := TX8) (N := 27) (v := .int (MS_wr x0)) C 0 21 (gIn iw_X8) rfl rfl (by decide) (gMem fl_X8_178) rfl rfl (tdec DX8_sent 6 rfl) rfl ?_
    have hr9 := o_some hF
    subst hr9
    exact g_iret C rfl rfl (tdec DX8_sent 7 rfl)
  · have hF := o_ifn hF h1
    by_cases h2 : p1 = 1
    · have hF := o_ifp hF h2
      refine g_switchIn (pt := 45) C (1) (tdec DX8_sent 4 rfl) (h2.trans (by decide)) (by decide) (by decide) (by decide) rfl (by decide) ?_
      refine g_aload_n (z := 0) C (tdec DX8_sent 8 rfl) rfl rfl rfl ?_
      refine g_getf (C' := RX8) (T := TX8) (N := 27) (v := .int (MS_cl x0)) C 0 22 (gIn iw_X8) rfl rfl (by decide) (gMem fl_X8_171) rfl rfl (tdec DX8_sent 9 rfl) rfl ?_
      have hr9 := o_some hF
      subst hr9
      exact g_iret C rfl rfl (tdec DX8_sent 10 rfl)
    · have hF := o_ifn hF h2
      by_cases h3 : p1 = 2
      · have hF := o_ifp hF h3
        refine g_switchIn (pt := 50) C (2) (tdec DX8_sent 4 rfl) (h3.trans (by decide)) (by decide) (by decide) (by decide) rfl (by decide) ?_
        refine g_aload_n (z := 0) C (tdec DX8_sent 11 rfl) rfl rfl rfl ?_
        refine g_getf (C' := RX8) (T := TX8) (N := 27) (v := .int (MS_sn x0)) C 0 23 (gIn iw_X8) rfl rfl (by decide) (gMem fl_X8_173) rfl rfl (tdec DX8_sent 12 rfl) rfl ?_
        have hr9 := o_some hF
        subst hr9
        exact g_iret C rfl rfl (tdec DX8_sent 13 rfl)
      · have hF := o_ifn hF h3
        by_cases h4 : p1 = 3
        · have hF := o_ifp hF h4
          refine g_switchIn (pt := 55) C (3) (tdec DX8_sent 4 rfl) (h4.trans (by decide)) (by decide) (by decide) (by decide) rfl (by decide) ?_
          refine g_aload_n (z := 0) C (tdec DX8_sent 14 rfl) rfl rfl rfl ?_
          refine g_getf (C' := RX8) (T := TX8) (N := 27) (v := .int (MS_len x0)) C 0 19 (gIn iw_X8) rfl rfl (by decide) (gMem fl_X8_147) rfl rfl (tdec DX8_sent 15 rfl) rfl ?_
          have hr9 := o_some hF
          subst hr9
          exact g_iret C rfl rfl (tdec DX8_sent 16 rfl)
        · have hF := o_ifn hF h4
          by_cases h5 : p1 = 4
          · have hF := o_ifp hF h5
            refine g_switchIn (pt := 60) C (4) (tdec DX8_sent 4 rfl) (h5.trans (by decide)) (by decide) (by decide) (by decide) rfl (by decide) ?_
            refine g_aload_n (z := 0) C (tdec DX8_sent 17 rfl) rfl rfl rfl ?_
            refine g_getf (C' := RX8) (T := TX8) (N := 27) (v := .long (MS_nm x0)) C 0 17 (gIn iw_X8) rfl rfl (by decide) (gMem fl_X8_60) rfl rfl (tdec DX8_sent 18 rfl) rfl ?_
            refine g_l2i C (tdec DX8_sent 19 rfl) rfl ?_
            have hr9 := o_some hF
            subst hr9
            exact g_iret C rfl rfl (tdec DX8_sent 20 rfl)
          · have hF := o_ifn hF h5
            refine g_switchOut (pt := 66) C (tdec DX8_sent 4 rfl) (sw_out5 0 (fun z => h1 (z.trans (by decide))) (fun z => h2 (z.trans (by decide))) (fun z => h3 (z.trans (by decide))) (fun z => h4 (z.trans (by decide))) (fun z => h5 (z.trans (by decide)))) (by decide) ?_
            refine g_iconst (v := (-1)) C (tdec DX8_sent 21 rfl) (by decide) rfl ?_
            have hr9 := o_some hF
            subst hr9
            exact g_iret C rfl rfl (tdec DX8_sent 22 rfl)
