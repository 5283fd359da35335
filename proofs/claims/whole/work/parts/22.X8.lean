/-! PART 22.X8: walks, printed by wip/whole/walk.py -/
def FX8_rollback (x0 : MS) (p1 : Int32) : Option (Int32 × MS) :=
  (FX8_isVolume p1).bind fun r1 =>
  if r1 = 0 then
    if 1 ≤ 0 then
      (ald 2 (MS_snaps x0) p1).bind fun r50 =>
      (ald 44 (MS_tt x0) (((22 * p1) + 2) + (r50 - 1))).bind fun r52 =>
      (ast 44 (MS_tt x0) ((22 * p1) + 0) r52).bind fun g54 =>
      (ald 44 (MS_tb x0) (((22 * p1) + 2) + (r50 - 1))).bind fun r56 =>
      (ast 44 (MS_tb x0) ((22 * p1) + 0) r56).bind fun g58 =>
      (FX8_sweeps (MS_settb (MS_settt (MS_setthr x0 1) g54) g58) p1).bind fun s60 =>
      some ((r50 - 1), s60)
    else
      some (0, (MS_setthr x0 1))
  else
    (ald 2 (MS_busy x0) p1).bind fun r4 =>
    if r4 = 0 then
      (ald 2 (MS_snaps x0) p1).bind fun r7 =>
      if r7 = 0 then
        if 3 ≤ 0 then
          (ald 2 (MS_snaps x0) p1).bind fun r24 =>
          (ald 44 (MS_tt x0) (((22 * p1) + 2) + (r24 - 1))).bind fun r26 =>
          (ast 44 (MS_tt x0) ((22 * p1) + 0) r26).bind fun g28 =>
          (ald 44 (MS_tb x0) (((22 * p1) + 2) + (r24 - 1))).bind fun r30 =>
          (ast 44 (MS_tb x0) ((22 * p1) + 0) r30).bind fun g32 =>
          (FX8_sweeps (MS_settb (MS_settt (MS_setthr x0 3) g28) g32) p1).bind fun s34 =>
          some ((r24 - 1), s34)
        else
          some (0, (MS_setthr x0 3))
      else
        if 0 ≤ 0 then
          (ald 2 (MS_snaps x0) p1).bind fun r11 =>
          (ald 44 (MS_tt x0) (((22 * p1) + 2) + (r11 - 1))).bind fun r13 =>
          (ast 44 (MS_tt x0) ((22 * p1) + 0) r13).bind fun g15 =>
          (ald 44 (MS_tb x0) (((22 * p1) + 2) + (r11 - 1))).bind fun r17 =>
          (ast 44 (MS_tb x0) ((22 * p1) + 0) r17).bind fun g19 =>
          (FX8_sweeps (MS_settb (MS_settt (MS_setthr x0 0) g15) g19) p1).bind fun s21 =>
          some ((r11 - 1), s21)
        else
          some (0, (MS_setthr x0 0))
    else
      if 2 ≤ 0 then
        (ald 2 (MS_snaps x0) p1).bind fun r37 =>
        (ald 44 (MS_tt x0) (((22 * p1) + 2) + (r37 - 1))).bind fun r39 =>
        (ast 44 (MS_tt x0) ((22 * p1) + 0) r39).bind fun g41 =>
        (ald 44 (MS_tb x0) (((22 * p1) + 2) + (r37 - 1))).bind fun r43 =>
        (ast 44 (MS_tb x0) ((22 * p1) + 0) r43).bind fun g45 =>
        (FX8_sweeps (MS_settb (MS_settt (MS_setthr x0 2) g41) g45) p1).bind fun s47 =>
        some ((r37 - 1), s47)
      else
        some (0, (MS_setthr x0 2))
def rX8_rollback : Room := { frames := 2, cells := 0, slots := 0, locals := 46 }
set_option maxHeartbeats 4000000 in
set_option maxRecDepth 100000 in
theorem c_X8_rollback (l : Launch) (D : va_G) (cB cI cJ cZ : ClassId) (x_0 x_1 x_2 x_3 x_4 x_5 x_6 x_7 x_8 x_9 x_10 x_11 x_12 x_13 x_14 x_15 x_16 x_17 x_18 x_19 : Nat) {x0 : MS} {p1 : Int32} {res : Int32 × MS} (hF : FX8_rollback x0 p1 = some res) : gMi l yX8_rollback wsX8_rollback rX8_rollback D (gT cB cI cJ cZ) [.ref x_0, .int p1] (wM cB cI cJ cZ x_0 x_1 x_2 x_3 x_4 x_5 x_6 x_7 x_8 x_9 x_10 x_11 x_12 x_13 x_14 x_15 x_16 x_17 x_18 x_19 x0) res.1 (wM cB cI cJ cZ x_0 x_1 x_2 x_3 x_4 x_5 x_6 x_7 x_8 x_9 x_10 x_11 x_12 x_13 x_14 x_15 x_16 x_17 x_18 x_19 res.2) := by
  refine g_enter (own := RX8) (free := (fun sz => va_A (wM cB cI cJ cZ x_0 x_1 x_2 x_3 x_4 x_5 x_6 x_7 x_8 x_9 x_10 x_11 x_12 x_13 x_14 x_15 x_16 x_17 x_18 x_19 x0) sz)) (Qc := (fun sz => gQi D (wM cB cI cJ cZ x_0 x_1 x_2 x_3 x_4 x_5 x_6 x_7 x_8 x_9 x_10 x_11 x_12 x_13 x_14 x_15 x_16 x_17 x_18 x_19 x0) sz res.1 (wM cB cI cJ cZ x_0 x_1 x_2 x_3 x_4 x_5 x_6 x_7 x_8 x_9 x_10 x_11 x_12 x_13 x_14 x_15 x_16 x_17 x_18 x_19 res.2))) (fun sz => va_A (wM cB cI cJ cZ x_0 x_1 x_2 x_3 x_4 x_5 x_6 x_7 x_8 x_9 x_10 x_11 x_12 x_13 x_14 x_15 x_16 x_17 x_18 x_19 x0) sz) (fun sz => Or.inr rfl) rfl (by decide) rfl (Nat.le_of_ble_eq_true rfl) rfl ?_
  intro p e s m args below meth c C
  unfold FX8_rollback at hF
  refine g_aload_n (z := 0) C (tdec DX8_rollback 0 rfl) rfl rfl rfl ?_
  refine g_iload_n (z := 1) C (tdec DX8_rollback 1 rfl) rfl rfl rfl ?_
  obtain ⟨r1, y2, hF⟩ := o_bind hF
  refine g_callSiR C (c_X8_isVolume l D cB cI cJ cZ y2) (gIS ml_X8_82 st_X8_isVolume in_X8 cd_X8_isVolume) eX8_isVolume rfl ⟨rfl, rfl⟩ ⟨Nat.le_of_ble_eq_true rfl, Nat.le_of_ble_eq_true rfl⟩ rfl [] rfl rfl rfl (Nat.le_of_ble_eq_true rfl) (tdec DX8_rollback 2 rfl) rfl ?_
  refine g_if_ne (pt := 12) C (tdec DX8_rollback 3 rfl) (by decide) rfl (fun h3 => ?_) (fun h3 => ?_)
  · have hF := o_ifn hF h3
    refine g_aload_n (z := 0) C (tdec DX8_rollback 6 rfl) rfl rfl rfl ?_
    refine g_getf (C' := RX8) (T := TX8) (N := 27) (v := .ref x_13) C 0 13 (gIn iw_X8) rfl rfl (by decide) (gMem fl_X8_48) rfl rfl (tdec DX8_rollback 7 rfl) rfl ?_
    refine g_iload_n (z := 1) C (tdec DX8_rollback 8 rfl) rfl rfl rfl ?_
    obtain ⟨r4, y5, hF⟩ := o_bind hF
    refine g_zald C 13 3 rfl rfl y5 (tdec DX8_rollback 9 rfl) rfl ?_
    refine g_if_eq (pt := 25) C (tdec DX8_rollback 10 rfl) (by decide) rfl (fun h6 => ?_) (fun h6 => ?_)
    · have hF := o_ifp hF h6
      refine g_aload_n (z := 0) C (tdec DX8_rollback 13 rfl) rfl rfl rfl ?_
      refine g_getf (C' := RX8) (T := TX8) (N := 27) (v := .ref x_10) C 0 10 (gIn iw_X8) rfl rfl (by decide) (gMem fl_X8_39) rfl rfl (tdec DX8_rollback 14 rfl) rfl ?_
      refine g_iload_n (z := 1) C (tdec DX8_rollback 15 rfl) rfl rfl rfl ?_
      obtain ⟨r7, y8, hF⟩ := o_bind hF
      refine g_iald C 10 1 rfl rfl y8 (tdec DX8_rollback 16 rfl) rfl ?_
      refine g_if_ne (pt := 38) C (tdec DX8_rollback 17 rfl) (by decide) rfl (fun h9 => ?_) (fun h9 => ?_)
      · have hF := o_ifn hF h9
        refine g_iconst (v := 0) C (tdec DX8_rollback 20 rfl) (by decide) rfl ?_
        refine g_putf (C' := RX8) (T := TX8) (N := 27) (v := .int 0) (ws' := wM cB cI cJ cZ x_0 x_1 x_2 x_3 x_4 x_5 x_6 x_7 x_8 x_9 x_10 x_11 x_12 x_13 x_14 x_15 x_16 x_17 x_18 x_19 (MS_setthr x0 0)) C 0 0 tyX8 tyX8_ok nmX8 (gIn iw_X8) rfl rfl (by decide) (gMem fl_X8_78) rfl rfl (tyX8_ok 0 (by decide)) rfl rfl (Nat.le_of_ble_eq_true rfl) rfl (tdec DX8_rollback 21 rfl) rfl ?_
        refine g_aload_n (z := 0) C (tdec DX8_rollback 22 rfl) rfl rfl rfl ?_
        refine g_getf (C' := RX8) (T := TX8) (N := 27) (v := .int 0) C 0 0 (gIn iw_X8) rfl rfl (by decide) (gMem fl_X8_78) rfl rfl (tdec DX8_rollback 23 rfl) rfl ?_
        refine g_if_le (pt := 51) C (tdec DX8_rollback 24 rfl) (by decide) rfl (fun h10 => ?_) (fun h10 => ?_)
        · have hF := o_ifp hF h10
          refine g_aload_n (z := 0) C (tdec DX8_rollback 27 rfl) rfl rfl rfl ?_
          refine g_getf (C' := RX8) (T := TX8) (N := 27) (v := .ref x_10) C 0 10 (gIn iw_X8) rfl rfl (by decide) (gMem fl_X8_39) rfl rfl (tdec DX8_rollback 28 rfl) rfl ?_
          refine g_iload_n (z := 1) C (tdec DX8_rollback 29 rfl) rfl rfl rfl ?_
          obtain ⟨r11, y12, hF⟩ := o_bind hF
          refine g_iald C 10 1 rfl rfl y12 (tdec DX8_rollback 30 rfl) rfl ?_
          refine g_iconst (v := 1) C (tdec DX8_rollback 31 rfl) (by decide) rfl ?_
          refine g_isub C (tdec DX8_rollback 32 rfl) rfl ?_
          refine g_istore_n (L' := [(2, .int (r11 - 1)), (0, .ref x_0), (1, .int p1)]) C (tdec DX8_rollback 33 rfl) rfl (by decide) rfl rfl ?_
          refine g_aload_n (z := 1) C (tdec DX8_rollback 34 rfl) rfl rfl rfl ?_
          refine g_getf (C' := RX8) (T := TX8) (N := 27) (v := .ref x_7) C 0 7 (gIn iw_X8) rfl rfl (by decide) (gMem fl_X8_30) rfl rfl (tdec DX8_rollback 35 rfl) rfl ?_
          refine g_bipush (v := 22) C (tdec DX8_rollback 36 rfl) (by decide) rfl ?_
          refine g_iload_n (z := 2) C (tdec DX8_rollback 37 rfl) rfl rfl rfl ?_
          refine g_imul C (tdec DX8_rollback 38 rfl) rfl ?_
          refine g_iconst (v := 0) C (tdec DX8_rollback 39 rfl) (by decide) rfl ?_
          refine g_iadd C (tdec DX8_rollback 40 rfl) rfl ?_
          refine g_aload_n (z := 1) C (tdec DX8_rollback 41 rfl) rfl rfl rfl ?_
          refine g_getf (C' := RX8) (T := TX8) (N := 27) (v := .ref x_7) C 0 7 (gIn iw_X8) rfl rfl (by decide) (gMem fl_X8_30) rfl rfl (tdec DX8_rollback 42 rfl) rfl ?_
          refine g_bipush (v := 22) C (tdec DX8_rollback 43 rfl) (by decide) rfl ?_
          refine g_iload_n (z := 2) C (tdec DX8_rollback 44 rfl) rfl rfl rfl ?_
          refine g_imul C (tdec DX8_rollback 45 rfl) rfl ?_
          refine g_iconst (v := 2) C (tdec DX8_rollback 46 rfl) (by decide) rfl ?_
          refine g_iadd C (tdec DX8_rollback 47 rfl) rfl ?_
          refine g_iload_n (z := 0) C (tdec DX8_rollback 48 rfl) rfl rfl rfl ?_
          refine g_iadd C (tdec DX8_rollback 49 rfl) rfl ?_
          obtain ⟨r13, y14, hF⟩ := o_bind hF
          refine g_iald C 7 1 rfl rfl y14 (tdec DX8_rollback 50 rfl) rfl ?_
          obtain ⟨g15, y16, hF⟩ := o_bind hF
          refine g_iast (ws' := wM cB cI cJ cZ x_0 x_1 x_2 x_3 x_4 x_5 x_6 x_7 x_8 x_9 x_10 x_11 x_12 x_13 x_14 x_15 x_16 x_17 x_18 x_19 (MS_settt (MS_setthr x0 0) g15)) C 7 1 rfl rfl y16 rfl (tdec DX8_rollback 51 rfl) rfl ?_
          refine g_aload_n (z := 1) C (tdec DX8_rollback 52 rfl) rfl rfl rfl ?_
          refine g_getf (C' := RX8) (T := TX8) (N := 27) (v := .ref x_8) C 0 8 (gIn iw_X8) rfl rfl (by decide) (gMem fl_X8_33) rfl rfl (tdec DX8_rollback 53 rfl) rfl ?_
          refine g_bipush (v := 22) C (tdec DX8_rollback 54 rfl) (by decide) rfl ?_
          refine g_iload_n (z := 2) C (tdec DX8_rollback 55 rfl) rfl rfl rfl ?_
          refine g_imul C (tdec DX8_rollback 56 rfl) rfl ?_
          refine g_iconst (v := 0) C (tdec DX8_rollback 57 rfl) (by decide) rfl ?_
          refine g_iadd C (tdec DX8_rollback 58 rfl) rfl ?_
          refine g_aload_n (z := 1) C (tdec DX8_rollback 59 rfl) rfl rfl rfl ?_
          refine g_getf (C' := RX8) (T := TX8) (N := 27) (v := .ref x_8) C 0 8 (gIn iw_X8) rfl rfl (by decide) (gMem fl_X8_33) rfl rfl (tdec DX8_rollback 60 rfl) rfl ?_
          refine g_bipush (v := 22) C (tdec DX8_rollback 61 rfl) (by decide) rfl ?_
          refine g_iload_n (z := 2) C (tdec DX8_rollback 62 rfl) rfl rfl rfl ?_
          refine g_imul C (tdec DX8_rollback 63 rfl) rfl ?_
          refine g_iconst (v := 2) C (tdec DX8_rollback 64 rfl) (by decide) rfl ?_
          refine g_iadd C (tdec DX8_rollback 65 rfl) rfl ?_
          refine g_iload_n (z := 0) C (tdec DX8_rollback 66 rfl) rfl rfl rfl ?_
          refine g_iadd C (tdec DX8_rollback 67 rfl) rfl ?_
          obtain ⟨r17, y18, hF⟩ := o_bind hF
          refine g_iald C 8 1 rfl rfl y18 (tdec DX8_rollback 68 rfl) rfl ?_
          obtain ⟨g19, y20, hF⟩ := o_bind hF
          refine g_iast (ws' := wM cB cI cJ cZ x_0 x_1 x_2 x_3 x_4 x_5 x_6 x_7 x_8 x_9 x_10 x_11 x_12 x_13 x_14 x_15 x_16 x_17 x_18 x_19 (MS_settb (MS_settt (MS_setthr x0 0) g15) g19)) C 8 1 rfl rfl y20 rfl (tdec DX8_rollback 69 rfl) rfl ?_
          refine g_aload_n (z := 1) C (tdec DX8_rollback 70 rfl) rfl rfl rfl ?_
          refine g_iload_n (z := 2) C (tdec DX8_rollback 71 rfl) rfl rfl rfl ?_
          obtain ⟨s21, y22, hF⟩ := o_bind hF
          refine g_callVvMS (q0 := 0) (W' := wM cB cI cJ cZ x_0 x_1 x_2 x_3 x_4 x_5 x_6 x_7 x_8 x_9 x_10 x_11 x_12 x_13 x_14 x_15 x_16 x_17 x_18 x_19 s21) (S := [wM cB cI cJ cZ x_0 x_1 x_2 x_3 x_4 x_5 x_6 x_7 x_8 x_9 x_10 x_11 x_12 x_13 x_14 x_15 x_16 x_17 x_18 x_19 (MS_settb (MS_settt (MS_setthr x0 0) g15) g19)]) (S0 := [wM cB cI cJ cZ x_0 x_1 x_2 x_3 x_4 x_5 x_6 x_7 x_8 x_9 x_10 x_11 x_12 x_13 x_14 x_15 x_16 x_17 x_18 x_19 (MS_settb (MS_settt (MS_setthr x0 0) g15) g19)]) (S1 := [wM cB cI cJ cZ x_0 x_1 x_2 x_3 x_4 x_5 x_6 x_7 x_8 x_9 x_10 x_11 x_12 x_13 x_14 x_15 x_16 x_17 x_18 x_19 s21]) (S' := [wM cB cI cJ cZ x_0 x_1 x_2 x_3 x_4 x_5 x_6 x_7 x_8 x_9 x_10 x_11 x_12 x_13 x_14 x_15 x_16 x_17 x_18 x_19 s21]) C (c_X8_sweeps l D cB cI cJ cZ x_0 x_1 x_2 x_3 x_4 x_5 x_6 x_7 x_8 x_9 x_10 x_11 x_12 x_13 x_14 x_15 x_16 x_17 x_18 x_19 y22) rfl rfl (gIV ml_X8_135 im_X8_sweeps sl_X8_sweeps in_X8 cd_X8_sweeps) rfl eX8_sweeps rfl ⟨rfl, rfl⟩ ⟨Nat.le_of_ble_eq_true rfl, Nat.le_of_ble_eq_true rfl⟩ rfl rfl rfl [0] rfl rfl rfl rfl (gA_cons aM gA_nil) rfl rfl (Nat.le_of_ble_eq_true rfl) (tdec DX8_rollback 72 rfl) rfl ?_
          refine g_iload_n (z := 0) C (tdec DX8_rollback 73 rfl) rfl rfl rfl ?_
          have hr9 := o_some hF
          subst hr9
          exact g_iret C rfl rfl (tdec DX8_rollback 74 rfl)
        · have hF := o_ifn hF h10
          refine g_iconst (v := 0) C (tdec DX8_rollback 25 rfl) (by decide) rfl ?_
          have hr9 := o_some hF
          subst hr9
          exact g_iret C rfl rfl (tdec DX8_rollback 26 rfl)
      · have hF := o_ifp hF h9
        refine g_iconst (v := 3) C (tdec DX8_rollback 18 rfl) (by decide) rfl ?_
        refine g_goto (pt := 39) C (tdec DX8_rollback 19 rfl) (by decide) ?_
        refine g_putf (C' := RX8) (T := TX8) (N := 27) (v := .int 3) (ws' := wM cB cI cJ cZ x_0 x_1 x_2 x_3 x_4 x_5 x_6 x_7 x_8 x_9 x_10 x_11 x_12 x_13 x_14 x_15 x_16 x_17 x_18 x_19 (MS_setthr x0 3)) C 0 0 tyX8 tyX8_ok nmX8 (gIn iw_X8) rfl rfl (by decide) (gMem fl_X8_78) rfl rfl (tyX8_ok 0 (by decide)) rfl rfl (Nat.le_of_ble_eq_true rfl) rfl (tdec DX8_rollback 21 rfl) rfl ?_
        refine g_aload_n (z := 0) C (tdec DX8_rollback 22 rfl) rfl rfl rfl ?_
        refine g_getf (C' := RX8) (T := TX8) (N := 27) (v := .int 3) C 0 0 (gIn iw_X8) rfl rfl (by decide) (gMem fl_X8_78) rfl rfl (tdec DX8_rollback 23 rfl) rfl ?_
        refine g_if_le (pt := 51) C (tdec DX8_rollback 24 rfl) (by decide) rfl (fun h23 => ?_) (fun h23 => ?_)
        · have hF := o_ifp hF h23
          refine g_aload_n (z := 0) C (tdec DX8_rollback 27 rfl) rfl rfl rfl ?_
          refine g_getf (C' := RX8) (T := TX8) (N := 27) (v := .ref x_10) C 0 10 (gIn iw_X8) rfl rfl (by decide) (gMem fl_X8_39) rfl rfl (tdec DX8_rollback 28 rfl) rfl ?_
          refine g_iload_n (z := 1) C (tdec DX8_rollback 29 rfl) rfl rfl rfl ?_
          obtain ⟨r24, y25, hF⟩ := o_bind hF
          refine g_iald C 10 1 rfl rfl y25 (tdec DX8_rollback 30 rfl) rfl ?_
          refine g_iconst (v := 1) C (tdec DX8_rollback 31 rfl) (by decide) rfl ?_
          refine g_isub C (tdec DX8_rollback 32 rfl) rfl ?_
          refine g_istore_n (L' := [(2, .int (r24 - 1)), (0, .ref x_0), (1, .int p1)]) C (tdec DX8_rollback 33 rfl) rfl (by decide) rfl rfl ?_
          refine g_aload_n (z := 1) C (tdec DX8_rollback 34 rfl) rfl rfl rfl ?_
          refine g_getf (C' := RX8) (T := TX8) (N := 27) (v := .ref x_7) C 0 7 (gIn iw_X8) rfl rfl (by decide) (gMem fl_X8_30) rfl rfl (tdec DX8_rollback 35 rfl) rfl ?_
          refine g_bipush (v := 22) C (tdec DX8_rollback 36 rfl) (by decide) rfl ?_
          refine g_iload_n (z := 2) C (tdec DX8_rollback 37 rfl) rfl rfl rfl ?_
          refine g_imul C (tdec DX8_rollback 38 rfl) rfl ?_
          refine g_iconst (v := 0) C (tdec DX8_rollback 39 rfl) (by decide) rfl ?_
          refine g_iadd C (tdec DX8_rollback 40 rfl) rfl ?_
          refine g_aload_n (z := 1) C (tdec DX8_rollback 41 rfl) rfl rfl rfl ?_
          refine g_getf (C' := RX8) (T := TX8) (N := 27) (v := .ref x_7) C 0 7 (gIn iw_X8) rfl rfl (by decide) (gMem fl_X8_30) rfl rfl (tdec DX8_rollback 42 rfl) rfl ?_
          refine g_bipush (v := 22) C (tdec DX8_rollback 43 rfl) (by decide) rfl ?_
          refine g_iload_n (z := 2) C (tdec DX8_rollback 44 rfl) rfl rfl rfl ?_
          refine g_imul C (tdec DX8_rollback 45 rfl) rfl ?_
          refine g_iconst (v := 2) C (tdec DX8_rollback 46 rfl) (by decide) rfl ?_
          refine g_iadd C (tdec DX8_rollback 47 rfl) rfl ?_
          refine g_iload_n (z := 0) C (tdec DX8_rollback 48 rfl) rfl rfl rfl ?_
          refine g_iadd C (tdec DX8_rollback 49 rfl) rfl ?_
          obtain ⟨r26, y27, hF⟩ := o_bind hF
          refine g_iald C 7 1 rfl rfl y27 (tdec DX8_rollback 50 rfl) rfl ?_
          obtain ⟨g28, y29, hF⟩ := o_bind hF
          refine g_iast (ws' := wM cB cI cJ cZ x_0 x_1 x_2 x_3 x_4 x_5 x_6 x_7 x_8 x_9 x_10 x_11 x_12 x_13 x_14 x_15 x_16 x_17 x_18 x_19 (MS_settt (MS_setthr x0 3) g28)) C 7 1 rfl rfl y29 rfl (tdec DX8_rollback 51 rfl) rfl ?_
          refine g_aload_n (z := 1) C (tdec DX8_rollback 52 rfl) rfl rfl rfl ?_
          refine g_getf (C' := RX8) (T := TX8) (N := 27) (v := .ref x_8) C 0 8 (gIn iw_X8) rfl rfl (by decide) (gMem fl_X8_33) rfl rfl (tdec DX8_rollback 53 rfl) rfl ?_
          refine g_bipush (v := 22) C (tdec DX8_rollback 54 rfl) (by decide) rfl ?_
          refine g_iload_n (z := 2) C (tdec DX8_rollback 55 rfl) rfl rfl rfl ?_
          refine g_imul C (tdec DX8_rollback 56 rfl) rfl ?_
          refine g_iconst (v := 0) C (tdec DX8_rollback 57 rfl) (by decide) rfl ?_
          refine g_iadd C (tdec DX8_rollback 58 rfl) rfl ?_
          refine g_aload_n (z := 1) C (tdec DX8_rollback 59 rfl) rfl rfl rfl ?_
          refine g_getf (C' := RX8) (T := TX8) (N := 27) (v := .ref x_8) C 0 8 (gIn iw_X8) rfl rfl (by decide) (gMem fl_X8_33) rfl rfl (tdec DX8_rollback 60 rfl) rfl ?_
          refine g_bipush (v := 22) C (tdec DX8_rollback 61 rfl) (by decide) rfl ?_
          refine g_iload_n (z := 2) C (tdec DX8_rollback 62 rfl) rfl rfl rfl ?_
          refine g_imul C (tdec DX8_rollback 63 rfl) rfl ?_
          refine g_iconst (v := 2) C (tdec DX8_rollback 64 rfl) (by decide) rfl ?_
          refine g_iadd C (tdec DX8_rollback 65 rfl) rfl ?_
          refine g_iload_n (z := 0) C (tdec DX8_rollback 66 rfl) rfl rfl rfl ?_
          refine g_iadd C (tdec DX8_rollback 67 rfl) rfl ?_
          obtain ⟨r30, y31, hF⟩ := o_bind hF
          refine g_iald C 8 1 rfl rfl y31 (tdec DX8_rollback 68 rfl) rfl ?_
          obtain ⟨g32, y33, hF⟩ := o_bind hF
          refine g_iast (ws' := wM cB cI cJ cZ x_0 x_1 x_2 x_3 x_4 x_5 x_6 x_7 x_8 x_9 x_10 x_11 x_12 x_13 x_14 x_15 x_16 x_17 x_18 x_19 (MS_settb (MS_settt (MS_setthr x0 3) g28) g32)) C 8 1 rfl rfl y33 rfl (tdec DX8_rollback 69 rfl) rfl ?_
          refine g_aload_n (z := 1) C (tdec DX8_rollback 70 rfl) rfl rfl rfl ?_
          refine g_iload_n (z := 2) C (tdec DX8_rollback 71 rfl) rfl rfl rfl ?_
          obtain ⟨s34, y35, hF⟩ := o_bind hF
          refine g_callVvMS (q0 := 0) (W' := wM cB cI cJ cZ x_0 x_1 x_2 x_3 x_4 x_5 x_6 x_7 x_8 x_9 x_10 x_11 x_12 x_13 x_14 x_15 x_16 x_17 x_18 x_19 s34) (S := [wM cB cI cJ cZ x_0 x_1 x_2 x_3 x_4 x_5 x_6 x_7 x_8 x_9 x_10 x_11 x_12 x_13 x_14 x_15 x_16 x_17 x_18 x_19 (MS_settb (MS_settt (MS_setthr x0 3) g28) g32)]) (S0 := [wM cB cI cJ cZ x_0 x_1 x_2 x_3 x_4 x_5 x_6 x_7 x_8 x_9 x_10 x_11 x_12 x_13 x_14 x_15 x_16 x_17 x_18 x_19 (MS_settb (MS_settt (MS_setthr x0 3) g28) g32)]) (S1 := [wM cB cI cJ cZ x_0 x_1 x_2 x_3 x_4 x_5 x_6 x_7 x_8 x_9 x_10 x_11 x_12 x_13 x_14 x_15 x_16 x_17 x_18 x_19 s34]) (S' := [wM cB cI cJ cZ x_0 x_1 x_2 x_3 x_4 x_5 x_6 x_7 x_8 x_9 x_10 x_11 x_12 x_13 x_14 x_15 x_16 x_17 x_18 x_19 s34]) C (c_X8_sweeps l D cB cI cJ cZ x_0 x_1 x_2 x_3 x_4 x_5 x_6 x_7 x_8 x_9 x_10 x_11 x_12 x_13 x_14 x_15 x_16 x_17 x_18 x_19 y35) rfl rfl (gIV ml_X8_135 im_X8_sweeps sl_X8_sweeps in_X8 cd_X8_sweeps) rfl eX8_sweeps rfl ⟨rfl, rfl⟩ ⟨Nat.le_of_ble_eq_true rfl, Nat.le_of_ble_eq_true rfl⟩ rfl rfl rfl [0] rfl rfl rfl rfl (gA_cons aM gA_nil) rfl rfl (Nat.le_of_ble_eq_true rfl) (tdec DX8_rollback 72 rfl) rfl ?_
          refine g_iload_n (z := 0) C (tdec DX8_rollback 73 rfl) rfl rfl rfl ?_
          have hr9 := o_some hF
          subst hr9
          exact g_iret C rfl rfl (tdec DX8_rollback 74 rfl)
        · have hF := o_ifn hF h23
          refine g_iconst (v := 0) C (tdec DX8_rollback 25 rfl) (by decide) rfl ?_
          have hr9 := o_some hF
          subst hr9
          exact g_iret C rfl rfl (tdec DX8_rollback 26 rfl)
    · have hF := o_ifn hF h6
      refine g_iconst (v := 2) C (tdec DX8_rollback 11 rfl) (by decide) rfl ?_
      refine g_goto (pt := 39) C (tdec DX8_rollback 12 rfl) (by decide) ?_
      refine g_putf (C' := RX8) (T := TX8) (N := 27) (v := .int 2) (ws' := wM cB cI cJ cZ x_0 x_1 x_2 x_3 x_4 x_5 x_6 x_7 x_8 x_9 x_10 x_11 x_12 x_13 x_14 x_15 x_16 x_17 x_18 x_19 (MS_setthr x0 2)) C 0 0 tyX8 tyX8_ok nmX8 (gIn iw_X8) rfl rfl (by decide) (gMem fl_X8_78) rfl rfl (tyX8_ok 0 (by decide)) rfl rfl (Nat.le_of_ble_eq_true rfl) rfl (tdec DX8_rollback 21 rfl) rfl ?_
      refine g_aload_n (z := 0) C (tdec DX8_rollback 22 rfl) rfl rfl rfl ?_
      refine g_getf (C' := RX8) (T := TX8) (N := 27) (v := .int 2) C 0 0 (gIn iw_X8) rfl rfl (by decide) (gMem fl_X8_78) rfl rfl (tdec DX8_rollback 23 rfl) rfl ?_
      refine g_if_le (pt := 51) C (tdec DX8_rollback 24 rfl) (by decide) rfl (fun h36 => ?_) (fun h36 => ?_)
      · have hF := o_ifp hF h36
        refine g_aload_n (z := 0) C (tdec DX8_rollback 27 rfl) rfl rfl rfl ?_
        refine g_getf (C' := RX8) (T := TX8) (N := 27) (v := .ref x_10) C 0 10 (gIn iw_X8) rfl rfl (by decide) (gMem fl_X8_39) rfl rfl (tdec DX8_rollback 28 rfl) rfl ?_
        refine g_iload_n (z := 1) C (tdec DX8_rollback 29 rfl) rfl rfl rfl ?_
        obtain ⟨r37, y38, hF⟩ := o_bind hF
        refine g_iald C 10 1 rfl rfl y38 (tdec DX8_rollback 30 rfl) rfl ?_
        refine g_iconst (v := 1) C (tdec DX8_rollback 31 rfl) (by decide) rfl ?_
        refine g_isub C (tdec DX8_rollback 32 rfl) rfl ?_
        refine g_istore_n (L' := [(2, .int (r37 - 1)), (0, .ref x_0), (1, .int p1)]) C (tdec DX8_rollback 33 rfl) rfl (by decide) rfl rfl ?_
        refine g_aload_n (z := 1) C (tdec DX8_rollback 34 rfl) rfl rfl rfl ?_
        refine g_getf (C' := RX8) (T := TX8) (N := 27) (v := .ref x_7) C 0 7 (gIn iw_X8) rfl rfl (by decide) (gMem fl_X8_30) rfl rfl (tdec DX8_rollback 35 rfl) rfl ?_
        refine g_bipush (v := 22) C (tdec DX8_rollback 36 rfl) (by decide) rfl ?_
        refine g_iload_n (z := 2) C (tdec DX8_rollback 37 rfl) rfl rfl rfl ?_
        refine g_imul C (tdec DX8_rollback 38 rfl) rfl ?_
        refine g_iconst (v := 0) C (tdec DX8_rollback 39 rfl) (by decide) rfl ?_
        refine g_iadd C (tdec DX8_rollback 40 rfl) rfl ?_
        refine g_aload_n (z := 1) C (tdec DX8_rollback 41 rfl) rfl rfl rfl ?_
        refine g_getf (C' := RX8) (T := TX8) (N := 27) (v := .ref x_7) C 0 7 (gIn iw_X8) rfl rfl (by decide) (gMem fl_X8_30) rfl rfl (tdec DX8_rollback 42 rfl) rfl ?_
        refine g_bipush (v := 22) C (tdec DX8_rollback 43 rfl) (by decide) rfl ?_
        refine g_iload_n (z := 2) C (tdec DX8_rollback 44 rfl) rfl rfl rfl ?_
        refine g_imul C (tdec DX8_rollback 45 rfl) rfl ?_
        refine g_iconst (v := 2) C (tdec DX8_rollback 46 rfl) (by decide) rfl ?_
        refine g_iadd C (tdec DX8_rollback 47 rfl) rfl ?_
        refine g_iload_n (z := 0) C (tdec DX8_rollback 48 rfl) rfl rfl rfl ?_
        refine g_iadd C (tdec DX8_rollback 49 rfl) rfl ?_
        obtain ⟨r39, y40, hF⟩ := o_bind hF
        refine g_iald C 7 1 rfl rfl y40 (tdec DX8_rollback 50 rfl) rfl ?_
        obtain ⟨g41, y42, hF⟩ := o_bind hF
        refine g_iast (ws' := wM cB cI cJ cZ x_0 x_1 x_2 x_3 x_4 x_5 x_6 x_7 x_8 x_9 x_10 x_11 x_12 x_13 x_14 x_15 x_16 x_17 x_18 x_19 (MS_settt (MS_setthr x0 2) g41)) C 7 1 rfl rfl y42 rfl (tdec DX8_rollback 51 rfl) rfl ?_
        refine g_aload_n (z := 1) C (tdec DX8_rollback 52 rfl) rfl rfl rfl ?_
        refine g_getf (C' := RX8) (T := TX8) (N := 27) (v := .ref x_8) C 0 8 (gIn iw_X8) rfl rfl (by decide) (gMem fl_X8_33) rfl rfl (tdec DX8_rollback 53 rfl) rfl ?_
        refine g_bipush (v := 22) C (tdec DX8_rollback 54 rfl) (by decide) rfl ?_
        refine g_iload_n (z := 2) C (tdec DX8_rollback 55 rfl) rfl rfl rfl ?_
        refine g_imul C (tdec DX8_rollback 56 rfl) rfl ?_
        refine g_iconst (v := 0) C (tdec DX8_rollback 57 rfl) (by decide) rfl ?_
        refine g_iadd C (tdec DX8_rollback 58 rfl) rfl ?_
        refine g_aload_n (z := 1) C (tdec DX8_rollback 59 rfl) rfl rfl rfl ?_
        refine g_getf (C' := RX8) (T := TX8) (N := 27) (v := .ref x_8) C 0 8 (gIn iw_X8) rfl rfl (by decide) (gMem fl_X8_33) rfl rfl (tdec DX8_rollback 60 rfl) rfl ?_
        refine g_bipush (v := 22) C (tdec DX8_rollback 61 rfl) (by decide) rfl ?_
        refine g_iload_n (z := 2) C (tdec DX8_rollback 62 rfl) rfl rfl rfl ?_
        refine g_imul C (tdec DX8_rollback 63 rfl) rfl ?_
        refine g_iconst (v := 2) C (tdec DX8_rollback 64 rfl) (by decide) rfl ?_
        refine g_iadd C (tdec DX8_rollback 65 rfl) rfl ?_
        refine g_iload_n (z := 0) C (tdec DX8_rollback 66 rfl) rfl rfl rfl ?_
        refine g_iadd C (tdec DX8_rollback 67 rfl) rfl ?_
        obtain ⟨r43, y44, hF⟩ := o_bind hF
        refine g_iald C 8 1 rfl rfl y44 (tdec DX8_rollback 68 rfl) rfl ?_
        obtain ⟨g45, y46, hF⟩ := o_bind hF
        refine g_iast (ws' := wM cB cI cJ cZ x_0 x_1 x_2 x_3 x_4 x_5 x_6 x_7 x_8 x_9 x_10 x_11 x_12 x_13 x_14 x_15 x_16 x_17 x_18 x_19 (MS_settb (MS_settt (MS_setthr x0 2) g41) g45)) C 8 1 rfl rfl y46 rfl (tdec DX8_rollback 69 rfl) rfl ?_
        refine g_aload_n (z := 1) C (tdec DX8_rollback 70 rfl) rfl rfl rfl ?_
        refine g_iload_n (z := 2) C (tdec DX8_rollback 71 rfl) rfl rfl rfl ?_
        obtain ⟨s47, y48, hF⟩ := o_bind hF
        refine g_callVvMS (q0 := 0) (W' := wM cB cI cJ cZ x_0 x_1 x_2 x_3 x_4 x_5 x_6 x_7 x_8 x_9 x_10 x_11 x_12 x_13 x_14 x_15 x_16 x_17 x_18 x_19 s47) (S := [wM cB cI cJ cZ x_0 x_1 x_2 x_3 x_4 x_5 x_6 x_7 x_8 x_9 x_10 x_11 x_12 x_13 x_14 x_15 x_16 x_17 x_18 x_19 (MS_settb (MS_settt (MS_setthr x0 2) g41) g45)]) (S0 := [wM cB cI cJ cZ x_0 x_1 x_2 x_3 x_4 x_5 x_6 x_7 x_8 x_9 x_10 x_11 x_12 x_13 x_14 x_15 x_16 x_17 x_18 x_19 (MS_settb (MS_settt (MS_setthr x0 2) g41) g45)]) (S1 := [wM cB cI cJ cZ x_0 x_1 x_2 x_3 x_4 x_5 x_6 x_7 x_8 x_9 x_10 x_11 x_12 x_13 x_14 x_15 x_16 x_17 x_18 x_19 s47]) (S' := [wM cB cI cJ cZ x_0 x_1 x_2 x_3 x_4 x_5 x_6 x_7 x_8 x_9 x_10 x_11 x_12 x_13 x_14 x_15 x_16 x_17 x_18 x_19 s47]) C (c_X8_sweeps l D cB cI cJ cZ x_0 x_1 x_2 x_3 x_4 x_5 x_6 x_7 x_8 x_9 x_10 x_11 x_12 x_13 x_14 x_15 x_16 x_17 x_18 x_19 y48) rfl rfl (gIV ml_X8_135 im_X8_sweeps sl_X8_sweeps in_X8 cd_X8_sweeps) rfl eX8_sweeps rfl ⟨rfl, rfl⟩ ⟨Nat.le_of_ble_eq_true rfl, Nat.le_of_ble_eq_true rfl⟩ rfl rfl rfl [0] rfl rfl rfl rfl (gA_cons aM gA_nil) rfl rfl (Nat.le_of_ble_eq_true rfl) (tdec DX8_rollback 72 rfl) rfl ?_
        refine g_iload_n (z := 0) C (tdec DX8_rollback 73 rfl) rfl rfl rfl ?_
        have hr9 := o_some hF
        subst hr9
        exact g_iret C rfl rfl (tdec DX8_rollback 74 rfl)
      · have hF := o_ifn hF h36
        refine g_iconst (v := 0) C (tdec DX8_rollback 25 rfl) (by decide) rfl ?_
        have hr9 := o_some hF
        subst hr9
        exact g_iret C rfl rfl (tdec DX8_rollback 26 rfl)
  · have hF := o_ifp hF h3
    refine g_iconst (v := 1) C (tdec DX8_rollback 4 rfl) (by decide) rfl ?_
    refine g_goto (pt := 39) C (tdec DX8_rollback 5 rfl) (by decide) ?_
    refine g_putf (C' := RX8) (T := TX8) (N := 27) (v := .int 1) (ws' := wM cB cI cJ cZ x_0 x_1 x_2 x_3 x_4 x_5 x_6 x_7 x_8 x_9 x_10 x_11 x_12 x_13 x_14 x_15 x_16 x_17 x_18 x_19 (MS_setthr x0 1)) C 0 0 tyX8 tyX8_ok nmX8 (gIn iw_X8) rfl rfl (by decide) (gMem fl_X8_78) rfl rfl (tyX8_ok 0 (by decide)) rfl rfl (Nat.le_of_ble_eq_true rfl) rfl (tdec DX8_rollback 21 rfl) rfl ?_
    refine g_aload_n (z := 0) C (tdec DX8_rollback 22 rfl) rfl rfl rfl ?_
    refine g_getf (C' := RX8) (T := TX8) (N := 27) (v := .int 1) C 0 0 (gIn iw_X8) rfl rfl (by decide) (gMem fl_X8_78) rfl rfl (tdec DX8_rollback 23 rfl) rfl ?_
    refine g_if_le (pt := 51) C (tdec DX8_rollback 24 rfl) (by decide) rfl (fun h49 => ?_) (fun h49 => ?_)
    · have hF := o_ifp hF h49
      refine g_aload_n (z := 0) C (tdec DX8_rollback 27 rfl) rfl rfl rfl ?_
      refine g_getf (C' := RX8) (T := TX8) (N := 27) (v := .ref x_10) C 0 10 (gIn iw_X8) rfl rfl (by decide) (gMem fl_X8_39) rfl rfl (tdec DX8_rollback 28 rfl) rfl ?_
      refine g_iload_n (z := 1) C (tdec DX8_rollback 29 rfl) rfl rfl rfl ?_
      obtain ⟨r50, y51, hF⟩ := o_bind hF
      refine g_iald C 10 1 rfl rfl y51 (tdec DX8_rollback 30 rfl) rfl ?_
      refine g_iconst (v := 1) C (tdec DX8_rollback 31 rfl) (by decide) rfl ?_
      refine g_isub C (tdec DX8_rollback 32 rfl) rfl ?_
      refine g_istore_n (L' := [(2, .int (r50 - 1)), (0, .ref x_0), (1, .int p1)]) C (tdec DX8_rollback 33 rfl) rfl (by decide) rfl rfl ?_
      refine g_aload_n (z := 1) C (tdec DX8_rollback 34 rfl) rfl rfl rfl ?_
      refine g_getf (C' := RX8) (T := TX8) (N := 27) (v := .ref x_7) C 0 7 (gIn iw_X8) rfl rfl (by decide) (gMem fl_X8_30) rfl rfl (tdec DX8_rollback 35 rfl) rfl ?_
      refine g_bipush (v := 22) C (tdec DX8_rollback 36 rfl) (by decide) rfl ?_
      refine g_iload_n (z := 2) C (tdec DX8_rollback 37 rfl) rfl rfl rfl ?_
      refine g_imul C (tdec DX8_rollback 38 rfl) rfl ?_
      refine g_iconst (v := 0) C (tdec DX8_rollback 39 rfl) (by decide) rfl ?_
      refine g_iadd C (tdec DX8_rollback 40 rfl) rfl ?_
      refine g_aload_n (z := 1) C (tdec DX8_rollback 41 rfl) rfl rfl rfl ?_
      refine g_getf (C' := RX8) (T := TX8) (N := 27) (v := .ref x_7) C 0 7 (gIn iw_X8) rfl rfl (by decide) (gMem fl_X8_30) rfl rfl (tdec DX8_rollback 42 rfl) rfl ?_
      refine g_bipush (v := 22) C (tdec DX8_rollback 43 rfl) (by decide) rfl ?_
      refine g_iload_n (z := 2) C (tdec DX8_rollback 44 rfl) rfl rfl rfl ?_
      refine g_imul C (tdec DX8_rollback 45 rfl) rfl ?_
      refine g_iconst (v := 2) C (tdec DX8_rollback 46 rfl) (by decide) rfl ?_
      refine g_iadd C (tdec DX8_rollback 47 rfl) rfl ?_
      refine g_iload_n (z := 0) C (tdec DX8_rollback 48 rfl) rfl rfl rfl ?_
      refine g_iadd C (tdec DX8_rollback 49 rfl) rfl ?_
      obtain ⟨r52, y53, hF⟩ := o_bind hF
      refine g_iald C 7 1 rfl rfl y53 (tdec DX8_rollback 50 rfl) rfl ?_
      obtain ⟨g54, y55, hF⟩ := o_bind hF
      refine g_iast (ws' := wM cB cI cJ cZ x_0 x_1 x_2 x_3 x_4 x_5 x_6 x_7 x_8 x_9 x_10 x_11 x_12 x_13 x_14 x_15 x_16 x_17 x_18 x_19 (MS_settt (MS_setthr x0 1) g54)) C 7 1 rfl rfl y55 rfl (tdec DX8_rollback 51 rfl) rfl ?_
      refine g_aload_n (z := 1) C (tdec DX8_rollback 52 rfl) rfl rfl rfl ?_
      refine g_getf (C' := RX8) (T := TX8) (N := 27) (v := .ref x_8) C 0 8 (gIn iw_X8) rfl rfl (by decide) (gMem fl_X8_33) rfl rfl (tdec DX8_rollback 53 rfl) rfl ?_
      refine g_bipush (v := 22) C (tdec DX8_rollback 54 rfl) (by decide) rfl ?_
      refine g_iload_n (z := 2) C (tdec DX8_rollback 55 rfl) rfl rfl rfl ?_
      refine g_imul C (tdec DX8_rollback 56 rfl) rfl ?_
      refine g_iconst (v := 0) C (tdec DX8_rollback 57 rfl) (by decide) rfl ?_
      refine g_iadd C (tdec DX8_rollback 58 rfl) rfl ?_
      refine g_aload_n (z := 1) C (tdec DX8_rollback 59 rfl) rfl rfl rfl ?_
      refine g_getf (C' := RX8) (T := TX8) (N := 27) (v := .ref x_8) C 0 8 (gIn iw_X8) rfl rfl (by decide) (gMem fl_X8_33) rfl rfl (tdec DX8_rollback 60 rfl) rfl ?_
      refine g_bipush (v := 22) C (tdec DX8_rollback 61 rfl) (by decide) rfl ?_
      refine g_iload_n (z := 2) C (tdec DX8_rollback 62 rfl) rfl rfl rfl ?_
      refine g_imul C (tdec DX8_rollback 63 rfl) rfl ?_
      refine g_iconst (v := 2) C (tdec DX8_rollback 64 rfl) (by decide) rfl ?_
      refine g_iadd C (tdec DX8_rollback 65 rfl) rfl ?_
      refine g_iload_n (z := 0) C (tdec DX8_rollback 66 rfl) rfl rfl rfl ?_
      refine g_iadd C (tdec DX8_rollback 67 rfl) rfl ?_
      obtain ⟨r56, y57, hF⟩ := o_bind hF
      refine g_iald C 8 1 rfl rfl y57 (tdec DX8_rollback 68 rfl) rfl ?_
      obtain ⟨g58, y59, hF⟩ := o_bind hF
      refine g_iast (ws' := wM cB cI cJ cZ x_0 x_1 x_2 x_3 x_4 x_5 x_6 x_7 x_8 x_9 x_10 x_11 x_12 x_13 x_14 x_15 x_16 x_17 x_18 x_19 (MS_settb (MS_settt (MS_setthr x0 1) g54) g58)) C 8 1 rfl rfl y59 rfl (tdec DX8_rollback 69 rfl) rfl ?_
      refine g_aload_n (z := 1) C (tdec DX8_rollback 70 rfl) rfl rfl rfl ?_
      refine g_iload_n (z := 2) C (tdec DX8_rollback 71 rfl) rfl rfl rfl ?_
      obtain ⟨s60, y61, hF⟩ := o_bind hF
      refine g_callVvMS (q0 := 0) (W' := wM cB cI cJ cZ x_0 x_1 x_2 x_3 x_4 x_5 x_6 x_7 x_8 x_9 x_10 x_11 x_12 x_13 x_14 x_15 x_16 x_17 x_18 x_19 s60) (S := [wM cB cI cJ cZ x_0 x_1 x_2 x_3 x_4 x_5 x_6 x_7 x_8 x_9 x_10 x_11 x_12 x_13 x_14 x_15 x_16 x_17 x_18 x_19 (MS_settb (MS_settt (MS_setthr x0 1) g54) g58)]) (S0 := [wM cB cI cJ cZ x_0 x_1 x_2 x_3 x_4 x_5 x_6 x_7 x_8 x_9 x_10 x_11 x_12 x_13 x_14 x_15 x_16 x_17 x_18 x_19 (MS_settb (MS_settt (MS_setthr x0 1) g54) g58)]) (S1 := [wM cB cI cJ cZ x_0 x_1 x_2 x_3 x_4 x_5 x_6 x_7 x_8 x_9 x_10 x_11 x_12 x_13 x_14 x_15 x_16 x_17 x_18 x_19 s60]) (S' := [wM cB cI cJ cZ x_0 x_1 x_2 x_3 x_4 x_5 x_6 x_7 x_8 x_9 x_10 x_11 x_12 x_13 x_14 x_15 x_16 x_17 x_18 x_19 s60]) C (c_X8_sweeps l D cB cI cJ cZ x_0 x_1 x_2 x_3 x_4 x_5 x_6 x_7 x_8 x_9 x_10 x_11 x_12 x_13 x_14 x_15 x_16 x_17 x_18 x_19 y61) rfl rfl (gIV ml_X8_135 im_X8_sweeps sl_X8_sweeps in_X8 cd_X8_sweeps) rfl eX8_sweeps rfl ⟨rfl, rfl⟩ ⟨Nat.le_of_ble_eq_true rfl, Nat.le_of_ble_eq_true rfl⟩ rfl rfl rfl [0] rfl rfl rfl rfl (gA_cons aM gA_nil) rfl rfl (Nat.le_of_ble_eq_true rfl) (tdec DX8_rollback 72 rfl) rfl ?_
      refine g_iload_n (z := 0) C (tdec DX8_rollback 73 rfl) rfl rfl rfl ?_
      have hr9 := o_some hF
      subst hr9
      exact g_iret C rfl rfl (tdec DX8_rollback 74 rfl)
    · have hF := o_ifn hF h49
      refine g_iconst (v := 0) C (tdec DX8_rollback 25 rfl) (by decide) rfl ?_
      have hr9 := o_some hF
      subst hr9
      exact g_iret C rfl rfl (tdec DX8_rollback 26 rfl)
def FX8_put_L5 (v1 : Int64) (v3 : Int32) (k9 : MS → Int32 → Option (MS)) : Nat → MS → Int32 → Option (MS)
  | 0, _, _ => none
  | n9 + 1, x, v4 =>
    if v4 < 0 then
      k9 x v4
    else
      (ast 16000 (MS_str x) (MS_len x) (vp_nar .byte (((((v1 >>> (((8 * v4) : Int32).toInt64 &&& 63)) : Int64).toInt32) : Int32).toInt8.toInt32))).bind fun g2 =>
      FX8_put_L5 v1 v3 k9 n9 (MS_setlen (MS_setstr x g2) ((MS_len x) + 1)) (v4 + (-1))
def FX8_put (x0 : MS) (p1 : Int64) (p3 : Int32) : Option (MS) :=
  FX8_put_L5 p1 p3 (fun xq4 w4_4 =>
    some xq4) 100000 x0 (p3 - 1)
def rX8_put : Room := { frames := 0, cells := 0, slots := 0, locals := 0 }
set_option maxHeartbeats 4000000 in
set_option maxRecDepth 100000 in
theorem c_FX8_put_L5 {p : Program} {l : Launch} {e : Env} {s : State} {m : MethodId} {args : Array Value} {below : List Frame} {meth : Method} {c : Code} {D : va_G} {cB cI cJ cZ : ClassId} {x_0 x_1 x_2 x_3 x_4 x_5 x_6 x_7 x_8 x_9 x_10 x_11 x_12 x_13 x_14 x_15 x_16 x_17 x_18 x_19 : Nat} {x0 : MS} {res : MS} (C : gC p s m args meth c cX8_put 5 RX8 wsX8_put D (gT cB cI cJ cZ) none (va_A (wM cB cI cJ cZ x_0 x_1 x_2 x_3 x_4 x_5 x_6 x_7 x_8 x_9 x_10 x_11 x_12 x_13 x_14 x_15 x_16 x_17 x_18 x_19 x0) s.heap.size)) {v1 : Int64} {v3 : Int32} {k9 : MS → Int32 → Option (MS)} (hk9 : ∀ (x : MS) (v4 : Int32), k9 x v4 = some res → gG p l e (headSpec wsX8_put rX8_put).room s m args below meth c 0 0 D (va_A (wM cB cI cJ cZ x_0 x_1 x_2 x_3 x_4 x_5 x_6 x_7 x_8 x_9 x_10 x_11 x_12 x_13 x_14 x_15 x_16 x_17 x_18 x_19 x0) s.heap.size) (va_A (wM cB cI cJ cZ x_0 x_1 x_2 x_3 x_4 x_5 x_6 x_7 x_8 x_9 x_10 x_11 x_12 x_13 x_14 x_15 x_16 x_17 x_18 x_19 x0) s.heap.size) 5 (MQ below (gQv D (wM cB cI cJ cZ x_0 x_1 x_2 x_3 x_4 x_5 x_6 x_7 x_8 x_9 x_10 x_11 x_12 x_13 x_14 x_15 x_16 x_17 x_18 x_19 x0) s.heap.size (wM cB cI cJ cZ x_0 x_1 x_2 x_3 x_4 x_5 x_6 x_7 x_8 x_9 x_10 x_11 x_12 x_13 x_14 x_15 x_16 x_17 x_18 x_19 res)) args s 0 0 (va_A (wM cB cI cJ cZ x_0 x_1 x_2 x_3 x_4 x_5 x_6 x_7 x_8 x_9 x_10 x_11 x_12 x_13 x_14 x_15 x_16 x_17 x_18 x_19 x0) s.heap.size)) (wM cB cI cJ cZ x_0 x_1 x_2 x_3 x_4 x_5 x_6 x_7 x_8 x_9 x_10 x_11 x_12 x_13 x_14 x_15 x_16 x_17 x_18 x_19 x) 44 [(0, .ref x_0), (1, .long v1), (3, .int v3), (4, .int v4)] []) :
    ∀ (n9 : Nat) (x : MS) (v4 : Int32), FX8_put_L5 v1 v3 k9 n9 x v4 = some res → gG p l e (headSpec wsX8_put rX8_put).room s m args below meth c 0 0 D (va_A (wM cB cI cJ cZ x_0 x_1 x_2 x_3 x_4 x_5 x_6 x_7 x_8 x_9 x_10 x_11 x_12 x_13 x_14 x_15 x_16 x_17 x_18 x_19 x0) s.heap.size) (va_A (wM cB cI cJ cZ x_0 x_1 x_2 x_3 x_4 x_5 x_6 x_7 x_8 x_9 x_10 x_11 x_12 x_13 x_14 x_15 x_16 x_17 x_18 x_19 x0) s.heap.size) 5 (MQ below (gQv D (wM cB cI cJ cZ x_0 x_1 x_2 x_3 x_4 x_5 x_6 x_7 x_8 x_9 x_10 x_11 x_12 x_13 x_14 x_15 x_16 x_17 x_18 x_19 x0) s.heap.size (wM cB cI cJ cZ x_0 x_1 x_2 x_3 x_4 x_5 x_6 x_7 x_8 x_9 x_10 x_11 x_12 x_13 x_14 x_15 x_16 x_17 x_18 x_19 res)) args s 0 0 (va_A (wM cB cI cJ cZ x_0 x_1 x_2 x_3 x_4 x_5 x_6 x_7 x_8 x_9 x_10 x_11 x_12 x_13 x_14 x_15 x_16 x_17 x_18 x_19 x0) s.heap.size)) (wM cB cI cJ cZ x_0 x_1 x_2 x_3 x_4 x_5 x_6 x_7 x_8 x_9 x_10 x_11 x_12 x_13 x_14 x_15 x_16 x_17 x_18 x_19 x) 5 [(0, .ref x_0), (1, .long v1), (3, .int v3), (4, .int v4)] [] := by
  intro n9
  induction n9 with
  | zero =>
    intro x v4 hF
    exact absurd hF (by simp [FX8_put_L5])
  | succ n9 ih9 =>
    intro x v4 hF
    rw [FX8_put_L5] at hF
    refine g_iload (z := 3) C (tdec DX8_put 4 rfl) rfl rfl ?_
    refine g_if_lt (pt := 44) C (tdec DX8_put 5 rfl) (by decide) rfl (fun h1 => ?_) (fun h1 => ?_)
    · have hF := o_ifp hF h1
      refine g_sub (L' := [(0, .ref x_0), (1, .long v1), (3, .int v3), (4, .int v4)]) [0, 1, 2, 3] rfl ?_
      exact hk9 _ _ hF
    · have hF := o_ifn hF h1
      refine g_aload_n (z := 0) C (tdec DX8_put 6 rfl) rfl rfl rfl ?_
      refine g_getf (C' := RX8) (T := TX8) (N := 27) (v := .ref x_17) C 0 18 (gIn iw_X8) rfl rfl (by decide) (gMem fl_X8_64) rfl rfl (tdec DX8_put 7 rfl) rfl ?_
      refine g_aload_n (z := 0) C (tdec DX8_put 8 rfl) rfl rfl rfl ?_
      refine g_getf (C' := RX8) (T := TX8) (N := 27) (v := .int (MS_len x)) C 0 19 (gIn iw_X8) rfl rfl (by decide) (gMem fl_X8_147) rfl rfl (tdec DX8_put 9 rfl) rfl ?_
      refine g_lload_n (z := 1) C (tdec DX8_put 10 rfl) rfl rfl rfl ?_
      refine g_bipush (v := 8) C (tdec DX8_put 11 rfl) (by decide) rfl ?_
      refine g_iload (z := 3) C (tdec DX8_put 12 rfl) rfl rfl ?_
      refine g_imul C (tdec DX8_put 13 rfl) rfl ?_
      refine g_lshr C (tdec DX8_put 14 rfl) rfl ?_
      refine g_l2i C (tdec DX8_put 15 rfl) rfl ?_
      refine g_i2b C (tdec DX8_put 16 rfl) rfl ?_
      obtain ⟨g2, y3, hF⟩ := o_bind hF
      refine g_bast (ws' := wM cB cI cJ cZ x_0 x_1 x_2 x_3 x_4 x_5 x_6 x_7 x_8 x_9 x_10 x_11 x_12 x_13 x_14 x_15 x_16 x_17 x_18 x_19 (MS_setstr x g2)) C 17 0 rfl rfl y3 rfl (tdec DX8_put 17 rfl) rfl ?_
      refine g_aload_n (z := 0) C (tdec DX8_put 18 rfl) rfl rfl rfl ?_
      refine g_dup C (tdec DX8_put 19 rfl) rfl rfl ?_
      refine g_getf (C' := RX8) (T := TX8) (N := 27) (v := .int (MS_len x)) C 0 19 (gIn iw_X8) rfl rfl (by decide) (gMem fl_X8_147) rfl rfl (tdec DX8_put 20 rfl) rfl ?_
      refine g_iconst (v := 1) C (tdec DX8_put 21 rfl) (by decide) rfl ?_
      refine g_iadd C (tdec DX8_put 22 rfl) rfl ?_
      refine g_putf (C' := RX8) (T := TX8) (N := 27) (v := .int ((MS_len x) + 1)) (ws' := wM cB cI cJ cZ x_0 x_1 x_2 x_3 x_4 x_5 x_6 x_7 x_8 x_9 x_10 x_11 x_12 x_13 x_14 x_15 x_16 x_17 x_18 x_19 (MS_setlen (MS_setstr x g2) ((MS_len x) + 1))) C 0 19 tyX8 tyX8_ok nmX8 (gIn iw_X8) rfl rfl (by decide) (gMem fl_X8_147) rfl rfl (tyX8_ok 19 (by decide)) rfl rfl (Nat.le_of_ble_eq_true rfl) rfl (tdec DX8_put 23 rfl) rfl ?_
      refine g_iinc (z := 3) (v := (v4 + (-1))) (L' := [(4, .int (v4 + (-1))), (0, .ref x_0), (1, .long v1), (3, .int v3)]) C (tdec DX8_put 24 rfl) rfl rfl (by decide) rfl rfl ?_
      refine g_goto (pt := 5) C (tdec DX8_put 25 rfl) (by decide) ?_
      refine g_sub (L' := [(0, .ref x_0), (1, .long v1), (3, .int v3), (4, .int (v4 + (-1)))]) [1, 2, 3, 0] rfl ?_
      exact ih9 _ _ hF
set_option maxHeartbeats 4000000 in
set_option maxRecDepth 100000 in
theorem c_X8_put (l : Launch) (D : va_G) (cB cI cJ cZ : ClassId) (x_0 x_1 x_2 x_3 x_4 x_5 x_6 x_7 x_8 x_9 x_10 x_11 x_12 x_13 x_14 x_15 x_16 x_17 x_18 x_19 : Nat) {x0 : MS} {p1 : Int64} {p3 : Int32} {res : MS} (hF : FX8_put x0 p1 p3 = some res) : gMv l yX8_put wsX8_put rX8_put D (gT cB cI cJ cZ) [.ref x_0, .long p1, .int p3] (wM cB cI cJ cZ x_0 x_1 x_2 x_3 x_4 x_5 x_6 x_7 x_8 x_9 x_10 x_11 x_12 x_13 x_14 x_15 x_16 x_17 x_18 x_19 x0) (wM cB cI cJ cZ x_0 x_1 x_2 x_3 x_4 x_5 x_6 x_7 x_8 x_9 x_10 x_11 x_12 x_13 x_14 x_15 x_16 x_17 x_18 x_19 res) := by
  refine g_enter (own := RX8) (free := (fun sz => va_A (wM cB cI cJ cZ x_0 x_1 x_2 x_3 x_4 x_5 x_6 x_7 x_8 x_9 x_10 x_11 x_12 x_13 x_14 x_15 x_16 x_17 x_18 x_19 x0) sz)) (Qc := (fun sz => gQv D (wM cB cI cJ cZ x_0 x_1 x_2 x_3 x_4 x_5 x_6 x_7 x_8 x_9 x_10 x_11 x_12 x_13 x_14 x_15 x_16 x_17 x_18 x_19 x0) sz (wM cB cI cJ cZ x_0 x_1 x_2 x_3 x_4 x_5 x_6 x_7 x_8 x_9 x_10 x_11 x_12 x_13 x_14 x_15 x_16 x_17 x_18 x_19 res))) (fun sz => va_A (wM cB cI cJ cZ x_0 x_1 x_2 x_3 x_4 x_5 x_6 x_7 x_8 x_9 x_10 x_11 x_12 x_13 x_14 x_15 x_16 x_17 x_18 x_19 x0) sz) (fun sz => Or.inr rfl) rfl (by decide) rfl (Nat.le_of_ble_eq_true rfl) rfl ?_
  intro p e s m args below meth c C
  unfold FX8_put at hF
  refine g_iload_n (z := 2) C (tdec DX8_put 0 rfl) rfl rfl rfl ?_
  refine g_iconst (v := 1) C (tdec DX8_put 1 rfl) (by decide) rfl ?_
  refine g_isub C (tdec DX8_put 2 rfl) rfl ?_
  refine g_istore (L' := [(4, .int (p3 - 1)), (0, .ref x_0), (1, .long p1), (3, .int p3)]) C (tdec DX8_put 3 rfl) (by decide) rfl rfl ?_
  refine g_sub (L' := [(0, .ref x_0), (1, .long p1), (3, .int p3), (4, .int (p3 - 1))]) [1, 2, 3, 0] rfl ?_
  refine c_FX8_put_L5 C (fun xq4 w4_4 hF => ?_) 100000 _ _ hF
  have hr9 := o_some hF
  subst hr9
  exact g_vret C rfl (tdec DX8_put 26 rfl)
def FX8_sumOf_L8 (x0 : MS) (v1 : Int32) (v2 : Int32) (k9 : Int32 → Int32 → Int32 → Option (Int64)) : Nat → Int32 → Int32 → Int32 → Option (Int64)
  | 0, _, _, _ => none
  | n9 + 1, v3, v4, v5 =>
    if v2 ≤ v5 then
      k9 v3 v4 v5
    else
      (ald 16000 (MS_str x0) v5).bind fun r2 =>
      FX8_sumOf_L8 x0 v1 v2 k9 n9 (v3 + (r2 &&& 255)) (v4 + (v3 + (r2 &&& 255))) (v5 + 1)
def FX8_sumOf (x0 : MS) (p1 : Int32) (p2 : Int32) : Option (Int64) :=
  FX8_sumOf_L8 x0 p1 p2 (fun w3_4 w4_4 w5_4 =>
    some ((((w4_4 : Int32).toInt64) <<< ((32 : Int32).toInt64 &&& 63)) ||| (((w3_4 : Int32).toInt64) &&& 4294967295))) 100000 1 0 p1
def rX8_sumOf : Room := { frames := 0, cells := 0, slots := 0, locals := 0 }
set_option maxHeartbeats 4000000 in
set_option maxRecDepth 100000 in
theorem c_FX8_sumOf_L8 {p : Program} {l : Launch} {e : Env} {s : State} {m : MethodId} {args : Array Value} {below : List Frame} {meth : Method} {c : Code} {D : va_G} {cB cI cJ cZ : ClassId} {x_0 x_1 x_2 x_3 x_4 x_5 x_6 x_7 x_8 x_9 x_10 x_11 x_12 x_13 x_14 x_15 x_16 x_17 x_18 x_19 : Nat} {x0 : MS} {res : Int64} (C : gC p s m args meth c cX8_sumOf 6 RX8 wsX8_sumOf D (gT cB cI cJ cZ) (some .long) (fun _ => False)) {v1 : Int32} {v2 : Int32} {k9 : Int32 → Int32 → Int32 → Option (Int64)} (hk9 : ∀ (v3 : Int32) (v4 : Int32) (v5 : Int32), k9 v3 v4 v5 = some res → gG p l e (headSpec wsX8_sumOf rX8_sumOf).room s m args below meth c 0 0 D (fun _ => True) (fun _ => False) 6 (MQ below (gRQl res) args s 0 0 (fun _ => False)) (wM cB cI cJ cZ x_0 x_1 x_2 x_3 x_4 x_5 x_6 x_7 x_8 x_9 x_10 x_11 x_12 x_13 x_14 x_15 x_16 x_17 x_18 x_19 x0) 40 [(0, .ref x_0), (1, .int v1), (2, .int v2), (3, .int v3), (4, .int v4), (5, .int v5)] []) :
    ∀ (n9 : Nat) (v3 : Int32) (v4 : Int32) (v5 : Int32), FX8_sumOf_L8 x0 v1 v2 k9 n9 v3 v4 v5 = some res → gG p l e (headSpec wsX8_sumOf rX8_sumOf).room s m args below meth c 0 0 D (fun _ => True) (fun _ => False) 6 (MQ below (gRQl res) args s 0 0 (fun _ => False)) (wM cB cI cJ cZ x_0 x_1 x_2 x_3 x_4 x_5 x_6 x_7 x_8 x_9 x_10 x_11 x_12 x_13 x_14 x_15 x_16 x_17 x_18 x_19 x0) 8 [(0, .ref x_0), (1, .int v1), (2, .int v2), (3, .int v3), (4, .int v4), (5, .int v5)] [] := by
  intro n9
  induction n9 with
  | zero =>
    intro v3 v4 v5 hF
    exact absurd hF (by simp [FX8_sumOf_L8])
  | succ n9 ih9 =>
    intro v3 v4 v5 hF
    rw [FX8_sumOf_L8] at hF
    refine g_iload (z := 5) C (tdec DX8_sumOf 6 rfl) rfl rfl ?_
    refine g_iload_n (z := 2) C (tdec DX8_sumOf 7 rfl) rfl rfl rfl ?_
    refine g_icmp_ge (pt := 40) C (tdec DX8_sumOf 8 rfl) (by decide) rfl (fun h1 => ?_) (fun h1 => ?_)
    · have hF := o_ifp hF h1
      refine g_sub (L' := [(0, .ref x_0), (1, .int v1), (2, .int v2), (3, .int v3), (4, .int v4), (5, .int v5)]) [0, 1, 2, 3, 4, 5] rfl ?_
      exact hk9 _ _ _ hF
    · have hF := o_ifn hF h1
      refine g_iload_n (z := 3) C (tdec DX8_sumOf 9 rfl) rfl rfl rfl ?_
      refine g_aload_n (z := 0) C (tdec DX8_sumOf 10 rfl) rfl rfl rfl ?_
      refine g_getf (C' := RX8) (T := TX8) (N := 27) (v := .ref x_17) C 0 18 (gIn iw_X8) rfl rfl (by decide) (gMem fl_X8_64) rfl rfl (tdec DX8_sumOf 11 rfl) rfl ?_
      refine g_iload (z := 5) C (tdec DX8_sumOf 12 rfl) rfl rfl ?_
      obtain ⟨r2, y3, hF⟩ := o_bind hF
      refine g_bald C 17 0 rfl rfl y3 (tdec DX8_sumOf 13 rfl) rfl ?_
      refine g_sipush (v := 255) C (tdec DX8_sumOf 14 rfl) (by decide) rfl ?_
      refine g_iand C (tdec DX8_sumOf 15 rfl) rfl ?_
      refine g_iadd C (tdec DX8_sumOf 16 rfl) rfl ?_
      refine g_istore_n (L' := [(3, .int (v3 + (r2 &&& 255))), (0, .ref x_0), (1, .int v1), (2, .int v2), (4, .int v4), (5, .int v5)]) C (tdec DX8_sumOf 17 rfl) rfl (by decide) rfl rfl ?_
      refine g_iload (z := 4) C (tdec DX8_sumOf 18 rfl) rfl rfl ?_
      refine g_iload_n (z := 0) C (tdec DX8_sumOf 19 rfl) rfl rfl rfl ?_
      refine g_iadd C (tdec DX8_sumOf 20 rfl) rfl ?_
      refine g_istore (L' := [(4, .int (v4 + (v3 + (r2 &&& 255)))), (3, .int (v3 + (r2 &&& 255))), (0, .ref x_0), (1, .int v1), (2, .int v2), (5, .int v5)]) C (tdec DX8_sumOf 21 rfl) (by decide) rfl rfl ?_
      refine g_iinc (z := 5) (v := (v5 + 1)) (L' := [(5, .int (v5 + 1)), (4, .int (v4 + (v3 + (r2 &&& 255)))), (3, .int (v3 + (r2 &&& 255))), (0, .ref x_0), (1, .int v1), (2, .int v2)]) C (tdec DX8_sumOf 22 rfl) rfl rfl (by decide) rfl rfl ?_
      refine g_goto (pt := 8) C (tdec DX8_sumOf 23 rfl) (by decide) ?_
      refine g_sub (L' := [(0, .ref x_0), (1, .int v1), (2, .int v2), (3, .int (v3 + (r2 &&& 255))), (4, .int (v4 + (v3 + (r2 &&& 255)))), (5, .int (v5 + 1))]) [3, 4, 5, 2, 1, 0] rfl ?_
      exact ih9 _ _ _ hF
set_option maxHeartbeats 4000000 in
set_option maxRecDepth 100000 in
theorem c_X8_sumOf (l : Launch) (D : va_G) (cB cI cJ cZ : ClassId) (x_0 x_1 x_2 x_3 x_4 x_5 x_6 x_7 x_8 x_9 x_10 x_11 x_12 x_13 x_14 x_15 x_16 x_17 x_18 x_19 : Nat) {x0 : MS} {p1 : Int32} {p2 : Int32} {res : Int64} (hF : FX8_sumOf x0 p1 p2 = some res) : gRl l yX8_sumOf wsX8_sumOf rX8_sumOf D (gT cB cI cJ cZ) [.ref x_0, .int p1, .int p2] (wM cB cI cJ cZ x_0 x_1 x_2 x_3 x_4 x_5 x_6 x_7 x_8 x_9 x_10 x_11 x_12 x_13 x_14 x_15 x_16 x_17 x_18 x_19 x0) res := by
  refine g_enter (own := RX8) (free := (fun _ _ => False)) (Qc := (fun sz => gRQl res)) (fun _ _ => True) (fun sz => Or.inl rfl) rfl (by decide) rfl (Nat.le_of_ble_eq_true rfl) rfl ?_
  intro p e s m args below meth c C
  unfold FX8_sumOf at hF
  refine g_iconst (v := 1) C (tdec DX8_sumOf 0 rfl) (by decide) rfl ?_
  refine g_istore_n (L' := [(3, .int 1), (0, .ref x_0), (1, .int p1), (2, .int p2)]) C (tdec DX8_sumOf 1 rfl) rfl (by decide) rfl rfl ?_
  refine g_iconst (v := 0) C (tdec DX8_sumOf 2 rfl) (by decide) rfl ?_
  refine g_istore (L' := [(4, .int 0), (3, .int 1), (0, .ref x_0), (1, .int p1), (2, .int p2)]) C (tdec DX8_sumOf 3 rfl) (by decide) rfl rfl ?_
  refine g_iload_n (z := 3) C (tdec DX8_sumOf 4 rfl) rfl rfl rfl ?_
  refine g_istore (L' := [(5, .int p1), (4, .int 0), (3, .int 1), (0, .ref x_0), (1, .int p1), (2, .int p2)]) C (tdec DX8_sumOf 5 rfl) (by decide) rfl rfl ?_
  refine g_sub (L' := [(0, .ref x_0), (1, .int p1), (2, .int p2), (3, .int 1), (4, .int 0), (5, .int p1)]) [3, 4, 5, 2, 1, 0] rfl ?_
  refine c_FX8_sumOf_L8 C (fun w3_4 w4_4 w5_4 hF => ?_) 100000 _ _ _ hF
  refine g_iload (z := 4) C (tdec DX8_sumOf 24 rfl) rfl rfl ?_
  refine g_i2l C (tdec DX8_sumOf 25 rfl) rfl ?_
  refine g_bipush (v := 32) C (tdec DX8_sumOf 26 rfl) (by decide) rfl ?_
  refine g_lshl C (tdec DX8_sumOf 27 rfl) rfl ?_
  refine g_iload_n (z := 3) C (tdec DX8_sumOf 28 rfl) rfl rfl rfl ?_
  refine g_i2l C (tdec DX8_sumOf 29 rfl) rfl ?_
  refine g_ldc2 C (gMem kl_X8_150) (tdec DX8_sumOf 30 rfl) rfl ?_
  refine g_land C (tdec DX8_sumOf 31 rfl) rfl ?_
  refine g_lor C (tdec DX8_sumOf 32 rfl) rfl ?_
  have hr9 := o_some hF
  subst hr9
  exact g_lretR C rfl (tdec DX8_sumOf 33 rfl)
def FX8_ends (x0 : MS) : Option (MS) :=
  (FX8_sumOf x0 (MS_rf x0) (MS_len x0)).bind fun r1 =>
  (FX8_put x0 r1 8).bind fun s3 =>
  some (MS_setrecs (MS_setrf s3 (MS_len s3)) ((MS_recs s3) + 1))
def rX8_ends : Room := { frames := 1, cells := 0, slots := 0, locals := 25 }
set_option maxHeartbeats 4000000 in
set_option maxRecDepth 100000 in
theorem c_X8_ends (l : Launch) (D : va_G) (cB cI cJ cZ : ClassId) (x_0 x_1 x_2 x_3 x_4 x_5 x_6 x_7 x_8 x_9 x_10 x_11 x_12 x_13 x_14 x_15 x_16 x_17 x_18 x_19 : Nat) {x0 : MS} {res : MS} (hF : FX8_ends x0 = some res) : gMv l yX8_ends wsX8_ends rX8_ends D (gT cB cI cJ cZ) [.ref x_0] (wM cB cI cJ cZ x_0 x_1 x_2 x_3 x_4 x_5 x_6 x_7 x_8 x_9 x_10 x_11 x_12 x_13 x_14 x_15 x_16 x_17 x_18 x_19 x0) (wM cB cI cJ cZ x_0 x_1 x_2 x_3 x_4 x_5 x_6 x_7 x_8 x_9 x_10 x_11 x_12 x_13 x_14 x_15 x_16 x_17 x_18 x_19 res) := by
  refine g_enter (own := RX8) (free := (fun sz => va_A (wM cB cI cJ cZ x_0 x_1 x_2 x_3 x_4 x_5 x_6 x_7 x_8 x_9 x_10 x_11 x_12 x_13 x_14 x_15 x_16 x_17 x_18 x_19 x0) sz)) (Qc := (fun sz => gQv D (wM cB cI cJ cZ x_0 x_1 x_2 x_3 x_4 x_5 x_6 x_7 x_8 x_9 x_10 x_11 x_12 x_13 x_14 x_15 x_16 x_17 x_18 x_19 x0) sz (wM cB cI cJ cZ x_0 x_1 x_2 x_3 x_4 x_5 x_6 x_7 x_8 x_9 x_10 x_11 x_12 x_13 x_14 x_15 x_16 x_17 x_18 x_19 res))) (fun sz => va_A (wM cB cI cJ cZ x_0 x_1 x_2 x_3 x_4 x_5 x_6 x_7 x_8 x_9 x_10 x_11 x_12 x_13 x_14 x_15 x_16 x_17 x_18 x_19 x0) sz) (fun sz => Or.inr rfl) rfl (by decide) rfl (Nat.le_of_ble_eq_true rfl) rfl ?_
  intro p e s m args below meth c C
  unfold FX8_ends at hF
  refine g_aload_n (z := 0) C (tdec DX8_ends 0 rfl) rfl rfl rfl ?_
  refine g_aload_n (z := 0) C (tdec DX8_ends 1 rfl) rfl rfl rfl ?_
  refine g_aload_n (z := 0) C (tdec DX8_ends 2 rfl) rfl rfl rfl ?_
  refine g_getf (C' := RX8) (T := TX8) (N := 27) (v := .int (MS_rf x0)) C 0 26 (gIn iw_X8) rfl rfl (by decide) (gMem fl_X8_152) rfl rfl (tdec DX8_ends 3 rfl) rfl ?_
  refine g_aload_n (z := 0) C (tdec DX8_ends 4 rfl) rfl rfl rfl ?_
  refine g_getf (C' := RX8) (T := TX8) (N := 27) (v := .int (MS_len x0)) C 0 19 (gIn iw_X8) rfl rfl (by decide) (gMem fl_X8_147) rfl rfl (tdec DX8_ends 5 rfl) rfl ?_
  obtain ⟨r1, y2, hF⟩ := o_bind hF
  refine g_callVlRS (q0 := 0) (S := [wM cB cI cJ cZ x_0 x_1 x_2 x_3 x_4 x_5 x_6 x_7 x_8 x_9 x_10 x_11 x_12 x_13 x_14 x_15 x_16 x_17 x_18 x_19 x0]) (S0 := [wM cB cI cJ cZ x_0 x_1 x_2 x_3 x_4 x_5 x_6 x_7 x_8 x_9 x_10 x_11 x_12 x_13 x_14 x_15 x_16 x_17 x_18 x_19 x0]) C (c_X8_sumOf l D cB cI cJ cZ x_0 x_1 x_2 x_3 x_4 x_5 x_6 x_7 x_8 x_9 x_10 x_11 x_12 x_13 x_14 x_15 x_16 x_17 x_18 x_19 y2) rfl rfl (gIV ml_X8_155 im_X8_sumOf sl_X8_sumOf in_X8 cd_X8_sumOf) rfl eX8_sumOf rfl ⟨rfl, rfl⟩ ⟨Nat.le_of_ble_eq_true rfl, Nat.le_of_ble_eq_true rfl⟩ rfl rfl rfl [0] rfl rfl rfl (Nat.le_of_ble_eq_true rfl) (tdec DX8_ends 6 rfl) rfl ?_
  refine g_bipush (v := 8) C (tdec DX8_ends 7 rfl) (by decide) rfl ?_
  obtain ⟨s3, y4, hF⟩ := o_bind hF
  refine g_callVvMS (q0 := 0) (W' := wM cB cI cJ cZ x_0 x_1 x_2 x_3 x_4 x_5 x_6 x_7 x_8 x_9 x_10 x_11 x_12 x_13 x_14 x_15 x_16 x_17 x_18 x_19 s3) (S := [wM cB cI cJ cZ x_0 x_1 x_2 x_3 x_4 x_5 x_6 x_7 x_8 x_9 x_10 x_11 x_12 x_13 x_14 x_15 x_16 x_17 x_18 x_19 x0]) (S0 := [wM cB cI cJ cZ x_0 x_1 x_2 x_3 x_4 x_5 x_6 x_7 x_8 x_9 x_10 x_11 x_12 x_13 x_14 x_15 x_16 x_17 x_18 x_19 x0]) (S1 := [wM cB cI cJ cZ x_0 x_1 x_2 x_3 x_4 x_5 x_6 x_7 x_8 x_9 x_10 x_11 x_12 x_13 x_14 x_15 x_16 x_17 x_18 x_19 s3]) (S' := [wM cB cI cJ cZ x_0 x_1 x_2 x_3 x_4 x_5 x_6 x_7 x_8 x_9 x_10 x_11 x_12 x_13 x_14 x_15 x_16 x_17 x_18 x_19 s3]) C (c_X8_put l D cB cI cJ cZ x_0 x_1 x_2 x_3 x_4 x_5 x_6 x_7 x_8 x_9 x_10 x_11 x_12 x_13 x_14 x_15 x_16 x_17 x_18 x_19 y4) rfl rfl (gIV ml_X8_159 im_X8_put sl_X8_put in_X8 cd_X8_put) rfl eX8_put rfl ⟨rfl, rfl⟩ ⟨Nat.le_of_ble_eq_true rfl, Nat.le_of_ble_eq_true rfl⟩ rfl rfl rfl [0] rfl rfl rfl rfl (gA_cons aM gA_nil) rfl rfl (Nat.le_of_ble_eq_true rfl) (tdec DX8_ends 8 rfl) rfl ?_
  refine g_aload_n (z := 0) C (tdec DX8_ends 9 rfl) rfl rfl rfl ?_
  refine g_aload_n (z := 0) C (tdec DX8_ends 10 rfl) rfl rfl rfl ?_
  refine g_getf (C' := RX8) (T := TX8) (N := 27) (v := .int (MS_len s3)) C 0 19 (gIn iw_X8) rfl rfl (by decide) (gMem fl_X8_147) rfl rfl (tdec DX8_ends 11 rfl) rfl ?_
  refine g_putf (C' := RX8) (T := TX8) (N := 27) (v := .int (MS_len s3)) (ws' := wM cB cI cJ cZ x_0 x_1 x_2 x_3 x_4 x_5 x_6 x_7 x_8 x_9 x_10 x_11 x_12 x_13 x_14 x_15 x_16 x_17 x_18 x_19 (MS_setrf s3 (MS_len s3))) C 0 26 tyX8 tyX8_ok nmX8 (gIn iw_X8) rfl rfl (by decide) (gMem fl_X8_152) rfl rfl (tyX8_ok 26 (by decide)) rfl rfl (Nat.le_of_ble_eq_true rfl) rfl (tdec DX8_ends 12 rfl) rfl ?_
  refine g_aload_n (z := 0) C (tdec DX8_ends 13 rfl) rfl rfl rfl ?_
  refine g_dup C (tdec DX8_ends 14 rfl) rfl rfl ?_
  refine g_getf (C' := RX8) (T := TX8) (N := 27) (v := .int (MS_recs s3)) C 0 20 (gIn iw_X8) rfl rfl (by decide) (gMem fl_X8_163) rfl rfl (tdec DX8_ends 15 rfl) rfl ?_
  refine g_iconst (v := 1) C (tdec DX8_ends 16 rfl) (by decide) rfl ?_
  refine g_iadd C (tdec DX8_ends 17 rfl) rfl ?_
  refine g_putf (C' := RX8) (T := TX8) (N := 27) (v := .int ((MS_recs s3) + 1)) (ws' := wM cB cI cJ cZ x_0 x_1 x_2 x_3 x_4 x_5 x_6 x_7 x_8 x_9 x_10 x_11 x_12 x_13 x_14 x_15 x_16 x_17 x_18 x_19 (MS_setrecs (MS_setrf s3 (MS_len s3)) ((MS_recs s3) + 1))) C 0 20 tyX8 tyX8_ok nmX8 (gIn iw_X8) rfl rfl (by decide) (gMem fl_X8_163) rfl rfl (tyX8_ok 20 (by decide)) rfl rfl (Nat.le_of_ble_eq_true rfl) rfl (tdec DX8_ends 18 rfl) rfl ?_
  have hr9 := o_some hF
  subst hr9
  exact g_vret C rfl (tdec DX8_ends 19 rfl)
def FX8_brings (x0 : MS) (p1 : Int32) (p2 : Int32) (p3 : Int32) (p4 : Int32) (p5 : Int32) : Option (Int32 × MS) :=
  (FX8_born x0 p1 p2).bind fun r1 =>
  if p5 < r1 then
    (FX8_told x0 p1 p2).bind fun r4 =>
    if r4 = (-1) then
      (FX8_put x0 3 1).bind fun s18 =>
      (FX8_put s18 ((p3 : Int32).toInt64) 2).bind fun s20 =>
      (FX8_put s20 ((p4 : Int32).toInt64) 2).bind fun s22 =>
      (FX8_ends s22).bind fun s24 =>
      some (0, (MS_setcl s24 ((MS_cl s24) + 1)))
    else
      if p4 ≤ 1 then
        (FX8_put (MS_setsn x0 ((MS_sn x0) + 1)) 2 1).bind fun s8 =>
        (FX8_put s8 ((p3 : Int32).toInt64) 2).bind fun s10 =>
        (ald 1200 (MS_dat s10) ((600 * p1) + r4)).bind fun r12 =>
        (FX8_put s10 r12 8).bind fun s14 =>
        (FX8_ends s14).bind fun s16 =>
        some (0, (MS_setwr s16 ((MS_wr s16) + 1)))
      else
        some (1, (MS_setsn x0 ((MS_sn x0) + 1)))
  else
    some (0, x0)
def rX8_brings : Room := { frames := 2, cells := 0, slots := 0, locals := 45 }
set_option maxHeartbeats 4000000 in
set_option maxRecDepth 100000 in
theorem c_X8_brings (l : Launch) (D : va_G) (cB cI cJ cZ : ClassId) (x_0 x_1 x_2 x_3 x_4 x_5 x_6 x_7 x_8 x_9 x_10 x_11 x_12 x_13 x_14 x_15 x_16 x_17 x_18 x_19 : Nat) {x0 : MS} {p1 : Int32} {p2 : Int32} {p3 : Int32} {p4 : Int32} {p5 : Int32} {res : Int32 × MS} (hF : FX8_brings x0 p1 p2 p3 p4 p5 = some res) : gMi l yX8_brings wsX8_brings rX8_brings D (gT cB cI cJ cZ) [.ref x_0, .int p1, .int p2, .int p3, .int p4, .int p5] (wM cB cI cJ cZ x_0 x_1 x_2 x_3 x_4 x_5 x_6 x_7 x_8 x_9 x_10 x_11 x_12 x_13 x_14 x_15 x_16 x_17 x_18 x_19 x0) res.1 (wM cB cI cJ cZ x_0 x_1 x_2 x_3 x_4 x_5 x_6 x_7 x_8 x_9 x_10 x_11 x_12 x_13 x_14 x_15 x_16 x_17 x_18 x_19 res.2) := by
  refine g_enter (own := RX8) (free := (fun sz => va_A (wM cB cI cJ cZ x_0 x_1 x_2 x_3 x_4 x_5 x_6 x_7 x_8 x_9 x_10 x_11 x_12 x_13 x_14 x_15 x_16 x_17 x_18 x_19 x0) sz)) (Qc := (fun sz => gQi D (wM cB cI cJ cZ x_0 x_1 x_2 x_3 x_4 x_5 x_6 x_7 x_8 x_9 x_10 x_11 x_12 x_13 x_14 x_15 x_16 x_17 x_18 x_19 x0) sz res.1 (wM cB cI cJ cZ x_0 x_1 x_2 x_3 x_4 x_5 x_6 x_7 x_8 x_9 x_10 x_11 x_12 x_13 x_14 x_15 x_16 x_17 x_18 x_19 res.2))) (fun sz => va_A (wM cB cI cJ cZ x_0 x_1 x_2 x_3 x_4 x_5 x_6 x_7 x_8 x_9 x_10 x_11 x_12 x_13 x_14 x_15 x_16 x_17 x_18 x_19 x0) sz) (fun sz => Or.inr rfl) rfl (by decide) rfl (Nat.le_of_ble_eq_true rfl) rfl ?_
  intro p e s m args below meth c C
  unfold FX8_brings at hF
  refine g_aload_n (z := 0) C (tdec DX8_brings 0 rfl) rfl rfl rfl ?_
  refine g_iload_n (z := 1) C (tdec DX8_brings 1 rfl) rfl rfl rfl ?_
  refine g_iload_n (z := 2) C (tdec DX8_brings 2 rfl) rfl rfl rfl ?_
  obtain ⟨r1, y2, hF⟩ := o_bind hF
  refine g_callViRS (q0 := 0) (S := [wM cB cI cJ cZ x_0 x_1 x_2 x_3 x_4 x_5 x_6 x_7 x_8 x_9 x_10 x_11 x_12 x_13 x_14 x_15 x_16 x_17 x_18 x_19 x0]) (S0 := [wM cB cI cJ cZ x_0 x_1 x_2 x_3 x_4 x_5 x_6 x_7 x_8 x_9 x_10 x_11 x_12 x_13 x_14 x_15 x_16 x_17 x_18 x_19 x0]) C (c_X8_born l D cB cI cJ cZ x_0 x_1 x_2 x_3 x_4 x_5 x_6 x_7 x_8 x_9 x_10 x_11 x_12 x_13 x_14 x_15 x_16 x_17 x_18 x_19 y2) rfl rfl (gIV ml_X8_97 im_X8_born sl_X8_born in_X8 cd_X8_born) rfl eX8_born rfl ⟨rfl, rfl⟩ ⟨Nat.le_of_ble_eq_true rfl, Nat.le_of_ble_eq_true rfl⟩ rfl rfl rfl [0] rfl rfl rfl (Nat.le_of_ble_eq_true rfl) (tdec DX8_brings 3 rfl) rfl ?_
  refine g_iload (z := 5) C (tdec DX8_brings 4 rfl) rfl rfl ?_
  refine g_icmp_gt (pt := 13) C (tdec DX8_brings 5 rfl) (by decide) rfl (fun h3 => ?_) (fun h3 => ?_)
  · have hF := o_ifp hF h3
    refine g_aload_n (z := 0) C (tdec DX8_brings 8 rfl) rfl rfl rfl ?_
    refine g_iload_n (z := 1) C (tdec DX8_brings 9 rfl) rfl rfl rfl ?_
    refine g_iload_n (z := 2) C (tdec DX8_brings 10 rfl) rfl rfl rfl ?_
    obtain ⟨r4, y5, hF⟩ := o_bind hF
    refine g_callViRS (q0 := 0) (S := [wM cB cI cJ cZ x_0 x_1 x_2 x_3 x_4 x_5 x_6 x_7 x_8 x_9 x_10 x_11 x_12 x_13 x_14 x_15 x_16 x_17 x_18 x_19 x0]) (S0 := [wM cB cI cJ cZ x_0 x_1 x_2 x_3 x_4 x_5 x_6 x_7 x_8 x_9 x_10 x_11 x_12 x_13 x_14 x_15 x_16 x_17 x_18 x_19 x0]) C (c_X8_told l D cB cI cJ cZ x_0 x_1 x_2 x_3 x_4 x_5 x_6 x_7 x_8 x_9 x_10 x_11 x_12 x_13 x_14 x_15 x_16 x_17 x_18 x_19 y5) rfl rfl (gIV ml_X8_90 im_X8_told sl_X8_told in_X8 cd_X8_told) rfl eX8_told rfl ⟨rfl, rfl⟩ ⟨Nat.le_of_ble_eq_true rfl, Nat.le_of_ble_eq_true rfl⟩ rfl rfl rfl [0] rfl rfl rfl (Nat.le_of_ble_eq_true rfl) (tdec DX8_brings 11 rfl) rfl ?_
    refine g_istore (L' := [(6, .int r4), (0, .ref x_0), (1, .int p1), (2, .int p2), (3, .int p3), (4, .int p4), (5, .int p5)]) C (tdec DX8_brings 12 rfl) (by decide) rfl rfl ?_
    refine g_iload (z := 0) C (tdec DX8_brings 13 rfl) rfl rfl ?_
    refine g_iconst (v := (-1)) C (tdec DX8_brings 14 rfl) (by decide) rfl ?_
    refine g_icmp_ne (pt := 66) C (tdec DX8_brings 15 rfl) (by decide) rfl (fun h6 => ?_) (fun h6 => ?_)
    · have hF := o_ifn hF h6
      refine g_aload_n (z := 1) C (tdec DX8_brings 40 rfl) rfl rfl rfl ?_
      refine g_dup C (tdec DX8_brings 41 rfl) rfl rfl ?_
      refine g_getf (C' := RX8) (T := TX8) (N := 27) (v := .int (MS_sn x0)) C 0 23 (gIn iw_X8) rfl rfl (by decide) (gMem fl_X8_173) rfl rfl (tdec DX8_brings 42 rfl) rfl ?_
      refine g_iconst (v := 1) C (tdec DX8_brings 43 rfl) (by decide) rfl ?_
      refine g_iadd C (tdec DX8_brings 44 rfl) rfl ?_
      refine g_putf (C' := RX8) (T := TX8) (N := 27) (v := .int ((MS_sn x0) + 1)) (ws' := wM cB cI cJ cZ x_0 x_1 x_2 x_3 x_4 x_5 x_6 x_7 x_8 x_9 x_10 x_11 x_12 x_13 x_14 x_15 x_16 x_17 x_18 x_19 (MS_setsn x0 ((MS_sn x0) + 1))) C 0 23 tyX8 tyX8_ok nmX8 (gIn iw_X8) rfl rfl (by decide) (gMem fl_X8_173) rfl rfl (tyX8_ok 23 (by decide)) rfl rfl (Nat.le_of_ble_eq_true rfl) rfl (tdec DX8_brings 45 rfl) rfl ?_
      refine g_iload (z := 5) C (tdec DX8_brings 46 rfl) rfl rfl ?_
      refine g_iconst (v := 1) C (tdec DX8_brings 47 rfl) (by decide) rfl ?_
      refine g_icmp_le (pt := 84) C (tdec DX8_brings 48 rfl) (by decide) rfl (fun h7 => ?_) (fun h7 => ?_)
      · have hF := o_ifp hF h7
        refine g_aload_n (z := 1) C (tdec DX8_brings 51 rfl) rfl rfl rfl ?_
        refine g_ldc2 C (gMem kl_X8_176) (tdec DX8_brings 52 rfl) rfl ?_
        refine g_iconst (v := 1) C (tdec DX8_brings 53 rfl) (by decide) rfl ?_
        obtain ⟨s8, y9, hF⟩ := o_bind hF
        refine g_callVvMS (q0 := 0) (W' := wM cB cI cJ cZ x_0 x_1 x_2 x_3 x_4 x_5 x_6 x_7 x_8 x_9 x_10 x_11 x_12 x_13 x_14 x_15 x_16 x_17 x_18 x_19 s8) (S := [wM cB cI cJ cZ x_0 x_1 x_2 x_3 x_4 x_5 x_6 x_7 x_8 x_9 x_10 x_11 x_12 x_13 x_14 x_15 x_16 x_17 x_18 x_19 (MS_setsn x0 ((MS_sn x0) + 1))]) (S0 := [wM cB cI cJ cZ x_0 x_1 x_2 x_3 x_4 x_5 x_6 x_7 x_8 x_9 x_10 x_11 x_12 x_13 x_14 x_15 x_16 x_17 x_18 x_19 (MS_setsn x0 ((MS_sn x0) + 1))]) (S1 := [wM cB cI cJ cZ x_0 x_1 x_2 x_3 x_4 x_5 x_6 x_7 x_8 x_9 x_10 x_11 x_12 x_13 x_14 x_15 x_16 x_17 x_18 x_19 s8]) (S' := [wM cB cI cJ cZ x_0 x_1 x_2 x_3 x_4 x_5 x_6 x_7 x_8 x_9 x_10 x_11 x_12 x_13 x_14 x_15 x_16 x_17 x_18 x_19 s8]) C (c_X8_put l D cB cI cJ cZ x_0 x_1 x_2 x_3 x_4 x_5 x_6 x_7 x_8 x_9 x_10 x_11 x_12 x_13 x_14 x_15 x_16 x_17 x_18 x_19 y9) rfl rfl (gIV ml_X8_159 im_X8_put sl_X8_put in_X8 cd_X8_put) rfl eX8_put rfl ⟨rfl, rfl⟩ ⟨Nat.le_of_ble_eq_true rfl, Nat.le_of_ble_eq_true rfl⟩ rfl rfl rfl [0] rfl rfl rfl rfl (gA_cons aM gA_nil) rfl rfl (Nat.le_of_ble_eq_true rfl) (tdec DX8_brings 54 rfl) rfl ?_
        refine g_aload_n (z := 1) C (tdec DX8_brings 55 rfl) rfl rfl rfl ?_
        refine g_iload_n (z := 4) C (tdec DX8_brings 56 rfl) rfl rfl rfl ?_
        refine g_i2l C (tdec DX8_brings 57 rfl) rfl ?_
        refine g_iconst (v := 2) C (tdec DX8_brings 58 rfl) (by decide) rfl ?_
        obtain ⟨s10, y11, hF⟩ := o_bind hF
        refine g_callVvMS (q0 := 0) (W' := wM cB cI cJ cZ x_0 x_1 x_2 x_3 x_4 x_5 x_6 x_7 x_8 x_9 x_10 x_11 x_12 x_13 x_14 x_15 x_16 x_17 x_18 x_19 s10) (S := [wM cB cI cJ cZ x_0 x_1 x_2 x_3 x_4 x_5 x_6 x_7 x_8 x_9 x_10 x_11 x_12 x_13 x_14 x_15 x_16 x_17 x_18 x_19 s8]) (S0 := [wM cB cI cJ cZ x_0 x_1 x_2 x_3 x_4 x_5 x_6 x_7 x_8 x_9 x_10 x_11 x_12 x_13 x_14 x_15 x_16 x_17 x_18 x_19 s8]) (S1 := [wM cB cI cJ cZ x_0 x_1 x_2 x_3 x_4 x_5 x_6 x_7 x_8 x_9 x_10 x_11 x_12 x_13 x_14 x_15 x_16 x_17 x_18 x_19 s10]) (S' := [wM cB cI cJ cZ x_0 x_1 x_2 x_3 x_4 x_5 x_6 x_7 x_8 x_9 x_10 x_11 x_12 x_13 x_14 x_15 x_16 x_17 x_18 x_19 s10]) C (c_X8_put l D cB cI cJ cZ x_0 x_1 x_2 x_3 x_4 x_5 x_6 x_7 x_8 x_9 x_10 x_11 x_12 x_13 x_14 x_15 x_16 x_17 x_18 x_19 y11) rfl rfl (gIV ml_X8_159 im_X8_put sl_X8_put in_X8 cd_X8_put) rfl eX8_put rfl ⟨rfl, rfl⟩ ⟨Nat.le_of_ble_eq_true rfl, Nat.le_of_ble_eq_true rfl⟩ rfl rfl rfl [0] rfl rfl rfl rfl (gA_cons aM gA_nil) rfl rfl (Nat.le_of_ble_eq_true rfl) (tdec DX8_brings 59 rfl) rfl ?_
        refine g_aload_n (z := 1) C (tdec DX8_brings 60 rfl) rfl rfl rfl ?_
        refine g_aload_n (z := 1) C (tdec DX8_brings 61 rfl) rfl rfl rfl ?_
        refine g_getf (C' := RX8) (T := TX8) (N := 27) (v := .ref x_5) C 0 5 (gIn iw_X8) rfl rfl (by decide) (gMem fl_X8_22) rfl rfl (tdec DX8_brings 62 rfl) rfl ?_
        refine g_sipush (v := 600) C (tdec DX8_brings 63 rfl) (by decide) rfl ?_
        refine g_iload_n (z := 2) C (tdec DX8_brings 64 rfl) rfl rfl rfl ?_
        refine g_imul C (tdec DX8_brings 65 rfl) rfl ?_
        refine g_iload (z := 0) C (tdec DX8_brings 66 rfl) rfl rfl ?_
        refine g_iadd C (tdec DX8_brings 67 rfl) rfl ?_
        obtain ⟨r12, y13, hF⟩ := o_bind hF
        refine g_lald C 5 2 rfl rfl y13 (tdec DX8_brings 68 rfl) rfl ?_
        refine g_bipush (v := 8) C (tdec DX8_brings 69 rfl) (by decide) rfl ?_
        obtain ⟨s14, y15, hF⟩ := o_bind hF
        refine g_callVvMS (q0 := 0) (W' := wM cB cI cJ cZ x_0 x_1 x_2 x_3 x_4 x_5 x_6 x_7 x_8 x_9 x_10 x_11 x_12 x_13 x_14 x_15 x_16 x_17 x_18 x_19 s14) (S := [wM cB cI cJ cZ x_0 x_1 x_2 x_3 x_4 x_5 x_6 x_7 x_8 x_9 x_10 x_11 x_12 x_13 x_14 x_15 x_16 x_17 x_18 x_19 s10]) (S0 := [wM cB cI cJ cZ x_0 x_1 x_2 x_3 x_4 x_5 x_6 x_7 x_8 x_9 x_10 x_11 x_12 x_13 x_14 x_15 x_16 x_17 x_18 x_19 s10]) (S1 := [wM cB cI cJ cZ x_0 x_1 x_2 x_3 x_4 x_5 x_6 x_7 x_8 x_9 x_10 x_11 x_12 x_13 x_14 x_15 x_16 x_17 x_18 x_19 s14]) (S' := [wM cB cI cJ cZ x_0 x_1 x_2 x_3 x_4 x_5 x_6 x_7 x_8 x_9 x_10 x_11 x_12 x_13 x_14 x_15 x_16 x_17 x_18 x_19 s14]) C (c_X8_put l D cB cI cJ cZ x_0 x_1 x_2 x_3 x_4 x_5 x_6 x_7 x_8 x_9 x_10 x_11 x_12 x_13 x_14 x_15 x_16 x_17 x_18 x_19 y15) rfl rfl (gIV ml_X8_159 im_X8_put sl_X8_put in_X8 cd_X8_put) rfl eX8_put rfl ⟨rfl, rfl⟩ ⟨Nat.le_of_ble_eq_true rfl, Nat.le_of_ble_eq_true rfl⟩ rfl rfl rfl [0] rfl rfl rfl rfl (gA_cons aM gA_nil) rfl rfl (Nat.le_of_ble_eq_true rfl) (tdec DX8_brings 70 rfl) rfl ?_
        refine g_aload_n (z := 1) C (tdec DX8_brings 71 rfl) rfl rfl rfl ?_
        obtain ⟨s16, y17, hF⟩ := o_bind hF
        refine g_callVvMS (q0 := 0) (W' := wM cB cI cJ cZ x_0 x_1 x_2 x_3 x_4 x_5 x_6 x_7 x_8 x_9 x_10 x_11 x_12 x_13 x_14 x_15 x_16 x_17 x_18 x_19 s16) (S := [wM cB cI cJ cZ x_0 x_1 x_2 x_3 x_4 x_5 x_6 x_7 x_8 x_9 x_10 x_11 x_12 x_13 x_14 x_15 x_16 x_17 x_18 x_19 s14]) (S0 := [wM cB cI cJ cZ x_0 x_1 x_2 x_3 x_4 x_5 x_6 x_7 x_8 x_9 x_10 x_11 x_12 x_13 x_14 x_15 x_16 x_17 x_18 x_19 s14]) (S1 := [wM cB cI cJ cZ x_0 x_1 x_2 x_3 x_4 x_5 x_6 x_7 x_8 x_9 x_10 x_11 x_12 x_13 x_14 x_15 x_16 x_17 x_18 x_19 s16]) (S' := [wM cB cI cJ cZ x_0 x_1 x_2 x_3 x_4 x_5 x_6 x_7 x_8 x_9 x_10 x_11 x_12 x_13 x_14 x_15 x_16 x_17 x_18 x_19 s16]) C (c_X8_ends l D cB cI cJ cZ x_0 x_1 x_2 x_3 x_4 x_5 x_6 x_7 x_8 x_9 x_10 x_11 x_12 x_13 x_14 x_15 x_16 x_17 x_18 x_19 y17) rfl rfl (gIV ml_X8_168 im_X8_ends sl_X8_ends in_X8 cd_X8_ends) rfl eX8_ends rfl ⟨rfl, rfl⟩ ⟨Nat.le_of_ble_eq_true rfl, Nat.le_of_ble_eq_true rfl⟩ rfl rfl rfl [0] rfl rfl rfl rfl (gA_cons aM gA_nil) rfl rfl (Nat.le_of_ble_eq_true rfl) (tdec DX8_brings 72 rfl) rfl ?_
        refine g_aload_n (z := 1) C (tdec DX8_brings 73 rfl) rfl rfl rfl ?_
        refine g_dup C (tdec DX8_brings 74 rfl) rfl rfl ?_
        refine g_getf (C' := RX8) (T := TX8) (N := 27) (v := .int (MS_wr s16)) C 0 21 (gIn iw_X8) rfl rfl (by decide) (gMem fl_X8_178) rfl rfl (tdec DX8_brings 75 rfl) rfl ?_
        refine g_iconst (v := 1) C (tdec DX8_brings 76 rfl) (by decide) rfl ?_
        refine g_iadd C (tdec DX8_brings 77 rfl) rfl ?_
        refine g_putf (C' := RX8) (T := TX8) (N := 27) (v := .int ((MS_wr s16) + 1)) (ws' := wM cB cI cJ cZ x_0 x_1 x_2 x_3 x_4 x_5 x_6 x_7 x_8 x_9 x_10 x_11 x_12 x_13 x_14 x_15 x_16 x_17 x_18 x_19 (MS_setwr s16 ((MS_wr s16) + 1))) C 0 21 tyX8 tyX8_ok nmX8 (gIn iw_X8) rfl rfl (by decide) (gMem fl_X8_178) rfl rfl (tyX8_ok 21 (by decide)) rfl rfl (Nat.le_of_ble_eq_true rfl) rfl (tdec DX8_brings 78 rfl) rfl ?_
        refine g_iconst (v := 0) C (tdec DX8_brings 79 rfl) (by decide) rfl ?_
        have hr9 := o_some hF
        subst hr9
        exact g_zret C rfl rfl rfl (tdec DX8_brings 80 rfl)
      · have hF := o_ifn hF h7
        refine g_iconst (v := 1) C (tdec DX8_brings 49 rfl) (by decide) rfl ?_
        have hr9 := o_some hF
        subst hr9
        exact g_zret C rfl rfl rfl (tdec DX8_brings 50 rfl)
    · have hF := o_ifp hF h6
      refine g_aload_n (z := 1) C (tdec DX8_brings 16 rfl) rfl rfl rfl ?_
      refine g_ldc2 C (gMem kl_X8_166) (tdec DX8_brings 17 rfl) rfl ?_
      refine g_iconst (v := 1) C (tdec DX8_brings 18 rfl) (by decide) rfl ?_
      obtain ⟨s18, y19, hF⟩ := o_bind hF
      refine g_callVvMS (q0 := 0) (W' := wM cB cI cJ cZ x_0 x_1 x_2 x_3 x_4 x_5 x_6 x_7 x_8 x_9 x_10 x_11 x_12 x_13 x_14 x_15 x_16 x_17 x_18 x_19 s18) (S := [wM cB cI cJ cZ x_0 x_1 x_2 x_3 x_4 x_5 x_6 x_7 x_8 x_9 x_10 x_11 x_12 x_13 x_14 x_15 x_16 x_17 x_18 x_19 x0]) (S0 := [wM cB cI cJ cZ x_0 x_1 x_2 x_3 x_4 x_5 x_6 x_7 x_8 x_9 x_10 x_11 x_12 x_13 x_14 x_15 x_16 x_17 x_18 x_19 x0]) (S1 := [wM cB cI cJ cZ x_0 x_1 x_2 x_3 x_4 x_5 x_6 x_7 x_8 x_9 x_10 x_11 x_12 x_13 x_14 x_15 x_16 x_17 x_18 x_19 s18]) (S' := [wM cB cI cJ cZ x_0 x_1 x_2 x_3 x_4 x_5 x_6 x_7 x_8 x_9 x_10 x_11 x_12 x_13 x_14 x_15 x_16 x_17 x_18 x_19 s18]) C (c_X8_put l D cB cI cJ cZ x_0 x_1 x_2 x_3 x_4 x_5 x_6 x_7 x_8 x_9 x_10 x_11 x_12 x_13 x_14 x_15 x_16 x_17 x_18 x_19 y19) rfl rfl (gIV ml_X8_159 im_X8_put sl_X8_put in_X8 cd_X8_put) rfl eX8_put rfl ⟨rfl, rfl⟩ ⟨Nat.le_of_ble_eq_true rfl, Nat.le_of_ble_eq_true rfl⟩ rfl rfl rfl [0] rfl rfl rfl rfl (gA_cons aM gA_nil) rfl rfl (Nat.le_of_ble_eq_true rfl) (tdec DX8_brings 19 rfl) rfl ?_
      refine g_aload_n (z := 1) C (tdec DX8_brings 20 rfl) rfl rfl rfl ?_
      refine g_iload_n (z := 4) C (tdec DX8_brings 21 rfl) rfl rfl rfl ?_
      refine g_i2l C (tdec DX8_brings 22 rfl) rfl ?_
      refine g_iconst (v := 2) C (tdec DX8_brings 23 rfl) (by decide) rfl ?_
      obtain ⟨s20, y21, hF⟩ := o_bind hF
      refine g_callVvMS (q0 := 0) (W' := wM cB cI cJ cZ x_0 x_1 x_2 x_3 x_4 x_5 x_6 x_7 x_8 x_9 x_10 x_11 x_12 x_13 x_14 x_15 x_16 x_17 x_18 x_19 s20) (S := [wM cB cI cJ cZ x_0 x_1 x_2 x_3 x_4 x_5 x_6 x_7 x_8 x_9 x_10 x_11 x_12 x_13 x_14 x_15 x_16 x_17 x_18 x_19 s18]) (S0 := [wM cB cI cJ cZ x_0 x_1 x_2 x_3 x_4 x_5 x_6 x_7 x_8 x_9 x_10 x_11 x_12 x_13 x_14 x_15 x_16 x_17 x_18 x_19 s18]) (S1 := [wM cB cI cJ cZ x_0 x_1 x_2 x_3 x_4 x_5 x_6 x_7 x_8 x_9 x_10 x_11 x_12 x_13 x_14 x_15 x_16 x_17 x_18 x_19 s20]) (S' := [wM cB cI cJ cZ x_0 x_1 x_2 x_3 x_4 x_5 x_6 x_7 x_8 x_9 x_10 x_11 x_12 x_13 x_14 x_15 x_16 x_17 x_18 x_19 s20]) C (c_X8_put l D cB cI cJ cZ x_0 x_1 x_2 x_3 x_4 x_5 x_6 x_7 x_8 x_9 x_10 x_11 x_12 x_13 x_14 x_15 x_16 x_17 x_18 x_19 y21) rfl rfl (gIV ml_X8_159 im_X8_put sl_X8_put in_X8 cd_X8_put) rfl eX8_put rfl ⟨rfl, rfl⟩ ⟨Nat.le_of_ble_eq_true rfl, Nat.le_of_ble_eq_true rfl⟩ rfl rfl rfl [0] rfl rfl rfl rfl (gA_cons aM gA_nil) rfl rfl (Nat.le_of_ble_eq_true rfl) (tdec DX8_brings 24 rfl) rfl ?_
      refine g_aload_n (z := 1) C (tdec DX8_brings 25 rfl) rfl rfl rfl ?_
      refine g_iload (z := 5) C (tdec DX8_brings 26 rfl) rfl rfl ?_
      refine g_i2l C (tdec DX8_brings 27 rfl) rfl ?_
      refine g_iconst (v := 2) C (tdec DX8_brings 28 rfl) (by decide) rfl ?_
      obtain ⟨s22, y23, hF⟩ := o_bind hF
      refine g_callVvMS (q0 := 0) (W' := wM cB cI cJ cZ x_0 x_1 x_2 x_3 x_4 x_5 x_6 x_7 x_8 x_9 x_10 x_11 x_12 x_13 x_14 x_15 x_16 x_17 x_18 x_19 s22) (S := [wM cB cI cJ cZ x_0 x_1 x_2 x_3 x_4 x_5 x_6 x_7 x_8 x_9 x_10 x_11 x_12 x_13 x_14 x_15 x_16 x_17 x_18 x_19 s20]) (S0 := [wM cB cI cJ cZ x_0 x_1 x_2 x_3 x_4 x_5 x_6 x_7 x_8 x_9 x_10 x_11 x_12 x_13 x_14 x_15 x_16 x_17 x_18 x_19 s20]) (S1 := [wM cB cI cJ cZ x_0 x_1 x_2 x_3 x_4 x_5 x_6 x_7 x_8 x_9 x_10 x_11 x_12 x_13 x_14 x_15 x_16 x_17 x_18 x_19 s22]) (S' := [wM cB cI cJ cZ x_0 x_1 x_2 x_3 x_4 x_5 x_6 x_7 x_8 x_9 x_10 x_11 x_12 x_13 x_14 x_15 x_16 x_17 x_18 x_19 s22]) C (c_X8_put l D cB cI cJ cZ x_0 x_1 x_2 x_3 x_4 x_5 x_6 x_7 x_8 x_9 x_10 x_11 x_12 x_13 x_14 x_15 x_16 x_17 x_18 x_19 y23) rfl rfl (gIV ml_X8_159 im_X8_put sl_X8_put in_X8 cd_X8_put) rfl eX8_put rfl ⟨rfl, rfl⟩ ⟨Nat.le_of_ble_eq_true rfl, Nat.le_of_ble_eq_true rfl⟩ rfl rfl rfl [0] rfl rfl rfl rfl (gA_cons aM gA_nil) rfl rfl (Nat.le_of_ble_eq_true rfl) (tdec DX8_brings 29 rfl) rfl ?_
      refine g_aload_n (z := 1) C (tdec DX8_brings 30 rfl) rfl rfl rfl ?_
      obtain ⟨s24, y25, hF⟩ := o_bind hF
      refine g_callVvMS (q0 := 0) (W' := wM cB cI cJ cZ x_0 x_1 x_2 x_3 x_4 x_5 x_6 x_7 x_8 x_9 x_10 x_11 x_12 x_13 x_14 x_15 x_16 x_17 x_18 x_19 s24) (S := [wM cB cI cJ cZ x_0 x_1 x_2 x_3 x_4 x_5 x_6 x_7 x_8 x_9 x_10 x_11 x_12 x_13 x_14 x_15 x_16 x_17 x_18 x_19 s22]) (S0 := [wM cB cI cJ cZ x_0 x_1 x_2 x_3 x_4 x_5 x_6 x_7 x_8 x_9 x_10 x_11 x_12 x_13 x_14 x_15 x_16 x_17 x_18 x_19 s22]) (S1 := [wM cB cI cJ cZ x_0 x_1 x_2 x_3 x_4 x_5 x_6 x_7 x_8 x_9 x_10 x_11 x_12 x_13 x_14 x_15 x_16 x_17 x_18 x_19 s24]) (S' := [wM cB cI cJ cZ x_0 x_1 x_2 x_3 x_4 x_5 x_6 x_7 x_8 x_9 x_10 x_11 x_12 x_13 x_14 x_15 x_16 x_17 x_18 x_19 s24]) C (c_X8_ends l D cB cI cJ cZ x_0 x_1 x_2 x_3 x_4 x_5 x_6 x_7 x_8 x_9 x_10 x_11 x_12 x_13 x_14 x_15 x_16 x_17 x_18 x_19 y25) rfl rfl (gIV ml_X8_168 im_X8_ends sl_X8_ends in_X8 cd_X8_ends) rfl eX8_ends rfl ⟨rfl, rfl⟩ ⟨Nat.le_of_ble_eq_true rfl, Nat.le_of_ble_eq_true rfl⟩ rfl rfl rfl [0] rfl rfl rfl rfl (gA_cons aM gA_nil) rfl rfl (Nat.le_of_ble_eq_true rfl) (tdec DX8_brings 31 rfl) rfl ?_
      refine g_aload_n (z := 1) C (tdec DX8_brings 32 rfl) rfl rfl rfl ?_
      refine g_dup C (tdec DX8_brings 33 rfl) rfl rfl ?_
      refine g_getf (C' := RX8) (T := TX8) (N := 27) (v := .int (MS_cl s24)) C 0 22 (gIn iw_X8) rfl rfl (by decide) (gMem fl_X8_171) rfl rfl (tdec DX8_brings 34 rfl) rfl ?_
      refine g_iconst (v := 1) C (tdec DX8_brings 35 rfl) (by decide) rfl ?_
      refine g_iadd C (tdec DX8_brings 36 rfl) rfl ?_
      refine g_putf (C' := RX8) (T := TX8) (N := 27) (v := .int ((MS_cl s24) + 1)) (ws' := wM cB cI cJ cZ x_0 x_1 x_2 x_3 x_4 x_5 x_6 x_7 x_8 x_9 x_10 x_11 x_12 x_13 x_14 x_15 x_16 x_17 x_18 x_19 (MS_setcl s24 ((MS_cl s24) + 1))) C 0 22 tyX8 tyX8_ok nmX8 (gIn iw_X8) rfl rfl (by decide) (gMem fl_X8_171) rfl rfl (tyX8_ok 22 (by decide)) rfl rfl (Nat.le_of_ble_eq_true rfl) rfl (tdec DX8_brings 37 rfl) rfl ?_
      refine g_iconst (v := 0) C (tdec DX8_brings 38 rfl) (by decide) rfl ?_
      have hr9 := o_some hF
      subst hr9
      exact g_zret C rfl rfl rfl (tdec DX8_brings 39 rfl)
  · have hF := o_ifn hF h3
    refine g_iconst (v := 0) C (tdec DX8_brings 6 rfl) (by decide) rfl ?_
    have hr9 := o_some hF
    subst hr9
    exact g_zret C rfl rfl rfl (tdec DX8_brings 7 rfl)
