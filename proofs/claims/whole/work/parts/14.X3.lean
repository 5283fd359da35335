/-! PART 14.X3: walks, printed by wip/whole/walk.py -/
def FX3_received (r0 : RC) : Option (Int32) :=
  some (RC_rec r0)
def rX3_received : Room := { frames := 0, cells := 0, slots := 0, locals := 0 }
set_option maxHeartbeats 4000000 in
set_option maxRecDepth 100000 in
theorem c_X3_received (l : Launch) (D : va_G) (cB cI cJ cZ : ClassId) (r_0 r_xV r_xSB : Nat) {r0 : RC} {res : Int32} (hF : FX3_received r0 = some res) : gRi l yX3_received wsX3_received rX3_received D (gT cB cI cJ cZ) [.ref r_0] (wRC r_0 r_xV r_xSB r0) res := by
  refine g_enter (own := RX3) (free := (fun _ _ => False)) (Qc := (fun sz => gRQi res)) (fun _ _ => True) (fun sz => Or.inl rfl) rfl (by decide) rfl (Nat.le_of_ble_eq_true rfl) rfl ?_
  intro p e s m args below meth c C
  unfold FX3_received at hF
  refine g_aload_n (z := 0) C (tdec DX3_received 0 rfl) rfl rfl rfl ?_
  refine g_getf (C' := RX3) (T := TX3) (N := 5) (v := .int (RC_rec r0)) C 0 3 (gIn iw_X3) rfl rfl (by decide) (gMem fl_X3_19) rfl rfl (tdec DX3_received 1 rfl) rfl ?_
  have hr9 := o_some hF
  subst hr9
  exact g_iretR C rfl (tdec DX3_received 2 rfl)
def FX3_forget (r0 : RC) : Option (RC) :=
  some (RC_setrec r0 0)
def rX3_forget : Room := { frames := 0, cells := 0, slots := 0, locals := 0 }
set_option maxHeartbeats 4000000 in
set_option maxRecDepth 100000 in
theorem c_X3_forget (l : Launch) (D : va_G) (cB cI cJ cZ : ClassId) (r_0 r_xV r_xSB : Nat) {r0 : RC} {res : RC} (hF : FX3_forget r0 = some res) : gMv l yX3_forget wsX3_forget rX3_forget D (gT cB cI cJ cZ) [.ref r_0] (wRC r_0 r_xV r_xSB r0) (wRC r_0 r_xV r_xSB res) := by
  refine g_enter (own := RX3) (free := (fun sz => va_A (wRC r_0 r_xV r_xSB r0) sz)) (Qc := (fun sz => gQv D (wRC r_0 r_xV r_xSB r0) sz (wRC r_0 r_xV r_xSB res))) (fun sz => va_A (wRC r_0 r_xV r_xSB r0) sz) (fun sz => Or.inr rfl) rfl (by decide) rfl (Nat.le_of_ble_eq_true rfl) rfl ?_
  intro p e s m args below meth c C
  unfold FX3_forget at hF
  refine g_aload_n (z := 0) C (tdec DX3_forget 0 rfl) rfl rfl rfl ?_
  refine g_iconst (v := 0) C (tdec DX3_forget 1 rfl) (by decide) rfl ?_
  refine g_putf (C' := RX3) (T := TX3) (N := 5) (v := .int 0) (ws' := wRC r_0 r_xV r_xSB (RC_setrec r0 0)) C 0 3 tyX3 tyX3_ok nmX3 (gIn iw_X3) rfl rfl (by decide) (gMem fl_X3_19) rfl rfl (tyX3_ok 3 (by decide)) rfl rfl (Nat.le_of_ble_eq_true rfl) rfl (tdec DX3_forget 2 rfl) rfl ?_
  have hr9 := o_some hF
  subst hr9
  exact g_vret C rfl (tdec DX3_forget 3 rfl)
def FX3_takeBegin (r0 : RC) (v0 : VS) (sb0 : SB) : Option (Int32 × RC × VS) :=
  (FX6_isBusy v0).bind fun r1 =>
  if r1 = 0 then
    (FX5_at sb0 0).bind fun r4 =>
    if r4 = 1 then
      (FX5_isWhole sb0 0 25).bind fun r7 =>
      if r7 = 0 then
        some (1, r0, v0)
      else
        (FX5_numberAt sb0 1 8).bind fun r10 =>
        (FX5_numberAt sb0 9 8).bind fun r12 =>
        if (lg_cmp r10 0) = 0 then
          (FX6_snapshots v0).bind fun r26 =>
          if r26 ≤ 0 then
            (FX6_isDirty v0).bind fun r29 =>
            if r29 = 0 then
              (FX6_hasMark v0 r12).bind fun r32 =>
              if r32 = 0 then
                (FX6_makeHidden v0).bind fun s35 =>
                some (0, (RC_settgt (RC_setrec (RC_setpos r0 25) 0) r12), s35)
              else
                some (4, r0, v0)
            else
              some (3, r0, v0)
          else
            some (2, r0, v0)
        else
          (FX6_isLatest v0 r10).bind fun r15 =>
          if r15 = 0 then
            some (2, r0, v0)
          else
            (FX6_isDirty v0).bind fun r18 =>
            if r18 = 0 then
              (FX6_hasMark v0 r12).bind fun r21 =>
              if r21 = 0 then
                (FX6_makeHidden v0).bind fun s24 =>
                some (0, (RC_settgt (RC_setrec (RC_setpos r0 25) 0) r12), s24)
              else
                some (4, r0, v0)
            else
              some (3, r0, v0)
    else
      some (1, r0, v0)
  else
    some (6, r0, v0)
def rX3_takeBegin : Room := { frames := 3, cells := 0, slots := 0, locals := 69 }
set_option maxHeartbeats 4000000 in
set_option maxRecDepth 100000 in
theorem c_X3_takeBegin (l : Launch) (D : va_G) (cB cI cJ cZ : ClassId) (r_0 v_0 v_1 v_2 v_3 v_4 v_5 v_6 v_7 v_8 v_9 v_10 v_11 v_12 v_13 v_14 v_15 v_16 v_17 v_18 v_19 sb_0 sb_1 : Nat) {r0 : RC} {v0 : VS} {sb0 : SB} {res : Int32 × RC × VS} (hF : FX3_takeBegin r0 v0 sb0 = some res) : gMi l yX3_takeBegin wsX3_takeBegin rX3_takeBegin D (gT cB cI cJ cZ) [.ref r_0] (wRC r_0 v_0 sb_0 r0 ++ (wV cI cJ v_0 v_1 v_2 v_3 v_4 v_5 v_6 v_7 v_8 v_9 v_10 v_11 v_12 v_13 v_14 v_15 v_16 v_17 v_18 v_19 v0 ++ (wSB cB sb_0 sb_1 sb0))) res.1 (wRC r_0 v_0 sb_0 res.2.1 ++ (wV cI cJ v_0 v_1 v_2 v_3 v_4 v_5 v_6 v_7 v_8 v_9 v_10 v_11 v_12 v_13 v_14 v_15 v_16 v_17 v_18 v_19 res.2.2 ++ (wSB cB sb_0 sb_1 sb0))) := by
  refine g_enter (own := RX3) (free := (fun sz => va_A (wRC r_0 v_0 sb_0 r0 ++ (wV cI cJ v_0 v_1 v_2 v_3 v_4 v_5 v_6 v_7 v_8 v_9 v_10 v_11 v_12 v_13 v_14 v_15 v_16 v_17 v_18 v_19 v0 ++ (wSB cB sb_0 sb_1 sb0))) sz)) (Qc := (fun sz => gQi D (wRC r_0 v_0 sb_0 r0 ++ (wV cI cJ v_0 v_1 v_2 v_3 v_4 v_5 v_6 v_7 v_8 v_9 v_10 v_11 v_12 v_13 v_14 v_15 v_16 v_17 v_18 v_19 v0 ++ (wSB cB sb_0 sb_1 sb0))) sz res.1 (wRC r_0 v_0 sb_0 res.2.1 ++ (wV cI cJ v_0 v_1 v_2 v_3 v_4 v_5 v_6 v_7 v_8 v_9 v_10 v_11 v_12 v_13 v_14 v_15 v_16 v_17 v_18 v_19 res.2.2 ++ (wSB cB sb_0 sb_1 sb0))))) (fun sz => va_A (wRC r_0 v_0 sb_0 r0 ++ (wV cI cJ v_0 v_1 v_2 v_3 v_4 v_5 v_6 v_7 v_8 v_9 v_10 v_11 v_12 v_13 v_14 v_15 v_16 v_17 v_18 v_19 v0 ++ (wSB cB sb_0 sb_1 sb0))) sz) (fun sz => Or.inr rfl) rfl (by decide) rfl (Nat.le_of_ble_eq_true rfl) rfl ?_
  intro p e s m args below meth c C
  unfold FX3_takeBegin at hF
  refine g_aload_n (z := 0) C (tdec DX3_takeBegin 0 rfl) rfl rfl rfl ?_
  refine g_getf (C' := RX3) (T := TX3) (N := 5) (v := .ref v_0) C 0 0 (gIn iw_X3) rfl rfl (by decide) (gMem fl_X3_9) rfl rfl (tdec DX3_takeBegin 1 rfl) rfl ?_
  obtain ⟨r1, y2, hF⟩ := o_bind hF
  refine g_callViRS (q0 := 1) (S := [wRC r_0 v_0 sb_0 r0, wV cI cJ v_0 v_1 v_2 v_3 v_4 v_5 v_6 v_7 v_8 v_9 v_10 v_11 v_12 v_13 v_14 v_15 v_16 v_17 v_18 v_19 v0, wSB cB sb_0 sb_1 sb0]) (S0 := [wV cI cJ v_0 v_1 v_2 v_3 v_4 v_5 v_6 v_7 v_8 v_9 v_10 v_11 v_12 v_13 v_14 v_15 v_16 v_17 v_18 v_19 v0]) C (c_X6_isBusy l D cB cI cJ cZ v_0 v_1 v_2 v_3 v_4 v_5 v_6 v_7 v_8 v_9 v_10 v_11 v_12 v_13 v_14 v_15 v_16 v_17 v_18 v_19 y2) rfl rfl (gIV ml_X3_23 im_X6_isBusy sl_X6_isBusy in_X6 cd_X6_isBusy) rfl eX6_isBusy rfl ⟨rfl, rfl⟩ ⟨Nat.le_of_ble_eq_true rfl, Nat.le_of_ble_eq_true rfl⟩ rfl rfl rfl [1] rfl rfl rfl (Nat.le_of_ble_eq_true rfl) (tdec DX3_takeBegin 2 rfl) rfl ?_
  refine g_if_eq (pt := 13) C (tdec DX3_takeBegin 3 rfl) (by decide) rfl (fun h3 => ?_) (fun h3 => ?_)
  · have hF := o_ifp hF h3
    refine g_aload_n (z := 0) C (tdec DX3_takeBegin 6 rfl) rfl rfl rfl ?_
    refine g_getf (C' := RX3) (T := TX3) (N := 5) (v := .ref sb_0) C 0 1 (gIn iw_X3) rfl rfl (by decide) (gMem fl_X3_15) rfl rfl (tdec DX3_takeBegin 7 rfl) rfl ?_
    refine g_iconst (v := 0) C (tdec DX3_takeBegin 8 rfl) (by decide) rfl ?_
    obtain ⟨r4, y5, hF⟩ := o_bind hF
    refine g_callViRS (q0 := 21) (S := [wRC r_0 v_0 sb_0 r0, wV cI cJ v_0 v_1 v_2 v_3 v_4 v_5 v_6 v_7 v_8 v_9 v_10 v_11 v_12 v_13 v_14 v_15 v_16 v_17 v_18 v_19 v0, wSB cB sb_0 sb_1 sb0]) (S0 := [wSB cB sb_0 sb_1 sb0]) C (c_X5_at l D cB cI cJ cZ sb_0 sb_1 y5) rfl rfl (gIV ml_X3_29 im_X5_at sl_X5_at in_X5 cd_X5_at) rfl eX5_at rfl ⟨rfl, rfl⟩ ⟨Nat.le_of_ble_eq_true rfl, Nat.le_of_ble_eq_true rfl⟩ rfl rfl rfl [2] rfl rfl rfl (Nat.le_of_ble_eq_true rfl) (tdec DX3_takeBegin 9 rfl) rfl ?_
    refine g_iconst (v := 1) C (tdec DX3_takeBegin 10 rfl) (by decide) rfl ?_
    refine g_icmp_ne (pt := 38) C (tdec DX3_takeBegin 11 rfl) (by decide) rfl (fun h6 => ?_) (fun h6 => ?_)
    · have hF := o_ifn hF h6
      refine g_iconst (v := 1) C (tdec DX3_takeBegin 18 rfl) (by decide) rfl ?_
      have hr9 := o_some hF
      subst hr9
      exact g_iret C rfl rfl (tdec DX3_takeBegin 19 rfl)
    · have hF := o_ifp hF h6
      refine g_aload_n (z := 0) C (tdec DX3_takeBegin 12 rfl) rfl rfl rfl ?_
      refine g_getf (C' := RX3) (T := TX3) (N := 5) (v := .ref sb_0) C 0 1 (gIn iw_X3) rfl rfl (by decide) (gMem fl_X3_15) rfl rfl (tdec DX3_takeBegin 13 rfl) rfl ?_
      refine g_iconst (v := 0) C (tdec DX3_takeBegin 14 rfl) (by decide) rfl ?_
      refine g_bipush (v := 25) C (tdec DX3_takeBegin 15 rfl) (by decide) rfl ?_
      obtain ⟨r7, y8, hF⟩ := o_bind hF
      refine g_callViRS (q0 := 21) (S := [wRC r_0 v_0 sb_0 r0, wV cI cJ v_0 v_1 v_2 v_3 v_4 v_5 v_6 v_7 v_8 v_9 v_10 v_11 v_12 v_13 v_14 v_15 v_16 v_17 v_18 v_19 v0, wSB cB sb_0 sb_1 sb0]) (S0 := [wSB cB sb_0 sb_1 sb0]) C (c_X5_isWhole l D cB cI cJ cZ sb_0 sb_1 y8) rfl rfl (gIV ml_X3_35 im_X5_isWhole sl_X5_isWhole in_X5 cd_X5_isWhole) rfl eX5_isWhole rfl ⟨rfl, rfl⟩ ⟨Nat.le_of_ble_eq_true rfl, Nat.le_of_ble_eq_true rfl⟩ rfl rfl rfl [2] rfl rfl rfl (Nat.le_of_ble_eq_true rfl) (tdec DX3_takeBegin 16 rfl) rfl ?_
      refine g_if_ne (pt := 40) C (tdec DX3_takeBegin 17 rfl) (by decide) rfl (fun h9 => ?_) (fun h9 => ?_)
      · have hF := o_ifn hF h9
        refine g_aload_n (z := 0) C (tdec DX3_takeBegin 20 rfl) rfl rfl rfl ?_
        refine g_getf (C' := RX3) (T := TX3) (N := 5) (v := .ref sb_0) C 0 1 (gIn iw_X3) rfl rfl (by decide) (gMem fl_X3_15) rfl rfl (tdec DX3_takeBegin 21 rfl) rfl ?_
        refine g_iconst (v := 1) C (tdec DX3_takeBegin 22 rfl) (by decide) rfl ?_
        refine g_bipush (v := 8) C (tdec DX3_takeBegin 23 rfl) (by decide) rfl ?_
        obtain ⟨r10, y11, hF⟩ := o_bind hF
        refine g_callVlRS (q0 := 21) (S := [wRC r_0 v_0 sb_0 r0, wV cI cJ v_0 v_1 v_2 v_3 v_4 v_5 v_6 v_7 v_8 v_9 v_10 v_11 v_12 v_13 v_14 v_15 v_16 v_17 v_18 v_19 v0, wSB cB sb_0 sb_1 sb0]) (S0 := [wSB cB sb_0 sb_1 sb0]) C (c_X5_numberAt l D cB cI cJ cZ sb_0 sb_1 y11) rfl rfl (gIV ml_X3_39 im_X5_numberAt sl_X5_numberAt in_X5 cd_X5_numberAt) rfl eX5_numberAt rfl ⟨rfl, rfl⟩ ⟨Nat.le_of_ble_eq_true rfl, Nat.le_of_ble_eq_true rfl⟩ rfl rfl rfl [2] rfl rfl rfl (Nat.le_of_ble_eq_true rfl) (tdec DX3_takeBegin 24 rfl) rfl ?_
        refine g_lstore_n (L' := [(1, .long r10), (0, .ref r_0)]) C (tdec DX3_takeBegin 25 rfl) rfl (by decide) rfl rfl ?_
        refine g_aload_n (z := 1) C (tdec DX3_takeBegin 26 rfl) rfl rfl rfl ?_
        refine g_getf (C' := RX3) (T := TX3) (N := 5) (v := .ref sb_0) C 0 1 (gIn iw_X3) rfl rfl (by decide) (gMem fl_X3_15) rfl rfl (tdec DX3_takeBegin 27 rfl) rfl ?_
        refine g_bipush (v := 9) C (tdec DX3_takeBegin 28 rfl) (by decide) rfl ?_
        refine g_bipush (v := 8) C (tdec DX3_takeBegin 29 rfl) (by decide) rfl ?_
        obtain ⟨r12, y13, hF⟩ := o_bind hF
        refine g_callVlRS (q0 := 21) (S := [wRC r_0 v_0 sb_0 r0, wV cI cJ v_0 v_1 v_2 v_3 v_4 v_5 v_6 v_7 v_8 v_9 v_10 v_11 v_12 v_13 v_14 v_15 v_16 v_17 v_18 v_19 v0, wSB cB sb_0 sb_1 sb0]) (S0 := [wSB cB sb_0 sb_1 sb0]) C (c_X5_numberAt l D cB cI cJ cZ sb_0 sb_1 y13) rfl rfl (gIV ml_X3_39 im_X5_numberAt sl_X5_numberAt in_X5 cd_X5_numberAt) rfl eX5_numberAt rfl ⟨rfl, rfl⟩ ⟨Nat.le_of_ble_eq_true rfl, Nat.le_of_ble_eq_true rfl⟩ rfl rfl rfl [2] rfl rfl rfl (Nat.le_of_ble_eq_true rfl) (tdec DX3_takeBegin 30 rfl) rfl ?_
        refine g_lstore_n (L' := [(3, .long r12), (1, .long r10), (0, .ref r_0)]) C (tdec DX3_takeBegin 31 rfl) rfl (by decide) rfl rfl ?_
        refine g_lload_n (z := 1) C (tdec DX3_takeBegin 32 rfl) rfl rfl rfl ?_
        refine g_lconst (v := 0) C (tdec DX3_takeBegin 33 rfl) (by decide) rfl ?_
        refine g_lcmp C (tdec DX3_takeBegin 34 rfl) rfl ?_
        refine g_if_ne (pt := 82) C (tdec DX3_takeBegin 35 rfl) (by decide) rfl (fun h14 => ?_) (fun h14 => ?_)
        · have hF := o_ifn hF h14
          refine g_aload_n (z := 2) C (tdec DX3_takeBegin 41 rfl) rfl rfl rfl ?_
          refine g_getf (C' := RX3) (T := TX3) (N := 5) (v := .ref v_0) C 0 0 (gIn iw_X3) rfl rfl (by decide) (gMem fl_X3_9) rfl rfl (tdec DX3_takeBegin 42 rfl) rfl ?_
          refine g_lload_n (z := 1) C (tdec DX3_takeBegin 43 rfl) rfl rfl rfl ?_
          obtain ⟨r15, y16, hF⟩ := o_bind hF
          refine g_callViRS (q0 := 1) (S := [wRC r_0 v_0 sb_0 r0, wV cI cJ v_0 v_1 v_2 v_3 v_4 v_5 v_6 v_7 v_8 v_9 v_10 v_11 v_12 v_13 v_14 v_15 v_16 v_17 v_18 v_19 v0, wSB cB sb_0 sb_1 sb0]) (S0 := [wV cI cJ v_0 v_1 v_2 v_3 v_4 v_5 v_6 v_7 v_8 v_9 v_10 v_11 v_12 v_13 v_14 v_15 v_16 v_17 v_18 v_19 v0]) C (c_X6_isLatest l D cB cI cJ cZ v_0 v_1 v_2 v_3 v_4 v_5 v_6 v_7 v_8 v_9 v_10 v_11 v_12 v_13 v_14 v_15 v_16 v_17 v_18 v_19 y16) rfl rfl (gIV ml_X3_47 im_X6_isLatest sl_X6_isLatest in_X6 cd_X6_isLatest) rfl eX6_isLatest rfl ⟨rfl, rfl⟩ ⟨Nat.le_of_ble_eq_true rfl, Nat.le_of_ble_eq_true rfl⟩ rfl rfl rfl [1] rfl rfl rfl (Nat.le_of_ble_eq_true rfl) (tdec DX3_takeBegin 44 rfl) rfl ?_
          refine g_if_ne (pt := 95) C (tdec DX3_takeBegin 45 rfl) (by decide) rfl (fun h17 => ?_) (fun h17 => ?_)
          · have hF := o_ifn hF h17
            refine g_aload_n (z := 2) C (tdec DX3_takeBegin 48 rfl) rfl rfl rfl ?_
            refine g_getf (C' := RX3) (T := TX3) (N := 5) (v := .ref v_0) C 0 0 (gIn iw_X3) rfl rfl (by decide) (gMem fl_X3_9) rfl rfl (tdec DX3_takeBegin 49 rfl) rfl ?_
            obtain ⟨r18, y19, hF⟩ := o_bind hF
            refine g_callViRS (q0 := 1) (S := [wRC r_0 v_0 sb_0 r0, wV cI cJ v_0 v_1 v_2 v_3 v_4 v_5 v_6 v_7 v_8 v_9 v_10 v_11 v_12 v_13 v_14 v_15 v_16 v_17 v_18 v_19 v0, wSB cB sb_0 sb_1 sb0]) (S0 := [wV cI cJ v_0 v_1 v_2 v_3 v_4 v_5 v_6 v_7 v_8 v_9 v_10 v_11 v_12 v_13 v_14 v_15 v_16 v_17 v_18 v_19 v0]) C (c_X6_isDirty l D cB cI cJ cZ v_0 v_1 v_2 v_3 v_4 v_5 v_6 v_7 v_8 v_9 v_10 v_11 v_12 v_13 v_14 v_15 v_16 v_17 v_18 v_19 y19) rfl rfl (gIV ml_X3_51 im_X6_isDirty sl_X6_isDirty in_X6 cd_X6_isDirty) rfl eX6_isDirty rfl ⟨rfl, rfl⟩ ⟨Nat.le_of_ble_eq_true rfl, Nat.le_of_ble_eq_true rfl⟩ rfl rfl rfl [1] rfl rfl rfl (Nat.le_of_ble_eq_true rfl) (tdec DX3_takeBegin 50 rfl) rfl ?_
            refine g_if_eq (pt := 107) C (tdec DX3_takeBegin 51 rfl) (by decide) rfl (fun h20 => ?_) (fun h20 => ?_)
            · have hF := o_ifp hF h20
              refine g_aload_n (z := 2) C (tdec DX3_takeBegin 54 rfl) rfl rfl rfl ?_
              refine g_getf (C' := RX3) (T := TX3) (N := 5) (v := .ref v_0) C 0 0 (gIn iw_X3) rfl rfl (by decide) (gMem fl_X3_9) rfl rfl (tdec DX3_takeBegin 55 rfl) rfl ?_
              refine g_lload_n (z := 0) C (tdec DX3_takeBegin 56 rfl) rfl rfl rfl ?_
              obtain ⟨r21, y22, hF⟩ := o_bind hF
              refine g_callViRS (q0 := 1) (S := [wRC r_0 v_0 sb_0 r0, wV cI cJ v_0 v_1 v_2 v_3 v_4 v_5 v_6 v_7 v_8 v_9 v_10 v_11 v_12 v_13 v_14 v_15 v_16 v_17 v_18 v_19 v0, wSB cB sb_0 sb_1 sb0]) (S0 := [wV cI cJ v_0 v_1 v_2 v_3 v_4 v_5 v_6 v_7 v_8 v_9 v_10 v_11 v_12 v_13 v_14 v_15 v_16 v_17 v_18 v_19 v0]) C (c_X6_hasMark l D cB cI cJ cZ v_0 v_1 v_2 v_3 v_4 v_5 v_6 v_7 v_8 v_9 v_10 v_11 v_12 v_13 v_14 v_15 v_16 v_17 v_18 v_19 y22) rfl rfl (gIV ml_X3_54 im_X6_hasMark sl_X6_hasMark in_X6 cd_X6_hasMark) rfl eX6_hasMark rfl ⟨rfl, rfl⟩ ⟨Nat.le_of_ble_eq_true rfl, Nat.le_of_ble_eq_true rfl⟩ rfl rfl rfl [1] rfl rfl rfl (Nat.le_of_ble_eq_true rfl) (tdec DX3_takeBegin 57 rfl) rfl ?_
              refine g_if_eq (pt := 120) C (tdec DX3_takeBegin 58 rfl) (by decide) rfl (fun h23 => ?_) (fun h23 => ?_)
              · have hF := o_ifp hF h23
                refine g_aload_n (z := 2) C (tdec DX3_takeBegin 61 rfl) rfl rfl rfl ?_
                refine g_getf (C' := RX3) (T := TX3) (N := 5) (v := .ref v_0) C 0 0 (gIn iw_X3) rfl rfl (by decide) (gMem fl_X3_9) rfl rfl (tdec DX3_takeBegin 62 rfl) rfl ?_
                obtain ⟨s24, y25, hF⟩ := o_bind hF
                refine g_callVvMS (q0 := 1) (W' := wRC r_0 v_0 sb_0 r0 ++ (wV cI cJ v_0 v_1 v_2 v_3 v_4 v_5 v_6 v_7 v_8 v_9 v_10 v_11 v_12 v_13 v_14 v_15 v_16 v_17 v_18 v_19 s24 ++ (wSB cB sb_0 sb_1 sb0))) (S := [wRC r_0 v_0 sb_0 r0, wV cI cJ v_0 v_1 v_2 v_3 v_4 v_5 v_6 v_7 v_8 v_9 v_10 v_11 v_12 v_13 v_14 v_15 v_16 v_17 v_18 v_19 v0, wSB cB sb_0 sb_1 sb0]) (S0 := [wV cI cJ v_0 v_1 v_2 v_3 v_4 v_5 v_6 v_7 v_8 v_9 v_10 v_11 v_12 v_13 v_14 v_15 v_16 v_17 v_18 v_19 v0]) (S1 := [wV cI cJ v_0 v_1 v_2 v_3 v_4 v_5 v_6 v_7 v_8 v_9 v_10 v_11 v_12 v_13 v_14 v_15 v_16 v_17 v_18 v_19 s24]) (S' := [wRC r_0 v_0 sb_0 r0, wV cI cJ v_0 v_1 v_2 v_3 v_4 v_5 v_6 v_7 v_8 v_9 v_10 v_11 v_12 v_13 v_14 v_15 v_16 v_17 v_18 v_19 s24, wSB cB sb_0 sb_1 sb0]) C (c_X6_makeHidden l D cB cI cJ cZ v_0 v_1 v_2 v_3 v_4 v_5 v_6 v_7 v_8 v_9 v_10 v_11 v_12 v_13 v_14 v_15 v_16 v_17 v_18 v_19 y25) rfl rfl (gIV ml_X3_57 im_X6_makeHidden sl_X6_makeHidden in_X6 cd_X6_makeHidden) rfl eX6_makeHidden rfl ⟨rfl, rfl⟩ ⟨Nat.le_of_ble_eq_true rfl, Nat.le_of_ble_eq_true rfl⟩ rfl rfl rfl [1] rfl rfl rfl rfl (gA_cons aV gA_nil) rfl rfl (Nat.le_of_ble_eq_true rfl) (tdec DX3_takeBegin 63 rfl) rfl ?_
                refine g_aload_n (z := 2) C (tdec DX3_takeBegin 64 rfl) rfl rfl rfl ?_
                refine g_bipush (v := 25) C (tdec DX3_takeBegin 65 rfl) (by decide) rfl ?_
                refine g_putf (C' := RX3) (T := TX3) (N := 5) (v := .int 25) (ws' := wRC r_0 v_0 sb_0 (RC_setpos r0 25) ++ (wV cI cJ v_0 v_1 v_2 v_3 v_4 v_5 v_6 v_7 v_8 v_9 v_10 v_11 v_12 v_13 v_14 v_15 v_16 v_17 v_18 v_19 s24 ++ (wSB cB sb_0 sb_1 sb0))) C 0 2 tyX3 tyX3_ok nmX3 (gIn iw_X3) rfl rfl (by decide) (gMem fl_X3_60) rfl rfl (tyX3_ok 2 (by decide)) rfl rfl (Nat.le_of_ble_eq_true rfl) rfl (tdec DX3_takeBegin 66 rfl) rfl ?_
                refine g_aload_n (z := 2) C (tdec DX3_takeBegin 67 rfl) rfl rfl rfl ?_
                refine g_iconst (v := 0) C (tdec DX3_takeBegin 68 rfl) (by decide) rfl ?_
                refine g_putf (C' := RX3) (T := TX3) (N := 5) (v := .int 0) (ws' := wRC r_0 v_0 sb_0 (RC_setrec (RC_setpos r0 25) 0) ++ (wV cI cJ v_0 v_1 v_2 v_3 v_4 v_5 v_6 v_7 v_8 v_9 v_10 v_11 v_12 v_13 v_14 v_15 v_16 v_17 v_18 v_19 s24 ++ (wSB cB sb_0 sb_1 sb0))) C 0 3 tyX3 tyX3_ok nmX3 (gIn iw_X3) rfl rfl (by decide) (gMem fl_X3_19) rfl rfl (tyX3_ok 3 (by decide)) rfl rfl (Nat.le_of_ble_eq_true rfl) rfl (tdec DX3_takeBegin 69 rfl) rfl ?_
                refine g_aload_n (z := 2) C (tdec DX3_takeBegin 70 rfl) rfl rfl rfl ?_
                refine g_lload_n (z := 0) C (tdec DX3_takeBegin 71 rfl) rfl rfl rfl ?_
                refine g_putf (C' := RX3) (T := TX3) (N := 5) (v := .long r12) (ws' := wRC r_0 v_0 sb_0 (RC_settgt (RC_setrec (RC_setpos r0 25) 0) r12) ++ (wV cI cJ v_0 v_1 v_2 v_3 v_4 v_5 v_6 v_7 v_8 v_9 v_10 v_11 v_12 v_13 v_14 v_15 v_16 v_17 v_18 v_19 s24 ++ (wSB cB sb_0 sb_1 sb0))) C 0 4 tyX3 tyX3_ok nmX3 (gIn iw_X3) rfl rfl (by decide) (gMem fl_X3_63) rfl rfl (tyX3_ok 4 (by decide)) rfl rfl (Nat.le_of_ble_eq_true rfl) rfl (tdec DX3_takeBegin 72 rfl) rfl ?_
                refine g_iconst (v := 0) C (tdec DX3_takeBegin 73 rfl) (by decide) rfl ?_
                have hr9 := o_some hF
                subst hr9
                exact g_iret C rfl rfl (tdec DX3_takeBegin 74 rfl)
              · have hF := o_ifn hF h23
                refine g_iconst (v := 4) C (tdec DX3_takeBegin 59 rfl) (by decide) rfl ?_
                have hr9 := o_some hF
                subst hr9
                exact g_iret C rfl rfl (tdec DX3_takeBegin 60 rfl)
            · have hF := o_ifn hF h20
              refine g_iconst (v := 3) C (tdec DX3_takeBegin 52 rfl) (by decide) rfl ?_
              have hr9 := o_some hF
              subst hr9
              exact g_iret C rfl rfl (tdec DX3_takeBegin 53 rfl)
          · have hF := o_ifp hF h17
            refine g_iconst (v := 2) C (tdec DX3_takeBegin 46 rfl) (by decide) rfl ?_
            have hr9 := o_some hF
            subst hr9
            exact g_iret C rfl rfl (tdec DX3_takeBegin 47 rfl)
        · have hF := o_ifp hF h14
          refine g_aload_n (z := 2) C (tdec DX3_takeBegin 36 rfl) rfl rfl rfl ?_
          refine g_getf (C' := RX3) (T := TX3) (N := 5) (v := .ref v_0) C 0 0 (gIn iw_X3) rfl rfl (by decide) (gMem fl_X3_9) rfl rfl (tdec DX3_takeBegin 37 rfl) rfl ?_
          obtain ⟨r26, y27, hF⟩ := o_bind hF
          refine g_callViRS (q0 := 1) (S := [wRC r_0 v_0 sb_0 r0, wV cI cJ v_0 v_1 v_2 v_3 v_4 v_5 v_6 v_7 v_8 v_9 v_10 v_11 v_12 v_13 v_14 v_15 v_16 v_17 v_18 v_19 v0, wSB cB sb_0 sb_1 sb0]) (S0 := [wV cI cJ v_0 v_1 v_2 v_3 v_4 v_5 v_6 v_7 v_8 v_9 v_10 v_11 v_12 v_13 v_14 v_15 v_16 v_17 v_18 v_19 v0]) C (c_X6_snapshots l D cB cI cJ cZ v_0 v_1 v_2 v_3 v_4 v_5 v_6 v_7 v_8 v_9 v_10 v_11 v_12 v_13 v_14 v_15 v_16 v_17 v_18 v_19 y27) rfl rfl (gIV ml_X3_43 im_X6_snapshots sl_X6_snapshots in_X6 cd_X6_snapshots) rfl eX6_snapshots rfl ⟨rfl, rfl⟩ ⟨Nat.le_of_ble_eq_true rfl, Nat.le_of_ble_eq_true rfl⟩ rfl rfl rfl [1] rfl rfl rfl (Nat.le_of_ble_eq_true rfl) (tdec DX3_takeBegin 38 rfl) rfl ?_
          refine g_if_le (pt := 95) C (tdec DX3_takeBegin 39 rfl) (by decide) rfl (fun h28 => ?_) (fun h28 => ?_)
          · have hF := o_ifp hF h28
            refine g_aload_n (z := 2) C (tdec DX3_takeBegin 48 rfl) rfl rfl rfl ?_
            refine g_getf (C' := RX3) (T := TX3) (N := 5) (v := .ref v_0) C 0 0 (gIn iw_X3) rfl rfl (by decide) (gMem fl_X3_9) rfl rfl (tdec DX3_takeBegin 49 rfl) rfl ?_
            obtain ⟨r29, y30, hF⟩ := o_bind hF
            refine g_callViRS (q0 := 1) (S := [wRC r_0 v_0 sb_0 r0, wV cI cJ v_0 v_1 v_2 v_3 v_4 v_5 v_6 v_7 v_8 v_9 v_10 v_11 v_12 v_13 v_14 v_15 v_16 v_17 v_18 v_19 v0, wSB cB sb_0 sb_1 sb0]) (S0 := [wV cI cJ v_0 v_1 v_2 v_3 v_4 v_5 v_6 v_7 v_8 v_9 v_10 v_11 v_12 v_13 v_14 v_15 v_16 v_17 v_18 v_19 v0]) C (c_X6_isDirty l D cB cI cJ cZ v_0 v_1 v_2 v_3 v_4 v_5 v_6 v_7 v_8 v_9 v_10 v_11 v_12 v_13 v_14 v_15 v_16 v_17 v_18 v_19 y30) rfl rfl (gIV ml_X3_51 im_X6_isDirty sl_X6_isDirty in_X6 cd_X6_isDirty) rfl eX6_isDirty rfl ⟨rfl, rfl⟩ ⟨Nat.le_of_ble_eq_true rfl, Nat.le_of_ble_eq_true rfl⟩ rfl rfl rfl [1] rfl rfl rfl (Nat.le_of_ble_eq_true rfl) (tdec DX3_takeBegin 50 rfl) rfl ?_
            refine g_if_eq (pt := 107) C (tdec DX3_takeBegin 51 rfl) (by decide) rfl (fun h31 => ?_) (fun h31 => ?_)
            · have hF := o_ifp hF h31
              refine g_aload_n (z := 2) C (tdec DX3_takeBegin 54 rfl) rfl rfl rfl ?_
              refine g_getf (C' := RX3) (T := TX3) (N := 5) (v := .ref v_0) C 0 0 (gIn iw_X3) rfl rfl (by decide) (gMem fl_X3_9) rfl rfl (tdec DX3_takeBegin 55 rfl) rfl ?_
              refine g_lload_n (z := 0) C (tdec DX3_takeBegin 56 rfl) rfl rfl rfl ?_
              obtain ⟨r32, y33, hF⟩ := o_bind hF
              refine g_callViRS (q0 := 1) (S := [wRC r_0 v_0 sb_0 r0, wV cI cJ v_0 v_1 v_2 v_3 v_4 v_5 v_6 v_7 v_8 v_9 v_10 v_11 v_12 v_13 v_14 v_15 v_16 v_17 v_18 v_19 v0, wSB cB sb_0 sb_1 sb0]) (S0 := [wV cI cJ v_0 v_1 v_2 v_3 v_4 v_5 v_6 v_7 v_8 v_9 v_10 v_11 v_12 v_13 v_14 v_15 v_16 v_17 v_18 v_19 v0]) C (c_X6_hasMark l D cB cI cJ cZ v_0 v_1 v_2 v_3 v_4 v_5 v_6 v_7 v_8 v_9 v_10 v_11 v_12 v_13 v_14 v_15 v_16 v_17 v_18 v_19 y33) rfl rfl (gIV ml_X3_54 im_X6_hasMark sl_X6_hasMark in_X6 cd_X6_hasMark) rfl eX6_hasMark rfl ⟨rfl, rfl⟩ ⟨Nat.le_of_ble_eq_true rfl, Nat.le_of_ble_eq_true rfl⟩ rfl rfl rfl [1] rfl rfl rfl (Nat.le_of_ble_eq_true rfl) (tdec DX3_takeBegin 57 rfl) rfl ?_
              refine g_if_eq (pt := 120) C (tdec DX3_takeBegin 58 rfl) (by decide) rfl (fun h34 => ?_) (fun h34 => ?_)
              · have hF := o_ifp hF h34
                refine g_aload_n (z := 2) C (tdec DX3_takeBegin 61 rfl) rfl rfl rfl ?_
                refine g_getf (C' := RX3) (T := TX3) (N := 5) (v := .ref v_0) C 0 0 (gIn iw_X3) rfl rfl (by decide) (gMem fl_X3_9) rfl rfl (tdec DX3_takeBegin 62 rfl) rfl ?_
                obtain ⟨s35, y36, hF⟩ := o_bind hF
                refine g_callVvMS (q0 := 1) (W' := wRC r_0 v_0 sb_0 r0 ++ (wV cI cJ v_0 v_1 v_2 v_3 v_4 v_5 v_6 v_7 v_8 v_9 v_10 v_11 v_12 v_13 v_14 v_15 v_16 v_17 v_18 v_19 s35 ++ (wSB cB sb_0 sb_1 sb0))) (S := [wRC r_0 v_0 sb_0 r0, wV cI cJ v_0 v_1 v_2 v_3 v_4 v_5 v_6 v_7 v_8 v_9 v_10 v_11 v_12 v_13 v_14 v_15 v_16 v_17 v_18 v_19 v0, wSB cB sb_0 sb_1 sb0]) (S0 := [wV cI cJ v_0 v_1 v_2 v_3 v_4 v_5 v_6 v_7 v_8 v_9 v_10 v_11 v_12 v_13 v_14 v_15 v_16 v_17 v_18 v_19 v0]) (S1 := [wV cI cJ v_0 v_1 v_2 v_3 v_4 v_5 v_6 v_7 v_8 v_9 v_10 v_11 v_12 v_13 v_14 v_15 v_16 v_17 v_18 v_19 s35]) (S' := [wRC r_0 v_0 sb_0 r0, wV cI cJ v_0 v_1 v_2 v_3 v_4 v_5 v_6 v_7 v_8 v_9 v_10 v_11 v_12 v_13 v_14 v_15 v_16 v_17 v_18 v_19 s35, wSB cB sb_0 sb_1 sb0]) C (c_X6_makeHidden l D cB cI cJ cZ v_0 v_1 v_2 v_3 v_4 v_5 v_6 v_7 v_8 v_9 v_10 v_11 v_12 v_13 v_14 v_15 v_16 v_17 v_18 v_19 y36) rfl rfl (gIV ml_X3_57 im_X6_makeHidden sl_X6_makeHidden in_X6 cd_X6_makeHidden) rfl eX6_makeHidden rfl ⟨rfl, rfl⟩ ⟨Nat.le_of_ble_eq_true rfl, Nat.le_of_ble_eq_true rfl⟩ rfl rfl rfl [1] rfl rfl rfl rfl (gA_cons aV gA_nil) rfl rfl (Nat.le_of_ble_eq_true rfl) (tdec DX3_takeBegin 63 rfl) rfl ?_
                refine g_aload_n (z := 2) C (tdec DX3_takeBegin 64 rfl) rfl rfl rfl ?_
                refine g_bipush (v := 25) C (tdec DX3_takeBegin 65 rfl) (by decide) rfl ?_
                refine g_putf (C' := RX3) (T := TX3) (N := 5) (v := .int 25) (ws' := wRC r_0 v_0 sb_0 (RC_setpos r0 25) ++ (wV cI cJ v_0 v_1 v_2 v_3 v_4 v_5 v_6 v_7 v_8 v_9 v_10 v_11 v_12 v_13 v_14 v_15 v_16 v_17 v_18 v_19 s35 ++ (wSB cB sb_0 sb_1 sb0))) C 0 2 tyX3 tyX3_ok nmX3 (gIn iw_X3) rfl rfl (by decide) (gMem fl_X3_60) rfl rfl (tyX3_ok 2 (by decide)) rfl rfl (Nat.le_of_ble_eq_true rfl) rfl (tdec DX3_takeBegin 66 rfl) rfl ?_
                refine g_aload_n (z := 2) C (tdec DX3_takeBegin 67 rfl) rfl rfl rfl ?_
                refine g_iconst (v := 0) C (tdec DX3_takeBegin 68 rfl) (by decide) rfl ?_
                refine g_putf (C' := RX3) (T := TX3) (N := 5) (v := .int 0) (ws' := wRC r_0 v_0 sb_0 (RC_setrec (RC_setpos r0 25) 0) ++ (wV cI cJ v_0 v_1 v_2 v_3 v_4 v_5 v_6 v_7 v_8 v_9 v_10 v_11 v_12 v_13 v_14 v_15 v_16 v_17 v_18 v_19 s35 ++ (wSB cB sb_0 sb_1 sb0))) C 0 3 tyX3 tyX3_ok nmX3 (gIn iw_X3) rfl rfl (by decide) (gMem fl_X3_19) rfl rfl (tyX3_ok 3 (by decide)) rfl rfl (Nat.le_of_ble_eq_true rfl) rfl (tdec DX3_takeBegin 69 rfl) rfl ?_
                refine g_aload_n (z := 2) C (tdec DX3_takeBegin 70 rfl) rfl rfl rfl ?_
                refine g_lload_n (z := 0) C (tdec DX3_takeBegin 71 rfl) rfl rfl rfl ?_
                refine g_putf (C' := RX3) (T := TX3) (N := 5) (v := .long r12) (ws' := wRC r_0 v_0 sb_0 (RC_settgt (RC_setrec (RC_setpos r0 25) 0) r12) ++ (wV cI cJ v_0 v_1 v_2 v_3 v_4 v_5 v_6 v_7 v_8 v_9 v_10 v_11 v_12 v_13 v_14 v_15 v_16 v_17 v_18 v_19 s35 ++ (wSB cB sb_0 sb_1 sb0))) C 0 4 tyX3 tyX3_ok nmX3 (gIn iw_X3) rfl rfl (by decide) (gMem fl_X3_63) rfl rfl (tyX3_ok 4 (by decide)) rfl rfl (Nat.le_of_ble_eq_true rfl) rfl (tdec DX3_takeBegin 72 rfl) rfl ?_
                refine g_iconst (v := 0) C (tdec DX3_takeBegin 73 rfl) (by decide) rfl ?_
                have hr9 := o_some hF
                subst hr9
                exact g_iret C rfl rfl (tdec DX3_takeBegin 74 rfl)
              · have hF := o_ifn hF h34
                refine g_iconst (v := 4) C (tdec DX3_takeBegin 59 rfl) (by decide) rfl ?_
                have hr9 := o_some hF
                subst hr9
                exact g_iret C rfl rfl (tdec DX3_takeBegin 60 rfl)
            · have hF := o_ifn hF h31
              refine g_iconst (v := 3) C (tdec DX3_takeBegin 52 rfl) (by decide) rfl ?_
              have hr9 := o_some hF
              subst hr9
              exact g_iret C rfl rfl (tdec DX3_takeBegin 53 rfl)
          · have hF := o_ifn hF h28
            refine g_goto (pt := 93) C (tdec DX3_takeBegin 40 rfl) (by decide) ?_
            refine g_iconst (v := 2) C (tdec DX3_takeBegin 46 rfl) (by decide) rfl ?_
            have hr9 := o_some hF
            subst hr9
            exact g_iret C rfl rfl (tdec DX3_takeBegin 47 rfl)
      · have hF := o_ifp hF h9
        refine g_iconst (v := 1) C (tdec DX3_takeBegin 18 rfl) (by decide) rfl ?_
        have hr9 := o_some hF
        subst hr9
        exact g_iret C rfl rfl (tdec DX3_takeBegin 19 rfl)
  · have hF := o_ifn hF h3
    refine g_bipush (v := 6) C (tdec DX3_takeBegin 4 rfl) (by decide) rfl ?_
    have hr9 := o_some hF
    subst hr9
    exact g_iret C rfl rfl (tdec DX3_takeBegin 5 rfl)
def FX3_sizeOf (p0 : Int32) : Option (Int32) :=
  if p0 = 2 then
    some 19
  else
    if p0 = 3 then
      some 13
    else
      if p0 = 4 then
        some 13
      else
        some 0
def rX3_sizeOf : Room := { frames := 0, cells := 0, slots := 0, locals := 0 }
set_option maxHeartbeats 4000000 in
set_option maxRecDepth 100000 in
theorem c_X3_sizeOf (l : Launch) (D : va_G) (cB cI cJ cZ : ClassId) {p0 : Int32} {res : Int32} (hF : FX3_sizeOf p0 = some res) : gRi l yX3_sizeOf wsX3_sizeOf rX3_sizeOf D (gT cB cI cJ cZ) [.int p0] ([]) res := by
  refine g_enter (own := RX3) (free := (fun _ _ => False)) (Qc := (fun sz => gRQi res)) (fun _ _ => True) (fun sz => Or.inl rfl) rfl (by decide) rfl (Nat.le_of_ble_eq_true rfl) rfl ?_
  intro p e s m args below meth c C
  unfold FX3_sizeOf at hF
  refine g_iload_n (z := 0) C (tdec DX3_sizeOf 0 rfl) rfl rfl rfl ?_
  by_cases h1 : p0 = 2
  · have hF := o_ifp hF h1
    refine g_switchIn (pt := 28) C (2) (tdec DX3_sizeOf 1 rfl) (h1.trans (by decide)) (by decide) (by decide) (by decide) rfl (by decide) ?_
    refine g_bipush (v := 19) C (tdec DX3_sizeOf 2 rfl) (by decide) rfl ?_
    have hr9 := o_some hF
    subst hr9
    exact g_iretR C rfl (tdec DX3_sizeOf 3 rfl)
  · have hF := o_ifn hF h1
    by_cases h2 : p0 = 3
    · have hF := o_ifp hF h2
      refine g_switchIn (pt := 31) C (3) (tdec DX3_sizeOf 1 rfl) (h2.trans (by decide)) (by decide) (by decide) (by decide) rfl (by decide) ?_
      refine g_bipush (v := 13) C (tdec DX3_sizeOf 4 rfl) (by decide) rfl ?_
      have hr9 := o_some hF
      subst hr9
      exact g_iretR C rfl (tdec DX3_sizeOf 5 rfl)
    · have hF := o_ifn hF h2
      by_cases h3 : p0 = 4
      · have hF := o_ifp hF h3
        refine g_switchIn (pt := 34) C (4) (tdec DX3_sizeOf 1 rfl) (h3.trans (by decide)) (by decide) (by decide) (by decide) rfl (by decide) ?_
        refine g_bipush (v := 13) C (tdec DX3_sizeOf 6 rfl) (by decide) rfl ?_
        have hr9 := o_some hF
        subst hr9
        exact g_iretR C rfl (tdec DX3_sizeOf 7 rfl)
      · have hF := o_ifn hF h3
        refine g_switchOut (pt := 37) C (tdec DX3_sizeOf 1 rfl) (sw_out3 2 (fun z => h1 (z.trans (by decide))) (fun z => h2 (z.trans (by decide))) (fun z => h3 (z.trans (by decide)))) (by decide) ?_
        refine g_iconst (v := 0) C (tdec DX3_sizeOf 8 rfl) (by decide) rfl ?_
        have hr9 := o_some hF
        subst hr9
        exact g_iretR C rfl (tdec DX3_sizeOf 9 rfl)
def FX7_isPlace (p0 : Int32) : Option (Int32) :=
  if p0 < 0 then
    some 0
  else
    if 512 ≤ p0 then
      some 0
    else
      some 1
def rX7_isPlace : Room := { frames := 0, cells := 0, slots := 0, locals := 0 }
set_option maxHeartbeats 4000000 in
set_option maxRecDepth 100000 in
theorem c_X7_isPlace (l : Launch) (D : va_G) (cB cI cJ cZ : ClassId) {p0 : Int32} {res : Int32} (hF : FX7_isPlace p0 = some res) : gRi l yX7_isPlace wsX7_isPlace rX7_isPlace D (gT cB cI cJ cZ) [.int p0] ([]) res := by
  refine g_enter (own := RX7) (free := (fun _ _ => False)) (Qc := (fun sz => gRQi res)) (fun _ _ => True) (fun sz => Or.inl rfl) rfl (by decide) rfl (Nat.le_of_ble_eq_true rfl) rfl ?_
  intro p e s m args below meth c C
  unfold FX7_isPlace at hF
  refine g_iload_n (z := 0) C (tdec DX7_isPlace 0 rfl) rfl rfl rfl ?_
  refine g_if_lt (pt := 15) C (tdec DX7_isPlace 1 rfl) (by decide) rfl (fun h1 => ?_) (fun h1 => ?_)
  · have hF := o_ifp hF h1
    refine g_iconst (v := 0) C (tdec DX7_isPlace 7 rfl) (by decide) rfl ?_
    have hr9 := o_some hF
    subst hr9
    exact g_zretR C rfl rfl (tdec DX7_isPlace 8 rfl)
  · have hF := o_ifn hF h1
    refine g_iload_n (z := 0) C (tdec DX7_isPlace 2 rfl) rfl rfl rfl ?_
    refine g_sipush (v := 512) C (tdec DX7_isPlace 3 rfl) (by decide) rfl ?_
    refine g_icmp_ge (pt := 15) C (tdec DX7_isPlace 4 rfl) (by decide) rfl (fun h2 => ?_) (fun h2 => ?_)
    · have hF := o_ifp hF h2
      refine g_iconst (v := 0) C (tdec DX7_isPlace 7 rfl) (by decide) rfl ?_
      have hr9 := o_some hF
      subst hr9
      exact g_zretR C rfl rfl (tdec DX7_isPlace 8 rfl)
    · have hF := o_ifn hF h2
      refine g_iconst (v := 1) C (tdec DX7_isPlace 5 rfl) (by decide) rfl ?_
      refine g_goto (pt := 16) C (tdec DX7_isPlace 6 rfl) (by decide) ?_
      have hr9 := o_some hF
      subst hr9
      exact g_zretR C rfl rfl (tdec DX7_isPlace 8 rfl)
def FX3_takeWrite (r0 : RC) (v0 : VS) (sb0 : SB) : Option (Int32 × VS) :=
  (FX5_numberAt sb0 ((RC_pos r0) + 1) 2).bind fun r1 =>
  (FX7_isPlace ((r1 : Int64).toInt32)).bind fun r3 =>
  if r3 = 0 then
    some (1, v0)
  else
    (FX5_numberAt sb0 ((RC_pos r0) + 3) 8).bind fun r6 =>
    (FX6_writePlace v0 4801 ((r1 : Int64).toInt32) r6).bind fun (r8, s9) =>
    if r8 = 0 then
      some (5, s9)
    else
      some (7, s9)
def rX3_takeWrite : Room := { frames := 4, cells := 0, slots := 0, locals := 98 }
set_option maxHeartbeats 4000000 in
set_option maxRecDepth 100000 in
theorem c_X3_takeWrite (l : Launch) (D : va_G) (cB cI cJ cZ : ClassId) (r_0 v_0 v_1 v_2 v_3 v_4 v_5 v_6 v_7 v_8 v_9 v_10 v_11 v_12 v_13 v_14 v_15 v_16 v_17 v_18 v_19 sb_0 sb_1 : Nat) {r0 : RC} {v0 : VS} {sb0 : SB} {res : Int32 × VS} (hF : FX3_takeWrite r0 v0 sb0 = some res) : gMi l yX3_takeWrite wsX3_takeWrite rX3_takeWrite D (gT cB cI cJ cZ) [.ref r_0] (wRC r_0 v_0 sb_0 r0 ++ (wV cI cJ v_0 v_1 v_2 v_3 v_4 v_5 v_6 v_7 v_8 v_9 v_10 v_11 v_12 v_13 v_14 v_15 v_16 v_17 v_18 v_19 v0 ++ (wSB cB sb_0 sb_1 sb0))) res.1 (wRC r_0 v_0 sb_0 r0 ++ (wV cI cJ v_0 v_1 v_2 v_3 v_4 v_5 v_6 v_7 v_8 v_9 v_10 v_11 v_12 v_13 v_14 v_15 v_16 v_17 v_18 v_19 res.2 ++ (wSB cB sb_0 sb_1 sb0))) := by
  refine g_enter (own := RX3) (free := (fun sz => va_A (wRC r_0 v_0 sb_0 r0 ++ (wV cI cJ v_0 v_1 v_2 v_3 v_4 v_5 v_6 v_7 v_8 v_9 v_10 v_11 v_12 v_13 v_14 v_15 v_16 v_17 v_18 v_19 v0 ++ (wSB cB sb_0 sb_1 sb0))) sz)) (Qc := (fun sz => gQi D (wRC r_0 v_0 sb_0 r0 ++ (wV cI cJ v_0 v_1 v_2 v_3 v_4 v_5 v_6 v_7 v_8 v_9 v_10 v_11 v_12 v_13 v_14 v_15 v_16 v_17 v_18 v_19 v0 ++ (wSB cB sb_0 sb_1 sb0))) sz res.1 (wRC r_0 v_0 sb_0 r0 ++ (wV cI cJ v_0 v_1 v_2 v_3 v_4 v_5 v_6 v_7 v_8 v_9 v_10 v_11 v_12 v_13 v_14 v_15 v_16 v_17 v_18 v_19 res.2 ++ (wSB cB sb_0 sb_1 sb0))))) (fun sz => va_A (wRC r_0 v_0 sb_0 r0 ++ (wV cI cJ v_0 v_1 v_2 v_3 v_4 v_5 v_6 v_7 v_8 v_9 v_10 v_11 v_12 v_13 v_14 v_15 v_16 v_17 v_18 v_19 v0 ++ (wSB cB sb_0 sb_1 sb0))) sz) (fun sz => Or.inr rfl) rfl (by decide) rfl (Nat.le_of_ble_eq_true rfl) rfl ?_
  intro p e s m args below meth c C
  unfold FX3_takeWrite at hF
  refine g_aload_n (z := 0) C (tdec DX3_takeWrite 0 rfl) rfl rfl rfl ?_
  refine g_getf (C' := RX3) (T := TX3) (N := 5) (v := .ref sb_0) C 0 1 (gIn iw_X3) rfl rfl (by decide) (gMem fl_X3_15) rfl rfl (tdec DX3_takeWrite 1 rfl) rfl ?_
  refine g_aload_n (z := 0) C (tdec DX3_takeWrite 2 rfl) rfl rfl rfl ?_
  refine g_getf (C' := RX3) (T := TX3) (N := 5) (v := .int (RC_pos r0)) C 0 2 (gIn iw_X3) rfl rfl (by decide) (gMem fl_X3_60) rfl rfl (tdec DX3_takeWrite 3 rfl) rfl ?_
  refine g_iconst (v := 1) C (tdec DX3_takeWrite 4 rfl) (by decide) rfl ?_
  refine g_iadd C (tdec DX3_takeWrite 5 rfl) rfl ?_
  refine g_iconst (v := 2) C (tdec DX3_takeWrite 6 rfl) (by decide) rfl ?_
  obtain ⟨r1, y2, hF⟩ := o_bind hF
  refine g_callVlRS (q0 := 21) (S := [wRC r_0 v_0 sb_0 r0, wV cI cJ v_0 v_1 v_2 v_3 v_4 v_5 v_6 v_7 v_8 v_9 v_10 v_11 v_12 v_13 v_14 v_15 v_16 v_17 v_18 v_19 v0, wSB cB sb_0 sb_1 sb0]) (S0 := [wSB cB sb_0 sb_1 sb0]) C (c_X5_numberAt l D cB cI cJ cZ sb_0 sb_1 y2) rfl rfl (gIV ml_X3_39 im_X5_numberAt sl_X5_numberAt in_X5 cd_X5_numberAt) rfl eX5_numberAt rfl ⟨rfl, rfl⟩ ⟨Nat.le_of_ble_eq_true rfl, Nat.le_of_ble_eq_true rfl⟩ rfl rfl rfl [2] rfl rfl rfl (Nat.le_of_ble_eq_true rfl) (tdec DX3_takeWrite 7 rfl) rfl ?_
  refine g_l2i C (tdec DX3_takeWrite 8 rfl) rfl ?_
  refine g_istore_n (L' := [(1, .int ((r1 : Int64).toInt32)), (0, .ref r_0)]) C (tdec DX3_takeWrite 9 rfl) rfl (by decide) rfl rfl ?_
  refine g_iload_n (z := 0) C (tdec DX3_takeWrite 10 rfl) rfl rfl rfl ?_
  obtain ⟨r3, y4, hF⟩ := o_bind hF
  refine g_callSNiR C (c_X7_isPlace l D cB cI cJ cZ y4) C.2.2.2.2.2.2.2.2.1 (gGood (gSelf cd_X7_isPlace)) eX7_isPlace (gMem st_X7_isPlace) (gMem in_X7) rfl ⟨rfl, rfl⟩ ⟨Nat.le_of_ble_eq_true rfl, Nat.le_of_ble_eq_true rfl⟩ rfl [] rfl rfl rfl (Nat.le_of_ble_eq_true rfl) (tdec DX3_takeWrite 11 rfl) rfl ?_
  refine g_if_ne (pt := 25) C (tdec DX3_takeWrite 12 rfl) (by decide) rfl (fun h5 => ?_) (fun h5 => ?_)
  · have hF := o_ifn hF h5
    refine g_aload_n (z := 1) C (tdec DX3_takeWrite 15 rfl) rfl rfl rfl ?_
    refine g_getf (C' := RX3) (T := TX3) (N := 5) (v := .ref v_0) C 0 0 (gIn iw_X3) rfl rfl (by decide) (gMem fl_X3_9) rfl rfl (tdec DX3_takeWrite 16 rfl) rfl ?_
    refine g_sipush (v := 4801) C (tdec DX3_takeWrite 17 rfl) (by decide) rfl ?_
    refine g_iload_n (z := 0) C (tdec DX3_takeWrite 18 rfl) rfl rfl rfl ?_
    refine g_aload_n (z := 1) C (tdec DX3_takeWrite 19 rfl) rfl rfl rfl ?_
    refine g_getf (C' := RX3) (T := TX3) (N := 5) (v := .ref sb_0) C 0 1 (gIn iw_X3) rfl rfl (by decide) (gMem fl_X3_15) rfl rfl (tdec DX3_takeWrite 20 rfl) rfl ?_
    refine g_aload_n (z := 1) C (tdec DX3_takeWrite 21 rfl) rfl rfl rfl ?_
    refine g_getf (C' := RX3) (T := TX3) (N := 5) (v := .int (RC_pos r0)) C 0 2 (gIn iw_X3) rfl rfl (by decide) (gMem fl_X3_60) rfl rfl (tdec DX3_takeWrite 22 rfl) rfl ?_
    refine g_iconst (v := 3) C (tdec DX3_takeWrite 23 rfl) (by decide) rfl ?_
    refine g_iadd C (tdec DX3_takeWrite 24 rfl) rfl ?_
    refine g_bipush (v := 8) C (tdec DX3_takeWrite 25 rfl) (by decide) rfl ?_
    obtain ⟨r6, y7, hF⟩ := o_bind hF
    refine g_callVlRS (q0 := 21) (S := [wRC r_0 v_0 sb_0 r0, wV cI cJ v_0 v_1 v_2 v_3 v_4 v_5 v_6 v_7 v_8 v_9 v_10 v_11 v_12 v_13 v_14 v_15 v_16 v_17 v_18 v_19 v0, wSB cB sb_0 sb_1 sb0]) (S0 := [wSB cB sb_0 sb_1 sb0]) C (c_X5_numberAt l D cB cI cJ cZ sb_0 sb_1 y7) rfl rfl (gIV ml_X3_39 im_X5_numberAt sl_X5_numberAt in_X5 cd_X5_numberAt) rfl eX5_numberAt rfl ⟨rfl, rfl⟩ ⟨Nat.le_of_ble_eq_true rfl, Nat.le_of_ble_eq_true rfl⟩ rfl rfl rfl [2] rfl rfl rfl (Nat.le_of_ble_eq_true rfl) (tdec DX3_takeWrite 26 rfl) rfl ?_
    obtain ⟨⟨r8, s9⟩, y10, hF⟩ := o_bind hF
    refine g_callViMS (q0 := 1) (W' := wRC r_0 v_0 sb_0 r0 ++ (wV cI cJ v_0 v_1 v_2 v_3 v_4 v_5 v_6 v_7 v_8 v_9 v_10 v_11 v_12 v_13 v_14 v_15 v_16 v_17 v_18 v_19 s9 ++ (wSB cB sb_0 sb_1 sb0))) (S := [wRC r_0 v_0 sb_0 r0, wV cI cJ v_0 v_1 v_2 v_3 v_4 v_5 v_6 v_7 v_8 v_9 v_10 v_11 v_12 v_13 v_14 v_15 v_16 v_17 v_18 v_19 v0, wSB cB sb_0 sb_1 sb0]) (S0 := [wV cI cJ v_0 v_1 v_2 v_3 v_4 v_5 v_6 v_7 v_8 v_9 v_10 v_11 v_12 v_13 v_14 v_15 v_16 v_17 v_18 v_19 v0]) (S1 := [wV cI cJ v_0 v_1 v_2 v_3 v_4 v_5 v_6 v_7 v_8 v_9 v_10 v_11 v_12 v_13 v_14 v_15 v_16 v_17 v_18 v_19 s9]) (S' := [wRC r_0 v_0 sb_0 r0, wV cI cJ v_0 v_1 v_2 v_3 v_4 v_5 v_6 v_7 v_8 v_9 v_10 v_11 v_12 v_13 v_14 v_15 v_16 v_17 v_18 v_19 s9, wSB cB sb_0 sb_1 sb0]) C (c_X6_writePlace l D cB cI cJ cZ v_0 v_1 v_2 v_3 v_4 v_5 v_6 v_7 v_8 v_9 v_10 v_11 v_12 v_13 v_14 v_15 v_16 v_17 v_18 v_19 y10) rfl rfl (gIV ml_X3_92 im_X6_writePlace sl_X6_writePlace in_X6 cd_X6_writePlace) rfl eX6_writePlace rfl ⟨rfl, rfl⟩ ⟨Nat.le_of_ble_eq_true rfl, Nat.le_of_ble_eq_true rfl⟩ rfl rfl rfl [1] rfl rfl rfl rfl (gA_cons aV gA_nil) rfl rfl (Nat.le_of_ble_eq_true rfl) (tdec DX3_takeWrite 27 rfl) rfl ?_
    refine g_if_eq (pt := 59) C (tdec DX3_takeWrite 28 rfl) (by decide) rfl (fun h11 => ?_) (fun h11 => ?_)
    · have hF := o_ifp hF h11
      refine g_iconst (v := 5) C (tdec DX3_takeWrite 31 rfl) (by decide) rfl ?_
      have hr9 := o_some hF
      subst hr9
      exact g_iret C rfl rfl (tdec DX3_takeWrite 32 rfl)
    · have hF := o_ifn hF h11
      refine g_bipush (v := 7) C (tdec DX3_takeWrite 29 rfl) (by decide) rfl ?_
      refine g_goto (pt := 60) C (tdec DX3_takeWrite 30 rfl) (by decide) ?_
      have hr9 := o_some hF
      subst hr9
      exact g_iret C rfl rfl (tdec DX3_takeWrite 32 rfl)
  · have hF := o_ifp hF h5
    refine g_iconst (v := 1) C (tdec DX3_takeWrite 13 rfl) (by decide) rfl ?_
    have hr9 := o_some hF
    subst hr9
    exact g_iret C rfl rfl (tdec DX3_takeWrite 14 rfl)
def FX3_takeClear_L57 (r0 : RC) (sb0 : SB) (v1 : Int32) (v2 : Int32) (k9 : VS → Int32 → Option (Int32 × VS)) : Nat → VS → Int32 → Option (Int32 × VS)
  | 0, _, _ => none
  | n9 + 1, v, v3 =>
    if v2 ≤ v3 then
      k9 v v3
    else
      (FX6_clearPlace v 4801 (v1 + v3)).bind fun (r11, s12) =>
      if r11 = 0 then
        some (5, s12)
      else
        FX3_takeClear_L57 r0 sb0 v1 v2 k9 n9 s12 (v3 + 1)
def FX3_takeClear (r0 : RC) (v0 : VS) (sb0 : SB) : Option (Int32 × VS) :=
  (FX5_numberAt sb0 ((RC_pos r0) + 1) 2).bind fun r1 =>
  (FX5_numberAt sb0 ((RC_pos r0) + 3) 2).bind fun r3 =>
  (FX7_isPlace ((r1 : Int64).toInt32)).bind fun r5 =>
  if r5 = 0 then
    some (1, v0)
  else
    if ((r3 : Int64).toInt32) < 1 then
      some (1, v0)
    else
      if (((r1 : Int64).toInt32) + ((r3 : Int64).toInt32)) ≤ 512 then
        FX3_takeClear_L57 r0 sb0 ((r1 : Int64).toInt32) ((r3 : Int64).toInt32) (fun vq15 w3_15 =>
          some (7, vq15)) 100000 v0 0
      else
        some (1, v0)
def rX3_takeClear : Room := { frames := 4, cells := 0, slots := 0, locals := 96 }
set_option maxHeartbeats 4000000 in
set_option maxRecDepth 100000 in
theorem c_FX3_takeClear_L57 {p : Program} {l : Launch} {e : Env} {s : State} {m : MethodId} {args : Array Value} {below : List Frame} {meth : Method} {c : Code} {D : va_G} {cB cI cJ cZ : ClassId} {r_0 v_0 v_1 v_2 v_3 v_4 v_5 v_6 v_7 v_8 v_9 v_10 v_11 v_12 v_13 v_14 v_15 v_16 v_17 v_18 v_19 sb_0 sb_1 : Nat} {r0 : RC} {v0 : VS} {sb0 : SB} {res : Int32 × VS} (C : gC p s m args meth c cX3_takeClear 4 RX3 wsX3_takeClear D (gT cB cI cJ cZ) (some .int) (va_A (wRC r_0 v_0 sb_0 r0 ++ (wV cI cJ v_0 v_1 v_2 v_3 v_4 v_5 v_6 v_7 v_8 v_9 v_10 v_11 v_12 v_13 v_14 v_15 v_16 v_17 v_18 v_19 v0 ++ (wSB cB sb_0 sb_1 sb0))) s.heap.size)) {v1 : Int32} {v2 : Int32} {k9 : VS → Int32 → Option (Int32 × VS)} (hk9 : ∀ (v : VS) (v3 : Int32), k9 v v3 = some res → gG p l e (headSpec wsX3_takeClear rX3_takeClear).room s m args below meth c 0 0 D (va_A (wRC r_0 v_0 sb_0 r0 ++ (wV cI cJ v_0 v_1 v_2 v_3 v_4 v_5 v_6 v_7 v_8 v_9 v_10 v_11 v_12 v_13 v_14 v_15 v_16 v_17 v_18 v_19 v0 ++ (wSB cB sb_0 sb_1 sb0))) s.heap.size) (va_A (wRC r_0 v_0 sb_0 r0 ++ (wV cI cJ v_0 v_1 v_2 v_3 v_4 v_5 v_6 v_7 v_8 v_9 v_10 v_11 v_12 v_13 v_14 v_15 v_16 v_17 v_18 v_19 v0 ++ (wSB cB sb_0 sb_1 sb0))) s.heap.size) 4 (MQ below (gQi D (wRC r_0 v_0 sb_0 r0 ++ (wV cI cJ v_0 v_1 v_2 v_3 v_4 v_5 v_6 v_7 v_8 v_9 v_10 v_11 v_12 v_13 v_14 v_15 v_16 v_17 v_18 v_19 v0 ++ (wSB cB sb_0 sb_1 sb0))) s.heap.size res.1 (wRC r_0 v_0 sb_0 r0 ++ (wV cI cJ v_0 v_1 v_2 v_3 v_4 v_5 v_6 v_7 v_8 v_9 v_10 v_11 v_12 v_13 v_14 v_15 v_16 v_17 v_18 v_19 res.2 ++ (wSB cB sb_0 sb_1 sb0)))) args s 0 0 (va_A (wRC r_0 v_0 sb_0 r0 ++ (wV cI cJ v_0 v_1 v_2 v_3 v_4 v_5 v_6 v_7 v_8 v_9 v_10 v_11 v_12 v_13 v_14 v_15 v_16 v_17 v_18 v_19 v0 ++ (wSB cB sb_0 sb_1 sb0))) s.heap.size)) (wRC r_0 v_0 sb_0 r0 ++ (wV cI cJ v_0 v_1 v_2 v_3 v_4 v_5 v_6 v_7 v_8 v_9 v_10 v_11 v_12 v_13 v_14 v_15 v_16 v_17 v_18 v_19 v ++ (wSB cB sb_0 sb_1 sb0))) 86 [(0, .ref r_0), (1, .int v1), (2, .int v2), (3, .int v3)] []) :
    ∀ (n9 : Nat) (v : VS) (v3 : Int32), FX3_takeClear_L57 r0 sb0 v1 v2 k9 n9 v v3 = some res → gG p l e (headSpec wsX3_takeClear rX3_takeClear).room s m args below meth c 0 0 D (va_A (wRC r_0 v_0 sb_0 r0 ++ (wV cI cJ v_0 v_1 v_2 v_3 v_4 v_5 v_6 v_7 v_8 v_9 v_10 v_11 v_12 v_13 v_14 v_15 v_16 v_17 v_18 v_19 v0 ++ (wSB cB sb_0 sb_1 sb0))) s.heap.size) (va_A (wRC r_0 v_0 sb_0 r0 ++ (wV cI cJ v_0 v_1 v_2 v_3 v_4 v_5 v_6 v_7 v_8 v_9 v_10 v_11 v_12 v_13 v_14 v_15 v_16 v_17 v_18 v_19 v0 ++ (wSB cB sb_0 sb_1 sb0))) s.heap.size) 4 (MQ below (gQi D (wRC r_0 v_0 sb_0 r0 ++ (wV cI cJ v_0 v_1 v_2 v_3 v_4 v_5 v_6 v_7 v_8 v_9 v_10 v_11 v_12 v_13 v_14 v_15 v_16 v_17 v_18 v_19 v0 ++ (wSB cB sb_0 sb_1 sb0))) s.heap.size res.1 (wRC r_0 v_0 sb_0 r0 ++ (wV cI cJ v_0 v_1 v_2 v_3 v_4 v_5 v_6 v_7 v_8 v_9 v_10 v_11 v_12 v_13 v_14 v_15 v_16 v_17 v_18 v_19 res.2 ++ (wSB cB sb_0 sb_1 sb0)))) args s 0 0 (va_A (wRC r_0 v_0 sb_0 r0 ++ (wV cI cJ v_0 v_1 v_2 v_3 v_4 v_5 v_6 v_7 v_8 v_9 v_10 v_11 v_12 v_13 v_14 v_15 v_16 v_17 v_18 v_19 v0 ++ (wSB cB sb_0 sb_1 sb0))) s.heap.size)) (wRC r_0 v_0 sb_0 r0 ++ (wV cI cJ v_0 v_1 v_2 v_3 v_4 v_5 v_6 v_7 v_8 v_9 v_10 v_11 v_12 v_13 v_14 v_15 v_16 v_17 v_18 v_19 v ++ (wSB cB sb_0 sb_1 sb0))) 57 [(0, .ref r_0), (1, .int v1), (2, .int v2), (3, .int v3)] [] := by
  intro n9
  induction n9 with
  | zero =>
    intro v v3 hF
    exact absurd hF (by simp [FX3_takeClear_L57])
  | succ n9 ih9 =>
    intro v v3 hF
    rw [FX3_takeClear_L57] at hF
    refine g_iload_n (z := 3) C (tdec DX3_takeClear 35 rfl) rfl rfl rfl ?_
    refine g_iload_n (z := 2) C (tdec DX3_takeClear 36 rfl) rfl rfl rfl ?_
    refine g_icmp_ge (pt := 86) C (tdec DX3_takeClear 37 rfl) (by decide) rfl (fun h10 => ?_) (fun h10 => ?_)
    · have hF := o_ifp hF h10
      refine g_sub (L' := [(0, .ref r_0), (1, .int v1), (2, .int v2), (3, .int v3)]) [0, 1, 2, 3] rfl ?_
      exact hk9 _ _ hF
    · have hF := o_ifn hF h10
      refine g_aload_n (z := 0) C (tdec DX3_takeClear 38 rfl) rfl rfl rfl ?_
      refine g_getf (C' := RX3) (T := TX3) (N := 5) (v := .ref v_0) C 0 0 (gIn iw_X3) rfl rfl (by decide) (gMem fl_X3_9) rfl rfl (tdec DX3_takeClear 39 rfl) rfl ?_
      refine g_sipush (v := 4801) C (tdec DX3_takeClear 40 rfl) (by decide) rfl ?_
      refine g_iload_n (z := 1) C (tdec DX3_takeClear 41 rfl) rfl rfl rfl ?_
      refine g_iload_n (z := 3) C (tdec DX3_takeClear 42 rfl) rfl rfl rfl ?_
      refine g_iadd C (tdec DX3_takeClear 43 rfl) rfl ?_
      obtain ⟨⟨r11, s12⟩, y13, hF⟩ := o_bind hF
      refine g_callViMS (q0 := 1) (W' := wRC r_0 v_0 sb_0 r0 ++ (wV cI cJ v_0 v_1 v_2 v_3 v_4 v_5 v_6 v_7 v_8 v_9 v_10 v_11 v_12 v_13 v_14 v_15 v_16 v_17 v_18 v_19 s12 ++ (wSB cB sb_0 sb_1 sb0))) (S := [wRC r_0 v_0 sb_0 r0, wV cI cJ v_0 v_1 v_2 v_3 v_4 v_5 v_6 v_7 v_8 v_9 v_10 v_11 v_12 v_13 v_14 v_15 v_16 v_17 v_18 v_19 v, wSB cB sb_0 sb_1 sb0]) (S0 := [wV cI cJ v_0 v_1 v_2 v_3 v_4 v_5 v_6 v_7 v_8 v_9 v_10 v_11 v_12 v_13 v_14 v_15 v_16 v_17 v_18 v_19 v]) (S1 := [wV cI cJ v_0 v_1 v_2 v_3 v_4 v_5 v_6 v_7 v_8 v_9 v_10 v_11 v_12 v_13 v_14 v_15 v_16 v_17 v_18 v_19 s12]) (S' := [wRC r_0 v_0 sb_0 r0, wV cI cJ v_0 v_1 v_2 v_3 v_4 v_5 v_6 v_7 v_8 v_9 v_10 v_11 v_12 v_13 v_14 v_15 v_16 v_17 v_18 v_19 s12, wSB cB sb_0 sb_1 sb0]) C (c_X6_clearPlace l D cB cI cJ cZ v_0 v_1 v_2 v_3 v_4 v_5 v_6 v_7 v_8 v_9 v_10 v_11 v_12 v_13 v_14 v_15 v_16 v_17 v_18 v_19 y13) rfl rfl (gIV ml_X3_96 im_X6_clearPlace sl_X6_clearPlace in_X6 cd_X6_clearPlace) rfl eX6_clearPlace rfl ⟨rfl, rfl⟩ ⟨Nat.le_of_ble_eq_true rfl, Nat.le_of_ble_eq_true rfl⟩ rfl rfl rfl [1] rfl rfl rfl rfl (gA_cons aV gA_nil) rfl rfl (Nat.le_of_ble_eq_true rfl) (tdec DX3_takeClear 44 rfl) rfl ?_
      refine g_if_ne (pt := 80) C (tdec DX3_takeClear 45 rfl) (by decide) rfl (fun h14 => ?_) (fun h14 => ?_)
      · have hF := o_ifn hF h14
        refine g_iinc (z := 3) (v := (v3 + 1)) (L' := [(3, .int (v3 + 1)), (0, .ref r_0), (1, .int v1), (2, .int v2)]) C (tdec DX3_takeClear 48 rfl) rfl rfl (by decide) rfl rfl ?_
        refine g_goto (pt := 57) C (tdec DX3_takeClear 49 rfl) (by decide) ?_
        refine g_sub (L' := [(0, .ref r_0), (1, .int v1), (2, .int v2), (3, .int (v3 + 1))]) [1, 2, 3, 0] rfl ?_
        exact ih9 _ _ hF
      · have hF := o_ifp hF h14
        refine g_iconst (v := 5) C (tdec DX3_takeClear 46 rfl) (by decide) rfl ?_
        have hr9 := o_some hF
        subst hr9
        exact g_iret C rfl rfl (tdec DX3_takeClear 47 rfl)
set_option maxHeartbeats 4000000 in
set_option maxRecDepth 100000 in
theorem c_X3_takeClear (l : Launch) (D : va_G) (cB cI cJ cZ : ClassId) (r_0 v_0 v_1 v_2 v_3 v_4 v_5 v_6 v_7 v_8 v_9 v_10 v_11 v_12 v_13 v_14 v_15 v_16 v_17 v_18 v_19 sb_0 sb_1 : Nat) {r0 : RC} {v0 : VS} {sb0 : SB} {res : Int32 × VS} (hF : FX3_takeClear r0 v0 sb0 = some res) : gMi l yX3_takeClear wsX3_takeClear rX3_takeClear D (gT cB cI cJ cZ) [.ref r_0] (wRC r_0 v_0 sb_0 r0 ++ (wV cI cJ v_0 v_1 v_2 v_3 v_4 v_5 v_6 v_7 v_8 v_9 v_10 v_11 v_12 v_13 v_14 v_15 v_16 v_17 v_18 v_19 v0 ++ (wSB cB sb_0 sb_1 sb0))) res.1 (wRC r_0 v_0 sb_0 r0 ++ (wV cI cJ v_0 v_1 v_2 v_3 v_4 v_5 v_6 v_7 v_8 v_9 v_10 v_11 v_12 v_13 v_14 v_15 v_16 v_17 v_18 v_19 res.2 ++ (wSB cB sb_0 sb_1 sb0))) := by
  refine g_enter (own := RX3) (free := (fun sz => va_A (wRC r_0 v_0 sb_0 r0 ++ (wV cI cJ v_0 v_1 v_2 v_3 v_4 v_5 v_6 v_7 v_8 v_9 v_10 v_11 v_12 v_13 v_14 v_15 v_16 v_17 v_18 v_19 v0 ++ (wSB cB sb_0 sb_1 sb0))) sz)) (Qc := (fun sz => gQi D (wRC r_0 v_0 sb_0 r0 ++ (wV cI cJ v_0 v_1 v_2 v_3 v_4 v_5 v_6 v_7 v_8 v_9 v_10 v_11 v_12 v_13 v_14 v_15 v_16 v_17 v_18 v_19 v0 ++ (wSB cB sb_0 sb_1 sb0))) sz res.1 (wRC r_0 v_0 sb_0 r0 ++ (wV cI cJ v_0 v_1 v_2 v_3 v_4 v_5 v_6 v_7 v_8 v_9 v_10 v_11 v_12 v_13 v_14 v_15 v_16 v_17 v_18 v_19 res.2 ++ (wSB cB sb_0 sb_1 sb0))))) (fun sz => va_A (wRC r_0 v_0 sb_0 r0 ++ (wV cI cJ v_0 v_1 v_2 v_3 v_4 v_5 v_6 v_7 v_8 v_9 v_10 v_11 v_12 v_13 v_14 v_15 v_16 v_17 v_18 v_19 v0 ++ (wSB cB sb_0 sb_1 sb0))) sz) (fun sz => Or.inr rfl) rfl (by decide) rfl (Nat.le_of_ble_eq_true rfl) rfl ?_
  intro p e s m args below meth c C
  unfold FX3_takeClear at hF
  refine g_aload_n (z := 0) C (tdec DX3_takeClear 0 rfl) rfl rfl rfl ?_
  refine g_getf (C' := RX3) (T := TX3) (N := 5) (v := .ref sb_0) C 0 1 (gIn iw_X3) rfl rfl (by decide) (gMem fl_X3_15) rfl rfl (tdec DX3_takeClear 1 rfl) rfl ?_
  refine g_aload_n (z := 0) C (tdec DX3_takeClear 2 rfl) rfl rfl rfl ?_
  refine g_getf (C' := RX3) (T := TX3) (N := 5) (v := .int (RC_pos r0)) C 0 2 (gIn iw_X3) rfl rfl (by decide) (gMem fl_X3_60) rfl rfl (tdec DX3_takeClear 3 rfl) rfl ?_
  refine g_iconst (v := 1) C (tdec DX3_takeClear 4 rfl) (by decide) rfl ?_
  refine g_iadd C (tdec DX3_takeClear 5 rfl) rfl ?_
  refine g_iconst (v := 2) C (tdec DX3_takeClear 6 rfl) (by decide) rfl ?_
  obtain ⟨r1, y2, hF⟩ := o_bind hF
  refine g_callVlRS (q0 := 21) (S := [wRC r_0 v_0 sb_0 r0, wV cI cJ v_0 v_1 v_2 v_3 v_4 v_5 v_6 v_7 v_8 v_9 v_10 v_11 v_12 v_13 v_14 v_15 v_16 v_17 v_18 v_19 v0, wSB cB sb_0 sb_1 sb0]) (S0 := [wSB cB sb_0 sb_1 sb0]) C (c_X5_numberAt l D cB cI cJ cZ sb_0 sb_1 y2) rfl rfl (gIV ml_X3_39 im_X5_numberAt sl_X5_numberAt in_X5 cd_X5_numberAt) rfl eX5_numberAt rfl ⟨rfl, rfl⟩ ⟨Nat.le_of_ble_eq_true rfl, Nat.le_of_ble_eq_true rfl⟩ rfl rfl rfl [2] rfl rfl rfl (Nat.le_of_ble_eq_true rfl) (tdec DX3_takeClear 7 rfl) rfl ?_
  refine g_l2i C (tdec DX3_takeClear 8 rfl) rfl ?_
  refine g_istore_n (L' := [(1, .int ((r1 : Int64).toInt32)), (0, .ref r_0)]) C (tdec DX3_takeClear 9 rfl) rfl (by decide) rfl rfl ?_
  refine g_aload_n (z := 1) C (tdec DX3_takeClear 10 rfl) rfl rfl rfl ?_
  refine g_getf (C' := RX3) (T := TX3) (N := 5) (v := .ref sb_0) C 0 1 (gIn iw_X3) rfl rfl (by decide) (gMem fl_X3_15) rfl rfl (tdec DX3_takeClear 11 rfl) rfl ?_
  refine g_aload_n (z := 1) C (tdec DX3_takeClear 12 rfl) rfl rfl rfl ?_
  refine g_getf (C' := RX3) (T := TX3) (N := 5) (v := .int (RC_pos r0)) C 0 2 (gIn iw_X3) rfl rfl (by decide) (gMem fl_X3_60) rfl rfl (tdec DX3_takeClear 13 rfl) rfl ?_
  refine g_iconst (v := 3) C (tdec DX3_takeClear 14 rfl) (by decide) rfl ?_
  refine g_iadd C (tdec DX3_takeClear 15 rfl) rfl ?_
  refine g_iconst (v := 2) C (tdec DX3_takeClear 16 rfl) (by decide) rfl ?_
  obtain ⟨r3, y4, hF⟩ := o_bind hF
  refine g_callVlRS (q0 := 21) (S := [wRC r_0 v_0 sb_0 r0, wV cI cJ v_0 v_1 v_2 v_3 v_4 v_5 v_6 v_7 v_8 v_9 v_10 v_11 v_12 v_13 v_14 v_15 v_16 v_17 v_18 v_19 v0, wSB cB sb_0 sb_1 sb0]) (S0 := [wSB cB sb_0 sb_1 sb0]) C (c_X5_numberAt l D cB cI cJ cZ sb_0 sb_1 y4) rfl rfl (gIV ml_X3_39 im_X5_numberAt sl_X5_numberAt in_X5 cd_X5_numberAt) rfl eX5_numberAt rfl ⟨rfl, rfl⟩ ⟨Nat.le_of_ble_eq_true rfl, Nat.le_of_ble_eq_true rfl⟩ rfl rfl rfl [2] rfl rfl rfl (Nat.le_of_ble_eq_true rfl) (tdec DX3_takeClear 17 rfl) rfl ?_
  refine g_l2i C (tdec DX3_takeClear 18 rfl) rfl ?_
  refine g_istore_n (L' := [(2, .int ((r3 : Int64).toInt32)), (1, .int ((r1 : Int64).toInt32)), (0, .ref r_0)]) C (tdec DX3_takeClear 19 rfl) rfl (by decide) rfl rfl ?_
  refine g_iload_n (z := 1) C (tdec DX3_takeClear 20 rfl) rfl rfl rfl ?_
  obtain ⟨r5, y6, hF⟩ := o_bind hF
  refine g_callSNiR C (c_X7_isPlace l D cB cI cJ cZ y6) C.2.2.2.2.2.2.2.2.1 (gGood (gSelf cd_X7_isPlace)) eX7_isPlace (gMem st_X7_isPlace) (gMem in_X7) rfl ⟨rfl, rfl⟩ ⟨Nat.le_of_ble_eq_true rfl, Nat.le_of_ble_eq_true rfl⟩ rfl [] rfl rfl rfl (Nat.le_of_ble_eq_true rfl) (tdec DX3_takeClear 21 rfl) rfl ?_
  refine g_if_eq (pt := 53) C (tdec DX3_takeClear 22 rfl) (by decide) rfl (fun h7 => ?_) (fun h7 => ?_)
  · have hF := o_ifp hF h7
    refine g_iconst (v := 1) C (tdec DX3_takeClear 31 rfl) (by decide) rfl ?_
    have hr9 := o_some hF
    subst hr9
    exact g_iret C rfl rfl (tdec DX3_takeClear 32 rfl)
  · have hF := o_ifn hF h7
    refine g_iload_n (z := 0) C (tdec DX3_takeClear 23 rfl) rfl rfl rfl ?_
    refine g_iconst (v := 1) C (tdec DX3_takeClear 24 rfl) (by decide) rfl ?_
    refine g_icmp_lt (pt := 53) C (tdec DX3_takeClear 25 rfl) (by decide) rfl (fun h8 => ?_) (fun h8 => ?_)
    · have hF := o_ifp hF h8
      refine g_iconst (v := 1) C (tdec DX3_takeClear 31 rfl) (by decide) rfl ?_
      have hr9 := o_some hF
      subst hr9
      exact g_iret C rfl rfl (tdec DX3_takeClear 32 rfl)
    · have hF := o_ifn hF h8
      refine g_iload_n (z := 1) C (tdec DX3_takeClear 26 rfl) rfl rfl rfl ?_
      refine g_iload_n (z := 0) C (tdec DX3_takeClear 27 rfl) rfl rfl rfl ?_
      refine g_iadd C (tdec DX3_takeClear 28 rfl) rfl ?_
      refine g_sipush (v := 512) C (tdec DX3_takeClear 29 rfl) (by decide) rfl ?_
      refine g_icmp_le (pt := 55) C (tdec DX3_takeClear 30 rfl) (by decide) rfl (fun h9 => ?_) (fun h9 => ?_)
      · have hF := o_ifp hF h9
        refine g_iconst (v := 0) C (tdec DX3_takeClear 33 rfl) (by decide) rfl ?_
        refine g_istore_n (L' := [(3, .int 0), (2, .int ((r3 : Int64).toInt32)), (1, .int ((r1 : Int64).toInt32)), (0, .ref r_0)]) C (tdec DX3_takeClear 34 rfl) rfl (by decide) rfl rfl ?_
        refine g_sub (L' := [(0, .ref r_0), (1, .int ((r1 : Int64).toInt32)), (2, .int ((r3 : Int64).toInt32)), (3, .int 0)]) [3, 2, 1, 0] rfl ?_
        refine c_FX3_takeClear_L57 C (fun vq15 w3_15 hF => ?_) 100000 _ _ hF
        refine g_bipush (v := 7) C (tdec DX3_takeClear 50 rfl) (by decide) rfl ?_
        have hr9 := o_some hF
        subst hr9
        exact g_iret C rfl rfl (tdec DX3_takeClear 51 rfl)
      · have hF := o_ifn hF h9
        refine g_iconst (v := 1) C (tdec DX3_takeClear 31 rfl) (by decide) rfl ?_
        have hr9 := o_some hF
        subst hr9
        exact g_iret C rfl rfl (tdec DX3_takeClear 32 rfl)
def FX3_takeEnd (r0 : RC) (v0 : VS) (sb0 : SB) : Option (Int32 × VS) :=
  (FX5_numberAt sb0 ((RC_pos r0) + 1) 4).bind fun r1 =>
  if (lg_cmp r1 (1 + (((RC_rec r0) : Int32).toInt64))) = 0 then
    (FX5_length sb0).bind fun r4 =>
    if ((RC_pos r0) + 13) = r4 then
      (FX6_snapshots v0).bind fun r7 =>
      if r7 < 20 then
        (FX6_keepHidden v0 (RC_tgt r0)).bind fun s10 =>
        some (0, s10)
      else
        some (5, v0)
    else
      some (1, v0)
  else
    some (1, v0)
def rX3_takeEnd : Room := { frames := 4, cells := 0, slots := 0, locals := 91 }
set_option maxHeartbeats 4000000 in
set_option maxRecDepth 100000 in
theorem c_X3_takeEnd (l : Launch) (D : va_G) (cB cI cJ cZ : ClassId) (r_0 v_0 v_1 v_2 v_3 v_4 v_5 v_6 v_7 v_8 v_9 v_10 v_11 v_12 v_13 v_14 v_15 v_16 v_17 v_18 v_19 sb_0 sb_1 : Nat) {r0 : RC} {v0 : VS} {sb0 : SB} {res : Int32 × VS} (hF : FX3_takeEnd r0 v0 sb0 = some res) : gMi l yX3_takeEnd wsX3_takeEnd rX3_takeEnd D (gT cB cI cJ cZ) [.ref r_0] (wRC r_0 v_0 sb_0 r0 ++ (wV cI cJ v_0 v_1 v_2 v_3 v_4 v_5 v_6 v_7 v_8 v_9 v_10 v_11 v_12 v_13 v_14 v_15 v_16 v_17 v_18 v_19 v0 ++ (wSB cB sb_0 sb_1 sb0))) res.1 (wRC r_0 v_0 sb_0 r0 ++ (wV cI cJ v_0 v_1 v_2 v_3 v_4 v_5 v_6 v_7 v_8 v_9 v_10 v_11 v_12 v_13 v_14 v_15 v_16 v_17 v_18 v_19 res.2 ++ (wSB cB sb_0 sb_1 sb0))) := by
  refine g_enter (own := RX3) (free := (fun sz => va_A (wRC r_0 v_0 sb_0 r0 ++ (wV cI cJ v_0 v_1 v_2 v_3 v_4 v_5 v_6 v_7 v_8 v_9 v_10 v_11 v_12 v_13 v_14 v_15 v_16 v_17 v_18 v_19 v0 ++ (wSB cB sb_0 sb_1 sb0))) sz)) (Qc := (fun sz => gQi D (wRC r_0 v_0 sb_0 r0 ++ (wV cI cJ v_0 v_1 v_2 v_3 v_4 v_5 v_6 v_7 v_8 v_9 v_10 v_11 v_12 v_13 v_14 v_15 v_16 v_17 v_18 v_19 v0 ++ (wSB cB sb_0 sb_1 sb0))) sz res.1 (wRC r_0 v_0 sb_0 r0 ++ (wV cI cJ v_0 v_1 v_2 v_3 v_4 v_5 v_6 v_7 v_8 v_9 v_10 v_11 v_12 v_13 v_14 v_15 v_16 v_17 v_18 v_19 res.2 ++ (wSB cB sb_0 sb_1 sb0))))) (fun sz => va_A (wRC r_0 v_0 sb_0 r0 ++ (wV cI cJ v_0 v_1 v_2 v_3 v_4 v_5 v_6 v_7 v_8 v_9 v_10 v_11 v_12 v_13 v_14 v_15 v_16 v_17 v_18 v_19 v0 ++ (wSB cB sb_0 sb_1 sb0))) sz) (fun sz => Or.inr rfl) rfl (by decide) rfl (Nat.le_of_ble_eq_true rfl) rfl ?_
  intro p e s m args below meth c C
  unfold FX3_takeEnd at hF
  refine g_aload_n (z := 0) C (tdec DX3_takeEnd 0 rfl) rfl rfl rfl ?_
  refine g_getf (C' := RX3) (T := TX3) (N := 5) (v := .ref sb_0) C 0 1 (gIn iw_X3) rfl rfl (by decide) (gMem fl_X3_15) rfl rfl (tdec DX3_takeEnd 1 rfl) rfl ?_
  refine g_aload_n (z := 0) C (tdec DX3_takeEnd 2 rfl) rfl rfl rfl ?_
  refine g_getf (C' := RX3) (T := TX3) (N := 5) (v := .int (RC_pos r0)) C 0 2 (gIn iw_X3) rfl rfl (by decide) (gMem fl_X3_60) rfl rfl (tdec DX3_takeEnd 3 rfl) rfl ?_
  refine g_iconst (v := 1) C (tdec DX3_takeEnd 4 rfl) (by decide) rfl ?_
  refine g_iadd C (tdec DX3_takeEnd 5 rfl) rfl ?_
  refine g_iconst (v := 4) C (tdec DX3_takeEnd 6 rfl) (by decide) rfl ?_
  obtain ⟨r1, y2, hF⟩ := o_bind hF
  refine g_callVlRS (q0 := 21) (S := [wRC r_0 v_0 sb_0 r0, wV cI cJ v_0 v_1 v_2 v_3 v_4 v_5 v_6 v_7 v_8 v_9 v_10 v_11 v_12 v_13 v_14 v_15 v_16 v_17 v_18 v_19 v0, wSB cB sb_0 sb_1 sb0]) (S0 := [wSB cB sb_0 sb_1 sb0]) C (c_X5_numberAt l D cB cI cJ cZ sb_0 sb_1 y2) rfl rfl (gIV ml_X3_39 im_X5_numberAt sl_X5_numberAt in_X5 cd_X5_numberAt) rfl eX5_numberAt rfl ⟨rfl, rfl⟩ ⟨Nat.le_of_ble_eq_true rfl, Nat.le_of_ble_eq_true rfl⟩ rfl rfl rfl [2] rfl rfl rfl (Nat.le_of_ble_eq_true rfl) (tdec DX3_takeEnd 7 rfl) rfl ?_
  refine g_lconst (v := 1) C (tdec DX3_takeEnd 8 rfl) (by decide) rfl ?_
  refine g_aload_n (z := 0) C (tdec DX3_takeEnd 9 rfl) rfl rfl rfl ?_
  refine g_getf (C' := RX3) (T := TX3) (N := 5) (v := .int (RC_rec r0)) C 0 3 (gIn iw_X3) rfl rfl (by decide) (gMem fl_X3_19) rfl rfl (tdec DX3_takeEnd 10 rfl) rfl ?_
  refine g_i2l C (tdec DX3_takeEnd 11 rfl) rfl ?_
  refine g_ladd C (tdec DX3_takeEnd 12 rfl) rfl ?_
  refine g_lcmp C (tdec DX3_takeEnd 13 rfl) rfl ?_
  refine g_if_ne (pt := 42) C (tdec DX3_takeEnd 14 rfl) (by decide) rfl (fun h3 => ?_) (fun h3 => ?_)
  · have hF := o_ifn hF h3
    refine g_iconst (v := 1) C (tdec DX3_takeEnd 23 rfl) (by decide) rfl ?_
    have hr9 := o_some hF
    subst hr9
    exact g_iret C rfl rfl (tdec DX3_takeEnd 24 rfl)
  · have hF := o_ifp hF h3
    refine g_aload_n (z := 0) C (tdec DX3_takeEnd 15 rfl) rfl rfl rfl ?_
    refine g_getf (C' := RX3) (T := TX3) (N := 5) (v := .int (RC_pos r0)) C 0 2 (gIn iw_X3) rfl rfl (by decide) (gMem fl_X3_60) rfl rfl (tdec DX3_takeEnd 16 rfl) rfl ?_
    refine g_bipush (v := 13) C (tdec DX3_takeEnd 17 rfl) (by decide) rfl ?_
    refine g_iadd C (tdec DX3_takeEnd 18 rfl) rfl ?_
    refine g_aload_n (z := 0) C (tdec DX3_takeEnd 19 rfl) rfl rfl rfl ?_
    refine g_getf (C' := RX3) (T := TX3) (N := 5) (v := .ref sb_0) C 0 1 (gIn iw_X3) rfl rfl (by decide) (gMem fl_X3_15) rfl rfl (tdec DX3_takeEnd 20 rfl) rfl ?_
    obtain ⟨r4, y5, hF⟩ := o_bind hF
    refine g_callViRS (q0 := 21) (S := [wRC r_0 v_0 sb_0 r0, wV cI cJ v_0 v_1 v_2 v_3 v_4 v_5 v_6 v_7 v_8 v_9 v_10 v_11 v_12 v_13 v_14 v_15 v_16 v_17 v_18 v_19 v0, wSB cB sb_0 sb_1 sb0]) (S0 := [wSB cB sb_0 sb_1 sb0]) C (c_X5_length l D cB cI cJ cZ sb_0 sb_1 y5) rfl rfl (gIV ml_X3_99 im_X5_length sl_X5_length in_X5 cd_X5_length) rfl eX5_length rfl ⟨rfl, rfl⟩ ⟨Nat.le_of_ble_eq_true rfl, Nat.le_of_ble_eq_true rfl⟩ rfl rfl rfl [2] rfl rfl rfl (Nat.le_of_ble_eq_true rfl) (tdec DX3_takeEnd 21 rfl) rfl ?_
    refine g_icmp_eq (pt := 44) C (tdec DX3_takeEnd 22 rfl) (by decide) rfl (fun h6 => ?_) (fun h6 => ?_)
    · have hF := o_ifp hF h6
      refine g_aload_n (z := 0) C (tdec DX3_takeEnd 25 rfl) rfl rfl rfl ?_
      refine g_getf (C' := RX3) (T := TX3) (N := 5) (v := .ref v_0) C 0 0 (gIn iw_X3) rfl rfl (by decide) (gMem fl_X3_9) rfl rfl (tdec DX3_takeEnd 26 rfl) rfl ?_
      obtain ⟨r7, y8, hF⟩ := o_bind hF
      refine g_callViRS (q0 := 1) (S := [wRC r_0 v_0 sb_0 r0, wV cI cJ v_0 v_1 v_2 v_3 v_4 v_5 v_6 v_7 v_8 v_9 v_10 v_11 v_12 v_13 v_14 v_15 v_16 v_17 v_18 v_19 v0, wSB cB sb_0 sb_1 sb0]) (S0 := [wV cI cJ v_0 v_1 v_2 v_3 v_4 v_5 v_6 v_7 v_8 v_9 v_10 v_11 v_12 v_13 v_14 v_15 v_16 v_17 v_18 v_19 v0]) C (c_X6_snapshots l D cB cI cJ cZ v_0 v_1 v_2 v_3 v_4 v_5 v_6 v_7 v_8 v_9 v_10 v_11 v_12 v_13 v_14 v_15 v_16 v_17 v_18 v_19 y8) rfl rfl (gIV ml_X3_43 im_X6_snapshots sl_X6_snapshots in_X6 cd_X6_snapshots) rfl eX6_snapshots rfl ⟨rfl, rfl⟩ ⟨Nat.le_of_ble_eq_true rfl, Nat.le_of_ble_eq_true rfl⟩ rfl rfl rfl [1] rfl rfl rfl (Nat.le_of_ble_eq_true rfl) (tdec DX3_takeEnd 27 rfl) rfl ?_
      refine g_bipush (v := 20) C (tdec DX3_takeEnd 28 rfl) (by decide) rfl ?_
      refine g_icmp_lt (pt := 58) C (tdec DX3_takeEnd 29 rfl) (by decide) rfl (fun h9 => ?_) (fun h9 => ?_)
      · have hF := o_ifp hF h9
        refine g_aload_n (z := 0) C (tdec DX3_takeEnd 32 rfl) rfl rfl rfl ?_
        refine g_getf (C' := RX3) (T := TX3) (N := 5) (v := .ref v_0) C 0 0 (gIn iw_X3) rfl rfl (by decide) (gMem fl_X3_9) rfl rfl (tdec DX3_takeEnd 33 rfl) rfl ?_
        refine g_aload_n (z := 0) C (tdec DX3_takeEnd 34 rfl) rfl rfl rfl ?_
        refine g_getf (C' := RX3) (T := TX3) (N := 5) (v := .long (RC_tgt r0)) C 0 4 (gIn iw_X3) rfl rfl (by decide) (gMem fl_X3_63) rfl rfl (tdec DX3_takeEnd 35 rfl) rfl ?_
        obtain ⟨s10, y11, hF⟩ := o_bind hF
        refine g_callVvMS (q0 := 1) (W' := wRC r_0 v_0 sb_0 r0 ++ (wV cI cJ v_0 v_1 v_2 v_3 v_4 v_5 v_6 v_7 v_8 v_9 v_10 v_11 v_12 v_13 v_14 v_15 v_16 v_17 v_18 v_19 s10 ++ (wSB cB sb_0 sb_1 sb0))) (S := [wRC r_0 v_0 sb_0 r0, wV cI cJ v_0 v_1 v_2 v_3 v_4 v_5 v_6 v_7 v_8 v_9 v_10 v_11 v_12 v_13 v_14 v_15 v_16 v_17 v_18 v_19 v0, wSB cB sb_0 sb_1 sb0]) (S0 := [wV cI cJ v_0 v_1 v_2 v_3 v_4 v_5 v_6 v_7 v_8 v_9 v_10 v_11 v_12 v_13 v_14 v_15 v_16 v_17 v_18 v_19 v0]) (S1 := [wV cI cJ v_0 v_1 v_2 v_3 v_4 v_5 v_6 v_7 v_8 v_9 v_10 v_11 v_12 v_13 v_14 v_15 v_16 v_17 v_18 v_19 s10]) (S' := [wRC r_0 v_0 sb_0 r0, wV cI cJ v_0 v_1 v_2 v_3 v_4 v_5 v_6 v_7 v_8 v_9 v_10 v_11 v_12 v_13 v_14 v_15 v_16 v_17 v_18 v_19 s10, wSB cB sb_0 sb_1 sb0]) C (c_X6_keepHidden l D cB cI cJ cZ v_0 v_1 v_2 v_3 v_4 v_5 v_6 v_7 v_8 v_9 v_10 v_11 v_12 v_13 v_14 v_15 v_16 v_17 v_18 v_19 y11) rfl rfl (gIV ml_X3_102 im_X6_keepHidden sl_X6_keepHidden in_X6 cd_X6_keepHidden) rfl eX6_keepHidden rfl ⟨rfl, rfl⟩ ⟨Nat.le_of_ble_eq_true rfl, Nat.le_of_ble_eq_true rfl⟩ rfl rfl rfl [1] rfl rfl rfl rfl (gA_cons aV gA_nil) rfl rfl (Nat.le_of_ble_eq_true rfl) (tdec DX3_takeEnd 36 rfl) rfl ?_
        refine g_iconst (v := 0) C (tdec DX3_takeEnd 37 rfl) (by decide) rfl ?_
        have hr9 := o_some hF
        subst hr9
        exact g_iret C rfl rfl (tdec DX3_takeEnd 38 rfl)
      · have hF := o_ifn hF h9
        refine g_iconst (v := 5) C (tdec DX3_takeEnd 30 rfl) (by decide) rfl ?_
        have hr9 := o_some hF
        subst hr9
        exact g_iret C rfl rfl (tdec DX3_takeEnd 31 rfl)
    · have hF := o_ifn hF h6
      refine g_iconst (v := 1) C (tdec DX3_takeEnd 23 rfl) (by decide) rfl ?_
      have hr9 := o_some hF
      subst hr9
      exact g_iret C rfl rfl (tdec DX3_takeEnd 24 rfl)
def FX3_takeRecord (r0 : RC) (v0 : VS) (sb0 : SB) : Option (Int32 × RC × VS) :=
  (FX5_at sb0 (RC_pos r0)).bind fun r1 =>
  (FX3_sizeOf r1).bind fun r3 =>
  (FX5_isWhole sb0 (RC_pos r0) r3).bind fun r5 =>
  if r5 = 0 then
    some (1, r0, v0)
  else
    if r1 = 2 then
      (FX3_takeWrite r0 v0 sb0).bind fun (r20, s21) =>
      if r20 = 7 then
        some (r20, (RC_setrec (RC_setpos r0 ((RC_pos r0) + r3)) ((RC_rec r0) + 1)), s21)
      else
        if r20 = 0 then
          some (r20, (RC_setrec (RC_setpos r0 ((RC_pos r0) + r3)) ((RC_rec r0) + 1)), s21)
        else
          some (r20, r0, s21)
    else
      if r1 = 3 then
        (FX3_takeClear r0 v0 sb0).bind fun (r15, s16) =>
        if r15 = 7 then
          some (r15, (RC_setrec (RC_setpos r0 ((RC_pos r0) + r3)) ((RC_rec r0) + 1)), s16)
        else
          if r15 = 0 then
            some (r15, (RC_setrec (RC_setpos r0 ((RC_pos r0) + r3)) ((RC_rec r0) + 1)), s16)
          else
            some (r15, r0, s16)
      else
        (FX3_takeEnd r0 v0 sb0).bind fun (r10, s11) =>
        if r10 = 7 then
          some (r10, (RC_setrec (RC_setpos r0 ((RC_pos r0) + r3)) ((RC_rec r0) + 1)), s11)
        else
          if r10 = 0 then
            some (r10, (RC_setrec (RC_setpos r0 ((RC_pos r0) + r3)) ((RC_rec r0) + 1)), s11)
          else
            some (r10, r0, s11)
def rX3_takeRecord : Room := { frames := 5, cells := 0, slots := 0, locals := 119 }
set_option maxHeartbeats 4000000 in
set_option maxRecDepth 100000 in
theorem c_X3_takeRecord (l : Launch) (D : va_G) (cB cI cJ cZ : ClassId) (r_0 v_0 v_1 v_2 v_3 v_4 v_5 v_6 v_7 v_8 v_9 v_10 v_11 v_12 v_13 v_14 v_15 v_16 v_17 v_18 v_19 sb_0 sb_1 : Nat) {r0 : RC} {v0 : VS} {sb0 : SB} {res : Int32 × RC × VS} (hF : FX3_takeRecord r0 v0 sb0 = some res) : gMi l yX3_takeRecord wsX3_takeRecord rX3_takeRecord D (gT cB cI cJ cZ) [.ref r_0] (wRC r_0 v_0 sb_0 r0 ++ (wV cI cJ v_0 v_1 v_2 v_3 v_4 v_5 v_6 v_7 v_8 v_9 v_10 v_11 v_12 v_13 v_14 v_15 v_16 v_17 v_18 v_19 v0 ++ (wSB cB sb_0 sb_1 sb0))) res.1 (wRC r_0 v_0 sb_0 res.2.1 ++ (wV cI cJ v_0 v_1 v_2 v_3 v_4 v_5 v_6 v_7 v_8 v_9 v_10 v_11 v_12 v_13 v_14 v_15 v_16 v_17 v_18 v_19 res.2.2 ++ (wSB cB sb_0 sb_1 sb0))) := by
  refine g_enter (own := RX3) (free := (fun sz => va_A (wRC r_0 v_0 sb_0 r0 ++ (wV cI cJ v_0 v_1 v_2 v_3 v_4 v_5 v_6 v_7 v_8 v_9 v_10 v_11 v_12 v_13 v_14 v_15 v_16 v_17 v_18 v_19 v0 ++ (wSB cB sb_0 sb_1 sb0))) sz)) (Qc := (fun sz => gQi D (wRC r_0 v_0 sb_0 r0 ++ (wV cI cJ v_0 v_1 v_2 v_3 v_4 v_5 v_6 v_7 v_8 v_9 v_10 v_11 v_12 v_13 v_14 v_15 v_16 v_17 v_18 v_19 v0 ++ (wSB cB sb_0 sb_1 sb0))) sz res.1 (wRC r_0 v_0 sb_0 res.2.1 ++ (wV cI cJ v_0 v_1 v_2 v_3 v_4 v_5 v_6 v_7 v_8 v_9 v_10 v_11 v_12 v_13 v_14 v_15 v_16 v_17 v_18 v_19 res.2.2 ++ (wSB cB sb_0 sb_1 sb0))))) (fun sz => va_A (wRC r_0 v_0 sb_0 r0 ++ (wV cI cJ v_0 v_1 v_2 v_3 v_4 v_5 v_6 v_7 v_8 v_9 v_10 v_11 v_12 v_13 v_14 v_15 v_16 v_17 v_18 v_19 v0 ++ (wSB cB sb_0 sb_1 sb0))) sz) (fun sz => Or.inr rfl) rfl (by decide) rfl (Nat.le_of_ble_eq_true rfl) rfl ?_
  intro p e s m args below meth c C
  unfold FX3_takeRecord at hF
  refine g_aload_n (z := 0) C (tdec DX3_takeRecord 0 rfl) rfl rfl rfl ?_
  refine g_getf (C' := RX3) (T := TX3) (N := 5) (v := .ref sb_0) C 0 1 (gIn iw_X3) rfl rfl (by decide) (gMem fl_X3_15) rfl rfl (tdec DX3_takeRecord 1 rfl) rfl ?_
  refine g_aload_n (z := 0) C (tdec DX3_takeRecord 2 rfl) rfl rfl rfl ?_
  refine g_getf (C' := RX3) (T := TX3) (N := 5) (v := .int (RC_pos r0)) C 0 2 (gIn iw_X3) rfl rfl (by decide) (gMem fl_X3_60) rfl rfl (tdec DX3_takeRecord 3 rfl) rfl ?_
  obtain ⟨r1, y2, hF⟩ := o_bind hF
  refine g_callViRS (q0 := 21) (S := [wRC r_0 v_0 sb_0 r0, wV cI cJ v_0 v_1 v_2 v_3 v_4 v_5 v_6 v_7 v_8 v_9 v_10 v_11 v_12 v_13 v_14 v_15 v_16 v_17 v_18 v_19 v0, wSB cB sb_0 sb_1 sb0]) (S0 := [wSB cB sb_0 sb_1 sb0]) C (c_X5_at l D cB cI cJ cZ sb_0 sb_1 y2) rfl rfl (gIV ml_X3_29 im_X5_at sl_X5_at in_X5 cd_X5_at) rfl eX5_at rfl ⟨rfl, rfl⟩ ⟨Nat.le_of_ble_eq_true rfl, Nat.le_of_ble_eq_true rfl⟩ rfl rfl rfl [2] rfl rfl rfl (Nat.le_of_ble_eq_true rfl) (tdec DX3_takeRecord 4 rfl) rfl ?_
  refine g_istore_n (L' := [(1, .int r1), (0, .ref r_0)]) C (tdec DX3_takeRecord 5 rfl) rfl (by decide) rfl rfl ?_
  refine g_iload_n (z := 0) C (tdec DX3_takeRecord 6 rfl) rfl rfl rfl ?_
  obtain ⟨r3, y4, hF⟩ := o_bind hF
  refine g_callSiR C (c_X3_sizeOf l D cB cI cJ cZ y4) (gIS ml_X3_76 st_X3_sizeOf in_X3 cd_X3_sizeOf) eX3_sizeOf rfl ⟨rfl, rfl⟩ ⟨Nat.le_of_ble_eq_true rfl, Nat.le_of_ble_eq_true rfl⟩ rfl [] rfl rfl rfl (Nat.le_of_ble_eq_true rfl) (tdec DX3_takeRecord 7 rfl) rfl ?_
  refine g_istore_n (L' := [(2, .int r3), (1, .int r1), (0, .ref r_0)]) C (tdec DX3_takeRecord 8 rfl) rfl (by decide) rfl rfl ?_
  refine g_aload_n (z := 2) C (tdec DX3_takeRecord 9 rfl) rfl rfl rfl ?_
  refine g_getf (C' := RX3) (T := TX3) (N := 5) (v := .ref sb_0) C 0 1 (gIn iw_X3) rfl rfl (by decide) (gMem fl_X3_15) rfl rfl (tdec DX3_takeRecord 10 rfl) rfl ?_
  refine g_aload_n (z := 2) C (tdec DX3_takeRecord 11 rfl) rfl rfl rfl ?_
  refine g_getf (C' := RX3) (T := TX3) (N := 5) (v := .int (RC_pos r0)) C 0 2 (gIn iw_X3) rfl rfl (by decide) (gMem fl_X3_60) rfl rfl (tdec DX3_takeRecord 12 rfl) rfl ?_
  refine g_iload_n (z := 0) C (tdec DX3_takeRecord 13 rfl) rfl rfl rfl ?_
  obtain ⟨r5, y6, hF⟩ := o_bind hF
  refine g_callViRS (q0 := 21) (S := [wRC r_0 v_0 sb_0 r0, wV cI cJ v_0 v_1 v_2 v_3 v_4 v_5 v_6 v_7 v_8 v_9 v_10 v_11 v_12 v_13 v_14 v_15 v_16 v_17 v_18 v_19 v0, wSB cB sb_0 sb_1 sb0]) (S0 := [wSB cB sb_0 sb_1 sb0]) C (c_X5_isWhole l D cB cI cJ cZ sb_0 sb_1 y6) rfl rfl (gIV ml_X3_35 im_X5_isWhole sl_X5_isWhole in_X5 cd_X5_isWhole) rfl eX5_isWhole rfl ⟨rfl, rfl⟩ ⟨Nat.le_of_ble_eq_true rfl, Nat.le_of_ble_eq_true rfl⟩ rfl rfl rfl [2] rfl rfl rfl (Nat.le_of_ble_eq_true rfl) (tdec DX3_takeRecord 14 rfl) rfl ?_
  refine g_if_ne (pt := 34) C (tdec DX3_takeRecord 15 rfl) (by decide) rfl (fun h7 => ?_) (fun h7 => ?_)
  · have hF := o_ifn hF h7
    refine g_iload_n (z := 1) C (tdec DX3_takeRecord 18 rfl) rfl rfl rfl ?_
    refine g_iconst (v := 2) C (tdec DX3_takeRecord 19 rfl) (by decide) rfl ?_
    refine g_icmp_ne (pt := 46) C (tdec DX3_takeRecord 20 rfl) (by decide) rfl (fun h8 => ?_) (fun h8 => ?_)
    · have hF := o_ifn hF h8
      refine g_iload_n (z := 1) C (tdec DX3_takeRecord 24 rfl) rfl rfl rfl ?_
      refine g_iconst (v := 3) C (tdec DX3_takeRecord 25 rfl) (by decide) rfl ?_
      refine g_icmp_ne (pt := 58) C (tdec DX3_takeRecord 26 rfl) (by decide) rfl (fun h9 => ?_) (fun h9 => ?_)
      · have hF := o_ifn hF h9
        refine g_aload_n (z := 2) C (tdec DX3_takeRecord 30 rfl) rfl rfl rfl ?_
        obtain ⟨⟨r10, s11⟩, y12, hF⟩ := o_bind hF
        refine g_callViMS (q0 := 0) (W' := wRC r_0 v_0 sb_0 r0 ++ (wV cI cJ v_0 v_1 v_2 v_3 v_4 v_5 v_6 v_7 v_8 v_9 v_10 v_11 v_12 v_13 v_14 v_15 v_16 v_17 v_18 v_19 s11 ++ (wSB cB sb_0 sb_1 sb0))) (S := [wRC r_0 v_0 sb_0 r0, wV cI cJ v_0 v_1 v_2 v_3 v_4 v_5 v_6 v_7 v_8 v_9 v_10 v_11 v_12 v_13 v_14 v_15 v_16 v_17 v_18 v_19 v0, wSB cB sb_0 sb_1 sb0]) (S0 := [wRC r_0 v_0 sb_0 r0, wV cI cJ v_0 v_1 v_2 v_3 v_4 v_5 v_6 v_7 v_8 v_9 v_10 v_11 v_12 v_13 v_14 v_15 v_16 v_17 v_18 v_19 v0, wSB cB sb_0 sb_1 sb0]) (S1 := [wRC r_0 v_0 sb_0 r0, wV cI cJ v_0 v_1 v_2 v_3 v_4 v_5 v_6 v_7 v_8 v_9 v_10 v_11 v_12 v_13 v_14 v_15 v_16 v_17 v_18 v_19 s11, wSB cB sb_0 sb_1 sb0]) (S' := [wRC r_0 v_0 sb_0 r0, wV cI cJ v_0 v_1 v_2 v_3 v_4 v_5 v_6 v_7 v_8 v_9 v_10 v_11 v_12 v_13 v_14 v_15 v_16 v_17 v_18 v_19 s11, wSB cB sb_0 sb_1 sb0]) C (c_X3_takeEnd l D cB cI cJ cZ r_0 v_0 v_1 v_2 v_3 v_4 v_5 v_6 v_7 v_8 v_9 v_10 v_11 v_12 v_13 v_14 v_15 v_16 v_17 v_18 v_19 sb_0 sb_1 y12) rfl rfl (gIV ml_X3_85 im_X3_takeEnd sl_X3_takeEnd in_X3 cd_X3_takeEnd) rfl eX3_takeEnd rfl ⟨rfl, rfl⟩ ⟨Nat.le_of_ble_eq_true rfl, Nat.le_of_ble_eq_true rfl⟩ rfl rfl rfl [0, 1, 2] rfl rfl rfl rfl (gA_cons rfl (gA_cons aV (gA_cons rfl gA_nil))) rfl rfl (Nat.le_of_ble_eq_true rfl) (tdec DX3_takeRecord 31 rfl) rfl ?_
        refine g_istore_n (L' := [(3, .int r10), (2, .int r3), (1, .int r1), (0, .ref r_0)]) C (tdec DX3_takeRecord 32 rfl) rfl (by decide) rfl rfl ?_
        refine g_iload_n (z := 0) C (tdec DX3_takeRecord 33 rfl) rfl rfl rfl ?_
        refine g_bipush (v := 7) C (tdec DX3_takeRecord 34 rfl) (by decide) rfl ?_
        refine g_icmp_eq (pt := 73) C (tdec DX3_takeRecord 35 rfl) (by decide) rfl (fun h13 => ?_) (fun h13 => ?_)
        · have hF := o_ifp hF h13
          refine g_aload_n (z := 3) C (tdec DX3_takeRecord 38 rfl) rfl rfl rfl ?_
          refine g_dup C (tdec DX3_takeRecord 39 rfl) rfl rfl ?_
          refine g_getf (C' := RX3) (T := TX3) (N := 5) (v := .int (RC_pos r0)) C 0 2 (gIn iw_X3) rfl rfl (by decide) (gMem fl_X3_60) rfl rfl (tdec DX3_takeRecord 40 rfl) rfl ?_
          refine g_iload_n (z := 1) C (tdec DX3_takeRecord 41 rfl) rfl rfl rfl ?_
          refine g_iadd C (tdec DX3_takeRecord 42 rfl) rfl ?_
          refine g_putf (C' := RX3) (T := TX3) (N := 5) (v := .int ((RC_pos r0) + r3)) (ws' := wRC r_0 v_0 sb_0 (RC_setpos r0 ((RC_pos r0) + r3)) ++ (wV cI cJ v_0 v_1 v_2 v_3 v_4 v_5 v_6 v_7 v_8 v_9 v_10 v_11 v_12 v_13 v_14 v_15 v_16 v_17 v_18 v_19 s11 ++ (wSB cB sb_0 sb_1 sb0))) C 0 2 tyX3 tyX3_ok nmX3 (gIn iw_X3) rfl rfl (by decide) (gMem fl_X3_60) rfl rfl (tyX3_ok 2 (by decide)) rfl rfl (Nat.le_of_ble_eq_true rfl) rfl (tdec DX3_takeRecord 43 rfl) rfl ?_
          refine g_aload_n (z := 3) C (tdec DX3_takeRecord 44 rfl) rfl rfl rfl ?_
          refine g_dup C (tdec DX3_takeRecord 45 rfl) rfl rfl ?_
          refine g_getf (C' := RX3) (T := TX3) (N := 5) (v := .int (RC_rec r0)) C 0 3 (gIn iw_X3) rfl rfl (by decide) (gMem fl_X3_19) rfl rfl (tdec DX3_takeRecord 46 rfl) rfl ?_
          refine g_iconst (v := 1) C (tdec DX3_takeRecord 47 rfl) (by decide) rfl ?_
          refine g_iadd C (tdec DX3_takeRecord 48 rfl) rfl ?_
          refine g_putf (C' := RX3) (T := TX3) (N := 5) (v := .int ((RC_rec r0) + 1)) (ws' := wRC r_0 v_0 sb_0 (RC_setrec (RC_setpos r0 ((RC_pos r0) + r3)) ((RC_rec r0) + 1)) ++ (wV cI cJ v_0 v_1 v_2 v_3 v_4 v_5 v_6 v_7 v_8 v_9 v_10 v_11 v_12 v_13 v_14 v_15 v_16 v_17 v_18 v_19 s11 ++ (wSB cB sb_0 sb_1 sb0))) C 0 3 tyX3 tyX3_ok nmX3 (gIn iw_X3) rfl rfl (by decide) (gMem fl_X3_19) rfl rfl (tyX3_ok 3 (by decide)) rfl rfl (Nat.le_of_ble_eq_true rfl) rfl (tdec DX3_takeRecord 49 rfl) rfl ?_
          refine g_iload_n (z := 0) C (tdec DX3_takeRecord 50 rfl) rfl rfl rfl ?_
          have hr9 := o_some hF
          subst hr9
          exact g_iret C rfl rfl (tdec DX3_takeRecord 51 rfl)
        · have hF := o_ifn hF h13
          refine g_iload_n (z := 0) C (tdec DX3_takeRecord 36 rfl) rfl rfl rfl ?_
          refine g_if_ne (pt := 93) C (tdec DX3_takeRecord 37 rfl) (by decide) rfl (fun h14 => ?_) (fun h14 => ?_)
          · have hF := o_ifn hF h14
            refine g_iload_n (z := 0) C (tdec DX3_takeRecord 50 rfl) rfl rfl rfl ?_
            have hr9 := o_some hF
            subst hr9
            exact g_iret C rfl rfl (tdec DX3_takeRecord 51 rfl)
          · have hF := o_ifp hF h14
            refine g_aload_n (z := 3) C (tdec DX3_takeRecord 38 rfl) rfl rfl rfl ?_
            refine g_dup C (tdec DX3_takeRecord 39 rfl) rfl rfl ?_
            refine g_getf (C' := RX3) (T := TX3) (N := 5) (v := .int (RC_pos r0)) C 0 2 (gIn iw_X3) rfl rfl (by decide) (gMem fl_X3_60) rfl rfl (tdec DX3_takeRecord 40 rfl) rfl ?_
            refine g_iload_n (z := 1) C (tdec DX3_takeRecord 41 rfl) rfl rfl rfl ?_
            refine g_iadd C (tdec DX3_takeRecord 42 rfl) rfl ?_
            refine g_putf (C' := RX3) (T := TX3) (N := 5) (v := .int ((RC_pos r0) + r3)) (ws' := wRC r_0 v_0 sb_0 (RC_setpos r0 ((RC_pos r0) + r3)) ++ (wV cI cJ v_0 v_1 v_2 v_3 v_4 v_5 v_6 v_7 v_8 v_9 v_10 v_11 v_12 v_13 v_14 v_15 v_16 v_17 v_18 v_19 s11 ++ (wSB cB sb_0 sb_1 sb0))) C 0 2 tyX3 tyX3_ok nmX3 (gIn iw_X3) rfl rfl (by decide) (gMem fl_X3_60) rfl rfl (tyX3_ok 2 (by decide)) rfl rfl (Nat.le_of_ble_eq_true rfl) rfl (tdec DX3_takeRecord 43 rfl) rfl ?_
            refine g_aload_n (z := 3) C (tdec DX3_takeRecord 44 rfl) rfl rfl rfl ?_
            refine g_dup C (tdec DX3_takeRecord 45 rfl) rfl rfl ?_
            refine g_getf (C' := RX3) (T := TX3) (N := 5) (v := .int (RC_rec r0)) C 0 3 (gIn iw_X3) rfl rfl (by decide) (gMem fl_X3_19) rfl rfl (tdec DX3_takeRecord 46 rfl) rfl ?_
            refine g_iconst (v := 1) C (tdec DX3_takeRecord 47 rfl) (by decide) rfl ?_
            refine g_iadd C (tdec DX3_takeRecord 48 rfl) rfl ?_
            refine g_putf (C' := RX3) (T := TX3) (N := 5) (v := .int ((RC_rec r0) + 1)) (ws' := wRC r_0 v_0 sb_0 (RC_setrec (RC_setpos r0 ((RC_pos r0) + r3)) ((RC_rec r0) + 1)) ++ (wV cI cJ v_0 v_1 v_2 v_3 v_4 v_5 v_6 v_7 v_8 v_9 v_10 v_11 v_12 v_13 v_14 v_15 v_16 v_17 v_18 v_19 s11 ++ (wSB cB sb_0 sb_1 sb0))) C 0 3 tyX3 tyX3_ok nmX3 (gIn iw_X3) rfl rfl (by decide) (gMem fl_X3_19) rfl rfl (tyX3_ok 3 (by decide)) rfl rfl (Nat.le_of_ble_eq_true rfl) rfl (tdec DX3_takeRecord 49 rfl) rfl ?_
            refine g_iload_n (z := 0) C (tdec DX3_takeRecord 50 rfl) rfl rfl rfl ?_
            have hr9 := o_some hF
            subst hr9
            exact g_iret C rfl rfl (tdec DX3_takeRecord 51 rfl)
      · have hF := o_ifp hF h9
        refine g_aload_n (z := 2) C (tdec DX3_takeRecord 27 rfl) rfl rfl rfl ?_
        obtain ⟨⟨r15, s16⟩, y17, hF⟩ := o_bind hF
        refine g_callViMS (q0 := 0) (W' := wRC r_0 v_0 sb_0 r0 ++ (wV cI cJ v_0 v_1 v_2 v_3 v_4 v_5 v_6 v_7 v_8 v_9 v_10 v_11 v_12 v_13 v_14 v_15 v_16 v_17 v_18 v_19 s16 ++ (wSB cB sb_0 sb_1 sb0))) (S := [wRC r_0 v_0 sb_0 r0, wV cI cJ v_0 v_1 v_2 v_3 v_4 v_5 v_6 v_7 v_8 v_9 v_10 v_11 v_12 v_13 v_14 v_15 v_16 v_17 v_18 v_19 v0, wSB cB sb_0 sb_1 sb0]) (S0 := [wRC r_0 v_0 sb_0 r0, wV cI cJ v_0 v_1 v_2 v_3 v_4 v_5 v_6 v_7 v_8 v_9 v_10 v_11 v_12 v_13 v_14 v_15 v_16 v_17 v_18 v_19 v0, wSB cB sb_0 sb_1 sb0]) (S1 := [wRC r_0 v_0 sb_0 r0, wV cI cJ v_0 v_1 v_2 v_3 v_4 v_5 v_6 v_7 v_8 v_9 v_10 v_11 v_12 v_13 v_14 v_15 v_16 v_17 v_18 v_19 s16, wSB cB sb_0 sb_1 sb0]) (S' := [wRC r_0 v_0 sb_0 r0, wV cI cJ v_0 v_1 v_2 v_3 v_4 v_5 v_6 v_7 v_8 v_9 v_10 v_11 v_12 v_13 v_14 v_15 v_16 v_17 v_18 v_19 s16, wSB cB sb_0 sb_1 sb0]) C (c_X3_takeClear l D cB cI cJ cZ r_0 v_0 v_1 v_2 v_3 v_4 v_5 v_6 v_7 v_8 v_9 v_10 v_11 v_12 v_13 v_14 v_15 v_16 v_17 v_18 v_19 sb_0 sb_1 y17) rfl rfl (gIV ml_X3_82 im_X3_takeClear sl_X3_takeClear in_X3 cd_X3_takeClear) rfl eX3_takeClear rfl ⟨rfl, rfl⟩ ⟨Nat.le_of_ble_eq_true rfl, Nat.le_of_ble_eq_true rfl⟩ rfl rfl rfl [0, 1, 2] rfl rfl rfl rfl (gA_cons rfl (gA_cons aV (gA_cons rfl gA_nil))) rfl rfl (Nat.le_of_ble_eq_true rfl) (tdec DX3_takeRecord 28 rfl) rfl ?_
        refine g_goto (pt := 62) C (tdec DX3_takeRecord 29 rfl) (by decide) ?_
        refine g_istore_n (L' := [(3, .int r15), (2, .int r3), (1, .int r1), (0, .ref r_0)]) C (tdec DX3_takeRecord 32 rfl) rfl (by decide) rfl rfl ?_
        refine g_iload_n (z := 0) C (tdec DX3_takeRecord 33 rfl) rfl rfl rfl ?_
        refine g_bipush (v := 7) C (tdec DX3_takeRecord 34 rfl) (by decide) rfl ?_
        refine g_icmp_eq (pt := 73) C (tdec DX3_takeRecord 35 rfl) (by decide) rfl (fun h18 => ?_) (fun h18 => ?_)
        · have hF := o_ifp hF h18
          refine g_aload_n (z := 3) C (tdec DX3_takeRecord 38 rfl) rfl rfl rfl ?_
          refine g_dup C (tdec DX3_takeRecord 39 rfl) rfl rfl ?_
          refine g_getf (C' := RX3) (T := TX3) (N := 5) (v := .int (RC_pos r0)) C 0 2 (gIn iw_X3) rfl rfl (by decide) (gMem fl_X3_60) rfl rfl (tdec DX3_takeRecord 40 rfl) rfl ?_
          refine g_iload_n (z := 1) C (tdec DX3_takeRecord 41 rfl) rfl rfl rfl ?_
          refine g_iadd C (tdec DX3_takeRecord 42 rfl) rfl ?_
          refine g_putf (C' := RX3) (T := TX3) (N := 5) (v := .int ((RC_pos r0) + r3)) (ws' := wRC r_0 v_0 sb_0 (RC_setpos r0 ((RC_pos r0) + r3)) ++ (wV cI cJ v_0 v_1 v_2 v_3 v_4 v_5 v_6 v_7 v_8 v_9 v_10 v_11 v_12 v_13 v_14 v_15 v_16 v_17 v_18 v_19 s16 ++ (wSB cB sb_0 sb_1 sb0))) C 0 2 tyX3 tyX3_ok nmX3 (gIn iw_X3) rfl rfl (by decide) (gMem fl_X3_60) rfl rfl (tyX3_ok 2 (by decide)) rfl rfl (Nat.le_of_ble_eq_true rfl) rfl (tdec DX3_takeRecord 43 rfl) rfl ?_
          refine g_aload_n (z := 3) C (tdec DX3_takeRecord 44 rfl) rfl rfl rfl ?_
          refine g_dup C (tdec DX3_takeRecord 45 rfl) rfl rfl ?_
          refine g_getf (C' := RX3) (T := TX3) (N := 5) (v := .int (RC_rec r0)) C 0 3 (gIn iw_X3) rfl rfl (by decide) (gMem fl_X3_19) rfl rfl (tdec DX3_takeRecord 46 rfl) rfl ?_
          refine g_iconst (v := 1) C (tdec DX3_takeRecord 47 rfl) (by decide) rfl ?_
          refine g_iadd C (tdec DX3_takeRecord 48 rfl) rfl ?_
          refine g_putf (C' := RX3) (T := TX3) (N := 5) (v := .int ((RC_rec r0) + 1)) (ws' := wRC r_0 v_0 sb_0 (RC_setrec (RC_setpos r0 ((RC_pos r0) + r3)) ((RC_rec r0) + 1)) ++ (wV cI cJ v_0 v_1 v_2 v_3 v_4 v_5 v_6 v_7 v_8 v_9 v_10 v_11 v_12 v_13 v_14 v_15 v_16 v_17 v_18 v_19 s16 ++ (wSB cB sb_0 sb_1 sb0))) C 0 3 tyX3 tyX3_ok nmX3 (gIn iw_X3) rfl rfl (by decide) (gMem fl_X3_19) rfl rfl (tyX3_ok 3 (by decide)) rfl rfl (Nat.le_of_ble_eq_true rfl) rfl (tdec DX3_takeRecord 49 rfl) rfl ?_
          refine g_iload_n (z := 0) C (tdec DX3_takeRecord 50 rfl) rfl rfl rfl ?_
          have hr9 := o_some hF
          subst hr9
          exact g_iret C rfl rfl (tdec DX3_takeRecord 51 rfl)
        · have hF := o_ifn hF h18
          refine g_iload_n (z := 0) C (tdec DX3_takeRecord 36 rfl) rfl rfl rfl ?_
          refine g_if_ne (pt := 93) C (tdec DX3_takeRecord 37 rfl) (by decide) rfl (fun h19 => ?_) (fun h19 => ?_)
          · have hF := o_ifn hF h19
            refine g_iload_n (z := 0) C (tdec DX3_takeRecord 50 rfl) rfl rfl rfl ?_
            have hr9 := o_some hF
            subst hr9
            exact g_iret C rfl rfl (tdec DX3_takeRecord 51 rfl)
          · have hF := o_ifp hF h19
            refine g_aload_n (z := 3) C (tdec DX3_takeRecord 38 rfl) rfl rfl rfl ?_
            refine g_dup C (tdec DX3_takeRecord 39 rfl) rfl rfl ?_
            refine g_getf (C' := RX3) (T := TX3) (N := 5) (v := .int (RC_pos r0)) C 0 2 (gIn iw_X3) rfl rfl (by decide) (gMem fl_X3_60) rfl rfl (tdec DX3_takeRecord 40 rfl) rfl ?_
            refine g_iload_n (z := 1) C (tdec DX3_takeRecord 41 rfl) rfl rfl rfl ?_
            refine g_iadd C (tdec DX3_takeRecord 42 rfl) rfl ?_
            refine g_putf (C' := RX3) (T := TX3) (N := 5) (v := .int ((RC_pos r0) + r3)) (ws' := wRC r_0 v_0 sb_0 (RC_setpos r0 ((RC_pos r0) + r3)) ++ (wV cI cJ v_0 v_1 v_2 v_3 v_4 v_5 v_6 v_7 v_8 v_9 v_10 v_11 v_12 v_13 v_14 v_15 v_16 v_17 v_18 v_19 s16 ++ (wSB cB sb_0 sb_1 sb0))) C 0 2 tyX3 tyX3_ok nmX3 (gIn iw_X3) rfl rfl (by decide) (gMem fl_X3_60) rfl rfl (tyX3_ok 2 (by decide)) rfl rfl (Nat.le_of_ble_eq_true rfl) rfl (tdec DX3_takeRecord 43 rfl) rfl ?_
            refine g_aload_n (z := 3) C (tdec DX3_takeRecord 44 rfl) rfl rfl rfl ?_
            refine g_dup C (tdec DX3_takeRecord 45 rfl) rfl rfl ?_
            refine g_getf (C' := RX3) (T := TX3) (N := 5) (v := .int (RC_rec r0)) C 0 3 (gIn iw_X3) rfl rfl (by decide) (gMem fl_X3_19) rfl rfl (tdec DX3_takeRecord 46 rfl) rfl ?_
            refine g_iconst (v := 1) C (tdec DX3_takeRecord 47 rfl) (by decide) rfl ?_
            refine g_iadd C (tdec DX3_takeRecord 48 rfl) rfl ?_
            refine g_putf (C' := RX3) (T := TX3) (N := 5) (v := .int ((RC_rec r0) + 1)) (ws' := wRC r_0 v_0 sb_0 (RC_setrec (RC_setpos r0 ((RC_pos r0) + r3)) ((RC_rec r0) + 1)) ++ (wV cI cJ v_0 v_1 v_2 v_3 v_4 v_5 v_6 v_7 v_8 v_9 v_10 v_11 v_12 v_13 v_14 v_15 v_16 v_17 v_18 v_19 s16 ++ (wSB cB sb_0 sb_1 sb0))) C 0 3 tyX3 tyX3_ok nmX3 (gIn iw_X3) rfl rfl (by decide) (gMem fl_X3_19) rfl rfl (tyX3_ok 3 (by decide)) rfl rfl (Nat.le_of_ble_eq_true rfl) rfl (tdec DX3_takeRecord 49 rfl) rfl ?_
            refine g_iload_n (z := 0) C (tdec DX3_takeRecord 50 rfl) rfl rfl rfl ?_
            have hr9 := o_some hF
            subst hr9
            exact g_iret C rfl rfl (tdec DX3_takeRecord 51 rfl)
    · have hF := o_ifp hF h8
      refine g_aload_n (z := 2) C (tdec DX3_takeRecord 21 rfl) rfl rfl rfl ?_
      obtain ⟨⟨r20, s21⟩, y22, hF⟩ := o_bind hF
      refine g_callViMS (q0 := 0) (W' := wRC r_0 v_0 sb_0 r0 ++ (wV cI cJ v_0 v_1 v_2 v_3 v_4 v_5 v_6 v_7 v_8 v_9 v_10 v_11 v_12 v_13 v_14 v_15 v_16 v_17 v_18 v_19 s21 ++ (wSB cB sb_0 sb_1 sb0))) (S := [wRC r_0 v_0 sb_0 r0, wV cI cJ v_0 v_1 v_2 v_3 v_4 v_5 v_6 v_7 v_8 v_9 v_10 v_11 v_12 v_13 v_14 v_15 v_16 v_17 v_18 v_19 v0, wSB cB sb_0 sb_1 sb0]) (S0 := [wRC r_0 v_0 sb_0 r0, wV cI cJ v_0 v_1 v_2 v_3 v_4 v_5 v_6 v_7 v_8 v_9 v_10 v_11 v_12 v_13 v_14 v_15 v_16 v_17 v_18 v_19 v0, wSB cB sb_0 sb_1 sb0]) (S1 := [wRC r_0 v_0 sb_0 r0, wV cI cJ v_0 v_1 v_2 v_3 v_4 v_5 v_6 v_7 v_8 v_9 v_10 v_11 v_12 v_13 v_14 v_15 v_16 v_17 v_18 v_19 s21, wSB cB sb_0 sb_1 sb0]) (S' := [wRC r_0 v_0 sb_0 r0, wV cI cJ v_0 v_1 v_2 v_3 v_4 v_5 v_6 v_7 v_8 v_9 v_10 v_11 v_12 v_13 v_14 v_15 v_16 v_17 v_18 v_19 s21, wSB cB sb_0 sb_1 sb0]) C (c_X3_takeWrite l D cB cI cJ cZ r_0 v_0 v_1 v_2 v_3 v_4 v_5 v_6 v_7 v_8 v_9 v_10 v_11 v_12 v_13 v_14 v_15 v_16 v_17 v_18 v_19 sb_0 sb_1 y22) rfl rfl (gIV ml_X3_79 im_X3_takeWrite sl_X3_takeWrite in_X3 cd_X3_takeWrite) rfl eX3_takeWrite rfl ⟨rfl, rfl⟩ ⟨Nat.le_of_ble_eq_true rfl, Nat.le_of_ble_eq_true rfl⟩ rfl rfl rfl [0, 1, 2] rfl rfl rfl rfl (gA_cons rfl (gA_cons aV (gA_cons rfl gA_nil))) rfl rfl (Nat.le_of_ble_eq_true rfl) (tdec DX3_takeRecord 22 rfl) rfl ?_
      refine g_goto (pt := 62) C (tdec DX3_takeRecord 23 rfl) (by decide) ?_
      refine g_istore_n (L' := [(3, .int r20), (2, .int r3), (1, .int r1), (0, .ref r_0)]) C (tdec DX3_takeRecord 32 rfl) rfl (by decide) rfl rfl ?_
      refine g_iload_n (z := 0) C (tdec DX3_takeRecord 33 rfl) rfl rfl rfl ?_
      refine g_bipush (v := 7) C (tdec DX3_takeRecord 34 rfl) (by decide) rfl ?_
      refine g_icmp_eq (pt := 73) C (tdec DX3_takeRecord 35 rfl) (by decide) rfl (fun h23 => ?_) (fun h23 => ?_)
      · have hF := o_ifp hF h23
        refine g_aload_n (z := 3) C (tdec DX3_takeRecord 38 rfl) rfl rfl rfl ?_
        refine g_dup C (tdec DX3_takeRecord 39 rfl) rfl rfl ?_
        refine g_getf (C' := RX3) (T := TX3) (N := 5) (v := .int (RC_pos r0)) C 0 2 (gIn iw_X3) rfl rfl (by decide) (gMem fl_X3_60) rfl rfl (tdec DX3_takeRecord 40 rfl) rfl ?_
        refine g_iload_n (z := 1) C (tdec DX3_takeRecord 41 rfl) rfl rfl rfl ?_
        refine g_iadd C (tdec DX3_takeRecord 42 rfl) rfl ?_
        refine g_putf (C' := RX3) (T := TX3) (N := 5) (v := .int ((RC_pos r0) + r3)) (ws' := wRC r_0 v_0 sb_0 (RC_setpos r0 ((RC_pos r0) + r3)) ++ (wV cI cJ v_0 v_1 v_2 v_3 v_4 v_5 v_6 v_7 v_8 v_9 v_10 v_11 v_12 v_13 v_14 v_15 v_16 v_17 v_18 v_19 s21 ++ (wSB cB sb_0 sb_1 sb0))) C 0 2 tyX3 tyX3_ok nmX3 (gIn iw_X3) rfl rfl (by decide) (gMem fl_X3_60) rfl rfl (tyX3_ok 2 (by decide)) rfl rfl (Nat.le_of_ble_eq_true rfl) rfl (tdec DX3_takeRecord 43 rfl) rfl ?_
        refine g_aload_n (z := 3) C (tdec DX3_takeRecord 44 rfl) rfl rfl rfl ?_
        refine g_dup C (tdec DX3_takeRecord 45 rfl) rfl rfl ?_
        refine g_getf (C' := RX3) (T := TX3) (N := 5) (v := .int (RC_rec r0)) C 0 3 (gIn iw_X3) rfl rfl (by decide) (gMem fl_X3_19) rfl rfl (tdec DX3_takeRecord 46 rfl) rfl ?_
        refine g_iconst (v := 1) C (tdec DX3_takeRecord 47 rfl) (by decide) rfl ?_
        refine g_iadd C (tdec DX3_takeRecord 48 rfl) rfl ?_
        refine g_putf (C' := RX3) (T := TX3) (N := 5) (v := .int ((RC_rec r0) + 1)) (ws' := wRC r_0 v_0 sb_0 (RC_setrec (RC_setpos r0 ((RC_pos r0) + r3)) ((RC_rec r0) + 1)) ++ (wV cI cJ v_0 v_1 v_2 v_3 v_4 v_5 v_6 v_7 v_8 v_9 v_10 v_11 v_12 v_13 v_14 v_15 v_16 v_17 v_18 v_19 s21 ++ (wSB cB sb_0 sb_1 sb0))) C 0 3 tyX3 tyX3_ok nmX3 (gIn iw_X3) rfl rfl (by decide) (gMem fl_X3_19) rfl rfl (tyX3_ok 3 (by decide)) rfl rfl (Nat.le_of_ble_eq_true rfl) rfl (tdec DX3_takeRecord 49 rfl) rfl ?_
        refine g_iload_n (z := 0) C (tdec DX3_takeRecord 50 rfl) rfl rfl rfl ?_
        have hr9 := o_some hF
        subst hr9
        exact g_iret C rfl rfl (tdec DX3_takeRecord 51 rfl)
      · have hF := o_ifn hF h23
        refine g_iload_n (z := 0) C (tdec DX3_takeRecord 36 rfl) rfl rfl rfl ?_
        refine g_if_ne (pt := 93) C (tdec DX3_takeRecord 37 rfl) (by decide) rfl (fun h24 => ?_) (fun h24 => ?_)
        · have hF := o_ifn hF h24
          refine g_iload_n (z := 0) C (tdec DX3_takeRecord 50 rfl) rfl rfl rfl ?_
          have hr9 := o_some hF
          subst hr9
          exact g_iret C rfl rfl (tdec DX3_takeRecord 51 rfl)
        · have hF := o_ifp hF h24
          refine g_aload_n (z := 3) C (tdec DX3_takeRecord 38 rfl) rfl rfl rfl ?_
          refine g_dup C (tdec DX3_takeRecord 39 rfl) rfl rfl ?_
          refine g_getf (C' := RX3) (T := TX3) (N := 5) (v := .int (RC_pos r0)) C 0 2 (gIn iw_X3) rfl rfl (by decide) (gMem fl_X3_60) rfl rfl (tdec DX3_takeRecord 40 rfl) rfl ?_
          refine g_iload_n (z := 1) C (tdec DX3_takeRecord 41 rfl) rfl rfl rfl ?_
          refine g_iadd C (tdec DX3_takeRecord 42 rfl) rfl ?_
          refine g_putf (C' := RX3) (T := TX3) (N := 5) (v := .int ((RC_pos r0) + r3)) (ws' := wRC r_0 v_0 sb_0 (RC_setpos r0 ((RC_pos r0) + r3)) ++ (wV cI cJ v_0 v_1 v_2 v_3 v_4 v_5 v_6 v_7 v_8 v_9 v_10 v_11 v_12 v_13 v_14 v_15 v_16 v_17 v_18 v_19 s21 ++ (wSB cB sb_0 sb_1 sb0))) C 0 2 tyX3 tyX3_ok nmX3 (gIn iw_X3) rfl rfl (by decide) (gMem fl_X3_60) rfl rfl (tyX3_ok 2 (by decide)) rfl rfl (Nat.le_of_ble_eq_true rfl) rfl (tdec DX3_takeRecord 43 rfl) rfl ?_
          refine g_aload_n (z := 3) C (tdec DX3_takeRecord 44 rfl) rfl rfl rfl ?_
          refine g_dup C (tdec DX3_takeRecord 45 rfl) rfl rfl ?_
          refine g_getf (C' := RX3) (T := TX3) (N := 5) (v := .int (RC_rec r0)) C 0 3 (gIn iw_X3) rfl rfl (by decide) (gMem fl_X3_19) rfl rfl (tdec DX3_takeRecord 46 rfl) rfl ?_
          refine g_iconst (v := 1) C (tdec DX3_takeRecord 47 rfl) (by decide) rfl ?_
          refine g_iadd C (tdec DX3_takeRecord 48 rfl) rfl ?_
          refine g_putf (C' := RX3) (T := TX3) (N := 5) (v := .int ((RC_rec r0) + 1)) (ws' := wRC r_0 v_0 sb_0 (RC_setrec (RC_setpos r0 ((RC_pos r0) + r3)) ((RC_rec r0) + 1)) ++ (wV cI cJ v_0 v_1 v_2 v_3 v_4 v_5 v_6 v_7 v_8 v_9 v_10 v_11 v_12 v_13 v_14 v_15 v_16 v_17 v_18 v_19 s21 ++ (wSB cB sb_0 sb_1 sb0))) C 0 3 tyX3 tyX3_ok nmX3 (gIn iw_X3) rfl rfl (by decide) (gMem fl_X3_19) rfl rfl (tyX3_ok 3 (by decide)) rfl rfl (Nat.le_of_ble_eq_true rfl) rfl (tdec DX3_takeRecord 49 rfl) rfl ?_
          refine g_iload_n (z := 0) C (tdec DX3_takeRecord 50 rfl) rfl rfl rfl ?_
          have hr9 := o_some hF
          subst hr9
          exact g_iret C rfl rfl (tdec DX3_takeRecord 51 rfl)
  · have hF := o_ifp hF h7
    refine g_iconst (v := 1) C (tdec DX3_takeRecord 16 rfl) (by decide) rfl ?_
    have hr9 := o_some hF
    subst hr9
    exact g_iret C rfl rfl (tdec DX3_takeRecord 17 rfl)
def FX3_takeRecords_L5 (sb0 : SB) (v1 : Int32) (k9 : RC → VS → Int32 → Int32 → Option (Int32 × RC × VS)) : Nat → RC → VS → Int32 → Int32 → Option (Int32 × RC × VS)
  | 0, _, _, _, _ => none
  | n9 + 1, r, v, v2, v3 =>
    if v1 ≤ v3 then
      k9 r v v2 v3
    else
      if v2 = 7 then
        (FX3_takeRecord r v sb0).bind fun (r3, s4, s5) =>
        (FX6_settle s5).bind fun s7 =>
        FX3_takeRecords_L5 sb0 v1 k9 n9 s4 s7 r3 (v3 + 1)
      else
        k9 r v v2 v3
def FX3_takeRecords (r0 : RC) (v0 : VS) (sb0 : SB) (p1 : Int32) : Option (Int32 × RC × VS) :=
  FX3_takeRecords_L5 sb0 p1 (fun rq9 vq9 w2_9 w3_9 =>
    if w2_9 = 1 then
      (FX6_dropHidden vq9).bind fun s11 =>
      some (w2_9, rq9, s11)
    else
      if w2_9 = 5 then
        (FX6_dropHidden vq9).bind fun s14 =>
        some (w2_9, rq9, s14)
      else
        some (w2_9, rq9, vq9)) 100000 r0 v0 7 0
def rX3_takeRecords : Room := { frames := 6, cells := 0, slots := 0, locals := 142 }
set_option maxHeartbeats 4000000 in
set_option maxRecDepth 100000 in
theorem c_FX3_takeRecords_L5 {p : Program} {l : Launch} {e : Env} {s : State} {m : MethodId} {args : Array Value} {below : List Frame} {meth : Method} {c : Code} {D : va_G} {cB cI cJ cZ : ClassId} {r_0 v_0 v_1 v_2 v_3 v_4 v_5 v_6 v_7 v_8 v_9 v_10 v_11 v_12 v_13 v_14 v_15 v_16 v_17 v_18 v_19 sb_0 sb_1 : Nat} {r0 : RC} {v0 : VS} {sb0 : SB} {res : Int32 × RC × VS} (C : gC p s m args meth c cX3_takeRecords 4 RX3 wsX3_takeRecords D (gT cB cI cJ cZ) (some .int) (va_A (wRC r_0 v_0 sb_0 r0 ++ (wV cI cJ v_0 v_1 v_2 v_3 v_4 v_5 v_6 v_7 v_8 v_9 v_10 v_11 v_12 v_13 v_14 v_15 v_16 v_17 v_18 v_19 v0 ++ (wSB cB sb_0 sb_1 sb0))) s.heap.size)) {v1 : Int32} {k9 : RC → VS → Int32 → Int32 → Option (Int32 × RC × VS)} (hk9 : ∀ (r : RC) (v : VS) (v2 : Int32) (v3 : Int32), k9 r v v2 v3 = some res → gG p l e (headSpec wsX3_takeRecords rX3_takeRecords).room s m args below meth c 0 0 D (va_A (wRC r_0 v_0 sb_0 r0 ++ (wV cI cJ v_0 v_1 v_2 v_3 v_4 v_5 v_6 v_7 v_8 v_9 v_10 v_11 v_12 v_13 v_14 v_15 v_16 v_17 v_18 v_19 v0 ++ (wSB cB sb_0 sb_1 sb0))) s.heap.size) (va_A (wRC r_0 v_0 sb_0 r0 ++ (wV cI cJ v_0 v_1 v_2 v_3 v_4 v_5 v_6 v_7 v_8 v_9 v_10 v_11 v_12 v_13 v_14 v_15 v_16 v_17 v_18 v_19 v0 ++ (wSB cB sb_0 sb_1 sb0))) s.heap.size) 4 (MQ below (gQi D (wRC r_0 v_0 sb_0 r0 ++ (wV cI cJ v_0 v_1 v_2 v_3 v_4 v_5 v_6 v_7 v_8 v_9 v_10 v_11 v_12 v_13 v_14 v_15 v_16 v_17 v_18 v_19 v0 ++ (wSB cB sb_0 sb_1 sb0))) s.heap.size res.1 (wRC r_0 v_0 sb_0 res.2.1 ++ (wV cI cJ v_0 v_1 v_2 v_3 v_4 v_5 v_6 v_7 v_8 v_9 v_10 v_11 v_12 v_13 v_14 v_15 v_16 v_17 v_18 v_19 res.2.2 ++ (wSB cB sb_0 sb_1 sb0)))) args s 0 0 (va_A (wRC r_0 v_0 sb_0 r0 ++ (wV cI cJ v_0 v_1 v_2 v_3 v_4 v_5 v_6 v_7 v_8 v_9 v_10 v_11 v_12 v_13 v_14 v_15 v_16 v_17 v_18 v_19 v0 ++ (wSB cB sb_0 sb_1 sb0))) s.heap.size)) (wRC r_0 v_0 sb_0 r ++ (wV cI cJ v_0 v_1 v_2 v_3 v_4 v_5 v_6 v_7 v_8 v_9 v_10 v_11 v_12 v_13 v_14 v_15 v_16 v_17 v_18 v_19 v ++ (wSB cB sb_0 sb_1 sb0))) 34 [(0, .ref r_0), (1, .int v1), (2, .int v2), (3, .int v3)] []) :
    ∀ (n9 : Nat) (r : RC) (v : VS) (v2 : Int32) (v3 : Int32), FX3_takeRecords_L5 sb0 v1 k9 n9 r v v2 v3 = some res → gG p l e (headSpec wsX3_takeRecords rX3_takeRecords).room s m args below meth c 0 0 D (va_A (wRC r_0 v_0 sb_0 r0 ++ (wV cI cJ v_0 v_1 v_2 v_3 v_4 v_5 v_6 v_7 v_8 v_9 v_10 v_11 v_12 v_13 v_14 v_15 v_16 v_17 v_18 v_19 v0 ++ (wSB cB sb_0 sb_1 sb0))) s.heap.size) (va_A (wRC r_0 v_0 sb_0 r0 ++ (wV cI cJ v_0 v_1 v_2 v_3 v_4 v_5 v_6 v_7 v_8 v_9 v_10 v_11 v_12 v_13 v_14 v_15 v_16 v_17 v_18 v_19 v0 ++ (wSB cB sb_0 sb_1 sb0))) s.heap.size) 4 (MQ below (gQi D (wRC r_0 v_0 sb_0 r0 ++ (wV cI cJ v_0 v_1 v_2 v_3 v_4 v_5 v_6 v_7 v_8 v_9 v_10 v_11 v_12 v_13 v_14 v_15 v_16 v_17 v_18 v_19 v0 ++ (wSB cB sb_0 sb_1 sb0))) s.heap.size res.1 (wRC r_0 v_0 sb_0 res.2.1 ++ (wV cI cJ v_0 v_1 v_2 v_3 v_4 v_5 v_6 v_7 v_8 v_9 v_10 v_11 v_12 v_13 v_14 v_15 v_16 v_17 v_18 v_19 res.2.2 ++ (wSB cB sb_0 sb_1 sb0)))) args s 0 0 (va_A (wRC r_0 v_0 sb_0 r0 ++ (wV cI cJ v_0 v_1 v_2 v_3 v_4 v_5 v_6 v_7 v_8 v_9 v_10 v_11 v_12 v_13 v_14 v_15 v_16 v_17 v_18 v_19 v0 ++ (wSB cB sb_0 sb_1 sb0))) s.heap.size)) (wRC r_0 v_0 sb_0 r ++ (wV cI cJ v_0 v_1 v_2 v_3 v_4 v_5 v_6 v_7 v_8 v_9 v_10 v_11 v_12 v_13 v_14 v_15 v_16 v_17 v_18 v_19 v ++ (wSB cB sb_0 sb_1 sb0))) 5 [(0, .ref r_0), (1, .int v1), (2, .int v2), (3, .int v3)] [] := by
  intro n9
  induction n9 with
  | zero =>
    intro r v v2 v3 hF
    exact absurd hF (by simp [FX3_takeRecords_L5])
  | succ n9 ih9 =>
    intro r v v2 v3 hF
    rw [FX3_takeRecords_L5] at hF
    refine g_iload_n (z := 3) C (tdec DX3_takeRecords 4 rfl) rfl rfl rfl ?_
    refine g_iload_n (z := 1) C (tdec DX3_takeRecords 5 rfl) rfl rfl rfl ?_
    refine g_icmp_ge (pt := 34) C (tdec DX3_takeRecords 6 rfl) (by decide) rfl (fun h1 => ?_) (fun h1 => ?_)
    · have hF := o_ifp hF h1
      refine g_sub (L' := [(0, .ref r_0), (1, .int v1), (2, .int v2), (3, .int v3)]) [0, 1, 2, 3] rfl ?_
      exact hk9 _ _ _ _ hF
    · have hF := o_ifn hF h1
      refine g_iload_n (z := 2) C (tdec DX3_takeRecords 7 rfl) rfl rfl rfl ?_
      refine g_bipush (v := 7) C (tdec DX3_takeRecords 8 rfl) (by decide) rfl ?_
      refine g_icmp_ne (pt := 34) C (tdec DX3_takeRecords 9 rfl) (by decide) rfl (fun h2 => ?_) (fun h2 => ?_)
      · have hF := o_ifn hF h2
        refine g_sub (L' := [(0, .ref r_0), (1, .int v1), (2, .int v2), (3, .int v3)]) [0, 1, 2, 3] rfl ?_
        exact hk9 _ _ _ _ hF
      · have hF := o_ifp hF h2
        refine g_aload_n (z := 0) C (tdec DX3_takeRecords 10 rfl) rfl rfl rfl ?_
        obtain ⟨⟨r3, s4, s5⟩, y6, hF⟩ := o_bind hF
        refine g_callViMS (q0 := 0) (W' := wRC r_0 v_0 sb_0 s4 ++ (wV cI cJ v_0 v_1 v_2 v_3 v_4 v_5 v_6 v_7 v_8 v_9 v_10 v_11 v_12 v_13 v_14 v_15 v_16 v_17 v_18 v_19 s5 ++ (wSB cB sb_0 sb_1 sb0))) (S := [wRC r_0 v_0 sb_0 r, wV cI cJ v_0 v_1 v_2 v_3 v_4 v_5 v_6 v_7 v_8 v_9 v_10 v_11 v_12 v_13 v_14 v_15 v_16 v_17 v_18 v_19 v, wSB cB sb_0 sb_1 sb0]) (S0 := [wRC r_0 v_0 sb_0 r, wV cI cJ v_0 v_1 v_2 v_3 v_4 v_5 v_6 v_7 v_8 v_9 v_10 v_11 v_12 v_13 v_14 v_15 v_16 v_17 v_18 v_19 v, wSB cB sb_0 sb_1 sb0]) (S1 := [wRC r_0 v_0 sb_0 s4, wV cI cJ v_0 v_1 v_2 v_3 v_4 v_5 v_6 v_7 v_8 v_9 v_10 v_11 v_12 v_13 v_14 v_15 v_16 v_17 v_18 v_19 s5, wSB cB sb_0 sb_1 sb0]) (S' := [wRC r_0 v_0 sb_0 s4, wV cI cJ v_0 v_1 v_2 v_3 v_4 v_5 v_6 v_7 v_8 v_9 v_10 v_11 v_12 v_13 v_14 v_15 v_16 v_17 v_18 v_19 s5, wSB cB sb_0 sb_1 sb0]) C (c_X3_takeRecord l D cB cI cJ cZ r_0 v_0 v_1 v_2 v_3 v_4 v_5 v_6 v_7 v_8 v_9 v_10 v_11 v_12 v_13 v_14 v_15 v_16 v_17 v_18 v_19 sb_0 sb_1 y6) rfl rfl (gIV ml_X3_67 im_X3_takeRecord sl_X3_takeRecord in_X3 cd_X3_takeRecord) rfl eX3_takeRecord rfl ⟨rfl, rfl⟩ ⟨Nat.le_of_ble_eq_true rfl, Nat.le_of_ble_eq_true rfl⟩ rfl rfl rfl [0, 1, 2] rfl rfl rfl rfl (gA_cons aRC (gA_cons aV (gA_cons rfl gA_nil))) rfl rfl (Nat.le_of_ble_eq_true rfl) (tdec DX3_takeRecords 11 rfl) rfl ?_
        refine g_istore_n (L' := [(2, .int r3), (0, .ref r_0), (1, .int v1), (3, .int v3)]) C (tdec DX3_takeRecords 12 rfl) rfl (by decide) rfl rfl ?_
        refine g_aload_n (z := 1) C (tdec DX3_takeRecords 13 rfl) rfl rfl rfl ?_
        refine g_getf (C' := RX3) (T := TX3) (N := 5) (v := .ref v_0) C 0 0 (gIn iw_X3) rfl rfl (by decide) (gMem fl_X3_9) rfl rfl (tdec DX3_takeRecords 14 rfl) rfl ?_
        obtain ⟨s7, y8, hF⟩ := o_bind hF
        refine g_callVvMS (q0 := 1) (W' := wRC r_0 v_0 sb_0 s4 ++ (wV cI cJ v_0 v_1 v_2 v_3 v_4 v_5 v_6 v_7 v_8 v_9 v_10 v_11 v_12 v_13 v_14 v_15 v_16 v_17 v_18 v_19 s7 ++ (wSB cB sb_0 sb_1 sb0))) (S := [wRC r_0 v_0 sb_0 s4, wV cI cJ v_0 v_1 v_2 v_3 v_4 v_5 v_6 v_7 v_8 v_9 v_10 v_11 v_12 v_13 v_14 v_15 v_16 v_17 v_18 v_19 s5, wSB cB sb_0 sb_1 sb0]) (S0 := [wV cI cJ v_0 v_1 v_2 v_3 v_4 v_5 v_6 v_7 v_8 v_9 v_10 v_11 v_12 v_13 v_14 v_15 v_16 v_17 v_18 v_19 s5]) (S1 := [wV cI cJ v_0 v_1 v_2 v_3 v_4 v_5 v_6 v_7 v_8 v_9 v_10 v_11 v_12 v_13 v_14 v_15 v_16 v_17 v_18 v_19 s7]) (S' := [wRC r_0 v_0 sb_0 s4, wV cI cJ v_0 v_1 v_2 v_3 v_4 v_5 v_6 v_7 v_8 v_9 v_10 v_11 v_12 v_13 v_14 v_15 v_16 v_17 v_18 v_19 s7, wSB cB sb_0 sb_1 sb0]) C (c_X6_settle l D cB cI cJ cZ v_0 v_1 v_2 v_3 v_4 v_5 v_6 v_7 v_8 v_9 v_10 v_11 v_12 v_13 v_14 v_15 v_16 v_17 v_18 v_19 y8) rfl rfl (gIV ml_X3_70 im_X6_settle sl_X6_settle in_X6 cd_X6_settle) rfl eX6_settle rfl ⟨rfl, rfl⟩ ⟨Nat.le_of_ble_eq_true rfl, Nat.le_of_ble_eq_true rfl⟩ rfl rfl rfl [1] rfl rfl rfl rfl (gA_cons aV gA_nil) rfl rfl (Nat.le_of_ble_eq_true rfl) (tdec DX3_takeRecords 15 rfl) rfl ?_
        refine g_iinc (z := 3) (v := (v3 + 1)) (L' := [(3, .int (v3 + 1)), (2, .int r3), (0, .ref r_0), (1, .int v1)]) C (tdec DX3_takeRecords 16 rfl) rfl rfl (by decide) rfl rfl ?_
        refine g_goto (pt := 5) C (tdec DX3_takeRecords 17 rfl) (by decide) ?_
        refine g_sub (L' := [(0, .ref r_0), (1, .int v1), (2, .int r3), (3, .int (v3 + 1))]) [2, 3, 1, 0] rfl ?_
        exact ih9 _ _ _ _ hF
set_option maxHeartbeats 4000000 in
set_option maxRecDepth 100000 in
theorem c_X3_takeRecords (l : Launch) (D : va_G) (cB cI cJ cZ : ClassId) (r_0 v_0 v_1 v_2 v_3 v_4 v_5 v_6 v_7 v_8 v_9 v_10 v_11 v_12 v_13 v_14 v_15 v_16 v_17 v_18 v_19 sb_0 sb_1 : Nat) {r0 : RC} {v0 : VS} {sb0 : SB} {p1 : Int32} {res : Int32 × RC × VS} (hF : FX3_takeRecords r0 v0 sb0 p1 = some res) : gMi l yX3_takeRecords wsX3_takeRecords rX3_takeRecords D (gT cB cI cJ cZ) [.ref r_0, .int p1] (wRC r_0 v_0 sb_0 r0 ++ (wV cI cJ v_0 v_1 v_2 v_3 v_4 v_5 v_6 v_7 v_8 v_9 v_10 v_11 v_12 v_13 v_14 v_15 v_16 v_17 v_18 v_19 v0 ++ (wSB cB sb_0 sb_1 sb0))) res.1 (wRC r_0 v_0 sb_0 res.2.1 ++ (wV cI cJ v_0 v_1 v_2 v_3 v_4 v_5 v_6 v_7 v_8 v_9 v_10 v_11 v_12 v_13 v_14 v_15 v_16 v_17 v_18 v_19 res.2.2 ++ (wSB cB sb_0 sb_1 sb0))) := by
  refine g_enter (own := RX3) (free := (fun sz => va_A (wRC r_0 v_0 sb_0 r0 ++ (wV cI cJ v_0 v_1 v_2 v_3 v_4 v_5 v_6 v_7 v_8 v_9 v_10 v_11 v_12 v_13 v_14 v_15 v_16 v_17 v_18 v_19 v0 ++ (wSB cB sb_0 sb_1 sb0))) sz)) (Qc := (fun sz => gQi D (wRC r_0 v_0 sb_0 r0 ++ (wV cI cJ v_0 v_1 v_2 v_3 v_4 v_5 v_6 v_7 v_8 v_9 v_10 v_11 v_12 v_13 v_14 v_15 v_16 v_17 v_18 v_19 v0 ++ (wSB cB sb_0 sb_1 sb0))) sz res.1 (wRC r_0 v_0 sb_0 res.2.1 ++ (wV cI cJ v_0 v_1 v_2 v_3 v_4 v_5 v_6 v_7 v_8 v_9 v_10 v_11 v_12 v_13 v_14 v_15 v_16 v_17 v_18 v_19 res.2.2 ++ (wSB cB sb_0 sb_1 sb0))))) (fun sz => va_A (wRC r_0 v_0 sb_0 r0 ++ (wV cI cJ v_0 v_1 v_2 v_3 v_4 v_5 v_6 v_7 v_8 v_9 v_10 v_11 v_12 v_13 v_14 v_15 v_16 v_17 v_18 v_19 v0 ++ (wSB cB sb_0 sb_1 sb0))) sz) (fun sz => Or.inr rfl) rfl (by decide) rfl (Nat.le_of_ble_eq_true rfl) rfl ?_
  intro p e s m args below meth c C
  unfold FX3_takeRecords at hF
  refine g_bipush (v := 7) C (tdec DX3_takeRecords 0 rfl) (by decide) rfl ?_
  refine g_istore_n (L' := [(2, .int 7), (0, .ref r_0), (1, .int p1)]) C (tdec DX3_takeRecords 1 rfl) rfl (by decide) rfl rfl ?_
  refine g_iconst (v := 0) C (tdec DX3_takeRecords 2 rfl) (by decide) rfl ?_
  refine g_istore_n (L' := [(3, .int 0), (2, .int 7), (0, .ref r_0), (1, .int p1)]) C (tdec DX3_takeRecords 3 rfl) rfl (by decide) rfl rfl ?_
  refine g_sub (L' := [(0, .ref r_0), (1, .int p1), (2, .int 7), (3, .int 0)]) [2, 3, 1, 0] rfl ?_
  refine c_FX3_takeRecords_L5 C (fun rq9 vq9 w2_9 w3_9 hF => ?_) 100000 _ _ _ _ hF
  refine g_iload_n (z := 2) C (tdec DX3_takeRecords 18 rfl) rfl rfl rfl ?_
  refine g_iconst (v := 1) C (tdec DX3_takeRecords 19 rfl) (by decide) rfl ?_
  refine g_icmp_eq (pt := 44) C (tdec DX3_takeRecords 20 rfl) (by decide) rfl (fun h10 => ?_) (fun h10 => ?_)
  · have hF := o_ifp hF h10
    refine g_aload_n (z := 0) C (tdec DX3_takeRecords 24 rfl) rfl rfl rfl ?_
    refine g_getf (C' := RX3) (T := TX3) (N := 5) (v := .ref v_0) C 0 0 (gIn iw_X3) rfl rfl (by decide) (gMem fl_X3_9) rfl rfl (tdec DX3_takeRecords 25 rfl) rfl ?_
    obtain ⟨s11, y12, hF⟩ := o_bind hF
    refine g_callVvMS (q0 := 1) (W' := wRC r_0 v_0 sb_0 rq9 ++ (wV cI cJ v_0 v_1 v_2 v_3 v_4 v_5 v_6 v_7 v_8 v_9 v_10 v_11 v_12 v_13 v_14 v_15 v_16 v_17 v_18 v_19 s11 ++ (wSB cB sb_0 sb_1 sb0))) (S := [wRC r_0 v_0 sb_0 rq9, wV cI cJ v_0 v_1 v_2 v_3 v_4 v_5 v_6 v_7 v_8 v_9 v_10 v_11 v_12 v_13 v_14 v_15 v_16 v_17 v_18 v_19 vq9, wSB cB sb_0 sb_1 sb0]) (S0 := [wV cI cJ v_0 v_1 v_2 v_3 v_4 v_5 v_6 v_7 v_8 v_9 v_10 v_11 v_12 v_13 v_14 v_15 v_16 v_17 v_18 v_19 vq9]) (S1 := [wV cI cJ v_0 v_1 v_2 v_3 v_4 v_5 v_6 v_7 v_8 v_9 v_10 v_11 v_12 v_13 v_14 v_15 v_16 v_17 v_18 v_19 s11]) (S' := [wRC r_0 v_0 sb_0 rq9, wV cI cJ v_0 v_1 v_2 v_3 v_4 v_5 v_6 v_7 v_8 v_9 v_10 v_11 v_12 v_13 v_14 v_15 v_16 v_17 v_18 v_19 s11, wSB cB sb_0 sb_1 sb0]) C (c_X6_dropHidden l D cB cI cJ cZ v_0 v_1 v_2 v_3 v_4 v_5 v_6 v_7 v_8 v_9 v_10 v_11 v_12 v_13 v_14 v_15 v_16 v_17 v_18 v_19 y12) rfl rfl (gIV ml_X3_73 im_X6_dropHidden sl_X6_dropHidden in_X6 cd_X6_dropHidden) rfl eX6_dropHidden rfl ⟨rfl, rfl⟩ ⟨Nat.le_of_ble_eq_true rfl, Nat.le_of_ble_eq_true rfl⟩ rfl rfl rfl [1] rfl rfl rfl rfl (gA_cons aV gA_nil) rfl rfl (Nat.le_of_ble_eq_true rfl) (tdec DX3_takeRecords 26 rfl) rfl ?_
    refine g_iload_n (z := 2) C (tdec DX3_takeRecords 27 rfl) rfl rfl rfl ?_
    have hr9 := o_some hF
    subst hr9
    exact g_iret C rfl rfl (tdec DX3_takeRecords 28 rfl)
  · have hF := o_ifn hF h10
    refine g_iload_n (z := 2) C (tdec DX3_takeRecords 21 rfl) rfl rfl rfl ?_
    refine g_iconst (v := 5) C (tdec DX3_takeRecords 22 rfl) (by decide) rfl ?_
    refine g_icmp_ne (pt := 51) C (tdec DX3_takeRecords 23 rfl) (by decide) rfl (fun h13 => ?_) (fun h13 => ?_)
    · have hF := o_ifn hF h13
      refine g_iload_n (z := 2) C (tdec DX3_takeRecords 27 rfl) rfl rfl rfl ?_
      have hr9 := o_some hF
      subst hr9
      exact g_iret C rfl rfl (tdec DX3_takeRecords 28 rfl)
    · have hF := o_ifp hF h13
      refine g_aload_n (z := 0) C (tdec DX3_takeRecords 24 rfl) rfl rfl rfl ?_
      refine g_getf (C' := RX3) (T := TX3) (N := 5) (v := .ref v_0) C 0 0 (gIn iw_X3) rfl rfl (by decide) (gMem fl_X3_9) rfl rfl (tdec DX3_takeRecords 25 rfl) rfl ?_
      obtain ⟨s14, y15, hF⟩ := o_bind hF
      refine g_callVvMS (q0 := 1) (W' := wRC r_0 v_0 sb_0 rq9 ++ (wV cI cJ v_0 v_1 v_2 v_3 v_4 v_5 v_6 v_7 v_8 v_9 v_10 v_11 v_12 v_13 v_14 v_15 v_16 v_17 v_18 v_19 s14 ++ (wSB cB sb_0 sb_1 sb0))) (S := [wRC r_0 v_0 sb_0 rq9, wV cI cJ v_0 v_1 v_2 v_3 v_4 v_5 v_6 v_7 v_8 v_9 v_10 v_11 v_12 v_13 v_14 v_15 v_16 v_17 v_18 v_19 vq9, wSB cB sb_0 sb_1 sb0]) (S0 := [wV cI cJ v_0 v_1 v_2 v_3 v_4 v_5 v_6 v_7 v_8 v_9 v_10 v_11 v_12 v_13 v_14 v_15 v_16 v_17 v_18 v_19 vq9]) (S1 := [wV cI cJ v_0 v_1 v_2 v_3 v_4 v_5 v_6 v_7 v_8 v_9 v_10 v_11 v_12 v_13 v_14 v_15 v_16 v_17 v_18 v_19 s14]) (S' := [wRC r_0 v_0 sb_0 rq9, wV cI cJ v_0 v_1 v_2 v_3 v_4 v_5 v_6 v_7 v_8 v_9 v_10 v_11 v_12 v_13 v_14 v_15 v_16 v_17 v_18 v_19 s14, wSB cB sb_0 sb_1 sb0]) C (c_X6_dropHidden l D cB cI cJ cZ v_0 v_1 v_2 v_3 v_4 v_5 v_6 v_7 v_8 v_9 v_10 v_11 v_12 v_13 v_14 v_15 v_16 v_17 v_18 v_19 y15) rfl rfl (gIV ml_X3_73 im_X6_dropHidden sl_X6_dropHidden in_X6 cd_X6_dropHidden) rfl eX6_dropHidden rfl ⟨rfl, rfl⟩ ⟨Nat.le_of_ble_eq_true rfl, Nat.le_of_ble_eq_true rfl⟩ rfl rfl rfl [1] rfl rfl rfl rfl (gA_cons aV gA_nil) rfl rfl (Nat.le_of_ble_eq_true rfl) (tdec DX3_takeRecords 26 rfl) rfl ?_
      refine g_iload_n (z := 2) C (tdec DX3_takeRecords 27 rfl) rfl rfl rfl ?_
      have hr9 := o_some hF
      subst hr9
      exact g_iret C rfl rfl (tdec DX3_takeRecords 28 rfl)
