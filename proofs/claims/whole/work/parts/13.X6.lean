/-! PART 13.X6: walks, printed by wip/whole/walk.py -/
def FX6_isBusy (v0 : VS) : Option (Int32) :=
  (zok (VS_busy v0)).bind fun z1 =>
  some z1
def rX6_isBusy : Room := { frames := 0, cells := 0, slots := 0, locals := 0 }
set_option maxHeartbeats 4000000 in
set_option maxRecDepth 100000 in
theorem c_X6_isBusy (l : Launch) (D : va_G) (cB cI cJ cZ : ClassId) (v_0 v_1 v_2 v_3 v_4 v_5 v_6 v_7 v_8 v_9 v_10 v_11 v_12 v_13 v_14 v_15 v_16 v_17 v_18 v_19 : Nat) {v0 : VS} {res : Int32} (hF : FX6_isBusy v0 = some res) : gRi l yX6_isBusy wsX6_isBusy rX6_isBusy D (gT cB cI cJ cZ) [.ref v_0] (wV cI cJ v_0 v_1 v_2 v_3 v_4 v_5 v_6 v_7 v_8 v_9 v_10 v_11 v_12 v_13 v_14 v_15 v_16 v_17 v_18 v_19 v0) res := by
  refine g_enter (own := RX6) (free := (fun _ _ => False)) (Qc := (fun sz => gRQi res)) (fun _ _ => True) (fun sz => Or.inl rfl) rfl (by decide) rfl (Nat.le_of_ble_eq_true rfl) rfl ?_
  intro p e s m args below meth c C
  unfold FX6_isBusy at hF
  refine g_aload_n (z := 0) C (tdec DX6_isBusy 0 rfl) rfl rfl rfl ?_
  refine g_getf (C' := RX6) (T := TX6) (N := 6) (v := .int (VS_busy v0)) C 0 5 (gIn iw_X6) rfl rfl (by decide) (gMem fl_X6_45) rfl rfl (tdec DX6_isBusy 1 rfl) rfl ?_
  obtain ⟨z1, y2, hF⟩ := o_bind hF
  have y2 := zok_in y2
  have hr9 := o_some hF
  subst hr9
  exact g_zretR C (by rw [← y2.1]; exact y2.2) y2.1.symm (tdec DX6_isBusy 2 rfl)
def FX6_snapshots (v0 : VS) : Option (Int32) :=
  some (VS_snaps v0)
def rX6_snapshots : Room := { frames := 0, cells := 0, slots := 0, locals := 0 }
set_option maxHeartbeats 4000000 in
set_option maxRecDepth 100000 in
theorem c_X6_snapshots (l : Launch) (D : va_G) (cB cI cJ cZ : ClassId) (v_0 v_1 v_2 v_3 v_4 v_5 v_6 v_7 v_8 v_9 v_10 v_11 v_12 v_13 v_14 v_15 v_16 v_17 v_18 v_19 : Nat) {v0 : VS} {res : Int32} (hF : FX6_snapshots v0 = some res) : gRi l yX6_snapshots wsX6_snapshots rX6_snapshots D (gT cB cI cJ cZ) [.ref v_0] (wV cI cJ v_0 v_1 v_2 v_3 v_4 v_5 v_6 v_7 v_8 v_9 v_10 v_11 v_12 v_13 v_14 v_15 v_16 v_17 v_18 v_19 v0) res := by
  refine g_enter (own := RX6) (free := (fun _ _ => False)) (Qc := (fun sz => gRQi res)) (fun _ _ => True) (fun sz => Or.inl rfl) rfl (by decide) rfl (Nat.le_of_ble_eq_true rfl) rfl ?_
  intro p e s m args below meth c C
  unfold FX6_snapshots at hF
  refine g_aload_n (z := 0) C (tdec DX6_snapshots 0 rfl) rfl rfl rfl ?_
  refine g_getf (C' := RX6) (T := TX6) (N := 6) (v := .int (VS_snaps v0)) C 0 4 (gIn iw_X6) rfl rfl (by decide) (gMem fl_X6_42) rfl rfl (tdec DX6_snapshots 1 rfl) rfl ?_
  have hr9 := o_some hF
  subst hr9
  exact g_iretR C rfl (tdec DX6_snapshots 2 rfl)
def FX6_isLatest (v0 : VS) (p1 : Int64) : Option (Int32) :=
  if (VS_snaps v0) ≤ 0 then
    some 0
  else
    (FX2_at 20 (VS_mk v0) ((VS_snaps v0) - 1)).bind fun r2 =>
    if (lg_cmp r2 p1) = 0 then
      some 1
    else
      some 0
def rX6_isLatest : Room := { frames := 1, cells := 0, slots := 0, locals := 21 }
set_option maxHeartbeats 4000000 in
set_option maxRecDepth 100000 in
theorem c_X6_isLatest (l : Launch) (D : va_G) (cB cI cJ cZ : ClassId) (v_0 v_1 v_2 v_3 v_4 v_5 v_6 v_7 v_8 v_9 v_10 v_11 v_12 v_13 v_14 v_15 v_16 v_17 v_18 v_19 : Nat) {v0 : VS} {p1 : Int64} {res : Int32} (hF : FX6_isLatest v0 p1 = some res) : gRi l yX6_isLatest wsX6_isLatest rX6_isLatest D (gT cB cI cJ cZ) [.ref v_0, .long p1] (wV cI cJ v_0 v_1 v_2 v_3 v_4 v_5 v_6 v_7 v_8 v_9 v_10 v_11 v_12 v_13 v_14 v_15 v_16 v_17 v_18 v_19 v0) res := by
  refine g_enter (own := RX6) (free := (fun _ _ => False)) (Qc := (fun sz => gRQi res)) (fun _ _ => True) (fun sz => Or.inl rfl) rfl (by decide) rfl (Nat.le_of_ble_eq_true rfl) rfl ?_
  intro p e s m args below meth c C
  unfold FX6_isLatest at hF
  refine g_aload_n (z := 0) C (tdec DX6_isLatest 0 rfl) rfl rfl rfl ?_
  refine g_getf (C' := RX6) (T := TX6) (N := 6) (v := .int (VS_snaps v0)) C 0 4 (gIn iw_X6) rfl rfl (by decide) (gMem fl_X6_42) rfl rfl (tdec DX6_isLatest 1 rfl) rfl ?_
  refine g_if_le (pt := 29) C (tdec DX6_isLatest 2 rfl) (by decide) rfl (fun h1 => ?_) (fun h1 => ?_)
  · have hF := o_ifp hF h1
    refine g_iconst (v := 0) C (tdec DX6_isLatest 15 rfl) (by decide) rfl ?_
    have hr9 := o_some hF
    subst hr9
    exact g_zretR C rfl rfl (tdec DX6_isLatest 16 rfl)
  · have hF := o_ifn hF h1
    refine g_aload_n (z := 0) C (tdec DX6_isLatest 3 rfl) rfl rfl rfl ?_
    refine g_getf (C' := RX6) (T := TX6) (N := 6) (v := .ref v_1) C 0 1 (gIn iw_X6) rfl rfl (by decide) (gMem fl_X6_23) rfl rfl (tdec DX6_isLatest 4 rfl) rfl ?_
    refine g_aload_n (z := 0) C (tdec DX6_isLatest 5 rfl) rfl rfl rfl ?_
    refine g_getf (C' := RX6) (T := TX6) (N := 6) (v := .int (VS_snaps v0)) C 0 4 (gIn iw_X6) rfl rfl (by decide) (gMem fl_X6_42) rfl rfl (tdec DX6_isLatest 6 rfl) rfl ?_
    refine g_iconst (v := 1) C (tdec DX6_isLatest 7 rfl) (by decide) rfl ?_
    refine g_isub C (tdec DX6_isLatest 8 rfl) rfl ?_
    obtain ⟨r2, y3, hF⟩ := o_bind hF
    refine g_callVlR (q0 := 1) C (c_X2_at l D cB cI cJ cZ v_1 v_2 y3) rfl rfl (gIV ml_X6_49 im_X2_at sl_X2_at in_X2 cd_X2_at) rfl eX2_at rfl ⟨rfl, rfl⟩ ⟨Nat.le_of_ble_eq_true rfl, Nat.le_of_ble_eq_true rfl⟩ rfl [1, 2] rfl rfl rfl (Nat.le_of_ble_eq_true rfl) (tdec DX6_isLatest 9 rfl) rfl ?_
    refine g_lload_n (z := 1) C (tdec DX6_isLatest 10 rfl) rfl rfl rfl ?_
    refine g_lcmp C (tdec DX6_isLatest 11 rfl) rfl ?_
    refine g_if_ne (pt := 29) C (tdec DX6_isLatest 12 rfl) (by decide) rfl (fun h4 => ?_) (fun h4 => ?_)
    · have hF := o_ifn hF h4
      refine g_iconst (v := 0) C (tdec DX6_isLatest 15 rfl) (by decide) rfl ?_
      have hr9 := o_some hF
      subst hr9
      exact g_zretR C rfl rfl (tdec DX6_isLatest 16 rfl)
    · have hF := o_ifp hF h4
      refine g_iconst (v := 1) C (tdec DX6_isLatest 13 rfl) (by decide) rfl ?_
      refine g_goto (pt := 30) C (tdec DX6_isLatest 14 rfl) (by decide) ?_
      have hr9 := o_some hF
      subst hr9
      exact g_zretR C rfl rfl (tdec DX6_isLatest 16 rfl)
def FX6_isDirty (v0 : VS) : Option (Int32) :=
  if (VS_snaps v0) = 0 then
    (FX0_told (VS_b v0) 4800).bind fun r12 =>
    if r12 = (-1) then
      some 0
    else
      some 1
  else
    (FX0_told (VS_b v0) 4800).bind fun r2 =>
    (FX0_told (VS_b v0) ((4802 + (VS_snaps v0)) - 1)).bind fun r4 =>
    if r2 = r4 then
      (FX0_birth (VS_b v0) 4800).bind fun r7 =>
      (FX0_birth (VS_b v0) ((4802 + (VS_snaps v0)) - 1)).bind fun r9 =>
      if r7 = r9 then
        some 0
      else
        some 1
    else
      some 1
def rX6_isDirty : Room := { frames := 2, cells := 0, slots := 0, locals := 42 }
set_option maxHeartbeats 4000000 in
set_option maxRecDepth 100000 in
theorem c_X6_isDirty (l : Launch) (D : va_G) (cB cI cJ cZ : ClassId) (v_0 v_1 v_2 v_3 v_4 v_5 v_6 v_7 v_8 v_9 v_10 v_11 v_12 v_13 v_14 v_15 v_16 v_17 v_18 v_19 : Nat) {v0 : VS} {res : Int32} (hF : FX6_isDirty v0 = some res) : gRi l yX6_isDirty wsX6_isDirty rX6_isDirty D (gT cB cI cJ cZ) [.ref v_0] (wV cI cJ v_0 v_1 v_2 v_3 v_4 v_5 v_6 v_7 v_8 v_9 v_10 v_11 v_12 v_13 v_14 v_15 v_16 v_17 v_18 v_19 v0) res := by
  refine g_enter (own := RX6) (free := (fun _ _ => False)) (Qc := (fun sz => gRQi res)) (fun _ _ => True) (fun sz => Or.inl rfl) rfl (by decide) rfl (Nat.le_of_ble_eq_true rfl) rfl ?_
  intro p e s m args below meth c C
  unfold FX6_isDirty at hF
  refine g_aload_n (z := 0) C (tdec DX6_isDirty 0 rfl) rfl rfl rfl ?_
  refine g_getf (C' := RX6) (T := TX6) (N := 6) (v := .int (VS_snaps v0)) C 0 4 (gIn iw_X6) rfl rfl (by decide) (gMem fl_X6_42) rfl rfl (tdec DX6_isDirty 1 rfl) rfl ?_
  refine g_if_ne (pt := 27) C (tdec DX6_isDirty 2 rfl) (by decide) rfl (fun h1 => ?_) (fun h1 => ?_)
  · have hF := o_ifn hF h1
    refine g_sipush (v := 4802) C (tdec DX6_isDirty 13 rfl) (by decide) rfl ?_
    refine g_aload_n (z := 0) C (tdec DX6_isDirty 14 rfl) rfl rfl rfl ?_
    refine g_getf (C' := RX6) (T := TX6) (N := 6) (v := .int (VS_snaps v0)) C 0 4 (gIn iw_X6) rfl rfl (by decide) (gMem fl_X6_42) rfl rfl (tdec DX6_isDirty 15 rfl) rfl ?_
    refine g_iadd C (tdec DX6_isDirty 16 rfl) rfl ?_
    refine g_iconst (v := 1) C (tdec DX6_isDirty 17 rfl) (by decide) rfl ?_
    refine g_isub C (tdec DX6_isDirty 18 rfl) rfl ?_
    refine g_istore_n (L' := [(1, .int ((4802 + (VS_snaps v0)) - 1)), (0, .ref v_0)]) C (tdec DX6_isDirty 19 rfl) rfl (by decide) rfl rfl ?_
    refine g_aload_n (z := 1) C (tdec DX6_isDirty 20 rfl) rfl rfl rfl ?_
    refine g_getf (C' := RX6) (T := TX6) (N := 6) (v := .ref v_5) C 0 0 (gIn iw_X6) rfl rfl (by decide) (gMem fl_X6_12) rfl rfl (tdec DX6_isDirty 21 rfl) rfl ?_
    refine g_sipush (v := 4800) C (tdec DX6_isDirty 22 rfl) (by decide) rfl ?_
    obtain ⟨r2, y3, hF⟩ := o_bind hF
    refine g_callViRS (q0 := 5) (S := [wV0 cI cJ v_0 v_1 v_2 v_3 v_4 v_5 v0, wB cI cJ v_5 v_6 v_7 v_8 v_9 v_10 v_11 v_12 v_13 v_14 v_15 v_16 v_17 v_18 v_19 (VS_b v0)]) (S0 := [wB cI cJ v_5 v_6 v_7 v_8 v_9 v_10 v_11 v_12 v_13 v_14 v_15 v_16 v_17 v_18 v_19 (VS_b v0)]) C (c_X0_told l D cB cI cJ cZ v_5 v_6 v_7 v_8 v_9 v_10 v_11 v_12 v_13 v_14 v_15 v_16 v_17 v_18 v_19 y3) rfl rfl (gIV ml_X6_63 im_X0_told sl_X0_told in_X0 cd_X0_told) rfl eX0_told rfl ⟨rfl, rfl⟩ ⟨Nat.le_of_ble_eq_true rfl, Nat.le_of_ble_eq_true rfl⟩ rfl rfl rfl [1] rfl rfl rfl (Nat.le_of_ble_eq_true rfl) (tdec DX6_isDirty 23 rfl) rfl ?_
    refine g_aload_n (z := 1) C (tdec DX6_isDirty 24 rfl) rfl rfl rfl ?_
    refine g_getf (C' := RX6) (T := TX6) (N := 6) (v := .ref v_5) C 0 0 (gIn iw_X6) rfl rfl (by decide) (gMem fl_X6_12) rfl rfl (tdec DX6_isDirty 25 rfl) rfl ?_
    refine g_iload_n (z := 0) C (tdec DX6_isDirty 26 rfl) rfl rfl rfl ?_
    obtain ⟨r4, y5, hF⟩ := o_bind hF
    refine g_callViRS (q0 := 5) (S := [wV0 cI cJ v_0 v_1 v_2 v_3 v_4 v_5 v0, wB cI cJ v_5 v_6 v_7 v_8 v_9 v_10 v_11 v_12 v_13 v_14 v_15 v_16 v_17 v_18 v_19 (VS_b v0)]) (S0 := [wB cI cJ v_5 v_6 v_7 v_8 v_9 v_10 v_11 v_12 v_13 v_14 v_15 v_16 v_17 v_18 v_19 (VS_b v0)]) C (c_X0_told l D cB cI cJ cZ v_5 v_6 v_7 v_8 v_9 v_10 v_11 v_12 v_13 v_14 v_15 v_16 v_17 v_18 v_19 y5) rfl rfl (gIV ml_X6_63 im_X0_told sl_X0_told in_X0 cd_X0_told) rfl eX0_told rfl ⟨rfl, rfl⟩ ⟨Nat.le_of_ble_eq_true rfl, Nat.le_of_ble_eq_true rfl⟩ rfl rfl rfl [1] rfl rfl rfl (Nat.le_of_ble_eq_true rfl) (tdec DX6_isDirty 27 rfl) rfl ?_
    refine g_icmp_ne (pt := 80) C (tdec DX6_isDirty 28 rfl) (by decide) rfl (fun h6 => ?_) (fun h6 => ?_)
    · have hF := o_ifn hF h6
      refine g_iconst (v := 1) C (tdec DX6_isDirty 38 rfl) (by decide) rfl ?_
      refine g_goto (pt := 85) C (tdec DX6_isDirty 39 rfl) (by decide) ?_
      have hr9 := o_some hF
      subst hr9
      exact g_zretR C rfl rfl (tdec DX6_isDirty 41 rfl)
    · have hF := o_ifp hF h6
      refine g_aload_n (z := 1) C (tdec DX6_isDirty 29 rfl) rfl rfl rfl ?_
      refine g_getf (C' := RX6) (T := TX6) (N := 6) (v := .ref v_5) C 0 0 (gIn iw_X6) rfl rfl (by decide) (gMem fl_X6_12) rfl rfl (tdec DX6_isDirty 30 rfl) rfl ?_
      refine g_sipush (v := 4800) C (tdec DX6_isDirty 31 rfl) (by decide) rfl ?_
      obtain ⟨r7, y8, hF⟩ := o_bind hF
      refine g_callViRS (q0 := 5) (S := [wV0 cI cJ v_0 v_1 v_2 v_3 v_4 v_5 v0, wB cI cJ v_5 v_6 v_7 v_8 v_9 v_10 v_11 v_12 v_13 v_14 v_15 v_16 v_17 v_18 v_19 (VS_b v0)]) (S0 := [wB cI cJ v_5 v_6 v_7 v_8 v_9 v_10 v_11 v_12 v_13 v_14 v_15 v_16 v_17 v_18 v_19 (VS_b v0)]) C (c_X0_birth l D cB cI cJ cZ v_5 v_6 v_7 v_8 v_9 v_10 v_11 v_12 v_13 v_14 v_15 v_16 v_17 v_18 v_19 y8) rfl rfl (gIV ml_X6_102 im_X0_birth sl_X0_birth in_X0 cd_X0_birth) rfl eX0_birth rfl ⟨rfl, rfl⟩ ⟨Nat.le_of_ble_eq_true rfl, Nat.le_of_ble_eq_true rfl⟩ rfl rfl rfl [1] rfl rfl rfl (Nat.le_of_ble_eq_true rfl) (tdec DX6_isDirty 32 rfl) rfl ?_
      refine g_aload_n (z := 1) C (tdec DX6_isDirty 33 rfl) rfl rfl rfl ?_
      refine g_getf (C' := RX6) (T := TX6) (N := 6) (v := .ref v_5) C 0 0 (gIn iw_X6) rfl rfl (by decide) (gMem fl_X6_12) rfl rfl (tdec DX6_isDirty 34 rfl) rfl ?_
      refine g_iload_n (z := 0) C (tdec DX6_isDirty 35 rfl) rfl rfl rfl ?_
      obtain ⟨r9, y10, hF⟩ := o_bind hF
      refine g_callViRS (q0 := 5) (S := [wV0 cI cJ v_0 v_1 v_2 v_3 v_4 v_5 v0, wB cI cJ v_5 v_6 v_7 v_8 v_9 v_10 v_11 v_12 v_13 v_14 v_15 v_16 v_17 v_18 v_19 (VS_b v0)]) (S0 := [wB cI cJ v_5 v_6 v_7 v_8 v_9 v_10 v_11 v_12 v_13 v_14 v_15 v_16 v_17 v_18 v_19 (VS_b v0)]) C (c_X0_birth l D cB cI cJ cZ v_5 v_6 v_7 v_8 v_9 v_10 v_11 v_12 v_13 v_14 v_15 v_16 v_17 v_18 v_19 y10) rfl rfl (gIV ml_X6_102 im_X0_birth sl_X0_birth in_X0 cd_X0_birth) rfl eX0_birth rfl ⟨rfl, rfl⟩ ⟨Nat.le_of_ble_eq_true rfl, Nat.le_of_ble_eq_true rfl⟩ rfl rfl rfl [1] rfl rfl rfl (Nat.le_of_ble_eq_true rfl) (tdec DX6_isDirty 36 rfl) rfl ?_
      refine g_icmp_eq (pt := 84) C (tdec DX6_isDirty 37 rfl) (by decide) rfl (fun h11 => ?_) (fun h11 => ?_)
      · have hF := o_ifp hF h11
        refine g_iconst (v := 0) C (tdec DX6_isDirty 40 rfl) (by decide) rfl ?_
        have hr9 := o_some hF
        subst hr9
        exact g_zretR C rfl rfl (tdec DX6_isDirty 41 rfl)
      · have hF := o_ifn hF h11
        refine g_iconst (v := 1) C (tdec DX6_isDirty 38 rfl) (by decide) rfl ?_
        refine g_goto (pt := 85) C (tdec DX6_isDirty 39 rfl) (by decide) ?_
        have hr9 := o_some hF
        subst hr9
        exact g_zretR C rfl rfl (tdec DX6_isDirty 41 rfl)
  · have hF := o_ifp hF h1
    refine g_aload_n (z := 0) C (tdec DX6_isDirty 3 rfl) rfl rfl rfl ?_
    refine g_getf (C' := RX6) (T := TX6) (N := 6) (v := .ref v_5) C 0 0 (gIn iw_X6) rfl rfl (by decide) (gMem fl_X6_12) rfl rfl (tdec DX6_isDirty 4 rfl) rfl ?_
    refine g_sipush (v := 4800) C (tdec DX6_isDirty 5 rfl) (by decide) rfl ?_
    obtain ⟨r12, y13, hF⟩ := o_bind hF
    refine g_callViRS (q0 := 5) (S := [wV0 cI cJ v_0 v_1 v_2 v_3 v_4 v_5 v0, wB cI cJ v_5 v_6 v_7 v_8 v_9 v_10 v_11 v_12 v_13 v_14 v_15 v_16 v_17 v_18 v_19 (VS_b v0)]) (S0 := [wB cI cJ v_5 v_6 v_7 v_8 v_9 v_10 v_11 v_12 v_13 v_14 v_15 v_16 v_17 v_18 v_19 (VS_b v0)]) C (c_X0_told l D cB cI cJ cZ v_5 v_6 v_7 v_8 v_9 v_10 v_11 v_12 v_13 v_14 v_15 v_16 v_17 v_18 v_19 y13) rfl rfl (gIV ml_X6_63 im_X0_told sl_X0_told in_X0 cd_X0_told) rfl eX0_told rfl ⟨rfl, rfl⟩ ⟨Nat.le_of_ble_eq_true rfl, Nat.le_of_ble_eq_true rfl⟩ rfl rfl rfl [1] rfl rfl rfl (Nat.le_of_ble_eq_true rfl) (tdec DX6_isDirty 6 rfl) rfl ?_
    refine g_iconst (v := (-1)) C (tdec DX6_isDirty 7 rfl) (by decide) rfl ?_
    refine g_icmp_eq (pt := 25) C (tdec DX6_isDirty 8 rfl) (by decide) rfl (fun h14 => ?_) (fun h14 => ?_)
    · have hF := o_ifp hF h14
      refine g_iconst (v := 0) C (tdec DX6_isDirty 11 rfl) (by decide) rfl ?_
      have hr9 := o_some hF
      subst hr9
      exact g_zretR C rfl rfl (tdec DX6_isDirty 12 rfl)
    · have hF := o_ifn hF h14
      refine g_iconst (v := 1) C (tdec DX6_isDirty 9 rfl) (by decide) rfl ?_
      refine g_goto (pt := 26) C (tdec DX6_isDirty 10 rfl) (by decide) ?_
      have hr9 := o_some hF
      subst hr9
      exact g_zretR C rfl rfl (tdec DX6_isDirty 12 rfl)
def FX6_hasMark_L2 (v0 : VS) (v1 : Int64) (k9 : Int32 → Option (Int32)) : Nat → Int32 → Option (Int32)
  | 0, _ => none
  | n9 + 1, v3 =>
    if (VS_snaps v0) ≤ v3 then
      k9 v3
    else
      (FX2_at 20 (VS_mk v0) v3).bind fun r2 =>
      if (lg_cmp r2 v1) = 0 then
        some 1
      else
        FX6_hasMark_L2 v0 v1 k9 n9 (v3 + 1)
def FX6_hasMark (v0 : VS) (p1 : Int64) : Option (Int32) :=
  FX6_hasMark_L2 v0 p1 (fun w3_5 =>
    some 0) 100000 0
def rX6_hasMark : Room := { frames := 1, cells := 0, slots := 0, locals := 21 }
set_option maxHeartbeats 4000000 in
set_option maxRecDepth 100000 in
theorem c_FX6_hasMark_L2 {p : Program} {l : Launch} {e : Env} {s : State} {m : MethodId} {args : Array Value} {below : List Frame} {meth : Method} {c : Code} {D : va_G} {cB cI cJ cZ : ClassId} {v_0 v_1 v_2 v_3 v_4 v_5 v_6 v_7 v_8 v_9 v_10 v_11 v_12 v_13 v_14 v_15 v_16 v_17 v_18 v_19 : Nat} {v0 : VS} {res : Int32} (C : gC p s m args meth c cX6_hasMark 4 RX6 wsX6_hasMark D (gT cB cI cJ cZ) (some .boolean) (fun _ => False)) {v1 : Int64} {k9 : Int32 → Option (Int32)} (hk9 : ∀ (v3 : Int32), k9 v3 = some res → gG p l e (headSpec wsX6_hasMark rX6_hasMark).room s m args below meth c 0 0 D (fun _ => True) (fun _ => False) 4 (MQ below (gRQi res) args s 0 0 (fun _ => False)) (wV cI cJ v_0 v_1 v_2 v_3 v_4 v_5 v_6 v_7 v_8 v_9 v_10 v_11 v_12 v_13 v_14 v_15 v_16 v_17 v_18 v_19 v0) 31 [(0, .ref v_0), (1, .long v1), (3, .int v3)] []) :
    ∀ (n9 : Nat) (v3 : Int32), FX6_hasMark_L2 v0 v1 k9 n9 v3 = some res → gG p l e (headSpec wsX6_hasMark rX6_hasMark).room s m args below meth c 0 0 D (fun _ => True) (fun _ => False) 4 (MQ below (gRQi res) args s 0 0 (fun _ => False)) (wV cI cJ v_0 v_1 v_2 v_3 v_4 v_5 v_6 v_7 v_8 v_9 v_10 v_11 v_12 v_13 v_14 v_15 v_16 v_17 v_18 v_19 v0) 2 [(0, .ref v_0), (1, .long v1), (3, .int v3)] [] := by
  intro n9
  induction n9 with
  | zero =>
    intro v3 hF
    exact absurd hF (by simp [FX6_hasMark_L2])
  | succ n9 ih9 =>
    intro v3 hF
    rw [FX6_hasMark_L2] at hF
    refine g_iload_n (z := 2) C (tdec DX6_hasMark 2 rfl) rfl rfl rfl ?_
    refine g_aload_n (z := 0) C (tdec DX6_hasMark 3 rfl) rfl rfl rfl ?_
    refine g_getf (C' := RX6) (T := TX6) (N := 6) (v := .int (VS_snaps v0)) C 0 4 (gIn iw_X6) rfl rfl (by decide) (gMem fl_X6_42) rfl rfl (tdec DX6_hasMark 4 rfl) rfl ?_
    refine g_icmp_ge (pt := 31) C (tdec DX6_hasMark 5 rfl) (by decide) rfl (fun h1 => ?_) (fun h1 => ?_)
    · have hF := o_ifp hF h1
      refine g_sub (L' := [(0, .ref v_0), (1, .long v1), (3, .int v3)]) [0, 1, 2] rfl ?_
      exact hk9 _ hF
    · have hF := o_ifn hF h1
      refine g_aload_n (z := 0) C (tdec DX6_hasMark 6 rfl) rfl rfl rfl ?_
      refine g_getf (C' := RX6) (T := TX6) (N := 6) (v := .ref v_1) C 0 1 (gIn iw_X6) rfl rfl (by decide) (gMem fl_X6_23) rfl rfl (tdec DX6_hasMark 7 rfl) rfl ?_
      refine g_iload_n (z := 2) C (tdec DX6_hasMark 8 rfl) rfl rfl rfl ?_
      obtain ⟨r2, y3, hF⟩ := o_bind hF
      refine g_callVlR (q0 := 1) C (c_X2_at l D cB cI cJ cZ v_1 v_2 y3) rfl rfl (gIV ml_X6_49 im_X2_at sl_X2_at in_X2 cd_X2_at) rfl eX2_at rfl ⟨rfl, rfl⟩ ⟨Nat.le_of_ble_eq_true rfl, Nat.le_of_ble_eq_true rfl⟩ rfl [1, 2] rfl rfl rfl (Nat.le_of_ble_eq_true rfl) (tdec DX6_hasMark 9 rfl) rfl ?_
      refine g_lload_n (z := 1) C (tdec DX6_hasMark 10 rfl) rfl rfl rfl ?_
      refine g_lcmp C (tdec DX6_hasMark 11 rfl) rfl ?_
      refine g_if_ne (pt := 25) C (tdec DX6_hasMark 12 rfl) (by decide) rfl (fun h4 => ?_) (fun h4 => ?_)
      · have hF := o_ifn hF h4
        refine g_iinc (z := 2) (v := (v3 + 1)) (L' := [(3, .int (v3 + 1)), (0, .ref v_0), (1, .long v1)]) C (tdec DX6_hasMark 15 rfl) rfl rfl (by decide) rfl rfl ?_
        refine g_goto (pt := 2) C (tdec DX6_hasMark 16 rfl) (by decide) ?_
        refine g_sub (L' := [(0, .ref v_0), (1, .long v1), (3, .int (v3 + 1))]) [1, 2, 0] rfl ?_
        exact ih9 _ hF
      · have hF := o_ifp hF h4
        refine g_iconst (v := 1) C (tdec DX6_hasMark 13 rfl) (by decide) rfl ?_
        have hr9 := o_some hF
        subst hr9
        exact g_zretR C rfl rfl (tdec DX6_hasMark 14 rfl)
set_option maxHeartbeats 4000000 in
set_option maxRecDepth 100000 in
theorem c_X6_hasMark (l : Launch) (D : va_G) (cB cI cJ cZ : ClassId) (v_0 v_1 v_2 v_3 v_4 v_5 v_6 v_7 v_8 v_9 v_10 v_11 v_12 v_13 v_14 v_15 v_16 v_17 v_18 v_19 : Nat) {v0 : VS} {p1 : Int64} {res : Int32} (hF : FX6_hasMark v0 p1 = some res) : gRi l yX6_hasMark wsX6_hasMark rX6_hasMark D (gT cB cI cJ cZ) [.ref v_0, .long p1] (wV cI cJ v_0 v_1 v_2 v_3 v_4 v_5 v_6 v_7 v_8 v_9 v_10 v_11 v_12 v_13 v_14 v_15 v_16 v_17 v_18 v_19 v0) res := by
  refine g_enter (own := RX6) (free := (fun _ _ => False)) (Qc := (fun sz => gRQi res)) (fun _ _ => True) (fun sz => Or.inl rfl) rfl (by decide) rfl (Nat.le_of_ble_eq_true rfl) rfl ?_
  intro p e s m args below meth c C
  unfold FX6_hasMark at hF
  refine g_iconst (v := 0) C (tdec DX6_hasMark 0 rfl) (by decide) rfl ?_
  refine g_istore_n (L' := [(3, .int 0), (0, .ref v_0), (1, .long p1)]) C (tdec DX6_hasMark 1 rfl) rfl (by decide) rfl rfl ?_
  refine g_sub (L' := [(0, .ref v_0), (1, .long p1), (3, .int 0)]) [1, 2, 0] rfl ?_
  refine c_FX6_hasMark_L2 C (fun w3_5 hF => ?_) 100000 _ hF
  refine g_iconst (v := 0) C (tdec DX6_hasMark 17 rfl) (by decide) rfl ?_
  have hr9 := o_some hF
  subst hr9
  exact g_zretR C rfl rfl (tdec DX6_hasMark 18 rfl)
def FX6_makeHidden (v0 : VS) : Option (VS) :=
  (FX0_told (VS_b v0) 4800).bind fun r1 =>
  (FX0_birth (VS_b v0) 4800).bind fun r3 =>
  (FX0_point (VS_b v0) 4801 r1 r3).bind fun s5 =>
  some (VS_setbusy (VS_setb v0 s5) 1)
def rX6_makeHidden : Room := { frames := 2, cells := 0, slots := 0, locals := 46 }
set_option maxHeartbeats 4000000 in
set_option maxRecDepth 100000 in
theorem c_X6_makeHidden (l : Launch) (D : va_G) (cB cI cJ cZ : ClassId) (v_0 v_1 v_2 v_3 v_4 v_5 v_6 v_7 v_8 v_9 v_10 v_11 v_12 v_13 v_14 v_15 v_16 v_17 v_18 v_19 : Nat) {v0 : VS} {res : VS} (hF : FX6_makeHidden v0 = some res) : gMv l yX6_makeHidden wsX6_makeHidden rX6_makeHidden D (gT cB cI cJ cZ) [.ref v_0] (wV cI cJ v_0 v_1 v_2 v_3 v_4 v_5 v_6 v_7 v_8 v_9 v_10 v_11 v_12 v_13 v_14 v_15 v_16 v_17 v_18 v_19 v0) (wV cI cJ v_0 v_1 v_2 v_3 v_4 v_5 v_6 v_7 v_8 v_9 v_10 v_11 v_12 v_13 v_14 v_15 v_16 v_17 v_18 v_19 res) := by
  refine g_enter (own := RX6) (free := (fun sz => va_A (wV cI cJ v_0 v_1 v_2 v_3 v_4 v_5 v_6 v_7 v_8 v_9 v_10 v_11 v_12 v_13 v_14 v_15 v_16 v_17 v_18 v_19 v0) sz)) (Qc := (fun sz => gQv D (wV cI cJ v_0 v_1 v_2 v_3 v_4 v_5 v_6 v_7 v_8 v_9 v_10 v_11 v_12 v_13 v_14 v_15 v_16 v_17 v_18 v_19 v0) sz (wV cI cJ v_0 v_1 v_2 v_3 v_4 v_5 v_6 v_7 v_8 v_9 v_10 v_11 v_12 v_13 v_14 v_15 v_16 v_17 v_18 v_19 res))) (fun sz => va_A (wV cI cJ v_0 v_1 v_2 v_3 v_4 v_5 v_6 v_7 v_8 v_9 v_10 v_11 v_12 v_13 v_14 v_15 v_16 v_17 v_18 v_19 v0) sz) (fun sz => Or.inr rfl) rfl (by decide) rfl (Nat.le_of_ble_eq_true rfl) rfl ?_
  intro p e s m args below meth c C
  unfold FX6_makeHidden at hF
  refine g_aload_n (z := 0) C (tdec DX6_makeHidden 0 rfl) rfl rfl rfl ?_
  refine g_getf (C' := RX6) (T := TX6) (N := 6) (v := .ref v_5) C 0 0 (gIn iw_X6) rfl rfl (by decide) (gMem fl_X6_12) rfl rfl (tdec DX6_makeHidden 1 rfl) rfl ?_
  refine g_sipush (v := 4801) C (tdec DX6_makeHidden 2 rfl) (by decide) rfl ?_
  refine g_aload_n (z := 0) C (tdec DX6_makeHidden 3 rfl) rfl rfl rfl ?_
  refine g_getf (C' := RX6) (T := TX6) (N := 6) (v := .ref v_5) C 0 0 (gIn iw_X6) rfl rfl (by decide) (gMem fl_X6_12) rfl rfl (tdec DX6_makeHidden 4 rfl) rfl ?_
  refine g_sipush (v := 4800) C (tdec DX6_makeHidden 5 rfl) (by decide) rfl ?_
  obtain ⟨r1, y2, hF⟩ := o_bind hF
  refine g_callViRS (q0 := 5) (S := [wV0 cI cJ v_0 v_1 v_2 v_3 v_4 v_5 v0, wB cI cJ v_5 v_6 v_7 v_8 v_9 v_10 v_11 v_12 v_13 v_14 v_15 v_16 v_17 v_18 v_19 (VS_b v0)]) (S0 := [wB cI cJ v_5 v_6 v_7 v_8 v_9 v_10 v_11 v_12 v_13 v_14 v_15 v_16 v_17 v_18 v_19 (VS_b v0)]) C (c_X0_told l D cB cI cJ cZ v_5 v_6 v_7 v_8 v_9 v_10 v_11 v_12 v_13 v_14 v_15 v_16 v_17 v_18 v_19 y2) rfl rfl (gIV ml_X6_63 im_X0_told sl_X0_told in_X0 cd_X0_told) rfl eX0_told rfl ⟨rfl, rfl⟩ ⟨Nat.le_of_ble_eq_true rfl, Nat.le_of_ble_eq_true rfl⟩ rfl rfl rfl [1] rfl rfl rfl (Nat.le_of_ble_eq_true rfl) (tdec DX6_makeHidden 6 rfl) rfl ?_
  refine g_aload_n (z := 0) C (tdec DX6_makeHidden 7 rfl) rfl rfl rfl ?_
  refine g_getf (C' := RX6) (T := TX6) (N := 6) (v := .ref v_5) C 0 0 (gIn iw_X6) rfl rfl (by decide) (gMem fl_X6_12) rfl rfl (tdec DX6_makeHidden 8 rfl) rfl ?_
  refine g_sipush (v := 4800) C (tdec DX6_makeHidden 9 rfl) (by decide) rfl ?_
  obtain ⟨r3, y4, hF⟩ := o_bind hF
  refine g_callViRS (q0 := 5) (S := [wV0 cI cJ v_0 v_1 v_2 v_3 v_4 v_5 v0, wB cI cJ v_5 v_6 v_7 v_8 v_9 v_10 v_11 v_12 v_13 v_14 v_15 v_16 v_17 v_18 v_19 (VS_b v0)]) (S0 := [wB cI cJ v_5 v_6 v_7 v_8 v_9 v_10 v_11 v_12 v_13 v_14 v_15 v_16 v_17 v_18 v_19 (VS_b v0)]) C (c_X0_birth l D cB cI cJ cZ v_5 v_6 v_7 v_8 v_9 v_10 v_11 v_12 v_13 v_14 v_15 v_16 v_17 v_18 v_19 y4) rfl rfl (gIV ml_X6_102 im_X0_birth sl_X0_birth in_X0 cd_X0_birth) rfl eX0_birth rfl ⟨rfl, rfl⟩ ⟨Nat.le_of_ble_eq_true rfl, Nat.le_of_ble_eq_true rfl⟩ rfl rfl rfl [1] rfl rfl rfl (Nat.le_of_ble_eq_true rfl) (tdec DX6_makeHidden 10 rfl) rfl ?_
  obtain ⟨s5, y6, hF⟩ := o_bind hF
  refine g_callVvMS (q0 := 5) (W' := wV cI cJ v_0 v_1 v_2 v_3 v_4 v_5 v_6 v_7 v_8 v_9 v_10 v_11 v_12 v_13 v_14 v_15 v_16 v_17 v_18 v_19 (VS_setb v0 s5)) (S := [wV0 cI cJ v_0 v_1 v_2 v_3 v_4 v_5 v0, wB cI cJ v_5 v_6 v_7 v_8 v_9 v_10 v_11 v_12 v_13 v_14 v_15 v_16 v_17 v_18 v_19 (VS_b v0)]) (S0 := [wB cI cJ v_5 v_6 v_7 v_8 v_9 v_10 v_11 v_12 v_13 v_14 v_15 v_16 v_17 v_18 v_19 (VS_b v0)]) (S1 := [wB cI cJ v_5 v_6 v_7 v_8 v_9 v_10 v_11 v_12 v_13 v_14 v_15 v_16 v_17 v_18 v_19 s5]) (S' := [wV0 cI cJ v_0 v_1 v_2 v_3 v_4 v_5 (VS_setb v0 s5), wB cI cJ v_5 v_6 v_7 v_8 v_9 v_10 v_11 v_12 v_13 v_14 v_15 v_16 v_17 v_18 v_19 s5]) C (c_X0_point l D cB cI cJ cZ v_5 v_6 v_7 v_8 v_9 v_10 v_11 v_12 v_13 v_14 v_15 v_16 v_17 v_18 v_19 y6) rfl rfl (gIV ml_X6_88 im_X0_point sl_X0_point in_X0 cd_X0_point) rfl eX0_point rfl ⟨rfl, rfl⟩ ⟨Nat.le_of_ble_eq_true rfl, Nat.le_of_ble_eq_true rfl⟩ rfl rfl rfl [1] rfl rfl rfl rfl (gA_cons aB gA_nil) rfl rfl (Nat.le_of_ble_eq_true rfl) (tdec DX6_makeHidden 11 rfl) rfl ?_
  refine g_aload_n (z := 0) C (tdec DX6_makeHidden 12 rfl) rfl rfl rfl ?_
  refine g_iconst (v := 1) C (tdec DX6_makeHidden 13 rfl) (by decide) rfl ?_
  refine g_putf (C' := RX6) (T := TX6) (N := 6) (v := .int 1) (ws' := wV cI cJ v_0 v_1 v_2 v_3 v_4 v_5 v_6 v_7 v_8 v_9 v_10 v_11 v_12 v_13 v_14 v_15 v_16 v_17 v_18 v_19 (VS_setbusy (VS_setb v0 s5) 1)) C 0 5 tyX6 tyX6_ok nmX6 (gIn iw_X6) rfl rfl (by decide) (gMem fl_X6_45) rfl rfl (tyX6_ok 5 (by decide)) rfl rfl (Nat.le_of_ble_eq_true rfl) rfl (tdec DX6_makeHidden 14 rfl) rfl ?_
  have hr9 := o_some hF
  subst hr9
  exact g_vret C rfl (tdec DX6_makeHidden 15 rfl)
def FX6_newBlocksWanted_L9 (v0 : VS) (v1 : Int32) (v2 : Int32) (v3 : Int32) (k9 : Int32 → Int32 → Int32 → Option (Int32)) : Nat → Int32 → Int32 → Int32 → Option (Int32)
  | 0, _, _, _ => none
  | n9 + 1, v4, v5, v6 =>
    if v6 < v3 then
      k9 v4 v5 v6
    else
      (FX0_wantsNewBlock (VS_b v0) v5 (VS_gen v0)).bind fun r2 =>
      if r2 = 0 then
        (FX0_told (VS_b v0) v5).bind fun r5 =>
        (FX0_slotIn (VS_b v0) r5 v2).bind fun r7 =>
        FX6_newBlocksWanted_L9 v0 v1 v2 v3 k9 n9 v4 r7 (v6 + (-1))
      else
        (FX0_told (VS_b v0) v5).bind fun r9 =>
        (FX0_slotIn (VS_b v0) r9 v2).bind fun r11 =>
        FX6_newBlocksWanted_L9 v0 v1 v2 v3 k9 n9 (v4 + 1) r11 (v6 + (-1))
def FX6_newBlocksWanted (v0 : VS) (p1 : Int32) (p2 : Int32) (p3 : Int32) : Option (Int32) :=
  FX6_newBlocksWanted_L9 v0 p1 p2 p3 (fun w4_13 w5_13 w6_13 =>
    some w4_13) 100000 0 p1 3
def rX6_newBlocksWanted : Room := { frames := 2, cells := 0, slots := 0, locals := 44 }
set_option maxHeartbeats 4000000 in
set_option maxRecDepth 100000 in
theorem c_FX6_newBlocksWanted_L9 {p : Program} {l : Launch} {e : Env} {s : State} {m : MethodId} {args : Array Value} {below : List Frame} {meth : Method} {c : Code} {D : va_G} {cB cI cJ cZ : ClassId} {v_0 v_1 v_2 v_3 v_4 v_5 v_6 v_7 v_8 v_9 v_10 v_11 v_12 v_13 v_14 v_15 v_16 v_17 v_18 v_19 : Nat} {v0 : VS} {res : Int32} (C : gC p s m args meth c cX6_newBlocksWanted 7 RX6 wsX6_newBlocksWanted D (gT cB cI cJ cZ) (some .int) (fun _ => False)) {v1 : Int32} {v2 : Int32} {v3 : Int32} {k9 : Int32 → Int32 → Int32 → Option (Int32)} (hk9 : ∀ (v4 : Int32) (v5 : Int32) (v6 : Int32), k9 v4 v5 v6 = some res → gG p l e (headSpec wsX6_newBlocksWanted rX6_newBlocksWanted).room s m args below meth c 0 0 D (fun _ => True) (fun _ => False) 7 (MQ below (gRQi res) args s 0 0 (fun _ => False)) (wV cI cJ v_0 v_1 v_2 v_3 v_4 v_5 v_6 v_7 v_8 v_9 v_10 v_11 v_12 v_13 v_14 v_15 v_16 v_17 v_18 v_19 v0) 59 [(0, .ref v_0), (1, .int v1), (2, .int v2), (3, .int v3), (4, .int v4), (5, .int v5), (6, .int v6)] []) :
    ∀ (n9 : Nat) (v4 : Int32) (v5 : Int32) (v6 : Int32), FX6_newBlocksWanted_L9 v0 v1 v2 v3 k9 n9 v4 v5 v6 = some res → gG p l e (headSpec wsX6_newBlocksWanted rX6_newBlocksWanted).room s m args below meth c 0 0 D (fun _ => True) (fun _ => False) 7 (MQ below (gRQi res) args s 0 0 (fun _ => False)) (wV cI cJ v_0 v_1 v_2 v_3 v_4 v_5 v_6 v_7 v_8 v_9 v_10 v_11 v_12 v_13 v_14 v_15 v_16 v_17 v_18 v_19 v0) 9 [(0, .ref v_0), (1, .int v1), (2, .int v2), (3, .int v3), (4, .int v4), (5, .int v5), (6, .int v6)] [] := by
  intro n9
  induction n9 with
  | zero =>
    intro v4 v5 v6 hF
    exact absurd hF (by simp [FX6_newBlocksWanted_L9])
  | succ n9 ih9 =>
    intro v4 v5 v6 hF
    rw [FX6_newBlocksWanted_L9] at hF
    refine g_iload (z := 6) C (tdec DX6_newBlocksWanted 6 rfl) rfl rfl ?_
    refine g_iload_n (z := 3) C (tdec DX6_newBlocksWanted 7 rfl) rfl rfl rfl ?_
    refine g_icmp_lt (pt := 59) C (tdec DX6_newBlocksWanted 8 rfl) (by decide) rfl (fun h1 => ?_) (fun h1 => ?_)
    · have hF := o_ifp hF h1
      refine g_sub (L' := [(0, .ref v_0), (1, .int v1), (2, .int v2), (3, .int v3), (4, .int v4), (5, .int v5), (6, .int v6)]) [0, 1, 2, 3, 4, 5, 6] rfl ?_
      exact hk9 _ _ _ hF
    · have hF := o_ifn hF h1
      refine g_aload_n (z := 0) C (tdec DX6_newBlocksWanted 9 rfl) rfl rfl rfl ?_
      refine g_getf (C' := RX6) (T := TX6) (N := 6) (v := .ref v_5) C 0 0 (gIn iw_X6) rfl rfl (by decide) (gMem fl_X6_12) rfl rfl (tdec DX6_newBlocksWanted 10 rfl) rfl ?_
      refine g_iload (z := 5) C (tdec DX6_newBlocksWanted 11 rfl) rfl rfl ?_
      refine g_aload_n (z := 0) C (tdec DX6_newBlocksWanted 12 rfl) rfl rfl rfl ?_
      refine g_getf (C' := RX6) (T := TX6) (N := 6) (v := .int (VS_gen v0)) C 0 3 (gIn iw_X6) rfl rfl (by decide) (gMem fl_X6_38) rfl rfl (tdec DX6_newBlocksWanted 13 rfl) rfl ?_
      obtain ⟨r2, y3, hF⟩ := o_bind hF
      refine g_callViRS (q0 := 5) (S := [wV0 cI cJ v_0 v_1 v_2 v_3 v_4 v_5 v0, wB cI cJ v_5 v_6 v_7 v_8 v_9 v_10 v_11 v_12 v_13 v_14 v_15 v_16 v_17 v_18 v_19 (VS_b v0)]) (S0 := [wB cI cJ v_5 v_6 v_7 v_8 v_9 v_10 v_11 v_12 v_13 v_14 v_15 v_16 v_17 v_18 v_19 (VS_b v0)]) C (c_X0_wantsNewBlock l D cB cI cJ cZ v_5 v_6 v_7 v_8 v_9 v_10 v_11 v_12 v_13 v_14 v_15 v_16 v_17 v_18 v_19 y3) rfl rfl (gIV ml_X6_98 im_X0_wantsNewBlock sl_X0_wantsNewBlock in_X0 cd_X0_wantsNewBlock) rfl eX0_wantsNewBlock rfl ⟨rfl, rfl⟩ ⟨Nat.le_of_ble_eq_true rfl, Nat.le_of_ble_eq_true rfl⟩ rfl rfl rfl [1] rfl rfl rfl (Nat.le_of_ble_eq_true rfl) (tdec DX6_newBlocksWanted 14 rfl) rfl ?_
      refine g_if_eq (pt := 34) C (tdec DX6_newBlocksWanted 15 rfl) (by decide) rfl (fun h4 => ?_) (fun h4 => ?_)
      · have hF := o_ifp hF h4
        refine g_aload_n (z := 0) C (tdec DX6_newBlocksWanted 17 rfl) rfl rfl rfl ?_
        refine g_getf (C' := RX6) (T := TX6) (N := 6) (v := .ref v_5) C 0 0 (gIn iw_X6) rfl rfl (by decide) (gMem fl_X6_12) rfl rfl (tdec DX6_newBlocksWanted 18 rfl) rfl ?_
        refine g_aload_n (z := 0) C (tdec DX6_newBlocksWanted 19 rfl) rfl rfl rfl ?_
        refine g_getf (C' := RX6) (T := TX6) (N := 6) (v := .ref v_5) C 0 0 (gIn iw_X6) rfl rfl (by decide) (gMem fl_X6_12) rfl rfl (tdec DX6_newBlocksWanted 20 rfl) rfl ?_
        refine g_iload (z := 5) C (tdec DX6_newBlocksWanted 21 rfl) rfl rfl ?_
        obtain ⟨r5, y6, hF⟩ := o_bind hF
        refine g_callViRS (q0 := 5) (S := [wV0 cI cJ v_0 v_1 v_2 v_3 v_4 v_5 v0, wB cI cJ v_5 v_6 v_7 v_8 v_9 v_10 v_11 v_12 v_13 v_14 v_15 v_16 v_17 v_18 v_19 (VS_b v0)]) (S0 := [wB cI cJ v_5 v_6 v_7 v_8 v_9 v_10 v_11 v_12 v_13 v_14 v_15 v_16 v_17 v_18 v_19 (VS_b v0)]) C (c_X0_told l D cB cI cJ cZ v_5 v_6 v_7 v_8 v_9 v_10 v_11 v_12 v_13 v_14 v_15 v_16 v_17 v_18 v_19 y6) rfl rfl (gIV ml_X6_63 im_X0_told sl_X0_told in_X0 cd_X0_told) rfl eX0_told rfl ⟨rfl, rfl⟩ ⟨Nat.le_of_ble_eq_true rfl, Nat.le_of_ble_eq_true rfl⟩ rfl rfl rfl [1] rfl rfl rfl (Nat.le_of_ble_eq_true rfl) (tdec DX6_newBlocksWanted 22 rfl) rfl ?_
        refine g_iload_n (z := 2) C (tdec DX6_newBlocksWanted 23 rfl) rfl rfl rfl ?_
        obtain ⟨r7, y8, hF⟩ := o_bind hF
        refine g_callViRS (q0 := 5) (S := [wV0 cI cJ v_0 v_1 v_2 v_3 v_4 v_5 v0, wB cI cJ v_5 v_6 v_7 v_8 v_9 v_10 v_11 v_12 v_13 v_14 v_15 v_16 v_17 v_18 v_19 (VS_b v0)]) (S0 := [wB cI cJ v_5 v_6 v_7 v_8 v_9 v_10 v_11 v_12 v_13 v_14 v_15 v_16 v_17 v_18 v_19 (VS_b v0)]) C (c_X0_slotIn l D cB cI cJ cZ v_5 v_6 v_7 v_8 v_9 v_10 v_11 v_12 v_13 v_14 v_15 v_16 v_17 v_18 v_19 y8) rfl rfl (gIV ml_X6_80 im_X0_slotIn sl_X0_slotIn in_X0 cd_X0_slotIn) rfl eX0_slotIn rfl ⟨rfl, rfl⟩ ⟨Nat.le_of_ble_eq_true rfl, Nat.le_of_ble_eq_true rfl⟩ rfl rfl rfl [1] rfl rfl rfl (Nat.le_of_ble_eq_true rfl) (tdec DX6_newBlocksWanted 24 rfl) rfl ?_
        refine g_istore (L' := [(5, .int r7), (0, .ref v_0), (1, .int v1), (2, .int v2), (3, .int v3), (4, .int v4), (6, .int v6)]) C (tdec DX6_newBlocksWanted 25 rfl) (by decide) rfl rfl ?_
        refine g_iinc (z := 6) (v := (v6 + (-1))) (L' := [(6, .int (v6 + (-1))), (5, .int r7), (0, .ref v_0), (1, .int v1), (2, .int v2), (3, .int v3), (4, .int v4)]) C (tdec DX6_newBlocksWanted 26 rfl) rfl rfl (by decide) rfl rfl ?_
        refine g_goto (pt := 9) C (tdec DX6_newBlocksWanted 27 rfl) (by decide) ?_
        refine g_sub (L' := [(0, .ref v_0), (1, .int v1), (2, .int v2), (3, .int v3), (4, .int v4), (5, .int r7), (6, .int (v6 + (-1)))]) [2, 3, 4, 5, 6, 1, 0] rfl ?_
        exact ih9 _ _ _ hF
      · have hF := o_ifn hF h4
        refine g_iinc (z := 4) (v := (v4 + 1)) (L' := [(4, .int (v4 + 1)), (0, .ref v_0), (1, .int v1), (2, .int v2), (3, .int v3), (5, .int v5), (6, .int v6)]) C (tdec DX6_newBlocksWanted 16 rfl) rfl rfl (by decide) rfl rfl ?_
        refine g_aload_n (z := 1) C (tdec DX6_newBlocksWanted 17 rfl) rfl rfl rfl ?_
        refine g_getf (C' := RX6) (T := TX6) (N := 6) (v := .ref v_5) C 0 0 (gIn iw_X6) rfl rfl (by decide) (gMem fl_X6_12) rfl rfl (tdec DX6_newBlocksWanted 18 rfl) rfl ?_
        refine g_aload_n (z := 1) C (tdec DX6_newBlocksWanted 19 rfl) rfl rfl rfl ?_
        refine g_getf (C' := RX6) (T := TX6) (N := 6) (v := .ref v_5) C 0 0 (gIn iw_X6) rfl rfl (by decide) (gMem fl_X6_12) rfl rfl (tdec DX6_newBlocksWanted 20 rfl) rfl ?_
        refine g_iload (z := 5) C (tdec DX6_newBlocksWanted 21 rfl) rfl rfl ?_
        obtain ⟨r9, y10, hF⟩ := o_bind hF
        refine g_callViRS (q0 := 5) (S := [wV0 cI cJ v_0 v_1 v_2 v_3 v_4 v_5 v0, wB cI cJ v_5 v_6 v_7 v_8 v_9 v_10 v_11 v_12 v_13 v_14 v_15 v_16 v_17 v_18 v_19 (VS_b v0)]) (S0 := [wB cI cJ v_5 v_6 v_7 v_8 v_9 v_10 v_11 v_12 v_13 v_14 v_15 v_16 v_17 v_18 v_19 (VS_b v0)]) C (c_X0_told l D cB cI cJ cZ v_5 v_6 v_7 v_8 v_9 v_10 v_11 v_12 v_13 v_14 v_15 v_16 v_17 v_18 v_19 y10) rfl rfl (gIV ml_X6_63 im_X0_told sl_X0_told in_X0 cd_X0_told) rfl eX0_told rfl ⟨rfl, rfl⟩ ⟨Nat.le_of_ble_eq_true rfl, Nat.le_of_ble_eq_true rfl⟩ rfl rfl rfl [1] rfl rfl rfl (Nat.le_of_ble_eq_true rfl) (tdec DX6_newBlocksWanted 22 rfl) rfl ?_
        refine g_iload_n (z := 3) C (tdec DX6_newBlocksWanted 23 rfl) rfl rfl rfl ?_
        obtain ⟨r11, y12, hF⟩ := o_bind hF
        refine g_callViRS (q0 := 5) (S := [wV0 cI cJ v_0 v_1 v_2 v_3 v_4 v_5 v0, wB cI cJ v_5 v_6 v_7 v_8 v_9 v_10 v_11 v_12 v_13 v_14 v_15 v_16 v_17 v_18 v_19 (VS_b v0)]) (S0 := [wB cI cJ v_5 v_6 v_7 v_8 v_9 v_10 v_11 v_12 v_13 v_14 v_15 v_16 v_17 v_18 v_19 (VS_b v0)]) C (c_X0_slotIn l D cB cI cJ cZ v_5 v_6 v_7 v_8 v_9 v_10 v_11 v_12 v_13 v_14 v_15 v_16 v_17 v_18 v_19 y12) rfl rfl (gIV ml_X6_80 im_X0_slotIn sl_X0_slotIn in_X0 cd_X0_slotIn) rfl eX0_slotIn rfl ⟨rfl, rfl⟩ ⟨Nat.le_of_ble_eq_true rfl, Nat.le_of_ble_eq_true rfl⟩ rfl rfl rfl [1] rfl rfl rfl (Nat.le_of_ble_eq_true rfl) (tdec DX6_newBlocksWanted 24 rfl) rfl ?_
        refine g_istore (L' := [(5, .int r11), (4, .int (v4 + 1)), (0, .ref v_0), (1, .int v1), (2, .int v2), (3, .int v3), (6, .int v6)]) C (tdec DX6_newBlocksWanted 25 rfl) (by decide) rfl rfl ?_
        refine g_iinc (z := 6) (v := (v6 + (-1))) (L' := [(6, .int (v6 + (-1))), (5, .int r11), (4, .int (v4 + 1)), (0, .ref v_0), (1, .int v1), (2, .int v2), (3, .int v3)]) C (tdec DX6_newBlocksWanted 26 rfl) rfl rfl (by decide) rfl rfl ?_
        refine g_goto (pt := 9) C (tdec DX6_newBlocksWanted 27 rfl) (by decide) ?_
        refine g_sub (L' := [(0, .ref v_0), (1, .int v1), (2, .int v2), (3, .int v3), (4, .int (v4 + 1)), (5, .int r11), (6, .int (v6 + (-1)))]) [3, 4, 5, 6, 2, 1, 0] rfl ?_
        exact ih9 _ _ _ hF
set_option maxHeartbeats 4000000 in
set_option maxRecDepth 100000 in
theorem c_X6_newBlocksWanted (l : Launch) (D : va_G) (cB cI cJ cZ : ClassId) (v_0 v_1 v_2 v_3 v_4 v_5 v_6 v_7 v_8 v_9 v_10 v_11 v_12 v_13 v_14 v_15 v_16 v_17 v_18 v_19 : Nat) {v0 : VS} {p1 : Int32} {p2 : Int32} {p3 : Int32} {res : Int32} (hF : FX6_newBlocksWanted v0 p1 p2 p3 = some res) : gRi l yX6_newBlocksWanted wsX6_newBlocksWanted rX6_newBlocksWanted D (gT cB cI cJ cZ) [.ref v_0, .int p1, .int p2, .int p3] (wV cI cJ v_0 v_1 v_2 v_3 v_4 v_5 v_6 v_7 v_8 v_9 v_10 v_11 v_12 v_13 v_14 v_15 v_16 v_17 v_18 v_19 v0) res := by
  refine g_enter (own := RX6) (free := (fun _ _ => False)) (Qc := (fun sz => gRQi res)) (fun _ _ => True) (fun sz => Or.inl rfl) rfl (by decide) rfl (Nat.le_of_ble_eq_true rfl) rfl ?_
  intro p e s m args below meth c C
  unfold FX6_newBlocksWanted at hF
  refine g_iconst (v := 0) C (tdec DX6_newBlocksWanted 0 rfl) (by decide) rfl ?_
  refine g_istore (L' := [(4, .int 0), (0, .ref v_0), (1, .int p1), (2, .int p2), (3, .int p3)]) C (tdec DX6_newBlocksWanted 1 rfl) (by decide) rfl rfl ?_
  refine g_iload_n (z := 2) C (tdec DX6_newBlocksWanted 2 rfl) rfl rfl rfl ?_
  refine g_istore (L' := [(5, .int p1), (4, .int 0), (0, .ref v_0), (1, .int p1), (2, .int p2), (3, .int p3)]) C (tdec DX6_newBlocksWanted 3 rfl) (by decide) rfl rfl ?_
  refine g_iconst (v := 3) C (tdec DX6_newBlocksWanted 4 rfl) (by decide) rfl ?_
  refine g_istore (L' := [(6, .int 3), (5, .int p1), (4, .int 0), (0, .ref v_0), (1, .int p1), (2, .int p2), (3, .int p3)]) C (tdec DX6_newBlocksWanted 5 rfl) (by decide) rfl rfl ?_
  refine g_sub (L' := [(0, .ref v_0), (1, .int p1), (2, .int p2), (3, .int p3), (4, .int 0), (5, .int p1), (6, .int 3)]) [3, 4, 5, 6, 2, 1, 0] rfl ?_
  refine c_FX6_newBlocksWanted_L9 C (fun w4_13 w5_13 w6_13 hF => ?_) 100000 _ _ _ hF
  refine g_iload (z := 4) C (tdec DX6_newBlocksWanted 28 rfl) rfl rfl ?_
  have hr9 := o_some hF
  subst hr9
  exact g_iretR C rfl (tdec DX6_newBlocksWanted 29 rfl)
def FX6_writePlace_L25 (v1 : Int32) (v2 : Int32) (v3 : Int64) (k9 : VS → Int32 → Int32 → Option (Int32 × VS)) : Nat → VS → Int32 → Int32 → Option (Int32 × VS)
  | 0, _, _, _ => none
  | n9 + 1, v, v5, v6 =>
    if v6 ≤ 0 then
      k9 v v5 v6
    else
      (FX0_renew (VS_b v) v5 v6 (VS_gen v)).bind fun s7 =>
      (FX0_told s7 v5).bind fun r9 =>
      (FX0_slotIn s7 r9 v2).bind fun r11 =>
      FX6_writePlace_L25 v1 v2 v3 k9 n9 (VS_setb v s7) r11 (v6 + (-1))
def FX6_writePlace (v0 : VS) (p1 : Int32) (p2 : Int32) (p3 : Int64) : Option (Int32 × VS) :=
  (FX6_newBlocksWanted v0 p1 p2 0).bind fun r1 =>
  (FX0_free (VS_b v0)).bind fun r3 =>
  if r1 ≤ r3 then
    FX6_writePlace_L25 p1 p2 p3 (fun vq13 w5_13 w6_13 =>
      (FX0_renew (VS_b vq13) w5_13 0 (VS_gen vq13)).bind fun s14 =>
      (FX0_told s14 w5_13).bind fun r16 =>
      (FX0_putNumber s14 r16 p3).bind fun s18 =>
      some (1, (VS_setb (VS_setb vq13 s14) s18))) 100000 v0 p1 3
  else
    some (0, v0)
def rX6_writePlace : Room := { frames := 3, cells := 0, slots := 0, locals := 72 }
set_option maxHeartbeats 4000000 in
set_option maxRecDepth 100000 in
theorem c_FX6_writePlace_L25 {p : Program} {l : Launch} {e : Env} {s : State} {m : MethodId} {args : Array Value} {below : List Frame} {meth : Method} {c : Code} {D : va_G} {cB cI cJ cZ : ClassId} {v_0 v_1 v_2 v_3 v_4 v_5 v_6 v_7 v_8 v_9 v_10 v_11 v_12 v_13 v_14 v_15 v_16 v_17 v_18 v_19 : Nat} {v0 : VS} {res : Int32 × VS} (C : gC p s m args meth c cX6_writePlace 7 RX6 wsX6_writePlace D (gT cB cI cJ cZ) (some .boolean) (va_A (wV cI cJ v_0 v_1 v_2 v_3 v_4 v_5 v_6 v_7 v_8 v_9 v_10 v_11 v_12 v_13 v_14 v_15 v_16 v_17 v_18 v_19 v0) s.heap.size)) {v1 : Int32} {v2 : Int32} {v3 : Int64} {k9 : VS → Int32 → Int32 → Option (Int32 × VS)} (hk9 : ∀ (v : VS) (v5 : Int32) (v6 : Int32), k9 v v5 v6 = some res → gG p l e (headSpec wsX6_writePlace rX6_writePlace).room s m args below meth c 0 0 D (va_A (wV cI cJ v_0 v_1 v_2 v_3 v_4 v_5 v_6 v_7 v_8 v_9 v_10 v_11 v_12 v_13 v_14 v_15 v_16 v_17 v_18 v_19 v0) s.heap.size) (va_A (wV cI cJ v_0 v_1 v_2 v_3 v_4 v_5 v_6 v_7 v_8 v_9 v_10 v_11 v_12 v_13 v_14 v_15 v_16 v_17 v_18 v_19 v0) s.heap.size) 7 (MQ below (gQi D (wV cI cJ v_0 v_1 v_2 v_3 v_4 v_5 v_6 v_7 v_8 v_9 v_10 v_11 v_12 v_13 v_14 v_15 v_16 v_17 v_18 v_19 v0) s.heap.size res.1 (wV cI cJ v_0 v_1 v_2 v_3 v_4 v_5 v_6 v_7 v_8 v_9 v_10 v_11 v_12 v_13 v_14 v_15 v_16 v_17 v_18 v_19 res.2)) args s 0 0 (va_A (wV cI cJ v_0 v_1 v_2 v_3 v_4 v_5 v_6 v_7 v_8 v_9 v_10 v_11 v_12 v_13 v_14 v_15 v_16 v_17 v_18 v_19 v0) s.heap.size)) (wV cI cJ v_0 v_1 v_2 v_3 v_4 v_5 v_6 v_7 v_8 v_9 v_10 v_11 v_12 v_13 v_14 v_15 v_16 v_17 v_18 v_19 v) 70 [(0, .ref v_0), (1, .int v1), (2, .int v2), (3, .long v3), (5, .int v5), (6, .int v6)] []) :
    ∀ (n9 : Nat) (v : VS) (v5 : Int32) (v6 : Int32), FX6_writePlace_L25 v1 v2 v3 k9 n9 v v5 v6 = some res → gG p l e (headSpec wsX6_writePlace rX6_writePlace).room s m args below meth c 0 0 D (va_A (wV cI cJ v_0 v_1 v_2 v_3 v_4 v_5 v_6 v_7 v_8 v_9 v_10 v_11 v_12 v_13 v_14 v_15 v_16 v_17 v_18 v_19 v0) s.heap.size) (va_A (wV cI cJ v_0 v_1 v_2 v_3 v_4 v_5 v_6 v_7 v_8 v_9 v_10 v_11 v_12 v_13 v_14 v_15 v_16 v_17 v_18 v_19 v0) s.heap.size) 7 (MQ below (gQi D (wV cI cJ v_0 v_1 v_2 v_3 v_4 v_5 v_6 v_7 v_8 v_9 v_10 v_11 v_12 v_13 v_14 v_15 v_16 v_17 v_18 v_19 v0) s.heap.size res.1 (wV cI cJ v_0 v_1 v_2 v_3 v_4 v_5 v_6 v_7 v_8 v_9 v_10 v_11 v_12 v_13 v_14 v_15 v_16 v_17 v_18 v_19 res.2)) args s 0 0 (va_A (wV cI cJ v_0 v_1 v_2 v_3 v_4 v_5 v_6 v_7 v_8 v_9 v_10 v_11 v_12 v_13 v_14 v_15 v_16 v_17 v_18 v_19 v0) s.heap.size)) (wV cI cJ v_0 v_1 v_2 v_3 v_4 v_5 v_6 v_7 v_8 v_9 v_10 v_11 v_12 v_13 v_14 v_15 v_16 v_17 v_18 v_19 v) 25 [(0, .ref v_0), (1, .int v1), (2, .int v2), (3, .long v3), (5, .int v5), (6, .int v6)] [] := by
  intro n9
  induction n9 with
  | zero =>
    intro v v5 v6 hF
    exact absurd hF (by simp [FX6_writePlace_L25])
  | succ n9 ih9 =>
    intro v v5 v6 hF
    rw [FX6_writePlace_L25] at hF
    refine g_iload (z := 5) C (tdec DX6_writePlace 15 rfl) rfl rfl ?_
    refine g_if_le (pt := 70) C (tdec DX6_writePlace 16 rfl) (by decide) rfl (fun h6 => ?_) (fun h6 => ?_)
    · have hF := o_ifp hF h6
      refine g_sub (L' := [(0, .ref v_0), (1, .int v1), (2, .int v2), (3, .long v3), (5, .int v5), (6, .int v6)]) [0, 1, 2, 3, 4, 5] rfl ?_
      exact hk9 _ _ _ hF
    · have hF := o_ifn hF h6
      refine g_aload_n (z := 0) C (tdec DX6_writePlace 17 rfl) rfl rfl rfl ?_
      refine g_getf (C' := RX6) (T := TX6) (N := 6) (v := .ref v_5) C 0 0 (gIn iw_X6) rfl rfl (by decide) (gMem fl_X6_12) rfl rfl (tdec DX6_writePlace 18 rfl) rfl ?_
      refine g_iload (z := 4) C (tdec DX6_writePlace 19 rfl) rfl rfl ?_
      refine g_iload (z := 5) C (tdec DX6_writePlace 20 rfl) rfl rfl ?_
      refine g_aload_n (z := 0) C (tdec DX6_writePlace 21 rfl) rfl rfl rfl ?_
      refine g_getf (C' := RX6) (T := TX6) (N := 6) (v := .int (VS_gen v)) C 0 3 (gIn iw_X6) rfl rfl (by decide) (gMem fl_X6_38) rfl rfl (tdec DX6_writePlace 22 rfl) rfl ?_
      obtain ⟨s7, y8, hF⟩ := o_bind hF
      refine g_callVvMS (q0 := 5) (W' := wV cI cJ v_0 v_1 v_2 v_3 v_4 v_5 v_6 v_7 v_8 v_9 v_10 v_11 v_12 v_13 v_14 v_15 v_16 v_17 v_18 v_19 (VS_setb v s7)) (S := [wV0 cI cJ v_0 v_1 v_2 v_3 v_4 v_5 v, wB cI cJ v_5 v_6 v_7 v_8 v_9 v_10 v_11 v_12 v_13 v_14 v_15 v_16 v_17 v_18 v_19 (VS_b v)]) (S0 := [wB cI cJ v_5 v_6 v_7 v_8 v_9 v_10 v_11 v_12 v_13 v_14 v_15 v_16 v_17 v_18 v_19 (VS_b v)]) (S1 := [wB cI cJ v_5 v_6 v_7 v_8 v_9 v_10 v_11 v_12 v_13 v_14 v_15 v_16 v_17 v_18 v_19 s7]) (S' := [wV0 cI cJ v_0 v_1 v_2 v_3 v_4 v_5 (VS_setb v s7), wB cI cJ v_5 v_6 v_7 v_8 v_9 v_10 v_11 v_12 v_13 v_14 v_15 v_16 v_17 v_18 v_19 s7]) C (c_X0_renew l D cB cI cJ cZ v_5 v_6 v_7 v_8 v_9 v_10 v_11 v_12 v_13 v_14 v_15 v_16 v_17 v_18 v_19 y8) rfl rfl (gIV ml_X6_76 im_X0_renew sl_X0_renew in_X0 cd_X0_renew) rfl eX0_renew rfl ⟨rfl, rfl⟩ ⟨Nat.le_of_ble_eq_true rfl, Nat.le_of_ble_eq_true rfl⟩ rfl rfl rfl [1] rfl rfl rfl rfl (gA_cons aB gA_nil) rfl rfl (Nat.le_of_ble_eq_true rfl) (tdec DX6_writePlace 23 rfl) rfl ?_
      refine g_aload_n (z := 0) C (tdec DX6_writePlace 24 rfl) rfl rfl rfl ?_
      refine g_getf (C' := RX6) (T := TX6) (N := 6) (v := .ref v_5) C 0 0 (gIn iw_X6) rfl rfl (by decide) (gMem fl_X6_12) rfl rfl (tdec DX6_writePlace 25 rfl) rfl ?_
      refine g_aload_n (z := 0) C (tdec DX6_writePlace 26 rfl) rfl rfl rfl ?_
      refine g_getf (C' := RX6) (T := TX6) (N := 6) (v := .ref v_5) C 0 0 (gIn iw_X6) rfl rfl (by decide) (gMem fl_X6_12) rfl rfl (tdec DX6_writePlace 27 rfl) rfl ?_
      refine g_iload (z := 4) C (tdec DX6_writePlace 28 rfl) rfl rfl ?_
      obtain ⟨r9, y10, hF⟩ := o_bind hF
      refine g_callViRS (q0 := 5) (S := [wV0 cI cJ v_0 v_1 v_2 v_3 v_4 v_5 (VS_setb v s7), wB cI cJ v_5 v_6 v_7 v_8 v_9 v_10 v_11 v_12 v_13 v_14 v_15 v_16 v_17 v_18 v_19 s7]) (S0 := [wB cI cJ v_5 v_6 v_7 v_8 v_9 v_10 v_11 v_12 v_13 v_14 v_15 v_16 v_17 v_18 v_19 s7]) C (c_X0_told l D cB cI cJ cZ v_5 v_6 v_7 v_8 v_9 v_10 v_11 v_12 v_13 v_14 v_15 v_16 v_17 v_18 v_19 y10) rfl rfl (gIV ml_X6_63 im_X0_told sl_X0_told in_X0 cd_X0_told) rfl eX0_told rfl ⟨rfl, rfl⟩ ⟨Nat.le_of_ble_eq_true rfl, Nat.le_of_ble_eq_true rfl⟩ rfl rfl rfl [1] rfl rfl rfl (Nat.le_of_ble_eq_true rfl) (tdec DX6_writePlace 29 rfl) rfl ?_
      refine g_iload_n (z := 2) C (tdec DX6_writePlace 30 rfl) rfl rfl rfl ?_
      obtain ⟨r11, y12, hF⟩ := o_bind hF
      refine g_callViRS (q0 := 5) (S := [wV0 cI cJ v_0 v_1 v_2 v_3 v_4 v_5 (VS_setb v s7), wB cI cJ v_5 v_6 v_7 v_8 v_9 v_10 v_11 v_12 v_13 v_14 v_15 v_16 v_17 v_18 v_19 s7]) (S0 := [wB cI cJ v_5 v_6 v_7 v_8 v_9 v_10 v_11 v_12 v_13 v_14 v_15 v_16 v_17 v_18 v_19 s7]) C (c_X0_slotIn l D cB cI cJ cZ v_5 v_6 v_7 v_8 v_9 v_10 v_11 v_12 v_13 v_14 v_15 v_16 v_17 v_18 v_19 y12) rfl rfl (gIV ml_X6_80 im_X0_slotIn sl_X0_slotIn in_X0 cd_X0_slotIn) rfl eX0_slotIn rfl ⟨rfl, rfl⟩ ⟨Nat.le_of_ble_eq_true rfl, Nat.le_of_ble_eq_true rfl⟩ rfl rfl rfl [1] rfl rfl rfl (Nat.le_of_ble_eq_true rfl) (tdec DX6_writePlace 31 rfl) rfl ?_
      refine g_istore (L' := [(5, .int r11), (0, .ref v_0), (1, .int v1), (2, .int v2), (3, .long v3), (6, .int v6)]) C (tdec DX6_writePlace 32 rfl) (by decide) rfl rfl ?_
      refine g_iinc (z := 5) (v := (v6 + (-1))) (L' := [(6, .int (v6 + (-1))), (5, .int r11), (0, .ref v_0), (1, .int v1), (2, .int v2), (3, .long v3)]) C (tdec DX6_writePlace 33 rfl) rfl rfl (by decide) rfl rfl ?_
      refine g_goto (pt := 25) C (tdec DX6_writePlace 34 rfl) (by decide) ?_
      refine g_sub (L' := [(0, .ref v_0), (1, .int v1), (2, .int v2), (3, .long v3), (5, .int r11), (6, .int (v6 + (-1)))]) [2, 3, 4, 5, 1, 0] rfl ?_
      exact ih9 _ _ _ hF
set_option maxHeartbeats 4000000 in
set_option maxRecDepth 100000 in
theorem c_X6_writePlace (l : Launch) (D : va_G) (cB cI cJ cZ : ClassId) (v_0 v_1 v_2 v_3 v_4 v_5 v_6 v_7 v_8 v_9 v_10 v_11 v_12 v_13 v_14 v_15 v_16 v_17 v_18 v_19 : Nat) {v0 : VS} {p1 : Int32} {p2 : Int32} {p3 : Int64} {res : Int32 × VS} (hF : FX6_writePlace v0 p1 p2 p3 = some res) : gMi l yX6_writePlace wsX6_writePlace rX6_writePlace D (gT cB cI cJ cZ) [.ref v_0, .int p1, .int p2, .long p3] (wV cI cJ v_0 v_1 v_2 v_3 v_4 v_5 v_6 v_7 v_8 v_9 v_10 v_11 v_12 v_13 v_14 v_15 v_16 v_17 v_18 v_19 v0) res.1 (wV cI cJ v_0 v_1 v_2 v_3 v_4 v_5 v_6 v_7 v_8 v_9 v_10 v_11 v_12 v_13 v_14 v_15 v_16 v_17 v_18 v_19 res.2) := by
  refine g_enter (own := RX6) (free := (fun sz => va_A (wV cI cJ v_0 v_1 v_2 v_3 v_4 v_5 v_6 v_7 v_8 v_9 v_10 v_11 v_12 v_13 v_14 v_15 v_16 v_17 v_18 v_19 v0) sz)) (Qc := (fun sz => gQi D (wV cI cJ v_0 v_1 v_2 v_3 v_4 v_5 v_6 v_7 v_8 v_9 v_10 v_11 v_12 v_13 v_14 v_15 v_16 v_17 v_18 v_19 v0) sz res.1 (wV cI cJ v_0 v_1 v_2 v_3 v_4 v_5 v_6 v_7 v_8 v_9 v_10 v_11 v_12 v_13 v_14 v_15 v_16 v_17 v_18 v_19 res.2))) (fun sz => va_A (wV cI cJ v_0 v_1 v_2 v_3 v_4 v_5 v_6 v_7 v_8 v_9 v_10 v_11 v_12 v_13 v_14 v_15 v_16 v_17 v_18 v_19 v0) sz) (fun sz => Or.inr rfl) rfl (by decide) rfl (Nat.le_of_ble_eq_true rfl) rfl ?_
  intro p e s m args below meth c C
  unfold FX6_writePlace at hF
  refine g_aload_n (z := 0) C (tdec DX6_writePlace 0 rfl) rfl rfl rfl ?_
  refine g_iload_n (z := 1) C (tdec DX6_writePlace 1 rfl) rfl rfl rfl ?_
  refine g_iload_n (z := 2) C (tdec DX6_writePlace 2 rfl) rfl rfl rfl ?_
  refine g_iconst (v := 0) C (tdec DX6_writePlace 3 rfl) (by decide) rfl ?_
  obtain ⟨r1, y2, hF⟩ := o_bind hF
  refine g_callViRS (q0 := 0) (S := [wV cI cJ v_0 v_1 v_2 v_3 v_4 v_5 v_6 v_7 v_8 v_9 v_10 v_11 v_12 v_13 v_14 v_15 v_16 v_17 v_18 v_19 v0]) (S0 := [wV cI cJ v_0 v_1 v_2 v_3 v_4 v_5 v_6 v_7 v_8 v_9 v_10 v_11 v_12 v_13 v_14 v_15 v_16 v_17 v_18 v_19 v0]) C (c_X6_newBlocksWanted l D cB cI cJ cZ v_0 v_1 v_2 v_3 v_4 v_5 v_6 v_7 v_8 v_9 v_10 v_11 v_12 v_13 v_14 v_15 v_16 v_17 v_18 v_19 y2) rfl rfl (gIV ml_X6_69 im_X6_newBlocksWanted sl_X6_newBlocksWanted in_X6 cd_X6_newBlocksWanted) rfl eX6_newBlocksWanted rfl ⟨rfl, rfl⟩ ⟨Nat.le_of_ble_eq_true rfl, Nat.le_of_ble_eq_true rfl⟩ rfl rfl rfl [0] rfl rfl rfl (Nat.le_of_ble_eq_true rfl) (tdec DX6_writePlace 4 rfl) rfl ?_
  refine g_aload_n (z := 0) C (tdec DX6_writePlace 5 rfl) rfl rfl rfl ?_
  refine g_getf (C' := RX6) (T := TX6) (N := 6) (v := .ref v_5) C 0 0 (gIn iw_X6) rfl rfl (by decide) (gMem fl_X6_12) rfl rfl (tdec DX6_writePlace 6 rfl) rfl ?_
  obtain ⟨r3, y4, hF⟩ := o_bind hF
  refine g_callViRS (q0 := 5) (S := [wV0 cI cJ v_0 v_1 v_2 v_3 v_4 v_5 v0, wB cI cJ v_5 v_6 v_7 v_8 v_9 v_10 v_11 v_12 v_13 v_14 v_15 v_16 v_17 v_18 v_19 (VS_b v0)]) (S0 := [wB cI cJ v_5 v_6 v_7 v_8 v_9 v_10 v_11 v_12 v_13 v_14 v_15 v_16 v_17 v_18 v_19 (VS_b v0)]) C (c_X0_free l D cB cI cJ cZ v_5 v_6 v_7 v_8 v_9 v_10 v_11 v_12 v_13 v_14 v_15 v_16 v_17 v_18 v_19 y4) rfl rfl (gIV ml_X6_72 im_X0_free sl_X0_free in_X0 cd_X0_free) rfl eX0_free rfl ⟨rfl, rfl⟩ ⟨Nat.le_of_ble_eq_true rfl, Nat.le_of_ble_eq_true rfl⟩ rfl rfl rfl [1] rfl rfl rfl (Nat.le_of_ble_eq_true rfl) (tdec DX6_writePlace 7 rfl) rfl ?_
  refine g_icmp_le (pt := 19) C (tdec DX6_writePlace 8 rfl) (by decide) rfl (fun h5 => ?_) (fun h5 => ?_)
  · have hF := o_ifp hF h5
    refine g_iload_n (z := 1) C (tdec DX6_writePlace 11 rfl) rfl rfl rfl ?_
    refine g_istore (L' := [(5, .int p1), (0, .ref v_0), (1, .int p1), (2, .int p2), (3, .long p3)]) C (tdec DX6_writePlace 12 rfl) (by decide) rfl rfl ?_
    refine g_iconst (v := 3) C (tdec DX6_writePlace 13 rfl) (by decide) rfl ?_
    refine g_istore (L' := [(6, .int 3), (5, .int p1), (0, .ref v_0), (1, .int p1), (2, .int p2), (3, .long p3)]) C (tdec DX6_writePlace 14 rfl) (by decide) rfl rfl ?_
    refine g_sub (L' := [(0, .ref v_0), (1, .int p1), (2, .int p2), (3, .long p3), (5, .int p1), (6, .int 3)]) [2, 3, 4, 5, 1, 0] rfl ?_
    refine c_FX6_writePlace_L25 C (fun vq13 w5_13 w6_13 hF => ?_) 100000 _ _ _ hF
    refine g_aload_n (z := 0) C (tdec DX6_writePlace 35 rfl) rfl rfl rfl ?_
    refine g_getf (C' := RX6) (T := TX6) (N := 6) (v := .ref v_5) C 0 0 (gIn iw_X6) rfl rfl (by decide) (gMem fl_X6_12) rfl rfl (tdec DX6_writePlace 36 rfl) rfl ?_
    refine g_iload (z := 4) C (tdec DX6_writePlace 37 rfl) rfl rfl ?_
    refine g_iconst (v := 0) C (tdec DX6_writePlace 38 rfl) (by decide) rfl ?_
    refine g_aload_n (z := 0) C (tdec DX6_writePlace 39 rfl) rfl rfl rfl ?_
    refine g_getf (C' := RX6) (T := TX6) (N := 6) (v := .int (VS_gen vq13)) C 0 3 (gIn iw_X6) rfl rfl (by decide) (gMem fl_X6_38) rfl rfl (tdec DX6_writePlace 40 rfl) rfl ?_
    obtain ⟨s14, y15, hF⟩ := o_bind hF
    refine g_callVvMS (q0 := 5) (W' := wV cI cJ v_0 v_1 v_2 v_3 v_4 v_5 v_6 v_7 v_8 v_9 v_10 v_11 v_12 v_13 v_14 v_15 v_16 v_17 v_18 v_19 (VS_setb vq13 s14)) (S := [wV0 cI cJ v_0 v_1 v_2 v_3 v_4 v_5 vq13, wB cI cJ v_5 v_6 v_7 v_8 v_9 v_10 v_11 v_12 v_13 v_14 v_15 v_16 v_17 v_18 v_19 (VS_b vq13)]) (S0 := [wB cI cJ v_5 v_6 v_7 v_8 v_9 v_10 v_11 v_12 v_13 v_14 v_15 v_16 v_17 v_18 v_19 (VS_b vq13)]) (S1 := [wB cI cJ v_5 v_6 v_7 v_8 v_9 v_10 v_11 v_12 v_13 v_14 v_15 v_16 v_17 v_18 v_19 s14]) (S' := [wV0 cI cJ v_0 v_1 v_2 v_3 v_4 v_5 (VS_setb vq13 s14), wB cI cJ v_5 v_6 v_7 v_8 v_9 v_10 v_11 v_12 v_13 v_14 v_15 v_16 v_17 v_18 v_19 s14]) C (c_X0_renew l D cB cI cJ cZ v_5 v_6 v_7 v_8 v_9 v_10 v_11 v_12 v_13 v_14 v_15 v_16 v_17 v_18 v_19 y15) rfl rfl (gIV ml_X6_76 im_X0_renew sl_X0_renew in_X0 cd_X0_renew) rfl eX0_renew rfl ⟨rfl, rfl⟩ ⟨Nat.le_of_ble_eq_true rfl, Nat.le_of_ble_eq_true rfl⟩ rfl rfl rfl [1] rfl rfl rfl rfl (gA_cons aB gA_nil) rfl rfl (Nat.le_of_ble_eq_true rfl) (tdec DX6_writePlace 41 rfl) rfl ?_
    refine g_aload_n (z := 0) C (tdec DX6_writePlace 42 rfl) rfl rfl rfl ?_
    refine g_getf (C' := RX6) (T := TX6) (N := 6) (v := .ref v_5) C 0 0 (gIn iw_X6) rfl rfl (by decide) (gMem fl_X6_12) rfl rfl (tdec DX6_writePlace 43 rfl) rfl ?_
    refine g_aload_n (z := 0) C (tdec DX6_writePlace 44 rfl) rfl rfl rfl ?_
    refine g_getf (C' := RX6) (T := TX6) (N := 6) (v := .ref v_5) C 0 0 (gIn iw_X6) rfl rfl (by decide) (gMem fl_X6_12) rfl rfl (tdec DX6_writePlace 45 rfl) rfl ?_
    refine g_iload (z := 4) C (tdec DX6_writePlace 46 rfl) rfl rfl ?_
    obtain ⟨r16, y17, hF⟩ := o_bind hF
    refine g_callViRS (q0 := 5) (S := [wV0 cI cJ v_0 v_1 v_2 v_3 v_4 v_5 (VS_setb vq13 s14), wB cI cJ v_5 v_6 v_7 v_8 v_9 v_10 v_11 v_12 v_13 v_14 v_15 v_16 v_17 v_18 v_19 s14]) (S0 := [wB cI cJ v_5 v_6 v_7 v_8 v_9 v_10 v_11 v_12 v_13 v_14 v_15 v_16 v_17 v_18 v_19 s14]) C (c_X0_told l D cB cI cJ cZ v_5 v_6 v_7 v_8 v_9 v_10 v_11 v_12 v_13 v_14 v_15 v_16 v_17 v_18 v_19 y17) rfl rfl (gIV ml_X6_63 im_X0_told sl_X0_told in_X0 cd_X0_told) rfl eX0_told rfl ⟨rfl, rfl⟩ ⟨Nat.le_of_ble_eq_true rfl, Nat.le_of_ble_eq_true rfl⟩ rfl rfl rfl [1] rfl rfl rfl (Nat.le_of_ble_eq_true rfl) (tdec DX6_writePlace 47 rfl) rfl ?_
    refine g_lload_n (z := 3) C (tdec DX6_writePlace 48 rfl) rfl rfl rfl ?_
    obtain ⟨s18, y19, hF⟩ := o_bind hF
    refine g_callVvMS (q0 := 5) (W' := wV cI cJ v_0 v_1 v_2 v_3 v_4 v_5 v_6 v_7 v_8 v_9 v_10 v_11 v_12 v_13 v_14 v_15 v_16 v_17 v_18 v_19 (VS_setb (VS_setb vq13 s14) s18)) (S := [wV0 cI cJ v_0 v_1 v_2 v_3 v_4 v_5 (VS_setb vq13 s14), wB cI cJ v_5 v_6 v_7 v_8 v_9 v_10 v_11 v_12 v_13 v_14 v_15 v_16 v_17 v_18 v_19 s14]) (S0 := [wB cI cJ v_5 v_6 v_7 v_8 v_9 v_10 v_11 v_12 v_13 v_14 v_15 v_16 v_17 v_18 v_19 s14]) (S1 := [wB cI cJ v_5 v_6 v_7 v_8 v_9 v_10 v_11 v_12 v_13 v_14 v_15 v_16 v_17 v_18 v_19 s18]) (S' := [wV0 cI cJ v_0 v_1 v_2 v_3 v_4 v_5 (VS_setb (VS_setb vq13 s14) s18), wB cI cJ v_5 v_6 v_7 v_8 v_9 v_10 v_11 v_12 v_13 v_14 v_15 v_16 v_17 v_18 v_19 s18]) C (c_X0_putNumber l D cB cI cJ cZ v_5 v_6 v_7 v_8 v_9 v_10 v_11 v_12 v_13 v_14 v_15 v_16 v_17 v_18 v_19 y19) rfl rfl (gIV ml_X6_84 im_X0_putNumber sl_X0_putNumber in_X0 cd_X0_putNumber) rfl eX0_putNumber rfl ⟨rfl, rfl⟩ ⟨Nat.le_of_ble_eq_true rfl, Nat.le_of_ble_eq_true rfl⟩ rfl rfl rfl [1] rfl rfl rfl rfl (gA_cons aB gA_nil) rfl rfl (Nat.le_of_ble_eq_true rfl) (tdec DX6_writePlace 49 rfl) rfl ?_
    refine g_iconst (v := 1) C (tdec DX6_writePlace 50 rfl) (by decide) rfl ?_
    have hr9 := o_some hF
    subst hr9
    exact g_zret C rfl rfl rfl (tdec DX6_writePlace 51 rfl)
  · have hF := o_ifn hF h5
    refine g_iconst (v := 0) C (tdec DX6_writePlace 9 rfl) (by decide) rfl ?_
    have hr9 := o_some hF
    subst hr9
    exact g_zret C rfl rfl rfl (tdec DX6_writePlace 10 rfl)
def FX6_slotToLevel_L6 (v0 : VS) (v1 : Int32) (v2 : Int32) (v3 : Int32) (k9 : Int32 → Int32 → Option (Int32)) : Nat → Int32 → Int32 → Option (Int32)
  | 0, _, _ => none
  | n9 + 1, v4, v5 =>
    if v5 ≤ v3 then
      k9 v4 v5
    else
      (FX0_told (VS_b v0) v4).bind fun r2 =>
      (FX0_slotIn (VS_b v0) r2 v2).bind fun r4 =>
      FX6_slotToLevel_L6 v0 v1 v2 v3 k9 n9 r4 (v5 + (-1))
def FX6_slotToLevel (v0 : VS) (p1 : Int32) (p2 : Int32) (p3 : Int32) : Option (Int32) :=
  FX6_slotToLevel_L6 v0 p1 p2 p3 (fun w4_6 w5_6 =>
    some w4_6) 100000 p1 3
def rX6_slotToLevel : Room := { frames := 2, cells := 0, slots := 0, locals := 44 }
set_option maxHeartbeats 4000000 in
set_option maxRecDepth 100000 in
theorem c_FX6_slotToLevel_L6 {p : Program} {l : Launch} {e : Env} {s : State} {m : MethodId} {args : Array Value} {below : List Frame} {meth : Method} {c : Code} {D : va_G} {cB cI cJ cZ : ClassId} {v_0 v_1 v_2 v_3 v_4 v_5 v_6 v_7 v_8 v_9 v_10 v_11 v_12 v_13 v_14 v_15 v_16 v_17 v_18 v_19 : Nat} {v0 : VS} {res : Int32} (C : gC p s m args meth c cX6_slotToLevel 6 RX6 wsX6_slotToLevel D (gT cB cI cJ cZ) (some .int) (fun _ => False)) {v1 : Int32} {v2 : Int32} {v3 : Int32} {k9 : Int32 → Int32 → Option (Int32)} (hk9 : ∀ (v4 : Int32) (v5 : Int32), k9 v4 v5 = some res → gG p l e (headSpec wsX6_slotToLevel rX6_slotToLevel).room s m args below meth c 0 0 D (fun _ => True) (fun _ => False) 6 (MQ below (gRQi res) args s 0 0 (fun _ => False)) (wV cI cJ v_0 v_1 v_2 v_3 v_4 v_5 v_6 v_7 v_8 v_9 v_10 v_11 v_12 v_13 v_14 v_15 v_16 v_17 v_18 v_19 v0) 37 [(0, .ref v_0), (1, .int v1), (2, .int v2), (3, .int v3), (4, .int v4), (5, .int v5)] []) :
    ∀ (n9 : Nat) (v4 : Int32) (v5 : Int32), FX6_slotToLevel_L6 v0 v1 v2 v3 k9 n9 v4 v5 = some res → gG p l e (headSpec wsX6_slotToLevel rX6_slotToLevel).room s m args below meth c 0 0 D (fun _ => True) (fun _ => False) 6 (MQ below (gRQi res) args s 0 0 (fun _ => False)) (wV cI cJ v_0 v_1 v_2 v_3 v_4 v_5 v_6 v_7 v_8 v_9 v_10 v_11 v_12 v_13 v_14 v_15 v_16 v_17 v_18 v_19 v0) 6 [(0, .ref v_0), (1, .int v1), (2, .int v2), (3, .int v3), (4, .int v4), (5, .int v5)] [] := by
  intro n9
  induction n9 with
  | zero =>
    intro v4 v5 hF
    exact absurd hF (by simp [FX6_slotToLevel_L6])
  | succ n9 ih9 =>
    intro v4 v5 hF
    rw [FX6_slotToLevel_L6] at hF
    refine g_iload (z := 5) C (tdec DX6_slotToLevel 4 rfl) rfl rfl ?_
    refine g_iload_n (z := 3) C (tdec DX6_slotToLevel 5 rfl) rfl rfl rfl ?_
    refine g_icmp_le (pt := 37) C (tdec DX6_slotToLevel 6 rfl) (by decide) rfl (fun h1 => ?_) (fun h1 => ?_)
    · have hF := o_ifp hF h1
      refine g_sub (L' := [(0, .ref v_0), (1, .int v1), (2, .int v2), (3, .int v3), (4, .int v4), (5, .int v5)]) [0, 1, 2, 3, 4, 5] rfl ?_
      exact hk9 _ _ hF
    · have hF := o_ifn hF h1
      refine g_aload_n (z := 0) C (tdec DX6_slotToLevel 7 rfl) rfl rfl rfl ?_
      refine g_getf (C' := RX6) (T := TX6) (N := 6) (v := .ref v_5) C 0 0 (gIn iw_X6) rfl rfl (by decide) (gMem fl_X6_12) rfl rfl (tdec DX6_slotToLevel 8 rfl) rfl ?_
      refine g_aload_n (z := 0) C (tdec DX6_slotToLevel 9 rfl) rfl rfl rfl ?_
      refine g_getf (C' := RX6) (T := TX6) (N := 6) (v := .ref v_5) C 0 0 (gIn iw_X6) rfl rfl (by decide) (gMem fl_X6_12) rfl rfl (tdec DX6_slotToLevel 10 rfl) rfl ?_
      refine g_iload (z := 4) C (tdec DX6_slotToLevel 11 rfl) rfl rfl ?_
      obtain ⟨r2, y3, hF⟩ := o_bind hF
      refine g_callViRS (q0 := 5) (S := [wV0 cI cJ v_0 v_1 v_2 v_3 v_4 v_5 v0, wB cI cJ v_5 v_6 v_7 v_8 v_9 v_10 v_11 v_12 v_13 v_14 v_15 v_16 v_17 v_18 v_19 (VS_b v0)]) (S0 := [wB cI cJ v_5 v_6 v_7 v_8 v_9 v_10 v_11 v_12 v_13 v_14 v_15 v_16 v_17 v_18 v_19 (VS_b v0)]) C (c_X0_told l D cB cI cJ cZ v_5 v_6 v_7 v_8 v_9 v_10 v_11 v_12 v_13 v_14 v_15 v_16 v_17 v_18 v_19 y3) rfl rfl (gIV ml_X6_63 im_X0_told sl_X0_told in_X0 cd_X0_told) rfl eX0_told rfl ⟨rfl, rfl⟩ ⟨Nat.le_of_ble_eq_true rfl, Nat.le_of_ble_eq_true rfl⟩ rfl rfl rfl [1] rfl rfl rfl (Nat.le_of_ble_eq_true rfl) (tdec DX6_slotToLevel 12 rfl) rfl ?_
      refine g_iload_n (z := 2) C (tdec DX6_slotToLevel 13 rfl) rfl rfl rfl ?_
      obtain ⟨r4, y5, hF⟩ := o_bind hF
      refine g_callViRS (q0 := 5) (S := [wV0 cI cJ v_0 v_1 v_2 v_3 v_4 v_5 v0, wB cI cJ v_5 v_6 v_7 v_8 v_9 v_10 v_11 v_12 v_13 v_14 v_15 v_16 v_17 v_18 v_19 (VS_b v0)]) (S0 := [wB cI cJ v_5 v_6 v_7 v_8 v_9 v_10 v_11 v_12 v_13 v_14 v_15 v_16 v_17 v_18 v_19 (VS_b v0)]) C (c_X0_slotIn l D cB cI cJ cZ v_5 v_6 v_7 v_8 v_9 v_10 v_11 v_12 v_13 v_14 v_15 v_16 v_17 v_18 v_19 y5) rfl rfl (gIV ml_X6_80 im_X0_slotIn sl_X0_slotIn in_X0 cd_X0_slotIn) rfl eX0_slotIn rfl ⟨rfl, rfl⟩ ⟨Nat.le_of_ble_eq_true rfl, Nat.le_of_ble_eq_true rfl⟩ rfl rfl rfl [1] rfl rfl rfl (Nat.le_of_ble_eq_true rfl) (tdec DX6_slotToLevel 14 rfl) rfl ?_
      refine g_istore (L' := [(4, .int r4), (0, .ref v_0), (1, .int v1), (2, .int v2), (3, .int v3), (5, .int v5)]) C (tdec DX6_slotToLevel 15 rfl) (by decide) rfl rfl ?_
      refine g_iinc (z := 5) (v := (v5 + (-1))) (L' := [(5, .int (v5 + (-1))), (4, .int r4), (0, .ref v_0), (1, .int v1), (2, .int v2), (3, .int v3)]) C (tdec DX6_slotToLevel 16 rfl) rfl rfl (by decide) rfl rfl ?_
      refine g_goto (pt := 6) C (tdec DX6_slotToLevel 17 rfl) (by decide) ?_
      refine g_sub (L' := [(0, .ref v_0), (1, .int v1), (2, .int v2), (3, .int v3), (4, .int r4), (5, .int (v5 + (-1)))]) [2, 3, 4, 5, 1, 0] rfl ?_
      exact ih9 _ _ hF
set_option maxHeartbeats 4000000 in
set_option maxRecDepth 100000 in
theorem c_X6_slotToLevel (l : Launch) (D : va_G) (cB cI cJ cZ : ClassId) (v_0 v_1 v_2 v_3 v_4 v_5 v_6 v_7 v_8 v_9 v_10 v_11 v_12 v_13 v_14 v_15 v_16 v_17 v_18 v_19 : Nat) {v0 : VS} {p1 : Int32} {p2 : Int32} {p3 : Int32} {res : Int32} (hF : FX6_slotToLevel v0 p1 p2 p3 = some res) : gRi l yX6_slotToLevel wsX6_slotToLevel rX6_slotToLevel D (gT cB cI cJ cZ) [.ref v_0, .int p1, .int p2, .int p3] (wV cI cJ v_0 v_1 v_2 v_3 v_4 v_5 v_6 v_7 v_8 v_9 v_10 v_11 v_12 v_13 v_14 v_15 v_16 v_17 v_18 v_19 v0) res := by
  refine g_enter (own := RX6) (free := (fun _ _ => False)) (Qc := (fun sz => gRQi res)) (fun _ _ => True) (fun sz => Or.inl rfl) rfl (by decide) rfl (Nat.le_of_ble_eq_true rfl) rfl ?_
  intro p e s m args below meth c C
  unfold FX6_slotToLevel at hF
  refine g_iload_n (z := 1) C (tdec DX6_slotToLevel 0 rfl) rfl rfl rfl ?_
  refine g_istore (L' := [(4, .int p1), (0, .ref v_0), (1, .int p1), (2, .int p2), (3, .int p3)]) C (tdec DX6_slotToLevel 1 rfl) (by decide) rfl rfl ?_
  refine g_iconst (v := 3) C (tdec DX6_slotToLevel 2 rfl) (by decide) rfl ?_
  refine g_istore (L' := [(5, .int 3), (4, .int p1), (0, .ref v_0), (1, .int p1), (2, .int p2), (3, .int p3)]) C (tdec DX6_slotToLevel 3 rfl) (by decide) rfl rfl ?_
  refine g_sub (L' := [(0, .ref v_0), (1, .int p1), (2, .int p2), (3, .int p3), (4, .int p1), (5, .int 3)]) [2, 3, 4, 5, 1, 0] rfl ?_
  refine c_FX6_slotToLevel_L6 C (fun w4_6 w5_6 hF => ?_) 100000 _ _ hF
  refine g_iload (z := 4) C (tdec DX6_slotToLevel 18 rfl) rfl rfl ?_
  have hr9 := o_some hF
  subst hr9
  exact g_iretR C rfl (tdec DX6_slotToLevel 19 rfl)
def FX6_makeHoleIfEmpty (v0 : VS) (p1 : Int32) : Option (VS) :=
  (FX0_told (VS_b v0) p1).bind fun r1 =>
  (FX0_hasOnlyHoles (VS_b v0) r1).bind fun r3 =>
  if r3 = 0 then
    some v0
  else
    (FX0_point (VS_b v0) p1 (-1) (VS_gen v0)).bind fun s6 =>
    some (VS_setb v0 s6)
def rX6_makeHoleIfEmpty : Room := { frames := 2, cells := 0, slots := 0, locals := 46 }
set_option maxHeartbeats 4000000 in
set_option maxRecDepth 100000 in
theorem c_X6_makeHoleIfEmpty (l : Launch) (D : va_G) (cB cI cJ cZ : ClassId) (v_0 v_1 v_2 v_3 v_4 v_5 v_6 v_7 v_8 v_9 v_10 v_11 v_12 v_13 v_14 v_15 v_16 v_17 v_18 v_19 : Nat) {v0 : VS} {p1 : Int32} {res : VS} (hF : FX6_makeHoleIfEmpty v0 p1 = some res) : gMv l yX6_makeHoleIfEmpty wsX6_makeHoleIfEmpty rX6_makeHoleIfEmpty D (gT cB cI cJ cZ) [.ref v_0, .int p1] (wV cI cJ v_0 v_1 v_2 v_3 v_4 v_5 v_6 v_7 v_8 v_9 v_10 v_11 v_12 v_13 v_14 v_15 v_16 v_17 v_18 v_19 v0) (wV cI cJ v_0 v_1 v_2 v_3 v_4 v_5 v_6 v_7 v_8 v_9 v_10 v_11 v_12 v_13 v_14 v_15 v_16 v_17 v_18 v_19 res) := by
  refine g_enter (own := RX6) (free := (fun sz => va_A (wV cI cJ v_0 v_1 v_2 v_3 v_4 v_5 v_6 v_7 v_8 v_9 v_10 v_11 v_12 v_13 v_14 v_15 v_16 v_17 v_18 v_19 v0) sz)) (Qc := (fun sz => gQv D (wV cI cJ v_0 v_1 v_2 v_3 v_4 v_5 v_6 v_7 v_8 v_9 v_10 v_11 v_12 v_13 v_14 v_15 v_16 v_17 v_18 v_19 v0) sz (wV cI cJ v_0 v_1 v_2 v_3 v_4 v_5 v_6 v_7 v_8 v_9 v_10 v_11 v_12 v_13 v_14 v_15 v_16 v_17 v_18 v_19 res))) (fun sz => va_A (wV cI cJ v_0 v_1 v_2 v_3 v_4 v_5 v_6 v_7 v_8 v_9 v_10 v_11 v_12 v_13 v_14 v_15 v_16 v_17 v_18 v_19 v0) sz) (fun sz => Or.inr rfl) rfl (by decide) rfl (Nat.le_of_ble_eq_true rfl) rfl ?_
  intro p e s m args below meth c C
  unfold FX6_makeHoleIfEmpty at hF
  refine g_aload_n (z := 0) C (tdec DX6_makeHoleIfEmpty 0 rfl) rfl rfl rfl ?_
  refine g_getf (C' := RX6) (T := TX6) (N := 6) (v := .ref v_5) C 0 0 (gIn iw_X6) rfl rfl (by decide) (gMem fl_X6_12) rfl rfl (tdec DX6_makeHoleIfEmpty 1 rfl) rfl ?_
  refine g_aload_n (z := 0) C (tdec DX6_makeHoleIfEmpty 2 rfl) rfl rfl rfl ?_
  refine g_getf (C' := RX6) (T := TX6) (N := 6) (v := .ref v_5) C 0 0 (gIn iw_X6) rfl rfl (by decide) (gMem fl_X6_12) rfl rfl (tdec DX6_makeHoleIfEmpty 3 rfl) rfl ?_
  refine g_iload_n (z := 1) C (tdec DX6_makeHoleIfEmpty 4 rfl) rfl rfl rfl ?_
  obtain ⟨r1, y2, hF⟩ := o_bind hF
  refine g_callViRS (q0 := 5) (S := [wV0 cI cJ v_0 v_1 v_2 v_3 v_4 v_5 v0, wB cI cJ v_5 v_6 v_7 v_8 v_9 v_10 v_11 v_12 v_13 v_14 v_15 v_16 v_17 v_18 v_19 (VS_b v0)]) (S0 := [wB cI cJ v_5 v_6 v_7 v_8 v_9 v_10 v_11 v_12 v_13 v_14 v_15 v_16 v_17 v_18 v_19 (VS_b v0)]) C (c_X0_told l D cB cI cJ cZ v_5 v_6 v_7 v_8 v_9 v_10 v_11 v_12 v_13 v_14 v_15 v_16 v_17 v_18 v_19 y2) rfl rfl (gIV ml_X6_63 im_X0_told sl_X0_told in_X0 cd_X0_told) rfl eX0_told rfl ⟨rfl, rfl⟩ ⟨Nat.le_of_ble_eq_true rfl, Nat.le_of_ble_eq_true rfl⟩ rfl rfl rfl [1] rfl rfl rfl (Nat.le_of_ble_eq_true rfl) (tdec DX6_makeHoleIfEmpty 5 rfl) rfl ?_
  obtain ⟨r3, y4, hF⟩ := o_bind hF
  refine g_callViRS (q0 := 5) (S := [wV0 cI cJ v_0 v_1 v_2 v_3 v_4 v_5 v0, wB cI cJ v_5 v_6 v_7 v_8 v_9 v_10 v_11 v_12 v_13 v_14 v_15 v_16 v_17 v_18 v_19 (VS_b v0)]) (S0 := [wB cI cJ v_5 v_6 v_7 v_8 v_9 v_10 v_11 v_12 v_13 v_14 v_15 v_16 v_17 v_18 v_19 (VS_b v0)]) C (c_X0_hasOnlyHoles l D cB cI cJ cZ v_5 v_6 v_7 v_8 v_9 v_10 v_11 v_12 v_13 v_14 v_15 v_16 v_17 v_18 v_19 y4) rfl rfl (gIV ml_X6_94 im_X0_hasOnlyHoles sl_X0_hasOnlyHoles in_X0 cd_X0_hasOnlyHoles) rfl eX0_hasOnlyHoles rfl ⟨rfl, rfl⟩ ⟨Nat.le_of_ble_eq_true rfl, Nat.le_of_ble_eq_true rfl⟩ rfl rfl rfl [1] rfl rfl rfl (Nat.le_of_ble_eq_true rfl) (tdec DX6_makeHoleIfEmpty 6 rfl) rfl ?_
  refine g_if_eq (pt := 31) C (tdec DX6_makeHoleIfEmpty 7 rfl) (by decide) rfl (fun h5 => ?_) (fun h5 => ?_)
  · have hF := o_ifp hF h5
    have hr9 := o_some hF
    subst hr9
    exact g_vret C rfl (tdec DX6_makeHoleIfEmpty 15 rfl)
  · have hF := o_ifn hF h5
    refine g_aload_n (z := 0) C (tdec DX6_makeHoleIfEmpty 8 rfl) rfl rfl rfl ?_
    refine g_getf (C' := RX6) (T := TX6) (N := 6) (v := .ref v_5) C 0 0 (gIn iw_X6) rfl rfl (by decide) (gMem fl_X6_12) rfl rfl (tdec DX6_makeHoleIfEmpty 9 rfl) rfl ?_
    refine g_iload_n (z := 1) C (tdec DX6_makeHoleIfEmpty 10 rfl) rfl rfl rfl ?_
    refine g_iconst (v := (-1)) C (tdec DX6_makeHoleIfEmpty 11 rfl) (by decide) rfl ?_
    refine g_aload_n (z := 0) C (tdec DX6_makeHoleIfEmpty 12 rfl) rfl rfl rfl ?_
    refine g_getf (C' := RX6) (T := TX6) (N := 6) (v := .int (VS_gen v0)) C 0 3 (gIn iw_X6) rfl rfl (by decide) (gMem fl_X6_38) rfl rfl (tdec DX6_makeHoleIfEmpty 13 rfl) rfl ?_
    obtain ⟨s6, y7, hF⟩ := o_bind hF
    refine g_callVvMS (q0 := 5) (W' := wV cI cJ v_0 v_1 v_2 v_3 v_4 v_5 v_6 v_7 v_8 v_9 v_10 v_11 v_12 v_13 v_14 v_15 v_16 v_17 v_18 v_19 (VS_setb v0 s6)) (S := [wV0 cI cJ v_0 v_1 v_2 v_3 v_4 v_5 v0, wB cI cJ v_5 v_6 v_7 v_8 v_9 v_10 v_11 v_12 v_13 v_14 v_15 v_16 v_17 v_18 v_19 (VS_b v0)]) (S0 := [wB cI cJ v_5 v_6 v_7 v_8 v_9 v_10 v_11 v_12 v_13 v_14 v_15 v_16 v_17 v_18 v_19 (VS_b v0)]) (S1 := [wB cI cJ v_5 v_6 v_7 v_8 v_9 v_10 v_11 v_12 v_13 v_14 v_15 v_16 v_17 v_18 v_19 s6]) (S' := [wV0 cI cJ v_0 v_1 v_2 v_3 v_4 v_5 (VS_setb v0 s6), wB cI cJ v_5 v_6 v_7 v_8 v_9 v_10 v_11 v_12 v_13 v_14 v_15 v_16 v_17 v_18 v_19 s6]) C (c_X0_point l D cB cI cJ cZ v_5 v_6 v_7 v_8 v_9 v_10 v_11 v_12 v_13 v_14 v_15 v_16 v_17 v_18 v_19 y7) rfl rfl (gIV ml_X6_88 im_X0_point sl_X0_point in_X0 cd_X0_point) rfl eX0_point rfl ⟨rfl, rfl⟩ ⟨Nat.le_of_ble_eq_true rfl, Nat.le_of_ble_eq_true rfl⟩ rfl rfl rfl [1] rfl rfl rfl rfl (gA_cons aB gA_nil) rfl rfl (Nat.le_of_ble_eq_true rfl) (tdec DX6_makeHoleIfEmpty 14 rfl) rfl ?_
    have hr9 := o_some hF
    subst hr9
    exact g_vret C rfl (tdec DX6_makeHoleIfEmpty 15 rfl)
def FX6_clearPlace_L44 (v1 : Int32) (v2 : Int32) (k9 : VS → Int32 → Int32 → Option (Int32 × VS)) : Nat → VS → Int32 → Int32 → Option (Int32 × VS)
  | 0, _, _, _ => none
  | n9 + 1, v, v3, v4 =>
    if v4 ≤ 0 then
      k9 v v3 v4
    else
      (FX0_renew (VS_b v) v3 v4 (VS_gen v)).bind fun s12 =>
      (FX0_told s12 v3).bind fun r14 =>
      (FX0_slotIn s12 r14 v2).bind fun r16 =>
      FX6_clearPlace_L44 v1 v2 k9 n9 (VS_setb v s12) r16 (v4 + (-1))
def FX6_clearPlace_L102 (v1 : Int32) (v2 : Int32) (v3 : Int32) (k9 : VS → Int32 → Option (Int32 × VS)) : Nat → VS → Int32 → Option (Int32 × VS)
  | 0, _, _ => none
  | n9 + 1, v, v4 =>
    if 3 < v4 then
      k9 v v4
    else
      (FX6_slotToLevel v v1 v2 v4).bind fun r22 =>
      (FX6_makeHoleIfEmpty v r22).bind fun s24 =>
      FX6_clearPlace_L102 v1 v2 v3 k9 n9 s24 (v4 + 1)
def FX6_clearPlace (v0 : VS) (p1 : Int32) (p2 : Int32) : Option (Int32 × VS) :=
  (FX6_slotToLevel v0 p1 p2 0).bind fun r1 =>
  (FX0_told (VS_b v0) r1).bind fun r3 =>
  if r3 = (-1) then
    some (1, v0)
  else
    (FX6_newBlocksWanted v0 p1 p2 1).bind fun r6 =>
    (FX0_free (VS_b v0)).bind fun r8 =>
    if r6 ≤ r8 then
      FX6_clearPlace_L44 p1 p2 (fun vq18 w3_18 w4_18 =>
        (FX0_point (VS_b vq18) w3_18 (-1) (VS_gen vq18)).bind fun s19 =>
        FX6_clearPlace_L102 p1 p2 w3_18 (fun vq26 w4_26 =>
          some (1, vq26)) 100000 (VS_setb vq18 s19) 1) 100000 v0 p1 3
    else
      some (0, v0)
def rX6_clearPlace : Room := { frames := 3, cells := 0, slots := 0, locals := 72 }
set_option maxHeartbeats 4000000 in
set_option maxRecDepth 100000 in
theorem c_FX6_clearPlace_L44 {p : Program} {l : Launch} {e : Env} {s : State} {m : MethodId} {args : Array Value} {below : List Frame} {meth : Method} {c : Code} {D : va_G} {cB cI cJ cZ : ClassId} {v_0 v_1 v_2 v_3 v_4 v_5 v_6 v_7 v_8 v_9 v_10 v_11 v_12 v_13 v_14 v_15 v_16 v_17 v_18 v_19 : Nat} {v0 : VS} {res : Int32 × VS} (C : gC p s m args meth c cX6_clearPlace 5 RX6 wsX6_clearPlace D (gT cB cI cJ cZ) (some .boolean) (va_A (wV cI cJ v_0 v_1 v_2 v_3 v_4 v_5 v_6 v_7 v_8 v_9 v_10 v_11 v_12 v_13 v_14 v_15 v_16 v_17 v_18 v_19 v0) s.heap.size)) {v1 : Int32} {v2 : Int32} {k9 : VS → Int32 → Int32 → Option (Int32 × VS)} (hk9 : ∀ (v : VS) (v3 : Int32) (v4 : Int32), k9 v v3 v4 = some res → gG p l e (headSpec wsX6_clearPlace rX6_clearPlace).room s m args below meth c 0 0 D (va_A (wV cI cJ v_0 v_1 v_2 v_3 v_4 v_5 v_6 v_7 v_8 v_9 v_10 v_11 v_12 v_13 v_14 v_15 v_16 v_17 v_18 v_19 v0) s.heap.size) (va_A (wV cI cJ v_0 v_1 v_2 v_3 v_4 v_5 v_6 v_7 v_8 v_9 v_10 v_11 v_12 v_13 v_14 v_15 v_16 v_17 v_18 v_19 v0) s.heap.size) 5 (MQ below (gQi D (wV cI cJ v_0 v_1 v_2 v_3 v_4 v_5 v_6 v_7 v_8 v_9 v_10 v_11 v_12 v_13 v_14 v_15 v_16 v_17 v_18 v_19 v0) s.heap.size res.1 (wV cI cJ v_0 v_1 v_2 v_3 v_4 v_5 v_6 v_7 v_8 v_9 v_10 v_11 v_12 v_13 v_14 v_15 v_16 v_17 v_18 v_19 res.2)) args s 0 0 (va_A (wV cI cJ v_0 v_1 v_2 v_3 v_4 v_5 v_6 v_7 v_8 v_9 v_10 v_11 v_12 v_13 v_14 v_15 v_16 v_17 v_18 v_19 v0) s.heap.size)) (wV cI cJ v_0 v_1 v_2 v_3 v_4 v_5 v_6 v_7 v_8 v_9 v_10 v_11 v_12 v_13 v_14 v_15 v_16 v_17 v_18 v_19 v) 86 [(0, .ref v_0), (1, .int v1), (2, .int v2), (3, .int v3), (4, .int v4)] []) :
    ∀ (n9 : Nat) (v : VS) (v3 : Int32) (v4 : Int32), FX6_clearPlace_L44 v1 v2 k9 n9 v v3 v4 = some res → gG p l e (headSpec wsX6_clearPlace rX6_clearPlace).room s m args below meth c 0 0 D (va_A (wV cI cJ v_0 v_1 v_2 v_3 v_4 v_5 v_6 v_7 v_8 v_9 v_10 v_11 v_12 v_13 v_14 v_15 v_16 v_17 v_18 v_19 v0) s.heap.size) (va_A (wV cI cJ v_0 v_1 v_2 v_3 v_4 v_5 v_6 v_7 v_8 v_9 v_10 v_11 v_12 v_13 v_14 v_15 v_16 v_17 v_18 v_19 v0) s.heap.size) 5 (MQ below (gQi D (wV cI cJ v_0 v_1 v_2 v_3 v_4 v_5 v_6 v_7 v_8 v_9 v_10 v_11 v_12 v_13 v_14 v_15 v_16 v_17 v_18 v_19 v0) s.heap.size res.1 (wV cI cJ v_0 v_1 v_2 v_3 v_4 v_5 v_6 v_7 v_8 v_9 v_10 v_11 v_12 v_13 v_14 v_15 v_16 v_17 v_18 v_19 res.2)) args s 0 0 (va_A (wV cI cJ v_0 v_1 v_2 v_3 v_4 v_5 v_6 v_7 v_8 v_9 v_10 v_11 v_12 v_13 v_14 v_15 v_16 v_17 v_18 v_19 v0) s.heap.size)) (wV cI cJ v_0 v_1 v_2 v_3 v_4 v_5 v_6 v_7 v_8 v_9 v_10 v_11 v_12 v_13 v_14 v_15 v_16 v_17 v_18 v_19 v) 44 [(0, .ref v_0), (1, .int v1), (2, .int v2), (3, .int v3), (4, .int v4)] [] := by
  intro n9
  induction n9 with
  | zero =>
    intro v v3 v4 hF
    exact absurd hF (by simp [FX6_clearPlace_L44])
  | succ n9 ih9 =>
    intro v v3 v4 hF
    rw [FX6_clearPlace_L44] at hF
    refine g_iload (z := 4) C (tdec DX6_clearPlace 27 rfl) rfl rfl ?_
    refine g_if_le (pt := 86) C (tdec DX6_clearPlace 28 rfl) (by decide) rfl (fun h11 => ?_) (fun h11 => ?_)
    · have hF := o_ifp hF h11
      refine g_sub (L' := [(0, .ref v_0), (1, .int v1), (2, .int v2), (3, .int v3), (4, .int v4)]) [0, 1, 2, 3, 4] rfl ?_
      exact hk9 _ _ _ hF
    · have hF := o_ifn hF h11
      refine g_aload_n (z := 0) C (tdec DX6_clearPlace 29 rfl) rfl rfl rfl ?_
      refine g_getf (C' := RX6) (T := TX6) (N := 6) (v := .ref v_5) C 0 0 (gIn iw_X6) rfl rfl (by decide) (gMem fl_X6_12) rfl rfl (tdec DX6_clearPlace 30 rfl) rfl ?_
      refine g_iload_n (z := 3) C (tdec DX6_clearPlace 31 rfl) rfl rfl rfl ?_
      refine g_iload (z := 4) C (tdec DX6_clearPlace 32 rfl) rfl rfl ?_
      refine g_aload_n (z := 0) C (tdec DX6_clearPlace 33 rfl) rfl rfl rfl ?_
      refine g_getf (C' := RX6) (T := TX6) (N := 6) (v := .int (VS_gen v)) C 0 3 (gIn iw_X6) rfl rfl (by decide) (gMem fl_X6_38) rfl rfl (tdec DX6_clearPlace 34 rfl) rfl ?_
      obtain ⟨s12, y13, hF⟩ := o_bind hF
      refine g_callVvMS (q0 := 5) (W' := wV cI cJ v_0 v_1 v_2 v_3 v_4 v_5 v_6 v_7 v_8 v_9 v_10 v_11 v_12 v_13 v_14 v_15 v_16 v_17 v_18 v_19 (VS_setb v s12)) (S := [wV0 cI cJ v_0 v_1 v_2 v_3 v_4 v_5 v, wB cI cJ v_5 v_6 v_7 v_8 v_9 v_10 v_11 v_12 v_13 v_14 v_15 v_16 v_17 v_18 v_19 (VS_b v)]) (S0 := [wB cI cJ v_5 v_6 v_7 v_8 v_9 v_10 v_11 v_12 v_13 v_14 v_15 v_16 v_17 v_18 v_19 (VS_b v)]) (S1 := [wB cI cJ v_5 v_6 v_7 v_8 v_9 v_10 v_11 v_12 v_13 v_14 v_15 v_16 v_17 v_18 v_19 s12]) (S' := [wV0 cI cJ v_0 v_1 v_2 v_3 v_4 v_5 (VS_setb v s12), wB cI cJ v_5 v_6 v_7 v_8 v_9 v_10 v_11 v_12 v_13 v_14 v_15 v_16 v_17 v_18 v_19 s12]) C (c_X0_renew l D cB cI cJ cZ v_5 v_6 v_7 v_8 v_9 v_10 v_11 v_12 v_13 v_14 v_15 v_16 v_17 v_18 v_19 y13) rfl rfl (gIV ml_X6_76 im_X0_renew sl_X0_renew in_X0 cd_X0_renew) rfl eX0_renew rfl ⟨rfl, rfl⟩ ⟨Nat.le_of_ble_eq_true rfl, Nat.le_of_ble_eq_true rfl⟩ rfl rfl rfl [1] rfl rfl rfl rfl (gA_cons aB gA_nil) rfl rfl (Nat.le_of_ble_eq_true rfl) (tdec DX6_clearPlace 35 rfl) rfl ?_
      refine g_aload_n (z := 0) C (tdec DX6_clearPlace 36 rfl) rfl rfl rfl ?_
      refine g_getf (C' := RX6) (T := TX6) (N := 6) (v := .ref v_5) C 0 0 (gIn iw_X6) rfl rfl (by decide) (gMem fl_X6_12) rfl rfl (tdec DX6_clearPlace 37 rfl) rfl ?_
      refine g_aload_n (z := 0) C (tdec DX6_clearPlace 38 rfl) rfl rfl rfl ?_
      refine g_getf (C' := RX6) (T := TX6) (N := 6) (v := .ref v_5) C 0 0 (gIn iw_X6) rfl rfl (by decide) (gMem fl_X6_12) rfl rfl (tdec DX6_clearPlace 39 rfl) rfl ?_
      refine g_iload_n (z := 3) C (tdec DX6_clearPlace 40 rfl) rfl rfl rfl ?_
      obtain ⟨r14, y15, hF⟩ := o_bind hF
      refine g_callViRS (q0 := 5) (S := [wV0 cI cJ v_0 v_1 v_2 v_3 v_4 v_5 (VS_setb v s12), wB cI cJ v_5 v_6 v_7 v_8 v_9 v_10 v_11 v_12 v_13 v_14 v_15 v_16 v_17 v_18 v_19 s12]) (S0 := [wB cI cJ v_5 v_6 v_7 v_8 v_9 v_10 v_11 v_12 v_13 v_14 v_15 v_16 v_17 v_18 v_19 s12]) C (c_X0_told l D cB cI cJ cZ v_5 v_6 v_7 v_8 v_9 v_10 v_11 v_12 v_13 v_14 v_15 v_16 v_17 v_18 v_19 y15) rfl rfl (gIV ml_X6_63 im_X0_told sl_X0_told in_X0 cd_X0_told) rfl eX0_told rfl ⟨rfl, rfl⟩ ⟨Nat.le_of_ble_eq_true rfl, Nat.le_of_ble_eq_true rfl⟩ rfl rfl rfl [1] rfl rfl rfl (Nat.le_of_ble_eq_true rfl) (tdec DX6_clearPlace 41 rfl) rfl ?_
      refine g_iload_n (z := 2) C (tdec DX6_clearPlace 42 rfl) rfl rfl rfl ?_
      obtain ⟨r16, y17, hF⟩ := o_bind hF
      refine g_callViRS (q0 := 5) (S := [wV0 cI cJ v_0 v_1 v_2 v_3 v_4 v_5 (VS_setb v s12), wB cI cJ v_5 v_6 v_7 v_8 v_9 v_10 v_11 v_12 v_13 v_14 v_15 v_16 v_17 v_18 v_19 s12]) (S0 := [wB cI cJ v_5 v_6 v_7 v_8 v_9 v_10 v_11 v_12 v_13 v_14 v_15 v_16 v_17 v_18 v_19 s12]) C (c_X0_slotIn l D cB cI cJ cZ v_5 v_6 v_7 v_8 v_9 v_10 v_11 v_12 v_13 v_14 v_15 v_16 v_17 v_18 v_19 y17) rfl rfl (gIV ml_X6_80 im_X0_slotIn sl_X0_slotIn in_X0 cd_X0_slotIn) rfl eX0_slotIn rfl ⟨rfl, rfl⟩ ⟨Nat.le_of_ble_eq_true rfl, Nat.le_of_ble_eq_true rfl⟩ rfl rfl rfl [1] rfl rfl rfl (Nat.le_of_ble_eq_true rfl) (tdec DX6_clearPlace 43 rfl) rfl ?_
      refine g_istore_n (L' := [(3, .int r16), (0, .ref v_0), (1, .int v1), (2, .int v2), (4, .int v4)]) C (tdec DX6_clearPlace 44 rfl) rfl (by decide) rfl rfl ?_
      refine g_iinc (z := 4) (v := (v4 + (-1))) (L' := [(4, .int (v4 + (-1))), (3, .int r16), (0, .ref v_0), (1, .int v1), (2, .int v2)]) C (tdec DX6_clearPlace 45 rfl) rfl rfl (by decide) rfl rfl ?_
      refine g_goto (pt := 44) C (tdec DX6_clearPlace 46 rfl) (by decide) ?_
      refine g_sub (L' := [(0, .ref v_0), (1, .int v1), (2, .int v2), (3, .int r16), (4, .int (v4 + (-1)))]) [2, 3, 4, 1, 0] rfl ?_
      exact ih9 _ _ _ hF
set_option maxHeartbeats 4000000 in
set_option maxRecDepth 100000 in
theorem c_FX6_clearPlace_L102 {p : Program} {l : Launch} {e : Env} {s : State} {m : MethodId} {args : Array Value} {below : List Frame} {meth : Method} {c : Code} {D : va_G} {cB cI cJ cZ : ClassId} {v_0 v_1 v_2 v_3 v_4 v_5 v_6 v_7 v_8 v_9 v_10 v_11 v_12 v_13 v_14 v_15 v_16 v_17 v_18 v_19 : Nat} {v0 : VS} {res : Int32 × VS} (C : gC p s m args meth c cX6_clearPlace 5 RX6 wsX6_clearPlace D (gT cB cI cJ cZ) (some .boolean) (va_A (wV cI cJ v_0 v_1 v_2 v_3 v_4 v_5 v_6 v_7 v_8 v_9 v_10 v_11 v_12 v_13 v_14 v_15 v_16 v_17 v_18 v_19 v0) s.heap.size)) {v1 : Int32} {v2 : Int32} {v3 : Int32} {k9 : VS → Int32 → Option (Int32 × VS)} (hk9 : ∀ (v : VS) (v4 : Int32), k9 v v4 = some res → gG p l e (headSpec wsX6_clearPlace rX6_clearPlace).room s m args below meth c 0 0 D (va_A (wV cI cJ v_0 v_1 v_2 v_3 v_4 v_5 v_6 v_7 v_8 v_9 v_10 v_11 v_12 v_13 v_14 v_15 v_16 v_17 v_18 v_19 v0) s.heap.size) (va_A (wV cI cJ v_0 v_1 v_2 v_3 v_4 v_5 v_6 v_7 v_8 v_9 v_10 v_11 v_12 v_13 v_14 v_15 v_16 v_17 v_18 v_19 v0) s.heap.size) 5 (MQ below (gQi D (wV cI cJ v_0 v_1 v_2 v_3 v_4 v_5 v_6 v_7 v_8 v_9 v_10 v_11 v_12 v_13 v_14 v_15 v_16 v_17 v_18 v_19 v0) s.heap.size res.1 (wV cI cJ v_0 v_1 v_2 v_3 v_4 v_5 v_6 v_7 v_8 v_9 v_10 v_11 v_12 v_13 v_14 v_15 v_16 v_17 v_18 v_19 res.2)) args s 0 0 (va_A (wV cI cJ v_0 v_1 v_2 v_3 v_4 v_5 v_6 v_7 v_8 v_9 v_10 v_11 v_12 v_13 v_14 v_15 v_16 v_17 v_18 v_19 v0) s.heap.size)) (wV cI cJ v_0 v_1 v_2 v_3 v_4 v_5 v_6 v_7 v_8 v_9 v_10 v_11 v_12 v_13 v_14 v_15 v_16 v_17 v_18 v_19 v) 126 [(0, .ref v_0), (1, .int v1), (2, .int v2), (3, .int v3), (4, .int v4)] []) :
    ∀ (n9 : Nat) (v : VS) (v4 : Int32), FX6_clearPlace_L102 v1 v2 v3 k9 n9 v v4 = some res → gG p l e (headSpec wsX6_clearPlace rX6_clearPlace).room s m args below meth c 0 0 D (va_A (wV cI cJ v_0 v_1 v_2 v_3 v_4 v_5 v_6 v_7 v_8 v_9 v_10 v_11 v_12 v_13 v_14 v_15 v_16 v_17 v_18 v_19 v0) s.heap.size) (va_A (wV cI cJ v_0 v_1 v_2 v_3 v_4 v_5 v_6 v_7 v_8 v_9 v_10 v_11 v_12 v_13 v_14 v_15 v_16 v_17 v_18 v_19 v0) s.heap.size) 5 (MQ below (gQi D (wV cI cJ v_0 v_1 v_2 v_3 v_4 v_5 v_6 v_7 v_8 v_9 v_10 v_11 v_12 v_13 v_14 v_15 v_16 v_17 v_18 v_19 v0) s.heap.size res.1 (wV cI cJ v_0 v_1 v_2 v_3 v_4 v_5 v_6 v_7 v_8 v_9 v_10 v_11 v_12 v_13 v_14 v_15 v_16 v_17 v_18 v_19 res.2)) args s 0 0 (va_A (wV cI cJ v_0 v_1 v_2 v_3 v_4 v_5 v_6 v_7 v_8 v_9 v_10 v_11 v_12 v_13 v_14 v_15 v_16 v_17 v_18 v_19 v0) s.heap.size)) (wV cI cJ v_0 v_1 v_2 v_3 v_4 v_5 v_6 v_7 v_8 v_9 v_10 v_11 v_12 v_13 v_14 v_15 v_16 v_17 v_18 v_19 v) 102 [(0, .ref v_0), (1, .int v1), (2, .int v2), (3, .int v3), (4, .int v4)] [] := by
  intro n9
  induction n9 with
  | zero =>
    intro v v4 hF
    exact absurd hF (by simp [FX6_clearPlace_L102])
  | succ n9 ih9 =>
    intro v v4 hF
    rw [FX6_clearPlace_L102] at hF
    refine g_iload (z := 4) C (tdec DX6_clearPlace 56 rfl) rfl rfl ?_
    refine g_iconst (v := 3) C (tdec DX6_clearPlace 57 rfl) (by decide) rfl ?_
    refine g_icmp_gt (pt := 126) C (tdec DX6_clearPlace 58 rfl) (by decide) rfl (fun h21 => ?_) (fun h21 => ?_)
    · have hF := o_ifp hF h21
      refine g_sub (L' := [(0, .ref v_0), (1, .int v1), (2, .int v2), (3, .int v3), (4, .int v4)]) [0, 1, 2, 3, 4] rfl ?_
      exact hk9 _ _ hF
    · have hF := o_ifn hF h21
      refine g_aload_n (z := 0) C (tdec DX6_clearPlace 59 rfl) rfl rfl rfl ?_
      refine g_aload_n (z := 0) C (tdec DX6_clearPlace 60 rfl) rfl rfl rfl ?_
      refine g_iload_n (z := 1) C (tdec DX6_clearPlace 61 rfl) rfl rfl rfl ?_
      refine g_iload_n (z := 2) C (tdec DX6_clearPlace 62 rfl) rfl rfl rfl ?_
      refine g_iload (z := 4) C (tdec DX6_clearPlace 63 rfl) rfl rfl ?_
      obtain ⟨r22, y23, hF⟩ := o_bind hF
      refine g_callViRS (q0 := 0) (S := [wV cI cJ v_0 v_1 v_2 v_3 v_4 v_5 v_6 v_7 v_8 v_9 v_10 v_11 v_12 v_13 v_14 v_15 v_16 v_17 v_18 v_19 v]) (S0 := [wV cI cJ v_0 v_1 v_2 v_3 v_4 v_5 v_6 v_7 v_8 v_9 v_10 v_11 v_12 v_13 v_14 v_15 v_16 v_17 v_18 v_19 v]) C (c_X6_slotToLevel l D cB cI cJ cZ v_0 v_1 v_2 v_3 v_4 v_5 v_6 v_7 v_8 v_9 v_10 v_11 v_12 v_13 v_14 v_15 v_16 v_17 v_18 v_19 y23) rfl rfl (gIV ml_X6_59 im_X6_slotToLevel sl_X6_slotToLevel in_X6 cd_X6_slotToLevel) rfl eX6_slotToLevel rfl ⟨rfl, rfl⟩ ⟨Nat.le_of_ble_eq_true rfl, Nat.le_of_ble_eq_true rfl⟩ rfl rfl rfl [0] rfl rfl rfl (Nat.le_of_ble_eq_true rfl) (tdec DX6_clearPlace 64 rfl) rfl ?_
      obtain ⟨s24, y25, hF⟩ := o_bind hF
      refine g_callVvMS (q0 := 0) (W' := wV cI cJ v_0 v_1 v_2 v_3 v_4 v_5 v_6 v_7 v_8 v_9 v_10 v_11 v_12 v_13 v_14 v_15 v_16 v_17 v_18 v_19 s24) (S := [wV cI cJ v_0 v_1 v_2 v_3 v_4 v_5 v_6 v_7 v_8 v_9 v_10 v_11 v_12 v_13 v_14 v_15 v_16 v_17 v_18 v_19 v]) (S0 := [wV cI cJ v_0 v_1 v_2 v_3 v_4 v_5 v_6 v_7 v_8 v_9 v_10 v_11 v_12 v_13 v_14 v_15 v_16 v_17 v_18 v_19 v]) (S1 := [wV cI cJ v_0 v_1 v_2 v_3 v_4 v_5 v_6 v_7 v_8 v_9 v_10 v_11 v_12 v_13 v_14 v_15 v_16 v_17 v_18 v_19 s24]) (S' := [wV cI cJ v_0 v_1 v_2 v_3 v_4 v_5 v_6 v_7 v_8 v_9 v_10 v_11 v_12 v_13 v_14 v_15 v_16 v_17 v_18 v_19 s24]) C (c_X6_makeHoleIfEmpty l D cB cI cJ cZ v_0 v_1 v_2 v_3 v_4 v_5 v_6 v_7 v_8 v_9 v_10 v_11 v_12 v_13 v_14 v_15 v_16 v_17 v_18 v_19 y25) rfl rfl (gIV ml_X6_91 im_X6_makeHoleIfEmpty sl_X6_makeHoleIfEmpty in_X6 cd_X6_makeHoleIfEmpty) rfl eX6_makeHoleIfEmpty rfl ⟨rfl, rfl⟩ ⟨Nat.le_of_ble_eq_true rfl, Nat.le_of_ble_eq_true rfl⟩ rfl rfl rfl [0] rfl rfl rfl rfl (gA_cons aV gA_nil) rfl rfl (Nat.le_of_ble_eq_true rfl) (tdec DX6_clearPlace 65 rfl) rfl ?_
      refine g_iinc (z := 4) (v := (v4 + 1)) (L' := [(4, .int (v4 + 1)), (0, .ref v_0), (1, .int v1), (2, .int v2), (3, .int v3)]) C (tdec DX6_clearPlace 66 rfl) rfl rfl (by decide) rfl rfl ?_
      refine g_goto (pt := 102) C (tdec DX6_clearPlace 67 rfl) (by decide) ?_
      refine g_sub (L' := [(0, .ref v_0), (1, .int v1), (2, .int v2), (3, .int v3), (4, .int (v4 + 1))]) [1, 2, 3, 4, 0] rfl ?_
      exact ih9 _ _ hF
set_option maxHeartbeats 4000000 in
set_option maxRecDepth 100000 in
theorem c_X6_clearPlace (l : Launch) (D : va_G) (cB cI cJ cZ : ClassId) (v_0 v_1 v_2 v_3 v_4 v_5 v_6 v_7 v_8 v_9 v_10 v_11 v_12 v_13 v_14 v_15 v_16 v_17 v_18 v_19 : Nat) {v0 : VS} {p1 : Int32} {p2 : Int32} {res : Int32 × VS} (hF : FX6_clearPlace v0 p1 p2 = some res) : gMi l yX6_clearPlace wsX6_clearPlace rX6_clearPlace D (gT cB cI cJ cZ) [.ref v_0, .int p1, .int p2] (wV cI cJ v_0 v_1 v_2 v_3 v_4 v_5 v_6 v_7 v_8 v_9 v_10 v_11 v_12 v_13 v_14 v_15 v_16 v_17 v_18 v_19 v0) res.1 (wV cI cJ v_0 v_1 v_2 v_3 v_4 v_5 v_6 v_7 v_8 v_9 v_10 v_11 v_12 v_13 v_14 v_15 v_16 v_17 v_18 v_19 res.2) := by
  refine g_enter (own := RX6) (free := (fun sz => va_A (wV cI cJ v_0 v_1 v_2 v_3 v_4 v_5 v_6 v_7 v_8 v_9 v_10 v_11 v_12 v_13 v_14 v_15 v_16 v_17 v_18 v_19 v0) sz)) (Qc := (fun sz => gQi D (wV cI cJ v_0 v_1 v_2 v_3 v_4 v_5 v_6 v_7 v_8 v_9 v_10 v_11 v_12 v_13 v_14 v_15 v_16 v_17 v_18 v_19 v0) sz res.1 (wV cI cJ v_0 v_1 v_2 v_3 v_4 v_5 v_6 v_7 v_8 v_9 v_10 v_11 v_12 v_13 v_14 v_15 v_16 v_17 v_18 v_19 res.2))) (fun sz => va_A (wV cI cJ v_0 v_1 v_2 v_3 v_4 v_5 v_6 v_7 v_8 v_9 v_10 v_11 v_12 v_13 v_14 v_15 v_16 v_17 v_18 v_19 v0) sz) (fun sz => Or.inr rfl) rfl (by decide) rfl (Nat.le_of_ble_eq_true rfl) rfl ?_
  intro p e s m args below meth c C
  unfold FX6_clearPlace at hF
  refine g_aload_n (z := 0) C (tdec DX6_clearPlace 0 rfl) rfl rfl rfl ?_
  refine g_getf (C' := RX6) (T := TX6) (N := 6) (v := .ref v_5) C 0 0 (gIn iw_X6) rfl rfl (by decide) (gMem fl_X6_12) rfl rfl (tdec DX6_clearPlace 1 rfl) rfl ?_
  refine g_aload_n (z := 0) C (tdec DX6_clearPlace 2 rfl) rfl rfl rfl ?_
  refine g_iload_n (z := 1) C (tdec DX6_clearPlace 3 rfl) rfl rfl rfl ?_
  refine g_iload_n (z := 2) C (tdec DX6_clearPlace 4 rfl) rfl rfl rfl ?_
  refine g_iconst (v := 0) C (tdec DX6_clearPlace 5 rfl) (by decide) rfl ?_
  obtain ⟨r1, y2, hF⟩ := o_bind hF
  refine g_callViRS (q0 := 0) (S := [wV cI cJ v_0 v_1 v_2 v_3 v_4 v_5 v_6 v_7 v_8 v_9 v_10 v_11 v_12 v_13 v_14 v_15 v_16 v_17 v_18 v_19 v0]) (S0 := [wV cI cJ v_0 v_1 v_2 v_3 v_4 v_5 v_6 v_7 v_8 v_9 v_10 v_11 v_12 v_13 v_14 v_15 v_16 v_17 v_18 v_19 v0]) C (c_X6_slotToLevel l D cB cI cJ cZ v_0 v_1 v_2 v_3 v_4 v_5 v_6 v_7 v_8 v_9 v_10 v_11 v_12 v_13 v_14 v_15 v_16 v_17 v_18 v_19 y2) rfl rfl (gIV ml_X6_59 im_X6_slotToLevel sl_X6_slotToLevel in_X6 cd_X6_slotToLevel) rfl eX6_slotToLevel rfl ⟨rfl, rfl⟩ ⟨Nat.le_of_ble_eq_true rfl, Nat.le_of_ble_eq_true rfl⟩ rfl rfl rfl [0] rfl rfl rfl (Nat.le_of_ble_eq_true rfl) (tdec DX6_clearPlace 6 rfl) rfl ?_
  obtain ⟨r3, y4, hF⟩ := o_bind hF
  refine g_callViRS (q0 := 5) (S := [wV0 cI cJ v_0 v_1 v_2 v_3 v_4 v_5 v0, wB cI cJ v_5 v_6 v_7 v_8 v_9 v_10 v_11 v_12 v_13 v_14 v_15 v_16 v_17 v_18 v_19 (VS_b v0)]) (S0 := [wB cI cJ v_5 v_6 v_7 v_8 v_9 v_10 v_11 v_12 v_13 v_14 v_15 v_16 v_17 v_18 v_19 (VS_b v0)]) C (c_X0_told l D cB cI cJ cZ v_5 v_6 v_7 v_8 v_9 v_10 v_11 v_12 v_13 v_14 v_15 v_16 v_17 v_18 v_19 y4) rfl rfl (gIV ml_X6_63 im_X0_told sl_X0_told in_X0 cd_X0_told) rfl eX0_told rfl ⟨rfl, rfl⟩ ⟨Nat.le_of_ble_eq_true rfl, Nat.le_of_ble_eq_true rfl⟩ rfl rfl rfl [1] rfl rfl rfl (Nat.le_of_ble_eq_true rfl) (tdec DX6_clearPlace 7 rfl) rfl ?_
  refine g_iconst (v := (-1)) C (tdec DX6_clearPlace 8 rfl) (by decide) rfl ?_
  refine g_icmp_ne (pt := 20) C (tdec DX6_clearPlace 9 rfl) (by decide) rfl (fun h5 => ?_) (fun h5 => ?_)
  · have hF := o_ifn hF h5
    refine g_aload_n (z := 0) C (tdec DX6_clearPlace 12 rfl) rfl rfl rfl ?_
    refine g_iload_n (z := 1) C (tdec DX6_clearPlace 13 rfl) rfl rfl rfl ?_
    refine g_iload_n (z := 2) C (tdec DX6_clearPlace 14 rfl) rfl rfl rfl ?_
    refine g_iconst (v := 1) C (tdec DX6_clearPlace 15 rfl) (by decide) rfl ?_
    obtain ⟨r6, y7, hF⟩ := o_bind hF
    refine g_callViRS (q0 := 0) (S := [wV cI cJ v_0 v_1 v_2 v_3 v_4 v_5 v_6 v_7 v_8 v_9 v_10 v_11 v_12 v_13 v_14 v_15 v_16 v_17 v_18 v_19 v0]) (S0 := [wV cI cJ v_0 v_1 v_2 v_3 v_4 v_5 v_6 v_7 v_8 v_9 v_10 v_11 v_12 v_13 v_14 v_15 v_16 v_17 v_18 v_19 v0]) C (c_X6_newBlocksWanted l D cB cI cJ cZ v_0 v_1 v_2 v_3 v_4 v_5 v_6 v_7 v_8 v_9 v_10 v_11 v_12 v_13 v_14 v_15 v_16 v_17 v_18 v_19 y7) rfl rfl (gIV ml_X6_69 im_X6_newBlocksWanted sl_X6_newBlocksWanted in_X6 cd_X6_newBlocksWanted) rfl eX6_newBlocksWanted rfl ⟨rfl, rfl⟩ ⟨Nat.le_of_ble_eq_true rfl, Nat.le_of_ble_eq_true rfl⟩ rfl rfl rfl [0] rfl rfl rfl (Nat.le_of_ble_eq_true rfl) (tdec DX6_clearPlace 16 rfl) rfl ?_
    refine g_aload_n (z := 0) C (tdec DX6_clearPlace 17 rfl) rfl rfl rfl ?_
    refine g_getf (C' := RX6) (T := TX6) (N := 6) (v := .ref v_5) C 0 0 (gIn iw_X6) rfl rfl (by decide) (gMem fl_X6_12) rfl rfl (tdec DX6_clearPlace 18 rfl) rfl ?_
    obtain ⟨r8, y9, hF⟩ := o_bind hF
    refine g_callViRS (q0 := 5) (S := [wV0 cI cJ v_0 v_1 v_2 v_3 v_4 v_5 v0, wB cI cJ v_5 v_6 v_7 v_8 v_9 v_10 v_11 v_12 v_13 v_14 v_15 v_16 v_17 v_18 v_19 (VS_b v0)]) (S0 := [wB cI cJ v_5 v_6 v_7 v_8 v_9 v_10 v_11 v_12 v_13 v_14 v_15 v_16 v_17 v_18 v_19 (VS_b v0)]) C (c_X0_free l D cB cI cJ cZ v_5 v_6 v_7 v_8 v_9 v_10 v_11 v_12 v_13 v_14 v_15 v_16 v_17 v_18 v_19 y9) rfl rfl (gIV ml_X6_72 im_X0_free sl_X0_free in_X0 cd_X0_free) rfl eX0_free rfl ⟨rfl, rfl⟩ ⟨Nat.le_of_ble_eq_true rfl, Nat.le_of_ble_eq_true rfl⟩ rfl rfl rfl [1] rfl rfl rfl (Nat.le_of_ble_eq_true rfl) (tdec DX6_clearPlace 19 rfl) rfl ?_
    refine g_icmp_le (pt := 39) C (tdec DX6_clearPlace 20 rfl) (by decide) rfl (fun h10 => ?_) (fun h10 => ?_)
    · have hF := o_ifp hF h10
      refine g_iload_n (z := 1) C (tdec DX6_clearPlace 23 rfl) rfl rfl rfl ?_
      refine g_istore_n (L' := [(3, .int p1), (0, .ref v_0), (1, .int p1), (2, .int p2)]) C (tdec DX6_clearPlace 24 rfl) rfl (by decide) rfl rfl ?_
      refine g_iconst (v := 3) C (tdec DX6_clearPlace 25 rfl) (by decide) rfl ?_
      refine g_istore (L' := [(4, .int 3), (3, .int p1), (0, .ref v_0), (1, .int p1), (2, .int p2)]) C (tdec DX6_clearPlace 26 rfl) (by decide) rfl rfl ?_
      refine g_sub (L' := [(0, .ref v_0), (1, .int p1), (2, .int p2), (3, .int p1), (4, .int 3)]) [2, 3, 4, 1, 0] rfl ?_
      refine c_FX6_clearPlace_L44 C (fun vq18 w3_18 w4_18 hF => ?_) 100000 _ _ _ hF
      refine g_aload_n (z := 0) C (tdec DX6_clearPlace 47 rfl) rfl rfl rfl ?_
      refine g_getf (C' := RX6) (T := TX6) (N := 6) (v := .ref v_5) C 0 0 (gIn iw_X6) rfl rfl (by decide) (gMem fl_X6_12) rfl rfl (tdec DX6_clearPlace 48 rfl) rfl ?_
      refine g_iload_n (z := 3) C (tdec DX6_clearPlace 49 rfl) rfl rfl rfl ?_
      refine g_iconst (v := (-1)) C (tdec DX6_clearPlace 50 rfl) (by decide) rfl ?_
      refine g_aload_n (z := 0) C (tdec DX6_clearPlace 51 rfl) rfl rfl rfl ?_
      refine g_getf (C' := RX6) (T := TX6) (N := 6) (v := .int (VS_gen vq18)) C 0 3 (gIn iw_X6) rfl rfl (by decide) (gMem fl_X6_38) rfl rfl (tdec DX6_clearPlace 52 rfl) rfl ?_
      obtain ⟨s19, y20, hF⟩ := o_bind hF
      refine g_callVvMS (q0 := 5) (W' := wV cI cJ v_0 v_1 v_2 v_3 v_4 v_5 v_6 v_7 v_8 v_9 v_10 v_11 v_12 v_13 v_14 v_15 v_16 v_17 v_18 v_19 (VS_setb vq18 s19)) (S := [wV0 cI cJ v_0 v_1 v_2 v_3 v_4 v_5 vq18, wB cI cJ v_5 v_6 v_7 v_8 v_9 v_10 v_11 v_12 v_13 v_14 v_15 v_16 v_17 v_18 v_19 (VS_b vq18)]) (S0 := [wB cI cJ v_5 v_6 v_7 v_8 v_9 v_10 v_11 v_12 v_13 v_14 v_15 v_16 v_17 v_18 v_19 (VS_b vq18)]) (S1 := [wB cI cJ v_5 v_6 v_7 v_8 v_9 v_10 v_11 v_12 v_13 v_14 v_15 v_16 v_17 v_18 v_19 s19]) (S' := [wV0 cI cJ v_0 v_1 v_2 v_3 v_4 v_5 (VS_setb vq18 s19), wB cI cJ v_5 v_6 v_7 v_8 v_9 v_10 v_11 v_12 v_13 v_14 v_15 v_16 v_17 v_18 v_19 s19]) C (c_X0_point l D cB cI cJ cZ v_5 v_6 v_7 v_8 v_9 v_10 v_11 v_12 v_13 v_14 v_15 v_16 v_17 v_18 v_19 y20) rfl rfl (gIV ml_X6_88 im_X0_point sl_X0_point in_X0 cd_X0_point) rfl eX0_point rfl ⟨rfl, rfl⟩ ⟨Nat.le_of_ble_eq_true rfl, Nat.le_of_ble_eq_true rfl⟩ rfl rfl rfl [1] rfl rfl rfl rfl (gA_cons aB gA_nil) rfl rfl (Nat.le_of_ble_eq_true rfl) (tdec DX6_clearPlace 53 rfl) rfl ?_
      refine g_iconst (v := 1) C (tdec DX6_clearPlace 54 rfl) (by decide) rfl ?_
      refine g_istore (L' := [(4, .int 1), (0, .ref v_0), (1, .int p1), (2, .int p2), (3, .int w3_18)]) C (tdec DX6_clearPlace 55 rfl) (by decide) rfl rfl ?_
      refine g_sub (L' := [(0, .ref v_0), (1, .int p1), (2, .int p2), (3, .int w3_18), (4, .int 1)]) [1, 2, 3, 4, 0] rfl ?_
      refine c_FX6_clearPlace_L102 C (fun vq26 w4_26 hF => ?_) 100000 _ _ hF
      refine g_iconst (v := 1) C (tdec DX6_clearPlace 68 rfl) (by decide) rfl ?_
      have hr9 := o_some hF
      subst hr9
      exact g_zret C rfl rfl rfl (tdec DX6_clearPlace 69 rfl)
    · have hF := o_ifn hF h10
      refine g_iconst (v := 0) C (tdec DX6_clearPlace 21 rfl) (by decide) rfl ?_
      have hr9 := o_some hF
      subst hr9
      exact g_zret C rfl rfl rfl (tdec DX6_clearPlace 22 rfl)
  · have hF := o_ifp hF h5
    refine g_iconst (v := 1) C (tdec DX6_clearPlace 10 rfl) (by decide) rfl ?_
    have hr9 := o_some hF
    subst hr9
    exact g_zret C rfl rfl rfl (tdec DX6_clearPlace 11 rfl)
def FX6_keepLive (v0 : VS) (p1 : Int64) : Option (Int32 × VS) :=
  (FX0_told (VS_b v0) 4800).bind fun r1 =>
  (FX0_birth (VS_b v0) 4800).bind fun r3 =>
  (FX0_point (VS_b v0) (4802 + (VS_snaps v0)) r1 r3).bind fun s5 =>
  (FX2_put 20 (VS_mk v0) (VS_snaps v0) p1).bind fun s7 =>
  (FX1_put 20 (VS_gn v0) (VS_snaps v0) (VS_gen v0)).bind fun s9 =>
  some ((VS_snaps v0), (VS_setgen (VS_setsnaps (VS_setgn (VS_setmk (VS_setb v0 s5) s7) s9) ((VS_snaps v0) + 1)) ((VS_gen v0) + 1)))
def rX6_keepLive : Room := { frames := 2, cells := 0, slots := 0, locals := 46 }
set_option maxHeartbeats 4000000 in
set_option maxRecDepth 100000 in
theorem c_X6_keepLive (l : Launch) (D : va_G) (cB cI cJ cZ : ClassId) (v_0 v_1 v_2 v_3 v_4 v_5 v_6 v_7 v_8 v_9 v_10 v_11 v_12 v_13 v_14 v_15 v_16 v_17 v_18 v_19 : Nat) {v0 : VS} {p1 : Int64} {res : Int32 × VS} (hF : FX6_keepLive v0 p1 = some res) : gMi l yX6_keepLive wsX6_keepLive rX6_keepLive D (gT cB cI cJ cZ) [.ref v_0, .long p1] (wV cI cJ v_0 v_1 v_2 v_3 v_4 v_5 v_6 v_7 v_8 v_9 v_10 v_11 v_12 v_13 v_14 v_15 v_16 v_17 v_18 v_19 v0) res.1 (wV cI cJ v_0 v_1 v_2 v_3 v_4 v_5 v_6 v_7 v_8 v_9 v_10 v_11 v_12 v_13 v_14 v_15 v_16 v_17 v_18 v_19 res.2) := by
  refine g_enter (own := RX6) (free := (fun sz => va_A (wV cI cJ v_0 v_1 v_2 v_3 v_4 v_5 v_6 v_7 v_8 v_9 v_10 v_11 v_12 v_13 v_14 v_15 v_16 v_17 v_18 v_19 v0) sz)) (Qc := (fun sz => gQi D (wV cI cJ v_0 v_1 v_2 v_3 v_4 v_5 v_6 v_7 v_8 v_9 v_10 v_11 v_12 v_13 v_14 v_15 v_16 v_17 v_18 v_19 v0) sz res.1 (wV cI cJ v_0 v_1 v_2 v_3 v_4 v_5 v_6 v_7 v_8 v_9 v_10 v_11 v_12 v_13 v_14 v_15 v_16 v_17 v_18 v_19 res.2))) (fun sz => va_A (wV cI cJ v_0 v_1 v_2 v_3 v_4 v_5 v_6 v_7 v_8 v_9 v_10 v_11 v_12 v_13 v_14 v_15 v_16 v_17 v_18 v_19 v0) sz) (fun sz => Or.inr rfl) rfl (by decide) rfl (Nat.le_of_ble_eq_true rfl) rfl ?_
  intro p e s m args below meth c C
  unfold FX6_keepLive at hF
  refine g_aload_n (z := 0) C (tdec DX6_keepLive 0 rfl) rfl rfl rfl ?_
  refine g_getf (C' := RX6) (T := TX6) (N := 6) (v := .int (VS_snaps v0)) C 0 4 (gIn iw_X6) rfl rfl (by decide) (gMem fl_X6_42) rfl rfl (tdec DX6_keepLive 1 rfl) rfl ?_
  refine g_istore_n (L' := [(3, .int (VS_snaps v0)), (0, .ref v_0), (1, .long p1)]) C (tdec DX6_keepLive 2 rfl) rfl (by decide) rfl rfl ?_
  refine g_aload_n (z := 1) C (tdec DX6_keepLive 3 rfl) rfl rfl rfl ?_
  refine g_getf (C' := RX6) (T := TX6) (N := 6) (v := .ref v_5) C 0 0 (gIn iw_X6) rfl rfl (by decide) (gMem fl_X6_12) rfl rfl (tdec DX6_keepLive 4 rfl) rfl ?_
  refine g_sipush (v := 4802) C (tdec DX6_keepLive 5 rfl) (by decide) rfl ?_
  refine g_iload_n (z := 0) C (tdec DX6_keepLive 6 rfl) rfl rfl rfl ?_
  refine g_iadd C (tdec DX6_keepLive 7 rfl) rfl ?_
  refine g_aload_n (z := 1) C (tdec DX6_keepLive 8 rfl) rfl rfl rfl ?_
  refine g_getf (C' := RX6) (T := TX6) (N := 6) (v := .ref v_5) C 0 0 (gIn iw_X6) rfl rfl (by decide) (gMem fl_X6_12) rfl rfl (tdec DX6_keepLive 9 rfl) rfl ?_
  refine g_sipush (v := 4800) C (tdec DX6_keepLive 10 rfl) (by decide) rfl ?_
  obtain ⟨r1, y2, hF⟩ := o_bind hF
  refine g_callViRS (q0 := 5) (S := [wV0 cI cJ v_0 v_1 v_2 v_3 v_4 v_5 v0, wB cI cJ v_5 v_6 v_7 v_8 v_9 v_10 v_11 v_12 v_13 v_14 v_15 v_16 v_17 v_18 v_19 (VS_b v0)]) (S0 := [wB cI cJ v_5 v_6 v_7 v_8 v_9 v_10 v_11 v_12 v_13 v_14 v_15 v_16 v_17 v_18 v_19 (VS_b v0)]) C (c_X0_told l D cB cI cJ cZ v_5 v_6 v_7 v_8 v_9 v_10 v_11 v_12 v_13 v_14 v_15 v_16 v_17 v_18 v_19 y2) rfl rfl (gIV ml_X6_63 im_X0_told sl_X0_told in_X0 cd_X0_told) rfl eX0_told rfl ⟨rfl, rfl⟩ ⟨Nat.le_of_ble_eq_true rfl, Nat.le_of_ble_eq_true rfl⟩ rfl rfl rfl [1] rfl rfl rfl (Nat.le_of_ble_eq_true rfl) (tdec DX6_keepLive 11 rfl) rfl ?_
  refine g_aload_n (z := 1) C (tdec DX6_keepLive 12 rfl) rfl rfl rfl ?_
  refine g_getf (C' := RX6) (T := TX6) (N := 6) (v := .ref v_5) C 0 0 (gIn iw_X6) rfl rfl (by decide) (gMem fl_X6_12) rfl rfl (tdec DX6_keepLive 13 rfl) rfl ?_
  refine g_sipush (v := 4800) C (tdec DX6_keepLive 14 rfl) (by decide) rfl ?_
  obtain ⟨r3, y4, hF⟩ := o_bind hF
  refine g_callViRS (q0 := 5) (S := [wV0 cI cJ v_0 v_1 v_2 v_3 v_4 v_5 v0, wB cI cJ v_5 v_6 v_7 v_8 v_9 v_10 v_11 v_12 v_13 v_14 v_15 v_16 v_17 v_18 v_19 (VS_b v0)]) (S0 := [wB cI cJ v_5 v_6 v_7 v_8 v_9 v_10 v_11 v_12 v_13 v_14 v_15 v_16 v_17 v_18 v_19 (VS_b v0)]) C (c_X0_birth l D cB cI cJ cZ v_5 v_6 v_7 v_8 v_9 v_10 v_11 v_12 v_13 v_14 v_15 v_16 v_17 v_18 v_19 y4) rfl rfl (gIV ml_X6_102 im_X0_birth sl_X0_birth in_X0 cd_X0_birth) rfl eX0_birth rfl ⟨rfl, rfl⟩ ⟨Nat.le_of_ble_eq_true rfl, Nat.le_of_ble_eq_true rfl⟩ rfl rfl rfl [1] rfl rfl rfl (Nat.le_of_ble_eq_true rfl) (tdec DX6_keepLive 15 rfl) rfl ?_
  obtain ⟨s5, y6, hF⟩ := o_bind hF
  refine g_callVvMS (q0 := 5) (W' := wV cI cJ v_0 v_1 v_2 v_3 v_4 v_5 v_6 v_7 v_8 v_9 v_10 v_11 v_12 v_13 v_14 v_15 v_16 v_17 v_18 v_19 (VS_setb v0 s5)) (S := [wV0 cI cJ v_0 v_1 v_2 v_3 v_4 v_5 v0, wB cI cJ v_5 v_6 v_7 v_8 v_9 v_10 v_11 v_12 v_13 v_14 v_15 v_16 v_17 v_18 v_19 (VS_b v0)]) (S0 := [wB cI cJ v_5 v_6 v_7 v_8 v_9 v_10 v_11 v_12 v_13 v_14 v_15 v_16 v_17 v_18 v_19 (VS_b v0)]) (S1 := [wB cI cJ v_5 v_6 v_7 v_8 v_9 v_10 v_11 v_12 v_13 v_14 v_15 v_16 v_17 v_18 v_19 s5]) (S' := [wV0 cI cJ v_0 v_1 v_2 v_3 v_4 v_5 (VS_setb v0 s5), wB cI cJ v_5 v_6 v_7 v_8 v_9 v_10 v_11 v_12 v_13 v_14 v_15 v_16 v_17 v_18 v_19 s5]) C (c_X0_point l D cB cI cJ cZ v_5 v_6 v_7 v_8 v_9 v_10 v_11 v_12 v_13 v_14 v_15 v_16 v_17 v_18 v_19 y6) rfl rfl (gIV ml_X6_88 im_X0_point sl_X0_point in_X0 cd_X0_point) rfl eX0_point rfl ⟨rfl, rfl⟩ ⟨Nat.le_of_ble_eq_true rfl, Nat.le_of_ble_eq_true rfl⟩ rfl rfl rfl [1] rfl rfl rfl rfl (gA_cons aB gA_nil) rfl rfl (Nat.le_of_ble_eq_true rfl) (tdec DX6_keepLive 16 rfl) rfl ?_
  refine g_aload_n (z := 1) C (tdec DX6_keepLive 17 rfl) rfl rfl rfl ?_
  refine g_getf (C' := RX6) (T := TX6) (N := 6) (v := .ref v_1) C 0 1 (gIn iw_X6) rfl rfl (by decide) (gMem fl_X6_23) rfl rfl (tdec DX6_keepLive 18 rfl) rfl ?_
  refine g_iload_n (z := 0) C (tdec DX6_keepLive 19 rfl) rfl rfl rfl ?_
  refine g_lload_n (z := 2) C (tdec DX6_keepLive 20 rfl) rfl rfl rfl ?_
  obtain ⟨s7, y8, hF⟩ := o_bind hF
  refine g_callVvM (q0 := 1) (W' := wV cI cJ v_0 v_1 v_2 v_3 v_4 v_5 v_6 v_7 v_8 v_9 v_10 v_11 v_12 v_13 v_14 v_15 v_16 v_17 v_18 v_19 (VS_setmk (VS_setb v0 s5) s7)) C (c_X2_put l D cB cI cJ cZ v_1 v_2 y8) rfl rfl (gIV ml_X6_105 im_X2_put sl_X2_put in_X2 cd_X2_put) rfl eX2_put rfl ⟨rfl, rfl⟩ ⟨Nat.le_of_ble_eq_true rfl, Nat.le_of_ble_eq_true rfl⟩ rfl [1, 2] rfl rfl rfl rfl rfl rfl (Nat.le_of_ble_eq_true rfl) (tdec DX6_keepLive 21 rfl) rfl ?_
  refine g_aload_n (z := 1) C (tdec DX6_keepLive 22 rfl) rfl rfl rfl ?_
  refine g_getf (C' := RX6) (T := TX6) (N := 6) (v := .ref v_3) C 0 2 (gIn iw_X6) rfl rfl (by decide) (gMem fl_X6_30) rfl rfl (tdec DX6_keepLive 23 rfl) rfl ?_
  refine g_iload_n (z := 0) C (tdec DX6_keepLive 24 rfl) rfl rfl rfl ?_
  refine g_aload_n (z := 1) C (tdec DX6_keepLive 25 rfl) rfl rfl rfl ?_
  refine g_getf (C' := RX6) (T := TX6) (N := 6) (v := .int (VS_gen v0)) C 0 3 (gIn iw_X6) rfl rfl (by decide) (gMem fl_X6_38) rfl rfl (tdec DX6_keepLive 26 rfl) rfl ?_
  obtain ⟨s9, y10, hF⟩ := o_bind hF
  refine g_callVvM (q0 := 3) (W' := wV cI cJ v_0 v_1 v_2 v_3 v_4 v_5 v_6 v_7 v_8 v_9 v_10 v_11 v_12 v_13 v_14 v_15 v_16 v_17 v_18 v_19 (VS_setgn (VS_setmk (VS_setb v0 s5) s7) s9)) C (c_X1_put l D cB cI cJ cZ v_3 v_4 y10) rfl rfl (gIV ml_X6_108 im_X1_put sl_X1_put in_X1 cd_X1_put) rfl eX1_put rfl ⟨rfl, rfl⟩ ⟨Nat.le_of_ble_eq_true rfl, Nat.le_of_ble_eq_true rfl⟩ rfl [3, 4] rfl rfl rfl rfl rfl rfl (Nat.le_of_ble_eq_true rfl) (tdec DX6_keepLive 27 rfl) rfl ?_
  refine g_aload_n (z := 1) C (tdec DX6_keepLive 28 rfl) rfl rfl rfl ?_
  refine g_dup C (tdec DX6_keepLive 29 rfl) rfl rfl ?_
  refine g_getf (C' := RX6) (T := TX6) (N := 6) (v := .int (VS_snaps v0)) C 0 4 (gIn iw_X6) rfl rfl (by decide) (gMem fl_X6_42) rfl rfl (tdec DX6_keepLive 30 rfl) rfl ?_
  refine g_iconst (v := 1) C (tdec DX6_keepLive 31 rfl) (by decide) rfl ?_
  refine g_iadd C (tdec DX6_keepLive 32 rfl) rfl ?_
  refine g_putf (C' := RX6) (T := TX6) (N := 6) (v := .int ((VS_snaps v0) + 1)) (ws' := wV cI cJ v_0 v_1 v_2 v_3 v_4 v_5 v_6 v_7 v_8 v_9 v_10 v_11 v_12 v_13 v_14 v_15 v_16 v_17 v_18 v_19 (VS_setsnaps (VS_setgn (VS_setmk (VS_setb v0 s5) s7) s9) ((VS_snaps v0) + 1))) C 0 4 tyX6 tyX6_ok nmX6 (gIn iw_X6) rfl rfl (by decide) (gMem fl_X6_42) rfl rfl (tyX6_ok 4 (by decide)) rfl rfl (Nat.le_of_ble_eq_true rfl) rfl (tdec DX6_keepLive 33 rfl) rfl ?_
  refine g_aload_n (z := 1) C (tdec DX6_keepLive 34 rfl) rfl rfl rfl ?_
  refine g_dup C (tdec DX6_keepLive 35 rfl) rfl rfl ?_
  refine g_getf (C' := RX6) (T := TX6) (N := 6) (v := .int (VS_gen v0)) C 0 3 (gIn iw_X6) rfl rfl (by decide) (gMem fl_X6_38) rfl rfl (tdec DX6_keepLive 36 rfl) rfl ?_
  refine g_iconst (v := 1) C (tdec DX6_keepLive 37 rfl) (by decide) rfl ?_
  refine g_iadd C (tdec DX6_keepLive 38 rfl) rfl ?_
  refine g_putf (C' := RX6) (T := TX6) (N := 6) (v := .int ((VS_gen v0) + 1)) (ws' := wV cI cJ v_0 v_1 v_2 v_3 v_4 v_5 v_6 v_7 v_8 v_9 v_10 v_11 v_12 v_13 v_14 v_15 v_16 v_17 v_18 v_19 (VS_setgen (VS_setsnaps (VS_setgn (VS_setmk (VS_setb v0 s5) s7) s9) ((VS_snaps v0) + 1)) ((VS_gen v0) + 1))) C 0 3 tyX6 tyX6_ok nmX6 (gIn iw_X6) rfl rfl (by decide) (gMem fl_X6_38) rfl rfl (tyX6_ok 3 (by decide)) rfl rfl (Nat.le_of_ble_eq_true rfl) rfl (tdec DX6_keepLive 39 rfl) rfl ?_
  refine g_iload_n (z := 0) C (tdec DX6_keepLive 40 rfl) rfl rfl rfl ?_
  have hr9 := o_some hF
  subst hr9
  exact g_iret C rfl rfl (tdec DX6_keepLive 41 rfl)
def FX6_keepHidden (v0 : VS) (p1 : Int64) : Option (VS) :=
  (FX0_told (VS_b v0) 4801).bind fun r1 =>
  (FX0_birth (VS_b v0) 4801).bind fun r3 =>
  (FX0_point (VS_b v0) 4800 r1 r3).bind fun s5 =>
  (FX6_keepLive (VS_setb v0 s5) p1).bind fun (r7, s8) =>
  (FX0_point (VS_b s8) 4801 (-1) 0).bind fun s10 =>
  some (VS_setbusy (VS_setb s8 s10) 0)
def rX6_keepHidden : Room := { frames := 3, cells := 0, slots := 0, locals := 69 }
set_option maxHeartbeats 4000000 in
set_option maxRecDepth 100000 in
theorem c_X6_keepHidden (l : Launch) (D : va_G) (cB cI cJ cZ : ClassId) (v_0 v_1 v_2 v_3 v_4 v_5 v_6 v_7 v_8 v_9 v_10 v_11 v_12 v_13 v_14 v_15 v_16 v_17 v_18 v_19 : Nat) {v0 : VS} {p1 : Int64} {res : VS} (hF : FX6_keepHidden v0 p1 = some res) : gMv l yX6_keepHidden wsX6_keepHidden rX6_keepHidden D (gT cB cI cJ cZ) [.ref v_0, .long p1] (wV cI cJ v_0 v_1 v_2 v_3 v_4 v_5 v_6 v_7 v_8 v_9 v_10 v_11 v_12 v_13 v_14 v_15 v_16 v_17 v_18 v_19 v0) (wV cI cJ v_0 v_1 v_2 v_3 v_4 v_5 v_6 v_7 v_8 v_9 v_10 v_11 v_12 v_13 v_14 v_15 v_16 v_17 v_18 v_19 res) := by
  refine g_enter (own := RX6) (free := (fun sz => va_A (wV cI cJ v_0 v_1 v_2 v_3 v_4 v_5 v_6 v_7 v_8 v_9 v_10 v_11 v_12 v_13 v_14 v_15 v_16 v_17 v_18 v_19 v0) sz)) (Qc := (fun sz => gQv D (wV cI cJ v_0 v_1 v_2 v_3 v_4 v_5 v_6 v_7 v_8 v_9 v_10 v_11 v_12 v_13 v_14 v_15 v_16 v_17 v_18 v_19 v0) sz (wV cI cJ v_0 v_1 v_2 v_3 v_4 v_5 v_6 v_7 v_8 v_9 v_10 v_11 v_12 v_13 v_14 v_15 v_16 v_17 v_18 v_19 res))) (fun sz => va_A (wV cI cJ v_0 v_1 v_2 v_3 v_4 v_5 v_6 v_7 v_8 v_9 v_10 v_11 v_12 v_13 v_14 v_15 v_16 v_17 v_18 v_19 v0) sz) (fun sz => Or.inr rfl) rfl (by decide) rfl (Nat.le_of_ble_eq_true rfl) rfl ?_
  intro p e s m args below meth c C
  unfold FX6_keepHidden at hF
  refine g_aload_n (z := 0) C (tdec DX6_keepHidden 0 rfl) rfl rfl rfl ?_
  refine g_getf (C' := RX6) (T := TX6) (N := 6) (v := .ref v_5) C 0 0 (gIn iw_X6) rfl rfl (by decide) (gMem fl_X6_12) rfl rfl (tdec DX6_keepHidden 1 rfl) rfl ?_
  refine g_sipush (v := 4800) C (tdec DX6_keepHidden 2 rfl) (by decide) rfl ?_
  refine g_aload_n (z := 0) C (tdec DX6_keepHidden 3 rfl) rfl rfl rfl ?_
  refine g_getf (C' := RX6) (T := TX6) (N := 6) (v := .ref v_5) C 0 0 (gIn iw_X6) rfl rfl (by decide) (gMem fl_X6_12) rfl rfl (tdec DX6_keepHidden 4 rfl) rfl ?_
  refine g_sipush (v := 4801) C (tdec DX6_keepHidden 5 rfl) (by decide) rfl ?_
  obtain ⟨r1, y2, hF⟩ := o_bind hF
  refine g_callViRS (q0 := 5) (S := [wV0 cI cJ v_0 v_1 v_2 v_3 v_4 v_5 v0, wB cI cJ v_5 v_6 v_7 v_8 v_9 v_10 v_11 v_12 v_13 v_14 v_15 v_16 v_17 v_18 v_19 (VS_b v0)]) (S0 := [wB cI cJ v_5 v_6 v_7 v_8 v_9 v_10 v_11 v_12 v_13 v_14 v_15 v_16 v_17 v_18 v_19 (VS_b v0)]) C (c_X0_told l D cB cI cJ cZ v_5 v_6 v_7 v_8 v_9 v_10 v_11 v_12 v_13 v_14 v_15 v_16 v_17 v_18 v_19 y2) rfl rfl (gIV ml_X6_63 im_X0_told sl_X0_told in_X0 cd_X0_told) rfl eX0_told rfl ⟨rfl, rfl⟩ ⟨Nat.le_of_ble_eq_true rfl, Nat.le_of_ble_eq_true rfl⟩ rfl rfl rfl [1] rfl rfl rfl (Nat.le_of_ble_eq_true rfl) (tdec DX6_keepHidden 6 rfl) rfl ?_
  refine g_aload_n (z := 0) C (tdec DX6_keepHidden 7 rfl) rfl rfl rfl ?_
  refine g_getf (C' := RX6) (T := TX6) (N := 6) (v := .ref v_5) C 0 0 (gIn iw_X6) rfl rfl (by decide) (gMem fl_X6_12) rfl rfl (tdec DX6_keepHidden 8 rfl) rfl ?_
  refine g_sipush (v := 4801) C (tdec DX6_keepHidden 9 rfl) (by decide) rfl ?_
  obtain ⟨r3, y4, hF⟩ := o_bind hF
  refine g_callViRS (q0 := 5) (S := [wV0 cI cJ v_0 v_1 v_2 v_3 v_4 v_5 v0, wB cI cJ v_5 v_6 v_7 v_8 v_9 v_10 v_11 v_12 v_13 v_14 v_15 v_16 v_17 v_18 v_19 (VS_b v0)]) (S0 := [wB cI cJ v_5 v_6 v_7 v_8 v_9 v_10 v_11 v_12 v_13 v_14 v_15 v_16 v_17 v_18 v_19 (VS_b v0)]) C (c_X0_birth l D cB cI cJ cZ v_5 v_6 v_7 v_8 v_9 v_10 v_11 v_12 v_13 v_14 v_15 v_16 v_17 v_18 v_19 y4) rfl rfl (gIV ml_X6_102 im_X0_birth sl_X0_birth in_X0 cd_X0_birth) rfl eX0_birth rfl ⟨rfl, rfl⟩ ⟨Nat.le_of_ble_eq_true rfl, Nat.le_of_ble_eq_true rfl⟩ rfl rfl rfl [1] rfl rfl rfl (Nat.le_of_ble_eq_true rfl) (tdec DX6_keepHidden 10 rfl) rfl ?_
  obtain ⟨s5, y6, hF⟩ := o_bind hF
  refine g_callVvMS (q0 := 5) (W' := wV cI cJ v_0 v_1 v_2 v_3 v_4 v_5 v_6 v_7 v_8 v_9 v_10 v_11 v_12 v_13 v_14 v_15 v_16 v_17 v_18 v_19 (VS_setb v0 s5)) (S := [wV0 cI cJ v_0 v_1 v_2 v_3 v_4 v_5 v0, wB cI cJ v_5 v_6 v_7 v_8 v_9 v_10 v_11 v_12 v_13 v_14 v_15 v_16 v_17 v_18 v_19 (VS_b v0)]) (S0 := [wB cI cJ v_5 v_6 v_7 v_8 v_9 v_10 v_11 v_12 v_13 v_14 v_15 v_16 v_17 v_18 v_19 (VS_b v0)]) (S1 := [wB cI cJ v_5 v_6 v_7 v_8 v_9 v_10 v_11 v_12 v_13 v_14 v_15 v_16 v_17 v_18 v_19 s5]) (S' := [wV0 cI cJ v_0 v_1 v_2 v_3 v_4 v_5 (VS_setb v0 s5), wB cI cJ v_5 v_6 v_7 v_8 v_9 v_10 v_11 v_12 v_13 v_14 v_15 v_16 v_17 v_18 v_19 s5]) C (c_X0_point l D cB cI cJ cZ v_5 v_6 v_7 v_8 v_9 v_10 v_11 v_12 v_13 v_14 v_15 v_16 v_17 v_18 v_19 y6) rfl rfl (gIV ml_X6_88 im_X0_point sl_X0_point in_X0 cd_X0_point) rfl eX0_point rfl ⟨rfl, rfl⟩ ⟨Nat.le_of_ble_eq_true rfl, Nat.le_of_ble_eq_true rfl⟩ rfl rfl rfl [1] rfl rfl rfl rfl (gA_cons aB gA_nil) rfl rfl (Nat.le_of_ble_eq_true rfl) (tdec DX6_keepHidden 11 rfl) rfl ?_
  refine g_aload_n (z := 0) C (tdec DX6_keepHidden 12 rfl) rfl rfl rfl ?_
  refine g_lload_n (z := 1) C (tdec DX6_keepHidden 13 rfl) rfl rfl rfl ?_
  obtain ⟨⟨r7, s8⟩, y9, hF⟩ := o_bind hF
  refine g_callViMS (q0 := 0) (W' := wV cI cJ v_0 v_1 v_2 v_3 v_4 v_5 v_6 v_7 v_8 v_9 v_10 v_11 v_12 v_13 v_14 v_15 v_16 v_17 v_18 v_19 s8) (S := [wV cI cJ v_0 v_1 v_2 v_3 v_4 v_5 v_6 v_7 v_8 v_9 v_10 v_11 v_12 v_13 v_14 v_15 v_16 v_17 v_18 v_19 (VS_setb v0 s5)]) (S0 := [wV cI cJ v_0 v_1 v_2 v_3 v_4 v_5 v_6 v_7 v_8 v_9 v_10 v_11 v_12 v_13 v_14 v_15 v_16 v_17 v_18 v_19 (VS_setb v0 s5)]) (S1 := [wV cI cJ v_0 v_1 v_2 v_3 v_4 v_5 v_6 v_7 v_8 v_9 v_10 v_11 v_12 v_13 v_14 v_15 v_16 v_17 v_18 v_19 s8]) (S' := [wV cI cJ v_0 v_1 v_2 v_3 v_4 v_5 v_6 v_7 v_8 v_9 v_10 v_11 v_12 v_13 v_14 v_15 v_16 v_17 v_18 v_19 s8]) C (c_X6_keepLive l D cB cI cJ cZ v_0 v_1 v_2 v_3 v_4 v_5 v_6 v_7 v_8 v_9 v_10 v_11 v_12 v_13 v_14 v_15 v_16 v_17 v_18 v_19 y9) rfl rfl (gIV ml_X6_111 im_X6_keepLive sl_X6_keepLive in_X6 cd_X6_keepLive) rfl eX6_keepLive rfl ⟨rfl, rfl⟩ ⟨Nat.le_of_ble_eq_true rfl, Nat.le_of_ble_eq_true rfl⟩ rfl rfl rfl [0] rfl rfl rfl rfl (gA_cons aV gA_nil) rfl rfl (Nat.le_of_ble_eq_true rfl) (tdec DX6_keepHidden 14 rfl) rfl ?_
  refine g_pop C (tdec DX6_keepHidden 15 rfl) rfl rfl ?_
  refine g_aload_n (z := 0) C (tdec DX6_keepHidden 16 rfl) rfl rfl rfl ?_
  refine g_getf (C' := RX6) (T := TX6) (N := 6) (v := .ref v_5) C 0 0 (gIn iw_X6) rfl rfl (by decide) (gMem fl_X6_12) rfl rfl (tdec DX6_keepHidden 17 rfl) rfl ?_
  refine g_sipush (v := 4801) C (tdec DX6_keepHidden 18 rfl) (by decide) rfl ?_
  refine g_iconst (v := (-1)) C (tdec DX6_keepHidden 19 rfl) (by decide) rfl ?_
  refine g_iconst (v := 0) C (tdec DX6_keepHidden 20 rfl) (by decide) rfl ?_
  obtain ⟨s10, y11, hF⟩ := o_bind hF
  refine g_callVvMS (q0 := 5) (W' := wV cI cJ v_0 v_1 v_2 v_3 v_4 v_5 v_6 v_7 v_8 v_9 v_10 v_11 v_12 v_13 v_14 v_15 v_16 v_17 v_18 v_19 (VS_setb s8 s10)) (S := [wV0 cI cJ v_0 v_1 v_2 v_3 v_4 v_5 s8, wB cI cJ v_5 v_6 v_7 v_8 v_9 v_10 v_11 v_12 v_13 v_14 v_15 v_16 v_17 v_18 v_19 (VS_b s8)]) (S0 := [wB cI cJ v_5 v_6 v_7 v_8 v_9 v_10 v_11 v_12 v_13 v_14 v_15 v_16 v_17 v_18 v_19 (VS_b s8)]) (S1 := [wB cI cJ v_5 v_6 v_7 v_8 v_9 v_10 v_11 v_12 v_13 v_14 v_15 v_16 v_17 v_18 v_19 s10]) (S' := [wV0 cI cJ v_0 v_1 v_2 v_3 v_4 v_5 (VS_setb s8 s10), wB cI cJ v_5 v_6 v_7 v_8 v_9 v_10 v_11 v_12 v_13 v_14 v_15 v_16 v_17 v_18 v_19 s10]) C (c_X0_point l D cB cI cJ cZ v_5 v_6 v_7 v_8 v_9 v_10 v_11 v_12 v_13 v_14 v_15 v_16 v_17 v_18 v_19 y11) rfl rfl (gIV ml_X6_88 im_X0_point sl_X0_point in_X0 cd_X0_point) rfl eX0_point rfl ⟨rfl, rfl⟩ ⟨Nat.le_of_ble_eq_true rfl, Nat.le_of_ble_eq_true rfl⟩ rfl rfl rfl [1] rfl rfl rfl rfl (gA_cons aB gA_nil) rfl rfl (Nat.le_of_ble_eq_true rfl) (tdec DX6_keepHidden 21 rfl) rfl ?_
  refine g_aload_n (z := 0) C (tdec DX6_keepHidden 22 rfl) rfl rfl rfl ?_
  refine g_iconst (v := 0) C (tdec DX6_keepHidden 23 rfl) (by decide) rfl ?_
  refine g_putf (C' := RX6) (T := TX6) (N := 6) (v := .int 0) (ws' := wV cI cJ v_0 v_1 v_2 v_3 v_4 v_5 v_6 v_7 v_8 v_9 v_10 v_11 v_12 v_13 v_14 v_15 v_16 v_17 v_18 v_19 (VS_setbusy (VS_setb s8 s10) 0)) C 0 5 tyX6 tyX6_ok nmX6 (gIn iw_X6) rfl rfl (by decide) (gMem fl_X6_45) rfl rfl (tyX6_ok 5 (by decide)) rfl rfl (Nat.le_of_ble_eq_true rfl) rfl (tdec DX6_keepHidden 24 rfl) rfl ?_
  have hr9 := o_some hF
  subst hr9
  exact g_vret C rfl (tdec DX6_keepHidden 25 rfl)
def FX6_settle (v0 : VS) : Option (VS) :=
  (FX0_settle (VS_b v0)).bind fun s1 =>
  some (VS_setb v0 s1)
def rX6_settle : Room := { frames := 3, cells := 0, slots := 0, locals := 69 }
set_option maxHeartbeats 4000000 in
set_option maxRecDepth 100000 in
theorem c_X6_settle (l : Launch) (D : va_G) (cB cI cJ cZ : ClassId) (v_0 v_1 v_2 v_3 v_4 v_5 v_6 v_7 v_8 v_9 v_10 v_11 v_12 v_13 v_14 v_15 v_16 v_17 v_18 v_19 : Nat) {v0 : VS} {res : VS} (hF : FX6_settle v0 = some res) : gMv l yX6_settle wsX6_settle rX6_settle D (gT cB cI cJ cZ) [.ref v_0] (wV cI cJ v_0 v_1 v_2 v_3 v_4 v_5 v_6 v_7 v_8 v_9 v_10 v_11 v_12 v_13 v_14 v_15 v_16 v_17 v_18 v_19 v0) (wV cI cJ v_0 v_1 v_2 v_3 v_4 v_5 v_6 v_7 v_8 v_9 v_10 v_11 v_12 v_13 v_14 v_15 v_16 v_17 v_18 v_19 res) := by
  refine g_enter (own := RX6) (free := (fun sz => va_A (wV cI cJ v_0 v_1 v_2 v_3 v_4 v_5 v_6 v_7 v_8 v_9 v_10 v_11 v_12 v_13 v_14 v_15 v_16 v_17 v_18 v_19 v0) sz)) (Qc := (fun sz => gQv D (wV cI cJ v_0 v_1 v_2 v_3 v_4 v_5 v_6 v_7 v_8 v_9 v_10 v_11 v_12 v_13 v_14 v_15 v_16 v_17 v_18 v_19 v0) sz (wV cI cJ v_0 v_1 v_2 v_3 v_4 v_5 v_6 v_7 v_8 v_9 v_10 v_11 v_12 v_13 v_14 v_15 v_16 v_17 v_18 v_19 res))) (fun sz => va_A (wV cI cJ v_0 v_1 v_2 v_3 v_4 v_5 v_6 v_7 v_8 v_9 v_10 v_11 v_12 v_13 v_14 v_15 v_16 v_17 v_18 v_19 v0) sz) (fun sz => Or.inr rfl) rfl (by decide) rfl (Nat.le_of_ble_eq_true rfl) rfl ?_
  intro p e s m args below meth c C
  unfold FX6_settle at hF
  refine g_aload_n (z := 0) C (tdec DX6_settle 0 rfl) rfl rfl rfl ?_
  refine g_getf (C' := RX6) (T := TX6) (N := 6) (v := .ref v_5) C 0 0 (gIn iw_X6) rfl rfl (by decide) (gMem fl_X6_12) rfl rfl (tdec DX6_settle 1 rfl) rfl ?_
  obtain ⟨s1, y2, hF⟩ := o_bind hF
  refine g_callVvMS (q0 := 5) (W' := wV cI cJ v_0 v_1 v_2 v_3 v_4 v_5 v_6 v_7 v_8 v_9 v_10 v_11 v_12 v_13 v_14 v_15 v_16 v_17 v_18 v_19 (VS_setb v0 s1)) (S := [wV0 cI cJ v_0 v_1 v_2 v_3 v_4 v_5 v0, wB cI cJ v_5 v_6 v_7 v_8 v_9 v_10 v_11 v_12 v_13 v_14 v_15 v_16 v_17 v_18 v_19 (VS_b v0)]) (S0 := [wB cI cJ v_5 v_6 v_7 v_8 v_9 v_10 v_11 v_12 v_13 v_14 v_15 v_16 v_17 v_18 v_19 (VS_b v0)]) (S1 := [wB cI cJ v_5 v_6 v_7 v_8 v_9 v_10 v_11 v_12 v_13 v_14 v_15 v_16 v_17 v_18 v_19 s1]) (S' := [wV0 cI cJ v_0 v_1 v_2 v_3 v_4 v_5 (VS_setb v0 s1), wB cI cJ v_5 v_6 v_7 v_8 v_9 v_10 v_11 v_12 v_13 v_14 v_15 v_16 v_17 v_18 v_19 s1]) C (c_X0_settle l D cB cI cJ cZ v_5 v_6 v_7 v_8 v_9 v_10 v_11 v_12 v_13 v_14 v_15 v_16 v_17 v_18 v_19 y2) rfl rfl (gIV ml_X6_56 im_X0_settle sl_X0_settle in_X0 cd_X0_settle) rfl eX0_settle rfl ⟨rfl, rfl⟩ ⟨Nat.le_of_ble_eq_true rfl, Nat.le_of_ble_eq_true rfl⟩ rfl rfl rfl [1] rfl rfl rfl rfl (gA_cons aB gA_nil) rfl rfl (Nat.le_of_ble_eq_true rfl) (tdec DX6_settle 2 rfl) rfl ?_
  have hr9 := o_some hF
  subst hr9
  exact g_vret C rfl (tdec DX6_settle 3 rfl)
def FX6_dropHidden (v0 : VS) : Option (VS) :=
  (FX0_point (VS_b v0) 4801 (-1) 0).bind fun s1 =>
  (FX0_settle s1).bind fun s3 =>
  some (VS_setbusy (VS_setb (VS_setb v0 s1) s3) 0)
def rX6_dropHidden : Room := { frames := 3, cells := 0, slots := 0, locals := 69 }
set_option maxHeartbeats 4000000 in
set_option maxRecDepth 100000 in
theorem c_X6_dropHidden (l : Launch) (D : va_G) (cB cI cJ cZ : ClassId) (v_0 v_1 v_2 v_3 v_4 v_5 v_6 v_7 v_8 v_9 v_10 v_11 v_12 v_13 v_14 v_15 v_16 v_17 v_18 v_19 : Nat) {v0 : VS} {res : VS} (hF : FX6_dropHidden v0 = some res) : gMv l yX6_dropHidden wsX6_dropHidden rX6_dropHidden D (gT cB cI cJ cZ) [.ref v_0] (wV cI cJ v_0 v_1 v_2 v_3 v_4 v_5 v_6 v_7 v_8 v_9 v_10 v_11 v_12 v_13 v_14 v_15 v_16 v_17 v_18 v_19 v0) (wV cI cJ v_0 v_1 v_2 v_3 v_4 v_5 v_6 v_7 v_8 v_9 v_10 v_11 v_12 v_13 v_14 v_15 v_16 v_17 v_18 v_19 res) := by
  refine g_enter (own := RX6) (free := (fun sz => va_A (wV cI cJ v_0 v_1 v_2 v_3 v_4 v_5 v_6 v_7 v_8 v_9 v_10 v_11 v_12 v_13 v_14 v_15 v_16 v_17 v_18 v_19 v0) sz)) (Qc := (fun sz => gQv D (wV cI cJ v_0 v_1 v_2 v_3 v_4 v_5 v_6 v_7 v_8 v_9 v_10 v_11 v_12 v_13 v_14 v_15 v_16 v_17 v_18 v_19 v0) sz (wV cI cJ v_0 v_1 v_2 v_3 v_4 v_5 v_6 v_7 v_8 v_9 v_10 v_11 v_12 v_13 v_14 v_15 v_16 v_17 v_18 v_19 res))) (fun sz => va_A (wV cI cJ v_0 v_1 v_2 v_3 v_4 v_5 v_6 v_7 v_8 v_9 v_10 v_11 v_12 v_13 v_14 v_15 v_16 v_17 v_18 v_19 v0) sz) (fun sz => Or.inr rfl) rfl (by decide) rfl (Nat.le_of_ble_eq_true rfl) rfl ?_
  intro p e s m args below meth c C
  unfold FX6_dropHidden at hF
  refine g_aload_n (z := 0) C (tdec DX6_dropHidden 0 rfl) rfl rfl rfl ?_
  refine g_getf (C' := RX6) (T := TX6) (N := 6) (v := .ref v_5) C 0 0 (gIn iw_X6) rfl rfl (by decide) (gMem fl_X6_12) rfl rfl (tdec DX6_dropHidden 1 rfl) rfl ?_
  refine g_sipush (v := 4801) C (tdec DX6_dropHidden 2 rfl) (by decide) rfl ?_
  refine g_iconst (v := (-1)) C (tdec DX6_dropHidden 3 rfl) (by decide) rfl ?_
  refine g_iconst (v := 0) C (tdec DX6_dropHidden 4 rfl) (by decide) rfl ?_
  obtain ⟨s1, y2, hF⟩ := o_bind hF
  refine g_callVvMS (q0 := 5) (W' := wV cI cJ v_0 v_1 v_2 v_3 v_4 v_5 v_6 v_7 v_8 v_9 v_10 v_11 v_12 v_13 v_14 v_15 v_16 v_17 v_18 v_19 (VS_setb v0 s1)) (S := [wV0 cI cJ v_0 v_1 v_2 v_3 v_4 v_5 v0, wB cI cJ v_5 v_6 v_7 v_8 v_9 v_10 v_11 v_12 v_13 v_14 v_15 v_16 v_17 v_18 v_19 (VS_b v0)]) (S0 := [wB cI cJ v_5 v_6 v_7 v_8 v_9 v_10 v_11 v_12 v_13 v_14 v_15 v_16 v_17 v_18 v_19 (VS_b v0)]) (S1 := [wB cI cJ v_5 v_6 v_7 v_8 v_9 v_10 v_11 v_12 v_13 v_14 v_15 v_16 v_17 v_18 v_19 s1]) (S' := [wV0 cI cJ v_0 v_1 v_2 v_3 v_4 v_5 (VS_setb v0 s1), wB cI cJ v_5 v_6 v_7 v_8 v_9 v_10 v_11 v_12 v_13 v_14 v_15 v_16 v_17 v_18 v_19 s1]) C (c_X0_point l D cB cI cJ cZ v_5 v_6 v_7 v_8 v_9 v_10 v_11 v_12 v_13 v_14 v_15 v_16 v_17 v_18 v_19 y2) rfl rfl (gIV ml_X6_88 im_X0_point sl_X0_point in_X0 cd_X0_point) rfl eX0_point rfl ⟨rfl, rfl⟩ ⟨Nat.le_of_ble_eq_true rfl, Nat.le_of_ble_eq_true rfl⟩ rfl rfl rfl [1] rfl rfl rfl rfl (gA_cons aB gA_nil) rfl rfl (Nat.le_of_ble_eq_true rfl) (tdec DX6_dropHidden 5 rfl) rfl ?_
  refine g_aload_n (z := 0) C (tdec DX6_dropHidden 6 rfl) rfl rfl rfl ?_
  refine g_getf (C' := RX6) (T := TX6) (N := 6) (v := .ref v_5) C 0 0 (gIn iw_X6) rfl rfl (by decide) (gMem fl_X6_12) rfl rfl (tdec DX6_dropHidden 7 rfl) rfl ?_
  obtain ⟨s3, y4, hF⟩ := o_bind hF
  refine g_callVvMS (q0 := 5) (W' := wV cI cJ v_0 v_1 v_2 v_3 v_4 v_5 v_6 v_7 v_8 v_9 v_10 v_11 v_12 v_13 v_14 v_15 v_16 v_17 v_18 v_19 (VS_setb (VS_setb v0 s1) s3)) (S := [wV0 cI cJ v_0 v_1 v_2 v_3 v_4 v_5 (VS_setb v0 s1), wB cI cJ v_5 v_6 v_7 v_8 v_9 v_10 v_11 v_12 v_13 v_14 v_15 v_16 v_17 v_18 v_19 s1]) (S0 := [wB cI cJ v_5 v_6 v_7 v_8 v_9 v_10 v_11 v_12 v_13 v_14 v_15 v_16 v_17 v_18 v_19 s1]) (S1 := [wB cI cJ v_5 v_6 v_7 v_8 v_9 v_10 v_11 v_12 v_13 v_14 v_15 v_16 v_17 v_18 v_19 s3]) (S' := [wV0 cI cJ v_0 v_1 v_2 v_3 v_4 v_5 (VS_setb (VS_setb v0 s1) s3), wB cI cJ v_5 v_6 v_7 v_8 v_9 v_10 v_11 v_12 v_13 v_14 v_15 v_16 v_17 v_18 v_19 s3]) C (c_X0_settle l D cB cI cJ cZ v_5 v_6 v_7 v_8 v_9 v_10 v_11 v_12 v_13 v_14 v_15 v_16 v_17 v_18 v_19 y4) rfl rfl (gIV ml_X6_56 im_X0_settle sl_X0_settle in_X0 cd_X0_settle) rfl eX0_settle rfl ⟨rfl, rfl⟩ ⟨Nat.le_of_ble_eq_true rfl, Nat.le_of_ble_eq_true rfl⟩ rfl rfl rfl [1] rfl rfl rfl rfl (gA_cons aB gA_nil) rfl rfl (Nat.le_of_ble_eq_true rfl) (tdec DX6_dropHidden 8 rfl) rfl ?_
  refine g_aload_n (z := 0) C (tdec DX6_dropHidden 9 rfl) rfl rfl rfl ?_
  refine g_iconst (v := 0) C (tdec DX6_dropHidden 10 rfl) (by decide) rfl ?_
  refine g_putf (C' := RX6) (T := TX6) (N := 6) (v := .int 0) (ws' := wV cI cJ v_0 v_1 v_2 v_3 v_4 v_5 v_6 v_7 v_8 v_9 v_10 v_11 v_12 v_13 v_14 v_15 v_16 v_17 v_18 v_19 (VS_setbusy (VS_setb (VS_setb v0 s1) s3) 0)) C 0 5 tyX6 tyX6_ok nmX6 (gIn iw_X6) rfl rfl (by decide) (gMem fl_X6_45) rfl rfl (tyX6_ok 5 (by decide)) rfl rfl (Nat.le_of_ble_eq_true rfl) rfl (tdec DX6_dropHidden 11 rfl) rfl ?_
  have hr9 := o_some hF
  subst hr9
  exact g_vret C rfl (tdec DX6_dropHidden 12 rfl)
def FX6_generationOf (v0 : VS) (p1 : Int32) : Option (Int32) :=
  (FX1_at 20 (VS_gn v0) p1).bind fun r1 =>
  some r1
def rX6_generationOf : Room := { frames := 1, cells := 0, slots := 0, locals := 21 }
set_option maxHeartbeats 4000000 in
set_option maxRecDepth 100000 in
theorem c_X6_generationOf (l : Launch) (D : va_G) (cB cI cJ cZ : ClassId) (v_0 v_1 v_2 v_3 v_4 v_5 v_6 v_7 v_8 v_9 v_10 v_11 v_12 v_13 v_14 v_15 v_16 v_17 v_18 v_19 : Nat) {v0 : VS} {p1 : Int32} {res : Int32} (hF : FX6_generationOf v0 p1 = some res) : gRi l yX6_generationOf wsX6_generationOf rX6_generationOf D (gT cB cI cJ cZ) [.ref v_0, .int p1] (wV cI cJ v_0 v_1 v_2 v_3 v_4 v_5 v_6 v_7 v_8 v_9 v_10 v_11 v_12 v_13 v_14 v_15 v_16 v_17 v_18 v_19 v0) res := by
  refine g_enter (own := RX6) (free := (fun _ _ => False)) (Qc := (fun sz => gRQi res)) (fun _ _ => True) (fun sz => Or.inl rfl) rfl (by decide) rfl (Nat.le_of_ble_eq_true rfl) rfl ?_
  intro p e s m args below meth c C
  unfold FX6_generationOf at hF
  refine g_aload_n (z := 0) C (tdec DX6_generationOf 0 rfl) rfl rfl rfl ?_
  refine g_getf (C' := RX6) (T := TX6) (N := 6) (v := .ref v_3) C 0 2 (gIn iw_X6) rfl rfl (by decide) (gMem fl_X6_30) rfl rfl (tdec DX6_generationOf 1 rfl) rfl ?_
  refine g_iload_n (z := 1) C (tdec DX6_generationOf 2 rfl) rfl rfl rfl ?_
  obtain ⟨r1, y2, hF⟩ := o_bind hF
  refine g_callViR (q0 := 3) C (c_X1_at l D cB cI cJ cZ v_3 v_4 y2) rfl rfl (gIV ml_X6_53 im_X1_at sl_X1_at in_X1 cd_X1_at) rfl eX1_at rfl ⟨rfl, rfl⟩ ⟨Nat.le_of_ble_eq_true rfl, Nat.le_of_ble_eq_true rfl⟩ rfl [3, 4] rfl rfl rfl (Nat.le_of_ble_eq_true rfl) (tdec DX6_generationOf 3 rfl) rfl ?_
  have hr9 := o_some hF
  subst hr9
  exact g_iretR C rfl (tdec DX6_generationOf 4 rfl)
def FX6_markOf (v0 : VS) (p1 : Int32) : Option (Int64) :=
  (FX2_at 20 (VS_mk v0) p1).bind fun r1 =>
  some r1
def rX6_markOf : Room := { frames := 1, cells := 0, slots := 0, locals := 21 }
set_option maxHeartbeats 4000000 in
set_option maxRecDepth 100000 in
theorem c_X6_markOf (l : Launch) (D : va_G) (cB cI cJ cZ : ClassId) (v_0 v_1 v_2 v_3 v_4 v_5 v_6 v_7 v_8 v_9 v_10 v_11 v_12 v_13 v_14 v_15 v_16 v_17 v_18 v_19 : Nat) {v0 : VS} {p1 : Int32} {res : Int64} (hF : FX6_markOf v0 p1 = some res) : gRl l yX6_markOf wsX6_markOf rX6_markOf D (gT cB cI cJ cZ) [.ref v_0, .int p1] (wV cI cJ v_0 v_1 v_2 v_3 v_4 v_5 v_6 v_7 v_8 v_9 v_10 v_11 v_12 v_13 v_14 v_15 v_16 v_17 v_18 v_19 v0) res := by
  refine g_enter (own := RX6) (free := (fun _ _ => False)) (Qc := (fun sz => gRQl res)) (fun _ _ => True) (fun sz => Or.inl rfl) rfl (by decide) rfl (Nat.le_of_ble_eq_true rfl) rfl ?_
  intro p e s m args below meth c C
  unfold FX6_markOf at hF
  refine g_aload_n (z := 0) C (tdec DX6_markOf 0 rfl) rfl rfl rfl ?_
  refine g_getf (C' := RX6) (T := TX6) (N := 6) (v := .ref v_1) C 0 1 (gIn iw_X6) rfl rfl (by decide) (gMem fl_X6_23) rfl rfl (tdec DX6_markOf 1 rfl) rfl ?_
  refine g_iload_n (z := 1) C (tdec DX6_markOf 2 rfl) rfl rfl rfl ?_
  obtain ⟨r1, y2, hF⟩ := o_bind hF
  refine g_callVlR (q0 := 1) C (c_X2_at l D cB cI cJ cZ v_1 v_2 y2) rfl rfl (gIV ml_X6_49 im_X2_at sl_X2_at in_X2 cd_X2_at) rfl eX2_at rfl ⟨rfl, rfl⟩ ⟨Nat.le_of_ble_eq_true rfl, Nat.le_of_ble_eq_true rfl⟩ rfl [1, 2] rfl rfl rfl (Nat.le_of_ble_eq_true rfl) (tdec DX6_markOf 3 rfl) rfl ?_
  have hr9 := o_some hF
  subst hr9
  exact g_lretR C rfl (tdec DX6_markOf 4 rfl)
def FX6_blocks (v0 : VS) : Option (Option Nat) :=
  some (some 0)
def rX6_blocks : Room := { frames := 0, cells := 0, slots := 0, locals := 0 }
set_option maxHeartbeats 4000000 in
set_option maxRecDepth 100000 in
theorem c_X6_blocks (l : Launch) (D : va_G) (cB cI cJ cZ : ClassId) (v_0 v_1 v_2 v_3 v_4 v_5 v_6 v_7 v_8 v_9 v_10 v_11 v_12 v_13 v_14 v_15 v_16 v_17 v_18 v_19 : Nat) {v0 : VS} {res : Option Nat} (hF : FX6_blocks v0 = some res) : gRq l yX6_blocks wsX6_blocks rX6_blocks D (gT cB cI cJ cZ) [.ref v_0] (wV cI cJ v_0 v_1 v_2 v_3 v_4 v_5 v_6 v_7 v_8 v_9 v_10 v_11 v_12 v_13 v_14 v_15 v_16 v_17 v_18 v_19 v0) (res.map fun _ => v_5) := by
  refine g_enter (own := RX6) (free := (fun _ _ => False)) (Qc := (fun sz => gRQq (res.map fun _ => v_5))) (fun _ _ => True) (fun sz => Or.inl rfl) rfl (by decide) rfl (Nat.le_of_ble_eq_true rfl) rfl ?_
  intro p e s m args below meth c C
  unfold FX6_blocks at hF
  refine g_aload_n (z := 0) C (tdec DX6_blocks 0 rfl) rfl rfl rfl ?_
  refine g_getf (C' := RX6) (T := TX6) (N := 6) (v := .ref v_5) C 0 0 (gIn iw_X6) rfl rfl (by decide) (gMem fl_X6_12) rfl rfl (tdec DX6_blocks 1 rfl) rfl ?_
  have hr9 := o_some hF
  subst hr9
  exact g_aretR C rfl (tdec DX6_blocks 2 rfl)
def FX6_startAnew (v0 : VS) (p1 : Int32) : Option (VS) :=
  (FX0_startAnew (VS_b v0) p1).bind fun s1 =>
  some (VS_setbusy (VS_setsnaps (VS_setgen (VS_setb v0 s1) 1) 0) 0)
def rX6_startAnew : Room := { frames := 3, cells := 0, slots := 0, locals := 65 }
set_option maxHeartbeats 4000000 in
set_option maxRecDepth 100000 in
theorem c_X6_startAnew (l : Launch) (D : va_G) (cB cI cJ cZ : ClassId) (v_0 v_1 v_2 v_3 v_4 v_5 v_6 v_7 v_8 v_9 v_10 v_11 v_12 v_13 v_14 v_15 v_16 v_17 v_18 v_19 : Nat) {v0 : VS} {p1 : Int32} {res : VS} (hF : FX6_startAnew v0 p1 = some res) : gMv l yX6_startAnew wsX6_startAnew rX6_startAnew D (gT cB cI cJ cZ) [.ref v_0, .int p1] (wV cI cJ v_0 v_1 v_2 v_3 v_4 v_5 v_6 v_7 v_8 v_9 v_10 v_11 v_12 v_13 v_14 v_15 v_16 v_17 v_18 v_19 v0) (wV cI cJ v_0 v_1 v_2 v_3 v_4 v_5 v_6 v_7 v_8 v_9 v_10 v_11 v_12 v_13 v_14 v_15 v_16 v_17 v_18 v_19 res) := by
  refine g_enter (own := RX6) (free := (fun sz => va_A (wV cI cJ v_0 v_1 v_2 v_3 v_4 v_5 v_6 v_7 v_8 v_9 v_10 v_11 v_12 v_13 v_14 v_15 v_16 v_17 v_18 v_19 v0) sz)) (Qc := (fun sz => gQv D (wV cI cJ v_0 v_1 v_2 v_3 v_4 v_5 v_6 v_7 v_8 v_9 v_10 v_11 v_12 v_13 v_14 v_15 v_16 v_17 v_18 v_19 v0) sz (wV cI cJ v_0 v_1 v_2 v_3 v_4 v_5 v_6 v_7 v_8 v_9 v_10 v_11 v_12 v_13 v_14 v_15 v_16 v_17 v_18 v_19 res))) (fun sz => va_A (wV cI cJ v_0 v_1 v_2 v_3 v_4 v_5 v_6 v_7 v_8 v_9 v_10 v_11 v_12 v_13 v_14 v_15 v_16 v_17 v_18 v_19 v0) sz) (fun sz => Or.inr rfl) rfl (by decide) rfl (Nat.le_of_ble_eq_true rfl) rfl ?_
  intro p e s m args below meth c C
  unfold FX6_startAnew at hF
  refine g_aload_n (z := 0) C (tdec DX6_startAnew 0 rfl) rfl rfl rfl ?_
  refine g_getf (C' := RX6) (T := TX6) (N := 6) (v := .ref v_5) C 0 0 (gIn iw_X6) rfl rfl (by decide) (gMem fl_X6_12) rfl rfl (tdec DX6_startAnew 1 rfl) rfl ?_
  refine g_iload_n (z := 1) C (tdec DX6_startAnew 2 rfl) rfl rfl rfl ?_
  obtain ⟨s1, y2, hF⟩ := o_bind hF
  refine g_callVvMS (q0 := 5) (W' := wV cI cJ v_0 v_1 v_2 v_3 v_4 v_5 v_6 v_7 v_8 v_9 v_10 v_11 v_12 v_13 v_14 v_15 v_16 v_17 v_18 v_19 (VS_setb v0 s1)) (S := [wV0 cI cJ v_0 v_1 v_2 v_3 v_4 v_5 v0, wB cI cJ v_5 v_6 v_7 v_8 v_9 v_10 v_11 v_12 v_13 v_14 v_15 v_16 v_17 v_18 v_19 (VS_b v0)]) (S0 := [wB cI cJ v_5 v_6 v_7 v_8 v_9 v_10 v_11 v_12 v_13 v_14 v_15 v_16 v_17 v_18 v_19 (VS_b v0)]) (S1 := [wB cI cJ v_5 v_6 v_7 v_8 v_9 v_10 v_11 v_12 v_13 v_14 v_15 v_16 v_17 v_18 v_19 s1]) (S' := [wV0 cI cJ v_0 v_1 v_2 v_3 v_4 v_5 (VS_setb v0 s1), wB cI cJ v_5 v_6 v_7 v_8 v_9 v_10 v_11 v_12 v_13 v_14 v_15 v_16 v_17 v_18 v_19 s1]) C (c_X0_startAnew l D cB cI cJ cZ v_5 v_6 v_7 v_8 v_9 v_10 v_11 v_12 v_13 v_14 v_15 v_16 v_17 v_18 v_19 y2) rfl rfl (gIV ml_X6_37 im_X0_startAnew sl_X0_startAnew in_X0 cd_X0_startAnew) rfl eX0_startAnew rfl ⟨rfl, rfl⟩ ⟨Nat.le_of_ble_eq_true rfl, Nat.le_of_ble_eq_true rfl⟩ rfl rfl rfl [1] rfl rfl rfl rfl (gA_cons aB gA_nil) rfl rfl (Nat.le_of_ble_eq_true rfl) (tdec DX6_startAnew 3 rfl) rfl ?_
  refine g_aload_n (z := 0) C (tdec DX6_startAnew 4 rfl) rfl rfl rfl ?_
  refine g_iconst (v := 1) C (tdec DX6_startAnew 5 rfl) (by decide) rfl ?_
  refine g_putf (C' := RX6) (T := TX6) (N := 6) (v := .int 1) (ws' := wV cI cJ v_0 v_1 v_2 v_3 v_4 v_5 v_6 v_7 v_8 v_9 v_10 v_11 v_12 v_13 v_14 v_15 v_16 v_17 v_18 v_19 (VS_setgen (VS_setb v0 s1) 1)) C 0 3 tyX6 tyX6_ok nmX6 (gIn iw_X6) rfl rfl (by decide) (gMem fl_X6_38) rfl rfl (tyX6_ok 3 (by decide)) rfl rfl (Nat.le_of_ble_eq_true rfl) rfl (tdec DX6_startAnew 6 rfl) rfl ?_
  refine g_aload_n (z := 0) C (tdec DX6_startAnew 7 rfl) rfl rfl rfl ?_
  refine g_iconst (v := 0) C (tdec DX6_startAnew 8 rfl) (by decide) rfl ?_
  refine g_putf (C' := RX6) (T := TX6) (N := 6) (v := .int 0) (ws' := wV cI cJ v_0 v_1 v_2 v_3 v_4 v_5 v_6 v_7 v_8 v_9 v_10 v_11 v_12 v_13 v_14 v_15 v_16 v_17 v_18 v_19 (VS_setsnaps (VS_setgen (VS_setb v0 s1) 1) 0)) C 0 4 tyX6 tyX6_ok nmX6 (gIn iw_X6) rfl rfl (by decide) (gMem fl_X6_42) rfl rfl (tyX6_ok 4 (by decide)) rfl rfl (Nat.le_of_ble_eq_true rfl) rfl (tdec DX6_startAnew 9 rfl) rfl ?_
  refine g_aload_n (z := 0) C (tdec DX6_startAnew 10 rfl) rfl rfl rfl ?_
  refine g_iconst (v := 0) C (tdec DX6_startAnew 11 rfl) (by decide) rfl ?_
  refine g_putf (C' := RX6) (T := TX6) (N := 6) (v := .int 0) (ws' := wV cI cJ v_0 v_1 v_2 v_3 v_4 v_5 v_6 v_7 v_8 v_9 v_10 v_11 v_12 v_13 v_14 v_15 v_16 v_17 v_18 v_19 (VS_setbusy (VS_setsnaps (VS_setgen (VS_setb v0 s1) 1) 0) 0)) C 0 5 tyX6 tyX6_ok nmX6 (gIn iw_X6) rfl rfl (by decide) (gMem fl_X6_45) rfl rfl (tyX6_ok 5 (by decide)) rfl rfl (Nat.le_of_ble_eq_true rfl) rfl (tdec DX6_startAnew 12 rfl) rfl ?_
  have hr9 := o_some hF
  subst hr9
  exact g_vret C rfl (tdec DX6_startAnew 13 rfl)
def FX6_generation (v0 : VS) : Option (Int32) :=
  some (VS_gen v0)
def rX6_generation : Room := { frames := 0, cells := 0, slots := 0, locals := 0 }
set_option maxHeartbeats 4000000 in
set_option maxRecDepth 100000 in
theorem c_X6_generation (l : Launch) (D : va_G) (cB cI cJ cZ : ClassId) (v_0 v_1 v_2 v_3 v_4 v_5 v_6 v_7 v_8 v_9 v_10 v_11 v_12 v_13 v_14 v_15 v_16 v_17 v_18 v_19 : Nat) {v0 : VS} {res : Int32} (hF : FX6_generation v0 = some res) : gRi l yX6_generation wsX6_generation rX6_generation D (gT cB cI cJ cZ) [.ref v_0] (wV cI cJ v_0 v_1 v_2 v_3 v_4 v_5 v_6 v_7 v_8 v_9 v_10 v_11 v_12 v_13 v_14 v_15 v_16 v_17 v_18 v_19 v0) res := by
  refine g_enter (own := RX6) (free := (fun _ _ => False)) (Qc := (fun sz => gRQi res)) (fun _ _ => True) (fun sz => Or.inl rfl) rfl (by decide) rfl (Nat.le_of_ble_eq_true rfl) rfl ?_
  intro p e s m args below meth c C
  unfold FX6_generation at hF
  refine g_aload_n (z := 0) C (tdec DX6_generation 0 rfl) rfl rfl rfl ?_
  refine g_getf (C' := RX6) (T := TX6) (N := 6) (v := .int (VS_gen v0)) C 0 3 (gIn iw_X6) rfl rfl (by decide) (gMem fl_X6_38) rfl rfl (tdec DX6_generation 1 rfl) rfl ?_
  have hr9 := o_some hF
  subst hr9
  exact g_iretR C rfl (tdec DX6_generation 2 rfl)
def FX6_hasSnapshot (v0 : VS) (p1 : Int32) : Option (Int32) :=
  if p1 < 0 then
    some 0
  else
    if (VS_snaps v0) ≤ p1 then
      some 0
    else
      some 1
def rX6_hasSnapshot : Room := { frames := 0, cells := 0, slots := 0, locals := 0 }
set_option maxHeartbeats 4000000 in
set_option maxRecDepth 100000 in
theorem c_X6_hasSnapshot (l : Launch) (D : va_G) (cB cI cJ cZ : ClassId) (v_0 v_1 v_2 v_3 v_4 v_5 v_6 v_7 v_8 v_9 v_10 v_11 v_12 v_13 v_14 v_15 v_16 v_17 v_18 v_19 : Nat) {v0 : VS} {p1 : Int32} {res : Int32} (hF : FX6_hasSnapshot v0 p1 = some res) : gRi l yX6_hasSnapshot wsX6_hasSnapshot rX6_hasSnapshot D (gT cB cI cJ cZ) [.ref v_0, .int p1] (wV cI cJ v_0 v_1 v_2 v_3 v_4 v_5 v_6 v_7 v_8 v_9 v_10 v_11 v_12 v_13 v_14 v_15 v_16 v_17 v_18 v_19 v0) res := by
  refine g_enter (own := RX6) (free := (fun _ _ => False)) (Qc := (fun sz => gRQi res)) (fun _ _ => True) (fun sz => Or.inl rfl) rfl (by decide) rfl (Nat.le_of_ble_eq_true rfl) rfl ?_
  intro p e s m args below meth c C
  unfold FX6_hasSnapshot at hF
  refine g_iload_n (z := 1) C (tdec DX6_hasSnapshot 0 rfl) rfl rfl rfl ?_
  refine g_if_lt (pt := 16) C (tdec DX6_hasSnapshot 1 rfl) (by decide) rfl (fun h1 => ?_) (fun h1 => ?_)
  · have hF := o_ifp hF h1
    refine g_iconst (v := 0) C (tdec DX6_hasSnapshot 8 rfl) (by decide) rfl ?_
    have hr9 := o_some hF
    subst hr9
    exact g_zretR C rfl rfl (tdec DX6_hasSnapshot 9 rfl)
  · have hF := o_ifn hF h1
    refine g_iload_n (z := 1) C (tdec DX6_hasSnapshot 2 rfl) rfl rfl rfl ?_
    refine g_aload_n (z := 0) C (tdec DX6_hasSnapshot 3 rfl) rfl rfl rfl ?_
    refine g_getf (C' := RX6) (T := TX6) (N := 6) (v := .int (VS_snaps v0)) C 0 4 (gIn iw_X6) rfl rfl (by decide) (gMem fl_X6_42) rfl rfl (tdec DX6_hasSnapshot 4 rfl) rfl ?_
    refine g_icmp_ge (pt := 16) C (tdec DX6_hasSnapshot 5 rfl) (by decide) rfl (fun h2 => ?_) (fun h2 => ?_)
    · have hF := o_ifp hF h2
      refine g_iconst (v := 0) C (tdec DX6_hasSnapshot 8 rfl) (by decide) rfl ?_
      have hr9 := o_some hF
      subst hr9
      exact g_zretR C rfl rfl (tdec DX6_hasSnapshot 9 rfl)
    · have hF := o_ifn hF h2
      refine g_iconst (v := 1) C (tdec DX6_hasSnapshot 6 rfl) (by decide) rfl ?_
      refine g_goto (pt := 17) C (tdec DX6_hasSnapshot 7 rfl) (by decide) ?_
      have hr9 := o_some hF
      subst hr9
      exact g_zretR C rfl rfl (tdec DX6_hasSnapshot 9 rfl)
def FX6_readPlace (v0 : VS) (p1 : Int32) (p2 : Int32) : Option (Int64) :=
  (FX6_slotToLevel v0 p1 p2 0).bind fun r1 =>
  (FX0_told (VS_b v0) r1).bind fun r3 =>
  if r3 = (-1) then
    some 0
  else
    (FX0_number (VS_b v0) r3).bind fun r6 =>
    some r6
def rX6_readPlace : Room := { frames := 3, cells := 0, slots := 0, locals := 69 }
set_option maxHeartbeats 4000000 in
set_option maxRecDepth 100000 in
theorem c_X6_readPlace (l : Launch) (D : va_G) (cB cI cJ cZ : ClassId) (v_0 v_1 v_2 v_3 v_4 v_5 v_6 v_7 v_8 v_9 v_10 v_11 v_12 v_13 v_14 v_15 v_16 v_17 v_18 v_19 : Nat) {v0 : VS} {p1 : Int32} {p2 : Int32} {res : Int64} (hF : FX6_readPlace v0 p1 p2 = some res) : gRl l yX6_readPlace wsX6_readPlace rX6_readPlace D (gT cB cI cJ cZ) [.ref v_0, .int p1, .int p2] (wV cI cJ v_0 v_1 v_2 v_3 v_4 v_5 v_6 v_7 v_8 v_9 v_10 v_11 v_12 v_13 v_14 v_15 v_16 v_17 v_18 v_19 v0) res := by
  refine g_enter (own := RX6) (free := (fun _ _ => False)) (Qc := (fun sz => gRQl res)) (fun _ _ => True) (fun sz => Or.inl rfl) rfl (by decide) rfl (Nat.le_of_ble_eq_true rfl) rfl ?_
  intro p e s m args below meth c C
  unfold FX6_readPlace at hF
  refine g_aload_n (z := 0) C (tdec DX6_readPlace 0 rfl) rfl rfl rfl ?_
  refine g_getf (C' := RX6) (T := TX6) (N := 6) (v := .ref v_5) C 0 0 (gIn iw_X6) rfl rfl (by decide) (gMem fl_X6_12) rfl rfl (tdec DX6_readPlace 1 rfl) rfl ?_
  refine g_aload_n (z := 0) C (tdec DX6_readPlace 2 rfl) rfl rfl rfl ?_
  refine g_iload_n (z := 1) C (tdec DX6_readPlace 3 rfl) rfl rfl rfl ?_
  refine g_iload_n (z := 2) C (tdec DX6_readPlace 4 rfl) rfl rfl rfl ?_
  refine g_iconst (v := 0) C (tdec DX6_readPlace 5 rfl) (by decide) rfl ?_
  obtain ⟨r1, y2, hF⟩ := o_bind hF
  refine g_callViRS (q0 := 0) (S := [wV cI cJ v_0 v_1 v_2 v_3 v_4 v_5 v_6 v_7 v_8 v_9 v_10 v_11 v_12 v_13 v_14 v_15 v_16 v_17 v_18 v_19 v0]) (S0 := [wV cI cJ v_0 v_1 v_2 v_3 v_4 v_5 v_6 v_7 v_8 v_9 v_10 v_11 v_12 v_13 v_14 v_15 v_16 v_17 v_18 v_19 v0]) C (c_X6_slotToLevel l D cB cI cJ cZ v_0 v_1 v_2 v_3 v_4 v_5 v_6 v_7 v_8 v_9 v_10 v_11 v_12 v_13 v_14 v_15 v_16 v_17 v_18 v_19 y2) rfl rfl (gIV ml_X6_59 im_X6_slotToLevel sl_X6_slotToLevel in_X6 cd_X6_slotToLevel) rfl eX6_slotToLevel rfl ⟨rfl, rfl⟩ ⟨Nat.le_of_ble_eq_true rfl, Nat.le_of_ble_eq_true rfl⟩ rfl rfl rfl [0] rfl rfl rfl (Nat.le_of_ble_eq_true rfl) (tdec DX6_readPlace 6 rfl) rfl ?_
  obtain ⟨r3, y4, hF⟩ := o_bind hF
  refine g_callViRS (q0 := 5) (S := [wV0 cI cJ v_0 v_1 v_2 v_3 v_4 v_5 v0, wB cI cJ v_5 v_6 v_7 v_8 v_9 v_10 v_11 v_12 v_13 v_14 v_15 v_16 v_17 v_18 v_19 (VS_b v0)]) (S0 := [wB cI cJ v_5 v_6 v_7 v_8 v_9 v_10 v_11 v_12 v_13 v_14 v_15 v_16 v_17 v_18 v_19 (VS_b v0)]) C (c_X0_told l D cB cI cJ cZ v_5 v_6 v_7 v_8 v_9 v_10 v_11 v_12 v_13 v_14 v_15 v_16 v_17 v_18 v_19 y4) rfl rfl (gIV ml_X6_63 im_X0_told sl_X0_told in_X0 cd_X0_told) rfl eX0_told rfl ⟨rfl, rfl⟩ ⟨Nat.le_of_ble_eq_true rfl, Nat.le_of_ble_eq_true rfl⟩ rfl rfl rfl [1] rfl rfl rfl (Nat.le_of_ble_eq_true rfl) (tdec DX6_readPlace 7 rfl) rfl ?_
  refine g_istore_n (L' := [(3, .int r3), (0, .ref v_0), (1, .int p1), (2, .int p2)]) C (tdec DX6_readPlace 8 rfl) rfl (by decide) rfl rfl ?_
  refine g_iload_n (z := 0) C (tdec DX6_readPlace 9 rfl) rfl rfl rfl ?_
  refine g_iconst (v := (-1)) C (tdec DX6_readPlace 10 rfl) (by decide) rfl ?_
  refine g_icmp_ne (pt := 24) C (tdec DX6_readPlace 11 rfl) (by decide) rfl (fun h5 => ?_) (fun h5 => ?_)
  · have hF := o_ifn hF h5
    refine g_aload_n (z := 1) C (tdec DX6_readPlace 14 rfl) rfl rfl rfl ?_
    refine g_getf (C' := RX6) (T := TX6) (N := 6) (v := .ref v_5) C 0 0 (gIn iw_X6) rfl rfl (by decide) (gMem fl_X6_12) rfl rfl (tdec DX6_readPlace 15 rfl) rfl ?_
    refine g_iload_n (z := 0) C (tdec DX6_readPlace 16 rfl) rfl rfl rfl ?_
    obtain ⟨r6, y7, hF⟩ := o_bind hF
    refine g_callVlRS (q0 := 5) (S := [wV0 cI cJ v_0 v_1 v_2 v_3 v_4 v_5 v0, wB cI cJ v_5 v_6 v_7 v_8 v_9 v_10 v_11 v_12 v_13 v_14 v_15 v_16 v_17 v_18 v_19 (VS_b v0)]) (S0 := [wB cI cJ v_5 v_6 v_7 v_8 v_9 v_10 v_11 v_12 v_13 v_14 v_15 v_16 v_17 v_18 v_19 (VS_b v0)]) C (c_X0_number l D cB cI cJ cZ v_5 v_6 v_7 v_8 v_9 v_10 v_11 v_12 v_13 v_14 v_15 v_16 v_17 v_18 v_19 y7) rfl rfl (gIV ml_X6_66 im_X0_number sl_X0_number in_X0 cd_X0_number) rfl eX0_number rfl ⟨rfl, rfl⟩ ⟨Nat.le_of_ble_eq_true rfl, Nat.le_of_ble_eq_true rfl⟩ rfl rfl rfl [1] rfl rfl rfl (Nat.le_of_ble_eq_true rfl) (tdec DX6_readPlace 17 rfl) rfl ?_
    have hr9 := o_some hF
    subst hr9
    exact g_lretR C rfl (tdec DX6_readPlace 18 rfl)
  · have hF := o_ifp hF h5
    refine g_lconst (v := 0) C (tdec DX6_readPlace 12 rfl) (by decide) rfl ?_
    refine g_goto (pt := 32) C (tdec DX6_readPlace 13 rfl) (by decide) ?_
    have hr9 := o_some hF
    subst hr9
    exact g_lretR C rfl (tdec DX6_readPlace 18 rfl)
def FX6_dropSnapshot_L12 (v1 : Int32) (k9 : VS → Int32 → Option (Int32 × VS)) : Nat → VS → Int32 → Option (Int32 × VS)
  | 0, _, _ => none
  | n9 + 1, v, v2 =>
    if (VS_snaps v) ≤ v2 then
      k9 v v2
    else
      (FX0_told (VS_b v) ((4802 + v2) + 1)).bind fun r2 =>
      (FX0_birth (VS_b v) ((4802 + v2) + 1)).bind fun r4 =>
      (FX0_point (VS_b v) (((4802 + v2) + 1) - 1) r2 r4).bind fun s6 =>
      (FX2_at 20 (VS_mk v) (v2 + 1)).bind fun r8 =>
      (FX2_put 20 (VS_mk v) v2 r8).bind fun s10 =>
      (FX1_at 20 (VS_gn v) (v2 + 1)).bind fun r12 =>
      (FX1_put 20 (VS_gn v) v2 r12).bind fun s14 =>
      FX6_dropSnapshot_L12 v1 k9 n9 (VS_setgn (VS_setmk (VS_setb v s6) s10) s14) (v2 + 1)
def FX6_dropSnapshot (v0 : VS) (p1 : Int32) : Option (Int32 × VS) :=
  FX6_dropSnapshot_L12 p1 (fun vq16 w2_16 =>
    (FX0_point (VS_b vq16) (4802 + (VS_snaps vq16)) (-1) 0).bind fun s17 =>
    (FX0_settle s17).bind fun s19 =>
    some ((VS_snaps vq16), (VS_setb (VS_setb vq16 s17) s19))) 100000 (VS_setsnaps v0 ((VS_snaps v0) - 1)) p1
def rX6_dropSnapshot : Room := { frames := 3, cells := 0, slots := 0, locals := 69 }
set_option maxHeartbeats 4000000 in
set_option maxRecDepth 100000 in
theorem c_FX6_dropSnapshot_L12 {p : Program} {l : Launch} {e : Env} {s : State} {m : MethodId} {args : Array Value} {below : List Frame} {meth : Method} {c : Code} {D : va_G} {cB cI cJ cZ : ClassId} {v_0 v_1 v_2 v_3 v_4 v_5 v_6 v_7 v_8 v_9 v_10 v_11 v_12 v_13 v_14 v_15 v_16 v_17 v_18 v_19 : Nat} {v0 : VS} {res : Int32 × VS} (C : gC p s m args meth c cX6_dropSnapshot 4 RX6 wsX6_dropSnapshot D (gT cB cI cJ cZ) (some .int) (va_A (wV cI cJ v_0 v_1 v_2 v_3 v_4 v_5 v_6 v_7 v_8 v_9 v_10 v_11 v_12 v_13 v_14 v_15 v_16 v_17 v_18 v_19 v0) s.heap.size)) {v1 : Int32} {k9 : VS → Int32 → Option (Int32 × VS)} (hk9 : ∀ (v : VS) (v2 : Int32), k9 v v2 = some res → gG p l e (headSpec wsX6_dropSnapshot rX6_dropSnapshot).room s m args below meth c 0 0 D (va_A (wV cI cJ v_0 v_1 v_2 v_3 v_4 v_5 v_6 v_7 v_8 v_9 v_10 v_11 v_12 v_13 v_14 v_15 v_16 v_17 v_18 v_19 v0) s.heap.size) (va_A (wV cI cJ v_0 v_1 v_2 v_3 v_4 v_5 v_6 v_7 v_8 v_9 v_10 v_11 v_12 v_13 v_14 v_15 v_16 v_17 v_18 v_19 v0) s.heap.size) 4 (MQ below (gQi D (wV cI cJ v_0 v_1 v_2 v_3 v_4 v_5 v_6 v_7 v_8 v_9 v_10 v_11 v_12 v_13 v_14 v_15 v_16 v_17 v_18 v_19 v0) s.heap.size res.1 (wV cI cJ v_0 v_1 v_2 v_3 v_4 v_5 v_6 v_7 v_8 v_9 v_10 v_11 v_12 v_13 v_14 v_15 v_16 v_17 v_18 v_19 res.2)) args s 0 0 (va_A (wV cI cJ v_0 v_1 v_2 v_3 v_4 v_5 v_6 v_7 v_8 v_9 v_10 v_11 v_12 v_13 v_14 v_15 v_16 v_17 v_18 v_19 v0) s.heap.size)) (wV cI cJ v_0 v_1 v_2 v_3 v_4 v_5 v_6 v_7 v_8 v_9 v_10 v_11 v_12 v_13 v_14 v_15 v_16 v_17 v_18 v_19 v) 96 [(0, .ref v_0), (1, .int v1), (2, .int v2)] []) :
    ∀ (n9 : Nat) (v : VS) (v2 : Int32), FX6_dropSnapshot_L12 v1 k9 n9 v v2 = some res → gG p l e (headSpec wsX6_dropSnapshot rX6_dropSnapshot).room s m args below meth c 0 0 D (va_A (wV cI cJ v_0 v_1 v_2 v_3 v_4 v_5 v_6 v_7 v_8 v_9 v_10 v_11 v_12 v_13 v_14 v_15 v_16 v_17 v_18 v_19 v0) s.heap.size) (va_A (wV cI cJ v_0 v_1 v_2 v_3 v_4 v_5 v_6 v_7 v_8 v_9 v_10 v_11 v_12 v_13 v_14 v_15 v_16 v_17 v_18 v_19 v0) s.heap.size) 4 (MQ below (gQi D (wV cI cJ v_0 v_1 v_2 v_3 v_4 v_5 v_6 v_7 v_8 v_9 v_10 v_11 v_12 v_13 v_14 v_15 v_16 v_17 v_18 v_19 v0) s.heap.size res.1 (wV cI cJ v_0 v_1 v_2 v_3 v_4 v_5 v_6 v_7 v_8 v_9 v_10 v_11 v_12 v_13 v_14 v_15 v_16 v_17 v_18 v_19 res.2)) args s 0 0 (va_A (wV cI cJ v_0 v_1 v_2 v_3 v_4 v_5 v_6 v_7 v_8 v_9 v_10 v_11 v_12 v_13 v_14 v_15 v_16 v_17 v_18 v_19 v0) s.heap.size)) (wV cI cJ v_0 v_1 v_2 v_3 v_4 v_5 v_6 v_7 v_8 v_9 v_10 v_11 v_12 v_13 v_14 v_15 v_16 v_17 v_18 v_19 v) 12 [(0, .ref v_0), (1, .int v1), (2, .int v2)] [] := by
  intro n9
  induction n9 with
  | zero =>
    intro v v2 hF
    exact absurd hF (by simp [FX6_dropSnapshot_L12])
  | succ n9 ih9 =>
    intro v v2 hF
    rw [FX6_dropSnapshot_L12] at hF
    refine g_iload_n (z := 2) C (tdec DX6_dropSnapshot 8 rfl) rfl rfl rfl ?_
    refine g_aload_n (z := 0) C (tdec DX6_dropSnapshot 9 rfl) rfl rfl rfl ?_
    refine g_getf (C' := RX6) (T := TX6) (N := 6) (v := .int (VS_snaps v)) C 0 4 (gIn iw_X6) rfl rfl (by decide) (gMem fl_X6_42) rfl rfl (tdec DX6_dropSnapshot 10 rfl) rfl ?_
    refine g_icmp_ge (pt := 96) C (tdec DX6_dropSnapshot 11 rfl) (by decide) rfl (fun h1 => ?_) (fun h1 => ?_)
    · have hF := o_ifp hF h1
      refine g_sub (L' := [(0, .ref v_0), (1, .int v1), (2, .int v2)]) [0, 1, 2] rfl ?_
      exact hk9 _ _ hF
    · have hF := o_ifn hF h1
      refine g_sipush (v := 4802) C (tdec DX6_dropSnapshot 12 rfl) (by decide) rfl ?_
      refine g_iload_n (z := 2) C (tdec DX6_dropSnapshot 13 rfl) rfl rfl rfl ?_
      refine g_iadd C (tdec DX6_dropSnapshot 14 rfl) rfl ?_
      refine g_iconst (v := 1) C (tdec DX6_dropSnapshot 15 rfl) (by decide) rfl ?_
      refine g_iadd C (tdec DX6_dropSnapshot 16 rfl) rfl ?_
      refine g_istore_n (L' := [(3, .int ((4802 + v2) + 1)), (0, .ref v_0), (1, .int v1), (2, .int v2)]) C (tdec DX6_dropSnapshot 17 rfl) rfl (by decide) rfl rfl ?_
      refine g_aload_n (z := 1) C (tdec DX6_dropSnapshot 18 rfl) rfl rfl rfl ?_
      refine g_getf (C' := RX6) (T := TX6) (N := 6) (v := .ref v_5) C 0 0 (gIn iw_X6) rfl rfl (by decide) (gMem fl_X6_12) rfl rfl (tdec DX6_dropSnapshot 19 rfl) rfl ?_
      refine g_iload_n (z := 0) C (tdec DX6_dropSnapshot 20 rfl) rfl rfl rfl ?_
      refine g_iconst (v := 1) C (tdec DX6_dropSnapshot 21 rfl) (by decide) rfl ?_
      refine g_isub C (tdec DX6_dropSnapshot 22 rfl) rfl ?_
      refine g_aload_n (z := 1) C (tdec DX6_dropSnapshot 23 rfl) rfl rfl rfl ?_
      refine g_getf (C' := RX6) (T := TX6) (N := 6) (v := .ref v_5) C 0 0 (gIn iw_X6) rfl rfl (by decide) (gMem fl_X6_12) rfl rfl (tdec DX6_dropSnapshot 24 rfl) rfl ?_
      refine g_iload_n (z := 0) C (tdec DX6_dropSnapshot 25 rfl) rfl rfl rfl ?_
      obtain ⟨r2, y3, hF⟩ := o_bind hF
      refine g_callViRS (q0 := 5) (S := [wV0 cI cJ v_0 v_1 v_2 v_3 v_4 v_5 v, wB cI cJ v_5 v_6 v_7 v_8 v_9 v_10 v_11 v_12 v_13 v_14 v_15 v_16 v_17 v_18 v_19 (VS_b v)]) (S0 := [wB cI cJ v_5 v_6 v_7 v_8 v_9 v_10 v_11 v_12 v_13 v_14 v_15 v_16 v_17 v_18 v_19 (VS_b v)]) C (c_X0_told l D cB cI cJ cZ v_5 v_6 v_7 v_8 v_9 v_10 v_11 v_12 v_13 v_14 v_15 v_16 v_17 v_18 v_19 y3) rfl rfl (gIV ml_X6_63 im_X0_told sl_X0_told in_X0 cd_X0_told) rfl eX0_told rfl ⟨rfl, rfl⟩ ⟨Nat.le_of_ble_eq_true rfl, Nat.le_of_ble_eq_true rfl⟩ rfl rfl rfl [1] rfl rfl rfl (Nat.le_of_ble_eq_true rfl) (tdec DX6_dropSnapshot 26 rfl) rfl ?_
      refine g_aload_n (z := 1) C (tdec DX6_dropSnapshot 27 rfl) rfl rfl rfl ?_
      refine g_getf (C' := RX6) (T := TX6) (N := 6) (v := .ref v_5) C 0 0 (gIn iw_X6) rfl rfl (by decide) (gMem fl_X6_12) rfl rfl (tdec DX6_dropSnapshot 28 rfl) rfl ?_
      refine g_iload_n (z := 0) C (tdec DX6_dropSnapshot 29 rfl) rfl rfl rfl ?_
      obtain ⟨r4, y5, hF⟩ := o_bind hF
      refine g_callViRS (q0 := 5) (S := [wV0 cI cJ v_0 v_1 v_2 v_3 v_4 v_5 v, wB cI cJ v_5 v_6 v_7 v_8 v_9 v_10 v_11 v_12 v_13 v_14 v_15 v_16 v_17 v_18 v_19 (VS_b v)]) (S0 := [wB cI cJ v_5 v_6 v_7 v_8 v_9 v_10 v_11 v_12 v_13 v_14 v_15 v_16 v_17 v_18 v_19 (VS_b v)]) C (c_X0_birth l D cB cI cJ cZ v_5 v_6 v_7 v_8 v_9 v_10 v_11 v_12 v_13 v_14 v_15 v_16 v_17 v_18 v_19 y5) rfl rfl (gIV ml_X6_102 im_X0_birth sl_X0_birth in_X0 cd_X0_birth) rfl eX0_birth rfl ⟨rfl, rfl⟩ ⟨Nat.le_of_ble_eq_true rfl, Nat.le_of_ble_eq_true rfl⟩ rfl rfl rfl [1] rfl rfl rfl (Nat.le_of_ble_eq_true rfl) (tdec DX6_dropSnapshot 30 rfl) rfl ?_
      obtain ⟨s6, y7, hF⟩ := o_bind hF
      refine g_callVvMS (q0 := 5) (W' := wV cI cJ v_0 v_1 v_2 v_3 v_4 v_5 v_6 v_7 v_8 v_9 v_10 v_11 v_12 v_13 v_14 v_15 v_16 v_17 v_18 v_19 (VS_setb v s6)) (S := [wV0 cI cJ v_0 v_1 v_2 v_3 v_4 v_5 v, wB cI cJ v_5 v_6 v_7 v_8 v_9 v_10 v_11 v_12 v_13 v_14 v_15 v_16 v_17 v_18 v_19 (VS_b v)]) (S0 := [wB cI cJ v_5 v_6 v_7 v_8 v_9 v_10 v_11 v_12 v_13 v_14 v_15 v_16 v_17 v_18 v_19 (VS_b v)]) (S1 := [wB cI cJ v_5 v_6 v_7 v_8 v_9 v_10 v_11 v_12 v_13 v_14 v_15 v_16 v_17 v_18 v_19 s6]) (S' := [wV0 cI cJ v_0 v_1 v_2 v_3 v_4 v_5 (VS_setb v s6), wB cI cJ v_5 v_6 v_7 v_8 v_9 v_10 v_11 v_12 v_13 v_14 v_15 v_16 v_17 v_18 v_19 s6]) C (c_X0_point l D cB cI cJ cZ v_5 v_6 v_7 v_8 v_9 v_10 v_11 v_12 v_13 v_14 v_15 v_16 v_17 v_18 v_19 y7) rfl rfl (gIV ml_X6_88 im_X0_point sl_X0_point in_X0 cd_X0_point) rfl eX0_point rfl ⟨rfl, rfl⟩ ⟨Nat.le_of_ble_eq_true rfl, Nat.le_of_ble_eq_true rfl⟩ rfl rfl rfl [1] rfl rfl rfl rfl (gA_cons aB gA_nil) rfl rfl (Nat.le_of_ble_eq_true rfl) (tdec DX6_dropSnapshot 31 rfl) rfl ?_
      refine g_aload_n (z := 1) C (tdec DX6_dropSnapshot 32 rfl) rfl rfl rfl ?_
      refine g_getf (C' := RX6) (T := TX6) (N := 6) (v := .ref v_1) C 0 1 (gIn iw_X6) rfl rfl (by decide) (gMem fl_X6_23) rfl rfl (tdec DX6_dropSnapshot 33 rfl) rfl ?_
      refine g_iload_n (z := 3) C (tdec DX6_dropSnapshot 34 rfl) rfl rfl rfl ?_
      refine g_aload_n (z := 1) C (tdec DX6_dropSnapshot 35 rfl) rfl rfl rfl ?_
      refine g_getf (C' := RX6) (T := TX6) (N := 6) (v := .ref v_1) C 0 1 (gIn iw_X6) rfl rfl (by decide) (gMem fl_X6_23) rfl rfl (tdec DX6_dropSnapshot 36 rfl) rfl ?_
      refine g_iload_n (z := 3) C (tdec DX6_dropSnapshot 37 rfl) rfl rfl rfl ?_
      refine g_iconst (v := 1) C (tdec DX6_dropSnapshot 38 rfl) (by decide) rfl ?_
      refine g_iadd C (tdec DX6_dropSnapshot 39 rfl) rfl ?_
      obtain ⟨r8, y9, hF⟩ := o_bind hF
      refine g_callVlR (q0 := 1) C (c_X2_at l D cB cI cJ cZ v_1 v_2 y9) rfl rfl (gIV ml_X6_49 im_X2_at sl_X2_at in_X2 cd_X2_at) rfl eX2_at rfl ⟨rfl, rfl⟩ ⟨Nat.le_of_ble_eq_true rfl, Nat.le_of_ble_eq_true rfl⟩ rfl [1, 2] rfl rfl rfl (Nat.le_of_ble_eq_true rfl) (tdec DX6_dropSnapshot 40 rfl) rfl ?_
      obtain ⟨s10, y11, hF⟩ := o_bind hF
      refine g_callVvM (q0 := 1) (W' := wV cI cJ v_0 v_1 v_2 v_3 v_4 v_5 v_6 v_7 v_8 v_9 v_10 v_11 v_12 v_13 v_14 v_15 v_16 v_17 v_18 v_19 (VS_setmk (VS_setb v s6) s10)) C (c_X2_put l D cB cI cJ cZ v_1 v_2 y11) rfl rfl (gIV ml_X6_105 im_X2_put sl_X2_put in_X2 cd_X2_put) rfl eX2_put rfl ⟨rfl, rfl⟩ ⟨Nat.le_of_ble_eq_true rfl, Nat.le_of_ble_eq_true rfl⟩ rfl [1, 2] rfl rfl rfl rfl rfl rfl (Nat.le_of_ble_eq_true rfl) (tdec DX6_dropSnapshot 41 rfl) rfl ?_
      refine g_aload_n (z := 1) C (tdec DX6_dropSnapshot 42 rfl) rfl rfl rfl ?_
      refine g_getf (C' := RX6) (T := TX6) (N := 6) (v := .ref v_3) C 0 2 (gIn iw_X6) rfl rfl (by decide) (gMem fl_X6_30) rfl rfl (tdec DX6_dropSnapshot 43 rfl) rfl ?_
      refine g_iload_n (z := 3) C (tdec DX6_dropSnapshot 44 rfl) rfl rfl rfl ?_
      refine g_aload_n (z := 1) C (tdec DX6_dropSnapshot 45 rfl) rfl rfl rfl ?_
      refine g_getf (C' := RX6) (T := TX6) (N := 6) (v := .ref v_3) C 0 2 (gIn iw_X6) rfl rfl (by decide) (gMem fl_X6_30) rfl rfl (tdec DX6_dropSnapshot 46 rfl) rfl ?_
      refine g_iload_n (z := 3) C (tdec DX6_dropSnapshot 47 rfl) rfl rfl rfl ?_
      refine g_iconst (v := 1) C (tdec DX6_dropSnapshot 48 rfl) (by decide) rfl ?_
      refine g_iadd C (tdec DX6_dropSnapshot 49 rfl) rfl ?_
      obtain ⟨r12, y13, hF⟩ := o_bind hF
      refine g_callViR (q0 := 3) C (c_X1_at l D cB cI cJ cZ v_3 v_4 y13) rfl rfl (gIV ml_X6_53 im_X1_at sl_X1_at in_X1 cd_X1_at) rfl eX1_at rfl ⟨rfl, rfl⟩ ⟨Nat.le_of_ble_eq_true rfl, Nat.le_of_ble_eq_true rfl⟩ rfl [3, 4] rfl rfl rfl (Nat.le_of_ble_eq_true rfl) (tdec DX6_dropSnapshot 50 rfl) rfl ?_
      obtain ⟨s14, y15, hF⟩ := o_bind hF
      refine g_callVvM (q0 := 3) (W' := wV cI cJ v_0 v_1 v_2 v_3 v_4 v_5 v_6 v_7 v_8 v_9 v_10 v_11 v_12 v_13 v_14 v_15 v_16 v_17 v_18 v_19 (VS_setgn (VS_setmk (VS_setb v s6) s10) s14)) C (c_X1_put l D cB cI cJ cZ v_3 v_4 y15) rfl rfl (gIV ml_X6_108 im_X1_put sl_X1_put in_X1 cd_X1_put) rfl eX1_put rfl ⟨rfl, rfl⟩ ⟨Nat.le_of_ble_eq_true rfl, Nat.le_of_ble_eq_true rfl⟩ rfl [3, 4] rfl rfl rfl rfl rfl rfl (Nat.le_of_ble_eq_true rfl) (tdec DX6_dropSnapshot 51 rfl) rfl ?_
      refine g_iinc (z := 3) (v := (v2 + 1)) (L' := [(2, .int (v2 + 1)), (3, .int ((4802 + v2) + 1)), (0, .ref v_0), (1, .int v1)]) C (tdec DX6_dropSnapshot 52 rfl) rfl rfl (by decide) rfl rfl ?_
      refine g_goto (pt := 12) C (tdec DX6_dropSnapshot 53 rfl) (by decide) ?_
      refine g_sub (L' := [(0, .ref v_0), (1, .int v1), (2, .int (v2 + 1))]) [2, 3, 0] rfl ?_
      exact ih9 _ _ hF
set_option maxHeartbeats 4000000 in
set_option maxRecDepth 100000 in
theorem c_X6_dropSnapshot (l : Launch) (D : va_G) (cB cI cJ cZ : ClassId) (v_0 v_1 v_2 v_3 v_4 v_5 v_6 v_7 v_8 v_9 v_10 v_11 v_12 v_13 v_14 v_15 v_16 v_17 v_18 v_19 : Nat) {v0 : VS} {p1 : Int32} {res : Int32 × VS} (hF : FX6_dropSnapshot v0 p1 = some res) : gMi l yX6_dropSnapshot wsX6_dropSnapshot rX6_dropSnapshot D (gT cB cI cJ cZ) [.ref v_0, .int p1] (wV cI cJ v_0 v_1 v_2 v_3 v_4 v_5 v_6 v_7 v_8 v_9 v_10 v_11 v_12 v_13 v_14 v_15 v_16 v_17 v_18 v_19 v0) res.1 (wV cI cJ v_0 v_1 v_2 v_3 v_4 v_5 v_6 v_7 v_8 v_9 v_10 v_11 v_12 v_13 v_14 v_15 v_16 v_17 v_18 v_19 res.2) := by
  refine g_enter (own := RX6) (free := (fun sz => va_A (wV cI cJ v_0 v_1 v_2 v_3 v_4 v_5 v_6 v_7 v_8 v_9 v_10 v_11 v_12 v_13 v_14 v_15 v_16 v_17 v_18 v_19 v0) sz)) (Qc := (fun sz => gQi D (wV cI cJ v_0 v_1 v_2 v_3 v_4 v_5 v_6 v_7 v_8 v_9 v_10 v_11 v_12 v_13 v_14 v_15 v_16 v_17 v_18 v_19 v0) sz res.1 (wV cI cJ v_0 v_1 v_2 v_3 v_4 v_5 v_6 v_7 v_8 v_9 v_10 v_11 v_12 v_13 v_14 v_15 v_16 v_17 v_18 v_19 res.2))) (fun sz => va_A (wV cI cJ v_0 v_1 v_2 v_3 v_4 v_5 v_6 v_7 v_8 v_9 v_10 v_11 v_12 v_13 v_14 v_15 v_16 v_17 v_18 v_19 v0) sz) (fun sz => Or.inr rfl) rfl (by decide) rfl (Nat.le_of_ble_eq_true rfl) rfl ?_
  intro p e s m args below meth c C
  unfold FX6_dropSnapshot at hF
  refine g_aload_n (z := 0) C (tdec DX6_dropSnapshot 0 rfl) rfl rfl rfl ?_
  refine g_dup C (tdec DX6_dropSnapshot 1 rfl) rfl rfl ?_
  refine g_getf (C' := RX6) (T := TX6) (N := 6) (v := .int (VS_snaps v0)) C 0 4 (gIn iw_X6) rfl rfl (by decide) (gMem fl_X6_42) rfl rfl (tdec DX6_dropSnapshot 2 rfl) rfl ?_
  refine g_iconst (v := 1) C (tdec DX6_dropSnapshot 3 rfl) (by decide) rfl ?_
  refine g_isub C (tdec DX6_dropSnapshot 4 rfl) rfl ?_
  refine g_putf (C' := RX6) (T := TX6) (N := 6) (v := .int ((VS_snaps v0) - 1)) (ws' := wV cI cJ v_0 v_1 v_2 v_3 v_4 v_5 v_6 v_7 v_8 v_9 v_10 v_11 v_12 v_13 v_14 v_15 v_16 v_17 v_18 v_19 (VS_setsnaps v0 ((VS_snaps v0) - 1))) C 0 4 tyX6 tyX6_ok nmX6 (gIn iw_X6) rfl rfl (by decide) (gMem fl_X6_42) rfl rfl (tyX6_ok 4 (by decide)) rfl rfl (Nat.le_of_ble_eq_true rfl) rfl (tdec DX6_dropSnapshot 5 rfl) rfl ?_
  refine g_iload_n (z := 1) C (tdec DX6_dropSnapshot 6 rfl) rfl rfl rfl ?_
  refine g_istore_n (L' := [(2, .int p1), (0, .ref v_0), (1, .int p1)]) C (tdec DX6_dropSnapshot 7 rfl) rfl (by decide) rfl rfl ?_
  refine g_sub (L' := [(0, .ref v_0), (1, .int p1), (2, .int p1)]) [1, 2, 0] rfl ?_
  refine c_FX6_dropSnapshot_L12 C (fun vq16 w2_16 hF => ?_) 100000 _ _ hF
  refine g_aload_n (z := 0) C (tdec DX6_dropSnapshot 54 rfl) rfl rfl rfl ?_
  refine g_getf (C' := RX6) (T := TX6) (N := 6) (v := .ref v_5) C 0 0 (gIn iw_X6) rfl rfl (by decide) (gMem fl_X6_12) rfl rfl (tdec DX6_dropSnapshot 55 rfl) rfl ?_
  refine g_sipush (v := 4802) C (tdec DX6_dropSnapshot 56 rfl) (by decide) rfl ?_
  refine g_aload_n (z := 0) C (tdec DX6_dropSnapshot 57 rfl) rfl rfl rfl ?_
  refine g_getf (C' := RX6) (T := TX6) (N := 6) (v := .int (VS_snaps vq16)) C 0 4 (gIn iw_X6) rfl rfl (by decide) (gMem fl_X6_42) rfl rfl (tdec DX6_dropSnapshot 58 rfl) rfl ?_
  refine g_iadd C (tdec DX6_dropSnapshot 59 rfl) rfl ?_
  refine g_iconst (v := (-1)) C (tdec DX6_dropSnapshot 60 rfl) (by decide) rfl ?_
  refine g_iconst (v := 0) C (tdec DX6_dropSnapshot 61 rfl) (by decide) rfl ?_
  obtain ⟨s17, y18, hF⟩ := o_bind hF
  refine g_callVvMS (q0 := 5) (W' := wV cI cJ v_0 v_1 v_2 v_3 v_4 v_5 v_6 v_7 v_8 v_9 v_10 v_11 v_12 v_13 v_14 v_15 v_16 v_17 v_18 v_19 (VS_setb vq16 s17)) (S := [wV0 cI cJ v_0 v_1 v_2 v_3 v_4 v_5 vq16, wB cI cJ v_5 v_6 v_7 v_8 v_9 v_10 v_11 v_12 v_13 v_14 v_15 v_16 v_17 v_18 v_19 (VS_b vq16)]) (S0 := [wB cI cJ v_5 v_6 v_7 v_8 v_9 v_10 v_11 v_12 v_13 v_14 v_15 v_16 v_17 v_18 v_19 (VS_b vq16)]) (S1 := [wB cI cJ v_5 v_6 v_7 v_8 v_9 v_10 v_11 v_12 v_13 v_14 v_15 v_16 v_17 v_18 v_19 s17]) (S' := [wV0 cI cJ v_0 v_1 v_2 v_3 v_4 v_5 (VS_setb vq16 s17), wB cI cJ v_5 v_6 v_7 v_8 v_9 v_10 v_11 v_12 v_13 v_14 v_15 v_16 v_17 v_18 v_19 s17]) C (c_X0_point l D cB cI cJ cZ v_5 v_6 v_7 v_8 v_9 v_10 v_11 v_12 v_13 v_14 v_15 v_16 v_17 v_18 v_19 y18) rfl rfl (gIV ml_X6_88 im_X0_point sl_X0_point in_X0 cd_X0_point) rfl eX0_point rfl ⟨rfl, rfl⟩ ⟨Nat.le_of_ble_eq_true rfl, Nat.le_of_ble_eq_true rfl⟩ rfl rfl rfl [1] rfl rfl rfl rfl (gA_cons aB gA_nil) rfl rfl (Nat.le_of_ble_eq_true rfl) (tdec DX6_dropSnapshot 62 rfl) rfl ?_
  refine g_aload_n (z := 0) C (tdec DX6_dropSnapshot 63 rfl) rfl rfl rfl ?_
  refine g_getf (C' := RX6) (T := TX6) (N := 6) (v := .ref v_5) C 0 0 (gIn iw_X6) rfl rfl (by decide) (gMem fl_X6_12) rfl rfl (tdec DX6_dropSnapshot 64 rfl) rfl ?_
  obtain ⟨s19, y20, hF⟩ := o_bind hF
  refine g_callVvMS (q0 := 5) (W' := wV cI cJ v_0 v_1 v_2 v_3 v_4 v_5 v_6 v_7 v_8 v_9 v_10 v_11 v_12 v_13 v_14 v_15 v_16 v_17 v_18 v_19 (VS_setb (VS_setb vq16 s17) s19)) (S := [wV0 cI cJ v_0 v_1 v_2 v_3 v_4 v_5 (VS_setb vq16 s17), wB cI cJ v_5 v_6 v_7 v_8 v_9 v_10 v_11 v_12 v_13 v_14 v_15 v_16 v_17 v_18 v_19 s17]) (S0 := [wB cI cJ v_5 v_6 v_7 v_8 v_9 v_10 v_11 v_12 v_13 v_14 v_15 v_16 v_17 v_18 v_19 s17]) (S1 := [wB cI cJ v_5 v_6 v_7 v_8 v_9 v_10 v_11 v_12 v_13 v_14 v_15 v_16 v_17 v_18 v_19 s19]) (S' := [wV0 cI cJ v_0 v_1 v_2 v_3 v_4 v_5 (VS_setb (VS_setb vq16 s17) s19), wB cI cJ v_5 v_6 v_7 v_8 v_9 v_10 v_11 v_12 v_13 v_14 v_15 v_16 v_17 v_18 v_19 s19]) C (c_X0_settle l D cB cI cJ cZ v_5 v_6 v_7 v_8 v_9 v_10 v_11 v_12 v_13 v_14 v_15 v_16 v_17 v_18 v_19 y20) rfl rfl (gIV ml_X6_56 im_X0_settle sl_X0_settle in_X0 cd_X0_settle) rfl eX0_settle rfl ⟨rfl, rfl⟩ ⟨Nat.le_of_ble_eq_true rfl, Nat.le_of_ble_eq_true rfl⟩ rfl rfl rfl [1] rfl rfl rfl rfl (gA_cons aB gA_nil) rfl rfl (Nat.le_of_ble_eq_true rfl) (tdec DX6_dropSnapshot 65 rfl) rfl ?_
  refine g_aload_n (z := 0) C (tdec DX6_dropSnapshot 66 rfl) rfl rfl rfl ?_
  refine g_getf (C' := RX6) (T := TX6) (N := 6) (v := .int (VS_snaps vq16)) C 0 4 (gIn iw_X6) rfl rfl (by decide) (gMem fl_X6_42) rfl rfl (tdec DX6_dropSnapshot 67 rfl) rfl ?_
  have hr9 := o_some hF
  subst hr9
  exact g_iret C rfl rfl (tdec DX6_dropSnapshot 68 rfl)
def FX6_returnToLatest (v0 : VS) : Option (Int32 × VS) :=
  (FX0_told (VS_b v0) ((4802 + (VS_snaps v0)) - 1)).bind fun r1 =>
  (FX0_birth (VS_b v0) ((4802 + (VS_snaps v0)) - 1)).bind fun r3 =>
  (FX0_point (VS_b v0) 4800 r1 r3).bind fun s5 =>
  (FX0_settle s5).bind fun s7 =>
  some (((VS_snaps v0) - 1), (VS_setb (VS_setb v0 s5) s7))
def rX6_returnToLatest : Room := { frames := 3, cells := 0, slots := 0, locals := 69 }
set_option maxHeartbeats 4000000 in
set_option maxRecDepth 100000 in
theorem c_X6_returnToLatest (l : Launch) (D : va_G) (cB cI cJ cZ : ClassId) (v_0 v_1 v_2 v_3 v_4 v_5 v_6 v_7 v_8 v_9 v_10 v_11 v_12 v_13 v_14 v_15 v_16 v_17 v_18 v_19 : Nat) {v0 : VS} {res : Int32 × VS} (hF : FX6_returnToLatest v0 = some res) : gMi l yX6_returnToLatest wsX6_returnToLatest rX6_returnToLatest D (gT cB cI cJ cZ) [.ref v_0] (wV cI cJ v_0 v_1 v_2 v_3 v_4 v_5 v_6 v_7 v_8 v_9 v_10 v_11 v_12 v_13 v_14 v_15 v_16 v_17 v_18 v_19 v0) res.1 (wV cI cJ v_0 v_1 v_2 v_3 v_4 v_5 v_6 v_7 v_8 v_9 v_10 v_11 v_12 v_13 v_14 v_15 v_16 v_17 v_18 v_19 res.2) := by
  refine g_enter (own := RX6) (free := (fun sz => va_A (wV cI cJ v_0 v_1 v_2 v_3 v_4 v_5 v_6 v_7 v_8 v_9 v_10 v_11 v_12 v_13 v_14 v_15 v_16 v_17 v_18 v_19 v0) sz)) (Qc := (fun sz => gQi D (wV cI cJ v_0 v_1 v_2 v_3 v_4 v_5 v_6 v_7 v_8 v_9 v_10 v_11 v_12 v_13 v_14 v_15 v_16 v_17 v_18 v_19 v0) sz res.1 (wV cI cJ v_0 v_1 v_2 v_3 v_4 v_5 v_6 v_7 v_8 v_9 v_10 v_11 v_12 v_13 v_14 v_15 v_16 v_17 v_18 v_19 res.2))) (fun sz => va_A (wV cI cJ v_0 v_1 v_2 v_3 v_4 v_5 v_6 v_7 v_8 v_9 v_10 v_11 v_12 v_13 v_14 v_15 v_16 v_17 v_18 v_19 v0) sz) (fun sz => Or.inr rfl) rfl (by decide) rfl (Nat.le_of_ble_eq_true rfl) rfl ?_
  intro p e s m args below meth c C
  unfold FX6_returnToLatest at hF
  refine g_sipush (v := 4802) C (tdec DX6_returnToLatest 0 rfl) (by decide) rfl ?_
  refine g_aload_n (z := 0) C (tdec DX6_returnToLatest 1 rfl) rfl rfl rfl ?_
  refine g_getf (C' := RX6) (T := TX6) (N := 6) (v := .int (VS_snaps v0)) C 0 4 (gIn iw_X6) rfl rfl (by decide) (gMem fl_X6_42) rfl rfl (tdec DX6_returnToLatest 2 rfl) rfl ?_
  refine g_iadd C (tdec DX6_returnToLatest 3 rfl) rfl ?_
  refine g_iconst (v := 1) C (tdec DX6_returnToLatest 4 rfl) (by decide) rfl ?_
  refine g_isub C (tdec DX6_returnToLatest 5 rfl) rfl ?_
  refine g_istore_n (L' := [(1, .int ((4802 + (VS_snaps v0)) - 1)), (0, .ref v_0)]) C (tdec DX6_returnToLatest 6 rfl) rfl (by decide) rfl rfl ?_
  refine g_aload_n (z := 1) C (tdec DX6_returnToLatest 7 rfl) rfl rfl rfl ?_
  refine g_getf (C' := RX6) (T := TX6) (N := 6) (v := .ref v_5) C 0 0 (gIn iw_X6) rfl rfl (by decide) (gMem fl_X6_12) rfl rfl (tdec DX6_returnToLatest 8 rfl) rfl ?_
  refine g_sipush (v := 4800) C (tdec DX6_returnToLatest 9 rfl) (by decide) rfl ?_
  refine g_aload_n (z := 1) C (tdec DX6_returnToLatest 10 rfl) rfl rfl rfl ?_
  refine g_getf (C' := RX6) (T := TX6) (N := 6) (v := .ref v_5) C 0 0 (gIn iw_X6) rfl rfl (by decide) (gMem fl_X6_12) rfl rfl (tdec DX6_returnToLatest 11 rfl) rfl ?_
  refine g_iload_n (z := 0) C (tdec DX6_returnToLatest 12 rfl) rfl rfl rfl ?_
  obtain ⟨r1, y2, hF⟩ := o_bind hF
  refine g_callViRS (q0 := 5) (S := [wV0 cI cJ v_0 v_1 v_2 v_3 v_4 v_5 v0, wB cI cJ v_5 v_6 v_7 v_8 v_9 v_10 v_11 v_12 v_13 v_14 v_15 v_16 v_17 v_18 v_19 (VS_b v0)]) (S0 := [wB cI cJ v_5 v_6 v_7 v_8 v_9 v_10 v_11 v_12 v_13 v_14 v_15 v_16 v_17 v_18 v_19 (VS_b v0)]) C (c_X0_told l D cB cI cJ cZ v_5 v_6 v_7 v_8 v_9 v_10 v_11 v_12 v_13 v_14 v_15 v_16 v_17 v_18 v_19 y2) rfl rfl (gIV ml_X6_63 im_X0_told sl_X0_told in_X0 cd_X0_told) rfl eX0_told rfl ⟨rfl, rfl⟩ ⟨Nat.le_of_ble_eq_true rfl, Nat.le_of_ble_eq_true rfl⟩ rfl rfl rfl [1] rfl rfl rfl (Nat.le_of_ble_eq_true rfl) (tdec DX6_returnToLatest 13 rfl) rfl ?_
  refine g_aload_n (z := 1) C (tdec DX6_returnToLatest 14 rfl) rfl rfl rfl ?_
  refine g_getf (C' := RX6) (T := TX6) (N := 6) (v := .ref v_5) C 0 0 (gIn iw_X6) rfl rfl (by decide) (gMem fl_X6_12) rfl rfl (tdec DX6_returnToLatest 15 rfl) rfl ?_
  refine g_iload_n (z := 0) C (tdec DX6_returnToLatest 16 rfl) rfl rfl rfl ?_
  obtain ⟨r3, y4, hF⟩ := o_bind hF
  refine g_callViRS (q0 := 5) (S := [wV0 cI cJ v_0 v_1 v_2 v_3 v_4 v_5 v0, wB cI cJ v_5 v_6 v_7 v_8 v_9 v_10 v_11 v_12 v_13 v_14 v_15 v_16 v_17 v_18 v_19 (VS_b v0)]) (S0 := [wB cI cJ v_5 v_6 v_7 v_8 v_9 v_10 v_11 v_12 v_13 v_14 v_15 v_16 v_17 v_18 v_19 (VS_b v0)]) C (c_X0_birth l D cB cI cJ cZ v_5 v_6 v_7 v_8 v_9 v_10 v_11 v_12 v_13 v_14 v_15 v_16 v_17 v_18 v_19 y4) rfl rfl (gIV ml_X6_102 im_X0_birth sl_X0_birth in_X0 cd_X0_birth) rfl eX0_birth rfl ⟨rfl, rfl⟩ ⟨Nat.le_of_ble_eq_true rfl, Nat.le_of_ble_eq_true rfl⟩ rfl rfl rfl [1] rfl rfl rfl (Nat.le_of_ble_eq_true rfl) (tdec DX6_returnToLatest 17 rfl) rfl ?_
  obtain ⟨s5, y6, hF⟩ := o_bind hF
  refine g_callVvMS (q0 := 5) (W' := wV cI cJ v_0 v_1 v_2 v_3 v_4 v_5 v_6 v_7 v_8 v_9 v_10 v_11 v_12 v_13 v_14 v_15 v_16 v_17 v_18 v_19 (VS_setb v0 s5)) (S := [wV0 cI cJ v_0 v_1 v_2 v_3 v_4 v_5 v0, wB cI cJ v_5 v_6 v_7 v_8 v_9 v_10 v_11 v_12 v_13 v_14 v_15 v_16 v_17 v_18 v_19 (VS_b v0)]) (S0 := [wB cI cJ v_5 v_6 v_7 v_8 v_9 v_10 v_11 v_12 v_13 v_14 v_15 v_16 v_17 v_18 v_19 (VS_b v0)]) (S1 := [wB cI cJ v_5 v_6 v_7 v_8 v_9 v_10 v_11 v_12 v_13 v_14 v_15 v_16 v_17 v_18 v_19 s5]) (S' := [wV0 cI cJ v_0 v_1 v_2 v_3 v_4 v_5 (VS_setb v0 s5), wB cI cJ v_5 v_6 v_7 v_8 v_9 v_10 v_11 v_12 v_13 v_14 v_15 v_16 v_17 v_18 v_19 s5]) C (c_X0_point l D cB cI cJ cZ v_5 v_6 v_7 v_8 v_9 v_10 v_11 v_12 v_13 v_14 v_15 v_16 v_17 v_18 v_19 y6) rfl rfl (gIV ml_X6_88 im_X0_point sl_X0_point in_X0 cd_X0_point) rfl eX0_point rfl ⟨rfl, rfl⟩ ⟨Nat.le_of_ble_eq_true rfl, Nat.le_of_ble_eq_true rfl⟩ rfl rfl rfl [1] rfl rfl rfl rfl (gA_cons aB gA_nil) rfl rfl (Nat.le_of_ble_eq_true rfl) (tdec DX6_returnToLatest 18 rfl) rfl ?_
  refine g_aload_n (z := 1) C (tdec DX6_returnToLatest 19 rfl) rfl rfl rfl ?_
  refine g_getf (C' := RX6) (T := TX6) (N := 6) (v := .ref v_5) C 0 0 (gIn iw_X6) rfl rfl (by decide) (gMem fl_X6_12) rfl rfl (tdec DX6_returnToLatest 20 rfl) rfl ?_
  obtain ⟨s7, y8, hF⟩ := o_bind hF
  refine g_callVvMS (q0 := 5) (W' := wV cI cJ v_0 v_1 v_2 v_3 v_4 v_5 v_6 v_7 v_8 v_9 v_10 v_11 v_12 v_13 v_14 v_15 v_16 v_17 v_18 v_19 (VS_setb (VS_setb v0 s5) s7)) (S := [wV0 cI cJ v_0 v_1 v_2 v_3 v_4 v_5 (VS_setb v0 s5), wB cI cJ v_5 v_6 v_7 v_8 v_9 v_10 v_11 v_12 v_13 v_14 v_15 v_16 v_17 v_18 v_19 s5]) (S0 := [wB cI cJ v_5 v_6 v_7 v_8 v_9 v_10 v_11 v_12 v_13 v_14 v_15 v_16 v_17 v_18 v_19 s5]) (S1 := [wB cI cJ v_5 v_6 v_7 v_8 v_9 v_10 v_11 v_12 v_13 v_14 v_15 v_16 v_17 v_18 v_19 s7]) (S' := [wV0 cI cJ v_0 v_1 v_2 v_3 v_4 v_5 (VS_setb (VS_setb v0 s5) s7), wB cI cJ v_5 v_6 v_7 v_8 v_9 v_10 v_11 v_12 v_13 v_14 v_15 v_16 v_17 v_18 v_19 s7]) C (c_X0_settle l D cB cI cJ cZ v_5 v_6 v_7 v_8 v_9 v_10 v_11 v_12 v_13 v_14 v_15 v_16 v_17 v_18 v_19 y8) rfl rfl (gIV ml_X6_56 im_X0_settle sl_X0_settle in_X0 cd_X0_settle) rfl eX0_settle rfl ⟨rfl, rfl⟩ ⟨Nat.le_of_ble_eq_true rfl, Nat.le_of_ble_eq_true rfl⟩ rfl rfl rfl [1] rfl rfl rfl rfl (gA_cons aB gA_nil) rfl rfl (Nat.le_of_ble_eq_true rfl) (tdec DX6_returnToLatest 21 rfl) rfl ?_
  refine g_aload_n (z := 1) C (tdec DX6_returnToLatest 22 rfl) rfl rfl rfl ?_
  refine g_getf (C' := RX6) (T := TX6) (N := 6) (v := .int (VS_snaps v0)) C 0 4 (gIn iw_X6) rfl rfl (by decide) (gMem fl_X6_42) rfl rfl (tdec DX6_returnToLatest 23 rfl) rfl ?_
  refine g_iconst (v := 1) C (tdec DX6_returnToLatest 24 rfl) (by decide) rfl ?_
  refine g_isub C (tdec DX6_returnToLatest 25 rfl) rfl ?_
  have hr9 := o_some hF
  subst hr9
  exact g_iret C rfl rfl (tdec DX6_returnToLatest 26 rfl)
