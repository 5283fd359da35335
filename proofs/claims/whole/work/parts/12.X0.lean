/-! PART 12.X0: walks, printed by wip/whole/walk.py -/
def FX0_startAnew (b0 : BS) (p1 : Int32) : Option (BS) :=
  (FX1_fill 600 (BS_lev b0) (-1)).bind fun s1 =>
  (FX1_fill 600 (BS_tel b0) 0).bind fun s3 =>
  (FX1_fill 4822 (BS_told b0) (-1)).bind fun s5 =>
  (FX1_fill 4822 (BS_bir b0) 0).bind fun s7 =>
  some (BS_setfr (BS_setcnt (BS_setlc (BS_setbir (BS_settold (BS_settel (BS_setlev b0 s1) s3) s5) s7) 0) p1) p1)
def rX0_startAnew : Room := { frames := 2, cells := 0, slots := 0, locals := 44 }
set_option maxHeartbeats 4000000 in
set_option maxRecDepth 100000 in
theorem c_X0_startAnew (l : Launch) (D : va_G) (cB cI cJ cZ : ClassId) (b_0 b_1 b_2 b_3 b_4 b_5 b_6 b_7 b_8 b_9 b_10 b_11 b_12 b_13 b_14 : Nat) {b0 : BS} {p1 : Int32} {res : BS} (hF : FX0_startAnew b0 p1 = some res) : gMv l yX0_startAnew wsX0_startAnew rX0_startAnew D (gT cB cI cJ cZ) [.ref b_0, .int p1] (wB cI cJ b_0 b_1 b_2 b_3 b_4 b_5 b_6 b_7 b_8 b_9 b_10 b_11 b_12 b_13 b_14 b0) (wB cI cJ b_0 b_1 b_2 b_3 b_4 b_5 b_6 b_7 b_8 b_9 b_10 b_11 b_12 b_13 b_14 res) := by
  refine g_enter (own := RX0) (free := (fun sz => va_A (wB cI cJ b_0 b_1 b_2 b_3 b_4 b_5 b_6 b_7 b_8 b_9 b_10 b_11 b_12 b_13 b_14 b0) sz)) (Qc := (fun sz => gQv D (wB cI cJ b_0 b_1 b_2 b_3 b_4 b_5 b_6 b_7 b_8 b_9 b_10 b_11 b_12 b_13 b_14 b0) sz (wB cI cJ b_0 b_1 b_2 b_3 b_4 b_5 b_6 b_7 b_8 b_9 b_10 b_11 b_12 b_13 b_14 res))) (fun sz => va_A (wB cI cJ b_0 b_1 b_2 b_3 b_4 b_5 b_6 b_7 b_8 b_9 b_10 b_11 b_12 b_13 b_14 b0) sz) (fun sz => Or.inr rfl) rfl (by decide) rfl (Nat.le_of_ble_eq_true rfl) rfl ?_
  intro p e s m args below meth c C
  unfold FX0_startAnew at hF
  refine g_aload_n (z := 0) C (tdec DX0_startAnew 0 rfl) rfl rfl rfl ?_
  refine g_getf (C' := RX0) (T := TX0) (N := 10) (v := .ref b_1) C 0 0 (gIn iw_X0) rfl rfl (by decide) (gMem fl_X0_14) rfl rfl (tdec DX0_startAnew 1 rfl) rfl ?_
  refine g_iconst (v := (-1)) C (tdec DX0_startAnew 2 rfl) (by decide) rfl ?_
  obtain ⟨s1, y2, hF⟩ := o_bind hF
  refine g_callVvM (q0 := 1) (W' := wB cI cJ b_0 b_1 b_2 b_3 b_4 b_5 b_6 b_7 b_8 b_9 b_10 b_11 b_12 b_13 b_14 (BS_setlev b0 s1)) C (c_X1_fill l D cB cI cJ cZ b_1 b_2 y2) rfl rfl (gIV ml_X0_42 im_X1_fill sl_X1_fill in_X1 cd_X1_fill) rfl eX1_fill rfl ⟨rfl, rfl⟩ ⟨Nat.le_of_ble_eq_true rfl, Nat.le_of_ble_eq_true rfl⟩ rfl [1, 2] rfl rfl rfl rfl rfl rfl (Nat.le_of_ble_eq_true rfl) (tdec DX0_startAnew 3 rfl) rfl ?_
  refine g_aload_n (z := 0) C (tdec DX0_startAnew 4 rfl) rfl rfl rfl ?_
  refine g_getf (C' := RX0) (T := TX0) (N := 10) (v := .ref b_5) C 0 2 (gIn iw_X0) rfl rfl (by decide) (gMem fl_X0_23) rfl rfl (tdec DX0_startAnew 5 rfl) rfl ?_
  refine g_iconst (v := 0) C (tdec DX0_startAnew 6 rfl) (by decide) rfl ?_
  obtain ⟨s3, y4, hF⟩ := o_bind hF
  refine g_callVvM (q0 := 5) (W' := wB cI cJ b_0 b_1 b_2 b_3 b_4 b_5 b_6 b_7 b_8 b_9 b_10 b_11 b_12 b_13 b_14 (BS_settel (BS_setlev b0 s1) s3)) C (c_X1_fill l D cB cI cJ cZ b_5 b_6 y4) rfl rfl (gIV ml_X0_42 im_X1_fill sl_X1_fill in_X1 cd_X1_fill) rfl eX1_fill rfl ⟨rfl, rfl⟩ ⟨Nat.le_of_ble_eq_true rfl, Nat.le_of_ble_eq_true rfl⟩ rfl [5, 6] rfl rfl rfl rfl rfl rfl (Nat.le_of_ble_eq_true rfl) (tdec DX0_startAnew 7 rfl) rfl ?_
  refine g_aload_n (z := 0) C (tdec DX0_startAnew 8 rfl) rfl rfl rfl ?_
  refine g_getf (C' := RX0) (T := TX0) (N := 10) (v := .ref b_9) C 0 4 (gIn iw_X0) rfl rfl (by decide) (gMem fl_X0_33) rfl rfl (tdec DX0_startAnew 9 rfl) rfl ?_
  refine g_iconst (v := (-1)) C (tdec DX0_startAnew 10 rfl) (by decide) rfl ?_
  obtain ⟨s5, y6, hF⟩ := o_bind hF
  refine g_callVvM (q0 := 9) (W' := wB cI cJ b_0 b_1 b_2 b_3 b_4 b_5 b_6 b_7 b_8 b_9 b_10 b_11 b_12 b_13 b_14 (BS_settold (BS_settel (BS_setlev b0 s1) s3) s5)) C (c_X1_fill l D cB cI cJ cZ b_9 b_10 y6) rfl rfl (gIV ml_X0_42 im_X1_fill sl_X1_fill in_X1 cd_X1_fill) rfl eX1_fill rfl ⟨rfl, rfl⟩ ⟨Nat.le_of_ble_eq_true rfl, Nat.le_of_ble_eq_true rfl⟩ rfl [9, 10] rfl rfl rfl rfl rfl rfl (Nat.le_of_ble_eq_true rfl) (tdec DX0_startAnew 11 rfl) rfl ?_
  refine g_aload_n (z := 0) C (tdec DX0_startAnew 12 rfl) rfl rfl rfl ?_
  refine g_getf (C' := RX0) (T := TX0) (N := 10) (v := .ref b_11) C 0 5 (gIn iw_X0) rfl rfl (by decide) (gMem fl_X0_36) rfl rfl (tdec DX0_startAnew 13 rfl) rfl ?_
  refine g_iconst (v := 0) C (tdec DX0_startAnew 14 rfl) (by decide) rfl ?_
  obtain ⟨s7, y8, hF⟩ := o_bind hF
  refine g_callVvM (q0 := 11) (W' := wB cI cJ b_0 b_1 b_2 b_3 b_4 b_5 b_6 b_7 b_8 b_9 b_10 b_11 b_12 b_13 b_14 (BS_setbir (BS_settold (BS_settel (BS_setlev b0 s1) s3) s5) s7)) C (c_X1_fill l D cB cI cJ cZ b_11 b_12 y8) rfl rfl (gIV ml_X0_42 im_X1_fill sl_X1_fill in_X1 cd_X1_fill) rfl eX1_fill rfl ⟨rfl, rfl⟩ ⟨Nat.le_of_ble_eq_true rfl, Nat.le_of_ble_eq_true rfl⟩ rfl [11, 12] rfl rfl rfl rfl rfl rfl (Nat.le_of_ble_eq_true rfl) (tdec DX0_startAnew 15 rfl) rfl ?_
  refine g_aload_n (z := 0) C (tdec DX0_startAnew 16 rfl) rfl rfl rfl ?_
  refine g_iconst (v := 0) C (tdec DX0_startAnew 17 rfl) (by decide) rfl ?_
  refine g_putf (C' := RX0) (T := TX0) (N := 10) (v := .int 0) (ws' := wB cI cJ b_0 b_1 b_2 b_3 b_4 b_5 b_6 b_7 b_8 b_9 b_10 b_11 b_12 b_13 b_14 (BS_setlc (BS_setbir (BS_settold (BS_settel (BS_setlev b0 s1) s3) s5) s7) 0)) C 0 7 tyX0 tyX0_ok nmX0 (gIn iw_X0) rfl rfl (by decide) (gMem fl_X0_45) rfl rfl (tyX0_ok 7 (by decide)) rfl rfl (Nat.le_of_ble_eq_true rfl) rfl (tdec DX0_startAnew 18 rfl) rfl ?_
  refine g_aload_n (z := 0) C (tdec DX0_startAnew 19 rfl) rfl rfl rfl ?_
  refine g_iload_n (z := 1) C (tdec DX0_startAnew 20 rfl) rfl rfl rfl ?_
  refine g_putf (C' := RX0) (T := TX0) (N := 10) (v := .int p1) (ws' := wB cI cJ b_0 b_1 b_2 b_3 b_4 b_5 b_6 b_7 b_8 b_9 b_10 b_11 b_12 b_13 b_14 (BS_setcnt (BS_setlc (BS_setbir (BS_settold (BS_settel (BS_setlev b0 s1) s3) s5) s7) 0) p1)) C 0 8 tyX0 tyX0_ok nmX0 (gIn iw_X0) rfl rfl (by decide) (gMem fl_X0_49) rfl rfl (tyX0_ok 8 (by decide)) rfl rfl (Nat.le_of_ble_eq_true rfl) rfl (tdec DX0_startAnew 21 rfl) rfl ?_
  refine g_aload_n (z := 0) C (tdec DX0_startAnew 22 rfl) rfl rfl rfl ?_
  refine g_iload_n (z := 1) C (tdec DX0_startAnew 23 rfl) rfl rfl rfl ?_
  refine g_putf (C' := RX0) (T := TX0) (N := 10) (v := .int p1) (ws' := wB cI cJ b_0 b_1 b_2 b_3 b_4 b_5 b_6 b_7 b_8 b_9 b_10 b_11 b_12 b_13 b_14 (BS_setfr (BS_setcnt (BS_setlc (BS_setbir (BS_settold (BS_settel (BS_setlev b0 s1) s3) s5) s7) 0) p1) p1)) C 0 9 tyX0 tyX0_ok nmX0 (gIn iw_X0) rfl rfl (by decide) (gMem fl_X0_52) rfl rfl (tyX0_ok 9 (by decide)) rfl rfl (Nat.le_of_ble_eq_true rfl) rfl (tdec DX0_startAnew 24 rfl) rfl ?_
  have hr9 := o_some hF
  subst hr9
  exact g_vret C rfl (tdec DX0_startAnew 25 rfl)
def FX0_count (b0 : BS) : Option (Int32) :=
  some (BS_cnt b0)
def rX0_count : Room := { frames := 0, cells := 0, slots := 0, locals := 0 }
set_option maxHeartbeats 4000000 in
set_option maxRecDepth 100000 in
theorem c_X0_count (l : Launch) (D : va_G) (cB cI cJ cZ : ClassId) (b_0 b_1 b_2 b_3 b_4 b_5 b_6 b_7 b_8 b_9 b_10 b_11 b_12 b_13 b_14 : Nat) {b0 : BS} {res : Int32} (hF : FX0_count b0 = some res) : gRi l yX0_count wsX0_count rX0_count D (gT cB cI cJ cZ) [.ref b_0] (wB cI cJ b_0 b_1 b_2 b_3 b_4 b_5 b_6 b_7 b_8 b_9 b_10 b_11 b_12 b_13 b_14 b0) res := by
  refine g_enter (own := RX0) (free := (fun _ _ => False)) (Qc := (fun sz => gRQi res)) (fun _ _ => True) (fun sz => Or.inl rfl) rfl (by decide) rfl (Nat.le_of_ble_eq_true rfl) rfl ?_
  intro p e s m args below meth c C
  unfold FX0_count at hF
  refine g_aload_n (z := 0) C (tdec DX0_count 0 rfl) rfl rfl rfl ?_
  refine g_getf (C' := RX0) (T := TX0) (N := 10) (v := .int (BS_cnt b0)) C 0 8 (gIn iw_X0) rfl rfl (by decide) (gMem fl_X0_49) rfl rfl (tdec DX0_count 1 rfl) rfl ?_
  have hr9 := o_some hF
  subst hr9
  exact g_iretR C rfl (tdec DX0_count 2 rfl)
def FX0_free (b0 : BS) : Option (Int32) :=
  some (BS_fr b0)
def rX0_free : Room := { frames := 0, cells := 0, slots := 0, locals := 0 }
set_option maxHeartbeats 4000000 in
set_option maxRecDepth 100000 in
theorem c_X0_free (l : Launch) (D : va_G) (cB cI cJ cZ : ClassId) (b_0 b_1 b_2 b_3 b_4 b_5 b_6 b_7 b_8 b_9 b_10 b_11 b_12 b_13 b_14 : Nat) {b0 : BS} {res : Int32} (hF : FX0_free b0 = some res) : gRi l yX0_free wsX0_free rX0_free D (gT cB cI cJ cZ) [.ref b_0] (wB cI cJ b_0 b_1 b_2 b_3 b_4 b_5 b_6 b_7 b_8 b_9 b_10 b_11 b_12 b_13 b_14 b0) res := by
  refine g_enter (own := RX0) (free := (fun _ _ => False)) (Qc := (fun sz => gRQi res)) (fun _ _ => True) (fun sz => Or.inl rfl) rfl (by decide) rfl (Nat.le_of_ble_eq_true rfl) rfl ?_
  intro p e s m args below meth c C
  unfold FX0_free at hF
  refine g_aload_n (z := 0) C (tdec DX0_free 0 rfl) rfl rfl rfl ?_
  refine g_getf (C' := RX0) (T := TX0) (N := 10) (v := .int (BS_fr b0)) C 0 9 (gIn iw_X0) rfl rfl (by decide) (gMem fl_X0_52) rfl rfl (tdec DX0_free 1 rfl) rfl ?_
  have hr9 := o_some hF
  subst hr9
  exact g_iretR C rfl (tdec DX0_free 2 rfl)
def FX0_has (b0 : BS) (p1 : Int32) : Option (Int32) :=
  if p1 < 0 then
    some 0
  else
    if (BS_cnt b0) ≤ p1 then
      some 0
    else
      some 1
def rX0_has : Room := { frames := 0, cells := 0, slots := 0, locals := 0 }
set_option maxHeartbeats 4000000 in
set_option maxRecDepth 100000 in
theorem c_X0_has (l : Launch) (D : va_G) (cB cI cJ cZ : ClassId) (b_0 b_1 b_2 b_3 b_4 b_5 b_6 b_7 b_8 b_9 b_10 b_11 b_12 b_13 b_14 : Nat) {b0 : BS} {p1 : Int32} {res : Int32} (hF : FX0_has b0 p1 = some res) : gRi l yX0_has wsX0_has rX0_has D (gT cB cI cJ cZ) [.ref b_0, .int p1] (wB cI cJ b_0 b_1 b_2 b_3 b_4 b_5 b_6 b_7 b_8 b_9 b_10 b_11 b_12 b_13 b_14 b0) res := by
  refine g_enter (own := RX0) (free := (fun _ _ => False)) (Qc := (fun sz => gRQi res)) (fun _ _ => True) (fun sz => Or.inl rfl) rfl (by decide) rfl (Nat.le_of_ble_eq_true rfl) rfl ?_
  intro p e s m args below meth c C
  unfold FX0_has at hF
  refine g_iload_n (z := 1) C (tdec DX0_has 0 rfl) rfl rfl rfl ?_
  refine g_if_lt (pt := 16) C (tdec DX0_has 1 rfl) (by decide) rfl (fun h1 => ?_) (fun h1 => ?_)
  · have hF := o_ifp hF h1
    refine g_iconst (v := 0) C (tdec DX0_has 8 rfl) (by decide) rfl ?_
    have hr9 := o_some hF
    subst hr9
    exact g_zretR C rfl rfl (tdec DX0_has 9 rfl)
  · have hF := o_ifn hF h1
    refine g_iload_n (z := 1) C (tdec DX0_has 2 rfl) rfl rfl rfl ?_
    refine g_aload_n (z := 0) C (tdec DX0_has 3 rfl) rfl rfl rfl ?_
    refine g_getf (C' := RX0) (T := TX0) (N := 10) (v := .int (BS_cnt b0)) C 0 8 (gIn iw_X0) rfl rfl (by decide) (gMem fl_X0_49) rfl rfl (tdec DX0_has 4 rfl) rfl ?_
    refine g_icmp_ge (pt := 16) C (tdec DX0_has 5 rfl) (by decide) rfl (fun h2 => ?_) (fun h2 => ?_)
    · have hF := o_ifp hF h2
      refine g_iconst (v := 0) C (tdec DX0_has 8 rfl) (by decide) rfl ?_
      have hr9 := o_some hF
      subst hr9
      exact g_zretR C rfl rfl (tdec DX0_has 9 rfl)
    · have hF := o_ifn hF h2
      refine g_iconst (v := 1) C (tdec DX0_has 6 rfl) (by decide) rfl ?_
      refine g_goto (pt := 17) C (tdec DX0_has 7 rfl) (by decide) ?_
      have hr9 := o_some hF
      subst hr9
      exact g_zretR C rfl rfl (tdec DX0_has 9 rfl)
def FX0_level (b0 : BS) (p1 : Int32) : Option (Int32) :=
  (FX1_at 600 (BS_lev b0) p1).bind fun r1 =>
  some r1
def rX0_level : Room := { frames := 1, cells := 0, slots := 0, locals := 21 }
set_option maxHeartbeats 4000000 in
set_option maxRecDepth 100000 in
theorem c_X0_level (l : Launch) (D : va_G) (cB cI cJ cZ : ClassId) (b_0 b_1 b_2 b_3 b_4 b_5 b_6 b_7 b_8 b_9 b_10 b_11 b_12 b_13 b_14 : Nat) {b0 : BS} {p1 : Int32} {res : Int32} (hF : FX0_level b0 p1 = some res) : gRi l yX0_level wsX0_level rX0_level D (gT cB cI cJ cZ) [.ref b_0, .int p1] (wB cI cJ b_0 b_1 b_2 b_3 b_4 b_5 b_6 b_7 b_8 b_9 b_10 b_11 b_12 b_13 b_14 b0) res := by
  refine g_enter (own := RX0) (free := (fun _ _ => False)) (Qc := (fun sz => gRQi res)) (fun _ _ => True) (fun sz => Or.inl rfl) rfl (by decide) rfl (Nat.le_of_ble_eq_true rfl) rfl ?_
  intro p e s m args below meth c C
  unfold FX0_level at hF
  refine g_aload_n (z := 0) C (tdec DX0_level 0 rfl) rfl rfl rfl ?_
  refine g_getf (C' := RX0) (T := TX0) (N := 10) (v := .ref b_1) C 0 0 (gIn iw_X0) rfl rfl (by decide) (gMem fl_X0_14) rfl rfl (tdec DX0_level 1 rfl) rfl ?_
  refine g_iload_n (z := 1) C (tdec DX0_level 2 rfl) rfl rfl rfl ?_
  obtain ⟨r1, y2, hF⟩ := o_bind hF
  refine g_callViR (q0 := 1) C (c_X1_at l D cB cI cJ cZ b_1 b_2 y2) rfl rfl (gIV ml_X0_55 im_X1_at sl_X1_at in_X1 cd_X1_at) rfl eX1_at rfl ⟨rfl, rfl⟩ ⟨Nat.le_of_ble_eq_true rfl, Nat.le_of_ble_eq_true rfl⟩ rfl [1, 2] rfl rfl rfl (Nat.le_of_ble_eq_true rfl) (tdec DX0_level 3 rfl) rfl ?_
  have hr9 := o_some hF
  subst hr9
  exact g_iretR C rfl (tdec DX0_level 4 rfl)
def FX0_birthOfBlock (b0 : BS) (p1 : Int32) : Option (Int32) :=
  (FX1_at 600 (BS_lev b0) p1).bind fun r1 =>
  if r1 = (-1) then
    some (-1)
  else
    (FX1_at 600 (BS_bob b0) p1).bind fun r4 =>
    some r4
def rX0_birthOfBlock : Room := { frames := 1, cells := 0, slots := 0, locals := 21 }
set_option maxHeartbeats 4000000 in
set_option maxRecDepth 100000 in
theorem c_X0_birthOfBlock (l : Launch) (D : va_G) (cB cI cJ cZ : ClassId) (b_0 b_1 b_2 b_3 b_4 b_5 b_6 b_7 b_8 b_9 b_10 b_11 b_12 b_13 b_14 : Nat) {b0 : BS} {p1 : Int32} {res : Int32} (hF : FX0_birthOfBlock b0 p1 = some res) : gRi l yX0_birthOfBlock wsX0_birthOfBlock rX0_birthOfBlock D (gT cB cI cJ cZ) [.ref b_0, .int p1] (wB cI cJ b_0 b_1 b_2 b_3 b_4 b_5 b_6 b_7 b_8 b_9 b_10 b_11 b_12 b_13 b_14 b0) res := by
  refine g_enter (own := RX0) (free := (fun _ _ => False)) (Qc := (fun sz => gRQi res)) (fun _ _ => True) (fun sz => Or.inl rfl) rfl (by decide) rfl (Nat.le_of_ble_eq_true rfl) rfl ?_
  intro p e s m args below meth c C
  unfold FX0_birthOfBlock at hF
  refine g_aload_n (z := 0) C (tdec DX0_birthOfBlock 0 rfl) rfl rfl rfl ?_
  refine g_getf (C' := RX0) (T := TX0) (N := 10) (v := .ref b_1) C 0 0 (gIn iw_X0) rfl rfl (by decide) (gMem fl_X0_14) rfl rfl (tdec DX0_birthOfBlock 1 rfl) rfl ?_
  refine g_iload_n (z := 1) C (tdec DX0_birthOfBlock 2 rfl) rfl rfl rfl ?_
  obtain ⟨r1, y2, hF⟩ := o_bind hF
  refine g_callViR (q0 := 1) C (c_X1_at l D cB cI cJ cZ b_1 b_2 y2) rfl rfl (gIV ml_X0_55 im_X1_at sl_X1_at in_X1 cd_X1_at) rfl eX1_at rfl ⟨rfl, rfl⟩ ⟨Nat.le_of_ble_eq_true rfl, Nat.le_of_ble_eq_true rfl⟩ rfl [1, 2] rfl rfl rfl (Nat.le_of_ble_eq_true rfl) (tdec DX0_birthOfBlock 3 rfl) rfl ?_
  refine g_iconst (v := (-1)) C (tdec DX0_birthOfBlock 4 rfl) (by decide) rfl ?_
  refine g_icmp_ne (pt := 16) C (tdec DX0_birthOfBlock 5 rfl) (by decide) rfl (fun h3 => ?_) (fun h3 => ?_)
  · have hF := o_ifn hF h3
    refine g_aload_n (z := 0) C (tdec DX0_birthOfBlock 8 rfl) rfl rfl rfl ?_
    refine g_getf (C' := RX0) (T := TX0) (N := 10) (v := .ref b_3) C 0 1 (gIn iw_X0) rfl rfl (by decide) (gMem fl_X0_20) rfl rfl (tdec DX0_birthOfBlock 9 rfl) rfl ?_
    refine g_iload_n (z := 1) C (tdec DX0_birthOfBlock 10 rfl) rfl rfl rfl ?_
    obtain ⟨r4, y5, hF⟩ := o_bind hF
    refine g_callViR (q0 := 3) C (c_X1_at l D cB cI cJ cZ b_3 b_4 y5) rfl rfl (gIV ml_X0_55 im_X1_at sl_X1_at in_X1 cd_X1_at) rfl eX1_at rfl ⟨rfl, rfl⟩ ⟨Nat.le_of_ble_eq_true rfl, Nat.le_of_ble_eq_true rfl⟩ rfl [3, 4] rfl rfl rfl (Nat.le_of_ble_eq_true rfl) (tdec DX0_birthOfBlock 11 rfl) rfl ?_
    have hr9 := o_some hF
    subst hr9
    exact g_iretR C rfl (tdec DX0_birthOfBlock 12 rfl)
  · have hF := o_ifp hF h3
    refine g_iconst (v := (-1)) C (tdec DX0_birthOfBlock 6 rfl) (by decide) rfl ?_
    refine g_goto (pt := 24) C (tdec DX0_birthOfBlock 7 rfl) (by decide) ?_
    have hr9 := o_some hF
    subst hr9
    exact g_iretR C rfl (tdec DX0_birthOfBlock 12 rfl)
def FX0_tellers (b0 : BS) (p1 : Int32) : Option (Int32) :=
  (FX1_at 600 (BS_tel b0) p1).bind fun r1 =>
  some r1
def rX0_tellers : Room := { frames := 1, cells := 0, slots := 0, locals := 21 }
set_option maxHeartbeats 4000000 in
set_option maxRecDepth 100000 in
theorem c_X0_tellers (l : Launch) (D : va_G) (cB cI cJ cZ : ClassId) (b_0 b_1 b_2 b_3 b_4 b_5 b_6 b_7 b_8 b_9 b_10 b_11 b_12 b_13 b_14 : Nat) {b0 : BS} {p1 : Int32} {res : Int32} (hF : FX0_tellers b0 p1 = some res) : gRi l yX0_tellers wsX0_tellers rX0_tellers D (gT cB cI cJ cZ) [.ref b_0, .int p1] (wB cI cJ b_0 b_1 b_2 b_3 b_4 b_5 b_6 b_7 b_8 b_9 b_10 b_11 b_12 b_13 b_14 b0) res := by
  refine g_enter (own := RX0) (free := (fun _ _ => False)) (Qc := (fun sz => gRQi res)) (fun _ _ => True) (fun sz => Or.inl rfl) rfl (by decide) rfl (Nat.le_of_ble_eq_true rfl) rfl ?_
  intro p e s m args below meth c C
  unfold FX0_tellers at hF
  refine g_aload_n (z := 0) C (tdec DX0_tellers 0 rfl) rfl rfl rfl ?_
  refine g_getf (C' := RX0) (T := TX0) (N := 10) (v := .ref b_5) C 0 2 (gIn iw_X0) rfl rfl (by decide) (gMem fl_X0_23) rfl rfl (tdec DX0_tellers 1 rfl) rfl ?_
  refine g_iload_n (z := 1) C (tdec DX0_tellers 2 rfl) rfl rfl rfl ?_
  obtain ⟨r1, y2, hF⟩ := o_bind hF
  refine g_callViR (q0 := 5) C (c_X1_at l D cB cI cJ cZ b_5 b_6 y2) rfl rfl (gIV ml_X0_55 im_X1_at sl_X1_at in_X1 cd_X1_at) rfl eX1_at rfl ⟨rfl, rfl⟩ ⟨Nat.le_of_ble_eq_true rfl, Nat.le_of_ble_eq_true rfl⟩ rfl [5, 6] rfl rfl rfl (Nat.le_of_ble_eq_true rfl) (tdec DX0_tellers 3 rfl) rfl ?_
  have hr9 := o_some hF
  subst hr9
  exact g_iretR C rfl (tdec DX0_tellers 4 rfl)
def FX0_number (b0 : BS) (p1 : Int32) : Option (Int64) :=
  (FX2_at 600 (BS_num b0) p1).bind fun r1 =>
  some r1
def rX0_number : Room := { frames := 1, cells := 0, slots := 0, locals := 21 }
set_option maxHeartbeats 4000000 in
set_option maxRecDepth 100000 in
theorem c_X0_number (l : Launch) (D : va_G) (cB cI cJ cZ : ClassId) (b_0 b_1 b_2 b_3 b_4 b_5 b_6 b_7 b_8 b_9 b_10 b_11 b_12 b_13 b_14 : Nat) {b0 : BS} {p1 : Int32} {res : Int64} (hF : FX0_number b0 p1 = some res) : gRl l yX0_number wsX0_number rX0_number D (gT cB cI cJ cZ) [.ref b_0, .int p1] (wB cI cJ b_0 b_1 b_2 b_3 b_4 b_5 b_6 b_7 b_8 b_9 b_10 b_11 b_12 b_13 b_14 b0) res := by
  refine g_enter (own := RX0) (free := (fun _ _ => False)) (Qc := (fun sz => gRQl res)) (fun _ _ => True) (fun sz => Or.inl rfl) rfl (by decide) rfl (Nat.le_of_ble_eq_true rfl) rfl ?_
  intro p e s m args below meth c C
  unfold FX0_number at hF
  refine g_aload_n (z := 0) C (tdec DX0_number 0 rfl) rfl rfl rfl ?_
  refine g_getf (C' := RX0) (T := TX0) (N := 10) (v := .ref b_7) C 0 3 (gIn iw_X0) rfl rfl (by decide) (gMem fl_X0_29) rfl rfl (tdec DX0_number 1 rfl) rfl ?_
  refine g_iload_n (z := 1) C (tdec DX0_number 2 rfl) rfl rfl rfl ?_
  obtain ⟨r1, y2, hF⟩ := o_bind hF
  refine g_callVlR (q0 := 7) C (c_X2_at l D cB cI cJ cZ b_7 b_8 y2) rfl rfl (gIV ml_X0_59 im_X2_at sl_X2_at in_X2 cd_X2_at) rfl eX2_at rfl ⟨rfl, rfl⟩ ⟨Nat.le_of_ble_eq_true rfl, Nat.le_of_ble_eq_true rfl⟩ rfl [7, 8] rfl rfl rfl (Nat.le_of_ble_eq_true rfl) (tdec DX0_number 3 rfl) rfl ?_
  have hr9 := o_some hF
  subst hr9
  exact g_lretR C rfl (tdec DX0_number 4 rfl)
def FX0_putNumber (b0 : BS) (p1 : Int32) (p2 : Int64) : Option (BS) :=
  (FX2_put 600 (BS_num b0) p1 p2).bind fun s1 =>
  some (BS_setnum b0 s1)
def rX0_putNumber : Room := { frames := 1, cells := 0, slots := 0, locals := 23 }
set_option maxHeartbeats 4000000 in
set_option maxRecDepth 100000 in
theorem c_X0_putNumber (l : Launch) (D : va_G) (cB cI cJ cZ : ClassId) (b_0 b_1 b_2 b_3 b_4 b_5 b_6 b_7 b_8 b_9 b_10 b_11 b_12 b_13 b_14 : Nat) {b0 : BS} {p1 : Int32} {p2 : Int64} {res : BS} (hF : FX0_putNumber b0 p1 p2 = some res) : gMv l yX0_putNumber wsX0_putNumber rX0_putNumber D (gT cB cI cJ cZ) [.ref b_0, .int p1, .long p2] (wB cI cJ b_0 b_1 b_2 b_3 b_4 b_5 b_6 b_7 b_8 b_9 b_10 b_11 b_12 b_13 b_14 b0) (wB cI cJ b_0 b_1 b_2 b_3 b_4 b_5 b_6 b_7 b_8 b_9 b_10 b_11 b_12 b_13 b_14 res) := by
  refine g_enter (own := RX0) (free := (fun sz => va_A (wB cI cJ b_0 b_1 b_2 b_3 b_4 b_5 b_6 b_7 b_8 b_9 b_10 b_11 b_12 b_13 b_14 b0) sz)) (Qc := (fun sz => gQv D (wB cI cJ b_0 b_1 b_2 b_3 b_4 b_5 b_6 b_7 b_8 b_9 b_10 b_11 b_12 b_13 b_14 b0) sz (wB cI cJ b_0 b_1 b_2 b_3 b_4 b_5 b_6 b_7 b_8 b_9 b_10 b_11 b_12 b_13 b_14 res))) (fun sz => va_A (wB cI cJ b_0 b_1 b_2 b_3 b_4 b_5 b_6 b_7 b_8 b_9 b_10 b_11 b_12 b_13 b_14 b0) sz) (fun sz => Or.inr rfl) rfl (by decide) rfl (Nat.le_of_ble_eq_true rfl) rfl ?_
  intro p e s m args below meth c C
  unfold FX0_putNumber at hF
  refine g_aload_n (z := 0) C (tdec DX0_putNumber 0 rfl) rfl rfl rfl ?_
  refine g_getf (C' := RX0) (T := TX0) (N := 10) (v := .ref b_7) C 0 3 (gIn iw_X0) rfl rfl (by decide) (gMem fl_X0_29) rfl rfl (tdec DX0_putNumber 1 rfl) rfl ?_
  refine g_iload_n (z := 1) C (tdec DX0_putNumber 2 rfl) rfl rfl rfl ?_
  refine g_lload_n (z := 2) C (tdec DX0_putNumber 3 rfl) rfl rfl rfl ?_
  obtain ⟨s1, y2, hF⟩ := o_bind hF
  refine g_callVvM (q0 := 7) (W' := wB cI cJ b_0 b_1 b_2 b_3 b_4 b_5 b_6 b_7 b_8 b_9 b_10 b_11 b_12 b_13 b_14 (BS_setnum b0 s1)) C (c_X2_put l D cB cI cJ cZ b_7 b_8 y2) rfl rfl (gIV ml_X0_62 im_X2_put sl_X2_put in_X2 cd_X2_put) rfl eX2_put rfl ⟨rfl, rfl⟩ ⟨Nat.le_of_ble_eq_true rfl, Nat.le_of_ble_eq_true rfl⟩ rfl [7, 8] rfl rfl rfl rfl rfl rfl (Nat.le_of_ble_eq_true rfl) (tdec DX0_putNumber 4 rfl) rfl ?_
  have hr9 := o_some hF
  subst hr9
  exact g_vret C rfl (tdec DX0_putNumber 5 rfl)
def FX0_told (b0 : BS) (p1 : Int32) : Option (Int32) :=
  (FX1_at 4822 (BS_told b0) p1).bind fun r1 =>
  some r1
def rX0_told : Room := { frames := 1, cells := 0, slots := 0, locals := 21 }
set_option maxHeartbeats 4000000 in
set_option maxRecDepth 100000 in
theorem c_X0_told (l : Launch) (D : va_G) (cB cI cJ cZ : ClassId) (b_0 b_1 b_2 b_3 b_4 b_5 b_6 b_7 b_8 b_9 b_10 b_11 b_12 b_13 b_14 : Nat) {b0 : BS} {p1 : Int32} {res : Int32} (hF : FX0_told b0 p1 = some res) : gRi l yX0_told wsX0_told rX0_told D (gT cB cI cJ cZ) [.ref b_0, .int p1] (wB cI cJ b_0 b_1 b_2 b_3 b_4 b_5 b_6 b_7 b_8 b_9 b_10 b_11 b_12 b_13 b_14 b0) res := by
  refine g_enter (own := RX0) (free := (fun _ _ => False)) (Qc := (fun sz => gRQi res)) (fun _ _ => True) (fun sz => Or.inl rfl) rfl (by decide) rfl (Nat.le_of_ble_eq_true rfl) rfl ?_
  intro p e s m args below meth c C
  unfold FX0_told at hF
  refine g_aload_n (z := 0) C (tdec DX0_told 0 rfl) rfl rfl rfl ?_
  refine g_getf (C' := RX0) (T := TX0) (N := 10) (v := .ref b_9) C 0 4 (gIn iw_X0) rfl rfl (by decide) (gMem fl_X0_33) rfl rfl (tdec DX0_told 1 rfl) rfl ?_
  refine g_iload_n (z := 1) C (tdec DX0_told 2 rfl) rfl rfl rfl ?_
  obtain ⟨r1, y2, hF⟩ := o_bind hF
  refine g_callViR (q0 := 9) C (c_X1_at l D cB cI cJ cZ b_9 b_10 y2) rfl rfl (gIV ml_X0_55 im_X1_at sl_X1_at in_X1 cd_X1_at) rfl eX1_at rfl ⟨rfl, rfl⟩ ⟨Nat.le_of_ble_eq_true rfl, Nat.le_of_ble_eq_true rfl⟩ rfl [9, 10] rfl rfl rfl (Nat.le_of_ble_eq_true rfl) (tdec DX0_told 3 rfl) rfl ?_
  have hr9 := o_some hF
  subst hr9
  exact g_iretR C rfl (tdec DX0_told 4 rfl)
def FX0_birth (b0 : BS) (p1 : Int32) : Option (Int32) :=
  (FX1_at 4822 (BS_bir b0) p1).bind fun r1 =>
  some r1
def rX0_birth : Room := { frames := 1, cells := 0, slots := 0, locals := 21 }
set_option maxHeartbeats 4000000 in
set_option maxRecDepth 100000 in
theorem c_X0_birth (l : Launch) (D : va_G) (cB cI cJ cZ : ClassId) (b_0 b_1 b_2 b_3 b_4 b_5 b_6 b_7 b_8 b_9 b_10 b_11 b_12 b_13 b_14 : Nat) {b0 : BS} {p1 : Int32} {res : Int32} (hF : FX0_birth b0 p1 = some res) : gRi l yX0_birth wsX0_birth rX0_birth D (gT cB cI cJ cZ) [.ref b_0, .int p1] (wB cI cJ b_0 b_1 b_2 b_3 b_4 b_5 b_6 b_7 b_8 b_9 b_10 b_11 b_12 b_13 b_14 b0) res := by
  refine g_enter (own := RX0) (free := (fun _ _ => False)) (Qc := (fun sz => gRQi res)) (fun _ _ => True) (fun sz => Or.inl rfl) rfl (by decide) rfl (Nat.le_of_ble_eq_true rfl) rfl ?_
  intro p e s m args below meth c C
  unfold FX0_birth at hF
  refine g_aload_n (z := 0) C (tdec DX0_birth 0 rfl) rfl rfl rfl ?_
  refine g_getf (C' := RX0) (T := TX0) (N := 10) (v := .ref b_11) C 0 5 (gIn iw_X0) rfl rfl (by decide) (gMem fl_X0_36) rfl rfl (tdec DX0_birth 1 rfl) rfl ?_
  refine g_iload_n (z := 1) C (tdec DX0_birth 2 rfl) rfl rfl rfl ?_
  obtain ⟨r1, y2, hF⟩ := o_bind hF
  refine g_callViR (q0 := 11) C (c_X1_at l D cB cI cJ cZ b_11 b_12 y2) rfl rfl (gIV ml_X0_55 im_X1_at sl_X1_at in_X1 cd_X1_at) rfl eX1_at rfl ⟨rfl, rfl⟩ ⟨Nat.le_of_ble_eq_true rfl, Nat.le_of_ble_eq_true rfl⟩ rfl [11, 12] rfl rfl rfl (Nat.le_of_ble_eq_true rfl) (tdec DX0_birth 3 rfl) rfl ?_
  have hr9 := o_some hF
  subst hr9
  exact g_iretR C rfl (tdec DX0_birth 4 rfl)
def FX0_slotIn (b0 : BS) (p1 : Int32) (p2 : Int32) : Option (Int32) :=
  (FX1_at 600 (BS_lev b0) p1).bind fun r1 =>
  if 1 ≤ r1 then
    some ((p1 * 8) + ((p2 >>> ((3 * (r1 - 1)) &&& 31)) &&& 7))
  else
    some (-1)
def rX0_slotIn : Room := { frames := 1, cells := 0, slots := 0, locals := 21 }
set_option maxHeartbeats 4000000 in
set_option maxRecDepth 100000 in
theorem c_X0_slotIn (l : Launch) (D : va_G) (cB cI cJ cZ : ClassId) (b_0 b_1 b_2 b_3 b_4 b_5 b_6 b_7 b_8 b_9 b_10 b_11 b_12 b_13 b_14 : Nat) {b0 : BS} {p1 : Int32} {p2 : Int32} {res : Int32} (hF : FX0_slotIn b0 p1 p2 = some res) : gRi l yX0_slotIn wsX0_slotIn rX0_slotIn D (gT cB cI cJ cZ) [.ref b_0, .int p1, .int p2] (wB cI cJ b_0 b_1 b_2 b_3 b_4 b_5 b_6 b_7 b_8 b_9 b_10 b_11 b_12 b_13 b_14 b0) res := by
  refine g_enter (own := RX0) (free := (fun _ _ => False)) (Qc := (fun sz => gRQi res)) (fun _ _ => True) (fun sz => Or.inl rfl) rfl (by decide) rfl (Nat.le_of_ble_eq_true rfl) rfl ?_
  intro p e s m args below meth c C
  unfold FX0_slotIn at hF
  refine g_aload_n (z := 0) C (tdec DX0_slotIn 0 rfl) rfl rfl rfl ?_
  refine g_getf (C' := RX0) (T := TX0) (N := 10) (v := .ref b_1) C 0 0 (gIn iw_X0) rfl rfl (by decide) (gMem fl_X0_14) rfl rfl (tdec DX0_slotIn 1 rfl) rfl ?_
  refine g_iload_n (z := 1) C (tdec DX0_slotIn 2 rfl) rfl rfl rfl ?_
  obtain ⟨r1, y2, hF⟩ := o_bind hF
  refine g_callViR (q0 := 1) C (c_X1_at l D cB cI cJ cZ b_1 b_2 y2) rfl rfl (gIV ml_X0_55 im_X1_at sl_X1_at in_X1 cd_X1_at) rfl eX1_at rfl ⟨rfl, rfl⟩ ⟨Nat.le_of_ble_eq_true rfl, Nat.le_of_ble_eq_true rfl⟩ rfl [1, 2] rfl rfl rfl (Nat.le_of_ble_eq_true rfl) (tdec DX0_slotIn 3 rfl) rfl ?_
  refine g_istore_n (L' := [(3, .int r1), (0, .ref b_0), (1, .int p1), (2, .int p2)]) C (tdec DX0_slotIn 4 rfl) rfl (by decide) rfl rfl ?_
  refine g_iload_n (z := 0) C (tdec DX0_slotIn 5 rfl) rfl rfl rfl ?_
  refine g_iconst (v := 1) C (tdec DX0_slotIn 6 rfl) (by decide) rfl ?_
  refine g_icmp_ge (pt := 16) C (tdec DX0_slotIn 7 rfl) (by decide) rfl (fun h3 => ?_) (fun h3 => ?_)
  · have hF := o_ifp hF h3
    refine g_iload_n (z := 2) C (tdec DX0_slotIn 10 rfl) rfl rfl rfl ?_
    refine g_bipush (v := 8) C (tdec DX0_slotIn 11 rfl) (by decide) rfl ?_
    refine g_imul C (tdec DX0_slotIn 12 rfl) rfl ?_
    refine g_iload_n (z := 3) C (tdec DX0_slotIn 13 rfl) rfl rfl rfl ?_
    refine g_iconst (v := 3) C (tdec DX0_slotIn 14 rfl) (by decide) rfl ?_
    refine g_iload_n (z := 0) C (tdec DX0_slotIn 15 rfl) rfl rfl rfl ?_
    refine g_iconst (v := 1) C (tdec DX0_slotIn 16 rfl) (by decide) rfl ?_
    refine g_isub C (tdec DX0_slotIn 17 rfl) rfl ?_
    refine g_imul C (tdec DX0_slotIn 18 rfl) rfl ?_
    refine g_ishr C (tdec DX0_slotIn 19 rfl) rfl ?_
    refine g_bipush (v := 7) C (tdec DX0_slotIn 20 rfl) (by decide) rfl ?_
    refine g_iand C (tdec DX0_slotIn 21 rfl) rfl ?_
    refine g_iadd C (tdec DX0_slotIn 22 rfl) rfl ?_
    have hr9 := o_some hF
    subst hr9
    exact g_iretR C rfl (tdec DX0_slotIn 23 rfl)
  · have hF := o_ifn hF h3
    refine g_iconst (v := (-1)) C (tdec DX0_slotIn 8 rfl) (by decide) rfl ?_
    have hr9 := o_some hF
    subst hr9
    exact g_iretR C rfl (tdec DX0_slotIn 9 rfl)
def FX0_point (b0 : BS) (p1 : Int32) (p2 : Int32) (p3 : Int32) : Option (BS) :=
  (FX1_at 4822 (BS_told b0) p1).bind fun r1 =>
  if p2 = (-1) then
    (FX1_put 4822 (BS_told b0) p1 p2).bind fun s4 =>
    (FX1_put 4822 (BS_bir b0) p1 p3).bind fun s6 =>
    if r1 = (-1) then
      some (BS_setbir (BS_settold b0 s4) s6)
    else
      (FX1_at 600 (BS_tel b0) r1).bind fun r9 =>
      (FX1_put 600 (BS_tel b0) r1 (r9 - 1)).bind fun s11 =>
      (FX1_at 600 s11 r1).bind fun r13 =>
      if r13 = 0 then
        (FX1_put 600 (BS_loo b0) (BS_lc b0) r1).bind fun s16 =>
        some (BS_setlc (BS_setloo (BS_settel (BS_setbir (BS_settold b0 s4) s6) s11) s16) ((BS_lc b0) + 1))
      else
        some (BS_settel (BS_setbir (BS_settold b0 s4) s6) s11)
  else
    (FX1_at 600 (BS_tel b0) p2).bind fun r18 =>
    (FX1_put 600 (BS_tel b0) p2 (r18 + 1)).bind fun s20 =>
    (FX1_put 4822 (BS_told b0) p1 p2).bind fun s22 =>
    (FX1_put 4822 (BS_bir b0) p1 p3).bind fun s24 =>
    if r1 = (-1) then
      some (BS_setbir (BS_settold (BS_settel b0 s20) s22) s24)
    else
      (FX1_at 600 s20 r1).bind fun r27 =>
      (FX1_put 600 s20 r1 (r27 - 1)).bind fun s29 =>
      (FX1_at 600 s29 r1).bind fun r31 =>
      if r31 = 0 then
        (FX1_put 600 (BS_loo b0) (BS_lc b0) r1).bind fun s34 =>
        some (BS_setlc (BS_setloo (BS_settel (BS_setbir (BS_settold (BS_settel b0 s20) s22) s24) s29) s34) ((BS_lc b0) + 1))
      else
        some (BS_settel (BS_setbir (BS_settold (BS_settel b0 s20) s22) s24) s29)
def rX0_point : Room := { frames := 1, cells := 0, slots := 0, locals := 22 }
set_option maxHeartbeats 4000000 in
set_option maxRecDepth 100000 in
theorem c_X0_point (l : Launch) (D : va_G) (cB cI cJ cZ : ClassId) (b_0 b_1 b_2 b_3 b_4 b_5 b_6 b_7 b_8 b_9 b_10 b_11 b_12 b_13 b_14 : Nat) {b0 : BS} {p1 : Int32} {p2 : Int32} {p3 : Int32} {res : BS} (hF : FX0_point b0 p1 p2 p3 = some res) : gMv l yX0_point wsX0_point rX0_point D (gT cB cI cJ cZ) [.ref b_0, .int p1, .int p2, .int p3] (wB cI cJ b_0 b_1 b_2 b_3 b_4 b_5 b_6 b_7 b_8 b_9 b_10 b_11 b_12 b_13 b_14 b0) (wB cI cJ b_0 b_1 b_2 b_3 b_4 b_5 b_6 b_7 b_8 b_9 b_10 b_11 b_12 b_13 b_14 res) := by
  refine g_enter (own := RX0) (free := (fun sz => va_A (wB cI cJ b_0 b_1 b_2 b_3 b_4 b_5 b_6 b_7 b_8 b_9 b_10 b_11 b_12 b_13 b_14 b0) sz)) (Qc := (fun sz => gQv D (wB cI cJ b_0 b_1 b_2 b_3 b_4 b_5 b_6 b_7 b_8 b_9 b_10 b_11 b_12 b_13 b_14 b0) sz (wB cI cJ b_0 b_1 b_2 b_3 b_4 b_5 b_6 b_7 b_8 b_9 b_10 b_11 b_12 b_13 b_14 res))) (fun sz => va_A (wB cI cJ b_0 b_1 b_2 b_3 b_4 b_5 b_6 b_7 b_8 b_9 b_10 b_11 b_12 b_13 b_14 b0) sz) (fun sz => Or.inr rfl) rfl (by decide) rfl (Nat.le_of_ble_eq_true rfl) rfl ?_
  intro p e s m args below meth c C
  unfold FX0_point at hF
  refine g_aload_n (z := 0) C (tdec DX0_point 0 rfl) rfl rfl rfl ?_
  refine g_getf (C' := RX0) (T := TX0) (N := 10) (v := .ref b_9) C 0 4 (gIn iw_X0) rfl rfl (by decide) (gMem fl_X0_33) rfl rfl (tdec DX0_point 1 rfl) rfl ?_
  refine g_iload_n (z := 1) C (tdec DX0_point 2 rfl) rfl rfl rfl ?_
  obtain ⟨r1, y2, hF⟩ := o_bind hF
  refine g_callViR (q0 := 9) C (c_X1_at l D cB cI cJ cZ b_9 b_10 y2) rfl rfl (gIV ml_X0_55 im_X1_at sl_X1_at in_X1 cd_X1_at) rfl eX1_at rfl ⟨rfl, rfl⟩ ⟨Nat.le_of_ble_eq_true rfl, Nat.le_of_ble_eq_true rfl⟩ rfl [9, 10] rfl rfl rfl (Nat.le_of_ble_eq_true rfl) (tdec DX0_point 3 rfl) rfl ?_
  refine g_istore (L' := [(4, .int r1), (0, .ref b_0), (1, .int p1), (2, .int p2), (3, .int p3)]) C (tdec DX0_point 4 rfl) (by decide) rfl rfl ?_
  refine g_iload_n (z := 3) C (tdec DX0_point 5 rfl) rfl rfl rfl ?_
  refine g_iconst (v := (-1)) C (tdec DX0_point 6 rfl) (by decide) rfl ?_
  refine g_icmp_eq (pt := 33) C (tdec DX0_point 7 rfl) (by decide) rfl (fun h3 => ?_) (fun h3 => ?_)
  · have hF := o_ifp hF h3
    refine g_aload_n (z := 1) C (tdec DX0_point 18 rfl) rfl rfl rfl ?_
    refine g_getf (C' := RX0) (T := TX0) (N := 10) (v := .ref b_9) C 0 4 (gIn iw_X0) rfl rfl (by decide) (gMem fl_X0_33) rfl rfl (tdec DX0_point 19 rfl) rfl ?_
    refine g_iload_n (z := 2) C (tdec DX0_point 20 rfl) rfl rfl rfl ?_
    refine g_iload_n (z := 3) C (tdec DX0_point 21 rfl) rfl rfl rfl ?_
    obtain ⟨s4, y5, hF⟩ := o_bind hF
    refine g_callVvM (q0 := 9) (W' := wB cI cJ b_0 b_1 b_2 b_3 b_4 b_5 b_6 b_7 b_8 b_9 b_10 b_11 b_12 b_13 b_14 (BS_settold b0 s4)) C (c_X1_put l D cB cI cJ cZ b_9 b_10 y5) rfl rfl (gIV ml_X0_66 im_X1_put sl_X1_put in_X1 cd_X1_put) rfl eX1_put rfl ⟨rfl, rfl⟩ ⟨Nat.le_of_ble_eq_true rfl, Nat.le_of_ble_eq_true rfl⟩ rfl [9, 10] rfl rfl rfl rfl rfl rfl (Nat.le_of_ble_eq_true rfl) (tdec DX0_point 22 rfl) rfl ?_
    refine g_aload_n (z := 1) C (tdec DX0_point 23 rfl) rfl rfl rfl ?_
    refine g_getf (C' := RX0) (T := TX0) (N := 10) (v := .ref b_11) C 0 5 (gIn iw_X0) rfl rfl (by decide) (gMem fl_X0_36) rfl rfl (tdec DX0_point 24 rfl) rfl ?_
    refine g_iload_n (z := 2) C (tdec DX0_point 25 rfl) rfl rfl rfl ?_
    refine g_iload_n (z := 4) C (tdec DX0_point 26 rfl) rfl rfl rfl ?_
    obtain ⟨s6, y7, hF⟩ := o_bind hF
    refine g_callVvM (q0 := 11) (W' := wB cI cJ b_0 b_1 b_2 b_3 b_4 b_5 b_6 b_7 b_8 b_9 b_10 b_11 b_12 b_13 b_14 (BS_setbir (BS_settold b0 s4) s6)) C (c_X1_put l D cB cI cJ cZ b_11 b_12 y7) rfl rfl (gIV ml_X0_66 im_X1_put sl_X1_put in_X1 cd_X1_put) rfl eX1_put rfl ⟨rfl, rfl⟩ ⟨Nat.le_of_ble_eq_true rfl, Nat.le_of_ble_eq_true rfl⟩ rfl [11, 12] rfl rfl rfl rfl rfl rfl (Nat.le_of_ble_eq_true rfl) (tdec DX0_point 27 rfl) rfl ?_
    refine g_iload (z := 0) C (tdec DX0_point 28 rfl) rfl rfl ?_
    refine g_iconst (v := (-1)) C (tdec DX0_point 29 rfl) (by decide) rfl ?_
    refine g_icmp_eq (pt := 112) C (tdec DX0_point 30 rfl) (by decide) rfl (fun h8 => ?_) (fun h8 => ?_)
    · have hF := o_ifp hF h8
      have hr9 := o_some hF
      subst hr9
      exact g_vret C rfl (tdec DX0_point 58 rfl)
    · have hF := o_ifn hF h8
      refine g_aload_n (z := 1) C (tdec DX0_point 31 rfl) rfl rfl rfl ?_
      refine g_getf (C' := RX0) (T := TX0) (N := 10) (v := .ref b_5) C 0 2 (gIn iw_X0) rfl rfl (by decide) (gMem fl_X0_23) rfl rfl (tdec DX0_point 32 rfl) rfl ?_
      refine g_iload (z := 0) C (tdec DX0_point 33 rfl) rfl rfl ?_
      refine g_aload_n (z := 1) C (tdec DX0_point 34 rfl) rfl rfl rfl ?_
      refine g_getf (C' := RX0) (T := TX0) (N := 10) (v := .ref b_5) C 0 2 (gIn iw_X0) rfl rfl (by decide) (gMem fl_X0_23) rfl rfl (tdec DX0_point 35 rfl) rfl ?_
      refine g_iload (z := 0) C (tdec DX0_point 36 rfl) rfl rfl ?_
      obtain ⟨r9, y10, hF⟩ := o_bind hF
      refine g_callViR (q0 := 5) C (c_X1_at l D cB cI cJ cZ b_5 b_6 y10) rfl rfl (gIV ml_X0_55 im_X1_at sl_X1_at in_X1 cd_X1_at) rfl eX1_at rfl ⟨rfl, rfl⟩ ⟨Nat.le_of_ble_eq_true rfl, Nat.le_of_ble_eq_true rfl⟩ rfl [5, 6] rfl rfl rfl (Nat.le_of_ble_eq_true rfl) (tdec DX0_point 37 rfl) rfl ?_
      refine g_iconst (v := 1) C (tdec DX0_point 38 rfl) (by decide) rfl ?_
      refine g_isub C (tdec DX0_point 39 rfl) rfl ?_
      obtain ⟨s11, y12, hF⟩ := o_bind hF
      refine g_callVvM (q0 := 5) (W' := wB cI cJ b_0 b_1 b_2 b_3 b_4 b_5 b_6 b_7 b_8 b_9 b_10 b_11 b_12 b_13 b_14 (BS_settel (BS_setbir (BS_settold b0 s4) s6) s11)) C (c_X1_put l D cB cI cJ cZ b_5 b_6 y12) rfl rfl (gIV ml_X0_66 im_X1_put sl_X1_put in_X1 cd_X1_put) rfl eX1_put rfl ⟨rfl, rfl⟩ ⟨Nat.le_of_ble_eq_true rfl, Nat.le_of_ble_eq_true rfl⟩ rfl [5, 6] rfl rfl rfl rfl rfl rfl (Nat.le_of_ble_eq_true rfl) (tdec DX0_point 40 rfl) rfl ?_
      refine g_aload_n (z := 1) C (tdec DX0_point 41 rfl) rfl rfl rfl ?_
      refine g_getf (C' := RX0) (T := TX0) (N := 10) (v := .ref b_5) C 0 2 (gIn iw_X0) rfl rfl (by decide) (gMem fl_X0_23) rfl rfl (tdec DX0_point 42 rfl) rfl ?_
      refine g_iload (z := 0) C (tdec DX0_point 43 rfl) rfl rfl ?_
      obtain ⟨r13, y14, hF⟩ := o_bind hF
      refine g_callViR (q0 := 5) C (c_X1_at l D cB cI cJ cZ b_5 b_6 y14) rfl rfl (gIV ml_X0_55 im_X1_at sl_X1_at in_X1 cd_X1_at) rfl eX1_at rfl ⟨rfl, rfl⟩ ⟨Nat.le_of_ble_eq_true rfl, Nat.le_of_ble_eq_true rfl⟩ rfl [5, 6] rfl rfl rfl (Nat.le_of_ble_eq_true rfl) (tdec DX0_point 44 rfl) rfl ?_
      refine g_if_ne (pt := 112) C (tdec DX0_point 45 rfl) (by decide) rfl (fun h15 => ?_) (fun h15 => ?_)
      · have hF := o_ifn hF h15
        have hr9 := o_some hF
        subst hr9
        exact g_vret C rfl (tdec DX0_point 58 rfl)
      · have hF := o_ifp hF h15
        refine g_aload_n (z := 1) C (tdec DX0_point 46 rfl) rfl rfl rfl ?_
        refine g_getf (C' := RX0) (T := TX0) (N := 10) (v := .ref b_13) C 0 6 (gIn iw_X0) rfl rfl (by decide) (gMem fl_X0_39) rfl rfl (tdec DX0_point 47 rfl) rfl ?_
        refine g_aload_n (z := 1) C (tdec DX0_point 48 rfl) rfl rfl rfl ?_
        refine g_getf (C' := RX0) (T := TX0) (N := 10) (v := .int (BS_lc b0)) C 0 7 (gIn iw_X0) rfl rfl (by decide) (gMem fl_X0_45) rfl rfl (tdec DX0_point 49 rfl) rfl ?_
        refine g_iload (z := 0) C (tdec DX0_point 50 rfl) rfl rfl ?_
        obtain ⟨s16, y17, hF⟩ := o_bind hF
        refine g_callVvM (q0 := 13) (W' := wB cI cJ b_0 b_1 b_2 b_3 b_4 b_5 b_6 b_7 b_8 b_9 b_10 b_11 b_12 b_13 b_14 (BS_setloo (BS_settel (BS_setbir (BS_settold b0 s4) s6) s11) s16)) C (c_X1_put l D cB cI cJ cZ b_13 b_14 y17) rfl rfl (gIV ml_X0_66 im_X1_put sl_X1_put in_X1 cd_X1_put) rfl eX1_put rfl ⟨rfl, rfl⟩ ⟨Nat.le_of_ble_eq_true rfl, Nat.le_of_ble_eq_true rfl⟩ rfl [13, 14] rfl rfl rfl rfl rfl rfl (Nat.le_of_ble_eq_true rfl) (tdec DX0_point 51 rfl) rfl ?_
        refine g_aload_n (z := 1) C (tdec DX0_point 52 rfl) rfl rfl rfl ?_
        refine g_dup C (tdec DX0_point 53 rfl) rfl rfl ?_
        refine g_getf (C' := RX0) (T := TX0) (N := 10) (v := .int (BS_lc b0)) C 0 7 (gIn iw_X0) rfl rfl (by decide) (gMem fl_X0_45) rfl rfl (tdec DX0_point 54 rfl) rfl ?_
        refine g_iconst (v := 1) C (tdec DX0_point 55 rfl) (by decide) rfl ?_
        refine g_iadd C (tdec DX0_point 56 rfl) rfl ?_
        refine g_putf (C' := RX0) (T := TX0) (N := 10) (v := .int ((BS_lc b0) + 1)) (ws' := wB cI cJ b_0 b_1 b_2 b_3 b_4 b_5 b_6 b_7 b_8 b_9 b_10 b_11 b_12 b_13 b_14 (BS_setlc (BS_setloo (BS_settel (BS_setbir (BS_settold b0 s4) s6) s11) s16) ((BS_lc b0) + 1))) C 0 7 tyX0 tyX0_ok nmX0 (gIn iw_X0) rfl rfl (by decide) (gMem fl_X0_45) rfl rfl (tyX0_ok 7 (by decide)) rfl rfl (Nat.le_of_ble_eq_true rfl) rfl (tdec DX0_point 57 rfl) rfl ?_
        have hr9 := o_some hF
        subst hr9
        exact g_vret C rfl (tdec DX0_point 58 rfl)
  · have hF := o_ifn hF h3
    refine g_aload_n (z := 1) C (tdec DX0_point 8 rfl) rfl rfl rfl ?_
    refine g_getf (C' := RX0) (T := TX0) (N := 10) (v := .ref b_5) C 0 2 (gIn iw_X0) rfl rfl (by decide) (gMem fl_X0_23) rfl rfl (tdec DX0_point 9 rfl) rfl ?_
    refine g_iload_n (z := 3) C (tdec DX0_point 10 rfl) rfl rfl rfl ?_
    refine g_aload_n (z := 1) C (tdec DX0_point 11 rfl) rfl rfl rfl ?_
    refine g_getf (C' := RX0) (T := TX0) (N := 10) (v := .ref b_5) C 0 2 (gIn iw_X0) rfl rfl (by decide) (gMem fl_X0_23) rfl rfl (tdec DX0_point 12 rfl) rfl ?_
    refine g_iload_n (z := 3) C (tdec DX0_point 13 rfl) rfl rfl rfl ?_
    obtain ⟨r18, y19, hF⟩ := o_bind hF
    refine g_callViR (q0 := 5) C (c_X1_at l D cB cI cJ cZ b_5 b_6 y19) rfl rfl (gIV ml_X0_55 im_X1_at sl_X1_at in_X1 cd_X1_at) rfl eX1_at rfl ⟨rfl, rfl⟩ ⟨Nat.le_of_ble_eq_true rfl, Nat.le_of_ble_eq_true rfl⟩ rfl [5, 6] rfl rfl rfl (Nat.le_of_ble_eq_true rfl) (tdec DX0_point 14 rfl) rfl ?_
    refine g_iconst (v := 1) C (tdec DX0_point 15 rfl) (by decide) rfl ?_
    refine g_iadd C (tdec DX0_point 16 rfl) rfl ?_
    obtain ⟨s20, y21, hF⟩ := o_bind hF
    refine g_callVvM (q0 := 5) (W' := wB cI cJ b_0 b_1 b_2 b_3 b_4 b_5 b_6 b_7 b_8 b_9 b_10 b_11 b_12 b_13 b_14 (BS_settel b0 s20)) C (c_X1_put l D cB cI cJ cZ b_5 b_6 y21) rfl rfl (gIV ml_X0_66 im_X1_put sl_X1_put in_X1 cd_X1_put) rfl eX1_put rfl ⟨rfl, rfl⟩ ⟨Nat.le_of_ble_eq_true rfl, Nat.le_of_ble_eq_true rfl⟩ rfl [5, 6] rfl rfl rfl rfl rfl rfl (Nat.le_of_ble_eq_true rfl) (tdec DX0_point 17 rfl) rfl ?_
    refine g_aload_n (z := 1) C (tdec DX0_point 18 rfl) rfl rfl rfl ?_
    refine g_getf (C' := RX0) (T := TX0) (N := 10) (v := .ref b_9) C 0 4 (gIn iw_X0) rfl rfl (by decide) (gMem fl_X0_33) rfl rfl (tdec DX0_point 19 rfl) rfl ?_
    refine g_iload_n (z := 2) C (tdec DX0_point 20 rfl) rfl rfl rfl ?_
    refine g_iload_n (z := 3) C (tdec DX0_point 21 rfl) rfl rfl rfl ?_
    obtain ⟨s22, y23, hF⟩ := o_bind hF
    refine g_callVvM (q0 := 9) (W' := wB cI cJ b_0 b_1 b_2 b_3 b_4 b_5 b_6 b_7 b_8 b_9 b_10 b_11 b_12 b_13 b_14 (BS_settold (BS_settel b0 s20) s22)) C (c_X1_put l D cB cI cJ cZ b_9 b_10 y23) rfl rfl (gIV ml_X0_66 im_X1_put sl_X1_put in_X1 cd_X1_put) rfl eX1_put rfl ⟨rfl, rfl⟩ ⟨Nat.le_of_ble_eq_true rfl, Nat.le_of_ble_eq_true rfl⟩ rfl [9, 10] rfl rfl rfl rfl rfl rfl (Nat.le_of_ble_eq_true rfl) (tdec DX0_point 22 rfl) rfl ?_
    refine g_aload_n (z := 1) C (tdec DX0_point 23 rfl) rfl rfl rfl ?_
    refine g_getf (C' := RX0) (T := TX0) (N := 10) (v := .ref b_11) C 0 5 (gIn iw_X0) rfl rfl (by decide) (gMem fl_X0_36) rfl rfl (tdec DX0_point 24 rfl) rfl ?_
    refine g_iload_n (z := 2) C (tdec DX0_point 25 rfl) rfl rfl rfl ?_
    refine g_iload_n (z := 4) C (tdec DX0_point 26 rfl) rfl rfl rfl ?_
    obtain ⟨s24, y25, hF⟩ := o_bind hF
    refine g_callVvM (q0 := 11) (W' := wB cI cJ b_0 b_1 b_2 b_3 b_4 b_5 b_6 b_7 b_8 b_9 b_10 b_11 b_12 b_13 b_14 (BS_setbir (BS_settold (BS_settel b0 s20) s22) s24)) C (c_X1_put l D cB cI cJ cZ b_11 b_12 y25) rfl rfl (gIV ml_X0_66 im_X1_put sl_X1_put in_X1 cd_X1_put) rfl eX1_put rfl ⟨rfl, rfl⟩ ⟨Nat.le_of_ble_eq_true rfl, Nat.le_of_ble_eq_true rfl⟩ rfl [11, 12] rfl rfl rfl rfl rfl rfl (Nat.le_of_ble_eq_true rfl) (tdec DX0_point 27 rfl) rfl ?_
    refine g_iload (z := 0) C (tdec DX0_point 28 rfl) rfl rfl ?_
    refine g_iconst (v := (-1)) C (tdec DX0_point 29 rfl) (by decide) rfl ?_
    refine g_icmp_eq (pt := 112) C (tdec DX0_point 30 rfl) (by decide) rfl (fun h26 => ?_) (fun h26 => ?_)
    · have hF := o_ifp hF h26
      have hr9 := o_some hF
      subst hr9
      exact g_vret C rfl (tdec DX0_point 58 rfl)
    · have hF := o_ifn hF h26
      refine g_aload_n (z := 1) C (tdec DX0_point 31 rfl) rfl rfl rfl ?_
      refine g_getf (C' := RX0) (T := TX0) (N := 10) (v := .ref b_5) C 0 2 (gIn iw_X0) rfl rfl (by decide) (gMem fl_X0_23) rfl rfl (tdec DX0_point 32 rfl) rfl ?_
      refine g_iload (z := 0) C (tdec DX0_point 33 rfl) rfl rfl ?_
      refine g_aload_n (z := 1) C (tdec DX0_point 34 rfl) rfl rfl rfl ?_
      refine g_getf (C' := RX0) (T := TX0) (N := 10) (v := .ref b_5) C 0 2 (gIn iw_X0) rfl rfl (by decide) (gMem fl_X0_23) rfl rfl (tdec DX0_point 35 rfl) rfl ?_
      refine g_iload (z := 0) C (tdec DX0_point 36 rfl) rfl rfl ?_
      obtain ⟨r27, y28, hF⟩ := o_bind hF
      refine g_callViR (q0 := 5) C (c_X1_at l D cB cI cJ cZ b_5 b_6 y28) rfl rfl (gIV ml_X0_55 im_X1_at sl_X1_at in_X1 cd_X1_at) rfl eX1_at rfl ⟨rfl, rfl⟩ ⟨Nat.le_of_ble_eq_true rfl, Nat.le_of_ble_eq_true rfl⟩ rfl [5, 6] rfl rfl rfl (Nat.le_of_ble_eq_true rfl) (tdec DX0_point 37 rfl) rfl ?_
      refine g_iconst (v := 1) C (tdec DX0_point 38 rfl) (by decide) rfl ?_
      refine g_isub C (tdec DX0_point 39 rfl) rfl ?_
      obtain ⟨s29, y30, hF⟩ := o_bind hF
      refine g_callVvM (q0 := 5) (W' := wB cI cJ b_0 b_1 b_2 b_3 b_4 b_5 b_6 b_7 b_8 b_9 b_10 b_11 b_12 b_13 b_14 (BS_settel (BS_setbir (BS_settold (BS_settel b0 s20) s22) s24) s29)) C (c_X1_put l D cB cI cJ cZ b_5 b_6 y30) rfl rfl (gIV ml_X0_66 im_X1_put sl_X1_put in_X1 cd_X1_put) rfl eX1_put rfl ⟨rfl, rfl⟩ ⟨Nat.le_of_ble_eq_true rfl, Nat.le_of_ble_eq_true rfl⟩ rfl [5, 6] rfl rfl rfl rfl rfl rfl (Nat.le_of_ble_eq_true rfl) (tdec DX0_point 40 rfl) rfl ?_
      refine g_aload_n (z := 1) C (tdec DX0_point 41 rfl) rfl rfl rfl ?_
      refine g_getf (C' := RX0) (T := TX0) (N := 10) (v := .ref b_5) C 0 2 (gIn iw_X0) rfl rfl (by decide) (gMem fl_X0_23) rfl rfl (tdec DX0_point 42 rfl) rfl ?_
      refine g_iload (z := 0) C (tdec DX0_point 43 rfl) rfl rfl ?_
      obtain ⟨r31, y32, hF⟩ := o_bind hF
      refine g_callViR (q0 := 5) C (c_X1_at l D cB cI cJ cZ b_5 b_6 y32) rfl rfl (gIV ml_X0_55 im_X1_at sl_X1_at in_X1 cd_X1_at) rfl eX1_at rfl ⟨rfl, rfl⟩ ⟨Nat.le_of_ble_eq_true rfl, Nat.le_of_ble_eq_true rfl⟩ rfl [5, 6] rfl rfl rfl (Nat.le_of_ble_eq_true rfl) (tdec DX0_point 44 rfl) rfl ?_
      refine g_if_ne (pt := 112) C (tdec DX0_point 45 rfl) (by decide) rfl (fun h33 => ?_) (fun h33 => ?_)
      · have hF := o_ifn hF h33
        have hr9 := o_some hF
        subst hr9
        exact g_vret C rfl (tdec DX0_point 58 rfl)
      · have hF := o_ifp hF h33
        refine g_aload_n (z := 1) C (tdec DX0_point 46 rfl) rfl rfl rfl ?_
        refine g_getf (C' := RX0) (T := TX0) (N := 10) (v := .ref b_13) C 0 6 (gIn iw_X0) rfl rfl (by decide) (gMem fl_X0_39) rfl rfl (tdec DX0_point 47 rfl) rfl ?_
        refine g_aload_n (z := 1) C (tdec DX0_point 48 rfl) rfl rfl rfl ?_
        refine g_getf (C' := RX0) (T := TX0) (N := 10) (v := .int (BS_lc b0)) C 0 7 (gIn iw_X0) rfl rfl (by decide) (gMem fl_X0_45) rfl rfl (tdec DX0_point 49 rfl) rfl ?_
        refine g_iload (z := 0) C (tdec DX0_point 50 rfl) rfl rfl ?_
        obtain ⟨s34, y35, hF⟩ := o_bind hF
        refine g_callVvM (q0 := 13) (W' := wB cI cJ b_0 b_1 b_2 b_3 b_4 b_5 b_6 b_7 b_8 b_9 b_10 b_11 b_12 b_13 b_14 (BS_setloo (BS_settel (BS_setbir (BS_settold (BS_settel b0 s20) s22) s24) s29) s34)) C (c_X1_put l D cB cI cJ cZ b_13 b_14 y35) rfl rfl (gIV ml_X0_66 im_X1_put sl_X1_put in_X1 cd_X1_put) rfl eX1_put rfl ⟨rfl, rfl⟩ ⟨Nat.le_of_ble_eq_true rfl, Nat.le_of_ble_eq_true rfl⟩ rfl [13, 14] rfl rfl rfl rfl rfl rfl (Nat.le_of_ble_eq_true rfl) (tdec DX0_point 51 rfl) rfl ?_
        refine g_aload_n (z := 1) C (tdec DX0_point 52 rfl) rfl rfl rfl ?_
        refine g_dup C (tdec DX0_point 53 rfl) rfl rfl ?_
        refine g_getf (C' := RX0) (T := TX0) (N := 10) (v := .int (BS_lc b0)) C 0 7 (gIn iw_X0) rfl rfl (by decide) (gMem fl_X0_45) rfl rfl (tdec DX0_point 54 rfl) rfl ?_
        refine g_iconst (v := 1) C (tdec DX0_point 55 rfl) (by decide) rfl ?_
        refine g_iadd C (tdec DX0_point 56 rfl) rfl ?_
        refine g_putf (C' := RX0) (T := TX0) (N := 10) (v := .int ((BS_lc b0) + 1)) (ws' := wB cI cJ b_0 b_1 b_2 b_3 b_4 b_5 b_6 b_7 b_8 b_9 b_10 b_11 b_12 b_13 b_14 (BS_setlc (BS_setloo (BS_settel (BS_setbir (BS_settold (BS_settel b0 s20) s22) s24) s29) s34) ((BS_lc b0) + 1))) C 0 7 tyX0 tyX0_ok nmX0 (gIn iw_X0) rfl rfl (by decide) (gMem fl_X0_45) rfl rfl (tyX0_ok 7 (by decide)) rfl rfl (Nat.le_of_ble_eq_true rfl) rfl (tdec DX0_point 57 rfl) rfl ?_
        have hr9 := o_some hF
        subst hr9
        exact g_vret C rfl (tdec DX0_point 58 rfl)
def FX0_hasOnlyHoles_L2 (b0 : BS) (v1 : Int32) (k9 : Int32 → Option (Int32)) : Nat → Int32 → Option (Int32)
  | 0, _ => none
  | n9 + 1, v2 =>
    if 8 ≤ v2 then
      k9 v2
    else
      (FX1_at 4822 (BS_told b0) ((v1 * 8) + v2)).bind fun r2 =>
      if r2 = (-1) then
        FX0_hasOnlyHoles_L2 b0 v1 k9 n9 (v2 + 1)
      else
        some 0
def FX0_hasOnlyHoles (b0 : BS) (p1 : Int32) : Option (Int32) :=
  FX0_hasOnlyHoles_L2 b0 p1 (fun w2_5 =>
    some 1) 100000 0
def rX0_hasOnlyHoles : Room := { frames := 1, cells := 0, slots := 0, locals := 21 }
set_option maxHeartbeats 4000000 in
set_option maxRecDepth 100000 in
theorem c_FX0_hasOnlyHoles_L2 {p : Program} {l : Launch} {e : Env} {s : State} {m : MethodId} {args : Array Value} {below : List Frame} {meth : Method} {c : Code} {D : va_G} {cB cI cJ cZ : ClassId} {b_0 b_1 b_2 b_3 b_4 b_5 b_6 b_7 b_8 b_9 b_10 b_11 b_12 b_13 b_14 : Nat} {b0 : BS} {res : Int32} (C : gC p s m args meth c cX0_hasOnlyHoles 3 RX0 wsX0_hasOnlyHoles D (gT cB cI cJ cZ) (some .boolean) (fun _ => False)) {v1 : Int32} {k9 : Int32 → Option (Int32)} (hk9 : ∀ (v2 : Int32), k9 v2 = some res → gG p l e (headSpec wsX0_hasOnlyHoles rX0_hasOnlyHoles).room s m args below meth c 0 0 D (fun _ => True) (fun _ => False) 3 (MQ below (gRQi res) args s 0 0 (fun _ => False)) (wB cI cJ b_0 b_1 b_2 b_3 b_4 b_5 b_6 b_7 b_8 b_9 b_10 b_11 b_12 b_13 b_14 b0) 33 [(0, .ref b_0), (1, .int v1), (2, .int v2)] []) :
    ∀ (n9 : Nat) (v2 : Int32), FX0_hasOnlyHoles_L2 b0 v1 k9 n9 v2 = some res → gG p l e (headSpec wsX0_hasOnlyHoles rX0_hasOnlyHoles).room s m args below meth c 0 0 D (fun _ => True) (fun _ => False) 3 (MQ below (gRQi res) args s 0 0 (fun _ => False)) (wB cI cJ b_0 b_1 b_2 b_3 b_4 b_5 b_6 b_7 b_8 b_9 b_10 b_11 b_12 b_13 b_14 b0) 2 [(0, .ref b_0), (1, .int v1), (2, .int v2)] [] := by
  intro n9
  induction n9 with
  | zero =>
    intro v2 hF
    exact absurd hF (by simp [FX0_hasOnlyHoles_L2])
  | succ n9 ih9 =>
    intro v2 hF
    rw [FX0_hasOnlyHoles_L2] at hF
    refine g_iload_n (z := 2) C (tdec DX0_hasOnlyHoles 2 rfl) rfl rfl rfl ?_
    refine g_bipush (v := 8) C (tdec DX0_hasOnlyHoles 3 rfl) (by decide) rfl ?_
    refine g_icmp_ge (pt := 33) C (tdec DX0_hasOnlyHoles 4 rfl) (by decide) rfl (fun h1 => ?_) (fun h1 => ?_)
    · have hF := o_ifp hF h1
      refine g_sub (L' := [(0, .ref b_0), (1, .int v1), (2, .int v2)]) [0, 1, 2] rfl ?_
      exact hk9 _ hF
    · have hF := o_ifn hF h1
      refine g_aload_n (z := 0) C (tdec DX0_hasOnlyHoles 5 rfl) rfl rfl rfl ?_
      refine g_getf (C' := RX0) (T := TX0) (N := 10) (v := .ref b_9) C 0 4 (gIn iw_X0) rfl rfl (by decide) (gMem fl_X0_33) rfl rfl (tdec DX0_hasOnlyHoles 6 rfl) rfl ?_
      refine g_iload_n (z := 1) C (tdec DX0_hasOnlyHoles 7 rfl) rfl rfl rfl ?_
      refine g_bipush (v := 8) C (tdec DX0_hasOnlyHoles 8 rfl) (by decide) rfl ?_
      refine g_imul C (tdec DX0_hasOnlyHoles 9 rfl) rfl ?_
      refine g_iload_n (z := 2) C (tdec DX0_hasOnlyHoles 10 rfl) rfl rfl rfl ?_
      refine g_iadd C (tdec DX0_hasOnlyHoles 11 rfl) rfl ?_
      obtain ⟨r2, y3, hF⟩ := o_bind hF
      refine g_callViR (q0 := 9) C (c_X1_at l D cB cI cJ cZ b_9 b_10 y3) rfl rfl (gIV ml_X0_55 im_X1_at sl_X1_at in_X1 cd_X1_at) rfl eX1_at rfl ⟨rfl, rfl⟩ ⟨Nat.le_of_ble_eq_true rfl, Nat.le_of_ble_eq_true rfl⟩ rfl [9, 10] rfl rfl rfl (Nat.le_of_ble_eq_true rfl) (tdec DX0_hasOnlyHoles 12 rfl) rfl ?_
      refine g_iconst (v := (-1)) C (tdec DX0_hasOnlyHoles 13 rfl) (by decide) rfl ?_
      refine g_icmp_eq (pt := 27) C (tdec DX0_hasOnlyHoles 14 rfl) (by decide) rfl (fun h4 => ?_) (fun h4 => ?_)
      · have hF := o_ifp hF h4
        refine g_iinc (z := 2) (v := (v2 + 1)) (L' := [(2, .int (v2 + 1)), (0, .ref b_0), (1, .int v1)]) C (tdec DX0_hasOnlyHoles 17 rfl) rfl rfl (by decide) rfl rfl ?_
        refine g_goto (pt := 2) C (tdec DX0_hasOnlyHoles 18 rfl) (by decide) ?_
        refine g_sub (L' := [(0, .ref b_0), (1, .int v1), (2, .int (v2 + 1))]) [1, 2, 0] rfl ?_
        exact ih9 _ hF
      · have hF := o_ifn hF h4
        refine g_iconst (v := 0) C (tdec DX0_hasOnlyHoles 15 rfl) (by decide) rfl ?_
        have hr9 := o_some hF
        subst hr9
        exact g_zretR C rfl rfl (tdec DX0_hasOnlyHoles 16 rfl)
set_option maxHeartbeats 4000000 in
set_option maxRecDepth 100000 in
theorem c_X0_hasOnlyHoles (l : Launch) (D : va_G) (cB cI cJ cZ : ClassId) (b_0 b_1 b_2 b_3 b_4 b_5 b_6 b_7 b_8 b_9 b_10 b_11 b_12 b_13 b_14 : Nat) {b0 : BS} {p1 : Int32} {res : Int32} (hF : FX0_hasOnlyHoles b0 p1 = some res) : gRi l yX0_hasOnlyHoles wsX0_hasOnlyHoles rX0_hasOnlyHoles D (gT cB cI cJ cZ) [.ref b_0, .int p1] (wB cI cJ b_0 b_1 b_2 b_3 b_4 b_5 b_6 b_7 b_8 b_9 b_10 b_11 b_12 b_13 b_14 b0) res := by
  refine g_enter (own := RX0) (free := (fun _ _ => False)) (Qc := (fun sz => gRQi res)) (fun _ _ => True) (fun sz => Or.inl rfl) rfl (by decide) rfl (Nat.le_of_ble_eq_true rfl) rfl ?_
  intro p e s m args below meth c C
  unfold FX0_hasOnlyHoles at hF
  refine g_iconst (v := 0) C (tdec DX0_hasOnlyHoles 0 rfl) (by decide) rfl ?_
  refine g_istore_n (L' := [(2, .int 0), (0, .ref b_0), (1, .int p1)]) C (tdec DX0_hasOnlyHoles 1 rfl) rfl (by decide) rfl rfl ?_
  refine g_sub (L' := [(0, .ref b_0), (1, .int p1), (2, .int 0)]) [1, 2, 0] rfl ?_
  refine c_FX0_hasOnlyHoles_L2 C (fun w2_5 hF => ?_) 100000 _ hF
  refine g_iconst (v := 1) C (tdec DX0_hasOnlyHoles 19 rfl) (by decide) rfl ?_
  have hr9 := o_some hF
  subst hr9
  exact g_zretR C rfl rfl (tdec DX0_hasOnlyHoles 20 rfl)
def FX0_wantsNewBlock (b0 : BS) (p1 : Int32) (p2 : Int32) : Option (Int32) :=
  (FX1_at 4822 (BS_told b0) p1).bind fun r1 =>
  if r1 = (-1) then
    some 1
  else
    (FX1_at 4822 (BS_bir b0) p1).bind fun r4 =>
    if r4 = p2 then
      some 0
    else
      some 1
def rX0_wantsNewBlock : Room := { frames := 1, cells := 0, slots := 0, locals := 21 }
set_option maxHeartbeats 4000000 in
set_option maxRecDepth 100000 in
theorem c_X0_wantsNewBlock (l : Launch) (D : va_G) (cB cI cJ cZ : ClassId) (b_0 b_1 b_2 b_3 b_4 b_5 b_6 b_7 b_8 b_9 b_10 b_11 b_12 b_13 b_14 : Nat) {b0 : BS} {p1 : Int32} {p2 : Int32} {res : Int32} (hF : FX0_wantsNewBlock b0 p1 p2 = some res) : gRi l yX0_wantsNewBlock wsX0_wantsNewBlock rX0_wantsNewBlock D (gT cB cI cJ cZ) [.ref b_0, .int p1, .int p2] (wB cI cJ b_0 b_1 b_2 b_3 b_4 b_5 b_6 b_7 b_8 b_9 b_10 b_11 b_12 b_13 b_14 b0) res := by
  refine g_enter (own := RX0) (free := (fun _ _ => False)) (Qc := (fun sz => gRQi res)) (fun _ _ => True) (fun sz => Or.inl rfl) rfl (by decide) rfl (Nat.le_of_ble_eq_true rfl) rfl ?_
  intro p e s m args below meth c C
  unfold FX0_wantsNewBlock at hF
  refine g_aload_n (z := 0) C (tdec DX0_wantsNewBlock 0 rfl) rfl rfl rfl ?_
  refine g_getf (C' := RX0) (T := TX0) (N := 10) (v := .ref b_9) C 0 4 (gIn iw_X0) rfl rfl (by decide) (gMem fl_X0_33) rfl rfl (tdec DX0_wantsNewBlock 1 rfl) rfl ?_
  refine g_iload_n (z := 1) C (tdec DX0_wantsNewBlock 2 rfl) rfl rfl rfl ?_
  obtain ⟨r1, y2, hF⟩ := o_bind hF
  refine g_callViR (q0 := 9) C (c_X1_at l D cB cI cJ cZ b_9 b_10 y2) rfl rfl (gIV ml_X0_55 im_X1_at sl_X1_at in_X1 cd_X1_at) rfl eX1_at rfl ⟨rfl, rfl⟩ ⟨Nat.le_of_ble_eq_true rfl, Nat.le_of_ble_eq_true rfl⟩ rfl [9, 10] rfl rfl rfl (Nat.le_of_ble_eq_true rfl) (tdec DX0_wantsNewBlock 3 rfl) rfl ?_
  refine g_iconst (v := (-1)) C (tdec DX0_wantsNewBlock 4 rfl) (by decide) rfl ?_
  refine g_icmp_eq (pt := 24) C (tdec DX0_wantsNewBlock 5 rfl) (by decide) rfl (fun h3 => ?_) (fun h3 => ?_)
  · have hF := o_ifp hF h3
    refine g_iconst (v := 1) C (tdec DX0_wantsNewBlock 12 rfl) (by decide) rfl ?_
    refine g_goto (pt := 29) C (tdec DX0_wantsNewBlock 13 rfl) (by decide) ?_
    have hr9 := o_some hF
    subst hr9
    exact g_zretR C rfl rfl (tdec DX0_wantsNewBlock 15 rfl)
  · have hF := o_ifn hF h3
    refine g_aload_n (z := 0) C (tdec DX0_wantsNewBlock 6 rfl) rfl rfl rfl ?_
    refine g_getf (C' := RX0) (T := TX0) (N := 10) (v := .ref b_11) C 0 5 (gIn iw_X0) rfl rfl (by decide) (gMem fl_X0_36) rfl rfl (tdec DX0_wantsNewBlock 7 rfl) rfl ?_
    refine g_iload_n (z := 1) C (tdec DX0_wantsNewBlock 8 rfl) rfl rfl rfl ?_
    obtain ⟨r4, y5, hF⟩ := o_bind hF
    refine g_callViR (q0 := 11) C (c_X1_at l D cB cI cJ cZ b_11 b_12 y5) rfl rfl (gIV ml_X0_55 im_X1_at sl_X1_at in_X1 cd_X1_at) rfl eX1_at rfl ⟨rfl, rfl⟩ ⟨Nat.le_of_ble_eq_true rfl, Nat.le_of_ble_eq_true rfl⟩ rfl [11, 12] rfl rfl rfl (Nat.le_of_ble_eq_true rfl) (tdec DX0_wantsNewBlock 9 rfl) rfl ?_
    refine g_iload_n (z := 2) C (tdec DX0_wantsNewBlock 10 rfl) rfl rfl rfl ?_
    refine g_icmp_eq (pt := 28) C (tdec DX0_wantsNewBlock 11 rfl) (by decide) rfl (fun h6 => ?_) (fun h6 => ?_)
    · have hF := o_ifp hF h6
      refine g_iconst (v := 0) C (tdec DX0_wantsNewBlock 14 rfl) (by decide) rfl ?_
      have hr9 := o_some hF
      subst hr9
      exact g_zretR C rfl rfl (tdec DX0_wantsNewBlock 15 rfl)
    · have hF := o_ifn hF h6
      refine g_iconst (v := 1) C (tdec DX0_wantsNewBlock 12 rfl) (by decide) rfl ?_
      refine g_goto (pt := 29) C (tdec DX0_wantsNewBlock 13 rfl) (by decide) ?_
      have hr9 := o_some hF
      subst hr9
      exact g_zretR C rfl rfl (tdec DX0_wantsNewBlock 15 rfl)
def FX0_takeLeastFree_L2 (k9 : BS → Int32 → Option (Int32 × BS)) : Nat → BS → Int32 → Option (Int32 × BS)
  | 0, _, _ => none
  | n9 + 1, b, v1 =>
    if (BS_cnt b) ≤ v1 then
      k9 b v1
    else
      (FX1_at 600 (BS_lev b) v1).bind fun r2 =>
      if r2 = (-1) then
        some (v1, (BS_setfr b ((BS_fr b) - 1)))
      else
        FX0_takeLeastFree_L2 k9 n9 b (v1 + 1)
def FX0_takeLeastFree (b0 : BS) : Option (Int32 × BS) :=
  FX0_takeLeastFree_L2 (fun bq5 w1_5 =>
    some ((-1), bq5)) 100000 b0 0
def rX0_takeLeastFree : Room := { frames := 1, cells := 0, slots := 0, locals := 21 }
set_option maxHeartbeats 4000000 in
set_option maxRecDepth 100000 in
theorem c_FX0_takeLeastFree_L2 {p : Program} {l : Launch} {e : Env} {s : State} {m : MethodId} {args : Array Value} {below : List Frame} {meth : Method} {c : Code} {D : va_G} {cB cI cJ cZ : ClassId} {b_0 b_1 b_2 b_3 b_4 b_5 b_6 b_7 b_8 b_9 b_10 b_11 b_12 b_13 b_14 : Nat} {b0 : BS} {res : Int32 × BS} (C : gC p s m args meth c cX0_takeLeastFree 2 RX0 wsX0_takeLeastFree D (gT cB cI cJ cZ) (some .int) (va_A (wB cI cJ b_0 b_1 b_2 b_3 b_4 b_5 b_6 b_7 b_8 b_9 b_10 b_11 b_12 b_13 b_14 b0) s.heap.size)) {k9 : BS → Int32 → Option (Int32 × BS)} (hk9 : ∀ (b : BS) (v1 : Int32), k9 b v1 = some res → gG p l e (headSpec wsX0_takeLeastFree rX0_takeLeastFree).room s m args below meth c 0 0 D (va_A (wB cI cJ b_0 b_1 b_2 b_3 b_4 b_5 b_6 b_7 b_8 b_9 b_10 b_11 b_12 b_13 b_14 b0) s.heap.size) (va_A (wB cI cJ b_0 b_1 b_2 b_3 b_4 b_5 b_6 b_7 b_8 b_9 b_10 b_11 b_12 b_13 b_14 b0) s.heap.size) 2 (MQ below (gQi D (wB cI cJ b_0 b_1 b_2 b_3 b_4 b_5 b_6 b_7 b_8 b_9 b_10 b_11 b_12 b_13 b_14 b0) s.heap.size res.1 (wB cI cJ b_0 b_1 b_2 b_3 b_4 b_5 b_6 b_7 b_8 b_9 b_10 b_11 b_12 b_13 b_14 res.2)) args s 0 0 (va_A (wB cI cJ b_0 b_1 b_2 b_3 b_4 b_5 b_6 b_7 b_8 b_9 b_10 b_11 b_12 b_13 b_14 b0) s.heap.size)) (wB cI cJ b_0 b_1 b_2 b_3 b_4 b_5 b_6 b_7 b_8 b_9 b_10 b_11 b_12 b_13 b_14 b) 40 [(0, .ref b_0), (1, .int v1)] []) :
    ∀ (n9 : Nat) (b : BS) (v1 : Int32), FX0_takeLeastFree_L2 k9 n9 b v1 = some res → gG p l e (headSpec wsX0_takeLeastFree rX0_takeLeastFree).room s m args below meth c 0 0 D (va_A (wB cI cJ b_0 b_1 b_2 b_3 b_4 b_5 b_6 b_7 b_8 b_9 b_10 b_11 b_12 b_13 b_14 b0) s.heap.size) (va_A (wB cI cJ b_0 b_1 b_2 b_3 b_4 b_5 b_6 b_7 b_8 b_9 b_10 b_11 b_12 b_13 b_14 b0) s.heap.size) 2 (MQ below (gQi D (wB cI cJ b_0 b_1 b_2 b_3 b_4 b_5 b_6 b_7 b_8 b_9 b_10 b_11 b_12 b_13 b_14 b0) s.heap.size res.1 (wB cI cJ b_0 b_1 b_2 b_3 b_4 b_5 b_6 b_7 b_8 b_9 b_10 b_11 b_12 b_13 b_14 res.2)) args s 0 0 (va_A (wB cI cJ b_0 b_1 b_2 b_3 b_4 b_5 b_6 b_7 b_8 b_9 b_10 b_11 b_12 b_13 b_14 b0) s.heap.size)) (wB cI cJ b_0 b_1 b_2 b_3 b_4 b_5 b_6 b_7 b_8 b_9 b_10 b_11 b_12 b_13 b_14 b) 2 [(0, .ref b_0), (1, .int v1)] [] := by
  intro n9
  induction n9 with
  | zero =>
    intro b v1 hF
    exact absurd hF (by simp [FX0_takeLeastFree_L2])
  | succ n9 ih9 =>
    intro b v1 hF
    rw [FX0_takeLeastFree_L2] at hF
    refine g_iload_n (z := 1) C (tdec DX0_takeLeastFree 2 rfl) rfl rfl rfl ?_
    refine g_aload_n (z := 0) C (tdec DX0_takeLeastFree 3 rfl) rfl rfl rfl ?_
    refine g_getf (C' := RX0) (T := TX0) (N := 10) (v := .int (BS_cnt b)) C 0 8 (gIn iw_X0) rfl rfl (by decide) (gMem fl_X0_49) rfl rfl (tdec DX0_takeLeastFree 4 rfl) rfl ?_
    refine g_icmp_ge (pt := 40) C (tdec DX0_takeLeastFree 5 rfl) (by decide) rfl (fun h1 => ?_) (fun h1 => ?_)
    · have hF := o_ifp hF h1
      refine g_sub (L' := [(0, .ref b_0), (1, .int v1)]) [0, 1] rfl ?_
      exact hk9 _ _ hF
    · have hF := o_ifn hF h1
      refine g_aload_n (z := 0) C (tdec DX0_takeLeastFree 6 rfl) rfl rfl rfl ?_
      refine g_getf (C' := RX0) (T := TX0) (N := 10) (v := .ref b_1) C 0 0 (gIn iw_X0) rfl rfl (by decide) (gMem fl_X0_14) rfl rfl (tdec DX0_takeLeastFree 7 rfl) rfl ?_
      refine g_iload_n (z := 1) C (tdec DX0_takeLeastFree 8 rfl) rfl rfl rfl ?_
      obtain ⟨r2, y3, hF⟩ := o_bind hF
      refine g_callViR (q0 := 1) C (c_X1_at l D cB cI cJ cZ b_1 b_2 y3) rfl rfl (gIV ml_X0_55 im_X1_at sl_X1_at in_X1 cd_X1_at) rfl eX1_at rfl ⟨rfl, rfl⟩ ⟨Nat.le_of_ble_eq_true rfl, Nat.le_of_ble_eq_true rfl⟩ rfl [1, 2] rfl rfl rfl (Nat.le_of_ble_eq_true rfl) (tdec DX0_takeLeastFree 9 rfl) rfl ?_
      refine g_iconst (v := (-1)) C (tdec DX0_takeLeastFree 10 rfl) (by decide) rfl ?_
      refine g_icmp_ne (pt := 34) C (tdec DX0_takeLeastFree 11 rfl) (by decide) rfl (fun h4 => ?_) (fun h4 => ?_)
      · have hF := o_ifn hF h4
        refine g_iinc (z := 1) (v := (v1 + 1)) (L' := [(1, .int (v1 + 1)), (0, .ref b_0)]) C (tdec DX0_takeLeastFree 20 rfl) rfl rfl (by decide) rfl rfl ?_
        refine g_goto (pt := 2) C (tdec DX0_takeLeastFree 21 rfl) (by decide) ?_
        refine g_sub (L' := [(0, .ref b_0), (1, .int (v1 + 1))]) [1, 0] rfl ?_
        exact ih9 _ _ hF
      · have hF := o_ifp hF h4
        refine g_aload_n (z := 0) C (tdec DX0_takeLeastFree 12 rfl) rfl rfl rfl ?_
        refine g_dup C (tdec DX0_takeLeastFree 13 rfl) rfl rfl ?_
        refine g_getf (C' := RX0) (T := TX0) (N := 10) (v := .int (BS_fr b)) C 0 9 (gIn iw_X0) rfl rfl (by decide) (gMem fl_X0_52) rfl rfl (tdec DX0_takeLeastFree 14 rfl) rfl ?_
        refine g_iconst (v := 1) C (tdec DX0_takeLeastFree 15 rfl) (by decide) rfl ?_
        refine g_isub C (tdec DX0_takeLeastFree 16 rfl) rfl ?_
        refine g_putf (C' := RX0) (T := TX0) (N := 10) (v := .int ((BS_fr b) - 1)) (ws' := wB cI cJ b_0 b_1 b_2 b_3 b_4 b_5 b_6 b_7 b_8 b_9 b_10 b_11 b_12 b_13 b_14 (BS_setfr b ((BS_fr b) - 1))) C 0 9 tyX0 tyX0_ok nmX0 (gIn iw_X0) rfl rfl (by decide) (gMem fl_X0_52) rfl rfl (tyX0_ok 9 (by decide)) rfl rfl (Nat.le_of_ble_eq_true rfl) rfl (tdec DX0_takeLeastFree 17 rfl) rfl ?_
        refine g_iload_n (z := 1) C (tdec DX0_takeLeastFree 18 rfl) rfl rfl rfl ?_
        have hr9 := o_some hF
        subst hr9
        exact g_iret C rfl rfl (tdec DX0_takeLeastFree 19 rfl)
set_option maxHeartbeats 4000000 in
set_option maxRecDepth 100000 in
theorem c_X0_takeLeastFree (l : Launch) (D : va_G) (cB cI cJ cZ : ClassId) (b_0 b_1 b_2 b_3 b_4 b_5 b_6 b_7 b_8 b_9 b_10 b_11 b_12 b_13 b_14 : Nat) {b0 : BS} {res : Int32 × BS} (hF : FX0_takeLeastFree b0 = some res) : gMi l yX0_takeLeastFree wsX0_takeLeastFree rX0_takeLeastFree D (gT cB cI cJ cZ) [.ref b_0] (wB cI cJ b_0 b_1 b_2 b_3 b_4 b_5 b_6 b_7 b_8 b_9 b_10 b_11 b_12 b_13 b_14 b0) res.1 (wB cI cJ b_0 b_1 b_2 b_3 b_4 b_5 b_6 b_7 b_8 b_9 b_10 b_11 b_12 b_13 b_14 res.2) := by
  refine g_enter (own := RX0) (free := (fun sz => va_A (wB cI cJ b_0 b_1 b_2 b_3 b_4 b_5 b_6 b_7 b_8 b_9 b_10 b_11 b_12 b_13 b_14 b0) sz)) (Qc := (fun sz => gQi D (wB cI cJ b_0 b_1 b_2 b_3 b_4 b_5 b_6 b_7 b_8 b_9 b_10 b_11 b_12 b_13 b_14 b0) sz res.1 (wB cI cJ b_0 b_1 b_2 b_3 b_4 b_5 b_6 b_7 b_8 b_9 b_10 b_11 b_12 b_13 b_14 res.2))) (fun sz => va_A (wB cI cJ b_0 b_1 b_2 b_3 b_4 b_5 b_6 b_7 b_8 b_9 b_10 b_11 b_12 b_13 b_14 b0) sz) (fun sz => Or.inr rfl) rfl (by decide) rfl (Nat.le_of_ble_eq_true rfl) rfl ?_
  intro p e s m args below meth c C
  unfold FX0_takeLeastFree at hF
  refine g_iconst (v := 0) C (tdec DX0_takeLeastFree 0 rfl) (by decide) rfl ?_
  refine g_istore_n (L' := [(1, .int 0), (0, .ref b_0)]) C (tdec DX0_takeLeastFree 1 rfl) rfl (by decide) rfl rfl ?_
  refine g_sub (L' := [(0, .ref b_0), (1, .int 0)]) [1, 0] rfl ?_
  refine c_FX0_takeLeastFree_L2 C (fun bq5 w1_5 hF => ?_) 100000 _ _ hF
  refine g_iconst (v := (-1)) C (tdec DX0_takeLeastFree 22 rfl) (by decide) rfl ?_
  have hr9 := o_some hF
  subst hr9
  exact g_iret C rfl rfl (tdec DX0_takeLeastFree 23 rfl)
def FX0_renew_L49 (v1 : Int32) (v2 : Int32) (v3 : Int32) (v4 : Int32) (v5 : Int32) (k9 : BS → Int32 → Option (BS)) : Nat → BS → Int32 → Option (BS)
  | 0, _, _ => none
  | n9 + 1, b, v6 =>
    if 8 ≤ v6 then
      k9 b v6
    else
      if v2 ≤ 0 then
        k9 b v6
      else
        if v5 = (-1) then
          (FX1_at 4822 (BS_bir b) v1).bind fun r22 =>
          (FX0_point b ((v4 * 8) + v6) (-1) r22).bind fun s24 =>
          FX0_renew_L49 v1 v2 v3 v4 v5 k9 n9 s24 (v6 + 1)
        else
          (FX1_at 4822 (BS_told b) ((v5 * 8) + v6)).bind fun r16 =>
          (FX1_at 4822 (BS_bir b) ((v5 * 8) + v6)).bind fun r18 =>
          (FX0_point b ((v4 * 8) + v6) r16 r18).bind fun s20 =>
          FX0_renew_L49 v1 v2 v3 v4 v5 k9 n9 s20 (v6 + 1)
def FX0_renew (b0 : BS) (p1 : Int32) (p2 : Int32) (p3 : Int32) : Option (BS) :=
  (FX0_wantsNewBlock b0 p1 p3).bind fun r1 =>
  if r1 = 0 then
    some b0
  else
    (FX0_takeLeastFree b0).bind fun (r4, s5) =>
    (FX1_put 600 (BS_lev s5) r4 p2).bind fun s7 =>
    (FX1_put 600 (BS_bob s5) r4 p3).bind fun s9 =>
    (FX1_at 4822 (BS_told s5) p1).bind fun r11 =>
    FX0_renew_L49 p1 p2 p3 r4 r11 (fun bq26 w6_26 =>
      (FX0_point bq26 p1 r4 p3).bind fun s27 =>
      some s27) 100000 (BS_setbob (BS_setlev s5 s7) s9) 0
def rX0_renew : Room := { frames := 2, cells := 0, slots := 0, locals := 46 }
set_option maxHeartbeats 4000000 in
set_option maxRecDepth 100000 in
theorem c_FX0_renew_L49 {p : Program} {l : Launch} {e : Env} {s : State} {m : MethodId} {args : Array Value} {below : List Frame} {meth : Method} {c : Code} {D : va_G} {cB cI cJ cZ : ClassId} {b_0 b_1 b_2 b_3 b_4 b_5 b_6 b_7 b_8 b_9 b_10 b_11 b_12 b_13 b_14 : Nat} {b0 : BS} {res : BS} (C : gC p s m args meth c cX0_renew 7 RX0 wsX0_renew D (gT cB cI cJ cZ) none (va_A (wB cI cJ b_0 b_1 b_2 b_3 b_4 b_5 b_6 b_7 b_8 b_9 b_10 b_11 b_12 b_13 b_14 b0) s.heap.size)) {v1 : Int32} {v2 : Int32} {v3 : Int32} {v4 : Int32} {v5 : Int32} {k9 : BS → Int32 → Option (BS)} (hk9 : ∀ (b : BS) (v6 : Int32), k9 b v6 = some res → gG p l e (headSpec wsX0_renew rX0_renew).room s m args below meth c 0 0 D (va_A (wB cI cJ b_0 b_1 b_2 b_3 b_4 b_5 b_6 b_7 b_8 b_9 b_10 b_11 b_12 b_13 b_14 b0) s.heap.size) (va_A (wB cI cJ b_0 b_1 b_2 b_3 b_4 b_5 b_6 b_7 b_8 b_9 b_10 b_11 b_12 b_13 b_14 b0) s.heap.size) 7 (MQ below (gQv D (wB cI cJ b_0 b_1 b_2 b_3 b_4 b_5 b_6 b_7 b_8 b_9 b_10 b_11 b_12 b_13 b_14 b0) s.heap.size (wB cI cJ b_0 b_1 b_2 b_3 b_4 b_5 b_6 b_7 b_8 b_9 b_10 b_11 b_12 b_13 b_14 res)) args s 0 0 (va_A (wB cI cJ b_0 b_1 b_2 b_3 b_4 b_5 b_6 b_7 b_8 b_9 b_10 b_11 b_12 b_13 b_14 b0) s.heap.size)) (wB cI cJ b_0 b_1 b_2 b_3 b_4 b_5 b_6 b_7 b_8 b_9 b_10 b_11 b_12 b_13 b_14 b) 138 [(0, .ref b_0), (1, .int v1), (2, .int v2), (3, .int v3), (4, .int v4), (5, .int v5), (6, .int v6)] []) :
    ∀ (n9 : Nat) (b : BS) (v6 : Int32), FX0_renew_L49 v1 v2 v3 v4 v5 k9 n9 b v6 = some res → gG p l e (headSpec wsX0_renew rX0_renew).room s m args below meth c 0 0 D (va_A (wB cI cJ b_0 b_1 b_2 b_3 b_4 b_5 b_6 b_7 b_8 b_9 b_10 b_11 b_12 b_13 b_14 b0) s.heap.size) (va_A (wB cI cJ b_0 b_1 b_2 b_3 b_4 b_5 b_6 b_7 b_8 b_9 b_10 b_11 b_12 b_13 b_14 b0) s.heap.size) 7 (MQ below (gQv D (wB cI cJ b_0 b_1 b_2 b_3 b_4 b_5 b_6 b_7 b_8 b_9 b_10 b_11 b_12 b_13 b_14 b0) s.heap.size (wB cI cJ b_0 b_1 b_2 b_3 b_4 b_5 b_6 b_7 b_8 b_9 b_10 b_11 b_12 b_13 b_14 res)) args s 0 0 (va_A (wB cI cJ b_0 b_1 b_2 b_3 b_4 b_5 b_6 b_7 b_8 b_9 b_10 b_11 b_12 b_13 b_14 b0) s.heap.size)) (wB cI cJ b_0 b_1 b_2 b_3 b_4 b_5 b_6 b_7 b_8 b_9 b_10 b_11 b_12 b_13 b_14 b) 49 [(0, .ref b_0), (1, .int v1), (2, .int v2), (3, .int v3), (4, .int v4), (5, .int v5), (6, .int v6)] [] := by
  intro n9
  induction n9 with
  | zero =>
    intro b v6 hF
    exact absurd hF (by simp [FX0_renew_L49])
  | succ n9 ih9 =>
    intro b v6 hF
    rw [FX0_renew_L49] at hF
    refine g_iload (z := 6) C (tdec DX0_renew 26 rfl) rfl rfl ?_
    refine g_bipush (v := 8) C (tdec DX0_renew 27 rfl) (by decide) rfl ?_
    refine g_icmp_ge (pt := 138) C (tdec DX0_renew 28 rfl) (by decide) rfl (fun h13 => ?_) (fun h13 => ?_)
    · have hF := o_ifp hF h13
      refine g_sub (L' := [(0, .ref b_0), (1, .int v1), (2, .int v2), (3, .int v3), (4, .int v4), (5, .int v5), (6, .int v6)]) [0, 1, 2, 3, 4, 5, 6] rfl ?_
      exact hk9 _ _ hF
    · have hF := o_ifn hF h13
      refine g_iload_n (z := 2) C (tdec DX0_renew 29 rfl) rfl rfl rfl ?_
      refine g_if_le (pt := 138) C (tdec DX0_renew 30 rfl) (by decide) rfl (fun h14 => ?_) (fun h14 => ?_)
      · have hF := o_ifp hF h14
        refine g_sub (L' := [(0, .ref b_0), (1, .int v1), (2, .int v2), (3, .int v3), (4, .int v4), (5, .int v5), (6, .int v6)]) [0, 1, 2, 3, 4, 5, 6] rfl ?_
        exact hk9 _ _ hF
      · have hF := o_ifn hF h14
        refine g_iload (z := 5) C (tdec DX0_renew 31 rfl) rfl rfl ?_
        refine g_iconst (v := (-1)) C (tdec DX0_renew 32 rfl) (by decide) rfl ?_
        refine g_icmp_ne (pt := 90) C (tdec DX0_renew 33 rfl) (by decide) rfl (fun h15 => ?_) (fun h15 => ?_)
        · have hF := o_ifn hF h15
          refine g_aload_n (z := 0) C (tdec DX0_renew 47 rfl) rfl rfl rfl ?_
          refine g_iload (z := 4) C (tdec DX0_renew 48 rfl) rfl rfl ?_
          refine g_bipush (v := 8) C (tdec DX0_renew 49 rfl) (by decide) rfl ?_
          refine g_imul C (tdec DX0_renew 50 rfl) rfl ?_
          refine g_iload (z := 6) C (tdec DX0_renew 51 rfl) rfl rfl ?_
          refine g_iadd C (tdec DX0_renew 52 rfl) rfl ?_
          refine g_aload_n (z := 0) C (tdec DX0_renew 53 rfl) rfl rfl rfl ?_
          refine g_getf (C' := RX0) (T := TX0) (N := 10) (v := .ref b_9) C 0 4 (gIn iw_X0) rfl rfl (by decide) (gMem fl_X0_33) rfl rfl (tdec DX0_renew 54 rfl) rfl ?_
          refine g_iload (z := 5) C (tdec DX0_renew 55 rfl) rfl rfl ?_
          refine g_bipush (v := 8) C (tdec DX0_renew 56 rfl) (by decide) rfl ?_
          refine g_imul C (tdec DX0_renew 57 rfl) rfl ?_
          refine g_iload (z := 6) C (tdec DX0_renew 58 rfl) rfl rfl ?_
          refine g_iadd C (tdec DX0_renew 59 rfl) rfl ?_
          obtain ⟨r16, y17, hF⟩ := o_bind hF
          refine g_callViR (q0 := 9) C (c_X1_at l D cB cI cJ cZ b_9 b_10 y17) rfl rfl (gIV ml_X0_55 im_X1_at sl_X1_at in_X1 cd_X1_at) rfl eX1_at rfl ⟨rfl, rfl⟩ ⟨Nat.le_of_ble_eq_true rfl, Nat.le_of_ble_eq_true rfl⟩ rfl [9, 10] rfl rfl rfl (Nat.le_of_ble_eq_true rfl) (tdec DX0_renew 60 rfl) rfl ?_
          refine g_aload_n (z := 0) C (tdec DX0_renew 61 rfl) rfl rfl rfl ?_
          refine g_getf (C' := RX0) (T := TX0) (N := 10) (v := .ref b_11) C 0 5 (gIn iw_X0) rfl rfl (by decide) (gMem fl_X0_36) rfl rfl (tdec DX0_renew 62 rfl) rfl ?_
          refine g_iload (z := 5) C (tdec DX0_renew 63 rfl) rfl rfl ?_
          refine g_bipush (v := 8) C (tdec DX0_renew 64 rfl) (by decide) rfl ?_
          refine g_imul C (tdec DX0_renew 65 rfl) rfl ?_
          refine g_iload (z := 6) C (tdec DX0_renew 66 rfl) rfl rfl ?_
          refine g_iadd C (tdec DX0_renew 67 rfl) rfl ?_
          obtain ⟨r18, y19, hF⟩ := o_bind hF
          refine g_callViR (q0 := 11) C (c_X1_at l D cB cI cJ cZ b_11 b_12 y19) rfl rfl (gIV ml_X0_55 im_X1_at sl_X1_at in_X1 cd_X1_at) rfl eX1_at rfl ⟨rfl, rfl⟩ ⟨Nat.le_of_ble_eq_true rfl, Nat.le_of_ble_eq_true rfl⟩ rfl [11, 12] rfl rfl rfl (Nat.le_of_ble_eq_true rfl) (tdec DX0_renew 68 rfl) rfl ?_
          obtain ⟨s20, y21, hF⟩ := o_bind hF
          refine g_callVvMS (q0 := 0) (W' := wB cI cJ b_0 b_1 b_2 b_3 b_4 b_5 b_6 b_7 b_8 b_9 b_10 b_11 b_12 b_13 b_14 s20) (S := [wB cI cJ b_0 b_1 b_2 b_3 b_4 b_5 b_6 b_7 b_8 b_9 b_10 b_11 b_12 b_13 b_14 b]) (S0 := [wB cI cJ b_0 b_1 b_2 b_3 b_4 b_5 b_6 b_7 b_8 b_9 b_10 b_11 b_12 b_13 b_14 b]) (S1 := [wB cI cJ b_0 b_1 b_2 b_3 b_4 b_5 b_6 b_7 b_8 b_9 b_10 b_11 b_12 b_13 b_14 s20]) (S' := [wB cI cJ b_0 b_1 b_2 b_3 b_4 b_5 b_6 b_7 b_8 b_9 b_10 b_11 b_12 b_13 b_14 s20]) C (c_X0_point l D cB cI cJ cZ b_0 b_1 b_2 b_3 b_4 b_5 b_6 b_7 b_8 b_9 b_10 b_11 b_12 b_13 b_14 y21) rfl rfl (gIV ml_X0_77 im_X0_point sl_X0_point in_X0 cd_X0_point) rfl eX0_point rfl ⟨rfl, rfl⟩ ⟨Nat.le_of_ble_eq_true rfl, Nat.le_of_ble_eq_true rfl⟩ rfl rfl rfl [0] rfl rfl rfl rfl (gA_cons aB gA_nil) rfl rfl (Nat.le_of_ble_eq_true rfl) (tdec DX0_renew 69 rfl) rfl ?_
          refine g_iinc (z := 6) (v := (v6 + 1)) (L' := [(6, .int (v6 + 1)), (0, .ref b_0), (1, .int v1), (2, .int v2), (3, .int v3), (4, .int v4), (5, .int v5)]) C (tdec DX0_renew 70 rfl) rfl rfl (by decide) rfl rfl ?_
          refine g_goto (pt := 49) C (tdec DX0_renew 71 rfl) (by decide) ?_
          refine g_sub (L' := [(0, .ref b_0), (1, .int v1), (2, .int v2), (3, .int v3), (4, .int v4), (5, .int v5), (6, .int (v6 + 1))]) [1, 2, 3, 4, 5, 6, 0] rfl ?_
          exact ih9 _ _ hF
        · have hF := o_ifp hF h15
          refine g_aload_n (z := 0) C (tdec DX0_renew 34 rfl) rfl rfl rfl ?_
          refine g_iload (z := 4) C (tdec DX0_renew 35 rfl) rfl rfl ?_
          refine g_bipush (v := 8) C (tdec DX0_renew 36 rfl) (by decide) rfl ?_
          refine g_imul C (tdec DX0_renew 37 rfl) rfl ?_
          refine g_iload (z := 6) C (tdec DX0_renew 38 rfl) rfl rfl ?_
          refine g_iadd C (tdec DX0_renew 39 rfl) rfl ?_
          refine g_iconst (v := (-1)) C (tdec DX0_renew 40 rfl) (by decide) rfl ?_
          refine g_aload_n (z := 0) C (tdec DX0_renew 41 rfl) rfl rfl rfl ?_
          refine g_getf (C' := RX0) (T := TX0) (N := 10) (v := .ref b_11) C 0 5 (gIn iw_X0) rfl rfl (by decide) (gMem fl_X0_36) rfl rfl (tdec DX0_renew 42 rfl) rfl ?_
          refine g_iload_n (z := 1) C (tdec DX0_renew 43 rfl) rfl rfl rfl ?_
          obtain ⟨r22, y23, hF⟩ := o_bind hF
          refine g_callViR (q0 := 11) C (c_X1_at l D cB cI cJ cZ b_11 b_12 y23) rfl rfl (gIV ml_X0_55 im_X1_at sl_X1_at in_X1 cd_X1_at) rfl eX1_at rfl ⟨rfl, rfl⟩ ⟨Nat.le_of_ble_eq_true rfl, Nat.le_of_ble_eq_true rfl⟩ rfl [11, 12] rfl rfl rfl (Nat.le_of_ble_eq_true rfl) (tdec DX0_renew 44 rfl) rfl ?_
          obtain ⟨s24, y25, hF⟩ := o_bind hF
          refine g_callVvMS (q0 := 0) (W' := wB cI cJ b_0 b_1 b_2 b_3 b_4 b_5 b_6 b_7 b_8 b_9 b_10 b_11 b_12 b_13 b_14 s24) (S := [wB cI cJ b_0 b_1 b_2 b_3 b_4 b_5 b_6 b_7 b_8 b_9 b_10 b_11 b_12 b_13 b_14 b]) (S0 := [wB cI cJ b_0 b_1 b_2 b_3 b_4 b_5 b_6 b_7 b_8 b_9 b_10 b_11 b_12 b_13 b_14 b]) (S1 := [wB cI cJ b_0 b_1 b_2 b_3 b_4 b_5 b_6 b_7 b_8 b_9 b_10 b_11 b_12 b_13 b_14 s24]) (S' := [wB cI cJ b_0 b_1 b_2 b_3 b_4 b_5 b_6 b_7 b_8 b_9 b_10 b_11 b_12 b_13 b_14 s24]) C (c_X0_point l D cB cI cJ cZ b_0 b_1 b_2 b_3 b_4 b_5 b_6 b_7 b_8 b_9 b_10 b_11 b_12 b_13 b_14 y25) rfl rfl (gIV ml_X0_77 im_X0_point sl_X0_point in_X0 cd_X0_point) rfl eX0_point rfl ⟨rfl, rfl⟩ ⟨Nat.le_of_ble_eq_true rfl, Nat.le_of_ble_eq_true rfl⟩ rfl rfl rfl [0] rfl rfl rfl rfl (gA_cons aB gA_nil) rfl rfl (Nat.le_of_ble_eq_true rfl) (tdec DX0_renew 45 rfl) rfl ?_
          refine g_goto (pt := 132) C (tdec DX0_renew 46 rfl) (by decide) ?_
          refine g_iinc (z := 6) (v := (v6 + 1)) (L' := [(6, .int (v6 + 1)), (0, .ref b_0), (1, .int v1), (2, .int v2), (3, .int v3), (4, .int v4), (5, .int v5)]) C (tdec DX0_renew 70 rfl) rfl rfl (by decide) rfl rfl ?_
          refine g_goto (pt := 49) C (tdec DX0_renew 71 rfl) (by decide) ?_
          refine g_sub (L' := [(0, .ref b_0), (1, .int v1), (2, .int v2), (3, .int v3), (4, .int v4), (5, .int v5), (6, .int (v6 + 1))]) [1, 2, 3, 4, 5, 6, 0] rfl ?_
          exact ih9 _ _ hF
set_option maxHeartbeats 4000000 in
set_option maxRecDepth 100000 in
theorem c_X0_renew (l : Launch) (D : va_G) (cB cI cJ cZ : ClassId) (b_0 b_1 b_2 b_3 b_4 b_5 b_6 b_7 b_8 b_9 b_10 b_11 b_12 b_13 b_14 : Nat) {b0 : BS} {p1 : Int32} {p2 : Int32} {p3 : Int32} {res : BS} (hF : FX0_renew b0 p1 p2 p3 = some res) : gMv l yX0_renew wsX0_renew rX0_renew D (gT cB cI cJ cZ) [.ref b_0, .int p1, .int p2, .int p3] (wB cI cJ b_0 b_1 b_2 b_3 b_4 b_5 b_6 b_7 b_8 b_9 b_10 b_11 b_12 b_13 b_14 b0) (wB cI cJ b_0 b_1 b_2 b_3 b_4 b_5 b_6 b_7 b_8 b_9 b_10 b_11 b_12 b_13 b_14 res) := by
  refine g_enter (own := RX0) (free := (fun sz => va_A (wB cI cJ b_0 b_1 b_2 b_3 b_4 b_5 b_6 b_7 b_8 b_9 b_10 b_11 b_12 b_13 b_14 b0) sz)) (Qc := (fun sz => gQv D (wB cI cJ b_0 b_1 b_2 b_3 b_4 b_5 b_6 b_7 b_8 b_9 b_10 b_11 b_12 b_13 b_14 b0) sz (wB cI cJ b_0 b_1 b_2 b_3 b_4 b_5 b_6 b_7 b_8 b_9 b_10 b_11 b_12 b_13 b_14 res))) (fun sz => va_A (wB cI cJ b_0 b_1 b_2 b_3 b_4 b_5 b_6 b_7 b_8 b_9 b_10 b_11 b_12 b_13 b_14 b0) sz) (fun sz => Or.inr rfl) rfl (by decide) rfl (Nat.le_of_ble_eq_true rfl) rfl ?_
  intro p e s m args below meth c C
  unfold FX0_renew at hF
  refine g_aload_n (z := 0) C (tdec DX0_renew 0 rfl) rfl rfl rfl ?_
  refine g_iload_n (z := 1) C (tdec DX0_renew 1 rfl) rfl rfl rfl ?_
  refine g_iload_n (z := 3) C (tdec DX0_renew 2 rfl) rfl rfl rfl ?_
  obtain ⟨r1, y2, hF⟩ := o_bind hF
  refine g_callViRS (q0 := 0) (S := [wB cI cJ b_0 b_1 b_2 b_3 b_4 b_5 b_6 b_7 b_8 b_9 b_10 b_11 b_12 b_13 b_14 b0]) (S0 := [wB cI cJ b_0 b_1 b_2 b_3 b_4 b_5 b_6 b_7 b_8 b_9 b_10 b_11 b_12 b_13 b_14 b0]) C (c_X0_wantsNewBlock l D cB cI cJ cZ b_0 b_1 b_2 b_3 b_4 b_5 b_6 b_7 b_8 b_9 b_10 b_11 b_12 b_13 b_14 y2) rfl rfl (gIV ml_X0_69 im_X0_wantsNewBlock sl_X0_wantsNewBlock in_X0 cd_X0_wantsNewBlock) rfl eX0_wantsNewBlock rfl ⟨rfl, rfl⟩ ⟨Nat.le_of_ble_eq_true rfl, Nat.le_of_ble_eq_true rfl⟩ rfl rfl rfl [0] rfl rfl rfl (Nat.le_of_ble_eq_true rfl) (tdec DX0_renew 3 rfl) rfl ?_
  refine g_if_ne (pt := 10) C (tdec DX0_renew 4 rfl) (by decide) rfl (fun h3 => ?_) (fun h3 => ?_)
  · have hF := o_ifn hF h3
    refine g_aload_n (z := 0) C (tdec DX0_renew 6 rfl) rfl rfl rfl ?_
    obtain ⟨⟨r4, s5⟩, y6, hF⟩ := o_bind hF
    refine g_callViMS (q0 := 0) (W' := wB cI cJ b_0 b_1 b_2 b_3 b_4 b_5 b_6 b_7 b_8 b_9 b_10 b_11 b_12 b_13 b_14 s5) (S := [wB cI cJ b_0 b_1 b_2 b_3 b_4 b_5 b_6 b_7 b_8 b_9 b_10 b_11 b_12 b_13 b_14 b0]) (S0 := [wB cI cJ b_0 b_1 b_2 b_3 b_4 b_5 b_6 b_7 b_8 b_9 b_10 b_11 b_12 b_13 b_14 b0]) (S1 := [wB cI cJ b_0 b_1 b_2 b_3 b_4 b_5 b_6 b_7 b_8 b_9 b_10 b_11 b_12 b_13 b_14 s5]) (S' := [wB cI cJ b_0 b_1 b_2 b_3 b_4 b_5 b_6 b_7 b_8 b_9 b_10 b_11 b_12 b_13 b_14 s5]) C (c_X0_takeLeastFree l D cB cI cJ cZ b_0 b_1 b_2 b_3 b_4 b_5 b_6 b_7 b_8 b_9 b_10 b_11 b_12 b_13 b_14 y6) rfl rfl (gIV ml_X0_73 im_X0_takeLeastFree sl_X0_takeLeastFree in_X0 cd_X0_takeLeastFree) rfl eX0_takeLeastFree rfl ⟨rfl, rfl⟩ ⟨Nat.le_of_ble_eq_true rfl, Nat.le_of_ble_eq_true rfl⟩ rfl rfl rfl [0] rfl rfl rfl rfl (gA_cons aB gA_nil) rfl rfl (Nat.le_of_ble_eq_true rfl) (tdec DX0_renew 7 rfl) rfl ?_
    refine g_istore (L' := [(4, .int r4), (0, .ref b_0), (1, .int p1), (2, .int p2), (3, .int p3)]) C (tdec DX0_renew 8 rfl) (by decide) rfl rfl ?_
    refine g_aload_n (z := 1) C (tdec DX0_renew 9 rfl) rfl rfl rfl ?_
    refine g_getf (C' := RX0) (T := TX0) (N := 10) (v := .ref b_1) C 0 0 (gIn iw_X0) rfl rfl (by decide) (gMem fl_X0_14) rfl rfl (tdec DX0_renew 10 rfl) rfl ?_
    refine g_iload (z := 0) C (tdec DX0_renew 11 rfl) rfl rfl ?_
    refine g_iload_n (z := 3) C (tdec DX0_renew 12 rfl) rfl rfl rfl ?_
    obtain ⟨s7, y8, hF⟩ := o_bind hF
    refine g_callVvM (q0 := 1) (W' := wB cI cJ b_0 b_1 b_2 b_3 b_4 b_5 b_6 b_7 b_8 b_9 b_10 b_11 b_12 b_13 b_14 (BS_setlev s5 s7)) C (c_X1_put l D cB cI cJ cZ b_1 b_2 y8) rfl rfl (gIV ml_X0_66 im_X1_put sl_X1_put in_X1 cd_X1_put) rfl eX1_put rfl ⟨rfl, rfl⟩ ⟨Nat.le_of_ble_eq_true rfl, Nat.le_of_ble_eq_true rfl⟩ rfl [1, 2] rfl rfl rfl rfl rfl rfl (Nat.le_of_ble_eq_true rfl) (tdec DX0_renew 13 rfl) rfl ?_
    refine g_aload_n (z := 1) C (tdec DX0_renew 14 rfl) rfl rfl rfl ?_
    refine g_getf (C' := RX0) (T := TX0) (N := 10) (v := .ref b_3) C 0 1 (gIn iw_X0) rfl rfl (by decide) (gMem fl_X0_20) rfl rfl (tdec DX0_renew 15 rfl) rfl ?_
    refine g_iload (z := 0) C (tdec DX0_renew 16 rfl) rfl rfl ?_
    refine g_iload_n (z := 4) C (tdec DX0_renew 17 rfl) rfl rfl rfl ?_
    obtain ⟨s9, y10, hF⟩ := o_bind hF
    refine g_callVvM (q0 := 3) (W' := wB cI cJ b_0 b_1 b_2 b_3 b_4 b_5 b_6 b_7 b_8 b_9 b_10 b_11 b_12 b_13 b_14 (BS_setbob (BS_setlev s5 s7) s9)) C (c_X1_put l D cB cI cJ cZ b_3 b_4 y10) rfl rfl (gIV ml_X0_66 im_X1_put sl_X1_put in_X1 cd_X1_put) rfl eX1_put rfl ⟨rfl, rfl⟩ ⟨Nat.le_of_ble_eq_true rfl, Nat.le_of_ble_eq_true rfl⟩ rfl [3, 4] rfl rfl rfl rfl rfl rfl (Nat.le_of_ble_eq_true rfl) (tdec DX0_renew 18 rfl) rfl ?_
    refine g_aload_n (z := 1) C (tdec DX0_renew 19 rfl) rfl rfl rfl ?_
    refine g_getf (C' := RX0) (T := TX0) (N := 10) (v := .ref b_9) C 0 4 (gIn iw_X0) rfl rfl (by decide) (gMem fl_X0_33) rfl rfl (tdec DX0_renew 20 rfl) rfl ?_
    refine g_iload_n (z := 2) C (tdec DX0_renew 21 rfl) rfl rfl rfl ?_
    obtain ⟨r11, y12, hF⟩ := o_bind hF
    refine g_callViR (q0 := 9) C (c_X1_at l D cB cI cJ cZ b_9 b_10 y12) rfl rfl (gIV ml_X0_55 im_X1_at sl_X1_at in_X1 cd_X1_at) rfl eX1_at rfl ⟨rfl, rfl⟩ ⟨Nat.le_of_ble_eq_true rfl, Nat.le_of_ble_eq_true rfl⟩ rfl [9, 10] rfl rfl rfl (Nat.le_of_ble_eq_true rfl) (tdec DX0_renew 22 rfl) rfl ?_
    refine g_istore (L' := [(5, .int r11), (4, .int r4), (0, .ref b_0), (1, .int p1), (2, .int p2), (3, .int p3)]) C (tdec DX0_renew 23 rfl) (by decide) rfl rfl ?_
    refine g_iconst (v := 0) C (tdec DX0_renew 24 rfl) (by decide) rfl ?_
    refine g_istore (L' := [(6, .int 0), (5, .int r11), (4, .int r4), (0, .ref b_0), (1, .int p1), (2, .int p2), (3, .int p3)]) C (tdec DX0_renew 25 rfl) (by decide) rfl rfl ?_
    refine g_sub (L' := [(0, .ref b_0), (1, .int p1), (2, .int p2), (3, .int p3), (4, .int r4), (5, .int r11), (6, .int 0)]) [3, 4, 5, 6, 2, 1, 0] rfl ?_
    refine c_FX0_renew_L49 C (fun bq26 w6_26 hF => ?_) 100000 _ _ hF
    refine g_aload_n (z := 0) C (tdec DX0_renew 72 rfl) rfl rfl rfl ?_
    refine g_iload_n (z := 1) C (tdec DX0_renew 73 rfl) rfl rfl rfl ?_
    refine g_iload (z := 4) C (tdec DX0_renew 74 rfl) rfl rfl ?_
    refine g_iload_n (z := 3) C (tdec DX0_renew 75 rfl) rfl rfl rfl ?_
    obtain ⟨s27, y28, hF⟩ := o_bind hF
    refine g_callVvMS (q0 := 0) (W' := wB cI cJ b_0 b_1 b_2 b_3 b_4 b_5 b_6 b_7 b_8 b_9 b_10 b_11 b_12 b_13 b_14 s27) (S := [wB cI cJ b_0 b_1 b_2 b_3 b_4 b_5 b_6 b_7 b_8 b_9 b_10 b_11 b_12 b_13 b_14 bq26]) (S0 := [wB cI cJ b_0 b_1 b_2 b_3 b_4 b_5 b_6 b_7 b_8 b_9 b_10 b_11 b_12 b_13 b_14 bq26]) (S1 := [wB cI cJ b_0 b_1 b_2 b_3 b_4 b_5 b_6 b_7 b_8 b_9 b_10 b_11 b_12 b_13 b_14 s27]) (S' := [wB cI cJ b_0 b_1 b_2 b_3 b_4 b_5 b_6 b_7 b_8 b_9 b_10 b_11 b_12 b_13 b_14 s27]) C (c_X0_point l D cB cI cJ cZ b_0 b_1 b_2 b_3 b_4 b_5 b_6 b_7 b_8 b_9 b_10 b_11 b_12 b_13 b_14 y28) rfl rfl (gIV ml_X0_77 im_X0_point sl_X0_point in_X0 cd_X0_point) rfl eX0_point rfl ⟨rfl, rfl⟩ ⟨Nat.le_of_ble_eq_true rfl, Nat.le_of_ble_eq_true rfl⟩ rfl rfl rfl [0] rfl rfl rfl rfl (gA_cons aB gA_nil) rfl rfl (Nat.le_of_ble_eq_true rfl) (tdec DX0_renew 76 rfl) rfl ?_
    have hr9 := o_some hF
    subst hr9
    exact g_vret C rfl (tdec DX0_renew 77 rfl)
  · have hF := o_ifp hF h3
    have hr9 := o_some hF
    subst hr9
    exact g_vret C rfl (tdec DX0_renew 5 rfl)
def FX0_settle_L40 (v1 : Int32) (v2 : Int32) (k9 : BS → Int32 → Option (BS)) : Nat → BS → Int32 → Option (BS)
  | 0, _, _ => none
  | n9 + 1, b, v3 =>
    if 8 ≤ v3 then
      k9 b v3
    else
      (FX1_at 600 (BS_lev b) v2).bind fun r6 =>
      if r6 ≤ 0 then
        k9 b v3
      else
        (FX0_point b ((v2 * 8) + v3) (-1) 0).bind fun s9 =>
        FX0_settle_L40 v1 v2 k9 n9 s9 (v3 + 1)
def FX0_settle_L2 (k9 : BS → Int32 → Option (BS)) : Nat → BS → Int32 → Option (BS)
  | 0, _, _ => none
  | n9 + 1, b, v1 =>
    if 600 ≤ v1 then
      k9 b v1
    else
      if (BS_lc b) ≤ 0 then
        k9 b v1
      else
        (FX1_at 600 (BS_loo b) ((BS_lc b) - 1)).bind fun r3 =>
        FX0_settle_L40 v1 r3 (fun bq11 w3_11 =>
          (FX1_put 600 (BS_lev bq11) r3 (-1)).bind fun s12 =>
          FX0_settle_L2 k9 n9 (BS_setfr (BS_setlev bq11 s12) ((BS_fr bq11) + 1)) (v1 + 1)) 100000 (BS_setlc b ((BS_lc b) - 1)) 0
def FX0_settle (b0 : BS) : Option (BS) :=
  FX0_settle_L2 (fun bq14 w1_14 =>
    some bq14) 100000 b0 0
def rX0_settle : Room := { frames := 2, cells := 0, slots := 0, locals := 46 }
set_option maxHeartbeats 4000000 in
set_option maxRecDepth 100000 in
theorem c_FX0_settle_L40 {p : Program} {l : Launch} {e : Env} {s : State} {m : MethodId} {args : Array Value} {below : List Frame} {meth : Method} {c : Code} {D : va_G} {cB cI cJ cZ : ClassId} {b_0 b_1 b_2 b_3 b_4 b_5 b_6 b_7 b_8 b_9 b_10 b_11 b_12 b_13 b_14 : Nat} {b0 : BS} {res : BS} (C : gC p s m args meth c cX0_settle 4 RX0 wsX0_settle D (gT cB cI cJ cZ) none (va_A (wB cI cJ b_0 b_1 b_2 b_3 b_4 b_5 b_6 b_7 b_8 b_9 b_10 b_11 b_12 b_13 b_14 b0) s.heap.size)) {v1 : Int32} {v2 : Int32} {k9 : BS → Int32 → Option (BS)} (hk9 : ∀ (b : BS) (v3 : Int32), k9 b v3 = some res → gG p l e (headSpec wsX0_settle rX0_settle).room s m args below meth c 0 0 D (va_A (wB cI cJ b_0 b_1 b_2 b_3 b_4 b_5 b_6 b_7 b_8 b_9 b_10 b_11 b_12 b_13 b_14 b0) s.heap.size) (va_A (wB cI cJ b_0 b_1 b_2 b_3 b_4 b_5 b_6 b_7 b_8 b_9 b_10 b_11 b_12 b_13 b_14 b0) s.heap.size) 4 (MQ below (gQv D (wB cI cJ b_0 b_1 b_2 b_3 b_4 b_5 b_6 b_7 b_8 b_9 b_10 b_11 b_12 b_13 b_14 b0) s.heap.size (wB cI cJ b_0 b_1 b_2 b_3 b_4 b_5 b_6 b_7 b_8 b_9 b_10 b_11 b_12 b_13 b_14 res)) args s 0 0 (va_A (wB cI cJ b_0 b_1 b_2 b_3 b_4 b_5 b_6 b_7 b_8 b_9 b_10 b_11 b_12 b_13 b_14 b0) s.heap.size)) (wB cI cJ b_0 b_1 b_2 b_3 b_4 b_5 b_6 b_7 b_8 b_9 b_10 b_11 b_12 b_13 b_14 b) 75 [(0, .ref b_0), (1, .int v1), (2, .int v2), (3, .int v3)] []) :
    ∀ (n9 : Nat) (b : BS) (v3 : Int32), FX0_settle_L40 v1 v2 k9 n9 b v3 = some res → gG p l e (headSpec wsX0_settle rX0_settle).room s m args below meth c 0 0 D (va_A (wB cI cJ b_0 b_1 b_2 b_3 b_4 b_5 b_6 b_7 b_8 b_9 b_10 b_11 b_12 b_13 b_14 b0) s.heap.size) (va_A (wB cI cJ b_0 b_1 b_2 b_3 b_4 b_5 b_6 b_7 b_8 b_9 b_10 b_11 b_12 b_13 b_14 b0) s.heap.size) 4 (MQ below (gQv D (wB cI cJ b_0 b_1 b_2 b_3 b_4 b_5 b_6 b_7 b_8 b_9 b_10 b_11 b_12 b_13 b_14 b0) s.heap.size (wB cI cJ b_0 b_1 b_2 b_3 b_4 b_5 b_6 b_7 b_8 b_9 b_10 b_11 b_12 b_13 b_14 res)) args s 0 0 (va_A (wB cI cJ b_0 b_1 b_2 b_3 b_4 b_5 b_6 b_7 b_8 b_9 b_10 b_11 b_12 b_13 b_14 b0) s.heap.size)) (wB cI cJ b_0 b_1 b_2 b_3 b_4 b_5 b_6 b_7 b_8 b_9 b_10 b_11 b_12 b_13 b_14 b) 40 [(0, .ref b_0), (1, .int v1), (2, .int v2), (3, .int v3)] [] := by
  intro n9
  induction n9 with
  | zero =>
    intro b v3 hF
    exact absurd hF (by simp [FX0_settle_L40])
  | succ n9 ih9 =>
    intro b v3 hF
    rw [FX0_settle_L40] at hF
    refine g_iload_n (z := 3) C (tdec DX0_settle 22 rfl) rfl rfl rfl ?_
    refine g_bipush (v := 8) C (tdec DX0_settle 23 rfl) (by decide) rfl ?_
    refine g_icmp_ge (pt := 75) C (tdec DX0_settle 24 rfl) (by decide) rfl (fun h5 => ?_) (fun h5 => ?_)
    · have hF := o_ifp hF h5
      refine g_sub (L' := [(0, .ref b_0), (1, .int v1), (2, .int v2), (3, .int v3)]) [0, 1, 2, 3] rfl ?_
      exact hk9 _ _ hF
    · have hF := o_ifn hF h5
      refine g_aload_n (z := 0) C (tdec DX0_settle 25 rfl) rfl rfl rfl ?_
      refine g_getf (C' := RX0) (T := TX0) (N := 10) (v := .ref b_1) C 0 0 (gIn iw_X0) rfl rfl (by decide) (gMem fl_X0_14) rfl rfl (tdec DX0_settle 26 rfl) rfl ?_
      refine g_iload_n (z := 2) C (tdec DX0_settle 27 rfl) rfl rfl rfl ?_
      obtain ⟨r6, y7, hF⟩ := o_bind hF
      refine g_callViR (q0 := 1) C (c_X1_at l D cB cI cJ cZ b_1 b_2 y7) rfl rfl (gIV ml_X0_55 im_X1_at sl_X1_at in_X1 cd_X1_at) rfl eX1_at rfl ⟨rfl, rfl⟩ ⟨Nat.le_of_ble_eq_true rfl, Nat.le_of_ble_eq_true rfl⟩ rfl [1, 2] rfl rfl rfl (Nat.le_of_ble_eq_true rfl) (tdec DX0_settle 28 rfl) rfl ?_
      refine g_if_le (pt := 75) C (tdec DX0_settle 29 rfl) (by decide) rfl (fun h8 => ?_) (fun h8 => ?_)
      · have hF := o_ifp hF h8
        refine g_sub (L' := [(0, .ref b_0), (1, .int v1), (2, .int v2), (3, .int v3)]) [0, 1, 2, 3] rfl ?_
        exact hk9 _ _ hF
      · have hF := o_ifn hF h8
        refine g_aload_n (z := 0) C (tdec DX0_settle 30 rfl) rfl rfl rfl ?_
        refine g_iload_n (z := 2) C (tdec DX0_settle 31 rfl) rfl rfl rfl ?_
        refine g_bipush (v := 8) C (tdec DX0_settle 32 rfl) (by decide) rfl ?_
        refine g_imul C (tdec DX0_settle 33 rfl) rfl ?_
        refine g_iload_n (z := 3) C (tdec DX0_settle 34 rfl) rfl rfl rfl ?_
        refine g_iadd C (tdec DX0_settle 35 rfl) rfl ?_
        refine g_iconst (v := (-1)) C (tdec DX0_settle 36 rfl) (by decide) rfl ?_
        refine g_iconst (v := 0) C (tdec DX0_settle 37 rfl) (by decide) rfl ?_
        obtain ⟨s9, y10, hF⟩ := o_bind hF
        refine g_callVvMS (q0 := 0) (W' := wB cI cJ b_0 b_1 b_2 b_3 b_4 b_5 b_6 b_7 b_8 b_9 b_10 b_11 b_12 b_13 b_14 s9) (S := [wB cI cJ b_0 b_1 b_2 b_3 b_4 b_5 b_6 b_7 b_8 b_9 b_10 b_11 b_12 b_13 b_14 b]) (S0 := [wB cI cJ b_0 b_1 b_2 b_3 b_4 b_5 b_6 b_7 b_8 b_9 b_10 b_11 b_12 b_13 b_14 b]) (S1 := [wB cI cJ b_0 b_1 b_2 b_3 b_4 b_5 b_6 b_7 b_8 b_9 b_10 b_11 b_12 b_13 b_14 s9]) (S' := [wB cI cJ b_0 b_1 b_2 b_3 b_4 b_5 b_6 b_7 b_8 b_9 b_10 b_11 b_12 b_13 b_14 s9]) C (c_X0_point l D cB cI cJ cZ b_0 b_1 b_2 b_3 b_4 b_5 b_6 b_7 b_8 b_9 b_10 b_11 b_12 b_13 b_14 y10) rfl rfl (gIV ml_X0_77 im_X0_point sl_X0_point in_X0 cd_X0_point) rfl eX0_point rfl ⟨rfl, rfl⟩ ⟨Nat.le_of_ble_eq_true rfl, Nat.le_of_ble_eq_true rfl⟩ rfl rfl rfl [0] rfl rfl rfl rfl (gA_cons aB gA_nil) rfl rfl (Nat.le_of_ble_eq_true rfl) (tdec DX0_settle 38 rfl) rfl ?_
        refine g_iinc (z := 3) (v := (v3 + 1)) (L' := [(3, .int (v3 + 1)), (0, .ref b_0), (1, .int v1), (2, .int v2)]) C (tdec DX0_settle 39 rfl) rfl rfl (by decide) rfl rfl ?_
        refine g_goto (pt := 40) C (tdec DX0_settle 40 rfl) (by decide) ?_
        refine g_sub (L' := [(0, .ref b_0), (1, .int v1), (2, .int v2), (3, .int (v3 + 1))]) [1, 2, 3, 0] rfl ?_
        exact ih9 _ _ hF
set_option maxHeartbeats 4000000 in
set_option maxRecDepth 100000 in
theorem c_FX0_settle_L2 {p : Program} {l : Launch} {e : Env} {s : State} {m : MethodId} {args : Array Value} {below : List Frame} {meth : Method} {c : Code} {D : va_G} {cB cI cJ cZ : ClassId} {b_0 b_1 b_2 b_3 b_4 b_5 b_6 b_7 b_8 b_9 b_10 b_11 b_12 b_13 b_14 : Nat} {b0 : BS} {res : BS} (C : gC p s m args meth c cX0_settle 4 RX0 wsX0_settle D (gT cB cI cJ cZ) none (va_A (wB cI cJ b_0 b_1 b_2 b_3 b_4 b_5 b_6 b_7 b_8 b_9 b_10 b_11 b_12 b_13 b_14 b0) s.heap.size)) {k9 : BS → Int32 → Option (BS)} (hk9 : ∀ (b : BS) (v1 : Int32), k9 b v1 = some res → gG p l e (headSpec wsX0_settle rX0_settle).room s m args below meth c 0 0 D (va_A (wB cI cJ b_0 b_1 b_2 b_3 b_4 b_5 b_6 b_7 b_8 b_9 b_10 b_11 b_12 b_13 b_14 b0) s.heap.size) (va_A (wB cI cJ b_0 b_1 b_2 b_3 b_4 b_5 b_6 b_7 b_8 b_9 b_10 b_11 b_12 b_13 b_14 b0) s.heap.size) 4 (MQ below (gQv D (wB cI cJ b_0 b_1 b_2 b_3 b_4 b_5 b_6 b_7 b_8 b_9 b_10 b_11 b_12 b_13 b_14 b0) s.heap.size (wB cI cJ b_0 b_1 b_2 b_3 b_4 b_5 b_6 b_7 b_8 b_9 b_10 b_11 b_12 b_13 b_14 res)) args s 0 0 (va_A (wB cI cJ b_0 b_1 b_2 b_3 b_4 b_5 b_6 b_7 b_8 b_9 b_10 b_11 b_12 b_13 b_14 b0) s.heap.size)) (wB cI cJ b_0 b_1 b_2 b_3 b_4 b_5 b_6 b_7 b_8 b_9 b_10 b_11 b_12 b_13 b_14 b) 100 [(0, .ref b_0), (1, .int v1)] []) :
    ∀ (n9 : Nat) (b : BS) (v1 : Int32), FX0_settle_L2 k9 n9 b v1 = some res → gG p l e (headSpec wsX0_settle rX0_settle).room s m args below meth c 0 0 D (va_A (wB cI cJ b_0 b_1 b_2 b_3 b_4 b_5 b_6 b_7 b_8 b_9 b_10 b_11 b_12 b_13 b_14 b0) s.heap.size) (va_A (wB cI cJ b_0 b_1 b_2 b_3 b_4 b_5 b_6 b_7 b_8 b_9 b_10 b_11 b_12 b_13 b_14 b0) s.heap.size) 4 (MQ below (gQv D (wB cI cJ b_0 b_1 b_2 b_3 b_4 b_5 b_6 b_7 b_8 b_9 b_10 b_11 b_12 b_13 b_14 b0) s.heap.size (wB cI cJ b_0 b_1 b_2 b_3 b_4 b_5 b_6 b_7 b_8 b_9 b_10 b_11 b_12 b_13 b_14 res)) args s 0 0 (va_A (wB cI cJ b_0 b_1 b_2 b_3 b_4 b_5 b_6 b_7 b_8 b_9 b_10 b_11 b_12 b_13 b_14 b0) s.heap.size)) (wB cI cJ b_0 b_1 b_2 b_3 b_4 b_5 b_6 b_7 b_8 b_9 b_10 b_11 b_12 b_13 b_14 b) 2 [(0, .ref b_0), (1, .int v1)] [] := by
  intro n9
  induction n9 with
  | zero =>
    intro b v1 hF
    exact absurd hF (by simp [FX0_settle_L2])
  | succ n9 ih9 =>
    intro b v1 hF
    rw [FX0_settle_L2] at hF
    refine g_iload_n (z := 1) C (tdec DX0_settle 2 rfl) rfl rfl rfl ?_
    refine g_sipush (v := 600) C (tdec DX0_settle 3 rfl) (by decide) rfl ?_
    refine g_icmp_ge (pt := 100) C (tdec DX0_settle 4 rfl) (by decide) rfl (fun h1 => ?_) (fun h1 => ?_)
    · have hF := o_ifp hF h1
      refine g_sub (L' := [(0, .ref b_0), (1, .int v1)]) [0, 1] rfl ?_
      exact hk9 _ _ hF
    · have hF := o_ifn hF h1
      refine g_aload_n (z := 0) C (tdec DX0_settle 5 rfl) rfl rfl rfl ?_
      refine g_getf (C' := RX0) (T := TX0) (N := 10) (v := .int (BS_lc b)) C 0 7 (gIn iw_X0) rfl rfl (by decide) (gMem fl_X0_45) rfl rfl (tdec DX0_settle 6 rfl) rfl ?_
      refine g_if_le (pt := 100) C (tdec DX0_settle 7 rfl) (by decide) rfl (fun h2 => ?_) (fun h2 => ?_)
      · have hF := o_ifp hF h2
        refine g_sub (L' := [(0, .ref b_0), (1, .int v1)]) [0, 1] rfl ?_
        exact hk9 _ _ hF
      · have hF := o_ifn hF h2
        refine g_aload_n (z := 0) C (tdec DX0_settle 8 rfl) rfl rfl rfl ?_
        refine g_dup C (tdec DX0_settle 9 rfl) rfl rfl ?_
        refine g_getf (C' := RX0) (T := TX0) (N := 10) (v := .int (BS_lc b)) C 0 7 (gIn iw_X0) rfl rfl (by decide) (gMem fl_X0_45) rfl rfl (tdec DX0_settle 10 rfl) rfl ?_
        refine g_iconst (v := 1) C (tdec DX0_settle 11 rfl) (by decide) rfl ?_
        refine g_isub C (tdec DX0_settle 12 rfl) rfl ?_
        refine g_putf (C' := RX0) (T := TX0) (N := 10) (v := .int ((BS_lc b) - 1)) (ws' := wB cI cJ b_0 b_1 b_2 b_3 b_4 b_5 b_6 b_7 b_8 b_9 b_10 b_11 b_12 b_13 b_14 (BS_setlc b ((BS_lc b) - 1))) C 0 7 tyX0 tyX0_ok nmX0 (gIn iw_X0) rfl rfl (by decide) (gMem fl_X0_45) rfl rfl (tyX0_ok 7 (by decide)) rfl rfl (Nat.le_of_ble_eq_true rfl) rfl (tdec DX0_settle 13 rfl) rfl ?_
        refine g_aload_n (z := 0) C (tdec DX0_settle 14 rfl) rfl rfl rfl ?_
        refine g_getf (C' := RX0) (T := TX0) (N := 10) (v := .ref b_13) C 0 6 (gIn iw_X0) rfl rfl (by decide) (gMem fl_X0_39) rfl rfl (tdec DX0_settle 15 rfl) rfl ?_
        refine g_aload_n (z := 0) C (tdec DX0_settle 16 rfl) rfl rfl rfl ?_
        refine g_getf (C' := RX0) (T := TX0) (N := 10) (v := .int ((BS_lc b) - 1)) C 0 7 (gIn iw_X0) rfl rfl (by decide) (gMem fl_X0_45) rfl rfl (tdec DX0_settle 17 rfl) rfl ?_
        obtain ⟨r3, y4, hF⟩ := o_bind hF
        refine g_callViR (q0 := 13) C (c_X1_at l D cB cI cJ cZ b_13 b_14 y4) rfl rfl (gIV ml_X0_55 im_X1_at sl_X1_at in_X1 cd_X1_at) rfl eX1_at rfl ⟨rfl, rfl⟩ ⟨Nat.le_of_ble_eq_true rfl, Nat.le_of_ble_eq_true rfl⟩ rfl [13, 14] rfl rfl rfl (Nat.le_of_ble_eq_true rfl) (tdec DX0_settle 18 rfl) rfl ?_
        refine g_istore_n (L' := [(2, .int r3), (0, .ref b_0), (1, .int v1)]) C (tdec DX0_settle 19 rfl) rfl (by decide) rfl rfl ?_
        refine g_iconst (v := 0) C (tdec DX0_settle 20 rfl) (by decide) rfl ?_
        refine g_istore_n (L' := [(3, .int 0), (2, .int r3), (0, .ref b_0), (1, .int v1)]) C (tdec DX0_settle 21 rfl) rfl (by decide) rfl rfl ?_
        refine g_sub (L' := [(0, .ref b_0), (1, .int v1), (2, .int r3), (3, .int 0)]) [2, 3, 1, 0] rfl ?_
        refine c_FX0_settle_L40 C (fun bq11 w3_11 hF => ?_) 100000 _ _ hF
        refine g_aload_n (z := 0) C (tdec DX0_settle 41 rfl) rfl rfl rfl ?_
        refine g_getf (C' := RX0) (T := TX0) (N := 10) (v := .ref b_1) C 0 0 (gIn iw_X0) rfl rfl (by decide) (gMem fl_X0_14) rfl rfl (tdec DX0_settle 42 rfl) rfl ?_
        refine g_iload_n (z := 2) C (tdec DX0_settle 43 rfl) rfl rfl rfl ?_
        refine g_iconst (v := (-1)) C (tdec DX0_settle 44 rfl) (by decide) rfl ?_
        obtain ⟨s12, y13, hF⟩ := o_bind hF
        refine g_callVvM (q0 := 1) (W' := wB cI cJ b_0 b_1 b_2 b_3 b_4 b_5 b_6 b_7 b_8 b_9 b_10 b_11 b_12 b_13 b_14 (BS_setlev bq11 s12)) C (c_X1_put l D cB cI cJ cZ b_1 b_2 y13) rfl rfl (gIV ml_X0_66 im_X1_put sl_X1_put in_X1 cd_X1_put) rfl eX1_put rfl ⟨rfl, rfl⟩ ⟨Nat.le_of_ble_eq_true rfl, Nat.le_of_ble_eq_true rfl⟩ rfl [1, 2] rfl rfl rfl rfl rfl rfl (Nat.le_of_ble_eq_true rfl) (tdec DX0_settle 45 rfl) rfl ?_
        refine g_aload_n (z := 0) C (tdec DX0_settle 46 rfl) rfl rfl rfl ?_
        refine g_dup C (tdec DX0_settle 47 rfl) rfl rfl ?_
        refine g_getf (C' := RX0) (T := TX0) (N := 10) (v := .int (BS_fr bq11)) C 0 9 (gIn iw_X0) rfl rfl (by decide) (gMem fl_X0_52) rfl rfl (tdec DX0_settle 48 rfl) rfl ?_
        refine g_iconst (v := 1) C (tdec DX0_settle 49 rfl) (by decide) rfl ?_
        refine g_iadd C (tdec DX0_settle 50 rfl) rfl ?_
        refine g_putf (C' := RX0) (T := TX0) (N := 10) (v := .int ((BS_fr bq11) + 1)) (ws' := wB cI cJ b_0 b_1 b_2 b_3 b_4 b_5 b_6 b_7 b_8 b_9 b_10 b_11 b_12 b_13 b_14 (BS_setfr (BS_setlev bq11 s12) ((BS_fr bq11) + 1))) C 0 9 tyX0 tyX0_ok nmX0 (gIn iw_X0) rfl rfl (by decide) (gMem fl_X0_52) rfl rfl (tyX0_ok 9 (by decide)) rfl rfl (Nat.le_of_ble_eq_true rfl) rfl (tdec DX0_settle 51 rfl) rfl ?_
        refine g_iinc (z := 1) (v := (v1 + 1)) (L' := [(1, .int (v1 + 1)), (0, .ref b_0), (2, .int r3), (3, .int w3_11)]) C (tdec DX0_settle 52 rfl) rfl rfl (by decide) rfl rfl ?_
        refine g_goto (pt := 2) C (tdec DX0_settle 53 rfl) (by decide) ?_
        refine g_sub (L' := [(0, .ref b_0), (1, .int (v1 + 1))]) [1, 0] rfl ?_
        exact ih9 _ _ hF
set_option maxHeartbeats 4000000 in
set_option maxRecDepth 100000 in
theorem c_X0_settle (l : Launch) (D : va_G) (cB cI cJ cZ : ClassId) (b_0 b_1 b_2 b_3 b_4 b_5 b_6 b_7 b_8 b_9 b_10 b_11 b_12 b_13 b_14 : Nat) {b0 : BS} {res : BS} (hF : FX0_settle b0 = some res) : gMv l yX0_settle wsX0_settle rX0_settle D (gT cB cI cJ cZ) [.ref b_0] (wB cI cJ b_0 b_1 b_2 b_3 b_4 b_5 b_6 b_7 b_8 b_9 b_10 b_11 b_12 b_13 b_14 b0) (wB cI cJ b_0 b_1 b_2 b_3 b_4 b_5 b_6 b_7 b_8 b_9 b_10 b_11 b_12 b_13 b_14 res) := by
  refine g_enter (own := RX0) (free := (fun sz => va_A (wB cI cJ b_0 b_1 b_2 b_3 b_4 b_5 b_6 b_7 b_8 b_9 b_10 b_11 b_12 b_13 b_14 b0) sz)) (Qc := (fun sz => gQv D (wB cI cJ b_0 b_1 b_2 b_3 b_4 b_5 b_6 b_7 b_8 b_9 b_10 b_11 b_12 b_13 b_14 b0) sz (wB cI cJ b_0 b_1 b_2 b_3 b_4 b_5 b_6 b_7 b_8 b_9 b_10 b_11 b_12 b_13 b_14 res))) (fun sz => va_A (wB cI cJ b_0 b_1 b_2 b_3 b_4 b_5 b_6 b_7 b_8 b_9 b_10 b_11 b_12 b_13 b_14 b0) sz) (fun sz => Or.inr rfl) rfl (by decide) rfl (Nat.le_of_ble_eq_true rfl) rfl ?_
  intro p e s m args below meth c C
  unfold FX0_settle at hF
  refine g_iconst (v := 0) C (tdec DX0_settle 0 rfl) (by decide) rfl ?_
  refine g_istore_n (L' := [(1, .int 0), (0, .ref b_0)]) C (tdec DX0_settle 1 rfl) rfl (by decide) rfl rfl ?_
  refine g_sub (L' := [(0, .ref b_0), (1, .int 0)]) [1, 0] rfl ?_
  refine c_FX0_settle_L2 C (fun bq14 w1_14 hF => ?_) 100000 _ _ hF
  have hr9 := o_some hF
  subst hr9
  exact g_vret C rfl (tdec DX0_settle 54 rfl)
