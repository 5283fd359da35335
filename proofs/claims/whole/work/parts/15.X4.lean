/-! PART 15.X4: walks, printed by wip/whole/walk.py -/
def FX4_writes (d0 : SD) : Option (Int32) :=
  some (SD_wr d0)
def rX4_writes : Room := { frames := 0, cells := 0, slots := 0, locals := 0 }
set_option maxHeartbeats 4000000 in
set_option maxRecDepth 100000 in
theorem c_X4_writes (l : Launch) (D : va_G) (cB cI cJ cZ : ClassId) (d_0 d_xSB : Nat) {d0 : SD} {res : Int32} (hF : FX4_writes d0 = some res) : gRi l yX4_writes wsX4_writes rX4_writes D (gT cB cI cJ cZ) [.ref d_0] (wSD d_0 d_xSB d0) res := by
  refine g_enter (own := RX4) (free := (fun _ _ => False)) (Qc := (fun sz => gRQi res)) (fun _ _ => True) (fun sz => Or.inl rfl) rfl (by decide) rfl (Nat.le_of_ble_eq_true rfl) rfl ?_
  intro p e s m args below meth c C
  unfold FX4_writes at hF
  refine g_aload_n (z := 0) C (tdec DX4_writes 0 rfl) rfl rfl rfl ?_
  refine g_getf (C' := RX4) (T := TX4) (N := 5) (v := .int (SD_wr d0)) C 0 2 (gIn iw_X4) rfl rfl (by decide) (gMem fl_X4_15) rfl rfl (tdec DX4_writes 1 rfl) rfl ?_
  have hr9 := o_some hF
  subst hr9
  exact g_iretR C rfl (tdec DX4_writes 2 rfl)
def FX4_clears (d0 : SD) : Option (Int32) :=
  some (SD_cl d0)
def rX4_clears : Room := { frames := 0, cells := 0, slots := 0, locals := 0 }
set_option maxHeartbeats 4000000 in
set_option maxRecDepth 100000 in
theorem c_X4_clears (l : Launch) (D : va_G) (cB cI cJ cZ : ClassId) (d_0 d_xSB : Nat) {d0 : SD} {res : Int32} (hF : FX4_clears d0 = some res) : gRi l yX4_clears wsX4_clears rX4_clears D (gT cB cI cJ cZ) [.ref d_0] (wSD d_0 d_xSB d0) res := by
  refine g_enter (own := RX4) (free := (fun _ _ => False)) (Qc := (fun sz => gRQi res)) (fun _ _ => True) (fun sz => Or.inl rfl) rfl (by decide) rfl (Nat.le_of_ble_eq_true rfl) rfl ?_
  intro p e s m args below meth c C
  unfold FX4_clears at hF
  refine g_aload_n (z := 0) C (tdec DX4_clears 0 rfl) rfl rfl rfl ?_
  refine g_getf (C' := RX4) (T := TX4) (N := 5) (v := .int (SD_cl d0)) C 0 3 (gIn iw_X4) rfl rfl (by decide) (gMem fl_X4_19) rfl rfl (tdec DX4_clears 1 rfl) rfl ?_
  have hr9 := o_some hF
  subst hr9
  exact g_iretR C rfl (tdec DX4_clears 2 rfl)
def FX4_seen (d0 : SD) : Option (Int32) :=
  some (SD_sn d0)
def rX4_seen : Room := { frames := 0, cells := 0, slots := 0, locals := 0 }
set_option maxHeartbeats 4000000 in
set_option maxRecDepth 100000 in
theorem c_X4_seen (l : Launch) (D : va_G) (cB cI cJ cZ : ClassId) (d_0 d_xSB : Nat) {d0 : SD} {res : Int32} (hF : FX4_seen d0 = some res) : gRi l yX4_seen wsX4_seen rX4_seen D (gT cB cI cJ cZ) [.ref d_0] (wSD d_0 d_xSB d0) res := by
  refine g_enter (own := RX4) (free := (fun _ _ => False)) (Qc := (fun sz => gRQi res)) (fun _ _ => True) (fun sz => Or.inl rfl) rfl (by decide) rfl (Nat.le_of_ble_eq_true rfl) rfl ?_
  intro p e s m args below meth c C
  unfold FX4_seen at hF
  refine g_aload_n (z := 0) C (tdec DX4_seen 0 rfl) rfl rfl rfl ?_
  refine g_getf (C' := RX4) (T := TX4) (N := 5) (v := .int (SD_sn d0)) C 0 4 (gIn iw_X4) rfl rfl (by decide) (gMem fl_X4_22) rfl rfl (tdec DX4_seen 1 rfl) rfl ?_
  have hr9 := o_some hF
  subst hr9
  exact g_iretR C rfl (tdec DX4_seen 2 rfl)
def FX4_fillStream (d0 : SD) (sb0 : SB) (v0 : VS) (p2 : Int32) (p3 : Int32) : Option (SD × SB) :=
  if p2 = (-1) then
    (FX5_shorten sb0 0).bind fun s19 =>
    (FX6_markOf v0 p3).bind fun r21 =>
    (FX5_addBegin s19 0 r21).bind fun s23 =>
    (FX6_blocks v0).bind fun _ =>
    (FX4_goOver (SD_setsince (SD_setsn (SD_setcl (SD_setwr d0 0) 0) 0) 0) s23 (VS_b v0) (4802 + p3) 3 0).bind fun (s27, s28) =>
    (FX5_addEnd s28 ((1 + (SD_wr s27)) + (SD_cl s27))).bind fun s30 =>
    some (s27, s30)
  else
    (FX6_generationOf v0 p2).bind fun r2 =>
    (FX5_shorten sb0 0).bind fun s4 =>
    (FX6_markOf v0 p2).bind fun r6 =>
    (FX6_markOf v0 p3).bind fun r8 =>
    (FX5_addBegin s4 r6 r8).bind fun s10 =>
    (FX6_blocks v0).bind fun _ =>
    (FX4_goOver (SD_setsince (SD_setsn (SD_setcl (SD_setwr d0 0) 0) 0) r2) s10 (VS_b v0) (4802 + p3) 3 0).bind fun (s14, s15) =>
    (FX5_addEnd s15 ((1 + (SD_wr s14)) + (SD_cl s14))).bind fun s17 =>
    some (s14, s17)
def rX4_fillStream : Room := { frames := 4, cells := 0, slots := 0, locals := 96 }
set_option maxHeartbeats 4000000 in
set_option maxRecDepth 100000 in
theorem c_X4_fillStream (l : Launch) (D : va_G) (cB cI cJ cZ : ClassId) (d_0 sb_0 sb_1 v_0 v_1 v_2 v_3 v_4 v_5 v_6 v_7 v_8 v_9 v_10 v_11 v_12 v_13 v_14 v_15 v_16 v_17 v_18 v_19 : Nat) {d0 : SD} {sb0 : SB} {v0 : VS} {p2 : Int32} {p3 : Int32} {res : SD × SB} (hF : FX4_fillStream d0 sb0 v0 p2 p3 = some res) : gMv l yX4_fillStream wsX4_fillStream rX4_fillStream D (gT cB cI cJ cZ) [.ref d_0, .ref v_0, .int p2, .int p3] (wSD d_0 sb_0 d0 ++ (wSB cB sb_0 sb_1 sb0 ++ (wV cI cJ v_0 v_1 v_2 v_3 v_4 v_5 v_6 v_7 v_8 v_9 v_10 v_11 v_12 v_13 v_14 v_15 v_16 v_17 v_18 v_19 v0))) (wSD d_0 sb_0 res.1 ++ (wSB cB sb_0 sb_1 res.2 ++ (wV cI cJ v_0 v_1 v_2 v_3 v_4 v_5 v_6 v_7 v_8 v_9 v_10 v_11 v_12 v_13 v_14 v_15 v_16 v_17 v_18 v_19 v0))) := by
  refine g_enter (own := RX4) (free := (fun sz => va_A (wSD d_0 sb_0 d0 ++ (wSB cB sb_0 sb_1 sb0 ++ (wV cI cJ v_0 v_1 v_2 v_3 v_4 v_5 v_6 v_7 v_8 v_9 v_10 v_11 v_12 v_13 v_14 v_15 v_16 v_17 v_18 v_19 v0))) sz)) (Qc := (fun sz => gQv D (wSD d_0 sb_0 d0 ++ (wSB cB sb_0 sb_1 sb0 ++ (wV cI cJ v_0 v_1 v_2 v_3 v_4 v_5 v_6 v_7 v_8 v_9 v_10 v_11 v_12 v_13 v_14 v_15 v_16 v_17 v_18 v_19 v0))) sz (wSD d_0 sb_0 res.1 ++ (wSB cB sb_0 sb_1 res.2 ++ (wV cI cJ v_0 v_1 v_2 v_3 v_4 v_5 v_6 v_7 v_8 v_9 v_10 v_11 v_12 v_13 v_14 v_15 v_16 v_17 v_18 v_19 v0))))) (fun sz => va_A (wSD d_0 sb_0 d0 ++ (wSB cB sb_0 sb_1 sb0 ++ (wV cI cJ v_0 v_1 v_2 v_3 v_4 v_5 v_6 v_7 v_8 v_9 v_10 v_11 v_12 v_13 v_14 v_15 v_16 v_17 v_18 v_19 v0))) sz) (fun sz => Or.inr rfl) rfl (by decide) rfl (Nat.le_of_ble_eq_true rfl) rfl ?_
  intro p e s m args below meth c C
  unfold FX4_fillStream at hF
  refine g_aload_n (z := 0) C (tdec DX4_fillStream 0 rfl) rfl rfl rfl ?_
  refine g_iconst (v := 0) C (tdec DX4_fillStream 1 rfl) (by decide) rfl ?_
  refine g_putf (C' := RX4) (T := TX4) (N := 5) (v := .int 0) (ws' := wSD d_0 sb_0 (SD_setwr d0 0) ++ (wSB cB sb_0 sb_1 sb0 ++ (wV cI cJ v_0 v_1 v_2 v_3 v_4 v_5 v_6 v_7 v_8 v_9 v_10 v_11 v_12 v_13 v_14 v_15 v_16 v_17 v_18 v_19 v0))) C 0 2 tyX4 tyX4_ok nmX4 (gIn iw_X4) rfl rfl (by decide) (gMem fl_X4_15) rfl rfl (tyX4_ok 2 (by decide)) rfl rfl (Nat.le_of_ble_eq_true rfl) rfl (tdec DX4_fillStream 2 rfl) rfl ?_
  refine g_aload_n (z := 0) C (tdec DX4_fillStream 3 rfl) rfl rfl rfl ?_
  refine g_iconst (v := 0) C (tdec DX4_fillStream 4 rfl) (by decide) rfl ?_
  refine g_putf (C' := RX4) (T := TX4) (N := 5) (v := .int 0) (ws' := wSD d_0 sb_0 (SD_setcl (SD_setwr d0 0) 0) ++ (wSB cB sb_0 sb_1 sb0 ++ (wV cI cJ v_0 v_1 v_2 v_3 v_4 v_5 v_6 v_7 v_8 v_9 v_10 v_11 v_12 v_13 v_14 v_15 v_16 v_17 v_18 v_19 v0))) C 0 3 tyX4 tyX4_ok nmX4 (gIn iw_X4) rfl rfl (by decide) (gMem fl_X4_19) rfl rfl (tyX4_ok 3 (by decide)) rfl rfl (Nat.le_of_ble_eq_true rfl) rfl (tdec DX4_fillStream 5 rfl) rfl ?_
  refine g_aload_n (z := 0) C (tdec DX4_fillStream 6 rfl) rfl rfl rfl ?_
  refine g_iconst (v := 0) C (tdec DX4_fillStream 7 rfl) (by decide) rfl ?_
  refine g_putf (C' := RX4) (T := TX4) (N := 5) (v := .int 0) (ws' := wSD d_0 sb_0 (SD_setsn (SD_setcl (SD_setwr d0 0) 0) 0) ++ (wSB cB sb_0 sb_1 sb0 ++ (wV cI cJ v_0 v_1 v_2 v_3 v_4 v_5 v_6 v_7 v_8 v_9 v_10 v_11 v_12 v_13 v_14 v_15 v_16 v_17 v_18 v_19 v0))) C 0 4 tyX4 tyX4_ok nmX4 (gIn iw_X4) rfl rfl (by decide) (gMem fl_X4_22) rfl rfl (tyX4_ok 4 (by decide)) rfl rfl (Nat.le_of_ble_eq_true rfl) rfl (tdec DX4_fillStream 8 rfl) rfl ?_
  refine g_aload_n (z := 0) C (tdec DX4_fillStream 9 rfl) rfl rfl rfl ?_
  refine g_iload_n (z := 2) C (tdec DX4_fillStream 10 rfl) rfl rfl rfl ?_
  refine g_iconst (v := (-1)) C (tdec DX4_fillStream 11 rfl) (by decide) rfl ?_
  refine g_icmp_ne (pt := 25) C (tdec DX4_fillStream 12 rfl) (by decide) rfl (fun h1 => ?_) (fun h1 => ?_)
  · have hF := o_ifn hF h1
    refine g_aload_n (z := 1) C (tdec DX4_fillStream 15 rfl) rfl rfl rfl ?_
    refine g_iload_n (z := 2) C (tdec DX4_fillStream 16 rfl) rfl rfl rfl ?_
    obtain ⟨r2, y3, hF⟩ := o_bind hF
    refine g_callViRS (q0 := 3) (S := [wSD d_0 sb_0 (SD_setsn (SD_setcl (SD_setwr d0 0) 0) 0), wSB cB sb_0 sb_1 sb0, wV cI cJ v_0 v_1 v_2 v_3 v_4 v_5 v_6 v_7 v_8 v_9 v_10 v_11 v_12 v_13 v_14 v_15 v_16 v_17 v_18 v_19 v0]) (S0 := [wV cI cJ v_0 v_1 v_2 v_3 v_4 v_5 v_6 v_7 v_8 v_9 v_10 v_11 v_12 v_13 v_14 v_15 v_16 v_17 v_18 v_19 v0]) C (c_X6_generationOf l D cB cI cJ cZ v_0 v_1 v_2 v_3 v_4 v_5 v_6 v_7 v_8 v_9 v_10 v_11 v_12 v_13 v_14 v_15 v_16 v_17 v_18 v_19 y3) rfl rfl (gIV ml_X4_25 im_X6_generationOf sl_X6_generationOf in_X6 cd_X6_generationOf) rfl eX6_generationOf rfl ⟨rfl, rfl⟩ ⟨Nat.le_of_ble_eq_true rfl, Nat.le_of_ble_eq_true rfl⟩ rfl rfl rfl [2] rfl rfl rfl (Nat.le_of_ble_eq_true rfl) (tdec DX4_fillStream 17 rfl) rfl ?_
    refine g_putf (C' := RX4) (T := TX4) (N := 5) (v := .int r2) (ws' := wSD d_0 sb_0 (SD_setsince (SD_setsn (SD_setcl (SD_setwr d0 0) 0) 0) r2) ++ (wSB cB sb_0 sb_1 sb0 ++ (wV cI cJ v_0 v_1 v_2 v_3 v_4 v_5 v_6 v_7 v_8 v_9 v_10 v_11 v_12 v_13 v_14 v_15 v_16 v_17 v_18 v_19 v0))) C 0 1 tyX4 tyX4_ok nmX4 (gIn iw_X4) rfl rfl (by decide) (gMem fl_X4_31) rfl rfl (tyX4_ok 1 (by decide)) rfl rfl (Nat.le_of_ble_eq_true rfl) rfl (tdec DX4_fillStream 18 rfl) rfl ?_
    refine g_aload_n (z := 0) C (tdec DX4_fillStream 19 rfl) rfl rfl rfl ?_
    refine g_getf (C' := RX4) (T := TX4) (N := 5) (v := .ref sb_0) C 0 0 (gIn iw_X4) rfl rfl (by decide) (gMem fl_X4_9) rfl rfl (tdec DX4_fillStream 20 rfl) rfl ?_
    refine g_iconst (v := 0) C (tdec DX4_fillStream 21 rfl) (by decide) rfl ?_
    obtain ⟨s4, y5, hF⟩ := o_bind hF
    refine g_callVvMS (q0 := 1) (W' := wSD d_0 sb_0 (SD_setsince (SD_setsn (SD_setcl (SD_setwr d0 0) 0) 0) r2) ++ (wSB cB sb_0 sb_1 s4 ++ (wV cI cJ v_0 v_1 v_2 v_3 v_4 v_5 v_6 v_7 v_8 v_9 v_10 v_11 v_12 v_13 v_14 v_15 v_16 v_17 v_18 v_19 v0))) (S := [wSD d_0 sb_0 (SD_setsince (SD_setsn (SD_setcl (SD_setwr d0 0) 0) 0) r2), wSB cB sb_0 sb_1 sb0, wV cI cJ v_0 v_1 v_2 v_3 v_4 v_5 v_6 v_7 v_8 v_9 v_10 v_11 v_12 v_13 v_14 v_15 v_16 v_17 v_18 v_19 v0]) (S0 := [wSB cB sb_0 sb_1 sb0]) (S1 := [wSB cB sb_0 sb_1 s4]) (S' := [wSD d_0 sb_0 (SD_setsince (SD_setsn (SD_setcl (SD_setwr d0 0) 0) 0) r2), wSB cB sb_0 sb_1 s4, wV cI cJ v_0 v_1 v_2 v_3 v_4 v_5 v_6 v_7 v_8 v_9 v_10 v_11 v_12 v_13 v_14 v_15 v_16 v_17 v_18 v_19 v0]) C (c_X5_shorten l D cB cI cJ cZ sb_0 sb_1 y5) rfl rfl (gIV ml_X4_34 im_X5_shorten sl_X5_shorten in_X5 cd_X5_shorten) rfl eX5_shorten rfl ⟨rfl, rfl⟩ ⟨Nat.le_of_ble_eq_true rfl, Nat.le_of_ble_eq_true rfl⟩ rfl rfl rfl [1] rfl rfl rfl rfl (gA_cons aSB gA_nil) rfl rfl (Nat.le_of_ble_eq_true rfl) (tdec DX4_fillStream 22 rfl) rfl ?_
    refine g_aload_n (z := 0) C (tdec DX4_fillStream 23 rfl) rfl rfl rfl ?_
    refine g_getf (C' := RX4) (T := TX4) (N := 5) (v := .ref sb_0) C 0 0 (gIn iw_X4) rfl rfl (by decide) (gMem fl_X4_9) rfl rfl (tdec DX4_fillStream 24 rfl) rfl ?_
    refine g_iload_n (z := 2) C (tdec DX4_fillStream 25 rfl) rfl rfl rfl ?_
    refine g_iconst (v := (-1)) C (tdec DX4_fillStream 26 rfl) (by decide) rfl ?_
    refine g_icmp_ne (pt := 54) C (tdec DX4_fillStream 27 rfl) (by decide) rfl (fun _ => ?_) (fun h => absurd h h1)
    refine g_aload_n (z := 1) C (tdec DX4_fillStream 30 rfl) rfl rfl rfl ?_
    refine g_iload_n (z := 2) C (tdec DX4_fillStream 31 rfl) rfl rfl rfl ?_
    obtain ⟨r6, y7, hF⟩ := o_bind hF
    refine g_callVlRS (q0 := 3) (S := [wSD d_0 sb_0 (SD_setsince (SD_setsn (SD_setcl (SD_setwr d0 0) 0) 0) r2), wSB cB sb_0 sb_1 s4, wV cI cJ v_0 v_1 v_2 v_3 v_4 v_5 v_6 v_7 v_8 v_9 v_10 v_11 v_12 v_13 v_14 v_15 v_16 v_17 v_18 v_19 v0]) (S0 := [wV cI cJ v_0 v_1 v_2 v_3 v_4 v_5 v_6 v_7 v_8 v_9 v_10 v_11 v_12 v_13 v_14 v_15 v_16 v_17 v_18 v_19 v0]) C (c_X6_markOf l D cB cI cJ cZ v_0 v_1 v_2 v_3 v_4 v_5 v_6 v_7 v_8 v_9 v_10 v_11 v_12 v_13 v_14 v_15 v_16 v_17 v_18 v_19 y7) rfl rfl (gIV ml_X4_40 im_X6_markOf sl_X6_markOf in_X6 cd_X6_markOf) rfl eX6_markOf rfl ⟨rfl, rfl⟩ ⟨Nat.le_of_ble_eq_true rfl, Nat.le_of_ble_eq_true rfl⟩ rfl rfl rfl [2] rfl rfl rfl (Nat.le_of_ble_eq_true rfl) (tdec DX4_fillStream 32 rfl) rfl ?_
    refine g_aload_n (z := 1) C (tdec DX4_fillStream 33 rfl) rfl rfl rfl ?_
    refine g_iload_n (z := 3) C (tdec DX4_fillStream 34 rfl) rfl rfl rfl ?_
    obtain ⟨r8, y9, hF⟩ := o_bind hF
    refine g_callVlRS (q0 := 3) (S := [wSD d_0 sb_0 (SD_setsince (SD_setsn (SD_setcl (SD_setwr d0 0) 0) 0) r2), wSB cB sb_0 sb_1 s4, wV cI cJ v_0 v_1 v_2 v_3 v_4 v_5 v_6 v_7 v_8 v_9 v_10 v_11 v_12 v_13 v_14 v_15 v_16 v_17 v_18 v_19 v0]) (S0 := [wV cI cJ v_0 v_1 v_2 v_3 v_4 v_5 v_6 v_7 v_8 v_9 v_10 v_11 v_12 v_13 v_14 v_15 v_16 v_17 v_18 v_19 v0]) C (c_X6_markOf l D cB cI cJ cZ v_0 v_1 v_2 v_3 v_4 v_5 v_6 v_7 v_8 v_9 v_10 v_11 v_12 v_13 v_14 v_15 v_16 v_17 v_18 v_19 y9) rfl rfl (gIV ml_X4_40 im_X6_markOf sl_X6_markOf in_X6 cd_X6_markOf) rfl eX6_markOf rfl ⟨rfl, rfl⟩ ⟨Nat.le_of_ble_eq_true rfl, Nat.le_of_ble_eq_true rfl⟩ rfl rfl rfl [2] rfl rfl rfl (Nat.le_of_ble_eq_true rfl) (tdec DX4_fillStream 35 rfl) rfl ?_
    obtain ⟨s10, y11, hF⟩ := o_bind hF
    refine g_callVvMS (q0 := 1) (W' := wSD d_0 sb_0 (SD_setsince (SD_setsn (SD_setcl (SD_setwr d0 0) 0) 0) r2) ++ (wSB cB sb_0 sb_1 s10 ++ (wV cI cJ v_0 v_1 v_2 v_3 v_4 v_5 v_6 v_7 v_8 v_9 v_10 v_11 v_12 v_13 v_14 v_15 v_16 v_17 v_18 v_19 v0))) (S := [wSD d_0 sb_0 (SD_setsince (SD_setsn (SD_setcl (SD_setwr d0 0) 0) 0) r2), wSB cB sb_0 sb_1 s4, wV cI cJ v_0 v_1 v_2 v_3 v_4 v_5 v_6 v_7 v_8 v_9 v_10 v_11 v_12 v_13 v_14 v_15 v_16 v_17 v_18 v_19 v0]) (S0 := [wSB cB sb_0 sb_1 s4]) (S1 := [wSB cB sb_0 sb_1 s10]) (S' := [wSD d_0 sb_0 (SD_setsince (SD_setsn (SD_setcl (SD_setwr d0 0) 0) 0) r2), wSB cB sb_0 sb_1 s10, wV cI cJ v_0 v_1 v_2 v_3 v_4 v_5 v_6 v_7 v_8 v_9 v_10 v_11 v_12 v_13 v_14 v_15 v_16 v_17 v_18 v_19 v0]) C (c_X5_addBegin l D cB cI cJ cZ sb_0 sb_1 y11) rfl rfl (gIV ml_X4_44 im_X5_addBegin sl_X5_addBegin in_X5 cd_X5_addBegin) rfl eX5_addBegin rfl ⟨rfl, rfl⟩ ⟨Nat.le_of_ble_eq_true rfl, Nat.le_of_ble_eq_true rfl⟩ rfl rfl rfl [1] rfl rfl rfl rfl (gA_cons aSB gA_nil) rfl rfl (Nat.le_of_ble_eq_true rfl) (tdec DX4_fillStream 36 rfl) rfl ?_
    refine g_aload_n (z := 0) C (tdec DX4_fillStream 37 rfl) rfl rfl rfl ?_
    refine g_aload_n (z := 1) C (tdec DX4_fillStream 38 rfl) rfl rfl rfl ?_
    obtain ⟨q13, y12, hF⟩ := o_bind hF
    have q9 := o_some y12
    subst q9
    refine g_callVqRS (q0 := 3) (S := [wSD d_0 sb_0 (SD_setsince (SD_setsn (SD_setcl (SD_setwr d0 0) 0) 0) r2), wSB cB sb_0 sb_1 s10, wV cI cJ v_0 v_1 v_2 v_3 v_4 v_5 v_6 v_7 v_8 v_9 v_10 v_11 v_12 v_13 v_14 v_15 v_16 v_17 v_18 v_19 v0]) (S0 := [wV cI cJ v_0 v_1 v_2 v_3 v_4 v_5 v_6 v_7 v_8 v_9 v_10 v_11 v_12 v_13 v_14 v_15 v_16 v_17 v_18 v_19 v0]) C (c_X6_blocks l D cB cI cJ cZ v_0 v_1 v_2 v_3 v_4 v_5 v_6 v_7 v_8 v_9 v_10 v_11 v_12 v_13 v_14 v_15 v_16 v_17 v_18 v_19 y12) rfl rfl (gIV ml_X4_48 im_X6_blocks sl_X6_blocks in_X6 cd_X6_blocks) rfl eX6_blocks rfl ⟨rfl, rfl⟩ ⟨Nat.le_of_ble_eq_true rfl, Nat.le_of_ble_eq_true rfl⟩ rfl rfl rfl [2] rfl rfl rfl (Nat.le_of_ble_eq_true rfl) (tdec DX4_fillStream 39 rfl) rfl ?_
    refine g_sipush (v := 4802) C (tdec DX4_fillStream 40 rfl) (by decide) rfl ?_
    refine g_iload_n (z := 3) C (tdec DX4_fillStream 41 rfl) rfl rfl rfl ?_
    refine g_iadd C (tdec DX4_fillStream 42 rfl) rfl ?_
    refine g_iconst (v := 3) C (tdec DX4_fillStream 43 rfl) (by decide) rfl ?_
    refine g_iconst (v := 0) C (tdec DX4_fillStream 44 rfl) (by decide) rfl ?_
    obtain ⟨⟨s14, s15⟩, y16, hF⟩ := o_bind hF
    refine g_callSvMS (W' := wSD d_0 sb_0 s14 ++ (wSB cB sb_0 sb_1 s15 ++ (wV cI cJ v_0 v_1 v_2 v_3 v_4 v_5 v_6 v_7 v_8 v_9 v_10 v_11 v_12 v_13 v_14 v_15 v_16 v_17 v_18 v_19 v0))) (S := [wSD d_0 sb_0 (SD_setsince (SD_setsn (SD_setcl (SD_setwr d0 0) 0) 0) r2), wSB cB sb_0 sb_1 s10, wV0 cI cJ v_0 v_1 v_2 v_3 v_4 v_5 v0, wB cI cJ v_5 v_6 v_7 v_8 v_9 v_10 v_11 v_12 v_13 v_14 v_15 v_16 v_17 v_18 v_19 (VS_b v0)]) (S0 := [wSD d_0 sb_0 (SD_setsince (SD_setsn (SD_setcl (SD_setwr d0 0) 0) 0) r2), wSB cB sb_0 sb_1 s10, wB cI cJ v_5 v_6 v_7 v_8 v_9 v_10 v_11 v_12 v_13 v_14 v_15 v_16 v_17 v_18 v_19 (VS_b v0)]) (S1 := [wSD d_0 sb_0 s14, wSB cB sb_0 sb_1 s15, wB cI cJ v_5 v_6 v_7 v_8 v_9 v_10 v_11 v_12 v_13 v_14 v_15 v_16 v_17 v_18 v_19 (VS_b v0)]) (S' := [wSD d_0 sb_0 s14, wSB cB sb_0 sb_1 s15, wV0 cI cJ v_0 v_1 v_2 v_3 v_4 v_5 v0, wB cI cJ v_5 v_6 v_7 v_8 v_9 v_10 v_11 v_12 v_13 v_14 v_15 v_16 v_17 v_18 v_19 (VS_b v0)]) C (c_X4_goOver l D cB cI cJ cZ d_0 sb_0 sb_1 v_5 v_6 v_7 v_8 v_9 v_10 v_11 v_12 v_13 v_14 v_15 v_16 v_17 v_18 v_19 y16) (gIS ml_X4_52 st_X4_goOver in_X4 cd_X4_goOver) eX4_goOver rfl ⟨rfl, rfl⟩ ⟨Nat.le_of_ble_eq_true rfl, Nat.le_of_ble_eq_true rfl⟩ rfl rfl rfl [0, 1, 3] rfl rfl rfl rfl (gA_cons aSD (gA_cons aSB (gA_cons rfl gA_nil))) rfl rfl (Nat.le_of_ble_eq_true rfl) (tdec DX4_fillStream 45 rfl) rfl ?_
    refine g_aload_n (z := 0) C (tdec DX4_fillStream 46 rfl) rfl rfl rfl ?_
    refine g_getf (C' := RX4) (T := TX4) (N := 5) (v := .ref sb_0) C 0 0 (gIn iw_X4) rfl rfl (by decide) (gMem fl_X4_9) rfl rfl (tdec DX4_fillStream 47 rfl) rfl ?_
    refine g_iconst (v := 1) C (tdec DX4_fillStream 48 rfl) (by decide) rfl ?_
    refine g_aload_n (z := 0) C (tdec DX4_fillStream 49 rfl) rfl rfl rfl ?_
    refine g_getf (C' := RX4) (T := TX4) (N := 5) (v := .int (SD_wr s14)) C 0 2 (gIn iw_X4) rfl rfl (by decide) (gMem fl_X4_15) rfl rfl (tdec DX4_fillStream 50 rfl) rfl ?_
    refine g_iadd C (tdec DX4_fillStream 51 rfl) rfl ?_
    refine g_aload_n (z := 0) C (tdec DX4_fillStream 52 rfl) rfl rfl rfl ?_
    refine g_getf (C' := RX4) (T := TX4) (N := 5) (v := .int (SD_cl s14)) C 0 3 (gIn iw_X4) rfl rfl (by decide) (gMem fl_X4_19) rfl rfl (tdec DX4_fillStream 53 rfl) rfl ?_
    refine g_iadd C (tdec DX4_fillStream 54 rfl) rfl ?_
    obtain ⟨s17, y18, hF⟩ := o_bind hF
    refine g_callVvMS (q0 := 1) (W' := wSD d_0 sb_0 s14 ++ (wSB cB sb_0 sb_1 s17 ++ (wV cI cJ v_0 v_1 v_2 v_3 v_4 v_5 v_6 v_7 v_8 v_9 v_10 v_11 v_12 v_13 v_14 v_15 v_16 v_17 v_18 v_19 v0))) (S := [wSD d_0 sb_0 s14, wSB cB sb_0 sb_1 s15, wV cI cJ v_0 v_1 v_2 v_3 v_4 v_5 v_6 v_7 v_8 v_9 v_10 v_11 v_12 v_13 v_14 v_15 v_16 v_17 v_18 v_19 v0]) (S0 := [wSB cB sb_0 sb_1 s15]) (S1 := [wSB cB sb_0 sb_1 s17]) (S' := [wSD d_0 sb_0 s14, wSB cB sb_0 sb_1 s17, wV cI cJ v_0 v_1 v_2 v_3 v_4 v_5 v_6 v_7 v_8 v_9 v_10 v_11 v_12 v_13 v_14 v_15 v_16 v_17 v_18 v_19 v0]) C (c_X5_addEnd l D cB cI cJ cZ sb_0 sb_1 y18) rfl rfl (gIV ml_X4_56 im_X5_addEnd sl_X5_addEnd in_X5 cd_X5_addEnd) rfl eX5_addEnd rfl ⟨rfl, rfl⟩ ⟨Nat.le_of_ble_eq_true rfl, Nat.le_of_ble_eq_true rfl⟩ rfl rfl rfl [1] rfl rfl rfl rfl (gA_cons aSB gA_nil) rfl rfl (Nat.le_of_ble_eq_true rfl) (tdec DX4_fillStream 55 rfl) rfl ?_
    have hr9 := o_some hF
    subst hr9
    exact g_vret C rfl (tdec DX4_fillStream 56 rfl)
  · have hF := o_ifp hF h1
    refine g_iconst (v := 0) C (tdec DX4_fillStream 13 rfl) (by decide) rfl ?_
    refine g_goto (pt := 30) C (tdec DX4_fillStream 14 rfl) (by decide) ?_
    refine g_putf (C' := RX4) (T := TX4) (N := 5) (v := .int 0) (ws' := wSD d_0 sb_0 (SD_setsince (SD_setsn (SD_setcl (SD_setwr d0 0) 0) 0) 0) ++ (wSB cB sb_0 sb_1 sb0 ++ (wV cI cJ v_0 v_1 v_2 v_3 v_4 v_5 v_6 v_7 v_8 v_9 v_10 v_11 v_12 v_13 v_14 v_15 v_16 v_17 v_18 v_19 v0))) C 0 1 tyX4 tyX4_ok nmX4 (gIn iw_X4) rfl rfl (by decide) (gMem fl_X4_31) rfl rfl (tyX4_ok 1 (by decide)) rfl rfl (Nat.le_of_ble_eq_true rfl) rfl (tdec DX4_fillStream 18 rfl) rfl ?_
    refine g_aload_n (z := 0) C (tdec DX4_fillStream 19 rfl) rfl rfl rfl ?_
    refine g_getf (C' := RX4) (T := TX4) (N := 5) (v := .ref sb_0) C 0 0 (gIn iw_X4) rfl rfl (by decide) (gMem fl_X4_9) rfl rfl (tdec DX4_fillStream 20 rfl) rfl ?_
    refine g_iconst (v := 0) C (tdec DX4_fillStream 21 rfl) (by decide) rfl ?_
    obtain ⟨s19, y20, hF⟩ := o_bind hF
    refine g_callVvMS (q0 := 1) (W' := wSD d_0 sb_0 (SD_setsince (SD_setsn (SD_setcl (SD_setwr d0 0) 0) 0) 0) ++ (wSB cB sb_0 sb_1 s19 ++ (wV cI cJ v_0 v_1 v_2 v_3 v_4 v_5 v_6 v_7 v_8 v_9 v_10 v_11 v_12 v_13 v_14 v_15 v_16 v_17 v_18 v_19 v0))) (S := [wSD d_0 sb_0 (SD_setsince (SD_setsn (SD_setcl (SD_setwr d0 0) 0) 0) 0), wSB cB sb_0 sb_1 sb0, wV cI cJ v_0 v_1 v_2 v_3 v_4 v_5 v_6 v_7 v_8 v_9 v_10 v_11 v_12 v_13 v_14 v_15 v_16 v_17 v_18 v_19 v0]) (S0 := [wSB cB sb_0 sb_1 sb0]) (S1 := [wSB cB sb_0 sb_1 s19]) (S' := [wSD d_0 sb_0 (SD_setsince (SD_setsn (SD_setcl (SD_setwr d0 0) 0) 0) 0), wSB cB sb_0 sb_1 s19, wV cI cJ v_0 v_1 v_2 v_3 v_4 v_5 v_6 v_7 v_8 v_9 v_10 v_11 v_12 v_13 v_14 v_15 v_16 v_17 v_18 v_19 v0]) C (c_X5_shorten l D cB cI cJ cZ sb_0 sb_1 y20) rfl rfl (gIV ml_X4_34 im_X5_shorten sl_X5_shorten in_X5 cd_X5_shorten) rfl eX5_shorten rfl ⟨rfl, rfl⟩ ⟨Nat.le_of_ble_eq_true rfl, Nat.le_of_ble_eq_true rfl⟩ rfl rfl rfl [1] rfl rfl rfl rfl (gA_cons aSB gA_nil) rfl rfl (Nat.le_of_ble_eq_true rfl) (tdec DX4_fillStream 22 rfl) rfl ?_
    refine g_aload_n (z := 0) C (tdec DX4_fillStream 23 rfl) rfl rfl rfl ?_
    refine g_getf (C' := RX4) (T := TX4) (N := 5) (v := .ref sb_0) C 0 0 (gIn iw_X4) rfl rfl (by decide) (gMem fl_X4_9) rfl rfl (tdec DX4_fillStream 24 rfl) rfl ?_
    refine g_iload_n (z := 2) C (tdec DX4_fillStream 25 rfl) rfl rfl rfl ?_
    refine g_iconst (v := (-1)) C (tdec DX4_fillStream 26 rfl) (by decide) rfl ?_
    refine g_icmp_ne (pt := 54) C (tdec DX4_fillStream 27 rfl) (by decide) rfl (fun h => absurd h1 h) (fun _ => ?_)
    refine g_lconst (v := 0) C (tdec DX4_fillStream 28 rfl) (by decide) rfl ?_
    refine g_goto (pt := 59) C (tdec DX4_fillStream 29 rfl) (by decide) ?_
    refine g_aload_n (z := 1) C (tdec DX4_fillStream 33 rfl) rfl rfl rfl ?_
    refine g_iload_n (z := 3) C (tdec DX4_fillStream 34 rfl) rfl rfl rfl ?_
    obtain ⟨r21, y22, hF⟩ := o_bind hF
    refine g_callVlRS (q0 := 3) (S := [wSD d_0 sb_0 (SD_setsince (SD_setsn (SD_setcl (SD_setwr d0 0) 0) 0) 0), wSB cB sb_0 sb_1 s19, wV cI cJ v_0 v_1 v_2 v_3 v_4 v_5 v_6 v_7 v_8 v_9 v_10 v_11 v_12 v_13 v_14 v_15 v_16 v_17 v_18 v_19 v0]) (S0 := [wV cI cJ v_0 v_1 v_2 v_3 v_4 v_5 v_6 v_7 v_8 v_9 v_10 v_11 v_12 v_13 v_14 v_15 v_16 v_17 v_18 v_19 v0]) C (c_X6_markOf l D cB cI cJ cZ v_0 v_1 v_2 v_3 v_4 v_5 v_6 v_7 v_8 v_9 v_10 v_11 v_12 v_13 v_14 v_15 v_16 v_17 v_18 v_19 y22) rfl rfl (gIV ml_X4_40 im_X6_markOf sl_X6_markOf in_X6 cd_X6_markOf) rfl eX6_markOf rfl ⟨rfl, rfl⟩ ⟨Nat.le_of_ble_eq_true rfl, Nat.le_of_ble_eq_true rfl⟩ rfl rfl rfl [2] rfl rfl rfl (Nat.le_of_ble_eq_true rfl) (tdec DX4_fillStream 35 rfl) rfl ?_
    obtain ⟨s23, y24, hF⟩ := o_bind hF
    refine g_callVvMS (q0 := 1) (W' := wSD d_0 sb_0 (SD_setsince (SD_setsn (SD_setcl (SD_setwr d0 0) 0) 0) 0) ++ (wSB cB sb_0 sb_1 s23 ++ (wV cI cJ v_0 v_1 v_2 v_3 v_4 v_5 v_6 v_7 v_8 v_9 v_10 v_11 v_12 v_13 v_14 v_15 v_16 v_17 v_18 v_19 v0))) (S := [wSD d_0 sb_0 (SD_setsince (SD_setsn (SD_setcl (SD_setwr d0 0) 0) 0) 0), wSB cB sb_0 sb_1 s19, wV cI cJ v_0 v_1 v_2 v_3 v_4 v_5 v_6 v_7 v_8 v_9 v_10 v_11 v_12 v_13 v_14 v_15 v_16 v_17 v_18 v_19 v0]) (S0 := [wSB cB sb_0 sb_1 s19]) (S1 := [wSB cB sb_0 sb_1 s23]) (S' := [wSD d_0 sb_0 (SD_setsince (SD_setsn (SD_setcl (SD_setwr d0 0) 0) 0) 0), wSB cB sb_0 sb_1 s23, wV cI cJ v_0 v_1 v_2 v_3 v_4 v_5 v_6 v_7 v_8 v_9 v_10 v_11 v_12 v_13 v_14 v_15 v_16 v_17 v_18 v_19 v0]) C (c_X5_addBegin l D cB cI cJ cZ sb_0 sb_1 y24) rfl rfl (gIV ml_X4_44 im_X5_addBegin sl_X5_addBegin in_X5 cd_X5_addBegin) rfl eX5_addBegin rfl ⟨rfl, rfl⟩ ⟨Nat.le_of_ble_eq_true rfl, Nat.le_of_ble_eq_true rfl⟩ rfl rfl rfl [1] rfl rfl rfl rfl (gA_cons aSB gA_nil) rfl rfl (Nat.le_of_ble_eq_true rfl) (tdec DX4_fillStream 36 rfl) rfl ?_
    refine g_aload_n (z := 0) C (tdec DX4_fillStream 37 rfl) rfl rfl rfl ?_
    refine g_aload_n (z := 1) C (tdec DX4_fillStream 38 rfl) rfl rfl rfl ?_
    obtain ⟨q26, y25, hF⟩ := o_bind hF
    have q9 := o_some y25
    subst q9
    refine g_callVqRS (q0 := 3) (S := [wSD d_0 sb_0 (SD_setsince (SD_setsn (SD_setcl (SD_setwr d0 0) 0) 0) 0), wSB cB sb_0 sb_1 s23, wV cI cJ v_0 v_1 v_2 v_3 v_4 v_5 v_6 v_7 v_8 v_9 v_10 v_11 v_12 v_13 v_14 v_15 v_16 v_17 v_18 v_19 v0]) (S0 := [wV cI cJ v_0 v_1 v_2 v_3 v_4 v_5 v_6 v_7 v_8 v_9 v_10 v_11 v_12 v_13 v_14 v_15 v_16 v_17 v_18 v_19 v0]) C (c_X6_blocks l D cB cI cJ cZ v_0 v_1 v_2 v_3 v_4 v_5 v_6 v_7 v_8 v_9 v_10 v_11 v_12 v_13 v_14 v_15 v_16 v_17 v_18 v_19 y25) rfl rfl (gIV ml_X4_48 im_X6_blocks sl_X6_blocks in_X6 cd_X6_blocks) rfl eX6_blocks rfl ⟨rfl, rfl⟩ ⟨Nat.le_of_ble_eq_true rfl, Nat.le_of_ble_eq_true rfl⟩ rfl rfl rfl [2] rfl rfl rfl (Nat.le_of_ble_eq_true rfl) (tdec DX4_fillStream 39 rfl) rfl ?_
    refine g_sipush (v := 4802) C (tdec DX4_fillStream 40 rfl) (by decide) rfl ?_
    refine g_iload_n (z := 3) C (tdec DX4_fillStream 41 rfl) rfl rfl rfl ?_
    refine g_iadd C (tdec DX4_fillStream 42 rfl) rfl ?_
    refine g_iconst (v := 3) C (tdec DX4_fillStream 43 rfl) (by decide) rfl ?_
    refine g_iconst (v := 0) C (tdec DX4_fillStream 44 rfl) (by decide) rfl ?_
    obtain ⟨⟨s27, s28⟩, y29, hF⟩ := o_bind hF
    refine g_callSvMS (W' := wSD d_0 sb_0 s27 ++ (wSB cB sb_0 sb_1 s28 ++ (wV cI cJ v_0 v_1 v_2 v_3 v_4 v_5 v_6 v_7 v_8 v_9 v_10 v_11 v_12 v_13 v_14 v_15 v_16 v_17 v_18 v_19 v0))) (S := [wSD d_0 sb_0 (SD_setsince (SD_setsn (SD_setcl (SD_setwr d0 0) 0) 0) 0), wSB cB sb_0 sb_1 s23, wV0 cI cJ v_0 v_1 v_2 v_3 v_4 v_5 v0, wB cI cJ v_5 v_6 v_7 v_8 v_9 v_10 v_11 v_12 v_13 v_14 v_15 v_16 v_17 v_18 v_19 (VS_b v0)]) (S0 := [wSD d_0 sb_0 (SD_setsince (SD_setsn (SD_setcl (SD_setwr d0 0) 0) 0) 0), wSB cB sb_0 sb_1 s23, wB cI cJ v_5 v_6 v_7 v_8 v_9 v_10 v_11 v_12 v_13 v_14 v_15 v_16 v_17 v_18 v_19 (VS_b v0)]) (S1 := [wSD d_0 sb_0 s27, wSB cB sb_0 sb_1 s28, wB cI cJ v_5 v_6 v_7 v_8 v_9 v_10 v_11 v_12 v_13 v_14 v_15 v_16 v_17 v_18 v_19 (VS_b v0)]) (S' := [wSD d_0 sb_0 s27, wSB cB sb_0 sb_1 s28, wV0 cI cJ v_0 v_1 v_2 v_3 v_4 v_5 v0, wB cI cJ v_5 v_6 v_7 v_8 v_9 v_10 v_11 v_12 v_13 v_14 v_15 v_16 v_17 v_18 v_19 (VS_b v0)]) C (c_X4_goOver l D cB cI cJ cZ d_0 sb_0 sb_1 v_5 v_6 v_7 v_8 v_9 v_10 v_11 v_12 v_13 v_14 v_15 v_16 v_17 v_18 v_19 y29) (gIS ml_X4_52 st_X4_goOver in_X4 cd_X4_goOver) eX4_goOver rfl ⟨rfl, rfl⟩ ⟨Nat.le_of_ble_eq_true rfl, Nat.le_of_ble_eq_true rfl⟩ rfl rfl rfl [0, 1, 3] rfl rfl rfl rfl (gA_cons aSD (gA_cons aSB (gA_cons rfl gA_nil))) rfl rfl (Nat.le_of_ble_eq_true rfl) (tdec DX4_fillStream 45 rfl) rfl ?_
    refine g_aload_n (z := 0) C (tdec DX4_fillStream 46 rfl) rfl rfl rfl ?_
    refine g_getf (C' := RX4) (T := TX4) (N := 5) (v := .ref sb_0) C 0 0 (gIn iw_X4) rfl rfl (by decide) (gMem fl_X4_9) rfl rfl (tdec DX4_fillStream 47 rfl) rfl ?_
    refine g_iconst (v := 1) C (tdec DX4_fillStream 48 rfl) (by decide) rfl ?_
    refine g_aload_n (z := 0) C (tdec DX4_fillStream 49 rfl) rfl rfl rfl ?_
    refine g_getf (C' := RX4) (T := TX4) (N := 5) (v := .int (SD_wr s27)) C 0 2 (gIn iw_X4) rfl rfl (by decide) (gMem fl_X4_15) rfl rfl (tdec DX4_fillStream 50 rfl) rfl ?_
    refine g_iadd C (tdec DX4_fillStream 51 rfl) rfl ?_
    refine g_aload_n (z := 0) C (tdec DX4_fillStream 52 rfl) rfl rfl rfl ?_
    refine g_getf (C' := RX4) (T := TX4) (N := 5) (v := .int (SD_cl s27)) C 0 3 (gIn iw_X4) rfl rfl (by decide) (gMem fl_X4_19) rfl rfl (tdec DX4_fillStream 53 rfl) rfl ?_
    refine g_iadd C (tdec DX4_fillStream 54 rfl) rfl ?_
    obtain ⟨s30, y31, hF⟩ := o_bind hF
    refine g_callVvMS (q0 := 1) (W' := wSD d_0 sb_0 s27 ++ (wSB cB sb_0 sb_1 s30 ++ (wV cI cJ v_0 v_1 v_2 v_3 v_4 v_5 v_6 v_7 v_8 v_9 v_10 v_11 v_12 v_13 v_14 v_15 v_16 v_17 v_18 v_19 v0))) (S := [wSD d_0 sb_0 s27, wSB cB sb_0 sb_1 s28, wV cI cJ v_0 v_1 v_2 v_3 v_4 v_5 v_6 v_7 v_8 v_9 v_10 v_11 v_12 v_13 v_14 v_15 v_16 v_17 v_18 v_19 v0]) (S0 := [wSB cB sb_0 sb_1 s28]) (S1 := [wSB cB sb_0 sb_1 s30]) (S' := [wSD d_0 sb_0 s27, wSB cB sb_0 sb_1 s30, wV cI cJ v_0 v_1 v_2 v_3 v_4 v_5 v_6 v_7 v_8 v_9 v_10 v_11 v_12 v_13 v_14 v_15 v_16 v_17 v_18 v_19 v0]) C (c_X5_addEnd l D cB cI cJ cZ sb_0 sb_1 y31) rfl rfl (gIV ml_X4_56 im_X5_addEnd sl_X5_addEnd in_X5 cd_X5_addEnd) rfl eX5_addEnd rfl ⟨rfl, rfl⟩ ⟨Nat.le_of_ble_eq_true rfl, Nat.le_of_ble_eq_true rfl⟩ rfl rfl rfl [1] rfl rfl rfl rfl (gA_cons aSB gA_nil) rfl rfl (Nat.le_of_ble_eq_true rfl) (tdec DX4_fillStream 55 rfl) rfl ?_
    have hr9 := o_some hF
    subst hr9
    exact g_vret C rfl (tdec DX4_fillStream 56 rfl)
