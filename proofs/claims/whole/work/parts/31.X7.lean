/-! PART 31.X7: walks, printed by wip/whole/walk.py -/
def FX7_step (nm0 : Int64) (sb0 : SB) (d0 : SD) (ve0 : VS) (vo0 : VS) (re0 : RC) (ro0 : RC) (p1 : Int32) (p2 : Int32) : Option (Except String (Int32 × (VS × VS × RC × RC))) :=
  (FX7_find nm0 p1).bind fun q2 =>
  (match q2 with
  | none =>
    some (.error xIA)
  | some 0 =>
    if 1 ≤ p2 then
      (FX6_isBusy ve0).bind fun r4 =>
      if r4 = 0 then
        some (.error xIS)
      else
        (FX7_receivingOf nm0 p1).bind fun q8 =>
        (match q8 with
        | none => none
        | some 0 =>
          (FX3_takeRecords re0 ve0 sb0 p2).bind fun (r9, s10, s11) =>
          some (.ok (r9, (s11, vo0, s10, ro0)))
        | some (_ + 1) =>
          (FX3_takeRecords ro0 vo0 sb0 p2).bind fun (r13, s14, s15) =>
          some (.ok (r13, (ve0, s15, re0, s14))))
    else
      some (.error xIA)
  | some (_ + 1) =>
    if 1 ≤ p2 then
      (FX6_isBusy vo0).bind fun r19 =>
      if r19 = 0 then
        some (.error xIS)
      else
        (FX7_receivingOf nm0 p1).bind fun q23 =>
        (match q23 with
        | none => none
        | some 0 =>
          (FX3_takeRecords re0 ve0 sb0 p2).bind fun (r24, s25, s26) =>
          some (.ok (r24, (s26, vo0, s25, ro0)))
        | some (_ + 1) =>
          (FX3_takeRecords ro0 vo0 sb0 p2).bind fun (r28, s29, s30) =>
          some (.ok (r28, (ve0, s30, re0, s29))))
    else
      some (.error xIA))
def rX7_step : Room := { frames := 7, cells := 1, slots := 6, locals := 165 }
set_option maxHeartbeats 4000000 in
set_option maxRecDepth 100000 in
theorem c_X7_step (l : Launch) (hfl : l.stackTraces = false) (D : va_G) (cB cI cJ cZ : ClassId) (nm_0 sb_0 sb_1 d_0 ve_0 ve_1 ve_2 ve_3 ve_4 ve_5 ve_6 ve_7 ve_8 ve_9 ve_10 ve_11 ve_12 ve_13 ve_14 ve_15 ve_16 ve_17 ve_18 ve_19 vo_0 vo_1 vo_2 vo_3 vo_4 vo_5 vo_6 vo_7 vo_8 vo_9 vo_10 vo_11 vo_12 vo_13 vo_14 vo_15 vo_16 vo_17 vo_18 vo_19 re_0 ro_0 : Nat) {nm0 : Int64} {sb0 : SB} {d0 : SD} {ve0 : VS} {vo0 : VS} {re0 : RC} {ro0 : RC} {p1 : Int32} {p2 : Int32} {res : Except String (Int32 × (VS × VS × RC × RC))} (hF : FX7_step nm0 sb0 d0 ve0 vo0 re0 ro0 p1 p2 = some res) : gXi l yX7_step wsX7_step rX7_step D (gT cB cI cJ cZ) [.ref nm_0, .int p1, .int p2] (wTV nm_0 sb_0 d_0 ve_0 vo_0 re_0 ro_0 nm0 ++ (wSB cB sb_0 sb_1 sb0 ++ (wSD d_0 sb_0 d0 ++ (wV cI cJ ve_0 ve_1 ve_2 ve_3 ve_4 ve_5 ve_6 ve_7 ve_8 ve_9 ve_10 ve_11 ve_12 ve_13 ve_14 ve_15 ve_16 ve_17 ve_18 ve_19 ve0 ++ (wV cI cJ vo_0 vo_1 vo_2 vo_3 vo_4 vo_5 vo_6 vo_7 vo_8 vo_9 vo_10 vo_11 vo_12 vo_13 vo_14 vo_15 vo_16 vo_17 vo_18 vo_19 vo0 ++ (wRC re_0 ve_0 sb_0 re0 ++ (wRC ro_0 vo_0 sb_0 ro0))))))) res (fun u : (VS × VS × RC × RC) => wTV nm_0 sb_0 d_0 ve_0 vo_0 re_0 ro_0 nm0 ++ (wSB cB sb_0 sb_1 sb0 ++ (wSD d_0 sb_0 d0 ++ (wV cI cJ ve_0 ve_1 ve_2 ve_3 ve_4 ve_5 ve_6 ve_7 ve_8 ve_9 ve_10 ve_11 ve_12 ve_13 ve_14 ve_15 ve_16 ve_17 ve_18 ve_19 u.1 ++ (wV cI cJ vo_0 vo_1 vo_2 vo_3 vo_4 vo_5 vo_6 vo_7 vo_8 vo_9 vo_10 vo_11 vo_12 vo_13 vo_14 vo_15 vo_16 vo_17 vo_18 vo_19 u.2.1 ++ (wRC re_0 ve_0 sb_0 u.2.2.1 ++ (wRC ro_0 vo_0 sb_0 u.2.2.2))))))) := by
  refine g_enterX (own := RX7) (Qc := (fun sz => gXQi D (wTV nm_0 sb_0 d_0 ve_0 vo_0 re_0 ro_0 nm0 ++ (wSB cB sb_0 sb_1 sb0 ++ (wSD d_0 sb_0 d0 ++ (wV cI cJ ve_0 ve_1 ve_2 ve_3 ve_4 ve_5 ve_6 ve_7 ve_8 ve_9 ve_10 ve_11 ve_12 ve_13 ve_14 ve_15 ve_16 ve_17 ve_18 ve_19 ve0 ++ (wV cI cJ vo_0 vo_1 vo_2 vo_3 vo_4 vo_5 vo_6 vo_7 vo_8 vo_9 vo_10 vo_11 vo_12 vo_13 vo_14 vo_15 vo_16 vo_17 vo_18 vo_19 vo0 ++ (wRC re_0 ve_0 sb_0 re0 ++ (wRC ro_0 vo_0 sb_0 ro0))))))) sz (fun r (u : (VS × VS × RC × RC)) => res = .ok (r, u)) (fun u : (VS × VS × RC × RC) => wTV nm_0 sb_0 d_0 ve_0 vo_0 re_0 ro_0 nm0 ++ (wSB cB sb_0 sb_1 sb0 ++ (wSD d_0 sb_0 d0 ++ (wV cI cJ ve_0 ve_1 ve_2 ve_3 ve_4 ve_5 ve_6 ve_7 ve_8 ve_9 ve_10 ve_11 ve_12 ve_13 ve_14 ve_15 ve_16 ve_17 ve_18 ve_19 u.1 ++ (wV cI cJ vo_0 vo_1 vo_2 vo_3 vo_4 vo_5 vo_6 vo_7 vo_8 vo_9 vo_10 vo_11 vo_12 vo_13 vo_14 vo_15 vo_16 vo_17 vo_18 vo_19 u.2.1 ++ (wRC re_0 ve_0 sb_0 u.2.2.1 ++ (wRC ro_0 vo_0 sb_0 u.2.2.2))))))))) (XC := (fun sz => gXC D (wTV nm_0 sb_0 d_0 ve_0 vo_0 re_0 ro_0 nm0 ++ (wSB cB sb_0 sb_1 sb0 ++ (wSD d_0 sb_0 d0 ++ (wV cI cJ ve_0 ve_1 ve_2 ve_3 ve_4 ve_5 ve_6 ve_7 ve_8 ve_9 ve_10 ve_11 ve_12 ve_13 ve_14 ve_15 ve_16 ve_17 ve_18 ve_19 ve0 ++ (wV cI cJ vo_0 vo_1 vo_2 vo_3 vo_4 vo_5 vo_6 vo_7 vo_8 vo_9 vo_10 vo_11 vo_12 vo_13 vo_14 vo_15 vo_16 vo_17 vo_18 vo_19 vo0 ++ (wRC re_0 ve_0 sb_0 re0 ++ (wRC ro_0 vo_0 sb_0 ro0))))))) sz (fun E => res = .error E))) rfl (by decide) rfl (Nat.le_of_ble_eq_true rfl) rfl ?_
  intro p e s m args below meth c C htab hX hZ
  unfold FX7_step at hF
  refine g_aload_n (z := 0) C (tdec DX7_step 0 rfl) rfl rfl rfl ?_
  refine g_iload_n (z := 1) C (tdec DX7_step 1 rfl) rfl rfl rfl ?_
  obtain ⟨q2, y1, hF⟩ := o_bind hF
  refine g_callVqRS (q0 := 0) (S := [wTV nm_0 sb_0 d_0 ve_0 vo_0 re_0 ro_0 nm0, wSB cB sb_0 sb_1 sb0, wSD d_0 sb_0 d0, wV cI cJ ve_0 ve_1 ve_2 ve_3 ve_4 ve_5 ve_6 ve_7 ve_8 ve_9 ve_10 ve_11 ve_12 ve_13 ve_14 ve_15 ve_16 ve_17 ve_18 ve_19 ve0, wV cI cJ vo_0 vo_1 vo_2 vo_3 vo_4 vo_5 vo_6 vo_7 vo_8 vo_9 vo_10 vo_11 vo_12 vo_13 vo_14 vo_15 vo_16 vo_17 vo_18 vo_19 vo0, wRC re_0 ve_0 sb_0 re0, wRC ro_0 vo_0 sb_0 ro0]) (S0 := [wTV nm_0 sb_0 d_0 ve_0 vo_0 re_0 ro_0 nm0]) C (c_X7_find l D cB cI cJ cZ nm_0 sb_0 d_0 ve_0 vo_0 re_0 ro_0 y1) rfl rfl (gIV ml_X7_51 im_X7_find sl_X7_find in_X7 cd_X7_find) rfl eX7_find rfl ⟨rfl, rfl⟩ ⟨Nat.le_of_ble_eq_true rfl, Nat.le_of_ble_eq_true rfl⟩ rfl rfl rfl [0] rfl rfl rfl (Nat.le_of_ble_eq_true rfl) (tdec DX7_step 2 rfl) rfl ?_
  cases q2 with
  | none =>
    refine g_st (st' := [.null]) rfl ?_
    refine g_astoreN_n (L' := [(3, .null), (0, .ref nm_0), (1, .int p1), (2, .int p2)]) C (tdec DX7_step 3 rfl) rfl (by decide) rfl rfl ?_
    refine g_aloadN_n (z := 0) C (tdec DX7_step 4 rfl) rfl rfl rfl ?_
    refine g_ifnullN (pt := 15) C (tdec DX7_step 5 rfl) (by decide) ?_
    have hr9 := o_some hF
    subst hr9
    exact g_throw (cls := xIA) C htab hX hZ hfl (by decide) (by decide) (gMem xl_X7_55) (gMem xn_xIA) (gIn xg_X7_57) xb_X7_57 xo_X7_57 rfl rfl (tdec DX7_step 9 rfl) (tdec DX7_step 10 rfl) (tdec DX7_step 11 rfl) (tdec DX7_step 12 rfl) rfl rfl rfl (by decide) (by decide) (by decide) (by decide)
  | some k33 =>
    cases k33 with
    | zero =>
      refine g_st (st' := [.ref ve_0]) rfl ?_
      refine g_astore_n (L' := [(3, .ref ve_0), (0, .ref nm_0), (1, .int p1), (2, .int p2)]) C (tdec DX7_step 3 rfl) rfl (by decide) rfl rfl ?_
      refine g_aload_n (z := 0) C (tdec DX7_step 4 rfl) rfl rfl rfl ?_
      refine g_ifnullR C (tdec DX7_step 5 rfl) rfl ?_
      refine g_iload_n (z := 3) C (tdec DX7_step 6 rfl) rfl rfl rfl ?_
      refine g_iconst (v := 1) C (tdec DX7_step 7 rfl) (by decide) rfl ?_
      refine g_icmp_ge (pt := 23) C (tdec DX7_step 8 rfl) (by decide) rfl (fun h3 => ?_) (fun h3 => ?_)
      · have hF := o_ifp hF h3
        refine g_aload_n (z := 0) C (tdec DX7_step 13 rfl) rfl rfl rfl ?_
        obtain ⟨r4, y5, hF⟩ := o_bind hF
        refine g_callViRS (q0 := 4) (S := [wTV nm_0 sb_0 d_0 ve_0 vo_0 re_0 ro_0 nm0, wSB cB sb_0 sb_1 sb0, wSD d_0 sb_0 d0, wV cI cJ ve_0 ve_1 ve_2 ve_3 ve_4 ve_5 ve_6 ve_7 ve_8 ve_9 ve_10 ve_11 ve_12 ve_13 ve_14 ve_15 ve_16 ve_17 ve_18 ve_19 ve0, wV cI cJ vo_0 vo_1 vo_2 vo_3 vo_4 vo_5 vo_6 vo_7 vo_8 vo_9 vo_10 vo_11 vo_12 vo_13 vo_14 vo_15 vo_16 vo_17 vo_18 vo_19 vo0, wRC re_0 ve_0 sb_0 re0, wRC ro_0 vo_0 sb_0 ro0]) (S0 := [wV cI cJ ve_0 ve_1 ve_2 ve_3 ve_4 ve_5 ve_6 ve_7 ve_8 ve_9 ve_10 ve_11 ve_12 ve_13 ve_14 ve_15 ve_16 ve_17 ve_18 ve_19 ve0]) C (c_X6_isBusy l D cB cI cJ cZ ve_0 ve_1 ve_2 ve_3 ve_4 ve_5 ve_6 ve_7 ve_8 ve_9 ve_10 ve_11 ve_12 ve_13 ve_14 ve_15 ve_16 ve_17 ve_18 ve_19 y5) rfl rfl (gIV ml_X7_73 im_X6_isBusy sl_X6_isBusy in_X6 cd_X6_isBusy) rfl eX6_isBusy rfl ⟨rfl, rfl⟩ ⟨Nat.le_of_ble_eq_true rfl, Nat.le_of_ble_eq_true rfl⟩ rfl rfl rfl [3] rfl rfl rfl (Nat.le_of_ble_eq_true rfl) (tdec DX7_step 14 rfl) rfl ?_
        refine g_if_ne (pt := 38) C (tdec DX7_step 15 rfl) (by decide) rfl (fun h6 => ?_) (fun h6 => ?_)
        · have hF := o_ifn hF h6
          refine g_aload_n (z := 1) C (tdec DX7_step 20 rfl) rfl rfl rfl ?_
          refine g_iload_n (z := 2) C (tdec DX7_step 21 rfl) rfl rfl rfl ?_
          obtain ⟨q8, y7, hF⟩ := o_bind hF
          refine g_callVqRS (q0 := 0) (S := [wTV nm_0 sb_0 d_0 ve_0 vo_0 re_0 ro_0 nm0, wSB cB sb_0 sb_1 sb0, wSD d_0 sb_0 d0, wV cI cJ ve_0 ve_1 ve_2 ve_3 ve_4 ve_5 ve_6 ve_7 ve_8 ve_9 ve_10 ve_11 ve_12 ve_13 ve_14 ve_15 ve_16 ve_17 ve_18 ve_19 ve0, wV cI cJ vo_0 vo_1 vo_2 vo_3 vo_4 vo_5 vo_6 vo_7 vo_8 vo_9 vo_10 vo_11 vo_12 vo_13 vo_14 vo_15 vo_16 vo_17 vo_18 vo_19 vo0, wRC re_0 ve_0 sb_0 re0, wRC ro_0 vo_0 sb_0 ro0]) (S0 := [wTV nm_0 sb_0 d_0 ve_0 vo_0 re_0 ro_0 nm0]) C (c_X7_receivingOf l D cB cI cJ cZ nm_0 sb_0 d_0 ve_0 vo_0 re_0 ro_0 y7) rfl rfl (gIV ml_X7_62 im_X7_receivingOf sl_X7_receivingOf in_X7 cd_X7_receivingOf) rfl eX7_receivingOf rfl ⟨rfl, rfl⟩ ⟨Nat.le_of_ble_eq_true rfl, Nat.le_of_ble_eq_true rfl⟩ rfl rfl rfl [0] rfl rfl rfl (Nat.le_of_ble_eq_true rfl) (tdec DX7_step 22 rfl) rfl ?_
          cases q8 with
          | none => exact absurd hF (by simp)
          | some k17 =>
            cases k17 with
            | zero =>
              refine g_st (st' := [.ref re_0]) rfl ?_
              refine g_iload_n (z := 3) C (tdec DX7_step 23 rfl) rfl rfl rfl ?_
              obtain ⟨⟨r9, s10, s11⟩, y12, hF⟩ := o_bind hF
              refine g_callViMS (q0 := 44) (W' := wTV nm_0 sb_0 d_0 ve_0 vo_0 re_0 ro_0 nm0 ++ (wSB cB sb_0 sb_1 sb0 ++ (wSD d_0 sb_0 d0 ++ (wV cI cJ ve_0 ve_1 ve_2 ve_3 ve_4 ve_5 ve_6 ve_7 ve_8 ve_9 ve_10 ve_11 ve_12 ve_13 ve_14 ve_15 ve_16 ve_17 ve_18 ve_19 s11 ++ (wV cI cJ vo_0 vo_1 vo_2 vo_3 vo_4 vo_5 vo_6 vo_7 vo_8 vo_9 vo_10 vo_11 vo_12 vo_13 vo_14 vo_15 vo_16 vo_17 vo_18 vo_19 vo0 ++ (wRC re_0 ve_0 sb_0 s10 ++ (wRC ro_0 vo_0 sb_0 ro0))))))) (S := [wTV nm_0 sb_0 d_0 ve_0 vo_0 re_0 ro_0 nm0, wSB cB sb_0 sb_1 sb0, wSD d_0 sb_0 d0, wV cI cJ ve_0 ve_1 ve_2 ve_3 ve_4 ve_5 ve_6 ve_7 ve_8 ve_9 ve_10 ve_11 ve_12 ve_13 ve_14 ve_15 ve_16 ve_17 ve_18 ve_19 ve0, wV cI cJ vo_0 vo_1 vo_2 vo_3 vo_4 vo_5 vo_6 vo_7 vo_8 vo_9 vo_10 vo_11 vo_12 vo_13 vo_14 vo_15 vo_16 vo_17 vo_18 vo_19 vo0, wRC re_0 ve_0 sb_0 re0, wRC ro_0 vo_0 sb_0 ro0]) (S0 := [wRC re_0 ve_0 sb_0 re0, wV cI cJ ve_0 ve_1 ve_2 ve_3 ve_4 ve_5 ve_6 ve_7 ve_8 ve_9 ve_10 ve_11 ve_12 ve_13 ve_14 ve_15 ve_16 ve_17 ve_18 ve_19 ve0, wSB cB sb_0 sb_1 sb0]) (S1 := [wRC re_0 ve_0 sb_0 s10, wV cI cJ ve_0 ve_1 ve_2 ve_3 ve_4 ve_5 ve_6 ve_7 ve_8 ve_9 ve_10 ve_11 ve_12 ve_13 ve_14 ve_15 ve_16 ve_17 ve_18 ve_19 s11, wSB cB sb_0 sb_1 sb0]) (S' := [wTV nm_0 sb_0 d_0 ve_0 vo_0 re_0 ro_0 nm0, wSB cB sb_0 sb_1 sb0, wSD d_0 sb_0 d0, wV cI cJ ve_0 ve_1 ve_2 ve_3 ve_4 ve_5 ve_6 ve_7 ve_8 ve_9 ve_10 ve_11 ve_12 ve_13 ve_14 ve_15 ve_16 ve_17 ve_18 ve_19 s11, wV cI cJ vo_0 vo_1 vo_2 vo_3 vo_4 vo_5 vo_6 vo_7 vo_8 vo_9 vo_10 vo_11 vo_12 vo_13 vo_14 vo_15 vo_16 vo_17 vo_18 vo_19 vo0, wRC re_0 ve_0 sb_0 s10, wRC ro_0 vo_0 sb_0 ro0]) C (c_X3_takeRecords l D cB cI cJ cZ re_0 ve_0 ve_1 ve_2 ve_3 ve_4 ve_5 ve_6 ve_7 ve_8 ve_9 ve_10 ve_11 ve_12 ve_13 ve_14 ve_15 ve_16 ve_17 ve_18 ve_19 sb_0 sb_1 y12) rfl rfl (gIV ml_X7_129 im_X3_takeRecords sl_X3_takeRecords in_X3 cd_X3_takeRecords) rfl eX3_takeRecords rfl ⟨rfl, rfl⟩ ⟨Nat.le_of_ble_eq_true rfl, Nat.le_of_ble_eq_true rfl⟩ rfl rfl rfl [5, 3, 1] rfl rfl rfl rfl (gA_cons aRC (gA_cons aV (gA_cons rfl gA_nil))) rfl rfl (Nat.le_of_ble_eq_true rfl) (tdec DX7_step 24 rfl) rfl ?_
              have hr9 := o_some hF
              subst hr9
              exact g_iretX (s11, vo0, s10, ro0) C rfl rfl (tdec DX7_step 25 rfl)
            | succ k17 =>
              refine g_st (st' := [.ref ro_0]) rfl ?_
              refine g_iload_n (z := 3) C (tdec DX7_step 23 rfl) rfl rfl rfl ?_
              obtain ⟨⟨r13, s14, s15⟩, y16, hF⟩ := o_bind hF
              refine g_callViMS (q0 := 45) (W' := wTV nm_0 sb_0 d_0 ve_0 vo_0 re_0 ro_0 nm0 ++ (wSB cB sb_0 sb_1 sb0 ++ (wSD d_0 sb_0 d0 ++ (wV cI cJ ve_0 ve_1 ve_2 ve_3 ve_4 ve_5 ve_6 ve_7 ve_8 ve_9 ve_10 ve_11 ve_12 ve_13 ve_14 ve_15 ve_16 ve_17 ve_18 ve_19 ve0 ++ (wV cI cJ vo_0 vo_1 vo_2 vo_3 vo_4 vo_5 vo_6 vo_7 vo_8 vo_9 vo_10 vo_11 vo_12 vo_13 vo_14 vo_15 vo_16 vo_17 vo_18 vo_19 s15 ++ (wRC re_0 ve_0 sb_0 re0 ++ (wRC ro_0 vo_0 sb_0 s14))))))) (S := [wTV nm_0 sb_0 d_0 ve_0 vo_0 re_0 ro_0 nm0, wSB cB sb_0 sb_1 sb0, wSD d_0 sb_0 d0, wV cI cJ ve_0 ve_1 ve_2 ve_3 ve_4 ve_5 ve_6 ve_7 ve_8 ve_9 ve_10 ve_11 ve_12 ve_13 ve_14 ve_15 ve_16 ve_17 ve_18 ve_19 ve0, wV cI cJ vo_0 vo_1 vo_2 vo_3 vo_4 vo_5 vo_6 vo_7 vo_8 vo_9 vo_10 vo_11 vo_12 vo_13 vo_14 vo_15 vo_16 vo_17 vo_18 vo_19 vo0, wRC re_0 ve_0 sb_0 re0, wRC ro_0 vo_0 sb_0 ro0]) (S0 := [wRC ro_0 vo_0 sb_0 ro0, wV cI cJ vo_0 vo_1 vo_2 vo_3 vo_4 vo_5 vo_6 vo_7 vo_8 vo_9 vo_10 vo_11 vo_12 vo_13 vo_14 vo_15 vo_16 vo_17 vo_18 vo_19 vo0, wSB cB sb_0 sb_1 sb0]) (S1 := [wRC ro_0 vo_0 sb_0 s14, wV cI cJ vo_0 vo_1 vo_2 vo_3 vo_4 vo_5 vo_6 vo_7 vo_8 vo_9 vo_10 vo_11 vo_12 vo_13 vo_14 vo_15 vo_16 vo_17 vo_18 vo_19 s15, wSB cB sb_0 sb_1 sb0]) (S' := [wTV nm_0 sb_0 d_0 ve_0 vo_0 re_0 ro_0 nm0, wSB cB sb_0 sb_1 sb0, wSD d_0 sb_0 d0, wV cI cJ ve_0 ve_1 ve_2 ve_3 ve_4 ve_5 ve_6 ve_7 ve_8 ve_9 ve_10 ve_11 ve_12 ve_13 ve_14 ve_15 ve_16 ve_17 ve_18 ve_19 ve0, wV cI cJ vo_0 vo_1 vo_2 vo_3 vo_4 vo_5 vo_6 vo_7 vo_8 vo_9 vo_10 vo_11 vo_12 vo_13 vo_14 vo_15 vo_16 vo_17 vo_18 vo_19 s15, wRC re_0 ve_0 sb_0 re0, wRC ro_0 vo_0 sb_0 s14]) C (c_X3_takeRecords l D cB cI cJ cZ ro_0 vo_0 vo_1 vo_2 vo_3 vo_4 vo_5 vo_6 vo_7 vo_8 vo_9 vo_10 vo_11 vo_12 vo_13 vo_14 vo_15 vo_16 vo_17 vo_18 vo_19 sb_0 sb_1 y16) rfl rfl (gIV ml_X7_129 im_X3_takeRecords sl_X3_takeRecords in_X3 cd_X3_takeRecords) rfl eX3_takeRecords rfl ⟨rfl, rfl⟩ ⟨Nat.le_of_ble_eq_true rfl, Nat.le_of_ble_eq_true rfl⟩ rfl rfl rfl [6, 4, 1] rfl rfl rfl rfl (gA_cons aRC (gA_cons aV (gA_cons rfl gA_nil))) rfl rfl (Nat.le_of_ble_eq_true rfl) (tdec DX7_step 24 rfl) rfl ?_
              have hr9 := o_some hF
              subst hr9
              exact g_iretX (ve0, s15, re0, s14) C rfl rfl (tdec DX7_step 25 rfl)
        · have hF := o_ifp hF h6
          have hr9 := o_some hF
          subst hr9
          exact g_throw (cls := xIS) C htab hX hZ hfl (by decide) (by decide) (gMem xl_X7_98) (gMem xn_xIS) (gIn xg_X7_100) xb_X7_100 xo_X7_100 rfl rfl (tdec DX7_step 16 rfl) (tdec DX7_step 17 rfl) (tdec DX7_step 18 rfl) (tdec DX7_step 19 rfl) rfl rfl rfl (by decide) (by decide) (by decide) (by decide)
      · have hF := o_ifn hF h3
        have hr9 := o_some hF
        subst hr9
        exact g_throw (cls := xIA) C htab hX hZ hfl (by decide) (by decide) (gMem xl_X7_55) (gMem xn_xIA) (gIn xg_X7_57) xb_X7_57 xo_X7_57 rfl rfl (tdec DX7_step 9 rfl) (tdec DX7_step 10 rfl) (tdec DX7_step 11 rfl) (tdec DX7_step 12 rfl) rfl rfl rfl (by decide) (by decide) (by decide) (by decide)
    | succ k33 =>
      refine g_st (st' := [.ref vo_0]) rfl ?_
      refine g_astore_n (L' := [(3, .ref vo_0), (0, .ref nm_0), (1, .int p1), (2, .int p2)]) C (tdec DX7_step 3 rfl) rfl (by decide) rfl rfl ?_
      refine g_aload_n (z := 0) C (tdec DX7_step 4 rfl) rfl rfl rfl ?_
      refine g_ifnullR C (tdec DX7_step 5 rfl) rfl ?_
      refine g_iload_n (z := 3) C (tdec DX7_step 6 rfl) rfl rfl rfl ?_
      refine g_iconst (v := 1) C (tdec DX7_step 7 rfl) (by decide) rfl ?_
      refine g_icmp_ge (pt := 23) C (tdec DX7_step 8 rfl) (by decide) rfl (fun h18 => ?_) (fun h18 => ?_)
      · have hF := o_ifp hF h18
        refine g_aload_n (z := 0) C (tdec DX7_step 13 rfl) rfl rfl rfl ?_
        obtain ⟨r19, y20, hF⟩ := o_bind hF
        refine g_callViRS (q0 := 24) (S := [wTV nm_0 sb_0 d_0 ve_0 vo_0 re_0 ro_0 nm0, wSB cB sb_0 sb_1 sb0, wSD d_0 sb_0 d0, wV cI cJ ve_0 ve_1 ve_2 ve_3 ve_4 ve_5 ve_6 ve_7 ve_8 ve_9 ve_10 ve_11 ve_12 ve_13 ve_14 ve_15 ve_16 ve_17 ve_18 ve_19 ve0, wV cI cJ vo_0 vo_1 vo_2 vo_3 vo_4 vo_5 vo_6 vo_7 vo_8 vo_9 vo_10 vo_11 vo_12 vo_13 vo_14 vo_15 vo_16 vo_17 vo_18 vo_19 vo0, wRC re_0 ve_0 sb_0 re0, wRC ro_0 vo_0 sb_0 ro0]) (S0 := [wV cI cJ vo_0 vo_1 vo_2 vo_3 vo_4 vo_5 vo_6 vo_7 vo_8 vo_9 vo_10 vo_11 vo_12 vo_13 vo_14 vo_15 vo_16 vo_17 vo_18 vo_19 vo0]) C (c_X6_isBusy l D cB cI cJ cZ vo_0 vo_1 vo_2 vo_3 vo_4 vo_5 vo_6 vo_7 vo_8 vo_9 vo_10 vo_11 vo_12 vo_13 vo_14 vo_15 vo_16 vo_17 vo_18 vo_19 y20) rfl rfl (gIV ml_X7_73 im_X6_isBusy sl_X6_isBusy in_X6 cd_X6_isBusy) rfl eX6_isBusy rfl ⟨rfl, rfl⟩ ⟨Nat.le_of_ble_eq_true rfl, Nat.le_of_ble_eq_true rfl⟩ rfl rfl rfl [4] rfl rfl rfl (Nat.le_of_ble_eq_true rfl) (tdec DX7_step 14 rfl) rfl ?_
        refine g_if_ne (pt := 38) C (tdec DX7_step 15 rfl) (by decide) rfl (fun h21 => ?_) (fun h21 => ?_)
        · have hF := o_ifn hF h21
          refine g_aload_n (z := 1) C (tdec DX7_step 20 rfl) rfl rfl rfl ?_
          refine g_iload_n (z := 2) C (tdec DX7_step 21 rfl) rfl rfl rfl ?_
          obtain ⟨q23, y22, hF⟩ := o_bind hF
          refine g_callVqRS (q0 := 0) (S := [wTV nm_0 sb_0 d_0 ve_0 vo_0 re_0 ro_0 nm0, wSB cB sb_0 sb_1 sb0, wSD d_0 sb_0 d0, wV cI cJ ve_0 ve_1 ve_2 ve_3 ve_4 ve_5 ve_6 ve_7 ve_8 ve_9 ve_10 ve_11 ve_12 ve_13 ve_14 ve_15 ve_16 ve_17 ve_18 ve_19 ve0, wV cI cJ vo_0 vo_1 vo_2 vo_3 vo_4 vo_5 vo_6 vo_7 vo_8 vo_9 vo_10 vo_11 vo_12 vo_13 vo_14 vo_15 vo_16 vo_17 vo_18 vo_19 vo0, wRC re_0 ve_0 sb_0 re0, wRC ro_0 vo_0 sb_0 ro0]) (S0 := [wTV nm_0 sb_0 d_0 ve_0 vo_0 re_0 ro_0 nm0]) C (c_X7_receivingOf l D cB cI cJ cZ nm_0 sb_0 d_0 ve_0 vo_0 re_0 ro_0 y22) rfl rfl (gIV ml_X7_62 im_X7_receivingOf sl_X7_receivingOf in_X7 cd_X7_receivingOf) rfl eX7_receivingOf rfl ⟨rfl, rfl⟩ ⟨Nat.le_of_ble_eq_true rfl, Nat.le_of_ble_eq_true rfl⟩ rfl rfl rfl [0] rfl rfl rfl (Nat.le_of_ble_eq_true rfl) (tdec DX7_step 22 rfl) rfl ?_
          cases q23 with
          | none => exact absurd hF (by simp)
          | some k32 =>
            cases k32 with
            | zero =>
              refine g_st (st' := [.ref re_0]) rfl ?_
              refine g_iload_n (z := 3) C (tdec DX7_step 23 rfl) rfl rfl rfl ?_
              obtain ⟨⟨r24, s25, s26⟩, y27, hF⟩ := o_bind hF
              refine g_callViMS (q0 := 44) (W' := wTV nm_0 sb_0 d_0 ve_0 vo_0 re_0 ro_0 nm0 ++ (wSB cB sb_0 sb_1 sb0 ++ (wSD d_0 sb_0 d0 ++ (wV cI cJ ve_0 ve_1 ve_2 ve_3 ve_4 ve_5 ve_6 ve_7 ve_8 ve_9 ve_10 ve_11 ve_12 ve_13 ve_14 ve_15 ve_16 ve_17 ve_18 ve_19 s26 ++ (wV cI cJ vo_0 vo_1 vo_2 vo_3 vo_4 vo_5 vo_6 vo_7 vo_8 vo_9 vo_10 vo_11 vo_12 vo_13 vo_14 vo_15 vo_16 vo_17 vo_18 vo_19 vo0 ++ (wRC re_0 ve_0 sb_0 s25 ++ (wRC ro_0 vo_0 sb_0 ro0))))))) (S := [wTV nm_0 sb_0 d_0 ve_0 vo_0 re_0 ro_0 nm0, wSB cB sb_0 sb_1 sb0, wSD d_0 sb_0 d0, wV cI cJ ve_0 ve_1 ve_2 ve_3 ve_4 ve_5 ve_6 ve_7 ve_8 ve_9 ve_10 ve_11 ve_12 ve_13 ve_14 ve_15 ve_16 ve_17 ve_18 ve_19 ve0, wV cI cJ vo_0 vo_1 vo_2 vo_3 vo_4 vo_5 vo_6 vo_7 vo_8 vo_9 vo_10 vo_11 vo_12 vo_13 vo_14 vo_15 vo_16 vo_17 vo_18 vo_19 vo0, wRC re_0 ve_0 sb_0 re0, wRC ro_0 vo_0 sb_0 ro0]) (S0 := [wRC re_0 ve_0 sb_0 re0, wV cI cJ ve_0 ve_1 ve_2 ve_3 ve_4 ve_5 ve_6 ve_7 ve_8 ve_9 ve_10 ve_11 ve_12 ve_13 ve_14 ve_15 ve_16 ve_17 ve_18 ve_19 ve0, wSB cB sb_0 sb_1 sb0]) (S1 := [wRC re_0 ve_0 sb_0 s25, wV cI cJ ve_0 ve_1 ve_2 ve_3 ve_4 ve_5 ve_6 ve_7 ve_8 ve_9 ve_10 ve_11 ve_12 ve_13 ve_14 ve_15 ve_16 ve_17 ve_18 ve_19 s26, wSB cB sb_0 sb_1 sb0]) (S' := [wTV nm_0 sb_0 d_0 ve_0 vo_0 re_0 ro_0 nm0, wSB cB sb_0 sb_1 sb0, wSD d_0 sb_0 d0, wV cI cJ ve_0 ve_1 ve_2 ve_3 ve_4 ve_5 ve_6 ve_7 ve_8 ve_9 ve_10 ve_11 ve_12 ve_13 ve_14 ve_15 ve_16 ve_17 ve_18 ve_19 s26, wV cI cJ vo_0 vo_1 vo_2 vo_3 vo_4 vo_5 vo_6 vo_7 vo_8 vo_9 vo_10 vo_11 vo_12 vo_13 vo_14 vo_15 vo_16 vo_17 vo_18 vo_19 vo0, wRC re_0 ve_0 sb_0 s25, wRC ro_0 vo_0 sb_0 ro0]) C (c_X3_takeRecords l D cB cI cJ cZ re_0 ve_0 ve_1 ve_2 ve_3 ve_4 ve_5 ve_6 ve_7 ve_8 ve_9 ve_10 ve_11 ve_12 ve_13 ve_14 ve_15 ve_16 ve_17 ve_18 ve_19 sb_0 sb_1 y27) rfl rfl (gIV ml_X7_129 im_X3_takeRecords sl_X3_takeRecords in_X3 cd_X3_takeRecords) rfl eX3_takeRecords rfl ⟨rfl, rfl⟩ ⟨Nat.le_of_ble_eq_true rfl, Nat.le_of_ble_eq_true rfl⟩ rfl rfl rfl [5, 3, 1] rfl rfl rfl rfl (gA_cons aRC (gA_cons aV (gA_cons rfl gA_nil))) rfl rfl (Nat.le_of_ble_eq_true rfl) (tdec DX7_step 24 rfl) rfl ?_
              have hr9 := o_some hF
              subst hr9
              exact g_iretX (s26, vo0, s25, ro0) C rfl rfl (tdec DX7_step 25 rfl)
            | succ k32 =>
              refine g_st (st' := [.ref ro_0]) rfl ?_
              refine g_iload_n (z := 3) C (tdec DX7_step 23 rfl) rfl rfl rfl ?_
              obtain ⟨⟨r28, s29, s30⟩, y31, hF⟩ := o_bind hF
              refine g_callViMS (q0 := 45) (W' := wTV nm_0 sb_0 d_0 ve_0 vo_0 re_0 ro_0 nm0 ++ (wSB cB sb_0 sb_1 sb0 ++ (wSD d_0 sb_0 d0 ++ (wV cI cJ ve_0 ve_1 ve_2 ve_3 ve_4 ve_5 ve_6 ve_7 ve_8 ve_9 ve_10 ve_11 ve_12 ve_13 ve_14 ve_15 ve_16 ve_17 ve_18 ve_19 ve0 ++ (wV cI cJ vo_0 vo_1 vo_2 vo_3 vo_4 vo_5 vo_6 vo_7 vo_8 vo_9 vo_10 vo_11 vo_12 vo_13 vo_14 vo_15 vo_16 vo_17 vo_18 vo_19 s30 ++ (wRC re_0 ve_0 sb_0 re0 ++ (wRC ro_0 vo_0 sb_0 s29))))))) (S := [wTV nm_0 sb_0 d_0 ve_0 vo_0 re_0 ro_0 nm0, wSB cB sb_0 sb_1 sb0, wSD d_0 sb_0 d0, wV cI cJ ve_0 ve_1 ve_2 ve_3 ve_4 ve_5 ve_6 ve_7 ve_8 ve_9 ve_10 ve_11 ve_12 ve_13 ve_14 ve_15 ve_16 ve_17 ve_18 ve_19 ve0, wV cI cJ vo_0 vo_1 vo_2 vo_3 vo_4 vo_5 vo_6 vo_7 vo_8 vo_9 vo_10 vo_11 vo_12 vo_13 vo_14 vo_15 vo_16 vo_17 vo_18 vo_19 vo0, wRC re_0 ve_0 sb_0 re0, wRC ro_0 vo_0 sb_0 ro0]) (S0 := [wRC ro_0 vo_0 sb_0 ro0, wV cI cJ vo_0 vo_1 vo_2 vo_3 vo_4 vo_5 vo_6 vo_7 vo_8 vo_9 vo_10 vo_11 vo_12 vo_13 vo_14 vo_15 vo_16 vo_17 vo_18 vo_19 vo0, wSB cB sb_0 sb_1 sb0]) (S1 := [wRC ro_0 vo_0 sb_0 s29, wV cI cJ vo_0 vo_1 vo_2 vo_3 vo_4 vo_5 vo_6 vo_7 vo_8 vo_9 vo_10 vo_11 vo_12 vo_13 vo_14 vo_15 vo_16 vo_17 vo_18 vo_19 s30, wSB cB sb_0 sb_1 sb0]) (S' := [wTV nm_0 sb_0 d_0 ve_0 vo_0 re_0 ro_0 nm0, wSB cB sb_0 sb_1 sb0, wSD d_0 sb_0 d0, wV cI cJ ve_0 ve_1 ve_2 ve_3 ve_4 ve_5 ve_6 ve_7 ve_8 ve_9 ve_10 ve_11 ve_12 ve_13 ve_14 ve_15 ve_16 ve_17 ve_18 ve_19 ve0, wV cI cJ vo_0 vo_1 vo_2 vo_3 vo_4 vo_5 vo_6 vo_7 vo_8 vo_9 vo_10 vo_11 vo_12 vo_13 vo_14 vo_15 vo_16 vo_17 vo_18 vo_19 s30, wRC re_0 ve_0 sb_0 re0, wRC ro_0 vo_0 sb_0 s29]) C (c_X3_takeRecords l D cB cI cJ cZ ro_0 vo_0 vo_1 vo_2 vo_3 vo_4 vo_5 vo_6 vo_7 vo_8 vo_9 vo_10 vo_11 vo_12 vo_13 vo_14 vo_15 vo_16 vo_17 vo_18 vo_19 sb_0 sb_1 y31) rfl rfl (gIV ml_X7_129 im_X3_takeRecords sl_X3_takeRecords in_X3 cd_X3_takeRecords) rfl eX3_takeRecords rfl ⟨rfl, rfl⟩ ⟨Nat.le_of_ble_eq_true rfl, Nat.le_of_ble_eq_true rfl⟩ rfl rfl rfl [6, 4, 1] rfl rfl rfl rfl (gA_cons aRC (gA_cons aV (gA_cons rfl gA_nil))) rfl rfl (Nat.le_of_ble_eq_true rfl) (tdec DX7_step 24 rfl) rfl ?_
              have hr9 := o_some hF
              subst hr9
              exact g_iretX (ve0, s30, re0, s29) C rfl rfl (tdec DX7_step 25 rfl)
        · have hF := o_ifp hF h21
          have hr9 := o_some hF
          subst hr9
          exact g_throw (cls := xIS) C htab hX hZ hfl (by decide) (by decide) (gMem xl_X7_98) (gMem xn_xIS) (gIn xg_X7_100) xb_X7_100 xo_X7_100 rfl rfl (tdec DX7_step 16 rfl) (tdec DX7_step 17 rfl) (tdec DX7_step 18 rfl) (tdec DX7_step 19 rfl) rfl rfl rfl (by decide) (by decide) (by decide) (by decide)
      · have hF := o_ifn hF h18
        have hr9 := o_some hF
        subst hr9
        exact g_throw (cls := xIA) C htab hX hZ hfl (by decide) (by decide) (gMem xl_X7_55) (gMem xn_xIA) (gIn xg_X7_57) xb_X7_57 xo_X7_57 rfl rfl (tdec DX7_step 9 rfl) (tdec DX7_step 10 rfl) (tdec DX7_step 11 rfl) (tdec DX7_step 12 rfl) rfl rfl rfl (by decide) (by decide) (by decide) (by decide)
def FX7_crash (nm0 : Int64) (sb0 : SB) (d0 : SD) (ve0 : VS) (vo0 : VS) (re0 : RC) (ro0 : RC) (p1 : Int32) : Option (Except String (Int32 × (VS × VS))) :=
  (FX7_find nm0 p1).bind fun q2 =>
  (match q2 with
  | none =>
    some (.error xIA)
  | some 0 =>
    (FX6_isBusy ve0).bind fun r3 =>
    (FX6_dropHidden ve0).bind fun s5 =>
    (zok r3).bind fun z7 =>
    some (.ok (z7, (s5, vo0)))
  | some (_ + 1) =>
    (FX6_isBusy vo0).bind fun r9 =>
    (FX6_dropHidden vo0).bind fun s11 =>
    (zok r9).bind fun z13 =>
    some (.ok (z13, (ve0, s11))))
def rX7_crash : Room := { frames := 6, cells := 1, slots := 6, locals := 90 }
set_option maxHeartbeats 4000000 in
set_option maxRecDepth 100000 in
theorem c_X7_crash (l : Launch) (hfl : l.stackTraces = false) (D : va_G) (cB cI cJ cZ : ClassId) (nm_0 sb_0 sb_1 d_0 ve_0 ve_1 ve_2 ve_3 ve_4 ve_5 ve_6 ve_7 ve_8 ve_9 ve_10 ve_11 ve_12 ve_13 ve_14 ve_15 ve_16 ve_17 ve_18 ve_19 vo_0 vo_1 vo_2 vo_3 vo_4 vo_5 vo_6 vo_7 vo_8 vo_9 vo_10 vo_11 vo_12 vo_13 vo_14 vo_15 vo_16 vo_17 vo_18 vo_19 re_0 ro_0 : Nat) {nm0 : Int64} {sb0 : SB} {d0 : SD} {ve0 : VS} {vo0 : VS} {re0 : RC} {ro0 : RC} {p1 : Int32} {res : Except String (Int32 × (VS × VS))} (hF : FX7_crash nm0 sb0 d0 ve0 vo0 re0 ro0 p1 = some res) : gXi l yX7_crash wsX7_crash rX7_crash D (gT cB cI cJ cZ) [.ref nm_0, .int p1] (wTV nm_0 sb_0 d_0 ve_0 vo_0 re_0 ro_0 nm0 ++ (wSB cB sb_0 sb_1 sb0 ++ (wSD d_0 sb_0 d0 ++ (wV cI cJ ve_0 ve_1 ve_2 ve_3 ve_4 ve_5 ve_6 ve_7 ve_8 ve_9 ve_10 ve_11 ve_12 ve_13 ve_14 ve_15 ve_16 ve_17 ve_18 ve_19 ve0 ++ (wV cI cJ vo_0 vo_1 vo_2 vo_3 vo_4 vo_5 vo_6 vo_7 vo_8 vo_9 vo_10 vo_11 vo_12 vo_13 vo_14 vo_15 vo_16 vo_17 vo_18 vo_19 vo0 ++ (wRC re_0 ve_0 sb_0 re0 ++ (wRC ro_0 vo_0 sb_0 ro0))))))) res (fun u : (VS × VS) => wTV nm_0 sb_0 d_0 ve_0 vo_0 re_0 ro_0 nm0 ++ (wSB cB sb_0 sb_1 sb0 ++ (wSD d_0 sb_0 d0 ++ (wV cI cJ ve_0 ve_1 ve_2 ve_3 ve_4 ve_5 ve_6 ve_7 ve_8 ve_9 ve_10 ve_11 ve_12 ve_13 ve_14 ve_15 ve_16 ve_17 ve_18 ve_19 u.1 ++ (wV cI cJ vo_0 vo_1 vo_2 vo_3 vo_4 vo_5 vo_6 vo_7 vo_8 vo_9 vo_10 vo_11 vo_12 vo_13 vo_14 vo_15 vo_16 vo_17 vo_18 vo_19 u.2 ++ (wRC re_0 ve_0 sb_0 re0 ++ (wRC ro_0 vo_0 sb_0 ro0))))))) := by
  refine g_enterX (own := RX7) (Qc := (fun sz => gXQi D (wTV nm_0 sb_0 d_0 ve_0 vo_0 re_0 ro_0 nm0 ++ (wSB cB sb_0 sb_1 sb0 ++ (wSD d_0 sb_0 d0 ++ (wV cI cJ ve_0 ve_1 ve_2 ve_3 ve_4 ve_5 ve_6 ve_7 ve_8 ve_9 ve_10 ve_11 ve_12 ve_13 ve_14 ve_15 ve_16 ve_17 ve_18 ve_19 ve0 ++ (wV cI cJ vo_0 vo_1 vo_2 vo_3 vo_4 vo_5 vo_6 vo_7 vo_8 vo_9 vo_10 vo_11 vo_12 vo_13 vo_14 vo_15 vo_16 vo_17 vo_18 vo_19 vo0 ++ (wRC re_0 ve_0 sb_0 re0 ++ (wRC ro_0 vo_0 sb_0 ro0))))))) sz (fun r (u : (VS × VS)) => res = .ok (r, u)) (fun u : (VS × VS) => wTV nm_0 sb_0 d_0 ve_0 vo_0 re_0 ro_0 nm0 ++ (wSB cB sb_0 sb_1 sb0 ++ (wSD d_0 sb_0 d0 ++ (wV cI cJ ve_0 ve_1 ve_2 ve_3 ve_4 ve_5 ve_6 ve_7 ve_8 ve_9 ve_10 ve_11 ve_12 ve_13 ve_14 ve_15 ve_16 ve_17 ve_18 ve_19 u.1 ++ (wV cI cJ vo_0 vo_1 vo_2 vo_3 vo_4 vo_5 vo_6 vo_7 vo_8 vo_9 vo_10 vo_11 vo_12 vo_13 vo_14 vo_15 vo_16 vo_17 vo_18 vo_19 u.2 ++ (wRC re_0 ve_0 sb_0 re0 ++ (wRC ro_0 vo_0 sb_0 ro0))))))))) (XC := (fun sz => gXC D (wTV nm_0 sb_0 d_0 ve_0 vo_0 re_0 ro_0 nm0 ++ (wSB cB sb_0 sb_1 sb0 ++ (wSD d_0 sb_0 d0 ++ (wV cI cJ ve_0 ve_1 ve_2 ve_3 ve_4 ve_5 ve_6 ve_7 ve_8 ve_9 ve_10 ve_11 ve_12 ve_13 ve_14 ve_15 ve_16 ve_17 ve_18 ve_19 ve0 ++ (wV cI cJ vo_0 vo_1 vo_2 vo_3 vo_4 vo_5 vo_6 vo_7 vo_8 vo_9 vo_10 vo_11 vo_12 vo_13 vo_14 vo_15 vo_16 vo_17 vo_18 vo_19 vo0 ++ (wRC re_0 ve_0 sb_0 re0 ++ (wRC ro_0 vo_0 sb_0 ro0))))))) sz (fun E => res = .error E))) rfl (by decide) rfl (Nat.le_of_ble_eq_true rfl) rfl ?_
  intro p e s m args below meth c C htab hX hZ
  unfold FX7_crash at hF
  refine g_aload_n (z := 0) C (tdec DX7_crash 0 rfl) rfl rfl rfl ?_
  refine g_iload_n (z := 1) C (tdec DX7_crash 1 rfl) rfl rfl rfl ?_
  obtain ⟨q2, y1, hF⟩ := o_bind hF
  refine g_callVqRS (q0 := 0) (S := [wTV nm_0 sb_0 d_0 ve_0 vo_0 re_0 ro_0 nm0, wSB cB sb_0 sb_1 sb0, wSD d_0 sb_0 d0, wV cI cJ ve_0 ve_1 ve_2 ve_3 ve_4 ve_5 ve_6 ve_7 ve_8 ve_9 ve_10 ve_11 ve_12 ve_13 ve_14 ve_15 ve_16 ve_17 ve_18 ve_19 ve0, wV cI cJ vo_0 vo_1 vo_2 vo_3 vo_4 vo_5 vo_6 vo_7 vo_8 vo_9 vo_10 vo_11 vo_12 vo_13 vo_14 vo_15 vo_16 vo_17 vo_18 vo_19 vo0, wRC re_0 ve_0 sb_0 re0, wRC ro_0 vo_0 sb_0 ro0]) (S0 := [wTV nm_0 sb_0 d_0 ve_0 vo_0 re_0 ro_0 nm0]) C (c_X7_find l D cB cI cJ cZ nm_0 sb_0 d_0 ve_0 vo_0 re_0 ro_0 y1) rfl rfl (gIV ml_X7_51 im_X7_find sl_X7_find in_X7 cd_X7_find) rfl eX7_find rfl ⟨rfl, rfl⟩ ⟨Nat.le_of_ble_eq_true rfl, Nat.le_of_ble_eq_true rfl⟩ rfl rfl rfl [0] rfl rfl rfl (Nat.le_of_ble_eq_true rfl) (tdec DX7_crash 2 rfl) rfl ?_
  cases q2 with
  | none =>
    refine g_st (st' := [.null]) rfl ?_
    refine g_astoreN_n (L' := [(2, .null), (0, .ref nm_0), (1, .int p1)]) C (tdec DX7_crash 3 rfl) rfl (by decide) rfl rfl ?_
    refine g_aloadN_n (z := 0) C (tdec DX7_crash 4 rfl) rfl rfl rfl ?_
    refine g_ifnonnullN C (tdec DX7_crash 5 rfl) rfl ?_
    have hr9 := o_some hF
    subst hr9
    exact g_throw (cls := xIA) C htab hX hZ hfl (by decide) (by decide) (gMem xl_X7_55) (gMem xn_xIA) (gIn xg_X7_57) xb_X7_57 xo_X7_57 rfl rfl (tdec DX7_crash 6 rfl) (tdec DX7_crash 7 rfl) (tdec DX7_crash 8 rfl) (tdec DX7_crash 9 rfl) rfl rfl rfl (by decide) (by decide) (by decide) (by decide)
  | some k15 =>
    cases k15 with
    | zero =>
      refine g_st (st' := [.ref ve_0]) rfl ?_
      refine g_astore_n (L' := [(2, .ref ve_0), (0, .ref nm_0), (1, .int p1)]) C (tdec DX7_crash 3 rfl) rfl (by decide) rfl rfl ?_
      refine g_aload_n (z := 0) C (tdec DX7_crash 4 rfl) rfl rfl rfl ?_
      refine g_ifnonnullR (pt := 18) C (tdec DX7_crash 5 rfl) (by decide) ?_
      refine g_aload_n (z := 0) C (tdec DX7_crash 10 rfl) rfl rfl rfl ?_
      obtain ⟨r3, y4, hF⟩ := o_bind hF
      refine g_callViRS (q0 := 4) (S := [wTV nm_0 sb_0 d_0 ve_0 vo_0 re_0 ro_0 nm0, wSB cB sb_0 sb_1 sb0, wSD d_0 sb_0 d0, wV cI cJ ve_0 ve_1 ve_2 ve_3 ve_4 ve_5 ve_6 ve_7 ve_8 ve_9 ve_10 ve_11 ve_12 ve_13 ve_14 ve_15 ve_16 ve_17 ve_18 ve_19 ve0, wV cI cJ vo_0 vo_1 vo_2 vo_3 vo_4 vo_5 vo_6 vo_7 vo_8 vo_9 vo_10 vo_11 vo_12 vo_13 vo_14 vo_15 vo_16 vo_17 vo_18 vo_19 vo0, wRC re_0 ve_0 sb_0 re0, wRC ro_0 vo_0 sb_0 ro0]) (S0 := [wV cI cJ ve_0 ve_1 ve_2 ve_3 ve_4 ve_5 ve_6 ve_7 ve_8 ve_9 ve_10 ve_11 ve_12 ve_13 ve_14 ve_15 ve_16 ve_17 ve_18 ve_19 ve0]) C (c_X6_isBusy l D cB cI cJ cZ ve_0 ve_1 ve_2 ve_3 ve_4 ve_5 ve_6 ve_7 ve_8 ve_9 ve_10 ve_11 ve_12 ve_13 ve_14 ve_15 ve_16 ve_17 ve_18 ve_19 y4) rfl rfl (gIV ml_X7_73 im_X6_isBusy sl_X6_isBusy in_X6 cd_X6_isBusy) rfl eX6_isBusy rfl ⟨rfl, rfl⟩ ⟨Nat.le_of_ble_eq_true rfl, Nat.le_of_ble_eq_true rfl⟩ rfl rfl rfl [3] rfl rfl rfl (Nat.le_of_ble_eq_true rfl) (tdec DX7_crash 11 rfl) rfl ?_
      refine g_istore_n (L' := [(3, .int r3), (2, .ref ve_0), (0, .ref nm_0), (1, .int p1)]) C (tdec DX7_crash 12 rfl) rfl (by decide) rfl rfl ?_
      refine g_aload_n (z := 1) C (tdec DX7_crash 13 rfl) rfl rfl rfl ?_
      obtain ⟨s5, y6, hF⟩ := o_bind hF
      refine g_callVvMS (q0 := 4) (W' := wTV nm_0 sb_0 d_0 ve_0 vo_0 re_0 ro_0 nm0 ++ (wSB cB sb_0 sb_1 sb0 ++ (wSD d_0 sb_0 d0 ++ (wV cI cJ ve_0 ve_1 ve_2 ve_3 ve_4 ve_5 ve_6 ve_7 ve_8 ve_9 ve_10 ve_11 ve_12 ve_13 ve_14 ve_15 ve_16 ve_17 ve_18 ve_19 s5 ++ (wV cI cJ vo_0 vo_1 vo_2 vo_3 vo_4 vo_5 vo_6 vo_7 vo_8 vo_9 vo_10 vo_11 vo_12 vo_13 vo_14 vo_15 vo_16 vo_17 vo_18 vo_19 vo0 ++ (wRC re_0 ve_0 sb_0 re0 ++ (wRC ro_0 vo_0 sb_0 ro0))))))) (S := [wTV nm_0 sb_0 d_0 ve_0 vo_0 re_0 ro_0 nm0, wSB cB sb_0 sb_1 sb0, wSD d_0 sb_0 d0, wV cI cJ ve_0 ve_1 ve_2 ve_3 ve_4 ve_5 ve_6 ve_7 ve_8 ve_9 ve_10 ve_11 ve_12 ve_13 ve_14 ve_15 ve_16 ve_17 ve_18 ve_19 ve0, wV cI cJ vo_0 vo_1 vo_2 vo_3 vo_4 vo_5 vo_6 vo_7 vo_8 vo_9 vo_10 vo_11 vo_12 vo_13 vo_14 vo_15 vo_16 vo_17 vo_18 vo_19 vo0, wRC re_0 ve_0 sb_0 re0, wRC ro_0 vo_0 sb_0 ro0]) (S0 := [wV cI cJ ve_0 ve_1 ve_2 ve_3 ve_4 ve_5 ve_6 ve_7 ve_8 ve_9 ve_10 ve_11 ve_12 ve_13 ve_14 ve_15 ve_16 ve_17 ve_18 ve_19 ve0]) (S1 := [wV cI cJ ve_0 ve_1 ve_2 ve_3 ve_4 ve_5 ve_6 ve_7 ve_8 ve_9 ve_10 ve_11 ve_12 ve_13 ve_14 ve_15 ve_16 ve_17 ve_18 ve_19 s5]) (S' := [wTV nm_0 sb_0 d_0 ve_0 vo_0 re_0 ro_0 nm0, wSB cB sb_0 sb_1 sb0, wSD d_0 sb_0 d0, wV cI cJ ve_0 ve_1 ve_2 ve_3 ve_4 ve_5 ve_6 ve_7 ve_8 ve_9 ve_10 ve_11 ve_12 ve_13 ve_14 ve_15 ve_16 ve_17 ve_18 ve_19 s5, wV cI cJ vo_0 vo_1 vo_2 vo_3 vo_4 vo_5 vo_6 vo_7 vo_8 vo_9 vo_10 vo_11 vo_12 vo_13 vo_14 vo_15 vo_16 vo_17 vo_18 vo_19 vo0, wRC re_0 ve_0 sb_0 re0, wRC ro_0 vo_0 sb_0 ro0]) C (c_X6_dropHidden l D cB cI cJ cZ ve_0 ve_1 ve_2 ve_3 ve_4 ve_5 ve_6 ve_7 ve_8 ve_9 ve_10 ve_11 ve_12 ve_13 ve_14 ve_15 ve_16 ve_17 ve_18 ve_19 y6) rfl rfl (gIV ml_X7_132 im_X6_dropHidden sl_X6_dropHidden in_X6 cd_X6_dropHidden) rfl eX6_dropHidden rfl ⟨rfl, rfl⟩ ⟨Nat.le_of_ble_eq_true rfl, Nat.le_of_ble_eq_true rfl⟩ rfl rfl rfl [3] rfl rfl rfl rfl (gA_cons aV gA_nil) rfl rfl (Nat.le_of_ble_eq_true rfl) (tdec DX7_crash 14 rfl) rfl ?_
      refine g_iload_n (z := 0) C (tdec DX7_crash 15 rfl) rfl rfl rfl ?_
      obtain ⟨z7, y8, hF⟩ := o_bind hF
      have y8 := zok_in y8
      have hr9 := o_some hF
      subst hr9
      exact g_zretX (s5, vo0) C (by rw [← y8.1]; exact y8.2) (by rw [y8.1]) rfl (tdec DX7_crash 16 rfl)
    | succ k15 =>
      refine g_st (st' := [.ref vo_0]) rfl ?_
      refine g_astore_n (L' := [(2, .ref vo_0), (0, .ref nm_0), (1, .int p1)]) C (tdec DX7_crash 3 rfl) rfl (by decide) rfl rfl ?_
      refine g_aload_n (z := 0) C (tdec DX7_crash 4 rfl) rfl rfl rfl ?_
      refine g_ifnonnullR (pt := 18) C (tdec DX7_crash 5 rfl) (by decide) ?_
      refine g_aload_n (z := 0) C (tdec DX7_crash 10 rfl) rfl rfl rfl ?_
      obtain ⟨r9, y10, hF⟩ := o_bind hF
      refine g_callViRS (q0 := 24) (S := [wTV nm_0 sb_0 d_0 ve_0 vo_0 re_0 ro_0 nm0, wSB cB sb_0 sb_1 sb0, wSD d_0 sb_0 d0, wV cI cJ ve_0 ve_1 ve_2 ve_3 ve_4 ve_5 ve_6 ve_7 ve_8 ve_9 ve_10 ve_11 ve_12 ve_13 ve_14 ve_15 ve_16 ve_17 ve_18 ve_19 ve0, wV cI cJ vo_0 vo_1 vo_2 vo_3 vo_4 vo_5 vo_6 vo_7 vo_8 vo_9 vo_10 vo_11 vo_12 vo_13 vo_14 vo_15 vo_16 vo_17 vo_18 vo_19 vo0, wRC re_0 ve_0 sb_0 re0, wRC ro_0 vo_0 sb_0 ro0]) (S0 := [wV cI cJ vo_0 vo_1 vo_2 vo_3 vo_4 vo_5 vo_6 vo_7 vo_8 vo_9 vo_10 vo_11 vo_12 vo_13 vo_14 vo_15 vo_16 vo_17 vo_18 vo_19 vo0]) C (c_X6_isBusy l D cB cI cJ cZ vo_0 vo_1 vo_2 vo_3 vo_4 vo_5 vo_6 vo_7 vo_8 vo_9 vo_10 vo_11 vo_12 vo_13 vo_14 vo_15 vo_16 vo_17 vo_18 vo_19 y10) rfl rfl (gIV ml_X7_73 im_X6_isBusy sl_X6_isBusy in_X6 cd_X6_isBusy) rfl eX6_isBusy rfl ⟨rfl, rfl⟩ ⟨Nat.le_of_ble_eq_true rfl, Nat.le_of_ble_eq_true rfl⟩ rfl rfl rfl [4] rfl rfl rfl (Nat.le_of_ble_eq_true rfl) (tdec DX7_crash 11 rfl) rfl ?_
      refine g_istore_n (L' := [(3, .int r9), (2, .ref vo_0), (0, .ref nm_0), (1, .int p1)]) C (tdec DX7_crash 12 rfl) rfl (by decide) rfl rfl ?_
      refine g_aload_n (z := 1) C (tdec DX7_crash 13 rfl) rfl rfl rfl ?_
      obtain ⟨s11, y12, hF⟩ := o_bind hF
      refine g_callVvMS (q0 := 24) (W' := wTV nm_0 sb_0 d_0 ve_0 vo_0 re_0 ro_0 nm0 ++ (wSB cB sb_0 sb_1 sb0 ++ (wSD d_0 sb_0 d0 ++ (wV cI cJ ve_0 ve_1 ve_2 ve_3 ve_4 ve_5 ve_6 ve_7 ve_8 ve_9 ve_10 ve_11 ve_12 ve_13 ve_14 ve_15 ve_16 ve_17 ve_18 ve_19 ve0 ++ (wV cI cJ vo_0 vo_1 vo_2 vo_3 vo_4 vo_5 vo_6 vo_7 vo_8 vo_9 vo_10 vo_11 vo_12 vo_13 vo_14 vo_15 vo_16 vo_17 vo_18 vo_19 s11 ++ (wRC re_0 ve_0 sb_0 re0 ++ (wRC ro_0 vo_0 sb_0 ro0))))))) (S := [wTV nm_0 sb_0 d_0 ve_0 vo_0 re_0 ro_0 nm0, wSB cB sb_0 sb_1 sb0, wSD d_0 sb_0 d0, wV cI cJ ve_0 ve_1 ve_2 ve_3 ve_4 ve_5 ve_6 ve_7 ve_8 ve_9 ve_10 ve_11 ve_12 ve_13 ve_14 ve_15 ve_16 ve_17 ve_18 ve_19 ve0, wV cI cJ vo_0 vo_1 vo_2 vo_3 vo_4 vo_5 vo_6 vo_7 vo_8 vo_9 vo_10 vo_11 vo_12 vo_13 vo_14 vo_15 vo_16 vo_17 vo_18 vo_19 vo0, wRC re_0 ve_0 sb_0 re0, wRC ro_0 vo_0 sb_0 ro0]) (S0 := [wV cI cJ vo_0 vo_1 vo_2 vo_3 vo_4 vo_5 vo_6 vo_7 vo_8 vo_9 vo_10 vo_11 vo_12 vo_13 vo_14 vo_15 vo_16 vo_17 vo_18 vo_19 vo0]) (S1 := [wV cI cJ vo_0 vo_1 vo_2 vo_3 vo_4 vo_5 vo_6 vo_7 vo_8 vo_9 vo_10 vo_11 vo_12 vo_13 vo_14 vo_15 vo_16 vo_17 vo_18 vo_19 s11]) (S' := [wTV nm_0 sb_0 d_0 ve_0 vo_0 re_0 ro_0 nm0, wSB cB sb_0 sb_1 sb0, wSD d_0 sb_0 d0, wV cI cJ ve_0 ve_1 ve_2 ve_3 ve_4 ve_5 ve_6 ve_7 ve_8 ve_9 ve_10 ve_11 ve_12 ve_13 ve_14 ve_15 ve_16 ve_17 ve_18 ve_19 ve0, wV cI cJ vo_0 vo_1 vo_2 vo_3 vo_4 vo_5 vo_6 vo_7 vo_8 vo_9 vo_10 vo_11 vo_12 vo_13 vo_14 vo_15 vo_16 vo_17 vo_18 vo_19 s11, wRC re_0 ve_0 sb_0 re0, wRC ro_0 vo_0 sb_0 ro0]) C (c_X6_dropHidden l D cB cI cJ cZ vo_0 vo_1 vo_2 vo_3 vo_4 vo_5 vo_6 vo_7 vo_8 vo_9 vo_10 vo_11 vo_12 vo_13 vo_14 vo_15 vo_16 vo_17 vo_18 vo_19 y12) rfl rfl (gIV ml_X7_132 im_X6_dropHidden sl_X6_dropHidden in_X6 cd_X6_dropHidden) rfl eX6_dropHidden rfl ⟨rfl, rfl⟩ ⟨Nat.le_of_ble_eq_true rfl, Nat.le_of_ble_eq_true rfl⟩ rfl rfl rfl [4] rfl rfl rfl rfl (gA_cons aV gA_nil) rfl rfl (Nat.le_of_ble_eq_true rfl) (tdec DX7_crash 14 rfl) rfl ?_
      refine g_iload_n (z := 0) C (tdec DX7_crash 15 rfl) rfl rfl rfl ?_
      obtain ⟨z13, y14, hF⟩ := o_bind hF
      have y14 := zok_in y14
      have hr9 := o_some hF
      subst hr9
      exact g_zretX (ve0, s11) C (by rw [← y14.1]; exact y14.2) (by rw [y14.1]) rfl (tdec DX7_crash 16 rfl)
def FX7_stream (nm0 : Int64) (sb0 : SB) (d0 : SD) (ve0 : VS) (vo0 : VS) (re0 : RC) (ro0 : RC) (p1 : Int32) : Option (Int32) :=
  (FX5_at sb0 p1).bind fun r1 =>
  some r1
def rX7_stream : Room := { frames := 1, cells := 0, slots := 0, locals := 21 }
set_option maxHeartbeats 4000000 in
set_option maxRecDepth 100000 in
theorem c_X7_stream (l : Launch) (D : va_G) (cB cI cJ cZ : ClassId) (nm_0 sb_0 sb_1 d_0 ve_0 ve_1 ve_2 ve_3 ve_4 ve_5 ve_6 ve_7 ve_8 ve_9 ve_10 ve_11 ve_12 ve_13 ve_14 ve_15 ve_16 ve_17 ve_18 ve_19 vo_0 vo_1 vo_2 vo_3 vo_4 vo_5 vo_6 vo_7 vo_8 vo_9 vo_10 vo_11 vo_12 vo_13 vo_14 vo_15 vo_16 vo_17 vo_18 vo_19 re_0 ro_0 : Nat) {nm0 : Int64} {sb0 : SB} {d0 : SD} {ve0 : VS} {vo0 : VS} {re0 : RC} {ro0 : RC} {p1 : Int32} {res : Int32} (hF : FX7_stream nm0 sb0 d0 ve0 vo0 re0 ro0 p1 = some res) : gRi l yX7_stream wsX7_stream rX7_stream D (gT cB cI cJ cZ) [.ref nm_0, .int p1] (wTV nm_0 sb_0 d_0 ve_0 vo_0 re_0 ro_0 nm0 ++ (wSB cB sb_0 sb_1 sb0 ++ (wSD d_0 sb_0 d0 ++ (wV cI cJ ve_0 ve_1 ve_2 ve_3 ve_4 ve_5 ve_6 ve_7 ve_8 ve_9 ve_10 ve_11 ve_12 ve_13 ve_14 ve_15 ve_16 ve_17 ve_18 ve_19 ve0 ++ (wV cI cJ vo_0 vo_1 vo_2 vo_3 vo_4 vo_5 vo_6 vo_7 vo_8 vo_9 vo_10 vo_11 vo_12 vo_13 vo_14 vo_15 vo_16 vo_17 vo_18 vo_19 vo0 ++ (wRC re_0 ve_0 sb_0 re0 ++ (wRC ro_0 vo_0 sb_0 ro0))))))) res := by
  refine g_enter (own := RX7) (free := (fun _ _ => False)) (Qc := (fun sz => gRQi res)) (fun _ _ => True) (fun sz => Or.inl rfl) rfl (by decide) rfl (Nat.le_of_ble_eq_true rfl) rfl ?_
  intro p e s m args below meth c C
  unfold FX7_stream at hF
  refine g_aload_n (z := 0) C (tdec DX7_stream 0 rfl) rfl rfl rfl ?_
  refine g_getf (C' := RX7) (T := TX7) (N := 7) (v := .ref sb_0) C 0 0 (gIn iw_X7) rfl rfl (by decide) (gMem fl_X7_12) rfl rfl (tdec DX7_stream 1 rfl) rfl ?_
  refine g_iload_n (z := 1) C (tdec DX7_stream 2 rfl) rfl rfl rfl ?_
  obtain ⟨r1, y2, hF⟩ := o_bind hF
  refine g_callViRS (q0 := 1) (S := [wTV nm_0 sb_0 d_0 ve_0 vo_0 re_0 ro_0 nm0, wSB cB sb_0 sb_1 sb0, wSD d_0 sb_0 d0, wV cI cJ ve_0 ve_1 ve_2 ve_3 ve_4 ve_5 ve_6 ve_7 ve_8 ve_9 ve_10 ve_11 ve_12 ve_13 ve_14 ve_15 ve_16 ve_17 ve_18 ve_19 ve0, wV cI cJ vo_0 vo_1 vo_2 vo_3 vo_4 vo_5 vo_6 vo_7 vo_8 vo_9 vo_10 vo_11 vo_12 vo_13 vo_14 vo_15 vo_16 vo_17 vo_18 vo_19 vo0, wRC re_0 ve_0 sb_0 re0, wRC ro_0 vo_0 sb_0 ro0]) (S0 := [wSB cB sb_0 sb_1 sb0]) C (c_X5_at l D cB cI cJ cZ sb_0 sb_1 y2) rfl rfl (gIV ml_X7_135 im_X5_at sl_X5_at in_X5 cd_X5_at) rfl eX5_at rfl ⟨rfl, rfl⟩ ⟨Nat.le_of_ble_eq_true rfl, Nat.le_of_ble_eq_true rfl⟩ rfl rfl rfl [1] rfl rfl rfl (Nat.le_of_ble_eq_true rfl) (tdec DX7_stream 3 rfl) rfl ?_
  have hr9 := o_some hF
  subst hr9
  exact g_iretR C rfl (tdec DX7_stream 4 rfl)
def FX7_patch (nm0 : Int64) (sb0 : SB) (d0 : SD) (ve0 : VS) (vo0 : VS) (re0 : RC) (ro0 : RC) (p1 : Int32) (p2 : Int32) : Option (Except String (Int32 × (SB))) :=
  if p1 < 0 then
    some (.error xNS)
  else
    (FX5_length sb0).bind fun r2 =>
    if p1 < r2 then
      (FX5_at sb0 p1).bind fun r5 =>
      (FX5_put sb0 p1 p2).bind fun s7 =>
      some (.ok (r5, s7))
    else
      some (.error xNS)
def rX7_patch : Room := { frames := 6, cells := 1, slots := 6, locals := 90 }
set_option maxHeartbeats 4000000 in
set_option maxRecDepth 100000 in
theorem c_X7_patch (l : Launch) (hfl : l.stackTraces = false) (D : va_G) (cB cI cJ cZ : ClassId) (nm_0 sb_0 sb_1 d_0 ve_0 ve_1 ve_2 ve_3 ve_4 ve_5 ve_6 ve_7 ve_8 ve_9 ve_10 ve_11 ve_12 ve_13 ve_14 ve_15 ve_16 ve_17 ve_18 ve_19 vo_0 vo_1 vo_2 vo_3 vo_4 vo_5 vo_6 vo_7 vo_8 vo_9 vo_10 vo_11 vo_12 vo_13 vo_14 vo_15 vo_16 vo_17 vo_18 vo_19 re_0 ro_0 : Nat) {nm0 : Int64} {sb0 : SB} {d0 : SD} {ve0 : VS} {vo0 : VS} {re0 : RC} {ro0 : RC} {p1 : Int32} {p2 : Int32} {res : Except String (Int32 × (SB))} (hF : FX7_patch nm0 sb0 d0 ve0 vo0 re0 ro0 p1 p2 = some res) : gXi l yX7_patch wsX7_patch rX7_patch D (gT cB cI cJ cZ) [.ref nm_0, .int p1, .int p2] (wTV nm_0 sb_0 d_0 ve_0 vo_0 re_0 ro_0 nm0 ++ (wSB cB sb_0 sb_1 sb0 ++ (wSD d_0 sb_0 d0 ++ (wV cI cJ ve_0 ve_1 ve_2 ve_3 ve_4 ve_5 ve_6 ve_7 ve_8 ve_9 ve_10 ve_11 ve_12 ve_13 ve_14 ve_15 ve_16 ve_17 ve_18 ve_19 ve0 ++ (wV cI cJ vo_0 vo_1 vo_2 vo_3 vo_4 vo_5 vo_6 vo_7 vo_8 vo_9 vo_10 vo_11 vo_12 vo_13 vo_14 vo_15 vo_16 vo_17 vo_18 vo_19 vo0 ++ (wRC re_0 ve_0 sb_0 re0 ++ (wRC ro_0 vo_0 sb_0 ro0))))))) res (fun u : (SB) => wTV nm_0 sb_0 d_0 ve_0 vo_0 re_0 ro_0 nm0 ++ (wSB cB sb_0 sb_1 u ++ (wSD d_0 sb_0 d0 ++ (wV cI cJ ve_0 ve_1 ve_2 ve_3 ve_4 ve_5 ve_6 ve_7 ve_8 ve_9 ve_10 ve_11 ve_12 ve_13 ve_14 ve_15 ve_16 ve_17 ve_18 ve_19 ve0 ++ (wV cI cJ vo_0 vo_1 vo_2 vo_3 vo_4 vo_5 vo_6 vo_7 vo_8 vo_9 vo_10 vo_11 vo_12 vo_13 vo_14 vo_15 vo_16 vo_17 vo_18 vo_19 vo0 ++ (wRC re_0 ve_0 sb_0 re0 ++ (wRC ro_0 vo_0 sb_0 ro0))))))) := by
  refine g_enterX (own := RX7) (Qc := (fun sz => gXQi D (wTV nm_0 sb_0 d_0 ve_0 vo_0 re_0 ro_0 nm0 ++ (wSB cB sb_0 sb_1 sb0 ++ (wSD d_0 sb_0 d0 ++ (wV cI cJ ve_0 ve_1 ve_2 ve_3 ve_4 ve_5 ve_6 ve_7 ve_8 ve_9 ve_10 ve_11 ve_12 ve_13 ve_14 ve_15 ve_16 ve_17 ve_18 ve_19 ve0 ++ (wV cI cJ vo_0 vo_1 vo_2 vo_3 vo_4 vo_5 vo_6 vo_7 vo_8 vo_9 vo_10 vo_11 vo_12 vo_13 vo_14 vo_15 vo_16 vo_17 vo_18 vo_19 vo0 ++ (wRC re_0 ve_0 sb_0 re0 ++ (wRC ro_0 vo_0 sb_0 ro0))))))) sz (fun r (u : (SB)) => res = .ok (r, u)) (fun u : (SB) => wTV nm_0 sb_0 d_0 ve_0 vo_0 re_0 ro_0 nm0 ++ (wSB cB sb_0 sb_1 u ++ (wSD d_0 sb_0 d0 ++ (wV cI cJ ve_0 ve_1 ve_2 ve_3 ve_4 ve_5 ve_6 ve_7 ve_8 ve_9 ve_10 ve_11 ve_12 ve_13 ve_14 ve_15 ve_16 ve_17 ve_18 ve_19 ve0 ++ (wV cI cJ vo_0 vo_1 vo_2 vo_3 vo_4 vo_5 vo_6 vo_7 vo_8 vo_9 vo_10 vo_11 vo_12 vo_13 vo_14 vo_15 vo_16 vo_17 vo_18 vo_19 vo0 ++ (wRC re_0 ve_0 sb_0 re0 ++ (wRC ro_0 vo_0 sb_0 ro0))))))))) (XC := (fun sz => gXC D (wTV nm_0 sb_0 d_0 ve_0 vo_0 re_0 ro_0 nm0 ++ (wSB cB sb_0 sb_1 sb0 ++ (wSD d_0 sb_0 d0 ++ (wV cI cJ ve_0 ve_1 ve_2 ve_3 ve_4 ve_5 ve_6 ve_7 ve_8 ve_9 ve_10 ve_11 ve_12 ve_13 ve_14 ve_15 ve_16 ve_17 ve_18 ve_19 ve0 ++ (wV cI cJ vo_0 vo_1 vo_2 vo_3 vo_4 vo_5 vo_6 vo_7 vo_8 vo_9 vo_10 vo_11 vo_12 vo_13 vo_14 vo_15 vo_16 vo_17 vo_18 vo_19 vo0 ++ (wRC re_0 ve_0 sb_0 re0 ++ (wRC ro_0 vo_0 sb_0 ro0))))))) sz (fun E => res = .error E))) rfl (by decide) rfl (Nat.le_of_ble_eq_true rfl) rfl ?_
  intro p e s m args below meth c C htab hX hZ
  unfold FX7_patch at hF
  refine g_iload_n (z := 1) C (tdec DX7_patch 0 rfl) rfl rfl rfl ?_
  refine g_if_lt (pt := 15) C (tdec DX7_patch 1 rfl) (by decide) rfl (fun h1 => ?_) (fun h1 => ?_)
  · have hF := o_ifp hF h1
    have hr9 := o_some hF
    subst hr9
    exact g_throw (cls := xNS) C htab hX hZ hfl (by decide) (by decide) (gMem xl_X7_91) (gMem xn_xNS) (gIn xg_X7_93) xb_X7_93 xo_X7_93 rfl rfl (tdec DX7_patch 7 rfl) (tdec DX7_patch 8 rfl) (tdec DX7_patch 9 rfl) (tdec DX7_patch 10 rfl) rfl rfl rfl (by decide) (by decide) (by decide) (by decide)
  · have hF := o_ifn hF h1
    refine g_iload_n (z := 1) C (tdec DX7_patch 2 rfl) rfl rfl rfl ?_
    refine g_aload_n (z := 0) C (tdec DX7_patch 3 rfl) rfl rfl rfl ?_
    refine g_getf (C' := RX7) (T := TX7) (N := 7) (v := .ref sb_0) C 0 0 (gIn iw_X7) rfl rfl (by decide) (gMem fl_X7_12) rfl rfl (tdec DX7_patch 4 rfl) rfl ?_
    obtain ⟨r2, y3, hF⟩ := o_bind hF
    refine g_callViRS (q0 := 1) (S := [wTV nm_0 sb_0 d_0 ve_0 vo_0 re_0 ro_0 nm0, wSB cB sb_0 sb_1 sb0, wSD d_0 sb_0 d0, wV cI cJ ve_0 ve_1 ve_2 ve_3 ve_4 ve_5 ve_6 ve_7 ve_8 ve_9 ve_10 ve_11 ve_12 ve_13 ve_14 ve_15 ve_16 ve_17 ve_18 ve_19 ve0, wV cI cJ vo_0 vo_1 vo_2 vo_3 vo_4 vo_5 vo_6 vo_7 vo_8 vo_9 vo_10 vo_11 vo_12 vo_13 vo_14 vo_15 vo_16 vo_17 vo_18 vo_19 vo0, wRC re_0 ve_0 sb_0 re0, wRC ro_0 vo_0 sb_0 ro0]) (S0 := [wSB cB sb_0 sb_1 sb0]) C (c_X5_length l D cB cI cJ cZ sb_0 sb_1 y3) rfl rfl (gIV ml_X7_123 im_X5_length sl_X5_length in_X5 cd_X5_length) rfl eX5_length rfl ⟨rfl, rfl⟩ ⟨Nat.le_of_ble_eq_true rfl, Nat.le_of_ble_eq_true rfl⟩ rfl rfl rfl [1] rfl rfl rfl (Nat.le_of_ble_eq_true rfl) (tdec DX7_patch 5 rfl) rfl ?_
    refine g_icmp_lt (pt := 23) C (tdec DX7_patch 6 rfl) (by decide) rfl (fun h4 => ?_) (fun h4 => ?_)
    · have hF := o_ifp hF h4
      refine g_aload_n (z := 0) C (tdec DX7_patch 11 rfl) rfl rfl rfl ?_
      refine g_getf (C' := RX7) (T := TX7) (N := 7) (v := .ref sb_0) C 0 0 (gIn iw_X7) rfl rfl (by decide) (gMem fl_X7_12) rfl rfl (tdec DX7_patch 12 rfl) rfl ?_
      refine g_iload_n (z := 1) C (tdec DX7_patch 13 rfl) rfl rfl rfl ?_
      obtain ⟨r5, y6, hF⟩ := o_bind hF
      refine g_callViRS (q0 := 1) (S := [wTV nm_0 sb_0 d_0 ve_0 vo_0 re_0 ro_0 nm0, wSB cB sb_0 sb_1 sb0, wSD d_0 sb_0 d0, wV cI cJ ve_0 ve_1 ve_2 ve_3 ve_4 ve_5 ve_6 ve_7 ve_8 ve_9 ve_10 ve_11 ve_12 ve_13 ve_14 ve_15 ve_16 ve_17 ve_18 ve_19 ve0, wV cI cJ vo_0 vo_1 vo_2 vo_3 vo_4 vo_5 vo_6 vo_7 vo_8 vo_9 vo_10 vo_11 vo_12 vo_13 vo_14 vo_15 vo_16 vo_17 vo_18 vo_19 vo0, wRC re_0 ve_0 sb_0 re0, wRC ro_0 vo_0 sb_0 ro0]) (S0 := [wSB cB sb_0 sb_1 sb0]) C (c_X5_at l D cB cI cJ cZ sb_0 sb_1 y6) rfl rfl (gIV ml_X7_135 im_X5_at sl_X5_at in_X5 cd_X5_at) rfl eX5_at rfl ⟨rfl, rfl⟩ ⟨Nat.le_of_ble_eq_true rfl, Nat.le_of_ble_eq_true rfl⟩ rfl rfl rfl [1] rfl rfl rfl (Nat.le_of_ble_eq_true rfl) (tdec DX7_patch 14 rfl) rfl ?_
      refine g_istore_n (L' := [(3, .int r5), (0, .ref nm_0), (1, .int p1), (2, .int p2)]) C (tdec DX7_patch 15 rfl) rfl (by decide) rfl rfl ?_
      refine g_aload_n (z := 1) C (tdec DX7_patch 16 rfl) rfl rfl rfl ?_
      refine g_getf (C' := RX7) (T := TX7) (N := 7) (v := .ref sb_0) C 0 0 (gIn iw_X7) rfl rfl (by decide) (gMem fl_X7_12) rfl rfl (tdec DX7_patch 17 rfl) rfl ?_
      refine g_iload_n (z := 2) C (tdec DX7_patch 18 rfl) rfl rfl rfl ?_
      refine g_iload_n (z := 3) C (tdec DX7_patch 19 rfl) rfl rfl rfl ?_
      obtain ⟨s7, y8, hF⟩ := o_bind hF
      refine g_callVvMS (q0 := 1) (W' := wTV nm_0 sb_0 d_0 ve_0 vo_0 re_0 ro_0 nm0 ++ (wSB cB sb_0 sb_1 s7 ++ (wSD d_0 sb_0 d0 ++ (wV cI cJ ve_0 ve_1 ve_2 ve_3 ve_4 ve_5 ve_6 ve_7 ve_8 ve_9 ve_10 ve_11 ve_12 ve_13 ve_14 ve_15 ve_16 ve_17 ve_18 ve_19 ve0 ++ (wV cI cJ vo_0 vo_1 vo_2 vo_3 vo_4 vo_5 vo_6 vo_7 vo_8 vo_9 vo_10 vo_11 vo_12 vo_13 vo_14 vo_15 vo_16 vo_17 vo_18 vo_19 vo0 ++ (wRC re_0 ve_0 sb_0 re0 ++ (wRC ro_0 vo_0 sb_0 ro0))))))) (S := [wTV nm_0 sb_0 d_0 ve_0 vo_0 re_0 ro_0 nm0, wSB cB sb_0 sb_1 sb0, wSD d_0 sb_0 d0, wV cI cJ ve_0 ve_1 ve_2 ve_3 ve_4 ve_5 ve_6 ve_7 ve_8 ve_9 ve_10 ve_11 ve_12 ve_13 ve_14 ve_15 ve_16 ve_17 ve_18 ve_19 ve0, wV cI cJ vo_0 vo_1 vo_2 vo_3 vo_4 vo_5 vo_6 vo_7 vo_8 vo_9 vo_10 vo_11 vo_12 vo_13 vo_14 vo_15 vo_16 vo_17 vo_18 vo_19 vo0, wRC re_0 ve_0 sb_0 re0, wRC ro_0 vo_0 sb_0 ro0]) (S0 := [wSB cB sb_0 sb_1 sb0]) (S1 := [wSB cB sb_0 sb_1 s7]) (S' := [wTV nm_0 sb_0 d_0 ve_0 vo_0 re_0 ro_0 nm0, wSB cB sb_0 sb_1 s7, wSD d_0 sb_0 d0, wV cI cJ ve_0 ve_1 ve_2 ve_3 ve_4 ve_5 ve_6 ve_7 ve_8 ve_9 ve_10 ve_11 ve_12 ve_13 ve_14 ve_15 ve_16 ve_17 ve_18 ve_19 ve0, wV cI cJ vo_0 vo_1 vo_2 vo_3 vo_4 vo_5 vo_6 vo_7 vo_8 vo_9 vo_10 vo_11 vo_12 vo_13 vo_14 vo_15 vo_16 vo_17 vo_18 vo_19 vo0, wRC re_0 ve_0 sb_0 re0, wRC ro_0 vo_0 sb_0 ro0]) C (c_X5_put l D cB cI cJ cZ sb_0 sb_1 y8) rfl rfl (gIV ml_X7_138 im_X5_put sl_X5_put in_X5 cd_X5_put) rfl eX5_put rfl ⟨rfl, rfl⟩ ⟨Nat.le_of_ble_eq_true rfl, Nat.le_of_ble_eq_true rfl⟩ rfl rfl rfl [1] rfl rfl rfl rfl (gA_cons aSB gA_nil) rfl rfl (Nat.le_of_ble_eq_true rfl) (tdec DX7_patch 20 rfl) rfl ?_
      refine g_iload_n (z := 0) C (tdec DX7_patch 21 rfl) rfl rfl rfl ?_
      have hr9 := o_some hF
      subst hr9
      exact g_iretX s7 C rfl rfl (tdec DX7_patch 22 rfl)
    · have hF := o_ifn hF h4
      have hr9 := o_some hF
      subst hr9
      exact g_throw (cls := xNS) C htab hX hZ hfl (by decide) (by decide) (gMem xl_X7_91) (gMem xn_xNS) (gIn xg_X7_93) xb_X7_93 xo_X7_93 rfl rfl (tdec DX7_patch 7 rfl) (tdec DX7_patch 8 rfl) (tdec DX7_patch 9 rfl) (tdec DX7_patch 10 rfl) rfl rfl rfl (by decide) (by decide) (by decide) (by decide)
def FX7_cut (nm0 : Int64) (sb0 : SB) (d0 : SD) (ve0 : VS) (vo0 : VS) (re0 : RC) (ro0 : RC) (p1 : Int32) : Option (Except String ((SB))) :=
  if p1 < 0 then
    some (.error xIA)
  else
    (FX5_length sb0).bind fun r2 =>
    if p1 ≤ r2 then
      (FX5_shorten sb0 p1).bind fun s5 =>
      some (.ok s5)
    else
      some (.error xIA)
def rX7_cut : Room := { frames := 6, cells := 1, slots := 6, locals := 90 }
set_option maxHeartbeats 4000000 in
set_option maxRecDepth 100000 in
theorem c_X7_cut (l : Launch) (hfl : l.stackTraces = false) (D : va_G) (cB cI cJ cZ : ClassId) (nm_0 sb_0 sb_1 d_0 ve_0 ve_1 ve_2 ve_3 ve_4 ve_5 ve_6 ve_7 ve_8 ve_9 ve_10 ve_11 ve_12 ve_13 ve_14 ve_15 ve_16 ve_17 ve_18 ve_19 vo_0 vo_1 vo_2 vo_3 vo_4 vo_5 vo_6 vo_7 vo_8 vo_9 vo_10 vo_11 vo_12 vo_13 vo_14 vo_15 vo_16 vo_17 vo_18 vo_19 re_0 ro_0 : Nat) {nm0 : Int64} {sb0 : SB} {d0 : SD} {ve0 : VS} {vo0 : VS} {re0 : RC} {ro0 : RC} {p1 : Int32} {res : Except String ((SB))} (hF : FX7_cut nm0 sb0 d0 ve0 vo0 re0 ro0 p1 = some res) : gXv l yX7_cut wsX7_cut rX7_cut D (gT cB cI cJ cZ) [.ref nm_0, .int p1] (wTV nm_0 sb_0 d_0 ve_0 vo_0 re_0 ro_0 nm0 ++ (wSB cB sb_0 sb_1 sb0 ++ (wSD d_0 sb_0 d0 ++ (wV cI cJ ve_0 ve_1 ve_2 ve_3 ve_4 ve_5 ve_6 ve_7 ve_8 ve_9 ve_10 ve_11 ve_12 ve_13 ve_14 ve_15 ve_16 ve_17 ve_18 ve_19 ve0 ++ (wV cI cJ vo_0 vo_1 vo_2 vo_3 vo_4 vo_5 vo_6 vo_7 vo_8 vo_9 vo_10 vo_11 vo_12 vo_13 vo_14 vo_15 vo_16 vo_17 vo_18 vo_19 vo0 ++ (wRC re_0 ve_0 sb_0 re0 ++ (wRC ro_0 vo_0 sb_0 ro0))))))) res (fun u : (SB) => wTV nm_0 sb_0 d_0 ve_0 vo_0 re_0 ro_0 nm0 ++ (wSB cB sb_0 sb_1 u ++ (wSD d_0 sb_0 d0 ++ (wV cI cJ ve_0 ve_1 ve_2 ve_3 ve_4 ve_5 ve_6 ve_7 ve_8 ve_9 ve_10 ve_11 ve_12 ve_13 ve_14 ve_15 ve_16 ve_17 ve_18 ve_19 ve0 ++ (wV cI cJ vo_0 vo_1 vo_2 vo_3 vo_4 vo_5 vo_6 vo_7 vo_8 vo_9 vo_10 vo_11 vo_12 vo_13 vo_14 vo_15 vo_16 vo_17 vo_18 vo_19 vo0 ++ (wRC re_0 ve_0 sb_0 re0 ++ (wRC ro_0 vo_0 sb_0 ro0))))))) := by
  refine g_enterX (own := RX7) (Qc := (fun sz => gXQv D (wTV nm_0 sb_0 d_0 ve_0 vo_0 re_0 ro_0 nm0 ++ (wSB cB sb_0 sb_1 sb0 ++ (wSD d_0 sb_0 d0 ++ (wV cI cJ ve_0 ve_1 ve_2 ve_3 ve_4 ve_5 ve_6 ve_7 ve_8 ve_9 ve_10 ve_11 ve_12 ve_13 ve_14 ve_15 ve_16 ve_17 ve_18 ve_19 ve0 ++ (wV cI cJ vo_0 vo_1 vo_2 vo_3 vo_4 vo_5 vo_6 vo_7 vo_8 vo_9 vo_10 vo_11 vo_12 vo_13 vo_14 vo_15 vo_16 vo_17 vo_18 vo_19 vo0 ++ (wRC re_0 ve_0 sb_0 re0 ++ (wRC ro_0 vo_0 sb_0 ro0))))))) sz (fun u : (SB) => res = .ok u) (fun u : (SB) => wTV nm_0 sb_0 d_0 ve_0 vo_0 re_0 ro_0 nm0 ++ (wSB cB sb_0 sb_1 u ++ (wSD d_0 sb_0 d0 ++ (wV cI cJ ve_0 ve_1 ve_2 ve_3 ve_4 ve_5 ve_6 ve_7 ve_8 ve_9 ve_10 ve_11 ve_12 ve_13 ve_14 ve_15 ve_16 ve_17 ve_18 ve_19 ve0 ++ (wV cI cJ vo_0 vo_1 vo_2 vo_3 vo_4 vo_5 vo_6 vo_7 vo_8 vo_9 vo_10 vo_11 vo_12 vo_13 vo_14 vo_15 vo_16 vo_17 vo_18 vo_19 vo0 ++ (wRC re_0 ve_0 sb_0 re0 ++ (wRC ro_0 vo_0 sb_0 ro0))))))))) (XC := (fun sz => gXC D (wTV nm_0 sb_0 d_0 ve_0 vo_0 re_0 ro_0 nm0 ++ (wSB cB sb_0 sb_1 sb0 ++ (wSD d_0 sb_0 d0 ++ (wV cI cJ ve_0 ve_1 ve_2 ve_3 ve_4 ve_5 ve_6 ve_7 ve_8 ve_9 ve_10 ve_11 ve_12 ve_13 ve_14 ve_15 ve_16 ve_17 ve_18 ve_19 ve0 ++ (wV cI cJ vo_0 vo_1 vo_2 vo_3 vo_4 vo_5 vo_6 vo_7 vo_8 vo_9 vo_10 vo_11 vo_12 vo_13 vo_14 vo_15 vo_16 vo_17 vo_18 vo_19 vo0 ++ (wRC re_0 ve_0 sb_0 re0 ++ (wRC ro_0 vo_0 sb_0 ro0))))))) sz (fun E => res = .error E))) rfl (by decide) rfl (Nat.le_of_ble_eq_true rfl) rfl ?_
  intro p e s m args below meth c C htab hX hZ
  unfold FX7_cut at hF
  refine g_iload_n (z := 1) C (tdec DX7_cut 0 rfl) rfl rfl rfl ?_
  refine g_if_lt (pt := 15) C (tdec DX7_cut 1 rfl) (by decide) rfl (fun h1 => ?_) (fun h1 => ?_)
  · have hF := o_ifp hF h1
    have hr9 := o_some hF
    subst hr9
    exact g_throw (cls := xIA) C htab hX hZ hfl (by decide) (by decide) (gMem xl_X7_55) (gMem xn_xIA) (gIn xg_X7_57) xb_X7_57 xo_X7_57 rfl rfl (tdec DX7_cut 7 rfl) (tdec DX7_cut 8 rfl) (tdec DX7_cut 9 rfl) (tdec DX7_cut 10 rfl) rfl rfl rfl (by decide) (by decide) (by decide) (by decide)
  · have hF := o_ifn hF h1
    refine g_iload_n (z := 1) C (tdec DX7_cut 2 rfl) rfl rfl rfl ?_
    refine g_aload_n (z := 0) C (tdec DX7_cut 3 rfl) rfl rfl rfl ?_
    refine g_getf (C' := RX7) (T := TX7) (N := 7) (v := .ref sb_0) C 0 0 (gIn iw_X7) rfl rfl (by decide) (gMem fl_X7_12) rfl rfl (tdec DX7_cut 4 rfl) rfl ?_
    obtain ⟨r2, y3, hF⟩ := o_bind hF
    refine g_callViRS (q0 := 1) (S := [wTV nm_0 sb_0 d_0 ve_0 vo_0 re_0 ro_0 nm0, wSB cB sb_0 sb_1 sb0, wSD d_0 sb_0 d0, wV cI cJ ve_0 ve_1 ve_2 ve_3 ve_4 ve_5 ve_6 ve_7 ve_8 ve_9 ve_10 ve_11 ve_12 ve_13 ve_14 ve_15 ve_16 ve_17 ve_18 ve_19 ve0, wV cI cJ vo_0 vo_1 vo_2 vo_3 vo_4 vo_5 vo_6 vo_7 vo_8 vo_9 vo_10 vo_11 vo_12 vo_13 vo_14 vo_15 vo_16 vo_17 vo_18 vo_19 vo0, wRC re_0 ve_0 sb_0 re0, wRC ro_0 vo_0 sb_0 ro0]) (S0 := [wSB cB sb_0 sb_1 sb0]) C (c_X5_length l D cB cI cJ cZ sb_0 sb_1 y3) rfl rfl (gIV ml_X7_123 im_X5_length sl_X5_length in_X5 cd_X5_length) rfl eX5_length rfl ⟨rfl, rfl⟩ ⟨Nat.le_of_ble_eq_true rfl, Nat.le_of_ble_eq_true rfl⟩ rfl rfl rfl [1] rfl rfl rfl (Nat.le_of_ble_eq_true rfl) (tdec DX7_cut 5 rfl) rfl ?_
    refine g_icmp_le (pt := 23) C (tdec DX7_cut 6 rfl) (by decide) rfl (fun h4 => ?_) (fun h4 => ?_)
    · have hF := o_ifp hF h4
      refine g_aload_n (z := 0) C (tdec DX7_cut 11 rfl) rfl rfl rfl ?_
      refine g_getf (C' := RX7) (T := TX7) (N := 7) (v := .ref sb_0) C 0 0 (gIn iw_X7) rfl rfl (by decide) (gMem fl_X7_12) rfl rfl (tdec DX7_cut 12 rfl) rfl ?_
      refine g_iload_n (z := 1) C (tdec DX7_cut 13 rfl) rfl rfl rfl ?_
      obtain ⟨s5, y6, hF⟩ := o_bind hF
      refine g_callVvMS (q0 := 1) (W' := wTV nm_0 sb_0 d_0 ve_0 vo_0 re_0 ro_0 nm0 ++ (wSB cB sb_0 sb_1 s5 ++ (wSD d_0 sb_0 d0 ++ (wV cI cJ ve_0 ve_1 ve_2 ve_3 ve_4 ve_5 ve_6 ve_7 ve_8 ve_9 ve_10 ve_11 ve_12 ve_13 ve_14 ve_15 ve_16 ve_17 ve_18 ve_19 ve0 ++ (wV cI cJ vo_0 vo_1 vo_2 vo_3 vo_4 vo_5 vo_6 vo_7 vo_8 vo_9 vo_10 vo_11 vo_12 vo_13 vo_14 vo_15 vo_16 vo_17 vo_18 vo_19 vo0 ++ (wRC re_0 ve_0 sb_0 re0 ++ (wRC ro_0 vo_0 sb_0 ro0))))))) (S := [wTV nm_0 sb_0 d_0 ve_0 vo_0 re_0 ro_0 nm0, wSB cB sb_0 sb_1 sb0, wSD d_0 sb_0 d0, wV cI cJ ve_0 ve_1 ve_2 ve_3 ve_4 ve_5 ve_6 ve_7 ve_8 ve_9 ve_10 ve_11 ve_12 ve_13 ve_14 ve_15 ve_16 ve_17 ve_18 ve_19 ve0, wV cI cJ vo_0 vo_1 vo_2 vo_3 vo_4 vo_5 vo_6 vo_7 vo_8 vo_9 vo_10 vo_11 vo_12 vo_13 vo_14 vo_15 vo_16 vo_17 vo_18 vo_19 vo0, wRC re_0 ve_0 sb_0 re0, wRC ro_0 vo_0 sb_0 ro0]) (S0 := [wSB cB sb_0 sb_1 sb0]) (S1 := [wSB cB sb_0 sb_1 s5]) (S' := [wTV nm_0 sb_0 d_0 ve_0 vo_0 re_0 ro_0 nm0, wSB cB sb_0 sb_1 s5, wSD d_0 sb_0 d0, wV cI cJ ve_0 ve_1 ve_2 ve_3 ve_4 ve_5 ve_6 ve_7 ve_8 ve_9 ve_10 ve_11 ve_12 ve_13 ve_14 ve_15 ve_16 ve_17 ve_18 ve_19 ve0, wV cI cJ vo_0 vo_1 vo_2 vo_3 vo_4 vo_5 vo_6 vo_7 vo_8 vo_9 vo_10 vo_11 vo_12 vo_13 vo_14 vo_15 vo_16 vo_17 vo_18 vo_19 vo0, wRC re_0 ve_0 sb_0 re0, wRC ro_0 vo_0 sb_0 ro0]) C (c_X5_shorten l D cB cI cJ cZ sb_0 sb_1 y6) rfl rfl (gIV ml_X7_142 im_X5_shorten sl_X5_shorten in_X5 cd_X5_shorten) rfl eX5_shorten rfl ⟨rfl, rfl⟩ ⟨Nat.le_of_ble_eq_true rfl, Nat.le_of_ble_eq_true rfl⟩ rfl rfl rfl [1] rfl rfl rfl rfl (gA_cons aSB gA_nil) rfl rfl (Nat.le_of_ble_eq_true rfl) (tdec DX7_cut 14 rfl) rfl ?_
      have hr9 := o_some hF
      subst hr9
      exact g_vretX s5 C rfl rfl (tdec DX7_cut 15 rfl)
    · have hF := o_ifn hF h4
      have hr9 := o_some hF
      subst hr9
      exact g_throw (cls := xIA) C htab hX hZ hfl (by decide) (by decide) (gMem xl_X7_55) (gMem xn_xIA) (gIn xg_X7_57) xb_X7_57 xo_X7_57 rfl rfl (tdec DX7_cut 7 rfl) (tdec DX7_cut 8 rfl) (tdec DX7_cut 9 rfl) (tdec DX7_cut 10 rfl) rfl rfl rfl (by decide) (by decide) (by decide) (by decide)
def FX7_snap (nm0 : Int64) (sb0 : SB) (d0 : SD) (ve0 : VS) (vo0 : VS) (re0 : RC) (ro0 : RC) (p1 : Int32) (p2 : Int32) (p3 : Int32) : Option (Int64) :=
  (FX7_find nm0 p1).bind fun q2 =>
  (match q2 with
  | none =>
    some (-1)
  | some 0 =>
    (FX6_hasSnapshot ve0 p2).bind fun r3 =>
    if r3 = 0 then
      some (-1)
    else
      if p3 = 0 then
        (FX6_markOf ve0 p2).bind fun r7 =>
        some r7
      else
        if p3 = 1 then
          (FX6_generationOf ve0 p2).bind fun r10 =>
          some ((r10 : Int32).toInt64)
        else
          if p3 = 2 then
            (FX6_blocks ve0).bind fun _ =>
            (FX0_told (VS_b ve0) (4802 + p2)).bind fun r15 =>
            some ((r15 : Int32).toInt64)
          else
            if p3 = 3 then
              (FX6_blocks ve0).bind fun _ =>
              (FX0_birth (VS_b ve0) (4802 + p2)).bind fun r20 =>
              some ((r20 : Int32).toInt64)
            else
              some (-1)
  | some (_ + 1) =>
    (FX6_hasSnapshot vo0 p2).bind fun r22 =>
    if r22 = 0 then
      some (-1)
    else
      if p3 = 0 then
        (FX6_markOf vo0 p2).bind fun r26 =>
        some r26
      else
        if p3 = 1 then
          (FX6_generationOf vo0 p2).bind fun r29 =>
          some ((r29 : Int32).toInt64)
        else
          if p3 = 2 then
            (FX6_blocks vo0).bind fun _ =>
            (FX0_told (VS_b vo0) (4802 + p2)).bind fun r34 =>
            some ((r34 : Int32).toInt64)
          else
            if p3 = 3 then
              (FX6_blocks vo0).bind fun _ =>
              (FX0_birth (VS_b vo0) (4802 + p2)).bind fun r39 =>
              some ((r39 : Int32).toInt64)
            else
              some (-1))
def rX7_snap : Room := { frames := 2, cells := 0, slots := 0, locals := 42 }
set_option maxHeartbeats 4000000 in
set_option maxRecDepth 100000 in
theorem c_X7_snap (l : Launch) (D : va_G) (cB cI cJ cZ : ClassId) (nm_0 sb_0 sb_1 d_0 ve_0 ve_1 ve_2 ve_3 ve_4 ve_5 ve_6 ve_7 ve_8 ve_9 ve_10 ve_11 ve_12 ve_13 ve_14 ve_15 ve_16 ve_17 ve_18 ve_19 vo_0 vo_1 vo_2 vo_3 vo_4 vo_5 vo_6 vo_7 vo_8 vo_9 vo_10 vo_11 vo_12 vo_13 vo_14 vo_15 vo_16 vo_17 vo_18 vo_19 re_0 ro_0 : Nat) {nm0 : Int64} {sb0 : SB} {d0 : SD} {ve0 : VS} {vo0 : VS} {re0 : RC} {ro0 : RC} {p1 : Int32} {p2 : Int32} {p3 : Int32} {res : Int64} (hF : FX7_snap nm0 sb0 d0 ve0 vo0 re0 ro0 p1 p2 p3 = some res) : gRl l yX7_snap wsX7_snap rX7_snap D (gT cB cI cJ cZ) [.ref nm_0, .int p1, .int p2, .int p3] (wTV nm_0 sb_0 d_0 ve_0 vo_0 re_0 ro_0 nm0 ++ (wSB cB sb_0 sb_1 sb0 ++ (wSD d_0 sb_0 d0 ++ (wV cI cJ ve_0 ve_1 ve_2 ve_3 ve_4 ve_5 ve_6 ve_7 ve_8 ve_9 ve_10 ve_11 ve_12 ve_13 ve_14 ve_15 ve_16 ve_17 ve_18 ve_19 ve0 ++ (wV cI cJ vo_0 vo_1 vo_2 vo_3 vo_4 vo_5 vo_6 vo_7 vo_8 vo_9 vo_10 vo_11 vo_12 vo_13 vo_14 vo_15 vo_16 vo_17 vo_18 vo_19 vo0 ++ (wRC re_0 ve_0 sb_0 re0 ++ (wRC ro_0 vo_0 sb_0 ro0))))))) res := by
  refine g_enter (own := RX7) (free := (fun _ _ => False)) (Qc := (fun sz => gRQl res)) (fun _ _ => True) (fun sz => Or.inl rfl) rfl (by decide) rfl (Nat.le_of_ble_eq_true rfl) rfl ?_
  intro p e s m args below meth c C
  unfold FX7_snap at hF
  refine g_aload_n (z := 0) C (tdec DX7_snap 0 rfl) rfl rfl rfl ?_
  refine g_iload_n (z := 1) C (tdec DX7_snap 1 rfl) rfl rfl rfl ?_
  obtain ⟨q2, y1, hF⟩ := o_bind hF
  refine g_callVqRS (q0 := 0) (S := [wTV nm_0 sb_0 d_0 ve_0 vo_0 re_0 ro_0 nm0, wSB cB sb_0 sb_1 sb0, wSD d_0 sb_0 d0, wV cI cJ ve_0 ve_1 ve_2 ve_3 ve_4 ve_5 ve_6 ve_7 ve_8 ve_9 ve_10 ve_11 ve_12 ve_13 ve_14 ve_15 ve_16 ve_17 ve_18 ve_19 ve0, wV cI cJ vo_0 vo_1 vo_2 vo_3 vo_4 vo_5 vo_6 vo_7 vo_8 vo_9 vo_10 vo_11 vo_12 vo_13 vo_14 vo_15 vo_16 vo_17 vo_18 vo_19 vo0, wRC re_0 ve_0 sb_0 re0, wRC ro_0 vo_0 sb_0 ro0]) (S0 := [wTV nm_0 sb_0 d_0 ve_0 vo_0 re_0 ro_0 nm0]) C (c_X7_find l D cB cI cJ cZ nm_0 sb_0 d_0 ve_0 vo_0 re_0 ro_0 y1) rfl rfl (gIV ml_X7_51 im_X7_find sl_X7_find in_X7 cd_X7_find) rfl eX7_find rfl ⟨rfl, rfl⟩ ⟨Nat.le_of_ble_eq_true rfl, Nat.le_of_ble_eq_true rfl⟩ rfl rfl rfl [0] rfl rfl rfl (Nat.le_of_ble_eq_true rfl) (tdec DX7_snap 2 rfl) rfl ?_
  cases q2 with
  | none =>
    refine g_st (st' := [.null]) rfl ?_
    refine g_astoreN (L' := [(4, .null), (0, .ref nm_0), (1, .int p1), (2, .int p2), (3, .int p3)]) C (tdec DX7_snap 3 rfl) (by decide) rfl rfl ?_
    refine g_aloadN (z := 0) C (tdec DX7_snap 4 rfl) rfl rfl ?_
    refine g_ifnullN (pt := 21) C (tdec DX7_snap 5 rfl) (by decide) ?_
    refine g_ldc2 C (gMem kl_X7_145) (tdec DX7_snap 10 rfl) rfl ?_
    have hr9 := o_some hF
    subst hr9
    exact g_lretR C rfl (tdec DX7_snap 11 rfl)
  | some k41 =>
    cases k41 with
    | zero =>
      refine g_st (st' := [.ref ve_0]) rfl ?_
      refine g_astore (L' := [(4, .ref ve_0), (0, .ref nm_0), (1, .int p1), (2, .int p2), (3, .int p3)]) C (tdec DX7_snap 3 rfl) (by decide) rfl rfl ?_
      refine g_aload (z := 0) C (tdec DX7_snap 4 rfl) rfl rfl ?_
      refine g_ifnullR C (tdec DX7_snap 5 rfl) rfl ?_
      refine g_aload (z := 0) C (tdec DX7_snap 6 rfl) rfl rfl ?_
      refine g_iload_n (z := 3) C (tdec DX7_snap 7 rfl) rfl rfl rfl ?_
      obtain ⟨r3, y4, hF⟩ := o_bind hF
      refine g_callViRS (q0 := 4) (S := [wTV nm_0 sb_0 d_0 ve_0 vo_0 re_0 ro_0 nm0, wSB cB sb_0 sb_1 sb0, wSD d_0 sb_0 d0, wV cI cJ ve_0 ve_1 ve_2 ve_3 ve_4 ve_5 ve_6 ve_7 ve_8 ve_9 ve_10 ve_11 ve_12 ve_13 ve_14 ve_15 ve_16 ve_17 ve_18 ve_19 ve0, wV cI cJ vo_0 vo_1 vo_2 vo_3 vo_4 vo_5 vo_6 vo_7 vo_8 vo_9 vo_10 vo_11 vo_12 vo_13 vo_14 vo_15 vo_16 vo_17 vo_18 vo_19 vo0, wRC re_0 ve_0 sb_0 re0, wRC ro_0 vo_0 sb_0 ro0]) (S0 := [wV cI cJ ve_0 ve_1 ve_2 ve_3 ve_4 ve_5 ve_6 ve_7 ve_8 ve_9 ve_10 ve_11 ve_12 ve_13 ve_14 ve_15 ve_16 ve_17 ve_18 ve_19 ve0]) C (c_X6_hasSnapshot l D cB cI cJ cZ ve_0 ve_1 ve_2 ve_3 ve_4 ve_5 ve_6 ve_7 ve_8 ve_9 ve_10 ve_11 ve_12 ve_13 ve_14 ve_15 ve_16 ve_17 ve_18 ve_19 y4) rfl rfl (gIV ml_X7_88 im_X6_hasSnapshot sl_X6_hasSnapshot in_X6 cd_X6_hasSnapshot) rfl eX6_hasSnapshot rfl ⟨rfl, rfl⟩ ⟨Nat.le_of_ble_eq_true rfl, Nat.le_of_ble_eq_true rfl⟩ rfl rfl rfl [3] rfl rfl rfl (Nat.le_of_ble_eq_true rfl) (tdec DX7_snap 8 rfl) rfl ?_
      refine g_if_ne (pt := 25) C (tdec DX7_snap 9 rfl) (by decide) rfl (fun h5 => ?_) (fun h5 => ?_)
      · have hF := o_ifn hF h5
        refine g_iload_n (z := 4) C (tdec DX7_snap 12 rfl) rfl rfl rfl ?_
        by_cases h6 : p3 = 0
        · have hF := o_ifp hF h6
          refine g_switchIn (pt := 56) C (0) (tdec DX7_snap 13 rfl) (h6.trans (by decide)) (by decide) (by decide) (by decide) rfl (by decide) ?_
          refine g_aload (z := 0) C (tdec DX7_snap 14 rfl) rfl rfl ?_
          refine g_iload_n (z := 3) C (tdec DX7_snap 15 rfl) rfl rfl rfl ?_
          obtain ⟨r7, y8, hF⟩ := o_bind hF
          refine g_callVlRS (q0 := 4) (S := [wTV nm_0 sb_0 d_0 ve_0 vo_0 re_0 ro_0 nm0, wSB cB sb_0 sb_1 sb0, wSD d_0 sb_0 d0, wV cI cJ ve_0 ve_1 ve_2 ve_3 ve_4 ve_5 ve_6 ve_7 ve_8 ve_9 ve_10 ve_11 ve_12 ve_13 ve_14 ve_15 ve_16 ve_17 ve_18 ve_19 ve0, wV cI cJ vo_0 vo_1 vo_2 vo_3 vo_4 vo_5 vo_6 vo_7 vo_8 vo_9 vo_10 vo_11 vo_12 vo_13 vo_14 vo_15 vo_16 vo_17 vo_18 vo_19 vo0, wRC re_0 ve_0 sb_0 re0, wRC ro_0 vo_0 sb_0 ro0]) (S0 := [wV cI cJ ve_0 ve_1 ve_2 ve_3 ve_4 ve_5 ve_6 ve_7 ve_8 ve_9 ve_10 ve_11 ve_12 ve_13 ve_14 ve_15 ve_16 ve_17 ve_18 ve_19 ve0]) C (c_X6_markOf l D cB cI cJ cZ ve_0 ve_1 ve_2 ve_3 ve_4 ve_5 ve_6 ve_7 ve_8 ve_9 ve_10 ve_11 ve_12 ve_13 ve_14 ve_15 ve_16 ve_17 ve_18 ve_19 y8) rfl rfl (gIV ml_X7_147 im_X6_markOf sl_X6_markOf in_X6 cd_X6_markOf) rfl eX6_markOf rfl ⟨rfl, rfl⟩ ⟨Nat.le_of_ble_eq_true rfl, Nat.le_of_ble_eq_true rfl⟩ rfl rfl rfl [3] rfl rfl rfl (Nat.le_of_ble_eq_true rfl) (tdec DX7_snap 16 rfl) rfl ?_
          have hr9 := o_some hF
          subst hr9
          exact g_lretR C rfl (tdec DX7_snap 17 rfl)
        · have hF := o_ifn hF h6
          by_cases h9 : p3 = 1
          · have hF := o_ifp hF h9
            refine g_switchIn (pt := 63) C (1) (tdec DX7_snap 13 rfl) (h9.trans (by decide)) (by decide) (by decide) (by decide) rfl (by decide) ?_
            refine g_aload (z := 0) C (tdec DX7_snap 18 rfl) rfl rfl ?_
            refine g_iload_n (z := 3) C (tdec DX7_snap 19 rfl) rfl rfl rfl ?_
            obtain ⟨r10, y11, hF⟩ := o_bind hF
            refine g_callViRS (q0 := 4) (S := [wTV nm_0 sb_0 d_0 ve_0 vo_0 re_0 ro_0 nm0, wSB cB sb_0 sb_1 sb0, wSD d_0 sb_0 d0, wV cI cJ ve_0 ve_1 ve_2 ve_3 ve_4 ve_5 ve_6 ve_7 ve_8 ve_9 ve_10 ve_11 ve_12 ve_13 ve_14 ve_15 ve_16 ve_17 ve_18 ve_19 ve0, wV cI cJ vo_0 vo_1 vo_2 vo_3 vo_4 vo_5 vo_6 vo_7 vo_8 vo_9 vo_10 vo_11 vo_12 vo_13 vo_14 vo_15 vo_16 vo_17 vo_18 vo_19 vo0, wRC re_0 ve_0 sb_0 re0, wRC ro_0 vo_0 sb_0 ro0]) (S0 := [wV cI cJ ve_0 ve_1 ve_2 ve_3 ve_4 ve_5 ve_6 ve_7 ve_8 ve_9 ve_10 ve_11 ve_12 ve_13 ve_14 ve_15 ve_16 ve_17 ve_18 ve_19 ve0]) C (c_X6_generationOf l D cB cI cJ cZ ve_0 ve_1 ve_2 ve_3 ve_4 ve_5 ve_6 ve_7 ve_8 ve_9 ve_10 ve_11 ve_12 ve_13 ve_14 ve_15 ve_16 ve_17 ve_18 ve_19 y11) rfl rfl (gIV ml_X7_151 im_X6_generationOf sl_X6_generationOf in_X6 cd_X6_generationOf) rfl eX6_generationOf rfl ⟨rfl, rfl⟩ ⟨Nat.le_of_ble_eq_true rfl, Nat.le_of_ble_eq_true rfl⟩ rfl rfl rfl [3] rfl rfl rfl (Nat.le_of_ble_eq_true rfl) (tdec DX7_snap 20 rfl) rfl ?_
            refine g_i2l C (tdec DX7_snap 21 rfl) rfl ?_
            have hr9 := o_some hF
            subst hr9
            exact g_lretR C rfl (tdec DX7_snap 22 rfl)
          · have hF := o_ifn hF h9
            by_cases h12 : p3 = 2
            · have hF := o_ifp hF h12
              refine g_switchIn (pt := 71) C (2) (tdec DX7_snap 13 rfl) (h12.trans (by decide)) (by decide) (by decide) (by decide) rfl (by decide) ?_
              refine g_aload (z := 0) C (tdec DX7_snap 23 rfl) rfl rfl ?_
              obtain ⟨q14, y13, hF⟩ := o_bind hF
              have q9 := o_some y13
              subst q9
              refine g_callVqRS (q0 := 4) (S := [wTV nm_0 sb_0 d_0 ve_0 vo_0 re_0 ro_0 nm0, wSB cB sb_0 sb_1 sb0, wSD d_0 sb_0 d0, wV cI cJ ve_0 ve_1 ve_2 ve_3 ve_4 ve_5 ve_6 ve_7 ve_8 ve_9 ve_10 ve_11 ve_12 ve_13 ve_14 ve_15 ve_16 ve_17 ve_18 ve_19 ve0, wV cI cJ vo_0 vo_1 vo_2 vo_3 vo_4 vo_5 vo_6 vo_7 vo_8 vo_9 vo_10 vo_11 vo_12 vo_13 vo_14 vo_15 vo_16 vo_17 vo_18 vo_19 vo0, wRC re_0 ve_0 sb_0 re0, wRC ro_0 vo_0 sb_0 ro0]) (S0 := [wV cI cJ ve_0 ve_1 ve_2 ve_3 ve_4 ve_5 ve_6 ve_7 ve_8 ve_9 ve_10 ve_11 ve_12 ve_13 ve_14 ve_15 ve_16 ve_17 ve_18 ve_19 ve0]) C (c_X6_blocks l D cB cI cJ cZ ve_0 ve_1 ve_2 ve_3 ve_4 ve_5 ve_6 ve_7 ve_8 ve_9 ve_10 ve_11 ve_12 ve_13 ve_14 ve_15 ve_16 ve_17 ve_18 ve_19 y13) rfl rfl (gIV ml_X7_154 im_X6_blocks sl_X6_blocks in_X6 cd_X6_blocks) rfl eX6_blocks rfl ⟨rfl, rfl⟩ ⟨Nat.le_of_ble_eq_true rfl, Nat.le_of_ble_eq_true rfl⟩ rfl rfl rfl [3] rfl rfl rfl (Nat.le_of_ble_eq_true rfl) (tdec DX7_snap 24 rfl) rfl ?_
              refine g_sipush (v := 4802) C (tdec DX7_snap 25 rfl) (by decide) rfl ?_
              refine g_iload_n (z := 3) C (tdec DX7_snap 26 rfl) rfl rfl rfl ?_
              refine g_iadd C (tdec DX7_snap 27 rfl) rfl ?_
              obtain ⟨r15, y16, hF⟩ := o_bind hF
              refine g_callViRS (q0 := 9) (S := [wTV nm_0 sb_0 d_0 ve_0 vo_0 re_0 ro_0 nm0, wSB cB sb_0 sb_1 sb0, wSD d_0 sb_0 d0, wV0 cI cJ ve_0 ve_1 ve_2 ve_3 ve_4 ve_5 ve0, wB cI cJ ve_5 ve_6 ve_7 ve_8 ve_9 ve_10 ve_11 ve_12 ve_13 ve_14 ve_15 ve_16 ve_17 ve_18 ve_19 (VS_b ve0), wV cI cJ vo_0 vo_1 vo_2 vo_3 vo_4 vo_5 vo_6 vo_7 vo_8 vo_9 vo_10 vo_11 vo_12 vo_13 vo_14 vo_15 vo_16 vo_17 vo_18 vo_19 vo0, wRC re_0 ve_0 sb_0 re0, wRC ro_0 vo_0 sb_0 ro0]) (S0 := [wB cI cJ ve_5 ve_6 ve_7 ve_8 ve_9 ve_10 ve_11 ve_12 ve_13 ve_14 ve_15 ve_16 ve_17 ve_18 ve_19 (VS_b ve0)]) C (c_X0_told l D cB cI cJ cZ ve_5 ve_6 ve_7 ve_8 ve_9 ve_10 ve_11 ve_12 ve_13 ve_14 ve_15 ve_16 ve_17 ve_18 ve_19 y16) rfl rfl (gIV ml_X7_158 im_X0_told sl_X0_told in_X0 cd_X0_told) rfl eX0_told rfl ⟨rfl, rfl⟩ ⟨Nat.le_of_ble_eq_true rfl, Nat.le_of_ble_eq_true rfl⟩ rfl rfl rfl [4] rfl rfl rfl (Nat.le_of_ble_eq_true rfl) (tdec DX7_snap 28 rfl) rfl ?_
              refine g_i2l C (tdec DX7_snap 29 rfl) rfl ?_
              have hr9 := o_some hF
              subst hr9
              exact g_lretR C rfl (tdec DX7_snap 30 rfl)
            · have hF := o_ifn hF h12
              by_cases h17 : p3 = 3
              · have hF := o_ifp hF h17
                refine g_switchIn (pt := 86) C (3) (tdec DX7_snap 13 rfl) (h17.trans (by decide)) (by decide) (by decide) (by decide) rfl (by decide) ?_
                refine g_aload (z := 0) C (tdec DX7_snap 31 rfl) rfl rfl ?_
                obtain ⟨q19, y18, hF⟩ := o_bind hF
                have q9 := o_some y18
                subst q9
                refine g_callVqRS (q0 := 4) (S := [wTV nm_0 sb_0 d_0 ve_0 vo_0 re_0 ro_0 nm0, wSB cB sb_0 sb_1 sb0, wSD d_0 sb_0 d0, wV cI cJ ve_0 ve_1 ve_2 ve_3 ve_4 ve_5 ve_6 ve_7 ve_8 ve_9 ve_10 ve_11 ve_12 ve_13 ve_14 ve_15 ve_16 ve_17 ve_18 ve_19 ve0, wV cI cJ vo_0 vo_1 vo_2 vo_3 vo_4 vo_5 vo_6 vo_7 vo_8 vo_9 vo_10 vo_11 vo_12 vo_13 vo_14 vo_15 vo_16 vo_17 vo_18 vo_19 vo0, wRC re_0 ve_0 sb_0 re0, wRC ro_0 vo_0 sb_0 ro0]) (S0 := [wV cI cJ ve_0 ve_1 ve_2 ve_3 ve_4 ve_5 ve_6 ve_7 ve_8 ve_9 ve_10 ve_11 ve_12 ve_13 ve_14 ve_15 ve_16 ve_17 ve_18 ve_19 ve0]) C (c_X6_blocks l D cB cI cJ cZ ve_0 ve_1 ve_2 ve_3 ve_4 ve_5 ve_6 ve_7 ve_8 ve_9 ve_10 ve_11 ve_12 ve_13 ve_14 ve_15 ve_16 ve_17 ve_18 ve_19 y18) rfl rfl (gIV ml_X7_154 im_X6_blocks sl_X6_blocks in_X6 cd_X6_blocks) rfl eX6_blocks rfl ⟨rfl, rfl⟩ ⟨Nat.le_of_ble_eq_true rfl, Nat.le_of_ble_eq_true rfl⟩ rfl rfl rfl [3] rfl rfl rfl (Nat.le_of_ble_eq_true rfl) (tdec DX7_snap 32 rfl) rfl ?_
                refine g_sipush (v := 4802) C (tdec DX7_snap 33 rfl) (by decide) rfl ?_
                refine g_iload_n (z := 3) C (tdec DX7_snap 34 rfl) rfl rfl rfl ?_
                refine g_iadd C (tdec DX7_snap 35 rfl) rfl ?_
                obtain ⟨r20, y21, hF⟩ := o_bind hF
                refine g_callViRS (q0 := 9) (S := [wTV nm_0 sb_0 d_0 ve_0 vo_0 re_0 ro_0 nm0, wSB cB sb_0 sb_1 sb0, wSD d_0 sb_0 d0, wV0 cI cJ ve_0 ve_1 ve_2 ve_3 ve_4 ve_5 ve0, wB cI cJ ve_5 ve_6 ve_7 ve_8 ve_9 ve_10 ve_11 ve_12 ve_13 ve_14 ve_15 ve_16 ve_17 ve_18 ve_19 (VS_b ve0), wV cI cJ vo_0 vo_1 vo_2 vo_3 vo_4 vo_5 vo_6 vo_7 vo_8 vo_9 vo_10 vo_11 vo_12 vo_13 vo_14 vo_15 vo_16 vo_17 vo_18 vo_19 vo0, wRC re_0 ve_0 sb_0 re0, wRC ro_0 vo_0 sb_0 ro0]) (S0 := [wB cI cJ ve_5 ve_6 ve_7 ve_8 ve_9 ve_10 ve_11 ve_12 ve_13 ve_14 ve_15 ve_16 ve_17 ve_18 ve_19 (VS_b ve0)]) C (c_X0_birth l D cB cI cJ cZ ve_5 ve_6 ve_7 ve_8 ve_9 ve_10 ve_11 ve_12 ve_13 ve_14 ve_15 ve_16 ve_17 ve_18 ve_19 y21) rfl rfl (gIV ml_X7_163 im_X0_birth sl_X0_birth in_X0 cd_X0_birth) rfl eX0_birth rfl ⟨rfl, rfl⟩ ⟨Nat.le_of_ble_eq_true rfl, Nat.le_of_ble_eq_true rfl⟩ rfl rfl rfl [4] rfl rfl rfl (Nat.le_of_ble_eq_true rfl) (tdec DX7_snap 36 rfl) rfl ?_
                refine g_i2l C (tdec DX7_snap 37 rfl) rfl ?_
                have hr9 := o_some hF
                subst hr9
                exact g_lretR C rfl (tdec DX7_snap 38 rfl)
              · have hF := o_ifn hF h17
                refine g_switchOut (pt := 101) C (tdec DX7_snap 13 rfl) (sw_out4 0 (fun z => h6 (z.trans (by decide))) (fun z => h9 (z.trans (by decide))) (fun z => h12 (z.trans (by decide))) (fun z => h17 (z.trans (by decide)))) (by decide) ?_
                refine g_ldc2 C (gMem kl_X7_145) (tdec DX7_snap 39 rfl) rfl ?_
                have hr9 := o_some hF
                subst hr9
                exact g_lretR C rfl (tdec DX7_snap 40 rfl)
      · have hF := o_ifp hF h5
        refine g_ldc2 C (gMem kl_X7_145) (tdec DX7_snap 10 rfl) rfl ?_
        have hr9 := o_some hF
        subst hr9
        exact g_lretR C rfl (tdec DX7_snap 11 rfl)
    | succ k41 =>
      refine g_st (st' := [.ref vo_0]) rfl ?_
      refine g_astore (L' := [(4, .ref vo_0), (0, .ref nm_0), (1, .int p1), (2, .int p2), (3, .int p3)]) C (tdec DX7_snap 3 rfl) (by decide) rfl rfl ?_
      refine g_aload (z := 0) C (tdec DX7_snap 4 rfl) rfl rfl ?_
      refine g_ifnullR C (tdec DX7_snap 5 rfl) rfl ?_
      refine g_aload (z := 0) C (tdec DX7_snap 6 rfl) rfl rfl ?_
      refine g_iload_n (z := 3) C (tdec DX7_snap 7 rfl) rfl rfl rfl ?_
      obtain ⟨r22, y23, hF⟩ := o_bind hF
      refine g_callViRS (q0 := 24) (S := [wTV nm_0 sb_0 d_0 ve_0 vo_0 re_0 ro_0 nm0, wSB cB sb_0 sb_1 sb0, wSD d_0 sb_0 d0, wV cI cJ ve_0 ve_1 ve_2 ve_3 ve_4 ve_5 ve_6 ve_7 ve_8 ve_9 ve_10 ve_11 ve_12 ve_13 ve_14 ve_15 ve_16 ve_17 ve_18 ve_19 ve0, wV cI cJ vo_0 vo_1 vo_2 vo_3 vo_4 vo_5 vo_6 vo_7 vo_8 vo_9 vo_10 vo_11 vo_12 vo_13 vo_14 vo_15 vo_16 vo_17 vo_18 vo_19 vo0, wRC re_0 ve_0 sb_0 re0, wRC ro_0 vo_0 sb_0 ro0]) (S0 := [wV cI cJ vo_0 vo_1 vo_2 vo_3 vo_4 vo_5 vo_6 vo_7 vo_8 vo_9 vo_10 vo_11 vo_12 vo_13 vo_14 vo_15 vo_16 vo_17 vo_18 vo_19 vo0]) C (c_X6_hasSnapshot l D cB cI cJ cZ vo_0 vo_1 vo_2 vo_3 vo_4 vo_5 vo_6 vo_7 vo_8 vo_9 vo_10 vo_11 vo_12 vo_13 vo_14 vo_15 vo_16 vo_17 vo_18 vo_19 y23) rfl rfl (gIV ml_X7_88 im_X6_hasSnapshot sl_X6_hasSnapshot in_X6 cd_X6_hasSnapshot) rfl eX6_hasSnapshot rfl ⟨rfl, rfl⟩ ⟨Nat.le_of_ble_eq_true rfl, Nat.le_of_ble_eq_true rfl⟩ rfl rfl rfl [4] rfl rfl rfl (Nat.le_of_ble_eq_true rfl) (tdec DX7_snap 8 rfl) rfl ?_
      refine g_if_ne (pt := 25) C (tdec DX7_snap 9 rfl) (by decide) rfl (fun h24 => ?_) (fun h24 => ?_)
      · have hF := o_ifn hF h24
        refine g_iload_n (z := 4) C (tdec DX7_snap 12 rfl) rfl rfl rfl ?_
        by_cases h25 : p3 = 0
        · have hF := o_ifp hF h25
          refine g_switchIn (pt := 56) C (0) (tdec DX7_snap 13 rfl) (h25.trans (by decide)) (by decide) (by decide) (by decide) rfl (by decide) ?_
          refine g_aload (z := 0) C (tdec DX7_snap 14 rfl) rfl rfl ?_
          refine g_iload_n (z := 3) C (tdec DX7_snap 15 rfl) rfl rfl rfl ?_
          obtain ⟨r26, y27, hF⟩ := o_bind hF
          refine g_callVlRS (q0 := 24) (S := [wTV nm_0 sb_0 d_0 ve_0 vo_0 re_0 ro_0 nm0, wSB cB sb_0 sb_1 sb0, wSD d_0 sb_0 d0, wV cI cJ ve_0 ve_1 ve_2 ve_3 ve_4 ve_5 ve_6 ve_7 ve_8 ve_9 ve_10 ve_11 ve_12 ve_13 ve_14 ve_15 ve_16 ve_17 ve_18 ve_19 ve0, wV cI cJ vo_0 vo_1 vo_2 vo_3 vo_4 vo_5 vo_6 vo_7 vo_8 vo_9 vo_10 vo_11 vo_12 vo_13 vo_14 vo_15 vo_16 vo_17 vo_18 vo_19 vo0, wRC re_0 ve_0 sb_0 re0, wRC ro_0 vo_0 sb_0 ro0]) (S0 := [wV cI cJ vo_0 vo_1 vo_2 vo_3 vo_4 vo_5 vo_6 vo_7 vo_8 vo_9 vo_10 vo_11 vo_12 vo_13 vo_14 vo_15 vo_16 vo_17 vo_18 vo_19 vo0]) C (c_X6_markOf l D cB cI cJ cZ vo_0 vo_1 vo_2 vo_3 vo_4 vo_5 vo_6 vo_7 vo_8 vo_9 vo_10 vo_11 vo_12 vo_13 vo_14 vo_15 vo_16 vo_17 vo_18 vo_19 y27) rfl rfl (gIV ml_X7_147 im_X6_markOf sl_X6_markOf in_X6 cd_X6_markOf) rfl eX6_markOf rfl ⟨rfl, rfl⟩ ⟨Nat.le_of_ble_eq_true rfl, Nat.le_of_ble_eq_true rfl⟩ rfl rfl rfl [4] rfl rfl rfl (Nat.le_of_ble_eq_true rfl) (tdec DX7_snap 16 rfl) rfl ?_
          have hr9 := o_some hF
          subst hr9
          exact g_lretR C rfl (tdec DX7_snap 17 rfl)
        · have hF := o_ifn hF h25
          by_cases h28 : p3 = 1
          · have hF := o_ifp hF h28
            refine g_switchIn (pt := 63) C (1) (tdec DX7_snap 13 rfl) (h28.trans (by decide)) (by decide) (by decide) (by decide) rfl (by decide) ?_
            refine g_aload (z := 0) C (tdec DX7_snap 18 rfl) rfl rfl ?_
            refine g_iload_n (z := 3) C (tdec DX7_snap 19 rfl) rfl rfl rfl ?_
            obtain ⟨r29, y30, hF⟩ := o_bind hF
            refine g_callViRS (q0 := 24) (S := [wTV nm_0 sb_0 d_0 ve_0 vo_0 re_0 ro_0 nm0, wSB cB sb_0 sb_1 sb0, wSD d_0 sb_0 d0, wV cI cJ ve_0 ve_1 ve_2 ve_3 ve_4 ve_5 ve_6 ve_7 ve_8 ve_9 ve_10 ve_11 ve_12 ve_13 ve_14 ve_15 ve_16 ve_17 ve_18 ve_19 ve0, wV cI cJ vo_0 vo_1 vo_2 vo_3 vo_4 vo_5 vo_6 vo_7 vo_8 vo_9 vo_10 vo_11 vo_12 vo_13 vo_14 vo_15 vo_16 vo_17 vo_18 vo_19 vo0, wRC re_0 ve_0 sb_0 re0, wRC ro_0 vo_0 sb_0 ro0]) (S0 := [wV cI cJ vo_0 vo_1 vo_2 vo_3 vo_4 vo_5 vo_6 vo_7 vo_8 vo_9 vo_10 vo_11 vo_12 vo_13 vo_14 vo_15 vo_16 vo_17 vo_18 vo_19 vo0]) C (c_X6_generationOf l D cB cI cJ cZ vo_0 vo_1 vo_2 vo_3 vo_4 vo_5 vo_6 vo_7 vo_8 vo_9 vo_10 vo_11 vo_12 vo_13 vo_14 vo_15 vo_16 vo_17 vo_18 vo_19 y30) rfl rfl (gIV ml_X7_151 im_X6_generationOf sl_X6_generationOf in_X6 cd_X6_generationOf) rfl eX6_generationOf rfl ⟨rfl, rfl⟩ ⟨Nat.le_of_ble_eq_true rfl, Nat.le_of_ble_eq_true rfl⟩ rfl rfl rfl [4] rfl rfl rfl (Nat.le_of_ble_eq_true rfl) (tdec DX7_snap 20 rfl) rfl ?_
            refine g_i2l C (tdec DX7_snap 21 rfl) rfl ?_
            have hr9 := o_some hF
            subst hr9
            exact g_lretR C rfl (tdec DX7_snap 22 rfl)
          · have hF := o_ifn hF h28
            by_cases h31 : p3 = 2
            · have hF := o_ifp hF h31
              refine g_switchIn (pt := 71) C (2) (tdec DX7_snap 13 rfl) (h31.trans (by decide)) (by decide) (by decide) (by decide) rfl (by decide) ?_
              refine g_aload (z := 0) C (tdec DX7_snap 23 rfl) rfl rfl ?_
              obtain ⟨q33, y32, hF⟩ := o_bind hF
              have q9 := o_some y32
              subst q9
              refine g_callVqRS (q0 := 24) (S := [wTV nm_0 sb_0 d_0 ve_0 vo_0 re_0 ro_0 nm0, wSB cB sb_0 sb_1 sb0, wSD d_0 sb_0 d0, wV cI cJ ve_0 ve_1 ve_2 ve_3 ve_4 ve_5 ve_6 ve_7 ve_8 ve_9 ve_10 ve_11 ve_12 ve_13 ve_14 ve_15 ve_16 ve_17 ve_18 ve_19 ve0, wV cI cJ vo_0 vo_1 vo_2 vo_3 vo_4 vo_5 vo_6 vo_7 vo_8 vo_9 vo_10 vo_11 vo_12 vo_13 vo_14 vo_15 vo_16 vo_17 vo_18 vo_19 vo0, wRC re_0 ve_0 sb_0 re0, wRC ro_0 vo_0 sb_0 ro0]) (S0 := [wV cI cJ vo_0 vo_1 vo_2 vo_3 vo_4 vo_5 vo_6 vo_7 vo_8 vo_9 vo_10 vo_11 vo_12 vo_13 vo_14 vo_15 vo_16 vo_17 vo_18 vo_19 vo0]) C (c_X6_blocks l D cB cI cJ cZ vo_0 vo_1 vo_2 vo_3 vo_4 vo_5 vo_6 vo_7 vo_8 vo_9 vo_10 vo_11 vo_12 vo_13 vo_14 vo_15 vo_16 vo_17 vo_18 vo_19 y32) rfl rfl (gIV ml_X7_154 im_X6_blocks sl_X6_blocks in_X6 cd_X6_blocks) rfl eX6_blocks rfl ⟨rfl, rfl⟩ ⟨Nat.le_of_ble_eq_true rfl, Nat.le_of_ble_eq_true rfl⟩ rfl rfl rfl [4] rfl rfl rfl (Nat.le_of_ble_eq_true rfl) (tdec DX7_snap 24 rfl) rfl ?_
              refine g_sipush (v := 4802) C (tdec DX7_snap 25 rfl) (by decide) rfl ?_
              refine g_iload_n (z := 3) C (tdec DX7_snap 26 rfl) rfl rfl rfl ?_
              refine g_iadd C (tdec DX7_snap 27 rfl) rfl ?_
              obtain ⟨r34, y35, hF⟩ := o_bind hF
              refine g_callViRS (q0 := 29) (S := [wTV nm_0 sb_0 d_0 ve_0 vo_0 re_0 ro_0 nm0, wSB cB sb_0 sb_1 sb0, wSD d_0 sb_0 d0, wV cI cJ ve_0 ve_1 ve_2 ve_3 ve_4 ve_5 ve_6 ve_7 ve_8 ve_9 ve_10 ve_11 ve_12 ve_13 ve_14 ve_15 ve_16 ve_17 ve_18 ve_19 ve0, wV0 cI cJ vo_0 vo_1 vo_2 vo_3 vo_4 vo_5 vo0, wB cI cJ vo_5 vo_6 vo_7 vo_8 vo_9 vo_10 vo_11 vo_12 vo_13 vo_14 vo_15 vo_16 vo_17 vo_18 vo_19 (VS_b vo0), wRC re_0 ve_0 sb_0 re0, wRC ro_0 vo_0 sb_0 ro0]) (S0 := [wB cI cJ vo_5 vo_6 vo_7 vo_8 vo_9 vo_10 vo_11 vo_12 vo_13 vo_14 vo_15 vo_16 vo_17 vo_18 vo_19 (VS_b vo0)]) C (c_X0_told l D cB cI cJ cZ vo_5 vo_6 vo_7 vo_8 vo_9 vo_10 vo_11 vo_12 vo_13 vo_14 vo_15 vo_16 vo_17 vo_18 vo_19 y35) rfl rfl (gIV ml_X7_158 im_X0_told sl_X0_told in_X0 cd_X0_told) rfl eX0_told rfl ⟨rfl, rfl⟩ ⟨Nat.le_of_ble_eq_true rfl, Nat.le_of_ble_eq_true rfl⟩ rfl rfl rfl [5] rfl rfl rfl (Nat.le_of_ble_eq_true rfl) (tdec DX7_snap 28 rfl) rfl ?_
              refine g_i2l C (tdec DX7_snap 29 rfl) rfl ?_
              have hr9 := o_some hF
              subst hr9
              exact g_lretR C rfl (tdec DX7_snap 30 rfl)
            · have hF := o_ifn hF h31
              by_cases h36 : p3 = 3
              · have hF := o_ifp hF h36
                refine g_switchIn (pt := 86) C (3) (tdec DX7_snap 13 rfl) (h36.trans (by decide)) (by decide) (by decide) (by decide) rfl (by decide) ?_
                refine g_aload (z := 0) C (tdec DX7_snap 31 rfl) rfl rfl ?_
                obtain ⟨q38, y37, hF⟩ := o_bind hF
                have q9 := o_some y37
                subst q9
                refine g_callVqRS (q0 := 24) (S := [wTV nm_0 sb_0 d_0 ve_0 vo_0 re_0 ro_0 nm0, wSB cB sb_0 sb_1 sb0, wSD d_0 sb_0 d0, wV cI cJ ve_0 ve_1 ve_2 ve_3 ve_4 ve_5 ve_6 ve_7 ve_8 ve_9 ve_10 ve_11 ve_12 ve_13 ve_14 ve_15 ve_16 ve_17 ve_18 ve_19 ve0, wV cI cJ vo_0 vo_1 vo_2 vo_3 vo_4 vo_5 vo_6 vo_7 vo_8 vo_9 vo_10 vo_11 vo_12 vo_13 vo_14 vo_15 vo_16 vo_17 vo_18 vo_19 vo0, wRC re_0 ve_0 sb_0 re0, wRC ro_0 vo_0 sb_0 ro0]) (S0 := [wV cI cJ vo_0 vo_1 vo_2 vo_3 vo_4 vo_5 vo_6 vo_7 vo_8 vo_9 vo_10 vo_11 vo_12 vo_13 vo_14 vo_15 vo_16 vo_17 vo_18 vo_19 vo0]) C (c_X6_blocks l D cB cI cJ cZ vo_0 vo_1 vo_2 vo_3 vo_4 vo_5 vo_6 vo_7 vo_8 vo_9 vo_10 vo_11 vo_12 vo_13 vo_14 vo_15 vo_16 vo_17 vo_18 vo_19 y37) rfl rfl (gIV ml_X7_154 im_X6_blocks sl_X6_blocks in_X6 cd_X6_blocks) rfl eX6_blocks rfl ⟨rfl, rfl⟩ ⟨Nat.le_of_ble_eq_true rfl, Nat.le_of_ble_eq_true rfl⟩ rfl rfl rfl [4] rfl rfl rfl (Nat.le_of_ble_eq_true rfl) (tdec DX7_snap 32 rfl) rfl ?_
                refine g_sipush (v := 4802) C (tdec DX7_snap 33 rfl) (by decide) rfl ?_
                refine g_iload_n (z := 3) C (tdec DX7_snap 34 rfl) rfl rfl rfl ?_
                refine g_iadd C (tdec DX7_snap 35 rfl) rfl ?_
                obtain ⟨r39, y40, hF⟩ := o_bind hF
                refine g_callViRS (q0 := 29) (S := [wTV nm_0 sb_0 d_0 ve_0 vo_0 re_0 ro_0 nm0, wSB cB sb_0 sb_1 sb0, wSD d_0 sb_0 d0, wV cI cJ ve_0 ve_1 ve_2 ve_3 ve_4 ve_5 ve_6 ve_7 ve_8 ve_9 ve_10 ve_11 ve_12 ve_13 ve_14 ve_15 ve_16 ve_17 ve_18 ve_19 ve0, wV0 cI cJ vo_0 vo_1 vo_2 vo_3 vo_4 vo_5 vo0, wB cI cJ vo_5 vo_6 vo_7 vo_8 vo_9 vo_10 vo_11 vo_12 vo_13 vo_14 vo_15 vo_16 vo_17 vo_18 vo_19 (VS_b vo0), wRC re_0 ve_0 sb_0 re0, wRC ro_0 vo_0 sb_0 ro0]) (S0 := [wB cI cJ vo_5 vo_6 vo_7 vo_8 vo_9 vo_10 vo_11 vo_12 vo_13 vo_14 vo_15 vo_16 vo_17 vo_18 vo_19 (VS_b vo0)]) C (c_X0_birth l D cB cI cJ cZ vo_5 vo_6 vo_7 vo_8 vo_9 vo_10 vo_11 vo_12 vo_13 vo_14 vo_15 vo_16 vo_17 vo_18 vo_19 y40) rfl rfl (gIV ml_X7_163 im_X0_birth sl_X0_birth in_X0 cd_X0_birth) rfl eX0_birth rfl ⟨rfl, rfl⟩ ⟨Nat.le_of_ble_eq_true rfl, Nat.le_of_ble_eq_true rfl⟩ rfl rfl rfl [5] rfl rfl rfl (Nat.le_of_ble_eq_true rfl) (tdec DX7_snap 36 rfl) rfl ?_
                refine g_i2l C (tdec DX7_snap 37 rfl) rfl ?_
                have hr9 := o_some hF
                subst hr9
                exact g_lretR C rfl (tdec DX7_snap 38 rfl)
              · have hF := o_ifn hF h36
                refine g_switchOut (pt := 101) C (tdec DX7_snap 13 rfl) (sw_out4 0 (fun z => h25 (z.trans (by decide))) (fun z => h28 (z.trans (by decide))) (fun z => h31 (z.trans (by decide))) (fun z => h36 (z.trans (by decide)))) (by decide) ?_
                refine g_ldc2 C (gMem kl_X7_145) (tdec DX7_snap 39 rfl) rfl ?_
                have hr9 := o_some hF
                subst hr9
                exact g_lretR C rfl (tdec DX7_snap 40 rfl)
      · have hF := o_ifp hF h24
        refine g_ldc2 C (gMem kl_X7_145) (tdec DX7_snap 10 rfl) rfl ?_
        have hr9 := o_some hF
        subst hr9
        exact g_lretR C rfl (tdec DX7_snap 11 rfl)
def FX7_block (nm0 : Int64) (sb0 : SB) (d0 : SD) (ve0 : VS) (vo0 : VS) (re0 : RC) (ro0 : RC) (p1 : Int32) (p2 : Int32) (p3 : Int32) : Option (Int32) :=
  (FX7_find nm0 p1).bind fun q2 =>
  (match q2 with
  | none =>
    some (-1)
  | some 0 =>
    (FX6_blocks ve0).bind fun _ =>
    (FX0_has (VS_b ve0) p2).bind fun r5 =>
    if r5 = 0 then
      some (-1)
    else
      if p3 = 0 then
        (FX6_blocks ve0).bind fun _ =>
        (FX0_level (VS_b ve0) p2).bind fun r11 =>
        some r11
      else
        if p3 = 1 then
          (FX6_blocks ve0).bind fun _ =>
          (FX0_birthOfBlock (VS_b ve0) p2).bind fun r16 =>
          some r16
        else
          if p3 = 2 then
            (FX6_blocks ve0).bind fun _ =>
            (FX0_tellers (VS_b ve0) p2).bind fun r21 =>
            some r21
          else
            some (-1)
  | some (_ + 1) =>
    (FX6_blocks vo0).bind fun _ =>
    (FX0_has (VS_b vo0) p2).bind fun r25 =>
    if r25 = 0 then
      some (-1)
    else
      if p3 = 0 then
        (FX6_blocks vo0).bind fun _ =>
        (FX0_level (VS_b vo0) p2).bind fun r31 =>
        some r31
      else
        if p3 = 1 then
          (FX6_blocks vo0).bind fun _ =>
          (FX0_birthOfBlock (VS_b vo0) p2).bind fun r36 =>
          some r36
        else
          if p3 = 2 then
            (FX6_blocks vo0).bind fun _ =>
            (FX0_tellers (VS_b vo0) p2).bind fun r41 =>
            some r41
          else
            some (-1))
def rX7_block : Room := { frames := 2, cells := 0, slots := 0, locals := 42 }
set_option maxHeartbeats 4000000 in
set_option maxRecDepth 100000 in
theorem c_X7_block (l : Launch) (D : va_G) (cB cI cJ cZ : ClassId) (nm_0 sb_0 sb_1 d_0 ve_0 ve_1 ve_2 ve_3 ve_4 ve_5 ve_6 ve_7 ve_8 ve_9 ve_10 ve_11 ve_12 ve_13 ve_14 ve_15 ve_16 ve_17 ve_18 ve_19 vo_0 vo_1 vo_2 vo_3 vo_4 vo_5 vo_6 vo_7 vo_8 vo_9 vo_10 vo_11 vo_12 vo_13 vo_14 vo_15 vo_16 vo_17 vo_18 vo_19 re_0 ro_0 : Nat) {nm0 : Int64} {sb0 : SB} {d0 : SD} {ve0 : VS} {vo0 : VS} {re0 : RC} {ro0 : RC} {p1 : Int32} {p2 : Int32} {p3 : Int32} {res : Int32} (hF : FX7_block nm0 sb0 d0 ve0 vo0 re0 ro0 p1 p2 p3 = some res) : gRi l yX7_block wsX7_block rX7_block D (gT cB cI cJ cZ) [.ref nm_0, .int p1, .int p2, .int p3] (wTV nm_0 sb_0 d_0 ve_0 vo_0 re_0 ro_0 nm0 ++ (wSB cB sb_0 sb_1 sb0 ++ (wSD d_0 sb_0 d0 ++ (wV cI cJ ve_0 ve_1 ve_2 ve_3 ve_4 ve_5 ve_6 ve_7 ve_8 ve_9 ve_10 ve_11 ve_12 ve_13 ve_14 ve_15 ve_16 ve_17 ve_18 ve_19 ve0 ++ (wV cI cJ vo_0 vo_1 vo_2 vo_3 vo_4 vo_5 vo_6 vo_7 vo_8 vo_9 vo_10 vo_11 vo_12 vo_13 vo_14 vo_15 vo_16 vo_17 vo_18 vo_19 vo0 ++ (wRC re_0 ve_0 sb_0 re0 ++ (wRC ro_0 vo_0 sb_0 ro0))))))) res := by
  refine g_enter (own := RX7) (free := (fun _ _ => False)) (Qc := (fun sz => gRQi res)) (fun _ _ => True) (fun sz => Or.inl rfl) rfl (by decide) rfl (Nat.le_of_ble_eq_true rfl) rfl ?_
  intro p e s m args below meth c C
  unfold FX7_block at hF
  refine g_aload_n (z := 0) C (tdec DX7_block 0 rfl) rfl rfl rfl ?_
  refine g_iload_n (z := 1) C (tdec DX7_block 1 rfl) rfl rfl rfl ?_
  obtain ⟨q2, y1, hF⟩ := o_bind hF
  refine g_callVqRS (q0 := 0) (S := [wTV nm_0 sb_0 d_0 ve_0 vo_0 re_0 ro_0 nm0, wSB cB sb_0 sb_1 sb0, wSD d_0 sb_0 d0, wV cI cJ ve_0 ve_1 ve_2 ve_3 ve_4 ve_5 ve_6 ve_7 ve_8 ve_9 ve_10 ve_11 ve_12 ve_13 ve_14 ve_15 ve_16 ve_17 ve_18 ve_19 ve0, wV cI cJ vo_0 vo_1 vo_2 vo_3 vo_4 vo_5 vo_6 vo_7 vo_8 vo_9 vo_10 vo_11 vo_12 vo_13 vo_14 vo_15 vo_16 vo_17 vo_18 vo_19 vo0, wRC re_0 ve_0 sb_0 re0, wRC ro_0 vo_0 sb_0 ro0]) (S0 := [wTV nm_0 sb_0 d_0 ve_0 vo_0 re_0 ro_0 nm0]) C (c_X7_find l D cB cI cJ cZ nm_0 sb_0 d_0 ve_0 vo_0 re_0 ro_0 y1) rfl rfl (gIV ml_X7_51 im_X7_find sl_X7_find in_X7 cd_X7_find) rfl eX7_find rfl ⟨rfl, rfl⟩ ⟨Nat.le_of_ble_eq_true rfl, Nat.le_of_ble_eq_true rfl⟩ rfl rfl rfl [0] rfl rfl rfl (Nat.le_of_ble_eq_true rfl) (tdec DX7_block 2 rfl) rfl ?_
  cases q2 with
  | none =>
    refine g_st (st' := [.null]) rfl ?_
    refine g_astoreN (L' := [(4, .null), (0, .ref nm_0), (1, .int p1), (2, .int p2), (3, .int p3)]) C (tdec DX7_block 3 rfl) (by decide) rfl rfl ?_
    refine g_aloadN (z := 0) C (tdec DX7_block 4 rfl) rfl rfl ?_
    refine g_ifnullN (pt := 24) C (tdec DX7_block 5 rfl) (by decide) ?_
    refine g_iconst (v := (-1)) C (tdec DX7_block 11 rfl) (by decide) rfl ?_
    have hr9 := o_some hF
    subst hr9
    exact g_iretR C rfl (tdec DX7_block 12 rfl)
  | some k43 =>
    cases k43 with
    | zero =>
      refine g_st (st' := [.ref ve_0]) rfl ?_
      refine g_astore (L' := [(4, .ref ve_0), (0, .ref nm_0), (1, .int p1), (2, .int p2), (3, .int p3)]) C (tdec DX7_block 3 rfl) (by decide) rfl rfl ?_
      refine g_aload (z := 0) C (tdec DX7_block 4 rfl) rfl rfl ?_
      refine g_ifnullR C (tdec DX7_block 5 rfl) rfl ?_
      refine g_aload (z := 0) C (tdec DX7_block 6 rfl) rfl rfl ?_
      obtain ⟨q4, y3, hF⟩ := o_bind hF
      have q9 := o_some y3
      subst q9
      refine g_callVqRS (q0 := 4) (S := [wTV nm_0 sb_0 d_0 ve_0 vo_0 re_0 ro_0 nm0, wSB cB sb_0 sb_1 sb0, wSD d_0 sb_0 d0, wV cI cJ ve_0 ve_1 ve_2 ve_3 ve_4 ve_5 ve_6 ve_7 ve_8 ve_9 ve_10 ve_11 ve_12 ve_13 ve_14 ve_15 ve_16 ve_17 ve_18 ve_19 ve0, wV cI cJ vo_0 vo_1 vo_2 vo_3 vo_4 vo_5 vo_6 vo_7 vo_8 vo_9 vo_10 vo_11 vo_12 vo_13 vo_14 vo_15 vo_16 vo_17 vo_18 vo_19 vo0, wRC re_0 ve_0 sb_0 re0, wRC ro_0 vo_0 sb_0 ro0]) (S0 := [wV cI cJ ve_0 ve_1 ve_2 ve_3 ve_4 ve_5 ve_6 ve_7 ve_8 ve_9 ve_10 ve_11 ve_12 ve_13 ve_14 ve_15 ve_16 ve_17 ve_18 ve_19 ve0]) C (c_X6_blocks l D cB cI cJ cZ ve_0 ve_1 ve_2 ve_3 ve_4 ve_5 ve_6 ve_7 ve_8 ve_9 ve_10 ve_11 ve_12 ve_13 ve_14 ve_15 ve_16 ve_17 ve_18 ve_19 y3) rfl rfl (gIV ml_X7_154 im_X6_blocks sl_X6_blocks in_X6 cd_X6_blocks) rfl eX6_blocks rfl ⟨rfl, rfl⟩ ⟨Nat.le_of_ble_eq_true rfl, Nat.le_of_ble_eq_true rfl⟩ rfl rfl rfl [3] rfl rfl rfl (Nat.le_of_ble_eq_true rfl) (tdec DX7_block 7 rfl) rfl ?_
      refine g_iload_n (z := 3) C (tdec DX7_block 8 rfl) rfl rfl rfl ?_
      obtain ⟨r5, y6, hF⟩ := o_bind hF
      refine g_callViRS (q0 := 9) (S := [wTV nm_0 sb_0 d_0 ve_0 vo_0 re_0 ro_0 nm0, wSB cB sb_0 sb_1 sb0, wSD d_0 sb_0 d0, wV0 cI cJ ve_0 ve_1 ve_2 ve_3 ve_4 ve_5 ve0, wB cI cJ ve_5 ve_6 ve_7 ve_8 ve_9 ve_10 ve_11 ve_12 ve_13 ve_14 ve_15 ve_16 ve_17 ve_18 ve_19 (VS_b ve0), wV cI cJ vo_0 vo_1 vo_2 vo_3 vo_4 vo_5 vo_6 vo_7 vo_8 vo_9 vo_10 vo_11 vo_12 vo_13 vo_14 vo_15 vo_16 vo_17 vo_18 vo_19 vo0, wRC re_0 ve_0 sb_0 re0, wRC ro_0 vo_0 sb_0 ro0]) (S0 := [wB cI cJ ve_5 ve_6 ve_7 ve_8 ve_9 ve_10 ve_11 ve_12 ve_13 ve_14 ve_15 ve_16 ve_17 ve_18 ve_19 (VS_b ve0)]) C (c_X0_has l D cB cI cJ cZ ve_5 ve_6 ve_7 ve_8 ve_9 ve_10 ve_11 ve_12 ve_13 ve_14 ve_15 ve_16 ve_17 ve_18 ve_19 y6) rfl rfl (gIV ml_X7_166 im_X0_has sl_X0_has in_X0 cd_X0_has) rfl eX0_has rfl ⟨rfl, rfl⟩ ⟨Nat.le_of_ble_eq_true rfl, Nat.le_of_ble_eq_true rfl⟩ rfl rfl rfl [4] rfl rfl rfl (Nat.le_of_ble_eq_true rfl) (tdec DX7_block 9 rfl) rfl ?_
      refine g_if_ne (pt := 26) C (tdec DX7_block 10 rfl) (by decide) rfl (fun h7 => ?_) (fun h7 => ?_)
      · have hF := o_ifn hF h7
        refine g_iload_n (z := 4) C (tdec DX7_block 13 rfl) rfl rfl rfl ?_
        by_cases h8 : p3 = 0
        · have hF := o_ifp hF h8
          refine g_switchIn (pt := 52) C (0) (tdec DX7_block 14 rfl) (h8.trans (by decide)) (by decide) (by decide) (by decide) rfl (by decide) ?_
          refine g_aload (z := 0) C (tdec DX7_block 15 rfl) rfl rfl ?_
          obtain ⟨q10, y9, hF⟩ := o_bind hF
          have q9 := o_some y9
          subst q9
          refine g_callVqRS (q0 := 4) (S := [wTV nm_0 sb_0 d_0 ve_0 vo_0 re_0 ro_0 nm0, wSB cB sb_0 sb_1 sb0, wSD d_0 sb_0 d0, wV cI cJ ve_0 ve_1 ve_2 ve_3 ve_4 ve_5 ve_6 ve_7 ve_8 ve_9 ve_10 ve_11 ve_12 ve_13 ve_14 ve_15 ve_16 ve_17 ve_18 ve_19 ve0, wV cI cJ vo_0 vo_1 vo_2 vo_3 vo_4 vo_5 vo_6 vo_7 vo_8 vo_9 vo_10 vo_11 vo_12 vo_13 vo_14 vo_15 vo_16 vo_17 vo_18 vo_19 vo0, wRC re_0 ve_0 sb_0 re0, wRC ro_0 vo_0 sb_0 ro0]) (S0 := [wV cI cJ ve_0 ve_1 ve_2 ve_3 ve_4 ve_5 ve_6 ve_7 ve_8 ve_9 ve_10 ve_11 ve_12 ve_13 ve_14 ve_15 ve_16 ve_17 ve_18 ve_19 ve0]) C (c_X6_blocks l D cB cI cJ cZ ve_0 ve_1 ve_2 ve_3 ve_4 ve_5 ve_6 ve_7 ve_8 ve_9 ve_10 ve_11 ve_12 ve_13 ve_14 ve_15 ve_16 ve_17 ve_18 ve_19 y9) rfl rfl (gIV ml_X7_154 im_X6_blocks sl_X6_blocks in_X6 cd_X6_blocks) rfl eX6_blocks rfl ⟨rfl, rfl⟩ ⟨Nat.le_of_ble_eq_true rfl, Nat.le_of_ble_eq_true rfl⟩ rfl rfl rfl [3] rfl rfl rfl (Nat.le_of_ble_eq_true rfl) (tdec DX7_block 16 rfl) rfl ?_
          refine g_iload_n (z := 3) C (tdec DX7_block 17 rfl) rfl rfl rfl ?_
          obtain ⟨r11, y12, hF⟩ := o_bind hF
          refine g_callViRS (q0 := 9) (S := [wTV nm_0 sb_0 d_0 ve_0 vo_0 re_0 ro_0 nm0, wSB cB sb_0 sb_1 sb0, wSD d_0 sb_0 d0, wV0 cI cJ ve_0 ve_1 ve_2 ve_3 ve_4 ve_5 ve0, wB cI cJ ve_5 ve_6 ve_7 ve_8 ve_9 ve_10 ve_11 ve_12 ve_13 ve_14 ve_15 ve_16 ve_17 ve_18 ve_19 (VS_b ve0), wV cI cJ vo_0 vo_1 vo_2 vo_3 vo_4 vo_5 vo_6 vo_7 vo_8 vo_9 vo_10 vo_11 vo_12 vo_13 vo_14 vo_15 vo_16 vo_17 vo_18 vo_19 vo0, wRC re_0 ve_0 sb_0 re0, wRC ro_0 vo_0 sb_0 ro0]) (S0 := [wB cI cJ ve_5 ve_6 ve_7 ve_8 ve_9 ve_10 ve_11 ve_12 ve_13 ve_14 ve_15 ve_16 ve_17 ve_18 ve_19 (VS_b ve0)]) C (c_X0_level l D cB cI cJ cZ ve_5 ve_6 ve_7 ve_8 ve_9 ve_10 ve_11 ve_12 ve_13 ve_14 ve_15 ve_16 ve_17 ve_18 ve_19 y12) rfl rfl (gIV ml_X7_169 im_X0_level sl_X0_level in_X0 cd_X0_level) rfl eX0_level rfl ⟨rfl, rfl⟩ ⟨Nat.le_of_ble_eq_true rfl, Nat.le_of_ble_eq_true rfl⟩ rfl rfl rfl [4] rfl rfl rfl (Nat.le_of_ble_eq_true rfl) (tdec DX7_block 18 rfl) rfl ?_
          have hr9 := o_some hF
          subst hr9
          exact g_iretR C rfl (tdec DX7_block 19 rfl)
        · have hF := o_ifn hF h8
          by_cases h13 : p3 = 1
          · have hF := o_ifp hF h13
            refine g_switchIn (pt := 62) C (1) (tdec DX7_block 14 rfl) (h13.trans (by decide)) (by decide) (by decide) (by decide) rfl (by decide) ?_
            refine g_aload (z := 0) C (tdec DX7_block 20 rfl) rfl rfl ?_
            obtain ⟨q15, y14, hF⟩ := o_bind hF
            have q9 := o_some y14
            subst q9
            refine g_callVqRS (q0 := 4) (S := [wTV nm_0 sb_0 d_0 ve_0 vo_0 re_0 ro_0 nm0, wSB cB sb_0 sb_1 sb0, wSD d_0 sb_0 d0, wV cI cJ ve_0 ve_1 ve_2 ve_3 ve_4 ve_5 ve_6 ve_7 ve_8 ve_9 ve_10 ve_11 ve_12 ve_13 ve_14 ve_15 ve_16 ve_17 ve_18 ve_19 ve0, wV cI cJ vo_0 vo_1 vo_2 vo_3 vo_4 vo_5 vo_6 vo_7 vo_8 vo_9 vo_10 vo_11 vo_12 vo_13 vo_14 vo_15 vo_16 vo_17 vo_18 vo_19 vo0, wRC re_0 ve_0 sb_0 re0, wRC ro_0 vo_0 sb_0 ro0]) (S0 := [wV cI cJ ve_0 ve_1 ve_2 ve_3 ve_4 ve_5 ve_6 ve_7 ve_8 ve_9 ve_10 ve_11 ve_12 ve_13 ve_14 ve_15 ve_16 ve_17 ve_18 ve_19 ve0]) C (c_X6_blocks l D cB cI cJ cZ ve_0 ve_1 ve_2 ve_3 ve_4 ve_5 ve_6 ve_7 ve_8 ve_9 ve_10 ve_11 ve_12 ve_13 ve_14 ve_15 ve_16 ve_17 ve_18 ve_19 y14) rfl rfl (gIV ml_X7_154 im_X6_blocks sl_X6_blocks in_X6 cd_X6_blocks) rfl eX6_blocks rfl ⟨rfl, rfl⟩ ⟨Nat.le_of_ble_eq_true rfl, Nat.le_of_ble_eq_true rfl⟩ rfl rfl rfl [3] rfl rfl rfl (Nat.le_of_ble_eq_true rfl) (tdec DX7_block 21 rfl) rfl ?_
            refine g_iload_n (z := 3) C (tdec DX7_block 22 rfl) rfl rfl rfl ?_
            obtain ⟨r16, y17, hF⟩ := o_bind hF
            refine g_callViRS (q0 := 9) (S := [wTV nm_0 sb_0 d_0 ve_0 vo_0 re_0 ro_0 nm0, wSB cB sb_0 sb_1 sb0, wSD d_0 sb_0 d0, wV0 cI cJ ve_0 ve_1 ve_2 ve_3 ve_4 ve_5 ve0, wB cI cJ ve_5 ve_6 ve_7 ve_8 ve_9 ve_10 ve_11 ve_12 ve_13 ve_14 ve_15 ve_16 ve_17 ve_18 ve_19 (VS_b ve0), wV cI cJ vo_0 vo_1 vo_2 vo_3 vo_4 vo_5 vo_6 vo_7 vo_8 vo_9 vo_10 vo_11 vo_12 vo_13 vo_14 vo_15 vo_16 vo_17 vo_18 vo_19 vo0, wRC re_0 ve_0 sb_0 re0, wRC ro_0 vo_0 sb_0 ro0]) (S0 := [wB cI cJ ve_5 ve_6 ve_7 ve_8 ve_9 ve_10 ve_11 ve_12 ve_13 ve_14 ve_15 ve_16 ve_17 ve_18 ve_19 (VS_b ve0)]) C (c_X0_birthOfBlock l D cB cI cJ cZ ve_5 ve_6 ve_7 ve_8 ve_9 ve_10 ve_11 ve_12 ve_13 ve_14 ve_15 ve_16 ve_17 ve_18 ve_19 y17) rfl rfl (gIV ml_X7_172 im_X0_birthOfBlock sl_X0_birthOfBlock in_X0 cd_X0_birthOfBlock) rfl eX0_birthOfBlock rfl ⟨rfl, rfl⟩ ⟨Nat.le_of_ble_eq_true rfl, Nat.le_of_ble_eq_true rfl⟩ rfl rfl rfl [4] rfl rfl rfl (Nat.le_of_ble_eq_true rfl) (tdec DX7_block 23 rfl) rfl ?_
            have hr9 := o_some hF
            subst hr9
            exact g_iretR C rfl (tdec DX7_block 24 rfl)
          · have hF := o_ifn hF h13
            by_cases h18 : p3 = 2
            · have hF := o_ifp hF h18
              refine g_switchIn (pt := 72) C (2) (tdec DX7_block 14 rfl) (h18.trans (by decide)) (by decide) (by decide) (by decide) rfl (by decide) ?_
              refine g_aload (z := 0) C (tdec DX7_block 25 rfl) rfl rfl ?_
              obtain ⟨q20, y19, hF⟩ := o_bind hF
              have q9 := o_some y19
              subst q9
              refine g_callVqRS (q0 := 4) (S := [wTV nm_0 sb_0 d_0 ve_0 vo_0 re_0 ro_0 nm0, wSB cB sb_0 sb_1 sb0, wSD d_0 sb_0 d0, wV cI cJ ve_0 ve_1 ve_2 ve_3 ve_4 ve_5 ve_6 ve_7 ve_8 ve_9 ve_10 ve_11 ve_12 ve_13 ve_14 ve_15 ve_16 ve_17 ve_18 ve_19 ve0, wV cI cJ vo_0 vo_1 vo_2 vo_3 vo_4 vo_5 vo_6 vo_7 vo_8 vo_9 vo_10 vo_11 vo_12 vo_13 vo_14 vo_15 vo_16 vo_17 vo_18 vo_19 vo0, wRC re_0 ve_0 sb_0 re0, wRC ro_0 vo_0 sb_0 ro0]) (S0 := [wV cI cJ ve_0 ve_1 ve_2 ve_3 ve_4 ve_5 ve_6 ve_7 ve_8 ve_9 ve_10 ve_11 ve_12 ve_13 ve_14 ve_15 ve_16 ve_17 ve_18 ve_19 ve0]) C (c_X6_blocks l D cB cI cJ cZ ve_0 ve_1 ve_2 ve_3 ve_4 ve_5 ve_6 ve_7 ve_8 ve_9 ve_10 ve_11 ve_12 ve_13 ve_14 ve_15 ve_16 ve_17 ve_18 ve_19 y19) rfl rfl (gIV ml_X7_154 im_X6_blocks sl_X6_blocks in_X6 cd_X6_blocks) rfl eX6_blocks rfl ⟨rfl, rfl⟩ ⟨Nat.le_of_ble_eq_true rfl, Nat.le_of_ble_eq_true rfl⟩ rfl rfl rfl [3] rfl rfl rfl (Nat.le_of_ble_eq_true rfl) (tdec DX7_block 26 rfl) rfl ?_
              refine g_iload_n (z := 3) C (tdec DX7_block 27 rfl) rfl rfl rfl ?_
              obtain ⟨r21, y22, hF⟩ := o_bind hF
              refine g_callViRS (q0 := 9) (S := [wTV nm_0 sb_0 d_0 ve_0 vo_0 re_0 ro_0 nm0, wSB cB sb_0 sb_1 sb0, wSD d_0 sb_0 d0, wV0 cI cJ ve_0 ve_1 ve_2 ve_3 ve_4 ve_5 ve0, wB cI cJ ve_5 ve_6 ve_7 ve_8 ve_9 ve_10 ve_11 ve_12 ve_13 ve_14 ve_15 ve_16 ve_17 ve_18 ve_19 (VS_b ve0), wV cI cJ vo_0 vo_1 vo_2 vo_3 vo_4 vo_5 vo_6 vo_7 vo_8 vo_9 vo_10 vo_11 vo_12 vo_13 vo_14 vo_15 vo_16 vo_17 vo_18 vo_19 vo0, wRC re_0 ve_0 sb_0 re0, wRC ro_0 vo_0 sb_0 ro0]) (S0 := [wB cI cJ ve_5 ve_6 ve_7 ve_8 ve_9 ve_10 ve_11 ve_12 ve_13 ve_14 ve_15 ve_16 ve_17 ve_18 ve_19 (VS_b ve0)]) C (c_X0_tellers l D cB cI cJ cZ ve_5 ve_6 ve_7 ve_8 ve_9 ve_10 ve_11 ve_12 ve_13 ve_14 ve_15 ve_16 ve_17 ve_18 ve_19 y22) rfl rfl (gIV ml_X7_175 im_X0_tellers sl_X0_tellers in_X0 cd_X0_tellers) rfl eX0_tellers rfl ⟨rfl, rfl⟩ ⟨Nat.le_of_ble_eq_true rfl, Nat.le_of_ble_eq_true rfl⟩ rfl rfl rfl [4] rfl rfl rfl (Nat.le_of_ble_eq_true rfl) (tdec DX7_block 28 rfl) rfl ?_
              have hr9 := o_some hF
              subst hr9
              exact g_iretR C rfl (tdec DX7_block 29 rfl)
            · have hF := o_ifn hF h18
              refine g_switchOut (pt := 82) C (tdec DX7_block 14 rfl) (sw_out3 0 (fun z => h8 (z.trans (by decide))) (fun z => h13 (z.trans (by decide))) (fun z => h18 (z.trans (by decide)))) (by decide) ?_
              refine g_iconst (v := (-1)) C (tdec DX7_block 30 rfl) (by decide) rfl ?_
              have hr9 := o_some hF
              subst hr9
              exact g_iretR C rfl (tdec DX7_block 31 rfl)
      · have hF := o_ifp hF h7
        refine g_iconst (v := (-1)) C (tdec DX7_block 11 rfl) (by decide) rfl ?_
        have hr9 := o_some hF
        subst hr9
        exact g_iretR C rfl (tdec DX7_block 12 rfl)
    | succ k43 =>
      refine g_st (st' := [.ref vo_0]) rfl ?_
      refine g_astore (L' := [(4, .ref vo_0), (0, .ref nm_0), (1, .int p1), (2, .int p2), (3, .int p3)]) C (tdec DX7_block 3 rfl) (by decide) rfl rfl ?_
      refine g_aload (z := 0) C (tdec DX7_block 4 rfl) rfl rfl ?_
      refine g_ifnullR C (tdec DX7_block 5 rfl) rfl ?_
      refine g_aload (z := 0) C (tdec DX7_block 6 rfl) rfl rfl ?_
      obtain ⟨q24, y23, hF⟩ := o_bind hF
      have q9 := o_some y23
      subst q9
      refine g_callVqRS (q0 := 24) (S := [wTV nm_0 sb_0 d_0 ve_0 vo_0 re_0 ro_0 nm0, wSB cB sb_0 sb_1 sb0, wSD d_0 sb_0 d0, wV cI cJ ve_0 ve_1 ve_2 ve_3 ve_4 ve_5 ve_6 ve_7 ve_8 ve_9 ve_10 ve_11 ve_12 ve_13 ve_14 ve_15 ve_16 ve_17 ve_18 ve_19 ve0, wV cI cJ vo_0 vo_1 vo_2 vo_3 vo_4 vo_5 vo_6 vo_7 vo_8 vo_9 vo_10 vo_11 vo_12 vo_13 vo_14 vo_15 vo_16 vo_17 vo_18 vo_19 vo0, wRC re_0 ve_0 sb_0 re0, wRC ro_0 vo_0 sb_0 ro0]) (S0 := [wV cI cJ vo_0 vo_1 vo_2 vo_3 vo_4 vo_5 vo_6 vo_7 vo_8 vo_9 vo_10 vo_11 vo_12 vo_13 vo_14 vo_15 vo_16 vo_17 vo_18 vo_19 vo0]) C (c_X6_blocks l D cB cI cJ cZ vo_0 vo_1 vo_2 vo_3 vo_4 vo_5 vo_6 vo_7 vo_8 vo_9 vo_10 vo_11 vo_12 vo_13 vo_14 vo_15 vo_16 vo_17 vo_18 vo_19 y23) rfl rfl (gIV ml_X7_154 im_X6_blocks sl_X6_blocks in_X6 cd_X6_blocks) rfl eX6_blocks rfl ⟨rfl, rfl⟩ ⟨Nat.le_of_ble_eq_true rfl, Nat.le_of_ble_eq_true rfl⟩ rfl rfl rfl [4] rfl rfl rfl (Nat.le_of_ble_eq_true rfl) (tdec DX7_block 7 rfl) rfl ?_
      refine g_iload_n (z := 3) C (tdec DX7_block 8 rfl) rfl rfl rfl ?_
      obtain ⟨r25, y26, hF⟩ := o_bind hF
      refine g_callViRS (q0 := 29) (S := [wTV nm_0 sb_0 d_0 ve_0 vo_0 re_0 ro_0 nm0, wSB cB sb_0 sb_1 sb0, wSD d_0 sb_0 d0, wV cI cJ ve_0 ve_1 ve_2 ve_3 ve_4 ve_5 ve_6 ve_7 ve_8 ve_9 ve_10 ve_11 ve_12 ve_13 ve_14 ve_15 ve_16 ve_17 ve_18 ve_19 ve0, wV0 cI cJ vo_0 vo_1 vo_2 vo_3 vo_4 vo_5 vo0, wB cI cJ vo_5 vo_6 vo_7 vo_8 vo_9 vo_10 vo_11 vo_12 vo_13 vo_14 vo_15 vo_16 vo_17 vo_18 vo_19 (VS_b vo0), wRC re_0 ve_0 sb_0 re0, wRC ro_0 vo_0 sb_0 ro0]) (S0 := [wB cI cJ vo_5 vo_6 vo_7 vo_8 vo_9 vo_10 vo_11 vo_12 vo_13 vo_14 vo_15 vo_16 vo_17 vo_18 vo_19 (VS_b vo0)]) C (c_X0_has l D cB cI cJ cZ vo_5 vo_6 vo_7 vo_8 vo_9 vo_10 vo_11 vo_12 vo_13 vo_14 vo_15 vo_16 vo_17 vo_18 vo_19 y26) rfl rfl (gIV ml_X7_166 im_X0_has sl_X0_has in_X0 cd_X0_has) rfl eX0_has rfl ⟨rfl, rfl⟩ ⟨Nat.le_of_ble_eq_true rfl, Nat.le_of_ble_eq_true rfl⟩ rfl rfl rfl [5] rfl rfl rfl (Nat.le_of_ble_eq_true rfl) (tdec DX7_block 9 rfl) rfl ?_
      refine g_if_ne (pt := 26) C (tdec DX7_block 10 rfl) (by decide) rfl (fun h27 => ?_) (fun h27 => ?_)
      · have hF := o_ifn hF h27
        refine g_iload_n (z := 4) C (tdec DX7_block 13 rfl) rfl rfl rfl ?_
        by_cases h28 : p3 = 0
        · have hF := o_ifp hF h28
          refine g_switchIn (pt := 52) C (0) (tdec DX7_block 14 rfl) (h28.trans (by decide)) (by decide) (by decide) (by decide) rfl (by decide) ?_
          refine g_aload (z := 0) C (tdec DX7_block 15 rfl) rfl rfl ?_
          obtain ⟨q30, y29, hF⟩ := o_bind hF
          have q9 := o_some y29
          subst q9
          refine g_callVqRS (q0 := 24) (S := [wTV nm_0 sb_0 d_0 ve_0 vo_0 re_0 ro_0 nm0, wSB cB sb_0 sb_1 sb0, wSD d_0 sb_0 d0, wV cI cJ ve_0 ve_1 ve_2 ve_3 ve_4 ve_5 ve_6 ve_7 ve_8 ve_9 ve_10 ve_11 ve_12 ve_13 ve_14 ve_15 ve_16 ve_17 ve_18 ve_19 ve0, wV cI cJ vo_0 vo_1 vo_2 vo_3 vo_4 vo_5 vo_6 vo_7 vo_8 vo_9 vo_10 vo_11 vo_12 vo_13 vo_14 vo_15 vo_16 vo_17 vo_18 vo_19 vo0, wRC re_0 ve_0 sb_0 re0, wRC ro_0 vo_0 sb_0 ro0]) (S0 := [wV cI cJ vo_0 vo_1 vo_2 vo_3 vo_4 vo_5 vo_6 vo_7 vo_8 vo_9 vo_10 vo_11 vo_12 vo_13 vo_14 vo_15 vo_16 vo_17 vo_18 vo_19 vo0]) C (c_X6_blocks l D cB cI cJ cZ vo_0 vo_1 vo_2 vo_3 vo_4 vo_5 vo_6 vo_7 vo_8 vo_9 vo_10 vo_11 vo_12 vo_13 vo_14 vo_15 vo_16 vo_17 vo_18 vo_19 y29) rfl rfl (gIV ml_X7_154 im_X6_blocks sl_X6_blocks in_X6 cd_X6_blocks) rfl eX6_blocks rfl ⟨rfl, rfl⟩ ⟨Nat.le_of_ble_eq_true rfl, Nat.le_of_ble_eq_true rfl⟩ rfl rfl rfl [4] rfl rfl rfl (Nat.le_of_ble_eq_true rfl) (tdec DX7_block 16 rfl) rfl ?_
          refine g_iload_n (z := 3) C (tdec DX7_block 17 rfl) rfl rfl rfl ?_
          obtain ⟨r31, y32, hF⟩ := o_bind hF
          refine g_callViRS (q0 := 29) (S := [wTV nm_0 sb_0 d_0 ve_0 vo_0 re_0 ro_0 nm0, wSB cB sb_0 sb_1 sb0, wSD d_0 sb_0 d0, wV cI cJ ve_0 ve_1 ve_2 ve_3 ve_4 ve_5 ve_6 ve_7 ve_8 ve_9 ve_10 ve_11 ve_12 ve_13 ve_14 ve_15 ve_16 ve_17 ve_18 ve_19 ve0, wV0 cI cJ vo_0 vo_1 vo_2 vo_3 vo_4 vo_5 vo0, wB cI cJ vo_5 vo_6 vo_7 vo_8 vo_9 vo_10 vo_11 vo_12 vo_13 vo_14 vo_15 vo_16 vo_17 vo_18 vo_19 (VS_b vo0), wRC re_0 ve_0 sb_0 re0, wRC ro_0 vo_0 sb_0 ro0]) (S0 := [wB cI cJ vo_5 vo_6 vo_7 vo_8 vo_9 vo_10 vo_11 vo_12 vo_13 vo_14 vo_15 vo_16 vo_17 vo_18 vo_19 (VS_b vo0)]) C (c_X0_level l D cB cI cJ cZ vo_5 vo_6 vo_7 vo_8 vo_9 vo_10 vo_11 vo_12 vo_13 vo_14 vo_15 vo_16 vo_17 vo_18 vo_19 y32) rfl rfl (gIV ml_X7_169 im_X0_level sl_X0_level in_X0 cd_X0_level) rfl eX0_level rfl ⟨rfl, rfl⟩ ⟨Nat.le_of_ble_eq_true rfl, Nat.le_of_ble_eq_true rfl⟩ rfl rfl rfl [5] rfl rfl rfl (Nat.le_of_ble_eq_true rfl) (tdec DX7_block 18 rfl) rfl ?_
          have hr9 := o_some hF
          subst hr9
          exact g_iretR C rfl (tdec DX7_block 19 rfl)
        · have hF := o_ifn hF h28
          by_cases h33 : p3 = 1
          · have hF := o_ifp hF h33
            refine g_switchIn (pt := 62) C (1) (tdec DX7_block 14 rfl) (h33.trans (by decide)) (by decide) (by decide) (by decide) rfl (by decide) ?_
            refine g_aload (z := 0) C (tdec DX7_block 20 rfl) rfl rfl ?_
            obtain ⟨q35, y34, hF⟩ := o_bind hF
            have q9 := o_some y34
            subst q9
            refine g_callVqRS (q0 := 24) (S := [wTV nm_0 sb_0 d_0 ve_0 vo_0 re_0 ro_0 nm0, wSB cB sb_0 sb_1 sb0, wSD d_0 sb_0 d0, wV cI cJ ve_0 ve_1 ve_2 ve_3 ve_4 ve_5 ve_6 ve_7 ve_8 ve_9 ve_10 ve_11 ve_12 ve_13 ve_14 ve_15 ve_16 ve_17 ve_18 ve_19 ve0, wV cI cJ vo_0 vo_1 vo_2 vo_3 vo_4 vo_5 vo_6 vo_7 vo_8 vo_9 vo_10 vo_11 vo_12 vo_13 vo_14 vo_15 vo_16 vo_17 vo_18 vo_19 vo0, wRC re_0 ve_0 sb_0 re0, wRC ro_0 vo_0 sb_0 ro0]) (S0 := [wV cI cJ vo_0 vo_1 vo_2 vo_3 vo_4 vo_5 vo_6 vo_7 vo_8 vo_9 vo_10 vo_11 vo_12 vo_13 vo_14 vo_15 vo_16 vo_17 vo_18 vo_19 vo0]) C (c_X6_blocks l D cB cI cJ cZ vo_0 vo_1 vo_2 vo_3 vo_4 vo_5 vo_6 vo_7 vo_8 vo_9 vo_10 vo_11 vo_12 vo_13 vo_14 vo_15 vo_16 vo_17 vo_18 vo_19 y34) rfl rfl (gIV ml_X7_154 im_X6_blocks sl_X6_blocks in_X6 cd_X6_blocks) rfl eX6_blocks rfl ⟨rfl, rfl⟩ ⟨Nat.le_of_ble_eq_true rfl, Nat.le_of_ble_eq_true rfl⟩ rfl rfl rfl [4] rfl rfl rfl (Nat.le_of_ble_eq_true rfl) (tdec DX7_block 21 rfl) rfl ?_
            refine g_iload_n (z := 3) C (tdec DX7_block 22 rfl) rfl rfl rfl ?_
            obtain ⟨r36, y37, hF⟩ := o_bind hF
            refine g_callViRS (q0 := 29) (S := [wTV nm_0 sb_0 d_0 ve_0 vo_0 re_0 ro_0 nm0, wSB cB sb_0 sb_1 sb0, wSD d_0 sb_0 d0, wV cI cJ ve_0 ve_1 ve_2 ve_3 ve_4 ve_5 ve_6 ve_7 ve_8 ve_9 ve_10 ve_11 ve_12 ve_13 ve_14 ve_15 ve_16 ve_17 ve_18 ve_19 ve0, wV0 cI cJ vo_0 vo_1 vo_2 vo_3 vo_4 vo_5 vo0, wB cI cJ vo_5 vo_6 vo_7 vo_8 vo_9 vo_10 vo_11 vo_12 vo_13 vo_14 vo_15 vo_16 vo_17 vo_18 vo_19 (VS_b vo0), wRC re_0 ve_0 sb_0 re0, wRC ro_0 vo_0 sb_0 ro0]) (S0 := [wB cI cJ vo_5 vo_6 vo_7 vo_8 vo_9 vo_10 vo_11 vo_12 vo_13 vo_14 vo_15 vo_16 vo_17 vo_18 vo_19 (VS_b vo0)]) C (c_X0_birthOfBlock l D cB cI cJ cZ vo_5 vo_6 vo_7 vo_8 vo_9 vo_10 vo_11 vo_12 vo_13 vo_14 vo_15 vo_16 vo_17 vo_18 vo_19 y37) rfl rfl (gIV ml_X7_172 im_X0_birthOfBlock sl_X0_birthOfBlock in_X0 cd_X0_birthOfBlock) rfl eX0_birthOfBlock rfl ⟨rfl, rfl⟩ ⟨Nat.le_of_ble_eq_true rfl, Nat.le_of_ble_eq_true rfl⟩ rfl rfl rfl [5] rfl rfl rfl (Nat.le_of_ble_eq_true rfl) (tdec DX7_block 23 rfl) rfl ?_
            have hr9 := o_some hF
            subst hr9
            exact g_iretR C rfl (tdec DX7_block 24 rfl)
          · have hF := o_ifn hF h33
            by_cases h38 : p3 = 2
            · have hF := o_ifp hF h38
              refine g_switchIn (pt := 72) C (2) (tdec DX7_block 14 rfl) (h38.trans (by decide)) (by decide) (by decide) (by decide) rfl (by decide) ?_
              refine g_aload (z := 0) C (tdec DX7_block 25 rfl) rfl rfl ?_
              obtain ⟨q40, y39, hF⟩ := o_bind hF
              have q9 := o_some y39
              subst q9
              refine g_callVqRS (q0 := 24) (S := [wTV nm_0 sb_0 d_0 ve_0 vo_0 re_0 ro_0 nm0, wSB cB sb_0 sb_1 sb0, wSD d_0 sb_0 d0, wV cI cJ ve_0 ve_1 ve_2 ve_3 ve_4 ve_5 ve_6 ve_7 ve_8 ve_9 ve_10 ve_11 ve_12 ve_13 ve_14 ve_15 ve_16 ve_17 ve_18 ve_19 ve0, wV cI cJ vo_0 vo_1 vo_2 vo_3 vo_4 vo_5 vo_6 vo_7 vo_8 vo_9 vo_10 vo_11 vo_12 vo_13 vo_14 vo_15 vo_16 vo_17 vo_18 vo_19 vo0, wRC re_0 ve_0 sb_0 re0, wRC ro_0 vo_0 sb_0 ro0]) (S0 := [wV cI cJ vo_0 vo_1 vo_2 vo_3 vo_4 vo_5 vo_6 vo_7 vo_8 vo_9 vo_10 vo_11 vo_12 vo_13 vo_14 vo_15 vo_16 vo_17 vo_18 vo_19 vo0]) C (c_X6_blocks l D cB cI cJ cZ vo_0 vo_1 vo_2 vo_3 vo_4 vo_5 vo_6 vo_7 vo_8 vo_9 vo_10 vo_11 vo_12 vo_13 vo_14 vo_15 vo_16 vo_17 vo_18 vo_19 y39) rfl rfl (gIV ml_X7_154 im_X6_blocks sl_X6_blocks in_X6 cd_X6_blocks) rfl eX6_blocks rfl ⟨rfl, rfl⟩ ⟨Nat.le_of_ble_eq_true rfl, Nat.le_of_ble_eq_true rfl⟩ rfl rfl rfl [4] rfl rfl rfl (Nat.le_of_ble_eq_true rfl) (tdec DX7_block 26 rfl) rfl ?_
              refine g_iload_n (z := 3) C (tdec DX7_block 27 rfl) rfl rfl rfl ?_
              obtain ⟨r41, y42, hF⟩ := o_bind hF
              refine g_callViRS (q0 := 29) (S := [wTV nm_0 sb_0 d_0 ve_0 vo_0 re_0 ro_0 nm0, wSB cB sb_0 sb_1 sb0, wSD d_0 sb_0 d0, wV cI cJ ve_0 ve_1 ve_2 ve_3 ve_4 ve_5 ve_6 ve_7 ve_8 ve_9 ve_10 ve_11 ve_12 ve_13 ve_14 ve_15 ve_16 ve_17 ve_18 ve_19 ve0, wV0 cI cJ vo_0 vo_1 vo_2 vo_3 vo_4 vo_5 vo0, wB cI cJ vo_5 vo_6 vo_7 vo_8 vo_9 vo_10 vo_11 vo_12 vo_13 vo_14 vo_15 vo_16 vo_17 vo_18 vo_19 (VS_b vo0), wRC re_0 ve_0 sb_0 re0, wRC ro_0 vo_0 sb_0 ro0]) (S0 := [wB cI cJ vo_5 vo_6 vo_7 vo_8 vo_9 vo_10 vo_11 vo_12 vo_13 vo_14 vo_15 vo_16 vo_17 vo_18 vo_19 (VS_b vo0)]) C (c_X0_tellers l D cB cI cJ cZ vo_5 vo_6 vo_7 vo_8 vo_9 vo_10 vo_11 vo_12 vo_13 vo_14 vo_15 vo_16 vo_17 vo_18 vo_19 y42) rfl rfl (gIV ml_X7_175 im_X0_tellers sl_X0_tellers in_X0 cd_X0_tellers) rfl eX0_tellers rfl ⟨rfl, rfl⟩ ⟨Nat.le_of_ble_eq_true rfl, Nat.le_of_ble_eq_true rfl⟩ rfl rfl rfl [5] rfl rfl rfl (Nat.le_of_ble_eq_true rfl) (tdec DX7_block 28 rfl) rfl ?_
              have hr9 := o_some hF
              subst hr9
              exact g_iretR C rfl (tdec DX7_block 29 rfl)
            · have hF := o_ifn hF h38
              refine g_switchOut (pt := 82) C (tdec DX7_block 14 rfl) (sw_out3 0 (fun z => h28 (z.trans (by decide))) (fun z => h33 (z.trans (by decide))) (fun z => h38 (z.trans (by decide)))) (by decide) ?_
              refine g_iconst (v := (-1)) C (tdec DX7_block 30 rfl) (by decide) rfl ?_
              have hr9 := o_some hF
              subst hr9
              exact g_iretR C rfl (tdec DX7_block 31 rfl)
      · have hF := o_ifp hF h27
        refine g_iconst (v := (-1)) C (tdec DX7_block 11 rfl) (by decide) rfl ?_
        have hr9 := o_some hF
        subst hr9
        exact g_iretR C rfl (tdec DX7_block 12 rfl)
def FX7_pointer (nm0 : Int64) (sb0 : SB) (d0 : SD) (ve0 : VS) (vo0 : VS) (re0 : RC) (ro0 : RC) (p1 : Int32) (p2 : Int32) (p3 : Int32) (p4 : Int32) : Option (Int32) :=
  (FX7_find nm0 p1).bind fun q2 =>
  (match q2 with
  | none =>
    some (-1)
  | some 0 =>
    (FX6_blocks ve0).bind fun _ =>
    (FX0_has (VS_b ve0) p2).bind fun r5 =>
    if r5 = 0 then
      some (-1)
    else
      if p3 < 0 then
        some (-1)
      else
        if p3 < 8 then
          (FX6_blocks ve0).bind fun _ =>
          (FX0_level (VS_b ve0) p2).bind fun r12 =>
          if 1 ≤ r12 then
            if p4 = 0 then
              (FX6_blocks ve0).bind fun _ =>
              (FX0_told (VS_b ve0) ((p2 * 8) + p3)).bind fun r18 =>
              some r18
            else
              if p4 = 1 then
                (FX6_blocks ve0).bind fun _ =>
                (FX0_birth (VS_b ve0) ((p2 * 8) + p3)).bind fun r23 =>
                some r23
              else
                some (-1)
          else
            some (-1)
        else
          some (-1)
  | some (_ + 1) =>
    (FX6_blocks vo0).bind fun _ =>
    (FX0_has (VS_b vo0) p2).bind fun r27 =>
    if r27 = 0 then
      some (-1)
    else
      if p3 < 0 then
        some (-1)
      else
        if p3 < 8 then
          (FX6_blocks vo0).bind fun _ =>
          (FX0_level (VS_b vo0) p2).bind fun r34 =>
          if 1 ≤ r34 then
            if p4 = 0 then
              (FX6_blocks vo0).bind fun _ =>
              (FX0_told (VS_b vo0) ((p2 * 8) + p3)).bind fun r40 =>
              some r40
            else
              if p4 = 1 then
                (FX6_blocks vo0).bind fun _ =>
                (FX0_birth (VS_b vo0) ((p2 * 8) + p3)).bind fun r45 =>
                some r45
              else
                some (-1)
          else
            some (-1)
        else
          some (-1))
def rX7_pointer : Room := { frames := 2, cells := 0, slots := 0, locals := 42 }
set_option maxHeartbeats 4000000 in
set_option maxRecDepth 100000 in
theorem c_X7_pointer (l : Launch) (D : va_G) (cB cI cJ cZ : ClassId) (nm_0 sb_0 sb_1 d_0 ve_0 ve_1 ve_2 ve_3 ve_4 ve_5 ve_6 ve_7 ve_8 ve_9 ve_10 ve_11 ve_12 ve_13 ve_14 ve_15 ve_16 ve_17 ve_18 ve_19 vo_0 vo_1 vo_2 vo_3 vo_4 vo_5 vo_6 vo_7 vo_8 vo_9 vo_10 vo_11 vo_12 vo_13 vo_14 vo_15 vo_16 vo_17 vo_18 vo_19 re_0 ro_0 : Nat) {nm0 : Int64} {sb0 : SB} {d0 : SD} {ve0 : VS} {vo0 : VS} {re0 : RC} {ro0 : RC} {p1 : Int32} {p2 : Int32} {p3 : Int32} {p4 : Int32} {res : Int32} (hF : FX7_pointer nm0 sb0 d0 ve0 vo0 re0 ro0 p1 p2 p3 p4 = some res) : gRi l yX7_pointer wsX7_pointer rX7_pointer D (gT cB cI cJ cZ) [.ref nm_0, .int p1, .int p2, .int p3, .int p4] (wTV nm_0 sb_0 d_0 ve_0 vo_0 re_0 ro_0 nm0 ++ (wSB cB sb_0 sb_1 sb0 ++ (wSD d_0 sb_0 d0 ++ (wV cI cJ ve_0 ve_1 ve_2 ve_3 ve_4 ve_5 ve_6 ve_7 ve_8 ve_9 ve_10 ve_11 ve_12 ve_13 ve_14 ve_15 ve_16 ve_17 ve_18 ve_19 ve0 ++ (wV cI cJ vo_0 vo_1 vo_2 vo_3 vo_4 vo_5 vo_6 vo_7 vo_8 vo_9 vo_10 vo_11 vo_12 vo_13 vo_14 vo_15 vo_16 vo_17 vo_18 vo_19 vo0 ++ (wRC re_0 ve_0 sb_0 re0 ++ (wRC ro_0 vo_0 sb_0 ro0))))))) res := by
  refine g_enter (own := RX7) (free := (fun _ _ => False)) (Qc := (fun sz => gRQi res)) (fun _ _ => True) (fun sz => Or.inl rfl) rfl (by decide) rfl (Nat.le_of_ble_eq_true rfl) rfl ?_
  intro p e s m args below meth c C
  unfold FX7_pointer at hF
  refine g_aload_n (z := 0) C (tdec DX7_pointer 0 rfl) rfl rfl rfl ?_
  refine g_iload_n (z := 1) C (tdec DX7_pointer 1 rfl) rfl rfl rfl ?_
  obtain ⟨q2, y1, hF⟩ := o_bind hF
  refine g_callVqRS (q0 := 0) (S := [wTV nm_0 sb_0 d_0 ve_0 vo_0 re_0 ro_0 nm0, wSB cB sb_0 sb_1 sb0, wSD d_0 sb_0 d0, wV cI cJ ve_0 ve_1 ve_2 ve_3 ve_4 ve_5 ve_6 ve_7 ve_8 ve_9 ve_10 ve_11 ve_12 ve_13 ve_14 ve_15 ve_16 ve_17 ve_18 ve_19 ve0, wV cI cJ vo_0 vo_1 vo_2 vo_3 vo_4 vo_5 vo_6 vo_7 vo_8 vo_9 vo_10 vo_11 vo_12 vo_13 vo_14 vo_15 vo_16 vo_17 vo_18 vo_19 vo0, wRC re_0 ve_0 sb_0 re0, wRC ro_0 vo_0 sb_0 ro0]) (S0 := [wTV nm_0 sb_0 d_0 ve_0 vo_0 re_0 ro_0 nm0]) C (c_X7_find l D cB cI cJ cZ nm_0 sb_0 d_0 ve_0 vo_0 re_0 ro_0 y1) rfl rfl (gIV ml_X7_51 im_X7_find sl_X7_find in_X7 cd_X7_find) rfl eX7_find rfl ⟨rfl, rfl⟩ ⟨Nat.le_of_ble_eq_true rfl, Nat.le_of_ble_eq_true rfl⟩ rfl rfl rfl [0] rfl rfl rfl (Nat.le_of_ble_eq_true rfl) (tdec DX7_pointer 2 rfl) rfl ?_
  cases q2 with
  | none =>
    refine g_st (st' := [.null]) rfl ?_
    refine g_astoreN (L' := [(5, .null), (0, .ref nm_0), (1, .int p1), (2, .int p2), (3, .int p3), (4, .int p4)]) C (tdec DX7_pointer 3 rfl) (by decide) rfl rfl ?_
    refine g_aloadN (z := 0) C (tdec DX7_pointer 4 rfl) rfl rfl ?_
    refine g_ifnullN (pt := 34) C (tdec DX7_pointer 5 rfl) (by decide) ?_
    refine g_iconst (v := (-1)) C (tdec DX7_pointer 16 rfl) (by decide) rfl ?_
    have hr9 := o_some hF
    subst hr9
    exact g_iretR C rfl (tdec DX7_pointer 17 rfl)
  | some k47 =>
    cases k47 with
    | zero =>
      refine g_st (st' := [.ref ve_0]) rfl ?_
      refine g_astore (L' := [(5, .ref ve_0), (0, .ref nm_0), (1, .int p1), (2, .int p2), (3, .int p3), (4, .int p4)]) C (tdec DX7_pointer 3 rfl) (by decide) rfl rfl ?_
      refine g_aload (z := 0) C (tdec DX7_pointer 4 rfl) rfl rfl ?_
      refine g_ifnullR C (tdec DX7_pointer 5 rfl) rfl ?_
      refine g_aload (z := 0) C (tdec DX7_pointer 6 rfl) rfl rfl ?_
      obtain ⟨q4, y3, hF⟩ := o_bind hF
      have q9 := o_some y3
      subst q9
      refine g_callVqRS (q0 := 4) (S := [wTV nm_0 sb_0 d_0 ve_0 vo_0 re_0 ro_0 nm0, wSB cB sb_0 sb_1 sb0, wSD d_0 sb_0 d0, wV cI cJ ve_0 ve_1 ve_2 ve_3 ve_4 ve_5 ve_6 ve_7 ve_8 ve_9 ve_10 ve_11 ve_12 ve_13 ve_14 ve_15 ve_16 ve_17 ve_18 ve_19 ve0, wV cI cJ vo_0 vo_1 vo_2 vo_3 vo_4 vo_5 vo_6 vo_7 vo_8 vo_9 vo_10 vo_11 vo_12 vo_13 vo_14 vo_15 vo_16 vo_17 vo_18 vo_19 vo0, wRC re_0 ve_0 sb_0 re0, wRC ro_0 vo_0 sb_0 ro0]) (S0 := [wV cI cJ ve_0 ve_1 ve_2 ve_3 ve_4 ve_5 ve_6 ve_7 ve_8 ve_9 ve_10 ve_11 ve_12 ve_13 ve_14 ve_15 ve_16 ve_17 ve_18 ve_19 ve0]) C (c_X6_blocks l D cB cI cJ cZ ve_0 ve_1 ve_2 ve_3 ve_4 ve_5 ve_6 ve_7 ve_8 ve_9 ve_10 ve_11 ve_12 ve_13 ve_14 ve_15 ve_16 ve_17 ve_18 ve_19 y3) rfl rfl (gIV ml_X7_154 im_X6_blocks sl_X6_blocks in_X6 cd_X6_blocks) rfl eX6_blocks rfl ⟨rfl, rfl⟩ ⟨Nat.le_of_ble_eq_true rfl, Nat.le_of_ble_eq_true rfl⟩ rfl rfl rfl [3] rfl rfl rfl (Nat.le_of_ble_eq_true rfl) (tdec DX7_pointer 7 rfl) rfl ?_
      refine g_iload_n (z := 3) C (tdec DX7_pointer 8 rfl) rfl rfl rfl ?_
      obtain ⟨r5, y6, hF⟩ := o_bind hF
      refine g_callViRS (q0 := 9) (S := [wTV nm_0 sb_0 d_0 ve_0 vo_0 re_0 ro_0 nm0, wSB cB sb_0 sb_1 sb0, wSD d_0 sb_0 d0, wV0 cI cJ ve_0 ve_1 ve_2 ve_3 ve_4 ve_5 ve0, wB cI cJ ve_5 ve_6 ve_7 ve_8 ve_9 ve_10 ve_11 ve_12 ve_13 ve_14 ve_15 ve_16 ve_17 ve_18 ve_19 (VS_b ve0), wV cI cJ vo_0 vo_1 vo_2 vo_3 vo_4 vo_5 vo_6 vo_7 vo_8 vo_9 vo_10 vo_11 vo_12 vo_13 vo_14 vo_15 vo_16 vo_17 vo_18 vo_19 vo0, wRC re_0 ve_0 sb_0 re0, wRC ro_0 vo_0 sb_0 ro0]) (S0 := [wB cI cJ ve_5 ve_6 ve_7 ve_8 ve_9 ve_10 ve_11 ve_12 ve_13 ve_14 ve_15 ve_16 ve_17 ve_18 ve_19 (VS_b ve0)]) C (c_X0_has l D cB cI cJ cZ ve_5 ve_6 ve_7 ve_8 ve_9 ve_10 ve_11 ve_12 ve_13 ve_14 ve_15 ve_16 ve_17 ve_18 ve_19 y6) rfl rfl (gIV ml_X7_166 im_X0_has sl_X0_has in_X0 cd_X0_has) rfl eX0_has rfl ⟨rfl, rfl⟩ ⟨Nat.le_of_ble_eq_true rfl, Nat.le_of_ble_eq_true rfl⟩ rfl rfl rfl [4] rfl rfl rfl (Nat.le_of_ble_eq_true rfl) (tdec DX7_pointer 9 rfl) rfl ?_
      refine g_if_eq (pt := 34) C (tdec DX7_pointer 10 rfl) (by decide) rfl (fun h7 => ?_) (fun h7 => ?_)
      · have hF := o_ifp hF h7
        refine g_iconst (v := (-1)) C (tdec DX7_pointer 16 rfl) (by decide) rfl ?_
        have hr9 := o_some hF
        subst hr9
        exact g_iretR C rfl (tdec DX7_pointer 17 rfl)
      · have hF := o_ifn hF h7
        refine g_iload_n (z := 4) C (tdec DX7_pointer 11 rfl) rfl rfl rfl ?_
        refine g_if_lt (pt := 34) C (tdec DX7_pointer 12 rfl) (by decide) rfl (fun h8 => ?_) (fun h8 => ?_)
        · have hF := o_ifp hF h8
          refine g_iconst (v := (-1)) C (tdec DX7_pointer 16 rfl) (by decide) rfl ?_
          have hr9 := o_some hF
          subst hr9
          exact g_iretR C rfl (tdec DX7_pointer 17 rfl)
        · have hF := o_ifn hF h8
          refine g_iload_n (z := 4) C (tdec DX7_pointer 13 rfl) rfl rfl rfl ?_
          refine g_bipush (v := 8) C (tdec DX7_pointer 14 rfl) (by decide) rfl ?_
          refine g_icmp_lt (pt := 36) C (tdec DX7_pointer 15 rfl) (by decide) rfl (fun h9 => ?_) (fun h9 => ?_)
          · have hF := o_ifp hF h9
            refine g_aload (z := 0) C (tdec DX7_pointer 18 rfl) rfl rfl ?_
            obtain ⟨q11, y10, hF⟩ := o_bind hF
            have q9 := o_some y10
            subst q9
            refine g_callVqRS (q0 := 4) (S := [wTV nm_0 sb_0 d_0 ve_0 vo_0 re_0 ro_0 nm0, wSB cB sb_0 sb_1 sb0, wSD d_0 sb_0 d0, wV cI cJ ve_0 ve_1 ve_2 ve_3 ve_4 ve_5 ve_6 ve_7 ve_8 ve_9 ve_10 ve_11 ve_12 ve_13 ve_14 ve_15 ve_16 ve_17 ve_18 ve_19 ve0, wV cI cJ vo_0 vo_1 vo_2 vo_3 vo_4 vo_5 vo_6 vo_7 vo_8 vo_9 vo_10 vo_11 vo_12 vo_13 vo_14 vo_15 vo_16 vo_17 vo_18 vo_19 vo0, wRC re_0 ve_0 sb_0 re0, wRC ro_0 vo_0 sb_0 ro0]) (S0 := [wV cI cJ ve_0 ve_1 ve_2 ve_3 ve_4 ve_5 ve_6 ve_7 ve_8 ve_9 ve_10 ve_11 ve_12 ve_13 ve_14 ve_15 ve_16 ve_17 ve_18 ve_19 ve0]) C (c_X6_blocks l D cB cI cJ cZ ve_0 ve_1 ve_2 ve_3 ve_4 ve_5 ve_6 ve_7 ve_8 ve_9 ve_10 ve_11 ve_12 ve_13 ve_14 ve_15 ve_16 ve_17 ve_18 ve_19 y10) rfl rfl (gIV ml_X7_154 im_X6_blocks sl_X6_blocks in_X6 cd_X6_blocks) rfl eX6_blocks rfl ⟨rfl, rfl⟩ ⟨Nat.le_of_ble_eq_true rfl, Nat.le_of_ble_eq_true rfl⟩ rfl rfl rfl [3] rfl rfl rfl (Nat.le_of_ble_eq_true rfl) (tdec DX7_pointer 19 rfl) rfl ?_
            refine g_iload_n (z := 3) C (tdec DX7_pointer 20 rfl) rfl rfl rfl ?_
            obtain ⟨r12, y13, hF⟩ := o_bind hF
            refine g_callViRS (q0 := 9) (S := [wTV nm_0 sb_0 d_0 ve_0 vo_0 re_0 ro_0 nm0, wSB cB sb_0 sb_1 sb0, wSD d_0 sb_0 d0, wV0 cI cJ ve_0 ve_1 ve_2 ve_3 ve_4 ve_5 ve0, wB cI cJ ve_5 ve_6 ve_7 ve_8 ve_9 ve_10 ve_11 ve_12 ve_13 ve_14 ve_15 ve_16 ve_17 ve_18 ve_19 (VS_b ve0), wV cI cJ vo_0 vo_1 vo_2 vo_3 vo_4 vo_5 vo_6 vo_7 vo_8 vo_9 vo_10 vo_11 vo_12 vo_13 vo_14 vo_15 vo_16 vo_17 vo_18 vo_19 vo0, wRC re_0 ve_0 sb_0 re0, wRC ro_0 vo_0 sb_0 ro0]) (S0 := [wB cI cJ ve_5 ve_6 ve_7 ve_8 ve_9 ve_10 ve_11 ve_12 ve_13 ve_14 ve_15 ve_16 ve_17 ve_18 ve_19 (VS_b ve0)]) C (c_X0_level l D cB cI cJ cZ ve_5 ve_6 ve_7 ve_8 ve_9 ve_10 ve_11 ve_12 ve_13 ve_14 ve_15 ve_16 ve_17 ve_18 ve_19 y13) rfl rfl (gIV ml_X7_169 im_X0_level sl_X0_level in_X0 cd_X0_level) rfl eX0_level rfl ⟨rfl, rfl⟩ ⟨Nat.le_of_ble_eq_true rfl, Nat.le_of_ble_eq_true rfl⟩ rfl rfl rfl [4] rfl rfl rfl (Nat.le_of_ble_eq_true rfl) (tdec DX7_pointer 21 rfl) rfl ?_
            refine g_iconst (v := 1) C (tdec DX7_pointer 22 rfl) (by decide) rfl ?_
            refine g_icmp_ge (pt := 51) C (tdec DX7_pointer 23 rfl) (by decide) rfl (fun h14 => ?_) (fun h14 => ?_)
            · have hF := o_ifp hF h14
              refine g_iload (z := 5) C (tdec DX7_pointer 26 rfl) rfl rfl ?_
              by_cases h15 : p4 = 0
              · have hF := o_ifp hF h15
                refine g_lookup (pt := 80) C (tdec DX7_pointer 27 rfl) (by decide) (by rw [h15]; first | done | rfl | decide) (by decide) ?_
                refine g_aload (z := 0) C (tdec DX7_pointer 28 rfl) rfl rfl ?_
                obtain ⟨q17, y16, hF⟩ := o_bind hF
                have q9 := o_some y16
                subst q9
                refine g_callVqRS (q0 := 4) (S := [wTV nm_0 sb_0 d_0 ve_0 vo_0 re_0 ro_0 nm0, wSB cB sb_0 sb_1 sb0, wSD d_0 sb_0 d0, wV cI cJ ve_0 ve_1 ve_2 ve_3 ve_4 ve_5 ve_6 ve_7 ve_8 ve_9 ve_10 ve_11 ve_12 ve_13 ve_14 ve_15 ve_16 ve_17 ve_18 ve_19 ve0, wV cI cJ vo_0 vo_1 vo_2 vo_3 vo_4 vo_5 vo_6 vo_7 vo_8 vo_9 vo_10 vo_11 vo_12 vo_13 vo_14 vo_15 vo_16 vo_17 vo_18 vo_19 vo0, wRC re_0 ve_0 sb_0 re0, wRC ro_0 vo_0 sb_0 ro0]) (S0 := [wV cI cJ ve_0 ve_1 ve_2 ve_3 ve_4 ve_5 ve_6 ve_7 ve_8 ve_9 ve_10 ve_11 ve_12 ve_13 ve_14 ve_15 ve_16 ve_17 ve_18 ve_19 ve0]) C (c_X6_blocks l D cB cI cJ cZ ve_0 ve_1 ve_2 ve_3 ve_4 ve_5 ve_6 ve_7 ve_8 ve_9 ve_10 ve_11 ve_12 ve_13 ve_14 ve_15 ve_16 ve_17 ve_18 ve_19 y16) rfl rfl (gIV ml_X7_154 im_X6_blocks sl_X6_blocks in_X6 cd_X6_blocks) rfl eX6_blocks rfl ⟨rfl, rfl⟩ ⟨Nat.le_of_ble_eq_true rfl, Nat.le_of_ble_eq_true rfl⟩ rfl rfl rfl [3] rfl rfl rfl (Nat.le_of_ble_eq_true rfl) (tdec DX7_pointer 29 rfl) rfl ?_
                refine g_iload_n (z := 3) C (tdec DX7_pointer 30 rfl) rfl rfl rfl ?_
                refine g_bipush (v := 8) C (tdec DX7_pointer 31 rfl) (by decide) rfl ?_
                refine g_imul C (tdec DX7_pointer 32 rfl) rfl ?_
                refine g_iload_n (z := 4) C (tdec DX7_pointer 33 rfl) rfl rfl rfl ?_
                refine g_iadd C (tdec DX7_pointer 34 rfl) rfl ?_
                obtain ⟨r18, y19, hF⟩ := o_bind hF
                refine g_callViRS (q0 := 9) (S := [wTV nm_0 sb_0 d_0 ve_0 vo_0 re_0 ro_0 nm0, wSB cB sb_0 sb_1 sb0, wSD d_0 sb_0 d0, wV0 cI cJ ve_0 ve_1 ve_2 ve_3 ve_4 ve_5 ve0, wB cI cJ ve_5 ve_6 ve_7 ve_8 ve_9 ve_10 ve_11 ve_12 ve_13 ve_14 ve_15 ve_16 ve_17 ve_18 ve_19 (VS_b ve0), wV cI cJ vo_0 vo_1 vo_2 vo_3 vo_4 vo_5 vo_6 vo_7 vo_8 vo_9 vo_10 vo_11 vo_12 vo_13 vo_14 vo_15 vo_16 vo_17 vo_18 vo_19 vo0, wRC re_0 ve_0 sb_0 re0, wRC ro_0 vo_0 sb_0 ro0]) (S0 := [wB cI cJ ve_5 ve_6 ve_7 ve_8 ve_9 ve_10 ve_11 ve_12 ve_13 ve_14 ve_15 ve_16 ve_17 ve_18 ve_19 (VS_b ve0)]) C (c_X0_told l D cB cI cJ cZ ve_5 ve_6 ve_7 ve_8 ve_9 ve_10 ve_11 ve_12 ve_13 ve_14 ve_15 ve_16 ve_17 ve_18 ve_19 y19) rfl rfl (gIV ml_X7_158 im_X0_told sl_X0_told in_X0 cd_X0_told) rfl eX0_told rfl ⟨rfl, rfl⟩ ⟨Nat.le_of_ble_eq_true rfl, Nat.le_of_ble_eq_true rfl⟩ rfl rfl rfl [4] rfl rfl rfl (Nat.le_of_ble_eq_true rfl) (tdec DX7_pointer 35 rfl) rfl ?_
                have hr9 := o_some hF
                subst hr9
                exact g_iretR C rfl (tdec DX7_pointer 36 rfl)
              · have hF := o_ifn hF h15
                by_cases h20 : p4 = 1
                · have hF := o_ifp hF h20
                  refine g_lookup (pt := 95) C (tdec DX7_pointer 27 rfl) (by decide) (by rw [h20]; first | done | rfl | decide) (by decide) ?_
                  refine g_aload (z := 0) C (tdec DX7_pointer 37 rfl) rfl rfl ?_
                  obtain ⟨q22, y21, hF⟩ := o_bind hF
                  have q9 := o_some y21
                  subst q9
                  refine g_callVqRS (q0 := 4) (S := [wTV nm_0 sb_0 d_0 ve_0 vo_0 re_0 ro_0 nm0, wSB cB sb_0 sb_1 sb0, wSD d_0 sb_0 d0, wV cI cJ ve_0 ve_1 ve_2 ve_3 ve_4 ve_5 ve_6 ve_7 ve_8 ve_9 ve_10 ve_11 ve_12 ve_13 ve_14 ve_15 ve_16 ve_17 ve_18 ve_19 ve0, wV cI cJ vo_0 vo_1 vo_2 vo_3 vo_4 vo_5 vo_6 vo_7 vo_8 vo_9 vo_10 vo_11 vo_12 vo_13 vo_14 vo_15 vo_16 vo_17 vo_18 vo_19 vo0, wRC re_0 ve_0 sb_0 re0, wRC ro_0 vo_0 sb_0 ro0]) (S0 := [wV cI cJ ve_0 ve_1 ve_2 ve_3 ve_4 ve_5 ve_6 ve_7 ve_8 ve_9 ve_10 ve_11 ve_12 ve_13 ve_14 ve_15 ve_16 ve_17 ve_18 ve_19 ve0]) C (c_X6_blocks l D cB cI cJ cZ ve_0 ve_1 ve_2 ve_3 ve_4 ve_5 ve_6 ve_7 ve_8 ve_9 ve_10 ve_11 ve_12 ve_13 ve_14 ve_15 ve_16 ve_17 ve_18 ve_19 y21) rfl rfl (gIV ml_X7_154 im_X6_blocks sl_X6_blocks in_X6 cd_X6_blocks) rfl eX6_blocks rfl ⟨rfl, rfl⟩ ⟨Nat.le_of_ble_eq_true rfl, Nat.le_of_ble_eq_true rfl⟩ rfl rfl rfl [3] rfl rfl rfl (Nat.le_of_ble_eq_true rfl) (tdec DX7_pointer 38 rfl) rfl ?_
                  refine g_iload_n (z := 3) C (tdec DX7_pointer 39 rfl) rfl rfl rfl ?_
                  refine g_bipush (v := 8) C (tdec DX7_pointer 40 rfl) (by decide) rfl ?_
                  refine g_imul C (tdec DX7_pointer 41 rfl) rfl ?_
                  refine g_iload_n (z := 4) C (tdec DX7_pointer 42 rfl) rfl rfl rfl ?_
                  refine g_iadd C (tdec DX7_pointer 43 rfl) rfl ?_
                  obtain ⟨r23, y24, hF⟩ := o_bind hF
                  refine g_callViRS (q0 := 9) (S := [wTV nm_0 sb_0 d_0 ve_0 vo_0 re_0 ro_0 nm0, wSB cB sb_0 sb_1 sb0, wSD d_0 sb_0 d0, wV0 cI cJ ve_0 ve_1 ve_2 ve_3 ve_4 ve_5 ve0, wB cI cJ ve_5 ve_6 ve_7 ve_8 ve_9 ve_10 ve_11 ve_12 ve_13 ve_14 ve_15 ve_16 ve_17 ve_18 ve_19 (VS_b ve0), wV cI cJ vo_0 vo_1 vo_2 vo_3 vo_4 vo_5 vo_6 vo_7 vo_8 vo_9 vo_10 vo_11 vo_12 vo_13 vo_14 vo_15 vo_16 vo_17 vo_18 vo_19 vo0, wRC re_0 ve_0 sb_0 re0, wRC ro_0 vo_0 sb_0 ro0]) (S0 := [wB cI cJ ve_5 ve_6 ve_7 ve_8 ve_9 ve_10 ve_11 ve_12 ve_13 ve_14 ve_15 ve_16 ve_17 ve_18 ve_19 (VS_b ve0)]) C (c_X0_birth l D cB cI cJ cZ ve_5 ve_6 ve_7 ve_8 ve_9 ve_10 ve_11 ve_12 ve_13 ve_14 ve_15 ve_16 ve_17 ve_18 ve_19 y24) rfl rfl (gIV ml_X7_163 im_X0_birth sl_X0_birth in_X0 cd_X0_birth) rfl eX0_birth rfl ⟨rfl, rfl⟩ ⟨Nat.le_of_ble_eq_true rfl, Nat.le_of_ble_eq_true rfl⟩ rfl rfl rfl [4] rfl rfl rfl (Nat.le_of_ble_eq_true rfl) (tdec DX7_pointer 44 rfl) rfl ?_
                  have hr9 := o_some hF
                  subst hr9
                  exact g_iretR C rfl (tdec DX7_pointer 45 rfl)
                · have hF := o_ifn hF h20
                  refine g_lookup (pt := 110) C (tdec DX7_pointer 27 rfl) (by decide) (lk_out2 27 42 57 h15 h20) (by decide) ?_
                  refine g_iconst (v := (-1)) C (tdec DX7_pointer 46 rfl) (by decide) rfl ?_
                  have hr9 := o_some hF
                  subst hr9
                  exact g_iretR C rfl (tdec DX7_pointer 47 rfl)
            · have hF := o_ifn hF h14
              refine g_iconst (v := (-1)) C (tdec DX7_pointer 24 rfl) (by decide) rfl ?_
              have hr9 := o_some hF
              subst hr9
              exact g_iretR C rfl (tdec DX7_pointer 25 rfl)
          · have hF := o_ifn hF h9
            refine g_iconst (v := (-1)) C (tdec DX7_pointer 16 rfl) (by decide) rfl ?_
            have hr9 := o_some hF
            subst hr9
            exact g_iretR C rfl (tdec DX7_pointer 17 rfl)
    | succ k47 =>
      refine g_st (st' := [.ref vo_0]) rfl ?_
      refine g_astore (L' := [(5, .ref vo_0), (0, .ref nm_0), (1, .int p1), (2, .int p2), (3, .int p3), (4, .int p4)]) C (tdec DX7_pointer 3 rfl) (by decide) rfl rfl ?_
      refine g_aload (z := 0) C (tdec DX7_pointer 4 rfl) rfl rfl ?_
      refine g_ifnullR C (tdec DX7_pointer 5 rfl) rfl ?_
      refine g_aload (z := 0) C (tdec DX7_pointer 6 rfl) rfl rfl ?_
      obtain ⟨q26, y25, hF⟩ := o_bind hF
      have q9 := o_some y25
      subst q9
      refine g_callVqRS (q0 := 24) (S := [wTV nm_0 sb_0 d_0 ve_0 vo_0 re_0 ro_0 nm0, wSB cB sb_0 sb_1 sb0, wSD d_0 sb_0 d0, wV cI cJ ve_0 ve_1 ve_2 ve_3 ve_4 ve_5 ve_6 ve_7 ve_8 ve_9 ve_10 ve_11 ve_12 ve_13 ve_14 ve_15 ve_16 ve_17 ve_18 ve_19 ve0, wV cI cJ vo_0 vo_1 vo_2 vo_3 vo_4 vo_5 vo_6 vo_7 vo_8 vo_9 vo_10 vo_11 vo_12 vo_13 vo_14 vo_15 vo_16 vo_17 vo_18 vo_19 vo0, wRC re_0 ve_0 sb_0 re0, wRC ro_0 vo_0 sb_0 ro0]) (S0 := [wV cI cJ vo_0 vo_1 vo_2 vo_3 vo_4 vo_5 vo_6 vo_7 vo_8 vo_9 vo_10 vo_11 vo_12 vo_13 vo_14 vo_15 vo_16 vo_17 vo_18 vo_19 vo0]) C (c_X6_blocks l D cB cI cJ cZ vo_0 vo_1 vo_2 vo_3 vo_4 vo_5 vo_6 vo_7 vo_8 vo_9 vo_10 vo_11 vo_12 vo_13 vo_14 vo_15 vo_16 vo_17 vo_18 vo_19 y25) rfl rfl (gIV ml_X7_154 im_X6_blocks sl_X6_blocks in_X6 cd_X6_blocks) rfl eX6_blocks rfl ⟨rfl, rfl⟩ ⟨Nat.le_of_ble_eq_true rfl, Nat.le_of_ble_eq_true rfl⟩ rfl rfl rfl [4] rfl rfl rfl (Nat.le_of_ble_eq_true rfl) (tdec DX7_pointer 7 rfl) rfl ?_
      refine g_iload_n (z := 3) C (tdec DX7_pointer 8 rfl) rfl rfl rfl ?_
      obtain ⟨r27, y28, hF⟩ := o_bind hF
      refine g_callViRS (q0 := 29) (S := [wTV nm_0 sb_0 d_0 ve_0 vo_0 re_0 ro_0 nm0, wSB cB sb_0 sb_1 sb0, wSD d_0 sb_0 d0, wV cI cJ ve_0 ve_1 ve_2 ve_3 ve_4 ve_5 ve_6 ve_7 ve_8 ve_9 ve_10 ve_11 ve_12 ve_13 ve_14 ve_15 ve_16 ve_17 ve_18 ve_19 ve0, wV0 cI cJ vo_0 vo_1 vo_2 vo_3 vo_4 vo_5 vo0, wB cI cJ vo_5 vo_6 vo_7 vo_8 vo_9 vo_10 vo_11 vo_12 vo_13 vo_14 vo_15 vo_16 vo_17 vo_18 vo_19 (VS_b vo0), wRC re_0 ve_0 sb_0 re0, wRC ro_0 vo_0 sb_0 ro0]) (S0 := [wB cI cJ vo_5 vo_6 vo_7 vo_8 vo_9 vo_10 vo_11 vo_12 vo_13 vo_14 vo_15 vo_16 vo_17 vo_18 vo_19 (VS_b vo0)]) C (c_X0_has l D cB cI cJ cZ vo_5 vo_6 vo_7 vo_8 vo_9 vo_10 vo_11 vo_12 vo_13 vo_14 vo_15 vo_16 vo_17 vo_18 vo_19 y28) rfl rfl (gIV ml_X7_166 im_X0_has sl_X0_has in_X0 cd_X0_has) rfl eX0_has rfl ⟨rfl, rfl⟩ ⟨Nat.le_of_ble_eq_true rfl, Nat.le_of_ble_eq_true rfl⟩ rfl rfl rfl [5] rfl rfl rfl (Nat.le_of_ble_eq_true rfl) (tdec DX7_pointer 9 rfl) rfl ?_
      refine g_if_eq (pt := 34) C (tdec DX7_pointer 10 rfl) (by decide) rfl (fun h29 => ?_) (fun h29 => ?_)
      · have hF := o_ifp hF h29
        refine g_iconst (v := (-1)) C (tdec DX7_pointer 16 rfl) (by decide) rfl ?_
        have hr9 := o_some hF
        subst hr9
        exact g_iretR C rfl (tdec DX7_pointer 17 rfl)
      · have hF := o_ifn hF h29
        refine g_iload_n (z := 4) C (tdec DX7_pointer 11 rfl) rfl rfl rfl ?_
        refine g_if_lt (pt := 34) C (tdec DX7_pointer 12 rfl) (by decide) rfl (fun h30 => ?_) (fun h30 => ?_)
        · have hF := o_ifp hF h30
          refine g_iconst (v := (-1)) C (tdec DX7_pointer 16 rfl) (by decide) rfl ?_
          have hr9 := o_some hF
          subst hr9
          exact g_iretR C rfl (tdec DX7_pointer 17 rfl)
        · have hF := o_ifn hF h30
          refine g_iload_n (z := 4) C (tdec DX7_pointer 13 rfl) rfl rfl rfl ?_
          refine g_bipush (v := 8) C (tdec DX7_pointer 14 rfl) (by decide) rfl ?_
          refine g_icmp_lt (pt := 36) C (tdec DX7_pointer 15 rfl) (by decide) rfl (fun h31 => ?_) (fun h31 => ?_)
          · have hF := o_ifp hF h31
            refine g_aload (z := 0) C (tdec DX7_pointer 18 rfl) rfl rfl ?_
            obtain ⟨q33, y32, hF⟩ := o_bind hF
            have q9 := o_some y32
            subst q9
            refine g_callVqRS (q0 := 24) (S := [wTV nm_0 sb_0 d_0 ve_0 vo_0 re_0 ro_0 nm0, wSB cB sb_0 sb_1 sb0, wSD d_0 sb_0 d0, wV cI cJ ve_0 ve_1 ve_2 ve_3 ve_4 ve_5 ve_6 ve_7 ve_8 ve_9 ve_10 ve_11 ve_12 ve_13 ve_14 ve_15 ve_16 ve_17 ve_18 ve_19 ve0, wV cI cJ vo_0 vo_1 vo_2 vo_3 vo_4 vo_5 vo_6 vo_7 vo_8 vo_9 vo_10 vo_11 vo_12 vo_13 vo_14 vo_15 vo_16 vo_17 vo_18 vo_19 vo0, wRC re_0 ve_0 sb_0 re0, wRC ro_0 vo_0 sb_0 ro0]) (S0 := [wV cI cJ vo_0 vo_1 vo_2 vo_3 vo_4 vo_5 vo_6 vo_7 vo_8 vo_9 vo_10 vo_11 vo_12 vo_13 vo_14 vo_15 vo_16 vo_17 vo_18 vo_19 vo0]) C (c_X6_blocks l D cB cI cJ cZ vo_0 vo_1 vo_2 vo_3 vo_4 vo_5 vo_6 vo_7 vo_8 vo_9 vo_10 vo_11 vo_12 vo_13 vo_14 vo_15 vo_16 vo_17 vo_18 vo_19 y32) rfl rfl (gIV ml_X7_154 im_X6_blocks sl_X6_blocks in_X6 cd_X6_blocks) rfl eX6_blocks rfl ⟨rfl, rfl⟩ ⟨Nat.le_of_ble_eq_true rfl, Nat.le_of_ble_eq_true rfl⟩ rfl rfl rfl [4] rfl rfl rfl (Nat.le_of_ble_eq_true rfl) (tdec DX7_pointer 19 rfl) rfl ?_
            refine g_iload_n (z := 3) C (tdec DX7_pointer 20 rfl) rfl rfl rfl ?_
            obtain ⟨r34, y35, hF⟩ := o_bind hF
            refine g_callViRS (q0 := 29) (S := [wTV nm_0 sb_0 d_0 ve_0 vo_0 re_0 ro_0 nm0, wSB cB sb_0 sb_1 sb0, wSD d_0 sb_0 d0, wV cI cJ ve_0 ve_1 ve_2 ve_3 ve_4 ve_5 ve_6 ve_7 ve_8 ve_9 ve_10 ve_11 ve_12 ve_13 ve_14 ve_15 ve_16 ve_17 ve_18 ve_19 ve0, wV0 cI cJ vo_0 vo_1 vo_2 vo_3 vo_4 vo_5 vo0, wB cI cJ vo_5 vo_6 vo_7 vo_8 vo_9 vo_10 vo_11 vo_12 vo_13 vo_14 vo_15 vo_16 vo_17 vo_18 vo_19 (VS_b vo0), wRC re_0 ve_0 sb_0 re0, wRC ro_0 vo_0 sb_0 ro0]) (S0 := [wB cI cJ vo_5 vo_6 vo_7 vo_8 vo_9 vo_10 vo_11 vo_12 vo_13 vo_14 vo_15 vo_16 vo_17 vo_18 vo_19 (VS_b vo0)]) C (c_X0_level l D cB cI cJ cZ vo_5 vo_6 vo_7 vo_8 vo_9 vo_10 vo_11 vo_12 vo_13 vo_14 vo_15 vo_16 vo_17 vo_18 vo_19 y35) rfl rfl (gIV ml_X7_169 im_X0_level sl_X0_level in_X0 cd_X0_level) rfl eX0_level rfl ⟨rfl, rfl⟩ ⟨Nat.le_of_ble_eq_true rfl, Nat.le_of_ble_eq_true rfl⟩ rfl rfl rfl [5] rfl rfl rfl (Nat.le_of_ble_eq_true rfl) (tdec DX7_pointer 21 rfl) rfl ?_
            refine g_iconst (v := 1) C (tdec DX7_pointer 22 rfl) (by decide) rfl ?_
            refine g_icmp_ge (pt := 51) C (tdec DX7_pointer 23 rfl) (by decide) rfl (fun h36 => ?_) (fun h36 => ?_)
            · have hF := o_ifp hF h36
              refine g_iload (z := 5) C (tdec DX7_pointer 26 rfl) rfl rfl ?_
              by_cases h37 : p4 = 0
              · have hF := o_ifp hF h37
                refine g_lookup (pt := 80) C (tdec DX7_pointer 27 rfl) (by decide) (by rw [h37]; first | done | rfl | decide) (by decide) ?_
                refine g_aload (z := 0) C (tdec DX7_pointer 28 rfl) rfl rfl ?_
                obtain ⟨q39, y38, hF⟩ := o_bind hF
                have q9 := o_some y38
                subst q9
                refine g_callVqRS (q0 := 24) (S := [wTV nm_0 sb_0 d_0 ve_0 vo_0 re_0 ro_0 nm0, wSB cB sb_0 sb_1 sb0, wSD d_0 sb_0 d0, wV cI cJ ve_0 ve_1 ve_2 ve_3 ve_4 ve_5 ve_6 ve_7 ve_8 ve_9 ve_10 ve_11 ve_12 ve_13 ve_14 ve_15 ve_16 ve_17 ve_18 ve_19 ve0, wV cI cJ vo_0 vo_1 vo_2 vo_3 vo_4 vo_5 vo_6 vo_7 vo_8 vo_9 vo_10 vo_11 vo_12 vo_13 vo_14 vo_15 vo_16 vo_17 vo_18 vo_19 vo0, wRC re_0 ve_0 sb_0 re0, wRC ro_0 vo_0 sb_0 ro0]) (S0 := [wV cI cJ vo_0 vo_1 vo_2 vo_3 vo_4 vo_5 vo_6 vo_7 vo_8 vo_9 vo_10 vo_11 vo_12 vo_13 vo_14 vo_15 vo_16 vo_17 vo_18 vo_19 vo0]) C (c_X6_blocks l D cB cI cJ cZ vo_0 vo_1 vo_2 vo_3 vo_4 vo_5 vo_6 vo_7 vo_8 vo_9 vo_10 vo_11 vo_12 vo_13 vo_14 vo_15 vo_16 vo_17 vo_18 vo_19 y38) rfl rfl (gIV ml_X7_154 im_X6_blocks sl_X6_blocks in_X6 cd_X6_blocks) rfl eX6_blocks rfl ⟨rfl, rfl⟩ ⟨Nat.le_of_ble_eq_true rfl, Nat.le_of_ble_eq_true rfl⟩ rfl rfl rfl [4] rfl rfl rfl (Nat.le_of_ble_eq_true rfl) (tdec DX7_pointer 29 rfl) rfl ?_
                refine g_iload_n (z := 3) C (tdec DX7_pointer 30 rfl) rfl rfl rfl ?_
                refine g_bipush (v := 8) C (tdec DX7_pointer 31 rfl) (by decide) rfl ?_
                refine g_imul C (tdec DX7_pointer 32 rfl) rfl ?_
                refine g_iload_n (z := 4) C (tdec DX7_pointer 33 rfl) rfl rfl rfl ?_
                refine g_iadd C (tdec DX7_pointer 34 rfl) rfl ?_
                obtain ⟨r40, y41, hF⟩ := o_bind hF
                refine g_callViRS (q0 := 29) (S := [wTV nm_0 sb_0 d_0 ve_0 vo_0 re_0 ro_0 nm0, wSB cB sb_0 sb_1 sb0, wSD d_0 sb_0 d0, wV cI cJ ve_0 ve_1 ve_2 ve_3 ve_4 ve_5 ve_6 ve_7 ve_8 ve_9 ve_10 ve_11 ve_12 ve_13 ve_14 ve_15 ve_16 ve_17 ve_18 ve_19 ve0, wV0 cI cJ vo_0 vo_1 vo_2 vo_3 vo_4 vo_5 vo0, wB cI cJ vo_5 vo_6 vo_7 vo_8 vo_9 vo_10 vo_11 vo_12 vo_13 vo_14 vo_15 vo_16 vo_17 vo_18 vo_19 (VS_b vo0), wRC re_0 ve_0 sb_0 re0, wRC ro_0 vo_0 sb_0 ro0]) (S0 := [wB cI cJ vo_5 vo_6 vo_7 vo_8 vo_9 vo_10 vo_11 vo_12 vo_13 vo_14 vo_15 vo_16 vo_17 vo_18 vo_19 (VS_b vo0)]) C (c_X0_told l D cB cI cJ cZ vo_5 vo_6 vo_7 vo_8 vo_9 vo_10 vo_11 vo_12 vo_13 vo_14 vo_15 vo_16 vo_17 vo_18 vo_19 y41) rfl rfl (gIV ml_X7_158 im_X0_told sl_X0_told in_X0 cd_X0_told) rfl eX0_told rfl ⟨rfl, rfl⟩ ⟨Nat.le_of_ble_eq_true rfl, Nat.le_of_ble_eq_true rfl⟩ rfl rfl rfl [5] rfl rfl rfl (Nat.le_of_ble_eq_true rfl) (tdec DX7_pointer 35 rfl) rfl ?_
                have hr9 := o_some hF
                subst hr9
                exact g_iretR C rfl (tdec DX7_pointer 36 rfl)
              · have hF := o_ifn hF h37
                by_cases h42 : p4 = 1
                · have hF := o_ifp hF h42
                  refine g_lookup (pt := 95) C (tdec DX7_pointer 27 rfl) (by decide) (by rw [h42]; first | done | rfl | decide) (by decide) ?_
                  refine g_aload (z := 0) C (tdec DX7_pointer 37 rfl) rfl rfl ?_
                  obtain ⟨q44, y43, hF⟩ := o_bind hF
                  have q9 := o_some y43
                  subst q9
                  refine g_callVqRS (q0 := 24) (S := [wTV nm_0 sb_0 d_0 ve_0 vo_0 re_0 ro_0 nm0, wSB cB sb_0 sb_1 sb0, wSD d_0 sb_0 d0, wV cI cJ ve_0 ve_1 ve_2 ve_3 ve_4 ve_5 ve_6 ve_7 ve_8 ve_9 ve_10 ve_11 ve_12 ve_13 ve_14 ve_15 ve_16 ve_17 ve_18 ve_19 ve0, wV cI cJ vo_0 vo_1 vo_2 vo_3 vo_4 vo_5 vo_6 vo_7 vo_8 vo_9 vo_10 vo_11 vo_12 vo_13 vo_14 vo_15 vo_16 vo_17 vo_18 vo_19 vo0, wRC re_0 ve_0 sb_0 re0, wRC ro_0 vo_0 sb_0 ro0]) (S0 := [wV cI cJ vo_0 vo_1 vo_2 vo_3 vo_4 vo_5 vo_6 vo_7 vo_8 vo_9 vo_10 vo_11 vo_12 vo_13 vo_14 vo_15 vo_16 vo_17 vo_18 vo_19 vo0]) C (c_X6_blocks l D cB cI cJ cZ vo_0 vo_1 vo_2 vo_3 vo_4 vo_5 vo_6 vo_7 vo_8 vo_9 vo_10 vo_11 vo_12 vo_13 vo_14 vo_15 vo_16 vo_17 vo_18 vo_19 y43) rfl rfl (gIV ml_X7_154 im_X6_blocks sl_X6_blocks in_X6 cd_X6_blocks) rfl eX6_blocks rfl ⟨rfl, rfl⟩ ⟨Nat.le_of_ble_eq_true rfl, Nat.le_of_ble_eq_true rfl⟩ rfl rfl rfl [4] rfl rfl rfl (Nat.le_of_ble_eq_true rfl) (tdec DX7_pointer 38 rfl) rfl ?_
                  refine g_iload_n (z := 3) C (tdec DX7_pointer 39 rfl) rfl rfl rfl ?_
                  refine g_bipush (v := 8) C (tdec DX7_pointer 40 rfl) (by decide) rfl ?_
                  refine g_imul C (tdec DX7_pointer 41 rfl) rfl ?_
                  refine g_iload_n (z := 4) C (tdec DX7_pointer 42 rfl) rfl rfl rfl ?_
                  refine g_iadd C (tdec DX7_pointer 43 rfl) rfl ?_
                  obtain ⟨r45, y46, hF⟩ := o_bind hF
                  refine g_callViRS (q0 := 29) (S := [wTV nm_0 sb_0 d_0 ve_0 vo_0 re_0 ro_0 nm0, wSB cB sb_0 sb_1 sb0, wSD d_0 sb_0 d0, wV cI cJ ve_0 ve_1 ve_2 ve_3 ve_4 ve_5 ve_6 ve_7 ve_8 ve_9 ve_10 ve_11 ve_12 ve_13 ve_14 ve_15 ve_16 ve_17 ve_18 ve_19 ve0, wV0 cI cJ vo_0 vo_1 vo_2 vo_3 vo_4 vo_5 vo0, wB cI cJ vo_5 vo_6 vo_7 vo_8 vo_9 vo_10 vo_11 vo_12 vo_13 vo_14 vo_15 vo_16 vo_17 vo_18 vo_19 (VS_b vo0), wRC re_0 ve_0 sb_0 re0, wRC ro_0 vo_0 sb_0 ro0]) (S0 := [wB cI cJ vo_5 vo_6 vo_7 vo_8 vo_9 vo_10 vo_11 vo_12 vo_13 vo_14 vo_15 vo_16 vo_17 vo_18 vo_19 (VS_b vo0)]) C (c_X0_birth l D cB cI cJ cZ vo_5 vo_6 vo_7 vo_8 vo_9 vo_10 vo_11 vo_12 vo_13 vo_14 vo_15 vo_16 vo_17 vo_18 vo_19 y46) rfl rfl (gIV ml_X7_163 im_X0_birth sl_X0_birth in_X0 cd_X0_birth) rfl eX0_birth rfl ⟨rfl, rfl⟩ ⟨Nat.le_of_ble_eq_true rfl, Nat.le_of_ble_eq_true rfl⟩ rfl rfl rfl [5] rfl rfl rfl (Nat.le_of_ble_eq_true rfl) (tdec DX7_pointer 44 rfl) rfl ?_
                  have hr9 := o_some hF
                  subst hr9
                  exact g_iretR C rfl (tdec DX7_pointer 45 rfl)
                · have hF := o_ifn hF h42
                  refine g_lookup (pt := 110) C (tdec DX7_pointer 27 rfl) (by decide) (lk_out2 27 42 57 h37 h42) (by decide) ?_
                  refine g_iconst (v := (-1)) C (tdec DX7_pointer 46 rfl) (by decide) rfl ?_
                  have hr9 := o_some hF
                  subst hr9
                  exact g_iretR C rfl (tdec DX7_pointer 47 rfl)
            · have hF := o_ifn hF h36
              refine g_iconst (v := (-1)) C (tdec DX7_pointer 24 rfl) (by decide) rfl ?_
              have hr9 := o_some hF
              subst hr9
              exact g_iretR C rfl (tdec DX7_pointer 25 rfl)
          · have hF := o_ifn hF h31
            refine g_iconst (v := (-1)) C (tdec DX7_pointer 16 rfl) (by decide) rfl ?_
            have hr9 := o_some hF
            subst hr9
            exact g_iretR C rfl (tdec DX7_pointer 17 rfl)
def FX7_data (nm0 : Int64) (sb0 : SB) (d0 : SD) (ve0 : VS) (vo0 : VS) (re0 : RC) (ro0 : RC) (p1 : Int32) (p2 : Int32) : Option (Int64) :=
  (FX7_find nm0 p1).bind fun q2 =>
  (match q2 with
  | none =>
    some 0
  | some 0 =>
    (FX6_blocks ve0).bind fun _ =>
    (FX0_has (VS_b ve0) p2).bind fun r5 =>
    if r5 = 0 then
      some 0
    else
      (FX6_blocks ve0).bind fun _ =>
      (FX0_level (VS_b ve0) p2).bind fun r10 =>
      if r10 = 0 then
        (FX6_blocks ve0).bind fun _ =>
        (FX0_number (VS_b ve0) p2).bind fun r15 =>
        some r15
      else
        some 0
  | some (_ + 1) =>
    (FX6_blocks vo0).bind fun _ =>
    (FX0_has (VS_b vo0) p2).bind fun r19 =>
    if r19 = 0 then
      some 0
    else
      (FX6_blocks vo0).bind fun _ =>
      (FX0_level (VS_b vo0) p2).bind fun r24 =>
      if r24 = 0 then
        (FX6_blocks vo0).bind fun _ =>
        (FX0_number (VS_b vo0) p2).bind fun r29 =>
        some r29
      else
        some 0)
def rX7_data : Room := { frames := 2, cells := 0, slots := 0, locals := 42 }
set_option maxHeartbeats 4000000 in
set_option maxRecDepth 100000 in
theorem c_X7_data (l : Launch) (D : va_G) (cB cI cJ cZ : ClassId) (nm_0 sb_0 sb_1 d_0 ve_0 ve_1 ve_2 ve_3 ve_4 ve_5 ve_6 ve_7 ve_8 ve_9 ve_10 ve_11 ve_12 ve_13 ve_14 ve_15 ve_16 ve_17 ve_18 ve_19 vo_0 vo_1 vo_2 vo_3 vo_4 vo_5 vo_6 vo_7 vo_8 vo_9 vo_10 vo_11 vo_12 vo_13 vo_14 vo_15 vo_16 vo_17 vo_18 vo_19 re_0 ro_0 : Nat) {nm0 : Int64} {sb0 : SB} {d0 : SD} {ve0 : VS} {vo0 : VS} {re0 : RC} {ro0 : RC} {p1 : Int32} {p2 : Int32} {res : Int64} (hF : FX7_data nm0 sb0 d0 ve0 vo0 re0 ro0 p1 p2 = some res) : gRl l yX7_data wsX7_data rX7_data D (gT cB cI cJ cZ) [.ref nm_0, .int p1, .int p2] (wTV nm_0 sb_0 d_0 ve_0 vo_0 re_0 ro_0 nm0 ++ (wSB cB sb_0 sb_1 sb0 ++ (wSD d_0 sb_0 d0 ++ (wV cI cJ ve_0 ve_1 ve_2 ve_3 ve_4 ve_5 ve_6 ve_7 ve_8 ve_9 ve_10 ve_11 ve_12 ve_13 ve_14 ve_15 ve_16 ve_17 ve_18 ve_19 ve0 ++ (wV cI cJ vo_0 vo_1 vo_2 vo_3 vo_4 vo_5 vo_6 vo_7 vo_8 vo_9 vo_10 vo_11 vo_12 vo_13 vo_14 vo_15 vo_16 vo_17 vo_18 vo_19 vo0 ++ (wRC re_0 ve_0 sb_0 re0 ++ (wRC ro_0 vo_0 sb_0 ro0))))))) res := by
  refine g_enter (own := RX7) (free := (fun _ _ => False)) (Qc := (fun sz => gRQl res)) (fun _ _ => True) (fun sz => Or.inl rfl) rfl (by decide) rfl (Nat.le_of_ble_eq_true rfl) rfl ?_
  intro p e s m args below meth c C
  unfold FX7_data at hF
  refine g_aload_n (z := 0) C (tdec DX7_data 0 rfl) rfl rfl rfl ?_
  refine g_iload_n (z := 1) C (tdec DX7_data 1 rfl) rfl rfl rfl ?_
  obtain ⟨q2, y1, hF⟩ := o_bind hF
  refine g_callVqRS (q0 := 0) (S := [wTV nm_0 sb_0 d_0 ve_0 vo_0 re_0 ro_0 nm0, wSB cB sb_0 sb_1 sb0, wSD d_0 sb_0 d0, wV cI cJ ve_0 ve_1 ve_2 ve_3 ve_4 ve_5 ve_6 ve_7 ve_8 ve_9 ve_10 ve_11 ve_12 ve_13 ve_14 ve_15 ve_16 ve_17 ve_18 ve_19 ve0, wV cI cJ vo_0 vo_1 vo_2 vo_3 vo_4 vo_5 vo_6 vo_7 vo_8 vo_9 vo_10 vo_11 vo_12 vo_13 vo_14 vo_15 vo_16 vo_17 vo_18 vo_19 vo0, wRC re_0 ve_0 sb_0 re0, wRC ro_0 vo_0 sb_0 ro0]) (S0 := [wTV nm_0 sb_0 d_0 ve_0 vo_0 re_0 ro_0 nm0]) C (c_X7_find l D cB cI cJ cZ nm_0 sb_0 d_0 ve_0 vo_0 re_0 ro_0 y1) rfl rfl (gIV ml_X7_51 im_X7_find sl_X7_find in_X7 cd_X7_find) rfl eX7_find rfl ⟨rfl, rfl⟩ ⟨Nat.le_of_ble_eq_true rfl, Nat.le_of_ble_eq_true rfl⟩ rfl rfl rfl [0] rfl rfl rfl (Nat.le_of_ble_eq_true rfl) (tdec DX7_data 2 rfl) rfl ?_
  cases q2 with
  | none =>
    refine g_st (st' := [.null]) rfl ?_
    refine g_astoreN_n (L' := [(3, .null), (0, .ref nm_0), (1, .int p1), (2, .int p2)]) C (tdec DX7_data 3 rfl) rfl (by decide) rfl rfl ?_
    refine g_aloadN_n (z := 0) C (tdec DX7_data 4 rfl) rfl rfl rfl ?_
    refine g_ifnullN (pt := 32) C (tdec DX7_data 5 rfl) (by decide) ?_
    refine g_lconst (v := 0) C (tdec DX7_data 16 rfl) (by decide) rfl ?_
    have hr9 := o_some hF
    subst hr9
    exact g_lretR C rfl (tdec DX7_data 17 rfl)
  | some k31 =>
    cases k31 with
    | zero =>
      refine g_st (st' := [.ref ve_0]) rfl ?_
      refine g_astore_n (L' := [(3, .ref ve_0), (0, .ref nm_0), (1, .int p1), (2, .int p2)]) C (tdec DX7_data 3 rfl) rfl (by decide) rfl rfl ?_
      refine g_aload_n (z := 0) C (tdec DX7_data 4 rfl) rfl rfl rfl ?_
      refine g_ifnullR C (tdec DX7_data 5 rfl) rfl ?_
      refine g_aload_n (z := 0) C (tdec DX7_data 6 rfl) rfl rfl rfl ?_
      obtain ⟨q4, y3, hF⟩ := o_bind hF
      have q9 := o_some y3
      subst q9
      refine g_callVqRS (q0 := 4) (S := [wTV nm_0 sb_0 d_0 ve_0 vo_0 re_0 ro_0 nm0, wSB cB sb_0 sb_1 sb0, wSD d_0 sb_0 d0, wV cI cJ ve_0 ve_1 ve_2 ve_3 ve_4 ve_5 ve_6 ve_7 ve_8 ve_9 ve_10 ve_11 ve_12 ve_13 ve_14 ve_15 ve_16 ve_17 ve_18 ve_19 ve0, wV cI cJ vo_0 vo_1 vo_2 vo_3 vo_4 vo_5 vo_6 vo_7 vo_8 vo_9 vo_10 vo_11 vo_12 vo_13 vo_14 vo_15 vo_16 vo_17 vo_18 vo_19 vo0, wRC re_0 ve_0 sb_0 re0, wRC ro_0 vo_0 sb_0 ro0]) (S0 := [wV cI cJ ve_0 ve_1 ve_2 ve_3 ve_4 ve_5 ve_6 ve_7 ve_8 ve_9 ve_10 ve_11 ve_12 ve_13 ve_14 ve_15 ve_16 ve_17 ve_18 ve_19 ve0]) C (c_X6_blocks l D cB cI cJ cZ ve_0 ve_1 ve_2 ve_3 ve_4 ve_5 ve_6 ve_7 ve_8 ve_9 ve_10 ve_11 ve_12 ve_13 ve_14 ve_15 ve_16 ve_17 ve_18 ve_19 y3) rfl rfl (gIV ml_X7_154 im_X6_blocks sl_X6_blocks in_X6 cd_X6_blocks) rfl eX6_blocks rfl ⟨rfl, rfl⟩ ⟨Nat.le_of_ble_eq_true rfl, Nat.le_of_ble_eq_true rfl⟩ rfl rfl rfl [3] rfl rfl rfl (Nat.le_of_ble_eq_true rfl) (tdec DX7_data 7 rfl) rfl ?_
      refine g_iload_n (z := 3) C (tdec DX7_data 8 rfl) rfl rfl rfl ?_
      obtain ⟨r5, y6, hF⟩ := o_bind hF
      refine g_callViRS (q0 := 9) (S := [wTV nm_0 sb_0 d_0 ve_0 vo_0 re_0 ro_0 nm0, wSB cB sb_0 sb_1 sb0, wSD d_0 sb_0 d0, wV0 cI cJ ve_0 ve_1 ve_2 ve_3 ve_4 ve_5 ve0, wB cI cJ ve_5 ve_6 ve_7 ve_8 ve_9 ve_10 ve_11 ve_12 ve_13 ve_14 ve_15 ve_16 ve_17 ve_18 ve_19 (VS_b ve0), wV cI cJ vo_0 vo_1 vo_2 vo_3 vo_4 vo_5 vo_6 vo_7 vo_8 vo_9 vo_10 vo_11 vo_12 vo_13 vo_14 vo_15 vo_16 vo_17 vo_18 vo_19 vo0, wRC re_0 ve_0 sb_0 re0, wRC ro_0 vo_0 sb_0 ro0]) (S0 := [wB cI cJ ve_5 ve_6 ve_7 ve_8 ve_9 ve_10 ve_11 ve_12 ve_13 ve_14 ve_15 ve_16 ve_17 ve_18 ve_19 (VS_b ve0)]) C (c_X0_has l D cB cI cJ cZ ve_5 ve_6 ve_7 ve_8 ve_9 ve_10 ve_11 ve_12 ve_13 ve_14 ve_15 ve_16 ve_17 ve_18 ve_19 y6) rfl rfl (gIV ml_X7_166 im_X0_has sl_X0_has in_X0 cd_X0_has) rfl eX0_has rfl ⟨rfl, rfl⟩ ⟨Nat.le_of_ble_eq_true rfl, Nat.le_of_ble_eq_true rfl⟩ rfl rfl rfl [4] rfl rfl rfl (Nat.le_of_ble_eq_true rfl) (tdec DX7_data 9 rfl) rfl ?_
      refine g_if_eq (pt := 32) C (tdec DX7_data 10 rfl) (by decide) rfl (fun h7 => ?_) (fun h7 => ?_)
      · have hF := o_ifp hF h7
        refine g_lconst (v := 0) C (tdec DX7_data 16 rfl) (by decide) rfl ?_
        have hr9 := o_some hF
        subst hr9
        exact g_lretR C rfl (tdec DX7_data 17 rfl)
      · have hF := o_ifn hF h7
        refine g_aload_n (z := 0) C (tdec DX7_data 11 rfl) rfl rfl rfl ?_
        obtain ⟨q9, y8, hF⟩ := o_bind hF
        have q9 := o_some y8
        subst q9
        refine g_callVqRS (q0 := 4) (S := [wTV nm_0 sb_0 d_0 ve_0 vo_0 re_0 ro_0 nm0, wSB cB sb_0 sb_1 sb0, wSD d_0 sb_0 d0, wV cI cJ ve_0 ve_1 ve_2 ve_3 ve_4 ve_5 ve_6 ve_7 ve_8 ve_9 ve_10 ve_11 ve_12 ve_13 ve_14 ve_15 ve_16 ve_17 ve_18 ve_19 ve0, wV cI cJ vo_0 vo_1 vo_2 vo_3 vo_4 vo_5 vo_6 vo_7 vo_8 vo_9 vo_10 vo_11 vo_12 vo_13 vo_14 vo_15 vo_16 vo_17 vo_18 vo_19 vo0, wRC re_0 ve_0 sb_0 re0, wRC ro_0 vo_0 sb_0 ro0]) (S0 := [wV cI cJ ve_0 ve_1 ve_2 ve_3 ve_4 ve_5 ve_6 ve_7 ve_8 ve_9 ve_10 ve_11 ve_12 ve_13 ve_14 ve_15 ve_16 ve_17 ve_18 ve_19 ve0]) C (c_X6_blocks l D cB cI cJ cZ ve_0 ve_1 ve_2 ve_3 ve_4 ve_5 ve_6 ve_7 ve_8 ve_9 ve_10 ve_11 ve_12 ve_13 ve_14 ve_15 ve_16 ve_17 ve_18 ve_19 y8) rfl rfl (gIV ml_X7_154 im_X6_blocks sl_X6_blocks in_X6 cd_X6_blocks) rfl eX6_blocks rfl ⟨rfl, rfl⟩ ⟨Nat.le_of_ble_eq_true rfl, Nat.le_of_ble_eq_true rfl⟩ rfl rfl rfl [3] rfl rfl rfl (Nat.le_of_ble_eq_true rfl) (tdec DX7_data 12 rfl) rfl ?_
        refine g_iload_n (z := 3) C (tdec DX7_data 13 rfl) rfl rfl rfl ?_
        obtain ⟨r10, y11, hF⟩ := o_bind hF
        refine g_callViRS (q0 := 9) (S := [wTV nm_0 sb_0 d_0 ve_0 vo_0 re_0 ro_0 nm0, wSB cB sb_0 sb_1 sb0, wSD d_0 sb_0 d0, wV0 cI cJ ve_0 ve_1 ve_2 ve_3 ve_4 ve_5 ve0, wB cI cJ ve_5 ve_6 ve_7 ve_8 ve_9 ve_10 ve_11 ve_12 ve_13 ve_14 ve_15 ve_16 ve_17 ve_18 ve_19 (VS_b ve0), wV cI cJ vo_0 vo_1 vo_2 vo_3 vo_4 vo_5 vo_6 vo_7 vo_8 vo_9 vo_10 vo_11 vo_12 vo_13 vo_14 vo_15 vo_16 vo_17 vo_18 vo_19 vo0, wRC re_0 ve_0 sb_0 re0, wRC ro_0 vo_0 sb_0 ro0]) (S0 := [wB cI cJ ve_5 ve_6 ve_7 ve_8 ve_9 ve_10 ve_11 ve_12 ve_13 ve_14 ve_15 ve_16 ve_17 ve_18 ve_19 (VS_b ve0)]) C (c_X0_level l D cB cI cJ cZ ve_5 ve_6 ve_7 ve_8 ve_9 ve_10 ve_11 ve_12 ve_13 ve_14 ve_15 ve_16 ve_17 ve_18 ve_19 y11) rfl rfl (gIV ml_X7_169 im_X0_level sl_X0_level in_X0 cd_X0_level) rfl eX0_level rfl ⟨rfl, rfl⟩ ⟨Nat.le_of_ble_eq_true rfl, Nat.le_of_ble_eq_true rfl⟩ rfl rfl rfl [4] rfl rfl rfl (Nat.le_of_ble_eq_true rfl) (tdec DX7_data 14 rfl) rfl ?_
        refine g_if_eq (pt := 34) C (tdec DX7_data 15 rfl) (by decide) rfl (fun h12 => ?_) (fun h12 => ?_)
        · have hF := o_ifp hF h12
          refine g_aload_n (z := 0) C (tdec DX7_data 18 rfl) rfl rfl rfl ?_
          obtain ⟨q14, y13, hF⟩ := o_bind hF
          have q9 := o_some y13
          subst q9
          refine g_callVqRS (q0 := 4) (S := [wTV nm_0 sb_0 d_0 ve_0 vo_0 re_0 ro_0 nm0, wSB cB sb_0 sb_1 sb0, wSD d_0 sb_0 d0, wV cI cJ ve_0 ve_1 ve_2 ve_3 ve_4 ve_5 ve_6 ve_7 ve_8 ve_9 ve_10 ve_11 ve_12 ve_13 ve_14 ve_15 ve_16 ve_17 ve_18 ve_19 ve0, wV cI cJ vo_0 vo_1 vo_2 vo_3 vo_4 vo_5 vo_6 vo_7 vo_8 vo_9 vo_10 vo_11 vo_12 vo_13 vo_14 vo_15 vo_16 vo_17 vo_18 vo_19 vo0, wRC re_0 ve_0 sb_0 re0, wRC ro_0 vo_0 sb_0 ro0]) (S0 := [wV cI cJ ve_0 ve_1 ve_2 ve_3 ve_4 ve_5 ve_6 ve_7 ve_8 ve_9 ve_10 ve_11 ve_12 ve_13 ve_14 ve_15 ve_16 ve_17 ve_18 ve_19 ve0]) C (c_X6_blocks l D cB cI cJ cZ ve_0 ve_1 ve_2 ve_3 ve_4 ve_5 ve_6 ve_7 ve_8 ve_9 ve_10 ve_11 ve_12 ve_13 ve_14 ve_15 ve_16 ve_17 ve_18 ve_19 y13) rfl rfl (gIV ml_X7_154 im_X6_blocks sl_X6_blocks in_X6 cd_X6_blocks) rfl eX6_blocks rfl ⟨rfl, rfl⟩ ⟨Nat.le_of_ble_eq_true rfl, Nat.le_of_ble_eq_true rfl⟩ rfl rfl rfl [3] rfl rfl rfl (Nat.le_of_ble_eq_true rfl) (tdec DX7_data 19 rfl) rfl ?_
          refine g_iload_n (z := 3) C (tdec DX7_data 20 rfl) rfl rfl rfl ?_
          obtain ⟨r15, y16, hF⟩ := o_bind hF
          refine g_callVlRS (q0 := 9) (S := [wTV nm_0 sb_0 d_0 ve_0 vo_0 re_0 ro_0 nm0, wSB cB sb_0 sb_1 sb0, wSD d_0 sb_0 d0, wV0 cI cJ ve_0 ve_1 ve_2 ve_3 ve_4 ve_5 ve0, wB cI cJ ve_5 ve_6 ve_7 ve_8 ve_9 ve_10 ve_11 ve_12 ve_13 ve_14 ve_15 ve_16 ve_17 ve_18 ve_19 (VS_b ve0), wV cI cJ vo_0 vo_1 vo_2 vo_3 vo_4 vo_5 vo_6 vo_7 vo_8 vo_9 vo_10 vo_11 vo_12 vo_13 vo_14 vo_15 vo_16 vo_17 vo_18 vo_19 vo0, wRC re_0 ve_0 sb_0 re0, wRC ro_0 vo_0 sb_0 ro0]) (S0 := [wB cI cJ ve_5 ve_6 ve_7 ve_8 ve_9 ve_10 ve_11 ve_12 ve_13 ve_14 ve_15 ve_16 ve_17 ve_18 ve_19 (VS_b ve0)]) C (c_X0_number l D cB cI cJ cZ ve_5 ve_6 ve_7 ve_8 ve_9 ve_10 ve_11 ve_12 ve_13 ve_14 ve_15 ve_16 ve_17 ve_18 ve_19 y16) rfl rfl (gIV ml_X7_178 im_X0_number sl_X0_number in_X0 cd_X0_number) rfl eX0_number rfl ⟨rfl, rfl⟩ ⟨Nat.le_of_ble_eq_true rfl, Nat.le_of_ble_eq_true rfl⟩ rfl rfl rfl [4] rfl rfl rfl (Nat.le_of_ble_eq_true rfl) (tdec DX7_data 21 rfl) rfl ?_
          have hr9 := o_some hF
          subst hr9
          exact g_lretR C rfl (tdec DX7_data 22 rfl)
        · have hF := o_ifn hF h12
          refine g_lconst (v := 0) C (tdec DX7_data 16 rfl) (by decide) rfl ?_
          have hr9 := o_some hF
          subst hr9
          exact g_lretR C rfl (tdec DX7_data 17 rfl)
    | succ k31 =>
      refine g_st (st' := [.ref vo_0]) rfl ?_
      refine g_astore_n (L' := [(3, .ref vo_0), (0, .ref nm_0), (1, .int p1), (2, .int p2)]) C (tdec DX7_data 3 rfl) rfl (by decide) rfl rfl ?_
      refine g_aload_n (z := 0) C (tdec DX7_data 4 rfl) rfl rfl rfl ?_
      refine g_ifnullR C (tdec DX7_data 5 rfl) rfl ?_
      refine g_aload_n (z := 0) C (tdec DX7_data 6 rfl) rfl rfl rfl ?_
      obtain ⟨q18, y17, hF⟩ := o_bind hF
      have q9 := o_some y17
      subst q9
      refine g_callVqRS (q0 := 24) (S := [wTV nm_0 sb_0 d_0 ve_0 vo_0 re_0 ro_0 nm0, wSB cB sb_0 sb_1 sb0, wSD d_0 sb_0 d0, wV cI cJ ve_0 ve_1 ve_2 ve_3 ve_4 ve_5 ve_6 ve_7 ve_8 ve_9 ve_10 ve_11 ve_12 ve_13 ve_14 ve_15 ve_16 ve_17 ve_18 ve_19 ve0, wV cI cJ vo_0 vo_1 vo_2 vo_3 vo_4 vo_5 vo_6 vo_7 vo_8 vo_9 vo_10 vo_11 vo_12 vo_13 vo_14 vo_15 vo_16 vo_17 vo_18 vo_19 vo0, wRC re_0 ve_0 sb_0 re0, wRC ro_0 vo_0 sb_0 ro0]) (S0 := [wV cI cJ vo_0 vo_1 vo_2 vo_3 vo_4 vo_5 vo_6 vo_7 vo_8 vo_9 vo_10 vo_11 vo_12 vo_13 vo_14 vo_15 vo_16 vo_17 vo_18 vo_19 vo0]) C (c_X6_blocks l D cB cI cJ cZ vo_0 vo_1 vo_2 vo_3 vo_4 vo_5 vo_6 vo_7 vo_8 vo_9 vo_10 vo_11 vo_12 vo_13 vo_14 vo_15 vo_16 vo_17 vo_18 vo_19 y17) rfl rfl (gIV ml_X7_154 im_X6_blocks sl_X6_blocks in_X6 cd_X6_blocks) rfl eX6_blocks rfl ⟨rfl, rfl⟩ ⟨Nat.le_of_ble_eq_true rfl, Nat.le_of_ble_eq_true rfl⟩ rfl rfl rfl [4] rfl rfl rfl (Nat.le_of_ble_eq_true rfl) (tdec DX7_data 7 rfl) rfl ?_
      refine g_iload_n (z := 3) C (tdec DX7_data 8 rfl) rfl rfl rfl ?_
      obtain ⟨r19, y20, hF⟩ := o_bind hF
      refine g_callViRS (q0 := 29) (S := [wTV nm_0 sb_0 d_0 ve_0 vo_0 re_0 ro_0 nm0, wSB cB sb_0 sb_1 sb0, wSD d_0 sb_0 d0, wV cI cJ ve_0 ve_1 ve_2 ve_3 ve_4 ve_5 ve_6 ve_7 ve_8 ve_9 ve_10 ve_11 ve_12 ve_13 ve_14 ve_15 ve_16 ve_17 ve_18 ve_19 ve0, wV0 cI cJ vo_0 vo_1 vo_2 vo_3 vo_4 vo_5 vo0, wB cI cJ vo_5 vo_6 vo_7 vo_8 vo_9 vo_10 vo_11 vo_12 vo_13 vo_14 vo_15 vo_16 vo_17 vo_18 vo_19 (VS_b vo0), wRC re_0 ve_0 sb_0 re0, wRC ro_0 vo_0 sb_0 ro0]) (S0 := [wB cI cJ vo_5 vo_6 vo_7 vo_8 vo_9 vo_10 vo_11 vo_12 vo_13 vo_14 vo_15 vo_16 vo_17 vo_18 vo_19 (VS_b vo0)]) C (c_X0_has l D cB cI cJ cZ vo_5 vo_6 vo_7 vo_8 vo_9 vo_10 vo_11 vo_12 vo_13 vo_14 vo_15 vo_16 vo_17 vo_18 vo_19 y20) rfl rfl (gIV ml_X7_166 im_X0_has sl_X0_has in_X0 cd_X0_has) rfl eX0_has rfl ⟨rfl, rfl⟩ ⟨Nat.le_of_ble_eq_true rfl, Nat.le_of_ble_eq_true rfl⟩ rfl rfl rfl [5] rfl rfl rfl (Nat.le_of_ble_eq_true rfl) (tdec DX7_data 9 rfl) rfl ?_
      refine g_if_eq (pt := 32) C (tdec DX7_data 10 rfl) (by decide) rfl (fun h21 => ?_) (fun h21 => ?_)
      · have hF := o_ifp hF h21
        refine g_lconst (v := 0) C (tdec DX7_data 16 rfl) (by decide) rfl ?_
        have hr9 := o_some hF
        subst hr9
        exact g_lretR C rfl (tdec DX7_data 17 rfl)
      · have hF := o_ifn hF h21
        refine g_aload_n (z := 0) C (tdec DX7_data 11 rfl) rfl rfl rfl ?_
        obtain ⟨q23, y22, hF⟩ := o_bind hF
        have q9 := o_some y22
        subst q9
        refine g_callVqRS (q0 := 24) (S := [wTV nm_0 sb_0 d_0 ve_0 vo_0 re_0 ro_0 nm0, wSB cB sb_0 sb_1 sb0, wSD d_0 sb_0 d0, wV cI cJ ve_0 ve_1 ve_2 ve_3 ve_4 ve_5 ve_6 ve_7 ve_8 ve_9 ve_10 ve_11 ve_12 ve_13 ve_14 ve_15 ve_16 ve_17 ve_18 ve_19 ve0, wV cI cJ vo_0 vo_1 vo_2 vo_3 vo_4 vo_5 vo_6 vo_7 vo_8 vo_9 vo_10 vo_11 vo_12 vo_13 vo_14 vo_15 vo_16 vo_17 vo_18 vo_19 vo0, wRC re_0 ve_0 sb_0 re0, wRC ro_0 vo_0 sb_0 ro0]) (S0 := [wV cI cJ vo_0 vo_1 vo_2 vo_3 vo_4 vo_5 vo_6 vo_7 vo_8 vo_9 vo_10 vo_11 vo_12 vo_13 vo_14 vo_15 vo_16 vo_17 vo_18 vo_19 vo0]) C (c_X6_blocks l D cB cI cJ cZ vo_0 vo_1 vo_2 vo_3 vo_4 vo_5 vo_6 vo_7 vo_8 vo_9 vo_10 vo_11 vo_12 vo_13 vo_14 vo_15 vo_16 vo_17 vo_18 vo_19 y22) rfl rfl (gIV ml_X7_154 im_X6_blocks sl_X6_blocks in_X6 cd_X6_blocks) rfl eX6_blocks rfl ⟨rfl, rfl⟩ ⟨Nat.le_of_ble_eq_true rfl, Nat.le_of_ble_eq_true rfl⟩ rfl rfl rfl [4] rfl rfl rfl (Nat.le_of_ble_eq_true rfl) (tdec DX7_data 12 rfl) rfl ?_
        refine g_iload_n (z := 3) C (tdec DX7_data 13 rfl) rfl rfl rfl ?_
        obtain ⟨r24, y25, hF⟩ := o_bind hF
        refine g_callViRS (q0 := 29) (S := [wTV nm_0 sb_0 d_0 ve_0 vo_0 re_0 ro_0 nm0, wSB cB sb_0 sb_1 sb0, wSD d_0 sb_0 d0, wV cI cJ ve_0 ve_1 ve_2 ve_3 ve_4 ve_5 ve_6 ve_7 ve_8 ve_9 ve_10 ve_11 ve_12 ve_13 ve_14 ve_15 ve_16 ve_17 ve_18 ve_19 ve0, wV0 cI cJ vo_0 vo_1 vo_2 vo_3 vo_4 vo_5 vo0, wB cI cJ vo_5 vo_6 vo_7 vo_8 vo_9 vo_10 vo_11 vo_12 vo_13 vo_14 vo_15 vo_16 vo_17 vo_18 vo_19 (VS_b vo0), wRC re_0 ve_0 sb_0 re0, wRC ro_0 vo_0 sb_0 ro0]) (S0 := [wB cI cJ vo_5 vo_6 vo_7 vo_8 vo_9 vo_10 vo_11 vo_12 vo_13 vo_14 vo_15 vo_16 vo_17 vo_18 vo_19 (VS_b vo0)]) C (c_X0_level l D cB cI cJ cZ vo_5 vo_6 vo_7 vo_8 vo_9 vo_10 vo_11 vo_12 vo_13 vo_14 vo_15 vo_16 vo_17 vo_18 vo_19 y25) rfl rfl (gIV ml_X7_169 im_X0_level sl_X0_level in_X0 cd_X0_level) rfl eX0_level rfl ⟨rfl, rfl⟩ ⟨Nat.le_of_ble_eq_true rfl, Nat.le_of_ble_eq_true rfl⟩ rfl rfl rfl [5] rfl rfl rfl (Nat.le_of_ble_eq_true rfl) (tdec DX7_data 14 rfl) rfl ?_
        refine g_if_eq (pt := 34) C (tdec DX7_data 15 rfl) (by decide) rfl (fun h26 => ?_) (fun h26 => ?_)
        · have hF := o_ifp hF h26
          refine g_aload_n (z := 0) C (tdec DX7_data 18 rfl) rfl rfl rfl ?_
          obtain ⟨q28, y27, hF⟩ := o_bind hF
          have q9 := o_some y27
          subst q9
          refine g_callVqRS (q0 := 24) (S := [wTV nm_0 sb_0 d_0 ve_0 vo_0 re_0 ro_0 nm0, wSB cB sb_0 sb_1 sb0, wSD d_0 sb_0 d0, wV cI cJ ve_0 ve_1 ve_2 ve_3 ve_4 ve_5 ve_6 ve_7 ve_8 ve_9 ve_10 ve_11 ve_12 ve_13 ve_14 ve_15 ve_16 ve_17 ve_18 ve_19 ve0, wV cI cJ vo_0 vo_1 vo_2 vo_3 vo_4 vo_5 vo_6 vo_7 vo_8 vo_9 vo_10 vo_11 vo_12 vo_13 vo_14 vo_15 vo_16 vo_17 vo_18 vo_19 vo0, wRC re_0 ve_0 sb_0 re0, wRC ro_0 vo_0 sb_0 ro0]) (S0 := [wV cI cJ vo_0 vo_1 vo_2 vo_3 vo_4 vo_5 vo_6 vo_7 vo_8 vo_9 vo_10 vo_11 vo_12 vo_13 vo_14 vo_15 vo_16 vo_17 vo_18 vo_19 vo0]) C (c_X6_blocks l D cB cI cJ cZ vo_0 vo_1 vo_2 vo_3 vo_4 vo_5 vo_6 vo_7 vo_8 vo_9 vo_10 vo_11 vo_12 vo_13 vo_14 vo_15 vo_16 vo_17 vo_18 vo_19 y27) rfl rfl (gIV ml_X7_154 im_X6_blocks sl_X6_blocks in_X6 cd_X6_blocks) rfl eX6_blocks rfl ⟨rfl, rfl⟩ ⟨Nat.le_of_ble_eq_true rfl, Nat.le_of_ble_eq_true rfl⟩ rfl rfl rfl [4] rfl rfl rfl (Nat.le_of_ble_eq_true rfl) (tdec DX7_data 19 rfl) rfl ?_
          refine g_iload_n (z := 3) C (tdec DX7_data 20 rfl) rfl rfl rfl ?_
          obtain ⟨r29, y30, hF⟩ := o_bind hF
          refine g_callVlRS (q0 := 29) (S := [wTV nm_0 sb_0 d_0 ve_0 vo_0 re_0 ro_0 nm0, wSB cB sb_0 sb_1 sb0, wSD d_0 sb_0 d0, wV cI cJ ve_0 ve_1 ve_2 ve_3 ve_4 ve_5 ve_6 ve_7 ve_8 ve_9 ve_10 ve_11 ve_12 ve_13 ve_14 ve_15 ve_16 ve_17 ve_18 ve_19 ve0, wV0 cI cJ vo_0 vo_1 vo_2 vo_3 vo_4 vo_5 vo0, wB cI cJ vo_5 vo_6 vo_7 vo_8 vo_9 vo_10 vo_11 vo_12 vo_13 vo_14 vo_15 vo_16 vo_17 vo_18 vo_19 (VS_b vo0), wRC re_0 ve_0 sb_0 re0, wRC ro_0 vo_0 sb_0 ro0]) (S0 := [wB cI cJ vo_5 vo_6 vo_7 vo_8 vo_9 vo_10 vo_11 vo_12 vo_13 vo_14 vo_15 vo_16 vo_17 vo_18 vo_19 (VS_b vo0)]) C (c_X0_number l D cB cI cJ cZ vo_5 vo_6 vo_7 vo_8 vo_9 vo_10 vo_11 vo_12 vo_13 vo_14 vo_15 vo_16 vo_17 vo_18 vo_19 y30) rfl rfl (gIV ml_X7_178 im_X0_number sl_X0_number in_X0 cd_X0_number) rfl eX0_number rfl ⟨rfl, rfl⟩ ⟨Nat.le_of_ble_eq_true rfl, Nat.le_of_ble_eq_true rfl⟩ rfl rfl rfl [5] rfl rfl rfl (Nat.le_of_ble_eq_true rfl) (tdec DX7_data 21 rfl) rfl ?_
          have hr9 := o_some hF
          subst hr9
          exact g_lretR C rfl (tdec DX7_data 22 rfl)
        · have hF := o_ifn hF h26
          refine g_lconst (v := 0) C (tdec DX7_data 16 rfl) (by decide) rfl ?_
          have hr9 := o_some hF
          subst hr9
          exact g_lretR C rfl (tdec DX7_data 17 rfl)
def FX7_look (nm0 : Int64) (sb0 : SB) (d0 : SD) (ve0 : VS) (vo0 : VS) (re0 : RC) (ro0 : RC) (p1 : Int32) (p2 : Int32) : Option (Int32) :=
  (FX7_find nm0 p1).bind fun q2 =>
  (match q2 with
  | none =>
    some (-1)
  | some 0 =>
    if p2 = 0 then
      (FX6_blocks ve0).bind fun _ =>
      (FX0_count (VS_b ve0)).bind fun r6 =>
      some r6
    else
      if p2 = 1 then
        (FX6_blocks ve0).bind fun _ =>
        (FX0_free (VS_b ve0)).bind fun r11 =>
        some r11
      else
        if p2 = 2 then
          (FX6_generation ve0).bind fun r14 =>
          some r14
        else
          if p2 = 3 then
            (FX6_snapshots ve0).bind fun r17 =>
            some r17
          else
            if p2 = 4 then
              (FX6_isBusy ve0).bind fun r20 =>
              if r20 = 0 then
                some 0
              else
                some 1
            else
              if p2 = 5 then
                (FX6_blocks ve0).bind fun _ =>
                (FX0_told (VS_b ve0) 4800).bind fun r26 =>
                some r26
              else
                if p2 = 6 then
                  (FX6_blocks ve0).bind fun _ =>
                  (FX0_birth (VS_b ve0) 4800).bind fun r31 =>
                  some r31
                else
                  if p2 = 7 then
                    (FX6_blocks ve0).bind fun _ =>
                    (FX0_told (VS_b ve0) 4801).bind fun r36 =>
                    some r36
                  else
                    if p2 = 8 then
                      (FX7_receivingOf nm0 p1).bind fun q40 =>
                      (match q40 with
                      | none => none
                      | some 0 =>
                        (FX3_received re0).bind fun r41 =>
                        some r41
                      | some (_ + 1) =>
                        (FX3_received ro0).bind fun r43 =>
                        some r43)
                    else
                      some (-1)
  | some (_ + 1) =>
    if p2 = 0 then
      (FX6_blocks vo0).bind fun _ =>
      (FX0_count (VS_b vo0)).bind fun r49 =>
      some r49
    else
      if p2 = 1 then
        (FX6_blocks vo0).bind fun _ =>
        (FX0_free (VS_b vo0)).bind fun r54 =>
        some r54
      else
        if p2 = 2 then
          (FX6_generation vo0).bind fun r57 =>
          some r57
        else
          if p2 = 3 then
            (FX6_snapshots vo0).bind fun r60 =>
            some r60
          else
            if p2 = 4 then
              (FX6_isBusy vo0).bind fun r63 =>
              if r63 = 0 then
                some 0
              else
                some 1
            else
              if p2 = 5 then
                (FX6_blocks vo0).bind fun _ =>
                (FX0_told (VS_b vo0) 4800).bind fun r69 =>
                some r69
              else
                if p2 = 6 then
                  (FX6_blocks vo0).bind fun _ =>
                  (FX0_birth (VS_b vo0) 4800).bind fun r74 =>
                  some r74
                else
                  if p2 = 7 then
                    (FX6_blocks vo0).bind fun _ =>
                    (FX0_told (VS_b vo0) 4801).bind fun r79 =>
                    some r79
                  else
                    if p2 = 8 then
                      (FX7_receivingOf nm0 p1).bind fun q83 =>
                      (match q83 with
                      | none => none
                      | some 0 =>
                        (FX3_received re0).bind fun r84 =>
                        some r84
                      | some (_ + 1) =>
                        (FX3_received ro0).bind fun r86 =>
                        some r86)
                    else
                      some (-1))
def rX7_look : Room := { frames := 2, cells := 0, slots := 0, locals := 42 }
set_option maxHeartbeats 4000000 in
set_option maxRecDepth 100000 in
theorem c_X7_look (l : Launch) (D : va_G) (cB cI cJ cZ : ClassId) (nm_0 sb_0 sb_1 d_0 ve_0 ve_1 ve_2 ve_3 ve_4 ve_5 ve_6 ve_7 ve_8 ve_9 ve_10 ve_11 ve_12 ve_13 ve_14 ve_15 ve_16 ve_17 ve_18 ve_19 vo_0 vo_1 vo_2 vo_3 vo_4 vo_5 vo_6 vo_7 vo_8 vo_9 vo_10 vo_11 vo_12 vo_13 vo_14 vo_15 vo_16 vo_17 vo_18 vo_19 re_0 ro_0 : Nat) {nm0 : Int64} {sb0 : SB} {d0 : SD} {ve0 : VS} {vo0 : VS} {re0 : RC} {ro0 : RC} {p1 : Int32} {p2 : Int32} {res : Int32} (hF : FX7_look nm0 sb0 d0 ve0 vo0 re0 ro0 p1 p2 = some res) : gRi l yX7_look wsX7_look rX7_look D (gT cB cI cJ cZ) [.ref nm_0, .int p1, .int p2] (wTV nm_0 sb_0 d_0 ve_0 vo_0 re_0 ro_0 nm0 ++ (wSB cB sb_0 sb_1 sb0 ++ (wSD d_0 sb_0 d0 ++ (wV cI cJ ve_0 ve_1 ve_2 ve_3 ve_4 ve_5 ve_6 ve_7 ve_8 ve_9 ve_10 ve_11 ve_12 ve_13 ve_14 ve_15 ve_16 ve_17 ve_18 ve_19 ve0 ++ (wV cI cJ vo_0 vo_1 vo_2 vo_3 vo_4 vo_5 vo_6 vo_7 vo_8 vo_9 vo_10 vo_11 vo_12 vo_13 vo_14 vo_15 vo_16 vo_17 vo_18 vo_19 vo0 ++ (wRC re_0 ve_0 sb_0 re0 ++ (wRC ro_0 vo_0 sb_0 ro0))))))) res := by
  refine g_enter (own := RX7) (free := (fun _ _ => False)) (Qc := (fun sz => gRQi res)) (fun _ _ => True) (fun sz => Or.inl rfl) rfl (by decide) rfl (Nat.le_of_ble_eq_true rfl) rfl ?_
  intro p e s m args below meth c C
  unfold FX7_look at hF
  refine g_aload_n (z := 0) C (tdec DX7_look 0 rfl) rfl rfl rfl ?_
  refine g_iload_n (z := 1) C (tdec DX7_look 1 rfl) rfl rfl rfl ?_
  obtain ⟨q2, y1, hF⟩ := o_bind hF
  refine g_callVqRS (q0 := 0) (S := [wTV nm_0 sb_0 d_0 ve_0 vo_0 re_0 ro_0 nm0, wSB cB sb_0 sb_1 sb0, wSD d_0 sb_0 d0, wV cI cJ ve_0 ve_1 ve_2 ve_3 ve_4 ve_5 ve_6 ve_7 ve_8 ve_9 ve_10 ve_11 ve_12 ve_13 ve_14 ve_15 ve_16 ve_17 ve_18 ve_19 ve0, wV cI cJ vo_0 vo_1 vo_2 vo_3 vo_4 vo_5 vo_6 vo_7 vo_8 vo_9 vo_10 vo_11 vo_12 vo_13 vo_14 vo_15 vo_16 vo_17 vo_18 vo_19 vo0, wRC re_0 ve_0 sb_0 re0, wRC ro_0 vo_0 sb_0 ro0]) (S0 := [wTV nm_0 sb_0 d_0 ve_0 vo_0 re_0 ro_0 nm0]) C (c_X7_find l D cB cI cJ cZ nm_0 sb_0 d_0 ve_0 vo_0 re_0 ro_0 y1) rfl rfl (gIV ml_X7_51 im_X7_find sl_X7_find in_X7 cd_X7_find) rfl eX7_find rfl ⟨rfl, rfl⟩ ⟨Nat.le_of_ble_eq_true rfl, Nat.le_of_ble_eq_true rfl⟩ rfl rfl rfl [0] rfl rfl rfl (Nat.le_of_ble_eq_true rfl) (tdec DX7_look 2 rfl) rfl ?_
  cases q2 with
  | none =>
    refine g_st (st' := [.null]) rfl ?_
    refine g_astoreN_n (L' := [(3, .null), (0, .ref nm_0), (1, .int p1), (2, .int p2)]) C (tdec DX7_look 3 rfl) rfl (by decide) rfl rfl ?_
    refine g_aloadN_n (z := 0) C (tdec DX7_look 4 rfl) rfl rfl rfl ?_
    refine g_ifnonnullN C (tdec DX7_look 5 rfl) rfl ?_
    refine g_iconst (v := (-1)) C (tdec DX7_look 6 rfl) (by decide) rfl ?_
    have hr9 := o_some hF
    subst hr9
    exact g_iretR C rfl (tdec DX7_look 7 rfl)
  | some k89 =>
    cases k89 with
    | zero =>
      refine g_st (st' := [.ref ve_0]) rfl ?_
      refine g_astore_n (L' := [(3, .ref ve_0), (0, .ref nm_0), (1, .int p1), (2, .int p2)]) C (tdec DX7_look 3 rfl) rfl (by decide) rfl rfl ?_
      refine g_aload_n (z := 0) C (tdec DX7_look 4 rfl) rfl rfl rfl ?_
      refine g_ifnonnullR (pt := 12) C (tdec DX7_look 5 rfl) (by decide) ?_
      refine g_iload_n (z := 3) C (tdec DX7_look 8 rfl) rfl rfl rfl ?_
      by_cases h3 : p2 = 0
      · have hF := o_ifp hF h3
        refine g_switchIn (pt := 64) C (0) (tdec DX7_look 9 rfl) (h3.trans (by decide)) (by decide) (by decide) (by decide) rfl (by decide) ?_
        refine g_aload_n (z := 0) C (tdec DX7_look 10 rfl) rfl rfl rfl ?_
        obtain ⟨q5, y4, hF⟩ := o_bind hF
        have q9 := o_some y4
        subst q9
        refine g_callVqRS (q0 := 4) (S := [wTV nm_0 sb_0 d_0 ve_0 vo_0 re_0 ro_0 nm0, wSB cB sb_0 sb_1 sb0, wSD d_0 sb_0 d0, wV cI cJ ve_0 ve_1 ve_2 ve_3 ve_4 ve_5 ve_6 ve_7 ve_8 ve_9 ve_10 ve_11 ve_12 ve_13 ve_14 ve_15 ve_16 ve_17 ve_18 ve_19 ve0, wV cI cJ vo_0 vo_1 vo_2 vo_3 vo_4 vo_5 vo_6 vo_7 vo_8 vo_9 vo_10 vo_11 vo_12 vo_13 vo_14 vo_15 vo_16 vo_17 vo_18 vo_19 vo0, wRC re_0 ve_0 sb_0 re0, wRC ro_0 vo_0 sb_0 ro0]) (S0 := [wV cI cJ ve_0 ve_1 ve_2 ve_3 ve_4 ve_5 ve_6 ve_7 ve_8 ve_9 ve_10 ve_11 ve_12 ve_13 ve_14 ve_15 ve_16 ve_17 ve_18 ve_19 ve0]) C (c_X6_blocks l D cB cI cJ cZ ve_0 ve_1 ve_2 ve_3 ve_4 ve_5 ve_6 ve_7 ve_8 ve_9 ve_10 ve_11 ve_12 ve_13 ve_14 ve_15 ve_16 ve_17 ve_18 ve_19 y4) rfl rfl (gIV ml_X7_154 im_X6_blocks sl_X6_blocks in_X6 cd_X6_blocks) rfl eX6_blocks rfl ⟨rfl, rfl⟩ ⟨Nat.le_of_ble_eq_true rfl, Nat.le_of_ble_eq_true rfl⟩ rfl rfl rfl [3] rfl rfl rfl (Nat.le_of_ble_eq_true rfl) (tdec DX7_look 11 rfl) rfl ?_
        obtain ⟨r6, y7, hF⟩ := o_bind hF
        refine g_callViRS (q0 := 9) (S := [wTV nm_0 sb_0 d_0 ve_0 vo_0 re_0 ro_0 nm0, wSB cB sb_0 sb_1 sb0, wSD d_0 sb_0 d0, wV0 cI cJ ve_0 ve_1 ve_2 ve_3 ve_4 ve_5 ve0, wB cI cJ ve_5 ve_6 ve_7 ve_8 ve_9 ve_10 ve_11 ve_12 ve_13 ve_14 ve_15 ve_16 ve_17 ve_18 ve_19 (VS_b ve0), wV cI cJ vo_0 vo_1 vo_2 vo_3 vo_4 vo_5 vo_6 vo_7 vo_8 vo_9 vo_10 vo_11 vo_12 vo_13 vo_14 vo_15 vo_16 vo_17 vo_18 vo_19 vo0, wRC re_0 ve_0 sb_0 re0, wRC ro_0 vo_0 sb_0 ro0]) (S0 := [wB cI cJ ve_5 ve_6 ve_7 ve_8 ve_9 ve_10 ve_11 ve_12 ve_13 ve_14 ve_15 ve_16 ve_17 ve_18 ve_19 (VS_b ve0)]) C (c_X0_count l D cB cI cJ cZ ve_5 ve_6 ve_7 ve_8 ve_9 ve_10 ve_11 ve_12 ve_13 ve_14 ve_15 ve_16 ve_17 ve_18 ve_19 y7) rfl rfl (gIV ml_X7_181 im_X0_count sl_X0_count in_X0 cd_X0_count) rfl eX0_count rfl ⟨rfl, rfl⟩ ⟨Nat.le_of_ble_eq_true rfl, Nat.le_of_ble_eq_true rfl⟩ rfl rfl rfl [4] rfl rfl rfl (Nat.le_of_ble_eq_true rfl) (tdec DX7_look 12 rfl) rfl ?_
        have hr9 := o_some hF
        subst hr9
        exact g_iretR C rfl (tdec DX7_look 13 rfl)
      · have hF := o_ifn hF h3
        by_cases h8 : p2 = 1
        · have hF := o_ifp hF h8
          refine g_switchIn (pt := 72) C (1) (tdec DX7_look 9 rfl) (h8.trans (by decide)) (by decide) (by decide) (by decide) rfl (by decide) ?_
          refine g_aload_n (z := 0) C (tdec DX7_look 14 rfl) rfl rfl rfl ?_
          obtain ⟨q10, y9, hF⟩ := o_bind hF
          have q9 := o_some y9
          subst q9
          refine g_callVqRS (q0 := 4) (S := [wTV nm_0 sb_0 d_0 ve_0 vo_0 re_0 ro_0 nm0, wSB cB sb_0 sb_1 sb0, wSD d_0 sb_0 d0, wV cI cJ ve_0 ve_1 ve_2 ve_3 ve_4 ve_5 ve_6 ve_7 ve_8 ve_9 ve_10 ve_11 ve_12 ve_13 ve_14 ve_15 ve_16 ve_17 ve_18 ve_19 ve0, wV cI cJ vo_0 vo_1 vo_2 vo_3 vo_4 vo_5 vo_6 vo_7 vo_8 vo_9 vo_10 vo_11 vo_12 vo_13 vo_14 vo_15 vo_16 vo_17 vo_18 vo_19 vo0, wRC re_0 ve_0 sb_0 re0, wRC ro_0 vo_0 sb_0 ro0]) (S0 := [wV cI cJ ve_0 ve_1 ve_2 ve_3 ve_4 ve_5 ve_6 ve_7 ve_8 ve_9 ve_10 ve_11 ve_12 ve_13 ve_14 ve_15 ve_16 ve_17 ve_18 ve_19 ve0]) C (c_X6_blocks l D cB cI cJ cZ ve_0 ve_1 ve_2 ve_3 ve_4 ve_5 ve_6 ve_7 ve_8 ve_9 ve_10 ve_11 ve_12 ve_13 ve_14 ve_15 ve_16 ve_17 ve_18 ve_19 y9) rfl rfl (gIV ml_X7_154 im_X6_blocks sl_X6_blocks in_X6 cd_X6_blocks) rfl eX6_blocks rfl ⟨rfl, rfl⟩ ⟨Nat.le_of_ble_eq_true rfl, Nat.le_of_ble_eq_true rfl⟩ rfl rfl rfl [3] rfl rfl rfl (Nat.le_of_ble_eq_true rfl) (tdec DX7_look 15 rfl) rfl ?_
          obtain ⟨r11, y12, hF⟩ := o_bind hF
          refine g_callViRS (q0 := 9) (S := [wTV nm_0 sb_0 d_0 ve_0 vo_0 re_0 ro_0 nm0, wSB cB sb_0 sb_1 sb0, wSD d_0 sb_0 d0, wV0 cI cJ ve_0 ve_1 ve_2 ve_3 ve_4 ve_5 ve0, wB cI cJ ve_5 ve_6 ve_7 ve_8 ve_9 ve_10 ve_11 ve_12 ve_13 ve_14 ve_15 ve_16 ve_17 ve_18 ve_19 (VS_b ve0), wV cI cJ vo_0 vo_1 vo_2 vo_3 vo_4 vo_5 vo_6 vo_7 vo_8 vo_9 vo_10 vo_11 vo_12 vo_13 vo_14 vo_15 vo_16 vo_17 vo_18 vo_19 vo0, wRC re_0 ve_0 sb_0 re0, wRC ro_0 vo_0 sb_0 ro0]) (S0 := [wB cI cJ ve_5 ve_6 ve_7 ve_8 ve_9 ve_10 ve_11 ve_12 ve_13 ve_14 ve_15 ve_16 ve_17 ve_18 ve_19 (VS_b ve0)]) C (c_X0_free l D cB cI cJ cZ ve_5 ve_6 ve_7 ve_8 ve_9 ve_10 ve_11 ve_12 ve_13 ve_14 ve_15 ve_16 ve_17 ve_18 ve_19 y12) rfl rfl (gIV ml_X7_184 im_X0_free sl_X0_free in_X0 cd_X0_free) rfl eX0_free rfl ⟨rfl, rfl⟩ ⟨Nat.le_of_ble_eq_true rfl, Nat.le_of_ble_eq_true rfl⟩ rfl rfl rfl [4] rfl rfl rfl (Nat.le_of_ble_eq_true rfl) (tdec DX7_look 16 rfl) rfl ?_
          have hr9 := o_some hF
          subst hr9
          exact g_iretR C rfl (tdec DX7_look 17 rfl)
        · have hF := o_ifn hF h8
          by_cases h13 : p2 = 2
          · have hF := o_ifp hF h13
            refine g_switchIn (pt := 80) C (2) (tdec DX7_look 9 rfl) (h13.trans (by decide)) (by decide) (by decide) (by decide) rfl (by decide) ?_
            refine g_aload_n (z := 0) C (tdec DX7_look 18 rfl) rfl rfl rfl ?_
            obtain ⟨r14, y15, hF⟩ := o_bind hF
            refine g_callViRS (q0 := 4) (S := [wTV nm_0 sb_0 d_0 ve_0 vo_0 re_0 ro_0 nm0, wSB cB sb_0 sb_1 sb0, wSD d_0 sb_0 d0, wV cI cJ ve_0 ve_1 ve_2 ve_3 ve_4 ve_5 ve_6 ve_7 ve_8 ve_9 ve_10 ve_11 ve_12 ve_13 ve_14 ve_15 ve_16 ve_17 ve_18 ve_19 ve0, wV cI cJ vo_0 vo_1 vo_2 vo_3 vo_4 vo_5 vo_6 vo_7 vo_8 vo_9 vo_10 vo_11 vo_12 vo_13 vo_14 vo_15 vo_16 vo_17 vo_18 vo_19 vo0, wRC re_0 ve_0 sb_0 re0, wRC ro_0 vo_0 sb_0 ro0]) (S0 := [wV cI cJ ve_0 ve_1 ve_2 ve_3 ve_4 ve_5 ve_6 ve_7 ve_8 ve_9 ve_10 ve_11 ve_12 ve_13 ve_14 ve_15 ve_16 ve_17 ve_18 ve_19 ve0]) C (c_X6_generation l D cB cI cJ cZ ve_0 ve_1 ve_2 ve_3 ve_4 ve_5 ve_6 ve_7 ve_8 ve_9 ve_10 ve_11 ve_12 ve_13 ve_14 ve_15 ve_16 ve_17 ve_18 ve_19 y15) rfl rfl (gIV ml_X7_187 im_X6_generation sl_X6_generation in_X6 cd_X6_generation) rfl eX6_generation rfl ⟨rfl, rfl⟩ ⟨Nat.le_of_ble_eq_true rfl, Nat.le_of_ble_eq_true rfl⟩ rfl rfl rfl [3] rfl rfl rfl (Nat.le_of_ble_eq_true rfl) (tdec DX7_look 19 rfl) rfl ?_
            have hr9 := o_some hF
            subst hr9
            exact g_iretR C rfl (tdec DX7_look 20 rfl)
          · have hF := o_ifn hF h13
            by_cases h16 : p2 = 3
            · have hF := o_ifp hF h16
              refine g_switchIn (pt := 85) C (3) (tdec DX7_look 9 rfl) (h16.trans (by decide)) (by decide) (by decide) (by decide) rfl (by decide) ?_
              refine g_aload_n (z := 0) C (tdec DX7_look 21 rfl) rfl rfl rfl ?_
              obtain ⟨r17, y18, hF⟩ := o_bind hF
              refine g_callViRS (q0 := 4) (S := [wTV nm_0 sb_0 d_0 ve_0 vo_0 re_0 ro_0 nm0, wSB cB sb_0 sb_1 sb0, wSD d_0 sb_0 d0, wV cI cJ ve_0 ve_1 ve_2 ve_3 ve_4 ve_5 ve_6 ve_7 ve_8 ve_9 ve_10 ve_11 ve_12 ve_13 ve_14 ve_15 ve_16 ve_17 ve_18 ve_19 ve0, wV cI cJ vo_0 vo_1 vo_2 vo_3 vo_4 vo_5 vo_6 vo_7 vo_8 vo_9 vo_10 vo_11 vo_12 vo_13 vo_14 vo_15 vo_16 vo_17 vo_18 vo_19 vo0, wRC re_0 ve_0 sb_0 re0, wRC ro_0 vo_0 sb_0 ro0]) (S0 := [wV cI cJ ve_0 ve_1 ve_2 ve_3 ve_4 ve_5 ve_6 ve_7 ve_8 ve_9 ve_10 ve_11 ve_12 ve_13 ve_14 ve_15 ve_16 ve_17 ve_18 ve_19 ve0]) C (c_X6_snapshots l D cB cI cJ cZ ve_0 ve_1 ve_2 ve_3 ve_4 ve_5 ve_6 ve_7 ve_8 ve_9 ve_10 ve_11 ve_12 ve_13 ve_14 ve_15 ve_16 ve_17 ve_18 ve_19 y18) rfl rfl (gIV ml_X7_101 im_X6_snapshots sl_X6_snapshots in_X6 cd_X6_snapshots) rfl eX6_snapshots rfl ⟨rfl, rfl⟩ ⟨Nat.le_of_ble_eq_true rfl, Nat.le_of_ble_eq_true rfl⟩ rfl rfl rfl [3] rfl rfl rfl (Nat.le_of_ble_eq_true rfl) (tdec DX7_look 22 rfl) rfl ?_
              have hr9 := o_some hF
              subst hr9
              exact g_iretR C rfl (tdec DX7_look 23 rfl)
            · have hF := o_ifn hF h16
              by_cases h19 : p2 = 4
              · have hF := o_ifp hF h19
                refine g_switchIn (pt := 90) C (4) (tdec DX7_look 9 rfl) (h19.trans (by decide)) (by decide) (by decide) (by decide) rfl (by decide) ?_
                refine g_aload_n (z := 0) C (tdec DX7_look 24 rfl) rfl rfl rfl ?_
                obtain ⟨r20, y21, hF⟩ := o_bind hF
                refine g_callViRS (q0 := 4) (S := [wTV nm_0 sb_0 d_0 ve_0 vo_0 re_0 ro_0 nm0, wSB cB sb_0 sb_1 sb0, wSD d_0 sb_0 d0, wV cI cJ ve_0 ve_1 ve_2 ve_3 ve_4 ve_5 ve_6 ve_7 ve_8 ve_9 ve_10 ve_11 ve_12 ve_13 ve_14 ve_15 ve_16 ve_17 ve_18 ve_19 ve0, wV cI cJ vo_0 vo_1 vo_2 vo_3 vo_4 vo_5 vo_6 vo_7 vo_8 vo_9 vo_10 vo_11 vo_12 vo_13 vo_14 vo_15 vo_16 vo_17 vo_18 vo_19 vo0, wRC re_0 ve_0 sb_0 re0, wRC ro_0 vo_0 sb_0 ro0]) (S0 := [wV cI cJ ve_0 ve_1 ve_2 ve_3 ve_4 ve_5 ve_6 ve_7 ve_8 ve_9 ve_10 ve_11 ve_12 ve_13 ve_14 ve_15 ve_16 ve_17 ve_18 ve_19 ve0]) C (c_X6_isBusy l D cB cI cJ cZ ve_0 ve_1 ve_2 ve_3 ve_4 ve_5 ve_6 ve_7 ve_8 ve_9 ve_10 ve_11 ve_12 ve_13 ve_14 ve_15 ve_16 ve_17 ve_18 ve_19 y21) rfl rfl (gIV ml_X7_73 im_X6_isBusy sl_X6_isBusy in_X6 cd_X6_isBusy) rfl eX6_isBusy rfl ⟨rfl, rfl⟩ ⟨Nat.le_of_ble_eq_true rfl, Nat.le_of_ble_eq_true rfl⟩ rfl rfl rfl [3] rfl rfl rfl (Nat.le_of_ble_eq_true rfl) (tdec DX7_look 25 rfl) rfl ?_
                refine g_if_eq (pt := 101) C (tdec DX7_look 26 rfl) (by decide) rfl (fun h22 => ?_) (fun h22 => ?_)
                · have hF := o_ifp hF h22
                  refine g_iconst (v := 0) C (tdec DX7_look 29 rfl) (by decide) rfl ?_
                  have hr9 := o_some hF
                  subst hr9
                  exact g_iretR C rfl (tdec DX7_look 30 rfl)
                · have hF := o_ifn hF h22
                  refine g_iconst (v := 1) C (tdec DX7_look 27 rfl) (by decide) rfl ?_
                  refine g_goto (pt := 102) C (tdec DX7_look 28 rfl) (by decide) ?_
                  have hr9 := o_some hF
                  subst hr9
                  exact g_iretR C rfl (tdec DX7_look 30 rfl)
              · have hF := o_ifn hF h19
                by_cases h23 : p2 = 5
                · have hF := o_ifp hF h23
                  refine g_switchIn (pt := 103) C (5) (tdec DX7_look 9 rfl) (h23.trans (by decide)) (by decide) (by decide) (by decide) rfl (by decide) ?_
                  refine g_aload_n (z := 0) C (tdec DX7_look 31 rfl) rfl rfl rfl ?_
                  obtain ⟨q25, y24, hF⟩ := o_bind hF
                  have q9 := o_some y24
                  subst q9
                  refine g_callVqRS (q0 := 4) (S := [wTV nm_0 sb_0 d_0 ve_0 vo_0 re_0 ro_0 nm0, wSB cB sb_0 sb_1 sb0, wSD d_0 sb_0 d0, wV cI cJ ve_0 ve_1 ve_2 ve_3 ve_4 ve_5 ve_6 ve_7 ve_8 ve_9 ve_10 ve_11 ve_12 ve_13 ve_14 ve_15 ve_16 ve_17 ve_18 ve_19 ve0, wV cI cJ vo_0 vo_1 vo_2 vo_3 vo_4 vo_5 vo_6 vo_7 vo_8 vo_9 vo_10 vo_11 vo_12 vo_13 vo_14 vo_15 vo_16 vo_17 vo_18 vo_19 vo0, wRC re_0 ve_0 sb_0 re0, wRC ro_0 vo_0 sb_0 ro0]) (S0 := [wV cI cJ ve_0 ve_1 ve_2 ve_3 ve_4 ve_5 ve_6 ve_7 ve_8 ve_9 ve_10 ve_11 ve_12 ve_13 ve_14 ve_15 ve_16 ve_17 ve_18 ve_19 ve0]) C (c_X6_blocks l D cB cI cJ cZ ve_0 ve_1 ve_2 ve_3 ve_4 ve_5 ve_6 ve_7 ve_8 ve_9 ve_10 ve_11 ve_12 ve_13 ve_14 ve_15 ve_16 ve_17 ve_18 ve_19 y24) rfl rfl (gIV ml_X7_154 im_X6_blocks sl_X6_blocks in_X6 cd_X6_blocks) rfl eX6_blocks rfl ⟨rfl, rfl⟩ ⟨Nat.le_of_ble_eq_true rfl, Nat.le_of_ble_eq_true rfl⟩ rfl rfl rfl [3] rfl rfl rfl (Nat.le_of_ble_eq_true rfl) (tdec DX7_look 32 rfl) rfl ?_
                  refine g_sipush (v := 4800) C (tdec DX7_look 33 rfl) (by decide) rfl ?_
                  obtain ⟨r26, y27, hF⟩ := o_bind hF
                  refine g_callViRS (q0 := 9) (S := [wTV nm_0 sb_0 d_0 ve_0 vo_0 re_0 ro_0 nm0, wSB cB sb_0 sb_1 sb0, wSD d_0 sb_0 d0, wV0 cI cJ ve_0 ve_1 ve_2 ve_3 ve_4 ve_5 ve0, wB cI cJ ve_5 ve_6 ve_7 ve_8 ve_9 ve_10 ve_11 ve_12 ve_13 ve_14 ve_15 ve_16 ve_17 ve_18 ve_19 (VS_b ve0), wV cI cJ vo_0 vo_1 vo_2 vo_3 vo_4 vo_5 vo_6 vo_7 vo_8 vo_9 vo_10 vo_11 vo_12 vo_13 vo_14 vo_15 vo_16 vo_17 vo_18 vo_19 vo0, wRC re_0 ve_0 sb_0 re0, wRC ro_0 vo_0 sb_0 ro0]) (S0 := [wB cI cJ ve_5 ve_6 ve_7 ve_8 ve_9 ve_10 ve_11 ve_12 ve_13 ve_14 ve_15 ve_16 ve_17 ve_18 ve_19 (VS_b ve0)]) C (c_X0_told l D cB cI cJ cZ ve_5 ve_6 ve_7 ve_8 ve_9 ve_10 ve_11 ve_12 ve_13 ve_14 ve_15 ve_16 ve_17 ve_18 ve_19 y27) rfl rfl (gIV ml_X7_158 im_X0_told sl_X0_told in_X0 cd_X0_told) rfl eX0_told rfl ⟨rfl, rfl⟩ ⟨Nat.le_of_ble_eq_true rfl, Nat.le_of_ble_eq_true rfl⟩ rfl rfl rfl [4] rfl rfl rfl (Nat.le_of_ble_eq_true rfl) (tdec DX7_look 34 rfl) rfl ?_
                  have hr9 := o_some hF
                  subst hr9
                  exact g_iretR C rfl (tdec DX7_look 35 rfl)
                · have hF := o_ifn hF h23
                  by_cases h28 : p2 = 6
                  · have hF := o_ifp hF h28
                    refine g_switchIn (pt := 114) C (6) (tdec DX7_look 9 rfl) (h28.trans (by decide)) (by decide) (by decide) (by decide) rfl (by decide) ?_
                    refine g_aload_n (z := 0) C (tdec DX7_look 36 rfl) rfl rfl rfl ?_
                    obtain ⟨q30, y29, hF⟩ := o_bind hF
                    have q9 := o_some y29
                    subst q9
                    refine g_callVqRS (q0 := 4) (S := [wTV nm_0 sb_0 d_0 ve_0 vo_0 re_0 ro_0 nm0, wSB cB sb_0 sb_1 sb0, wSD d_0 sb_0 d0, wV cI cJ ve_0 ve_1 ve_2 ve_3 ve_4 ve_5 ve_6 ve_7 ve_8 ve_9 ve_10 ve_11 ve_12 ve_13 ve_14 ve_15 ve_16 ve_17 ve_18 ve_19 ve0, wV cI cJ vo_0 vo_1 vo_2 vo_3 vo_4 vo_5 vo_6 vo_7 vo_8 vo_9 vo_10 vo_11 vo_12 vo_13 vo_14 vo_15 vo_16 vo_17 vo_18 vo_19 vo0, wRC re_0 ve_0 sb_0 re0, wRC ro_0 vo_0 sb_0 ro0]) (S0 := [wV cI cJ ve_0 ve_1 ve_2 ve_3 ve_4 ve_5 ve_6 ve_7 ve_8 ve_9 ve_10 ve_11 ve_12 ve_13 ve_14 ve_15 ve_16 ve_17 ve_18 ve_19 ve0]) C (c_X6_blocks l D cB cI cJ cZ ve_0 ve_1 ve_2 ve_3 ve_4 ve_5 ve_6 ve_7 ve_8 ve_9 ve_10 ve_11 ve_12 ve_13 ve_14 ve_15 ve_16 ve_17 ve_18 ve_19 y29) rfl rfl (gIV ml_X7_154 im_X6_blocks sl_X6_blocks in_X6 cd_X6_blocks) rfl eX6_blocks rfl ⟨rfl, rfl⟩ ⟨Nat.le_of_ble_eq_true rfl, Nat.le_of_ble_eq_true rfl⟩ rfl rfl rfl [3] rfl rfl rfl (Nat.le_of_ble_eq_true rfl) (tdec DX7_look 37 rfl) rfl ?_
                    refine g_sipush (v := 4800) C (tdec DX7_look 38 rfl) (by decide) rfl ?_
                    obtain ⟨r31, y32, hF⟩ := o_bind hF
                    refine g_callViRS (q0 := 9) (S := [wTV nm_0 sb_0 d_0 ve_0 vo_0 re_0 ro_0 nm0, wSB cB sb_0 sb_1 sb0, wSD d_0 sb_0 d0, wV0 cI cJ ve_0 ve_1 ve_2 ve_3 ve_4 ve_5 ve0, wB cI cJ ve_5 ve_6 ve_7 ve_8 ve_9 ve_10 ve_11 ve_12 ve_13 ve_14 ve_15 ve_16 ve_17 ve_18 ve_19 (VS_b ve0), wV cI cJ vo_0 vo_1 vo_2 vo_3 vo_4 vo_5 vo_6 vo_7 vo_8 vo_9 vo_10 vo_11 vo_12 vo_13 vo_14 vo_15 vo_16 vo_17 vo_18 vo_19 vo0, wRC re_0 ve_0 sb_0 re0, wRC ro_0 vo_0 sb_0 ro0]) (S0 := [wB cI cJ ve_5 ve_6 ve_7 ve_8 ve_9 ve_10 ve_11 ve_12 ve_13 ve_14 ve_15 ve_16 ve_17 ve_18 ve_19 (VS_b ve0)]) C (c_X0_birth l D cB cI cJ cZ ve_5 ve_6 ve_7 ve_8 ve_9 ve_10 ve_11 ve_12 ve_13 ve_14 ve_15 ve_16 ve_17 ve_18 ve_19 y32) rfl rfl (gIV ml_X7_163 im_X0_birth sl_X0_birth in_X0 cd_X0_birth) rfl eX0_birth rfl ⟨rfl, rfl⟩ ⟨Nat.le_of_ble_eq_true rfl, Nat.le_of_ble_eq_true rfl⟩ rfl rfl rfl [4] rfl rfl rfl (Nat.le_of_ble_eq_true rfl) (tdec DX7_look 39 rfl) rfl ?_
                    have hr9 := o_some hF
                    subst hr9
                    exact g_iretR C rfl (tdec DX7_look 40 rfl)
                  · have hF := o_ifn hF h28
                    by_cases h33 : p2 = 7
                    · have hF := o_ifp hF h33
                      refine g_switchIn (pt := 125) C (7) (tdec DX7_look 9 rfl) (h33.trans (by decide)) (by decide) (by decide) (by decide) rfl (by decide) ?_
                      refine g_aload_n (z := 0) C (tdec DX7_look 41 rfl) rfl rfl rfl ?_
                      obtain ⟨q35, y34, hF⟩ := o_bind hF
                      have q9 := o_some y34
                      subst q9
                      refine g_callVqRS (q0 := 4) (S := [wTV nm_0 sb_0 d_0 ve_0 vo_0 re_0 ro_0 nm0, wSB cB sb_0 sb_1 sb0, wSD d_0 sb_0 d0, wV cI cJ ve_0 ve_1 ve_2 ve_3 ve_4 ve_5 ve_6 ve_7 ve_8 ve_9 ve_10 ve_11 ve_12 ve_13 ve_14 ve_15 ve_16 ve_17 ve_18 ve_19 ve0, wV cI cJ vo_0 vo_1 vo_2 vo_3 vo_4 vo_5 vo_6 vo_7 vo_8 vo_9 vo_10 vo_11 vo_12 vo_13 vo_14 vo_15 vo_16 vo_17 vo_18 vo_19 vo0, wRC re_0 ve_0 sb_0 re0, wRC ro_0 vo_0 sb_0 ro0]) (S0 := [wV cI cJ ve_0 ve_1 ve_2 ve_3 ve_4 ve_5 ve_6 ve_7 ve_8 ve_9 ve_10 ve_11 ve_12 ve_13 ve_14 ve_15 ve_16 ve_17 ve_18 ve_19 ve0]) C (c_X6_blocks l D cB cI cJ cZ ve_0 ve_1 ve_2 ve_3 ve_4 ve_5 ve_6 ve_7 ve_8 ve_9 ve_10 ve_11 ve_12 ve_13 ve_14 ve_15 ve_16 ve_17 ve_18 ve_19 y34) rfl rfl (gIV ml_X7_154 im_X6_blocks sl_X6_blocks in_X6 cd_X6_blocks) rfl eX6_blocks rfl ⟨rfl, rfl⟩ ⟨Nat.le_of_ble_eq_true rfl, Nat.le_of_ble_eq_true rfl⟩ rfl rfl rfl [3] rfl rfl rfl (Nat.le_of_ble_eq_true rfl) (tdec DX7_look 42 rfl) rfl ?_
                      refine g_sipush (v := 4801) C (tdec DX7_look 43 rfl) (by decide) rfl ?_
                      obtain ⟨r36, y37, hF⟩ := o_bind hF
                      refine g_callViRS (q0 := 9) (S := [wTV nm_0 sb_0 d_0 ve_0 vo_0 re_0 ro_0 nm0, wSB cB sb_0 sb_1 sb0, wSD d_0 sb_0 d0, wV0 cI cJ ve_0 ve_1 ve_2 ve_3 ve_4 ve_5 ve0, wB cI cJ ve_5 ve_6 ve_7 ve_8 ve_9 ve_10 ve_11 ve_12 ve_13 ve_14 ve_15 ve_16 ve_17 ve_18 ve_19 (VS_b ve0), wV cI cJ vo_0 vo_1 vo_2 vo_3 vo_4 vo_5 vo_6 vo_7 vo_8 vo_9 vo_10 vo_11 vo_12 vo_13 vo_14 vo_15 vo_16 vo_17 vo_18 vo_19 vo0, wRC re_0 ve_0 sb_0 re0, wRC ro_0 vo_0 sb_0 ro0]) (S0 := [wB cI cJ ve_5 ve_6 ve_7 ve_8 ve_9 ve_10 ve_11 ve_12 ve_13 ve_14 ve_15 ve_16 ve_17 ve_18 ve_19 (VS_b ve0)]) C (c_X0_told l D cB cI cJ cZ ve_5 ve_6 ve_7 ve_8 ve_9 ve_10 ve_11 ve_12 ve_13 ve_14 ve_15 ve_16 ve_17 ve_18 ve_19 y37) rfl rfl (gIV ml_X7_158 im_X0_told sl_X0_told in_X0 cd_X0_told) rfl eX0_told rfl ⟨rfl, rfl⟩ ⟨Nat.le_of_ble_eq_true rfl, Nat.le_of_ble_eq_true rfl⟩ rfl rfl rfl [4] rfl rfl rfl (Nat.le_of_ble_eq_true rfl) (tdec DX7_look 44 rfl) rfl ?_
                      have hr9 := o_some hF
                      subst hr9
                      exact g_iretR C rfl (tdec DX7_look 45 rfl)
                    · have hF := o_ifn hF h33
                      by_cases h38 : p2 = 8
                      · have hF := o_ifp hF h38
                        refine g_switchIn (pt := 136) C (8) (tdec DX7_look 9 rfl) (h38.trans (by decide)) (by decide) (by decide) (by decide) rfl (by decide) ?_
                        refine g_aload_n (z := 1) C (tdec DX7_look 46 rfl) rfl rfl rfl ?_
                        refine g_iload_n (z := 2) C (tdec DX7_look 47 rfl) rfl rfl rfl ?_
                        obtain ⟨q40, y39, hF⟩ := o_bind hF
                        refine g_callVqRS (q0 := 0) (S := [wTV nm_0 sb_0 d_0 ve_0 vo_0 re_0 ro_0 nm0, wSB cB sb_0 sb_1 sb0, wSD d_0 sb_0 d0, wV cI cJ ve_0 ve_1 ve_2 ve_3 ve_4 ve_5 ve_6 ve_7 ve_8 ve_9 ve_10 ve_11 ve_12 ve_13 ve_14 ve_15 ve_16 ve_17 ve_18 ve_19 ve0, wV cI cJ vo_0 vo_1 vo_2 vo_3 vo_4 vo_5 vo_6 vo_7 vo_8 vo_9 vo_10 vo_11 vo_12 vo_13 vo_14 vo_15 vo_16 vo_17 vo_18 vo_19 vo0, wRC re_0 ve_0 sb_0 re0, wRC ro_0 vo_0 sb_0 ro0]) (S0 := [wTV nm_0 sb_0 d_0 ve_0 vo_0 re_0 ro_0 nm0]) C (c_X7_receivingOf l D cB cI cJ cZ nm_0 sb_0 d_0 ve_0 vo_0 re_0 ro_0 y39) rfl rfl (gIV ml_X7_62 im_X7_receivingOf sl_X7_receivingOf in_X7 cd_X7_receivingOf) rfl eX7_receivingOf rfl ⟨rfl, rfl⟩ ⟨Nat.le_of_ble_eq_true rfl, Nat.le_of_ble_eq_true rfl⟩ rfl rfl rfl [0] rfl rfl rfl (Nat.le_of_ble_eq_true rfl) (tdec DX7_look 48 rfl) rfl ?_
                        cases q40 with
                        | none => exact absurd hF (by simp)
                        | some k45 =>
                          cases k45 with
                          | zero =>
                            refine g_st (st' := [.ref re_0]) rfl ?_
                            obtain ⟨r41, y42, hF⟩ := o_bind hF
                            refine g_callViRS (q0 := 44) (S := [wTV nm_0 sb_0 d_0 ve_0 vo_0 re_0 ro_0 nm0, wSB cB sb_0 sb_1 sb0, wSD d_0 sb_0 d0, wV cI cJ ve_0 ve_1 ve_2 ve_3 ve_4 ve_5 ve_6 ve_7 ve_8 ve_9 ve_10 ve_11 ve_12 ve_13 ve_14 ve_15 ve_16 ve_17 ve_18 ve_19 ve0, wV cI cJ vo_0 vo_1 vo_2 vo_3 vo_4 vo_5 vo_6 vo_7 vo_8 vo_9 vo_10 vo_11 vo_12 vo_13 vo_14 vo_15 vo_16 vo_17 vo_18 vo_19 vo0, wRC re_0 ve_0 sb_0 re0, wRC ro_0 vo_0 sb_0 ro0]) (S0 := [wRC re_0 ve_0 sb_0 re0]) C (c_X3_received l D cB cI cJ cZ re_0 ve_0 sb_0 y42) rfl rfl (gIV ml_X7_190 im_X3_received sl_X3_received in_X3 cd_X3_received) rfl eX3_received rfl ⟨rfl, rfl⟩ ⟨Nat.le_of_ble_eq_true rfl, Nat.le_of_ble_eq_true rfl⟩ rfl rfl rfl [5] rfl rfl rfl (Nat.le_of_ble_eq_true rfl) (tdec DX7_look 49 rfl) rfl ?_
                            have hr9 := o_some hF
                            subst hr9
                            exact g_iretR C rfl (tdec DX7_look 50 rfl)
                          | succ k45 =>
                            refine g_st (st' := [.ref ro_0]) rfl ?_
                            obtain ⟨r43, y44, hF⟩ := o_bind hF
                            refine g_callViRS (q0 := 45) (S := [wTV nm_0 sb_0 d_0 ve_0 vo_0 re_0 ro_0 nm0, wSB cB sb_0 sb_1 sb0, wSD d_0 sb_0 d0, wV cI cJ ve_0 ve_1 ve_2 ve_3 ve_4 ve_5 ve_6 ve_7 ve_8 ve_9 ve_10 ve_11 ve_12 ve_13 ve_14 ve_15 ve_16 ve_17 ve_18 ve_19 ve0, wV cI cJ vo_0 vo_1 vo_2 vo_3 vo_4 vo_5 vo_6 vo_7 vo_8 vo_9 vo_10 vo_11 vo_12 vo_13 vo_14 vo_15 vo_16 vo_17 vo_18 vo_19 vo0, wRC re_0 ve_0 sb_0 re0, wRC ro_0 vo_0 sb_0 ro0]) (S0 := [wRC ro_0 vo_0 sb_0 ro0]) C (c_X3_received l D cB cI cJ cZ ro_0 vo_0 sb_0 y44) rfl rfl (gIV ml_X7_190 im_X3_received sl_X3_received in_X3 cd_X3_received) rfl eX3_received rfl ⟨rfl, rfl⟩ ⟨Nat.le_of_ble_eq_true rfl, Nat.le_of_ble_eq_true rfl⟩ rfl rfl rfl [6] rfl rfl rfl (Nat.le_of_ble_eq_true rfl) (tdec DX7_look 49 rfl) rfl ?_
                            have hr9 := o_some hF
                            subst hr9
                            exact g_iretR C rfl (tdec DX7_look 50 rfl)
                      · have hF := o_ifn hF h38
                        refine g_switchOut (pt := 145) C (tdec DX7_look 9 rfl) (sw_out9 0 (fun z => h3 (z.trans (by decide))) (fun z => h8 (z.trans (by decide))) (fun z => h13 (z.trans (by decide))) (fun z => h16 (z.trans (by decide))) (fun z => h19 (z.trans (by decide))) (fun z => h23 (z.trans (by decide))) (fun z => h28 (z.trans (by decide))) (fun z => h33 (z.trans (by decide))) (fun z => h38 (z.trans (by decide)))) (by decide) ?_
                        refine g_iconst (v := (-1)) C (tdec DX7_look 51 rfl) (by decide) rfl ?_
                        have hr9 := o_some hF
                        subst hr9
                        exact g_iretR C rfl (tdec DX7_look 52 rfl)
    | succ k89 =>
      refine g_st (st' := [.ref vo_0]) rfl ?_
      refine g_astore_n (L' := [(3, .ref vo_0), (0, .ref nm_0), (1, .int p1), (2, .int p2)]) C (tdec DX7_look 3 rfl) rfl (by decide) rfl rfl ?_
      refine g_aload_n (z := 0) C (tdec DX7_look 4 rfl) rfl rfl rfl ?_
      refine g_ifnonnullR (pt := 12) C (tdec DX7_look 5 rfl) (by decide) ?_
      refine g_iload_n (z := 3) C (tdec DX7_look 8 rfl) rfl rfl rfl ?_
      by_cases h46 : p2 = 0
      · have hF := o_ifp hF h46
        refine g_switchIn (pt := 64) C (0) (tdec DX7_look 9 rfl) (h46.trans (by decide)) (by decide) (by decide) (by decide) rfl (by decide) ?_
        refine g_aload_n (z := 0) C (tdec DX7_look 10 rfl) rfl rfl rfl ?_
        obtain ⟨q48, y47, hF⟩ := o_bind hF
        have q9 := o_some y47
        subst q9
        refine g_callVqRS (q0 := 24) (S := [wTV nm_0 sb_0 d_0 ve_0 vo_0 re_0 ro_0 nm0, wSB cB sb_0 sb_1 sb0, wSD d_0 sb_0 d0, wV cI cJ ve_0 ve_1 ve_2 ve_3 ve_4 ve_5 ve_6 ve_7 ve_8 ve_9 ve_10 ve_11 ve_12 ve_13 ve_14 ve_15 ve_16 ve_17 ve_18 ve_19 ve0, wV cI cJ vo_0 vo_1 vo_2 vo_3 vo_4 vo_5 vo_6 vo_7 vo_8 vo_9 vo_10 vo_11 vo_12 vo_13 vo_14 vo_15 vo_16 vo_17 vo_18 vo_19 vo0, wRC re_0 ve_0 sb_0 re0, wRC ro_0 vo_0 sb_0 ro0]) (S0 := [wV cI cJ vo_0 vo_1 vo_2 vo_3 vo_4 vo_5 vo_6 vo_7 vo_8 vo_9 vo_10 vo_11 vo_12 vo_13 vo_14 vo_15 vo_16 vo_17 vo_18 vo_19 vo0]) C (c_X6_blocks l D cB cI cJ cZ vo_0 vo_1 vo_2 vo_3 vo_4 vo_5 vo_6 vo_7 vo_8 vo_9 vo_10 vo_11 vo_12 vo_13 vo_14 vo_15 vo_16 vo_17 vo_18 vo_19 y47) rfl rfl (gIV ml_X7_154 im_X6_blocks sl_X6_blocks in_X6 cd_X6_blocks) rfl eX6_blocks rfl ⟨rfl, rfl⟩ ⟨Nat.le_of_ble_eq_true rfl, Nat.le_of_ble_eq_true rfl⟩ rfl rfl rfl [4] rfl rfl rfl (Nat.le_of_ble_eq_true rfl) (tdec DX7_look 11 rfl) rfl ?_
        obtain ⟨r49, y50, hF⟩ := o_bind hF
        refine g_callViRS (q0 := 29) (S := [wTV nm_0 sb_0 d_0 ve_0 vo_0 re_0 ro_0 nm0, wSB cB sb_0 sb_1 sb0, wSD d_0 sb_0 d0, wV cI cJ ve_0 ve_1 ve_2 ve_3 ve_4 ve_5 ve_6 ve_7 ve_8 ve_9 ve_10 ve_11 ve_12 ve_13 ve_14 ve_15 ve_16 ve_17 ve_18 ve_19 ve0, wV0 cI cJ vo_0 vo_1 vo_2 vo_3 vo_4 vo_5 vo0, wB cI cJ vo_5 vo_6 vo_7 vo_8 vo_9 vo_10 vo_11 vo_12 vo_13 vo_14 vo_15 vo_16 vo_17 vo_18 vo_19 (VS_b vo0), wRC re_0 ve_0 sb_0 re0, wRC ro_0 vo_0 sb_0 ro0]) (S0 := [wB cI cJ vo_5 vo_6 vo_7 vo_8 vo_9 vo_10 vo_11 vo_12 vo_13 vo_14 vo_15 vo_16 vo_17 vo_18 vo_19 (VS_b vo0)]) C (c_X0_count l D cB cI cJ cZ vo_5 vo_6 vo_7 vo_8 vo_9 vo_10 vo_11 vo_12 vo_13 vo_14 vo_15 vo_16 vo_17 vo_18 vo_19 y50) rfl rfl (gIV ml_X7_181 im_X0_count sl_X0_count in_X0 cd_X0_count) rfl eX0_count rfl ⟨rfl, rfl⟩ ⟨Nat.le_of_ble_eq_true rfl, Nat.le_of_ble_eq_true rfl⟩ rfl rfl rfl [5] rfl rfl rfl (Nat.le_of_ble_eq_true rfl) (tdec DX7_look 12 rfl) rfl ?_
        have hr9 := o_some hF
        subst hr9
        exact g_iretR C rfl (tdec DX7_look 13 rfl)
      · have hF := o_ifn hF h46
        by_cases h51 : p2 = 1
        · have hF := o_ifp hF h51
          refine g_switchIn (pt := 72) C (1) (tdec DX7_look 9 rfl) (h51.trans (by decide)) (by decide) (by decide) (by decide) rfl (by decide) ?_
          refine g_aload_n (z := 0) C (tdec DX7_look 14 rfl) rfl rfl rfl ?_
          obtain ⟨q53, y52, hF⟩ := o_bind hF
          have q9 := o_some y52
          subst q9
          refine g_callVqRS (q0 := 24) (S := [wTV nm_0 sb_0 d_0 ve_0 vo_0 re_0 ro_0 nm0, wSB cB sb_0 sb_1 sb0, wSD d_0 sb_0 d0, wV cI cJ ve_0 ve_1 ve_2 ve_3 ve_4 ve_5 ve_6 ve_7 ve_8 ve_9 ve_10 ve_11 ve_12 ve_13 ve_14 ve_15 ve_16 ve_17 ve_18 ve_19 ve0, wV cI cJ vo_0 vo_1 vo_2 vo_3 vo_4 vo_5 vo_6 vo_7 vo_8 vo_9 vo_10 vo_11 vo_12 vo_13 vo_14 vo_15 vo_16 vo_17 vo_18 vo_19 vo0, wRC re_0 ve_0 sb_0 re0, wRC ro_0 vo_0 sb_0 ro0]) (S0 := [wV cI cJ vo_0 vo_1 vo_2 vo_3 vo_4 vo_5 vo_6 vo_7 vo_8 vo_9 vo_10 vo_11 vo_12 vo_13 vo_14 vo_15 vo_16 vo_17 vo_18 vo_19 vo0]) C (c_X6_blocks l D cB cI cJ cZ vo_0 vo_1 vo_2 vo_3 vo_4 vo_5 vo_6 vo_7 vo_8 vo_9 vo_10 vo_11 vo_12 vo_13 vo_14 vo_15 vo_16 vo_17 vo_18 vo_19 y52) rfl rfl (gIV ml_X7_154 im_X6_blocks sl_X6_blocks in_X6 cd_X6_blocks) rfl eX6_blocks rfl ⟨rfl, rfl⟩ ⟨Nat.le_of_ble_eq_true rfl, Nat.le_of_ble_eq_true rfl⟩ rfl rfl rfl [4] rfl rfl rfl (Nat.le_of_ble_eq_true rfl) (tdec DX7_look 15 rfl) rfl ?_
          obtain ⟨r54, y55, hF⟩ := o_bind hF
          refine g_callViRS (q0 := 29) (S := [wTV nm_0 sb_0 d_0 ve_0 vo_0 re_0 ro_0 nm0, wSB cB sb_0 sb_1 sb0, wSD d_0 sb_0 d0, wV cI cJ ve_0 ve_1 ve_2 ve_3 ve_4 ve_5 ve_6 ve_7 ve_8 ve_9 ve_10 ve_11 ve_12 ve_13 ve_14 ve_15 ve_16 ve_17 ve_18 ve_19 ve0, wV0 cI cJ vo_0 vo_1 vo_2 vo_3 vo_4 vo_5 vo0, wB cI cJ vo_5 vo_6 vo_7 vo_8 vo_9 vo_10 vo_11 vo_12 vo_13 vo_14 vo_15 vo_16 vo_17 vo_18 vo_19 (VS_b vo0), wRC re_0 ve_0 sb_0 re0, wRC ro_0 vo_0 sb_0 ro0]) (S0 := [wB cI cJ vo_5 vo_6 vo_7 vo_8 vo_9 vo_10 vo_11 vo_12 vo_13 vo_14 vo_15 vo_16 vo_17 vo_18 vo_19 (VS_b vo0)]) C (c_X0_free l D cB cI cJ cZ vo_5 vo_6 vo_7 vo_8 vo_9 vo_10 vo_11 vo_12 vo_13 vo_14 vo_15 vo_16 vo_17 vo_18 vo_19 y55) rfl rfl (gIV ml_X7_184 im_X0_free sl_X0_free in_X0 cd_X0_free) rfl eX0_free rfl ⟨rfl, rfl⟩ ⟨Nat.le_of_ble_eq_true rfl, Nat.le_of_ble_eq_true rfl⟩ rfl rfl rfl [5] rfl rfl rfl (Nat.le_of_ble_eq_true rfl) (tdec DX7_look 16 rfl) rfl ?_
          have hr9 := o_some hF
          subst hr9
          exact g_iretR C rfl (tdec DX7_look 17 rfl)
        · have hF := o_ifn hF h51
          by_cases h56 : p2 = 2
          · have hF := o_ifp hF h56
            refine g_switchIn (pt := 80) C (2) (tdec DX7_look 9 rfl) (h56.trans (by decide)) (by decide) (by decide) (by decide) rfl (by decide) ?_
            refine g_aload_n (z := 0) C (tdec DX7_look 18 rfl) rfl rfl rfl ?_
            obtain ⟨r57, y58, hF⟩ := o_bind hF
            refine g_callViRS (q0 := 24) (S := [wTV nm_0 sb_0 d_0 ve_0 vo_0 re_0 ro_0 nm0, wSB cB sb_0 sb_1 sb0, wSD d_0 sb_0 d0, wV cI cJ ve_0 ve_1 ve_2 ve_3 ve_4 ve_5 ve_6 ve_7 ve_8 ve_9 ve_10 ve_11 ve_12 ve_13 ve_14 ve_15 ve_16 ve_17 ve_18 ve_19 ve0, wV cI cJ vo_0 vo_1 vo_2 vo_3 vo_4 vo_5 vo_6 vo_7 vo_8 vo_9 vo_10 vo_11 vo_12 vo_13 vo_14 vo_15 vo_16 vo_17 vo_18 vo_19 vo0, wRC re_0 ve_0 sb_0 re0, wRC ro_0 vo_0 sb_0 ro0]) (S0 := [wV cI cJ vo_0 vo_1 vo_2 vo_3 vo_4 vo_5 vo_6 vo_7 vo_8 vo_9 vo_10 vo_11 vo_12 vo_13 vo_14 vo_15 vo_16 vo_17 vo_18 vo_19 vo0]) C (c_X6_generation l D cB cI cJ cZ vo_0 vo_1 vo_2 vo_3 vo_4 vo_5 vo_6 vo_7 vo_8 vo_9 vo_10 vo_11 vo_12 vo_13 vo_14 vo_15 vo_16 vo_17 vo_18 vo_19 y58) rfl rfl (gIV ml_X7_187 im_X6_generation sl_X6_generation in_X6 cd_X6_generation) rfl eX6_generation rfl ⟨rfl, rfl⟩ ⟨Nat.le_of_ble_eq_true rfl, Nat.le_of_ble_eq_true rfl⟩ rfl rfl rfl [4] rfl rfl rfl (Nat.le_of_ble_eq_true rfl) (tdec DX7_look 19 rfl) rfl ?_
            have hr9 := o_some hF
            subst hr9
            exact g_iretR C rfl (tdec DX7_look 20 rfl)
          · have hF := o_ifn hF h56
            by_cases h59 : p2 = 3
            · have hF := o_ifp hF h59
              refine g_switchIn (pt := 85) C (3) (tdec DX7_look 9 rfl) (h59.trans (by decide)) (by decide) (by decide) (by decide) rfl (by decide) ?_
              refine g_aload_n (z := 0) C (tdec DX7_look 21 rfl) rfl rfl rfl ?_
              obtain ⟨r60, y61, hF⟩ := o_bind hF
              refine g_callViRS (q0 := 24) (S := [wTV nm_0 sb_0 d_0 ve_0 vo_0 re_0 ro_0 nm0, wSB cB sb_0 sb_1 sb0, wSD d_0 sb_0 d0, wV cI cJ ve_0 ve_1 ve_2 ve_3 ve_4 ve_5 ve_6 ve_7 ve_8 ve_9 ve_10 ve_11 ve_12 ve_13 ve_14 ve_15 ve_16 ve_17 ve_18 ve_19 ve0, wV cI cJ vo_0 vo_1 vo_2 vo_3 vo_4 vo_5 vo_6 vo_7 vo_8 vo_9 vo_10 vo_11 vo_12 vo_13 vo_14 vo_15 vo_16 vo_17 vo_18 vo_19 vo0, wRC re_0 ve_0 sb_0 re0, wRC ro_0 vo_0 sb_0 ro0]) (S0 := [wV cI cJ vo_0 vo_1 vo_2 vo_3 vo_4 vo_5 vo_6 vo_7 vo_8 vo_9 vo_10 vo_11 vo_12 vo_13 vo_14 vo_15 vo_16 vo_17 vo_18 vo_19 vo0]) C (c_X6_snapshots l D cB cI cJ cZ vo_0 vo_1 vo_2 vo_3 vo_4 vo_5 vo_6 vo_7 vo_8 vo_9 vo_10 vo_11 vo_12 vo_13 vo_14 vo_15 vo_16 vo_17 vo_18 vo_19 y61) rfl rfl (gIV ml_X7_101 im_X6_snapshots sl_X6_snapshots in_X6 cd_X6_snapshots) rfl eX6_snapshots rfl ⟨rfl, rfl⟩ ⟨Nat.le_of_ble_eq_true rfl, Nat.le_of_ble_eq_true rfl⟩ rfl rfl rfl [4] rfl rfl rfl (Nat.le_of_ble_eq_true rfl) (tdec DX7_look 22 rfl) rfl ?_
              have hr9 := o_some hF
              subst hr9
              exact g_iretR C rfl (tdec DX7_look 23 rfl)
            · have hF := o_ifn hF h59
              by_cases h62 : p2 = 4
              · have hF := o_ifp hF h62
                refine g_switchIn (pt := 90) C (4) (tdec DX7_look 9 rfl) (h62.trans (by decide)) (by decide) (by decide) (by decide) rfl (by decide) ?_
                refine g_aload_n (z := 0) C (tdec DX7_look 24 rfl) rfl rfl rfl ?_
                obtain ⟨r63, y64, hF⟩ := o_bind hF
                refine g_callViRS (q0 := 24) (S := [wTV nm_0 sb_0 d_0 ve_0 vo_0 re_0 ro_0 nm0, wSB cB sb_0 sb_1 sb0, wSD d_0 sb_0 d0, wV cI cJ ve_0 ve_1 ve_2 ve_3 ve_4 ve_5 ve_6 ve_7 ve_8 ve_9 ve_10 ve_11 ve_12 ve_13 ve_14 ve_15 ve_16 ve_17 ve_18 ve_19 ve0, wV cI cJ vo_0 vo_1 vo_2 vo_3 vo_4 vo_5 vo_6 vo_7 vo_8 vo_9 vo_10 vo_11 vo_12 vo_13 vo_14 vo_15 vo_16 vo_17 vo_18 vo_19 vo0, wRC re_0 ve_0 sb_0 re0, wRC ro_0 vo_0 sb_0 ro0]) (S0 := [wV cI cJ vo_0 vo_1 vo_2 vo_3 vo_4 vo_5 vo_6 vo_7 vo_8 vo_9 vo_10 vo_11 vo_12 vo_13 vo_14 vo_15 vo_16 vo_17 vo_18 vo_19 vo0]) C (c_X6_isBusy l D cB cI cJ cZ vo_0 vo_1 vo_2 vo_3 vo_4 vo_5 vo_6 vo_7 vo_8 vo_9 vo_10 vo_11 vo_12 vo_13 vo_14 vo_15 vo_16 vo_17 vo_18 vo_19 y64) rfl rfl (gIV ml_X7_73 im_X6_isBusy sl_X6_isBusy in_X6 cd_X6_isBusy) rfl eX6_isBusy rfl ⟨rfl, rfl⟩ ⟨Nat.le_of_ble_eq_true rfl, Nat.le_of_ble_eq_true rfl⟩ rfl rfl rfl [4] rfl rfl rfl (Nat.le_of_ble_eq_true rfl) (tdec DX7_look 25 rfl) rfl ?_
                refine g_if_eq (pt := 101) C (tdec DX7_look 26 rfl) (by decide) rfl (fun h65 => ?_) (fun h65 => ?_)
                · have hF := o_ifp hF h65
                  refine g_iconst (v := 0) C (tdec DX7_look 29 rfl) (by decide) rfl ?_
                  have hr9 := o_some hF
                  subst hr9
                  exact g_iretR C rfl (tdec DX7_look 30 rfl)
                · have hF := o_ifn hF h65
                  refine g_iconst (v := 1) C (tdec DX7_look 27 rfl) (by decide) rfl ?_
                  refine g_goto (pt := 102) C (tdec DX7_look 28 rfl) (by decide) ?_
                  have hr9 := o_some hF
                  subst hr9
                  exact g_iretR C rfl (tdec DX7_look 30 rfl)
              · have hF := o_ifn hF h62
                by_cases h66 : p2 = 5
                · have hF := o_ifp hF h66
                  refine g_switchIn (pt := 103) C (5) (tdec DX7_look 9 rfl) (h66.trans (by decide)) (by decide) (by decide) (by decide) rfl (by decide) ?_
                  refine g_aload_n (z := 0) C (tdec DX7_look 31 rfl) rfl rfl rfl ?_
                  obtain ⟨q68, y67, hF⟩ := o_bind hF
                  have q9 := o_some y67
                  subst q9
                  refine g_callVqRS (q0 := 24) (S := [wTV nm_0 sb_0 d_0 ve_0 vo_0 re_0 ro_0 nm0, wSB cB sb_0 sb_1 sb0, wSD d_0 sb_0 d0, wV cI cJ ve_0 ve_1 ve_2 ve_3 ve_4 ve_5 ve_6 ve_7 ve_8 ve_9 ve_10 ve_11 ve_12 ve_13 ve_14 ve_15 ve_16 ve_17 ve_18 ve_19 ve0, wV cI cJ vo_0 vo_1 vo_2 vo_3 vo_4 vo_5 vo_6 vo_7 vo_8 vo_9 vo_10 vo_11 vo_12 vo_13 vo_14 vo_15 vo_16 vo_17 vo_18 vo_19 vo0, wRC re_0 ve_0 sb_0 re0, wRC ro_0 vo_0 sb_0 ro0]) (S0 := [wV cI cJ vo_0 vo_1 vo_2 vo_3 vo_4 vo_5 vo_6 vo_7 vo_8 vo_9 vo_10 vo_11 vo_12 vo_13 vo_14 vo_15 vo_16 vo_17 vo_18 vo_19 vo0]) C (c_X6_blocks l D cB cI cJ cZ vo_0 vo_1 vo_2 vo_3 vo_4 vo_5 vo_6 vo_7 vo_8 vo_9 vo_10 vo_11 vo_12 vo_13 vo_14 vo_15 vo_16 vo_17 vo_18 vo_19 y67) rfl rfl (gIV ml_X7_154 im_X6_blocks sl_X6_blocks in_X6 cd_X6_blocks) rfl eX6_blocks rfl ⟨rfl, rfl⟩ ⟨Nat.le_of_ble_eq_true rfl, Nat.le_of_ble_eq_true rfl⟩ rfl rfl rfl [4] rfl rfl rfl (Nat.le_of_ble_eq_true rfl) (tdec DX7_look 32 rfl) rfl ?_
                  refine g_sipush (v := 4800) C (tdec DX7_look 33 rfl) (by decide) rfl ?_
                  obtain ⟨r69, y70, hF⟩ := o_bind hF
                  refine g_callViRS (q0 := 29) (S := [wTV nm_0 sb_0 d_0 ve_0 vo_0 re_0 ro_0 nm0, wSB cB sb_0 sb_1 sb0, wSD d_0 sb_0 d0, wV cI cJ ve_0 ve_1 ve_2 ve_3 ve_4 ve_5 ve_6 ve_7 ve_8 ve_9 ve_10 ve_11 ve_12 ve_13 ve_14 ve_15 ve_16 ve_17 ve_18 ve_19 ve0, wV0 cI cJ vo_0 vo_1 vo_2 vo_3 vo_4 vo_5 vo0, wB cI cJ vo_5 vo_6 vo_7 vo_8 vo_9 vo_10 vo_11 vo_12 vo_13 vo_14 vo_15 vo_16 vo_17 vo_18 vo_19 (VS_b vo0), wRC re_0 ve_0 sb_0 re0, wRC ro_0 vo_0 sb_0 ro0]) (S0 := [wB cI cJ vo_5 vo_6 vo_7 vo_8 vo_9 vo_10 vo_11 vo_12 vo_13 vo_14 vo_15 vo_16 vo_17 vo_18 vo_19 (VS_b vo0)]) C (c_X0_told l D cB cI cJ cZ vo_5 vo_6 vo_7 vo_8 vo_9 vo_10 vo_11 vo_12 vo_13 vo_14 vo_15 vo_16 vo_17 vo_18 vo_19 y70) rfl rfl (gIV ml_X7_158 im_X0_told sl_X0_told in_X0 cd_X0_told) rfl eX0_told rfl ⟨rfl, rfl⟩ ⟨Nat.le_of_ble_eq_true rfl, Nat.le_of_ble_eq_true rfl⟩ rfl rfl rfl [5] rfl rfl rfl (Nat.le_of_ble_eq_true rfl) (tdec DX7_look 34 rfl) rfl ?_
                  have hr9 := o_some hF
                  subst hr9
                  exact g_iretR C rfl (tdec DX7_look 35 rfl)
                · have hF := o_ifn hF h66
                  by_cases h71 : p2 = 6
                  · have hF := o_ifp hF h71
                    refine g_switchIn (pt := 114) C (6) (tdec DX7_look 9 rfl) (h71.trans (by decide)) (by decide) (by decide) (by decide) rfl (by decide) ?_
                    refine g_aload_n (z := 0) C (tdec DX7_look 36 rfl) rfl rfl rfl ?_
                    obtain ⟨q73, y72, hF⟩ := o_bind hF
                    have q9 := o_some y72
                    subst q9
                    refine g_callVqRS (q0 := 24) (S := [wTV nm_0 sb_0 d_0 ve_0 vo_0 re_0 ro_0 nm0, wSB cB sb_0 sb_1 sb0, wSD d_0 sb_0 d0, wV cI cJ ve_0 ve_1 ve_2 ve_3 ve_4 ve_5 ve_6 ve_7 ve_8 ve_9 ve_10 ve_11 ve_12 ve_13 ve_14 ve_15 ve_16 ve_17 ve_18 ve_19 ve0, wV cI cJ vo_0 vo_1 vo_2 vo_3 vo_4 vo_5 vo_6 vo_7 vo_8 vo_9 vo_10 vo_11 vo_12 vo_13 vo_14 vo_15 vo_16 vo_17 vo_18 vo_19 vo0, wRC re_0 ve_0 sb_0 re0, wRC ro_0 vo_0 sb_0 ro0]) (S0 := [wV cI cJ vo_0 vo_1 vo_2 vo_3 vo_4 vo_5 vo_6 vo_7 vo_8 vo_9 vo_10 vo_11 vo_12 vo_13 vo_14 vo_15 vo_16 vo_17 vo_18 vo_19 vo0]) C (c_X6_blocks l D cB cI cJ cZ vo_0 vo_1 vo_2 vo_3 vo_4 vo_5 vo_6 vo_7 vo_8 vo_9 vo_10 vo_11 vo_12 vo_13 vo_14 vo_15 vo_16 vo_17 vo_18 vo_19 y72) rfl rfl (gIV ml_X7_154 im_X6_blocks sl_X6_blocks in_X6 cd_X6_blocks) rfl eX6_blocks rfl ⟨rfl, rfl⟩ ⟨Nat.le_of_ble_eq_true rfl, Nat.le_of_ble_eq_true rfl⟩ rfl rfl rfl [4] rfl rfl rfl (Nat.le_of_ble_eq_true rfl) (tdec DX7_look 37 rfl) rfl ?_
                    refine g_sipush (v := 4800) C (tdec DX7_look 38 rfl) (by decide) rfl ?_
                    obtain ⟨r74, y75, hF⟩ := o_bind hF
                    refine g_callViRS (q0 := 29) (S := [wTV nm_0 sb_0 d_0 ve_0 vo_0 re_0 ro_0 nm0, wSB cB sb_0 sb_1 sb0, wSD d_0 sb_0 d0, wV cI cJ ve_0 ve_1 ve_2 ve_3 ve_4 ve_5 ve_6 ve_7 ve_8 ve_9 ve_10 ve_11 ve_12 ve_13 ve_14 ve_15 ve_16 ve_17 ve_18 ve_19 ve0, wV0 cI cJ vo_0 vo_1 vo_2 vo_3 vo_4 vo_5 vo0, wB cI cJ vo_5 vo_6 vo_7 vo_8 vo_9 vo_10 vo_11 vo_12 vo_13 vo_14 vo_15 vo_16 vo_17 vo_18 vo_19 (VS_b vo0), wRC re_0 ve_0 sb_0 re0, wRC ro_0 vo_0 sb_0 ro0]) (S0 := [wB cI cJ vo_5 vo_6 vo_7 vo_8 vo_9 vo_10 vo_11 vo_12 vo_13 vo_14 vo_15 vo_16 vo_17 vo_18 vo_19 (VS_b vo0)]) C (c_X0_birth l D cB cI cJ cZ vo_5 vo_6 vo_7 vo_8 vo_9 vo_10 vo_11 vo_12 vo_13 vo_14 vo_15 vo_16 vo_17 vo_18 vo_19 y75) rfl rfl (gIV ml_X7_163 im_X0_birth sl_X0_birth in_X0 cd_X0_birth) rfl eX0_birth rfl ⟨rfl, rfl⟩ ⟨Nat.le_of_ble_eq_true rfl, Nat.le_of_ble_eq_true rfl⟩ rfl rfl rfl [5] rfl rfl rfl (Nat.le_of_ble_eq_true rfl) (tdec DX7_look 39 rfl) rfl ?_
                    have hr9 := o_some hF
                    subst hr9
                    exact g_iretR C rfl (tdec DX7_look 40 rfl)
                  · have hF := o_ifn hF h71
                    by_cases h76 : p2 = 7
                    · have hF := o_ifp hF h76
                      refine g_switchIn (pt := 125) C (7) (tdec DX7_look 9 rfl) (h76.trans (by decide)) (by decide) (by decide) (by decide) rfl (by decide) ?_
                      refine g_aload_n (z := 0) C (tdec DX7_look 41 rfl) rfl rfl rfl ?_
                      obtain ⟨q78, y77, hF⟩ := o_bind hF
                      have q9 := o_some y77
                      subst q9
                      refine g_callVqRS (q0 := 24) (S := [wTV nm_0 sb_0 d_0 ve_0 vo_0 re_0 ro_0 nm0, wSB cB sb_0 sb_1 sb0, wSD d_0 sb_0 d0, wV cI cJ ve_0 ve_1 ve_2 ve_3 ve_4 ve_5 ve_6 ve_7 ve_8 ve_9 ve_10 ve_11 ve_12 ve_13 ve_14 ve_15 ve_16 ve_17 ve_18 ve_19 ve0, wV cI cJ vo_0 vo_1 vo_2 vo_3 vo_4 vo_5 vo_6 vo_7 vo_8 vo_9 vo_10 vo_11 vo_12 vo_13 vo_14 vo_15 vo_16 vo_17 vo_18 vo_19 vo0, wRC re_0 ve_0 sb_0 re0, wRC ro_0 vo_0 sb_0 ro0]) (S0 := [wV cI cJ vo_0 vo_1 vo_2 vo_3 vo_4 vo_5 vo_6 vo_7 vo_8 vo_9 vo_10 vo_11 vo_12 vo_13 vo_14 vo_15 vo_16 vo_17 vo_18 vo_19 vo0]) C (c_X6_blocks l D cB cI cJ cZ vo_0 vo_1 vo_2 vo_3 vo_4 vo_5 vo_6 vo_7 vo_8 vo_9 vo_10 vo_11 vo_12 vo_13 vo_14 vo_15 vo_16 vo_17 vo_18 vo_19 y77) rfl rfl (gIV ml_X7_154 im_X6_blocks sl_X6_blocks in_X6 cd_X6_blocks) rfl eX6_blocks rfl ⟨rfl, rfl⟩ ⟨Nat.le_of_ble_eq_true rfl, Nat.le_of_ble_eq_true rfl⟩ rfl rfl rfl [4] rfl rfl rfl (Nat.le_of_ble_eq_true rfl) (tdec DX7_look 42 rfl) rfl ?_
                      refine g_sipush (v := 4801) C (tdec DX7_look 43 rfl) (by decide) rfl ?_
                      obtain ⟨r79, y80, hF⟩ := o_bind hF
                      refine g_callViRS (q0 := 29) (S := [wTV nm_0 sb_0 d_0 ve_0 vo_0 re_0 ro_0 nm0, wSB cB sb_0 sb_1 sb0, wSD d_0 sb_0 d0, wV cI cJ ve_0 ve_1 ve_2 ve_3 ve_4 ve_5 ve_6 ve_7 ve_8 ve_9 ve_10 ve_11 ve_12 ve_13 ve_14 ve_15 ve_16 ve_17 ve_18 ve_19 ve0, wV0 cI cJ vo_0 vo_1 vo_2 vo_3 vo_4 vo_5 vo0, wB cI cJ vo_5 vo_6 vo_7 vo_8 vo_9 vo_10 vo_11 vo_12 vo_13 vo_14 vo_15 vo_16 vo_17 vo_18 vo_19 (VS_b vo0), wRC re_0 ve_0 sb_0 re0, wRC ro_0 vo_0 sb_0 ro0]) (S0 := [wB cI cJ vo_5 vo_6 vo_7 vo_8 vo_9 vo_10 vo_11 vo_12 vo_13 vo_14 vo_15 vo_16 vo_17 vo_18 vo_19 (VS_b vo0)]) C (c_X0_told l D cB cI cJ cZ vo_5 vo_6 vo_7 vo_8 vo_9 vo_10 vo_11 vo_12 vo_13 vo_14 vo_15 vo_16 vo_17 vo_18 vo_19 y80) rfl rfl (gIV ml_X7_158 im_X0_told sl_X0_told in_X0 cd_X0_told) rfl eX0_told rfl ⟨rfl, rfl⟩ ⟨Nat.le_of_ble_eq_true rfl, Nat.le_of_ble_eq_true rfl⟩ rfl rfl rfl [5] rfl rfl rfl (Nat.le_of_ble_eq_true rfl) (tdec DX7_look 44 rfl) rfl ?_
                      have hr9 := o_some hF
                      subst hr9
                      exact g_iretR C rfl (tdec DX7_look 45 rfl)
                    · have hF := o_ifn hF h76
                      by_cases h81 : p2 = 8
                      · have hF := o_ifp hF h81
                        refine g_switchIn (pt := 136) C (8) (tdec DX7_look 9 rfl) (h81.trans (by decide)) (by decide) (by decide) (by decide) rfl (by decide) ?_
                        refine g_aload_n (z := 1) C (tdec DX7_look 46 rfl) rfl rfl rfl ?_
                        refine g_iload_n (z := 2) C (tdec DX7_look 47 rfl) rfl rfl rfl ?_
                        obtain ⟨q83, y82, hF⟩ := o_bind hF
                        refine g_callVqRS (q0 := 0) (S := [wTV nm_0 sb_0 d_0 ve_0 vo_0 re_0 ro_0 nm0, wSB cB sb_0 sb_1 sb0, wSD d_0 sb_0 d0, wV cI cJ ve_0 ve_1 ve_2 ve_3 ve_4 ve_5 ve_6 ve_7 ve_8 ve_9 ve_10 ve_11 ve_12 ve_13 ve_14 ve_15 ve_16 ve_17 ve_18 ve_19 ve0, wV cI cJ vo_0 vo_1 vo_2 vo_3 vo_4 vo_5 vo_6 vo_7 vo_8 vo_9 vo_10 vo_11 vo_12 vo_13 vo_14 vo_15 vo_16 vo_17 vo_18 vo_19 vo0, wRC re_0 ve_0 sb_0 re0, wRC ro_0 vo_0 sb_0 ro0]) (S0 := [wTV nm_0 sb_0 d_0 ve_0 vo_0 re_0 ro_0 nm0]) C (c_X7_receivingOf l D cB cI cJ cZ nm_0 sb_0 d_0 ve_0 vo_0 re_0 ro_0 y82) rfl rfl (gIV ml_X7_62 im_X7_receivingOf sl_X7_receivingOf in_X7 cd_X7_receivingOf) rfl eX7_receivingOf rfl ⟨rfl, rfl⟩ ⟨Nat.le_of_ble_eq_true rfl, Nat.le_of_ble_eq_true rfl⟩ rfl rfl rfl [0] rfl rfl rfl (Nat.le_of_ble_eq_true rfl) (tdec DX7_look 48 rfl) rfl ?_
                        cases q83 with
                        | none => exact absurd hF (by simp)
                        | some k88 =>
                          cases k88 with
                          | zero =>
                            refine g_st (st' := [.ref re_0]) rfl ?_
                            obtain ⟨r84, y85, hF⟩ := o_bind hF
                            refine g_callViRS (q0 := 44) (S := [wTV nm_0 sb_0 d_0 ve_0 vo_0 re_0 ro_0 nm0, wSB cB sb_0 sb_1 sb0, wSD d_0 sb_0 d0, wV cI cJ ve_0 ve_1 ve_2 ve_3 ve_4 ve_5 ve_6 ve_7 ve_8 ve_9 ve_10 ve_11 ve_12 ve_13 ve_14 ve_15 ve_16 ve_17 ve_18 ve_19 ve0, wV cI cJ vo_0 vo_1 vo_2 vo_3 vo_4 vo_5 vo_6 vo_7 vo_8 vo_9 vo_10 vo_11 vo_12 vo_13 vo_14 vo_15 vo_16 vo_17 vo_18 vo_19 vo0, wRC re_0 ve_0 sb_0 re0, wRC ro_0 vo_0 sb_0 ro0]) (S0 := [wRC re_0 ve_0 sb_0 re0]) C (c_X3_received l D cB cI cJ cZ re_0 ve_0 sb_0 y85) rfl rfl (gIV ml_X7_190 im_X3_received sl_X3_received in_X3 cd_X3_received) rfl eX3_received rfl ⟨rfl, rfl⟩ ⟨Nat.le_of_ble_eq_true rfl, Nat.le_of_ble_eq_true rfl⟩ rfl rfl rfl [5] rfl rfl rfl (Nat.le_of_ble_eq_true rfl) (tdec DX7_look 49 rfl) rfl ?_
                            have hr9 := o_some hF
                            subst hr9
                            exact g_iretR C rfl (tdec DX7_look 50 rfl)
                          | succ k88 =>
                            refine g_st (st' := [.ref ro_0]) rfl ?_
                            obtain ⟨r86, y87, hF⟩ := o_bind hF
                            refine g_callViRS (q0 := 45) (S := [wTV nm_0 sb_0 d_0 ve_0 vo_0 re_0 ro_0 nm0, wSB cB sb_0 sb_1 sb0, wSD d_0 sb_0 d0, wV cI cJ ve_0 ve_1 ve_2 ve_3 ve_4 ve_5 ve_6 ve_7 ve_8 ve_9 ve_10 ve_11 ve_12 ve_13 ve_14 ve_15 ve_16 ve_17 ve_18 ve_19 ve0, wV cI cJ vo_0 vo_1 vo_2 vo_3 vo_4 vo_5 vo_6 vo_7 vo_8 vo_9 vo_10 vo_11 vo_12 vo_13 vo_14 vo_15 vo_16 vo_17 vo_18 vo_19 vo0, wRC re_0 ve_0 sb_0 re0, wRC ro_0 vo_0 sb_0 ro0]) (S0 := [wRC ro_0 vo_0 sb_0 ro0]) C (c_X3_received l D cB cI cJ cZ ro_0 vo_0 sb_0 y87) rfl rfl (gIV ml_X7_190 im_X3_received sl_X3_received in_X3 cd_X3_received) rfl eX3_received rfl ⟨rfl, rfl⟩ ⟨Nat.le_of_ble_eq_true rfl, Nat.le_of_ble_eq_true rfl⟩ rfl rfl rfl [6] rfl rfl rfl (Nat.le_of_ble_eq_true rfl) (tdec DX7_look 49 rfl) rfl ?_
                            have hr9 := o_some hF
                            subst hr9
                            exact g_iretR C rfl (tdec DX7_look 50 rfl)
                      · have hF := o_ifn hF h81
                        refine g_switchOut (pt := 145) C (tdec DX7_look 9 rfl) (sw_out9 0 (fun z => h46 (z.trans (by decide))) (fun z => h51 (z.trans (by decide))) (fun z => h56 (z.trans (by decide))) (fun z => h59 (z.trans (by decide))) (fun z => h62 (z.trans (by decide))) (fun z => h66 (z.trans (by decide))) (fun z => h71 (z.trans (by decide))) (fun z => h76 (z.trans (by decide))) (fun z => h81 (z.trans (by decide)))) (by decide) ?_
                        refine g_iconst (v := (-1)) C (tdec DX7_look 51 rfl) (by decide) rfl ?_
                        have hr9 := o_some hF
                        subst hr9
                        exact g_iretR C rfl (tdec DX7_look 52 rfl)
def FX7_sent (nm0 : Int64) (sb0 : SB) (d0 : SD) (ve0 : VS) (vo0 : VS) (re0 : RC) (ro0 : RC) (p1 : Int32) : Option (Int32) :=
  if p1 = 0 then
    (FX4_writes d0).bind fun r2 =>
    some r2
  else
    if p1 = 1 then
      (FX4_clears d0).bind fun r5 =>
      some r5
    else
      if p1 = 2 then
        (FX4_seen d0).bind fun r8 =>
        some r8
      else
        if p1 = 3 then
          (FX5_length sb0).bind fun r11 =>
          some r11
        else
          if p1 = 4 then
            some ((nm0 : Int64).toInt32)
          else
            some (-1)
def rX7_sent : Room := { frames := 1, cells := 0, slots := 0, locals := 20 }
set_option maxHeartbeats 4000000 in
set_option maxRecDepth 100000 in
theorem c_X7_sent (l : Launch) (D : va_G) (cB cI cJ cZ : ClassId) (nm_0 sb_0 sb_1 d_0 ve_0 ve_1 ve_2 ve_3 ve_4 ve_5 ve_6 ve_7 ve_8 ve_9 ve_10 ve_11 ve_12 ve_13 ve_14 ve_15 ve_16 ve_17 ve_18 ve_19 vo_0 vo_1 vo_2 vo_3 vo_4 vo_5 vo_6 vo_7 vo_8 vo_9 vo_10 vo_11 vo_12 vo_13 vo_14 vo_15 vo_16 vo_17 vo_18 vo_19 re_0 ro_0 : Nat) {nm0 : Int64} {sb0 : SB} {d0 : SD} {ve0 : VS} {vo0 : VS} {re0 : RC} {ro0 : RC} {p1 : Int32} {res : Int32} (hF : FX7_sent nm0 sb0 d0 ve0 vo0 re0 ro0 p1 = some res) : gRi l yX7_sent wsX7_sent rX7_sent D (gT cB cI cJ cZ) [.ref nm_0, .int p1] (wTV nm_0 sb_0 d_0 ve_0 vo_0 re_0 ro_0 nm0 ++ (wSB cB sb_0 sb_1 sb0 ++ (wSD d_0 sb_0 d0 ++ (wV cI cJ ve_0 ve_1 ve_2 ve_3 ve_4 ve_5 ve_6 ve_7 ve_8 ve_9 ve_10 ve_11 ve_12 ve_13 ve_14 ve_15 ve_16 ve_17 ve_18 ve_19 ve0 ++ (wV cI cJ vo_0 vo_1 vo_2 vo_3 vo_4 vo_5 vo_6 vo_7 vo_8 vo_9 vo_10 vo_11 vo_12 vo_13 vo_14 vo_15 vo_16 vo_17 vo_18 vo_19 vo0 ++ (wRC re_0 ve_0 sb_0 re0 ++ (wRC ro_0 vo_0 sb_0 ro0))))))) res := by
  refine g_enter (own := RX7) (free := (fun _ _ => False)) (Qc := (fun sz => gRQi res)) (fun _ _ => True) (fun sz => Or.inl rfl) rfl (by decide) rfl (Nat.le_of_ble_eq_true rfl) rfl ?_
  intro p e s m args below meth c C
  unfold FX7_sent at hF
  refine g_iload_n (z := 1) C (tdec DX7_sent 0 rfl) rfl rfl rfl ?_
  by_cases h1 : p1 = 0
  · have hF := o_ifp hF h1
    refine g_switchIn (pt := 36) C (0) (tdec DX7_sent 1 rfl) (h1.trans (by decide)) (by decide) (by decide) (by decide) rfl (by decide) ?_
    refine g_aload_n (z := 0) C (tdec DX7_sent 2 rfl) rfl rfl rfl ?_
    refine g_getf (C' := RX7) (T := TX7) (N := 7) (v := .ref d_0) C 0 1 (gIn iw_X7) rfl rfl (by decide) (gMem fl_X7_21) rfl rfl (tdec DX7_sent 3 rfl) rfl ?_
    obtain ⟨r2, y3, hF⟩ := o_bind hF
    refine g_callViRS (q0 := 3) (S := [wTV nm_0 sb_0 d_0 ve_0 vo_0 re_0 ro_0 nm0, wSB cB sb_0 sb_1 sb0, wSD d_0 sb_0 d0, wV cI cJ ve_0 ve_1 ve_2 ve_3 ve_4 ve_5 ve_6 ve_7 ve_8 ve_9 ve_10 ve_11 ve_12 ve_13 ve_14 ve_15 ve_16 ve_17 ve_18 ve_19 ve0, wV cI cJ vo_0 vo_1 vo_2 vo_3 vo_4 vo_5 vo_6 vo_7 vo_8 vo_9 vo_10 vo_11 vo_12 vo_13 vo_14 vo_15 vo_16 vo_17 vo_18 vo_19 vo0, wRC re_0 ve_0 sb_0 re0, wRC ro_0 vo_0 sb_0 ro0]) (S0 := [wSD d_0 sb_0 d0]) C (c_X4_writes l D cB cI cJ cZ d_0 sb_0 y3) rfl rfl (gIV ml_X7_193 im_X4_writes sl_X4_writes in_X4 cd_X4_writes) rfl eX4_writes rfl ⟨rfl, rfl⟩ ⟨Nat.le_of_ble_eq_true rfl, Nat.le_of_ble_eq_true rfl⟩ rfl rfl rfl [2] rfl rfl rfl (Nat.le_of_ble_eq_true rfl) (tdec DX7_sent 4 rfl) rfl ?_
    have hr9 := o_some hF
    subst hr9
    exact g_iretR C rfl (tdec DX7_sent 5 rfl)
  · have hF := o_ifn hF h1
    by_cases h4 : p1 = 1
    · have hF := o_ifp hF h4
      refine g_switchIn (pt := 44) C (1) (tdec DX7_sent 1 rfl) (h4.trans (by decide)) (by decide) (by decide) (by decide) rfl (by decide) ?_
      refine g_aload_n (z := 0) C (tdec DX7_sent 6 rfl) rfl rfl rfl ?_
      refine g_getf (C' := RX7) (T := TX7) (N := 7) (v := .ref d_0) C 0 1 (gIn iw_X7) rfl rfl (by decide) (gMem fl_X7_21) rfl rfl (tdec DX7_sent 7 rfl) rfl ?_
      obtain ⟨r5, y6, hF⟩ := o_bind hF
      refine g_callViRS (q0 := 3) (S := [wTV nm_0 sb_0 d_0 ve_0 vo_0 re_0 ro_0 nm0, wSB cB sb_0 sb_1 sb0, wSD d_0 sb_0 d0, wV cI cJ ve_0 ve_1 ve_2 ve_3 ve_4 ve_5 ve_6 ve_7 ve_8 ve_9 ve_10 ve_11 ve_12 ve_13 ve_14 ve_15 ve_16 ve_17 ve_18 ve_19 ve0, wV cI cJ vo_0 vo_1 vo_2 vo_3 vo_4 vo_5 vo_6 vo_7 vo_8 vo_9 vo_10 vo_11 vo_12 vo_13 vo_14 vo_15 vo_16 vo_17 vo_18 vo_19 vo0, wRC re_0 ve_0 sb_0 re0, wRC ro_0 vo_0 sb_0 ro0]) (S0 := [wSD d_0 sb_0 d0]) C (c_X4_clears l D cB cI cJ cZ d_0 sb_0 y6) rfl rfl (gIV ml_X7_196 im_X4_clears sl_X4_clears in_X4 cd_X4_clears) rfl eX4_clears rfl ⟨rfl, rfl⟩ ⟨Nat.le_of_ble_eq_true rfl, Nat.le_of_ble_eq_true rfl⟩ rfl rfl rfl [2] rfl rfl rfl (Nat.le_of_ble_eq_true rfl) (tdec DX7_sent 8 rfl) rfl ?_
      have hr9 := o_some hF
      subst hr9
      exact g_iretR C rfl (tdec DX7_sent 9 rfl)
    · have hF := o_ifn hF h4
      by_cases h7 : p1 = 2
      · have hF := o_ifp hF h7
        refine g_switchIn (pt := 52) C (2) (tdec DX7_sent 1 rfl) (h7.trans (by decide)) (by decide) (by decide) (by decide) rfl (by decide) ?_
        refine g_aload_n (z := 0) C (tdec DX7_sent 10 rfl) rfl rfl rfl ?_
        refine g_getf (C' := RX7) (T := TX7) (N := 7) (v := .ref d_0) C 0 1 (gIn iw_X7) rfl rfl (by decide) (gMem fl_X7_21) rfl rfl (tdec DX7_sent 11 rfl) rfl ?_
        obtain ⟨r8, y9, hF⟩ := o_bind hF
        refine g_callViRS (q0 := 3) (S := [wTV nm_0 sb_0 d_0 ve_0 vo_0 re_0 ro_0 nm0, wSB cB sb_0 sb_1 sb0, wSD d_0 sb_0 d0, wV cI cJ ve_0 ve_1 ve_2 ve_3 ve_4 ve_5 ve_6 ve_7 ve_8 ve_9 ve_10 ve_11 ve_12 ve_13 ve_14 ve_15 ve_16 ve_17 ve_18 ve_19 ve0, wV cI cJ vo_0 vo_1 vo_2 vo_3 vo_4 vo_5 vo_6 vo_7 vo_8 vo_9 vo_10 vo_11 vo_12 vo_13 vo_14 vo_15 vo_16 vo_17 vo_18 vo_19 vo0, wRC re_0 ve_0 sb_0 re0, wRC ro_0 vo_0 sb_0 ro0]) (S0 := [wSD d_0 sb_0 d0]) C (c_X4_seen l D cB cI cJ cZ d_0 sb_0 y9) rfl rfl (gIV ml_X7_199 im_X4_seen sl_X4_seen in_X4 cd_X4_seen) rfl eX4_seen rfl ⟨rfl, rfl⟩ ⟨Nat.le_of_ble_eq_true rfl, Nat.le_of_ble_eq_true rfl⟩ rfl rfl rfl [2] rfl rfl rfl (Nat.le_of_ble_eq_true rfl) (tdec DX7_sent 12 rfl) rfl ?_
        have hr9 := o_some hF
        subst hr9
        exact g_iretR C rfl (tdec DX7_sent 13 rfl)
      · have hF := o_ifn hF h7
        by_cases h10 : p1 = 3
        · have hF := o_ifp hF h10
          refine g_switchIn (pt := 60) C (3) (tdec DX7_sent 1 rfl) (h10.trans (by decide)) (by decide) (by decide) (by decide) rfl (by decide) ?_
          refine g_aload_n (z := 0) C (tdec DX7_sent 14 rfl) rfl rfl rfl ?_
          refine g_getf (C' := RX7) (T := TX7) (N := 7) (v := .ref sb_0) C 0 0 (gIn iw_X7) rfl rfl (by decide) (gMem fl_X7_12) rfl rfl (tdec DX7_sent 15 rfl) rfl ?_
          obtain ⟨r11, y12, hF⟩ := o_bind hF
          refine g_callViRS (q0 := 1) (S := [wTV nm_0 sb_0 d_0 ve_0 vo_0 re_0 ro_0 nm0, wSB cB sb_0 sb_1 sb0, wSD d_0 sb_0 d0, wV cI cJ ve_0 ve_1 ve_2 ve_3 ve_4 ve_5 ve_6 ve_7 ve_8 ve_9 ve_10 ve_11 ve_12 ve_13 ve_14 ve_15 ve_16 ve_17 ve_18 ve_19 ve0, wV cI cJ vo_0 vo_1 vo_2 vo_3 vo_4 vo_5 vo_6 vo_7 vo_8 vo_9 vo_10 vo_11 vo_12 vo_13 vo_14 vo_15 vo_16 vo_17 vo_18 vo_19 vo0, wRC re_0 ve_0 sb_0 re0, wRC ro_0 vo_0 sb_0 ro0]) (S0 := [wSB cB sb_0 sb_1 sb0]) C (c_X5_length l D cB cI cJ cZ sb_0 sb_1 y12) rfl rfl (gIV ml_X7_123 im_X5_length sl_X5_length in_X5 cd_X5_length) rfl eX5_length rfl ⟨rfl, rfl⟩ ⟨Nat.le_of_ble_eq_true rfl, Nat.le_of_ble_eq_true rfl⟩ rfl rfl rfl [1] rfl rfl rfl (Nat.le_of_ble_eq_true rfl) (tdec DX7_sent 16 rfl) rfl ?_
          have hr9 := o_some hF
          subst hr9
          exact g_iretR C rfl (tdec DX7_sent 17 rfl)
        · have hF := o_ifn hF h10
          by_cases h13 : p1 = 4
          · have hF := o_ifp hF h13
            refine g_switchIn (pt := 68) C (4) (tdec DX7_sent 1 rfl) (h13.trans (by decide)) (by decide) (by decide) (by decide) rfl (by decide) ?_
            refine g_aload_n (z := 0) C (tdec DX7_sent 18 rfl) rfl rfl rfl ?_
            refine g_getf (C' := RX7) (T := TX7) (N := 7) (v := .long nm0) C 0 6 (gIn iw_X7) rfl rfl (by decide) (gMem fl_X7_47) rfl rfl (tdec DX7_sent 19 rfl) rfl ?_
            refine g_l2i C (tdec DX7_sent 20 rfl) rfl ?_
            have hr9 := o_some hF
            subst hr9
            exact g_iretR C rfl (tdec DX7_sent 21 rfl)
          · have hF := o_ifn hF h13
            refine g_switchOut (pt := 74) C (tdec DX7_sent 1 rfl) (sw_out5 0 (fun z => h1 (z.trans (by decide))) (fun z => h4 (z.trans (by decide))) (fun z => h7 (z.trans (by decide))) (fun z => h10 (z.trans (by decide))) (fun z => h13 (z.trans (by decide)))) (by decide) ?_
            refine g_iconst (v := (-1)) C (tdec DX7_sent 22 rfl) (by decide) rfl ?_
            have hr9 := o_some hF
            subst hr9
            exact g_iretR C rfl (tdec DX7_sent 23 rfl)
