/-! PART 30.X7: walks, printed by wip/whole/walk.py -/
def FX7_find (nm0 : Int64) (p1 : Int32) : Option (Option Nat) :=
  if p1 = 0 then
    some (some 0)
  else
    if p1 = 1 then
      some (some 1)
    else
      some none
def rX7_find : Room := { frames := 0, cells := 0, slots := 0, locals := 0 }
set_option maxHeartbeats 4000000 in
set_option maxRecDepth 100000 in
theorem c_X7_find (l : Launch) (D : va_G) (cB cI cJ cZ : ClassId) (nm_0 nm_xSB nm_xSD nm_xV0 nm_xV1 nm_xR0 nm_xR1 : Nat) {nm0 : Int64} {p1 : Int32} {res : Option Nat} (hF : FX7_find nm0 p1 = some res) : gRq l yX7_find wsX7_find rX7_find D (gT cB cI cJ cZ) [.ref nm_0, .int p1] (wTV nm_0 nm_xSB nm_xSD nm_xV0 nm_xV1 nm_xR0 nm_xR1 nm0) (res.map (qsel nm_xV0 nm_xV1)) := by
  refine g_enter (own := RX7) (free := (fun _ _ => False)) (Qc := (fun sz => gRQq (res.map (qsel nm_xV0 nm_xV1)))) (fun _ _ => True) (fun sz => Or.inl rfl) rfl (by decide) rfl (Nat.le_of_ble_eq_true rfl) rfl ?_
  intro p e s m args below meth c C
  unfold FX7_find at hF
  refine g_iload_n (z := 1) C (tdec DX7_find 0 rfl) rfl rfl rfl ?_
  refine g_if_ne (pt := 11) C (tdec DX7_find 1 rfl) (by decide) rfl (fun h1 => ?_) (fun h1 => ?_)
  · have hF := o_ifn hF h1
    refine g_iload_n (z := 1) C (tdec DX7_find 5 rfl) rfl rfl rfl ?_
    refine g_iconst (v := 1) C (tdec DX7_find 6 rfl) (by decide) rfl ?_
    refine g_icmp_ne (pt := 23) C (tdec DX7_find 7 rfl) (by decide) rfl (fun h2 => ?_) (fun h2 => ?_)
    · have hF := o_ifn hF h2
      refine g_null C (tdec DX7_find 11 rfl) rfl ?_
      have hr9 := o_some hF
      subst hr9
      exact g_aretR C rfl (tdec DX7_find 12 rfl)
    · have hF := o_ifp hF h2
      refine g_aload_n (z := 0) C (tdec DX7_find 8 rfl) rfl rfl rfl ?_
      refine g_getf (C' := RX7) (T := TX7) (N := 7) (v := .ref nm_xV1) C 0 3 (gIn iw_X7) rfl rfl (by decide) (gMem fl_X7_32) rfl rfl (tdec DX7_find 9 rfl) rfl ?_
      refine g_goto (pt := 24) C (tdec DX7_find 10 rfl) (by decide) ?_
      have hr9 := o_some hF
      subst hr9
      exact g_aretR C rfl (tdec DX7_find 12 rfl)
  · have hF := o_ifp hF h1
    refine g_aload_n (z := 0) C (tdec DX7_find 2 rfl) rfl rfl rfl ?_
    refine g_getf (C' := RX7) (T := TX7) (N := 7) (v := .ref nm_xV0) C 0 2 (gIn iw_X7) rfl rfl (by decide) (gMem fl_X7_28) rfl rfl (tdec DX7_find 3 rfl) rfl ?_
    refine g_goto (pt := 24) C (tdec DX7_find 4 rfl) (by decide) ?_
    have hr9 := o_some hF
    subst hr9
    exact g_aretR C rfl (tdec DX7_find 12 rfl)
def FX7_receivingOf (nm0 : Int64) (p1 : Int32) : Option (Option Nat) :=
  if p1 = 0 then
    some (some 0)
  else
    some (some 1)
def rX7_receivingOf : Room := { frames := 0, cells := 0, slots := 0, locals := 0 }
set_option maxHeartbeats 4000000 in
set_option maxRecDepth 100000 in
theorem c_X7_receivingOf (l : Launch) (D : va_G) (cB cI cJ cZ : ClassId) (nm_0 nm_xSB nm_xSD nm_xV0 nm_xV1 nm_xR0 nm_xR1 : Nat) {nm0 : Int64} {p1 : Int32} {res : Option Nat} (hF : FX7_receivingOf nm0 p1 = some res) : gRq l yX7_receivingOf wsX7_receivingOf rX7_receivingOf D (gT cB cI cJ cZ) [.ref nm_0, .int p1] (wTV nm_0 nm_xSB nm_xSD nm_xV0 nm_xV1 nm_xR0 nm_xR1 nm0) (res.map (qsel nm_xR0 nm_xR1)) := by
  refine g_enter (own := RX7) (free := (fun _ _ => False)) (Qc := (fun sz => gRQq (res.map (qsel nm_xR0 nm_xR1)))) (fun _ _ => True) (fun sz => Or.inl rfl) rfl (by decide) rfl (Nat.le_of_ble_eq_true rfl) rfl ?_
  intro p e s m args below meth c C
  unfold FX7_receivingOf at hF
  refine g_iload_n (z := 1) C (tdec DX7_receivingOf 0 rfl) rfl rfl rfl ?_
  refine g_if_ne (pt := 11) C (tdec DX7_receivingOf 1 rfl) (by decide) rfl (fun h1 => ?_) (fun h1 => ?_)
  · have hF := o_ifn hF h1
    refine g_aload_n (z := 0) C (tdec DX7_receivingOf 5 rfl) rfl rfl rfl ?_
    refine g_getf (C' := RX7) (T := TX7) (N := 7) (v := .ref nm_xR1) C 0 5 (gIn iw_X7) rfl rfl (by decide) (gMem fl_X7_44) rfl rfl (tdec DX7_receivingOf 6 rfl) rfl ?_
    have hr9 := o_some hF
    subst hr9
    exact g_aretR C rfl (tdec DX7_receivingOf 7 rfl)
  · have hF := o_ifp hF h1
    refine g_aload_n (z := 0) C (tdec DX7_receivingOf 2 rfl) rfl rfl rfl ?_
    refine g_getf (C' := RX7) (T := TX7) (N := 7) (v := .ref nm_xR0) C 0 4 (gIn iw_X7) rfl rfl (by decide) (gMem fl_X7_40) rfl rfl (tdec DX7_receivingOf 3 rfl) rfl ?_
    refine g_goto (pt := 15) C (tdec DX7_receivingOf 4 rfl) (by decide) ?_
    have hr9 := o_some hF
    subst hr9
    exact g_aretR C rfl (tdec DX7_receivingOf 7 rfl)
def FX7_format (nm0 : Int64) (sb0 : SB) (d0 : SD) (ve0 : VS) (vo0 : VS) (re0 : RC) (ro0 : RC) (p1 : Int32) (p2 : Int32) : Option (Except String ((VS × VS × RC × RC))) :=
  (FX7_find nm0 p1).bind fun q2 =>
  (match q2 with
  | none =>
    some (.error xIA)
  | some 0 =>
    if p2 < 4 then
      some (.error xIA)
    else
      if p2 ≤ 600 then
        (FX6_startAnew ve0 p2).bind fun s5 =>
        (FX7_receivingOf nm0 p1).bind fun q8 =>
        (match q8 with
        | none => none
        | some 0 =>
          (FX3_forget re0).bind fun s9 =>
          some (.ok (s5, vo0, s9, ro0))
        | some (_ + 1) =>
          (FX3_forget ro0).bind fun s11 =>
          some (.ok (s5, vo0, re0, s11)))
      else
        some (.error xIA)
  | some (_ + 1) =>
    if p2 < 4 then
      some (.error xIA)
    else
      if p2 ≤ 600 then
        (FX6_startAnew vo0 p2).bind fun s16 =>
        (FX7_receivingOf nm0 p1).bind fun q19 =>
        (match q19 with
        | none => none
        | some 0 =>
          (FX3_forget re0).bind fun s20 =>
          some (.ok (ve0, s16, s20, ro0))
        | some (_ + 1) =>
          (FX3_forget ro0).bind fun s22 =>
          some (.ok (ve0, s16, re0, s22)))
      else
        some (.error xIA))
def rX7_format : Room := { frames := 6, cells := 1, slots := 6, locals := 90 }
set_option maxHeartbeats 4000000 in
set_option maxRecDepth 100000 in
theorem c_X7_format (l : Launch) (hfl : l.stackTraces = false) (D : va_G) (cB cI cJ cZ : ClassId) (nm_0 sb_0 sb_1 d_0 ve_0 ve_1 ve_2 ve_3 ve_4 ve_5 ve_6 ve_7 ve_8 ve_9 ve_10 ve_11 ve_12 ve_13 ve_14 ve_15 ve_16 ve_17 ve_18 ve_19 vo_0 vo_1 vo_2 vo_3 vo_4 vo_5 vo_6 vo_7 vo_8 vo_9 vo_10 vo_11 vo_12 vo_13 vo_14 vo_15 vo_16 vo_17 vo_18 vo_19 re_0 ro_0 : Nat) {nm0 : Int64} {sb0 : SB} {d0 : SD} {ve0 : VS} {vo0 : VS} {re0 : RC} {ro0 : RC} {p1 : Int32} {p2 : Int32} {res : Except String ((VS × VS × RC × RC))} (hF : FX7_format nm0 sb0 d0 ve0 vo0 re0 ro0 p1 p2 = some res) : gXv l yX7_format wsX7_format rX7_format D (gT cB cI cJ cZ) [.ref nm_0, .int p1, .int p2] (wTV nm_0 sb_0 d_0 ve_0 vo_0 re_0 ro_0 nm0 ++ (wSB cB sb_0 sb_1 sb0 ++ (wSD d_0 sb_0 d0 ++ (wV cI cJ ve_0 ve_1 ve_2 ve_3 ve_4 ve_5 ve_6 ve_7 ve_8 ve_9 ve_10 ve_11 ve_12 ve_13 ve_14 ve_15 ve_16 ve_17 ve_18 ve_19 ve0 ++ (wV cI cJ vo_0 vo_1 vo_2 vo_3 vo_4 vo_5 vo_6 vo_7 vo_8 vo_9 vo_10 vo_11 vo_12 vo_13 vo_14 vo_15 vo_16 vo_17 vo_18 vo_19 vo0 ++ (wRC re_0 ve_0 sb_0 re0 ++ (wRC ro_0 vo_0 sb_0 ro0))))))) res (fun u : (VS × VS × RC × RC) => wTV nm_0 sb_0 d_0 ve_0 vo_0 re_0 ro_0 nm0 ++ (wSB cB sb_0 sb_1 sb0 ++ (wSD d_0 sb_0 d0 ++ (wV cI cJ ve_0 ve_1 ve_2 ve_3 ve_4 ve_5 ve_6 ve_7 ve_8 ve_9 ve_10 ve_11 ve_12 ve_13 ve_14 ve_15 ve_16 ve_17 ve_18 ve_19 u.1 ++ (wV cI cJ vo_0 vo_1 vo_2 vo_3 vo_4 vo_5 vo_6 vo_7 vo_8 vo_9 vo_10 vo_11 vo_12 vo_13 vo_14 vo_15 vo_16 vo_17 vo_18 vo_19 u.2.1 ++ (wRC re_0 ve_0 sb_0 u.2.2.1 ++ (wRC ro_0 vo_0 sb_0 u.2.2.2))))))) := by
  refine g_enterX (own := RX7) (Qc := (fun sz => gXQv D (wTV nm_0 sb_0 d_0 ve_0 vo_0 re_0 ro_0 nm0 ++ (wSB cB sb_0 sb_1 sb0 ++ (wSD d_0 sb_0 d0 ++ (wV cI cJ ve_0 ve_1 ve_2 ve_3 ve_4 ve_5 ve_6 ve_7 ve_8 ve_9 ve_10 ve_11 ve_12 ve_13 ve_14 ve_15 ve_16 ve_17 ve_18 ve_19 ve0 ++ (wV cI cJ vo_0 vo_1 vo_2 vo_3 vo_4 vo_5 vo_6 vo_7 vo_8 vo_9 vo_10 vo_11 vo_12 vo_13 vo_14 vo_15 vo_16 vo_17 vo_18 vo_19 vo0 ++ (wRC re_0 ve_0 sb_0 re0 ++ (wRC ro_0 vo_0 sb_0 ro0))))))) sz (fun u : (VS × VS × RC × RC) => res = .ok u) (fun u : (VS × VS × RC × RC) => wTV nm_0 sb_0 d_0 ve_0 vo_0 re_0 ro_0 nm0 ++ (wSB cB sb_0 sb_1 sb0 ++ (wSD d_0 sb_0 d0 ++ (wV cI cJ ve_0 ve_1 ve_2 ve_3 ve_4 ve_5 ve_6 ve_7 ve_8 ve_9 ve_10 ve_11 ve_12 ve_13 ve_14 ve_15 ve_16 ve_17 ve_18 ve_19 u.1 ++ (wV cI cJ vo_0 vo_1 vo_2 vo_3 vo_4 vo_5 vo_6 vo_7 vo_8 vo_9 vo_10 vo_11 vo_12 vo_13 vo_14 vo_15 vo_16 vo_17 vo_18 vo_19 u.2.1 ++ (wRC re_0 ve_0 sb_0 u.2.2.1 ++ (wRC ro_0 vo_0 sb_0 u.2.2.2))))))))) (XC := (fun sz => gXC D (wTV nm_0 sb_0 d_0 ve_0 vo_0 re_0 ro_0 nm0 ++ (wSB cB sb_0 sb_1 sb0 ++ (wSD d_0 sb_0 d0 ++ (wV cI cJ ve_0 ve_1 ve_2 ve_3 ve_4 ve_5 ve_6 ve_7 ve_8 ve_9 ve_10 ve_11 ve_12 ve_13 ve_14 ve_15 ve_16 ve_17 ve_18 ve_19 ve0 ++ (wV cI cJ vo_0 vo_1 vo_2 vo_3 vo_4 vo_5 vo_6 vo_7 vo_8 vo_9 vo_10 vo_11 vo_12 vo_13 vo_14 vo_15 vo_16 vo_17 vo_18 vo_19 vo0 ++ (wRC re_0 ve_0 sb_0 re0 ++ (wRC ro_0 vo_0 sb_0 ro0))))))) sz (fun E => res = .error E))) rfl (by decide) rfl (Nat.le_of_ble_eq_true rfl) rfl ?_
  intro p e s m args below meth c C htab hX hZ
  unfold FX7_format at hF
  refine g_aload_n (z := 0) C (tdec DX7_format 0 rfl) rfl rfl rfl ?_
  refine g_iload_n (z := 1) C (tdec DX7_format 1 rfl) rfl rfl rfl ?_
  obtain ⟨q2, y1, hF⟩ := o_bind hF
  refine g_callVqRS (q0 := 0) (S := [wTV nm_0 sb_0 d_0 ve_0 vo_0 re_0 ro_0 nm0, wSB cB sb_0 sb_1 sb0, wSD d_0 sb_0 d0, wV cI cJ ve_0 ve_1 ve_2 ve_3 ve_4 ve_5 ve_6 ve_7 ve_8 ve_9 ve_10 ve_11 ve_12 ve_13 ve_14 ve_15 ve_16 ve_17 ve_18 ve_19 ve0, wV cI cJ vo_0 vo_1 vo_2 vo_3 vo_4 vo_5 vo_6 vo_7 vo_8 vo_9 vo_10 vo_11 vo_12 vo_13 vo_14 vo_15 vo_16 vo_17 vo_18 vo_19 vo0, wRC re_0 ve_0 sb_0 re0, wRC ro_0 vo_0 sb_0 ro0]) (S0 := [wTV nm_0 sb_0 d_0 ve_0 vo_0 re_0 ro_0 nm0]) C (c_X7_find l D cB cI cJ cZ nm_0 sb_0 d_0 ve_0 vo_0 re_0 ro_0 y1) rfl rfl (gIV ml_X7_51 im_X7_find sl_X7_find in_X7 cd_X7_find) rfl eX7_find rfl ⟨rfl, rfl⟩ ⟨Nat.le_of_ble_eq_true rfl, Nat.le_of_ble_eq_true rfl⟩ rfl rfl rfl [0] rfl rfl rfl (Nat.le_of_ble_eq_true rfl) (tdec DX7_format 2 rfl) rfl ?_
  cases q2 with
  | none =>
    refine g_st (st' := [.null]) rfl ?_
    refine g_astoreN_n (L' := [(3, .null), (0, .ref nm_0), (1, .int p1), (2, .int p2)]) C (tdec DX7_format 3 rfl) rfl (by decide) rfl rfl ?_
    refine g_aloadN_n (z := 0) C (tdec DX7_format 4 rfl) rfl rfl rfl ?_
    refine g_ifnullN (pt := 22) C (tdec DX7_format 5 rfl) (by decide) ?_
    have hr9 := o_some hF
    subst hr9
    exact g_throw (cls := xIA) C htab hX hZ hfl (by decide) (by decide) (gMem xl_X7_55) (gMem xn_xIA) (gIn xg_X7_57) xb_X7_57 xo_X7_57 rfl rfl (tdec DX7_format 12 rfl) (tdec DX7_format 13 rfl) (tdec DX7_format 14 rfl) (tdec DX7_format 15 rfl) rfl rfl rfl (by decide) (by decide) (by decide) (by decide)
  | some k25 =>
    cases k25 with
    | zero =>
      refine g_st (st' := [.ref ve_0]) rfl ?_
      refine g_astore_n (L' := [(3, .ref ve_0), (0, .ref nm_0), (1, .int p1), (2, .int p2)]) C (tdec DX7_format 3 rfl) rfl (by decide) rfl rfl ?_
      refine g_aload_n (z := 0) C (tdec DX7_format 4 rfl) rfl rfl rfl ?_
      refine g_ifnullR C (tdec DX7_format 5 rfl) rfl ?_
      refine g_iload_n (z := 3) C (tdec DX7_format 6 rfl) rfl rfl rfl ?_
      refine g_iconst (v := 4) C (tdec DX7_format 7 rfl) (by decide) rfl ?_
      refine g_icmp_lt (pt := 22) C (tdec DX7_format 8 rfl) (by decide) rfl (fun h3 => ?_) (fun h3 => ?_)
      · have hF := o_ifp hF h3
        have hr9 := o_some hF
        subst hr9
        exact g_throw (cls := xIA) C htab hX hZ hfl (by decide) (by decide) (gMem xl_X7_55) (gMem xn_xIA) (gIn xg_X7_57) xb_X7_57 xo_X7_57 rfl rfl (tdec DX7_format 12 rfl) (tdec DX7_format 13 rfl) (tdec DX7_format 14 rfl) (tdec DX7_format 15 rfl) rfl rfl rfl (by decide) (by decide) (by decide) (by decide)
      · have hF := o_ifn hF h3
        refine g_iload_n (z := 3) C (tdec DX7_format 9 rfl) rfl rfl rfl ?_
        refine g_sipush (v := 600) C (tdec DX7_format 10 rfl) (by decide) rfl ?_
        refine g_icmp_le (pt := 30) C (tdec DX7_format 11 rfl) (by decide) rfl (fun h4 => ?_) (fun h4 => ?_)
        · have hF := o_ifp hF h4
          refine g_aload_n (z := 0) C (tdec DX7_format 16 rfl) rfl rfl rfl ?_
          refine g_iload_n (z := 3) C (tdec DX7_format 17 rfl) rfl rfl rfl ?_
          obtain ⟨s5, y6, hF⟩ := o_bind hF
          refine g_callVvMS (q0 := 4) (W' := wTV nm_0 sb_0 d_0 ve_0 vo_0 re_0 ro_0 nm0 ++ (wSB cB sb_0 sb_1 sb0 ++ (wSD d_0 sb_0 d0 ++ (wV cI cJ ve_0 ve_1 ve_2 ve_3 ve_4 ve_5 ve_6 ve_7 ve_8 ve_9 ve_10 ve_11 ve_12 ve_13 ve_14 ve_15 ve_16 ve_17 ve_18 ve_19 s5 ++ (wV cI cJ vo_0 vo_1 vo_2 vo_3 vo_4 vo_5 vo_6 vo_7 vo_8 vo_9 vo_10 vo_11 vo_12 vo_13 vo_14 vo_15 vo_16 vo_17 vo_18 vo_19 vo0 ++ (wRC re_0 ve_0 sb_0 re0 ++ (wRC ro_0 vo_0 sb_0 ro0))))))) (S := [wTV nm_0 sb_0 d_0 ve_0 vo_0 re_0 ro_0 nm0, wSB cB sb_0 sb_1 sb0, wSD d_0 sb_0 d0, wV cI cJ ve_0 ve_1 ve_2 ve_3 ve_4 ve_5 ve_6 ve_7 ve_8 ve_9 ve_10 ve_11 ve_12 ve_13 ve_14 ve_15 ve_16 ve_17 ve_18 ve_19 ve0, wV cI cJ vo_0 vo_1 vo_2 vo_3 vo_4 vo_5 vo_6 vo_7 vo_8 vo_9 vo_10 vo_11 vo_12 vo_13 vo_14 vo_15 vo_16 vo_17 vo_18 vo_19 vo0, wRC re_0 ve_0 sb_0 re0, wRC ro_0 vo_0 sb_0 ro0]) (S0 := [wV cI cJ ve_0 ve_1 ve_2 ve_3 ve_4 ve_5 ve_6 ve_7 ve_8 ve_9 ve_10 ve_11 ve_12 ve_13 ve_14 ve_15 ve_16 ve_17 ve_18 ve_19 ve0]) (S1 := [wV cI cJ ve_0 ve_1 ve_2 ve_3 ve_4 ve_5 ve_6 ve_7 ve_8 ve_9 ve_10 ve_11 ve_12 ve_13 ve_14 ve_15 ve_16 ve_17 ve_18 ve_19 s5]) (S' := [wTV nm_0 sb_0 d_0 ve_0 vo_0 re_0 ro_0 nm0, wSB cB sb_0 sb_1 sb0, wSD d_0 sb_0 d0, wV cI cJ ve_0 ve_1 ve_2 ve_3 ve_4 ve_5 ve_6 ve_7 ve_8 ve_9 ve_10 ve_11 ve_12 ve_13 ve_14 ve_15 ve_16 ve_17 ve_18 ve_19 s5, wV cI cJ vo_0 vo_1 vo_2 vo_3 vo_4 vo_5 vo_6 vo_7 vo_8 vo_9 vo_10 vo_11 vo_12 vo_13 vo_14 vo_15 vo_16 vo_17 vo_18 vo_19 vo0, wRC re_0 ve_0 sb_0 re0, wRC ro_0 vo_0 sb_0 ro0]) C (c_X6_startAnew l D cB cI cJ cZ ve_0 ve_1 ve_2 ve_3 ve_4 ve_5 ve_6 ve_7 ve_8 ve_9 ve_10 ve_11 ve_12 ve_13 ve_14 ve_15 ve_16 ve_17 ve_18 ve_19 y6) rfl rfl (gIV ml_X7_58 im_X6_startAnew sl_X6_startAnew in_X6 cd_X6_startAnew) rfl eX6_startAnew rfl ⟨rfl, rfl⟩ ⟨Nat.le_of_ble_eq_true rfl, Nat.le_of_ble_eq_true rfl⟩ rfl rfl rfl [3] rfl rfl rfl rfl (gA_cons aV gA_nil) rfl rfl (Nat.le_of_ble_eq_true rfl) (tdec DX7_format 18 rfl) rfl ?_
          refine g_aload_n (z := 1) C (tdec DX7_format 19 rfl) rfl rfl rfl ?_
          refine g_iload_n (z := 2) C (tdec DX7_format 20 rfl) rfl rfl rfl ?_
          obtain ⟨q8, y7, hF⟩ := o_bind hF
          refine g_callVqRS (q0 := 0) (S := [wTV nm_0 sb_0 d_0 ve_0 vo_0 re_0 ro_0 nm0, wSB cB sb_0 sb_1 sb0, wSD d_0 sb_0 d0, wV cI cJ ve_0 ve_1 ve_2 ve_3 ve_4 ve_5 ve_6 ve_7 ve_8 ve_9 ve_10 ve_11 ve_12 ve_13 ve_14 ve_15 ve_16 ve_17 ve_18 ve_19 s5, wV cI cJ vo_0 vo_1 vo_2 vo_3 vo_4 vo_5 vo_6 vo_7 vo_8 vo_9 vo_10 vo_11 vo_12 vo_13 vo_14 vo_15 vo_16 vo_17 vo_18 vo_19 vo0, wRC re_0 ve_0 sb_0 re0, wRC ro_0 vo_0 sb_0 ro0]) (S0 := [wTV nm_0 sb_0 d_0 ve_0 vo_0 re_0 ro_0 nm0]) C (c_X7_receivingOf l D cB cI cJ cZ nm_0 sb_0 d_0 ve_0 vo_0 re_0 ro_0 y7) rfl rfl (gIV ml_X7_62 im_X7_receivingOf sl_X7_receivingOf in_X7 cd_X7_receivingOf) rfl eX7_receivingOf rfl ⟨rfl, rfl⟩ ⟨Nat.le_of_ble_eq_true rfl, Nat.le_of_ble_eq_true rfl⟩ rfl rfl rfl [0] rfl rfl rfl (Nat.le_of_ble_eq_true rfl) (tdec DX7_format 21 rfl) rfl ?_
          cases q8 with
          | none => exact absurd hF (by simp)
          | some k13 =>
            cases k13 with
            | zero =>
              refine g_st (st' := [.ref re_0]) rfl ?_
              obtain ⟨s9, y10, hF⟩ := o_bind hF
              refine g_callVvMS (q0 := 44) (W' := wTV nm_0 sb_0 d_0 ve_0 vo_0 re_0 ro_0 nm0 ++ (wSB cB sb_0 sb_1 sb0 ++ (wSD d_0 sb_0 d0 ++ (wV cI cJ ve_0 ve_1 ve_2 ve_3 ve_4 ve_5 ve_6 ve_7 ve_8 ve_9 ve_10 ve_11 ve_12 ve_13 ve_14 ve_15 ve_16 ve_17 ve_18 ve_19 s5 ++ (wV cI cJ vo_0 vo_1 vo_2 vo_3 vo_4 vo_5 vo_6 vo_7 vo_8 vo_9 vo_10 vo_11 vo_12 vo_13 vo_14 vo_15 vo_16 vo_17 vo_18 vo_19 vo0 ++ (wRC re_0 ve_0 sb_0 s9 ++ (wRC ro_0 vo_0 sb_0 ro0))))))) (S := [wTV nm_0 sb_0 d_0 ve_0 vo_0 re_0 ro_0 nm0, wSB cB sb_0 sb_1 sb0, wSD d_0 sb_0 d0, wV cI cJ ve_0 ve_1 ve_2 ve_3 ve_4 ve_5 ve_6 ve_7 ve_8 ve_9 ve_10 ve_11 ve_12 ve_13 ve_14 ve_15 ve_16 ve_17 ve_18 ve_19 s5, wV cI cJ vo_0 vo_1 vo_2 vo_3 vo_4 vo_5 vo_6 vo_7 vo_8 vo_9 vo_10 vo_11 vo_12 vo_13 vo_14 vo_15 vo_16 vo_17 vo_18 vo_19 vo0, wRC re_0 ve_0 sb_0 re0, wRC ro_0 vo_0 sb_0 ro0]) (S0 := [wRC re_0 ve_0 sb_0 re0]) (S1 := [wRC re_0 ve_0 sb_0 s9]) (S' := [wTV nm_0 sb_0 d_0 ve_0 vo_0 re_0 ro_0 nm0, wSB cB sb_0 sb_1 sb0, wSD d_0 sb_0 d0, wV cI cJ ve_0 ve_1 ve_2 ve_3 ve_4 ve_5 ve_6 ve_7 ve_8 ve_9 ve_10 ve_11 ve_12 ve_13 ve_14 ve_15 ve_16 ve_17 ve_18 ve_19 s5, wV cI cJ vo_0 vo_1 vo_2 vo_3 vo_4 vo_5 vo_6 vo_7 vo_8 vo_9 vo_10 vo_11 vo_12 vo_13 vo_14 vo_15 vo_16 vo_17 vo_18 vo_19 vo0, wRC re_0 ve_0 sb_0 s9, wRC ro_0 vo_0 sb_0 ro0]) C (c_X3_forget l D cB cI cJ cZ re_0 ve_0 sb_0 y10) rfl rfl (gIV ml_X7_66 im_X3_forget sl_X3_forget in_X3 cd_X3_forget) rfl eX3_forget rfl ⟨rfl, rfl⟩ ⟨Nat.le_of_ble_eq_true rfl, Nat.le_of_ble_eq_true rfl⟩ rfl rfl rfl [5] rfl rfl rfl rfl (gA_cons aRC gA_nil) rfl rfl (Nat.le_of_ble_eq_true rfl) (tdec DX7_format 22 rfl) rfl ?_
              have hr9 := o_some hF
              subst hr9
              exact g_vretX (s5, vo0, s9, ro0) C rfl rfl (tdec DX7_format 23 rfl)
            | succ k13 =>
              refine g_st (st' := [.ref ro_0]) rfl ?_
              obtain ⟨s11, y12, hF⟩ := o_bind hF
              refine g_callVvMS (q0 := 45) (W' := wTV nm_0 sb_0 d_0 ve_0 vo_0 re_0 ro_0 nm0 ++ (wSB cB sb_0 sb_1 sb0 ++ (wSD d_0 sb_0 d0 ++ (wV cI cJ ve_0 ve_1 ve_2 ve_3 ve_4 ve_5 ve_6 ve_7 ve_8 ve_9 ve_10 ve_11 ve_12 ve_13 ve_14 ve_15 ve_16 ve_17 ve_18 ve_19 s5 ++ (wV cI cJ vo_0 vo_1 vo_2 vo_3 vo_4 vo_5 vo_6 vo_7 vo_8 vo_9 vo_10 vo_11 vo_12 vo_13 vo_14 vo_15 vo_16 vo_17 vo_18 vo_19 vo0 ++ (wRC re_0 ve_0 sb_0 re0 ++ (wRC ro_0 vo_0 sb_0 s11))))))) (S := [wTV nm_0 sb_0 d_0 ve_0 vo_0 re_0 ro_0 nm0, wSB cB sb_0 sb_1 sb0, wSD d_0 sb_0 d0, wV cI cJ ve_0 ve_1 ve_2 ve_3 ve_4 ve_5 ve_6 ve_7 ve_8 ve_9 ve_10 ve_11 ve_12 ve_13 ve_14 ve_15 ve_16 ve_17 ve_18 ve_19 s5, wV cI cJ vo_0 vo_1 vo_2 vo_3 vo_4 vo_5 vo_6 vo_7 vo_8 vo_9 vo_10 vo_11 vo_12 vo_13 vo_14 vo_15 vo_16 vo_17 vo_18 vo_19 vo0, wRC re_0 ve_0 sb_0 re0, wRC ro_0 vo_0 sb_0 ro0]) (S0 := [wRC ro_0 vo_0 sb_0 ro0]) (S1 := [wRC ro_0 vo_0 sb_0 s11]) (S' := [wTV nm_0 sb_0 d_0 ve_0 vo_0 re_0 ro_0 nm0, wSB cB sb_0 sb_1 sb0, wSD d_0 sb_0 d0, wV cI cJ ve_0 ve_1 ve_2 ve_3 ve_4 ve_5 ve_6 ve_7 ve_8 ve_9 ve_10 ve_11 ve_12 ve_13 ve_14 ve_15 ve_16 ve_17 ve_18 ve_19 s5, wV cI cJ vo_0 vo_1 vo_2 vo_3 vo_4 vo_5 vo_6 vo_7 vo_8 vo_9 vo_10 vo_11 vo_12 vo_13 vo_14 vo_15 vo_16 vo_17 vo_18 vo_19 vo0, wRC re_0 ve_0 sb_0 re0, wRC ro_0 vo_0 sb_0 s11]) C (c_X3_forget l D cB cI cJ cZ ro_0 vo_0 sb_0 y12) rfl rfl (gIV ml_X7_66 im_X3_forget sl_X3_forget in_X3 cd_X3_forget) rfl eX3_forget rfl ⟨rfl, rfl⟩ ⟨Nat.le_of_ble_eq_true rfl, Nat.le_of_ble_eq_true rfl⟩ rfl rfl rfl [6] rfl rfl rfl rfl (gA_cons aRC gA_nil) rfl rfl (Nat.le_of_ble_eq_true rfl) (tdec DX7_format 22 rfl) rfl ?_
              have hr9 := o_some hF
              subst hr9
              exact g_vretX (s5, vo0, re0, s11) C rfl rfl (tdec DX7_format 23 rfl)
        · have hF := o_ifn hF h4
          have hr9 := o_some hF
          subst hr9
          exact g_throw (cls := xIA) C htab hX hZ hfl (by decide) (by decide) (gMem xl_X7_55) (gMem xn_xIA) (gIn xg_X7_57) xb_X7_57 xo_X7_57 rfl rfl (tdec DX7_format 12 rfl) (tdec DX7_format 13 rfl) (tdec DX7_format 14 rfl) (tdec DX7_format 15 rfl) rfl rfl rfl (by decide) (by decide) (by decide) (by decide)
    | succ k25 =>
      refine g_st (st' := [.ref vo_0]) rfl ?_
      refine g_astore_n (L' := [(3, .ref vo_0), (0, .ref nm_0), (1, .int p1), (2, .int p2)]) C (tdec DX7_format 3 rfl) rfl (by decide) rfl rfl ?_
      refine g_aload_n (z := 0) C (tdec DX7_format 4 rfl) rfl rfl rfl ?_
      refine g_ifnullR C (tdec DX7_format 5 rfl) rfl ?_
      refine g_iload_n (z := 3) C (tdec DX7_format 6 rfl) rfl rfl rfl ?_
      refine g_iconst (v := 4) C (tdec DX7_format 7 rfl) (by decide) rfl ?_
      refine g_icmp_lt (pt := 22) C (tdec DX7_format 8 rfl) (by decide) rfl (fun h14 => ?_) (fun h14 => ?_)
      · have hF := o_ifp hF h14
        have hr9 := o_some hF
        subst hr9
        exact g_throw (cls := xIA) C htab hX hZ hfl (by decide) (by decide) (gMem xl_X7_55) (gMem xn_xIA) (gIn xg_X7_57) xb_X7_57 xo_X7_57 rfl rfl (tdec DX7_format 12 rfl) (tdec DX7_format 13 rfl) (tdec DX7_format 14 rfl) (tdec DX7_format 15 rfl) rfl rfl rfl (by decide) (by decide) (by decide) (by decide)
      · have hF := o_ifn hF h14
        refine g_iload_n (z := 3) C (tdec DX7_format 9 rfl) rfl rfl rfl ?_
        refine g_sipush (v := 600) C (tdec DX7_format 10 rfl) (by decide) rfl ?_
        refine g_icmp_le (pt := 30) C (tdec DX7_format 11 rfl) (by decide) rfl (fun h15 => ?_) (fun h15 => ?_)
        · have hF := o_ifp hF h15
          refine g_aload_n (z := 0) C (tdec DX7_format 16 rfl) rfl rfl rfl ?_
          refine g_iload_n (z := 3) C (tdec DX7_format 17 rfl) rfl rfl rfl ?_
          obtain ⟨s16, y17, hF⟩ := o_bind hF
          refine g_callVvMS (q0 := 24) (W' := wTV nm_0 sb_0 d_0 ve_0 vo_0 re_0 ro_0 nm0 ++ (wSB cB sb_0 sb_1 sb0 ++ (wSD d_0 sb_0 d0 ++ (wV cI cJ ve_0 ve_1 ve_2 ve_3 ve_4 ve_5 ve_6 ve_7 ve_8 ve_9 ve_10 ve_11 ve_12 ve_13 ve_14 ve_15 ve_16 ve_17 ve_18 ve_19 ve0 ++ (wV cI cJ vo_0 vo_1 vo_2 vo_3 vo_4 vo_5 vo_6 vo_7 vo_8 vo_9 vo_10 vo_11 vo_12 vo_13 vo_14 vo_15 vo_16 vo_17 vo_18 vo_19 s16 ++ (wRC re_0 ve_0 sb_0 re0 ++ (wRC ro_0 vo_0 sb_0 ro0))))))) (S := [wTV nm_0 sb_0 d_0 ve_0 vo_0 re_0 ro_0 nm0, wSB cB sb_0 sb_1 sb0, wSD d_0 sb_0 d0, wV cI cJ ve_0 ve_1 ve_2 ve_3 ve_4 ve_5 ve_6 ve_7 ve_8 ve_9 ve_10 ve_11 ve_12 ve_13 ve_14 ve_15 ve_16 ve_17 ve_18 ve_19 ve0, wV cI cJ vo_0 vo_1 vo_2 vo_3 vo_4 vo_5 vo_6 vo_7 vo_8 vo_9 vo_10 vo_11 vo_12 vo_13 vo_14 vo_15 vo_16 vo_17 vo_18 vo_19 vo0, wRC re_0 ve_0 sb_0 re0, wRC ro_0 vo_0 sb_0 ro0]) (S0 := [wV cI cJ vo_0 vo_1 vo_2 vo_3 vo_4 vo_5 vo_6 vo_7 vo_8 vo_9 vo_10 vo_11 vo_12 vo_13 vo_14 vo_15 vo_16 vo_17 vo_18 vo_19 vo0]) (S1 := [wV cI cJ vo_0 vo_1 vo_2 vo_3 vo_4 vo_5 vo_6 vo_7 vo_8 vo_9 vo_10 vo_11 vo_12 vo_13 vo_14 vo_15 vo_16 vo_17 vo_18 vo_19 s16]) (S' := [wTV nm_0 sb_0 d_0 ve_0 vo_0 re_0 ro_0 nm0, wSB cB sb_0 sb_1 sb0, wSD d_0 sb_0 d0, wV cI cJ ve_0 ve_1 ve_2 ve_3 ve_4 ve_5 ve_6 ve_7 ve_8 ve_9 ve_10 ve_11 ve_12 ve_13 ve_14 ve_15 ve_16 ve_17 ve_18 ve_19 ve0, wV cI cJ vo_0 vo_1 vo_2 vo_3 vo_4 vo_5 vo_6 vo_7 vo_8 vo_9 vo_10 vo_11 vo_12 vo_13 vo_14 vo_15 vo_16 vo_17 vo_18 vo_19 s16, wRC re_0 ve_0 sb_0 re0, wRC ro_0 vo_0 sb_0 ro0]) C (c_X6_startAnew l D cB cI cJ cZ vo_0 vo_1 vo_2 vo_3 vo_4 vo_5 vo_6 vo_7 vo_8 vo_9 vo_10 vo_11 vo_12 vo_13 vo_14 vo_15 vo_16 vo_17 vo_18 vo_19 y17) rfl rfl (gIV ml_X7_58 im_X6_startAnew sl_X6_startAnew in_X6 cd_X6_startAnew) rfl eX6_startAnew rfl ⟨rfl, rfl⟩ ⟨Nat.le_of_ble_eq_true rfl, Nat.le_of_ble_eq_true rfl⟩ rfl rfl rfl [4] rfl rfl rfl rfl (gA_cons aV gA_nil) rfl rfl (Nat.le_of_ble_eq_true rfl) (tdec DX7_format 18 rfl) rfl ?_
          refine g_aload_n (z := 1) C (tdec DX7_format 19 rfl) rfl rfl rfl ?_
          refine g_iload_n (z := 2) C (tdec DX7_format 20 rfl) rfl rfl rfl ?_
          obtain ⟨q19, y18, hF⟩ := o_bind hF
          refine g_callVqRS (q0 := 0) (S := [wTV nm_0 sb_0 d_0 ve_0 vo_0 re_0 ro_0 nm0, wSB cB sb_0 sb_1 sb0, wSD d_0 sb_0 d0, wV cI cJ ve_0 ve_1 ve_2 ve_3 ve_4 ve_5 ve_6 ve_7 ve_8 ve_9 ve_10 ve_11 ve_12 ve_13 ve_14 ve_15 ve_16 ve_17 ve_18 ve_19 ve0, wV cI cJ vo_0 vo_1 vo_2 vo_3 vo_4 vo_5 vo_6 vo_7 vo_8 vo_9 vo_10 vo_11 vo_12 vo_13 vo_14 vo_15 vo_16 vo_17 vo_18 vo_19 s16, wRC re_0 ve_0 sb_0 re0, wRC ro_0 vo_0 sb_0 ro0]) (S0 := [wTV nm_0 sb_0 d_0 ve_0 vo_0 re_0 ro_0 nm0]) C (c_X7_receivingOf l D cB cI cJ cZ nm_0 sb_0 d_0 ve_0 vo_0 re_0 ro_0 y18) rfl rfl (gIV ml_X7_62 im_X7_receivingOf sl_X7_receivingOf in_X7 cd_X7_receivingOf) rfl eX7_receivingOf rfl ⟨rfl, rfl⟩ ⟨Nat.le_of_ble_eq_true rfl, Nat.le_of_ble_eq_true rfl⟩ rfl rfl rfl [0] rfl rfl rfl (Nat.le_of_ble_eq_true rfl) (tdec DX7_format 21 rfl) rfl ?_
          cases q19 with
          | none => exact absurd hF (by simp)
          | some k24 =>
            cases k24 with
            | zero =>
              refine g_st (st' := [.ref re_0]) rfl ?_
              obtain ⟨s20, y21, hF⟩ := o_bind hF
              refine g_callVvMS (q0 := 44) (W' := wTV nm_0 sb_0 d_0 ve_0 vo_0 re_0 ro_0 nm0 ++ (wSB cB sb_0 sb_1 sb0 ++ (wSD d_0 sb_0 d0 ++ (wV cI cJ ve_0 ve_1 ve_2 ve_3 ve_4 ve_5 ve_6 ve_7 ve_8 ve_9 ve_10 ve_11 ve_12 ve_13 ve_14 ve_15 ve_16 ve_17 ve_18 ve_19 ve0 ++ (wV cI cJ vo_0 vo_1 vo_2 vo_3 vo_4 vo_5 vo_6 vo_7 vo_8 vo_9 vo_10 vo_11 vo_12 vo_13 vo_14 vo_15 vo_16 vo_17 vo_18 vo_19 s16 ++ (wRC re_0 ve_0 sb_0 s20 ++ (wRC ro_0 vo_0 sb_0 ro0))))))) (S := [wTV nm_0 sb_0 d_0 ve_0 vo_0 re_0 ro_0 nm0, wSB cB sb_0 sb_1 sb0, wSD d_0 sb_0 d0, wV cI cJ ve_0 ve_1 ve_2 ve_3 ve_4 ve_5 ve_6 ve_7 ve_8 ve_9 ve_10 ve_11 ve_12 ve_13 ve_14 ve_15 ve_16 ve_17 ve_18 ve_19 ve0, wV cI cJ vo_0 vo_1 vo_2 vo_3 vo_4 vo_5 vo_6 vo_7 vo_8 vo_9 vo_10 vo_11 vo_12 vo_13 vo_14 vo_15 vo_16 vo_17 vo_18 vo_19 s16, wRC re_0 ve_0 sb_0 re0, wRC ro_0 vo_0 sb_0 ro0]) (S0 := [wRC re_0 ve_0 sb_0 re0]) (S1 := [wRC re_0 ve_0 sb_0 s20]) (S' := [wTV nm_0 sb_0 d_0 ve_0 vo_0 re_0 ro_0 nm0, wSB cB sb_0 sb_1 sb0, wSD d_0 sb_0 d0, wV cI cJ ve_0 ve_1 ve_2 ve_3 ve_4 ve_5 ve_6 ve_7 ve_8 ve_9 ve_10 ve_11 ve_12 ve_13 ve_14 ve_15 ve_16 ve_17 ve_18 ve_19 ve0, wV cI cJ vo_0 vo_1 vo_2 vo_3 vo_4 vo_5 vo_6 vo_7 vo_8 vo_9 vo_10 vo_11 vo_12 vo_13 vo_14 vo_15 vo_16 vo_17 vo_18 vo_19 s16, wRC re_0 ve_0 sb_0 s20, wRC ro_0 vo_0 sb_0 ro0]) C (c_X3_forget l D cB cI cJ cZ re_0 ve_0 sb_0 y21) rfl rfl (gIV ml_X7_66 im_X3_forget sl_X3_forget in_X3 cd_X3_forget) rfl eX3_forget rfl ⟨rfl, rfl⟩ ⟨Nat.le_of_ble_eq_true rfl, Nat.le_of_ble_eq_true rfl⟩ rfl rfl rfl [5] rfl rfl rfl rfl (gA_cons aRC gA_nil) rfl rfl (Nat.le_of_ble_eq_true rfl) (tdec DX7_format 22 rfl) rfl ?_
              have hr9 := o_some hF
              subst hr9
              exact g_vretX (ve0, s16, s20, ro0) C rfl rfl (tdec DX7_format 23 rfl)
            | succ k24 =>
              refine g_st (st' := [.ref ro_0]) rfl ?_
              obtain ⟨s22, y23, hF⟩ := o_bind hF
              refine g_callVvMS (q0 := 45) (W' := wTV nm_0 sb_0 d_0 ve_0 vo_0 re_0 ro_0 nm0 ++ (wSB cB sb_0 sb_1 sb0 ++ (wSD d_0 sb_0 d0 ++ (wV cI cJ ve_0 ve_1 ve_2 ve_3 ve_4 ve_5 ve_6 ve_7 ve_8 ve_9 ve_10 ve_11 ve_12 ve_13 ve_14 ve_15 ve_16 ve_17 ve_18 ve_19 ve0 ++ (wV cI cJ vo_0 vo_1 vo_2 vo_3 vo_4 vo_5 vo_6 vo_7 vo_8 vo_9 vo_10 vo_11 vo_12 vo_13 vo_14 vo_15 vo_16 vo_17 vo_18 vo_19 s16 ++ (wRC re_0 ve_0 sb_0 re0 ++ (wRC ro_0 vo_0 sb_0 s22))))))) (S := [wTV nm_0 sb_0 d_0 ve_0 vo_0 re_0 ro_0 nm0, wSB cB sb_0 sb_1 sb0, wSD d_0 sb_0 d0, wV cI cJ ve_0 ve_1 ve_2 ve_3 ve_4 ve_5 ve_6 ve_7 ve_8 ve_9 ve_10 ve_11 ve_12 ve_13 ve_14 ve_15 ve_16 ve_17 ve_18 ve_19 ve0, wV cI cJ vo_0 vo_1 vo_2 vo_3 vo_4 vo_5 vo_6 vo_7 vo_8 vo_9 vo_10 vo_11 vo_12 vo_13 vo_14 vo_15 vo_16 vo_17 vo_18 vo_19 s16, wRC re_0 ve_0 sb_0 re0, wRC ro_0 vo_0 sb_0 ro0]) (S0 := [wRC ro_0 vo_0 sb_0 ro0]) (S1 := [wRC ro_0 vo_0 sb_0 s22]) (S' := [wTV nm_0 sb_0 d_0 ve_0 vo_0 re_0 ro_0 nm0, wSB cB sb_0 sb_1 sb0, wSD d_0 sb_0 d0, wV cI cJ ve_0 ve_1 ve_2 ve_3 ve_4 ve_5 ve_6 ve_7 ve_8 ve_9 ve_10 ve_11 ve_12 ve_13 ve_14 ve_15 ve_16 ve_17 ve_18 ve_19 ve0, wV cI cJ vo_0 vo_1 vo_2 vo_3 vo_4 vo_5 vo_6 vo_7 vo_8 vo_9 vo_10 vo_11 vo_12 vo_13 vo_14 vo_15 vo_16 vo_17 vo_18 vo_19 s16, wRC re_0 ve_0 sb_0 re0, wRC ro_0 vo_0 sb_0 s22]) C (c_X3_forget l D cB cI cJ cZ ro_0 vo_0 sb_0 y23) rfl rfl (gIV ml_X7_66 im_X3_forget sl_X3_forget in_X3 cd_X3_forget) rfl eX3_forget rfl ⟨rfl, rfl⟩ ⟨Nat.le_of_ble_eq_true rfl, Nat.le_of_ble_eq_true rfl⟩ rfl rfl rfl [6] rfl rfl rfl rfl (gA_cons aRC gA_nil) rfl rfl (Nat.le_of_ble_eq_true rfl) (tdec DX7_format 22 rfl) rfl ?_
              have hr9 := o_some hF
              subst hr9
              exact g_vretX (ve0, s16, re0, s22) C rfl rfl (tdec DX7_format 23 rfl)
        · have hF := o_ifn hF h15
          have hr9 := o_some hF
          subst hr9
          exact g_throw (cls := xIA) C htab hX hZ hfl (by decide) (by decide) (gMem xl_X7_55) (gMem xn_xIA) (gIn xg_X7_57) xb_X7_57 xo_X7_57 rfl rfl (tdec DX7_format 12 rfl) (tdec DX7_format 13 rfl) (tdec DX7_format 14 rfl) (tdec DX7_format 15 rfl) rfl rfl rfl (by decide) (by decide) (by decide) (by decide)
def FX7_write (nm0 : Int64) (sb0 : SB) (d0 : SD) (ve0 : VS) (vo0 : VS) (re0 : RC) (ro0 : RC) (p1 : Int32) (p2 : Int32) (p3 : Int64) : Option (Except String (Int32 × (VS × VS))) :=
  (FX7_find nm0 p1).bind fun q2 =>
  (match q2 with
  | none =>
    some (.error xIA)
  | some 0 =>
    (FX7_isPlace p2).bind fun r3 =>
    if r3 = 0 then
      some (.error xIA)
    else
      (FX6_isBusy ve0).bind fun r6 =>
      if r6 = 0 then
        (FX6_writePlace ve0 4800 p2 p3).bind fun (r9, s10) =>
        (FX6_settle s10).bind fun s12 =>
        if r9 = 0 then
          some (.ok (5, (s12, vo0)))
        else
          some (.ok (0, (s12, vo0)))
      else
        some (.ok (6, (ve0, vo0)))
  | some (_ + 1) =>
    (FX7_isPlace p2).bind fun r15 =>
    if r15 = 0 then
      some (.error xIA)
    else
      (FX6_isBusy vo0).bind fun r18 =>
      if r18 = 0 then
        (FX6_writePlace vo0 4800 p2 p3).bind fun (r21, s22) =>
        (FX6_settle s22).bind fun s24 =>
        if r21 = 0 then
          some (.ok (5, (ve0, s24)))
        else
          some (.ok (0, (ve0, s24)))
      else
        some (.ok (6, (ve0, vo0))))
def rX7_write : Room := { frames := 6, cells := 1, slots := 6, locals := 98 }
set_option maxHeartbeats 4000000 in
set_option maxRecDepth 100000 in
theorem c_X7_write (l : Launch) (hfl : l.stackTraces = false) (D : va_G) (cB cI cJ cZ : ClassId) (nm_0 sb_0 sb_1 d_0 ve_0 ve_1 ve_2 ve_3 ve_4 ve_5 ve_6 ve_7 ve_8 ve_9 ve_10 ve_11 ve_12 ve_13 ve_14 ve_15 ve_16 ve_17 ve_18 ve_19 vo_0 vo_1 vo_2 vo_3 vo_4 vo_5 vo_6 vo_7 vo_8 vo_9 vo_10 vo_11 vo_12 vo_13 vo_14 vo_15 vo_16 vo_17 vo_18 vo_19 re_0 ro_0 : Nat) {nm0 : Int64} {sb0 : SB} {d0 : SD} {ve0 : VS} {vo0 : VS} {re0 : RC} {ro0 : RC} {p1 : Int32} {p2 : Int32} {p3 : Int64} {res : Except String (Int32 × (VS × VS))} (hF : FX7_write nm0 sb0 d0 ve0 vo0 re0 ro0 p1 p2 p3 = some res) : gXi l yX7_write wsX7_write rX7_write D (gT cB cI cJ cZ) [.ref nm_0, .int p1, .int p2, .long p3] (wTV nm_0 sb_0 d_0 ve_0 vo_0 re_0 ro_0 nm0 ++ (wSB cB sb_0 sb_1 sb0 ++ (wSD d_0 sb_0 d0 ++ (wV cI cJ ve_0 ve_1 ve_2 ve_3 ve_4 ve_5 ve_6 ve_7 ve_8 ve_9 ve_10 ve_11 ve_12 ve_13 ve_14 ve_15 ve_16 ve_17 ve_18 ve_19 ve0 ++ (wV cI cJ vo_0 vo_1 vo_2 vo_3 vo_4 vo_5 vo_6 vo_7 vo_8 vo_9 vo_10 vo_11 vo_12 vo_13 vo_14 vo_15 vo_16 vo_17 vo_18 vo_19 vo0 ++ (wRC re_0 ve_0 sb_0 re0 ++ (wRC ro_0 vo_0 sb_0 ro0))))))) res (fun u : (VS × VS) => wTV nm_0 sb_0 d_0 ve_0 vo_0 re_0 ro_0 nm0 ++ (wSB cB sb_0 sb_1 sb0 ++ (wSD d_0 sb_0 d0 ++ (wV cI cJ ve_0 ve_1 ve_2 ve_3 ve_4 ve_5 ve_6 ve_7 ve_8 ve_9 ve_10 ve_11 ve_12 ve_13 ve_14 ve_15 ve_16 ve_17 ve_18 ve_19 u.1 ++ (wV cI cJ vo_0 vo_1 vo_2 vo_3 vo_4 vo_5 vo_6 vo_7 vo_8 vo_9 vo_10 vo_11 vo_12 vo_13 vo_14 vo_15 vo_16 vo_17 vo_18 vo_19 u.2 ++ (wRC re_0 ve_0 sb_0 re0 ++ (wRC ro_0 vo_0 sb_0 ro0))))))) := by
  refine g_enterX (own := RX7) (Qc := (fun sz => gXQi D (wTV nm_0 sb_0 d_0 ve_0 vo_0 re_0 ro_0 nm0 ++ (wSB cB sb_0 sb_1 sb0 ++ (wSD d_0 sb_0 d0 ++ (wV cI cJ ve_0 ve_1 ve_2 ve_3 ve_4 ve_5 ve_6 ve_7 ve_8 ve_9 ve_10 ve_11 ve_12 ve_13 ve_14 ve_15 ve_16 ve_17 ve_18 ve_19 ve0 ++ (wV cI cJ vo_0 vo_1 vo_2 vo_3 vo_4 vo_5 vo_6 vo_7 vo_8 vo_9 vo_10 vo_11 vo_12 vo_13 vo_14 vo_15 vo_16 vo_17 vo_18 vo_19 vo0 ++ (wRC re_0 ve_0 sb_0 re0 ++ (wRC ro_0 vo_0 sb_0 ro0))))))) sz (fun r (u : (VS × VS)) => res = .ok (r, u)) (fun u : (VS × VS) => wTV nm_0 sb_0 d_0 ve_0 vo_0 re_0 ro_0 nm0 ++ (wSB cB sb_0 sb_1 sb0 ++ (wSD d_0 sb_0 d0 ++ (wV cI cJ ve_0 ve_1 ve_2 ve_3 ve_4 ve_5 ve_6 ve_7 ve_8 ve_9 ve_10 ve_11 ve_12 ve_13 ve_14 ve_15 ve_16 ve_17 ve_18 ve_19 u.1 ++ (wV cI cJ vo_0 vo_1 vo_2 vo_3 vo_4 vo_5 vo_6 vo_7 vo_8 vo_9 vo_10 vo_11 vo_12 vo_13 vo_14 vo_15 vo_16 vo_17 vo_18 vo_19 u.2 ++ (wRC re_0 ve_0 sb_0 re0 ++ (wRC ro_0 vo_0 sb_0 ro0))))))))) (XC := (fun sz => gXC D (wTV nm_0 sb_0 d_0 ve_0 vo_0 re_0 ro_0 nm0 ++ (wSB cB sb_0 sb_1 sb0 ++ (wSD d_0 sb_0 d0 ++ (wV cI cJ ve_0 ve_1 ve_2 ve_3 ve_4 ve_5 ve_6 ve_7 ve_8 ve_9 ve_10 ve_11 ve_12 ve_13 ve_14 ve_15 ve_16 ve_17 ve_18 ve_19 ve0 ++ (wV cI cJ vo_0 vo_1 vo_2 vo_3 vo_4 vo_5 vo_6 vo_7 vo_8 vo_9 vo_10 vo_11 vo_12 vo_13 vo_14 vo_15 vo_16 vo_17 vo_18 vo_19 vo0 ++ (wRC re_0 ve_0 sb_0 re0 ++ (wRC ro_0 vo_0 sb_0 ro0))))))) sz (fun E => res = .error E))) rfl (by decide) rfl (Nat.le_of_ble_eq_true rfl) rfl ?_
  intro p e s m args below meth c C htab hX hZ
  unfold FX7_write at hF
  refine g_aload_n (z := 0) C (tdec DX7_write 0 rfl) rfl rfl rfl ?_
  refine g_iload_n (z := 1) C (tdec DX7_write 1 rfl) rfl rfl rfl ?_
  obtain ⟨q2, y1, hF⟩ := o_bind hF
  refine g_callVqRS (q0 := 0) (S := [wTV nm_0 sb_0 d_0 ve_0 vo_0 re_0 ro_0 nm0, wSB cB sb_0 sb_1 sb0, wSD d_0 sb_0 d0, wV cI cJ ve_0 ve_1 ve_2 ve_3 ve_4 ve_5 ve_6 ve_7 ve_8 ve_9 ve_10 ve_11 ve_12 ve_13 ve_14 ve_15 ve_16 ve_17 ve_18 ve_19 ve0, wV cI cJ vo_0 vo_1 vo_2 vo_3 vo_4 vo_5 vo_6 vo_7 vo_8 vo_9 vo_10 vo_11 vo_12 vo_13 vo_14 vo_15 vo_16 vo_17 vo_18 vo_19 vo0, wRC re_0 ve_0 sb_0 re0, wRC ro_0 vo_0 sb_0 ro0]) (S0 := [wTV nm_0 sb_0 d_0 ve_0 vo_0 re_0 ro_0 nm0]) C (c_X7_find l D cB cI cJ cZ nm_0 sb_0 d_0 ve_0 vo_0 re_0 ro_0 y1) rfl rfl (gIV ml_X7_51 im_X7_find sl_X7_find in_X7 cd_X7_find) rfl eX7_find rfl ⟨rfl, rfl⟩ ⟨Nat.le_of_ble_eq_true rfl, Nat.le_of_ble_eq_true rfl⟩ rfl rfl rfl [0] rfl rfl rfl (Nat.le_of_ble_eq_true rfl) (tdec DX7_write 2 rfl) rfl ?_
  cases q2 with
  | none =>
    refine g_st (st' := [.null]) rfl ?_
    refine g_astoreN (L' := [(5, .null), (0, .ref nm_0), (1, .int p1), (2, .int p2), (3, .long p3)]) C (tdec DX7_write 3 rfl) (by decide) rfl rfl ?_
    refine g_aloadN (z := 0) C (tdec DX7_write 4 rfl) rfl rfl ?_
    refine g_ifnullN (pt := 19) C (tdec DX7_write 5 rfl) (by decide) ?_
    have hr9 := o_some hF
    subst hr9
    exact g_throw (cls := xIA) C htab hX hZ hfl (by decide) (by decide) (gMem xl_X7_55) (gMem xn_xIA) (gIn xg_X7_57) xb_X7_57 xo_X7_57 rfl rfl (tdec DX7_write 9 rfl) (tdec DX7_write 10 rfl) (tdec DX7_write 11 rfl) (tdec DX7_write 12 rfl) rfl rfl rfl (by decide) (by decide) (by decide) (by decide)
  | some k27 =>
    cases k27 with
    | zero =>
      refine g_st (st' := [.ref ve_0]) rfl ?_
      refine g_astore (L' := [(5, .ref ve_0), (0, .ref nm_0), (1, .int p1), (2, .int p2), (3, .long p3)]) C (tdec DX7_write 3 rfl) (by decide) rfl rfl ?_
      refine g_aload (z := 0) C (tdec DX7_write 4 rfl) rfl rfl ?_
      refine g_ifnullR C (tdec DX7_write 5 rfl) rfl ?_
      refine g_iload_n (z := 3) C (tdec DX7_write 6 rfl) rfl rfl rfl ?_
      obtain ⟨r3, y4, hF⟩ := o_bind hF
      refine g_callSiR C (c_X7_isPlace l D cB cI cJ cZ y4) (gIS ml_X7_69 st_X7_isPlace in_X7 cd_X7_isPlace) eX7_isPlace rfl ⟨rfl, rfl⟩ ⟨Nat.le_of_ble_eq_true rfl, Nat.le_of_ble_eq_true rfl⟩ rfl [] rfl rfl rfl (Nat.le_of_ble_eq_true rfl) (tdec DX7_write 7 rfl) rfl ?_
      refine g_if_ne (pt := 27) C (tdec DX7_write 8 rfl) (by decide) rfl (fun h5 => ?_) (fun h5 => ?_)
      · have hF := o_ifn hF h5
        refine g_aload (z := 0) C (tdec DX7_write 13 rfl) rfl rfl ?_
        obtain ⟨r6, y7, hF⟩ := o_bind hF
        refine g_callViRS (q0 := 4) (S := [wTV nm_0 sb_0 d_0 ve_0 vo_0 re_0 ro_0 nm0, wSB cB sb_0 sb_1 sb0, wSD d_0 sb_0 d0, wV cI cJ ve_0 ve_1 ve_2 ve_3 ve_4 ve_5 ve_6 ve_7 ve_8 ve_9 ve_10 ve_11 ve_12 ve_13 ve_14 ve_15 ve_16 ve_17 ve_18 ve_19 ve0, wV cI cJ vo_0 vo_1 vo_2 vo_3 vo_4 vo_5 vo_6 vo_7 vo_8 vo_9 vo_10 vo_11 vo_12 vo_13 vo_14 vo_15 vo_16 vo_17 vo_18 vo_19 vo0, wRC re_0 ve_0 sb_0 re0, wRC ro_0 vo_0 sb_0 ro0]) (S0 := [wV cI cJ ve_0 ve_1 ve_2 ve_3 ve_4 ve_5 ve_6 ve_7 ve_8 ve_9 ve_10 ve_11 ve_12 ve_13 ve_14 ve_15 ve_16 ve_17 ve_18 ve_19 ve0]) C (c_X6_isBusy l D cB cI cJ cZ ve_0 ve_1 ve_2 ve_3 ve_4 ve_5 ve_6 ve_7 ve_8 ve_9 ve_10 ve_11 ve_12 ve_13 ve_14 ve_15 ve_16 ve_17 ve_18 ve_19 y7) rfl rfl (gIV ml_X7_73 im_X6_isBusy sl_X6_isBusy in_X6 cd_X6_isBusy) rfl eX6_isBusy rfl ⟨rfl, rfl⟩ ⟨Nat.le_of_ble_eq_true rfl, Nat.le_of_ble_eq_true rfl⟩ rfl rfl rfl [3] rfl rfl rfl (Nat.le_of_ble_eq_true rfl) (tdec DX7_write 14 rfl) rfl ?_
        refine g_if_eq (pt := 38) C (tdec DX7_write 15 rfl) (by decide) rfl (fun h8 => ?_) (fun h8 => ?_)
        · have hF := o_ifp hF h8
          refine g_aload (z := 0) C (tdec DX7_write 18 rfl) rfl rfl ?_
          refine g_sipush (v := 4800) C (tdec DX7_write 19 rfl) (by decide) rfl ?_
          refine g_iload_n (z := 3) C (tdec DX7_write 20 rfl) rfl rfl rfl ?_
          refine g_lload_n (z := 4) C (tdec DX7_write 21 rfl) rfl rfl rfl ?_
          obtain ⟨⟨r9, s10⟩, y11, hF⟩ := o_bind hF
          refine g_callViMS (q0 := 4) (W' := wTV nm_0 sb_0 d_0 ve_0 vo_0 re_0 ro_0 nm0 ++ (wSB cB sb_0 sb_1 sb0 ++ (wSD d_0 sb_0 d0 ++ (wV cI cJ ve_0 ve_1 ve_2 ve_3 ve_4 ve_5 ve_6 ve_7 ve_8 ve_9 ve_10 ve_11 ve_12 ve_13 ve_14 ve_15 ve_16 ve_17 ve_18 ve_19 s10 ++ (wV cI cJ vo_0 vo_1 vo_2 vo_3 vo_4 vo_5 vo_6 vo_7 vo_8 vo_9 vo_10 vo_11 vo_12 vo_13 vo_14 vo_15 vo_16 vo_17 vo_18 vo_19 vo0 ++ (wRC re_0 ve_0 sb_0 re0 ++ (wRC ro_0 vo_0 sb_0 ro0))))))) (S := [wTV nm_0 sb_0 d_0 ve_0 vo_0 re_0 ro_0 nm0, wSB cB sb_0 sb_1 sb0, wSD d_0 sb_0 d0, wV cI cJ ve_0 ve_1 ve_2 ve_3 ve_4 ve_5 ve_6 ve_7 ve_8 ve_9 ve_10 ve_11 ve_12 ve_13 ve_14 ve_15 ve_16 ve_17 ve_18 ve_19 ve0, wV cI cJ vo_0 vo_1 vo_2 vo_3 vo_4 vo_5 vo_6 vo_7 vo_8 vo_9 vo_10 vo_11 vo_12 vo_13 vo_14 vo_15 vo_16 vo_17 vo_18 vo_19 vo0, wRC re_0 ve_0 sb_0 re0, wRC ro_0 vo_0 sb_0 ro0]) (S0 := [wV cI cJ ve_0 ve_1 ve_2 ve_3 ve_4 ve_5 ve_6 ve_7 ve_8 ve_9 ve_10 ve_11 ve_12 ve_13 ve_14 ve_15 ve_16 ve_17 ve_18 ve_19 ve0]) (S1 := [wV cI cJ ve_0 ve_1 ve_2 ve_3 ve_4 ve_5 ve_6 ve_7 ve_8 ve_9 ve_10 ve_11 ve_12 ve_13 ve_14 ve_15 ve_16 ve_17 ve_18 ve_19 s10]) (S' := [wTV nm_0 sb_0 d_0 ve_0 vo_0 re_0 ro_0 nm0, wSB cB sb_0 sb_1 sb0, wSD d_0 sb_0 d0, wV cI cJ ve_0 ve_1 ve_2 ve_3 ve_4 ve_5 ve_6 ve_7 ve_8 ve_9 ve_10 ve_11 ve_12 ve_13 ve_14 ve_15 ve_16 ve_17 ve_18 ve_19 s10, wV cI cJ vo_0 vo_1 vo_2 vo_3 vo_4 vo_5 vo_6 vo_7 vo_8 vo_9 vo_10 vo_11 vo_12 vo_13 vo_14 vo_15 vo_16 vo_17 vo_18 vo_19 vo0, wRC re_0 ve_0 sb_0 re0, wRC ro_0 vo_0 sb_0 ro0]) C (c_X6_writePlace l D cB cI cJ cZ ve_0 ve_1 ve_2 ve_3 ve_4 ve_5 ve_6 ve_7 ve_8 ve_9 ve_10 ve_11 ve_12 ve_13 ve_14 ve_15 ve_16 ve_17 ve_18 ve_19 y11) rfl rfl (gIV ml_X7_77 im_X6_writePlace sl_X6_writePlace in_X6 cd_X6_writePlace) rfl eX6_writePlace rfl ⟨rfl, rfl⟩ ⟨Nat.le_of_ble_eq_true rfl, Nat.le_of_ble_eq_true rfl⟩ rfl rfl rfl [3] rfl rfl rfl rfl (gA_cons aV gA_nil) rfl rfl (Nat.le_of_ble_eq_true rfl) (tdec DX7_write 22 rfl) rfl ?_
          refine g_istore (L' := [(6, .int r9), (5, .ref ve_0), (0, .ref nm_0), (1, .int p1), (2, .int p2), (3, .long p3)]) C (tdec DX7_write 23 rfl) (by decide) rfl rfl ?_
          refine g_aload (z := 1) C (tdec DX7_write 24 rfl) rfl rfl ?_
          obtain ⟨s12, y13, hF⟩ := o_bind hF
          refine g_callVvMS (q0 := 4) (W' := wTV nm_0 sb_0 d_0 ve_0 vo_0 re_0 ro_0 nm0 ++ (wSB cB sb_0 sb_1 sb0 ++ (wSD d_0 sb_0 d0 ++ (wV cI cJ ve_0 ve_1 ve_2 ve_3 ve_4 ve_5 ve_6 ve_7 ve_8 ve_9 ve_10 ve_11 ve_12 ve_13 ve_14 ve_15 ve_16 ve_17 ve_18 ve_19 s12 ++ (wV cI cJ vo_0 vo_1 vo_2 vo_3 vo_4 vo_5 vo_6 vo_7 vo_8 vo_9 vo_10 vo_11 vo_12 vo_13 vo_14 vo_15 vo_16 vo_17 vo_18 vo_19 vo0 ++ (wRC re_0 ve_0 sb_0 re0 ++ (wRC ro_0 vo_0 sb_0 ro0))))))) (S := [wTV nm_0 sb_0 d_0 ve_0 vo_0 re_0 ro_0 nm0, wSB cB sb_0 sb_1 sb0, wSD d_0 sb_0 d0, wV cI cJ ve_0 ve_1 ve_2 ve_3 ve_4 ve_5 ve_6 ve_7 ve_8 ve_9 ve_10 ve_11 ve_12 ve_13 ve_14 ve_15 ve_16 ve_17 ve_18 ve_19 s10, wV cI cJ vo_0 vo_1 vo_2 vo_3 vo_4 vo_5 vo_6 vo_7 vo_8 vo_9 vo_10 vo_11 vo_12 vo_13 vo_14 vo_15 vo_16 vo_17 vo_18 vo_19 vo0, wRC re_0 ve_0 sb_0 re0, wRC ro_0 vo_0 sb_0 ro0]) (S0 := [wV cI cJ ve_0 ve_1 ve_2 ve_3 ve_4 ve_5 ve_6 ve_7 ve_8 ve_9 ve_10 ve_11 ve_12 ve_13 ve_14 ve_15 ve_16 ve_17 ve_18 ve_19 s10]) (S1 := [wV cI cJ ve_0 ve_1 ve_2 ve_3 ve_4 ve_5 ve_6 ve_7 ve_8 ve_9 ve_10 ve_11 ve_12 ve_13 ve_14 ve_15 ve_16 ve_17 ve_18 ve_19 s12]) (S' := [wTV nm_0 sb_0 d_0 ve_0 vo_0 re_0 ro_0 nm0, wSB cB sb_0 sb_1 sb0, wSD d_0 sb_0 d0, wV cI cJ ve_0 ve_1 ve_2 ve_3 ve_4 ve_5 ve_6 ve_7 ve_8 ve_9 ve_10 ve_11 ve_12 ve_13 ve_14 ve_15 ve_16 ve_17 ve_18 ve_19 s12, wV cI cJ vo_0 vo_1 vo_2 vo_3 vo_4 vo_5 vo_6 vo_7 vo_8 vo_9 vo_10 vo_11 vo_12 vo_13 vo_14 vo_15 vo_16 vo_17 vo_18 vo_19 vo0, wRC re_0 ve_0 sb_0 re0, wRC ro_0 vo_0 sb_0 ro0]) C (c_X6_settle l D cB cI cJ cZ ve_0 ve_1 ve_2 ve_3 ve_4 ve_5 ve_6 ve_7 ve_8 ve_9 ve_10 ve_11 ve_12 ve_13 ve_14 ve_15 ve_16 ve_17 ve_18 ve_19 y13) rfl rfl (gIV ml_X7_81 im_X6_settle sl_X6_settle in_X6 cd_X6_settle) rfl eX6_settle rfl ⟨rfl, rfl⟩ ⟨Nat.le_of_ble_eq_true rfl, Nat.le_of_ble_eq_true rfl⟩ rfl rfl rfl [3] rfl rfl rfl rfl (gA_cons aV gA_nil) rfl rfl (Nat.le_of_ble_eq_true rfl) (tdec DX7_write 25 rfl) rfl ?_
          refine g_iload (z := 0) C (tdec DX7_write 26 rfl) rfl rfl ?_
          refine g_if_eq (pt := 64) C (tdec DX7_write 27 rfl) (by decide) rfl (fun h14 => ?_) (fun h14 => ?_)
          · have hF := o_ifp hF h14
            refine g_iconst (v := 5) C (tdec DX7_write 30 rfl) (by decide) rfl ?_
            have hr9 := o_some hF
            subst hr9
            exact g_iretX (s12, vo0) C rfl rfl (tdec DX7_write 31 rfl)
          · have hF := o_ifn hF h14
            refine g_iconst (v := 0) C (tdec DX7_write 28 rfl) (by decide) rfl ?_
            refine g_goto (pt := 65) C (tdec DX7_write 29 rfl) (by decide) ?_
            have hr9 := o_some hF
            subst hr9
            exact g_iretX (s12, vo0) C rfl rfl (tdec DX7_write 31 rfl)
        · have hF := o_ifn hF h8
          refine g_bipush (v := 6) C (tdec DX7_write 16 rfl) (by decide) rfl ?_
          have hr9 := o_some hF
          subst hr9
          exact g_iretX (ve0, vo0) C rfl rfl (tdec DX7_write 17 rfl)
      · have hF := o_ifp hF h5
        have hr9 := o_some hF
        subst hr9
        exact g_throw (cls := xIA) C htab hX hZ hfl (by decide) (by decide) (gMem xl_X7_55) (gMem xn_xIA) (gIn xg_X7_57) xb_X7_57 xo_X7_57 rfl rfl (tdec DX7_write 9 rfl) (tdec DX7_write 10 rfl) (tdec DX7_write 11 rfl) (tdec DX7_write 12 rfl) rfl rfl rfl (by decide) (by decide) (by decide) (by decide)
    | succ k27 =>
      refine g_st (st' := [.ref vo_0]) rfl ?_
      refine g_astore (L' := [(5, .ref vo_0), (0, .ref nm_0), (1, .int p1), (2, .int p2), (3, .long p3)]) C (tdec DX7_write 3 rfl) (by decide) rfl rfl ?_
      refine g_aload (z := 0) C (tdec DX7_write 4 rfl) rfl rfl ?_
      refine g_ifnullR C (tdec DX7_write 5 rfl) rfl ?_
      refine g_iload_n (z := 3) C (tdec DX7_write 6 rfl) rfl rfl rfl ?_
      obtain ⟨r15, y16, hF⟩ := o_bind hF
      refine g_callSiR C (c_X7_isPlace l D cB cI cJ cZ y16) (gIS ml_X7_69 st_X7_isPlace in_X7 cd_X7_isPlace) eX7_isPlace rfl ⟨rfl, rfl⟩ ⟨Nat.le_of_ble_eq_true rfl, Nat.le_of_ble_eq_true rfl⟩ rfl [] rfl rfl rfl (Nat.le_of_ble_eq_true rfl) (tdec DX7_write 7 rfl) rfl ?_
      refine g_if_ne (pt := 27) C (tdec DX7_write 8 rfl) (by decide) rfl (fun h17 => ?_) (fun h17 => ?_)
      · have hF := o_ifn hF h17
        refine g_aload (z := 0) C (tdec DX7_write 13 rfl) rfl rfl ?_
        obtain ⟨r18, y19, hF⟩ := o_bind hF
        refine g_callViRS (q0 := 24) (S := [wTV nm_0 sb_0 d_0 ve_0 vo_0 re_0 ro_0 nm0, wSB cB sb_0 sb_1 sb0, wSD d_0 sb_0 d0, wV cI cJ ve_0 ve_1 ve_2 ve_3 ve_4 ve_5 ve_6 ve_7 ve_8 ve_9 ve_10 ve_11 ve_12 ve_13 ve_14 ve_15 ve_16 ve_17 ve_18 ve_19 ve0, wV cI cJ vo_0 vo_1 vo_2 vo_3 vo_4 vo_5 vo_6 vo_7 vo_8 vo_9 vo_10 vo_11 vo_12 vo_13 vo_14 vo_15 vo_16 vo_17 vo_18 vo_19 vo0, wRC re_0 ve_0 sb_0 re0, wRC ro_0 vo_0 sb_0 ro0]) (S0 := [wV cI cJ vo_0 vo_1 vo_2 vo_3 vo_4 vo_5 vo_6 vo_7 vo_8 vo_9 vo_10 vo_11 vo_12 vo_13 vo_14 vo_15 vo_16 vo_17 vo_18 vo_19 vo0]) C (c_X6_isBusy l D cB cI cJ cZ vo_0 vo_1 vo_2 vo_3 vo_4 vo_5 vo_6 vo_7 vo_8 vo_9 vo_10 vo_11 vo_12 vo_13 vo_14 vo_15 vo_16 vo_17 vo_18 vo_19 y19) rfl rfl (gIV ml_X7_73 im_X6_isBusy sl_X6_isBusy in_X6 cd_X6_isBusy) rfl eX6_isBusy rfl ⟨rfl, rfl⟩ ⟨Nat.le_of_ble_eq_true rfl, Nat.le_of_ble_eq_true rfl⟩ rfl rfl rfl [4] rfl rfl rfl (Nat.le_of_ble_eq_true rfl) (tdec DX7_write 14 rfl) rfl ?_
        refine g_if_eq (pt := 38) C (tdec DX7_write 15 rfl) (by decide) rfl (fun h20 => ?_) (fun h20 => ?_)
        · have hF := o_ifp hF h20
          refine g_aload (z := 0) C (tdec DX7_write 18 rfl) rfl rfl ?_
          refine g_sipush (v := 4800) C (tdec DX7_write 19 rfl) (by decide) rfl ?_
          refine g_iload_n (z := 3) C (tdec DX7_write 20 rfl) rfl rfl rfl ?_
          refine g_lload_n (z := 4) C (tdec DX7_write 21 rfl) rfl rfl rfl ?_
          obtain ⟨⟨r21, s22⟩, y23, hF⟩ := o_bind hF
          refine g_callViMS (q0 := 24) (W' := wTV nm_0 sb_0 d_0 ve_0 vo_0 re_0 ro_0 nm0 ++ (wSB cB sb_0 sb_1 sb0 ++ (wSD d_0 sb_0 d0 ++ (wV cI cJ ve_0 ve_1 ve_2 ve_3 ve_4 ve_5 ve_6 ve_7 ve_8 ve_9 ve_10 ve_11 ve_12 ve_13 ve_14 ve_15 ve_16 ve_17 ve_18 ve_19 ve0 ++ (wV cI cJ vo_0 vo_1 vo_2 vo_3 vo_4 vo_5 vo_6 vo_7 vo_8 vo_9 vo_10 vo_11 vo_12 vo_13 vo_14 vo_15 vo_16 vo_17 vo_18 vo_19 s22 ++ (wRC re_0 ve_0 sb_0 re0 ++ (wRC ro_0 vo_0 sb_0 ro0))))))) (S := [wTV nm_0 sb_0 d_0 ve_0 vo_0 re_0 ro_0 nm0, wSB cB sb_0 sb_1 sb0, wSD d_0 sb_0 d0, wV cI cJ ve_0 ve_1 ve_2 ve_3 ve_4 ve_5 ve_6 ve_7 ve_8 ve_9 ve_10 ve_11 ve_12 ve_13 ve_14 ve_15 ve_16 ve_17 ve_18 ve_19 ve0, wV cI cJ vo_0 vo_1 vo_2 vo_3 vo_4 vo_5 vo_6 vo_7 vo_8 vo_9 vo_10 vo_11 vo_12 vo_13 vo_14 vo_15 vo_16 vo_17 vo_18 vo_19 vo0, wRC re_0 ve_0 sb_0 re0, wRC ro_0 vo_0 sb_0 ro0]) (S0 := [wV cI cJ vo_0 vo_1 vo_2 vo_3 vo_4 vo_5 vo_6 vo_7 vo_8 vo_9 vo_10 vo_11 vo_12 vo_13 vo_14 vo_15 vo_16 vo_17 vo_18 vo_19 vo0]) (S1 := [wV cI cJ vo_0 vo_1 vo_2 vo_3 vo_4 vo_5 vo_6 vo_7 vo_8 vo_9 vo_10 vo_11 vo_12 vo_13 vo_14 vo_15 vo_16 vo_17 vo_18 vo_19 s22]) (S' := [wTV nm_0 sb_0 d_0 ve_0 vo_0 re_0 ro_0 nm0, wSB cB sb_0 sb_1 sb0, wSD d_0 sb_0 d0, wV cI cJ ve_0 ve_1 ve_2 ve_3 ve_4 ve_5 ve_6 ve_7 ve_8 ve_9 ve_10 ve_11 ve_12 ve_13 ve_14 ve_15 ve_16 ve_17 ve_18 ve_19 ve0, wV cI cJ vo_0 vo_1 vo_2 vo_3 vo_4 vo_5 vo_6 vo_7 vo_8 vo_9 vo_10 vo_11 vo_12 vo_13 vo_14 vo_15 vo_16 vo_17 vo_18 vo_19 s22, wRC re_0 ve_0 sb_0 re0, wRC ro_0 vo_0 sb_0 ro0]) C (c_X6_writePlace l D cB cI cJ cZ vo_0 vo_1 vo_2 vo_3 vo_4 vo_5 vo_6 vo_7 vo_8 vo_9 vo_10 vo_11 vo_12 vo_13 vo_14 vo_15 vo_16 vo_17 vo_18 vo_19 y23) rfl rfl (gIV ml_X7_77 im_X6_writePlace sl_X6_writePlace in_X6 cd_X6_writePlace) rfl eX6_writePlace rfl ⟨rfl, rfl⟩ ⟨Nat.le_of_ble_eq_true rfl, Nat.le_of_ble_eq_true rfl⟩ rfl rfl rfl [4] rfl rfl rfl rfl (gA_cons aV gA_nil) rfl rfl (Nat.le_of_ble_eq_true rfl) (tdec DX7_write 22 rfl) rfl ?_
          refine g_istore (L' := [(6, .int r21), (5, .ref vo_0), (0, .ref nm_0), (1, .int p1), (2, .int p2), (3, .long p3)]) C (tdec DX7_write 23 rfl) (by decide) rfl rfl ?_
          refine g_aload (z := 1) C (tdec DX7_write 24 rfl) rfl rfl ?_
          obtain ⟨s24, y25, hF⟩ := o_bind hF
          refine g_callVvMS (q0 := 24) (W' := wTV nm_0 sb_0 d_0 ve_0 vo_0 re_0 ro_0 nm0 ++ (wSB cB sb_0 sb_1 sb0 ++ (wSD d_0 sb_0 d0 ++ (wV cI cJ ve_0 ve_1 ve_2 ve_3 ve_4 ve_5 ve_6 ve_7 ve_8 ve_9 ve_10 ve_11 ve_12 ve_13 ve_14 ve_15 ve_16 ve_17 ve_18 ve_19 ve0 ++ (wV cI cJ vo_0 vo_1 vo_2 vo_3 vo_4 vo_5 vo_6 vo_7 vo_8 vo_9 vo_10 vo_11 vo_12 vo_13 vo_14 vo_15 vo_16 vo_17 vo_18 vo_19 s24 ++ (wRC re_0 ve_0 sb_0 re0 ++ (wRC ro_0 vo_0 sb_0 ro0))))))) (S := [wTV nm_0 sb_0 d_0 ve_0 vo_0 re_0 ro_0 nm0, wSB cB sb_0 sb_1 sb0, wSD d_0 sb_0 d0, wV cI cJ ve_0 ve_1 ve_2 ve_3 ve_4 ve_5 ve_6 ve_7 ve_8 ve_9 ve_10 ve_11 ve_12 ve_13 ve_14 ve_15 ve_16 ve_17 ve_18 ve_19 ve0, wV cI cJ vo_0 vo_1 vo_2 vo_3 vo_4 vo_5 vo_6 vo_7 vo_8 vo_9 vo_10 vo_11 vo_12 vo_13 vo_14 vo_15 vo_16 vo_17 vo_18 vo_19 s22, wRC re_0 ve_0 sb_0 re0, wRC ro_0 vo_0 sb_0 ro0]) (S0 := [wV cI cJ vo_0 vo_1 vo_2 vo_3 vo_4 vo_5 vo_6 vo_7 vo_8 vo_9 vo_10 vo_11 vo_12 vo_13 vo_14 vo_15 vo_16 vo_17 vo_18 vo_19 s22]) (S1 := [wV cI cJ vo_0 vo_1 vo_2 vo_3 vo_4 vo_5 vo_6 vo_7 vo_8 vo_9 vo_10 vo_11 vo_12 vo_13 vo_14 vo_15 vo_16 vo_17 vo_18 vo_19 s24]) (S' := [wTV nm_0 sb_0 d_0 ve_0 vo_0 re_0 ro_0 nm0, wSB cB sb_0 sb_1 sb0, wSD d_0 sb_0 d0, wV cI cJ ve_0 ve_1 ve_2 ve_3 ve_4 ve_5 ve_6 ve_7 ve_8 ve_9 ve_10 ve_11 ve_12 ve_13 ve_14 ve_15 ve_16 ve_17 ve_18 ve_19 ve0, wV cI cJ vo_0 vo_1 vo_2 vo_3 vo_4 vo_5 vo_6 vo_7 vo_8 vo_9 vo_10 vo_11 vo_12 vo_13 vo_14 vo_15 vo_16 vo_17 vo_18 vo_19 s24, wRC re_0 ve_0 sb_0 re0, wRC ro_0 vo_0 sb_0 ro0]) C (c_X6_settle l D cB cI cJ cZ vo_0 vo_1 vo_2 vo_3 vo_4 vo_5 vo_6 vo_7 vo_8 vo_9 vo_10 vo_11 vo_12 vo_13 vo_14 vo_15 vo_16 vo_17 vo_18 vo_19 y25) rfl rfl (gIV ml_X7_81 im_X6_settle sl_X6_settle in_X6 cd_X6_settle) rfl eX6_settle rfl ⟨rfl, rfl⟩ ⟨Nat.le_of_ble_eq_true rfl, Nat.le_of_ble_eq_true rfl⟩ rfl rfl rfl [4] rfl rfl rfl rfl (gA_cons aV gA_nil) rfl rfl (Nat.le_of_ble_eq_true rfl) (tdec DX7_write 25 rfl) rfl ?_
          refine g_iload (z := 0) C (tdec DX7_write 26 rfl) rfl rfl ?_
          refine g_if_eq (pt := 64) C (tdec DX7_write 27 rfl) (by decide) rfl (fun h26 => ?_) (fun h26 => ?_)
          · have hF := o_ifp hF h26
            refine g_iconst (v := 5) C (tdec DX7_write 30 rfl) (by decide) rfl ?_
            have hr9 := o_some hF
            subst hr9
            exact g_iretX (ve0, s24) C rfl rfl (tdec DX7_write 31 rfl)
          · have hF := o_ifn hF h26
            refine g_iconst (v := 0) C (tdec DX7_write 28 rfl) (by decide) rfl ?_
            refine g_goto (pt := 65) C (tdec DX7_write 29 rfl) (by decide) ?_
            have hr9 := o_some hF
            subst hr9
            exact g_iretX (ve0, s24) C rfl rfl (tdec DX7_write 31 rfl)
        · have hF := o_ifn hF h20
          refine g_bipush (v := 6) C (tdec DX7_write 16 rfl) (by decide) rfl ?_
          have hr9 := o_some hF
          subst hr9
          exact g_iretX (ve0, vo0) C rfl rfl (tdec DX7_write 17 rfl)
      · have hF := o_ifp hF h17
        have hr9 := o_some hF
        subst hr9
        exact g_throw (cls := xIA) C htab hX hZ hfl (by decide) (by decide) (gMem xl_X7_55) (gMem xn_xIA) (gIn xg_X7_57) xb_X7_57 xo_X7_57 rfl rfl (tdec DX7_write 9 rfl) (tdec DX7_write 10 rfl) (tdec DX7_write 11 rfl) (tdec DX7_write 12 rfl) rfl rfl rfl (by decide) (by decide) (by decide) (by decide)
def FX7_clear (nm0 : Int64) (sb0 : SB) (d0 : SD) (ve0 : VS) (vo0 : VS) (re0 : RC) (ro0 : RC) (p1 : Int32) (p2 : Int32) : Option (Except String (Int32 × (VS × VS))) :=
  (FX7_find nm0 p1).bind fun q2 =>
  (match q2 with
  | none =>
    some (.error xIA)
  | some 0 =>
    (FX7_isPlace p2).bind fun r3 =>
    if r3 = 0 then
      some (.error xIA)
    else
      (FX6_isBusy ve0).bind fun r6 =>
      if r6 = 0 then
        (FX6_clearPlace ve0 4800 p2).bind fun (r9, s10) =>
        (FX6_settle s10).bind fun s12 =>
        if r9 = 0 then
          some (.ok (5, (s12, vo0)))
        else
          some (.ok (0, (s12, vo0)))
      else
        some (.ok (6, (ve0, vo0)))
  | some (_ + 1) =>
    (FX7_isPlace p2).bind fun r15 =>
    if r15 = 0 then
      some (.error xIA)
    else
      (FX6_isBusy vo0).bind fun r18 =>
      if r18 = 0 then
        (FX6_clearPlace vo0 4800 p2).bind fun (r21, s22) =>
        (FX6_settle s22).bind fun s24 =>
        if r21 = 0 then
          some (.ok (5, (ve0, s24)))
        else
          some (.ok (0, (ve0, s24)))
      else
        some (.ok (6, (ve0, vo0))))
def rX7_clear : Room := { frames := 6, cells := 1, slots := 6, locals := 96 }
set_option maxHeartbeats 4000000 in
set_option maxRecDepth 100000 in
theorem c_X7_clear (l : Launch) (hfl : l.stackTraces = false) (D : va_G) (cB cI cJ cZ : ClassId) (nm_0 sb_0 sb_1 d_0 ve_0 ve_1 ve_2 ve_3 ve_4 ve_5 ve_6 ve_7 ve_8 ve_9 ve_10 ve_11 ve_12 ve_13 ve_14 ve_15 ve_16 ve_17 ve_18 ve_19 vo_0 vo_1 vo_2 vo_3 vo_4 vo_5 vo_6 vo_7 vo_8 vo_9 vo_10 vo_11 vo_12 vo_13 vo_14 vo_15 vo_16 vo_17 vo_18 vo_19 re_0 ro_0 : Nat) {nm0 : Int64} {sb0 : SB} {d0 : SD} {ve0 : VS} {vo0 : VS} {re0 : RC} {ro0 : RC} {p1 : Int32} {p2 : Int32} {res : Except String (Int32 × (VS × VS))} (hF : FX7_clear nm0 sb0 d0 ve0 vo0 re0 ro0 p1 p2 = some res) : gXi l yX7_clear wsX7_clear rX7_clear D (gT cB cI cJ cZ) [.ref nm_0, .int p1, .int p2] (wTV nm_0 sb_0 d_0 ve_0 vo_0 re_0 ro_0 nm0 ++ (wSB cB sb_0 sb_1 sb0 ++ (wSD d_0 sb_0 d0 ++ (wV cI cJ ve_0 ve_1 ve_2 ve_3 ve_4 ve_5 ve_6 ve_7 ve_8 ve_9 ve_10 ve_11 ve_12 ve_13 ve_14 ve_15 ve_16 ve_17 ve_18 ve_19 ve0 ++ (wV cI cJ vo_0 vo_1 vo_2 vo_3 vo_4 vo_5 vo_6 vo_7 vo_8 vo_9 vo_10 vo_11 vo_12 vo_13 vo_14 vo_15 vo_16 vo_17 vo_18 vo_19 vo0 ++ (wRC re_0 ve_0 sb_0 re0 ++ (wRC ro_0 vo_0 sb_0 ro0))))))) res (fun u : (VS × VS) => wTV nm_0 sb_0 d_0 ve_0 vo_0 re_0 ro_0 nm0 ++ (wSB cB sb_0 sb_1 sb0 ++ (wSD d_0 sb_0 d0 ++ (wV cI cJ ve_0 ve_1 ve_2 ve_3 ve_4 ve_5 ve_6 ve_7 ve_8 ve_9 ve_10 ve_11 ve_12 ve_13 ve_14 ve_15 ve_16 ve_17 ve_18 ve_19 u.1 ++ (wV cI cJ vo_0 vo_1 vo_2 vo_3 vo_4 vo_5 vo_6 vo_7 vo_8 vo_9 vo_10 vo_11 vo_12 vo_13 vo_14 vo_15 vo_16 vo_17 vo_18 vo_19 u.2 ++ (wRC re_0 ve_0 sb_0 re0 ++ (wRC ro_0 vo_0 sb_0 ro0))))))) := by
  refine g_enterX (own := RX7) (Qc := (fun sz => gXQi D (wTV nm_0 sb_0 d_0 ve_0 vo_0 re_0 ro_0 nm0 ++ (wSB cB sb_0 sb_1 sb0 ++ (wSD d_0 sb_0 d0 ++ (wV cI cJ ve_0 ve_1 ve_2 ve_3 ve_4 ve_5 ve_6 ve_7 ve_8 ve_9 ve_10 ve_11 ve_12 ve_13 ve_14 ve_15 ve_16 ve_17 ve_18 ve_19 ve0 ++ (wV cI cJ vo_0 vo_1 vo_2 vo_3 vo_4 vo_5 vo_6 vo_7 vo_8 vo_9 vo_10 vo_11 vo_12 vo_13 vo_14 vo_15 vo_16 vo_17 vo_18 vo_19 vo0 ++ (wRC re_0 ve_0 sb_0 re0 ++ (wRC ro_0 vo_0 sb_0 ro0))))))) sz (fun r (u : (VS × VS)) => res = .ok (r, u)) (fun u : (VS × VS) => wTV nm_0 sb_0 d_0 ve_0 vo_0 re_0 ro_0 nm0 ++ (wSB cB sb_0 sb_1 sb0 ++ (wSD d_0 sb_0 d0 ++ (wV cI cJ ve_0 ve_1 ve_2 ve_3 ve_4 ve_5 ve_6 ve_7 ve_8 ve_9 ve_10 ve_11 ve_12 ve_13 ve_14 ve_15 ve_16 ve_17 ve_18 ve_19 u.1 ++ (wV cI cJ vo_0 vo_1 vo_2 vo_3 vo_4 vo_5 vo_6 vo_7 vo_8 vo_9 vo_10 vo_11 vo_12 vo_13 vo_14 vo_15 vo_16 vo_17 vo_18 vo_19 u.2 ++ (wRC re_0 ve_0 sb_0 re0 ++ (wRC ro_0 vo_0 sb_0 ro0))))))))) (XC := (fun sz => gXC D (wTV nm_0 sb_0 d_0 ve_0 vo_0 re_0 ro_0 nm0 ++ (wSB cB sb_0 sb_1 sb0 ++ (wSD d_0 sb_0 d0 ++ (wV cI cJ ve_0 ve_1 ve_2 ve_3 ve_4 ve_5 ve_6 ve_7 ve_8 ve_9 ve_10 ve_11 ve_12 ve_13 ve_14 ve_15 ve_16 ve_17 ve_18 ve_19 ve0 ++ (wV cI cJ vo_0 vo_1 vo_2 vo_3 vo_4 vo_5 vo_6 vo_7 vo_8 vo_9 vo_10 vo_11 vo_12 vo_13 vo_14 vo_15 vo_16 vo_17 vo_18 vo_19 vo0 ++ (wRC re_0 ve_0 sb_0 re0 ++ (wRC ro_0 vo_0 sb_0 ro0))))))) sz (fun E => res = .error E))) rfl (by decide) rfl (Nat.le_of_ble_eq_true rfl) rfl ?_
  intro p e s m args below meth c C htab hX hZ
  unfold FX7_clear at hF
  refine g_aload_n (z := 0) C (tdec DX7_clear 0 rfl) rfl rfl rfl ?_
  refine g_iload_n (z := 1) C (tdec DX7_clear 1 rfl) rfl rfl rfl ?_
  obtain ⟨q2, y1, hF⟩ := o_bind hF
  refine g_callVqRS (q0 := 0) (S := [wTV nm_0 sb_0 d_0 ve_0 vo_0 re_0 ro_0 nm0, wSB cB sb_0 sb_1 sb0, wSD d_0 sb_0 d0, wV cI cJ ve_0 ve_1 ve_2 ve_3 ve_4 ve_5 ve_6 ve_7 ve_8 ve_9 ve_10 ve_11 ve_12 ve_13 ve_14 ve_15 ve_16 ve_17 ve_18 ve_19 ve0, wV cI cJ vo_0 vo_1 vo_2 vo_3 vo_4 vo_5 vo_6 vo_7 vo_8 vo_9 vo_10 vo_11 vo_12 vo_13 vo_14 vo_15 vo_16 vo_17 vo_18 vo_19 vo0, wRC re_0 ve_0 sb_0 re0, wRC ro_0 vo_0 sb_0 ro0]) (S0 := [wTV nm_0 sb_0 d_0 ve_0 vo_0 re_0 ro_0 nm0]) C (c_X7_find l D cB cI cJ cZ nm_0 sb_0 d_0 ve_0 vo_0 re_0 ro_0 y1) rfl rfl (gIV ml_X7_51 im_X7_find sl_X7_find in_X7 cd_X7_find) rfl eX7_find rfl ⟨rfl, rfl⟩ ⟨Nat.le_of_ble_eq_true rfl, Nat.le_of_ble_eq_true rfl⟩ rfl rfl rfl [0] rfl rfl rfl (Nat.le_of_ble_eq_true rfl) (tdec DX7_clear 2 rfl) rfl ?_
  cases q2 with
  | none =>
    refine g_st (st' := [.null]) rfl ?_
    refine g_astoreN_n (L' := [(3, .null), (0, .ref nm_0), (1, .int p1), (2, .int p2)]) C (tdec DX7_clear 3 rfl) rfl (by decide) rfl rfl ?_
    refine g_aloadN_n (z := 0) C (tdec DX7_clear 4 rfl) rfl rfl rfl ?_
    refine g_ifnullN (pt := 17) C (tdec DX7_clear 5 rfl) (by decide) ?_
    have hr9 := o_some hF
    subst hr9
    exact g_throw (cls := xIA) C htab hX hZ hfl (by decide) (by decide) (gMem xl_X7_55) (gMem xn_xIA) (gIn xg_X7_57) xb_X7_57 xo_X7_57 rfl rfl (tdec DX7_clear 9 rfl) (tdec DX7_clear 10 rfl) (tdec DX7_clear 11 rfl) (tdec DX7_clear 12 rfl) rfl rfl rfl (by decide) (by decide) (by decide) (by decide)
  | some k27 =>
    cases k27 with
    | zero =>
      refine g_st (st' := [.ref ve_0]) rfl ?_
      refine g_astore_n (L' := [(3, .ref ve_0), (0, .ref nm_0), (1, .int p1), (2, .int p2)]) C (tdec DX7_clear 3 rfl) rfl (by decide) rfl rfl ?_
      refine g_aload_n (z := 0) C (tdec DX7_clear 4 rfl) rfl rfl rfl ?_
      refine g_ifnullR C (tdec DX7_clear 5 rfl) rfl ?_
      refine g_iload_n (z := 3) C (tdec DX7_clear 6 rfl) rfl rfl rfl ?_
      obtain ⟨r3, y4, hF⟩ := o_bind hF
      refine g_callSiR C (c_X7_isPlace l D cB cI cJ cZ y4) (gIS ml_X7_69 st_X7_isPlace in_X7 cd_X7_isPlace) eX7_isPlace rfl ⟨rfl, rfl⟩ ⟨Nat.le_of_ble_eq_true rfl, Nat.le_of_ble_eq_true rfl⟩ rfl [] rfl rfl rfl (Nat.le_of_ble_eq_true rfl) (tdec DX7_clear 7 rfl) rfl ?_
      refine g_if_ne (pt := 25) C (tdec DX7_clear 8 rfl) (by decide) rfl (fun h5 => ?_) (fun h5 => ?_)
      · have hF := o_ifn hF h5
        refine g_aload_n (z := 0) C (tdec DX7_clear 13 rfl) rfl rfl rfl ?_
        obtain ⟨r6, y7, hF⟩ := o_bind hF
        refine g_callViRS (q0 := 4) (S := [wTV nm_0 sb_0 d_0 ve_0 vo_0 re_0 ro_0 nm0, wSB cB sb_0 sb_1 sb0, wSD d_0 sb_0 d0, wV cI cJ ve_0 ve_1 ve_2 ve_3 ve_4 ve_5 ve_6 ve_7 ve_8 ve_9 ve_10 ve_11 ve_12 ve_13 ve_14 ve_15 ve_16 ve_17 ve_18 ve_19 ve0, wV cI cJ vo_0 vo_1 vo_2 vo_3 vo_4 vo_5 vo_6 vo_7 vo_8 vo_9 vo_10 vo_11 vo_12 vo_13 vo_14 vo_15 vo_16 vo_17 vo_18 vo_19 vo0, wRC re_0 ve_0 sb_0 re0, wRC ro_0 vo_0 sb_0 ro0]) (S0 := [wV cI cJ ve_0 ve_1 ve_2 ve_3 ve_4 ve_5 ve_6 ve_7 ve_8 ve_9 ve_10 ve_11 ve_12 ve_13 ve_14 ve_15 ve_16 ve_17 ve_18 ve_19 ve0]) C (c_X6_isBusy l D cB cI cJ cZ ve_0 ve_1 ve_2 ve_3 ve_4 ve_5 ve_6 ve_7 ve_8 ve_9 ve_10 ve_11 ve_12 ve_13 ve_14 ve_15 ve_16 ve_17 ve_18 ve_19 y7) rfl rfl (gIV ml_X7_73 im_X6_isBusy sl_X6_isBusy in_X6 cd_X6_isBusy) rfl eX6_isBusy rfl ⟨rfl, rfl⟩ ⟨Nat.le_of_ble_eq_true rfl, Nat.le_of_ble_eq_true rfl⟩ rfl rfl rfl [3] rfl rfl rfl (Nat.le_of_ble_eq_true rfl) (tdec DX7_clear 14 rfl) rfl ?_
        refine g_if_eq (pt := 35) C (tdec DX7_clear 15 rfl) (by decide) rfl (fun h8 => ?_) (fun h8 => ?_)
        · have hF := o_ifp hF h8
          refine g_aload_n (z := 0) C (tdec DX7_clear 18 rfl) rfl rfl rfl ?_
          refine g_sipush (v := 4800) C (tdec DX7_clear 19 rfl) (by decide) rfl ?_
          refine g_iload_n (z := 3) C (tdec DX7_clear 20 rfl) rfl rfl rfl ?_
          obtain ⟨⟨r9, s10⟩, y11, hF⟩ := o_bind hF
          refine g_callViMS (q0 := 4) (W' := wTV nm_0 sb_0 d_0 ve_0 vo_0 re_0 ro_0 nm0 ++ (wSB cB sb_0 sb_1 sb0 ++ (wSD d_0 sb_0 d0 ++ (wV cI cJ ve_0 ve_1 ve_2 ve_3 ve_4 ve_5 ve_6 ve_7 ve_8 ve_9 ve_10 ve_11 ve_12 ve_13 ve_14 ve_15 ve_16 ve_17 ve_18 ve_19 s10 ++ (wV cI cJ vo_0 vo_1 vo_2 vo_3 vo_4 vo_5 vo_6 vo_7 vo_8 vo_9 vo_10 vo_11 vo_12 vo_13 vo_14 vo_15 vo_16 vo_17 vo_18 vo_19 vo0 ++ (wRC re_0 ve_0 sb_0 re0 ++ (wRC ro_0 vo_0 sb_0 ro0))))))) (S := [wTV nm_0 sb_0 d_0 ve_0 vo_0 re_0 ro_0 nm0, wSB cB sb_0 sb_1 sb0, wSD d_0 sb_0 d0, wV cI cJ ve_0 ve_1 ve_2 ve_3 ve_4 ve_5 ve_6 ve_7 ve_8 ve_9 ve_10 ve_11 ve_12 ve_13 ve_14 ve_15 ve_16 ve_17 ve_18 ve_19 ve0, wV cI cJ vo_0 vo_1 vo_2 vo_3 vo_4 vo_5 vo_6 vo_7 vo_8 vo_9 vo_10 vo_11 vo_12 vo_13 vo_14 vo_15 vo_16 vo_17 vo_18 vo_19 vo0, wRC re_0 ve_0 sb_0 re0, wRC ro_0 vo_0 sb_0 ro0]) (S0 := [wV cI cJ ve_0 ve_1 ve_2 ve_3 ve_4 ve_5 ve_6 ve_7 ve_8 ve_9 ve_10 ve_11 ve_12 ve_13 ve_14 ve_15 ve_16 ve_17 ve_18 ve_19 ve0]) (S1 := [wV cI cJ ve_0 ve_1 ve_2 ve_3 ve_4 ve_5 ve_6 ve_7 ve_8 ve_9 ve_10 ve_11 ve_12 ve_13 ve_14 ve_15 ve_16 ve_17 ve_18 ve_19 s10]) (S' := [wTV nm_0 sb_0 d_0 ve_0 vo_0 re_0 ro_0 nm0, wSB cB sb_0 sb_1 sb0, wSD d_0 sb_0 d0, wV cI cJ ve_0 ve_1 ve_2 ve_3 ve_4 ve_5 ve_6 ve_7 ve_8 ve_9 ve_10 ve_11 ve_12 ve_13 ve_14 ve_15 ve_16 ve_17 ve_18 ve_19 s10, wV cI cJ vo_0 vo_1 vo_2 vo_3 vo_4 vo_5 vo_6 vo_7 vo_8 vo_9 vo_10 vo_11 vo_12 vo_13 vo_14 vo_15 vo_16 vo_17 vo_18 vo_19 vo0, wRC re_0 ve_0 sb_0 re0, wRC ro_0 vo_0 sb_0 ro0]) C (c_X6_clearPlace l D cB cI cJ cZ ve_0 ve_1 ve_2 ve_3 ve_4 ve_5 ve_6 ve_7 ve_8 ve_9 ve_10 ve_11 ve_12 ve_13 ve_14 ve_15 ve_16 ve_17 ve_18 ve_19 y11) rfl rfl (gIV ml_X7_84 im_X6_clearPlace sl_X6_clearPlace in_X6 cd_X6_clearPlace) rfl eX6_clearPlace rfl ⟨rfl, rfl⟩ ⟨Nat.le_of_ble_eq_true rfl, Nat.le_of_ble_eq_true rfl⟩ rfl rfl rfl [3] rfl rfl rfl rfl (gA_cons aV gA_nil) rfl rfl (Nat.le_of_ble_eq_true rfl) (tdec DX7_clear 21 rfl) rfl ?_
          refine g_istore (L' := [(4, .int r9), (3, .ref ve_0), (0, .ref nm_0), (1, .int p1), (2, .int p2)]) C (tdec DX7_clear 22 rfl) (by decide) rfl rfl ?_
          refine g_aload_n (z := 1) C (tdec DX7_clear 23 rfl) rfl rfl rfl ?_
          obtain ⟨s12, y13, hF⟩ := o_bind hF
          refine g_callVvMS (q0 := 4) (W' := wTV nm_0 sb_0 d_0 ve_0 vo_0 re_0 ro_0 nm0 ++ (wSB cB sb_0 sb_1 sb0 ++ (wSD d_0 sb_0 d0 ++ (wV cI cJ ve_0 ve_1 ve_2 ve_3 ve_4 ve_5 ve_6 ve_7 ve_8 ve_9 ve_10 ve_11 ve_12 ve_13 ve_14 ve_15 ve_16 ve_17 ve_18 ve_19 s12 ++ (wV cI cJ vo_0 vo_1 vo_2 vo_3 vo_4 vo_5 vo_6 vo_7 vo_8 vo_9 vo_10 vo_11 vo_12 vo_13 vo_14 vo_15 vo_16 vo_17 vo_18 vo_19 vo0 ++ (wRC re_0 ve_0 sb_0 re0 ++ (wRC ro_0 vo_0 sb_0 ro0))))))) (S := [wTV nm_0 sb_0 d_0 ve_0 vo_0 re_0 ro_0 nm0, wSB cB sb_0 sb_1 sb0, wSD d_0 sb_0 d0, wV cI cJ ve_0 ve_1 ve_2 ve_3 ve_4 ve_5 ve_6 ve_7 ve_8 ve_9 ve_10 ve_11 ve_12 ve_13 ve_14 ve_15 ve_16 ve_17 ve_18 ve_19 s10, wV cI cJ vo_0 vo_1 vo_2 vo_3 vo_4 vo_5 vo_6 vo_7 vo_8 vo_9 vo_10 vo_11 vo_12 vo_13 vo_14 vo_15 vo_16 vo_17 vo_18 vo_19 vo0, wRC re_0 ve_0 sb_0 re0, wRC ro_0 vo_0 sb_0 ro0]) (S0 := [wV cI cJ ve_0 ve_1 ve_2 ve_3 ve_4 ve_5 ve_6 ve_7 ve_8 ve_9 ve_10 ve_11 ve_12 ve_13 ve_14 ve_15 ve_16 ve_17 ve_18 ve_19 s10]) (S1 := [wV cI cJ ve_0 ve_1 ve_2 ve_3 ve_4 ve_5 ve_6 ve_7 ve_8 ve_9 ve_10 ve_11 ve_12 ve_13 ve_14 ve_15 ve_16 ve_17 ve_18 ve_19 s12]) (S' := [wTV nm_0 sb_0 d_0 ve_0 vo_0 re_0 ro_0 nm0, wSB cB sb_0 sb_1 sb0, wSD d_0 sb_0 d0, wV cI cJ ve_0 ve_1 ve_2 ve_3 ve_4 ve_5 ve_6 ve_7 ve_8 ve_9 ve_10 ve_11 ve_12 ve_13 ve_14 ve_15 ve_16 ve_17 ve_18 ve_19 s12, wV cI cJ vo_0 vo_1 vo_2 vo_3 vo_4 vo_5 vo_6 vo_7 vo_8 vo_9 vo_10 vo_11 vo_12 vo_13 vo_14 vo_15 vo_16 vo_17 vo_18 vo_19 vo0, wRC re_0 ve_0 sb_0 re0, wRC ro_0 vo_0 sb_0 ro0]) C (c_X6_settle l D cB cI cJ cZ ve_0 ve_1 ve_2 ve_3 ve_4 ve_5 ve_6 ve_7 ve_8 ve_9 ve_10 ve_11 ve_12 ve_13 ve_14 ve_15 ve_16 ve_17 ve_18 ve_19 y13) rfl rfl (gIV ml_X7_81 im_X6_settle sl_X6_settle in_X6 cd_X6_settle) rfl eX6_settle rfl ⟨rfl, rfl⟩ ⟨Nat.le_of_ble_eq_true rfl, Nat.le_of_ble_eq_true rfl⟩ rfl rfl rfl [3] rfl rfl rfl rfl (gA_cons aV gA_nil) rfl rfl (Nat.le_of_ble_eq_true rfl) (tdec DX7_clear 24 rfl) rfl ?_
          refine g_iload (z := 0) C (tdec DX7_clear 25 rfl) rfl rfl ?_
          refine g_if_eq (pt := 58) C (tdec DX7_clear 26 rfl) (by decide) rfl (fun h14 => ?_) (fun h14 => ?_)
          · have hF := o_ifp hF h14
            refine g_iconst (v := 5) C (tdec DX7_clear 29 rfl) (by decide) rfl ?_
            have hr9 := o_some hF
            subst hr9
            exact g_iretX (s12, vo0) C rfl rfl (tdec DX7_clear 30 rfl)
          · have hF := o_ifn hF h14
            refine g_iconst (v := 0) C (tdec DX7_clear 27 rfl) (by decide) rfl ?_
            refine g_goto (pt := 59) C (tdec DX7_clear 28 rfl) (by decide) ?_
            have hr9 := o_some hF
            subst hr9
            exact g_iretX (s12, vo0) C rfl rfl (tdec DX7_clear 30 rfl)
        · have hF := o_ifn hF h8
          refine g_bipush (v := 6) C (tdec DX7_clear 16 rfl) (by decide) rfl ?_
          have hr9 := o_some hF
          subst hr9
          exact g_iretX (ve0, vo0) C rfl rfl (tdec DX7_clear 17 rfl)
      · have hF := o_ifp hF h5
        have hr9 := o_some hF
        subst hr9
        exact g_throw (cls := xIA) C htab hX hZ hfl (by decide) (by decide) (gMem xl_X7_55) (gMem xn_xIA) (gIn xg_X7_57) xb_X7_57 xo_X7_57 rfl rfl (tdec DX7_clear 9 rfl) (tdec DX7_clear 10 rfl) (tdec DX7_clear 11 rfl) (tdec DX7_clear 12 rfl) rfl rfl rfl (by decide) (by decide) (by decide) (by decide)
    | succ k27 =>
      refine g_st (st' := [.ref vo_0]) rfl ?_
      refine g_astore_n (L' := [(3, .ref vo_0), (0, .ref nm_0), (1, .int p1), (2, .int p2)]) C (tdec DX7_clear 3 rfl) rfl (by decide) rfl rfl ?_
      refine g_aload_n (z := 0) C (tdec DX7_clear 4 rfl) rfl rfl rfl ?_
      refine g_ifnullR C (tdec DX7_clear 5 rfl) rfl ?_
      refine g_iload_n (z := 3) C (tdec DX7_clear 6 rfl) rfl rfl rfl ?_
      obtain ⟨r15, y16, hF⟩ := o_bind hF
      refine g_callSiR C (c_X7_isPlace l D cB cI cJ cZ y16) (gIS ml_X7_69 st_X7_isPlace in_X7 cd_X7_isPlace) eX7_isPlace rfl ⟨rfl, rfl⟩ ⟨Nat.le_of_ble_eq_true rfl, Nat.le_of_ble_eq_true rfl⟩ rfl [] rfl rfl rfl (Nat.le_of_ble_eq_true rfl) (tdec DX7_clear 7 rfl) rfl ?_
      refine g_if_ne (pt := 25) C (tdec DX7_clear 8 rfl) (by decide) rfl (fun h17 => ?_) (fun h17 => ?_)
      · have hF := o_ifn hF h17
        refine g_aload_n (z := 0) C (tdec DX7_clear 13 rfl) rfl rfl rfl ?_
        obtain ⟨r18, y19, hF⟩ := o_bind hF
        refine g_callViRS (q0 := 24) (S := [wTV nm_0 sb_0 d_0 ve_0 vo_0 re_0 ro_0 nm0, wSB cB sb_0 sb_1 sb0, wSD d_0 sb_0 d0, wV cI cJ ve_0 ve_1 ve_2 ve_3 ve_4 ve_5 ve_6 ve_7 ve_8 ve_9 ve_10 ve_11 ve_12 ve_13 ve_14 ve_15 ve_16 ve_17 ve_18 ve_19 ve0, wV cI cJ vo_0 vo_1 vo_2 vo_3 vo_4 vo_5 vo_6 vo_7 vo_8 vo_9 vo_10 vo_11 vo_12 vo_13 vo_14 vo_15 vo_16 vo_17 vo_18 vo_19 vo0, wRC re_0 ve_0 sb_0 re0, wRC ro_0 vo_0 sb_0 ro0]) (S0 := [wV cI cJ vo_0 vo_1 vo_2 vo_3 vo_4 vo_5 vo_6 vo_7 vo_8 vo_9 vo_10 vo_11 vo_12 vo_13 vo_14 vo_15 vo_16 vo_17 vo_18 vo_19 vo0]) C (c_X6_isBusy l D cB cI cJ cZ vo_0 vo_1 vo_2 vo_3 vo_4 vo_5 vo_6 vo_7 vo_8 vo_9 vo_10 vo_11 vo_12 vo_13 vo_14 vo_15 vo_16 vo_17 vo_18 vo_19 y19) rfl rfl (gIV ml_X7_73 im_X6_isBusy sl_X6_isBusy in_X6 cd_X6_isBusy) rfl eX6_isBusy rfl ⟨rfl, rfl⟩ ⟨Nat.le_of_ble_eq_true rfl, Nat.le_of_ble_eq_true rfl⟩ rfl rfl rfl [4] rfl rfl rfl (Nat.le_of_ble_eq_true rfl) (tdec DX7_clear 14 rfl) rfl ?_
        refine g_if_eq (pt := 35) C (tdec DX7_clear 15 rfl) (by decide) rfl (fun h20 => ?_) (fun h20 => ?_)
        · have hF := o_ifp hF h20
          refine g_aload_n (z := 0) C (tdec DX7_clear 18 rfl) rfl rfl rfl ?_
          refine g_sipush (v := 4800) C (tdec DX7_clear 19 rfl) (by decide) rfl ?_
          refine g_iload_n (z := 3) C (tdec DX7_clear 20 rfl) rfl rfl rfl ?_
          obtain ⟨⟨r21, s22⟩, y23, hF⟩ := o_bind hF
          refine g_callViMS (q0 := 24) (W' := wTV nm_0 sb_0 d_0 ve_0 vo_0 re_0 ro_0 nm0 ++ (wSB cB sb_0 sb_1 sb0 ++ (wSD d_0 sb_0 d0 ++ (wV cI cJ ve_0 ve_1 ve_2 ve_3 ve_4 ve_5 ve_6 ve_7 ve_8 ve_9 ve_10 ve_11 ve_12 ve_13 ve_14 ve_15 ve_16 ve_17 ve_18 ve_19 ve0 ++ (wV cI cJ vo_0 vo_1 vo_2 vo_3 vo_4 vo_5 vo_6 vo_7 vo_8 vo_9 vo_10 vo_11 vo_12 vo_13 vo_14 vo_15 vo_16 vo_17 vo_18 vo_19 s22 ++ (wRC re_0 ve_0 sb_0 re0 ++ (wRC ro_0 vo_0 sb_0 ro0))))))) (S := [wTV nm_0 sb_0 d_0 ve_0 vo_0 re_0 ro_0 nm0, wSB cB sb_0 sb_1 sb0, wSD d_0 sb_0 d0, wV cI cJ ve_0 ve_1 ve_2 ve_3 ve_4 ve_5 ve_6 ve_7 ve_8 ve_9 ve_10 ve_11 ve_12 ve_13 ve_14 ve_15 ve_16 ve_17 ve_18 ve_19 ve0, wV cI cJ vo_0 vo_1 vo_2 vo_3 vo_4 vo_5 vo_6 vo_7 vo_8 vo_9 vo_10 vo_11 vo_12 vo_13 vo_14 vo_15 vo_16 vo_17 vo_18 vo_19 vo0, wRC re_0 ve_0 sb_0 re0, wRC ro_0 vo_0 sb_0 ro0]) (S0 := [wV cI cJ vo_0 vo_1 vo_2 vo_3 vo_4 vo_5 vo_6 vo_7 vo_8 vo_9 vo_10 vo_11 vo_12 vo_13 vo_14 vo_15 vo_16 vo_17 vo_18 vo_19 vo0]) (S1 := [wV cI cJ vo_0 vo_1 vo_2 vo_3 vo_4 vo_5 vo_6 vo_7 vo_8 vo_9 vo_10 vo_11 vo_12 vo_13 vo_14 vo_15 vo_16 vo_17 vo_18 vo_19 s22]) (S' := [wTV nm_0 sb_0 d_0 ve_0 vo_0 re_0 ro_0 nm0, wSB cB sb_0 sb_1 sb0, wSD d_0 sb_0 d0, wV cI cJ ve_0 ve_1 ve_2 ve_3 ve_4 ve_5 ve_6 ve_7 ve_8 ve_9 ve_10 ve_11 ve_12 ve_13 ve_14 ve_15 ve_16 ve_17 ve_18 ve_19 ve0, wV cI cJ vo_0 vo_1 vo_2 vo_3 vo_4 vo_5 vo_6 vo_7 vo_8 vo_9 vo_10 vo_11 vo_12 vo_13 vo_14 vo_15 vo_16 vo_17 vo_18 vo_19 s22, wRC re_0 ve_0 sb_0 re0, wRC ro_0 vo_0 sb_0 ro0]) C (c_X6_clearPlace l D cB cI cJ cZ vo_0 vo_1 vo_2 vo_3 vo_4 vo_5 vo_6 vo_7 vo_8 vo_9 vo_10 vo_11 vo_12 vo_13 vo_14 vo_15 vo_16 vo_17 vo_18 vo_19 y23) rfl rfl (gIV ml_X7_84 im_X6_clearPlace sl_X6_clearPlace in_X6 cd_X6_clearPlace) rfl eX6_clearPlace rfl ⟨rfl, rfl⟩ ⟨Nat.le_of_ble_eq_true rfl, Nat.le_of_ble_eq_true rfl⟩ rfl rfl rfl [4] rfl rfl rfl rfl (gA_cons aV gA_nil) rfl rfl (Nat.le_of_ble_eq_true rfl) (tdec DX7_clear 21 rfl) rfl ?_
          refine g_istore (L' := [(4, .int r21), (3, .ref vo_0), (0, .ref nm_0), (1, .int p1), (2, .int p2)]) C (tdec DX7_clear 22 rfl) (by decide) rfl rfl ?_
          refine g_aload_n (z := 1) C (tdec DX7_clear 23 rfl) rfl rfl rfl ?_
          obtain ⟨s24, y25, hF⟩ := o_bind hF
          refine g_callVvMS (q0 := 24) (W' := wTV nm_0 sb_0 d_0 ve_0 vo_0 re_0 ro_0 nm0 ++ (wSB cB sb_0 sb_1 sb0 ++ (wSD d_0 sb_0 d0 ++ (wV cI cJ ve_0 ve_1 ve_2 ve_3 ve_4 ve_5 ve_6 ve_7 ve_8 ve_9 ve_10 ve_11 ve_12 ve_13 ve_14 ve_15 ve_16 ve_17 ve_18 ve_19 ve0 ++ (wV cI cJ vo_0 vo_1 vo_2 vo_3 vo_4 vo_5 vo_6 vo_7 vo_8 vo_9 vo_10 vo_11 vo_12 vo_13 vo_14 vo_15 vo_16 vo_17 vo_18 vo_19 s24 ++ (wRC re_0 ve_0 sb_0 re0 ++ (wRC ro_0 vo_0 sb_0 ro0))))))) (S := [wTV nm_0 sb_0 d_0 ve_0 vo_0 re_0 ro_0 nm0, wSB cB sb_0 sb_1 sb0, wSD d_0 sb_0 d0, wV cI cJ ve_0 ve_1 ve_2 ve_3 ve_4 ve_5 ve_6 ve_7 ve_8 ve_9 ve_10 ve_11 ve_12 ve_13 ve_14 ve_15 ve_16 ve_17 ve_18 ve_19 ve0, wV cI cJ vo_0 vo_1 vo_2 vo_3 vo_4 vo_5 vo_6 vo_7 vo_8 vo_9 vo_10 vo_11 vo_12 vo_13 vo_14 vo_15 vo_16 vo_17 vo_18 vo_19 s22, wRC re_0 ve_0 sb_0 re0, wRC ro_0 vo_0 sb_0 ro0]) (S0 := [wV cI cJ vo_0 vo_1 vo_2 vo_3 vo_4 vo_5 vo_6 vo_7 vo_8 vo_9 vo_10 vo_11 vo_12 vo_13 vo_14 vo_15 vo_16 vo_17 vo_18 vo_19 s22]) (S1 := [wV cI cJ vo_0 vo_1 vo_2 vo_3 vo_4 vo_5 vo_6 vo_7 vo_8 vo_9 vo_10 vo_11 vo_12 vo_13 vo_14 vo_15 vo_16 vo_17 vo_18 vo_19 s24]) (S' := [wTV nm_0 sb_0 d_0 ve_0 vo_0 re_0 ro_0 nm0, wSB cB sb_0 sb_1 sb0, wSD d_0 sb_0 d0, wV cI cJ ve_0 ve_1 ve_2 ve_3 ve_4 ve_5 ve_6 ve_7 ve_8 ve_9 ve_10 ve_11 ve_12 ve_13 ve_14 ve_15 ve_16 ve_17 ve_18 ve_19 ve0, wV cI cJ vo_0 vo_1 vo_2 vo_3 vo_4 vo_5 vo_6 vo_7 vo_8 vo_9 vo_10 vo_11 vo_12 vo_13 vo_14 vo_15 vo_16 vo_17 vo_18 vo_19 s24, wRC re_0 ve_0 sb_0 re0, wRC ro_0 vo_0 sb_0 ro0]) C (c_X6_settle l D cB cI cJ cZ vo_0 vo_1 vo_2 vo_3 vo_4 vo_5 vo_6 vo_7 vo_8 vo_9 vo_10 vo_11 vo_12 vo_13 vo_14 vo_15 vo_16 vo_17 vo_18 vo_19 y25) rfl rfl (gIV ml_X7_81 im_X6_settle sl_X6_settle in_X6 cd_X6_settle) rfl eX6_settle rfl ⟨rfl, rfl⟩ ⟨Nat.le_of_ble_eq_true rfl, Nat.le_of_ble_eq_true rfl⟩ rfl rfl rfl [4] rfl rfl rfl rfl (gA_cons aV gA_nil) rfl rfl (Nat.le_of_ble_eq_true rfl) (tdec DX7_clear 24 rfl) rfl ?_
          refine g_iload (z := 0) C (tdec DX7_clear 25 rfl) rfl rfl ?_
          refine g_if_eq (pt := 58) C (tdec DX7_clear 26 rfl) (by decide) rfl (fun h26 => ?_) (fun h26 => ?_)
          · have hF := o_ifp hF h26
            refine g_iconst (v := 5) C (tdec DX7_clear 29 rfl) (by decide) rfl ?_
            have hr9 := o_some hF
            subst hr9
            exact g_iretX (ve0, s24) C rfl rfl (tdec DX7_clear 30 rfl)
          · have hF := o_ifn hF h26
            refine g_iconst (v := 0) C (tdec DX7_clear 27 rfl) (by decide) rfl ?_
            refine g_goto (pt := 59) C (tdec DX7_clear 28 rfl) (by decide) ?_
            have hr9 := o_some hF
            subst hr9
            exact g_iretX (ve0, s24) C rfl rfl (tdec DX7_clear 30 rfl)
        · have hF := o_ifn hF h20
          refine g_bipush (v := 6) C (tdec DX7_clear 16 rfl) (by decide) rfl ?_
          have hr9 := o_some hF
          subst hr9
          exact g_iretX (ve0, vo0) C rfl rfl (tdec DX7_clear 17 rfl)
      · have hF := o_ifp hF h17
        have hr9 := o_some hF
        subst hr9
        exact g_throw (cls := xIA) C htab hX hZ hfl (by decide) (by decide) (gMem xl_X7_55) (gMem xn_xIA) (gIn xg_X7_57) xb_X7_57 xo_X7_57 rfl rfl (tdec DX7_clear 9 rfl) (tdec DX7_clear 10 rfl) (tdec DX7_clear 11 rfl) (tdec DX7_clear 12 rfl) rfl rfl rfl (by decide) (by decide) (by decide) (by decide)
def FX7_read (nm0 : Int64) (sb0 : SB) (d0 : SD) (ve0 : VS) (vo0 : VS) (re0 : RC) (ro0 : RC) (p1 : Int32) (p2 : Int32) (p3 : Int32) : Option (Except String (Int64 × Unit)) :=
  (FX7_find nm0 p1).bind fun q2 =>
  (match q2 with
  | none =>
    some (.error xIA)
  | some 0 =>
    (FX7_isPlace p3).bind fun r3 =>
    if r3 = 0 then
      some (.error xIA)
    else
      if p2 = (-1) then
        (FX6_readPlace ve0 4800 p3).bind fun r7 =>
        some (.ok (r7, ()))
      else
        (FX6_hasSnapshot ve0 p2).bind fun r9 =>
        if r9 = 0 then
          some (.error xNS)
        else
          (FX6_readPlace ve0 (4802 + p2) p3).bind fun r12 =>
          some (.ok (r12, ()))
  | some (_ + 1) =>
    (FX7_isPlace p3).bind fun r14 =>
    if r14 = 0 then
      some (.error xIA)
    else
      if p2 = (-1) then
        (FX6_readPlace vo0 4800 p3).bind fun r18 =>
        some (.ok (r18, ()))
      else
        (FX6_hasSnapshot vo0 p2).bind fun r20 =>
        if r20 = 0 then
          some (.error xNS)
        else
          (FX6_readPlace vo0 (4802 + p2) p3).bind fun r23 =>
          some (.ok (r23, ())))
def rX7_read : Room := { frames := 6, cells := 1, slots := 6, locals := 92 }
set_option maxHeartbeats 4000000 in
set_option maxRecDepth 100000 in
theorem c_X7_read (l : Launch) (hfl : l.stackTraces = false) (D : va_G) (cB cI cJ cZ : ClassId) (nm_0 sb_0 sb_1 d_0 ve_0 ve_1 ve_2 ve_3 ve_4 ve_5 ve_6 ve_7 ve_8 ve_9 ve_10 ve_11 ve_12 ve_13 ve_14 ve_15 ve_16 ve_17 ve_18 ve_19 vo_0 vo_1 vo_2 vo_3 vo_4 vo_5 vo_6 vo_7 vo_8 vo_9 vo_10 vo_11 vo_12 vo_13 vo_14 vo_15 vo_16 vo_17 vo_18 vo_19 re_0 ro_0 : Nat) {nm0 : Int64} {sb0 : SB} {d0 : SD} {ve0 : VS} {vo0 : VS} {re0 : RC} {ro0 : RC} {p1 : Int32} {p2 : Int32} {p3 : Int32} {res : Except String (Int64 × Unit)} (hF : FX7_read nm0 sb0 d0 ve0 vo0 re0 ro0 p1 p2 p3 = some res) : gXl l yX7_read wsX7_read rX7_read D (gT cB cI cJ cZ) [.ref nm_0, .int p1, .int p2, .int p3] (wTV nm_0 sb_0 d_0 ve_0 vo_0 re_0 ro_0 nm0 ++ (wSB cB sb_0 sb_1 sb0 ++ (wSD d_0 sb_0 d0 ++ (wV cI cJ ve_0 ve_1 ve_2 ve_3 ve_4 ve_5 ve_6 ve_7 ve_8 ve_9 ve_10 ve_11 ve_12 ve_13 ve_14 ve_15 ve_16 ve_17 ve_18 ve_19 ve0 ++ (wV cI cJ vo_0 vo_1 vo_2 vo_3 vo_4 vo_5 vo_6 vo_7 vo_8 vo_9 vo_10 vo_11 vo_12 vo_13 vo_14 vo_15 vo_16 vo_17 vo_18 vo_19 vo0 ++ (wRC re_0 ve_0 sb_0 re0 ++ (wRC ro_0 vo_0 sb_0 ro0))))))) res (fun u : Unit => wTV nm_0 sb_0 d_0 ve_0 vo_0 re_0 ro_0 nm0 ++ (wSB cB sb_0 sb_1 sb0 ++ (wSD d_0 sb_0 d0 ++ (wV cI cJ ve_0 ve_1 ve_2 ve_3 ve_4 ve_5 ve_6 ve_7 ve_8 ve_9 ve_10 ve_11 ve_12 ve_13 ve_14 ve_15 ve_16 ve_17 ve_18 ve_19 ve0 ++ (wV cI cJ vo_0 vo_1 vo_2 vo_3 vo_4 vo_5 vo_6 vo_7 vo_8 vo_9 vo_10 vo_11 vo_12 vo_13 vo_14 vo_15 vo_16 vo_17 vo_18 vo_19 vo0 ++ (wRC re_0 ve_0 sb_0 re0 ++ (wRC ro_0 vo_0 sb_0 ro0))))))) := by
  refine g_enterX (own := RX7) (Qc := (fun sz => gXQl D (wTV nm_0 sb_0 d_0 ve_0 vo_0 re_0 ro_0 nm0 ++ (wSB cB sb_0 sb_1 sb0 ++ (wSD d_0 sb_0 d0 ++ (wV cI cJ ve_0 ve_1 ve_2 ve_3 ve_4 ve_5 ve_6 ve_7 ve_8 ve_9 ve_10 ve_11 ve_12 ve_13 ve_14 ve_15 ve_16 ve_17 ve_18 ve_19 ve0 ++ (wV cI cJ vo_0 vo_1 vo_2 vo_3 vo_4 vo_5 vo_6 vo_7 vo_8 vo_9 vo_10 vo_11 vo_12 vo_13 vo_14 vo_15 vo_16 vo_17 vo_18 vo_19 vo0 ++ (wRC re_0 ve_0 sb_0 re0 ++ (wRC ro_0 vo_0 sb_0 ro0))))))) sz (fun r (u : Unit) => res = .ok (r, u)) (fun u : Unit => wTV nm_0 sb_0 d_0 ve_0 vo_0 re_0 ro_0 nm0 ++ (wSB cB sb_0 sb_1 sb0 ++ (wSD d_0 sb_0 d0 ++ (wV cI cJ ve_0 ve_1 ve_2 ve_3 ve_4 ve_5 ve_6 ve_7 ve_8 ve_9 ve_10 ve_11 ve_12 ve_13 ve_14 ve_15 ve_16 ve_17 ve_18 ve_19 ve0 ++ (wV cI cJ vo_0 vo_1 vo_2 vo_3 vo_4 vo_5 vo_6 vo_7 vo_8 vo_9 vo_10 vo_11 vo_12 vo_13 vo_14 vo_15 vo_16 vo_17 vo_18 vo_19 vo0 ++ (wRC re_0 ve_0 sb_0 re0 ++ (wRC ro_0 vo_0 sb_0 ro0))))))))) (XC := (fun sz => gXC D (wTV nm_0 sb_0 d_0 ve_0 vo_0 re_0 ro_0 nm0 ++ (wSB cB sb_0 sb_1 sb0 ++ (wSD d_0 sb_0 d0 ++ (wV cI cJ ve_0 ve_1 ve_2 ve_3 ve_4 ve_5 ve_6 ve_7 ve_8 ve_9 ve_10 ve_11 ve_12 ve_13 ve_14 ve_15 ve_16 ve_17 ve_18 ve_19 ve0 ++ (wV cI cJ vo_0 vo_1 vo_2 vo_3 vo_4 vo_5 vo_6 vo_7 vo_8 vo_9 vo_10 vo_11 vo_12 vo_13 vo_14 vo_15 vo_16 vo_17 vo_18 vo_19 vo0 ++ (wRC re_0 ve_0 sb_0 re0 ++ (wRC ro_0 vo_0 sb_0 ro0))))))) sz (fun E => res = .error E))) rfl (by decide) rfl (Nat.le_of_ble_eq_true rfl) rfl ?_
  intro p e s m args below meth c C htab hX hZ
  unfold FX7_read at hF
  refine g_aload_n (z := 0) C (tdec DX7_read 0 rfl) rfl rfl rfl ?_
  refine g_iload_n (z := 1) C (tdec DX7_read 1 rfl) rfl rfl rfl ?_
  obtain ⟨q2, y1, hF⟩ := o_bind hF
  refine g_callVqRS (q0 := 0) (S := [wTV nm_0 sb_0 d_0 ve_0 vo_0 re_0 ro_0 nm0, wSB cB sb_0 sb_1 sb0, wSD d_0 sb_0 d0, wV cI cJ ve_0 ve_1 ve_2 ve_3 ve_4 ve_5 ve_6 ve_7 ve_8 ve_9 ve_10 ve_11 ve_12 ve_13 ve_14 ve_15 ve_16 ve_17 ve_18 ve_19 ve0, wV cI cJ vo_0 vo_1 vo_2 vo_3 vo_4 vo_5 vo_6 vo_7 vo_8 vo_9 vo_10 vo_11 vo_12 vo_13 vo_14 vo_15 vo_16 vo_17 vo_18 vo_19 vo0, wRC re_0 ve_0 sb_0 re0, wRC ro_0 vo_0 sb_0 ro0]) (S0 := [wTV nm_0 sb_0 d_0 ve_0 vo_0 re_0 ro_0 nm0]) C (c_X7_find l D cB cI cJ cZ nm_0 sb_0 d_0 ve_0 vo_0 re_0 ro_0 y1) rfl rfl (gIV ml_X7_51 im_X7_find sl_X7_find in_X7 cd_X7_find) rfl eX7_find rfl ⟨rfl, rfl⟩ ⟨Nat.le_of_ble_eq_true rfl, Nat.le_of_ble_eq_true rfl⟩ rfl rfl rfl [0] rfl rfl rfl (Nat.le_of_ble_eq_true rfl) (tdec DX7_read 2 rfl) rfl ?_
  cases q2 with
  | none =>
    refine g_st (st' := [.null]) rfl ?_
    refine g_astoreN (L' := [(4, .null), (0, .ref nm_0), (1, .int p1), (2, .int p2), (3, .int p3)]) C (tdec DX7_read 3 rfl) (by decide) rfl rfl ?_
    refine g_aloadN (z := 0) C (tdec DX7_read 4 rfl) rfl rfl ?_
    refine g_ifnullN (pt := 19) C (tdec DX7_read 5 rfl) (by decide) ?_
    have hr9 := o_some hF
    subst hr9
    exact g_throw (cls := xIA) C htab hX hZ hfl (by decide) (by decide) (gMem xl_X7_55) (gMem xn_xIA) (gIn xg_X7_57) xb_X7_57 xo_X7_57 rfl rfl (tdec DX7_read 9 rfl) (tdec DX7_read 10 rfl) (tdec DX7_read 11 rfl) (tdec DX7_read 12 rfl) rfl rfl rfl (by decide) (by decide) (by decide) (by decide)
  | some k25 =>
    cases k25 with
    | zero =>
      refine g_st (st' := [.ref ve_0]) rfl ?_
      refine g_astore (L' := [(4, .ref ve_0), (0, .ref nm_0), (1, .int p1), (2, .int p2), (3, .int p3)]) C (tdec DX7_read 3 rfl) (by decide) rfl rfl ?_
      refine g_aload (z := 0) C (tdec DX7_read 4 rfl) rfl rfl ?_
      refine g_ifnullR C (tdec DX7_read 5 rfl) rfl ?_
      refine g_iload_n (z := 4) C (tdec DX7_read 6 rfl) rfl rfl rfl ?_
      obtain ⟨r3, y4, hF⟩ := o_bind hF
      refine g_callSiR C (c_X7_isPlace l D cB cI cJ cZ y4) (gIS ml_X7_69 st_X7_isPlace in_X7 cd_X7_isPlace) eX7_isPlace rfl ⟨rfl, rfl⟩ ⟨Nat.le_of_ble_eq_true rfl, Nat.le_of_ble_eq_true rfl⟩ rfl [] rfl rfl rfl (Nat.le_of_ble_eq_true rfl) (tdec DX7_read 7 rfl) rfl ?_
      refine g_if_ne (pt := 27) C (tdec DX7_read 8 rfl) (by decide) rfl (fun h5 => ?_) (fun h5 => ?_)
      · have hF := o_ifn hF h5
        refine g_iload_n (z := 3) C (tdec DX7_read 13 rfl) rfl rfl rfl ?_
        refine g_iconst (v := (-1)) C (tdec DX7_read 14 rfl) (by decide) rfl ?_
        refine g_icmp_eq (pt := 49) C (tdec DX7_read 15 rfl) (by decide) rfl (fun h6 => ?_) (fun h6 => ?_)
        · have hF := o_ifp hF h6
          refine g_aload (z := 0) C (tdec DX7_read 24 rfl) rfl rfl ?_
          refine g_iload_n (z := 3) C (tdec DX7_read 25 rfl) rfl rfl rfl ?_
          refine g_iconst (v := (-1)) C (tdec DX7_read 26 rfl) (by decide) rfl ?_
          refine g_icmp_ne (pt := 62) C (tdec DX7_read 27 rfl) (by decide) rfl (fun h => absurd h6 h) (fun _ => ?_)
          refine g_sipush (v := 4800) C (tdec DX7_read 28 rfl) (by decide) rfl ?_
          refine g_goto (pt := 67) C (tdec DX7_read 29 rfl) (by decide) ?_
          refine g_iload_n (z := 4) C (tdec DX7_read 33 rfl) rfl rfl rfl ?_
          obtain ⟨r7, y8, hF⟩ := o_bind hF
          refine g_callVlRS (q0 := 4) (S := [wTV nm_0 sb_0 d_0 ve_0 vo_0 re_0 ro_0 nm0, wSB cB sb_0 sb_1 sb0, wSD d_0 sb_0 d0, wV cI cJ ve_0 ve_1 ve_2 ve_3 ve_4 ve_5 ve_6 ve_7 ve_8 ve_9 ve_10 ve_11 ve_12 ve_13 ve_14 ve_15 ve_16 ve_17 ve_18 ve_19 ve0, wV cI cJ vo_0 vo_1 vo_2 vo_3 vo_4 vo_5 vo_6 vo_7 vo_8 vo_9 vo_10 vo_11 vo_12 vo_13 vo_14 vo_15 vo_16 vo_17 vo_18 vo_19 vo0, wRC re_0 ve_0 sb_0 re0, wRC ro_0 vo_0 sb_0 ro0]) (S0 := [wV cI cJ ve_0 ve_1 ve_2 ve_3 ve_4 ve_5 ve_6 ve_7 ve_8 ve_9 ve_10 ve_11 ve_12 ve_13 ve_14 ve_15 ve_16 ve_17 ve_18 ve_19 ve0]) C (c_X6_readPlace l D cB cI cJ cZ ve_0 ve_1 ve_2 ve_3 ve_4 ve_5 ve_6 ve_7 ve_8 ve_9 ve_10 ve_11 ve_12 ve_13 ve_14 ve_15 ve_16 ve_17 ve_18 ve_19 y8) rfl rfl (gIV ml_X7_94 im_X6_readPlace sl_X6_readPlace in_X6 cd_X6_readPlace) rfl eX6_readPlace rfl ⟨rfl, rfl⟩ ⟨Nat.le_of_ble_eq_true rfl, Nat.le_of_ble_eq_true rfl⟩ rfl rfl rfl [3] rfl rfl rfl (Nat.le_of_ble_eq_true rfl) (tdec DX7_read 34 rfl) rfl ?_
          have hr9 := o_some hF
          subst hr9
          exact g_lretX () C rfl rfl (tdec DX7_read 35 rfl)
        · have hF := o_ifn hF h6
          refine g_aload (z := 0) C (tdec DX7_read 16 rfl) rfl rfl ?_
          refine g_iload_n (z := 3) C (tdec DX7_read 17 rfl) rfl rfl rfl ?_
          obtain ⟨r9, y10, hF⟩ := o_bind hF
          refine g_callViRS (q0 := 4) (S := [wTV nm_0 sb_0 d_0 ve_0 vo_0 re_0 ro_0 nm0, wSB cB sb_0 sb_1 sb0, wSD d_0 sb_0 d0, wV cI cJ ve_0 ve_1 ve_2 ve_3 ve_4 ve_5 ve_6 ve_7 ve_8 ve_9 ve_10 ve_11 ve_12 ve_13 ve_14 ve_15 ve_16 ve_17 ve_18 ve_19 ve0, wV cI cJ vo_0 vo_1 vo_2 vo_3 vo_4 vo_5 vo_6 vo_7 vo_8 vo_9 vo_10 vo_11 vo_12 vo_13 vo_14 vo_15 vo_16 vo_17 vo_18 vo_19 vo0, wRC re_0 ve_0 sb_0 re0, wRC ro_0 vo_0 sb_0 ro0]) (S0 := [wV cI cJ ve_0 ve_1 ve_2 ve_3 ve_4 ve_5 ve_6 ve_7 ve_8 ve_9 ve_10 ve_11 ve_12 ve_13 ve_14 ve_15 ve_16 ve_17 ve_18 ve_19 ve0]) C (c_X6_hasSnapshot l D cB cI cJ cZ ve_0 ve_1 ve_2 ve_3 ve_4 ve_5 ve_6 ve_7 ve_8 ve_9 ve_10 ve_11 ve_12 ve_13 ve_14 ve_15 ve_16 ve_17 ve_18 ve_19 y10) rfl rfl (gIV ml_X7_88 im_X6_hasSnapshot sl_X6_hasSnapshot in_X6 cd_X6_hasSnapshot) rfl eX6_hasSnapshot rfl ⟨rfl, rfl⟩ ⟨Nat.le_of_ble_eq_true rfl, Nat.le_of_ble_eq_true rfl⟩ rfl rfl rfl [3] rfl rfl rfl (Nat.le_of_ble_eq_true rfl) (tdec DX7_read 18 rfl) rfl ?_
          refine g_if_ne (pt := 49) C (tdec DX7_read 19 rfl) (by decide) rfl (fun h11 => ?_) (fun h11 => ?_)
          · have hF := o_ifn hF h11
            refine g_aload (z := 0) C (tdec DX7_read 24 rfl) rfl rfl ?_
            refine g_iload_n (z := 3) C (tdec DX7_read 25 rfl) rfl rfl rfl ?_
            refine g_iconst (v := (-1)) C (tdec DX7_read 26 rfl) (by decide) rfl ?_
            refine g_icmp_ne (pt := 62) C (tdec DX7_read 27 rfl) (by decide) rfl (fun _ => ?_) (fun h => absurd h h6)
            refine g_sipush (v := 4802) C (tdec DX7_read 30 rfl) (by decide) rfl ?_
            refine g_iload_n (z := 3) C (tdec DX7_read 31 rfl) rfl rfl rfl ?_
            refine g_iadd C (tdec DX7_read 32 rfl) rfl ?_
            refine g_iload_n (z := 4) C (tdec DX7_read 33 rfl) rfl rfl rfl ?_
            obtain ⟨r12, y13, hF⟩ := o_bind hF
            refine g_callVlRS (q0 := 4) (S := [wTV nm_0 sb_0 d_0 ve_0 vo_0 re_0 ro_0 nm0, wSB cB sb_0 sb_1 sb0, wSD d_0 sb_0 d0, wV cI cJ ve_0 ve_1 ve_2 ve_3 ve_4 ve_5 ve_6 ve_7 ve_8 ve_9 ve_10 ve_11 ve_12 ve_13 ve_14 ve_15 ve_16 ve_17 ve_18 ve_19 ve0, wV cI cJ vo_0 vo_1 vo_2 vo_3 vo_4 vo_5 vo_6 vo_7 vo_8 vo_9 vo_10 vo_11 vo_12 vo_13 vo_14 vo_15 vo_16 vo_17 vo_18 vo_19 vo0, wRC re_0 ve_0 sb_0 re0, wRC ro_0 vo_0 sb_0 ro0]) (S0 := [wV cI cJ ve_0 ve_1 ve_2 ve_3 ve_4 ve_5 ve_6 ve_7 ve_8 ve_9 ve_10 ve_11 ve_12 ve_13 ve_14 ve_15 ve_16 ve_17 ve_18 ve_19 ve0]) C (c_X6_readPlace l D cB cI cJ cZ ve_0 ve_1 ve_2 ve_3 ve_4 ve_5 ve_6 ve_7 ve_8 ve_9 ve_10 ve_11 ve_12 ve_13 ve_14 ve_15 ve_16 ve_17 ve_18 ve_19 y13) rfl rfl (gIV ml_X7_94 im_X6_readPlace sl_X6_readPlace in_X6 cd_X6_readPlace) rfl eX6_readPlace rfl ⟨rfl, rfl⟩ ⟨Nat.le_of_ble_eq_true rfl, Nat.le_of_ble_eq_true rfl⟩ rfl rfl rfl [3] rfl rfl rfl (Nat.le_of_ble_eq_true rfl) (tdec DX7_read 34 rfl) rfl ?_
            have hr9 := o_some hF
            subst hr9
            exact g_lretX () C rfl rfl (tdec DX7_read 35 rfl)
          · have hF := o_ifp hF h11
            have hr9 := o_some hF
            subst hr9
            exact g_throw (cls := xNS) C htab hX hZ hfl (by decide) (by decide) (gMem xl_X7_91) (gMem xn_xNS) (gIn xg_X7_93) xb_X7_93 xo_X7_93 rfl rfl (tdec DX7_read 20 rfl) (tdec DX7_read 21 rfl) (tdec DX7_read 22 rfl) (tdec DX7_read 23 rfl) rfl rfl rfl (by decide) (by decide) (by decide) (by decide)
      · have hF := o_ifp hF h5
        have hr9 := o_some hF
        subst hr9
        exact g_throw (cls := xIA) C htab hX hZ hfl (by decide) (by decide) (gMem xl_X7_55) (gMem xn_xIA) (gIn xg_X7_57) xb_X7_57 xo_X7_57 rfl rfl (tdec DX7_read 9 rfl) (tdec DX7_read 10 rfl) (tdec DX7_read 11 rfl) (tdec DX7_read 12 rfl) rfl rfl rfl (by decide) (by decide) (by decide) (by decide)
    | succ k25 =>
      refine g_st (st' := [.ref vo_0]) rfl ?_
      refine g_astore (L' := [(4, .ref vo_0), (0, .ref nm_0), (1, .int p1), (2, .int p2), (3, .int p3)]) C (tdec DX7_read 3 rfl) (by decide) rfl rfl ?_
      refine g_aload (z := 0) C (tdec DX7_read 4 rfl) rfl rfl ?_
      refine g_ifnullR C (tdec DX7_read 5 rfl) rfl ?_
      refine g_iload_n (z := 4) C (tdec DX7_read 6 rfl) rfl rfl rfl ?_
      obtain ⟨r14, y15, hF⟩ := o_bind hF
      refine g_callSiR C (c_X7_isPlace l D cB cI cJ cZ y15) (gIS ml_X7_69 st_X7_isPlace in_X7 cd_X7_isPlace) eX7_isPlace rfl ⟨rfl, rfl⟩ ⟨Nat.le_of_ble_eq_true rfl, Nat.le_of_ble_eq_true rfl⟩ rfl [] rfl rfl rfl (Nat.le_of_ble_eq_true rfl) (tdec DX7_read 7 rfl) rfl ?_
      refine g_if_ne (pt := 27) C (tdec DX7_read 8 rfl) (by decide) rfl (fun h16 => ?_) (fun h16 => ?_)
      · have hF := o_ifn hF h16
        refine g_iload_n (z := 3) C (tdec DX7_read 13 rfl) rfl rfl rfl ?_
        refine g_iconst (v := (-1)) C (tdec DX7_read 14 rfl) (by decide) rfl ?_
        refine g_icmp_eq (pt := 49) C (tdec DX7_read 15 rfl) (by decide) rfl (fun h17 => ?_) (fun h17 => ?_)
        · have hF := o_ifp hF h17
          refine g_aload (z := 0) C (tdec DX7_read 24 rfl) rfl rfl ?_
          refine g_iload_n (z := 3) C (tdec DX7_read 25 rfl) rfl rfl rfl ?_
          refine g_iconst (v := (-1)) C (tdec DX7_read 26 rfl) (by decide) rfl ?_
          refine g_icmp_ne (pt := 62) C (tdec DX7_read 27 rfl) (by decide) rfl (fun h => absurd h17 h) (fun _ => ?_)
          refine g_sipush (v := 4800) C (tdec DX7_read 28 rfl) (by decide) rfl ?_
          refine g_goto (pt := 67) C (tdec DX7_read 29 rfl) (by decide) ?_
          refine g_iload_n (z := 4) C (tdec DX7_read 33 rfl) rfl rfl rfl ?_
          obtain ⟨r18, y19, hF⟩ := o_bind hF
          refine g_callVlRS (q0 := 24) (S := [wTV nm_0 sb_0 d_0 ve_0 vo_0 re_0 ro_0 nm0, wSB cB sb_0 sb_1 sb0, wSD d_0 sb_0 d0, wV cI cJ ve_0 ve_1 ve_2 ve_3 ve_4 ve_5 ve_6 ve_7 ve_8 ve_9 ve_10 ve_11 ve_12 ve_13 ve_14 ve_15 ve_16 ve_17 ve_18 ve_19 ve0, wV cI cJ vo_0 vo_1 vo_2 vo_3 vo_4 vo_5 vo_6 vo_7 vo_8 vo_9 vo_10 vo_11 vo_12 vo_13 vo_14 vo_15 vo_16 vo_17 vo_18 vo_19 vo0, wRC re_0 ve_0 sb_0 re0, wRC ro_0 vo_0 sb_0 ro0]) (S0 := [wV cI cJ vo_0 vo_1 vo_2 vo_3 vo_4 vo_5 vo_6 vo_7 vo_8 vo_9 vo_10 vo_11 vo_12 vo_13 vo_14 vo_15 vo_16 vo_17 vo_18 vo_19 vo0]) C (c_X6_readPlace l D cB cI cJ cZ vo_0 vo_1 vo_2 vo_3 vo_4 vo_5 vo_6 vo_7 vo_8 vo_9 vo_10 vo_11 vo_12 vo_13 vo_14 vo_15 vo_16 vo_17 vo_18 vo_19 y19) rfl rfl (gIV ml_X7_94 im_X6_readPlace sl_X6_readPlace in_X6 cd_X6_readPlace) rfl eX6_readPlace rfl ⟨rfl, rfl⟩ ⟨Nat.le_of_ble_eq_true rfl, Nat.le_of_ble_eq_true rfl⟩ rfl rfl rfl [4] rfl rfl rfl (Nat.le_of_ble_eq_true rfl) (tdec DX7_read 34 rfl) rfl ?_
          have hr9 := o_some hF
          subst hr9
          exact g_lretX () C rfl rfl (tdec DX7_read 35 rfl)
        · have hF := o_ifn hF h17
          refine g_aload (z := 0) C (tdec DX7_read 16 rfl) rfl rfl ?_
          refine g_iload_n (z := 3) C (tdec DX7_read 17 rfl) rfl rfl rfl ?_
          obtain ⟨r20, y21, hF⟩ := o_bind hF
          refine g_callViRS (q0 := 24) (S := [wTV nm_0 sb_0 d_0 ve_0 vo_0 re_0 ro_0 nm0, wSB cB sb_0 sb_1 sb0, wSD d_0 sb_0 d0, wV cI cJ ve_0 ve_1 ve_2 ve_3 ve_4 ve_5 ve_6 ve_7 ve_8 ve_9 ve_10 ve_11 ve_12 ve_13 ve_14 ve_15 ve_16 ve_17 ve_18 ve_19 ve0, wV cI cJ vo_0 vo_1 vo_2 vo_3 vo_4 vo_5 vo_6 vo_7 vo_8 vo_9 vo_10 vo_11 vo_12 vo_13 vo_14 vo_15 vo_16 vo_17 vo_18 vo_19 vo0, wRC re_0 ve_0 sb_0 re0, wRC ro_0 vo_0 sb_0 ro0]) (S0 := [wV cI cJ vo_0 vo_1 vo_2 vo_3 vo_4 vo_5 vo_6 vo_7 vo_8 vo_9 vo_10 vo_11 vo_12 vo_13 vo_14 vo_15 vo_16 vo_17 vo_18 vo_19 vo0]) C (c_X6_hasSnapshot l D cB cI cJ cZ vo_0 vo_1 vo_2 vo_3 vo_4 vo_5 vo_6 vo_7 vo_8 vo_9 vo_10 vo_11 vo_12 vo_13 vo_14 vo_15 vo_16 vo_17 vo_18 vo_19 y21) rfl rfl (gIV ml_X7_88 im_X6_hasSnapshot sl_X6_hasSnapshot in_X6 cd_X6_hasSnapshot) rfl eX6_hasSnapshot rfl ⟨rfl, rfl⟩ ⟨Nat.le_of_ble_eq_true rfl, Nat.le_of_ble_eq_true rfl⟩ rfl rfl rfl [4] rfl rfl rfl (Nat.le_of_ble_eq_true rfl) (tdec DX7_read 18 rfl) rfl ?_
          refine g_if_ne (pt := 49) C (tdec DX7_read 19 rfl) (by decide) rfl (fun h22 => ?_) (fun h22 => ?_)
          · have hF := o_ifn hF h22
            refine g_aload (z := 0) C (tdec DX7_read 24 rfl) rfl rfl ?_
            refine g_iload_n (z := 3) C (tdec DX7_read 25 rfl) rfl rfl rfl ?_
            refine g_iconst (v := (-1)) C (tdec DX7_read 26 rfl) (by decide) rfl ?_
            refine g_icmp_ne (pt := 62) C (tdec DX7_read 27 rfl) (by decide) rfl (fun _ => ?_) (fun h => absurd h h17)
            refine g_sipush (v := 4802) C (tdec DX7_read 30 rfl) (by decide) rfl ?_
            refine g_iload_n (z := 3) C (tdec DX7_read 31 rfl) rfl rfl rfl ?_
            refine g_iadd C (tdec DX7_read 32 rfl) rfl ?_
            refine g_iload_n (z := 4) C (tdec DX7_read 33 rfl) rfl rfl rfl ?_
            obtain ⟨r23, y24, hF⟩ := o_bind hF
            refine g_callVlRS (q0 := 24) (S := [wTV nm_0 sb_0 d_0 ve_0 vo_0 re_0 ro_0 nm0, wSB cB sb_0 sb_1 sb0, wSD d_0 sb_0 d0, wV cI cJ ve_0 ve_1 ve_2 ve_3 ve_4 ve_5 ve_6 ve_7 ve_8 ve_9 ve_10 ve_11 ve_12 ve_13 ve_14 ve_15 ve_16 ve_17 ve_18 ve_19 ve0, wV cI cJ vo_0 vo_1 vo_2 vo_3 vo_4 vo_5 vo_6 vo_7 vo_8 vo_9 vo_10 vo_11 vo_12 vo_13 vo_14 vo_15 vo_16 vo_17 vo_18 vo_19 vo0, wRC re_0 ve_0 sb_0 re0, wRC ro_0 vo_0 sb_0 ro0]) (S0 := [wV cI cJ vo_0 vo_1 vo_2 vo_3 vo_4 vo_5 vo_6 vo_7 vo_8 vo_9 vo_10 vo_11 vo_12 vo_13 vo_14 vo_15 vo_16 vo_17 vo_18 vo_19 vo0]) C (c_X6_readPlace l D cB cI cJ cZ vo_0 vo_1 vo_2 vo_3 vo_4 vo_5 vo_6 vo_7 vo_8 vo_9 vo_10 vo_11 vo_12 vo_13 vo_14 vo_15 vo_16 vo_17 vo_18 vo_19 y24) rfl rfl (gIV ml_X7_94 im_X6_readPlace sl_X6_readPlace in_X6 cd_X6_readPlace) rfl eX6_readPlace rfl ⟨rfl, rfl⟩ ⟨Nat.le_of_ble_eq_true rfl, Nat.le_of_ble_eq_true rfl⟩ rfl rfl rfl [4] rfl rfl rfl (Nat.le_of_ble_eq_true rfl) (tdec DX7_read 34 rfl) rfl ?_
            have hr9 := o_some hF
            subst hr9
            exact g_lretX () C rfl rfl (tdec DX7_read 35 rfl)
          · have hF := o_ifp hF h22
            have hr9 := o_some hF
            subst hr9
            exact g_throw (cls := xNS) C htab hX hZ hfl (by decide) (by decide) (gMem xl_X7_91) (gMem xn_xNS) (gIn xg_X7_93) xb_X7_93 xo_X7_93 rfl rfl (tdec DX7_read 20 rfl) (tdec DX7_read 21 rfl) (tdec DX7_read 22 rfl) (tdec DX7_read 23 rfl) rfl rfl rfl (by decide) (by decide) (by decide) (by decide)
      · have hF := o_ifp hF h16
        have hr9 := o_some hF
        subst hr9
        exact g_throw (cls := xIA) C htab hX hZ hfl (by decide) (by decide) (gMem xl_X7_55) (gMem xn_xIA) (gIn xg_X7_57) xb_X7_57 xo_X7_57 rfl rfl (tdec DX7_read 9 rfl) (tdec DX7_read 10 rfl) (tdec DX7_read 11 rfl) (tdec DX7_read 12 rfl) rfl rfl rfl (by decide) (by decide) (by decide) (by decide)
def FX7_snapshot (nm0 : Int64) (sb0 : SB) (d0 : SD) (ve0 : VS) (vo0 : VS) (re0 : RC) (ro0 : RC) (p1 : Int32) : Option (Except String (Int32 × (Int64 × VS × VS))) :=
  (FX7_find nm0 p1).bind fun q2 =>
  (match q2 with
  | none =>
    some (.error xIA)
  | some 0 =>
    (FX6_isBusy ve0).bind fun r3 =>
    if r3 = 0 then
      (FX6_snapshots ve0).bind fun r6 =>
      if r6 < 20 then
        (FX6_keepLive ve0 nm0).bind fun (r9, s10) =>
        some (.ok (r9, ((nm0 + 1), s10, vo0)))
      else
        some (.error xUO)
    else
      some (.error xIS)
  | some (_ + 1) =>
    (FX6_isBusy vo0).bind fun r12 =>
    if r12 = 0 then
      (FX6_snapshots vo0).bind fun r15 =>
      if r15 < 20 then
        (FX6_keepLive vo0 nm0).bind fun (r18, s19) =>
        some (.ok (r18, ((nm0 + 1), ve0, s19)))
      else
        some (.error xUO)
    else
      some (.error xIS))
def rX7_snapshot : Room := { frames := 6, cells := 1, slots := 6, locals := 90 }
set_option maxHeartbeats 4000000 in
set_option maxRecDepth 100000 in
theorem c_X7_snapshot (l : Launch) (hfl : l.stackTraces = false) (D : va_G) (cB cI cJ cZ : ClassId) (nm_0 sb_0 sb_1 d_0 ve_0 ve_1 ve_2 ve_3 ve_4 ve_5 ve_6 ve_7 ve_8 ve_9 ve_10 ve_11 ve_12 ve_13 ve_14 ve_15 ve_16 ve_17 ve_18 ve_19 vo_0 vo_1 vo_2 vo_3 vo_4 vo_5 vo_6 vo_7 vo_8 vo_9 vo_10 vo_11 vo_12 vo_13 vo_14 vo_15 vo_16 vo_17 vo_18 vo_19 re_0 ro_0 : Nat) {nm0 : Int64} {sb0 : SB} {d0 : SD} {ve0 : VS} {vo0 : VS} {re0 : RC} {ro0 : RC} {p1 : Int32} {res : Except String (Int32 × (Int64 × VS × VS))} (hF : FX7_snapshot nm0 sb0 d0 ve0 vo0 re0 ro0 p1 = some res) : gXi l yX7_snapshot wsX7_snapshot rX7_snapshot D (gT cB cI cJ cZ) [.ref nm_0, .int p1] (wTV nm_0 sb_0 d_0 ve_0 vo_0 re_0 ro_0 nm0 ++ (wSB cB sb_0 sb_1 sb0 ++ (wSD d_0 sb_0 d0 ++ (wV cI cJ ve_0 ve_1 ve_2 ve_3 ve_4 ve_5 ve_6 ve_7 ve_8 ve_9 ve_10 ve_11 ve_12 ve_13 ve_14 ve_15 ve_16 ve_17 ve_18 ve_19 ve0 ++ (wV cI cJ vo_0 vo_1 vo_2 vo_3 vo_4 vo_5 vo_6 vo_7 vo_8 vo_9 vo_10 vo_11 vo_12 vo_13 vo_14 vo_15 vo_16 vo_17 vo_18 vo_19 vo0 ++ (wRC re_0 ve_0 sb_0 re0 ++ (wRC ro_0 vo_0 sb_0 ro0))))))) res (fun u : (Int64 × VS × VS) => wTV nm_0 sb_0 d_0 ve_0 vo_0 re_0 ro_0 u.1 ++ (wSB cB sb_0 sb_1 sb0 ++ (wSD d_0 sb_0 d0 ++ (wV cI cJ ve_0 ve_1 ve_2 ve_3 ve_4 ve_5 ve_6 ve_7 ve_8 ve_9 ve_10 ve_11 ve_12 ve_13 ve_14 ve_15 ve_16 ve_17 ve_18 ve_19 u.2.1 ++ (wV cI cJ vo_0 vo_1 vo_2 vo_3 vo_4 vo_5 vo_6 vo_7 vo_8 vo_9 vo_10 vo_11 vo_12 vo_13 vo_14 vo_15 vo_16 vo_17 vo_18 vo_19 u.2.2 ++ (wRC re_0 ve_0 sb_0 re0 ++ (wRC ro_0 vo_0 sb_0 ro0))))))) := by
  refine g_enterX (own := RX7) (Qc := (fun sz => gXQi D (wTV nm_0 sb_0 d_0 ve_0 vo_0 re_0 ro_0 nm0 ++ (wSB cB sb_0 sb_1 sb0 ++ (wSD d_0 sb_0 d0 ++ (wV cI cJ ve_0 ve_1 ve_2 ve_3 ve_4 ve_5 ve_6 ve_7 ve_8 ve_9 ve_10 ve_11 ve_12 ve_13 ve_14 ve_15 ve_16 ve_17 ve_18 ve_19 ve0 ++ (wV cI cJ vo_0 vo_1 vo_2 vo_3 vo_4 vo_5 vo_6 vo_7 vo_8 vo_9 vo_10 vo_11 vo_12 vo_13 vo_14 vo_15 vo_16 vo_17 vo_18 vo_19 vo0 ++ (wRC re_0 ve_0 sb_0 re0 ++ (wRC ro_0 vo_0 sb_0 ro0))))))) sz (fun r (u : (Int64 × VS × VS)) => res = .ok (r, u)) (fun u : (Int64 × VS × VS) => wTV nm_0 sb_0 d_0 ve_0 vo_0 re_0 ro_0 u.1 ++ (wSB cB sb_0 sb_1 sb0 ++ (wSD d_0 sb_0 d0 ++ (wV cI cJ ve_0 ve_1 ve_2 ve_3 ve_4 ve_5 ve_6 ve_7 ve_8 ve_9 ve_10 ve_11 ve_12 ve_13 ve_14 ve_15 ve_16 ve_17 ve_18 ve_19 u.2.1 ++ (wV cI cJ vo_0 vo_1 vo_2 vo_3 vo_4 vo_5 vo_6 vo_7 vo_8 vo_9 vo_10 vo_11 vo_12 vo_13 vo_14 vo_15 vo_16 vo_17 vo_18 vo_19 u.2.2 ++ (wRC re_0 ve_0 sb_0 re0 ++ (wRC ro_0 vo_0 sb_0 ro0))))))))) (XC := (fun sz => gXC D (wTV nm_0 sb_0 d_0 ve_0 vo_0 re_0 ro_0 nm0 ++ (wSB cB sb_0 sb_1 sb0 ++ (wSD d_0 sb_0 d0 ++ (wV cI cJ ve_0 ve_1 ve_2 ve_3 ve_4 ve_5 ve_6 ve_7 ve_8 ve_9 ve_10 ve_11 ve_12 ve_13 ve_14 ve_15 ve_16 ve_17 ve_18 ve_19 ve0 ++ (wV cI cJ vo_0 vo_1 vo_2 vo_3 vo_4 vo_5 vo_6 vo_7 vo_8 vo_9 vo_10 vo_11 vo_12 vo_13 vo_14 vo_15 vo_16 vo_17 vo_18 vo_19 vo0 ++ (wRC re_0 ve_0 sb_0 re0 ++ (wRC ro_0 vo_0 sb_0 ro0))))))) sz (fun E => res = .error E))) rfl (by decide) rfl (Nat.le_of_ble_eq_true rfl) rfl ?_
  intro p e s m args below meth c C htab hX hZ
  unfold FX7_snapshot at hF
  refine g_aload_n (z := 0) C (tdec DX7_snapshot 0 rfl) rfl rfl rfl ?_
  refine g_iload_n (z := 1) C (tdec DX7_snapshot 1 rfl) rfl rfl rfl ?_
  obtain ⟨q2, y1, hF⟩ := o_bind hF
  refine g_callVqRS (q0 := 0) (S := [wTV nm_0 sb_0 d_0 ve_0 vo_0 re_0 ro_0 nm0, wSB cB sb_0 sb_1 sb0, wSD d_0 sb_0 d0, wV cI cJ ve_0 ve_1 ve_2 ve_3 ve_4 ve_5 ve_6 ve_7 ve_8 ve_9 ve_10 ve_11 ve_12 ve_13 ve_14 ve_15 ve_16 ve_17 ve_18 ve_19 ve0, wV cI cJ vo_0 vo_1 vo_2 vo_3 vo_4 vo_5 vo_6 vo_7 vo_8 vo_9 vo_10 vo_11 vo_12 vo_13 vo_14 vo_15 vo_16 vo_17 vo_18 vo_19 vo0, wRC re_0 ve_0 sb_0 re0, wRC ro_0 vo_0 sb_0 ro0]) (S0 := [wTV nm_0 sb_0 d_0 ve_0 vo_0 re_0 ro_0 nm0]) C (c_X7_find l D cB cI cJ cZ nm_0 sb_0 d_0 ve_0 vo_0 re_0 ro_0 y1) rfl rfl (gIV ml_X7_51 im_X7_find sl_X7_find in_X7 cd_X7_find) rfl eX7_find rfl ⟨rfl, rfl⟩ ⟨Nat.le_of_ble_eq_true rfl, Nat.le_of_ble_eq_true rfl⟩ rfl rfl rfl [0] rfl rfl rfl (Nat.le_of_ble_eq_true rfl) (tdec DX7_snapshot 2 rfl) rfl ?_
  cases q2 with
  | none =>
    refine g_st (st' := [.null]) rfl ?_
    refine g_astoreN_n (L' := [(2, .null), (0, .ref nm_0), (1, .int p1)]) C (tdec DX7_snapshot 3 rfl) rfl (by decide) rfl rfl ?_
    refine g_aloadN_n (z := 0) C (tdec DX7_snapshot 4 rfl) rfl rfl rfl ?_
    refine g_ifnonnullN C (tdec DX7_snapshot 5 rfl) rfl ?_
    have hr9 := o_some hF
    subst hr9
    exact g_throw (cls := xIA) C htab hX hZ hfl (by decide) (by decide) (gMem xl_X7_55) (gMem xn_xIA) (gIn xg_X7_57) xb_X7_57 xo_X7_57 rfl rfl (tdec DX7_snapshot 6 rfl) (tdec DX7_snapshot 7 rfl) (tdec DX7_snapshot 8 rfl) (tdec DX7_snapshot 9 rfl) rfl rfl rfl (by decide) (by decide) (by decide) (by decide)
  | some k21 =>
    cases k21 with
    | zero =>
      refine g_st (st' := [.ref ve_0]) rfl ?_
      refine g_astore_n (L' := [(2, .ref ve_0), (0, .ref nm_0), (1, .int p1)]) C (tdec DX7_snapshot 3 rfl) rfl (by decide) rfl rfl ?_
      refine g_aload_n (z := 0) C (tdec DX7_snapshot 4 rfl) rfl rfl rfl ?_
      refine g_ifnonnullR (pt := 18) C (tdec DX7_snapshot 5 rfl) (by decide) ?_
      refine g_aload_n (z := 0) C (tdec DX7_snapshot 10 rfl) rfl rfl rfl ?_
      obtain ⟨r3, y4, hF⟩ := o_bind hF
      refine g_callViRS (q0 := 4) (S := [wTV nm_0 sb_0 d_0 ve_0 vo_0 re_0 ro_0 nm0, wSB cB sb_0 sb_1 sb0, wSD d_0 sb_0 d0, wV cI cJ ve_0 ve_1 ve_2 ve_3 ve_4 ve_5 ve_6 ve_7 ve_8 ve_9 ve_10 ve_11 ve_12 ve_13 ve_14 ve_15 ve_16 ve_17 ve_18 ve_19 ve0, wV cI cJ vo_0 vo_1 vo_2 vo_3 vo_4 vo_5 vo_6 vo_7 vo_8 vo_9 vo_10 vo_11 vo_12 vo_13 vo_14 vo_15 vo_16 vo_17 vo_18 vo_19 vo0, wRC re_0 ve_0 sb_0 re0, wRC ro_0 vo_0 sb_0 ro0]) (S0 := [wV cI cJ ve_0 ve_1 ve_2 ve_3 ve_4 ve_5 ve_6 ve_7 ve_8 ve_9 ve_10 ve_11 ve_12 ve_13 ve_14 ve_15 ve_16 ve_17 ve_18 ve_19 ve0]) C (c_X6_isBusy l D cB cI cJ cZ ve_0 ve_1 ve_2 ve_3 ve_4 ve_5 ve_6 ve_7 ve_8 ve_9 ve_10 ve_11 ve_12 ve_13 ve_14 ve_15 ve_16 ve_17 ve_18 ve_19 y4) rfl rfl (gIV ml_X7_73 im_X6_isBusy sl_X6_isBusy in_X6 cd_X6_isBusy) rfl eX6_isBusy rfl ⟨rfl, rfl⟩ ⟨Nat.le_of_ble_eq_true rfl, Nat.le_of_ble_eq_true rfl⟩ rfl rfl rfl [3] rfl rfl rfl (Nat.le_of_ble_eq_true rfl) (tdec DX7_snapshot 11 rfl) rfl ?_
      refine g_if_eq (pt := 33) C (tdec DX7_snapshot 12 rfl) (by decide) rfl (fun h5 => ?_) (fun h5 => ?_)
      · have hF := o_ifp hF h5
        refine g_aload_n (z := 0) C (tdec DX7_snapshot 17 rfl) rfl rfl rfl ?_
        obtain ⟨r6, y7, hF⟩ := o_bind hF
        refine g_callViRS (q0 := 4) (S := [wTV nm_0 sb_0 d_0 ve_0 vo_0 re_0 ro_0 nm0, wSB cB sb_0 sb_1 sb0, wSD d_0 sb_0 d0, wV cI cJ ve_0 ve_1 ve_2 ve_3 ve_4 ve_5 ve_6 ve_7 ve_8 ve_9 ve_10 ve_11 ve_12 ve_13 ve_14 ve_15 ve_16 ve_17 ve_18 ve_19 ve0, wV cI cJ vo_0 vo_1 vo_2 vo_3 vo_4 vo_5 vo_6 vo_7 vo_8 vo_9 vo_10 vo_11 vo_12 vo_13 vo_14 vo_15 vo_16 vo_17 vo_18 vo_19 vo0, wRC re_0 ve_0 sb_0 re0, wRC ro_0 vo_0 sb_0 ro0]) (S0 := [wV cI cJ ve_0 ve_1 ve_2 ve_3 ve_4 ve_5 ve_6 ve_7 ve_8 ve_9 ve_10 ve_11 ve_12 ve_13 ve_14 ve_15 ve_16 ve_17 ve_18 ve_19 ve0]) C (c_X6_snapshots l D cB cI cJ cZ ve_0 ve_1 ve_2 ve_3 ve_4 ve_5 ve_6 ve_7 ve_8 ve_9 ve_10 ve_11 ve_12 ve_13 ve_14 ve_15 ve_16 ve_17 ve_18 ve_19 y7) rfl rfl (gIV ml_X7_101 im_X6_snapshots sl_X6_snapshots in_X6 cd_X6_snapshots) rfl eX6_snapshots rfl ⟨rfl, rfl⟩ ⟨Nat.le_of_ble_eq_true rfl, Nat.le_of_ble_eq_true rfl⟩ rfl rfl rfl [3] rfl rfl rfl (Nat.le_of_ble_eq_true rfl) (tdec DX7_snapshot 18 rfl) rfl ?_
        refine g_bipush (v := 20) C (tdec DX7_snapshot 19 rfl) (by decide) rfl ?_
        refine g_icmp_lt (pt := 50) C (tdec DX7_snapshot 20 rfl) (by decide) rfl (fun h8 => ?_) (fun h8 => ?_)
        · have hF := o_ifp hF h8
          refine g_aload_n (z := 0) C (tdec DX7_snapshot 25 rfl) rfl rfl rfl ?_
          refine g_aload_n (z := 1) C (tdec DX7_snapshot 26 rfl) rfl rfl rfl ?_
          refine g_getf (C' := RX7) (T := TX7) (N := 7) (v := .long nm0) C 0 6 (gIn iw_X7) rfl rfl (by decide) (gMem fl_X7_47) rfl rfl (tdec DX7_snapshot 27 rfl) rfl ?_
          obtain ⟨⟨r9, s10⟩, y11, hF⟩ := o_bind hF
          refine g_callViMS (q0 := 4) (W' := wTV nm_0 sb_0 d_0 ve_0 vo_0 re_0 ro_0 nm0 ++ (wSB cB sb_0 sb_1 sb0 ++ (wSD d_0 sb_0 d0 ++ (wV cI cJ ve_0 ve_1 ve_2 ve_3 ve_4 ve_5 ve_6 ve_7 ve_8 ve_9 ve_10 ve_11 ve_12 ve_13 ve_14 ve_15 ve_16 ve_17 ve_18 ve_19 s10 ++ (wV cI cJ vo_0 vo_1 vo_2 vo_3 vo_4 vo_5 vo_6 vo_7 vo_8 vo_9 vo_10 vo_11 vo_12 vo_13 vo_14 vo_15 vo_16 vo_17 vo_18 vo_19 vo0 ++ (wRC re_0 ve_0 sb_0 re0 ++ (wRC ro_0 vo_0 sb_0 ro0))))))) (S := [wTV nm_0 sb_0 d_0 ve_0 vo_0 re_0 ro_0 nm0, wSB cB sb_0 sb_1 sb0, wSD d_0 sb_0 d0, wV cI cJ ve_0 ve_1 ve_2 ve_3 ve_4 ve_5 ve_6 ve_7 ve_8 ve_9 ve_10 ve_11 ve_12 ve_13 ve_14 ve_15 ve_16 ve_17 ve_18 ve_19 ve0, wV cI cJ vo_0 vo_1 vo_2 vo_3 vo_4 vo_5 vo_6 vo_7 vo_8 vo_9 vo_10 vo_11 vo_12 vo_13 vo_14 vo_15 vo_16 vo_17 vo_18 vo_19 vo0, wRC re_0 ve_0 sb_0 re0, wRC ro_0 vo_0 sb_0 ro0]) (S0 := [wV cI cJ ve_0 ve_1 ve_2 ve_3 ve_4 ve_5 ve_6 ve_7 ve_8 ve_9 ve_10 ve_11 ve_12 ve_13 ve_14 ve_15 ve_16 ve_17 ve_18 ve_19 ve0]) (S1 := [wV cI cJ ve_0 ve_1 ve_2 ve_3 ve_4 ve_5 ve_6 ve_7 ve_8 ve_9 ve_10 ve_11 ve_12 ve_13 ve_14 ve_15 ve_16 ve_17 ve_18 ve_19 s10]) (S' := [wTV nm_0 sb_0 d_0 ve_0 vo_0 re_0 ro_0 nm0, wSB cB sb_0 sb_1 sb0, wSD d_0 sb_0 d0, wV cI cJ ve_0 ve_1 ve_2 ve_3 ve_4 ve_5 ve_6 ve_7 ve_8 ve_9 ve_10 ve_11 ve_12 ve_13 ve_14 ve_15 ve_16 ve_17 ve_18 ve_19 s10, wV cI cJ vo_0 vo_1 vo_2 vo_3 vo_4 vo_5 vo_6 vo_7 vo_8 vo_9 vo_10 vo_11 vo_12 vo_13 vo_14 vo_15 vo_16 vo_17 vo_18 vo_19 vo0, wRC re_0 ve_0 sb_0 re0, wRC ro_0 vo_0 sb_0 ro0]) C (c_X6_keepLive l D cB cI cJ cZ ve_0 ve_1 ve_2 ve_3 ve_4 ve_5 ve_6 ve_7 ve_8 ve_9 ve_10 ve_11 ve_12 ve_13 ve_14 ve_15 ve_16 ve_17 ve_18 ve_19 y11) rfl rfl (gIV ml_X7_108 im_X6_keepLive sl_X6_keepLive in_X6 cd_X6_keepLive) rfl eX6_keepLive rfl ⟨rfl, rfl⟩ ⟨Nat.le_of_ble_eq_true rfl, Nat.le_of_ble_eq_true rfl⟩ rfl rfl rfl [3] rfl rfl rfl rfl (gA_cons aV gA_nil) rfl rfl (Nat.le_of_ble_eq_true rfl) (tdec DX7_snapshot 28 rfl) rfl ?_
          refine g_istore_n (L' := [(3, .int r9), (2, .ref ve_0), (0, .ref nm_0), (1, .int p1)]) C (tdec DX7_snapshot 29 rfl) rfl (by decide) rfl rfl ?_
          refine g_aload_n (z := 2) C (tdec DX7_snapshot 30 rfl) rfl rfl rfl ?_
          refine g_dup C (tdec DX7_snapshot 31 rfl) rfl rfl ?_
          refine g_getf (C' := RX7) (T := TX7) (N := 7) (v := .long nm0) C 0 6 (gIn iw_X7) rfl rfl (by decide) (gMem fl_X7_47) rfl rfl (tdec DX7_snapshot 32 rfl) rfl ?_
          refine g_lconst (v := 1) C (tdec DX7_snapshot 33 rfl) (by decide) rfl ?_
          refine g_ladd C (tdec DX7_snapshot 34 rfl) rfl ?_
          refine g_putf (C' := RX7) (T := TX7) (N := 7) (v := .long (nm0 + 1)) (ws' := wTV nm_0 sb_0 d_0 ve_0 vo_0 re_0 ro_0 (nm0 + 1) ++ (wSB cB sb_0 sb_1 sb0 ++ (wSD d_0 sb_0 d0 ++ (wV cI cJ ve_0 ve_1 ve_2 ve_3 ve_4 ve_5 ve_6 ve_7 ve_8 ve_9 ve_10 ve_11 ve_12 ve_13 ve_14 ve_15 ve_16 ve_17 ve_18 ve_19 s10 ++ (wV cI cJ vo_0 vo_1 vo_2 vo_3 vo_4 vo_5 vo_6 vo_7 vo_8 vo_9 vo_10 vo_11 vo_12 vo_13 vo_14 vo_15 vo_16 vo_17 vo_18 vo_19 vo0 ++ (wRC re_0 ve_0 sb_0 re0 ++ (wRC ro_0 vo_0 sb_0 ro0))))))) C 0 6 tyX7 tyX7_ok nmX7 (gIn iw_X7) rfl rfl (by decide) (gMem fl_X7_47) rfl rfl (tyX7_ok 6 (by decide)) rfl rfl (Nat.le_of_ble_eq_true rfl) rfl (tdec DX7_snapshot 35 rfl) rfl ?_
          refine g_iload_n (z := 0) C (tdec DX7_snapshot 36 rfl) rfl rfl rfl ?_
          have hr9 := o_some hF
          subst hr9
          exact g_iretX ((nm0 + 1), s10, vo0) C rfl rfl (tdec DX7_snapshot 37 rfl)
        · have hF := o_ifn hF h8
          have hr9 := o_some hF
          subst hr9
          exact g_throw (cls := xUO) C htab hX hZ hfl (by decide) (by decide) (gMem xl_X7_105) (gMem xn_xUO) (gIn xg_X7_107) xb_X7_107 xo_X7_107 rfl rfl (tdec DX7_snapshot 21 rfl) (tdec DX7_snapshot 22 rfl) (tdec DX7_snapshot 23 rfl) (tdec DX7_snapshot 24 rfl) rfl rfl rfl (by decide) (by decide) (by decide) (by decide)
      · have hF := o_ifn hF h5
        have hr9 := o_some hF
        subst hr9
        exact g_throw (cls := xIS) C htab hX hZ hfl (by decide) (by decide) (gMem xl_X7_98) (gMem xn_xIS) (gIn xg_X7_100) xb_X7_100 xo_X7_100 rfl rfl (tdec DX7_snapshot 13 rfl) (tdec DX7_snapshot 14 rfl) (tdec DX7_snapshot 15 rfl) (tdec DX7_snapshot 16 rfl) rfl rfl rfl (by decide) (by decide) (by decide) (by decide)
    | succ k21 =>
      refine g_st (st' := [.ref vo_0]) rfl ?_
      refine g_astore_n (L' := [(2, .ref vo_0), (0, .ref nm_0), (1, .int p1)]) C (tdec DX7_snapshot 3 rfl) rfl (by decide) rfl rfl ?_
      refine g_aload_n (z := 0) C (tdec DX7_snapshot 4 rfl) rfl rfl rfl ?_
      refine g_ifnonnullR (pt := 18) C (tdec DX7_snapshot 5 rfl) (by decide) ?_
      refine g_aload_n (z := 0) C (tdec DX7_snapshot 10 rfl) rfl rfl rfl ?_
      obtain ⟨r12, y13, hF⟩ := o_bind hF
      refine g_callViRS (q0 := 24) (S := [wTV nm_0 sb_0 d_0 ve_0 vo_0 re_0 ro_0 nm0, wSB cB sb_0 sb_1 sb0, wSD d_0 sb_0 d0, wV cI cJ ve_0 ve_1 ve_2 ve_3 ve_4 ve_5 ve_6 ve_7 ve_8 ve_9 ve_10 ve_11 ve_12 ve_13 ve_14 ve_15 ve_16 ve_17 ve_18 ve_19 ve0, wV cI cJ vo_0 vo_1 vo_2 vo_3 vo_4 vo_5 vo_6 vo_7 vo_8 vo_9 vo_10 vo_11 vo_12 vo_13 vo_14 vo_15 vo_16 vo_17 vo_18 vo_19 vo0, wRC re_0 ve_0 sb_0 re0, wRC ro_0 vo_0 sb_0 ro0]) (S0 := [wV cI cJ vo_0 vo_1 vo_2 vo_3 vo_4 vo_5 vo_6 vo_7 vo_8 vo_9 vo_10 vo_11 vo_12 vo_13 vo_14 vo_15 vo_16 vo_17 vo_18 vo_19 vo0]) C (c_X6_isBusy l D cB cI cJ cZ vo_0 vo_1 vo_2 vo_3 vo_4 vo_5 vo_6 vo_7 vo_8 vo_9 vo_10 vo_11 vo_12 vo_13 vo_14 vo_15 vo_16 vo_17 vo_18 vo_19 y13) rfl rfl (gIV ml_X7_73 im_X6_isBusy sl_X6_isBusy in_X6 cd_X6_isBusy) rfl eX6_isBusy rfl ⟨rfl, rfl⟩ ⟨Nat.le_of_ble_eq_true rfl, Nat.le_of_ble_eq_true rfl⟩ rfl rfl rfl [4] rfl rfl rfl (Nat.le_of_ble_eq_true rfl) (tdec DX7_snapshot 11 rfl) rfl ?_
      refine g_if_eq (pt := 33) C (tdec DX7_snapshot 12 rfl) (by decide) rfl (fun h14 => ?_) (fun h14 => ?_)
      · have hF := o_ifp hF h14
        refine g_aload_n (z := 0) C (tdec DX7_snapshot 17 rfl) rfl rfl rfl ?_
        obtain ⟨r15, y16, hF⟩ := o_bind hF
        refine g_callViRS (q0 := 24) (S := [wTV nm_0 sb_0 d_0 ve_0 vo_0 re_0 ro_0 nm0, wSB cB sb_0 sb_1 sb0, wSD d_0 sb_0 d0, wV cI cJ ve_0 ve_1 ve_2 ve_3 ve_4 ve_5 ve_6 ve_7 ve_8 ve_9 ve_10 ve_11 ve_12 ve_13 ve_14 ve_15 ve_16 ve_17 ve_18 ve_19 ve0, wV cI cJ vo_0 vo_1 vo_2 vo_3 vo_4 vo_5 vo_6 vo_7 vo_8 vo_9 vo_10 vo_11 vo_12 vo_13 vo_14 vo_15 vo_16 vo_17 vo_18 vo_19 vo0, wRC re_0 ve_0 sb_0 re0, wRC ro_0 vo_0 sb_0 ro0]) (S0 := [wV cI cJ vo_0 vo_1 vo_2 vo_3 vo_4 vo_5 vo_6 vo_7 vo_8 vo_9 vo_10 vo_11 vo_12 vo_13 vo_14 vo_15 vo_16 vo_17 vo_18 vo_19 vo0]) C (c_X6_snapshots l D cB cI cJ cZ vo_0 vo_1 vo_2 vo_3 vo_4 vo_5 vo_6 vo_7 vo_8 vo_9 vo_10 vo_11 vo_12 vo_13 vo_14 vo_15 vo_16 vo_17 vo_18 vo_19 y16) rfl rfl (gIV ml_X7_101 im_X6_snapshots sl_X6_snapshots in_X6 cd_X6_snapshots) rfl eX6_snapshots rfl ⟨rfl, rfl⟩ ⟨Nat.le_of_ble_eq_true rfl, Nat.le_of_ble_eq_true rfl⟩ rfl rfl rfl [4] rfl rfl rfl (Nat.le_of_ble_eq_true rfl) (tdec DX7_snapshot 18 rfl) rfl ?_
        refine g_bipush (v := 20) C (tdec DX7_snapshot 19 rfl) (by decide) rfl ?_
        refine g_icmp_lt (pt := 50) C (tdec DX7_snapshot 20 rfl) (by decide) rfl (fun h17 => ?_) (fun h17 => ?_)
        · have hF := o_ifp hF h17
          refine g_aload_n (z := 0) C (tdec DX7_snapshot 25 rfl) rfl rfl rfl ?_
          refine g_aload_n (z := 1) C (tdec DX7_snapshot 26 rfl) rfl rfl rfl ?_
          refine g_getf (C' := RX7) (T := TX7) (N := 7) (v := .long nm0) C 0 6 (gIn iw_X7) rfl rfl (by decide) (gMem fl_X7_47) rfl rfl (tdec DX7_snapshot 27 rfl) rfl ?_
          obtain ⟨⟨r18, s19⟩, y20, hF⟩ := o_bind hF
          refine g_callViMS (q0 := 24) (W' := wTV nm_0 sb_0 d_0 ve_0 vo_0 re_0 ro_0 nm0 ++ (wSB cB sb_0 sb_1 sb0 ++ (wSD d_0 sb_0 d0 ++ (wV cI cJ ve_0 ve_1 ve_2 ve_3 ve_4 ve_5 ve_6 ve_7 ve_8 ve_9 ve_10 ve_11 ve_12 ve_13 ve_14 ve_15 ve_16 ve_17 ve_18 ve_19 ve0 ++ (wV cI cJ vo_0 vo_1 vo_2 vo_3 vo_4 vo_5 vo_6 vo_7 vo_8 vo_9 vo_10 vo_11 vo_12 vo_13 vo_14 vo_15 vo_16 vo_17 vo_18 vo_19 s19 ++ (wRC re_0 ve_0 sb_0 re0 ++ (wRC ro_0 vo_0 sb_0 ro0))))))) (S := [wTV nm_0 sb_0 d_0 ve_0 vo_0 re_0 ro_0 nm0, wSB cB sb_0 sb_1 sb0, wSD d_0 sb_0 d0, wV cI cJ ve_0 ve_1 ve_2 ve_3 ve_4 ve_5 ve_6 ve_7 ve_8 ve_9 ve_10 ve_11 ve_12 ve_13 ve_14 ve_15 ve_16 ve_17 ve_18 ve_19 ve0, wV cI cJ vo_0 vo_1 vo_2 vo_3 vo_4 vo_5 vo_6 vo_7 vo_8 vo_9 vo_10 vo_11 vo_12 vo_13 vo_14 vo_15 vo_16 vo_17 vo_18 vo_19 vo0, wRC re_0 ve_0 sb_0 re0, wRC ro_0 vo_0 sb_0 ro0]) (S0 := [wV cI cJ vo_0 vo_1 vo_2 vo_3 vo_4 vo_5 vo_6 vo_7 vo_8 vo_9 vo_10 vo_11 vo_12 vo_13 vo_14 vo_15 vo_16 vo_17 vo_18 vo_19 vo0]) (S1 := [wV cI cJ vo_0 vo_1 vo_2 vo_3 vo_4 vo_5 vo_6 vo_7 vo_8 vo_9 vo_10 vo_11 vo_12 vo_13 vo_14 vo_15 vo_16 vo_17 vo_18 vo_19 s19]) (S' := [wTV nm_0 sb_0 d_0 ve_0 vo_0 re_0 ro_0 nm0, wSB cB sb_0 sb_1 sb0, wSD d_0 sb_0 d0, wV cI cJ ve_0 ve_1 ve_2 ve_3 ve_4 ve_5 ve_6 ve_7 ve_8 ve_9 ve_10 ve_11 ve_12 ve_13 ve_14 ve_15 ve_16 ve_17 ve_18 ve_19 ve0, wV cI cJ vo_0 vo_1 vo_2 vo_3 vo_4 vo_5 vo_6 vo_7 vo_8 vo_9 vo_10 vo_11 vo_12 vo_13 vo_14 vo_15 vo_16 vo_17 vo_18 vo_19 s19, wRC re_0 ve_0 sb_0 re0, wRC ro_0 vo_0 sb_0 ro0]) C (c_X6_keepLive l D cB cI cJ cZ vo_0 vo_1 vo_2 vo_3 vo_4 vo_5 vo_6 vo_7 vo_8 vo_9 vo_10 vo_11 vo_12 vo_13 vo_14 vo_15 vo_16 vo_17 vo_18 vo_19 y20) rfl rfl (gIV ml_X7_108 im_X6_keepLive sl_X6_keepLive in_X6 cd_X6_keepLive) rfl eX6_keepLive rfl ⟨rfl, rfl⟩ ⟨Nat.le_of_ble_eq_true rfl, Nat.le_of_ble_eq_true rfl⟩ rfl rfl rfl [4] rfl rfl rfl rfl (gA_cons aV gA_nil) rfl rfl (Nat.le_of_ble_eq_true rfl) (tdec DX7_snapshot 28 rfl) rfl ?_
          refine g_istore_n (L' := [(3, .int r18), (2, .ref vo_0), (0, .ref nm_0), (1, .int p1)]) C (tdec DX7_snapshot 29 rfl) rfl (by decide) rfl rfl ?_
          refine g_aload_n (z := 2) C (tdec DX7_snapshot 30 rfl) rfl rfl rfl ?_
          refine g_dup C (tdec DX7_snapshot 31 rfl) rfl rfl ?_
          refine g_getf (C' := RX7) (T := TX7) (N := 7) (v := .long nm0) C 0 6 (gIn iw_X7) rfl rfl (by decide) (gMem fl_X7_47) rfl rfl (tdec DX7_snapshot 32 rfl) rfl ?_
          refine g_lconst (v := 1) C (tdec DX7_snapshot 33 rfl) (by decide) rfl ?_
          refine g_ladd C (tdec DX7_snapshot 34 rfl) rfl ?_
          refine g_putf (C' := RX7) (T := TX7) (N := 7) (v := .long (nm0 + 1)) (ws' := wTV nm_0 sb_0 d_0 ve_0 vo_0 re_0 ro_0 (nm0 + 1) ++ (wSB cB sb_0 sb_1 sb0 ++ (wSD d_0 sb_0 d0 ++ (wV cI cJ ve_0 ve_1 ve_2 ve_3 ve_4 ve_5 ve_6 ve_7 ve_8 ve_9 ve_10 ve_11 ve_12 ve_13 ve_14 ve_15 ve_16 ve_17 ve_18 ve_19 ve0 ++ (wV cI cJ vo_0 vo_1 vo_2 vo_3 vo_4 vo_5 vo_6 vo_7 vo_8 vo_9 vo_10 vo_11 vo_12 vo_13 vo_14 vo_15 vo_16 vo_17 vo_18 vo_19 s19 ++ (wRC re_0 ve_0 sb_0 re0 ++ (wRC ro_0 vo_0 sb_0 ro0))))))) C 0 6 tyX7 tyX7_ok nmX7 (gIn iw_X7) rfl rfl (by decide) (gMem fl_X7_47) rfl rfl (tyX7_ok 6 (by decide)) rfl rfl (Nat.le_of_ble_eq_true rfl) rfl (tdec DX7_snapshot 35 rfl) rfl ?_
          refine g_iload_n (z := 0) C (tdec DX7_snapshot 36 rfl) rfl rfl rfl ?_
          have hr9 := o_some hF
          subst hr9
          exact g_iretX ((nm0 + 1), ve0, s19) C rfl rfl (tdec DX7_snapshot 37 rfl)
        · have hF := o_ifn hF h17
          have hr9 := o_some hF
          subst hr9
          exact g_throw (cls := xUO) C htab hX hZ hfl (by decide) (by decide) (gMem xl_X7_105) (gMem xn_xUO) (gIn xg_X7_107) xb_X7_107 xo_X7_107 rfl rfl (tdec DX7_snapshot 21 rfl) (tdec DX7_snapshot 22 rfl) (tdec DX7_snapshot 23 rfl) (tdec DX7_snapshot 24 rfl) rfl rfl rfl (by decide) (by decide) (by decide) (by decide)
      · have hF := o_ifn hF h14
        have hr9 := o_some hF
        subst hr9
        exact g_throw (cls := xIS) C htab hX hZ hfl (by decide) (by decide) (gMem xl_X7_98) (gMem xn_xIS) (gIn xg_X7_100) xb_X7_100 xo_X7_100 rfl rfl (tdec DX7_snapshot 13 rfl) (tdec DX7_snapshot 14 rfl) (tdec DX7_snapshot 15 rfl) (tdec DX7_snapshot 16 rfl) rfl rfl rfl (by decide) (by decide) (by decide) (by decide)
def FX7_destroy (nm0 : Int64) (sb0 : SB) (d0 : SD) (ve0 : VS) (vo0 : VS) (re0 : RC) (ro0 : RC) (p1 : Int32) (p2 : Int32) : Option (Except String (Int32 × (VS × VS))) :=
  (FX7_find nm0 p1).bind fun q2 =>
  (match q2 with
  | none =>
    some (.error xIA)
  | some 0 =>
    (FX6_isBusy ve0).bind fun r3 =>
    if r3 = 0 then
      (FX6_hasSnapshot ve0 p2).bind fun r6 =>
      if r6 = 0 then
        some (.error xNS)
      else
        (FX6_dropSnapshot ve0 p2).bind fun (r9, s10) =>
        some (.ok (r9, (s10, vo0)))
    else
      some (.error xIS)
  | some (_ + 1) =>
    (FX6_isBusy vo0).bind fun r12 =>
    if r12 = 0 then
      (FX6_hasSnapshot vo0 p2).bind fun r15 =>
      if r15 = 0 then
        some (.error xNS)
      else
        (FX6_dropSnapshot vo0 p2).bind fun (r18, s19) =>
        some (.ok (r18, (ve0, s19)))
    else
      some (.error xIS))
def rX7_destroy : Room := { frames := 6, cells := 1, slots := 6, locals := 92 }
set_option maxHeartbeats 4000000 in
set_option maxRecDepth 100000 in
theorem c_X7_destroy (l : Launch) (hfl : l.stackTraces = false) (D : va_G) (cB cI cJ cZ : ClassId) (nm_0 sb_0 sb_1 d_0 ve_0 ve_1 ve_2 ve_3 ve_4 ve_5 ve_6 ve_7 ve_8 ve_9 ve_10 ve_11 ve_12 ve_13 ve_14 ve_15 ve_16 ve_17 ve_18 ve_19 vo_0 vo_1 vo_2 vo_3 vo_4 vo_5 vo_6 vo_7 vo_8 vo_9 vo_10 vo_11 vo_12 vo_13 vo_14 vo_15 vo_16 vo_17 vo_18 vo_19 re_0 ro_0 : Nat) {nm0 : Int64} {sb0 : SB} {d0 : SD} {ve0 : VS} {vo0 : VS} {re0 : RC} {ro0 : RC} {p1 : Int32} {p2 : Int32} {res : Except String (Int32 × (VS × VS))} (hF : FX7_destroy nm0 sb0 d0 ve0 vo0 re0 ro0 p1 p2 = some res) : gXi l yX7_destroy wsX7_destroy rX7_destroy D (gT cB cI cJ cZ) [.ref nm_0, .int p1, .int p2] (wTV nm_0 sb_0 d_0 ve_0 vo_0 re_0 ro_0 nm0 ++ (wSB cB sb_0 sb_1 sb0 ++ (wSD d_0 sb_0 d0 ++ (wV cI cJ ve_0 ve_1 ve_2 ve_3 ve_4 ve_5 ve_6 ve_7 ve_8 ve_9 ve_10 ve_11 ve_12 ve_13 ve_14 ve_15 ve_16 ve_17 ve_18 ve_19 ve0 ++ (wV cI cJ vo_0 vo_1 vo_2 vo_3 vo_4 vo_5 vo_6 vo_7 vo_8 vo_9 vo_10 vo_11 vo_12 vo_13 vo_14 vo_15 vo_16 vo_17 vo_18 vo_19 vo0 ++ (wRC re_0 ve_0 sb_0 re0 ++ (wRC ro_0 vo_0 sb_0 ro0))))))) res (fun u : (VS × VS) => wTV nm_0 sb_0 d_0 ve_0 vo_0 re_0 ro_0 nm0 ++ (wSB cB sb_0 sb_1 sb0 ++ (wSD d_0 sb_0 d0 ++ (wV cI cJ ve_0 ve_1 ve_2 ve_3 ve_4 ve_5 ve_6 ve_7 ve_8 ve_9 ve_10 ve_11 ve_12 ve_13 ve_14 ve_15 ve_16 ve_17 ve_18 ve_19 u.1 ++ (wV cI cJ vo_0 vo_1 vo_2 vo_3 vo_4 vo_5 vo_6 vo_7 vo_8 vo_9 vo_10 vo_11 vo_12 vo_13 vo_14 vo_15 vo_16 vo_17 vo_18 vo_19 u.2 ++ (wRC re_0 ve_0 sb_0 re0 ++ (wRC ro_0 vo_0 sb_0 ro0))))))) := by
  refine g_enterX (own := RX7) (Qc := (fun sz => gXQi D (wTV nm_0 sb_0 d_0 ve_0 vo_0 re_0 ro_0 nm0 ++ (wSB cB sb_0 sb_1 sb0 ++ (wSD d_0 sb_0 d0 ++ (wV cI cJ ve_0 ve_1 ve_2 ve_3 ve_4 ve_5 ve_6 ve_7 ve_8 ve_9 ve_10 ve_11 ve_12 ve_13 ve_14 ve_15 ve_16 ve_17 ve_18 ve_19 ve0 ++ (wV cI cJ vo_0 vo_1 vo_2 vo_3 vo_4 vo_5 vo_6 vo_7 vo_8 vo_9 vo_10 vo_11 vo_12 vo_13 vo_14 vo_15 vo_16 vo_17 vo_18 vo_19 vo0 ++ (wRC re_0 ve_0 sb_0 re0 ++ (wRC ro_0 vo_0 sb_0 ro0))))))) sz (fun r (u : (VS × VS)) => res = .ok (r, u)) (fun u : (VS × VS) => wTV nm_0 sb_0 d_0 ve_0 vo_0 re_0 ro_0 nm0 ++ (wSB cB sb_0 sb_1 sb0 ++ (wSD d_0 sb_0 d0 ++ (wV cI cJ ve_0 ve_1 ve_2 ve_3 ve_4 ve_5 ve_6 ve_7 ve_8 ve_9 ve_10 ve_11 ve_12 ve_13 ve_14 ve_15 ve_16 ve_17 ve_18 ve_19 u.1 ++ (wV cI cJ vo_0 vo_1 vo_2 vo_3 vo_4 vo_5 vo_6 vo_7 vo_8 vo_9 vo_10 vo_11 vo_12 vo_13 vo_14 vo_15 vo_16 vo_17 vo_18 vo_19 u.2 ++ (wRC re_0 ve_0 sb_0 re0 ++ (wRC ro_0 vo_0 sb_0 ro0))))))))) (XC := (fun sz => gXC D (wTV nm_0 sb_0 d_0 ve_0 vo_0 re_0 ro_0 nm0 ++ (wSB cB sb_0 sb_1 sb0 ++ (wSD d_0 sb_0 d0 ++ (wV cI cJ ve_0 ve_1 ve_2 ve_3 ve_4 ve_5 ve_6 ve_7 ve_8 ve_9 ve_10 ve_11 ve_12 ve_13 ve_14 ve_15 ve_16 ve_17 ve_18 ve_19 ve0 ++ (wV cI cJ vo_0 vo_1 vo_2 vo_3 vo_4 vo_5 vo_6 vo_7 vo_8 vo_9 vo_10 vo_11 vo_12 vo_13 vo_14 vo_15 vo_16 vo_17 vo_18 vo_19 vo0 ++ (wRC re_0 ve_0 sb_0 re0 ++ (wRC ro_0 vo_0 sb_0 ro0))))))) sz (fun E => res = .error E))) rfl (by decide) rfl (Nat.le_of_ble_eq_true rfl) rfl ?_
  intro p e s m args below meth c C htab hX hZ
  unfold FX7_destroy at hF
  refine g_aload_n (z := 0) C (tdec DX7_destroy 0 rfl) rfl rfl rfl ?_
  refine g_iload_n (z := 1) C (tdec DX7_destroy 1 rfl) rfl rfl rfl ?_
  obtain ⟨q2, y1, hF⟩ := o_bind hF
  refine g_callVqRS (q0 := 0) (S := [wTV nm_0 sb_0 d_0 ve_0 vo_0 re_0 ro_0 nm0, wSB cB sb_0 sb_1 sb0, wSD d_0 sb_0 d0, wV cI cJ ve_0 ve_1 ve_2 ve_3 ve_4 ve_5 ve_6 ve_7 ve_8 ve_9 ve_10 ve_11 ve_12 ve_13 ve_14 ve_15 ve_16 ve_17 ve_18 ve_19 ve0, wV cI cJ vo_0 vo_1 vo_2 vo_3 vo_4 vo_5 vo_6 vo_7 vo_8 vo_9 vo_10 vo_11 vo_12 vo_13 vo_14 vo_15 vo_16 vo_17 vo_18 vo_19 vo0, wRC re_0 ve_0 sb_0 re0, wRC ro_0 vo_0 sb_0 ro0]) (S0 := [wTV nm_0 sb_0 d_0 ve_0 vo_0 re_0 ro_0 nm0]) C (c_X7_find l D cB cI cJ cZ nm_0 sb_0 d_0 ve_0 vo_0 re_0 ro_0 y1) rfl rfl (gIV ml_X7_51 im_X7_find sl_X7_find in_X7 cd_X7_find) rfl eX7_find rfl ⟨rfl, rfl⟩ ⟨Nat.le_of_ble_eq_true rfl, Nat.le_of_ble_eq_true rfl⟩ rfl rfl rfl [0] rfl rfl rfl (Nat.le_of_ble_eq_true rfl) (tdec DX7_destroy 2 rfl) rfl ?_
  cases q2 with
  | none =>
    refine g_st (st' := [.null]) rfl ?_
    refine g_astoreN_n (L' := [(3, .null), (0, .ref nm_0), (1, .int p1), (2, .int p2)]) C (tdec DX7_destroy 3 rfl) rfl (by decide) rfl rfl ?_
    refine g_aloadN_n (z := 0) C (tdec DX7_destroy 4 rfl) rfl rfl rfl ?_
    refine g_ifnonnullN C (tdec DX7_destroy 5 rfl) rfl ?_
    have hr9 := o_some hF
    subst hr9
    exact g_throw (cls := xIA) C htab hX hZ hfl (by decide) (by decide) (gMem xl_X7_55) (gMem xn_xIA) (gIn xg_X7_57) xb_X7_57 xo_X7_57 rfl rfl (tdec DX7_destroy 6 rfl) (tdec DX7_destroy 7 rfl) (tdec DX7_destroy 8 rfl) (tdec DX7_destroy 9 rfl) rfl rfl rfl (by decide) (by decide) (by decide) (by decide)
  | some k21 =>
    cases k21 with
    | zero =>
      refine g_st (st' := [.ref ve_0]) rfl ?_
      refine g_astore_n (L' := [(3, .ref ve_0), (0, .ref nm_0), (1, .int p1), (2, .int p2)]) C (tdec DX7_destroy 3 rfl) rfl (by decide) rfl rfl ?_
      refine g_aload_n (z := 0) C (tdec DX7_destroy 4 rfl) rfl rfl rfl ?_
      refine g_ifnonnullR (pt := 18) C (tdec DX7_destroy 5 rfl) (by decide) ?_
      refine g_aload_n (z := 0) C (tdec DX7_destroy 10 rfl) rfl rfl rfl ?_
      obtain ⟨r3, y4, hF⟩ := o_bind hF
      refine g_callViRS (q0 := 4) (S := [wTV nm_0 sb_0 d_0 ve_0 vo_0 re_0 ro_0 nm0, wSB cB sb_0 sb_1 sb0, wSD d_0 sb_0 d0, wV cI cJ ve_0 ve_1 ve_2 ve_3 ve_4 ve_5 ve_6 ve_7 ve_8 ve_9 ve_10 ve_11 ve_12 ve_13 ve_14 ve_15 ve_16 ve_17 ve_18 ve_19 ve0, wV cI cJ vo_0 vo_1 vo_2 vo_3 vo_4 vo_5 vo_6 vo_7 vo_8 vo_9 vo_10 vo_11 vo_12 vo_13 vo_14 vo_15 vo_16 vo_17 vo_18 vo_19 vo0, wRC re_0 ve_0 sb_0 re0, wRC ro_0 vo_0 sb_0 ro0]) (S0 := [wV cI cJ ve_0 ve_1 ve_2 ve_3 ve_4 ve_5 ve_6 ve_7 ve_8 ve_9 ve_10 ve_11 ve_12 ve_13 ve_14 ve_15 ve_16 ve_17 ve_18 ve_19 ve0]) C (c_X6_isBusy l D cB cI cJ cZ ve_0 ve_1 ve_2 ve_3 ve_4 ve_5 ve_6 ve_7 ve_8 ve_9 ve_10 ve_11 ve_12 ve_13 ve_14 ve_15 ve_16 ve_17 ve_18 ve_19 y4) rfl rfl (gIV ml_X7_73 im_X6_isBusy sl_X6_isBusy in_X6 cd_X6_isBusy) rfl eX6_isBusy rfl ⟨rfl, rfl⟩ ⟨Nat.le_of_ble_eq_true rfl, Nat.le_of_ble_eq_true rfl⟩ rfl rfl rfl [3] rfl rfl rfl (Nat.le_of_ble_eq_true rfl) (tdec DX7_destroy 11 rfl) rfl ?_
      refine g_if_eq (pt := 33) C (tdec DX7_destroy 12 rfl) (by decide) rfl (fun h5 => ?_) (fun h5 => ?_)
      · have hF := o_ifp hF h5
        refine g_aload_n (z := 0) C (tdec DX7_destroy 17 rfl) rfl rfl rfl ?_
        refine g_iload_n (z := 3) C (tdec DX7_destroy 18 rfl) rfl rfl rfl ?_
        obtain ⟨r6, y7, hF⟩ := o_bind hF
        refine g_callViRS (q0 := 4) (S := [wTV nm_0 sb_0 d_0 ve_0 vo_0 re_0 ro_0 nm0, wSB cB sb_0 sb_1 sb0, wSD d_0 sb_0 d0, wV cI cJ ve_0 ve_1 ve_2 ve_3 ve_4 ve_5 ve_6 ve_7 ve_8 ve_9 ve_10 ve_11 ve_12 ve_13 ve_14 ve_15 ve_16 ve_17 ve_18 ve_19 ve0, wV cI cJ vo_0 vo_1 vo_2 vo_3 vo_4 vo_5 vo_6 vo_7 vo_8 vo_9 vo_10 vo_11 vo_12 vo_13 vo_14 vo_15 vo_16 vo_17 vo_18 vo_19 vo0, wRC re_0 ve_0 sb_0 re0, wRC ro_0 vo_0 sb_0 ro0]) (S0 := [wV cI cJ ve_0 ve_1 ve_2 ve_3 ve_4 ve_5 ve_6 ve_7 ve_8 ve_9 ve_10 ve_11 ve_12 ve_13 ve_14 ve_15 ve_16 ve_17 ve_18 ve_19 ve0]) C (c_X6_hasSnapshot l D cB cI cJ cZ ve_0 ve_1 ve_2 ve_3 ve_4 ve_5 ve_6 ve_7 ve_8 ve_9 ve_10 ve_11 ve_12 ve_13 ve_14 ve_15 ve_16 ve_17 ve_18 ve_19 y7) rfl rfl (gIV ml_X7_88 im_X6_hasSnapshot sl_X6_hasSnapshot in_X6 cd_X6_hasSnapshot) rfl eX6_hasSnapshot rfl ⟨rfl, rfl⟩ ⟨Nat.le_of_ble_eq_true rfl, Nat.le_of_ble_eq_true rfl⟩ rfl rfl rfl [3] rfl rfl rfl (Nat.le_of_ble_eq_true rfl) (tdec DX7_destroy 19 rfl) rfl ?_
        refine g_if_ne (pt := 49) C (tdec DX7_destroy 20 rfl) (by decide) rfl (fun h8 => ?_) (fun h8 => ?_)
        · have hF := o_ifn hF h8
          refine g_aload_n (z := 0) C (tdec DX7_destroy 25 rfl) rfl rfl rfl ?_
          refine g_iload_n (z := 3) C (tdec DX7_destroy 26 rfl) rfl rfl rfl ?_
          obtain ⟨⟨r9, s10⟩, y11, hF⟩ := o_bind hF
          refine g_callViMS (q0 := 4) (W' := wTV nm_0 sb_0 d_0 ve_0 vo_0 re_0 ro_0 nm0 ++ (wSB cB sb_0 sb_1 sb0 ++ (wSD d_0 sb_0 d0 ++ (wV cI cJ ve_0 ve_1 ve_2 ve_3 ve_4 ve_5 ve_6 ve_7 ve_8 ve_9 ve_10 ve_11 ve_12 ve_13 ve_14 ve_15 ve_16 ve_17 ve_18 ve_19 s10 ++ (wV cI cJ vo_0 vo_1 vo_2 vo_3 vo_4 vo_5 vo_6 vo_7 vo_8 vo_9 vo_10 vo_11 vo_12 vo_13 vo_14 vo_15 vo_16 vo_17 vo_18 vo_19 vo0 ++ (wRC re_0 ve_0 sb_0 re0 ++ (wRC ro_0 vo_0 sb_0 ro0))))))) (S := [wTV nm_0 sb_0 d_0 ve_0 vo_0 re_0 ro_0 nm0, wSB cB sb_0 sb_1 sb0, wSD d_0 sb_0 d0, wV cI cJ ve_0 ve_1 ve_2 ve_3 ve_4 ve_5 ve_6 ve_7 ve_8 ve_9 ve_10 ve_11 ve_12 ve_13 ve_14 ve_15 ve_16 ve_17 ve_18 ve_19 ve0, wV cI cJ vo_0 vo_1 vo_2 vo_3 vo_4 vo_5 vo_6 vo_7 vo_8 vo_9 vo_10 vo_11 vo_12 vo_13 vo_14 vo_15 vo_16 vo_17 vo_18 vo_19 vo0, wRC re_0 ve_0 sb_0 re0, wRC ro_0 vo_0 sb_0 ro0]) (S0 := [wV cI cJ ve_0 ve_1 ve_2 ve_3 ve_4 ve_5 ve_6 ve_7 ve_8 ve_9 ve_10 ve_11 ve_12 ve_13 ve_14 ve_15 ve_16 ve_17 ve_18 ve_19 ve0]) (S1 := [wV cI cJ ve_0 ve_1 ve_2 ve_3 ve_4 ve_5 ve_6 ve_7 ve_8 ve_9 ve_10 ve_11 ve_12 ve_13 ve_14 ve_15 ve_16 ve_17 ve_18 ve_19 s10]) (S' := [wTV nm_0 sb_0 d_0 ve_0 vo_0 re_0 ro_0 nm0, wSB cB sb_0 sb_1 sb0, wSD d_0 sb_0 d0, wV cI cJ ve_0 ve_1 ve_2 ve_3 ve_4 ve_5 ve_6 ve_7 ve_8 ve_9 ve_10 ve_11 ve_12 ve_13 ve_14 ve_15 ve_16 ve_17 ve_18 ve_19 s10, wV cI cJ vo_0 vo_1 vo_2 vo_3 vo_4 vo_5 vo_6 vo_7 vo_8 vo_9 vo_10 vo_11 vo_12 vo_13 vo_14 vo_15 vo_16 vo_17 vo_18 vo_19 vo0, wRC re_0 ve_0 sb_0 re0, wRC ro_0 vo_0 sb_0 ro0]) C (c_X6_dropSnapshot l D cB cI cJ cZ ve_0 ve_1 ve_2 ve_3 ve_4 ve_5 ve_6 ve_7 ve_8 ve_9 ve_10 ve_11 ve_12 ve_13 ve_14 ve_15 ve_16 ve_17 ve_18 ve_19 y11) rfl rfl (gIV ml_X7_112 im_X6_dropSnapshot sl_X6_dropSnapshot in_X6 cd_X6_dropSnapshot) rfl eX6_dropSnapshot rfl ⟨rfl, rfl⟩ ⟨Nat.le_of_ble_eq_true rfl, Nat.le_of_ble_eq_true rfl⟩ rfl rfl rfl [3] rfl rfl rfl rfl (gA_cons aV gA_nil) rfl rfl (Nat.le_of_ble_eq_true rfl) (tdec DX7_destroy 27 rfl) rfl ?_
          have hr9 := o_some hF
          subst hr9
          exact g_iretX (s10, vo0) C rfl rfl (tdec DX7_destroy 28 rfl)
        · have hF := o_ifp hF h8
          have hr9 := o_some hF
          subst hr9
          exact g_throw (cls := xNS) C htab hX hZ hfl (by decide) (by decide) (gMem xl_X7_91) (gMem xn_xNS) (gIn xg_X7_93) xb_X7_93 xo_X7_93 rfl rfl (tdec DX7_destroy 21 rfl) (tdec DX7_destroy 22 rfl) (tdec DX7_destroy 23 rfl) (tdec DX7_destroy 24 rfl) rfl rfl rfl (by decide) (by decide) (by decide) (by decide)
      · have hF := o_ifn hF h5
        have hr9 := o_some hF
        subst hr9
        exact g_throw (cls := xIS) C htab hX hZ hfl (by decide) (by decide) (gMem xl_X7_98) (gMem xn_xIS) (gIn xg_X7_100) xb_X7_100 xo_X7_100 rfl rfl (tdec DX7_destroy 13 rfl) (tdec DX7_destroy 14 rfl) (tdec DX7_destroy 15 rfl) (tdec DX7_destroy 16 rfl) rfl rfl rfl (by decide) (by decide) (by decide) (by decide)
    | succ k21 =>
      refine g_st (st' := [.ref vo_0]) rfl ?_
      refine g_astore_n (L' := [(3, .ref vo_0), (0, .ref nm_0), (1, .int p1), (2, .int p2)]) C (tdec DX7_destroy 3 rfl) rfl (by decide) rfl rfl ?_
      refine g_aload_n (z := 0) C (tdec DX7_destroy 4 rfl) rfl rfl rfl ?_
      refine g_ifnonnullR (pt := 18) C (tdec DX7_destroy 5 rfl) (by decide) ?_
      refine g_aload_n (z := 0) C (tdec DX7_destroy 10 rfl) rfl rfl rfl ?_
      obtain ⟨r12, y13, hF⟩ := o_bind hF
      refine g_callViRS (q0 := 24) (S := [wTV nm_0 sb_0 d_0 ve_0 vo_0 re_0 ro_0 nm0, wSB cB sb_0 sb_1 sb0, wSD d_0 sb_0 d0, wV cI cJ ve_0 ve_1 ve_2 ve_3 ve_4 ve_5 ve_6 ve_7 ve_8 ve_9 ve_10 ve_11 ve_12 ve_13 ve_14 ve_15 ve_16 ve_17 ve_18 ve_19 ve0, wV cI cJ vo_0 vo_1 vo_2 vo_3 vo_4 vo_5 vo_6 vo_7 vo_8 vo_9 vo_10 vo_11 vo_12 vo_13 vo_14 vo_15 vo_16 vo_17 vo_18 vo_19 vo0, wRC re_0 ve_0 sb_0 re0, wRC ro_0 vo_0 sb_0 ro0]) (S0 := [wV cI cJ vo_0 vo_1 vo_2 vo_3 vo_4 vo_5 vo_6 vo_7 vo_8 vo_9 vo_10 vo_11 vo_12 vo_13 vo_14 vo_15 vo_16 vo_17 vo_18 vo_19 vo0]) C (c_X6_isBusy l D cB cI cJ cZ vo_0 vo_1 vo_2 vo_3 vo_4 vo_5 vo_6 vo_7 vo_8 vo_9 vo_10 vo_11 vo_12 vo_13 vo_14 vo_15 vo_16 vo_17 vo_18 vo_19 y13) rfl rfl (gIV ml_X7_73 im_X6_isBusy sl_X6_isBusy in_X6 cd_X6_isBusy) rfl eX6_isBusy rfl ⟨rfl, rfl⟩ ⟨Nat.le_of_ble_eq_true rfl, Nat.le_of_ble_eq_true rfl⟩ rfl rfl rfl [4] rfl rfl rfl (Nat.le_of_ble_eq_true rfl) (tdec DX7_destroy 11 rfl) rfl ?_
      refine g_if_eq (pt := 33) C (tdec DX7_destroy 12 rfl) (by decide) rfl (fun h14 => ?_) (fun h14 => ?_)
      · have hF := o_ifp hF h14
        refine g_aload_n (z := 0) C (tdec DX7_destroy 17 rfl) rfl rfl rfl ?_
        refine g_iload_n (z := 3) C (tdec DX7_destroy 18 rfl) rfl rfl rfl ?_
        obtain ⟨r15, y16, hF⟩ := o_bind hF
        refine g_callViRS (q0 := 24) (S := [wTV nm_0 sb_0 d_0 ve_0 vo_0 re_0 ro_0 nm0, wSB cB sb_0 sb_1 sb0, wSD d_0 sb_0 d0, wV cI cJ ve_0 ve_1 ve_2 ve_3 ve_4 ve_5 ve_6 ve_7 ve_8 ve_9 ve_10 ve_11 ve_12 ve_13 ve_14 ve_15 ve_16 ve_17 ve_18 ve_19 ve0, wV cI cJ vo_0 vo_1 vo_2 vo_3 vo_4 vo_5 vo_6 vo_7 vo_8 vo_9 vo_10 vo_11 vo_12 vo_13 vo_14 vo_15 vo_16 vo_17 vo_18 vo_19 vo0, wRC re_0 ve_0 sb_0 re0, wRC ro_0 vo_0 sb_0 ro0]) (S0 := [wV cI cJ vo_0 vo_1 vo_2 vo_3 vo_4 vo_5 vo_6 vo_7 vo_8 vo_9 vo_10 vo_11 vo_12 vo_13 vo_14 vo_15 vo_16 vo_17 vo_18 vo_19 vo0]) C (c_X6_hasSnapshot l D cB cI cJ cZ vo_0 vo_1 vo_2 vo_3 vo_4 vo_5 vo_6 vo_7 vo_8 vo_9 vo_10 vo_11 vo_12 vo_13 vo_14 vo_15 vo_16 vo_17 vo_18 vo_19 y16) rfl rfl (gIV ml_X7_88 im_X6_hasSnapshot sl_X6_hasSnapshot in_X6 cd_X6_hasSnapshot) rfl eX6_hasSnapshot rfl ⟨rfl, rfl⟩ ⟨Nat.le_of_ble_eq_true rfl, Nat.le_of_ble_eq_true rfl⟩ rfl rfl rfl [4] rfl rfl rfl (Nat.le_of_ble_eq_true rfl) (tdec DX7_destroy 19 rfl) rfl ?_
        refine g_if_ne (pt := 49) C (tdec DX7_destroy 20 rfl) (by decide) rfl (fun h17 => ?_) (fun h17 => ?_)
        · have hF := o_ifn hF h17
          refine g_aload_n (z := 0) C (tdec DX7_destroy 25 rfl) rfl rfl rfl ?_
          refine g_iload_n (z := 3) C (tdec DX7_destroy 26 rfl) rfl rfl rfl ?_
          obtain ⟨⟨r18, s19⟩, y20, hF⟩ := o_bind hF
          refine g_callViMS (q0 := 24) (W' := wTV nm_0 sb_0 d_0 ve_0 vo_0 re_0 ro_0 nm0 ++ (wSB cB sb_0 sb_1 sb0 ++ (wSD d_0 sb_0 d0 ++ (wV cI cJ ve_0 ve_1 ve_2 ve_3 ve_4 ve_5 ve_6 ve_7 ve_8 ve_9 ve_10 ve_11 ve_12 ve_13 ve_14 ve_15 ve_16 ve_17 ve_18 ve_19 ve0 ++ (wV cI cJ vo_0 vo_1 vo_2 vo_3 vo_4 vo_5 vo_6 vo_7 vo_8 vo_9 vo_10 vo_11 vo_12 vo_13 vo_14 vo_15 vo_16 vo_17 vo_18 vo_19 s19 ++ (wRC re_0 ve_0 sb_0 re0 ++ (wRC ro_0 vo_0 sb_0 ro0))))))) (S := [wTV nm_0 sb_0 d_0 ve_0 vo_0 re_0 ro_0 nm0, wSB cB sb_0 sb_1 sb0, wSD d_0 sb_0 d0, wV cI cJ ve_0 ve_1 ve_2 ve_3 ve_4 ve_5 ve_6 ve_7 ve_8 ve_9 ve_10 ve_11 ve_12 ve_13 ve_14 ve_15 ve_16 ve_17 ve_18 ve_19 ve0, wV cI cJ vo_0 vo_1 vo_2 vo_3 vo_4 vo_5 vo_6 vo_7 vo_8 vo_9 vo_10 vo_11 vo_12 vo_13 vo_14 vo_15 vo_16 vo_17 vo_18 vo_19 vo0, wRC re_0 ve_0 sb_0 re0, wRC ro_0 vo_0 sb_0 ro0]) (S0 := [wV cI cJ vo_0 vo_1 vo_2 vo_3 vo_4 vo_5 vo_6 vo_7 vo_8 vo_9 vo_10 vo_11 vo_12 vo_13 vo_14 vo_15 vo_16 vo_17 vo_18 vo_19 vo0]) (S1 := [wV cI cJ vo_0 vo_1 vo_2 vo_3 vo_4 vo_5 vo_6 vo_7 vo_8 vo_9 vo_10 vo_11 vo_12 vo_13 vo_14 vo_15 vo_16 vo_17 vo_18 vo_19 s19]) (S' := [wTV nm_0 sb_0 d_0 ve_0 vo_0 re_0 ro_0 nm0, wSB cB sb_0 sb_1 sb0, wSD d_0 sb_0 d0, wV cI cJ ve_0 ve_1 ve_2 ve_3 ve_4 ve_5 ve_6 ve_7 ve_8 ve_9 ve_10 ve_11 ve_12 ve_13 ve_14 ve_15 ve_16 ve_17 ve_18 ve_19 ve0, wV cI cJ vo_0 vo_1 vo_2 vo_3 vo_4 vo_5 vo_6 vo_7 vo_8 vo_9 vo_10 vo_11 vo_12 vo_13 vo_14 vo_15 vo_16 vo_17 vo_18 vo_19 s19, wRC re_0 ve_0 sb_0 re0, wRC ro_0 vo_0 sb_0 ro0]) C (c_X6_dropSnapshot l D cB cI cJ cZ vo_0 vo_1 vo_2 vo_3 vo_4 vo_5 vo_6 vo_7 vo_8 vo_9 vo_10 vo_11 vo_12 vo_13 vo_14 vo_15 vo_16 vo_17 vo_18 vo_19 y20) rfl rfl (gIV ml_X7_112 im_X6_dropSnapshot sl_X6_dropSnapshot in_X6 cd_X6_dropSnapshot) rfl eX6_dropSnapshot rfl ⟨rfl, rfl⟩ ⟨Nat.le_of_ble_eq_true rfl, Nat.le_of_ble_eq_true rfl⟩ rfl rfl rfl [4] rfl rfl rfl rfl (gA_cons aV gA_nil) rfl rfl (Nat.le_of_ble_eq_true rfl) (tdec DX7_destroy 27 rfl) rfl ?_
          have hr9 := o_some hF
          subst hr9
          exact g_iretX (ve0, s19) C rfl rfl (tdec DX7_destroy 28 rfl)
        · have hF := o_ifp hF h17
          have hr9 := o_some hF
          subst hr9
          exact g_throw (cls := xNS) C htab hX hZ hfl (by decide) (by decide) (gMem xl_X7_91) (gMem xn_xNS) (gIn xg_X7_93) xb_X7_93 xo_X7_93 rfl rfl (tdec DX7_destroy 21 rfl) (tdec DX7_destroy 22 rfl) (tdec DX7_destroy 23 rfl) (tdec DX7_destroy 24 rfl) rfl rfl rfl (by decide) (by decide) (by decide) (by decide)
      · have hF := o_ifn hF h14
        have hr9 := o_some hF
        subst hr9
        exact g_throw (cls := xIS) C htab hX hZ hfl (by decide) (by decide) (gMem xl_X7_98) (gMem xn_xIS) (gIn xg_X7_100) xb_X7_100 xo_X7_100 rfl rfl (tdec DX7_destroy 13 rfl) (tdec DX7_destroy 14 rfl) (tdec DX7_destroy 15 rfl) (tdec DX7_destroy 16 rfl) rfl rfl rfl (by decide) (by decide) (by decide) (by decide)
def FX7_rollback (nm0 : Int64) (sb0 : SB) (d0 : SD) (ve0 : VS) (vo0 : VS) (re0 : RC) (ro0 : RC) (p1 : Int32) : Option (Except String (Int32 × (VS × VS))) :=
  (FX7_find nm0 p1).bind fun q2 =>
  (match q2 with
  | none =>
    some (.error xIA)
  | some 0 =>
    (FX6_isBusy ve0).bind fun r3 =>
    if r3 = 0 then
      (FX6_snapshots ve0).bind fun r6 =>
      if r6 = 0 then
        some (.error xNS)
      else
        (FX6_returnToLatest ve0).bind fun (r9, s10) =>
        some (.ok (r9, (s10, vo0)))
    else
      some (.error xIS)
  | some (_ + 1) =>
    (FX6_isBusy vo0).bind fun r12 =>
    if r12 = 0 then
      (FX6_snapshots vo0).bind fun r15 =>
      if r15 = 0 then
        some (.error xNS)
      else
        (FX6_returnToLatest vo0).bind fun (r18, s19) =>
        some (.ok (r18, (ve0, s19)))
    else
      some (.error xIS))
def rX7_rollback : Room := { frames := 6, cells := 1, slots := 6, locals := 90 }
set_option maxHeartbeats 4000000 in
set_option maxRecDepth 100000 in
theorem c_X7_rollback (l : Launch) (hfl : l.stackTraces = false) (D : va_G) (cB cI cJ cZ : ClassId) (nm_0 sb_0 sb_1 d_0 ve_0 ve_1 ve_2 ve_3 ve_4 ve_5 ve_6 ve_7 ve_8 ve_9 ve_10 ve_11 ve_12 ve_13 ve_14 ve_15 ve_16 ve_17 ve_18 ve_19 vo_0 vo_1 vo_2 vo_3 vo_4 vo_5 vo_6 vo_7 vo_8 vo_9 vo_10 vo_11 vo_12 vo_13 vo_14 vo_15 vo_16 vo_17 vo_18 vo_19 re_0 ro_0 : Nat) {nm0 : Int64} {sb0 : SB} {d0 : SD} {ve0 : VS} {vo0 : VS} {re0 : RC} {ro0 : RC} {p1 : Int32} {res : Except String (Int32 × (VS × VS))} (hF : FX7_rollback nm0 sb0 d0 ve0 vo0 re0 ro0 p1 = some res) : gXi l yX7_rollback wsX7_rollback rX7_rollback D (gT cB cI cJ cZ) [.ref nm_0, .int p1] (wTV nm_0 sb_0 d_0 ve_0 vo_0 re_0 ro_0 nm0 ++ (wSB cB sb_0 sb_1 sb0 ++ (wSD d_0 sb_0 d0 ++ (wV cI cJ ve_0 ve_1 ve_2 ve_3 ve_4 ve_5 ve_6 ve_7 ve_8 ve_9 ve_10 ve_11 ve_12 ve_13 ve_14 ve_15 ve_16 ve_17 ve_18 ve_19 ve0 ++ (wV cI cJ vo_0 vo_1 vo_2 vo_3 vo_4 vo_5 vo_6 vo_7 vo_8 vo_9 vo_10 vo_11 vo_12 vo_13 vo_14 vo_15 vo_16 vo_17 vo_18 vo_19 vo0 ++ (wRC re_0 ve_0 sb_0 re0 ++ (wRC ro_0 vo_0 sb_0 ro0))))))) res (fun u : (VS × VS) => wTV nm_0 sb_0 d_0 ve_0 vo_0 re_0 ro_0 nm0 ++ (wSB cB sb_0 sb_1 sb0 ++ (wSD d_0 sb_0 d0 ++ (wV cI cJ ve_0 ve_1 ve_2 ve_3 ve_4 ve_5 ve_6 ve_7 ve_8 ve_9 ve_10 ve_11 ve_12 ve_13 ve_14 ve_15 ve_16 ve_17 ve_18 ve_19 u.1 ++ (wV cI cJ vo_0 vo_1 vo_2 vo_3 vo_4 vo_5 vo_6 vo_7 vo_8 vo_9 vo_10 vo_11 vo_12 vo_13 vo_14 vo_15 vo_16 vo_17 vo_18 vo_19 u.2 ++ (wRC re_0 ve_0 sb_0 re0 ++ (wRC ro_0 vo_0 sb_0 ro0))))))) := by
  refine g_enterX (own := RX7) (Qc := (fun sz => gXQi D (wTV nm_0 sb_0 d_0 ve_0 vo_0 re_0 ro_0 nm0 ++ (wSB cB sb_0 sb_1 sb0 ++ (wSD d_0 sb_0 d0 ++ (wV cI cJ ve_0 ve_1 ve_2 ve_3 ve_4 ve_5 ve_6 ve_7 ve_8 ve_9 ve_10 ve_11 ve_12 ve_13 ve_14 ve_15 ve_16 ve_17 ve_18 ve_19 ve0 ++ (wV cI cJ vo_0 vo_1 vo_2 vo_3 vo_4 vo_5 vo_6 vo_7 vo_8 vo_9 vo_10 vo_11 vo_12 vo_13 vo_14 vo_15 vo_16 vo_17 vo_18 vo_19 vo0 ++ (wRC re_0 ve_0 sb_0 re0 ++ (wRC ro_0 vo_0 sb_0 ro0))))))) sz (fun r (u : (VS × VS)) => res = .ok (r, u)) (fun u : (VS × VS) => wTV nm_0 sb_0 d_0 ve_0 vo_0 re_0 ro_0 nm0 ++ (wSB cB sb_0 sb_1 sb0 ++ (wSD d_0 sb_0 d0 ++ (wV cI cJ ve_0 ve_1 ve_2 ve_3 ve_4 ve_5 ve_6 ve_7 ve_8 ve_9 ve_10 ve_11 ve_12 ve_13 ve_14 ve_15 ve_16 ve_17 ve_18 ve_19 u.1 ++ (wV cI cJ vo_0 vo_1 vo_2 vo_3 vo_4 vo_5 vo_6 vo_7 vo_8 vo_9 vo_10 vo_11 vo_12 vo_13 vo_14 vo_15 vo_16 vo_17 vo_18 vo_19 u.2 ++ (wRC re_0 ve_0 sb_0 re0 ++ (wRC ro_0 vo_0 sb_0 ro0))))))))) (XC := (fun sz => gXC D (wTV nm_0 sb_0 d_0 ve_0 vo_0 re_0 ro_0 nm0 ++ (wSB cB sb_0 sb_1 sb0 ++ (wSD d_0 sb_0 d0 ++ (wV cI cJ ve_0 ve_1 ve_2 ve_3 ve_4 ve_5 ve_6 ve_7 ve_8 ve_9 ve_10 ve_11 ve_12 ve_13 ve_14 ve_15 ve_16 ve_17 ve_18 ve_19 ve0 ++ (wV cI cJ vo_0 vo_1 vo_2 vo_3 vo_4 vo_5 vo_6 vo_7 vo_8 vo_9 vo_10 vo_11 vo_12 vo_13 vo_14 vo_15 vo_16 vo_17 vo_18 vo_19 vo0 ++ (wRC re_0 ve_0 sb_0 re0 ++ (wRC ro_0 vo_0 sb_0 ro0))))))) sz (fun E => res = .error E))) rfl (by decide) rfl (Nat.le_of_ble_eq_true rfl) rfl ?_
  intro p e s m args below meth c C htab hX hZ
  unfold FX7_rollback at hF
  refine g_aload_n (z := 0) C (tdec DX7_rollback 0 rfl) rfl rfl rfl ?_
  refine g_iload_n (z := 1) C (tdec DX7_rollback 1 rfl) rfl rfl rfl ?_
  obtain ⟨q2, y1, hF⟩ := o_bind hF
  refine g_callVqRS (q0 := 0) (S := [wTV nm_0 sb_0 d_0 ve_0 vo_0 re_0 ro_0 nm0, wSB cB sb_0 sb_1 sb0, wSD d_0 sb_0 d0, wV cI cJ ve_0 ve_1 ve_2 ve_3 ve_4 ve_5 ve_6 ve_7 ve_8 ve_9 ve_10 ve_11 ve_12 ve_13 ve_14 ve_15 ve_16 ve_17 ve_18 ve_19 ve0, wV cI cJ vo_0 vo_1 vo_2 vo_3 vo_4 vo_5 vo_6 vo_7 vo_8 vo_9 vo_10 vo_11 vo_12 vo_13 vo_14 vo_15 vo_16 vo_17 vo_18 vo_19 vo0, wRC re_0 ve_0 sb_0 re0, wRC ro_0 vo_0 sb_0 ro0]) (S0 := [wTV nm_0 sb_0 d_0 ve_0 vo_0 re_0 ro_0 nm0]) C (c_X7_find l D cB cI cJ cZ nm_0 sb_0 d_0 ve_0 vo_0 re_0 ro_0 y1) rfl rfl (gIV ml_X7_51 im_X7_find sl_X7_find in_X7 cd_X7_find) rfl eX7_find rfl ⟨rfl, rfl⟩ ⟨Nat.le_of_ble_eq_true rfl, Nat.le_of_ble_eq_true rfl⟩ rfl rfl rfl [0] rfl rfl rfl (Nat.le_of_ble_eq_true rfl) (tdec DX7_rollback 2 rfl) rfl ?_
  cases q2 with
  | none =>
    refine g_st (st' := [.null]) rfl ?_
    refine g_astoreN_n (L' := [(2, .null), (0, .ref nm_0), (1, .int p1)]) C (tdec DX7_rollback 3 rfl) rfl (by decide) rfl rfl ?_
    refine g_aloadN_n (z := 0) C (tdec DX7_rollback 4 rfl) rfl rfl rfl ?_
    refine g_ifnonnullN C (tdec DX7_rollback 5 rfl) rfl ?_
    have hr9 := o_some hF
    subst hr9
    exact g_throw (cls := xIA) C htab hX hZ hfl (by decide) (by decide) (gMem xl_X7_55) (gMem xn_xIA) (gIn xg_X7_57) xb_X7_57 xo_X7_57 rfl rfl (tdec DX7_rollback 6 rfl) (tdec DX7_rollback 7 rfl) (tdec DX7_rollback 8 rfl) (tdec DX7_rollback 9 rfl) rfl rfl rfl (by decide) (by decide) (by decide) (by decide)
  | some k21 =>
    cases k21 with
    | zero =>
      refine g_st (st' := [.ref ve_0]) rfl ?_
      refine g_astore_n (L' := [(2, .ref ve_0), (0, .ref nm_0), (1, .int p1)]) C (tdec DX7_rollback 3 rfl) rfl (by decide) rfl rfl ?_
      refine g_aload_n (z := 0) C (tdec DX7_rollback 4 rfl) rfl rfl rfl ?_
      refine g_ifnonnullR (pt := 18) C (tdec DX7_rollback 5 rfl) (by decide) ?_
      refine g_aload_n (z := 0) C (tdec DX7_rollback 10 rfl) rfl rfl rfl ?_
      obtain ⟨r3, y4, hF⟩ := o_bind hF
      refine g_callViRS (q0 := 4) (S := [wTV nm_0 sb_0 d_0 ve_0 vo_0 re_0 ro_0 nm0, wSB cB sb_0 sb_1 sb0, wSD d_0 sb_0 d0, wV cI cJ ve_0 ve_1 ve_2 ve_3 ve_4 ve_5 ve_6 ve_7 ve_8 ve_9 ve_10 ve_11 ve_12 ve_13 ve_14 ve_15 ve_16 ve_17 ve_18 ve_19 ve0, wV cI cJ vo_0 vo_1 vo_2 vo_3 vo_4 vo_5 vo_6 vo_7 vo_8 vo_9 vo_10 vo_11 vo_12 vo_13 vo_14 vo_15 vo_16 vo_17 vo_18 vo_19 vo0, wRC re_0 ve_0 sb_0 re0, wRC ro_0 vo_0 sb_0 ro0]) (S0 := [wV cI cJ ve_0 ve_1 ve_2 ve_3 ve_4 ve_5 ve_6 ve_7 ve_8 ve_9 ve_10 ve_11 ve_12 ve_13 ve_14 ve_15 ve_16 ve_17 ve_18 ve_19 ve0]) C (c_X6_isBusy l D cB cI cJ cZ ve_0 ve_1 ve_2 ve_3 ve_4 ve_5 ve_6 ve_7 ve_8 ve_9 ve_10 ve_11 ve_12 ve_13 ve_14 ve_15 ve_16 ve_17 ve_18 ve_19 y4) rfl rfl (gIV ml_X7_73 im_X6_isBusy sl_X6_isBusy in_X6 cd_X6_isBusy) rfl eX6_isBusy rfl ⟨rfl, rfl⟩ ⟨Nat.le_of_ble_eq_true rfl, Nat.le_of_ble_eq_true rfl⟩ rfl rfl rfl [3] rfl rfl rfl (Nat.le_of_ble_eq_true rfl) (tdec DX7_rollback 11 rfl) rfl ?_
      refine g_if_eq (pt := 33) C (tdec DX7_rollback 12 rfl) (by decide) rfl (fun h5 => ?_) (fun h5 => ?_)
      · have hF := o_ifp hF h5
        refine g_aload_n (z := 0) C (tdec DX7_rollback 17 rfl) rfl rfl rfl ?_
        obtain ⟨r6, y7, hF⟩ := o_bind hF
        refine g_callViRS (q0 := 4) (S := [wTV nm_0 sb_0 d_0 ve_0 vo_0 re_0 ro_0 nm0, wSB cB sb_0 sb_1 sb0, wSD d_0 sb_0 d0, wV cI cJ ve_0 ve_1 ve_2 ve_3 ve_4 ve_5 ve_6 ve_7 ve_8 ve_9 ve_10 ve_11 ve_12 ve_13 ve_14 ve_15 ve_16 ve_17 ve_18 ve_19 ve0, wV cI cJ vo_0 vo_1 vo_2 vo_3 vo_4 vo_5 vo_6 vo_7 vo_8 vo_9 vo_10 vo_11 vo_12 vo_13 vo_14 vo_15 vo_16 vo_17 vo_18 vo_19 vo0, wRC re_0 ve_0 sb_0 re0, wRC ro_0 vo_0 sb_0 ro0]) (S0 := [wV cI cJ ve_0 ve_1 ve_2 ve_3 ve_4 ve_5 ve_6 ve_7 ve_8 ve_9 ve_10 ve_11 ve_12 ve_13 ve_14 ve_15 ve_16 ve_17 ve_18 ve_19 ve0]) C (c_X6_snapshots l D cB cI cJ cZ ve_0 ve_1 ve_2 ve_3 ve_4 ve_5 ve_6 ve_7 ve_8 ve_9 ve_10 ve_11 ve_12 ve_13 ve_14 ve_15 ve_16 ve_17 ve_18 ve_19 y7) rfl rfl (gIV ml_X7_101 im_X6_snapshots sl_X6_snapshots in_X6 cd_X6_snapshots) rfl eX6_snapshots rfl ⟨rfl, rfl⟩ ⟨Nat.le_of_ble_eq_true rfl, Nat.le_of_ble_eq_true rfl⟩ rfl rfl rfl [3] rfl rfl rfl (Nat.le_of_ble_eq_true rfl) (tdec DX7_rollback 18 rfl) rfl ?_
        refine g_if_ne (pt := 48) C (tdec DX7_rollback 19 rfl) (by decide) rfl (fun h8 => ?_) (fun h8 => ?_)
        · have hF := o_ifn hF h8
          refine g_aload_n (z := 0) C (tdec DX7_rollback 24 rfl) rfl rfl rfl ?_
          obtain ⟨⟨r9, s10⟩, y11, hF⟩ := o_bind hF
          refine g_callViMS (q0 := 4) (W' := wTV nm_0 sb_0 d_0 ve_0 vo_0 re_0 ro_0 nm0 ++ (wSB cB sb_0 sb_1 sb0 ++ (wSD d_0 sb_0 d0 ++ (wV cI cJ ve_0 ve_1 ve_2 ve_3 ve_4 ve_5 ve_6 ve_7 ve_8 ve_9 ve_10 ve_11 ve_12 ve_13 ve_14 ve_15 ve_16 ve_17 ve_18 ve_19 s10 ++ (wV cI cJ vo_0 vo_1 vo_2 vo_3 vo_4 vo_5 vo_6 vo_7 vo_8 vo_9 vo_10 vo_11 vo_12 vo_13 vo_14 vo_15 vo_16 vo_17 vo_18 vo_19 vo0 ++ (wRC re_0 ve_0 sb_0 re0 ++ (wRC ro_0 vo_0 sb_0 ro0))))))) (S := [wTV nm_0 sb_0 d_0 ve_0 vo_0 re_0 ro_0 nm0, wSB cB sb_0 sb_1 sb0, wSD d_0 sb_0 d0, wV cI cJ ve_0 ve_1 ve_2 ve_3 ve_4 ve_5 ve_6 ve_7 ve_8 ve_9 ve_10 ve_11 ve_12 ve_13 ve_14 ve_15 ve_16 ve_17 ve_18 ve_19 ve0, wV cI cJ vo_0 vo_1 vo_2 vo_3 vo_4 vo_5 vo_6 vo_7 vo_8 vo_9 vo_10 vo_11 vo_12 vo_13 vo_14 vo_15 vo_16 vo_17 vo_18 vo_19 vo0, wRC re_0 ve_0 sb_0 re0, wRC ro_0 vo_0 sb_0 ro0]) (S0 := [wV cI cJ ve_0 ve_1 ve_2 ve_3 ve_4 ve_5 ve_6 ve_7 ve_8 ve_9 ve_10 ve_11 ve_12 ve_13 ve_14 ve_15 ve_16 ve_17 ve_18 ve_19 ve0]) (S1 := [wV cI cJ ve_0 ve_1 ve_2 ve_3 ve_4 ve_5 ve_6 ve_7 ve_8 ve_9 ve_10 ve_11 ve_12 ve_13 ve_14 ve_15 ve_16 ve_17 ve_18 ve_19 s10]) (S' := [wTV nm_0 sb_0 d_0 ve_0 vo_0 re_0 ro_0 nm0, wSB cB sb_0 sb_1 sb0, wSD d_0 sb_0 d0, wV cI cJ ve_0 ve_1 ve_2 ve_3 ve_4 ve_5 ve_6 ve_7 ve_8 ve_9 ve_10 ve_11 ve_12 ve_13 ve_14 ve_15 ve_16 ve_17 ve_18 ve_19 s10, wV cI cJ vo_0 vo_1 vo_2 vo_3 vo_4 vo_5 vo_6 vo_7 vo_8 vo_9 vo_10 vo_11 vo_12 vo_13 vo_14 vo_15 vo_16 vo_17 vo_18 vo_19 vo0, wRC re_0 ve_0 sb_0 re0, wRC ro_0 vo_0 sb_0 ro0]) C (c_X6_returnToLatest l D cB cI cJ cZ ve_0 ve_1 ve_2 ve_3 ve_4 ve_5 ve_6 ve_7 ve_8 ve_9 ve_10 ve_11 ve_12 ve_13 ve_14 ve_15 ve_16 ve_17 ve_18 ve_19 y11) rfl rfl (gIV ml_X7_116 im_X6_returnToLatest sl_X6_returnToLatest in_X6 cd_X6_returnToLatest) rfl eX6_returnToLatest rfl ⟨rfl, rfl⟩ ⟨Nat.le_of_ble_eq_true rfl, Nat.le_of_ble_eq_true rfl⟩ rfl rfl rfl [3] rfl rfl rfl rfl (gA_cons aV gA_nil) rfl rfl (Nat.le_of_ble_eq_true rfl) (tdec DX7_rollback 25 rfl) rfl ?_
          have hr9 := o_some hF
          subst hr9
          exact g_iretX (s10, vo0) C rfl rfl (tdec DX7_rollback 26 rfl)
        · have hF := o_ifp hF h8
          have hr9 := o_some hF
          subst hr9
          exact g_throw (cls := xNS) C htab hX hZ hfl (by decide) (by decide) (gMem xl_X7_91) (gMem xn_xNS) (gIn xg_X7_93) xb_X7_93 xo_X7_93 rfl rfl (tdec DX7_rollback 20 rfl) (tdec DX7_rollback 21 rfl) (tdec DX7_rollback 22 rfl) (tdec DX7_rollback 23 rfl) rfl rfl rfl (by decide) (by decide) (by decide) (by decide)
      · have hF := o_ifn hF h5
        have hr9 := o_some hF
        subst hr9
        exact g_throw (cls := xIS) C htab hX hZ hfl (by decide) (by decide) (gMem xl_X7_98) (gMem xn_xIS) (gIn xg_X7_100) xb_X7_100 xo_X7_100 rfl rfl (tdec DX7_rollback 13 rfl) (tdec DX7_rollback 14 rfl) (tdec DX7_rollback 15 rfl) (tdec DX7_rollback 16 rfl) rfl rfl rfl (by decide) (by decide) (by decide) (by decide)
    | succ k21 =>
      refine g_st (st' := [.ref vo_0]) rfl ?_
      refine g_astore_n (L' := [(2, .ref vo_0), (0, .ref nm_0), (1, .int p1)]) C (tdec DX7_rollback 3 rfl) rfl (by decide) rfl rfl ?_
      refine g_aload_n (z := 0) C (tdec DX7_rollback 4 rfl) rfl rfl rfl ?_
      refine g_ifnonnullR (pt := 18) C (tdec DX7_rollback 5 rfl) (by decide) ?_
      refine g_aload_n (z := 0) C (tdec DX7_rollback 10 rfl) rfl rfl rfl ?_
      obtain ⟨r12, y13, hF⟩ := o_bind hF
      refine g_callViRS (q0 := 24) (S := [wTV nm_0 sb_0 d_0 ve_0 vo_0 re_0 ro_0 nm0, wSB cB sb_0 sb_1 sb0, wSD d_0 sb_0 d0, wV cI cJ ve_0 ve_1 ve_2 ve_3 ve_4 ve_5 ve_6 ve_7 ve_8 ve_9 ve_10 ve_11 ve_12 ve_13 ve_14 ve_15 ve_16 ve_17 ve_18 ve_19 ve0, wV cI cJ vo_0 vo_1 vo_2 vo_3 vo_4 vo_5 vo_6 vo_7 vo_8 vo_9 vo_10 vo_11 vo_12 vo_13 vo_14 vo_15 vo_16 vo_17 vo_18 vo_19 vo0, wRC re_0 ve_0 sb_0 re0, wRC ro_0 vo_0 sb_0 ro0]) (S0 := [wV cI cJ vo_0 vo_1 vo_2 vo_3 vo_4 vo_5 vo_6 vo_7 vo_8 vo_9 vo_10 vo_11 vo_12 vo_13 vo_14 vo_15 vo_16 vo_17 vo_18 vo_19 vo0]) C (c_X6_isBusy l D cB cI cJ cZ vo_0 vo_1 vo_2 vo_3 vo_4 vo_5 vo_6 vo_7 vo_8 vo_9 vo_10 vo_11 vo_12 vo_13 vo_14 vo_15 vo_16 vo_17 vo_18 vo_19 y13) rfl rfl (gIV ml_X7_73 im_X6_isBusy sl_X6_isBusy in_X6 cd_X6_isBusy) rfl eX6_isBusy rfl ⟨rfl, rfl⟩ ⟨Nat.le_of_ble_eq_true rfl, Nat.le_of_ble_eq_true rfl⟩ rfl rfl rfl [4] rfl rfl rfl (Nat.le_of_ble_eq_true rfl) (tdec DX7_rollback 11 rfl) rfl ?_
      refine g_if_eq (pt := 33) C (tdec DX7_rollback 12 rfl) (by decide) rfl (fun h14 => ?_) (fun h14 => ?_)
      · have hF := o_ifp hF h14
        refine g_aload_n (z := 0) C (tdec DX7_rollback 17 rfl) rfl rfl rfl ?_
        obtain ⟨r15, y16, hF⟩ := o_bind hF
        refine g_callViRS (q0 := 24) (S := [wTV nm_0 sb_0 d_0 ve_0 vo_0 re_0 ro_0 nm0, wSB cB sb_0 sb_1 sb0, wSD d_0 sb_0 d0, wV cI cJ ve_0 ve_1 ve_2 ve_3 ve_4 ve_5 ve_6 ve_7 ve_8 ve_9 ve_10 ve_11 ve_12 ve_13 ve_14 ve_15 ve_16 ve_17 ve_18 ve_19 ve0, wV cI cJ vo_0 vo_1 vo_2 vo_3 vo_4 vo_5 vo_6 vo_7 vo_8 vo_9 vo_10 vo_11 vo_12 vo_13 vo_14 vo_15 vo_16 vo_17 vo_18 vo_19 vo0, wRC re_0 ve_0 sb_0 re0, wRC ro_0 vo_0 sb_0 ro0]) (S0 := [wV cI cJ vo_0 vo_1 vo_2 vo_3 vo_4 vo_5 vo_6 vo_7 vo_8 vo_9 vo_10 vo_11 vo_12 vo_13 vo_14 vo_15 vo_16 vo_17 vo_18 vo_19 vo0]) C (c_X6_snapshots l D cB cI cJ cZ vo_0 vo_1 vo_2 vo_3 vo_4 vo_5 vo_6 vo_7 vo_8 vo_9 vo_10 vo_11 vo_12 vo_13 vo_14 vo_15 vo_16 vo_17 vo_18 vo_19 y16) rfl rfl (gIV ml_X7_101 im_X6_snapshots sl_X6_snapshots in_X6 cd_X6_snapshots) rfl eX6_snapshots rfl ⟨rfl, rfl⟩ ⟨Nat.le_of_ble_eq_true rfl, Nat.le_of_ble_eq_true rfl⟩ rfl rfl rfl [4] rfl rfl rfl (Nat.le_of_ble_eq_true rfl) (tdec DX7_rollback 18 rfl) rfl ?_
        refine g_if_ne (pt := 48) C (tdec DX7_rollback 19 rfl) (by decide) rfl (fun h17 => ?_) (fun h17 => ?_)
        · have hF := o_ifn hF h17
          refine g_aload_n (z := 0) C (tdec DX7_rollback 24 rfl) rfl rfl rfl ?_
          obtain ⟨⟨r18, s19⟩, y20, hF⟩ := o_bind hF
          refine g_callViMS (q0 := 24) (W' := wTV nm_0 sb_0 d_0 ve_0 vo_0 re_0 ro_0 nm0 ++ (wSB cB sb_0 sb_1 sb0 ++ (wSD d_0 sb_0 d0 ++ (wV cI cJ ve_0 ve_1 ve_2 ve_3 ve_4 ve_5 ve_6 ve_7 ve_8 ve_9 ve_10 ve_11 ve_12 ve_13 ve_14 ve_15 ve_16 ve_17 ve_18 ve_19 ve0 ++ (wV cI cJ vo_0 vo_1 vo_2 vo_3 vo_4 vo_5 vo_6 vo_7 vo_8 vo_9 vo_10 vo_11 vo_12 vo_13 vo_14 vo_15 vo_16 vo_17 vo_18 vo_19 s19 ++ (wRC re_0 ve_0 sb_0 re0 ++ (wRC ro_0 vo_0 sb_0 ro0))))))) (S := [wTV nm_0 sb_0 d_0 ve_0 vo_0 re_0 ro_0 nm0, wSB cB sb_0 sb_1 sb0, wSD d_0 sb_0 d0, wV cI cJ ve_0 ve_1 ve_2 ve_3 ve_4 ve_5 ve_6 ve_7 ve_8 ve_9 ve_10 ve_11 ve_12 ve_13 ve_14 ve_15 ve_16 ve_17 ve_18 ve_19 ve0, wV cI cJ vo_0 vo_1 vo_2 vo_3 vo_4 vo_5 vo_6 vo_7 vo_8 vo_9 vo_10 vo_11 vo_12 vo_13 vo_14 vo_15 vo_16 vo_17 vo_18 vo_19 vo0, wRC re_0 ve_0 sb_0 re0, wRC ro_0 vo_0 sb_0 ro0]) (S0 := [wV cI cJ vo_0 vo_1 vo_2 vo_3 vo_4 vo_5 vo_6 vo_7 vo_8 vo_9 vo_10 vo_11 vo_12 vo_13 vo_14 vo_15 vo_16 vo_17 vo_18 vo_19 vo0]) (S1 := [wV cI cJ vo_0 vo_1 vo_2 vo_3 vo_4 vo_5 vo_6 vo_7 vo_8 vo_9 vo_10 vo_11 vo_12 vo_13 vo_14 vo_15 vo_16 vo_17 vo_18 vo_19 s19]) (S' := [wTV nm_0 sb_0 d_0 ve_0 vo_0 re_0 ro_0 nm0, wSB cB sb_0 sb_1 sb0, wSD d_0 sb_0 d0, wV cI cJ ve_0 ve_1 ve_2 ve_3 ve_4 ve_5 ve_6 ve_7 ve_8 ve_9 ve_10 ve_11 ve_12 ve_13 ve_14 ve_15 ve_16 ve_17 ve_18 ve_19 ve0, wV cI cJ vo_0 vo_1 vo_2 vo_3 vo_4 vo_5 vo_6 vo_7 vo_8 vo_9 vo_10 vo_11 vo_12 vo_13 vo_14 vo_15 vo_16 vo_17 vo_18 vo_19 s19, wRC re_0 ve_0 sb_0 re0, wRC ro_0 vo_0 sb_0 ro0]) C (c_X6_returnToLatest l D cB cI cJ cZ vo_0 vo_1 vo_2 vo_3 vo_4 vo_5 vo_6 vo_7 vo_8 vo_9 vo_10 vo_11 vo_12 vo_13 vo_14 vo_15 vo_16 vo_17 vo_18 vo_19 y20) rfl rfl (gIV ml_X7_116 im_X6_returnToLatest sl_X6_returnToLatest in_X6 cd_X6_returnToLatest) rfl eX6_returnToLatest rfl ⟨rfl, rfl⟩ ⟨Nat.le_of_ble_eq_true rfl, Nat.le_of_ble_eq_true rfl⟩ rfl rfl rfl [4] rfl rfl rfl rfl (gA_cons aV gA_nil) rfl rfl (Nat.le_of_ble_eq_true rfl) (tdec DX7_rollback 25 rfl) rfl ?_
          have hr9 := o_some hF
          subst hr9
          exact g_iretX (ve0, s19) C rfl rfl (tdec DX7_rollback 26 rfl)
        · have hF := o_ifp hF h17
          have hr9 := o_some hF
          subst hr9
          exact g_throw (cls := xNS) C htab hX hZ hfl (by decide) (by decide) (gMem xl_X7_91) (gMem xn_xNS) (gIn xg_X7_93) xb_X7_93 xo_X7_93 rfl rfl (tdec DX7_rollback 20 rfl) (tdec DX7_rollback 21 rfl) (tdec DX7_rollback 22 rfl) (tdec DX7_rollback 23 rfl) rfl rfl rfl (by decide) (by decide) (by decide) (by decide)
      · have hF := o_ifn hF h14
        have hr9 := o_some hF
        subst hr9
        exact g_throw (cls := xIS) C htab hX hZ hfl (by decide) (by decide) (gMem xl_X7_98) (gMem xn_xIS) (gIn xg_X7_100) xb_X7_100 xo_X7_100 rfl rfl (tdec DX7_rollback 13 rfl) (tdec DX7_rollback 14 rfl) (tdec DX7_rollback 15 rfl) (tdec DX7_rollback 16 rfl) rfl rfl rfl (by decide) (by decide) (by decide) (by decide)
def FX7_send (nm0 : Int64) (sb0 : SB) (d0 : SD) (ve0 : VS) (vo0 : VS) (re0 : RC) (ro0 : RC) (p1 : Int32) (p2 : Int32) (p3 : Int32) : Option (Except String (Int32 × (SB × SD))) :=
  (FX7_find nm0 p1).bind fun q2 =>
  (match q2 with
  | none =>
    some (.error xIA)
  | some 0 =>
    (FX6_hasSnapshot ve0 p3).bind fun r3 =>
    if r3 = 0 then
      some (.error xNS)
    else
      if p2 = (-1) then
        (FX4_fillStream d0 sb0 ve0 p2 p3).bind fun (s7, s8) =>
        (FX5_length s8).bind fun r10 =>
        some (.ok (r10, (s8, s7)))
      else
        if p2 < 0 then
          some (.error xIS)
        else
          if p2 < p3 then
            (FX4_fillStream d0 sb0 ve0 p2 p3).bind fun (s14, s15) =>
            (FX5_length s15).bind fun r17 =>
            some (.ok (r17, (s15, s14)))
          else
            some (.error xIS)
  | some (_ + 1) =>
    (FX6_hasSnapshot vo0 p3).bind fun r19 =>
    if r19 = 0 then
      some (.error xNS)
    else
      if p2 = (-1) then
        (FX4_fillStream d0 sb0 vo0 p2 p3).bind fun (s23, s24) =>
        (FX5_length s24).bind fun r26 =>
        some (.ok (r26, (s24, s23)))
      else
        if p2 < 0 then
          some (.error xIS)
        else
          if p2 < p3 then
            (FX4_fillStream d0 sb0 vo0 p2 p3).bind fun (s30, s31) =>
            (FX5_length s31).bind fun r33 =>
            some (.ok (r33, (s31, s30)))
          else
            some (.error xIS))
def rX7_send : Room := { frames := 10, cells := 1, slots := 6, locals := 249 }
set_option maxHeartbeats 4000000 in
set_option maxRecDepth 100000 in
theorem c_X7_send (l : Launch) (hfl : l.stackTraces = false) (D : va_G) (cB cI cJ cZ : ClassId) (nm_0 sb_0 sb_1 d_0 ve_0 ve_1 ve_2 ve_3 ve_4 ve_5 ve_6 ve_7 ve_8 ve_9 ve_10 ve_11 ve_12 ve_13 ve_14 ve_15 ve_16 ve_17 ve_18 ve_19 vo_0 vo_1 vo_2 vo_3 vo_4 vo_5 vo_6 vo_7 vo_8 vo_9 vo_10 vo_11 vo_12 vo_13 vo_14 vo_15 vo_16 vo_17 vo_18 vo_19 re_0 ro_0 : Nat) {nm0 : Int64} {sb0 : SB} {d0 : SD} {ve0 : VS} {vo0 : VS} {re0 : RC} {ro0 : RC} {p1 : Int32} {p2 : Int32} {p3 : Int32} {res : Except String (Int32 × (SB × SD))} (hF : FX7_send nm0 sb0 d0 ve0 vo0 re0 ro0 p1 p2 p3 = some res) : gXi l yX7_send wsX7_send rX7_send D (gT cB cI cJ cZ) [.ref nm_0, .int p1, .int p2, .int p3] (wTV nm_0 sb_0 d_0 ve_0 vo_0 re_0 ro_0 nm0 ++ (wSB cB sb_0 sb_1 sb0 ++ (wSD d_0 sb_0 d0 ++ (wV cI cJ ve_0 ve_1 ve_2 ve_3 ve_4 ve_5 ve_6 ve_7 ve_8 ve_9 ve_10 ve_11 ve_12 ve_13 ve_14 ve_15 ve_16 ve_17 ve_18 ve_19 ve0 ++ (wV cI cJ vo_0 vo_1 vo_2 vo_3 vo_4 vo_5 vo_6 vo_7 vo_8 vo_9 vo_10 vo_11 vo_12 vo_13 vo_14 vo_15 vo_16 vo_17 vo_18 vo_19 vo0 ++ (wRC re_0 ve_0 sb_0 re0 ++ (wRC ro_0 vo_0 sb_0 ro0))))))) res (fun u : (SB × SD) => wTV nm_0 sb_0 d_0 ve_0 vo_0 re_0 ro_0 nm0 ++ (wSB cB sb_0 sb_1 u.1 ++ (wSD d_0 sb_0 u.2 ++ (wV cI cJ ve_0 ve_1 ve_2 ve_3 ve_4 ve_5 ve_6 ve_7 ve_8 ve_9 ve_10 ve_11 ve_12 ve_13 ve_14 ve_15 ve_16 ve_17 ve_18 ve_19 ve0 ++ (wV cI cJ vo_0 vo_1 vo_2 vo_3 vo_4 vo_5 vo_6 vo_7 vo_8 vo_9 vo_10 vo_11 vo_12 vo_13 vo_14 vo_15 vo_16 vo_17 vo_18 vo_19 vo0 ++ (wRC re_0 ve_0 sb_0 re0 ++ (wRC ro_0 vo_0 sb_0 ro0))))))) := by
  refine g_enterX (own := RX7) (Qc := (fun sz => gXQi D (wTV nm_0 sb_0 d_0 ve_0 vo_0 re_0 ro_0 nm0 ++ (wSB cB sb_0 sb_1 sb0 ++ (wSD d_0 sb_0 d0 ++ (wV cI cJ ve_0 ve_1 ve_2 ve_3 ve_4 ve_5 ve_6 ve_7 ve_8 ve_9 ve_10 ve_11 ve_12 ve_13 ve_14 ve_15 ve_16 ve_17 ve_18 ve_19 ve0 ++ (wV cI cJ vo_0 vo_1 vo_2 vo_3 vo_4 vo_5 vo_6 vo_7 vo_8 vo_9 vo_10 vo_11 vo_12 vo_13 vo_14 vo_15 vo_16 vo_17 vo_18 vo_19 vo0 ++ (wRC re_0 ve_0 sb_0 re0 ++ (wRC ro_0 vo_0 sb_0 ro0))))))) sz (fun r (u : (SB × SD)) => res = .ok (r, u)) (fun u : (SB × SD) => wTV nm_0 sb_0 d_0 ve_0 vo_0 re_0 ro_0 nm0 ++ (wSB cB sb_0 sb_1 u.1 ++ (wSD d_0 sb_0 u.2 ++ (wV cI cJ ve_0 ve_1 ve_2 ve_3 ve_4 ve_5 ve_6 ve_7 ve_8 ve_9 ve_10 ve_11 ve_12 ve_13 ve_14 ve_15 ve_16 ve_17 ve_18 ve_19 ve0 ++ (wV cI cJ vo_0 vo_1 vo_2 vo_3 vo_4 vo_5 vo_6 vo_7 vo_8 vo_9 vo_10 vo_11 vo_12 vo_13 vo_14 vo_15 vo_16 vo_17 vo_18 vo_19 vo0 ++ (wRC re_0 ve_0 sb_0 re0 ++ (wRC ro_0 vo_0 sb_0 ro0))))))))) (XC := (fun sz => gXC D (wTV nm_0 sb_0 d_0 ve_0 vo_0 re_0 ro_0 nm0 ++ (wSB cB sb_0 sb_1 sb0 ++ (wSD d_0 sb_0 d0 ++ (wV cI cJ ve_0 ve_1 ve_2 ve_3 ve_4 ve_5 ve_6 ve_7 ve_8 ve_9 ve_10 ve_11 ve_12 ve_13 ve_14 ve_15 ve_16 ve_17 ve_18 ve_19 ve0 ++ (wV cI cJ vo_0 vo_1 vo_2 vo_3 vo_4 vo_5 vo_6 vo_7 vo_8 vo_9 vo_10 vo_11 vo_12 vo_13 vo_14 vo_15 vo_16 vo_17 vo_18 vo_19 vo0 ++ (wRC re_0 ve_0 sb_0 re0 ++ (wRC ro_0 vo_0 sb_0 ro0))))))) sz (fun E => res = .error E))) rfl (by decide) rfl (Nat.le_of_ble_eq_true rfl) rfl ?_
  intro p e s m args below meth c C htab hX hZ
  unfold FX7_send at hF
  refine g_aload_n (z := 0) C (tdec DX7_send 0 rfl) rfl rfl rfl ?_
  refine g_iload_n (z := 1) C (tdec DX7_send 1 rfl) rfl rfl rfl ?_
  obtain ⟨q2, y1, hF⟩ := o_bind hF
  refine g_callVqRS (q0 := 0) (S := [wTV nm_0 sb_0 d_0 ve_0 vo_0 re_0 ro_0 nm0, wSB cB sb_0 sb_1 sb0, wSD d_0 sb_0 d0, wV cI cJ ve_0 ve_1 ve_2 ve_3 ve_4 ve_5 ve_6 ve_7 ve_8 ve_9 ve_10 ve_11 ve_12 ve_13 ve_14 ve_15 ve_16 ve_17 ve_18 ve_19 ve0, wV cI cJ vo_0 vo_1 vo_2 vo_3 vo_4 vo_5 vo_6 vo_7 vo_8 vo_9 vo_10 vo_11 vo_12 vo_13 vo_14 vo_15 vo_16 vo_17 vo_18 vo_19 vo0, wRC re_0 ve_0 sb_0 re0, wRC ro_0 vo_0 sb_0 ro0]) (S0 := [wTV nm_0 sb_0 d_0 ve_0 vo_0 re_0 ro_0 nm0]) C (c_X7_find l D cB cI cJ cZ nm_0 sb_0 d_0 ve_0 vo_0 re_0 ro_0 y1) rfl rfl (gIV ml_X7_51 im_X7_find sl_X7_find in_X7 cd_X7_find) rfl eX7_find rfl ⟨rfl, rfl⟩ ⟨Nat.le_of_ble_eq_true rfl, Nat.le_of_ble_eq_true rfl⟩ rfl rfl rfl [0] rfl rfl rfl (Nat.le_of_ble_eq_true rfl) (tdec DX7_send 2 rfl) rfl ?_
  cases q2 with
  | none =>
    refine g_st (st' := [.null]) rfl ?_
    refine g_astoreN (L' := [(4, .null), (0, .ref nm_0), (1, .int p1), (2, .int p2), (3, .int p3)]) C (tdec DX7_send 3 rfl) (by decide) rfl rfl ?_
    refine g_aloadN (z := 0) C (tdec DX7_send 4 rfl) rfl rfl ?_
    refine g_ifnonnullN C (tdec DX7_send 5 rfl) rfl ?_
    have hr9 := o_some hF
    subst hr9
    exact g_throw (cls := xIA) C htab hX hZ hfl (by decide) (by decide) (gMem xl_X7_55) (gMem xn_xIA) (gIn xg_X7_57) xb_X7_57 xo_X7_57 rfl rfl (tdec DX7_send 6 rfl) (tdec DX7_send 7 rfl) (tdec DX7_send 8 rfl) (tdec DX7_send 9 rfl) rfl rfl rfl (by decide) (by decide) (by decide) (by decide)
  | some k35 =>
    cases k35 with
    | zero =>
      refine g_st (st' := [.ref ve_0]) rfl ?_
      refine g_astore (L' := [(4, .ref ve_0), (0, .ref nm_0), (1, .int p1), (2, .int p2), (3, .int p3)]) C (tdec DX7_send 3 rfl) (by decide) rfl rfl ?_
      refine g_aload (z := 0) C (tdec DX7_send 4 rfl) rfl rfl ?_
      refine g_ifnonnullR (pt := 20) C (tdec DX7_send 5 rfl) (by decide) ?_
      refine g_aload (z := 0) C (tdec DX7_send 10 rfl) rfl rfl ?_
      refine g_iload_n (z := 4) C (tdec DX7_send 11 rfl) rfl rfl rfl ?_
      obtain ⟨r3, y4, hF⟩ := o_bind hF
      refine g_callViRS (q0 := 4) (S := [wTV nm_0 sb_0 d_0 ve_0 vo_0 re_0 ro_0 nm0, wSB cB sb_0 sb_1 sb0, wSD d_0 sb_0 d0, wV cI cJ ve_0 ve_1 ve_2 ve_3 ve_4 ve_5 ve_6 ve_7 ve_8 ve_9 ve_10 ve_11 ve_12 ve_13 ve_14 ve_15 ve_16 ve_17 ve_18 ve_19 ve0, wV cI cJ vo_0 vo_1 vo_2 vo_3 vo_4 vo_5 vo_6 vo_7 vo_8 vo_9 vo_10 vo_11 vo_12 vo_13 vo_14 vo_15 vo_16 vo_17 vo_18 vo_19 vo0, wRC re_0 ve_0 sb_0 re0, wRC ro_0 vo_0 sb_0 ro0]) (S0 := [wV cI cJ ve_0 ve_1 ve_2 ve_3 ve_4 ve_5 ve_6 ve_7 ve_8 ve_9 ve_10 ve_11 ve_12 ve_13 ve_14 ve_15 ve_16 ve_17 ve_18 ve_19 ve0]) C (c_X6_hasSnapshot l D cB cI cJ cZ ve_0 ve_1 ve_2 ve_3 ve_4 ve_5 ve_6 ve_7 ve_8 ve_9 ve_10 ve_11 ve_12 ve_13 ve_14 ve_15 ve_16 ve_17 ve_18 ve_19 y4) rfl rfl (gIV ml_X7_88 im_X6_hasSnapshot sl_X6_hasSnapshot in_X6 cd_X6_hasSnapshot) rfl eX6_hasSnapshot rfl ⟨rfl, rfl⟩ ⟨Nat.le_of_ble_eq_true rfl, Nat.le_of_ble_eq_true rfl⟩ rfl rfl rfl [3] rfl rfl rfl (Nat.le_of_ble_eq_true rfl) (tdec DX7_send 12 rfl) rfl ?_
      refine g_if_ne (pt := 37) C (tdec DX7_send 13 rfl) (by decide) rfl (fun h5 => ?_) (fun h5 => ?_)
      · have hF := o_ifn hF h5
        refine g_iload_n (z := 3) C (tdec DX7_send 18 rfl) rfl rfl rfl ?_
        refine g_iconst (v := (-1)) C (tdec DX7_send 19 rfl) (by decide) rfl ?_
        refine g_icmp_eq (pt := 59) C (tdec DX7_send 20 rfl) (by decide) rfl (fun h6 => ?_) (fun h6 => ?_)
        · have hF := o_ifp hF h6
          refine g_aload_n (z := 1) C (tdec DX7_send 30 rfl) rfl rfl rfl ?_
          refine g_getf (C' := RX7) (T := TX7) (N := 7) (v := .ref d_0) C 0 1 (gIn iw_X7) rfl rfl (by decide) (gMem fl_X7_21) rfl rfl (tdec DX7_send 31 rfl) rfl ?_
          refine g_aload (z := 0) C (tdec DX7_send 32 rfl) rfl rfl ?_
          refine g_iload_n (z := 3) C (tdec DX7_send 33 rfl) rfl rfl rfl ?_
          refine g_iload_n (z := 4) C (tdec DX7_send 34 rfl) rfl rfl rfl ?_
          obtain ⟨⟨s7, s8⟩, y9, hF⟩ := o_bind hF
          refine g_callVvMS (q0 := 3) (W' := wTV nm_0 sb_0 d_0 ve_0 vo_0 re_0 ro_0 nm0 ++ (wSB cB sb_0 sb_1 s8 ++ (wSD d_0 sb_0 s7 ++ (wV cI cJ ve_0 ve_1 ve_2 ve_3 ve_4 ve_5 ve_6 ve_7 ve_8 ve_9 ve_10 ve_11 ve_12 ve_13 ve_14 ve_15 ve_16 ve_17 ve_18 ve_19 ve0 ++ (wV cI cJ vo_0 vo_1 vo_2 vo_3 vo_4 vo_5 vo_6 vo_7 vo_8 vo_9 vo_10 vo_11 vo_12 vo_13 vo_14 vo_15 vo_16 vo_17 vo_18 vo_19 vo0 ++ (wRC re_0 ve_0 sb_0 re0 ++ (wRC ro_0 vo_0 sb_0 ro0))))))) (S := [wTV nm_0 sb_0 d_0 ve_0 vo_0 re_0 ro_0 nm0, wSB cB sb_0 sb_1 sb0, wSD d_0 sb_0 d0, wV cI cJ ve_0 ve_1 ve_2 ve_3 ve_4 ve_5 ve_6 ve_7 ve_8 ve_9 ve_10 ve_11 ve_12 ve_13 ve_14 ve_15 ve_16 ve_17 ve_18 ve_19 ve0, wV cI cJ vo_0 vo_1 vo_2 vo_3 vo_4 vo_5 vo_6 vo_7 vo_8 vo_9 vo_10 vo_11 vo_12 vo_13 vo_14 vo_15 vo_16 vo_17 vo_18 vo_19 vo0, wRC re_0 ve_0 sb_0 re0, wRC ro_0 vo_0 sb_0 ro0]) (S0 := [wSD d_0 sb_0 d0, wSB cB sb_0 sb_1 sb0, wV cI cJ ve_0 ve_1 ve_2 ve_3 ve_4 ve_5 ve_6 ve_7 ve_8 ve_9 ve_10 ve_11 ve_12 ve_13 ve_14 ve_15 ve_16 ve_17 ve_18 ve_19 ve0]) (S1 := [wSD d_0 sb_0 s7, wSB cB sb_0 sb_1 s8, wV cI cJ ve_0 ve_1 ve_2 ve_3 ve_4 ve_5 ve_6 ve_7 ve_8 ve_9 ve_10 ve_11 ve_12 ve_13 ve_14 ve_15 ve_16 ve_17 ve_18 ve_19 ve0]) (S' := [wTV nm_0 sb_0 d_0 ve_0 vo_0 re_0 ro_0 nm0, wSB cB sb_0 sb_1 s8, wSD d_0 sb_0 s7, wV cI cJ ve_0 ve_1 ve_2 ve_3 ve_4 ve_5 ve_6 ve_7 ve_8 ve_9 ve_10 ve_11 ve_12 ve_13 ve_14 ve_15 ve_16 ve_17 ve_18 ve_19 ve0, wV cI cJ vo_0 vo_1 vo_2 vo_3 vo_4 vo_5 vo_6 vo_7 vo_8 vo_9 vo_10 vo_11 vo_12 vo_13 vo_14 vo_15 vo_16 vo_17 vo_18 vo_19 vo0, wRC re_0 ve_0 sb_0 re0, wRC ro_0 vo_0 sb_0 ro0]) C (c_X4_fillStream l D cB cI cJ cZ d_0 sb_0 sb_1 ve_0 ve_1 ve_2 ve_3 ve_4 ve_5 ve_6 ve_7 ve_8 ve_9 ve_10 ve_11 ve_12 ve_13 ve_14 ve_15 ve_16 ve_17 ve_18 ve_19 y9) rfl rfl (gIV ml_X7_119 im_X4_fillStream sl_X4_fillStream in_X4 cd_X4_fillStream) rfl eX4_fillStream rfl ⟨rfl, rfl⟩ ⟨Nat.le_of_ble_eq_true rfl, Nat.le_of_ble_eq_true rfl⟩ rfl rfl rfl [2, 1, 3] rfl rfl rfl rfl (gA_cons aSD (gA_cons aSB (gA_cons rfl gA_nil))) rfl rfl (Nat.le_of_ble_eq_true rfl) (tdec DX7_send 35 rfl) rfl ?_
          refine g_aload_n (z := 1) C (tdec DX7_send 36 rfl) rfl rfl rfl ?_
          refine g_getf (C' := RX7) (T := TX7) (N := 7) (v := .ref sb_0) C 0 0 (gIn iw_X7) rfl rfl (by decide) (gMem fl_X7_12) rfl rfl (tdec DX7_send 37 rfl) rfl ?_
          obtain ⟨r10, y11, hF⟩ := o_bind hF
          refine g_callViRS (q0 := 1) (S := [wTV nm_0 sb_0 d_0 ve_0 vo_0 re_0 ro_0 nm0, wSB cB sb_0 sb_1 s8, wSD d_0 sb_0 s7, wV cI cJ ve_0 ve_1 ve_2 ve_3 ve_4 ve_5 ve_6 ve_7 ve_8 ve_9 ve_10 ve_11 ve_12 ve_13 ve_14 ve_15 ve_16 ve_17 ve_18 ve_19 ve0, wV cI cJ vo_0 vo_1 vo_2 vo_3 vo_4 vo_5 vo_6 vo_7 vo_8 vo_9 vo_10 vo_11 vo_12 vo_13 vo_14 vo_15 vo_16 vo_17 vo_18 vo_19 vo0, wRC re_0 ve_0 sb_0 re0, wRC ro_0 vo_0 sb_0 ro0]) (S0 := [wSB cB sb_0 sb_1 s8]) C (c_X5_length l D cB cI cJ cZ sb_0 sb_1 y11) rfl rfl (gIV ml_X7_123 im_X5_length sl_X5_length in_X5 cd_X5_length) rfl eX5_length rfl ⟨rfl, rfl⟩ ⟨Nat.le_of_ble_eq_true rfl, Nat.le_of_ble_eq_true rfl⟩ rfl rfl rfl [1] rfl rfl rfl (Nat.le_of_ble_eq_true rfl) (tdec DX7_send 38 rfl) rfl ?_
          have hr9 := o_some hF
          subst hr9
          exact g_iretX (s8, s7) C rfl rfl (tdec DX7_send 39 rfl)
        · have hF := o_ifn hF h6
          refine g_iload_n (z := 3) C (tdec DX7_send 21 rfl) rfl rfl rfl ?_
          refine g_if_lt (pt := 51) C (tdec DX7_send 22 rfl) (by decide) rfl (fun h12 => ?_) (fun h12 => ?_)
          · have hF := o_ifp hF h12
            have hr9 := o_some hF
            subst hr9
            exact g_throw (cls := xIS) C htab hX hZ hfl (by decide) (by decide) (gMem xl_X7_98) (gMem xn_xIS) (gIn xg_X7_100) xb_X7_100 xo_X7_100 rfl rfl (tdec DX7_send 26 rfl) (tdec DX7_send 27 rfl) (tdec DX7_send 28 rfl) (tdec DX7_send 29 rfl) rfl rfl rfl (by decide) (by decide) (by decide) (by decide)
          · have hF := o_ifn hF h12
            refine g_iload_n (z := 3) C (tdec DX7_send 23 rfl) rfl rfl rfl ?_
            refine g_iload_n (z := 4) C (tdec DX7_send 24 rfl) rfl rfl rfl ?_
            refine g_icmp_lt (pt := 59) C (tdec DX7_send 25 rfl) (by decide) rfl (fun h13 => ?_) (fun h13 => ?_)
            · have hF := o_ifp hF h13
              refine g_aload_n (z := 1) C (tdec DX7_send 30 rfl) rfl rfl rfl ?_
              refine g_getf (C' := RX7) (T := TX7) (N := 7) (v := .ref d_0) C 0 1 (gIn iw_X7) rfl rfl (by decide) (gMem fl_X7_21) rfl rfl (tdec DX7_send 31 rfl) rfl ?_
              refine g_aload (z := 0) C (tdec DX7_send 32 rfl) rfl rfl ?_
              refine g_iload_n (z := 3) C (tdec DX7_send 33 rfl) rfl rfl rfl ?_
              refine g_iload_n (z := 4) C (tdec DX7_send 34 rfl) rfl rfl rfl ?_
              obtain ⟨⟨s14, s15⟩, y16, hF⟩ := o_bind hF
              refine g_callVvMS (q0 := 3) (W' := wTV nm_0 sb_0 d_0 ve_0 vo_0 re_0 ro_0 nm0 ++ (wSB cB sb_0 sb_1 s15 ++ (wSD d_0 sb_0 s14 ++ (wV cI cJ ve_0 ve_1 ve_2 ve_3 ve_4 ve_5 ve_6 ve_7 ve_8 ve_9 ve_10 ve_11 ve_12 ve_13 ve_14 ve_15 ve_16 ve_17 ve_18 ve_19 ve0 ++ (wV cI cJ vo_0 vo_1 vo_2 vo_3 vo_4 vo_5 vo_6 vo_7 vo_8 vo_9 vo_10 vo_11 vo_12 vo_13 vo_14 vo_15 vo_16 vo_17 vo_18 vo_19 vo0 ++ (wRC re_0 ve_0 sb_0 re0 ++ (wRC ro_0 vo_0 sb_0 ro0))))))) (S := [wTV nm_0 sb_0 d_0 ve_0 vo_0 re_0 ro_0 nm0, wSB cB sb_0 sb_1 sb0, wSD d_0 sb_0 d0, wV cI cJ ve_0 ve_1 ve_2 ve_3 ve_4 ve_5 ve_6 ve_7 ve_8 ve_9 ve_10 ve_11 ve_12 ve_13 ve_14 ve_15 ve_16 ve_17 ve_18 ve_19 ve0, wV cI cJ vo_0 vo_1 vo_2 vo_3 vo_4 vo_5 vo_6 vo_7 vo_8 vo_9 vo_10 vo_11 vo_12 vo_13 vo_14 vo_15 vo_16 vo_17 vo_18 vo_19 vo0, wRC re_0 ve_0 sb_0 re0, wRC ro_0 vo_0 sb_0 ro0]) (S0 := [wSD d_0 sb_0 d0, wSB cB sb_0 sb_1 sb0, wV cI cJ ve_0 ve_1 ve_2 ve_3 ve_4 ve_5 ve_6 ve_7 ve_8 ve_9 ve_10 ve_11 ve_12 ve_13 ve_14 ve_15 ve_16 ve_17 ve_18 ve_19 ve0]) (S1 := [wSD d_0 sb_0 s14, wSB cB sb_0 sb_1 s15, wV cI cJ ve_0 ve_1 ve_2 ve_3 ve_4 ve_5 ve_6 ve_7 ve_8 ve_9 ve_10 ve_11 ve_12 ve_13 ve_14 ve_15 ve_16 ve_17 ve_18 ve_19 ve0]) (S' := [wTV nm_0 sb_0 d_0 ve_0 vo_0 re_0 ro_0 nm0, wSB cB sb_0 sb_1 s15, wSD d_0 sb_0 s14, wV cI cJ ve_0 ve_1 ve_2 ve_3 ve_4 ve_5 ve_6 ve_7 ve_8 ve_9 ve_10 ve_11 ve_12 ve_13 ve_14 ve_15 ve_16 ve_17 ve_18 ve_19 ve0, wV cI cJ vo_0 vo_1 vo_2 vo_3 vo_4 vo_5 vo_6 vo_7 vo_8 vo_9 vo_10 vo_11 vo_12 vo_13 vo_14 vo_15 vo_16 vo_17 vo_18 vo_19 vo0, wRC re_0 ve_0 sb_0 re0, wRC ro_0 vo_0 sb_0 ro0]) C (c_X4_fillStream l D cB cI cJ cZ d_0 sb_0 sb_1 ve_0 ve_1 ve_2 ve_3 ve_4 ve_5 ve_6 ve_7 ve_8 ve_9 ve_10 ve_11 ve_12 ve_13 ve_14 ve_15 ve_16 ve_17 ve_18 ve_19 y16) rfl rfl (gIV ml_X7_119 im_X4_fillStream sl_X4_fillStream in_X4 cd_X4_fillStream) rfl eX4_fillStream rfl ⟨rfl, rfl⟩ ⟨Nat.le_of_ble_eq_true rfl, Nat.le_of_ble_eq_true rfl⟩ rfl rfl rfl [2, 1, 3] rfl rfl rfl rfl (gA_cons aSD (gA_cons aSB (gA_cons rfl gA_nil))) rfl rfl (Nat.le_of_ble_eq_true rfl) (tdec DX7_send 35 rfl) rfl ?_
              refine g_aload_n (z := 1) C (tdec DX7_send 36 rfl) rfl rfl rfl ?_
              refine g_getf (C' := RX7) (T := TX7) (N := 7) (v := .ref sb_0) C 0 0 (gIn iw_X7) rfl rfl (by decide) (gMem fl_X7_12) rfl rfl (tdec DX7_send 37 rfl) rfl ?_
              obtain ⟨r17, y18, hF⟩ := o_bind hF
              refine g_callViRS (q0 := 1) (S := [wTV nm_0 sb_0 d_0 ve_0 vo_0 re_0 ro_0 nm0, wSB cB sb_0 sb_1 s15, wSD d_0 sb_0 s14, wV cI cJ ve_0 ve_1 ve_2 ve_3 ve_4 ve_5 ve_6 ve_7 ve_8 ve_9 ve_10 ve_11 ve_12 ve_13 ve_14 ve_15 ve_16 ve_17 ve_18 ve_19 ve0, wV cI cJ vo_0 vo_1 vo_2 vo_3 vo_4 vo_5 vo_6 vo_7 vo_8 vo_9 vo_10 vo_11 vo_12 vo_13 vo_14 vo_15 vo_16 vo_17 vo_18 vo_19 vo0, wRC re_0 ve_0 sb_0 re0, wRC ro_0 vo_0 sb_0 ro0]) (S0 := [wSB cB sb_0 sb_1 s15]) C (c_X5_length l D cB cI cJ cZ sb_0 sb_1 y18) rfl rfl (gIV ml_X7_123 im_X5_length sl_X5_length in_X5 cd_X5_length) rfl eX5_length rfl ⟨rfl, rfl⟩ ⟨Nat.le_of_ble_eq_true rfl, Nat.le_of_ble_eq_true rfl⟩ rfl rfl rfl [1] rfl rfl rfl (Nat.le_of_ble_eq_true rfl) (tdec DX7_send 38 rfl) rfl ?_
              have hr9 := o_some hF
              subst hr9
              exact g_iretX (s15, s14) C rfl rfl (tdec DX7_send 39 rfl)
            · have hF := o_ifn hF h13
              have hr9 := o_some hF
              subst hr9
              exact g_throw (cls := xIS) C htab hX hZ hfl (by decide) (by decide) (gMem xl_X7_98) (gMem xn_xIS) (gIn xg_X7_100) xb_X7_100 xo_X7_100 rfl rfl (tdec DX7_send 26 rfl) (tdec DX7_send 27 rfl) (tdec DX7_send 28 rfl) (tdec DX7_send 29 rfl) rfl rfl rfl (by decide) (by decide) (by decide) (by decide)
      · have hF := o_ifp hF h5
        have hr9 := o_some hF
        subst hr9
        exact g_throw (cls := xNS) C htab hX hZ hfl (by decide) (by decide) (gMem xl_X7_91) (gMem xn_xNS) (gIn xg_X7_93) xb_X7_93 xo_X7_93 rfl rfl (tdec DX7_send 14 rfl) (tdec DX7_send 15 rfl) (tdec DX7_send 16 rfl) (tdec DX7_send 17 rfl) rfl rfl rfl (by decide) (by decide) (by decide) (by decide)
    | succ k35 =>
      refine g_st (st' := [.ref vo_0]) rfl ?_
      refine g_astore (L' := [(4, .ref vo_0), (0, .ref nm_0), (1, .int p1), (2, .int p2), (3, .int p3)]) C (tdec DX7_send 3 rfl) (by decide) rfl rfl ?_
      refine g_aload (z := 0) C (tdec DX7_send 4 rfl) rfl rfl ?_
      refine g_ifnonnullR (pt := 20) C (tdec DX7_send 5 rfl) (by decide) ?_
      refine g_aload (z := 0) C (tdec DX7_send 10 rfl) rfl rfl ?_
      refine g_iload_n (z := 4) C (tdec DX7_send 11 rfl) rfl rfl rfl ?_
      obtain ⟨r19, y20, hF⟩ := o_bind hF
      refine g_callViRS (q0 := 24) (S := [wTV nm_0 sb_0 d_0 ve_0 vo_0 re_0 ro_0 nm0, wSB cB sb_0 sb_1 sb0, wSD d_0 sb_0 d0, wV cI cJ ve_0 ve_1 ve_2 ve_3 ve_4 ve_5 ve_6 ve_7 ve_8 ve_9 ve_10 ve_11 ve_12 ve_13 ve_14 ve_15 ve_16 ve_17 ve_18 ve_19 ve0, wV cI cJ vo_0 vo_1 vo_2 vo_3 vo_4 vo_5 vo_6 vo_7 vo_8 vo_9 vo_10 vo_11 vo_12 vo_13 vo_14 vo_15 vo_16 vo_17 vo_18 vo_19 vo0, wRC re_0 ve_0 sb_0 re0, wRC ro_0 vo_0 sb_0 ro0]) (S0 := [wV cI cJ vo_0 vo_1 vo_2 vo_3 vo_4 vo_5 vo_6 vo_7 vo_8 vo_9 vo_10 vo_11 vo_12 vo_13 vo_14 vo_15 vo_16 vo_17 vo_18 vo_19 vo0]) C (c_X6_hasSnapshot l D cB cI cJ cZ vo_0 vo_1 vo_2 vo_3 vo_4 vo_5 vo_6 vo_7 vo_8 vo_9 vo_10 vo_11 vo_12 vo_13 vo_14 vo_15 vo_16 vo_17 vo_18 vo_19 y20) rfl rfl (gIV ml_X7_88 im_X6_hasSnapshot sl_X6_hasSnapshot in_X6 cd_X6_hasSnapshot) rfl eX6_hasSnapshot rfl ⟨rfl, rfl⟩ ⟨Nat.le_of_ble_eq_true rfl, Nat.le_of_ble_eq_true rfl⟩ rfl rfl rfl [4] rfl rfl rfl (Nat.le_of_ble_eq_true rfl) (tdec DX7_send 12 rfl) rfl ?_
      refine g_if_ne (pt := 37) C (tdec DX7_send 13 rfl) (by decide) rfl (fun h21 => ?_) (fun h21 => ?_)
      · have hF := o_ifn hF h21
        refine g_iload_n (z := 3) C (tdec DX7_send 18 rfl) rfl rfl rfl ?_
        refine g_iconst (v := (-1)) C (tdec DX7_send 19 rfl) (by decide) rfl ?_
        refine g_icmp_eq (pt := 59) C (tdec DX7_send 20 rfl) (by decide) rfl (fun h22 => ?_) (fun h22 => ?_)
        · have hF := o_ifp hF h22
          refine g_aload_n (z := 1) C (tdec DX7_send 30 rfl) rfl rfl rfl ?_
          refine g_getf (C' := RX7) (T := TX7) (N := 7) (v := .ref d_0) C 0 1 (gIn iw_X7) rfl rfl (by decide) (gMem fl_X7_21) rfl rfl (tdec DX7_send 31 rfl) rfl ?_
          refine g_aload (z := 0) C (tdec DX7_send 32 rfl) rfl rfl ?_
          refine g_iload_n (z := 3) C (tdec DX7_send 33 rfl) rfl rfl rfl ?_
          refine g_iload_n (z := 4) C (tdec DX7_send 34 rfl) rfl rfl rfl ?_
          obtain ⟨⟨s23, s24⟩, y25, hF⟩ := o_bind hF
          refine g_callVvMS (q0 := 3) (W' := wTV nm_0 sb_0 d_0 ve_0 vo_0 re_0 ro_0 nm0 ++ (wSB cB sb_0 sb_1 s24 ++ (wSD d_0 sb_0 s23 ++ (wV cI cJ ve_0 ve_1 ve_2 ve_3 ve_4 ve_5 ve_6 ve_7 ve_8 ve_9 ve_10 ve_11 ve_12 ve_13 ve_14 ve_15 ve_16 ve_17 ve_18 ve_19 ve0 ++ (wV cI cJ vo_0 vo_1 vo_2 vo_3 vo_4 vo_5 vo_6 vo_7 vo_8 vo_9 vo_10 vo_11 vo_12 vo_13 vo_14 vo_15 vo_16 vo_17 vo_18 vo_19 vo0 ++ (wRC re_0 ve_0 sb_0 re0 ++ (wRC ro_0 vo_0 sb_0 ro0))))))) (S := [wTV nm_0 sb_0 d_0 ve_0 vo_0 re_0 ro_0 nm0, wSB cB sb_0 sb_1 sb0, wSD d_0 sb_0 d0, wV cI cJ ve_0 ve_1 ve_2 ve_3 ve_4 ve_5 ve_6 ve_7 ve_8 ve_9 ve_10 ve_11 ve_12 ve_13 ve_14 ve_15 ve_16 ve_17 ve_18 ve_19 ve0, wV cI cJ vo_0 vo_1 vo_2 vo_3 vo_4 vo_5 vo_6 vo_7 vo_8 vo_9 vo_10 vo_11 vo_12 vo_13 vo_14 vo_15 vo_16 vo_17 vo_18 vo_19 vo0, wRC re_0 ve_0 sb_0 re0, wRC ro_0 vo_0 sb_0 ro0]) (S0 := [wSD d_0 sb_0 d0, wSB cB sb_0 sb_1 sb0, wV cI cJ vo_0 vo_1 vo_2 vo_3 vo_4 vo_5 vo_6 vo_7 vo_8 vo_9 vo_10 vo_11 vo_12 vo_13 vo_14 vo_15 vo_16 vo_17 vo_18 vo_19 vo0]) (S1 := [wSD d_0 sb_0 s23, wSB cB sb_0 sb_1 s24, wV cI cJ vo_0 vo_1 vo_2 vo_3 vo_4 vo_5 vo_6 vo_7 vo_8 vo_9 vo_10 vo_11 vo_12 vo_13 vo_14 vo_15 vo_16 vo_17 vo_18 vo_19 vo0]) (S' := [wTV nm_0 sb_0 d_0 ve_0 vo_0 re_0 ro_0 nm0, wSB cB sb_0 sb_1 s24, wSD d_0 sb_0 s23, wV cI cJ ve_0 ve_1 ve_2 ve_3 ve_4 ve_5 ve_6 ve_7 ve_8 ve_9 ve_10 ve_11 ve_12 ve_13 ve_14 ve_15 ve_16 ve_17 ve_18 ve_19 ve0, wV cI cJ vo_0 vo_1 vo_2 vo_3 vo_4 vo_5 vo_6 vo_7 vo_8 vo_9 vo_10 vo_11 vo_12 vo_13 vo_14 vo_15 vo_16 vo_17 vo_18 vo_19 vo0, wRC re_0 ve_0 sb_0 re0, wRC ro_0 vo_0 sb_0 ro0]) C (c_X4_fillStream l D cB cI cJ cZ d_0 sb_0 sb_1 vo_0 vo_1 vo_2 vo_3 vo_4 vo_5 vo_6 vo_7 vo_8 vo_9 vo_10 vo_11 vo_12 vo_13 vo_14 vo_15 vo_16 vo_17 vo_18 vo_19 y25) rfl rfl (gIV ml_X7_119 im_X4_fillStream sl_X4_fillStream in_X4 cd_X4_fillStream) rfl eX4_fillStream rfl ⟨rfl, rfl⟩ ⟨Nat.le_of_ble_eq_true rfl, Nat.le_of_ble_eq_true rfl⟩ rfl rfl rfl [2, 1, 4] rfl rfl rfl rfl (gA_cons aSD (gA_cons aSB (gA_cons rfl gA_nil))) rfl rfl (Nat.le_of_ble_eq_true rfl) (tdec DX7_send 35 rfl) rfl ?_
          refine g_aload_n (z := 1) C (tdec DX7_send 36 rfl) rfl rfl rfl ?_
          refine g_getf (C' := RX7) (T := TX7) (N := 7) (v := .ref sb_0) C 0 0 (gIn iw_X7) rfl rfl (by decide) (gMem fl_X7_12) rfl rfl (tdec DX7_send 37 rfl) rfl ?_
          obtain ⟨r26, y27, hF⟩ := o_bind hF
          refine g_callViRS (q0 := 1) (S := [wTV nm_0 sb_0 d_0 ve_0 vo_0 re_0 ro_0 nm0, wSB cB sb_0 sb_1 s24, wSD d_0 sb_0 s23, wV cI cJ ve_0 ve_1 ve_2 ve_3 ve_4 ve_5 ve_6 ve_7 ve_8 ve_9 ve_10 ve_11 ve_12 ve_13 ve_14 ve_15 ve_16 ve_17 ve_18 ve_19 ve0, wV cI cJ vo_0 vo_1 vo_2 vo_3 vo_4 vo_5 vo_6 vo_7 vo_8 vo_9 vo_10 vo_11 vo_12 vo_13 vo_14 vo_15 vo_16 vo_17 vo_18 vo_19 vo0, wRC re_0 ve_0 sb_0 re0, wRC ro_0 vo_0 sb_0 ro0]) (S0 := [wSB cB sb_0 sb_1 s24]) C (c_X5_length l D cB cI cJ cZ sb_0 sb_1 y27) rfl rfl (gIV ml_X7_123 im_X5_length sl_X5_length in_X5 cd_X5_length) rfl eX5_length rfl ⟨rfl, rfl⟩ ⟨Nat.le_of_ble_eq_true rfl, Nat.le_of_ble_eq_true rfl⟩ rfl rfl rfl [1] rfl rfl rfl (Nat.le_of_ble_eq_true rfl) (tdec DX7_send 38 rfl) rfl ?_
          have hr9 := o_some hF
          subst hr9
          exact g_iretX (s24, s23) C rfl rfl (tdec DX7_send 39 rfl)
        · have hF := o_ifn hF h22
          refine g_iload_n (z := 3) C (tdec DX7_send 21 rfl) rfl rfl rfl ?_
          refine g_if_lt (pt := 51) C (tdec DX7_send 22 rfl) (by decide) rfl (fun h28 => ?_) (fun h28 => ?_)
          · have hF := o_ifp hF h28
            have hr9 := o_some hF
            subst hr9
            exact g_throw (cls := xIS) C htab hX hZ hfl (by decide) (by decide) (gMem xl_X7_98) (gMem xn_xIS) (gIn xg_X7_100) xb_X7_100 xo_X7_100 rfl rfl (tdec DX7_send 26 rfl) (tdec DX7_send 27 rfl) (tdec DX7_send 28 rfl) (tdec DX7_send 29 rfl) rfl rfl rfl (by decide) (by decide) (by decide) (by decide)
          · have hF := o_ifn hF h28
            refine g_iload_n (z := 3) C (tdec DX7_send 23 rfl) rfl rfl rfl ?_
            refine g_iload_n (z := 4) C (tdec DX7_send 24 rfl) rfl rfl rfl ?_
            refine g_icmp_lt (pt := 59) C (tdec DX7_send 25 rfl) (by decide) rfl (fun h29 => ?_) (fun h29 => ?_)
            · have hF := o_ifp hF h29
              refine g_aload_n (z := 1) C (tdec DX7_send 30 rfl) rfl rfl rfl ?_
              refine g_getf (C' := RX7) (T := TX7) (N := 7) (v := .ref d_0) C 0 1 (gIn iw_X7) rfl rfl (by decide) (gMem fl_X7_21) rfl rfl (tdec DX7_send 31 rfl) rfl ?_
              refine g_aload (z := 0) C (tdec DX7_send 32 rfl) rfl rfl ?_
              refine g_iload_n (z := 3) C (tdec DX7_send 33 rfl) rfl rfl rfl ?_
              refine g_iload_n (z := 4) C (tdec DX7_send 34 rfl) rfl rfl rfl ?_
              obtain ⟨⟨s30, s31⟩, y32, hF⟩ := o_bind hF
              refine g_callVvMS (q0 := 3) (W' := wTV nm_0 sb_0 d_0 ve_0 vo_0 re_0 ro_0 nm0 ++ (wSB cB sb_0 sb_1 s31 ++ (wSD d_0 sb_0 s30 ++ (wV cI cJ ve_0 ve_1 ve_2 ve_3 ve_4 ve_5 ve_6 ve_7 ve_8 ve_9 ve_10 ve_11 ve_12 ve_13 ve_14 ve_15 ve_16 ve_17 ve_18 ve_19 ve0 ++ (wV cI cJ vo_0 vo_1 vo_2 vo_3 vo_4 vo_5 vo_6 vo_7 vo_8 vo_9 vo_10 vo_11 vo_12 vo_13 vo_14 vo_15 vo_16 vo_17 vo_18 vo_19 vo0 ++ (wRC re_0 ve_0 sb_0 re0 ++ (wRC ro_0 vo_0 sb_0 ro0))))))) (S := [wTV nm_0 sb_0 d_0 ve_0 vo_0 re_0 ro_0 nm0, wSB cB sb_0 sb_1 sb0, wSD d_0 sb_0 d0, wV cI cJ ve_0 ve_1 ve_2 ve_3 ve_4 ve_5 ve_6 ve_7 ve_8 ve_9 ve_10 ve_11 ve_12 ve_13 ve_14 ve_15 ve_16 ve_17 ve_18 ve_19 ve0, wV cI cJ vo_0 vo_1 vo_2 vo_3 vo_4 vo_5 vo_6 vo_7 vo_8 vo_9 vo_10 vo_11 vo_12 vo_13 vo_14 vo_15 vo_16 vo_17 vo_18 vo_19 vo0, wRC re_0 ve_0 sb_0 re0, wRC ro_0 vo_0 sb_0 ro0]) (S0 := [wSD d_0 sb_0 d0, wSB cB sb_0 sb_1 sb0, wV cI cJ vo_0 vo_1 vo_2 vo_3 vo_4 vo_5 vo_6 vo_7 vo_8 vo_9 vo_10 vo_11 vo_12 vo_13 vo_14 vo_15 vo_16 vo_17 vo_18 vo_19 vo0]) (S1 := [wSD d_0 sb_0 s30, wSB cB sb_0 sb_1 s31, wV cI cJ vo_0 vo_1 vo_2 vo_3 vo_4 vo_5 vo_6 vo_7 vo_8 vo_9 vo_10 vo_11 vo_12 vo_13 vo_14 vo_15 vo_16 vo_17 vo_18 vo_19 vo0]) (S' := [wTV nm_0 sb_0 d_0 ve_0 vo_0 re_0 ro_0 nm0, wSB cB sb_0 sb_1 s31, wSD d_0 sb_0 s30, wV cI cJ ve_0 ve_1 ve_2 ve_3 ve_4 ve_5 ve_6 ve_7 ve_8 ve_9 ve_10 ve_11 ve_12 ve_13 ve_14 ve_15 ve_16 ve_17 ve_18 ve_19 ve0, wV cI cJ vo_0 vo_1 vo_2 vo_3 vo_4 vo_5 vo_6 vo_7 vo_8 vo_9 vo_10 vo_11 vo_12 vo_13 vo_14 vo_15 vo_16 vo_17 vo_18 vo_19 vo0, wRC re_0 ve_0 sb_0 re0, wRC ro_0 vo_0 sb_0 ro0]) C (c_X4_fillStream l D cB cI cJ cZ d_0 sb_0 sb_1 vo_0 vo_1 vo_2 vo_3 vo_4 vo_5 vo_6 vo_7 vo_8 vo_9 vo_10 vo_11 vo_12 vo_13 vo_14 vo_15 vo_16 vo_17 vo_18 vo_19 y32) rfl rfl (gIV ml_X7_119 im_X4_fillStream sl_X4_fillStream in_X4 cd_X4_fillStream) rfl eX4_fillStream rfl ⟨rfl, rfl⟩ ⟨Nat.le_of_ble_eq_true rfl, Nat.le_of_ble_eq_true rfl⟩ rfl rfl rfl [2, 1, 4] rfl rfl rfl rfl (gA_cons aSD (gA_cons aSB (gA_cons rfl gA_nil))) rfl rfl (Nat.le_of_ble_eq_true rfl) (tdec DX7_send 35 rfl) rfl ?_
              refine g_aload_n (z := 1) C (tdec DX7_send 36 rfl) rfl rfl rfl ?_
              refine g_getf (C' := RX7) (T := TX7) (N := 7) (v := .ref sb_0) C 0 0 (gIn iw_X7) rfl rfl (by decide) (gMem fl_X7_12) rfl rfl (tdec DX7_send 37 rfl) rfl ?_
              obtain ⟨r33, y34, hF⟩ := o_bind hF
              refine g_callViRS (q0 := 1) (S := [wTV nm_0 sb_0 d_0 ve_0 vo_0 re_0 ro_0 nm0, wSB cB sb_0 sb_1 s31, wSD d_0 sb_0 s30, wV cI cJ ve_0 ve_1 ve_2 ve_3 ve_4 ve_5 ve_6 ve_7 ve_8 ve_9 ve_10 ve_11 ve_12 ve_13 ve_14 ve_15 ve_16 ve_17 ve_18 ve_19 ve0, wV cI cJ vo_0 vo_1 vo_2 vo_3 vo_4 vo_5 vo_6 vo_7 vo_8 vo_9 vo_10 vo_11 vo_12 vo_13 vo_14 vo_15 vo_16 vo_17 vo_18 vo_19 vo0, wRC re_0 ve_0 sb_0 re0, wRC ro_0 vo_0 sb_0 ro0]) (S0 := [wSB cB sb_0 sb_1 s31]) C (c_X5_length l D cB cI cJ cZ sb_0 sb_1 y34) rfl rfl (gIV ml_X7_123 im_X5_length sl_X5_length in_X5 cd_X5_length) rfl eX5_length rfl ⟨rfl, rfl⟩ ⟨Nat.le_of_ble_eq_true rfl, Nat.le_of_ble_eq_true rfl⟩ rfl rfl rfl [1] rfl rfl rfl (Nat.le_of_ble_eq_true rfl) (tdec DX7_send 38 rfl) rfl ?_
              have hr9 := o_some hF
              subst hr9
              exact g_iretX (s31, s30) C rfl rfl (tdec DX7_send 39 rfl)
            · have hF := o_ifn hF h29
              have hr9 := o_some hF
              subst hr9
              exact g_throw (cls := xIS) C htab hX hZ hfl (by decide) (by decide) (gMem xl_X7_98) (gMem xn_xIS) (gIn xg_X7_100) xb_X7_100 xo_X7_100 rfl rfl (tdec DX7_send 26 rfl) (tdec DX7_send 27 rfl) (tdec DX7_send 28 rfl) (tdec DX7_send 29 rfl) rfl rfl rfl (by decide) (by decide) (by decide) (by decide)
      · have hF := o_ifp hF h21
        have hr9 := o_some hF
        subst hr9
        exact g_throw (cls := xNS) C htab hX hZ hfl (by decide) (by decide) (gMem xl_X7_91) (gMem xn_xNS) (gIn xg_X7_93) xb_X7_93 xo_X7_93 rfl rfl (tdec DX7_send 14 rfl) (tdec DX7_send 15 rfl) (tdec DX7_send 16 rfl) (tdec DX7_send 17 rfl) rfl rfl rfl (by decide) (by decide) (by decide) (by decide)
def FX7_receive (nm0 : Int64) (sb0 : SB) (d0 : SD) (ve0 : VS) (vo0 : VS) (re0 : RC) (ro0 : RC) (p1 : Int32) : Option (Except String (Int32 × (VS × VS × RC × RC))) :=
  (FX7_find nm0 p1).bind fun q2 =>
  (match q2 with
  | none =>
    some (.error xIA)
  | some 0 =>
    (FX7_receivingOf nm0 p1).bind fun q4 =>
    (match q4 with
    | none => none
    | some 0 =>
      (FX3_takeBegin re0 ve0 sb0).bind fun (r5, s6, s7) =>
      some (.ok (r5, (s7, vo0, s6, ro0)))
    | some (_ + 1) =>
      (FX3_takeBegin ro0 vo0 sb0).bind fun (r9, s10, s11) =>
      some (.ok (r9, (ve0, s11, re0, s10))))
  | some (_ + 1) =>
    (FX7_receivingOf nm0 p1).bind fun q15 =>
    (match q15 with
    | none => none
    | some 0 =>
      (FX3_takeBegin re0 ve0 sb0).bind fun (r16, s17, s18) =>
      some (.ok (r16, (s18, vo0, s17, ro0)))
    | some (_ + 1) =>
      (FX3_takeBegin ro0 vo0 sb0).bind fun (r20, s21, s22) =>
      some (.ok (r20, (ve0, s22, re0, s21)))))
def rX7_receive : Room := { frames := 6, cells := 1, slots := 6, locals := 93 }
set_option maxHeartbeats 4000000 in
set_option maxRecDepth 100000 in
theorem c_X7_receive (l : Launch) (hfl : l.stackTraces = false) (D : va_G) (cB cI cJ cZ : ClassId) (nm_0 sb_0 sb_1 d_0 ve_0 ve_1 ve_2 ve_3 ve_4 ve_5 ve_6 ve_7 ve_8 ve_9 ve_10 ve_11 ve_12 ve_13 ve_14 ve_15 ve_16 ve_17 ve_18 ve_19 vo_0 vo_1 vo_2 vo_3 vo_4 vo_5 vo_6 vo_7 vo_8 vo_9 vo_10 vo_11 vo_12 vo_13 vo_14 vo_15 vo_16 vo_17 vo_18 vo_19 re_0 ro_0 : Nat) {nm0 : Int64} {sb0 : SB} {d0 : SD} {ve0 : VS} {vo0 : VS} {re0 : RC} {ro0 : RC} {p1 : Int32} {res : Except String (Int32 × (VS × VS × RC × RC))} (hF : FX7_receive nm0 sb0 d0 ve0 vo0 re0 ro0 p1 = some res) : gXi l yX7_receive wsX7_receive rX7_receive D (gT cB cI cJ cZ) [.ref nm_0, .int p1] (wTV nm_0 sb_0 d_0 ve_0 vo_0 re_0 ro_0 nm0 ++ (wSB cB sb_0 sb_1 sb0 ++ (wSD d_0 sb_0 d0 ++ (wV cI cJ ve_0 ve_1 ve_2 ve_3 ve_4 ve_5 ve_6 ve_7 ve_8 ve_9 ve_10 ve_11 ve_12 ve_13 ve_14 ve_15 ve_16 ve_17 ve_18 ve_19 ve0 ++ (wV cI cJ vo_0 vo_1 vo_2 vo_3 vo_4 vo_5 vo_6 vo_7 vo_8 vo_9 vo_10 vo_11 vo_12 vo_13 vo_14 vo_15 vo_16 vo_17 vo_18 vo_19 vo0 ++ (wRC re_0 ve_0 sb_0 re0 ++ (wRC ro_0 vo_0 sb_0 ro0))))))) res (fun u : (VS × VS × RC × RC) => wTV nm_0 sb_0 d_0 ve_0 vo_0 re_0 ro_0 nm0 ++ (wSB cB sb_0 sb_1 sb0 ++ (wSD d_0 sb_0 d0 ++ (wV cI cJ ve_0 ve_1 ve_2 ve_3 ve_4 ve_5 ve_6 ve_7 ve_8 ve_9 ve_10 ve_11 ve_12 ve_13 ve_14 ve_15 ve_16 ve_17 ve_18 ve_19 u.1 ++ (wV cI cJ vo_0 vo_1 vo_2 vo_3 vo_4 vo_5 vo_6 vo_7 vo_8 vo_9 vo_10 vo_11 vo_12 vo_13 vo_14 vo_15 vo_16 vo_17 vo_18 vo_19 u.2.1 ++ (wRC re_0 ve_0 sb_0 u.2.2.1 ++ (wRC ro_0 vo_0 sb_0 u.2.2.2))))))) := by
  refine g_enterX (own := RX7) (Qc := (fun sz => gXQi D (wTV nm_0 sb_0 d_0 ve_0 vo_0 re_0 ro_0 nm0 ++ (wSB cB sb_0 sb_1 sb0 ++ (wSD d_0 sb_0 d0 ++ (wV cI cJ ve_0 ve_1 ve_2 ve_3 ve_4 ve_5 ve_6 ve_7 ve_8 ve_9 ve_10 ve_11 ve_12 ve_13 ve_14 ve_15 ve_16 ve_17 ve_18 ve_19 ve0 ++ (wV cI cJ vo_0 vo_1 vo_2 vo_3 vo_4 vo_5 vo_6 vo_7 vo_8 vo_9 vo_10 vo_11 vo_12 vo_13 vo_14 vo_15 vo_16 vo_17 vo_18 vo_19 vo0 ++ (wRC re_0 ve_0 sb_0 re0 ++ (wRC ro_0 vo_0 sb_0 ro0))))))) sz (fun r (u : (VS × VS × RC × RC)) => res = .ok (r, u)) (fun u : (VS × VS × RC × RC) => wTV nm_0 sb_0 d_0 ve_0 vo_0 re_0 ro_0 nm0 ++ (wSB cB sb_0 sb_1 sb0 ++ (wSD d_0 sb_0 d0 ++ (wV cI cJ ve_0 ve_1 ve_2 ve_3 ve_4 ve_5 ve_6 ve_7 ve_8 ve_9 ve_10 ve_11 ve_12 ve_13 ve_14 ve_15 ve_16 ve_17 ve_18 ve_19 u.1 ++ (wV cI cJ vo_0 vo_1 vo_2 vo_3 vo_4 vo_5 vo_6 vo_7 vo_8 vo_9 vo_10 vo_11 vo_12 vo_13 vo_14 vo_15 vo_16 vo_17 vo_18 vo_19 u.2.1 ++ (wRC re_0 ve_0 sb_0 u.2.2.1 ++ (wRC ro_0 vo_0 sb_0 u.2.2.2))))))))) (XC := (fun sz => gXC D (wTV nm_0 sb_0 d_0 ve_0 vo_0 re_0 ro_0 nm0 ++ (wSB cB sb_0 sb_1 sb0 ++ (wSD d_0 sb_0 d0 ++ (wV cI cJ ve_0 ve_1 ve_2 ve_3 ve_4 ve_5 ve_6 ve_7 ve_8 ve_9 ve_10 ve_11 ve_12 ve_13 ve_14 ve_15 ve_16 ve_17 ve_18 ve_19 ve0 ++ (wV cI cJ vo_0 vo_1 vo_2 vo_3 vo_4 vo_5 vo_6 vo_7 vo_8 vo_9 vo_10 vo_11 vo_12 vo_13 vo_14 vo_15 vo_16 vo_17 vo_18 vo_19 vo0 ++ (wRC re_0 ve_0 sb_0 re0 ++ (wRC ro_0 vo_0 sb_0 ro0))))))) sz (fun E => res = .error E))) rfl (by decide) rfl (Nat.le_of_ble_eq_true rfl) rfl ?_
  intro p e s m args below meth c C htab hX hZ
  unfold FX7_receive at hF
  refine g_aload_n (z := 0) C (tdec DX7_receive 0 rfl) rfl rfl rfl ?_
  refine g_iload_n (z := 1) C (tdec DX7_receive 1 rfl) rfl rfl rfl ?_
  obtain ⟨q2, y1, hF⟩ := o_bind hF
  refine g_callVqRS (q0 := 0) (S := [wTV nm_0 sb_0 d_0 ve_0 vo_0 re_0 ro_0 nm0, wSB cB sb_0 sb_1 sb0, wSD d_0 sb_0 d0, wV cI cJ ve_0 ve_1 ve_2 ve_3 ve_4 ve_5 ve_6 ve_7 ve_8 ve_9 ve_10 ve_11 ve_12 ve_13 ve_14 ve_15 ve_16 ve_17 ve_18 ve_19 ve0, wV cI cJ vo_0 vo_1 vo_2 vo_3 vo_4 vo_5 vo_6 vo_7 vo_8 vo_9 vo_10 vo_11 vo_12 vo_13 vo_14 vo_15 vo_16 vo_17 vo_18 vo_19 vo0, wRC re_0 ve_0 sb_0 re0, wRC ro_0 vo_0 sb_0 ro0]) (S0 := [wTV nm_0 sb_0 d_0 ve_0 vo_0 re_0 ro_0 nm0]) C (c_X7_find l D cB cI cJ cZ nm_0 sb_0 d_0 ve_0 vo_0 re_0 ro_0 y1) rfl rfl (gIV ml_X7_51 im_X7_find sl_X7_find in_X7 cd_X7_find) rfl eX7_find rfl ⟨rfl, rfl⟩ ⟨Nat.le_of_ble_eq_true rfl, Nat.le_of_ble_eq_true rfl⟩ rfl rfl rfl [0] rfl rfl rfl (Nat.le_of_ble_eq_true rfl) (tdec DX7_receive 2 rfl) rfl ?_
  cases q2 with
  | none =>
    refine g_st (st' := [.null]) rfl ?_
    refine g_ifnonnullN C (tdec DX7_receive 3 rfl) rfl ?_
    have hr9 := o_some hF
    subst hr9
    exact g_throw (cls := xIA) C htab hX hZ hfl (by decide) (by decide) (gMem xl_X7_55) (gMem xn_xIA) (gIn xg_X7_57) xb_X7_57 xo_X7_57 rfl rfl (tdec DX7_receive 4 rfl) (tdec DX7_receive 5 rfl) (tdec DX7_receive 6 rfl) (tdec DX7_receive 7 rfl) rfl rfl rfl (by decide) (by decide) (by decide) (by decide)
  | some k25 =>
    cases k25 with
    | zero =>
      refine g_st (st' := [.ref ve_0]) rfl ?_
      refine g_ifnonnullR (pt := 16) C (tdec DX7_receive 3 rfl) (by decide) ?_
      refine g_aload_n (z := 0) C (tdec DX7_receive 8 rfl) rfl rfl rfl ?_
      refine g_iload_n (z := 1) C (tdec DX7_receive 9 rfl) rfl rfl rfl ?_
      obtain ⟨q4, y3, hF⟩ := o_bind hF
      refine g_callVqRS (q0 := 0) (S := [wTV nm_0 sb_0 d_0 ve_0 vo_0 re_0 ro_0 nm0, wSB cB sb_0 sb_1 sb0, wSD d_0 sb_0 d0, wV cI cJ ve_0 ve_1 ve_2 ve_3 ve_4 ve_5 ve_6 ve_7 ve_8 ve_9 ve_10 ve_11 ve_12 ve_13 ve_14 ve_15 ve_16 ve_17 ve_18 ve_19 ve0, wV cI cJ vo_0 vo_1 vo_2 vo_3 vo_4 vo_5 vo_6 vo_7 vo_8 vo_9 vo_10 vo_11 vo_12 vo_13 vo_14 vo_15 vo_16 vo_17 vo_18 vo_19 vo0, wRC re_0 ve_0 sb_0 re0, wRC ro_0 vo_0 sb_0 ro0]) (S0 := [wTV nm_0 sb_0 d_0 ve_0 vo_0 re_0 ro_0 nm0]) C (c_X7_receivingOf l D cB cI cJ cZ nm_0 sb_0 d_0 ve_0 vo_0 re_0 ro_0 y3) rfl rfl (gIV ml_X7_62 im_X7_receivingOf sl_X7_receivingOf in_X7 cd_X7_receivingOf) rfl eX7_receivingOf rfl ⟨rfl, rfl⟩ ⟨Nat.le_of_ble_eq_true rfl, Nat.le_of_ble_eq_true rfl⟩ rfl rfl rfl [0] rfl rfl rfl (Nat.le_of_ble_eq_true rfl) (tdec DX7_receive 10 rfl) rfl ?_
      cases q4 with
      | none => exact absurd hF (by simp)
      | some k13 =>
        cases k13 with
        | zero =>
          refine g_st (st' := [.ref re_0]) rfl ?_
          obtain ⟨⟨r5, s6, s7⟩, y8, hF⟩ := o_bind hF
          refine g_callViMS (q0 := 44) (W' := wTV nm_0 sb_0 d_0 ve_0 vo_0 re_0 ro_0 nm0 ++ (wSB cB sb_0 sb_1 sb0 ++ (wSD d_0 sb_0 d0 ++ (wV cI cJ ve_0 ve_1 ve_2 ve_3 ve_4 ve_5 ve_6 ve_7 ve_8 ve_9 ve_10 ve_11 ve_12 ve_13 ve_14 ve_15 ve_16 ve_17 ve_18 ve_19 s7 ++ (wV cI cJ vo_0 vo_1 vo_2 vo_3 vo_4 vo_5 vo_6 vo_7 vo_8 vo_9 vo_10 vo_11 vo_12 vo_13 vo_14 vo_15 vo_16 vo_17 vo_18 vo_19 vo0 ++ (wRC re_0 ve_0 sb_0 s6 ++ (wRC ro_0 vo_0 sb_0 ro0))))))) (S := [wTV nm_0 sb_0 d_0 ve_0 vo_0 re_0 ro_0 nm0, wSB cB sb_0 sb_1 sb0, wSD d_0 sb_0 d0, wV cI cJ ve_0 ve_1 ve_2 ve_3 ve_4 ve_5 ve_6 ve_7 ve_8 ve_9 ve_10 ve_11 ve_12 ve_13 ve_14 ve_15 ve_16 ve_17 ve_18 ve_19 ve0, wV cI cJ vo_0 vo_1 vo_2 vo_3 vo_4 vo_5 vo_6 vo_7 vo_8 vo_9 vo_10 vo_11 vo_12 vo_13 vo_14 vo_15 vo_16 vo_17 vo_18 vo_19 vo0, wRC re_0 ve_0 sb_0 re0, wRC ro_0 vo_0 sb_0 ro0]) (S0 := [wRC re_0 ve_0 sb_0 re0, wV cI cJ ve_0 ve_1 ve_2 ve_3 ve_4 ve_5 ve_6 ve_7 ve_8 ve_9 ve_10 ve_11 ve_12 ve_13 ve_14 ve_15 ve_16 ve_17 ve_18 ve_19 ve0, wSB cB sb_0 sb_1 sb0]) (S1 := [wRC re_0 ve_0 sb_0 s6, wV cI cJ ve_0 ve_1 ve_2 ve_3 ve_4 ve_5 ve_6 ve_7 ve_8 ve_9 ve_10 ve_11 ve_12 ve_13 ve_14 ve_15 ve_16 ve_17 ve_18 ve_19 s7, wSB cB sb_0 sb_1 sb0]) (S' := [wTV nm_0 sb_0 d_0 ve_0 vo_0 re_0 ro_0 nm0, wSB cB sb_0 sb_1 sb0, wSD d_0 sb_0 d0, wV cI cJ ve_0 ve_1 ve_2 ve_3 ve_4 ve_5 ve_6 ve_7 ve_8 ve_9 ve_10 ve_11 ve_12 ve_13 ve_14 ve_15 ve_16 ve_17 ve_18 ve_19 s7, wV cI cJ vo_0 vo_1 vo_2 vo_3 vo_4 vo_5 vo_6 vo_7 vo_8 vo_9 vo_10 vo_11 vo_12 vo_13 vo_14 vo_15 vo_16 vo_17 vo_18 vo_19 vo0, wRC re_0 ve_0 sb_0 s6, wRC ro_0 vo_0 sb_0 ro0]) C (c_X3_takeBegin l D cB cI cJ cZ re_0 ve_0 ve_1 ve_2 ve_3 ve_4 ve_5 ve_6 ve_7 ve_8 ve_9 ve_10 ve_11 ve_12 ve_13 ve_14 ve_15 ve_16 ve_17 ve_18 ve_19 sb_0 sb_1 y8) rfl rfl (gIV ml_X7_126 im_X3_takeBegin sl_X3_takeBegin in_X3 cd_X3_takeBegin) rfl eX3_takeBegin rfl ⟨rfl, rfl⟩ ⟨Nat.le_of_ble_eq_true rfl, Nat.le_of_ble_eq_true rfl⟩ rfl rfl rfl [5, 3, 1] rfl rfl rfl rfl (gA_cons aRC (gA_cons aV (gA_cons rfl gA_nil))) rfl rfl (Nat.le_of_ble_eq_true rfl) (tdec DX7_receive 11 rfl) rfl ?_
          have hr9 := o_some hF
          subst hr9
          exact g_iretX (s7, vo0, s6, ro0) C rfl rfl (tdec DX7_receive 12 rfl)
        | succ k13 =>
          refine g_st (st' := [.ref ro_0]) rfl ?_
          obtain ⟨⟨r9, s10, s11⟩, y12, hF⟩ := o_bind hF
          refine g_callViMS (q0 := 45) (W' := wTV nm_0 sb_0 d_0 ve_0 vo_0 re_0 ro_0 nm0 ++ (wSB cB sb_0 sb_1 sb0 ++ (wSD d_0 sb_0 d0 ++ (wV cI cJ ve_0 ve_1 ve_2 ve_3 ve_4 ve_5 ve_6 ve_7 ve_8 ve_9 ve_10 ve_11 ve_12 ve_13 ve_14 ve_15 ve_16 ve_17 ve_18 ve_19 ve0 ++ (wV cI cJ vo_0 vo_1 vo_2 vo_3 vo_4 vo_5 vo_6 vo_7 vo_8 vo_9 vo_10 vo_11 vo_12 vo_13 vo_14 vo_15 vo_16 vo_17 vo_18 vo_19 s11 ++ (wRC re_0 ve_0 sb_0 re0 ++ (wRC ro_0 vo_0 sb_0 s10))))))) (S := [wTV nm_0 sb_0 d_0 ve_0 vo_0 re_0 ro_0 nm0, wSB cB sb_0 sb_1 sb0, wSD d_0 sb_0 d0, wV cI cJ ve_0 ve_1 ve_2 ve_3 ve_4 ve_5 ve_6 ve_7 ve_8 ve_9 ve_10 ve_11 ve_12 ve_13 ve_14 ve_15 ve_16 ve_17 ve_18 ve_19 ve0, wV cI cJ vo_0 vo_1 vo_2 vo_3 vo_4 vo_5 vo_6 vo_7 vo_8 vo_9 vo_10 vo_11 vo_12 vo_13 vo_14 vo_15 vo_16 vo_17 vo_18 vo_19 vo0, wRC re_0 ve_0 sb_0 re0, wRC ro_0 vo_0 sb_0 ro0]) (S0 := [wRC ro_0 vo_0 sb_0 ro0, wV cI cJ vo_0 vo_1 vo_2 vo_3 vo_4 vo_5 vo_6 vo_7 vo_8 vo_9 vo_10 vo_11 vo_12 vo_13 vo_14 vo_15 vo_16 vo_17 vo_18 vo_19 vo0, wSB cB sb_0 sb_1 sb0]) (S1 := [wRC ro_0 vo_0 sb_0 s10, wV cI cJ vo_0 vo_1 vo_2 vo_3 vo_4 vo_5 vo_6 vo_7 vo_8 vo_9 vo_10 vo_11 vo_12 vo_13 vo_14 vo_15 vo_16 vo_17 vo_18 vo_19 s11, wSB cB sb_0 sb_1 sb0]) (S' := [wTV nm_0 sb_0 d_0 ve_0 vo_0 re_0 ro_0 nm0, wSB cB sb_0 sb_1 sb0, wSD d_0 sb_0 d0, wV cI cJ ve_0 ve_1 ve_2 ve_3 ve_4 ve_5 ve_6 ve_7 ve_8 ve_9 ve_10 ve_11 ve_12 ve_13 ve_14 ve_15 ve_16 ve_17 ve_18 ve_19 ve0, wV cI cJ vo_0 vo_1 vo_2 vo_3 vo_4 vo_5 vo_6 vo_7 vo_8 vo_9 vo_10 vo_11 vo_12 vo_13 vo_14 vo_15 vo_16 vo_17 vo_18 vo_19 s11, wRC re_0 ve_0 sb_0 re0, wRC ro_0 vo_0 sb_0 s10]) C (c_X3_takeBegin l D cB cI cJ cZ ro_0 vo_0 vo_1 vo_2 vo_3 vo_4 vo_5 vo_6 vo_7 vo_8 vo_9 vo_10 vo_11 vo_12 vo_13 vo_14 vo_15 vo_16 vo_17 vo_18 vo_19 sb_0 sb_1 y12) rfl rfl (gIV ml_X7_126 im_X3_takeBegin sl_X3_takeBegin in_X3 cd_X3_takeBegin) rfl eX3_takeBegin rfl ⟨rfl, rfl⟩ ⟨Nat.le_of_ble_eq_true rfl, Nat.le_of_ble_eq_true rfl⟩ rfl rfl rfl [6, 4, 1] rfl rfl rfl rfl (gA_cons aRC (gA_cons aV (gA_cons rfl gA_nil))) rfl rfl (Nat.le_of_ble_eq_true rfl) (tdec DX7_receive 11 rfl) rfl ?_
          have hr9 := o_some hF
          subst hr9
          exact g_iretX (ve0, s11, re0, s10) C rfl rfl (tdec DX7_receive 12 rfl)
    | succ k25 =>
      refine g_st (st' := [.ref vo_0]) rfl ?_
      refine g_ifnonnullR (pt := 16) C (tdec DX7_receive 3 rfl) (by decide) ?_
      refine g_aload_n (z := 0) C (tdec DX7_receive 8 rfl) rfl rfl rfl ?_
      refine g_iload_n (z := 1) C (tdec DX7_receive 9 rfl) rfl rfl rfl ?_
      obtain ⟨q15, y14, hF⟩ := o_bind hF
      refine g_callVqRS (q0 := 0) (S := [wTV nm_0 sb_0 d_0 ve_0 vo_0 re_0 ro_0 nm0, wSB cB sb_0 sb_1 sb0, wSD d_0 sb_0 d0, wV cI cJ ve_0 ve_1 ve_2 ve_3 ve_4 ve_5 ve_6 ve_7 ve_8 ve_9 ve_10 ve_11 ve_12 ve_13 ve_14 ve_15 ve_16 ve_17 ve_18 ve_19 ve0, wV cI cJ vo_0 vo_1 vo_2 vo_3 vo_4 vo_5 vo_6 vo_7 vo_8 vo_9 vo_10 vo_11 vo_12 vo_13 vo_14 vo_15 vo_16 vo_17 vo_18 vo_19 vo0, wRC re_0 ve_0 sb_0 re0, wRC ro_0 vo_0 sb_0 ro0]) (S0 := [wTV nm_0 sb_0 d_0 ve_0 vo_0 re_0 ro_0 nm0]) C (c_X7_receivingOf l D cB cI cJ cZ nm_0 sb_0 d_0 ve_0 vo_0 re_0 ro_0 y14) rfl rfl (gIV ml_X7_62 im_X7_receivingOf sl_X7_receivingOf in_X7 cd_X7_receivingOf) rfl eX7_receivingOf rfl ⟨rfl, rfl⟩ ⟨Nat.le_of_ble_eq_true rfl, Nat.le_of_ble_eq_true rfl⟩ rfl rfl rfl [0] rfl rfl rfl (Nat.le_of_ble_eq_true rfl) (tdec DX7_receive 10 rfl) rfl ?_
      cases q15 with
      | none => exact absurd hF (by simp)
      | some k24 =>
        cases k24 with
        | zero =>
          refine g_st (st' := [.ref re_0]) rfl ?_
          obtain ⟨⟨r16, s17, s18⟩, y19, hF⟩ := o_bind hF
          refine g_callViMS (q0 := 44) (W' := wTV nm_0 sb_0 d_0 ve_0 vo_0 re_0 ro_0 nm0 ++ (wSB cB sb_0 sb_1 sb0 ++ (wSD d_0 sb_0 d0 ++ (wV cI cJ ve_0 ve_1 ve_2 ve_3 ve_4 ve_5 ve_6 ve_7 ve_8 ve_9 ve_10 ve_11 ve_12 ve_13 ve_14 ve_15 ve_16 ve_17 ve_18 ve_19 s18 ++ (wV cI cJ vo_0 vo_1 vo_2 vo_3 vo_4 vo_5 vo_6 vo_7 vo_8 vo_9 vo_10 vo_11 vo_12 vo_13 vo_14 vo_15 vo_16 vo_17 vo_18 vo_19 vo0 ++ (wRC re_0 ve_0 sb_0 s17 ++ (wRC ro_0 vo_0 sb_0 ro0))))))) (S := [wTV nm_0 sb_0 d_0 ve_0 vo_0 re_0 ro_0 nm0, wSB cB sb_0 sb_1 sb0, wSD d_0 sb_0 d0, wV cI cJ ve_0 ve_1 ve_2 ve_3 ve_4 ve_5 ve_6 ve_7 ve_8 ve_9 ve_10 ve_11 ve_12 ve_13 ve_14 ve_15 ve_16 ve_17 ve_18 ve_19 ve0, wV cI cJ vo_0 vo_1 vo_2 vo_3 vo_4 vo_5 vo_6 vo_7 vo_8 vo_9 vo_10 vo_11 vo_12 vo_13 vo_14 vo_15 vo_16 vo_17 vo_18 vo_19 vo0, wRC re_0 ve_0 sb_0 re0, wRC ro_0 vo_0 sb_0 ro0]) (S0 := [wRC re_0 ve_0 sb_0 re0, wV cI cJ ve_0 ve_1 ve_2 ve_3 ve_4 ve_5 ve_6 ve_7 ve_8 ve_9 ve_10 ve_11 ve_12 ve_13 ve_14 ve_15 ve_16 ve_17 ve_18 ve_19 ve0, wSB cB sb_0 sb_1 sb0]) (S1 := [wRC re_0 ve_0 sb_0 s17, wV cI cJ ve_0 ve_1 ve_2 ve_3 ve_4 ve_5 ve_6 ve_7 ve_8 ve_9 ve_10 ve_11 ve_12 ve_13 ve_14 ve_15 ve_16 ve_17 ve_18 ve_19 s18, wSB cB sb_0 sb_1 sb0]) (S' := [wTV nm_0 sb_0 d_0 ve_0 vo_0 re_0 ro_0 nm0, wSB cB sb_0 sb_1 sb0, wSD d_0 sb_0 d0, wV cI cJ ve_0 ve_1 ve_2 ve_3 ve_4 ve_5 ve_6 ve_7 ve_8 ve_9 ve_10 ve_11 ve_12 ve_13 ve_14 ve_15 ve_16 ve_17 ve_18 ve_19 s18, wV cI cJ vo_0 vo_1 vo_2 vo_3 vo_4 vo_5 vo_6 vo_7 vo_8 vo_9 vo_10 vo_11 vo_12 vo_13 vo_14 vo_15 vo_16 vo_17 vo_18 vo_19 vo0, wRC re_0 ve_0 sb_0 s17, wRC ro_0 vo_0 sb_0 ro0]) C (c_X3_takeBegin l D cB cI cJ cZ re_0 ve_0 ve_1 ve_2 ve_3 ve_4 ve_5 ve_6 ve_7 ve_8 ve_9 ve_10 ve_11 ve_12 ve_13 ve_14 ve_15 ve_16 ve_17 ve_18 ve_19 sb_0 sb_1 y19) rfl rfl (gIV ml_X7_126 im_X3_takeBegin sl_X3_takeBegin in_X3 cd_X3_takeBegin) rfl eX3_takeBegin rfl ⟨rfl, rfl⟩ ⟨Nat.le_of_ble_eq_true rfl, Nat.le_of_ble_eq_true rfl⟩ rfl rfl rfl [5, 3, 1] rfl rfl rfl rfl (gA_cons aRC (gA_cons aV (gA_cons rfl gA_nil))) rfl rfl (Nat.le_of_ble_eq_true rfl) (tdec DX7_receive 11 rfl) rfl ?_
          have hr9 := o_some hF
          subst hr9
          exact g_iretX (s18, vo0, s17, ro0) C rfl rfl (tdec DX7_receive 12 rfl)
        | succ k24 =>
          refine g_st (st' := [.ref ro_0]) rfl ?_
          obtain ⟨⟨r20, s21, s22⟩, y23, hF⟩ := o_bind hF
          refine g_callViMS (q0 := 45) (W' := wTV nm_0 sb_0 d_0 ve_0 vo_0 re_0 ro_0 nm0 ++ (wSB cB sb_0 sb_1 sb0 ++ (wSD d_0 sb_0 d0 ++ (wV cI cJ ve_0 ve_1 ve_2 ve_3 ve_4 ve_5 ve_6 ve_7 ve_8 ve_9 ve_10 ve_11 ve_12 ve_13 ve_14 ve_15 ve_16 ve_17 ve_18 ve_19 ve0 ++ (wV cI cJ vo_0 vo_1 vo_2 vo_3 vo_4 vo_5 vo_6 vo_7 vo_8 vo_9 vo_10 vo_11 vo_12 vo_13 vo_14 vo_15 vo_16 vo_17 vo_18 vo_19 s22 ++ (wRC re_0 ve_0 sb_0 re0 ++ (wRC ro_0 vo_0 sb_0 s21))))))) (S := [wTV nm_0 sb_0 d_0 ve_0 vo_0 re_0 ro_0 nm0, wSB cB sb_0 sb_1 sb0, wSD d_0 sb_0 d0, wV cI cJ ve_0 ve_1 ve_2 ve_3 ve_4 ve_5 ve_6 ve_7 ve_8 ve_9 ve_10 ve_11 ve_12 ve_13 ve_14 ve_15 ve_16 ve_17 ve_18 ve_19 ve0, wV cI cJ vo_0 vo_1 vo_2 vo_3 vo_4 vo_5 vo_6 vo_7 vo_8 vo_9 vo_10 vo_11 vo_12 vo_13 vo_14 vo_15 vo_16 vo_17 vo_18 vo_19 vo0, wRC re_0 ve_0 sb_0 re0, wRC ro_0 vo_0 sb_0 ro0]) (S0 := [wRC ro_0 vo_0 sb_0 ro0, wV cI cJ vo_0 vo_1 vo_2 vo_3 vo_4 vo_5 vo_6 vo_7 vo_8 vo_9 vo_10 vo_11 vo_12 vo_13 vo_14 vo_15 vo_16 vo_17 vo_18 vo_19 vo0, wSB cB sb_0 sb_1 sb0]) (S1 := [wRC ro_0 vo_0 sb_0 s21, wV cI cJ vo_0 vo_1 vo_2 vo_3 vo_4 vo_5 vo_6 vo_7 vo_8 vo_9 vo_10 vo_11 vo_12 vo_13 vo_14 vo_15 vo_16 vo_17 vo_18 vo_19 s22, wSB cB sb_0 sb_1 sb0]) (S' := [wTV nm_0 sb_0 d_0 ve_0 vo_0 re_0 ro_0 nm0, wSB cB sb_0 sb_1 sb0, wSD d_0 sb_0 d0, wV cI cJ ve_0 ve_1 ve_2 ve_3 ve_4 ve_5 ve_6 ve_7 ve_8 ve_9 ve_10 ve_11 ve_12 ve_13 ve_14 ve_15 ve_16 ve_17 ve_18 ve_19 ve0, wV cI cJ vo_0 vo_1 vo_2 vo_3 vo_4 vo_5 vo_6 vo_7 vo_8 vo_9 vo_10 vo_11 vo_12 vo_13 vo_14 vo_15 vo_16 vo_17 vo_18 vo_19 s22, wRC re_0 ve_0 sb_0 re0, wRC ro_0 vo_0 sb_0 s21]) C (c_X3_takeBegin l D cB cI cJ cZ ro_0 vo_0 vo_1 vo_2 vo_3 vo_4 vo_5 vo_6 vo_7 vo_8 vo_9 vo_10 vo_11 vo_12 vo_13 vo_14 vo_15 vo_16 vo_17 vo_18 vo_19 sb_0 sb_1 y23) rfl rfl (gIV ml_X7_126 im_X3_takeBegin sl_X3_takeBegin in_X3 cd_X3_takeBegin) rfl eX3_takeBegin rfl ⟨rfl, rfl⟩ ⟨Nat.le_of_ble_eq_true rfl, Nat.le_of_ble_eq_true rfl⟩ rfl rfl rfl [6, 4, 1] rfl rfl rfl rfl (gA_cons aRC (gA_cons aV (gA_cons rfl gA_nil))) rfl rfl (Nat.le_of_ble_eq_true rfl) (tdec DX7_receive 11 rfl) rfl ?_
          have hr9 := o_some hF
          subst hr9
          exact g_iretX (ve0, s22, re0, s21) C rfl rfl (tdec DX7_receive 12 rfl)
