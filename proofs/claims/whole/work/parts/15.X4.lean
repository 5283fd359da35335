/-! PART 15.X4: walks, printed by wip/whole/walk.py -/
def FX4_writes (d0 : SD) : Option (Int32) :=
  some (SD_wr d0)
def rX4_writes : Room := { frames := 0, cells := 0, slots := 0, locals := 0 }
set_option maxHeartbeats 4000000 in
set_option maxRecDepth 100000 in
theorem c_X4_writes (l : Launch) (D : va_G) (cB cI cJ cZ : ClassId) (d_0 d_xSB : Nat) {d0 : SD} {res : Int32} (hF : FX4_writes d0 = some res) : gRi l yX4_writes wsX4_writes rX4_writes D (gT cB cI cJ cZ) [.ref d_0] (wSD d_0 d_xSB d0) res := by
  refine g_enter (own := RX4) (free := (fun _ _ => False)) (Qc := (fun sz => gRQi res)) (fun _ _ => True) (fun sz => Or.inl rfl) rfl (by decide) rfl (Nat.le_of_ble_eq_true rfl) rfl ?_
  intro p e s m args below meth c C
  unfold FX4_writes at hF
  refine g_aload_n (z := 0) C (tdec DX4_writes 0 rfl) rfl rfl rfl ?_
  refine g_getf (C' := RX4) (T := TX4) (N := 5) (v := .int (SD_wr d0)) C 0 2 (gIn iw_X4) rfl rfl (by decide) (gMem fl_X4_15) rfl rfl (tdec DX4_writes 1 rfl) rfl ?_
  have hr9 := o_some hF
  subst hr9
  exact g_iretR C rfl (tdec DX4_writes 2 rfl)
def FX4_clears (d0 : SD) : Option (Int32) :=
  some (SD_cl d0)
def rX4_clears : Room := { frames := 0, cells := 0, slots := 0, locals := 0 }
set_option maxHeartbeats 4000000 in
set_option maxRecDepth 100000 in
theorem c_X4_clears (l : Launch) (D : va_G) (cB cI cJ cZ : ClassId) (d_0 d_xSB : Nat) {d0 : SD} {res : Int32} (hF : FX4_clears d0 = some res) : gRi l yX4_clears wsX4_clears rX4_clears D (gT cB cI cJ cZ) [.ref d_0] (wSD d_0 d_xSB d0) res := by
  refine g_enter (own := RX4) (free := (fun _ _ => False)) (Qc := (fun sz => gRQi res)) (fun _ _ => True) (fun sz => Or.inl rfl) rfl (by decide) rfl (Nat.le_of_ble_eq_true rfl) rfl ?_
  intro p e s m args below meth c C
  unfold FX4_clears at hF
  refine g_aload_n (z := 0) C (tdec DX4_clears 0 rfl) rfl rfl rfl ?_
  refine g_getf (C' := RX4) (T := TX4) (N := 5) (v := .int (SD_cl d0)) C 0 3 (gIn iw_X4) rfl rfl (by decide) (gMem fl_X4_19) rfl rfl (tdec DX4_clears 1 rfl) rfl ?_
  have hr9 := o_some hF
  subst hr9
  exact g_iretR C rfl (tdec DX4_clears 2 rfl)
def FX4_seen (d0 : SD) : Option (Int32) :=
  some (SD_sn d0)
def rX4_seen : Room := { frames := 0, cells := 0, slots := 0, locals := 0 }
set_option maxHeartbeats 4000000 in
set_option maxRecDepth 100000 in
theorem c_X4_seen (l : Launch) (D : va_G) (cB cI cJ cZ : ClassId) (d_0 d_xSB : Nat) {d0 : SD} {res : Int32} (hF : FX4_seen d0 = some res) : gRi l yX4_seen wsX4_seen rX4_seen D (gT cB cI cJ cZ) [.ref d_0] (wSD d_0 d_xSB d0) res := by
  refine g_enter (own := RX4) (free := (fun _ _ => False)) (Qc := (fun sz => gRQi res)) (fun _ _ => True) (fun sz => Or.inl rfl) rfl (by decide) rfl (Nat.le_of_ble_eq_true rfl) rfl ?_
  intro p e s m args below meth c C
  unfold FX4_seen at hF
  refine g_aload_n (z := 0) C (tdec DX4_seen 0 rfl) rfl rfl rfl ?_
  refine g_getf (C' := RX4) (T := TX4) (N := 5) (v := .int (SD_sn d0)) C 0 4 (gIn iw_X4) rfl rfl (by decide) (gMem fl_X4_22) rfl rfl (tdec DX4_seen 1 rfl) rfl ?_
  have hr9 := o_some hF
  subst hr9
  exact g_iretR C rfl (tdec DX4_seen 2 rfl)
def FX4_goOver_n0 (d0 : SD) (sb0 : SB) (b0 : BS) (p2 : Int32) (p3 : Int32) (p4 : Int32) : Option (SD × SB) :=
  none
def rX4_goOver_n0 : Room := { frames := 3, cells := 0, slots := 0, locals := 70 }
set_option maxHeartbeats 4000000 in
set_option maxRecDepth 100000 in
theorem c_X4_goOver_n0 (l : Launch) (D : va_G) (cB cI cJ cZ : ClassId) (d_0 sb_0 sb_1 b_0 b_1 b_2 b_3 b_4 b_5 b_6 b_7 b_8 b_9 b_10 b_11 b_12 b_13 b_14 : Nat) {d0 : SD} {sb0 : SB} {b0 : BS} {p2 : Int32} {p3 : Int32} {p4 : Int32} {res : SD × SB} (hF : FX4_goOver_n0 d0 sb0 b0 p2 p3 p4 = some res) : gMv l yX4_goOver wsX4_goOver rX4_goOver_n0 D (gT cB cI cJ cZ) [.ref d_0, .ref b_0, .int p2, .int p3, .int p4] (wSD d_0 sb_0 d0 ++ (wSB cB sb_0 sb_1 sb0 ++ (wB cI cJ b_0 b_1 b_2 b_3 b_4 b_5 b_6 b_7 b_8 b_9 b_10 b_11 b_12 b_13 b_14 b0))) (wSD d_0 sb_0 res.1 ++ (wSB cB sb_0 sb_1 res.2 ++ (wB cI cJ b_0 b_1 b_2 b_3 b_4 b_5 b_6 b_7 b_8 b_9 b_10 b_11 b_12 b_13 b_14 b0))) := by
  refine g_enter (own := RX4) (free := (fun sz => va_A (wSD d_0 sb_0 d0 ++ (wSB cB sb_0 sb_1 sb0 ++ (wB cI cJ b_0 b_1 b_2 b_3 b_4 b_5 b_6 b_7 b_8 b_9 b_10 b_11 b_12 b_13 b_14 b0))) sz)) (Qc := (fun sz => gQv D (wSD d_0 sb_0 d0 ++ (wSB cB sb_0 sb_1 sb0 ++ (wB cI cJ b_0 b_1 b_2 b_3 b_4 b_5 b_6 b_7 b_8 b_9 b_10 b_11 b_12 b_13 b_14 b0))) sz (wSD d_0 sb_0 res.1 ++ (wSB cB sb_0 sb_1 res.2 ++ (wB cI cJ b_0 b_1 b_2 b_3 b_4 b_5 b_6 b_7 b_8 b_9 b_10 b_11 b_12 b_13 b_14 b0))))) (fun sz => va_A (wSD d_0 sb_0 d0 ++ (wSB cB sb_0 sb_1 sb0 ++ (wB cI cJ b_0 b_1 b_2 b_3 b_4 b_5 b_6 b_7 b_8 b_9 b_10 b_11 b_12 b_13 b_14 b0))) sz) (fun sz => Or.inr rfl) rfl (by decide) rfl (Nat.le_of_ble_eq_true rfl) rfl ?_
  intro p e s m args below meth c C
  unfold FX4_goOver_n0 at hF
  exact absurd hF (by simp)
def FX4_goOver_n1_L98 (b0 : BS) (v2 : Int32) (v3 : Int32) (v4 : Int32) (v5 : Int32) (k9 : SD → SB → Int32 → Option (SD × SB)) : Nat → SD → SB → Int32 → Option (SD × SB)
  | 0, _, _, _ => none
  | n9 + 1, d, sb, v6 =>
    if 8 ≤ v6 then
      k9 d sb v6
    else
      (FX4_goOver_n0 d sb b0 ((v5 * 8) + v6) (v3 - 1) (v4 + (v6 <<< ((3 * (v3 - 1)) &&& 31)))).bind fun (s10, s11) =>
      FX4_goOver_n1_L98 b0 v2 v3 v4 v5 k9 n9 s10 s11 (v6 + 1)
def FX4_goOver_n1 (d0 : SD) (sb0 : SB) (b0 : BS) (p2 : Int32) (p3 : Int32) (p4 : Int32) : Option (SD × SB) :=
  if p3 < 0 then
    some (d0, sb0)
  else
    (FX0_birth b0 p2).bind fun r2 =>
    if (SD_since d0) < r2 then
      (FX0_told b0 p2).bind fun r5 =>
      if r5 = (-1) then
        (FX5_addClear sb0 p4 (1 <<< ((3 * p3) &&& 31))).bind fun s18 =>
        some ((SD_setcl d0 ((SD_cl d0) + 1)), s18)
      else
        if p3 = 0 then
          (FX0_number b0 r5).bind fun r14 =>
          (FX5_addWrite sb0 p4 r14).bind fun s16 =>
          some ((SD_setwr (SD_setsn d0 ((SD_sn d0) + 1)) ((SD_wr d0) + 1)), s16)
        else
          FX4_goOver_n1_L98 b0 p2 p3 p4 r5 (fun dq13 sbq13 w6_13 =>
            some (dq13, sbq13)) 100000 (SD_setsn d0 ((SD_sn d0) + 1)) sb0 0
    else
      some (d0, sb0)
def rX4_goOver_n1 : Room := { frames := 4, cells := 0, slots := 0, locals := 96 }
set_option maxHeartbeats 4000000 in
set_option maxRecDepth 100000 in
theorem c_FX4_goOver_n1_L98 {p : Program} {l : Launch} {e : Env} {s : State} {m : MethodId} {args : Array Value} {below : List Frame} {meth : Method} {c : Code} {D : va_G} {cB cI cJ cZ : ClassId} {d_0 sb_0 sb_1 b_0 b_1 b_2 b_3 b_4 b_5 b_6 b_7 b_8 b_9 b_10 b_11 b_12 b_13 b_14 : Nat} {d0 : SD} {sb0 : SB} {b0 : BS} {res : SD × SB} (C : gC p s m args meth c cX4_goOver 7 RX4 wsX4_goOver D (gT cB cI cJ cZ) none (va_A (wSD d_0 sb_0 d0 ++ (wSB cB sb_0 sb_1 sb0 ++ (wB cI cJ b_0 b_1 b_2 b_3 b_4 b_5 b_6 b_7 b_8 b_9 b_10 b_11 b_12 b_13 b_14 b0))) s.heap.size)) {v2 : Int32} {v3 : Int32} {v4 : Int32} {v5 : Int32} {k9 : SD → SB → Int32 → Option (SD × SB)} (hk9 : ∀ (d : SD) (sb : SB) (v6 : Int32), k9 d sb v6 = some res → gG p l e (headSpec wsX4_goOver rX4_goOver_n1).room s m args below meth c 0 0 D (va_A (wSD d_0 sb_0 d0 ++ (wSB cB sb_0 sb_1 sb0 ++ (wB cI cJ b_0 b_1 b_2 b_3 b_4 b_5 b_6 b_7 b_8 b_9 b_10 b_11 b_12 b_13 b_14 b0))) s.heap.size) (va_A (wSD d_0 sb_0 d0 ++ (wSB cB sb_0 sb_1 sb0 ++ (wB cI cJ b_0 b_1 b_2 b_3 b_4 b_5 b_6 b_7 b_8 b_9 b_10 b_11 b_12 b_13 b_14 b0))) s.heap.size) 7 (MQ below (gQv D (wSD d_0 sb_0 d0 ++ (wSB cB sb_0 sb_1 sb0 ++ (wB cI cJ b_0 b_1 b_2 b_3 b_4 b_5 b_6 b_7 b_8 b_9 b_10 b_11 b_12 b_13 b_14 b0))) s.heap.size (wSD d_0 sb_0 res.1 ++ (wSB cB sb_0 sb_1 res.2 ++ (wB cI cJ b_0 b_1 b_2 b_3 b_4 b_5 b_6 b_7 b_8 b_9 b_10 b_11 b_12 b_13 b_14 b0)))) args s 0 0 (va_A (wSD d_0 sb_0 d0 ++ (wSB cB sb_0 sb_1 sb0 ++ (wB cI cJ b_0 b_1 b_2 b_3 b_4 b_5 b_6 b_7 b_8 b_9 b_10 b_11 b_12 b_13 b_14 b0))) s.heap.size)) (wSD d_0 sb_0 d ++ (wSB cB sb_0 sb_1 sb ++ (wB cI cJ b_0 b_1 b_2 b_3 b_4 b_5 b_6 b_7 b_8 b_9 b_10 b_11 b_12 b_13 b_14 b0))) 138 [(0, .ref d_0), (1, .ref b_0), (2, .int v2), (3, .int v3), (4, .int v4), (5, .int v5), (6, .int v6)] []) :
    ∀ (n9 : Nat) (d : SD) (sb : SB) (v6 : Int32), FX4_goOver_n1_L98 b0 v2 v3 v4 v5 k9 n9 d sb v6 = some res → gG p l e (headSpec wsX4_goOver rX4_goOver_n1).room s m args below meth c 0 0 D (va_A (wSD d_0 sb_0 d0 ++ (wSB cB sb_0 sb_1 sb0 ++ (wB cI cJ b_0 b_1 b_2 b_3 b_4 b_5 b_6 b_7 b_8 b_9 b_10 b_11 b_12 b_13 b_14 b0))) s.heap.size) (va_A (wSD d_0 sb_0 d0 ++ (wSB cB sb_0 sb_1 sb0 ++ (wB cI cJ b_0 b_1 b_2 b_3 b_4 b_5 b_6 b_7 b_8 b_9 b_10 b_11 b_12 b_13 b_14 b0))) s.heap.size) 7 (MQ below (gQv D (wSD d_0 sb_0 d0 ++ (wSB cB sb_0 sb_1 sb0 ++ (wB cI cJ b_0 b_1 b_2 b_3 b_4 b_5 b_6 b_7 b_8 b_9 b_10 b_11 b_12 b_13 b_14 b0))) s.heap.size (wSD d_0 sb_0 res.1 ++ (wSB cB sb_0 sb_1 res.2 ++ (wB cI cJ b_0 b_1 b_2 b_3 b_4 b_5 b_6 b_7 b_8 b_9 b_10 b_11 b_12 b_13 b_14 b0)))) args s 0 0 (va_A (wSD d_0 sb_0 d0 ++ (wSB cB sb_0 sb_1 sb0 ++ (wB cI cJ b_0 b_1 b_2 b_3 b_4 b_5 b_6 b_7 b_8 b_9 b_10 b_11 b_12 b_13 b_14 b0))) s.heap.size)) (wSD d_0 sb_0 d ++ (wSB cB sb_0 sb_1 sb ++ (wB cI cJ b_0 b_1 b_2 b_3 b_4 b_5 b_6 b_7 b_8 b_9 b_10 b_11 b_12 b_13 b_14 b0))) 98 [(0, .ref d_0), (1, .ref b_0), (2, .int v2), (3, .int v3), (4, .int v4), (5, .int v5), (6, .int v6)] [] := by
  intro n9
  induction n9 with
  | zero =>
    intro d sb v6 hF
    exact absurd hF (by simp [FX4_goOver_n1_L98])
  | succ n9 ih9 =>
    intro d sb v6 hF
    rw [FX4_goOver_n1_L98] at hF
    refine g_iload (z := 6) C (tdec DX4_goOver 56 rfl) rfl rfl ?_
    refine g_bipush (v := 8) C (tdec DX4_goOver 57 rfl) (by decide) rfl ?_
    refine g_icmp_ge (pt := 138) C (tdec DX4_goOver 58 rfl) (by decide) rfl (fun h9 => ?_) (fun h9 => ?_)
    · have hF := o_ifp hF h9
      refine g_sub (L' := [(0, .ref d_0), (1, .ref b_0), (2, .int v2), (3, .int v3), (4, .int v4), (5, .int v5), (6, .int v6)]) [0, 1, 2, 3, 4, 5, 6] rfl ?_
      exact hk9 _ _ _ hF
    · have hF := o_ifn hF h9
      refine g_aload_n (z := 0) C (tdec DX4_goOver 59 rfl) rfl rfl rfl ?_
      refine g_aload_n (z := 1) C (tdec DX4_goOver 60 rfl) rfl rfl rfl ?_
      refine g_iload (z := 5) C (tdec DX4_goOver 61 rfl) rfl rfl ?_
      refine g_bipush (v := 8) C (tdec DX4_goOver 62 rfl) (by decide) rfl ?_
      refine g_imul C (tdec DX4_goOver 63 rfl) rfl ?_
      refine g_iload (z := 6) C (tdec DX4_goOver 64 rfl) rfl rfl ?_
      refine g_iadd C (tdec DX4_goOver 65 rfl) rfl ?_
      refine g_iload_n (z := 3) C (tdec DX4_goOver 66 rfl) rfl rfl rfl ?_
      refine g_iconst (v := 1) C (tdec DX4_goOver 67 rfl) (by decide) rfl ?_
      refine g_isub C (tdec DX4_goOver 68 rfl) rfl ?_
      refine g_iload (z := 4) C (tdec DX4_goOver 69 rfl) rfl rfl ?_
      refine g_iload (z := 6) C (tdec DX4_goOver 70 rfl) rfl rfl ?_
      refine g_iconst (v := 3) C (tdec DX4_goOver 71 rfl) (by decide) rfl ?_
      refine g_iload_n (z := 3) C (tdec DX4_goOver 72 rfl) rfl rfl rfl ?_
      refine g_iconst (v := 1) C (tdec DX4_goOver 73 rfl) (by decide) rfl ?_
      refine g_isub C (tdec DX4_goOver 74 rfl) rfl ?_
      refine g_imul C (tdec DX4_goOver 75 rfl) rfl ?_
      refine g_ishl C (tdec DX4_goOver 76 rfl) rfl ?_
      refine g_iadd C (tdec DX4_goOver 77 rfl) rfl ?_
      obtain ⟨⟨s10, s11⟩, y12, hF⟩ := o_bind hF
      refine g_callSvMS (W' := wSD d_0 sb_0 s10 ++ (wSB cB sb_0 sb_1 s11 ++ (wB cI cJ b_0 b_1 b_2 b_3 b_4 b_5 b_6 b_7 b_8 b_9 b_10 b_11 b_12 b_13 b_14 b0))) (S := [wSD d_0 sb_0 d, wSB cB sb_0 sb_1 sb, wB cI cJ b_0 b_1 b_2 b_3 b_4 b_5 b_6 b_7 b_8 b_9 b_10 b_11 b_12 b_13 b_14 b0]) (S0 := [wSD d_0 sb_0 d, wSB cB sb_0 sb_1 sb, wB cI cJ b_0 b_1 b_2 b_3 b_4 b_5 b_6 b_7 b_8 b_9 b_10 b_11 b_12 b_13 b_14 b0]) (S1 := [wSD d_0 sb_0 s10, wSB cB sb_0 sb_1 s11, wB cI cJ b_0 b_1 b_2 b_3 b_4 b_5 b_6 b_7 b_8 b_9 b_10 b_11 b_12 b_13 b_14 b0]) (S' := [wSD d_0 sb_0 s10, wSB cB sb_0 sb_1 s11, wB cI cJ b_0 b_1 b_2 b_3 b_4 b_5 b_6 b_7 b_8 b_9 b_10 b_11 b_12 b_13 b_14 b0]) C (c_X4_goOver_n0 l D cB cI cJ cZ d_0 sb_0 sb_1 b_0 b_1 b_2 b_3 b_4 b_5 b_6 b_7 b_8 b_9 b_10 b_11 b_12 b_13 b_14 y12) (gIS ml_X4_52 st_X4_goOver in_X4 cd_X4_goOver) eX4_goOver rfl ⟨rfl, rfl⟩ ⟨Nat.le_of_ble_eq_true rfl, Nat.le_of_ble_eq_true rfl⟩ rfl rfl rfl [0, 1, 2] rfl rfl rfl rfl (gA_cons aSD (gA_cons aSB (gA_cons rfl gA_nil))) rfl rfl (Nat.le_of_ble_eq_true rfl) (tdec DX4_goOver 78 rfl) rfl ?_
      refine g_iinc (z := 6) (v := (v6 + 1)) (L' := [(6, .int (v6 + 1)), (0, .ref d_0), (1, .ref b_0), (2, .int v2), (3, .int v3), (4, .int v4), (5, .int v5)]) C (tdec DX4_goOver 79 rfl) rfl rfl (by decide) rfl rfl ?_
      refine g_goto (pt := 98) C (tdec DX4_goOver 80 rfl) (by decide) ?_
      refine g_sub (L' := [(0, .ref d_0), (1, .ref b_0), (2, .int v2), (3, .int v3), (4, .int v4), (5, .int v5), (6, .int (v6 + 1))]) [1, 2, 3, 4, 5, 6, 0] rfl ?_
      exact ih9 _ _ _ hF
set_option maxHeartbeats 4000000 in
set_option maxRecDepth 100000 in
theorem c_X4_goOver_n1 (l : Launch) (D : va_G) (cB cI cJ cZ : ClassId) (d_0 sb_0 sb_1 b_0 b_1 b_2 b_3 b_4 b_5 b_6 b_7 b_8 b_9 b_10 b_11 b_12 b_13 b_14 : Nat) {d0 : SD} {sb0 : SB} {b0 : BS} {p2 : Int32} {p3 : Int32} {p4 : Int32} {res : SD × SB} (hF : FX4_goOver_n1 d0 sb0 b0 p2 p3 p4 = some res) : gMv l yX4_goOver wsX4_goOver rX4_goOver_n1 D (gT cB cI cJ cZ) [.ref d_0, .ref b_0, .int p2, .int p3, .int p4] (wSD d_0 sb_0 d0 ++ (wSB cB sb_0 sb_1 sb0 ++ (wB cI cJ b_0 b_1 b_2 b_3 b_4 b_5 b_6 b_7 b_8 b_9 b_10 b_11 b_12 b_13 b_14 b0))) (wSD d_0 sb_0 res.1 ++ (wSB cB sb_0 sb_1 res.2 ++ (wB cI cJ b_0 b_1 b_2 b_3 b_4 b_5 b_6 b_7 b_8 b_9 b_10 b_11 b_12 b_13 b_14 b0))) := by
  refine g_enter (own := RX4) (free := (fun sz => va_A (wSD d_0 sb_0 d0 ++ (wSB cB sb_0 sb_1 sb0 ++ (wB cI cJ b_0 b_1 b_2 b_3 b_4 b_5 b_6 b_7 b_8 b_9 b_10 b_11 b_12 b_13 b_14 b0))) sz)) (Qc := (fun sz => gQv D (wSD d_0 sb_0 d0 ++ (wSB cB sb_0 sb_1 sb0 ++ (wB cI cJ b_0 b_1 b_2 b_3 b_4 b_5 b_6 b_7 b_8 b_9 b_10 b_11 b_12 b_13 b_14 b0))) sz (wSD d_0 sb_0 res.1 ++ (wSB cB sb_0 sb_1 res.2 ++ (wB cI cJ b_0 b_1 b_2 b_3 b_4 b_5 b_6 b_7 b_8 b_9 b_10 b_11 b_12 b_13 b_14 b0))))) (fun sz => va_A (wSD d_0 sb_0 d0 ++ (wSB cB sb_0 sb_1 sb0 ++ (wB cI cJ b_0 b_1 b_2 b_3 b_4 b_5 b_6 b_7 b_8 b_9 b_10 b_11 b_12 b_13 b_14 b0))) sz) (fun sz => Or.inr rfl) rfl (by decide) rfl (Nat.le_of_ble_eq_true rfl) rfl ?_
  intro p e s m args below meth c C
  unfold FX4_goOver_n1 at hF
  refine g_iload_n (z := 3) C (tdec DX4_goOver 0 rfl) rfl rfl rfl ?_
  refine g_if_lt (pt := 16) C (tdec DX4_goOver 1 rfl) (by decide) rfl (fun h1 => ?_) (fun h1 => ?_)
  · have hF := o_ifp hF h1
    have hr9 := o_some hF
    subst hr9
    exact g_vret C rfl (tdec DX4_goOver 8 rfl)
  · have hF := o_ifn hF h1
    refine g_aload_n (z := 1) C (tdec DX4_goOver 2 rfl) rfl rfl rfl ?_
    refine g_iload_n (z := 2) C (tdec DX4_goOver 3 rfl) rfl rfl rfl ?_
    obtain ⟨r2, y3, hF⟩ := o_bind hF
    refine g_callViRS (q0 := 3) (S := [wSD d_0 sb_0 d0, wSB cB sb_0 sb_1 sb0, wB cI cJ b_0 b_1 b_2 b_3 b_4 b_5 b_6 b_7 b_8 b_9 b_10 b_11 b_12 b_13 b_14 b0]) (S0 := [wB cI cJ b_0 b_1 b_2 b_3 b_4 b_5 b_6 b_7 b_8 b_9 b_10 b_11 b_12 b_13 b_14 b0]) C (c_X0_birth l D cB cI cJ cZ b_0 b_1 b_2 b_3 b_4 b_5 b_6 b_7 b_8 b_9 b_10 b_11 b_12 b_13 b_14 y3) rfl rfl (gIV ml_X4_59 im_X0_birth sl_X0_birth in_X0 cd_X0_birth) rfl eX0_birth rfl ⟨rfl, rfl⟩ ⟨Nat.le_of_ble_eq_true rfl, Nat.le_of_ble_eq_true rfl⟩ rfl rfl rfl [2] rfl rfl rfl (Nat.le_of_ble_eq_true rfl) (tdec DX4_goOver 4 rfl) rfl ?_
    refine g_aload_n (z := 0) C (tdec DX4_goOver 5 rfl) rfl rfl rfl ?_
    refine g_getf (C' := RX4) (T := TX4) (N := 5) (v := .int (SD_since d0)) C 0 1 (gIn iw_X4) rfl rfl (by decide) (gMem fl_X4_31) rfl rfl (tdec DX4_goOver 6 rfl) rfl ?_
    refine g_icmp_gt (pt := 17) C (tdec DX4_goOver 7 rfl) (by decide) rfl (fun h4 => ?_) (fun h4 => ?_)
    · have hF := o_ifp hF h4
      refine g_aload_n (z := 1) C (tdec DX4_goOver 9 rfl) rfl rfl rfl ?_
      refine g_iload_n (z := 2) C (tdec DX4_goOver 10 rfl) rfl rfl rfl ?_
      obtain ⟨r5, y6, hF⟩ := o_bind hF
      refine g_callViRS (q0 := 3) (S := [wSD d_0 sb_0 d0, wSB cB sb_0 sb_1 sb0, wB cI cJ b_0 b_1 b_2 b_3 b_4 b_5 b_6 b_7 b_8 b_9 b_10 b_11 b_12 b_13 b_14 b0]) (S0 := [wB cI cJ b_0 b_1 b_2 b_3 b_4 b_5 b_6 b_7 b_8 b_9 b_10 b_11 b_12 b_13 b_14 b0]) C (c_X0_told l D cB cI cJ cZ b_0 b_1 b_2 b_3 b_4 b_5 b_6 b_7 b_8 b_9 b_10 b_11 b_12 b_13 b_14 y6) rfl rfl (gIV ml_X4_64 im_X0_told sl_X0_told in_X0 cd_X0_told) rfl eX0_told rfl ⟨rfl, rfl⟩ ⟨Nat.le_of_ble_eq_true rfl, Nat.le_of_ble_eq_true rfl⟩ rfl rfl rfl [2] rfl rfl rfl (Nat.le_of_ble_eq_true rfl) (tdec DX4_goOver 11 rfl) rfl ?_
      refine g_istore (L' := [(5, .int r5), (0, .ref d_0), (1, .ref b_0), (2, .int p2), (3, .int p3), (4, .int p4)]) C (tdec DX4_goOver 12 rfl) (by decide) rfl rfl ?_
      refine g_iload (z := 0) C (tdec DX4_goOver 13 rfl) rfl rfl ?_
      refine g_iconst (v := (-1)) C (tdec DX4_goOver 14 rfl) (by decide) rfl ?_
      refine g_icmp_ne (pt := 55) C (tdec DX4_goOver 15 rfl) (by decide) rfl (fun h7 => ?_) (fun h7 => ?_)
      · have hF := o_ifn hF h7
        refine g_aload_n (z := 1) C (tdec DX4_goOver 32 rfl) rfl rfl rfl ?_
        refine g_dup C (tdec DX4_goOver 33 rfl) rfl rfl ?_
        refine g_getf (C' := RX4) (T := TX4) (N := 5) (v := .int (SD_sn d0)) C 0 4 (gIn iw_X4) rfl rfl (by decide) (gMem fl_X4_22) rfl rfl (tdec DX4_goOver 34 rfl) rfl ?_
        refine g_iconst (v := 1) C (tdec DX4_goOver 35 rfl) (by decide) rfl ?_
        refine g_iadd C (tdec DX4_goOver 36 rfl) rfl ?_
        refine g_putf (C' := RX4) (T := TX4) (N := 5) (v := .int ((SD_sn d0) + 1)) (ws' := wSD d_0 sb_0 (SD_setsn d0 ((SD_sn d0) + 1)) ++ (wSB cB sb_0 sb_1 sb0 ++ (wB cI cJ b_0 b_1 b_2 b_3 b_4 b_5 b_6 b_7 b_8 b_9 b_10 b_11 b_12 b_13 b_14 b0))) C 0 4 tyX4 tyX4_ok nmX4 (gIn iw_X4) rfl rfl (by decide) (gMem fl_X4_22) rfl rfl (tyX4_ok 4 (by decide)) rfl rfl (Nat.le_of_ble_eq_true rfl) rfl (tdec DX4_goOver 37 rfl) rfl ?_
        refine g_iload_n (z := 4) C (tdec DX4_goOver 38 rfl) rfl rfl rfl ?_
        refine g_if_ne (pt := 95) C (tdec DX4_goOver 39 rfl) (by decide) rfl (fun h8 => ?_) (fun h8 => ?_)
        · have hF := o_ifn hF h8
          refine g_iconst (v := 0) C (tdec DX4_goOver 54 rfl) (by decide) rfl ?_
          refine g_istore (L' := [(6, .int 0), (5, .int r5), (0, .ref d_0), (1, .ref b_0), (2, .int p2), (3, .int p3), (4, .int p4)]) C (tdec DX4_goOver 55 rfl) (by decide) rfl rfl ?_
          refine g_sub (L' := [(0, .ref d_0), (1, .ref b_0), (2, .int p2), (3, .int p3), (4, .int p4), (5, .int r5), (6, .int 0)]) [2, 3, 4, 5, 6, 1, 0] rfl ?_
          refine c_FX4_goOver_n1_L98 C (fun dq13 sbq13 w6_13 hF => ?_) 100000 _ _ _ hF
          have hr9 := o_some hF
          subst hr9
          exact g_vret C rfl (tdec DX4_goOver 81 rfl)
        · have hF := o_ifp hF h8
          refine g_aload_n (z := 1) C (tdec DX4_goOver 40 rfl) rfl rfl rfl ?_
          refine g_dup C (tdec DX4_goOver 41 rfl) rfl rfl ?_
          refine g_getf (C' := RX4) (T := TX4) (N := 5) (v := .int (SD_wr d0)) C 0 2 (gIn iw_X4) rfl rfl (by decide) (gMem fl_X4_15) rfl rfl (tdec DX4_goOver 42 rfl) rfl ?_
          refine g_iconst (v := 1) C (tdec DX4_goOver 43 rfl) (by decide) rfl ?_
          refine g_iadd C (tdec DX4_goOver 44 rfl) rfl ?_
          refine g_putf (C' := RX4) (T := TX4) (N := 5) (v := .int ((SD_wr d0) + 1)) (ws' := wSD d_0 sb_0 (SD_setwr (SD_setsn d0 ((SD_sn d0) + 1)) ((SD_wr d0) + 1)) ++ (wSB cB sb_0 sb_1 sb0 ++ (wB cI cJ b_0 b_1 b_2 b_3 b_4 b_5 b_6 b_7 b_8 b_9 b_10 b_11 b_12 b_13 b_14 b0))) C 0 2 tyX4 tyX4_ok nmX4 (gIn iw_X4) rfl rfl (by decide) (gMem fl_X4_15) rfl rfl (tyX4_ok 2 (by decide)) rfl rfl (Nat.le_of_ble_eq_true rfl) rfl (tdec DX4_goOver 45 rfl) rfl ?_
          refine g_aload_n (z := 1) C (tdec DX4_goOver 46 rfl) rfl rfl rfl ?_
          refine g_getf (C' := RX4) (T := TX4) (N := 5) (v := .ref sb_0) C 0 0 (gIn iw_X4) rfl rfl (by decide) (gMem fl_X4_9) rfl rfl (tdec DX4_goOver 47 rfl) rfl ?_
          refine g_iload (z := 5) C (tdec DX4_goOver 48 rfl) rfl rfl ?_
          refine g_aload_n (z := 2) C (tdec DX4_goOver 49 rfl) rfl rfl rfl ?_
          refine g_iload (z := 0) C (tdec DX4_goOver 50 rfl) rfl rfl ?_
          obtain ⟨r14, y15, hF⟩ := o_bind hF
          refine g_callVlRS (q0 := 3) (S := [wSD d_0 sb_0 (SD_setwr (SD_setsn d0 ((SD_sn d0) + 1)) ((SD_wr d0) + 1)), wSB cB sb_0 sb_1 sb0, wB cI cJ b_0 b_1 b_2 b_3 b_4 b_5 b_6 b_7 b_8 b_9 b_10 b_11 b_12 b_13 b_14 b0]) (S0 := [wB cI cJ b_0 b_1 b_2 b_3 b_4 b_5 b_6 b_7 b_8 b_9 b_10 b_11 b_12 b_13 b_14 b0]) C (c_X0_number l D cB cI cJ cZ b_0 b_1 b_2 b_3 b_4 b_5 b_6 b_7 b_8 b_9 b_10 b_11 b_12 b_13 b_14 y15) rfl rfl (gIV ml_X4_71 im_X0_number sl_X0_number in_X0 cd_X0_number) rfl eX0_number rfl ⟨rfl, rfl⟩ ⟨Nat.le_of_ble_eq_true rfl, Nat.le_of_ble_eq_true rfl⟩ rfl rfl rfl [2] rfl rfl rfl (Nat.le_of_ble_eq_true rfl) (tdec DX4_goOver 51 rfl) rfl ?_
          obtain ⟨s16, y17, hF⟩ := o_bind hF
          refine g_callVvMS (q0 := 1) (W' := wSD d_0 sb_0 (SD_setwr (SD_setsn d0 ((SD_sn d0) + 1)) ((SD_wr d0) + 1)) ++ (wSB cB sb_0 sb_1 s16 ++ (wB cI cJ b_0 b_1 b_2 b_3 b_4 b_5 b_6 b_7 b_8 b_9 b_10 b_11 b_12 b_13 b_14 b0))) (S := [wSD d_0 sb_0 (SD_setwr (SD_setsn d0 ((SD_sn d0) + 1)) ((SD_wr d0) + 1)), wSB cB sb_0 sb_1 sb0, wB cI cJ b_0 b_1 b_2 b_3 b_4 b_5 b_6 b_7 b_8 b_9 b_10 b_11 b_12 b_13 b_14 b0]) (S0 := [wSB cB sb_0 sb_1 sb0]) (S1 := [wSB cB sb_0 sb_1 s16]) (S' := [wSD d_0 sb_0 (SD_setwr (SD_setsn d0 ((SD_sn d0) + 1)) ((SD_wr d0) + 1)), wSB cB sb_0 sb_1 s16, wB cI cJ b_0 b_1 b_2 b_3 b_4 b_5 b_6 b_7 b_8 b_9 b_10 b_11 b_12 b_13 b_14 b0]) C (c_X5_addWrite l D cB cI cJ cZ sb_0 sb_1 y17) rfl rfl (gIV ml_X4_74 im_X5_addWrite sl_X5_addWrite in_X5 cd_X5_addWrite) rfl eX5_addWrite rfl ⟨rfl, rfl⟩ ⟨Nat.le_of_ble_eq_true rfl, Nat.le_of_ble_eq_true rfl⟩ rfl rfl rfl [1] rfl rfl rfl rfl (gA_cons aSB gA_nil) rfl rfl (Nat.le_of_ble_eq_true rfl) (tdec DX4_goOver 52 rfl) rfl ?_
          have hr9 := o_some hF
          subst hr9
          exact g_vret C rfl (tdec DX4_goOver 53 rfl)
      · have hF := o_ifp hF h7
        refine g_aload_n (z := 1) C (tdec DX4_goOver 16 rfl) rfl rfl rfl ?_
        refine g_dup C (tdec DX4_goOver 17 rfl) rfl rfl ?_
        refine g_getf (C' := RX4) (T := TX4) (N := 5) (v := .int (SD_cl d0)) C 0 3 (gIn iw_X4) rfl rfl (by decide) (gMem fl_X4_19) rfl rfl (tdec DX4_goOver 18 rfl) rfl ?_
        refine g_iconst (v := 1) C (tdec DX4_goOver 19 rfl) (by decide) rfl ?_
        refine g_iadd C (tdec DX4_goOver 20 rfl) rfl ?_
        refine g_putf (C' := RX4) (T := TX4) (N := 5) (v := .int ((SD_cl d0) + 1)) (ws' := wSD d_0 sb_0 (SD_setcl d0 ((SD_cl d0) + 1)) ++ (wSB cB sb_0 sb_1 sb0 ++ (wB cI cJ b_0 b_1 b_2 b_3 b_4 b_5 b_6 b_7 b_8 b_9 b_10 b_11 b_12 b_13 b_14 b0))) C 0 3 tyX4 tyX4_ok nmX4 (gIn iw_X4) rfl rfl (by decide) (gMem fl_X4_19) rfl rfl (tyX4_ok 3 (by decide)) rfl rfl (Nat.le_of_ble_eq_true rfl) rfl (tdec DX4_goOver 21 rfl) rfl ?_
        refine g_aload_n (z := 1) C (tdec DX4_goOver 22 rfl) rfl rfl rfl ?_
        refine g_getf (C' := RX4) (T := TX4) (N := 5) (v := .ref sb_0) C 0 0 (gIn iw_X4) rfl rfl (by decide) (gMem fl_X4_9) rfl rfl (tdec DX4_goOver 23 rfl) rfl ?_
        refine g_iload (z := 5) C (tdec DX4_goOver 24 rfl) rfl rfl ?_
        refine g_iconst (v := 1) C (tdec DX4_goOver 25 rfl) (by decide) rfl ?_
        refine g_iconst (v := 3) C (tdec DX4_goOver 26 rfl) (by decide) rfl ?_
        refine g_iload_n (z := 4) C (tdec DX4_goOver 27 rfl) rfl rfl rfl ?_
        refine g_imul C (tdec DX4_goOver 28 rfl) rfl ?_
        refine g_ishl C (tdec DX4_goOver 29 rfl) rfl ?_
        obtain ⟨s18, y19, hF⟩ := o_bind hF
        refine g_callVvMS (q0 := 1) (W' := wSD d_0 sb_0 (SD_setcl d0 ((SD_cl d0) + 1)) ++ (wSB cB sb_0 sb_1 s18 ++ (wB cI cJ b_0 b_1 b_2 b_3 b_4 b_5 b_6 b_7 b_8 b_9 b_10 b_11 b_12 b_13 b_14 b0))) (S := [wSD d_0 sb_0 (SD_setcl d0 ((SD_cl d0) + 1)), wSB cB sb_0 sb_1 sb0, wB cI cJ b_0 b_1 b_2 b_3 b_4 b_5 b_6 b_7 b_8 b_9 b_10 b_11 b_12 b_13 b_14 b0]) (S0 := [wSB cB sb_0 sb_1 sb0]) (S1 := [wSB cB sb_0 sb_1 s18]) (S' := [wSD d_0 sb_0 (SD_setcl d0 ((SD_cl d0) + 1)), wSB cB sb_0 sb_1 s18, wB cI cJ b_0 b_1 b_2 b_3 b_4 b_5 b_6 b_7 b_8 b_9 b_10 b_11 b_12 b_13 b_14 b0]) C (c_X5_addClear l D cB cI cJ cZ sb_0 sb_1 y19) rfl rfl (gIV ml_X4_67 im_X5_addClear sl_X5_addClear in_X5 cd_X5_addClear) rfl eX5_addClear rfl ⟨rfl, rfl⟩ ⟨Nat.le_of_ble_eq_true rfl, Nat.le_of_ble_eq_true rfl⟩ rfl rfl rfl [1] rfl rfl rfl rfl (gA_cons aSB gA_nil) rfl rfl (Nat.le_of_ble_eq_true rfl) (tdec DX4_goOver 30 rfl) rfl ?_
        have hr9 := o_some hF
        subst hr9
        exact g_vret C rfl (tdec DX4_goOver 31 rfl)
    · have hF := o_ifn hF h4
      have hr9 := o_some hF
      subst hr9
      exact g_vret C rfl (tdec DX4_goOver 8 rfl)
def FX4_goOver_n2_L98 (b0 : BS) (v2 : Int32) (v3 : Int32) (v4 : Int32) (v5 : Int32) (k9 : SD → SB → Int32 → Option (SD × SB)) : Nat → SD → SB → Int32 → Option (SD × SB)
  | 0, _, _, _ => none
  | n9 + 1, d, sb, v6 =>
    if 8 ≤ v6 then
      k9 d sb v6
    else
      (FX4_goOver_n1 d sb b0 ((v5 * 8) + v6) (v3 - 1) (v4 + (v6 <<< ((3 * (v3 - 1)) &&& 31)))).bind fun (s10, s11) =>
      FX4_goOver_n2_L98 b0 v2 v3 v4 v5 k9 n9 s10 s11 (v6 + 1)
def FX4_goOver_n2 (d0 : SD) (sb0 : SB) (b0 : BS) (p2 : Int32) (p3 : Int32) (p4 : Int32) : Option (SD × SB) :=
  if p3 < 0 then
    some (d0, sb0)
  else
    (FX0_birth b0 p2).bind fun r2 =>
    if (SD_since d0) < r2 then
      (FX0_told b0 p2).bind fun r5 =>
      if r5 = (-1) then
        (FX5_addClear sb0 p4 (1 <<< ((3 * p3) &&& 31))).bind fun s18 =>
        some ((SD_setcl d0 ((SD_cl d0) + 1)), s18)
      else
        if p3 = 0 then
          (FX0_number b0 r5).bind fun r14 =>
          (FX5_addWrite sb0 p4 r14).bind fun s16 =>
          some ((SD_setwr (SD_setsn d0 ((SD_sn d0) + 1)) ((SD_wr d0) + 1)), s16)
        else
          FX4_goOver_n2_L98 b0 p2 p3 p4 r5 (fun dq13 sbq13 w6_13 =>
            some (dq13, sbq13)) 100000 (SD_setsn d0 ((SD_sn d0) + 1)) sb0 0
    else
      some (d0, sb0)
def rX4_goOver_n2 : Room := { frames := 5, cells := 0, slots := 0, locals := 122 }
set_option maxHeartbeats 4000000 in
set_option maxRecDepth 100000 in
theorem c_FX4_goOver_n2_L98 {p : Program} {l : Launch} {e : Env} {s : State} {m : MethodId} {args : Array Value} {below : List Frame} {meth : Method} {c : Code} {D : va_G} {cB cI cJ cZ : ClassId} {d_0 sb_0 sb_1 b_0 b_1 b_2 b_3 b_4 b_5 b_6 b_7 b_8 b_9 b_10 b_11 b_12 b_13 b_14 : Nat} {d0 : SD} {sb0 : SB} {b0 : BS} {res : SD × SB} (C : gC p s m args meth c cX4_goOver 7 RX4 wsX4_goOver D (gT cB cI cJ cZ) none (va_A (wSD d_0 sb_0 d0 ++ (wSB cB sb_0 sb_1 sb0 ++ (wB cI cJ b_0 b_1 b_2 b_3 b_4 b_5 b_6 b_7 b_8 b_9 b_10 b_11 b_12 b_13 b_14 b0))) s.heap.size)) {v2 : Int32} {v3 : Int32} {v4 : Int32} {v5 : Int32} {k9 : SD → SB → Int32 → Option (SD × SB)} (hk9 : ∀ (d : SD) (sb : SB) (v6 : Int32), k9 d sb v6 = some res → gG p l e (headSpec wsX4_goOver rX4_goOver_n2).room s m args below meth c 0 0 D (va_A (wSD d_0 sb_0 d0 ++ (wSB cB sb_0 sb_1 sb0 ++ (wB cI cJ b_0 b_1 b_2 b_3 b_4 b_5 b_6 b_7 b_8 b_9 b_10 b_11 b_12 b_13 b_14 b0))) s.heap.size) (va_A (wSD d_0 sb_0 d0 ++ (wSB cB sb_0 sb_1 sb0 ++ (wB cI cJ b_0 b_1 b_2 b_3 b_4 b_5 b_6 b_7 b_8 b_9 b_10 b_11 b_12 b_13 b_14 b0))) s.heap.size) 7 (MQ below (gQv D (wSD d_0 sb_0 d0 ++ (wSB cB sb_0 sb_1 sb0 ++ (wB cI cJ b_0 b_1 b_2 b_3 b_4 b_5 b_6 b_7 b_8 b_9 b_10 b_11 b_12 b_13 b_14 b0))) s.heap.size (wSD d_0 sb_0 res.1 ++ (wSB cB sb_0 sb_1 res.2 ++ (wB cI cJ b_0 b_1 b_2 b_3 b_4 b_5 b_6 b_7 b_8 b_9 b_10 b_11 b_12 b_13 b_14 b0)))) args s 0 0 (va_A (wSD d_0 sb_0 d0 ++ (wSB cB sb_0 sb_1 sb0 ++ (wB cI cJ b_0 b_1 b_2 b_3 b_4 b_5 b_6 b_7 b_8 b_9 b_10 b_11 b_12 b_13 b_14 b0))) s.heap.size)) (wSD d_0 sb_0 d ++ (wSB cB sb_0 sb_1 sb ++ (wB cI cJ b_0 b_1 b_2 b_3 b_4 b_5 b_6 b_7 b_8 b_9 b_10 b_11 b_12 b_13 b_14 b0))) 138 [(0, .ref d_0), (1, .ref b_0), (2, .int v2), (3, .int v3), (4, .int v4), (5, .int v5), (6, .int v6)] []) :
    ∀ (n9 : Nat) (d : SD) (sb : SB) (v6 : Int32), FX4_goOver_n2_L98 b0 v2 v3 v4 v5 k9 n9 d sb v6 = some res → gG p l e (headSpec wsX4_goOver rX4_goOver_n2).room s m args below meth c 0 0 D (va_A (wSD d_0 sb_0 d0 ++ (wSB cB sb_0 sb_1 sb0 ++ (wB cI cJ b_0 b_1 b_2 b_3 b_4 b_5 b_6 b_7 b_8 b_9 b_10 b_11 b_12 b_13 b_14 b0))) s.heap.size) (va_A (wSD d_0 sb_0 d0 ++ (wSB cB sb_0 sb_1 sb0 ++ (wB cI cJ b_0 b_1 b_2 b_3 b_4 b_5 b_6 b_7 b_8 b_9 b_10 b_11 b_12 b_13 b_14 b0))) s.heap.size) 7 (MQ below (gQv D (wSD d_0 sb_0 d0 ++ (wSB cB sb_0 sb_1 sb0 ++ (wB cI cJ b_0 b_1 b_2 b_3 b_4 b_5 b_6 b_7 b_8 b_9 b_10 b_11 b_12 b_13 b_14 b0))) s.heap.size (wSD d_0 sb_0 res.1 ++ (wSB cB sb_0 sb_1 res.2 ++ (wB cI cJ b_0 b_1 b_2 b_3 b_4 b_5 b_6 b_7 b_8 b_9 b_10 b_11 b_12 b_13 b_14 b0)))) args s 0 0 (va_A (wSD d_0 sb_0 d0 ++ (wSB cB sb_0 sb_1 sb0 ++ (wB cI cJ b_0 b_1 b_2 b_3 b_4 b_5 b_6 b_7 b_8 b_9 b_10 b_11 b_12 b_13 b_14 b0))) s.heap.size)) (wSD d_0 sb_0 d ++ (wSB cB sb_0 sb_1 sb ++ (wB cI cJ b_0 b_1 b_2 b_3 b_4 b_5 b_6 b_7 b_8 b_9 b_10 b_11 b_12 b_13 b_14 b0))) 98 [(0, .ref d_0), (1, .ref b_0), (2, .int v2), (3, .int v3), (4, .int v4), (5, .int v5), (6, .int v6)] [] := by
  intro n9
  induction n9 with
  | zero =>
    intro d sb v6 hF
    exact absurd hF (by simp [FX4_goOver_n2_L98])
  | succ n9 ih9 =>
    intro d sb v6 hF
    rw [FX4_goOver_n2_L98] at hF
    refine g_iload (z := 6) C (tdec DX4_goOver 56 rfl) rfl rfl ?_
    refine g_bipush (v := 8) C (tdec DX4_goOver 57 rfl) (by decide) rfl ?_
    refine g_icmp_ge (pt := 138) C (tdec DX4_goOver 58 rfl) (by decide) rfl (fun h9 => ?_) (fun h9 => ?_)
    · have hF := o_ifp hF h9
      refine g_sub (L' := [(0, .ref d_0), (1, .ref b_0), (2, .int v2), (3, .int v3), (4, .int v4), (5, .int v5), (6, .int v6)]) [0, 1, 2, 3, 4, 5, 6] rfl ?_
      exact hk9 _ _ _ hF
    · have hF := o_ifn hF h9
      refine g_aload_n (z := 0) C (tdec DX4_goOver 59 rfl) rfl rfl rfl ?_
      refine g_aload_n (z := 1) C (tdec DX4_goOver 60 rfl) rfl rfl rfl ?_
      refine g_iload (z := 5) C (tdec DX4_goOver 61 rfl) rfl rfl ?_
      refine g_bipush (v := 8) C (tdec DX4_goOver 62 rfl) (by decide) rfl ?_
      refine g_imul C (tdec DX4_goOver 63 rfl) rfl ?_
      refine g_iload (z := 6) C (tdec DX4_goOver 64 rfl) rfl rfl ?_
      refine g_iadd C (tdec DX4_goOver 65 rfl) rfl ?_
      refine g_iload_n (z := 3) C (tdec DX4_goOver 66 rfl) rfl rfl rfl ?_
      refine g_iconst (v := 1) C (tdec DX4_goOver 67 rfl) (by decide) rfl ?_
      refine g_isub C (tdec DX4_goOver 68 rfl) rfl ?_
      refine g_iload (z := 4) C (tdec DX4_goOver 69 rfl) rfl rfl ?_
      refine g_iload (z := 6) C (tdec DX4_goOver 70 rfl) rfl rfl ?_
      refine g_iconst (v := 3) C (tdec DX4_goOver 71 rfl) (by decide) rfl ?_
      refine g_iload_n (z := 3) C (tdec DX4_goOver 72 rfl) rfl rfl rfl ?_
      refine g_iconst (v := 1) C (tdec DX4_goOver 73 rfl) (by decide) rfl ?_
      refine g_isub C (tdec DX4_goOver 74 rfl) rfl ?_
      refine g_imul C (tdec DX4_goOver 75 rfl) rfl ?_
      refine g_ishl C (tdec DX4_goOver 76 rfl) rfl ?_
      refine g_iadd C (tdec DX4_goOver 77 rfl) rfl ?_
      obtain ⟨⟨s10, s11⟩, y12, hF⟩ := o_bind hF
      refine g_callSvMS (W' := wSD d_0 sb_0 s10 ++ (wSB cB sb_0 sb_1 s11 ++ (wB cI cJ b_0 b_1 b_2 b_3 b_4 b_5 b_6 b_7 b_8 b_9 b_10 b_11 b_12 b_13 b_14 b0))) (S := [wSD d_0 sb_0 d, wSB cB sb_0 sb_1 sb, wB cI cJ b_0 b_1 b_2 b_3 b_4 b_5 b_6 b_7 b_8 b_9 b_10 b_11 b_12 b_13 b_14 b0]) (S0 := [wSD d_0 sb_0 d, wSB cB sb_0 sb_1 sb, wB cI cJ b_0 b_1 b_2 b_3 b_4 b_5 b_6 b_7 b_8 b_9 b_10 b_11 b_12 b_13 b_14 b0]) (S1 := [wSD d_0 sb_0 s10, wSB cB sb_0 sb_1 s11, wB cI cJ b_0 b_1 b_2 b_3 b_4 b_5 b_6 b_7 b_8 b_9 b_10 b_11 b_12 b_13 b_14 b0]) (S' := [wSD d_0 sb_0 s10, wSB cB sb_0 sb_1 s11, wB cI cJ b_0 b_1 b_2 b_3 b_4 b_5 b_6 b_7 b_8 b_9 b_10 b_11 b_12 b_13 b_14 b0]) C (c_X4_goOver_n1 l D cB cI cJ cZ d_0 sb_0 sb_1 b_0 b_1 b_2 b_3 b_4 b_5 b_6 b_7 b_8 b_9 b_10 b_11 b_12 b_13 b_14 y12) (gIS ml_X4_52 st_X4_goOver in_X4 cd_X4_goOver) eX4_goOver rfl ⟨rfl, rfl⟩ ⟨Nat.le_of_ble_eq_true rfl, Nat.le_of_ble_eq_true rfl⟩ rfl rfl rfl [0, 1, 2] rfl rfl rfl rfl (gA_cons aSD (gA_cons aSB (gA_cons rfl gA_nil))) rfl rfl (Nat.le_of_ble_eq_true rfl) (tdec DX4_goOver 78 rfl) rfl ?_
      refine g_iinc (z := 6) (v := (v6 + 1)) (L' := [(6, .int (v6 + 1)), (0, .ref d_0), (1, .ref b_0), (2, .int v2), (3, .int v3), (4, .int v4), (5, .int v5)]) C (tdec DX4_goOver 79 rfl) rfl rfl (by decide) rfl rfl ?_
      refine g_goto (pt := 98) C (tdec DX4_goOver 80 rfl) (by decide) ?_
      refine g_sub (L' := [(0, .ref d_0), (1, .ref b_0), (2, .int v2), (3, .int v3), (4, .int v4), (5, .int v5), (6, .int (v6 + 1))]) [1, 2, 3, 4, 5, 6, 0] rfl ?_
      exact ih9 _ _ _ hF
set_option maxHeartbeats 4000000 in
set_option maxRecDepth 100000 in
theorem c_X4_goOver_n2 (l : Launch) (D : va_G) (cB cI cJ cZ : ClassId) (d_0 sb_0 sb_1 b_0 b_1 b_2 b_3 b_4 b_5 b_6 b_7 b_8 b_9 b_10 b_11 b_12 b_13 b_14 : Nat) {d0 : SD} {sb0 : SB} {b0 : BS} {p2 : Int32} {p3 : Int32} {p4 : Int32} {res : SD × SB} (hF : FX4_goOver_n2 d0 sb0 b0 p2 p3 p4 = some res) : gMv l yX4_goOver wsX4_goOver rX4_goOver_n2 D (gT cB cI cJ cZ) [.ref d_0, .ref b_0, .int p2, .int p3, .int p4] (wSD d_0 sb_0 d0 ++ (wSB cB sb_0 sb_1 sb0 ++ (wB cI cJ b_0 b_1 b_2 b_3 b_4 b_5 b_6 b_7 b_8 b_9 b_10 b_11 b_12 b_13 b_14 b0))) (wSD d_0 sb_0 res.1 ++ (wSB cB sb_0 sb_1 res.2 ++ (wB cI cJ b_0 b_1 b_2 b_3 b_4 b_5 b_6 b_7 b_8 b_9 b_10 b_11 b_12 b_13 b_14 b0))) := by
  refine g_enter (own := RX4) (free := (fun sz => va_A (wSD d_0 sb_0 d0 ++ (wSB cB sb_0 sb_1 sb0 ++ (wB cI cJ b_0 b_1 b_2 b_3 b_4 b_5 b_6 b_7 b_8 b_9 b_10 b_11 b_12 b_13 b_14 b0))) sz)) (Qc := (fun sz => gQv D (wSD d_0 sb_0 d0 ++ (wSB cB sb_0 sb_1 sb0 ++ (wB cI cJ b_0 b_1 b_2 b_3 b_4 b_5 b_6 b_7 b_8 b_9 b_10 b_11 b_12 b_13 b_14 b0))) sz (wSD d_0 sb_0 res.1 ++ (wSB cB sb_0 sb_1 res.2 ++ (wB cI cJ b_0 b_1 b_2 b_3 b_4 b_5 b_6 b_7 b_8 b_9 b_10 b_11 b_12 b_13 b_14 b0))))) (fun sz => va_A (wSD d_0 sb_0 d0 ++ (wSB cB sb_0 sb_1 sb0 ++ (wB cI cJ b_0 b_1 b_2 b_3 b_4 b_5 b_6 b_7 b_8 b_9 b_10 b_11 b_12 b_13 b_14 b0))) sz) (fun sz => Or.inr rfl) rfl (by decide) rfl (Nat.le_of_ble_eq_true rfl) rfl ?_
  intro p e s m args below meth c C
  unfold FX4_goOver_n2 at hF
  refine g_iload_n (z := 3) C (tdec DX4_goOver 0 rfl) rfl rfl rfl ?_
  refine g_if_lt (pt := 16) C (tdec DX4_goOver 1 rfl) (by decide) rfl (fun h1 => ?_) (fun h1 => ?_)
  · have hF := o_ifp hF h1
    have hr9 := o_some hF
    subst hr9
    exact g_vret C rfl (tdec DX4_goOver 8 rfl)
  · have hF := o_ifn hF h1
    refine g_aload_n (z := 1) C (tdec DX4_goOver 2 rfl) rfl rfl rfl ?_
    refine g_iload_n (z := 2) C (tdec DX4_goOver 3 rfl) rfl rfl rfl ?_
    obtain ⟨r2, y3, hF⟩ := o_bind hF
    refine g_callViRS (q0 := 3) (S := [wSD d_0 sb_0 d0, wSB cB sb_0 sb_1 sb0, wB cI cJ b_0 b_1 b_2 b_3 b_4 b_5 b_6 b_7 b_8 b_9 b_10 b_11 b_12 b_13 b_14 b0]) (S0 := [wB cI cJ b_0 b_1 b_2 b_3 b_4 b_5 b_6 b_7 b_8 b_9 b_10 b_11 b_12 b_13 b_14 b0]) C (c_X0_birth l D cB cI cJ cZ b_0 b_1 b_2 b_3 b_4 b_5 b_6 b_7 b_8 b_9 b_10 b_11 b_12 b_13 b_14 y3) rfl rfl (gIV ml_X4_59 im_X0_birth sl_X0_birth in_X0 cd_X0_birth) rfl eX0_birth rfl ⟨rfl, rfl⟩ ⟨Nat.le_of_ble_eq_true rfl, Nat.le_of_ble_eq_true rfl⟩ rfl rfl rfl [2] rfl rfl rfl (Nat.le_of_ble_eq_true rfl) (tdec DX4_goOver 4 rfl) rfl ?_
    refine g_aload_n (z := 0) C (tdec DX4_goOver 5 rfl) rfl rfl rfl ?_
    refine g_getf (C' := RX4) (T := TX4) (N := 5) (v := .int (SD_since d0)) C 0 1 (gIn iw_X4) rfl rfl (by decide) (gMem fl_X4_31) rfl rfl (tdec DX4_goOver 6 rfl) rfl ?_
    refine g_icmp_gt (pt := 17) C (tdec DX4_goOver 7 rfl) (by decide) rfl (fun h4 => ?_) (fun h4 => ?_)
    · have hF := o_ifp hF h4
      refine g_aload_n (z := 1) C (tdec DX4_goOver 9 rfl) rfl rfl rfl ?_
      refine g_iload_n (z := 2) C (tdec DX4_goOver 10 rfl) rfl rfl rfl ?_
      obtain ⟨r5, y6, hF⟩ := o_bind hF
      refine g_callViRS (q0 := 3) (S := [wSD d_0 sb_0 d0, wSB cB sb_0 sb_1 sb0, wB cI cJ b_0 b_1 b_2 b_3 b_4 b_5 b_6 b_7 b_8 b_9 b_10 b_11 b_12 b_13 b_14 b0]) (S0 := [wB cI cJ b_0 b_1 b_2 b_3 b_4 b_5 b_6 b_7 b_8 b_9 b_10 b_11 b_12 b_13 b_14 b0]) C (c_X0_told l D cB cI cJ cZ b_0 b_1 b_2 b_3 b_4 b_5 b_6 b_7 b_8 b_9 b_10 b_11 b_12 b_13 b_14 y6) rfl rfl (gIV ml_X4_64 im_X0_told sl_X0_told in_X0 cd_X0_told) rfl eX0_told rfl ⟨rfl, rfl⟩ ⟨Nat.le_of_ble_eq_true rfl, Nat.le_of_ble_eq_true rfl⟩ rfl rfl rfl [2] rfl rfl rfl (Nat.le_of_ble_eq_true rfl) (tdec DX4_goOver 11 rfl) rfl ?_
      refine g_istore (L' := [(5, .int r5), (0, .ref d_0), (1, .ref b_0), (2, .int p2), (3, .int p3), (4, .int p4)]) C (tdec DX4_goOver 12 rfl) (by decide) rfl rfl ?_
      refine g_iload (z := 0) C (tdec DX4_goOver 13 rfl) rfl rfl ?_
      refine g_iconst (v := (-1)) C (tdec DX4_goOver 14 rfl) (by decide) rfl ?_
      refine g_icmp_ne (pt := 55) C (tdec DX4_goOver 15 rfl) (by decide) rfl (fun h7 => ?_) (fun h7 => ?_)
      · have hF := o_ifn hF h7
        refine g_aload_n (z := 1) C (tdec DX4_goOver 32 rfl) rfl rfl rfl ?_
        refine g_dup C (tdec DX4_goOver 33 rfl) rfl rfl ?_
        refine g_getf (C' := RX4) (T := TX4) (N := 5) (v := .int (SD_sn d0)) C 0 4 (gIn iw_X4) rfl rfl (by decide) (gMem fl_X4_22) rfl rfl (tdec DX4_goOver 34 rfl) rfl ?_
        refine g_iconst (v := 1) C (tdec DX4_goOver 35 rfl) (by decide) rfl ?_
        refine g_iadd C (tdec DX4_goOver 36 rfl) rfl ?_
        refine g_putf (C' := RX4) (T := TX4) (N := 5) (v := .int ((SD_sn d0) + 1)) (ws' := wSD d_0 sb_0 (SD_setsn d0 ((SD_sn d0) + 1)) ++ (wSB cB sb_0 sb_1 sb0 ++ (wB cI cJ b_0 b_1 b_2 b_3 b_4 b_5 b_6 b_7 b_8 b_9 b_10 b_11 b_12 b_13 b_14 b0))) C 0 4 tyX4 tyX4_ok nmX4 (gIn iw_X4) rfl rfl (by decide) (gMem fl_X4_22) rfl rfl (tyX4_ok 4 (by decide)) rfl rfl (Nat.le_of_ble_eq_true rfl) rfl (tdec DX4_goOver 37 rfl) rfl ?_
        refine g_iload_n (z := 4) C (tdec DX4_goOver 38 rfl) rfl rfl rfl ?_
        refine g_if_ne (pt := 95) C (tdec DX4_goOver 39 rfl) (by decide) rfl (fun h8 => ?_) (fun h8 => ?_)
        · have hF := o_ifn hF h8
          refine g_iconst (v := 0) C (tdec DX4_goOver 54 rfl) (by decide) rfl ?_
          refine g_istore (L' := [(6, .int 0), (5, .int r5), (0, .ref d_0), (1, .ref b_0), (2, .int p2), (3, .int p3), (4, .int p4)]) C (tdec DX4_goOver 55 rfl) (by decide) rfl rfl ?_
          refine g_sub (L' := [(0, .ref d_0), (1, .ref b_0), (2, .int p2), (3, .int p3), (4, .int p4), (5, .int r5), (6, .int 0)]) [2, 3, 4, 5, 6, 1, 0] rfl ?_
          refine c_FX4_goOver_n2_L98 C (fun dq13 sbq13 w6_13 hF => ?_) 100000 _ _ _ hF
          have hr9 := o_some hF
          subst hr9
          exact g_vret C rfl (tdec DX4_goOver 81 rfl)
        · have hF := o_ifp hF h8
          refine g_aload_n (z := 1) C (tdec DX4_goOver 40 rfl) rfl rfl rfl ?_
          refine g_dup C (tdec DX4_goOver 41 rfl) rfl rfl ?_
          refine g_getf (C' := RX4) (T := TX4) (N := 5) (v := .int (SD_wr d0)) C 0 2 (gIn iw_X4) rfl rfl (by decide) (gMem fl_X4_15) rfl rfl (tdec DX4_goOver 42 rfl) rfl ?_
          refine g_iconst (v := 1) C (tdec DX4_goOver 43 rfl) (by decide) rfl ?_
          refine g_iadd C (tdec DX4_goOver 44 rfl) rfl ?_
          refine g_putf (C' := RX4) (T := TX4) (N := 5) (v := .int ((SD_wr d0) + 1)) (ws' := wSD d_0 sb_0 (SD_setwr (SD_setsn d0 ((SD_sn d0) + 1)) ((SD_wr d0) + 1)) ++ (wSB cB sb_0 sb_1 sb0 ++ (wB cI cJ b_0 b_1 b_2 b_3 b_4 b_5 b_6 b_7 b_8 b_9 b_10 b_11 b_12 b_13 b_14 b0))) C 0 2 tyX4 tyX4_ok nmX4 (gIn iw_X4) rfl rfl (by decide) (gMem fl_X4_15) rfl rfl (tyX4_ok 2 (by decide)) rfl rfl (Nat.le_of_ble_eq_true rfl) rfl (tdec DX4_goOver 45 rfl) rfl ?_
          refine g_aload_n (z := 1) C (tdec DX4_goOver 46 rfl) rfl rfl rfl ?_
          refine g_getf (C' := RX4) (T := TX4) (N := 5) (v := .ref sb_0) C 0 0 (gIn iw_X4) rfl rfl (by decide) (gMem fl_X4_9) rfl rfl (tdec DX4_goOver 47 rfl) rfl ?_
          refine g_iload (z := 5) C (tdec DX4_goOver 48 rfl) rfl rfl ?_
          refine g_aload_n (z := 2) C (tdec DX4_goOver 49 rfl) rfl rfl rfl ?_
          refine g_iload (z := 0) C (tdec DX4_goOver 50 rfl) rfl rfl ?_
          obtain ⟨r14, y15, hF⟩ := o_bind hF
          refine g_callVlRS (q0 := 3) (S := [wSD d_0 sb_0 (SD_setwr (SD_setsn d0 ((SD_sn d0) + 1)) ((SD_wr d0) + 1)), wSB cB sb_0 sb_1 sb0, wB cI cJ b_0 b_1 b_2 b_3 b_4 b_5 b_6 b_7 b_8 b_9 b_10 b_11 b_12 b_13 b_14 b0]) (S0 := [wB cI cJ b_0 b_1 b_2 b_3 b_4 b_5 b_6 b_7 b_8 b_9 b_10 b_11 b_12 b_13 b_14 b0]) C (c_X0_number l D cB cI cJ cZ b_0 b_1 b_2 b_3 b_4 b_5 b_6 b_7 b_8 b_9 b_10 b_11 b_12 b_13 b_14 y15) rfl rfl (gIV ml_X4_71 im_X0_number sl_X0_number in_X0 cd_X0_number) rfl eX0_number rfl ⟨rfl, rfl⟩ ⟨Nat.le_of_ble_eq_true rfl, Nat.le_of_ble_eq_true rfl⟩ rfl rfl rfl [2] rfl rfl rfl (Nat.le_of_ble_eq_true rfl) (tdec DX4_goOver 51 rfl) rfl ?_
          obtain ⟨s16, y17, hF⟩ := o_bind hF
          refine g_callVvMS (q0 := 1) (W' := wSD d_0 sb_0 (SD_setwr (SD_setsn d0 ((SD_sn d0) + 1)) ((SD_wr d0) + 1)) ++ (wSB cB sb_0 sb_1 s16 ++ (wB cI cJ b_0 b_1 b_2 b_3 b_4 b_5 b_6 b_7 b_8 b_9 b_10 b_11 b_12 b_13 b_14 b0))) (S := [wSD d_0 sb_0 (SD_setwr (SD_setsn d0 ((SD_sn d0) + 1)) ((SD_wr d0) + 1)), wSB cB sb_0 sb_1 sb0, wB cI cJ b_0 b_1 b_2 b_3 b_4 b_5 b_6 b_7 b_8 b_9 b_10 b_11 b_12 b_13 b_14 b0]) (S0 := [wSB cB sb_0 sb_1 sb0]) (S1 := [wSB cB sb_0 sb_1 s16]) (S' := [wSD d_0 sb_0 (SD_setwr (SD_setsn d0 ((SD_sn d0) + 1)) ((SD_wr d0) + 1)), wSB cB sb_0 sb_1 s16, wB cI cJ b_0 b_1 b_2 b_3 b_4 b_5 b_6 b_7 b_8 b_9 b_10 b_11 b_12 b_13 b_14 b0]) C (c_X5_addWrite l D cB cI cJ cZ sb_0 sb_1 y17) rfl rfl (gIV ml_X4_74 im_X5_addWrite sl_X5_addWrite in_X5 cd_X5_addWrite) rfl eX5_addWrite rfl ⟨rfl, rfl⟩ ⟨Nat.le_of_ble_eq_true rfl, Nat.le_of_ble_eq_true rfl⟩ rfl rfl rfl [1] rfl rfl rfl rfl (gA_cons aSB gA_nil) rfl rfl (Nat.le_of_ble_eq_true rfl) (tdec DX4_goOver 52 rfl) rfl ?_
          have hr9 := o_some hF
          subst hr9
          exact g_vret C rfl (tdec DX4_goOver 53 rfl)
      · have hF := o_ifp hF h7
        refine g_aload_n (z := 1) C (tdec DX4_goOver 16 rfl) rfl rfl rfl ?_
        refine g_dup C (tdec DX4_goOver 17 rfl) rfl rfl ?_
        refine g_getf (C' := RX4) (T := TX4) (N := 5) (v := .int (SD_cl d0)) C 0 3 (gIn iw_X4) rfl rfl (by decide) (gMem fl_X4_19) rfl rfl (tdec DX4_goOver 18 rfl) rfl ?_
        refine g_iconst (v := 1) C (tdec DX4_goOver 19 rfl) (by decide) rfl ?_
        refine g_iadd C (tdec DX4_goOver 20 rfl) rfl ?_
        refine g_putf (C' := RX4) (T := TX4) (N := 5) (v := .int ((SD_cl d0) + 1)) (ws' := wSD d_0 sb_0 (SD_setcl d0 ((SD_cl d0) + 1)) ++ (wSB cB sb_0 sb_1 sb0 ++ (wB cI cJ b_0 b_1 b_2 b_3 b_4 b_5 b_6 b_7 b_8 b_9 b_10 b_11 b_12 b_13 b_14 b0))) C 0 3 tyX4 tyX4_ok nmX4 (gIn iw_X4) rfl rfl (by decide) (gMem fl_X4_19) rfl rfl (tyX4_ok 3 (by decide)) rfl rfl (Nat.le_of_ble_eq_true rfl) rfl (tdec DX4_goOver 21 rfl) rfl ?_
        refine g_aload_n (z := 1) C (tdec DX4_goOver 22 rfl) rfl rfl rfl ?_
        refine g_getf (C' := RX4) (T := TX4) (N := 5) (v := .ref sb_0) C 0 0 (gIn iw_X4) rfl rfl (by decide) (gMem fl_X4_9) rfl rfl (tdec DX4_goOver 23 rfl) rfl ?_
        refine g_iload (z := 5) C (tdec DX4_goOver 24 rfl) rfl rfl ?_
        refine g_iconst (v := 1) C (tdec DX4_goOver 25 rfl) (by decide) rfl ?_
        refine g_iconst (v := 3) C (tdec DX4_goOver 26 rfl) (by decide) rfl ?_
        refine g_iload_n (z := 4) C (tdec DX4_goOver 27 rfl) rfl rfl rfl ?_
        refine g_imul C (tdec DX4_goOver 28 rfl) rfl ?_
        refine g_ishl C (tdec DX4_goOver 29 rfl) rfl ?_
        obtain ⟨s18, y19, hF⟩ := o_bind hF
        refine g_callVvMS (q0 := 1) (W' := wSD d_0 sb_0 (SD_setcl d0 ((SD_cl d0) + 1)) ++ (wSB cB sb_0 sb_1 s18 ++ (wB cI cJ b_0 b_1 b_2 b_3 b_4 b_5 b_6 b_7 b_8 b_9 b_10 b_11 b_12 b_13 b_14 b0))) (S := [wSD d_0 sb_0 (SD_setcl d0 ((SD_cl d0) + 1)), wSB cB sb_0 sb_1 sb0, wB cI cJ b_0 b_1 b_2 b_3 b_4 b_5 b_6 b_7 b_8 b_9 b_10 b_11 b_12 b_13 b_14 b0]) (S0 := [wSB cB sb_0 sb_1 sb0]) (S1 := [wSB cB sb_0 sb_1 s18]) (S' := [wSD d_0 sb_0 (SD_setcl d0 ((SD_cl d0) + 1)), wSB cB sb_0 sb_1 s18, wB cI cJ b_0 b_1 b_2 b_3 b_4 b_5 b_6 b_7 b_8 b_9 b_10 b_11 b_12 b_13 b_14 b0]) C (c_X5_addClear l D cB cI cJ cZ sb_0 sb_1 y19) rfl rfl (gIV ml_X4_67 im_X5_addClear sl_X5_addClear in_X5 cd_X5_addClear) rfl eX5_addClear rfl ⟨rfl, rfl⟩ ⟨Nat.le_of_ble_eq_true rfl, Nat.le_of_ble_eq_true rfl⟩ rfl rfl rfl [1] rfl rfl rfl rfl (gA_cons aSB gA_nil) rfl rfl (Nat.le_of_ble_eq_true rfl) (tdec DX4_goOver 30 rfl) rfl ?_
        have hr9 := o_some hF
        subst hr9
        exact g_vret C rfl (tdec DX4_goOver 31 rfl)
    · have hF := o_ifn hF h4
      have hr9 := o_some hF
      subst hr9
      exact g_vret C rfl (tdec DX4_goOver 8 rfl)
def FX4_goOver_n3_L98 (b0 : BS) (v2 : Int32) (v3 : Int32) (v4 : Int32) (v5 : Int32) (k9 : SD → SB → Int32 → Option (SD × SB)) : Nat → SD → SB → Int32 → Option (SD × SB)
  | 0, _, _, _ => none
  | n9 + 1, d, sb, v6 =>
    if 8 ≤ v6 then
      k9 d sb v6
    else
      (FX4_goOver_n2 d sb b0 ((v5 * 8) + v6) (v3 - 1) (v4 + (v6 <<< ((3 * (v3 - 1)) &&& 31)))).bind fun (s10, s11) =>
      FX4_goOver_n3_L98 b0 v2 v3 v4 v5 k9 n9 s10 s11 (v6 + 1)
def FX4_goOver_n3 (d0 : SD) (sb0 : SB) (b0 : BS) (p2 : Int32) (p3 : Int32) (p4 : Int32) : Option (SD × SB) :=
  if p3 < 0 then
    some (d0, sb0)
  else
    (FX0_birth b0 p2).bind fun r2 =>
    if (SD_since d0) < r2 then
      (FX0_told b0 p2).bind fun r5 =>
      if r5 = (-1) then
        (FX5_addClear sb0 p4 (1 <<< ((3 * p3) &&& 31))).bind fun s18 =>
        some ((SD_setcl d0 ((SD_cl d0) + 1)), s18)
      else
        if p3 = 0 then
          (FX0_number b0 r5).bind fun r14 =>
          (FX5_addWrite sb0 p4 r14).bind fun s16 =>
          some ((SD_setwr (SD_setsn d0 ((SD_sn d0) + 1)) ((SD_wr d0) + 1)), s16)
        else
          FX4_goOver_n3_L98 b0 p2 p3 p4 r5 (fun dq13 sbq13 w6_13 =>
            some (dq13, sbq13)) 100000 (SD_setsn d0 ((SD_sn d0) + 1)) sb0 0
    else
      some (d0, sb0)
def rX4_goOver_n3 : Room := { frames := 6, cells := 0, slots := 0, locals := 148 }
set_option maxHeartbeats 4000000 in
set_option maxRecDepth 100000 in
theorem c_FX4_goOver_n3_L98 {p : Program} {l : Launch} {e : Env} {s : State} {m : MethodId} {args : Array Value} {below : List Frame} {meth : Method} {c : Code} {D : va_G} {cB cI cJ cZ : ClassId} {d_0 sb_0 sb_1 b_0 b_1 b_2 b_3 b_4 b_5 b_6 b_7 b_8 b_9 b_10 b_11 b_12 b_13 b_14 : Nat} {d0 : SD} {sb0 : SB} {b0 : BS} {res : SD × SB} (C : gC p s m args meth c cX4_goOver 7 RX4 wsX4_goOver D (gT cB cI cJ cZ) none (va_A (wSD d_0 sb_0 d0 ++ (wSB cB sb_0 sb_1 sb0 ++ (wB cI cJ b_0 b_1 b_2 b_3 b_4 b_5 b_6 b_7 b_8 b_9 b_10 b_11 b_12 b_13 b_14 b0))) s.heap.size)) {v2 : Int32} {v3 : Int32} {v4 : Int32} {v5 : Int32} {k9 : SD → SB → Int32 → Option (SD × SB)} (hk9 : ∀ (d : SD) (sb : SB) (v6 : Int32), k9 d sb v6 = some res → gG p l e (headSpec wsX4_goOver rX4_goOver_n3).room s m args below meth c 0 0 D (va_A (wSD d_0 sb_0 d0 ++ (wSB cB sb_0 sb_1 sb0 ++ (wB cI cJ b_0 b_1 b_2 b_3 b_4 b_5 b_6 b_7 b_8 b_9 b_10 b_11 b_12 b_13 b_14 b0))) s.heap.size) (va_A (wSD d_0 sb_0 d0 ++ (wSB cB sb_0 sb_1 sb0 ++ (wB cI cJ b_0 b_1 b_2 b_3 b_4 b_5 b_6 b_7 b_8 b_9 b_10 b_11 b_12 b_13 b_14 b0))) s.heap.size) 7 (MQ below (gQv D (wSD d_0 sb_0 d0 ++ (wSB cB sb_0 sb_1 sb0 ++ (wB cI cJ b_0 b_1 b_2 b_3 b_4 b_5 b_6 b_7 b_8 b_9 b_10 b_11 b_12 b_13 b_14 b0))) s.heap.size (wSD d_0 sb_0 res.1 ++ (wSB cB sb_0 sb_1 res.2 ++ (wB cI cJ b_0 b_1 b_2 b_3 b_4 b_5 b_6 b_7 b_8 b_9 b_10 b_11 b_12 b_13 b_14 b0)))) args s 0 0 (va_A (wSD d_0 sb_0 d0 ++ (wSB cB sb_0 sb_1 sb0 ++ (wB cI cJ b_0 b_1 b_2 b_3 b_4 b_5 b_6 b_7 b_8 b_9 b_10 b_11 b_12 b_13 b_14 b0))) s.heap.size)) (wSD d_0 sb_0 d ++ (wSB cB sb_0 sb_1 sb ++ (wB cI cJ b_0 b_1 b_2 b_3 b_4 b_5 b_6 b_7 b_8 b_9 b_10 b_11 b_12 b_13 b_14 b0))) 138 [(0, .ref d_0), (1, .ref b_0), (2, .int v2), (3, .int v3), (4, .int v4), (5, .int v5), (6, .int v6)] []) :
    ∀ (n9 : Nat) (d : SD) (sb : SB) (v6 : Int32), FX4_goOver_n3_L98 b0 v2 v3 v4 v5 k9 n9 d sb v6 = some res → gG p l e (headSpec wsX4_goOver rX4_goOver_n3).room s m args below meth c 0 0 D (va_A (wSD d_0 sb_0 d0 ++ (wSB cB sb_0 sb_1 sb0 ++ (wB cI cJ b_0 b_1 b_2 b_3 b_4 b_5 b_6 b_7 b_8 b_9 b_10 b_11 b_12 b_13 b_14 b0))) s.heap.size) (va_A (wSD d_0 sb_0 d0 ++ (wSB cB sb_0 sb_1 sb0 ++ (wB cI cJ b_0 b_1 b_2 b_3 b_4 b_5 b_6 b_7 b_8 b_9 b_10 b_11 b_12 b_13 b_14 b0))) s.heap.size) 7 (MQ below (gQv D (wSD d_0 sb_0 d0 ++ (wSB cB sb_0 sb_1 sb0 ++ (wB cI cJ b_0 b_1 b_2 b_3 b_4 b_5 b_6 b_7 b_8 b_9 b_10 b_11 b_12 b_13 b_14 b0))) s.heap.size (wSD d_0 sb_0 res.1 ++ (wSB cB sb_0 sb_1 res.2 ++ (wB cI cJ b_0 b_1 b_2 b_3 b_4 b_5 b_6 b_7 b_8 b_9 b_10 b_11 b_12 b_13 b_14 b0)))) args s 0 0 (va_A (wSD d_0 sb_0 d0 ++ (wSB cB sb_0 sb_1 sb0 ++ (wB cI cJ b_0 b_1 b_2 b_3 b_4 b_5 b_6 b_7 b_8 b_9 b_10 b_11 b_12 b_13 b_14 b0))) s.heap.size)) (wSD d_0 sb_0 d ++ (wSB cB sb_0 sb_1 sb ++ (wB cI cJ b_0 b_1 b_2 b_3 b_4 b_5 b_6 b_7 b_8 b_9 b_10 b_11 b_12 b_13 b_14 b0))) 98 [(0, .ref d_0), (1, .ref b_0), (2, .int v2), (3, .int v3), (4, .int v4), (5, .int v5), (6, .int v6)] [] := by
  intro n9
  induction n9 with
  | zero =>
    intro d sb v6 hF
    exact absurd hF (by simp [FX4_goOver_n3_L98])
  | succ n9 ih9 =>
    intro d sb v6 hF
    rw [FX4_goOver_n3_L98] at hF
    refine g_iload (z := 6) C (tdec DX4_goOver 56 rfl) rfl rfl ?_
    refine g_bipush (v := 8) C (tdec DX4_goOver 57 rfl) (by decide) rfl ?_
    refine g_icmp_ge (pt := 138) C (tdec DX4_goOver 58 rfl) (by decide) rfl (fun h9 => ?_) (fun h9 => ?_)
    · have hF := o_ifp hF h9
      refine g_sub (L' := [(0, .ref d_0), (1, .ref b_0), (2, .int v2), (3, .int v3), (4, .int v4), (5, .int v5), (6, .int v6)]) [0, 1, 2, 3, 4, 5, 6] rfl ?_
      exact hk9 _ _ _ hF
    · have hF := o_ifn hF h9
      refine g_aload_n (z := 0) C (tdec DX4_goOver 59 rfl) rfl rfl rfl ?_
      refine g_aload_n (z := 1) C (tdec DX4_goOver 60 rfl) rfl rfl rfl ?_
      refine g_iload (z := 5) C (tdec DX4_goOver 61 rfl) rfl rfl ?_
      refine g_bipush (v := 8) C (tdec DX4_goOver 62 rfl) (by decide) rfl ?_
      refine g_imul C (tdec DX4_goOver 63 rfl) rfl ?_
      refine g_iload (z := 6) C (tdec DX4_goOver 64 rfl) rfl rfl ?_
      refine g_iadd C (tdec DX4_goOver 65 rfl) rfl ?_
      refine g_iload_n (z := 3) C (tdec DX4_goOver 66 rfl) rfl rfl rfl ?_
      refine g_iconst (v := 1) C (tdec DX4_goOver 67 rfl) (by decide) rfl ?_
      refine g_isub C (tdec DX4_goOver 68 rfl) rfl ?_
      refine g_iload (z := 4) C (tdec DX4_goOver 69 rfl) rfl rfl ?_
      refine g_iload (z := 6) C (tdec DX4_goOver 70 rfl) rfl rfl ?_
      refine g_iconst (v := 3) C (tdec DX4_goOver 71 rfl) (by decide) rfl ?_
      refine g_iload_n (z := 3) C (tdec DX4_goOver 72 rfl) rfl rfl rfl ?_
      refine g_iconst (v := 1) C (tdec DX4_goOver 73 rfl) (by decide) rfl ?_
      refine g_isub C (tdec DX4_goOver 74 rfl) rfl ?_
      refine g_imul C (tdec DX4_goOver 75 rfl) rfl ?_
      refine g_ishl C (tdec DX4_goOver 76 rfl) rfl ?_
      refine g_iadd C (tdec DX4_goOver 77 rfl) rfl ?_
      obtain ⟨⟨s10, s11⟩, y12, hF⟩ := o_bind hF
      refine g_callSvMS (W' := wSD d_0 sb_0 s10 ++ (wSB cB sb_0 sb_1 s11 ++ (wB cI cJ b_0 b_1 b_2 b_3 b_4 b_5 b_6 b_7 b_8 b_9 b_10 b_11 b_12 b_13 b_14 b0))) (S := [wSD d_0 sb_0 d, wSB cB sb_0 sb_1 sb, wB cI cJ b_0 b_1 b_2 b_3 b_4 b_5 b_6 b_7 b_8 b_9 b_10 b_11 b_12 b_13 b_14 b0]) (S0 := [wSD d_0 sb_0 d, wSB cB sb_0 sb_1 sb, wB cI cJ b_0 b_1 b_2 b_3 b_4 b_5 b_6 b_7 b_8 b_9 b_10 b_11 b_12 b_13 b_14 b0]) (S1 := [wSD d_0 sb_0 s10, wSB cB sb_0 sb_1 s11, wB cI cJ b_0 b_1 b_2 b_3 b_4 b_5 b_6 b_7 b_8 b_9 b_10 b_11 b_12 b_13 b_14 b0]) (S' := [wSD d_0 sb_0 s10, wSB cB sb_0 sb_1 s11, wB cI cJ b_0 b_1 b_2 b_3 b_4 b_5 b_6 b_7 b_8 b_9 b_10 b_11 b_12 b_13 b_14 b0]) C (c_X4_goOver_n2 l D cB cI cJ cZ d_0 sb_0 sb_1 b_0 b_1 b_2 b_3 b_4 b_5 b_6 b_7 b_8 b_9 b_10 b_11 b_12 b_13 b_14 y12) (gIS ml_X4_52 st_X4_goOver in_X4 cd_X4_goOver) eX4_goOver rfl ⟨rfl, rfl⟩ ⟨Nat.le_of_ble_eq_true rfl, Nat.le_of_ble_eq_true rfl⟩ rfl rfl rfl [0, 1, 2] rfl rfl rfl rfl (gA_cons aSD (gA_cons aSB (gA_cons rfl gA_nil))) rfl rfl (Nat.le_of_ble_eq_true rfl) (tdec DX4_goOver 78 rfl) rfl ?_
      refine g_iinc (z := 6) (v := (v6 + 1)) (L' := [(6, .int (v6 + 1)), (0, .ref d_0), (1, .ref b_0), (2, .int v2), (3, .int v3), (4, .int v4), (5, .int v5)]) C (tdec DX4_goOver 79 rfl) rfl rfl (by decide) rfl rfl ?_
      refine g_goto (pt := 98) C (tdec DX4_goOver 80 rfl) (by decide) ?_
      refine g_sub (L' := [(0, .ref d_0), (1, .ref b_0), (2, .int v2), (3, .int v3), (4, .int v4), (5, .int v5), (6, .int (v6 + 1))]) [1, 2, 3, 4, 5, 6, 0] rfl ?_
      exact ih9 _ _ _ hF
set_option maxHeartbeats 4000000 in
set_option maxRecDepth 100000 in
theorem c_X4_goOver_n3 (l : Launch) (D : va_G) (cB cI cJ cZ : ClassId) (d_0 sb_0 sb_1 b_0 b_1 b_2 b_3 b_4 b_5 b_6 b_7 b_8 b_9 b_10 b_11 b_12 b_13 b_14 : Nat) {d0 : SD} {sb0 : SB} {b0 : BS} {p2 : Int32} {p3 : Int32} {p4 : Int32} {res : SD × SB} (hF : FX4_goOver_n3 d0 sb0 b0 p2 p3 p4 = some res) : gMv l yX4_goOver wsX4_goOver rX4_goOver_n3 D (gT cB cI cJ cZ) [.ref d_0, .ref b_0, .int p2, .int p3, .int p4] (wSD d_0 sb_0 d0 ++ (wSB cB sb_0 sb_1 sb0 ++ (wB cI cJ b_0 b_1 b_2 b_3 b_4 b_5 b_6 b_7 b_8 b_9 b_10 b_11 b_12 b_13 b_14 b0))) (wSD d_0 sb_0 res.1 ++ (wSB cB sb_0 sb_1 res.2 ++ (wB cI cJ b_0 b_1 b_2 b_3 b_4 b_5 b_6 b_7 b_8 b_9 b_10 b_11 b_12 b_13 b_14 b0))) := by
  refine g_enter (own := RX4) (free := (fun sz => va_A (wSD d_0 sb_0 d0 ++ (wSB cB sb_0 sb_1 sb0 ++ (wB cI cJ b_0 b_1 b_2 b_3 b_4 b_5 b_6 b_7 b_8 b_9 b_10 b_11 b_12 b_13 b_14 b0))) sz)) (Qc := (fun sz => gQv D (wSD d_0 sb_0 d0 ++ (wSB cB sb_0 sb_1 sb0 ++ (wB cI cJ b_0 b_1 b_2 b_3 b_4 b_5 b_6 b_7 b_8 b_9 b_10 b_11 b_12 b_13 b_14 b0))) sz (wSD d_0 sb_0 res.1 ++ (wSB cB sb_0 sb_1 res.2 ++ (wB cI cJ b_0 b_1 b_2 b_3 b_4 b_5 b_6 b_7 b_8 b_9 b_10 b_11 b_12 b_13 b_14 b0))))) (fun sz => va_A (wSD d_0 sb_0 d0 ++ (wSB cB sb_0 sb_1 sb0 ++ (wB cI cJ b_0 b_1 b_2 b_3 b_4 b_5 b_6 b_7 b_8 b_9 b_10 b_11 b_12 b_13 b_14 b0))) sz) (fun sz => Or.inr rfl) rfl (by decide) rfl (Nat.le_of_ble_eq_true rfl) rfl ?_
  intro p e s m args below meth c C
  unfold FX4_goOver_n3 at hF
  refine g_iload_n (z := 3) C (tdec DX4_goOver 0 rfl) rfl rfl rfl ?_
  refine g_if_lt (pt := 16) C (tdec DX4_goOver 1 rfl) (by decide) rfl (fun h1 => ?_) (fun h1 => ?_)
  · have hF := o_ifp hF h1
    have hr9 := o_some hF
    subst hr9
    exact g_vret C rfl (tdec DX4_goOver 8 rfl)
  · have hF := o_ifn hF h1
    refine g_aload_n (z := 1) C (tdec DX4_goOver 2 rfl) rfl rfl rfl ?_
    refine g_iload_n (z := 2) C (tdec DX4_goOver 3 rfl) rfl rfl rfl ?_
    obtain ⟨r2, y3, hF⟩ := o_bind hF
    refine g_callViRS (q0 := 3) (S := [wSD d_0 sb_0 d0, wSB cB sb_0 sb_1 sb0, wB cI cJ b_0 b_1 b_2 b_3 b_4 b_5 b_6 b_7 b_8 b_9 b_10 b_11 b_12 b_13 b_14 b0]) (S0 := [wB cI cJ b_0 b_1 b_2 b_3 b_4 b_5 b_6 b_7 b_8 b_9 b_10 b_11 b_12 b_13 b_14 b0]) C (c_X0_birth l D cB cI cJ cZ b_0 b_1 b_2 b_3 b_4 b_5 b_6 b_7 b_8 b_9 b_10 b_11 b_12 b_13 b_14 y3) rfl rfl (gIV ml_X4_59 im_X0_birth sl_X0_birth in_X0 cd_X0_birth) rfl eX0_birth rfl ⟨rfl, rfl⟩ ⟨Nat.le_of_ble_eq_true rfl, Nat.le_of_ble_eq_true rfl⟩ rfl rfl rfl [2] rfl rfl rfl (Nat.le_of_ble_eq_true rfl) (tdec DX4_goOver 4 rfl) rfl ?_
    refine g_aload_n (z := 0) C (tdec DX4_goOver 5 rfl) rfl rfl rfl ?_
    refine g_getf (C' := RX4) (T := TX4) (N := 5) (v := .int (SD_since d0)) C 0 1 (gIn iw_X4) rfl rfl (by decide) (gMem fl_X4_31) rfl rfl (tdec DX4_goOver 6 rfl) rfl ?_
    refine g_icmp_gt (pt := 17) C (tdec DX4_goOver 7 rfl) (by decide) rfl (fun h4 => ?_) (fun h4 => ?_)
    · have hF := o_ifp hF h4
      refine g_aload_n (z := 1) C (tdec DX4_goOver 9 rfl) rfl rfl rfl ?_
      refine g_iload_n (z := 2) C (tdec DX4_goOver 10 rfl) rfl rfl rfl ?_
      obtain ⟨r5, y6, hF⟩ := o_bind hF
      refine g_callViRS (q0 := 3) (S := [wSD d_0 sb_0 d0, wSB cB sb_0 sb_1 sb0, wB cI cJ b_0 b_1 b_2 b_3 b_4 b_5 b_6 b_7 b_8 b_9 b_10 b_11 b_12 b_13 b_14 b0]) (S0 := [wB cI cJ b_0 b_1 b_2 b_3 b_4 b_5 b_6 b_7 b_8 b_9 b_10 b_11 b_12 b_13 b_14 b0]) C (c_X0_told l D cB cI cJ cZ b_0 b_1 b_2 b_3 b_4 b_5 b_6 b_7 b_8 b_9 b_10 b_11 b_12 b_13 b_14 y6) rfl rfl (gIV ml_X4_64 im_X0_told sl_X0_told in_X0 cd_X0_told) rfl eX0_told rfl ⟨rfl, rfl⟩ ⟨Nat.le_of_ble_eq_true rfl, Nat.le_of_ble_eq_true rfl⟩ rfl rfl rfl [2] rfl rfl rfl (Nat.le_of_ble_eq_true rfl) (tdec DX4_goOver 11 rfl) rfl ?_
      refine g_istore (L' := [(5, .int r5), (0, .ref d_0), (1, .ref b_0), (2, .int p2), (3, .int p3), (4, .int p4)]) C (tdec DX4_goOver 12 rfl) (by decide) rfl rfl ?_
      refine g_iload (z := 0) C (tdec DX4_goOver 13 rfl) rfl rfl ?_
      refine g_iconst (v := (-1)) C (tdec DX4_goOver 14 rfl) (by decide) rfl ?_
      refine g_icmp_ne (pt := 55) C (tdec DX4_goOver 15 rfl) (by decide) rfl (fun h7 => ?_) (fun h7 => ?_)
      · have hF := o_ifn hF h7
        refine g_aload_n (z := 1) C (tdec DX4_goOver 32 rfl) rfl rfl rfl ?_
        refine g_dup C (tdec DX4_goOver 33 rfl) rfl rfl ?_
        refine g_getf (C' := RX4) (T := TX4) (N := 5) (v := .int (SD_sn d0)) C 0 4 (gIn iw_X4) rfl rfl (by decide) (gMem fl_X4_22) rfl rfl (tdec DX4_goOver 34 rfl) rfl ?_
        refine g_iconst (v := 1) C (tdec DX4_goOver 35 rfl) (by decide) rfl ?_
        refine g_iadd C (tdec DX4_goOver 36 rfl) rfl ?_
        refine g_putf (C' := RX4) (T := TX4) (N := 5) (v := .int ((SD_sn d0) + 1)) (ws' := wSD d_0 sb_0 (SD_setsn d0 ((SD_sn d0) + 1)) ++ (wSB cB sb_0 sb_1 sb0 ++ (wB cI cJ b_0 b_1 b_2 b_3 b_4 b_5 b_6 b_7 b_8 b_9 b_10 b_11 b_12 b_13 b_14 b0))) C 0 4 tyX4 tyX4_ok nmX4 (gIn iw_X4) rfl rfl (by decide) (gMem fl_X4_22) rfl rfl (tyX4_ok 4 (by decide)) rfl rfl (Nat.le_of_ble_eq_true rfl) rfl (tdec DX4_goOver 37 rfl) rfl ?_
        refine g_iload_n (z := 4) C (tdec DX4_goOver 38 rfl) rfl rfl rfl ?_
        refine g_if_ne (pt := 95) C (tdec DX4_goOver 39 rfl) (by decide) rfl (fun h8 => ?_) (fun h8 => ?_)
        · have hF := o_ifn hF h8
          refine g_iconst (v := 0) C (tdec DX4_goOver 54 rfl) (by decide) rfl ?_
          refine g_istore (L' := [(6, .int 0), (5, .int r5), (0, .ref d_0), (1, .ref b_0), (2, .int p2), (3, .int p3), (4, .int p4)]) C (tdec DX4_goOver 55 rfl) (by decide) rfl rfl ?_
          refine g_sub (L' := [(0, .ref d_0), (1, .ref b_0), (2, .int p2), (3, .int p3), (4, .int p4), (5, .int r5), (6, .int 0)]) [2, 3, 4, 5, 6, 1, 0] rfl ?_
          refine c_FX4_goOver_n3_L98 C (fun dq13 sbq13 w6_13 hF => ?_) 100000 _ _ _ hF
          have hr9 := o_some hF
          subst hr9
          exact g_vret C rfl (tdec DX4_goOver 81 rfl)
        · have hF := o_ifp hF h8
          refine g_aload_n (z := 1) C (tdec DX4_goOver 40 rfl) rfl rfl rfl ?_
          refine g_dup C (tdec DX4_goOver 41 rfl) rfl rfl ?_
          refine g_getf (C' := RX4) (T := TX4) (N := 5) (v := .int (SD_wr d0)) C 0 2 (gIn iw_X4) rfl rfl (by decide) (gMem fl_X4_15) rfl rfl (tdec DX4_goOver 42 rfl) rfl ?_
          refine g_iconst (v := 1) C (tdec DX4_goOver 43 rfl) (by decide) rfl ?_
          refine g_iadd C (tdec DX4_goOver 44 rfl) rfl ?_
          refine g_putf (C' := RX4) (T := TX4) (N := 5) (v := .int ((SD_wr d0) + 1)) (ws' := wSD d_0 sb_0 (SD_setwr (SD_setsn d0 ((SD_sn d0) + 1)) ((SD_wr d0) + 1)) ++ (wSB cB sb_0 sb_1 sb0 ++ (wB cI cJ b_0 b_1 b_2 b_3 b_4 b_5 b_6 b_7 b_8 b_9 b_10 b_11 b_12 b_13 b_14 b0))) C 0 2 tyX4 tyX4_ok nmX4 (gIn iw_X4) rfl rfl (by decide) (gMem fl_X4_15) rfl rfl (tyX4_ok 2 (by decide)) rfl rfl (Nat.le_of_ble_eq_true rfl) rfl (tdec DX4_goOver 45 rfl) rfl ?_
          refine g_aload_n (z := 1) C (tdec DX4_goOver 46 rfl) rfl rfl rfl ?_
          refine g_getf (C' := RX4) (T := TX4) (N := 5) (v := .ref sb_0) C 0 0 (gIn iw_X4) rfl rfl (by decide) (gMem fl_X4_9) rfl rfl (tdec DX4_goOver 47 rfl) rfl ?_
          refine g_iload (z := 5) C (tdec DX4_goOver 48 rfl) rfl rfl ?_
          refine g_aload_n (z := 2) C (tdec DX4_goOver 49 rfl) rfl rfl rfl ?_
          refine g_iload (z := 0) C (tdec DX4_goOver 50 rfl) rfl rfl ?_
          obtain ⟨r14, y15, hF⟩ := o_bind hF
          refine g_callVlRS (q0 := 3) (S := [wSD d_0 sb_0 (SD_setwr (SD_setsn d0 ((SD_sn d0) + 1)) ((SD_wr d0) + 1)), wSB cB sb_0 sb_1 sb0, wB cI cJ b_0 b_1 b_2 b_3 b_4 b_5 b_6 b_7 b_8 b_9 b_10 b_11 b_12 b_13 b_14 b0]) (S0 := [wB cI cJ b_0 b_1 b_2 b_3 b_4 b_5 b_6 b_7 b_8 b_9 b_10 b_11 b_12 b_13 b_14 b0]) C (c_X0_number l D cB cI cJ cZ b_0 b_1 b_2 b_3 b_4 b_5 b_6 b_7 b_8 b_9 b_10 b_11 b_12 b_13 b_14 y15) rfl rfl (gIV ml_X4_71 im_X0_number sl_X0_number in_X0 cd_X0_number) rfl eX0_number rfl ⟨rfl, rfl⟩ ⟨Nat.le_of_ble_eq_true rfl, Nat.le_of_ble_eq_true rfl⟩ rfl rfl rfl [2] rfl rfl rfl (Nat.le_of_ble_eq_true rfl) (tdec DX4_goOver 51 rfl) rfl ?_
          obtain ⟨s16, y17, hF⟩ := o_bind hF
          refine g_callVvMS (q0 := 1) (W' := wSD d_0 sb_0 (SD_setwr (SD_setsn d0 ((SD_sn d0) + 1)) ((SD_wr d0) + 1)) ++ (wSB cB sb_0 sb_1 s16 ++ (wB cI cJ b_0 b_1 b_2 b_3 b_4 b_5 b_6 b_7 b_8 b_9 b_10 b_11 b_12 b_13 b_14 b0))) (S := [wSD d_0 sb_0 (SD_setwr (SD_setsn d0 ((SD_sn d0) + 1)) ((SD_wr d0) + 1)), wSB cB sb_0 sb_1 sb0, wB cI cJ b_0 b_1 b_2 b_3 b_4 b_5 b_6 b_7 b_8 b_9 b_10 b_11 b_12 b_13 b_14 b0]) (S0 := [wSB cB sb_0 sb_1 sb0]) (S1 := [wSB cB sb_0 sb_1 s16]) (S' := [wSD d_0 sb_0 (SD_setwr (SD_setsn d0 ((SD_sn d0) + 1)) ((SD_wr d0) + 1)), wSB cB sb_0 sb_1 s16, wB cI cJ b_0 b_1 b_2 b_3 b_4 b_5 b_6 b_7 b_8 b_9 b_10 b_11 b_12 b_13 b_14 b0]) C (c_X5_addWrite l D cB cI cJ cZ sb_0 sb_1 y17) rfl rfl (gIV ml_X4_74 im_X5_addWrite sl_X5_addWrite in_X5 cd_X5_addWrite) rfl eX5_addWrite rfl ⟨rfl, rfl⟩ ⟨Nat.le_of_ble_eq_true rfl, Nat.le_of_ble_eq_true rfl⟩ rfl rfl rfl [1] rfl rfl rfl rfl (gA_cons aSB gA_nil) rfl rfl (Nat.le_of_ble_eq_true rfl) (tdec DX4_goOver 52 rfl) rfl ?_
          have hr9 := o_some hF
          subst hr9
          exact g_vret C rfl (tdec DX4_goOver 53 rfl)
      · have hF := o_ifp hF h7
        refine g_aload_n (z := 1) C (tdec DX4_goOver 16 rfl) rfl rfl rfl ?_
        refine g_dup C (tdec DX4_goOver 17 rfl) rfl rfl ?_
        refine g_getf (C' := RX4) (T := TX4) (N := 5) (v := .int (SD_cl d0)) C 0 3 (gIn iw_X4) rfl rfl (by decide) (gMem fl_X4_19) rfl rfl (tdec DX4_goOver 18 rfl) rfl ?_
        refine g_iconst (v := 1) C (tdec DX4_goOver 19 rfl) (by decide) rfl ?_
        refine g_iadd C (tdec DX4_goOver 20 rfl) rfl ?_
        refine g_putf (C' := RX4) (T := TX4) (N := 5) (v := .int ((SD_cl d0) + 1)) (ws' := wSD d_0 sb_0 (SD_setcl d0 ((SD_cl d0) + 1)) ++ (wSB cB sb_0 sb_1 sb0 ++ (wB cI cJ b_0 b_1 b_2 b_3 b_4 b_5 b_6 b_7 b_8 b_9 b_10 b_11 b_12 b_13 b_14 b0))) C 0 3 tyX4 tyX4_ok nmX4 (gIn iw_X4) rfl rfl (by decide) (gMem fl_X4_19) rfl rfl (tyX4_ok 3 (by decide)) rfl rfl (Nat.le_of_ble_eq_true rfl) rfl (tdec DX4_goOver 21 rfl) rfl ?_
        refine g_aload_n (z := 1) C (tdec DX4_goOver 22 rfl) rfl rfl rfl ?_
        refine g_getf (C' := RX4) (T := TX4) (N := 5) (v := .ref sb_0) C 0 0 (gIn iw_X4) rfl rfl (by decide) (gMem fl_X4_9) rfl rfl (tdec DX4_goOver 23 rfl) rfl ?_
        refine g_iload (z := 5) C (tdec DX4_goOver 24 rfl) rfl rfl ?_
        refine g_iconst (v := 1) C (tdec DX4_goOver 25 rfl) (by decide) rfl ?_
        refine g_iconst (v := 3) C (tdec DX4_goOver 26 rfl) (by decide) rfl ?_
        refine g_iload_n (z := 4) C (tdec DX4_goOver 27 rfl) rfl rfl rfl ?_
        refine g_imul C (tdec DX4_goOver 28 rfl) rfl ?_
        refine g_ishl C (tdec DX4_goOver 29 rfl) rfl ?_
        obtain ⟨s18, y19, hF⟩ := o_bind hF
        refine g_callVvMS (q0 := 1) (W' := wSD d_0 sb_0 (SD_setcl d0 ((SD_cl d0) + 1)) ++ (wSB cB sb_0 sb_1 s18 ++ (wB cI cJ b_0 b_1 b_2 b_3 b_4 b_5 b_6 b_7 b_8 b_9 b_10 b_11 b_12 b_13 b_14 b0))) (S := [wSD d_0 sb_0 (SD_setcl d0 ((SD_cl d0) + 1)), wSB cB sb_0 sb_1 sb0, wB cI cJ b_0 b_1 b_2 b_3 b_4 b_5 b_6 b_7 b_8 b_9 b_10 b_11 b_12 b_13 b_14 b0]) (S0 := [wSB cB sb_0 sb_1 sb0]) (S1 := [wSB cB sb_0 sb_1 s18]) (S' := [wSD d_0 sb_0 (SD_setcl d0 ((SD_cl d0) + 1)), wSB cB sb_0 sb_1 s18, wB cI cJ b_0 b_1 b_2 b_3 b_4 b_5 b_6 b_7 b_8 b_9 b_10 b_11 b_12 b_13 b_14 b0]) C (c_X5_addClear l D cB cI cJ cZ sb_0 sb_1 y19) rfl rfl (gIV ml_X4_67 im_X5_addClear sl_X5_addClear in_X5 cd_X5_addClear) rfl eX5_addClear rfl ⟨rfl, rfl⟩ ⟨Nat.le_of_ble_eq_true rfl, Nat.le_of_ble_eq_true rfl⟩ rfl rfl rfl [1] rfl rfl rfl rfl (gA_cons aSB gA_nil) rfl rfl (Nat.le_of_ble_eq_true rfl) (tdec DX4_goOver 30 rfl) rfl ?_
        have hr9 := o_some hF
        subst hr9
        exact g_vret C rfl (tdec DX4_goOver 31 rfl)
    · have hF := o_ifn hF h4
      have hr9 := o_some hF
      subst hr9
      exact g_vret C rfl (tdec DX4_goOver 8 rfl)
def FX4_goOver_n4_L98 (b0 : BS) (v2 : Int32) (v3 : Int32) (v4 : Int32) (v5 : Int32) (k9 : SD → SB → Int32 → Option (SD × SB)) : Nat → SD → SB → Int32 → Option (SD × SB)
  | 0, _, _, _ => none
  | n9 + 1, d, sb, v6 =>
    if 8 ≤ v6 then
      k9 d sb v6
    else
      (FX4_goOver_n3 d sb b0 ((v5 * 8) + v6) (v3 - 1) (v4 + (v6 <<< ((3 * (v3 - 1)) &&& 31)))).bind fun (s10, s11) =>
      FX4_goOver_n4_L98 b0 v2 v3 v4 v5 k9 n9 s10 s11 (v6 + 1)
def FX4_goOver_n4 (d0 : SD) (sb0 : SB) (b0 : BS) (p2 : Int32) (p3 : Int32) (p4 : Int32) : Option (SD × SB) :=
  if p3 < 0 then
    some (d0, sb0)
  else
    (FX0_birth b0 p2).bind fun r2 =>
    if (SD_since d0) < r2 then
      (FX0_told b0 p2).bind fun r5 =>
      if r5 = (-1) then
        (FX5_addClear sb0 p4 (1 <<< ((3 * p3) &&& 31))).bind fun s18 =>
        some ((SD_setcl d0 ((SD_cl d0) + 1)), s18)
      else
        if p3 = 0 then
          (FX0_number b0 r5).bind fun r14 =>
          (FX5_addWrite sb0 p4 r14).bind fun s16 =>
          some ((SD_setwr (SD_setsn d0 ((SD_sn d0) + 1)) ((SD_wr d0) + 1)), s16)
        else
          FX4_goOver_n4_L98 b0 p2 p3 p4 r5 (fun dq13 sbq13 w6_13 =>
            some (dq13, sbq13)) 100000 (SD_setsn d0 ((SD_sn d0) + 1)) sb0 0
    else
      some (d0, sb0)
def rX4_goOver_n4 : Room := { frames := 7, cells := 0, slots := 0, locals := 174 }
set_option maxHeartbeats 4000000 in
set_option maxRecDepth 100000 in
theorem c_FX4_goOver_n4_L98 {p : Program} {l : Launch} {e : Env} {s : State} {m : MethodId} {args : Array Value} {below : List Frame} {meth : Method} {c : Code} {D : va_G} {cB cI cJ cZ : ClassId} {d_0 sb_0 sb_1 b_0 b_1 b_2 b_3 b_4 b_5 b_6 b_7 b_8 b_9 b_10 b_11 b_12 b_13 b_14 : Nat} {d0 : SD} {sb0 : SB} {b0 : BS} {res : SD × SB} (C : gC p s m args meth c cX4_goOver 7 RX4 wsX4_goOver D (gT cB cI cJ cZ) none (va_A (wSD d_0 sb_0 d0 ++ (wSB cB sb_0 sb_1 sb0 ++ (wB cI cJ b_0 b_1 b_2 b_3 b_4 b_5 b_6 b_7 b_8 b_9 b_10 b_11 b_12 b_13 b_14 b0))) s.heap.size)) {v2 : Int32} {v3 : Int32} {v4 : Int32} {v5 : Int32} {k9 : SD → SB → Int32 → Option (SD × SB)} (hk9 : ∀ (d : SD) (sb : SB) (v6 : Int32), k9 d sb v6 = some res → gG p l e (headSpec wsX4_goOver rX4_goOver_n4).room s m args below meth c 0 0 D (va_A (wSD d_0 sb_0 d0 ++ (wSB cB sb_0 sb_1 sb0 ++ (wB cI cJ b_0 b_1 b_2 b_3 b_4 b_5 b_6 b_7 b_8 b_9 b_10 b_11 b_12 b_13 b_14 b0))) s.heap.size) (va_A (wSD d_0 sb_0 d0 ++ (wSB cB sb_0 sb_1 sb0 ++ (wB cI cJ b_0 b_1 b_2 b_3 b_4 b_5 b_6 b_7 b_8 b_9 b_10 b_11 b_12 b_13 b_14 b0))) s.heap.size) 7 (MQ below (gQv D (wSD d_0 sb_0 d0 ++ (wSB cB sb_0 sb_1 sb0 ++ (wB cI cJ b_0 b_1 b_2 b_3 b_4 b_5 b_6 b_7 b_8 b_9 b_10 b_11 b_12 b_13 b_14 b0))) s.heap.size (wSD d_0 sb_0 res.1 ++ (wSB cB sb_0 sb_1 res.2 ++ (wB cI cJ b_0 b_1 b_2 b_3 b_4 b_5 b_6 b_7 b_8 b_9 b_10 b_11 b_12 b_13 b_14 b0)))) args s 0 0 (va_A (wSD d_0 sb_0 d0 ++ (wSB cB sb_0 sb_1 sb0 ++ (wB cI cJ b_0 b_1 b_2 b_3 b_4 b_5 b_6 b_7 b_8 b_9 b_10 b_11 b_12 b_13 b_14 b0))) s.heap.size)) (wSD d_0 sb_0 d ++ (wSB cB sb_0 sb_1 sb ++ (wB cI cJ b_0 b_1 b_2 b_3 b_4 b_5 b_6 b_7 b_8 b_9 b_10 b_11 b_12 b_13 b_14 b0))) 138 [(0, .ref d_0), (1, .ref b_0), (2, .int v2), (3, .int v3), (4, .int v4), (5, .int v5), (6, .int v6)] []) :
    ∀ (n9 : Nat) (d : SD) (sb : SB) (v6 : Int32), FX4_goOver_n4_L98 b0 v2 v3 v4 v5 k9 n9 d sb v6 = some res → gG p l e (headSpec wsX4_goOver rX4_goOver_n4).room s m args below meth c 0 0 D (va_A (wSD d_0 sb_0 d0 ++ (wSB cB sb_0 sb_1 sb0 ++ (wB cI cJ b_0 b_1 b_2 b_3 b_4 b_5 b_6 b_7 b_8 b_9 b_10 b_11 b_12 b_13 b_14 b0))) s.heap.size) (va_A (wSD d_0 sb_0 d0 ++ (wSB cB sb_0 sb_1 sb0 ++ (wB cI cJ b_0 b_1 b_2 b_3 b_4 b_5 b_6 b_7 b_8 b_9 b_10 b_11 b_12 b_13 b_14 b0))) s.heap.size) 7 (MQ below (gQv D (wSD d_0 sb_0 d0 ++ (wSB cB sb_0 sb_1 sb0 ++ (wB cI cJ b_0 b_1 b_2 b_3 b_4 b_5 b_6 b_7 b_8 b_9 b_10 b_11 b_12 b_13 b_14 b0))) s.heap.size (wSD d_0 sb_0 res.1 ++ (wSB cB sb_0 sb_1 res.2 ++ (wB cI cJ b_0 b_1 b_2 b_3 b_4 b_5 b_6 b_7 b_8 b_9 b_10 b_11 b_12 b_13 b_14 b0)))) args s 0 0 (va_A (wSD d_0 sb_0 d0 ++ (wSB cB sb_0 sb_1 sb0 ++ (wB cI cJ b_0 b_1 b_2 b_3 b_4 b_5 b_6 b_7 b_8 b_9 b_10 b_11 b_12 b_13 b_14 b0))) s.heap.size)) (wSD d_0 sb_0 d ++ (wSB cB sb_0 sb_1 sb ++ (wB cI cJ b_0 b_1 b_2 b_3 b_4 b_5 b_6 b_7 b_8 b_9 b_10 b_11 b_12 b_13 b_14 b0))) 98 [(0, .ref d_0), (1, .ref b_0), (2, .int v2), (3, .int v3), (4, .int v4), (5, .int v5), (6, .int v6)] [] := by
  intro n9
  induction n9 with
  | zero =>
    intro d sb v6 hF
    exact absurd hF (by simp [FX4_goOver_n4_L98])
  | succ n9 ih9 =>
    intro d sb v6 hF
    rw [FX4_goOver_n4_L98] at hF
    refine g_iload (z := 6) C (tdec DX4_goOver 56 rfl) rfl rfl ?_
    refine g_bipush (v := 8) C (tdec DX4_goOver 57 rfl) (by decide) rfl ?_
    refine g_icmp_ge (pt := 138) C (tdec DX4_goOver 58 rfl) (by decide) rfl (fun h9 => ?_) (fun h9 => ?_)
    · have hF := o_ifp hF h9
      refine g_sub (L' := [(0, .ref d_0), (1, .ref b_0), (2, .int v2), (3, .int v3), (4, .int v4), (5, .int v5), (6, .int v6)]) [0, 1, 2, 3, 4, 5, 6] rfl ?_
      exact hk9 _ _ _ hF
    · have hF := o_ifn hF h9
      refine g_aload_n (z := 0) C (tdec DX4_goOver 59 rfl) rfl rfl rfl ?_
      refine g_aload_n (z := 1) C (tdec DX4_goOver 60 rfl) rfl rfl rfl ?_
      refine g_iload (z := 5) C (tdec DX4_goOver 61 rfl) rfl rfl ?_
      refine g_bipush (v := 8) C (tdec DX4_goOver 62 rfl) (by decide) rfl ?_
      refine g_imul C (tdec DX4_goOver 63 rfl) rfl ?_
      refine g_iload (z := 6) C (tdec DX4_goOver 64 rfl) rfl rfl ?_
      refine g_iadd C (tdec DX4_goOver 65 rfl) rfl ?_
      refine g_iload_n (z := 3) C (tdec DX4_goOver 66 rfl) rfl rfl rfl ?_
      refine g_iconst (v := 1) C (tdec DX4_goOver 67 rfl) (by decide) rfl ?_
      refine g_isub C (tdec DX4_goOver 68 rfl) rfl ?_
      refine g_iload (z := 4) C (tdec DX4_goOver 69 rfl) rfl rfl ?_
      refine g_iload (z := 6) C (tdec DX4_goOver 70 rfl) rfl rfl ?_
      refine g_iconst (v := 3) C (tdec DX4_goOver 71 rfl) (by decide) rfl ?_
      refine g_iload_n (z := 3) C (tdec DX4_goOver 72 rfl) rfl rfl rfl ?_
      refine g_iconst (v := 1) C (tdec DX4_goOver 73 rfl) (by decide) rfl ?_
      refine g_isub C (tdec DX4_goOver 74 rfl) rfl ?_
      refine g_imul C (tdec DX4_goOver 75 rfl) rfl ?_
      refine g_ishl C (tdec DX4_goOver 76 rfl) rfl ?_
      refine g_iadd C (tdec DX4_goOver 77 rfl) rfl ?_
      obtain ⟨⟨s10, s11⟩, y12, hF⟩ := o_bind hF
      refine g_callSvMS (W' := wSD d_0 sb_0 s10 ++ (wSB cB sb_0 sb_1 s11 ++ (wB cI cJ b_0 b_1 b_2 b_3 b_4 b_5 b_6 b_7 b_8 b_9 b_10 b_11 b_12 b_13 b_14 b0))) (S := [wSD d_0 sb_0 d, wSB cB sb_0 sb_1 sb, wB cI cJ b_0 b_1 b_2 b_3 b_4 b_5 b_6 b_7 b_8 b_9 b_10 b_11 b_12 b_13 b_14 b0]) (S0 := [wSD d_0 sb_0 d, wSB cB sb_0 sb_1 sb, wB cI cJ b_0 b_1 b_2 b_3 b_4 b_5 b_6 b_7 b_8 b_9 b_10 b_11 b_12 b_13 b_14 b0]) (S1 := [wSD d_0 sb_0 s10, wSB cB sb_0 sb_1 s11, wB cI cJ b_0 b_1 b_2 b_3 b_4 b_5 b_6 b_7 b_8 b_9 b_10 b_11 b_12 b_13 b_14 b0]) (S' := [wSD d_0 sb_0 s10, wSB cB sb_0 sb_1 s11, wB cI cJ b_0 b_1 b_2 b_3 b_4 b_5 b_6 b_7 b_8 b_9 b_10 b_11 b_12 b_13 b_14 b0]) C (c_X4_goOver_n3 l D cB cI cJ cZ d_0 sb_0 sb_1 b_0 b_1 b_2 b_3 b_4 b_5 b_6 b_7 b_8 b_9 b_10 b_11 b_12 b_13 b_14 y12) (gIS ml_X4_52 st_X4_goOver in_X4 cd_X4_goOver) eX4_goOver rfl ⟨rfl, rfl⟩ ⟨Nat.le_of_ble_eq_true rfl, Nat.le_of_ble_eq_true rfl⟩ rfl rfl rfl [0, 1, 2] rfl rfl rfl rfl (gA_cons aSD (gA_cons aSB (gA_cons rfl gA_nil))) rfl rfl (Nat.le_of_ble_eq_true rfl) (tdec DX4_goOver 78 rfl) rfl ?_
      refine g_iinc (z := 6) (v := (v6 + 1)) (L' := [(6, .int (v6 + 1)), (0, .ref d_0), (1, .ref b_0), (2, .int v2), (3, .int v3), (4, .int v4), (5, .int v5)]) C (tdec DX4_goOver 79 rfl) rfl rfl (by decide) rfl rfl ?_
      refine g_goto (pt := 98) C (tdec DX4_goOver 80 rfl) (by decide) ?_
      refine g_sub (L' := [(0, .ref d_0), (1, .ref b_0), (2, .int v2), (3, .int v3), (4, .int v4), (5, .int v5), (6, .int (v6 + 1))]) [1, 2, 3, 4, 5, 6, 0] rfl ?_
      exact ih9 _ _ _ hF
set_option maxHeartbeats 4000000 in
set_option maxRecDepth 100000 in
theorem c_X4_goOver_n4 (l : Launch) (D : va_G) (cB cI cJ cZ : ClassId) (d_0 sb_0 sb_1 b_0 b_1 b_2 b_3 b_4 b_5 b_6 b_7 b_8 b_9 b_10 b_11 b_12 b_13 b_14 : Nat) {d0 : SD} {sb0 : SB} {b0 : BS} {p2 : Int32} {p3 : Int32} {p4 : Int32} {res : SD × SB} (hF : FX4_goOver_n4 d0 sb0 b0 p2 p3 p4 = some res) : gMv l yX4_goOver wsX4_goOver rX4_goOver_n4 D (gT cB cI cJ cZ) [.ref d_0, .ref b_0, .int p2, .int p3, .int p4] (wSD d_0 sb_0 d0 ++ (wSB cB sb_0 sb_1 sb0 ++ (wB cI cJ b_0 b_1 b_2 b_3 b_4 b_5 b_6 b_7 b_8 b_9 b_10 b_11 b_12 b_13 b_14 b0))) (wSD d_0 sb_0 res.1 ++ (wSB cB sb_0 sb_1 res.2 ++ (wB cI cJ b_0 b_1 b_2 b_3 b_4 b_5 b_6 b_7 b_8 b_9 b_10 b_11 b_12 b_13 b_14 b0))) := by
  refine g_enter (own := RX4) (free := (fun sz => va_A (wSD d_0 sb_0 d0 ++ (wSB cB sb_0 sb_1 sb0 ++ (wB cI cJ b_0 b_1 b_2 b_3 b_4 b_5 b_6 b_7 b_8 b_9 b_10 b_11 b_12 b_13 b_14 b0))) sz)) (Qc := (fun sz => gQv D (wSD d_0 sb_0 d0 ++ (wSB cB sb_0 sb_1 sb0 ++ (wB cI cJ b_0 b_1 b_2 b_3 b_4 b_5 b_6 b_7 b_8 b_9 b_10 b_11 b_12 b_13 b_14 b0))) sz (wSD d_0 sb_0 res.1 ++ (wSB cB sb_0 sb_1 res.2 ++ (wB cI cJ b_0 b_1 b_2 b_3 b_4 b_5 b_6 b_7 b_8 b_9 b_10 b_11 b_12 b_13 b_14 b0))))) (fun sz => va_A (wSD d_0 sb_0 d0 ++ (wSB cB sb_0 sb_1 sb0 ++ (wB cI cJ b_0 b_1 b_2 b_3 b_4 b_5 b_6 b_7 b_8 b_9 b_10 b_11 b_12 b_13 b_14 b0))) sz) (fun sz => Or.inr rfl) rfl (by decide) rfl (Nat.le_of_ble_eq_true rfl) rfl ?_
  intro p e s m args below meth c C
  unfold FX4_goOver_n4 at hF
  refine g_iload_n (z := 3) C (tdec DX4_goOver 0 rfl) rfl rfl rfl ?_
  refine g_if_lt (pt := 16) C (tdec DX4_goOver 1 rfl) (by decide) rfl (fun h1 => ?_) (fun h1 => ?_)
  · have hF := o_ifp hF h1
    have hr9 := o_some hF
    subst hr9
    exact g_vret C rfl (tdec DX4_goOver 8 rfl)
  · have hF := o_ifn hF h1
    refine g_aload_n (z := 1) C (tdec DX4_goOver 2 rfl) rfl rfl rfl ?_
    refine g_iload_n (z := 2) C (tdec DX4_goOver 3 rfl) rfl rfl rfl ?_
    obtain ⟨r2, y3, hF⟩ := o_bind hF
    refine g_callViRS (q0 := 3) (S := [wSD d_0 sb_0 d0, wSB cB sb_0 sb_1 sb0, wB cI cJ b_0 b_1 b_2 b_3 b_4 b_5 b_6 b_7 b_8 b_9 b_10 b_11 b_12 b_13 b_14 b0]) (S0 := [wB cI cJ b_0 b_1 b_2 b_3 b_4 b_5 b_6 b_7 b_8 b_9 b_10 b_11 b_12 b_13 b_14 b0]) C (c_X0_birth l D cB cI cJ cZ b_0 b_1 b_2 b_3 b_4 b_5 b_6 b_7 b_8 b_9 b_10 b_11 b_12 b_13 b_14 y3) rfl rfl (gIV ml_X4_59 im_X0_birth sl_X0_birth in_X0 cd_X0_birth) rfl eX0_birth rfl ⟨rfl, rfl⟩ ⟨Nat.le_of_ble_eq_true rfl, Nat.le_of_ble_eq_true rfl⟩ rfl rfl rfl [2] rfl rfl rfl (Nat.le_of_ble_eq_true rfl) (tdec DX4_goOver 4 rfl) rfl ?_
    refine g_aload_n (z := 0) C (tdec DX4_goOver 5 rfl) rfl rfl rfl ?_
    refine g_getf (C' := RX4) (T := TX4) (N := 5) (v := .int (SD_since d0)) C 0 1 (gIn iw_X4) rfl rfl (by decide) (gMem fl_X4_31) rfl rfl (tdec DX4_goOver 6 rfl) rfl ?_
    refine g_icmp_gt (pt := 17) C (tdec DX4_goOver 7 rfl) (by decide) rfl (fun h4 => ?_) (fun h4 => ?_)
    · have hF := o_ifp hF h4
      refine g_aload_n (z := 1) C (tdec DX4_goOver 9 rfl) rfl rfl rfl ?_
      refine g_iload_n (z := 2) C (tdec DX4_goOver 10 rfl) rfl rfl rfl ?_
      obtain ⟨r5, y6, hF⟩ := o_bind hF
      refine g_callViRS (q0 := 3) (S := [wSD d_0 sb_0 d0, wSB cB sb_0 sb_1 sb0, wB cI cJ b_0 b_1 b_2 b_3 b_4 b_5 b_6 b_7 b_8 b_9 b_10 b_11 b_12 b_13 b_14 b0]) (S0 := [wB cI cJ b_0 b_1 b_2 b_3 b_4 b_5 b_6 b_7 b_8 b_9 b_10 b_11 b_12 b_13 b_14 b0]) C (c_X0_told l D cB cI cJ cZ b_0 b_1 b_2 b_3 b_4 b_5 b_6 b_7 b_8 b_9 b_10 b_11 b_12 b_13 b_14 y6) rfl rfl (gIV ml_X4_64 im_X0_told sl_X0_told in_X0 cd_X0_told) rfl eX0_told rfl ⟨rfl, rfl⟩ ⟨Nat.le_of_ble_eq_true rfl, Nat.le_of_ble_eq_true rfl⟩ rfl rfl rfl [2] rfl rfl rfl (Nat.le_of_ble_eq_true rfl) (tdec DX4_goOver 11 rfl) rfl ?_
      refine g_istore (L' := [(5, .int r5), (0, .ref d_0), (1, .ref b_0), (2, .int p2), (3, .int p3), (4, .int p4)]) C (tdec DX4_goOver 12 rfl) (by decide) rfl rfl ?_
      refine g_iload (z := 0) C (tdec DX4_goOver 13 rfl) rfl rfl ?_
      refine g_iconst (v := (-1)) C (tdec DX4_goOver 14 rfl) (by decide) rfl ?_
      refine g_icmp_ne (pt := 55) C (tdec DX4_goOver 15 rfl) (by decide) rfl (fun h7 => ?_) (fun h7 => ?_)
      · have hF := o_ifn hF h7
        refine g_aload_n (z := 1) C (tdec DX4_goOver 32 rfl) rfl rfl rfl ?_
        refine g_dup C (tdec DX4_goOver 33 rfl) rfl rfl ?_
        refine g_getf (C' := RX4) (T := TX4) (N := 5) (v := .int (SD_sn d0)) C 0 4 (gIn iw_X4) rfl rfl (by decide) (gMem fl_X4_22) rfl rfl (tdec DX4_goOver 34 rfl) rfl ?_
        refine g_iconst (v := 1) C (tdec DX4_goOver 35 rfl) (by decide) rfl ?_
        refine g_iadd C (tdec DX4_goOver 36 rfl) rfl ?_
        refine g_putf (C' := RX4) (T := TX4) (N := 5) (v := .int ((SD_sn d0) + 1)) (ws' := wSD d_0 sb_0 (SD_setsn d0 ((SD_sn d0) + 1)) ++ (wSB cB sb_0 sb_1 sb0 ++ (wB cI cJ b_0 b_1 b_2 b_3 b_4 b_5 b_6 b_7 b_8 b_9 b_10 b_11 b_12 b_13 b_14 b0))) C 0 4 tyX4 tyX4_ok nmX4 (gIn iw_X4) rfl rfl (by decide) (gMem fl_X4_22) rfl rfl (tyX4_ok 4 (by decide)) rfl rfl (Nat.le_of_ble_eq_true rfl) rfl (tdec DX4_goOver 37 rfl) rfl ?_
        refine g_iload_n (z := 4) C (tdec DX4_goOver 38 rfl) rfl rfl rfl ?_
        refine g_if_ne (pt := 95) C (tdec DX4_goOver 39 rfl) (by decide) rfl (fun h8 => ?_) (fun h8 => ?_)
        · have hF := o_ifn hF h8
          refine g_iconst (v := 0) C (tdec DX4_goOver 54 rfl) (by decide) rfl ?_
          refine g_istore (L' := [(6, .int 0), (5, .int r5), (0, .ref d_0), (1, .ref b_0), (2, .int p2), (3, .int p3), (4, .int p4)]) C (tdec DX4_goOver 55 rfl) (by decide) rfl rfl ?_
          refine g_sub (L' := [(0, .ref d_0), (1, .ref b_0), (2, .int p2), (3, .int p3), (4, .int p4), (5, .int r5), (6, .int 0)]) [2, 3, 4, 5, 6, 1, 0] rfl ?_
          refine c_FX4_goOver_n4_L98 C (fun dq13 sbq13 w6_13 hF => ?_) 100000 _ _ _ hF
          have hr9 := o_some hF
          subst hr9
          exact g_vret C rfl (tdec DX4_goOver 81 rfl)
        · have hF := o_ifp hF h8
          refine g_aload_n (z := 1) C (tdec DX4_goOver 40 rfl) rfl rfl rfl ?_
          refine g_dup C (tdec DX4_goOver 41 rfl) rfl rfl ?_
          refine g_getf (C' := RX4) (T := TX4) (N := 5) (v := .int (SD_wr d0)) C 0 2 (gIn iw_X4) rfl rfl (by decide) (gMem fl_X4_15) rfl rfl (tdec DX4_goOver 42 rfl) rfl ?_
          refine g_iconst (v := 1) C (tdec DX4_goOver 43 rfl) (by decide) rfl ?_
          refine g_iadd C (tdec DX4_goOver 44 rfl) rfl ?_
          refine g_putf (C' := RX4) (T := TX4) (N := 5) (v := .int ((SD_wr d0) + 1)) (ws' := wSD d_0 sb_0 (SD_setwr (SD_setsn d0 ((SD_sn d0) + 1)) ((SD_wr d0) + 1)) ++ (wSB cB sb_0 sb_1 sb0 ++ (wB cI cJ b_0 b_1 b_2 b_3 b_4 b_5 b_6 b_7 b_8 b_9 b_10 b_11 b_12 b_13 b_14 b0))) C 0 2 tyX4 tyX4_ok nmX4 (gIn iw_X4) rfl rfl (by decide) (gMem fl_X4_15) rfl rfl (tyX4_ok 2 (by decide)) rfl rfl (Nat.le_of_ble_eq_true rfl) rfl (tdec DX4_goOver 45 rfl) rfl ?_
          refine g_aload_n (z := 1) C (tdec DX4_goOver 46 rfl) rfl rfl rfl ?_
          refine g_getf (C' := RX4) (T := TX4) (N := 5) (v := .ref sb_0) C 0 0 (gIn iw_X4) rfl rfl (by decide) (gMem fl_X4_9) rfl rfl (tdec DX4_goOver 47 rfl) rfl ?_
          refine g_iload (z := 5) C (tdec DX4_goOver 48 rfl) rfl rfl ?_
          refine g_aload_n (z := 2) C (tdec DX4_goOver 49 rfl) rfl rfl rfl ?_
          refine g_iload (z := 0) C (tdec DX4_goOver 50 rfl) rfl rfl ?_
          obtain ⟨r14, y15, hF⟩ := o_bind hF
          refine g_callVlRS (q0 := 3) (S := [wSD d_0 sb_0 (SD_setwr (SD_setsn d0 ((SD_sn d0) + 1)) ((SD_wr d0) + 1)), wSB cB sb_0 sb_1 sb0, wB cI cJ b_0 b_1 b_2 b_3 b_4 b_5 b_6 b_7 b_8 b_9 b_10 b_11 b_12 b_13 b_14 b0]) (S0 := [wB cI cJ b_0 b_1 b_2 b_3 b_4 b_5 b_6 b_7 b_8 b_9 b_10 b_11 b_12 b_13 b_14 b0]) C (c_X0_number l D cB cI cJ cZ b_0 b_1 b_2 b_3 b_4 b_5 b_6 b_7 b_8 b_9 b_10 b_11 b_12 b_13 b_14 y15) rfl rfl (gIV ml_X4_71 im_X0_number sl_X0_number in_X0 cd_X0_number) rfl eX0_number rfl ⟨rfl, rfl⟩ ⟨Nat.le_of_ble_eq_true rfl, Nat.le_of_ble_eq_true rfl⟩ rfl rfl rfl [2] rfl rfl rfl (Nat.le_of_ble_eq_true rfl) (tdec DX4_goOver 51 rfl) rfl ?_
          obtain ⟨s16, y17, hF⟩ := o_bind hF
          refine g_callVvMS (q0 := 1) (W' := wSD d_0 sb_0 (SD_setwr (SD_setsn d0 ((SD_sn d0) + 1)) ((SD_wr d0) + 1)) ++ (wSB cB sb_0 sb_1 s16 ++ (wB cI cJ b_0 b_1 b_2 b_3 b_4 b_5 b_6 b_7 b_8 b_9 b_10 b_11 b_12 b_13 b_14 b0))) (S := [wSD d_0 sb_0 (SD_setwr (SD_setsn d0 ((SD_sn d0) + 1)) ((SD_wr d0) + 1)), wSB cB sb_0 sb_1 sb0, wB cI cJ b_0 b_1 b_2 b_3 b_4 b_5 b_6 b_7 b_8 b_9 b_10 b_11 b_12 b_13 b_14 b0]) (S0 := [wSB cB sb_0 sb_1 sb0]) (S1 := [wSB cB sb_0 sb_1 s16]) (S' := [wSD d_0 sb_0 (SD_setwr (SD_setsn d0 ((SD_sn d0) + 1)) ((SD_wr d0) + 1)), wSB cB sb_0 sb_1 s16, wB cI cJ b_0 b_1 b_2 b_3 b_4 b_5 b_6 b_7 b_8 b_9 b_10 b_11 b_12 b_13 b_14 b0]) C (c_X5_addWrite l D cB cI cJ cZ sb_0 sb_1 y17) rfl rfl (gIV ml_X4_74 im_X5_addWrite sl_X5_addWrite in_X5 cd_X5_addWrite) rfl eX5_addWrite rfl ⟨rfl, rfl⟩ ⟨Nat.le_of_ble_eq_true rfl, Nat.le_of_ble_eq_true rfl⟩ rfl rfl rfl [1] rfl rfl rfl rfl (gA_cons aSB gA_nil) rfl rfl (Nat.le_of_ble_eq_true rfl) (tdec DX4_goOver 52 rfl) rfl ?_
          have hr9 := o_some hF
          subst hr9
          exact g_vret C rfl (tdec DX4_goOver 53 rfl)
      · have hF := o_ifp hF h7
        refine g_aload_n (z := 1) C (tdec DX4_goOver 16 rfl) rfl rfl rfl ?_
        refine g_dup C (tdec DX4_goOver 17 rfl) rfl rfl ?_
        refine g_getf (C' := RX4) (T := TX4) (N := 5) (v := .int (SD_cl d0)) C 0 3 (gIn iw_X4) rfl rfl (by decide) (gMem fl_X4_19) rfl rfl (tdec DX4_goOver 18 rfl) rfl ?_
        refine g_iconst (v := 1) C (tdec DX4_goOver 19 rfl) (by decide) rfl ?_
        refine g_iadd C (tdec DX4_goOver 20 rfl) rfl ?_
        refine g_putf (C' := RX4) (T := TX4) (N := 5) (v := .int ((SD_cl d0) + 1)) (ws' := wSD d_0 sb_0 (SD_setcl d0 ((SD_cl d0) + 1)) ++ (wSB cB sb_0 sb_1 sb0 ++ (wB cI cJ b_0 b_1 b_2 b_3 b_4 b_5 b_6 b_7 b_8 b_9 b_10 b_11 b_12 b_13 b_14 b0))) C 0 3 tyX4 tyX4_ok nmX4 (gIn iw_X4) rfl rfl (by decide) (gMem fl_X4_19) rfl rfl (tyX4_ok 3 (by decide)) rfl rfl (Nat.le_of_ble_eq_true rfl) rfl (tdec DX4_goOver 21 rfl) rfl ?_
        refine g_aload_n (z := 1) C (tdec DX4_goOver 22 rfl) rfl rfl rfl ?_
        refine g_getf (C' := RX4) (T := TX4) (N := 5) (v := .ref sb_0) C 0 0 (gIn iw_X4) rfl rfl (by decide) (gMem fl_X4_9) rfl rfl (tdec DX4_goOver 23 rfl) rfl ?_
        refine g_iload (z := 5) C (tdec DX4_goOver 24 rfl) rfl rfl ?_
        refine g_iconst (v := 1) C (tdec DX4_goOver 25 rfl) (by decide) rfl ?_
        refine g_iconst (v := 3) C (tdec DX4_goOver 26 rfl) (by decide) rfl ?_
        refine g_iload_n (z := 4) C (tdec DX4_goOver 27 rfl) rfl rfl rfl ?_
        refine g_imul C (tdec DX4_goOver 28 rfl) rfl ?_
        refine g_ishl C (tdec DX4_goOver 29 rfl) rfl ?_
        obtain ⟨s18, y19, hF⟩ := o_bind hF
        refine g_callVvMS (q0 := 1) (W' := wSD d_0 sb_0 (SD_setcl d0 ((SD_cl d0) + 1)) ++ (wSB cB sb_0 sb_1 s18 ++ (wB cI cJ b_0 b_1 b_2 b_3 b_4 b_5 b_6 b_7 b_8 b_9 b_10 b_11 b_12 b_13 b_14 b0))) (S := [wSD d_0 sb_0 (SD_setcl d0 ((SD_cl d0) + 1)), wSB cB sb_0 sb_1 sb0, wB cI cJ b_0 b_1 b_2 b_3 b_4 b_5 b_6 b_7 b_8 b_9 b_10 b_11 b_12 b_13 b_14 b0]) (S0 := [wSB cB sb_0 sb_1 sb0]) (S1 := [wSB cB sb_0 sb_1 s18]) (S' := [wSD d_0 sb_0 (SD_setcl d0 ((SD_cl d0) + 1)), wSB cB sb_0 sb_1 s18, wB cI cJ b_0 b_1 b_2 b_3 b_4 b_5 b_6 b_7 b_8 b_9 b_10 b_11 b_12 b_13 b_14 b0]) C (c_X5_addClear l D cB cI cJ cZ sb_0 sb_1 y19) rfl rfl (gIV ml_X4_67 im_X5_addClear sl_X5_addClear in_X5 cd_X5_addClear) rfl eX5_addClear rfl ⟨rfl, rfl⟩ ⟨Nat.le_of_ble_eq_true rfl, Nat.le_of_ble_eq_true rfl⟩ rfl rfl rfl [1] rfl rfl rfl rfl (gA_cons aSB gA_nil) rfl rfl (Nat.le_of_ble_eq_true rfl) (tdec DX4_goOver 30 rfl) rfl ?_
        have hr9 := o_some hF
        subst hr9
        exact g_vret C rfl (tdec DX4_goOver 31 rfl)
    · have hF := o_ifn hF h4
      have hr9 := o_some hF
      subst hr9
      exact g_vret C rfl (tdec DX4_goOver 8 rfl)
def FX4_goOver_n5_L98 (b0 : BS) (v2 : Int32) (v3 : Int32) (v4 : Int32) (v5 : Int32) (k9 : SD → SB → Int32 → Option (SD × SB)) : Nat → SD → SB → Int32 → Option (SD × SB)
  | 0, _, _, _ => none
  | n9 + 1, d, sb, v6 =>
    if 8 ≤ v6 then
      k9 d sb v6
    else
      (FX4_goOver_n4 d sb b0 ((v5 * 8) + v6) (v3 - 1) (v4 + (v6 <<< ((3 * (v3 - 1)) &&& 31)))).bind fun (s10, s11) =>
      FX4_goOver_n5_L98 b0 v2 v3 v4 v5 k9 n9 s10 s11 (v6 + 1)
def FX4_goOver_n5 (d0 : SD) (sb0 : SB) (b0 : BS) (p2 : Int32) (p3 : Int32) (p4 : Int32) : Option (SD × SB) :=
  if p3 < 0 then
    some (d0, sb0)
  else
    (FX0_birth b0 p2).bind fun r2 =>
    if (SD_since d0) < r2 then
      (FX0_told b0 p2).bind fun r5 =>
      if r5 = (-1) then
        (FX5_addClear sb0 p4 (1 <<< ((3 * p3) &&& 31))).bind fun s18 =>
        some ((SD_setcl d0 ((SD_cl d0) + 1)), s18)
      else
        if p3 = 0 then
          (FX0_number b0 r5).bind fun r14 =>
          (FX5_addWrite sb0 p4 r14).bind fun s16 =>
          some ((SD_setwr (SD_setsn d0 ((SD_sn d0) + 1)) ((SD_wr d0) + 1)), s16)
        else
          FX4_goOver_n5_L98 b0 p2 p3 p4 r5 (fun dq13 sbq13 w6_13 =>
            some (dq13, sbq13)) 100000 (SD_setsn d0 ((SD_sn d0) + 1)) sb0 0
    else
      some (d0, sb0)
def rX4_goOver_n5 : Room := { frames := 8, cells := 0, slots := 0, locals := 200 }
set_option maxHeartbeats 4000000 in
set_option maxRecDepth 100000 in
theorem c_FX4_goOver_n5_L98 {p : Program} {l : Launch} {e : Env} {s : State} {m : MethodId} {args : Array Value} {below : List Frame} {meth : Method} {c : Code} {D : va_G} {cB cI cJ cZ : ClassId} {d_0 sb_0 sb_1 b_0 b_1 b_2 b_3 b_4 b_5 b_6 b_7 b_8 b_9 b_10 b_11 b_12 b_13 b_14 : Nat} {d0 : SD} {sb0 : SB} {b0 : BS} {res : SD × SB} (C : gC p s m args meth c cX4_goOver 7 RX4 wsX4_goOver D (gT cB cI cJ cZ) none (va_A (wSD d_0 sb_0 d0 ++ (wSB cB sb_0 sb_1 sb0 ++ (wB cI cJ b_0 b_1 b_2 b_3 b_4 b_5 b_6 b_7 b_8 b_9 b_10 b_11 b_12 b_13 b_14 b0))) s.heap.size)) {v2 : Int32} {v3 : Int32} {v4 : Int32} {v5 : Int32} {k9 : SD → SB → Int32 → Option (SD × SB)} (hk9 : ∀ (d : SD) (sb : SB) (v6 : Int32), k9 d sb v6 = some res → gG p l e (headSpec wsX4_goOver rX4_goOver_n5).room s m args below meth c 0 0 D (va_A (wSD d_0 sb_0 d0 ++ (wSB cB sb_0 sb_1 sb0 ++ (wB cI cJ b_0 b_1 b_2 b_3 b_4 b_5 b_6 b_7 b_8 b_9 b_10 b_11 b_12 b_13 b_14 b0))) s.heap.size) (va_A (wSD d_0 sb_0 d0 ++ (wSB cB sb_0 sb_1 sb0 ++ (wB cI cJ b_0 b_1 b_2 b_3 b_4 b_5 b_6 b_7 b_8 b_9 b_10 b_11 b_12 b_13 b_14 b0))) s.heap.size) 7 (MQ below (gQv D (wSD d_0 sb_0 d0 ++ (wSB cB sb_0 sb_1 sb0 ++ (wB cI cJ b_0 b_1 b_2 b_3 b_4 b_5 b_6 b_7 b_8 b_9 b_10 b_11 b_12 b_13 b_14 b0))) s.heap.size (wSD d_0 sb_0 res.1 ++ (wSB cB sb_0 sb_1 res.2 ++ (wB cI cJ b_0 b_1 b_2 b_3 b_4 b_5 b_6 b_7 b_8 b_9 b_10 b_11 b_12 b_13 b_14 b0)))) args s 0 0 (va_A (wSD d_0 sb_0 d0 ++ (wSB cB sb_0 sb_1 sb0 ++ (wB cI cJ b_0 b_1 b_2 b_3 b_4 b_5 b_6 b_7 b_8 b_9 b_10 b_11 b_12 b_13 b_14 b0))) s.heap.size)) (wSD d_0 sb_0 d ++ (wSB cB sb_0 sb_1 sb ++ (wB cI cJ b_0 b_1 b_2 b_3 b_4 b_5 b_6 b_7 b_8 b_9 b_10 b_11 b_12 b_13 b_14 b0))) 138 [(0, .ref d_0), (1, .ref b_0), (2, .int v2), (3, .int v3), (4, .int v4), (5, .int v5), (6, .int v6)] []) :
    ∀ (n9 : Nat) (d : SD) (sb : SB) (v6 : Int32), FX4_goOver_n5_L98 b0 v2 v3 v4 v5 k9 n9 d sb v6 = some res → gG p l e (headSpec wsX4_goOver rX4_goOver_n5).room s m args below meth c 0 0 D (va_A (wSD d_0 sb_0 d0 ++ (wSB cB sb_0 sb_1 sb0 ++ (wB cI cJ b_0 b_1 b_2 b_3 b_4 b_5 b_6 b_7 b_8 b_9 b_10 b_11 b_12 b_13 b_14 b0))) s.heap.size) (va_A (wSD d_0 sb_0 d0 ++ (wSB cB sb_0 sb_1 sb0 ++ (wB cI cJ b_0 b_1 b_2 b_3 b_4 b_5 b_6 b_7 b_8 b_9 b_10 b_11 b_12 b_13 b_14 b0))) s.heap.size) 7 (MQ below (gQv D (wSD d_0 sb_0 d0 ++ (wSB cB sb_0 sb_1 sb0 ++ (wB cI cJ b_0 b_1 b_2 b_3 b_4 b_5 b_6 b_7 b_8 b_9 b_10 b_11 b_12 b_13 b_14 b0))) s.heap.size (wSD d_0 sb_0 res.1 ++ (wSB cB sb_0 sb_1 res.2 ++ (wB cI cJ b_0 b_1 b_2 b_3 b_4 b_5 b_6 b_7 b_8 b_9 b_10 b_11 b_12 b_13 b_14 b0)))) args s 0 0 (va_A (wSD d_0 sb_0 d0 ++ (wSB cB sb_0 sb_1 sb0 ++ (wB cI cJ b_0 b_1 b_2 b_3 b_4 b_5 b_6 b_7 b_8 b_9 b_10 b_11 b_12 b_13 b_14 b0))) s.heap.size)) (wSD d_0 sb_0 d ++ (wSB cB sb_0 sb_1 sb ++ (wB cI cJ b_0 b_1 b_2 b_3 b_4 b_5 b_6 b_7 b_8 b_9 b_10 b_11 b_12 b_13 b_14 b0))) 98 [(0, .ref d_0), (1, .ref b_0), (2, .int v2), (3, .int v3), (4, .int v4), (5, .int v5), (6, .int v6)] [] := by
  intro n9
  induction n9 with
  | zero =>
    intro d sb v6 hF
    exact absurd hF (by simp [FX4_goOver_n5_L98])
  | succ n9 ih9 =>
    intro d sb v6 hF
    rw [FX4_goOver_n5_L98] at hF
    refine g_iload (z := 6) C (tdec DX4_goOver 56 rfl) rfl rfl ?_
    refine g_bipush (v := 8) C (tdec DX4_goOver 57 rfl) (by decide) rfl ?_
    refine g_icmp_ge (pt := 138) C (tdec DX4_goOver 58 rfl) (by decide) rfl (fun h9 => ?_) (fun h9 => ?_)
    · have hF := o_ifp hF h9
      refine g_sub (L' := [(0, .ref d_0), (1, .ref b_0), (2, .int v2), (3, .int v3), (4, .int v4), (5, .int v5), (6, .int v6)]) [0, 1, 2, 3, 4, 5, 6] rfl ?_
      exact hk9 _ _ _ hF
    · have hF := o_ifn hF h9
      refine g_aload_n (z := 0) C (tdec DX4_goOver 59 rfl) rfl rfl rfl ?_
      refine g_aload_n (z := 1) C (tdec DX4_goOver 60 rfl) rfl rfl rfl ?_
      refine g_iload (z := 5) C (tdec DX4_goOver 61 rfl) rfl rfl ?_
      refine g_bipush (v := 8) C (tdec DX4_goOver 62 rfl) (by decide) rfl ?_
      refine g_imul C (tdec DX4_goOver 63 rfl) rfl ?_
      refine g_iload (z := 6) C (tdec DX4_goOver 64 rfl) rfl rfl ?_
      refine g_iadd C (tdec DX4_goOver 65 rfl) rfl ?_
      refine g_iload_n (z := 3) C (tdec DX4_goOver 66 rfl) rfl rfl rfl ?_
      refine g_iconst (v := 1) C (tdec DX4_goOver 67 rfl) (by decide) rfl ?_
      refine g_isub C (tdec DX4_goOver 68 rfl) rfl ?_
      refine g_iload (z := 4) C (tdec DX4_goOver 69 rfl) rfl rfl ?_
      refine g_iload (z := 6) C (tdec DX4_goOver 70 rfl) rfl rfl ?_
      refine g_iconst (v := 3) C (tdec DX4_goOver 71 rfl) (by decide) rfl ?_
      refine g_iload_n (z := 3) C (tdec DX4_goOver 72 rfl) rfl rfl rfl ?_
      refine g_iconst (v := 1) C (tdec DX4_goOver 73 rfl) (by decide) rfl ?_
      refine g_isub C (tdec DX4_goOver 74 rfl) rfl ?_
      refine g_imul C (tdec DX4_goOver 75 rfl) rfl ?_
      refine g_ishl C (tdec DX4_goOver 76 rfl) rfl ?_
      refine g_iadd C (tdec DX4_goOver 77 rfl) rfl ?_
      obtain ⟨⟨s10, s11⟩, y12, hF⟩ := o_bind hF
      refine g_callSvMS (W' := wSD d_0 sb_0 s10 ++ (wSB cB sb_0 sb_1 s11 ++ (wB cI cJ b_0 b_1 b_2 b_3 b_4 b_5 b_6 b_7 b_8 b_9 b_10 b_11 b_12 b_13 b_14 b0))) (S := [wSD d_0 sb_0 d, wSB cB sb_0 sb_1 sb, wB cI cJ b_0 b_1 b_2 b_3 b_4 b_5 b_6 b_7 b_8 b_9 b_10 b_11 b_12 b_13 b_14 b0]) (S0 := [wSD d_0 sb_0 d, wSB cB sb_0 sb_1 sb, wB cI cJ b_0 b_1 b_2 b_3 b_4 b_5 b_6 b_7 b_8 b_9 b_10 b_11 b_12 b_13 b_14 b0]) (S1 := [wSD d_0 sb_0 s10, wSB cB sb_0 sb_1 s11, wB cI cJ b_0 b_1 b_2 b_3 b_4 b_5 b_6 b_7 b_8 b_9 b_10 b_11 b_12 b_13 b_14 b0]) (S' := [wSD d_0 sb_0 s10, wSB cB sb_0 sb_1 s11, wB cI cJ b_0 b_1 b_2 b_3 b_4 b_5 b_6 b_7 b_8 b_9 b_10 b_11 b_12 b_13 b_14 b0]) C (c_X4_goOver_n4 l D cB cI cJ cZ d_0 sb_0 sb_1 b_0 b_1 b_2 b_3 b_4 b_5 b_6 b_7 b_8 b_9 b_10 b_11 b_12 b_13 b_14 y12) (gIS ml_X4_52 st_X4_goOver in_X4 cd_X4_goOver) eX4_goOver rfl ⟨rfl, rfl⟩ ⟨Nat.le_of_ble_eq_true rfl, Nat.le_of_ble_eq_true rfl⟩ rfl rfl rfl [0, 1, 2] rfl rfl rfl rfl (gA_cons aSD (gA_cons aSB (gA_cons rfl gA_nil))) rfl rfl (Nat.le_of_ble_eq_true rfl) (tdec DX4_goOver 78 rfl) rfl ?_
      refine g_iinc (z := 6) (v := (v6 + 1)) (L' := [(6, .int (v6 + 1)), (0, .ref d_0), (1, .ref b_0), (2, .int v2), (3, .int v3), (4, .int v4), (5, .int v5)]) C (tdec DX4_goOver 79 rfl) rfl rfl (by decide) rfl rfl ?_
      refine g_goto (pt := 98) C (tdec DX4_goOver 80 rfl) (by decide) ?_
      refine g_sub (L' := [(0, .ref d_0), (1, .ref b_0), (2, .int v2), (3, .int v3), (4, .int v4), (5, .int v5), (6, .int (v6 + 1))]) [1, 2, 3, 4, 5, 6, 0] rfl ?_
      exact ih9 _ _ _ hF
set_option maxHeartbeats 4000000 in
set_option maxRecDepth 100000 in
theorem c_X4_goOver_n5 (l : Launch) (D : va_G) (cB cI cJ cZ : ClassId) (d_0 sb_0 sb_1 b_0 b_1 b_2 b_3 b_4 b_5 b_6 b_7 b_8 b_9 b_10 b_11 b_12 b_13 b_14 : Nat) {d0 : SD} {sb0 : SB} {b0 : BS} {p2 : Int32} {p3 : Int32} {p4 : Int32} {res : SD × SB} (hF : FX4_goOver_n5 d0 sb0 b0 p2 p3 p4 = some res) : gMv l yX4_goOver wsX4_goOver rX4_goOver_n5 D (gT cB cI cJ cZ) [.ref d_0, .ref b_0, .int p2, .int p3, .int p4] (wSD d_0 sb_0 d0 ++ (wSB cB sb_0 sb_1 sb0 ++ (wB cI cJ b_0 b_1 b_2 b_3 b_4 b_5 b_6 b_7 b_8 b_9 b_10 b_11 b_12 b_13 b_14 b0))) (wSD d_0 sb_0 res.1 ++ (wSB cB sb_0 sb_1 res.2 ++ (wB cI cJ b_0 b_1 b_2 b_3 b_4 b_5 b_6 b_7 b_8 b_9 b_10 b_11 b_12 b_13 b_14 b0))) := by
  refine g_enter (own := RX4) (free := (fun sz => va_A (wSD d_0 sb_0 d0 ++ (wSB cB sb_0 sb_1 sb0 ++ (wB cI cJ b_0 b_1 b_2 b_3 b_4 b_5 b_6 b_7 b_8 b_9 b_10 b_11 b_12 b_13 b_14 b0))) sz)) (Qc := (fun sz => gQv D (wSD d_0 sb_0 d0 ++ (wSB cB sb_0 sb_1 sb0 ++ (wB cI cJ b_0 b_1 b_2 b_3 b_4 b_5 b_6 b_7 b_8 b_9 b_10 b_11 b_12 b_13 b_14 b0))) sz (wSD d_0 sb_0 res.1 ++ (wSB cB sb_0 sb_1 res.2 ++ (wB cI cJ b_0 b_1 b_2 b_3 b_4 b_5 b_6 b_7 b_8 b_9 b_10 b_11 b_12 b_13 b_14 b0))))) (fun sz => va_A (wSD d_0 sb_0 d0 ++ (wSB cB sb_0 sb_1 sb0 ++ (wB cI cJ b_0 b_1 b_2 b_3 b_4 b_5 b_6 b_7 b_8 b_9 b_10 b_11 b_12 b_13 b_14 b0))) sz) (fun sz => Or.inr rfl) rfl (by decide) rfl (Nat.le_of_ble_eq_true rfl) rfl ?_
  intro p e s m args below meth c C
  unfold FX4_goOver_n5 at hF
  refine g_iload_n (z := 3) C (tdec DX4_goOver 0 rfl) rfl rfl rfl ?_
  refine g_if_lt (pt := 16) C (tdec DX4_goOver 1 rfl) (by decide) rfl (fun h1 => ?_) (fun h1 => ?_)
  · have hF := o_ifp hF h1
    have hr9 := o_some hF
    subst hr9
    exact g_vret C rfl (tdec DX4_goOver 8 rfl)
  · have hF := o_ifn hF h1
    refine g_aload_n (z := 1) C (tdec DX4_goOver 2 rfl) rfl rfl rfl ?_
    refine g_iload_n (z := 2) C (tdec DX4_goOver 3 rfl) rfl rfl rfl ?_
    obtain ⟨r2, y3, hF⟩ := o_bind hF
    refine g_callViRS (q0 := 3) (S := [wSD d_0 sb_0 d0, wSB cB sb_0 sb_1 sb0, wB cI cJ b_0 b_1 b_2 b_3 b_4 b_5 b_6 b_7 b_8 b_9 b_10 b_11 b_12 b_13 b_14 b0]) (S0 := [wB cI cJ b_0 b_1 b_2 b_3 b_4 b_5 b_6 b_7 b_8 b_9 b_10 b_11 b_12 b_13 b_14 b0]) C (c_X0_birth l D cB cI cJ cZ b_0 b_1 b_2 b_3 b_4 b_5 b_6 b_7 b_8 b_9 b_10 b_11 b_12 b_13 b_14 y3) rfl rfl (gIV ml_X4_59 im_X0_birth sl_X0_birth in_X0 cd_X0_birth) rfl eX0_birth rfl ⟨rfl, rfl⟩ ⟨Nat.le_of_ble_eq_true rfl, Nat.le_of_ble_eq_true rfl⟩ rfl rfl rfl [2] rfl rfl rfl (Nat.le_of_ble_eq_true rfl) (tdec DX4_goOver 4 rfl) rfl ?_
    refine g_aload_n (z := 0) C (tdec DX4_goOver 5 rfl) rfl rfl rfl ?_
    refine g_getf (C' := RX4) (T := TX4) (N := 5) (v := .int (SD_since d0)) C 0 1 (gIn iw_X4) rfl rfl (by decide) (gMem fl_X4_31) rfl rfl (tdec DX4_goOver 6 rfl) rfl ?_
    refine g_icmp_gt (pt := 17) C (tdec DX4_goOver 7 rfl) (by decide) rfl (fun h4 => ?_) (fun h4 => ?_)
    · have hF := o_ifp hF h4
      refine g_aload_n (z := 1) C (tdec DX4_goOver 9 rfl) rfl rfl rfl ?_
      refine g_iload_n (z := 2) C (tdec DX4_goOver 10 rfl) rfl rfl rfl ?_
      obtain ⟨r5, y6, hF⟩ := o_bind hF
      refine g_callViRS (q0 := 3) (S := [wSD d_0 sb_0 d0, wSB cB sb_0 sb_1 sb0, wB cI cJ b_0 b_1 b_2 b_3 b_4 b_5 b_6 b_7 b_8 b_9 b_10 b_11 b_12 b_13 b_14 b0]) (S0 := [wB cI cJ b_0 b_1 b_2 b_3 b_4 b_5 b_6 b_7 b_8 b_9 b_10 b_11 b_12 b_13 b_14 b0]) C (c_X0_told l D cB cI cJ cZ b_0 b_1 b_2 b_3 b_4 b_5 b_6 b_7 b_8 b_9 b_10 b_11 b_12 b_13 b_14 y6) rfl rfl (gIV ml_X4_64 im_X0_told sl_X0_told in_X0 cd_X0_told) rfl eX0_told rfl ⟨rfl, rfl⟩ ⟨Nat.le_of_ble_eq_true rfl, Nat.le_of_ble_eq_true rfl⟩ rfl rfl rfl [2] rfl rfl rfl (Nat.le_of_ble_eq_true rfl) (tdec DX4_goOver 11 rfl) rfl ?_
      refine g_istore (L' := [(5, .int r5), (0, .ref d_0), (1, .ref b_0), (2, .int p2), (3, .int p3), (4, .int p4)]) C (tdec DX4_goOver 12 rfl) (by decide) rfl rfl ?_
      refine g_iload (z := 0) C (tdec DX4_goOver 13 rfl) rfl rfl ?_
      refine g_iconst (v := (-1)) C (tdec DX4_goOver 14 rfl) (by decide) rfl ?_
      refine g_icmp_ne (pt := 55) C (tdec DX4_goOver 15 rfl) (by decide) rfl (fun h7 => ?_) (fun h7 => ?_)
      · have hF := o_ifn hF h7
        refine g_aload_n (z := 1) C (tdec DX4_goOver 32 rfl) rfl rfl rfl ?_
        refine g_dup C (tdec DX4_goOver 33 rfl) rfl rfl ?_
        refine g_getf (C' := RX4) (T := TX4) (N := 5) (v := .int (SD_sn d0)) C 0 4 (gIn iw_X4) rfl rfl (by decide) (gMem fl_X4_22) rfl rfl (tdec DX4_goOver 34 rfl) rfl ?_
        refine g_iconst (v := 1) C (tdec DX4_goOver 35 rfl) (by decide) rfl ?_
        refine g_iadd C (tdec DX4_goOver 36 rfl) rfl ?_
        refine g_putf (C' := RX4) (T := TX4) (N := 5) (v := .int ((SD_sn d0) + 1)) (ws' := wSD d_0 sb_0 (SD_setsn d0 ((SD_sn d0) + 1)) ++ (wSB cB sb_0 sb_1 sb0 ++ (wB cI cJ b_0 b_1 b_2 b_3 b_4 b_5 b_6 b_7 b_8 b_9 b_10 b_11 b_12 b_13 b_14 b0))) C 0 4 tyX4 tyX4_ok nmX4 (gIn iw_X4) rfl rfl (by decide) (gMem fl_X4_22) rfl rfl (tyX4_ok 4 (by decide)) rfl rfl (Nat.le_of_ble_eq_true rfl) rfl (tdec DX4_goOver 37 rfl) rfl ?_
        refine g_iload_n (z := 4) C (tdec DX4_goOver 38 rfl) rfl rfl rfl ?_
        refine g_if_ne (pt := 95) C (tdec DX4_goOver 39 rfl) (by decide) rfl (fun h8 => ?_) (fun h8 => ?_)
        · have hF := o_ifn hF h8
          refine g_iconst (v := 0) C (tdec DX4_goOver 54 rfl) (by decide) rfl ?_
          refine g_istore (L' := [(6, .int 0), (5, .int r5), (0, .ref d_0), (1, .ref b_0), (2, .int p2), (3, .int p3), (4, .int p4)]) C (tdec DX4_goOver 55 rfl) (by decide) rfl rfl ?_
          refine g_sub (L' := [(0, .ref d_0), (1, .ref b_0), (2, .int p2), (3, .int p3), (4, .int p4), (5, .int r5), (6, .int 0)]) [2, 3, 4, 5, 6, 1, 0] rfl ?_
          refine c_FX4_goOver_n5_L98 C (fun dq13 sbq13 w6_13 hF => ?_) 100000 _ _ _ hF
          have hr9 := o_some hF
          subst hr9
          exact g_vret C rfl (tdec DX4_goOver 81 rfl)
        · have hF := o_ifp hF h8
          refine g_aload_n (z := 1) C (tdec DX4_goOver 40 rfl) rfl rfl rfl ?_
          refine g_dup C (tdec DX4_goOver 41 rfl) rfl rfl ?_
          refine g_getf (C' := RX4) (T := TX4) (N := 5) (v := .int (SD_wr d0)) C 0 2 (gIn iw_X4) rfl rfl (by decide) (gMem fl_X4_15) rfl rfl (tdec DX4_goOver 42 rfl) rfl ?_
          refine g_iconst (v := 1) C (tdec DX4_goOver 43 rfl) (by decide) rfl ?_
          refine g_iadd C (tdec DX4_goOver 44 rfl) rfl ?_
          refine g_putf (C' := RX4) (T := TX4) (N := 5) (v := .int ((SD_wr d0) + 1)) (ws' := wSD d_0 sb_0 (SD_setwr (SD_setsn d0 ((SD_sn d0) + 1)) ((SD_wr d0) + 1)) ++ (wSB cB sb_0 sb_1 sb0 ++ (wB cI cJ b_0 b_1 b_2 b_3 b_4 b_5 b_6 b_7 b_8 b_9 b_10 b_11 b_12 b_13 b_14 b0))) C 0 2 tyX4 tyX4_ok nmX4 (gIn iw_X4) rfl rfl (by decide) (gMem fl_X4_15) rfl rfl (tyX4_ok 2 (by decide)) rfl rfl (Nat.le_of_ble_eq_true rfl) rfl (tdec DX4_goOver 45 rfl) rfl ?_
          refine g_aload_n (z := 1) C (tdec DX4_goOver 46 rfl) rfl rfl rfl ?_
          refine g_getf (C' := RX4) (T := TX4) (N := 5) (v := .ref sb_0) C 0 0 (gIn iw_X4) rfl rfl (by decide) (gMem fl_X4_9) rfl rfl (tdec DX4_goOver 47 rfl) rfl ?_
          refine g_iload (z := 5) C (tdec DX4_goOver 48 rfl) rfl rfl ?_
          refine g_aload_n (z := 2) C (tdec DX4_goOver 49 rfl) rfl rfl rfl ?_
          refine g_iload (z := 0) C (tdec DX4_goOver 50 rfl) rfl rfl ?_
          obtain ⟨r14, y15, hF⟩ := o_bind hF
          refine g_callVlRS (q0 := 3) (S := [wSD d_0 sb_0 (SD_setwr (SD_setsn d0 ((SD_sn d0) + 1)) ((SD_wr d0) + 1)), wSB cB sb_0 sb_1 sb0, wB cI cJ b_0 b_1 b_2 b_3 b_4 b_5 b_6 b_7 b_8 b_9 b_10 b_11 b_12 b_13 b_14 b0]) (S0 := [wB cI cJ b_0 b_1 b_2 b_3 b_4 b_5 b_6 b_7 b_8 b_9 b_10 b_11 b_12 b_13 b_14 b0]) C (c_X0_number l D cB cI cJ cZ b_0 b_1 b_2 b_3 b_4 b_5 b_6 b_7 b_8 b_9 b_10 b_11 b_12 b_13 b_14 y15) rfl rfl (gIV ml_X4_71 im_X0_number sl_X0_number in_X0 cd_X0_number) rfl eX0_number rfl ⟨rfl, rfl⟩ ⟨Nat.le_of_ble_eq_true rfl, Nat.le_of_ble_eq_true rfl⟩ rfl rfl rfl [2] rfl rfl rfl (Nat.le_of_ble_eq_true rfl) (tdec DX4_goOver 51 rfl) rfl ?_
          obtain ⟨s16, y17, hF⟩ := o_bind hF
          refine g_callVvMS (q0 := 1) (W' := wSD d_0 sb_0 (SD_setwr (SD_setsn d0 ((SD_sn d0) + 1)) ((SD_wr d0) + 1)) ++ (wSB cB sb_0 sb_1 s16 ++ (wB cI cJ b_0 b_1 b_2 b_3 b_4 b_5 b_6 b_7 b_8 b_9 b_10 b_11 b_12 b_13 b_14 b0))) (S := [wSD d_0 sb_0 (SD_setwr (SD_setsn d0 ((SD_sn d0) + 1)) ((SD_wr d0) + 1)), wSB cB sb_0 sb_1 sb0, wB cI cJ b_0 b_1 b_2 b_3 b_4 b_5 b_6 b_7 b_8 b_9 b_10 b_11 b_12 b_13 b_14 b0]) (S0 := [wSB cB sb_0 sb_1 sb0]) (S1 := [wSB cB sb_0 sb_1 s16]) (S' := [wSD d_0 sb_0 (SD_setwr (SD_setsn d0 ((SD_sn d0) + 1)) ((SD_wr d0) + 1)), wSB cB sb_0 sb_1 s16, wB cI cJ b_0 b_1 b_2 b_3 b_4 b_5 b_6 b_7 b_8 b_9 b_10 b_11 b_12 b_13 b_14 b0]) C (c_X5_addWrite l D cB cI cJ cZ sb_0 sb_1 y17) rfl rfl (gIV ml_X4_74 im_X5_addWrite sl_X5_addWrite in_X5 cd_X5_addWrite) rfl eX5_addWrite rfl ⟨rfl, rfl⟩ ⟨Nat.le_of_ble_eq_true rfl, Nat.le_of_ble_eq_true rfl⟩ rfl rfl rfl [1] rfl rfl rfl rfl (gA_cons aSB gA_nil) rfl rfl (Nat.le_of_ble_eq_true rfl) (tdec DX4_goOver 52 rfl) rfl ?_
          have hr9 := o_some hF
          subst hr9
          exact g_vret C rfl (tdec DX4_goOver 53 rfl)
      · have hF := o_ifp hF h7
        refine g_aload_n (z := 1) C (tdec DX4_goOver 16 rfl) rfl rfl rfl ?_
        refine g_dup C (tdec DX4_goOver 17 rfl) rfl rfl ?_
        refine g_getf (C' := RX4) (T := TX4) (N := 5) (v := .int (SD_cl d0)) C 0 3 (gIn iw_X4) rfl rfl (by decide) (gMem fl_X4_19) rfl rfl (tdec DX4_goOver 18 rfl) rfl ?_
        refine g_iconst (v := 1) C (tdec DX4_goOver 19 rfl) (by decide) rfl ?_
        refine g_iadd C (tdec DX4_goOver 20 rfl) rfl ?_
        refine g_putf (C' := RX4) (T := TX4) (N := 5) (v := .int ((SD_cl d0) + 1)) (ws' := wSD d_0 sb_0 (SD_setcl d0 ((SD_cl d0) + 1)) ++ (wSB cB sb_0 sb_1 sb0 ++ (wB cI cJ b_0 b_1 b_2 b_3 b_4 b_5 b_6 b_7 b_8 b_9 b_10 b_11 b_12 b_13 b_14 b0))) C 0 3 tyX4 tyX4_ok nmX4 (gIn iw_X4) rfl rfl (by decide) (gMem fl_X4_19) rfl rfl (tyX4_ok 3 (by decide)) rfl rfl (Nat.le_of_ble_eq_true rfl) rfl (tdec DX4_goOver 21 rfl) rfl ?_
        refine g_aload_n (z := 1) C (tdec DX4_goOver 22 rfl) rfl rfl rfl ?_
        refine g_getf (C' := RX4) (T := TX4) (N := 5) (v := .ref sb_0) C 0 0 (gIn iw_X4) rfl rfl (by decide) (gMem fl_X4_9) rfl rfl (tdec DX4_goOver 23 rfl) rfl ?_
        refine g_iload (z := 5) C (tdec DX4_goOver 24 rfl) rfl rfl ?_
        refine g_iconst (v := 1) C (tdec DX4_goOver 25 rfl) (by decide) rfl ?_
        refine g_iconst (v := 3) C (tdec DX4_goOver 26 rfl) (by decide) rfl ?_
        refine g_iload_n (z := 4) C (tdec DX4_goOver 27 rfl) rfl rfl rfl ?_
        refine g_imul C (tdec DX4_goOver 28 rfl) rfl ?_
        refine g_ishl C (tdec DX4_goOver 29 rfl) rfl ?_
        obtain ⟨s18, y19, hF⟩ := o_bind hF
        refine g_callVvMS (q0 := 1) (W' := wSD d_0 sb_0 (SD_setcl d0 ((SD_cl d0) + 1)) ++ (wSB cB sb_0 sb_1 s18 ++ (wB cI cJ b_0 b_1 b_2 b_3 b_4 b_5 b_6 b_7 b_8 b_9 b_10 b_11 b_12 b_13 b_14 b0))) (S := [wSD d_0 sb_0 (SD_setcl d0 ((SD_cl d0) + 1)), wSB cB sb_0 sb_1 sb0, wB cI cJ b_0 b_1 b_2 b_3 b_4 b_5 b_6 b_7 b_8 b_9 b_10 b_11 b_12 b_13 b_14 b0]) (S0 := [wSB cB sb_0 sb_1 sb0]) (S1 := [wSB cB sb_0 sb_1 s18]) (S' := [wSD d_0 sb_0 (SD_setcl d0 ((SD_cl d0) + 1)), wSB cB sb_0 sb_1 s18, wB cI cJ b_0 b_1 b_2 b_3 b_4 b_5 b_6 b_7 b_8 b_9 b_10 b_11 b_12 b_13 b_14 b0]) C (c_X5_addClear l D cB cI cJ cZ sb_0 sb_1 y19) rfl rfl (gIV ml_X4_67 im_X5_addClear sl_X5_addClear in_X5 cd_X5_addClear) rfl eX5_addClear rfl ⟨rfl, rfl⟩ ⟨Nat.le_of_ble_eq_true rfl, Nat.le_of_ble_eq_true rfl⟩ rfl rfl rfl [1] rfl rfl rfl rfl (gA_cons aSB gA_nil) rfl rfl (Nat.le_of_ble_eq_true rfl) (tdec DX4_goOver 30 rfl) rfl ?_
        have hr9 := o_some hF
        subst hr9
        exact g_vret C rfl (tdec DX4_goOver 31 rfl)
    · have hF := o_ifn hF h4
      have hr9 := o_some hF
      subst hr9
      exact g_vret C rfl (tdec DX4_goOver 8 rfl)
def FX4_fillStream (d0 : SD) (sb0 : SB) (v0 : VS) (p2 : Int32) (p3 : Int32) : Option (SD × SB) :=
  if p2 = (-1) then
    (FX5_shorten sb0 0).bind fun s19 =>
    (FX6_markOf v0 p3).bind fun r21 =>
    (FX5_addBegin s19 0 r21).bind fun s23 =>
    (FX6_blocks v0).bind fun _ =>
    (FX4_goOver_n5 (SD_setsince (SD_setsn (SD_setcl (SD_setwr d0 0) 0) 0) 0) s23 (VS_b v0) (4802 + p3) 3 0).bind fun (s27, s28) =>
    (FX5_addEnd s28 ((1 + (SD_wr s27)) + (SD_cl s27))).bind fun s30 =>
    some (s27, s30)
  else
    (FX6_generationOf v0 p2).bind fun r2 =>
    (FX5_shorten sb0 0).bind fun s4 =>
    (FX6_markOf v0 p2).bind fun r6 =>
    (FX6_markOf v0 p3).bind fun r8 =>
    (FX5_addBegin s4 r6 r8).bind fun s10 =>
    (FX6_blocks v0).bind fun _ =>
    (FX4_goOver_n5 (SD_setsince (SD_setsn (SD_setcl (SD_setwr d0 0) 0) 0) r2) s10 (VS_b v0) (4802 + p3) 3 0).bind fun (s14, s15) =>
    (FX5_addEnd s15 ((1 + (SD_wr s14)) + (SD_cl s14))).bind fun s17 =>
    some (s14, s17)
def rX4_fillStream : Room := { frames := 9, cells := 0, slots := 0, locals := 226 }
set_option maxHeartbeats 4000000 in
set_option maxRecDepth 100000 in
theorem c_X4_fillStream (l : Launch) (D : va_G) (cB cI cJ cZ : ClassId) (d_0 sb_0 sb_1 v_0 v_1 v_2 v_3 v_4 v_5 v_6 v_7 v_8 v_9 v_10 v_11 v_12 v_13 v_14 v_15 v_16 v_17 v_18 v_19 : Nat) {d0 : SD} {sb0 : SB} {v0 : VS} {p2 : Int32} {p3 : Int32} {res : SD × SB} (hF : FX4_fillStream d0 sb0 v0 p2 p3 = some res) : gMv l yX4_fillStream wsX4_fillStream rX4_fillStream D (gT cB cI cJ cZ) [.ref d_0, .ref v_0, .int p2, .int p3] (wSD d_0 sb_0 d0 ++ (wSB cB sb_0 sb_1 sb0 ++ (wV cI cJ v_0 v_1 v_2 v_3 v_4 v_5 v_6 v_7 v_8 v_9 v_10 v_11 v_12 v_13 v_14 v_15 v_16 v_17 v_18 v_19 v0))) (wSD d_0 sb_0 res.1 ++ (wSB cB sb_0 sb_1 res.2 ++ (wV cI cJ v_0 v_1 v_2 v_3 v_4 v_5 v_6 v_7 v_8 v_9 v_10 v_11 v_12 v_13 v_14 v_15 v_16 v_17 v_18 v_19 v0))) := by
  refine g_enter (own := RX4) (free := (fun sz => va_A (wSD d_0 sb_0 d0 ++ (wSB cB sb_0 sb_1 sb0 ++ (wV cI cJ v_0 v_1 v_2 v_3 v_4 v_5 v_6 v_7 v_8 v_9 v_10 v_11 v_12 v_13 v_14 v_15 v_16 v_17 v_18 v_19 v0))) sz)) (Qc := (fun sz => gQv D (wSD d_0 sb_0 d0 ++ (wSB cB sb_0 sb_1 sb0 ++ (wV cI cJ v_0 v_1 v_2 v_3 v_4 v_5 v_6 v_7 v_8 v_9 v_10 v_11 v_12 v_13 v_14 v_15 v_16 v_17 v_18 v_19 v0))) sz (wSD d_0 sb_0 res.1 ++ (wSB cB sb_0 sb_1 res.2 ++ (wV cI cJ v_0 v_1 v_2 v_3 v_4 v_5 v_6 v_7 v_8 v_9 v_10 v_11 v_12 v_13 v_14 v_15 v_16 v_17 v_18 v_19 v0))))) (fun sz => va_A (wSD d_0 sb_0 d0 ++ (wSB cB sb_0 sb_1 sb0 ++ (wV cI cJ v_0 v_1 v_2 v_3 v_4 v_5 v_6 v_7 v_8 v_9 v_10 v_11 v_12 v_13 v_14 v_15 v_16 v_17 v_18 v_19 v0))) sz) (fun sz => Or.inr rfl) rfl (by decide) rfl (Nat.le_of_ble_eq_true rfl) rfl ?_
  intro p e s m args below meth c C
  unfold FX4_fillStream at hF
  refine g_aload_n (z := 0) C (tdec DX4_fillStream 0 rfl) rfl rfl rfl ?_
  refine g_iconst (v := 0) C (tdec DX4_fillStream 1 rfl) (by decide) rfl ?_
  refine g_putf (C' := RX4) (T := TX4) (N := 5) (v := .int 0) (ws' := wSD d_0 sb_0 (SD_setwr d0 0) ++ (wSB cB sb_0 sb_1 sb0 ++ (wV cI cJ v_0 v_1 v_2 v_3 v_4 v_5 v_6 v_7 v_8 v_9 v_10 v_11 v_12 v_13 v_14 v_15 v_16 v_17 v_18 v_19 v0))) C 0 2 tyX4 tyX4_ok nmX4 (gIn iw_X4) rfl rfl (by decide) (gMem fl_X4_15) rfl rfl (tyX4_ok 2 (by decide)) rfl rfl (Nat.le_of_ble_eq_true rfl) rfl (tdec DX4_fillStream 2 rfl) rfl ?_
  refine g_aload_n (z := 0) C (tdec DX4_fillStream 3 rfl) rfl rfl rfl ?_
  refine g_iconst (v := 0) C (tdec DX4_fillStream 4 rfl) (by decide) rfl ?_
  refine g_putf (C' := RX4) (T := TX4) (N := 5) (v := .int 0) (ws' := wSD d_0 sb_0 (SD_setcl (SD_setwr d0 0) 0) ++ (wSB cB sb_0 sb_1 sb0 ++ (wV cI cJ v_0 v_1 v_2 v_3 v_4 v_5 v_6 v_7 v_8 v_9 v_10 v_11 v_12 v_13 v_14 v_15 v_16 v_17 v_18 v_19 v0))) C 0 3 tyX4 tyX4_ok nmX4 (gIn iw_X4) rfl rfl (by decide) (gMem fl_X4_19) rfl rfl (tyX4_ok 3 (by decide)) rfl rfl (Nat.le_of_ble_eq_true rfl) rfl (tdec DX4_fillStream 5 rfl) rfl ?_
  refine g_aload_n (z := 0) C (tdec DX4_fillStream 6 rfl) rfl rfl rfl ?_
  refine g_iconst (v := 0) C (tdec DX4_fillStream 7 rfl) (by decide) rfl ?_
  refine g_putf (C' := RX4) (T := TX4) (N := 5) (v := .int 0) (ws' := wSD d_0 sb_0 (SD_setsn (SD_setcl (SD_setwr d0 0) 0) 0) ++ (wSB cB sb_0 sb_1 sb0 ++ (wV cI cJ v_0 v_1 v_2 v_3 v_4 v_5 v_6 v_7 v_8 v_9 v_10 v_11 v_12 v_13 v_14 v_15 v_16 v_17 v_18 v_19 v0))) C 0 4 tyX4 tyX4_ok nmX4 (gIn iw_X4) rfl rfl (by decide) (gMem fl_X4_22) rfl rfl (tyX4_ok 4 (by decide)) rfl rfl (Nat.le_of_ble_eq_true rfl) rfl (tdec DX4_fillStream 8 rfl) rfl ?_
  refine g_aload_n (z := 0) C (tdec DX4_fillStream 9 rfl) rfl rfl rfl ?_
  refine g_iload_n (z := 2) C (tdec DX4_fillStream 10 rfl) rfl rfl rfl ?_
  refine g_iconst (v := (-1)) C (tdec DX4_fillStream 11 rfl) (by decide) rfl ?_
  refine g_icmp_ne (pt := 25) C (tdec DX4_fillStream 12 rfl) (by decide) rfl (fun h1 => ?_) (fun h1 => ?_)
  · have hF := o_ifn hF h1
    refine g_aload_n (z := 1) C (tdec DX4_fillStream 15 rfl) rfl rfl rfl ?_
    refine g_iload_n (z := 2) C (tdec DX4_fillStream 16 rfl) rfl rfl rfl ?_
    obtain ⟨r2, y3, hF⟩ := o_bind hF
    refine g_callViRS (q0 := 3) (S := [wSD d_0 sb_0 (SD_setsn (SD_setcl (SD_setwr d0 0) 0) 0), wSB cB sb_0 sb_1 sb0, wV cI cJ v_0 v_1 v_2 v_3 v_4 v_5 v_6 v_7 v_8 v_9 v_10 v_11 v_12 v_13 v_14 v_15 v_16 v_17 v_18 v_19 v0]) (S0 := [wV cI cJ v_0 v_1 v_2 v_3 v_4 v_5 v_6 v_7 v_8 v_9 v_10 v_11 v_12 v_13 v_14 v_15 v_16 v_17 v_18 v_19 v0]) C (c_X6_generationOf l D cB cI cJ cZ v_0 v_1 v_2 v_3 v_4 v_5 v_6 v_7 v_8 v_9 v_10 v_11 v_12 v_13 v_14 v_15 v_16 v_17 v_18 v_19 y3) rfl rfl (gIV ml_X4_25 im_X6_generationOf sl_X6_generationOf in_X6 cd_X6_generationOf) rfl eX6_generationOf rfl ⟨rfl, rfl⟩ ⟨Nat.le_of_ble_eq_true rfl, Nat.le_of_ble_eq_true rfl⟩ rfl rfl rfl [2] rfl rfl rfl (Nat.le_of_ble_eq_true rfl) (tdec DX4_fillStream 17 rfl) rfl ?_
    refine g_putf (C' := RX4) (T := TX4) (N := 5) (v := .int r2) (ws' := wSD d_0 sb_0 (SD_setsince (SD_setsn (SD_setcl (SD_setwr d0 0) 0) 0) r2) ++ (wSB cB sb_0 sb_1 sb0 ++ (wV cI cJ v_0 v_1 v_2 v_3 v_4 v_5 v_6 v_7 v_8 v_9 v_10 v_11 v_12 v_13 v_14 v_15 v_16 v_17 v_18 v_19 v0))) C 0 1 tyX4 tyX4_ok nmX4 (gIn iw_X4) rfl rfl (by decide) (gMem fl_X4_31) rfl rfl (tyX4_ok 1 (by decide)) rfl rfl (Nat.le_of_ble_eq_true rfl) rfl (tdec DX4_fillStream 18 rfl) rfl ?_
    refine g_aload_n (z := 0) C (tdec DX4_fillStream 19 rfl) rfl rfl rfl ?_
    refine g_getf (C' := RX4) (T := TX4) (N := 5) (v := .ref sb_0) C 0 0 (gIn iw_X4) rfl rfl (by decide) (gMem fl_X4_9) rfl rfl (tdec DX4_fillStream 20 rfl) rfl ?_
    refine g_iconst (v := 0) C (tdec DX4_fillStream 21 rfl) (by decide) rfl ?_
    obtain ⟨s4, y5, hF⟩ := o_bind hF
    refine g_callVvMS (q0 := 1) (W' := wSD d_0 sb_0 (SD_setsince (SD_setsn (SD_setcl (SD_setwr d0 0) 0) 0) r2) ++ (wSB cB sb_0 sb_1 s4 ++ (wV cI cJ v_0 v_1 v_2 v_3 v_4 v_5 v_6 v_7 v_8 v_9 v_10 v_11 v_12 v_13 v_14 v_15 v_16 v_17 v_18 v_19 v0))) (S := [wSD d_0 sb_0 (SD_setsince (SD_setsn (SD_setcl (SD_setwr d0 0) 0) 0) r2), wSB cB sb_0 sb_1 sb0, wV cI cJ v_0 v_1 v_2 v_3 v_4 v_5 v_6 v_7 v_8 v_9 v_10 v_11 v_12 v_13 v_14 v_15 v_16 v_17 v_18 v_19 v0]) (S0 := [wSB cB sb_0 sb_1 sb0]) (S1 := [wSB cB sb_0 sb_1 s4]) (S' := [wSD d_0 sb_0 (SD_setsince (SD_setsn (SD_setcl (SD_setwr d0 0) 0) 0) r2), wSB cB sb_0 sb_1 s4, wV cI cJ v_0 v_1 v_2 v_3 v_4 v_5 v_6 v_7 v_8 v_9 v_10 v_11 v_12 v_13 v_14 v_15 v_16 v_17 v_18 v_19 v0]) C (c_X5_shorten l D cB cI cJ cZ sb_0 sb_1 y5) rfl rfl (gIV ml_X4_34 im_X5_shorten sl_X5_shorten in_X5 cd_X5_shorten) rfl eX5_shorten rfl ⟨rfl, rfl⟩ ⟨Nat.le_of_ble_eq_true rfl, Nat.le_of_ble_eq_true rfl⟩ rfl rfl rfl [1] rfl rfl rfl rfl (gA_cons aSB gA_nil) rfl rfl (Nat.le_of_ble_eq_true rfl) (tdec DX4_fillStream 22 rfl) rfl ?_
    refine g_aload_n (z := 0) C (tdec DX4_fillStream 23 rfl) rfl rfl rfl ?_
    refine g_getf (C' := RX4) (T := TX4) (N := 5) (v := .ref sb_0) C 0 0 (gIn iw_X4) rfl rfl (by decide) (gMem fl_X4_9) rfl rfl (tdec DX4_fillStream 24 rfl) rfl ?_
    refine g_iload_n (z := 2) C (tdec DX4_fillStream 25 rfl) rfl rfl rfl ?_
    refine g_iconst (v := (-1)) C (tdec DX4_fillStream 26 rfl) (by decide) rfl ?_
    refine g_icmp_ne (pt := 54) C (tdec DX4_fillStream 27 rfl) (by decide) rfl (fun _ => ?_) (fun h => absurd h h1)
    refine g_aload_n (z := 1) C (tdec DX4_fillStream 30 rfl) rfl rfl rfl ?_
    refine g_iload_n (z := 2) C (tdec DX4_fillStream 31 rfl) rfl rfl rfl ?_
    obtain ⟨r6, y7, hF⟩ := o_bind hF
    refine g_callVlRS (q0 := 3) (S := [wSD d_0 sb_0 (SD_setsince (SD_setsn (SD_setcl (SD_setwr d0 0) 0) 0) r2), wSB cB sb_0 sb_1 s4, wV cI cJ v_0 v_1 v_2 v_3 v_4 v_5 v_6 v_7 v_8 v_9 v_10 v_11 v_12 v_13 v_14 v_15 v_16 v_17 v_18 v_19 v0]) (S0 := [wV cI cJ v_0 v_1 v_2 v_3 v_4 v_5 v_6 v_7 v_8 v_9 v_10 v_11 v_12 v_13 v_14 v_15 v_16 v_17 v_18 v_19 v0]) C (c_X6_markOf l D cB cI cJ cZ v_0 v_1 v_2 v_3 v_4 v_5 v_6 v_7 v_8 v_9 v_10 v_11 v_12 v_13 v_14 v_15 v_16 v_17 v_18 v_19 y7) rfl rfl (gIV ml_X4_40 im_X6_markOf sl_X6_markOf in_X6 cd_X6_markOf) rfl eX6_markOf rfl ⟨rfl, rfl⟩ ⟨Nat.le_of_ble_eq_true rfl, Nat.le_of_ble_eq_true rfl⟩ rfl rfl rfl [2] rfl rfl rfl (Nat.le_of_ble_eq_true rfl) (tdec DX4_fillStream 32 rfl) rfl ?_
    refine g_aload_n (z := 1) C (tdec DX4_fillStream 33 rfl) rfl rfl rfl ?_
    refine g_iload_n (z := 3) C (tdec DX4_fillStream 34 rfl) rfl rfl rfl ?_
    obtain ⟨r8, y9, hF⟩ := o_bind hF
    refine g_callVlRS (q0 := 3) (S := [wSD d_0 sb_0 (SD_setsince (SD_setsn (SD_setcl (SD_setwr d0 0) 0) 0) r2), wSB cB sb_0 sb_1 s4, wV cI cJ v_0 v_1 v_2 v_3 v_4 v_5 v_6 v_7 v_8 v_9 v_10 v_11 v_12 v_13 v_14 v_15 v_16 v_17 v_18 v_19 v0]) (S0 := [wV cI cJ v_0 v_1 v_2 v_3 v_4 v_5 v_6 v_7 v_8 v_9 v_10 v_11 v_12 v_13 v_14 v_15 v_16 v_17 v_18 v_19 v0]) C (c_X6_markOf l D cB cI cJ cZ v_0 v_1 v_2 v_3 v_4 v_5 v_6 v_7 v_8 v_9 v_10 v_11 v_12 v_13 v_14 v_15 v_16 v_17 v_18 v_19 y9) rfl rfl (gIV ml_X4_40 im_X6_markOf sl_X6_markOf in_X6 cd_X6_markOf) rfl eX6_markOf rfl ⟨rfl, rfl⟩ ⟨Nat.le_of_ble_eq_true rfl, Nat.le_of_ble_eq_true rfl⟩ rfl rfl rfl [2] rfl rfl rfl (Nat.le_of_ble_eq_true rfl) (tdec DX4_fillStream 35 rfl) rfl ?_
    obtain ⟨s10, y11, hF⟩ := o_bind hF
    refine g_callVvMS (q0 := 1) (W' := wSD d_0 sb_0 (SD_setsince (SD_setsn (SD_setcl (SD_setwr d0 0) 0) 0) r2) ++ (wSB cB sb_0 sb_1 s10 ++ (wV cI cJ v_0 v_1 v_2 v_3 v_4 v_5 v_6 v_7 v_8 v_9 v_10 v_11 v_12 v_13 v_14 v_15 v_16 v_17 v_18 v_19 v0))) (S := [wSD d_0 sb_0 (SD_setsince (SD_setsn (SD_setcl (SD_setwr d0 0) 0) 0) r2), wSB cB sb_0 sb_1 s4, wV cI cJ v_0 v_1 v_2 v_3 v_4 v_5 v_6 v_7 v_8 v_9 v_10 v_11 v_12 v_13 v_14 v_15 v_16 v_17 v_18 v_19 v0]) (S0 := [wSB cB sb_0 sb_1 s4]) (S1 := [wSB cB sb_0 sb_1 s10]) (S' := [wSD d_0 sb_0 (SD_setsince (SD_setsn (SD_setcl (SD_setwr d0 0) 0) 0) r2), wSB cB sb_0 sb_1 s10, wV cI cJ v_0 v_1 v_2 v_3 v_4 v_5 v_6 v_7 v_8 v_9 v_10 v_11 v_12 v_13 v_14 v_15 v_16 v_17 v_18 v_19 v0]) C (c_X5_addBegin l D cB cI cJ cZ sb_0 sb_1 y11) rfl rfl (gIV ml_X4_44 im_X5_addBegin sl_X5_addBegin in_X5 cd_X5_addBegin) rfl eX5_addBegin rfl ⟨rfl, rfl⟩ ⟨Nat.le_of_ble_eq_true rfl, Nat.le_of_ble_eq_true rfl⟩ rfl rfl rfl [1] rfl rfl rfl rfl (gA_cons aSB gA_nil) rfl rfl (Nat.le_of_ble_eq_true rfl) (tdec DX4_fillStream 36 rfl) rfl ?_
    refine g_aload_n (z := 0) C (tdec DX4_fillStream 37 rfl) rfl rfl rfl ?_
    refine g_aload_n (z := 1) C (tdec DX4_fillStream 38 rfl) rfl rfl rfl ?_
    obtain ⟨q13, y12, hF⟩ := o_bind hF
    have q9 := o_some y12
    subst q9
    refine g_callVqRS (q0 := 3) (S := [wSD d_0 sb_0 (SD_setsince (SD_setsn (SD_setcl (SD_setwr d0 0) 0) 0) r2), wSB cB sb_0 sb_1 s10, wV cI cJ v_0 v_1 v_2 v_3 v_4 v_5 v_6 v_7 v_8 v_9 v_10 v_11 v_12 v_13 v_14 v_15 v_16 v_17 v_18 v_19 v0]) (S0 := [wV cI cJ v_0 v_1 v_2 v_3 v_4 v_5 v_6 v_7 v_8 v_9 v_10 v_11 v_12 v_13 v_14 v_15 v_16 v_17 v_18 v_19 v0]) C (c_X6_blocks l D cB cI cJ cZ v_0 v_1 v_2 v_3 v_4 v_5 v_6 v_7 v_8 v_9 v_10 v_11 v_12 v_13 v_14 v_15 v_16 v_17 v_18 v_19 y12) rfl rfl (gIV ml_X4_48 im_X6_blocks sl_X6_blocks in_X6 cd_X6_blocks) rfl eX6_blocks rfl ⟨rfl, rfl⟩ ⟨Nat.le_of_ble_eq_true rfl, Nat.le_of_ble_eq_true rfl⟩ rfl rfl rfl [2] rfl rfl rfl (Nat.le_of_ble_eq_true rfl) (tdec DX4_fillStream 39 rfl) rfl ?_
    refine g_sipush (v := 4802) C (tdec DX4_fillStream 40 rfl) (by decide) rfl ?_
    refine g_iload_n (z := 3) C (tdec DX4_fillStream 41 rfl) rfl rfl rfl ?_
    refine g_iadd C (tdec DX4_fillStream 42 rfl) rfl ?_
    refine g_iconst (v := 3) C (tdec DX4_fillStream 43 rfl) (by decide) rfl ?_
    refine g_iconst (v := 0) C (tdec DX4_fillStream 44 rfl) (by decide) rfl ?_
    obtain ⟨⟨s14, s15⟩, y16, hF⟩ := o_bind hF
    refine g_callSvMS (W' := wSD d_0 sb_0 s14 ++ (wSB cB sb_0 sb_1 s15 ++ (wV cI cJ v_0 v_1 v_2 v_3 v_4 v_5 v_6 v_7 v_8 v_9 v_10 v_11 v_12 v_13 v_14 v_15 v_16 v_17 v_18 v_19 v0))) (S := [wSD d_0 sb_0 (SD_setsince (SD_setsn (SD_setcl (SD_setwr d0 0) 0) 0) r2), wSB cB sb_0 sb_1 s10, wV0 cI cJ v_0 v_1 v_2 v_3 v_4 v_5 v0, wB cI cJ v_5 v_6 v_7 v_8 v_9 v_10 v_11 v_12 v_13 v_14 v_15 v_16 v_17 v_18 v_19 (VS_b v0)]) (S0 := [wSD d_0 sb_0 (SD_setsince (SD_setsn (SD_setcl (SD_setwr d0 0) 0) 0) r2), wSB cB sb_0 sb_1 s10, wB cI cJ v_5 v_6 v_7 v_8 v_9 v_10 v_11 v_12 v_13 v_14 v_15 v_16 v_17 v_18 v_19 (VS_b v0)]) (S1 := [wSD d_0 sb_0 s14, wSB cB sb_0 sb_1 s15, wB cI cJ v_5 v_6 v_7 v_8 v_9 v_10 v_11 v_12 v_13 v_14 v_15 v_16 v_17 v_18 v_19 (VS_b v0)]) (S' := [wSD d_0 sb_0 s14, wSB cB sb_0 sb_1 s15, wV0 cI cJ v_0 v_1 v_2 v_3 v_4 v_5 v0, wB cI cJ v_5 v_6 v_7 v_8 v_9 v_10 v_11 v_12 v_13 v_14 v_15 v_16 v_17 v_18 v_19 (VS_b v0)]) C (c_X4_goOver_n5 l D cB cI cJ cZ d_0 sb_0 sb_1 v_5 v_6 v_7 v_8 v_9 v_10 v_11 v_12 v_13 v_14 v_15 v_16 v_17 v_18 v_19 y16) (gIS ml_X4_52 st_X4_goOver in_X4 cd_X4_goOver) eX4_goOver rfl ⟨rfl, rfl⟩ ⟨Nat.le_of_ble_eq_true rfl, Nat.le_of_ble_eq_true rfl⟩ rfl rfl rfl [0, 1, 3] rfl rfl rfl rfl (gA_cons aSD (gA_cons aSB (gA_cons rfl gA_nil))) rfl rfl (Nat.le_of_ble_eq_true rfl) (tdec DX4_fillStream 45 rfl) rfl ?_
    refine g_aload_n (z := 0) C (tdec DX4_fillStream 46 rfl) rfl rfl rfl ?_
    refine g_getf (C' := RX4) (T := TX4) (N := 5) (v := .ref sb_0) C 0 0 (gIn iw_X4) rfl rfl (by decide) (gMem fl_X4_9) rfl rfl (tdec DX4_fillStream 47 rfl) rfl ?_
    refine g_iconst (v := 1) C (tdec DX4_fillStream 48 rfl) (by decide) rfl ?_
    refine g_aload_n (z := 0) C (tdec DX4_fillStream 49 rfl) rfl rfl rfl ?_
    refine g_getf (C' := RX4) (T := TX4) (N := 5) (v := .int (SD_wr s14)) C 0 2 (gIn iw_X4) rfl rfl (by decide) (gMem fl_X4_15) rfl rfl (tdec DX4_fillStream 50 rfl) rfl ?_
    refine g_iadd C (tdec DX4_fillStream 51 rfl) rfl ?_
    refine g_aload_n (z := 0) C (tdec DX4_fillStream 52 rfl) rfl rfl rfl ?_
    refine g_getf (C' := RX4) (T := TX4) (N := 5) (v := .int (SD_cl s14)) C 0 3 (gIn iw_X4) rfl rfl (by decide) (gMem fl_X4_19) rfl rfl (tdec DX4_fillStream 53 rfl) rfl ?_
    refine g_iadd C (tdec DX4_fillStream 54 rfl) rfl ?_
    obtain ⟨s17, y18, hF⟩ := o_bind hF
    refine g_callVvMS (q0 := 1) (W' := wSD d_0 sb_0 s14 ++ (wSB cB sb_0 sb_1 s17 ++ (wV cI cJ v_0 v_1 v_2 v_3 v_4 v_5 v_6 v_7 v_8 v_9 v_10 v_11 v_12 v_13 v_14 v_15 v_16 v_17 v_18 v_19 v0))) (S := [wSD d_0 sb_0 s14, wSB cB sb_0 sb_1 s15, wV cI cJ v_0 v_1 v_2 v_3 v_4 v_5 v_6 v_7 v_8 v_9 v_10 v_11 v_12 v_13 v_14 v_15 v_16 v_17 v_18 v_19 v0]) (S0 := [wSB cB sb_0 sb_1 s15]) (S1 := [wSB cB sb_0 sb_1 s17]) (S' := [wSD d_0 sb_0 s14, wSB cB sb_0 sb_1 s17, wV cI cJ v_0 v_1 v_2 v_3 v_4 v_5 v_6 v_7 v_8 v_9 v_10 v_11 v_12 v_13 v_14 v_15 v_16 v_17 v_18 v_19 v0]) C (c_X5_addEnd l D cB cI cJ cZ sb_0 sb_1 y18) rfl rfl (gIV ml_X4_56 im_X5_addEnd sl_X5_addEnd in_X5 cd_X5_addEnd) rfl eX5_addEnd rfl ⟨rfl, rfl⟩ ⟨Nat.le_of_ble_eq_true rfl, Nat.le_of_ble_eq_true rfl⟩ rfl rfl rfl [1] rfl rfl rfl rfl (gA_cons aSB gA_nil) rfl rfl (Nat.le_of_ble_eq_true rfl) (tdec DX4_fillStream 55 rfl) rfl ?_
    have hr9 := o_some hF
    subst hr9
    exact g_vret C rfl (tdec DX4_fillStream 56 rfl)
  · have hF := o_ifp hF h1
    refine g_iconst (v := 0) C (tdec DX4_fillStream 13 rfl) (by decide) rfl ?_
    refine g_goto (pt := 30) C (tdec DX4_fillStream 14 rfl) (by decide) ?_
    refine g_putf (C' := RX4) (T := TX4) (N := 5) (v := .int 0) (ws' := wSD d_0 sb_0 (SD_setsince (SD_setsn (SD_setcl (SD_setwr d0 0) 0) 0) 0) ++ (wSB cB sb_0 sb_1 sb0 ++ (wV cI cJ v_0 v_1 v_2 v_3 v_4 v_5 v_6 v_7 v_8 v_9 v_10 v_11 v_12 v_13 v_14 v_15 v_16 v_17 v_18 v_19 v0))) C 0 1 tyX4 tyX4_ok nmX4 (gIn iw_X4) rfl rfl (by decide) (gMem fl_X4_31) rfl rfl (tyX4_ok 1 (by decide)) rfl rfl (Nat.le_of_ble_eq_true rfl) rfl (tdec DX4_fillStream 18 rfl) rfl ?_
    refine g_aload_n (z := 0) C (tdec DX4_fillStream 19 rfl) rfl rfl rfl ?_
    refine g_getf (C' := RX4) (T := TX4) (N := 5) (v := .ref sb_0) C 0 0 (gIn iw_X4) rfl rfl (by decide) (gMem fl_X4_9) rfl rfl (tdec DX4_fillStream 20 rfl) rfl ?_
    refine g_iconst (v := 0) C (tdec DX4_fillStream 21 rfl) (by decide) rfl ?_
    obtain ⟨s19, y20, hF⟩ := o_bind hF
    refine g_callVvMS (q0 := 1) (W' := wSD d_0 sb_0 (SD_setsince (SD_setsn (SD_setcl (SD_setwr d0 0) 0) 0) 0) ++ (wSB cB sb_0 sb_1 s19 ++ (wV cI cJ v_0 v_1 v_2 v_3 v_4 v_5 v_6 v_7 v_8 v_9 v_10 v_11 v_12 v_13 v_14 v_15 v_16 v_17 v_18 v_19 v0))) (S := [wSD d_0 sb_0 (SD_setsince (SD_setsn (SD_setcl (SD_setwr d0 0) 0) 0) 0), wSB cB sb_0 sb_1 sb0, wV cI cJ v_0 v_1 v_2 v_3 v_4 v_5 v_6 v_7 v_8 v_9 v_10 v_11 v_12 v_13 v_14 v_15 v_16 v_17 v_18 v_19 v0]) (S0 := [wSB cB sb_0 sb_1 sb0]) (S1 := [wSB cB sb_0 sb_1 s19]) (S' := [wSD d_0 sb_0 (SD_setsince (SD_setsn (SD_setcl (SD_setwr d0 0) 0) 0) 0), wSB cB sb_0 sb_1 s19, wV cI cJ v_0 v_1 v_2 v_3 v_4 v_5 v_6 v_7 v_8 v_9 v_10 v_11 v_12 v_13 v_14 v_15 v_16 v_17 v_18 v_19 v0]) C (c_X5_shorten l D cB cI cJ cZ sb_0 sb_1 y20) rfl rfl (gIV ml_X4_34 im_X5_shorten sl_X5_shorten in_X5 cd_X5_shorten) rfl eX5_shorten rfl ⟨rfl, rfl⟩ ⟨Nat.le_of_ble_eq_true rfl, Nat.le_of_ble_eq_true rfl⟩ rfl rfl rfl [1] rfl rfl rfl rfl (gA_cons aSB gA_nil) rfl rfl (Nat.le_of_ble_eq_true rfl) (tdec DX4_fillStream 22 rfl) rfl ?_
    refine g_aload_n (z := 0) C (tdec DX4_fillStream 23 rfl) rfl rfl rfl ?_
    refine g_getf (C' := RX4) (T := TX4) (N := 5) (v := .ref sb_0) C 0 0 (gIn iw_X4) rfl rfl (by decide) (gMem fl_X4_9) rfl rfl (tdec DX4_fillStream 24 rfl) rfl ?_
    refine g_iload_n (z := 2) C (tdec DX4_fillStream 25 rfl) rfl rfl rfl ?_
    refine g_iconst (v := (-1)) C (tdec DX4_fillStream 26 rfl) (by decide) rfl ?_
    refine g_icmp_ne (pt := 54) C (tdec DX4_fillStream 27 rfl) (by decide) rfl (fun h => absurd h1 h) (fun _ => ?_)
    refine g_lconst (v := 0) C (tdec DX4_fillStream 28 rfl) (by decide) rfl ?_
    refine g_goto (pt := 59) C (tdec DX4_fillStream 29 rfl) (by decide) ?_
    refine g_aload_n (z := 1) C (tdec DX4_fillStream 33 rfl) rfl rfl rfl ?_
    refine g_iload_n (z := 3) C (tdec DX4_fillStream 34 rfl) rfl rfl rfl ?_
    obtain ⟨r21, y22, hF⟩ := o_bind hF
    refine g_callVlRS (q0 := 3) (S := [wSD d_0 sb_0 (SD_setsince (SD_setsn (SD_setcl (SD_setwr d0 0) 0) 0) 0), wSB cB sb_0 sb_1 s19, wV cI cJ v_0 v_1 v_2 v_3 v_4 v_5 v_6 v_7 v_8 v_9 v_10 v_11 v_12 v_13 v_14 v_15 v_16 v_17 v_18 v_19 v0]) (S0 := [wV cI cJ v_0 v_1 v_2 v_3 v_4 v_5 v_6 v_7 v_8 v_9 v_10 v_11 v_12 v_13 v_14 v_15 v_16 v_17 v_18 v_19 v0]) C (c_X6_markOf l D cB cI cJ cZ v_0 v_1 v_2 v_3 v_4 v_5 v_6 v_7 v_8 v_9 v_10 v_11 v_12 v_13 v_14 v_15 v_16 v_17 v_18 v_19 y22) rfl rfl (gIV ml_X4_40 im_X6_markOf sl_X6_markOf in_X6 cd_X6_markOf) rfl eX6_markOf rfl ⟨rfl, rfl⟩ ⟨Nat.le_of_ble_eq_true rfl, Nat.le_of_ble_eq_true rfl⟩ rfl rfl rfl [2] rfl rfl rfl (Nat.le_of_ble_eq_true rfl) (tdec DX4_fillStream 35 rfl) rfl ?_
    obtain ⟨s23, y24, hF⟩ := o_bind hF
    refine g_callVvMS (q0 := 1) (W' := wSD d_0 sb_0 (SD_setsince (SD_setsn (SD_setcl (SD_setwr d0 0) 0) 0) 0) ++ (wSB cB sb_0 sb_1 s23 ++ (wV cI cJ v_0 v_1 v_2 v_3 v_4 v_5 v_6 v_7 v_8 v_9 v_10 v_11 v_12 v_13 v_14 v_15 v_16 v_17 v_18 v_19 v0))) (S := [wSD d_0 sb_0 (SD_setsince (SD_setsn (SD_setcl (SD_setwr d0 0) 0) 0) 0), wSB cB sb_0 sb_1 s19, wV cI cJ v_0 v_1 v_2 v_3 v_4 v_5 v_6 v_7 v_8 v_9 v_10 v_11 v_12 v_13 v_14 v_15 v_16 v_17 v_18 v_19 v0]) (S0 := [wSB cB sb_0 sb_1 s19]) (S1 := [wSB cB sb_0 sb_1 s23]) (S' := [wSD d_0 sb_0 (SD_setsince (SD_setsn (SD_setcl (SD_setwr d0 0) 0) 0) 0), wSB cB sb_0 sb_1 s23, wV cI cJ v_0 v_1 v_2 v_3 v_4 v_5 v_6 v_7 v_8 v_9 v_10 v_11 v_12 v_13 v_14 v_15 v_16 v_17 v_18 v_19 v0]) C (c_X5_addBegin l D cB cI cJ cZ sb_0 sb_1 y24) rfl rfl (gIV ml_X4_44 im_X5_addBegin sl_X5_addBegin in_X5 cd_X5_addBegin) rfl eX5_addBegin rfl ⟨rfl, rfl⟩ ⟨Nat.le_of_ble_eq_true rfl, Nat.le_of_ble_eq_true rfl⟩ rfl rfl rfl [1] rfl rfl rfl rfl (gA_cons aSB gA_nil) rfl rfl (Nat.le_of_ble_eq_true rfl) (tdec DX4_fillStream 36 rfl) rfl ?_
    refine g_aload_n (z := 0) C (tdec DX4_fillStream 37 rfl) rfl rfl rfl ?_
    refine g_aload_n (z := 1) C (tdec DX4_fillStream 38 rfl) rfl rfl rfl ?_
    obtain ⟨q26, y25, hF⟩ := o_bind hF
    have q9 := o_some y25
    subst q9
    refine g_callVqRS (q0 := 3) (S := [wSD d_0 sb_0 (SD_setsince (SD_setsn (SD_setcl (SD_setwr d0 0) 0) 0) 0), wSB cB sb_0 sb_1 s23, wV cI cJ v_0 v_1 v_2 v_3 v_4 v_5 v_6 v_7 v_8 v_9 v_10 v_11 v_12 v_13 v_14 v_15 v_16 v_17 v_18 v_19 v0]) (S0 := [wV cI cJ v_0 v_1 v_2 v_3 v_4 v_5 v_6 v_7 v_8 v_9 v_10 v_11 v_12 v_13 v_14 v_15 v_16 v_17 v_18 v_19 v0]) C (c_X6_blocks l D cB cI cJ cZ v_0 v_1 v_2 v_3 v_4 v_5 v_6 v_7 v_8 v_9 v_10 v_11 v_12 v_13 v_14 v_15 v_16 v_17 v_18 v_19 y25) rfl rfl (gIV ml_X4_48 im_X6_blocks sl_X6_blocks in_X6 cd_X6_blocks) rfl eX6_blocks rfl ⟨rfl, rfl⟩ ⟨Nat.le_of_ble_eq_true rfl, Nat.le_of_ble_eq_true rfl⟩ rfl rfl rfl [2] rfl rfl rfl (Nat.le_of_ble_eq_true rfl) (tdec DX4_fillStream 39 rfl) rfl ?_
    refine g_sipush (v := 4802) C (tdec DX4_fillStream 40 rfl) (by decide) rfl ?_
    refine g_iload_n (z := 3) C (tdec DX4_fillStream 41 rfl) rfl rfl rfl ?_
    refine g_iadd C (tdec DX4_fillStream 42 rfl) rfl ?_
    refine g_iconst (v := 3) C (tdec DX4_fillStream 43 rfl) (by decide) rfl ?_
    refine g_iconst (v := 0) C (tdec DX4_fillStream 44 rfl) (by decide) rfl ?_
    obtain ⟨⟨s27, s28⟩, y29, hF⟩ := o_bind hF
    refine g_callSvMS (W' := wSD d_0 sb_0 s27 ++ (wSB cB sb_0 sb_1 s28 ++ (wV cI cJ v_0 v_1 v_2 v_3 v_4 v_5 v_6 v_7 v_8 v_9 v_10 v_11 v_12 v_13 v_14 v_15 v_16 v_17 v_18 v_19 v0))) (S := [wSD d_0 sb_0 (SD_setsince (SD_setsn (SD_setcl (SD_setwr d0 0) 0) 0) 0), wSB cB sb_0 sb_1 s23, wV0 cI cJ v_0 v_1 v_2 v_3 v_4 v_5 v0, wB cI cJ v_5 v_6 v_7 v_8 v_9 v_10 v_11 v_12 v_13 v_14 v_15 v_16 v_17 v_18 v_19 (VS_b v0)]) (S0 := [wSD d_0 sb_0 (SD_setsince (SD_setsn (SD_setcl (SD_setwr d0 0) 0) 0) 0), wSB cB sb_0 sb_1 s23, wB cI cJ v_5 v_6 v_7 v_8 v_9 v_10 v_11 v_12 v_13 v_14 v_15 v_16 v_17 v_18 v_19 (VS_b v0)]) (S1 := [wSD d_0 sb_0 s27, wSB cB sb_0 sb_1 s28, wB cI cJ v_5 v_6 v_7 v_8 v_9 v_10 v_11 v_12 v_13 v_14 v_15 v_16 v_17 v_18 v_19 (VS_b v0)]) (S' := [wSD d_0 sb_0 s27, wSB cB sb_0 sb_1 s28, wV0 cI cJ v_0 v_1 v_2 v_3 v_4 v_5 v0, wB cI cJ v_5 v_6 v_7 v_8 v_9 v_10 v_11 v_12 v_13 v_14 v_15 v_16 v_17 v_18 v_19 (VS_b v0)]) C (c_X4_goOver_n5 l D cB cI cJ cZ d_0 sb_0 sb_1 v_5 v_6 v_7 v_8 v_9 v_10 v_11 v_12 v_13 v_14 v_15 v_16 v_17 v_18 v_19 y29) (gIS ml_X4_52 st_X4_goOver in_X4 cd_X4_goOver) eX4_goOver rfl ⟨rfl, rfl⟩ ⟨Nat.le_of_ble_eq_true rfl, Nat.le_of_ble_eq_true rfl⟩ rfl rfl rfl [0, 1, 3] rfl rfl rfl rfl (gA_cons aSD (gA_cons aSB (gA_cons rfl gA_nil))) rfl rfl (Nat.le_of_ble_eq_true rfl) (tdec DX4_fillStream 45 rfl) rfl ?_
    refine g_aload_n (z := 0) C (tdec DX4_fillStream 46 rfl) rfl rfl rfl ?_
    refine g_getf (C' := RX4) (T := TX4) (N := 5) (v := .ref sb_0) C 0 0 (gIn iw_X4) rfl rfl (by decide) (gMem fl_X4_9) rfl rfl (tdec DX4_fillStream 47 rfl) rfl ?_
    refine g_iconst (v := 1) C (tdec DX4_fillStream 48 rfl) (by decide) rfl ?_
    refine g_aload_n (z := 0) C (tdec DX4_fillStream 49 rfl) rfl rfl rfl ?_
    refine g_getf (C' := RX4) (T := TX4) (N := 5) (v := .int (SD_wr s27)) C 0 2 (gIn iw_X4) rfl rfl (by decide) (gMem fl_X4_15) rfl rfl (tdec DX4_fillStream 50 rfl) rfl ?_
    refine g_iadd C (tdec DX4_fillStream 51 rfl) rfl ?_
    refine g_aload_n (z := 0) C (tdec DX4_fillStream 52 rfl) rfl rfl rfl ?_
    refine g_getf (C' := RX4) (T := TX4) (N := 5) (v := .int (SD_cl s27)) C 0 3 (gIn iw_X4) rfl rfl (by decide) (gMem fl_X4_19) rfl rfl (tdec DX4_fillStream 53 rfl) rfl ?_
    refine g_iadd C (tdec DX4_fillStream 54 rfl) rfl ?_
    obtain ⟨s30, y31, hF⟩ := o_bind hF
    refine g_callVvMS (q0 := 1) (W' := wSD d_0 sb_0 s27 ++ (wSB cB sb_0 sb_1 s30 ++ (wV cI cJ v_0 v_1 v_2 v_3 v_4 v_5 v_6 v_7 v_8 v_9 v_10 v_11 v_12 v_13 v_14 v_15 v_16 v_17 v_18 v_19 v0))) (S := [wSD d_0 sb_0 s27, wSB cB sb_0 sb_1 s28, wV cI cJ v_0 v_1 v_2 v_3 v_4 v_5 v_6 v_7 v_8 v_9 v_10 v_11 v_12 v_13 v_14 v_15 v_16 v_17 v_18 v_19 v0]) (S0 := [wSB cB sb_0 sb_1 s28]) (S1 := [wSB cB sb_0 sb_1 s30]) (S' := [wSD d_0 sb_0 s27, wSB cB sb_0 sb_1 s30, wV cI cJ v_0 v_1 v_2 v_3 v_4 v_5 v_6 v_7 v_8 v_9 v_10 v_11 v_12 v_13 v_14 v_15 v_16 v_17 v_18 v_19 v0]) C (c_X5_addEnd l D cB cI cJ cZ sb_0 sb_1 y31) rfl rfl (gIV ml_X4_56 im_X5_addEnd sl_X5_addEnd in_X5 cd_X5_addEnd) rfl eX5_addEnd rfl ⟨rfl, rfl⟩ ⟨Nat.le_of_ble_eq_true rfl, Nat.le_of_ble_eq_true rfl⟩ rfl rfl rfl [1] rfl rfl rfl rfl (gA_cons aSB gA_nil) rfl rfl (Nat.le_of_ble_eq_true rfl) (tdec DX4_fillStream 55 rfl) rfl ?_
    have hr9 := o_some hF
    subst hr9
    exact g_vret C rfl (tdec DX4_fillStream 56 rfl)
