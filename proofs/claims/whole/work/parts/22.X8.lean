/-! PART 22.X8: walks, printed by wip/whole/walk.py -/
def FX8_send_L286 (v1 : Int32) (v2 : Int32) (v3 : Int32) (v4 : Int32) (v5 : Int32) (v6 : Int32) (v7 : Int32) (v8 : Int32) (v9 : Int32) (v10 : Int32) (k9 : MS → Int32 → Option (Int32 × MS)) : Nat → MS → Int32 → Option (Int32 × MS)
  | 0, _, _ => none
  | n9 + 1, x, v11 =>
    if 8 ≤ v11 then
      k9 x v11
    else
      (FX8_told x v1 v10).bind fun r43 =>
      (FX8_brings x v1 ((8 * r43) + v11) (((64 * v7) + (8 * v9)) + v11) 1 v4).bind fun (r45, s46) =>
      FX8_send_L286 v1 v2 v3 v4 v5 v6 v7 v8 v9 v10 k9 n9 s46 (v11 + 1)
def FX8_send_L233 (v1 : Int32) (v2 : Int32) (v3 : Int32) (v4 : Int32) (v5 : Int32) (v6 : Int32) (v7 : Int32) (v8 : Int32) (k9 : MS → Int32 → Option (Int32 × MS)) : Nat → MS → Int32 → Option (Int32 × MS)
  | 0, _, _ => none
  | n9 + 1, x, v9 =>
    if 8 ≤ v9 then
      k9 x v9
    else
      (FX8_told x v1 v8).bind fun r36 =>
      (FX8_brings x v1 ((8 * r36) + v9) ((64 * v7) + (8 * v9)) 8 v4).bind fun (r38, s39) =>
      if r38 = 0 then
        FX8_send_L233 v1 v2 v3 v4 v5 v6 v7 v8 k9 n9 s39 (v9 + 1)
      else
        FX8_send_L286 v1 v2 v3 v4 v5 v6 v7 v8 v9 ((8 * r36) + v9) (fun xq48 w11_48 =>
          FX8_send_L233 v1 v2 v3 v4 v5 v6 v7 v8 k9 n9 xq48 (v9 + 1)) 100000 s39 0
def FX8_send_L181 (v1 : Int32) (v2 : Int32) (v3 : Int32) (v4 : Int32) (v5 : Int32) (v6 : Int32) (k9 : MS → Int32 → Option (Int32 × MS)) : Nat → MS → Int32 → Option (Int32 × MS)
  | 0, _, _ => none
  | n9 + 1, x, v7 =>
    if 8 ≤ v7 then
      k9 x v7
    else
      if v6 = 0 then
        k9 x v7
      else
        (FX8_told x v1 v5).bind fun r29 =>
        (FX8_brings x v1 ((8 * r29) + v7) (64 * v7) 64 v4).bind fun (r31, s32) =>
        if r31 = 0 then
          FX8_send_L181 v1 v2 v3 v4 v5 v6 k9 n9 s32 (v7 + 1)
        else
          FX8_send_L233 v1 v2 v3 v4 v5 v6 v7 ((8 * r29) + v7) (fun xq49 w9_49 =>
            FX8_send_L181 v1 v2 v3 v4 v5 v6 k9 n9 xq49 (v7 + 1)) 100000 s32 0
def FX8_send (x0 : MS) (p1 : Int32) (p2 : Int32) (p3 : Int32) : Option (Int32 × MS) :=
  (FX8_isVolume p1).bind fun r1 =>
  if r1 = 0 then
    some (0, (MS_setthr x0 1))
  else
    (FX8_isSnap x0 p1 p3).bind fun r4 =>
    if r4 = 0 then
      some (0, (MS_setthr x0 2))
    else
      if p2 < (-1) then
        some (0, (MS_setthr x0 3))
      else
        if p2 < p3 then
          if p2 = (-1) then
            (FX8_put (MS_setsn (MS_setcl (MS_setwr (MS_setrecs (MS_setrf (MS_setlen (MS_setthr x0 0) 0) 0) 0) 0) 0) 0) 1 1).bind fun s57 =>
            (FX8_put s57 0 8).bind fun s59 =>
            (ald 40 (MS_sm s59) ((20 * p1) + p3)).bind fun r61 =>
            (FX8_put s59 r61 8).bind fun s63 =>
            (FX8_ends s63).bind fun s65 =>
            (FX8_brings s65 p1 ((-3) - p3) 0 512 0).bind fun (r67, s68) =>
            FX8_send_L181 p1 p2 p3 0 ((-3) - p3) r67 (fun xq70 w7_70 =>
              (FX8_put xq70 4 1).bind fun s71 =>
              (FX8_put s71 (((MS_recs s71) : Int32).toInt64) 4).bind fun s73 =>
              (FX8_ends s73).bind fun s75 =>
              some ((MS_len s75), s75)) 100000 s68 0
          else
            (ald 40 (MS_sg x0) ((20 * p1) + p2)).bind fun r10 =>
            (FX8_put (MS_setsn (MS_setcl (MS_setwr (MS_setrecs (MS_setrf (MS_setlen (MS_setthr x0 0) 0) 0) 0) 0) 0) 0) 1 1).bind fun s12 =>
            (ald 40 (MS_sm s12) ((20 * p1) + p2)).bind fun r14 =>
            (FX8_put s12 r14 8).bind fun s16 =>
            (ald 40 (MS_sm s16) ((20 * p1) + p3)).bind fun r18 =>
            (FX8_put s16 r18 8).bind fun s20 =>
            (FX8_ends s20).bind fun s22 =>
            (FX8_brings s22 p1 ((-3) - p3) 0 512 r10).bind fun (r24, s25) =>
            FX8_send_L181 p1 p2 p3 r10 ((-3) - p3) r24 (fun xq50 w7_50 =>
              (FX8_put xq50 4 1).bind fun s51 =>
              (FX8_put s51 (((MS_recs s51) : Int32).toInt64) 4).bind fun s53 =>
              (FX8_ends s53).bind fun s55 =>
              some ((MS_len s55), s55)) 100000 s25 0
        else
          some (0, (MS_setthr x0 3))
def rX8_send : Room := { frames := 3, cells := 0, slots := 0, locals := 71 }
set_option maxHeartbeats 4000000 in
set_option maxRecDepth 100000 in
theorem c_FX8_send_L286 {p : Program} {l : Launch} {e : Env} {s : State} {m : MethodId} {args : Array Value} {below : List Frame} {meth : Method} {c : Code} {D : va_G} {cB cI cJ cZ : ClassId} {x_0 x_1 x_2 x_3 x_4 x_5 x_6 x_7 x_8 x_9 x_10 x_11 x_12 x_13 x_14 x_15 x_16 x_17 x_18 x_19 : Nat} {x0 : MS} {res : Int32 × MS} (C : gC p s m args meth c cX8_send 12 RX8 wsX8_send D (gT cB cI cJ cZ) (some .int) (va_A (wM cB cI cJ cZ x_0 x_1 x_2 x_3 x_4 x_5 x_6 x_7 x_8 x_9 x_10 x_11 x_12 x_13 x_14 x_15 x_16 x_17 x_18 x_19 x0) s.heap.size)) {v1 : Int32} {v2 : Int32} {v3 : Int32} {v4 : Int32} {v5 : Int32} {v6 : Int32} {v7 : Int32} {v8 : Int32} {v9 : Int32} {v10 : Int32} {k9 : MS → Int32 → Option (Int32 × MS)} (hk9 : ∀ (x : MS) (v11 : Int32), k9 x v11 = some res → gG p l e (headSpec wsX8_send rX8_send).room s m args below meth c 0 0 D (va_A (wM cB cI cJ cZ x_0 x_1 x_2 x_3 x_4 x_5 x_6 x_7 x_8 x_9 x_10 x_11 x_12 x_13 x_14 x_15 x_16 x_17 x_18 x_19 x0) s.heap.size) (va_A (wM cB cI cJ cZ x_0 x_1 x_2 x_3 x_4 x_5 x_6 x_7 x_8 x_9 x_10 x_11 x_12 x_13 x_14 x_15 x_16 x_17 x_18 x_19 x0) s.heap.size) 12 (MQ below (gQi D (wM cB cI cJ cZ x_0 x_1 x_2 x_3 x_4 x_5 x_6 x_7 x_8 x_9 x_10 x_11 x_12 x_13 x_14 x_15 x_16 x_17 x_18 x_19 x0) s.heap.size res.1 (wM cB cI cJ cZ x_0 x_1 x_2 x_3 x_4 x_5 x_6 x_7 x_8 x_9 x_10 x_11 x_12 x_13 x_14 x_15 x_16 x_17 x_18 x_19 res.2)) args s 0 0 (va_A (wM cB cI cJ cZ x_0 x_1 x_2 x_3 x_4 x_5 x_6 x_7 x_8 x_9 x_10 x_11 x_12 x_13 x_14 x_15 x_16 x_17 x_18 x_19 x0) s.heap.size)) (wM cB cI cJ cZ x_0 x_1 x_2 x_3 x_4 x_5 x_6 x_7 x_8 x_9 x_10 x_11 x_12 x_13 x_14 x_15 x_16 x_17 x_18 x_19 x) 335 [(0, .ref x_0), (1, .int v1), (2, .int v2), (3, .int v3), (4, .int v4), (5, .int v5), (6, .int v6), (7, .int v7), (8, .int v8), (9, .int v9), (10, .int v10), (11, .int v11)] []) :
    ∀ (n9 : Nat) (x : MS) (v11 : Int32), FX8_send_L286 v1 v2 v3 v4 v5 v6 v7 v8 v9 v10 k9 n9 x v11 = some res → gG p l e (headSpec wsX8_send rX8_send).room s m args below meth c 0 0 D (va_A (wM cB cI cJ cZ x_0 x_1 x_2 x_3 x_4 x_5 x_6 x_7 x_8 x_9 x_10 x_11 x_12 x_13 x_14 x_15 x_16 x_17 x_18 x_19 x0) s.heap.size) (va_A (wM cB cI cJ cZ x_0 x_1 x_2 x_3 x_4 x_5 x_6 x_7 x_8 x_9 x_10 x_11 x_12 x_13 x_14 x_15 x_16 x_17 x_18 x_19 x0) s.heap.size) 12 (MQ below (gQi D (wM cB cI cJ cZ x_0 x_1 x_2 x_3 x_4 x_5 x_6 x_7 x_8 x_9 x_10 x_11 x_12 x_13 x_14 x_15 x_16 x_17 x_18 x_19 x0) s.heap.size res.1 (wM cB cI cJ cZ x_0 x_1 x_2 x_3 x_4 x_5 x_6 x_7 x_8 x_9 x_10 x_11 x_12 x_13 x_14 x_15 x_16 x_17 x_18 x_19 res.2)) args s 0 0 (va_A (wM cB cI cJ cZ x_0 x_1 x_2 x_3 x_4 x_5 x_6 x_7 x_8 x_9 x_10 x_11 x_12 x_13 x_14 x_15 x_16 x_17 x_18 x_19 x0) s.heap.size)) (wM cB cI cJ cZ x_0 x_1 x_2 x_3 x_4 x_5 x_6 x_7 x_8 x_9 x_10 x_11 x_12 x_13 x_14 x_15 x_16 x_17 x_18 x_19 x) 286 [(0, .ref x_0), (1, .int v1), (2, .int v2), (3, .int v3), (4, .int v4), (5, .int v5), (6, .int v6), (7, .int v7), (8, .int v8), (9, .int v9), (10, .int v10), (11, .int v11)] [] := by
  intro n9
  induction n9 with
  | zero =>
    intro x v11 hF
    exact absurd hF (by simp [FX8_send_L286])
  | succ n9 ih9 =>
    intro x v11 hF
    rw [FX8_send_L286] at hF
    refine g_iload (z := 11) C (tdec DX8_send 163 rfl) rfl rfl ?_
    refine g_bipush (v := 8) C (tdec DX8_send 164 rfl) (by decide) rfl ?_
    refine g_icmp_ge (pt := 335) C (tdec DX8_send 165 rfl) (by decide) rfl (fun h42 => ?_) (fun h42 => ?_)
    · have hF := o_ifp hF h42
      refine g_sub (L' := [(0, .ref x_0), (1, .int v1), (2, .int v2), (3, .int v3), (4, .int v4), (5, .int v5), (6, .int v6), (7, .int v7), (8, .int v8), (9, .int v9), (10, .int v10), (11, .int v11)]) [0, 1, 2, 3, 4, 5, 6, 7, 8, 9, 10, 11] rfl ?_
      exact hk9 _ _ hF
    · have hF := o_ifn hF h42
      refine g_aload_n (z := 0) C (tdec DX8_send 166 rfl) rfl rfl rfl ?_
      refine g_iload_n (z := 1) C (tdec DX8_send 167 rfl) rfl rfl rfl ?_
      refine g_bipush (v := 8) C (tdec DX8_send 168 rfl) (by decide) rfl ?_
      refine g_aload_n (z := 0) C (tdec DX8_send 169 rfl) rfl rfl rfl ?_
      refine g_iload_n (z := 1) C (tdec DX8_send 170 rfl) rfl rfl rfl ?_
      refine g_iload (z := 10) C (tdec DX8_send 171 rfl) rfl rfl ?_
      obtain ⟨r43, y44, hF⟩ := o_bind hF
      refine g_callViRS (q0 := 0) (S := [wM cB cI cJ cZ x_0 x_1 x_2 x_3 x_4 x_5 x_6 x_7 x_8 x_9 x_10 x_11 x_12 x_13 x_14 x_15 x_16 x_17 x_18 x_19 x]) (S0 := [wM cB cI cJ cZ x_0 x_1 x_2 x_3 x_4 x_5 x_6 x_7 x_8 x_9 x_10 x_11 x_12 x_13 x_14 x_15 x_16 x_17 x_18 x_19 x]) C (c_X8_told l D cB cI cJ cZ x_0 x_1 x_2 x_3 x_4 x_5 x_6 x_7 x_8 x_9 x_10 x_11 x_12 x_13 x_14 x_15 x_16 x_17 x_18 x_19 y44) rfl rfl (gIV ml_X8_90 im_X8_told sl_X8_told in_X8 cd_X8_told) rfl eX8_told rfl ⟨rfl, rfl⟩ ⟨Nat.le_of_ble_eq_true rfl, Nat.le_of_ble_eq_true rfl⟩ rfl rfl rfl [0] rfl rfl rfl (Nat.le_of_ble_eq_true rfl) (tdec DX8_send 172 rfl) rfl ?_
      refine g_imul C (tdec DX8_send 173 rfl) rfl ?_
      refine g_iload (z := 11) C (tdec DX8_send 174 rfl) rfl rfl ?_
      refine g_iadd C (tdec DX8_send 175 rfl) rfl ?_
      refine g_bipush (v := 64) C (tdec DX8_send 176 rfl) (by decide) rfl ?_
      refine g_iload (z := 7) C (tdec DX8_send 177 rfl) rfl rfl ?_
      refine g_imul C (tdec DX8_send 178 rfl) rfl ?_
      refine g_bipush (v := 8) C (tdec DX8_send 179 rfl) (by decide) rfl ?_
      refine g_iload (z := 9) C (tdec DX8_send 180 rfl) rfl rfl ?_
      refine g_imul C (tdec DX8_send 181 rfl) rfl ?_
      refine g_iadd C (tdec DX8_send 182 rfl) rfl ?_
      refine g_iload (z := 11) C (tdec DX8_send 183 rfl) rfl rfl ?_
      refine g_iadd C (tdec DX8_send 184 rfl) rfl ?_
      refine g_iconst (v := 1) C (tdec DX8_send 185 rfl) (by decide) rfl ?_
      refine g_iload (z := 4) C (tdec DX8_send 186 rfl) rfl rfl ?_
      obtain ⟨⟨r45, s46⟩, y47, hF⟩ := o_bind hF
      refine g_callViMS (q0 := 0) (W' := wM cB cI cJ cZ x_0 x_1 x_2 x_3 x_4 x_5 x_6 x_7 x_8 x_9 x_10 x_11 x_12 x_13 x_14 x_15 x_16 x_17 x_18 x_19 s46) (S := [wM cB cI cJ cZ x_0 x_1 x_2 x_3 x_4 x_5 x_6 x_7 x_8 x_9 x_10 x_11 x_12 x_13 x_14 x_15 x_16 x_17 x_18 x_19 x]) (S0 := [wM cB cI cJ cZ x_0 x_1 x_2 x_3 x_4 x_5 x_6 x_7 x_8 x_9 x_10 x_11 x_12 x_13 x_14 x_15 x_16 x_17 x_18 x_19 x]) (S1 := [wM cB cI cJ cZ x_0 x_1 x_2 x_3 x_4 x_5 x_6 x_7 x_8 x_9 x_10 x_11 x_12 x_13 x_14 x_15 x_16 x_17 x_18 x_19 s46]) (S' := [wM cB cI cJ cZ x_0 x_1 x_2 x_3 x_4 x_5 x_6 x_7 x_8 x_9 x_10 x_11 x_12 x_13 x_14 x_15 x_16 x_17 x_18 x_19 s46]) C (c_X8_brings l D cB cI cJ cZ x_0 x_1 x_2 x_3 x_4 x_5 x_6 x_7 x_8 x_9 x_10 x_11 x_12 x_13 x_14 x_15 x_16 x_17 x_18 x_19 y47) rfl rfl (gIV ml_X8_180 im_X8_brings sl_X8_brings in_X8 cd_X8_brings) rfl eX8_brings rfl ⟨rfl, rfl⟩ ⟨Nat.le_of_ble_eq_true rfl, Nat.le_of_ble_eq_true rfl⟩ rfl rfl rfl [0] rfl rfl rfl rfl (gA_cons aM gA_nil) rfl rfl (Nat.le_of_ble_eq_true rfl) (tdec DX8_send 187 rfl) rfl ?_
      refine g_pop C (tdec DX8_send 188 rfl) rfl rfl ?_
      refine g_iinc (z := 11) (v := (v11 + 1)) (L' := [(11, .int (v11 + 1)), (0, .ref x_0), (1, .int v1), (2, .int v2), (3, .int v3), (4, .int v4), (5, .int v5), (6, .int v6), (7, .int v7), (8, .int v8), (9, .int v9), (10, .int v10)]) C (tdec DX8_send 189 rfl) rfl rfl (by decide) rfl rfl ?_
      refine g_goto (pt := 286) C (tdec DX8_send 190 rfl) (by decide) ?_
      refine g_sub (L' := [(0, .ref x_0), (1, .int v1), (2, .int v2), (3, .int v3), (4, .int v4), (5, .int v5), (6, .int v6), (7, .int v7), (8, .int v8), (9, .int v9), (10, .int v10), (11, .int (v11 + 1))]) [1, 2, 3, 4, 5, 6, 7, 8, 9, 10, 11, 0] rfl ?_
      exact ih9 _ _ hF
set_option maxHeartbeats 4000000 in
set_option maxRecDepth 100000 in
theorem c_FX8_send_L233 {p : Program} {l : Launch} {e : Env} {s : State} {m : MethodId} {args : Array Value} {below : List Frame} {meth : Method} {c : Code} {D : va_G} {cB cI cJ cZ : ClassId} {x_0 x_1 x_2 x_3 x_4 x_5 x_6 x_7 x_8 x_9 x_10 x_11 x_12 x_13 x_14 x_15 x_16 x_17 x_18 x_19 : Nat} {x0 : MS} {res : Int32 × MS} (C : gC p s m args meth c cX8_send 12 RX8 wsX8_send D (gT cB cI cJ cZ) (some .int) (va_A (wM cB cI cJ cZ x_0 x_1 x_2 x_3 x_4 x_5 x_6 x_7 x_8 x_9 x_10 x_11 x_12 x_13 x_14 x_15 x_16 x_17 x_18 x_19 x0) s.heap.size)) {v1 : Int32} {v2 : Int32} {v3 : Int32} {v4 : Int32} {v5 : Int32} {v6 : Int32} {v7 : Int32} {v8 : Int32} {k9 : MS → Int32 → Option (Int32 × MS)} (hk9 : ∀ (x : MS) (v9 : Int32), k9 x v9 = some res → gG p l e (headSpec wsX8_send rX8_send).room s m args below meth c 0 0 D (va_A (wM cB cI cJ cZ x_0 x_1 x_2 x_3 x_4 x_5 x_6 x_7 x_8 x_9 x_10 x_11 x_12 x_13 x_14 x_15 x_16 x_17 x_18 x_19 x0) s.heap.size) (va_A (wM cB cI cJ cZ x_0 x_1 x_2 x_3 x_4 x_5 x_6 x_7 x_8 x_9 x_10 x_11 x_12 x_13 x_14 x_15 x_16 x_17 x_18 x_19 x0) s.heap.size) 12 (MQ below (gQi D (wM cB cI cJ cZ x_0 x_1 x_2 x_3 x_4 x_5 x_6 x_7 x_8 x_9 x_10 x_11 x_12 x_13 x_14 x_15 x_16 x_17 x_18 x_19 x0) s.heap.size res.1 (wM cB cI cJ cZ x_0 x_1 x_2 x_3 x_4 x_5 x_6 x_7 x_8 x_9 x_10 x_11 x_12 x_13 x_14 x_15 x_16 x_17 x_18 x_19 res.2)) args s 0 0 (va_A (wM cB cI cJ cZ x_0 x_1 x_2 x_3 x_4 x_5 x_6 x_7 x_8 x_9 x_10 x_11 x_12 x_13 x_14 x_15 x_16 x_17 x_18 x_19 x0) s.heap.size)) (wM cB cI cJ cZ x_0 x_1 x_2 x_3 x_4 x_5 x_6 x_7 x_8 x_9 x_10 x_11 x_12 x_13 x_14 x_15 x_16 x_17 x_18 x_19 x) 341 [(0, .ref x_0), (1, .int v1), (2, .int v2), (3, .int v3), (4, .int v4), (5, .int v5), (6, .int v6), (7, .int v7), (8, .int v8), (9, .int v9)] []) :
    ∀ (n9 : Nat) (x : MS) (v9 : Int32), FX8_send_L233 v1 v2 v3 v4 v5 v6 v7 v8 k9 n9 x v9 = some res → gG p l e (headSpec wsX8_send rX8_send).room s m args below meth c 0 0 D (va_A (wM cB cI cJ cZ x_0 x_1 x_2 x_3 x_4 x_5 x_6 x_7 x_8 x_9 x_10 x_11 x_12 x_13 x_14 x_15 x_16 x_17 x_18 x_19 x0) s.heap.size) (va_A (wM cB cI cJ cZ x_0 x_1 x_2 x_3 x_4 x_5 x_6 x_7 x_8 x_9 x_10 x_11 x_12 x_13 x_14 x_15 x_16 x_17 x_18 x_19 x0) s.heap.size) 12 (MQ below (gQi D (wM cB cI cJ cZ x_0 x_1 x_2 x_3 x_4 x_5 x_6 x_7 x_8 x_9 x_10 x_11 x_12 x_13 x_14 x_15 x_16 x_17 x_18 x_19 x0) s.heap.size res.1 (wM cB cI cJ cZ x_0 x_1 x_2 x_3 x_4 x_5 x_6 x_7 x_8 x_9 x_10 x_11 x_12 x_13 x_14 x_15 x_16 x_17 x_18 x_19 res.2)) args s 0 0 (va_A (wM cB cI cJ cZ x_0 x_1 x_2 x_3 x_4 x_5 x_6 x_7 x_8 x_9 x_10 x_11 x_12 x_13 x_14 x_15 x_16 x_17 x_18 x_19 x0) s.heap.size)) (wM cB cI cJ cZ x_0 x_1 x_2 x_3 x_4 x_5 x_6 x_7 x_8 x_9 x_10 x_11 x_12 x_13 x_14 x_15 x_16 x_17 x_18 x_19 x) 233 [(0, .ref x_0), (1, .int v1), (2, .int v2), (3, .int v3), (4, .int v4), (5, .int v5), (6, .int v6), (7, .int v7), (8, .int v8), (9, .int v9)] [] := by
  intro n9
  induction n9 with
  | zero =>
    intro x v9 hF
    exact absurd hF (by simp [FX8_send_L233])
  | succ n9 ih9 =>
    intro x v9 hF
    rw [FX8_send_L233] at hF
    refine g_iload (z := 9) C (tdec DX8_send 134 rfl) rfl rfl ?_
    refine g_bipush (v := 8) C (tdec DX8_send 135 rfl) (by decide) rfl ?_
    refine g_icmp_ge (pt := 341) C (tdec DX8_send 136 rfl) (by decide) rfl (fun h35 => ?_) (fun h35 => ?_)
    · have hF := o_ifp hF h35
      refine g_sub (L' := [(0, .ref x_0), (1, .int v1), (2, .int v2), (3, .int v3), (4, .int v4), (5, .int v5), (6, .int v6), (7, .int v7), (8, .int v8), (9, .int v9)]) [0, 1, 2, 3, 4, 5, 6, 7, 8, 9] rfl ?_
      exact hk9 _ _ hF
    · have hF := o_ifn hF h35
      refine g_bipush (v := 8) C (tdec DX8_send 137 rfl) (by decide) rfl ?_
      refine g_aload_n (z := 0) C (tdec DX8_send 138 rfl) rfl rfl rfl ?_
      refine g_iload_n (z := 1) C (tdec DX8_send 139 rfl) rfl rfl rfl ?_
      refine g_iload (z := 8) C (tdec DX8_send 140 rfl) rfl rfl ?_
      obtain ⟨r36, y37, hF⟩ := o_bind hF
      refine g_callViRS (q0 := 0) (S := [wM cB cI cJ cZ x_0 x_1 x_2 x_3 x_4 x_5 x_6 x_7 x_8 x_9 x_10 x_11 x_12 x_13 x_14 x_15 x_16 x_17 x_18 x_19 x]) (S0 := [wM cB cI cJ cZ x_0 x_1 x_2 x_3 x_4 x_5 x_6 x_7 x_8 x_9 x_10 x_11 x_12 x_13 x_14 x_15 x_16 x_17 x_18 x_19 x]) C (c_X8_told l D cB cI cJ cZ x_0 x_1 x_2 x_3 x_4 x_5 x_6 x_7 x_8 x_9 x_10 x_11 x_12 x_13 x_14 x_15 x_16 x_17 x_18 x_19 y37) rfl rfl (gIV ml_X8_90 im_X8_told sl_X8_told in_X8 cd_X8_told) rfl eX8_told rfl ⟨rfl, rfl⟩ ⟨Nat.le_of_ble_eq_true rfl, Nat.le_of_ble_eq_true rfl⟩ rfl rfl rfl [0] rfl rfl rfl (Nat.le_of_ble_eq_true rfl) (tdec DX8_send 141 rfl) rfl ?_
      refine g_imul C (tdec DX8_send 142 rfl) rfl ?_
      refine g_iload (z := 9) C (tdec DX8_send 143 rfl) rfl rfl ?_
      refine g_iadd C (tdec DX8_send 144 rfl) rfl ?_
      refine g_istore (L' := [(10, .int ((8 * r36) + v9)), (0, .ref x_0), (1, .int v1), (2, .int v2), (3, .int v3), (4, .int v4), (5, .int v5), (6, .int v6), (7, .int v7), (8, .int v8), (9, .int v9)]) C (tdec DX8_send 145 rfl) (by decide) rfl rfl ?_
      refine g_aload_n (z := 1) C (tdec DX8_send 146 rfl) rfl rfl rfl ?_
      refine g_iload_n (z := 2) C (tdec DX8_send 147 rfl) rfl rfl rfl ?_
      refine g_iload (z := 0) C (tdec DX8_send 148 rfl) rfl rfl ?_
      refine g_bipush (v := 64) C (tdec DX8_send 149 rfl) (by decide) rfl ?_
      refine g_iload (z := 8) C (tdec DX8_send 150 rfl) rfl rfl ?_
      refine g_imul C (tdec DX8_send 151 rfl) rfl ?_
      refine g_bipush (v := 8) C (tdec DX8_send 152 rfl) (by decide) rfl ?_
      refine g_iload (z := 10) C (tdec DX8_send 153 rfl) rfl rfl ?_
      refine g_imul C (tdec DX8_send 154 rfl) rfl ?_
      refine g_iadd C (tdec DX8_send 155 rfl) rfl ?_
      refine g_bipush (v := 8) C (tdec DX8_send 156 rfl) (by decide) rfl ?_
      refine g_iload (z := 5) C (tdec DX8_send 157 rfl) rfl rfl ?_
      obtain ⟨⟨r38, s39⟩, y40, hF⟩ := o_bind hF
      refine g_callViMS (q0 := 0) (W' := wM cB cI cJ cZ x_0 x_1 x_2 x_3 x_4 x_5 x_6 x_7 x_8 x_9 x_10 x_11 x_12 x_13 x_14 x_15 x_16 x_17 x_18 x_19 s39) (S := [wM cB cI cJ cZ x_0 x_1 x_2 x_3 x_4 x_5 x_6 x_7 x_8 x_9 x_10 x_11 x_12 x_13 x_14 x_15 x_16 x_17 x_18 x_19 x]) (S0 := [wM cB cI cJ cZ x_0 x_1 x_2 x_3 x_4 x_5 x_6 x_7 x_8 x_9 x_10 x_11 x_12 x_13 x_14 x_15 x_16 x_17 x_18 x_19 x]) (S1 := [wM cB cI cJ cZ x_0 x_1 x_2 x_3 x_4 x_5 x_6 x_7 x_8 x_9 x_10 x_11 x_12 x_13 x_14 x_15 x_16 x_17 x_18 x_19 s39]) (S' := [wM cB cI cJ cZ x_0 x_1 x_2 x_3 x_4 x_5 x_6 x_7 x_8 x_9 x_10 x_11 x_12 x_13 x_14 x_15 x_16 x_17 x_18 x_19 s39]) C (c_X8_brings l D cB cI cJ cZ x_0 x_1 x_2 x_3 x_4 x_5 x_6 x_7 x_8 x_9 x_10 x_11 x_12 x_13 x_14 x_15 x_16 x_17 x_18 x_19 y40) rfl rfl (gIV ml_X8_180 im_X8_brings sl_X8_brings in_X8 cd_X8_brings) rfl eX8_brings rfl ⟨rfl, rfl⟩ ⟨Nat.le_of_ble_eq_true rfl, Nat.le_of_ble_eq_true rfl⟩ rfl rfl rfl [0] rfl rfl rfl rfl (gA_cons aM gA_nil) rfl rfl (Nat.le_of_ble_eq_true rfl) (tdec DX8_send 158 rfl) rfl ?_
      refine g_if_ne (pt := 283) C (tdec DX8_send 159 rfl) (by decide) rfl (fun h41 => ?_) (fun h41 => ?_)
      · have hF := o_ifn hF h41
        refine g_iconst (v := 0) C (tdec DX8_send 161 rfl) (by decide) rfl ?_
        refine g_istore (L' := [(11, .int 0), (10, .int ((8 * r36) + v9)), (0, .ref x_0), (1, .int v1), (2, .int v2), (3, .int v3), (4, .int v4), (5, .int v5), (6, .int v6), (7, .int v7), (8, .int v8), (9, .int v9)]) C (tdec DX8_send 162 rfl) (by decide) rfl rfl ?_
        refine g_sub (L' := [(0, .ref x_0), (1, .int v1), (2, .int v2), (3, .int v3), (4, .int v4), (5, .int v5), (6, .int v6), (7, .int v7), (8, .int v8), (9, .int v9), (10, .int ((8 * r36) + v9)), (11, .int 0)]) [2, 3, 4, 5, 6, 7, 8, 9, 10, 11, 1, 0] rfl ?_
        refine c_FX8_send_L286 C (fun xq48 w11_48 hF => ?_) 100000 _ _ hF
        refine g_iinc (z := 9) (v := (v9 + 1)) (L' := [(9, .int (v9 + 1)), (0, .ref x_0), (1, .int v1), (2, .int v2), (3, .int v3), (4, .int v4), (5, .int v5), (6, .int v6), (7, .int v7), (8, .int v8), (10, .int ((8 * r36) + v9)), (11, .int w11_48)]) C (tdec DX8_send 191 rfl) rfl rfl (by decide) rfl rfl ?_
        refine g_goto (pt := 233) C (tdec DX8_send 192 rfl) (by decide) ?_
        refine g_sub (L' := [(0, .ref x_0), (1, .int v1), (2, .int v2), (3, .int v3), (4, .int v4), (5, .int v5), (6, .int v6), (7, .int v7), (8, .int v8), (9, .int (v9 + 1))]) [1, 2, 3, 4, 5, 6, 7, 8, 9, 0] rfl ?_
        exact ih9 _ _ hF
      · have hF := o_ifp hF h41
        refine g_goto (pt := 335) C (tdec DX8_send 160 rfl) (by decide) ?_
        refine g_iinc (z := 10) (v := (v9 + 1)) (L' := [(9, .int (v9 + 1)), (10, .int ((8 * r36) + v9)), (0, .ref x_0), (1, .int v1), (2, .int v2), (3, .int v3), (4, .int v4), (5, .int v5), (6, .int v6), (7, .int v7), (8, .int v8)]) C (tdec DX8_send 191 rfl) rfl rfl (by decide) rfl rfl ?_
        refine g_goto (pt := 233) C (tdec DX8_send 192 rfl) (by decide) ?_
        refine g_sub (L' := [(0, .ref x_0), (1, .int v1), (2, .int v2), (3, .int v3), (4, .int v4), (5, .int v5), (6, .int v6), (7, .int v7), (8, .int v8), (9, .int (v9 + 1))]) [2, 3, 4, 5, 6, 7, 8, 9, 10, 0] rfl ?_
        exact ih9 _ _ hF
set_option maxHeartbeats 4000000 in
set_option maxRecDepth 100000 in
theorem c_FX8_send_L181 {p : Program} {l : Launch} {e : Env} {s : State} {m : MethodId} {args : Array Value} {below : List Frame} {meth : Method} {c : Code} {D : va_G} {cB cI cJ cZ : ClassId} {x_0 x_1 x_2 x_3 x_4 x_5 x_6 x_7 x_8 x_9 x_10 x_11 x_12 x_13 x_14 x_15 x_16 x_17 x_18 x_19 : Nat} {x0 : MS} {res : Int32 × MS} (C : gC p s m args meth c cX8_send 12 RX8 wsX8_send D (gT cB cI cJ cZ) (some .int) (va_A (wM cB cI cJ cZ x_0 x_1 x_2 x_3 x_4 x_5 x_6 x_7 x_8 x_9 x_10 x_11 x_12 x_13 x_14 x_15 x_16 x_17 x_18 x_19 x0) s.heap.size)) {v1 : Int32} {v2 : Int32} {v3 : Int32} {v4 : Int32} {v5 : Int32} {v6 : Int32} {k9 : MS → Int32 → Option (Int32 × MS)} (hk9 : ∀ (x : MS) (v7 : Int32), k9 x v7 = some res → gG p l e (headSpec wsX8_send rX8_send).room s m args below meth c 0 0 D (va_A (wM cB cI cJ cZ x_0 x_1 x_2 x_3 x_4 x_5 x_6 x_7 x_8 x_9 x_10 x_11 x_12 x_13 x_14 x_15 x_16 x_17 x_18 x_19 x0) s.heap.size) (va_A (wM cB cI cJ cZ x_0 x_1 x_2 x_3 x_4 x_5 x_6 x_7 x_8 x_9 x_10 x_11 x_12 x_13 x_14 x_15 x_16 x_17 x_18 x_19 x0) s.heap.size) 12 (MQ below (gQi D (wM cB cI cJ cZ x_0 x_1 x_2 x_3 x_4 x_5 x_6 x_7 x_8 x_9 x_10 x_11 x_12 x_13 x_14 x_15 x_16 x_17 x_18 x_19 x0) s.heap.size res.1 (wM cB cI cJ cZ x_0 x_1 x_2 x_3 x_4 x_5 x_6 x_7 x_8 x_9 x_10 x_11 x_12 x_13 x_14 x_15 x_16 x_17 x_18 x_19 res.2)) args s 0 0 (va_A (wM cB cI cJ cZ x_0 x_1 x_2 x_3 x_4 x_5 x_6 x_7 x_8 x_9 x_10 x_11 x_12 x_13 x_14 x_15 x_16 x_17 x_18 x_19 x0) s.heap.size)) (wM cB cI cJ cZ x_0 x_1 x_2 x_3 x_4 x_5 x_6 x_7 x_8 x_9 x_10 x_11 x_12 x_13 x_14 x_15 x_16 x_17 x_18 x_19 x) 347 [(0, .ref x_0), (1, .int v1), (2, .int v2), (3, .int v3), (4, .int v4), (5, .int v5), (6, .int v6), (7, .int v7)] []) :
    ∀ (n9 : Nat) (x : MS) (v7 : Int32), FX8_send_L181 v1 v2 v3 v4 v5 v6 k9 n9 x v7 = some res → gG p l e (headSpec wsX8_send rX8_send).room s m args below meth c 0 0 D (va_A (wM cB cI cJ cZ x_0 x_1 x_2 x_3 x_4 x_5 x_6 x_7 x_8 x_9 x_10 x_11 x_12 x_13 x_14 x_15 x_16 x_17 x_18 x_19 x0) s.heap.size) (va_A (wM cB cI cJ cZ x_0 x_1 x_2 x_3 x_4 x_5 x_6 x_7 x_8 x_9 x_10 x_11 x_12 x_13 x_14 x_15 x_16 x_17 x_18 x_19 x0) s.heap.size) 12 (MQ below (gQi D (wM cB cI cJ cZ x_0 x_1 x_2 x_3 x_4 x_5 x_6 x_7 x_8 x_9 x_10 x_11 x_12 x_13 x_14 x_15 x_16 x_17 x_18 x_19 x0) s.heap.size res.1 (wM cB cI cJ cZ x_0 x_1 x_2 x_3 x_4 x_5 x_6 x_7 x_8 x_9 x_10 x_11 x_12 x_13 x_14 x_15 x_16 x_17 x_18 x_19 res.2)) args s 0 0 (va_A (wM cB cI cJ cZ x_0 x_1 x_2 x_3 x_4 x_5 x_6 x_7 x_8 x_9 x_10 x_11 x_12 x_13 x_14 x_15 x_16 x_17 x_18 x_19 x0) s.heap.size)) (wM cB cI cJ cZ x_0 x_1 x_2 x_3 x_4 x_5 x_6 x_7 x_8 x_9 x_10 x_11 x_12 x_13 x_14 x_15 x_16 x_17 x_18 x_19 x) 181 [(0, .ref x_0), (1, .int v1), (2, .int v2), (3, .int v3), (4, .int v4), (5, .int v5), (6, .int v6), (7, .int v7)] [] := by
  intro n9
  induction n9 with
  | zero =>
    intro x v7 hF
    exact absurd hF (by simp [FX8_send_L181])
  | succ n9 ih9 =>
    intro x v7 hF
    rw [FX8_send_L181] at hF
    refine g_iload (z := 7) C (tdec DX8_send 107 rfl) rfl rfl ?_
    refine g_bipush (v := 8) C (tdec DX8_send 108 rfl) (by decide) rfl ?_
    refine g_icmp_ge (pt := 347) C (tdec DX8_send 109 rfl) (by decide) rfl (fun h27 => ?_) (fun h27 => ?_)
    · have hF := o_ifp hF h27
      refine g_sub (L' := [(0, .ref x_0), (1, .int v1), (2, .int v2), (3, .int v3), (4, .int v4), (5, .int v5), (6, .int v6), (7, .int v7)]) [0, 1, 2, 3, 4, 5, 6, 7] rfl ?_
      exact hk9 _ _ hF
    · have hF := o_ifn hF h27
      refine g_iload (z := 6) C (tdec DX8_send 110 rfl) rfl rfl ?_
      refine g_if_eq (pt := 347) C (tdec DX8_send 111 rfl) (by decide) rfl (fun h28 => ?_) (fun h28 => ?_)
      · have hF := o_ifp hF h28
        refine g_sub (L' := [(0, .ref x_0), (1, .int v1), (2, .int v2), (3, .int v3), (4, .int v4), (5, .int v5), (6, .int v6), (7, .int v7)]) [0, 1, 2, 3, 4, 5, 6, 7] rfl ?_
        exact hk9 _ _ hF
      · have hF := o_ifn hF h28
        refine g_bipush (v := 8) C (tdec DX8_send 112 rfl) (by decide) rfl ?_
        refine g_aload_n (z := 0) C (tdec DX8_send 113 rfl) rfl rfl rfl ?_
        refine g_iload_n (z := 1) C (tdec DX8_send 114 rfl) rfl rfl rfl ?_
        refine g_iload (z := 5) C (tdec DX8_send 115 rfl) rfl rfl ?_
        obtain ⟨r29, y30, hF⟩ := o_bind hF
        refine g_callViRS (q0 := 0) (S := [wM cB cI cJ cZ x_0 x_1 x_2 x_3 x_4 x_5 x_6 x_7 x_8 x_9 x_10 x_11 x_12 x_13 x_14 x_15 x_16 x_17 x_18 x_19 x]) (S0 := [wM cB cI cJ cZ x_0 x_1 x_2 x_3 x_4 x_5 x_6 x_7 x_8 x_9 x_10 x_11 x_12 x_13 x_14 x_15 x_16 x_17 x_18 x_19 x]) C (c_X8_told l D cB cI cJ cZ x_0 x_1 x_2 x_3 x_4 x_5 x_6 x_7 x_8 x_9 x_10 x_11 x_12 x_13 x_14 x_15 x_16 x_17 x_18 x_19 y30) rfl rfl (gIV ml_X8_90 im_X8_told sl_X8_told in_X8 cd_X8_told) rfl eX8_told rfl ⟨rfl, rfl⟩ ⟨Nat.le_of_ble_eq_true rfl, Nat.le_of_ble_eq_true rfl⟩ rfl rfl rfl [0] rfl rfl rfl (Nat.le_of_ble_eq_true rfl) (tdec DX8_send 116 rfl) rfl ?_
        refine g_imul C (tdec DX8_send 117 rfl) rfl ?_
        refine g_iload (z := 7) C (tdec DX8_send 118 rfl) rfl rfl ?_
        refine g_iadd C (tdec DX8_send 119 rfl) rfl ?_
        refine g_istore (L' := [(8, .int ((8 * r29) + v7)), (0, .ref x_0), (1, .int v1), (2, .int v2), (3, .int v3), (4, .int v4), (5, .int v5), (6, .int v6), (7, .int v7)]) C (tdec DX8_send 120 rfl) (by decide) rfl rfl ?_
        refine g_aload_n (z := 1) C (tdec DX8_send 121 rfl) rfl rfl rfl ?_
        refine g_iload_n (z := 2) C (tdec DX8_send 122 rfl) rfl rfl rfl ?_
        refine g_iload (z := 0) C (tdec DX8_send 123 rfl) rfl rfl ?_
        refine g_bipush (v := 64) C (tdec DX8_send 124 rfl) (by decide) rfl ?_
        refine g_iload (z := 8) C (tdec DX8_send 125 rfl) rfl rfl ?_
        refine g_imul C (tdec DX8_send 126 rfl) rfl ?_
        refine g_bipush (v := 64) C (tdec DX8_send 127 rfl) (by decide) rfl ?_
        refine g_iload (z := 5) C (tdec DX8_send 128 rfl) rfl rfl ?_
        obtain ⟨⟨r31, s32⟩, y33, hF⟩ := o_bind hF
        refine g_callViMS (q0 := 0) (W' := wM cB cI cJ cZ x_0 x_1 x_2 x_3 x_4 x_5 x_6 x_7 x_8 x_9 x_10 x_11 x_12 x_13 x_14 x_15 x_16 x_17 x_18 x_19 s32) (S := [wM cB cI cJ cZ x_0 x_1 x_2 x_3 x_4 x_5 x_6 x_7 x_8 x_9 x_10 x_11 x_12 x_13 x_14 x_15 x_16 x_17 x_18 x_19 x]) (S0 := [wM cB cI cJ cZ x_0 x_1 x_2 x_3 x_4 x_5 x_6 x_7 x_8 x_9 x_10 x_11 x_12 x_13 x_14 x_15 x_16 x_17 x_18 x_19 x]) (S1 := [wM cB cI cJ cZ x_0 x_1 x_2 x_3 x_4 x_5 x_6 x_7 x_8 x_9 x_10 x_11 x_12 x_13 x_14 x_15 x_16 x_17 x_18 x_19 s32]) (S' := [wM cB cI cJ cZ x_0 x_1 x_2 x_3 x_4 x_5 x_6 x_7 x_8 x_9 x_10 x_11 x_12 x_13 x_14 x_15 x_16 x_17 x_18 x_19 s32]) C (c_X8_brings l D cB cI cJ cZ x_0 x_1 x_2 x_3 x_4 x_5 x_6 x_7 x_8 x_9 x_10 x_11 x_12 x_13 x_14 x_15 x_16 x_17 x_18 x_19 y33) rfl rfl (gIV ml_X8_180 im_X8_brings sl_X8_brings in_X8 cd_X8_brings) rfl eX8_brings rfl ⟨rfl, rfl⟩ ⟨Nat.le_of_ble_eq_true rfl, Nat.le_of_ble_eq_true rfl⟩ rfl rfl rfl [0] rfl rfl rfl rfl (gA_cons aM gA_nil) rfl rfl (Nat.le_of_ble_eq_true rfl) (tdec DX8_send 129 rfl) rfl ?_
        refine g_if_ne (pt := 230) C (tdec DX8_send 130 rfl) (by decide) rfl (fun h34 => ?_) (fun h34 => ?_)
        · have hF := o_ifn hF h34
          refine g_iconst (v := 0) C (tdec DX8_send 132 rfl) (by decide) rfl ?_
          refine g_istore (L' := [(9, .int 0), (8, .int ((8 * r29) + v7)), (0, .ref x_0), (1, .int v1), (2, .int v2), (3, .int v3), (4, .int v4), (5, .int v5), (6, .int v6), (7, .int v7)]) C (tdec DX8_send 133 rfl) (by decide) rfl rfl ?_
          refine g_sub (L' := [(0, .ref x_0), (1, .int v1), (2, .int v2), (3, .int v3), (4, .int v4), (5, .int v5), (6, .int v6), (7, .int v7), (8, .int ((8 * r29) + v7)), (9, .int 0)]) [2, 3, 4, 5, 6, 7, 8, 9, 1, 0] rfl ?_
          refine c_FX8_send_L233 C (fun xq49 w9_49 hF => ?_) 100000 _ _ hF
          refine g_iinc (z := 7) (v := (v7 + 1)) (L' := [(7, .int (v7 + 1)), (0, .ref x_0), (1, .int v1), (2, .int v2), (3, .int v3), (4, .int v4), (5, .int v5), (6, .int v6), (8, .int ((8 * r29) + v7)), (9, .int w9_49)]) C (tdec DX8_send 193 rfl) rfl rfl (by decide) rfl rfl ?_
          refine g_goto (pt := 181) C (tdec DX8_send 194 rfl) (by decide) ?_
          refine g_sub (L' := [(0, .ref x_0), (1, .int v1), (2, .int v2), (3, .int v3), (4, .int v4), (5, .int v5), (6, .int v6), (7, .int (v7 + 1))]) [1, 2, 3, 4, 5, 6, 7, 0] rfl ?_
          exact ih9 _ _ hF
        · have hF := o_ifp hF h34
          refine g_goto (pt := 341) C (tdec DX8_send 131 rfl) (by decide) ?_
          refine g_iinc (z := 8) (v := (v7 + 1)) (L' := [(7, .int (v7 + 1)), (8, .int ((8 * r29) + v7)), (0, .ref x_0), (1, .int v1), (2, .int v2), (3, .int v3), (4, .int v4), (5, .int v5), (6, .int v6)]) C (tdec DX8_send 193 rfl) rfl rfl (by decide) rfl rfl ?_
          refine g_goto (pt := 181) C (tdec DX8_send 194 rfl) (by decide) ?_
          refine g_sub (L' := [(0, .ref x_0), (1, .int v1), (2, .int v2), (3, .int v3), (4, .int v4), (5, .int v5), (6, .int v6), (7, .int (v7 + 1))]) [2, 3, 4, 5, 6, 7, 8, 0] rfl ?_
          exact ih9 _ _ hF
set_option maxHeartbeats 4000000 in
set_option maxRecDepth 100000 in
theorem c_X8_send (l : Launch) (D : va_G) (cB cI cJ cZ : ClassId) (x_0 x_1 x_2 x_3 x_4 x_5 x_6 x_7 x_8 x_9 x_10 x_11 x_12 x_13 x_14 x_15 x_16 x_17 x_18 x_19 : Nat) {x0 : MS} {p1 : Int32} {p2 : Int32} {p3 : Int32} {res : Int32 × MS} (hF : FX8_send x0 p1 p2 p3 = some res) : gMi l yX8_send wsX8_send rX8_send D (gT cB cI cJ cZ) [.ref x_0, .int p1, .int p2, .int p3] (wM cB cI cJ cZ x_0 x_1 x_2 x_3 x_4 x_5 x_6 x_7 x_8 x_9 x_10 x_11 x_12 x_13 x_14 x_15 x_16 x_17 x_18 x_19 x0) res.1 (wM cB cI cJ cZ x_0 x_1 x_2 x_3 x_4 x_5 x_6 x_7 x_8 x_9 x_10 x_11 x_12 x_13 x_14 x_15 x_16 x_17 x_18 x_19 res.2) := by
  refine g_enter (own := RX8) (free := (fun sz => va_A (wM cB cI cJ cZ x_0 x_1 x_2 x_3 x_4 x_5 x_6 x_7 x_8 x_9 x_10 x_11 x_12 x_13 x_14 x_15 x_16 x_17 x_18 x_19 x0) sz)) (Qc := (fun sz => gQi D (wM cB cI cJ cZ x_0 x_1 x_2 x_3 x_4 x_5 x_6 x_7 x_8 x_9 x_10 x_11 x_12 x_13 x_14 x_15 x_16 x_17 x_18 x_19 x0) sz res.1 (wM cB cI cJ cZ x_0 x_1 x_2 x_3 x_4 x_5 x_6 x_7 x_8 x_9 x_10 x_11 x_12 x_13 x_14 x_15 x_16 x_17 x_18 x_19 res.2))) (fun sz => va_A (wM cB cI cJ cZ x_0 x_1 x_2 x_3 x_4 x_5 x_6 x_7 x_8 x_9 x_10 x_11 x_12 x_13 x_14 x_15 x_16 x_17 x_18 x_19 x0) sz) (fun sz => Or.inr rfl) rfl (by decide) rfl (Nat.le_of_ble_eq_true rfl) rfl ?_
  intro p e s m args below meth c C
  unfold FX8_send at hF
  refine g_aload_n (z := 0) C (tdec DX8_send 0 rfl) rfl rfl rfl ?_
  refine g_iload_n (z := 1) C (tdec DX8_send 1 rfl) rfl rfl rfl ?_
  obtain ⟨r1, y2, hF⟩ := o_bind hF
  refine g_callSiR C (c_X8_isVolume l D cB cI cJ cZ y2) (gIS ml_X8_82 st_X8_isVolume in_X8 cd_X8_isVolume) eX8_isVolume rfl ⟨rfl, rfl⟩ ⟨Nat.le_of_ble_eq_true rfl, Nat.le_of_ble_eq_true rfl⟩ rfl [] rfl rfl rfl (Nat.le_of_ble_eq_true rfl) (tdec DX8_send 2 rfl) rfl ?_
  refine g_if_ne (pt := 12) C (tdec DX8_send 3 rfl) (by decide) rfl (fun h3 => ?_) (fun h3 => ?_)
  · have hF := o_ifn hF h3
    refine g_aload_n (z := 0) C (tdec DX8_send 6 rfl) rfl rfl rfl ?_
    refine g_iload_n (z := 1) C (tdec DX8_send 7 rfl) rfl rfl rfl ?_
    refine g_iload_n (z := 3) C (tdec DX8_send 8 rfl) rfl rfl rfl ?_
    obtain ⟨r4, y5, hF⟩ := o_bind hF
    refine g_callViRS (q0 := 0) (S := [wM cB cI cJ cZ x_0 x_1 x_2 x_3 x_4 x_5 x_6 x_7 x_8 x_9 x_10 x_11 x_12 x_13 x_14 x_15 x_16 x_17 x_18 x_19 x0]) (S0 := [wM cB cI cJ cZ x_0 x_1 x_2 x_3 x_4 x_5 x_6 x_7 x_8 x_9 x_10 x_11 x_12 x_13 x_14 x_15 x_16 x_17 x_18 x_19 x0]) C (c_X8_isSnap l D cB cI cJ cZ x_0 x_1 x_2 x_3 x_4 x_5 x_6 x_7 x_8 x_9 x_10 x_11 x_12 x_13 x_14 x_15 x_16 x_17 x_18 x_19 y5) rfl rfl (gIV ml_X8_141 im_X8_isSnap sl_X8_isSnap in_X8 cd_X8_isSnap) rfl eX8_isSnap rfl ⟨rfl, rfl⟩ ⟨Nat.le_of_ble_eq_true rfl, Nat.le_of_ble_eq_true rfl⟩ rfl rfl rfl [0] rfl rfl rfl (Nat.le_of_ble_eq_true rfl) (tdec DX8_send 9 rfl) rfl ?_
    refine g_if_ne (pt := 25) C (tdec DX8_send 10 rfl) (by decide) rfl (fun h6 => ?_) (fun h6 => ?_)
    · have hF := o_ifn hF h6
      refine g_iload_n (z := 2) C (tdec DX8_send 13 rfl) rfl rfl rfl ?_
      refine g_iconst (v := (-1)) C (tdec DX8_send 14 rfl) (by decide) rfl ?_
      refine g_icmp_lt (pt := 35) C (tdec DX8_send 15 rfl) (by decide) rfl (fun h7 => ?_) (fun h7 => ?_)
      · have hF := o_ifp hF h7
        refine g_iconst (v := 3) C (tdec DX8_send 19 rfl) (by decide) rfl ?_
        refine g_goto (pt := 40) C (tdec DX8_send 20 rfl) (by decide) ?_
        refine g_putf (C' := RX8) (T := TX8) (N := 27) (v := .int 3) (ws' := wM cB cI cJ cZ x_0 x_1 x_2 x_3 x_4 x_5 x_6 x_7 x_8 x_9 x_10 x_11 x_12 x_13 x_14 x_15 x_16 x_17 x_18 x_19 (MS_setthr x0 3)) C 0 0 tyX8 tyX8_ok nmX8 (gIn iw_X8) rfl rfl (by decide) (gMem fl_X8_78) rfl rfl (tyX8_ok 0 (by decide)) rfl rfl (Nat.le_of_ble_eq_true rfl) rfl (tdec DX8_send 22 rfl) rfl ?_
        refine g_aload_n (z := 0) C (tdec DX8_send 23 rfl) rfl rfl rfl ?_
        refine g_getf (C' := RX8) (T := TX8) (N := 27) (v := .int 3) C 0 0 (gIn iw_X8) rfl rfl (by decide) (gMem fl_X8_78) rfl rfl (tdec DX8_send 24 rfl) rfl ?_
        refine g_if_le (pt := 52) C (tdec DX8_send 25 rfl) (by decide) rfl (fun h => absurd h (by decide)) (fun _ => ?_)
        refine g_iconst (v := 0) C (tdec DX8_send 26 rfl) (by decide) rfl ?_
        have hr9 := o_some hF
        subst hr9
        exact g_iret C rfl rfl (tdec DX8_send 27 rfl)
      · have hF := o_ifn hF h7
        refine g_iload_n (z := 2) C (tdec DX8_send 16 rfl) rfl rfl rfl ?_
        refine g_iload_n (z := 3) C (tdec DX8_send 17 rfl) rfl rfl rfl ?_
        refine g_icmp_lt (pt := 39) C (tdec DX8_send 18 rfl) (by decide) rfl (fun h8 => ?_) (fun h8 => ?_)
        · have hF := o_ifp hF h8
          refine g_iconst (v := 0) C (tdec DX8_send 21 rfl) (by decide) rfl ?_
          refine g_putf (C' := RX8) (T := TX8) (N := 27) (v := .int 0) (ws' := wM cB cI cJ cZ x_0 x_1 x_2 x_3 x_4 x_5 x_6 x_7 x_8 x_9 x_10 x_11 x_12 x_13 x_14 x_15 x_16 x_17 x_18 x_19 (MS_setthr x0 0)) C 0 0 tyX8 tyX8_ok nmX8 (gIn iw_X8) rfl rfl (by decide) (gMem fl_X8_78) rfl rfl (tyX8_ok 0 (by decide)) rfl rfl (Nat.le_of_ble_eq_true rfl) rfl (tdec DX8_send 22 rfl) rfl ?_
          refine g_aload_n (z := 0) C (tdec DX8_send 23 rfl) rfl rfl rfl ?_
          refine g_getf (C' := RX8) (T := TX8) (N := 27) (v := .int 0) C 0 0 (gIn iw_X8) rfl rfl (by decide) (gMem fl_X8_78) rfl rfl (tdec DX8_send 24 rfl) rfl ?_
          refine g_if_le (pt := 52) C (tdec DX8_send 25 rfl) (by decide) rfl (fun _ => ?_) (fun h => absurd h (by decide))
          refine g_aload_n (z := 0) C (tdec DX8_send 28 rfl) rfl rfl rfl ?_
          refine g_iconst (v := 0) C (tdec DX8_send 29 rfl) (by decide) rfl ?_
          refine g_putf (C' := RX8) (T := TX8) (N := 27) (v := .int 0) (ws' := wM cB cI cJ cZ x_0 x_1 x_2 x_3 x_4 x_5 x_6 x_7 x_8 x_9 x_10 x_11 x_12 x_13 x_14 x_15 x_16 x_17 x_18 x_19 (MS_setlen (MS_setthr x0 0) 0)) C 0 19 tyX8 tyX8_ok nmX8 (gIn iw_X8) rfl rfl (by decide) (gMem fl_X8_147) rfl rfl (tyX8_ok 19 (by decide)) rfl rfl (Nat.le_of_ble_eq_true rfl) rfl (tdec DX8_send 30 rfl) rfl ?_
          refine g_aload_n (z := 0) C (tdec DX8_send 31 rfl) rfl rfl rfl ?_
          refine g_iconst (v := 0) C (tdec DX8_send 32 rfl) (by decide) rfl ?_
          refine g_putf (C' := RX8) (T := TX8) (N := 27) (v := .int 0) (ws' := wM cB cI cJ cZ x_0 x_1 x_2 x_3 x_4 x_5 x_6 x_7 x_8 x_9 x_10 x_11 x_12 x_13 x_14 x_15 x_16 x_17 x_18 x_19 (MS_setrf (MS_setlen (MS_setthr x0 0) 0) 0)) C 0 26 tyX8 tyX8_ok nmX8 (gIn iw_X8) rfl rfl (by decide) (gMem fl_X8_152) rfl rfl (tyX8_ok 26 (by decide)) rfl rfl (Nat.le_of_ble_eq_true rfl) rfl (tdec DX8_send 33 rfl) rfl ?_
          refine g_aload_n (z := 0) C (tdec DX8_send 34 rfl) rfl rfl rfl ?_
          refine g_iconst (v := 0) C (tdec DX8_send 35 rfl) (by decide) rfl ?_
          refine g_putf (C' := RX8) (T := TX8) (N := 27) (v := .int 0) (ws' := wM cB cI cJ cZ x_0 x_1 x_2 x_3 x_4 x_5 x_6 x_7 x_8 x_9 x_10 x_11 x_12 x_13 x_14 x_15 x_16 x_17 x_18 x_19 (MS_setrecs (MS_setrf (MS_setlen (MS_setthr x0 0) 0) 0) 0)) C 0 20 tyX8 tyX8_ok nmX8 (gIn iw_X8) rfl rfl (by decide) (gMem fl_X8_163) rfl rfl (tyX8_ok 20 (by decide)) rfl rfl (Nat.le_of_ble_eq_true rfl) rfl (tdec DX8_send 36 rfl) rfl ?_
          refine g_aload_n (z := 0) C (tdec DX8_send 37 rfl) rfl rfl rfl ?_
          refine g_iconst (v := 0) C (tdec DX8_send 38 rfl) (by decide) rfl ?_
          refine g_putf (C' := RX8) (T := TX8) (N := 27) (v := .int 0) (ws' := wM cB cI cJ cZ x_0 x_1 x_2 x_3 x_4 x_5 x_6 x_7 x_8 x_9 x_10 x_11 x_12 x_13 x_14 x_15 x_16 x_17 x_18 x_19 (MS_setwr (MS_setrecs (MS_setrf (MS_setlen (MS_setthr x0 0) 0) 0) 0) 0)) C 0 21 tyX8 tyX8_ok nmX8 (gIn iw_X8) rfl rfl (by decide) (gMem fl_X8_178) rfl rfl (tyX8_ok 21 (by decide)) rfl rfl (Nat.le_of_ble_eq_true rfl) rfl (tdec DX8_send 39 rfl) rfl ?_
          refine g_aload_n (z := 0) C (tdec DX8_send 40 rfl) rfl rfl rfl ?_
          refine g_iconst (v := 0) C (tdec DX8_send 41 rfl) (by decide) rfl ?_
          refine g_putf (C' := RX8) (T := TX8) (N := 27) (v := .int 0) (ws' := wM cB cI cJ cZ x_0 x_1 x_2 x_3 x_4 x_5 x_6 x_7 x_8 x_9 x_10 x_11 x_12 x_13 x_14 x_15 x_16 x_17 x_18 x_19 (MS_setcl (MS_setwr (MS_setrecs (MS_setrf (MS_setlen (MS_setthr x0 0) 0) 0) 0) 0) 0)) C 0 22 tyX8 tyX8_ok nmX8 (gIn iw_X8) rfl rfl (by decide) (gMem fl_X8_171) rfl rfl (tyX8_ok 22 (by decide)) rfl rfl (Nat.le_of_ble_eq_true rfl) rfl (tdec DX8_send 42 rfl) rfl ?_
          refine g_aload_n (z := 0) C (tdec DX8_send 43 rfl) rfl rfl rfl ?_
          refine g_iconst (v := 0) C (tdec DX8_send 44 rfl) (by decide) rfl ?_
          refine g_putf (C' := RX8) (T := TX8) (N := 27) (v := .int 0) (ws' := wM cB cI cJ cZ x_0 x_1 x_2 x_3 x_4 x_5 x_6 x_7 x_8 x_9 x_10 x_11 x_12 x_13 x_14 x_15 x_16 x_17 x_18 x_19 (MS_setsn (MS_setcl (MS_setwr (MS_setrecs (MS_setrf (MS_setlen (MS_setthr x0 0) 0) 0) 0) 0) 0) 0)) C 0 23 tyX8 tyX8_ok nmX8 (gIn iw_X8) rfl rfl (by decide) (gMem fl_X8_173) rfl rfl (tyX8_ok 23 (by decide)) rfl rfl (Nat.le_of_ble_eq_true rfl) rfl (tdec DX8_send 45 rfl) rfl ?_
          refine g_iload_n (z := 2) C (tdec DX8_send 46 rfl) rfl rfl rfl ?_
          refine g_iconst (v := (-1)) C (tdec DX8_send 47 rfl) (by decide) rfl ?_
          refine g_icmp_ne (pt := 91) C (tdec DX8_send 48 rfl) (by decide) rfl (fun h9 => ?_) (fun h9 => ?_)
          · have hF := o_ifn hF h9
            refine g_aload_n (z := 0) C (tdec DX8_send 51 rfl) rfl rfl rfl ?_
            refine g_getf (C' := RX8) (T := TX8) (N := 27) (v := .ref x_11) C 0 11 (gIn iw_X8) rfl rfl (by decide) (gMem fl_X8_42) rfl rfl (tdec DX8_send 52 rfl) rfl ?_
            refine g_bipush (v := 20) C (tdec DX8_send 53 rfl) (by decide) rfl ?_
            refine g_iload_n (z := 1) C (tdec DX8_send 54 rfl) rfl rfl rfl ?_
            refine g_imul C (tdec DX8_send 55 rfl) rfl ?_
            refine g_iload_n (z := 2) C (tdec DX8_send 56 rfl) rfl rfl rfl ?_
            refine g_iadd C (tdec DX8_send 57 rfl) rfl ?_
            obtain ⟨r10, y11, hF⟩ := o_bind hF
            refine g_iald C 11 1 rfl rfl y11 (tdec DX8_send 58 rfl) rfl ?_
            refine g_istore (L' := [(4, .int r10), (0, .ref x_0), (1, .int p1), (2, .int p2), (3, .int p3)]) C (tdec DX8_send 59 rfl) (by decide) rfl rfl ?_
            refine g_aload_n (z := 1) C (tdec DX8_send 60 rfl) rfl rfl rfl ?_
            refine g_lconst (v := 1) C (tdec DX8_send 61 rfl) (by decide) rfl ?_
            refine g_iconst (v := 1) C (tdec DX8_send 62 rfl) (by decide) rfl ?_
            obtain ⟨s12, y13, hF⟩ := o_bind hF
            refine g_callVvMS (q0 := 0) (W' := wM cB cI cJ cZ x_0 x_1 x_2 x_3 x_4 x_5 x_6 x_7 x_8 x_9 x_10 x_11 x_12 x_13 x_14 x_15 x_16 x_17 x_18 x_19 s12) (S := [wM cB cI cJ cZ x_0 x_1 x_2 x_3 x_4 x_5 x_6 x_7 x_8 x_9 x_10 x_11 x_12 x_13 x_14 x_15 x_16 x_17 x_18 x_19 (MS_setsn (MS_setcl (MS_setwr (MS_setrecs (MS_setrf (MS_setlen (MS_setthr x0 0) 0) 0) 0) 0) 0) 0)]) (S0 := [wM cB cI cJ cZ x_0 x_1 x_2 x_3 x_4 x_5 x_6 x_7 x_8 x_9 x_10 x_11 x_12 x_13 x_14 x_15 x_16 x_17 x_18 x_19 (MS_setsn (MS_setcl (MS_setwr (MS_setrecs (MS_setrf (MS_setlen (MS_setthr x0 0) 0) 0) 0) 0) 0) 0)]) (S1 := [wM cB cI cJ cZ x_0 x_1 x_2 x_3 x_4 x_5 x_6 x_7 x_8 x_9 x_10 x_11 x_12 x_13 x_14 x_15 x_16 x_17 x_18 x_19 s12]) (S' := [wM cB cI cJ cZ x_0 x_1 x_2 x_3 x_4 x_5 x_6 x_7 x_8 x_9 x_10 x_11 x_12 x_13 x_14 x_15 x_16 x_17 x_18 x_19 s12]) C (c_X8_put l D cB cI cJ cZ x_0 x_1 x_2 x_3 x_4 x_5 x_6 x_7 x_8 x_9 x_10 x_11 x_12 x_13 x_14 x_15 x_16 x_17 x_18 x_19 y13) rfl rfl (gIV ml_X8_159 im_X8_put sl_X8_put in_X8 cd_X8_put) rfl eX8_put rfl ⟨rfl, rfl⟩ ⟨Nat.le_of_ble_eq_true rfl, Nat.le_of_ble_eq_true rfl⟩ rfl rfl rfl [0] rfl rfl rfl rfl (gA_cons aM gA_nil) rfl rfl (Nat.le_of_ble_eq_true rfl) (tdec DX8_send 63 rfl) rfl ?_
            refine g_aload_n (z := 1) C (tdec DX8_send 64 rfl) rfl rfl rfl ?_
            refine g_iload_n (z := 3) C (tdec DX8_send 65 rfl) rfl rfl rfl ?_
            refine g_iconst (v := (-1)) C (tdec DX8_send 66 rfl) (by decide) rfl ?_
            refine g_icmp_ne (pt := 120) C (tdec DX8_send 67 rfl) (by decide) rfl (fun _ => ?_) (fun h => absurd h h9)
            refine g_aload_n (z := 1) C (tdec DX8_send 70 rfl) rfl rfl rfl ?_
            refine g_getf (C' := RX8) (T := TX8) (N := 27) (v := .ref x_12) C 0 12 (gIn iw_X8) rfl rfl (by decide) (gMem fl_X8_45) rfl rfl (tdec DX8_send 71 rfl) rfl ?_
            refine g_bipush (v := 20) C (tdec DX8_send 72 rfl) (by decide) rfl ?_
            refine g_iload_n (z := 2) C (tdec DX8_send 73 rfl) rfl rfl rfl ?_
            refine g_imul C (tdec DX8_send 74 rfl) rfl ?_
            refine g_iload_n (z := 3) C (tdec DX8_send 75 rfl) rfl rfl rfl ?_
            refine g_iadd C (tdec DX8_send 76 rfl) rfl ?_
            obtain ⟨r14, y15, hF⟩ := o_bind hF
            refine g_lald C 12 2 rfl rfl y15 (tdec DX8_send 77 rfl) rfl ?_
            refine g_bipush (v := 8) C (tdec DX8_send 78 rfl) (by decide) rfl ?_
            obtain ⟨s16, y17, hF⟩ := o_bind hF
            refine g_callVvMS (q0 := 0) (W' := wM cB cI cJ cZ x_0 x_1 x_2 x_3 x_4 x_5 x_6 x_7 x_8 x_9 x_10 x_11 x_12 x_13 x_14 x_15 x_16 x_17 x_18 x_19 s16) (S := [wM cB cI cJ cZ x_0 x_1 x_2 x_3 x_4 x_5 x_6 x_7 x_8 x_9 x_10 x_11 x_12 x_13 x_14 x_15 x_16 x_17 x_18 x_19 s12]) (S0 := [wM cB cI cJ cZ x_0 x_1 x_2 x_3 x_4 x_5 x_6 x_7 x_8 x_9 x_10 x_11 x_12 x_13 x_14 x_15 x_16 x_17 x_18 x_19 s12]) (S1 := [wM cB cI cJ cZ x_0 x_1 x_2 x_3 x_4 x_5 x_6 x_7 x_8 x_9 x_10 x_11 x_12 x_13 x_14 x_15 x_16 x_17 x_18 x_19 s16]) (S' := [wM cB cI cJ cZ x_0 x_1 x_2 x_3 x_4 x_5 x_6 x_7 x_8 x_9 x_10 x_11 x_12 x_13 x_14 x_15 x_16 x_17 x_18 x_19 s16]) C (c_X8_put l D cB cI cJ cZ x_0 x_1 x_2 x_3 x_4 x_5 x_6 x_7 x_8 x_9 x_10 x_11 x_12 x_13 x_14 x_15 x_16 x_17 x_18 x_19 y17) rfl rfl (gIV ml_X8_159 im_X8_put sl_X8_put in_X8 cd_X8_put) rfl eX8_put rfl ⟨rfl, rfl⟩ ⟨Nat.le_of_ble_eq_true rfl, Nat.le_of_ble_eq_true rfl⟩ rfl rfl rfl [0] rfl rfl rfl rfl (gA_cons aM gA_nil) rfl rfl (Nat.le_of_ble_eq_true rfl) (tdec DX8_send 79 rfl) rfl ?_
            refine g_aload_n (z := 1) C (tdec DX8_send 80 rfl) rfl rfl rfl ?_
            refine g_aload_n (z := 1) C (tdec DX8_send 81 rfl) rfl rfl rfl ?_
            refine g_getf (C' := RX8) (T := TX8) (N := 27) (v := .ref x_12) C 0 12 (gIn iw_X8) rfl rfl (by decide) (gMem fl_X8_45) rfl rfl (tdec DX8_send 82 rfl) rfl ?_
            refine g_bipush (v := 20) C (tdec DX8_send 83 rfl) (by decide) rfl ?_
            refine g_iload_n (z := 2) C (tdec DX8_send 84 rfl) rfl rfl rfl ?_
            refine g_imul C (tdec DX8_send 85 rfl) rfl ?_
            refine g_iload_n (z := 4) C (tdec DX8_send 86 rfl) rfl rfl rfl ?_
            refine g_iadd C (tdec DX8_send 87 rfl) rfl ?_
            obtain ⟨r18, y19, hF⟩ := o_bind hF
            refine g_lald C 12 2 rfl rfl y19 (tdec DX8_send 88 rfl) rfl ?_
            refine g_bipush (v := 8) C (tdec DX8_send 89 rfl) (by decide) rfl ?_
            obtain ⟨s20, y21, hF⟩ := o_bind hF
            refine g_callVvMS (q0 := 0) (W' := wM cB cI cJ cZ x_0 x_1 x_2 x_3 x_4 x_5 x_6 x_7 x_8 x_9 x_10 x_11 x_12 x_13 x_14 x_15 x_16 x_17 x_18 x_19 s20) (S := [wM cB cI cJ cZ x_0 x_1 x_2 x_3 x_4 x_5 x_6 x_7 x_8 x_9 x_10 x_11 x_12 x_13 x_14 x_15 x_16 x_17 x_18 x_19 s16]) (S0 := [wM cB cI cJ cZ x_0 x_1 x_2 x_3 x_4 x_5 x_6 x_7 x_8 x_9 x_10 x_11 x_12 x_13 x_14 x_15 x_16 x_17 x_18 x_19 s16]) (S1 := [wM cB cI cJ cZ x_0 x_1 x_2 x_3 x_4 x_5 x_6 x_7 x_8 x_9 x_10 x_11 x_12 x_13 x_14 x_15 x_16 x_17 x_18 x_19 s20]) (S' := [wM cB cI cJ cZ x_0 x_1 x_2 x_3 x_4 x_5 x_6 x_7 x_8 x_9 x_10 x_11 x_12 x_13 x_14 x_15 x_16 x_17 x_18 x_19 s20]) C (c_X8_put l D cB cI cJ cZ x_0 x_1 x_2 x_3 x_4 x_5 x_6 x_7 x_8 x_9 x_10 x_11 x_12 x_13 x_14 x_15 x_16 x_17 x_18 x_19 y21) rfl rfl (gIV ml_X8_159 im_X8_put sl_X8_put in_X8 cd_X8_put) rfl eX8_put rfl ⟨rfl, rfl⟩ ⟨Nat.le_of_ble_eq_true rfl, Nat.le_of_ble_eq_true rfl⟩ rfl rfl rfl [0] rfl rfl rfl rfl (gA_cons aM gA_nil) rfl rfl (Nat.le_of_ble_eq_true rfl) (tdec DX8_send 90 rfl) rfl ?_
            refine g_aload_n (z := 1) C (tdec DX8_send 91 rfl) rfl rfl rfl ?_
            obtain ⟨s22, y23, hF⟩ := o_bind hF
            refine g_callVvMS (q0 := 0) (W' := wM cB cI cJ cZ x_0 x_1 x_2 x_3 x_4 x_5 x_6 x_7 x_8 x_9 x_10 x_11 x_12 x_13 x_14 x_15 x_16 x_17 x_18 x_19 s22) (S := [wM cB cI cJ cZ x_0 x_1 x_2 x_3 x_4 x_5 x_6 x_7 x_8 x_9 x_10 x_11 x_12 x_13 x_14 x_15 x_16 x_17 x_18 x_19 s20]) (S0 := [wM cB cI cJ cZ x_0 x_1 x_2 x_3 x_4 x_5 x_6 x_7 x_8 x_9 x_10 x_11 x_12 x_13 x_14 x_15 x_16 x_17 x_18 x_19 s20]) (S1 := [wM cB cI cJ cZ x_0 x_1 x_2 x_3 x_4 x_5 x_6 x_7 x_8 x_9 x_10 x_11 x_12 x_13 x_14 x_15 x_16 x_17 x_18 x_19 s22]) (S' := [wM cB cI cJ cZ x_0 x_1 x_2 x_3 x_4 x_5 x_6 x_7 x_8 x_9 x_10 x_11 x_12 x_13 x_14 x_15 x_16 x_17 x_18 x_19 s22]) C (c_X8_ends l D cB cI cJ cZ x_0 x_1 x_2 x_3 x_4 x_5 x_6 x_7 x_8 x_9 x_10 x_11 x_12 x_13 x_14 x_15 x_16 x_17 x_18 x_19 y23) rfl rfl (gIV ml_X8_168 im_X8_ends sl_X8_ends in_X8 cd_X8_ends) rfl eX8_ends rfl ⟨rfl, rfl⟩ ⟨Nat.le_of_ble_eq_true rfl, Nat.le_of_ble_eq_true rfl⟩ rfl rfl rfl [0] rfl rfl rfl rfl (gA_cons aM gA_nil) rfl rfl (Nat.le_of_ble_eq_true rfl) (tdec DX8_send 92 rfl) rfl ?_
            refine g_bipush (v := (-3)) C (tdec DX8_send 93 rfl) (by decide) rfl ?_
            refine g_iload_n (z := 4) C (tdec DX8_send 94 rfl) rfl rfl rfl ?_
            refine g_isub C (tdec DX8_send 95 rfl) rfl ?_
            refine g_istore (L' := [(5, .int ((-3) - p3)), (4, .int r10), (0, .ref x_0), (1, .int p1), (2, .int p2), (3, .int p3)]) C (tdec DX8_send 96 rfl) (by decide) rfl rfl ?_
            refine g_aload_n (z := 2) C (tdec DX8_send 97 rfl) rfl rfl rfl ?_
            refine g_iload_n (z := 3) C (tdec DX8_send 98 rfl) rfl rfl rfl ?_
            refine g_iload (z := 0) C (tdec DX8_send 99 rfl) rfl rfl ?_
            refine g_iconst (v := 0) C (tdec DX8_send 100 rfl) (by decide) rfl ?_
            refine g_sipush (v := 512) C (tdec DX8_send 101 rfl) (by decide) rfl ?_
            refine g_iload (z := 1) C (tdec DX8_send 102 rfl) rfl rfl ?_
            obtain ⟨⟨r24, s25⟩, y26, hF⟩ := o_bind hF
            refine g_callViMS (q0 := 0) (W' := wM cB cI cJ cZ x_0 x_1 x_2 x_3 x_4 x_5 x_6 x_7 x_8 x_9 x_10 x_11 x_12 x_13 x_14 x_15 x_16 x_17 x_18 x_19 s25) (S := [wM cB cI cJ cZ x_0 x_1 x_2 x_3 x_4 x_5 x_6 x_7 x_8 x_9 x_10 x_11 x_12 x_13 x_14 x_15 x_16 x_17 x_18 x_19 s22]) (S0 := [wM cB cI cJ cZ x_0 x_1 x_2 x_3 x_4 x_5 x_6 x_7 x_8 x_9 x_10 x_11 x_12 x_13 x_14 x_15 x_16 x_17 x_18 x_19 s22]) (S1 := [wM cB cI cJ cZ x_0 x_1 x_2 x_3 x_4 x_5 x_6 x_7 x_8 x_9 x_10 x_11 x_12 x_13 x_14 x_15 x_16 x_17 x_18 x_19 s25]) (S' := [wM cB cI cJ cZ x_0 x_1 x_2 x_3 x_4 x_5 x_6 x_7 x_8 x_9 x_10 x_11 x_12 x_13 x_14 x_15 x_16 x_17 x_18 x_19 s25]) C (c_X8_brings l D cB cI cJ cZ x_0 x_1 x_2 x_3 x_4 x_5 x_6 x_7 x_8 x_9 x_10 x_11 x_12 x_13 x_14 x_15 x_16 x_17 x_18 x_19 y26) rfl rfl (gIV ml_X8_180 im_X8_brings sl_X8_brings in_X8 cd_X8_brings) rfl eX8_brings rfl ⟨rfl, rfl⟩ ⟨Nat.le_of_ble_eq_true rfl, Nat.le_of_ble_eq_true rfl⟩ rfl rfl rfl [0] rfl rfl rfl rfl (gA_cons aM gA_nil) rfl rfl (Nat.le_of_ble_eq_true rfl) (tdec DX8_send 103 rfl) rfl ?_
            refine g_istore (L' := [(6, .int r24), (5, .int ((-3) - p3)), (4, .int r10), (0, .ref x_0), (1, .int p1), (2, .int p2), (3, .int p3)]) C (tdec DX8_send 104 rfl) (by decide) rfl rfl ?_
            refine g_iconst (v := 0) C (tdec DX8_send 105 rfl) (by decide) rfl ?_
            refine g_istore (L' := [(7, .int 0), (6, .int r24), (5, .int ((-3) - p3)), (4, .int r10), (0, .ref x_0), (1, .int p1), (2, .int p2), (3, .int p3)]) C (tdec DX8_send 106 rfl) (by decide) rfl rfl ?_
            refine g_sub (L' := [(0, .ref x_0), (1, .int p1), (2, .int p2), (3, .int p3), (4, .int r10), (5, .int ((-3) - p3)), (6, .int r24), (7, .int 0)]) [4, 5, 6, 7, 3, 2, 1, 0] rfl ?_
            refine c_FX8_send_L181 C (fun xq50 w7_50 hF => ?_) 100000 _ _ hF
            refine g_aload_n (z := 0) C (tdec DX8_send 195 rfl) rfl rfl rfl ?_
            refine g_ldc2 C (gMem kl_X8_184) (tdec DX8_send 196 rfl) rfl ?_
            refine g_iconst (v := 1) C (tdec DX8_send 197 rfl) (by decide) rfl ?_
            obtain ⟨s51, y52, hF⟩ := o_bind hF
            refine g_callVvMS (q0 := 0) (W' := wM cB cI cJ cZ x_0 x_1 x_2 x_3 x_4 x_5 x_6 x_7 x_8 x_9 x_10 x_11 x_12 x_13 x_14 x_15 x_16 x_17 x_18 x_19 s51) (S := [wM cB cI cJ cZ x_0 x_1 x_2 x_3 x_4 x_5 x_6 x_7 x_8 x_9 x_10 x_11 x_12 x_13 x_14 x_15 x_16 x_17 x_18 x_19 xq50]) (S0 := [wM cB cI cJ cZ x_0 x_1 x_2 x_3 x_4 x_5 x_6 x_7 x_8 x_9 x_10 x_11 x_12 x_13 x_14 x_15 x_16 x_17 x_18 x_19 xq50]) (S1 := [wM cB cI cJ cZ x_0 x_1 x_2 x_3 x_4 x_5 x_6 x_7 x_8 x_9 x_10 x_11 x_12 x_13 x_14 x_15 x_16 x_17 x_18 x_19 s51]) (S' := [wM cB cI cJ cZ x_0 x_1 x_2 x_3 x_4 x_5 x_6 x_7 x_8 x_9 x_10 x_11 x_12 x_13 x_14 x_15 x_16 x_17 x_18 x_19 s51]) C (c_X8_put l D cB cI cJ cZ x_0 x_1 x_2 x_3 x_4 x_5 x_6 x_7 x_8 x_9 x_10 x_11 x_12 x_13 x_14 x_15 x_16 x_17 x_18 x_19 y52) rfl rfl (gIV ml_X8_159 im_X8_put sl_X8_put in_X8 cd_X8_put) rfl eX8_put rfl ⟨rfl, rfl⟩ ⟨Nat.le_of_ble_eq_true rfl, Nat.le_of_ble_eq_true rfl⟩ rfl rfl rfl [0] rfl rfl rfl rfl (gA_cons aM gA_nil) rfl rfl (Nat.le_of_ble_eq_true rfl) (tdec DX8_send 198 rfl) rfl ?_
            refine g_aload_n (z := 0) C (tdec DX8_send 199 rfl) rfl rfl rfl ?_
            refine g_aload_n (z := 0) C (tdec DX8_send 200 rfl) rfl rfl rfl ?_
            refine g_getf (C' := RX8) (T := TX8) (N := 27) (v := .int (MS_recs s51)) C 0 20 (gIn iw_X8) rfl rfl (by decide) (gMem fl_X8_163) rfl rfl (tdec DX8_send 201 rfl) rfl ?_
            refine g_i2l C (tdec DX8_send 202 rfl) rfl ?_
            refine g_iconst (v := 4) C (tdec DX8_send 203 rfl) (by decide) rfl ?_
            obtain ⟨s53, y54, hF⟩ := o_bind hF
            refine g_callVvMS (q0 := 0) (W' := wM cB cI cJ cZ x_0 x_1 x_2 x_3 x_4 x_5 x_6 x_7 x_8 x_9 x_10 x_11 x_12 x_13 x_14 x_15 x_16 x_17 x_18 x_19 s53) (S := [wM cB cI cJ cZ x_0 x_1 x_2 x_3 x_4 x_5 x_6 x_7 x_8 x_9 x_10 x_11 x_12 x_13 x_14 x_15 x_16 x_17 x_18 x_19 s51]) (S0 := [wM cB cI cJ cZ x_0 x_1 x_2 x_3 x_4 x_5 x_6 x_7 x_8 x_9 x_10 x_11 x_12 x_13 x_14 x_15 x_16 x_17 x_18 x_19 s51]) (S1 := [wM cB cI cJ cZ x_0 x_1 x_2 x_3 x_4 x_5 x_6 x_7 x_8 x_9 x_10 x_11 x_12 x_13 x_14 x_15 x_16 x_17 x_18 x_19 s53]) (S' := [wM cB cI cJ cZ x_0 x_1 x_2 x_3 x_4 x_5 x_6 x_7 x_8 x_9 x_10 x_11 x_12 x_13 x_14 x_15 x_16 x_17 x_18 x_19 s53]) C (c_X8_put l D cB cI cJ cZ x_0 x_1 x_2 x_3 x_4 x_5 x_6 x_7 x_8 x_9 x_10 x_11 x_12 x_13 x_14 x_15 x_16 x_17 x_18 x_19 y54) rfl rfl (gIV ml_X8_159 im_X8_put sl_X8_put in_X8 cd_X8_put) rfl eX8_put rfl ⟨rfl, rfl⟩ ⟨Nat.le_of_ble_eq_true rfl, Nat.le_of_ble_eq_true rfl⟩ rfl rfl rfl [0] rfl rfl rfl rfl (gA_cons aM gA_nil) rfl rfl (Nat.le_of_ble_eq_true rfl) (tdec DX8_send 204 rfl) rfl ?_
            refine g_aload_n (z := 0) C (tdec DX8_send 205 rfl) rfl rfl rfl ?_
            obtain ⟨s55, y56, hF⟩ := o_bind hF
            refine g_callVvMS (q0 := 0) (W' := wM cB cI cJ cZ x_0 x_1 x_2 x_3 x_4 x_5 x_6 x_7 x_8 x_9 x_10 x_11 x_12 x_13 x_14 x_15 x_16 x_17 x_18 x_19 s55) (S := [wM cB cI cJ cZ x_0 x_1 x_2 x_3 x_4 x_5 x_6 x_7 x_8 x_9 x_10 x_11 x_12 x_13 x_14 x_15 x_16 x_17 x_18 x_19 s53]) (S0 := [wM cB cI cJ cZ x_0 x_1 x_2 x_3 x_4 x_5 x_6 x_7 x_8 x_9 x_10 x_11 x_12 x_13 x_14 x_15 x_16 x_17 x_18 x_19 s53]) (S1 := [wM cB cI cJ cZ x_0 x_1 x_2 x_3 x_4 x_5 x_6 x_7 x_8 x_9 x_10 x_11 x_12 x_13 x_14 x_15 x_16 x_17 x_18 x_19 s55]) (S' := [wM cB cI cJ cZ x_0 x_1 x_2 x_3 x_4 x_5 x_6 x_7 x_8 x_9 x_10 x_11 x_12 x_13 x_14 x_15 x_16 x_17 x_18 x_19 s55]) C (c_X8_ends l D cB cI cJ cZ x_0 x_1 x_2 x_3 x_4 x_5 x_6 x_7 x_8 x_9 x_10 x_11 x_12 x_13 x_14 x_15 x_16 x_17 x_18 x_19 y56) rfl rfl (gIV ml_X8_168 im_X8_ends sl_X8_ends in_X8 cd_X8_ends) rfl eX8_ends rfl ⟨rfl, rfl⟩ ⟨Nat.le_of_ble_eq_true rfl, Nat.le_of_ble_eq_true rfl⟩ rfl rfl rfl [0] rfl rfl rfl rfl (gA_cons aM gA_nil) rfl rfl (Nat.le_of_ble_eq_true rfl) (tdec DX8_send 206 rfl) rfl ?_
            refine g_aload_n (z := 0) C (tdec DX8_send 207 rfl) rfl rfl rfl ?_
            refine g_getf (C' := RX8) (T := TX8) (N := 27) (v := .int (MS_len s55)) C 0 19 (gIn iw_X8) rfl rfl (by decide) (gMem fl_X8_147) rfl rfl (tdec DX8_send 208 rfl) rfl ?_
            have hr9 := o_some hF
            subst hr9
            exact g_iret C rfl rfl (tdec DX8_send 209 rfl)
          · have hF := o_ifp hF h9
            refine g_iconst (v := 0) C (tdec DX8_send 49 rfl) (by decide) rfl ?_
            refine g_goto (pt := 102) C (tdec DX8_send 50 rfl) (by decide) ?_
            refine g_istore (L' := [(4, .int 0), (0, .ref x_0), (1, .int p1), (2, .int p2), (3, .int p3)]) C (tdec DX8_send 59 rfl) (by decide) rfl rfl ?_
            refine g_aload_n (z := 1) C (tdec DX8_send 60 rfl) rfl rfl rfl ?_
            refine g_lconst (v := 1) C (tdec DX8_send 61 rfl) (by decide) rfl ?_
            refine g_iconst (v := 1) C (tdec DX8_send 62 rfl) (by decide) rfl ?_
            obtain ⟨s57, y58, hF⟩ := o_bind hF
            refine g_callVvMS (q0 := 0) (W' := wM cB cI cJ cZ x_0 x_1 x_2 x_3 x_4 x_5 x_6 x_7 x_8 x_9 x_10 x_11 x_12 x_13 x_14 x_15 x_16 x_17 x_18 x_19 s57) (S := [wM cB cI cJ cZ x_0 x_1 x_2 x_3 x_4 x_5 x_6 x_7 x_8 x_9 x_10 x_11 x_12 x_13 x_14 x_15 x_16 x_17 x_18 x_19 (MS_setsn (MS_setcl (MS_setwr (MS_setrecs (MS_setrf (MS_setlen (MS_setthr x0 0) 0) 0) 0) 0) 0) 0)]) (S0 := [wM cB cI cJ cZ x_0 x_1 x_2 x_3 x_4 x_5 x_6 x_7 x_8 x_9 x_10 x_11 x_12 x_13 x_14 x_15 x_16 x_17 x_18 x_19 (MS_setsn (MS_setcl (MS_setwr (MS_setrecs (MS_setrf (MS_setlen (MS_setthr x0 0) 0) 0) 0) 0) 0) 0)]) (S1 := [wM cB cI cJ cZ x_0 x_1 x_2 x_3 x_4 x_5 x_6 x_7 x_8 x_9 x_10 x_11 x_12 x_13 x_14 x_15 x_16 x_17 x_18 x_19 s57]) (S' := [wM cB cI cJ cZ x_0 x_1 x_2 x_3 x_4 x_5 x_6 x_7 x_8 x_9 x_10 x_11 x_12 x_13 x_14 x_15 x_16 x_17 x_18 x_19 s57]) C (c_X8_put l D cB cI cJ cZ x_0 x_1 x_2 x_3 x_4 x_5 x_6 x_7 x_8 x_9 x_10 x_11 x_12 x_13 x_14 x_15 x_16 x_17 x_18 x_19 y58) rfl rfl (gIV ml_X8_159 im_X8_put sl_X8_put in_X8 cd_X8_put) rfl eX8_put rfl ⟨rfl, rfl⟩ ⟨Nat.le_of_ble_eq_true rfl, Nat.le_of_ble_eq_true rfl⟩ rfl rfl rfl [0] rfl rfl rfl rfl (gA_cons aM gA_nil) rfl rfl (Nat.le_of_ble_eq_true rfl) (tdec DX8_send 63 rfl) rfl ?_
            refine g_aload_n (z := 1) C (tdec DX8_send 64 rfl) rfl rfl rfl ?_
            refine g_iload_n (z := 3) C (tdec DX8_send 65 rfl) rfl rfl rfl ?_
            refine g_iconst (v := (-1)) C (tdec DX8_send 66 rfl) (by decide) rfl ?_
            refine g_icmp_ne (pt := 120) C (tdec DX8_send 67 rfl) (by decide) rfl (fun h => absurd h9 h) (fun _ => ?_)
            refine g_lconst (v := 0) C (tdec DX8_send 68 rfl) (by decide) rfl ?_
            refine g_goto (pt := 131) C (tdec DX8_send 69 rfl) (by decide) ?_
            refine g_bipush (v := 8) C (tdec DX8_send 78 rfl) (by decide) rfl ?_
            obtain ⟨s59, y60, hF⟩ := o_bind hF
            refine g_callVvMS (q0 := 0) (W' := wM cB cI cJ cZ x_0 x_1 x_2 x_3 x_4 x_5 x_6 x_7 x_8 x_9 x_10 x_11 x_12 x_13 x_14 x_15 x_16 x_17 x_18 x_19 s59) (S := [wM cB cI cJ cZ x_0 x_1 x_2 x_3 x_4 x_5 x_6 x_7 x_8 x_9 x_10 x_11 x_12 x_13 x_14 x_15 x_16 x_17 x_18 x_19 s57]) (S0 := [wM cB cI cJ cZ x_0 x_1 x_2 x_3 x_4 x_5 x_6 x_7 x_8 x_9 x_10 x_11 x_12 x_13 x_14 x_15 x_16 x_17 x_18 x_19 s57]) (S1 := [wM cB cI cJ cZ x_0 x_1 x_2 x_3 x_4 x_5 x_6 x_7 x_8 x_9 x_10 x_11 x_12 x_13 x_14 x_15 x_16 x_17 x_18 x_19 s59]) (S' := [wM cB cI cJ cZ x_0 x_1 x_2 x_3 x_4 x_5 x_6 x_7 x_8 x_9 x_10 x_11 x_12 x_13 x_14 x_15 x_16 x_17 x_18 x_19 s59]) C (c_X8_put l D cB cI cJ cZ x_0 x_1 x_2 x_3 x_4 x_5 x_6 x_7 x_8 x_9 x_10 x_11 x_12 x_13 x_14 x_15 x_16 x_17 x_18 x_19 y60) rfl rfl (gIV ml_X8_159 im_X8_put sl_X8_put in_X8 cd_X8_put) rfl eX8_put rfl ⟨rfl, rfl⟩ ⟨Nat.le_of_ble_eq_true rfl, Nat.le_of_ble_eq_true rfl⟩ rfl rfl rfl [0] rfl rfl rfl rfl (gA_cons aM gA_nil) rfl rfl (Nat.le_of_ble_eq_true rfl) (tdec DX8_send 79 rfl) rfl ?_
            refine g_aload_n (z := 1) C (tdec DX8_send 80 rfl) rfl rfl rfl ?_
            refine g_aload_n (z := 1) C (tdec DX8_send 81 rfl) rfl rfl rfl ?_
            refine g_getf (C' := RX8) (T := TX8) (N := 27) (v := .ref x_12) C 0 12 (gIn iw_X8) rfl rfl (by decide) (gMem fl_X8_45) rfl rfl (tdec DX8_send 82 rfl) rfl ?_
            refine g_bipush (v := 20) C (tdec DX8_send 83 rfl) (by decide) rfl ?_
            refine g_iload_n (z := 2) C (tdec DX8_send 84 rfl) rfl rfl rfl ?_
            refine g_imul C (tdec DX8_send 85 rfl) rfl ?_
            refine g_iload_n (z := 4) C (tdec DX8_send 86 rfl) rfl rfl rfl ?_
            refine g_iadd C (tdec DX8_send 87 rfl) rfl ?_
            obtain ⟨r61, y62, hF⟩ := o_bind hF
            refine g_lald C 12 2 rfl rfl y62 (tdec DX8_send 88 rfl) rfl ?_
            refine g_bipush (v := 8) C (tdec DX8_send 89 rfl) (by decide) rfl ?_
            obtain ⟨s63, y64, hF⟩ := o_bind hF
            refine g_callVvMS (q0 := 0) (W' := wM cB cI cJ cZ x_0 x_1 x_2 x_3 x_4 x_5 x_6 x_7 x_8 x_9 x_10 x_11 x_12 x_13 x_14 x_15 x_16 x_17 x_18 x_19 s63) (S := [wM cB cI cJ cZ x_0 x_1 x_2 x_3 x_4 x_5 x_6 x_7 x_8 x_9 x_10 x_11 x_12 x_13 x_14 x_15 x_16 x_17 x_18 x_19 s59]) (S0 := [wM cB cI cJ cZ x_0 x_1 x_2 x_3 x_4 x_5 x_6 x_7 x_8 x_9 x_10 x_11 x_12 x_13 x_14 x_15 x_16 x_17 x_18 x_19 s59]) (S1 := [wM cB cI cJ cZ x_0 x_1 x_2 x_3 x_4 x_5 x_6 x_7 x_8 x_9 x_10 x_11 x_12 x_13 x_14 x_15 x_16 x_17 x_18 x_19 s63]) (S' := [wM cB cI cJ cZ x_0 x_1 x_2 x_3 x_4 x_5 x_6 x_7 x_8 x_9 x_10 x_11 x_12 x_13 x_14 x_15 x_16 x_17 x_18 x_19 s63]) C (c_X8_put l D cB cI cJ cZ x_0 x_1 x_2 x_3 x_4 x_5 x_6 x_7 x_8 x_9 x_10 x_11 x_12 x_13 x_14 x_15 x_16 x_17 x_18 x_19 y64) rfl rfl (gIV ml_X8_159 im_X8_put sl_X8_put in_X8 cd_X8_put) rfl eX8_put rfl ⟨rfl, rfl⟩ ⟨Nat.le_of_ble_eq_true rfl, Nat.le_of_ble_eq_true rfl⟩ rfl rfl rfl [0] rfl rfl rfl rfl (gA_cons aM gA_nil) rfl rfl (Nat.le_of_ble_eq_true rfl) (tdec DX8_send 90 rfl) rfl ?_
            refine g_aload_n (z := 1) C (tdec DX8_send 91 rfl) rfl rfl rfl ?_
            obtain ⟨s65, y66, hF⟩ := o_bind hF
            refine g_callVvMS (q0 := 0) (W' := wM cB cI cJ cZ x_0 x_1 x_2 x_3 x_4 x_5 x_6 x_7 x_8 x_9 x_10 x_11 x_12 x_13 x_14 x_15 x_16 x_17 x_18 x_19 s65) (S := [wM cB cI cJ cZ x_0 x_1 x_2 x_3 x_4 x_5 x_6 x_7 x_8 x_9 x_10 x_11 x_12 x_13 x_14 x_15 x_16 x_17 x_18 x_19 s63]) (S0 := [wM cB cI cJ cZ x_0 x_1 x_2 x_3 x_4 x_5 x_6 x_7 x_8 x_9 x_10 x_11 x_12 x_13 x_14 x_15 x_16 x_17 x_18 x_19 s63]) (S1 := [wM cB cI cJ cZ x_0 x_1 x_2 x_3 x_4 x_5 x_6 x_7 x_8 x_9 x_10 x_11 x_12 x_13 x_14 x_15 x_16 x_17 x_18 x_19 s65]) (S' := [wM cB cI cJ cZ x_0 x_1 x_2 x_3 x_4 x_5 x_6 x_7 x_8 x_9 x_10 x_11 x_12 x_13 x_14 x_15 x_16 x_17 x_18 x_19 s65]) C (c_X8_ends l D cB cI cJ cZ x_0 x_1 x_2 x_3 x_4 x_5 x_6 x_7 x_8 x_9 x_10 x_11 x_12 x_13 x_14 x_15 x_16 x_17 x_18 x_19 y66) rfl rfl (gIV ml_X8_168 im_X8_ends sl_X8_ends in_X8 cd_X8_ends) rfl eX8_ends rfl ⟨rfl, rfl⟩ ⟨Nat.le_of_ble_eq_true rfl, Nat.le_of_ble_eq_true rfl⟩ rfl rfl rfl [0] rfl rfl rfl rfl (gA_cons aM gA_nil) rfl rfl (Nat.le_of_ble_eq_true rfl) (tdec DX8_send 92 rfl) rfl ?_
            refine g_bipush (v := (-3)) C (tdec DX8_send 93 rfl) (by decide) rfl ?_
            refine g_iload_n (z := 4) C (tdec DX8_send 94 rfl) rfl rfl rfl ?_
            refine g_isub C (tdec DX8_send 95 rfl) rfl ?_
            refine g_istore (L' := [(5, .int ((-3) - p3)), (4, .int 0), (0, .ref x_0), (1, .int p1), (2, .int p2), (3, .int p3)]) C (tdec DX8_send 96 rfl) (by decide) rfl rfl ?_
            refine g_aload_n (z := 2) C (tdec DX8_send 97 rfl) rfl rfl rfl ?_
            refine g_iload_n (z := 3) C (tdec DX8_send 98 rfl) rfl rfl rfl ?_
            refine g_iload (z := 0) C (tdec DX8_send 99 rfl) rfl rfl ?_
            refine g_iconst (v := 0) C (tdec DX8_send 100 rfl) (by decide) rfl ?_
            refine g_sipush (v := 512) C (tdec DX8_send 101 rfl) (by decide) rfl ?_
            refine g_iload (z := 1) C (tdec DX8_send 102 rfl) rfl rfl ?_
            obtain ⟨⟨r67, s68⟩, y69, hF⟩ := o_bind hF
            refine g_callViMS (q0 := 0) (W' := wM cB cI cJ cZ x_0 x_1 x_2 x_3 x_4 x_5 x_6 x_7 x_8 x_9 x_10 x_11 x_12 x_13 x_14 x_15 x_16 x_17 x_18 x_19 s68) (S := [wM cB cI cJ cZ x_0 x_1 x_2 x_3 x_4 x_5 x_6 x_7 x_8 x_9 x_10 x_11 x_12 x_13 x_14 x_15 x_16 x_17 x_18 x_19 s65]) (S0 := [wM cB cI cJ cZ x_0 x_1 x_2 x_3 x_4 x_5 x_6 x_7 x_8 x_9 x_10 x_11 x_12 x_13 x_14 x_15 x_16 x_17 x_18 x_19 s65]) (S1 := [wM cB cI cJ cZ x_0 x_1 x_2 x_3 x_4 x_5 x_6 x_7 x_8 x_9 x_10 x_11 x_12 x_13 x_14 x_15 x_16 x_17 x_18 x_19 s68]) (S' := [wM cB cI cJ cZ x_0 x_1 x_2 x_3 x_4 x_5 x_6 x_7 x_8 x_9 x_10 x_11 x_12 x_13 x_14 x_15 x_16 x_17 x_18 x_19 s68]) C (c_X8_brings l D cB cI cJ cZ x_0 x_1 x_2 x_3 x_4 x_5 x_6 x_7 x_8 x_9 x_10 x_11 x_12 x_13 x_14 x_15 x_16 x_17 x_18 x_19 y69) rfl rfl (gIV ml_X8_180 im_X8_brings sl_X8_brings in_X8 cd_X8_brings) rfl eX8_brings rfl ⟨rfl, rfl⟩ ⟨Nat.le_of_ble_eq_true rfl, Nat.le_of_ble_eq_true rfl⟩ rfl rfl rfl [0] rfl rfl rfl rfl (gA_cons aM gA_nil) rfl rfl (Nat.le_of_ble_eq_true rfl) (tdec DX8_send 103 rfl) rfl ?_
            refine g_istore (L' := [(6, .int r67), (5, .int ((-3) - p3)), (4, .int 0), (0, .ref x_0), (1, .int p1), (2, .int p2), (3, .int p3)]) C (tdec DX8_send 104 rfl) (by decide) rfl rfl ?_
            refine g_iconst (v := 0) C (tdec DX8_send 105 rfl) (by decide) rfl ?_
            refine g_istore (L' := [(7, .int 0), (6, .int r67), (5, .int ((-3) - p3)), (4, .int 0), (0, .ref x_0), (1, .int p1), (2, .int p2), (3, .int p3)]) C (tdec DX8_send 106 rfl) (by decide) rfl rfl ?_
            refine g_sub (L' := [(0, .ref x_0), (1, .int p1), (2, .int p2), (3, .int p3), (4, .int 0), (5, .int ((-3) - p3)), (6, .int r67), (7, .int 0)]) [4, 5, 6, 7, 3, 2, 1, 0] rfl ?_
            refine c_FX8_send_L181 C (fun xq70 w7_70 hF => ?_) 100000 _ _ hF
            refine g_aload_n (z := 0) C (tdec DX8_send 195 rfl) rfl rfl rfl ?_
            refine g_ldc2 C (gMem kl_X8_184) (tdec DX8_send 196 rfl) rfl ?_
            refine g_iconst (v := 1) C (tdec DX8_send 197 rfl) (by decide) rfl ?_
            obtain ⟨s71, y72, hF⟩ := o_bind hF
            refine g_callVvMS (q0 := 0) (W' := wM cB cI cJ cZ x_0 x_1 x_2 x_3 x_4 x_5 x_6 x_7 x_8 x_9 x_10 x_11 x_12 x_13 x_14 x_15 x_16 x_17 x_18 x_19 s71) (S := [wM cB cI cJ cZ x_0 x_1 x_2 x_3 x_4 x_5 x_6 x_7 x_8 x_9 x_10 x_11 x_12 x_13 x_14 x_15 x_16 x_17 x_18 x_19 xq70]) (S0 := [wM cB cI cJ cZ x_0 x_1 x_2 x_3 x_4 x_5 x_6 x_7 x_8 x_9 x_10 x_11 x_12 x_13 x_14 x_15 x_16 x_17 x_18 x_19 xq70]) (S1 := [wM cB cI cJ cZ x_0 x_1 x_2 x_3 x_4 x_5 x_6 x_7 x_8 x_9 x_10 x_11 x_12 x_13 x_14 x_15 x_16 x_17 x_18 x_19 s71]) (S' := [wM cB cI cJ cZ x_0 x_1 x_2 x_3 x_4 x_5 x_6 x_7 x_8 x_9 x_10 x_11 x_12 x_13 x_14 x_15 x_16 x_17 x_18 x_19 s71]) C (c_X8_put l D cB cI cJ cZ x_0 x_1 x_2 x_3 x_4 x_5 x_6 x_7 x_8 x_9 x_10 x_11 x_12 x_13 x_14 x_15 x_16 x_17 x_18 x_19 y72) rfl rfl (gIV ml_X8_159 im_X8_put sl_X8_put in_X8 cd_X8_put) rfl eX8_put rfl ⟨rfl, rfl⟩ ⟨Nat.le_of_ble_eq_true rfl, Nat.le_of_ble_eq_true rfl⟩ rfl rfl rfl [0] rfl rfl rfl rfl (gA_cons aM gA_nil) rfl rfl (Nat.le_of_ble_eq_true rfl) (tdec DX8_send 198 rfl) rfl ?_
            refine g_aload_n (z := 0) C (tdec DX8_send 199 rfl) rfl rfl rfl ?_
            refine g_aload_n (z := 0) C (tdec DX8_send 200 rfl) rfl rfl rfl ?_
            refine g_getf (C' := RX8) (T := TX8) (N := 27) (v := .int (MS_recs s71)) C 0 20 (gIn iw_X8) rfl rfl (by decide) (gMem fl_X8_163) rfl rfl (tdec DX8_send 201 rfl) rfl ?_
            refine g_i2l C (tdec DX8_send 202 rfl) rfl ?_
            refine g_iconst (v := 4) C (tdec DX8_send 203 rfl) (by decide) rfl ?_
            obtain ⟨s73, y74, hF⟩ := o_bind hF
            refine g_callVvMS (q0 := 0) (W' := wM cB cI cJ cZ x_0 x_1 x_2 x_3 x_4 x_5 x_6 x_7 x_8 x_9 x_10 x_11 x_12 x_13 x_14 x_15 x_16 x_17 x_18 x_19 s73) (S := [wM cB cI cJ cZ x_0 x_1 x_2 x_3 x_4 x_5 x_6 x_7 x_8 x_9 x_10 x_11 x_12 x_13 x_14 x_15 x_16 x_17 x_18 x_19 s71]) (S0 := [wM cB cI cJ cZ x_0 x_1 x_2 x_3 x_4 x_5 x_6 x_7 x_8 x_9 x_10 x_11 x_12 x_13 x_14 x_15 x_16 x_17 x_18 x_19 s71]) (S1 := [wM cB cI cJ cZ x_0 x_1 x_2 x_3 x_4 x_5 x_6 x_7 x_8 x_9 x_10 x_11 x_12 x_13 x_14 x_15 x_16 x_17 x_18 x_19 s73]) (S' := [wM cB cI cJ cZ x_0 x_1 x_2 x_3 x_4 x_5 x_6 x_7 x_8 x_9 x_10 x_11 x_12 x_13 x_14 x_15 x_16 x_17 x_18 x_19 s73]) C (c_X8_put l D cB cI cJ cZ x_0 x_1 x_2 x_3 x_4 x_5 x_6 x_7 x_8 x_9 x_10 x_11 x_12 x_13 x_14 x_15 x_16 x_17 x_18 x_19 y74) rfl rfl (gIV ml_X8_159 im_X8_put sl_X8_put in_X8 cd_X8_put) rfl eX8_put rfl ⟨rfl, rfl⟩ ⟨Nat.le_of_ble_eq_true rfl, Nat.le_of_ble_eq_true rfl⟩ rfl rfl rfl [0] rfl rfl rfl rfl (gA_cons aM gA_nil) rfl rfl (Nat.le_of_ble_eq_true rfl) (tdec DX8_send 204 rfl) rfl ?_
            refine g_aload_n (z := 0) C (tdec DX8_send 205 rfl) rfl rfl rfl ?_
            obtain ⟨s75, y76, hF⟩ := o_bind hF
            refine g_callVvMS (q0 := 0) (W' := wM cB cI cJ cZ x_0 x_1 x_2 x_3 x_4 x_5 x_6 x_7 x_8 x_9 x_10 x_11 x_12 x_13 x_14 x_15 x_16 x_17 x_18 x_19 s75) (S := [wM cB cI cJ cZ x_0 x_1 x_2 x_3 x_4 x_5 x_6 x_7 x_8 x_9 x_10 x_11 x_12 x_13 x_14 x_15 x_16 x_17 x_18 x_19 s73]) (S0 := [wM cB cI cJ cZ x_0 x_1 x_2 x_3 x_4 x_5 x_6 x_7 x_8 x_9 x_10 x_11 x_12 x_13 x_14 x_15 x_16 x_17 x_18 x_19 s73]) (S1 := [wM cB cI cJ cZ x_0 x_1 x_2 x_3 x_4 x_5 x_6 x_7 x_8 x_9 x_10 x_11 x_12 x_13 x_14 x_15 x_16 x_17 x_18 x_19 s75]) (S' := [wM cB cI cJ cZ x_0 x_1 x_2 x_3 x_4 x_5 x_6 x_7 x_8 x_9 x_10 x_11 x_12 x_13 x_14 x_15 x_16 x_17 x_18 x_19 s75]) C (c_X8_ends l D cB cI cJ cZ x_0 x_1 x_2 x_3 x_4 x_5 x_6 x_7 x_8 x_9 x_10 x_11 x_12 x_13 x_14 x_15 x_16 x_17 x_18 x_19 y76) rfl rfl (gIV ml_X8_168 im_X8_ends sl_X8_ends in_X8 cd_X8_ends) rfl eX8_ends rfl ⟨rfl, rfl⟩ ⟨Nat.le_of_ble_eq_true rfl, Nat.le_of_ble_eq_true rfl⟩ rfl rfl rfl [0] rfl rfl rfl rfl (gA_cons aM gA_nil) rfl rfl (Nat.le_of_ble_eq_true rfl) (tdec DX8_send 206 rfl) rfl ?_
            refine g_aload_n (z := 0) C (tdec DX8_send 207 rfl) rfl rfl rfl ?_
            refine g_getf (C' := RX8) (T := TX8) (N := 27) (v := .int (MS_len s75)) C 0 19 (gIn iw_X8) rfl rfl (by decide) (gMem fl_X8_147) rfl rfl (tdec DX8_send 208 rfl) rfl ?_
            have hr9 := o_some hF
            subst hr9
            exact g_iret C rfl rfl (tdec DX8_send 209 rfl)
        · have hF := o_ifn hF h8
          refine g_iconst (v := 3) C (tdec DX8_send 19 rfl) (by decide) rfl ?_
          refine g_goto (pt := 40) C (tdec DX8_send 20 rfl) (by decide) ?_
          refine g_putf (C' := RX8) (T := TX8) (N := 27) (v := .int 3) (ws' := wM cB cI cJ cZ x_0 x_1 x_2 x_3 x_4 x_5 x_6 x_7 x_8 x_9 x_10 x_11 x_12 x_13 x_14 x_15 x_16 x_17 x_18 x_19 (MS_setthr x0 3)) C 0 0 tyX8 tyX8_ok nmX8 (gIn iw_X8) rfl rfl (by decide) (gMem fl_X8_78) rfl rfl (tyX8_ok 0 (by decide)) rfl rfl (Nat.le_of_ble_eq_true rfl) rfl (tdec DX8_send 22 rfl) rfl ?_
          refine g_aload_n (z := 0) C (tdec DX8_send 23 rfl) rfl rfl rfl ?_
          refine g_getf (C' := RX8) (T := TX8) (N := 27) (v := .int 3) C 0 0 (gIn iw_X8) rfl rfl (by decide) (gMem fl_X8_78) rfl rfl (tdec DX8_send 24 rfl) rfl ?_
          refine g_if_le (pt := 52) C (tdec DX8_send 25 rfl) (by decide) rfl (fun h => absurd h (by decide)) (fun _ => ?_)
          refine g_iconst (v := 0) C (tdec DX8_send 26 rfl) (by decide) rfl ?_
          have hr9 := o_some hF
          subst hr9
          exact g_iret C rfl rfl (tdec DX8_send 27 rfl)
    · have hF := o_ifp hF h6
      refine g_iconst (v := 2) C (tdec DX8_send 11 rfl) (by decide) rfl ?_
      refine g_goto (pt := 40) C (tdec DX8_send 12 rfl) (by decide) ?_
      refine g_putf (C' := RX8) (T := TX8) (N := 27) (v := .int 2) (ws' := wM cB cI cJ cZ x_0 x_1 x_2 x_3 x_4 x_5 x_6 x_7 x_8 x_9 x_10 x_11 x_12 x_13 x_14 x_15 x_16 x_17 x_18 x_19 (MS_setthr x0 2)) C 0 0 tyX8 tyX8_ok nmX8 (gIn iw_X8) rfl rfl (by decide) (gMem fl_X8_78) rfl rfl (tyX8_ok 0 (by decide)) rfl rfl (Nat.le_of_ble_eq_true rfl) rfl (tdec DX8_send 22 rfl) rfl ?_
      refine g_aload_n (z := 0) C (tdec DX8_send 23 rfl) rfl rfl rfl ?_
      refine g_getf (C' := RX8) (T := TX8) (N := 27) (v := .int 2) C 0 0 (gIn iw_X8) rfl rfl (by decide) (gMem fl_X8_78) rfl rfl (tdec DX8_send 24 rfl) rfl ?_
      refine g_if_le (pt := 52) C (tdec DX8_send 25 rfl) (by decide) rfl (fun h => absurd h (by decide)) (fun _ => ?_)
      refine g_iconst (v := 0) C (tdec DX8_send 26 rfl) (by decide) rfl ?_
      have hr9 := o_some hF
      subst hr9
      exact g_iret C rfl rfl (tdec DX8_send 27 rfl)
  · have hF := o_ifp hF h3
    refine g_iconst (v := 1) C (tdec DX8_send 4 rfl) (by decide) rfl ?_
    refine g_goto (pt := 40) C (tdec DX8_send 5 rfl) (by decide) ?_
    refine g_putf (C' := RX8) (T := TX8) (N := 27) (v := .int 1) (ws' := wM cB cI cJ cZ x_0 x_1 x_2 x_3 x_4 x_5 x_6 x_7 x_8 x_9 x_10 x_11 x_12 x_13 x_14 x_15 x_16 x_17 x_18 x_19 (MS_setthr x0 1)) C 0 0 tyX8 tyX8_ok nmX8 (gIn iw_X8) rfl rfl (by decide) (gMem fl_X8_78) rfl rfl (tyX8_ok 0 (by decide)) rfl rfl (Nat.le_of_ble_eq_true rfl) rfl (tdec DX8_send 22 rfl) rfl ?_
    refine g_aload_n (z := 0) C (tdec DX8_send 23 rfl) rfl rfl rfl ?_
    refine g_getf (C' := RX8) (T := TX8) (N := 27) (v := .int 1) C 0 0 (gIn iw_X8) rfl rfl (by decide) (gMem fl_X8_78) rfl rfl (tdec DX8_send 24 rfl) rfl ?_
    refine g_if_le (pt := 52) C (tdec DX8_send 25 rfl) (by decide) rfl (fun h => absurd h (by decide)) (fun _ => ?_)
    refine g_iconst (v := 0) C (tdec DX8_send 26 rfl) (by decide) rfl ?_
    have hr9 := o_some hF
    subst hr9
    exact g_iret C rfl rfl (tdec DX8_send 27 rfl)
def FX8_number_L5 (x0 : MS) (v1 : Int32) (v2 : Int32) (k9 : Int64 → Int32 → Option (Int64)) : Nat → Int64 → Int32 → Option (Int64)
  | 0, _, _ => none
  | n9 + 1, v3, v5 =>
    if v2 ≤ v5 then
      k9 v3 v5
    else
      (ald 16000 (MS_str x0) (v1 + v5)).bind fun r2 =>
      FX8_number_L5 x0 v1 v2 k9 n9 ((v3 <<< ((8 : Int32).toInt64 &&& 63)) ||| (((r2 &&& 255) : Int32).toInt64)) (v5 + 1)
def FX8_number (x0 : MS) (p1 : Int32) (p2 : Int32) : Option (Int64) :=
  FX8_number_L5 x0 p1 p2 (fun w3_4 w5_4 =>
    some w3_4) 100000 0 0
def rX8_number : Room := { frames := 0, cells := 0, slots := 0, locals := 0 }
set_option maxHeartbeats 4000000 in
set_option maxRecDepth 100000 in
theorem c_FX8_number_L5 {p : Program} {l : Launch} {e : Env} {s : State} {m : MethodId} {args : Array Value} {below : List Frame} {meth : Method} {c : Code} {D : va_G} {cB cI cJ cZ : ClassId} {x_0 x_1 x_2 x_3 x_4 x_5 x_6 x_7 x_8 x_9 x_10 x_11 x_12 x_13 x_14 x_15 x_16 x_17 x_18 x_19 : Nat} {x0 : MS} {res : Int64} (C : gC p s m args meth c cX8_number 6 RX8 wsX8_number D (gT cB cI cJ cZ) (some .long) (fun _ => False)) {v1 : Int32} {v2 : Int32} {k9 : Int64 → Int32 → Option (Int64)} (hk9 : ∀ (v3 : Int64) (v5 : Int32), k9 v3 v5 = some res → gG p l e (headSpec wsX8_number rX8_number).room s m args below meth c 0 0 D (fun _ => True) (fun _ => False) 6 (MQ below (gRQl res) args s 0 0 (fun _ => False)) (wM cB cI cJ cZ x_0 x_1 x_2 x_3 x_4 x_5 x_6 x_7 x_8 x_9 x_10 x_11 x_12 x_13 x_14 x_15 x_16 x_17 x_18 x_19 x0) 37 [(0, .ref x_0), (1, .int v1), (2, .int v2), (3, .long v3), (5, .int v5)] []) :
    ∀ (n9 : Nat) (v3 : Int64) (v5 : Int32), FX8_number_L5 x0 v1 v2 k9 n9 v3 v5 = some res → gG p l e (headSpec wsX8_number rX8_number).room s m args below meth c 0 0 D (fun _ => True) (fun _ => False) 6 (MQ below (gRQl res) args s 0 0 (fun _ => False)) (wM cB cI cJ cZ x_0 x_1 x_2 x_3 x_4 x_5 x_6 x_7 x_8 x_9 x_10 x_11 x_12 x_13 x_14 x_15 x_16 x_17 x_18 x_19 x0) 5 [(0, .ref x_0), (1, .int v1), (2, .int v2), (3, .long v3), (5, .int v5)] [] := by
  intro n9
  induction n9 with
  | zero =>
    intro v3 v5 hF
    exact absurd hF (by simp [FX8_number_L5])
  | succ n9 ih9 =>
    intro v3 v5 hF
    rw [FX8_number_L5] at hF
    refine g_iload (z := 4) C (tdec DX8_number 4 rfl) rfl rfl ?_
    refine g_iload_n (z := 2) C (tdec DX8_number 5 rfl) rfl rfl rfl ?_
    refine g_icmp_ge (pt := 37) C (tdec DX8_number 6 rfl) (by decide) rfl (fun h1 => ?_) (fun h1 => ?_)
    · have hF := o_ifp hF h1
      refine g_sub (L' := [(0, .ref x_0), (1, .int v1), (2, .int v2), (3, .long v3), (5, .int v5)]) [0, 1, 2, 3, 4] rfl ?_
      exact hk9 _ _ hF
    · have hF := o_ifn hF h1
      refine g_lload_n (z := 3) C (tdec DX8_number 7 rfl) rfl rfl rfl ?_
      refine g_bipush (v := 8) C (tdec DX8_number 8 rfl) (by decide) rfl ?_
      refine g_lshl C (tdec DX8_number 9 rfl) rfl ?_
      refine g_aload_n (z := 0) C (tdec DX8_number 10 rfl) rfl rfl rfl ?_
      refine g_getf (C' := RX8) (T := TX8) (N := 27) (v := .ref x_17) C 0 18 (gIn iw_X8) rfl rfl (by decide) (gMem fl_X8_64) rfl rfl (tdec DX8_number 11 rfl) rfl ?_
      refine g_iload_n (z := 1) C (tdec DX8_number 12 rfl) rfl rfl rfl ?_
      refine g_iload (z := 4) C (tdec DX8_number 13 rfl) rfl rfl ?_
      refine g_iadd C (tdec DX8_number 14 rfl) rfl ?_
      obtain ⟨r2, y3, hF⟩ := o_bind hF
      refine g_bald C 17 0 rfl rfl y3 (tdec DX8_number 15 rfl) rfl ?_
      refine g_sipush (v := 255) C (tdec DX8_number 16 rfl) (by decide) rfl ?_
      refine g_iand C (tdec DX8_number 17 rfl) rfl ?_
      refine g_i2l C (tdec DX8_number 18 rfl) rfl ?_
      refine g_lor C (tdec DX8_number 19 rfl) rfl ?_
      refine g_lstore_n (L' := [(3, .long ((v3 <<< ((8 : Int32).toInt64 &&& 63)) ||| (((r2 &&& 255) : Int32).toInt64))), (0, .ref x_0), (1, .int v1), (2, .int v2), (5, .int v5)]) C (tdec DX8_number 20 rfl) rfl (by decide) rfl rfl ?_
      refine g_iinc (z := 4) (v := (v5 + 1)) (L' := [(5, .int (v5 + 1)), (3, .long ((v3 <<< ((8 : Int32).toInt64 &&& 63)) ||| (((r2 &&& 255) : Int32).toInt64))), (0, .ref x_0), (1, .int v1), (2, .int v2)]) C (tdec DX8_number 21 rfl) rfl rfl (by decide) rfl rfl ?_
      refine g_goto (pt := 5) C (tdec DX8_number 22 rfl) (by decide) ?_
      refine g_sub (L' := [(0, .ref x_0), (1, .int v1), (2, .int v2), (3, .long ((v3 <<< ((8 : Int32).toInt64 &&& 63)) ||| (((r2 &&& 255) : Int32).toInt64))), (5, .int (v5 + 1))]) [2, 3, 4, 1, 0] rfl ?_
      exact ih9 _ _ hF
set_option maxHeartbeats 4000000 in
set_option maxRecDepth 100000 in
theorem c_X8_number (l : Launch) (D : va_G) (cB cI cJ cZ : ClassId) (x_0 x_1 x_2 x_3 x_4 x_5 x_6 x_7 x_8 x_9 x_10 x_11 x_12 x_13 x_14 x_15 x_16 x_17 x_18 x_19 : Nat) {x0 : MS} {p1 : Int32} {p2 : Int32} {res : Int64} (hF : FX8_number x0 p1 p2 = some res) : gRl l yX8_number wsX8_number rX8_number D (gT cB cI cJ cZ) [.ref x_0, .int p1, .int p2] (wM cB cI cJ cZ x_0 x_1 x_2 x_3 x_4 x_5 x_6 x_7 x_8 x_9 x_10 x_11 x_12 x_13 x_14 x_15 x_16 x_17 x_18 x_19 x0) res := by
  refine g_enter (own := RX8) (free := (fun _ _ => False)) (Qc := (fun sz => gRQl res)) (fun _ _ => True) (fun sz => Or.inl rfl) rfl (by decide) rfl (Nat.le_of_ble_eq_true rfl) rfl ?_
  intro p e s m args below meth c C
  unfold FX8_number at hF
  refine g_lconst (v := 0) C (tdec DX8_number 0 rfl) (by decide) rfl ?_
  refine g_lstore_n (L' := [(3, .long 0), (0, .ref x_0), (1, .int p1), (2, .int p2)]) C (tdec DX8_number 1 rfl) rfl (by decide) rfl rfl ?_
  refine g_iconst (v := 0) C (tdec DX8_number 2 rfl) (by decide) rfl ?_
  refine g_istore (L' := [(5, .int 0), (3, .long 0), (0, .ref x_0), (1, .int p1), (2, .int p2)]) C (tdec DX8_number 3 rfl) (by decide) rfl rfl ?_
  refine g_sub (L' := [(0, .ref x_0), (1, .int p1), (2, .int p2), (3, .long 0), (5, .int 0)]) [2, 3, 4, 1, 0] rfl ?_
  refine c_FX8_number_L5 C (fun w3_4 w5_4 hF => ?_) 100000 _ _ hF
  refine g_lload_n (z := 3) C (tdec DX8_number 23 rfl) rfl rfl rfl ?_
  have hr9 := o_some hF
  subst hr9
  exact g_lretR C rfl (tdec DX8_number 24 rfl)
def FX8_isWhole (x0 : MS) (p1 : Int32) (p2 : Int32) : Option (Int32) :=
  if ((MS_len x0) - p1) < p2 then
    some 0
  else
    (FX8_number x0 ((p1 + p2) - 8) 8).bind fun r2 =>
    (FX8_sumOf x0 p1 ((p1 + p2) - 8)).bind fun r4 =>
    if (lg_cmp r2 r4) = 0 then
      some 1
    else
      some 0
def rX8_isWhole : Room := { frames := 1, cells := 0, slots := 0, locals := 25 }
set_option maxHeartbeats 4000000 in
set_option maxRecDepth 100000 in
theorem c_X8_isWhole (l : Launch) (D : va_G) (cB cI cJ cZ : ClassId) (x_0 x_1 x_2 x_3 x_4 x_5 x_6 x_7 x_8 x_9 x_10 x_11 x_12 x_13 x_14 x_15 x_16 x_17 x_18 x_19 : Nat) {x0 : MS} {p1 : Int32} {p2 : Int32} {res : Int32} (hF : FX8_isWhole x0 p1 p2 = some res) : gRi l yX8_isWhole wsX8_isWhole rX8_isWhole D (gT cB cI cJ cZ) [.ref x_0, .int p1, .int p2] (wM cB cI cJ cZ x_0 x_1 x_2 x_3 x_4 x_5 x_6 x_7 x_8 x_9 x_10 x_11 x_12 x_13 x_14 x_15 x_16 x_17 x_18 x_19 x0) res := by
  refine g_enter (own := RX8) (free := (fun _ _ => False)) (Qc := (fun sz => gRQi res)) (fun _ _ => True) (fun sz => Or.inl rfl) rfl (by decide) rfl (Nat.le_of_ble_eq_true rfl) rfl ?_
  intro p e s m args below meth c C
  unfold FX8_isWhole at hF
  refine g_aload_n (z := 0) C (tdec DX8_isWhole 0 rfl) rfl rfl rfl ?_
  refine g_getf (C' := RX8) (T := TX8) (N := 27) (v := .int (MS_len x0)) C 0 19 (gIn iw_X8) rfl rfl (by decide) (gMem fl_X8_147) rfl rfl (tdec DX8_isWhole 1 rfl) rfl ?_
  refine g_iload_n (z := 1) C (tdec DX8_isWhole 2 rfl) rfl rfl rfl ?_
  refine g_isub C (tdec DX8_isWhole 3 rfl) rfl ?_
  refine g_iload_n (z := 2) C (tdec DX8_isWhole 4 rfl) rfl rfl rfl ?_
  refine g_icmp_lt (pt := 41) C (tdec DX8_isWhole 5 rfl) (by decide) rfl (fun h1 => ?_) (fun h1 => ?_)
  · have hF := o_ifp hF h1
    refine g_iconst (v := 0) C (tdec DX8_isWhole 26 rfl) (by decide) rfl ?_
    have hr9 := o_some hF
    subst hr9
    exact g_zretR C rfl rfl (tdec DX8_isWhole 27 rfl)
  · have hF := o_ifn hF h1
    refine g_aload_n (z := 0) C (tdec DX8_isWhole 6 rfl) rfl rfl rfl ?_
    refine g_iload_n (z := 1) C (tdec DX8_isWhole 7 rfl) rfl rfl rfl ?_
    refine g_iload_n (z := 2) C (tdec DX8_isWhole 8 rfl) rfl rfl rfl ?_
    refine g_iadd C (tdec DX8_isWhole 9 rfl) rfl ?_
    refine g_bipush (v := 8) C (tdec DX8_isWhole 10 rfl) (by decide) rfl ?_
    refine g_isub C (tdec DX8_isWhole 11 rfl) rfl ?_
    refine g_bipush (v := 8) C (tdec DX8_isWhole 12 rfl) (by decide) rfl ?_
    obtain ⟨r2, y3, hF⟩ := o_bind hF
    refine g_callVlRS (q0 := 0) (S := [wM cB cI cJ cZ x_0 x_1 x_2 x_3 x_4 x_5 x_6 x_7 x_8 x_9 x_10 x_11 x_12 x_13 x_14 x_15 x_16 x_17 x_18 x_19 x0]) (S0 := [wM cB cI cJ cZ x_0 x_1 x_2 x_3 x_4 x_5 x_6 x_7 x_8 x_9 x_10 x_11 x_12 x_13 x_14 x_15 x_16 x_17 x_18 x_19 x0]) C (c_X8_number l D cB cI cJ cZ x_0 x_1 x_2 x_3 x_4 x_5 x_6 x_7 x_8 x_9 x_10 x_11 x_12 x_13 x_14 x_15 x_16 x_17 x_18 x_19 y3) rfl rfl (gIV ml_X8_186 im_X8_number sl_X8_number in_X8 cd_X8_number) rfl eX8_number rfl ⟨rfl, rfl⟩ ⟨Nat.le_of_ble_eq_true rfl, Nat.le_of_ble_eq_true rfl⟩ rfl rfl rfl [0] rfl rfl rfl (Nat.le_of_ble_eq_true rfl) (tdec DX8_isWhole 13 rfl) rfl ?_
    refine g_aload_n (z := 0) C (tdec DX8_isWhole 14 rfl) rfl rfl rfl ?_
    refine g_iload_n (z := 1) C (tdec DX8_isWhole 15 rfl) rfl rfl rfl ?_
    refine g_iload_n (z := 1) C (tdec DX8_isWhole 16 rfl) rfl rfl rfl ?_
    refine g_iload_n (z := 2) C (tdec DX8_isWhole 17 rfl) rfl rfl rfl ?_
    refine g_iadd C (tdec DX8_isWhole 18 rfl) rfl ?_
    refine g_bipush (v := 8) C (tdec DX8_isWhole 19 rfl) (by decide) rfl ?_
    refine g_isub C (tdec DX8_isWhole 20 rfl) rfl ?_
    obtain ⟨r4, y5, hF⟩ := o_bind hF
    refine g_callVlRS (q0 := 0) (S := [wM cB cI cJ cZ x_0 x_1 x_2 x_3 x_4 x_5 x_6 x_7 x_8 x_9 x_10 x_11 x_12 x_13 x_14 x_15 x_16 x_17 x_18 x_19 x0]) (S0 := [wM cB cI cJ cZ x_0 x_1 x_2 x_3 x_4 x_5 x_6 x_7 x_8 x_9 x_10 x_11 x_12 x_13 x_14 x_15 x_16 x_17 x_18 x_19 x0]) C (c_X8_sumOf l D cB cI cJ cZ x_0 x_1 x_2 x_3 x_4 x_5 x_6 x_7 x_8 x_9 x_10 x_11 x_12 x_13 x_14 x_15 x_16 x_17 x_18 x_19 y5) rfl rfl (gIV ml_X8_155 im_X8_sumOf sl_X8_sumOf in_X8 cd_X8_sumOf) rfl eX8_sumOf rfl ⟨rfl, rfl⟩ ⟨Nat.le_of_ble_eq_true rfl, Nat.le_of_ble_eq_true rfl⟩ rfl rfl rfl [0] rfl rfl rfl (Nat.le_of_ble_eq_true rfl) (tdec DX8_isWhole 21 rfl) rfl ?_
    refine g_lcmp C (tdec DX8_isWhole 22 rfl) rfl ?_
    refine g_if_ne (pt := 41) C (tdec DX8_isWhole 23 rfl) (by decide) rfl (fun h6 => ?_) (fun h6 => ?_)
    · have hF := o_ifn hF h6
      refine g_iconst (v := 0) C (tdec DX8_isWhole 26 rfl) (by decide) rfl ?_
      have hr9 := o_some hF
      subst hr9
      exact g_zretR C rfl rfl (tdec DX8_isWhole 27 rfl)
    · have hF := o_ifp hF h6
      refine g_iconst (v := 1) C (tdec DX8_isWhole 24 rfl) (by decide) rfl ?_
      refine g_goto (pt := 42) C (tdec DX8_isWhole 25 rfl) (by decide) ?_
      have hr9 := o_some hF
      subst hr9
      exact g_zretR C rfl rfl (tdec DX8_isWhole 27 rfl)
def FX8_receive_L222 (v1 : Int32) (v2 : Int32) (v3 : Int64) (v5 : Int32) (v6 : Int32) (v7 : Int32) (k9 : MS → Int32 → Option (Int32 × MS)) : Nat → MS → Int32 → Option (Int32 × MS)
  | 0, _, _ => none
  | n9 + 1, x, v8 =>
    (ald 2 (MS_snaps x) v2).bind fun r31 =>
    if r31 ≤ v8 then
      k9 x v8
    else
      (ald 40 (MS_sm x) ((20 * v2) + v8)).bind fun r34 =>
      (FX8_number x 9 8).bind fun r36 =>
      if (lg_cmp r34 r36) = 0 then
        some (4, x)
      else
        FX8_receive_L222 v1 v2 v3 v5 v6 v7 k9 n9 x (v8 + 1)
def FX8_receive (x0 : MS) (p1 : Int32) : Option (Int32 × MS) :=
  (FX8_isVolume p1).bind fun r1 =>
  if r1 = 0 then
    some (0, (MS_setthr x0 1))
  else
    (ald 2 (MS_busy x0) p1).bind fun r4 =>
    if r4 = 0 then
      if (MS_len x0) < 1 then
        some (1, (MS_setthr x0 0))
      else
        (ald 16000 (MS_str x0) 0).bind fun r8 =>
        if r8 = 1 then
          (FX8_isWhole (MS_setthr x0 0) 0 25).bind fun r11 =>
          if r11 = 0 then
            some (1, (MS_setthr x0 0))
          else
            (FX8_number (MS_setthr x0 0) 1 8).bind fun r14 =>
            (ald 2 (MS_snaps x0) p1).bind fun r16 =>
            if (lg_cmp r14 0) = 0 then
              if (r16 - 1) < 0 then
                if 0 ≤ (r16 - 1) then
                  (ald 44 (MS_tt x0) ((22 * p1) + 0)).bind fun r21 =>
                  (ald 44 (MS_tt x0) (((22 * p1) + 2) + (r16 - 1))).bind fun r23 =>
                  if r21 = r23 then
                    (ald 44 (MS_tb x0) ((22 * p1) + 0)).bind fun r26 =>
                    (ald 44 (MS_tb x0) (((22 * p1) + 2) + (r16 - 1))).bind fun r28 =>
                    if r26 = r28 then
                      FX8_receive_L222 p1 p1 r14 (r16 - 1) ((22 * p1) + 0) 1 (fun xq39 w8_39 =>
                        (ald 44 (MS_tt xq39) ((22 * p1) + 0)).bind fun r40 =>
                        (ast 44 (MS_tt xq39) ((22 * p1) + 1) r40).bind fun g42 =>
                        (ald 44 (MS_tb xq39) ((22 * p1) + 0)).bind fun r44 =>
                        (ast 44 (MS_tb xq39) ((22 * p1) + 1) r44).bind fun g46 =>
                        (ast 2 (MS_busy xq39) p1 (vp_nar .boolean 1)).bind fun g48 =>
                        (ast 2 (MS_at xq39) p1 25).bind fun g50 =>
                        (ast 2 (MS_rec xq39) p1 0).bind fun g52 =>
                        (FX8_number (MS_setrec (MS_setat (MS_setbusy (MS_settb (MS_settt xq39 g42) g46) g48) g50) g52) 9 8).bind fun r54 =>
                        (lst 2 (MS_tgt xq39) p1 r54).bind fun g56 =>
                        some (0, (MS_settgt (MS_setrec (MS_setat (MS_setbusy (MS_settb (MS_settt xq39 g42) g46) g48) g50) g52) g56))) 100000 (MS_setthr x0 0) 0
                    else
                      some (3, (MS_setthr x0 0))
                  else
                    some (3, (MS_setthr x0 0))
                else
                  (ald 44 (MS_tt x0) ((22 * p1) + 0)).bind fun r58 =>
                  if r58 = (-1) then
                    FX8_receive_L222 p1 p1 r14 (r16 - 1) ((22 * p1) + 0) 1 (fun xq61 w8_61 =>
                      (ald 44 (MS_tt xq61) ((22 * p1) + 0)).bind fun r62 =>
                      (ast 44 (MS_tt xq61) ((22 * p1) + 1) r62).bind fun g64 =>
                      (ald 44 (MS_tb xq61) ((22 * p1) + 0)).bind fun r66 =>
                      (ast 44 (MS_tb xq61) ((22 * p1) + 1) r66).bind fun g68 =>
                      (ast 2 (MS_busy xq61) p1 (vp_nar .boolean 1)).bind fun g70 =>
                      (ast 2 (MS_at xq61) p1 25).bind fun g72 =>
                      (ast 2 (MS_rec xq61) p1 0).bind fun g74 =>
                      (FX8_number (MS_setrec (MS_setat (MS_setbusy (MS_settb (MS_settt xq61 g64) g68) g70) g72) g74) 9 8).bind fun r76 =>
                      (lst 2 (MS_tgt xq61) p1 r76).bind fun g78 =>
                      some (0, (MS_settgt (MS_setrec (MS_setat (MS_setbusy (MS_settb (MS_settt xq61 g64) g68) g70) g72) g74) g78))) 100000 (MS_setthr x0 0) 0
                  else
                    some (3, (MS_setthr x0 0))
              else
                some (2, (MS_setthr x0 0))
            else
              if (r16 - 1) < 0 then
                some (2, (MS_setthr x0 0))
              else
                (ald 40 (MS_sm x0) ((20 * p1) + (r16 - 1))).bind fun r81 =>
                if (lg_cmp r81 r14) = 0 then
                  if 0 ≤ (r16 - 1) then
                    (ald 44 (MS_tt x0) ((22 * p1) + 0)).bind fun r85 =>
                    (ald 44 (MS_tt x0) (((22 * p1) + 2) + (r16 - 1))).bind fun r87 =>
                    if r85 = r87 then
                      (ald 44 (MS_tb x0) ((22 * p1) + 0)).bind fun r90 =>
                      (ald 44 (MS_tb x0) (((22 * p1) + 2) + (r16 - 1))).bind fun r92 =>
                      if r90 = r92 then
                        FX8_receive_L222 p1 p1 r14 (r16 - 1) ((22 * p1) + 0) 1 (fun xq95 w8_95 =>
                          (ald 44 (MS_tt xq95) ((22 * p1) + 0)).bind fun r96 =>
                          (ast 44 (MS_tt xq95) ((22 * p1) + 1) r96).bind fun g98 =>
                          (ald 44 (MS_tb xq95) ((22 * p1) + 0)).bind fun r100 =>
                          (ast 44 (MS_tb xq95) ((22 * p1) + 1) r100).bind fun g102 =>
                          (ast 2 (MS_busy xq95) p1 (vp_nar .boolean 1)).bind fun g104 =>
                          (ast 2 (MS_at xq95) p1 25).bind fun g106 =>
                          (ast 2 (MS_rec xq95) p1 0).bind fun g108 =>
                          (FX8_number (MS_setrec (MS_setat (MS_setbusy (MS_settb (MS_settt xq95 g98) g102) g104) g106) g108) 9 8).bind fun r110 =>
                          (lst 2 (MS_tgt xq95) p1 r110).bind fun g112 =>
                          some (0, (MS_settgt (MS_setrec (MS_setat (MS_setbusy (MS_settb (MS_settt xq95 g98) g102) g104) g106) g108) g112))) 100000 (MS_setthr x0 0) 0
                      else
                        some (3, (MS_setthr x0 0))
                    else
                      some (3, (MS_setthr x0 0))
                  else
                    (ald 44 (MS_tt x0) ((22 * p1) + 0)).bind fun r114 =>
                    if r114 = (-1) then
                      FX8_receive_L222 p1 p1 r14 (r16 - 1) ((22 * p1) + 0) 1 (fun xq117 w8_117 =>
                        (ald 44 (MS_tt xq117) ((22 * p1) + 0)).bind fun r118 =>
                        (ast 44 (MS_tt xq117) ((22 * p1) + 1) r118).bind fun g120 =>
                        (ald 44 (MS_tb xq117) ((22 * p1) + 0)).bind fun r122 =>
                        (ast 44 (MS_tb xq117) ((22 * p1) + 1) r122).bind fun g124 =>
                        (ast 2 (MS_busy xq117) p1 (vp_nar .boolean 1)).bind fun g126 =>
                        (ast 2 (MS_at xq117) p1 25).bind fun g128 =>
                        (ast 2 (MS_rec xq117) p1 0).bind fun g130 =>
                        (FX8_number (MS_setrec (MS_setat (MS_setbusy (MS_settb (MS_settt xq117 g120) g124) g126) g128) g130) 9 8).bind fun r132 =>
                        (lst 2 (MS_tgt xq117) p1 r132).bind fun g134 =>
                        some (0, (MS_settgt (MS_setrec (MS_setat (MS_setbusy (MS_settb (MS_settt xq117 g120) g124) g126) g128) g130) g134))) 100000 (MS_setthr x0 0) 0
                    else
                      some (3, (MS_setthr x0 0))
                else
                  some (2, (MS_setthr x0 0))
        else
          some (1, (MS_setthr x0 0))
    else
      some (6, (MS_setthr x0 0))
def rX8_receive : Room := { frames := 2, cells := 0, slots := 0, locals := 47 }
set_option maxHeartbeats 4000000 in
set_option maxRecDepth 100000 in
theorem c_FX8_receive_L222 {p : Program} {l : Launch} {e : Env} {s : State} {m : MethodId} {args : Array Value} {below : List Frame} {meth : Method} {c : Code} {D : va_G} {cB cI cJ cZ : ClassId} {x_0 x_1 x_2 x_3 x_4 x_5 x_6 x_7 x_8 x_9 x_10 x_11 x_12 x_13 x_14 x_15 x_16 x_17 x_18 x_19 : Nat} {x0 : MS} {res : Int32 × MS} (C : gC p s m args meth c cX8_receive 9 RX8 wsX8_receive D (gT cB cI cJ cZ) (some .int) (va_A (wM cB cI cJ cZ x_0 x_1 x_2 x_3 x_4 x_5 x_6 x_7 x_8 x_9 x_10 x_11 x_12 x_13 x_14 x_15 x_16 x_17 x_18 x_19 x0) s.heap.size)) {v1 : Int32} {v2 : Int32} {v3 : Int64} {v5 : Int32} {v6 : Int32} {v7 : Int32} {k9 : MS → Int32 → Option (Int32 × MS)} (hk9 : ∀ (x : MS) (v8 : Int32), k9 x v8 = some res → gG p l e (headSpec wsX8_receive rX8_receive).room s m args below meth c 0 0 D (va_A (wM cB cI cJ cZ x_0 x_1 x_2 x_3 x_4 x_5 x_6 x_7 x_8 x_9 x_10 x_11 x_12 x_13 x_14 x_15 x_16 x_17 x_18 x_19 x0) s.heap.size) (va_A (wM cB cI cJ cZ x_0 x_1 x_2 x_3 x_4 x_5 x_6 x_7 x_8 x_9 x_10 x_11 x_12 x_13 x_14 x_15 x_16 x_17 x_18 x_19 x0) s.heap.size) 9 (MQ below (gQi D (wM cB cI cJ cZ x_0 x_1 x_2 x_3 x_4 x_5 x_6 x_7 x_8 x_9 x_10 x_11 x_12 x_13 x_14 x_15 x_16 x_17 x_18 x_19 x0) s.heap.size res.1 (wM cB cI cJ cZ x_0 x_1 x_2 x_3 x_4 x_5 x_6 x_7 x_8 x_9 x_10 x_11 x_12 x_13 x_14 x_15 x_16 x_17 x_18 x_19 res.2)) args s 0 0 (va_A (wM cB cI cJ cZ x_0 x_1 x_2 x_3 x_4 x_5 x_6 x_7 x_8 x_9 x_10 x_11 x_12 x_13 x_14 x_15 x_16 x_17 x_18 x_19 x0) s.heap.size)) (wM cB cI cJ cZ x_0 x_1 x_2 x_3 x_4 x_5 x_6 x_7 x_8 x_9 x_10 x_11 x_12 x_13 x_14 x_15 x_16 x_17 x_18 x_19 x) 265 [(0, .ref x_0), (1, .int v1), (2, .int v2), (3, .long v3), (5, .int v5), (6, .int v6), (7, .int v7), (8, .int v8)] []) :
    ∀ (n9 : Nat) (x : MS) (v8 : Int32), FX8_receive_L222 v1 v2 v3 v5 v6 v7 k9 n9 x v8 = some res → gG p l e (headSpec wsX8_receive rX8_receive).room s m args below meth c 0 0 D (va_A (wM cB cI cJ cZ x_0 x_1 x_2 x_3 x_4 x_5 x_6 x_7 x_8 x_9 x_10 x_11 x_12 x_13 x_14 x_15 x_16 x_17 x_18 x_19 x0) s.heap.size) (va_A (wM cB cI cJ cZ x_0 x_1 x_2 x_3 x_4 x_5 x_6 x_7 x_8 x_9 x_10 x_11 x_12 x_13 x_14 x_15 x_16 x_17 x_18 x_19 x0) s.heap.size) 9 (MQ below (gQi D (wM cB cI cJ cZ x_0 x_1 x_2 x_3 x_4 x_5 x_6 x_7 x_8 x_9 x_10 x_11 x_12 x_13 x_14 x_15 x_16 x_17 x_18 x_19 x0) s.heap.size res.1 (wM cB cI cJ cZ x_0 x_1 x_2 x_3 x_4 x_5 x_6 x_7 x_8 x_9 x_10 x_11 x_12 x_13 x_14 x_15 x_16 x_17 x_18 x_19 res.2)) args s 0 0 (va_A (wM cB cI cJ cZ x_0 x_1 x_2 x_3 x_4 x_5 x_6 x_7 x_8 x_9 x_10 x_11 x_12 x_13 x_14 x_15 x_16 x_17 x_18 x_19 x0) s.heap.size)) (wM cB cI cJ cZ x_0 x_1 x_2 x_3 x_4 x_5 x_6 x_7 x_8 x_9 x_10 x_11 x_12 x_13 x_14 x_15 x_16 x_17 x_18 x_19 x) 222 [(0, .ref x_0), (1, .int v1), (2, .int v2), (3, .long v3), (5, .int v5), (6, .int v6), (7, .int v7), (8, .int v8)] [] := by
  intro n9
  induction n9 with
  | zero =>
    intro x v8 hF
    exact absurd hF (by simp [FX8_receive_L222])
  | succ n9 ih9 =>
    intro x v8 hF
    rw [FX8_receive_L222] at hF
    refine g_iload (z := 7) C (tdec DX8_receive 131 rfl) rfl rfl ?_
    refine g_aload_n (z := 0) C (tdec DX8_receive 132 rfl) rfl rfl rfl ?_
    refine g_getf (C' := RX8) (T := TX8) (N := 27) (v := .ref x_10) C 0 10 (gIn iw_X8) rfl rfl (by decide) (gMem fl_X8_39) rfl rfl (tdec DX8_receive 133 rfl) rfl ?_
    refine g_iload_n (z := 2) C (tdec DX8_receive 134 rfl) rfl rfl rfl ?_
    obtain ⟨r31, y32, hF⟩ := o_bind hF
    refine g_iald C 10 1 rfl rfl y32 (tdec DX8_receive 135 rfl) rfl ?_
    refine g_icmp_ge (pt := 265) C (tdec DX8_receive 136 rfl) (by decide) rfl (fun h33 => ?_) (fun h33 => ?_)
    · have hF := o_ifp hF h33
      refine g_sub (L' := [(0, .ref x_0), (1, .int v1), (2, .int v2), (3, .long v3), (5, .int v5), (6, .int v6), (7, .int v7), (8, .int v8)]) [0, 1, 2, 3, 4, 5, 6, 7] rfl ?_
      exact hk9 _ _ hF
    · have hF := o_ifn hF h33
      refine g_aload_n (z := 0) C (tdec DX8_receive 137 rfl) rfl rfl rfl ?_
      refine g_getf (C' := RX8) (T := TX8) (N := 27) (v := .ref x_12) C 0 12 (gIn iw_X8) rfl rfl (by decide) (gMem fl_X8_45) rfl rfl (tdec DX8_receive 138 rfl) rfl ?_
      refine g_bipush (v := 20) C (tdec DX8_receive 139 rfl) (by decide) rfl ?_
      refine g_iload_n (z := 2) C (tdec DX8_receive 140 rfl) rfl rfl rfl ?_
      refine g_imul C (tdec DX8_receive 141 rfl) rfl ?_
      refine g_iload (z := 7) C (tdec DX8_receive 142 rfl) rfl rfl ?_
      refine g_iadd C (tdec DX8_receive 143 rfl) rfl ?_
      obtain ⟨r34, y35, hF⟩ := o_bind hF
      refine g_lald C 12 2 rfl rfl y35 (tdec DX8_receive 144 rfl) rfl ?_
      refine g_aload_n (z := 0) C (tdec DX8_receive 145 rfl) rfl rfl rfl ?_
      refine g_bipush (v := 9) C (tdec DX8_receive 146 rfl) (by decide) rfl ?_
      refine g_bipush (v := 8) C (tdec DX8_receive 147 rfl) (by decide) rfl ?_
      obtain ⟨r36, y37, hF⟩ := o_bind hF
      refine g_callVlRS (q0 := 0) (S := [wM cB cI cJ cZ x_0 x_1 x_2 x_3 x_4 x_5 x_6 x_7 x_8 x_9 x_10 x_11 x_12 x_13 x_14 x_15 x_16 x_17 x_18 x_19 x]) (S0 := [wM cB cI cJ cZ x_0 x_1 x_2 x_3 x_4 x_5 x_6 x_7 x_8 x_9 x_10 x_11 x_12 x_13 x_14 x_15 x_16 x_17 x_18 x_19 x]) C (c_X8_number l D cB cI cJ cZ x_0 x_1 x_2 x_3 x_4 x_5 x_6 x_7 x_8 x_9 x_10 x_11 x_12 x_13 x_14 x_15 x_16 x_17 x_18 x_19 y37) rfl rfl (gIV ml_X8_186 im_X8_number sl_X8_number in_X8 cd_X8_number) rfl eX8_number rfl ⟨rfl, rfl⟩ ⟨Nat.le_of_ble_eq_true rfl, Nat.le_of_ble_eq_true rfl⟩ rfl rfl rfl [0] rfl rfl rfl (Nat.le_of_ble_eq_true rfl) (tdec DX8_receive 148 rfl) rfl ?_
      refine g_lcmp C (tdec DX8_receive 149 rfl) rfl ?_
      refine g_if_ne (pt := 259) C (tdec DX8_receive 150 rfl) (by decide) rfl (fun h38 => ?_) (fun h38 => ?_)
      · have hF := o_ifn hF h38
        refine g_iinc (z := 7) (v := (v8 + 1)) (L' := [(8, .int (v8 + 1)), (0, .ref x_0), (1, .int v1), (2, .int v2), (3, .long v3), (5, .int v5), (6, .int v6), (7, .int v7)]) C (tdec DX8_receive 153 rfl) rfl rfl (by decide) rfl rfl ?_
        refine g_goto (pt := 222) C (tdec DX8_receive 154 rfl) (by decide) ?_
        refine g_sub (L' := [(0, .ref x_0), (1, .int v1), (2, .int v2), (3, .long v3), (5, .int v5), (6, .int v6), (7, .int v7), (8, .int (v8 + 1))]) [1, 2, 3, 4, 5, 6, 7, 0] rfl ?_
        exact ih9 _ _ hF
      · have hF := o_ifp hF h38
        refine g_iconst (v := 4) C (tdec DX8_receive 151 rfl) (by decide) rfl ?_
        have hr9 := o_some hF
        subst hr9
        exact g_iret C rfl rfl (tdec DX8_receive 152 rfl)
set_option maxHeartbeats 4000000 in
set_option maxRecDepth 100000 in
theorem c_X8_receive (l : Launch) (D : va_G) (cB cI cJ cZ : ClassId) (x_0 x_1 x_2 x_3 x_4 x_5 x_6 x_7 x_8 x_9 x_10 x_11 x_12 x_13 x_14 x_15 x_16 x_17 x_18 x_19 : Nat) {x0 : MS} {p1 : Int32} {res : Int32 × MS} (hF : FX8_receive x0 p1 = some res) : gMi l yX8_receive wsX8_receive rX8_receive D (gT cB cI cJ cZ) [.ref x_0, .int p1] (wM cB cI cJ cZ x_0 x_1 x_2 x_3 x_4 x_5 x_6 x_7 x_8 x_9 x_10 x_11 x_12 x_13 x_14 x_15 x_16 x_17 x_18 x_19 x0) res.1 (wM cB cI cJ cZ x_0 x_1 x_2 x_3 x_4 x_5 x_6 x_7 x_8 x_9 x_10 x_11 x_12 x_13 x_14 x_15 x_16 x_17 x_18 x_19 res.2) := by
  refine g_enter (own := RX8) (free := (fun sz => va_A (wM cB cI cJ cZ x_0 x_1 x_2 x_3 x_4 x_5 x_6 x_7 x_8 x_9 x_10 x_11 x_12 x_13 x_14 x_15 x_16 x_17 x_18 x_19 x0) sz)) (Qc := (fun sz => gQi D (wM cB cI cJ cZ x_0 x_1 x_2 x_3 x_4 x_5 x_6 x_7 x_8 x_9 x_10 x_11 x_12 x_13 x_14 x_15 x_16 x_17 x_18 x_19 x0) sz res.1 (wM cB cI cJ cZ x_0 x_1 x_2 x_3 x_4 x_5 x_6 x_7 x_8 x_9 x_10 x_11 x_12 x_13 x_14 x_15 x_16 x_17 x_18 x_19 res.2))) (fun sz => va_A (wM cB cI cJ cZ x_0 x_1 x_2 x_3 x_4 x_5 x_6 x_7 x_8 x_9 x_10 x_11 x_12 x_13 x_14 x_15 x_16 x_17 x_18 x_19 x0) sz) (fun sz => Or.inr rfl) rfl (by decide) rfl (Nat.le_of_ble_eq_true rfl) rfl ?_
  intro p e s m args below meth c C
  unfold FX8_receive at hF
  refine g_aload_n (z := 0) C (tdec DX8_receive 0 rfl) rfl rfl rfl ?_
  refine g_iload_n (z := 1) C (tdec DX8_receive 1 rfl) rfl rfl rfl ?_
  obtain ⟨r1, y2, hF⟩ := o_bind hF
  refine g_callSiR C (c_X8_isVolume l D cB cI cJ cZ y2) (gIS ml_X8_82 st_X8_isVolume in_X8 cd_X8_isVolume) eX8_isVolume rfl ⟨rfl, rfl⟩ ⟨Nat.le_of_ble_eq_true rfl, Nat.le_of_ble_eq_true rfl⟩ rfl [] rfl rfl rfl (Nat.le_of_ble_eq_true rfl) (tdec DX8_receive 2 rfl) rfl ?_
  refine g_if_eq (pt := 12) C (tdec DX8_receive 3 rfl) (by decide) rfl (fun h3 => ?_) (fun h3 => ?_)
  · have hF := o_ifp hF h3
    refine g_iconst (v := 1) C (tdec DX8_receive 6 rfl) (by decide) rfl ?_
    refine g_putf (C' := RX8) (T := TX8) (N := 27) (v := .int 1) (ws' := wM cB cI cJ cZ x_0 x_1 x_2 x_3 x_4 x_5 x_6 x_7 x_8 x_9 x_10 x_11 x_12 x_13 x_14 x_15 x_16 x_17 x_18 x_19 (MS_setthr x0 1)) C 0 0 tyX8 tyX8_ok nmX8 (gIn iw_X8) rfl rfl (by decide) (gMem fl_X8_78) rfl rfl (tyX8_ok 0 (by decide)) rfl rfl (Nat.le_of_ble_eq_true rfl) rfl (tdec DX8_receive 7 rfl) rfl ?_
    refine g_aload_n (z := 0) C (tdec DX8_receive 8 rfl) rfl rfl rfl ?_
    refine g_getf (C' := RX8) (T := TX8) (N := 27) (v := .int 1) C 0 0 (gIn iw_X8) rfl rfl (by decide) (gMem fl_X8_78) rfl rfl (tdec DX8_receive 9 rfl) rfl ?_
    refine g_if_le (pt := 25) C (tdec DX8_receive 10 rfl) (by decide) rfl (fun h => absurd h (by decide)) (fun _ => ?_)
    refine g_iconst (v := 0) C (tdec DX8_receive 11 rfl) (by decide) rfl ?_
    have hr9 := o_some hF
    subst hr9
    exact g_iret C rfl rfl (tdec DX8_receive 12 rfl)
  · have hF := o_ifn hF h3
    refine g_iconst (v := 0) C (tdec DX8_receive 4 rfl) (by decide) rfl ?_
    refine g_goto (pt := 13) C (tdec DX8_receive 5 rfl) (by decide) ?_
    refine g_putf (C' := RX8) (T := TX8) (N := 27) (v := .int 0) (ws' := wM cB cI cJ cZ x_0 x_1 x_2 x_3 x_4 x_5 x_6 x_7 x_8 x_9 x_10 x_11 x_12 x_13 x_14 x_15 x_16 x_17 x_18 x_19 (MS_setthr x0 0)) C 0 0 tyX8 tyX8_ok nmX8 (gIn iw_X8) rfl rfl (by decide) (gMem fl_X8_78) rfl rfl (tyX8_ok 0 (by decide)) rfl rfl (Nat.le_of_ble_eq_true rfl) rfl (tdec DX8_receive 7 rfl) rfl ?_
    refine g_aload_n (z := 0) C (tdec DX8_receive 8 rfl) rfl rfl rfl ?_
    refine g_getf (C' := RX8) (T := TX8) (N := 27) (v := .int 0) C 0 0 (gIn iw_X8) rfl rfl (by decide) (gMem fl_X8_78) rfl rfl (tdec DX8_receive 9 rfl) rfl ?_
    refine g_if_le (pt := 25) C (tdec DX8_receive 10 rfl) (by decide) rfl (fun _ => ?_) (fun h => absurd h (by decide))
    refine g_iload_n (z := 1) C (tdec DX8_receive 13 rfl) rfl rfl rfl ?_
    refine g_istore_n (L' := [(2, .int p1), (0, .ref x_0), (1, .int p1)]) C (tdec DX8_receive 14 rfl) rfl (by decide) rfl rfl ?_
    refine g_aload_n (z := 1) C (tdec DX8_receive 15 rfl) rfl rfl rfl ?_
    refine g_getf (C' := RX8) (T := TX8) (N := 27) (v := .ref x_13) C 0 13 (gIn iw_X8) rfl rfl (by decide) (gMem fl_X8_48) rfl rfl (tdec DX8_receive 16 rfl) rfl ?_
    refine g_iload_n (z := 0) C (tdec DX8_receive 17 rfl) rfl rfl rfl ?_
    obtain ⟨r4, y5, hF⟩ := o_bind hF
    refine g_zald C 13 3 rfl rfl y5 (tdec DX8_receive 18 rfl) rfl ?_
    refine g_if_eq (pt := 39) C (tdec DX8_receive 19 rfl) (by decide) rfl (fun h6 => ?_) (fun h6 => ?_)
    · have hF := o_ifp hF h6
      refine g_aload_n (z := 1) C (tdec DX8_receive 22 rfl) rfl rfl rfl ?_
      refine g_getf (C' := RX8) (T := TX8) (N := 27) (v := .int (MS_len x0)) C 0 19 (gIn iw_X8) rfl rfl (by decide) (gMem fl_X8_147) rfl rfl (tdec DX8_receive 23 rfl) rfl ?_
      refine g_iconst (v := 1) C (tdec DX8_receive 24 rfl) (by decide) rfl ?_
      refine g_icmp_lt (pt := 67) C (tdec DX8_receive 25 rfl) (by decide) rfl (fun h7 => ?_) (fun h7 => ?_)
      · have hF := o_ifp hF h7
        refine g_iconst (v := 1) C (tdec DX8_receive 37 rfl) (by decide) rfl ?_
        have hr9 := o_some hF
        subst hr9
        exact g_iret C rfl rfl (tdec DX8_receive 38 rfl)
      · have hF := o_ifn hF h7
        refine g_aload_n (z := 1) C (tdec DX8_receive 26 rfl) rfl rfl rfl ?_
        refine g_getf (C' := RX8) (T := TX8) (N := 27) (v := .ref x_17) C 0 18 (gIn iw_X8) rfl rfl (by decide) (gMem fl_X8_64) rfl rfl (tdec DX8_receive 27 rfl) rfl ?_
        refine g_iconst (v := 0) C (tdec DX8_receive 28 rfl) (by decide) rfl ?_
        obtain ⟨r8, y9, hF⟩ := o_bind hF
        refine g_bald C 17 0 rfl rfl y9 (tdec DX8_receive 29 rfl) rfl ?_
        refine g_iconst (v := 1) C (tdec DX8_receive 30 rfl) (by decide) rfl ?_
        refine g_icmp_ne (pt := 67) C (tdec DX8_receive 31 rfl) (by decide) rfl (fun h10 => ?_) (fun h10 => ?_)
        · have hF := o_ifn hF h10
          refine g_iconst (v := 1) C (tdec DX8_receive 37 rfl) (by decide) rfl ?_
          have hr9 := o_some hF
          subst hr9
          exact g_iret C rfl rfl (tdec DX8_receive 38 rfl)
        · have hF := o_ifp hF h10
          refine g_aload_n (z := 1) C (tdec DX8_receive 32 rfl) rfl rfl rfl ?_
          refine g_iconst (v := 0) C (tdec DX8_receive 33 rfl) (by decide) rfl ?_
          refine g_bipush (v := 25) C (tdec DX8_receive 34 rfl) (by decide) rfl ?_
          obtain ⟨r11, y12, hF⟩ := o_bind hF
          refine g_callViRS (q0 := 0) (S := [wM cB cI cJ cZ x_0 x_1 x_2 x_3 x_4 x_5 x_6 x_7 x_8 x_9 x_10 x_11 x_12 x_13 x_14 x_15 x_16 x_17 x_18 x_19 (MS_setthr x0 0)]) (S0 := [wM cB cI cJ cZ x_0 x_1 x_2 x_3 x_4 x_5 x_6 x_7 x_8 x_9 x_10 x_11 x_12 x_13 x_14 x_15 x_16 x_17 x_18 x_19 (MS_setthr x0 0)]) C (c_X8_isWhole l D cB cI cJ cZ x_0 x_1 x_2 x_3 x_4 x_5 x_6 x_7 x_8 x_9 x_10 x_11 x_12 x_13 x_14 x_15 x_16 x_17 x_18 x_19 y12) rfl rfl (gIV ml_X8_189 im_X8_isWhole sl_X8_isWhole in_X8 cd_X8_isWhole) rfl eX8_isWhole rfl ⟨rfl, rfl⟩ ⟨Nat.le_of_ble_eq_true rfl, Nat.le_of_ble_eq_true rfl⟩ rfl rfl rfl [0] rfl rfl rfl (Nat.le_of_ble_eq_true rfl) (tdec DX8_receive 35 rfl) rfl ?_
          refine g_if_ne (pt := 69) C (tdec DX8_receive 36 rfl) (by decide) rfl (fun h13 => ?_) (fun h13 => ?_)
          · have hF := o_ifn hF h13
            refine g_aload_n (z := 1) C (tdec DX8_receive 39 rfl) rfl rfl rfl ?_
            refine g_iconst (v := 1) C (tdec DX8_receive 40 rfl) (by decide) rfl ?_
            refine g_bipush (v := 8) C (tdec DX8_receive 41 rfl) (by decide) rfl ?_
            obtain ⟨r14, y15, hF⟩ := o_bind hF
            refine g_callVlRS (q0 := 0) (S := [wM cB cI cJ cZ x_0 x_1 x_2 x_3 x_4 x_5 x_6 x_7 x_8 x_9 x_10 x_11 x_12 x_13 x_14 x_15 x_16 x_17 x_18 x_19 (MS_setthr x0 0)]) (S0 := [wM cB cI cJ cZ x_0 x_1 x_2 x_3 x_4 x_5 x_6 x_7 x_8 x_9 x_10 x_11 x_12 x_13 x_14 x_15 x_16 x_17 x_18 x_19 (MS_setthr x0 0)]) C (c_X8_number l D cB cI cJ cZ x_0 x_1 x_2 x_3 x_4 x_5 x_6 x_7 x_8 x_9 x_10 x_11 x_12 x_13 x_14 x_15 x_16 x_17 x_18 x_19 y15) rfl rfl (gIV ml_X8_186 im_X8_number sl_X8_number in_X8 cd_X8_number) rfl eX8_number rfl ⟨rfl, rfl⟩ ⟨Nat.le_of_ble_eq_true rfl, Nat.le_of_ble_eq_true rfl⟩ rfl rfl rfl [0] rfl rfl rfl (Nat.le_of_ble_eq_true rfl) (tdec DX8_receive 42 rfl) rfl ?_
            refine g_lstore_n (L' := [(3, .long r14), (2, .int p1), (0, .ref x_0), (1, .int p1)]) C (tdec DX8_receive 43 rfl) rfl (by decide) rfl rfl ?_
            refine g_aload_n (z := 2) C (tdec DX8_receive 44 rfl) rfl rfl rfl ?_
            refine g_getf (C' := RX8) (T := TX8) (N := 27) (v := .ref x_10) C 0 10 (gIn iw_X8) rfl rfl (by decide) (gMem fl_X8_39) rfl rfl (tdec DX8_receive 45 rfl) rfl ?_
            refine g_iload_n (z := 1) C (tdec DX8_receive 46 rfl) rfl rfl rfl ?_
            obtain ⟨r16, y17, hF⟩ := o_bind hF
            refine g_iald C 10 1 rfl rfl y17 (tdec DX8_receive 47 rfl) rfl ?_
            refine g_iconst (v := 1) C (tdec DX8_receive 48 rfl) (by decide) rfl ?_
            refine g_isub C (tdec DX8_receive 49 rfl) rfl ?_
            refine g_istore (L' := [(5, .int (r16 - 1)), (3, .long r14), (2, .int p1), (0, .ref x_0), (1, .int p1)]) C (tdec DX8_receive 50 rfl) (by decide) rfl rfl ?_
            refine g_lload_n (z := 1) C (tdec DX8_receive 51 rfl) rfl rfl rfl ?_
            refine g_lconst (v := 0) C (tdec DX8_receive 52 rfl) (by decide) rfl ?_
            refine g_lcmp C (tdec DX8_receive 53 rfl) rfl ?_
            refine g_if_eq (pt := 118) C (tdec DX8_receive 54 rfl) (by decide) rfl (fun h18 => ?_) (fun h18 => ?_)
            · have hF := o_ifp hF h18
              refine g_iload (z := 0) C (tdec DX8_receive 69 rfl) rfl rfl ?_
              refine g_if_lt (pt := 125) C (tdec DX8_receive 70 rfl) (by decide) rfl (fun h19 => ?_) (fun h19 => ?_)
              · have hF := o_ifp hF h19
                refine g_bipush (v := 22) C (tdec DX8_receive 73 rfl) (by decide) rfl ?_
                refine g_iload_n (z := 2) C (tdec DX8_receive 74 rfl) rfl rfl rfl ?_
                refine g_imul C (tdec DX8_receive 75 rfl) rfl ?_
                refine g_iconst (v := 0) C (tdec DX8_receive 76 rfl) (by decide) rfl ?_
                refine g_iadd C (tdec DX8_receive 77 rfl) rfl ?_
                refine g_istore (L' := [(6, .int ((22 * p1) + 0)), (5, .int (r16 - 1)), (3, .long r14), (2, .int p1), (0, .ref x_0), (1, .int p1)]) C (tdec DX8_receive 78 rfl) (by decide) rfl rfl ?_
                refine g_iload (z := 1) C (tdec DX8_receive 79 rfl) rfl rfl ?_
                refine g_if_ge (pt := 157) C (tdec DX8_receive 80 rfl) (by decide) rfl (fun h20 => ?_) (fun h20 => ?_)
                · have hF := o_ifp hF h20
                  refine g_aload_n (z := 4) C (tdec DX8_receive 91 rfl) rfl rfl rfl ?_
                  refine g_getf (C' := RX8) (T := TX8) (N := 27) (v := .ref x_7) C 0 7 (gIn iw_X8) rfl rfl (by decide) (gMem fl_X8_30) rfl rfl (tdec DX8_receive 92 rfl) rfl ?_
                  refine g_iload (z := 0) C (tdec DX8_receive 93 rfl) rfl rfl ?_
                  obtain ⟨r21, y22, hF⟩ := o_bind hF
                  refine g_iald C 7 1 rfl rfl y22 (tdec DX8_receive 94 rfl) rfl ?_
                  refine g_aload_n (z := 4) C (tdec DX8_receive 95 rfl) rfl rfl rfl ?_
                  refine g_getf (C' := RX8) (T := TX8) (N := 27) (v := .ref x_7) C 0 7 (gIn iw_X8) rfl rfl (by decide) (gMem fl_X8_30) rfl rfl (tdec DX8_receive 96 rfl) rfl ?_
                  refine g_bipush (v := 22) C (tdec DX8_receive 97 rfl) (by decide) rfl ?_
                  refine g_iload_n (z := 3) C (tdec DX8_receive 98 rfl) rfl rfl rfl ?_
                  refine g_imul C (tdec DX8_receive 99 rfl) rfl ?_
                  refine g_iconst (v := 2) C (tdec DX8_receive 100 rfl) (by decide) rfl ?_
                  refine g_iadd C (tdec DX8_receive 101 rfl) rfl ?_
                  refine g_iload (z := 1) C (tdec DX8_receive 102 rfl) rfl rfl ?_
                  refine g_iadd C (tdec DX8_receive 103 rfl) rfl ?_
                  obtain ⟨r23, y24, hF⟩ := o_bind hF
                  refine g_iald C 7 1 rfl rfl y24 (tdec DX8_receive 104 rfl) rfl ?_
                  refine g_icmp_ne (pt := 209) C (tdec DX8_receive 105 rfl) (by decide) rfl (fun h25 => ?_) (fun h25 => ?_)
                  · have hF := o_ifn hF h25
                    refine g_iconst (v := 0) C (tdec DX8_receive 123 rfl) (by decide) rfl ?_
                    refine g_istore (L' := [(7, .int 0), (6, .int ((22 * p1) + 0)), (5, .int (r16 - 1)), (3, .long r14), (2, .int p1), (0, .ref x_0), (1, .int p1)]) C (tdec DX8_receive 124 rfl) (by decide) rfl rfl ?_
                    refine g_iload (z := 0) C (tdec DX8_receive 125 rfl) rfl rfl ?_
                    refine g_if_ne (pt := 219) C (tdec DX8_receive 126 rfl) (by decide) rfl (fun h => absurd h (by decide)) (fun _ => ?_)
                    refine g_iconst (v := 3) C (tdec DX8_receive 127 rfl) (by decide) rfl ?_
                    have hr9 := o_some hF
                    subst hr9
                    exact g_iret C rfl rfl (tdec DX8_receive 128 rfl)
                  · have hF := o_ifp hF h25
                    refine g_aload_n (z := 4) C (tdec DX8_receive 106 rfl) rfl rfl rfl ?_
                    refine g_getf (C' := RX8) (T := TX8) (N := 27) (v := .ref x_8) C 0 8 (gIn iw_X8) rfl rfl (by decide) (gMem fl_X8_33) rfl rfl (tdec DX8_receive 107 rfl) rfl ?_
                    refine g_iload (z := 0) C (tdec DX8_receive 108 rfl) rfl rfl ?_
                    obtain ⟨r26, y27, hF⟩ := o_bind hF
                    refine g_iald C 8 1 rfl rfl y27 (tdec DX8_receive 109 rfl) rfl ?_
                    refine g_aload_n (z := 4) C (tdec DX8_receive 110 rfl) rfl rfl rfl ?_
                    refine g_getf (C' := RX8) (T := TX8) (N := 27) (v := .ref x_8) C 0 8 (gIn iw_X8) rfl rfl (by decide) (gMem fl_X8_33) rfl rfl (tdec DX8_receive 111 rfl) rfl ?_
                    refine g_bipush (v := 22) C (tdec DX8_receive 112 rfl) (by decide) rfl ?_
                    refine g_iload_n (z := 3) C (tdec DX8_receive 113 rfl) rfl rfl rfl ?_
                    refine g_imul C (tdec DX8_receive 114 rfl) rfl ?_
                    refine g_iconst (v := 2) C (tdec DX8_receive 115 rfl) (by decide) rfl ?_
                    refine g_iadd C (tdec DX8_receive 116 rfl) rfl ?_
                    refine g_iload (z := 1) C (tdec DX8_receive 117 rfl) rfl rfl ?_
                    refine g_iadd C (tdec DX8_receive 118 rfl) rfl ?_
                    obtain ⟨r28, y29, hF⟩ := o_bind hF
                    refine g_iald C 8 1 rfl rfl y29 (tdec DX8_receive 119 rfl) rfl ?_
                    refine g_icmp_ne (pt := 209) C (tdec DX8_receive 120 rfl) (by decide) rfl (fun h30 => ?_) (fun h30 => ?_)
                    · have hF := o_ifn hF h30
                      refine g_iconst (v := 0) C (tdec DX8_receive 123 rfl) (by decide) rfl ?_
                      refine g_istore (L' := [(7, .int 0), (6, .int ((22 * p1) + 0)), (5, .int (r16 - 1)), (3, .long r14), (2, .int p1), (0, .ref x_0), (1, .int p1)]) C (tdec DX8_receive 124 rfl) (by decide) rfl rfl ?_
                      refine g_iload (z := 0) C (tdec DX8_receive 125 rfl) rfl rfl ?_
                      refine g_if_ne (pt := 219) C (tdec DX8_receive 126 rfl) (by decide) rfl (fun h => absurd h (by decide)) (fun _ => ?_)
                      refine g_iconst (v := 3) C (tdec DX8_receive 127 rfl) (by decide) rfl ?_
                      have hr9 := o_some hF
                      subst hr9
                      exact g_iret C rfl rfl (tdec DX8_receive 128 rfl)
                    · have hF := o_ifp hF h30
                      refine g_iconst (v := 1) C (tdec DX8_receive 121 rfl) (by decide) rfl ?_
                      refine g_goto (pt := 210) C (tdec DX8_receive 122 rfl) (by decide) ?_
                      refine g_istore (L' := [(7, .int 1), (6, .int ((22 * p1) + 0)), (5, .int (r16 - 1)), (3, .long r14), (2, .int p1), (0, .ref x_0), (1, .int p1)]) C (tdec DX8_receive 124 rfl) (by decide) rfl rfl ?_
                      refine g_iload (z := 0) C (tdec DX8_receive 125 rfl) rfl rfl ?_
                      refine g_if_ne (pt := 219) C (tdec DX8_receive 126 rfl) (by decide) rfl (fun _ => ?_) (fun h => absurd h (by decide))
                      refine g_iconst (v := 0) C (tdec DX8_receive 129 rfl) (by decide) rfl ?_
                      refine g_istore (L' := [(8, .int 0), (7, .int 1), (6, .int ((22 * p1) + 0)), (5, .int (r16 - 1)), (3, .long r14), (2, .int p1), (0, .ref x_0), (1, .int p1)]) C (tdec DX8_receive 130 rfl) (by decide) rfl rfl ?_
                      refine g_sub (L' := [(0, .ref x_0), (1, .int p1), (2, .int p1), (3, .long r14), (5, .int (r16 - 1)), (6, .int ((22 * p1) + 0)), (7, .int 1), (8, .int 0)]) [6, 7, 5, 4, 3, 2, 1, 0] rfl ?_
                      refine c_FX8_receive_L222 C (fun xq39 w8_39 hF => ?_) 100000 _ _ hF
                      refine g_aload_n (z := 0) C (tdec DX8_receive 155 rfl) rfl rfl rfl ?_
                      refine g_getf (C' := RX8) (T := TX8) (N := 27) (v := .ref x_7) C 0 7 (gIn iw_X8) rfl rfl (by decide) (gMem fl_X8_30) rfl rfl (tdec DX8_receive 156 rfl) rfl ?_
                      refine g_bipush (v := 22) C (tdec DX8_receive 157 rfl) (by decide) rfl ?_
                      refine g_iload_n (z := 2) C (tdec DX8_receive 158 rfl) rfl rfl rfl ?_
                      refine g_imul C (tdec DX8_receive 159 rfl) rfl ?_
                      refine g_iconst (v := 1) C (tdec DX8_receive 160 rfl) (by decide) rfl ?_
                      refine g_iadd C (tdec DX8_receive 161 rfl) rfl ?_
                      refine g_aload_n (z := 0) C (tdec DX8_receive 162 rfl) rfl rfl rfl ?_
                      refine g_getf (C' := RX8) (T := TX8) (N := 27) (v := .ref x_7) C 0 7 (gIn iw_X8) rfl rfl (by decide) (gMem fl_X8_30) rfl rfl (tdec DX8_receive 163 rfl) rfl ?_
                      refine g_iload (z := 5) C (tdec DX8_receive 164 rfl) rfl rfl ?_
                      obtain ⟨r40, y41, hF⟩ := o_bind hF
                      refine g_iald C 7 1 rfl rfl y41 (tdec DX8_receive 165 rfl) rfl ?_
                      obtain ⟨g42, y43, hF⟩ := o_bind hF
                      refine g_iast (ws' := wM cB cI cJ cZ x_0 x_1 x_2 x_3 x_4 x_5 x_6 x_7 x_8 x_9 x_10 x_11 x_12 x_13 x_14 x_15 x_16 x_17 x_18 x_19 (MS_settt xq39 g42)) C 7 1 rfl rfl y43 rfl (tdec DX8_receive 166 rfl) rfl ?_
                      refine g_aload_n (z := 0) C (tdec DX8_receive 167 rfl) rfl rfl rfl ?_
                      refine g_getf (C' := RX8) (T := TX8) (N := 27) (v := .ref x_8) C 0 8 (gIn iw_X8) rfl rfl (by decide) (gMem fl_X8_33) rfl rfl (tdec DX8_receive 168 rfl) rfl ?_
                      refine g_bipush (v := 22) C (tdec DX8_receive 169 rfl) (by decide) rfl ?_
                      refine g_iload_n (z := 2) C (tdec DX8_receive 170 rfl) rfl rfl rfl ?_
                      refine g_imul C (tdec DX8_receive 171 rfl) rfl ?_
                      refine g_iconst (v := 1) C (tdec DX8_receive 172 rfl) (by decide) rfl ?_
                      refine g_iadd C (tdec DX8_receive 173 rfl) rfl ?_
                      refine g_aload_n (z := 0) C (tdec DX8_receive 174 rfl) rfl rfl rfl ?_
                      refine g_getf (C' := RX8) (T := TX8) (N := 27) (v := .ref x_8) C 0 8 (gIn iw_X8) rfl rfl (by decide) (gMem fl_X8_33) rfl rfl (tdec DX8_receive 175 rfl) rfl ?_
                      refine g_iload (z := 5) C (tdec DX8_receive 176 rfl) rfl rfl ?_
                      obtain ⟨r44, y45, hF⟩ := o_bind hF
                      refine g_iald C 8 1 rfl rfl y45 (tdec DX8_receive 177 rfl) rfl ?_
                      obtain ⟨g46, y47, hF⟩ := o_bind hF
                      refine g_iast (ws' := wM cB cI cJ cZ x_0 x_1 x_2 x_3 x_4 x_5 x_6 x_7 x_8 x_9 x_10 x_11 x_12 x_13 x_14 x_15 x_16 x_17 x_18 x_19 (MS_settb (MS_settt xq39 g42) g46)) C 8 1 rfl rfl y47 rfl (tdec DX8_receive 178 rfl) rfl ?_
                      refine g_aload_n (z := 0) C (tdec DX8_receive 179 rfl) rfl rfl rfl ?_
                      refine g_getf (C' := RX8) (T := TX8) (N := 27) (v := .ref x_13) C 0 13 (gIn iw_X8) rfl rfl (by decide) (gMem fl_X8_48) rfl rfl (tdec DX8_receive 180 rfl) rfl ?_
                      refine g_iload_n (z := 2) C (tdec DX8_receive 181 rfl) rfl rfl rfl ?_
                      refine g_iconst (v := 1) C (tdec DX8_receive 182 rfl) (by decide) rfl ?_
                      obtain ⟨g48, y49, hF⟩ := o_bind hF
                      refine g_zast (ws' := wM cB cI cJ cZ x_0 x_1 x_2 x_3 x_4 x_5 x_6 x_7 x_8 x_9 x_10 x_11 x_12 x_13 x_14 x_15 x_16 x_17 x_18 x_19 (MS_setbusy (MS_settb (MS_settt xq39 g42) g46) g48)) C 13 3 rfl rfl y49 rfl (tdec DX8_receive 183 rfl) rfl ?_
                      refine g_aload_n (z := 0) C (tdec DX8_receive 184 rfl) rfl rfl rfl ?_
                      refine g_getf (C' := RX8) (T := TX8) (N := 27) (v := .ref x_14) C 0 14 (gIn iw_X8) rfl rfl (by decide) (gMem fl_X8_51) rfl rfl (tdec DX8_receive 185 rfl) rfl ?_
                      refine g_iload_n (z := 2) C (tdec DX8_receive 186 rfl) rfl rfl rfl ?_
                      refine g_bipush (v := 25) C (tdec DX8_receive 187 rfl) (by decide) rfl ?_
                      obtain ⟨g50, y51, hF⟩ := o_bind hF
                      refine g_iast (ws' := wM cB cI cJ cZ x_0 x_1 x_2 x_3 x_4 x_5 x_6 x_7 x_8 x_9 x_10 x_11 x_12 x_13 x_14 x_15 x_16 x_17 x_18 x_19 (MS_setat (MS_setbusy (MS_settb (MS_settt xq39 g42) g46) g48) g50)) C 14 1 rfl rfl y51 rfl (tdec DX8_receive 188 rfl) rfl ?_
                      refine g_aload_n (z := 0) C (tdec DX8_receive 189 rfl) rfl rfl rfl ?_
                      refine g_getf (C' := RX8) (T := TX8) (N := 27) (v := .ref x_15) C 0 15 (gIn iw_X8) rfl rfl (by decide) (gMem fl_X8_54) rfl rfl (tdec DX8_receive 190 rfl) rfl ?_
                      refine g_iload_n (z := 2) C (tdec DX8_receive 191 rfl) rfl rfl rfl ?_
                      refine g_iconst (v := 0) C (tdec DX8_receive 192 rfl) (by decide) rfl ?_
                      obtain ⟨g52, y53, hF⟩ := o_bind hF
                      refine g_iast (ws' := wM cB cI cJ cZ x_0 x_1 x_2 x_3 x_4 x_5 x_6 x_7 x_8 x_9 x_10 x_11 x_12 x_13 x_14 x_15 x_16 x_17 x_18 x_19 (MS_setrec (MS_setat (MS_setbusy (MS_settb (MS_settt xq39 g42) g46) g48) g50) g52)) C 15 1 rfl rfl y53 rfl (tdec DX8_receive 193 rfl) rfl ?_
                      refine g_aload_n (z := 0) C (tdec DX8_receive 194 rfl) rfl rfl rfl ?_
                      refine g_getf (C' := RX8) (T := TX8) (N := 27) (v := .ref x_16) C 0 16 (gIn iw_X8) rfl rfl (by decide) (gMem fl_X8_57) rfl rfl (tdec DX8_receive 195 rfl) rfl ?_
                      refine g_iload_n (z := 2) C (tdec DX8_receive 196 rfl) rfl rfl rfl ?_
                      refine g_aload_n (z := 0) C (tdec DX8_receive 197 rfl) rfl rfl rfl ?_
                      refine g_bipush (v := 9) C (tdec DX8_receive 198 rfl) (by decide) rfl ?_
                      refine g_bipush (v := 8) C (tdec DX8_receive 199 rfl) (by decide) rfl ?_
                      obtain ⟨r54, y55, hF⟩ := o_bind hF
                      refine g_callVlRS (q0 := 0) (S := [wM cB cI cJ cZ x_0 x_1 x_2 x_3 x_4 x_5 x_6 x_7 x_8 x_9 x_10 x_11 x_12 x_13 x_14 x_15 x_16 x_17 x_18 x_19 (MS_setrec (MS_setat (MS_setbusy (MS_settb (MS_settt xq39 g42) g46) g48) g50) g52)]) (S0 := [wM cB cI cJ cZ x_0 x_1 x_2 x_3 x_4 x_5 x_6 x_7 x_8 x_9 x_10 x_11 x_12 x_13 x_14 x_15 x_16 x_17 x_18 x_19 (MS_setrec (MS_setat (MS_setbusy (MS_settb (MS_settt xq39 g42) g46) g48) g50) g52)]) C (c_X8_number l D cB cI cJ cZ x_0 x_1 x_2 x_3 x_4 x_5 x_6 x_7 x_8 x_9 x_10 x_11 x_12 x_13 x_14 x_15 x_16 x_17 x_18 x_19 y55) rfl rfl (gIV ml_X8_186 im_X8_number sl_X8_number in_X8 cd_X8_number) rfl eX8_number rfl ⟨rfl, rfl⟩ ⟨Nat.le_of_ble_eq_true rfl, Nat.le_of_ble_eq_true rfl⟩ rfl rfl rfl [0] rfl rfl rfl (Nat.le_of_ble_eq_true rfl) (tdec DX8_receive 200 rfl) rfl ?_
                      obtain ⟨g56, y57, hF⟩ := o_bind hF
                      refine g_last (ws' := wM cB cI cJ cZ x_0 x_1 x_2 x_3 x_4 x_5 x_6 x_7 x_8 x_9 x_10 x_11 x_12 x_13 x_14 x_15 x_16 x_17 x_18 x_19 (MS_settgt (MS_setrec (MS_setat (MS_setbusy (MS_settb (MS_settt xq39 g42) g46) g48) g50) g52) g56)) C 16 2 rfl rfl y57 rfl (tdec DX8_receive 201 rfl) rfl ?_
                      refine g_iconst (v := 0) C (tdec DX8_receive 202 rfl) (by decide) rfl ?_
                      have hr9 := o_some hF
                      subst hr9
                      exact g_iret C rfl rfl (tdec DX8_receive 203 rfl)
                · have hF := o_ifn hF h20
                  refine g_aload_n (z := 4) C (tdec DX8_receive 81 rfl) rfl rfl rfl ?_
                  refine g_getf (C' := RX8) (T := TX8) (N := 27) (v := .ref x_7) C 0 7 (gIn iw_X8) rfl rfl (by decide) (gMem fl_X8_30) rfl rfl (tdec DX8_receive 82 rfl) rfl ?_
                  refine g_iload (z := 0) C (tdec DX8_receive 83 rfl) rfl rfl ?_
                  obtain ⟨r58, y59, hF⟩ := o_bind hF
                  refine g_iald C 7 1 rfl rfl y59 (tdec DX8_receive 84 rfl) rfl ?_
                  refine g_iconst (v := (-1)) C (tdec DX8_receive 85 rfl) (by decide) rfl ?_
                  refine g_icmp_ne (pt := 153) C (tdec DX8_receive 86 rfl) (by decide) rfl (fun h60 => ?_) (fun h60 => ?_)
                  · have hF := o_ifn hF h60
                    refine g_iconst (v := 0) C (tdec DX8_receive 89 rfl) (by decide) rfl ?_
                    refine g_goto (pt := 210) C (tdec DX8_receive 90 rfl) (by decide) ?_
                    refine g_istore (L' := [(7, .int 0), (6, .int ((22 * p1) + 0)), (5, .int (r16 - 1)), (3, .long r14), (2, .int p1), (0, .ref x_0), (1, .int p1)]) C (tdec DX8_receive 124 rfl) (by decide) rfl rfl ?_
                    refine g_iload (z := 0) C (tdec DX8_receive 125 rfl) rfl rfl ?_
                    refine g_if_ne (pt := 219) C (tdec DX8_receive 126 rfl) (by decide) rfl (fun h => absurd h (by decide)) (fun _ => ?_)
                    refine g_iconst (v := 3) C (tdec DX8_receive 127 rfl) (by decide) rfl ?_
                    have hr9 := o_some hF
                    subst hr9
                    exact g_iret C rfl rfl (tdec DX8_receive 128 rfl)
                  · have hF := o_ifp hF h60
                    refine g_iconst (v := 1) C (tdec DX8_receive 87 rfl) (by decide) rfl ?_
                    refine g_goto (pt := 210) C (tdec DX8_receive 88 rfl) (by decide) ?_
                    refine g_istore (L' := [(7, .int 1), (6, .int ((22 * p1) + 0)), (5, .int (r16 - 1)), (3, .long r14), (2, .int p1), (0, .ref x_0), (1, .int p1)]) C (tdec DX8_receive 124 rfl) (by decide) rfl rfl ?_
                    refine g_iload (z := 0) C (tdec DX8_receive 125 rfl) rfl rfl ?_
                    refine g_if_ne (pt := 219) C (tdec DX8_receive 126 rfl) (by decide) rfl (fun _ => ?_) (fun h => absurd h (by decide))
                    refine g_iconst (v := 0) C (tdec DX8_receive 129 rfl) (by decide) rfl ?_
                    refine g_istore (L' := [(8, .int 0), (7, .int 1), (6, .int ((22 * p1) + 0)), (5, .int (r16 - 1)), (3, .long r14), (2, .int p1), (0, .ref x_0), (1, .int p1)]) C (tdec DX8_receive 130 rfl) (by decide) rfl rfl ?_
                    refine g_sub (L' := [(0, .ref x_0), (1, .int p1), (2, .int p1), (3, .long r14), (5, .int (r16 - 1)), (6, .int ((22 * p1) + 0)), (7, .int 1), (8, .int 0)]) [6, 7, 5, 4, 3, 2, 1, 0] rfl ?_
                    refine c_FX8_receive_L222 C (fun xq61 w8_61 hF => ?_) 100000 _ _ hF
                    refine g_aload_n (z := 0) C (tdec DX8_receive 155 rfl) rfl rfl rfl ?_
                    refine g_getf (C' := RX8) (T := TX8) (N := 27) (v := .ref x_7) C 0 7 (gIn iw_X8) rfl rfl (by decide) (gMem fl_X8_30) rfl rfl (tdec DX8_receive 156 rfl) rfl ?_
                    refine g_bipush (v := 22) C (tdec DX8_receive 157 rfl) (by decide) rfl ?_
                    refine g_iload_n (z := 2) C (tdec DX8_receive 158 rfl) rfl rfl rfl ?_
                    refine g_imul C (tdec DX8_receive 159 rfl) rfl ?_
                    refine g_iconst (v := 1) C (tdec DX8_receive 160 rfl) (by decide) rfl ?_
                    refine g_iadd C (tdec DX8_receive 161 rfl) rfl ?_
                    refine g_aload_n (z := 0) C (tdec DX8_receive 162 rfl) rfl rfl rfl ?_
                    refine g_getf (C' := RX8) (T := TX8) (N := 27) (v := .ref x_7) C 0 7 (gIn iw_X8) rfl rfl (by decide) (gMem fl_X8_30) rfl rfl (tdec DX8_receive 163 rfl) rfl ?_
                    refine g_iload (z := 5) C (tdec DX8_receive 164 rfl) rfl rfl ?_
                    obtain ⟨r62, y63, hF⟩ := o_bind hF
                    refine g_iald C 7 1 rfl rfl y63 (tdec DX8_receive 165 rfl) rfl ?_
                    obtain ⟨g64, y65, hF⟩ := o_bind hF
                    refine g_iast (ws' := wM cB cI cJ cZ x_0 x_1 x_2 x_3 x_4 x_5 x_6 x_7 x_8 x_9 x_10 x_11 x_12 x_13 x_14 x_15 x_16 x_17 x_18 x_19 (MS_settt xq61 g64)) C 7 1 rfl rfl y65 rfl (tdec DX8_receive 166 rfl) rfl ?_
                    refine g_aload_n (z := 0) C (tdec DX8_receive 167 rfl) rfl rfl rfl ?_
                    refine g_getf (C' := RX8) (T := TX8) (N := 27) (v := .ref x_8) C 0 8 (gIn iw_X8) rfl rfl (by decide) (gMem fl_X8_33) rfl rfl (tdec DX8_receive 168 rfl) rfl ?_
                    refine g_bipush (v := 22) C (tdec DX8_receive 169 rfl) (by decide) rfl ?_
                    refine g_iload_n (z := 2) C (tdec DX8_receive 170 rfl) rfl rfl rfl ?_
                    refine g_imul C (tdec DX8_receive 171 rfl) rfl ?_
                    refine g_iconst (v := 1) C (tdec DX8_receive 172 rfl) (by decide) rfl ?_
                    refine g_iadd C (tdec DX8_receive 173 rfl) rfl ?_
                    refine g_aload_n (z := 0) C (tdec DX8_receive 174 rfl) rfl rfl rfl ?_
                    refine g_getf (C' := RX8) (T := TX8) (N := 27) (v := .ref x_8) C 0 8 (gIn iw_X8) rfl rfl (by decide) (gMem fl_X8_33) rfl rfl (tdec DX8_receive 175 rfl) rfl ?_
                    refine g_iload (z := 5) C (tdec DX8_receive 176 rfl) rfl rfl ?_
                    obtain ⟨r66, y67, hF⟩ := o_bind hF
                    refine g_iald C 8 1 rfl rfl y67 (tdec DX8_receive 177 rfl) rfl ?_
                    obtain ⟨g68, y69, hF⟩ := o_bind hF
                    refine g_iast (ws' := wM cB cI cJ cZ x_0 x_1 x_2 x_3 x_4 x_5 x_6 x_7 x_8 x_9 x_10 x_11 x_12 x_13 x_14 x_15 x_16 x_17 x_18 x_19 (MS_settb (MS_settt xq61 g64) g68)) C 8 1 rfl rfl y69 rfl (tdec DX8_receive 178 rfl) rfl ?_
                    refine g_aload_n (z := 0) C (tdec DX8_receive 179 rfl) rfl rfl rfl ?_
                    refine g_getf (C' := RX8) (T := TX8) (N := 27) (v := .ref x_13) C 0 13 (gIn iw_X8) rfl rfl (by decide) (gMem fl_X8_48) rfl rfl (tdec DX8_receive 180 rfl) rfl ?_
                    refine g_iload_n (z := 2) C (tdec DX8_receive 181 rfl) rfl rfl rfl ?_
                    refine g_iconst (v := 1) C (tdec DX8_receive 182 rfl) (by decide) rfl ?_
                    obtain ⟨g70, y71, hF⟩ := o_bind hF
                    refine g_zast (ws' := wM cB cI cJ cZ x_0 x_1 x_2 x_3 x_4 x_5 x_6 x_7 x_8 x_9 x_10 x_11 x_12 x_13 x_14 x_15 x_16 x_17 x_18 x_19 (MS_setbusy (MS_settb (MS_settt xq61 g64) g68) g70)) C 13 3 rfl rfl y71 rfl (tdec DX8_receive 183 rfl) rfl ?_
                    refine g_aload_n (z := 0) C (tdec DX8_receive 184 rfl) rfl rfl rfl ?_
                    refine g_getf (C' := RX8) (T := TX8) (N := 27) (v := .ref x_14) C 0 14 (gIn iw_X8) rfl rfl (by decide) (gMem fl_X8_51) rfl rfl (tdec DX8_receive 185 rfl) rfl ?_
                    refine g_iload_n (z := 2) C (tdec DX8_receive 186 rfl) rfl rfl rfl ?_
                    refine g_bipush (v := 25) C (tdec DX8_receive 187 rfl) (by decide) rfl ?_
                    obtain ⟨g72, y73, hF⟩ := o_bind hF
                    refine g_iast (ws' := wM cB cI cJ cZ x_0 x_1 x_2 x_3 x_4 x_5 x_6 x_7 x_8 x_9 x_10 x_11 x_12 x_13 x_14 x_15 x_16 x_17 x_18 x_19 (MS_setat (MS_setbusy (MS_settb (MS_settt xq61 g64) g68) g70) g72)) C 14 1 rfl rfl y73 rfl (tdec DX8_receive 188 rfl) rfl ?_
                    refine g_aload_n (z := 0) C (tdec DX8_receive 189 rfl) rfl rfl rfl ?_
                    refine g_getf (C' := RX8) (T := TX8) (N := 27) (v := .ref x_15) C 0 15 (gIn iw_X8) rfl rfl (by decide) (gMem fl_X8_54) rfl rfl (tdec DX8_receive 190 rfl) rfl ?_
                    refine g_iload_n (z := 2) C (tdec DX8_receive 191 rfl) rfl rfl rfl ?_
                    refine g_iconst (v := 0) C (tdec DX8_receive 192 rfl) (by decide) rfl ?_
                    obtain ⟨g74, y75, hF⟩ := o_bind hF
                    refine g_iast (ws' := wM cB cI cJ cZ x_0 x_1 x_2 x_3 x_4 x_5 x_6 x_7 x_8 x_9 x_10 x_11 x_12 x_13 x_14 x_15 x_16 x_17 x_18 x_19 (MS_setrec (MS_setat (MS_setbusy (MS_settb (MS_settt xq61 g64) g68) g70) g72) g74)) C 15 1 rfl rfl y75 rfl (tdec DX8_receive 193 rfl) rfl ?_
                    refine g_aload_n (z := 0) C (tdec DX8_receive 194 rfl) rfl rfl rfl ?_
                    refine g_getf (C' := RX8) (T := TX8) (N := 27) (v := .ref x_16) C 0 16 (gIn iw_X8) rfl rfl (by decide) (gMem fl_X8_57) rfl rfl (tdec DX8_receive 195 rfl) rfl ?_
                    refine g_iload_n (z := 2) C (tdec DX8_receive 196 rfl) rfl rfl rfl ?_
                    refine g_aload_n (z := 0) C (tdec DX8_receive 197 rfl) rfl rfl rfl ?_
                    refine g_bipush (v := 9) C (tdec DX8_receive 198 rfl) (by decide) rfl ?_
                    refine g_bipush (v := 8) C (tdec DX8_receive 199 rfl) (by decide) rfl ?_
                    obtain ⟨r76, y77, hF⟩ := o_bind hF
                    refine g_callVlRS (q0 := 0) (S := [wM cB cI cJ cZ x_0 x_1 x_2 x_3 x_4 x_5 x_6 x_7 x_8 x_9 x_10 x_11 x_12 x_13 x_14 x_15 x_16 x_17 x_18 x_19 (MS_setrec (MS_setat (MS_setbusy (MS_settb (MS_settt xq61 g64) g68) g70) g72) g74)]) (S0 := [wM cB cI cJ cZ x_0 x_1 x_2 x_3 x_4 x_5 x_6 x_7 x_8 x_9 x_10 x_11 x_12 x_13 x_14 x_15 x_16 x_17 x_18 x_19 (MS_setrec (MS_setat (MS_setbusy (MS_settb (MS_settt xq61 g64) g68) g70) g72) g74)]) C (c_X8_number l D cB cI cJ cZ x_0 x_1 x_2 x_3 x_4 x_5 x_6 x_7 x_8 x_9 x_10 x_11 x_12 x_13 x_14 x_15 x_16 x_17 x_18 x_19 y77) rfl rfl (gIV ml_X8_186 im_X8_number sl_X8_number in_X8 cd_X8_number) rfl eX8_number rfl ⟨rfl, rfl⟩ ⟨Nat.le_of_ble_eq_true rfl, Nat.le_of_ble_eq_true rfl⟩ rfl rfl rfl [0] rfl rfl rfl (Nat.le_of_ble_eq_true rfl) (tdec DX8_receive 200 rfl) rfl ?_
                    obtain ⟨g78, y79, hF⟩ := o_bind hF
                    refine g_last (ws' := wM cB cI cJ cZ x_0 x_1 x_2 x_3 x_4 x_5 x_6 x_7 x_8 x_9 x_10 x_11 x_12 x_13 x_14 x_15 x_16 x_17 x_18 x_19 (MS_settgt (MS_setrec (MS_setat (MS_setbusy (MS_settb (MS_settt xq61 g64) g68) g70) g72) g74) g78)) C 16 2 rfl rfl y79 rfl (tdec DX8_receive 201 rfl) rfl ?_
                    refine g_iconst (v := 0) C (tdec DX8_receive 202 rfl) (by decide) rfl ?_
                    have hr9 := o_some hF
                    subst hr9
                    exact g_iret C rfl rfl (tdec DX8_receive 203 rfl)
              · have hF := o_ifn hF h19
                refine g_iconst (v := 2) C (tdec DX8_receive 71 rfl) (by decide) rfl ?_
                have hr9 := o_some hF
                subst hr9
                exact g_iret C rfl rfl (tdec DX8_receive 72 rfl)
            · have hF := o_ifn hF h18
              refine g_iload (z := 0) C (tdec DX8_receive 55 rfl) rfl rfl ?_
              refine g_if_lt (pt := 123) C (tdec DX8_receive 56 rfl) (by decide) rfl (fun h80 => ?_) (fun h80 => ?_)
              · have hF := o_ifp hF h80
                refine g_iconst (v := 2) C (tdec DX8_receive 71 rfl) (by decide) rfl ?_
                have hr9 := o_some hF
                subst hr9
                exact g_iret C rfl rfl (tdec DX8_receive 72 rfl)
              · have hF := o_ifn hF h80
                refine g_aload_n (z := 3) C (tdec DX8_receive 57 rfl) rfl rfl rfl ?_
                refine g_getf (C' := RX8) (T := TX8) (N := 27) (v := .ref x_12) C 0 12 (gIn iw_X8) rfl rfl (by decide) (gMem fl_X8_45) rfl rfl (tdec DX8_receive 58 rfl) rfl ?_
                refine g_bipush (v := 20) C (tdec DX8_receive 59 rfl) (by decide) rfl ?_
                refine g_iload_n (z := 2) C (tdec DX8_receive 60 rfl) rfl rfl rfl ?_
                refine g_imul C (tdec DX8_receive 61 rfl) rfl ?_
                refine g_iload (z := 0) C (tdec DX8_receive 62 rfl) rfl rfl ?_
                refine g_iadd C (tdec DX8_receive 63 rfl) rfl ?_
                obtain ⟨r81, y82, hF⟩ := o_bind hF
                refine g_lald C 12 2 rfl rfl y82 (tdec DX8_receive 64 rfl) rfl ?_
                refine g_lload_n (z := 1) C (tdec DX8_receive 65 rfl) rfl rfl rfl ?_
                refine g_lcmp C (tdec DX8_receive 66 rfl) rfl ?_
                refine g_if_eq (pt := 125) C (tdec DX8_receive 67 rfl) (by decide) rfl (fun h83 => ?_) (fun h83 => ?_)
                · have hF := o_ifp hF h83
                  refine g_bipush (v := 22) C (tdec DX8_receive 73 rfl) (by decide) rfl ?_
                  refine g_iload_n (z := 2) C (tdec DX8_receive 74 rfl) rfl rfl rfl ?_
                  refine g_imul C (tdec DX8_receive 75 rfl) rfl ?_
                  refine g_iconst (v := 0) C (tdec DX8_receive 76 rfl) (by decide) rfl ?_
                  refine g_iadd C (tdec DX8_receive 77 rfl) rfl ?_
                  refine g_istore (L' := [(6, .int ((22 * p1) + 0)), (5, .int (r16 - 1)), (3, .long r14), (2, .int p1), (0, .ref x_0), (1, .int p1)]) C (tdec DX8_receive 78 rfl) (by decide) rfl rfl ?_
                  refine g_iload (z := 1) C (tdec DX8_receive 79 rfl) rfl rfl ?_
                  refine g_if_ge (pt := 157) C (tdec DX8_receive 80 rfl) (by decide) rfl (fun h84 => ?_) (fun h84 => ?_)
                  · have hF := o_ifp hF h84
                    refine g_aload_n (z := 4) C (tdec DX8_receive 91 rfl) rfl rfl rfl ?_
                    refine g_getf (C' := RX8) (T := TX8) (N := 27) (v := .ref x_7) C 0 7 (gIn iw_X8) rfl rfl (by decide) (gMem fl_X8_30) rfl rfl (tdec DX8_receive 92 rfl) rfl ?_
                    refine g_iload (z := 0) C (tdec DX8_receive 93 rfl) rfl rfl ?_
                    obtain ⟨r85, y86, hF⟩ := o_bind hF
                    refine g_iald C 7 1 rfl rfl y86 (tdec DX8_receive 94 rfl) rfl ?_
                    refine g_aload_n (z := 4) C (tdec DX8_receive 95 rfl) rfl rfl rfl ?_
                    refine g_getf (C' := RX8) (T := TX8) (N := 27) (v := .ref x_7) C 0 7 (gIn iw_X8) rfl rfl (by decide) (gMem fl_X8_30) rfl rfl (tdec DX8_receive 96 rfl) rfl ?_
                    refine g_bipush (v := 22) C (tdec DX8_receive 97 rfl) (by decide) rfl ?_
                    refine g_iload_n (z := 3) C (tdec DX8_receive 98 rfl) rfl rfl rfl ?_
                    refine g_imul C (tdec DX8_receive 99 rfl) rfl ?_
                    refine g_iconst (v := 2) C (tdec DX8_receive 100 rfl) (by decide) rfl ?_
                    refine g_iadd C (tdec DX8_receive 101 rfl) rfl ?_
                    refine g_iload (z := 1) C (tdec DX8_receive 102 rfl) rfl rfl ?_
                    refine g_iadd C (tdec DX8_receive 103 rfl) rfl ?_
                    obtain ⟨r87, y88, hF⟩ := o_bind hF
                    refine g_iald C 7 1 rfl rfl y88 (tdec DX8_receive 104 rfl) rfl ?_
                    refine g_icmp_ne (pt := 209) C (tdec DX8_receive 105 rfl) (by decide) rfl (fun h89 => ?_) (fun h89 => ?_)
                    · have hF := o_ifn hF h89
                      refine g_iconst (v := 0) C (tdec DX8_receive 123 rfl) (by decide) rfl ?_
                      refine g_istore (L' := [(7, .int 0), (6, .int ((22 * p1) + 0)), (5, .int (r16 - 1)), (3, .long r14), (2, .int p1), (0, .ref x_0), (1, .int p1)]) C (tdec DX8_receive 124 rfl) (by decide) rfl rfl ?_
                      refine g_iload (z := 0) C (tdec DX8_receive 125 rfl) rfl rfl ?_
                      refine g_if_ne (pt := 219) C (tdec DX8_receive 126 rfl) (by decide) rfl (fun h => absurd h (by decide)) (fun _ => ?_)
                      refine g_iconst (v := 3) C (tdec DX8_receive 127 rfl) (by decide) rfl ?_
                      have hr9 := o_some hF
                      subst hr9
                      exact g_iret C rfl rfl (tdec DX8_receive 128 rfl)
                    · have hF := o_ifp hF h89
                      refine g_aload_n (z := 4) C (tdec DX8_receive 106 rfl) rfl rfl rfl ?_
                      refine g_getf (C' := RX8) (T := TX8) (N := 27) (v := .ref x_8) C 0 8 (gIn iw_X8) rfl rfl (by decide) (gMem fl_X8_33) rfl rfl (tdec DX8_receive 107 rfl) rfl ?_
                      refine g_iload (z := 0) C (tdec DX8_receive 108 rfl) rfl rfl ?_
                      obtain ⟨r90, y91, hF⟩ := o_bind hF
                      refine g_iald C 8 1 rfl rfl y91 (tdec DX8_receive 109 rfl) rfl ?_
                      refine g_aload_n (z := 4) C (tdec DX8_receive 110 rfl) rfl rfl rfl ?_
                      refine g_getf (C' := RX8) (T := TX8) (N := 27) (v := .ref x_8) C 0 8 (gIn iw_X8) rfl rfl (by decide) (gMem fl_X8_33) rfl rfl (tdec DX8_receive 111 rfl) rfl ?_
                      refine g_bipush (v := 22) C (tdec DX8_receive 112 rfl) (by decide) rfl ?_
                      refine g_iload_n (z := 3) C (tdec DX8_receive 113 rfl) rfl rfl rfl ?_
                      refine g_imul C (tdec DX8_receive 114 rfl) rfl ?_
                      refine g_iconst (v := 2) C (tdec DX8_receive 115 rfl) (by decide) rfl ?_
                      refine g_iadd C (tdec DX8_receive 116 rfl) rfl ?_
                      refine g_iload (z := 1) C (tdec DX8_receive 117 rfl) rfl rfl ?_
                      refine g_iadd C (tdec DX8_receive 118 rfl) rfl ?_
                      obtain ⟨r92, y93, hF⟩ := o_bind hF
                      refine g_iald C 8 1 rfl rfl y93 (tdec DX8_receive 119 rfl) rfl ?_
                      refine g_icmp_ne (pt := 209) C (tdec DX8_receive 120 rfl) (by decide) rfl (fun h94 => ?_) (fun h94 => ?_)
                      · have hF := o_ifn hF h94
                        refine g_iconst (v := 0) C (tdec DX8_receive 123 rfl) (by decide) rfl ?_
                        refine g_istore (L' := [(7, .int 0), (6, .int ((22 * p1) + 0)), (5, .int (r16 - 1)), (3, .long r14), (2, .int p1), (0, .ref x_0), (1, .int p1)]) C (tdec DX8_receive 124 rfl) (by decide) rfl rfl ?_
                        refine g_iload (z := 0) C (tdec DX8_receive 125 rfl) rfl rfl ?_
                        refine g_if_ne (pt := 219) C (tdec DX8_receive 126 rfl) (by decide) rfl (fun h => absurd h (by decide)) (fun _ => ?_)
                        refine g_iconst (v := 3) C (tdec DX8_receive 127 rfl) (by decide) rfl ?_
                        have hr9 := o_some hF
                        subst hr9
                        exact g_iret C rfl rfl (tdec DX8_receive 128 rfl)
                      · have hF := o_ifp hF h94
                        refine g_iconst (v := 1) C (tdec DX8_receive 121 rfl) (by decide) rfl ?_
                        refine g_goto (pt := 210) C (tdec DX8_receive 122 rfl) (by decide) ?_
                        refine g_istore (L' := [(7, .int 1), (6, .int ((22 * p1) + 0)), (5, .int (r16 - 1)), (3, .long r14), (2, .int p1), (0, .ref x_0), (1, .int p1)]) C (tdec DX8_receive 124 rfl) (by decide) rfl rfl ?_
                        refine g_iload (z := 0) C (tdec DX8_receive 125 rfl) rfl rfl ?_
                        refine g_if_ne (pt := 219) C (tdec DX8_receive 126 rfl) (by decide) rfl (fun _ => ?_) (fun h => absurd h (by decide))
                        refine g_iconst (v := 0) C (tdec DX8_receive 129 rfl) (by decide) rfl ?_
                        refine g_istore (L' := [(8, .int 0), (7, .int 1), (6, .int ((22 * p1) + 0)), (5, .int (r16 - 1)), (3, .long r14), (2, .int p1), (0, .ref x_0), (1, .int p1)]) C (tdec DX8_receive 130 rfl) (by decide) rfl rfl ?_
                        refine g_sub (L' := [(0, .ref x_0), (1, .int p1), (2, .int p1), (3, .long r14), (5, .int (r16 - 1)), (6, .int ((22 * p1) + 0)), (7, .int 1), (8, .int 0)]) [6, 7, 5, 4, 3, 2, 1, 0] rfl ?_
                        refine c_FX8_receive_L222 C (fun xq95 w8_95 hF => ?_) 100000 _ _ hF
                        refine g_aload_n (z := 0) C (tdec DX8_receive 155 rfl) rfl rfl rfl ?_
                        refine g_getf (C' := RX8) (T := TX8) (N := 27) (v := .ref x_7) C 0 7 (gIn iw_X8) rfl rfl (by decide) (gMem fl_X8_30) rfl rfl (tdec DX8_receive 156 rfl) rfl ?_
                        refine g_bipush (v := 22) C (tdec DX8_receive 157 rfl) (by decide) rfl ?_
                        refine g_iload_n (z := 2) C (tdec DX8_receive 158 rfl) rfl rfl rfl ?_
                        refine g_imul C (tdec DX8_receive 159 rfl) rfl ?_
                        refine g_iconst (v := 1) C (tdec DX8_receive 160 rfl) (by decide) rfl ?_
                        refine g_iadd C (tdec DX8_receive 161 rfl) rfl ?_
                        refine g_aload_n (z := 0) C (tdec DX8_receive 162 rfl) rfl rfl rfl ?_
                        refine g_getf (C' := RX8) (T := TX8) (N := 27) (v := .ref x_7) C 0 7 (gIn iw_X8) rfl rfl (by decide) (gMem fl_X8_30) rfl rfl (tdec DX8_receive 163 rfl) rfl ?_
                        refine g_iload (z := 5) C (tdec DX8_receive 164 rfl) rfl rfl ?_
                        obtain ⟨r96, y97, hF⟩ := o_bind hF
                        refine g_iald C 7 1 rfl rfl y97 (tdec DX8_receive 165 rfl) rfl ?_
                        obtain ⟨g98, y99, hF⟩ := o_bind hF
                        refine g_iast (ws' := wM cB cI cJ cZ x_0 x_1 x_2 x_3 x_4 x_5 x_6 x_7 x_8 x_9 x_10 x_11 x_12 x_13 x_14 x_15 x_16 x_17 x_18 x_19 (MS_settt xq95 g98)) C 7 1 rfl rfl y99 rfl (tdec DX8_receive 166 rfl) rfl ?_
                        refine g_aload_n (z := 0) C (tdec DX8_receive 167 rfl) rfl rfl rfl ?_
                        refine g_getf (C' := RX8) (T := TX8) (N := 27) (v := .ref x_8) C 0 8 (gIn iw_X8) rfl rfl (by decide) (gMem fl_X8_33) rfl rfl (tdec DX8_receive 168 rfl) rfl ?_
                        refine g_bipush (v := 22) C (tdec DX8_receive 169 rfl) (by decide) rfl ?_
                        refine g_iload_n (z := 2) C (tdec DX8_receive 170 rfl) rfl rfl rfl ?_
                        refine g_imul C (tdec DX8_receive 171 rfl) rfl ?_
                        refine g_iconst (v := 1) C (tdec DX8_receive 172 rfl) (by decide) rfl ?_
                        refine g_iadd C (tdec DX8_receive 173 rfl) rfl ?_
                        refine g_aload_n (z := 0) C (tdec DX8_receive 174 rfl) rfl rfl rfl ?_
                        refine g_getf (C' := RX8) (T := TX8) (N := 27) (v := .ref x_8) C 0 8 (gIn iw_X8) rfl rfl (by decide) (gMem fl_X8_33) rfl rfl (tdec DX8_receive 175 rfl) rfl ?_
                        refine g_iload (z := 5) C (tdec DX8_receive 176 rfl) rfl rfl ?_
                        obtain ⟨r100, y101, hF⟩ := o_bind hF
                        refine g_iald C 8 1 rfl rfl y101 (tdec DX8_receive 177 rfl) rfl ?_
                        obtain ⟨g102, y103, hF⟩ := o_bind hF
                        refine g_iast (ws' := wM cB cI cJ cZ x_0 x_1 x_2 x_3 x_4 x_5 x_6 x_7 x_8 x_9 x_10 x_11 x_12 x_13 x_14 x_15 x_16 x_17 x_18 x_19 (MS_settb (MS_settt xq95 g98) g102)) C 8 1 rfl rfl y103 rfl (tdec DX8_receive 178 rfl) rfl ?_
                        refine g_aload_n (z := 0) C (tdec DX8_receive 179 rfl) rfl rfl rfl ?_
                        refine g_getf (C' := RX8) (T := TX8) (N := 27) (v := .ref x_13) C 0 13 (gIn iw_X8) rfl rfl (by decide) (gMem fl_X8_48) rfl rfl (tdec DX8_receive 180 rfl) rfl ?_
                        refine g_iload_n (z := 2) C (tdec DX8_receive 181 rfl) rfl rfl rfl ?_
                        refine g_iconst (v := 1) C (tdec DX8_receive 182 rfl) (by decide) rfl ?_
                        obtain ⟨g104, y105, hF⟩ := o_bind hF
                        refine g_zast (ws' := wM cB cI cJ cZ x_0 x_1 x_2 x_3 x_4 x_5 x_6 x_7 x_8 x_9 x_10 x_11 x_12 x_13 x_14 x_15 x_16 x_17 x_18 x_19 (MS_setbusy (MS_settb (MS_settt xq95 g98) g102) g104)) C 13 3 rfl rfl y105 rfl (tdec DX8_receive 183 rfl) rfl ?_
                        refine g_aload_n (z := 0) C (tdec DX8_receive 184 rfl) rfl rfl rfl ?_
                        refine g_getf (C' := RX8) (T := TX8) (N := 27) (v := .ref x_14) C 0 14 (gIn iw_X8) rfl rfl (by decide) (gMem fl_X8_51) rfl rfl (tdec DX8_receive 185 rfl) rfl ?_
                        refine g_iload_n (z := 2) C (tdec DX8_receive 186 rfl) rfl rfl rfl ?_
                        refine g_bipush (v := 25) C (tdec DX8_receive 187 rfl) (by decide) rfl ?_
                        obtain ⟨g106, y107, hF⟩ := o_bind hF
                        refine g_iast (ws' := wM cB cI cJ cZ x_0 x_1 x_2 x_3 x_4 x_5 x_6 x_7 x_8 x_9 x_10 x_11 x_12 x_13 x_14 x_15 x_16 x_17 x_18 x_19 (MS_setat (MS_setbusy (MS_settb (MS_settt xq95 g98) g102) g104) g106)) C 14 1 rfl rfl y107 rfl (tdec DX8_receive 188 rfl) rfl ?_
                        refine g_aload_n (z := 0) C (tdec DX8_receive 189 rfl) rfl rfl rfl ?_
                        refine g_getf (C' := RX8) (T := TX8) (N := 27) (v := .ref x_15) C 0 15 (gIn iw_X8) rfl rfl (by decide) (gMem fl_X8_54) rfl rfl (tdec DX8_receive 190 rfl) rfl ?_
                        refine g_iload_n (z := 2) C (tdec DX8_receive 191 rfl) rfl rfl rfl ?_
                        refine g_iconst (v := 0) C (tdec DX8_receive 192 rfl) (by decide) rfl ?_
                        obtain ⟨g108, y109, hF⟩ := o_bind hF
                        refine g_iast (ws' := wM cB cI cJ cZ x_0 x_1 x_2 x_3 x_4 x_5 x_6 x_7 x_8 x_9 x_10 x_11 x_12 x_13 x_14 x_15 x_16 x_17 x_18 x_19 (MS_setrec (MS_setat (MS_setbusy (MS_settb (MS_settt xq95 g98) g102) g104) g106) g108)) C 15 1 rfl rfl y109 rfl (tdec DX8_receive 193 rfl) rfl ?_
                        refine g_aload_n (z := 0) C (tdec DX8_receive 194 rfl) rfl rfl rfl ?_
                        refine g_getf (C' := RX8) (T := TX8) (N := 27) (v := .ref x_16) C 0 16 (gIn iw_X8) rfl rfl (by decide) (gMem fl_X8_57) rfl rfl (tdec DX8_receive 195 rfl) rfl ?_
                        refine g_iload_n (z := 2) C (tdec DX8_receive 196 rfl) rfl rfl rfl ?_
                        refine g_aload_n (z := 0) C (tdec DX8_receive 197 rfl) rfl rfl rfl ?_
                        refine g_bipush (v := 9) C (tdec DX8_receive 198 rfl) (by decide) rfl ?_
                        refine g_bipush (v := 8) C (tdec DX8_receive 199 rfl) (by decide) rfl ?_
                        obtain ⟨r110, y111, hF⟩ := o_bind hF
                        refine g_callVlRS (q0 := 0) (S := [wM cB cI cJ cZ x_0 x_1 x_2 x_3 x_4 x_5 x_6 x_7 x_8 x_9 x_10 x_11 x_12 x_13 x_14 x_15 x_16 x_17 x_18 x_19 (MS_setrec (MS_setat (MS_setbusy (MS_settb (MS_settt xq95 g98) g102) g104) g106) g108)]) (S0 := [wM cB cI cJ cZ x_0 x_1 x_2 x_3 x_4 x_5 x_6 x_7 x_8 x_9 x_10 x_11 x_12 x_13 x_14 x_15 x_16 x_17 x_18 x_19 (MS_setrec (MS_setat (MS_setbusy (MS_settb (MS_settt xq95 g98) g102) g104) g106) g108)]) C (c_X8_number l D cB cI cJ cZ x_0 x_1 x_2 x_3 x_4 x_5 x_6 x_7 x_8 x_9 x_10 x_11 x_12 x_13 x_14 x_15 x_16 x_17 x_18 x_19 y111) rfl rfl (gIV ml_X8_186 im_X8_number sl_X8_number in_X8 cd_X8_number) rfl eX8_number rfl ⟨rfl, rfl⟩ ⟨Nat.le_of_ble_eq_true rfl, Nat.le_of_ble_eq_true rfl⟩ rfl rfl rfl [0] rfl rfl rfl (Nat.le_of_ble_eq_true rfl) (tdec DX8_receive 200 rfl) rfl ?_
                        obtain ⟨g112, y113, hF⟩ := o_bind hF
                        refine g_last (ws' := wM cB cI cJ cZ x_0 x_1 x_2 x_3 x_4 x_5 x_6 x_7 x_8 x_9 x_10 x_11 x_12 x_13 x_14 x_15 x_16 x_17 x_18 x_19 (MS_settgt (MS_setrec (MS_setat (MS_setbusy (MS_settb (MS_settt xq95 g98) g102) g104) g106) g108) g112)) C 16 2 rfl rfl y113 rfl (tdec DX8_receive 201 rfl) rfl ?_
                        refine g_iconst (v := 0) C (tdec DX8_receive 202 rfl) (by decide) rfl ?_
                        have hr9 := o_some hF
                        subst hr9
                        exact g_iret C rfl rfl (tdec DX8_receive 203 rfl)
                  · have hF := o_ifn hF h84
                    refine g_aload_n (z := 4) C (tdec DX8_receive 81 rfl) rfl rfl rfl ?_
                    refine g_getf (C' := RX8) (T := TX8) (N := 27) (v := .ref x_7) C 0 7 (gIn iw_X8) rfl rfl (by decide) (gMem fl_X8_30) rfl rfl (tdec DX8_receive 82 rfl) rfl ?_
                    refine g_iload (z := 0) C (tdec DX8_receive 83 rfl) rfl rfl ?_
                    obtain ⟨r114, y115, hF⟩ := o_bind hF
                    refine g_iald C 7 1 rfl rfl y115 (tdec DX8_receive 84 rfl) rfl ?_
                    refine g_iconst (v := (-1)) C (tdec DX8_receive 85 rfl) (by decide) rfl ?_
                    refine g_icmp_ne (pt := 153) C (tdec DX8_receive 86 rfl) (by decide) rfl (fun h116 => ?_) (fun h116 => ?_)
                    · have hF := o_ifn hF h116
                      refine g_iconst (v := 0) C (tdec DX8_receive 89 rfl) (by decide) rfl ?_
                      refine g_goto (pt := 210) C (tdec DX8_receive 90 rfl) (by decide) ?_
                      refine g_istore (L' := [(7, .int 0), (6, .int ((22 * p1) + 0)), (5, .int (r16 - 1)), (3, .long r14), (2, .int p1), (0, .ref x_0), (1, .int p1)]) C (tdec DX8_receive 124 rfl) (by decide) rfl rfl ?_
                      refine g_iload (z := 0) C (tdec DX8_receive 125 rfl) rfl rfl ?_
                      refine g_if_ne (pt := 219) C (tdec DX8_receive 126 rfl) (by decide) rfl (fun h => absurd h (by decide)) (fun _ => ?_)
                      refine g_iconst (v := 3) C (tdec DX8_receive 127 rfl) (by decide) rfl ?_
                      have hr9 := o_some hF
                      subst hr9
                      exact g_iret C rfl rfl (tdec DX8_receive 128 rfl)
                    · have hF := o_ifp hF h116
                      refine g_iconst (v := 1) C (tdec DX8_receive 87 rfl) (by decide) rfl ?_
                      refine g_goto (pt := 210) C (tdec DX8_receive 88 rfl) (by decide) ?_
                      refine g_istore (L' := [(7, .int 1), (6, .int ((22 * p1) + 0)), (5, .int (r16 - 1)), (3, .long r14), (2, .int p1), (0, .ref x_0), (1, .int p1)]) C (tdec DX8_receive 124 rfl) (by decide) rfl rfl ?_
                      refine g_iload (z := 0) C (tdec DX8_receive 125 rfl) rfl rfl ?_
                      refine g_if_ne (pt := 219) C (tdec DX8_receive 126 rfl) (by decide) rfl (fun _ => ?_) (fun h => absurd h (by decide))
                      refine g_iconst (v := 0) C (tdec DX8_receive 129 rfl) (by decide) rfl ?_
                      refine g_istore (L' := [(8, .int 0), (7, .int 1), (6, .int ((22 * p1) + 0)), (5, .int (r16 - 1)), (3, .long r14), (2, .int p1), (0, .ref x_0), (1, .int p1)]) C (tdec DX8_receive 130 rfl) (by decide) rfl rfl ?_
                      refine g_sub (L' := [(0, .ref x_0), (1, .int p1), (2, .int p1), (3, .long r14), (5, .int (r16 - 1)), (6, .int ((22 * p1) + 0)), (7, .int 1), (8, .int 0)]) [6, 7, 5, 4, 3, 2, 1, 0] rfl ?_
                      refine c_FX8_receive_L222 C (fun xq117 w8_117 hF => ?_) 100000 _ _ hF
                      refine g_aload_n (z := 0) C (tdec DX8_receive 155 rfl) rfl rfl rfl ?_
                      refine g_getf (C' := RX8) (T := TX8) (N := 27) (v := .ref x_7) C 0 7 (gIn iw_X8) rfl rfl (by decide) (gMem fl_X8_30) rfl rfl (tdec DX8_receive 156 rfl) rfl ?_
                      refine g_bipush (v := 22) C (tdec DX8_receive 157 rfl) (by decide) rfl ?_
                      refine g_iload_n (z := 2) C (tdec DX8_receive 158 rfl) rfl rfl rfl ?_
                      refine g_imul C (tdec DX8_receive 159 rfl) rfl ?_
                      refine g_iconst (v := 1) C (tdec DX8_receive 160 rfl) (by decide) rfl ?_
                      refine g_iadd C (tdec DX8_receive 161 rfl) rfl ?_
                      refine g_aload_n (z := 0) C (tdec DX8_receive 162 rfl) rfl rfl rfl ?_
                      refine g_getf (C' := RX8) (T := TX8) (N := 27) (v := .ref x_7) C 0 7 (gIn iw_X8) rfl rfl (by decide) (gMem fl_X8_30) rfl rfl (tdec DX8_receive 163 rfl) rfl ?_
                      refine g_iload (z := 5) C (tdec DX8_receive 164 rfl) rfl rfl ?_
                      obtain ⟨r118, y119, hF⟩ := o_bind hF
                      refine g_iald C 7 1 rfl rfl y119 (tdec DX8_receive 165 rfl) rfl ?_
                      obtain ⟨g120, y121, hF⟩ := o_bind hF
                      refine g_iast (ws' := wM cB cI cJ cZ x_0 x_1 x_2 x_3 x_4 x_5 x_6 x_7 x_8 x_9 x_10 x_11 x_12 x_13 x_14 x_15 x_16 x_17 x_18 x_19 (MS_settt xq117 g120)) C 7 1 rfl rfl y121 rfl (tdec DX8_receive 166 rfl) rfl ?_
                      refine g_aload_n (z := 0) C (tdec DX8_receive 167 rfl) rfl rfl rfl ?_
                      refine g_getf (C' := RX8) (T := TX8) (N := 27) (v := .ref x_8) C 0 8 (gIn iw_X8) rfl rfl (by decide) (gMem fl_X8_33) rfl rfl (tdec DX8_receive 168 rfl) rfl ?_
                      refine g_bipush (v := 22) C (tdec DX8_receive 169 rfl) (by decide) rfl ?_
                      refine g_iload_n (z := 2) C (tdec DX8_receive 170 rfl) rfl rfl rfl ?_
                      refine g_imul C (tdec DX8_receive 171 rfl) rfl ?_
                      refine g_iconst (v := 1) C (tdec DX8_receive 172 rfl) (by decide) rfl ?_
                      refine g_iadd C (tdec DX8_receive 173 rfl) rfl ?_
                      refine g_aload_n (z := 0) C (tdec DX8_receive 174 rfl) rfl rfl rfl ?_
                      refine g_getf (C' := RX8) (T := TX8) (N := 27) (v := .ref x_8) C 0 8 (gIn iw_X8) rfl rfl (by decide) (gMem fl_X8_33) rfl rfl (tdec DX8_receive 175 rfl) rfl ?_
                      refine g_iload (z := 5) C (tdec DX8_receive 176 rfl) rfl rfl ?_
                      obtain ⟨r122, y123, hF⟩ := o_bind hF
                      refine g_iald C 8 1 rfl rfl y123 (tdec DX8_receive 177 rfl) rfl ?_
                      obtain ⟨g124, y125, hF⟩ := o_bind hF
                      refine g_iast (ws' := wM cB cI cJ cZ x_0 x_1 x_2 x_3 x_4 x_5 x_6 x_7 x_8 x_9 x_10 x_11 x_12 x_13 x_14 x_15 x_16 x_17 x_18 x_19 (MS_settb (MS_settt xq117 g120) g124)) C 8 1 rfl rfl y125 rfl (tdec DX8_receive 178 rfl) rfl ?_
                      refine g_aload_n (z := 0) C (tdec DX8_receive 179 rfl) rfl rfl rfl ?_
                      refine g_getf (C' := RX8) (T := TX8) (N := 27) (v := .ref x_13) C 0 13 (gIn iw_X8) rfl rfl (by decide) (gMem fl_X8_48) rfl rfl (tdec DX8_receive 180 rfl) rfl ?_
                      refine g_iload_n (z := 2) C (tdec DX8_receive 181 rfl) rfl rfl rfl ?_
                      refine g_iconst (v := 1) C (tdec DX8_receive 182 rfl) (by decide) rfl ?_
                      obtain ⟨g126, y127, hF⟩ := o_bind hF
                      refine g_zast (ws' := wM cB cI cJ cZ x_0 x_1 x_2 x_3 x_4 x_5 x_6 x_7 x_8 x_9 x_10 x_11 x_12 x_13 x_14 x_15 x_16 x_17 x_18 x_19 (MS_setbusy (MS_settb (MS_settt xq117 g120) g124) g126)) C 13 3 rfl rfl y127 rfl (tdec DX8_receive 183 rfl) rfl ?_
                      refine g_aload_n (z := 0) C (tdec DX8_receive 184 rfl) rfl rfl rfl ?_
                      refine g_getf (C' := RX8) (T := TX8) (N := 27) (v := .ref x_14) C 0 14 (gIn iw_X8) rfl rfl (by decide) (gMem fl_X8_51) rfl rfl (tdec DX8_receive 185 rfl) rfl ?_
                      refine g_iload_n (z := 2) C (tdec DX8_receive 186 rfl) rfl rfl rfl ?_
                      refine g_bipush (v := 25) C (tdec DX8_receive 187 rfl) (by decide) rfl ?_
                      obtain ⟨g128, y129, hF⟩ := o_bind hF
                      refine g_iast (ws' := wM cB cI cJ cZ x_0 x_1 x_2 x_3 x_4 x_5 x_6 x_7 x_8 x_9 x_10 x_11 x_12 x_13 x_14 x_15 x_16 x_17 x_18 x_19 (MS_setat (MS_setbusy (MS_settb (MS_settt xq117 g120) g124) g126) g128)) C 14 1 rfl rfl y129 rfl (tdec DX8_receive 188 rfl) rfl ?_
                      refine g_aload_n (z := 0) C (tdec DX8_receive 189 rfl) rfl rfl rfl ?_
                      refine g_getf (C' := RX8) (T := TX8) (N := 27) (v := .ref x_15) C 0 15 (gIn iw_X8) rfl rfl (by decide) (gMem fl_X8_54) rfl rfl (tdec DX8_receive 190 rfl) rfl ?_
                      refine g_iload_n (z := 2) C (tdec DX8_receive 191 rfl) rfl rfl rfl ?_
                      refine g_iconst (v := 0) C (tdec DX8_receive 192 rfl) (by decide) rfl ?_
                      obtain ⟨g130, y131, hF⟩ := o_bind hF
                      refine g_iast (ws' := wM cB cI cJ cZ x_0 x_1 x_2 x_3 x_4 x_5 x_6 x_7 x_8 x_9 x_10 x_11 x_12 x_13 x_14 x_15 x_16 x_17 x_18 x_19 (MS_setrec (MS_setat (MS_setbusy (MS_settb (MS_settt xq117 g120) g124) g126) g128) g130)) C 15 1 rfl rfl y131 rfl (tdec DX8_receive 193 rfl) rfl ?_
                      refine g_aload_n (z := 0) C (tdec DX8_receive 194 rfl) rfl rfl rfl ?_
                      refine g_getf (C' := RX8) (T := TX8) (N := 27) (v := .ref x_16) C 0 16 (gIn iw_X8) rfl rfl (by decide) (gMem fl_X8_57) rfl rfl (tdec DX8_receive 195 rfl) rfl ?_
                      refine g_iload_n (z := 2) C (tdec DX8_receive 196 rfl) rfl rfl rfl ?_
                      refine g_aload_n (z := 0) C (tdec DX8_receive 197 rfl) rfl rfl rfl ?_
                      refine g_bipush (v := 9) C (tdec DX8_receive 198 rfl) (by decide) rfl ?_
                      refine g_bipush (v := 8) C (tdec DX8_receive 199 rfl) (by decide) rfl ?_
                      obtain ⟨r132, y133, hF⟩ := o_bind hF
                      refine g_callVlRS (q0 := 0) (S := [wM cB cI cJ cZ x_0 x_1 x_2 x_3 x_4 x_5 x_6 x_7 x_8 x_9 x_10 x_11 x_12 x_13 x_14 x_15 x_16 x_17 x_18 x_19 (MS_setrec (MS_setat (MS_setbusy (MS_settb (MS_settt xq117 g120) g124) g126) g128) g130)]) (S0 := [wM cB cI cJ cZ x_0 x_1 x_2 x_3 x_4 x_5 x_6 x_7 x_8 x_9 x_10 x_11 x_12 x_13 x_14 x_15 x_16 x_17 x_18 x_19 (MS_setrec (MS_setat (MS_setbusy (MS_settb (MS_settt xq117 g120) g124) g126) g128) g130)]) C (c_X8_number l D cB cI cJ cZ x_0 x_1 x_2 x_3 x_4 x_5 x_6 x_7 x_8 x_9 x_10 x_11 x_12 x_13 x_14 x_15 x_16 x_17 x_18 x_19 y133) rfl rfl (gIV ml_X8_186 im_X8_number sl_X8_number in_X8 cd_X8_number) rfl eX8_number rfl ⟨rfl, rfl⟩ ⟨Nat.le_of_ble_eq_true rfl, Nat.le_of_ble_eq_true rfl⟩ rfl rfl rfl [0] rfl rfl rfl (Nat.le_of_ble_eq_true rfl) (tdec DX8_receive 200 rfl) rfl ?_
                      obtain ⟨g134, y135, hF⟩ := o_bind hF
                      refine g_last (ws' := wM cB cI cJ cZ x_0 x_1 x_2 x_3 x_4 x_5 x_6 x_7 x_8 x_9 x_10 x_11 x_12 x_13 x_14 x_15 x_16 x_17 x_18 x_19 (MS_settgt (MS_setrec (MS_setat (MS_setbusy (MS_settb (MS_settt xq117 g120) g124) g126) g128) g130) g134)) C 16 2 rfl rfl y135 rfl (tdec DX8_receive 201 rfl) rfl ?_
                      refine g_iconst (v := 0) C (tdec DX8_receive 202 rfl) (by decide) rfl ?_
                      have hr9 := o_some hF
                      subst hr9
                      exact g_iret C rfl rfl (tdec DX8_receive 203 rfl)
                · have hF := o_ifn hF h83
                  refine g_goto (pt := 123) C (tdec DX8_receive 68 rfl) (by decide) ?_
                  refine g_iconst (v := 2) C (tdec DX8_receive 71 rfl) (by decide) rfl ?_
                  have hr9 := o_some hF
                  subst hr9
                  exact g_iret C rfl rfl (tdec DX8_receive 72 rfl)
          · have hF := o_ifp hF h13
            refine g_iconst (v := 1) C (tdec DX8_receive 37 rfl) (by decide) rfl ?_
            have hr9 := o_some hF
            subst hr9
            exact g_iret C rfl rfl (tdec DX8_receive 38 rfl)
    · have hF := o_ifn hF h6
      refine g_bipush (v := 6) C (tdec DX8_receive 20 rfl) (by decide) rfl ?_
      have hr9 := o_some hF
      subst hr9
      exact g_iret C rfl rfl (tdec DX8_receive 21 rfl)
def FX8_stops (x0 : MS) (p1 : Int32) : Option (MS) :=
  (ast 2 (MS_busy x0) p1 (vp_nar .boolean 0)).bind fun g1 =>
  (FX8_sweeps (MS_setbusy x0 g1) p1).bind fun s3 =>
  some s3
def rX8_stops : Room := { frames := 2, cells := 0, slots := 0, locals := 46 }
set_option maxHeartbeats 4000000 in
set_option maxRecDepth 100000 in
theorem c_X8_stops (l : Launch) (D : va_G) (cB cI cJ cZ : ClassId) (x_0 x_1 x_2 x_3 x_4 x_5 x_6 x_7 x_8 x_9 x_10 x_11 x_12 x_13 x_14 x_15 x_16 x_17 x_18 x_19 : Nat) {x0 : MS} {p1 : Int32} {res : MS} (hF : FX8_stops x0 p1 = some res) : gMv l yX8_stops wsX8_stops rX8_stops D (gT cB cI cJ cZ) [.ref x_0, .int p1] (wM cB cI cJ cZ x_0 x_1 x_2 x_3 x_4 x_5 x_6 x_7 x_8 x_9 x_10 x_11 x_12 x_13 x_14 x_15 x_16 x_17 x_18 x_19 x0) (wM cB cI cJ cZ x_0 x_1 x_2 x_3 x_4 x_5 x_6 x_7 x_8 x_9 x_10 x_11 x_12 x_13 x_14 x_15 x_16 x_17 x_18 x_19 res) := by
  refine g_enter (own := RX8) (free := (fun sz => va_A (wM cB cI cJ cZ x_0 x_1 x_2 x_3 x_4 x_5 x_6 x_7 x_8 x_9 x_10 x_11 x_12 x_13 x_14 x_15 x_16 x_17 x_18 x_19 x0) sz)) (Qc := (fun sz => gQv D (wM cB cI cJ cZ x_0 x_1 x_2 x_3 x_4 x_5 x_6 x_7 x_8 x_9 x_10 x_11 x_12 x_13 x_14 x_15 x_16 x_17 x_18 x_19 x0) sz (wM cB cI cJ cZ x_0 x_1 x_2 x_3 x_4 x_5 x_6 x_7 x_8 x_9 x_10 x_11 x_12 x_13 x_14 x_15 x_16 x_17 x_18 x_19 res))) (fun sz => va_A (wM cB cI cJ cZ x_0 x_1 x_2 x_3 x_4 x_5 x_6 x_7 x_8 x_9 x_10 x_11 x_12 x_13 x_14 x_15 x_16 x_17 x_18 x_19 x0) sz) (fun sz => Or.inr rfl) rfl (by decide) rfl (Nat.le_of_ble_eq_true rfl) rfl ?_
  intro p e s m args below meth c C
  unfold FX8_stops at hF
  refine g_aload_n (z := 0) C (tdec DX8_stops 0 rfl) rfl rfl rfl ?_
  refine g_getf (C' := RX8) (T := TX8) (N := 27) (v := .ref x_13) C 0 13 (gIn iw_X8) rfl rfl (by decide) (gMem fl_X8_48) rfl rfl (tdec DX8_stops 1 rfl) rfl ?_
  refine g_iload_n (z := 1) C (tdec DX8_stops 2 rfl) rfl rfl rfl ?_
  refine g_iconst (v := 0) C (tdec DX8_stops 3 rfl) (by decide) rfl ?_
  obtain ⟨g1, y2, hF⟩ := o_bind hF
  refine g_zast (ws' := wM cB cI cJ cZ x_0 x_1 x_2 x_3 x_4 x_5 x_6 x_7 x_8 x_9 x_10 x_11 x_12 x_13 x_14 x_15 x_16 x_17 x_18 x_19 (MS_setbusy x0 g1)) C 13 3 rfl rfl y2 rfl (tdec DX8_stops 4 rfl) rfl ?_
  refine g_aload_n (z := 0) C (tdec DX8_stops 5 rfl) rfl rfl rfl ?_
  refine g_iload_n (z := 1) C (tdec DX8_stops 6 rfl) rfl rfl rfl ?_
  obtain ⟨s3, y4, hF⟩ := o_bind hF
  refine g_callVvMS (q0 := 0) (W' := wM cB cI cJ cZ x_0 x_1 x_2 x_3 x_4 x_5 x_6 x_7 x_8 x_9 x_10 x_11 x_12 x_13 x_14 x_15 x_16 x_17 x_18 x_19 s3) (S := [wM cB cI cJ cZ x_0 x_1 x_2 x_3 x_4 x_5 x_6 x_7 x_8 x_9 x_10 x_11 x_12 x_13 x_14 x_15 x_16 x_17 x_18 x_19 (MS_setbusy x0 g1)]) (S0 := [wM cB cI cJ cZ x_0 x_1 x_2 x_3 x_4 x_5 x_6 x_7 x_8 x_9 x_10 x_11 x_12 x_13 x_14 x_15 x_16 x_17 x_18 x_19 (MS_setbusy x0 g1)]) (S1 := [wM cB cI cJ cZ x_0 x_1 x_2 x_3 x_4 x_5 x_6 x_7 x_8 x_9 x_10 x_11 x_12 x_13 x_14 x_15 x_16 x_17 x_18 x_19 s3]) (S' := [wM cB cI cJ cZ x_0 x_1 x_2 x_3 x_4 x_5 x_6 x_7 x_8 x_9 x_10 x_11 x_12 x_13 x_14 x_15 x_16 x_17 x_18 x_19 s3]) C (c_X8_sweeps l D cB cI cJ cZ x_0 x_1 x_2 x_3 x_4 x_5 x_6 x_7 x_8 x_9 x_10 x_11 x_12 x_13 x_14 x_15 x_16 x_17 x_18 x_19 y4) rfl rfl (gIV ml_X8_135 im_X8_sweeps sl_X8_sweeps in_X8 cd_X8_sweeps) rfl eX8_sweeps rfl ⟨rfl, rfl⟩ ⟨Nat.le_of_ble_eq_true rfl, Nat.le_of_ble_eq_true rfl⟩ rfl rfl rfl [0] rfl rfl rfl rfl (gA_cons aM gA_nil) rfl rfl (Nat.le_of_ble_eq_true rfl) (tdec DX8_stops 7 rfl) rfl ?_
  have hr9 := o_some hF
  subst hr9
  exact g_vret C rfl (tdec DX8_stops 8 rfl)
def FX8_endsHere (x0 : MS) (p1 : Int32) : Option (Int32 × MS) :=
  (ald 2 (MS_at x0) p1).bind fun r1 =>
  (FX8_isWhole x0 r1 13).bind fun r3 =>
  if r3 = 0 then
    some (1, x0)
  else
    (ald 2 (MS_at x0) p1).bind fun r6 =>
    (FX8_number x0 (r6 + 1) 4).bind fun r8 =>
    (ald 2 (MS_rec x0) p1).bind fun r10 =>
    if (lg_cmp r8 (((r10 + 1) : Int32).toInt64)) = 0 then
      (ald 2 (MS_at x0) p1).bind fun r13 =>
      if (MS_len x0) = (r13 + 13) then
        (ald 2 (MS_snaps x0) p1).bind fun r16 =>
        if r16 = 20 then
          some (5, x0)
        else
          (ald 44 (MS_tt x0) ((22 * p1) + 1)).bind fun r19 =>
          (ast 44 (MS_tt x0) ((22 * p1) + 0) r19).bind fun g21 =>
          (ald 44 (MS_tb x0) ((22 * p1) + 1)).bind fun r23 =>
          (ast 44 (MS_tb x0) ((22 * p1) + 0) r23).bind fun g25 =>
          (ald 2 (MS_tgt x0) p1).bind fun r27 =>
          (FX8_snaps (MS_settb (MS_settt x0 g21) g25) p1 0 r27).bind fun s29 =>
          some (0, s29)
      else
        some (1, x0)
    else
      some (1, x0)
def rX8_endsHere : Room := { frames := 2, cells := 0, slots := 0, locals := 47 }
set_option maxHeartbeats 4000000 in
set_option maxRecDepth 100000 in
theorem c_X8_endsHere (l : Launch) (D : va_G) (cB cI cJ cZ : ClassId) (x_0 x_1 x_2 x_3 x_4 x_5 x_6 x_7 x_8 x_9 x_10 x_11 x_12 x_13 x_14 x_15 x_16 x_17 x_18 x_19 : Nat) {x0 : MS} {p1 : Int32} {res : Int32 × MS} (hF : FX8_endsHere x0 p1 = some res) : gMi l yX8_endsHere wsX8_endsHere rX8_endsHere D (gT cB cI cJ cZ) [.ref x_0, .int p1] (wM cB cI cJ cZ x_0 x_1 x_2 x_3 x_4 x_5 x_6 x_7 x_8 x_9 x_10 x_11 x_12 x_13 x_14 x_15 x_16 x_17 x_18 x_19 x0) res.1 (wM cB cI cJ cZ x_0 x_1 x_2 x_3 x_4 x_5 x_6 x_7 x_8 x_9 x_10 x_11 x_12 x_13 x_14 x_15 x_16 x_17 x_18 x_19 res.2) := by
  refine g_enter (own := RX8) (free := (fun sz => va_A (wM cB cI cJ cZ x_0 x_1 x_2 x_3 x_4 x_5 x_6 x_7 x_8 x_9 x_10 x_11 x_12 x_13 x_14 x_15 x_16 x_17 x_18 x_19 x0) sz)) (Qc := (fun sz => gQi D (wM cB cI cJ cZ x_0 x_1 x_2 x_3 x_4 x_5 x_6 x_7 x_8 x_9 x_10 x_11 x_12 x_13 x_14 x_15 x_16 x_17 x_18 x_19 x0) sz res.1 (wM cB cI cJ cZ x_0 x_1 x_2 x_3 x_4 x_5 x_6 x_7 x_8 x_9 x_10 x_11 x_12 x_13 x_14 x_15 x_16 x_17 x_18 x_19 res.2))) (fun sz => va_A (wM cB cI cJ cZ x_0 x_1 x_2 x_3 x_4 x_5 x_6 x_7 x_8 x_9 x_10 x_11 x_12 x_13 x_14 x_15 x_16 x_17 x_18 x_19 x0) sz) (fun sz => Or.inr rfl) rfl (by decide) rfl (Nat.le_of_ble_eq_true rfl) rfl ?_
  intro p e s m args below meth c C
  unfold FX8_endsHere at hF
  refine g_aload_n (z := 0) C (tdec DX8_endsHere 0 rfl) rfl rfl rfl ?_
  refine g_aload_n (z := 0) C (tdec DX8_endsHere 1 rfl) rfl rfl rfl ?_
  refine g_getf (C' := RX8) (T := TX8) (N := 27) (v := .ref x_14) C 0 14 (gIn iw_X8) rfl rfl (by decide) (gMem fl_X8_51) rfl rfl (tdec DX8_endsHere 2 rfl) rfl ?_
  refine g_iload_n (z := 1) C (tdec DX8_endsHere 3 rfl) rfl rfl rfl ?_
  obtain ⟨r1, y2, hF⟩ := o_bind hF
  refine g_iald C 14 1 rfl rfl y2 (tdec DX8_endsHere 4 rfl) rfl ?_
  refine g_bipush (v := 13) C (tdec DX8_endsHere 5 rfl) (by decide) rfl ?_
  obtain ⟨r3, y4, hF⟩ := o_bind hF
  refine g_callViRS (q0 := 0) (S := [wM cB cI cJ cZ x_0 x_1 x_2 x_3 x_4 x_5 x_6 x_7 x_8 x_9 x_10 x_11 x_12 x_13 x_14 x_15 x_16 x_17 x_18 x_19 x0]) (S0 := [wM cB cI cJ cZ x_0 x_1 x_2 x_3 x_4 x_5 x_6 x_7 x_8 x_9 x_10 x_11 x_12 x_13 x_14 x_15 x_16 x_17 x_18 x_19 x0]) C (c_X8_isWhole l D cB cI cJ cZ x_0 x_1 x_2 x_3 x_4 x_5 x_6 x_7 x_8 x_9 x_10 x_11 x_12 x_13 x_14 x_15 x_16 x_17 x_18 x_19 y4) rfl rfl (gIV ml_X8_189 im_X8_isWhole sl_X8_isWhole in_X8 cd_X8_isWhole) rfl eX8_isWhole rfl ⟨rfl, rfl⟩ ⟨Nat.le_of_ble_eq_true rfl, Nat.le_of_ble_eq_true rfl⟩ rfl rfl rfl [0] rfl rfl rfl (Nat.le_of_ble_eq_true rfl) (tdec DX8_endsHere 6 rfl) rfl ?_
  refine g_if_eq (pt := 57) C (tdec DX8_endsHere 7 rfl) (by decide) rfl (fun h5 => ?_) (fun h5 => ?_)
  · have hF := o_ifp hF h5
    refine g_iconst (v := 1) C (tdec DX8_endsHere 35 rfl) (by decide) rfl ?_
    have hr9 := o_some hF
    subst hr9
    exact g_iret C rfl rfl (tdec DX8_endsHere 36 rfl)
  · have hF := o_ifn hF h5
    refine g_aload_n (z := 0) C (tdec DX8_endsHere 8 rfl) rfl rfl rfl ?_
    refine g_aload_n (z := 0) C (tdec DX8_endsHere 9 rfl) rfl rfl rfl ?_
    refine g_getf (C' := RX8) (T := TX8) (N := 27) (v := .ref x_14) C 0 14 (gIn iw_X8) rfl rfl (by decide) (gMem fl_X8_51) rfl rfl (tdec DX8_endsHere 10 rfl) rfl ?_
    refine g_iload_n (z := 1) C (tdec DX8_endsHere 11 rfl) rfl rfl rfl ?_
    obtain ⟨r6, y7, hF⟩ := o_bind hF
    refine g_iald C 14 1 rfl rfl y7 (tdec DX8_endsHere 12 rfl) rfl ?_
    refine g_iconst (v := 1) C (tdec DX8_endsHere 13 rfl) (by decide) rfl ?_
    refine g_iadd C (tdec DX8_endsHere 14 rfl) rfl ?_
    refine g_iconst (v := 4) C (tdec DX8_endsHere 15 rfl) (by decide) rfl ?_
    obtain ⟨r8, y9, hF⟩ := o_bind hF
    refine g_callVlRS (q0 := 0) (S := [wM cB cI cJ cZ x_0 x_1 x_2 x_3 x_4 x_5 x_6 x_7 x_8 x_9 x_10 x_11 x_12 x_13 x_14 x_15 x_16 x_17 x_18 x_19 x0]) (S0 := [wM cB cI cJ cZ x_0 x_1 x_2 x_3 x_4 x_5 x_6 x_7 x_8 x_9 x_10 x_11 x_12 x_13 x_14 x_15 x_16 x_17 x_18 x_19 x0]) C (c_X8_number l D cB cI cJ cZ x_0 x_1 x_2 x_3 x_4 x_5 x_6 x_7 x_8 x_9 x_10 x_11 x_12 x_13 x_14 x_15 x_16 x_17 x_18 x_19 y9) rfl rfl (gIV ml_X8_186 im_X8_number sl_X8_number in_X8 cd_X8_number) rfl eX8_number rfl ⟨rfl, rfl⟩ ⟨Nat.le_of_ble_eq_true rfl, Nat.le_of_ble_eq_true rfl⟩ rfl rfl rfl [0] rfl rfl rfl (Nat.le_of_ble_eq_true rfl) (tdec DX8_endsHere 16 rfl) rfl ?_
    refine g_aload_n (z := 0) C (tdec DX8_endsHere 17 rfl) rfl rfl rfl ?_
    refine g_getf (C' := RX8) (T := TX8) (N := 27) (v := .ref x_15) C 0 15 (gIn iw_X8) rfl rfl (by decide) (gMem fl_X8_54) rfl rfl (tdec DX8_endsHere 18 rfl) rfl ?_
    refine g_iload_n (z := 1) C (tdec DX8_endsHere 19 rfl) rfl rfl rfl ?_
    obtain ⟨r10, y11, hF⟩ := o_bind hF
    refine g_iald C 15 1 rfl rfl y11 (tdec DX8_endsHere 20 rfl) rfl ?_
    refine g_iconst (v := 1) C (tdec DX8_endsHere 21 rfl) (by decide) rfl ?_
    refine g_iadd C (tdec DX8_endsHere 22 rfl) rfl ?_
    refine g_i2l C (tdec DX8_endsHere 23 rfl) rfl ?_
    refine g_lcmp C (tdec DX8_endsHere 24 rfl) rfl ?_
    refine g_if_ne (pt := 57) C (tdec DX8_endsHere 25 rfl) (by decide) rfl (fun h12 => ?_) (fun h12 => ?_)
    · have hF := o_ifn hF h12
      refine g_iconst (v := 1) C (tdec DX8_endsHere 35 rfl) (by decide) rfl ?_
      have hr9 := o_some hF
      subst hr9
      exact g_iret C rfl rfl (tdec DX8_endsHere 36 rfl)
    · have hF := o_ifp hF h12
      refine g_aload_n (z := 0) C (tdec DX8_endsHere 26 rfl) rfl rfl rfl ?_
      refine g_getf (C' := RX8) (T := TX8) (N := 27) (v := .int (MS_len x0)) C 0 19 (gIn iw_X8) rfl rfl (by decide) (gMem fl_X8_147) rfl rfl (tdec DX8_endsHere 27 rfl) rfl ?_
      refine g_aload_n (z := 0) C (tdec DX8_endsHere 28 rfl) rfl rfl rfl ?_
      refine g_getf (C' := RX8) (T := TX8) (N := 27) (v := .ref x_14) C 0 14 (gIn iw_X8) rfl rfl (by decide) (gMem fl_X8_51) rfl rfl (tdec DX8_endsHere 29 rfl) rfl ?_
      refine g_iload_n (z := 1) C (tdec DX8_endsHere 30 rfl) rfl rfl rfl ?_
      obtain ⟨r13, y14, hF⟩ := o_bind hF
      refine g_iald C 14 1 rfl rfl y14 (tdec DX8_endsHere 31 rfl) rfl ?_
      refine g_bipush (v := 13) C (tdec DX8_endsHere 32 rfl) (by decide) rfl ?_
      refine g_iadd C (tdec DX8_endsHere 33 rfl) rfl ?_
      refine g_icmp_eq (pt := 59) C (tdec DX8_endsHere 34 rfl) (by decide) rfl (fun h15 => ?_) (fun h15 => ?_)
      · have hF := o_ifp hF h15
        refine g_aload_n (z := 0) C (tdec DX8_endsHere 37 rfl) rfl rfl rfl ?_
        refine g_getf (C' := RX8) (T := TX8) (N := 27) (v := .ref x_10) C 0 10 (gIn iw_X8) rfl rfl (by decide) (gMem fl_X8_39) rfl rfl (tdec DX8_endsHere 38 rfl) rfl ?_
        refine g_iload_n (z := 1) C (tdec DX8_endsHere 39 rfl) rfl rfl rfl ?_
        obtain ⟨r16, y17, hF⟩ := o_bind hF
        refine g_iald C 10 1 rfl rfl y17 (tdec DX8_endsHere 40 rfl) rfl ?_
        refine g_bipush (v := 20) C (tdec DX8_endsHere 41 rfl) (by decide) rfl ?_
        refine g_icmp_ne (pt := 72) C (tdec DX8_endsHere 42 rfl) (by decide) rfl (fun h18 => ?_) (fun h18 => ?_)
        · have hF := o_ifn hF h18
          refine g_aload_n (z := 0) C (tdec DX8_endsHere 45 rfl) rfl rfl rfl ?_
          refine g_getf (C' := RX8) (T := TX8) (N := 27) (v := .ref x_7) C 0 7 (gIn iw_X8) rfl rfl (by decide) (gMem fl_X8_30) rfl rfl (tdec DX8_endsHere 46 rfl) rfl ?_
          refine g_bipush (v := 22) C (tdec DX8_endsHere 47 rfl) (by decide) rfl ?_
          refine g_iload_n (z := 1) C (tdec DX8_endsHere 48 rfl) rfl rfl rfl ?_
          refine g_imul C (tdec DX8_endsHere 49 rfl) rfl ?_
          refine g_iconst (v := 0) C (tdec DX8_endsHere 50 rfl) (by decide) rfl ?_
          refine g_iadd C (tdec DX8_endsHere 51 rfl) rfl ?_
          refine g_aload_n (z := 0) C (tdec DX8_endsHere 52 rfl) rfl rfl rfl ?_
          refine g_getf (C' := RX8) (T := TX8) (N := 27) (v := .ref x_7) C 0 7 (gIn iw_X8) rfl rfl (by decide) (gMem fl_X8_30) rfl rfl (tdec DX8_endsHere 53 rfl) rfl ?_
          refine g_bipush (v := 22) C (tdec DX8_endsHere 54 rfl) (by decide) rfl ?_
          refine g_iload_n (z := 1) C (tdec DX8_endsHere 55 rfl) rfl rfl rfl ?_
          refine g_imul C (tdec DX8_endsHere 56 rfl) rfl ?_
          refine g_iconst (v := 1) C (tdec DX8_endsHere 57 rfl) (by decide) rfl ?_
          refine g_iadd C (tdec DX8_endsHere 58 rfl) rfl ?_
          obtain ⟨r19, y20, hF⟩ := o_bind hF
          refine g_iald C 7 1 rfl rfl y20 (tdec DX8_endsHere 59 rfl) rfl ?_
          obtain ⟨g21, y22, hF⟩ := o_bind hF
          refine g_iast (ws' := wM cB cI cJ cZ x_0 x_1 x_2 x_3 x_4 x_5 x_6 x_7 x_8 x_9 x_10 x_11 x_12 x_13 x_14 x_15 x_16 x_17 x_18 x_19 (MS_settt x0 g21)) C 7 1 rfl rfl y22 rfl (tdec DX8_endsHere 60 rfl) rfl ?_
          refine g_aload_n (z := 0) C (tdec DX8_endsHere 61 rfl) rfl rfl rfl ?_
          refine g_getf (C' := RX8) (T := TX8) (N := 27) (v := .ref x_8) C 0 8 (gIn iw_X8) rfl rfl (by decide) (gMem fl_X8_33) rfl rfl (tdec DX8_endsHere 62 rfl) rfl ?_
          refine g_bipush (v := 22) C (tdec DX8_endsHere 63 rfl) (by decide) rfl ?_
          refine g_iload_n (z := 1) C (tdec DX8_endsHere 64 rfl) rfl rfl rfl ?_
          refine g_imul C (tdec DX8_endsHere 65 rfl) rfl ?_
          refine g_iconst (v := 0) C (tdec DX8_endsHere 66 rfl) (by decide) rfl ?_
          refine g_iadd C (tdec DX8_endsHere 67 rfl) rfl ?_
          refine g_aload_n (z := 0) C (tdec DX8_endsHere 68 rfl) rfl rfl rfl ?_
          refine g_getf (C' := RX8) (T := TX8) (N := 27) (v := .ref x_8) C 0 8 (gIn iw_X8) rfl rfl (by decide) (gMem fl_X8_33) rfl rfl (tdec DX8_endsHere 69 rfl) rfl ?_
          refine g_bipush (v := 22) C (tdec DX8_endsHere 70 rfl) (by decide) rfl ?_
          refine g_iload_n (z := 1) C (tdec DX8_endsHere 71 rfl) rfl rfl rfl ?_
          refine g_imul C (tdec DX8_endsHere 72 rfl) rfl ?_
          refine g_iconst (v := 1) C (tdec DX8_endsHere 73 rfl) (by decide) rfl ?_
          refine g_iadd C (tdec DX8_endsHere 74 rfl) rfl ?_
          obtain ⟨r23, y24, hF⟩ := o_bind hF
          refine g_iald C 8 1 rfl rfl y24 (tdec DX8_endsHere 75 rfl) rfl ?_
          obtain ⟨g25, y26, hF⟩ := o_bind hF
          refine g_iast (ws' := wM cB cI cJ cZ x_0 x_1 x_2 x_3 x_4 x_5 x_6 x_7 x_8 x_9 x_10 x_11 x_12 x_13 x_14 x_15 x_16 x_17 x_18 x_19 (MS_settb (MS_settt x0 g21) g25)) C 8 1 rfl rfl y26 rfl (tdec DX8_endsHere 76 rfl) rfl ?_
          refine g_aload_n (z := 0) C (tdec DX8_endsHere 77 rfl) rfl rfl rfl ?_
          refine g_iload_n (z := 1) C (tdec DX8_endsHere 78 rfl) rfl rfl rfl ?_
          refine g_iconst (v := 0) C (tdec DX8_endsHere 79 rfl) (by decide) rfl ?_
          refine g_aload_n (z := 0) C (tdec DX8_endsHere 80 rfl) rfl rfl rfl ?_
          refine g_getf (C' := RX8) (T := TX8) (N := 27) (v := .ref x_16) C 0 16 (gIn iw_X8) rfl rfl (by decide) (gMem fl_X8_57) rfl rfl (tdec DX8_endsHere 81 rfl) rfl ?_
          refine g_iload_n (z := 1) C (tdec DX8_endsHere 82 rfl) rfl rfl rfl ?_
          obtain ⟨r27, y28, hF⟩ := o_bind hF
          refine g_lald C 16 2 rfl rfl y28 (tdec DX8_endsHere 83 rfl) rfl ?_
          obtain ⟨s29, y30, hF⟩ := o_bind hF
          refine g_callVvMS (q0 := 0) (W' := wM cB cI cJ cZ x_0 x_1 x_2 x_3 x_4 x_5 x_6 x_7 x_8 x_9 x_10 x_11 x_12 x_13 x_14 x_15 x_16 x_17 x_18 x_19 s29) (S := [wM cB cI cJ cZ x_0 x_1 x_2 x_3 x_4 x_5 x_6 x_7 x_8 x_9 x_10 x_11 x_12 x_13 x_14 x_15 x_16 x_17 x_18 x_19 (MS_settb (MS_settt x0 g21) g25)]) (S0 := [wM cB cI cJ cZ x_0 x_1 x_2 x_3 x_4 x_5 x_6 x_7 x_8 x_9 x_10 x_11 x_12 x_13 x_14 x_15 x_16 x_17 x_18 x_19 (MS_settb (MS_settt x0 g21) g25)]) (S1 := [wM cB cI cJ cZ x_0 x_1 x_2 x_3 x_4 x_5 x_6 x_7 x_8 x_9 x_10 x_11 x_12 x_13 x_14 x_15 x_16 x_17 x_18 x_19 s29]) (S' := [wM cB cI cJ cZ x_0 x_1 x_2 x_3 x_4 x_5 x_6 x_7 x_8 x_9 x_10 x_11 x_12 x_13 x_14 x_15 x_16 x_17 x_18 x_19 s29]) C (c_X8_snaps l D cB cI cJ cZ x_0 x_1 x_2 x_3 x_4 x_5 x_6 x_7 x_8 x_9 x_10 x_11 x_12 x_13 x_14 x_15 x_16 x_17 x_18 x_19 y30) rfl rfl (gIV ml_X8_144 im_X8_snaps sl_X8_snaps in_X8 cd_X8_snaps) rfl eX8_snaps rfl ⟨rfl, rfl⟩ ⟨Nat.le_of_ble_eq_true rfl, Nat.le_of_ble_eq_true rfl⟩ rfl rfl rfl [0] rfl rfl rfl rfl (gA_cons aM gA_nil) rfl rfl (Nat.le_of_ble_eq_true rfl) (tdec DX8_endsHere 84 rfl) rfl ?_
          refine g_iconst (v := 0) C (tdec DX8_endsHere 85 rfl) (by decide) rfl ?_
          have hr9 := o_some hF
          subst hr9
          exact g_iret C rfl rfl (tdec DX8_endsHere 86 rfl)
        · have hF := o_ifp hF h18
          refine g_iconst (v := 5) C (tdec DX8_endsHere 43 rfl) (by decide) rfl ?_
          have hr9 := o_some hF
          subst hr9
          exact g_iret C rfl rfl (tdec DX8_endsHere 44 rfl)
      · have hF := o_ifn hF h15
        refine g_iconst (v := 1) C (tdec DX8_endsHere 35 rfl) (by decide) rfl ?_
        have hr9 := o_some hF
        subst hr9
        exact g_iret C rfl rfl (tdec DX8_endsHere 36 rfl)
def FX8_clearsHere_L64 (v1 : Int32) (v2 : Int32) (v3 : Int32) (v4 : Int32) (k9 : MS → Int32 → Int32 → Option (Int32 × MS)) : Nat → MS → Int32 → Int32 → Option (Int32 × MS)
  | 0, _, _, _ => none
  | n9 + 1, x, v5, v6 =>
    if (v3 + v4) ≤ v6 then
      k9 x v5 v6
    else
      if v5 = 0 then
        (FX8_clears x v1 1 v6).bind fun (r14, s15) =>
        FX8_clearsHere_L64 v1 v2 v3 v4 k9 n9 s15 r14 (v6 + 1)
      else
        k9 x v5 v6
def FX8_clearsHere (x0 : MS) (p1 : Int32) : Option (Int32 × MS) :=
  (ald 2 (MS_at x0) p1).bind fun r1 =>
  (FX8_isWhole x0 r1 13).bind fun r3 =>
  if r3 = 0 then
    some (1, x0)
  else
    (FX8_number x0 (r1 + 1) 2).bind fun r6 =>
    (FX8_number x0 (r1 + 3) 2).bind fun r8 =>
    if ((r8 : Int64).toInt32) < 1 then
      some (1, x0)
    else
      if (((r6 : Int64).toInt32) + ((r8 : Int64).toInt32)) ≤ 512 then
        FX8_clearsHere_L64 p1 r1 ((r6 : Int64).toInt32) ((r8 : Int64).toInt32) (fun xq17 w5_17 w6_17 =>
          (ast 2 (MS_at xq17) p1 (r1 + 13)).bind fun g18 =>
          some (w5_17, (MS_setat xq17 g18))) 100000 x0 0 ((r6 : Int64).toInt32)
      else
        some (1, x0)
def rX8_clearsHere : Room := { frames := 3, cells := 0, slots := 0, locals := 79 }
set_option maxHeartbeats 4000000 in
set_option maxRecDepth 100000 in
theorem c_FX8_clearsHere_L64 {p : Program} {l : Launch} {e : Env} {s : State} {m : MethodId} {args : Array Value} {below : List Frame} {meth : Method} {c : Code} {D : va_G} {cB cI cJ cZ : ClassId} {x_0 x_1 x_2 x_3 x_4 x_5 x_6 x_7 x_8 x_9 x_10 x_11 x_12 x_13 x_14 x_15 x_16 x_17 x_18 x_19 : Nat} {x0 : MS} {res : Int32 × MS} (C : gC p s m args meth c cX8_clearsHere 7 RX8 wsX8_clearsHere D (gT cB cI cJ cZ) (some .int) (va_A (wM cB cI cJ cZ x_0 x_1 x_2 x_3 x_4 x_5 x_6 x_7 x_8 x_9 x_10 x_11 x_12 x_13 x_14 x_15 x_16 x_17 x_18 x_19 x0) s.heap.size)) {v1 : Int32} {v2 : Int32} {v3 : Int32} {v4 : Int32} {k9 : MS → Int32 → Int32 → Option (Int32 × MS)} (hk9 : ∀ (x : MS) (v5 : Int32) (v6 : Int32), k9 x v5 v6 = some res → gG p l e (headSpec wsX8_clearsHere rX8_clearsHere).room s m args below meth c 0 0 D (va_A (wM cB cI cJ cZ x_0 x_1 x_2 x_3 x_4 x_5 x_6 x_7 x_8 x_9 x_10 x_11 x_12 x_13 x_14 x_15 x_16 x_17 x_18 x_19 x0) s.heap.size) (va_A (wM cB cI cJ cZ x_0 x_1 x_2 x_3 x_4 x_5 x_6 x_7 x_8 x_9 x_10 x_11 x_12 x_13 x_14 x_15 x_16 x_17 x_18 x_19 x0) s.heap.size) 7 (MQ below (gQi D (wM cB cI cJ cZ x_0 x_1 x_2 x_3 x_4 x_5 x_6 x_7 x_8 x_9 x_10 x_11 x_12 x_13 x_14 x_15 x_16 x_17 x_18 x_19 x0) s.heap.size res.1 (wM cB cI cJ cZ x_0 x_1 x_2 x_3 x_4 x_5 x_6 x_7 x_8 x_9 x_10 x_11 x_12 x_13 x_14 x_15 x_16 x_17 x_18 x_19 res.2)) args s 0 0 (va_A (wM cB cI cJ cZ x_0 x_1 x_2 x_3 x_4 x_5 x_6 x_7 x_8 x_9 x_10 x_11 x_12 x_13 x_14 x_15 x_16 x_17 x_18 x_19 x0) s.heap.size)) (wM cB cI cJ cZ x_0 x_1 x_2 x_3 x_4 x_5 x_6 x_7 x_8 x_9 x_10 x_11 x_12 x_13 x_14 x_15 x_16 x_17 x_18 x_19 x) 94 [(0, .ref x_0), (1, .int v1), (2, .int v2), (3, .int v3), (4, .int v4), (5, .int v5), (6, .int v6)] []) :
    ∀ (n9 : Nat) (x : MS) (v5 : Int32) (v6 : Int32), FX8_clearsHere_L64 v1 v2 v3 v4 k9 n9 x v5 v6 = some res → gG p l e (headSpec wsX8_clearsHere rX8_clearsHere).room s m args below meth c 0 0 D (va_A (wM cB cI cJ cZ x_0 x_1 x_2 x_3 x_4 x_5 x_6 x_7 x_8 x_9 x_10 x_11 x_12 x_13 x_14 x_15 x_16 x_17 x_18 x_19 x0) s.heap.size) (va_A (wM cB cI cJ cZ x_0 x_1 x_2 x_3 x_4 x_5 x_6 x_7 x_8 x_9 x_10 x_11 x_12 x_13 x_14 x_15 x_16 x_17 x_18 x_19 x0) s.heap.size) 7 (MQ below (gQi D (wM cB cI cJ cZ x_0 x_1 x_2 x_3 x_4 x_5 x_6 x_7 x_8 x_9 x_10 x_11 x_12 x_13 x_14 x_15 x_16 x_17 x_18 x_19 x0) s.heap.size res.1 (wM cB cI cJ cZ x_0 x_1 x_2 x_3 x_4 x_5 x_6 x_7 x_8 x_9 x_10 x_11 x_12 x_13 x_14 x_15 x_16 x_17 x_18 x_19 res.2)) args s 0 0 (va_A (wM cB cI cJ cZ x_0 x_1 x_2 x_3 x_4 x_5 x_6 x_7 x_8 x_9 x_10 x_11 x_12 x_13 x_14 x_15 x_16 x_17 x_18 x_19 x0) s.heap.size)) (wM cB cI cJ cZ x_0 x_1 x_2 x_3 x_4 x_5 x_6 x_7 x_8 x_9 x_10 x_11 x_12 x_13 x_14 x_15 x_16 x_17 x_18 x_19 x) 64 [(0, .ref x_0), (1, .int v1), (2, .int v2), (3, .int v3), (4, .int v4), (5, .int v5), (6, .int v6)] [] := by
  intro n9
  induction n9 with
  | zero =>
    intro x v5 v6 hF
    exact absurd hF (by simp [FX8_clearsHere_L64])
  | succ n9 ih9 =>
    intro x v5 v6 hF
    rw [FX8_clearsHere_L64] at hF
    refine g_iload (z := 6) C (tdec DX8_clearsHere 42 rfl) rfl rfl ?_
    refine g_iload_n (z := 3) C (tdec DX8_clearsHere 43 rfl) rfl rfl rfl ?_
    refine g_iload (z := 4) C (tdec DX8_clearsHere 44 rfl) rfl rfl ?_
    refine g_iadd C (tdec DX8_clearsHere 45 rfl) rfl ?_
    refine g_icmp_ge (pt := 94) C (tdec DX8_clearsHere 46 rfl) (by decide) rfl (fun h12 => ?_) (fun h12 => ?_)
    · have hF := o_ifp hF h12
      refine g_sub (L' := [(0, .ref x_0), (1, .int v1), (2, .int v2), (3, .int v3), (4, .int v4), (5, .int v5), (6, .int v6)]) [0, 1, 2, 3, 4, 5, 6] rfl ?_
      exact hk9 _ _ _ hF
    · have hF := o_ifn hF h12
      refine g_iload (z := 5) C (tdec DX8_clearsHere 47 rfl) rfl rfl ?_
      refine g_if_ne (pt := 94) C (tdec DX8_clearsHere 48 rfl) (by decide) rfl (fun h13 => ?_) (fun h13 => ?_)
      · have hF := o_ifn hF h13
        refine g_sub (L' := [(0, .ref x_0), (1, .int v1), (2, .int v2), (3, .int v3), (4, .int v4), (5, .int v5), (6, .int v6)]) [0, 1, 2, 3, 4, 5, 6] rfl ?_
        exact hk9 _ _ _ hF
      · have hF := o_ifp hF h13
        refine g_aload_n (z := 0) C (tdec DX8_clearsHere 49 rfl) rfl rfl rfl ?_
        refine g_iload_n (z := 1) C (tdec DX8_clearsHere 50 rfl) rfl rfl rfl ?_
        refine g_iconst (v := 1) C (tdec DX8_clearsHere 51 rfl) (by decide) rfl ?_
        refine g_iload (z := 6) C (tdec DX8_clearsHere 52 rfl) rfl rfl ?_
        obtain ⟨⟨r14, s15⟩, y16, hF⟩ := o_bind hF
        refine g_callViMS (q0 := 0) (W' := wM cB cI cJ cZ x_0 x_1 x_2 x_3 x_4 x_5 x_6 x_7 x_8 x_9 x_10 x_11 x_12 x_13 x_14 x_15 x_16 x_17 x_18 x_19 s15) (S := [wM cB cI cJ cZ x_0 x_1 x_2 x_3 x_4 x_5 x_6 x_7 x_8 x_9 x_10 x_11 x_12 x_13 x_14 x_15 x_16 x_17 x_18 x_19 x]) (S0 := [wM cB cI cJ cZ x_0 x_1 x_2 x_3 x_4 x_5 x_6 x_7 x_8 x_9 x_10 x_11 x_12 x_13 x_14 x_15 x_16 x_17 x_18 x_19 x]) (S1 := [wM cB cI cJ cZ x_0 x_1 x_2 x_3 x_4 x_5 x_6 x_7 x_8 x_9 x_10 x_11 x_12 x_13 x_14 x_15 x_16 x_17 x_18 x_19 s15]) (S' := [wM cB cI cJ cZ x_0 x_1 x_2 x_3 x_4 x_5 x_6 x_7 x_8 x_9 x_10 x_11 x_12 x_13 x_14 x_15 x_16 x_17 x_18 x_19 s15]) C (c_X8_clears l D cB cI cJ cZ x_0 x_1 x_2 x_3 x_4 x_5 x_6 x_7 x_8 x_9 x_10 x_11 x_12 x_13 x_14 x_15 x_16 x_17 x_18 x_19 y16) rfl rfl (gIV ml_X8_138 im_X8_clears sl_X8_clears in_X8 cd_X8_clears) rfl eX8_clears rfl ⟨rfl, rfl⟩ ⟨Nat.le_of_ble_eq_true rfl, Nat.le_of_ble_eq_true rfl⟩ rfl rfl rfl [0] rfl rfl rfl rfl (gA_cons aM gA_nil) rfl rfl (Nat.le_of_ble_eq_true rfl) (tdec DX8_clearsHere 53 rfl) rfl ?_
        refine g_istore (L' := [(5, .int r14), (0, .ref x_0), (1, .int v1), (2, .int v2), (3, .int v3), (4, .int v4), (6, .int v6)]) C (tdec DX8_clearsHere 54 rfl) (by decide) rfl rfl ?_
        refine g_iinc (z := 6) (v := (v6 + 1)) (L' := [(6, .int (v6 + 1)), (5, .int r14), (0, .ref x_0), (1, .int v1), (2, .int v2), (3, .int v3), (4, .int v4)]) C (tdec DX8_clearsHere 55 rfl) rfl rfl (by decide) rfl rfl ?_
        refine g_goto (pt := 64) C (tdec DX8_clearsHere 56 rfl) (by decide) ?_
        refine g_sub (L' := [(0, .ref x_0), (1, .int v1), (2, .int v2), (3, .int v3), (4, .int v4), (5, .int r14), (6, .int (v6 + 1))]) [2, 3, 4, 5, 6, 1, 0] rfl ?_
        exact ih9 _ _ _ hF
set_option maxHeartbeats 4000000 in
set_option maxRecDepth 100000 in
theorem c_X8_clearsHere (l : Launch) (D : va_G) (cB cI cJ cZ : ClassId) (x_0 x_1 x_2 x_3 x_4 x_5 x_6 x_7 x_8 x_9 x_10 x_11 x_12 x_13 x_14 x_15 x_16 x_17 x_18 x_19 : Nat) {x0 : MS} {p1 : Int32} {res : Int32 × MS} (hF : FX8_clearsHere x0 p1 = some res) : gMi l yX8_clearsHere wsX8_clearsHere rX8_clearsHere D (gT cB cI cJ cZ) [.ref x_0, .int p1] (wM cB cI cJ cZ x_0 x_1 x_2 x_3 x_4 x_5 x_6 x_7 x_8 x_9 x_10 x_11 x_12 x_13 x_14 x_15 x_16 x_17 x_18 x_19 x0) res.1 (wM cB cI cJ cZ x_0 x_1 x_2 x_3 x_4 x_5 x_6 x_7 x_8 x_9 x_10 x_11 x_12 x_13 x_14 x_15 x_16 x_17 x_18 x_19 res.2) := by
  refine g_enter (own := RX8) (free := (fun sz => va_A (wM cB cI cJ cZ x_0 x_1 x_2 x_3 x_4 x_5 x_6 x_7 x_8 x_9 x_10 x_11 x_12 x_13 x_14 x_15 x_16 x_17 x_18 x_19 x0) sz)) (Qc := (fun sz => gQi D (wM cB cI cJ cZ x_0 x_1 x_2 x_3 x_4 x_5 x_6 x_7 x_8 x_9 x_10 x_11 x_12 x_13 x_14 x_15 x_16 x_17 x_18 x_19 x0) sz res.1 (wM cB cI cJ cZ x_0 x_1 x_2 x_3 x_4 x_5 x_6 x_7 x_8 x_9 x_10 x_11 x_12 x_13 x_14 x_15 x_16 x_17 x_18 x_19 res.2))) (fun sz => va_A (wM cB cI cJ cZ x_0 x_1 x_2 x_3 x_4 x_5 x_6 x_7 x_8 x_9 x_10 x_11 x_12 x_13 x_14 x_15 x_16 x_17 x_18 x_19 x0) sz) (fun sz => Or.inr rfl) rfl (by decide) rfl (Nat.le_of_ble_eq_true rfl) rfl ?_
  intro p e s m args below meth c C
  unfold FX8_clearsHere at hF
  refine g_aload_n (z := 0) C (tdec DX8_clearsHere 0 rfl) rfl rfl rfl ?_
  refine g_getf (C' := RX8) (T := TX8) (N := 27) (v := .ref x_14) C 0 14 (gIn iw_X8) rfl rfl (by decide) (gMem fl_X8_51) rfl rfl (tdec DX8_clearsHere 1 rfl) rfl ?_
  refine g_iload_n (z := 1) C (tdec DX8_clearsHere 2 rfl) rfl rfl rfl ?_
  obtain ⟨r1, y2, hF⟩ := o_bind hF
  refine g_iald C 14 1 rfl rfl y2 (tdec DX8_clearsHere 3 rfl) rfl ?_
  refine g_istore_n (L' := [(2, .int r1), (0, .ref x_0), (1, .int p1)]) C (tdec DX8_clearsHere 4 rfl) rfl (by decide) rfl rfl ?_
  refine g_aload_n (z := 1) C (tdec DX8_clearsHere 5 rfl) rfl rfl rfl ?_
  refine g_iload_n (z := 0) C (tdec DX8_clearsHere 6 rfl) rfl rfl rfl ?_
  refine g_bipush (v := 13) C (tdec DX8_clearsHere 7 rfl) (by decide) rfl ?_
  obtain ⟨r3, y4, hF⟩ := o_bind hF
  refine g_callViRS (q0 := 0) (S := [wM cB cI cJ cZ x_0 x_1 x_2 x_3 x_4 x_5 x_6 x_7 x_8 x_9 x_10 x_11 x_12 x_13 x_14 x_15 x_16 x_17 x_18 x_19 x0]) (S0 := [wM cB cI cJ cZ x_0 x_1 x_2 x_3 x_4 x_5 x_6 x_7 x_8 x_9 x_10 x_11 x_12 x_13 x_14 x_15 x_16 x_17 x_18 x_19 x0]) C (c_X8_isWhole l D cB cI cJ cZ x_0 x_1 x_2 x_3 x_4 x_5 x_6 x_7 x_8 x_9 x_10 x_11 x_12 x_13 x_14 x_15 x_16 x_17 x_18 x_19 y4) rfl rfl (gIV ml_X8_189 im_X8_isWhole sl_X8_isWhole in_X8 cd_X8_isWhole) rfl eX8_isWhole rfl ⟨rfl, rfl⟩ ⟨Nat.le_of_ble_eq_true rfl, Nat.le_of_ble_eq_true rfl⟩ rfl rfl rfl [0] rfl rfl rfl (Nat.le_of_ble_eq_true rfl) (tdec DX8_clearsHere 8 rfl) rfl ?_
  refine g_if_ne (pt := 19) C (tdec DX8_clearsHere 9 rfl) (by decide) rfl (fun h5 => ?_) (fun h5 => ?_)
  · have hF := o_ifn hF h5
    refine g_aload_n (z := 1) C (tdec DX8_clearsHere 12 rfl) rfl rfl rfl ?_
    refine g_iload_n (z := 0) C (tdec DX8_clearsHere 13 rfl) rfl rfl rfl ?_
    refine g_iconst (v := 1) C (tdec DX8_clearsHere 14 rfl) (by decide) rfl ?_
    refine g_iadd C (tdec DX8_clearsHere 15 rfl) rfl ?_
    refine g_iconst (v := 2) C (tdec DX8_clearsHere 16 rfl) (by decide) rfl ?_
    obtain ⟨r6, y7, hF⟩ := o_bind hF
    refine g_callVlRS (q0 := 0) (S := [wM cB cI cJ cZ x_0 x_1 x_2 x_3 x_4 x_5 x_6 x_7 x_8 x_9 x_10 x_11 x_12 x_13 x_14 x_15 x_16 x_17 x_18 x_19 x0]) (S0 := [wM cB cI cJ cZ x_0 x_1 x_2 x_3 x_4 x_5 x_6 x_7 x_8 x_9 x_10 x_11 x_12 x_13 x_14 x_15 x_16 x_17 x_18 x_19 x0]) C (c_X8_number l D cB cI cJ cZ x_0 x_1 x_2 x_3 x_4 x_5 x_6 x_7 x_8 x_9 x_10 x_11 x_12 x_13 x_14 x_15 x_16 x_17 x_18 x_19 y7) rfl rfl (gIV ml_X8_186 im_X8_number sl_X8_number in_X8 cd_X8_number) rfl eX8_number rfl ⟨rfl, rfl⟩ ⟨Nat.le_of_ble_eq_true rfl, Nat.le_of_ble_eq_true rfl⟩ rfl rfl rfl [0] rfl rfl rfl (Nat.le_of_ble_eq_true rfl) (tdec DX8_clearsHere 17 rfl) rfl ?_
    refine g_l2i C (tdec DX8_clearsHere 18 rfl) rfl ?_
    refine g_istore_n (L' := [(3, .int ((r6 : Int64).toInt32)), (2, .int r1), (0, .ref x_0), (1, .int p1)]) C (tdec DX8_clearsHere 19 rfl) rfl (by decide) rfl rfl ?_
    refine g_aload_n (z := 2) C (tdec DX8_clearsHere 20 rfl) rfl rfl rfl ?_
    refine g_iload_n (z := 1) C (tdec DX8_clearsHere 21 rfl) rfl rfl rfl ?_
    refine g_iconst (v := 3) C (tdec DX8_clearsHere 22 rfl) (by decide) rfl ?_
    refine g_iadd C (tdec DX8_clearsHere 23 rfl) rfl ?_
    refine g_iconst (v := 2) C (tdec DX8_clearsHere 24 rfl) (by decide) rfl ?_
    obtain ⟨r8, y9, hF⟩ := o_bind hF
    refine g_callVlRS (q0 := 0) (S := [wM cB cI cJ cZ x_0 x_1 x_2 x_3 x_4 x_5 x_6 x_7 x_8 x_9 x_10 x_11 x_12 x_13 x_14 x_15 x_16 x_17 x_18 x_19 x0]) (S0 := [wM cB cI cJ cZ x_0 x_1 x_2 x_3 x_4 x_5 x_6 x_7 x_8 x_9 x_10 x_11 x_12 x_13 x_14 x_15 x_16 x_17 x_18 x_19 x0]) C (c_X8_number l D cB cI cJ cZ x_0 x_1 x_2 x_3 x_4 x_5 x_6 x_7 x_8 x_9 x_10 x_11 x_12 x_13 x_14 x_15 x_16 x_17 x_18 x_19 y9) rfl rfl (gIV ml_X8_186 im_X8_number sl_X8_number in_X8 cd_X8_number) rfl eX8_number rfl ⟨rfl, rfl⟩ ⟨Nat.le_of_ble_eq_true rfl, Nat.le_of_ble_eq_true rfl⟩ rfl rfl rfl [0] rfl rfl rfl (Nat.le_of_ble_eq_true rfl) (tdec DX8_clearsHere 25 rfl) rfl ?_
    refine g_l2i C (tdec DX8_clearsHere 26 rfl) rfl ?_
    refine g_istore (L' := [(4, .int ((r8 : Int64).toInt32)), (3, .int ((r6 : Int64).toInt32)), (2, .int r1), (0, .ref x_0), (1, .int p1)]) C (tdec DX8_clearsHere 27 rfl) (by decide) rfl rfl ?_
    refine g_iload (z := 0) C (tdec DX8_clearsHere 28 rfl) rfl rfl ?_
    refine g_iconst (v := 1) C (tdec DX8_clearsHere 29 rfl) (by decide) rfl ?_
    refine g_icmp_lt (pt := 56) C (tdec DX8_clearsHere 30 rfl) (by decide) rfl (fun h10 => ?_) (fun h10 => ?_)
    · have hF := o_ifp hF h10
      refine g_iconst (v := 1) C (tdec DX8_clearsHere 36 rfl) (by decide) rfl ?_
      have hr9 := o_some hF
      subst hr9
      exact g_iret C rfl rfl (tdec DX8_clearsHere 37 rfl)
    · have hF := o_ifn hF h10
      refine g_iload_n (z := 1) C (tdec DX8_clearsHere 31 rfl) rfl rfl rfl ?_
      refine g_iload (z := 0) C (tdec DX8_clearsHere 32 rfl) rfl rfl ?_
      refine g_iadd C (tdec DX8_clearsHere 33 rfl) rfl ?_
      refine g_sipush (v := 512) C (tdec DX8_clearsHere 34 rfl) (by decide) rfl ?_
      refine g_icmp_le (pt := 58) C (tdec DX8_clearsHere 35 rfl) (by decide) rfl (fun h11 => ?_) (fun h11 => ?_)
      · have hF := o_ifp hF h11
        refine g_iconst (v := 0) C (tdec DX8_clearsHere 38 rfl) (by decide) rfl ?_
        refine g_istore (L' := [(5, .int 0), (4, .int ((r8 : Int64).toInt32)), (3, .int ((r6 : Int64).toInt32)), (2, .int r1), (0, .ref x_0), (1, .int p1)]) C (tdec DX8_clearsHere 39 rfl) (by decide) rfl rfl ?_
        refine g_iload_n (z := 2) C (tdec DX8_clearsHere 40 rfl) rfl rfl rfl ?_
        refine g_istore (L' := [(6, .int ((r6 : Int64).toInt32)), (5, .int 0), (4, .int ((r8 : Int64).toInt32)), (3, .int ((r6 : Int64).toInt32)), (2, .int r1), (0, .ref x_0), (1, .int p1)]) C (tdec DX8_clearsHere 41 rfl) (by decide) rfl rfl ?_
        refine g_sub (L' := [(0, .ref x_0), (1, .int p1), (2, .int r1), (3, .int ((r6 : Int64).toInt32)), (4, .int ((r8 : Int64).toInt32)), (5, .int 0), (6, .int ((r6 : Int64).toInt32))]) [5, 6, 4, 3, 2, 1, 0] rfl ?_
        refine c_FX8_clearsHere_L64 C (fun xq17 w5_17 w6_17 hF => ?_) 100000 _ _ _ hF
        refine g_aload_n (z := 0) C (tdec DX8_clearsHere 57 rfl) rfl rfl rfl ?_
        refine g_getf (C' := RX8) (T := TX8) (N := 27) (v := .ref x_14) C 0 14 (gIn iw_X8) rfl rfl (by decide) (gMem fl_X8_51) rfl rfl (tdec DX8_clearsHere 58 rfl) rfl ?_
        refine g_iload_n (z := 1) C (tdec DX8_clearsHere 59 rfl) rfl rfl rfl ?_
        refine g_iload_n (z := 2) C (tdec DX8_clearsHere 60 rfl) rfl rfl rfl ?_
        refine g_bipush (v := 13) C (tdec DX8_clearsHere 61 rfl) (by decide) rfl ?_
        refine g_iadd C (tdec DX8_clearsHere 62 rfl) rfl ?_
        obtain ⟨g18, y19, hF⟩ := o_bind hF
        refine g_iast (ws' := wM cB cI cJ cZ x_0 x_1 x_2 x_3 x_4 x_5 x_6 x_7 x_8 x_9 x_10 x_11 x_12 x_13 x_14 x_15 x_16 x_17 x_18 x_19 (MS_setat xq17 g18)) C 14 1 rfl rfl y19 rfl (tdec DX8_clearsHere 63 rfl) rfl ?_
        refine g_iload (z := 5) C (tdec DX8_clearsHere 64 rfl) rfl rfl ?_
        have hr9 := o_some hF
        subst hr9
        exact g_iret C rfl rfl (tdec DX8_clearsHere 65 rfl)
      · have hF := o_ifn hF h11
        refine g_iconst (v := 1) C (tdec DX8_clearsHere 36 rfl) (by decide) rfl ?_
        have hr9 := o_some hF
        subst hr9
        exact g_iret C rfl rfl (tdec DX8_clearsHere 37 rfl)
  · have hF := o_ifp hF h5
    refine g_iconst (v := 1) C (tdec DX8_clearsHere 10 rfl) (by decide) rfl ?_
    have hr9 := o_some hF
    subst hr9
    exact g_iret C rfl rfl (tdec DX8_clearsHere 11 rfl)
def FX8_writesHere (x0 : MS) (p1 : Int32) : Option (Int32 × MS) :=
  (ald 2 (MS_at x0) p1).bind fun r1 =>
  (FX8_isWhole x0 r1 19).bind fun r3 =>
  if r3 = 0 then
    some (1, x0)
  else
    (FX8_number x0 (r1 + 1) 2).bind fun r6 =>
    if (lg_cmp r6 512) < 0 then
      (ast 2 (MS_at x0) p1 (r1 + 19)).bind fun g9 =>
      (FX8_number (MS_setat x0 g9) (r1 + 1) 2).bind fun r11 =>
      (FX8_number (MS_setat x0 g9) (r1 + 3) 8).bind fun r13 =>
      (FX8_writes (MS_setat x0 g9) p1 1 ((r11 : Int64).toInt32) r13).bind fun (r15, s16) =>
      some (r15, s16)
    else
      some (1, x0)
def rX8_writesHere : Room := { frames := 3, cells := 0, slots := 0, locals := 80 }
set_option maxHeartbeats 4000000 in
set_option maxRecDepth 100000 in
theorem c_X8_writesHere (l : Launch) (D : va_G) (cB cI cJ cZ : ClassId) (x_0 x_1 x_2 x_3 x_4 x_5 x_6 x_7 x_8 x_9 x_10 x_11 x_12 x_13 x_14 x_15 x_16 x_17 x_18 x_19 : Nat) {x0 : MS} {p1 : Int32} {res : Int32 × MS} (hF : FX8_writesHere x0 p1 = some res) : gMi l yX8_writesHere wsX8_writesHere rX8_writesHere D (gT cB cI cJ cZ) [.ref x_0, .int p1] (wM cB cI cJ cZ x_0 x_1 x_2 x_3 x_4 x_5 x_6 x_7 x_8 x_9 x_10 x_11 x_12 x_13 x_14 x_15 x_16 x_17 x_18 x_19 x0) res.1 (wM cB cI cJ cZ x_0 x_1 x_2 x_3 x_4 x_5 x_6 x_7 x_8 x_9 x_10 x_11 x_12 x_13 x_14 x_15 x_16 x_17 x_18 x_19 res.2) := by
  refine g_enter (own := RX8) (free := (fun sz => va_A (wM cB cI cJ cZ x_0 x_1 x_2 x_3 x_4 x_5 x_6 x_7 x_8 x_9 x_10 x_11 x_12 x_13 x_14 x_15 x_16 x_17 x_18 x_19 x0) sz)) (Qc := (fun sz => gQi D (wM cB cI cJ cZ x_0 x_1 x_2 x_3 x_4 x_5 x_6 x_7 x_8 x_9 x_10 x_11 x_12 x_13 x_14 x_15 x_16 x_17 x_18 x_19 x0) sz res.1 (wM cB cI cJ cZ x_0 x_1 x_2 x_3 x_4 x_5 x_6 x_7 x_8 x_9 x_10 x_11 x_12 x_13 x_14 x_15 x_16 x_17 x_18 x_19 res.2))) (fun sz => va_A (wM cB cI cJ cZ x_0 x_1 x_2 x_3 x_4 x_5 x_6 x_7 x_8 x_9 x_10 x_11 x_12 x_13 x_14 x_15 x_16 x_17 x_18 x_19 x0) sz) (fun sz => Or.inr rfl) rfl (by decide) rfl (Nat.le_of_ble_eq_true rfl) rfl ?_
  intro p e s m args below meth c C
  unfold FX8_writesHere at hF
  refine g_aload_n (z := 0) C (tdec DX8_writesHere 0 rfl) rfl rfl rfl ?_
  refine g_getf (C' := RX8) (T := TX8) (N := 27) (v := .ref x_14) C 0 14 (gIn iw_X8) rfl rfl (by decide) (gMem fl_X8_51) rfl rfl (tdec DX8_writesHere 1 rfl) rfl ?_
  refine g_iload_n (z := 1) C (tdec DX8_writesHere 2 rfl) rfl rfl rfl ?_
  obtain ⟨r1, y2, hF⟩ := o_bind hF
  refine g_iald C 14 1 rfl rfl y2 (tdec DX8_writesHere 3 rfl) rfl ?_
  refine g_istore_n (L' := [(2, .int r1), (0, .ref x_0), (1, .int p1)]) C (tdec DX8_writesHere 4 rfl) rfl (by decide) rfl rfl ?_
  refine g_aload_n (z := 1) C (tdec DX8_writesHere 5 rfl) rfl rfl rfl ?_
  refine g_iload_n (z := 0) C (tdec DX8_writesHere 6 rfl) rfl rfl rfl ?_
  refine g_bipush (v := 19) C (tdec DX8_writesHere 7 rfl) (by decide) rfl ?_
  obtain ⟨r3, y4, hF⟩ := o_bind hF
  refine g_callViRS (q0 := 0) (S := [wM cB cI cJ cZ x_0 x_1 x_2 x_3 x_4 x_5 x_6 x_7 x_8 x_9 x_10 x_11 x_12 x_13 x_14 x_15 x_16 x_17 x_18 x_19 x0]) (S0 := [wM cB cI cJ cZ x_0 x_1 x_2 x_3 x_4 x_5 x_6 x_7 x_8 x_9 x_10 x_11 x_12 x_13 x_14 x_15 x_16 x_17 x_18 x_19 x0]) C (c_X8_isWhole l D cB cI cJ cZ x_0 x_1 x_2 x_3 x_4 x_5 x_6 x_7 x_8 x_9 x_10 x_11 x_12 x_13 x_14 x_15 x_16 x_17 x_18 x_19 y4) rfl rfl (gIV ml_X8_189 im_X8_isWhole sl_X8_isWhole in_X8 cd_X8_isWhole) rfl eX8_isWhole rfl ⟨rfl, rfl⟩ ⟨Nat.le_of_ble_eq_true rfl, Nat.le_of_ble_eq_true rfl⟩ rfl rfl rfl [0] rfl rfl rfl (Nat.le_of_ble_eq_true rfl) (tdec DX8_writesHere 8 rfl) rfl ?_
  refine g_if_eq (pt := 32) C (tdec DX8_writesHere 9 rfl) (by decide) rfl (fun h5 => ?_) (fun h5 => ?_)
  · have hF := o_ifp hF h5
    refine g_iconst (v := 1) C (tdec DX8_writesHere 19 rfl) (by decide) rfl ?_
    have hr9 := o_some hF
    subst hr9
    exact g_iret C rfl rfl (tdec DX8_writesHere 20 rfl)
  · have hF := o_ifn hF h5
    refine g_aload_n (z := 1) C (tdec DX8_writesHere 10 rfl) rfl rfl rfl ?_
    refine g_iload_n (z := 0) C (tdec DX8_writesHere 11 rfl) rfl rfl rfl ?_
    refine g_iconst (v := 1) C (tdec DX8_writesHere 12 rfl) (by decide) rfl ?_
    refine g_iadd C (tdec DX8_writesHere 13 rfl) rfl ?_
    refine g_iconst (v := 2) C (tdec DX8_writesHere 14 rfl) (by decide) rfl ?_
    obtain ⟨r6, y7, hF⟩ := o_bind hF
    refine g_callVlRS (q0 := 0) (S := [wM cB cI cJ cZ x_0 x_1 x_2 x_3 x_4 x_5 x_6 x_7 x_8 x_9 x_10 x_11 x_12 x_13 x_14 x_15 x_16 x_17 x_18 x_19 x0]) (S0 := [wM cB cI cJ cZ x_0 x_1 x_2 x_3 x_4 x_5 x_6 x_7 x_8 x_9 x_10 x_11 x_12 x_13 x_14 x_15 x_16 x_17 x_18 x_19 x0]) C (c_X8_number l D cB cI cJ cZ x_0 x_1 x_2 x_3 x_4 x_5 x_6 x_7 x_8 x_9 x_10 x_11 x_12 x_13 x_14 x_15 x_16 x_17 x_18 x_19 y7) rfl rfl (gIV ml_X8_186 im_X8_number sl_X8_number in_X8 cd_X8_number) rfl eX8_number rfl ⟨rfl, rfl⟩ ⟨Nat.le_of_ble_eq_true rfl, Nat.le_of_ble_eq_true rfl⟩ rfl rfl rfl [0] rfl rfl rfl (Nat.le_of_ble_eq_true rfl) (tdec DX8_writesHere 15 rfl) rfl ?_
    refine g_ldc2 C (gMem kl_X8_192) (tdec DX8_writesHere 16 rfl) rfl ?_
    refine g_lcmp C (tdec DX8_writesHere 17 rfl) rfl ?_
    refine g_if_lt (pt := 34) C (tdec DX8_writesHere 18 rfl) (by decide) rfl (fun h8 => ?_) (fun h8 => ?_)
    · have hF := o_ifp hF h8
      refine g_aload_n (z := 1) C (tdec DX8_writesHere 21 rfl) rfl rfl rfl ?_
      refine g_getf (C' := RX8) (T := TX8) (N := 27) (v := .ref x_14) C 0 14 (gIn iw_X8) rfl rfl (by decide) (gMem fl_X8_51) rfl rfl (tdec DX8_writesHere 22 rfl) rfl ?_
      refine g_iload_n (z := 2) C (tdec DX8_writesHere 23 rfl) rfl rfl rfl ?_
      refine g_iload_n (z := 0) C (tdec DX8_writesHere 24 rfl) rfl rfl rfl ?_
      refine g_bipush (v := 19) C (tdec DX8_writesHere 25 rfl) (by decide) rfl ?_
      refine g_iadd C (tdec DX8_writesHere 26 rfl) rfl ?_
      obtain ⟨g9, y10, hF⟩ := o_bind hF
      refine g_iast (ws' := wM cB cI cJ cZ x_0 x_1 x_2 x_3 x_4 x_5 x_6 x_7 x_8 x_9 x_10 x_11 x_12 x_13 x_14 x_15 x_16 x_17 x_18 x_19 (MS_setat x0 g9)) C 14 1 rfl rfl y10 rfl (tdec DX8_writesHere 27 rfl) rfl ?_
      refine g_aload_n (z := 1) C (tdec DX8_writesHere 28 rfl) rfl rfl rfl ?_
      refine g_iload_n (z := 2) C (tdec DX8_writesHere 29 rfl) rfl rfl rfl ?_
      refine g_iconst (v := 1) C (tdec DX8_writesHere 30 rfl) (by decide) rfl ?_
      refine g_aload_n (z := 1) C (tdec DX8_writesHere 31 rfl) rfl rfl rfl ?_
      refine g_iload_n (z := 0) C (tdec DX8_writesHere 32 rfl) rfl rfl rfl ?_
      refine g_iconst (v := 1) C (tdec DX8_writesHere 33 rfl) (by decide) rfl ?_
      refine g_iadd C (tdec DX8_writesHere 34 rfl) rfl ?_
      refine g_iconst (v := 2) C (tdec DX8_writesHere 35 rfl) (by decide) rfl ?_
      obtain ⟨r11, y12, hF⟩ := o_bind hF
      refine g_callVlRS (q0 := 0) (S := [wM cB cI cJ cZ x_0 x_1 x_2 x_3 x_4 x_5 x_6 x_7 x_8 x_9 x_10 x_11 x_12 x_13 x_14 x_15 x_16 x_17 x_18 x_19 (MS_setat x0 g9)]) (S0 := [wM cB cI cJ cZ x_0 x_1 x_2 x_3 x_4 x_5 x_6 x_7 x_8 x_9 x_10 x_11 x_12 x_13 x_14 x_15 x_16 x_17 x_18 x_19 (MS_setat x0 g9)]) C (c_X8_number l D cB cI cJ cZ x_0 x_1 x_2 x_3 x_4 x_5 x_6 x_7 x_8 x_9 x_10 x_11 x_12 x_13 x_14 x_15 x_16 x_17 x_18 x_19 y12) rfl rfl (gIV ml_X8_186 im_X8_number sl_X8_number in_X8 cd_X8_number) rfl eX8_number rfl ⟨rfl, rfl⟩ ⟨Nat.le_of_ble_eq_true rfl, Nat.le_of_ble_eq_true rfl⟩ rfl rfl rfl [0] rfl rfl rfl (Nat.le_of_ble_eq_true rfl) (tdec DX8_writesHere 36 rfl) rfl ?_
      refine g_l2i C (tdec DX8_writesHere 37 rfl) rfl ?_
      refine g_aload_n (z := 1) C (tdec DX8_writesHere 38 rfl) rfl rfl rfl ?_
      refine g_iload_n (z := 0) C (tdec DX8_writesHere 39 rfl) rfl rfl rfl ?_
      refine g_iconst (v := 3) C (tdec DX8_writesHere 40 rfl) (by decide) rfl ?_
      refine g_iadd C (tdec DX8_writesHere 41 rfl) rfl ?_
      refine g_bipush (v := 8) C (tdec DX8_writesHere 42 rfl) (by decide) rfl ?_
      obtain ⟨r13, y14, hF⟩ := o_bind hF
      refine g_callVlRS (q0 := 0) (S := [wM cB cI cJ cZ x_0 x_1 x_2 x_3 x_4 x_5 x_6 x_7 x_8 x_9 x_10 x_11 x_12 x_13 x_14 x_15 x_16 x_17 x_18 x_19 (MS_setat x0 g9)]) (S0 := [wM cB cI cJ cZ x_0 x_1 x_2 x_3 x_4 x_5 x_6 x_7 x_8 x_9 x_10 x_11 x_12 x_13 x_14 x_15 x_16 x_17 x_18 x_19 (MS_setat x0 g9)]) C (c_X8_number l D cB cI cJ cZ x_0 x_1 x_2 x_3 x_4 x_5 x_6 x_7 x_8 x_9 x_10 x_11 x_12 x_13 x_14 x_15 x_16 x_17 x_18 x_19 y14) rfl rfl (gIV ml_X8_186 im_X8_number sl_X8_number in_X8 cd_X8_number) rfl eX8_number rfl ⟨rfl, rfl⟩ ⟨Nat.le_of_ble_eq_true rfl, Nat.le_of_ble_eq_true rfl⟩ rfl rfl rfl [0] rfl rfl rfl (Nat.le_of_ble_eq_true rfl) (tdec DX8_writesHere 43 rfl) rfl ?_
      obtain ⟨⟨r15, s16⟩, y17, hF⟩ := o_bind hF
      refine g_callViMS (q0 := 0) (W' := wM cB cI cJ cZ x_0 x_1 x_2 x_3 x_4 x_5 x_6 x_7 x_8 x_9 x_10 x_11 x_12 x_13 x_14 x_15 x_16 x_17 x_18 x_19 s16) (S := [wM cB cI cJ cZ x_0 x_1 x_2 x_3 x_4 x_5 x_6 x_7 x_8 x_9 x_10 x_11 x_12 x_13 x_14 x_15 x_16 x_17 x_18 x_19 (MS_setat x0 g9)]) (S0 := [wM cB cI cJ cZ x_0 x_1 x_2 x_3 x_4 x_5 x_6 x_7 x_8 x_9 x_10 x_11 x_12 x_13 x_14 x_15 x_16 x_17 x_18 x_19 (MS_setat x0 g9)]) (S1 := [wM cB cI cJ cZ x_0 x_1 x_2 x_3 x_4 x_5 x_6 x_7 x_8 x_9 x_10 x_11 x_12 x_13 x_14 x_15 x_16 x_17 x_18 x_19 s16]) (S' := [wM cB cI cJ cZ x_0 x_1 x_2 x_3 x_4 x_5 x_6 x_7 x_8 x_9 x_10 x_11 x_12 x_13 x_14 x_15 x_16 x_17 x_18 x_19 s16]) C (c_X8_writes l D cB cI cJ cZ x_0 x_1 x_2 x_3 x_4 x_5 x_6 x_7 x_8 x_9 x_10 x_11 x_12 x_13 x_14 x_15 x_16 x_17 x_18 x_19 y17) rfl rfl (gIV ml_X8_131 im_X8_writes sl_X8_writes in_X8 cd_X8_writes) rfl eX8_writes rfl ⟨rfl, rfl⟩ ⟨Nat.le_of_ble_eq_true rfl, Nat.le_of_ble_eq_true rfl⟩ rfl rfl rfl [0] rfl rfl rfl rfl (gA_cons aM gA_nil) rfl rfl (Nat.le_of_ble_eq_true rfl) (tdec DX8_writesHere 44 rfl) rfl ?_
      have hr9 := o_some hF
      subst hr9
      exact g_iret C rfl rfl (tdec DX8_writesHere 45 rfl)
    · have hF := o_ifn hF h8
      refine g_iconst (v := 1) C (tdec DX8_writesHere 19 rfl) (by decide) rfl ?_
      have hr9 := o_some hF
      subst hr9
      exact g_iret C rfl rfl (tdec DX8_writesHere 20 rfl)
