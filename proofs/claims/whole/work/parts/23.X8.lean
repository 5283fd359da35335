/-! PART 23.X8: walks, printed by wip/whole/walk.py -/
def FX8_send_L286 (v1 : Int32) (v2 : Int32) (v3 : Int32) (v4 : Int32) (v5 : Int32) (v6 : Int32) (v7 : Int32) (v8 : Int32) (v9 : Int32) (v10 : Int32) (k9 : MS → Int32 → Option (Int32 × MS)) : Nat → MS → Int32 → Option (Int32 × MS)
  | 0, _, _ => none
  | n9 + 1, x, v11 =>
    if 8 ≤ v11 then
      k9 x v11
    else
      (FX8_told x v1 v10).bind fun r43 =>
      (FX8_brings x v1 ((8 * r43) + v11) (((64 * v7) + (8 * v9)) + v11) 1 v4).bind fun (r45, s46) =>
      FX8_send_L286 v1 v2 v3 v4 v5 v6 v7 v8 v9 v10 k9 n9 s46 (v11 + 1)
def FX8_send_L233 (v1 : Int32) (v2 : Int32) (v3 : Int32) (v4 : Int32) (v5 : Int32) (v6 : Int32) (v7 : Int32) (v8 : Int32) (k9 : MS → Int32 → Option (Int32 × MS)) : Nat → MS → Int32 → Option (Int32 × MS)
  | 0, _, _ => none
  | n9 + 1, x, v9 =>
    if 8 ≤ v9 then
      k9 x v9
    else
      (FX8_told x v1 v8).bind fun r36 =>
      (FX8_brings x v1 ((8 * r36) + v9) ((64 * v7) + (8 * v9)) 8 v4).bind fun (r38, s39) =>
      if r38 = 0 then
        FX8_send_L233 v1 v2 v3 v4 v5 v6 v7 v8 k9 n9 s39 (v9 + 1)
      else
        FX8_send_L286 v1 v2 v3 v4 v5 v6 v7 v8 v9 ((8 * r36) + v9) (fun xq48 w11_48 =>
          FX8_send_L233 v1 v2 v3 v4 v5 v6 v7 v8 k9 n9 xq48 (v9 + 1)) 100000 s39 0
def FX8_send_L181 (v1 : Int32) (v2 : Int32) (v3 : Int32) (v4 : Int32) (v5 : Int32) (v6 : Int32) (k9 : MS → Int32 → Option (Int32 × MS)) : Nat → MS → Int32 → Option (Int32 × MS)
  | 0, _, _ => none
  | n9 + 1, x, v7 =>
    if 8 ≤ v7 then
      k9 x v7
    else
      if v6 = 0 then
        k9 x v7
      else
        (FX8_told x v1 v5).bind fun r29 =>
        (FX8_brings x v1 ((8 * r29) + v7) (64 * v7) 64 v4).bind fun (r31, s32) =>
        if r31 = 0 then
          FX8_send_L181 v1 v2 v3 v4 v5 v6 k9 n9 s32 (v7 + 1)
        else
          FX8_send_L233 v1 v2 v3 v4 v5 v6 v7 ((8 * r29) + v7) (fun xq49 w9_49 =>
            FX8_send_L181 v1 v2 v3 v4 v5 v6 k9 n9 xq49 (v7 + 1)) 100000 s32 0
def FX8_send (x0 : MS) (p1 : Int32) (p2 : Int32) (p3 : Int32) : Option (Int32 × MS) :=
  (FX8_isVolume p1).bind fun r1 =>
  if r1 = 0 then
    if 1 ≤ 0 then
      if p2 = (-1) then
        (FX8_put (MS_setsn (MS_setcl (MS_setwr (MS_setrecs (MS_setrf (MS_setlen (MS_setthr x0 1) 0) 0) 0) 0) 0) 0) 1 1).bind fun s242 =>
        (FX8_put s242 0 8).bind fun s244 =>
        (ald 40 (MS_sm s244) ((20 * p1) + p3)).bind fun r246 =>
        (FX8_put s244 r246 8).bind fun s248 =>
        (FX8_ends s248).bind fun s250 =>
        (FX8_brings s250 p1 ((-3) - p3) 0 512 0).bind fun (r252, s253) =>
        FX8_send_L181 p1 p2 p3 0 ((-3) - p3) r252 (fun xq255 w7_255 =>
          (FX8_put xq255 4 1).bind fun s256 =>
          (FX8_put s256 (((MS_recs s256) : Int32).toInt64) 4).bind fun s258 =>
          (FX8_ends s258).bind fun s260 =>
          some ((MS_len s260), s260)) 100000 s253 0
      else
        (ald 40 (MS_sg x0) ((20 * p1) + p2)).bind fun r218 =>
        (FX8_put (MS_setsn (MS_setcl (MS_setwr (MS_setrecs (MS_setrf (MS_setlen (MS_setthr x0 1) 0) 0) 0) 0) 0) 0) 1 1).bind fun s220 =>
        (ald 40 (MS_sm s220) ((20 * p1) + p2)).bind fun r222 =>
        (FX8_put s220 r222 8).bind fun s224 =>
        (ald 40 (MS_sm s224) ((20 * p1) + p3)).bind fun r226 =>
        (FX8_put s224 r226 8).bind fun s228 =>
        (FX8_ends s228).bind fun s230 =>
        (FX8_brings s230 p1 ((-3) - p3) 0 512 r218).bind fun (r232, s233) =>
        FX8_send_L181 p1 p2 p3 r218 ((-3) - p3) r232 (fun xq235 w7_235 =>
          (FX8_put xq235 4 1).bind fun s236 =>
          (FX8_put s236 (((MS_recs s236) : Int32).toInt64) 4).bind fun s238 =>
          (FX8_ends s238).bind fun s240 =>
          some ((MS_len s240), s240)) 100000 s233 0
    else
      some (0, (MS_setthr x0 1))
  else
    (FX8_isSnap x0 p1 p3).bind fun r4 =>
    if r4 = 0 then
      if 2 ≤ 0 then
        if p2 = (-1) then
          (FX8_put (MS_setsn (MS_setcl (MS_setwr (MS_setrecs (MS_setrf (MS_setlen (MS_setthr x0 2) 0) 0) 0) 0) 0) 0) 1 1).bind fun s196 =>
          (FX8_put s196 0 8).bind fun s198 =>
          (ald 40 (MS_sm s198) ((20 * p1) + p3)).bind fun r200 =>
          (FX8_put s198 r200 8).bind fun s202 =>
          (FX8_ends s202).bind fun s204 =>
          (FX8_brings s204 p1 ((-3) - p3) 0 512 0).bind fun (r206, s207) =>
          FX8_send_L181 p1 p2 p3 0 ((-3) - p3) r206 (fun xq209 w7_209 =>
            (FX8_put xq209 4 1).bind fun s210 =>
            (FX8_put s210 (((MS_recs s210) : Int32).toInt64) 4).bind fun s212 =>
            (FX8_ends s212).bind fun s214 =>
            some ((MS_len s214), s214)) 100000 s207 0
        else
          (ald 40 (MS_sg x0) ((20 * p1) + p2)).bind fun r172 =>
          (FX8_put (MS_setsn (MS_setcl (MS_setwr (MS_setrecs (MS_setrf (MS_setlen (MS_setthr x0 2) 0) 0) 0) 0) 0) 0) 1 1).bind fun s174 =>
          (ald 40 (MS_sm s174) ((20 * p1) + p2)).bind fun r176 =>
          (FX8_put s174 r176 8).bind fun s178 =>
          (ald 40 (MS_sm s178) ((20 * p1) + p3)).bind fun r180 =>
          (FX8_put s178 r180 8).bind fun s182 =>
          (FX8_ends s182).bind fun s184 =>
          (FX8_brings s184 p1 ((-3) - p3) 0 512 r172).bind fun (r186, s187) =>
          FX8_send_L181 p1 p2 p3 r172 ((-3) - p3) r186 (fun xq189 w7_189 =>
            (FX8_put xq189 4 1).bind fun s190 =>
            (FX8_put s190 (((MS_recs s190) : Int32).toInt64) 4).bind fun s192 =>
            (FX8_ends s192).bind fun s194 =>
            some ((MS_len s194), s194)) 100000 s187 0
      else
        some (0, (MS_setthr x0 2))
    else
      if p2 < (-1) then
        if 3 ≤ 0 then
          if p2 = (-1) then
            (FX8_put (MS_setsn (MS_setcl (MS_setwr (MS_setrecs (MS_setrf (MS_setlen (MS_setthr x0 3) 0) 0) 0) 0) 0) 0) 1 1).bind fun s57 =>
            (FX8_put s57 0 8).bind fun s59 =>
            (ald 40 (MS_sm s59) ((20 * p1) + p3)).bind fun r61 =>
            (FX8_put s59 r61 8).bind fun s63 =>
            (FX8_ends s63).bind fun s65 =>
            (FX8_brings s65 p1 ((-3) - p3) 0 512 0).bind fun (r67, s68) =>
            FX8_send_L181 p1 p2 p3 0 ((-3) - p3) r67 (fun xq70 w7_70 =>
              (FX8_put xq70 4 1).bind fun s71 =>
              (FX8_put s71 (((MS_recs s71) : Int32).toInt64) 4).bind fun s73 =>
              (FX8_ends s73).bind fun s75 =>
              some ((MS_len s75), s75)) 100000 s68 0
          else
            (ald 40 (MS_sg x0) ((20 * p1) + p2)).bind fun r10 =>
            (FX8_put (MS_setsn (MS_setcl (MS_setwr (MS_setrecs (MS_setrf (MS_setlen (MS_setthr x0 3) 0) 0) 0) 0) 0) 0) 1 1).bind fun s12 =>
            (ald 40 (MS_sm s12) ((20 * p1) + p2)).bind fun r14 =>
            (FX8_put s12 r14 8).bind fun s16 =>
            (ald 40 (MS_sm s16) ((20 * p1) + p3)).bind fun r18 =>
            (FX8_put s16 r18 8).bind fun s20 =>
            (FX8_ends s20).bind fun s22 =>
            (FX8_brings s22 p1 ((-3) - p3) 0 512 r10).bind fun (r24, s25) =>
            FX8_send_L181 p1 p2 p3 r10 ((-3) - p3) r24 (fun xq50 w7_50 =>
              (FX8_put xq50 4 1).bind fun s51 =>
              (FX8_put s51 (((MS_recs s51) : Int32).toInt64) 4).bind fun s53 =>
              (FX8_ends s53).bind fun s55 =>
              some ((MS_len s55), s55)) 100000 s25 0
        else
          some (0, (MS_setthr x0 3))
      else
        if p2 < p3 then
          if 0 ≤ 0 then
            if p2 = (-1) then
              (FX8_put (MS_setsn (MS_setcl (MS_setwr (MS_setrecs (MS_setrf (MS_setlen (MS_setthr x0 0) 0) 0) 0) 0) 0) 0) 1 1).bind fun s104 =>
              (FX8_put s104 0 8).bind fun s106 =>
              (ald 40 (MS_sm s106) ((20 * p1) + p3)).bind fun r108 =>
              (FX8_put s106 r108 8).bind fun s110 =>
              (FX8_ends s110).bind fun s112 =>
              (FX8_brings s112 p1 ((-3) - p3) 0 512 0).bind fun (r114, s115) =>
              FX8_send_L181 p1 p2 p3 0 ((-3) - p3) r114 (fun xq117 w7_117 =>
                (FX8_put xq117 4 1).bind fun s118 =>
                (FX8_put s118 (((MS_recs s118) : Int32).toInt64) 4).bind fun s120 =>
                (FX8_ends s120).bind fun s122 =>
                some ((MS_len s122), s122)) 100000 s115 0
            else
              (ald 40 (MS_sg x0) ((20 * p1) + p2)).bind fun r80 =>
              (FX8_put (MS_setsn (MS_setcl (MS_setwr (MS_setrecs (MS_setrf (MS_setlen (MS_setthr x0 0) 0) 0) 0) 0) 0) 0) 1 1).bind fun s82 =>
              (ald 40 (MS_sm s82) ((20 * p1) + p2)).bind fun r84 =>
              (FX8_put s82 r84 8).bind fun s86 =>
              (ald 40 (MS_sm s86) ((20 * p1) + p3)).bind fun r88 =>
              (FX8_put s86 r88 8).bind fun s90 =>
              (FX8_ends s90).bind fun s92 =>
              (FX8_brings s92 p1 ((-3) - p3) 0 512 r80).bind fun (r94, s95) =>
              FX8_send_L181 p1 p2 p3 r80 ((-3) - p3) r94 (fun xq97 w7_97 =>
                (FX8_put xq97 4 1).bind fun s98 =>
                (FX8_put s98 (((MS_recs s98) : Int32).toInt64) 4).bind fun s100 =>
                (FX8_ends s100).bind fun s102 =>
                some ((MS_len s102), s102)) 100000 s95 0
          else
            some (0, (MS_setthr x0 0))
        else
          if 3 ≤ 0 then
            if p2 = (-1) then
              (FX8_put (MS_setsn (MS_setcl (MS_setwr (MS_setrecs (MS_setrf (MS_setlen (MS_setthr x0 3) 0) 0) 0) 0) 0) 0) 1 1).bind fun s150 =>
              (FX8_put s150 0 8).bind fun s152 =>
              (ald 40 (MS_sm s152) ((20 * p1) + p3)).bind fun r154 =>
              (FX8_put s152 r154 8).bind fun s156 =>
              (FX8_ends s156).bind fun s158 =>
              (FX8_brings s158 p1 ((-3) - p3) 0 512 0).bind fun (r160, s161) =>
              FX8_send_L181 p1 p2 p3 0 ((-3) - p3) r160 (fun xq163 w7_163 =>
                (FX8_put xq163 4 1).bind fun s164 =>
                (FX8_put s164 (((MS_recs s164) : Int32).toInt64) 4).bind fun s166 =>
                (FX8_ends s166).bind fun s168 =>
                some ((MS_len s168), s168)) 100000 s161 0
            else
              (ald 40 (MS_sg x0) ((20 * p1) + p2)).bind fun r126 =>
              (FX8_put (MS_setsn (MS_setcl (MS_setwr (MS_setrecs (MS_setrf (MS_setlen (MS_setthr x0 3) 0) 0) 0) 0) 0) 0) 1 1).bind fun s128 =>
              (ald 40 (MS_sm s128) ((20 * p1) + p2)).bind fun r130 =>
              (FX8_put s128 r130 8).bind fun s132 =>
              (ald 40 (MS_sm s132) ((20 * p1) + p3)).bind fun r134 =>
              (FX8_put s132 r134 8).bind fun s136 =>
              (FX8_ends s136).bind fun s138 =>
              (FX8_brings s138 p1 ((-3) - p3) 0 512 r126).bind fun (r140, s141) =>
              FX8_send_L181 p1 p2 p3 r126 ((-3) - p3) r140 (fun xq143 w7_143 =>
                (FX8_put xq143 4 1).bind fun s144 =>
                (FX8_put s144 (((MS_recs s144) : Int32).toInt64) 4).bind fun s146 =>
                (FX8_ends s146).bind fun s148 =>
                some ((MS_len s148), s148)) 100000 s141 0
          else
            some (0, (MS_setthr x0 3))
def rX8_send : Room := { frames := 3, cells := 0, slots := 0, locals := 71 }
set_option maxHeartbeats 4000000 in
set_option maxRecDepth 100000 in
theorem c_FX8_send_L286 {p : Program} {l : Launch} {e : Env} {s : State} {m : MethodId} {args : Array Value} {below : List Frame} {meth : Method} {c : Code} {D : va_G} {cB cI cJ cZ : ClassId} {x_0 x_1 x_2 x_3 x_4 x_5 x_6 x_7 x_8 x_9 x_10 x_11 x_12 x_13 x_14 x_15 x_16 x_17 x_18 x_19 : Nat} {x0 : MS} {res : Int32 × MS} (C : gC p s m args meth c cX8_send 12 RX8 wsX8_send D (gT cB cI cJ cZ) (some .int) (va_A (wM cB cI cJ cZ x_0 x_1 x_2 x_3 x_4 x_5 x_6 x_7 x_8 x_9 x_10 x_11 x_12 x_13 x_14 x_15 x_16 x_17 x_18 x_19 x0) s.heap.size)) {v1 : Int32} {v2 : Int32} {v3 : Int32} {v4 : Int32} {v5 : Int32} {v6 : Int32} {v7 : Int32} {v8 : Int32} {v9 : Int32} {v10 : Int32} {k9 : MS → Int32 → Option (Int32 × MS)} (hk9 : ∀ (x : MS) (v11 : Int32), k9 x v11 = some res → gG p l e (headSpec wsX8_send rX8_send).room s m args below meth c 0 0 D (va_A (wM cB cI cJ cZ x_0 x_1 x_2 x_3 x_4 x_5 x_6 x_7 x_8 x_9 x_10 x_11 x_12 x_13 x_14 x_15 x_16 x_17 x_18 x_19 x0) s.heap.size) (va_A (wM cB cI cJ cZ x_0 x_1 x_2 x_3 x_4 x_5 x_6 x_7 x_8 x_9 x_10 x_11 x_12 x_13 x_14 x_15 x_16 x_17 x_18 x_19 x0) s.heap.size) 12 (MQ below (gQi D (wM cB cI cJ cZ x_0 x_1 x_2 x_3 x_4 x_5 x_6 x_7 x_8 x_9 x_10 x_11 x_12 x_13 x_14 x_15 x_16 x_17 x_18 x_19 x0) s.heap.size res.1 (wM cB cI cJ cZ x_0 x_1 x_2 x_3 x_4 x_5 x_6 x_7 x_8 x_9 x_10 x_11 x_12 x_13 x_14 x_15 x_16 x_17 x_18 x_19 res.2)) args s 0 0 (va_A (wM cB cI cJ cZ x_0 x_1 x_2 x_3 x_4 x_5 x_6 x_7 x_8 x_9 x_10 x_11 x_12 x_13 x_14 x_15 x_16 x_17 x_18 x_19 x0) s.heap.size)) (wM cB cI cJ cZ x_0 x_1 x_2 x_3 x_4 x_5 x_6 x_7 x_8 x_9 x_10 x_11 x_12 x_13 x_14 x_15 x_16 x_17 x_18 x_19 x) 335 [(0, .ref x_0), (1, .int v1), (2, .int v2), (3, .int v3), (4, .int v4), (5, .int v5), (6, .int v6), (7, .int v7), (8, .int v8), (9, .int v9), (10, .int v10), (11, .int v11)] []) :
    ∀ (n9 : Nat) (x : MS) (v11 : Int32), FX8_send_L286 v1 v2 v3 v4 v5 v6 v7 v8 v9 v10 k9 n9 x v11 = some res → gG p l e (headSpec wsX8_send rX8_send).room s m args below meth c 0 0 D (va_A (wM cB cI cJ cZ x_0 x_1 x_2 x_3 x_4 x_5 x_6 x_7 x_8 x_9 x_10 x_11 x_12 x_13 x_14 x_15 x_16 x_17 x_18 x_19 x0) s.heap.size) (va_A (wM cB cI cJ cZ x_0 x_1 x_2 x_3 x_4 x_5 x_6 x_7 x_8 x_9 x_10 x_11 x_12 x_13 x_14 x_15 x_16 x_17 x_18 x_19 x0) s.heap.size) 12 (MQ below (gQi D (wM cB cI cJ cZ x_0 x_1 x_2 x_3 x_4 x_5 x_6 x_7 x_8 x_9 x_10 x_11 x_12 x_13 x_14 x_15 x_16 x_17 x_18 x_19 x0) s.heap.size res.1 (wM cB cI cJ cZ x_0 x_1 x_2 x_3 x_4 x_5 x_6 x_7 x_8 x_9 x_10 x_11 x_12 x_13 x_14 x_15 x_16 x_17 x_18 x_19 res.2)) args s 0 0 (va_A (wM cB cI cJ cZ x_0 x_1 x_2 x_3 x_4 x_5 x_6 x_7 x_8 x_9 x_10 x_11 x_12 x_13 x_14 x_15 x_16 x_17 x_18 x_19 x0) s.heap.size)) (wM cB cI cJ cZ x_0 x_1 x_2 x_3 x_4 x_5 x_6 x_7 x_8 x_9 x_10 x_11 x_12 x_13 x_14 x_15 x_16 x_17 x_18 x_19 x) 286 [(0, .ref x_0), (1, .int v1), (2, .int v2), (3, .int v3), (4, .int v4), (5, .int v5), (6, .int v6), (7, .int v7), (8, .int v8), (9, .int v9), (10, .int v10), (11, .int v11)] [] := by
  intro n9
  induction n9 with
  | zero =>
    intro x v11 hF
    exact absurd hF (by simp [FX8_send_L286])
  | succ n9 ih9 =>
    intro x v11 hF
    rw [FX8_send_L286] at hF
    refine g_iload (z := 11) C (tdec DX8_send 163 rfl) rfl rfl ?_
    refine g_bipush (v := 8) C (tdec DX8_send 164 rfl) (by decide) rfl ?_
    refine g_icmp_ge (pt := 335) C (tdec DX8_send 165 rfl) (by decide) rfl (fun h42 => ?_) (fun h42 => ?_)
    · have hF := o_ifp hF h42
      refine g_sub (L' := [(0, .ref x_0), (1, .int v1), (2, .int v2), (3, .int v3), (4, .int v4), (5, .int v5), (6, .int v6), (7, .int v7), (8, .int v8), (9, .int v9), (10, .int v10), (11, .int v11)]) [0, 1, 2, 3, 4, 5, 6, 7, 8, 9, 10, 11] rfl ?_
      exact hk9 _ _ hF
    · have hF := o_ifn hF h42
      refine g_aload_n (z := 0) C (tdec DX8_send 166 rfl) rfl rfl rfl ?_
      refine g_iload_n (z := 1) C (tdec DX8_send 167 rfl) rfl rfl rfl ?_
      refine g_bipush (v := 8) C (tdec DX8_send 168 rfl) (by decide) rfl ?_
      refine g_aload_n (z := 0) C (tdec DX8_send 169 rfl) rfl rfl rfl ?_
      refine g_iload_n (z := 1) C (tdec DX8_send 170 rfl) rfl rfl rfl ?_
      refine g_iload (z := 10) C (tdec DX8_send 171 rfl) rfl rfl ?_
      obtain ⟨r43, y44, hF⟩ := o_bind hF
      refine g_callViRS (q0 := 0) (S := [wM cB cI cJ cZ x_0 x_1 x_2 x_3 x_4 x_5 x_6 x_7 x_8 x_9 x_10 x_11 x_12 x_13 x_14 x_15 x_16 x_17 x_18 x_19 x]) (S0 := [wM cB cI cJ cZ x_0 x_1 x_2 x_3 x_4 x_5 x_6 x_7 x_8 x_9 x_10 x_11 x_12 x_13 x_14 x_15 x_16 x_17 x_18 x_19 x]) C (c_X8_told l D cB cI cJ cZ x_0 x_1 x_2 x_3 x_4 x_5 x_6 x_7 x_8 x_9 x_10 x_11 x_12 x_13 x_14 x_15 x_16 x_17 x_18 x_19 y44) rfl rfl (gIV ml_X8_90 im_X8_told sl_X8_told in_X8 cd_X8_told) rfl eX8_told rfl ⟨rfl, rfl⟩ ⟨Nat.le_of_ble_eq_true rfl, Nat.le_of_ble_eq_true rfl⟩ rfl rfl rfl [0] rfl rfl rfl (Nat.le_of_ble_eq_true rfl) (tdec DX8_send 172 rfl) rfl ?_
      refine g_imul C (tdec DX8_send 173 rfl) rfl ?_
      refine g_iload (z := 11) C (tdec DX8_send 174 rfl) rfl rfl ?_
      refine g_iadd C (tdec DX8_send 175 rfl) rfl ?_
      refine g_bipush (v := 64) C (tdec DX8_send 176 rfl) (by decide) rfl ?_
      refine g_iload (z := 7) C (tdec DX8_send 177 rfl) rfl rfl ?_
      refine g_imul C (tdec DX8_send 178 rfl) rfl ?_
      refine g_bipush (v := 8) C (tdec DX8_send 179 rfl) (by decide) rfl ?_
      refine g_iload (z := 9) C (tdec DX8_send 180 rfl) rfl rfl ?_
      refine g_imul C (tdec DX8_send 181 rfl) rfl ?_
      refine g_iadd C (tdec DX8_send 182 rfl) rfl ?_
      refine g_iload (z := 11) C (tdec DX8_send 183 rfl) rfl rfl ?_
      refine g_iadd C (tdec DX8_send 184 rfl) rfl ?_
      refine g_iconst (v := 1) C (tdec DX8_send 185 rfl) (by decide) rfl ?_
      refine g_iload (z := 4) C (tdec DX8_send 186 rfl) rfl rfl ?_
      obtain ⟨⟨r45, s46⟩, y47, hF⟩ := o_bind hF
      refine g_callViMS (q0 := 0) (W' := wM cB cI cJ cZ x_0 x_1 x_2 x_3 x_4 x_5 x_6 x_7 x_8 x_9 x_10 x_11 x_12 x_13 x_14 x_15 x_16 x_17 x_18 x_19 s46) (S := [wM cB cI cJ cZ x_0 x_1 x_2 x_3 x_4 x_5 x_6 x_7 x_8 x_9 x_10 x_11 x_12 x_13 x_14 x_15 x_16 x_17 x_18 x_19 x]) (S0 := [wM cB cI cJ cZ x_0 x_1 x_2 x_3 x_4 x_5 x_6 x_7 x_8 x_9 x_10 x_11 x_12 x_13 x_14 x_15 x_16 x_17 x_18 x_19 x]) (S1 := [wM cB cI cJ cZ x_0 x_1 x_2 x_3 x_4 x_5 x_6 x_7 x_8 x_9 x_10 x_11 x_12 x_13 x_14 x_15 x_16 x_17 x_18 x_19 s46]) (S' := [wM cB cI cJ cZ x_0 x_1 x_2 x_3 x_4 x_5 x_6 x_7 x_8 x_9 x_10 x_11 x_12 x_13 x_14 x_15 x_16 x_17 x_18 x_19 s46]) C (c_X8_brings l D cB cI cJ cZ x_0 x_1 x_2 x_3 x_4 x_5 x_6 x_7 x_8 x_9 x_10 x_11 x_12 x_13 x_14 x_15 x_16 x_17 x_18 x_19 y47) rfl rfl (gIV ml_X8_180 im_X8_brings sl_X8_brings in_X8 cd_X8_brings) rfl eX8_brings rfl ⟨rfl, rfl⟩ ⟨Nat.le_of_ble_eq_true rfl, Nat.le_of_ble_eq_true rfl⟩ rfl rfl rfl [0] rfl rfl rfl rfl (gA_cons aM gA_nil) rfl rfl (Nat.le_of_ble_eq_true rfl) (tdec DX8_send 187 rfl) rfl ?_
      refine g_pop C (tdec DX8_send 188 rfl) rfl rfl ?_
      refine g_iinc (z := 11) (v := (v11 + 1)) (L' := [(11, .int (v11 + 1)), (0, .ref x_0), (1, .int v1), (2, .int v2), (3, .int v3), (4, .int v4), (5, .int v5), (6, .int v6), (7, .int v7), (8, .int v8), (9, .int v9), (10, .int v10)]) C (tdec DX8_send 189 rfl) rfl rfl (by decide) rfl rfl ?_
      refine g_goto (pt := 286) C (tdec DX8_send 190 rfl) (by decide) ?_
      refine g_sub (L' := [(0, .ref x_0), (1, .int v1), (2, .int v2), (3, .int v3), (4, .int v4), (5, .int v5), (6, .int v6), (7, .int v7), (8, .int v8), (9, .int v9), (10, .int v10), (11, .int (v11 + 1))]) [1, 2, 3, 4, 5, 6, 7, 8, 9, 10, 11, 0] rfl ?_
      exact ih9 _ _ hF
set_option maxHeartbeats 4000000 in
set_option maxRecDepth 100000 in
theorem c_FX8_send_L233 {p : Program} {l : Launch} {e : Env} {s : State} {m : MethodId} {args : Array Value} {below : List Frame} {meth : Method} {c : Code} {D : va_G} {cB cI cJ cZ : ClassId} {x_0 x_1 x_2 x_3 x_4 x_5 x_6 x_7 x_8 x_9 x_10 x_11 x_12 x_13 x_14 x_15 x_16 x_17 x_18 x_19 : Nat} {x0 : MS} {res : Int32 × MS} (C : gC p s m args meth c cX8_send 12 RX8 wsX8_send D (gT cB cI cJ cZ) (some .int) (va_A (wM cB cI cJ cZ x_0 x_1 x_2 x_3 x_4 x_5 x_6 x_7 x_8 x_9 x_10 x_11 x_12 x_13 x_14 x_15 x_16 x_17 x_18 x_19 x0) s.heap.size)) {v1 : Int32} {v2 : Int32} {v3 : Int32} {v4 : Int32} {v5 : Int32} {v6 : Int32} {v7 : Int32} {v8 : Int32} {k9 : MS → Int32 → Option (Int32 × MS)} (hk9 : ∀ (x : MS) (v9 : Int32), k9 x v9 = some res → gG p l e (headSpec wsX8_send rX8_send).room s m args below meth c 0 0 D (va_A (wM cB cI cJ cZ x_0 x_1 x_2 x_3 x_4 x_5 x_6 x_7 x_8 x_9 x_10 x_11 x_12 x_13 x_14 x_15 x_16 x_17 x_18 x_19 x0) s.heap.size) (va_A (wM cB cI cJ cZ x_0 x_1 x_2 x_3 x_4 x_5 x_6 x_7 x_8 x_9 x_10 x_11 x_12 x_13 x_14 x_15 x_16 x_17 x_18 x_19 x0) s.heap.size) 12 (MQ below (gQi D (wM cB cI cJ cZ x_0 x_1 x_2 x_3 x_4 x_5 x_6 x_7 x_8 x_9 x_10 x_11 x_12 x_13 x_14 x_15 x_16 x_17 x_18 x_19 x0) s.heap.size res.1 (wM cB cI cJ cZ x_0 x_1 x_2 x_3 x_4 x_5 x_6 x_7 x_8 x_9 x_10 x_11 x_12 x_13 x_14 x_15 x_16 x_17 x_18 x_19 res.2)) args s 0 0 (va_A (wM cB cI cJ cZ x_0 x_1 x_2 x_3 x_4 x_5 x_6 x_7 x_8 x_9 x_10 x_11 x_12 x_13 x_14 x_15 x_16 x_17 x_18 x_19 x0) s.heap.size)) (wM cB cI cJ cZ x_0 x_1 x_2 x_3 x_4 x_5 x_6 x_7 x_8 x_9 x_10 x_11 x_12 x_13 x_14 x_15 x_16 x_17 x_18 x_19 x) 341 [(0, .ref x_0), (1, .int v1), (2, .int v2), (3, .int v3), (4, .int v4), (5, .int v5), (6, .int v6), (7, .int v7), (8, .int v8), (9, .int v9)] []) :
    ∀ (n9 : Nat) (x : MS) (v9 : Int32), FX8_send_L233 v1 v2 v3 v4 v5 v6 v7 v8 k9 n9 x v9 = some res → gG p l e (headSpec wsX8_send rX8_send).room s m args below meth c 0 0 D (va_A (wM cB cI cJ cZ x_0 x_1 x_2 x_3 x_4 x_5 x_6 x_7 x_8 x_9 x_10 x_11 x_12 x_13 x_14 x_15 x_16 x_17 x_18 x_19 x0) s.heap.size) (va_A (wM cB cI cJ cZ x_0 x_1 x_2 x_3 x_4 x_5 x_6 x_7 x_8 x_9 x_10 x_11 x_12 x_13 x_14 x_15 x_16 x_17 x_18 x_19 x0) s.heap.size) 12 (MQ below (gQi D (wM cB cI cJ cZ x_0 x_1 x_2 x_3 x_4 x_5 x_6 x_7 x_8 x_9 x_10 x_11 x_12 x_13 x_14 x_15 x_16 x_17 x_18 x_19 x0) s.heap.size res.1 (wM cB cI cJ cZ x_0 x_1 x_2 x_3 x_4 x_5 x_6 x_7 x_8 x_9 x_10 x_11 x_12 x_13 x_14 x_15 x_16 x_17 x_18 x_19 res.2)) args s 0 0 (va_A (wM cB cI cJ cZ x_0 x_1 x_2 x_3 x_4 x_5 x_6 x_7 x_8 x_9 x_10 x_11 x_12 x_13 x_14 x_15 x_16 x_17 x_18 x_19 x0) s.heap.size)) (wM cB cI cJ cZ x_0 x_1 x_2 x_3 x_4 x_5 x_6 x_7 x_8 x_9 x_10 x_11 x_12 x_13 x_14 x_15 x_16 x_17 x_18 x_19 x) 233 [(0, .ref x_0), (1, .int v1), (2, .int v2), (3, .int v3), (4, .int v4), (5, .int v5), (6, .int v6), (7, .int v7), (8, .int v8), (9, .int v9)] [] := by
  intro n9
  induction n9 with
  | zero =>
    intro x v9 hF
    exact absurd hF (by simp [FX8_send_L233])
  | succ n9 ih9 =>
    intro x v9 hF
    rw [FX8_send_L233] at hF
    refine g_iload (z := 9) C (tdec DX8_send 134 rfl) rfl rfl ?_
    refine g_bipush (v := 8) C (tdec DX8_send 135 rfl) (by decide) rfl ?_
    refine g_icmp_ge (pt := 341) C (tdec DX8_send 136 rfl) (by decide) rfl (fun h35 => ?_) (fun h35 => ?_)
    · have hF := o_ifp hF h35
      refine g_sub (L' := [(0, .ref x_0), (1, .int v1), (2, .int v2), (3, .int v3), (4, .int v4), (5, .int v5), (6, .int v6), (7, .int v7), (8, .int v8), (9, .int v9)]) [0, 1, 2, 3, 4, 5, 6, 7, 8, 9] rfl ?_
      exact hk9 _ _ hF
    · have hF := o_ifn hF h35
      refine g_bipush (v := 8) C (tdec DX8_send 137 rfl) (by decide) rfl ?_
      refine g_aload_n (z := 0) C (tdec DX8_send 138 rfl) rfl rfl rfl ?_
      refine g_iload_n (z := 1) C (tdec DX8_send 139 rfl) rfl rfl rfl ?_
      refine g_iload (z := 8) C (tdec DX8_send 140 rfl) rfl rfl ?_
      obtain ⟨r36, y37, hF⟩ := o_bind hF
      refine g_callViRS (q0 := 0) (S := [wM cB cI cJ cZ x_0 x_1 x_2 x_3 x_4 x_5 x_6 x_7 x_8 x_9 x_10 x_11 x_12 x_13 x_14 x_15 x_16 x_17 x_18 x_19 x]) (S0 := [wM cB cI cJ cZ x_0 x_1 x_2 x_3 x_4 x_5 x_6 x_7 x_8 x_9 x_10 x_11 x_12 x_13 x_14 x_15 x_16 x_17 x_18 x_19 x]) C (c_X8_told l D cB cI cJ cZ x_0 x_1 x_2 x_3 x_4 x_5 x_6 x_7 x_8 x_9 x_10 x_11 x_12 x_13 x_14 x_15 x_16 x_17 x_18 x_19 y37) rfl rfl (gIV ml_X8_90 im_X8_told sl_X8_told in_X8 cd_X8_told) rfl eX8_told rfl ⟨rfl, rfl⟩ ⟨Nat.le_of_ble_eq_true rfl, Nat.le_of_ble_eq_true rfl⟩ rfl rfl rfl [0] rfl rfl rfl (Nat.le_of_ble_eq_true rfl) (tdec DX8_send 141 rfl) rfl ?_
      refine g_imul C (tdec DX8_send 142 rfl) rfl ?_
      refine g_iload (z := 9) C (tdec DX8_send 143 rfl) rfl rfl ?_
      refine g_iadd C (tdec DX8_send 144 rfl) rfl ?_
      refine g_istore (L' := [(10, .int ((8 * r36) + v9)), (0, .ref x_0), (1, .int v1), (2, .int v2), (3, .int v3), (4, .int v4), (5, .int v5), (6, .int v6), (7, .int v7), (8, .int v8), (9, .int v9)]) C (tdec DX8_send 145 rfl) (by decide) rfl rfl ?_
      refine g_aload_n (z := 1) C (tdec DX8_send 146 rfl) rfl rfl rfl ?_
      refine g_iload_n (z := 2) C (tdec DX8_send 147 rfl) rfl rfl rfl ?_
      refine g_iload (z := 0) C (tdec DX8_send 148 rfl) rfl rfl ?_
      refine g_bipush (v := 64) C (tdec DX8_send 149 rfl) (by decide) rfl ?_
      refine g_iload (z := 8) C (tdec DX8_send 150 rfl) rfl rfl ?_
      refine g_imul C (tdec DX8_send 151 rfl) rfl ?_
      refine g_bipush (v := 8) C (tdec DX8_send 152 rfl) (by decide) rfl ?_
      refine g_iload (z := 10) C (tdec DX8_send 153 rfl) rfl rfl ?_
      refine g_imul C (tdec DX8_send 154 rfl) rfl ?_
      refine g_iadd C (tdec DX8_send 155 rfl) rfl ?_
      refine g_bipush (v := 8) C (tdec DX8_send 156 rfl) (by decide) rfl ?_
      refine g_iload (z := 5) C (tdec DX8_send 157 rfl) rfl rfl ?_
      obtain ⟨⟨r38, s39⟩, y40, hF⟩ := o_bind hF
      refine g_callViMS (q0 := 0) (W' := wM cB cI cJ cZ x_0 x_1 x_2 x_3 x_4 x_5 x_6 x_7 x_8 x_9 x_10 x_11 x_12 x_13 x_14 x_15 x_16 x_17 x_18 x_19 s39) (S := [wM cB cI cJ cZ x_0 x_1 x_2 x_3 x_4 x_5 x_6 x_7 x_8 x_9 x_10 x_11 x_12 x_13 x_14 x_15 x_16 x_17 x_18 x_19 x]) (S0 := [wM cB cI cJ cZ x_0 x_1 x_2 x_3 x_4 x_5 x_6 x_7 x_8 x_9 x_10 x_11 x_12 x_13 x_14 x_15 x_16 x_17 x_18 x_19 x]) (S1 := [wM cB cI cJ cZ x_0 x_1 x_2 x_3 x_4 x_5 x_6 x_7 x_8 x_9 x_10 x_11 x_12 x_13 x_14 x_15 x_16 x_17 x_18 x_19 s39]) (S' := [wM cB cI cJ cZ x_0 x_1 x_2 x_3 x_4 x_5 x_6 x_7 x_8 x_9 x_10 x_11 x_12 x_13 x_14 x_15 x_16 x_17 x_18 x_19 s39]) C (c_X8_brings l D cB cI cJ cZ x_0 x_1 x_2 x_3 x_4 x_5 x_6 x_7 x_8 x_9 x_10 x_11 x_12 x_13 x_14 x_15 x_16 x_17 x_18 x_19 y40) rfl rfl (gIV ml_X8_180 im_X8_brings sl_X8_brings in_X8 cd_X8_brings) rfl eX8_brings rfl ⟨rfl, rfl⟩ ⟨Nat.le_of_ble_eq_true rfl, Nat.le_of_ble_eq_true rfl⟩ rfl rfl rfl [0] rfl rfl rfl rfl (gA_cons aM gA_nil) rfl rfl (Nat.le_of_ble_eq_true rfl) (tdec DX8_send 158 rfl) rfl ?_
      refine g_if_ne (pt := 283) C (tdec DX8_send 159 rfl) (by decide) rfl (fun h41 => ?_) (fun h41 => ?_)
      · have hF := o_ifn hF h41
        refine g_iconst (v := 0) C (tdec DX8_send 161 rfl) (by decide) rfl ?_
        refine g_istore (L' := [(11, .int 0), (10, .int ((8 * r36) + v9)), (0, .ref x_0), (1, .int v1), (2, .int v2), (3, .int v3), (4, .int v4), (5, .int v5), (6, .int v6), (7, .int v7), (8, .int v8), (9, .int v9)]) C (tdec DX8_send 162 rfl) (by decide) rfl rfl ?_
        refine g_sub (L' := [(0, .ref x_0), (1, .int v1), (2, .int v2), (3, .int v3), (4, .int v4), (5, .int v5), (6, .int v6), (7, .int v7), (8, .int v8), (9, .int v9), (10, .int ((8 * r36) + v9)), (11, .int 0)]) [2, 3, 4, 5, 6, 7, 8, 9, 10, 11, 1, 0] rfl ?_
        refine c_FX8_send_L286 C (fun xq48 w11_48 hF => ?_) 100000 _ _ hF
        refine g_iinc (z := 9) (v := (v9 + 1)) (L' := [(9, .int (v9 + 1)), (0, .ref x_0), (1, .int v1), (2, .int v2), (3, .int v3), (4, .int v4), (5, .int v5), (6, .int v6), (7, .int v7), (8, .int v8), (10, .int ((8 * r36) + v9)), (11, .int w11_48)]) C (tdec DX8_send 191 rfl) rfl rfl (by decide) rfl rfl ?_
        refine g_goto (pt := 233) C (tdec DX8_send 192 rfl) (by decide) ?_
        refine g_sub (L' := [(0, .ref x_0), (1, .int v1), (2, .int v2), (3, .int v3), (4, .int v4), (5, .int v5), (6, .int v6), (7, .int v7), (8, .int v8), (9, .int (v9 + 1))]) [1, 2, 3, 4, 5, 6, 7, 8, 9, 0] rfl ?_
        exact ih9 _ _ hF
      · have hF := o_ifp hF h41
        refine g_goto (pt := 335) C (tdec DX8_send 160 rfl) (by decide) ?_
        refine g_iinc (z := 10) (v := (v9 + 1)) (L' := [(9, .int (v9 + 1)), (10, .int ((8 * r36) + v9)), (0, .ref x_0), (1, .int v1), (2, .int v2), (3, .int v3), (4, .int v4), (5, .int v5), (6, .int v6), (7, .int v7), (8, .int v8)]) C (tdec DX8_send 191 rfl) rfl rfl (by decide) rfl rfl ?_
        refine g_goto (pt := 233) C (tdec DX8_send 192 rfl) (by decide) ?_
        refine g_sub (L' := [(0, .ref x_0), (1, .int v1), (2, .int v2), (3, .int v3), (4, .int v4), (5, .int v5), (6, .int v6), (7, .int v7), (8, .int v8), (9, .int (v9 + 1))]) [2, 3, 4, 5, 6, 7, 8, 9, 10, 0] rfl ?_
        exact ih9 _ _ hF
set_option maxHeartbeats 4000000 in
set_option maxRecDepth 100000 in
theorem c_FX8_send_L181 {p : Program} {l : Launch} {e : Env} {s : State} {m : MethodId} {args : Array Value} {below : List Frame} {meth : Method} {c : Code} {D : va_G} {cB cI cJ cZ : ClassId} {x_0 x_1 x_2 x_3 x_4 x_5 x_6 x_7 x_8 x_9 x_10 x_11 x_12 x_13 x_14 x_15 x_16 x_17 x_18 x_19 : Nat} {x0 : MS} {res : Int32 × MS} (C : gC p s m args meth c cX8_send 12 RX8 wsX8_send D (gT cB cI cJ cZ) (some .int) (va_A (wM cB cI cJ cZ x_0 x_1 x_2 x_3 x_4 x_5 x_6 x_7 x_8 x_9 x_10 x_11 x_12 x_13 x_14 x_15 x_16 x_17 x_18 x_19 x0) s.heap.size)) {v1 : Int32} {v2 : Int32} {v3 : Int32} {v4 : Int32} {v5 : Int32} {v6 : Int32} {k9 : MS → Int32 → Option (Int32 × MS)} (hk9 : ∀ (x : MS) (v7 : Int32), k9 x v7 = some res → gG p l e (headSpec wsX8_send rX8_send).room s m args below meth c 0 0 D (va_A (wM cB cI cJ cZ x_0 x_1 x_2 x_3 x_4 x_5 x_6 x_7 x_8 x_9 x_10 x_11 x_12 x_13 x_14 x_15 x_16 x_17 x_18 x_19 x0) s.heap.size) (va_A (wM cB cI cJ cZ x_0 x_1 x_2 x_3 x_4 x_5 x_6 x_7 x_8 x_9 x_10 x_11 x_12 x_13 x_14 x_15 x_16 x_17 x_18 x_19 x0) s.heap.size) 12 (MQ below (gQi D (wM cB cI cJ cZ x_0 x_1 x_2 x_3 x_4 x_5 x_6 x_7 x_8 x_9 x_10 x_11 x_12 x_13 x_14 x_15 x_16 x_17 x_18 x_19 x0) s.heap.size res.1 (wM cB cI cJ cZ x_0 x_1 x_2 x_3 x_4 x_5 x_6 x_7 x_8 x_9 x_10 x_11 x_12 x_13 x_14 x_15 x_16 x_17 x_18 x_19 res.2)) args s 0 0 (va_A (wM cB cI cJ cZ x_0 x_1 x_2 x_3 x_4 x_5 x_6 x_7 x_8 x_9 x_10 x_11 x_12 x_13 x_14 x_15 x_16 x_17 x_18 x_19 x0) s.heap.size)) (wM cB cI cJ cZ x_0 x_1 x_2 x_3 x_4 x_5 x_6 x_7 x_8 x_9 x_10 x_11 x_12 x_13 x_14 x_15 x_16 x_17 x_18 x_19 x) 347 [(0, .ref x_0), (1, .int v1), (2, .int v2), (3, .int v3), (4, .int v4), (5, .int v5), (6, .int v6), (7, .int v7)] []) :
    ∀ (n9 : Nat) (x : MS) (v7 : Int32), FX8_send_L181 v1 v2 v3 v4 v5 v6 k9 n9 x v7 = some res → gG p l e (headSpec wsX8_send rX8_send).room s m args below meth c 0 0 D (va_A (wM cB cI cJ cZ x_0 x_1 x_2 x_3 x_4 x_5 x_6 x_7 x_8 x_9 x_10 x_11 x_12 x_13 x_14 x_15 x_16 x_17 x_18 x_19 x0) s.heap.size) (va_A (wM cB cI cJ cZ x_0 x_1 x_2 x_3 x_4 x_5 x_6 x_7 x_8 x_9 x_10 x_11 x_12 x_13 x_14 x_15 x_16 x_17 x_18 x_19 x0) s.heap.size) 12 (MQ below (gQi D (wM cB cI cJ cZ x_0 x_1 x_2 x_3 x_4 x_5 x_6 x_7 x_8 x_9 x_10 x_11 x_12 x_13 x_14 x_15 x_16 x_17 x_18 x_19 x0) s.heap.size res.1 (wM cB cI cJ cZ x_0 x_1 x_2 x_3 x_4 x_5 x_6 x_7 x_8 x_9 x_10 x_11 x_12 x_13 x_14 x_15 x_16 x_17 x_18 x_19 res.2)) args s 0 0 (va_A (wM cB cI cJ cZ x_0 x_1 x_2 x_3 x_4 x_5 x_6 x_7 x_8 x_9 x_10 x_11 x_12 x_13 x_14 x_15 x_16 x_17 x_18 x_19 x0) s.heap.size)) (wM cB cI cJ cZ x_0 x_1 x_2 x_3 x_4 x_5 x_6 x_7 x_8 x_9 x_10 x_11 x_12 x_13 x_14 x_15 x_16 x_17 x_18 x_19 x) 181 [(0, .ref x_0), (1, .int v1), (2, .int v2), (3, .int v3), (4, .int v4), (5, .int v5), (6, .int v6), (7, .int v7)] [] := by
  intro n9
  induction n9 with
  | zero =>
    intro x v7 hF
    exact absurd hF (by simp [FX8_send_L181])
  | succ n9 ih9 =>
    intro x v7 hF
    rw [FX8_send_L181] at hF
    refine g_iload (z := 7) C (tdec DX8_send 107 rfl) rfl rfl ?_
    refine g_bipush (v := 8) C (tdec DX8_send 108 rfl) (by decide) rfl ?_
    refine g_icmp_ge (pt := 347) C (tdec DX8_send 109 rfl) (by decide) rfl (fun h27 => ?_) (fun h27 => ?_)
    · have hF := o_ifp hF h27
      refine g_sub (L' := [(0, .ref x_0), (1, .int v1), (2, .int v2), (3, .int v3), (4, .int v4), (5, .int v5), (6, .int v6), (7, .int v7)]) [0, 1, 2, 3, 4, 5, 6, 7] rfl ?_
      exact hk9 _ _ hF
    · have hF := o_ifn hF h27
      refine g_iload (z := 6) C (tdec DX8_send 110 rfl) rfl rfl ?_
      refine g_if_eq (pt := 347) C (tdec DX8_send 111 rfl) (by decide) rfl (fun h28 => ?_) (fun h28 => ?_)
      · have hF := o_ifp hF h28
        refine g_sub (L' := [(0, .ref x_0), (1, .int v1), (2, .int v2), (3, .int v3), (4, .int v4), (5, .int v5), (6, .int v6), (7, .int v7)]) [0, 1, 2, 3, 4, 5, 6, 7] rfl ?_
        exact hk9 _ _ hF
      · have hF := o_ifn hF h28
        refine g_bipush (v := 8) C (tdec DX8_send 112 rfl) (by decide) rfl ?_
        refine g_aload_n (z := 0) C (tdec DX8_send 113 rfl) rfl rfl rfl ?_
        refine g_iload_n (z := 1) C (tdec DX8_send 114 rfl) rfl rfl rfl ?_
        refine g_iload (z := 5) C (tdec DX8_send 115 rfl) rfl rfl ?_
        obtain ⟨r29, y30, hF⟩ := o_bind hF
        refine g_callViRS (q0 := 0) (S := [wM cB cI cJ cZ x_0 x_1 x_2 x_3 x_4 x_5 x_6 x_7 x_8 x_9 x_10 x_11 x_12 x_13 x_14 x_15 x_16 x_17 x_18 x_19 x]) (S0 := [wM cB cI cJ cZ x_0 x_1 x_2 x_3 x_4 x_5 x_6 x_7 x_8 x_9 x_10 x_11 x_12 x_13 x_14 x_15 x_16 x_17 x_18 x_19 x]) C (c_X8_told l D cB cI cJ cZ x_0 x_1 x_2 x_3 x_4 x_5 x_6 x_7 x_8 x_9 x_10 x_11 x_12 x_13 x_14 x_15 x_16 x_17 x_18 x_19 y30) rfl rfl (gIV ml_X8_90 im_X8_told sl_X8_told in_X8 cd_X8_told) rfl eX8_told rfl ⟨rfl, rfl⟩ ⟨Nat.le_of_ble_eq_true rfl, Nat.le_of_ble_eq_true rfl⟩ rfl rfl rfl [0] rfl rfl rfl (Nat.le_of_ble_eq_true rfl) (tdec DX8_send 116 rfl) rfl ?_
        refine g_imul C (tdec DX8_send 117 rfl) rfl ?_
        refine g_iload (z := 7) C (tdec DX8_send 118 rfl) rfl rfl ?_
        refine g_iadd C (tdec DX8_send 119 rfl) rfl ?_
        refine g_istore (L' := [(8, .int ((8 * r29) + v7)), (0, .ref x_0), (1, .int v1), (2, .int v2), (3, .int v3), (4, .int v4), (5, .int v5), (6, .int v6), (7, .int v7)]) C (tdec DX8_send 120 rfl) (by decide) rfl rfl ?_
        refine g_aload_n (z := 1) C (tdec DX8_send 121 rfl) rfl rfl rfl ?_
        refine g_iload_n (z := 2) C (tdec DX8_send 122 rfl) rfl rfl rfl ?_
        refine g_iload (z := 0) C (tdec DX8_send 123 rfl) rfl rfl ?_
        refine g_bipush (v := 64) C (tdec DX8_send 124 rfl) (by decide) rfl ?_
        refine g_iload (z := 8) C (tdec DX8_send 125 rfl) rfl rfl ?_
        refine g_imul C (tdec DX8_send 126 rfl) rfl ?_
        refine g_bipush (v := 64) C (tdec DX8_send 127 rfl) (by decide) rfl ?_
        refine g_iload (z := 5) C (tdec DX8_send 128 rfl) rfl rfl ?_
        obtain ⟨⟨r31, s32⟩, y33, hF⟩ := o_bind hF
        refine g_callViMS (q0 := 0) (W' := wM cB cI cJ cZ x_0 x_1 x_2 x_3 x_4 x_5 x_6 x_7 x_8 x_9 x_10 x_11 x_12 x_13 x_14 x_15 x_16 x_17 x_18 x_19 s32) (S := [wM cB cI cJ cZ x_0 x_1 x_2 x_3 x_4 x_5 x_6 x_7 x_8 x_9 x_10 x_11 x_12 x_13 x_14 x_15 x_16 x_17 x_18 x_19 x]) (S0 := [wM cB cI cJ cZ x_0 x_1 x_2 x_3 x_4 x_5 x_6 x_7 x_8 x_9 x_10 x_11 x_12 x_13 x_14 x_15 x_16 x_17 x_18 x_19 x]) (S1 := [wM cB cI cJ cZ x_0 x_1 x_2 x_3 x_4 x_5 x_6 x_7 x_8 x_9 x_10 x_11 x_12 x_13 x_14 x_15 x_16 x_17 x_18 x_19 s32]) (S' := [wM cB cI cJ cZ x_0 x_1 x_2 x_3 x_4 x_5 x_6 x_7 x_8 x_9 x_10 x_11 x_12 x_13 x_14 x_15 x_16 x_17 x_18 x_19 s32]) C (c_X8_brings l D cB cI cJ cZ x_0 x_1 x_2 x_3 x_4 x_5 x_6 x_7 x_8 x_9 x_10 x_11 x_12 x_13 x_14 x_15 x_16 x_17 x_18 x_19 y33) rfl rfl (gIV ml_X8_180 im_X8_brings sl_X8_brings in_X8 cd_X8_brings) rfl eX8_brings rfl ⟨rfl, rfl⟩ ⟨Nat.le_of_ble_eq_true rfl, Nat.le_of_ble_eq_true rfl⟩ rfl rfl rfl [0] rfl rfl rfl rfl (gA_cons aM gA_nil) rfl rfl (Nat.le_of_ble_eq_true rfl) (tdec DX8_send 129 rfl) rfl ?_
        refine g_if_ne (pt := 230) C (tdec DX8_send 130 rfl) (by decide) rfl (fun h34 => ?_) (fun h34 => ?_)
        · have hF := o_ifn hF h34
          refine g_iconst (v := 0) C (tdec DX8_send 132 rfl) (by decide) rfl ?_
          refine g_istore (L' := [(9, .int 0), (8, .int ((8 * r29) + v7)), (0, .ref x_0), (1, .int v1), (2, .int v2), (3, .int v3), (4, .int v4), (5, .int v5), (6, .int v6), (7, .int v7)]) C (tdec DX8_send 133 rfl) (by decide) rfl rfl ?_
          refine g_sub (L' := [(0, .ref x_0), (1, .int v1), (2, .int v2), (3, .int v3), (4, .int v4), (5, .int v5), (6, .int v6), (7, .int v7), (8, .int ((8 * r29) + v7)), (9, .int 0)]) [2, 3, 4, 5, 6, 7, 8, 9, 1, 0] rfl ?_
          refine c_FX8_send_L233 C (fun xq49 w9_49 hF => ?_) 100000 _ _ hF
          refine g_iinc (z := 7) (v := (v7 + 1)) (L' := [(7, .int (v7 + 1)), (0, .ref x_0), (1, .int v1), (2, .int v2), (3, .int v3), (4, .int v4), (5, .int v5), (6, .int v6), (8, .int ((8 * r29) + v7)), (9, .int w9_49)]) C (tdec DX8_send 193 rfl) rfl rfl (by decide) rfl rfl ?_
          refine g_goto (pt := 181) C (tdec DX8_send 194 rfl) (by decide) ?_
          refine g_sub (L' := [(0, .ref x_0), (1, .int v1), (2, .int v2), (3, .int v3), (4, .int v4), (5, .int v5), (6, .int v6), (7, .int (v7 + 1))]) [1, 2, 3, 4, 5, 6, 7, 0] rfl ?_
          exact ih9 _ _ hF
        · have hF := o_ifp hF h34
          refine g_goto (pt := 341) C (tdec DX8_send 131 rfl) (by decide) ?_
          refine g_iinc (z := 8) (v := (v7 + 1)) (L' := [(7, .int (v7 + 1)), (8, .int ((8 * r29) + v7)), (0, .ref x_0), (1, .int v1), (2, .int v2), (3, .int v3), (4, .int v4), (5, .int v5), (6, .int v6)]) C (tdec DX8_send 193 rfl) rfl rfl (by decide) rfl rfl ?_
          refine g_goto (pt := 181) C (tdec DX8_send 194 rfl) (by decide) ?_
          refine g_sub (L' := [(0, .ref x_0), (1, .int v1), (2, .int v2), (3, .int v3), (4, .int v4), (5, .int v5), (6, .int v6), (7, .int (v7 + 1))]) [2, 3, 4, 5, 6, 7, 8, 0] rfl ?_
          exact ih9 _ _ hF
set_option maxHeartbeats 4000000 in
set_option maxRecDepth 100000 in
theorem c_X8_send (l : Launch) (D : va_G) (cB cI cJ cZ : ClassId) (x_0 x_1 x_2 x_3 x_4 x_5 x_6 x_7 x_8 x_9 x_10 x_11 x_12 x_13 x_14 x_15 x_16 x_17 x_18 x_19 : Nat) {x0 : MS} {p1 : Int32} {p2 : Int32} {p3 : Int32} {res : Int32 × MS} (hF : FX8_send x0 p1 p2 p3 = some res) : gMi l yX8_send wsX8_send rX8_send D (gT cB cI cJ cZ) [.ref x_0, .int p1, .int p2, .int p3] (wM cB cI cJ cZ x_0 x_1 x_2 x_3 x_4 x_5 x_6 x_7 x_8 x_9 x_10 x_11 x_12 x_13 x_14 x_15 x_16 x_17 x_18 x_19 x0) res.1 (wM cB cI cJ cZ x_0 x_1 x_2 x_3 x_4 x_5 x_6 x_7 x_8 x_9 x_10 x_11 x_12 x_13 x_14 x_15 x_16 x_17 x_18 x_19 res.2) := by
  refine g_enter (own := RX8) (free := (fun sz => va_A (wM cB cI cJ cZ x_0 x_1 x_2 x_3 x_4 x_5 x_6 x_7 x_8 x_9 x_10 x_11 x_12 x_13 x_14 x_15 x_16 x_17 x_18 x_19 x0) sz)) (Qc := (fun sz => gQi D (wM cB cI cJ cZ x_0 x_1 x_2 x_3 x_4 x_5 x_6 x_7 x_8 x_9 x_10 x_11 x_12 x_13 x_14 x_15 x_16 x_17 x_18 x_19 x0) sz res.1 (wM cB cI cJ cZ x_0 x_1 x_2 x_3 x_4 x_5 x_6 x_7 x_8 x_9 x_10 x_11 x_12 x_13 x_14 x_15 x_16 x_17 x_18 x_19 res.2))) (fun sz => va_A (wM cB cI cJ cZ x_0 x_1 x_2 x_3 x_4 x_5 x_6 x_7 x_8 x_9 x_10 x_11 x_12 x_13 x_14 x_15 x_16 x_17 x_18 x_19 x0) sz) (fun sz => Or.inr rfl) rfl (by decide) rfl (Nat.le_of_ble_eq_true rfl) rfl ?_
  intro p e s m args below meth c C
  unfold FX8_send at hF
  refine g_aload_n (z := 0) C (tdec DX8_send 0 rfl) rfl rfl rfl ?_
  refine g_iload_n (z := 1) C (tdec DX8_send 1 rfl) rfl rfl rfl ?_
  obtain ⟨r1, y2, hF⟩ := o_bind hF
  refine g_callSiR C (c_X8_isVolume l D cB cI cJ cZ y2) (gIS ml_X8_82 st_X8_isVolume in_X8 cd_X8_isVolume) eX8_isVolume rfl ⟨rfl, rfl⟩ ⟨Nat.le_of_ble_eq_true rfl, Nat.le_of_ble_eq_true rfl⟩ rfl [] rfl rfl rfl (Nat.le_of_ble_eq_true rfl) (tdec DX8_send 2 rfl) rfl ?_
  refine g_if_ne (pt := 12) C (tdec DX8_send 3 rfl) (by decide) rfl (fun h3 => ?_) (fun h3 => ?_)
  · have hF := o_ifn hF h3
    refine g_aload_n (z := 0) C (tdec DX8_send 6 rfl) rfl rfl rfl ?_
    refine g_iload_n (z := 1) C (tdec DX8_send 7 rfl) rfl rfl rfl ?_
    refine g_iload_n (z := 3) C (tdec DX8_send 8 rfl) rfl rfl rfl ?_
    obtain ⟨r4, y5, hF⟩ := o_bind hF
    refine g_callViRS (q0 := 0) (S := [wM cB cI cJ cZ x_0 x_1 x_2 x_3 x_4 x_5 x_6 x_7 x_8 x_9 x_10 x_11 x_12 x_13 x_14 x_15 x_16 x_17 x_18 x_19 x0]) (S0 := [wM cB cI cJ cZ x_0 x_1 x_2 x_3 x_4 x_5 x_6 x_7 x_8 x_9 x_10 x_11 x_12 x_13 x_14 x_15 x_16 x_17 x_18 x_19 x0]) C (c_X8_isSnap l D cB cI cJ cZ x_0 x_1 x_2 x_3 x_4 x_5 x_6 x_7 x_8 x_9 x_10 x_11 x_12 x_13 x_14 x_15 x_16 x_17 x_18 x_19 y5) rfl rfl (gIV ml_X8_141 im_X8_isSnap sl_X8_isSnap in_X8 cd_X8_isSnap) rfl eX8_isSnap rfl ⟨rfl, rfl⟩ ⟨Nat.le_of_ble_eq_true rfl, Nat.le_of_ble_eq_true rfl⟩ rfl rfl rfl [0] rfl rfl rfl (Nat.le_of_ble_eq_true rfl) (tdec DX8_send 9 rfl) rfl ?_
    refine g_if_ne (pt := 25) C (tdec DX8_send 10 rfl) (by decide) rfl (fun h6 => ?_) (fun h6 => ?_)
    · have hF := o_ifn hF h6
      refine g_iload_n (z := 2) C (tdec DX8_send 13 rfl) rfl rfl rfl ?_
      refine g_iconst (v := (-1)) C (tdec DX8_send 14 rfl) (by decide) rfl ?_
      refine g_icmp_lt (pt := 35) C (tdec DX8_send 15 rfl) (by decide) rfl (fun h7 => ?_) (fun h7 => ?_)
      · have hF := o_ifp hF h7
        refine g_iconst (v := 3) C (tdec DX8_send 19 rfl) (by decide) rfl ?_
        refine g_goto (pt := 40) C (tdec DX8_send 20 rfl) (by decide) ?_
        refine g_putf (C' := RX8) (T := TX8) (N := 27) (v := .int 3) (ws' := wM cB cI cJ cZ x_0 x_1 x_2 x_3 x_4 x_5 x_6 x_7 x_8 x_9 x_10 x_11 x_12 x_13 x_14 x_15 x_16 x_17 x_18 x_19 (MS_setthr x0 3)) C 0 0 tyX8 tyX8_ok nmX8 (gIn iw_X8) rfl rfl (by decide) (gMem fl_X8_78) rfl rfl (tyX8_ok 0 (by decide)) rfl rfl (Nat.le_of_ble_eq_true rfl) rfl (tdec DX8_send 22 rfl) rfl ?_
        refine g_aload_n (z := 0) C (tdec DX8_send 23 rfl) rfl rfl rfl ?_
        refine g_getf (C' := RX8) (T := TX8) (N := 27) (v := .int 3) C 0 0 (gIn iw_X8) rfl rfl (by decide) (gMem fl_X8_78) rfl rfl (tdec DX8_send 24 rfl) rfl ?_
        refine g_if_le (pt := 52) C (tdec DX8_send 25 rfl) (by decide) rfl (fun h8 => ?_) (fun h8 => ?_)
        · have hF := o_ifp hF h8
          refine g_aload_n (z := 0) C (tdec DX8_send 28 rfl) rfl rfl rfl ?_
          refine g_iconst (v := 0) C (tdec DX8_send 29 rfl) (by decide) rfl ?_
          refine g_putf (C' := RX8) (T := TX8) (N := 27) (v := .int 0) (ws' := wM cB cI cJ cZ x_0 x_1 x_2 x_3 x_4 x_5 x_6 x_7 x_8 x_9 x_10 x_11 x_12 x_13 x_14 x_15 x_16 x_17 x_18 x_19 (MS_setlen (MS_setthr x0 3) 0)) C 0 19 tyX8 tyX8_ok nmX8 (gIn iw_X8) rfl rfl (by decide) (gMem fl_X8_147) rfl rfl (tyX8_ok 19 (by decide)) rfl rfl (Nat.le_of_ble_eq_true rfl) rfl (tdec DX8_send 30 rfl) rfl ?_
          refine g_aload_n (z := 0) C (tdec DX8_send 31 rfl) rfl rfl rfl ?_
          refine g_iconst (v := 0) C (tdec DX8_send 32 rfl) (by decide) rfl ?_
          refine g_putf (C' := RX8) (T := TX8) (N := 27) (v := .int 0) (ws' := wM cB cI cJ cZ x_0 x_1 x_2 x_3 x_4 x_5 x_6 x_7 x_8 x_9 x_10 x_11 x_12 x_13 x_14 x_15 x_16 x_17 x_18 x_19 (MS_setrf (MS_setlen (MS_setthr x0 3) 0) 0)) C 0 26 tyX8 tyX8_ok nmX8 (gIn iw_X8) rfl rfl (by decide) (gMem fl_X8_152) rfl rfl (tyX8_ok 26 (by decide)) rfl rfl (Nat.le_of_ble_eq_true rfl) rfl (tdec DX8_send 33 rfl) rfl ?_
          refine g_aload_n (z := 0) C (tdec DX8_send 34 rfl) rfl rfl rfl ?_
          refine g_iconst (v := 0) C (tdec DX8_send 35 rfl) (by decide) rfl ?_
          refine g_putf (C' := RX8) (T := TX8) (N := 27) (v := .int 0) (ws' := wM cB cI cJ cZ x_0 x_1 x_2 x_3 x_4 x_5 x_6 x_7 x_8 x_9 x_10 x_11 x_12 x_13 x_14 x_15 x_16 x_17 x_18 x_19 (MS_setrecs (MS_setrf (MS_setlen (MS_setthr x0 3) 0) 0) 0)) C 0 20 tyX8 tyX8_ok nmX8 (gIn iw_X8) rfl rfl (by decide) (gMem fl_X8_163) rfl rfl (tyX8_ok 20 (by decide)) rfl rfl (Nat.le_of_ble_eq_true rfl) rfl (tdec DX8_send 36 rfl) rfl ?_
          refine g_aload_n (z := 0) C (tdec DX8_send 37 rfl) rfl rfl rfl ?_
          refine g_iconst (v := 0) C (tdec DX8_send 38 rfl) (by decide) rfl ?_
          refine g_putf (C' := RX8) (T := TX8) (N := 27) (v := .int 0) (ws' := wM cB cI cJ cZ x_0 x_1 x_2 x_3 x_4 x_5 x_6 x_7 x_8 x_9 x_10 x_11 x_12 x_13 x_14 x_15 x_16 x_17 x_18 x_19 (MS_setwr (MS_setrecs (MS_setrf (MS_setlen (MS_setthr x0 3) 0) 0) 0) 0)) C 0 21 tyX8 tyX8_ok nmX8 (gIn iw_X8) rfl rfl (by decide) (gMem fl_X8_178) rfl rfl (tyX8_ok 21 (by decide)) rfl rfl (Nat.le_of_ble_eq_true rfl) rfl (tdec DX8_send 39 rfl) rfl ?_
          refine g_aload_n (z := 0) C (tdec DX8_send 40 rfl) rfl rfl rfl ?_
          refine g_iconst (v := 0) C (tdec DX8_send 41 rfl) (by decide) rfl ?_
          refine g_putf (C' := RX8) (T := TX8) (N := 27) (v := .int 0) (ws' := wM cB cI cJ cZ x_0 x_1 x_2 x_3 x_4 x_5 x_6 x_7 x_8 x_9 x_10 x_11 x_12 x_13 x_14 x_15 x_16 x_17 x_18 x_19 (MS_setcl (MS_setwr (MS_setrecs (MS_setrf (MS_setlen (MS_setthr x0 3) 0) 0) 0) 0) 0)) C 0 22 tyX8 tyX8_ok nmX8 (gIn iw_X8) rfl rfl (by decide) (gMem fl_X8_171) rfl rfl (tyX8_ok 22 (by decide)) rfl rfl (Nat.le_of_ble_eq_true rfl) rfl (tdec DX8_send 42 rfl) rfl ?_
          refine g_aload_n (z := 0) C (tdec DX8_send 43 rfl) rfl rfl rfl ?_
          refine g_iconst (v := 0) C (tdec DX8_send 44 rfl) (by decide) rfl ?_
          refine g_putf (C' := RX8) (T := TX8) (N := 27) (v := .int 0) (ws' := wM cB cI cJ cZ x_0 x_1 x_2 x_3 x_4 x_5 x_6 x_7 x_8 x_9 x_10 x_11 x_12 x_13 x_14 x_15 x_16 x_17 x_18 x_19 (MS_setsn (MS_setcl (MS_setwr (MS_setrecs (MS_setrf (MS_setlen (MS_setthr x0 3) 0) 0) 0) 0) 0) 0)) C 0 23 tyX8 tyX8_ok nmX8 (gIn iw_X8) rfl rfl (by decide) (gMem fl_X8_173) rfl rfl (tyX8_ok 23 (by decide)) rfl rfl (Nat.le_of_ble_eq_true rfl) rfl (tdec DX8_send 45 rfl) rfl ?_
          refine g_iload_n (z := 2) C (tdec DX8_send 46 rfl) rfl rfl rfl ?_
          refine g_iconst (v := (-1)) C (tdec DX8_send 47 rfl) (by decide) rfl ?_
          refine g_icmp_ne (pt := 91) C (tdec DX8_send 48 rfl) (by decide) rfl (fun h9 => ?_) (fun h9 => ?_)
          · have hF := o_ifn hF h9
            refine g_aload_n (z := 0) C (tdec DX8_send 51 rfl) rfl rfl rfl ?_
            refine g_getf (C' := RX8) (T := TX8) (N := 27) (v := .ref x_11) C 0 11 (gIn iw_X8) rfl rfl (by decide) (gMem fl_X8_42) rfl rfl (tdec DX8_send 52 rfl) rfl ?_
            refine g_bipush (v := 20) C (tdec DX8_send 53 rfl) (by decide) rfl ?_
            refine g_iload_n (z := 1) C (tdec DX8_send 54 rfl) rfl rfl rfl ?_
            refine g_imul C (tdec DX8_send 55 rfl) rfl ?_
            refine g_iload_n (z := 2) C (tdec DX8_send 56 rfl) rfl rfl rfl ?_
            refine g_iadd C (tdec DX8_send 57 rfl) rfl ?_
            obtain ⟨r10, y11, hF⟩ := o_bind hF
            refine g_iald C 11 1 rfl rfl y11 (tdec DX8_send 58 rfl) rfl ?_
            refine g_istore (L' := [(4, .int r10), (0, .ref x_0), (1, .int p1), (2, .int p2), (3, .int p3)]) C (tdec DX8_send 59 rfl) (by decide) rfl rfl ?_
            refine g_aload_n (z := 1) C (tdec DX8_send 60 rfl) rfl rfl rfl ?_
            refine g_lconst (v := 1) C (tdec DX8_send 61 rfl) (by decide) rfl ?_
            refine g_iconst (v := 1) C (tdec DX8_send 62 rfl) (by decide) rfl ?_
            obtain ⟨s12, y13, hF⟩ := o_bind hF
            refine g_callVvMS (q0 := 0) (W' := wM cB cI cJ cZ x_0 x_1 x_2 x_3 x_4 x_5 x_6 x_7 x_8 x_9 x_10 x_11 x_12 x_13 x_14 x_15 x_16 x_17 x_18 x_19 s12) (S := [wM cB cI cJ cZ x_0 x_1 x_2 x_3 x_4 x_5 x_6 x_7 x_8 x_9 x_10 x_11 x_12 x_13 x_14 x_15 x_16 x_17 x_18 x_19 (MS_setsn (MS_setcl (MS_setwr (MS_setrecs (MS_setrf (MS_setlen (MS_setthr x0 3) 0) 0) 0) 0) 0) 0)]) (S0 := [wM cB cI cJ cZ x_0 x_1 x_2 x_3 x_4 x_5 x_6 x_7 x_8 x_9 x_10 x_11 x_12 x_13 x_14 x_15 x_16 x_17 x_18 x_19 (MS_setsn (MS_setcl (MS_setwr (MS_setrecs (MS_setrf (MS_setlen (MS_setthr x0 3) 0) 0) 0) 0) 0) 0)]) (S1 := [wM cB cI cJ cZ x_0 x_1 x_2 x_3 x_4 x_5 x_6 x_7 x_8 x_9 x_10 x_11 x_12 x_13 x_14 x_15 x_16 x_17 x_18 x_19 s12]) (S' := [wM cB cI cJ cZ x_0 x_1 x_2 x_3 x_4 x_5 x_6 x_7 x_8 x_9 x_10 x_11 x_12 x_13 x_14 x_15 x_16 x_17 x_18 x_19 s12]) C (c_X8_put l D cB cI cJ cZ x_0 x_1 x_2 x_3 x_4 x_5 x_6 x_7 x_8 x_9 x_10 x_11 x_12 x_13 x_14 x_15 x_16 x_17 x_18 x_19 y13) rfl rfl (gIV ml_X8_159 im_X8_put sl_X8_put in_X8 cd_X8_put) rfl eX8_put rfl ⟨rfl, rfl⟩ ⟨Nat.le_of_ble_eq_true rfl, Nat.le_of_ble_eq_true rfl⟩ rfl rfl rfl [0] rfl rfl rfl rfl (gA_cons aM gA_nil) rfl rfl (Nat.le_of_ble_eq_true rfl) (tdec DX8_send 63 rfl) rfl ?_
            refine g_aload_n (z := 1) C (tdec DX8_send 64 rfl) rfl rfl rfl ?_
            refine g_iload_n (z := 3) C (tdec DX8_send 65 rfl) rfl rfl rfl ?_
            refine g_iconst (v := (-1)) C (tdec DX8_send 66 rfl) (by decide) rfl ?_
            refine g_icmp_ne (pt := 120) C (tdec DX8_send 67 rfl) (by decide) rfl (fun _ => ?_) (fun h => absurd h h9)
            refine g_aload_n (z := 1) C (tdec DX8_send 70 rfl) rfl rfl rfl ?_
            refine g_getf (C' := RX8) (T := TX8) (N := 27) (v := .ref x_12) C 0 12 (gIn iw_X8) rfl rfl (by decide) (gMem fl_X8_45) rfl rfl (tdec DX8_send 71 rfl) rfl ?_
            refine g_bipush (v := 20) C (tdec DX8_send 72 rfl) (by decide) rfl ?_
            refine g_iload_n (z := 2) C (tdec DX8_send 73 rfl) rfl rfl rfl ?_
            refine g_imul C (tdec DX8_send 74 rfl) rfl ?_
            refine g_iload_n (z := 3) C (tdec DX8_send 75 rfl) rfl rfl rfl ?_
            refine g_iadd C (tdec DX8_send 76 rfl) rfl ?_
            obtain ⟨r14, y15, hF⟩ := o_bind hF
            refine g_lald C 12 2 rfl rfl y15 (tdec DX8_send 77 rfl) rfl ?_
            refine g_bipush (v := 8) C (tdec DX8_send 78 rfl) (by decide) rfl ?_
            obtain ⟨s16, y17, hF⟩ := o_bind hF
            refine g_callVvMS (q0 := 0) (W' := wM cB cI cJ cZ x_0 x_1 x_2 x_3 x_4 x_5 x_6 x_7 x_8 x_9 x_10 x_11 x_12 x_13 x_14 x_15 x_16 x_17 x_18 x_19 s16) (S := [wM cB cI cJ cZ x_0 x_1 x_2 x_3 x_4 x_5 x_6 x_7 x_8 x_9 x_10 x_11 x_12 x_13 x_14 x_15 x_16 x_17 x_18 x_19 s12]) (S0 := [wM cB cI cJ cZ x_0 x_1 x_2 x_3 x_4 x_5 x_6 x_7 x_8 x_9 x_10 x_11 x_12 x_13 x_14 x_15 x_16 x_17 x_18 x_19 s12]) (S1 := [wM cB cI cJ cZ x_0 x_1 x_2 x_3 x_4 x_5 x_6 x_7 x_8 x_9 x_10 x_11 x_12 x_13 x_14 x_15 x_16 x_17 x_18 x_19 s16]) (S' := [wM cB cI cJ cZ x_0 x_1 x_2 x_3 x_4 x_5 x_6 x_7 x_8 x_9 x_10 x_11 x_12 x_13 x_14 x_15 x_16 x_17 x_18 x_19 s16]) C (c_X8_put l D cB cI cJ cZ x_0 x_1 x_2 x_3 x_4 x_5 x_6 x_7 x_8 x_9 x_10 x_11 x_12 x_13 x_14 x_15 x_16 x_17 x_18 x_19 y17) rfl rfl (gIV ml_X8_159 im_X8_put sl_X8_put in_X8 cd_X8_put) rfl eX8_put rfl ⟨rfl, rfl⟩ ⟨Nat.le_of_ble_eq_true rfl, Nat.le_of_ble_eq_true rfl⟩ rfl rfl rfl [0] rfl rfl rfl rfl (gA_cons aM gA_nil) rfl rfl (Nat.le_of_ble_eq_true rfl) (tdec DX8_send 79 rfl) rfl ?_
            refine g_aload_n (z := 1) C (tdec DX8_send 80 rfl) rfl rfl rfl ?_
            refine g_aload_n (z := 1) C (tdec DX8_send 81 rfl) rfl rfl rfl ?_
            refine g_getf (C' := RX8) (T := TX8) (N := 27) (v := .ref x_12) C 0 12 (gIn iw_X8) rfl rfl (by decide) (gMem fl_X8_45) rfl rfl (tdec DX8_send 82 rfl) rfl ?_
            refine g_bipush (v := 20) C (tdec DX8_send 83 rfl) (by decide) rfl ?_
            refine g_iload_n (z := 2) C (tdec DX8_send 84 rfl) rfl rfl rfl ?_
            refine g_imul C (tdec DX8_send 85 rfl) rfl ?_
            refine g_iload_n (z := 4) C (tdec DX8_send 86 rfl) rfl rfl rfl ?_
            refine g_iadd C (tdec DX8_send 87 rfl) rfl ?_
            obtain ⟨r18, y19, hF⟩ := o_bind hF
            refine g_lald C 12 2 rfl rfl y19 (tdec DX8_send 88 rfl) rfl ?_
            refine g_bipush (v := 8) C (tdec DX8_send 89 rfl) (by decide) rfl ?_
            obtain ⟨s20, y21, hF⟩ := o_bind hF
            refine g_callVvMS (q0 := 0) (W' := wM cB cI cJ cZ x_0 x_1 x_2 x_3 x_4 x_5 x_6 x_7 x_8 x_9 x_10 x_11 x_12 x_13 x_14 x_15 x_16 x_17 x_18 x_19 s20) (S := [wM cB cI cJ cZ x_0 x_1 x_2 x_3 x_4 x_5 x_6 x_7 x_8 x_9 x_10 x_11 x_12 x_13 x_14 x_15 x_16 x_17 x_18 x_19 s16]) (S0 := [wM cB cI cJ cZ x_0 x_1 x_2 x_3 x_4 x_5 x_6 x_7 x_8 x_9 x_10 x_11 x_12 x_13 x_14 x_15 x_16 x_17 x_18 x_19 s16]) (S1 := [wM cB cI cJ cZ x_0 x_1 x_2 x_3 x_4 x_5 x_6 x_7 x_8 x_9 x_10 x_11 x_12 x_13 x_14 x_15 x_16 x_17 x_18 x_19 s20]) (S' := [wM cB cI cJ cZ x_0 x_1 x_2 x_3 x_4 x_5 x_6 x_7 x_8 x_9 x_10 x_11 x_12 x_13 x_14 x_15 x_16 x_17 x_18 x_19 s20]) C (c_X8_put l D cB cI cJ cZ x_0 x_1 x_2 x_3 x_4 x_5 x_6 x_7 x_8 x_9 x_10 x_11 x_12 x_13 x_14 x_15 x_16 x_17 x_18 x_19 y21) rfl rfl (gIV ml_X8_159 im_X8_put sl_X8_put in_X8 cd_X8_put) rfl eX8_put rfl ⟨rfl, rfl⟩ ⟨Nat.le_of_ble_eq_true rfl, Nat.le_of_ble_eq_true rfl⟩ rfl rfl rfl [0] rfl rfl rfl rfl (gA_cons aM gA_nil) rfl rfl (Nat.le_of_ble_eq_true rfl) (tdec DX8_send 90 rfl) rfl ?_
            refine g_aload_n (z := 1) C (tdec DX8_send 91 rfl) rfl rfl rfl ?_
            obtain ⟨s22, y23, hF⟩ := o_bind hF
            refine g_callVvMS (q0 := 0) (W' := wM cB cI cJ cZ x_0 x_1 x_2 x_3 x_4 x_5 x_6 x_7 x_8 x_9 x_10 x_11 x_12 x_13 x_14 x_15 x_16 x_17 x_18 x_19 s22) (S := [wM cB cI cJ cZ x_0 x_1 x_2 x_3 x_4 x_5 x_6 x_7 x_8 x_9 x_10 x_11 x_12 x_13 x_14 x_15 x_16 x_17 x_18 x_19 s20]) (S0 := [wM cB cI cJ cZ x_0 x_1 x_2 x_3 x_4 x_5 x_6 x_7 x_8 x_9 x_10 x_11 x_12 x_13 x_14 x_15 x_16 x_17 x_18 x_19 s20]) (S1 := [wM cB cI cJ cZ x_0 x_1 x_2 x_3 x_4 x_5 x_6 x_7 x_8 x_9 x_10 x_11 x_12 x_13 x_14 x_15 x_16 x_17 x_18 x_19 s22]) (S' := [wM cB cI cJ cZ x_0 x_1 x_2 x_3 x_4 x_5 x_6 x_7 x_8 x_9 x_10 x_11 x_12 x_13 x_14 x_15 x_16 x_17 x_18 x_19 s22]) C (c_X8_ends l D cB cI cJ cZ x_0 x_1 x_2 x_3 x_4 x_5 x_6 x_7 x_8 x_9 x_10 x_11 x_12 x_13 x_14 x_15 x_16 x_17 x_18 x_19 y23) rfl rfl (gIV ml_X8_168 im_X8_ends sl_X8_ends in_X8 cd_X8_ends) rfl eX8_ends rfl ⟨rfl, rfl⟩ ⟨Nat.le_of_ble_eq_true rfl, Nat.le_of_ble_eq_true rfl⟩ rfl rfl rfl [0] rfl rfl rfl rfl (gA_cons aM gA_nil) rfl rfl (Nat.le_of_ble_eq_true rfl) (tdec DX8_send 92 rfl) rfl ?_
            refine g_bipush (v := (-3)) C (tdec DX8_send 93 rfl) (by decide) rfl ?_
            refine g_iload_n (z := 4) C (tdec DX8_send 94 rfl) rfl rfl rfl ?_
            refine g_isub C (tdec DX8_send 95 rfl) rfl ?_
            refine g_istore (L' := [(5, .int ((-3) - p3)), (4, .int r10), (0, .ref x_0), (1, .int p1), (2, .int p2), (3, .int p3)]) C (tdec DX8_send 96 rfl) (by decide) rfl rfl ?_
            refine g_aload_n (z := 2) C (tdec DX8_send 97 rfl) rfl rfl rfl ?_
            refine g_iload_n (z := 3) C (tdec DX8_send 98 rfl) rfl rfl rfl ?_
            refine g_iload (z := 0) C (tdec DX8_send 99 rfl) rfl rfl ?_
            refine g_iconst (v := 0) C (tdec DX8_send 100 rfl) (by decide) rfl ?_
            refine g_sipush (v := 512) C (tdec DX8_send 101 rfl) (by decide) rfl ?_
            refine g_iload (z := 1) C (tdec DX8_send 102 rfl) rfl rfl ?_
            obtain ⟨⟨r24, s25⟩, y26, hF⟩ := o_bind hF
            refine g_callViMS (q0 := 0) (W' := wM cB cI cJ cZ x_0 x_1 x_2 x_3 x_4 x_5 x_6 x_7 x_8 x_9 x_10 x_11 x_12 x_13 x_14 x_15 x_16 x_17 x_18 x_19 s25) (S := [wM cB cI cJ cZ x_0 x_1 x_2 x_3 x_4 x_5 x_6 x_7 x_8 x_9 x_10 x_11 x_12 x_13 x_14 x_15 x_16 x_17 x_18 x_19 s22]) (S0 := [wM cB cI cJ cZ x_0 x_1 x_2 x_3 x_4 x_5 x_6 x_7 x_8 x_9 x_10 x_11 x_12 x_13 x_14 x_15 x_16 x_17 x_18 x_19 s22]) (S1 := [wM cB cI cJ cZ x_0 x_1 x_2 x_3 x_4 x_5 x_6 x_7 x_8 x_9 x_10 x_11 x_12 x_13 x_14 x_15 x_16 x_17 x_18 x_19 s25]) (S' := [wM cB cI cJ cZ x_0 x_1 x_2 x_3 x_4 x_5 x_6 x_7 x_8 x_9 x_10 x_11 x_12 x_13 x_14 x_15 x_16 x_17 x_18 x_19 s25]) C (c_X8_brings l D cB cI cJ cZ x_0 x_1 x_2 x_3 x_4 x_5 x_6 x_7 x_8 x_9 x_10 x_11 x_12 x_13 x_14 x_15 x_16 x_17 x_18 x_19 y26) rfl rfl (gIV ml_X8_180 im_X8_brings sl_X8_brings in_X8 cd_X8_brings) rfl eX8_brings rfl ⟨rfl, rfl⟩ ⟨Nat.le_of_ble_eq_true rfl, Nat.le_of_ble_eq_true rfl⟩ rfl rfl rfl [0] rfl rfl rfl rfl (gA_cons aM gA_nil) rfl rfl (Nat.le_of_ble_eq_true rfl) (tdec DX8_send 103 rfl) rfl ?_
            refine g_istore (L' := [(6, .int r24), (5, .int ((-3) - p3)), (4, .int r10), (0, .ref x_0), (1, .int p1), (2, .int p2), (3, .int p3)]) C (tdec DX8_send 104 rfl) (by decide) rfl rfl ?_
            refine g_iconst (v := 0) C (tdec DX8_send 105 rfl) (by decide) rfl ?_
            refine g_istore (L' := [(7, .int 0), (6, .int r24), (5, .int ((-3) - p3)), (4, .int r10), (0, .ref x_0), (1, .int p1), (2, .int p2), (3, .int p3)]) C (tdec DX8_send 106 rfl) (by decide) rfl rfl ?_
            refine g_sub (L' := [(0, .ref x_0), (1, .int p1), (2, .int p2), (3, .int p3), (4, .int r10), (5, .int ((-3) - p3)), (6, .int r24), (7, .int 0)]) [4, 5, 6, 7, 3, 2, 1, 0] rfl ?_
            refine c_FX8_send_L181 C (fun xq50 w7_50 hF => ?_) 100000 _ _ hF
            refine g_aload_n (z := 0) C (tdec DX8_send 195 rfl) rfl rfl rfl ?_
            refine g_ldc2 C (gMem kl_X8_184) (tdec DX8_send 196 rfl) rfl ?_
            refine g_iconst (v := 1) C (tdec DX8_send 197 rfl) (by decide) rfl ?_
            obtain ⟨s51, y52, hF⟩ := o_bind hF
            refine g_callVvMS (q0 := 0) (W' := wM cB cI cJ cZ x_0 x_1 x_2 x_3 x_4 x_5 x_6 x_7 x_8 x_9 x_10 x_11 x_12 x_13 x_14 x_15 x_16 x_17 x_18 x_19 s51) (S := [wM cB cI cJ cZ x_0 x_1 x_2 x_3 x_4 x_5 x_6 x_7 x_8 x_9 x_10 x_11 x_12 x_13 x_14 x_15 x_16 x_17 x_18 x_19 xq50]) (S0 := [wM cB cI cJ cZ x_0 x_1 x_2 x_3 x_4 x_5 x_6 x_7 x_8 x_9 x_10 x_11 x_12 x_13 x_14 x_15 x_16 x_17 x_18 x_19 xq50]) (S1 := [wM cB cI cJ cZ x_0 x_1 x_2 x_3 x_4 x_5 x_6 x_7 x_8 x_9 x_10 x_11 x_12 x_13 x_14 x_15 x_16 x_17 x_18 x_19 s51]) (S' := [wM cB cI cJ cZ x_0 x_1 x_2 x_3 x_4 x_5 x_6 x_7 x_8 x_9 x_10 x_11 x_12 x_13 x_14 x_15 x_16 x_17 x_18 x_19 s51]) C (c_X8_put l D cB cI cJ cZ x_0 x_1 x_2 x_3 x_4 x_5 x_6 x_7 x_8 x_9 x_10 x_11 x_12 x_13 x_14 x_15 x_16 x_17 x_18 x_19 y52) rfl rfl (gIV ml_X8_159 im_X8_put sl_X8_put in_X8 cd_X8_put) rfl eX8_put rfl ⟨rfl, rfl⟩ ⟨Nat.le_of_ble_eq_true rfl, Nat.le_of_ble_eq_true rfl⟩ rfl rfl rfl [0] rfl rfl rfl rfl (gA_cons aM gA_nil) rfl rfl (Nat.le_of_ble_eq_true rfl) (tdec DX8_send 198 rfl) rfl ?_
            refine g_aload_n (z := 0) C (tdec DX8_send 199 rfl) rfl rfl rfl ?_
            refine g_aload_n (z := 0) C (tdec DX8_send 200 rfl) rfl rfl rfl ?_
            refine g_getf (C' := RX8) (T := TX8) (N := 27) (v := .int (MS_recs s51)) C 0 20 (gIn iw_X8) rfl rfl (by decide) (gMem fl_X8_163) rfl rfl (tdec DX8_send 201 rfl) rfl ?_
            refine g_i2l C (tdec DX8_send 202 rfl) rfl ?_
            refine g_iconst (v := 4) C (tdec DX8_send 203 rfl) (by decide) rfl ?_
            obtain ⟨s53, y54, hF⟩ := o_bind hF
            refine g_callVvMS (q0 := 0) (W' := wM cB cI cJ cZ x_0 x_1 x_2 x_3 x_4 x_5 x_6 x_7 x_8 x_9 x_10 x_11 x_12 x_13 x_14 x_15 x_16 x_17 x_18 x_19 s53) (S := [wM cB cI cJ cZ x_0 x_1 x_2 x_3 x_4 x_5 x_6 x_7 x_8 x_9 x_10 x_11 x_12 x_13 x_14 x_15 x_16 x_17 x_18 x_19 s51]) (S0 := [wM cB cI cJ cZ x_0 x_1 x_2 x_3 x_4 x_5 x_6 x_7 x_8 x_9 x_10 x_11 x_12 x_13 x_14 x_15 x_16 x_17 x_18 x_19 s51]) (S1 := [wM cB cI cJ cZ x_0 x_1 x_2 x_3 x_4 x_5 x_6 x_7 x_8 x_9 x_10 x_11 x_12 x_13 x_14 x_15 x_16 x_17 x_18 x_19 s53]) (S' := [wM cB cI cJ cZ x_0 x_1 x_2 x_3 x_4 x_5 x_6 x_7 x_8 x_9 x_10 x_11 x_12 x_13 x_14 x_15 x_16 x_17 x_18 x_19 s53]) C (c_X8_put l D cB cI cJ cZ x_0 x_1 x_2 x_3 x_4 x_5 x_6 x_7 x_8 x_9 x_10 x_11 x_12 x_13 x_14 x_15 x_16 x_17 x_18 x_19 y54) rfl rfl (gIV ml_X8_159 im_X8_put sl_X8_put in_X8 cd_X8_put) rfl eX8_put rfl ⟨rfl, rfl⟩ ⟨Nat.le_of_ble_eq_true rfl, Nat.le_of_ble_eq_true rfl⟩ rfl rfl rfl [0] rfl rfl rfl rfl (gA_cons aM gA_nil) rfl rfl (Nat.le_of_ble_eq_true rfl) (tdec DX8_send 204 rfl) rfl ?_
            refine g_aload_n (z := 0) C (tdec DX8_send 205 rfl) rfl rfl rfl ?_
            obtain ⟨s55, y56, hF⟩ := o_bind hF
            refine g_callVvMS (q0 := 0) (W' := wM cB cI cJ cZ x_0 x_1 x_2 x_3 x_4 x_5 x_6 x_7 x_8 x_9 x_10 x_11 x_12 x_13 x_14 x_15 x_16 x_17 x_18 x_19 s55) (S := [wM cB cI cJ cZ x_0 x_1 x_2 x_3 x_4 x_5 x_6 x_7 x_8 x_9 x_10 x_11 x_12 x_13 x_14 x_15 x_16 x_17 x_18 x_19 s53]) (S0 := [wM cB cI cJ cZ x_0 x_1 x_2 x_3 x_4 x_5 x_6 x_7 x_8 x_9 x_10 x_11 x_12 x_13 x_14 x_15 x_16 x_17 x_18 x_19 s53]) (S1 := [wM cB cI cJ cZ x_0 x_1 x_2 x_3 x_4 x_5 x_6 x_7 x_8 x_9 x_10 x_11 x_12 x_13 x_14 x_15 x_16 x_17 x_18 x_19 s55]) (S' := [wM cB cI cJ cZ x_0 x_1 x_2 x_3 x_4 x_5 x_6 x_7 x_8 x_9 x_10 x_11 x_12 x_13 x_14 x_15 x_16 x_17 x_18 x_19 s55]) C (c_X8_ends l D cB cI cJ cZ x_0 x_1 x_2 x_3 x_4 x_5 x_6 x_7 x_8 x_9 x_10 x_11 x_12 x_13 x_14 x_15 x_16 x_17 x_18 x_19 y56) rfl rfl (gIV ml_X8_168 im_X8_ends sl_X8_ends in_X8 cd_X8_ends) rfl eX8_ends rfl ⟨rfl, rfl⟩ ⟨Nat.le_of_ble_eq_true rfl, Nat.le_of_ble_eq_true rfl⟩ rfl rfl rfl [0] rfl rfl rfl rfl (gA_cons aM gA_nil) rfl rfl (Nat.le_of_ble_eq_true rfl) (tdec DX8_send 206 rfl) rfl ?_
            refine g_aload_n (z := 0) C (tdec DX8_send 207 rfl) rfl rfl rfl ?_
            refine g_getf (C' := RX8) (T := TX8) (N := 27) (v := .int (MS_len s55)) C 0 19 (gIn iw_X8) rfl rfl (by decide) (gMem fl_X8_147) rfl rfl (tdec DX8_send 208 rfl) rfl ?_
            have hr9 := o_some hF
            subst hr9
            exact g_iret C rfl rfl (tdec DX8_send 209 rfl)
          · have hF := o_ifp hF h9
            refine g_iconst (v := 0) C (tdec DX8_send 49 rfl) (by decide) rfl ?_
            refine g_goto (pt := 102) C (tdec DX8_send 50 rfl) (by decide) ?_
            refine g_istore (L' := [(4, .int 0), (0, .ref x_0), (1, .int p1), (2, .int p2), (3, .int p3)]) C (tdec DX8_send 59 rfl) (by decide) rfl rfl ?_
            refine g_aload_n (z := 1) C (tdec DX8_send 60 rfl) rfl rfl rfl ?_
            refine g_lconst (v := 1) C (tdec DX8_send 61 rfl) (by decide) rfl ?_
            refine g_iconst (v := 1) C (tdec DX8_send 62 rfl) (by decide) rfl ?_
            obtain ⟨s57, y58, hF⟩ := o_bind hF
            refine g_callVvMS (q0 := 0) (W' := wM cB cI cJ cZ x_0 x_1 x_2 x_3 x_4 x_5 x_6 x_7 x_8 x_9 x_10 x_11 x_12 x_13 x_14 x_15 x_16 x_17 x_18 x_19 s57) (S := [wM cB cI cJ cZ x_0 x_1 x_2 x_3 x_4 x_5 x_6 x_7 x_8 x_9 x_10 x_11 x_12 x_13 x_14 x_15 x_16 x_17 x_18 x_19 (MS_setsn (MS_setcl (MS_setwr (MS_setrecs (MS_setrf (MS_setlen (MS_setthr x0 3) 0) 0) 0) 0) 0) 0)]) (S0 := [wM cB cI cJ cZ x_0 x_1 x_2 x_3 x_4 x_5 x_6 x_7 x_8 x_9 x_10 x_11 x_12 x_13 x_14 x_15 x_16 x_17 x_18 x_19 (MS_setsn (MS_setcl (MS_setwr (MS_setrecs (MS_setrf (MS_setlen (MS_setthr x0 3) 0) 0) 0) 0) 0) 0)]) (S1 := [wM cB cI cJ cZ x_0 x_1 x_2 x_3 x_4 x_5 x_6 x_7 x_8 x_9 x_10 x_11 x_12 x_13 x_14 x_15 x_16 x_17 x_18 x_19 s57]) (S' := [wM cB cI cJ cZ x_0 x_1 x_2 x_3 x_4 x_5 x_6 x_7 x_8 x_9 x_10 x_11 x_12 x_13 x_14 x_15 x_16 x_17 x_18 x_19 s57]) C (c_X8_put l D cB cI cJ cZ x_0 x_1 x_2 x_3 x_4 x_5 x_6 x_7 x_8 x_9 x_10 x_11 x_12 x_13 x_14 x_15 x_16 x_17 x_18 x_19 y58) rfl rfl (gIV ml_X8_159 im_X8_put sl_X8_put in_X8 cd_X8_put) rfl eX8_put rfl ⟨rfl, rfl⟩ ⟨Nat.le_of_ble_eq_true rfl, Nat.le_of_ble_eq_true rfl⟩ rfl rfl rfl [0] rfl rfl rfl rfl (gA_cons aM gA_nil) rfl rfl (Nat.le_of_ble_eq_true rfl) (tdec DX8_send 63 rfl) rfl ?_
            refine g_aload_n (z := 1) C (tdec DX8_send 64 rfl) rfl rfl rfl ?_
            refine g_iload_n (z := 3) C (tdec DX8_send 65 rfl) rfl rfl rfl ?_
            refine g_iconst (v := (-1)) C (tdec DX8_send 66 rfl) (by decide) rfl ?_
            refine g_icmp_ne (pt := 120) C (tdec DX8_send 67 rfl) (by decide) rfl (fun h => absurd h9 h) (fun _ => ?_)
            refine g_lconst (v := 0) C (tdec DX8_send 68 rfl) (by decide) rfl ?_
            refine g_goto (pt := 131) C (tdec DX8_send 69 rfl) (by decide) ?_
            refine g_bipush (v := 8) C (tdec DX8_send 78 rfl) (by decide) rfl ?_
            obtain ⟨s59, y60, hF⟩ := o_bind hF
            refine g_callVvMS (q0 := 0) (W' := wM cB cI cJ cZ x_0 x_1 x_2 x_3 x_4 x_5 x_6 x_7 x_8 x_9 x_10 x_11 x_12 x_13 x_14 x_15 x_16 x_17 x_18 x_19 s59) (S := [wM cB cI cJ cZ x_0 x_1 x_2 x_3 x_4 x_5 x_6 x_7 x_8 x_9 x_10 x_11 x_12 x_13 x_14 x_15 x_16 x_17 x_18 x_19 s57]) (S0 := [wM cB cI cJ cZ x_0 x_1 x_2 x_3 x_4 x_5 x_6 x_7 x_8 x_9 x_10 x_11 x_12 x_13 x_14 x_15 x_16 x_17 x_18 x_19 s57]) (S1 := [wM cB cI cJ cZ x_0 x_1 x_2 x_3 x_4 x_5 x_6 x_7 x_8 x_9 x_10 x_11 x_12 x_13 x_14 x_15 x_16 x_17 x_18 x_19 s59]) (S' := [wM cB cI cJ cZ x_0 x_1 x_2 x_3 x_4 x_5 x_6 x_7 x_8 x_9 x_10 x_11 x_12 x_13 x_14 x_15 x_16 x_17 x_18 x_19 s59]) C (c_X8_put l D cB cI cJ cZ x_0 x_1 x_2 x_3 x_4 x_5 x_6 x_7 x_8 x_9 x_10 x_11 x_12 x_13 x_14 x_15 x_16 x_17 x_18 x_19 y60) rfl rfl (gIV ml_X8_159 im_X8_put sl_X8_put in_X8 cd_X8_put) rfl eX8_put rfl ⟨rfl, rfl⟩ ⟨Nat.le_of_ble_eq_true rfl, Nat.le_of_ble_eq_true rfl⟩ rfl rfl rfl [0] rfl rfl rfl rfl (gA_cons aM gA_nil) rfl rfl (Nat.le_of_ble_eq_true rfl) (tdec DX8_send 79 rfl) rfl ?_
            refine g_aload_n (z := 1) C (tdec DX8_send 80 rfl) rfl rfl rfl ?_
            refine g_aload_n (z := 1) C (tdec DX8_send 81 rfl) rfl rfl rfl ?_
            refine g_getf (C' := RX8) (T := TX8) (N := 27) (v := .ref x_12) C 0 12 (gIn iw_X8) rfl rfl (by decide) (gMem fl_X8_45) rfl rfl (tdec DX8_send 82 rfl) rfl ?_
            refine g_bipush (v := 20) C (tdec DX8_send 83 rfl) (by decide) rfl ?_
            refine g_iload_n (z := 2) C (tdec DX8_send 84 rfl) rfl rfl rfl ?_
            refine g_imul C (tdec DX8_send 85 rfl) rfl ?_
            refine g_iload_n (z := 4) C (tdec DX8_send 86 rfl) rfl rfl rfl ?_
            refine g_iadd C (tdec DX8_send 87 rfl) rfl ?_
            obtain ⟨r61, y62, hF⟩ := o_bind hF
            refine g_lald C 12 2 rfl rfl y62 (tdec DX8_send 88 rfl) rfl ?_
            refine g_bipush (v := 8) C (tdec DX8_send 89 rfl) (by decide) rfl ?_
            obtain ⟨s63, y64, hF⟩ := o_bind hF
            refine g_callVvMS (q0 := 0) (W' := wM cB cI cJ cZ x_0 x_1 x_2 x_3 x_4 x_5 x_6 x_7 x_8 x_9 x_10 x_11 x_12 x_13 x_14 x_15 x_16 x_17 x_18 x_19 s63) (S := [wM cB cI cJ cZ x_0 x_1 x_2 x_3 x_4 x_5 x_6 x_7 x_8 x_9 x_10 x_11 x_12 x_13 x_14 x_15 x_16 x_17 x_18 x_19 s59]) (S0 := [wM cB cI cJ cZ x_0 x_1 x_2 x_3 x_4 x_5 x_6 x_7 x_8 x_9 x_10 x_11 x_12 x_13 x_14 x_15 x_16 x_17 x_18 x_19 s59]) (S1 := [wM cB cI cJ cZ x_0 x_1 x_2 x_3 x_4 x_5 x_6 x_7 x_8 x_9 x_10 x_11 x_12 x_13 x_14 x_15 x_16 x_17 x_18 x_19 s63]) (S' := [wM cB cI cJ cZ x_0 x_1 x_2 x_3 x_4 x_5 x_6 x_7 x_8 x_9 x_10 x_11 x_12 x_13 x_14 x_15 x_16 x_17 x_18 x_19 s63]) C (c_X8_put l D cB cI cJ cZ x_0 x_1 x_2 x_3 x_4 x_5 x_6 x_7 x_8 x_9 x_10 x_11 x_12 x_13 x_14 x_15 x_16 x_17 x_18 x_19 y64) rfl rfl (gIV ml_X8_159 im_X8_put sl_X8_put in_X8 cd_X8_put) rfl eX8_put rfl ⟨rfl, rfl⟩ ⟨Nat.le_of_ble_eq_true rfl, Nat.le_of_ble_eq_true rfl⟩ rfl rfl rfl [0] rfl rfl rfl rfl (gA_cons aM gA_nil) rfl rfl (Nat.le_of_ble_eq_true rfl) (tdec DX8_send 90 rfl) rfl ?_
            refine g_aload_n (z := 1) C (tdec DX8_send 91 rfl) rfl rfl rfl ?_
            obtain ⟨s65, y66, hF⟩ := o_bind hF
            refine g_callVvMS (q0 := 0) (W' := wM cB cI cJ cZ x_0 x_1 x_2 x_3 x_4 x_5 x_6 x_7 x_8 x_9 x_10 x_11 x_12 x_13 x_14 x_15 x_16 x_17 x_18 x_19 s65) (S := [wM cB cI cJ cZ x_0 x_1 x_2 x_3 x_4 x_5 x_6 x_7 x_8 x_9 x_10 x_11 x_12 x_13 x_14 x_15 x_16 x_17 x_18 x_19 s63]) (S0 := [wM cB cI cJ cZ x_0 x_1 x_2 x_3 x_4 x_5 x_6 x_7 x_8 x_9 x_10 x_11 x_12 x_13 x_14 x_15 x_16 x_17 x_18 x_19 s63]) (S1 := [wM cB cI cJ cZ x_0 x_1 x_2 x_3 x_4 x_5 x_6 x_7 x_8 x_9 x_10 x_11 x_12 x_13 x_14 x_15 x_16 x_17 x_18 x_19 s65]) (S' := [wM cB cI cJ cZ x_0 x_1 x_2 x_3 x_4 x_5 x_6 x_7 x_8 x_9 x_10 x_11 x_12 x_13 x_14 x_15 x_16 x_17 x_18 x_19 s65]) C (c_X8_ends l D cB cI cJ cZ x_0 x_1 x_2 x_3 x_4 x_5 x_6 x_7 x_8 x_9 x_10 x_11 x_12 x_13 x_14 x_15 x_16 x_17 x_18 x_19 y66) rfl rfl (gIV ml_X8_168 im_X8_ends sl_X8_ends in_X8 cd_X8_ends) rfl eX8_ends rfl ⟨rfl, rfl⟩ ⟨Nat.le_of_ble_eq_true rfl, Nat.le_of_ble_eq_true rfl⟩ rfl rfl rfl [0] rfl rfl rfl rfl (gA_cons aM gA_nil) rfl rfl (Nat.le_of_ble_eq_true rfl) (tdec DX8_send 92 rfl) rfl ?_
            refine g_bipush (v := (-3)) C (tdec DX8_send 93 rfl) (by decide) rfl ?_
            refine g_iload_n (z := 4) C (tdec DX8_send 94 rfl) rfl rfl rfl ?_
            refine g_isub C (tdec DX8_send 95 rfl) rfl ?_
            refine g_istore (L' := [(5, .int ((-3) - p3)), (4, .int 0), (0, .ref x_0), (1, .int p1), (2, .int p2), (3, .int p3)]) C (tdec DX8_send 96 rfl) (by decide) rfl rfl ?_
            refine g_aload_n (z := 2) C (tdec DX8_send 97 rfl) rfl rfl rfl ?_
            refine g_iload_n (z := 3) C (tdec DX8_send 98 rfl) rfl rfl rfl ?_
            refine g_iload (z := 0) C (tdec DX8_send 99 rfl) rfl rfl ?_
            refine g_iconst (v := 0) C (tdec DX8_send 100 rfl) (by decide) rfl ?_
            refine g_sipush (v := 512) C (tdec DX8_send 101 rfl) (by decide) rfl ?_
            refine g_iload (z := 1) C (tdec DX8_send 102 rfl) rfl rfl ?_
            obtain ⟨⟨r67, s68⟩, y69, hF⟩ := o_bind hF
            refine g_callViMS (q0 := 0) (W' := wM cB cI cJ cZ x_0 x_1 x_2 x_3 x_4 x_5 x_6 x_7 x_8 x_9 x_10 x_11 x_12 x_13 x_14 x_15 x_16 x_17 x_18 x_19 s68) (S := [wM cB cI cJ cZ x_0 x_1 x_2 x_3 x_4 x_5 x_6 x_7 x_8 x_9 x_10 x_11 x_12 x_13 x_14 x_15 x_16 x_17 x_18 x_19 s65]) (S0 := [wM cB cI cJ cZ x_0 x_1 x_2 x_3 x_4 x_5 x_6 x_7 x_8 x_9 x_10 x_11 x_12 x_13 x_14 x_15 x_16 x_17 x_18 x_19 s65]) (S1 := [wM cB cI cJ cZ x_0 x_1 x_2 x_3 x_4 x_5 x_6 x_7 x_8 x_9 x_10 x_11 x_12 x_13 x_14 x_15 x_16 x_17 x_18 x_19 s68]) (S' := [wM cB cI cJ cZ x_0 x_1 x_2 x_3 x_4 x_5 x_6 x_7 x_8 x_9 x_10 x_11 x_12 x_13 x_14 x_15 x_16 x_17 x_18 x_19 s68]) C (c_X8_brings l D cB cI cJ cZ x_0 x_1 x_2 x_3 x_4 x_5 x_6 x_7 x_8 x_9 x_10 x_11 x_12 x_13 x_14 x_15 x_16 x_17 x_18 x_19 y69) rfl rfl (gIV ml_X8_180 im_X8_brings sl_X8_brings in_X8 cd_X8_brings) rfl eX8_brings rfl ⟨rfl, rfl⟩ ⟨Nat.le_of_ble_eq_true rfl, Nat.le_of_ble_eq_true rfl⟩ rfl rfl rfl [0] rfl rfl rfl rfl (gA_cons aM gA_nil) rfl rfl (Nat.le_of_ble_eq_true rfl) (tdec DX8_send 103 rfl) rfl ?_
            refine g_istore (L' := [(6, .int r67), (5, .int ((-3) - p3)), (4, .int 0), (0, .ref x_0), (1, .int p1), (2, .int p2), (3, .int p3)]) C (tdec DX8_send 104 rfl) (by decide) rfl rfl ?_
            refine g_iconst (v := 0) C (tdec DX8_send 105 rfl) (by decide) rfl ?_
            refine g_istore (L' := [(7, .int 0), (6, .int r67), (5, .int ((-3) - p3)), (4, .int 0), (0, .ref x_0), (1, .int p1), (2, .int p2), (3, .int p3)]) C (tdec DX8_send 106 rfl) (by decide) rfl rfl ?_
            refine g_sub (L' := [(0, .ref x_0), (1, .int p1), (2, .int p2), (3, .int p3), (4, .int 0), (5, .int ((-3) - p3)), (6, .int r67), (7, .int 0)]) [4, 5, 6, 7, 3, 2, 1, 0] rfl ?_
            refine c_FX8_send_L181 C (fun xq70 w7_70 hF => ?_) 100000 _ _ hF
            refine g_aload_n (z := 0) C (tdec DX8_send 195 rfl) rfl rfl rfl ?_
            refine g_ldc2 C (gMem kl_X8_184) (tdec DX8_send 196 rfl) rfl ?_
            refine g_iconst (v := 1) C (tdec DX8_send 197 rfl) (by decide) rfl ?_
            obtain ⟨s71, y72, hF⟩ := o_bind hF
            refine g_callVvMS (q0 := 0) (W' := wM cB cI cJ cZ x_0 x_1 x_2 x_3 x_4 x_5 x_6 x_7 x_8 x_9 x_10 x_11 x_12 x_13 x_14 x_15 x_16 x_17 x_18 x_19 s71) (S := [wM cB cI cJ cZ x_0 x_1 x_2 x_3 x_4 x_5 x_6 x_7 x_8 x_9 x_10 x_11 x_12 x_13 x_14 x_15 x_16 x_17 x_18 x_19 xq70]) (S0 := [wM cB cI cJ cZ x_0 x_1 x_2 x_3 x_4 x_5 x_6 x_7 x_8 x_9 x_10 x_11 x_12 x_13 x_14 x_15 x_16 x_17 x_18 x_19 xq70]) (S1 := [wM cB cI cJ cZ x_0 x_1 x_2 x_3 x_4 x_5 x_6 x_7 x_8 x_9 x_10 x_11 x_12 x_13 x_14 x_15 x_16 x_17 x_18 x_19 s71]) (S' := [wM cB cI cJ cZ x_0 x_1 x_2 x_3 x_4 x_5 x_6 x_7 x_8 x_9 x_10 x_11 x_12 x_13 x_14 x_15 x_16 x_17 x_18 x_19 s71]) C (c_X8_put l D cB cI cJ cZ x_0 x_1 x_2 x_3 x_4 x_5 x_6 x_7 x_8 x_9 x_10 x_11 x_12 x_13 x_14 x_15 x_16 x_17 x_18 x_19 y72) rfl rfl (gIV ml_X8_159 im_X8_put sl_X8_put in_X8 cd_X8_put) rfl eX8_put rfl ⟨rfl, rfl⟩ ⟨Nat.le_of_ble_eq_true rfl, Nat.le_of_ble_eq_true rfl⟩ rfl rfl rfl [0] rfl rfl rfl rfl (gA_cons aM gA_nil) rfl rfl (Nat.le_of_ble_eq_true rfl) (tdec DX8_send 198 rfl) rfl ?_
            refine g_aload_n (z := 0) C (tdec DX8_send 199 rfl) rfl rfl rfl ?_
            refine g_aload_n (z := 0) C (tdec DX8_send 200 rfl) rfl rfl rfl ?_
            refine g_getf (C' := RX8) (T := TX8) (N := 27) (v := .int (MS_recs s71)) C 0 20 (gIn iw_X8) rfl rfl (by decide) (gMem fl_X8_163) rfl rfl (tdec DX8_send 201 rfl) rfl ?_
            refine g_i2l C (tdec DX8_send 202 rfl) rfl ?_
            refine g_iconst (v := 4) C (tdec DX8_send 203 rfl) (by decide) rfl ?_
            obtain ⟨s73, y74, hF⟩ := o_bind hF
            refine g_callVvMS (q0 := 0) (W' := wM cB cI cJ cZ x_0 x_1 x_2 x_3 x_4 x_5 x_6 x_7 x_8 x_9 x_10 x_11 x_12 x_13 x_14 x_15 x_16 x_17 x_18 x_19 s73) (S := [wM cB cI cJ cZ x_0 x_1 x_2 x_3 x_4 x_5 x_6 x_7 x_8 x_9 x_10 x_11 x_12 x_13 x_14 x_15 x_16 x_17 x_18 x_19 s71]) (S0 := [wM cB cI cJ cZ x_0 x_1 x_2 x_3 x_4 x_5 x_6 x_7 x_8 x_9 x_10 x_11 x_12 x_13 x_14 x_15 x_16 x_17 x_18 x_19 s71]) (S1 := [wM cB cI cJ cZ x_0 x_1 x_2 x_3 x_4 x_5 x_6 x_7 x_8 x_9 x_10 x_11 x_12 x_13 x_14 x_15 x_16 x_17 x_18 x_19 s73]) (S' := [wM cB cI cJ cZ x_0 x_1 x_2 x_3 x_4 x_5 x_6 x_7 x_8 x_9 x_10 x_11 x_12 x_13 x_14 x_15 x_16 x_17 x_18 x_19 s73]) C (c_X8_put l D cB cI cJ cZ x_0 x_1 x_2 x_3 x_4 x_5 x_6 x_7 x_8 x_9 x_10 x_11 x_12 x_13 x_14 x_15 x_16 x_17 x_18 x_19 y74) rfl rfl (gIV ml_X8_159 im_X8_put sl_X8_put in_X8 cd_X8_put) rfl eX8_put rfl ⟨rfl, rfl⟩ ⟨Nat.le_of_ble_eq_true rfl, Nat.le_of_ble_eq_true rfl⟩ rfl rfl rfl [0] rfl rfl rfl rfl (gA_cons aM gA_nil) rfl rfl (Nat.le_of_ble_eq_true rfl) (tdec DX8_send 204 rfl) rfl ?_
            refine g_aload_n (z := 0) C (tdec DX8_send 205 rfl) rfl rfl rfl ?_
            obtain ⟨s75, y76, hF⟩ := o_bind hF
            refine g_callVvMS (q0 := 0) (W' := wM cB cI cJ cZ x_0 x_1 x_2 x_3 x_4 x_5 x_6 x_7 x_8 x_9 x_10 x_11 x_12 x_13 x_14 x_15 x_16 x_17 x_18 x_19 s75) (S := [wM cB cI cJ cZ x_0 x_1 x_2 x_3 x_4 x_5 x_6 x_7 x_8 x_9 x_10 x_11 x_12 x_13 x_14 x_15 x_16 x_17 x_18 x_19 s73]) (S0 := [wM cB cI cJ cZ x_0 x_1 x_2 x_3 x_4 x_5 x_6 x_7 x_8 x_9 x_10 x_11 x_12 x_13 x_14 x_15 x_16 x_17 x_18 x_19 s73]) (S1 := [wM cB cI cJ cZ x_0 x_1 x_2 x_3 x_4 x_5 x_6 x_7 x_8 x_9 x_10 x_11 x_12 x_13 x_14 x_15 x_16 x_17 x_18 x_19 s75]) (S' := [wM cB cI cJ cZ x_0 x_1 x_2 x_3 x_4 x_5 x_6 x_7 x_8 x_9 x_10 x_11 x_12 x_13 x_14 x_15 x_16 x_17 x_18 x_19 s75]) C (c_X8_ends l D cB cI cJ cZ x_0 x_1 x_2 x_3 x_4 x_5 x_6 x_7 x_8 x_9 x_10 x_11 x_12 x_13 x_14 x_15 x_16 x_17 x_18 x_19 y76) rfl rfl (gIV ml_X8_168 im_X8_ends sl_X8_ends in_X8 cd_X8_ends) rfl eX8_ends rfl ⟨rfl, rfl⟩ ⟨Nat.le_of_ble_eq_true rfl, Nat.le_of_ble_eq_true rfl⟩ rfl rfl rfl [0] rfl rfl rfl rfl (gA_cons aM gA_nil) rfl rfl (Nat.le_of_ble_eq_true rfl) (tdec DX8_send 206 rfl) rfl ?_
            refine g_aload_n (z := 0) C (tdec DX8_send 207 rfl) rfl rfl rfl ?_
            refine g_getf (C' := RX8) (T := TX8) (N := 27) (v := .int (MS_len s75)) C 0 19 (gIn iw_X8) rfl rfl (by decide) (gMem fl_X8_147) rfl rfl (tdec DX8_send 208 rfl) rfl ?_
            have hr9 := o_some hF
            subst hr9
            exact g_iret C rfl rfl (tdec DX8_send 209 rfl)
        · have hF := o_ifn hF h8
          refine g_iconst (v := 0) C (tdec DX8_send 26 rfl) (by decide) rfl ?_
          have hr9 := o_some hF
          subst hr9
          exact g_iret C rfl rfl (tdec DX8_send 27 rfl)
      · have hF := o_ifn hF h7
        refine g_iload_n (z := 2) C (tdec DX8_send 16 rfl) rfl rfl rfl ?_
        refine g_iload_n (z := 3) C (tdec DX8_send 17 rfl) rfl rfl rfl ?_
        refine g_icmp_lt (pt := 39) C (tdec DX8_send 18 rfl) (by decide) rfl (fun h77 => ?_) (fun h77 => ?_)
        · have hF := o_ifp hF h77
          refine g_iconst (v := 0) C (tdec DX8_send 21 rfl) (by decide) rfl ?_
          refine g_putf (C' := RX8) (T := TX8) (N := 27) (v := .int 0) (ws' := wM cB cI cJ cZ x_0 x_1 x_2 x_3 x_4 x_5 x_6 x_7 x_8 x_9 x_10 x_11 x_12 x_13 x_14 x_15 x_16 x_17 x_18 x_19 (MS_setthr x0 0)) C 0 0 tyX8 tyX8_ok nmX8 (gIn iw_X8) rfl rfl (by decide) (gMem fl_X8_78) rfl rfl (tyX8_ok 0 (by decide)) rfl rfl (Nat.le_of_ble_eq_true rfl) rfl (tdec DX8_send 22 rfl) rfl ?_
          refine g_aload_n (z := 0) C (tdec DX8_send 23 rfl) rfl rfl rfl ?_
          refine g_getf (C' := RX8) (T := TX8) (N := 27) (v := .int 0) C 0 0 (gIn iw_X8) rfl rfl (by decide) (gMem fl_X8_78) rfl rfl (tdec DX8_send 24 rfl) rfl ?_
          refine g_if_le (pt := 52) C (tdec DX8_send 25 rfl) (by decide) rfl (fun h78 => ?_) (fun h78 => ?_)
          · have hF := o_ifp hF h78
            refine g_aload_n (z := 0) C (tdec DX8_send 28 rfl) rfl rfl rfl ?_
            refine g_iconst (v := 0) C (tdec DX8_send 29 rfl) (by decide) rfl ?_
            refine g_putf (C' := RX8) (T := TX8) (N := 27) (v := .int 0) (ws' := wM cB cI cJ cZ x_0 x_1 x_2 x_3 x_4 x_5 x_6 x_7 x_8 x_9 x_10 x_11 x_12 x_13 x_14 x_15 x_16 x_17 x_18 x_19 (MS_setlen (MS_setthr x0 0) 0)) C 0 19 tyX8 tyX8_ok nmX8 (gIn iw_X8) rfl rfl (by decide) (gMem fl_X8_147) rfl rfl (tyX8_ok 19 (by decide)) rfl rfl (Nat.le_of_ble_eq_true rfl) rfl (tdec DX8_send 30 rfl) rfl ?_
            refine g_aload_n (z := 0) C (tdec DX8_send 31 rfl) rfl rfl rfl ?_
            refine g_iconst (v := 0) C (tdec DX8_send 32 rfl) (by decide) rfl ?_
            refine g_putf (C' := RX8) (T := TX8) (N := 27) (v := .int 0) (ws' := wM cB cI cJ cZ x_0 x_1 x_2 x_3 x_4 x_5 x_6 x_7 x_8 x_9 x_10 x_11 x_12 x_13 x_14 x_15 x_16 x_17 x_18 x_19 (MS_setrf (MS_setlen (MS_setthr x0 0) 0) 0)) C 0 26 tyX8 tyX8_ok nmX8 (gIn iw_X8) rfl rfl (by decide) (gMem fl_X8_152) rfl rfl (tyX8_ok 26 (by decide)) rfl rfl (Nat.le_of_ble_eq_true rfl) rfl (tdec DX8_send 33 rfl) rfl ?_
            refine g_aload_n (z := 0) C (tdec DX8_send 34 rfl) rfl rfl rfl ?_
            refine g_iconst (v := 0) C (tdec DX8_send 35 rfl) (by decide) rfl ?_
            refine g_putf (C' := RX8) (T := TX8) (N := 27) (v := .int 0) (ws' := wM cB cI cJ cZ x_0 x_1 x_2 x_3 x_4 x_5 x_6 x_7 x_8 x_9 x_10 x_11 x_12 x_13 x_14 x_15 x_16 x_17 x_18 x_19 (MS_setrecs (MS_setrf (MS_setlen (MS_setthr x0 0) 0) 0) 0)) C 0 20 tyX8 tyX8_ok nmX8 (gIn iw_X8) rfl rfl (by decide) (gMem fl_X8_163) rfl rfl (tyX8_ok 20 (by decide)) rfl rfl (Nat.le_of_ble_eq_true rfl) rfl (tdec DX8_send 36 rfl) rfl ?_
            refine g_aload_n (z := 0) C (tdec DX8_send 37 rfl) rfl rfl rfl ?_
            refine g_iconst (v := 0) C (tdec DX8_send 38 rfl) (by decide) rfl ?_
            refine g_putf (C' := RX8) (T := TX8) (N := 27) (v := .int 0) (ws' := wM cB cI cJ cZ x_0 x_1 x_2 x_3 x_4 x_5 x_6 x_7 x_8 x_9 x_10 x_11 x_12 x_13 x_14 x_15 x_16 x_17 x_18 x_19 (MS_setwr (MS_setrecs (MS_setrf (MS_setlen (MS_setthr x0 0) 0) 0) 0) 0)) C 0 21 tyX8 tyX8_ok nmX8 (gIn iw_X8) rfl rfl (by decide) (gMem fl_X8_178) rfl rfl (tyX8_ok 21 (by decide)) rfl rfl (Nat.le_of_ble_eq_true rfl) rfl (tdec DX8_send 39 rfl) rfl ?_
            refine g_aload_n (z := 0) C (tdec DX8_send 40 rfl) rfl rfl rfl ?_
            refine g_iconst (v := 0) C (tdec DX8_send 41 rfl) (by decide) rfl ?_
            refine g_putf (C' := RX8) (T := TX8) (N := 27) (v := .int 0) (ws' := wM cB cI cJ cZ x_0 x_1 x_2 x_3 x_4 x_5 x_6 x_7 x_8 x_9 x_10 x_11 x_12 x_13 x_14 x_15 x_16 x_17 x_18 x_19 (MS_setcl (MS_setwr (MS_setrecs (MS_setrf (MS_setlen (MS_setthr x0 0) 0) 0) 0) 0) 0)) C 0 22 tyX8 tyX8_ok nmX8 (gIn iw_X8) rfl rfl (by decide) (gMem fl_X8_171) rfl rfl (tyX8_ok 22 (by decide)) rfl rfl (Nat.le_of_ble_eq_true rfl) rfl (tdec DX8_send 42 rfl) rfl ?_
            refine g_aload_n (z := 0) C (tdec DX8_send 43 rfl) rfl rfl rfl ?_
            refine g_iconst (v := 0) C (tdec DX8_send 44 rfl) (by decide) rfl ?_
            refine g_putf (C' := RX8) (T := TX8) (N := 27) (v := .int 0) (ws' := wM cB cI cJ cZ x_0 x_1 x_2 x_3 x_4 x_5 x_6 x_7 x_8 x_9 x_10 x_11 x_12 x_13 x_14 x_15 x_16 x_17 x_18 x_19 (MS_setsn (MS_setcl (MS_setwr (MS_setrecs (MS_setrf (MS_setlen (MS_setthr x0 0) 0) 0) 0) 0) 0) 0)) C 0 23 tyX8 tyX8_ok nmX8 (gIn iw_X8) rfl rfl (by decide) (gMem fl_X8_173) rfl rfl (tyX8_ok 23 (by decide)) rfl rfl (Nat.le_of_ble_eq_true rfl) rfl (tdec DX8_send 45 rfl) rfl ?_
            refine g_iload_n (z := 2) C (tdec DX8_send 46 rfl) rfl rfl rfl ?_
            refine g_iconst (v := (-1)) C (tdec DX8_send 47 rfl) (by decide) rfl ?_
            refine g_icmp_ne (pt := 91) C (tdec DX8_send 48 rfl) (by decide) rfl (fun h79 => ?_) (fun h79 => ?_)
            · have hF := o_ifn hF h79
              refine g_aload_n (z := 0) C (tdec DX8_send 51 rfl) rfl rfl rfl ?_
              refine g_getf (C' := RX8) (T := TX8) (N := 27) (v := .ref x_11) C 0 11 (gIn iw_X8) rfl rfl (by decide) (gMem fl_X8_42) rfl rfl (tdec DX8_send 52 rfl) rfl ?_
              refine g_bipush (v := 20) C (tdec DX8_send 53 rfl) (by decide) rfl ?_
              refine g_iload_n (z := 1) C (tdec DX8_send 54 rfl) rfl rfl rfl ?_
              refine g_imul C (tdec DX8_send 55 rfl) rfl ?_
              refine g_iload_n (z := 2) C (tdec DX8_send 56 rfl) rfl rfl rfl ?_
              refine g_iadd C (tdec DX8_send 57 rfl) rfl ?_
              obtain ⟨r80, y81, hF⟩ := o_bind hF
              refine g_iald C 11 1 rfl rfl y81 (tdec DX8_send 58 rfl) rfl ?_
              refine g_istore (L' := [(4, .int r80), (0, .ref x_0), (1, .int p1), (2, .int p2), (3, .int p3)]) C (tdec DX8_send 59 rfl) (by decide) rfl rfl ?_
              refine g_aload_n (z := 1) C (tdec DX8_send 60 rfl) rfl rfl rfl ?_
              refine g_lconst (v := 1) C (tdec DX8_send 61 rfl) (by decide) rfl ?_
              refine g_iconst (v := 1) C (tdec DX8_send 62 rfl) (by decide) rfl ?_
              obtain ⟨s82, y83, hF⟩ := o_bind hF
              refine g_callVvMS (q0 := 0) (W' := wM cB cI cJ cZ x_0 x_1 x_2 x_3 x_4 x_5 x_6 x_7 x_8 x_9 x_10 x_11 x_12 x_13 x_14 x_15 x_16 x_17 x_18 x_19 s82) (S := [wM cB cI cJ cZ x_0 x_1 x_2 x_3 x_4 x_5 x_6 x_7 x_8 x_9 x_10 x_11 x_12 x_13 x_14 x_15 x_16 x_17 x_18 x_19 (MS_setsn (MS_setcl (MS_setwr (MS_setrecs (MS_setrf (MS_setlen (MS_setthr x0 0) 0) 0) 0) 0) 0) 0)]) (S0 := [wM cB cI cJ cZ x_0 x_1 x_2 x_3 x_4 x_5 x_6 x_7 x_8 x_9 x_10 x_11 x_12 x_13 x_14 x_15 x_16 x_17 x_18 x_19 (MS_setsn (MS_setcl (MS_setwr (MS_setrecs (MS_setrf (MS_setlen (MS_setthr x0 0) 0) 0) 0) 0) 0) 0)]) (S1 := [wM cB cI cJ cZ x_0 x_1 x_2 x_3 x_4 x_5 x_6 x_7 x_8 x_9 x_10 x_11 x_12 x_13 x_14 x_15 x_16 x_17 x_18 x_19 s82]) (S' := [wM cB cI cJ cZ x_0 x_1 x_2 x_3 x_4 x_5 x_6 x_7 x_8 x_9 x_10 x_11 x_12 x_13 x_14 x_15 x_16 x_17 x_18 x_19 s82]) C (c_X8_put l D cB cI cJ cZ x_0 x_1 x_2 x_3 x_4 x_5 x_6 x_7 x_8 x_9 x_10 x_11 x_12 x_13 x_14 x_15 x_16 x_17 x_18 x_19 y83) rfl rfl (gIV ml_X8_159 im_X8_put sl_X8_put in_X8 cd_X8_put) rfl eX8_put rfl ⟨rfl, rfl⟩ ⟨Nat.le_of_ble_eq_true rfl, Nat.le_of_ble_eq_true rfl⟩ rfl rfl rfl [0] rfl rfl rfl rfl (gA_cons aM gA_nil) rfl rfl (Nat.le_of_ble_eq_true rfl) (tdec DX8_send 63 rfl) rfl ?_
              refine g_aload_n (z := 1) C (tdec DX8_send 64 rfl) rfl rfl rfl ?_
              refine g_iload_n (z := 3) C (tdec DX8_send 65 rfl) rfl rfl rfl ?_
              refine g_iconst (v := (-1)) C (tdec DX8_send 66 rfl) (by decide) rfl ?_
              refine g_icmp_ne (pt := 120) C (tdec DX8_send 67 rfl) (by decide) rfl (fun _ => ?_) (fun h => absurd h h79)
              refine g_aload_n (z := 1) C (tdec DX8_send 70 rfl) rfl rfl rfl ?_
              refine g_getf (C' := RX8) (T := TX8) (N := 27) (v := .ref x_12) C 0 12 (gIn iw_X8) rfl rfl (by decide) (gMem fl_X8_45) rfl rfl (tdec DX8_send 71 rfl) rfl ?_
              refine g_bipush (v := 20) C (tdec DX8_send 72 rfl) (by decide) rfl ?_
              refine g_iload_n (z := 2) C (tdec DX8_send 73 rfl) rfl rfl rfl ?_
              refine g_imul C (tdec DX8_send 74 rfl) rfl ?_
              refine g_iload_n (z := 3) C (tdec DX8_send 75 rfl) rfl rfl rfl ?_
              refine g_iadd C (tdec DX8_send 76 rfl) rfl ?_
              obtain ⟨r84, y85, hF⟩ := o_bind hF
              refine g_lald C 12 2 rfl rfl y85 (tdec DX8_send 77 rfl) rfl ?_
              refine g_bipush (v := 8) C (tdec DX8_send 78 rfl) (by decide) rfl ?_
              obtain ⟨s86, y87, hF⟩ := o_bind hF
              refine g_callVvMS (q0 := 0) (W' := wM cB cI cJ cZ x_0 x_1 x_2 x_3 x_4 x_5 x_6 x_7 x_8 x_9 x_10 x_11 x_12 x_13 x_14 x_15 x_16 x_17 x_18 x_19 s86) (S := [wM cB cI cJ cZ x_0 x_1 x_2 x_3 x_4 x_5 x_6 x_7 x_8 x_9 x_10 x_11 x_12 x_13 x_14 x_15 x_16 x_17 x_18 x_19 s82]) (S0 := [wM cB cI cJ cZ x_0 x_1 x_2 x_3 x_4 x_5 x_6 x_7 x_8 x_9 x_10 x_11 x_12 x_13 x_14 x_15 x_16 x_17 x_18 x_19 s82]) (S1 := [wM cB cI cJ cZ x_0 x_1 x_2 x_3 x_4 x_5 x_6 x_7 x_8 x_9 x_10 x_11 x_12 x_13 x_14 x_15 x_16 x_17 x_18 x_19 s86]) (S' := [wM cB cI cJ cZ x_0 x_1 x_2 x_3 x_4 x_5 x_6 x_7 x_8 x_9 x_10 x_11 x_12 x_13 x_14 x_15 x_16 x_17 x_18 x_19 s86]) C (c_X8_put l D cB cI cJ cZ x_0 x_1 x_2 x_3 x_4 x_5 x_6 x_7 x_8 x_9 x_10 x_11 x_12 x_13 x_14 x_15 x_16 x_17 x_18 x_19 y87) rfl rfl (gIV ml_X8_159 im_X8_put sl_X8_put in_X8 cd_X8_put) rfl eX8_put rfl ⟨rfl, rfl⟩ ⟨Nat.le_of_ble_eq_true rfl, Nat.le_of_ble_eq_true rfl⟩ rfl rfl rfl [0] rfl rfl rfl rfl (gA_cons aM gA_nil) rfl rfl (Nat.le_of_ble_eq_true rfl) (tdec DX8_send 79 rfl) rfl ?_
              refine g_aload_n (z := 1) C (tdec DX8_send 80 rfl) rfl rfl rfl ?_
              refine g_aload_n (z := 1) C (tdec DX8_send 81 rfl) rfl rfl rfl ?_
              refine g_getf (C' := RX8) (T := TX8) (N := 27) (v := .ref x_12) C 0 12 (gIn iw_X8) rfl rfl (by decide) (gMem fl_X8_45) rfl rfl (tdec DX8_send 82 rfl) rfl ?_
              refine g_bipush (v := 20) C (tdec DX8_send 83 rfl) (by decide) rfl ?_
              refine g_iload_n (z := 2) C (tdec DX8_send 84 rfl) rfl rfl rfl ?_
              refine g_imul C (tdec DX8_send 85 rfl) rfl ?_
              refine g_iload_n (z := 4) C (tdec DX8_send 86 rfl) rfl rfl rfl ?_
              refine g_iadd C (tdec DX8_send 87 rfl) rfl ?_
              obtain ⟨r88, y89, hF⟩ := o_bind hF
              refine g_lald C 12 2 rfl rfl y89 (tdec DX8_send 88 rfl) rfl ?_
              refine g_bipush (v := 8) C (tdec DX8_send 89 rfl) (by decide) rfl ?_
              obtain ⟨s90, y91, hF⟩ := o_bind hF
              refine g_callVvMS (q0 := 0) (W' := wM cB cI cJ cZ x_0 x_1 x_2 x_3 x_4 x_5 x_6 x_7 x_8 x_9 x_10 x_11 x_12 x_13 x_14 x_15 x_16 x_17 x_18 x_19 s90) (S := [wM cB cI cJ cZ x_0 x_1 x_2 x_3 x_4 x_5 x_6 x_7 x_8 x_9 x_10 x_11 x_12 x_13 x_14 x_15 x_16 x_17 x_18 x_19 s86]) (S0 := [wM cB cI cJ cZ x_0 x_1 x_2 x_3 x_4 x_5 x_6 x_7 x_8 x_9 x_10 x_11 x_12 x_13 x_14 x_15 x_16 x_17 x_18 x_19 s86]) (S1 := [wM cB cI cJ cZ x_0 x_1 x_2 x_3 x_4 x_5 x_6 x_7 x_8 x_9 x_10 x_11 x_12 x_13 x_14 x_15 x_16 x_17 x_18 x_19 s90]) (S' := [wM cB cI cJ cZ x_0 x_1 x_2 x_3 x_4 x_5 x_6 x_7 x_8 x_9 x_10 x_11 x_12 x_13 x_14 x_15 x_16 x_17 x_18 x_19 s90]) C (c_X8_put l D cB cI cJ cZ x_0 x_1 x_2 x_3 x_4 x_5 x_6 x_7 x_8 x_9 x_10 x_11 x_12 x_13 x_14 x_15 x_16 x_17 x_18 x_19 y91) rfl rfl (gIV ml_X8_159 im_X8_put sl_X8_put in_X8 cd_X8_put) rfl eX8_put rfl ⟨rfl, rfl⟩ ⟨Nat.le_of_ble_eq_true rfl, Nat.le_of_ble_eq_true rfl⟩ rfl rfl rfl [0] rfl rfl rfl rfl (gA_cons aM gA_nil) rfl rfl (Nat.le_of_ble_eq_true rfl) (tdec DX8_send 90 rfl) rfl ?_
              refine g_aload_n (z := 1) C (tdec DX8_send 91 rfl) rfl rfl rfl ?_
              obtain ⟨s92, y93, hF⟩ := o_bind hF
              refine g_callVvMS (q0 := 0) (W' := wM cB cI cJ cZ x_0 x_1 x_2 x_3 x_4 x_5 x_6 x_7 x_8 x_9 x_10 x_11 x_12 x_13 x_14 x_15 x_16 x_17 x_18 x_19 s92) (S := [wM cB cI cJ cZ x_0 x_1 x_2 x_3 x_4 x_5 x_6 x_7 x_8 x_9 x_10 x_11 x_12 x_13 x_14 x_15 x_16 x_17 x_18 x_19 s90]) (S0 := [wM cB cI cJ cZ x_0 x_1 x_2 x_3 x_4 x_5 x_6 x_7 x_8 x_9 x_10 x_11 x_12 x_13 x_14 x_15 x_16 x_17 x_18 x_19 s90]) (S1 := [wM cB cI cJ cZ x_0 x_1 x_2 x_3 x_4 x_5 x_6 x_7 x_8 x_9 x_10 x_11 x_12 x_13 x_14 x_15 x_16 x_17 x_18 x_19 s92]) (S' := [wM cB cI cJ cZ x_0 x_1 x_2 x_3 x_4 x_5 x_6 x_7 x_8 x_9 x_10 x_11 x_12 x_13 x_14 x_15 x_16 x_17 x_18 x_19 s92]) C (c_X8_ends l D cB cI cJ cZ x_0 x_1 x_2 x_3 x_4 x_5 x_6 x_7 x_8 x_9 x_10 x_11 x_12 x_13 x_14 x_15 x_16 x_17 x_18 x_19 y93) rfl rfl (gIV ml_X8_168 im_X8_ends sl_X8_ends in_X8 cd_X8_ends) rfl eX8_ends rfl ⟨rfl, rfl⟩ ⟨Nat.le_of_ble_eq_true rfl, Nat.le_of_ble_eq_true rfl⟩ rfl rfl rfl [0] rfl rfl rfl rfl (gA_cons aM gA_nil) rfl rfl (Nat.le_of_ble_eq_true rfl) (tdec DX8_send 92 rfl) rfl ?_
              refine g_bipush (v := (-3)) C (tdec DX8_send 93 rfl) (by decide) rfl ?_
              refine g_iload_n (z := 4) C (tdec DX8_send 94 rfl) rfl rfl rfl ?_
              refine g_isub C (tdec DX8_send 95 rfl) rfl ?_
              refine g_istore (L' := [(5, .int ((-3) - p3)), (4, .int r80), (0, .ref x_0), (1, .int p1), (2, .int p2), (3, .int p3)]) C (tdec DX8_send 96 rfl) (by decide) rfl rfl ?_
              refine g_aload_n (z := 2) C (tdec DX8_send 97 rfl) rfl rfl rfl ?_
              refine g_iload_n (z := 3) C (tdec DX8_send 98 rfl) rfl rfl rfl ?_
              refine g_iload (z := 0) C (tdec DX8_send 99 rfl) rfl rfl ?_
              refine g_iconst (v := 0) C (tdec DX8_send 100 rfl) (by decide) rfl ?_
              refine g_sipush (v := 512) C (tdec DX8_send 101 rfl) (by decide) rfl ?_
              refine g_iload (z := 1) C (tdec DX8_send 102 rfl) rfl rfl ?_
              obtain ⟨⟨r94, s95⟩, y96, hF⟩ := o_bind hF
              refine g_callViMS (q0 := 0) (W' := wM cB cI cJ cZ x_0 x_1 x_2 x_3 x_4 x_5 x_6 x_7 x_8 x_9 x_10 x_11 x_12 x_13 x_14 x_15 x_16 x_17 x_18 x_19 s95) (S := [wM cB cI cJ cZ x_0 x_1 x_2 x_3 x_4 x_5 x_6 x_7 x_8 x_9 x_10 x_11 x_12 x_13 x_14 x_15 x_16 x_17 x_18 x_19 s92]) (S0 := [wM cB cI cJ cZ x_0 x_1 x_2 x_3 x_4 x_5 x_6 x_7 x_8 x_9 x_10 x_11 x_12 x_13 x_14 x_15 x_16 x_17 x_18 x_19 s92]) (S1 := [wM cB cI cJ cZ x_0 x_1 x_2 x_3 x_4 x_5 x_6 x_7 x_8 x_9 x_10 x_11 x_12 x_13 x_14 x_15 x_16 x_17 x_18 x_19 s95]) (S' := [wM cB cI cJ cZ x_0 x_1 x_2 x_3 x_4 x_5 x_6 x_7 x_8 x_9 x_10 x_11 x_12 x_13 x_14 x_15 x_16 x_17 x_18 x_19 s95]) C (c_X8_brings l D cB cI cJ cZ x_0 x_1 x_2 x_3 x_4 x_5 x_6 x_7 x_8 x_9 x_10 x_11 x_12 x_13 x_14 x_15 x_16 x_17 x_18 x_19 y96) rfl rfl (gIV ml_X8_180 im_X8_brings sl_X8_brings in_X8 cd_X8_brings) rfl eX8_brings rfl ⟨rfl, rfl⟩ ⟨Nat.le_of_ble_eq_true rfl, Nat.le_of_ble_eq_true rfl⟩ rfl rfl rfl [0] rfl rfl rfl rfl (gA_cons aM gA_nil) rfl rfl (Nat.le_of_ble_eq_true rfl) (tdec DX8_send 103 rfl) rfl ?_
              refine g_istore (L' := [(6, .int r94), (5, .int ((-3) - p3)), (4, .int r80), (0, .ref x_0), (1, .int p1), (2, .int p2), (3, .int p3)]) C (tdec DX8_send 104 rfl) (by decide) rfl rfl ?_
              refine g_iconst (v := 0) C (tdec DX8_send 105 rfl) (by decide) rfl ?_
              refine g_istore (L' := [(7, .int 0), (6, .int r94), (5, .int ((-3) - p3)), (4, .int r80), (0, .ref x_0), (1, .int p1), (2, .int p2), (3, .int p3)]) C (tdec DX8_send 106 rfl) (by decide) rfl rfl ?_
              refine g_sub (L' := [(0, .ref x_0), (1, .int p1), (2, .int p2), (3, .int p3), (4, .int r80), (5, .int ((-3) - p3)), (6, .int r94), (7, .int 0)]) [4, 5, 6, 7, 3, 2, 1, 0] rfl ?_
              refine c_FX8_send_L181 C (fun xq97 w7_97 hF => ?_) 100000 _ _ hF
              refine g_aload_n (z := 0) C (tdec DX8_send 195 rfl) rfl rfl rfl ?_
              refine g_ldc2 C (gMem kl_X8_184) (tdec DX8_send 196 rfl) rfl ?_
              refine g_iconst (v := 1) C (tdec DX8_send 197 rfl) (by decide) rfl ?_
              obtain ⟨s98, y99, hF⟩ := o_bind hF
              refine g_callVvMS (q0 := 0) (W' := wM cB cI cJ cZ x_0 x_1 x_2 x_3 x_4 x_5 x_6 x_7 x_8 x_9 x_10 x_11 x_12 x_13 x_14 x_15 x_16 x_17 x_18 x_19 s98) (S := [wM cB cI cJ cZ x_0 x_1 x_2 x_3 x_4 x_5 x_6 x_7 x_8 x_9 x_10 x_11 x_12 x_13 x_14 x_15 x_16 x_17 x_18 x_19 xq97]) (S0 := [wM cB cI cJ cZ x_0 x_1 x_2 x_3 x_4 x_5 x_6 x_7 x_8 x_9 x_10 x_11 x_12 x_13 x_14 x_15 x_16 x_17 x_18 x_19 xq97]) (S1 := [wM cB cI cJ cZ x_0 x_1 x_2 x_3 x_4 x_5 x_6 x_7 x_8 x_9 x_10 x_11 x_12 x_13 x_14 x_15 x_16 x_17 x_18 x_19 s98]) (S' := [wM cB cI cJ cZ x_0 x_1 x_2 x_3 x_4 x_5 x_6 x_7 x_8 x_9 x_10 x_11 x_12 x_13 x_14 x_15 x_16 x_17 x_18 x_19 s98]) C (c_X8_put l D cB cI cJ cZ x_0 x_1 x_2 x_3 x_4 x_5 x_6 x_7 x_8 x_9 x_10 x_11 x_12 x_13 x_14 x_15 x_16 x_17 x_18 x_19 y99) rfl rfl (gIV ml_X8_159 im_X8_put sl_X8_put in_X8 cd_X8_put) rfl eX8_put rfl ⟨rfl, rfl⟩ ⟨Nat.le_of_ble_eq_true rfl, Nat.le_of_ble_eq_true rfl⟩ rfl rfl rfl [0] rfl rfl rfl rfl (gA_cons aM gA_nil) rfl rfl (Nat.le_of_ble_eq_true rfl) (tdec DX8_send 198 rfl) rfl ?_
              refine g_aload_n (z := 0) C (tdec DX8_send 199 rfl) rfl rfl rfl ?_
              refine g_aload_n (z := 0) C (tdec DX8_send 200 rfl) rfl rfl rfl ?_
              refine g_getf (C' := RX8) (T := TX8) (N := 27) (v := .int (MS_recs s98)) C 0 20 (gIn iw_X8) rfl rfl (by decide) (gMem fl_X8_163) rfl rfl (tdec DX8_send 201 rfl) rfl ?_
              refine g_i2l C (tdec DX8_send 202 rfl) rfl ?_
              refine g_iconst (v := 4) C (tdec DX8_send 203 rfl) (by decide) rfl ?_
              obtain ⟨s100, y101, hF⟩ := o_bind hF
              refine g_callVvMS (q0 := 0) (W' := wM cB cI cJ cZ x_0 x_1 x_2 x_3 x_4 x_5 x_6 x_7 x_8 x_9 x_10 x_11 x_12 x_13 x_14 x_15 x_16 x_17 x_18 x_19 s100) (S := [wM cB cI cJ cZ x_0 x_1 x_2 x_3 x_4 x_5 x_6 x_7 x_8 x_9 x_10 x_11 x_12 x_13 x_14 x_15 x_16 x_17 x_18 x_19 s98]) (S0 := [wM cB cI cJ cZ x_0 x_1 x_2 x_3 x_4 x_5 x_6 x_7 x_8 x_9 x_10 x_11 x_12 x_13 x_14 x_15 x_16 x_17 x_18 x_19 s98]) (S1 := [wM cB cI cJ cZ x_0 x_1 x_2 x_3 x_4 x_5 x_6 x_7 x_8 x_9 x_10 x_11 x_12 x_13 x_14 x_15 x_16 x_17 x_18 x_19 s100]) (S' := [wM cB cI cJ cZ x_0 x_1 x_2 x_3 x_4 x_5 x_6 x_7 x_8 x_9 x_10 x_11 x_12 x_13 x_14 x_15 x_16 x_17 x_18 x_19 s100]) C (c_X8_put l D cB cI cJ cZ x_0 x_1 x_2 x_3 x_4 x_5 x_6 x_7 x_8 x_9 x_10 x_11 x_12 x_13 x_14 x_15 x_16 x_17 x_18 x_19 y101) rfl rfl (gIV ml_X8_159 im_X8_put sl_X8_put in_X8 cd_X8_put) rfl eX8_put rfl ⟨rfl, rfl⟩ ⟨Nat.le_of_ble_eq_true rfl, Nat.le_of_ble_eq_true rfl⟩ rfl rfl rfl [0] rfl rfl rfl rfl (gA_cons aM gA_nil) rfl rfl (Nat.le_of_ble_eq_true rfl) (tdec DX8_send 204 rfl) rfl ?_
              refine g_aload_n (z := 0) C (tdec DX8_send 205 rfl) rfl rfl rfl ?_
              obtain ⟨s102, y103, hF⟩ := o_bind hF
              refine g_callVvMS (q0 := 0) (W' := wM cB cI cJ cZ x_0 x_1 x_2 x_3 x_4 x_5 x_6 x_7 x_8 x_9 x_10 x_11 x_12 x_13 x_14 x_15 x_16 x_17 x_18 x_19 s102) (S := [wM cB cI cJ cZ x_0 x_1 x_2 x_3 x_4 x_5 x_6 x_7 x_8 x_9 x_10 x_11 x_12 x_13 x_14 x_15 x_16 x_17 x_18 x_19 s100]) (S0 := [wM cB cI cJ cZ x_0 x_1 x_2 x_3 x_4 x_5 x_6 x_7 x_8 x_9 x_10 x_11 x_12 x_13 x_14 x_15 x_16 x_17 x_18 x_19 s100]) (S1 := [wM cB cI cJ cZ x_0 x_1 x_2 x_3 x_4 x_5 x_6 x_7 x_8 x_9 x_10 x_11 x_12 x_13 x_14 x_15 x_16 x_17 x_18 x_19 s102]) (S' := [wM cB cI cJ cZ x_0 x_1 x_2 x_3 x_4 x_5 x_6 x_7 x_8 x_9 x_10 x_11 x_12 x_13 x_14 x_15 x_16 x_17 x_18 x_19 s102]) C (c_X8_ends l D cB cI cJ cZ x_0 x_1 x_2 x_3 x_4 x_5 x_6 x_7 x_8 x_9 x_10 x_11 x_12 x_13 x_14 x_15 x_16 x_17 x_18 x_19 y103) rfl rfl (gIV ml_X8_168 im_X8_ends sl_X8_ends in_X8 cd_X8_ends) rfl eX8_ends rfl ⟨rfl, rfl⟩ ⟨Nat.le_of_ble_eq_true rfl, Nat.le_of_ble_eq_true rfl⟩ rfl rfl rfl [0] rfl rfl rfl rfl (gA_cons aM gA_nil) rfl rfl (Nat.le_of_ble_eq_true rfl) (tdec DX8_send 206 rfl) rfl ?_
              refine g_aload_n (z := 0) C (tdec DX8_send 207 rfl) rfl rfl rfl ?_
              refine g_getf (C' := RX8) (T := TX8) (N := 27) (v := .int (MS_len s102)) C 0 19 (gIn iw_X8) rfl rfl (by decide) (gMem fl_X8_147) rfl rfl (tdec DX8_send 208 rfl) rfl ?_
              have hr9 := o_some hF
              subst hr9
              exact g_iret C rfl rfl (tdec DX8_send 209 rfl)
            · have hF := o_ifp hF h79
              refine g_iconst (v := 0) C (tdec DX8_send 49 rfl) (by decide) rfl ?_
              refine g_goto (pt := 102) C (tdec DX8_send 50 rfl) (by decide) ?_
              refine g_istore (L' := [(4, .int 0), (0, .ref x_0), (1, .int p1), (2, .int p2), (3, .int p3)]) C (tdec DX8_send 59 rfl) (by decide) rfl rfl ?_
              refine g_aload_n (z := 1) C (tdec DX8_send 60 rfl) rfl rfl rfl ?_
              refine g_lconst (v := 1) C (tdec DX8_send 61 rfl) (by decide) rfl ?_
              refine g_iconst (v := 1) C (tdec DX8_send 62 rfl) (by decide) rfl ?_
              obtain ⟨s104, y105, hF⟩ := o_bind hF
              refine g_callVvMS (q0 := 0) (W' := wM cB cI cJ cZ x_0 x_1 x_2 x_3 x_4 x_5 x_6 x_7 x_8 x_9 x_10 x_11 x_12 x_13 x_14 x_15 x_16 x_17 x_18 x_19 s104) (S := [wM cB cI cJ cZ x_0 x_1 x_2 x_3 x_4 x_5 x_6 x_7 x_8 x_9 x_10 x_11 x_12 x_13 x_14 x_15 x_16 x_17 x_18 x_19 (MS_setsn (MS_setcl (MS_setwr (MS_setrecs (MS_setrf (MS_setlen (MS_setthr x0 0) 0) 0) 0) 0) 0) 0)]) (S0 := [wM cB cI cJ cZ x_0 x_1 x_2 x_3 x_4 x_5 x_6 x_7 x_8 x_9 x_10 x_11 x_12 x_13 x_14 x_15 x_16 x_17 x_18 x_19 (MS_setsn (MS_setcl (MS_setwr (MS_setrecs (MS_setrf (MS_setlen (MS_setthr x0 0) 0) 0) 0) 0) 0) 0)]) (S1 := [wM cB cI cJ cZ x_0 x_1 x_2 x_3 x_4 x_5 x_6 x_7 x_8 x_9 x_10 x_11 x_12 x_13 x_14 x_15 x_16 x_17 x_18 x_19 s104]) (S' := [wM cB cI cJ cZ x_0 x_1 x_2 x_3 x_4 x_5 x_6 x_7 x_8 x_9 x_10 x_11 x_12 x_13 x_14 x_15 x_16 x_17 x_18 x_19 s104]) C (c_X8_put l D cB cI cJ cZ x_0 x_1 x_2 x_3 x_4 x_5 x_6 x_7 x_8 x_9 x_10 x_11 x_12 x_13 x_14 x_15 x_16 x_17 x_18 x_19 y105) rfl rfl (gIV ml_X8_159 im_X8_put sl_X8_put in_X8 cd_X8_put) rfl eX8_put rfl ⟨rfl, rfl⟩ ⟨Nat.le_of_ble_eq_true rfl, Nat.le_of_ble_eq_true rfl⟩ rfl rfl rfl [0] rfl rfl rfl rfl (gA_cons aM gA_nil) rfl rfl (Nat.le_of_ble_eq_true rfl) (tdec DX8_send 63 rfl) rfl ?_
              refine g_aload_n (z := 1) C (tdec DX8_send 64 rfl) rfl rfl rfl ?_
              refine g_iload_n (z := 3) C (tdec DX8_send 65 rfl) rfl rfl rfl ?_
              refine g_iconst (v := (-1)) C (tdec DX8_send 66 rfl) (by decide) rfl ?_
              refine g_icmp_ne (pt := 120) C (tdec DX8_send 67 rfl) (by decide) rfl (fun h => absurd h79 h) (fun _ => ?_)
              refine g_lconst (v := 0) C (tdec DX8_send 68 rfl) (by decide) rfl ?_
              refine g_goto (pt := 131) C (tdec DX8_send 69 rfl) (by decide) ?_
              refine g_bipush (v := 8) C (tdec DX8_send 78 rfl) (by decide) rfl ?_
              obtain ⟨s106, y107, hF⟩ := o_bind hF
              refine g_callVvMS (q0 := 0) (W' := wM cB cI cJ cZ x_0 x_1 x_2 x_3 x_4 x_5 x_6 x_7 x_8 x_9 x_10 x_11 x_12 x_13 x_14 x_15 x_16 x_17 x_18 x_19 s106) (S := [wM cB cI cJ cZ x_0 x_1 x_2 x_3 x_4 x_5 x_6 x_7 x_8 x_9 x_10 x_11 x_12 x_13 x_14 x_15 x_16 x_17 x_18 x_19 s104]) (S0 := [wM cB cI cJ cZ x_0 x_1 x_2 x_3 x_4 x_5 x_6 x_7 x_8 x_9 x_10 x_11 x_12 x_13 x_14 x_15 x_16 x_17 x_18 x_19 s104]) (S1 := [wM cB cI cJ cZ x_0 x_1 x_2 x_3 x_4 x_5 x_6 x_7 x_8 x_9 x_10 x_11 x_12 x_13 x_14 x_15 x_16 x_17 x_18 x_19 s106]) (S' := [wM cB cI cJ cZ x_0 x_1 x_2 x_3 x_4 x_5 x_6 x_7 x_8 x_9 x_10 x_11 x_12 x_13 x_14 x_15 x_16 x_17 x_18 x_19 s106]) C (c_X8_put l D cB cI cJ cZ x_0 x_1 x_2 x_3 x_4 x_5 x_6 x_7 x_8 x_9 x_10 x_11 x_12 x_13 x_14 x_15 x_16 x_17 x_18 x_19 y107) rfl rfl (gIV ml_X8_159 im_X8_put sl_X8_put in_X8 cd_X8_put) rfl eX8_put rfl ⟨rfl, rfl⟩ ⟨Nat.le_of_ble_eq_true rfl, Nat.le_of_ble_eq_true rfl⟩ rfl rfl rfl [0] rfl rfl rfl rfl (gA_cons aM gA_nil) rfl rfl (Nat.le_of_ble_eq_true rfl) (tdec DX8_send 79 rfl) rfl ?_
              refine g_aload_n (z := 1) C (tdec DX8_send 80 rfl) rfl rfl rfl ?_
              refine g_aload_n (z := 1) C (tdec DX8_send 81 rfl) rfl rfl rfl ?_
              refine g_getf (C' := RX8) (T := TX8) (N := 27) (v := .ref x_12) C 0 12 (gIn iw_X8) rfl rfl (by decide) (gMem fl_X8_45) rfl rfl (tdec DX8_send 82 rfl) rfl ?_
              refine g_bipush (v := 20) C (tdec DX8_send 83 rfl) (by decide) rfl ?_
              refine g_iload_n (z := 2) C (tdec DX8_send 84 rfl) rfl rfl rfl ?_
              refine g_imul C (tdec DX8_send 85 rfl) rfl ?_
              refine g_iload_n (z := 4) C (tdec DX8_send 86 rfl) rfl rfl rfl ?_
              refine g_iadd C (tdec DX8_send 87 rfl) rfl ?_
              obtain ⟨r108, y109, hF⟩ := o_bind hF
              refine g_lald C 12 2 rfl rfl y109 (tdec DX8_send 88 rfl) rfl ?_
              refine g_bipush (v := 8) C (tdec DX8_send 89 rfl) (by decide) rfl ?_
              obtain ⟨s110, y111, hF⟩ := o_bind hF
              refine g_callVvMS (q0 := 0) (W' := wM cB cI cJ cZ x_0 x_1 x_2 x_3 x_4 x_5 x_6 x_7 x_8 x_9 x_10 x_11 x_12 x_13 x_14 x_15 x_16 x_17 x_18 x_19 s110) (S := [wM cB cI cJ cZ x_0 x_1 x_2 x_3 x_4 x_5 x_6 x_7 x_8 x_9 x_10 x_11 x_12 x_13 x_14 x_15 x_16 x_17 x_18 x_19 s106]) (S0 := [wM cB cI cJ cZ x_0 x_1 x_2 x_3 x_4 x_5 x_6 x_7 x_8 x_9 x_10 x_11 x_12 x_13 x_14 x_15 x_16 x_17 x_18 x_19 s106]) (S1 := [wM cB cI cJ cZ x_0 x_1 x_2 x_3 x_4 x_5 x_6 x_7 x_8 x_9 x_10 x_11 x_12 x_13 x_14 x_15 x_16 x_17 x_18 x_19 s110]) (S' := [wM cB cI cJ cZ x_0 x_1 x_2 x_3 x_4 x_5 x_6 x_7 x_8 x_9 x_10 x_11 x_12 x_13 x_14 x_15 x_16 x_17 x_18 x_19 s110]) C (c_X8_put l D cB cI cJ cZ x_0 x_1 x_2 x_3 x_4 x_5 x_6 x_7 x_8 x_9 x_10 x_11 x_12 x_13 x_14 x_15 x_16 x_17 x_18 x_19 y111) rfl rfl (gIV ml_X8_159 im_X8_put sl_X8_put in_X8 cd_X8_put) rfl eX8_put rfl ⟨rfl, rfl⟩ ⟨Nat.le_of_ble_eq_true rfl, Nat.le_of_ble_eq_true rfl⟩ rfl rfl rfl [0] rfl rfl rfl rfl (gA_cons aM gA_nil) rfl rfl (Nat.le_of_ble_eq_true rfl) (tdec DX8_send 90 rfl) rfl ?_
              refine g_aload_n (z := 1) C (tdec DX8_send 91 rfl) rfl rfl rfl ?_
              obtain ⟨s112, y113, hF⟩ := o_bind hF
              refine g_callVvMS (q0 := 0) (W' := wM cB cI cJ cZ x_0 x_1 x_2 x_3 x_4 x_5 x_6 x_7 x_8 x_9 x_10 x_11 x_12 x_13 x_14 x_15 x_16 x_17 x_18 x_19 s112) (S := [wM cB cI cJ cZ x_0 x_1 x_2 x_3 x_4 x_5 x_6 x_7 x_8 x_9 x_10 x_11 x_12 x_13 x_14 x_15 x_16 x_17 x_18 x_19 s110]) (S0 := [wM cB cI cJ cZ x_0 x_1 x_2 x_3 x_4 x_5 x_6 x_7 x_8 x_9 x_10 x_11 x_12 x_13 x_14 x_15 x_16 x_17 x_18 x_19 s110]) (S1 := [wM cB cI cJ cZ x_0 x_1 x_2 x_3 x_4 x_5 x_6 x_7 x_8 x_9 x_10 x_11 x_12 x_13 x_14 x_15 x_16 x_17 x_18 x_19 s112]) (S' := [wM cB cI cJ cZ x_0 x_1 x_2 x_3 x_4 x_5 x_6 x_7 x_8 x_9 x_10 x_11 x_12 x_13 x_14 x_15 x_16 x_17 x_18 x_19 s112]) C (c_X8_ends l D cB cI cJ cZ x_0 x_1 x_2 x_3 x_4 x_5 x_6 x_7 x_8 x_9 x_10 x_11 x_12 x_13 x_14 x_15 x_16 x_17 x_18 x_19 y113) rfl rfl (gIV ml_X8_168 im_X8_ends sl_X8_ends in_X8 cd_X8_ends) rfl eX8_ends rfl ⟨rfl, rfl⟩ ⟨Nat.le_of_ble_eq_true rfl, Nat.le_of_ble_eq_true rfl⟩ rfl rfl rfl [0] rfl rfl rfl rfl (gA_cons aM gA_nil) rfl rfl (Nat.le_of_ble_eq_true rfl) (tdec DX8_send 92 rfl) rfl ?_
              refine g_bipush (v := (-3)) C (tdec DX8_send 93 rfl) (by decide) rfl ?_
              refine g_iload_n (z := 4) C (tdec DX8_send 94 rfl) rfl rfl rfl ?_
              refine g_isub C (tdec DX8_send 95 rfl) rfl ?_
              refine g_istore (L' := [(5, .int ((-3) - p3)), (4, .int 0), (0, .ref x_0), (1, .int p1), (2, .int p2), (3, .int p3)]) C (tdec DX8_send 96 rfl) (by decide) rfl rfl ?_
              refine g_aload_n (z := 2) C (tdec DX8_send 97 rfl) rfl rfl rfl ?_
              refine g_iload_n (z := 3) C (tdec DX8_send 98 rfl) rfl rfl rfl ?_
              refine g_iload (z := 0) C (tdec DX8_send 99 rfl) rfl rfl ?_
              refine g_iconst (v := 0) C (tdec DX8_send 100 rfl) (by decide) rfl ?_
              refine g_sipush (v := 512) C (tdec DX8_send 101 rfl) (by decide) rfl ?_
              refine g_iload (z := 1) C (tdec DX8_send 102 rfl) rfl rfl ?_
              obtain ⟨⟨r114, s115⟩, y116, hF⟩ := o_bind hF
              refine g_callViMS (q0 := 0) (W' := wM cB cI cJ cZ x_0 x_1 x_2 x_3 x_4 x_5 x_6 x_7 x_8 x_9 x_10 x_11 x_12 x_13 x_14 x_15 x_16 x_17 x_18 x_19 s115) (S := [wM cB cI cJ cZ x_0 x_1 x_2 x_3 x_4 x_5 x_6 x_7 x_8 x_9 x_10 x_11 x_12 x_13 x_14 x_15 x_16 x_17 x_18 x_19 s112]) (S0 := [wM cB cI cJ cZ x_0 x_1 x_2 x_3 x_4 x_5 x_6 x_7 x_8 x_9 x_10 x_11 x_12 x_13 x_14 x_15 x_16 x_17 x_18 x_19 s112]) (S1 := [wM cB cI cJ cZ x_0 x_1 x_2 x_3 x_4 x_5 x_6 x_7 x_8 x_9 x_10 x_11 x_12 x_13 x_14 x_15 x_16 x_17 x_18 x_19 s115]) (S' := [wM cB cI cJ cZ x_0 x_1 x_2 x_3 x_4 x_5 x_6 x_7 x_8 x_9 x_10 x_11 x_12 x_13 x_14 x_15 x_16 x_17 x_18 x_19 s115]) C (c_X8_brings l D cB cI cJ cZ x_0 x_1 x_2 x_3 x_4 x_5 x_6 x_7 x_8 x_9 x_10 x_11 x_12 x_13 x_14 x_15 x_16 x_17 x_18 x_19 y116) rfl rfl (gIV ml_X8_180 im_X8_brings sl_X8_brings in_X8 cd_X8_brings) rfl eX8_brings rfl ⟨rfl, rfl⟩ ⟨Nat.le_of_ble_eq_true rfl, Nat.le_of_ble_eq_true rfl⟩ rfl rfl rfl [0] rfl rfl rfl rfl (gA_cons aM gA_nil) rfl rfl (Nat.le_of_ble_eq_true rfl) (tdec DX8_send 103 rfl) rfl ?_
              refine g_istore (L' := [(6, .int r114), (5, .int ((-3) - p3)), (4, .int 0), (0, .ref x_0), (1, .int p1), (2, .int p2), (3, .int p3)]) C (tdec DX8_send 104 rfl) (by decide) rfl rfl ?_
              refine g_iconst (v := 0) C (tdec DX8_send 105 rfl) (by decide) rfl ?_
              refine g_istore (L' := [(7, .int 0), (6, .int r114), (5, .int ((-3) - p3)), (4, .int 0), (0, .ref x_0), (1, .int p1), (2, .int p2), (3, .int p3)]) C (tdec DX8_send 106 rfl) (by decide) rfl rfl ?_
              refine g_sub (L' := [(0, .ref x_0), (1, .int p1), (2, .int p2), (3, .int p3), (4, .int 0), (5, .int ((-3) - p3)), (6, .int r114), (7, .int 0)]) [4, 5, 6, 7, 3, 2, 1, 0] rfl ?_
              refine c_FX8_send_L181 C (fun xq117 w7_117 hF => ?_) 100000 _ _ hF
              refine g_aload_n (z := 0) C (tdec DX8_send 195 rfl) rfl rfl rfl ?_
              refine g_ldc2 C (gMem kl_X8_184) (tdec DX8_send 196 rfl) rfl ?_
              refine g_iconst (v := 1) C (tdec DX8_send 197 rfl) (by decide) rfl ?_
              obtain ⟨s118, y119, hF⟩ := o_bind hF
              refine g_callVvMS (q0 := 0) (W' := wM cB cI cJ cZ x_0 x_1 x_2 x_3 x_4 x_5 x_6 x_7 x_8 x_9 x_10 x_11 x_12 x_13 x_14 x_15 x_16 x_17 x_18 x_19 s118) (S := [wM cB cI cJ cZ x_0 x_1 x_2 x_3 x_4 x_5 x_6 x_7 x_8 x_9 x_10 x_11 x_12 x_13 x_14 x_15 x_16 x_17 x_18 x_19 xq117]) (S0 := [wM cB cI cJ cZ x_0 x_1 x_2 x_3 x_4 x_5 x_6 x_7 x_8 x_9 x_10 x_11 x_12 x_13 x_14 x_15 x_16 x_17 x_18 x_19 xq117]) (S1 := [wM cB cI cJ cZ x_0 x_1 x_2 x_3 x_4 x_5 x_6 x_7 x_8 x_9 x_10 x_11 x_12 x_13 x_14 x_15 x_16 x_17 x_18 x_19 s118]) (S' := [wM cB cI cJ cZ x_0 x_1 x_2 x_3 x_4 x_5 x_6 x_7 x_8 x_9 x_10 x_11 x_12 x_13 x_14 x_15 x_16 x_17 x_18 x_19 s118]) C (c_X8_put l D cB cI cJ cZ x_0 x_1 x_2 x_3 x_4 x_5 x_6 x_7 x_8 x_9 x_10 x_11 x_12 x_13 x_14 x_15 x_16 x_17 x_18 x_19 y119) rfl rfl (gIV ml_X8_159 im_X8_put sl_X8_put in_X8 cd_X8_put) rfl eX8_put rfl ⟨rfl, rfl⟩ ⟨Nat.le_of_ble_eq_true rfl, Nat.le_of_ble_eq_true rfl⟩ rfl rfl rfl [0] rfl rfl rfl rfl (gA_cons aM gA_nil) rfl rfl (Nat.le_of_ble_eq_true rfl) (tdec DX8_send 198 rfl) rfl ?_
              refine g_aload_n (z := 0) C (tdec DX8_send 199 rfl) rfl rfl rfl ?_
              refine g_aload_n (z := 0) C (tdec DX8_send 200 rfl) rfl rfl rfl ?_
              refine g_getf (C' := RX8) (T := TX8) (N := 27) (v := .int (MS_recs s118)) C 0 20 (gIn iw_X8) rfl rfl (by decide) (gMem fl_X8_163) rfl rfl (tdec DX8_send 201 rfl) rfl ?_
              refine g_i2l C (tdec DX8_send 202 rfl) rfl ?_
              refine g_iconst (v := 4) C (tdec DX8_send 203 rfl) (by decide) rfl ?_
              obtain ⟨s120, y121, hF⟩ := o_bind hF
              refine g_callVvMS (q0 := 0) (W' := wM cB cI cJ cZ x_0 x_1 x_2 x_3 x_4 x_5 x_6 x_7 x_8 x_9 x_10 x_11 x_12 x_13 x_14 x_15 x_16 x_17 x_18 x_19 s120) (S := [wM cB cI cJ cZ x_0 x_1 x_2 x_3 x_4 x_5 x_6 x_7 x_8 x_9 x_10 x_11 x_12 x_13 x_14 x_15 x_16 x_17 x_18 x_19 s118]) (S0 := [wM cB cI cJ cZ x_0 x_1 x_2 x_3 x_4 x_5 x_6 x_7 x_8 x_9 x_10 x_11 x_12 x_13 x_14 x_15 x_16 x_17 x_18 x_19 s118]) (S1 := [wM cB cI cJ cZ x_0 x_1 x_2 x_3 x_4 x_5 x_6 x_7 x_8 x_9 x_10 x_11 x_12 x_13 x_14 x_15 x_16 x_17 x_18 x_19 s120]) (S' := [wM cB cI cJ cZ x_0 x_1 x_2 x_3 x_4 x_5 x_6 x_7 x_8 x_9 x_10 x_11 x_12 x_13 x_14 x_15 x_16 x_17 x_18 x_19 s120]) C (c_X8_put l D cB cI cJ cZ x_0 x_1 x_2 x_3 x_4 x_5 x_6 x_7 x_8 x_9 x_10 x_11 x_12 x_13 x_14 x_15 x_16 x_17 x_18 x_19 y121) rfl rfl (gIV ml_X8_159 im_X8_put sl_X8_put in_X8 cd_X8_put) rfl eX8_put rfl ⟨rfl, rfl⟩ ⟨Nat.le_of_ble_eq_true rfl, Nat.le_of_ble_eq_true rfl⟩ rfl rfl rfl [0] rfl rfl rfl rfl (gA_cons aM gA_nil) rfl rfl (Nat.le_of_ble_eq_true rfl) (tdec DX8_send 204 rfl) rfl ?_
              refine g_aload_n (z := 0) C (tdec DX8_send 205 rfl) rfl rfl rfl ?_
              obtain ⟨s122, y123, hF⟩ := o_bind hF
              refine g_callVvMS (q0 := 0) (W' := wM cB cI cJ cZ x_0 x_1 x_2 x_3 x_4 x_5 x_6 x_7 x_8 x_9 x_10 x_11 x_12 x_13 x_14 x_15 x_16 x_17 x_18 x_19 s122) (S := [wM cB cI cJ cZ x_0 x_1 x_2 x_3 x_4 x_5 x_6 x_7 x_8 x_9 x_10 x_11 x_12 x_13 x_14 x_15 x_16 x_17 x_18 x_19 s120]) (S0 := [wM cB cI cJ cZ x_0 x_1 x_2 x_3 x_4 x_5 x_6 x_7 x_8 x_9 x_10 x_11 x_12 x_13 x_14 x_15 x_16 x_17 x_18 x_19 s120]) (S1 := [wM cB cI cJ cZ x_0 x_1 x_2 x_3 x_4 x_5 x_6 x_7 x_8 x_9 x_10 x_11 x_12 x_13 x_14 x_15 x_16 x_17 x_18 x_19 s122]) (S' := [wM cB cI cJ cZ x_0 x_1 x_2 x_3 x_4 x_5 x_6 x_7 x_8 x_9 x_10 x_11 x_12 x_13 x_14 x_15 x_16 x_17 x_18 x_19 s122]) C (c_X8_ends l D cB cI cJ cZ x_0 x_1 x_2 x_3 x_4 x_5 x_6 x_7 x_8 x_9 x_10 x_11 x_12 x_13 x_14 x_15 x_16 x_17 x_18 x_19 y123) rfl rfl (gIV ml_X8_168 im_X8_ends sl_X8_ends in_X8 cd_X8_ends) rfl eX8_ends rfl ⟨rfl, rfl⟩ ⟨Nat.le_of_ble_eq_true rfl, Nat.le_of_ble_eq_true rfl⟩ rfl rfl rfl [0] rfl rfl rfl rfl (gA_cons aM gA_nil) rfl rfl (Nat.le_of_ble_eq_true rfl) (tdec DX8_send 206 rfl) rfl ?_
              refine g_aload_n (z := 0) C (tdec DX8_send 207 rfl) rfl rfl rfl ?_
              refine g_getf (C' := RX8) (T := TX8) (N := 27) (v := .int (MS_len s122)) C 0 19 (gIn iw_X8) rfl rfl (by decide) (gMem fl_X8_147) rfl rfl (tdec DX8_send 208 rfl) rfl ?_
              have hr9 := o_some hF
              subst hr9
              exact g_iret C rfl rfl (tdec DX8_send 209 rfl)
          · have hF := o_ifn hF h78
            refine g_iconst (v := 0) C (tdec DX8_send 26 rfl) (by decide) rfl ?_
            have hr9 := o_some hF
            subst hr9
            exact g_iret C rfl rfl (tdec DX8_send 27 rfl)
        · have hF := o_ifn hF h77
          refine g_iconst (v := 3) C (tdec DX8_send 19 rfl) (by decide) rfl ?_
          refine g_goto (pt := 40) C (tdec DX8_send 20 rfl) (by decide) ?_
          refine g_putf (C' := RX8) (T := TX8) (N := 27) (v := .int 3) (ws' := wM cB cI cJ cZ x_0 x_1 x_2 x_3 x_4 x_5 x_6 x_7 x_8 x_9 x_10 x_11 x_12 x_13 x_14 x_15 x_16 x_17 x_18 x_19 (MS_setthr x0 3)) C 0 0 tyX8 tyX8_ok nmX8 (gIn iw_X8) rfl rfl (by decide) (gMem fl_X8_78) rfl rfl (tyX8_ok 0 (by decide)) rfl rfl (Nat.le_of_ble_eq_true rfl) rfl (tdec DX8_send 22 rfl) rfl ?_
          refine g_aload_n (z := 0) C (tdec DX8_send 23 rfl) rfl rfl rfl ?_
          refine g_getf (C' := RX8) (T := TX8) (N := 27) (v := .int 3) C 0 0 (gIn iw_X8) rfl rfl (by decide) (gMem fl_X8_78) rfl rfl (tdec DX8_send 24 rfl) rfl ?_
          refine g_if_le (pt := 52) C (tdec DX8_send 25 rfl) (by decide) rfl (fun h124 => ?_) (fun h124 => ?_)
          · have hF := o_ifp hF h124
            refine g_aload_n (z := 0) C (tdec DX8_send 28 rfl) rfl rfl rfl ?_
            refine g_iconst (v := 0) C (tdec DX8_send 29 rfl) (by decide) rfl ?_
            refine g_putf (C' := RX8) (T := TX8) (N := 27) (v := .int 0) (ws' := wM cB cI cJ cZ x_0 x_1 x_2 x_3 x_4 x_5 x_6 x_7 x_8 x_9 x_10 x_11 x_12 x_13 x_14 x_15 x_16 x_17 x_18 x_19 (MS_setlen (MS_setthr x0 3) 0)) C 0 19 tyX8 tyX8_ok nmX8 (gIn iw_X8) rfl rfl (by decide) (gMem fl_X8_147) rfl rfl (tyX8_ok 19 (by decide)) rfl rfl (Nat.le_of_ble_eq_true rfl) rfl (tdec DX8_send 30 rfl) rfl ?_
            refine g_aload_n (z := 0) C (tdec DX8_send 31 rfl) rfl rfl rfl ?_
            refine g_iconst (v := 0) C (tdec DX8_send 32 rfl) (by decide) rfl ?_
            refine g_putf (C' := RX8) (T := TX8) (N := 27) (v := .int 0) (ws' := wM cB cI cJ cZ x_0 x_1 x_2 x_3 x_4 x_5 x_6 x_7 x_8 x_9 x_10 x_11 x_12 x_13 x_14 x_15 x_16 x_17 x_18 x_19 (MS_setrf (MS_setlen (MS_setthr x0 3) 0) 0)) C 0 26 tyX8 tyX8_ok nmX8 (gIn iw_X8) rfl rfl (by decide) (gMem fl_X8_152) rfl rfl (tyX8_ok 26 (by decide)) rfl rfl (Nat.le_of_ble_eq_true rfl) rfl (tdec DX8_send 33 rfl) rfl ?_
            refine g_aload_n (z := 0) C (tdec DX8_send 34 rfl) rfl rfl rfl ?_
            refine g_iconst (v := 0) C (tdec DX8_send 35 rfl) (by decide) rfl ?_
            refine g_putf (C' := RX8) (T := TX8) (N := 27) (v := .int 0) (ws' := wM cB cI cJ cZ x_0 x_1 x_2 x_3 x_4 x_5 x_6 x_7 x_8 x_9 x_10 x_11 x_12 x_13 x_14 x_15 x_16 x_17 x_18 x_19 (MS_setrecs (MS_setrf (MS_setlen (MS_setthr x0 3) 0) 0) 0)) C 0 20 tyX8 tyX8_ok nmX8 (gIn iw_X8) rfl rfl (by decide) (gMem fl_X8_163) rfl rfl (tyX8_ok 20 (by decide)) rfl rfl (Nat.le_of_ble_eq_true rfl) rfl (tdec DX8_send 36 rfl) rfl ?_
            refine g_aload_n (z := 0) C (tdec DX8_send 37 rfl) rfl rfl rfl ?_
            refine g_iconst (v := 0) C (tdec DX8_send 38 rfl) (by decide) rfl ?_
            refine g_putf (C' := RX8) (T := TX8) (N := 27) (v := .int 0) (ws' := wM cB cI cJ cZ x_0 x_1 x_2 x_3 x_4 x_5 x_6 x_7 x_8 x_9 x_10 x_11 x_12 x_13 x_14 x_15 x_16 x_17 x_18 x_19 (MS_setwr (MS_setrecs (MS_setrf (MS_setlen (MS_setthr x0 3) 0) 0) 0) 0)) C 0 21 tyX8 tyX8_ok nmX8 (gIn iw_X8) rfl rfl (by decide) (gMem fl_X8_178) rfl rfl (tyX8_ok 21 (by decide)) rfl rfl (Nat.le_of_ble_eq_true rfl) rfl (tdec DX8_send 39 rfl) rfl ?_
            refine g_aload_n (z := 0) C (tdec DX8_send 40 rfl) rfl rfl rfl ?_
            refine g_iconst (v := 0) C (tdec DX8_send 41 rfl) (by decide) rfl ?_
            refine g_putf (C' := RX8) (T := TX8) (N := 27) (v := .int 0) (ws' := wM cB cI cJ cZ x_0 x_1 x_2 x_3 x_4 x_5 x_6 x_7 x_8 x_9 x_10 x_11 x_12 x_13 x_14 x_15 x_16 x_17 x_18 x_19 (MS_setcl (MS_setwr (MS_setrecs (MS_setrf (MS_setlen (MS_setthr x0 3) 0) 0) 0) 0) 0)) C 0 22 tyX8 tyX8_ok nmX8 (gIn iw_X8) rfl rfl (by decide) (gMem fl_X8_171) rfl rfl (tyX8_ok 22 (by decide)) rfl rfl (Nat.le_of_ble_eq_true rfl) rfl (tdec DX8_send 42 rfl) rfl ?_
            refine g_aload_n (z := 0) C (tdec DX8_send 43 rfl) rfl rfl rfl ?_
            refine g_iconst (v := 0) C (tdec DX8_send 44 rfl) (by decide) rfl ?_
            refine g_putf (C' := RX8) (T := TX8) (N := 27) (v := .int 0) (ws' := wM cB cI cJ cZ x_0 x_1 x_2 x_3 x_4 x_5 x_6 x_7 x_8 x_9 x_10 x_11 x_12 x_13 x_14 x_15 x_16 x_17 x_18 x_19 (MS_setsn (MS_setcl (MS_setwr (MS_setrecs (MS_setrf (MS_setlen (MS_setthr x0 3) 0) 0) 0) 0) 0) 0)) C 0 23 tyX8 tyX8_ok nmX8 (gIn iw_X8) rfl rfl (by decide) (gMem fl_X8_173) rfl rfl (tyX8_ok 23 (by decide)) rfl rfl (Nat.le_of_ble_eq_true rfl) rfl (tdec DX8_send 45 rfl) rfl ?_
            refine g_iload_n (z := 2) C (tdec DX8_send 46 rfl) rfl rfl rfl ?_
            refine g_iconst (v := (-1)) C (tdec DX8_send 47 rfl) (by decide) rfl ?_
            refine g_icmp_ne (pt := 91) C (tdec DX8_send 48 rfl) (by decide) rfl (fun h125 => ?_) (fun h125 => ?_)
            · have hF := o_ifn hF h125
              refine g_aload_n (z := 0) C (tdec DX8_send 51 rfl) rfl rfl rfl ?_
              refine g_getf (C' := RX8) (T := TX8) (N := 27) (v := .ref x_11) C 0 11 (gIn iw_X8) rfl rfl (by decide) (gMem fl_X8_42) rfl rfl (tdec DX8_send 52 rfl) rfl ?_
              refine g_bipush (v := 20) C (tdec DX8_send 53 rfl) (by decide) rfl ?_
              refine g_iload_n (z := 1) C (tdec DX8_send 54 rfl) rfl rfl rfl ?_
              refine g_imul C (tdec DX8_send 55 rfl) rfl ?_
              refine g_iload_n (z := 2) C (tdec DX8_send 56 rfl) rfl rfl rfl ?_
              refine g_iadd C (tdec DX8_send 57 rfl) rfl ?_
              obtain ⟨r126, y127, hF⟩ := o_bind hF
              refine g_iald C 11 1 rfl rfl y127 (tdec DX8_send 58 rfl) rfl ?_
              refine g_istore (L' := [(4, .int r126), (0, .ref x_0), (1, .int p1), (2, .int p2), (3, .int p3)]) C (tdec DX8_send 59 rfl) (by decide) rfl rfl ?_
              refine g_aload_n (z := 1) C (tdec DX8_send 60 rfl) rfl rfl rfl ?_
              refine g_lconst (v := 1) C (tdec DX8_send 61 rfl) (by decide) rfl ?_
              refine g_iconst (v := 1) C (tdec DX8_send 62 rfl) (by decide) rfl ?_
              obtain ⟨s128, y129, hF⟩ := o_bind hF
              refine g_callVvMS (q0 := 0) (W' := wM cB cI cJ cZ x_0 x_1 x_2 x_3 x_4 x_5 x_6 x_7 x_8 x_9 x_10 x_11 x_12 x_13 x_14 x_15 x_16 x_17 x_18 x_19 s128) (S := [wM cB cI cJ cZ x_0 x_1 x_2 x_3 x_4 x_5 x_6 x_7 x_8 x_9 x_10 x_11 x_12 x_13 x_14 x_15 x_16 x_17 x_18 x_19 (MS_setsn (MS_setcl (MS_setwr (MS_setrecs (MS_setrf (MS_setlen (MS_setthr x0 3) 0) 0) 0) 0) 0) 0)]) (S0 := [wM cB cI cJ cZ x_0 x_1 x_2 x_3 x_4 x_5 x_6 x_7 x_8 x_9 x_10 x_11 x_12 x_13 x_14 x_15 x_16 x_17 x_18 x_19 (MS_setsn (MS_setcl (MS_setwr (MS_setrecs (MS_setrf (MS_setlen (MS_setthr x0 3) 0) 0) 0) 0) 0) 0)]) (S1 := [wM cB cI cJ cZ x_0 x_1 x_2 x_3 x_4 x_5 x_6 x_7 x_8 x_9 x_10 x_11 x_12 x_13 x_14 x_15 x_16 x_17 x_18 x_19 s128]) (S' := [wM cB cI cJ cZ x_0 x_1 x_2 x_3 x_4 x_5 x_6 x_7 x_8 x_9 x_10 x_11 x_12 x_13 x_14 x_15 x_16 x_17 x_18 x_19 s128]) C (c_X8_put l D cB cI cJ cZ x_0 x_1 x_2 x_3 x_4 x_5 x_6 x_7 x_8 x_9 x_10 x_11 x_12 x_13 x_14 x_15 x_16 x_17 x_18 x_19 y129) rfl rfl (gIV ml_X8_159 im_X8_put sl_X8_put in_X8 cd_X8_put) rfl eX8_put rfl ⟨rfl, rfl⟩ ⟨Nat.le_of_ble_eq_true rfl, Nat.le_of_ble_eq_true rfl⟩ rfl rfl rfl [0] rfl rfl rfl rfl (gA_cons aM gA_nil) rfl rfl (Nat.le_of_ble_eq_true rfl) (tdec DX8_send 63 rfl) rfl ?_
              refine g_aload_n (z := 1) C (tdec DX8_send 64 rfl) rfl rfl rfl ?_
              refine g_iload_n (z := 3) C (tdec DX8_send 65 rfl) rfl rfl rfl ?_
              refine g_iconst (v := (-1)) C (tdec DX8_send 66 rfl) (by decide) rfl ?_
              refine g_icmp_ne (pt := 120) C (tdec DX8_send 67 rfl) (by decide) rfl (fun _ => ?_) (fun h => absurd h h125)
              refine g_aload_n (z := 1) C (tdec DX8_send 70 rfl) rfl rfl rfl ?_
              refine g_getf (C' := RX8) (T := TX8) (N := 27) (v := .ref x_12) C 0 12 (gIn iw_X8) rfl rfl (by decide) (gMem fl_X8_45) rfl rfl (tdec DX8_send 71 rfl) rfl ?_
              refine g_bipush (v := 20) C (tdec DX8_send 72 rfl) (by decide) rfl ?_
              refine g_iload_n (z := 2) C (tdec DX8_send 73 rfl) rfl rfl rfl ?_
              refine g_imul C (tdec DX8_send 74 rfl) rfl ?_
              refine g_iload_n (z := 3) C (tdec DX8_send 75 rfl) rfl rfl rfl ?_
              refine g_iadd C (tdec DX8_send 76 rfl) rfl ?_
              obtain ⟨r130, y131, hF⟩ := o_bind hF
              refine g_lald C 12 2 rfl rfl y131 (tdec DX8_send 77 rfl) rfl ?_
              refine g_bipush (v := 8) C (tdec DX8_send 78 rfl) (by decide) rfl ?_
              obtain ⟨s132, y133, hF⟩ := o_bind hF
              refine g_callVvMS (q0 := 0) (W' := wM cB cI cJ cZ x_0 x_1 x_2 x_3 x_4 x_5 x_6 x_7 x_8 x_9 x_10 x_11 x_12 x_13 x_14 x_15 x_16 x_17 x_18 x_19 s132) (S := [wM cB cI cJ cZ x_0 x_1 x_2 x_3 x_4 x_5 x_6 x_7 x_8 x_9 x_10 x_11 x_12 x_13 x_14 x_15 x_16 x_17 x_18 x_19 s128]) (S0 := [wM cB cI cJ cZ x_0 x_1 x_2 x_3 x_4 x_5 x_6 x_7 x_8 x_9 x_10 x_11 x_12 x_13 x_14 x_15 x_16 x_17 x_18 x_19 s128]) (S1 := [wM cB cI cJ cZ x_0 x_1 x_2 x_3 x_4 x_5 x_6 x_7 x_8 x_9 x_10 x_11 x_12 x_13 x_14 x_15 x_16 x_17 x_18 x_19 s132]) (S' := [wM cB cI cJ cZ x_0 x_1 x_2 x_3 x_4 x_5 x_6 x_7 x_8 x_9 x_10 x_11 x_12 x_13 x_14 x_15 x_16 x_17 x_18 x_19 s132]) C (c_X8_put l D cB cI cJ cZ x_0 x_1 x_2 x_3 x_4 x_5 x_6 x_7 x_8 x_9 x_10 x_11 x_12 x_13 x_14 x_15 x_16 x_17 x_18 x_19 y133) rfl rfl (gIV ml_X8_159 im_X8_put sl_X8_put in_X8 cd_X8_put) rfl eX8_put rfl ⟨rfl, rfl⟩ ⟨Nat.le_of_ble_eq_true rfl, Nat.le_of_ble_eq_true rfl⟩ rfl rfl rfl [0] rfl rfl rfl rfl (gA_cons aM gA_nil) rfl rfl (Nat.le_of_ble_eq_true rfl) (tdec DX8_send 79 rfl) rfl ?_
              refine g_aload_n (z := 1) C (tdec DX8_send 80 rfl) rfl rfl rfl ?_
              refine g_aload_n (z := 1) C (tdec DX8_send 81 rfl) rfl rfl rfl ?_
              refine g_getf (C' := RX8) (T := TX8) (N := 27) (v := .ref x_12) C 0 12 (gIn iw_X8) rfl rfl (by decide) (gMem fl_X8_45) rfl rfl (tdec DX8_send 82 rfl) rfl ?_
              refine g_bipush (v := 20) C (tdec DX8_send 83 rfl) (by decide) rfl ?_
              refine g_iload_n (z := 2) C (tdec DX8_send 84 rfl) rfl rfl rfl ?_
              refine g_imul C (tdec DX8_send 85 rfl) rfl ?_
              refine g_iload_n (z := 4) C (tdec DX8_send 86 rfl) rfl rfl rfl ?_
              refine g_iadd C (tdec DX8_send 87 rfl) rfl ?_
              obtain ⟨r134, y135, hF⟩ := o_bind hF
              refine g_lald C 12 2 rfl rfl y135 (tdec DX8_send 88 rfl) rfl ?_
              refine g_bipush (v := 8) C (tdec DX8_send 89 rfl) (by decide) rfl ?_
              obtain ⟨s136, y137, hF⟩ := o_bind hF
              refine g_callVvMS (q0 := 0) (W' := wM cB cI cJ cZ x_0 x_1 x_2 x_3 x_4 x_5 x_6 x_7 x_8 x_9 x_10 x_11 x_12 x_13 x_14 x_15 x_16 x_17 x_18 x_19 s136) (S := [wM cB cI cJ cZ x_0 x_1 x_2 x_3 x_4 x_5 x_6 x_7 x_8 x_9 x_10 x_11 x_12 x_13 x_14 x_15 x_16 x_17 x_18 x_19 s132]) (S0 := [wM cB cI cJ cZ x_0 x_1 x_2 x_3 x_4 x_5 x_6 x_7 x_8 x_9 x_10 x_11 x_12 x_13 x_14 x_15 x_16 x_17 x_18 x_19 s132]) (S1 := [wM cB cI cJ cZ x_0 x_1 x_2 x_3 x_4 x_5 x_6 x_7 x_8 x_9 x_10 x_11 x_12 x_13 x_14 x_15 x_16 x_17 x_18 x_19 s136]) (S' := [wM cB cI cJ cZ x_0 x_1 x_2 x_3 x_4 x_5 x_6 x_7 x_8 x_9 x_10 x_11 x_12 x_13 x_14 x_15 x_16 x_17 x_18 x_19 s136]) C (c_X8_put l D cB cI cJ cZ x_0 x_1 x_2 x_3 x_4 x_5 x_6 x_7 x_8 x_9 x_10 x_11 x_12 x_13 x_14 x_15 x_16 x_17 x_18 x_19 y137) rfl rfl (gIV ml_X8_159 im_X8_put sl_X8_put in_X8 cd_X8_put) rfl eX8_put rfl ⟨rfl, rfl⟩ ⟨Nat.le_of_ble_eq_true rfl, Nat.le_of_ble_eq_true rfl⟩ rfl rfl rfl [0] rfl rfl rfl rfl (gA_cons aM gA_nil) rfl rfl (Nat.le_of_ble_eq_true rfl) (tdec DX8_send 90 rfl) rfl ?_
              refine g_aload_n (z := 1) C (tdec DX8_send 91 rfl) rfl rfl rfl ?_
              obtain ⟨s138, y139, hF⟩ := o_bind hF
              refine g_callVvMS (q0 := 0) (W' := wM cB cI cJ cZ x_0 x_1 x_2 x_3 x_4 x_5 x_6 x_7 x_8 x_9 x_10 x_11 x_12 x_13 x_14 x_15 x_16 x_17 x_18 x_19 s138) (S := [wM cB cI cJ cZ x_0 x_1 x_2 x_3 x_4 x_5 x_6 x_7 x_8 x_9 x_10 x_11 x_12 x_13 x_14 x_15 x_16 x_17 x_18 x_19 s136]) (S0 := [wM cB cI cJ cZ x_0 x_1 x_2 x_3 x_4 x_5 x_6 x_7 x_8 x_9 x_10 x_11 x_12 x_13 x_14 x_15 x_16 x_17 x_18 x_19 s136]) (S1 := [wM cB cI cJ cZ x_0 x_1 x_2 x_3 x_4 x_5 x_6 x_7 x_8 x_9 x_10 x_11 x_12 x_13 x_14 x_15 x_16 x_17 x_18 x_19 s138]) (S' := [wM cB cI cJ cZ x_0 x_1 x_2 x_3 x_4 x_5 x_6 x_7 x_8 x_9 x_10 x_11 x_12 x_13 x_14 x_15 x_16 x_17 x_18 x_19 s138]) C (c_X8_ends l D cB cI cJ cZ x_0 x_1 x_2 x_3 x_4 x_5 x_6 x_7 x_8 x_9 x_10 x_11 x_12 x_13 x_14 x_15 x_16 x_17 x_18 x_19 y139) rfl rfl (gIV ml_X8_168 im_X8_ends sl_X8_ends in_X8 cd_X8_ends) rfl eX8_ends rfl ⟨rfl, rfl⟩ ⟨Nat.le_of_ble_eq_true rfl, Nat.le_of_ble_eq_true rfl⟩ rfl rfl rfl [0] rfl rfl rfl rfl (gA_cons aM gA_nil) rfl rfl (Nat.le_of_ble_eq_true rfl) (tdec DX8_send 92 rfl) rfl ?_
              refine g_bipush (v := (-3)) C (tdec DX8_send 93 rfl) (by decide) rfl ?_
              refine g_iload_n (z := 4) C (tdec DX8_send 94 rfl) rfl rfl rfl ?_
              refine g_isub C (tdec DX8_send 95 rfl) rfl ?_
              refine g_istore (L' := [(5, .int ((-3) - p3)), (4, .int r126), (0, .ref x_0), (1, .int p1), (2, .int p2), (3, .int p3)]) C (tdec DX8_send 96 rfl) (by decide) rfl rfl ?_
              refine g_aload_n (z := 2) C (tdec DX8_send 97 rfl) rfl rfl rfl ?_
              refine g_iload_n (z := 3) C (tdec DX8_send 98 rfl) rfl rfl rfl ?_
              refine g_iload (z := 0) C (tdec DX8_send 99 rfl) rfl rfl ?_
              refine g_iconst (v := 0) C (tdec DX8_send 100 rfl) (by decide) rfl ?_
              refine g_sipush (v := 512) C (tdec DX8_send 101 rfl) (by decide) rfl ?_
              refine g_iload (z := 1) C (tdec DX8_send 102 rfl) rfl rfl ?_
              obtain ⟨⟨r140, s141⟩, y142, hF⟩ := o_bind hF
              refine g_callViMS (q0 := 0) (W' := wM cB cI cJ cZ x_0 x_1 x_2 x_3 x_4 x_5 x_6 x_7 x_8 x_9 x_10 x_11 x_12 x_13 x_14 x_15 x_16 x_17 x_18 x_19 s141) (S := [wM cB cI cJ cZ x_0 x_1 x_2 x_3 x_4 x_5 x_6 x_7 x_8 x_9 x_10 x_11 x_12 x_13 x_14 x_15 x_16 x_17 x_18 x_19 s138]) (S0 := [wM cB cI cJ cZ x_0 x_1 x_2 x_3 x_4 x_5 x_6 x_7 x_8 x_9 x_10 x_11 x_12 x_13 x_14 x_15 x_16 x_17 x_18 x_19 s138]) (S1 := [wM cB cI cJ cZ x_0 x_1 x_2 x_3 x_4 x_5 x_6 x_7 x_8 x_9 x_10 x_11 x_12 x_13 x_14 x_15 x_16 x_17 x_18 x_19 s141]) (S' := [wM cB cI cJ cZ x_0 x_1 x_2 x_3 x_4 x_5 x_6 x_7 x_8 x_9 x_10 x_11 x_12 x_13 x_14 x_15 x_16 x_17 x_18 x_19 s141]) C (c_X8_brings l D cB cI cJ cZ x_0 x_1 x_2 x_3 x_4 x_5 x_6 x_7 x_8 x_9 x_10 x_11 x_12 x_13 x_14 x_15 x_16 x_17 x_18 x_19 y142) rfl rfl (gIV ml_X8_180 im_X8_brings sl_X8_brings in_X8 cd_X8_brings) rfl eX8_brings rfl ⟨rfl, rfl⟩ ⟨Nat.le_of_ble_eq_true rfl, Nat.le_of_ble_eq_true rfl⟩ rfl rfl rfl [0] rfl rfl rfl rfl (gA_cons aM gA_nil) rfl rfl (Nat.le_of_ble_eq_true rfl) (tdec DX8_send 103 rfl) rfl ?_
              refine g_istore (L' := [(6, .int r140), (5, .int ((-3) - p3)), (4, .int r126), (0, .ref x_0), (1, .int p1), (2, .int p2), (3, .int p3)]) C (tdec DX8_send 104 rfl) (by decide) rfl rfl ?_
              refine g_iconst (v := 0) C (tdec DX8_send 105 rfl) (by decide) rfl ?_
              refine g_istore (L' := [(7, .int 0), (6, .int r140), (5, .int ((-3) - p3)), (4, .int r126), (0, .ref x_0), (1, .int p1), (2, .int p2), (3, .int p3)]) C (tdec DX8_send 106 rfl) (by decide) rfl rfl ?_
              refine g_sub (L' := [(0, .ref x_0), (1, .int p1), (2, .int p2), (3, .int p3), (4, .int r126), (5, .int ((-3) - p3)), (6, .int r140), (7, .int 0)]) [4, 5, 6, 7, 3, 2, 1, 0] rfl ?_
              refine c_FX8_send_L181 C (fun xq143 w7_143 hF => ?_) 100000 _ _ hF
              refine g_aload_n (z := 0) C (tdec DX8_send 195 rfl) rfl rfl rfl ?_
              refine g_ldc2 C (gMem kl_X8_184) (tdec DX8_send 196 rfl) rfl ?_
              refine g_iconst (v := 1) C (tdec DX8_send 197 rfl) (by decide) rfl ?_
              obtain ⟨s144, y145, hF⟩ := o_bind hF
              refine g_callVvMS (q0 := 0) (W' := wM cB cI cJ cZ x_0 x_1 x_2 x_3 x_4 x_5 x_6 x_7 x_8 x_9 x_10 x_11 x_12 x_13 x_14 x_15 x_16 x_17 x_18 x_19 s144) (S := [wM cB cI cJ cZ x_0 x_1 x_2 x_3 x_4 x_5 x_6 x_7 x_8 x_9 x_10 x_11 x_12 x_13 x_14 x_15 x_16 x_17 x_18 x_19 xq143]) (S0 := [wM cB cI cJ cZ x_0 x_1 x_2 x_3 x_4 x_5 x_6 x_7 x_8 x_9 x_10 x_11 x_12 x_13 x_14 x_15 x_16 x_17 x_18 x_19 xq143]) (S1 := [wM cB cI cJ cZ x_0 x_1 x_2 x_3 x_4 x_5 x_6 x_7 x_8 x_9 x_10 x_11 x_12 x_13 x_14 x_15 x_16 x_17 x_18 x_19 s144]) (S' := [wM cB cI cJ cZ x_0 x_1 x_2 x_3 x_4 x_5 x_6 x_7 x_8 x_9 x_10 x_11 x_12 x_13 x_14 x_15 x_16 x_17 x_18 x_19 s144]) C (c_X8_put l D cB cI cJ cZ x_0 x_1 x_2 x_3 x_4 x_5 x_6 x_7 x_8 x_9 x_10 x_11 x_12 x_13 x_14 x_15 x_16 x_17 x_18 x_19 y145) rfl rfl (gIV ml_X8_159 im_X8_put sl_X8_put in_X8 cd_X8_put) rfl eX8_put rfl ⟨rfl, rfl⟩ ⟨Nat.le_of_ble_eq_true rfl, Nat.le_of_ble_eq_true rfl⟩ rfl rfl rfl [0] rfl rfl rfl rfl (gA_cons aM gA_nil) rfl rfl (Nat.le_of_ble_eq_true rfl) (tdec DX8_send 198 rfl) rfl ?_
              refine g_aload_n (z := 0) C (tdec DX8_send 199 rfl) rfl rfl rfl ?_
              refine g_aload_n (z := 0) C (tdec DX8_send 200 rfl) rfl rfl rfl ?_
              refine g_getf (C' := RX8) (T := TX8) (N := 27) (v := .int (MS_recs s144)) C 0 20 (gIn iw_X8) rfl rfl (by decide) (gMem fl_X8_163) rfl rfl (tdec DX8_send 201 rfl) rfl ?_
              refine g_i2l C (tdec DX8_send 202 rfl) rfl ?_
              refine g_iconst (v := 4) C (tdec DX8_send 203 rfl) (by decide) rfl ?_
              obtain ⟨s146, y147, hF⟩ := o_bind hF
              refine g_callVvMS (q0 := 0) (W' := wM cB cI cJ cZ x_0 x_1 x_2 x_3 x_4 x_5 x_6 x_7 x_8 x_9 x_10 x_11 x_12 x_13 x_14 x_15 x_16 x_17 x_18 x_19 s146) (S := [wM cB cI cJ cZ x_0 x_1 x_2 x_3 x_4 x_5 x_6 x_7 x_8 x_9 x_10 x_11 x_12 x_13 x_14 x_15 x_16 x_17 x_18 x_19 s144]) (S0 := [wM cB cI cJ cZ x_0 x_1 x_2 x_3 x_4 x_5 x_6 x_7 x_8 x_9 x_10 x_11 x_12 x_13 x_14 x_15 x_16 x_17 x_18 x_19 s144]) (S1 := [wM cB cI cJ cZ x_0 x_1 x_2 x_3 x_4 x_5 x_6 x_7 x_8 x_9 x_10 x_11 x_12 x_13 x_14 x_15 x_16 x_17 x_18 x_19 s146]) (S' := [wM cB cI cJ cZ x_0 x_1 x_2 x_3 x_4 x_5 x_6 x_7 x_8 x_9 x_10 x_11 x_12 x_13 x_14 x_15 x_16 x_17 x_18 x_19 s146]) C (c_X8_put l D cB cI cJ cZ x_0 x_1 x_2 x_3 x_4 x_5 x_6 x_7 x_8 x_9 x_10 x_11 x_12 x_13 x_14 x_15 x_16 x_17 x_18 x_19 y147) rfl rfl (gIV ml_X8_159 im_X8_put sl_X8_put in_X8 cd_X8_put) rfl eX8_put rfl ⟨rfl, rfl⟩ ⟨Nat.le_of_ble_eq_true rfl, Nat.le_of_ble_eq_true rfl⟩ rfl rfl rfl [0] rfl rfl rfl rfl (gA_cons aM gA_nil) rfl rfl (Nat.le_of_ble_eq_true rfl) (tdec DX8_send 204 rfl) rfl ?_
              refine g_aload_n (z := 0) C (tdec DX8_send 205 rfl) rfl rfl rfl ?_
              obtain ⟨s148, y149, hF⟩ := o_bind hF
              refine g_callVvMS (q0 := 0) (W' := wM cB cI cJ cZ x_0 x_1 x_2 x_3 x_4 x_5 x_6 x_7 x_8 x_9 x_10 x_11 x_12 x_13 x_14 x_15 x_16 x_17 x_18 x_19 s148) (S := [wM cB cI cJ cZ x_0 x_1 x_2 x_3 x_4 x_5 x_6 x_7 x_8 x_9 x_10 x_11 x_12 x_13 x_14 x_15 x_16 x_17 x_18 x_19 s146]) (S0 := [wM cB cI cJ cZ x_0 x_1 x_2 x_3 x_4 x_5 x_6 x_7 x_8 x_9 x_10 x_11 x_12 x_13 x_14 x_15 x_16 x_17 x_18 x_19 s146]) (S1 := [wM cB cI cJ cZ x_0 x_1 x_2 x_3 x_4 x_5 x_6 x_7 x_8 x_9 x_10 x_11 x_12 x_13 x_14 x_15 x_16 x_17 x_18 x_19 s148]) (S' := [wM cB cI cJ cZ x_0 x_1 x_2 x_3 x_4 x_5 x_6 x_7 x_8 x_9 x_10 x_11 x_12 x_13 x_14 x_15 x_16 x_17 x_18 x_19 s148]) C (c_X8_ends l D cB cI cJ cZ x_0 x_1 x_2 x_3 x_4 x_5 x_6 x_7 x_8 x_9 x_10 x_11 x_12 x_13 x_14 x_15 x_16 x_17 x_18 x_19 y149) rfl rfl (gIV ml_X8_168 im_X8_ends sl_X8_ends in_X8 cd_X8_ends) rfl eX8_ends rfl ⟨rfl, rfl⟩ ⟨Nat.le_of_ble_eq_true rfl, Nat.le_of_ble_eq_true rfl⟩ rfl rfl rfl [0] rfl rfl rfl rfl (gA_cons aM gA_nil) rfl rfl (Nat.le_of_ble_eq_true rfl) (tdec DX8_send 206 rfl) rfl ?_
              refine g_aload_n (z := 0) C (tdec DX8_send 207 rfl) rfl rfl rfl ?_
              refine g_getf (C' := RX8) (T := TX8) (N := 27) (v := .int (MS_len s148)) C 0 19 (gIn iw_X8) rfl rfl (by decide) (gMem fl_X8_147) rfl rfl (tdec DX8_send 208 rfl) rfl ?_
              have hr9 := o_some hF
              subst hr9
              exact g_iret C rfl rfl (tdec DX8_send 209 rfl)
            · have hF := o_ifp hF h125
              refine g_iconst (v := 0) C (tdec DX8_send 49 rfl) (by decide) rfl ?_
              refine g_goto (pt := 102) C (tdec DX8_send 50 rfl) (by decide) ?_
              refine g_istore (L' := [(4, .int 0), (0, .ref x_0), (1, .int p1), (2, .int p2), (3, .int p3)]) C (tdec DX8_send 59 rfl) (by decide) rfl rfl ?_
              refine g_aload_n (z := 1) C (tdec DX8_send 60 rfl) rfl rfl rfl ?_
              refine g_lconst (v := 1) C (tdec DX8_send 61 rfl) (by decide) rfl ?_
              refine g_iconst (v := 1) C (tdec DX8_send 62 rfl) (by decide) rfl ?_
              obtain ⟨s150, y151, hF⟩ := o_bind hF
              refine g_callVvMS (q0 := 0) (W' := wM cB cI cJ cZ x_0 x_1 x_2 x_3 x_4 x_5 x_6 x_7 x_8 x_9 x_10 x_11 x_12 x_13 x_14 x_15 x_16 x_17 x_18 x_19 s150) (S := [wM cB cI cJ cZ x_0 x_1 x_2 x_3 x_4 x_5 x_6 x_7 x_8 x_9 x_10 x_11 x_12 x_13 x_14 x_15 x_16 x_17 x_18 x_19 (MS_setsn (MS_setcl (MS_setwr (MS_setrecs (MS_setrf (MS_setlen (MS_setthr x0 3) 0) 0) 0) 0) 0) 0)]) (S0 := [wM cB cI cJ cZ x_0 x_1 x_2 x_3 x_4 x_5 x_6 x_7 x_8 x_9 x_10 x_11 x_12 x_13 x_14 x_15 x_16 x_17 x_18 x_19 (MS_setsn (MS_setcl (MS_setwr (MS_setrecs (MS_setrf (MS_setlen (MS_setthr x0 3) 0) 0) 0) 0) 0) 0)]) (S1 := [wM cB cI cJ cZ x_0 x_1 x_2 x_3 x_4 x_5 x_6 x_7 x_8 x_9 x_10 x_11 x_12 x_13 x_14 x_15 x_16 x_17 x_18 x_19 s150]) (S' := [wM cB cI cJ cZ x_0 x_1 x_2 x_3 x_4 x_5 x_6 x_7 x_8 x_9 x_10 x_11 x_12 x_13 x_14 x_15 x_16 x_17 x_18 x_19 s150]) C (c_X8_put l D cB cI cJ cZ x_0 x_1 x_2 x_3 x_4 x_5 x_6 x_7 x_8 x_9 x_10 x_11 x_12 x_13 x_14 x_15 x_16 x_17 x_18 x_19 y151) rfl rfl (gIV ml_X8_159 im_X8_put sl_X8_put in_X8 cd_X8_put) rfl eX8_put rfl ⟨rfl, rfl⟩ ⟨Nat.le_of_ble_eq_true rfl, Nat.le_of_ble_eq_true rfl⟩ rfl rfl rfl [0] rfl rfl rfl rfl (gA_cons aM gA_nil) rfl rfl (Nat.le_of_ble_eq_true rfl) (tdec DX8_send 63 rfl) rfl ?_
              refine g_aload_n (z := 1) C (tdec DX8_send 64 rfl) rfl rfl rfl ?_
              refine g_iload_n (z := 3) C (tdec DX8_send 65 rfl) rfl rfl rfl ?_
              refine g_iconst (v := (-1)) C (tdec DX8_send 66 rfl) (by decide) rfl ?_
              refine g_icmp_ne (pt := 120) C (tdec DX8_send 67 rfl) (by decide) rfl (fun h => absurd h125 h) (fun _ => ?_)
              refine g_lconst (v := 0) C (tdec DX8_send 68 rfl) (by decide) rfl ?_
              refine g_goto (pt := 131) C (tdec DX8_send 69 rfl) (by decide) ?_
              refine g_bipush (v := 8) C (tdec DX8_send 78 rfl) (by decide) rfl ?_
              obtain ⟨s152, y153, hF⟩ := o_bind hF
              refine g_callVvMS (q0 := 0) (W' := wM cB cI cJ cZ x_0 x_1 x_2 x_3 x_4 x_5 x_6 x_7 x_8 x_9 x_10 x_11 x_12 x_13 x_14 x_15 x_16 x_17 x_18 x_19 s152) (S := [wM cB cI cJ cZ x_0 x_1 x_2 x_3 x_4 x_5 x_6 x_7 x_8 x_9 x_10 x_11 x_12 x_13 x_14 x_15 x_16 x_17 x_18 x_19 s150]) (S0 := [wM cB cI cJ cZ x_0 x_1 x_2 x_3 x_4 x_5 x_6 x_7 x_8 x_9 x_10 x_11 x_12 x_13 x_14 x_15 x_16 x_17 x_18 x_19 s150]) (S1 := [wM cB cI cJ cZ x_0 x_1 x_2 x_3 x_4 x_5 x_6 x_7 x_8 x_9 x_10 x_11 x_12 x_13 x_14 x_15 x_16 x_17 x_18 x_19 s152]) (S' := [wM cB cI cJ cZ x_0 x_1 x_2 x_3 x_4 x_5 x_6 x_7 x_8 x_9 x_10 x_11 x_12 x_13 x_14 x_15 x_16 x_17 x_18 x_19 s152]) C (c_X8_put l D cB cI cJ cZ x_0 x_1 x_2 x_3 x_4 x_5 x_6 x_7 x_8 x_9 x_10 x_11 x_12 x_13 x_14 x_15 x_16 x_17 x_18 x_19 y153) rfl rfl (gIV ml_X8_159 im_X8_put sl_X8_put in_X8 cd_X8_put) rfl eX8_put rfl ⟨rfl, rfl⟩ ⟨Nat.le_of_ble_eq_true rfl, Nat.le_of_ble_eq_true rfl⟩ rfl rfl rfl [0] rfl rfl rfl rfl (gA_cons aM gA_nil) rfl rfl (Nat.le_of_ble_eq_true rfl) (tdec DX8_send 79 rfl) rfl ?_
              refine g_aload_n (z := 1) C (tdec DX8_send 80 rfl) rfl rfl rfl ?_
              refine g_aload_n (z := 1) C (tdec DX8_send 81 rfl) rfl rfl rfl ?_
              refine g_getf (C' := RX8) (T := TX8) (N := 27) (v := .ref x_12) C 0 12 (gIn iw_X8) rfl rfl (by decide) (gMem fl_X8_45) rfl rfl (tdec DX8_send 82 rfl) rfl ?_
              refine g_bipush (v := 20) C (tdec DX8_send 83 rfl) (by decide) rfl ?_
              refine g_iload_n (z := 2) C (tdec DX8_send 84 rfl) rfl rfl rfl ?_
              refine g_imul C (tdec DX8_send 85 rfl) rfl ?_
              refine g_iload_n (z := 4) C (tdec DX8_send 86 rfl) rfl rfl rfl ?_
              refine g_iadd C (tdec DX8_send 87 rfl) rfl ?_
              obtain ⟨r154, y155, hF⟩ := o_bind hF
              refine g_lald C 12 2 rfl rfl y155 (tdec DX8_send 88 rfl) rfl ?_
              refine g_bipush (v := 8) C (tdec DX8_send 89 rfl) (by decide) rfl ?_
              obtain ⟨s156, y157, hF⟩ := o_bind hF
              refine g_callVvMS (q0 := 0) (W' := wM cB cI cJ cZ x_0 x_1 x_2 x_3 x_4 x_5 x_6 x_7 x_8 x_9 x_10 x_11 x_12 x_13 x_14 x_15 x_16 x_17 x_18 x_19 s156) (S := [wM cB cI cJ cZ x_0 x_1 x_2 x_3 x_4 x_5 x_6 x_7 x_8 x_9 x_10 x_11 x_12 x_13 x_14 x_15 x_16 x_17 x_18 x_19 s152]) (S0 := [wM cB cI cJ cZ x_0 x_1 x_2 x_3 x_4 x_5 x_6 x_7 x_8 x_9 x_10 x_11 x_12 x_13 x_14 x_15 x_16 x_17 x_18 x_19 s152]) (S1 := [wM cB cI cJ cZ x_0 x_1 x_2 x_3 x_4 x_5 x_6 x_7 x_8 x_9 x_10 x_11 x_12 x_13 x_14 x_15 x_16 x_17 x_18 x_19 s156]) (S' := [wM cB cI cJ cZ x_0 x_1 x_2 x_3 x_4 x_5 x_6 x_7 x_8 x_9 x_10 x_11 x_12 x_13 x_14 x_15 x_16 x_17 x_18 x_19 s156]) C (c_X8_put l D cB cI cJ cZ x_0 x_1 x_2 x_3 x_4 x_5 x_6 x_7 x_8 x_9 x_10 x_11 x_12 x_13 x_14 x_15 x_16 x_17 x_18 x_19 y157) rfl rfl (gIV ml_X8_159 im_X8_put sl_X8_put in_X8 cd_X8_put) rfl eX8_put rfl ⟨rfl, rfl⟩ ⟨Nat.le_of_ble_eq_true rfl, Nat.le_of_ble_eq_true rfl⟩ rfl rfl rfl [0] rfl rfl rfl rfl (gA_cons aM gA_nil) rfl rfl (Nat.le_of_ble_eq_true rfl) (tdec DX8_send 90 rfl) rfl ?_
              refine g_aload_n (z := 1) C (tdec DX8_send 91 rfl) rfl rfl rfl ?_
              obtain ⟨s158, y159, hF⟩ := o_bind hF
              refine g_callVvMS (q0 := 0) (W' := wM cB cI cJ cZ x_0 x_1 x_2 x_3 x_4 x_5 x_6 x_7 x_8 x_9 x_10 x_11 x_12 x_13 x_14 x_15 x_16 x_17 x_18 x_19 s158) (S := [wM cB cI cJ cZ x_0 x_1 x_2 x_3 x_4 x_5 x_6 x_7 x_8 x_9 x_10 x_11 x_12 x_13 x_14 x_15 x_16 x_17 x_18 x_19 s156]) (S0 := [wM cB cI cJ cZ x_0 x_1 x_2 x_3 x_4 x_5 x_6 x_7 x_8 x_9 x_10 x_11 x_12 x_13 x_14 x_15 x_16 x_17 x_18 x_19 s156]) (S1 := [wM cB cI cJ cZ x_0 x_1 x_2 x_3 x_4 x_5 x_6 x_7 x_8 x_9 x_10 x_11 x_12 x_13 x_14 x_15 x_16 x_17 x_18 x_19 s158]) (S' := [wM cB cI cJ cZ x_0 x_1 x_2 x_3 x_4 x_5 x_6 x_7 x_8 x_9 x_10 x_11 x_12 x_13 x_14 x_15 x_16 x_17 x_18 x_19 s158]) C (c_X8_ends l D cB cI cJ cZ x_0 x_1 x_2 x_3 x_4 x_5 x_6 x_7 x_8 x_9 x_10 x_11 x_12 x_13 x_14 x_15 x_16 x_17 x_18 x_19 y159) rfl rfl (gIV ml_X8_168 im_X8_ends sl_X8_ends in_X8 cd_X8_ends) rfl eX8_ends rfl ⟨rfl, rfl⟩ ⟨Nat.le_of_ble_eq_true rfl, Nat.le_of_ble_eq_true rfl⟩ rfl rfl rfl [0] rfl rfl rfl rfl (gA_cons aM gA_nil) rfl rfl (Nat.le_of_ble_eq_true rfl) (tdec DX8_send 92 rfl) rfl ?_
              refine g_bipush (v := (-3)) C (tdec DX8_send 93 rfl) (by decide) rfl ?_
              refine g_iload_n (z := 4) C (tdec DX8_send 94 rfl) rfl rfl rfl ?_
              refine g_isub C (tdec DX8_send 95 rfl) rfl ?_
              refine g_istore (L' := [(5, .int ((-3) - p3)), (4, .int 0), (0, .ref x_0), (1, .int p1), (2, .int p2), (3, .int p3)]) C (tdec DX8_send 96 rfl) (by decide) rfl rfl ?_
              refine g_aload_n (z := 2) C (tdec DX8_send 97 rfl) rfl rfl rfl ?_
              refine g_iload_n (z := 3) C (tdec DX8_send 98 rfl) rfl rfl rfl ?_
              refine g_iload (z := 0) C (tdec DX8_send 99 rfl) rfl rfl ?_
              refine g_iconst (v := 0) C (tdec DX8_send 100 rfl) (by decide) rfl ?_
              refine g_sipush (v := 512) C (tdec DX8_send 101 rfl) (by decide) rfl ?_
              refine g_iload (z := 1) C (tdec DX8_send 102 rfl) rfl rfl ?_
              obtain ⟨⟨r160, s161⟩, y162, hF⟩ := o_bind hF
              refine g_callViMS (q0 := 0) (W' := wM cB cI cJ cZ x_0 x_1 x_2 x_3 x_4 x_5 x_6 x_7 x_8 x_9 x_10 x_11 x_12 x_13 x_14 x_15 x_16 x_17 x_18 x_19 s161) (S := [wM cB cI cJ cZ x_0 x_1 x_2 x_3 x_4 x_5 x_6 x_7 x_8 x_9 x_10 x_11 x_12 x_13 x_14 x_15 x_16 x_17 x_18 x_19 s158]) (S0 := [wM cB cI cJ cZ x_0 x_1 x_2 x_3 x_4 x_5 x_6 x_7 x_8 x_9 x_10 x_11 x_12 x_13 x_14 x_15 x_16 x_17 x_18 x_19 s158]) (S1 := [wM cB cI cJ cZ x_0 x_1 x_2 x_3 x_4 x_5 x_6 x_7 x_8 x_9 x_10 x_11 x_12 x_13 x_14 x_15 x_16 x_17 x_18 x_19 s161]) (S' := [wM cB cI cJ cZ x_0 x_1 x_2 x_3 x_4 x_5 x_6 x_7 x_8 x_9 x_10 x_11 x_12 x_13 x_14 x_15 x_16 x_17 x_18 x_19 s161]) C (c_X8_brings l D cB cI cJ cZ x_0 x_1 x_2 x_3 x_4 x_5 x_6 x_7 x_8 x_9 x_10 x_11 x_12 x_13 x_14 x_15 x_16 x_17 x_18 x_19 y162) rfl rfl (gIV ml_X8_180 im_X8_brings sl_X8_brings in_X8 cd_X8_brings) rfl eX8_brings rfl ⟨rfl, rfl⟩ ⟨Nat.le_of_ble_eq_true rfl, Nat.le_of_ble_eq_true rfl⟩ rfl rfl rfl [0] rfl rfl rfl rfl (gA_cons aM gA_nil) rfl rfl (Nat.le_of_ble_eq_true rfl) (tdec DX8_send 103 rfl) rfl ?_
              refine g_istore (L' := [(6, .int r160), (5, .int ((-3) - p3)), (4, .int 0), (0, .ref x_0), (1, .int p1), (2, .int p2), (3, .int p3)]) C (tdec DX8_send 104 rfl) (by decide) rfl rfl ?_
              refine g_iconst (v := 0) C (tdec DX8_send 105 rfl) (by decide) rfl ?_
              refine g_istore (L' := [(7, .int 0), (6, .int r160), (5, .int ((-3) - p3)), (4, .int 0), (0, .ref x_0), (1, .int p1), (2, .int p2), (3, .int p3)]) C (tdec DX8_send 106 rfl) (by decide) rfl rfl ?_
              refine g_sub (L' := [(0, .ref x_0), (1, .int p1), (2, .int p2), (3, .int p3), (4, .int 0), (5, .int ((-3) - p3)), (6, .int r160), (7, .int 0)]) [4, 5, 6, 7, 3, 2, 1, 0] rfl ?_
              refine c_FX8_send_L181 C (fun xq163 w7_163 hF => ?_) 100000 _ _ hF
              refine g_aload_n (z := 0) C (tdec DX8_send 195 rfl) rfl rfl rfl ?_
              refine g_ldc2 C (gMem kl_X8_184) (tdec DX8_send 196 rfl) rfl ?_
              refine g_iconst (v := 1) C (tdec DX8_send 197 rfl) (by decide) rfl ?_
              obtain ⟨s164, y165, hF⟩ := o_bind hF
              refine g_callVvMS (q0 := 0) (W' := wM cB cI cJ cZ x_0 x_1 x_2 x_3 x_4 x_5 x_6 x_7 x_8 x_9 x_10 x_11 x_12 x_13 x_14 x_15 x_16 x_17 x_18 x_19 s164) (S := [wM cB cI cJ cZ x_0 x_1 x_2 x_3 x_4 x_5 x_6 x_7 x_8 x_9 x_10 x_11 x_12 x_13 x_14 x_15 x_16 x_17 x_18 x_19 xq163]) (S0 := [wM cB cI cJ cZ x_0 x_1 x_2 x_3 x_4 x_5 x_6 x_7 x_8 x_9 x_10 x_11 x_12 x_13 x_14 x_15 x_16 x_17 x_18 x_19 xq163]) (S1 := [wM cB cI cJ cZ x_0 x_1 x_2 x_3 x_4 x_5 x_6 x_7 x_8 x_9 x_10 x_11 x_12 x_13 x_14 x_15 x_16 x_17 x_18 x_19 s164]) (S' := [wM cB cI cJ cZ x_0 x_1 x_2 x_3 x_4 x_5 x_6 x_7 x_8 x_9 x_10 x_11 x_12 x_13 x_14 x_15 x_16 x_17 x_18 x_19 s164]) C (c_X8_put l D cB cI cJ cZ x_0 x_1 x_2 x_3 x_4 x_5 x_6 x_7 x_8 x_9 x_10 x_11 x_12 x_13 x_14 x_15 x_16 x_17 x_18 x_19 y165) rfl rfl (gIV ml_X8_159 im_X8_put sl_X8_put in_X8 cd_X8_put) rfl eX8_put rfl ⟨rfl, rfl⟩ ⟨Nat.le_of_ble_eq_true rfl, Nat.le_of_ble_eq_true rfl⟩ rfl rfl rfl [0] rfl rfl rfl rfl (gA_cons aM gA_nil) rfl rfl (Nat.le_of_ble_eq_true rfl) (tdec DX8_send 198 rfl) rfl ?_
              refine g_aload_n (z := 0) C (tdec DX8_send 199 rfl) rfl rfl rfl ?_
              refine g_aload_n (z := 0) C (tdec DX8_send 200 rfl) rfl rfl rfl ?_
              refine g_getf (C' := RX8) (T := TX8) (N := 27) (v := .int (MS_recs s164)) C 0 20 (gIn iw_X8) rfl rfl (by decide) (gMem fl_X8_163) rfl rfl (tdec DX8_send 201 rfl) rfl ?_
              refine g_i2l C (tdec DX8_send 202 rfl) rfl ?_
              refine g_iconst (v := 4) C (tdec DX8_send 203 rfl) (by decide) rfl ?_
              obtain ⟨s166, y167, hF⟩ := o_bind hF
              refine g_callVvMS (q0 := 0) (W' := wM cB cI cJ cZ x_0 x_1 x_2 x_3 x_4 x_5 x_6 x_7 x_8 x_9 x_10 x_11 x_12 x_13 x_14 x_15 x_16 x_17 x_18 x_19 s166) (S := [wM cB cI cJ cZ x_0 x_1 x_2 x_3 x_4 x_5 x_6 x_7 x_8 x_9 x_10 x_11 x_12 x_13 x_14 x_15 x_16 x_17 x_18 x_19 s164]) (S0 := [wM cB cI cJ cZ x_0 x_1 x_2 x_3 x_4 x_5 x_6 x_7 x_8 x_9 x_10 x_11 x_12 x_13 x_14 x_15 x_16 x_17 x_18 x_19 s164]) (S1 := [wM cB cI cJ cZ x_0 x_1 x_2 x_3 x_4 x_5 x_6 x_7 x_8 x_9 x_10 x_11 x_12 x_13 x_14 x_15 x_16 x_17 x_18 x_19 s166]) (S' := [wM cB cI cJ cZ x_0 x_1 x_2 x_3 x_4 x_5 x_6 x_7 x_8 x_9 x_10 x_11 x_12 x_13 x_14 x_15 x_16 x_17 x_18 x_19 s166]) C (c_X8_put l D cB cI cJ cZ x_0 x_1 x_2 x_3 x_4 x_5 x_6 x_7 x_8 x_9 x_10 x_11 x_12 x_13 x_14 x_15 x_16 x_17 x_18 x_19 y167) rfl rfl (gIV ml_X8_159 im_X8_put sl_X8_put in_X8 cd_X8_put) rfl eX8_put rfl ⟨rfl, rfl⟩ ⟨Nat.le_of_ble_eq_true rfl, Nat.le_of_ble_eq_true rfl⟩ rfl rfl rfl [0] rfl rfl rfl rfl (gA_cons aM gA_nil) rfl rfl (Nat.le_of_ble_eq_true rfl) (tdec DX8_send 204 rfl) rfl ?_
              refine g_aload_n (z := 0) C (tdec DX8_send 205 rfl) rfl rfl rfl ?_
              obtain ⟨s168, y169, hF⟩ := o_bind hF
              refine g_callVvMS (q0 := 0) (W' := wM cB cI cJ cZ x_0 x_1 x_2 x_3 x_4 x_5 x_6 x_7 x_8 x_9 x_10 x_11 x_12 x_13 x_14 x_15 x_16 x_17 x_18 x_19 s168) (S := [wM cB cI cJ cZ x_0 x_1 x_2 x_3 x_4 x_5 x_6 x_7 x_8 x_9 x_10 x_11 x_12 x_13 x_14 x_15 x_16 x_17 x_18 x_19 s166]) (S0 := [wM cB cI cJ cZ x_0 x_1 x_2 x_3 x_4 x_5 x_6 x_7 x_8 x_9 x_10 x_11 x_12 x_13 x_14 x_15 x_16 x_17 x_18 x_19 s166]) (S1 := [wM cB cI cJ cZ x_0 x_1 x_2 x_3 x_4 x_5 x_6 x_7 x_8 x_9 x_10 x_11 x_12 x_13 x_14 x_15 x_16 x_17 x_18 x_19 s168]) (S' := [wM cB cI cJ cZ x_0 x_1 x_2 x_3 x_4 x_5 x_6 x_7 x_8 x_9 x_10 x_11 x_12 x_13 x_14 x_15 x_16 x_17 x_18 x_19 s168]) C (c_X8_ends l D cB cI cJ cZ x_0 x_1 x_2 x_3 x_4 x_5 x_6 x_7 x_8 x_9 x_10 x_11 x_12 x_13 x_14 x_15 x_16 x_17 x_18 x_19 y169) rfl rfl (gIV ml_X8_168 im_X8_ends sl_X8_ends in_X8 cd_X8_ends) rfl eX8_ends rfl ⟨rfl, rfl⟩ ⟨Nat.le_of_ble_eq_true rfl, Nat.le_of_ble_eq_true rfl⟩ rfl rfl rfl [0] rfl rfl rfl rfl (gA_cons aM gA_nil) rfl rfl (Nat.le_of_ble_eq_true rfl) (tdec DX8_send 206 rfl) rfl ?_
              refine g_aload_n (z := 0) C (tdec DX8_send 207 rfl) rfl rfl rfl ?_
              refine g_getf (C' := RX8) (T := TX8) (N := 27) (v := .int (MS_len s168)) C 0 19 (gIn iw_X8) rfl rfl (by decide) (gMem fl_X8_147) rfl rfl (tdec DX8_send 208 rfl) rfl ?_
              have hr9 := o_some hF
              subst hr9
              exact g_iret C rfl rfl (tdec DX8_send 209 rfl)
          · have hF := o_ifn hF h124
            refine g_iconst (v := 0) C (tdec DX8_send 26 rfl) (by decide) rfl ?_
            have hr9 := o_some hF
            subst hr9
            exact g_iret C rfl rfl (tdec DX8_send 27 rfl)
    · have hF := o_ifp hF h6
      refine g_iconst (v := 2) C (tdec DX8_send 11 rfl) (by decide) rfl ?_
      refine g_goto (pt := 40) C (tdec DX8_send 12 rfl) (by decide) ?_
      refine g_putf (C' := RX8) (T := TX8) (N := 27) (v := .int 2) (ws' := wM cB cI cJ cZ x_0 x_1 x_2 x_3 x_4 x_5 x_6 x_7 x_8 x_9 x_10 x_11 x_12 x_13 x_14 x_15 x_16 x_17 x_18 x_19 (MS_setthr x0 2)) C 0 0 tyX8 tyX8_ok nmX8 (gIn iw_X8) rfl rfl (by decide) (gMem fl_X8_78) rfl rfl (tyX8_ok 0 (by decide)) rfl rfl (Nat.le_of_ble_eq_true rfl) rfl (tdec DX8_send 22 rfl) rfl ?_
      refine g_aload_n (z := 0) C (tdec DX8_send 23 rfl) rfl rfl rfl ?_
      refine g_getf (C' := RX8) (T := TX8) (N := 27) (v := .int 2) C 0 0 (gIn iw_X8) rfl rfl (by decide) (gMem fl_X8_78) rfl rfl (tdec DX8_send 24 rfl) rfl ?_
      refine g_if_le (pt := 52) C (tdec DX8_send 25 rfl) (by decide) rfl (fun h170 => ?_) (fun h170 => ?_)
      · have hF := o_ifp hF h170
        refine g_aload_n (z := 0) C (tdec DX8_send 28 rfl) rfl rfl rfl ?_
        refine g_iconst (v := 0) C (tdec DX8_send 29 rfl) (by decide) rfl ?_
        refine g_putf (C' := RX8) (T := TX8) (N := 27) (v := .int 0) (ws' := wM cB cI cJ cZ x_0 x_1 x_2 x_3 x_4 x_5 x_6 x_7 x_8 x_9 x_10 x_11 x_12 x_13 x_14 x_15 x_16 x_17 x_18 x_19 (MS_setlen (MS_setthr x0 2) 0)) C 0 19 tyX8 tyX8_ok nmX8 (gIn iw_X8) rfl rfl (by decide) (gMem fl_X8_147) rfl rfl (tyX8_ok 19 (by decide)) rfl rfl (Nat.le_of_ble_eq_true rfl) rfl (tdec DX8_send 30 rfl) rfl ?_
        refine g_aload_n (z := 0) C (tdec DX8_send 31 rfl) rfl rfl rfl ?_
        refine g_iconst (v := 0) C (tdec DX8_send 32 rfl) (by decide) rfl ?_
        refine g_putf (C' := RX8) (T := TX8) (N := 27) (v := .int 0) (ws' := wM cB cI cJ cZ x_0 x_1 x_2 x_3 x_4 x_5 x_6 x_7 x_8 x_9 x_10 x_11 x_12 x_13 x_14 x_15 x_16 x_17 x_18 x_19 (MS_setrf (MS_setlen (MS_setthr x0 2) 0) 0)) C 0 26 tyX8 tyX8_ok nmX8 (gIn iw_X8) rfl rfl (by decide) (gMem fl_X8_152) rfl rfl (tyX8_ok 26 (by decide)) rfl rfl (Nat.le_of_ble_eq_true rfl) rfl (tdec DX8_send 33 rfl) rfl ?_
        refine g_aload_n (z := 0) C (tdec DX8_send 34 rfl) rfl rfl rfl ?_
        refine g_iconst (v := 0) C (tdec DX8_send 35 rfl) (by decide) rfl ?_
        refine g_putf (C' := RX8) (T := TX8) (N := 27) (v := .int 0) (ws' := wM cB cI cJ cZ x_0 x_1 x_2 x_3 x_4 x_5 x_6 x_7 x_8 x_9 x_10 x_11 x_12 x_13 x_14 x_15 x_16 x_17 x_18 x_19 (MS_setrecs (MS_setrf (MS_setlen (MS_setthr x0 2) 0) 0) 0)) C 0 20 tyX8 tyX8_ok nmX8 (gIn iw_X8) rfl rfl (by decide) (gMem fl_X8_163) rfl rfl (tyX8_ok 20 (by decide)) rfl rfl (Nat.le_of_ble_eq_true rfl) rfl (tdec DX8_send 36 rfl) rfl ?_
        refine g_aload_n (z := 0) C (tdec DX8_send 37 rfl) rfl rfl rfl ?_
        refine g_iconst (v := 0) C (tdec DX8_send 38 rfl) (by decide) rfl ?_
        refine g_putf (C' := RX8) (T := TX8) (N := 27) (v := .int 0) (ws' := wM cB cI cJ cZ x_0 x_1 x_2 x_3 x_4 x_5 x_6 x_7 x_8 x_9 x_10 x_11 x_12 x_13 x_14 x_15 x_16 x_17 x_18 x_19 (MS_setwr (MS_setrecs (MS_setrf (MS_setlen (MS_setthr x0 2) 0) 0) 0) 0)) C 0 21 tyX8 tyX8_ok nmX8 (gIn iw_X8) rfl rfl (by decide) (gMem fl_X8_178) rfl rfl (tyX8_ok 21 (by decide)) rfl rfl (Nat.le_of_ble_eq_true rfl) rfl (tdec DX8_send 39 rfl) rfl ?_
        refine g_aload_n (z := 0) C (tdec DX8_send 40 rfl) rfl rfl rfl ?_
        refine g_iconst (v := 0) C (tdec DX8_send 41 rfl) (by decide) rfl ?_
        refine g_putf (C' := RX8) (T := TX8) (N := 27) (v := .int 0) (ws' := wM cB cI cJ cZ x_0 x_1 x_2 x_3 x_4 x_5 x_6 x_7 x_8 x_9 x_10 x_11 x_12 x_13 x_14 x_15 x_16 x_17 x_18 x_19 (MS_setcl (MS_setwr (MS_setrecs (MS_setrf (MS_setlen (MS_setthr x0 2) 0) 0) 0) 0) 0)) C 0 22 tyX8 tyX8_ok nmX8 (gIn iw_X8) rfl rfl (by decide) (gMem fl_X8_171) rfl rfl (tyX8_ok 22 (by decide)) rfl rfl (Nat.le_of_ble_eq_true rfl) rfl (tdec DX8_send 42 rfl) rfl ?_
        refine g_aload_n (z := 0) C (tdec DX8_send 43 rfl) rfl rfl rfl ?_
        refine g_iconst (v := 0) C (tdec DX8_send 44 rfl) (by decide) rfl ?_
        refine g_putf (C' := RX8) (T := TX8) (N := 27) (v := .int 0) (ws' := wM cB cI cJ cZ x_0 x_1 x_2 x_3 x_4 x_5 x_6 x_7 x_8 x_9 x_10 x_11 x_12 x_13 x_14 x_15 x_16 x_17 x_18 x_19 (MS_setsn (MS_setcl (MS_setwr (MS_setrecs (MS_setrf (MS_setlen (MS_setthr x0 2) 0) 0) 0) 0) 0) 0)) C 0 23 tyX8 tyX8_ok nmX8 (gIn iw_X8) rfl rfl (by decide) (gMem fl_X8_173) rfl rfl (tyX8_ok 23 (by decide)) rfl rfl (Nat.le_of_ble_eq_true rfl) rfl (tdec DX8_send 45 rfl) rfl ?_
        refine g_iload_n (z := 2) C (tdec DX8_send 46 rfl) rfl rfl rfl ?_
        refine g_iconst (v := (-1)) C (tdec DX8_send 47 rfl) (by decide) rfl ?_
        refine g_icmp_ne (pt := 91) C (tdec DX8_send 48 rfl) (by decide) rfl (fun h171 => ?_) (fun h171 => ?_)
        · have hF := o_ifn hF h171
          refine g_aload_n (z := 0) C (tdec DX8_send 51 rfl) rfl rfl rfl ?_
          refine g_getf (C' := RX8) (T := TX8) (N := 27) (v := .ref x_11) C 0 11 (gIn iw_X8) rfl rfl (by decide) (gMem fl_X8_42) rfl rfl (tdec DX8_send 52 rfl) rfl ?_
          refine g_bipush (v := 20) C (tdec DX8_send 53 rfl) (by decide) rfl ?_
          refine g_iload_n (z := 1) C (tdec DX8_send 54 rfl) rfl rfl rfl ?_
          refine g_imul C (tdec DX8_send 55 rfl) rfl ?_
          refine g_iload_n (z := 2) C (tdec DX8_send 56 rfl) rfl rfl rfl ?_
          refine g_iadd C (tdec DX8_send 57 rfl) rfl ?_
          obtain ⟨r172, y173, hF⟩ := o_bind hF
          refine g_iald C 11 1 rfl rfl y173 (tdec DX8_send 58 rfl) rfl ?_
          refine g_istore (L' := [(4, .int r172), (0, .ref x_0), (1, .int p1), (2, .int p2), (3, .int p3)]) C (tdec DX8_send 59 rfl) (by decide) rfl rfl ?_
          refine g_aload_n (z := 1) C (tdec DX8_send 60 rfl) rfl rfl rfl ?_
          refine g_lconst (v := 1) C (tdec DX8_send 61 rfl) (by decide) rfl ?_
          refine g_iconst (v := 1) C (tdec DX8_send 62 rfl) (by decide) rfl ?_
          obtain ⟨s174, y175, hF⟩ := o_bind hF
          refine g_callVvMS (q0 := 0) (W' := wM cB cI cJ cZ x_0 x_1 x_2 x_3 x_4 x_5 x_6 x_7 x_8 x_9 x_10 x_11 x_12 x_13 x_14 x_15 x_16 x_17 x_18 x_19 s174) (S := [wM cB cI cJ cZ x_0 x_1 x_2 x_3 x_4 x_5 x_6 x_7 x_8 x_9 x_10 x_11 x_12 x_13 x_14 x_15 x_16 x_17 x_18 x_19 (MS_setsn (MS_setcl (MS_setwr (MS_setrecs (MS_setrf (MS_setlen (MS_setthr x0 2) 0) 0) 0) 0) 0) 0)]) (S0 := [wM cB cI cJ cZ x_0 x_1 x_2 x_3 x_4 x_5 x_6 x_7 x_8 x_9 x_10 x_11 x_12 x_13 x_14 x_15 x_16 x_17 x_18 x_19 (MS_setsn (MS_setcl (MS_setwr (MS_setrecs (MS_setrf (MS_setlen (MS_setthr x0 2) 0) 0) 0) 0) 0) 0)]) (S1 := [wM cB cI cJ cZ x_0 x_1 x_2 x_3 x_4 x_5 x_6 x_7 x_8 x_9 x_10 x_11 x_12 x_13 x_14 x_15 x_16 x_17 x_18 x_19 s174]) (S' := [wM cB cI cJ cZ x_0 x_1 x_2 x_3 x_4 x_5 x_6 x_7 x_8 x_9 x_10 x_11 x_12 x_13 x_14 x_15 x_16 x_17 x_18 x_19 s174]) C (c_X8_put l D cB cI cJ cZ x_0 x_1 x_2 x_3 x_4 x_5 x_6 x_7 x_8 x_9 x_10 x_11 x_12 x_13 x_14 x_15 x_16 x_17 x_18 x_19 y175) rfl rfl (gIV ml_X8_159 im_X8_put sl_X8_put in_X8 cd_X8_put) rfl eX8_put rfl ⟨rfl, rfl⟩ ⟨Nat.le_of_ble_eq_true rfl, Nat.le_of_ble_eq_true rfl⟩ rfl rfl rfl [0] rfl rfl rfl rfl (gA_cons aM gA_nil) rfl rfl (Nat.le_of_ble_eq_true rfl) (tdec DX8_send 63 rfl) rfl ?_
          refine g_aload_n (z := 1) C (tdec DX8_send 64 rfl) rfl rfl rfl ?_
          refine g_iload_n (z := 3) C (tdec DX8_send 65 rfl) rfl rfl rfl ?_
          refine g_iconst (v := (-1)) C (tdec DX8_send 66 rfl) (by decide) rfl ?_
          refine g_icmp_ne (pt := 120) C (tdec DX8_send 67 rfl) (by decide) rfl (fun _ => ?_) (fun h => absurd h h171)
          refine g_aload_n (z := 1) C (tdec DX8_send 70 rfl) rfl rfl rfl ?_
          refine g_getf (C' := RX8) (T := TX8) (N := 27) (v := .ref x_12) C 0 12 (gIn iw_X8) rfl rfl (by decide) (gMem fl_X8_45) rfl rfl (tdec DX8_send 71 rfl) rfl ?_
          refine g_bipush (v := 20) C (tdec DX8_send 72 rfl) (by decide) rfl ?_
          refine g_iload_n (z := 2) C (tdec DX8_send 73 rfl) rfl rfl rfl ?_
          refine g_imul C (tdec DX8_send 74 rfl) rfl ?_
          refine g_iload_n (z := 3) C (tdec DX8_send 75 rfl) rfl rfl rfl ?_
          refine g_iadd C (tdec DX8_send 76 rfl) rfl ?_
          obtain ⟨r176, y177, hF⟩ := o_bind hF
          refine g_lald C 12 2 rfl rfl y177 (tdec DX8_send 77 rfl) rfl ?_
          refine g_bipush (v := 8) C (tdec DX8_send 78 rfl) (by decide) rfl ?_
          obtain ⟨s178, y179, hF⟩ := o_bind hF
          refine g_callVvMS (q0 := 0) (W' := wM cB cI cJ cZ x_0 x_1 x_2 x_3 x_4 x_5 x_6 x_7 x_8 x_9 x_10 x_11 x_12 x_13 x_14 x_15 x_16 x_17 x_18 x_19 s178) (S := [wM cB cI cJ cZ x_0 x_1 x_2 x_3 x_4 x_5 x_6 x_7 x_8 x_9 x_10 x_11 x_12 x_13 x_14 x_15 x_16 x_17 x_18 x_19 s174]) (S0 := [wM cB cI cJ cZ x_0 x_1 x_2 x_3 x_4 x_5 x_6 x_7 x_8 x_9 x_10 x_11 x_12 x_13 x_14 x_15 x_16 x_17 x_18 x_19 s174]) (S1 := [wM cB cI cJ cZ x_0 x_1 x_2 x_3 x_4 x_5 x_6 x_7 x_8 x_9 x_10 x_11 x_12 x_13 x_14 x_15 x_16 x_17 x_18 x_19 s178]) (S' := [wM cB cI cJ cZ x_0 x_1 x_2 x_3 x_4 x_5 x_6 x_7 x_8 x_9 x_10 x_11 x_12 x_13 x_14 x_15 x_16 x_17 x_18 x_19 s178]) C (c_X8_put l D cB cI cJ cZ x_0 x_1 x_2 x_3 x_4 x_5 x_6 x_7 x_8 x_9 x_10 x_11 x_12 x_13 x_14 x_15 x_16 x_17 x_18 x_19 y179) rfl rfl (gIV ml_X8_159 im_X8_put sl_X8_put in_X8 cd_X8_put) rfl eX8_put rfl ⟨rfl, rfl⟩ ⟨Nat.le_of_ble_eq_true rfl, Nat.le_of_ble_eq_true rfl⟩ rfl rfl rfl [0] rfl rfl rfl rfl (gA_cons aM gA_nil) rfl rfl (Nat.le_of_ble_eq_true rfl) (tdec DX8_send 79 rfl) rfl ?_
          refine g_aload_n (z := 1) C (tdec DX8_send 80 rfl) rfl rfl rfl ?_
          refine g_aload_n (z := 1) C (tdec DX8_send 81 rfl) rfl rfl rfl ?_
          refine g_getf (C' := RX8) (T := TX8) (N := 27) (v := .ref x_12) C 0 12 (gIn iw_X8) rfl rfl (by decide) (gMem fl_X8_45) rfl rfl (tdec DX8_send 82 rfl) rfl ?_
          refine g_bipush (v := 20) C (tdec DX8_send 83 rfl) (by decide) rfl ?_
          refine g_iload_n (z := 2) C (tdec DX8_send 84 rfl) rfl rfl rfl ?_
          refine g_imul C (tdec DX8_send 85 rfl) rfl ?_
          refine g_iload_n (z := 4) C (tdec DX8_send 86 rfl) rfl rfl rfl ?_
          refine g_iadd C (tdec DX8_send 87 rfl) rfl ?_
          obtain ⟨r180, y181, hF⟩ := o_bind hF
          refine g_lald C 12 2 rfl rfl y181 (tdec DX8_send 88 rfl) rfl ?_
          refine g_bipush (v := 8) C (tdec DX8_send 89 rfl) (by decide) rfl ?_
          obtain ⟨s182, y183, hF⟩ := o_bind hF
          refine g_callVvMS (q0 := 0) (W' := wM cB cI cJ cZ x_0 x_1 x_2 x_3 x_4 x_5 x_6 x_7 x_8 x_9 x_10 x_11 x_12 x_13 x_14 x_15 x_16 x_17 x_18 x_19 s182) (S := [wM cB cI cJ cZ x_0 x_1 x_2 x_3 x_4 x_5 x_6 x_7 x_8 x_9 x_10 x_11 x_12 x_13 x_14 x_15 x_16 x_17 x_18 x_19 s178]) (S0 := [wM cB cI cJ cZ x_0 x_1 x_2 x_3 x_4 x_5 x_6 x_7 x_8 x_9 x_10 x_11 x_12 x_13 x_14 x_15 x_16 x_17 x_18 x_19 s178]) (S1 := [wM cB cI cJ cZ x_0 x_1 x_2 x_3 x_4 x_5 x_6 x_7 x_8 x_9 x_10 x_11 x_12 x_13 x_14 x_15 x_16 x_17 x_18 x_19 s182]) (S' := [wM cB cI cJ cZ x_0 x_1 x_2 x_3 x_4 x_5 x_6 x_7 x_8 x_9 x_10 x_11 x_12 x_13 x_14 x_15 x_16 x_17 x_18 x_19 s182]) C (c_X8_put l D cB cI cJ cZ x_0 x_1 x_2 x_3 x_4 x_5 x_6 x_7 x_8 x_9 x_10 x_11 x_12 x_13 x_14 x_15 x_16 x_17 x_18 x_19 y183) rfl rfl (gIV ml_X8_159 im_X8_put sl_X8_put in_X8 cd_X8_put) rfl eX8_put rfl ⟨rfl, rfl⟩ ⟨Nat.le_of_ble_eq_true rfl, Nat.le_of_ble_eq_true rfl⟩ rfl rfl rfl [0] rfl rfl rfl rfl (gA_cons aM gA_nil) rfl rfl (Nat.le_of_ble_eq_true rfl) (tdec DX8_send 90 rfl) rfl ?_
          refine g_aload_n (z := 1) C (tdec DX8_send 91 rfl) rfl rfl rfl ?_
          obtain ⟨s184, y185, hF⟩ := o_bind hF
          refine g_callVvMS (q0 := 0) (W' := wM cB cI cJ cZ x_0 x_1 x_2 x_3 x_4 x_5 x_6 x_7 x_8 x_9 x_10 x_11 x_12 x_13 x_14 x_15 x_16 x_17 x_18 x_19 s184) (S := [wM cB cI cJ cZ x_0 x_1 x_2 x_3 x_4 x_5 x_6 x_7 x_8 x_9 x_10 x_11 x_12 x_13 x_14 x_15 x_16 x_17 x_18 x_19 s182]) (S0 := [wM cB cI cJ cZ x_0 x_1 x_2 x_3 x_4 x_5 x_6 x_7 x_8 x_9 x_10 x_11 x_12 x_13 x_14 x_15 x_16 x_17 x_18 x_19 s182]) (S1 := [wM cB cI cJ cZ x_0 x_1 x_2 x_3 x_4 x_5 x_6 x_7 x_8 x_9 x_10 x_11 x_12 x_13 x_14 x_15 x_16 x_17 x_18 x_19 s184]) (S' := [wM cB cI cJ cZ x_0 x_1 x_2 x_3 x_4 x_5 x_6 x_7 x_8 x_9 x_10 x_11 x_12 x_13 x_14 x_15 x_16 x_17 x_18 x_19 s184]) C (c_X8_ends l D cB cI cJ cZ x_0 x_1 x_2 x_3 x_4 x_5 x_6 x_7 x_8 x_9 x_10 x_11 x_12 x_13 x_14 x_15 x_16 x_17 x_18 x_19 y185) rfl rfl (gIV ml_X8_168 im_X8_ends sl_X8_ends in_X8 cd_X8_ends) rfl eX8_ends rfl ⟨rfl, rfl⟩ ⟨Nat.le_of_ble_eq_true rfl, Nat.le_of_ble_eq_true rfl⟩ rfl rfl rfl [0] rfl rfl rfl rfl (gA_cons aM gA_nil) rfl rfl (Nat.le_of_ble_eq_true rfl) (tdec DX8_send 92 rfl) rfl ?_
          refine g_bipush (v := (-3)) C (tdec DX8_send 93 rfl) (by decide) rfl ?_
          refine g_iload_n (z := 4) C (tdec DX8_send 94 rfl) rfl rfl rfl ?_
          refine g_isub C (tdec DX8_send 95 rfl) rfl ?_
          refine g_istore (L' := [(5, .int ((-3) - p3)), (4, .int r172), (0, .ref x_0), (1, .int p1), (2, .int p2), (3, .int p3)]) C (tdec DX8_send 96 rfl) (by decide) rfl rfl ?_
          refine g_aload_n (z := 2) C (tdec DX8_send 97 rfl) rfl rfl rfl ?_
          refine g_iload_n (z := 3) C (tdec DX8_send 98 rfl) rfl rfl rfl ?_
          refine g_iload (z := 0) C (tdec DX8_send 99 rfl) rfl rfl ?_
          refine g_iconst (v := 0) C (tdec DX8_send 100 rfl) (by decide) rfl ?_
          refine g_sipush (v := 512) C (tdec DX8_send 101 rfl) (by decide) rfl ?_
          refine g_iload (z := 1) C (tdec DX8_send 102 rfl) rfl rfl ?_
          obtain ⟨⟨r186, s187⟩, y188, hF⟩ := o_bind hF
          refine g_callViMS (q0 := 0) (W' := wM cB cI cJ cZ x_0 x_1 x_2 x_3 x_4 x_5 x_6 x_7 x_8 x_9 x_10 x_11 x_12 x_13 x_14 x_15 x_16 x_17 x_18 x_19 s187) (S := [wM cB cI cJ cZ x_0 x_1 x_2 x_3 x_4 x_5 x_6 x_7 x_8 x_9 x_10 x_11 x_12 x_13 x_14 x_15 x_16 x_17 x_18 x_19 s184]) (S0 := [wM cB cI cJ cZ x_0 x_1 x_2 x_3 x_4 x_5 x_6 x_7 x_8 x_9 x_10 x_11 x_12 x_13 x_14 x_15 x_16 x_17 x_18 x_19 s184]) (S1 := [wM cB cI cJ cZ x_0 x_1 x_2 x_3 x_4 x_5 x_6 x_7 x_8 x_9 x_10 x_11 x_12 x_13 x_14 x_15 x_16 x_17 x_18 x_19 s187]) (S' := [wM cB cI cJ cZ x_0 x_1 x_2 x_3 x_4 x_5 x_6 x_7 x_8 x_9 x_10 x_11 x_12 x_13 x_14 x_15 x_16 x_17 x_18 x_19 s187]) C (c_X8_brings l D cB cI cJ cZ x_0 x_1 x_2 x_3 x_4 x_5 x_6 x_7 x_8 x_9 x_10 x_11 x_12 x_13 x_14 x_15 x_16 x_17 x_18 x_19 y188) rfl rfl (gIV ml_X8_180 im_X8_brings sl_X8_brings in_X8 cd_X8_brings) rfl eX8_brings rfl ⟨rfl, rfl⟩ ⟨Nat.le_of_ble_eq_true rfl, Nat.le_of_ble_eq_true rfl⟩ rfl rfl rfl [0] rfl rfl rfl rfl (gA_cons aM gA_nil) rfl rfl (Nat.le_of_ble_eq_true rfl) (tdec DX8_send 103 rfl) rfl ?_
          refine g_istore (L' := [(6, .int r186), (5, .int ((-3) - p3)), (4, .int r172), (0, .ref x_0), (1, .int p1), (2, .int p2), (3, .int p3)]) C (tdec DX8_send 104 rfl) (by decide) rfl rfl ?_
          refine g_iconst (v := 0) C (tdec DX8_send 105 rfl) (by decide) rfl ?_
          refine g_istore (L' := [(7, .int 0), (6, .int r186), (5, .int ((-3) - p3)), (4, .int r172), (0, .ref x_0), (1, .int p1), (2, .int p2), (3, .int p3)]) C (tdec DX8_send 106 rfl) (by decide) rfl rfl ?_
          refine g_sub (L' := [(0, .ref x_0), (1, .int p1), (2, .int p2), (3, .int p3), (4, .int r172), (5, .int ((-3) - p3)), (6, .int r186), (7, .int 0)]) [4, 5, 6, 7, 3, 2, 1, 0] rfl ?_
          refine c_FX8_send_L181 C (fun xq189 w7_189 hF => ?_) 100000 _ _ hF
          refine g_aload_n (z := 0) C (tdec DX8_send 195 rfl) rfl rfl rfl ?_
          refine g_ldc2 C (gMem kl_X8_184) (tdec DX8_send 196 rfl) rfl ?_
          refine g_iconst (v := 1) C (tdec DX8_send 197 rfl) (by decide) rfl ?_
          obtain ⟨s190, y191, hF⟩ := o_bind hF
          refine g_callVvMS (q0 := 0) (W' := wM cB cI cJ cZ x_0 x_1 x_2 x_3 x_4 x_5 x_6 x_7 x_8 x_9 x_10 x_11 x_12 x_13 x_14 x_15 x_16 x_17 x_18 x_19 s190) (S := [wM cB cI cJ cZ x_0 x_1 x_2 x_3 x_4 x_5 x_6 x_7 x_8 x_9 x_10 x_11 x_12 x_13 x_14 x_15 x_16 x_17 x_18 x_19 xq189]) (S0 := [wM cB cI cJ cZ x_0 x_1 x_2 x_3 x_4 x_5 x_6 x_7 x_8 x_9 x_10 x_11 x_12 x_13 x_14 x_15 x_16 x_17 x_18 x_19 xq189]) (S1 := [wM cB cI cJ cZ x_0 x_1 x_2 x_3 x_4 x_5 x_6 x_7 x_8 x_9 x_10 x_11 x_12 x_13 x_14 x_15 x_16 x_17 x_18 x_19 s190]) (S' := [wM cB cI cJ cZ x_0 x_1 x_2 x_3 x_4 x_5 x_6 x_7 x_8 x_9 x_10 x_11 x_12 x_13 x_14 x_15 x_16 x_17 x_18 x_19 s190]) C (c_X8_put l D cB cI cJ cZ x_0 x_1 x_2 x_3 x_4 x_5 x_6 x_7 x_8 x_9 x_10 x_11 x_12 x_13 x_14 x_15 x_16 x_17 x_18 x_19 y191) rfl rfl (gIV ml_X8_159 im_X8_put sl_X8_put in_X8 cd_X8_put) rfl eX8_put rfl ⟨rfl, rfl⟩ ⟨Nat.le_of_ble_eq_true rfl, Nat.le_of_ble_eq_true rfl⟩ rfl rfl rfl [0] rfl rfl rfl rfl (gA_cons aM gA_nil) rfl rfl (Nat.le_of_ble_eq_true rfl) (tdec DX8_send 198 rfl) rfl ?_
          refine g_aload_n (z := 0) C (tdec DX8_send 199 rfl) rfl rfl rfl ?_
          refine g_aload_n (z := 0) C (tdec DX8_send 200 rfl) rfl rfl rfl ?_
          refine g_getf (C' := RX8) (T := TX8) (N := 27) (v := .int (MS_recs s190)) C 0 20 (gIn iw_X8) rfl rfl (by decide) (gMem fl_X8_163) rfl rfl (tdec DX8_send 201 rfl) rfl ?_
          refine g_i2l C (tdec DX8_send 202 rfl) rfl ?_
          refine g_iconst (v := 4) C (tdec DX8_send 203 rfl) (by decide) rfl ?_
          obtain ⟨s192, y193, hF⟩ := o_bind hF
          refine g_callVvMS (q0 := 0) (W' := wM cB cI cJ cZ x_0 x_1 x_2 x_3 x_4 x_5 x_6 x_7 x_8 x_9 x_10 x_11 x_12 x_13 x_14 x_15 x_16 x_17 x_18 x_19 s192) (S := [wM cB cI cJ cZ x_0 x_1 x_2 x_3 x_4 x_5 x_6 x_7 x_8 x_9 x_10 x_11 x_12 x_13 x_14 x_15 x_16 x_17 x_18 x_19 s190]) (S0 := [wM cB cI cJ cZ x_0 x_1 x_2 x_3 x_4 x_5 x_6 x_7 x_8 x_9 x_10 x_11 x_12 x_13 x_14 x_15 x_16 x_17 x_18 x_19 s190]) (S1 := [wM cB cI cJ cZ x_0 x_1 x_2 x_3 x_4 x_5 x_6 x_7 x_8 x_9 x_10 x_11 x_12 x_13 x_14 x_15 x_16 x_17 x_18 x_19 s192]) (S' := [wM cB cI cJ cZ x_0 x_1 x_2 x_3 x_4 x_5 x_6 x_7 x_8 x_9 x_10 x_11 x_12 x_13 x_14 x_15 x_16 x_17 x_18 x_19 s192]) C (c_X8_put l D cB cI cJ cZ x_0 x_1 x_2 x_3 x_4 x_5 x_6 x_7 x_8 x_9 x_10 x_11 x_12 x_13 x_14 x_15 x_16 x_17 x_18 x_19 y193) rfl rfl (gIV ml_X8_159 im_X8_put sl_X8_put in_X8 cd_X8_put) rfl eX8_put rfl ⟨rfl, rfl⟩ ⟨Nat.le_of_ble_eq_true rfl, Nat.le_of_ble_eq_true rfl⟩ rfl rfl rfl [0] rfl rfl rfl rfl (gA_cons aM gA_nil) rfl rfl (Nat.le_of_ble_eq_true rfl) (tdec DX8_send 204 rfl) rfl ?_
          refine g_aload_n (z := 0) C (tdec DX8_send 205 rfl) rfl rfl rfl ?_
          obtain ⟨s194, y195, hF⟩ := o_bind hF
          refine g_callVvMS (q0 := 0) (W' := wM cB cI cJ cZ x_0 x_1 x_2 x_3 x_4 x_5 x_6 x_7 x_8 x_9 x_10 x_11 x_12 x_13 x_14 x_15 x_16 x_17 x_18 x_19 s194) (S := [wM cB cI cJ cZ x_0 x_1 x_2 x_3 x_4 x_5 x_6 x_7 x_8 x_9 x_10 x_11 x_12 x_13 x_14 x_15 x_16 x_17 x_18 x_19 s192]) (S0 := [wM cB cI cJ cZ x_0 x_1 x_2 x_3 x_4 x_5 x_6 x_7 x_8 x_9 x_10 x_11 x_12 x_13 x_14 x_15 x_16 x_17 x_18 x_19 s192]) (S1 := [wM cB cI cJ cZ x_0 x_1 x_2 x_3 x_4 x_5 x_6 x_7 x_8 x_9 x_10 x_11 x_12 x_13 x_14 x_15 x_16 x_17 x_18 x_19 s194]) (S' := [wM cB cI cJ cZ x_0 x_1 x_2 x_3 x_4 x_5 x_6 x_7 x_8 x_9 x_10 x_11 x_12 x_13 x_14 x_15 x_16 x_17 x_18 x_19 s194]) C (c_X8_ends l D cB cI cJ cZ x_0 x_1 x_2 x_3 x_4 x_5 x_6 x_7 x_8 x_9 x_10 x_11 x_12 x_13 x_14 x_15 x_16 x_17 x_18 x_19 y195) rfl rfl (gIV ml_X8_168 im_X8_ends sl_X8_ends in_X8 cd_X8_ends) rfl eX8_ends rfl ⟨rfl, rfl⟩ ⟨Nat.le_of_ble_eq_true rfl, Nat.le_of_ble_eq_true rfl⟩ rfl rfl rfl [0] rfl rfl rfl rfl (gA_cons aM gA_nil) rfl rfl (Nat.le_of_ble_eq_true rfl) (tdec DX8_send 206 rfl) rfl ?_
          refine g_aload_n (z := 0) C (tdec DX8_send 207 rfl) rfl rfl rfl ?_
          refine g_getf (C' := RX8) (T := TX8) (N := 27) (v := .int (MS_len s194)) C 0 19 (gIn iw_X8) rfl rfl (by decide) (gMem fl_X8_147) rfl rfl (tdec DX8_send 208 rfl) rfl ?_
          have hr9 := o_some hF
          subst hr9
          exact g_iret C rfl rfl (tdec DX8_send 209 rfl)
        · have hF := o_ifp hF h171
          refine g_iconst (v := 0) C (tdec DX8_send 49 rfl) (by decide) rfl ?_
          refine g_goto (pt := 102) C (tdec DX8_send 50 rfl) (by decide) ?_
          refine g_istore (L' := [(4, .int 0), (0, .ref x_0), (1, .int p1), (2, .int p2), (3, .int p3)]) C (tdec DX8_send 59 rfl) (by decide) rfl rfl ?_
          refine g_aload_n (z := 1) C (tdec DX8_send 60 rfl) rfl rfl rfl ?_
          refine g_lconst (v := 1) C (tdec DX8_send 61 rfl) (by decide) rfl ?_
          refine g_iconst (v := 1) C (tdec DX8_send 62 rfl) (by decide) rfl ?_
          obtain ⟨s196, y197, hF⟩ := o_bind hF
          refine g_callVvMS (q0 := 0) (W' := wM cB cI cJ cZ x_0 x_1 x_2 x_3 x_4 x_5 x_6 x_7 x_8 x_9 x_10 x_11 x_12 x_13 x_14 x_15 x_16 x_17 x_18 x_19 s196) (S := [wM cB cI cJ cZ x_0 x_1 x_2 x_3 x_4 x_5 x_6 x_7 x_8 x_9 x_10 x_11 x_12 x_13 x_14 x_15 x_16 x_17 x_18 x_19 (MS_setsn (MS_setcl (MS_setwr (MS_setrecs (MS_setrf (MS_setlen (MS_setthr x0 2) 0) 0) 0) 0) 0) 0)]) (S0 := [wM cB cI cJ cZ x_0 x_1 x_2 x_3 x_4 x_5 x_6 x_7 x_8 x_9 x_10 x_11 x_12 x_13 x_14 x_15 x_16 x_17 x_18 x_19 (MS_setsn (MS_setcl (MS_setwr (MS_setrecs (MS_setrf (MS_setlen (MS_setthr x0 2) 0) 0) 0) 0) 0) 0)]) (S1 := [wM cB cI cJ cZ x_0 x_1 x_2 x_3 x_4 x_5 x_6 x_7 x_8 x_9 x_10 x_11 x_12 x_13 x_14 x_15 x_16 x_17 x_18 x_19 s196]) (S' := [wM cB cI cJ cZ x_0 x_1 x_2 x_3 x_4 x_5 x_6 x_7 x_8 x_9 x_10 x_11 x_12 x_13 x_14 x_15 x_16 x_17 x_18 x_19 s196]) C (c_X8_put l D cB cI cJ cZ x_0 x_1 x_2 x_3 x_4 x_5 x_6 x_7 x_8 x_9 x_10 x_11 x_12 x_13 x_14 x_15 x_16 x_17 x_18 x_19 y197) rfl rfl (gIV ml_X8_159 im_X8_put sl_X8_put in_X8 cd_X8_put) rfl eX8_put rfl ⟨rfl, rfl⟩ ⟨Nat.le_of_ble_eq_true rfl, Nat.le_of_ble_eq_true rfl⟩ rfl rfl rfl [0] rfl rfl rfl rfl (gA_cons aM gA_nil) rfl rfl (Nat.le_of_ble_eq_true rfl) (tdec DX8_send 63 rfl) rfl ?_
          refine g_aload_n (z := 1) C (tdec DX8_send 64 rfl) rfl rfl rfl ?_
          refine g_iload_n (z := 3) C (tdec DX8_send 65 rfl) rfl rfl rfl ?_
          refine g_iconst (v := (-1)) C (tdec DX8_send 66 rfl) (by decide) rfl ?_
          refine g_icmp_ne (pt := 120) C (tdec DX8_send 67 rfl) (by decide) rfl (fun h => absurd h171 h) (fun _ => ?_)
          refine g_lconst (v := 0) C (tdec DX8_send 68 rfl) (by decide) rfl ?_
          refine g_goto (pt := 131) C (tdec DX8_send 69 rfl) (by decide) ?_
          refine g_bipush (v := 8) C (tdec DX8_send 78 rfl) (by decide) rfl ?_
          obtain ⟨s198, y199, hF⟩ := o_bind hF
          refine g_callVvMS (q0 := 0) (W' := wM cB cI cJ cZ x_0 x_1 x_2 x_3 x_4 x_5 x_6 x_7 x_8 x_9 x_10 x_11 x_12 x_13 x_14 x_15 x_16 x_17 x_18 x_19 s198) (S := [wM cB cI cJ cZ x_0 x_1 x_2 x_3 x_4 x_5 x_6 x_7 x_8 x_9 x_10 x_11 x_12 x_13 x_14 x_15 x_16 x_17 x_18 x_19 s196]) (S0 := [wM cB cI cJ cZ x_0 x_1 x_2 x_3 x_4 x_5 x_6 x_7 x_8 x_9 x_10 x_11 x_12 x_13 x_14 x_15 x_16 x_17 x_18 x_19 s196]) (S1 := [wM cB cI cJ cZ x_0 x_1 x_2 x_3 x_4 x_5 x_6 x_7 x_8 x_9 x_10 x_11 x_12 x_13 x_14 x_15 x_16 x_17 x_18 x_19 s198]) (S' := [wM cB cI cJ cZ x_0 x_1 x_2 x_3 x_4 x_5 x_6 x_7 x_8 x_9 x_10 x_11 x_12 x_13 x_14 x_15 x_16 x_17 x_18 x_19 s198]) C (c_X8_put l D cB cI cJ cZ x_0 x_1 x_2 x_3 x_4 x_5 x_6 x_7 x_8 x_9 x_10 x_11 x_12 x_13 x_14 x_15 x_16 x_17 x_18 x_19 y199) rfl rfl (gIV ml_X8_159 im_X8_put sl_X8_put in_X8 cd_X8_put) rfl eX8_put rfl ⟨rfl, rfl⟩ ⟨Nat.le_of_ble_eq_true rfl, Nat.le_of_ble_eq_true rfl⟩ rfl rfl rfl [0] rfl rfl rfl rfl (gA_cons aM gA_nil) rfl rfl (Nat.le_of_ble_eq_true rfl) (tdec DX8_send 79 rfl) rfl ?_
          refine g_aload_n (z := 1) C (tdec DX8_send 80 rfl) rfl rfl rfl ?_
          refine g_aload_n (z := 1) C (tdec DX8_send 81 rfl) rfl rfl rfl ?_
          refine g_getf (C' := RX8) (T := TX8) (N := 27) (v := .ref x_12) C 0 12 (gIn iw_X8) rfl rfl (by decide) (gMem fl_X8_45) rfl rfl (tdec DX8_send 82 rfl) rfl ?_
          refine g_bipush (v := 20) C (tdec DX8_send 83 rfl) (by decide) rfl ?_
          refine g_iload_n (z := 2) C (tdec DX8_send 84 rfl) rfl rfl rfl ?_
          refine g_imul C (tdec DX8_send 85 rfl) rfl ?_
          refine g_iload_n (z := 4) C (tdec DX8_send 86 rfl) rfl rfl rfl ?_
          refine g_iadd C (tdec DX8_send 87 rfl) rfl ?_
          obtain ⟨r200, y201, hF⟩ := o_bind hF
          refine g_lald C 12 2 rfl rfl y201 (tdec DX8_send 88 rfl) rfl ?_
          refine g_bipush (v := 8) C (tdec DX8_send 89 rfl) (by decide) rfl ?_
          obtain ⟨s202, y203, hF⟩ := o_bind hF
          refine g_callVvMS (q0 := 0) (W' := wM cB cI cJ cZ x_0 x_1 x_2 x_3 x_4 x_5 x_6 x_7 x_8 x_9 x_10 x_11 x_12 x_13 x_14 x_15 x_16 x_17 x_18 x_19 s202) (S := [wM cB cI cJ cZ x_0 x_1 x_2 x_3 x_4 x_5 x_6 x_7 x_8 x_9 x_10 x_11 x_12 x_13 x_14 x_15 x_16 x_17 x_18 x_19 s198]) (S0 := [wM cB cI cJ cZ x_0 x_1 x_2 x_3 x_4 x_5 x_6 x_7 x_8 x_9 x_10 x_11 x_12 x_13 x_14 x_15 x_16 x_17 x_18 x_19 s198]) (S1 := [wM cB cI cJ cZ x_0 x_1 x_2 x_3 x_4 x_5 x_6 x_7 x_8 x_9 x_10 x_11 x_12 x_13 x_14 x_15 x_16 x_17 x_18 x_19 s202]) (S' := [wM cB cI cJ cZ x_0 x_1 x_2 x_3 x_4 x_5 x_6 x_7 x_8 x_9 x_10 x_11 x_12 x_13 x_14 x_15 x_16 x_17 x_18 x_19 s202]) C (c_X8_put l D cB cI cJ cZ x_0 x_1 x_2 x_3 x_4 x_5 x_6 x_7 x_8 x_9 x_10 x_11 x_12 x_13 x_14 x_15 x_16 x_17 x_18 x_19 y203) rfl rfl (gIV ml_X8_159 im_X8_put sl_X8_put in_X8 cd_X8_put) rfl eX8_put rfl ⟨rfl, rfl⟩ ⟨Nat.le_of_ble_eq_true rfl, Nat.le_of_ble_eq_true rfl⟩ rfl rfl rfl [0] rfl rfl rfl rfl (gA_cons aM gA_nil) rfl rfl (Nat.le_of_ble_eq_true rfl) (tdec DX8_send 90 rfl) rfl ?_
          refine g_aload_n (z := 1) C (tdec DX8_send 91 rfl) rfl rfl rfl ?_
          obtain ⟨s204, y205, hF⟩ := o_bind hF
          refine g_callVvMS (q0 := 0) (W' := wM cB cI cJ cZ x_0 x_1 x_2 x_3 x_4 x_5 x_6 x_7 x_8 x_9 x_10 x_11 x_12 x_13 x_14 x_15 x_16 x_17 x_18 x_19 s204) (S := [wM cB cI cJ cZ x_0 x_1 x_2 x_3 x_4 x_5 x_6 x_7 x_8 x_9 x_10 x_11 x_12 x_13 x_14 x_15 x_16 x_17 x_18 x_19 s202]) (S0 := [wM cB cI cJ cZ x_0 x_1 x_2 x_3 x_4 x_5 x_6 x_7 x_8 x_9 x_10 x_11 x_12 x_13 x_14 x_15 x_16 x_17 x_18 x_19 s202]) (S1 := [wM cB cI cJ cZ x_0 x_1 x_2 x_3 x_4 x_5 x_6 x_7 x_8 x_9 x_10 x_11 x_12 x_13 x_14 x_15 x_16 x_17 x_18 x_19 s204]) (S' := [wM cB cI cJ cZ x_0 x_1 x_2 x_3 x_4 x_5 x_6 x_7 x_8 x_9 x_10 x_11 x_12 x_13 x_14 x_15 x_16 x_17 x_18 x_19 s204]) C (c_X8_ends l D cB cI cJ cZ x_0 x_1 x_2 x_3 x_4 x_5 x_6 x_7 x_8 x_9 x_10 x_11 x_12 x_13 x_14 x_15 x_16 x_17 x_18 x_19 y205) rfl rfl (gIV ml_X8_168 im_X8_ends sl_X8_ends in_X8 cd_X8_ends) rfl eX8_ends rfl ⟨rfl, rfl⟩ ⟨Nat.le_of_ble_eq_true rfl, Nat.le_of_ble_eq_true rfl⟩ rfl rfl rfl [0] rfl rfl rfl rfl (gA_cons aM gA_nil) rfl rfl (Nat.le_of_ble_eq_true rfl) (tdec DX8_send 92 rfl) rfl ?_
          refine g_bipush (v := (-3)) C (tdec DX8_send 93 rfl) (by decide) rfl ?_
          refine g_iload_n (z := 4) C (tdec DX8_send 94 rfl) rfl rfl rfl ?_
          refine g_isub C (tdec DX8_send 95 rfl) rfl ?_
          refine g_istore (L' := [(5, .int ((-3) - p3)), (4, .int 0), (0, .ref x_0), (1, .int p1), (2, .int p2), (3, .int p3)]) C (tdec DX8_send 96 rfl) (by decide) rfl rfl ?_
          refine g_aload_n (z := 2) C (tdec DX8_send 97 rfl) rfl rfl rfl ?_
          refine g_iload_n (z := 3) C (tdec DX8_send 98 rfl) rfl rfl rfl ?_
          refine g_iload (z := 0) C (tdec DX8_send 99 rfl) rfl rfl ?_
          refine g_iconst (v := 0) C (tdec DX8_send 100 rfl) (by decide) rfl ?_
          refine g_sipush (v := 512) C (tdec DX8_send 101 rfl) (by decide) rfl ?_
          refine g_iload (z := 1) C (tdec DX8_send 102 rfl) rfl rfl ?_
          obtain ⟨⟨r206, s207⟩, y208, hF⟩ := o_bind hF
          refine g_callViMS (q0 := 0) (W' := wM cB cI cJ cZ x_0 x_1 x_2 x_3 x_4 x_5 x_6 x_7 x_8 x_9 x_10 x_11 x_12 x_13 x_14 x_15 x_16 x_17 x_18 x_19 s207) (S := [wM cB cI cJ cZ x_0 x_1 x_2 x_3 x_4 x_5 x_6 x_7 x_8 x_9 x_10 x_11 x_12 x_13 x_14 x_15 x_16 x_17 x_18 x_19 s204]) (S0 := [wM cB cI cJ cZ x_0 x_1 x_2 x_3 x_4 x_5 x_6 x_7 x_8 x_9 x_10 x_11 x_12 x_13 x_14 x_15 x_16 x_17 x_18 x_19 s204]) (S1 := [wM cB cI cJ cZ x_0 x_1 x_2 x_3 x_4 x_5 x_6 x_7 x_8 x_9 x_10 x_11 x_12 x_13 x_14 x_15 x_16 x_17 x_18 x_19 s207]) (S' := [wM cB cI cJ cZ x_0 x_1 x_2 x_3 x_4 x_5 x_6 x_7 x_8 x_9 x_10 x_11 x_12 x_13 x_14 x_15 x_16 x_17 x_18 x_19 s207]) C (c_X8_brings l D cB cI cJ cZ x_0 x_1 x_2 x_3 x_4 x_5 x_6 x_7 x_8 x_9 x_10 x_11 x_12 x_13 x_14 x_15 x_16 x_17 x_18 x_19 y208) rfl rfl (gIV ml_X8_180 im_X8_brings sl_X8_brings in_X8 cd_X8_brings) rfl eX8_brings rfl ⟨rfl, rfl⟩ ⟨Nat.le_of_ble_eq_true rfl, Nat.le_of_ble_eq_true rfl⟩ rfl rfl rfl [0] rfl rfl rfl rfl (gA_cons aM gA_nil) rfl rfl (Nat.le_of_ble_eq_true rfl) (tdec DX8_send 103 rfl) rfl ?_
          refine g_istore (L' := [(6, .int r206), (5, .int ((-3) - p3)), (4, .int 0), (0, .ref x_0), (1, .int p1), (2, .int p2), (3, .int p3)]) C (tdec DX8_send 104 rfl) (by decide) rfl rfl ?_
          refine g_iconst (v := 0) C (tdec DX8_send 105 rfl) (by decide) rfl ?_
          refine g_istore (L' := [(7, .int 0), (6, .int r206), (5, .int ((-3) - p3)), (4, .int 0), (0, .ref x_0), (1, .int p1), (2, .int p2), (3, .int p3)]) C (tdec DX8_send 106 rfl) (by decide) rfl rfl ?_
          refine g_sub (L' := [(0, .ref x_0), (1, .int p1), (2, .int p2), (3, .int p3), (4, .int 0), (5, .int ((-3) - p3)), (6, .int r206), (7, .int 0)]) [4, 5, 6, 7, 3, 2, 1, 0] rfl ?_
          refine c_FX8_send_L181 C (fun xq209 w7_209 hF => ?_) 100000 _ _ hF
          refine g_aload_n (z := 0) C (tdec DX8_send 195 rfl) rfl rfl rfl ?_
          refine g_ldc2 C (gMem kl_X8_184) (tdec DX8_send 196 rfl) rfl ?_
          refine g_iconst (v := 1) C (tdec DX8_send 197 rfl) (by decide) rfl ?_
          obtain ⟨s210, y211, hF⟩ := o_bind hF
          refine g_callVvMS (q0 := 0) (W' := wM cB cI cJ cZ x_0 x_1 x_2 x_3 x_4 x_5 x_6 x_7 x_8 x_9 x_10 x_11 x_12 x_13 x_14 x_15 x_16 x_17 x_18 x_19 s210) (S := [wM cB cI cJ cZ x_0 x_1 x_2 x_3 x_4 x_5 x_6 x_7 x_8 x_9 x_10 x_11 x_12 x_13 x_14 x_15 x_16 x_17 x_18 x_19 xq209]) (S0 := [wM cB cI cJ cZ x_0 x_1 x_2 x_3 x_4 x_5 x_6 x_7 x_8 x_9 x_10 x_11 x_12 x_13 x_14 x_15 x_16 x_17 x_18 x_19 xq209]) (S1 := [wM cB cI cJ cZ x_0 x_1 x_2 x_3 x_4 x_5 x_6 x_7 x_8 x_9 x_10 x_11 x_12 x_13 x_14 x_15 x_16 x_17 x_18 x_19 s210]) (S' := [wM cB cI cJ cZ x_0 x_1 x_2 x_3 x_4 x_5 x_6 x_7 x_8 x_9 x_10 x_11 x_12 x_13 x_14 x_15 x_16 x_17 x_18 x_19 s210]) C (c_X8_put l D cB cI cJ cZ x_0 x_1 x_2 x_3 x_4 x_5 x_6 x_7 x_8 x_9 x_10 x_11 x_12 x_13 x_14 x_15 x_16 x_17 x_18 x_19 y211) rfl rfl (gIV ml_X8_159 im_X8_put sl_X8_put in_X8 cd_X8_put) rfl eX8_put rfl ⟨rfl, rfl⟩ ⟨Nat.le_of_ble_eq_true rfl, Nat.le_of_ble_eq_true rfl⟩ rfl rfl rfl [0] rfl rfl rfl rfl (gA_cons aM gA_nil) rfl rfl (Nat.le_of_ble_eq_true rfl) (tdec DX8_send 198 rfl) rfl ?_
          refine g_aload_n (z := 0) C (tdec DX8_send 199 rfl) rfl rfl rfl ?_
          refine g_aload_n (z := 0) C (tdec DX8_send 200 rfl) rfl rfl rfl ?_
          refine g_getf (C' := RX8) (T := TX8) (N := 27) (v := .int (MS_recs s210)) C 0 20 (gIn iw_X8) rfl rfl (by decide) (gMem fl_X8_163) rfl rfl (tdec DX8_send 201 rfl) rfl ?_
          refine g_i2l C (tdec DX8_send 202 rfl) rfl ?_
          refine g_iconst (v := 4) C (tdec DX8_send 203 rfl) (by decide) rfl ?_
          obtain ⟨s212, y213, hF⟩ := o_bind hF
          refine g_callVvMS (q0 := 0) (W' := wM cB cI cJ cZ x_0 x_1 x_2 x_3 x_4 x_5 x_6 x_7 x_8 x_9 x_10 x_11 x_12 x_13 x_14 x_15 x_16 x_17 x_18 x_19 s212) (S := [wM cB cI cJ cZ x_0 x_1 x_2 x_3 x_4 x_5 x_6 x_7 x_8 x_9 x_10 x_11 x_12 x_13 x_14 x_15 x_16 x_17 x_18 x_19 s210]) (S0 := [wM cB cI cJ cZ x_0 x_1 x_2 x_3 x_4 x_5 x_6 x_7 x_8 x_9 x_10 x_11 x_12 x_13 x_14 x_15 x_16 x_17 x_18 x_19 s210]) (S1 := [wM cB cI cJ cZ x_0 x_1 x_2 x_3 x_4 x_5 x_6 x_7 x_8 x_9 x_10 x_11 x_12 x_13 x_14 x_15 x_16 x_17 x_18 x_19 s212]) (S' := [wM cB cI cJ cZ x_0 x_1 x_2 x_3 x_4 x_5 x_6 x_7 x_8 x_9 x_10 x_11 x_12 x_13 x_14 x_15 x_16 x_17 x_18 x_19 s212]) C (c_X8_put l D cB cI cJ cZ x_0 x_1 x_2 x_3 x_4 x_5 x_6 x_7 x_8 x_9 x_10 x_11 x_12 x_13 x_14 x_15 x_16 x_17 x_18 x_19 y213) rfl rfl (gIV ml_X8_159 im_X8_put sl_X8_put in_X8 cd_X8_put) rfl eX8_put rfl ⟨rfl, rfl⟩ ⟨Nat.le_of_ble_eq_true rfl, Nat.le_of_ble_eq_true rfl⟩ rfl rfl rfl [0] rfl rfl rfl rfl (gA_cons aM gA_nil) rfl rfl (Nat.le_of_ble_eq_true rfl) (tdec DX8_send 204 rfl) rfl ?_
          refine g_aload_n (z := 0) C (tdec DX8_send 205 rfl) rfl rfl rfl ?_
          obtain ⟨s214, y215, hF⟩ := o_bind hF
          refine g_callVvMS (q0 := 0) (W' := wM cB cI cJ cZ x_0 x_1 x_2 x_3 x_4 x_5 x_6 x_7 x_8 x_9 x_10 x_11 x_12 x_13 x_14 x_15 x_16 x_17 x_18 x_19 s214) (S := [wM cB cI cJ cZ x_0 x_1 x_2 x_3 x_4 x_5 x_6 x_7 x_8 x_9 x_10 x_11 x_12 x_13 x_14 x_15 x_16 x_17 x_18 x_19 s212]) (S0 := [wM cB cI cJ cZ x_0 x_1 x_2 x_3 x_4 x_5 x_6 x_7 x_8 x_9 x_10 x_11 x_12 x_13 x_14 x_15 x_16 x_17 x_18 x_19 s212]) (S1 := [wM cB cI cJ cZ x_0 x_1 x_2 x_3 x_4 x_5 x_6 x_7 x_8 x_9 x_10 x_11 x_12 x_13 x_14 x_15 x_16 x_17 x_18 x_19 s214]) (S' := [wM cB cI cJ cZ x_0 x_1 x_2 x_3 x_4 x_5 x_6 x_7 x_8 x_9 x_10 x_11 x_12 x_13 x_14 x_15 x_16 x_17 x_18 x_19 s214]) C (c_X8_ends l D cB cI cJ cZ x_0 x_1 x_2 x_3 x_4 x_5 x_6 x_7 x_8 x_9 x_10 x_11 x_12 x_13 x_14 x_15 x_16 x_17 x_18 x_19 y215) rfl rfl (gIV ml_X8_168 im_X8_ends sl_X8_ends in_X8 cd_X8_ends) rfl eX8_ends rfl ⟨rfl, rfl⟩ ⟨Nat.le_of_ble_eq_true rfl, Nat.le_of_ble_eq_true rfl⟩ rfl rfl rfl [0] rfl rfl rfl rfl (gA_cons aM gA_nil) rfl rfl (Nat.le_of_ble_eq_true rfl) (tdec DX8_send 206 rfl) rfl ?_
          refine g_aload_n (z := 0) C (tdec DX8_send 207 rfl) rfl rfl rfl ?_
          refine g_getf (C' := RX8) (T := TX8) (N := 27) (v := .int (MS_len s214)) C 0 19 (gIn iw_X8) rfl rfl (by decide) (gMem fl_X8_147) rfl rfl (tdec DX8_send 208 rfl) rfl ?_
          have hr9 := o_some hF
          subst hr9
          exact g_iret C rfl rfl (tdec DX8_send 209 rfl)
      · have hF := o_ifn hF h170
        refine g_iconst (v := 0) C (tdec DX8_send 26 rfl) (by decide) rfl ?_
        have hr9 := o_some hF
        subst hr9
        exact g_iret C rfl rfl (tdec DX8_send 27 rfl)
  · have hF := o_ifp hF h3
    refine g_iconst (v := 1) C (tdec DX8_send 4 rfl) (by decide) rfl ?_
    refine g_goto (pt := 40) C (tdec DX8_send 5 rfl) (by decide) ?_
    refine g_putf (C' := RX8) (T := TX8) (N := 27) (v := .int 1) (ws' := wM cB cI cJ cZ x_0 x_1 x_2 x_3 x_4 x_5 x_6 x_7 x_8 x_9 x_10 x_11 x_12 x_13 x_14 x_15 x_16 x_17 x_18 x_19 (MS_setthr x0 1)) C 0 0 tyX8 tyX8_ok nmX8 (gIn iw_X8) rfl rfl (by decide) (gMem fl_X8_78) rfl rfl (tyX8_ok 0 (by decide)) rfl rfl (Nat.le_of_ble_eq_true rfl) rfl (tdec DX8_send 22 rfl) rfl ?_
    refine g_aload_n (z := 0) C (tdec DX8_send 23 rfl) rfl rfl rfl ?_
    refine g_getf (C' := RX8) (T := TX8) (N := 27) (v := .int 1) C 0 0 (gIn iw_X8) rfl rfl (by decide) (gMem fl_X8_78) rfl rfl (tdec DX8_send 24 rfl) rfl ?_
    refine g_if_le (pt := 52) C (tdec DX8_send 25 rfl) (by decide) rfl (fun h216 => ?_) (fun h216 => ?_)
    · have hF := o_ifp hF h216
      refine g_aload_n (z := 0) C (tdec DX8_send 28 rfl) rfl rfl rfl ?_
      refine g_iconst (v := 0) C (tdec DX8_send 29 rfl) (by decide) rfl ?_
      refine g_putf (C' := RX8) (T := TX8) (N := 27) (v := .int 0) (ws' := wM cB cI cJ cZ x_0 x_1 x_2 x_3 x_4 x_5 x_6 x_7 x_8 x_9 x_10 x_11 x_12 x_13 x_14 x_15 x_16 x_17 x_18 x_19 (MS_setlen (MS_setthr x0 1) 0)) C 0 19 tyX8 tyX8_ok nmX8 (gIn iw_X8) rfl rfl (by decide) (gMem fl_X8_147) rfl rfl (tyX8_ok 19 (by decide)) rfl rfl (Nat.le_of_ble_eq_true rfl) rfl (tdec DX8_send 30 rfl) rfl ?_
      refine g_aload_n (z := 0) C (tdec DX8_send 31 rfl) rfl rfl rfl ?_
      refine g_iconst (v := 0) C (tdec DX8_send 32 rfl) (by decide) rfl ?_
      refine g_putf (C' := RX8) (T := TX8) (N := 27) (v := .int 0) (ws' := wM cB cI cJ cZ x_0 x_1 x_2 x_3 x_4 x_5 x_6 x_7 x_8 x_9 x_10 x_11 x_12 x_13 x_14 x_15 x_16 x_17 x_18 x_19 (MS_setrf (MS_setlen (MS_setthr x0 1) 0) 0)) C 0 26 tyX8 tyX8_ok nmX8 (gIn iw_X8) rfl rfl (by decide) (gMem fl_X8_152) rfl rfl (tyX8_ok 26 (by decide)) rfl rfl (Nat.le_of_ble_eq_true rfl) rfl (tdec DX8_send 33 rfl) rfl ?_
      refine g_aload_n (z := 0) C (tdec DX8_send 34 rfl) rfl rfl rfl ?_
      refine g_iconst (v := 0) C (tdec DX8_send 35 rfl) (by decide) rfl ?_
      refine g_putf (C' := RX8) (T := TX8) (N := 27) (v := .int 0) (ws' := wM cB cI cJ cZ x_0 x_1 x_2 x_3 x_4 x_5 x_6 x_7 x_8 x_9 x_10 x_11 x_12 x_13 x_14 x_15 x_16 x_17 x_18 x_19 (MS_setrecs (MS_setrf (MS_setlen (MS_setthr x0 1) 0) 0) 0)) C 0 20 tyX8 tyX8_ok nmX8 (gIn iw_X8) rfl rfl (by decide) (gMem fl_X8_163) rfl rfl (tyX8_ok 20 (by decide)) rfl rfl (Nat.le_of_ble_eq_true rfl) rfl (tdec DX8_send 36 rfl) rfl ?_
      refine g_aload_n (z := 0) C (tdec DX8_send 37 rfl) rfl rfl rfl ?_
      refine g_iconst (v := 0) C (tdec DX8_send 38 rfl) (by decide) rfl ?_
      refine g_putf (C' := RX8) (T := TX8) (N := 27) (v := .int 0) (ws' := wM cB cI cJ cZ x_0 x_1 x_2 x_3 x_4 x_5 x_6 x_7 x_8 x_9 x_10 x_11 x_12 x_13 x_14 x_15 x_16 x_17 x_18 x_19 (MS_setwr (MS_setrecs (MS_setrf (MS_setlen (MS_setthr x0 1) 0) 0) 0) 0)) C 0 21 tyX8 tyX8_ok nmX8 (gIn iw_X8) rfl rfl (by decide) (gMem fl_X8_178) rfl rfl (tyX8_ok 21 (by decide)) rfl rfl (Nat.le_of_ble_eq_true rfl) rfl (tdec DX8_send 39 rfl) rfl ?_
      refine g_aload_n (z := 0) C (tdec DX8_send 40 rfl) rfl rfl rfl ?_
      refine g_iconst (v := 0) C (tdec DX8_send 41 rfl) (by decide) rfl ?_
      refine g_putf (C' := RX8) (T := TX8) (N := 27) (v := .int 0) (ws' := wM cB cI cJ cZ x_0 x_1 x_2 x_3 x_4 x_5 x_6 x_7 x_8 x_9 x_10 x_11 x_12 x_13 x_14 x_15 x_16 x_17 x_18 x_19 (MS_setcl (MS_setwr (MS_setrecs (MS_setrf (MS_setlen (MS_setthr x0 1) 0) 0) 0) 0) 0)) C 0 22 tyX8 tyX8_ok nmX8 (gIn iw_X8) rfl rfl (by decide) (gMem fl_X8_171) rfl rfl (tyX8_ok 22 (by decide)) rfl rfl (Nat.le_of_ble_eq_true rfl) rfl (tdec DX8_send 42 rfl) rfl ?_
      refine g_aload_n (z := 0) C (tdec DX8_send 43 rfl) rfl rfl rfl ?_
      refine g_iconst (v := 0) C (tdec DX8_send 44 rfl) (by decide) rfl ?_
      refine g_putf (C' := RX8) (T := TX8) (N := 27) (v := .int 0) (ws' := wM cB cI cJ cZ x_0 x_1 x_2 x_3 x_4 x_5 x_6 x_7 x_8 x_9 x_10 x_11 x_12 x_13 x_14 x_15 x_16 x_17 x_18 x_19 (MS_setsn (MS_setcl (MS_setwr (MS_setrecs (MS_setrf (MS_setlen (MS_setthr x0 1) 0) 0) 0) 0) 0) 0)) C 0 23 tyX8 tyX8_ok nmX8 (gIn iw_X8) rfl rfl (by decide) (gMem fl_X8_173) rfl rfl (tyX8_ok 23 (by decide)) rfl rfl (Nat.le_of_ble_eq_true rfl) rfl (tdec DX8_send 45 rfl) rfl ?_
      refine g_iload_n (z := 2) C (tdec DX8_send 46 rfl) rfl rfl rfl ?_
      refine g_iconst (v := (-1)) C (tdec DX8_send 47 rfl) (by decide) rfl ?_
      refine g_icmp_ne (pt := 91) C (tdec DX8_send 48 rfl) (by decide) rfl (fun h217 => ?_) (fun h217 => ?_)
      · have hF := o_ifn hF h217
        refine g_aload_n (z := 0) C (tdec DX8_send 51 rfl) rfl rfl rfl ?_
        refine g_getf (C' := RX8) (T := TX8) (N := 27) (v := .ref x_11) C 0 11 (gIn iw_X8) rfl rfl (by decide) (gMem fl_X8_42) rfl rfl (tdec DX8_send 52 rfl) rfl ?_
        refine g_bipush (v := 20) C (tdec DX8_send 53 rfl) (by decide) rfl ?_
        refine g_iload_n (z := 1) C (tdec DX8_send 54 rfl) rfl rfl rfl ?_
        refine g_imul C (tdec DX8_send 55 rfl) rfl ?_
        refine g_iload_n (z := 2) C (tdec DX8_send 56 rfl) rfl rfl rfl ?_
        refine g_iadd C (tdec DX8_send 57 rfl) rfl ?_
        obtain ⟨r218, y219, hF⟩ := o_bind hF
        refine g_iald C 11 1 rfl rfl y219 (tdec DX8_send 58 rfl) rfl ?_
        refine g_istore (L' := [(4, .int r218), (0, .ref x_0), (1, .int p1), (2, .int p2), (3, .int p3)]) C (tdec DX8_send 59 rfl) (by decide) rfl rfl ?_
        refine g_aload_n (z := 1) C (tdec DX8_send 60 rfl) rfl rfl rfl ?_
        refine g_lconst (v := 1) C (tdec DX8_send 61 rfl) (by decide) rfl ?_
        refine g_iconst (v := 1) C (tdec DX8_send 62 rfl) (by decide) rfl ?_
        obtain ⟨s220, y221, hF⟩ := o_bind hF
        refine g_callVvMS (q0 := 0) (W' := wM cB cI cJ cZ x_0 x_1 x_2 x_3 x_4 x_5 x_6 x_7 x_8 x_9 x_10 x_11 x_12 x_13 x_14 x_15 x_16 x_17 x_18 x_19 s220) (S := [wM cB cI cJ cZ x_0 x_1 x_2 x_3 x_4 x_5 x_6 x_7 x_8 x_9 x_10 x_11 x_12 x_13 x_14 x_15 x_16 x_17 x_18 x_19 (MS_setsn (MS_setcl (MS_setwr (MS_setrecs (MS_setrf (MS_setlen (MS_setthr x0 1) 0) 0) 0) 0) 0) 0)]) (S0 := [wM cB cI cJ cZ x_0 x_1 x_2 x_3 x_4 x_5 x_6 x_7 x_8 x_9 x_10 x_11 x_12 x_13 x_14 x_15 x_16 x_17 x_18 x_19 (MS_setsn (MS_setcl (MS_setwr (MS_setrecs (MS_setrf (MS_setlen (MS_setthr x0 1) 0) 0) 0) 0) 0) 0)]) (S1 := [wM cB cI cJ cZ x_0 x_1 x_2 x_3 x_4 x_5 x_6 x_7 x_8 x_9 x_10 x_11 x_12 x_13 x_14 x_15 x_16 x_17 x_18 x_19 s220]) (S' := [wM cB cI cJ cZ x_0 x_1 x_2 x_3 x_4 x_5 x_6 x_7 x_8 x_9 x_10 x_11 x_12 x_13 x_14 x_15 x_16 x_17 x_18 x_19 s220]) C (c_X8_put l D cB cI cJ cZ x_0 x_1 x_2 x_3 x_4 x_5 x_6 x_7 x_8 x_9 x_10 x_11 x_12 x_13 x_14 x_15 x_16 x_17 x_18 x_19 y221) rfl rfl (gIV ml_X8_159 im_X8_put sl_X8_put in_X8 cd_X8_put) rfl eX8_put rfl ⟨rfl, rfl⟩ ⟨Nat.le_of_ble_eq_true rfl, Nat.le_of_ble_eq_true rfl⟩ rfl rfl rfl [0] rfl rfl rfl rfl (gA_cons aM gA_nil) rfl rfl (Nat.le_of_ble_eq_true rfl) (tdec DX8_send 63 rfl) rfl ?_
        refine g_aload_n (z := 1) C (tdec DX8_send 64 rfl) rfl rfl rfl ?_
        refine g_iload_n (z := 3) C (tdec DX8_send 65 rfl) rfl rfl rfl ?_
        refine g_iconst (v := (-1)) C (tdec DX8_send 66 rfl) (by decide) rfl ?_
        refine g_icmp_ne (pt := 120) C (tdec DX8_send 67 rfl) (by decide) rfl (fun _ => ?_) (fun h => absurd h h217)
        refine g_aload_n (z := 1) C (tdec DX8_send 70 rfl) rfl rfl rfl ?_
        refine g_getf (C' := RX8) (T := TX8) (N := 27) (v := .ref x_12) C 0 12 (gIn iw_X8) rfl rfl (by decide) (gMem fl_X8_45) rfl rfl (tdec DX8_send 71 rfl) rfl ?_
        refine g_bipush (v := 20) C (tdec DX8_send 72 rfl) (by decide) rfl ?_
        refine g_iload_n (z := 2) C (tdec DX8_send 73 rfl) rfl rfl rfl ?_
        refine g_imul C (tdec DX8_send 74 rfl) rfl ?_
        refine g_iload_n (z := 3) C (tdec DX8_send 75 rfl) rfl rfl rfl ?_
        refine g_iadd C (tdec DX8_send 76 rfl) rfl ?_
        obtain ⟨r222, y223, hF⟩ := o_bind hF
        refine g_lald C 12 2 rfl rfl y223 (tdec DX8_send 77 rfl) rfl ?_
        refine g_bipush (v := 8) C (tdec DX8_send 78 rfl) (by decide) rfl ?_
        obtain ⟨s224, y225, hF⟩ := o_bind hF
        refine g_callVvMS (q0 := 0) (W' := wM cB cI cJ cZ x_0 x_1 x_2 x_3 x_4 x_5 x_6 x_7 x_8 x_9 x_10 x_11 x_12 x_13 x_14 x_15 x_16 x_17 x_18 x_19 s224) (S := [wM cB cI cJ cZ x_0 x_1 x_2 x_3 x_4 x_5 x_6 x_7 x_8 x_9 x_10 x_11 x_12 x_13 x_14 x_15 x_16 x_17 x_18 x_19 s220]) (S0 := [wM cB cI cJ cZ x_0 x_1 x_2 x_3 x_4 x_5 x_6 x_7 x_8 x_9 x_10 x_11 x_12 x_13 x_14 x_15 x_16 x_17 x_18 x_19 s220]) (S1 := [wM cB cI cJ cZ x_0 x_1 x_2 x_3 x_4 x_5 x_6 x_7 x_8 x_9 x_10 x_11 x_12 x_13 x_14 x_15 x_16 x_17 x_18 x_19 s224]) (S' := [wM cB cI cJ cZ x_0 x_1 x_2 x_3 x_4 x_5 x_6 x_7 x_8 x_9 x_10 x_11 x_12 x_13 x_14 x_15 x_16 x_17 x_18 x_19 s224]) C (c_X8_put l D cB cI cJ cZ x_0 x_1 x_2 x_3 x_4 x_5 x_6 x_7 x_8 x_9 x_10 x_11 x_12 x_13 x_14 x_15 x_16 x_17 x_18 x_19 y225) rfl rfl (gIV ml_X8_159 im_X8_put sl_X8_put in_X8 cd_X8_put) rfl eX8_put rfl ⟨rfl, rfl⟩ ⟨Nat.le_of_ble_eq_true rfl, Nat.le_of_ble_eq_true rfl⟩ rfl rfl rfl [0] rfl rfl rfl rfl (gA_cons aM gA_nil) rfl rfl (Nat.le_of_ble_eq_true rfl) (tdec DX8_send 79 rfl) rfl ?_
        refine g_aload_n (z := 1) C (tdec DX8_send 80 rfl) rfl rfl rfl ?_
        refine g_aload_n (z := 1) C (tdec DX8_send 81 rfl) rfl rfl rfl ?_
        refine g_getf (C' := RX8) (T := TX8) (N := 27) (v := .ref x_12) C 0 12 (gIn iw_X8) rfl rfl (by decide) (gMem fl_X8_45) rfl rfl (tdec DX8_send 82 rfl) rfl ?_
        refine g_bipush (v := 20) C (tdec DX8_send 83 rfl) (by decide) rfl ?_
        refine g_iload_n (z := 2) C (tdec DX8_send 84 rfl) rfl rfl rfl ?_
        refine g_imul C (tdec DX8_send 85 rfl) rfl ?_
        refine g_iload_n (z := 4) C (tdec DX8_send 86 rfl) rfl rfl rfl ?_
        refine g_iadd C (tdec DX8_send 87 rfl) rfl ?_
        obtain ⟨r226, y227, hF⟩ := o_bind hF
        refine g_lald C 12 2 rfl rfl y227 (tdec DX8_send 88 rfl) rfl ?_
        refine g_bipush (v := 8) C (tdec DX8_send 89 rfl) (by decide) rfl ?_
        obtain ⟨s228, y229, hF⟩ := o_bind hF
        refine g_callVvMS (q0 := 0) (W' := wM cB cI cJ cZ x_0 x_1 x_2 x_3 x_4 x_5 x_6 x_7 x_8 x_9 x_10 x_11 x_12 x_13 x_14 x_15 x_16 x_17 x_18 x_19 s228) (S := [wM cB cI cJ cZ x_0 x_1 x_2 x_3 x_4 x_5 x_6 x_7 x_8 x_9 x_10 x_11 x_12 x_13 x_14 x_15 x_16 x_17 x_18 x_19 s224]) (S0 := [wM cB cI cJ cZ x_0 x_1 x_2 x_3 x_4 x_5 x_6 x_7 x_8 x_9 x_10 x_11 x_12 x_13 x_14 x_15 x_16 x_17 x_18 x_19 s224]) (S1 := [wM cB cI cJ cZ x_0 x_1 x_2 x_3 x_4 x_5 x_6 x_7 x_8 x_9 x_10 x_11 x_12 x_13 x_14 x_15 x_16 x_17 x_18 x_19 s228]) (S' := [wM cB cI cJ cZ x_0 x_1 x_2 x_3 x_4 x_5 x_6 x_7 x_8 x_9 x_10 x_11 x_12 x_13 x_14 x_15 x_16 x_17 x_18 x_19 s228]) C (c_X8_put l D cB cI cJ cZ x_0 x_1 x_2 x_3 x_4 x_5 x_6 x_7 x_8 x_9 x_10 x_11 x_12 x_13 x_14 x_15 x_16 x_17 x_18 x_19 y229) rfl rfl (gIV ml_X8_159 im_X8_put sl_X8_put in_X8 cd_X8_put) rfl eX8_put rfl ⟨rfl, rfl⟩ ⟨Nat.le_of_ble_eq_true rfl, Nat.le_of_ble_eq_true rfl⟩ rfl rfl rfl [0] rfl rfl rfl rfl (gA_cons aM gA_nil) rfl rfl (Nat.le_of_ble_eq_true rfl) (tdec DX8_send 90 rfl) rfl ?_
        refine g_aload_n (z := 1) C (tdec DX8_send 91 rfl) rfl rfl rfl ?_
        obtain ⟨s230, y231, hF⟩ := o_bind hF
        refine g_callVvMS (q0 := 0) (W' := wM cB cI cJ cZ x_0 x_1 x_2 x_3 x_4 x_5 x_6 x_7 x_8 x_9 x_10 x_11 x_12 x_13 x_14 x_15 x_16 x_17 x_18 x_19 s230) (S := [wM cB cI cJ cZ x_0 x_1 x_2 x_3 x_4 x_5 x_6 x_7 x_8 x_9 x_10 x_11 x_12 x_13 x_14 x_15 x_16 x_17 x_18 x_19 s228]) (S0 := [wM cB cI cJ cZ x_0 x_1 x_2 x_3 x_4 x_5 x_6 x_7 x_8 x_9 x_10 x_11 x_12 x_13 x_14 x_15 x_16 x_17 x_18 x_19 s228]) (S1 := [wM cB cI cJ cZ x_0 x_1 x_2 x_3 x_4 x_5 x_6 x_7 x_8 x_9 x_10 x_11 x_12 x_13 x_14 x_15 x_16 x_17 x_18 x_19 s230]) (S' := [wM cB cI cJ cZ x_0 x_1 x_2 x_3 x_4 x_5 x_6 x_7 x_8 x_9 x_10 x_11 x_12 x_13 x_14 x_15 x_16 x_17 x_18 x_19 s230]) C (c_X8_ends l D cB cI cJ cZ x_0 x_1 x_2 x_3 x_4 x_5 x_6 x_7 x_8 x_9 x_10 x_11 x_12 x_13 x_14 x_15 x_16 x_17 x_18 x_19 y231) rfl rfl (gIV ml_X8_168 im_X8_ends sl_X8_ends in_X8 cd_X8_ends) rfl eX8_ends rfl ⟨rfl, rfl⟩ ⟨Nat.le_of_ble_eq_true rfl, Nat.le_of_ble_eq_true rfl⟩ rfl rfl rfl [0] rfl rfl rfl rfl (gA_cons aM gA_nil) rfl rfl (Nat.le_of_ble_eq_true rfl) (tdec DX8_send 92 rfl) rfl ?_
        refine g_bipush (v := (-3)) C (tdec DX8_send 93 rfl) (by decide) rfl ?_
        refine g_iload_n (z := 4) C (tdec DX8_send 94 rfl) rfl rfl rfl ?_
        refine g_isub C (tdec DX8_send 95 rfl) rfl ?_
        refine g_istore (L' := [(5, .int ((-3) - p3)), (4, .int r218), (0, .ref x_0), (1, .int p1), (2, .int p2), (3, .int p3)]) C (tdec DX8_send 96 rfl) (by decide) rfl rfl ?_
        refine g_aload_n (z := 2) C (tdec DX8_send 97 rfl) rfl rfl rfl ?_
        refine g_iload_n (z := 3) C (tdec DX8_send 98 rfl) rfl rfl rfl ?_
        refine g_iload (z := 0) C (tdec DX8_send 99 rfl) rfl rfl ?_
        refine g_iconst (v := 0) C (tdec DX8_send 100 rfl) (by decide) rfl ?_
        refine g_sipush (v := 512) C (tdec DX8_send 101 rfl) (by decide) rfl ?_
        refine g_iload (z := 1) C (tdec DX8_send 102 rfl) rfl rfl ?_
        obtain ⟨⟨r232, s233⟩, y234, hF⟩ := o_bind hF
        refine g_callViMS (q0 := 0) (W' := wM cB cI cJ cZ x_0 x_1 x_2 x_3 x_4 x_5 x_6 x_7 x_8 x_9 x_10 x_11 x_12 x_13 x_14 x_15 x_16 x_17 x_18 x_19 s233) (S := [wM cB cI cJ cZ x_0 x_1 x_2 x_3 x_4 x_5 x_6 x_7 x_8 x_9 x_10 x_11 x_12 x_13 x_14 x_15 x_16 x_17 x_18 x_19 s230]) (S0 := [wM cB cI cJ cZ x_0 x_1 x_2 x_3 x_4 x_5 x_6 x_7 x_8 x_9 x_10 x_11 x_12 x_13 x_14 x_15 x_16 x_17 x_18 x_19 s230]) (S1 := [wM cB cI cJ cZ x_0 x_1 x_2 x_3 x_4 x_5 x_6 x_7 x_8 x_9 x_10 x_11 x_12 x_13 x_14 x_15 x_16 x_17 x_18 x_19 s233]) (S' := [wM cB cI cJ cZ x_0 x_1 x_2 x_3 x_4 x_5 x_6 x_7 x_8 x_9 x_10 x_11 x_12 x_13 x_14 x_15 x_16 x_17 x_18 x_19 s233]) C (c_X8_brings l D cB cI cJ cZ x_0 x_1 x_2 x_3 x_4 x_5 x_6 x_7 x_8 x_9 x_10 x_11 x_12 x_13 x_14 x_15 x_16 x_17 x_18 x_19 y234) rfl rfl (gIV ml_X8_180 im_X8_brings sl_X8_brings in_X8 cd_X8_brings) rfl eX8_brings rfl ⟨rfl, rfl⟩ ⟨Nat.le_of_ble_eq_true rfl, Nat.le_of_ble_eq_true rfl⟩ rfl rfl rfl [0] rfl rfl rfl rfl (gA_cons aM gA_nil) rfl rfl (Nat.le_of_ble_eq_true rfl) (tdec DX8_send 103 rfl) rfl ?_
        refine g_istore (L' := [(6, .int r232), (5, .int ((-3) - p3)), (4, .int r218), (0, .ref x_0), (1, .int p1), (2, .int p2), (3, .int p3)]) C (tdec DX8_send 104 rfl) (by decide) rfl rfl ?_
        refine g_iconst (v := 0) C (tdec DX8_send 105 rfl) (by decide) rfl ?_
        refine g_istore (L' := [(7, .int 0), (6, .int r232), (5, .int ((-3) - p3)), (4, .int r218), (0, .ref x_0), (1, .int p1), (2, .int p2), (3, .int p3)]) C (tdec DX8_send 106 rfl) (by decide) rfl rfl ?_
        refine g_sub (L' := [(0, .ref x_0), (1, .int p1), (2, .int p2), (3, .int p3), (4, .int r218), (5, .int ((-3) - p3)), (6, .int r232), (7, .int 0)]) [4, 5, 6, 7, 3, 2, 1, 0] rfl ?_
        refine c_FX8_send_L181 C (fun xq235 w7_235 hF => ?_) 100000 _ _ hF
        refine g_aload_n (z := 0) C (tdec DX8_send 195 rfl) rfl rfl rfl ?_
        refine g_ldc2 C (gMem kl_X8_184) (tdec DX8_send 196 rfl) rfl ?_
        refine g_iconst (v := 1) C (tdec DX8_send 197 rfl) (by decide) rfl ?_
        obtain ⟨s236, y237, hF⟩ := o_bind hF
        refine g_callVvMS (q0 := 0) (W' := wM cB cI cJ cZ x_0 x_1 x_2 x_3 x_4 x_5 x_6 x_7 x_8 x_9 x_10 x_11 x_12 x_13 x_14 x_15 x_16 x_17 x_18 x_19 s236) (S := [wM cB cI cJ cZ x_0 x_1 x_2 x_3 x_4 x_5 x_6 x_7 x_8 x_9 x_10 x_11 x_12 x_13 x_14 x_15 x_16 x_17 x_18 x_19 xq235]) (S0 := [wM cB cI cJ cZ x_0 x_1 x_2 x_3 x_4 x_5 x_6 x_7 x_8 x_9 x_10 x_11 x_12 x_13 x_14 x_15 x_16 x_17 x_18 x_19 xq235]) (S1 := [wM cB cI cJ cZ x_0 x_1 x_2 x_3 x_4 x_5 x_6 x_7 x_8 x_9 x_10 x_11 x_12 x_13 x_14 x_15 x_16 x_17 x_18 x_19 s236]) (S' := [wM cB cI cJ cZ x_0 x_1 x_2 x_3 x_4 x_5 x_6 x_7 x_8 x_9 x_10 x_11 x_12 x_13 x_14 x_15 x_16 x_17 x_18 x_19 s236]) C (c_X8_put l D cB cI cJ cZ x_0 x_1 x_2 x_3 x_4 x_5 x_6 x_7 x_8 x_9 x_10 x_11 x_12 x_13 x_14 x_15 x_16 x_17 x_18 x_19 y237) rfl rfl (gIV ml_X8_159 im_X8_put sl_X8_put in_X8 cd_X8_put) rfl eX8_put rfl ⟨rfl, rfl⟩ ⟨Nat.le_of_ble_eq_true rfl, Nat.le_of_ble_eq_true rfl⟩ rfl rfl rfl [0] rfl rfl rfl rfl (gA_cons aM gA_nil) rfl rfl (Nat.le_of_ble_eq_true rfl) (tdec DX8_send 198 rfl) rfl ?_
        refine g_aload_n (z := 0) C (tdec DX8_send 199 rfl) rfl rfl rfl ?_
        refine g_aload_n (z := 0) C (tdec DX8_send 200 rfl) rfl rfl rfl ?_
        refine g_getf (C' := RX8) (T := TX8) (N := 27) (v := .int (MS_recs s236)) C 0 20 (gIn iw_X8) rfl rfl (by decide) (gMem fl_X8_163) rfl rfl (tdec DX8_send 201 rfl) rfl ?_
        refine g_i2l C (tdec DX8_send 202 rfl) rfl ?_
        refine g_iconst (v := 4) C (tdec DX8_send 203 rfl) (by decide) rfl ?_
        obtain ⟨s238, y239, hF⟩ := o_bind hF
        refine g_callVvMS (q0 := 0) (W' := wM cB cI cJ cZ x_0 x_1 x_2 x_3 x_4 x_5 x_6 x_7 x_8 x_9 x_10 x_11 x_12 x_13 x_14 x_15 x_16 x_17 x_18 x_19 s238) (S := [wM cB cI cJ cZ x_0 x_1 x_2 x_3 x_4 x_5 x_6 x_7 x_8 x_9 x_10 x_11 x_12 x_13 x_14 x_15 x_16 x_17 x_18 x_19 s236]) (S0 := [wM cB cI cJ cZ x_0 x_1 x_2 x_3 x_4 x_5 x_6 x_7 x_8 x_9 x_10 x_11 x_12 x_13 x_14 x_15 x_16 x_17 x_18 x_19 s236]) (S1 := [wM cB cI cJ cZ x_0 x_1 x_2 x_3 x_4 x_5 x_6 x_7 x_8 x_9 x_10 x_11 x_12 x_13 x_14 x_15 x_16 x_17 x_18 x_19 s238]) (S' := [wM cB cI cJ cZ x_0 x_1 x_2 x_3 x_4 x_5 x_6 x_7 x_8 x_9 x_10 x_11 x_12 x_13 x_14 x_15 x_16 x_17 x_18 x_19 s238]) C (c_X8_put l D cB cI cJ cZ x_0 x_1 x_2 x_3 x_4 x_5 x_6 x_7 x_8 x_9 x_10 x_11 x_12 x_13 x_14 x_15 x_16 x_17 x_18 x_19 y239) rfl rfl (gIV ml_X8_159 im_X8_put sl_X8_put in_X8 cd_X8_put) rfl eX8_put rfl ⟨rfl, rfl⟩ ⟨Nat.le_of_ble_eq_true rfl, Nat.le_of_ble_eq_true rfl⟩ rfl rfl rfl [0] rfl rfl rfl rfl (gA_cons aM gA_nil) rfl rfl (Nat.le_of_ble_eq_true rfl) (tdec DX8_send 204 rfl) rfl ?_
        refine g_aload_n (z := 0) C (tdec DX8_send 205 rfl) rfl rfl rfl ?_
        obtain ⟨s240, y241, hF⟩ := o_bind hF
        refine g_callVvMS (q0 := 0) (W' := wM cB cI cJ cZ x_0 x_1 x_2 x_3 x_4 x_5 x_6 x_7 x_8 x_9 x_10 x_11 x_12 x_13 x_14 x_15 x_16 x_17 x_18 x_19 s240) (S := [wM cB cI cJ cZ x_0 x_1 x_2 x_3 x_4 x_5 x_6 x_7 x_8 x_9 x_10 x_11 x_12 x_13 x_14 x_15 x_16 x_17 x_18 x_19 s238]) (S0 := [wM cB cI cJ cZ x_0 x_1 x_2 x_3 x_4 x_5 x_6 x_7 x_8 x_9 x_10 x_11 x_12 x_13 x_14 x_15 x_16 x_17 x_18 x_19 s238]) (S1 := [wM cB cI cJ cZ x_0 x_1 x_2 x_3 x_4 x_5 x_6 x_7 x_8 x_9 x_10 x_11 x_12 x_13 x_14 x_15 x_16 x_17 x_18 x_19 s240]) (S' := [wM cB cI cJ cZ x_0 x_1 x_2 x_3 x_4 x_5 x_6 x_7 x_8 x_9 x_10 x_11 x_12 x_13 x_14 x_15 x_16 x_17 x_18 x_19 s240]) C (c_X8_ends l D cB cI cJ cZ x_0 x_1 x_2 x_3 x_4 x_5 x_6 x_7 x_8 x_9 x_10 x_11 x_12 x_13 x_14 x_15 x_16 x_17 x_18 x_19 y241) rfl rfl (gIV ml_X8_168 im_X8_ends sl_X8_ends in_X8 cd_X8_ends) rfl eX8_ends rfl ⟨rfl, rfl⟩ ⟨Nat.le_of_ble_eq_true rfl, Nat.le_of_ble_eq_true rfl⟩ rfl rfl rfl [0] rfl rfl rfl rfl (gA_cons aM gA_nil) rfl rfl (Nat.le_of_ble_eq_true rfl) (tdec DX8_send 206 rfl) rfl ?_
        refine g_aload_n (z := 0) C (tdec DX8_send 207 rfl) rfl rfl rfl ?_
        refine g_getf (C' := RX8) (T := TX8) (N := 27) (v := .int (MS_len s240)) C 0 19 (gIn iw_X8) rfl rfl (by decide) (gMem fl_X8_147) rfl rfl (tdec DX8_send 208 rfl) rfl ?_
        have hr9 := o_some hF
        subst hr9
        exact g_iret C rfl rfl (tdec DX8_send 209 rfl)
      · have hF := o_ifp hF h217
        refine g_iconst (v := 0) C (tdec DX8_send 49 rfl) (by decide) rfl ?_
        refine g_goto (pt := 102) C (tdec DX8_send 50 rfl) (by decide) ?_
        refine g_istore (L' := [(4, .int 0), (0, .ref x_0), (1, .int p1), (2, .int p2), (3, .int p3)]) C (tdec DX8_send 59 rfl) (by decide) rfl rfl ?_
        refine g_aload_n (z := 1) C (tdec DX8_send 60 rfl) rfl rfl rfl ?_
        refine g_lconst (v := 1) C (tdec DX8_send 61 rfl) (by decide) rfl ?_
        refine g_iconst (v := 1) C (tdec DX8_send 62 rfl) (by decide) rfl ?_
        obtain ⟨s242, y243, hF⟩ := o_bind hF
        refine g_callVvMS (q0 := 0) (W' := wM cB cI cJ cZ x_0 x_1 x_2 x_3 x_4 x_5 x_6 x_7 x_8 x_9 x_10 x_11 x_12 x_13 x_14 x_15 x_16 x_17 x_18 x_19 s242) (S := [wM cB cI cJ cZ x_0 x_1 x_2 x_3 x_4 x_5 x_6 x_7 x_8 x_9 x_10 x_11 x_12 x_13 x_14 x_15 x_16 x_17 x_18 x_19 (MS_setsn (MS_setcl (MS_setwr (MS_setrecs (MS_setrf (MS_setlen (MS_setthr x0 1) 0) 0) 0) 0) 0) 0)]) (S0 := [wM cB cI cJ cZ x_0 x_1 x_2 x_3 x_4 x_5 x_6 x_7 x_8 x_9 x_10 x_11 x_12 x_13 x_14 x_15 x_16 x_17 x_18 x_19 (MS_setsn (MS_setcl (MS_setwr (MS_setrecs (MS_setrf (MS_setlen (MS_setthr x0 1) 0) 0) 0) 0) 0) 0)]) (S1 := [wM cB cI cJ cZ x_0 x_1 x_2 x_3 x_4 x_5 x_6 x_7 x_8 x_9 x_10 x_11 x_12 x_13 x_14 x_15 x_16 x_17 x_18 x_19 s242]) (S' := [wM cB cI cJ cZ x_0 x_1 x_2 x_3 x_4 x_5 x_6 x_7 x_8 x_9 x_10 x_11 x_12 x_13 x_14 x_15 x_16 x_17 x_18 x_19 s242]) C (c_X8_put l D cB cI cJ cZ x_0 x_1 x_2 x_3 x_4 x_5 x_6 x_7 x_8 x_9 x_10 x_11 x_12 x_13 x_14 x_15 x_16 x_17 x_18 x_19 y243) rfl rfl (gIV ml_X8_159 im_X8_put sl_X8_put in_X8 cd_X8_put) rfl eX8_put rfl ⟨rfl, rfl⟩ ⟨Nat.le_of_ble_eq_true rfl, Nat.le_of_ble_eq_true rfl⟩ rfl rfl rfl [0] rfl rfl rfl rfl (gA_cons aM gA_nil) rfl rfl (Nat.le_of_ble_eq_true rfl) (tdec DX8_send 63 rfl) rfl ?_
        refine g_aload_n (z := 1) C (tdec DX8_send 64 rfl) rfl rfl rfl ?_
        refine g_iload_n (z := 3) C (tdec DX8_send 65 rfl) rfl rfl rfl ?_
        refine g_iconst (v := (-1)) C (tdec DX8_send 66 rfl) (by decide) rfl ?_
        refine g_icmp_ne (pt := 120) C (tdec DX8_send 67 rfl) (by decide) rfl (fun h => absurd h217 h) (fun _ => ?_)
        refine g_lconst (v := 0) C (tdec DX8_send 68 rfl) (by decide) rfl ?_
        refine g_goto (pt := 131) C (tdec DX8_send 69 rfl) (by decide) ?_
        refine g_bipush (v := 8) C (tdec DX8_send 78 rfl) (by decide) rfl ?_
        obtain ⟨s244, y245, hF⟩ := o_bind hF
        refine g_callVvMS (q0 := 0) (W' := wM cB cI cJ cZ x_0 x_1 x_2 x_3 x_4 x_5 x_6 x_7 x_8 x_9 x_10 x_11 x_12 x_13 x_14 x_15 x_16 x_17 x_18 x_19 s244) (S := [wM cB cI cJ cZ x_0 x_1 x_2 x_3 x_4 x_5 x_6 x_7 x_8 x_9 x_10 x_11 x_12 x_13 x_14 x_15 x_16 x_17 x_18 x_19 s242]) (S0 := [wM cB cI cJ cZ x_0 x_1 x_2 x_3 x_4 x_5 x_6 x_7 x_8 x_9 x_10 x_11 x_12 x_13 x_14 x_15 x_16 x_17 x_18 x_19 s242]) (S1 := [wM cB cI cJ cZ x_0 x_1 x_2 x_3 x_4 x_5 x_6 x_7 x_8 x_9 x_10 x_11 x_12 x_13 x_14 x_15 x_16 x_17 x_18 x_19 s244]) (S' := [wM cB cI cJ cZ x_0 x_1 x_2 x_3 x_4 x_5 x_6 x_7 x_8 x_9 x_10 x_11 x_12 x_13 x_14 x_15 x_16 x_17 x_18 x_19 s244]) C (c_X8_put l D cB cI cJ cZ x_0 x_1 x_2 x_3 x_4 x_5 x_6 x_7 x_8 x_9 x_10 x_11 x_12 x_13 x_14 x_15 x_16 x_17 x_18 x_19 y245) rfl rfl (gIV ml_X8_159 im_X8_put sl_X8_put in_X8 cd_X8_put) rfl eX8_put rfl ⟨rfl, rfl⟩ ⟨Nat.le_of_ble_eq_true rfl, Nat.le_of_ble_eq_true rfl⟩ rfl rfl rfl [0] rfl rfl rfl rfl (gA_cons aM gA_nil) rfl rfl (Nat.le_of_ble_eq_true rfl) (tdec DX8_send 79 rfl) rfl ?_
        refine g_aload_n (z := 1) C (tdec DX8_send 80 rfl) rfl rfl rfl ?_
        refine g_aload_n (z := 1) C (tdec DX8_send 81 rfl) rfl rfl rfl ?_
        refine g_getf (C' := RX8) (T := TX8) (N := 27) (v := .ref x_12) C 0 12 (gIn iw_X8) rfl rfl (by decide) (gMem fl_X8_45) rfl rfl (tdec DX8_send 82 rfl) rfl ?_
        refine g_bipush (v := 20) C (tdec DX8_send 83 rfl) (by decide) rfl ?_
        refine g_iload_n (z := 2) C (tdec DX8_send 84 rfl) rfl rfl rfl ?_
        refine g_imul C (tdec DX8_send 85 rfl) rfl ?_
        refine g_iload_n (z := 4) C (tdec DX8_send 86 rfl) rfl rfl rfl ?_
        refine g_iadd C (tdec DX8_send 87 rfl) rfl ?_
        obtain ⟨r246, y247, hF⟩ := o_bind hF
        refine g_lald C 12 2 rfl rfl y247 (tdec DX8_send 88 rfl) rfl ?_
        refine g_bipush (v := 8) C (tdec DX8_send 89 rfl) (by decide) rfl ?_
        obtain ⟨s248, y249, hF⟩ := o_bind hF
        refine g_callVvMS (q0 := 0) (W' := wM cB cI cJ cZ x_0 x_1 x_2 x_3 x_4 x_5 x_6 x_7 x_8 x_9 x_10 x_11 x_12 x_13 x_14 x_15 x_16 x_17 x_18 x_19 s248) (S := [wM cB cI cJ cZ x_0 x_1 x_2 x_3 x_4 x_5 x_6 x_7 x_8 x_9 x_10 x_11 x_12 x_13 x_14 x_15 x_16 x_17 x_18 x_19 s244]) (S0 := [wM cB cI cJ cZ x_0 x_1 x_2 x_3 x_4 x_5 x_6 x_7 x_8 x_9 x_10 x_11 x_12 x_13 x_14 x_15 x_16 x_17 x_18 x_19 s244]) (S1 := [wM cB cI cJ cZ x_0 x_1 x_2 x_3 x_4 x_5 x_6 x_7 x_8 x_9 x_10 x_11 x_12 x_13 x_14 x_15 x_16 x_17 x_18 x_19 s248]) (S' := [wM cB cI cJ cZ x_0 x_1 x_2 x_3 x_4 x_5 x_6 x_7 x_8 x_9 x_10 x_11 x_12 x_13 x_14 x_15 x_16 x_17 x_18 x_19 s248]) C (c_X8_put l D cB cI cJ cZ x_0 x_1 x_2 x_3 x_4 x_5 x_6 x_7 x_8 x_9 x_10 x_11 x_12 x_13 x_14 x_15 x_16 x_17 x_18 x_19 y249) rfl rfl (gIV ml_X8_159 im_X8_put sl_X8_put in_X8 cd_X8_put) rfl eX8_put rfl ⟨rfl, rfl⟩ ⟨Nat.le_of_ble_eq_true rfl, Nat.le_of_ble_eq_true rfl⟩ rfl rfl rfl [0] rfl rfl rfl rfl (gA_cons aM gA_nil) rfl rfl (Nat.le_of_ble_eq_true rfl) (tdec DX8_send 90 rfl) rfl ?_
        refine g_aload_n (z := 1) C (tdec DX8_send 91 rfl) rfl rfl rfl ?_
        obtain ⟨s250, y251, hF⟩ := o_bind hF
        refine g_callVvMS (q0 := 0) (W' := wM cB cI cJ cZ x_0 x_1 x_2 x_3 x_4 x_5 x_6 x_7 x_8 x_9 x_10 x_11 x_12 x_13 x_14 x_15 x_16 x_17 x_18 x_19 s250) (S := [wM cB cI cJ cZ x_0 x_1 x_2 x_3 x_4 x_5 x_6 x_7 x_8 x_9 x_10 x_11 x_12 x_13 x_14 x_15 x_16 x_17 x_18 x_19 s248]) (S0 := [wM cB cI cJ cZ x_0 x_1 x_2 x_3 x_4 x_5 x_6 x_7 x_8 x_9 x_10 x_11 x_12 x_13 x_14 x_15 x_16 x_17 x_18 x_19 s248]) (S1 := [wM cB cI cJ cZ x_0 x_1 x_2 x_3 x_4 x_5 x_6 x_7 x_8 x_9 x_10 x_11 x_12 x_13 x_14 x_15 x_16 x_17 x_18 x_19 s250]) (S' := [wM cB cI cJ cZ x_0 x_1 x_2 x_3 x_4 x_5 x_6 x_7 x_8 x_9 x_10 x_11 x_12 x_13 x_14 x_15 x_16 x_17 x_18 x_19 s250]) C (c_X8_ends l D cB cI cJ cZ x_0 x_1 x_2 x_3 x_4 x_5 x_6 x_7 x_8 x_9 x_10 x_11 x_12 x_13 x_14 x_15 x_16 x_17 x_18 x_19 y251) rfl rfl (gIV ml_X8_168 im_X8_ends sl_X8_ends in_X8 cd_X8_ends) rfl eX8_ends rfl ⟨rfl, rfl⟩ ⟨Nat.le_of_ble_eq_true rfl, Nat.le_of_ble_eq_true rfl⟩ rfl rfl rfl [0] rfl rfl rfl rfl (gA_cons aM gA_nil) rfl rfl (Nat.le_of_ble_eq_true rfl) (tdec DX8_send 92 rfl) rfl ?_
        refine g_bipush (v := (-3)) C (tdec DX8_send 93 rfl) (by decide) rfl ?_
        refine g_iload_n (z := 4) C (tdec DX8_send 94 rfl) rfl rfl rfl ?_
        refine g_isub C (tdec DX8_send 95 rfl) rfl ?_
        refine g_istore (L' := [(5, .int ((-3) - p3)), (4, .int 0), (0, .ref x_0), (1, .int p1), (2, .int p2), (3, .int p3)]) C (tdec DX8_send 96 rfl) (by decide) rfl rfl ?_
        refine g_aload_n (z := 2) C (tdec DX8_send 97 rfl) rfl rfl rfl ?_
        refine g_iload_n (z := 3) C (tdec DX8_send 98 rfl) rfl rfl rfl ?_
        refine g_iload (z := 0) C (tdec DX8_send 99 rfl) rfl rfl ?_
        refine g_iconst (v := 0) C (tdec DX8_send 100 rfl) (by decide) rfl ?_
        refine g_sipush (v := 512) C (tdec DX8_send 101 rfl) (by decide) rfl ?_
        refine g_iload (z := 1) C (tdec DX8_send 102 rfl) rfl rfl ?_
        obtain ⟨⟨r252, s253⟩, y254, hF⟩ := o_bind hF
        refine g_callViMS (q0 := 0) (W' := wM cB cI cJ cZ x_0 x_1 x_2 x_3 x_4 x_5 x_6 x_7 x_8 x_9 x_10 x_11 x_12 x_13 x_14 x_15 x_16 x_17 x_18 x_19 s253) (S := [wM cB cI cJ cZ x_0 x_1 x_2 x_3 x_4 x_5 x_6 x_7 x_8 x_9 x_10 x_11 x_12 x_13 x_14 x_15 x_16 x_17 x_18 x_19 s250]) (S0 := [wM cB cI cJ cZ x_0 x_1 x_2 x_3 x_4 x_5 x_6 x_7 x_8 x_9 x_10 x_11 x_12 x_13 x_14 x_15 x_16 x_17 x_18 x_19 s250]) (S1 := [wM cB cI cJ cZ x_0 x_1 x_2 x_3 x_4 x_5 x_6 x_7 x_8 x_9 x_10 x_11 x_12 x_13 x_14 x_15 x_16 x_17 x_18 x_19 s253]) (S' := [wM cB cI cJ cZ x_0 x_1 x_2 x_3 x_4 x_5 x_6 x_7 x_8 x_9 x_10 x_11 x_12 x_13 x_14 x_15 x_16 x_17 x_18 x_19 s253]) C (c_X8_brings l D cB cI cJ cZ x_0 x_1 x_2 x_3 x_4 x_5 x_6 x_7 x_8 x_9 x_10 x_11 x_12 x_13 x_14 x_15 x_16 x_17 x_18 x_19 y254) rfl rfl (gIV ml_X8_180 im_X8_brings sl_X8_brings in_X8 cd_X8_brings) rfl eX8_brings rfl ⟨rfl, rfl⟩ ⟨Nat.le_of_ble_eq_true rfl, Nat.le_of_ble_eq_true rfl⟩ rfl rfl rfl [0] rfl rfl rfl rfl (gA_cons aM gA_nil) rfl rfl (Nat.le_of_ble_eq_true rfl) (tdec DX8_send 103 rfl) rfl ?_
        refine g_istore (L' := [(6, .int r252), (5, .int ((-3) - p3)), (4, .int 0), (0, .ref x_0), (1, .int p1), (2, .int p2), (3, .int p3)]) C (tdec DX8_send 104 rfl) (by decide) rfl rfl ?_
        refine g_iconst (v := 0) C (tdec DX8_send 105 rfl) (by decide) rfl ?_
        refine g_istore (L' := [(7, .int 0), (6, .int r252), (5, .int ((-3) - p3)), (4, .int 0), (0, .ref x_0), (1, .int p1), (2, .int p2), (3, .int p3)]) C (tdec DX8_send 106 rfl) (by decide) rfl rfl ?_
        refine g_sub (L' := [(0, .ref x_0), (1, .int p1), (2, .int p2), (3, .int p3), (4, .int 0), (5, .int ((-3) - p3)), (6, .int r252), (7, .int 0)]) [4, 5, 6, 7, 3, 2, 1, 0] rfl ?_
        refine c_FX8_send_L181 C (fun xq255 w7_255 hF => ?_) 100000 _ _ hF
        refine g_aload_n (z := 0) C (tdec DX8_send 195 rfl) rfl rfl rfl ?_
        refine g_ldc2 C (gMem kl_X8_184) (tdec DX8_send 196 rfl) rfl ?_
        refine g_iconst (v := 1) C (tdec DX8_send 197 rfl) (by decide) rfl ?_
        obtain ⟨s256, y257, hF⟩ := o_bind hF
        refine g_callVvMS (q0 := 0) (W' := wM cB cI cJ cZ x_0 x_1 x_2 x_3 x_4 x_5 x_6 x_7 x_8 x_9 x_10 x_11 x_12 x_13 x_14 x_15 x_16 x_17 x_18 x_19 s256) (S := [wM cB cI cJ cZ x_0 x_1 x_2 x_3 x_4 x_5 x_6 x_7 x_8 x_9 x_10 x_11 x_12 x_13 x_14 x_15 x_16 x_17 x_18 x_19 xq255]) (S0 := [wM cB cI cJ cZ x_0 x_1 x_2 x_3 x_4 x_5 x_6 x_7 x_8 x_9 x_10 x_11 x_12 x_13 x_14 x_15 x_16 x_17 x_18 x_19 xq255]) (S1 := [wM cB cI cJ cZ x_0 x_1 x_2 x_3 x_4 x_5 x_6 x_7 x_8 x_9 x_10 x_11 x_12 x_13 x_14 x_15 x_16 x_17 x_18 x_19 s256]) (S' := [wM cB cI cJ cZ x_0 x_1 x_2 x_3 x_4 x_5 x_6 x_7 x_8 x_9 x_10 x_11 x_12 x_13 x_14 x_15 x_16 x_17 x_18 x_19 s256]) C (c_X8_put l D cB cI cJ cZ x_0 x_1 x_2 x_3 x_4 x_5 x_6 x_7 x_8 x_9 x_10 x_11 x_12 x_13 x_14 x_15 x_16 x_17 x_18 x_19 y257) rfl rfl (gIV ml_X8_159 im_X8_put sl_X8_put in_X8 cd_X8_put) rfl eX8_put rfl ⟨rfl, rfl⟩ ⟨Nat.le_of_ble_eq_true rfl, Nat.le_of_ble_eq_true rfl⟩ rfl rfl rfl [0] rfl rfl rfl rfl (gA_cons aM gA_nil) rfl rfl (Nat.le_of_ble_eq_true rfl) (tdec DX8_send 198 rfl) rfl ?_
        refine g_aload_n (z := 0) C (tdec DX8_send 199 rfl) rfl rfl rfl ?_
        refine g_aload_n (z := 0) C (tdec DX8_send 200 rfl) rfl rfl rfl ?_
        refine g_getf (C' := RX8) (T := TX8) (N := 27) (v := .int (MS_recs s256)) C 0 20 (gIn iw_X8) rfl rfl (by decide) (gMem fl_X8_163) rfl rfl (tdec DX8_send 201 rfl) rfl ?_
        refine g_i2l C (tdec DX8_send 202 rfl) rfl ?_
        refine g_iconst (v := 4) C (tdec DX8_send 203 rfl) (by decide) rfl ?_
        obtain ⟨s258, y259, hF⟩ := o_bind hF
        refine g_callVvMS (q0 := 0) (W' := wM cB cI cJ cZ x_0 x_1 x_2 x_3 x_4 x_5 x_6 x_7 x_8 x_9 x_10 x_11 x_12 x_13 x_14 x_15 x_16 x_17 x_18 x_19 s258) (S := [wM cB cI cJ cZ x_0 x_1 x_2 x_3 x_4 x_5 x_6 x_7 x_8 x_9 x_10 x_11 x_12 x_13 x_14 x_15 x_16 x_17 x_18 x_19 s256]) (S0 := [wM cB cI cJ cZ x_0 x_1 x_2 x_3 x_4 x_5 x_6 x_7 x_8 x_9 x_10 x_11 x_12 x_13 x_14 x_15 x_16 x_17 x_18 x_19 s256]) (S1 := [wM cB cI cJ cZ x_0 x_1 x_2 x_3 x_4 x_5 x_6 x_7 x_8 x_9 x_10 x_11 x_12 x_13 x_14 x_15 x_16 x_17 x_18 x_19 s258]) (S' := [wM cB cI cJ cZ x_0 x_1 x_2 x_3 x_4 x_5 x_6 x_7 x_8 x_9 x_10 x_11 x_12 x_13 x_14 x_15 x_16 x_17 x_18 x_19 s258]) C (c_X8_put l D cB cI cJ cZ x_0 x_1 x_2 x_3 x_4 x_5 x_6 x_7 x_8 x_9 x_10 x_11 x_12 x_13 x_14 x_15 x_16 x_17 x_18 x_19 y259) rfl rfl (gIV ml_X8_159 im_X8_put sl_X8_put in_X8 cd_X8_put) rfl eX8_put rfl ⟨rfl, rfl⟩ ⟨Nat.le_of_ble_eq_true rfl, Nat.le_of_ble_eq_true rfl⟩ rfl rfl rfl [0] rfl rfl rfl rfl (gA_cons aM gA_nil) rfl rfl (Nat.le_of_ble_eq_true rfl) (tdec DX8_send 204 rfl) rfl ?_
        refine g_aload_n (z := 0) C (tdec DX8_send 205 rfl) rfl rfl rfl ?_
        obtain ⟨s260, y261, hF⟩ := o_bind hF
        refine g_callVvMS (q0 := 0) (W' := wM cB cI cJ cZ x_0 x_1 x_2 x_3 x_4 x_5 x_6 x_7 x_8 x_9 x_10 x_11 x_12 x_13 x_14 x_15 x_16 x_17 x_18 x_19 s260) (S := [wM cB cI cJ cZ x_0 x_1 x_2 x_3 x_4 x_5 x_6 x_7 x_8 x_9 x_10 x_11 x_12 x_13 x_14 x_15 x_16 x_17 x_18 x_19 s258]) (S0 := [wM cB cI cJ cZ x_0 x_1 x_2 x_3 x_4 x_5 x_6 x_7 x_8 x_9 x_10 x_11 x_12 x_13 x_14 x_15 x_16 x_17 x_18 x_19 s258]) (S1 := [wM cB cI cJ cZ x_0 x_1 x_2 x_3 x_4 x_5 x_6 x_7 x_8 x_9 x_10 x_11 x_12 x_13 x_14 x_15 x_16 x_17 x_18 x_19 s260]) (S' := [wM cB cI cJ cZ x_0 x_1 x_2 x_3 x_4 x_5 x_6 x_7 x_8 x_9 x_10 x_11 x_12 x_13 x_14 x_15 x_16 x_17 x_18 x_19 s260]) C (c_X8_ends l D cB cI cJ cZ x_0 x_1 x_2 x_3 x_4 x_5 x_6 x_7 x_8 x_9 x_10 x_11 x_12 x_13 x_14 x_15 x_16 x_17 x_18 x_19 y261) rfl rfl (gIV ml_X8_168 im_X8_ends sl_X8_ends in_X8 cd_X8_ends) rfl eX8_ends rfl ⟨rfl, rfl⟩ ⟨Nat.le_of_ble_eq_true rfl, Nat.le_of_ble_eq_true rfl⟩ rfl rfl rfl [0] rfl rfl rfl rfl (gA_cons aM gA_nil) rfl rfl (Nat.le_of_ble_eq_true rfl) (tdec DX8_send 206 rfl) rfl ?_
        refine g_aload_n (z := 0) C (tdec DX8_send 207 rfl) rfl rfl rfl ?_
        refine g_getf (C' := RX8) (T := TX8) (N := 27) (v := .int (MS_len s260)) C 0 19 (gIn iw_X8) rfl rfl (by decide) (gMem fl_X8_147) rfl rfl (tdec DX8_send 208 rfl) rfl ?_
        have hr9 := o_some hF
        subst hr9
        exact g_iret C rfl rfl (tdec DX8_send 209 rfl)
    · have hF := o_ifn hF h216
      refine g_iconst (v := 0) C (tdec DX8_send 26 rfl) (by decide) rfl ?_
      have hr9 := o_some hF
      subst hr9
      exact g_iret C rfl rfl (tdec DX8_send 27 rfl)
def FX8_number_L5 (x0 : MS) (v1 : Int32) (v2 : Int32) (k9 : Int64 → Int32 → Option (Int64)) : Nat → Int64 → Int32 → Option (Int64)
  | 0, _, _ => none
  | n9 + 1, v3, v5 =>
    if v2 ≤ v5 then
      k9 v3 v5
    else
      (ald 16000 (MS_str x0) (v1 + v5)).bind fun r2 =>
      FX8_number_L5 x0 v1 v2 k9 n9 ((v3 <<< ((8 : Int32).toInt64 &&& 63)) ||| (((r2 &&& 255) : Int32).toInt64)) (v5 + 1)
def FX8_number (x0 : MS) (p1 : Int32) (p2 : Int32) : Option (Int64) :=
  FX8_number_L5 x0 p1 p2 (fun w3_4 w5_4 =>
    some w3_4) 100000 0 0
def rX8_number : Room := { frames := 0, cells := 0, slots := 0, locals := 0 }
set_option maxHeartbeats 4000000 in
set_option maxRecDepth 100000 in
theorem c_FX8_number_L5 {p : Program} {l : Launch} {e : Env} {s : State} {m : MethodId} {args : Array Value} {below : List Frame} {meth : Method} {c : Code} {D : va_G} {cB cI cJ cZ : ClassId} {x_0 x_1 x_2 x_3 x_4 x_5 x_6 x_7 x_8 x_9 x_10 x_11 x_12 x_13 x_14 x_15 x_16 x_17 x_18 x_19 : Nat} {x0 : MS} {res : Int64} (C : gC p s m args meth c cX8_number 6 RX8 wsX8_number D (gT cB cI cJ cZ) (some .long) (fun _ => False)) {v1 : Int32} {v2 : Int32} {k9 : Int64 → Int32 → Option (Int64)} (hk9 : ∀ (v3 : Int64) (v5 : Int32), k9 v3 v5 = some res → gG p l e (headSpec wsX8_number rX8_number).room s m args below meth c 0 0 D (fun _ => True) (fun _ => False) 6 (MQ below (gRQl res) args s 0 0 (fun _ => False)) (wM cB cI cJ cZ x_0 x_1 x_2 x_3 x_4 x_5 x_6 x_7 x_8 x_9 x_10 x_11 x_12 x_13 x_14 x_15 x_16 x_17 x_18 x_19 x0) 37 [(0, .ref x_0), (1, .int v1), (2, .int v2), (3, .long v3), (5, .int v5)] []) :
    ∀ (n9 : Nat) (v3 : Int64) (v5 : Int32), FX8_number_L5 x0 v1 v2 k9 n9 v3 v5 = some res → gG p l e (headSpec wsX8_number rX8_number).room s m args below meth c 0 0 D (fun _ => True) (fun _ => False) 6 (MQ below (gRQl res) args s 0 0 (fun _ => False)) (wM cB cI cJ cZ x_0 x_1 x_2 x_3 x_4 x_5 x_6 x_7 x_8 x_9 x_10 x_11 x_12 x_13 x_14 x_15 x_16 x_17 x_18 x_19 x0) 5 [(0, .ref x_0), (1, .int v1), (2, .int v2), (3, .long v3), (5, .int v5)] [] := by
  intro n9
  induction n9 with
  | zero =>
    intro v3 v5 hF
    exact absurd hF (by simp [FX8_number_L5])
  | succ n9 ih9 =>
    intro v3 v5 hF
    rw [FX8_number_L5] at hF
    refine g_iload (z := 4) C (tdec DX8_number 4 rfl) rfl rfl ?_
    refine g_iload_n (z := 2) C (tdec DX8_number 5 rfl) rfl rfl rfl ?_
    refine g_icmp_ge (pt := 37) C (tdec DX8_number 6 rfl) (by decide) rfl (fun h1 => ?_) (fun h1 => ?_)
    · have hF := o_ifp hF h1
      refine g_sub (L' := [(0, .ref x_0), (1, .int v1), (2, .int v2), (3, .long v3), (5, .int v5)]) [0, 1, 2, 3, 4] rfl ?_
      exact hk9 _ _ hF
    · have hF := o_ifn hF h1
      refine g_lload_n (z := 3) C (tdec DX8_number 7 rfl) rfl rfl rfl ?_
      refine g_bipush (v := 8) C (tdec DX8_number 8 rfl) (by decide) rfl ?_
      refine g_lshl C (tdec DX8_number 9 rfl) rfl ?_
      refine g_aload_n (z := 0) C (tdec DX8_number 10 rfl) rfl rfl rfl ?_
      refine g_getf (C' := RX8) (T := TX8) (N := 27) (v := .ref x_17) C 0 18 (gIn iw_X8) rfl rfl (by decide) (gMem fl_X8_64) rfl rfl (tdec DX8_number 11 rfl) rfl ?_
      refine g_iload_n (z := 1) C (tdec DX8_number 12 rfl) rfl rfl rfl ?_
      refine g_iload (z := 4) C (tdec DX8_number 13 rfl) rfl rfl ?_
      refine g_iadd C (tdec DX8_number 14 rfl) rfl ?_
      obtain ⟨r2, y3, hF⟩ := o_bind hF
      refine g_bald C 17 0 rfl rfl y3 (tdec DX8_number 15 rfl) rfl ?_
      refine g_sipush (v := 255) C (tdec DX8_number 16 rfl) (by decide) rfl ?_
      refine g_iand C (tdec DX8_number 17 rfl) rfl ?_
      refine g_i2l C (tdec DX8_number 18 rfl) rfl ?_
      refine g_lor C (tdec DX8_number 19 rfl) rfl ?_
      refine g_lstore_n (L' := [(3, .long ((v3 <<< ((8 : Int32).toInt64 &&& 63)) ||| (((r2 &&& 255) : Int32).toInt64))), (0, .ref x_0), (1, .int v1), (2, .int v2), (5, .int v5)]) C (tdec DX8_number 20 rfl) rfl (by decide) rfl rfl ?_
      refine g_iinc (z := 4) (v := (v5 + 1)) (L' := [(5, .int (v5 + 1)), (3, .long ((v3 <<< ((8 : Int32).toInt64 &&& 63)) ||| (((r2 &&& 255) : Int32).toInt64))), (0, .ref x_0), (1, .int v1), (2, .int v2)]) C (tdec DX8_number 21 rfl) rfl rfl (by decide) rfl rfl ?_
      refine g_goto (pt := 5) C (tdec DX8_number 22 rfl) (by decide) ?_
      refine g_sub (L' := [(0, .ref x_0), (1, .int v1), (2, .int v2), (3, .long ((v3 <<< ((8 : Int32).toInt64 &&& 63)) ||| (((r2 &&& 255) : Int32).toInt64))), (5, .int (v5 + 1))]) [2, 3, 4, 1, 0] rfl ?_
      exact ih9 _ _ hF
set_option maxHeartbeats 4000000 in
set_option maxRecDepth 100000 in
theorem c_X8_number (l : Launch) (D : va_G) (cB cI cJ cZ : ClassId) (x_0 x_1 x_2 x_3 x_4 x_5 x_6 x_7 x_8 x_9 x_10 x_11 x_12 x_13 x_14 x_15 x_16 x_17 x_18 x_19 : Nat) {x0 : MS} {p1 : Int32} {p2 : Int32} {res : Int64} (hF : FX8_number x0 p1 p2 = some res) : gRl l yX8_number wsX8_number rX8_number D (gT cB cI cJ cZ) [.ref x_0, .int p1, .int p2] (wM cB cI cJ cZ x_0 x_1 x_2 x_3 x_4 x_5 x_6 x_7 x_8 x_9 x_10 x_11 x_12 x_13 x_14 x_15 x_16 x_17 x_18 x_19 x0) res := by
  refine g_enter (own := RX8) (free := (fun _ _ => False)) (Qc := (fun sz => gRQl res)) (fun _ _ => True) (fun sz => Or.inl rfl) rfl (by decide) rfl (Nat.le_of_ble_eq_true rfl) rfl ?_
  intro p e s m args below meth c C
  unfold FX8_number at hF
  refine g_lconst (v := 0) C (tdec DX8_number 0 rfl) (by decide) rfl ?_
  refine g_lstore_n (L' := [(3, .long 0), (0, .ref x_0), (1, .int p1), (2, .int p2)]) C (tdec DX8_number 1 rfl) rfl (by decide) rfl rfl ?_
  refine g_iconst (v := 0) C (tdec DX8_number 2 rfl) (by decide) rfl ?_
  refine g_istore (L' := [(5, .int 0), (3, .long 0), (0, .ref x_0), (1, .int p1), (2, .int p2)]) C (tdec DX8_number 3 rfl) (by decide) rfl rfl ?_
  refine g_sub (L' := [(0, .ref x_0), (1, .int p1), (2, .int p2), (3, .long 0), (5, .int 0)]) [2, 3, 4, 1, 0] rfl ?_
  refine c_FX8_number_L5 C (fun w3_4 w5_4 hF => ?_) 100000 _ _ hF
  refine g_lload_n (z := 3) C (tdec DX8_number 23 rfl) rfl rfl rfl ?_
  have hr9 := o_some hF
  subst hr9
  exact g_lretR C rfl (tdec DX8_number 24 rfl)
def FX8_isWhole (x0 : MS) (p1 : Int32) (p2 : Int32) : Option (Int32) :=
  if ((MS_len x0) - p1) < p2 then
    some 0
  else
    (FX8_number x0 ((p1 + p2) - 8) 8).bind fun r2 =>
    (FX8_sumOf x0 p1 ((p1 + p2) - 8)).bind fun r4 =>
    if (lg_cmp r2 r4) = 0 then
      some 1
    else
      some 0
def rX8_isWhole : Room := { frames := 1, cells := 0, slots := 0, locals := 25 }
set_option maxHeartbeats 4000000 in
set_option maxRecDepth 100000 in
theorem c_X8_isWhole (l : Launch) (D : va_G) (cB cI cJ cZ : ClassId) (x_0 x_1 x_2 x_3 x_4 x_5 x_6 x_7 x_8 x_9 x_10 x_11 x_12 x_13 x_14 x_15 x_16 x_17 x_18 x_19 : Nat) {x0 : MS} {p1 : Int32} {p2 : Int32} {res : Int32} (hF : FX8_isWhole x0 p1 p2 = some res) : gRi l yX8_isWhole wsX8_isWhole rX8_isWhole D (gT cB cI cJ cZ) [.ref x_0, .int p1, .int p2] (wM cB cI cJ cZ x_0 x_1 x_2 x_3 x_4 x_5 x_6 x_7 x_8 x_9 x_10 x_11 x_12 x_13 x_14 x_15 x_16 x_17 x_18 x_19 x0) res := by
  refine g_enter (own := RX8) (free := (fun _ _ => False)) (Qc := (fun sz => gRQi res)) (fun _ _ => True) (fun sz => Or.inl rfl) rfl (by decide) rfl (Nat.le_of_ble_eq_true rfl) rfl ?_
  intro p e s m args below meth c C
  unfold FX8_isWhole at hF
  refine g_aload_n (z := 0) C (tdec DX8_isWhole 0 rfl) rfl rfl rfl ?_
  refine g_getf (C' := RX8) (T := TX8) (N := 27) (v := .int (MS_len x0)) C 0 19 (gIn iw_X8) rfl rfl (by decide) (gMem fl_X8_147) rfl rfl (tdec DX8_isWhole 1 rfl) rfl ?_
  refine g_iload_n (z := 1) C (tdec DX8_isWhole 2 rfl) rfl rfl rfl ?_
  refine g_isub C (tdec DX8_isWhole 3 rfl) rfl ?_
  refine g_iload_n (z := 2) C (tdec DX8_isWhole 4 rfl) rfl rfl rfl ?_
  refine g_icmp_lt (pt := 41) C (tdec DX8_isWhole 5 rfl) (by decide) rfl (fun h1 => ?_) (fun h1 => ?_)
  · have hF := o_ifp hF h1
    refine g_iconst (v := 0) C (tdec DX8_isWhole 26 rfl) (by decide) rfl ?_
    have hr9 := o_some hF
    subst hr9
    exact g_zretR C rfl rfl (tdec DX8_isWhole 27 rfl)
  · have hF := o_ifn hF h1
    refine g_aload_n (z := 0) C (tdec DX8_isWhole 6 rfl) rfl rfl rfl ?_
    refine g_iload_n (z := 1) C (tdec DX8_isWhole 7 rfl) rfl rfl rfl ?_
    refine g_iload_n (z := 2) C (tdec DX8_isWhole 8 rfl) rfl rfl rfl ?_
    refine g_iadd C (tdec DX8_isWhole 9 rfl) rfl ?_
    refine g_bipush (v := 8) C (tdec DX8_isWhole 10 rfl) (by decide) rfl ?_
    refine g_isub C (tdec DX8_isWhole 11 rfl) rfl ?_
    refine g_bipush (v := 8) C (tdec DX8_isWhole 12 rfl) (by decide) rfl ?_
    obtain ⟨r2, y3, hF⟩ := o_bind hF
    refine g_callVlRS (q0 := 0) (S := [wM cB cI cJ cZ x_0 x_1 x_2 x_3 x_4 x_5 x_6 x_7 x_8 x_9 x_10 x_11 x_12 x_13 x_14 x_15 x_16 x_17 x_18 x_19 x0]) (S0 := [wM cB cI cJ cZ x_0 x_1 x_2 x_3 x_4 x_5 x_6 x_7 x_8 x_9 x_10 x_11 x_12 x_13 x_14 x_15 x_16 x_17 x_18 x_19 x0]) C (c_X8_number l D cB cI cJ cZ x_0 x_1 x_2 x_3 x_4 x_5 x_6 x_7 x_8 x_9 x_10 x_11 x_12 x_13 x_14 x_15 x_16 x_17 x_18 x_19 y3) rfl rfl (gIV ml_X8_186 im_X8_number sl_X8_number in_X8 cd_X8_number) rfl eX8_number rfl ⟨rfl, rfl⟩ ⟨Nat.le_of_ble_eq_true rfl, Nat.le_of_ble_eq_true rfl⟩ rfl rfl rfl [0] rfl rfl rfl (Nat.le_of_ble_eq_true rfl) (tdec DX8_isWhole 13 rfl) rfl ?_
    refine g_aload_n (z := 0) C (tdec DX8_isWhole 14 rfl) rfl rfl rfl ?_
    refine g_iload_n (z := 1) C (tdec DX8_isWhole 15 rfl) rfl rfl rfl ?_
    refine g_iload_n (z := 1) C (tdec DX8_isWhole 16 rfl) rfl rfl rfl ?_
    refine g_iload_n (z := 2) C (tdec DX8_isWhole 17 rfl) rfl rfl rfl ?_
    refine g_iadd C (tdec DX8_isWhole 18 rfl) rfl ?_
    refine g_bipush (v := 8) C (tdec DX8_isWhole 19 rfl) (by decide) rfl ?_
    refine g_isub C (tdec DX8_isWhole 20 rfl) rfl ?_
    obtain ⟨r4, y5, hF⟩ := o_bind hF
    refine g_callVlRS (q0 := 0) (S := [wM cB cI cJ cZ x_0 x_1 x_2 x_3 x_4 x_5 x_6 x_7 x_8 x_9 x_10 x_11 x_12 x_13 x_14 x_15 x_16 x_17 x_18 x_19 x0]) (S0 := [wM cB cI cJ cZ x_0 x_1 x_2 x_3 x_4 x_5 x_6 x_7 x_8 x_9 x_10 x_11 x_12 x_13 x_14 x_15 x_16 x_17 x_18 x_19 x0]) C (c_X8_sumOf l D cB cI cJ cZ x_0 x_1 x_2 x_3 x_4 x_5 x_6 x_7 x_8 x_9 x_10 x_11 x_12 x_13 x_14 x_15 x_16 x_17 x_18 x_19 y5) rfl rfl (gIV ml_X8_155 im_X8_sumOf sl_X8_sumOf in_X8 cd_X8_sumOf) rfl eX8_sumOf rfl ⟨rfl, rfl⟩ ⟨Nat.le_of_ble_eq_true rfl, Nat.le_of_ble_eq_true rfl⟩ rfl rfl rfl [0] rfl rfl rfl (Nat.le_of_ble_eq_true rfl) (tdec DX8_isWhole 21 rfl) rfl ?_
    refine g_lcmp C (tdec DX8_isWhole 22 rfl) rfl ?_
    refine g_if_ne (pt := 41) C (tdec DX8_isWhole 23 rfl) (by decide) rfl (fun h6 => ?_) (fun h6 => ?_)
    · have hF := o_ifn hF h6
      refine g_iconst (v := 0) C (tdec DX8_isWhole 26 rfl) (by decide) rfl ?_
      have hr9 := o_some hF
      subst hr9
      exact g_zretR C rfl rfl (tdec DX8_isWhole 27 rfl)
    · have hF := o_ifp hF h6
      refine g_iconst (v := 1) C (tdec DX8_isWhole 24 rfl) (by decide) rfl ?_
      refine g_goto (pt := 42) C (tdec DX8_isWhole 25 rfl) (by decide) ?_
      have hr9 := o_some hF
      subst hr9
      exact g_zretR C rfl rfl (tdec DX8_isWhole 27 rfl)
