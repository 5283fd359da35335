/-! PART 24.X8: walks, printed by wip/whole/walk.py -/
def FX8_receive_L222 (v1 : Int32) (v2 : Int32) (v3 : Int64) (v5 : Int32) (v6 : Int32) (v7 : Int32) (k9 : MS → Int32 → Option (Int32 × MS)) : Nat → MS → Int32 → Option (Int32 × MS)
  | 0, _, _ => none
  | n9 + 1, x, v8 =>
    (ald 2 (MS_snaps x) v2).bind fun r32 =>
    if r32 ≤ v8 then
      k9 x v8
    else
      (ald 40 (MS_sm x) ((20 * v2) + v8)).bind fun r35 =>
      (FX8_number x 9 8).bind fun r37 =>
      if (lg_cmp r35 r37) = 0 then
        some (4, x)
      else
        FX8_receive_L222 v1 v2 v3 v5 v6 v7 k9 n9 x (v8 + 1)
def FX8_receive (x0 : MS) (p1 : Int32) : Option (Int32 × MS) :=
  (FX8_isVolume p1).bind fun r1 =>
  if r1 = 0 then
    if 1 ≤ 0 then
      (ald 2 (MS_busy x0) p1).bind fun r5 =>
      if r5 = 0 then
        if (MS_len x0) < 1 then
          some (1, (MS_setthr x0 1))
        else
          (ald 16000 (MS_str x0) 0).bind fun r9 =>
          if r9 = 1 then
            (FX8_isWhole (MS_setthr x0 1) 0 25).bind fun r12 =>
            if r12 = 0 then
              some (1, (MS_setthr x0 1))
            else
              (FX8_number (MS_setthr x0 1) 1 8).bind fun r15 =>
              (ald 2 (MS_snaps x0) p1).bind fun r17 =>
              if (lg_cmp r15 0) = 0 then
                if (r17 - 1) < 0 then
                  if 0 ≤ (r17 - 1) then
                    (ald 44 (MS_tt x0) ((22 * p1) + 0)).bind fun r22 =>
                    (ald 44 (MS_tt x0) (((22 * p1) + 2) + (r17 - 1))).bind fun r24 =>
                    if r22 = r24 then
                      (ald 44 (MS_tb x0) ((22 * p1) + 0)).bind fun r27 =>
                      (ald 44 (MS_tb x0) (((22 * p1) + 2) + (r17 - 1))).bind fun r29 =>
                      if r27 = r29 then
                        FX8_receive_L222 p1 p1 r15 (r17 - 1) ((22 * p1) + 0) 1 (fun xq40 w8_40 =>
                          (ald 44 (MS_tt xq40) ((22 * p1) + 0)).bind fun r41 =>
                          (ast 44 (MS_tt xq40) ((22 * p1) + 1) r41).bind fun g43 =>
                          (ald 44 (MS_tb xq40) ((22 * p1) + 0)).bind fun r45 =>
                          (ast 44 (MS_tb xq40) ((22 * p1) + 1) r45).bind fun g47 =>
                          (ast 2 (MS_busy xq40) p1 (vp_nar .boolean 1)).bind fun g49 =>
                          (ast 2 (MS_at xq40) p1 25).bind fun g51 =>
                          (ast 2 (MS_rec xq40) p1 0).bind fun g53 =>
                          (FX8_number (MS_setrec (MS_setat (MS_setbusy (MS_settb (MS_settt xq40 g43) g47) g49) g51) g53) 9 8).bind fun r55 =>
                          (lst 2 (MS_tgt xq40) p1 r55).bind fun g57 =>
                          some (0, (MS_settgt (MS_setrec (MS_setat (MS_setbusy (MS_settb (MS_settt xq40 g43) g47) g49) g51) g53) g57))) 100000 (MS_setthr x0 1) 0
                      else
                        some (3, (MS_setthr x0 1))
                    else
                      some (3, (MS_setthr x0 1))
                  else
                    (ald 44 (MS_tt x0) ((22 * p1) + 0)).bind fun r59 =>
                    if r59 = (-1) then
                      FX8_receive_L222 p1 p1 r15 (r17 - 1) ((22 * p1) + 0) 1 (fun xq62 w8_62 =>
                        (ald 44 (MS_tt xq62) ((22 * p1) + 0)).bind fun r63 =>
                        (ast 44 (MS_tt xq62) ((22 * p1) + 1) r63).bind fun g65 =>
                        (ald 44 (MS_tb xq62) ((22 * p1) + 0)).bind fun r67 =>
                        (ast 44 (MS_tb xq62) ((22 * p1) + 1) r67).bind fun g69 =>
                        (ast 2 (MS_busy xq62) p1 (vp_nar .boolean 1)).bind fun g71 =>
                        (ast 2 (MS_at xq62) p1 25).bind fun g73 =>
                        (ast 2 (MS_rec xq62) p1 0).bind fun g75 =>
                        (FX8_number (MS_setrec (MS_setat (MS_setbusy (MS_settb (MS_settt xq62 g65) g69) g71) g73) g75) 9 8).bind fun r77 =>
                        (lst 2 (MS_tgt xq62) p1 r77).bind fun g79 =>
                        some (0, (MS_settgt (MS_setrec (MS_setat (MS_setbusy (MS_settb (MS_settt xq62 g65) g69) g71) g73) g75) g79))) 100000 (MS_setthr x0 1) 0
                    else
                      some (3, (MS_setthr x0 1))
                else
                  some (2, (MS_setthr x0 1))
              else
                if (r17 - 1) < 0 then
                  some (2, (MS_setthr x0 1))
                else
                  (ald 40 (MS_sm x0) ((20 * p1) + (r17 - 1))).bind fun r82 =>
                  if (lg_cmp r82 r15) = 0 then
                    if 0 ≤ (r17 - 1) then
                      (ald 44 (MS_tt x0) ((22 * p1) + 0)).bind fun r86 =>
                      (ald 44 (MS_tt x0) (((22 * p1) + 2) + (r17 - 1))).bind fun r88 =>
                      if r86 = r88 then
                        (ald 44 (MS_tb x0) ((22 * p1) + 0)).bind fun r91 =>
                        (ald 44 (MS_tb x0) (((22 * p1) + 2) + (r17 - 1))).bind fun r93 =>
                        if r91 = r93 then
                          FX8_receive_L222 p1 p1 r15 (r17 - 1) ((22 * p1) + 0) 1 (fun xq96 w8_96 =>
                            (ald 44 (MS_tt xq96) ((22 * p1) + 0)).bind fun r97 =>
                            (ast 44 (MS_tt xq96) ((22 * p1) + 1) r97).bind fun g99 =>
                            (ald 44 (MS_tb xq96) ((22 * p1) + 0)).bind fun r101 =>
                            (ast 44 (MS_tb xq96) ((22 * p1) + 1) r101).bind fun g103 =>
                            (ast 2 (MS_busy xq96) p1 (vp_nar .boolean 1)).bind fun g105 =>
                            (ast 2 (MS_at xq96) p1 25).bind fun g107 =>
                            (ast 2 (MS_rec xq96) p1 0).bind fun g109 =>
                            (FX8_number (MS_setrec (MS_setat (MS_setbusy (MS_settb (MS_settt xq96 g99) g103) g105) g107) g109) 9 8).bind fun r111 =>
                            (lst 2 (MS_tgt xq96) p1 r111).bind fun g113 =>
                            some (0, (MS_settgt (MS_setrec (MS_setat (MS_setbusy (MS_settb (MS_settt xq96 g99) g103) g105) g107) g109) g113))) 100000 (MS_setthr x0 1) 0
                        else
                          some (3, (MS_setthr x0 1))
                      else
                        some (3, (MS_setthr x0 1))
                    else
                      (ald 44 (MS_tt x0) ((22 * p1) + 0)).bind fun r115 =>
                      if r115 = (-1) then
                        FX8_receive_L222 p1 p1 r15 (r17 - 1) ((22 * p1) + 0) 1 (fun xq118 w8_118 =>
                          (ald 44 (MS_tt xq118) ((22 * p1) + 0)).bind fun r119 =>
                          (ast 44 (MS_tt xq118) ((22 * p1) + 1) r119).bind fun g121 =>
                          (ald 44 (MS_tb xq118) ((22 * p1) + 0)).bind fun r123 =>
                          (ast 44 (MS_tb xq118) ((22 * p1) + 1) r123).bind fun g125 =>
                          (ast 2 (MS_busy xq118) p1 (vp_nar .boolean 1)).bind fun g127 =>
                          (ast 2 (MS_at xq118) p1 25).bind fun g129 =>
                          (ast 2 (MS_rec xq118) p1 0).bind fun g131 =>
                          (FX8_number (MS_setrec (MS_setat (MS_setbusy (MS_settb (MS_settt xq118 g121) g125) g127) g129) g131) 9 8).bind fun r133 =>
                          (lst 2 (MS_tgt xq118) p1 r133).bind fun g135 =>
                          some (0, (MS_settgt (MS_setrec (MS_setat (MS_setbusy (MS_settb (MS_settt xq118 g121) g125) g127) g129) g131) g135))) 100000 (MS_setthr x0 1) 0
                      else
                        some (3, (MS_setthr x0 1))
                  else
                    some (2, (MS_setthr x0 1))
          else
            some (1, (MS_setthr x0 1))
      else
        some (6, (MS_setthr x0 1))
    else
      some (0, (MS_setthr x0 1))
  else
    if 0 ≤ 0 then
      (ald 2 (MS_busy x0) p1).bind fun r138 =>
      if r138 = 0 then
        if (MS_len x0) < 1 then
          some (1, (MS_setthr x0 0))
        else
          (ald 16000 (MS_str x0) 0).bind fun r142 =>
          if r142 = 1 then
            (FX8_isWhole (MS_setthr x0 0) 0 25).bind fun r145 =>
            if r145 = 0 then
              some (1, (MS_setthr x0 0))
            else
              (FX8_number (MS_setthr x0 0) 1 8).bind fun r148 =>
              (ald 2 (MS_snaps x0) p1).bind fun r150 =>
              if (lg_cmp r148 0) = 0 then
                if (r150 - 1) < 0 then
                  if 0 ≤ (r150 - 1) then
                    (ald 44 (MS_tt x0) ((22 * p1) + 0)).bind fun r155 =>
                    (ald 44 (MS_tt x0) (((22 * p1) + 2) + (r150 - 1))).bind fun r157 =>
                    if r155 = r157 then
                      (ald 44 (MS_tb x0) ((22 * p1) + 0)).bind fun r160 =>
                      (ald 44 (MS_tb x0) (((22 * p1) + 2) + (r150 - 1))).bind fun r162 =>
                      if r160 = r162 then
                        FX8_receive_L222 p1 p1 r148 (r150 - 1) ((22 * p1) + 0) 1 (fun xq165 w8_165 =>
                          (ald 44 (MS_tt xq165) ((22 * p1) + 0)).bind fun r166 =>
                          (ast 44 (MS_tt xq165) ((22 * p1) + 1) r166).bind fun g168 =>
                          (ald 44 (MS_tb xq165) ((22 * p1) + 0)).bind fun r170 =>
                          (ast 44 (MS_tb xq165) ((22 * p1) + 1) r170).bind fun g172 =>
                          (ast 2 (MS_busy xq165) p1 (vp_nar .boolean 1)).bind fun g174 =>
                          (ast 2 (MS_at xq165) p1 25).bind fun g176 =>
                          (ast 2 (MS_rec xq165) p1 0).bind fun g178 =>
                          (FX8_number (MS_setrec (MS_setat (MS_setbusy (MS_settb (MS_settt xq165 g168) g172) g174) g176) g178) 9 8).bind fun r180 =>
                          (lst 2 (MS_tgt xq165) p1 r180).bind fun g182 =>
                          some (0, (MS_settgt (MS_setrec (MS_setat (MS_setbusy (MS_settb (MS_settt xq165 g168) g172) g174) g176) g178) g182))) 100000 (MS_setthr x0 0) 0
                      else
                        some (3, (MS_setthr x0 0))
                    else
                      some (3, (MS_setthr x0 0))
                  else
                    (ald 44 (MS_tt x0) ((22 * p1) + 0)).bind fun r184 =>
                    if r184 = (-1) then
                      FX8_receive_L222 p1 p1 r148 (r150 - 1) ((22 * p1) + 0) 1 (fun xq187 w8_187 =>
                        (ald 44 (MS_tt xq187) ((22 * p1) + 0)).bind fun r188 =>
                        (ast 44 (MS_tt xq187) ((22 * p1) + 1) r188).bind fun g190 =>
                        (ald 44 (MS_tb xq187) ((22 * p1) + 0)).bind fun r192 =>
                        (ast 44 (MS_tb xq187) ((22 * p1) + 1) r192).bind fun g194 =>
                        (ast 2 (MS_busy xq187) p1 (vp_nar .boolean 1)).bind fun g196 =>
                        (ast 2 (MS_at xq187) p1 25).bind fun g198 =>
                        (ast 2 (MS_rec xq187) p1 0).bind fun g200 =>
                        (FX8_number (MS_setrec (MS_setat (MS_setbusy (MS_settb (MS_settt xq187 g190) g194) g196) g198) g200) 9 8).bind fun r202 =>
                        (lst 2 (MS_tgt xq187) p1 r202).bind fun g204 =>
                        some (0, (MS_settgt (MS_setrec (MS_setat (MS_setbusy (MS_settb (MS_settt xq187 g190) g194) g196) g198) g200) g204))) 100000 (MS_setthr x0 0) 0
                    else
                      some (3, (MS_setthr x0 0))
                else
                  some (2, (MS_setthr x0 0))
              else
                if (r150 - 1) < 0 then
                  some (2, (MS_setthr x0 0))
                else
                  (ald 40 (MS_sm x0) ((20 * p1) + (r150 - 1))).bind fun r207 =>
                  if (lg_cmp r207 r148) = 0 then
                    if 0 ≤ (r150 - 1) then
                      (ald 44 (MS_tt x0) ((22 * p1) + 0)).bind fun r211 =>
                      (ald 44 (MS_tt x0) (((22 * p1) + 2) + (r150 - 1))).bind fun r213 =>
                      if r211 = r213 then
                        (ald 44 (MS_tb x0) ((22 * p1) + 0)).bind fun r216 =>
                        (ald 44 (MS_tb x0) (((22 * p1) + 2) + (r150 - 1))).bind fun r218 =>
                        if r216 = r218 then
                          FX8_receive_L222 p1 p1 r148 (r150 - 1) ((22 * p1) + 0) 1 (fun xq221 w8_221 =>
                            (ald 44 (MS_tt xq221) ((22 * p1) + 0)).bind fun r222 =>
                            (ast 44 (MS_tt xq221) ((22 * p1) + 1) r222).bind fun g224 =>
                            (ald 44 (MS_tb xq221) ((22 * p1) + 0)).bind fun r226 =>
                            (ast 44 (MS_tb xq221) ((22 * p1) + 1) r226).bind fun g228 =>
                            (ast 2 (MS_busy xq221) p1 (vp_nar .boolean 1)).bind fun g230 =>
                            (ast 2 (MS_at xq221) p1 25).bind fun g232 =>
                            (ast 2 (MS_rec xq221) p1 0).bind fun g234 =>
                            (FX8_number (MS_setrec (MS_setat (MS_setbusy (MS_settb (MS_settt xq221 g224) g228) g230) g232) g234) 9 8).bind fun r236 =>
                            (lst 2 (MS_tgt xq221) p1 r236).bind fun g238 =>
                            some (0, (MS_settgt (MS_setrec (MS_setat (MS_setbusy (MS_settb (MS_settt xq221 g224) g228) g230) g232) g234) g238))) 100000 (MS_setthr x0 0) 0
                        else
                          some (3, (MS_setthr x0 0))
                      else
                        some (3, (MS_setthr x0 0))
                    else
                      (ald 44 (MS_tt x0) ((22 * p1) + 0)).bind fun r240 =>
                      if r240 = (-1) then
                        FX8_receive_L222 p1 p1 r148 (r150 - 1) ((22 * p1) + 0) 1 (fun xq243 w8_243 =>
                          (ald 44 (MS_tt xq243) ((22 * p1) + 0)).bind fun r244 =>
                          (ast 44 (MS_tt xq243) ((22 * p1) + 1) r244).bind fun g246 =>
                          (ald 44 (MS_tb xq243) ((22 * p1) + 0)).bind fun r248 =>
                          (ast 44 (MS_tb xq243) ((22 * p1) + 1) r248).bind fun g250 =>
                          (ast 2 (MS_busy xq243) p1 (vp_nar .boolean 1)).bind fun g252 =>
                          (ast 2 (MS_at xq243) p1 25).bind fun g254 =>
                          (ast 2 (MS_rec xq243) p1 0).bind fun g256 =>
                          (FX8_number (MS_setrec (MS_setat (MS_setbusy (MS_settb (MS_settt xq243 g246) g250) g252) g254) g256) 9 8).bind fun r258 =>
                          (lst 2 (MS_tgt xq243) p1 r258).bind fun g260 =>
                          some (0, (MS_settgt (MS_setrec (MS_setat (MS_setbusy (MS_settb (MS_settt xq243 g246) g250) g252) g254) g256) g260))) 100000 (MS_setthr x0 0) 0
                      else
                        some (3, (MS_setthr x0 0))
                  else
                    some (2, (MS_setthr x0 0))
          else
            some (1, (MS_setthr x0 0))
      else
        some (6, (MS_setthr x0 0))
    else
      some (0, (MS_setthr x0 0))
def rX8_receive : Room := { frames := 2, cells := 0, slots := 0, locals := 47 }
set_option maxHeartbeats 4000000 in
set_option maxRecDepth 100000 in
theorem c_FX8_receive_L222 {p : Program} {l : Launch} {e : Env} {s : State} {m : MethodId} {args : Array Value} {below : List Frame} {meth : Method} {c : Code} {D : va_G} {cB cI cJ cZ : ClassId} {x_0 x_1 x_2 x_3 x_4 x_5 x_6 x_7 x_8 x_9 x_10 x_11 x_12 x_13 x_14 x_15 x_16 x_17 x_18 x_19 : Nat} {x0 : MS} {res : Int32 × MS} (C : gC p s m args meth c cX8_receive 9 RX8 wsX8_receive D (gT cB cI cJ cZ) (some .int) (va_A (wM cB cI cJ cZ x_0 x_1 x_2 x_3 x_4 x_5 x_6 x_7 x_8 x_9 x_10 x_11 x_12 x_13 x_14 x_15 x_16 x_17 x_18 x_19 x0) s.heap.size)) {v1 : Int32} {v2 : Int32} {v3 : Int64} {v5 : Int32} {v6 : Int32} {v7 : Int32} {k9 : MS → Int32 → Option (Int32 × MS)} (hk9 : ∀ (x : MS) (v8 : Int32), k9 x v8 = some res → gG p l e (headSpec wsX8_receive rX8_receive).room s m args below meth c 0 0 D (va_A (wM cB cI cJ cZ x_0 x_1 x_2 x_3 x_4 x_5 x_6 x_7 x_8 x_9 x_10 x_11 x_12 x_13 x_14 x_15 x_16 x_17 x_18 x_19 x0) s.heap.size) (va_A (wM cB cI cJ cZ x_0 x_1 x_2 x_3 x_4 x_5 x_6 x_7 x_8 x_9 x_10 x_11 x_12 x_13 x_14 x_15 x_16 x_17 x_18 x_19 x0) s.heap.size) 9 (MQ below (gQi D (wM cB cI cJ cZ x_0 x_1 x_2 x_3 x_4 x_5 x_6 x_7 x_8 x_9 x_10 x_11 x_12 x_13 x_14 x_15 x_16 x_17 x_18 x_19 x0) s.heap.size res.1 (wM cB cI cJ cZ x_0 x_1 x_2 x_3 x_4 x_5 x_6 x_7 x_8 x_9 x_10 x_11 x_12 x_13 x_14 x_15 x_16 x_17 x_18 x_19 res.2)) args s 0 0 (va_A (wM cB cI cJ cZ x_0 x_1 x_2 x_3 x_4 x_5 x_6 x_7 x_8 x_9 x_10 x_11 x_12 x_13 x_14 x_15 x_16 x_17 x_18 x_19 x0) s.heap.size)) (wM cB cI cJ cZ x_0 x_1 x_2 x_3 x_4 x_5 x_6 x_7 x_8 x_9 x_10 x_11 x_12 x_13 x_14 x_15 x_16 x_17 x_18 x_19 x) 265 [(0, .ref x_0), (1, .int v1), (2, .int v2), (3, .long v3), (5, .int v5), (6, .int v6), (7, .int v7), (8, .int v8)] []) :
    ∀ (n9 : Nat) (x : MS) (v8 : Int32), FX8_receive_L222 v1 v2 v3 v5 v6 v7 k9 n9 x v8 = some res → gG p l e (headSpec wsX8_receive rX8_receive).room s m args below meth c 0 0 D (va_A (wM cB cI cJ cZ x_0 x_1 x_2 x_3 x_4 x_5 x_6 x_7 x_8 x_9 x_10 x_11 x_12 x_13 x_14 x_15 x_16 x_17 x_18 x_19 x0) s.heap.size) (va_A (wM cB cI cJ cZ x_0 x_1 x_2 x_3 x_4 x_5 x_6 x_7 x_8 x_9 x_10 x_11 x_12 x_13 x_14 x_15 x_16 x_17 x_18 x_19 x0) s.heap.size) 9 (MQ below (gQi D (wM cB cI cJ cZ x_0 x_1 x_2 x_3 x_4 x_5 x_6 x_7 x_8 x_9 x_10 x_11 x_12 x_13 x_14 x_15 x_16 x_17 x_18 x_19 x0) s.heap.size res.1 (wM cB cI cJ cZ x_0 x_1 x_2 x_3 x_4 x_5 x_6 x_7 x_8 x_9 x_10 x_11 x_12 x_13 x_14 x_15 x_16 x_17 x_18 x_19 res.2)) args s 0 0 (va_A (wM cB cI cJ cZ x_0 x_1 x_2 x_3 x_4 x_5 x_6 x_7 x_8 x_9 x_10 x_11 x_12 x_13 x_14 x_15 x_16 x_17 x_18 x_19 x0) s.heap.size)) (wM cB cI cJ cZ x_0 x_1 x_2 x_3 x_4 x_5 x_6 x_7 x_8 x_9 x_10 x_11 x_12 x_13 x_14 x_15 x_16 x_17 x_18 x_19 x) 222 [(0, .ref x_0), (1, .int v1), (2, .int v2), (3, .long v3), (5, .int v5), (6, .int v6), (7, .int v7), (8, .int v8)] [] := by
  intro n9
  induction n9 with
  | zero =>
    intro x v8 hF
    exact absurd hF (by simp [FX8_receive_L222])
  | succ n9 ih9 =>
    intro x v8 hF
    rw [FX8_receive_L222] at hF
    refine g_iload (z := 7) C (tdec DX8_receive 131 rfl) rfl rfl ?_
    refine g_aload_n (z := 0) C (tdec DX8_receive 132 rfl) rfl rfl rfl ?_
    refine g_getf (C' := RX8) (T := TX8) (N := 27) (v := .ref x_10) C 0 10 (gIn iw_X8) rfl rfl (by decide) (gMem fl_X8_39) rfl rfl (tdec DX8_receive 133 rfl) rfl ?_
    refine g_iload_n (z := 2) C (tdec DX8_receive 134 rfl) rfl rfl rfl ?_
    obtain ⟨r32, y33, hF⟩ := o_bind hF
    refine g_iald C 10 1 rfl rfl y33 (tdec DX8_receive 135 rfl) rfl ?_
    refine g_icmp_ge (pt := 265) C (tdec DX8_receive 136 rfl) (by decide) rfl (fun h34 => ?_) (fun h34 => ?_)
    · have hF := o_ifp hF h34
      refine g_sub (L' := [(0, .ref x_0), (1, .int v1), (2, .int v2), (3, .long v3), (5, .int v5), (6, .int v6), (7, .int v7), (8, .int v8)]) [0, 1, 2, 3, 4, 5, 6, 7] rfl ?_
      exact hk9 _ _ hF
    · have hF := o_ifn hF h34
      refine g_aload_n (z := 0) C (tdec DX8_receive 137 rfl) rfl rfl rfl ?_
      refine g_getf (C' := RX8) (T := TX8) (N := 27) (v := .ref x_12) C 0 12 (gIn iw_X8) rfl rfl (by decide) (gMem fl_X8_45) rfl rfl (tdec DX8_receive 138 rfl) rfl ?_
      refine g_bipush (v := 20) C (tdec DX8_receive 139 rfl) (by decide) rfl ?_
      refine g_iload_n (z := 2) C (tdec DX8_receive 140 rfl) rfl rfl rfl ?_
      refine g_imul C (tdec DX8_receive 141 rfl) rfl ?_
      refine g_iload (z := 7) C (tdec DX8_receive 142 rfl) rfl rfl ?_
      refine g_iadd C (tdec DX8_receive 143 rfl) rfl ?_
      obtain ⟨r35, y36, hF⟩ := o_bind hF
      refine g_lald C 12 2 rfl rfl y36 (tdec DX8_receive 144 rfl) rfl ?_
      refine g_aload_n (z := 0) C (tdec DX8_receive 145 rfl) rfl rfl rfl ?_
      refine g_bipush (v := 9) C (tdec DX8_receive 146 rfl) (by decide) rfl ?_
      refine g_bipush (v := 8) C (tdec DX8_receive 147 rfl) (by decide) rfl ?_
      obtain ⟨r37, y38, hF⟩ := o_bind hF
      refine g_callVlRS (q0 := 0) (S := [wM cB cI cJ cZ x_0 x_1 x_2 x_3 x_4 x_5 x_6 x_7 x_8 x_9 x_10 x_11 x_12 x_13 x_14 x_15 x_16 x_17 x_18 x_19 x]) (S0 := [wM cB cI cJ cZ x_0 x_1 x_2 x_3 x_4 x_5 x_6 x_7 x_8 x_9 x_10 x_11 x_12 x_13 x_14 x_15 x_16 x_17 x_18 x_19 x]) C (c_X8_number l D cB cI cJ cZ x_0 x_1 x_2 x_3 x_4 x_5 x_6 x_7 x_8 x_9 x_10 x_11 x_12 x_13 x_14 x_15 x_16 x_17 x_18 x_19 y38) rfl rfl (gIV ml_X8_186 im_X8_number sl_X8_number in_X8 cd_X8_number) rfl eX8_number rfl ⟨rfl, rfl⟩ ⟨Nat.le_of_ble_eq_true rfl, Nat.le_of_ble_eq_true rfl⟩ rfl rfl rfl [0] rfl rfl rfl (Nat.le_of_ble_eq_true rfl) (tdec DX8_receive 148 rfl) rfl ?_
      refine g_lcmp C (tdec DX8_receive 149 rfl) rfl ?_
      refine g_if_ne (pt := 259) C (tdec DX8_receive 150 rfl) (by decide) rfl (fun h39 => ?_) (fun h39 => ?_)
      · have hF := o_ifn hF h39
        refine g_iinc (z := 7) (v := (v8 + 1)) (L' := [(8, .int (v8 + 1)), (0, .ref x_0), (1, .int v1), (2, .int v2), (3, .long v3), (5, .int v5), (6, .int v6), (7, .int v7)]) C (tdec DX8_receive 153 rfl) rfl rfl (by decide) rfl rfl ?_
        refine g_goto (pt := 222) C (tdec DX8_receive 154 rfl) (by decide) ?_
        refine g_sub (L' := [(0, .ref x_0), (1, .int v1), (2, .int v2), (3, .long v3), (5, .int v5), (6, .int v6), (7, .int v7), (8, .int (v8 + 1))]) [1, 2, 3, 4, 5, 6, 7, 0] rfl ?_
        exact ih9 _ _ hF
      · have hF := o_ifp hF h39
        refine g_iconst (v := 4) C (tdec DX8_receive 151 rfl) (by decide) rfl ?_
        have hr9 := o_some hF
        subst hr9
        exact g_iret C rfl rfl (tdec DX8_receive 152 rfl)
set_option maxHeartbeats 4000000 in
set_option maxRecDepth 100000 in
theorem c_X8_receive (l : Launch) (D : va_G) (cB cI cJ cZ : ClassId) (x_0 x_1 x_2 x_3 x_4 x_5 x_6 x_7 x_8 x_9 x_10 x_11 x_12 x_13 x_14 x_15 x_16 x_17 x_18 x_19 : Nat) {x0 : MS} {p1 : Int32} {res : Int32 × MS} (hF : FX8_receive x0 p1 = some res) : gMi l yX8_receive wsX8_receive rX8_receive D (gT cB cI cJ cZ) [.ref x_0, .int p1] (wM cB cI cJ cZ x_0 x_1 x_2 x_3 x_4 x_5 x_6 x_7 x_8 x_9 x_10 x_11 x_12 x_13 x_14 x_15 x_16 x_17 x_18 x_19 x0) res.1 (wM cB cI cJ cZ x_0 x_1 x_2 x_3 x_4 x_5 x_6 x_7 x_8 x_9 x_10 x_11 x_12 x_13 x_14 x_15 x_16 x_17 x_18 x_19 res.2) := by
  refine g_enter (own := RX8) (free := (fun sz => va_A (wM cB cI cJ cZ x_0 x_1 x_2 x_3 x_4 x_5 x_6 x_7 x_8 x_9 x_10 x_11 x_12 x_13 x_14 x_15 x_16 x_17 x_18 x_19 x0) sz)) (Qc := (fun sz => gQi D (wM cB cI cJ cZ x_0 x_1 x_2 x_3 x_4 x_5 x_6 x_7 x_8 x_9 x_10 x_11 x_12 x_13 x_14 x_15 x_16 x_17 x_18 x_19 x0) sz res.1 (wM cB cI cJ cZ x_0 x_1 x_2 x_3 x_4 x_5 x_6 x_7 x_8 x_9 x_10 x_11 x_12 x_13 x_14 x_15 x_16 x_17 x_18 x_19 res.2))) (fun sz => va_A (wM cB cI cJ cZ x_0 x_1 x_2 x_3 x_4 x_5 x_6 x_7 x_8 x_9 x_10 x_11 x_12 x_13 x_14 x_15 x_16 x_17 x_18 x_19 x0) sz) (fun sz => Or.inr rfl) rfl (by decide) rfl (Nat.le_of_ble_eq_true rfl) rfl ?_
  intro p e s m args below meth c C
  unfold FX8_receive at hF
  refine g_aload_n (z := 0) C (tdec DX8_receive 0 rfl) rfl rfl rfl ?_
  refine g_iload_n (z := 1) C (tdec DX8_receive 1 rfl) rfl rfl rfl ?_
  obtain ⟨r1, y2, hF⟩ := o_bind hF
  refine g_callSiR C (c_X8_isVolume l D cB cI cJ cZ y2) (gIS ml_X8_82 st_X8_isVolume in_X8 cd_X8_isVolume) eX8_isVolume rfl ⟨rfl, rfl⟩ ⟨Nat.le_of_ble_eq_true rfl, Nat.le_of_ble_eq_true rfl⟩ rfl [] rfl rfl rfl (Nat.le_of_ble_eq_true rfl) (tdec DX8_receive 2 rfl) rfl ?_
  refine g_if_eq (pt := 12) C (tdec DX8_receive 3 rfl) (by decide) rfl (fun h3 => ?_) (fun h3 => ?_)
  · have hF := o_ifp hF h3
    refine g_iconst (v := 1) C (tdec DX8_receive 6 rfl) (by decide) rfl ?_
    refine g_putf (C' := RX8) (T := TX8) (N := 27) (v := .int 1) (ws' := wM cB cI cJ cZ x_0 x_1 x_2 x_3 x_4 x_5 x_6 x_7 x_8 x_9 x_10 x_11 x_12 x_13 x_14 x_15 x_16 x_17 x_18 x_19 (MS_setthr x0 1)) C 0 0 tyX8 tyX8_ok nmX8 (gIn iw_X8) rfl rfl (by decide) (gMem fl_X8_78) rfl rfl (tyX8_ok 0 (by decide)) rfl rfl (Nat.le_of_ble_eq_true rfl) rfl (tdec DX8_receive 7 rfl) rfl ?_
    refine g_aload_n (z := 0) C (tdec DX8_receive 8 rfl) rfl rfl rfl ?_
    refine g_getf (C' := RX8) (T := TX8) (N := 27) (v := .int 1) C 0 0 (gIn iw_X8) rfl rfl (by decide) (gMem fl_X8_78) rfl rfl (tdec DX8_receive 9 rfl) rfl ?_
    refine g_if_le (pt := 25) C (tdec DX8_receive 10 rfl) (by decide) rfl (fun h4 => ?_) (fun h4 => ?_)
    · have hF := o_ifp hF h4
      refine g_iload_n (z := 1) C (tdec DX8_receive 13 rfl) rfl rfl rfl ?_
      refine g_istore_n (L' := [(2, .int p1), (0, .ref x_0), (1, .int p1)]) C (tdec DX8_receive 14 rfl) rfl (by decide) rfl rfl ?_
      refine g_aload_n (z := 1) C (tdec DX8_receive 15 rfl) rfl rfl rfl ?_
      refine g_getf (C' := RX8) (T := TX8) (N := 27) (v := .ref x_13) C 0 13 (gIn iw_X8) rfl rfl (by decide) (gMem fl_X8_48) rfl rfl (tdec DX8_receive 16 rfl) rfl ?_
      refine g_iload_n (z := 0) C (tdec DX8_receive 17 rfl) rfl rfl rfl ?_
      obtain ⟨r5, y6, hF⟩ := o_bind hF
      refine g_zald C 13 3 rfl rfl y6 (tdec DX8_receive 18 rfl) rfl ?_
      refine g_if_eq (pt := 39) C (tdec DX8_receive 19 rfl) (by decide) rfl (fun h7 => ?_) (fun h7 => ?_)
      · have hF := o_ifp hF h7
        refine g_aload_n (z := 1) C (tdec DX8_receive 22 rfl) rfl rfl rfl ?_
        refine g_getf (C' := RX8) (T := TX8) (N := 27) (v := .int (MS_len x0)) C 0 19 (gIn iw_X8) rfl rfl (by decide) (gMem fl_X8_147) rfl rfl (tdec DX8_receive 23 rfl) rfl ?_
        refine g_iconst (v := 1) C (tdec DX8_receive 24 rfl) (by decide) rfl ?_
        refine g_icmp_lt (pt := 67) C (tdec DX8_receive 25 rfl) (by decide) rfl (fun h8 => ?_) (fun h8 => ?_)
        · have hF := o_ifp hF h8
          refine g_iconst (v := 1) C (tdec DX8_receive 37 rfl) (by decide) rfl ?_
          have hr9 := o_some hF
          subst hr9
          exact g_iret C rfl rfl (tdec DX8_receive 38 rfl)
        · have hF := o_ifn hF h8
          refine g_aload_n (z := 1) C (tdec DX8_receive 26 rfl) rfl rfl rfl ?_
          refine g_getf (C' := RX8) (T := TX8) (N := 27) (v := .ref x_17) C 0 18 (gIn iw_X8) rfl rfl (by decide) (gMem fl_X8_64) rfl rfl (tdec DX8_receive 27 rfl) rfl ?_
          refine g_iconst (v := 0) C (tdec DX8_receive 28 rfl) (by decide) rfl ?_
          obtain ⟨r9, y10, hF⟩ := o_bind hF
          refine g_bald C 17 0 rfl rfl y10 (tdec DX8_receive 29 rfl) rfl ?_
          refine g_iconst (v := 1) C (tdec DX8_receive 30 rfl) (by decide) rfl ?_
          refine g_icmp_ne (pt := 67) C (tdec DX8_receive 31 rfl) (by decide) rfl (fun h11 => ?_) (fun h11 => ?_)
          · have hF := o_ifn hF h11
            refine g_iconst (v := 1) C (tdec DX8_receive 37 rfl) (by decide) rfl ?_
            have hr9 := o_some hF
            subst hr9
            exact g_iret C rfl rfl (tdec DX8_receive 38 rfl)
          · have hF := o_ifp hF h11
            refine g_aload_n (z := 1) C (tdec DX8_receive 32 rfl) rfl rfl rfl ?_
            refine g_iconst (v := 0) C (tdec DX8_receive 33 rfl) (by decide) rfl ?_
            refine g_bipush (v := 25) C (tdec DX8_receive 34 rfl) (by decide) rfl ?_
            obtain ⟨r12, y13, hF⟩ := o_bind hF
            refine g_callViRS (q0 := 0) (S := [wM cB cI cJ cZ x_0 x_1 x_2 x_3 x_4 x_5 x_6 x_7 x_8 x_9 x_10 x_11 x_12 x_13 x_14 x_15 x_16 x_17 x_18 x_19 (MS_setthr x0 1)]) (S0 := [wM cB cI cJ cZ x_0 x_1 x_2 x_3 x_4 x_5 x_6 x_7 x_8 x_9 x_10 x_11 x_12 x_13 x_14 x_15 x_16 x_17 x_18 x_19 (MS_setthr x0 1)]) C (c_X8_isWhole l D cB cI cJ cZ x_0 x_1 x_2 x_3 x_4 x_5 x_6 x_7 x_8 x_9 x_10 x_11 x_12 x_13 x_14 x_15 x_16 x_17 x_18 x_19 y13) rfl rfl (gIV ml_X8_189 im_X8_isWhole sl_X8_isWhole in_X8 cd_X8_isWhole) rfl eX8_isWhole rfl ⟨rfl, rfl⟩ ⟨Nat.le_of_ble_eq_true rfl, Nat.le_of_ble_eq_true rfl⟩ rfl rfl rfl [0] rfl rfl rfl (Nat.le_of_ble_eq_true rfl) (tdec DX8_receive 35 rfl) rfl ?_
            refine g_if_ne (pt := 69) C (tdec DX8_receive 36 rfl) (by decide) rfl (fun h14 => ?_) (fun h14 => ?_)
            · have hF := o_ifn hF h14
              refine g_aload_n (z := 1) C (tdec DX8_receive 39 rfl) rfl rfl rfl ?_
              refine g_iconst (v := 1) C (tdec DX8_receive 40 rfl) (by decide) rfl ?_
              refine g_bipush (v := 8) C (tdec DX8_receive 41 rfl) (by decide) rfl ?_
              obtain ⟨r15, y16, hF⟩ := o_bind hF
              refine g_callVlRS (q0 := 0) (S := [wM cB cI cJ cZ x_0 x_1 x_2 x_3 x_4 x_5 x_6 x_7 x_8 x_9 x_10 x_11 x_12 x_13 x_14 x_15 x_16 x_17 x_18 x_19 (MS_setthr x0 1)]) (S0 := [wM cB cI cJ cZ x_0 x_1 x_2 x_3 x_4 x_5 x_6 x_7 x_8 x_9 x_10 x_11 x_12 x_13 x_14 x_15 x_16 x_17 x_18 x_19 (MS_setthr x0 1)]) C (c_X8_number l D cB cI cJ cZ x_0 x_1 x_2 x_3 x_4 x_5 x_6 x_7 x_8 x_9 x_10 x_11 x_12 x_13 x_14 x_15 x_16 x_17 x_18 x_19 y16) rfl rfl (gIV ml_X8_186 im_X8_number sl_X8_number in_X8 cd_X8_number) rfl eX8_number rfl ⟨rfl, rfl⟩ ⟨Nat.le_of_ble_eq_true rfl, Nat.le_of_ble_eq_true rfl⟩ rfl rfl rfl [0] rfl rfl rfl (Nat.le_of_ble_eq_true rfl) (tdec DX8_receive 42 rfl) rfl ?_
              refine g_lstore_n (L' := [(3, .long r15), (2, .int p1), (0, .ref x_0), (1, .int p1)]) C (tdec DX8_receive 43 rfl) rfl (by decide) rfl rfl ?_
              refine g_aload_n (z := 2) C (tdec DX8_receive 44 rfl) rfl rfl rfl ?_
              refine g_getf (C' := RX8) (T := TX8) (N := 27) (v := .ref x_10) C 0 10 (gIn iw_X8) rfl rfl (by decide) (gMem fl_X8_39) rfl rfl (tdec DX8_receive 45 rfl) rfl ?_
              refine g_iload_n (z := 1) C (tdec DX8_receive 46 rfl) rfl rfl rfl ?_
              obtain ⟨r17, y18, hF⟩ := o_bind hF
              refine g_iald C 10 1 rfl rfl y18 (tdec DX8_receive 47 rfl) rfl ?_
              refine g_iconst (v := 1) C (tdec DX8_receive 48 rfl) (by decide) rfl ?_
              refine g_isub C (tdec DX8_receive 49 rfl) rfl ?_
              refine g_istore (L' := [(5, .int (r17 - 1)), (3, .long r15), (2, .int p1), (0, .ref x_0), (1, .int p1)]) C (tdec DX8_receive 50 rfl) (by decide) rfl rfl ?_
              refine g_lload_n (z := 1) C (tdec DX8_receive 51 rfl) rfl rfl rfl ?_
              refine g_lconst (v := 0) C (tdec DX8_receive 52 rfl) (by decide) rfl ?_
              refine g_lcmp C (tdec DX8_receive 53 rfl) rfl ?_
              refine g_if_eq (pt := 118) C (tdec DX8_receive 54 rfl) (by decide) rfl (fun h19 => ?_) (fun h19 => ?_)
              · have hF := o_ifp hF h19
                refine g_iload (z := 0) C (tdec DX8_receive 69 rfl) rfl rfl ?_
                refine g_if_lt (pt := 125) C (tdec DX8_receive 70 rfl) (by decide) rfl (fun h20 => ?_) (fun h20 => ?_)
                · have hF := o_ifp hF h20
                  refine g_bipush (v := 22) C (tdec DX8_receive 73 rfl) (by decide) rfl ?_
                  refine g_iload_n (z := 2) C (tdec DX8_receive 74 rfl) rfl rfl rfl ?_
                  refine g_imul C (tdec DX8_receive 75 rfl) rfl ?_
                  refine g_iconst (v := 0) C (tdec DX8_receive 76 rfl) (by decide) rfl ?_
                  refine g_iadd C (tdec DX8_receive 77 rfl) rfl ?_
                  refine g_istore (L' := [(6, .int ((22 * p1) + 0)), (5, .int (r17 - 1)), (3, .long r15), (2, .int p1), (0, .ref x_0), (1, .int p1)]) C (tdec DX8_receive 78 rfl) (by decide) rfl rfl ?_
                  refine g_iload (z := 1) C (tdec DX8_receive 79 rfl) rfl rfl ?_
                  refine g_if_ge (pt := 157) C (tdec DX8_receive 80 rfl) (by decide) rfl (fun h21 => ?_) (fun h21 => ?_)
                  · have hF := o_ifp hF h21
                    refine g_aload_n (z := 4) C (tdec DX8_receive 91 rfl) rfl rfl rfl ?_
                    refine g_getf (C' := RX8) (T := TX8) (N := 27) (v := .ref x_7) C 0 7 (gIn iw_X8) rfl rfl (by decide) (gMem fl_X8_30) rfl rfl (tdec DX8_receive 92 rfl) rfl ?_
                    refine g_iload (z := 0) C (tdec DX8_receive 93 rfl) rfl rfl ?_
                    obtain ⟨r22, y23, hF⟩ := o_bind hF
                    refine g_iald C 7 1 rfl rfl y23 (tdec DX8_receive 94 rfl) rfl ?_
                    refine g_aload_n (z := 4) C (tdec DX8_receive 95 rfl) rfl rfl rfl ?_
                    refine g_getf (C' := RX8) (T := TX8) (N := 27) (v := .ref x_7) C 0 7 (gIn iw_X8) rfl rfl (by decide) (gMem fl_X8_30) rfl rfl (tdec DX8_receive 96 rfl) rfl ?_
                    refine g_bipush (v := 22) C (tdec DX8_receive 97 rfl) (by decide) rfl ?_
                    refine g_iload_n (z := 3) C (tdec DX8_receive 98 rfl) rfl rfl rfl ?_
                    refine g_imul C (tdec DX8_receive 99 rfl) rfl ?_
                    refine g_iconst (v := 2) C (tdec DX8_receive 100 rfl) (by decide) rfl ?_
                    refine g_iadd C (tdec DX8_receive 101 rfl) rfl ?_
                    refine g_iload (z := 1) C (tdec DX8_receive 102 rfl) rfl rfl ?_
                    refine g_iadd C (tdec DX8_receive 103 rfl) rfl ?_
                    obtain ⟨r24, y25, hF⟩ := o_bind hF
                    refine g_iald C 7 1 rfl rfl y25 (tdec DX8_receive 104 rfl) rfl ?_
                    refine g_icmp_ne (pt := 209) C (tdec DX8_receive 105 rfl) (by decide) rfl (fun h26 => ?_) (fun h26 => ?_)
                    · have hF := o_ifn hF h26
                      refine g_iconst (v := 0) C (tdec DX8_receive 123 rfl) (by decide) rfl ?_
                      refine g_istore (L' := [(7, .int 0), (6, .int ((22 * p1) + 0)), (5, .int (r17 - 1)), (3, .long r15), (2, .int p1), (0, .ref x_0), (1, .int p1)]) C (tdec DX8_receive 124 rfl) (by decide) rfl rfl ?_
                      refine g_iload (z := 0) C (tdec DX8_receive 125 rfl) rfl rfl ?_
                      refine g_if_ne (pt := 219) C (tdec DX8_receive 126 rfl) (by decide) rfl (fun h => absurd h (by decide)) (fun _ => ?_)
                      refine g_iconst (v := 3) C (tdec DX8_receive 127 rfl) (by decide) rfl ?_
                      have hr9 := o_some hF
                      subst hr9
                      exact g_iret C rfl rfl (tdec DX8_receive 128 rfl)
                    · have hF := o_ifp hF h26
                      refine g_aload_n (z := 4) C (tdec DX8_receive 106 rfl) rfl rfl rfl ?_
                      refine g_getf (C' := RX8) (T := TX8) (N := 27) (v := .ref x_8) C 0 8 (gIn iw_X8) rfl rfl (by decide) (gMem fl_X8_33) rfl rfl (tdec DX8_receive 107 rfl) rfl ?_
                      refine g_iload (z := 0) C (tdec DX8_receive 108 rfl) rfl rfl ?_
                      obtain ⟨r27, y28, hF⟩ := o_bind hF
                      refine g_iald C 8 1 rfl rfl y28 (tdec DX8_receive 109 rfl) rfl ?_
                      refine g_aload_n (z := 4) C (tdec DX8_receive 110 rfl) rfl rfl rfl ?_
                      refine g_getf (C' := RX8) (T := TX8) (N := 27) (v := .ref x_8) C 0 8 (gIn iw_X8) rfl rfl (by decide) (gMem fl_X8_33) rfl rfl (tdec DX8_receive 111 rfl) rfl ?_
                      refine g_bipush (v := 22) C (tdec DX8_receive 112 rfl) (by decide) rfl ?_
                      refine g_iload_n (z := 3) C (tdec DX8_receive 113 rfl) rfl rfl rfl ?_
                      refine g_imul C (tdec DX8_receive 114 rfl) rfl ?_
                      refine g_iconst (v := 2) C (tdec DX8_receive 115 rfl) (by decide) rfl ?_
                      refine g_iadd C (tdec DX8_receive 116 rfl) rfl ?_
                      refine g_iload (z := 1) C (tdec DX8_receive 117 rfl) rfl rfl ?_
                      refine g_iadd C (tdec DX8_receive 118 rfl) rfl ?_
                      obtain ⟨r29, y30, hF⟩ := o_bind hF
                      refine g_iald C 8 1 rfl rfl y30 (tdec DX8_receive 119 rfl) rfl ?_
                      refine g_icmp_ne (pt := 209) C (tdec DX8_receive 120 rfl) (by decide) rfl (fun h31 => ?_) (fun h31 => ?_)
                      · have hF := o_ifn hF h31
                        refine g_iconst (v := 0) C (tdec DX8_receive 123 rfl) (by decide) rfl ?_
                        refine g_istore (L' := [(7, .int 0), (6, .int ((22 * p1) + 0)), (5, .int (r17 - 1)), (3, .long r15), (2, .int p1), (0, .ref x_0), (1, .int p1)]) C (tdec DX8_receive 124 rfl) (by decide) rfl rfl ?_
                        refine g_iload (z := 0) C (tdec DX8_receive 125 rfl) rfl rfl ?_
                        refine g_if_ne (pt := 219) C (tdec DX8_receive 126 rfl) (by decide) rfl (fun h => absurd h (by decide)) (fun _ => ?_)
                        refine g_iconst (v := 3) C (tdec DX8_receive 127 rfl) (by decide) rfl ?_
                        have hr9 := o_some hF
                        subst hr9
                        exact g_iret C rfl rfl (tdec DX8_receive 128 rfl)
                      · have hF := o_ifp hF h31
                        refine g_iconst (v := 1) C (tdec DX8_receive 121 rfl) (by decide) rfl ?_
                        refine g_goto (pt := 210) C (tdec DX8_receive 122 rfl) (by decide) ?_
                        refine g_istore (L' := [(7, .int 1), (6, .int ((22 * p1) + 0)), (5, .int (r17 - 1)), (3, .long r15), (2, .int p1), (0, .ref x_0), (1, .int p1)]) C (tdec DX8_receive 124 rfl) (by decide) rfl rfl ?_
                        refine g_iload (z := 0) C (tdec DX8_receive 125 rfl) rfl rfl ?_
                        refine g_if_ne (pt := 219) C (tdec DX8_receive 126 rfl) (by decide) rfl (fun _ => ?_) (fun h => absurd h (by decide))
                        refine g_iconst (v := 0) C (tdec DX8_receive 129 rfl) (by decide) rfl ?_
                        refine g_istore (L' := [(8, .int 0), (7, .int 1), (6, .int ((22 * p1) + 0)), (5, .int (r17 - 1)), (3, .long r15), (2, .int p1), (0, .ref x_0), (1, .int p1)]) C (tdec DX8_receive 130 rfl) (by decide) rfl rfl ?_
                        refine g_sub (L' := [(0, .ref x_0), (1, .int p1), (2, .int p1), (3, .long r15), (5, .int (r17 - 1)), (6, .int ((22 * p1) + 0)), (7, .int 1), (8, .int 0)]) [6, 7, 5, 4, 3, 2, 1, 0] rfl ?_
                        refine c_FX8_receive_L222 C (fun xq40 w8_40 hF => ?_) 100000 _ _ hF
                        refine g_aload_n (z := 0) C (tdec DX8_receive 155 rfl) rfl rfl rfl ?_
                        refine g_getf (C' := RX8) (T := TX8) (N := 27) (v := .ref x_7) C 0 7 (gIn iw_X8) rfl rfl (by decide) (gMem fl_X8_30) rfl rfl (tdec DX8_receive 156 rfl) rfl ?_
                        refine g_bipush (v := 22) C (tdec DX8_receive 157 rfl) (by decide) rfl ?_
                        refine g_iload_n (z := 2) C (tdec DX8_receive 158 rfl) rfl rfl rfl ?_
                        refine g_imul C (tdec DX8_receive 159 rfl) rfl ?_
                        refine g_iconst (v := 1) C (tdec DX8_receive 160 rfl) (by decide) rfl ?_
                        refine g_iadd C (tdec DX8_receive 161 rfl) rfl ?_
                        refine g_aload_n (z := 0) C (tdec DX8_receive 162 rfl) rfl rfl rfl ?_
                        refine g_getf (C' := RX8) (T := TX8) (N := 27) (v := .ref x_7) C 0 7 (gIn iw_X8) rfl rfl (by decide) (gMem fl_X8_30) rfl rfl (tdec DX8_receive 163 rfl) rfl ?_
                        refine g_iload (z := 5) C (tdec DX8_receive 164 rfl) rfl rfl ?_
                        obtain ⟨r41, y42, hF⟩ := o_bind hF
                        refine g_iald C 7 1 rfl rfl y42 (tdec DX8_receive 165 rfl) rfl ?_
                        obtain ⟨g43, y44, hF⟩ := o_bind hF
                        refine g_iast (ws' := wM cB cI cJ cZ x_0 x_1 x_2 x_3 x_4 x_5 x_6 x_7 x_8 x_9 x_10 x_11 x_12 x_13 x_14 x_15 x_16 x_17 x_18 x_19 (MS_settt xq40 g43)) C 7 1 rfl rfl y44 rfl (tdec DX8_receive 166 rfl) rfl ?_
                        refine g_aload_n (z := 0) C (tdec DX8_receive 167 rfl) rfl rfl rfl ?_
                        refine g_getf (C' := RX8) (T := TX8) (N := 27) (v := .ref x_8) C 0 8 (gIn iw_X8) rfl rfl (by decide) (gMem fl_X8_33) rfl rfl (tdec DX8_receive 168 rfl) rfl ?_
                        refine g_bipush (v := 22) C (tdec DX8_receive 169 rfl) (by decide) rfl ?_
                        refine g_iload_n (z := 2) C (tdec DX8_receive 170 rfl) rfl rfl rfl ?_
                        refine g_imul C (tdec DX8_receive 171 rfl) rfl ?_
                        refine g_iconst (v := 1) C (tdec DX8_receive 172 rfl) (by decide) rfl ?_
                        refine g_iadd C (tdec DX8_receive 173 rfl) rfl ?_
                        refine g_aload_n (z := 0) C (tdec DX8_receive 174 rfl) rfl rfl rfl ?_
                        refine g_getf (C' := RX8) (T := TX8) (N := 27) (v := .ref x_8) C 0 8 (gIn iw_X8) rfl rfl (by decide) (gMem fl_X8_33) rfl rfl (tdec DX8_receive 175 rfl) rfl ?_
                        refine g_iload (z := 5) C (tdec DX8_receive 176 rfl) rfl rfl ?_
                        obtain ⟨r45, y46, hF⟩ := o_bind hF
                        refine g_iald C 8 1 rfl rfl y46 (tdec DX8_receive 177 rfl) rfl ?_
                        obtain ⟨g47, y48, hF⟩ := o_bind hF
                        refine g_iast (ws' := wM cB cI cJ cZ x_0 x_1 x_2 x_3 x_4 x_5 x_6 x_7 x_8 x_9 x_10 x_11 x_12 x_13 x_14 x_15 x_16 x_17 x_18 x_19 (MS_settb (MS_settt xq40 g43) g47)) C 8 1 rfl rfl y48 rfl (tdec DX8_receive 178 rfl) rfl ?_
                        refine g_aload_n (z := 0) C (tdec DX8_receive 179 rfl) rfl rfl rfl ?_
                        refine g_getf (C' := RX8) (T := TX8) (N := 27) (v := .ref x_13) C 0 13 (gIn iw_X8) rfl rfl (by decide) (gMem fl_X8_48) rfl rfl (tdec DX8_receive 180 rfl) rfl ?_
                        refine g_iload_n (z := 2) C (tdec DX8_receive 181 rfl) rfl rfl rfl ?_
                        refine g_iconst (v := 1) C (tdec DX8_receive 182 rfl) (by decide) rfl ?_
                        obtain ⟨g49, y50, hF⟩ := o_bind hF
                        refine g_zast (ws' := wM cB cI cJ cZ x_0 x_1 x_2 x_3 x_4 x_5 x_6 x_7 x_8 x_9 x_10 x_11 x_12 x_13 x_14 x_15 x_16 x_17 x_18 x_19 (MS_setbusy (MS_settb (MS_settt xq40 g43) g47) g49)) C 13 3 rfl rfl y50 rfl (tdec DX8_receive 183 rfl) rfl ?_
                        refine g_aload_n (z := 0) C (tdec DX8_receive 184 rfl) rfl rfl rfl ?_
                        refine g_getf (C' := RX8) (T := TX8) (N := 27) (v := .ref x_14) C 0 14 (gIn iw_X8) rfl rfl (by decide) (gMem fl_X8_51) rfl rfl (tdec DX8_receive 185 rfl) rfl ?_
                        refine g_iload_n (z := 2) C (tdec DX8_receive 186 rfl) rfl rfl rfl ?_
                        refine g_bipush (v := 25) C (tdec DX8_receive 187 rfl) (by decide) rfl ?_
                        obtain ⟨g51, y52, hF⟩ := o_bind hF
                        refine g_iast (ws' := wM cB cI cJ cZ x_0 x_1 x_2 x_3 x_4 x_5 x_6 x_7 x_8 x_9 x_10 x_11 x_12 x_13 x_14 x_15 x_16 x_17 x_18 x_19 (MS_setat (MS_setbusy (MS_settb (MS_settt xq40 g43) g47) g49) g51)) C 14 1 rfl rfl y52 rfl (tdec DX8_receive 188 rfl) rfl ?_
                        refine g_aload_n (z := 0) C (tdec DX8_receive 189 rfl) rfl rfl rfl ?_
                        refine g_getf (C' := RX8) (T := TX8) (N := 27) (v := .ref x_15) C 0 15 (gIn iw_X8) rfl rfl (by decide) (gMem fl_X8_54) rfl rfl (tdec DX8_receive 190 rfl) rfl ?_
                        refine g_iload_n (z := 2) C (tdec DX8_receive 191 rfl) rfl rfl rfl ?_
                        refine g_iconst (v := 0) C (tdec DX8_receive 192 rfl) (by decide) rfl ?_
                        obtain ⟨g53, y54, hF⟩ := o_bind hF
                        refine g_iast (ws' := wM cB cI cJ cZ x_0 x_1 x_2 x_3 x_4 x_5 x_6 x_7 x_8 x_9 x_10 x_11 x_12 x_13 x_14 x_15 x_16 x_17 x_18 x_19 (MS_setrec (MS_setat (MS_setbusy (MS_settb (MS_settt xq40 g43) g47) g49) g51) g53)) C 15 1 rfl rfl y54 rfl (tdec DX8_receive 193 rfl) rfl ?_
                        refine g_aload_n (z := 0) C (tdec DX8_receive 194 rfl) rfl rfl rfl ?_
                        refine g_getf (C' := RX8) (T := TX8) (N := 27) (v := .ref x_16) C 0 16 (gIn iw_X8) rfl rfl (by decide) (gMem fl_X8_57) rfl rfl (tdec DX8_receive 195 rfl) rfl ?_
                        refine g_iload_n (z := 2) C (tdec DX8_receive 196 rfl) rfl rfl rfl ?_
                        refine g_aload_n (z := 0) C (tdec DX8_receive 197 rfl) rfl rfl rfl ?_
                        refine g_bipush (v := 9) C (tdec DX8_receive 198 rfl) (by decide) rfl ?_
                        refine g_bipush (v := 8) C (tdec DX8_receive 199 rfl) (by decide) rfl ?_
                        obtain ⟨r55, y56, hF⟩ := o_bind hF
                        refine g_callVlRS (q0 := 0) (S := [wM cB cI cJ cZ x_0 x_1 x_2 x_3 x_4 x_5 x_6 x_7 x_8 x_9 x_10 x_11 x_12 x_13 x_14 x_15 x_16 x_17 x_18 x_19 (MS_setrec (MS_setat (MS_setbusy (MS_settb (MS_settt xq40 g43) g47) g49) g51) g53)]) (S0 := [wM cB cI cJ cZ x_0 x_1 x_2 x_3 x_4 x_5 x_6 x_7 x_8 x_9 x_10 x_11 x_12 x_13 x_14 x_15 x_16 x_17 x_18 x_19 (MS_setrec (MS_setat (MS_setbusy (MS_settb (MS_settt xq40 g43) g47) g49) g51) g53)]) C (c_X8_number l D cB cI cJ cZ x_0 x_1 x_2 x_3 x_4 x_5 x_6 x_7 x_8 x_9 x_10 x_11 x_12 x_13 x_14 x_15 x_16 x_17 x_18 x_19 y56) rfl rfl (gIV ml_X8_186 im_X8_number sl_X8_number in_X8 cd_X8_number) rfl eX8_number rfl ⟨rfl, rfl⟩ ⟨Nat.le_of_ble_eq_true rfl, Nat.le_of_ble_eq_true rfl⟩ rfl rfl rfl [0] rfl rfl rfl (Nat.le_of_ble_eq_true rfl) (tdec DX8_receive 200 rfl) rfl ?_
                        obtain ⟨g57, y58, hF⟩ := o_bind hF
                        refine g_last (ws' := wM cB cI cJ cZ x_0 x_1 x_2 x_3 x_4 x_5 x_6 x_7 x_8 x_9 x_10 x_11 x_12 x_13 x_14 x_15 x_16 x_17 x_18 x_19 (MS_settgt (MS_setrec (MS_setat (MS_setbusy (MS_settb (MS_settt xq40 g43) g47) g49) g51) g53) g57)) C 16 2 rfl rfl y58 rfl (tdec DX8_receive 201 rfl) rfl ?_
                        refine g_iconst (v := 0) C (tdec DX8_receive 202 rfl) (by decide) rfl ?_
                        have hr9 := o_some hF
                        subst hr9
                        exact g_iret C rfl rfl (tdec DX8_receive 203 rfl)
                  · have hF := o_ifn hF h21
                    refine g_aload_n (z := 4) C (tdec DX8_receive 81 rfl) rfl rfl rfl ?_
                    refine g_getf (C' := RX8) (T := TX8) (N := 27) (v := .ref x_7) C 0 7 (gIn iw_X8) rfl rfl (by decide) (gMem fl_X8_30) rfl rfl (tdec DX8_receive 82 rfl) rfl ?_
                    refine g_iload (z := 0) C (tdec DX8_receive 83 rfl) rfl rfl ?_
                    obtain ⟨r59, y60, hF⟩ := o_bind hF
                    refine g_iald C 7 1 rfl rfl y60 (tdec DX8_receive 84 rfl) rfl ?_
                    refine g_iconst (v := (-1)) C (tdec DX8_receive 85 rfl) (by decide) rfl ?_
                    refine g_icmp_ne (pt := 153) C (tdec DX8_receive 86 rfl) (by decide) rfl (fun h61 => ?_) (fun h61 => ?_)
                    · have hF := o_ifn hF h61
                      refine g_iconst (v := 0) C (tdec DX8_receive 89 rfl) (by decide) rfl ?_
                      refine g_goto (pt := 210) C (tdec DX8_receive 90 rfl) (by decide) ?_
                      refine g_istore (L' := [(7, .int 0), (6, .int ((22 * p1) + 0)), (5, .int (r17 - 1)), (3, .long r15), (2, .int p1), (0, .ref x_0), (1, .int p1)]) C (tdec DX8_receive 124 rfl) (by decide) rfl rfl ?_
                      refine g_iload (z := 0) C (tdec DX8_receive 125 rfl) rfl rfl ?_
                      refine g_if_ne (pt := 219) C (tdec DX8_receive 126 rfl) (by decide) rfl (fun h => absurd h (by decide)) (fun _ => ?_)
                      refine g_iconst (v := 3) C (tdec DX8_receive 127 rfl) (by decide) rfl ?_
                      have hr9 := o_some hF
                      subst hr9
                      exact g_iret C rfl rfl (tdec DX8_receive 128 rfl)
                    · have hF := o_ifp hF h61
                      refine g_iconst (v := 1) C (tdec DX8_receive 87 rfl) (by decide) rfl ?_
                      refine g_goto (pt := 210) C (tdec DX8_receive 88 rfl) (by decide) ?_
                      refine g_istore (L' := [(7, .int 1), (6, .int ((22 * p1) + 0)), (5, .int (r17 - 1)), (3, .long r15), (2, .int p1), (0, .ref x_0), (1, .int p1)]) C (tdec DX8_receive 124 rfl) (by decide) rfl rfl ?_
                      refine g_iload (z := 0) C (tdec DX8_receive 125 rfl) rfl rfl ?_
                      refine g_if_ne (pt := 219) C (tdec DX8_receive 126 rfl) (by decide) rfl (fun _ => ?_) (fun h => absurd h (by decide))
                      refine g_iconst (v := 0) C (tdec DX8_receive 129 rfl) (by decide) rfl ?_
                      refine g_istore (L' := [(8, .int 0), (7, .int 1), (6, .int ((22 * p1) + 0)), (5, .int (r17 - 1)), (3, .long r15), (2, .int p1), (0, .ref x_0), (1, .int p1)]) C (tdec DX8_receive 130 rfl) (by decide) rfl rfl ?_
                      refine g_sub (L' := [(0, .ref x_0), (1, .int p1), (2, .int p1), (3, .long r15), (5, .int (r17 - 1)), (6, .int ((22 * p1) + 0)), (7, .int 1), (8, .int 0)]) [6, 7, 5, 4, 3, 2, 1, 0] rfl ?_
                      refine c_FX8_receive_L222 C (fun xq62 w8_62 hF => ?_) 100000 _ _ hF
                      refine g_aload_n (z := 0) C (tdec DX8_receive 155 rfl) rfl rfl rfl ?_
                      refine g_getf (C' := RX8) (T := TX8) (N := 27) (v := .ref x_7) C 0 7 (gIn iw_X8) rfl rfl (by decide) (gMem fl_X8_30) rfl rfl (tdec DX8_receive 156 rfl) rfl ?_
                      refine g_bipush (v := 22) C (tdec DX8_receive 157 rfl) (by decide) rfl ?_
                      refine g_iload_n (z := 2) C (tdec DX8_receive 158 rfl) rfl rfl rfl ?_
                      refine g_imul C (tdec DX8_receive 159 rfl) rfl ?_
                      refine g_iconst (v := 1) C (tdec DX8_receive 160 rfl) (by decide) rfl ?_
                      refine g_iadd C (tdec DX8_receive 161 rfl) rfl ?_
                      refine g_aload_n (z := 0) C (tdec DX8_receive 162 rfl) rfl rfl rfl ?_
                      refine g_getf (C' := RX8) (T := TX8) (N := 27) (v := .ref x_7) C 0 7 (gIn iw_X8) rfl rfl (by decide) (gMem fl_X8_30) rfl rfl (tdec DX8_receive 163 rfl) rfl ?_
                      refine g_iload (z := 5) C (tdec DX8_receive 164 rfl) rfl rfl ?_
                      obtain ⟨r63, y64, hF⟩ := o_bind hF
                      refine g_iald C 7 1 rfl rfl y64 (tdec DX8_receive 165 rfl) rfl ?_
                      obtain ⟨g65, y66, hF⟩ := o_bind hF
                      refine g_iast (ws' := wM cB cI cJ cZ x_0 x_1 x_2 x_3 x_4 x_5 x_6 x_7 x_8 x_9 x_10 x_11 x_12 x_13 x_14 x_15 x_16 x_17 x_18 x_19 (MS_settt xq62 g65)) C 7 1 rfl rfl y66 rfl (tdec DX8_receive 166 rfl) rfl ?_
                      refine g_aload_n (z := 0) C (tdec DX8_receive 167 rfl) rfl rfl rfl ?_
                      refine g_getf (C' := RX8) (T := TX8) (N := 27) (v := .ref x_8) C 0 8 (gIn iw_X8) rfl rfl (by decide) (gMem fl_X8_33) rfl rfl (tdec DX8_receive 168 rfl) rfl ?_
                      refine g_bipush (v := 22) C (tdec DX8_receive 169 rfl) (by decide) rfl ?_
                      refine g_iload_n (z := 2) C (tdec DX8_receive 170 rfl) rfl rfl rfl ?_
                      refine g_imul C (tdec DX8_receive 171 rfl) rfl ?_
                      refine g_iconst (v := 1) C (tdec DX8_receive 172 rfl) (by decide) rfl ?_
                      refine g_iadd C (tdec DX8_receive 173 rfl) rfl ?_
                      refine g_aload_n (z := 0) C (tdec DX8_receive 174 rfl) rfl rfl rfl ?_
                      refine g_getf (C' := RX8) (T := TX8) (N := 27) (v := .ref x_8) C 0 8 (gIn iw_X8) rfl rfl (by decide) (gMem fl_X8_33) rfl rfl (tdec DX8_receive 175 rfl) rfl ?_
                      refine g_iload (z := 5) C (tdec DX8_receive 176 rfl) rfl rfl ?_
                      obtain ⟨r67, y68, hF⟩ := o_bind hF
                      refine g_iald C 8 1 rfl rfl y68 (tdec DX8_receive 177 rfl) rfl ?_
                      obtain ⟨g69, y70, hF⟩ := o_bind hF
                      refine g_iast (ws' := wM cB cI cJ cZ x_0 x_1 x_2 x_3 x_4 x_5 x_6 x_7 x_8 x_9 x_10 x_11 x_12 x_13 x_14 x_15 x_16 x_17 x_18 x_19 (MS_settb (MS_settt xq62 g65) g69)) C 8 1 rfl rfl y70 rfl (tdec DX8_receive 178 rfl) rfl ?_
                      refine g_aload_n (z := 0) C (tdec DX8_receive 179 rfl) rfl rfl rfl ?_
                      refine g_getf (C' := RX8) (T := TX8) (N := 27) (v := .ref x_13) C 0 13 (gIn iw_X8) rfl rfl (by decide) (gMem fl_X8_48) rfl rfl (tdec DX8_receive 180 rfl) rfl ?_
                      refine g_iload_n (z := 2) C (tdec DX8_receive 181 rfl) rfl rfl rfl ?_
                      refine g_iconst (v := 1) C (tdec DX8_receive 182 rfl) (by decide) rfl ?_
                      obtain ⟨g71, y72, hF⟩ := o_bind hF
                      refine g_zast (ws' := wM cB cI cJ cZ x_0 x_1 x_2 x_3 x_4 x_5 x_6 x_7 x_8 x_9 x_10 x_11 x_12 x_13 x_14 x_15 x_16 x_17 x_18 x_19 (MS_setbusy (MS_settb (MS_settt xq62 g65) g69) g71)) C 13 3 rfl rfl y72 rfl (tdec DX8_receive 183 rfl) rfl ?_
                      refine g_aload_n (z := 0) C (tdec DX8_receive 184 rfl) rfl rfl rfl ?_
                      refine g_getf (C' := RX8) (T := TX8) (N := 27) (v := .ref x_14) C 0 14 (gIn iw_X8) rfl rfl (by decide) (gMem fl_X8_51) rfl rfl (tdec DX8_receive 185 rfl) rfl ?_
                      refine g_iload_n (z := 2) C (tdec DX8_receive 186 rfl) rfl rfl rfl ?_
                      refine g_bipush (v := 25) C (tdec DX8_receive 187 rfl) (by decide) rfl ?_
                      obtain ⟨g73, y74, hF⟩ := o_bind hF
                      refine g_iast (ws' := wM cB cI cJ cZ x_0 x_1 x_2 x_3 x_4 x_5 x_6 x_7 x_8 x_9 x_10 x_11 x_12 x_13 x_14 x_15 x_16 x_17 x_18 x_19 (MS_setat (MS_setbusy (MS_settb (MS_settt xq62 g65) g69) g71) g73)) C 14 1 rfl rfl y74 rfl (tdec DX8_receive 188 rfl) rfl ?_
                      refine g_aload_n (z := 0) C (tdec DX8_receive 189 rfl) rfl rfl rfl ?_
                      refine g_getf (C' := RX8) (T := TX8) (N := 27) (v := .ref x_15) C 0 15 (gIn iw_X8) rfl rfl (by decide) (gMem fl_X8_54) rfl rfl (tdec DX8_receive 190 rfl) rfl ?_
                      refine g_iload_n (z := 2) C (tdec DX8_receive 191 rfl) rfl rfl rfl ?_
                      refine g_iconst (v := 0) C (tdec DX8_receive 192 rfl) (by decide) rfl ?_
                      obtain ⟨g75, y76, hF⟩ := o_bind hF
                      refine g_iast (ws' := wM cB cI cJ cZ x_0 x_1 x_2 x_3 x_4 x_5 x_6 x_7 x_8 x_9 x_10 x_11 x_12 x_13 x_14 x_15 x_16 x_17 x_18 x_19 (MS_setrec (MS_setat (MS_setbusy (MS_settb (MS_settt xq62 g65) g69) g71) g73) g75)) C 15 1 rfl rfl y76 rfl (tdec DX8_receive 193 rfl) rfl ?_
                      refine g_aload_n (z := 0) C (tdec DX8_receive 194 rfl) rfl rfl rfl ?_
                      refine g_getf (C' := RX8) (T := TX8) (N := 27) (v := .ref x_16) C 0 16 (gIn iw_X8) rfl rfl (by decide) (gMem fl_X8_57) rfl rfl (tdec DX8_receive 195 rfl) rfl ?_
                      refine g_iload_n (z := 2) C (tdec DX8_receive 196 rfl) rfl rfl rfl ?_
                      refine g_aload_n (z := 0) C (tdec DX8_receive 197 rfl) rfl rfl rfl ?_
                      refine g_bipush (v := 9) C (tdec DX8_receive 198 rfl) (by decide) rfl ?_
                      refine g_bipush (v := 8) C (tdec DX8_receive 199 rfl) (by decide) rfl ?_
                      obtain ⟨r77, y78, hF⟩ := o_bind hF
                      refine g_callVlRS (q0 := 0) (S := [wM cB cI cJ cZ x_0 x_1 x_2 x_3 x_4 x_5 x_6 x_7 x_8 x_9 x_10 x_11 x_12 x_13 x_14 x_15 x_16 x_17 x_18 x_19 (MS_setrec (MS_setat (MS_setbusy (MS_settb (MS_settt xq62 g65) g69) g71) g73) g75)]) (S0 := [wM cB cI cJ cZ x_0 x_1 x_2 x_3 x_4 x_5 x_6 x_7 x_8 x_9 x_10 x_11 x_12 x_13 x_14 x_15 x_16 x_17 x_18 x_19 (MS_setrec (MS_setat (MS_setbusy (MS_settb (MS_settt xq62 g65) g69) g71) g73) g75)]) C (c_X8_number l D cB cI cJ cZ x_0 x_1 x_2 x_3 x_4 x_5 x_6 x_7 x_8 x_9 x_10 x_11 x_12 x_13 x_14 x_15 x_16 x_17 x_18 x_19 y78) rfl rfl (gIV ml_X8_186 im_X8_number sl_X8_number in_X8 cd_X8_number) rfl eX8_number rfl ⟨rfl, rfl⟩ ⟨Nat.le_of_ble_eq_true rfl, Nat.le_of_ble_eq_true rfl⟩ rfl rfl rfl [0] rfl rfl rfl (Nat.le_of_ble_eq_true rfl) (tdec DX8_receive 200 rfl) rfl ?_
                      obtain ⟨g79, y80, hF⟩ := o_bind hF
                      refine g_last (ws' := wM cB cI cJ cZ x_0 x_1 x_2 x_3 x_4 x_5 x_6 x_7 x_8 x_9 x_10 x_11 x_12 x_13 x_14 x_15 x_16 x_17 x_18 x_19 (MS_settgt (MS_setrec (MS_setat (MS_setbusy (MS_settb (MS_settt xq62 g65) g69) g71) g73) g75) g79)) C 16 2 rfl rfl y80 rfl (tdec DX8_receive 201 rfl) rfl ?_
                      refine g_iconst (v := 0) C (tdec DX8_receive 202 rfl) (by decide) rfl ?_
                      have hr9 := o_some hF
                      subst hr9
                      exact g_iret C rfl rfl (tdec DX8_receive 203 rfl)
                · have hF := o_ifn hF h20
                  refine g_iconst (v := 2) C (tdec DX8_receive 71 rfl) (by decide) rfl ?_
                  have hr9 := o_some hF
                  subst hr9
                  exact g_iret C rfl rfl (tdec DX8_receive 72 rfl)
              · have hF := o_ifn hF h19
                refine g_iload (z := 0) C (tdec DX8_receive 55 rfl) rfl rfl ?_
                refine g_if_lt (pt := 123) C (tdec DX8_receive 56 rfl) (by decide) rfl (fun h81 => ?_) (fun h81 => ?_)
                · have hF := o_ifp hF h81
                  refine g_iconst (v := 2) C (tdec DX8_receive 71 rfl) (by decide) rfl ?_
                  have hr9 := o_some hF
                  subst hr9
                  exact g_iret C rfl rfl (tdec DX8_receive 72 rfl)
                · have hF := o_ifn hF h81
                  refine g_aload_n (z := 3) C (tdec DX8_receive 57 rfl) rfl rfl rfl ?_
                  refine g_getf (C' := RX8) (T := TX8) (N := 27) (v := .ref x_12) C 0 12 (gIn iw_X8) rfl rfl (by decide) (gMem fl_X8_45) rfl rfl (tdec DX8_receive 58 rfl) rfl ?_
                  refine g_bipush (v := 20) C (tdec DX8_receive 59 rfl) (by decide) rfl ?_
                  refine g_iload_n (z := 2) C (tdec DX8_receive 60 rfl) rfl rfl rfl ?_
                  refine g_imul C (tdec DX8_receive 61 rfl) rfl ?_
                  refine g_iload (z := 0) C (tdec DX8_receive 62 rfl) rfl rfl ?_
                  refine g_iadd C (tdec DX8_receive 63 rfl) rfl ?_
                  obtain ⟨r82, y83, hF⟩ := o_bind hF
                  refine g_lald C 12 2 rfl rfl y83 (tdec DX8_receive 64 rfl) rfl ?_
                  refine g_lload_n (z := 1) C (tdec DX8_receive 65 rfl) rfl rfl rfl ?_
                  refine g_lcmp C (tdec DX8_receive 66 rfl) rfl ?_
                  refine g_if_eq (pt := 125) C (tdec DX8_receive 67 rfl) (by decide) rfl (fun h84 => ?_) (fun h84 => ?_)
                  · have hF := o_ifp hF h84
                    refine g_bipush (v := 22) C (tdec DX8_receive 73 rfl) (by decide) rfl ?_
                    refine g_iload_n (z := 2) C (tdec DX8_receive 74 rfl) rfl rfl rfl ?_
                    refine g_imul C (tdec DX8_receive 75 rfl) rfl ?_
                    refine g_iconst (v := 0) C (tdec DX8_receive 76 rfl) (by decide) rfl ?_
                    refine g_iadd C (tdec DX8_receive 77 rfl) rfl ?_
                    refine g_istore (L' := [(6, .int ((22 * p1) + 0)), (5, .int (r17 - 1)), (3, .long r15), (2, .int p1), (0, .ref x_0), (1, .int p1)]) C (tdec DX8_receive 78 rfl) (by decide) rfl rfl ?_
                    refine g_iload (z := 1) C (tdec DX8_receive 79 rfl) rfl rfl ?_
                    refine g_if_ge (pt := 157) C (tdec DX8_receive 80 rfl) (by decide) rfl (fun h85 => ?_) (fun h85 => ?_)
                    · have hF := o_ifp hF h85
                      refine g_aload_n (z := 4) C (tdec DX8_receive 91 rfl) rfl rfl rfl ?_
                      refine g_getf (C' := RX8) (T := TX8) (N := 27) (v := .ref x_7) C 0 7 (gIn iw_X8) rfl rfl (by decide) (gMem fl_X8_30) rfl rfl (tdec DX8_receive 92 rfl) rfl ?_
                      refine g_iload (z := 0) C (tdec DX8_receive 93 rfl) rfl rfl ?_
                      obtain ⟨r86, y87, hF⟩ := o_bind hF
                      refine g_iald C 7 1 rfl rfl y87 (tdec DX8_receive 94 rfl) rfl ?_
                      refine g_aload_n (z := 4) C (tdec DX8_receive 95 rfl) rfl rfl rfl ?_
                      refine g_getf (C' := RX8) (T := TX8) (N := 27) (v := .ref x_7) C 0 7 (gIn iw_X8) rfl rfl (by decide) (gMem fl_X8_30) rfl rfl (tdec DX8_receive 96 rfl) rfl ?_
                      refine g_bipush (v := 22) C (tdec DX8_receive 97 rfl) (by decide) rfl ?_
                      refine g_iload_n (z := 3) C (tdec DX8_receive 98 rfl) rfl rfl rfl ?_
                      refine g_imul C (tdec DX8_receive 99 rfl) rfl ?_
                      refine g_iconst (v := 2) C (tdec DX8_receive 100 rfl) (by decide) rfl ?_
                      refine g_iadd C (tdec DX8_receive 101 rfl) rfl ?_
                      refine g_iload (z := 1) C (tdec DX8_receive 102 rfl) rfl rfl ?_
                      refine g_iadd C (tdec DX8_receive 103 rfl) rfl ?_
                      obtain ⟨r88, y89, hF⟩ := o_bind hF
                      refine g_iald C 7 1 rfl rfl y89 (tdec DX8_receive 104 rfl) rfl ?_
                      refine g_icmp_ne (pt := 209) C (tdec DX8_receive 105 rfl) (by decide) rfl (fun h90 => ?_) (fun h90 => ?_)
                      · have hF := o_ifn hF h90
                        refine g_iconst (v := 0) C (tdec DX8_receive 123 rfl) (by decide) rfl ?_
                        refine g_istore (L' := [(7, .int 0), (6, .int ((22 * p1) + 0)), (5, .int (r17 - 1)), (3, .long r15), (2, .int p1), (0, .ref x_0), (1, .int p1)]) C (tdec DX8_receive 124 rfl) (by decide) rfl rfl ?_
                        refine g_iload (z := 0) C (tdec DX8_receive 125 rfl) rfl rfl ?_
                        refine g_if_ne (pt := 219) C (tdec DX8_receive 126 rfl) (by decide) rfl (fun h => absurd h (by decide)) (fun _ => ?_)
                        refine g_iconst (v := 3) C (tdec DX8_receive 127 rfl) (by decide) rfl ?_
                        have hr9 := o_some hF
                        subst hr9
                        exact g_iret C rfl rfl (tdec DX8_receive 128 rfl)
                      · have hF := o_ifp hF h90
                        refine g_aload_n (z := 4) C (tdec DX8_receive 106 rfl) rfl rfl rfl ?_
                        refine g_getf (C' := RX8) (T := TX8) (N := 27) (v := .ref x_8) C 0 8 (gIn iw_X8) rfl rfl (by decide) (gMem fl_X8_33) rfl rfl (tdec DX8_receive 107 rfl) rfl ?_
                        refine g_iload (z := 0) C (tdec DX8_receive 108 rfl) rfl rfl ?_
                        obtain ⟨r91, y92, hF⟩ := o_bind hF
                        refine g_iald C 8 1 rfl rfl y92 (tdec DX8_receive 109 rfl) rfl ?_
                        refine g_aload_n (z := 4) C (tdec DX8_receive 110 rfl) rfl rfl rfl ?_
                        refine g_getf (C' := RX8) (T := TX8) (N := 27) (v := .ref x_8) C 0 8 (gIn iw_X8) rfl rfl (by decide) (gMem fl_X8_33) rfl rfl (tdec DX8_receive 111 rfl) rfl ?_
                        refine g_bipush (v := 22) C (tdec DX8_receive 112 rfl) (by decide) rfl ?_
                        refine g_iload_n (z := 3) C (tdec DX8_receive 113 rfl) rfl rfl rfl ?_
                        refine g_imul C (tdec DX8_receive 114 rfl) rfl ?_
                        refine g_iconst (v := 2) C (tdec DX8_receive 115 rfl) (by decide) rfl ?_
                        refine g_iadd C (tdec DX8_receive 116 rfl) rfl ?_
                        refine g_iload (z := 1) C (tdec DX8_receive 117 rfl) rfl rfl ?_
                        refine g_iadd C (tdec DX8_receive 118 rfl) rfl ?_
                        obtain ⟨r93, y94, hF⟩ := o_bind hF
                        refine g_iald C 8 1 rfl rfl y94 (tdec DX8_receive 119 rfl) rfl ?_
                        refine g_icmp_ne (pt := 209) C (tdec DX8_receive 120 rfl) (by decide) rfl (fun h95 => ?_) (fun h95 => ?_)
                        · have hF := o_ifn hF h95
                          refine g_iconst (v := 0) C (tdec DX8_receive 123 rfl) (by decide) rfl ?_
                          refine g_istore (L' := [(7, .int 0), (6, .int ((22 * p1) + 0)), (5, .int (r17 - 1)), (3, .long r15), (2, .int p1), (0, .ref x_0), (1, .int p1)]) C (tdec DX8_receive 124 rfl) (by decide) rfl rfl ?_
                          refine g_iload (z := 0) C (tdec DX8_receive 125 rfl) rfl rfl ?_
                          refine g_if_ne (pt := 219) C (tdec DX8_receive 126 rfl) (by decide) rfl (fun h => absurd h (by decide)) (fun _ => ?_)
                          refine g_iconst (v := 3) C (tdec DX8_receive 127 rfl) (by decide) rfl ?_
                          have hr9 := o_some hF
                          subst hr9
                          exact g_iret C rfl rfl (tdec DX8_receive 128 rfl)
                        · have hF := o_ifp hF h95
                          refine g_iconst (v := 1) C (tdec DX8_receive 121 rfl) (by decide) rfl ?_
                          refine g_goto (pt := 210) C (tdec DX8_receive 122 rfl) (by decide) ?_
                          refine g_istore (L' := [(7, .int 1), (6, .int ((22 * p1) + 0)), (5, .int (r17 - 1)), (3, .long r15), (2, .int p1), (0, .ref x_0), (1, .int p1)]) C (tdec DX8_receive 124 rfl) (by decide) rfl rfl ?_
                          refine g_iload (z := 0) C (tdec DX8_receive 125 rfl) rfl rfl ?_
                          refine g_if_ne (pt := 219) C (tdec DX8_receive 126 rfl) (by decide) rfl (fun _ => ?_) (fun h => absurd h (by decide))
                          refine g_iconst (v := 0) C (tdec DX8_receive 129 rfl) (by decide) rfl ?_
                          refine g_istore (L' := [(8, .int 0), (7, .int 1), (6, .int ((22 * p1) + 0)), (5, .int (r17 - 1)), (3, .long r15), (2, .int p1), (0, .ref x_0), (1, .int p1)]) C (tdec DX8_receive 130 rfl) (by decide) rfl rfl ?_
                          refine g_sub (L' := [(0, .ref x_0), (1, .int p1), (2, .int p1), (3, .long r15), (5, .int (r17 - 1)), (6, .int ((22 * p1) + 0)), (7, .int 1), (8, .int 0)]) [6, 7, 5, 4, 3, 2, 1, 0] rfl ?_
                          refine c_FX8_receive_L222 C (fun xq96 w8_96 hF => ?_) 100000 _ _ hF
                          refine g_aload_n (z := 0) C (tdec DX8_receive 155 rfl) rfl rfl rfl ?_
                          refine g_getf (C' := RX8) (T := TX8) (N := 27) (v := .ref x_7) C 0 7 (gIn iw_X8) rfl rfl (by decide) (gMem fl_X8_30) rfl rfl (tdec DX8_receive 156 rfl) rfl ?_
                          refine g_bipush (v := 22) C (tdec DX8_receive 157 rfl) (by decide) rfl ?_
                          refine g_iload_n (z := 2) C (tdec DX8_receive 158 rfl) rfl rfl rfl ?_
                          refine g_imul C (tdec DX8_receive 159 rfl) rfl ?_
                          refine g_iconst (v := 1) C (tdec DX8_receive 160 rfl) (by decide) rfl ?_
                          refine g_iadd C (tdec DX8_receive 161 rfl) rfl ?_
                          refine g_aload_n (z := 0) C (tdec DX8_receive 162 rfl) rfl rfl rfl ?_
                          refine g_getf (C' := RX8) (T := TX8) (N := 27) (v := .ref x_7) C 0 7 (gIn iw_X8) rfl rfl (by decide) (gMem fl_X8_30) rfl rfl (tdec DX8_receive 163 rfl) rfl ?_
                          refine g_iload (z := 5) C (tdec DX8_receive 164 rfl) rfl rfl ?_
                          obtain ⟨r97, y98, hF⟩ := o_bind hF
                          refine g_iald C 7 1 rfl rfl y98 (tdec DX8_receive 165 rfl) rfl ?_
                          obtain ⟨g99, y100, hF⟩ := o_bind hF
                          refine g_iast (ws' := wM cB cI cJ cZ x_0 x_1 x_2 x_3 x_4 x_5 x_6 x_7 x_8 x_9 x_10 x_11 x_12 x_13 x_14 x_15 x_16 x_17 x_18 x_19 (MS_settt xq96 g99)) C 7 1 rfl rfl y100 rfl (tdec DX8_receive 166 rfl) rfl ?_
                          refine g_aload_n (z := 0) C (tdec DX8_receive 167 rfl) rfl rfl rfl ?_
                          refine g_getf (C' := RX8) (T := TX8) (N := 27) (v := .ref x_8) C 0 8 (gIn iw_X8) rfl rfl (by decide) (gMem fl_X8_33) rfl rfl (tdec DX8_receive 168 rfl) rfl ?_
                          refine g_bipush (v := 22) C (tdec DX8_receive 169 rfl) (by decide) rfl ?_
                          refine g_iload_n (z := 2) C (tdec DX8_receive 170 rfl) rfl rfl rfl ?_
                          refine g_imul C (tdec DX8_receive 171 rfl) rfl ?_
                          refine g_iconst (v := 1) C (tdec DX8_receive 172 rfl) (by decide) rfl ?_
                          refine g_iadd C (tdec DX8_receive 173 rfl) rfl ?_
                          refine g_aload_n (z := 0) C (tdec DX8_receive 174 rfl) rfl rfl rfl ?_
                          refine g_getf (C' := RX8) (T := TX8) (N := 27) (v := .ref x_8) C 0 8 (gIn iw_X8) rfl rfl (by decide) (gMem fl_X8_33) rfl rfl (tdec DX8_receive 175 rfl) rfl ?_
                          refine g_iload (z := 5) C (tdec DX8_receive 176 rfl) rfl rfl ?_
                          obtain ⟨r101, y102, hF⟩ := o_bind hF
                          refine g_iald C 8 1 rfl rfl y102 (tdec DX8_receive 177 rfl) rfl ?_
                          obtain ⟨g103, y104, hF⟩ := o_bind hF
                          refine g_iast (ws' := wM cB cI cJ cZ x_0 x_1 x_2 x_3 x_4 x_5 x_6 x_7 x_8 x_9 x_10 x_11 x_12 x_13 x_14 x_15 x_16 x_17 x_18 x_19 (MS_settb (MS_settt xq96 g99) g103)) C 8 1 rfl rfl y104 rfl (tdec DX8_receive 178 rfl) rfl ?_
                          refine g_aload_n (z := 0) C (tdec DX8_receive 179 rfl) rfl rfl rfl ?_
                          refine g_getf (C' := RX8) (T := TX8) (N := 27) (v := .ref x_13) C 0 13 (gIn iw_X8) rfl rfl (by decide) (gMem fl_X8_48) rfl rfl (tdec DX8_receive 180 rfl) rfl ?_
                          refine g_iload_n (z := 2) C (tdec DX8_receive 181 rfl) rfl rfl rfl ?_
                          refine g_iconst (v := 1) C (tdec DX8_receive 182 rfl) (by decide) rfl ?_
                          obtain ⟨g105, y106, hF⟩ := o_bind hF
                          refine g_zast (ws' := wM cB cI cJ cZ x_0 x_1 x_2 x_3 x_4 x_5 x_6 x_7 x_8 x_9 x_10 x_11 x_12 x_13 x_14 x_15 x_16 x_17 x_18 x_19 (MS_setbusy (MS_settb (MS_settt xq96 g99) g103) g105)) C 13 3 rfl rfl y106 rfl (tdec DX8_receive 183 rfl) rfl ?_
                          refine g_aload_n (z := 0) C (tdec DX8_receive 184 rfl) rfl rfl rfl ?_
                          refine g_getf (C' := RX8) (T := TX8) (N := 27) (v := .ref x_14) C 0 14 (gIn iw_X8) rfl rfl (by decide) (gMem fl_X8_51) rfl rfl (tdec DX8_receive 185 rfl) rfl ?_
                          refine g_iload_n (z := 2) C (tdec DX8_receive 186 rfl) rfl rfl rfl ?_
                          refine g_bipush (v := 25) C (tdec DX8_receive 187 rfl) (by decide) rfl ?_
                          obtain ⟨g107, y108, hF⟩ := o_bind hF
                          refine g_iast (ws' := wM cB cI cJ cZ x_0 x_1 x_2 x_3 x_4 x_5 x_6 x_7 x_8 x_9 x_10 x_11 x_12 x_13 x_14 x_15 x_16 x_17 x_18 x_19 (MS_setat (MS_setbusy (MS_settb (MS_settt xq96 g99) g103) g105) g107)) C 14 1 rfl rfl y108 rfl (tdec DX8_receive 188 rfl) rfl ?_
                          refine g_aload_n (z := 0) C (tdec DX8_receive 189 rfl) rfl rfl rfl ?_
                          refine g_getf (C' := RX8) (T := TX8) (N := 27) (v := .ref x_15) C 0 15 (gIn iw_X8) rfl rfl (by decide) (gMem fl_X8_54) rfl rfl (tdec DX8_receive 190 rfl) rfl ?_
                          refine g_iload_n (z := 2) C (tdec DX8_receive 191 rfl) rfl rfl rfl ?_
                          refine g_iconst (v := 0) C (tdec DX8_receive 192 rfl) (by decide) rfl ?_
                          obtain ⟨g109, y110, hF⟩ := o_bind hF
                          refine g_iast (ws' := wM cB cI cJ cZ x_0 x_1 x_2 x_3 x_4 x_5 x_6 x_7 x_8 x_9 x_10 x_11 x_12 x_13 x_14 x_15 x_16 x_17 x_18 x_19 (MS_setrec (MS_setat (MS_setbusy (MS_settb (MS_settt xq96 g99) g103) g105) g107) g109)) C 15 1 rfl rfl y110 rfl (tdec DX8_receive 193 rfl) rfl ?_
                          refine g_aload_n (z := 0) C (tdec DX8_receive 194 rfl) rfl rfl rfl ?_
                          refine g_getf (C' := RX8) (T := TX8) (N := 27) (v := .ref x_16) C 0 16 (gIn iw_X8) rfl rfl (by decide) (gMem fl_X8_57) rfl rfl (tdec DX8_receive 195 rfl) rfl ?_
                          refine g_iload_n (z := 2) C (tdec DX8_receive 196 rfl) rfl rfl rfl ?_
                          refine g_aload_n (z := 0) C (tdec DX8_receive 197 rfl) rfl rfl rfl ?_
                          refine g_bipush (v := 9) C (tdec DX8_receive 198 rfl) (by decide) rfl ?_
                          refine g_bipush (v := 8) C (tdec DX8_receive 199 rfl) (by decide) rfl ?_
                          obtain ⟨r111, y112, hF⟩ := o_bind hF
                          refine g_callVlRS (q0 := 0) (S := [wM cB cI cJ cZ x_0 x_1 x_2 x_3 x_4 x_5 x_6 x_7 x_8 x_9 x_10 x_11 x_12 x_13 x_14 x_15 x_16 x_17 x_18 x_19 (MS_setrec (MS_setat (MS_setbusy (MS_settb (MS_settt xq96 g99) g103) g105) g107) g109)]) (S0 := [wM cB cI cJ cZ x_0 x_1 x_2 x_3 x_4 x_5 x_6 x_7 x_8 x_9 x_10 x_11 x_12 x_13 x_14 x_15 x_16 x_17 x_18 x_19 (MS_setrec (MS_setat (MS_setbusy (MS_settb (MS_settt xq96 g99) g103) g105) g107) g109)]) C (c_X8_number l D cB cI cJ cZ x_0 x_1 x_2 x_3 x_4 x_5 x_6 x_7 x_8 x_9 x_10 x_11 x_12 x_13 x_14 x_15 x_16 x_17 x_18 x_19 y112) rfl rfl (gIV ml_X8_186 im_X8_number sl_X8_number in_X8 cd_X8_number) rfl eX8_number rfl ⟨rfl, rfl⟩ ⟨Nat.le_of_ble_eq_true rfl, Nat.le_of_ble_eq_true rfl⟩ rfl rfl rfl [0] rfl rfl rfl (Nat.le_of_ble_eq_true rfl) (tdec DX8_receive 200 rfl) rfl ?_
                          obtain ⟨g113, y114, hF⟩ := o_bind hF
                          refine g_last (ws' := wM cB cI cJ cZ x_0 x_1 x_2 x_3 x_4 x_5 x_6 x_7 x_8 x_9 x_10 x_11 x_12 x_13 x_14 x_15 x_16 x_17 x_18 x_19 (MS_settgt (MS_setrec (MS_setat (MS_setbusy (MS_settb (MS_settt xq96 g99) g103) g105) g107) g109) g113)) C 16 2 rfl rfl y114 rfl (tdec DX8_receive 201 rfl) rfl ?_
                          refine g_iconst (v := 0) C (tdec DX8_receive 202 rfl) (by decide) rfl ?_
                          have hr9 := o_some hF
                          subst hr9
                          exact g_iret C rfl rfl (tdec DX8_receive 203 rfl)
                    · have hF := o_ifn hF h85
                      refine g_aload_n (z := 4) C (tdec DX8_receive 81 rfl) rfl rfl rfl ?_
                      refine g_getf (C' := RX8) (T := TX8) (N := 27) (v := .ref x_7) C 0 7 (gIn iw_X8) rfl rfl (by decide) (gMem fl_X8_30) rfl rfl (tdec DX8_receive 82 rfl) rfl ?_
                      refine g_iload (z := 0) C (tdec DX8_receive 83 rfl) rfl rfl ?_
                      obtain ⟨r115, y116, hF⟩ := o_bind hF
                      refine g_iald C 7 1 rfl rfl y116 (tdec DX8_receive 84 rfl) rfl ?_
                      refine g_iconst (v := (-1)) C (tdec DX8_receive 85 rfl) (by decide) rfl ?_
                      refine g_icmp_ne (pt := 153) C (tdec DX8_receive 86 rfl) (by decide) rfl (fun h117 => ?_) (fun h117 => ?_)
                      · have hF := o_ifn hF h117
                        refine g_iconst (v := 0) C (tdec DX8_receive 89 rfl) (by decide) rfl ?_
                        refine g_goto (pt := 210) C (tdec DX8_receive 90 rfl) (by decide) ?_
                        refine g_istore (L' := [(7, .int 0), (6, .int ((22 * p1) + 0)), (5, .int (r17 - 1)), (3, .long r15), (2, .int p1), (0, .ref x_0), (1, .int p1)]) C (tdec DX8_receive 124 rfl) (by decide) rfl rfl ?_
                        refine g_iload (z := 0) C (tdec DX8_receive 125 rfl) rfl rfl ?_
                        refine g_if_ne (pt := 219) C (tdec DX8_receive 126 rfl) (by decide) rfl (fun h => absurd h (by decide)) (fun _ => ?_)
                        refine g_iconst (v := 3) C (tdec DX8_receive 127 rfl) (by decide) rfl ?_
                        have hr9 := o_some hF
                        subst hr9
                        exact g_iret C rfl rfl (tdec DX8_receive 128 rfl)
                      · have hF := o_ifp hF h117
                        refine g_iconst (v := 1) C (tdec DX8_receive 87 rfl) (by decide) rfl ?_
                        refine g_goto (pt := 210) C (tdec DX8_receive 88 rfl) (by decide) ?_
                        refine g_istore (L' := [(7, .int 1), (6, .int ((22 * p1) + 0)), (5, .int (r17 - 1)), (3, .long r15), (2, .int p1), (0, .ref x_0), (1, .int p1)]) C (tdec DX8_receive 124 rfl) (by decide) rfl rfl ?_
                        refine g_iload (z := 0) C (tdec DX8_receive 125 rfl) rfl rfl ?_
                        refine g_if_ne (pt := 219) C (tdec DX8_receive 126 rfl) (by decide) rfl (fun _ => ?_) (fun h => absurd h (by decide))
                        refine g_iconst (v := 0) C (tdec DX8_receive 129 rfl) (by decide) rfl ?_
                        refine g_istore (L' := [(8, .int 0), (7, .int 1), (6, .int ((22 * p1) + 0)), (5, .int (r17 - 1)), (3, .long r15), (2, .int p1), (0, .ref x_0), (1, .int p1)]) C (tdec DX8_receive 130 rfl) (by decide) rfl rfl ?_
                        refine g_sub (L' := [(0, .ref x_0), (1, .int p1), (2, .int p1), (3, .long r15), (5, .int (r17 - 1)), (6, .int ((22 * p1) + 0)), (7, .int 1), (8, .int 0)]) [6, 7, 5, 4, 3, 2, 1, 0] rfl ?_
                        refine c_FX8_receive_L222 C (fun xq118 w8_118 hF => ?_) 100000 _ _ hF
                        refine g_aload_n (z := 0) C (tdec DX8_receive 155 rfl) rfl rfl rfl ?_
                        refine g_getf (C' := RX8) (T := TX8) (N := 27) (v := .ref x_7) C 0 7 (gIn iw_X8) rfl rfl (by decide) (gMem fl_X8_30) rfl rfl (tdec DX8_receive 156 rfl) rfl ?_
                        refine g_bipush (v := 22) C (tdec DX8_receive 157 rfl) (by decide) rfl ?_
                        refine g_iload_n (z := 2) C (tdec DX8_receive 158 rfl) rfl rfl rfl ?_
                        refine g_imul C (tdec DX8_receive 159 rfl) rfl ?_
                        refine g_iconst (v := 1) C (tdec DX8_receive 160 rfl) (by decide) rfl ?_
                        refine g_iadd C (tdec DX8_receive 161 rfl) rfl ?_
                        refine g_aload_n (z := 0) C (tdec DX8_receive 162 rfl) rfl rfl rfl ?_
                        refine g_getf (C' := RX8) (T := TX8) (N := 27) (v := .ref x_7) C 0 7 (gIn iw_X8) rfl rfl (by decide) (gMem fl_X8_30) rfl rfl (tdec DX8_receive 163 rfl) rfl ?_
                        refine g_iload (z := 5) C (tdec DX8_receive 164 rfl) rfl rfl ?_
                        obtain ⟨r119, y120, hF⟩ := o_bind hF
                        refine g_iald C 7 1 rfl rfl y120 (tdec DX8_receive 165 rfl) rfl ?_
                        obtain ⟨g121, y122, hF⟩ := o_bind hF
                        refine g_iast (ws' := wM cB cI cJ cZ x_0 x_1 x_2 x_3 x_4 x_5 x_6 x_7 x_8 x_9 x_10 x_11 x_12 x_13 x_14 x_15 x_16 x_17 x_18 x_19 (MS_settt xq118 g121)) C 7 1 rfl rfl y122 rfl (tdec DX8_receive 166 rfl) rfl ?_
                        refine g_aload_n (z := 0) C (tdec DX8_receive 167 rfl) rfl rfl rfl ?_
                        refine g_getf (C' := RX8) (T := TX8) (N := 27) (v := .ref x_8) C 0 8 (gIn iw_X8) rfl rfl (by decide) (gMem fl_X8_33) rfl rfl (tdec DX8_receive 168 rfl) rfl ?_
                        refine g_bipush (v := 22) C (tdec DX8_receive 169 rfl) (by decide) rfl ?_
                        refine g_iload_n (z := 2) C (tdec DX8_receive 170 rfl) rfl rfl rfl ?_
                        refine g_imul C (tdec DX8_receive 171 rfl) rfl ?_
                        refine g_iconst (v := 1) C (tdec DX8_receive 172 rfl) (by decide) rfl ?_
                        refine g_iadd C (tdec DX8_receive 173 rfl) rfl ?_
                        refine g_aload_n (z := 0) C (tdec DX8_receive 174 rfl) rfl rfl rfl ?_
                        refine g_getf (C' := RX8) (T := TX8) (N := 27) (v := .ref x_8) C 0 8 (gIn iw_X8) rfl rfl (by decide) (gMem fl_X8_33) rfl rfl (tdec DX8_receive 175 rfl) rfl ?_
                        refine g_iload (z := 5) C (tdec DX8_receive 176 rfl) rfl rfl ?_
                        obtain ⟨r123, y124, hF⟩ := o_bind hF
                        refine g_iald C 8 1 rfl rfl y124 (tdec DX8_receive 177 rfl) rfl ?_
                        obtain ⟨g125, y126, hF⟩ := o_bind hF
                        refine g_iast (ws' := wM cB cI cJ cZ x_0 x_1 x_2 x_3 x_4 x_5 x_6 x_7 x_8 x_9 x_10 x_11 x_12 x_13 x_14 x_15 x_16 x_17 x_18 x_19 (MS_settb (MS_settt xq118 g121) g125)) C 8 1 rfl rfl y126 rfl (tdec DX8_receive 178 rfl) rfl ?_
                        refine g_aload_n (z := 0) C (tdec DX8_receive 179 rfl) rfl rfl rfl ?_
                        refine g_getf (C' := RX8) (T := TX8) (N := 27) (v := .ref x_13) C 0 13 (gIn iw_X8) rfl rfl (by decide) (gMem fl_X8_48) rfl rfl (tdec DX8_receive 180 rfl) rfl ?_
                        refine g_iload_n (z := 2) C (tdec DX8_receive 181 rfl) rfl rfl rfl ?_
                        refine g_iconst (v := 1) C (tdec DX8_receive 182 rfl) (by decide) rfl ?_
                        obtain ⟨g127, y128, hF⟩ := o_bind hF
                        refine g_zast (ws' := wM cB cI cJ cZ x_0 x_1 x_2 x_3 x_4 x_5 x_6 x_7 x_8 x_9 x_10 x_11 x_12 x_13 x_14 x_15 x_16 x_17 x_18 x_19 (MS_setbusy (MS_settb (MS_settt xq118 g121) g125) g127)) C 13 3 rfl rfl y128 rfl (tdec DX8_receive 183 rfl) rfl ?_
                        refine g_aload_n (z := 0) C (tdec DX8_receive 184 rfl) rfl rfl rfl ?_
                        refine g_getf (C' := RX8) (T := TX8) (N := 27) (v := .ref x_14) C 0 14 (gIn iw_X8) rfl rfl (by decide) (gMem fl_X8_51) rfl rfl (tdec DX8_receive 185 rfl) rfl ?_
                        refine g_iload_n (z := 2) C (tdec DX8_receive 186 rfl) rfl rfl rfl ?_
                        refine g_bipush (v := 25) C (tdec DX8_receive 187 rfl) (by decide) rfl ?_
                        obtain ⟨g129, y130, hF⟩ := o_bind hF
                        refine g_iast (ws' := wM cB cI cJ cZ x_0 x_1 x_2 x_3 x_4 x_5 x_6 x_7 x_8 x_9 x_10 x_11 x_12 x_13 x_14 x_15 x_16 x_17 x_18 x_19 (MS_setat (MS_setbusy (MS_settb (MS_settt xq118 g121) g125) g127) g129)) C 14 1 rfl rfl y130 rfl (tdec DX8_receive 188 rfl) rfl ?_
                        refine g_aload_n (z := 0) C (tdec DX8_receive 189 rfl) rfl rfl rfl ?_
                        refine g_getf (C' := RX8) (T := TX8) (N := 27) (v := .ref x_15) C 0 15 (gIn iw_X8) rfl rfl (by decide) (gMem fl_X8_54) rfl rfl (tdec DX8_receive 190 rfl) rfl ?_
                        refine g_iload_n (z := 2) C (tdec DX8_receive 191 rfl) rfl rfl rfl ?_
                        refine g_iconst (v := 0) C (tdec DX8_receive 192 rfl) (by decide) rfl ?_
                        obtain ⟨g131, y132, hF⟩ := o_bind hF
                        refine g_iast (ws' := wM cB cI cJ cZ x_0 x_1 x_2 x_3 x_4 x_5 x_6 x_7 x_8 x_9 x_10 x_11 x_12 x_13 x_14 x_15 x_16 x_17 x_18 x_19 (MS_setrec (MS_setat (MS_setbusy (MS_settb (MS_settt xq118 g121) g125) g127) g129) g131)) C 15 1 rfl rfl y132 rfl (tdec DX8_receive 193 rfl) rfl ?_
                        refine g_aload_n (z := 0) C (tdec DX8_receive 194 rfl) rfl rfl rfl ?_
                        refine g_getf (C' := RX8) (T := TX8) (N := 27) (v := .ref x_16) C 0 16 (gIn iw_X8) rfl rfl (by decide) (gMem fl_X8_57) rfl rfl (tdec DX8_receive 195 rfl) rfl ?_
                        refine g_iload_n (z := 2) C (tdec DX8_receive 196 rfl) rfl rfl rfl ?_
                        refine g_aload_n (z := 0) C (tdec DX8_receive 197 rfl) rfl rfl rfl ?_
                        refine g_bipush (v := 9) C (tdec DX8_receive 198 rfl) (by decide) rfl ?_
                        refine g_bipush (v := 8) C (tdec DX8_receive 199 rfl) (by decide) rfl ?_
                        obtain ⟨r133, y134, hF⟩ := o_bind hF
                        refine g_callVlRS (q0 := 0) (S := [wM cB cI cJ cZ x_0 x_1 x_2 x_3 x_4 x_5 x_6 x_7 x_8 x_9 x_10 x_11 x_12 x_13 x_14 x_15 x_16 x_17 x_18 x_19 (MS_setrec (MS_setat (MS_setbusy (MS_settb (MS_settt xq118 g121) g125) g127) g129) g131)]) (S0 := [wM cB cI cJ cZ x_0 x_1 x_2 x_3 x_4 x_5 x_6 x_7 x_8 x_9 x_10 x_11 x_12 x_13 x_14 x_15 x_16 x_17 x_18 x_19 (MS_setrec (MS_setat (MS_setbusy (MS_settb (MS_settt xq118 g121) g125) g127) g129) g131)]) C (c_X8_number l D cB cI cJ cZ x_0 x_1 x_2 x_3 x_4 x_5 x_6 x_7 x_8 x_9 x_10 x_11 x_12 x_13 x_14 x_15 x_16 x_17 x_18 x_19 y134) rfl rfl (gIV ml_X8_186 im_X8_number sl_X8_number in_X8 cd_X8_number) rfl eX8_number rfl ⟨rfl, rfl⟩ ⟨Nat.le_of_ble_eq_true rfl, Nat.le_of_ble_eq_true rfl⟩ rfl rfl rfl [0] rfl rfl rfl (Nat.le_of_ble_eq_true rfl) (tdec DX8_receive 200 rfl) rfl ?_
                        obtain ⟨g135, y136, hF⟩ := o_bind hF
                        refine g_last (ws' := wM cB cI cJ cZ x_0 x_1 x_2 x_3 x_4 x_5 x_6 x_7 x_8 x_9 x_10 x_11 x_12 x_13 x_14 x_15 x_16 x_17 x_18 x_19 (MS_settgt (MS_setrec (MS_setat (MS_setbusy (MS_settb (MS_settt xq118 g121) g125) g127) g129) g131) g135)) C 16 2 rfl rfl y136 rfl (tdec DX8_receive 201 rfl) rfl ?_
                        refine g_iconst (v := 0) C (tdec DX8_receive 202 rfl) (by decide) rfl ?_
                        have hr9 := o_some hF
                        subst hr9
                        exact g_iret C rfl rfl (tdec DX8_receive 203 rfl)
                  · have hF := o_ifn hF h84
                    refine g_goto (pt := 123) C (tdec DX8_receive 68 rfl) (by decide) ?_
                    refine g_iconst (v := 2) C (tdec DX8_receive 71 rfl) (by decide) rfl ?_
                    have hr9 := o_some hF
                    subst hr9
                    exact g_iret C rfl rfl (tdec DX8_receive 72 rfl)
            · have hF := o_ifp hF h14
              refine g_iconst (v := 1) C (tdec DX8_receive 37 rfl) (by decide) rfl ?_
              have hr9 := o_some hF
              subst hr9
              exact g_iret C rfl rfl (tdec DX8_receive 38 rfl)
      · have hF := o_ifn hF h7
        refine g_bipush (v := 6) C (tdec DX8_receive 20 rfl) (by decide) rfl ?_
        have hr9 := o_some hF
        subst hr9
        exact g_iret C rfl rfl (tdec DX8_receive 21 rfl)
    · have hF := o_ifn hF h4
      refine g_iconst (v := 0) C (tdec DX8_receive 11 rfl) (by decide) rfl ?_
      have hr9 := o_some hF
      subst hr9
      exact g_iret C rfl rfl (tdec DX8_receive 12 rfl)
  · have hF := o_ifn hF h3
    refine g_iconst (v := 0) C (tdec DX8_receive 4 rfl) (by decide) rfl ?_
    refine g_goto (pt := 13) C (tdec DX8_receive 5 rfl) (by decide) ?_
    refine g_putf (C' := RX8) (T := TX8) (N := 27) (v := .int 0) (ws' := wM cB cI cJ cZ x_0 x_1 x_2 x_3 x_4 x_5 x_6 x_7 x_8 x_9 x_10 x_11 x_12 x_13 x_14 x_15 x_16 x_17 x_18 x_19 (MS_setthr x0 0)) C 0 0 tyX8 tyX8_ok nmX8 (gIn iw_X8) rfl rfl (by decide) (gMem fl_X8_78) rfl rfl (tyX8_ok 0 (by decide)) rfl rfl (Nat.le_of_ble_eq_true rfl) rfl (tdec DX8_receive 7 rfl) rfl ?_
    refine g_aload_n (z := 0) C (tdec DX8_receive 8 rfl) rfl rfl rfl ?_
    refine g_getf (C' := RX8) (T := TX8) (N := 27) (v := .int 0) C 0 0 (gIn iw_X8) rfl rfl (by decide) (gMem fl_X8_78) rfl rfl (tdec DX8_receive 9 rfl) rfl ?_
    refine g_if_le (pt := 25) C (tdec DX8_receive 10 rfl) (by decide) rfl (fun h137 => ?_) (fun h137 => ?_)
    · have hF := o_ifp hF h137
      refine g_iload_n (z := 1) C (tdec DX8_receive 13 rfl) rfl rfl rfl ?_
      refine g_istore_n (L' := [(2, .int p1), (0, .ref x_0), (1, .int p1)]) C (tdec DX8_receive 14 rfl) rfl (by decide) rfl rfl ?_
      refine g_aload_n (z := 1) C (tdec DX8_receive 15 rfl) rfl rfl rfl ?_
      refine g_getf (C' := RX8) (T := TX8) (N := 27) (v := .ref x_13) C 0 13 (gIn iw_X8) rfl rfl (by decide) (gMem fl_X8_48) rfl rfl (tdec DX8_receive 16 rfl) rfl ?_
      refine g_iload_n (z := 0) C (tdec DX8_receive 17 rfl) rfl rfl rfl ?_
      obtain ⟨r138, y139, hF⟩ := o_bind hF
      refine g_zald C 13 3 rfl rfl y139 (tdec DX8_receive 18 rfl) rfl ?_
      refine g_if_eq (pt := 39) C (tdec DX8_receive 19 rfl) (by decide) rfl (fun h140 => ?_) (fun h140 => ?_)
      · have hF := o_ifp hF h140
        refine g_aload_n (z := 1) C (tdec DX8_receive 22 rfl) rfl rfl rfl ?_
        refine g_getf (C' := RX8) (T := TX8) (N := 27) (v := .int (MS_len x0)) C 0 19 (gIn iw_X8) rfl rfl (by decide) (gMem fl_X8_147) rfl rfl (tdec DX8_receive 23 rfl) rfl ?_
        refine g_iconst (v := 1) C (tdec DX8_receive 24 rfl) (by decide) rfl ?_
        refine g_icmp_lt (pt := 67) C (tdec DX8_receive 25 rfl) (by decide) rfl (fun h141 => ?_) (fun h141 => ?_)
        · have hF := o_ifp hF h141
          refine g_iconst (v := 1) C (tdec DX8_receive 37 rfl) (by decide) rfl ?_
          have hr9 := o_some hF
          subst hr9
          exact g_iret C rfl rfl (tdec DX8_receive 38 rfl)
        · have hF := o_ifn hF h141
          refine g_aload_n (z := 1) C (tdec DX8_receive 26 rfl) rfl rfl rfl ?_
          refine g_getf (C' := RX8) (T := TX8) (N := 27) (v := .ref x_17) C 0 18 (gIn iw_X8) rfl rfl (by decide) (gMem fl_X8_64) rfl rfl (tdec DX8_receive 27 rfl) rfl ?_
          refine g_iconst (v := 0) C (tdec DX8_receive 28 rfl) (by decide) rfl ?_
          obtain ⟨r142, y143, hF⟩ := o_bind hF
          refine g_bald C 17 0 rfl rfl y143 (tdec DX8_receive 29 rfl) rfl ?_
          refine g_iconst (v := 1) C (tdec DX8_receive 30 rfl) (by decide) rfl ?_
          refine g_icmp_ne (pt := 67) C (tdec DX8_receive 31 rfl) (by decide) rfl (fun h144 => ?_) (fun h144 => ?_)
          · have hF := o_ifn hF h144
            refine g_iconst (v := 1) C (tdec DX8_receive 37 rfl) (by decide) rfl ?_
            have hr9 := o_some hF
            subst hr9
            exact g_iret C rfl rfl (tdec DX8_receive 38 rfl)
          · have hF := o_ifp hF h144
            refine g_aload_n (z := 1) C (tdec DX8_receive 32 rfl) rfl rfl rfl ?_
            refine g_iconst (v := 0) C (tdec DX8_receive 33 rfl) (by decide) rfl ?_
            refine g_bipush (v := 25) C (tdec DX8_receive 34 rfl) (by decide) rfl ?_
            obtain ⟨r145, y146, hF⟩ := o_bind hF
            refine g_callViRS (q0 := 0) (S := [wM cB cI cJ cZ x_0 x_1 x_2 x_3 x_4 x_5 x_6 x_7 x_8 x_9 x_10 x_11 x_12 x_13 x_14 x_15 x_16 x_17 x_18 x_19 (MS_setthr x0 0)]) (S0 := [wM cB cI cJ cZ x_0 x_1 x_2 x_3 x_4 x_5 x_6 x_7 x_8 x_9 x_10 x_11 x_12 x_13 x_14 x_15 x_16 x_17 x_18 x_19 (MS_setthr x0 0)]) C (c_X8_isWhole l D cB cI cJ cZ x_0 x_1 x_2 x_3 x_4 x_5 x_6 x_7 x_8 x_9 x_10 x_11 x_12 x_13 x_14 x_15 x_16 x_17 x_18 x_19 y146) rfl rfl (gIV ml_X8_189 im_X8_isWhole sl_X8_isWhole in_X8 cd_X8_isWhole) rfl eX8_isWhole rfl ⟨rfl, rfl⟩ ⟨Nat.le_of_ble_eq_true rfl, Nat.le_of_ble_eq_true rfl⟩ rfl rfl rfl [0] rfl rfl rfl (Nat.le_of_ble_eq_true rfl) (tdec DX8_receive 35 rfl) rfl ?_
            refine g_if_ne (pt := 69) C (tdec DX8_receive 36 rfl) (by decide) rfl (fun h147 => ?_) (fun h147 => ?_)
            · have hF := o_ifn hF h147
              refine g_aload_n (z := 1) C (tdec DX8_receive 39 rfl) rfl rfl rfl ?_
              refine g_iconst (v := 1) C (tdec DX8_receive 40 rfl) (by decide) rfl ?_
              refine g_bipush (v := 8) C (tdec DX8_receive 41 rfl) (by decide) rfl ?_
              obtain ⟨r148, y149, hF⟩ := o_bind hF
              refine g_callVlRS (q0 := 0) (S := [wM cB cI cJ cZ x_0 x_1 x_2 x_3 x_4 x_5 x_6 x_7 x_8 x_9 x_10 x_11 x_12 x_13 x_14 x_15 x_16 x_17 x_18 x_19 (MS_setthr x0 0)]) (S0 := [wM cB cI cJ cZ x_0 x_1 x_2 x_3 x_4 x_5 x_6 x_7 x_8 x_9 x_10 x_11 x_12 x_13 x_14 x_15 x_16 x_17 x_18 x_19 (MS_setthr x0 0)]) C (c_X8_number l D cB cI cJ cZ x_0 x_1 x_2 x_3 x_4 x_5 x_6 x_7 x_8 x_9 x_10 x_11 x_12 x_13 x_14 x_15 x_16 x_17 x_18 x_19 y149) rfl rfl (gIV ml_X8_186 im_X8_number sl_X8_number in_X8 cd_X8_number) rfl eX8_number rfl ⟨rfl, rfl⟩ ⟨Nat.le_of_ble_eq_true rfl, Nat.le_of_ble_eq_true rfl⟩ rfl rfl rfl [0] rfl rfl rfl (Nat.le_of_ble_eq_true rfl) (tdec DX8_receive 42 rfl) rfl ?_
              refine g_lstore_n (L' := [(3, .long r148), (2, .int p1), (0, .ref x_0), (1, .int p1)]) C (tdec DX8_receive 43 rfl) rfl (by decide) rfl rfl ?_
              refine g_aload_n (z := 2) C (tdec DX8_receive 44 rfl) rfl rfl rfl ?_
              refine g_getf (C' := RX8) (T := TX8) (N := 27) (v := .ref x_10) C 0 10 (gIn iw_X8) rfl rfl (by decide) (gMem fl_X8_39) rfl rfl (tdec DX8_receive 45 rfl) rfl ?_
              refine g_iload_n (z := 1) C (tdec DX8_receive 46 rfl) rfl rfl rfl ?_
              obtain ⟨r150, y151, hF⟩ := o_bind hF
              refine g_iald C 10 1 rfl rfl y151 (tdec DX8_receive 47 rfl) rfl ?_
              refine g_iconst (v := 1) C (tdec DX8_receive 48 rfl) (by decide) rfl ?_
              refine g_isub C (tdec DX8_receive 49 rfl) rfl ?_
              refine g_istore (L' := [(5, .int (r150 - 1)), (3, .long r148), (2, .int p1), (0, .ref x_0), (1, .int p1)]) C (tdec DX8_receive 50 rfl) (by decide) rfl rfl ?_
              refine g_lload_n (z := 1) C (tdec DX8_receive 51 rfl) rfl rfl rfl ?_
              refine g_lconst (v := 0) C (tdec DX8_receive 52 rfl) (by decide) rfl ?_
              refine g_lcmp C (tdec DX8_receive 53 rfl) rfl ?_
              refine g_if_eq (pt := 118) C (tdec DX8_receive 54 rfl) (by decide) rfl (fun h152 => ?_) (fun h152 => ?_)
              · have hF := o_ifp hF h152
                refine g_iload (z := 0) C (tdec DX8_receive 69 rfl) rfl rfl ?_
                refine g_if_lt (pt := 125) C (tdec DX8_receive 70 rfl) (by decide) rfl (fun h153 => ?_) (fun h153 => ?_)
                · have hF := o_ifp hF h153
                  refine g_bipush (v := 22) C (tdec DX8_receive 73 rfl) (by decide) rfl ?_
                  refine g_iload_n (z := 2) C (tdec DX8_receive 74 rfl) rfl rfl rfl ?_
                  refine g_imul C (tdec DX8_receive 75 rfl) rfl ?_
                  refine g_iconst (v := 0) C (tdec DX8_receive 76 rfl) (by decide) rfl ?_
                  refine g_iadd C (tdec DX8_receive 77 rfl) rfl ?_
                  refine g_istore (L' := [(6, .int ((22 * p1) + 0)), (5, .int (r150 - 1)), (3, .long r148), (2, .int p1), (0, .ref x_0), (1, .int p1)]) C (tdec DX8_receive 78 rfl) (by decide) rfl rfl ?_
                  refine g_iload (z := 1) C (tdec DX8_receive 79 rfl) rfl rfl ?_
                  refine g_if_ge (pt := 157) C (tdec DX8_receive 80 rfl) (by decide) rfl (fun h154 => ?_) (fun h154 => ?_)
                  · have hF := o_ifp hF h154
                    refine g_aload_n (z := 4) C (tdec DX8_receive 91 rfl) rfl rfl rfl ?_
                    refine g_getf (C' := RX8) (T := TX8) (N := 27) (v := .ref x_7) C 0 7 (gIn iw_X8) rfl rfl (by decide) (gMem fl_X8_30) rfl rfl (tdec DX8_receive 92 rfl) rfl ?_
                    refine g_iload (z := 0) C (tdec DX8_receive 93 rfl) rfl rfl ?_
                    obtain ⟨r155, y156, hF⟩ := o_bind hF
                    refine g_iald C 7 1 rfl rfl y156 (tdec DX8_receive 94 rfl) rfl ?_
                    refine g_aload_n (z := 4) C (tdec DX8_receive 95 rfl) rfl rfl rfl ?_
                    refine g_getf (C' := RX8) (T := TX8) (N := 27) (v := .ref x_7) C 0 7 (gIn iw_X8) rfl rfl (by decide) (gMem fl_X8_30) rfl rfl (tdec DX8_receive 96 rfl) rfl ?_
                    refine g_bipush (v := 22) C (tdec DX8_receive 97 rfl) (by decide) rfl ?_
                    refine g_iload_n (z := 3) C (tdec DX8_receive 98 rfl) rfl rfl rfl ?_
                    refine g_imul C (tdec DX8_receive 99 rfl) rfl ?_
                    refine g_iconst (v := 2) C (tdec DX8_receive 100 rfl) (by decide) rfl ?_
                    refine g_iadd C (tdec DX8_receive 101 rfl) rfl ?_
                    refine g_iload (z := 1) C (tdec DX8_receive 102 rfl) rfl rfl ?_
                    refine g_iadd C (tdec DX8_receive 103 rfl) rfl ?_
                    obtain ⟨r157, y158, hF⟩ := o_bind hF
                    refine g_iald C 7 1 rfl rfl y158 (tdec DX8_receive 104 rfl) rfl ?_
                    refine g_icmp_ne (pt := 209) C (tdec DX8_receive 105 rfl) (by decide) rfl (fun h159 => ?_) (fun h159 => ?_)
                    · have hF := o_ifn hF h159
                      refine g_iconst (v := 0) C (tdec DX8_receive 123 rfl) (by decide) rfl ?_
                      refine g_istore (L' := [(7, .int 0), (6, .int ((22 * p1) + 0)), (5, .int (r150 - 1)), (3, .long r148), (2, .int p1), (0, .ref x_0), (1, .int p1)]) C (tdec DX8_receive 124 rfl) (by decide) rfl rfl ?_
                      refine g_iload (z := 0) C (tdec DX8_receive 125 rfl) rfl rfl ?_
                      refine g_if_ne (pt := 219) C (tdec DX8_receive 126 rfl) (by decide) rfl (fun h => absurd h (by decide)) (fun _ => ?_)
                      refine g_iconst (v := 3) C (tdec DX8_receive 127 rfl) (by decide) rfl ?_
                      have hr9 := o_some hF
                      subst hr9
                      exact g_iret C rfl rfl (tdec DX8_receive 128 rfl)
                    · have hF := o_ifp hF h159
                      refine g_aload_n (z := 4) C (tdec DX8_receive 106 rfl) rfl rfl rfl ?_
                      refine g_getf (C' := RX8) (T := TX8) (N := 27) (v := .ref x_8) C 0 8 (gIn iw_X8) rfl rfl (by decide) (gMem fl_X8_33) rfl rfl (tdec DX8_receive 107 rfl) rfl ?_
                      refine g_iload (z := 0) C (tdec DX8_receive 108 rfl) rfl rfl ?_
                      obtain ⟨r160, y161, hF⟩ := o_bind hF
                      refine g_iald C 8 1 rfl rfl y161 (tdec DX8_receive 109 rfl) rfl ?_
                      refine g_aload_n (z := 4) C (tdec DX8_receive 110 rfl) rfl rfl rfl ?_
                      refine g_getf (C' := RX8) (T := TX8) (N := 27) (v := .ref x_8) C 0 8 (gIn iw_X8) rfl rfl (by decide) (gMem fl_X8_33) rfl rfl (tdec DX8_receive 111 rfl) rfl ?_
                      refine g_bipush (v := 22) C (tdec DX8_receive 112 rfl) (by decide) rfl ?_
                      refine g_iload_n (z := 3) C (tdec DX8_receive 113 rfl) rfl rfl rfl ?_
                      refine g_imul C (tdec DX8_receive 114 rfl) rfl ?_
                      refine g_iconst (v := 2) C (tdec DX8_receive 115 rfl) (by decide) rfl ?_
                      refine g_iadd C (tdec DX8_receive 116 rfl) rfl ?_
                      refine g_iload (z := 1) C (tdec DX8_receive 117 rfl) rfl rfl ?_
                      refine g_iadd C (tdec DX8_receive 118 rfl) rfl ?_
                      obtain ⟨r162, y163, hF⟩ := o_bind hF
                      refine g_iald C 8 1 rfl rfl y163 (tdec DX8_receive 119 rfl) rfl ?_
                      refine g_icmp_ne (pt := 209) C (tdec DX8_receive 120 rfl) (by decide) rfl (fun h164 => ?_) (fun h164 => ?_)
                      · have hF := o_ifn hF h164
                        refine g_iconst (v := 0) C (tdec DX8_receive 123 rfl) (by decide) rfl ?_
                        refine g_istore (L' := [(7, .int 0), (6, .int ((22 * p1) + 0)), (5, .int (r150 - 1)), (3, .long r148), (2, .int p1), (0, .ref x_0), (1, .int p1)]) C (tdec DX8_receive 124 rfl) (by decide) rfl rfl ?_
                        refine g_iload (z := 0) C (tdec DX8_receive 125 rfl) rfl rfl ?_
                        refine g_if_ne (pt := 219) C (tdec DX8_receive 126 rfl) (by decide) rfl (fun h => absurd h (by decide)) (fun _ => ?_)
                        refine g_iconst (v := 3) C (tdec DX8_receive 127 rfl) (by decide) rfl ?_
                        have hr9 := o_some hF
                        subst hr9
                        exact g_iret C rfl rfl (tdec DX8_receive 128 rfl)
                      · have hF := o_ifp hF h164
                        refine g_iconst (v := 1) C (tdec DX8_receive 121 rfl) (by decide) rfl ?_
                        refine g_goto (pt := 210) C (tdec DX8_receive 122 rfl) (by decide) ?_
                        refine g_istore (L' := [(7, .int 1), (6, .int ((22 * p1) + 0)), (5, .int (r150 - 1)), (3, .long r148), (2, .int p1), (0, .ref x_0), (1, .int p1)]) C (tdec DX8_receive 124 rfl) (by decide) rfl rfl ?_
                        refine g_iload (z := 0) C (tdec DX8_receive 125 rfl) rfl rfl ?_
                        refine g_if_ne (pt := 219) C (tdec DX8_receive 126 rfl) (by decide) rfl (fun _ => ?_) (fun h => absurd h (by decide))
                        refine g_iconst (v := 0) C (tdec DX8_receive 129 rfl) (by decide) rfl ?_
                        refine g_istore (L' := [(8, .int 0), (7, .int 1), (6, .int ((22 * p1) + 0)), (5, .int (r150 - 1)), (3, .long r148), (2, .int p1), (0, .ref x_0), (1, .int p1)]) C (tdec DX8_receive 130 rfl) (by decide) rfl rfl ?_
                        refine g_sub (L' := [(0, .ref x_0), (1, .int p1), (2, .int p1), (3, .long r148), (5, .int (r150 - 1)), (6, .int ((22 * p1) + 0)), (7, .int 1), (8, .int 0)]) [6, 7, 5, 4, 3, 2, 1, 0] rfl ?_
                        refine c_FX8_receive_L222 C (fun xq165 w8_165 hF => ?_) 100000 _ _ hF
                        refine g_aload_n (z := 0) C (tdec DX8_receive 155 rfl) rfl rfl rfl ?_
                        refine g_getf (C' := RX8) (T := TX8) (N := 27) (v := .ref x_7) C 0 7 (gIn iw_X8) rfl rfl (by decide) (gMem fl_X8_30) rfl rfl (tdec DX8_receive 156 rfl) rfl ?_
                        refine g_bipush (v := 22) C (tdec DX8_receive 157 rfl) (by decide) rfl ?_
                        refine g_iload_n (z := 2) C (tdec DX8_receive 158 rfl) rfl rfl rfl ?_
                        refine g_imul C (tdec DX8_receive 159 rfl) rfl ?_
                        refine g_iconst (v := 1) C (tdec DX8_receive 160 rfl) (by decide) rfl ?_
                        refine g_iadd C (tdec DX8_receive 161 rfl) rfl ?_
                        refine g_aload_n (z := 0) C (tdec DX8_receive 162 rfl) rfl rfl rfl ?_
                        refine g_getf (C' := RX8) (T := TX8) (N := 27) (v := .ref x_7) C 0 7 (gIn iw_X8) rfl rfl (by decide) (gMem fl_X8_30) rfl rfl (tdec DX8_receive 163 rfl) rfl ?_
                        refine g_iload (z := 5) C (tdec DX8_receive 164 rfl) rfl rfl ?_
                        obtain ⟨r166, y167, hF⟩ := o_bind hF
                        refine g_iald C 7 1 rfl rfl y167 (tdec DX8_receive 165 rfl) rfl ?_
                        obtain ⟨g168, y169, hF⟩ := o_bind hF
                        refine g_iast (ws' := wM cB cI cJ cZ x_0 x_1 x_2 x_3 x_4 x_5 x_6 x_7 x_8 x_9 x_10 x_11 x_12 x_13 x_14 x_15 x_16 x_17 x_18 x_19 (MS_settt xq165 g168)) C 7 1 rfl rfl y169 rfl (tdec DX8_receive 166 rfl) rfl ?_
                        refine g_aload_n (z := 0) C (tdec DX8_receive 167 rfl) rfl rfl rfl ?_
                        refine g_getf (C' := RX8) (T := TX8) (N := 27) (v := .ref x_8) C 0 8 (gIn iw_X8) rfl rfl (by decide) (gMem fl_X8_33) rfl rfl (tdec DX8_receive 168 rfl) rfl ?_
                        refine g_bipush (v := 22) C (tdec DX8_receive 169 rfl) (by decide) rfl ?_
                        refine g_iload_n (z := 2) C (tdec DX8_receive 170 rfl) rfl rfl rfl ?_
                        refine g_imul C (tdec DX8_receive 171 rfl) rfl ?_
                        refine g_iconst (v := 1) C (tdec DX8_receive 172 rfl) (by decide) rfl ?_
                        refine g_iadd C (tdec DX8_receive 173 rfl) rfl ?_
                        refine g_aload_n (z := 0) C (tdec DX8_receive 174 rfl) rfl rfl rfl ?_
                        refine g_getf (C' := RX8) (T := TX8) (N := 27) (v := .ref x_8) C 0 8 (gIn iw_X8) rfl rfl (by decide) (gMem fl_X8_33) rfl rfl (tdec DX8_receive 175 rfl) rfl ?_
                        refine g_iload (z := 5) C (tdec DX8_receive 176 rfl) rfl rfl ?_
                        obtain ⟨r170, y171, hF⟩ := o_bind hF
                        refine g_iald C 8 1 rfl rfl y171 (tdec DX8_receive 177 rfl) rfl ?_
                        obtain ⟨g172, y173, hF⟩ := o_bind hF
                        refine g_iast (ws' := wM cB cI cJ cZ x_0 x_1 x_2 x_3 x_4 x_5 x_6 x_7 x_8 x_9 x_10 x_11 x_12 x_13 x_14 x_15 x_16 x_17 x_18 x_19 (MS_settb (MS_settt xq165 g168) g172)) C 8 1 rfl rfl y173 rfl (tdec DX8_receive 178 rfl) rfl ?_
                        refine g_aload_n (z := 0) C (tdec DX8_receive 179 rfl) rfl rfl rfl ?_
                        refine g_getf (C' := RX8) (T := TX8) (N := 27) (v := .ref x_13) C 0 13 (gIn iw_X8) rfl rfl (by decide) (gMem fl_X8_48) rfl rfl (tdec DX8_receive 180 rfl) rfl ?_
                        refine g_iload_n (z := 2) C (tdec DX8_receive 181 rfl) rfl rfl rfl ?_
                        refine g_iconst (v := 1) C (tdec DX8_receive 182 rfl) (by decide) rfl ?_
                        obtain ⟨g174, y175, hF⟩ := o_bind hF
                        refine g_zast (ws' := wM cB cI cJ cZ x_0 x_1 x_2 x_3 x_4 x_5 x_6 x_7 x_8 x_9 x_10 x_11 x_12 x_13 x_14 x_15 x_16 x_17 x_18 x_19 (MS_setbusy (MS_settb (MS_settt xq165 g168) g172) g174)) C 13 3 rfl rfl y175 rfl (tdec DX8_receive 183 rfl) rfl ?_
                        refine g_aload_n (z := 0) C (tdec DX8_receive 184 rfl) rfl rfl rfl ?_
                        refine g_getf (C' := RX8) (T := TX8) (N := 27) (v := .ref x_14) C 0 14 (gIn iw_X8) rfl rfl (by decide) (gMem fl_X8_51) rfl rfl (tdec DX8_receive 185 rfl) rfl ?_
                        refine g_iload_n (z := 2) C (tdec DX8_receive 186 rfl) rfl rfl rfl ?_
                        refine g_bipush (v := 25) C (tdec DX8_receive 187 rfl) (by decide) rfl ?_
                        obtain ⟨g176, y177, hF⟩ := o_bind hF
                        refine g_iast (ws' := wM cB cI cJ cZ x_0 x_1 x_2 x_3 x_4 x_5 x_6 x_7 x_8 x_9 x_10 x_11 x_12 x_13 x_14 x_15 x_16 x_17 x_18 x_19 (MS_setat (MS_setbusy (MS_settb (MS_settt xq165 g168) g172) g174) g176)) C 14 1 rfl rfl y177 rfl (tdec DX8_receive 188 rfl) rfl ?_
                        refine g_aload_n (z := 0) C (tdec DX8_receive 189 rfl) rfl rfl rfl ?_
                        refine g_getf (C' := RX8) (T := TX8) (N := 27) (v := .ref x_15) C 0 15 (gIn iw_X8) rfl rfl (by decide) (gMem fl_X8_54) rfl rfl (tdec DX8_receive 190 rfl) rfl ?_
                        refine g_iload_n (z := 2) C (tdec DX8_receive 191 rfl) rfl rfl rfl ?_
                        refine g_iconst (v := 0) C (tdec DX8_receive 192 rfl) (by decide) rfl ?_
                        obtain ⟨g178, y179, hF⟩ := o_bind hF
                        refine g_iast (ws' := wM cB cI cJ cZ x_0 x_1 x_2 x_3 x_4 x_5 x_6 x_7 x_8 x_9 x_10 x_11 x_12 x_13 x_14 x_15 x_16 x_17 x_18 x_19 (MS_setrec (MS_setat (MS_setbusy (MS_settb (MS_settt xq165 g168) g172) g174) g176) g178)) C 15 1 rfl rfl y179 rfl (tdec DX8_receive 193 rfl) rfl ?_
                        refine g_aload_n (z := 0) C (tdec DX8_receive 194 rfl) rfl rfl rfl ?_
                        refine g_getf (C' := RX8) (T := TX8) (N := 27) (v := .ref x_16) C 0 16 (gIn iw_X8) rfl rfl (by decide) (gMem fl_X8_57) rfl rfl (tdec DX8_receive 195 rfl) rfl ?_
                        refine g_iload_n (z := 2) C (tdec DX8_receive 196 rfl) rfl rfl rfl ?_
                        refine g_aload_n (z := 0) C (tdec DX8_receive 197 rfl) rfl rfl rfl ?_
                        refine g_bipush (v := 9) C (tdec DX8_receive 198 rfl) (by decide) rfl ?_
                        refine g_bipush (v := 8) C (tdec DX8_receive 199 rfl) (by decide) rfl ?_
                        obtain ⟨r180, y181, hF⟩ := o_bind hF
                        refine g_callVlRS (q0 := 0) (S := [wM cB cI cJ cZ x_0 x_1 x_2 x_3 x_4 x_5 x_6 x_7 x_8 x_9 x_10 x_11 x_12 x_13 x_14 x_15 x_16 x_17 x_18 x_19 (MS_setrec (MS_setat (MS_setbusy (MS_settb (MS_settt xq165 g168) g172) g174) g176) g178)]) (S0 := [wM cB cI cJ cZ x_0 x_1 x_2 x_3 x_4 x_5 x_6 x_7 x_8 x_9 x_10 x_11 x_12 x_13 x_14 x_15 x_16 x_17 x_18 x_19 (MS_setrec (MS_setat (MS_setbusy (MS_settb (MS_settt xq165 g168) g172) g174) g176) g178)]) C (c_X8_number l D cB cI cJ cZ x_0 x_1 x_2 x_3 x_4 x_5 x_6 x_7 x_8 x_9 x_10 x_11 x_12 x_13 x_14 x_15 x_16 x_17 x_18 x_19 y181) rfl rfl (gIV ml_X8_186 im_X8_number sl_X8_number in_X8 cd_X8_number) rfl eX8_number rfl ⟨rfl, rfl⟩ ⟨Nat.le_of_ble_eq_true rfl, Nat.le_of_ble_eq_true rfl⟩ rfl rfl rfl [0] rfl rfl rfl (Nat.le_of_ble_eq_true rfl) (tdec DX8_receive 200 rfl) rfl ?_
                        obtain ⟨g182, y183, hF⟩ := o_bind hF
                        refine g_last (ws' := wM cB cI cJ cZ x_0 x_1 x_2 x_3 x_4 x_5 x_6 x_7 x_8 x_9 x_10 x_11 x_12 x_13 x_14 x_15 x_16 x_17 x_18 x_19 (MS_settgt (MS_setrec (MS_setat (MS_setbusy (MS_settb (MS_settt xq165 g168) g172) g174) g176) g178) g182)) C 16 2 rfl rfl y183 rfl (tdec DX8_receive 201 rfl) rfl ?_
                        refine g_iconst (v := 0) C (tdec DX8_receive 202 rfl) (by decide) rfl ?_
                        have hr9 := o_some hF
                        subst hr9
                        exact g_iret C rfl rfl (tdec DX8_receive 203 rfl)
                  · have hF := o_ifn hF h154
                    refine g_aload_n (z := 4) C (tdec DX8_receive 81 rfl) rfl rfl rfl ?_
                    refine g_getf (C' := RX8) (T := TX8) (N := 27) (v := .ref x_7) C 0 7 (gIn iw_X8) rfl rfl (by decide) (gMem fl_X8_30) rfl rfl (tdec DX8_receive 82 rfl) rfl ?_
                    refine g_iload (z := 0) C (tdec DX8_receive 83 rfl) rfl rfl ?_
                    obtain ⟨r184, y185, hF⟩ := o_bind hF
                    refine g_iald C 7 1 rfl rfl y185 (tdec DX8_receive 84 rfl) rfl ?_
                    refine g_iconst (v := (-1)) C (tdec DX8_receive 85 rfl) (by decide) rfl ?_
                    refine g_icmp_ne (pt := 153) C (tdec DX8_receive 86 rfl) (by decide) rfl (fun h186 => ?_) (fun h186 => ?_)
                    · have hF := o_ifn hF h186
                      refine g_iconst (v := 0) C (tdec DX8_receive 89 rfl) (by decide) rfl ?_
                      refine g_goto (pt := 210) C (tdec DX8_receive 90 rfl) (by decide) ?_
                      refine g_istore (L' := [(7, .int 0), (6, .int ((22 * p1) + 0)), (5, .int (r150 - 1)), (3, .long r148), (2, .int p1), (0, .ref x_0), (1, .int p1)]) C (tdec DX8_receive 124 rfl) (by decide) rfl rfl ?_
                      refine g_iload (z := 0) C (tdec DX8_receive 125 rfl) rfl rfl ?_
                      refine g_if_ne (pt := 219) C (tdec DX8_receive 126 rfl) (by decide) rfl (fun h => absurd h (by decide)) (fun _ => ?_)
                      refine g_iconst (v := 3) C (tdec DX8_receive 127 rfl) (by decide) rfl ?_
                      have hr9 := o_some hF
                      subst hr9
                      exact g_iret C rfl rfl (tdec DX8_receive 128 rfl)
                    · have hF := o_ifp hF h186
                      refine g_iconst (v := 1) C (tdec DX8_receive 87 rfl) (by decide) rfl ?_
                      refine g_goto (pt := 210) C (tdec DX8_receive 88 rfl) (by decide) ?_
                      refine g_istore (L' := [(7, .int 1), (6, .int ((22 * p1) + 0)), (5, .int (r150 - 1)), (3, .long r148), (2, .int p1), (0, .ref x_0), (1, .int p1)]) C (tdec DX8_receive 124 rfl) (by decide) rfl rfl ?_
                      refine g_iload (z := 0) C (tdec DX8_receive 125 rfl) rfl rfl ?_
                      refine g_if_ne (pt := 219) C (tdec DX8_receive 126 rfl) (by decide) rfl (fun _ => ?_) (fun h => absurd h (by decide))
                      refine g_iconst (v := 0) C (tdec DX8_receive 129 rfl) (by decide) rfl ?_
                      refine g_istore (L' := [(8, .int 0), (7, .int 1), (6, .int ((22 * p1) + 0)), (5, .int (r150 - 1)), (3, .long r148), (2, .int p1), (0, .ref x_0), (1, .int p1)]) C (tdec DX8_receive 130 rfl) (by decide) rfl rfl ?_
                      refine g_sub (L' := [(0, .ref x_0), (1, .int p1), (2, .int p1), (3, .long r148), (5, .int (r150 - 1)), (6, .int ((22 * p1) + 0)), (7, .int 1), (8, .int 0)]) [6, 7, 5, 4, 3, 2, 1, 0] rfl ?_
                      refine c_FX8_receive_L222 C (fun xq187 w8_187 hF => ?_) 100000 _ _ hF
                      refine g_aload_n (z := 0) C (tdec DX8_receive 155 rfl) rfl rfl rfl ?_
                      refine g_getf (C' := RX8) (T := TX8) (N := 27) (v := .ref x_7) C 0 7 (gIn iw_X8) rfl rfl (by decide) (gMem fl_X8_30) rfl rfl (tdec DX8_receive 156 rfl) rfl ?_
                      refine g_bipush (v := 22) C (tdec DX8_receive 157 rfl) (by decide) rfl ?_
                      refine g_iload_n (z := 2) C (tdec DX8_receive 158 rfl) rfl rfl rfl ?_
                      refine g_imul C (tdec DX8_receive 159 rfl) rfl ?_
                      refine g_iconst (v := 1) C (tdec DX8_receive 160 rfl) (by decide) rfl ?_
                      refine g_iadd C (tdec DX8_receive 161 rfl) rfl ?_
                      refine g_aload_n (z := 0) C (tdec DX8_receive 162 rfl) rfl rfl rfl ?_
                      refine g_getf (C' := RX8) (T := TX8) (N := 27) (v := .ref x_7) C 0 7 (gIn iw_X8) rfl rfl (by decide) (gMem fl_X8_30) rfl rfl (tdec DX8_receive 163 rfl) rfl ?_
                      refine g_iload (z := 5) C (tdec DX8_receive 164 rfl) rfl rfl ?_
                      obtain ⟨r188, y189, hF⟩ := o_bind hF
                      refine g_iald C 7 1 rfl rfl y189 (tdec DX8_receive 165 rfl) rfl ?_
                      obtain ⟨g190, y191, hF⟩ := o_bind hF
                      refine g_iast (ws' := wM cB cI cJ cZ x_0 x_1 x_2 x_3 x_4 x_5 x_6 x_7 x_8 x_9 x_10 x_11 x_12 x_13 x_14 x_15 x_16 x_17 x_18 x_19 (MS_settt xq187 g190)) C 7 1 rfl rfl y191 rfl (tdec DX8_receive 166 rfl) rfl ?_
                      refine g_aload_n (z := 0) C (tdec DX8_receive 167 rfl) rfl rfl rfl ?_
                      refine g_getf (C' := RX8) (T := TX8) (N := 27) (v := .ref x_8) C 0 8 (gIn iw_X8) rfl rfl (by decide) (gMem fl_X8_33) rfl rfl (tdec DX8_receive 168 rfl) rfl ?_
                      refine g_bipush (v := 22) C (tdec DX8_receive 169 rfl) (by decide) rfl ?_
                      refine g_iload_n (z := 2) C (tdec DX8_receive 170 rfl) rfl rfl rfl ?_
                      refine g_imul C (tdec DX8_receive 171 rfl) rfl ?_
                      refine g_iconst (v := 1) C (tdec DX8_receive 172 rfl) (by decide) rfl ?_
                      refine g_iadd C (tdec DX8_receive 173 rfl) rfl ?_
                      refine g_aload_n (z := 0) C (tdec DX8_receive 174 rfl) rfl rfl rfl ?_
                      refine g_getf (C' := RX8) (T := TX8) (N := 27) (v := .ref x_8) C 0 8 (gIn iw_X8) rfl rfl (by decide) (gMem fl_X8_33) rfl rfl (tdec DX8_receive 175 rfl) rfl ?_
                      refine g_iload (z := 5) C (tdec DX8_receive 176 rfl) rfl rfl ?_
                      obtain ⟨r192, y193, hF⟩ := o_bind hF
                      refine g_iald C 8 1 rfl rfl y193 (tdec DX8_receive 177 rfl) rfl ?_
                      obtain ⟨g194, y195, hF⟩ := o_bind hF
                      refine g_iast (ws' := wM cB cI cJ cZ x_0 x_1 x_2 x_3 x_4 x_5 x_6 x_7 x_8 x_9 x_10 x_11 x_12 x_13 x_14 x_15 x_16 x_17 x_18 x_19 (MS_settb (MS_settt xq187 g190) g194)) C 8 1 rfl rfl y195 rfl (tdec DX8_receive 178 rfl) rfl ?_
                      refine g_aload_n (z := 0) C (tdec DX8_receive 179 rfl) rfl rfl rfl ?_
                      refine g_getf (C' := RX8) (T := TX8) (N := 27) (v := .ref x_13) C 0 13 (gIn iw_X8) rfl rfl (by decide) (gMem fl_X8_48) rfl rfl (tdec DX8_receive 180 rfl) rfl ?_
                      refine g_iload_n (z := 2) C (tdec DX8_receive 181 rfl) rfl rfl rfl ?_
                      refine g_iconst (v := 1) C (tdec DX8_receive 182 rfl) (by decide) rfl ?_
                      obtain ⟨g196, y197, hF⟩ := o_bind hF
                      refine g_zast (ws' := wM cB cI cJ cZ x_0 x_1 x_2 x_3 x_4 x_5 x_6 x_7 x_8 x_9 x_10 x_11 x_12 x_13 x_14 x_15 x_16 x_17 x_18 x_19 (MS_setbusy (MS_settb (MS_settt xq187 g190) g194) g196)) C 13 3 rfl rfl y197 rfl (tdec DX8_receive 183 rfl) rfl ?_
                      refine g_aload_n (z := 0) C (tdec DX8_receive 184 rfl) rfl rfl rfl ?_
                      refine g_getf (C' := RX8) (T := TX8) (N := 27) (v := .ref x_14) C 0 14 (gIn iw_X8) rfl rfl (by decide) (gMem fl_X8_51) rfl rfl (tdec DX8_receive 185 rfl) rfl ?_
                      refine g_iload_n (z := 2) C (tdec DX8_receive 186 rfl) rfl rfl rfl ?_
                      refine g_bipush (v := 25) C (tdec DX8_receive 187 rfl) (by decide) rfl ?_
                      obtain ⟨g198, y199, hF⟩ := o_bind hF
                      refine g_iast (ws' := wM cB cI cJ cZ x_0 x_1 x_2 x_3 x_4 x_5 x_6 x_7 x_8 x_9 x_10 x_11 x_12 x_13 x_14 x_15 x_16 x_17 x_18 x_19 (MS_setat (MS_setbusy (MS_settb (MS_settt xq187 g190) g194) g196) g198)) C 14 1 rfl rfl y199 rfl (tdec DX8_receive 188 rfl) rfl ?_
                      refine g_aload_n (z := 0) C (tdec DX8_receive 189 rfl) rfl rfl rfl ?_
                      refine g_getf (C' := RX8) (T := TX8) (N := 27) (v := .ref x_15) C 0 15 (gIn iw_X8) rfl rfl (by decide) (gMem fl_X8_54) rfl rfl (tdec DX8_receive 190 rfl) rfl ?_
                      refine g_iload_n (z := 2) C (tdec DX8_receive 191 rfl) rfl rfl rfl ?_
                      refine g_iconst (v := 0) C (tdec DX8_receive 192 rfl) (by decide) rfl ?_
                      obtain ⟨g200, y201, hF⟩ := o_bind hF
                      refine g_iast (ws' := wM cB cI cJ cZ x_0 x_1 x_2 x_3 x_4 x_5 x_6 x_7 x_8 x_9 x_10 x_11 x_12 x_13 x_14 x_15 x_16 x_17 x_18 x_19 (MS_setrec (MS_setat (MS_setbusy (MS_settb (MS_settt xq187 g190) g194) g196) g198) g200)) C 15 1 rfl rfl y201 rfl (tdec DX8_receive 193 rfl) rfl ?_
                      refine g_aload_n (z := 0) C (tdec DX8_receive 194 rfl) rfl rfl rfl ?_
                      refine g_getf (C' := RX8) (T := TX8) (N := 27) (v := .ref x_16) C 0 16 (gIn iw_X8) rfl rfl (by decide) (gMem fl_X8_57) rfl rfl (tdec DX8_receive 195 rfl) rfl ?_
                      refine g_iload_n (z := 2) C (tdec DX8_receive 196 rfl) rfl rfl rfl ?_
                      refine g_aload_n (z := 0) C (tdec DX8_receive 197 rfl) rfl rfl rfl ?_
                      refine g_bipush (v := 9) C (tdec DX8_receive 198 rfl) (by decide) rfl ?_
                      refine g_bipush (v := 8) C (tdec DX8_receive 199 rfl) (by decide) rfl ?_
                      obtain ⟨r202, y203, hF⟩ := o_bind hF
                      refine g_callVlRS (q0 := 0) (S := [wM cB cI cJ cZ x_0 x_1 x_2 x_3 x_4 x_5 x_6 x_7 x_8 x_9 x_10 x_11 x_12 x_13 x_14 x_15 x_16 x_17 x_18 x_19 (MS_setrec (MS_setat (MS_setbusy (MS_settb (MS_settt xq187 g190) g194) g196) g198) g200)]) (S0 := [wM cB cI cJ cZ x_0 x_1 x_2 x_3 x_4 x_5 x_6 x_7 x_8 x_9 x_10 x_11 x_12 x_13 x_14 x_15 x_16 x_17 x_18 x_19 (MS_setrec (MS_setat (MS_setbusy (MS_settb (MS_settt xq187 g190) g194) g196) g198) g200)]) C (c_X8_number l D cB cI cJ cZ x_0 x_1 x_2 x_3 x_4 x_5 x_6 x_7 x_8 x_9 x_10 x_11 x_12 x_13 x_14 x_15 x_16 x_17 x_18 x_19 y203) rfl rfl (gIV ml_X8_186 im_X8_number sl_X8_number in_X8 cd_X8_number) rfl eX8_number rfl ⟨rfl, rfl⟩ ⟨Nat.le_of_ble_eq_true rfl, Nat.le_of_ble_eq_true rfl⟩ rfl rfl rfl [0] rfl rfl rfl (Nat.le_of_ble_eq_true rfl) (tdec DX8_receive 200 rfl) rfl ?_
                      obtain ⟨g204, y205, hF⟩ := o_bind hF
                      refine g_last (ws' := wM cB cI cJ cZ x_0 x_1 x_2 x_3 x_4 x_5 x_6 x_7 x_8 x_9 x_10 x_11 x_12 x_13 x_14 x_15 x_16 x_17 x_18 x_19 (MS_settgt (MS_setrec (MS_setat (MS_setbusy (MS_settb (MS_settt xq187 g190) g194) g196) g198) g200) g204)) C 16 2 rfl rfl y205 rfl (tdec DX8_receive 201 rfl) rfl ?_
                      refine g_iconst (v := 0) C (tdec DX8_receive 202 rfl) (by decide) rfl ?_
                      have hr9 := o_some hF
                      subst hr9
                      exact g_iret C rfl rfl (tdec DX8_receive 203 rfl)
                · have hF := o_ifn hF h153
                  refine g_iconst (v := 2) C (tdec DX8_receive 71 rfl) (by decide) rfl ?_
                  have hr9 := o_some hF
                  subst hr9
                  exact g_iret C rfl rfl (tdec DX8_receive 72 rfl)
              · have hF := o_ifn hF h152
                refine g_iload (z := 0) C (tdec DX8_receive 55 rfl) rfl rfl ?_
                refine g_if_lt (pt := 123) C (tdec DX8_receive 56 rfl) (by decide) rfl (fun h206 => ?_) (fun h206 => ?_)
                · have hF := o_ifp hF h206
                  refine g_iconst (v := 2) C (tdec DX8_receive 71 rfl) (by decide) rfl ?_
                  have hr9 := o_some hF
                  subst hr9
                  exact g_iret C rfl rfl (tdec DX8_receive 72 rfl)
                · have hF := o_ifn hF h206
                  refine g_aload_n (z := 3) C (tdec DX8_receive 57 rfl) rfl rfl rfl ?_
                  refine g_getf (C' := RX8) (T := TX8) (N := 27) (v := .ref x_12) C 0 12 (gIn iw_X8) rfl rfl (by decide) (gMem fl_X8_45) rfl rfl (tdec DX8_receive 58 rfl) rfl ?_
                  refine g_bipush (v := 20) C (tdec DX8_receive 59 rfl) (by decide) rfl ?_
                  refine g_iload_n (z := 2) C (tdec DX8_receive 60 rfl) rfl rfl rfl ?_
                  refine g_imul C (tdec DX8_receive 61 rfl) rfl ?_
                  refine g_iload (z := 0) C (tdec DX8_receive 62 rfl) rfl rfl ?_
                  refine g_iadd C (tdec DX8_receive 63 rfl) rfl ?_
                  obtain ⟨r207, y208, hF⟩ := o_bind hF
                  refine g_lald C 12 2 rfl rfl y208 (tdec DX8_receive 64 rfl) rfl ?_
                  refine g_lload_n (z := 1) C (tdec DX8_receive 65 rfl) rfl rfl rfl ?_
                  refine g_lcmp C (tdec DX8_receive 66 rfl) rfl ?_
                  refine g_if_eq (pt := 125) C (tdec DX8_receive 67 rfl) (by decide) rfl (fun h209 => ?_) (fun h209 => ?_)
                  · have hF := o_ifp hF h209
                    refine g_bipush (v := 22) C (tdec DX8_receive 73 rfl) (by decide) rfl ?_
                    refine g_iload_n (z := 2) C (tdec DX8_receive 74 rfl) rfl rfl rfl ?_
                    refine g_imul C (tdec DX8_receive 75 rfl) rfl ?_
                    refine g_iconst (v := 0) C (tdec DX8_receive 76 rfl) (by decide) rfl ?_
                    refine g_iadd C (tdec DX8_receive 77 rfl) rfl ?_
                    refine g_istore (L' := [(6, .int ((22 * p1) + 0)), (5, .int (r150 - 1)), (3, .long r148), (2, .int p1), (0, .ref x_0), (1, .int p1)]) C (tdec DX8_receive 78 rfl) (by decide) rfl rfl ?_
                    refine g_iload (z := 1) C (tdec DX8_receive 79 rfl) rfl rfl ?_
                    refine g_if_ge (pt := 157) C (tdec DX8_receive 80 rfl) (by decide) rfl (fun h210 => ?_) (fun h210 => ?_)
                    · have hF := o_ifp hF h210
                      refine g_aload_n (z := 4) C (tdec DX8_receive 91 rfl) rfl rfl rfl ?_
                      refine g_getf (C' := RX8) (T := TX8) (N := 27) (v := .ref x_7) C 0 7 (gIn iw_X8) rfl rfl (by decide) (gMem fl_X8_30) rfl rfl (tdec DX8_receive 92 rfl) rfl ?_
                      refine g_iload (z := 0) C (tdec DX8_receive 93 rfl) rfl rfl ?_
                      obtain ⟨r211, y212, hF⟩ := o_bind hF
                      refine g_iald C 7 1 rfl rfl y212 (tdec DX8_receive 94 rfl) rfl ?_
                      refine g_aload_n (z := 4) C (tdec DX8_receive 95 rfl) rfl rfl rfl ?_
                      refine g_getf (C' := RX8) (T := TX8) (N := 27) (v := .ref x_7) C 0 7 (gIn iw_X8) rfl rfl (by decide) (gMem fl_X8_30) rfl rfl (tdec DX8_receive 96 rfl) rfl ?_
                      refine g_bipush (v := 22) C (tdec DX8_receive 97 rfl) (by decide) rfl ?_
                      refine g_iload_n (z := 3) C (tdec DX8_receive 98 rfl) rfl rfl rfl ?_
                      refine g_imul C (tdec DX8_receive 99 rfl) rfl ?_
                      refine g_iconst (v := 2) C (tdec DX8_receive 100 rfl) (by decide) rfl ?_
                      refine g_iadd C (tdec DX8_receive 101 rfl) rfl ?_
                      refine g_iload (z := 1) C (tdec DX8_receive 102 rfl) rfl rfl ?_
                      refine g_iadd C (tdec DX8_receive 103 rfl) rfl ?_
                      obtain ⟨r213, y214, hF⟩ := o_bind hF
                      refine g_iald C 7 1 rfl rfl y214 (tdec DX8_receive 104 rfl) rfl ?_
                      refine g_icmp_ne (pt := 209) C (tdec DX8_receive 105 rfl) (by decide) rfl (fun h215 => ?_) (fun h215 => ?_)
                      · have hF := o_ifn hF h215
                        refine g_iconst (v := 0) C (tdec DX8_receive 123 rfl) (by decide) rfl ?_
                        refine g_istore (L' := [(7, .int 0), (6, .int ((22 * p1) + 0)), (5, .int (r150 - 1)), (3, .long r148), (2, .int p1), (0, .ref x_0), (1, .int p1)]) C (tdec DX8_receive 124 rfl) (by decide) rfl rfl ?_
                        refine g_iload (z := 0) C (tdec DX8_receive 125 rfl) rfl rfl ?_
                        refine g_if_ne (pt := 219) C (tdec DX8_receive 126 rfl) (by decide) rfl (fun h => absurd h (by decide)) (fun _ => ?_)
                        refine g_iconst (v := 3) C (tdec DX8_receive 127 rfl) (by decide) rfl ?_
                        have hr9 := o_some hF
                        subst hr9
                        exact g_iret C rfl rfl (tdec DX8_receive 128 rfl)
                      · have hF := o_ifp hF h215
                        refine g_aload_n (z := 4) C (tdec DX8_receive 106 rfl) rfl rfl rfl ?_
                        refine g_getf (C' := RX8) (T := TX8) (N := 27) (v := .ref x_8) C 0 8 (gIn iw_X8) rfl rfl (by decide) (gMem fl_X8_33) rfl rfl (tdec DX8_receive 107 rfl) rfl ?_
                        refine g_iload (z := 0) C (tdec DX8_receive 108 rfl) rfl rfl ?_
                        obtain ⟨r216, y217, hF⟩ := o_bind hF
                        refine g_iald C 8 1 rfl rfl y217 (tdec DX8_receive 109 rfl) rfl ?_
                        refine g_aload_n (z := 4) C (tdec DX8_receive 110 rfl) rfl rfl rfl ?_
                        refine g_getf (C' := RX8) (T := TX8) (N := 27) (v := .ref x_8) C 0 8 (gIn iw_X8) rfl rfl (by decide) (gMem fl_X8_33) rfl rfl (tdec DX8_receive 111 rfl) rfl ?_
                        refine g_bipush (v := 22) C (tdec DX8_receive 112 rfl) (by decide) rfl ?_
                        refine g_iload_n (z := 3) C (tdec DX8_receive 113 rfl) rfl rfl rfl ?_
                        refine g_imul C (tdec DX8_receive 114 rfl) rfl ?_
                        refine g_iconst (v := 2) C (tdec DX8_receive 115 rfl) (by decide) rfl ?_
                        refine g_iadd C (tdec DX8_receive 116 rfl) rfl ?_
                        refine g_iload (z := 1) C (tdec DX8_receive 117 rfl) rfl rfl ?_
                        refine g_iadd C (tdec DX8_receive 118 rfl) rfl ?_
                        obtain ⟨r218, y219, hF⟩ := o_bind hF
                        refine g_iald C 8 1 rfl rfl y219 (tdec DX8_receive 119 rfl) rfl ?_
                        refine g_icmp_ne (pt := 209) C (tdec DX8_receive 120 rfl) (by decide) rfl (fun h220 => ?_) (fun h220 => ?_)
                        · have hF := o_ifn hF h220
                          refine g_iconst (v := 0) C (tdec DX8_receive 123 rfl) (by decide) rfl ?_
                          refine g_istore (L' := [(7, .int 0), (6, .int ((22 * p1) + 0)), (5, .int (r150 - 1)), (3, .long r148), (2, .int p1), (0, .ref x_0), (1, .int p1)]) C (tdec DX8_receive 124 rfl) (by decide) rfl rfl ?_
                          refine g_iload (z := 0) C (tdec DX8_receive 125 rfl) rfl rfl ?_
                          refine g_if_ne (pt := 219) C (tdec DX8_receive 126 rfl) (by decide) rfl (fun h => absurd h (by decide)) (fun _ => ?_)
                          refine g_iconst (v := 3) C (tdec DX8_receive 127 rfl) (by decide) rfl ?_
                          have hr9 := o_some hF
                          subst hr9
                          exact g_iret C rfl rfl (tdec DX8_receive 128 rfl)
                        · have hF := o_ifp hF h220
                          refine g_iconst (v := 1) C (tdec DX8_receive 121 rfl) (by decide) rfl ?_
                          refine g_goto (pt := 210) C (tdec DX8_receive 122 rfl) (by decide) ?_
                          refine g_istore (L' := [(7, .int 1), (6, .int ((22 * p1) + 0)), (5, .int (r150 - 1)), (3, .long r148), (2, .int p1), (0, .ref x_0), (1, .int p1)]) C (tdec DX8_receive 124 rfl) (by decide) rfl rfl ?_
                          refine g_iload (z := 0) C (tdec DX8_receive 125 rfl) rfl rfl ?_
                          refine g_if_ne (pt := 219) C (tdec DX8_receive 126 rfl) (by decide) rfl (fun _ => ?_) (fun h => absurd h (by decide))
                          refine g_iconst (v := 0) C (tdec DX8_receive 129 rfl) (by decide) rfl ?_
                          refine g_istore (L' := [(8, .int 0), (7, .int 1), (6, .int ((22 * p1) + 0)), (5, .int (r150 - 1)), (3, .long r148), (2, .int p1), (0, .ref x_0), (1, .int p1)]) C (tdec DX8_receive 130 rfl) (by decide) rfl rfl ?_
                          refine g_sub (L' := [(0, .ref x_0), (1, .int p1), (2, .int p1), (3, .long r148), (5, .int (r150 - 1)), (6, .int ((22 * p1) + 0)), (7, .int 1), (8, .int 0)]) [6, 7, 5, 4, 3, 2, 1, 0] rfl ?_
                          refine c_FX8_receive_L222 C (fun xq221 w8_221 hF => ?_) 100000 _ _ hF
                          refine g_aload_n (z := 0) C (tdec DX8_receive 155 rfl) rfl rfl rfl ?_
                          refine g_getf (C' := RX8) (T := TX8) (N := 27) (v := .ref x_7) C 0 7 (gIn iw_X8) rfl rfl (by decide) (gMem fl_X8_30) rfl rfl (tdec DX8_receive 156 rfl) rfl ?_
                          refine g_bipush (v := 22) C (tdec DX8_receive 157 rfl) (by decide) rfl ?_
                          refine g_iload_n (z := 2) C (tdec DX8_receive 158 rfl) rfl rfl rfl ?_
                          refine g_imul C (tdec DX8_receive 159 rfl) rfl ?_
                          refine g_iconst (v := 1) C (tdec DX8_receive 160 rfl) (by decide) rfl ?_
                          refine g_iadd C (tdec DX8_receive 161 rfl) rfl ?_
                          refine g_aload_n (z := 0) C (tdec DX8_receive 162 rfl) rfl rfl rfl ?_
                          refine g_getf (C' := RX8) (T := TX8) (N := 27) (v := .ref x_7) C 0 7 (gIn iw_X8) rfl rfl (by decide) (gMem fl_X8_30) rfl rfl (tdec DX8_receive 163 rfl) rfl ?_
                          refine g_iload (z := 5) C (tdec DX8_receive 164 rfl) rfl rfl ?_
                          obtain ⟨r222, y223, hF⟩ := o_bind hF
                          refine g_iald C 7 1 rfl rfl y223 (tdec DX8_receive 165 rfl) rfl ?_
                          obtain ⟨g224, y225, hF⟩ := o_bind hF
                          refine g_iast (ws' := wM cB cI cJ cZ x_0 x_1 x_2 x_3 x_4 x_5 x_6 x_7 x_8 x_9 x_10 x_11 x_12 x_13 x_14 x_15 x_16 x_17 x_18 x_19 (MS_settt xq221 g224)) C 7 1 rfl rfl y225 rfl (tdec DX8_receive 166 rfl) rfl ?_
                          refine g_aload_n (z := 0) C (tdec DX8_receive 167 rfl) rfl rfl rfl ?_
                          refine g_getf (C' := RX8) (T := TX8) (N := 27) (v := .ref x_8) C 0 8 (gIn iw_X8) rfl rfl (by decide) (gMem fl_X8_33) rfl rfl (tdec DX8_receive 168 rfl) rfl ?_
                          refine g_bipush (v := 22) C (tdec DX8_receive 169 rfl) (by decide) rfl ?_
                          refine g_iload_n (z := 2) C (tdec DX8_receive 170 rfl) rfl rfl rfl ?_
                          refine g_imul C (tdec DX8_receive 171 rfl) rfl ?_
                          refine g_iconst (v := 1) C (tdec DX8_receive 172 rfl) (by decide) rfl ?_
                          refine g_iadd C (tdec DX8_receive 173 rfl) rfl ?_
                          refine g_aload_n (z := 0) C (tdec DX8_receive 174 rfl) rfl rfl rfl ?_
                          refine g_getf (C' := RX8) (T := TX8) (N := 27) (v := .ref x_8) C 0 8 (gIn iw_X8) rfl rfl (by decide) (gMem fl_X8_33) rfl rfl (tdec DX8_receive 175 rfl) rfl ?_
                          refine g_iload (z := 5) C (tdec DX8_receive 176 rfl) rfl rfl ?_
                          obtain ⟨r226, y227, hF⟩ := o_bind hF
                          refine g_iald C 8 1 rfl rfl y227 (tdec DX8_receive 177 rfl) rfl ?_
                          obtain ⟨g228, y229, hF⟩ := o_bind hF
                          refine g_iast (ws' := wM cB cI cJ cZ x_0 x_1 x_2 x_3 x_4 x_5 x_6 x_7 x_8 x_9 x_10 x_11 x_12 x_13 x_14 x_15 x_16 x_17 x_18 x_19 (MS_settb (MS_settt xq221 g224) g228)) C 8 1 rfl rfl y229 rfl (tdec DX8_receive 178 rfl) rfl ?_
                          refine g_aload_n (z := 0) C (tdec DX8_receive 179 rfl) rfl rfl rfl ?_
                          refine g_getf (C' := RX8) (T := TX8) (N := 27) (v := .ref x_13) C 0 13 (gIn iw_X8) rfl rfl (by decide) (gMem fl_X8_48) rfl rfl (tdec DX8_receive 180 rfl) rfl ?_
                          refine g_iload_n (z := 2) C (tdec DX8_receive 181 rfl) rfl rfl rfl ?_
                          refine g_iconst (v := 1) C (tdec DX8_receive 182 rfl) (by decide) rfl ?_
                          obtain ⟨g230, y231, hF⟩ := o_bind hF
                          refine g_zast (ws' := wM cB cI cJ cZ x_0 x_1 x_2 x_3 x_4 x_5 x_6 x_7 x_8 x_9 x_10 x_11 x_12 x_13 x_14 x_15 x_16 x_17 x_18 x_19 (MS_setbusy (MS_settb (MS_settt xq221 g224) g228) g230)) C 13 3 rfl rfl y231 rfl (tdec DX8_receive 183 rfl) rfl ?_
                          refine g_aload_n (z := 0) C (tdec DX8_receive 184 rfl) rfl rfl rfl ?_
                          refine g_getf (C' := RX8) (T := TX8) (N := 27) (v := .ref x_14) C 0 14 (gIn iw_X8) rfl rfl (by decide) (gMem fl_X8_51) rfl rfl (tdec DX8_receive 185 rfl) rfl ?_
                          refine g_iload_n (z := 2) C (tdec DX8_receive 186 rfl) rfl rfl rfl ?_
                          refine g_bipush (v := 25) C (tdec DX8_receive 187 rfl) (by decide) rfl ?_
                          obtain ⟨g232, y233, hF⟩ := o_bind hF
                          refine g_iast (ws' := wM cB cI cJ cZ x_0 x_1 x_2 x_3 x_4 x_5 x_6 x_7 x_8 x_9 x_10 x_11 x_12 x_13 x_14 x_15 x_16 x_17 x_18 x_19 (MS_setat (MS_setbusy (MS_settb (MS_settt xq221 g224) g228) g230) g232)) C 14 1 rfl rfl y233 rfl (tdec DX8_receive 188 rfl) rfl ?_
                          refine g_aload_n (z := 0) C (tdec DX8_receive 189 rfl) rfl rfl rfl ?_
                          refine g_getf (C' := RX8) (T := TX8) (N := 27) (v := .ref x_15) C 0 15 (gIn iw_X8) rfl rfl (by decide) (gMem fl_X8_54) rfl rfl (tdec DX8_receive 190 rfl) rfl ?_
                          refine g_iload_n (z := 2) C (tdec DX8_receive 191 rfl) rfl rfl rfl ?_
                          refine g_iconst (v := 0) C (tdec DX8_receive 192 rfl) (by decide) rfl ?_
                          obtain ⟨g234, y235, hF⟩ := o_bind hF
                          refine g_iast (ws' := wM cB cI cJ cZ x_0 x_1 x_2 x_3 x_4 x_5 x_6 x_7 x_8 x_9 x_10 x_11 x_12 x_13 x_14 x_15 x_16 x_17 x_18 x_19 (MS_setrec (MS_setat (MS_setbusy (MS_settb (MS_settt xq221 g224) g228) g230) g232) g234)) C 15 1 rfl rfl y235 rfl (tdec DX8_receive 193 rfl) rfl ?_
                          refine g_aload_n (z := 0) C (tdec DX8_receive 194 rfl) rfl rfl rfl ?_
                          refine g_getf (C' := RX8) (T := TX8) (N := 27) (v := .ref x_16) C 0 16 (gIn iw_X8) rfl rfl (by decide) (gMem fl_X8_57) rfl rfl (tdec DX8_receive 195 rfl) rfl ?_
                          refine g_iload_n (z := 2) C (tdec DX8_receive 196 rfl) rfl rfl rfl ?_
                          refine g_aload_n (z := 0) C (tdec DX8_receive 197 rfl) rfl rfl rfl ?_
                          refine g_bipush (v := 9) C (tdec DX8_receive 198 rfl) (by decide) rfl ?_
                          refine g_bipush (v := 8) C (tdec DX8_receive 199 rfl) (by decide) rfl ?_
                          obtain ⟨r236, y237, hF⟩ := o_bind hF
                          refine g_callVlRS (q0 := 0) (S := [wM cB cI cJ cZ x_0 x_1 x_2 x_3 x_4 x_5 x_6 x_7 x_8 x_9 x_10 x_11 x_12 x_13 x_14 x_15 x_16 x_17 x_18 x_19 (MS_setrec (MS_setat (MS_setbusy (MS_settb (MS_settt xq221 g224) g228) g230) g232) g234)]) (S0 := [wM cB cI cJ cZ x_0 x_1 x_2 x_3 x_4 x_5 x_6 x_7 x_8 x_9 x_10 x_11 x_12 x_13 x_14 x_15 x_16 x_17 x_18 x_19 (MS_setrec (MS_setat (MS_setbusy (MS_settb (MS_settt xq221 g224) g228) g230) g232) g234)]) C (c_X8_number l D cB cI cJ cZ x_0 x_1 x_2 x_3 x_4 x_5 x_6 x_7 x_8 x_9 x_10 x_11 x_12 x_13 x_14 x_15 x_16 x_17 x_18 x_19 y237) rfl rfl (gIV ml_X8_186 im_X8_number sl_X8_number in_X8 cd_X8_number) rfl eX8_number rfl ⟨rfl, rfl⟩ ⟨Nat.le_of_ble_eq_true rfl, Nat.le_of_ble_eq_true rfl⟩ rfl rfl rfl [0] rfl rfl rfl (Nat.le_of_ble_eq_true rfl) (tdec DX8_receive 200 rfl) rfl ?_
                          obtain ⟨g238, y239, hF⟩ := o_bind hF
                          refine g_last (ws' := wM cB cI cJ cZ x_0 x_1 x_2 x_3 x_4 x_5 x_6 x_7 x_8 x_9 x_10 x_11 x_12 x_13 x_14 x_15 x_16 x_17 x_18 x_19 (MS_settgt (MS_setrec (MS_setat (MS_setbusy (MS_settb (MS_settt xq221 g224) g228) g230) g232) g234) g238)) C 16 2 rfl rfl y239 rfl (tdec DX8_receive 201 rfl) rfl ?_
                          refine g_iconst (v := 0) C (tdec DX8_receive 202 rfl) (by decide) rfl ?_
                          have hr9 := o_some hF
                          subst hr9
                          exact g_iret C rfl rfl (tdec DX8_receive 203 rfl)
                    · have hF := o_ifn hF h210
                      refine g_aload_n (z := 4) C (tdec DX8_receive 81 rfl) rfl rfl rfl ?_
                      refine g_getf (C' := RX8) (T := TX8) (N := 27) (v := .ref x_7) C 0 7 (gIn iw_X8) rfl rfl (by decide) (gMem fl_X8_30) rfl rfl (tdec DX8_receive 82 rfl) rfl ?_
                      refine g_iload (z := 0) C (tdec DX8_receive 83 rfl) rfl rfl ?_
                      obtain ⟨r240, y241, hF⟩ := o_bind hF
                      refine g_iald C 7 1 rfl rfl y241 (tdec DX8_receive 84 rfl) rfl ?_
                      refine g_iconst (v := (-1)) C (tdec DX8_receive 85 rfl) (by decide) rfl ?_
                      refine g_icmp_ne (pt := 153) C (tdec DX8_receive 86 rfl) (by decide) rfl (fun h242 => ?_) (fun h242 => ?_)
                      · have hF := o_ifn hF h242
                        refine g_iconst (v := 0) C (tdec DX8_receive 89 rfl) (by decide) rfl ?_
                        refine g_goto (pt := 210) C (tdec DX8_receive 90 rfl) (by decide) ?_
                        refine g_istore (L' := [(7, .int 0), (6, .int ((22 * p1) + 0)), (5, .int (r150 - 1)), (3, .long r148), (2, .int p1), (0, .ref x_0), (1, .int p1)]) C (tdec DX8_receive 124 rfl) (by decide) rfl rfl ?_
                        refine g_iload (z := 0) C (tdec DX8_receive 125 rfl) rfl rfl ?_
                        refine g_if_ne (pt := 219) C (tdec DX8_receive 126 rfl) (by decide) rfl (fun h => absurd h (by decide)) (fun _ => ?_)
                        refine g_iconst (v := 3) C (tdec DX8_receive 127 rfl) (by decide) rfl ?_
                        have hr9 := o_some hF
                        subst hr9
                        exact g_iret C rfl rfl (tdec DX8_receive 128 rfl)
                      · have hF := o_ifp hF h242
                        refine g_iconst (v := 1) C (tdec DX8_receive 87 rfl) (by decide) rfl ?_
                        refine g_goto (pt := 210) C (tdec DX8_receive 88 rfl) (by decide) ?_
                        refine g_istore (L' := [(7, .int 1), (6, .int ((22 * p1) + 0)), (5, .int (r150 - 1)), (3, .long r148), (2, .int p1), (0, .ref x_0), (1, .int p1)]) C (tdec DX8_receive 124 rfl) (by decide) rfl rfl ?_
                        refine g_iload (z := 0) C (tdec DX8_receive 125 rfl) rfl rfl ?_
                        refine g_if_ne (pt := 219) C (tdec DX8_receive 126 rfl) (by decide) rfl (fun _ => ?_) (fun h => absurd h (by decide))
                        refine g_iconst (v := 0) C (tdec DX8_receive 129 rfl) (by decide) rfl ?_
                        refine g_istore (L' := [(8, .int 0), (7, .int 1), (6, .int ((22 * p1) + 0)), (5, .int (r150 - 1)), (3, .long r148), (2, .int p1), (0, .ref x_0), (1, .int p1)]) C (tdec DX8_receive 130 rfl) (by decide) rfl rfl ?_
                        refine g_sub (L' := [(0, .ref x_0), (1, .int p1), (2, .int p1), (3, .long r148), (5, .int (r150 - 1)), (6, .int ((22 * p1) + 0)), (7, .int 1), (8, .int 0)]) [6, 7, 5, 4, 3, 2, 1, 0] rfl ?_
                        refine c_FX8_receive_L222 C (fun xq243 w8_243 hF => ?_) 100000 _ _ hF
                        refine g_aload_n (z := 0) C (tdec DX8_receive 155 rfl) rfl rfl rfl ?_
                        refine g_getf (C' := RX8) (T := TX8) (N := 27) (v := .ref x_7) C 0 7 (gIn iw_X8) rfl rfl (by decide) (gMem fl_X8_30) rfl rfl (tdec DX8_receive 156 rfl) rfl ?_
                        refine g_bipush (v := 22) C (tdec DX8_receive 157 rfl) (by decide) rfl ?_
                        refine g_iload_n (z := 2) C (tdec DX8_receive 158 rfl) rfl rfl rfl ?_
                        refine g_imul C (tdec DX8_receive 159 rfl) rfl ?_
                        refine g_iconst (v := 1) C (tdec DX8_receive 160 rfl) (by decide) rfl ?_
                        refine g_iadd C (tdec DX8_receive 161 rfl) rfl ?_
                        refine g_aload_n (z := 0) C (tdec DX8_receive 162 rfl) rfl rfl rfl ?_
                        refine g_getf (C' := RX8) (T := TX8) (N := 27) (v := .ref x_7) C 0 7 (gIn iw_X8) rfl rfl (by decide) (gMem fl_X8_30) rfl rfl (tdec DX8_receive 163 rfl) rfl ?_
                        refine g_iload (z := 5) C (tdec DX8_receive 164 rfl) rfl rfl ?_
                        obtain ⟨r244, y245, hF⟩ := o_bind hF
                        refine g_iald C 7 1 rfl rfl y245 (tdec DX8_receive 165 rfl) rfl ?_
                        obtain ⟨g246, y247, hF⟩ := o_bind hF
                        refine g_iast (ws' := wM cB cI cJ cZ x_0 x_1 x_2 x_3 x_4 x_5 x_6 x_7 x_8 x_9 x_10 x_11 x_12 x_13 x_14 x_15 x_16 x_17 x_18 x_19 (MS_settt xq243 g246)) C 7 1 rfl rfl y247 rfl (tdec DX8_receive 166 rfl) rfl ?_
                        refine g_aload_n (z := 0) C (tdec DX8_receive 167 rfl) rfl rfl rfl ?_
                        refine g_getf (C' := RX8) (T := TX8) (N := 27) (v := .ref x_8) C 0 8 (gIn iw_X8) rfl rfl (by decide) (gMem fl_X8_33) rfl rfl (tdec DX8_receive 168 rfl) rfl ?_
                        refine g_bipush (v := 22) C (tdec DX8_receive 169 rfl) (by decide) rfl ?_
                        refine g_iload_n (z := 2) C (tdec DX8_receive 170 rfl) rfl rfl rfl ?_
                        refine g_imul C (tdec DX8_receive 171 rfl) rfl ?_
                        refine g_iconst (v := 1) C (tdec DX8_receive 172 rfl) (by decide) rfl ?_
                        refine g_iadd C (tdec DX8_receive 173 rfl) rfl ?_
                        refine g_aload_n (z := 0) C (tdec DX8_receive 174 rfl) rfl rfl rfl ?_
                        refine g_getf (C' := RX8) (T := TX8) (N := 27) (v := .ref x_8) C 0 8 (gIn iw_X8) rfl rfl (by decide) (gMem fl_X8_33) rfl rfl (tdec DX8_receive 175 rfl) rfl ?_
                        refine g_iload (z := 5) C (tdec DX8_receive 176 rfl) rfl rfl ?_
                        obtain ⟨r248, y249, hF⟩ := o_bind hF
                        refine g_iald C 8 1 rfl rfl y249 (tdec DX8_receive 177 rfl) rfl ?_
                        obtain ⟨g250, y251, hF⟩ := o_bind hF
                        refine g_iast (ws' := wM cB cI cJ cZ x_0 x_1 x_2 x_3 x_4 x_5 x_6 x_7 x_8 x_9 x_10 x_11 x_12 x_13 x_14 x_15 x_16 x_17 x_18 x_19 (MS_settb (MS_settt xq243 g246) g250)) C 8 1 rfl rfl y251 rfl (tdec DX8_receive 178 rfl) rfl ?_
                        refine g_aload_n (z := 0) C (tdec DX8_receive 179 rfl) rfl rfl rfl ?_
                        refine g_getf (C' := RX8) (T := TX8) (N := 27) (v := .ref x_13) C 0 13 (gIn iw_X8) rfl rfl (by decide) (gMem fl_X8_48) rfl rfl (tdec DX8_receive 180 rfl) rfl ?_
                        refine g_iload_n (z := 2) C (tdec DX8_receive 181 rfl) rfl rfl rfl ?_
                        refine g_iconst (v := 1) C (tdec DX8_receive 182 rfl) (by decide) rfl ?_
                        obtain ⟨g252, y253, hF⟩ := o_bind hF
                        refine g_zast (ws' := wM cB cI cJ cZ x_0 x_1 x_2 x_3 x_4 x_5 x_6 x_7 x_8 x_9 x_10 x_11 x_12 x_13 x_14 x_15 x_16 x_17 x_18 x_19 (MS_setbusy (MS_settb (MS_settt xq243 g246) g250) g252)) C 13 3 rfl rfl y253 rfl (tdec DX8_receive 183 rfl) rfl ?_
                        refine g_aload_n (z := 0) C (tdec DX8_receive 184 rfl) rfl rfl rfl ?_
                        refine g_getf (C' := RX8) (T := TX8) (N := 27) (v := .ref x_14) C 0 14 (gIn iw_X8) rfl rfl (by decide) (gMem fl_X8_51) rfl rfl (tdec DX8_receive 185 rfl) rfl ?_
                        refine g_iload_n (z := 2) C (tdec DX8_receive 186 rfl) rfl rfl rfl ?_
                        refine g_bipush (v := 25) C (tdec DX8_receive 187 rfl) (by decide) rfl ?_
                        obtain ⟨g254, y255, hF⟩ := o_bind hF
                        refine g_iast (ws' := wM cB cI cJ cZ x_0 x_1 x_2 x_3 x_4 x_5 x_6 x_7 x_8 x_9 x_10 x_11 x_12 x_13 x_14 x_15 x_16 x_17 x_18 x_19 (MS_setat (MS_setbusy (MS_settb (MS_settt xq243 g246) g250) g252) g254)) C 14 1 rfl rfl y255 rfl (tdec DX8_receive 188 rfl) rfl ?_
                        refine g_aload_n (z := 0) C (tdec DX8_receive 189 rfl) rfl rfl rfl ?_
                        refine g_getf (C' := RX8) (T := TX8) (N := 27) (v := .ref x_15) C 0 15 (gIn iw_X8) rfl rfl (by decide) (gMem fl_X8_54) rfl rfl (tdec DX8_receive 190 rfl) rfl ?_
                        refine g_iload_n (z := 2) C (tdec DX8_receive 191 rfl) rfl rfl rfl ?_
                        refine g_iconst (v := 0) C (tdec DX8_receive 192 rfl) (by decide) rfl ?_
                        obtain ⟨g256, y257, hF⟩ := o_bind hF
                        refine g_iast (ws' := wM cB cI cJ cZ x_0 x_1 x_2 x_3 x_4 x_5 x_6 x_7 x_8 x_9 x_10 x_11 x_12 x_13 x_14 x_15 x_16 x_17 x_18 x_19 (MS_setrec (MS_setat (MS_setbusy (MS_settb (MS_settt xq243 g246) g250) g252) g254) g256)) C 15 1 rfl rfl y257 rfl (tdec DX8_receive 193 rfl) rfl ?_
                        refine g_aload_n (z := 0) C (tdec DX8_receive 194 rfl) rfl rfl rfl ?_
                        refine g_getf (C' := RX8) (T := TX8) (N := 27) (v := .ref x_16) C 0 16 (gIn iw_X8) rfl rfl (by decide) (gMem fl_X8_57) rfl rfl (tdec DX8_receive 195 rfl) rfl ?_
                        refine g_iload_n (z := 2) C (tdec DX8_receive 196 rfl) rfl rfl rfl ?_
                        refine g_aload_n (z := 0) C (tdec DX8_receive 197 rfl) rfl rfl rfl ?_
                        refine g_bipush (v := 9) C (tdec DX8_receive 198 rfl) (by decide) rfl ?_
                        refine g_bipush (v := 8) C (tdec DX8_receive 199 rfl) (by decide) rfl ?_
                        obtain ⟨r258, y259, hF⟩ := o_bind hF
                        refine g_callVlRS (q0 := 0) (S := [wM cB cI cJ cZ x_0 x_1 x_2 x_3 x_4 x_5 x_6 x_7 x_8 x_9 x_10 x_11 x_12 x_13 x_14 x_15 x_16 x_17 x_18 x_19 (MS_setrec (MS_setat (MS_setbusy (MS_settb (MS_settt xq243 g246) g250) g252) g254) g256)]) (S0 := [wM cB cI cJ cZ x_0 x_1 x_2 x_3 x_4 x_5 x_6 x_7 x_8 x_9 x_10 x_11 x_12 x_13 x_14 x_15 x_16 x_17 x_18 x_19 (MS_setrec (MS_setat (MS_setbusy (MS_settb (MS_settt xq243 g246) g250) g252) g254) g256)]) C (c_X8_number l D cB cI cJ cZ x_0 x_1 x_2 x_3 x_4 x_5 x_6 x_7 x_8 x_9 x_10 x_11 x_12 x_13 x_14 x_15 x_16 x_17 x_18 x_19 y259) rfl rfl (gIV ml_X8_186 im_X8_number sl_X8_number in_X8 cd_X8_number) rfl eX8_number rfl ⟨rfl, rfl⟩ ⟨Nat.le_of_ble_eq_true rfl, Nat.le_of_ble_eq_true rfl⟩ rfl rfl rfl [0] rfl rfl rfl (Nat.le_of_ble_eq_true rfl) (tdec DX8_receive 200 rfl) rfl ?_
                        obtain ⟨g260, y261, hF⟩ := o_bind hF
                        refine g_last (ws' := wM cB cI cJ cZ x_0 x_1 x_2 x_3 x_4 x_5 x_6 x_7 x_8 x_9 x_10 x_11 x_12 x_13 x_14 x_15 x_16 x_17 x_18 x_19 (MS_settgt (MS_setrec (MS_setat (MS_setbusy (MS_settb (MS_settt xq243 g246) g250) g252) g254) g256) g260)) C 16 2 rfl rfl y261 rfl (tdec DX8_receive 201 rfl) rfl ?_
                        refine g_iconst (v := 0) C (tdec DX8_receive 202 rfl) (by decide) rfl ?_
                        have hr9 := o_some hF
                        subst hr9
                        exact g_iret C rfl rfl (tdec DX8_receive 203 rfl)
                  · have hF := o_ifn hF h209
                    refine g_goto (pt := 123) C (tdec DX8_receive 68 rfl) (by decide) ?_
                    refine g_iconst (v := 2) C (tdec DX8_receive 71 rfl) (by decide) rfl ?_
                    have hr9 := o_some hF
                    subst hr9
                    exact g_iret C rfl rfl (tdec DX8_receive 72 rfl)
            · have hF := o_ifp hF h147
              refine g_iconst (v := 1) C (tdec DX8_receive 37 rfl) (by decide) rfl ?_
              have hr9 := o_some hF
              subst hr9
              exact g_iret C rfl rfl (tdec DX8_receive 38 rfl)
      · have hF := o_ifn hF h140
        refine g_bipush (v := 6) C (tdec DX8_receive 20 rfl) (by decide) rfl ?_
        have hr9 := o_some hF
        subst hr9
        exact g_iret C rfl rfl (tdec DX8_receive 21 rfl)
    · have hF := o_ifn hF h137
      refine g_iconst (v := 0) C (tdec DX8_receive 11 rfl) (by decide) rfl ?_
      have hr9 := o_some hF
      subst hr9
      exact g_iret C rfl rfl (tdec DX8_receive 12 rfl)
def FX8_stops (x0 : MS) (p1 : Int32) : Option (MS) :=
  (ast 2 (MS_busy x0) p1 (vp_nar .boolean 0)).bind fun g1 =>
  (FX8_sweeps (MS_setbusy x0 g1) p1).bind fun s3 =>
  some s3
def rX8_stops : Room := { frames := 2, cells := 0, slots := 0, locals := 46 }
set_option maxHeartbeats 4000000 in
set_option maxRecDepth 100000 in
theorem c_X8_stops (l : Launch) (D : va_G) (cB cI cJ cZ : ClassId) (x_0 x_1 x_2 x_3 x_4 x_5 x_6 x_7 x_8 x_9 x_10 x_11 x_12 x_13 x_14 x_15 x_16 x_17 x_18 x_19 : Nat) {x0 : MS} {p1 : Int32} {res : MS} (hF : FX8_stops x0 p1 = some res) : gMv l yX8_stops wsX8_stops rX8_stops D (gT cB cI cJ cZ) [.ref x_0, .int p1] (wM cB cI cJ cZ x_0 x_1 x_2 x_3 x_4 x_5 x_6 x_7 x_8 x_9 x_10 x_11 x_12 x_13 x_14 x_15 x_16 x_17 x_18 x_19 x0) (wM cB cI cJ cZ x_0 x_1 x_2 x_3 x_4 x_5 x_6 x_7 x_8 x_9 x_10 x_11 x_12 x_13 x_14 x_15 x_16 x_17 x_18 x_19 res) := by
  refine g_enter (own := RX8) (free := (fun sz => va_A (wM cB cI cJ cZ x_0 x_1 x_2 x_3 x_4 x_5 x_6 x_7 x_8 x_9 x_10 x_11 x_12 x_13 x_14 x_15 x_16 x_17 x_18 x_19 x0) sz)) (Qc := (fun sz => gQv D (wM cB cI cJ cZ x_0 x_1 x_2 x_3 x_4 x_5 x_6 x_7 x_8 x_9 x_10 x_11 x_12 x_13 x_14 x_15 x_16 x_17 x_18 x_19 x0) sz (wM cB cI cJ cZ x_0 x_1 x_2 x_3 x_4 x_5 x_6 x_7 x_8 x_9 x_10 x_11 x_12 x_13 x_14 x_15 x_16 x_17 x_18 x_19 res))) (fun sz => va_A (wM cB cI cJ cZ x_0 x_1 x_2 x_3 x_4 x_5 x_6 x_7 x_8 x_9 x_10 x_11 x_12 x_13 x_14 x_15 x_16 x_17 x_18 x_19 x0) sz) (fun sz => Or.inr rfl) rfl (by decide) rfl (Nat.le_of_ble_eq_true rfl) rfl ?_
  intro p e s m args below meth c C
  unfold FX8_stops at hF
  refine g_aload_n (z := 0) C (tdec DX8_stops 0 rfl) rfl rfl rfl ?_
  refine g_getf (C' := RX8) (T := TX8) (N := 27) (v := .ref x_13) C 0 13 (gIn iw_X8) rfl rfl (by decide) (gMem fl_X8_48) rfl rfl (tdec DX8_stops 1 rfl) rfl ?_
  refine g_iload_n (z := 1) C (tdec DX8_stops 2 rfl) rfl rfl rfl ?_
  refine g_iconst (v := 0) C (tdec DX8_stops 3 rfl) (by decide) rfl ?_
  obtain ⟨g1, y2, hF⟩ := o_bind hF
  refine g_zast (ws' := wM cB cI cJ cZ x_0 x_1 x_2 x_3 x_4 x_5 x_6 x_7 x_8 x_9 x_10 x_11 x_12 x_13 x_14 x_15 x_16 x_17 x_18 x_19 (MS_setbusy x0 g1)) C 13 3 rfl rfl y2 rfl (tdec DX8_stops 4 rfl) rfl ?_
  refine g_aload_n (z := 0) C (tdec DX8_stops 5 rfl) rfl rfl rfl ?_
  refine g_iload_n (z := 1) C (tdec DX8_stops 6 rfl) rfl rfl rfl ?_
  obtain ⟨s3, y4, hF⟩ := o_bind hF
  refine g_callVvMS (q0 := 0) (W' := wM cB cI cJ cZ x_0 x_1 x_2 x_3 x_4 x_5 x_6 x_7 x_8 x_9 x_10 x_11 x_12 x_13 x_14 x_15 x_16 x_17 x_18 x_19 s3) (S := [wM cB cI cJ cZ x_0 x_1 x_2 x_3 x_4 x_5 x_6 x_7 x_8 x_9 x_10 x_11 x_12 x_13 x_14 x_15 x_16 x_17 x_18 x_19 (MS_setbusy x0 g1)]) (S0 := [wM cB cI cJ cZ x_0 x_1 x_2 x_3 x_4 x_5 x_6 x_7 x_8 x_9 x_10 x_11 x_12 x_13 x_14 x_15 x_16 x_17 x_18 x_19 (MS_setbusy x0 g1)]) (S1 := [wM cB cI cJ cZ x_0 x_1 x_2 x_3 x_4 x_5 x_6 x_7 x_8 x_9 x_10 x_11 x_12 x_13 x_14 x_15 x_16 x_17 x_18 x_19 s3]) (S' := [wM cB cI cJ cZ x_0 x_1 x_2 x_3 x_4 x_5 x_6 x_7 x_8 x_9 x_10 x_11 x_12 x_13 x_14 x_15 x_16 x_17 x_18 x_19 s3]) C (c_X8_sweeps l D cB cI cJ cZ x_0 x_1 x_2 x_3 x_4 x_5 x_6 x_7 x_8 x_9 x_10 x_11 x_12 x_13 x_14 x_15 x_16 x_17 x_18 x_19 y4) rfl rfl (gIV ml_X8_135 im_X8_sweeps sl_X8_sweeps in_X8 cd_X8_sweeps) rfl eX8_sweeps rfl ⟨rfl, rfl⟩ ⟨Nat.le_of_ble_eq_true rfl, Nat.le_of_ble_eq_true rfl⟩ rfl rfl rfl [0] rfl rfl rfl rfl (gA_cons aM gA_nil) rfl rfl (Nat.le_of_ble_eq_true rfl) (tdec DX8_stops 7 rfl) rfl ?_
  have hr9 := o_some hF
  subst hr9
  exact g_vret C rfl (tdec DX8_stops 8 rfl)
def FX8_endsHere (x0 : MS) (p1 : Int32) : Option (Int32 × MS) :=
  (ald 2 (MS_at x0) p1).bind fun r1 =>
  (FX8_isWhole x0 r1 13).bind fun r3 =>
  if r3 = 0 then
    some (1, x0)
  else
    (ald 2 (MS_at x0) p1).bind fun r6 =>
    (FX8_number x0 (r6 + 1) 4).bind fun r8 =>
    (ald 2 (MS_rec x0) p1).bind fun r10 =>
    if (lg_cmp r8 (((r10 + 1) : Int32).toInt64)) = 0 then
      (ald 2 (MS_at x0) p1).bind fun r13 =>
      if (MS_len x0) = (r13 + 13) then
        (ald 2 (MS_snaps x0) p1).bind fun r16 =>
        if r16 = 20 then
          some (5, x0)
        else
          (ald 44 (MS_tt x0) ((22 * p1) + 1)).bind fun r19 =>
          (ast 44 (MS_tt x0) ((22 * p1) + 0) r19).bind fun g21 =>
          (ald 44 (MS_tb x0) ((22 * p1) + 1)).bind fun r23 =>
          (ast 44 (MS_tb x0) ((22 * p1) + 0) r23).bind fun g25 =>
          (ald 2 (MS_tgt x0) p1).bind fun r27 =>
          (FX8_snaps (MS_settb (MS_settt x0 g21) g25) p1 0 r27).bind fun s29 =>
          some (0, s29)
      else
        some (1, x0)
    else
      some (1, x0)
def rX8_endsHere : Room := { frames := 2, cells := 0, slots := 0, locals := 47 }
set_option maxHeartbeats 4000000 in
set_option maxRecDepth 100000 in
theorem c_X8_endsHere (l : Launch) (D : va_G) (cB cI cJ cZ : ClassId) (x_0 x_1 x_2 x_3 x_4 x_5 x_6 x_7 x_8 x_9 x_10 x_11 x_12 x_13 x_14 x_15 x_16 x_17 x_18 x_19 : Nat) {x0 : MS} {p1 : Int32} {res : Int32 × MS} (hF : FX8_endsHere x0 p1 = some res) : gMi l yX8_endsHere wsX8_endsHere rX8_endsHere D (gT cB cI cJ cZ) [.ref x_0, .int p1] (wM cB cI cJ cZ x_0 x_1 x_2 x_3 x_4 x_5 x_6 x_7 x_8 x_9 x_10 x_11 x_12 x_13 x_14 x_15 x_16 x_17 x_18 x_19 x0) res.1 (wM cB cI cJ cZ x_0 x_1 x_2 x_3 x_4 x_5 x_6 x_7 x_8 x_9 x_10 x_11 x_12 x_13 x_14 x_15 x_16 x_17 x_18 x_19 res.2) := by
  refine g_enter (own := RX8) (free := (fun sz => va_A (wM cB cI cJ cZ x_0 x_1 x_2 x_3 x_4 x_5 x_6 x_7 x_8 x_9 x_10 x_11 x_12 x_13 x_14 x_15 x_16 x_17 x_18 x_19 x0) sz)) (Qc := (fun sz => gQi D (wM cB cI cJ cZ x_0 x_1 x_2 x_3 x_4 x_5 x_6 x_7 x_8 x_9 x_10 x_11 x_12 x_13 x_14 x_15 x_16 x_17 x_18 x_19 x0) sz res.1 (wM cB cI cJ cZ x_0 x_1 x_2 x_3 x_4 x_5 x_6 x_7 x_8 x_9 x_10 x_11 x_12 x_13 x_14 x_15 x_16 x_17 x_18 x_19 res.2))) (fun sz => va_A (wM cB cI cJ cZ x_0 x_1 x_2 x_3 x_4 x_5 x_6 x_7 x_8 x_9 x_10 x_11 x_12 x_13 x_14 x_15 x_16 x_17 x_18 x_19 x0) sz) (fun sz => Or.inr rfl) rfl (by decide) rfl (Nat.le_of_ble_eq_true rfl) rfl ?_
  intro p e s m args below meth c C
  unfold FX8_endsHere at hF
  refine g_aload_n (z := 0) C (tdec DX8_endsHere 0 rfl) rfl rfl rfl ?_
  refine g_aload_n (z := 0) C (tdec DX8_endsHere 1 rfl) rfl rfl rfl ?_
  refine g_getf (C' := RX8) (T := TX8) (N := 27) (v := .ref x_14) C 0 14 (gIn iw_X8) rfl rfl (by decide) (gMem fl_X8_51) rfl rfl (tdec DX8_endsHere 2 rfl) rfl ?_
  refine g_iload_n (z := 1) C (tdec DX8_endsHere 3 rfl) rfl rfl rfl ?_
  obtain ⟨r1, y2, hF⟩ := o_bind hF
  refine g_iald C 14 1 rfl rfl y2 (tdec DX8_endsHere 4 rfl) rfl ?_
  refine g_bipush (v := 13) C (tdec DX8_endsHere 5 rfl) (by decide) rfl ?_
  obtain ⟨r3, y4, hF⟩ := o_bind hF
  refine g_callViRS (q0 := 0) (S := [wM cB cI cJ cZ x_0 x_1 x_2 x_3 x_4 x_5 x_6 x_7 x_8 x_9 x_10 x_11 x_12 x_13 x_14 x_15 x_16 x_17 x_18 x_19 x0]) (S0 := [wM cB cI cJ cZ x_0 x_1 x_2 x_3 x_4 x_5 x_6 x_7 x_8 x_9 x_10 x_11 x_12 x_13 x_14 x_15 x_16 x_17 x_18 x_19 x0]) C (c_X8_isWhole l D cB cI cJ cZ x_0 x_1 x_2 x_3 x_4 x_5 x_6 x_7 x_8 x_9 x_10 x_11 x_12 x_13 x_14 x_15 x_16 x_17 x_18 x_19 y4) rfl rfl (gIV ml_X8_189 im_X8_isWhole sl_X8_isWhole in_X8 cd_X8_isWhole) rfl eX8_isWhole rfl ⟨rfl, rfl⟩ ⟨Nat.le_of_ble_eq_true rfl, Nat.le_of_ble_eq_true rfl⟩ rfl rfl rfl [0] rfl rfl rfl (Nat.le_of_ble_eq_true rfl) (tdec DX8_endsHere 6 rfl) rfl ?_
  refine g_if_eq (pt := 57) C (tdec DX8_endsHere 7 rfl) (by decide) rfl (fun h5 => ?_) (fun h5 => ?_)
  · have hF := o_ifp hF h5
    refine g_iconst (v := 1) C (tdec DX8_endsHere 35 rfl) (by decide) rfl ?_
    have hr9 := o_some hF
    subst hr9
    exact g_iret C rfl rfl (tdec DX8_endsHere 36 rfl)
  · have hF := o_ifn hF h5
    refine g_aload_n (z := 0) C (tdec DX8_endsHere 8 rfl) rfl rfl rfl ?_
    refine g_aload_n (z := 0) C (tdec DX8_endsHere 9 rfl) rfl rfl rfl ?_
    refine g_getf (C' := RX8) (T := TX8) (N := 27) (v := .ref x_14) C 0 14 (gIn iw_X8) rfl rfl (by decide) (gMem fl_X8_51) rfl rfl (tdec DX8_endsHere 10 rfl) rfl ?_
    refine g_iload_n (z := 1) C (tdec DX8_endsHere 11 rfl) rfl rfl rfl ?_
    obtain ⟨r6, y7, hF⟩ := o_bind hF
    refine g_iald C 14 1 rfl rfl y7 (tdec DX8_endsHere 12 rfl) rfl ?_
    refine g_iconst (v := 1) C (tdec DX8_endsHere 13 rfl) (by decide) rfl ?_
    refine g_iadd C (tdec DX8_endsHere 14 rfl) rfl ?_
    refine g_iconst (v := 4) C (tdec DX8_endsHere 15 rfl) (by decide) rfl ?_
    obtain ⟨r8, y9, hF⟩ := o_bind hF
    refine g_callVlRS (q0 := 0) (S := [wM cB cI cJ cZ x_0 x_1 x_2 x_3 x_4 x_5 x_6 x_7 x_8 x_9 x_10 x_11 x_12 x_13 x_14 x_15 x_16 x_17 x_18 x_19 x0]) (S0 := [wM cB cI cJ cZ x_0 x_1 x_2 x_3 x_4 x_5 x_6 x_7 x_8 x_9 x_10 x_11 x_12 x_13 x_14 x_15 x_16 x_17 x_18 x_19 x0]) C (c_X8_number l D cB cI cJ cZ x_0 x_1 x_2 x_3 x_4 x_5 x_6 x_7 x_8 x_9 x_10 x_11 x_12 x_13 x_14 x_15 x_16 x_17 x_18 x_19 y9) rfl rfl (gIV ml_X8_186 im_X8_number sl_X8_number in_X8 cd_X8_number) rfl eX8_number rfl ⟨rfl, rfl⟩ ⟨Nat.le_of_ble_eq_true rfl, Nat.le_of_ble_eq_true rfl⟩ rfl rfl rfl [0] rfl rfl rfl (Nat.le_of_ble_eq_true rfl) (tdec DX8_endsHere 16 rfl) rfl ?_
    refine g_aload_n (z := 0) C (tdec DX8_endsHere 17 rfl) rfl rfl rfl ?_
    refine g_getf (C' := RX8) (T := TX8) (N := 27) (v := .ref x_15) C 0 15 (gIn iw_X8) rfl rfl (by decide) (gMem fl_X8_54) rfl rfl (tdec DX8_endsHere 18 rfl) rfl ?_
    refine g_iload_n (z := 1) C (tdec DX8_endsHere 19 rfl) rfl rfl rfl ?_
    obtain ⟨r10, y11, hF⟩ := o_bind hF
    refine g_iald C 15 1 rfl rfl y11 (tdec DX8_endsHere 20 rfl) rfl ?_
    refine g_iconst (v := 1) C (tdec DX8_endsHere 21 rfl) (by decide) rfl ?_
    refine g_iadd C (tdec DX8_endsHere 22 rfl) rfl ?_
    refine g_i2l C (tdec DX8_endsHere 23 rfl) rfl ?_
    refine g_lcmp C (tdec DX8_endsHere 24 rfl) rfl ?_
    refine g_if_ne (pt := 57) C (tdec DX8_endsHere 25 rfl) (by decide) rfl (fun h12 => ?_) (fun h12 => ?_)
    · have hF := o_ifn hF h12
      refine g_iconst (v := 1) C (tdec DX8_endsHere 35 rfl) (by decide) rfl ?_
      have hr9 := o_some hF
      subst hr9
      exact g_iret C rfl rfl (tdec DX8_endsHere 36 rfl)
    · have hF := o_ifp hF h12
      refine g_aload_n (z := 0) C (tdec DX8_endsHere 26 rfl) rfl rfl rfl ?_
      refine g_getf (C' := RX8) (T := TX8) (N := 27) (v := .int (MS_len x0)) C 0 19 (gIn iw_X8) rfl rfl (by decide) (gMem fl_X8_147) rfl rfl (tdec DX8_endsHere 27 rfl) rfl ?_
      refine g_aload_n (z := 0) C (tdec DX8_endsHere 28 rfl) rfl rfl rfl ?_
      refine g_getf (C' := RX8) (T := TX8) (N := 27) (v := .ref x_14) C 0 14 (gIn iw_X8) rfl rfl (by decide) (gMem fl_X8_51) rfl rfl (tdec DX8_endsHere 29 rfl) rfl ?_
      refine g_iload_n (z := 1) C (tdec DX8_endsHere 30 rfl) rfl rfl rfl ?_
      obtain ⟨r13, y14, hF⟩ := o_bind hF
      refine g_iald C 14 1 rfl rfl y14 (tdec DX8_endsHere 31 rfl) rfl ?_
      refine g_bipush (v := 13) C (tdec DX8_endsHere 32 rfl) (by decide) rfl ?_
      refine g_iadd C (tdec DX8_endsHere 33 rfl) rfl ?_
      refine g_icmp_eq (pt := 59) C (tdec DX8_endsHere 34 rfl) (by decide) rfl (fun h15 => ?_) (fun h15 => ?_)
      · have hF := o_ifp hF h15
        refine g_aload_n (z := 0) C (tdec DX8_endsHere 37 rfl) rfl rfl rfl ?_
        refine g_getf (C' := RX8) (T := TX8) (N := 27) (v := .ref x_10) C 0 10 (gIn iw_X8) rfl rfl (by decide) (gMem fl_X8_39) rfl rfl (tdec DX8_endsHere 38 rfl) rfl ?_
        refine g_iload_n (z := 1) C (tdec DX8_endsHere 39 rfl) rfl rfl rfl ?_
        obtain ⟨r16, y17, hF⟩ := o_bind hF
        refine g_iald C 10 1 rfl rfl y17 (tdec DX8_endsHere 40 rfl) rfl ?_
        refine g_bipush (v := 20) C (tdec DX8_endsHere 41 rfl) (by decide) rfl ?_
        refine g_icmp_ne (pt := 72) C (tdec DX8_endsHere 42 rfl) (by decide) rfl (fun h18 => ?_) (fun h18 => ?_)
        · have hF := o_ifn hF h18
          refine g_aload_n (z := 0) C (tdec DX8_endsHere 45 rfl) rfl rfl rfl ?_
          refine g_getf (C' := RX8) (T := TX8) (N := 27) (v := .ref x_7) C 0 7 (gIn iw_X8) rfl rfl (by decide) (gMem fl_X8_30) rfl rfl (tdec DX8_endsHere 46 rfl) rfl ?_
          refine g_bipush (v := 22) C (tdec DX8_endsHere 47 rfl) (by decide) rfl ?_
          refine g_iload_n (z := 1) C (tdec DX8_endsHere 48 rfl) rfl rfl rfl ?_
          refine g_imul C (tdec DX8_endsHere 49 rfl) rfl ?_
          refine g_iconst (v := 0) C (tdec DX8_endsHere 50 rfl) (by decide) rfl ?_
          refine g_iadd C (tdec DX8_endsHere 51 rfl) rfl ?_
          refine g_aload_n (z := 0) C (tdec DX8_endsHere 52 rfl) rfl rfl rfl ?_
          refine g_getf (C' := RX8) (T := TX8) (N := 27) (v := .ref x_7) C 0 7 (gIn iw_X8) rfl rfl (by decide) (gMem fl_X8_30) rfl rfl (tdec DX8_endsHere 53 rfl) rfl ?_
          refine g_bipush (v := 22) C (tdec DX8_endsHere 54 rfl) (by decide) rfl ?_
          refine g_iload_n (z := 1) C (tdec DX8_endsHere 55 rfl) rfl rfl rfl ?_
          refine g_imul C (tdec DX8_endsHere 56 rfl) rfl ?_
          refine g_iconst (v := 1) C (tdec DX8_endsHere 57 rfl) (by decide) rfl ?_
          refine g_iadd C (tdec DX8_endsHere 58 rfl) rfl ?_
          obtain ⟨r19, y20, hF⟩ := o_bind hF
          refine g_iald C 7 1 rfl rfl y20 (tdec DX8_endsHere 59 rfl) rfl ?_
          obtain ⟨g21, y22, hF⟩ := o_bind hF
          refine g_iast (ws' := wM cB cI cJ cZ x_0 x_1 x_2 x_3 x_4 x_5 x_6 x_7 x_8 x_9 x_10 x_11 x_12 x_13 x_14 x_15 x_16 x_17 x_18 x_19 (MS_settt x0 g21)) C 7 1 rfl rfl y22 rfl (tdec DX8_endsHere 60 rfl) rfl ?_
          refine g_aload_n (z := 0) C (tdec DX8_endsHere 61 rfl) rfl rfl rfl ?_
          refine g_getf (C' := RX8) (T := TX8) (N := 27) (v := .ref x_8) C 0 8 (gIn iw_X8) rfl rfl (by decide) (gMem fl_X8_33) rfl rfl (tdec DX8_endsHere 62 rfl) rfl ?_
          refine g_bipush (v := 22) C (tdec DX8_endsHere 63 rfl) (by decide) rfl ?_
          refine g_iload_n (z := 1) C (tdec DX8_endsHere 64 rfl) rfl rfl rfl ?_
          refine g_imul C (tdec DX8_endsHere 65 rfl) rfl ?_
          refine g_iconst (v := 0) C (tdec DX8_endsHere 66 rfl) (by decide) rfl ?_
          refine g_iadd C (tdec DX8_endsHere 67 rfl) rfl ?_
          refine g_aload_n (z := 0) C (tdec DX8_endsHere 68 rfl) rfl rfl rfl ?_
          refine g_getf (C' := RX8) (T := TX8) (N := 27) (v := .ref x_8) C 0 8 (gIn iw_X8) rfl rfl (by decide) (gMem fl_X8_33) rfl rfl (tdec DX8_endsHere 69 rfl) rfl ?_
          refine g_bipush (v := 22) C (tdec DX8_endsHere 70 rfl) (by decide) rfl ?_
          refine g_iload_n (z := 1) C (tdec DX8_endsHere 71 rfl) rfl rfl rfl ?_
          refine g_imul C (tdec DX8_endsHere 72 rfl) rfl ?_
          refine g_iconst (v := 1) C (tdec DX8_endsHere 73 rfl) (by decide) rfl ?_
          refine g_iadd C (tdec DX8_endsHere 74 rfl) rfl ?_
          obtain ⟨r23, y24, hF⟩ := o_bind hF
          refine g_iald C 8 1 rfl rfl y24 (tdec DX8_endsHere 75 rfl) rfl ?_
          obtain ⟨g25, y26, hF⟩ := o_bind hF
          refine g_iast (ws' := wM cB cI cJ cZ x_0 x_1 x_2 x_3 x_4 x_5 x_6 x_7 x_8 x_9 x_10 x_11 x_12 x_13 x_14 x_15 x_16 x_17 x_18 x_19 (MS_settb (MS_settt x0 g21) g25)) C 8 1 rfl rfl y26 rfl (tdec DX8_endsHere 76 rfl) rfl ?_
          refine g_aload_n (z := 0) C (tdec DX8_endsHere 77 rfl) rfl rfl rfl ?_
          refine g_iload_n (z := 1) C (tdec DX8_endsHere 78 rfl) rfl rfl rfl ?_
          refine g_iconst (v := 0) C (tdec DX8_endsHere 79 rfl) (by decide) rfl ?_
          refine g_aload_n (z := 0) C (tdec DX8_endsHere 80 rfl) rfl rfl rfl ?_
          refine g_getf (C' := RX8) (T := TX8) (N := 27) (v := .ref x_16) C 0 16 (gIn iw_X8) rfl rfl (by decide) (gMem fl_X8_57) rfl rfl (tdec DX8_endsHere 81 rfl) rfl ?_
          refine g_iload_n (z := 1) C (tdec DX8_endsHere 82 rfl) rfl rfl rfl ?_
          obtain ⟨r27, y28, hF⟩ := o_bind hF
          refine g_lald C 16 2 rfl rfl y28 (tdec DX8_endsHere 83 rfl) rfl ?_
          obtain ⟨s29, y30, hF⟩ := o_bind hF
          refine g_callVvMS (q0 := 0) (W' := wM cB cI cJ cZ x_0 x_1 x_2 x_3 x_4 x_5 x_6 x_7 x_8 x_9 x_10 x_11 x_12 x_13 x_14 x_15 x_16 x_17 x_18 x_19 s29) (S := [wM cB cI cJ cZ x_0 x_1 x_2 x_3 x_4 x_5 x_6 x_7 x_8 x_9 x_10 x_11 x_12 x_13 x_14 x_15 x_16 x_17 x_18 x_19 (MS_settb (MS_settt x0 g21) g25)]) (S0 := [wM cB cI cJ cZ x_0 x_1 x_2 x_3 x_4 x_5 x_6 x_7 x_8 x_9 x_10 x_11 x_12 x_13 x_14 x_15 x_16 x_17 x_18 x_19 (MS_settb (MS_settt x0 g21) g25)]) (S1 := [wM cB cI cJ cZ x_0 x_1 x_2 x_3 x_4 x_5 x_6 x_7 x_8 x_9 x_10 x_11 x_12 x_13 x_14 x_15 x_16 x_17 x_18 x_19 s29]) (S' := [wM cB cI cJ cZ x_0 x_1 x_2 x_3 x_4 x_5 x_6 x_7 x_8 x_9 x_10 x_11 x_12 x_13 x_14 x_15 x_16 x_17 x_18 x_19 s29]) C (c_X8_snaps l D cB cI cJ cZ x_0 x_1 x_2 x_3 x_4 x_5 x_6 x_7 x_8 x_9 x_10 x_11 x_12 x_13 x_14 x_15 x_16 x_17 x_18 x_19 y30) rfl rfl (gIV ml_X8_144 im_X8_snaps sl_X8_snaps in_X8 cd_X8_snaps) rfl eX8_snaps rfl ⟨rfl, rfl⟩ ⟨Nat.le_of_ble_eq_true rfl, Nat.le_of_ble_eq_true rfl⟩ rfl rfl rfl [0] rfl rfl rfl rfl (gA_cons aM gA_nil) rfl rfl (Nat.le_of_ble_eq_true rfl) (tdec DX8_endsHere 84 rfl) rfl ?_
          refine g_iconst (v := 0) C (tdec DX8_endsHere 85 rfl) (by decide) rfl ?_
          have hr9 := o_some hF
          subst hr9
          exact g_iret C rfl rfl (tdec DX8_endsHere 86 rfl)
        · have hF := o_ifp hF h18
          refine g_iconst (v := 5) C (tdec DX8_endsHere 43 rfl) (by decide) rfl ?_
          have hr9 := o_some hF
          subst hr9
          exact g_iret C rfl rfl (tdec DX8_endsHere 44 rfl)
      · have hF := o_ifn hF h15
        refine g_iconst (v := 1) C (tdec DX8_endsHere 35 rfl) (by decide) rfl ?_
        have hr9 := o_some hF
        subst hr9
        exact g_iret C rfl rfl (tdec DX8_endsHere 36 rfl)
def FX8_clearsHere_L64 (v1 : Int32) (v2 : Int32) (v3 : Int32) (v4 : Int32) (k9 : MS → Int32 → Int32 → Option (Int32 × MS)) : Nat → MS → Int32 → Int32 → Option (Int32 × MS)
  | 0, _, _, _ => none
  | n9 + 1, x, v5, v6 =>
    if (v3 + v4) ≤ v6 then
      k9 x v5 v6
    else
      if v5 = 0 then
        (FX8_clears x v1 1 v6).bind fun (r14, s15) =>
        FX8_clearsHere_L64 v1 v2 v3 v4 k9 n9 s15 r14 (v6 + 1)
      else
        k9 x v5 v6
def FX8_clearsHere (x0 : MS) (p1 : Int32) : Option (Int32 × MS) :=
  (ald 2 (MS_at x0) p1).bind fun r1 =>
  (FX8_isWhole x0 r1 13).bind fun r3 =>
  if r3 = 0 then
    some (1, x0)
  else
    (FX8_number x0 (r1 + 1) 2).bind fun r6 =>
    (FX8_number x0 (r1 + 3) 2).bind fun r8 =>
    if ((r8 : Int64).toInt32) < 1 then
      some (1, x0)
    else
      if (((r6 : Int64).toInt32) + ((r8 : Int64).toInt32)) ≤ 512 then
        FX8_clearsHere_L64 p1 r1 ((r6 : Int64).toInt32) ((r8 : Int64).toInt32) (fun xq17 w5_17 w6_17 =>
          (ast 2 (MS_at xq17) p1 (r1 + 13)).bind fun g18 =>
          some (w5_17, (MS_setat xq17 g18))) 100000 x0 0 ((r6 : Int64).toInt32)
      else
        some (1, x0)
def rX8_clearsHere : Room := { frames := 3, cells := 0, slots := 0, locals := 79 }
set_option maxHeartbeats 4000000 in
set_option maxRecDepth 100000 in
theorem c_FX8_clearsHere_L64 {p : Program} {l : Launch} {e : Env} {s : State} {m : MethodId} {args : Array Value} {below : List Frame} {meth : Method} {c : Code} {D : va_G} {cB cI cJ cZ : ClassId} {x_0 x_1 x_2 x_3 x_4 x_5 x_6 x_7 x_8 x_9 x_10 x_11 x_12 x_13 x_14 x_15 x_16 x_17 x_18 x_19 : Nat} {x0 : MS} {res : Int32 × MS} (C : gC p s m args meth c cX8_clearsHere 7 RX8 wsX8_clearsHere D (gT cB cI cJ cZ) (some .int) (va_A (wM cB cI cJ cZ x_0 x_1 x_2 x_3 x_4 x_5 x_6 x_7 x_8 x_9 x_10 x_11 x_12 x_13 x_14 x_15 x_16 x_17 x_18 x_19 x0) s.heap.size)) {v1 : Int32} {v2 : Int32} {v3 : Int32} {v4 : Int32} {k9 : MS → Int32 → Int32 → Option (Int32 × MS)} (hk9 : ∀ (x : MS) (v5 : Int32) (v6 : Int32), k9 x v5 v6 = some res → gG p l e (headSpec wsX8_clearsHere rX8_clearsHere).room s m args below meth c 0 0 D (va_A (wM cB cI cJ cZ x_0 x_1 x_2 x_3 x_4 x_5 x_6 x_7 x_8 x_9 x_10 x_11 x_12 x_13 x_14 x_15 x_16 x_17 x_18 x_19 x0) s.heap.size) (va_A (wM cB cI cJ cZ x_0 x_1 x_2 x_3 x_4 x_5 x_6 x_7 x_8 x_9 x_10 x_11 x_12 x_13 x_14 x_15 x_16 x_17 x_18 x_19 x0) s.heap.size) 7 (MQ below (gQi D (wM cB cI cJ cZ x_0 x_1 x_2 x_3 x_4 x_5 x_6 x_7 x_8 x_9 x_10 x_11 x_12 x_13 x_14 x_15 x_16 x_17 x_18 x_19 x0) s.heap.size res.1 (wM cB cI cJ cZ x_0 x_1 x_2 x_3 x_4 x_5 x_6 x_7 x_8 x_9 x_10 x_11 x_12 x_13 x_14 x_15 x_16 x_17 x_18 x_19 res.2)) args s 0 0 (va_A (wM cB cI cJ cZ x_0 x_1 x_2 x_3 x_4 x_5 x_6 x_7 x_8 x_9 x_10 x_11 x_12 x_13 x_14 x_15 x_16 x_17 x_18 x_19 x0) s.heap.size)) (wM cB cI cJ cZ x_0 x_1 x_2 x_3 x_4 x_5 x_6 x_7 x_8 x_9 x_10 x_11 x_12 x_13 x_14 x_15 x_16 x_17 x_18 x_19 x) 94 [(0, .ref x_0), (1, .int v1), (2, .int v2), (3, .int v3), (4, .int v4), (5, .int v5), (6, .int v6)] []) :
    ∀ (n9 : Nat) (x : MS) (v5 : Int32) (v6 : Int32), FX8_clearsHere_L64 v1 v2 v3 v4 k9 n9 x v5 v6 = some res → gG p l e (headSpec wsX8_clearsHere rX8_clearsHere).room s m args below meth c 0 0 D (va_A (wM cB cI cJ cZ x_0 x_1 x_2 x_3 x_4 x_5 x_6 x_7 x_8 x_9 x_10 x_11 x_12 x_13 x_14 x_15 x_16 x_17 x_18 x_19 x0) s.heap.size) (va_A (wM cB cI cJ cZ x_0 x_1 x_2 x_3 x_4 x_5 x_6 x_7 x_8 x_9 x_10 x_11 x_12 x_13 x_14 x_15 x_16 x_17 x_18 x_19 x0) s.heap.size) 7 (MQ below (gQi D (wM cB cI cJ cZ x_0 x_1 x_2 x_3 x_4 x_5 x_6 x_7 x_8 x_9 x_10 x_11 x_12 x_13 x_14 x_15 x_16 x_17 x_18 x_19 x0) s.heap.size res.1 (wM cB cI cJ cZ x_0 x_1 x_2 x_3 x_4 x_5 x_6 x_7 x_8 x_9 x_10 x_11 x_12 x_13 x_14 x_15 x_16 x_17 x_18 x_19 res.2)) args s 0 0 (va_A (wM cB cI cJ cZ x_0 x_1 x_2 x_3 x_4 x_5 x_6 x_7 x_8 x_9 x_10 x_11 x_12 x_13 x_14 x_15 x_16 x_17 x_18 x_19 x0) s.heap.size)) (wM cB cI cJ cZ x_0 x_1 x_2 x_3 x_4 x_5 x_6 x_7 x_8 x_9 x_10 x_11 x_12 x_13 x_14 x_15 x_16 x_17 x_18 x_19 x) 64 [(0, .ref x_0), (1, .int v1), (2, .int v2), (3, .int v3), (4, .int v4), (5, .int v5), (6, .int v6)] [] := by
  intro n9
  induction n9 with
  | zero =>
    intro x v5 v6 hF
    exact absurd hF (by simp [FX8_clearsHere_L64])
  | succ n9 ih9 =>
    intro x v5 v6 hF
    rw [FX8_clearsHere_L64] at hF
    refine g_iload (z := 6) C (tdec DX8_clearsHere 42 rfl) rfl rfl ?_
    refine g_iload_n (z := 3) C (tdec DX8_clearsHere 43 rfl) rfl rfl rfl ?_
    refine g_iload (z := 4) C (tdec DX8_clearsHere 44 rfl) rfl rfl ?_
    refine g_iadd C (tdec DX8_clearsHere 45 rfl) rfl ?_
    refine g_icmp_ge (pt := 94) C (tdec DX8_clearsHere 46 rfl) (by decide) rfl (fun h12 => ?_) (fun h12 => ?_)
    · have hF := o_ifp hF h12
      refine g_sub (L' := [(0, .ref x_0), (1, .int v1), (2, .int v2), (3, .int v3), (4, .int v4), (5, .int v5), (6, .int v6)]) [0, 1, 2, 3, 4, 5, 6] rfl ?_
      exact hk9 _ _ _ hF
    · have hF := o_ifn hF h12
      refine g_iload (z := 5) C (tdec DX8_clearsHere 47 rfl) rfl rfl ?_
      refine g_if_ne (pt := 94) C (tdec DX8_clearsHere 48 rfl) (by decide) rfl (fun h13 => ?_) (fun h13 => ?_)
      · have hF := o_ifn hF h13
        refine g_sub (L' := [(0, .ref x_0), (1, .int v1), (2, .int v2), (3, .int v3), (4, .int v4), (5, .int v5), (6, .int v6)]) [0, 1, 2, 3, 4, 5, 6] rfl ?_
        exact hk9 _ _ _ hF
      · have hF := o_ifp hF h13
        refine g_aload_n (z := 0) C (tdec DX8_clearsHere 49 rfl) rfl rfl rfl ?_
        refine g_iload_n (z := 1) C (tdec DX8_clearsHere 50 rfl) rfl rfl rfl ?_
        refine g_iconst (v := 1) C (tdec DX8_clearsHere 51 rfl) (by decide) rfl ?_
        refine g_iload (z := 6) C (tdec DX8_clearsHere 52 rfl) rfl rfl ?_
        obtain ⟨⟨r14, s15⟩, y16, hF⟩ := o_bind hF
        refine g_callViMS (q0 := 0) (W' := wM cB cI cJ cZ x_0 x_1 x_2 x_3 x_4 x_5 x_6 x_7 x_8 x_9 x_10 x_11 x_12 x_13 x_14 x_15 x_16 x_17 x_18 x_19 s15) (S := [wM cB cI cJ cZ x_0 x_1 x_2 x_3 x_4 x_5 x_6 x_7 x_8 x_9 x_10 x_11 x_12 x_13 x_14 x_15 x_16 x_17 x_18 x_19 x]) (S0 := [wM cB cI cJ cZ x_0 x_1 x_2 x_3 x_4 x_5 x_6 x_7 x_8 x_9 x_10 x_11 x_12 x_13 x_14 x_15 x_16 x_17 x_18 x_19 x]) (S1 := [wM cB cI cJ cZ x_0 x_1 x_2 x_3 x_4 x_5 x_6 x_7 x_8 x_9 x_10 x_11 x_12 x_13 x_14 x_15 x_16 x_17 x_18 x_19 s15]) (S' := [wM cB cI cJ cZ x_0 x_1 x_2 x_3 x_4 x_5 x_6 x_7 x_8 x_9 x_10 x_11 x_12 x_13 x_14 x_15 x_16 x_17 x_18 x_19 s15]) C (c_X8_clears l D cB cI cJ cZ x_0 x_1 x_2 x_3 x_4 x_5 x_6 x_7 x_8 x_9 x_10 x_11 x_12 x_13 x_14 x_15 x_16 x_17 x_18 x_19 y16) rfl rfl (gIV ml_X8_138 im_X8_clears sl_X8_clears in_X8 cd_X8_clears) rfl eX8_clears rfl ⟨rfl, rfl⟩ ⟨Nat.le_of_ble_eq_true rfl, Nat.le_of_ble_eq_true rfl⟩ rfl rfl rfl [0] rfl rfl rfl rfl (gA_cons aM gA_nil) rfl rfl (Nat.le_of_ble_eq_true rfl) (tdec DX8_clearsHere 53 rfl) rfl ?_
        refine g_istore (L' := [(5, .int r14), (0, .ref x_0), (1, .int v1), (2, .int v2), (3, .int v3), (4, .int v4), (6, .int v6)]) C (tdec DX8_clearsHere 54 rfl) (by decide) rfl rfl ?_
        refine g_iinc (z := 6) (v := (v6 + 1)) (L' := [(6, .int (v6 + 1)), (5, .int r14), (0, .ref x_0), (1, .int v1), (2, .int v2), (3, .int v3), (4, .int v4)]) C (tdec DX8_clearsHere 55 rfl) rfl rfl (by decide) rfl rfl ?_
        refine g_goto (pt := 64) C (tdec DX8_clearsHere 56 rfl) (by decide) ?_
        refine g_sub (L' := [(0, .ref x_0), (1, .int v1), (2, .int v2), (3, .int v3), (4, .int v4), (5, .int r14), (6, .int (v6 + 1))]) [2, 3, 4, 5, 6, 1, 0] rfl ?_
        exact ih9 _ _ _ hF
set_option maxHeartbeats 4000000 in
set_option maxRecDepth 100000 in
theorem c_X8_clearsHere (l : Launch) (D : va_G) (cB cI cJ cZ : ClassId) (x_0 x_1 x_2 x_3 x_4 x_5 x_6 x_7 x_8 x_9 x_10 x_11 x_12 x_13 x_14 x_15 x_16 x_17 x_18 x_19 : Nat) {x0 : MS} {p1 : Int32} {res : Int32 × MS} (hF : FX8_clearsHere x0 p1 = some res) : gMi l yX8_clearsHere wsX8_clearsHere rX8_clearsHere D (gT cB cI cJ cZ) [.ref x_0, .int p1] (wM cB cI cJ cZ x_0 x_1 x_2 x_3 x_4 x_5 x_6 x_7 x_8 x_9 x_10 x_11 x_12 x_13 x_14 x_15 x_16 x_17 x_18 x_19 x0) res.1 (wM cB cI cJ cZ x_0 x_1 x_2 x_3 x_4 x_5 x_6 x_7 x_8 x_9 x_10 x_11 x_12 x_13 x_14 x_15 x_16 x_17 x_18 x_19 res.2) := by
  refine g_enter (own := RX8) (free := (fun sz => va_A (wM cB cI cJ cZ x_0 x_1 x_2 x_3 x_4 x_5 x_6 x_7 x_8 x_9 x_10 x_11 x_12 x_13 x_14 x_15 x_16 x_17 x_18 x_19 x0) sz)) (Qc := (fun sz => gQi D (wM cB cI cJ cZ x_0 x_1 x_2 x_3 x_4 x_5 x_6 x_7 x_8 x_9 x_10 x_11 x_12 x_13 x_14 x_15 x_16 x_17 x_18 x_19 x0) sz res.1 (wM cB cI cJ cZ x_0 x_1 x_2 x_3 x_4 x_5 x_6 x_7 x_8 x_9 x_10 x_11 x_12 x_13 x_14 x_15 x_16 x_17 x_18 x_19 res.2))) (fun sz => va_A (wM cB cI cJ cZ x_0 x_1 x_2 x_3 x_4 x_5 x_6 x_7 x_8 x_9 x_10 x_11 x_12 x_13 x_14 x_15 x_16 x_17 x_18 x_19 x0) sz) (fun sz => Or.inr rfl) rfl (by decide) rfl (Nat.le_of_ble_eq_true rfl) rfl ?_
  intro p e s m args below meth c C
  unfold FX8_clearsHere at hF
  refine g_aload_n (z := 0) C (tdec DX8_clearsHere 0 rfl) rfl rfl rfl ?_
  refine g_getf (C' := RX8) (T := TX8) (N := 27) (v := .ref x_14) C 0 14 (gIn iw_X8) rfl rfl (by decide) (gMem fl_X8_51) rfl rfl (tdec DX8_clearsHere 1 rfl) rfl ?_
  refine g_iload_n (z := 1) C (tdec DX8_clearsHere 2 rfl) rfl rfl rfl ?_
  obtain ⟨r1, y2, hF⟩ := o_bind hF
  refine g_iald C 14 1 rfl rfl y2 (tdec DX8_clearsHere 3 rfl) rfl ?_
  refine g_istore_n (L' := [(2, .int r1), (0, .ref x_0), (1, .int p1)]) C (tdec DX8_clearsHere 4 rfl) rfl (by decide) rfl rfl ?_
  refine g_aload_n (z := 1) C (tdec DX8_clearsHere 5 rfl) rfl rfl rfl ?_
  refine g_iload_n (z := 0) C (tdec DX8_clearsHere 6 rfl) rfl rfl rfl ?_
  refine g_bipush (v := 13) C (tdec DX8_clearsHere 7 rfl) (by decide) rfl ?_
  obtain ⟨r3, y4, hF⟩ := o_bind hF
  refine g_callViRS (q0 := 0) (S := [wM cB cI cJ cZ x_0 x_1 x_2 x_3 x_4 x_5 x_6 x_7 x_8 x_9 x_10 x_11 x_12 x_13 x_14 x_15 x_16 x_17 x_18 x_19 x0]) (S0 := [wM cB cI cJ cZ x_0 x_1 x_2 x_3 x_4 x_5 x_6 x_7 x_8 x_9 x_10 x_11 x_12 x_13 x_14 x_15 x_16 x_17 x_18 x_19 x0]) C (c_X8_isWhole l D cB cI cJ cZ x_0 x_1 x_2 x_3 x_4 x_5 x_6 x_7 x_8 x_9 x_10 x_11 x_12 x_13 x_14 x_15 x_16 x_17 x_18 x_19 y4) rfl rfl (gIV ml_X8_189 im_X8_isWhole sl_X8_isWhole in_X8 cd_X8_isWhole) rfl eX8_isWhole rfl ⟨rfl, rfl⟩ ⟨Nat.le_of_ble_eq_true rfl, Nat.le_of_ble_eq_true rfl⟩ rfl rfl rfl [0] rfl rfl rfl (Nat.le_of_ble_eq_true rfl) (tdec DX8_clearsHere 8 rfl) rfl ?_
  refine g_if_ne (pt := 19) C (tdec DX8_clearsHere 9 rfl) (by decide) rfl (fun h5 => ?_) (fun h5 => ?_)
  · have hF := o_ifn hF h5
    refine g_aload_n (z := 1) C (tdec DX8_clearsHere 12 rfl) rfl rfl rfl ?_
    refine g_iload_n (z := 0) C (tdec DX8_clearsHere 13 rfl) rfl rfl rfl ?_
    refine g_iconst (v := 1) C (tdec DX8_clearsHere 14 rfl) (by decide) rfl ?_
    refine g_iadd C (tdec DX8_clearsHere 15 rfl) rfl ?_
    refine g_iconst (v := 2) C (tdec DX8_clearsHere 16 rfl) (by decide) rfl ?_
    obtain ⟨r6, y7, hF⟩ := o_bind hF
    refine g_callVlRS (q0 := 0) (S := [wM cB cI cJ cZ x_0 x_1 x_2 x_3 x_4 x_5 x_6 x_7 x_8 x_9 x_10 x_11 x_12 x_13 x_14 x_15 x_16 x_17 x_18 x_19 x0]) (S0 := [wM cB cI cJ cZ x_0 x_1 x_2 x_3 x_4 x_5 x_6 x_7 x_8 x_9 x_10 x_11 x_12 x_13 x_14 x_15 x_16 x_17 x_18 x_19 x0]) C (c_X8_number l D cB cI cJ cZ x_0 x_1 x_2 x_3 x_4 x_5 x_6 x_7 x_8 x_9 x_10 x_11 x_12 x_13 x_14 x_15 x_16 x_17 x_18 x_19 y7) rfl rfl (gIV ml_X8_186 im_X8_number sl_X8_number in_X8 cd_X8_number) rfl eX8_number rfl ⟨rfl, rfl⟩ ⟨Nat.le_of_ble_eq_true rfl, Nat.le_of_ble_eq_true rfl⟩ rfl rfl rfl [0] rfl rfl rfl (Nat.le_of_ble_eq_true rfl) (tdec DX8_clearsHere 17 rfl) rfl ?_
    refine g_l2i C (tdec DX8_clearsHere 18 rfl) rfl ?_
    refine g_istore_n (L' := [(3, .int ((r6 : Int64).toInt32)), (2, .int r1), (0, .ref x_0), (1, .int p1)]) C (tdec DX8_clearsHere 19 rfl) rfl (by decide) rfl rfl ?_
    refine g_aload_n (z := 2) C (tdec DX8_clearsHere 20 rfl) rfl rfl rfl ?_
    refine g_iload_n (z := 1) C (tdec DX8_clearsHere 21 rfl) rfl rfl rfl ?_
    refine g_iconst (v := 3) C (tdec DX8_clearsHere 22 rfl) (by decide) rfl ?_
    refine g_iadd C (tdec DX8_clearsHere 23 rfl) rfl ?_
    refine g_iconst (v := 2) C (tdec DX8_clearsHere 24 rfl) (by decide) rfl ?_
    obtain ⟨r8, y9, hF⟩ := o_bind hF
    refine g_callVlRS (q0 := 0) (S := [wM cB cI cJ cZ x_0 x_1 x_2 x_3 x_4 x_5 x_6 x_7 x_8 x_9 x_10 x_11 x_12 x_13 x_14 x_15 x_16 x_17 x_18 x_19 x0]) (S0 := [wM cB cI cJ cZ x_0 x_1 x_2 x_3 x_4 x_5 x_6 x_7 x_8 x_9 x_10 x_11 x_12 x_13 x_14 x_15 x_16 x_17 x_18 x_19 x0]) C (c_X8_number l D cB cI cJ cZ x_0 x_1 x_2 x_3 x_4 x_5 x_6 x_7 x_8 x_9 x_10 x_11 x_12 x_13 x_14 x_15 x_16 x_17 x_18 x_19 y9) rfl rfl (gIV ml_X8_186 im_X8_number sl_X8_number in_X8 cd_X8_number) rfl eX8_number rfl ⟨rfl, rfl⟩ ⟨Nat.le_of_ble_eq_true rfl, Nat.le_of_ble_eq_true rfl⟩ rfl rfl rfl [0] rfl rfl rfl (Nat.le_of_ble_eq_true rfl) (tdec DX8_clearsHere 25 rfl) rfl ?_
    refine g_l2i C (tdec DX8_clearsHere 26 rfl) rfl ?_
    refine g_istore (L' := [(4, .int ((r8 : Int64).toInt32)), (3, .int ((r6 : Int64).toInt32)), (2, .int r1), (0, .ref x_0), (1, .int p1)]) C (tdec DX8_clearsHere 27 rfl) (by decide) rfl rfl ?_
    refine g_iload (z := 0) C (tdec DX8_clearsHere 28 rfl) rfl rfl ?_
    refine g_iconst (v := 1) C (tdec DX8_clearsHere 29 rfl) (by decide) rfl ?_
    refine g_icmp_lt (pt := 56) C (tdec DX8_clearsHere 30 rfl) (by decide) rfl (fun h10 => ?_) (fun h10 => ?_)
    · have hF := o_ifp hF h10
      refine g_iconst (v := 1) C (tdec DX8_clearsHere 36 rfl) (by decide) rfl ?_
      have hr9 := o_some hF
      subst hr9
      exact g_iret C rfl rfl (tdec DX8_clearsHere 37 rfl)
    · have hF := o_ifn hF h10
      refine g_iload_n (z := 1) C (tdec DX8_clearsHere 31 rfl) rfl rfl rfl ?_
      refine g_iload (z := 0) C (tdec DX8_clearsHere 32 rfl) rfl rfl ?_
      refine g_iadd C (tdec DX8_clearsHere 33 rfl) rfl ?_
      refine g_sipush (v := 512) C (tdec DX8_clearsHere 34 rfl) (by decide) rfl ?_
      refine g_icmp_le (pt := 58) C (tdec DX8_clearsHere 35 rfl) (by decide) rfl (fun h11 => ?_) (fun h11 => ?_)
      · have hF := o_ifp hF h11
        refine g_iconst (v := 0) C (tdec DX8_clearsHere 38 rfl) (by decide) rfl ?_
        refine g_istore (L' := [(5, .int 0), (4, .int ((r8 : Int64).toInt32)), (3, .int ((r6 : Int64).toInt32)), (2, .int r1), (0, .ref x_0), (1, .int p1)]) C (tdec DX8_clearsHere 39 rfl) (by decide) rfl rfl ?_
        refine g_iload_n (z := 2) C (tdec DX8_clearsHere 40 rfl) rfl rfl rfl ?_
        refine g_istore (L' := [(6, .int ((r6 : Int64).toInt32)), (5, .int 0), (4, .int ((r8 : Int64).toInt32)), (3, .int ((r6 : Int64).toInt32)), (2, .int r1), (0, .ref x_0), (1, .int p1)]) C (tdec DX8_clearsHere 41 rfl) (by decide) rfl rfl ?_
        refine g_sub (L' := [(0, .ref x_0), (1, .int p1), (2, .int r1), (3, .int ((r6 : Int64).toInt32)), (4, .int ((r8 : Int64).toInt32)), (5, .int 0), (6, .int ((r6 : Int64).toInt32))]) [5, 6, 4, 3, 2, 1, 0] rfl ?_
        refine c_FX8_clearsHere_L64 C (fun xq17 w5_17 w6_17 hF => ?_) 100000 _ _ _ hF
        refine g_aload_n (z := 0) C (tdec DX8_clearsHere 57 rfl) rfl rfl rfl ?_
        refine g_getf (C' := RX8) (T := TX8) (N := 27) (v := .ref x_14) C 0 14 (gIn iw_X8) rfl rfl (by decide) (gMem fl_X8_51) rfl rfl (tdec DX8_clearsHere 58 rfl) rfl ?_
        refine g_iload_n (z := 1) C (tdec DX8_clearsHere 59 rfl) rfl rfl rfl ?_
        refine g_iload_n (z := 2) C (tdec DX8_clearsHere 60 rfl) rfl rfl rfl ?_
        refine g_bipush (v := 13) C (tdec DX8_clearsHere 61 rfl) (by decide) rfl ?_
        refine g_iadd C (tdec DX8_clearsHere 62 rfl) rfl ?_
        obtain ⟨g18, y19, hF⟩ := o_bind hF
        refine g_iast (ws' := wM cB cI cJ cZ x_0 x_1 x_2 x_3 x_4 x_5 x_6 x_7 x_8 x_9 x_10 x_11 x_12 x_13 x_14 x_15 x_16 x_17 x_18 x_19 (MS_setat xq17 g18)) C 14 1 rfl rfl y19 rfl (tdec DX8_clearsHere 63 rfl) rfl ?_
        refine g_iload (z := 5) C (tdec DX8_clearsHere 64 rfl) rfl rfl ?_
        have hr9 := o_some hF
        subst hr9
        exact g_iret C rfl rfl (tdec DX8_clearsHere 65 rfl)
      · have hF := o_ifn hF h11
        refine g_iconst (v := 1) C (tdec DX8_clearsHere 36 rfl) (by decide) rfl ?_
        have hr9 := o_some hF
        subst hr9
        exact g_iret C rfl rfl (tdec DX8_clearsHere 37 rfl)
  · have hF := o_ifp hF h5
    refine g_iconst (v := 1) C (tdec DX8_clearsHere 10 rfl) (by decide) rfl ?_
    have hr9 := o_some hF
    subst hr9
    exact g_iret C rfl rfl (tdec DX8_clearsHere 11 rfl)
def FX8_writesHere (x0 : MS) (p1 : Int32) : Option (Int32 × MS) :=
  (ald 2 (MS_at x0) p1).bind fun r1 =>
  (FX8_isWhole x0 r1 19).bind fun r3 =>
  if r3 = 0 then
    some (1, x0)
  else
    (FX8_number x0 (r1 + 1) 2).bind fun r6 =>
    if (lg_cmp r6 512) < 0 then
      (ast 2 (MS_at x0) p1 (r1 + 19)).bind fun g9 =>
      (FX8_number (MS_setat x0 g9) (r1 + 1) 2).bind fun r11 =>
      (FX8_number (MS_setat x0 g9) (r1 + 3) 8).bind fun r13 =>
      (FX8_writes (MS_setat x0 g9) p1 1 ((r11 : Int64).toInt32) r13).bind fun (r15, s16) =>
      some (r15, s16)
    else
      some (1, x0)
def rX8_writesHere : Room := { frames := 3, cells := 0, slots := 0, locals := 80 }
set_option maxHeartbeats 4000000 in
set_option maxRecDepth 100000 in
theorem c_X8_writesHere (l : Launch) (D : va_G) (cB cI cJ cZ : ClassId) (x_0 x_1 x_2 x_3 x_4 x_5 x_6 x_7 x_8 x_9 x_10 x_11 x_12 x_13 x_14 x_15 x_16 x_17 x_18 x_19 : Nat) {x0 : MS} {p1 : Int32} {res : Int32 × MS} (hF : FX8_writesHere x0 p1 = some res) : gMi l yX8_writesHere wsX8_writesHere rX8_writesHere D (gT cB cI cJ cZ) [.ref x_0, .int p1] (wM cB cI cJ cZ x_0 x_1 x_2 x_3 x_4 x_5 x_6 x_7 x_8 x_9 x_10 x_11 x_12 x_13 x_14 x_15 x_16 x_17 x_18 x_19 x0) res.1 (wM cB cI cJ cZ x_0 x_1 x_2 x_3 x_4 x_5 x_6 x_7 x_8 x_9 x_10 x_11 x_12 x_13 x_14 x_15 x_16 x_17 x_18 x_19 res.2) := by
  refine g_enter (own := RX8) (free := (fun sz => va_A (wM cB cI cJ cZ x_0 x_1 x_2 x_3 x_4 x_5 x_6 x_7 x_8 x_9 x_10 x_11 x_12 x_13 x_14 x_15 x_16 x_17 x_18 x_19 x0) sz)) (Qc := (fun sz => gQi D (wM cB cI cJ cZ x_0 x_1 x_2 x_3 x_4 x_5 x_6 x_7 x_8 x_9 x_10 x_11 x_12 x_13 x_14 x_15 x_16 x_17 x_18 x_19 x0) sz res.1 (wM cB cI cJ cZ x_0 x_1 x_2 x_3 x_4 x_5 x_6 x_7 x_8 x_9 x_10 x_11 x_12 x_13 x_14 x_15 x_16 x_17 x_18 x_19 res.2))) (fun sz => va_A (wM cB cI cJ cZ x_0 x_1 x_2 x_3 x_4 x_5 x_6 x_7 x_8 x_9 x_10 x_11 x_12 x_13 x_14 x_15 x_16 x_17 x_18 x_19 x0) sz) (fun sz => Or.inr rfl) rfl (by decide) rfl (Nat.le_of_ble_eq_true rfl) rfl ?_
  intro p e s m args below meth c C
  unfold FX8_writesHere at hF
  refine g_aload_n (z := 0) C (tdec DX8_writesHere 0 rfl) rfl rfl rfl ?_
  refine g_getf (C' := RX8) (T := TX8) (N := 27) (v := .ref x_14) C 0 14 (gIn iw_X8) rfl rfl (by decide) (gMem fl_X8_51) rfl rfl (tdec DX8_writesHere 1 rfl) rfl ?_
  refine g_iload_n (z := 1) C (tdec DX8_writesHere 2 rfl) rfl rfl rfl ?_
  obtain ⟨r1, y2, hF⟩ := o_bind hF
  refine g_iald C 14 1 rfl rfl y2 (tdec DX8_writesHere 3 rfl) rfl ?_
  refine g_istore_n (L' := [(2, .int r1), (0, .ref x_0), (1, .int p1)]) C (tdec DX8_writesHere 4 rfl) rfl (by decide) rfl rfl ?_
  refine g_aload_n (z := 1) C (tdec DX8_writesHere 5 rfl) rfl rfl rfl ?_
  refine g_iload_n (z := 0) C (tdec DX8_writesHere 6 rfl) rfl rfl rfl ?_
  refine g_bipush (v := 19) C (tdec DX8_writesHere 7 rfl) (by decide) rfl ?_
  obtain ⟨r3, y4, hF⟩ := o_bind hF
  refine g_callViRS (q0 := 0) (S := [wM cB cI cJ cZ x_0 x_1 x_2 x_3 x_4 x_5 x_6 x_7 x_8 x_9 x_10 x_11 x_12 x_13 x_14 x_15 x_16 x_17 x_18 x_19 x0]) (S0 := [wM cB cI cJ cZ x_0 x_1 x_2 x_3 x_4 x_5 x_6 x_7 x_8 x_9 x_10 x_11 x_12 x_13 x_14 x_15 x_16 x_17 x_18 x_19 x0]) C (c_X8_isWhole l D cB cI cJ cZ x_0 x_1 x_2 x_3 x_4 x_5 x_6 x_7 x_8 x_9 x_10 x_11 x_12 x_13 x_14 x_15 x_16 x_17 x_18 x_19 y4) rfl rfl (gIV ml_X8_189 im_X8_isWhole sl_X8_isWhole in_X8 cd_X8_isWhole) rfl eX8_isWhole rfl ⟨rfl, rfl⟩ ⟨Nat.le_of_ble_eq_true rfl, Nat.le_of_ble_eq_true rfl⟩ rfl rfl rfl [0] rfl rfl rfl (Nat.le_of_ble_eq_true rfl) (tdec DX8_writesHere 8 rfl) rfl ?_
  refine g_if_eq (pt := 32) C (tdec DX8_writesHere 9 rfl) (by decide) rfl (fun h5 => ?_) (fun h5 => ?_)
  · have hF := o_ifp hF h5
    refine g_iconst (v := 1) C (tdec DX8_writesHere 19 rfl) (by decide) rfl ?_
    have hr9 := o_some hF
    subst hr9
    exact g_iret C rfl rfl (tdec DX8_writesHere 20 rfl)
  · have hF := o_ifn hF h5
    refine g_aload_n (z := 1) C (tdec DX8_writesHere 10 rfl) rfl rfl rfl ?_
    refine g_iload_n (z := 0) C (tdec DX8_writesHere 11 rfl) rfl rfl rfl ?_
    refine g_iconst (v := 1) C (tdec DX8_writesHere 12 rfl) (by decide) rfl ?_
    refine g_iadd C (tdec DX8_writesHere 13 rfl) rfl ?_
    refine g_iconst (v := 2) C (tdec DX8_writesHere 14 rfl) (by decide) rfl ?_
    obtain ⟨r6, y7, hF⟩ := o_bind hF
    refine g_callVlRS (q0 := 0) (S := [wM cB cI cJ cZ x_0 x_1 x_2 x_3 x_4 x_5 x_6 x_7 x_8 x_9 x_10 x_11 x_12 x_13 x_14 x_15 x_16 x_17 x_18 x_19 x0]) (S0 := [wM cB cI cJ cZ x_0 x_1 x_2 x_3 x_4 x_5 x_6 x_7 x_8 x_9 x_10 x_11 x_12 x_13 x_14 x_15 x_16 x_17 x_18 x_19 x0]) C (c_X8_number l D cB cI cJ cZ x_0 x_1 x_2 x_3 x_4 x_5 x_6 x_7 x_8 x_9 x_10 x_11 x_12 x_13 x_14 x_15 x_16 x_17 x_18 x_19 y7) rfl rfl (gIV ml_X8_186 im_X8_number sl_X8_number in_X8 cd_X8_number) rfl eX8_number rfl ⟨rfl, rfl⟩ ⟨Nat.le_of_ble_eq_true rfl, Nat.le_of_ble_eq_true rfl⟩ rfl rfl rfl [0] rfl rfl rfl (Nat.le_of_ble_eq_true rfl) (tdec DX8_writesHere 15 rfl) rfl ?_
    refine g_ldc2 C (gMem kl_X8_192) (tdec DX8_writesHere 16 rfl) rfl ?_
    refine g_lcmp C (tdec DX8_writesHere 17 rfl) rfl ?_
    refine g_if_lt (pt := 34) C (tdec DX8_writesHere 18 rfl) (by decide) rfl (fun h8 => ?_) (fun h8 => ?_)
    · have hF := o_ifp hF h8
      refine g_aload_n (z := 1) C (tdec DX8_writesHere 21 rfl) rfl rfl rfl ?_
      refine g_getf (C' := RX8) (T := TX8) (N := 27) (v := .ref x_14) C 0 14 (gIn iw_X8) rfl rfl (by decide) (gMem fl_X8_51) rfl rfl (tdec DX8_writesHere 22 rfl) rfl ?_
      refine g_iload_n (z := 2) C (tdec DX8_writesHere 23 rfl) rfl rfl rfl ?_
      refine g_iload_n (z := 0) C (tdec DX8_writesHere 24 rfl) rfl rfl rfl ?_
      refine g_bipush (v := 19) C (tdec DX8_writesHere 25 rfl) (by decide) rfl ?_
      refine g_iadd C (tdec DX8_writesHere 26 rfl) rfl ?_
      obtain ⟨g9, y10, hF⟩ := o_bind hF
      refine g_iast (ws' := wM cB cI cJ cZ x_0 x_1 x_2 x_3 x_4 x_5 x_6 x_7 x_8 x_9 x_10 x_11 x_12 x_13 x_14 x_15 x_16 x_17 x_18 x_19 (MS_setat x0 g9)) C 14 1 rfl rfl y10 rfl (tdec DX8_writesHere 27 rfl) rfl ?_
      refine g_aload_n (z := 1) C (tdec DX8_writesHere 28 rfl) rfl rfl rfl ?_
      refine g_iload_n (z := 2) C (tdec DX8_writesHere 29 rfl) rfl rfl rfl ?_
      refine g_iconst (v := 1) C (tdec DX8_writesHere 30 rfl) (by decide) rfl ?_
      refine g_aload_n (z := 1) C (tdec DX8_writesHere 31 rfl) rfl rfl rfl ?_
      refine g_iload_n (z := 0) C (tdec DX8_writesHere 32 rfl) rfl rfl rfl ?_
      refine g_iconst (v := 1) C (tdec DX8_writesHere 33 rfl) (by decide) rfl ?_
      refine g_iadd C (tdec DX8_writesHere 34 rfl) rfl ?_
      refine g_iconst (v := 2) C (tdec DX8_writesHere 35 rfl) (by decide) rfl ?_
      obtain ⟨r11, y12, hF⟩ := o_bind hF
      refine g_callVlRS (q0 := 0) (S := [wM cB cI cJ cZ x_0 x_1 x_2 x_3 x_4 x_5 x_6 x_7 x_8 x_9 x_10 x_11 x_12 x_13 x_14 x_15 x_16 x_17 x_18 x_19 (MS_setat x0 g9)]) (S0 := [wM cB cI cJ cZ x_0 x_1 x_2 x_3 x_4 x_5 x_6 x_7 x_8 x_9 x_10 x_11 x_12 x_13 x_14 x_15 x_16 x_17 x_18 x_19 (MS_setat x0 g9)]) C (c_X8_number l D cB cI cJ cZ x_0 x_1 x_2 x_3 x_4 x_5 x_6 x_7 x_8 x_9 x_10 x_11 x_12 x_13 x_14 x_15 x_16 x_17 x_18 x_19 y12) rfl rfl (gIV ml_X8_186 im_X8_number sl_X8_number in_X8 cd_X8_number) rfl eX8_number rfl ⟨rfl, rfl⟩ ⟨Nat.le_of_ble_eq_true rfl, Nat.le_of_ble_eq_true rfl⟩ rfl rfl rfl [0] rfl rfl rfl (Nat.le_of_ble_eq_true rfl) (tdec DX8_writesHere 36 rfl) rfl ?_
      refine g_l2i C (tdec DX8_writesHere 37 rfl) rfl ?_
      refine g_aload_n (z := 1) C (tdec DX8_writesHere 38 rfl) rfl rfl rfl ?_
      refine g_iload_n (z := 0) C (tdec DX8_writesHere 39 rfl) rfl rfl rfl ?_
      refine g_iconst (v := 3) C (tdec DX8_writesHere 40 rfl) (by decide) rfl ?_
      refine g_iadd C (tdec DX8_writesHere 41 rfl) rfl ?_
      refine g_bipush (v := 8) C (tdec DX8_writesHere 42 rfl) (by decide) rfl ?_
      obtain ⟨r13, y14, hF⟩ := o_bind hF
      refine g_callVlRS (q0 := 0) (S := [wM cB cI cJ cZ x_0 x_1 x_2 x_3 x_4 x_5 x_6 x_7 x_8 x_9 x_10 x_11 x_12 x_13 x_14 x_15 x_16 x_17 x_18 x_19 (MS_setat x0 g9)]) (S0 := [wM cB cI cJ cZ x_0 x_1 x_2 x_3 x_4 x_5 x_6 x_7 x_8 x_9 x_10 x_11 x_12 x_13 x_14 x_15 x_16 x_17 x_18 x_19 (MS_setat x0 g9)]) C (c_X8_number l D cB cI cJ cZ x_0 x_1 x_2 x_3 x_4 x_5 x_6 x_7 x_8 x_9 x_10 x_11 x_12 x_13 x_14 x_15 x_16 x_17 x_18 x_19 y14) rfl rfl (gIV ml_X8_186 im_X8_number sl_X8_number in_X8 cd_X8_number) rfl eX8_number rfl ⟨rfl, rfl⟩ ⟨Nat.le_of_ble_eq_true rfl, Nat.le_of_ble_eq_true rfl⟩ rfl rfl rfl [0] rfl rfl rfl (Nat.le_of_ble_eq_true rfl) (tdec DX8_writesHere 43 rfl) rfl ?_
      obtain ⟨⟨r15, s16⟩, y17, hF⟩ := o_bind hF
      refine g_callViMS (q0 := 0) (W' := wM cB cI cJ cZ x_0 x_1 x_2 x_3 x_4 x_5 x_6 x_7 x_8 x_9 x_10 x_11 x_12 x_13 x_14 x_15 x_16 x_17 x_18 x_19 s16) (S := [wM cB cI cJ cZ x_0 x_1 x_2 x_3 x_4 x_5 x_6 x_7 x_8 x_9 x_10 x_11 x_12 x_13 x_14 x_15 x_16 x_17 x_18 x_19 (MS_setat x0 g9)]) (S0 := [wM cB cI cJ cZ x_0 x_1 x_2 x_3 x_4 x_5 x_6 x_7 x_8 x_9 x_10 x_11 x_12 x_13 x_14 x_15 x_16 x_17 x_18 x_19 (MS_setat x0 g9)]) (S1 := [wM cB cI cJ cZ x_0 x_1 x_2 x_3 x_4 x_5 x_6 x_7 x_8 x_9 x_10 x_11 x_12 x_13 x_14 x_15 x_16 x_17 x_18 x_19 s16]) (S' := [wM cB cI cJ cZ x_0 x_1 x_2 x_3 x_4 x_5 x_6 x_7 x_8 x_9 x_10 x_11 x_12 x_13 x_14 x_15 x_16 x_17 x_18 x_19 s16]) C (c_X8_writes l D cB cI cJ cZ x_0 x_1 x_2 x_3 x_4 x_5 x_6 x_7 x_8 x_9 x_10 x_11 x_12 x_13 x_14 x_15 x_16 x_17 x_18 x_19 y17) rfl rfl (gIV ml_X8_131 im_X8_writes sl_X8_writes in_X8 cd_X8_writes) rfl eX8_writes rfl ⟨rfl, rfl⟩ ⟨Nat.le_of_ble_eq_true rfl, Nat.le_of_ble_eq_true rfl⟩ rfl rfl rfl [0] rfl rfl rfl rfl (gA_cons aM gA_nil) rfl rfl (Nat.le_of_ble_eq_true rfl) (tdec DX8_writesHere 44 rfl) rfl ?_
      have hr9 := o_some hF
      subst hr9
      exact g_iret C rfl rfl (tdec DX8_writesHere 45 rfl)
    · have hF := o_ifn hF h8
      refine g_iconst (v := 1) C (tdec DX8_writesHere 19 rfl) (by decide) rfl ?_
      have hr9 := o_some hF
      subst hr9
      exact g_iret C rfl rfl (tdec DX8_writesHere 20 rfl)
