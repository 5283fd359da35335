/-! PART 11.X5: walks, printed by wip/whole/walk.py -/
def FX5_at (sb0 : SB) (p1 : Int32) : Option (Int32) :=
  if p1 < 0 then
    some (-1)
  else
    if (SB_len sb0) ≤ p1 then
      some (-1)
    else
      if (Int32.ofNat 9766) ≤ p1 then
        some (-1)
      else
        (ald 9766 (SB_cells sb0) p1).bind fun r4 =>
        some (r4 &&& 255)
def rX5_at : Room := { frames := 0, cells := 0, slots := 0, locals := 0 }
set_option maxHeartbeats 4000000 in
set_option maxRecDepth 100000 in
theorem c_X5_at (l : Launch) (D : va_G) (cB cI cJ cZ : ClassId) (sb_0 sb_1 : Nat) {sb0 : SB} {p1 : Int32} {res : Int32} (hF : FX5_at sb0 p1 = some res) : gRi l yX5_at wsX5_at rX5_at D (gT cB cI cJ cZ) [.ref sb_0, .int p1] (wSB cB sb_0 sb_1 sb0) res := by
  refine g_enter (own := RX5) (free := (fun _ _ => False)) (Qc := (fun sz => gRQi res)) (fun _ _ => True) (fun sz => Or.inl rfl) rfl (by decide) rfl (Nat.le_of_ble_eq_true rfl) rfl ?_
  intro p e s m args below meth c C
  unfold FX5_at at hF
  refine g_iload_n (z := 1) C (tdec DX5_at 0 rfl) rfl rfl rfl ?_
  refine g_if_lt (pt := 34) C (tdec DX5_at 1 rfl) (by decide) rfl (fun h1 => ?_) (fun h1 => ?_)
  · have hF := o_ifp hF h1
    refine g_iconst (v := (-1)) C (tdec DX5_at 18 rfl) (by decide) rfl ?_
    have hr9 := o_some hF
    subst hr9
    exact g_iretR C rfl (tdec DX5_at 19 rfl)
  · have hF := o_ifn hF h1
    refine g_iload_n (z := 1) C (tdec DX5_at 2 rfl) rfl rfl rfl ?_
    refine g_aload_n (z := 0) C (tdec DX5_at 3 rfl) rfl rfl rfl ?_
    refine g_getf (C' := RX5) (T := TX5) (N := 2) (v := .int (SB_len sb0)) C 0 1 (gIn iw_X5) rfl rfl (by decide) (gMem fl_X5_15) rfl rfl (tdec DX5_at 4 rfl) rfl ?_
    refine g_icmp_ge (pt := 34) C (tdec DX5_at 5 rfl) (by decide) rfl (fun h2 => ?_) (fun h2 => ?_)
    · have hF := o_ifp hF h2
      refine g_iconst (v := (-1)) C (tdec DX5_at 18 rfl) (by decide) rfl ?_
      have hr9 := o_some hF
      subst hr9
      exact g_iretR C rfl (tdec DX5_at 19 rfl)
    · have hF := o_ifn hF h2
      refine g_iload_n (z := 1) C (tdec DX5_at 6 rfl) rfl rfl rfl ?_
      refine g_aload_n (z := 0) C (tdec DX5_at 7 rfl) rfl rfl rfl ?_
      refine g_getf (C' := RX5) (T := TX5) (N := 2) (v := .ref sb_1) C 0 0 (gIn iw_X5) rfl rfl (by decide) (gMem fl_X5_9) rfl rfl (tdec DX5_at 8 rfl) rfl ?_
      refine g_alen C 1 0 rfl rfl rfl (tdec DX5_at 9 rfl) rfl ?_
      refine g_icmp_ge (pt := 34) C (tdec DX5_at 10 rfl) (by decide) rfl (fun h3 => ?_) (fun h3 => ?_)
      · have hF := o_ifp hF h3
        refine g_iconst (v := (-1)) C (tdec DX5_at 18 rfl) (by decide) rfl ?_
        have hr9 := o_some hF
        subst hr9
        exact g_iretR C rfl (tdec DX5_at 19 rfl)
      · have hF := o_ifn hF h3
        refine g_aload_n (z := 0) C (tdec DX5_at 11 rfl) rfl rfl rfl ?_
        refine g_getf (C' := RX5) (T := TX5) (N := 2) (v := .ref sb_1) C 0 0 (gIn iw_X5) rfl rfl (by decide) (gMem fl_X5_9) rfl rfl (tdec DX5_at 12 rfl) rfl ?_
        refine g_iload_n (z := 1) C (tdec DX5_at 13 rfl) rfl rfl rfl ?_
        obtain ⟨r4, y5, hF⟩ := o_bind hF
        refine g_bald C 1 0 rfl rfl y5 (tdec DX5_at 14 rfl) rfl ?_
        refine g_sipush (v := 255) C (tdec DX5_at 15 rfl) (by decide) rfl ?_
        refine g_iand C (tdec DX5_at 16 rfl) rfl ?_
        refine g_goto (pt := 35) C (tdec DX5_at 17 rfl) (by decide) ?_
        have hr9 := o_some hF
        subst hr9
        exact g_iretR C rfl (tdec DX5_at 19 rfl)
def FX5_sumOf_L8 (sb0 : SB) (v1 : Int32) (v2 : Int32) (k9 : Int32 → Int32 → Int32 → Option (Int64)) : Nat → Int32 → Int32 → Int32 → Option (Int64)
  | 0, _, _, _ => none
  | n9 + 1, v3, v4, v5 =>
    if v2 ≤ v5 then
      k9 v3 v4 v5
    else
      (FX5_at sb0 v5).bind fun r2 =>
      FX5_sumOf_L8 sb0 v1 v2 k9 n9 (v3 + r2) (v4 + (v3 + r2)) (v5 + 1)
def FX5_sumOf (sb0 : SB) (p1 : Int32) (p2 : Int32) : Option (Int64) :=
  FX5_sumOf_L8 sb0 p1 p2 (fun w3_4 w4_4 w5_4 =>
    some ((((w4_4 : Int32).toInt64) <<< ((32 : Int32).toInt64 &&& 63)) ||| (((w3_4 : Int32).toInt64) &&& 4294967295))) 100000 1 0 p1
def rX5_sumOf : Room := { frames := 1, cells := 0, slots := 0, locals := 21 }
set_option maxHeartbeats 4000000 in
set_option maxRecDepth 100000 in
theorem c_FX5_sumOf_L8 {p : Program} {l : Launch} {e : Env} {s : State} {m : MethodId} {args : Array Value} {below : List Frame} {meth : Method} {c : Code} {D : va_G} {cB cI cJ cZ : ClassId} {sb_0 sb_1 : Nat} {sb0 : SB} {res : Int64} (C : gC p s m args meth c cX5_sumOf 6 RX5 wsX5_sumOf D (gT cB cI cJ cZ) (some .long) (fun _ => False)) {v1 : Int32} {v2 : Int32} {k9 : Int32 → Int32 → Int32 → Option (Int64)} (hk9 : ∀ (v3 : Int32) (v4 : Int32) (v5 : Int32), k9 v3 v4 v5 = some res → gG p l e (headSpec wsX5_sumOf rX5_sumOf).room s m args below meth c 0 0 D (fun _ => True) (fun _ => False) 6 (MQ below (gRQl res) args s 0 0 (fun _ => False)) (wSB cB sb_0 sb_1 sb0) 35 [(0, .ref sb_0), (1, .int v1), (2, .int v2), (3, .int v3), (4, .int v4), (5, .int v5)] []) :
    ∀ (n9 : Nat) (v3 : Int32) (v4 : Int32) (v5 : Int32), FX5_sumOf_L8 sb0 v1 v2 k9 n9 v3 v4 v5 = some res → gG p l e (headSpec wsX5_sumOf rX5_sumOf).room s m args below meth c 0 0 D (fun _ => True) (fun _ => False) 6 (MQ below (gRQl res) args s 0 0 (fun _ => False)) (wSB cB sb_0 sb_1 sb0) 8 [(0, .ref sb_0), (1, .int v1), (2, .int v2), (3, .int v3), (4, .int v4), (5, .int v5)] [] := by
  intro n9
  induction n9 with
  | zero =>
    intro v3 v4 v5 hF
    exact absurd hF (by simp [FX5_sumOf_L8])
  | succ n9 ih9 =>
    intro v3 v4 v5 hF
    rw [FX5_sumOf_L8] at hF
    refine g_iload (z := 5) C (tdec DX5_sumOf 6 rfl) rfl rfl ?_
    refine g_iload_n (z := 2) C (tdec DX5_sumOf 7 rfl) rfl rfl rfl ?_
    refine g_icmp_ge (pt := 35) C (tdec DX5_sumOf 8 rfl) (by decide) rfl (fun h1 => ?_) (fun h1 => ?_)
    · have hF := o_ifp hF h1
      refine g_sub (L' := [(0, .ref sb_0), (1, .int v1), (2, .int v2), (3, .int v3), (4, .int v4), (5, .int v5)]) [0, 1, 2, 3, 4, 5] rfl ?_
      exact hk9 _ _ _ hF
    · have hF := o_ifn hF h1
      refine g_iload_n (z := 3) C (tdec DX5_sumOf 9 rfl) rfl rfl rfl ?_
      refine g_aload_n (z := 0) C (tdec DX5_sumOf 10 rfl) rfl rfl rfl ?_
      refine g_iload (z := 5) C (tdec DX5_sumOf 11 rfl) rfl rfl ?_
      obtain ⟨r2, y3, hF⟩ := o_bind hF
      refine g_callViRS (q0 := 0) (S := [wSB cB sb_0 sb_1 sb0]) (S0 := [wSB cB sb_0 sb_1 sb0]) C (c_X5_at l D cB cI cJ cZ sb_0 sb_1 y3) rfl rfl (gIV ml_X5_37 im_X5_at sl_X5_at in_X5 cd_X5_at) rfl eX5_at rfl ⟨rfl, rfl⟩ ⟨Nat.le_of_ble_eq_true rfl, Nat.le_of_ble_eq_true rfl⟩ rfl rfl rfl [0] rfl rfl rfl (Nat.le_of_ble_eq_true rfl) (tdec DX5_sumOf 12 rfl) rfl ?_
      refine g_iadd C (tdec DX5_sumOf 13 rfl) rfl ?_
      refine g_istore_n (L' := [(3, .int (v3 + r2)), (0, .ref sb_0), (1, .int v1), (2, .int v2), (4, .int v4), (5, .int v5)]) C (tdec DX5_sumOf 14 rfl) rfl (by decide) rfl rfl ?_
      refine g_iload (z := 4) C (tdec DX5_sumOf 15 rfl) rfl rfl ?_
      refine g_iload_n (z := 0) C (tdec DX5_sumOf 16 rfl) rfl rfl rfl ?_
      refine g_iadd C (tdec DX5_sumOf 17 rfl) rfl ?_
      refine g_istore (L' := [(4, .int (v4 + (v3 + r2))), (3, .int (v3 + r2)), (0, .ref sb_0), (1, .int v1), (2, .int v2), (5, .int v5)]) C (tdec DX5_sumOf 18 rfl) (by decide) rfl rfl ?_
      refine g_iinc (z := 5) (v := (v5 + 1)) (L' := [(5, .int (v5 + 1)), (4, .int (v4 + (v3 + r2))), (3, .int (v3 + r2)), (0, .ref sb_0), (1, .int v1), (2, .int v2)]) C (tdec DX5_sumOf 19 rfl) rfl rfl (by decide) rfl rfl ?_
      refine g_goto (pt := 8) C (tdec DX5_sumOf 20 rfl) (by decide) ?_
      refine g_sub (L' := [(0, .ref sb_0), (1, .int v1), (2, .int v2), (3, .int (v3 + r2)), (4, .int (v4 + (v3 + r2))), (5, .int (v5 + 1))]) [3, 4, 5, 2, 1, 0] rfl ?_
      exact ih9 _ _ _ hF
set_option maxHeartbeats 4000000 in
set_option maxRecDepth 100000 in
theorem c_X5_sumOf (l : Launch) (D : va_G) (cB cI cJ cZ : ClassId) (sb_0 sb_1 : Nat) {sb0 : SB} {p1 : Int32} {p2 : Int32} {res : Int64} (hF : FX5_sumOf sb0 p1 p2 = some res) : gRl l yX5_sumOf wsX5_sumOf rX5_sumOf D (gT cB cI cJ cZ) [.ref sb_0, .int p1, .int p2] (wSB cB sb_0 sb_1 sb0) res := by
  refine g_enter (own := RX5) (free := (fun _ _ => False)) (Qc := (fun sz => gRQl res)) (fun _ _ => True) (fun sz => Or.inl rfl) rfl (by decide) rfl (Nat.le_of_ble_eq_true rfl) rfl ?_
  intro p e s m args below meth c C
  unfold FX5_sumOf at hF
  refine g_iconst (v := 1) C (tdec DX5_sumOf 0 rfl) (by decide) rfl ?_
  refine g_istore_n (L' := [(3, .int 1), (0, .ref sb_0), (1, .int p1), (2, .int p2)]) C (tdec DX5_sumOf 1 rfl) rfl (by decide) rfl rfl ?_
  refine g_iconst (v := 0) C (tdec DX5_sumOf 2 rfl) (by decide) rfl ?_
  refine g_istore (L' := [(4, .int 0), (3, .int 1), (0, .ref sb_0), (1, .int p1), (2, .int p2)]) C (tdec DX5_sumOf 3 rfl) (by decide) rfl rfl ?_
  refine g_iload_n (z := 3) C (tdec DX5_sumOf 4 rfl) rfl rfl rfl ?_
  refine g_istore (L' := [(5, .int p1), (4, .int 0), (3, .int 1), (0, .ref sb_0), (1, .int p1), (2, .int p2)]) C (tdec DX5_sumOf 5 rfl) (by decide) rfl rfl ?_
  refine g_sub (L' := [(0, .ref sb_0), (1, .int p1), (2, .int p2), (3, .int 1), (4, .int 0), (5, .int p1)]) [3, 4, 5, 2, 1, 0] rfl ?_
  refine c_FX5_sumOf_L8 C (fun w3_4 w4_4 w5_4 hF => ?_) 100000 _ _ _ hF
  refine g_iload (z := 4) C (tdec DX5_sumOf 21 rfl) rfl rfl ?_
  refine g_i2l C (tdec DX5_sumOf 22 rfl) rfl ?_
  refine g_bipush (v := 32) C (tdec DX5_sumOf 23 rfl) (by decide) rfl ?_
  refine g_lshl C (tdec DX5_sumOf 24 rfl) rfl ?_
  refine g_iload_n (z := 3) C (tdec DX5_sumOf 25 rfl) rfl rfl rfl ?_
  refine g_i2l C (tdec DX5_sumOf 26 rfl) rfl ?_
  refine g_ldc2 C (gMem kl_X5_44) (tdec DX5_sumOf 27 rfl) rfl ?_
  refine g_land C (tdec DX5_sumOf 28 rfl) rfl ?_
  refine g_lor C (tdec DX5_sumOf 29 rfl) rfl ?_
  have hr9 := o_some hF
  subst hr9
  exact g_lretR C rfl (tdec DX5_sumOf 30 rfl)
def FX5_numberAt_L5 (sb0 : SB) (v1 : Int32) (v2 : Int32) (k9 : Int64 → Int32 → Option (Int64)) : Nat → Int64 → Int32 → Option (Int64)
  | 0, _, _ => none
  | n9 + 1, v3, v5 =>
    if v2 ≤ v5 then
      k9 v3 v5
    else
      (FX5_at sb0 (v1 + v5)).bind fun r2 =>
      FX5_numberAt_L5 sb0 v1 v2 k9 n9 ((v3 <<< ((8 : Int32).toInt64 &&& 63)) ||| (((r2 &&& 255) : Int32).toInt64)) (v5 + 1)
def FX5_numberAt (sb0 : SB) (p1 : Int32) (p2 : Int32) : Option (Int64) :=
  FX5_numberAt_L5 sb0 p1 p2 (fun w3_4 w5_4 =>
    some w3_4) 100000 0 0
def rX5_numberAt : Room := { frames := 1, cells := 0, slots := 0, locals := 21 }
set_option maxHeartbeats 4000000 in
set_option maxRecDepth 100000 in
theorem c_FX5_numberAt_L5 {p : Program} {l : Launch} {e : Env} {s : State} {m : MethodId} {args : Array Value} {below : List Frame} {meth : Method} {c : Code} {D : va_G} {cB cI cJ cZ : ClassId} {sb_0 sb_1 : Nat} {sb0 : SB} {res : Int64} (C : gC p s m args meth c cX5_numberAt 6 RX5 wsX5_numberAt D (gT cB cI cJ cZ) (some .long) (fun _ => False)) {v1 : Int32} {v2 : Int32} {k9 : Int64 → Int32 → Option (Int64)} (hk9 : ∀ (v3 : Int64) (v5 : Int32), k9 v3 v5 = some res → gG p l e (headSpec wsX5_numberAt rX5_numberAt).room s m args below meth c 0 0 D (fun _ => True) (fun _ => False) 6 (MQ below (gRQl res) args s 0 0 (fun _ => False)) (wSB cB sb_0 sb_1 sb0) 36 [(0, .ref sb_0), (1, .int v1), (2, .int v2), (3, .long v3), (5, .int v5)] []) :
    ∀ (n9 : Nat) (v3 : Int64) (v5 : Int32), FX5_numberAt_L5 sb0 v1 v2 k9 n9 v3 v5 = some res → gG p l e (headSpec wsX5_numberAt rX5_numberAt).room s m args below meth c 0 0 D (fun _ => True) (fun _ => False) 6 (MQ below (gRQl res) args s 0 0 (fun _ => False)) (wSB cB sb_0 sb_1 sb0) 5 [(0, .ref sb_0), (1, .int v1), (2, .int v2), (3, .long v3), (5, .int v5)] [] := by
  intro n9
  induction n9 with
  | zero =>
    intro v3 v5 hF
    exact absurd hF (by simp [FX5_numberAt_L5])
  | succ n9 ih9 =>
    intro v3 v5 hF
    rw [FX5_numberAt_L5] at hF
    refine g_iload (z := 4) C (tdec DX5_numberAt 4 rfl) rfl rfl ?_
    refine g_iload_n (z := 2) C (tdec DX5_numberAt 5 rfl) rfl rfl rfl ?_
    refine g_icmp_ge (pt := 36) C (tdec DX5_numberAt 6 rfl) (by decide) rfl (fun h1 => ?_) (fun h1 => ?_)
    · have hF := o_ifp hF h1
      refine g_sub (L' := [(0, .ref sb_0), (1, .int v1), (2, .int v2), (3, .long v3), (5, .int v5)]) [0, 1, 2, 3, 4] rfl ?_
      exact hk9 _ _ hF
    · have hF := o_ifn hF h1
      refine g_lload_n (z := 3) C (tdec DX5_numberAt 7 rfl) rfl rfl rfl ?_
      refine g_bipush (v := 8) C (tdec DX5_numberAt 8 rfl) (by decide) rfl ?_
      refine g_lshl C (tdec DX5_numberAt 9 rfl) rfl ?_
      refine g_aload_n (z := 0) C (tdec DX5_numberAt 10 rfl) rfl rfl rfl ?_
      refine g_iload_n (z := 1) C (tdec DX5_numberAt 11 rfl) rfl rfl rfl ?_
      refine g_iload (z := 4) C (tdec DX5_numberAt 12 rfl) rfl rfl ?_
      refine g_iadd C (tdec DX5_numberAt 13 rfl) rfl ?_
      obtain ⟨r2, y3, hF⟩ := o_bind hF
      refine g_callViRS (q0 := 0) (S := [wSB cB sb_0 sb_1 sb0]) (S0 := [wSB cB sb_0 sb_1 sb0]) C (c_X5_at l D cB cI cJ cZ sb_0 sb_1 y3) rfl rfl (gIV ml_X5_37 im_X5_at sl_X5_at in_X5 cd_X5_at) rfl eX5_at rfl ⟨rfl, rfl⟩ ⟨Nat.le_of_ble_eq_true rfl, Nat.le_of_ble_eq_true rfl⟩ rfl rfl rfl [0] rfl rfl rfl (Nat.le_of_ble_eq_true rfl) (tdec DX5_numberAt 14 rfl) rfl ?_
      refine g_sipush (v := 255) C (tdec DX5_numberAt 15 rfl) (by decide) rfl ?_
      refine g_iand C (tdec DX5_numberAt 16 rfl) rfl ?_
      refine g_i2l C (tdec DX5_numberAt 17 rfl) rfl ?_
      refine g_lor C (tdec DX5_numberAt 18 rfl) rfl ?_
      refine g_lstore_n (L' := [(3, .long ((v3 <<< ((8 : Int32).toInt64 &&& 63)) ||| (((r2 &&& 255) : Int32).toInt64))), (0, .ref sb_0), (1, .int v1), (2, .int v2), (5, .int v5)]) C (tdec DX5_numberAt 19 rfl) rfl (by decide) rfl rfl ?_
      refine g_iinc (z := 4) (v := (v5 + 1)) (L' := [(5, .int (v5 + 1)), (3, .long ((v3 <<< ((8 : Int32).toInt64 &&& 63)) ||| (((r2 &&& 255) : Int32).toInt64))), (0, .ref sb_0), (1, .int v1), (2, .int v2)]) C (tdec DX5_numberAt 20 rfl) rfl rfl (by decide) rfl rfl ?_
      refine g_goto (pt := 5) C (tdec DX5_numberAt 21 rfl) (by decide) ?_
      refine g_sub (L' := [(0, .ref sb_0), (1, .int v1), (2, .int v2), (3, .long ((v3 <<< ((8 : Int32).toInt64 &&& 63)) ||| (((r2 &&& 255) : Int32).toInt64))), (5, .int (v5 + 1))]) [2, 3, 4, 1, 0] rfl ?_
      exact ih9 _ _ hF
set_option maxHeartbeats 4000000 in
set_option maxRecDepth 100000 in
theorem c_X5_numberAt (l : Launch) (D : va_G) (cB cI cJ cZ : ClassId) (sb_0 sb_1 : Nat) {sb0 : SB} {p1 : Int32} {p2 : Int32} {res : Int64} (hF : FX5_numberAt sb0 p1 p2 = some res) : gRl l yX5_numberAt wsX5_numberAt rX5_numberAt D (gT cB cI cJ cZ) [.ref sb_0, .int p1, .int p2] (wSB cB sb_0 sb_1 sb0) res := by
  refine g_enter (own := RX5) (free := (fun _ _ => False)) (Qc := (fun sz => gRQl res)) (fun _ _ => True) (fun sz => Or.inl rfl) rfl (by decide) rfl (Nat.le_of_ble_eq_true rfl) rfl ?_
  intro p e s m args below meth c C
  unfold FX5_numberAt at hF
  refine g_lconst (v := 0) C (tdec DX5_numberAt 0 rfl) (by decide) rfl ?_
  refine g_lstore_n (L' := [(3, .long 0), (0, .ref sb_0), (1, .int p1), (2, .int p2)]) C (tdec DX5_numberAt 1 rfl) rfl (by decide) rfl rfl ?_
  refine g_iconst (v := 0) C (tdec DX5_numberAt 2 rfl) (by decide) rfl ?_
  refine g_istore (L' := [(5, .int 0), (3, .long 0), (0, .ref sb_0), (1, .int p1), (2, .int p2)]) C (tdec DX5_numberAt 3 rfl) (by decide) rfl rfl ?_
  refine g_sub (L' := [(0, .ref sb_0), (1, .int p1), (2, .int p2), (3, .long 0), (5, .int 0)]) [2, 3, 4, 1, 0] rfl ?_
  refine c_FX5_numberAt_L5 C (fun w3_4 w5_4 hF => ?_) 100000 _ _ hF
  refine g_lload_n (z := 3) C (tdec DX5_numberAt 22 rfl) rfl rfl rfl ?_
  have hr9 := o_some hF
  subst hr9
  exact g_lretR C rfl (tdec DX5_numberAt 23 rfl)
def FX5_isWhole (sb0 : SB) (p1 : Int32) (p2 : Int32) : Option (Int32) :=
  if p2 < 8 then
    some 0
  else
    if (p1 + p2) ≤ (SB_len sb0) then
      (FX5_sumOf sb0 p1 ((p1 + p2) - 8)).bind fun r3 =>
      (FX5_numberAt sb0 ((p1 + p2) - 8) 8).bind fun r5 =>
      if (lg_cmp r3 r5) = 0 then
        some 1
      else
        some 0
    else
      some 0
def rX5_isWhole : Room := { frames := 2, cells := 0, slots := 0, locals := 46 }
set_option maxHeartbeats 4000000 in
set_option maxRecDepth 100000 in
theorem c_X5_isWhole (l : Launch) (D : va_G) (cB cI cJ cZ : ClassId) (sb_0 sb_1 : Nat) {sb0 : SB} {p1 : Int32} {p2 : Int32} {res : Int32} (hF : FX5_isWhole sb0 p1 p2 = some res) : gRi l yX5_isWhole wsX5_isWhole rX5_isWhole D (gT cB cI cJ cZ) [.ref sb_0, .int p1, .int p2] (wSB cB sb_0 sb_1 sb0) res := by
  refine g_enter (own := RX5) (free := (fun _ _ => False)) (Qc := (fun sz => gRQi res)) (fun _ _ => True) (fun sz => Or.inl rfl) rfl (by decide) rfl (Nat.le_of_ble_eq_true rfl) rfl ?_
  intro p e s m args below meth c C
  unfold FX5_isWhole at hF
  refine g_iload_n (z := 2) C (tdec DX5_isWhole 0 rfl) rfl rfl rfl ?_
  refine g_bipush (v := 8) C (tdec DX5_isWhole 1 rfl) (by decide) rfl ?_
  refine g_icmp_lt (pt := 16) C (tdec DX5_isWhole 2 rfl) (by decide) rfl (fun h1 => ?_) (fun h1 => ?_)
  · have hF := o_ifp hF h1
    refine g_iconst (v := 0) C (tdec DX5_isWhole 9 rfl) (by decide) rfl ?_
    have hr9 := o_some hF
    subst hr9
    exact g_zretR C rfl rfl (tdec DX5_isWhole 10 rfl)
  · have hF := o_ifn hF h1
    refine g_iload_n (z := 1) C (tdec DX5_isWhole 3 rfl) rfl rfl rfl ?_
    refine g_iload_n (z := 2) C (tdec DX5_isWhole 4 rfl) rfl rfl rfl ?_
    refine g_iadd C (tdec DX5_isWhole 5 rfl) rfl ?_
    refine g_aload_n (z := 0) C (tdec DX5_isWhole 6 rfl) rfl rfl rfl ?_
    refine g_getf (C' := RX5) (T := TX5) (N := 2) (v := .int (SB_len sb0)) C 0 1 (gIn iw_X5) rfl rfl (by decide) (gMem fl_X5_15) rfl rfl (tdec DX5_isWhole 7 rfl) rfl ?_
    refine g_icmp_le (pt := 18) C (tdec DX5_isWhole 8 rfl) (by decide) rfl (fun h2 => ?_) (fun h2 => ?_)
    · have hF := o_ifp hF h2
      refine g_iload_n (z := 1) C (tdec DX5_isWhole 11 rfl) rfl rfl rfl ?_
      refine g_iload_n (z := 2) C (tdec DX5_isWhole 12 rfl) rfl rfl rfl ?_
      refine g_iadd C (tdec DX5_isWhole 13 rfl) rfl ?_
      refine g_bipush (v := 8) C (tdec DX5_isWhole 14 rfl) (by decide) rfl ?_
      refine g_isub C (tdec DX5_isWhole 15 rfl) rfl ?_
      refine g_istore_n (L' := [(3, .int ((p1 + p2) - 8)), (0, .ref sb_0), (1, .int p1), (2, .int p2)]) C (tdec DX5_isWhole 16 rfl) rfl (by decide) rfl rfl ?_
      refine g_aload_n (z := 1) C (tdec DX5_isWhole 17 rfl) rfl rfl rfl ?_
      refine g_iload_n (z := 2) C (tdec DX5_isWhole 18 rfl) rfl rfl rfl ?_
      refine g_iload_n (z := 0) C (tdec DX5_isWhole 19 rfl) rfl rfl rfl ?_
      obtain ⟨r3, y4, hF⟩ := o_bind hF
      refine g_callVlRS (q0 := 0) (S := [wSB cB sb_0 sb_1 sb0]) (S0 := [wSB cB sb_0 sb_1 sb0]) C (c_X5_sumOf l D cB cI cJ cZ sb_0 sb_1 y4) rfl rfl (gIV ml_X5_23 im_X5_sumOf sl_X5_sumOf in_X5 cd_X5_sumOf) rfl eX5_sumOf rfl ⟨rfl, rfl⟩ ⟨Nat.le_of_ble_eq_true rfl, Nat.le_of_ble_eq_true rfl⟩ rfl rfl rfl [0] rfl rfl rfl (Nat.le_of_ble_eq_true rfl) (tdec DX5_isWhole 20 rfl) rfl ?_
      refine g_aload_n (z := 1) C (tdec DX5_isWhole 21 rfl) rfl rfl rfl ?_
      refine g_iload_n (z := 0) C (tdec DX5_isWhole 22 rfl) rfl rfl rfl ?_
      refine g_bipush (v := 8) C (tdec DX5_isWhole 23 rfl) (by decide) rfl ?_
      obtain ⟨r5, y6, hF⟩ := o_bind hF
      refine g_callVlRS (q0 := 0) (S := [wSB cB sb_0 sb_1 sb0]) (S0 := [wSB cB sb_0 sb_1 sb0]) C (c_X5_numberAt l D cB cI cJ cZ sb_0 sb_1 y6) rfl rfl (gIV ml_X5_41 im_X5_numberAt sl_X5_numberAt in_X5 cd_X5_numberAt) rfl eX5_numberAt rfl ⟨rfl, rfl⟩ ⟨Nat.le_of_ble_eq_true rfl, Nat.le_of_ble_eq_true rfl⟩ rfl rfl rfl [0] rfl rfl rfl (Nat.le_of_ble_eq_true rfl) (tdec DX5_isWhole 24 rfl) rfl ?_
      refine g_lcmp C (tdec DX5_isWhole 25 rfl) rfl ?_
      refine g_if_ne (pt := 46) C (tdec DX5_isWhole 26 rfl) (by decide) rfl (fun h7 => ?_) (fun h7 => ?_)
      · have hF := o_ifn hF h7
        refine g_iconst (v := 0) C (tdec DX5_isWhole 29 rfl) (by decide) rfl ?_
        have hr9 := o_some hF
        subst hr9
        exact g_zretR C rfl rfl (tdec DX5_isWhole 30 rfl)
      · have hF := o_ifp hF h7
        refine g_iconst (v := 1) C (tdec DX5_isWhole 27 rfl) (by decide) rfl ?_
        refine g_goto (pt := 47) C (tdec DX5_isWhole 28 rfl) (by decide) ?_
        have hr9 := o_some hF
        subst hr9
        exact g_zretR C rfl rfl (tdec DX5_isWhole 30 rfl)
    · have hF := o_ifn hF h2
      refine g_iconst (v := 0) C (tdec DX5_isWhole 9 rfl) (by decide) rfl ?_
      have hr9 := o_some hF
      subst hr9
      exact g_zretR C rfl rfl (tdec DX5_isWhole 10 rfl)
def FX5_length (sb0 : SB) : Option (Int32) :=
  some (SB_len sb0)
def rX5_length : Room := { frames := 0, cells := 0, slots := 0, locals := 0 }
set_option maxHeartbeats 4000000 in
set_option maxRecDepth 100000 in
theorem c_X5_length (l : Launch) (D : va_G) (cB cI cJ cZ : ClassId) (sb_0 sb_1 : Nat) {sb0 : SB} {res : Int32} (hF : FX5_length sb0 = some res) : gRi l yX5_length wsX5_length rX5_length D (gT cB cI cJ cZ) [.ref sb_0] (wSB cB sb_0 sb_1 sb0) res := by
  refine g_enter (own := RX5) (free := (fun _ _ => False)) (Qc := (fun sz => gRQi res)) (fun _ _ => True) (fun sz => Or.inl rfl) rfl (by decide) rfl (Nat.le_of_ble_eq_true rfl) rfl ?_
  intro p e s m args below meth c C
  unfold FX5_length at hF
  refine g_aload_n (z := 0) C (tdec DX5_length 0 rfl) rfl rfl rfl ?_
  refine g_getf (C' := RX5) (T := TX5) (N := 2) (v := .int (SB_len sb0)) C 0 1 (gIn iw_X5) rfl rfl (by decide) (gMem fl_X5_15) rfl rfl (tdec DX5_length 1 rfl) rfl ?_
  have hr9 := o_some hF
  subst hr9
  exact g_iretR C rfl (tdec DX5_length 2 rfl)
def FX5_shorten (sb0 : SB) (p1 : Int32) : Option (SB) :=
  some (SB_setlen sb0 p1)
def rX5_shorten : Room := { frames := 0, cells := 0, slots := 0, locals := 0 }
set_option maxHeartbeats 4000000 in
set_option maxRecDepth 100000 in
theorem c_X5_shorten (l : Launch) (D : va_G) (cB cI cJ cZ : ClassId) (sb_0 sb_1 : Nat) {sb0 : SB} {p1 : Int32} {res : SB} (hF : FX5_shorten sb0 p1 = some res) : gMv l yX5_shorten wsX5_shorten rX5_shorten D (gT cB cI cJ cZ) [.ref sb_0, .int p1] (wSB cB sb_0 sb_1 sb0) (wSB cB sb_0 sb_1 res) := by
  refine g_enter (own := RX5) (free := (fun sz => va_A (wSB cB sb_0 sb_1 sb0) sz)) (Qc := (fun sz => gQv D (wSB cB sb_0 sb_1 sb0) sz (wSB cB sb_0 sb_1 res))) (fun sz => va_A (wSB cB sb_0 sb_1 sb0) sz) (fun sz => Or.inr rfl) rfl (by decide) rfl (Nat.le_of_ble_eq_true rfl) rfl ?_
  intro p e s m args below meth c C
  unfold FX5_shorten at hF
  refine g_aload_n (z := 0) C (tdec DX5_shorten 0 rfl) rfl rfl rfl ?_
  refine g_iload_n (z := 1) C (tdec DX5_shorten 1 rfl) rfl rfl rfl ?_
  refine g_putf (C' := RX5) (T := TX5) (N := 2) (v := .int p1) (ws' := wSB cB sb_0 sb_1 (SB_setlen sb0 p1)) C 0 1 tyX5 tyX5_ok nmX5 (gIn iw_X5) rfl rfl (by decide) (gMem fl_X5_15) rfl rfl (tyX5_ok 1 (by decide)) rfl rfl (Nat.le_of_ble_eq_true rfl) rfl (tdec DX5_shorten 2 rfl) rfl ?_
  have hr9 := o_some hF
  subst hr9
  exact g_vret C rfl (tdec DX5_shorten 3 rfl)
def FX5_put (sb0 : SB) (p1 : Int32) (p2 : Int32) : Option (SB) :=
  if p1 < 0 then
    some sb0
  else
    if (Int32.ofNat 9766) ≤ p1 then
      some sb0
    else
      (ast 9766 (SB_cells sb0) p1 (vp_nar .byte ((p2 : Int32).toInt8.toInt32))).bind fun g3 =>
      some (SB_setcells sb0 g3)
def rX5_put : Room := { frames := 0, cells := 0, slots := 0, locals := 0 }
set_option maxHeartbeats 4000000 in
set_option maxRecDepth 100000 in
theorem c_X5_put (l : Launch) (D : va_G) (cB cI cJ cZ : ClassId) (sb_0 sb_1 : Nat) {sb0 : SB} {p1 : Int32} {p2 : Int32} {res : SB} (hF : FX5_put sb0 p1 p2 = some res) : gMv l yX5_put wsX5_put rX5_put D (gT cB cI cJ cZ) [.ref sb_0, .int p1, .int p2] (wSB cB sb_0 sb_1 sb0) (wSB cB sb_0 sb_1 res) := by
  refine g_enter (own := RX5) (free := (fun sz => va_A (wSB cB sb_0 sb_1 sb0) sz)) (Qc := (fun sz => gQv D (wSB cB sb_0 sb_1 sb0) sz (wSB cB sb_0 sb_1 res))) (fun sz => va_A (wSB cB sb_0 sb_1 sb0) sz) (fun sz => Or.inr rfl) rfl (by decide) rfl (Nat.le_of_ble_eq_true rfl) rfl ?_
  intro p e s m args below meth c C
  unfold FX5_put at hF
  refine g_iload_n (z := 1) C (tdec DX5_put 0 rfl) rfl rfl rfl ?_
  refine g_if_lt (pt := 21) C (tdec DX5_put 1 rfl) (by decide) rfl (fun h1 => ?_) (fun h1 => ?_)
  · have hF := o_ifp hF h1
    have hr9 := o_some hF
    subst hr9
    exact g_vret C rfl (tdec DX5_put 13 rfl)
  · have hF := o_ifn hF h1
    refine g_iload_n (z := 1) C (tdec DX5_put 2 rfl) rfl rfl rfl ?_
    refine g_aload_n (z := 0) C (tdec DX5_put 3 rfl) rfl rfl rfl ?_
    refine g_getf (C' := RX5) (T := TX5) (N := 2) (v := .ref sb_1) C 0 0 (gIn iw_X5) rfl rfl (by decide) (gMem fl_X5_9) rfl rfl (tdec DX5_put 4 rfl) rfl ?_
    refine g_alen C 1 0 rfl rfl rfl (tdec DX5_put 5 rfl) rfl ?_
    refine g_icmp_ge (pt := 21) C (tdec DX5_put 6 rfl) (by decide) rfl (fun h2 => ?_) (fun h2 => ?_)
    · have hF := o_ifp hF h2
      have hr9 := o_some hF
      subst hr9
      exact g_vret C rfl (tdec DX5_put 13 rfl)
    · have hF := o_ifn hF h2
      refine g_aload_n (z := 0) C (tdec DX5_put 7 rfl) rfl rfl rfl ?_
      refine g_getf (C' := RX5) (T := TX5) (N := 2) (v := .ref sb_1) C 0 0 (gIn iw_X5) rfl rfl (by decide) (gMem fl_X5_9) rfl rfl (tdec DX5_put 8 rfl) rfl ?_
      refine g_iload_n (z := 1) C (tdec DX5_put 9 rfl) rfl rfl rfl ?_
      refine g_iload_n (z := 2) C (tdec DX5_put 10 rfl) rfl rfl rfl ?_
      refine g_i2b C (tdec DX5_put 11 rfl) rfl ?_
      obtain ⟨g3, y4, hF⟩ := o_bind hF
      refine g_bast (ws' := wSB cB sb_0 sb_1 (SB_setcells sb0 g3)) C 1 0 rfl rfl y4 rfl (tdec DX5_put 12 rfl) rfl ?_
      have hr9 := o_some hF
      subst hr9
      exact g_vret C rfl (tdec DX5_put 13 rfl)
def FX5_addNumber_L5 (v1 : Int64) (v3 : Int32) (k9 : SB → Int32 → Option (SB)) : Nat → SB → Int32 → Option (SB)
  | 0, _, _ => none
  | n9 + 1, sb, v4 =>
    if v4 < 0 then
      k9 sb v4
    else
      if (Int32.ofNat 9766) ≤ (SB_len sb) then
        FX5_addNumber_L5 v1 v3 k9 n9 sb (v4 + (-1))
      else
        (FX5_put sb (SB_len sb) (((((v1 : Int64).toUInt64 >>> (((8 * v4) : Int32).toInt64.toUInt64 &&& Int64.toUInt64 63)).toInt64) : Int64).toInt32)).bind fun s3 =>
        FX5_addNumber_L5 v1 v3 k9 n9 (SB_setlen s3 ((SB_len s3) + 1)) (v4 + (-1))
def FX5_addNumber (sb0 : SB) (p1 : Int64) (p3 : Int32) : Option (SB) :=
  FX5_addNumber_L5 p1 p3 (fun sbq5 w4_5 =>
    some sbq5) 100000 sb0 (p3 - 1)
def rX5_addNumber : Room := { frames := 1, cells := 0, slots := 0, locals := 22 }
set_option maxHeartbeats 4000000 in
set_option maxRecDepth 100000 in
theorem c_FX5_addNumber_L5 {p : Program} {l : Launch} {e : Env} {s : State} {m : MethodId} {args : Array Value} {below : List Frame} {meth : Method} {c : Code} {D : va_G} {cB cI cJ cZ : ClassId} {sb_0 sb_1 : Nat} {sb0 : SB} {res : SB} (C : gC p s m args meth c cX5_addNumber 5 RX5 wsX5_addNumber D (gT cB cI cJ cZ) none (va_A (wSB cB sb_0 sb_1 sb0) s.heap.size)) {v1 : Int64} {v3 : Int32} {k9 : SB → Int32 → Option (SB)} (hk9 : ∀ (sb : SB) (v4 : Int32), k9 sb v4 = some res → gG p l e (headSpec wsX5_addNumber rX5_addNumber).room s m args below meth c 0 0 D (va_A (wSB cB sb_0 sb_1 sb0) s.heap.size) (va_A (wSB cB sb_0 sb_1 sb0) s.heap.size) 5 (MQ below (gQv D (wSB cB sb_0 sb_1 sb0) s.heap.size (wSB cB sb_0 sb_1 res)) args s 0 0 (va_A (wSB cB sb_0 sb_1 sb0) s.heap.size)) (wSB cB sb_0 sb_1 sb) 54 [(0, .ref sb_0), (1, .long v1), (3, .int v3), (4, .int v4)] []) :
    ∀ (n9 : Nat) (sb : SB) (v4 : Int32), FX5_addNumber_L5 v1 v3 k9 n9 sb v4 = some res → gG p l e (headSpec wsX5_addNumber rX5_addNumber).room s m args below meth c 0 0 D (va_A (wSB cB sb_0 sb_1 sb0) s.heap.size) (va_A (wSB cB sb_0 sb_1 sb0) s.heap.size) 5 (MQ below (gQv D (wSB cB sb_0 sb_1 sb0) s.heap.size (wSB cB sb_0 sb_1 res)) args s 0 0 (va_A (wSB cB sb_0 sb_1 sb0) s.heap.size)) (wSB cB sb_0 sb_1 sb) 5 [(0, .ref sb_0), (1, .long v1), (3, .int v3), (4, .int v4)] [] := by
  intro n9
  induction n9 with
  | zero =>
    intro sb v4 hF
    exact absurd hF (by simp [FX5_addNumber_L5])
  | succ n9 ih9 =>
    intro sb v4 hF
    rw [FX5_addNumber_L5] at hF
    refine g_iload (z := 3) C (tdec DX5_addNumber 4 rfl) rfl rfl ?_
    refine g_if_lt (pt := 54) C (tdec DX5_addNumber 5 rfl) (by decide) rfl (fun h1 => ?_) (fun h1 => ?_)
    · have hF := o_ifp hF h1
      refine g_sub (L' := [(0, .ref sb_0), (1, .long v1), (3, .int v3), (4, .int v4)]) [0, 1, 2, 3] rfl ?_
      exact hk9 _ _ hF
    · have hF := o_ifn hF h1
      refine g_aload_n (z := 0) C (tdec DX5_addNumber 6 rfl) rfl rfl rfl ?_
      refine g_getf (C' := RX5) (T := TX5) (N := 2) (v := .int (SB_len sb)) C 0 1 (gIn iw_X5) rfl rfl (by decide) (gMem fl_X5_15) rfl rfl (tdec DX5_addNumber 7 rfl) rfl ?_
      refine g_aload_n (z := 0) C (tdec DX5_addNumber 8 rfl) rfl rfl rfl ?_
      refine g_getf (C' := RX5) (T := TX5) (N := 2) (v := .ref sb_1) C 0 0 (gIn iw_X5) rfl rfl (by decide) (gMem fl_X5_9) rfl rfl (tdec DX5_addNumber 9 rfl) rfl ?_
      refine g_alen C 1 0 rfl rfl rfl (tdec DX5_addNumber 10 rfl) rfl ?_
      refine g_icmp_ge (pt := 48) C (tdec DX5_addNumber 11 rfl) (by decide) rfl (fun h2 => ?_) (fun h2 => ?_)
      · have hF := o_ifp hF h2
        refine g_iinc (z := 3) (v := (v4 + (-1))) (L' := [(4, .int (v4 + (-1))), (0, .ref sb_0), (1, .long v1), (3, .int v3)]) C (tdec DX5_addNumber 28 rfl) rfl rfl (by decide) rfl rfl ?_
        refine g_goto (pt := 5) C (tdec DX5_addNumber 29 rfl) (by decide) ?_
        refine g_sub (L' := [(0, .ref sb_0), (1, .long v1), (3, .int v3), (4, .int (v4 + (-1)))]) [1, 2, 3, 0] rfl ?_
        exact ih9 _ _ hF
      · have hF := o_ifn hF h2
        refine g_aload_n (z := 0) C (tdec DX5_addNumber 12 rfl) rfl rfl rfl ?_
        refine g_aload_n (z := 0) C (tdec DX5_addNumber 13 rfl) rfl rfl rfl ?_
        refine g_getf (C' := RX5) (T := TX5) (N := 2) (v := .int (SB_len sb)) C 0 1 (gIn iw_X5) rfl rfl (by decide) (gMem fl_X5_15) rfl rfl (tdec DX5_addNumber 14 rfl) rfl ?_
        refine g_lload_n (z := 1) C (tdec DX5_addNumber 15 rfl) rfl rfl rfl ?_
        refine g_bipush (v := 8) C (tdec DX5_addNumber 16 rfl) (by decide) rfl ?_
        refine g_iload (z := 3) C (tdec DX5_addNumber 17 rfl) rfl rfl ?_
        refine g_imul C (tdec DX5_addNumber 18 rfl) rfl ?_
        refine g_lushr C (tdec DX5_addNumber 19 rfl) rfl ?_
        refine g_l2i C (tdec DX5_addNumber 20 rfl) rfl ?_
        obtain ⟨s3, y4, hF⟩ := o_bind hF
        refine g_callVvMS (q0 := 0) (W' := wSB cB sb_0 sb_1 s3) (S := [wSB cB sb_0 sb_1 sb]) (S0 := [wSB cB sb_0 sb_1 sb]) (S1 := [wSB cB sb_0 sb_1 s3]) (S' := [wSB cB sb_0 sb_1 s3]) C (c_X5_put l D cB cI cJ cZ sb_0 sb_1 y4) rfl rfl (gIV ml_X5_33 im_X5_put sl_X5_put in_X5 cd_X5_put) rfl eX5_put rfl ⟨rfl, rfl⟩ ⟨Nat.le_of_ble_eq_true rfl, Nat.le_of_ble_eq_true rfl⟩ rfl rfl rfl [0] rfl rfl rfl rfl (gA_cons aSB gA_nil) rfl rfl (Nat.le_of_ble_eq_true rfl) (tdec DX5_addNumber 21 rfl) rfl ?_
        refine g_aload_n (z := 0) C (tdec DX5_addNumber 22 rfl) rfl rfl rfl ?_
        refine g_dup C (tdec DX5_addNumber 23 rfl) rfl rfl ?_
        refine g_getf (C' := RX5) (T := TX5) (N := 2) (v := .int (SB_len s3)) C 0 1 (gIn iw_X5) rfl rfl (by decide) (gMem fl_X5_15) rfl rfl (tdec DX5_addNumber 24 rfl) rfl ?_
        refine g_iconst (v := 1) C (tdec DX5_addNumber 25 rfl) (by decide) rfl ?_
        refine g_iadd C (tdec DX5_addNumber 26 rfl) rfl ?_
        refine g_putf (C' := RX5) (T := TX5) (N := 2) (v := .int ((SB_len s3) + 1)) (ws' := wSB cB sb_0 sb_1 (SB_setlen s3 ((SB_len s3) + 1))) C 0 1 tyX5 tyX5_ok nmX5 (gIn iw_X5) rfl rfl (by decide) (gMem fl_X5_15) rfl rfl (tyX5_ok 1 (by decide)) rfl rfl (Nat.le_of_ble_eq_true rfl) rfl (tdec DX5_addNumber 27 rfl) rfl ?_
        refine g_iinc (z := 3) (v := (v4 + (-1))) (L' := [(4, .int (v4 + (-1))), (0, .ref sb_0), (1, .long v1), (3, .int v3)]) C (tdec DX5_addNumber 28 rfl) rfl rfl (by decide) rfl rfl ?_
        refine g_goto (pt := 5) C (tdec DX5_addNumber 29 rfl) (by decide) ?_
        refine g_sub (L' := [(0, .ref sb_0), (1, .long v1), (3, .int v3), (4, .int (v4 + (-1)))]) [1, 2, 3, 0] rfl ?_
        exact ih9 _ _ hF
set_option maxHeartbeats 4000000 in
set_option maxRecDepth 100000 in
theorem c_X5_addNumber (l : Launch) (D : va_G) (cB cI cJ cZ : ClassId) (sb_0 sb_1 : Nat) {sb0 : SB} {p1 : Int64} {p3 : Int32} {res : SB} (hF : FX5_addNumber sb0 p1 p3 = some res) : gMv l yX5_addNumber wsX5_addNumber rX5_addNumber D (gT cB cI cJ cZ) [.ref sb_0, .long p1, .int p3] (wSB cB sb_0 sb_1 sb0) (wSB cB sb_0 sb_1 res) := by
  refine g_enter (own := RX5) (free := (fun sz => va_A (wSB cB sb_0 sb_1 sb0) sz)) (Qc := (fun sz => gQv D (wSB cB sb_0 sb_1 sb0) sz (wSB cB sb_0 sb_1 res))) (fun sz => va_A (wSB cB sb_0 sb_1 sb0) sz) (fun sz => Or.inr rfl) rfl (by decide) rfl (Nat.le_of_ble_eq_true rfl) rfl ?_
  intro p e s m args below meth c C
  unfold FX5_addNumber at hF
  refine g_iload_n (z := 2) C (tdec DX5_addNumber 0 rfl) rfl rfl rfl ?_
  refine g_iconst (v := 1) C (tdec DX5_addNumber 1 rfl) (by decide) rfl ?_
  refine g_isub C (tdec DX5_addNumber 2 rfl) rfl ?_
  refine g_istore (L' := [(4, .int (p3 - 1)), (0, .ref sb_0), (1, .long p1), (3, .int p3)]) C (tdec DX5_addNumber 3 rfl) (by decide) rfl rfl ?_
  refine g_sub (L' := [(0, .ref sb_0), (1, .long p1), (3, .int p3), (4, .int (p3 - 1))]) [1, 2, 3, 0] rfl ?_
  refine c_FX5_addNumber_L5 C (fun sbq5 w4_5 hF => ?_) 100000 _ _ hF
  have hr9 := o_some hF
  subst hr9
  exact g_vret C rfl (tdec DX5_addNumber 30 rfl)
def FX5_addBegin (sb0 : SB) (p1 : Int64) (p3 : Int64) : Option (SB) :=
  (FX5_addNumber sb0 1 1).bind fun s1 =>
  (FX5_addNumber s1 p1 8).bind fun s3 =>
  (FX5_addNumber s3 p3 8).bind fun s5 =>
  (FX5_sumOf s5 (SB_len sb0) (SB_len s5)).bind fun r7 =>
  (FX5_addNumber s5 r7 8).bind fun s9 =>
  some s9
def rX5_addBegin : Room := { frames := 2, cells := 0, slots := 0, locals := 46 }
set_option maxHeartbeats 4000000 in
set_option maxRecDepth 100000 in
theorem c_X5_addBegin (l : Launch) (D : va_G) (cB cI cJ cZ : ClassId) (sb_0 sb_1 : Nat) {sb0 : SB} {p1 : Int64} {p3 : Int64} {res : SB} (hF : FX5_addBegin sb0 p1 p3 = some res) : gMv l yX5_addBegin wsX5_addBegin rX5_addBegin D (gT cB cI cJ cZ) [.ref sb_0, .long p1, .long p3] (wSB cB sb_0 sb_1 sb0) (wSB cB sb_0 sb_1 res) := by
  refine g_enter (own := RX5) (free := (fun sz => va_A (wSB cB sb_0 sb_1 sb0) sz)) (Qc := (fun sz => gQv D (wSB cB sb_0 sb_1 sb0) sz (wSB cB sb_0 sb_1 res))) (fun sz => va_A (wSB cB sb_0 sb_1 sb0) sz) (fun sz => Or.inr rfl) rfl (by decide) rfl (Nat.le_of_ble_eq_true rfl) rfl ?_
  intro p e s m args below meth c C
  unfold FX5_addBegin at hF
  refine g_aload_n (z := 0) C (tdec DX5_addBegin 0 rfl) rfl rfl rfl ?_
  refine g_getf (C' := RX5) (T := TX5) (N := 2) (v := .int (SB_len sb0)) C 0 1 (gIn iw_X5) rfl rfl (by decide) (gMem fl_X5_15) rfl rfl (tdec DX5_addBegin 1 rfl) rfl ?_
  refine g_istore (L' := [(5, .int (SB_len sb0)), (0, .ref sb_0), (1, .long p1), (3, .long p3)]) C (tdec DX5_addBegin 2 rfl) (by decide) rfl rfl ?_
  refine g_aload_n (z := 1) C (tdec DX5_addBegin 3 rfl) rfl rfl rfl ?_
  refine g_lconst (v := 1) C (tdec DX5_addBegin 4 rfl) (by decide) rfl ?_
  refine g_iconst (v := 1) C (tdec DX5_addBegin 5 rfl) (by decide) rfl ?_
  obtain ⟨s1, y2, hF⟩ := o_bind hF
  refine g_callVvMS (q0 := 0) (W' := wSB cB sb_0 sb_1 s1) (S := [wSB cB sb_0 sb_1 sb0]) (S0 := [wSB cB sb_0 sb_1 sb0]) (S1 := [wSB cB sb_0 sb_1 s1]) (S' := [wSB cB sb_0 sb_1 s1]) C (c_X5_addNumber l D cB cI cJ cZ sb_0 sb_1 y2) rfl rfl (gIV ml_X5_19 im_X5_addNumber sl_X5_addNumber in_X5 cd_X5_addNumber) rfl eX5_addNumber rfl ⟨rfl, rfl⟩ ⟨Nat.le_of_ble_eq_true rfl, Nat.le_of_ble_eq_true rfl⟩ rfl rfl rfl [0] rfl rfl rfl rfl (gA_cons aSB gA_nil) rfl rfl (Nat.le_of_ble_eq_true rfl) (tdec DX5_addBegin 6 rfl) rfl ?_
  refine g_aload_n (z := 1) C (tdec DX5_addBegin 7 rfl) rfl rfl rfl ?_
  refine g_lload_n (z := 2) C (tdec DX5_addBegin 8 rfl) rfl rfl rfl ?_
  refine g_bipush (v := 8) C (tdec DX5_addBegin 9 rfl) (by decide) rfl ?_
  obtain ⟨s3, y4, hF⟩ := o_bind hF
  refine g_callVvMS (q0 := 0) (W' := wSB cB sb_0 sb_1 s3) (S := [wSB cB sb_0 sb_1 s1]) (S0 := [wSB cB sb_0 sb_1 s1]) (S1 := [wSB cB sb_0 sb_1 s3]) (S' := [wSB cB sb_0 sb_1 s3]) C (c_X5_addNumber l D cB cI cJ cZ sb_0 sb_1 y4) rfl rfl (gIV ml_X5_19 im_X5_addNumber sl_X5_addNumber in_X5 cd_X5_addNumber) rfl eX5_addNumber rfl ⟨rfl, rfl⟩ ⟨Nat.le_of_ble_eq_true rfl, Nat.le_of_ble_eq_true rfl⟩ rfl rfl rfl [0] rfl rfl rfl rfl (gA_cons aSB gA_nil) rfl rfl (Nat.le_of_ble_eq_true rfl) (tdec DX5_addBegin 10 rfl) rfl ?_
  refine g_aload_n (z := 1) C (tdec DX5_addBegin 11 rfl) rfl rfl rfl ?_
  refine g_lload_n (z := 3) C (tdec DX5_addBegin 12 rfl) rfl rfl rfl ?_
  refine g_bipush (v := 8) C (tdec DX5_addBegin 13 rfl) (by decide) rfl ?_
  obtain ⟨s5, y6, hF⟩ := o_bind hF
  refine g_callVvMS (q0 := 0) (W' := wSB cB sb_0 sb_1 s5) (S := [wSB cB sb_0 sb_1 s3]) (S0 := [wSB cB sb_0 sb_1 s3]) (S1 := [wSB cB sb_0 sb_1 s5]) (S' := [wSB cB sb_0 sb_1 s5]) C (c_X5_addNumber l D cB cI cJ cZ sb_0 sb_1 y6) rfl rfl (gIV ml_X5_19 im_X5_addNumber sl_X5_addNumber in_X5 cd_X5_addNumber) rfl eX5_addNumber rfl ⟨rfl, rfl⟩ ⟨Nat.le_of_ble_eq_true rfl, Nat.le_of_ble_eq_true rfl⟩ rfl rfl rfl [0] rfl rfl rfl rfl (gA_cons aSB gA_nil) rfl rfl (Nat.le_of_ble_eq_true rfl) (tdec DX5_addBegin 14 rfl) rfl ?_
  refine g_aload_n (z := 1) C (tdec DX5_addBegin 15 rfl) rfl rfl rfl ?_
  refine g_aload_n (z := 1) C (tdec DX5_addBegin 16 rfl) rfl rfl rfl ?_
  refine g_iload (z := 0) C (tdec DX5_addBegin 17 rfl) rfl rfl ?_
  refine g_aload_n (z := 1) C (tdec DX5_addBegin 18 rfl) rfl rfl rfl ?_
  refine g_getf (C' := RX5) (T := TX5) (N := 2) (v := .int (SB_len s5)) C 0 1 (gIn iw_X5) rfl rfl (by decide) (gMem fl_X5_15) rfl rfl (tdec DX5_addBegin 19 rfl) rfl ?_
  obtain ⟨r7, y8, hF⟩ := o_bind hF
  refine g_callVlRS (q0 := 0) (S := [wSB cB sb_0 sb_1 s5]) (S0 := [wSB cB sb_0 sb_1 s5]) C (c_X5_sumOf l D cB cI cJ cZ sb_0 sb_1 y8) rfl rfl (gIV ml_X5_23 im_X5_sumOf sl_X5_sumOf in_X5 cd_X5_sumOf) rfl eX5_sumOf rfl ⟨rfl, rfl⟩ ⟨Nat.le_of_ble_eq_true rfl, Nat.le_of_ble_eq_true rfl⟩ rfl rfl rfl [0] rfl rfl rfl (Nat.le_of_ble_eq_true rfl) (tdec DX5_addBegin 20 rfl) rfl ?_
  refine g_bipush (v := 8) C (tdec DX5_addBegin 21 rfl) (by decide) rfl ?_
  obtain ⟨s9, y10, hF⟩ := o_bind hF
  refine g_callVvMS (q0 := 0) (W' := wSB cB sb_0 sb_1 s9) (S := [wSB cB sb_0 sb_1 s5]) (S0 := [wSB cB sb_0 sb_1 s5]) (S1 := [wSB cB sb_0 sb_1 s9]) (S' := [wSB cB sb_0 sb_1 s9]) C (c_X5_addNumber l D cB cI cJ cZ sb_0 sb_1 y10) rfl rfl (gIV ml_X5_19 im_X5_addNumber sl_X5_addNumber in_X5 cd_X5_addNumber) rfl eX5_addNumber rfl ⟨rfl, rfl⟩ ⟨Nat.le_of_ble_eq_true rfl, Nat.le_of_ble_eq_true rfl⟩ rfl rfl rfl [0] rfl rfl rfl rfl (gA_cons aSB gA_nil) rfl rfl (Nat.le_of_ble_eq_true rfl) (tdec DX5_addBegin 22 rfl) rfl ?_
  have hr9 := o_some hF
  subst hr9
  exact g_vret C rfl (tdec DX5_addBegin 23 rfl)
def FX5_addClear (sb0 : SB) (p1 : Int32) (p2 : Int32) : Option (SB) :=
  (FX5_addNumber sb0 3 1).bind fun s1 =>
  (FX5_addNumber s1 ((p1 : Int32).toInt64) 2).bind fun s3 =>
  (FX5_addNumber s3 ((p2 : Int32).toInt64) 2).bind fun s5 =>
  (FX5_sumOf s5 (SB_len sb0) (SB_len s5)).bind fun r7 =>
  (FX5_addNumber s5 r7 8).bind fun s9 =>
  some s9
def rX5_addClear : Room := { frames := 2, cells := 0, slots := 0, locals := 46 }
set_option maxHeartbeats 4000000 in
set_option maxRecDepth 100000 in
theorem c_X5_addClear (l : Launch) (D : va_G) (cB cI cJ cZ : ClassId) (sb_0 sb_1 : Nat) {sb0 : SB} {p1 : Int32} {p2 : Int32} {res : SB} (hF : FX5_addClear sb0 p1 p2 = some res) : gMv l yX5_addClear wsX5_addClear rX5_addClear D (gT cB cI cJ cZ) [.ref sb_0, .int p1, .int p2] (wSB cB sb_0 sb_1 sb0) (wSB cB sb_0 sb_1 res) := by
  refine g_enter (own := RX5) (free := (fun sz => va_A (wSB cB sb_0 sb_1 sb0) sz)) (Qc := (fun sz => gQv D (wSB cB sb_0 sb_1 sb0) sz (wSB cB sb_0 sb_1 res))) (fun sz => va_A (wSB cB sb_0 sb_1 sb0) sz) (fun sz => Or.inr rfl) rfl (by decide) rfl (Nat.le_of_ble_eq_true rfl) rfl ?_
  intro p e s m args below meth c C
  unfold FX5_addClear at hF
  refine g_aload_n (z := 0) C (tdec DX5_addClear 0 rfl) rfl rfl rfl ?_
  refine g_getf (C' := RX5) (T := TX5) (N := 2) (v := .int (SB_len sb0)) C 0 1 (gIn iw_X5) rfl rfl (by decide) (gMem fl_X5_15) rfl rfl (tdec DX5_addClear 1 rfl) rfl ?_
  refine g_istore_n (L' := [(3, .int (SB_len sb0)), (0, .ref sb_0), (1, .int p1), (2, .int p2)]) C (tdec DX5_addClear 2 rfl) rfl (by decide) rfl rfl ?_
  refine g_aload_n (z := 1) C (tdec DX5_addClear 3 rfl) rfl rfl rfl ?_
  refine g_ldc2 C (gMem kl_X5_29) (tdec DX5_addClear 4 rfl) rfl ?_
  refine g_iconst (v := 1) C (tdec DX5_addClear 5 rfl) (by decide) rfl ?_
  obtain ⟨s1, y2, hF⟩ := o_bind hF
  refine g_callVvMS (q0 := 0) (W' := wSB cB sb_0 sb_1 s1) (S := [wSB cB sb_0 sb_1 sb0]) (S0 := [wSB cB sb_0 sb_1 sb0]) (S1 := [wSB cB sb_0 sb_1 s1]) (S' := [wSB cB sb_0 sb_1 s1]) C (c_X5_addNumber l D cB cI cJ cZ sb_0 sb_1 y2) rfl rfl (gIV ml_X5_19 im_X5_addNumber sl_X5_addNumber in_X5 cd_X5_addNumber) rfl eX5_addNumber rfl ⟨rfl, rfl⟩ ⟨Nat.le_of_ble_eq_true rfl, Nat.le_of_ble_eq_true rfl⟩ rfl rfl rfl [0] rfl rfl rfl rfl (gA_cons aSB gA_nil) rfl rfl (Nat.le_of_ble_eq_true rfl) (tdec DX5_addClear 6 rfl) rfl ?_
  refine g_aload_n (z := 1) C (tdec DX5_addClear 7 rfl) rfl rfl rfl ?_
  refine g_iload_n (z := 2) C (tdec DX5_addClear 8 rfl) rfl rfl rfl ?_
  refine g_i2l C (tdec DX5_addClear 9 rfl) rfl ?_
  refine g_iconst (v := 2) C (tdec DX5_addClear 10 rfl) (by decide) rfl ?_
  obtain ⟨s3, y4, hF⟩ := o_bind hF
  refine g_callVvMS (q0 := 0) (W' := wSB cB sb_0 sb_1 s3) (S := [wSB cB sb_0 sb_1 s1]) (S0 := [wSB cB sb_0 sb_1 s1]) (S1 := [wSB cB sb_0 sb_1 s3]) (S' := [wSB cB sb_0 sb_1 s3]) C (c_X5_addNumber l D cB cI cJ cZ sb_0 sb_1 y4) rfl rfl (gIV ml_X5_19 im_X5_addNumber sl_X5_addNumber in_X5 cd_X5_addNumber) rfl eX5_addNumber rfl ⟨rfl, rfl⟩ ⟨Nat.le_of_ble_eq_true rfl, Nat.le_of_ble_eq_true rfl⟩ rfl rfl rfl [0] rfl rfl rfl rfl (gA_cons aSB gA_nil) rfl rfl (Nat.le_of_ble_eq_true rfl) (tdec DX5_addClear 11 rfl) rfl ?_
  refine g_aload_n (z := 1) C (tdec DX5_addClear 12 rfl) rfl rfl rfl ?_
  refine g_iload_n (z := 3) C (tdec DX5_addClear 13 rfl) rfl rfl rfl ?_
  refine g_i2l C (tdec DX5_addClear 14 rfl) rfl ?_
  refine g_iconst (v := 2) C (tdec DX5_addClear 15 rfl) (by decide) rfl ?_
  obtain ⟨s5, y6, hF⟩ := o_bind hF
  refine g_callVvMS (q0 := 0) (W' := wSB cB sb_0 sb_1 s5) (S := [wSB cB sb_0 sb_1 s3]) (S0 := [wSB cB sb_0 sb_1 s3]) (S1 := [wSB cB sb_0 sb_1 s5]) (S' := [wSB cB sb_0 sb_1 s5]) C (c_X5_addNumber l D cB cI cJ cZ sb_0 sb_1 y6) rfl rfl (gIV ml_X5_19 im_X5_addNumber sl_X5_addNumber in_X5 cd_X5_addNumber) rfl eX5_addNumber rfl ⟨rfl, rfl⟩ ⟨Nat.le_of_ble_eq_true rfl, Nat.le_of_ble_eq_true rfl⟩ rfl rfl rfl [0] rfl rfl rfl rfl (gA_cons aSB gA_nil) rfl rfl (Nat.le_of_ble_eq_true rfl) (tdec DX5_addClear 16 rfl) rfl ?_
  refine g_aload_n (z := 1) C (tdec DX5_addClear 17 rfl) rfl rfl rfl ?_
  refine g_aload_n (z := 1) C (tdec DX5_addClear 18 rfl) rfl rfl rfl ?_
  refine g_iload_n (z := 0) C (tdec DX5_addClear 19 rfl) rfl rfl rfl ?_
  refine g_aload_n (z := 1) C (tdec DX5_addClear 20 rfl) rfl rfl rfl ?_
  refine g_getf (C' := RX5) (T := TX5) (N := 2) (v := .int (SB_len s5)) C 0 1 (gIn iw_X5) rfl rfl (by decide) (gMem fl_X5_15) rfl rfl (tdec DX5_addClear 21 rfl) rfl ?_
  obtain ⟨r7, y8, hF⟩ := o_bind hF
  refine g_callVlRS (q0 := 0) (S := [wSB cB sb_0 sb_1 s5]) (S0 := [wSB cB sb_0 sb_1 s5]) C (c_X5_sumOf l D cB cI cJ cZ sb_0 sb_1 y8) rfl rfl (gIV ml_X5_23 im_X5_sumOf sl_X5_sumOf in_X5 cd_X5_sumOf) rfl eX5_sumOf rfl ⟨rfl, rfl⟩ ⟨Nat.le_of_ble_eq_true rfl, Nat.le_of_ble_eq_true rfl⟩ rfl rfl rfl [0] rfl rfl rfl (Nat.le_of_ble_eq_true rfl) (tdec DX5_addClear 22 rfl) rfl ?_
  refine g_bipush (v := 8) C (tdec DX5_addClear 23 rfl) (by decide) rfl ?_
  obtain ⟨s9, y10, hF⟩ := o_bind hF
  refine g_callVvMS (q0 := 0) (W' := wSB cB sb_0 sb_1 s9) (S := [wSB cB sb_0 sb_1 s5]) (S0 := [wSB cB sb_0 sb_1 s5]) (S1 := [wSB cB sb_0 sb_1 s9]) (S' := [wSB cB sb_0 sb_1 s9]) C (c_X5_addNumber l D cB cI cJ cZ sb_0 sb_1 y10) rfl rfl (gIV ml_X5_19 im_X5_addNumber sl_X5_addNumber in_X5 cd_X5_addNumber) rfl eX5_addNumber rfl ⟨rfl, rfl⟩ ⟨Nat.le_of_ble_eq_true rfl, Nat.le_of_ble_eq_true rfl⟩ rfl rfl rfl [0] rfl rfl rfl rfl (gA_cons aSB gA_nil) rfl rfl (Nat.le_of_ble_eq_true rfl) (tdec DX5_addClear 24 rfl) rfl ?_
  have hr9 := o_some hF
  subst hr9
  exact g_vret C rfl (tdec DX5_addClear 25 rfl)
def FX5_addWrite (sb0 : SB) (p1 : Int32) (p2 : Int64) : Option (SB) :=
  (FX5_addNumber sb0 2 1).bind fun s1 =>
  (FX5_addNumber s1 ((p1 : Int32).toInt64) 2).bind fun s3 =>
  (FX5_addNumber s3 p2 8).bind fun s5 =>
  (FX5_sumOf s5 (SB_len sb0) (SB_len s5)).bind fun r7 =>
  (FX5_addNumber s5 r7 8).bind fun s9 =>
  some s9
def rX5_addWrite : Room := { frames := 2, cells := 0, slots := 0, locals := 46 }
set_option maxHeartbeats 4000000 in
set_option maxRecDepth 100000 in
theorem c_X5_addWrite (l : Launch) (D : va_G) (cB cI cJ cZ : ClassId) (sb_0 sb_1 : Nat) {sb0 : SB} {p1 : Int32} {p2 : Int64} {res : SB} (hF : FX5_addWrite sb0 p1 p2 = some res) : gMv l yX5_addWrite wsX5_addWrite rX5_addWrite D (gT cB cI cJ cZ) [.ref sb_0, .int p1, .long p2] (wSB cB sb_0 sb_1 sb0) (wSB cB sb_0 sb_1 res) := by
  refine g_enter (own := RX5) (free := (fun sz => va_A (wSB cB sb_0 sb_1 sb0) sz)) (Qc := (fun sz => gQv D (wSB cB sb_0 sb_1 sb0) sz (wSB cB sb_0 sb_1 res))) (fun sz => va_A (wSB cB sb_0 sb_1 sb0) sz) (fun sz => Or.inr rfl) rfl (by decide) rfl (Nat.le_of_ble_eq_true rfl) rfl ?_
  intro p e s m args below meth c C
  unfold FX5_addWrite at hF
  refine g_aload_n (z := 0) C (tdec DX5_addWrite 0 rfl) rfl rfl rfl ?_
  refine g_getf (C' := RX5) (T := TX5) (N := 2) (v := .int (SB_len sb0)) C 0 1 (gIn iw_X5) rfl rfl (by decide) (gMem fl_X5_15) rfl rfl (tdec DX5_addWrite 1 rfl) rfl ?_
  refine g_istore (L' := [(4, .int (SB_len sb0)), (0, .ref sb_0), (1, .int p1), (2, .long p2)]) C (tdec DX5_addWrite 2 rfl) (by decide) rfl rfl ?_
  refine g_aload_n (z := 1) C (tdec DX5_addWrite 3 rfl) rfl rfl rfl ?_
  refine g_ldc2 C (gMem kl_X5_27) (tdec DX5_addWrite 4 rfl) rfl ?_
  refine g_iconst (v := 1) C (tdec DX5_addWrite 5 rfl) (by decide) rfl ?_
  obtain ⟨s1, y2, hF⟩ := o_bind hF
  refine g_callVvMS (q0 := 0) (W' := wSB cB sb_0 sb_1 s1) (S := [wSB cB sb_0 sb_1 sb0]) (S0 := [wSB cB sb_0 sb_1 sb0]) (S1 := [wSB cB sb_0 sb_1 s1]) (S' := [wSB cB sb_0 sb_1 s1]) C (c_X5_addNumber l D cB cI cJ cZ sb_0 sb_1 y2) rfl rfl (gIV ml_X5_19 im_X5_addNumber sl_X5_addNumber in_X5 cd_X5_addNumber) rfl eX5_addNumber rfl ⟨rfl, rfl⟩ ⟨Nat.le_of_ble_eq_true rfl, Nat.le_of_ble_eq_true rfl⟩ rfl rfl rfl [0] rfl rfl rfl rfl (gA_cons aSB gA_nil) rfl rfl (Nat.le_of_ble_eq_true rfl) (tdec DX5_addWrite 6 rfl) rfl ?_
  refine g_aload_n (z := 1) C (tdec DX5_addWrite 7 rfl) rfl rfl rfl ?_
  refine g_iload_n (z := 2) C (tdec DX5_addWrite 8 rfl) rfl rfl rfl ?_
  refine g_i2l C (tdec DX5_addWrite 9 rfl) rfl ?_
  refine g_iconst (v := 2) C (tdec DX5_addWrite 10 rfl) (by decide) rfl ?_
  obtain ⟨s3, y4, hF⟩ := o_bind hF
  refine g_callVvMS (q0 := 0) (W' := wSB cB sb_0 sb_1 s3) (S := [wSB cB sb_0 sb_1 s1]) (S0 := [wSB cB sb_0 sb_1 s1]) (S1 := [wSB cB sb_0 sb_1 s3]) (S' := [wSB cB sb_0 sb_1 s3]) C (c_X5_addNumber l D cB cI cJ cZ sb_0 sb_1 y4) rfl rfl (gIV ml_X5_19 im_X5_addNumber sl_X5_addNumber in_X5 cd_X5_addNumber) rfl eX5_addNumber rfl ⟨rfl, rfl⟩ ⟨Nat.le_of_ble_eq_true rfl, Nat.le_of_ble_eq_true rfl⟩ rfl rfl rfl [0] rfl rfl rfl rfl (gA_cons aSB gA_nil) rfl rfl (Nat.le_of_ble_eq_true rfl) (tdec DX5_addWrite 11 rfl) rfl ?_
  refine g_aload_n (z := 1) C (tdec DX5_addWrite 12 rfl) rfl rfl rfl ?_
  refine g_lload_n (z := 3) C (tdec DX5_addWrite 13 rfl) rfl rfl rfl ?_
  refine g_bipush (v := 8) C (tdec DX5_addWrite 14 rfl) (by decide) rfl ?_
  obtain ⟨s5, y6, hF⟩ := o_bind hF
  refine g_callVvMS (q0 := 0) (W' := wSB cB sb_0 sb_1 s5) (S := [wSB cB sb_0 sb_1 s3]) (S0 := [wSB cB sb_0 sb_1 s3]) (S1 := [wSB cB sb_0 sb_1 s5]) (S' := [wSB cB sb_0 sb_1 s5]) C (c_X5_addNumber l D cB cI cJ cZ sb_0 sb_1 y6) rfl rfl (gIV ml_X5_19 im_X5_addNumber sl_X5_addNumber in_X5 cd_X5_addNumber) rfl eX5_addNumber rfl ⟨rfl, rfl⟩ ⟨Nat.le_of_ble_eq_true rfl, Nat.le_of_ble_eq_true rfl⟩ rfl rfl rfl [0] rfl rfl rfl rfl (gA_cons aSB gA_nil) rfl rfl (Nat.le_of_ble_eq_true rfl) (tdec DX5_addWrite 15 rfl) rfl ?_
  refine g_aload_n (z := 1) C (tdec DX5_addWrite 16 rfl) rfl rfl rfl ?_
  refine g_aload_n (z := 1) C (tdec DX5_addWrite 17 rfl) rfl rfl rfl ?_
  refine g_iload (z := 0) C (tdec DX5_addWrite 18 rfl) rfl rfl ?_
  refine g_aload_n (z := 1) C (tdec DX5_addWrite 19 rfl) rfl rfl rfl ?_
  refine g_getf (C' := RX5) (T := TX5) (N := 2) (v := .int (SB_len s5)) C 0 1 (gIn iw_X5) rfl rfl (by decide) (gMem fl_X5_15) rfl rfl (tdec DX5_addWrite 20 rfl) rfl ?_
  obtain ⟨r7, y8, hF⟩ := o_bind hF
  refine g_callVlRS (q0 := 0) (S := [wSB cB sb_0 sb_1 s5]) (S0 := [wSB cB sb_0 sb_1 s5]) C (c_X5_sumOf l D cB cI cJ cZ sb_0 sb_1 y8) rfl rfl (gIV ml_X5_23 im_X5_sumOf sl_X5_sumOf in_X5 cd_X5_sumOf) rfl eX5_sumOf rfl ⟨rfl, rfl⟩ ⟨Nat.le_of_ble_eq_true rfl, Nat.le_of_ble_eq_true rfl⟩ rfl rfl rfl [0] rfl rfl rfl (Nat.le_of_ble_eq_true rfl) (tdec DX5_addWrite 21 rfl) rfl ?_
  refine g_bipush (v := 8) C (tdec DX5_addWrite 22 rfl) (by decide) rfl ?_
  obtain ⟨s9, y10, hF⟩ := o_bind hF
  refine g_callVvMS (q0 := 0) (W' := wSB cB sb_0 sb_1 s9) (S := [wSB cB sb_0 sb_1 s5]) (S0 := [wSB cB sb_0 sb_1 s5]) (S1 := [wSB cB sb_0 sb_1 s9]) (S' := [wSB cB sb_0 sb_1 s9]) C (c_X5_addNumber l D cB cI cJ cZ sb_0 sb_1 y10) rfl rfl (gIV ml_X5_19 im_X5_addNumber sl_X5_addNumber in_X5 cd_X5_addNumber) rfl eX5_addNumber rfl ⟨rfl, rfl⟩ ⟨Nat.le_of_ble_eq_true rfl, Nat.le_of_ble_eq_true rfl⟩ rfl rfl rfl [0] rfl rfl rfl rfl (gA_cons aSB gA_nil) rfl rfl (Nat.le_of_ble_eq_true rfl) (tdec DX5_addWrite 23 rfl) rfl ?_
  have hr9 := o_some hF
  subst hr9
  exact g_vret C rfl (tdec DX5_addWrite 24 rfl)
def FX5_addEnd (sb0 : SB) (p1 : Int32) : Option (SB) :=
  (FX5_addNumber sb0 4 1).bind fun s1 =>
  (FX5_addNumber s1 ((p1 : Int32).toInt64) 4).bind fun s3 =>
  (FX5_sumOf s3 (SB_len sb0) (SB_len s3)).bind fun r5 =>
  (FX5_addNumber s3 r5 8).bind fun s7 =>
  some s7
def rX5_addEnd : Room := { frames := 2, cells := 0, slots := 0, locals := 46 }
set_option maxHeartbeats 4000000 in
set_option maxRecDepth 100000 in
theorem c_X5_addEnd (l : Launch) (D : va_G) (cB cI cJ cZ : ClassId) (sb_0 sb_1 : Nat) {sb0 : SB} {p1 : Int32} {res : SB} (hF : FX5_addEnd sb0 p1 = some res) : gMv l yX5_addEnd wsX5_addEnd rX5_addEnd D (gT cB cI cJ cZ) [.ref sb_0, .int p1] (wSB cB sb_0 sb_1 sb0) (wSB cB sb_0 sb_1 res) := by
  refine g_enter (own := RX5) (free := (fun sz => va_A (wSB cB sb_0 sb_1 sb0) sz)) (Qc := (fun sz => gQv D (wSB cB sb_0 sb_1 sb0) sz (wSB cB sb_0 sb_1 res))) (fun sz => va_A (wSB cB sb_0 sb_1 sb0) sz) (fun sz => Or.inr rfl) rfl (by decide) rfl (Nat.le_of_ble_eq_true rfl) rfl ?_
  intro p e s m args below meth c C
  unfold FX5_addEnd at hF
  refine g_aload_n (z := 0) C (tdec DX5_addEnd 0 rfl) rfl rfl rfl ?_
  refine g_getf (C' := RX5) (T := TX5) (N := 2) (v := .int (SB_len sb0)) C 0 1 (gIn iw_X5) rfl rfl (by decide) (gMem fl_X5_15) rfl rfl (tdec DX5_addEnd 1 rfl) rfl ?_
  refine g_istore_n (L' := [(2, .int (SB_len sb0)), (0, .ref sb_0), (1, .int p1)]) C (tdec DX5_addEnd 2 rfl) rfl (by decide) rfl rfl ?_
  refine g_aload_n (z := 1) C (tdec DX5_addEnd 3 rfl) rfl rfl rfl ?_
  refine g_ldc2 C (gMem kl_X5_31) (tdec DX5_addEnd 4 rfl) rfl ?_
  refine g_iconst (v := 1) C (tdec DX5_addEnd 5 rfl) (by decide) rfl ?_
  obtain ⟨s1, y2, hF⟩ := o_bind hF
  refine g_callVvMS (q0 := 0) (W' := wSB cB sb_0 sb_1 s1) (S := [wSB cB sb_0 sb_1 sb0]) (S0 := [wSB cB sb_0 sb_1 sb0]) (S1 := [wSB cB sb_0 sb_1 s1]) (S' := [wSB cB sb_0 sb_1 s1]) C (c_X5_addNumber l D cB cI cJ cZ sb_0 sb_1 y2) rfl rfl (gIV ml_X5_19 im_X5_addNumber sl_X5_addNumber in_X5 cd_X5_addNumber) rfl eX5_addNumber rfl ⟨rfl, rfl⟩ ⟨Nat.le_of_ble_eq_true rfl, Nat.le_of_ble_eq_true rfl⟩ rfl rfl rfl [0] rfl rfl rfl rfl (gA_cons aSB gA_nil) rfl rfl (Nat.le_of_ble_eq_true rfl) (tdec DX5_addEnd 6 rfl) rfl ?_
  refine g_aload_n (z := 1) C (tdec DX5_addEnd 7 rfl) rfl rfl rfl ?_
  refine g_iload_n (z := 2) C (tdec DX5_addEnd 8 rfl) rfl rfl rfl ?_
  refine g_i2l C (tdec DX5_addEnd 9 rfl) rfl ?_
  refine g_iconst (v := 4) C (tdec DX5_addEnd 10 rfl) (by decide) rfl ?_
  obtain ⟨s3, y4, hF⟩ := o_bind hF
  refine g_callVvMS (q0 := 0) (W' := wSB cB sb_0 sb_1 s3) (S := [wSB cB sb_0 sb_1 s1]) (S0 := [wSB cB sb_0 sb_1 s1]) (S1 := [wSB cB sb_0 sb_1 s3]) (S' := [wSB cB sb_0 sb_1 s3]) C (c_X5_addNumber l D cB cI cJ cZ sb_0 sb_1 y4) rfl rfl (gIV ml_X5_19 im_X5_addNumber sl_X5_addNumber in_X5 cd_X5_addNumber) rfl eX5_addNumber rfl ⟨rfl, rfl⟩ ⟨Nat.le_of_ble_eq_true rfl, Nat.le_of_ble_eq_true rfl⟩ rfl rfl rfl [0] rfl rfl rfl rfl (gA_cons aSB gA_nil) rfl rfl (Nat.le_of_ble_eq_true rfl) (tdec DX5_addEnd 11 rfl) rfl ?_
  refine g_aload_n (z := 1) C (tdec DX5_addEnd 12 rfl) rfl rfl rfl ?_
  refine g_aload_n (z := 1) C (tdec DX5_addEnd 13 rfl) rfl rfl rfl ?_
  refine g_iload_n (z := 0) C (tdec DX5_addEnd 14 rfl) rfl rfl rfl ?_
  refine g_aload_n (z := 1) C (tdec DX5_addEnd 15 rfl) rfl rfl rfl ?_
  refine g_getf (C' := RX5) (T := TX5) (N := 2) (v := .int (SB_len s3)) C 0 1 (gIn iw_X5) rfl rfl (by decide) (gMem fl_X5_15) rfl rfl (tdec DX5_addEnd 16 rfl) rfl ?_
  obtain ⟨r5, y6, hF⟩ := o_bind hF
  refine g_callVlRS (q0 := 0) (S := [wSB cB sb_0 sb_1 s3]) (S0 := [wSB cB sb_0 sb_1 s3]) C (c_X5_sumOf l D cB cI cJ cZ sb_0 sb_1 y6) rfl rfl (gIV ml_X5_23 im_X5_sumOf sl_X5_sumOf in_X5 cd_X5_sumOf) rfl eX5_sumOf rfl ⟨rfl, rfl⟩ ⟨Nat.le_of_ble_eq_true rfl, Nat.le_of_ble_eq_true rfl⟩ rfl rfl rfl [0] rfl rfl rfl (Nat.le_of_ble_eq_true rfl) (tdec DX5_addEnd 17 rfl) rfl ?_
  refine g_bipush (v := 8) C (tdec DX5_addEnd 18 rfl) (by decide) rfl ?_
  obtain ⟨s7, y8, hF⟩ := o_bind hF
  refine g_callVvMS (q0 := 0) (W' := wSB cB sb_0 sb_1 s7) (S := [wSB cB sb_0 sb_1 s3]) (S0 := [wSB cB sb_0 sb_1 s3]) (S1 := [wSB cB sb_0 sb_1 s7]) (S' := [wSB cB sb_0 sb_1 s7]) C (c_X5_addNumber l D cB cI cJ cZ sb_0 sb_1 y8) rfl rfl (gIV ml_X5_19 im_X5_addNumber sl_X5_addNumber in_X5 cd_X5_addNumber) rfl eX5_addNumber rfl ⟨rfl, rfl⟩ ⟨Nat.le_of_ble_eq_true rfl, Nat.le_of_ble_eq_true rfl⟩ rfl rfl rfl [0] rfl rfl rfl rfl (gA_cons aSB gA_nil) rfl rfl (Nat.le_of_ble_eq_true rfl) (tdec DX5_addEnd 19 rfl) rfl ?_
  have hr9 := o_some hF
  subst hr9
  exact g_vret C rfl (tdec DX5_addEnd 20 rfl)
