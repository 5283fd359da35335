/-! PART 20.X8: walks, printed by wip/whole/walk.py -/
def FX8_thrown (x0 : MS) : Option (Int32) :=
  some (MS_thr x0)
def rX8_thrown : Room := { frames := 0, cells := 0, slots := 0, locals := 0 }
set_option maxHeartbeats 4000000 in
set_option maxRecDepth 100000 in
theorem c_X8_thrown (l : Launch) (D : va_G) (cB cI cJ cZ : ClassId) (x_0 x_1 x_2 x_3 x_4 x_5 x_6 x_7 x_8 x_9 x_10 x_11 x_12 x_13 x_14 x_15 x_16 x_17 x_18 x_19 : Nat) {x0 : MS} {res : Int32} (hF : FX8_thrown x0 = some res) : gRi l yX8_thrown wsX8_thrown rX8_thrown D (gT cB cI cJ cZ) [.ref x_0] (wM cB cI cJ cZ x_0 x_1 x_2 x_3 x_4 x_5 x_6 x_7 x_8 x_9 x_10 x_11 x_12 x_13 x_14 x_15 x_16 x_17 x_18 x_19 x0) res := by
  refine g_enter (own := RX8) (free := (fun _ _ => False)) (Qc := (fun sz => gRQi res)) (fun _ _ => True) (fun sz => Or.inl rfl) rfl (by decide) rfl (Nat.le_of_ble_eq_true rfl) rfl ?_
  intro p e s m args below meth c C
  unfold FX8_thrown at hF
  refine g_aload_n (z := 0) C (tdec DX8_thrown 0 rfl) rfl rfl rfl ?_
  refine g_getf (C' := RX8) (T := TX8) (N := 27) (v := .int (MS_thr x0)) C 0 0 (gIn iw_X8) rfl rfl (by decide) (gMem fl_X8_78) rfl rfl (tdec DX8_thrown 1 rfl) rfl ?_
  have hr9 := o_some hF
  subst hr9
  exact g_iretR C rfl (tdec DX8_thrown 2 rfl)
def FX8_isVolume (p0 : Int32) : Option (Int32) :=
  if p0 = 0 then
    some 1
  else
    if p0 = 1 then
      some 1
    else
      some 0
def rX8_isVolume : Room := { frames := 0, cells := 0, slots := 0, locals := 0 }
set_option maxHeartbeats 4000000 in
set_option maxRecDepth 100000 in
theorem c_X8_isVolume (l : Launch) (D : va_G) (cB cI cJ cZ : ClassId) {p0 : Int32} {res : Int32} (hF : FX8_isVolume p0 = some res) : gRi l yX8_isVolume wsX8_isVolume rX8_isVolume D (gT cB cI cJ cZ) [.int p0] ([]) res := by
  refine g_enter (own := RX8) (free := (fun _ _ => False)) (Qc := (fun sz => gRQi res)) (fun _ _ => True) (fun sz => Or.inl rfl) rfl (by decide) rfl (Nat.le_of_ble_eq_true rfl) rfl ?_
  intro p e s m args below meth c C
  unfold FX8_isVolume at hF
  refine g_iload_n (z := 0) C (tdec DX8_isVolume 0 rfl) rfl rfl rfl ?_
  refine g_if_eq (pt := 9) C (tdec DX8_isVolume 1 rfl) (by decide) rfl (fun h1 => ?_) (fun h1 => ?_)
  · have hF := o_ifp hF h1
    refine g_iconst (v := 1) C (tdec DX8_isVolume 5 rfl) (by decide) rfl ?_
    refine g_goto (pt := 14) C (tdec DX8_isVolume 6 rfl) (by decide) ?_
    have hr9 := o_some hF
    subst hr9
    exact g_zretR C rfl rfl (tdec DX8_isVolume 8 rfl)
  · have hF := o_ifn hF h1
    refine g_iload_n (z := 0) C (tdec DX8_isVolume 2 rfl) rfl rfl rfl ?_
    refine g_iconst (v := 1) C (tdec DX8_isVolume 3 rfl) (by decide) rfl ?_
    refine g_icmp_ne (pt := 13) C (tdec DX8_isVolume 4 rfl) (by decide) rfl (fun h2 => ?_) (fun h2 => ?_)
    · have hF := o_ifn hF h2
      refine g_iconst (v := 0) C (tdec DX8_isVolume 7 rfl) (by decide) rfl ?_
      have hr9 := o_some hF
      subst hr9
      exact g_zretR C rfl rfl (tdec DX8_isVolume 8 rfl)
    · have hF := o_ifp hF h2
      refine g_iconst (v := 1) C (tdec DX8_isVolume 5 rfl) (by decide) rfl ?_
      refine g_goto (pt := 14) C (tdec DX8_isVolume 6 rfl) (by decide) ?_
      have hr9 := o_some hF
      subst hr9
      exact g_zretR C rfl rfl (tdec DX8_isVolume 8 rfl)
def FX8_fresh_L9 (v1 : Int32) (v2 : Int32) (k9 : MS → Int32 → Option (MS)) : Nat → MS → Int32 → Option (MS)
  | 0, _, _ => none
  | n9 + 1, x, v3 =>
    if 600 ≤ v3 then
      k9 x v3
    else
      (ast 1200 (MS_lev x) ((600 * v1) + v3) (-1)).bind fun g4 =>
      FX8_fresh_L9 v1 v2 k9 n9 (MS_setlev x g4) (v3 + 1)
def FX8_fresh (x0 : MS) (p1 : Int32) (p2 : Int32) : Option (MS) :=
  (ast 2 (MS_many x0) p1 p2).bind fun g1 =>
  FX8_fresh_L9 p1 p2 (fun xq6 w3_6 =>
    (ast 44 (MS_tt xq6) ((22 * p1) + 0) (-1)).bind fun g7 =>
    (ast 44 (MS_tb xq6) ((22 * p1) + 0) 0).bind fun g9 =>
    (ast 2 (MS_gen xq6) p1 1).bind fun g11 =>
    (ast 2 (MS_snaps xq6) p1 0).bind fun g13 =>
    (ast 2 (MS_busy xq6) p1 (vp_nar .boolean 0)).bind fun g15 =>
    (ast 2 (MS_rec xq6) p1 0).bind fun g17 =>
    some (MS_setrec (MS_setbusy (MS_setsnaps (MS_setgen (MS_settb (MS_settt xq6 g7) g9) g11) g13) g15) g17)) 100000 (MS_setmany x0 g1) 0
def rX8_fresh : Room := { frames := 0, cells := 0, slots := 0, locals := 0 }
set_option maxHeartbeats 4000000 in
set_option maxRecDepth 100000 in
theorem c_FX8_fresh_L9 {p : Program} {l : Launch} {e : Env} {s : State} {m : MethodId} {args : Array Value} {below : List Frame} {meth : Method} {c : Code} {D : va_G} {cB cI cJ cZ : ClassId} {x_0 x_1 x_2 x_3 x_4 x_5 x_6 x_7 x_8 x_9 x_10 x_11 x_12 x_13 x_14 x_15 x_16 x_17 x_18 x_19 : Nat} {x0 : MS} {res : MS} (C : gC p s m args meth c cX8_fresh 4 RX8 wsX8_fresh D (gT cB cI cJ cZ) none (va_A (wM cB cI cJ cZ x_0 x_1 x_2 x_3 x_4 x_5 x_6 x_7 x_8 x_9 x_10 x_11 x_12 x_13 x_14 x_15 x_16 x_17 x_18 x_19 x0) s.heap.size)) {v1 : Int32} {v2 : Int32} {k9 : MS → Int32 → Option (MS)} (hk9 : ∀ (x : MS) (v3 : Int32), k9 x v3 = some res → gG p l e (headSpec wsX8_fresh rX8_fresh).room s m args below meth c 0 0 D (va_A (wM cB cI cJ cZ x_0 x_1 x_2 x_3 x_4 x_5 x_6 x_7 x_8 x_9 x_10 x_11 x_12 x_13 x_14 x_15 x_16 x_17 x_18 x_19 x0) s.heap.size) (va_A (wM cB cI cJ cZ x_0 x_1 x_2 x_3 x_4 x_5 x_6 x_7 x_8 x_9 x_10 x_11 x_12 x_13 x_14 x_15 x_16 x_17 x_18 x_19 x0) s.heap.size) 4 (MQ below (gQv D (wM cB cI cJ cZ x_0 x_1 x_2 x_3 x_4 x_5 x_6 x_7 x_8 x_9 x_10 x_11 x_12 x_13 x_14 x_15 x_16 x_17 x_18 x_19 x0) s.heap.size (wM cB cI cJ cZ x_0 x_1 x_2 x_3 x_4 x_5 x_6 x_7 x_8 x_9 x_10 x_11 x_12 x_13 x_14 x_15 x_16 x_17 x_18 x_19 res)) args s 0 0 (va_A (wM cB cI cJ cZ x_0 x_1 x_2 x_3 x_4 x_5 x_6 x_7 x_8 x_9 x_10 x_11 x_12 x_13 x_14 x_15 x_16 x_17 x_18 x_19 x0) s.heap.size)) (wM cB cI cJ cZ x_0 x_1 x_2 x_3 x_4 x_5 x_6 x_7 x_8 x_9 x_10 x_11 x_12 x_13 x_14 x_15 x_16 x_17 x_18 x_19 x) 35 [(0, .ref x_0), (1, .int v1), (2, .int v2), (3, .int v3)] []) :
    ∀ (n9 : Nat) (x : MS) (v3 : Int32), FX8_fresh_L9 v1 v2 k9 n9 x v3 = some res → gG p l e (headSpec wsX8_fresh rX8_fresh).room s m args below meth c 0 0 D (va_A (wM cB cI cJ cZ x_0 x_1 x_2 x_3 x_4 x_5 x_6 x_7 x_8 x_9 x_10 x_11 x_12 x_13 x_14 x_15 x_16 x_17 x_18 x_19 x0) s.heap.size) (va_A (wM cB cI cJ cZ x_0 x_1 x_2 x_3 x_4 x_5 x_6 x_7 x_8 x_9 x_10 x_11 x_12 x_13 x_14 x_15 x_16 x_17 x_18 x_19 x0) s.heap.size) 4 (MQ below (gQv D (wM cB cI cJ cZ x_0 x_1 x_2 x_3 x_4 x_5 x_6 x_7 x_8 x_9 x_10 x_11 x_12 x_13 x_14 x_15 x_16 x_17 x_18 x_19 x0) s.heap.size (wM cB cI cJ cZ x_0 x_1 x_2 x_3 x_4 x_5 x_6 x_7 x_8 x_9 x_10 x_11 x_12 x_13 x_14 x_15 x_16 x_17 x_18 x_19 res)) args s 0 0 (va_A (wM cB cI cJ cZ x_0 x_1 x_2 x_3 x_4 x_5 x_6 x_7 x_8 x_9 x_10 x_11 x_12 x_13 x_14 x_15 x_16 x_17 x_18 x_19 x0) s.heap.size)) (wM cB cI cJ cZ x_0 x_1 x_2 x_3 x_4 x_5 x_6 x_7 x_8 x_9 x_10 x_11 x_12 x_13 x_14 x_15 x_16 x_17 x_18 x_19 x) 9 [(0, .ref x_0), (1, .int v1), (2, .int v2), (3, .int v3)] [] := by
  intro n9
  induction n9 with
  | zero =>
    intro x v3 hF
    exact absurd hF (by simp [FX8_fresh_L9])
  | succ n9 ih9 =>
    intro x v3 hF
    rw [FX8_fresh_L9] at hF
    refine g_iload_n (z := 3) C (tdec DX8_fresh 7 rfl) rfl rfl rfl ?_
    refine g_sipush (v := 600) C (tdec DX8_fresh 8 rfl) (by decide) rfl ?_
    refine g_icmp_ge (pt := 35) C (tdec DX8_fresh 9 rfl) (by decide) rfl (fun h3 => ?_) (fun h3 => ?_)
    · have hF := o_ifp hF h3
      refine g_sub (L' := [(0, .ref x_0), (1, .int v1), (2, .int v2), (3, .int v3)]) [0, 1, 2, 3] rfl ?_
      exact hk9 _ _ hF
    · have hF := o_ifn hF h3
      refine g_aload_n (z := 0) C (tdec DX8_fresh 10 rfl) rfl rfl rfl ?_
      refine g_getf (C' := RX8) (T := TX8) (N := 27) (v := .ref x_2) C 0 2 (gIn iw_X8) rfl rfl (by decide) (gMem fl_X8_13) rfl rfl (tdec DX8_fresh 11 rfl) rfl ?_
      refine g_sipush (v := 600) C (tdec DX8_fresh 12 rfl) (by decide) rfl ?_
      refine g_iload_n (z := 1) C (tdec DX8_fresh 13 rfl) rfl rfl rfl ?_
      refine g_imul C (tdec DX8_fresh 14 rfl) rfl ?_
      refine g_iload_n (z := 3) C (tdec DX8_fresh 15 rfl) rfl rfl rfl ?_
      refine g_iadd C (tdec DX8_fresh 16 rfl) rfl ?_
      refine g_iconst (v := (-1)) C (tdec DX8_fresh 17 rfl) (by decide) rfl ?_
      obtain ⟨g4, y5, hF⟩ := o_bind hF
      refine g_iast (ws' := wM cB cI cJ cZ x_0 x_1 x_2 x_3 x_4 x_5 x_6 x_7 x_8 x_9 x_10 x_11 x_12 x_13 x_14 x_15 x_16 x_17 x_18 x_19 (MS_setlev x g4)) C 2 1 rfl rfl y5 rfl (tdec DX8_fresh 18 rfl) rfl ?_
      refine g_iinc (z := 3) (v := (v3 + 1)) (L' := [(3, .int (v3 + 1)), (0, .ref x_0), (1, .int v1), (2, .int v2)]) C (tdec DX8_fresh 19 rfl) rfl rfl (by decide) rfl rfl ?_
      refine g_goto (pt := 9) C (tdec DX8_fresh 20 rfl) (by decide) ?_
      refine g_sub (L' := [(0, .ref x_0), (1, .int v1), (2, .int v2), (3, .int (v3 + 1))]) [1, 2, 3, 0] rfl ?_
      exact ih9 _ _ hF
set_option maxHeartbeats 4000000 in
set_option maxRecDepth 100000 in
theorem c_X8_fresh (l : Launch) (D : va_G) (cB cI cJ cZ : ClassId) (x_0 x_1 x_2 x_3 x_4 x_5 x_6 x_7 x_8 x_9 x_10 x_11 x_12 x_13 x_14 x_15 x_16 x_17 x_18 x_19 : Nat) {x0 : MS} {p1 : Int32} {p2 : Int32} {res : MS} (hF : FX8_fresh x0 p1 p2 = some res) : gMv l yX8_fresh wsX8_fresh rX8_fresh D (gT cB cI cJ cZ) [.ref x_0, .int p1, .int p2] (wM cB cI cJ cZ x_0 x_1 x_2 x_3 x_4 x_5 x_6 x_7 x_8 x_9 x_10 x_11 x_12 x_13 x_14 x_15 x_16 x_17 x_18 x_19 x0) (wM cB cI cJ cZ x_0 x_1 x_2 x_3 x_4 x_5 x_6 x_7 x_8 x_9 x_10 x_11 x_12 x_13 x_14 x_15 x_16 x_17 x_18 x_19 res) := by
  refine g_enter (own := RX8) (free := (fun sz => va_A (wM cB cI cJ cZ x_0 x_1 x_2 x_3 x_4 x_5 x_6 x_7 x_8 x_9 x_10 x_11 x_12 x_13 x_14 x_15 x_16 x_17 x_18 x_19 x0) sz)) (Qc := (fun sz => gQv D (wM cB cI cJ cZ x_0 x_1 x_2 x_3 x_4 x_5 x_6 x_7 x_8 x_9 x_10 x_11 x_12 x_13 x_14 x_15 x_16 x_17 x_18 x_19 x0) sz (wM cB cI cJ cZ x_0 x_1 x_2 x_3 x_4 x_5 x_6 x_7 x_8 x_9 x_10 x_11 x_12 x_13 x_14 x_15 x_16 x_17 x_18 x_19 res))) (fun sz => va_A (wM cB cI cJ cZ x_0 x_1 x_2 x_3 x_4 x_5 x_6 x_7 x_8 x_9 x_10 x_11 x_12 x_13 x_14 x_15 x_16 x_17 x_18 x_19 x0) sz) (fun sz => Or.inr rfl) rfl (by decide) rfl (Nat.le_of_ble_eq_true rfl) rfl ?_
  intro p e s m args below meth c C
  unfold FX8_fresh at hF
  refine g_aload_n (z := 0) C (tdec DX8_fresh 0 rfl) rfl rfl rfl ?_
  refine g_getf (C' := RX8) (T := TX8) (N := 27) (v := .ref x_1) C 0 1 (gIn iw_X8) rfl rfl (by decide) (gMem fl_X8_9) rfl rfl (tdec DX8_fresh 1 rfl) rfl ?_
  refine g_iload_n (z := 1) C (tdec DX8_fresh 2 rfl) rfl rfl rfl ?_
  refine g_iload_n (z := 2) C (tdec DX8_fresh 3 rfl) rfl rfl rfl ?_
  obtain ⟨g1, y2, hF⟩ := o_bind hF
  refine g_iast (ws' := wM cB cI cJ cZ x_0 x_1 x_2 x_3 x_4 x_5 x_6 x_7 x_8 x_9 x_10 x_11 x_12 x_13 x_14 x_15 x_16 x_17 x_18 x_19 (MS_setmany x0 g1)) C 1 1 rfl rfl y2 rfl (tdec DX8_fresh 4 rfl) rfl ?_
  refine g_iconst (v := 0) C (tdec DX8_fresh 5 rfl) (by decide) rfl ?_
  refine g_istore_n (L' := [(3, .int 0), (0, .ref x_0), (1, .int p1), (2, .int p2)]) C (tdec DX8_fresh 6 rfl) rfl (by decide) rfl rfl ?_
  refine g_sub (L' := [(0, .ref x_0), (1, .int p1), (2, .int p2), (3, .int 0)]) [1, 2, 3, 0] rfl ?_
  refine c_FX8_fresh_L9 C (fun xq6 w3_6 hF => ?_) 100000 _ _ hF
  refine g_aload_n (z := 0) C (tdec DX8_fresh 21 rfl) rfl rfl rfl ?_
  refine g_getf (C' := RX8) (T := TX8) (N := 27) (v := .ref x_7) C 0 7 (gIn iw_X8) rfl rfl (by decide) (gMem fl_X8_30) rfl rfl (tdec DX8_fresh 22 rfl) rfl ?_
  refine g_bipush (v := 22) C (tdec DX8_fresh 23 rfl) (by decide) rfl ?_
  refine g_iload_n (z := 1) C (tdec DX8_fresh 24 rfl) rfl rfl rfl ?_
  refine g_imul C (tdec DX8_fresh 25 rfl) rfl ?_
  refine g_iconst (v := 0) C (tdec DX8_fresh 26 rfl) (by decide) rfl ?_
  refine g_iadd C (tdec DX8_fresh 27 rfl) rfl ?_
  refine g_iconst (v := (-1)) C (tdec DX8_fresh 28 rfl) (by decide) rfl ?_
  obtain ⟨g7, y8, hF⟩ := o_bind hF
  refine g_iast (ws' := wM cB cI cJ cZ x_0 x_1 x_2 x_3 x_4 x_5 x_6 x_7 x_8 x_9 x_10 x_11 x_12 x_13 x_14 x_15 x_16 x_17 x_18 x_19 (MS_settt xq6 g7)) C 7 1 rfl rfl y8 rfl (tdec DX8_fresh 29 rfl) rfl ?_
  refine g_aload_n (z := 0) C (tdec DX8_fresh 30 rfl) rfl rfl rfl ?_
  refine g_getf (C' := RX8) (T := TX8) (N := 27) (v := .ref x_8) C 0 8 (gIn iw_X8) rfl rfl (by decide) (gMem fl_X8_33) rfl rfl (tdec DX8_fresh 31 rfl) rfl ?_
  refine g_bipush (v := 22) C (tdec DX8_fresh 32 rfl) (by decide) rfl ?_
  refine g_iload_n (z := 1) C (tdec DX8_fresh 33 rfl) rfl rfl rfl ?_
  refine g_imul C (tdec DX8_fresh 34 rfl) rfl ?_
  refine g_iconst (v := 0) C (tdec DX8_fresh 35 rfl) (by decide) rfl ?_
  refine g_iadd C (tdec DX8_fresh 36 rfl) rfl ?_
  refine g_iconst (v := 0) C (tdec DX8_fresh 37 rfl) (by decide) rfl ?_
  obtain ⟨g9, y10, hF⟩ := o_bind hF
  refine g_iast (ws' := wM cB cI cJ cZ x_0 x_1 x_2 x_3 x_4 x_5 x_6 x_7 x_8 x_9 x_10 x_11 x_12 x_13 x_14 x_15 x_16 x_17 x_18 x_19 (MS_settb (MS_settt xq6 g7) g9)) C 8 1 rfl rfl y10 rfl (tdec DX8_fresh 38 rfl) rfl ?_
  refine g_aload_n (z := 0) C (tdec DX8_fresh 39 rfl) rfl rfl rfl ?_
  refine g_getf (C' := RX8) (T := TX8) (N := 27) (v := .ref x_9) C 0 9 (gIn iw_X8) rfl rfl (by decide) (gMem fl_X8_36) rfl rfl (tdec DX8_fresh 40 rfl) rfl ?_
  refine g_iload_n (z := 1) C (tdec DX8_fresh 41 rfl) rfl rfl rfl ?_
  refine g_iconst (v := 1) C (tdec DX8_fresh 42 rfl) (by decide) rfl ?_
  obtain ⟨g11, y12, hF⟩ := o_bind hF
  refine g_iast (ws' := wM cB cI cJ cZ x_0 x_1 x_2 x_3 x_4 x_5 x_6 x_7 x_8 x_9 x_10 x_11 x_12 x_13 x_14 x_15 x_16 x_17 x_18 x_19 (MS_setgen (MS_settb (MS_settt xq6 g7) g9) g11)) C 9 1 rfl rfl y12 rfl (tdec DX8_fresh 43 rfl) rfl ?_
  refine g_aload_n (z := 0) C (tdec DX8_fresh 44 rfl) rfl rfl rfl ?_
  refine g_getf (C' := RX8) (T := TX8) (N := 27) (v := .ref x_10) C 0 10 (gIn iw_X8) rfl rfl (by decide) (gMem fl_X8_39) rfl rfl (tdec DX8_fresh 45 rfl) rfl ?_
  refine g_iload_n (z := 1) C (tdec DX8_fresh 46 rfl) rfl rfl rfl ?_
  refine g_iconst (v := 0) C (tdec DX8_fresh 47 rfl) (by decide) rfl ?_
  obtain ⟨g13, y14, hF⟩ := o_bind hF
  refine g_iast (ws' := wM cB cI cJ cZ x_0 x_1 x_2 x_3 x_4 x_5 x_6 x_7 x_8 x_9 x_10 x_11 x_12 x_13 x_14 x_15 x_16 x_17 x_18 x_19 (MS_setsnaps (MS_setgen (MS_settb (MS_settt xq6 g7) g9) g11) g13)) C 10 1 rfl rfl y14 rfl (tdec DX8_fresh 48 rfl) rfl ?_
  refine g_aload_n (z := 0) C (tdec DX8_fresh 49 rfl) rfl rfl rfl ?_
  refine g_getf (C' := RX8) (T := TX8) (N := 27) (v := .ref x_13) C 0 13 (gIn iw_X8) rfl rfl (by decide) (gMem fl_X8_48) rfl rfl (tdec DX8_fresh 50 rfl) rfl ?_
  refine g_iload_n (z := 1) C (tdec DX8_fresh 51 rfl) rfl rfl rfl ?_
  refine g_iconst (v := 0) C (tdec DX8_fresh 52 rfl) (by decide) rfl ?_
  obtain ⟨g15, y16, hF⟩ := o_bind hF
  refine g_zast (ws' := wM cB cI cJ cZ x_0 x_1 x_2 x_3 x_4 x_5 x_6 x_7 x_8 x_9 x_10 x_11 x_12 x_13 x_14 x_15 x_16 x_17 x_18 x_19 (MS_setbusy (MS_setsnaps (MS_setgen (MS_settb (MS_settt xq6 g7) g9) g11) g13) g15)) C 13 3 rfl rfl y16 rfl (tdec DX8_fresh 53 rfl) rfl ?_
  refine g_aload_n (z := 0) C (tdec DX8_fresh 54 rfl) rfl rfl rfl ?_
  refine g_getf (C' := RX8) (T := TX8) (N := 27) (v := .ref x_15) C 0 15 (gIn iw_X8) rfl rfl (by decide) (gMem fl_X8_54) rfl rfl (tdec DX8_fresh 55 rfl) rfl ?_
  refine g_iload_n (z := 1) C (tdec DX8_fresh 56 rfl) rfl rfl rfl ?_
  refine g_iconst (v := 0) C (tdec DX8_fresh 57 rfl) (by decide) rfl ?_
  obtain ⟨g17, y18, hF⟩ := o_bind hF
  refine g_iast (ws' := wM cB cI cJ cZ x_0 x_1 x_2 x_3 x_4 x_5 x_6 x_7 x_8 x_9 x_10 x_11 x_12 x_13 x_14 x_15 x_16 x_17 x_18 x_19 (MS_setrec (MS_setbusy (MS_setsnaps (MS_setgen (MS_settb (MS_settt xq6 g7) g9) g11) g13) g15) g17)) C 15 1 rfl rfl y18 rfl (tdec DX8_fresh 58 rfl) rfl ?_
  have hr9 := o_some hF
  subst hr9
  exact g_vret C rfl (tdec DX8_fresh 59 rfl)
def FX8_format (x0 : MS) (p1 : Int32) (p2 : Int32) : Option (MS) :=
  (FX8_isVolume p1).bind fun r1 =>
  if r1 = 0 then
    some (MS_setthr x0 1)
  else
    if p2 < 4 then
      some (MS_setthr x0 1)
    else
      if p2 ≤ 600 then
        (FX8_fresh (MS_setthr x0 0) p1 p2).bind fun s6 =>
        some s6
      else
        some (MS_setthr x0 1)
def rX8_format : Room := { frames := 1, cells := 0, slots := 0, locals := 23 }
set_option maxHeartbeats 4000000 in
set_option maxRecDepth 100000 in
theorem c_X8_format (l : Launch) (D : va_G) (cB cI cJ cZ : ClassId) (x_0 x_1 x_2 x_3 x_4 x_5 x_6 x_7 x_8 x_9 x_10 x_11 x_12 x_13 x_14 x_15 x_16 x_17 x_18 x_19 : Nat) {x0 : MS} {p1 : Int32} {p2 : Int32} {res : MS} (hF : FX8_format x0 p1 p2 = some res) : gMv l yX8_format wsX8_format rX8_format D (gT cB cI cJ cZ) [.ref x_0, .int p1, .int p2] (wM cB cI cJ cZ x_0 x_1 x_2 x_3 x_4 x_5 x_6 x_7 x_8 x_9 x_10 x_11 x_12 x_13 x_14 x_15 x_16 x_17 x_18 x_19 x0) (wM cB cI cJ cZ x_0 x_1 x_2 x_3 x_4 x_5 x_6 x_7 x_8 x_9 x_10 x_11 x_12 x_13 x_14 x_15 x_16 x_17 x_18 x_19 res) := by
  refine g_enter (own := RX8) (free := (fun sz => va_A (wM cB cI cJ cZ x_0 x_1 x_2 x_3 x_4 x_5 x_6 x_7 x_8 x_9 x_10 x_11 x_12 x_13 x_14 x_15 x_16 x_17 x_18 x_19 x0) sz)) (Qc := (fun sz => gQv D (wM cB cI cJ cZ x_0 x_1 x_2 x_3 x_4 x_5 x_6 x_7 x_8 x_9 x_10 x_11 x_12 x_13 x_14 x_15 x_16 x_17 x_18 x_19 x0) sz (wM cB cI cJ cZ x_0 x_1 x_2 x_3 x_4 x_5 x_6 x_7 x_8 x_9 x_10 x_11 x_12 x_13 x_14 x_15 x_16 x_17 x_18 x_19 res))) (fun sz => va_A (wM cB cI cJ cZ x_0 x_1 x_2 x_3 x_4 x_5 x_6 x_7 x_8 x_9 x_10 x_11 x_12 x_13 x_14 x_15 x_16 x_17 x_18 x_19 x0) sz) (fun sz => Or.inr rfl) rfl (by decide) rfl (Nat.le_of_ble_eq_true rfl) rfl ?_
  intro p e s m args below meth c C
  unfold FX8_format at hF
  refine g_aload_n (z := 0) C (tdec DX8_format 0 rfl) rfl rfl rfl ?_
  refine g_iload_n (z := 1) C (tdec DX8_format 1 rfl) rfl rfl rfl ?_
  obtain ⟨r1, y2, hF⟩ := o_bind hF
  refine g_callSiR C (c_X8_isVolume l D cB cI cJ cZ y2) (gIS ml_X8_82 st_X8_isVolume in_X8 cd_X8_isVolume) eX8_isVolume rfl ⟨rfl, rfl⟩ ⟨Nat.le_of_ble_eq_true rfl, Nat.le_of_ble_eq_true rfl⟩ rfl [] rfl rfl rfl (Nat.le_of_ble_eq_true rfl) (tdec DX8_format 2 rfl) rfl ?_
  refine g_if_eq (pt := 20) C (tdec DX8_format 3 rfl) (by decide) rfl (fun h3 => ?_) (fun h3 => ?_)
  · have hF := o_ifp hF h3
    refine g_iconst (v := 1) C (tdec DX8_format 10 rfl) (by decide) rfl ?_
    refine g_goto (pt := 25) C (tdec DX8_format 11 rfl) (by decide) ?_
    refine g_putf (C' := RX8) (T := TX8) (N := 27) (v := .int 1) (ws' := wM cB cI cJ cZ x_0 x_1 x_2 x_3 x_4 x_5 x_6 x_7 x_8 x_9 x_10 x_11 x_12 x_13 x_14 x_15 x_16 x_17 x_18 x_19 (MS_setthr x0 1)) C 0 0 tyX8 tyX8_ok nmX8 (gIn iw_X8) rfl rfl (by decide) (gMem fl_X8_78) rfl rfl (tyX8_ok 0 (by decide)) rfl rfl (Nat.le_of_ble_eq_true rfl) rfl (tdec DX8_format 13 rfl) rfl ?_
    refine g_aload_n (z := 0) C (tdec DX8_format 14 rfl) rfl rfl rfl ?_
    refine g_getf (C' := RX8) (T := TX8) (N := 27) (v := .int 1) C 0 0 (gIn iw_X8) rfl rfl (by decide) (gMem fl_X8_78) rfl rfl (tdec DX8_format 15 rfl) rfl ?_
    refine g_if_ne (pt := 41) C (tdec DX8_format 16 rfl) (by decide) rfl (fun _ => ?_) (fun h => absurd h (by decide))
    have hr9 := o_some hF
    subst hr9
    exact g_vret C rfl (tdec DX8_format 21 rfl)
  · have hF := o_ifn hF h3
    refine g_iload_n (z := 2) C (tdec DX8_format 4 rfl) rfl rfl rfl ?_
    refine g_iconst (v := 4) C (tdec DX8_format 5 rfl) (by decide) rfl ?_
    refine g_icmp_lt (pt := 20) C (tdec DX8_format 6 rfl) (by decide) rfl (fun h4 => ?_) (fun h4 => ?_)
    · have hF := o_ifp hF h4
      refine g_iconst (v := 1) C (tdec DX8_format 10 rfl) (by decide) rfl ?_
      refine g_goto (pt := 25) C (tdec DX8_format 11 rfl) (by decide) ?_
      refine g_putf (C' := RX8) (T := TX8) (N := 27) (v := .int 1) (ws' := wM cB cI cJ cZ x_0 x_1 x_2 x_3 x_4 x_5 x_6 x_7 x_8 x_9 x_10 x_11 x_12 x_13 x_14 x_15 x_16 x_17 x_18 x_19 (MS_setthr x0 1)) C 0 0 tyX8 tyX8_ok nmX8 (gIn iw_X8) rfl rfl (by decide) (gMem fl_X8_78) rfl rfl (tyX8_ok 0 (by decide)) rfl rfl (Nat.le_of_ble_eq_true rfl) rfl (tdec DX8_format 13 rfl) rfl ?_
      refine g_aload_n (z := 0) C (tdec DX8_format 14 rfl) rfl rfl rfl ?_
      refine g_getf (C' := RX8) (T := TX8) (N := 27) (v := .int 1) C 0 0 (gIn iw_X8) rfl rfl (by decide) (gMem fl_X8_78) rfl rfl (tdec DX8_format 15 rfl) rfl ?_
      refine g_if_ne (pt := 41) C (tdec DX8_format 16 rfl) (by decide) rfl (fun _ => ?_) (fun h => absurd h (by decide))
      have hr9 := o_some hF
      subst hr9
      exact g_vret C rfl (tdec DX8_format 21 rfl)
    · have hF := o_ifn hF h4
      refine g_iload_n (z := 2) C (tdec DX8_format 7 rfl) rfl rfl rfl ?_
      refine g_sipush (v := 600) C (tdec DX8_format 8 rfl) (by decide) rfl ?_
      refine g_icmp_le (pt := 24) C (tdec DX8_format 9 rfl) (by decide) rfl (fun h5 => ?_) (fun h5 => ?_)
      · have hF := o_ifp hF h5
        refine g_iconst (v := 0) C (tdec DX8_format 12 rfl) (by decide) rfl ?_
        refine g_putf (C' := RX8) (T := TX8) (N := 27) (v := .int 0) (ws' := wM cB cI cJ cZ x_0 x_1 x_2 x_3 x_4 x_5 x_6 x_7 x_8 x_9 x_10 x_11 x_12 x_13 x_14 x_15 x_16 x_17 x_18 x_19 (MS_setthr x0 0)) C 0 0 tyX8 tyX8_ok nmX8 (gIn iw_X8) rfl rfl (by decide) (gMem fl_X8_78) rfl rfl (tyX8_ok 0 (by decide)) rfl rfl (Nat.le_of_ble_eq_true rfl) rfl (tdec DX8_format 13 rfl) rfl ?_
        refine g_aload_n (z := 0) C (tdec DX8_format 14 rfl) rfl rfl rfl ?_
        refine g_getf (C' := RX8) (T := TX8) (N := 27) (v := .int 0) C 0 0 (gIn iw_X8) rfl rfl (by decide) (gMem fl_X8_78) rfl rfl (tdec DX8_format 15 rfl) rfl ?_
        refine g_if_ne (pt := 41) C (tdec DX8_format 16 rfl) (by decide) rfl (fun h => absurd h (by decide)) (fun _ => ?_)
        refine g_aload_n (z := 0) C (tdec DX8_format 17 rfl) rfl rfl rfl ?_
        refine g_iload_n (z := 1) C (tdec DX8_format 18 rfl) rfl rfl rfl ?_
        refine g_iload_n (z := 2) C (tdec DX8_format 19 rfl) rfl rfl rfl ?_
        obtain ⟨s6, y7, hF⟩ := o_bind hF
        refine g_callVvMS (q0 := 0) (W' := wM cB cI cJ cZ x_0 x_1 x_2 x_3 x_4 x_5 x_6 x_7 x_8 x_9 x_10 x_11 x_12 x_13 x_14 x_15 x_16 x_17 x_18 x_19 s6) (S := [wM cB cI cJ cZ x_0 x_1 x_2 x_3 x_4 x_5 x_6 x_7 x_8 x_9 x_10 x_11 x_12 x_13 x_14 x_15 x_16 x_17 x_18 x_19 (MS_setthr x0 0)]) (S0 := [wM cB cI cJ cZ x_0 x_1 x_2 x_3 x_4 x_5 x_6 x_7 x_8 x_9 x_10 x_11 x_12 x_13 x_14 x_15 x_16 x_17 x_18 x_19 (MS_setthr x0 0)]) (S1 := [wM cB cI cJ cZ x_0 x_1 x_2 x_3 x_4 x_5 x_6 x_7 x_8 x_9 x_10 x_11 x_12 x_13 x_14 x_15 x_16 x_17 x_18 x_19 s6]) (S' := [wM cB cI cJ cZ x_0 x_1 x_2 x_3 x_4 x_5 x_6 x_7 x_8 x_9 x_10 x_11 x_12 x_13 x_14 x_15 x_16 x_17 x_18 x_19 s6]) C (c_X8_fresh l D cB cI cJ cZ x_0 x_1 x_2 x_3 x_4 x_5 x_6 x_7 x_8 x_9 x_10 x_11 x_12 x_13 x_14 x_15 x_16 x_17 x_18 x_19 y7) rfl rfl (gIV ml_X8_74 im_X8_fresh sl_X8_fresh in_X8 cd_X8_fresh) rfl eX8_fresh rfl ⟨rfl, rfl⟩ ⟨Nat.le_of_ble_eq_true rfl, Nat.le_of_ble_eq_true rfl⟩ rfl rfl rfl [0] rfl rfl rfl rfl (gA_cons aM gA_nil) rfl rfl (Nat.le_of_ble_eq_true rfl) (tdec DX8_format 20 rfl) rfl ?_
        have hr9 := o_some hF
        subst hr9
        exact g_vret C rfl (tdec DX8_format 21 rfl)
      · have hF := o_ifn hF h5
        refine g_iconst (v := 1) C (tdec DX8_format 10 rfl) (by decide) rfl ?_
        refine g_goto (pt := 25) C (tdec DX8_format 11 rfl) (by decide) ?_
        refine g_putf (C' := RX8) (T := TX8) (N := 27) (v := .int 1) (ws' := wM cB cI cJ cZ x_0 x_1 x_2 x_3 x_4 x_5 x_6 x_7 x_8 x_9 x_10 x_11 x_12 x_13 x_14 x_15 x_16 x_17 x_18 x_19 (MS_setthr x0 1)) C 0 0 tyX8 tyX8_ok nmX8 (gIn iw_X8) rfl rfl (by decide) (gMem fl_X8_78) rfl rfl (tyX8_ok 0 (by decide)) rfl rfl (Nat.le_of_ble_eq_true rfl) rfl (tdec DX8_format 13 rfl) rfl ?_
        refine g_aload_n (z := 0) C (tdec DX8_format 14 rfl) rfl rfl rfl ?_
        refine g_getf (C' := RX8) (T := TX8) (N := 27) (v := .int 1) C 0 0 (gIn iw_X8) rfl rfl (by decide) (gMem fl_X8_78) rfl rfl (tdec DX8_format 15 rfl) rfl ?_
        refine g_if_ne (pt := 41) C (tdec DX8_format 16 rfl) (by decide) rfl (fun _ => ?_) (fun h => absurd h (by decide))
        have hr9 := o_some hF
        subst hr9
        exact g_vret C rfl (tdec DX8_format 21 rfl)
def FX8_told (x0 : MS) (p1 : Int32) (p2 : Int32) : Option (Int32) :=
  if 0 ≤ p2 then
    (ald 9600 (MS_tel x0) ((4800 * p1) + p2)).bind fun r2 =>
    some r2
  else
    (ald 44 (MS_tt x0) (((22 * p1) - 1) - p2)).bind fun r4 =>
    some r4
def rX8_told : Room := { frames := 0, cells := 0, slots := 0, locals := 0 }
set_option maxHeartbeats 4000000 in
set_option maxRecDepth 100000 in
theorem c_X8_told (l : Launch) (D : va_G) (cB cI cJ cZ : ClassId) (x_0 x_1 x_2 x_3 x_4 x_5 x_6 x_7 x_8 x_9 x_10 x_11 x_12 x_13 x_14 x_15 x_16 x_17 x_18 x_19 : Nat) {x0 : MS} {p1 : Int32} {p2 : Int32} {res : Int32} (hF : FX8_told x0 p1 p2 = some res) : gRi l yX8_told wsX8_told rX8_told D (gT cB cI cJ cZ) [.ref x_0, .int p1, .int p2] (wM cB cI cJ cZ x_0 x_1 x_2 x_3 x_4 x_5 x_6 x_7 x_8 x_9 x_10 x_11 x_12 x_13 x_14 x_15 x_16 x_17 x_18 x_19 x0) res := by
  refine g_enter (own := RX8) (free := (fun _ _ => False)) (Qc := (fun sz => gRQi res)) (fun _ _ => True) (fun sz => Or.inl rfl) rfl (by decide) rfl (Nat.le_of_ble_eq_true rfl) rfl ?_
  intro p e s m args below meth c C
  unfold FX8_told at hF
  refine g_iload_n (z := 2) C (tdec DX8_told 0 rfl) rfl rfl rfl ?_
  refine g_if_ge (pt := 20) C (tdec DX8_told 1 rfl) (by decide) rfl (fun h1 => ?_) (fun h1 => ?_)
  · have hF := o_ifp hF h1
    refine g_aload_n (z := 0) C (tdec DX8_told 13 rfl) rfl rfl rfl ?_
    refine g_getf (C' := RX8) (T := TX8) (N := 27) (v := .ref x_3) C 0 3 (gIn iw_X8) rfl rfl (by decide) (gMem fl_X8_16) rfl rfl (tdec DX8_told 14 rfl) rfl ?_
    refine g_sipush (v := 4800) C (tdec DX8_told 15 rfl) (by decide) rfl ?_
    refine g_iload_n (z := 1) C (tdec DX8_told 16 rfl) rfl rfl rfl ?_
    refine g_imul C (tdec DX8_told 17 rfl) rfl ?_
    refine g_iload_n (z := 2) C (tdec DX8_told 18 rfl) rfl rfl rfl ?_
    refine g_iadd C (tdec DX8_told 19 rfl) rfl ?_
    obtain ⟨r2, y3, hF⟩ := o_bind hF
    refine g_iald C 3 1 rfl rfl y3 (tdec DX8_told 20 rfl) rfl ?_
    have hr9 := o_some hF
    subst hr9
    exact g_iretR C rfl (tdec DX8_told 21 rfl)
  · have hF := o_ifn hF h1
    refine g_aload_n (z := 0) C (tdec DX8_told 2 rfl) rfl rfl rfl ?_
    refine g_getf (C' := RX8) (T := TX8) (N := 27) (v := .ref x_7) C 0 7 (gIn iw_X8) rfl rfl (by decide) (gMem fl_X8_30) rfl rfl (tdec DX8_told 3 rfl) rfl ?_
    refine g_bipush (v := 22) C (tdec DX8_told 4 rfl) (by decide) rfl ?_
    refine g_iload_n (z := 1) C (tdec DX8_told 5 rfl) rfl rfl rfl ?_
    refine g_imul C (tdec DX8_told 6 rfl) rfl ?_
    refine g_iconst (v := 1) C (tdec DX8_told 7 rfl) (by decide) rfl ?_
    refine g_isub C (tdec DX8_told 8 rfl) rfl ?_
    refine g_iload_n (z := 2) C (tdec DX8_told 9 rfl) rfl rfl rfl ?_
    refine g_isub C (tdec DX8_told 10 rfl) rfl ?_
    obtain ⟨r4, y5, hF⟩ := o_bind hF
    refine g_iald C 7 1 rfl rfl y5 (tdec DX8_told 11 rfl) rfl ?_
    refine g_goto (pt := 32) C (tdec DX8_told 12 rfl) (by decide) ?_
    have hr9 := o_some hF
    subst hr9
    exact g_iretR C rfl (tdec DX8_told 21 rfl)
def FX8_born (x0 : MS) (p1 : Int32) (p2 : Int32) : Option (Int32) :=
  if 0 ≤ p2 then
    (ald 9600 (MS_bir x0) ((4800 * p1) + p2)).bind fun r2 =>
    some r2
  else
    (ald 44 (MS_tb x0) (((22 * p1) - 1) - p2)).bind fun r4 =>
    some r4
def rX8_born : Room := { frames := 0, cells := 0, slots := 0, locals := 0 }
set_option maxHeartbeats 4000000 in
set_option maxRecDepth 100000 in
theorem c_X8_born (l : Launch) (D : va_G) (cB cI cJ cZ : ClassId) (x_0 x_1 x_2 x_3 x_4 x_5 x_6 x_7 x_8 x_9 x_10 x_11 x_12 x_13 x_14 x_15 x_16 x_17 x_18 x_19 : Nat) {x0 : MS} {p1 : Int32} {p2 : Int32} {res : Int32} (hF : FX8_born x0 p1 p2 = some res) : gRi l yX8_born wsX8_born rX8_born D (gT cB cI cJ cZ) [.ref x_0, .int p1, .int p2] (wM cB cI cJ cZ x_0 x_1 x_2 x_3 x_4 x_5 x_6 x_7 x_8 x_9 x_10 x_11 x_12 x_13 x_14 x_15 x_16 x_17 x_18 x_19 x0) res := by
  refine g_enter (own := RX8) (free := (fun _ _ => False)) (Qc := (fun sz => gRQi res)) (fun _ _ => True) (fun sz => Or.inl rfl) rfl (by decide) rfl (Nat.le_of_ble_eq_true rfl) rfl ?_
  intro p e s m args below meth c C
  unfold FX8_born at hF
  refine g_iload_n (z := 2) C (tdec DX8_born 0 rfl) rfl rfl rfl ?_
  refine g_if_ge (pt := 20) C (tdec DX8_born 1 rfl) (by decide) rfl (fun h1 => ?_) (fun h1 => ?_)
  · have hF := o_ifp hF h1
    refine g_aload_n (z := 0) C (tdec DX8_born 13 rfl) rfl rfl rfl ?_
    refine g_getf (C' := RX8) (T := TX8) (N := 27) (v := .ref x_4) C 0 4 (gIn iw_X8) rfl rfl (by decide) (gMem fl_X8_19) rfl rfl (tdec DX8_born 14 rfl) rfl ?_
    refine g_sipush (v := 4800) C (tdec DX8_born 15 rfl) (by decide) rfl ?_
    refine g_iload_n (z := 1) C (tdec DX8_born 16 rfl) rfl rfl rfl ?_
    refine g_imul C (tdec DX8_born 17 rfl) rfl ?_
    refine g_iload_n (z := 2) C (tdec DX8_born 18 rfl) rfl rfl rfl ?_
    refine g_iadd C (tdec DX8_born 19 rfl) rfl ?_
    obtain ⟨r2, y3, hF⟩ := o_bind hF
    refine g_iald C 4 1 rfl rfl y3 (tdec DX8_born 20 rfl) rfl ?_
    have hr9 := o_some hF
    subst hr9
    exact g_iretR C rfl (tdec DX8_born 21 rfl)
  · have hF := o_ifn hF h1
    refine g_aload_n (z := 0) C (tdec DX8_born 2 rfl) rfl rfl rfl ?_
    refine g_getf (C' := RX8) (T := TX8) (N := 27) (v := .ref x_8) C 0 8 (gIn iw_X8) rfl rfl (by decide) (gMem fl_X8_33) rfl rfl (tdec DX8_born 3 rfl) rfl ?_
    refine g_bipush (v := 22) C (tdec DX8_born 4 rfl) (by decide) rfl ?_
    refine g_iload_n (z := 1) C (tdec DX8_born 5 rfl) rfl rfl rfl ?_
    refine g_imul C (tdec DX8_born 6 rfl) rfl ?_
    refine g_iconst (v := 1) C (tdec DX8_born 7 rfl) (by decide) rfl ?_
    refine g_isub C (tdec DX8_born 8 rfl) rfl ?_
    refine g_iload_n (z := 2) C (tdec DX8_born 9 rfl) rfl rfl rfl ?_
    refine g_isub C (tdec DX8_born 10 rfl) rfl ?_
    obtain ⟨r4, y5, hF⟩ := o_bind hF
    refine g_iald C 8 1 rfl rfl y5 (tdec DX8_born 11 rfl) rfl ?_
    refine g_goto (pt := 32) C (tdec DX8_born 12 rfl) (by decide) ?_
    have hr9 := o_some hF
    subst hr9
    exact g_iretR C rfl (tdec DX8_born 21 rfl)
def FX8_point (x0 : MS) (p1 : Int32) (p2 : Int32) (p3 : Int32) (p4 : Int32) : Option (MS) :=
  if 0 ≤ p2 then
    (ast 9600 (MS_tel x0) ((4800 * p1) + p2) p3).bind fun g2 =>
    (ast 9600 (MS_bir x0) ((4800 * p1) + p2) p4).bind fun g4 =>
    some (MS_setbir (MS_settel x0 g2) g4)
  else
    (ast 44 (MS_tt x0) (((22 * p1) - 1) - p2) p3).bind fun g6 =>
    (ast 44 (MS_tb x0) (((22 * p1) - 1) - p2) p4).bind fun g8 =>
    some (MS_settb (MS_settt x0 g6) g8)
def rX8_point : Room := { frames := 0, cells := 0, slots := 0, locals := 0 }
set_option maxHeartbeats 4000000 in
set_option maxRecDepth 100000 in
theorem c_X8_point (l : Launch) (D : va_G) (cB cI cJ cZ : ClassId) (x_0 x_1 x_2 x_3 x_4 x_5 x_6 x_7 x_8 x_9 x_10 x_11 x_12 x_13 x_14 x_15 x_16 x_17 x_18 x_19 : Nat) {x0 : MS} {p1 : Int32} {p2 : Int32} {p3 : Int32} {p4 : Int32} {res : MS} (hF : FX8_point x0 p1 p2 p3 p4 = some res) : gMv l yX8_point wsX8_point rX8_point D (gT cB cI cJ cZ) [.ref x_0, .int p1, .int p2, .int p3, .int p4] (wM cB cI cJ cZ x_0 x_1 x_2 x_3 x_4 x_5 x_6 x_7 x_8 x_9 x_10 x_11 x_12 x_13 x_14 x_15 x_16 x_17 x_18 x_19 x0) (wM cB cI cJ cZ x_0 x_1 x_2 x_3 x_4 x_5 x_6 x_7 x_8 x_9 x_10 x_11 x_12 x_13 x_14 x_15 x_16 x_17 x_18 x_19 res) := by
  refine g_enter (own := RX8) (free := (fun sz => va_A (wM cB cI cJ cZ x_0 x_1 x_2 x_3 x_4 x_5 x_6 x_7 x_8 x_9 x_10 x_11 x_12 x_13 x_14 x_15 x_16 x_17 x_18 x_19 x0) sz)) (Qc := (fun sz => gQv D (wM cB cI cJ cZ x_0 x_1 x_2 x_3 x_4 x_5 x_6 x_7 x_8 x_9 x_10 x_11 x_12 x_13 x_14 x_15 x_16 x_17 x_18 x_19 x0) sz (wM cB cI cJ cZ x_0 x_1 x_2 x_3 x_4 x_5 x_6 x_7 x_8 x_9 x_10 x_11 x_12 x_13 x_14 x_15 x_16 x_17 x_18 x_19 res))) (fun sz => va_A (wM cB cI cJ cZ x_0 x_1 x_2 x_3 x_4 x_5 x_6 x_7 x_8 x_9 x_10 x_11 x_12 x_13 x_14 x_15 x_16 x_17 x_18 x_19 x0) sz) (fun sz => Or.inr rfl) rfl (by decide) rfl (Nat.le_of_ble_eq_true rfl) rfl ?_
  intro p e s m args below meth c C
  unfold FX8_point at hF
  refine g_iload_n (z := 2) C (tdec DX8_point 0 rfl) rfl rfl rfl ?_
  refine g_if_ge (pt := 36) C (tdec DX8_point 1 rfl) (by decide) rfl (fun h1 => ?_) (fun h1 => ?_)
  · have hF := o_ifp hF h1
    refine g_aload_n (z := 0) C (tdec DX8_point 25 rfl) rfl rfl rfl ?_
    refine g_getf (C' := RX8) (T := TX8) (N := 27) (v := .ref x_3) C 0 3 (gIn iw_X8) rfl rfl (by decide) (gMem fl_X8_16) rfl rfl (tdec DX8_point 26 rfl) rfl ?_
    refine g_sipush (v := 4800) C (tdec DX8_point 27 rfl) (by decide) rfl ?_
    refine g_iload_n (z := 1) C (tdec DX8_point 28 rfl) rfl rfl rfl ?_
    refine g_imul C (tdec DX8_point 29 rfl) rfl ?_
    refine g_iload_n (z := 2) C (tdec DX8_point 30 rfl) rfl rfl rfl ?_
    refine g_iadd C (tdec DX8_point 31 rfl) rfl ?_
    refine g_iload_n (z := 3) C (tdec DX8_point 32 rfl) rfl rfl rfl ?_
    obtain ⟨g2, y3, hF⟩ := o_bind hF
    refine g_iast (ws' := wM cB cI cJ cZ x_0 x_1 x_2 x_3 x_4 x_5 x_6 x_7 x_8 x_9 x_10 x_11 x_12 x_13 x_14 x_15 x_16 x_17 x_18 x_19 (MS_settel x0 g2)) C 3 1 rfl rfl y3 rfl (tdec DX8_point 33 rfl) rfl ?_
    refine g_aload_n (z := 0) C (tdec DX8_point 34 rfl) rfl rfl rfl ?_
    refine g_getf (C' := RX8) (T := TX8) (N := 27) (v := .ref x_4) C 0 4 (gIn iw_X8) rfl rfl (by decide) (gMem fl_X8_19) rfl rfl (tdec DX8_point 35 rfl) rfl ?_
    refine g_sipush (v := 4800) C (tdec DX8_point 36 rfl) (by decide) rfl ?_
    refine g_iload_n (z := 1) C (tdec DX8_point 37 rfl) rfl rfl rfl ?_
    refine g_imul C (tdec DX8_point 38 rfl) rfl ?_
    refine g_iload_n (z := 2) C (tdec DX8_point 39 rfl) rfl rfl rfl ?_
    refine g_iadd C (tdec DX8_point 40 rfl) rfl ?_
    refine g_iload (z := 4) C (tdec DX8_point 41 rfl) rfl rfl ?_
    obtain ⟨g4, y5, hF⟩ := o_bind hF
    refine g_iast (ws' := wM cB cI cJ cZ x_0 x_1 x_2 x_3 x_4 x_5 x_6 x_7 x_8 x_9 x_10 x_11 x_12 x_13 x_14 x_15 x_16 x_17 x_18 x_19 (MS_setbir (MS_settel x0 g2) g4)) C 4 1 rfl rfl y5 rfl (tdec DX8_point 42 rfl) rfl ?_
    have hr9 := o_some hF
    subst hr9
    exact g_vret C rfl (tdec DX8_point 43 rfl)
  · have hF := o_ifn hF h1
    refine g_aload_n (z := 0) C (tdec DX8_point 2 rfl) rfl rfl rfl ?_
    refine g_getf (C' := RX8) (T := TX8) (N := 27) (v := .ref x_7) C 0 7 (gIn iw_X8) rfl rfl (by decide) (gMem fl_X8_30) rfl rfl (tdec DX8_point 3 rfl) rfl ?_
    refine g_bipush (v := 22) C (tdec DX8_point 4 rfl) (by decide) rfl ?_
    refine g_iload_n (z := 1) C (tdec DX8_point 5 rfl) rfl rfl rfl ?_
    refine g_imul C (tdec DX8_point 6 rfl) rfl ?_
    refine g_iconst (v := 1) C (tdec DX8_point 7 rfl) (by decide) rfl ?_
    refine g_isub C (tdec DX8_point 8 rfl) rfl ?_
    refine g_iload_n (z := 2) C (tdec DX8_point 9 rfl) rfl rfl rfl ?_
    refine g_isub C (tdec DX8_point 10 rfl) rfl ?_
    refine g_iload_n (z := 3) C (tdec DX8_point 11 rfl) rfl rfl rfl ?_
    obtain ⟨g6, y7, hF⟩ := o_bind hF
    refine g_iast (ws' := wM cB cI cJ cZ x_0 x_1 x_2 x_3 x_4 x_5 x_6 x_7 x_8 x_9 x_10 x_11 x_12 x_13 x_14 x_15 x_16 x_17 x_18 x_19 (MS_settt x0 g6)) C 7 1 rfl rfl y7 rfl (tdec DX8_point 12 rfl) rfl ?_
    refine g_aload_n (z := 0) C (tdec DX8_point 13 rfl) rfl rfl rfl ?_
    refine g_getf (C' := RX8) (T := TX8) (N := 27) (v := .ref x_8) C 0 8 (gIn iw_X8) rfl rfl (by decide) (gMem fl_X8_33) rfl rfl (tdec DX8_point 14 rfl) rfl ?_
    refine g_bipush (v := 22) C (tdec DX8_point 15 rfl) (by decide) rfl ?_
    refine g_iload_n (z := 1) C (tdec DX8_point 16 rfl) rfl rfl rfl ?_
    refine g_imul C (tdec DX8_point 17 rfl) rfl ?_
    refine g_iconst (v := 1) C (tdec DX8_point 18 rfl) (by decide) rfl ?_
    refine g_isub C (tdec DX8_point 19 rfl) rfl ?_
    refine g_iload_n (z := 2) C (tdec DX8_point 20 rfl) rfl rfl rfl ?_
    refine g_isub C (tdec DX8_point 21 rfl) rfl ?_
    refine g_iload (z := 4) C (tdec DX8_point 22 rfl) rfl rfl ?_
    obtain ⟨g8, y9, hF⟩ := o_bind hF
    refine g_iast (ws' := wM cB cI cJ cZ x_0 x_1 x_2 x_3 x_4 x_5 x_6 x_7 x_8 x_9 x_10 x_11 x_12 x_13 x_14 x_15 x_16 x_17 x_18 x_19 (MS_settb (MS_settt x0 g6) g8)) C 8 1 rfl rfl y9 rfl (tdec DX8_point 23 rfl) rfl ?_
    refine g_goto (pt := 63) C (tdec DX8_point 24 rfl) (by decide) ?_
    have hr9 := o_some hF
    subst hr9
    exact g_vret C rfl (tdec DX8_point 43 rfl)
def FX8_turn (p0 : Int32) (p1 : Int32) : Option (Int32) :=
  if p1 = 1 then
    some (p0 / 64)
  else
    if p1 = 2 then
      some ((p0 / 8) - (p0 / 8) / 8 * 8)
    else
      some (p0 - p0 / 8 * 8)
def rX8_turn : Room := { frames := 0, cells := 0, slots := 0, locals := 0 }
set_option maxHeartbeats 4000000 in
set_option maxRecDepth 100000 in
theorem c_X8_turn (l : Launch) (D : va_G) (cB cI cJ cZ : ClassId) {p0 : Int32} {p1 : Int32} {res : Int32} (hF : FX8_turn p0 p1 = some res) : gRi l yX8_turn wsX8_turn rX8_turn D (gT cB cI cJ cZ) [.int p0, .int p1] ([]) res := by
  refine g_enter (own := RX8) (free := (fun _ _ => False)) (Qc := (fun sz => gRQi res)) (fun _ _ => True) (fun sz => Or.inl rfl) rfl (by decide) rfl (Nat.le_of_ble_eq_true rfl) rfl ?_
  intro p e s m args below meth c C
  unfold FX8_turn at hF
  refine g_iload_n (z := 1) C (tdec DX8_turn 0 rfl) rfl rfl rfl ?_
  refine g_iconst (v := 1) C (tdec DX8_turn 1 rfl) (by decide) rfl ?_
  refine g_icmp_ne (pt := 12) C (tdec DX8_turn 2 rfl) (by decide) rfl (fun h1 => ?_) (fun h1 => ?_)
  · have hF := o_ifn hF h1
    refine g_iload_n (z := 1) C (tdec DX8_turn 7 rfl) rfl rfl rfl ?_
    refine g_iconst (v := 2) C (tdec DX8_turn 8 rfl) (by decide) rfl ?_
    refine g_icmp_ne (pt := 27) C (tdec DX8_turn 9 rfl) (by decide) rfl (fun h2 => ?_) (fun h2 => ?_)
    · have hF := o_ifn hF h2
      refine g_iload_n (z := 0) C (tdec DX8_turn 16 rfl) rfl rfl rfl ?_
      refine g_bipush (v := 8) C (tdec DX8_turn 17 rfl) (by decide) rfl ?_
      refine g_irem C (tdec DX8_turn 18 rfl) (by decide) rfl ?_
      have hr9 := o_some hF
      subst hr9
      exact g_iretR C rfl (tdec DX8_turn 19 rfl)
    · have hF := o_ifp hF h2
      refine g_iload_n (z := 0) C (tdec DX8_turn 10 rfl) rfl rfl rfl ?_
      refine g_bipush (v := 8) C (tdec DX8_turn 11 rfl) (by decide) rfl ?_
      refine g_idiv C (tdec DX8_turn 12 rfl) (by decide) rfl ?_
      refine g_bipush (v := 8) C (tdec DX8_turn 13 rfl) (by decide) rfl ?_
      refine g_irem C (tdec DX8_turn 14 rfl) (by decide) rfl ?_
      refine g_goto (pt := 31) C (tdec DX8_turn 15 rfl) (by decide) ?_
      have hr9 := o_some hF
      subst hr9
      exact g_iretR C rfl (tdec DX8_turn 19 rfl)
  · have hF := o_ifp hF h1
    refine g_iload_n (z := 0) C (tdec DX8_turn 3 rfl) rfl rfl rfl ?_
    refine g_bipush (v := 64) C (tdec DX8_turn 4 rfl) (by decide) rfl ?_
    refine g_idiv C (tdec DX8_turn 5 rfl) (by decide) rfl ?_
    refine g_goto (pt := 31) C (tdec DX8_turn 6 rfl) (by decide) ?_
    have hr9 := o_some hF
    subst hr9
    exact g_iretR C rfl (tdec DX8_turn 19 rfl)
def FX8_isTree (x0 : MS) (p1 : Int32) (p2 : Int32) : Option (Int32) :=
  if p2 = 0 then
    some 1
  else
    if p2 = 1 then
      (ald 2 (MS_busy x0) p1).bind fun r7 =>
      if r7 = 0 then
        if p2 < 2 then
          some 0
        else
          (ald 2 (MS_snaps x0) p1).bind fun r11 =>
          if (2 + r11) ≤ p2 then
            some 0
          else
            some 1
      else
        some 1
    else
      if p2 < 2 then
        some 0
      else
        (ald 2 (MS_snaps x0) p1).bind fun r4 =>
        if (2 + r4) ≤ p2 then
          some 0
        else
          some 1
def rX8_isTree : Room := { frames := 0, cells := 0, slots := 0, locals := 0 }
set_option maxHeartbeats 4000000 in
set_option maxRecDepth 100000 in
theorem c_X8_isTree (l : Launch) (D : va_G) (cB cI cJ cZ : ClassId) (x_0 x_1 x_2 x_3 x_4 x_5 x_6 x_7 x_8 x_9 x_10 x_11 x_12 x_13 x_14 x_15 x_16 x_17 x_18 x_19 : Nat) {x0 : MS} {p1 : Int32} {p2 : Int32} {res : Int32} (hF : FX8_isTree x0 p1 p2 = some res) : gRi l yX8_isTree wsX8_isTree rX8_isTree D (gT cB cI cJ cZ) [.ref x_0, .int p1, .int p2] (wM cB cI cJ cZ x_0 x_1 x_2 x_3 x_4 x_5 x_6 x_7 x_8 x_9 x_10 x_11 x_12 x_13 x_14 x_15 x_16 x_17 x_18 x_19 x0) res := by
  refine g_enter (own := RX8) (free := (fun _ _ => False)) (Qc := (fun sz => gRQi res)) (fun _ _ => True) (fun sz => Or.inl rfl) rfl (by decide) rfl (Nat.le_of_ble_eq_true rfl) rfl ?_
  intro p e s m args below meth c C
  unfold FX8_isTree at hF
  refine g_iload_n (z := 2) C (tdec DX8_isTree 0 rfl) rfl rfl rfl ?_
  refine g_if_eq (pt := 35) C (tdec DX8_isTree 1 rfl) (by decide) rfl (fun h1 => ?_) (fun h1 => ?_)
  · have hF := o_ifp hF h1
    refine g_iconst (v := 1) C (tdec DX8_isTree 21 rfl) (by decide) rfl ?_
    refine g_goto (pt := 40) C (tdec DX8_isTree 22 rfl) (by decide) ?_
    have hr9 := o_some hF
    subst hr9
    exact g_zretR C rfl rfl (tdec DX8_isTree 24 rfl)
  · have hF := o_ifn hF h1
    refine g_iload_n (z := 2) C (tdec DX8_isTree 2 rfl) rfl rfl rfl ?_
    refine g_iconst (v := 1) C (tdec DX8_isTree 3 rfl) (by decide) rfl ?_
    refine g_icmp_ne (pt := 18) C (tdec DX8_isTree 4 rfl) (by decide) rfl (fun h2 => ?_) (fun h2 => ?_)
    · have hF := o_ifn hF h2
      refine g_iload_n (z := 2) C (tdec DX8_isTree 10 rfl) rfl rfl rfl ?_
      refine g_iconst (v := 2) C (tdec DX8_isTree 11 rfl) (by decide) rfl ?_
      refine g_icmp_lt (pt := 39) C (tdec DX8_isTree 12 rfl) (by decide) rfl (fun h3 => ?_) (fun h3 => ?_)
      · have hF := o_ifp hF h3
        refine g_iconst (v := 0) C (tdec DX8_isTree 23 rfl) (by decide) rfl ?_
        have hr9 := o_some hF
        subst hr9
        exact g_zretR C rfl rfl (tdec DX8_isTree 24 rfl)
      · have hF := o_ifn hF h3
        refine g_iload_n (z := 2) C (tdec DX8_isTree 13 rfl) rfl rfl rfl ?_
        refine g_iconst (v := 2) C (tdec DX8_isTree 14 rfl) (by decide) rfl ?_
        refine g_aload_n (z := 0) C (tdec DX8_isTree 15 rfl) rfl rfl rfl ?_
        refine g_getf (C' := RX8) (T := TX8) (N := 27) (v := .ref x_10) C 0 10 (gIn iw_X8) rfl rfl (by decide) (gMem fl_X8_39) rfl rfl (tdec DX8_isTree 16 rfl) rfl ?_
        refine g_iload_n (z := 1) C (tdec DX8_isTree 17 rfl) rfl rfl rfl ?_
        obtain ⟨r4, y5, hF⟩ := o_bind hF
        refine g_iald C 10 1 rfl rfl y5 (tdec DX8_isTree 18 rfl) rfl ?_
        refine g_iadd C (tdec DX8_isTree 19 rfl) rfl ?_
        refine g_icmp_ge (pt := 39) C (tdec DX8_isTree 20 rfl) (by decide) rfl (fun h6 => ?_) (fun h6 => ?_)
        · have hF := o_ifp hF h6
          refine g_iconst (v := 0) C (tdec DX8_isTree 23 rfl) (by decide) rfl ?_
          have hr9 := o_some hF
          subst hr9
          exact g_zretR C rfl rfl (tdec DX8_isTree 24 rfl)
        · have hF := o_ifn hF h6
          refine g_iconst (v := 1) C (tdec DX8_isTree 21 rfl) (by decide) rfl ?_
          refine g_goto (pt := 40) C (tdec DX8_isTree 22 rfl) (by decide) ?_
          have hr9 := o_some hF
          subst hr9
          exact g_zretR C rfl rfl (tdec DX8_isTree 24 rfl)
    · have hF := o_ifp hF h2
      refine g_aload_n (z := 0) C (tdec DX8_isTree 5 rfl) rfl rfl rfl ?_
      refine g_getf (C' := RX8) (T := TX8) (N := 27) (v := .ref x_13) C 0 13 (gIn iw_X8) rfl rfl (by decide) (gMem fl_X8_48) rfl rfl (tdec DX8_isTree 6 rfl) rfl ?_
      refine g_iload_n (z := 1) C (tdec DX8_isTree 7 rfl) rfl rfl rfl ?_
      obtain ⟨r7, y8, hF⟩ := o_bind hF
      refine g_zald C 13 3 rfl rfl y8 (tdec DX8_isTree 8 rfl) rfl ?_
      refine g_if_ne (pt := 35) C (tdec DX8_isTree 9 rfl) (by decide) rfl (fun h9 => ?_) (fun h9 => ?_)
      · have hF := o_ifn hF h9
        refine g_iconst (v := 1) C (tdec DX8_isTree 21 rfl) (by decide) rfl ?_
        refine g_goto (pt := 40) C (tdec DX8_isTree 22 rfl) (by decide) ?_
        have hr9 := o_some hF
        subst hr9
        exact g_zretR C rfl rfl (tdec DX8_isTree 24 rfl)
      · have hF := o_ifp hF h9
        refine g_iload_n (z := 2) C (tdec DX8_isTree 10 rfl) rfl rfl rfl ?_
        refine g_iconst (v := 2) C (tdec DX8_isTree 11 rfl) (by decide) rfl ?_
        refine g_icmp_lt (pt := 39) C (tdec DX8_isTree 12 rfl) (by decide) rfl (fun h10 => ?_) (fun h10 => ?_)
        · have hF := o_ifp hF h10
          refine g_iconst (v := 0) C (tdec DX8_isTree 23 rfl) (by decide) rfl ?_
          have hr9 := o_some hF
          subst hr9
          exact g_zretR C rfl rfl (tdec DX8_isTree 24 rfl)
        · have hF := o_ifn hF h10
          refine g_iload_n (z := 2) C (tdec DX8_isTree 13 rfl) rfl rfl rfl ?_
          refine g_iconst (v := 2) C (tdec DX8_isTree 14 rfl) (by decide) rfl ?_
          refine g_aload_n (z := 0) C (tdec DX8_isTree 15 rfl) rfl rfl rfl ?_
          refine g_getf (C' := RX8) (T := TX8) (N := 27) (v := .ref x_10) C 0 10 (gIn iw_X8) rfl rfl (by decide) (gMem fl_X8_39) rfl rfl (tdec DX8_isTree 16 rfl) rfl ?_
          refine g_iload_n (z := 1) C (tdec DX8_isTree 17 rfl) rfl rfl rfl ?_
          obtain ⟨r11, y12, hF⟩ := o_bind hF
          refine g_iald C 10 1 rfl rfl y12 (tdec DX8_isTree 18 rfl) rfl ?_
          refine g_iadd C (tdec DX8_isTree 19 rfl) rfl ?_
          refine g_icmp_ge (pt := 39) C (tdec DX8_isTree 20 rfl) (by decide) rfl (fun h13 => ?_) (fun h13 => ?_)
          · have hF := o_ifp hF h13
            refine g_iconst (v := 0) C (tdec DX8_isTree 23 rfl) (by decide) rfl ?_
            have hr9 := o_some hF
            subst hr9
            exact g_zretR C rfl rfl (tdec DX8_isTree 24 rfl)
          · have hF := o_ifn hF h13
            refine g_iconst (v := 1) C (tdec DX8_isTree 21 rfl) (by decide) rfl ?_
            refine g_goto (pt := 40) C (tdec DX8_isTree 22 rfl) (by decide) ?_
            have hr9 := o_some hF
            subst hr9
            exact g_zretR C rfl rfl (tdec DX8_isTree 24 rfl)
def FX8_sweeps_L2 (v1 : Int32) (k9 : MS → Int32 → Option (MS)) : Nat → MS → Int32 → Option (MS)
  | 0, _, _ => none
  | n9 + 1, x, v2 =>
    (ald 2 (MS_many x) v1).bind fun r1 =>
    if r1 ≤ v2 then
      k9 x v2
    else
      (ast 600 (MS_rch x) v2 (vp_nar .boolean 0)).bind fun g4 =>
      FX8_sweeps_L2 v1 k9 n9 (MS_setrch x g4) (v2 + 1)
def FX8_sweeps_L27 (v1 : Int32) (k9 : MS → Int32 → Option (MS)) : Nat → MS → Int32 → Option (MS)
  | 0, _, _ => none
  | n9 + 1, x, v2 =>
    if 22 ≤ v2 then
      k9 x v2
    else
      (FX8_isTree x v1 v2).bind fun r8 =>
      if r8 = 0 then
        FX8_sweeps_L27 v1 k9 n9 x (v2 + 1)
      else
        (ald 44 (MS_tt x) ((22 * v1) + v2)).bind fun r11 =>
        if r11 = (-1) then
          FX8_sweeps_L27 v1 k9 n9 x (v2 + 1)
        else
          (ald 44 (MS_tt x) ((22 * v1) + v2)).bind fun r14 =>
          (ast 600 (MS_rch x) r14 (vp_nar .boolean 1)).bind fun g16 =>
          FX8_sweeps_L27 v1 k9 n9 (MS_setrch x g16) (v2 + 1)
def FX8_sweeps_L129 (v1 : Int32) (v2 : Int32) (v3 : Int32) (k9 : MS → Int32 → Option (MS)) : Nat → MS → Int32 → Option (MS)
  | 0, _, _ => none
  | n9 + 1, x, v4 =>
    if 8 ≤ v4 then
      k9 x v4
    else
      (ald 9600 (MS_tel x) (((4800 * v1) + (8 * v3)) + v4)).bind fun r30 =>
      if r30 = (-1) then
        FX8_sweeps_L129 v1 v2 v3 k9 n9 x (v4 + 1)
      else
        (ald 9600 (MS_tel x) (((4800 * v1) + (8 * v3)) + v4)).bind fun r33 =>
        (ast 600 (MS_rch x) r33 (vp_nar .boolean 1)).bind fun g35 =>
        FX8_sweeps_L129 v1 v2 v3 k9 n9 (MS_setrch x g35) (v4 + 1)
def FX8_sweeps_L88 (v1 : Int32) (v2 : Int32) (k9 : MS → Int32 → Option (MS)) : Nat → MS → Int32 → Option (MS)
  | 0, _, _ => none
  | n9 + 1, x, v3 =>
    (ald 2 (MS_many x) v1).bind fun r20 =>
    if r20 ≤ v3 then
      k9 x v3
    else
      (ald 600 (MS_rch x) v3).bind fun r23 =>
      if r23 = 0 then
        FX8_sweeps_L88 v1 v2 k9 n9 x (v3 + 1)
      else
        (ald 1200 (MS_lev x) ((600 * v1) + v3)).bind fun r26 =>
        if r26 = v2 then
          FX8_sweeps_L129 v1 v2 v3 (fun xq37 w4_37 =>
            FX8_sweeps_L88 v1 v2 k9 n9 xq37 (v3 + 1)) 100000 x 0
        else
          FX8_sweeps_L88 v1 v2 k9 n9 x (v3 + 1)
def FX8_sweeps_L82 (v1 : Int32) (k9 : MS → Int32 → Option (MS)) : Nat → MS → Int32 → Option (MS)
  | 0, _, _ => none
  | n9 + 1, x, v2 =>
    if v2 ≤ 0 then
      k9 x v2
    else
      FX8_sweeps_L88 v1 v2 (fun xq38 w3_38 =>
        FX8_sweeps_L82 v1 k9 n9 xq38 (v2 + (-1))) 100000 x 0
def FX8_sweeps_L202 (v1 : Int32) (k9 : MS → Int32 → Option (MS)) : Nat → MS → Int32 → Option (MS)
  | 0, _, _ => none
  | n9 + 1, x, v2 =>
    (ald 2 (MS_many x) v1).bind fun r40 =>
    if r40 ≤ v2 then
      k9 x v2
    else
      (ald 600 (MS_rch x) v2).bind fun r43 =>
      if r43 = 0 then
        (ast 1200 (MS_lev x) ((600 * v1) + v2) (-1)).bind fun g46 =>
        FX8_sweeps_L202 v1 k9 n9 (MS_setlev x g46) (v2 + 1)
      else
        FX8_sweeps_L202 v1 k9 n9 x (v2 + 1)
def FX8_sweeps (x0 : MS) (p1 : Int32) : Option (MS) :=
  FX8_sweeps_L2 p1 (fun xq6 w2_6 =>
    FX8_sweeps_L27 p1 (fun xq18 w2_18 =>
      FX8_sweeps_L82 p1 (fun xq39 w2_39 =>
        FX8_sweeps_L202 p1 (fun xq48 w2_48 =>
          some xq48) 100000 xq39 0) 100000 xq18 3) 100000 xq6 0) 100000 x0 0
def rX8_sweeps : Room := { frames := 1, cells := 0, slots := 0, locals := 22 }
set_option maxHeartbeats 4000000 in
set_option maxRecDepth 100000 in
theorem c_FX8_sweeps_L2 {p : Program} {l : Launch} {e : Env} {s : State} {m : MethodId} {args : Array Value} {below : List Frame} {meth : Method} {c : Code} {D : va_G} {cB cI cJ cZ : ClassId} {x_0 x_1 x_2 x_3 x_4 x_5 x_6 x_7 x_8 x_9 x_10 x_11 x_12 x_13 x_14 x_15 x_16 x_17 x_18 x_19 : Nat} {x0 : MS} {res : MS} (C : gC p s m args meth c cX8_sweeps 5 RX8 wsX8_sweeps D (gT cB cI cJ cZ) none (va_A (wM cB cI cJ cZ x_0 x_1 x_2 x_3 x_4 x_5 x_6 x_7 x_8 x_9 x_10 x_11 x_12 x_13 x_14 x_15 x_16 x_17 x_18 x_19 x0) s.heap.size)) {v1 : Int32} {k9 : MS → Int32 → Option (MS)} (hk9 : ∀ (x : MS) (v2 : Int32), k9 x v2 = some res → gG p l e (headSpec wsX8_sweeps rX8_sweeps).room s m args below meth c 0 0 D (va_A (wM cB cI cJ cZ x_0 x_1 x_2 x_3 x_4 x_5 x_6 x_7 x_8 x_9 x_10 x_11 x_12 x_13 x_14 x_15 x_16 x_17 x_18 x_19 x0) s.heap.size) (va_A (wM cB cI cJ cZ x_0 x_1 x_2 x_3 x_4 x_5 x_6 x_7 x_8 x_9 x_10 x_11 x_12 x_13 x_14 x_15 x_16 x_17 x_18 x_19 x0) s.heap.size) 5 (MQ below (gQv D (wM cB cI cJ cZ x_0 x_1 x_2 x_3 x_4 x_5 x_6 x_7 x_8 x_9 x_10 x_11 x_12 x_13 x_14 x_15 x_16 x_17 x_18 x_19 x0) s.heap.size (wM cB cI cJ cZ x_0 x_1 x_2 x_3 x_4 x_5 x_6 x_7 x_8 x_9 x_10 x_11 x_12 x_13 x_14 x_15 x_16 x_17 x_18 x_19 res)) args s 0 0 (va_A (wM cB cI cJ cZ x_0 x_1 x_2 x_3 x_4 x_5 x_6 x_7 x_8 x_9 x_10 x_11 x_12 x_13 x_14 x_15 x_16 x_17 x_18 x_19 x0) s.heap.size)) (wM cB cI cJ cZ x_0 x_1 x_2 x_3 x_4 x_5 x_6 x_7 x_8 x_9 x_10 x_11 x_12 x_13 x_14 x_15 x_16 x_17 x_18 x_19 x) 25 [(0, .ref x_0), (1, .int v1), (2, .int v2)] []) :
    ∀ (n9 : Nat) (x : MS) (v2 : Int32), FX8_sweeps_L2 v1 k9 n9 x v2 = some res → gG p l e (headSpec wsX8_sweeps rX8_sweeps).room s m args below meth c 0 0 D (va_A (wM cB cI cJ cZ x_0 x_1 x_2 x_3 x_4 x_5 x_6 x_7 x_8 x_9 x_10 x_11 x_12 x_13 x_14 x_15 x_16 x_17 x_18 x_19 x0) s.heap.size) (va_A (wM cB cI cJ cZ x_0 x_1 x_2 x_3 x_4 x_5 x_6 x_7 x_8 x_9 x_10 x_11 x_12 x_13 x_14 x_15 x_16 x_17 x_18 x_19 x0) s.heap.size) 5 (MQ below (gQv D (wM cB cI cJ cZ x_0 x_1 x_2 x_3 x_4 x_5 x_6 x_7 x_8 x_9 x_10 x_11 x_12 x_13 x_14 x_15 x_16 x_17 x_18 x_19 x0) s.heap.size (wM cB cI cJ cZ x_0 x_1 x_2 x_3 x_4 x_5 x_6 x_7 x_8 x_9 x_10 x_11 x_12 x_13 x_14 x_15 x_16 x_17 x_18 x_19 res)) args s 0 0 (va_A (wM cB cI cJ cZ x_0 x_1 x_2 x_3 x_4 x_5 x_6 x_7 x_8 x_9 x_10 x_11 x_12 x_13 x_14 x_15 x_16 x_17 x_18 x_19 x0) s.heap.size)) (wM cB cI cJ cZ x_0 x_1 x_2 x_3 x_4 x_5 x_6 x_7 x_8 x_9 x_10 x_11 x_12 x_13 x_14 x_15 x_16 x_17 x_18 x_19 x) 2 [(0, .ref x_0), (1, .int v1), (2, .int v2)] [] := by
  intro n9
  induction n9 with
  | zero =>
    intro x v2 hF
    exact absurd hF (by simp [FX8_sweeps_L2])
  | succ n9 ih9 =>
    intro x v2 hF
    rw [FX8_sweeps_L2] at hF
    refine g_iload_n (z := 2) C (tdec DX8_sweeps 2 rfl) rfl rfl rfl ?_
    refine g_aload_n (z := 0) C (tdec DX8_sweeps 3 rfl) rfl rfl rfl ?_
    refine g_getf (C' := RX8) (T := TX8) (N := 27) (v := .ref x_1) C 0 1 (gIn iw_X8) rfl rfl (by decide) (gMem fl_X8_9) rfl rfl (tdec DX8_sweeps 4 rfl) rfl ?_
    refine g_iload_n (z := 1) C (tdec DX8_sweeps 5 rfl) rfl rfl rfl ?_
    obtain ⟨r1, y2, hF⟩ := o_bind hF
    refine g_iald C 1 1 rfl rfl y2 (tdec DX8_sweeps 6 rfl) rfl ?_
    refine g_icmp_ge (pt := 25) C (tdec DX8_sweeps 7 rfl) (by decide) rfl (fun h3 => ?_) (fun h3 => ?_)
    · have hF := o_ifp hF h3
      refine g_sub (L' := [(0, .ref x_0), (1, .int v1), (2, .int v2)]) [0, 1, 2] rfl ?_
      exact hk9 _ _ hF
    · have hF := o_ifn hF h3
      refine g_aload_n (z := 0) C (tdec DX8_sweeps 8 rfl) rfl rfl rfl ?_
      refine g_getf (C' := RX8) (T := TX8) (N := 27) (v := .ref x_18) C 0 24 (gIn iw_X8) rfl rfl (by decide) (gMem fl_X8_68) rfl rfl (tdec DX8_sweeps 9 rfl) rfl ?_
      refine g_iload_n (z := 2) C (tdec DX8_sweeps 10 rfl) rfl rfl rfl ?_
      refine g_iconst (v := 0) C (tdec DX8_sweeps 11 rfl) (by decide) rfl ?_
      obtain ⟨g4, y5, hF⟩ := o_bind hF
      refine g_zast (ws' := wM cB cI cJ cZ x_0 x_1 x_2 x_3 x_4 x_5 x_6 x_7 x_8 x_9 x_10 x_11 x_12 x_13 x_14 x_15 x_16 x_17 x_18 x_19 (MS_setrch x g4)) C 18 3 rfl rfl y5 rfl (tdec DX8_sweeps 12 rfl) rfl ?_
      refine g_iinc (z := 2) (v := (v2 + 1)) (L' := [(2, .int (v2 + 1)), (0, .ref x_0), (1, .int v1)]) C (tdec DX8_sweeps 13 rfl) rfl rfl (by decide) rfl rfl ?_
      refine g_goto (pt := 2) C (tdec DX8_sweeps 14 rfl) (by decide) ?_
      refine g_sub (L' := [(0, .ref x_0), (1, .int v1), (2, .int (v2 + 1))]) [1, 2, 0] rfl ?_
      exact ih9 _ _ hF
set_option maxHeartbeats 4000000 in
set_option maxRecDepth 100000 in
theorem c_FX8_sweeps_L27 {p : Program} {l : Launch} {e : Env} {s : State} {m : MethodId} {args : Array Value} {below : List Frame} {meth : Method} {c : Code} {D : va_G} {cB cI cJ cZ : ClassId} {x_0 x_1 x_2 x_3 x_4 x_5 x_6 x_7 x_8 x_9 x_10 x_11 x_12 x_13 x_14 x_15 x_16 x_17 x_18 x_19 : Nat} {x0 : MS} {res : MS} (C : gC p s m args meth c cX8_sweeps 5 RX8 wsX8_sweeps D (gT cB cI cJ cZ) none (va_A (wM cB cI cJ cZ x_0 x_1 x_2 x_3 x_4 x_5 x_6 x_7 x_8 x_9 x_10 x_11 x_12 x_13 x_14 x_15 x_16 x_17 x_18 x_19 x0) s.heap.size)) {v1 : Int32} {k9 : MS → Int32 → Option (MS)} (hk9 : ∀ (x : MS) (v2 : Int32), k9 x v2 = some res → gG p l e (headSpec wsX8_sweeps rX8_sweeps).room s m args below meth c 0 0 D (va_A (wM cB cI cJ cZ x_0 x_1 x_2 x_3 x_4 x_5 x_6 x_7 x_8 x_9 x_10 x_11 x_12 x_13 x_14 x_15 x_16 x_17 x_18 x_19 x0) s.heap.size) (va_A (wM cB cI cJ cZ x_0 x_1 x_2 x_3 x_4 x_5 x_6 x_7 x_8 x_9 x_10 x_11 x_12 x_13 x_14 x_15 x_16 x_17 x_18 x_19 x0) s.heap.size) 5 (MQ below (gQv D (wM cB cI cJ cZ x_0 x_1 x_2 x_3 x_4 x_5 x_6 x_7 x_8 x_9 x_10 x_11 x_12 x_13 x_14 x_15 x_16 x_17 x_18 x_19 x0) s.heap.size (wM cB cI cJ cZ x_0 x_1 x_2 x_3 x_4 x_5 x_6 x_7 x_8 x_9 x_10 x_11 x_12 x_13 x_14 x_15 x_16 x_17 x_18 x_19 res)) args s 0 0 (va_A (wM cB cI cJ cZ x_0 x_1 x_2 x_3 x_4 x_5 x_6 x_7 x_8 x_9 x_10 x_11 x_12 x_13 x_14 x_15 x_16 x_17 x_18 x_19 x0) s.heap.size)) (wM cB cI cJ cZ x_0 x_1 x_2 x_3 x_4 x_5 x_6 x_7 x_8 x_9 x_10 x_11 x_12 x_13 x_14 x_15 x_16 x_17 x_18 x_19 x) 80 [(0, .ref x_0), (1, .int v1), (2, .int v2)] []) :
    ∀ (n9 : Nat) (x : MS) (v2 : Int32), FX8_sweeps_L27 v1 k9 n9 x v2 = some res → gG p l e (headSpec wsX8_sweeps rX8_sweeps).room s m args below meth c 0 0 D (va_A (wM cB cI cJ cZ x_0 x_1 x_2 x_3 x_4 x_5 x_6 x_7 x_8 x_9 x_10 x_11 x_12 x_13 x_14 x_15 x_16 x_17 x_18 x_19 x0) s.heap.size) (va_A (wM cB cI cJ cZ x_0 x_1 x_2 x_3 x_4 x_5 x_6 x_7 x_8 x_9 x_10 x_11 x_12 x_13 x_14 x_15 x_16 x_17 x_18 x_19 x0) s.heap.size) 5 (MQ below (gQv D (wM cB cI cJ cZ x_0 x_1 x_2 x_3 x_4 x_5 x_6 x_7 x_8 x_9 x_10 x_11 x_12 x_13 x_14 x_15 x_16 x_17 x_18 x_19 x0) s.heap.size (wM cB cI cJ cZ x_0 x_1 x_2 x_3 x_4 x_5 x_6 x_7 x_8 x_9 x_10 x_11 x_12 x_13 x_14 x_15 x_16 x_17 x_18 x_19 res)) args s 0 0 (va_A (wM cB cI cJ cZ x_0 x_1 x_2 x_3 x_4 x_5 x_6 x_7 x_8 x_9 x_10 x_11 x_12 x_13 x_14 x_15 x_16 x_17 x_18 x_19 x0) s.heap.size)) (wM cB cI cJ cZ x_0 x_1 x_2 x_3 x_4 x_5 x_6 x_7 x_8 x_9 x_10 x_11 x_12 x_13 x_14 x_15 x_16 x_17 x_18 x_19 x) 27 [(0, .ref x_0), (1, .int v1), (2, .int v2)] [] := by
  intro n9
  induction n9 with
  | zero =>
    intro x v2 hF
    exact absurd hF (by simp [FX8_sweeps_L27])
  | succ n9 ih9 =>
    intro x v2 hF
    rw [FX8_sweeps_L27] at hF
    refine g_iload_n (z := 2) C (tdec DX8_sweeps 17 rfl) rfl rfl rfl ?_
    refine g_bipush (v := 22) C (tdec DX8_sweeps 18 rfl) (by decide) rfl ?_
    refine g_icmp_ge (pt := 80) C (tdec DX8_sweeps 19 rfl) (by decide) rfl (fun h7 => ?_) (fun h7 => ?_)
    · have hF := o_ifp hF h7
      refine g_sub (L' := [(0, .ref x_0), (1, .int v1), (2, .int v2)]) [0, 1, 2] rfl ?_
      exact hk9 _ _ hF
    · have hF := o_ifn hF h7
      refine g_aload_n (z := 0) C (tdec DX8_sweeps 20 rfl) rfl rfl rfl ?_
      refine g_iload_n (z := 1) C (tdec DX8_sweeps 21 rfl) rfl rfl rfl ?_
      refine g_iload_n (z := 2) C (tdec DX8_sweeps 22 rfl) rfl rfl rfl ?_
      obtain ⟨r8, y9, hF⟩ := o_bind hF
      refine g_callViRS (q0 := 0) (S := [wM cB cI cJ cZ x_0 x_1 x_2 x_3 x_4 x_5 x_6 x_7 x_8 x_9 x_10 x_11 x_12 x_13 x_14 x_15 x_16 x_17 x_18 x_19 x]) (S0 := [wM cB cI cJ cZ x_0 x_1 x_2 x_3 x_4 x_5 x_6 x_7 x_8 x_9 x_10 x_11 x_12 x_13 x_14 x_15 x_16 x_17 x_18 x_19 x]) C (c_X8_isTree l D cB cI cJ cZ x_0 x_1 x_2 x_3 x_4 x_5 x_6 x_7 x_8 x_9 x_10 x_11 x_12 x_13 x_14 x_15 x_16 x_17 x_18 x_19 y9) rfl rfl (gIV ml_X8_86 im_X8_isTree sl_X8_isTree in_X8 cd_X8_isTree) rfl eX8_isTree rfl ⟨rfl, rfl⟩ ⟨Nat.le_of_ble_eq_true rfl, Nat.le_of_ble_eq_true rfl⟩ rfl rfl rfl [0] rfl rfl rfl (Nat.le_of_ble_eq_true rfl) (tdec DX8_sweeps 23 rfl) rfl ?_
      refine g_if_eq (pt := 74) C (tdec DX8_sweeps 24 rfl) (by decide) rfl (fun h10 => ?_) (fun h10 => ?_)
      · have hF := o_ifp hF h10
        refine g_iinc (z := 2) (v := (v2 + 1)) (L' := [(2, .int (v2 + 1)), (0, .ref x_0), (1, .int v1)]) C (tdec DX8_sweeps 47 rfl) rfl rfl (by decide) rfl rfl ?_
        refine g_goto (pt := 27) C (tdec DX8_sweeps 48 rfl) (by decide) ?_
        refine g_sub (L' := [(0, .ref x_0), (1, .int v1), (2, .int (v2 + 1))]) [1, 2, 0] rfl ?_
        exact ih9 _ _ hF
      · have hF := o_ifn hF h10
        refine g_aload_n (z := 0) C (tdec DX8_sweeps 25 rfl) rfl rfl rfl ?_
        refine g_getf (C' := RX8) (T := TX8) (N := 27) (v := .ref x_7) C 0 7 (gIn iw_X8) rfl rfl (by decide) (gMem fl_X8_30) rfl rfl (tdec DX8_sweeps 26 rfl) rfl ?_
        refine g_bipush (v := 22) C (tdec DX8_sweeps 27 rfl) (by decide) rfl ?_
        refine g_iload_n (z := 1) C (tdec DX8_sweeps 28 rfl) rfl rfl rfl ?_
        refine g_imul C (tdec DX8_sweeps 29 rfl) rfl ?_
        refine g_iload_n (z := 2) C (tdec DX8_sweeps 30 rfl) rfl rfl rfl ?_
        refine g_iadd C (tdec DX8_sweeps 31 rfl) rfl ?_
        obtain ⟨r11, y12, hF⟩ := o_bind hF
        refine g_iald C 7 1 rfl rfl y12 (tdec DX8_sweeps 32 rfl) rfl ?_
        refine g_iconst (v := (-1)) C (tdec DX8_sweeps 33 rfl) (by decide) rfl ?_
        refine g_icmp_eq (pt := 74) C (tdec DX8_sweeps 34 rfl) (by decide) rfl (fun h13 => ?_) (fun h13 => ?_)
        · have hF := o_ifp hF h13
          refine g_iinc (z := 2) (v := (v2 + 1)) (L' := [(2, .int (v2 + 1)), (0, .ref x_0), (1, .int v1)]) C (tdec DX8_sweeps 47 rfl) rfl rfl (by decide) rfl rfl ?_
          refine g_goto (pt := 27) C (tdec DX8_sweeps 48 rfl) (by decide) ?_
          refine g_sub (L' := [(0, .ref x_0), (1, .int v1), (2, .int (v2 + 1))]) [1, 2, 0] rfl ?_
          exact ih9 _ _ hF
        · have hF := o_ifn hF h13
          refine g_aload_n (z := 0) C (tdec DX8_sweeps 35 rfl) rfl rfl rfl ?_
          refine g_getf (C' := RX8) (T := TX8) (N := 27) (v := .ref x_18) C 0 24 (gIn iw_X8) rfl rfl (by decide) (gMem fl_X8_68) rfl rfl (tdec DX8_sweeps 36 rfl) rfl ?_
          refine g_aload_n (z := 0) C (tdec DX8_sweeps 37 rfl) rfl rfl rfl ?_
          refine g_getf (C' := RX8) (T := TX8) (N := 27) (v := .ref x_7) C 0 7 (gIn iw_X8) rfl rfl (by decide) (gMem fl_X8_30) rfl rfl (tdec DX8_sweeps 38 rfl) rfl ?_
          refine g_bipush (v := 22) C (tdec DX8_sweeps 39 rfl) (by decide) rfl ?_
          refine g_iload_n (z := 1) C (tdec DX8_sweeps 40 rfl) rfl rfl rfl ?_
          refine g_imul C (tdec DX8_sweeps 41 rfl) rfl ?_
          refine g_iload_n (z := 2) C (tdec DX8_sweeps 42 rfl) rfl rfl rfl ?_
          refine g_iadd C (tdec DX8_sweeps 43 rfl) rfl ?_
          obtain ⟨r14, y15, hF⟩ := o_bind hF
          refine g_iald C 7 1 rfl rfl y15 (tdec DX8_sweeps 44 rfl) rfl ?_
          refine g_iconst (v := 1) C (tdec DX8_sweeps 45 rfl) (by decide) rfl ?_
          obtain ⟨g16, y17, hF⟩ := o_bind hF
          refine g_zast (ws' := wM cB cI cJ cZ x_0 x_1 x_2 x_3 x_4 x_5 x_6 x_7 x_8 x_9 x_10 x_11 x_12 x_13 x_14 x_15 x_16 x_17 x_18 x_19 (MS_setrch x g16)) C 18 3 rfl rfl y17 rfl (tdec DX8_sweeps 46 rfl) rfl ?_
          refine g_iinc (z := 2) (v := (v2 + 1)) (L' := [(2, .int (v2 + 1)), (0, .ref x_0), (1, .int v1)]) C (tdec DX8_sweeps 47 rfl) rfl rfl (by decide) rfl rfl ?_
          refine g_goto (pt := 27) C (tdec DX8_sweeps 48 rfl) (by decide) ?_
          refine g_sub (L' := [(0, .ref x_0), (1, .int v1), (2, .int (v2 + 1))]) [1, 2, 0] rfl ?_
          exact ih9 _ _ hF
set_option maxHeartbeats 4000000 in
set_option maxRecDepth 100000 in
theorem c_FX8_sweeps_L129 {p : Program} {l : Launch} {e : Env} {s : State} {m : MethodId} {args : Array Value} {below : List Frame} {meth : Method} {c : Code} {D : va_G} {cB cI cJ cZ : ClassId} {x_0 x_1 x_2 x_3 x_4 x_5 x_6 x_7 x_8 x_9 x_10 x_11 x_12 x_13 x_14 x_15 x_16 x_17 x_18 x_19 : Nat} {x0 : MS} {res : MS} (C : gC p s m args meth c cX8_sweeps 5 RX8 wsX8_sweeps D (gT cB cI cJ cZ) none (va_A (wM cB cI cJ cZ x_0 x_1 x_2 x_3 x_4 x_5 x_6 x_7 x_8 x_9 x_10 x_11 x_12 x_13 x_14 x_15 x_16 x_17 x_18 x_19 x0) s.heap.size)) {v1 : Int32} {v2 : Int32} {v3 : Int32} {k9 : MS → Int32 → Option (MS)} (hk9 : ∀ (x : MS) (v4 : Int32), k9 x v4 = some res → gG p l e (headSpec wsX8_sweeps rX8_sweeps).room s m args below meth c 0 0 D (va_A (wM cB cI cJ cZ x_0 x_1 x_2 x_3 x_4 x_5 x_6 x_7 x_8 x_9 x_10 x_11 x_12 x_13 x_14 x_15 x_16 x_17 x_18 x_19 x0) s.heap.size) (va_A (wM cB cI cJ cZ x_0 x_1 x_2 x_3 x_4 x_5 x_6 x_7 x_8 x_9 x_10 x_11 x_12 x_13 x_14 x_15 x_16 x_17 x_18 x_19 x0) s.heap.size) 5 (MQ below (gQv D (wM cB cI cJ cZ x_0 x_1 x_2 x_3 x_4 x_5 x_6 x_7 x_8 x_9 x_10 x_11 x_12 x_13 x_14 x_15 x_16 x_17 x_18 x_19 x0) s.heap.size (wM cB cI cJ cZ x_0 x_1 x_2 x_3 x_4 x_5 x_6 x_7 x_8 x_9 x_10 x_11 x_12 x_13 x_14 x_15 x_16 x_17 x_18 x_19 res)) args s 0 0 (va_A (wM cB cI cJ cZ x_0 x_1 x_2 x_3 x_4 x_5 x_6 x_7 x_8 x_9 x_10 x_11 x_12 x_13 x_14 x_15 x_16 x_17 x_18 x_19 x0) s.heap.size)) (wM cB cI cJ cZ x_0 x_1 x_2 x_3 x_4 x_5 x_6 x_7 x_8 x_9 x_10 x_11 x_12 x_13 x_14 x_15 x_16 x_17 x_18 x_19 x) 188 [(0, .ref x_0), (1, .int v1), (2, .int v2), (3, .int v3), (4, .int v4)] []) :
    ∀ (n9 : Nat) (x : MS) (v4 : Int32), FX8_sweeps_L129 v1 v2 v3 k9 n9 x v4 = some res → gG p l e (headSpec wsX8_sweeps rX8_sweeps).room s m args below meth c 0 0 D (va_A (wM cB cI cJ cZ x_0 x_1 x_2 x_3 x_4 x_5 x_6 x_7 x_8 x_9 x_10 x_11 x_12 x_13 x_14 x_15 x_16 x_17 x_18 x_19 x0) s.heap.size) (va_A (wM cB cI cJ cZ x_0 x_1 x_2 x_3 x_4 x_5 x_6 x_7 x_8 x_9 x_10 x_11 x_12 x_13 x_14 x_15 x_16 x_17 x_18 x_19 x0) s.heap.size) 5 (MQ below (gQv D (wM cB cI cJ cZ x_0 x_1 x_2 x_3 x_4 x_5 x_6 x_7 x_8 x_9 x_10 x_11 x_12 x_13 x_14 x_15 x_16 x_17 x_18 x_19 x0) s.heap.size (wM cB cI cJ cZ x_0 x_1 x_2 x_3 x_4 x_5 x_6 x_7 x_8 x_9 x_10 x_11 x_12 x_13 x_14 x_15 x_16 x_17 x_18 x_19 res)) args s 0 0 (va_A (wM cB cI cJ cZ x_0 x_1 x_2 x_3 x_4 x_5 x_6 x_7 x_8 x_9 x_10 x_11 x_12 x_13 x_14 x_15 x_16 x_17 x_18 x_19 x0) s.heap.size)) (wM cB cI cJ cZ x_0 x_1 x_2 x_3 x_4 x_5 x_6 x_7 x_8 x_9 x_10 x_11 x_12 x_13 x_14 x_15 x_16 x_17 x_18 x_19 x) 129 [(0, .ref x_0), (1, .int v1), (2, .int v2), (3, .int v3), (4, .int v4)] [] := by
  intro n9
  induction n9 with
  | zero =>
    intro x v4 hF
    exact absurd hF (by simp [FX8_sweeps_L129])
  | succ n9 ih9 =>
    intro x v4 hF
    rw [FX8_sweeps_L129] at hF
    refine g_iload (z := 4) C (tdec DX8_sweeps 79 rfl) rfl rfl ?_
    refine g_bipush (v := 8) C (tdec DX8_sweeps 80 rfl) (by decide) rfl ?_
    refine g_icmp_ge (pt := 188) C (tdec DX8_sweeps 81 rfl) (by decide) rfl (fun h29 => ?_) (fun h29 => ?_)
    · have hF := o_ifp hF h29
      refine g_sub (L' := [(0, .ref x_0), (1, .int v1), (2, .int v2), (3, .int v3), (4, .int v4)]) [0, 1, 2, 3, 4] rfl ?_
      exact hk9 _ _ hF
    · have hF := o_ifn hF h29
      refine g_aload_n (z := 0) C (tdec DX8_sweeps 82 rfl) rfl rfl rfl ?_
      refine g_getf (C' := RX8) (T := TX8) (N := 27) (v := .ref x_3) C 0 3 (gIn iw_X8) rfl rfl (by decide) (gMem fl_X8_16) rfl rfl (tdec DX8_sweeps 83 rfl) rfl ?_
      refine g_sipush (v := 4800) C (tdec DX8_sweeps 84 rfl) (by decide) rfl ?_
      refine g_iload_n (z := 1) C (tdec DX8_sweeps 85 rfl) rfl rfl rfl ?_
      refine g_imul C (tdec DX8_sweeps 86 rfl) rfl ?_
      refine g_bipush (v := 8) C (tdec DX8_sweeps 87 rfl) (by decide) rfl ?_
      refine g_iload_n (z := 3) C (tdec DX8_sweeps 88 rfl) rfl rfl rfl ?_
      refine g_imul C (tdec DX8_sweeps 89 rfl) rfl ?_
      refine g_iadd C (tdec DX8_sweeps 90 rfl) rfl ?_
      refine g_iload (z := 4) C (tdec DX8_sweeps 91 rfl) rfl rfl ?_
      refine g_iadd C (tdec DX8_sweeps 92 rfl) rfl ?_
      obtain ⟨r30, y31, hF⟩ := o_bind hF
      refine g_iald C 3 1 rfl rfl y31 (tdec DX8_sweeps 93 rfl) rfl ?_
      refine g_iconst (v := (-1)) C (tdec DX8_sweeps 94 rfl) (by decide) rfl ?_
      refine g_icmp_eq (pt := 182) C (tdec DX8_sweeps 95 rfl) (by decide) rfl (fun h32 => ?_) (fun h32 => ?_)
      · have hF := o_ifp hF h32
        refine g_iinc (z := 4) (v := (v4 + 1)) (L' := [(4, .int (v4 + 1)), (0, .ref x_0), (1, .int v1), (2, .int v2), (3, .int v3)]) C (tdec DX8_sweeps 112 rfl) rfl rfl (by decide) rfl rfl ?_
        refine g_goto (pt := 129) C (tdec DX8_sweeps 113 rfl) (by decide) ?_
        refine g_sub (L' := [(0, .ref x_0), (1, .int v1), (2, .int v2), (3, .int v3), (4, .int (v4 + 1))]) [1, 2, 3, 4, 0] rfl ?_
        exact ih9 _ _ hF
      · have hF := o_ifn hF h32
        refine g_aload_n (z := 0) C (tdec DX8_sweeps 96 rfl) rfl rfl rfl ?_
        refine g_getf (C' := RX8) (T := TX8) (N := 27) (v := .ref x_18) C 0 24 (gIn iw_X8) rfl rfl (by decide) (gMem fl_X8_68) rfl rfl (tdec DX8_sweeps 97 rfl) rfl ?_
        refine g_aload_n (z := 0) C (tdec DX8_sweeps 98 rfl) rfl rfl rfl ?_
        refine g_getf (C' := RX8) (T := TX8) (N := 27) (v := .ref x_3) C 0 3 (gIn iw_X8) rfl rfl (by decide) (gMem fl_X8_16) rfl rfl (tdec DX8_sweeps 99 rfl) rfl ?_
        refine g_sipush (v := 4800) C (tdec DX8_sweeps 100 rfl) (by decide) rfl ?_
        refine g_iload_n (z := 1) C (tdec DX8_sweeps 101 rfl) rfl rfl rfl ?_
        refine g_imul C (tdec DX8_sweeps 102 rfl) rfl ?_
        refine g_bipush (v := 8) C (tdec DX8_sweeps 103 rfl) (by decide) rfl ?_
        refine g_iload_n (z := 3) C (tdec DX8_sweeps 104 rfl) rfl rfl rfl ?_
        refine g_imul C (tdec DX8_sweeps 105 rfl) rfl ?_
        refine g_iadd C (tdec DX8_sweeps 106 rfl) rfl ?_
        refine g_iload (z := 4) C (tdec DX8_sweeps 107 rfl) rfl rfl ?_
        refine g_iadd C (tdec DX8_sweeps 108 rfl) rfl ?_
        obtain ⟨r33, y34, hF⟩ := o_bind hF
        refine g_iald C 3 1 rfl rfl y34 (tdec DX8_sweeps 109 rfl) rfl ?_
        refine g_iconst (v := 1) C (tdec DX8_sweeps 110 rfl) (by decide) rfl ?_
        obtain ⟨g35, y36, hF⟩ := o_bind hF
        refine g_zast (ws' := wM cB cI cJ cZ x_0 x_1 x_2 x_3 x_4 x_5 x_6 x_7 x_8 x_9 x_10 x_11 x_12 x_13 x_14 x_15 x_16 x_17 x_18 x_19 (MS_setrch x g35)) C 18 3 rfl rfl y36 rfl (tdec DX8_sweeps 111 rfl) rfl ?_
        refine g_iinc (z := 4) (v := (v4 + 1)) (L' := [(4, .int (v4 + 1)), (0, .ref x_0), (1, .int v1), (2, .int v2), (3, .int v3)]) C (tdec DX8_sweeps 112 rfl) rfl rfl (by decide) rfl rfl ?_
        refine g_goto (pt := 129) C (tdec DX8_sweeps 113 rfl) (by decide) ?_
        refine g_sub (L' := [(0, .ref x_0), (1, .int v1), (2, .int v2), (3, .int v3), (4, .int (v4 + 1))]) [1, 2, 3, 4, 0] rfl ?_
        exact ih9 _ _ hF
set_option maxHeartbeats 4000000 in
set_option maxRecDepth 100000 in
theorem c_FX8_sweeps_L88 {p : Program} {l : Launch} {e : Env} {s : State} {m : MethodId} {args : Array Value} {below : List Frame} {meth : Method} {c : Code} {D : va_G} {cB cI cJ cZ : ClassId} {x_0 x_1 x_2 x_3 x_4 x_5 x_6 x_7 x_8 x_9 x_10 x_11 x_12 x_13 x_14 x_15 x_16 x_17 x_18 x_19 : Nat} {x0 : MS} {res : MS} (C : gC p s m args meth c cX8_sweeps 5 RX8 wsX8_sweeps D (gT cB cI cJ cZ) none (va_A (wM cB cI cJ cZ x_0 x_1 x_2 x_3 x_4 x_5 x_6 x_7 x_8 x_9 x_10 x_11 x_12 x_13 x_14 x_15 x_16 x_17 x_18 x_19 x0) s.heap.size)) {v1 : Int32} {v2 : Int32} {k9 : MS → Int32 → Option (MS)} (hk9 : ∀ (x : MS) (v3 : Int32), k9 x v3 = some res → gG p l e (headSpec wsX8_sweeps rX8_sweeps).room s m args below meth c 0 0 D (va_A (wM cB cI cJ cZ x_0 x_1 x_2 x_3 x_4 x_5 x_6 x_7 x_8 x_9 x_10 x_11 x_12 x_13 x_14 x_15 x_16 x_17 x_18 x_19 x0) s.heap.size) (va_A (wM cB cI cJ cZ x_0 x_1 x_2 x_3 x_4 x_5 x_6 x_7 x_8 x_9 x_10 x_11 x_12 x_13 x_14 x_15 x_16 x_17 x_18 x_19 x0) s.heap.size) 5 (MQ below (gQv D (wM cB cI cJ cZ x_0 x_1 x_2 x_3 x_4 x_5 x_6 x_7 x_8 x_9 x_10 x_11 x_12 x_13 x_14 x_15 x_16 x_17 x_18 x_19 x0) s.heap.size (wM cB cI cJ cZ x_0 x_1 x_2 x_3 x_4 x_5 x_6 x_7 x_8 x_9 x_10 x_11 x_12 x_13 x_14 x_15 x_16 x_17 x_18 x_19 res)) args s 0 0 (va_A (wM cB cI cJ cZ x_0 x_1 x_2 x_3 x_4 x_5 x_6 x_7 x_8 x_9 x_10 x_11 x_12 x_13 x_14 x_15 x_16 x_17 x_18 x_19 x0) s.heap.size)) (wM cB cI cJ cZ x_0 x_1 x_2 x_3 x_4 x_5 x_6 x_7 x_8 x_9 x_10 x_11 x_12 x_13 x_14 x_15 x_16 x_17 x_18 x_19 x) 194 [(0, .ref x_0), (1, .int v1), (2, .int v2), (3, .int v3)] []) :
    ∀ (n9 : Nat) (x : MS) (v3 : Int32), FX8_sweeps_L88 v1 v2 k9 n9 x v3 = some res → gG p l e (headSpec wsX8_sweeps rX8_sweeps).room s m args below meth c 0 0 D (va_A (wM cB cI cJ cZ x_0 x_1 x_2 x_3 x_4 x_5 x_6 x_7 x_8 x_9 x_10 x_11 x_12 x_13 x_14 x_15 x_16 x_17 x_18 x_19 x0) s.heap.size) (va_A (wM cB cI cJ cZ x_0 x_1 x_2 x_3 x_4 x_5 x_6 x_7 x_8 x_9 x_10 x_11 x_12 x_13 x_14 x_15 x_16 x_17 x_18 x_19 x0) s.heap.size) 5 (MQ below (gQv D (wM cB cI cJ cZ x_0 x_1 x_2 x_3 x_4 x_5 x_6 x_7 x_8 x_9 x_10 x_11 x_12 x_13 x_14 x_15 x_16 x_17 x_18 x_19 x0) s.heap.size (wM cB cI cJ cZ x_0 x_1 x_2 x_3 x_4 x_5 x_6 x_7 x_8 x_9 x_10 x_11 x_12 x_13 x_14 x_15 x_16 x_17 x_18 x_19 res)) args s 0 0 (va_A (wM cB cI cJ cZ x_0 x_1 x_2 x_3 x_4 x_5 x_6 x_7 x_8 x_9 x_10 x_11 x_12 x_13 x_14 x_15 x_16 x_17 x_18 x_19 x0) s.heap.size)) (wM cB cI cJ cZ x_0 x_1 x_2 x_3 x_4 x_5 x_6 x_7 x_8 x_9 x_10 x_11 x_12 x_13 x_14 x_15 x_16 x_17 x_18 x_19 x) 88 [(0, .ref x_0), (1, .int v1), (2, .int v2), (3, .int v3)] [] := by
  intro n9
  induction n9 with
  | zero =>
    intro x v3 hF
    exact absurd hF (by simp [FX8_sweeps_L88])
  | succ n9 ih9 =>
    intro x v3 hF
    rw [FX8_sweeps_L88] at hF
    refine g_iload_n (z := 3) C (tdec DX8_sweeps 55 rfl) rfl rfl rfl ?_
    refine g_aload_n (z := 0) C (tdec DX8_sweeps 56 rfl) rfl rfl rfl ?_
    refine g_getf (C' := RX8) (T := TX8) (N := 27) (v := .ref x_1) C 0 1 (gIn iw_X8) rfl rfl (by decide) (gMem fl_X8_9) rfl rfl (tdec DX8_sweeps 57 rfl) rfl ?_
    refine g_iload_n (z := 1) C (tdec DX8_sweeps 58 rfl) rfl rfl rfl ?_
    obtain ⟨r20, y21, hF⟩ := o_bind hF
    refine g_iald C 1 1 rfl rfl y21 (tdec DX8_sweeps 59 rfl) rfl ?_
    refine g_icmp_ge (pt := 194) C (tdec DX8_sweeps 60 rfl) (by decide) rfl (fun h22 => ?_) (fun h22 => ?_)
    · have hF := o_ifp hF h22
      refine g_sub (L' := [(0, .ref x_0), (1, .int v1), (2, .int v2), (3, .int v3)]) [0, 1, 2, 3] rfl ?_
      exact hk9 _ _ hF
    · have hF := o_ifn hF h22
      refine g_aload_n (z := 0) C (tdec DX8_sweeps 61 rfl) rfl rfl rfl ?_
      refine g_getf (C' := RX8) (T := TX8) (N := 27) (v := .ref x_18) C 0 24 (gIn iw_X8) rfl rfl (by decide) (gMem fl_X8_68) rfl rfl (tdec DX8_sweeps 62 rfl) rfl ?_
      refine g_iload_n (z := 3) C (tdec DX8_sweeps 63 rfl) rfl rfl rfl ?_
      obtain ⟨r23, y24, hF⟩ := o_bind hF
      refine g_zald C 18 3 rfl rfl y24 (tdec DX8_sweeps 64 rfl) rfl ?_
      refine g_if_eq (pt := 188) C (tdec DX8_sweeps 65 rfl) (by decide) rfl (fun h25 => ?_) (fun h25 => ?_)
      · have hF := o_ifp hF h25
        refine g_iinc (z := 3) (v := (v3 + 1)) (L' := [(3, .int (v3 + 1)), (0, .ref x_0), (1, .int v1), (2, .int v2)]) C (tdec DX8_sweeps 114 rfl) rfl rfl (by decide) rfl rfl ?_
        refine g_goto (pt := 88) C (tdec DX8_sweeps 115 rfl) (by decide) ?_
        refine g_sub (L' := [(0, .ref x_0), (1, .int v1), (2, .int v2), (3, .int (v3 + 1))]) [1, 2, 3, 0] rfl ?_
        exact ih9 _ _ hF
      · have hF := o_ifn hF h25
        refine g_aload_n (z := 0) C (tdec DX8_sweeps 66 rfl) rfl rfl rfl ?_
        refine g_getf (C' := RX8) (T := TX8) (N := 27) (v := .ref x_2) C 0 2 (gIn iw_X8) rfl rfl (by decide) (gMem fl_X8_13) rfl rfl (tdec DX8_sweeps 67 rfl) rfl ?_
        refine g_sipush (v := 600) C (tdec DX8_sweeps 68 rfl) (by decide) rfl ?_
        refine g_iload_n (z := 1) C (tdec DX8_sweeps 69 rfl) rfl rfl rfl ?_
        refine g_imul C (tdec DX8_sweeps 70 rfl) rfl ?_
        refine g_iload_n (z := 3) C (tdec DX8_sweeps 71 rfl) rfl rfl rfl ?_
        refine g_iadd C (tdec DX8_sweeps 72 rfl) rfl ?_
        obtain ⟨r26, y27, hF⟩ := o_bind hF
        refine g_iald C 2 1 rfl rfl y27 (tdec DX8_sweeps 73 rfl) rfl ?_
        refine g_iload_n (z := 2) C (tdec DX8_sweeps 74 rfl) rfl rfl rfl ?_
        refine g_icmp_eq (pt := 126) C (tdec DX8_sweeps 75 rfl) (by decide) rfl (fun h28 => ?_) (fun h28 => ?_)
        · have hF := o_ifp hF h28
          refine g_iconst (v := 0) C (tdec DX8_sweeps 77 rfl) (by decide) rfl ?_
          refine g_istore (L' := [(4, .int 0), (0, .ref x_0), (1, .int v1), (2, .int v2), (3, .int v3)]) C (tdec DX8_sweeps 78 rfl) (by decide) rfl rfl ?_
          refine g_sub (L' := [(0, .ref x_0), (1, .int v1), (2, .int v2), (3, .int v3), (4, .int 0)]) [1, 2, 3, 4, 0] rfl ?_
          refine c_FX8_sweeps_L129 C (fun xq37 w4_37 hF => ?_) 100000 _ _ hF
          refine g_iinc (z := 3) (v := (v3 + 1)) (L' := [(3, .int (v3 + 1)), (0, .ref x_0), (1, .int v1), (2, .int v2), (4, .int w4_37)]) C (tdec DX8_sweeps 114 rfl) rfl rfl (by decide) rfl rfl ?_
          refine g_goto (pt := 88) C (tdec DX8_sweeps 115 rfl) (by decide) ?_
          refine g_sub (L' := [(0, .ref x_0), (1, .int v1), (2, .int v2), (3, .int (v3 + 1))]) [1, 2, 3, 0] rfl ?_
          exact ih9 _ _ hF
        · have hF := o_ifn hF h28
          refine g_goto (pt := 188) C (tdec DX8_sweeps 76 rfl) (by decide) ?_
          refine g_iinc (z := 3) (v := (v3 + 1)) (L' := [(3, .int (v3 + 1)), (0, .ref x_0), (1, .int v1), (2, .int v2)]) C (tdec DX8_sweeps 114 rfl) rfl rfl (by decide) rfl rfl ?_
          refine g_goto (pt := 88) C (tdec DX8_sweeps 115 rfl) (by decide) ?_
          refine g_sub (L' := [(0, .ref x_0), (1, .int v1), (2, .int v2), (3, .int (v3 + 1))]) [1, 2, 3, 0] rfl ?_
          exact ih9 _ _ hF
set_option maxHeartbeats 4000000 in
set_option maxRecDepth 100000 in
theorem c_FX8_sweeps_L82 {p : Program} {l : Launch} {e : Env} {s : State} {m : MethodId} {args : Array Value} {below : List Frame} {meth : Method} {c : Code} {D : va_G} {cB cI cJ cZ : ClassId} {x_0 x_1 x_2 x_3 x_4 x_5 x_6 x_7 x_8 x_9 x_10 x_11 x_12 x_13 x_14 x_15 x_16 x_17 x_18 x_19 : Nat} {x0 : MS} {res : MS} (C : gC p s m args meth c cX8_sweeps 5 RX8 wsX8_sweeps D (gT cB cI cJ cZ) none (va_A (wM cB cI cJ cZ x_0 x_1 x_2 x_3 x_4 x_5 x_6 x_7 x_8 x_9 x_10 x_11 x_12 x_13 x_14 x_15 x_16 x_17 x_18 x_19 x0) s.heap.size)) {v1 : Int32} {k9 : MS → Int32 → Option (MS)} (hk9 : ∀ (x : MS) (v2 : Int32), k9 x v2 = some res → gG p l e (headSpec wsX8_sweeps rX8_sweeps).room s m args below meth c 0 0 D (va_A (wM cB cI cJ cZ x_0 x_1 x_2 x_3 x_4 x_5 x_6 x_7 x_8 x_9 x_10 x_11 x_12 x_13 x_14 x_15 x_16 x_17 x_18 x_19 x0) s.heap.size) (va_A (wM cB cI cJ cZ x_0 x_1 x_2 x_3 x_4 x_5 x_6 x_7 x_8 x_9 x_10 x_11 x_12 x_13 x_14 x_15 x_16 x_17 x_18 x_19 x0) s.heap.size) 5 (MQ below (gQv D (wM cB cI cJ cZ x_0 x_1 x_2 x_3 x_4 x_5 x_6 x_7 x_8 x_9 x_10 x_11 x_12 x_13 x_14 x_15 x_16 x_17 x_18 x_19 x0) s.heap.size (wM cB cI cJ cZ x_0 x_1 x_2 x_3 x_4 x_5 x_6 x_7 x_8 x_9 x_10 x_11 x_12 x_13 x_14 x_15 x_16 x_17 x_18 x_19 res)) args s 0 0 (va_A (wM cB cI cJ cZ x_0 x_1 x_2 x_3 x_4 x_5 x_6 x_7 x_8 x_9 x_10 x_11 x_12 x_13 x_14 x_15 x_16 x_17 x_18 x_19 x0) s.heap.size)) (wM cB cI cJ cZ x_0 x_1 x_2 x_3 x_4 x_5 x_6 x_7 x_8 x_9 x_10 x_11 x_12 x_13 x_14 x_15 x_16 x_17 x_18 x_19 x) 200 [(0, .ref x_0), (1, .int v1), (2, .int v2)] []) :
    ∀ (n9 : Nat) (x : MS) (v2 : Int32), FX8_sweeps_L82 v1 k9 n9 x v2 = some res → gG p l e (headSpec wsX8_sweeps rX8_sweeps).room s m args below meth c 0 0 D (va_A (wM cB cI cJ cZ x_0 x_1 x_2 x_3 x_4 x_5 x_6 x_7 x_8 x_9 x_10 x_11 x_12 x_13 x_14 x_15 x_16 x_17 x_18 x_19 x0) s.heap.size) (va_A (wM cB cI cJ cZ x_0 x_1 x_2 x_3 x_4 x_5 x_6 x_7 x_8 x_9 x_10 x_11 x_12 x_13 x_14 x_15 x_16 x_17 x_18 x_19 x0) s.heap.size) 5 (MQ below (gQv D (wM cB cI cJ cZ x_0 x_1 x_2 x_3 x_4 x_5 x_6 x_7 x_8 x_9 x_10 x_11 x_12 x_13 x_14 x_15 x_16 x_17 x_18 x_19 x0) s.heap.size (wM cB cI cJ cZ x_0 x_1 x_2 x_3 x_4 x_5 x_6 x_7 x_8 x_9 x_10 x_11 x_12 x_13 x_14 x_15 x_16 x_17 x_18 x_19 res)) args s 0 0 (va_A (wM cB cI cJ cZ x_0 x_1 x_2 x_3 x_4 x_5 x_6 x_7 x_8 x_9 x_10 x_11 x_12 x_13 x_14 x_15 x_16 x_17 x_18 x_19 x0) s.heap.size)) (wM cB cI cJ cZ x_0 x_1 x_2 x_3 x_4 x_5 x_6 x_7 x_8 x_9 x_10 x_11 x_12 x_13 x_14 x_15 x_16 x_17 x_18 x_19 x) 82 [(0, .ref x_0), (1, .int v1), (2, .int v2)] [] := by
  intro n9
  induction n9 with
  | zero =>
    intro x v2 hF
    exact absurd hF (by simp [FX8_sweeps_L82])
  | succ n9 ih9 =>
    intro x v2 hF
    rw [FX8_sweeps_L82] at hF
    refine g_iload_n (z := 2) C (tdec DX8_sweeps 51 rfl) rfl rfl rfl ?_
    refine g_if_le (pt := 200) C (tdec DX8_sweeps 52 rfl) (by decide) rfl (fun h19 => ?_) (fun h19 => ?_)
    · have hF := o_ifp hF h19
      refine g_sub (L' := [(0, .ref x_0), (1, .int v1), (2, .int v2)]) [0, 1, 2] rfl ?_
      exact hk9 _ _ hF
    · have hF := o_ifn hF h19
      refine g_iconst (v := 0) C (tdec DX8_sweeps 53 rfl) (by decide) rfl ?_
      refine g_istore_n (L' := [(3, .int 0), (0, .ref x_0), (1, .int v1), (2, .int v2)]) C (tdec DX8_sweeps 54 rfl) rfl (by decide) rfl rfl ?_
      refine g_sub (L' := [(0, .ref x_0), (1, .int v1), (2, .int v2), (3, .int 0)]) [1, 2, 3, 0] rfl ?_
      refine c_FX8_sweeps_L88 C (fun xq38 w3_38 hF => ?_) 100000 _ _ hF
      refine g_iinc (z := 2) (v := (v2 + (-1))) (L' := [(2, .int (v2 + (-1))), (0, .ref x_0), (1, .int v1), (3, .int w3_38)]) C (tdec DX8_sweeps 116 rfl) rfl rfl (by decide) rfl rfl ?_
      refine g_goto (pt := 82) C (tdec DX8_sweeps 117 rfl) (by decide) ?_
      refine g_sub (L' := [(0, .ref x_0), (1, .int v1), (2, .int (v2 + (-1)))]) [1, 2, 0] rfl ?_
      exact ih9 _ _ hF
set_option maxHeartbeats 4000000 in
set_option maxRecDepth 100000 in
theorem c_FX8_sweeps_L202 {p : Program} {l : Launch} {e : Env} {s : State} {m : MethodId} {args : Array Value} {below : List Frame} {meth : Method} {c : Code} {D : va_G} {cB cI cJ cZ : ClassId} {x_0 x_1 x_2 x_3 x_4 x_5 x_6 x_7 x_8 x_9 x_10 x_11 x_12 x_13 x_14 x_15 x_16 x_17 x_18 x_19 : Nat} {x0 : MS} {res : MS} (C : gC p s m args meth c cX8_sweeps 5 RX8 wsX8_sweeps D (gT cB cI cJ cZ) none (va_A (wM cB cI cJ cZ x_0 x_1 x_2 x_3 x_4 x_5 x_6 x_7 x_8 x_9 x_10 x_11 x_12 x_13 x_14 x_15 x_16 x_17 x_18 x_19 x0) s.heap.size)) {v1 : Int32} {k9 : MS → Int32 → Option (MS)} (hk9 : ∀ (x : MS) (v2 : Int32), k9 x v2 = some res → gG p l e (headSpec wsX8_sweeps rX8_sweeps).room s m args below meth c 0 0 D (va_A (wM cB cI cJ cZ x_0 x_1 x_2 x_3 x_4 x_5 x_6 x_7 x_8 x_9 x_10 x_11 x_12 x_13 x_14 x_15 x_16 x_17 x_18 x_19 x0) s.heap.size) (va_A (wM cB cI cJ cZ x_0 x_1 x_2 x_3 x_4 x_5 x_6 x_7 x_8 x_9 x_10 x_11 x_12 x_13 x_14 x_15 x_16 x_17 x_18 x_19 x0) s.heap.size) 5 (MQ below (gQv D (wM cB cI cJ cZ x_0 x_1 x_2 x_3 x_4 x_5 x_6 x_7 x_8 x_9 x_10 x_11 x_12 x_13 x_14 x_15 x_16 x_17 x_18 x_19 x0) s.heap.size (wM cB cI cJ cZ x_0 x_1 x_2 x_3 x_4 x_5 x_6 x_7 x_8 x_9 x_10 x_11 x_12 x_13 x_14 x_15 x_16 x_17 x_18 x_19 res)) args s 0 0 (va_A (wM cB cI cJ cZ x_0 x_1 x_2 x_3 x_4 x_5 x_6 x_7 x_8 x_9 x_10 x_11 x_12 x_13 x_14 x_15 x_16 x_17 x_18 x_19 x0) s.heap.size)) (wM cB cI cJ cZ x_0 x_1 x_2 x_3 x_4 x_5 x_6 x_7 x_8 x_9 x_10 x_11 x_12 x_13 x_14 x_15 x_16 x_17 x_18 x_19 x) 240 [(0, .ref x_0), (1, .int v1), (2, .int v2)] []) :
    ∀ (n9 : Nat) (x : MS) (v2 : Int32), FX8_sweeps_L202 v1 k9 n9 x v2 = some res → gG p l e (headSpec wsX8_sweeps rX8_sweeps).room s m args below meth c 0 0 D (va_A (wM cB cI cJ cZ x_0 x_1 x_2 x_3 x_4 x_5 x_6 x_7 x_8 x_9 x_10 x_11 x_12 x_13 x_14 x_15 x_16 x_17 x_18 x_19 x0) s.heap.size) (va_A (wM cB cI cJ cZ x_0 x_1 x_2 x_3 x_4 x_5 x_6 x_7 x_8 x_9 x_10 x_11 x_12 x_13 x_14 x_15 x_16 x_17 x_18 x_19 x0) s.heap.size) 5 (MQ below (gQv D (wM cB cI cJ cZ x_0 x_1 x_2 x_3 x_4 x_5 x_6 x_7 x_8 x_9 x_10 x_11 x_12 x_13 x_14 x_15 x_16 x_17 x_18 x_19 x0) s.heap.size (wM cB cI cJ cZ x_0 x_1 x_2 x_3 x_4 x_5 x_6 x_7 x_8 x_9 x_10 x_11 x_12 x_13 x_14 x_15 x_16 x_17 x_18 x_19 res)) args s 0 0 (va_A (wM cB cI cJ cZ x_0 x_1 x_2 x_3 x_4 x_5 x_6 x_7 x_8 x_9 x_10 x_11 x_12 x_13 x_14 x_15 x_16 x_17 x_18 x_19 x0) s.heap.size)) (wM cB cI cJ cZ x_0 x_1 x_2 x_3 x_4 x_5 x_6 x_7 x_8 x_9 x_10 x_11 x_12 x_13 x_14 x_15 x_16 x_17 x_18 x_19 x) 202 [(0, .ref x_0), (1, .int v1), (2, .int v2)] [] := by
  intro n9
  induction n9 with
  | zero =>
    intro x v2 hF
    exact absurd hF (by simp [FX8_sweeps_L202])
  | succ n9 ih9 =>
    intro x v2 hF
    rw [FX8_sweeps_L202] at hF
    refine g_iload_n (z := 2) C (tdec DX8_sweeps 120 rfl) rfl rfl rfl ?_
    refine g_aload_n (z := 0) C (tdec DX8_sweeps 121 rfl) rfl rfl rfl ?_
    refine g_getf (C' := RX8) (T := TX8) (N := 27) (v := .ref x_1) C 0 1 (gIn iw_X8) rfl rfl (by decide) (gMem fl_X8_9) rfl rfl (tdec DX8_sweeps 122 rfl) rfl ?_
    refine g_iload_n (z := 1) C (tdec DX8_sweeps 123 rfl) rfl rfl rfl ?_
    obtain ⟨r40, y41, hF⟩ := o_bind hF
    refine g_iald C 1 1 rfl rfl y41 (tdec DX8_sweeps 124 rfl) rfl ?_
    refine g_icmp_ge (pt := 240) C (tdec DX8_sweeps 125 rfl) (by decide) rfl (fun h42 => ?_) (fun h42 => ?_)
    · have hF := o_ifp hF h42
      refine g_sub (L' := [(0, .ref x_0), (1, .int v1), (2, .int v2)]) [0, 1, 2] rfl ?_
      exact hk9 _ _ hF
    · have hF := o_ifn hF h42
      refine g_aload_n (z := 0) C (tdec DX8_sweeps 126 rfl) rfl rfl rfl ?_
      refine g_getf (C' := RX8) (T := TX8) (N := 27) (v := .ref x_18) C 0 24 (gIn iw_X8) rfl rfl (by decide) (gMem fl_X8_68) rfl rfl (tdec DX8_sweeps 127 rfl) rfl ?_
      refine g_iload_n (z := 2) C (tdec DX8_sweeps 128 rfl) rfl rfl rfl ?_
      obtain ⟨r43, y44, hF⟩ := o_bind hF
      refine g_zald C 18 3 rfl rfl y44 (tdec DX8_sweeps 129 rfl) rfl ?_
      refine g_if_ne (pt := 234) C (tdec DX8_sweeps 130 rfl) (by decide) rfl (fun h45 => ?_) (fun h45 => ?_)
      · have hF := o_ifn hF h45
        refine g_iinc (z := 2) (v := (v2 + 1)) (L' := [(2, .int (v2 + 1)), (0, .ref x_0), (1, .int v1)]) C (tdec DX8_sweeps 140 rfl) rfl rfl (by decide) rfl rfl ?_
        refine g_goto (pt := 202) C (tdec DX8_sweeps 141 rfl) (by decide) ?_
        refine g_sub (L' := [(0, .ref x_0), (1, .int v1), (2, .int (v2 + 1))]) [1, 2, 0] rfl ?_
        exact ih9 _ _ hF
      · have hF := o_ifp hF h45
        refine g_aload_n (z := 0) C (tdec DX8_sweeps 131 rfl) rfl rfl rfl ?_
        refine g_getf (C' := RX8) (T := TX8) (N := 27) (v := .ref x_2) C 0 2 (gIn iw_X8) rfl rfl (by decide) (gMem fl_X8_13) rfl rfl (tdec DX8_sweeps 132 rfl) rfl ?_
        refine g_sipush (v := 600) C (tdec DX8_sweeps 133 rfl) (by decide) rfl ?_
        refine g_iload_n (z := 1) C (tdec DX8_sweeps 134 rfl) rfl rfl rfl ?_
        refine g_imul C (tdec DX8_sweeps 135 rfl) rfl ?_
        refine g_iload_n (z := 2) C (tdec DX8_sweeps 136 rfl) rfl rfl rfl ?_
        refine g_iadd C (tdec DX8_sweeps 137 rfl) rfl ?_
        refine g_iconst (v := (-1)) C (tdec DX8_sweeps 138 rfl) (by decide) rfl ?_
        obtain ⟨g46, y47, hF⟩ := o_bind hF
        refine g_iast (ws' := wM cB cI cJ cZ x_0 x_1 x_2 x_3 x_4 x_5 x_6 x_7 x_8 x_9 x_10 x_11 x_12 x_13 x_14 x_15 x_16 x_17 x_18 x_19 (MS_setlev x g46)) C 2 1 rfl rfl y47 rfl (tdec DX8_sweeps 139 rfl) rfl ?_
        refine g_iinc (z := 2) (v := (v2 + 1)) (L' := [(2, .int (v2 + 1)), (0, .ref x_0), (1, .int v1)]) C (tdec DX8_sweeps 140 rfl) rfl rfl (by decide) rfl rfl ?_
        refine g_goto (pt := 202) C (tdec DX8_sweeps 141 rfl) (by decide) ?_
        refine g_sub (L' := [(0, .ref x_0), (1, .int v1), (2, .int (v2 + 1))]) [1, 2, 0] rfl ?_
        exact ih9 _ _ hF
set_option maxHeartbeats 4000000 in
set_option maxRecDepth 100000 in
theorem c_X8_sweeps (l : Launch) (D : va_G) (cB cI cJ cZ : ClassId) (x_0 x_1 x_2 x_3 x_4 x_5 x_6 x_7 x_8 x_9 x_10 x_11 x_12 x_13 x_14 x_15 x_16 x_17 x_18 x_19 : Nat) {x0 : MS} {p1 : Int32} {res : MS} (hF : FX8_sweeps x0 p1 = some res) : gMv l yX8_sweeps wsX8_sweeps rX8_sweeps D (gT cB cI cJ cZ) [.ref x_0, .int p1] (wM cB cI cJ cZ x_0 x_1 x_2 x_3 x_4 x_5 x_6 x_7 x_8 x_9 x_10 x_11 x_12 x_13 x_14 x_15 x_16 x_17 x_18 x_19 x0) (wM cB cI cJ cZ x_0 x_1 x_2 x_3 x_4 x_5 x_6 x_7 x_8 x_9 x_10 x_11 x_12 x_13 x_14 x_15 x_16 x_17 x_18 x_19 res) := by
  refine g_enter (own := RX8) (free := (fun sz => va_A (wM cB cI cJ cZ x_0 x_1 x_2 x_3 x_4 x_5 x_6 x_7 x_8 x_9 x_10 x_11 x_12 x_13 x_14 x_15 x_16 x_17 x_18 x_19 x0) sz)) (Qc := (fun sz => gQv D (wM cB cI cJ cZ x_0 x_1 x_2 x_3 x_4 x_5 x_6 x_7 x_8 x_9 x_10 x_11 x_12 x_13 x_14 x_15 x_16 x_17 x_18 x_19 x0) sz (wM cB cI cJ cZ x_0 x_1 x_2 x_3 x_4 x_5 x_6 x_7 x_8 x_9 x_10 x_11 x_12 x_13 x_14 x_15 x_16 x_17 x_18 x_19 res))) (fun sz => va_A (wM cB cI cJ cZ x_0 x_1 x_2 x_3 x_4 x_5 x_6 x_7 x_8 x_9 x_10 x_11 x_12 x_13 x_14 x_15 x_16 x_17 x_18 x_19 x0) sz) (fun sz => Or.inr rfl) rfl (by decide) rfl (Nat.le_of_ble_eq_true rfl) rfl ?_
  intro p e s m args below meth c C
  unfold FX8_sweeps at hF
  refine g_iconst (v := 0) C (tdec DX8_sweeps 0 rfl) (by decide) rfl ?_
  refine g_istore_n (L' := [(2, .int 0), (0, .ref x_0), (1, .int p1)]) C (tdec DX8_sweeps 1 rfl) rfl (by decide) rfl rfl ?_
  refine g_sub (L' := [(0, .ref x_0), (1, .int p1), (2, .int 0)]) [1, 2, 0] rfl ?_
  refine c_FX8_sweeps_L2 C (fun xq6 w2_6 hF => ?_) 100000 _ _ hF
  refine g_iconst (v := 0) C (tdec DX8_sweeps 15 rfl) (by decide) rfl ?_
  refine g_istore_n (L' := [(2, .int 0), (0, .ref x_0), (1, .int p1)]) C (tdec DX8_sweeps 16 rfl) rfl (by decide) rfl rfl ?_
  refine g_sub (L' := [(0, .ref x_0), (1, .int p1), (2, .int 0)]) [1, 2, 0] rfl ?_
  refine c_FX8_sweeps_L27 C (fun xq18 w2_18 hF => ?_) 100000 _ _ hF
  refine g_iconst (v := 3) C (tdec DX8_sweeps 49 rfl) (by decide) rfl ?_
  refine g_istore_n (L' := [(2, .int 3), (0, .ref x_0), (1, .int p1)]) C (tdec DX8_sweeps 50 rfl) rfl (by decide) rfl rfl ?_
  refine g_sub (L' := [(0, .ref x_0), (1, .int p1), (2, .int 3)]) [1, 2, 0] rfl ?_
  refine c_FX8_sweeps_L82 C (fun xq39 w2_39 hF => ?_) 100000 _ _ hF
  refine g_iconst (v := 0) C (tdec DX8_sweeps 118 rfl) (by decide) rfl ?_
  refine g_istore_n (L' := [(2, .int 0), (0, .ref x_0), (1, .int p1)]) C (tdec DX8_sweeps 119 rfl) rfl (by decide) rfl rfl ?_
  refine g_sub (L' := [(0, .ref x_0), (1, .int p1), (2, .int 0)]) [1, 2, 0] rfl ?_
  refine c_FX8_sweeps_L202 C (fun xq48 w2_48 hF => ?_) 100000 _ _ hF
  have hr9 := o_some hF
  subst hr9
  exact g_vret C rfl (tdec DX8_sweeps 142 rfl)
def FX8_begins_L2 (v1 : Int32) (k9 : MS → Int32 → Option (MS)) : Nat → MS → Int32 → Option (MS)
  | 0, _, _ => none
  | n9 + 1, x, v2 =>
    (ald 2 (MS_many x) v1).bind fun r1 =>
    if r1 ≤ v2 then
      k9 x v2
    else
      (ald 1200 (MS_lev x) ((600 * v1) + v2)).bind fun r4 =>
      if r4 = (-1) then
        (ast 1200 (MS_free x) ((600 * v1) + v2) (vp_nar .boolean 1)).bind fun g9 =>
        FX8_begins_L2 v1 k9 n9 (MS_setfree x g9) (v2 + 1)
      else
        (ast 1200 (MS_free x) ((600 * v1) + v2) (vp_nar .boolean 0)).bind fun g7 =>
        FX8_begins_L2 v1 k9 n9 (MS_setfree x g7) (v2 + 1)
def FX8_begins (x0 : MS) (p1 : Int32) : Option (MS) :=
  FX8_begins_L2 p1 (fun xq11 w2_11 =>
    some xq11) 100000 x0 0
def rX8_begins : Room := { frames := 0, cells := 0, slots := 0, locals := 0 }
set_option maxHeartbeats 4000000 in
set_option maxRecDepth 100000 in
theorem c_FX8_begins_L2 {p : Program} {l : Launch} {e : Env} {s : State} {m : MethodId} {args : Array Value} {below : List Frame} {meth : Method} {c : Code} {D : va_G} {cB cI cJ cZ : ClassId} {x_0 x_1 x_2 x_3 x_4 x_5 x_6 x_7 x_8 x_9 x_10 x_11 x_12 x_13 x_14 x_15 x_16 x_17 x_18 x_19 : Nat} {x0 : MS} {res : MS} (C : gC p s m args meth c cX8_begins 3 RX8 wsX8_begins D (gT cB cI cJ cZ) none (va_A (wM cB cI cJ cZ x_0 x_1 x_2 x_3 x_4 x_5 x_6 x_7 x_8 x_9 x_10 x_11 x_12 x_13 x_14 x_15 x_16 x_17 x_18 x_19 x0) s.heap.size)) {v1 : Int32} {k9 : MS → Int32 → Option (MS)} (hk9 : ∀ (x : MS) (v2 : Int32), k9 x v2 = some res → gG p l e (headSpec wsX8_begins rX8_begins).room s m args below meth c 0 0 D (va_A (wM cB cI cJ cZ x_0 x_1 x_2 x_3 x_4 x_5 x_6 x_7 x_8 x_9 x_10 x_11 x_12 x_13 x_14 x_15 x_16 x_17 x_18 x_19 x0) s.heap.size) (va_A (wM cB cI cJ cZ x_0 x_1 x_2 x_3 x_4 x_5 x_6 x_7 x_8 x_9 x_10 x_11 x_12 x_13 x_14 x_15 x_16 x_17 x_18 x_19 x0) s.heap.size) 3 (MQ below (gQv D (wM cB cI cJ cZ x_0 x_1 x_2 x_3 x_4 x_5 x_6 x_7 x_8 x_9 x_10 x_11 x_12 x_13 x_14 x_15 x_16 x_17 x_18 x_19 x0) s.heap.size (wM cB cI cJ cZ x_0 x_1 x_2 x_3 x_4 x_5 x_6 x_7 x_8 x_9 x_10 x_11 x_12 x_13 x_14 x_15 x_16 x_17 x_18 x_19 res)) args s 0 0 (va_A (wM cB cI cJ cZ x_0 x_1 x_2 x_3 x_4 x_5 x_6 x_7 x_8 x_9 x_10 x_11 x_12 x_13 x_14 x_15 x_16 x_17 x_18 x_19 x0) s.heap.size)) (wM cB cI cJ cZ x_0 x_1 x_2 x_3 x_4 x_5 x_6 x_7 x_8 x_9 x_10 x_11 x_12 x_13 x_14 x_15 x_16 x_17 x_18 x_19 x) 51 [(0, .ref x_0), (1, .int v1), (2, .int v2)] []) :
    ∀ (n9 : Nat) (x : MS) (v2 : Int32), FX8_begins_L2 v1 k9 n9 x v2 = some res → gG p l e (headSpec wsX8_begins rX8_begins).room s m args below meth c 0 0 D (va_A (wM cB cI cJ cZ x_0 x_1 x_2 x_3 x_4 x_5 x_6 x_7 x_8 x_9 x_10 x_11 x_12 x_13 x_14 x_15 x_16 x_17 x_18 x_19 x0) s.heap.size) (va_A (wM cB cI cJ cZ x_0 x_1 x_2 x_3 x_4 x_5 x_6 x_7 x_8 x_9 x_10 x_11 x_12 x_13 x_14 x_15 x_16 x_17 x_18 x_19 x0) s.heap.size) 3 (MQ below (gQv D (wM cB cI cJ cZ x_0 x_1 x_2 x_3 x_4 x_5 x_6 x_7 x_8 x_9 x_10 x_11 x_12 x_13 x_14 x_15 x_16 x_17 x_18 x_19 x0) s.heap.size (wM cB cI cJ cZ x_0 x_1 x_2 x_3 x_4 x_5 x_6 x_7 x_8 x_9 x_10 x_11 x_12 x_13 x_14 x_15 x_16 x_17 x_18 x_19 res)) args s 0 0 (va_A (wM cB cI cJ cZ x_0 x_1 x_2 x_3 x_4 x_5 x_6 x_7 x_8 x_9 x_10 x_11 x_12 x_13 x_14 x_15 x_16 x_17 x_18 x_19 x0) s.heap.size)) (wM cB cI cJ cZ x_0 x_1 x_2 x_3 x_4 x_5 x_6 x_7 x_8 x_9 x_10 x_11 x_12 x_13 x_14 x_15 x_16 x_17 x_18 x_19 x) 2 [(0, .ref x_0), (1, .int v1), (2, .int v2)] [] := by
  intro n9
  induction n9 with
  | zero =>
    intro x v2 hF
    exact absurd hF (by simp [FX8_begins_L2])
  | succ n9 ih9 =>
    intro x v2 hF
    rw [FX8_begins_L2] at hF
    refine g_iload_n (z := 2) C (tdec DX8_begins 2 rfl) rfl rfl rfl ?_
    refine g_aload_n (z := 0) C (tdec DX8_begins 3 rfl) rfl rfl rfl ?_
    refine g_getf (C' := RX8) (T := TX8) (N := 27) (v := .ref x_1) C 0 1 (gIn iw_X8) rfl rfl (by decide) (gMem fl_X8_9) rfl rfl (tdec DX8_begins 4 rfl) rfl ?_
    refine g_iload_n (z := 1) C (tdec DX8_begins 5 rfl) rfl rfl rfl ?_
    obtain ⟨r1, y2, hF⟩ := o_bind hF
    refine g_iald C 1 1 rfl rfl y2 (tdec DX8_begins 6 rfl) rfl ?_
    refine g_icmp_ge (pt := 51) C (tdec DX8_begins 7 rfl) (by decide) rfl (fun h3 => ?_) (fun h3 => ?_)
    · have hF := o_ifp hF h3
      refine g_sub (L' := [(0, .ref x_0), (1, .int v1), (2, .int v2)]) [0, 1, 2] rfl ?_
      exact hk9 _ _ hF
    · have hF := o_ifn hF h3
      refine g_aload_n (z := 0) C (tdec DX8_begins 8 rfl) rfl rfl rfl ?_
      refine g_getf (C' := RX8) (T := TX8) (N := 27) (v := .ref x_6) C 0 6 (gIn iw_X8) rfl rfl (by decide) (gMem fl_X8_26) rfl rfl (tdec DX8_begins 9 rfl) rfl ?_
      refine g_sipush (v := 600) C (tdec DX8_begins 10 rfl) (by decide) rfl ?_
      refine g_iload_n (z := 1) C (tdec DX8_begins 11 rfl) rfl rfl rfl ?_
      refine g_imul C (tdec DX8_begins 12 rfl) rfl ?_
      refine g_iload_n (z := 2) C (tdec DX8_begins 13 rfl) rfl rfl rfl ?_
      refine g_iadd C (tdec DX8_begins 14 rfl) rfl ?_
      refine g_aload_n (z := 0) C (tdec DX8_begins 15 rfl) rfl rfl rfl ?_
      refine g_getf (C' := RX8) (T := TX8) (N := 27) (v := .ref x_2) C 0 2 (gIn iw_X8) rfl rfl (by decide) (gMem fl_X8_13) rfl rfl (tdec DX8_begins 16 rfl) rfl ?_
      refine g_sipush (v := 600) C (tdec DX8_begins 17 rfl) (by decide) rfl ?_
      refine g_iload_n (z := 1) C (tdec DX8_begins 18 rfl) rfl rfl rfl ?_
      refine g_imul C (tdec DX8_begins 19 rfl) rfl ?_
      refine g_iload_n (z := 2) C (tdec DX8_begins 20 rfl) rfl rfl rfl ?_
      refine g_iadd C (tdec DX8_begins 21 rfl) rfl ?_
      obtain ⟨r4, y5, hF⟩ := o_bind hF
      refine g_iald C 2 1 rfl rfl y5 (tdec DX8_begins 22 rfl) rfl ?_
      refine g_iconst (v := (-1)) C (tdec DX8_begins 23 rfl) (by decide) rfl ?_
      refine g_icmp_ne (pt := 43) C (tdec DX8_begins 24 rfl) (by decide) rfl (fun h6 => ?_) (fun h6 => ?_)
      · have hF := o_ifn hF h6
        refine g_iconst (v := 0) C (tdec DX8_begins 27 rfl) (by decide) rfl ?_
        obtain ⟨g7, y8, hF⟩ := o_bind hF
        refine g_zast (ws' := wM cB cI cJ cZ x_0 x_1 x_2 x_3 x_4 x_5 x_6 x_7 x_8 x_9 x_10 x_11 x_12 x_13 x_14 x_15 x_16 x_17 x_18 x_19 (MS_setfree x g7)) C 6 3 rfl rfl y8 rfl (tdec DX8_begins 28 rfl) rfl ?_
        refine g_iinc (z := 2) (v := (v2 + 1)) (L' := [(2, .int (v2 + 1)), (0, .ref x_0), (1, .int v1)]) C (tdec DX8_begins 29 rfl) rfl rfl (by decide) rfl rfl ?_
        refine g_goto (pt := 2) C (tdec DX8_begins 30 rfl) (by decide) ?_
        refine g_sub (L' := [(0, .ref x_0), (1, .int v1), (2, .int (v2 + 1))]) [1, 2, 0] rfl ?_
        exact ih9 _ _ hF
      · have hF := o_ifp hF h6
        refine g_iconst (v := 1) C (tdec DX8_begins 25 rfl) (by decide) rfl ?_
        refine g_goto (pt := 44) C (tdec DX8_begins 26 rfl) (by decide) ?_
        obtain ⟨g9, y10, hF⟩ := o_bind hF
        refine g_zast (ws' := wM cB cI cJ cZ x_0 x_1 x_2 x_3 x_4 x_5 x_6 x_7 x_8 x_9 x_10 x_11 x_12 x_13 x_14 x_15 x_16 x_17 x_18 x_19 (MS_setfree x g9)) C 6 3 rfl rfl y10 rfl (tdec DX8_begins 28 rfl) rfl ?_
        refine g_iinc (z := 2) (v := (v2 + 1)) (L' := [(2, .int (v2 + 1)), (0, .ref x_0), (1, .int v1)]) C (tdec DX8_begins 29 rfl) rfl rfl (by decide) rfl rfl ?_
        refine g_goto (pt := 2) C (tdec DX8_begins 30 rfl) (by decide) ?_
        refine g_sub (L' := [(0, .ref x_0), (1, .int v1), (2, .int (v2 + 1))]) [1, 2, 0] rfl ?_
        exact ih9 _ _ hF
set_option maxHeartbeats 4000000 in
set_option maxRecDepth 100000 in
theorem c_X8_begins (l : Launch) (D : va_G) (cB cI cJ cZ : ClassId) (x_0 x_1 x_2 x_3 x_4 x_5 x_6 x_7 x_8 x_9 x_10 x_11 x_12 x_13 x_14 x_15 x_16 x_17 x_18 x_19 : Nat) {x0 : MS} {p1 : Int32} {res : MS} (hF : FX8_begins x0 p1 = some res) : gMv l yX8_begins wsX8_begins rX8_begins D (gT cB cI cJ cZ) [.ref x_0, .int p1] (wM cB cI cJ cZ x_0 x_1 x_2 x_3 x_4 x_5 x_6 x_7 x_8 x_9 x_10 x_11 x_12 x_13 x_14 x_15 x_16 x_17 x_18 x_19 x0) (wM cB cI cJ cZ x_0 x_1 x_2 x_3 x_4 x_5 x_6 x_7 x_8 x_9 x_10 x_11 x_12 x_13 x_14 x_15 x_16 x_17 x_18 x_19 res) := by
  refine g_enter (own := RX8) (free := (fun sz => va_A (wM cB cI cJ cZ x_0 x_1 x_2 x_3 x_4 x_5 x_6 x_7 x_8 x_9 x_10 x_11 x_12 x_13 x_14 x_15 x_16 x_17 x_18 x_19 x0) sz)) (Qc := (fun sz => gQv D (wM cB cI cJ cZ x_0 x_1 x_2 x_3 x_4 x_5 x_6 x_7 x_8 x_9 x_10 x_11 x_12 x_13 x_14 x_15 x_16 x_17 x_18 x_19 x0) sz (wM cB cI cJ cZ x_0 x_1 x_2 x_3 x_4 x_5 x_6 x_7 x_8 x_9 x_10 x_11 x_12 x_13 x_14 x_15 x_16 x_17 x_18 x_19 res))) (fun sz => va_A (wM cB cI cJ cZ x_0 x_1 x_2 x_3 x_4 x_5 x_6 x_7 x_8 x_9 x_10 x_11 x_12 x_13 x_14 x_15 x_16 x_17 x_18 x_19 x0) sz) (fun sz => Or.inr rfl) rfl (by decide) rfl (Nat.le_of_ble_eq_true rfl) rfl ?_
  intro p e s m args below meth c C
  unfold FX8_begins at hF
  refine g_iconst (v := 0) C (tdec DX8_begins 0 rfl) (by decide) rfl ?_
  refine g_istore_n (L' := [(2, .int 0), (0, .ref x_0), (1, .int p1)]) C (tdec DX8_begins 1 rfl) rfl (by decide) rfl rfl ?_
  refine g_sub (L' := [(0, .ref x_0), (1, .int p1), (2, .int 0)]) [1, 2, 0] rfl ?_
  refine c_FX8_begins_L2 C (fun xq11 w2_11 hF => ?_) 100000 _ _ hF
  have hr9 := o_some hF
  subst hr9
  exact g_vret C rfl (tdec DX8_begins 31 rfl)
def FX8_freeMany_L4 (x0 : MS) (v1 : Int32) (k9 : Int32 → Int32 → Option (Int32)) : Nat → Int32 → Int32 → Option (Int32)
  | 0, _, _ => none
  | n9 + 1, v2, v3 =>
    (ald 2 (MS_many x0) v1).bind fun r1 =>
    if r1 ≤ v3 then
      k9 v2 v3
    else
      (ald 1200 (MS_free x0) ((600 * v1) + v3)).bind fun r4 =>
      if r4 = 0 then
        FX8_freeMany_L4 x0 v1 k9 n9 (v2 + 0) (v3 + 1)
      else
        FX8_freeMany_L4 x0 v1 k9 n9 (v2 + 1) (v3 + 1)
def FX8_freeMany (x0 : MS) (p1 : Int32) : Option (Int32) :=
  FX8_freeMany_L4 x0 p1 (fun w2_7 w3_7 =>
    some w2_7) 100000 0 0
def rX8_freeMany : Room := { frames := 0, cells := 0, slots := 0, locals := 0 }
set_option maxHeartbeats 4000000 in
set_option maxRecDepth 100000 in
theorem c_FX8_freeMany_L4 {p : Program} {l : Launch} {e : Env} {s : State} {m : MethodId} {args : Array Value} {below : List Frame} {meth : Method} {c : Code} {D : va_G} {cB cI cJ cZ : ClassId} {x_0 x_1 x_2 x_3 x_4 x_5 x_6 x_7 x_8 x_9 x_10 x_11 x_12 x_13 x_14 x_15 x_16 x_17 x_18 x_19 : Nat} {x0 : MS} {res : Int32} (C : gC p s m args meth c cX8_freeMany 4 RX8 wsX8_freeMany D (gT cB cI cJ cZ) (some .int) (fun _ => False)) {v1 : Int32} {k9 : Int32 → Int32 → Option (Int32)} (hk9 : ∀ (v2 : Int32) (v3 : Int32), k9 v2 v3 = some res → gG p l e (headSpec wsX8_freeMany rX8_freeMany).room s m args below meth c 0 0 D (fun _ => True) (fun _ => False) 4 (MQ below (gRQi res) args s 0 0 (fun _ => False)) (wM cB cI cJ cZ x_0 x_1 x_2 x_3 x_4 x_5 x_6 x_7 x_8 x_9 x_10 x_11 x_12 x_13 x_14 x_15 x_16 x_17 x_18 x_19 x0) 43 [(0, .ref x_0), (1, .int v1), (2, .int v2), (3, .int v3)] []) :
    ∀ (n9 : Nat) (v2 : Int32) (v3 : Int32), FX8_freeMany_L4 x0 v1 k9 n9 v2 v3 = some res → gG p l e (headSpec wsX8_freeMany rX8_freeMany).room s m args below meth c 0 0 D (fun _ => True) (fun _ => False) 4 (MQ below (gRQi res) args s 0 0 (fun _ => False)) (wM cB cI cJ cZ x_0 x_1 x_2 x_3 x_4 x_5 x_6 x_7 x_8 x_9 x_10 x_11 x_12 x_13 x_14 x_15 x_16 x_17 x_18 x_19 x0) 4 [(0, .ref x_0), (1, .int v1), (2, .int v2), (3, .int v3)] [] := by
  intro n9
  induction n9 with
  | zero =>
    intro v2 v3 hF
    exact absurd hF (by simp [FX8_freeMany_L4])
  | succ n9 ih9 =>
    intro v2 v3 hF
    rw [FX8_freeMany_L4] at hF
    refine g_iload_n (z := 3) C (tdec DX8_freeMany 4 rfl) rfl rfl rfl ?_
    refine g_aload_n (z := 0) C (tdec DX8_freeMany 5 rfl) rfl rfl rfl ?_
    refine g_getf (C' := RX8) (T := TX8) (N := 27) (v := .ref x_1) C 0 1 (gIn iw_X8) rfl rfl (by decide) (gMem fl_X8_9) rfl rfl (tdec DX8_freeMany 6 rfl) rfl ?_
    refine g_iload_n (z := 1) C (tdec DX8_freeMany 7 rfl) rfl rfl rfl ?_
    obtain ⟨r1, y2, hF⟩ := o_bind hF
    refine g_iald C 1 1 rfl rfl y2 (tdec DX8_freeMany 8 rfl) rfl ?_
    refine g_icmp_ge (pt := 43) C (tdec DX8_freeMany 9 rfl) (by decide) rfl (fun h3 => ?_) (fun h3 => ?_)
    · have hF := o_ifp hF h3
      refine g_sub (L' := [(0, .ref x_0), (1, .int v1), (2, .int v2), (3, .int v3)]) [0, 1, 2, 3] rfl ?_
      exact hk9 _ _ hF
    · have hF := o_ifn hF h3
      refine g_iload_n (z := 2) C (tdec DX8_freeMany 10 rfl) rfl rfl rfl ?_
      refine g_aload_n (z := 0) C (tdec DX8_freeMany 11 rfl) rfl rfl rfl ?_
      refine g_getf (C' := RX8) (T := TX8) (N := 27) (v := .ref x_6) C 0 6 (gIn iw_X8) rfl rfl (by decide) (gMem fl_X8_26) rfl rfl (tdec DX8_freeMany 12 rfl) rfl ?_
      refine g_sipush (v := 600) C (tdec DX8_freeMany 13 rfl) (by decide) rfl ?_
      refine g_iload_n (z := 1) C (tdec DX8_freeMany 14 rfl) rfl rfl rfl ?_
      refine g_imul C (tdec DX8_freeMany 15 rfl) rfl ?_
      refine g_iload_n (z := 3) C (tdec DX8_freeMany 16 rfl) rfl rfl rfl ?_
      refine g_iadd C (tdec DX8_freeMany 17 rfl) rfl ?_
      obtain ⟨r4, y5, hF⟩ := o_bind hF
      refine g_zald C 6 3 rfl rfl y5 (tdec DX8_freeMany 18 rfl) rfl ?_
      refine g_if_eq (pt := 34) C (tdec DX8_freeMany 19 rfl) (by decide) rfl (fun h6 => ?_) (fun h6 => ?_)
      · have hF := o_ifp hF h6
        refine g_iconst (v := 0) C (tdec DX8_freeMany 22 rfl) (by decide) rfl ?_
        refine g_iadd C (tdec DX8_freeMany 23 rfl) rfl ?_
        refine g_istore_n (L' := [(2, .int (v2 + 0)), (0, .ref x_0), (1, .int v1), (3, .int v3)]) C (tdec DX8_freeMany 24 rfl) rfl (by decide) rfl rfl ?_
        refine g_iinc (z := 3) (v := (v3 + 1)) (L' := [(3, .int (v3 + 1)), (2, .int (v2 + 0)), (0, .ref x_0), (1, .int v1)]) C (tdec DX8_freeMany 25 rfl) rfl rfl (by decide) rfl rfl ?_
        refine g_goto (pt := 4) C (tdec DX8_freeMany 26 rfl) (by decide) ?_
        refine g_sub (L' := [(0, .ref x_0), (1, .int v1), (2, .int (v2 + 0)), (3, .int (v3 + 1))]) [2, 3, 1, 0] rfl ?_
        exact ih9 _ _ hF
      · have hF := o_ifn hF h6
        refine g_iconst (v := 1) C (tdec DX8_freeMany 20 rfl) (by decide) rfl ?_
        refine g_goto (pt := 35) C (tdec DX8_freeMany 21 rfl) (by decide) ?_
        refine g_iadd C (tdec DX8_freeMany 23 rfl) rfl ?_
        refine g_istore_n (L' := [(2, .int (v2 + 1)), (0, .ref x_0), (1, .int v1), (3, .int v3)]) C (tdec DX8_freeMany 24 rfl) rfl (by decide) rfl rfl ?_
        refine g_iinc (z := 3) (v := (v3 + 1)) (L' := [(3, .int (v3 + 1)), (2, .int (v2 + 1)), (0, .ref x_0), (1, .int v1)]) C (tdec DX8_freeMany 25 rfl) rfl rfl (by decide) rfl rfl ?_
        refine g_goto (pt := 4) C (tdec DX8_freeMany 26 rfl) (by decide) ?_
        refine g_sub (L' := [(0, .ref x_0), (1, .int v1), (2, .int (v2 + 1)), (3, .int (v3 + 1))]) [2, 3, 1, 0] rfl ?_
        exact ih9 _ _ hF
set_option maxHeartbeats 4000000 in
set_option maxRecDepth 100000 in
theorem c_X8_freeMany (l : Launch) (D : va_G) (cB cI cJ cZ : ClassId) (x_0 x_1 x_2 x_3 x_4 x_5 x_6 x_7 x_8 x_9 x_10 x_11 x_12 x_13 x_14 x_15 x_16 x_17 x_18 x_19 : Nat) {x0 : MS} {p1 : Int32} {res : Int32} (hF : FX8_freeMany x0 p1 = some res) : gRi l yX8_freeMany wsX8_freeMany rX8_freeMany D (gT cB cI cJ cZ) [.ref x_0, .int p1] (wM cB cI cJ cZ x_0 x_1 x_2 x_3 x_4 x_5 x_6 x_7 x_8 x_9 x_10 x_11 x_12 x_13 x_14 x_15 x_16 x_17 x_18 x_19 x0) res := by
  refine g_enter (own := RX8) (free := (fun _ _ => False)) (Qc := (fun sz => gRQi res)) (fun _ _ => True) (fun sz => Or.inl rfl) rfl (by decide) rfl (Nat.le_of_ble_eq_true rfl) rfl ?_
  intro p e s m args below meth c C
  unfold FX8_freeMany at hF
  refine g_iconst (v := 0) C (tdec DX8_freeMany 0 rfl) (by decide) rfl ?_
  refine g_istore_n (L' := [(2, .int 0), (0, .ref x_0), (1, .int p1)]) C (tdec DX8_freeMany 1 rfl) rfl (by decide) rfl rfl ?_
  refine g_iconst (v := 0) C (tdec DX8_freeMany 2 rfl) (by decide) rfl ?_
  refine g_istore_n (L' := [(3, .int 0), (2, .int 0), (0, .ref x_0), (1, .int p1)]) C (tdec DX8_freeMany 3 rfl) rfl (by decide) rfl rfl ?_
  refine g_sub (L' := [(0, .ref x_0), (1, .int p1), (2, .int 0), (3, .int 0)]) [2, 3, 1, 0] rfl ?_
  refine c_FX8_freeMany_L4 C (fun w2_7 w3_7 hF => ?_) 100000 _ _ hF
  refine g_iload_n (z := 2) C (tdec DX8_freeMany 27 rfl) rfl rfl rfl ?_
  have hr9 := o_some hF
  subst hr9
  exact g_iretR C rfl (tdec DX8_freeMany 28 rfl)
def FX8_take_L2 (v1 : Int32) (v2 : Int32) (k9 : MS → Int32 → Option (Int32 × MS)) : Nat → MS → Int32 → Option (Int32 × MS)
  | 0, _, _ => none
  | n9 + 1, x, v3 =>
    (ald 1200 (MS_free x) ((600 * v1) + v3)).bind fun r1 =>
    if r1 = 0 then
      FX8_take_L2 v1 v2 k9 n9 x (v3 + 1)
    else
      k9 x v3
def FX8_take (x0 : MS) (p1 : Int32) (p2 : Int32) : Option (Int32 × MS) :=
  FX8_take_L2 p1 p2 (fun xq4 w3_4 =>
    (ast 1200 (MS_free xq4) ((600 * p1) + w3_4) (vp_nar .boolean 0)).bind fun g5 =>
    (ast 1200 (MS_lev xq4) ((600 * p1) + w3_4) p2).bind fun g7 =>
    some (w3_4, (MS_setlev (MS_setfree xq4 g5) g7))) 100000 x0 0
def rX8_take : Room := { frames := 0, cells := 0, slots := 0, locals := 0 }
set_option maxHeartbeats 4000000 in
set_option maxRecDepth 100000 in
theorem c_FX8_take_L2 {p : Program} {l : Launch} {e : Env} {s : State} {m : MethodId} {args : Array Value} {below : List Frame} {meth : Method} {c : Code} {D : va_G} {cB cI cJ cZ : ClassId} {x_0 x_1 x_2 x_3 x_4 x_5 x_6 x_7 x_8 x_9 x_10 x_11 x_12 x_13 x_14 x_15 x_16 x_17 x_18 x_19 : Nat} {x0 : MS} {res : Int32 × MS} (C : gC p s m args meth c cX8_take 4 RX8 wsX8_take D (gT cB cI cJ cZ) (some .int) (va_A (wM cB cI cJ cZ x_0 x_1 x_2 x_3 x_4 x_5 x_6 x_7 x_8 x_9 x_10 x_11 x_12 x_13 x_14 x_15 x_16 x_17 x_18 x_19 x0) s.heap.size)) {v1 : Int32} {v2 : Int32} {k9 : MS → Int32 → Option (Int32 × MS)} (hk9 : ∀ (x : MS) (v3 : Int32), k9 x v3 = some res → gG p l e (headSpec wsX8_take rX8_take).room s m args below meth c 0 0 D (va_A (wM cB cI cJ cZ x_0 x_1 x_2 x_3 x_4 x_5 x_6 x_7 x_8 x_9 x_10 x_11 x_12 x_13 x_14 x_15 x_16 x_17 x_18 x_19 x0) s.heap.size) (va_A (wM cB cI cJ cZ x_0 x_1 x_2 x_3 x_4 x_5 x_6 x_7 x_8 x_9 x_10 x_11 x_12 x_13 x_14 x_15 x_16 x_17 x_18 x_19 x0) s.heap.size) 4 (MQ below (gQi D (wM cB cI cJ cZ x_0 x_1 x_2 x_3 x_4 x_5 x_6 x_7 x_8 x_9 x_10 x_11 x_12 x_13 x_14 x_15 x_16 x_17 x_18 x_19 x0) s.heap.size res.1 (wM cB cI cJ cZ x_0 x_1 x_2 x_3 x_4 x_5 x_6 x_7 x_8 x_9 x_10 x_11 x_12 x_13 x_14 x_15 x_16 x_17 x_18 x_19 res.2)) args s 0 0 (va_A (wM cB cI cJ cZ x_0 x_1 x_2 x_3 x_4 x_5 x_6 x_7 x_8 x_9 x_10 x_11 x_12 x_13 x_14 x_15 x_16 x_17 x_18 x_19 x0) s.heap.size)) (wM cB cI cJ cZ x_0 x_1 x_2 x_3 x_4 x_5 x_6 x_7 x_8 x_9 x_10 x_11 x_12 x_13 x_14 x_15 x_16 x_17 x_18 x_19 x) 23 [(0, .ref x_0), (1, .int v1), (2, .int v2), (3, .int v3)] []) :
    ∀ (n9 : Nat) (x : MS) (v3 : Int32), FX8_take_L2 v1 v2 k9 n9 x v3 = some res → gG p l e (headSpec wsX8_take rX8_take).room s m args below meth c 0 0 D (va_A (wM cB cI cJ cZ x_0 x_1 x_2 x_3 x_4 x_5 x_6 x_7 x_8 x_9 x_10 x_11 x_12 x_13 x_14 x_15 x_16 x_17 x_18 x_19 x0) s.heap.size) (va_A (wM cB cI cJ cZ x_0 x_1 x_2 x_3 x_4 x_5 x_6 x_7 x_8 x_9 x_10 x_11 x_12 x_13 x_14 x_15 x_16 x_17 x_18 x_19 x0) s.heap.size) 4 (MQ below (gQi D (wM cB cI cJ cZ x_0 x_1 x_2 x_3 x_4 x_5 x_6 x_7 x_8 x_9 x_10 x_11 x_12 x_13 x_14 x_15 x_16 x_17 x_18 x_19 x0) s.heap.size res.1 (wM cB cI cJ cZ x_0 x_1 x_2 x_3 x_4 x_5 x_6 x_7 x_8 x_9 x_10 x_11 x_12 x_13 x_14 x_15 x_16 x_17 x_18 x_19 res.2)) args s 0 0 (va_A (wM cB cI cJ cZ x_0 x_1 x_2 x_3 x_4 x_5 x_6 x_7 x_8 x_9 x_10 x_11 x_12 x_13 x_14 x_15 x_16 x_17 x_18 x_19 x0) s.heap.size)) (wM cB cI cJ cZ x_0 x_1 x_2 x_3 x_4 x_5 x_6 x_7 x_8 x_9 x_10 x_11 x_12 x_13 x_14 x_15 x_16 x_17 x_18 x_19 x) 2 [(0, .ref x_0), (1, .int v1), (2, .int v2), (3, .int v3)] [] := by
  intro n9
  induction n9 with
  | zero =>
    intro x v3 hF
    exact absurd hF (by simp [FX8_take_L2])
  | succ n9 ih9 =>
    intro x v3 hF
    rw [FX8_take_L2] at hF
    refine g_aload_n (z := 0) C (tdec DX8_take 2 rfl) rfl rfl rfl ?_
    refine g_getf (C' := RX8) (T := TX8) (N := 27) (v := .ref x_6) C 0 6 (gIn iw_X8) rfl rfl (by decide) (gMem fl_X8_26) rfl rfl (tdec DX8_take 3 rfl) rfl ?_
    refine g_sipush (v := 600) C (tdec DX8_take 4 rfl) (by decide) rfl ?_
    refine g_iload_n (z := 1) C (tdec DX8_take 5 rfl) rfl rfl rfl ?_
    refine g_imul C (tdec DX8_take 6 rfl) rfl ?_
    refine g_iload_n (z := 3) C (tdec DX8_take 7 rfl) rfl rfl rfl ?_
    refine g_iadd C (tdec DX8_take 8 rfl) rfl ?_
    obtain ⟨r1, y2, hF⟩ := o_bind hF
    refine g_zald C 6 3 rfl rfl y2 (tdec DX8_take 9 rfl) rfl ?_
    refine g_if_ne (pt := 23) C (tdec DX8_take 10 rfl) (by decide) rfl (fun h3 => ?_) (fun h3 => ?_)
    · have hF := o_ifn hF h3
      refine g_sub (L' := [(0, .ref x_0), (1, .int v1), (2, .int v2), (3, .int v3)]) [0, 1, 2, 3] rfl ?_
      exact hk9 _ _ hF
    · have hF := o_ifp hF h3
      refine g_iinc (z := 3) (v := (v3 + 1)) (L' := [(3, .int (v3 + 1)), (0, .ref x_0), (1, .int v1), (2, .int v2)]) C (tdec DX8_take 11 rfl) rfl rfl (by decide) rfl rfl ?_
      refine g_goto (pt := 2) C (tdec DX8_take 12 rfl) (by decide) ?_
      refine g_sub (L' := [(0, .ref x_0), (1, .int v1), (2, .int v2), (3, .int (v3 + 1))]) [1, 2, 3, 0] rfl ?_
      exact ih9 _ _ hF
set_option maxHeartbeats 4000000 in
set_option maxRecDepth 100000 in
theorem c_X8_take (l : Launch) (D : va_G) (cB cI cJ cZ : ClassId) (x_0 x_1 x_2 x_3 x_4 x_5 x_6 x_7 x_8 x_9 x_10 x_11 x_12 x_13 x_14 x_15 x_16 x_17 x_18 x_19 : Nat) {x0 : MS} {p1 : Int32} {p2 : Int32} {res : Int32 × MS} (hF : FX8_take x0 p1 p2 = some res) : gMi l yX8_take wsX8_take rX8_take D (gT cB cI cJ cZ) [.ref x_0, .int p1, .int p2] (wM cB cI cJ cZ x_0 x_1 x_2 x_3 x_4 x_5 x_6 x_7 x_8 x_9 x_10 x_11 x_12 x_13 x_14 x_15 x_16 x_17 x_18 x_19 x0) res.1 (wM cB cI cJ cZ x_0 x_1 x_2 x_3 x_4 x_5 x_6 x_7 x_8 x_9 x_10 x_11 x_12 x_13 x_14 x_15 x_16 x_17 x_18 x_19 res.2) := by
  refine g_enter (own := RX8) (free := (fun sz => va_A (wM cB cI cJ cZ x_0 x_1 x_2 x_3 x_4 x_5 x_6 x_7 x_8 x_9 x_10 x_11 x_12 x_13 x_14 x_15 x_16 x_17 x_18 x_19 x0) sz)) (Qc := (fun sz => gQi D (wM cB cI cJ cZ x_0 x_1 x_2 x_3 x_4 x_5 x_6 x_7 x_8 x_9 x_10 x_11 x_12 x_13 x_14 x_15 x_16 x_17 x_18 x_19 x0) sz res.1 (wM cB cI cJ cZ x_0 x_1 x_2 x_3 x_4 x_5 x_6 x_7 x_8 x_9 x_10 x_11 x_12 x_13 x_14 x_15 x_16 x_17 x_18 x_19 res.2))) (fun sz => va_A (wM cB cI cJ cZ x_0 x_1 x_2 x_3 x_4 x_5 x_6 x_7 x_8 x_9 x_10 x_11 x_12 x_13 x_14 x_15 x_16 x_17 x_18 x_19 x0) sz) (fun sz => Or.inr rfl) rfl (by decide) rfl (Nat.le_of_ble_eq_true rfl) rfl ?_
  intro p e s m args below meth c C
  unfold FX8_take at hF
  refine g_iconst (v := 0) C (tdec DX8_take 0 rfl) (by decide) rfl ?_
  refine g_istore_n (L' := [(3, .int 0), (0, .ref x_0), (1, .int p1), (2, .int p2)]) C (tdec DX8_take 1 rfl) rfl (by decide) rfl rfl ?_
  refine g_sub (L' := [(0, .ref x_0), (1, .int p1), (2, .int p2), (3, .int 0)]) [1, 2, 3, 0] rfl ?_
  refine c_FX8_take_L2 C (fun xq4 w3_4 hF => ?_) 100000 _ _ hF
  refine g_aload_n (z := 0) C (tdec DX8_take 13 rfl) rfl rfl rfl ?_
  refine g_getf (C' := RX8) (T := TX8) (N := 27) (v := .ref x_6) C 0 6 (gIn iw_X8) rfl rfl (by decide) (gMem fl_X8_26) rfl rfl (tdec DX8_take 14 rfl) rfl ?_
  refine g_sipush (v := 600) C (tdec DX8_take 15 rfl) (by decide) rfl ?_
  refine g_iload_n (z := 1) C (tdec DX8_take 16 rfl) rfl rfl rfl ?_
  refine g_imul C (tdec DX8_take 17 rfl) rfl ?_
  refine g_iload_n (z := 3) C (tdec DX8_take 18 rfl) rfl rfl rfl ?_
  refine g_iadd C (tdec DX8_take 19 rfl) rfl ?_
  refine g_iconst (v := 0) C (tdec DX8_take 20 rfl) (by decide) rfl ?_
  obtain ⟨g5, y6, hF⟩ := o_bind hF
  refine g_zast (ws' := wM cB cI cJ cZ x_0 x_1 x_2 x_3 x_4 x_5 x_6 x_7 x_8 x_9 x_10 x_11 x_12 x_13 x_14 x_15 x_16 x_17 x_18 x_19 (MS_setfree xq4 g5)) C 6 3 rfl rfl y6 rfl (tdec DX8_take 21 rfl) rfl ?_
  refine g_aload_n (z := 0) C (tdec DX8_take 22 rfl) rfl rfl rfl ?_
  refine g_getf (C' := RX8) (T := TX8) (N := 27) (v := .ref x_2) C 0 2 (gIn iw_X8) rfl rfl (by decide) (gMem fl_X8_13) rfl rfl (tdec DX8_take 23 rfl) rfl ?_
  refine g_sipush (v := 600) C (tdec DX8_take 24 rfl) (by decide) rfl ?_
  refine g_iload_n (z := 1) C (tdec DX8_take 25 rfl) rfl rfl rfl ?_
  refine g_imul C (tdec DX8_take 26 rfl) rfl ?_
  refine g_iload_n (z := 3) C (tdec DX8_take 27 rfl) rfl rfl rfl ?_
  refine g_iadd C (tdec DX8_take 28 rfl) rfl ?_
  refine g_iload_n (z := 2) C (tdec DX8_take 29 rfl) rfl rfl rfl ?_
  obtain ⟨g7, y8, hF⟩ := o_bind hF
  refine g_iast (ws' := wM cB cI cJ cZ x_0 x_1 x_2 x_3 x_4 x_5 x_6 x_7 x_8 x_9 x_10 x_11 x_12 x_13 x_14 x_15 x_16 x_17 x_18 x_19 (MS_setlev (MS_setfree xq4 g5) g7)) C 2 1 rfl rfl y8 rfl (tdec DX8_take 30 rfl) rfl ?_
  refine g_iload_n (z := 3) C (tdec DX8_take 31 rfl) rfl rfl rfl ?_
  have hr9 := o_some hF
  subst hr9
  exact g_iret C rfl rfl (tdec DX8_take 32 rfl)
def FX8_ways_L12 (v1 : Int32) (v2 : Int32) (v3 : Int32) (k9 : MS → Int32 → Option (Int32 × MS)) : Nat → MS → Int32 → Option (Int32 × MS)
  | 0, _, _ => none
  | n9 + 1, x, v4 =>
    if 4 ≤ v4 then
      k9 x v4
    else
      (ald 4 (MS_way x) (v4 - 1)).bind fun r4 =>
      (FX8_told x v1 r4).bind fun r6 =>
      if r6 = (-1) then
        k9 x v4
      else
        (ald 4 (MS_way x) (v4 - 1)).bind fun r9 =>
        (FX8_told x v1 r9).bind fun r11 =>
        (FX8_turn v3 v4).bind fun r13 =>
        (ast 4 (MS_way x) v4 ((8 * r11) + r13)).bind fun g15 =>
        FX8_ways_L12 v1 v2 v3 k9 n9 (MS_setway x g15) (v4 + 1)
def FX8_ways (x0 : MS) (p1 : Int32) (p2 : Int32) (p3 : Int32) : Option (Int32 × MS) :=
  (ast 4 (MS_way x0) 0 ((-1) - p2)).bind fun g1 =>
  FX8_ways_L12 p1 p2 p3 (fun xq17 w4_17 =>
    some (w4_17, xq17)) 100000 (MS_setway x0 g1) 1
def rX8_ways : Room := { frames := 1, cells := 0, slots := 0, locals := 22 }
set_option maxHeartbeats 4000000 in
set_option maxRecDepth 100000 in
theorem c_FX8_ways_L12 {p : Program} {l : Launch} {e : Env} {s : State} {m : MethodId} {args : Array Value} {below : List Frame} {meth : Method} {c : Code} {D : va_G} {cB cI cJ cZ : ClassId} {x_0 x_1 x_2 x_3 x_4 x_5 x_6 x_7 x_8 x_9 x_10 x_11 x_12 x_13 x_14 x_15 x_16 x_17 x_18 x_19 : Nat} {x0 : MS} {res : Int32 × MS} (C : gC p s m args meth c cX8_ways 5 RX8 wsX8_ways D (gT cB cI cJ cZ) (some .int) (va_A (wM cB cI cJ cZ x_0 x_1 x_2 x_3 x_4 x_5 x_6 x_7 x_8 x_9 x_10 x_11 x_12 x_13 x_14 x_15 x_16 x_17 x_18 x_19 x0) s.heap.size)) {v1 : Int32} {v2 : Int32} {v3 : Int32} {k9 : MS → Int32 → Option (Int32 × MS)} (hk9 : ∀ (x : MS) (v4 : Int32), k9 x v4 = some res → gG p l e (headSpec wsX8_ways rX8_ways).room s m args below meth c 0 0 D (va_A (wM cB cI cJ cZ x_0 x_1 x_2 x_3 x_4 x_5 x_6 x_7 x_8 x_9 x_10 x_11 x_12 x_13 x_14 x_15 x_16 x_17 x_18 x_19 x0) s.heap.size) (va_A (wM cB cI cJ cZ x_0 x_1 x_2 x_3 x_4 x_5 x_6 x_7 x_8 x_9 x_10 x_11 x_12 x_13 x_14 x_15 x_16 x_17 x_18 x_19 x0) s.heap.size) 5 (MQ below (gQi D (wM cB cI cJ cZ x_0 x_1 x_2 x_3 x_4 x_5 x_6 x_7 x_8 x_9 x_10 x_11 x_12 x_13 x_14 x_15 x_16 x_17 x_18 x_19 x0) s.heap.size res.1 (wM cB cI cJ cZ x_0 x_1 x_2 x_3 x_4 x_5 x_6 x_7 x_8 x_9 x_10 x_11 x_12 x_13 x_14 x_15 x_16 x_17 x_18 x_19 res.2)) args s 0 0 (va_A (wM cB cI cJ cZ x_0 x_1 x_2 x_3 x_4 x_5 x_6 x_7 x_8 x_9 x_10 x_11 x_12 x_13 x_14 x_15 x_16 x_17 x_18 x_19 x0) s.heap.size)) (wM cB cI cJ cZ x_0 x_1 x_2 x_3 x_4 x_5 x_6 x_7 x_8 x_9 x_10 x_11 x_12 x_13 x_14 x_15 x_16 x_17 x_18 x_19 x) 73 [(0, .ref x_0), (1, .int v1), (2, .int v2), (3, .int v3), (4, .int v4)] []) :
    ∀ (n9 : Nat) (x : MS) (v4 : Int32), FX8_ways_L12 v1 v2 v3 k9 n9 x v4 = some res → gG p l e (headSpec wsX8_ways rX8_ways).room s m args below meth c 0 0 D (va_A (wM cB cI cJ cZ x_0 x_1 x_2 x_3 x_4 x_5 x_6 x_7 x_8 x_9 x_10 x_11 x_12 x_13 x_14 x_15 x_16 x_17 x_18 x_19 x0) s.heap.size) (va_A (wM cB cI cJ cZ x_0 x_1 x_2 x_3 x_4 x_5 x_6 x_7 x_8 x_9 x_10 x_11 x_12 x_13 x_14 x_15 x_16 x_17 x_18 x_19 x0) s.heap.size) 5 (MQ below (gQi D (wM cB cI cJ cZ x_0 x_1 x_2 x_3 x_4 x_5 x_6 x_7 x_8 x_9 x_10 x_11 x_12 x_13 x_14 x_15 x_16 x_17 x_18 x_19 x0) s.heap.size res.1 (wM cB cI cJ cZ x_0 x_1 x_2 x_3 x_4 x_5 x_6 x_7 x_8 x_9 x_10 x_11 x_12 x_13 x_14 x_15 x_16 x_17 x_18 x_19 res.2)) args s 0 0 (va_A (wM cB cI cJ cZ x_0 x_1 x_2 x_3 x_4 x_5 x_6 x_7 x_8 x_9 x_10 x_11 x_12 x_13 x_14 x_15 x_16 x_17 x_18 x_19 x0) s.heap.size)) (wM cB cI cJ cZ x_0 x_1 x_2 x_3 x_4 x_5 x_6 x_7 x_8 x_9 x_10 x_11 x_12 x_13 x_14 x_15 x_16 x_17 x_18 x_19 x) 12 [(0, .ref x_0), (1, .int v1), (2, .int v2), (3, .int v3), (4, .int v4)] [] := by
  intro n9
  induction n9 with
  | zero =>
    intro x v4 hF
    exact absurd hF (by simp [FX8_ways_L12])
  | succ n9 ih9 =>
    intro x v4 hF
    rw [FX8_ways_L12] at hF
    refine g_iload (z := 4) C (tdec DX8_ways 9 rfl) rfl rfl ?_
    refine g_iconst (v := 4) C (tdec DX8_ways 10 rfl) (by decide) rfl ?_
    refine g_icmp_ge (pt := 73) C (tdec DX8_ways 11 rfl) (by decide) rfl (fun h3 => ?_) (fun h3 => ?_)
    · have hF := o_ifp hF h3
      refine g_sub (L' := [(0, .ref x_0), (1, .int v1), (2, .int v2), (3, .int v3), (4, .int v4)]) [0, 1, 2, 3, 4] rfl ?_
      exact hk9 _ _ hF
    · have hF := o_ifn hF h3
      refine g_aload_n (z := 0) C (tdec DX8_ways 12 rfl) rfl rfl rfl ?_
      refine g_iload_n (z := 1) C (tdec DX8_ways 13 rfl) rfl rfl rfl ?_
      refine g_aload_n (z := 0) C (tdec DX8_ways 14 rfl) rfl rfl rfl ?_
      refine g_getf (C' := RX8) (T := TX8) (N := 27) (v := .ref x_19) C 0 25 (gIn iw_X8) rfl rfl (by decide) (gMem fl_X8_71) rfl rfl (tdec DX8_ways 15 rfl) rfl ?_
      refine g_iload (z := 4) C (tdec DX8_ways 16 rfl) rfl rfl ?_
      refine g_iconst (v := 1) C (tdec DX8_ways 17 rfl) (by decide) rfl ?_
      refine g_isub C (tdec DX8_ways 18 rfl) rfl ?_
      obtain ⟨r4, y5, hF⟩ := o_bind hF
      refine g_iald C 19 1 rfl rfl y5 (tdec DX8_ways 19 rfl) rfl ?_
      obtain ⟨r6, y7, hF⟩ := o_bind hF
      refine g_callViRS (q0 := 0) (S := [wM cB cI cJ cZ x_0 x_1 x_2 x_3 x_4 x_5 x_6 x_7 x_8 x_9 x_10 x_11 x_12 x_13 x_14 x_15 x_16 x_17 x_18 x_19 x]) (S0 := [wM cB cI cJ cZ x_0 x_1 x_2 x_3 x_4 x_5 x_6 x_7 x_8 x_9 x_10 x_11 x_12 x_13 x_14 x_15 x_16 x_17 x_18 x_19 x]) C (c_X8_told l D cB cI cJ cZ x_0 x_1 x_2 x_3 x_4 x_5 x_6 x_7 x_8 x_9 x_10 x_11 x_12 x_13 x_14 x_15 x_16 x_17 x_18 x_19 y7) rfl rfl (gIV ml_X8_90 im_X8_told sl_X8_told in_X8 cd_X8_told) rfl eX8_told rfl ⟨rfl, rfl⟩ ⟨Nat.le_of_ble_eq_true rfl, Nat.le_of_ble_eq_true rfl⟩ rfl rfl rfl [0] rfl rfl rfl (Nat.le_of_ble_eq_true rfl) (tdec DX8_ways 20 rfl) rfl ?_
      refine g_iconst (v := (-1)) C (tdec DX8_ways 21 rfl) (by decide) rfl ?_
      refine g_icmp_eq (pt := 73) C (tdec DX8_ways 22 rfl) (by decide) rfl (fun h8 => ?_) (fun h8 => ?_)
      · have hF := o_ifp hF h8
        refine g_sub (L' := [(0, .ref x_0), (1, .int v1), (2, .int v2), (3, .int v3), (4, .int v4)]) [0, 1, 2, 3, 4] rfl ?_
        exact hk9 _ _ hF
      · have hF := o_ifn hF h8
        refine g_aload_n (z := 0) C (tdec DX8_ways 23 rfl) rfl rfl rfl ?_
        refine g_getf (C' := RX8) (T := TX8) (N := 27) (v := .ref x_19) C 0 25 (gIn iw_X8) rfl rfl (by decide) (gMem fl_X8_71) rfl rfl (tdec DX8_ways 24 rfl) rfl ?_
        refine g_iload (z := 4) C (tdec DX8_ways 25 rfl) rfl rfl ?_
        refine g_bipush (v := 8) C (tdec DX8_ways 26 rfl) (by decide) rfl ?_
        refine g_aload_n (z := 0) C (tdec DX8_ways 27 rfl) rfl rfl rfl ?_
        refine g_iload_n (z := 1) C (tdec DX8_ways 28 rfl) rfl rfl rfl ?_
        refine g_aload_n (z := 0) C (tdec DX8_ways 29 rfl) rfl rfl rfl ?_
        refine g_getf (C' := RX8) (T := TX8) (N := 27) (v := .ref x_19) C 0 25 (gIn iw_X8) rfl rfl (by decide) (gMem fl_X8_71) rfl rfl (tdec DX8_ways 30 rfl) rfl ?_
        refine g_iload (z := 4) C (tdec DX8_ways 31 rfl) rfl rfl ?_
        refine g_iconst (v := 1) C (tdec DX8_ways 32 rfl) (by decide) rfl ?_
        refine g_isub C (tdec DX8_ways 33 rfl) rfl ?_
        obtain ⟨r9, y10, hF⟩ := o_bind hF
        refine g_iald C 19 1 rfl rfl y10 (tdec DX8_ways 34 rfl) rfl ?_
        obtain ⟨r11, y12, hF⟩ := o_bind hF
        refine g_callViRS (q0 := 0) (S := [wM cB cI cJ cZ x_0 x_1 x_2 x_3 x_4 x_5 x_6 x_7 x_8 x_9 x_10 x_11 x_12 x_13 x_14 x_15 x_16 x_17 x_18 x_19 x]) (S0 := [wM cB cI cJ cZ x_0 x_1 x_2 x_3 x_4 x_5 x_6 x_7 x_8 x_9 x_10 x_11 x_12 x_13 x_14 x_15 x_16 x_17 x_18 x_19 x]) C (c_X8_told l D cB cI cJ cZ x_0 x_1 x_2 x_3 x_4 x_5 x_6 x_7 x_8 x_9 x_10 x_11 x_12 x_13 x_14 x_15 x_16 x_17 x_18 x_19 y12) rfl rfl (gIV ml_X8_90 im_X8_told sl_X8_told in_X8 cd_X8_told) rfl eX8_told rfl ⟨rfl, rfl⟩ ⟨Nat.le_of_ble_eq_true rfl, Nat.le_of_ble_eq_true rfl⟩ rfl rfl rfl [0] rfl rfl rfl (Nat.le_of_ble_eq_true rfl) (tdec DX8_ways 35 rfl) rfl ?_
        refine g_imul C (tdec DX8_ways 36 rfl) rfl ?_
        refine g_iload_n (z := 3) C (tdec DX8_ways 37 rfl) rfl rfl rfl ?_
        refine g_iload (z := 4) C (tdec DX8_ways 38 rfl) rfl rfl ?_
        obtain ⟨r13, y14, hF⟩ := o_bind hF
        refine g_callSiR C (c_X8_turn l D cB cI cJ cZ y14) (gIS ml_X8_94 st_X8_turn in_X8 cd_X8_turn) eX8_turn rfl ⟨rfl, rfl⟩ ⟨Nat.le_of_ble_eq_true rfl, Nat.le_of_ble_eq_true rfl⟩ rfl [] rfl rfl rfl (Nat.le_of_ble_eq_true rfl) (tdec DX8_ways 39 rfl) rfl ?_
        refine g_iadd C (tdec DX8_ways 40 rfl) rfl ?_
        obtain ⟨g15, y16, hF⟩ := o_bind hF
        refine g_iast (ws' := wM cB cI cJ cZ x_0 x_1 x_2 x_3 x_4 x_5 x_6 x_7 x_8 x_9 x_10 x_11 x_12 x_13 x_14 x_15 x_16 x_17 x_18 x_19 (MS_setway x g15)) C 19 1 rfl rfl y16 rfl (tdec DX8_ways 41 rfl) rfl ?_
        refine g_iinc (z := 4) (v := (v4 + 1)) (L' := [(4, .int (v4 + 1)), (0, .ref x_0), (1, .int v1), (2, .int v2), (3, .int v3)]) C (tdec DX8_ways 42 rfl) rfl rfl (by decide) rfl rfl ?_
        refine g_goto (pt := 12) C (tdec DX8_ways 43 rfl) (by decide) ?_
        refine g_sub (L' := [(0, .ref x_0), (1, .int v1), (2, .int v2), (3, .int v3), (4, .int (v4 + 1))]) [1, 2, 3, 4, 0] rfl ?_
        exact ih9 _ _ hF
set_option maxHeartbeats 4000000 in
set_option maxRecDepth 100000 in
theorem c_X8_ways (l : Launch) (D : va_G) (cB cI cJ cZ : ClassId) (x_0 x_1 x_2 x_3 x_4 x_5 x_6 x_7 x_8 x_9 x_10 x_11 x_12 x_13 x_14 x_15 x_16 x_17 x_18 x_19 : Nat) {x0 : MS} {p1 : Int32} {p2 : Int32} {p3 : Int32} {res : Int32 × MS} (hF : FX8_ways x0 p1 p2 p3 = some res) : gMi l yX8_ways wsX8_ways rX8_ways D (gT cB cI cJ cZ) [.ref x_0, .int p1, .int p2, .int p3] (wM cB cI cJ cZ x_0 x_1 x_2 x_3 x_4 x_5 x_6 x_7 x_8 x_9 x_10 x_11 x_12 x_13 x_14 x_15 x_16 x_17 x_18 x_19 x0) res.1 (wM cB cI cJ cZ x_0 x_1 x_2 x_3 x_4 x_5 x_6 x_7 x_8 x_9 x_10 x_11 x_12 x_13 x_14 x_15 x_16 x_17 x_18 x_19 res.2) := by
  refine g_enter (own := RX8) (free := (fun sz => va_A (wM cB cI cJ cZ x_0 x_1 x_2 x_3 x_4 x_5 x_6 x_7 x_8 x_9 x_10 x_11 x_12 x_13 x_14 x_15 x_16 x_17 x_18 x_19 x0) sz)) (Qc := (fun sz => gQi D (wM cB cI cJ cZ x_0 x_1 x_2 x_3 x_4 x_5 x_6 x_7 x_8 x_9 x_10 x_11 x_12 x_13 x_14 x_15 x_16 x_17 x_18 x_19 x0) sz res.1 (wM cB cI cJ cZ x_0 x_1 x_2 x_3 x_4 x_5 x_6 x_7 x_8 x_9 x_10 x_11 x_12 x_13 x_14 x_15 x_16 x_17 x_18 x_19 res.2))) (fun sz => va_A (wM cB cI cJ cZ x_0 x_1 x_2 x_3 x_4 x_5 x_6 x_7 x_8 x_9 x_10 x_11 x_12 x_13 x_14 x_15 x_16 x_17 x_18 x_19 x0) sz) (fun sz => Or.inr rfl) rfl (by decide) rfl (Nat.le_of_ble_eq_true rfl) rfl ?_
  intro p e s m args below meth c C
  unfold FX8_ways at hF
  refine g_aload_n (z := 0) C (tdec DX8_ways 0 rfl) rfl rfl rfl ?_
  refine g_getf (C' := RX8) (T := TX8) (N := 27) (v := .ref x_19) C 0 25 (gIn iw_X8) rfl rfl (by decide) (gMem fl_X8_71) rfl rfl (tdec DX8_ways 1 rfl) rfl ?_
  refine g_iconst (v := 0) C (tdec DX8_ways 2 rfl) (by decide) rfl ?_
  refine g_iconst (v := (-1)) C (tdec DX8_ways 3 rfl) (by decide) rfl ?_
  refine g_iload_n (z := 2) C (tdec DX8_ways 4 rfl) rfl rfl rfl ?_
  refine g_isub C (tdec DX8_ways 5 rfl) rfl ?_
  obtain ⟨g1, y2, hF⟩ := o_bind hF
  refine g_iast (ws' := wM cB cI cJ cZ x_0 x_1 x_2 x_3 x_4 x_5 x_6 x_7 x_8 x_9 x_10 x_11 x_12 x_13 x_14 x_15 x_16 x_17 x_18 x_19 (MS_setway x0 g1)) C 19 1 rfl rfl y2 rfl (tdec DX8_ways 6 rfl) rfl ?_
  refine g_iconst (v := 1) C (tdec DX8_ways 7 rfl) (by decide) rfl ?_
  refine g_istore (L' := [(4, .int 1), (0, .ref x_0), (1, .int p1), (2, .int p2), (3, .int p3)]) C (tdec DX8_ways 8 rfl) (by decide) rfl rfl ?_
  refine g_sub (L' := [(0, .ref x_0), (1, .int p1), (2, .int p2), (3, .int p3), (4, .int 1)]) [1, 2, 3, 4, 0] rfl ?_
  refine c_FX8_ways_L12 C (fun xq17 w4_17 hF => ?_) 100000 _ _ hF
  refine g_iload (z := 4) C (tdec DX8_ways 44 rfl) rfl rfl ?_
  have hr9 := o_some hF
  subst hr9
  exact g_iret C rfl rfl (tdec DX8_ways 45 rfl)
def FX8_wanted_L6 (x0 : MS) (v1 : Int32) (v2 : Int32) (v3 : Int32) (k9 : Int32 → Int32 → Option (Int32)) : Nat → Int32 → Int32 → Option (Int32)
  | 0, _, _ => none
  | n9 + 1, v4, v5 =>
    if v3 ≤ v5 then
      k9 v4 v5
    else
      if v2 ≤ v5 then
        FX8_wanted_L6 x0 v1 v2 v3 k9 n9 (v4 + 1) (v5 + 1)
      else
        (ald 4 (MS_way x0) v5).bind fun r3 =>
        (FX8_told x0 v1 r3).bind fun r5 =>
        if r5 = (-1) then
          FX8_wanted_L6 x0 v1 v2 v3 k9 n9 (v4 + 1) (v5 + 1)
        else
          (ald 4 (MS_way x0) v5).bind fun r8 =>
          (FX8_born x0 v1 r8).bind fun r10 =>
          (ald 2 (MS_gen x0) v1).bind fun r12 =>
          if r10 = r12 then
            FX8_wanted_L6 x0 v1 v2 v3 k9 n9 (v4 + 0) (v5 + 1)
          else
            FX8_wanted_L6 x0 v1 v2 v3 k9 n9 (v4 + 1) (v5 + 1)
def FX8_wanted (x0 : MS) (p1 : Int32) (p2 : Int32) (p3 : Int32) : Option (Int32) :=
  FX8_wanted_L6 x0 p1 p2 p3 (fun w4_15 w5_15 =>
    some w4_15) 100000 0 0
def rX8_wanted : Room := { frames := 1, cells := 0, slots := 0, locals := 22 }
set_option maxHeartbeats 4000000 in
set_option maxRecDepth 100000 in
theorem c_FX8_wanted_L6 {p : Program} {l : Launch} {e : Env} {s : State} {m : MethodId} {args : Array Value} {below : List Frame} {meth : Method} {c : Code} {D : va_G} {cB cI cJ cZ : ClassId} {x_0 x_1 x_2 x_3 x_4 x_5 x_6 x_7 x_8 x_9 x_10 x_11 x_12 x_13 x_14 x_15 x_16 x_17 x_18 x_19 : Nat} {x0 : MS} {res : Int32} (C : gC p s m args meth c cX8_wanted 6 RX8 wsX8_wanted D (gT cB cI cJ cZ) (some .int) (fun _ => False)) {v1 : Int32} {v2 : Int32} {v3 : Int32} {k9 : Int32 → Int32 → Option (Int32)} (hk9 : ∀ (v4 : Int32) (v5 : Int32), k9 v4 v5 = some res → gG p l e (headSpec wsX8_wanted rX8_wanted).room s m args below meth c 0 0 D (fun _ => True) (fun _ => False) 6 (MQ below (gRQi res) args s 0 0 (fun _ => False)) (wM cB cI cJ cZ x_0 x_1 x_2 x_3 x_4 x_5 x_6 x_7 x_8 x_9 x_10 x_11 x_12 x_13 x_14 x_15 x_16 x_17 x_18 x_19 x0) 71 [(0, .ref x_0), (1, .int v1), (2, .int v2), (3, .int v3), (4, .int v4), (5, .int v5)] []) :
    ∀ (n9 : Nat) (v4 : Int32) (v5 : Int32), FX8_wanted_L6 x0 v1 v2 v3 k9 n9 v4 v5 = some res → gG p l e (headSpec wsX8_wanted rX8_wanted).room s m args below meth c 0 0 D (fun _ => True) (fun _ => False) 6 (MQ below (gRQi res) args s 0 0 (fun _ => False)) (wM cB cI cJ cZ x_0 x_1 x_2 x_3 x_4 x_5 x_6 x_7 x_8 x_9 x_10 x_11 x_12 x_13 x_14 x_15 x_16 x_17 x_18 x_19 x0) 6 [(0, .ref x_0), (1, .int v1), (2, .int v2), (3, .int v3), (4, .int v4), (5, .int v5)] [] := by
  intro n9
  induction n9 with
  | zero =>
    intro v4 v5 hF
    exact absurd hF (by simp [FX8_wanted_L6])
  | succ n9 ih9 =>
    intro v4 v5 hF
    rw [FX8_wanted_L6] at hF
    refine g_iload (z := 5) C (tdec DX8_wanted 4 rfl) rfl rfl ?_
    refine g_iload_n (z := 3) C (tdec DX8_wanted 5 rfl) rfl rfl rfl ?_
    refine g_icmp_ge (pt := 71) C (tdec DX8_wanted 6 rfl) (by decide) rfl (fun h1 => ?_) (fun h1 => ?_)
    · have hF := o_ifp hF h1
      refine g_sub (L' := [(0, .ref x_0), (1, .int v1), (2, .int v2), (3, .int v3), (4, .int v4), (5, .int v5)]) [0, 1, 2, 3, 4, 5] rfl ?_
      exact hk9 _ _ hF
    · have hF := o_ifn hF h1
      refine g_iload (z := 4) C (tdec DX8_wanted 7 rfl) rfl rfl ?_
      refine g_iload (z := 5) C (tdec DX8_wanted 8 rfl) rfl rfl ?_
      refine g_iload_n (z := 2) C (tdec DX8_wanted 9 rfl) rfl rfl rfl ?_
      refine g_icmp_ge (pt := 57) C (tdec DX8_wanted 10 rfl) (by decide) rfl (fun h2 => ?_) (fun h2 => ?_)
      · have hF := o_ifp hF h2
        refine g_iconst (v := 1) C (tdec DX8_wanted 32 rfl) (by decide) rfl ?_
        refine g_goto (pt := 62) C (tdec DX8_wanted 33 rfl) (by decide) ?_
        refine g_iadd C (tdec DX8_wanted 35 rfl) rfl ?_
        refine g_istore (L' := [(4, .int (v4 + 1)), (0, .ref x_0), (1, .int v1), (2, .int v2), (3, .int v3), (5, .int v5)]) C (tdec DX8_wanted 36 rfl) (by decide) rfl rfl ?_
        refine g_iinc (z := 5) (v := (v5 + 1)) (L' := [(5, .int (v5 + 1)), (4, .int (v4 + 1)), (0, .ref x_0), (1, .int v1), (2, .int v2), (3, .int v3)]) C (tdec DX8_wanted 37 rfl) rfl rfl (by decide) rfl rfl ?_
        refine g_goto (pt := 6) C (tdec DX8_wanted 38 rfl) (by decide) ?_
        refine g_sub (L' := [(0, .ref x_0), (1, .int v1), (2, .int v2), (3, .int v3), (4, .int (v4 + 1)), (5, .int (v5 + 1))]) [2, 3, 4, 5, 1, 0] rfl ?_
        exact ih9 _ _ hF
      · have hF := o_ifn hF h2
        refine g_aload_n (z := 0) C (tdec DX8_wanted 11 rfl) rfl rfl rfl ?_
        refine g_iload_n (z := 1) C (tdec DX8_wanted 12 rfl) rfl rfl rfl ?_
        refine g_aload_n (z := 0) C (tdec DX8_wanted 13 rfl) rfl rfl rfl ?_
        refine g_getf (C' := RX8) (T := TX8) (N := 27) (v := .ref x_19) C 0 25 (gIn iw_X8) rfl rfl (by decide) (gMem fl_X8_71) rfl rfl (tdec DX8_wanted 14 rfl) rfl ?_
        refine g_iload (z := 5) C (tdec DX8_wanted 15 rfl) rfl rfl ?_
        obtain ⟨r3, y4, hF⟩ := o_bind hF
        refine g_iald C 19 1 rfl rfl y4 (tdec DX8_wanted 16 rfl) rfl ?_
        obtain ⟨r5, y6, hF⟩ := o_bind hF
        refine g_callViRS (q0 := 0) (S := [wM cB cI cJ cZ x_0 x_1 x_2 x_3 x_4 x_5 x_6 x_7 x_8 x_9 x_10 x_11 x_12 x_13 x_14 x_15 x_16 x_17 x_18 x_19 x0]) (S0 := [wM cB cI cJ cZ x_0 x_1 x_2 x_3 x_4 x_5 x_6 x_7 x_8 x_9 x_10 x_11 x_12 x_13 x_14 x_15 x_16 x_17 x_18 x_19 x0]) C (c_X8_told l D cB cI cJ cZ x_0 x_1 x_2 x_3 x_4 x_5 x_6 x_7 x_8 x_9 x_10 x_11 x_12 x_13 x_14 x_15 x_16 x_17 x_18 x_19 y6) rfl rfl (gIV ml_X8_90 im_X8_told sl_X8_told in_X8 cd_X8_told) rfl eX8_told rfl ⟨rfl, rfl⟩ ⟨Nat.le_of_ble_eq_true rfl, Nat.le_of_ble_eq_true rfl⟩ rfl rfl rfl [0] rfl rfl rfl (Nat.le_of_ble_eq_true rfl) (tdec DX8_wanted 17 rfl) rfl ?_
        refine g_iconst (v := (-1)) C (tdec DX8_wanted 18 rfl) (by decide) rfl ?_
        refine g_icmp_eq (pt := 57) C (tdec DX8_wanted 19 rfl) (by decide) rfl (fun h7 => ?_) (fun h7 => ?_)
        · have hF := o_ifp hF h7
          refine g_iconst (v := 1) C (tdec DX8_wanted 32 rfl) (by decide) rfl ?_
          refine g_goto (pt := 62) C (tdec DX8_wanted 33 rfl) (by decide) ?_
          refine g_iadd C (tdec DX8_wanted 35 rfl) rfl ?_
          refine g_istore (L' := [(4, .int (v4 + 1)), (0, .ref x_0), (1, .int v1), (2, .int v2), (3, .int v3), (5, .int v5)]) C (tdec DX8_wanted 36 rfl) (by decide) rfl rfl ?_
          refine g_iinc (z := 5) (v := (v5 + 1)) (L' := [(5, .int (v5 + 1)), (4, .int (v4 + 1)), (0, .ref x_0), (1, .int v1), (2, .int v2), (3, .int v3)]) C (tdec DX8_wanted 37 rfl) rfl rfl (by decide) rfl rfl ?_
          refine g_goto (pt := 6) C (tdec DX8_wanted 38 rfl) (by decide) ?_
          refine g_sub (L' := [(0, .ref x_0), (1, .int v1), (2, .int v2), (3, .int v3), (4, .int (v4 + 1)), (5, .int (v5 + 1))]) [2, 3, 4, 5, 1, 0] rfl ?_
          exact ih9 _ _ hF
        · have hF := o_ifn hF h7
          refine g_aload_n (z := 0) C (tdec DX8_wanted 20 rfl) rfl rfl rfl ?_
          refine g_iload_n (z := 1) C (tdec DX8_wanted 21 rfl) rfl rfl rfl ?_
          refine g_aload_n (z := 0) C (tdec DX8_wanted 22 rfl) rfl rfl rfl ?_
          refine g_getf (C' := RX8) (T := TX8) (N := 27) (v := .ref x_19) C 0 25 (gIn iw_X8) rfl rfl (by decide) (gMem fl_X8_71) rfl rfl (tdec DX8_wanted 23 rfl) rfl ?_
          refine g_iload (z := 5) C (tdec DX8_wanted 24 rfl) rfl rfl ?_
          obtain ⟨r8, y9, hF⟩ := o_bind hF
          refine g_iald C 19 1 rfl rfl y9 (tdec DX8_wanted 25 rfl) rfl ?_
          obtain ⟨r10, y11, hF⟩ := o_bind hF
          refine g_callViRS (q0 := 0) (S := [wM cB cI cJ cZ x_0 x_1 x_2 x_3 x_4 x_5 x_6 x_7 x_8 x_9 x_10 x_11 x_12 x_13 x_14 x_15 x_16 x_17 x_18 x_19 x0]) (S0 := [wM cB cI cJ cZ x_0 x_1 x_2 x_3 x_4 x_5 x_6 x_7 x_8 x_9 x_10 x_11 x_12 x_13 x_14 x_15 x_16 x_17 x_18 x_19 x0]) C (c_X8_born l D cB cI cJ cZ x_0 x_1 x_2 x_3 x_4 x_5 x_6 x_7 x_8 x_9 x_10 x_11 x_12 x_13 x_14 x_15 x_16 x_17 x_18 x_19 y11) rfl rfl (gIV ml_X8_97 im_X8_born sl_X8_born in_X8 cd_X8_born) rfl eX8_born rfl ⟨rfl, rfl⟩ ⟨Nat.le_of_ble_eq_true rfl, Nat.le_of_ble_eq_true rfl⟩ rfl rfl rfl [0] rfl rfl rfl (Nat.le_of_ble_eq_true rfl) (tdec DX8_wanted 26 rfl) rfl ?_
          refine g_aload_n (z := 0) C (tdec DX8_wanted 27 rfl) rfl rfl rfl ?_
          refine g_getf (C' := RX8) (T := TX8) (N := 27) (v := .ref x_9) C 0 9 (gIn iw_X8) rfl rfl (by decide) (gMem fl_X8_36) rfl rfl (tdec DX8_wanted 28 rfl) rfl ?_
          refine g_iload_n (z := 1) C (tdec DX8_wanted 29 rfl) rfl rfl rfl ?_
          obtain ⟨r12, y13, hF⟩ := o_bind hF
          refine g_iald C 9 1 rfl rfl y13 (tdec DX8_wanted 30 rfl) rfl ?_
          refine g_icmp_eq (pt := 61) C (tdec DX8_wanted 31 rfl) (by decide) rfl (fun h14 => ?_) (fun h14 => ?_)
          · have hF := o_ifp hF h14
            refine g_iconst (v := 0) C (tdec DX8_wanted 34 rfl) (by decide) rfl ?_
            refine g_iadd C (tdec DX8_wanted 35 rfl) rfl ?_
            refine g_istore (L' := [(4, .int (v4 + 0)), (0, .ref x_0), (1, .int v1), (2, .int v2), (3, .int v3), (5, .int v5)]) C (tdec DX8_wanted 36 rfl) (by decide) rfl rfl ?_
            refine g_iinc (z := 5) (v := (v5 + 1)) (L' := [(5, .int (v5 + 1)), (4, .int (v4 + 0)), (0, .ref x_0), (1, .int v1), (2, .int v2), (3, .int v3)]) C (tdec DX8_wanted 37 rfl) rfl rfl (by decide) rfl rfl ?_
            refine g_goto (pt := 6) C (tdec DX8_wanted 38 rfl) (by decide) ?_
            refine g_sub (L' := [(0, .ref x_0), (1, .int v1), (2, .int v2), (3, .int v3), (4, .int (v4 + 0)), (5, .int (v5 + 1))]) [2, 3, 4, 5, 1, 0] rfl ?_
            exact ih9 _ _ hF
          · have hF := o_ifn hF h14
            refine g_iconst (v := 1) C (tdec DX8_wanted 32 rfl) (by decide) rfl ?_
            refine g_goto (pt := 62) C (tdec DX8_wanted 33 rfl) (by decide) ?_
            refine g_iadd C (tdec DX8_wanted 35 rfl) rfl ?_
            refine g_istore (L' := [(4, .int (v4 + 1)), (0, .ref x_0), (1, .int v1), (2, .int v2), (3, .int v3), (5, .int v5)]) C (tdec DX8_wanted 36 rfl) (by decide) rfl rfl ?_
            refine g_iinc (z := 5) (v := (v5 + 1)) (L' := [(5, .int (v5 + 1)), (4, .int (v4 + 1)), (0, .ref x_0), (1, .int v1), (2, .int v2), (3, .int v3)]) C (tdec DX8_wanted 37 rfl) rfl rfl (by decide) rfl rfl ?_
            refine g_goto (pt := 6) C (tdec DX8_wanted 38 rfl) (by decide) ?_
            refine g_sub (L' := [(0, .ref x_0), (1, .int v1), (2, .int v2), (3, .int v3), (4, .int (v4 + 1)), (5, .int (v5 + 1))]) [2, 3, 4, 5, 1, 0] rfl ?_
            exact ih9 _ _ hF
set_option maxHeartbeats 4000000 in
set_option maxRecDepth 100000 in
theorem c_X8_wanted (l : Launch) (D : va_G) (cB cI cJ cZ : ClassId) (x_0 x_1 x_2 x_3 x_4 x_5 x_6 x_7 x_8 x_9 x_10 x_11 x_12 x_13 x_14 x_15 x_16 x_17 x_18 x_19 : Nat) {x0 : MS} {p1 : Int32} {p2 : Int32} {p3 : Int32} {res : Int32} (hF : FX8_wanted x0 p1 p2 p3 = some res) : gRi l yX8_wanted wsX8_wanted rX8_wanted D (gT cB cI cJ cZ) [.ref x_0, .int p1, .int p2, .int p3] (wM cB cI cJ cZ x_0 x_1 x_2 x_3 x_4 x_5 x_6 x_7 x_8 x_9 x_10 x_11 x_12 x_13 x_14 x_15 x_16 x_17 x_18 x_19 x0) res := by
  refine g_enter (own := RX8) (free := (fun _ _ => False)) (Qc := (fun sz => gRQi res)) (fun _ _ => True) (fun sz => Or.inl rfl) rfl (by decide) rfl (Nat.le_of_ble_eq_true rfl) rfl ?_
  intro p e s m args below meth c C
  unfold FX8_wanted at hF
  refine g_iconst (v := 0) C (tdec DX8_wanted 0 rfl) (by decide) rfl ?_
  refine g_istore (L' := [(4, .int 0), (0, .ref x_0), (1, .int p1), (2, .int p2), (3, .int p3)]) C (tdec DX8_wanted 1 rfl) (by decide) rfl rfl ?_
  refine g_iconst (v := 0) C (tdec DX8_wanted 2 rfl) (by decide) rfl ?_
  refine g_istore (L' := [(5, .int 0), (4, .int 0), (0, .ref x_0), (1, .int p1), (2, .int p2), (3, .int p3)]) C (tdec DX8_wanted 3 rfl) (by decide) rfl rfl ?_
  refine g_sub (L' := [(0, .ref x_0), (1, .int p1), (2, .int p2), (3, .int p3), (4, .int 0), (5, .int 0)]) [2, 3, 4, 5, 1, 0] rfl ?_
  refine c_FX8_wanted_L6 C (fun w4_15 w5_15 hF => ?_) 100000 _ _ hF
  refine g_iload (z := 4) C (tdec DX8_wanted 39 rfl) rfl rfl ?_
  have hr9 := o_some hF
  subst hr9
  exact g_iretR C rfl (tdec DX8_wanted 40 rfl)
def FX8_renews_L64 (v1 : Int32) (v2 : Int32) (v3 : Int32) (v4 : Int32) (v5 : Int32) (v6 : Int32) (v7 : Int32) (v8 : Int32) (v9 : Int32) (k9 : MS → Int32 → Option (MS)) : Nat → MS → Int32 → Option (MS)
  | 0, _, _ => none
  | n9 + 1, x, v10 =>
    if 8 ≤ v10 then
      k9 x v10
    else
      if 3 ≤ v6 then
        k9 x v10
      else
        if v7 = (-1) then
          (FX8_point x v1 ((8 * v9) + v10) (-1) v8).bind fun s19 =>
          FX8_renews_L64 v1 v2 v3 v4 v5 v6 v7 v8 v9 k9 n9 s19 (v10 + 1)
        else
          (FX8_told x v1 ((8 * v7) + v10)).bind fun r13 =>
          (FX8_born x v1 ((8 * v7) + v10)).bind fun r15 =>
          (FX8_point x v1 ((8 * v9) + v10) r13 r15).bind fun s17 =>
          FX8_renews_L64 v1 v2 v3 v4 v5 v6 v7 v8 v9 k9 n9 s17 (v10 + 1)
def FX8_renews_L8 (v1 : Int32) (v2 : Int32) (v3 : Int32) (v4 : Int32) (k9 : MS → Int32 → Int32 → Option (MS)) : Nat → MS → Int32 → Int32 → Option (MS)
  | 0, _, _, _ => none
  | n9 + 1, x, v5, v6 =>
    if v4 ≤ v6 then
      k9 x v5 v6
    else
      (FX8_told x v1 v5).bind fun r2 =>
      (FX8_born x v1 v5).bind fun r4 =>
      if r2 = (-1) then
        (FX8_take x v1 (3 - v6)).bind fun (r7, s8) =>
        FX8_renews_L64 v1 v2 v3 v4 v5 v6 r2 r4 r7 (fun xq21 w10_21 =>
          (ald 2 (MS_gen xq21) v1).bind fun r22 =>
          (FX8_point xq21 v1 v5 r7 r22).bind fun s24 =>
          if 3 ≤ v6 then
            FX8_renews_L8 v1 v2 v3 v4 k9 n9 s24 v5 (v6 + 1)
          else
            (FX8_told s24 v1 v5).bind fun r27 =>
            (FX8_turn v3 (v6 + 1)).bind fun r29 =>
            FX8_renews_L8 v1 v2 v3 v4 k9 n9 s24 ((8 * r27) + r29) (v6 + 1)) 100000 s8 0
      else
        (ald 2 (MS_gen x) v1).bind fun r31 =>
        if r4 = r31 then
          if 3 ≤ v6 then
            FX8_renews_L8 v1 v2 v3 v4 k9 n9 x v5 (v6 + 1)
          else
            (FX8_told x v1 v5).bind fun r35 =>
            (FX8_turn v3 (v6 + 1)).bind fun r37 =>
            FX8_renews_L8 v1 v2 v3 v4 k9 n9 x ((8 * r35) + r37) (v6 + 1)
        else
          (FX8_take x v1 (3 - v6)).bind fun (r39, s40) =>
          FX8_renews_L64 v1 v2 v3 v4 v5 v6 r2 r4 r39 (fun xq42 w10_42 =>
            (ald 2 (MS_gen xq42) v1).bind fun r43 =>
            (FX8_point xq42 v1 v5 r39 r43).bind fun s45 =>
            if 3 ≤ v6 then
              FX8_renews_L8 v1 v2 v3 v4 k9 n9 s45 v5 (v6 + 1)
            else
              (FX8_told s45 v1 v5).bind fun r48 =>
              (FX8_turn v3 (v6 + 1)).bind fun r50 =>
              FX8_renews_L8 v1 v2 v3 v4 k9 n9 s45 ((8 * r48) + r50) (v6 + 1)) 100000 s40 0
def FX8_renews (x0 : MS) (p1 : Int32) (p2 : Int32) (p3 : Int32) (p4 : Int32) : Option (MS) :=
  FX8_renews_L8 p1 p2 p3 p4 (fun xq52 w5_52 w6_52 =>
    some xq52) 100000 x0 ((-1) - p2) 0
def rX8_renews : Room := { frames := 1, cells := 0, slots := 0, locals := 24 }
set_option maxHeartbeats 4000000 in
set_option maxRecDepth 100000 in
theorem c_FX8_renews_L64 {p : Program} {l : Launch} {e : Env} {s : State} {m : MethodId} {args : Array Value} {below : List Frame} {meth : Method} {c : Code} {D : va_G} {cB cI cJ cZ : ClassId} {x_0 x_1 x_2 x_3 x_4 x_5 x_6 x_7 x_8 x_9 x_10 x_11 x_12 x_13 x_14 x_15 x_16 x_17 x_18 x_19 : Nat} {x0 : MS} {res : MS} (C : gC p s m args meth c cX8_renews 11 RX8 wsX8_renews D (gT cB cI cJ cZ) none (va_A (wM cB cI cJ cZ x_0 x_1 x_2 x_3 x_4 x_5 x_6 x_7 x_8 x_9 x_10 x_11 x_12 x_13 x_14 x_15 x_16 x_17 x_18 x_19 x0) s.heap.size)) {v1 : Int32} {v2 : Int32} {v3 : Int32} {v4 : Int32} {v5 : Int32} {v6 : Int32} {v7 : Int32} {v8 : Int32} {v9 : Int32} {k9 : MS → Int32 → Option (MS)} (hk9 : ∀ (x : MS) (v10 : Int32), k9 x v10 = some res → gG p l e (headSpec wsX8_renews rX8_renews).room s m args below meth c 0 0 D (va_A (wM cB cI cJ cZ x_0 x_1 x_2 x_3 x_4 x_5 x_6 x_7 x_8 x_9 x_10 x_11 x_12 x_13 x_14 x_15 x_16 x_17 x_18 x_19 x0) s.heap.size) (va_A (wM cB cI cJ cZ x_0 x_1 x_2 x_3 x_4 x_5 x_6 x_7 x_8 x_9 x_10 x_11 x_12 x_13 x_14 x_15 x_16 x_17 x_18 x_19 x0) s.heap.size) 11 (MQ below (gQv D (wM cB cI cJ cZ x_0 x_1 x_2 x_3 x_4 x_5 x_6 x_7 x_8 x_9 x_10 x_11 x_12 x_13 x_14 x_15 x_16 x_17 x_18 x_19 x0) s.heap.size (wM cB cI cJ cZ x_0 x_1 x_2 x_3 x_4 x_5 x_6 x_7 x_8 x_9 x_10 x_11 x_12 x_13 x_14 x_15 x_16 x_17 x_18 x_19 res)) args s 0 0 (va_A (wM cB cI cJ cZ x_0 x_1 x_2 x_3 x_4 x_5 x_6 x_7 x_8 x_9 x_10 x_11 x_12 x_13 x_14 x_15 x_16 x_17 x_18 x_19 x0) s.heap.size)) (wM cB cI cJ cZ x_0 x_1 x_2 x_3 x_4 x_5 x_6 x_7 x_8 x_9 x_10 x_11 x_12 x_13 x_14 x_15 x_16 x_17 x_18 x_19 x) 143 [(0, .ref x_0), (1, .int v1), (2, .int v2), (3, .int v3), (4, .int v4), (5, .int v5), (6, .int v6), (7, .int v7), (8, .int v8), (9, .int v9), (10, .int v10)] []) :
    ∀ (n9 : Nat) (x : MS) (v10 : Int32), FX8_renews_L64 v1 v2 v3 v4 v5 v6 v7 v8 v9 k9 n9 x v10 = some res → gG p l e (headSpec wsX8_renews rX8_renews).room s m args below meth c 0 0 D (va_A (wM cB cI cJ cZ x_0 x_1 x_2 x_3 x_4 x_5 x_6 x_7 x_8 x_9 x_10 x_11 x_12 x_13 x_14 x_15 x_16 x_17 x_18 x_19 x0) s.heap.size) (va_A (wM cB cI cJ cZ x_0 x_1 x_2 x_3 x_4 x_5 x_6 x_7 x_8 x_9 x_10 x_11 x_12 x_13 x_14 x_15 x_16 x_17 x_18 x_19 x0) s.heap.size) 11 (MQ below (gQv D (wM cB cI cJ cZ x_0 x_1 x_2 x_3 x_4 x_5 x_6 x_7 x_8 x_9 x_10 x_11 x_12 x_13 x_14 x_15 x_16 x_17 x_18 x_19 x0) s.heap.size (wM cB cI cJ cZ x_0 x_1 x_2 x_3 x_4 x_5 x_6 x_7 x_8 x_9 x_10 x_11 x_12 x_13 x_14 x_15 x_16 x_17 x_18 x_19 res)) args s 0 0 (va_A (wM cB cI cJ cZ x_0 x_1 x_2 x_3 x_4 x_5 x_6 x_7 x_8 x_9 x_10 x_11 x_12 x_13 x_14 x_15 x_16 x_17 x_18 x_19 x0) s.heap.size)) (wM cB cI cJ cZ x_0 x_1 x_2 x_3 x_4 x_5 x_6 x_7 x_8 x_9 x_10 x_11 x_12 x_13 x_14 x_15 x_16 x_17 x_18 x_19 x) 64 [(0, .ref x_0), (1, .int v1), (2, .int v2), (3, .int v3), (4, .int v4), (5, .int v5), (6, .int v6), (7, .int v7), (8, .int v8), (9, .int v9), (10, .int v10)] [] := by
  intro n9
  induction n9 with
  | zero =>
    intro x v10 hF
    exact absurd hF (by simp [FX8_renews_L64])
  | succ n9 ih9 =>
    intro x v10 hF
    rw [FX8_renews_L64] at hF
    refine g_iload (z := 10) C (tdec DX8_renews 37 rfl) rfl rfl ?_
    refine g_bipush (v := 8) C (tdec DX8_renews 38 rfl) (by decide) rfl ?_
    refine g_icmp_ge (pt := 143) C (tdec DX8_renews 39 rfl) (by decide) rfl (fun h10 => ?_) (fun h10 => ?_)
    · have hF := o_ifp hF h10
      refine g_sub (L' := [(0, .ref x_0), (1, .int v1), (2, .int v2), (3, .int v3), (4, .int v4), (5, .int v5), (6, .int v6), (7, .int v7), (8, .int v8), (9, .int v9), (10, .int v10)]) [0, 1, 2, 3, 4, 5, 6, 7, 8, 9, 10] rfl ?_
      exact hk9 _ _ hF
    · have hF := o_ifn hF h10
      refine g_iload (z := 6) C (tdec DX8_renews 40 rfl) rfl rfl ?_
      refine g_iconst (v := 3) C (tdec DX8_renews 41 rfl) (by decide) rfl ?_
      refine g_icmp_ge (pt := 143) C (tdec DX8_renews 42 rfl) (by decide) rfl (fun h11 => ?_) (fun h11 => ?_)
      · have hF := o_ifp hF h11
        refine g_sub (L' := [(0, .ref x_0), (1, .int v1), (2, .int v2), (3, .int v3), (4, .int v4), (5, .int v5), (6, .int v6), (7, .int v7), (8, .int v8), (9, .int v9), (10, .int v10)]) [0, 1, 2, 3, 4, 5, 6, 7, 8, 9, 10] rfl ?_
        exact hk9 _ _ hF
      · have hF := o_ifn hF h11
        refine g_aload_n (z := 0) C (tdec DX8_renews 43 rfl) rfl rfl rfl ?_
        refine g_iload_n (z := 1) C (tdec DX8_renews 44 rfl) rfl rfl rfl ?_
        refine g_bipush (v := 8) C (tdec DX8_renews 45 rfl) (by decide) rfl ?_
        refine g_iload (z := 9) C (tdec DX8_renews 46 rfl) rfl rfl ?_
        refine g_imul C (tdec DX8_renews 47 rfl) rfl ?_
        refine g_iload (z := 10) C (tdec DX8_renews 48 rfl) rfl rfl ?_
        refine g_iadd C (tdec DX8_renews 49 rfl) rfl ?_
        refine g_iload (z := 7) C (tdec DX8_renews 50 rfl) rfl rfl ?_
        refine g_iconst (v := (-1)) C (tdec DX8_renews 51 rfl) (by decide) rfl ?_
        refine g_icmp_ne (pt := 97) C (tdec DX8_renews 52 rfl) (by decide) rfl (fun h12 => ?_) (fun h12 => ?_)
        · have hF := o_ifn hF h12
          refine g_aload_n (z := 0) C (tdec DX8_renews 55 rfl) rfl rfl rfl ?_
          refine g_iload_n (z := 1) C (tdec DX8_renews 56 rfl) rfl rfl rfl ?_
          refine g_bipush (v := 8) C (tdec DX8_renews 57 rfl) (by decide) rfl ?_
          refine g_iload (z := 7) C (tdec DX8_renews 58 rfl) rfl rfl ?_
          refine g_imul C (tdec DX8_renews 59 rfl) rfl ?_
          refine g_iload (z := 10) C (tdec DX8_renews 60 rfl) rfl rfl ?_
          refine g_iadd C (tdec DX8_renews 61 rfl) rfl ?_
          obtain ⟨r13, y14, hF⟩ := o_bind hF
          refine g_callViRS (q0 := 0) (S := [wM cB cI cJ cZ x_0 x_1 x_2 x_3 x_4 x_5 x_6 x_7 x_8 x_9 x_10 x_11 x_12 x_13 x_14 x_15 x_16 x_17 x_18 x_19 x]) (S0 := [wM cB cI cJ cZ x_0 x_1 x_2 x_3 x_4 x_5 x_6 x_7 x_8 x_9 x_10 x_11 x_12 x_13 x_14 x_15 x_16 x_17 x_18 x_19 x]) C (c_X8_told l D cB cI cJ cZ x_0 x_1 x_2 x_3 x_4 x_5 x_6 x_7 x_8 x_9 x_10 x_11 x_12 x_13 x_14 x_15 x_16 x_17 x_18 x_19 y14) rfl rfl (gIV ml_X8_90 im_X8_told sl_X8_told in_X8 cd_X8_told) rfl eX8_told rfl ⟨rfl, rfl⟩ ⟨Nat.le_of_ble_eq_true rfl, Nat.le_of_ble_eq_true rfl⟩ rfl rfl rfl [0] rfl rfl rfl (Nat.le_of_ble_eq_true rfl) (tdec DX8_renews 62 rfl) rfl ?_
          refine g_iload (z := 7) C (tdec DX8_renews 63 rfl) rfl rfl ?_
          refine g_iconst (v := (-1)) C (tdec DX8_renews 64 rfl) (by decide) rfl ?_
          refine g_icmp_ne (pt := 121) C (tdec DX8_renews 65 rfl) (by decide) rfl (fun _ => ?_) (fun h => absurd h h12)
          refine g_aload_n (z := 0) C (tdec DX8_renews 68 rfl) rfl rfl rfl ?_
          refine g_iload_n (z := 1) C (tdec DX8_renews 69 rfl) rfl rfl rfl ?_
          refine g_bipush (v := 8) C (tdec DX8_renews 70 rfl) (by decide) rfl ?_
          refine g_iload (z := 7) C (tdec DX8_renews 71 rfl) rfl rfl ?_
          refine g_imul C (tdec DX8_renews 72 rfl) rfl ?_
          refine g_iload (z := 10) C (tdec DX8_renews 73 rfl) rfl rfl ?_
          refine g_iadd C (tdec DX8_renews 74 rfl) rfl ?_
          obtain ⟨r15, y16, hF⟩ := o_bind hF
          refine g_callViRS (q0 := 0) (S := [wM cB cI cJ cZ x_0 x_1 x_2 x_3 x_4 x_5 x_6 x_7 x_8 x_9 x_10 x_11 x_12 x_13 x_14 x_15 x_16 x_17 x_18 x_19 x]) (S0 := [wM cB cI cJ cZ x_0 x_1 x_2 x_3 x_4 x_5 x_6 x_7 x_8 x_9 x_10 x_11 x_12 x_13 x_14 x_15 x_16 x_17 x_18 x_19 x]) C (c_X8_born l D cB cI cJ cZ x_0 x_1 x_2 x_3 x_4 x_5 x_6 x_7 x_8 x_9 x_10 x_11 x_12 x_13 x_14 x_15 x_16 x_17 x_18 x_19 y16) rfl rfl (gIV ml_X8_97 im_X8_born sl_X8_born in_X8 cd_X8_born) rfl eX8_born rfl ⟨rfl, rfl⟩ ⟨Nat.le_of_ble_eq_true rfl, Nat.le_of_ble_eq_true rfl⟩ rfl rfl rfl [0] rfl rfl rfl (Nat.le_of_ble_eq_true rfl) (tdec DX8_renews 75 rfl) rfl ?_
          obtain ⟨s17, y18, hF⟩ := o_bind hF
          refine g_callVvMS (q0 := 0) (W' := wM cB cI cJ cZ x_0 x_1 x_2 x_3 x_4 x_5 x_6 x_7 x_8 x_9 x_10 x_11 x_12 x_13 x_14 x_15 x_16 x_17 x_18 x_19 s17) (S := [wM cB cI cJ cZ x_0 x_1 x_2 x_3 x_4 x_5 x_6 x_7 x_8 x_9 x_10 x_11 x_12 x_13 x_14 x_15 x_16 x_17 x_18 x_19 x]) (S0 := [wM cB cI cJ cZ x_0 x_1 x_2 x_3 x_4 x_5 x_6 x_7 x_8 x_9 x_10 x_11 x_12 x_13 x_14 x_15 x_16 x_17 x_18 x_19 x]) (S1 := [wM cB cI cJ cZ x_0 x_1 x_2 x_3 x_4 x_5 x_6 x_7 x_8 x_9 x_10 x_11 x_12 x_13 x_14 x_15 x_16 x_17 x_18 x_19 s17]) (S' := [wM cB cI cJ cZ x_0 x_1 x_2 x_3 x_4 x_5 x_6 x_7 x_8 x_9 x_10 x_11 x_12 x_13 x_14 x_15 x_16 x_17 x_18 x_19 s17]) C (c_X8_point l D cB cI cJ cZ x_0 x_1 x_2 x_3 x_4 x_5 x_6 x_7 x_8 x_9 x_10 x_11 x_12 x_13 x_14 x_15 x_16 x_17 x_18 x_19 y18) rfl rfl (gIV ml_X8_103 im_X8_point sl_X8_point in_X8 cd_X8_point) rfl eX8_point rfl ⟨rfl, rfl⟩ ⟨Nat.le_of_ble_eq_true rfl, Nat.le_of_ble_eq_true rfl⟩ rfl rfl rfl [0] rfl rfl rfl rfl (gA_cons aM gA_nil) rfl rfl (Nat.le_of_ble_eq_true rfl) (tdec DX8_renews 76 rfl) rfl ?_
          refine g_iinc (z := 10) (v := (v10 + 1)) (L' := [(10, .int (v10 + 1)), (0, .ref x_0), (1, .int v1), (2, .int v2), (3, .int v3), (4, .int v4), (5, .int v5), (6, .int v6), (7, .int v7), (8, .int v8), (9, .int v9)]) C (tdec DX8_renews 77 rfl) rfl rfl (by decide) rfl rfl ?_
          refine g_goto (pt := 64) C (tdec DX8_renews 78 rfl) (by decide) ?_
          refine g_sub (L' := [(0, .ref x_0), (1, .int v1), (2, .int v2), (3, .int v3), (4, .int v4), (5, .int v5), (6, .int v6), (7, .int v7), (8, .int v8), (9, .int v9), (10, .int (v10 + 1))]) [1, 2, 3, 4, 5, 6, 7, 8, 9, 10, 0] rfl ?_
          exact ih9 _ _ hF
        · have hF := o_ifp hF h12
          refine g_iconst (v := (-1)) C (tdec DX8_renews 53 rfl) (by decide) rfl ?_
          refine g_goto (pt := 110) C (tdec DX8_renews 54 rfl) (by decide) ?_
          refine g_iload (z := 7) C (tdec DX8_renews 63 rfl) rfl rfl ?_
          refine g_iconst (v := (-1)) C (tdec DX8_renews 64 rfl) (by decide) rfl ?_
          refine g_icmp_ne (pt := 121) C (tdec DX8_renews 65 rfl) (by decide) rfl (fun h => absurd h12 h) (fun _ => ?_)
          refine g_iload (z := 8) C (tdec DX8_renews 66 rfl) rfl rfl ?_
          refine g_goto (pt := 134) C (tdec DX8_renews 67 rfl) (by decide) ?_
          obtain ⟨s19, y20, hF⟩ := o_bind hF
          refine g_callVvMS (q0 := 0) (W' := wM cB cI cJ cZ x_0 x_1 x_2 x_3 x_4 x_5 x_6 x_7 x_8 x_9 x_10 x_11 x_12 x_13 x_14 x_15 x_16 x_17 x_18 x_19 s19) (S := [wM cB cI cJ cZ x_0 x_1 x_2 x_3 x_4 x_5 x_6 x_7 x_8 x_9 x_10 x_11 x_12 x_13 x_14 x_15 x_16 x_17 x_18 x_19 x]) (S0 := [wM cB cI cJ cZ x_0 x_1 x_2 x_3 x_4 x_5 x_6 x_7 x_8 x_9 x_10 x_11 x_12 x_13 x_14 x_15 x_16 x_17 x_18 x_19 x]) (S1 := [wM cB cI cJ cZ x_0 x_1 x_2 x_3 x_4 x_5 x_6 x_7 x_8 x_9 x_10 x_11 x_12 x_13 x_14 x_15 x_16 x_17 x_18 x_19 s19]) (S' := [wM cB cI cJ cZ x_0 x_1 x_2 x_3 x_4 x_5 x_6 x_7 x_8 x_9 x_10 x_11 x_12 x_13 x_14 x_15 x_16 x_17 x_18 x_19 s19]) C (c_X8_point l D cB cI cJ cZ x_0 x_1 x_2 x_3 x_4 x_5 x_6 x_7 x_8 x_9 x_10 x_11 x_12 x_13 x_14 x_15 x_16 x_17 x_18 x_19 y20) rfl rfl (gIV ml_X8_103 im_X8_point sl_X8_point in_X8 cd_X8_point) rfl eX8_point rfl ⟨rfl, rfl⟩ ⟨Nat.le_of_ble_eq_true rfl, Nat.le_of_ble_eq_true rfl⟩ rfl rfl rfl [0] rfl rfl rfl rfl (gA_cons aM gA_nil) rfl rfl (Nat.le_of_ble_eq_true rfl) (tdec DX8_renews 76 rfl) rfl ?_
          refine g_iinc (z := 10) (v := (v10 + 1)) (L' := [(10, .int (v10 + 1)), (0, .ref x_0), (1, .int v1), (2, .int v2), (3, .int v3), (4, .int v4), (5, .int v5), (6, .int v6), (7, .int v7), (8, .int v8), (9, .int v9)]) C (tdec DX8_renews 77 rfl) rfl rfl (by decide) rfl rfl ?_
          refine g_goto (pt := 64) C (tdec DX8_renews 78 rfl) (by decide) ?_
          refine g_sub (L' := [(0, .ref x_0), (1, .int v1), (2, .int v2), (3, .int v3), (4, .int v4), (5, .int v5), (6, .int v6), (7, .int v7), (8, .int v8), (9, .int v9), (10, .int (v10 + 1))]) [1, 2, 3, 4, 5, 6, 7, 8, 9, 10, 0] rfl ?_
          exact ih9 _ _ hF
set_option maxHeartbeats 4000000 in
set_option maxRecDepth 100000 in
theorem c_FX8_renews_L8 {p : Program} {l : Launch} {e : Env} {s : State} {m : MethodId} {args : Array Value} {below : List Frame} {meth : Method} {c : Code} {D : va_G} {cB cI cJ cZ : ClassId} {x_0 x_1 x_2 x_3 x_4 x_5 x_6 x_7 x_8 x_9 x_10 x_11 x_12 x_13 x_14 x_15 x_16 x_17 x_18 x_19 : Nat} {x0 : MS} {res : MS} (C : gC p s m args meth c cX8_renews 11 RX8 wsX8_renews D (gT cB cI cJ cZ) none (va_A (wM cB cI cJ cZ x_0 x_1 x_2 x_3 x_4 x_5 x_6 x_7 x_8 x_9 x_10 x_11 x_12 x_13 x_14 x_15 x_16 x_17 x_18 x_19 x0) s.heap.size)) {v1 : Int32} {v2 : Int32} {v3 : Int32} {v4 : Int32} {k9 : MS → Int32 → Int32 → Option (MS)} (hk9 : ∀ (x : MS) (v5 : Int32) (v6 : Int32), k9 x v5 v6 = some res → gG p l e (headSpec wsX8_renews rX8_renews).room s m args below meth c 0 0 D (va_A (wM cB cI cJ cZ x_0 x_1 x_2 x_3 x_4 x_5 x_6 x_7 x_8 x_9 x_10 x_11 x_12 x_13 x_14 x_15 x_16 x_17 x_18 x_19 x0) s.heap.size) (va_A (wM cB cI cJ cZ x_0 x_1 x_2 x_3 x_4 x_5 x_6 x_7 x_8 x_9 x_10 x_11 x_12 x_13 x_14 x_15 x_16 x_17 x_18 x_19 x0) s.heap.size) 11 (MQ below (gQv D (wM cB cI cJ cZ x_0 x_1 x_2 x_3 x_4 x_5 x_6 x_7 x_8 x_9 x_10 x_11 x_12 x_13 x_14 x_15 x_16 x_17 x_18 x_19 x0) s.heap.size (wM cB cI cJ cZ x_0 x_1 x_2 x_3 x_4 x_5 x_6 x_7 x_8 x_9 x_10 x_11 x_12 x_13 x_14 x_15 x_16 x_17 x_18 x_19 res)) args s 0 0 (va_A (wM cB cI cJ cZ x_0 x_1 x_2 x_3 x_4 x_5 x_6 x_7 x_8 x_9 x_10 x_11 x_12 x_13 x_14 x_15 x_16 x_17 x_18 x_19 x0) s.heap.size)) (wM cB cI cJ cZ x_0 x_1 x_2 x_3 x_4 x_5 x_6 x_7 x_8 x_9 x_10 x_11 x_12 x_13 x_14 x_15 x_16 x_17 x_18 x_19 x) 191 [(0, .ref x_0), (1, .int v1), (2, .int v2), (3, .int v3), (4, .int v4), (5, .int v5), (6, .int v6)] []) :
    ∀ (n9 : Nat) (x : MS) (v5 : Int32) (v6 : Int32), FX8_renews_L8 v1 v2 v3 v4 k9 n9 x v5 v6 = some res → gG p l e (headSpec wsX8_renews rX8_renews).room s m args below meth c 0 0 D (va_A (wM cB cI cJ cZ x_0 x_1 x_2 x_3 x_4 x_5 x_6 x_7 x_8 x_9 x_10 x_11 x_12 x_13 x_14 x_15 x_16 x_17 x_18 x_19 x0) s.heap.size) (va_A (wM cB cI cJ cZ x_0 x_1 x_2 x_3 x_4 x_5 x_6 x_7 x_8 x_9 x_10 x_11 x_12 x_13 x_14 x_15 x_16 x_17 x_18 x_19 x0) s.heap.size) 11 (MQ below (gQv D (wM cB cI cJ cZ x_0 x_1 x_2 x_3 x_4 x_5 x_6 x_7 x_8 x_9 x_10 x_11 x_12 x_13 x_14 x_15 x_16 x_17 x_18 x_19 x0) s.heap.size (wM cB cI cJ cZ x_0 x_1 x_2 x_3 x_4 x_5 x_6 x_7 x_8 x_9 x_10 x_11 x_12 x_13 x_14 x_15 x_16 x_17 x_18 x_19 res)) args s 0 0 (va_A (wM cB cI cJ cZ x_0 x_1 x_2 x_3 x_4 x_5 x_6 x_7 x_8 x_9 x_10 x_11 x_12 x_13 x_14 x_15 x_16 x_17 x_18 x_19 x0) s.heap.size)) (wM cB cI cJ cZ x_0 x_1 x_2 x_3 x_4 x_5 x_6 x_7 x_8 x_9 x_10 x_11 x_12 x_13 x_14 x_15 x_16 x_17 x_18 x_19 x) 8 [(0, .ref x_0), (1, .int v1), (2, .int v2), (3, .int v3), (4, .int v4), (5, .int v5), (6, .int v6)] [] := by
  intro n9
  induction n9 with
  | zero =>
    intro x v5 v6 hF
    exact absurd hF (by simp [FX8_renews_L8])
  | succ n9 ih9 =>
    intro x v5 v6 hF
    rw [FX8_renews_L8] at hF
    refine g_iload (z := 6) C (tdec DX8_renews 6 rfl) rfl rfl ?_
    refine g_iload (z := 4) C (tdec DX8_renews 7 rfl) rfl rfl ?_
    refine g_icmp_ge (pt := 191) C (tdec DX8_renews 8 rfl) (by decide) rfl (fun h1 => ?_) (fun h1 => ?_)
    · have hF := o_ifp hF h1
      refine g_sub (L' := [(0, .ref x_0), (1, .int v1), (2, .int v2), (3, .int v3), (4, .int v4), (5, .int v5), (6, .int v6)]) [0, 1, 2, 3, 4, 5, 6] rfl ?_
      exact hk9 _ _ _ hF
    · have hF := o_ifn hF h1
      refine g_aload_n (z := 0) C (tdec DX8_renews 9 rfl) rfl rfl rfl ?_
      refine g_iload_n (z := 1) C (tdec DX8_renews 10 rfl) rfl rfl rfl ?_
      refine g_iload (z := 5) C (tdec DX8_renews 11 rfl) rfl rfl ?_
      obtain ⟨r2, y3, hF⟩ := o_bind hF
      refine g_callViRS (q0 := 0) (S := [wM cB cI cJ cZ x_0 x_1 x_2 x_3 x_4 x_5 x_6 x_7 x_8 x_9 x_10 x_11 x_12 x_13 x_14 x_15 x_16 x_17 x_18 x_19 x]) (S0 := [wM cB cI cJ cZ x_0 x_1 x_2 x_3 x_4 x_5 x_6 x_7 x_8 x_9 x_10 x_11 x_12 x_13 x_14 x_15 x_16 x_17 x_18 x_19 x]) C (c_X8_told l D cB cI cJ cZ x_0 x_1 x_2 x_3 x_4 x_5 x_6 x_7 x_8 x_9 x_10 x_11 x_12 x_13 x_14 x_15 x_16 x_17 x_18 x_19 y3) rfl rfl (gIV ml_X8_90 im_X8_told sl_X8_told in_X8 cd_X8_told) rfl eX8_told rfl ⟨rfl, rfl⟩ ⟨Nat.le_of_ble_eq_true rfl, Nat.le_of_ble_eq_true rfl⟩ rfl rfl rfl [0] rfl rfl rfl (Nat.le_of_ble_eq_true rfl) (tdec DX8_renews 12 rfl) rfl ?_
      refine g_istore (L' := [(7, .int r2), (0, .ref x_0), (1, .int v1), (2, .int v2), (3, .int v3), (4, .int v4), (5, .int v5), (6, .int v6)]) C (tdec DX8_renews 13 rfl) (by decide) rfl rfl ?_
      refine g_aload_n (z := 1) C (tdec DX8_renews 14 rfl) rfl rfl rfl ?_
      refine g_iload_n (z := 2) C (tdec DX8_renews 15 rfl) rfl rfl rfl ?_
      refine g_iload (z := 6) C (tdec DX8_renews 16 rfl) rfl rfl ?_
      obtain ⟨r4, y5, hF⟩ := o_bind hF
      refine g_callViRS (q0 := 0) (S := [wM cB cI cJ cZ x_0 x_1 x_2 x_3 x_4 x_5 x_6 x_7 x_8 x_9 x_10 x_11 x_12 x_13 x_14 x_15 x_16 x_17 x_18 x_19 x]) (S0 := [wM cB cI cJ cZ x_0 x_1 x_2 x_3 x_4 x_5 x_6 x_7 x_8 x_9 x_10 x_11 x_12 x_13 x_14 x_15 x_16 x_17 x_18 x_19 x]) C (c_X8_born l D cB cI cJ cZ x_0 x_1 x_2 x_3 x_4 x_5 x_6 x_7 x_8 x_9 x_10 x_11 x_12 x_13 x_14 x_15 x_16 x_17 x_18 x_19 y5) rfl rfl (gIV ml_X8_97 im_X8_born sl_X8_born in_X8 cd_X8_born) rfl eX8_born rfl ⟨rfl, rfl⟩ ⟨Nat.le_of_ble_eq_true rfl, Nat.le_of_ble_eq_true rfl⟩ rfl rfl rfl [0] rfl rfl rfl (Nat.le_of_ble_eq_true rfl) (tdec DX8_renews 17 rfl) rfl ?_
      refine g_istore (L' := [(8, .int r4), (7, .int r2), (0, .ref x_0), (1, .int v1), (2, .int v2), (3, .int v3), (4, .int v4), (5, .int v5), (6, .int v6)]) C (tdec DX8_renews 18 rfl) (by decide) rfl rfl ?_
      refine g_iload (z := 1) C (tdec DX8_renews 19 rfl) rfl rfl ?_
      refine g_iconst (v := (-1)) C (tdec DX8_renews 20 rfl) (by decide) rfl ?_
      refine g_icmp_eq (pt := 50) C (tdec DX8_renews 21 rfl) (by decide) rfl (fun h6 => ?_) (fun h6 => ?_)
      · have hF := o_ifp hF h6
        refine g_aload_n (z := 2) C (tdec DX8_renews 28 rfl) rfl rfl rfl ?_
        refine g_iload_n (z := 3) C (tdec DX8_renews 29 rfl) rfl rfl rfl ?_
        refine g_iconst (v := 3) C (tdec DX8_renews 30 rfl) (by decide) rfl ?_
        refine g_iload (z := 8) C (tdec DX8_renews 31 rfl) rfl rfl ?_
        refine g_isub C (tdec DX8_renews 32 rfl) rfl ?_
        obtain ⟨⟨r7, s8⟩, y9, hF⟩ := o_bind hF
        refine g_callViMS (q0 := 0) (W' := wM cB cI cJ cZ x_0 x_1 x_2 x_3 x_4 x_5 x_6 x_7 x_8 x_9 x_10 x_11 x_12 x_13 x_14 x_15 x_16 x_17 x_18 x_19 s8) (S := [wM cB cI cJ cZ x_0 x_1 x_2 x_3 x_4 x_5 x_6 x_7 x_8 x_9 x_10 x_11 x_12 x_13 x_14 x_15 x_16 x_17 x_18 x_19 x]) (S0 := [wM cB cI cJ cZ x_0 x_1 x_2 x_3 x_4 x_5 x_6 x_7 x_8 x_9 x_10 x_11 x_12 x_13 x_14 x_15 x_16 x_17 x_18 x_19 x]) (S1 := [wM cB cI cJ cZ x_0 x_1 x_2 x_3 x_4 x_5 x_6 x_7 x_8 x_9 x_10 x_11 x_12 x_13 x_14 x_15 x_16 x_17 x_18 x_19 s8]) (S' := [wM cB cI cJ cZ x_0 x_1 x_2 x_3 x_4 x_5 x_6 x_7 x_8 x_9 x_10 x_11 x_12 x_13 x_14 x_15 x_16 x_17 x_18 x_19 s8]) C (c_X8_take l D cB cI cJ cZ x_0 x_1 x_2 x_3 x_4 x_5 x_6 x_7 x_8 x_9 x_10 x_11 x_12 x_13 x_14 x_15 x_16 x_17 x_18 x_19 y9) rfl rfl (gIV ml_X8_100 im_X8_take sl_X8_take in_X8 cd_X8_take) rfl eX8_take rfl ⟨rfl, rfl⟩ ⟨Nat.le_of_ble_eq_true rfl, Nat.le_of_ble_eq_true rfl⟩ rfl rfl rfl [0] rfl rfl rfl rfl (gA_cons aM gA_nil) rfl rfl (Nat.le_of_ble_eq_true rfl) (tdec DX8_renews 33 rfl) rfl ?_
        refine g_istore (L' := [(9, .int r7), (8, .int r4), (7, .int r2), (0, .ref x_0), (1, .int v1), (2, .int v2), (3, .int v3), (4, .int v4), (5, .int v5), (6, .int v6)]) C (tdec DX8_renews 34 rfl) (by decide) rfl rfl ?_
        refine g_iconst (v := 0) C (tdec DX8_renews 35 rfl) (by decide) rfl ?_
        refine g_istore (L' := [(10, .int 0), (9, .int r7), (8, .int r4), (7, .int r2), (0, .ref x_0), (1, .int v1), (2, .int v2), (3, .int v3), (4, .int v4), (5, .int v5), (6, .int v6)]) C (tdec DX8_renews 36 rfl) (by decide) rfl rfl ?_
        refine g_sub (L' := [(0, .ref x_0), (1, .int v1), (2, .int v2), (3, .int v3), (4, .int v4), (5, .int v5), (6, .int v6), (7, .int r2), (8, .int r4), (9, .int r7), (10, .int 0)]) [4, 5, 6, 7, 8, 9, 10, 3, 2, 1, 0] rfl ?_
        refine c_FX8_renews_L64 C (fun xq21 w10_21 hF => ?_) 100000 _ _ hF
        refine g_aload_n (z := 0) C (tdec DX8_renews 79 rfl) rfl rfl rfl ?_
        refine g_iload_n (z := 1) C (tdec DX8_renews 80 rfl) rfl rfl rfl ?_
        refine g_iload (z := 5) C (tdec DX8_renews 81 rfl) rfl rfl ?_
        refine g_iload (z := 9) C (tdec DX8_renews 82 rfl) rfl rfl ?_
        refine g_aload_n (z := 0) C (tdec DX8_renews 83 rfl) rfl rfl rfl ?_
        refine g_getf (C' := RX8) (T := TX8) (N := 27) (v := .ref x_9) C 0 9 (gIn iw_X8) rfl rfl (by decide) (gMem fl_X8_36) rfl rfl (tdec DX8_renews 84 rfl) rfl ?_
        refine g_iload_n (z := 1) C (tdec DX8_renews 85 rfl) rfl rfl rfl ?_
        obtain ⟨r22, y23, hF⟩ := o_bind hF
        refine g_iald C 9 1 rfl rfl y23 (tdec DX8_renews 86 rfl) rfl ?_
        obtain ⟨s24, y25, hF⟩ := o_bind hF
        refine g_callVvMS (q0 := 0) (W' := wM cB cI cJ cZ x_0 x_1 x_2 x_3 x_4 x_5 x_6 x_7 x_8 x_9 x_10 x_11 x_12 x_13 x_14 x_15 x_16 x_17 x_18 x_19 s24) (S := [wM cB cI cJ cZ x_0 x_1 x_2 x_3 x_4 x_5 x_6 x_7 x_8 x_9 x_10 x_11 x_12 x_13 x_14 x_15 x_16 x_17 x_18 x_19 xq21]) (S0 := [wM cB cI cJ cZ x_0 x_1 x_2 x_3 x_4 x_5 x_6 x_7 x_8 x_9 x_10 x_11 x_12 x_13 x_14 x_15 x_16 x_17 x_18 x_19 xq21]) (S1 := [wM cB cI cJ cZ x_0 x_1 x_2 x_3 x_4 x_5 x_6 x_7 x_8 x_9 x_10 x_11 x_12 x_13 x_14 x_15 x_16 x_17 x_18 x_19 s24]) (S' := [wM cB cI cJ cZ x_0 x_1 x_2 x_3 x_4 x_5 x_6 x_7 x_8 x_9 x_10 x_11 x_12 x_13 x_14 x_15 x_16 x_17 x_18 x_19 s24]) C (c_X8_point l D cB cI cJ cZ x_0 x_1 x_2 x_3 x_4 x_5 x_6 x_7 x_8 x_9 x_10 x_11 x_12 x_13 x_14 x_15 x_16 x_17 x_18 x_19 y25) rfl rfl (gIV ml_X8_103 im_X8_point sl_X8_point in_X8 cd_X8_point) rfl eX8_point rfl ⟨rfl, rfl⟩ ⟨Nat.le_of_ble_eq_true rfl, Nat.le_of_ble_eq_true rfl⟩ rfl rfl rfl [0] rfl rfl rfl rfl (gA_cons aM gA_nil) rfl rfl (Nat.le_of_ble_eq_true rfl) (tdec DX8_renews 87 rfl) rfl ?_
        refine g_iload (z := 6) C (tdec DX8_renews 88 rfl) rfl rfl ?_
        refine g_iconst (v := 3) C (tdec DX8_renews 89 rfl) (by decide) rfl ?_
        refine g_icmp_ge (pt := 185) C (tdec DX8_renews 90 rfl) (by decide) rfl (fun h26 => ?_) (fun h26 => ?_)
        · have hF := o_ifp hF h26
          refine g_iinc (z := 6) (v := (v6 + 1)) (L' := [(6, .int (v6 + 1)), (0, .ref x_0), (1, .int v1), (2, .int v2), (3, .int v3), (4, .int v4), (5, .int v5), (7, .int r2), (8, .int r4), (9, .int r7), (10, .int w10_21)]) C (tdec DX8_renews 104 rfl) rfl rfl (by decide) rfl rfl ?_
          refine g_goto (pt := 8) C (tdec DX8_renews 105 rfl) (by decide) ?_
          refine g_sub (L' := [(0, .ref x_0), (1, .int v1), (2, .int v2), (3, .int v3), (4, .int v4), (5, .int v5), (6, .int (v6 + 1))]) [1, 2, 3, 4, 5, 6, 0] rfl ?_
          exact ih9 _ _ _ hF
        · have hF := o_ifn hF h26
          refine g_bipush (v := 8) C (tdec DX8_renews 91 rfl) (by decide) rfl ?_
          refine g_aload_n (z := 0) C (tdec DX8_renews 92 rfl) rfl rfl rfl ?_
          refine g_iload_n (z := 1) C (tdec DX8_renews 93 rfl) rfl rfl rfl ?_
          refine g_iload (z := 5) C (tdec DX8_renews 94 rfl) rfl rfl ?_
          obtain ⟨r27, y28, hF⟩ := o_bind hF
          refine g_callViRS (q0 := 0) (S := [wM cB cI cJ cZ x_0 x_1 x_2 x_3 x_4 x_5 x_6 x_7 x_8 x_9 x_10 x_11 x_12 x_13 x_14 x_15 x_16 x_17 x_18 x_19 s24]) (S0 := [wM cB cI cJ cZ x_0 x_1 x_2 x_3 x_4 x_5 x_6 x_7 x_8 x_9 x_10 x_11 x_12 x_13 x_14 x_15 x_16 x_17 x_18 x_19 s24]) C (c_X8_told l D cB cI cJ cZ x_0 x_1 x_2 x_3 x_4 x_5 x_6 x_7 x_8 x_9 x_10 x_11 x_12 x_13 x_14 x_15 x_16 x_17 x_18 x_19 y28) rfl rfl (gIV ml_X8_90 im_X8_told sl_X8_told in_X8 cd_X8_told) rfl eX8_told rfl ⟨rfl, rfl⟩ ⟨Nat.le_of_ble_eq_true rfl, Nat.le_of_ble_eq_true rfl⟩ rfl rfl rfl [0] rfl rfl rfl (Nat.le_of_ble_eq_true rfl) (tdec DX8_renews 95 rfl) rfl ?_
          refine g_imul C (tdec DX8_renews 96 rfl) rfl ?_
          refine g_iload_n (z := 3) C (tdec DX8_renews 97 rfl) rfl rfl rfl ?_
          refine g_iload (z := 6) C (tdec DX8_renews 98 rfl) rfl rfl ?_
          refine g_iconst (v := 1) C (tdec DX8_renews 99 rfl) (by decide) rfl ?_
          refine g_iadd C (tdec DX8_renews 100 rfl) rfl ?_
          obtain ⟨r29, y30, hF⟩ := o_bind hF
          refine g_callSiR C (c_X8_turn l D cB cI cJ cZ y30) (gIS ml_X8_94 st_X8_turn in_X8 cd_X8_turn) eX8_turn rfl ⟨rfl, rfl⟩ ⟨Nat.le_of_ble_eq_true rfl, Nat.le_of_ble_eq_true rfl⟩ rfl [] rfl rfl rfl (Nat.le_of_ble_eq_true rfl) (tdec DX8_renews 101 rfl) rfl ?_
          refine g_iadd C (tdec DX8_renews 102 rfl) rfl ?_
          refine g_istore (L' := [(5, .int ((8 * r27) + r29)), (0, .ref x_0), (1, .int v1), (2, .int v2), (3, .int v3), (4, .int v4), (6, .int v6), (7, .int r2), (8, .int r4), (9, .int r7), (10, .int w10_21)]) C (tdec DX8_renews 103 rfl) (by decide) rfl rfl ?_
          refine g_iinc (z := 6) (v := (v6 + 1)) (L' := [(6, .int (v6 + 1)), (5, .int ((8 * r27) + r29)), (0, .ref x_0), (1, .int v1), (2, .int v2), (3, .int v3), (4, .int v4), (7, .int r2), (8, .int r4), (9, .int r7), (10, .int w10_21)]) C (tdec DX8_renews 104 rfl) rfl rfl (by decide) rfl rfl ?_
          refine g_goto (pt := 8) C (tdec DX8_renews 105 rfl) (by decide) ?_
          refine g_sub (L' := [(0, .ref x_0), (1, .int v1), (2, .int v2), (3, .int v3), (4, .int v4), (5, .int ((8 * r27) + r29)), (6, .int (v6 + 1))]) [2, 3, 4, 5, 6, 1, 0] rfl ?_
          exact ih9 _ _ _ hF
      · have hF := o_ifn hF h6
        refine g_iload (z := 0) C (tdec DX8_renews 22 rfl) rfl rfl ?_
        refine g_aload_n (z := 2) C (tdec DX8_renews 23 rfl) rfl rfl rfl ?_
        refine g_getf (C' := RX8) (T := TX8) (N := 27) (v := .ref x_9) C 0 9 (gIn iw_X8) rfl rfl (by decide) (gMem fl_X8_36) rfl rfl (tdec DX8_renews 24 rfl) rfl ?_
        refine g_iload_n (z := 3) C (tdec DX8_renews 25 rfl) rfl rfl rfl ?_
        obtain ⟨r31, y32, hF⟩ := o_bind hF
        refine g_iald C 9 1 rfl rfl y32 (tdec DX8_renews 26 rfl) rfl ?_
        refine g_icmp_eq (pt := 158) C (tdec DX8_renews 27 rfl) (by decide) rfl (fun h33 => ?_) (fun h33 => ?_)
        · have hF := o_ifp hF h33
          refine g_iload (z := 8) C (tdec DX8_renews 88 rfl) rfl rfl ?_
          refine g_iconst (v := 3) C (tdec DX8_renews 89 rfl) (by decide) rfl ?_
          refine g_icmp_ge (pt := 185) C (tdec DX8_renews 90 rfl) (by decide) rfl (fun h34 => ?_) (fun h34 => ?_)
          · have hF := o_ifp hF h34
            refine g_iinc (z := 8) (v := (v6 + 1)) (L' := [(6, .int (v6 + 1)), (8, .int r4), (7, .int r2), (0, .ref x_0), (1, .int v1), (2, .int v2), (3, .int v3), (4, .int v4), (5, .int v5)]) C (tdec DX8_renews 104 rfl) rfl rfl (by decide) rfl rfl ?_
            refine g_goto (pt := 8) C (tdec DX8_renews 105 rfl) (by decide) ?_
            refine g_sub (L' := [(0, .ref x_0), (1, .int v1), (2, .int v2), (3, .int v3), (4, .int v4), (5, .int v5), (6, .int (v6 + 1))]) [3, 4, 5, 6, 7, 8, 0] rfl ?_
            exact ih9 _ _ _ hF
          · have hF := o_ifn hF h34
            refine g_bipush (v := 8) C (tdec DX8_renews 91 rfl) (by decide) rfl ?_
            refine g_aload_n (z := 2) C (tdec DX8_renews 92 rfl) rfl rfl rfl ?_
            refine g_iload_n (z := 3) C (tdec DX8_renews 93 rfl) rfl rfl rfl ?_
            refine g_iload (z := 7) C (tdec DX8_renews 94 rfl) rfl rfl ?_
            obtain ⟨r35, y36, hF⟩ := o_bind hF
            refine g_callViRS (q0 := 0) (S := [wM cB cI cJ cZ x_0 x_1 x_2 x_3 x_4 x_5 x_6 x_7 x_8 x_9 x_10 x_11 x_12 x_13 x_14 x_15 x_16 x_17 x_18 x_19 x]) (S0 := [wM cB cI cJ cZ x_0 x_1 x_2 x_3 x_4 x_5 x_6 x_7 x_8 x_9 x_10 x_11 x_12 x_13 x_14 x_15 x_16 x_17 x_18 x_19 x]) C (c_X8_told l D cB cI cJ cZ x_0 x_1 x_2 x_3 x_4 x_5 x_6 x_7 x_8 x_9 x_10 x_11 x_12 x_13 x_14 x_15 x_16 x_17 x_18 x_19 y36) rfl rfl (gIV ml_X8_90 im_X8_told sl_X8_told in_X8 cd_X8_told) rfl eX8_told rfl ⟨rfl, rfl⟩ ⟨Nat.le_of_ble_eq_true rfl, Nat.le_of_ble_eq_true rfl⟩ rfl rfl rfl [0] rfl rfl rfl (Nat.le_of_ble_eq_true rfl) (tdec DX8_renews 95 rfl) rfl ?_
            refine g_imul C (tdec DX8_renews 96 rfl) rfl ?_
            refine g_iload_n (z := 5) C (tdec DX8_renews 97 rfl) rfl rfl rfl ?_
            refine g_iload (z := 8) C (tdec DX8_renews 98 rfl) rfl rfl ?_
            refine g_iconst (v := 1) C (tdec DX8_renews 99 rfl) (by decide) rfl ?_
            refine g_iadd C (tdec DX8_renews 100 rfl) rfl ?_
            obtain ⟨r37, y38, hF⟩ := o_bind hF
            refine g_callSiR C (c_X8_turn l D cB cI cJ cZ y38) (gIS ml_X8_94 st_X8_turn in_X8 cd_X8_turn) eX8_turn rfl ⟨rfl, rfl⟩ ⟨Nat.le_of_ble_eq_true rfl, Nat.le_of_ble_eq_true rfl⟩ rfl [] rfl rfl rfl (Nat.le_of_ble_eq_true rfl) (tdec DX8_renews 101 rfl) rfl ?_
            refine g_iadd C (tdec DX8_renews 102 rfl) rfl ?_
            refine g_istore (L' := [(5, .int ((8 * r35) + r37)), (8, .int r4), (7, .int r2), (0, .ref x_0), (1, .int v1), (2, .int v2), (3, .int v3), (4, .int v4), (6, .int v6)]) C (tdec DX8_renews 103 rfl) (by decide) rfl rfl ?_
            refine g_iinc (z := 8) (v := (v6 + 1)) (L' := [(6, .int (v6 + 1)), (5, .int ((8 * r35) + r37)), (8, .int r4), (7, .int r2), (0, .ref x_0), (1, .int v1), (2, .int v2), (3, .int v3), (4, .int v4)]) C (tdec DX8_renews 104 rfl) rfl rfl (by decide) rfl rfl ?_
            refine g_goto (pt := 8) C (tdec DX8_renews 105 rfl) (by decide) ?_
            refine g_sub (L' := [(0, .ref x_0), (1, .int v1), (2, .int v2), (3, .int v3), (4, .int v4), (5, .int ((8 * r35) + r37)), (6, .int (v6 + 1))]) [4, 5, 6, 7, 8, 1, 0] rfl ?_
            exact ih9 _ _ _ hF
        · have hF := o_ifn hF h33
          refine g_aload_n (z := 2) C (tdec DX8_renews 28 rfl) rfl rfl rfl ?_
          refine g_iload_n (z := 3) C (tdec DX8_renews 29 rfl) rfl rfl rfl ?_
          refine g_iconst (v := 3) C (tdec DX8_renews 30 rfl) (by decide) rfl ?_
          refine g_iload (z := 8) C (tdec DX8_renews 31 rfl) rfl rfl ?_
          refine g_isub C (tdec DX8_renews 32 rfl) rfl ?_
          obtain ⟨⟨r39, s40⟩, y41, hF⟩ := o_bind hF
          refine g_callViMS (q0 := 0) (W' := wM cB cI cJ cZ x_0 x_1 x_2 x_3 x_4 x_5 x_6 x_7 x_8 x_9 x_10 x_11 x_12 x_13 x_14 x_15 x_16 x_17 x_18 x_19 s40) (S := [wM cB cI cJ cZ x_0 x_1 x_2 x_3 x_4 x_5 x_6 x_7 x_8 x_9 x_10 x_11 x_12 x_13 x_14 x_15 x_16 x_17 x_18 x_19 x]) (S0 := [wM cB cI cJ cZ x_0 x_1 x_2 x_3 x_4 x_5 x_6 x_7 x_8 x_9 x_10 x_11 x_12 x_13 x_14 x_15 x_16 x_17 x_18 x_19 x]) (S1 := [wM cB cI cJ cZ x_0 x_1 x_2 x_3 x_4 x_5 x_6 x_7 x_8 x_9 x_10 x_11 x_12 x_13 x_14 x_15 x_16 x_17 x_18 x_19 s40]) (S' := [wM cB cI cJ cZ x_0 x_1 x_2 x_3 x_4 x_5 x_6 x_7 x_8 x_9 x_10 x_11 x_12 x_13 x_14 x_15 x_16 x_17 x_18 x_19 s40]) C (c_X8_take l D cB cI cJ cZ x_0 x_1 x_2 x_3 x_4 x_5 x_6 x_7 x_8 x_9 x_10 x_11 x_12 x_13 x_14 x_15 x_16 x_17 x_18 x_19 y41) rfl rfl (gIV ml_X8_100 im_X8_take sl_X8_take in_X8 cd_X8_take) rfl eX8_take rfl ⟨rfl, rfl⟩ ⟨Nat.le_of_ble_eq_true rfl, Nat.le_of_ble_eq_true rfl⟩ rfl rfl rfl [0] rfl rfl rfl rfl (gA_cons aM gA_nil) rfl rfl (Nat.le_of_ble_eq_true rfl) (tdec DX8_renews 33 rfl) rfl ?_
          refine g_istore (L' := [(9, .int r39), (8, .int r4), (7, .int r2), (0, .ref x_0), (1, .int v1), (2, .int v2), (3, .int v3), (4, .int v4), (5, .int v5), (6, .int v6)]) C (tdec DX8_renews 34 rfl) (by decide) rfl rfl ?_
          refine g_iconst (v := 0) C (tdec DX8_renews 35 rfl) (by decide) rfl ?_
          refine g_istore (L' := [(10, .int 0), (9, .int r39), (8, .int r4), (7, .int r2), (0, .ref x_0), (1, .int v1), (2, .int v2), (3, .int v3), (4, .int v4), (5, .int v5), (6, .int v6)]) C (tdec DX8_renews 36 rfl) (by decide) rfl rfl ?_
          refine g_sub (L' := [(0, .ref x_0), (1, .int v1), (2, .int v2), (3, .int v3), (4, .int v4), (5, .int v5), (6, .int v6), (7, .int r2), (8, .int r4), (9, .int r39), (10, .int 0)]) [4, 5, 6, 7, 8, 9, 10, 3, 2, 1, 0] rfl ?_
          refine c_FX8_renews_L64 C (fun xq42 w10_42 hF => ?_) 100000 _ _ hF
          refine g_aload_n (z := 0) C (tdec DX8_renews 79 rfl) rfl rfl rfl ?_
          refine g_iload_n (z := 1) C (tdec DX8_renews 80 rfl) rfl rfl rfl ?_
          refine g_iload (z := 5) C (tdec DX8_renews 81 rfl) rfl rfl ?_
          refine g_iload (z := 9) C (tdec DX8_renews 82 rfl) rfl rfl ?_
          refine g_aload_n (z := 0) C (tdec DX8_renews 83 rfl) rfl rfl rfl ?_
          refine g_getf (C' := RX8) (T := TX8) (N := 27) (v := .ref x_9) C 0 9 (gIn iw_X8) rfl rfl (by decide) (gMem fl_X8_36) rfl rfl (tdec DX8_renews 84 rfl) rfl ?_
          refine g_iload_n (z := 1) C (tdec DX8_renews 85 rfl) rfl rfl rfl ?_
          obtain ⟨r43, y44, hF⟩ := o_bind hF
          refine g_iald C 9 1 rfl rfl y44 (tdec DX8_renews 86 rfl) rfl ?_
          obtain ⟨s45, y46, hF⟩ := o_bind hF
          refine g_callVvMS (q0 := 0) (W' := wM cB cI cJ cZ x_0 x_1 x_2 x_3 x_4 x_5 x_6 x_7 x_8 x_9 x_10 x_11 x_12 x_13 x_14 x_15 x_16 x_17 x_18 x_19 s45) (S := [wM cB cI cJ cZ x_0 x_1 x_2 x_3 x_4 x_5 x_6 x_7 x_8 x_9 x_10 x_11 x_12 x_13 x_14 x_15 x_16 x_17 x_18 x_19 xq42]) (S0 := [wM cB cI cJ cZ x_0 x_1 x_2 x_3 x_4 x_5 x_6 x_7 x_8 x_9 x_10 x_11 x_12 x_13 x_14 x_15 x_16 x_17 x_18 x_19 xq42]) (S1 := [wM cB cI cJ cZ x_0 x_1 x_2 x_3 x_4 x_5 x_6 x_7 x_8 x_9 x_10 x_11 x_12 x_13 x_14 x_15 x_16 x_17 x_18 x_19 s45]) (S' := [wM cB cI cJ cZ x_0 x_1 x_2 x_3 x_4 x_5 x_6 x_7 x_8 x_9 x_10 x_11 x_12 x_13 x_14 x_15 x_16 x_17 x_18 x_19 s45]) C (c_X8_point l D cB cI cJ cZ x_0 x_1 x_2 x_3 x_4 x_5 x_6 x_7 x_8 x_9 x_10 x_11 x_12 x_13 x_14 x_15 x_16 x_17 x_18 x_19 y46) rfl rfl (gIV ml_X8_103 im_X8_point sl_X8_point in_X8 cd_X8_point) rfl eX8_point rfl ⟨rfl, rfl⟩ ⟨Nat.le_of_ble_eq_true rfl, Nat.le_of_ble_eq_true rfl⟩ rfl rfl rfl [0] rfl rfl rfl rfl (gA_cons aM gA_nil) rfl rfl (Nat.le_of_ble_eq_true rfl) (tdec DX8_renews 87 rfl) rfl ?_
          refine g_iload (z := 6) C (tdec DX8_renews 88 rfl) rfl rfl ?_
          refine g_iconst (v := 3) C (tdec DX8_renews 89 rfl) (by decide) rfl ?_
          refine g_icmp_ge (pt := 185) C (tdec DX8_renews 90 rfl) (by decide) rfl (fun h47 => ?_) (fun h47 => ?_)
          · have hF := o_ifp hF h47
            refine g_iinc (z := 6) (v := (v6 + 1)) (L' := [(6, .int (v6 + 1)), (0, .ref x_0), (1, .int v1), (2, .int v2), (3, .int v3), (4, .int v4), (5, .int v5), (7, .int r2), (8, .int r4), (9, .int r39), (10, .int w10_42)]) C (tdec DX8_renews 104 rfl) rfl rfl (by decide) rfl rfl ?_
            refine g_goto (pt := 8) C (tdec DX8_renews 105 rfl) (by decide) ?_
            refine g_sub (L' := [(0, .ref x_0), (1, .int v1), (2, .int v2), (3, .int v3), (4, .int v4), (5, .int v5), (6, .int (v6 + 1))]) [1, 2, 3, 4, 5, 6, 0] rfl ?_
            exact ih9 _ _ _ hF
          · have hF := o_ifn hF h47
            refine g_bipush (v := 8) C (tdec DX8_renews 91 rfl) (by decide) rfl ?_
            refine g_aload_n (z := 0) C (tdec DX8_renews 92 rfl) rfl rfl rfl ?_
            refine g_iload_n (z := 1) C (tdec DX8_renews 93 rfl) rfl rfl rfl ?_
            refine g_iload (z := 5) C (tdec DX8_renews 94 rfl) rfl rfl ?_
            obtain ⟨r48, y49, hF⟩ := o_bind hF
            refine g_callViRS (q0 := 0) (S := [wM cB cI cJ cZ x_0 x_1 x_2 x_3 x_4 x_5 x_6 x_7 x_8 x_9 x_10 x_11 x_12 x_13 x_14 x_15 x_16 x_17 x_18 x_19 s45]) (S0 := [wM cB cI cJ cZ x_0 x_1 x_2 x_3 x_4 x_5 x_6 x_7 x_8 x_9 x_10 x_11 x_12 x_13 x_14 x_15 x_16 x_17 x_18 x_19 s45]) C (c_X8_told l D cB cI cJ cZ x_0 x_1 x_2 x_3 x_4 x_5 x_6 x_7 x_8 x_9 x_10 x_11 x_12 x_13 x_14 x_15 x_16 x_17 x_18 x_19 y49) rfl rfl (gIV ml_X8_90 im_X8_told sl_X8_told in_X8 cd_X8_told) rfl eX8_told rfl ⟨rfl, rfl⟩ ⟨Nat.le_of_ble_eq_true rfl, Nat.le_of_ble_eq_true rfl⟩ rfl rfl rfl [0] rfl rfl rfl (Nat.le_of_ble_eq_true rfl) (tdec DX8_renews 95 rfl) rfl ?_
            refine g_imul C (tdec DX8_renews 96 rfl) rfl ?_
            refine g_iload_n (z := 3) C (tdec DX8_renews 97 rfl) rfl rfl rfl ?_
            refine g_iload (z := 6) C (tdec DX8_renews 98 rfl) rfl rfl ?_
            refine g_iconst (v := 1) C (tdec DX8_renews 99 rfl) (by decide) rfl ?_
            refine g_iadd C (tdec DX8_renews 100 rfl) rfl ?_
            obtain ⟨r50, y51, hF⟩ := o_bind hF
            refine g_callSiR C (c_X8_turn l D cB cI cJ cZ y51) (gIS ml_X8_94 st_X8_turn in_X8 cd_X8_turn) eX8_turn rfl ⟨rfl, rfl⟩ ⟨Nat.le_of_ble_eq_true rfl, Nat.le_of_ble_eq_true rfl⟩ rfl [] rfl rfl rfl (Nat.le_of_ble_eq_true rfl) (tdec DX8_renews 101 rfl) rfl ?_
            refine g_iadd C (tdec DX8_renews 102 rfl) rfl ?_
            refine g_istore (L' := [(5, .int ((8 * r48) + r50)), (0, .ref x_0), (1, .int v1), (2, .int v2), (3, .int v3), (4, .int v4), (6, .int v6), (7, .int r2), (8, .int r4), (9, .int r39), (10, .int w10_42)]) C (tdec DX8_renews 103 rfl) (by decide) rfl rfl ?_
            refine g_iinc (z := 6) (v := (v6 + 1)) (L' := [(6, .int (v6 + 1)), (5, .int ((8 * r48) + r50)), (0, .ref x_0), (1, .int v1), (2, .int v2), (3, .int v3), (4, .int v4), (7, .int r2), (8, .int r4), (9, .int r39), (10, .int w10_42)]) C (tdec DX8_renews 104 rfl) rfl rfl (by decide) rfl rfl ?_
            refine g_goto (pt := 8) C (tdec DX8_renews 105 rfl) (by decide) ?_
            refine g_sub (L' := [(0, .ref x_0), (1, .int v1), (2, .int v2), (3, .int v3), (4, .int v4), (5, .int ((8 * r48) + r50)), (6, .int (v6 + 1))]) [2, 3, 4, 5, 6, 1, 0] rfl ?_
            exact ih9 _ _ _ hF
set_option maxHeartbeats 4000000 in
set_option maxRecDepth 100000 in
theorem c_X8_renews (l : Launch) (D : va_G) (cB cI cJ cZ : ClassId) (x_0 x_1 x_2 x_3 x_4 x_5 x_6 x_7 x_8 x_9 x_10 x_11 x_12 x_13 x_14 x_15 x_16 x_17 x_18 x_19 : Nat) {x0 : MS} {p1 : Int32} {p2 : Int32} {p3 : Int32} {p4 : Int32} {res : MS} (hF : FX8_renews x0 p1 p2 p3 p4 = some res) : gMv l yX8_renews wsX8_renews rX8_renews D (gT cB cI cJ cZ) [.ref x_0, .int p1, .int p2, .int p3, .int p4] (wM cB cI cJ cZ x_0 x_1 x_2 x_3 x_4 x_5 x_6 x_7 x_8 x_9 x_10 x_11 x_12 x_13 x_14 x_15 x_16 x_17 x_18 x_19 x0) (wM cB cI cJ cZ x_0 x_1 x_2 x_3 x_4 x_5 x_6 x_7 x_8 x_9 x_10 x_11 x_12 x_13 x_14 x_15 x_16 x_17 x_18 x_19 res) := by
  refine g_enter (own := RX8) (free := (fun sz => va_A (wM cB cI cJ cZ x_0 x_1 x_2 x_3 x_4 x_5 x_6 x_7 x_8 x_9 x_10 x_11 x_12 x_13 x_14 x_15 x_16 x_17 x_18 x_19 x0) sz)) (Qc := (fun sz => gQv D (wM cB cI cJ cZ x_0 x_1 x_2 x_3 x_4 x_5 x_6 x_7 x_8 x_9 x_10 x_11 x_12 x_13 x_14 x_15 x_16 x_17 x_18 x_19 x0) sz (wM cB cI cJ cZ x_0 x_1 x_2 x_3 x_4 x_5 x_6 x_7 x_8 x_9 x_10 x_11 x_12 x_13 x_14 x_15 x_16 x_17 x_18 x_19 res))) (fun sz => va_A (wM cB cI cJ cZ x_0 x_1 x_2 x_3 x_4 x_5 x_6 x_7 x_8 x_9 x_10 x_11 x_12 x_13 x_14 x_15 x_16 x_17 x_18 x_19 x0) sz) (fun sz => Or.inr rfl) rfl (by decide) rfl (Nat.le_of_ble_eq_true rfl) rfl ?_
  intro p e s m args below meth c C
  unfold FX8_renews at hF
  refine g_iconst (v := (-1)) C (tdec DX8_renews 0 rfl) (by decide) rfl ?_
  refine g_iload_n (z := 2) C (tdec DX8_renews 1 rfl) rfl rfl rfl ?_
  refine g_isub C (tdec DX8_renews 2 rfl) rfl ?_
  refine g_istore (L' := [(5, .int ((-1) - p2)), (0, .ref x_0), (1, .int p1), (2, .int p2), (3, .int p3), (4, .int p4)]) C (tdec DX8_renews 3 rfl) (by decide) rfl rfl ?_
  refine g_iconst (v := 0) C (tdec DX8_renews 4 rfl) (by decide) rfl ?_
  refine g_istore (L' := [(6, .int 0), (5, .int ((-1) - p2)), (0, .ref x_0), (1, .int p1), (2, .int p2), (3, .int p3), (4, .int p4)]) C (tdec DX8_renews 5 rfl) (by decide) rfl rfl ?_
  refine g_sub (L' := [(0, .ref x_0), (1, .int p1), (2, .int p2), (3, .int p3), (4, .int p4), (5, .int ((-1) - p2)), (6, .int 0)]) [2, 3, 4, 5, 6, 1, 0] rfl ?_
  refine c_FX8_renews_L8 C (fun xq52 w5_52 w6_52 hF => ?_) 100000 _ _ _ hF
  have hr9 := o_some hF
  subst hr9
  exact g_vret C rfl (tdec DX8_renews 106 rfl)
def FX8_writes (x0 : MS) (p1 : Int32) (p2 : Int32) (p3 : Int32) (p4 : Int64) : Option (Int32 × MS) :=
  (FX8_ways x0 p1 p2 p3).bind fun (r1, s2) =>
  (FX8_wanted s2 p1 r1 4).bind fun r4 =>
  (FX8_freeMany s2 p1).bind fun r6 =>
  if r4 ≤ r6 then
    (FX8_renews s2 p1 p2 p3 4).bind fun s9 =>
    (FX8_ways s9 p1 p2 p3).bind fun (r11, s12) =>
    (ald 4 (MS_way s12) 3).bind fun r14 =>
    (FX8_told s12 p1 r14).bind fun r16 =>
    (lst 1200 (MS_dat s12) ((600 * p1) + r16) p4).bind fun g18 =>
    some (0, (MS_setdat s12 g18))
  else
    some (5, s2)
def rX8_writes : Room := { frames := 2, cells := 0, slots := 0, locals := 54 }
set_option maxHeartbeats 4000000 in
set_option maxRecDepth 100000 in
theorem c_X8_writes (l : Launch) (D : va_G) (cB cI cJ cZ : ClassId) (x_0 x_1 x_2 x_3 x_4 x_5 x_6 x_7 x_8 x_9 x_10 x_11 x_12 x_13 x_14 x_15 x_16 x_17 x_18 x_19 : Nat) {x0 : MS} {p1 : Int32} {p2 : Int32} {p3 : Int32} {p4 : Int64} {res : Int32 × MS} (hF : FX8_writes x0 p1 p2 p3 p4 = some res) : gMi l yX8_writes wsX8_writes rX8_writes D (gT cB cI cJ cZ) [.ref x_0, .int p1, .int p2, .int p3, .long p4] (wM cB cI cJ cZ x_0 x_1 x_2 x_3 x_4 x_5 x_6 x_7 x_8 x_9 x_10 x_11 x_12 x_13 x_14 x_15 x_16 x_17 x_18 x_19 x0) res.1 (wM cB cI cJ cZ x_0 x_1 x_2 x_3 x_4 x_5 x_6 x_7 x_8 x_9 x_10 x_11 x_12 x_13 x_14 x_15 x_16 x_17 x_18 x_19 res.2) := by
  refine g_enter (own := RX8) (free := (fun sz => va_A (wM cB cI cJ cZ x_0 x_1 x_2 x_3 x_4 x_5 x_6 x_7 x_8 x_9 x_10 x_11 x_12 x_13 x_14 x_15 x_16 x_17 x_18 x_19 x0) sz)) (Qc := (fun sz => gQi D (wM cB cI cJ cZ x_0 x_1 x_2 x_3 x_4 x_5 x_6 x_7 x_8 x_9 x_10 x_11 x_12 x_13 x_14 x_15 x_16 x_17 x_18 x_19 x0) sz res.1 (wM cB cI cJ cZ x_0 x_1 x_2 x_3 x_4 x_5 x_6 x_7 x_8 x_9 x_10 x_11 x_12 x_13 x_14 x_15 x_16 x_17 x_18 x_19 res.2))) (fun sz => va_A (wM cB cI cJ cZ x_0 x_1 x_2 x_3 x_4 x_5 x_6 x_7 x_8 x_9 x_10 x_11 x_12 x_13 x_14 x_15 x_16 x_17 x_18 x_19 x0) sz) (fun sz => Or.inr rfl) rfl (by decide) rfl (Nat.le_of_ble_eq_true rfl) rfl ?_
  intro p e s m args below meth c C
  unfold FX8_writes at hF
  refine g_aload_n (z := 0) C (tdec DX8_writes 0 rfl) rfl rfl rfl ?_
  refine g_iload_n (z := 1) C (tdec DX8_writes 1 rfl) rfl rfl rfl ?_
  refine g_iload_n (z := 2) C (tdec DX8_writes 2 rfl) rfl rfl rfl ?_
  refine g_iload_n (z := 3) C (tdec DX8_writes 3 rfl) rfl rfl rfl ?_
  obtain ⟨⟨r1, s2⟩, y3, hF⟩ := o_bind hF
  refine g_callViMS (q0 := 0) (W' := wM cB cI cJ cZ x_0 x_1 x_2 x_3 x_4 x_5 x_6 x_7 x_8 x_9 x_10 x_11 x_12 x_13 x_14 x_15 x_16 x_17 x_18 x_19 s2) (S := [wM cB cI cJ cZ x_0 x_1 x_2 x_3 x_4 x_5 x_6 x_7 x_8 x_9 x_10 x_11 x_12 x_13 x_14 x_15 x_16 x_17 x_18 x_19 x0]) (S0 := [wM cB cI cJ cZ x_0 x_1 x_2 x_3 x_4 x_5 x_6 x_7 x_8 x_9 x_10 x_11 x_12 x_13 x_14 x_15 x_16 x_17 x_18 x_19 x0]) (S1 := [wM cB cI cJ cZ x_0 x_1 x_2 x_3 x_4 x_5 x_6 x_7 x_8 x_9 x_10 x_11 x_12 x_13 x_14 x_15 x_16 x_17 x_18 x_19 s2]) (S' := [wM cB cI cJ cZ x_0 x_1 x_2 x_3 x_4 x_5 x_6 x_7 x_8 x_9 x_10 x_11 x_12 x_13 x_14 x_15 x_16 x_17 x_18 x_19 s2]) C (c_X8_ways l D cB cI cJ cZ x_0 x_1 x_2 x_3 x_4 x_5 x_6 x_7 x_8 x_9 x_10 x_11 x_12 x_13 x_14 x_15 x_16 x_17 x_18 x_19 y3) rfl rfl (gIV ml_X8_107 im_X8_ways sl_X8_ways in_X8 cd_X8_ways) rfl eX8_ways rfl ⟨rfl, rfl⟩ ⟨Nat.le_of_ble_eq_true rfl, Nat.le_of_ble_eq_true rfl⟩ rfl rfl rfl [0] rfl rfl rfl rfl (gA_cons aM gA_nil) rfl rfl (Nat.le_of_ble_eq_true rfl) (tdec DX8_writes 4 rfl) rfl ?_
  refine g_istore (L' := [(6, .int r1), (0, .ref x_0), (1, .int p1), (2, .int p2), (3, .int p3), (4, .long p4)]) C (tdec DX8_writes 5 rfl) (by decide) rfl rfl ?_
  refine g_aload_n (z := 1) C (tdec DX8_writes 6 rfl) rfl rfl rfl ?_
  refine g_iload_n (z := 2) C (tdec DX8_writes 7 rfl) rfl rfl rfl ?_
  refine g_iload (z := 0) C (tdec DX8_writes 8 rfl) rfl rfl ?_
  refine g_iconst (v := 4) C (tdec DX8_writes 9 rfl) (by decide) rfl ?_
  obtain ⟨r4, y5, hF⟩ := o_bind hF
  refine g_callViRS (q0 := 0) (S := [wM cB cI cJ cZ x_0 x_1 x_2 x_3 x_4 x_5 x_6 x_7 x_8 x_9 x_10 x_11 x_12 x_13 x_14 x_15 x_16 x_17 x_18 x_19 s2]) (S0 := [wM cB cI cJ cZ x_0 x_1 x_2 x_3 x_4 x_5 x_6 x_7 x_8 x_9 x_10 x_11 x_12 x_13 x_14 x_15 x_16 x_17 x_18 x_19 s2]) C (c_X8_wanted l D cB cI cJ cZ x_0 x_1 x_2 x_3 x_4 x_5 x_6 x_7 x_8 x_9 x_10 x_11 x_12 x_13 x_14 x_15 x_16 x_17 x_18 x_19 y5) rfl rfl (gIV ml_X8_111 im_X8_wanted sl_X8_wanted in_X8 cd_X8_wanted) rfl eX8_wanted rfl ⟨rfl, rfl⟩ ⟨Nat.le_of_ble_eq_true rfl, Nat.le_of_ble_eq_true rfl⟩ rfl rfl rfl [0] rfl rfl rfl (Nat.le_of_ble_eq_true rfl) (tdec DX8_writes 10 rfl) rfl ?_
  refine g_aload_n (z := 1) C (tdec DX8_writes 11 rfl) rfl rfl rfl ?_
  refine g_iload_n (z := 2) C (tdec DX8_writes 12 rfl) rfl rfl rfl ?_
  obtain ⟨r6, y7, hF⟩ := o_bind hF
  refine g_callViRS (q0 := 0) (S := [wM cB cI cJ cZ x_0 x_1 x_2 x_3 x_4 x_5 x_6 x_7 x_8 x_9 x_10 x_11 x_12 x_13 x_14 x_15 x_16 x_17 x_18 x_19 s2]) (S0 := [wM cB cI cJ cZ x_0 x_1 x_2 x_3 x_4 x_5 x_6 x_7 x_8 x_9 x_10 x_11 x_12 x_13 x_14 x_15 x_16 x_17 x_18 x_19 s2]) C (c_X8_freeMany l D cB cI cJ cZ x_0 x_1 x_2 x_3 x_4 x_5 x_6 x_7 x_8 x_9 x_10 x_11 x_12 x_13 x_14 x_15 x_16 x_17 x_18 x_19 y7) rfl rfl (gIV ml_X8_114 im_X8_freeMany sl_X8_freeMany in_X8 cd_X8_freeMany) rfl eX8_freeMany rfl ⟨rfl, rfl⟩ ⟨Nat.le_of_ble_eq_true rfl, Nat.le_of_ble_eq_true rfl⟩ rfl rfl rfl [0] rfl rfl rfl (Nat.le_of_ble_eq_true rfl) (tdec DX8_writes 13 rfl) rfl ?_
  refine g_icmp_le (pt := 27) C (tdec DX8_writes 14 rfl) (by decide) rfl (fun h8 => ?_) (fun h8 => ?_)
  · have hF := o_ifp hF h8
    refine g_aload_n (z := 1) C (tdec DX8_writes 17 rfl) rfl rfl rfl ?_
    refine g_iload_n (z := 2) C (tdec DX8_writes 18 rfl) rfl rfl rfl ?_
    refine g_iload_n (z := 3) C (tdec DX8_writes 19 rfl) rfl rfl rfl ?_
    refine g_iload_n (z := 4) C (tdec DX8_writes 20 rfl) rfl rfl rfl ?_
    refine g_iconst (v := 4) C (tdec DX8_writes 21 rfl) (by decide) rfl ?_
    obtain ⟨s9, y10, hF⟩ := o_bind hF
    refine g_callVvMS (q0 := 0) (W' := wM cB cI cJ cZ x_0 x_1 x_2 x_3 x_4 x_5 x_6 x_7 x_8 x_9 x_10 x_11 x_12 x_13 x_14 x_15 x_16 x_17 x_18 x_19 s9) (S := [wM cB cI cJ cZ x_0 x_1 x_2 x_3 x_4 x_5 x_6 x_7 x_8 x_9 x_10 x_11 x_12 x_13 x_14 x_15 x_16 x_17 x_18 x_19 s2]) (S0 := [wM cB cI cJ cZ x_0 x_1 x_2 x_3 x_4 x_5 x_6 x_7 x_8 x_9 x_10 x_11 x_12 x_13 x_14 x_15 x_16 x_17 x_18 x_19 s2]) (S1 := [wM cB cI cJ cZ x_0 x_1 x_2 x_3 x_4 x_5 x_6 x_7 x_8 x_9 x_10 x_11 x_12 x_13 x_14 x_15 x_16 x_17 x_18 x_19 s9]) (S' := [wM cB cI cJ cZ x_0 x_1 x_2 x_3 x_4 x_5 x_6 x_7 x_8 x_9 x_10 x_11 x_12 x_13 x_14 x_15 x_16 x_17 x_18 x_19 s9]) C (c_X8_renews l D cB cI cJ cZ x_0 x_1 x_2 x_3 x_4 x_5 x_6 x_7 x_8 x_9 x_10 x_11 x_12 x_13 x_14 x_15 x_16 x_17 x_18 x_19 y10) rfl rfl (gIV ml_X8_118 im_X8_renews sl_X8_renews in_X8 cd_X8_renews) rfl eX8_renews rfl ⟨rfl, rfl⟩ ⟨Nat.le_of_ble_eq_true rfl, Nat.le_of_ble_eq_true rfl⟩ rfl rfl rfl [0] rfl rfl rfl rfl (gA_cons aM gA_nil) rfl rfl (Nat.le_of_ble_eq_true rfl) (tdec DX8_writes 22 rfl) rfl ?_
    refine g_aload_n (z := 1) C (tdec DX8_writes 23 rfl) rfl rfl rfl ?_
    refine g_iload_n (z := 2) C (tdec DX8_writes 24 rfl) rfl rfl rfl ?_
    refine g_iload_n (z := 3) C (tdec DX8_writes 25 rfl) rfl rfl rfl ?_
    refine g_iload_n (z := 4) C (tdec DX8_writes 26 rfl) rfl rfl rfl ?_
    obtain ⟨⟨r11, s12⟩, y13, hF⟩ := o_bind hF
    refine g_callViMS (q0 := 0) (W' := wM cB cI cJ cZ x_0 x_1 x_2 x_3 x_4 x_5 x_6 x_7 x_8 x_9 x_10 x_11 x_12 x_13 x_14 x_15 x_16 x_17 x_18 x_19 s12) (S := [wM cB cI cJ cZ x_0 x_1 x_2 x_3 x_4 x_5 x_6 x_7 x_8 x_9 x_10 x_11 x_12 x_13 x_14 x_15 x_16 x_17 x_18 x_19 s9]) (S0 := [wM cB cI cJ cZ x_0 x_1 x_2 x_3 x_4 x_5 x_6 x_7 x_8 x_9 x_10 x_11 x_12 x_13 x_14 x_15 x_16 x_17 x_18 x_19 s9]) (S1 := [wM cB cI cJ cZ x_0 x_1 x_2 x_3 x_4 x_5 x_6 x_7 x_8 x_9 x_10 x_11 x_12 x_13 x_14 x_15 x_16 x_17 x_18 x_19 s12]) (S' := [wM cB cI cJ cZ x_0 x_1 x_2 x_3 x_4 x_5 x_6 x_7 x_8 x_9 x_10 x_11 x_12 x_13 x_14 x_15 x_16 x_17 x_18 x_19 s12]) C (c_X8_ways l D cB cI cJ cZ x_0 x_1 x_2 x_3 x_4 x_5 x_6 x_7 x_8 x_9 x_10 x_11 x_12 x_13 x_14 x_15 x_16 x_17 x_18 x_19 y13) rfl rfl (gIV ml_X8_107 im_X8_ways sl_X8_ways in_X8 cd_X8_ways) rfl eX8_ways rfl ⟨rfl, rfl⟩ ⟨Nat.le_of_ble_eq_true rfl, Nat.le_of_ble_eq_true rfl⟩ rfl rfl rfl [0] rfl rfl rfl rfl (gA_cons aM gA_nil) rfl rfl (Nat.le_of_ble_eq_true rfl) (tdec DX8_writes 27 rfl) rfl ?_
    refine g_pop C (tdec DX8_writes 28 rfl) rfl rfl ?_
    refine g_aload_n (z := 1) C (tdec DX8_writes 29 rfl) rfl rfl rfl ?_
    refine g_getf (C' := RX8) (T := TX8) (N := 27) (v := .ref x_5) C 0 5 (gIn iw_X8) rfl rfl (by decide) (gMem fl_X8_22) rfl rfl (tdec DX8_writes 30 rfl) rfl ?_
    refine g_sipush (v := 600) C (tdec DX8_writes 31 rfl) (by decide) rfl ?_
    refine g_iload_n (z := 2) C (tdec DX8_writes 32 rfl) rfl rfl rfl ?_
    refine g_imul C (tdec DX8_writes 33 rfl) rfl ?_
    refine g_aload_n (z := 1) C (tdec DX8_writes 34 rfl) rfl rfl rfl ?_
    refine g_iload_n (z := 2) C (tdec DX8_writes 35 rfl) rfl rfl rfl ?_
    refine g_aload_n (z := 1) C (tdec DX8_writes 36 rfl) rfl rfl rfl ?_
    refine g_getf (C' := RX8) (T := TX8) (N := 27) (v := .ref x_19) C 0 25 (gIn iw_X8) rfl rfl (by decide) (gMem fl_X8_71) rfl rfl (tdec DX8_writes 37 rfl) rfl ?_
    refine g_iconst (v := 3) C (tdec DX8_writes 38 rfl) (by decide) rfl ?_
    obtain ⟨r14, y15, hF⟩ := o_bind hF
    refine g_iald C 19 1 rfl rfl y15 (tdec DX8_writes 39 rfl) rfl ?_
    obtain ⟨r16, y17, hF⟩ := o_bind hF
    refine g_callViRS (q0 := 0) (S := [wM cB cI cJ cZ x_0 x_1 x_2 x_3 x_4 x_5 x_6 x_7 x_8 x_9 x_10 x_11 x_12 x_13 x_14 x_15 x_16 x_17 x_18 x_19 s12]) (S0 := [wM cB cI cJ cZ x_0 x_1 x_2 x_3 x_4 x_5 x_6 x_7 x_8 x_9 x_10 x_11 x_12 x_13 x_14 x_15 x_16 x_17 x_18 x_19 s12]) C (c_X8_told l D cB cI cJ cZ x_0 x_1 x_2 x_3 x_4 x_5 x_6 x_7 x_8 x_9 x_10 x_11 x_12 x_13 x_14 x_15 x_16 x_17 x_18 x_19 y17) rfl rfl (gIV ml_X8_90 im_X8_told sl_X8_told in_X8 cd_X8_told) rfl eX8_told rfl ⟨rfl, rfl⟩ ⟨Nat.le_of_ble_eq_true rfl, Nat.le_of_ble_eq_true rfl⟩ rfl rfl rfl [0] rfl rfl rfl (Nat.le_of_ble_eq_true rfl) (tdec DX8_writes 40 rfl) rfl ?_
    refine g_iadd C (tdec DX8_writes 41 rfl) rfl ?_
    refine g_lload (z := 5) C (tdec DX8_writes 42 rfl) rfl rfl ?_
    obtain ⟨g18, y19, hF⟩ := o_bind hF
    refine g_last (ws' := wM cB cI cJ cZ x_0 x_1 x_2 x_3 x_4 x_5 x_6 x_7 x_8 x_9 x_10 x_11 x_12 x_13 x_14 x_15 x_16 x_17 x_18 x_19 (MS_setdat s12 g18)) C 5 2 rfl rfl y19 rfl (tdec DX8_writes 43 rfl) rfl ?_
    refine g_iconst (v := 0) C (tdec DX8_writes 44 rfl) (by decide) rfl ?_
    have hr9 := o_some hF
    subst hr9
    exact g_iret C rfl rfl (tdec DX8_writes 45 rfl)
  · have hF := o_ifn hF h8
    refine g_iconst (v := 5) C (tdec DX8_writes 15 rfl) (by decide) rfl ?_
    have hr9 := o_some hF
    subst hr9
    exact g_iret C rfl rfl (tdec DX8_writes 16 rfl)
def FX8_hasNothing_L2 (x0 : MS) (v1 : Int32) (v2 : Int32) (k9 : Int32 → Option (Int32)) : Nat → Int32 → Option (Int32)
  | 0, _ => none
  | n9 + 1, v3 =>
    if 8 ≤ v3 then
      k9 v3
    else
      (FX8_told x0 v1 ((8 * v2) + v3)).bind fun r2 =>
      if r2 = (-1) then
        FX8_hasNothing_L2 x0 v1 v2 k9 n9 (v3 + 1)
      else
        some 0
def FX8_hasNothing (x0 : MS) (p1 : Int32) (p2 : Int32) : Option (Int32) :=
  FX8_hasNothing_L2 x0 p1 p2 (fun w3_5 =>
    some 1) 100000 0
def rX8_hasNothing : Room := { frames := 1, cells := 0, slots := 0, locals := 22 }
set_option maxHeartbeats 4000000 in
set_option maxRecDepth 100000 in
theorem c_FX8_hasNothing_L2 {p : Program} {l : Launch} {e : Env} {s : State} {m : MethodId} {args : Array Value} {below : List Frame} {meth : Method} {c : Code} {D : va_G} {cB cI cJ cZ : ClassId} {x_0 x_1 x_2 x_3 x_4 x_5 x_6 x_7 x_8 x_9 x_10 x_11 x_12 x_13 x_14 x_15 x_16 x_17 x_18 x_19 : Nat} {x0 : MS} {res : Int32} (C : gC p s m args meth c cX8_hasNothing 4 RX8 wsX8_hasNothing D (gT cB cI cJ cZ) (some .boolean) (fun _ => False)) {v1 : Int32} {v2 : Int32} {k9 : Int32 → Option (Int32)} (hk9 : ∀ (v3 : Int32), k9 v3 = some res → gG p l e (headSpec wsX8_hasNothing rX8_hasNothing).room s m args below meth c 0 0 D (fun _ => True) (fun _ => False) 4 (MQ below (gRQi res) args s 0 0 (fun _ => False)) (wM cB cI cJ cZ x_0 x_1 x_2 x_3 x_4 x_5 x_6 x_7 x_8 x_9 x_10 x_11 x_12 x_13 x_14 x_15 x_16 x_17 x_18 x_19 x0) 31 [(0, .ref x_0), (1, .int v1), (2, .int v2), (3, .int v3)] []) :
    ∀ (n9 : Nat) (v3 : Int32), FX8_hasNothing_L2 x0 v1 v2 k9 n9 v3 = some res → gG p l e (headSpec wsX8_hasNothing rX8_hasNothing).room s m args below meth c 0 0 D (fun _ => True) (fun _ => False) 4 (MQ below (gRQi res) args s 0 0 (fun _ => False)) (wM cB cI cJ cZ x_0 x_1 x_2 x_3 x_4 x_5 x_6 x_7 x_8 x_9 x_10 x_11 x_12 x_13 x_14 x_15 x_16 x_17 x_18 x_19 x0) 2 [(0, .ref x_0), (1, .int v1), (2, .int v2), (3, .int v3)] [] := by
  intro n9
  induction n9 with
  | zero =>
    intro v3 hF
    exact absurd hF (by simp [FX8_hasNothing_L2])
  | succ n9 ih9 =>
    intro v3 hF
    rw [FX8_hasNothing_L2] at hF
    refine g_iload_n (z := 3) C (tdec DX8_hasNothing 2 rfl) rfl rfl rfl ?_
    refine g_bipush (v := 8) C (tdec DX8_hasNothing 3 rfl) (by decide) rfl ?_
    refine g_icmp_ge (pt := 31) C (tdec DX8_hasNothing 4 rfl) (by decide) rfl (fun h1 => ?_) (fun h1 => ?_)
    · have hF := o_ifp hF h1
      refine g_sub (L' := [(0, .ref x_0), (1, .int v1), (2, .int v2), (3, .int v3)]) [0, 1, 2, 3] rfl ?_
      exact hk9 _ hF
    · have hF := o_ifn hF h1
      refine g_aload_n (z := 0) C (tdec DX8_hasNothing 5 rfl) rfl rfl rfl ?_
      refine g_iload_n (z := 1) C (tdec DX8_hasNothing 6 rfl) rfl rfl rfl ?_
      refine g_bipush (v := 8) C (tdec DX8_hasNothing 7 rfl) (by decide) rfl ?_
      refine g_iload_n (z := 2) C (tdec DX8_hasNothing 8 rfl) rfl rfl rfl ?_
      refine g_imul C (tdec DX8_hasNothing 9 rfl) rfl ?_
      refine g_iload_n (z := 3) C (tdec DX8_hasNothing 10 rfl) rfl rfl rfl ?_
      refine g_iadd C (tdec DX8_hasNothing 11 rfl) rfl ?_
      obtain ⟨r2, y3, hF⟩ := o_bind hF
      refine g_callViRS (q0 := 0) (S := [wM cB cI cJ cZ x_0 x_1 x_2 x_3 x_4 x_5 x_6 x_7 x_8 x_9 x_10 x_11 x_12 x_13 x_14 x_15 x_16 x_17 x_18 x_19 x0]) (S0 := [wM cB cI cJ cZ x_0 x_1 x_2 x_3 x_4 x_5 x_6 x_7 x_8 x_9 x_10 x_11 x_12 x_13 x_14 x_15 x_16 x_17 x_18 x_19 x0]) C (c_X8_told l D cB cI cJ cZ x_0 x_1 x_2 x_3 x_4 x_5 x_6 x_7 x_8 x_9 x_10 x_11 x_12 x_13 x_14 x_15 x_16 x_17 x_18 x_19 y3) rfl rfl (gIV ml_X8_90 im_X8_told sl_X8_told in_X8 cd_X8_told) rfl eX8_told rfl ⟨rfl, rfl⟩ ⟨Nat.le_of_ble_eq_true rfl, Nat.le_of_ble_eq_true rfl⟩ rfl rfl rfl [0] rfl rfl rfl (Nat.le_of_ble_eq_true rfl) (tdec DX8_hasNothing 12 rfl) rfl ?_
      refine g_iconst (v := (-1)) C (tdec DX8_hasNothing 13 rfl) (by decide) rfl ?_
      refine g_icmp_eq (pt := 25) C (tdec DX8_hasNothing 14 rfl) (by decide) rfl (fun h4 => ?_) (fun h4 => ?_)
      · have hF := o_ifp hF h4
        refine g_iinc (z := 3) (v := (v3 + 1)) (L' := [(3, .int (v3 + 1)), (0, .ref x_0), (1, .int v1), (2, .int v2)]) C (tdec DX8_hasNothing 17 rfl) rfl rfl (by decide) rfl rfl ?_
        refine g_goto (pt := 2) C (tdec DX8_hasNothing 18 rfl) (by decide) ?_
        refine g_sub (L' := [(0, .ref x_0), (1, .int v1), (2, .int v2), (3, .int (v3 + 1))]) [1, 2, 3, 0] rfl ?_
        exact ih9 _ hF
      · have hF := o_ifn hF h4
        refine g_iconst (v := 0) C (tdec DX8_hasNothing 15 rfl) (by decide) rfl ?_
        have hr9 := o_some hF
        subst hr9
        exact g_zretR C rfl rfl (tdec DX8_hasNothing 16 rfl)
set_option maxHeartbeats 4000000 in
set_option maxRecDepth 100000 in
theorem c_X8_hasNothing (l : Launch) (D : va_G) (cB cI cJ cZ : ClassId) (x_0 x_1 x_2 x_3 x_4 x_5 x_6 x_7 x_8 x_9 x_10 x_11 x_12 x_13 x_14 x_15 x_16 x_17 x_18 x_19 : Nat) {x0 : MS} {p1 : Int32} {p2 : Int32} {res : Int32} (hF : FX8_hasNothing x0 p1 p2 = some res) : gRi l yX8_hasNothing wsX8_hasNothing rX8_hasNothing D (gT cB cI cJ cZ) [.ref x_0, .int p1, .int p2] (wM cB cI cJ cZ x_0 x_1 x_2 x_3 x_4 x_5 x_6 x_7 x_8 x_9 x_10 x_11 x_12 x_13 x_14 x_15 x_16 x_17 x_18 x_19 x0) res := by
  refine g_enter (own := RX8) (free := (fun _ _ => False)) (Qc := (fun sz => gRQi res)) (fun _ _ => True) (fun sz => Or.inl rfl) rfl (by decide) rfl (Nat.le_of_ble_eq_true rfl) rfl ?_
  intro p e s m args below meth c C
  unfold FX8_hasNothing at hF
  refine g_iconst (v := 0) C (tdec DX8_hasNothing 0 rfl) (by decide) rfl ?_
  refine g_istore_n (L' := [(3, .int 0), (0, .ref x_0), (1, .int p1), (2, .int p2)]) C (tdec DX8_hasNothing 1 rfl) rfl (by decide) rfl rfl ?_
  refine g_sub (L' := [(0, .ref x_0), (1, .int p1), (2, .int p2), (3, .int 0)]) [1, 2, 3, 0] rfl ?_
  refine c_FX8_hasNothing_L2 C (fun w3_5 hF => ?_) 100000 _ hF
  refine g_iconst (v := 1) C (tdec DX8_hasNothing 19 rfl) (by decide) rfl ?_
  have hr9 := o_some hF
  subst hr9
  exact g_zretR C rfl rfl (tdec DX8_hasNothing 20 rfl)
