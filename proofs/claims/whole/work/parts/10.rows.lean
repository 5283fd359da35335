/-! PART 10.rows: walks, printed by wip/whole/walk.py -/
def FJ7_fill_53178_L5 (n : Nat) (v1 : Int32) (v3 : Int32) (k9 : (Nat → Int32) → Int32 → Option ((Nat → Int32))) : Nat → (Nat → Int32) → Int32 → Option ((Nat → Int32))
  | 0, _, _ => none
  | n9 + 1, f, v2 =>
    if v3 ≤ v2 then
      k9 f v2
    else
      (ast n f v2 v1).bind fun g2 =>
      FJ7_fill_53178_L5 n v1 v3 k9 n9 g2 (v2 + 1)
def FJ7_fill_53178 (n : Nat) (f0 : Nat → Int32) (p1 : Int32) : Option ((Nat → Int32)) :=
  FJ7_fill_53178_L5 n p1 (Int32.ofNat n) (fun fq4 w2_4 =>
    some fq4) 100000 f0 0
def rJ7_fill_53178 : Room := { frames := 0, cells := 0, slots := 0, locals := 0 }
set_option maxHeartbeats 4000000 in
set_option maxRecDepth 100000 in
theorem c_FJ7_fill_53178_L5 {p : Program} {l : Launch} {e : Env} {s : State} {m : MethodId} {args : Array Value} {below : List Frame} {meth : Method} {c : Code} {D : va_G} {cB cI cJ cZ : ClassId} {n : Nat} {f_0 : Nat} {f0 : Nat → Int32} {res : (Nat → Int32)} (C : gC p s m args meth c cJ7_fill_53178 4 RJ7 wsJ7_fill_53178 D (gT cB cI cJ cZ) none (va_A (wAR cI n f_0 f0) s.heap.size)) {v1 : Int32} {v3 : Int32} {k9 : (Nat → Int32) → Int32 → Option ((Nat → Int32))} (hk9 : ∀ (f : Nat → Int32) (v2 : Int32), k9 f v2 = some res → gG p l e (headSpec wsJ7_fill_53178 rJ7_fill_53178).room s m args below meth c 0 0 D (va_A (wAR cI n f_0 f0) s.heap.size) (va_A (wAR cI n f_0 f0) s.heap.size) 4 (MQ below (gQv D (wAR cI n f_0 f0) s.heap.size (wAR cI n f_0 res)) args s 0 0 (va_A (wAR cI n f_0 f0) s.heap.size)) (wAR cI n f_0 f) 20 [(0, .ref f_0), (1, .int v1), (2, .int v2), (3, .int v3)] []) :
    ∀ (n9 : Nat) (f : Nat → Int32) (v2 : Int32), FJ7_fill_53178_L5 n v1 v3 k9 n9 f v2 = some res → gG p l e (headSpec wsJ7_fill_53178 rJ7_fill_53178).room s m args below meth c 0 0 D (va_A (wAR cI n f_0 f0) s.heap.size) (va_A (wAR cI n f_0 f0) s.heap.size) 4 (MQ below (gQv D (wAR cI n f_0 f0) s.heap.size (wAR cI n f_0 res)) args s 0 0 (va_A (wAR cI n f_0 f0) s.heap.size)) (wAR cI n f_0 f) 5 [(0, .ref f_0), (1, .int v1), (2, .int v2), (3, .int v3)] [] := by
  intro n9
  induction n9 with
  | zero =>
    intro f v2 hF
    exact absurd hF (by simp [FJ7_fill_53178_L5])
  | succ n9 ih9 =>
    intro f v2 hF
    rw [FJ7_fill_53178_L5] at hF
    refine g_iload_n (z := 2) C (tdec DJ7_fill_53178 5 rfl) rfl rfl rfl ?_
    refine g_iload_n (z := 3) C (tdec DJ7_fill_53178 6 rfl) rfl rfl rfl ?_
    refine g_icmp_ge (pt := 20) C (tdec DJ7_fill_53178 7 rfl) (by decide) rfl (fun h1 => ?_) (fun h1 => ?_)
    · have hF := o_ifp hF h1
      refine g_sub (L' := [(0, .ref f_0), (1, .int v1), (2, .int v2), (3, .int v3)]) [0, 1, 2, 3] rfl ?_
      exact hk9 _ _ hF
    · have hF := o_ifn hF h1
      refine g_aload_n (z := 0) C (tdec DJ7_fill_53178 8 rfl) rfl rfl rfl ?_
      refine g_iload_n (z := 2) C (tdec DJ7_fill_53178 9 rfl) rfl rfl rfl ?_
      refine g_iload_n (z := 1) C (tdec DJ7_fill_53178 10 rfl) rfl rfl rfl ?_
      obtain ⟨g2, y3, hF⟩ := o_bind hF
      refine g_iast (ws' := wAR cI n f_0 g2) C 0 1 rfl rfl y3 rfl (tdec DJ7_fill_53178 11 rfl) rfl ?_
      refine g_iinc (z := 2) (v := (v2 + 1)) (L' := [(2, .int (v2 + 1)), (0, .ref f_0), (1, .int v1), (3, .int v3)]) C (tdec DJ7_fill_53178 12 rfl) rfl rfl (by decide) rfl rfl ?_
      refine g_goto (pt := 5) C (tdec DJ7_fill_53178 13 rfl) (by decide) ?_
      refine g_sub (L' := [(0, .ref f_0), (1, .int v1), (2, .int (v2 + 1)), (3, .int v3)]) [1, 2, 0, 3] rfl ?_
      exact ih9 _ _ hF
set_option maxHeartbeats 4000000 in
set_option maxRecDepth 100000 in
theorem c_J7_fill_53178 (l : Launch) (D : va_G) (cB cI cJ cZ : ClassId) (f_0 : Nat) {n : Nat} {f0 : Nat → Int32} {p1 : Int32} {res : (Nat → Int32)} (hF : FJ7_fill_53178 n f0 p1 = some res) : gMv l yJ7_fill_53178 wsJ7_fill_53178 rJ7_fill_53178 D (gT cB cI cJ cZ) [.ref f_0, .int p1] (wAR cI n f_0 f0) (wAR cI n f_0 res) := by
  refine g_enter (own := RJ7) (free := (fun sz => va_A (wAR cI n f_0 f0) sz)) (Qc := (fun sz => gQv D (wAR cI n f_0 f0) sz (wAR cI n f_0 res))) (fun sz => va_A (wAR cI n f_0 f0) sz) (fun sz => Or.inr rfl) rfl (by decide) rfl (Nat.le_of_ble_eq_true rfl) rfl ?_
  intro p e s m args below meth c C
  unfold FJ7_fill_53178 at hF
  refine g_iconst (v := 0) C (tdec DJ7_fill_53178 0 rfl) (by decide) rfl ?_
  refine g_istore_n (L' := [(2, .int 0), (0, .ref f_0), (1, .int p1)]) C (tdec DJ7_fill_53178 1 rfl) rfl (by decide) rfl rfl ?_
  refine g_aload_n (z := 1) C (tdec DJ7_fill_53178 2 rfl) rfl rfl rfl ?_
  refine g_alen C 0 1 rfl rfl rfl (tdec DJ7_fill_53178 3 rfl) rfl ?_
  refine g_istore_n (L' := [(3, .int (Int32.ofNat n)), (2, .int 0), (0, .ref f_0), (1, .int p1)]) C (tdec DJ7_fill_53178 4 rfl) rfl (by decide) rfl rfl ?_
  refine g_sub (L' := [(0, .ref f_0), (1, .int p1), (2, .int 0), (3, .int (Int32.ofNat n))]) [2, 3, 1, 0] rfl ?_
  refine c_FJ7_fill_53178_L5 C (fun fq4 w2_4 hF => ?_) 100000 _ _ hF
  have hr9 := o_some hF
  subst hr9
  exact g_vret C rfl (tdec DJ7_fill_53178 14 rfl)
def FX1_fill (n : Nat) (f0 : Nat → Int32) (p1 : Int32) : Option ((Nat → Int32)) :=
  (FJ7_fill_53178 n f0 p1).bind fun s1 =>
  some s1
def rX1_fill : Room := { frames := 1, cells := 0, slots := 0, locals := 23 }
set_option maxHeartbeats 4000000 in
set_option maxRecDepth 100000 in
theorem c_X1_fill (l : Launch) (D : va_G) (cB cI cJ cZ : ClassId) (f_0 f_1 : Nat) {n : Nat} {f0 : Nat → Int32} {p1 : Int32} {res : (Nat → Int32)} (hF : FX1_fill n f0 p1 = some res) : gMv l yX1_fill wsX1_fill rX1_fill D (gT cB cI cJ cZ) [.ref f_0, .int p1] (wIR cI n f_0 f_1 f0) (wIR cI n f_0 f_1 res) := by
  refine g_enter (own := RX1) (free := (fun sz => va_A (wIR cI n f_0 f_1 f0) sz)) (Qc := (fun sz => gQv D (wIR cI n f_0 f_1 f0) sz (wIR cI n f_0 f_1 res))) (fun sz => va_A (wIR cI n f_0 f_1 f0) sz) (fun sz => Or.inr rfl) rfl (by decide) rfl (Nat.le_of_ble_eq_true rfl) rfl ?_
  intro p e s m args below meth c C
  unfold FX1_fill at hF
  refine g_aload_n (z := 0) C (tdec DX1_fill 0 rfl) rfl rfl rfl ?_
  refine g_getf (C' := RX1) (T := TX1) (N := 1) (v := .ref f_1) C 0 0 (gIn iw_X1) rfl rfl (by decide) (gMem fl_X1_15) rfl rfl (tdec DX1_fill 1 rfl) rfl ?_
  refine g_iload_n (z := 1) C (tdec DX1_fill 2 rfl) rfl rfl rfl ?_
  obtain ⟨s1, y2, hF⟩ := o_bind hF
  refine g_callSvM (W' := wIR cI n f_0 f_1 s1) C (c_J7_fill_53178 l D cB cI cJ cZ f_1 y2) (gIS ml_X1_21 st_J7_fill_53178 in_J7 cd_J7_fill_53178) eJ7_fill_53178 rfl ⟨rfl, rfl⟩ ⟨Nat.le_of_ble_eq_true rfl, Nat.le_of_ble_eq_true rfl⟩ rfl [1] rfl rfl rfl rfl rfl rfl (Nat.le_of_ble_eq_true rfl) (tdec DX1_fill 3 rfl) rfl ?_
  have hr9 := o_some hF
  subst hr9
  exact g_vret C rfl (tdec DX1_fill 4 rfl)
def FX1_at (n : Nat) (f0 : Nat → Int32) (p1 : Int32) : Option (Int32) :=
  if p1 < 0 then
    some (-1)
  else
    if (Int32.ofNat n) ≤ p1 then
      some (-1)
    else
      (ald n f0 p1).bind fun r3 =>
      some r3
def rX1_at : Room := { frames := 0, cells := 0, slots := 0, locals := 0 }
set_option maxHeartbeats 4000000 in
set_option maxRecDepth 100000 in
theorem c_X1_at (l : Launch) (D : va_G) (cB cI cJ cZ : ClassId) (f_0 f_1 : Nat) {n : Nat} {f0 : Nat → Int32} {p1 : Int32} {res : Int32} (hF : FX1_at n f0 p1 = some res) : gRi l yX1_at wsX1_at rX1_at D (gT cB cI cJ cZ) [.ref f_0, .int p1] (wIR cI n f_0 f_1 f0) res := by
  refine g_enter (own := RX1) (free := (fun _ _ => False)) (Qc := (fun sz => gRQi res)) (fun _ _ => True) (fun sz => Or.inl rfl) rfl (by decide) rfl (Nat.le_of_ble_eq_true rfl) rfl ?_
  intro p e s m args below meth c C
  unfold FX1_at at hF
  refine g_iload_n (z := 1) C (tdec DX1_at 0 rfl) rfl rfl rfl ?_
  refine g_if_lt (pt := 22) C (tdec DX1_at 1 rfl) (by decide) rfl (fun h1 => ?_) (fun h1 => ?_)
  · have hF := o_ifp hF h1
    refine g_iconst (v := (-1)) C (tdec DX1_at 12 rfl) (by decide) rfl ?_
    have hr9 := o_some hF
    subst hr9
    exact g_iretR C rfl (tdec DX1_at 13 rfl)
  · have hF := o_ifn hF h1
    refine g_iload_n (z := 1) C (tdec DX1_at 2 rfl) rfl rfl rfl ?_
    refine g_aload_n (z := 0) C (tdec DX1_at 3 rfl) rfl rfl rfl ?_
    refine g_getf (C' := RX1) (T := TX1) (N := 1) (v := .ref f_1) C 0 0 (gIn iw_X1) rfl rfl (by decide) (gMem fl_X1_15) rfl rfl (tdec DX1_at 4 rfl) rfl ?_
    refine g_alen C 1 1 rfl rfl rfl (tdec DX1_at 5 rfl) rfl ?_
    refine g_icmp_ge (pt := 22) C (tdec DX1_at 6 rfl) (by decide) rfl (fun h2 => ?_) (fun h2 => ?_)
    · have hF := o_ifp hF h2
      refine g_iconst (v := (-1)) C (tdec DX1_at 12 rfl) (by decide) rfl ?_
      have hr9 := o_some hF
      subst hr9
      exact g_iretR C rfl (tdec DX1_at 13 rfl)
    · have hF := o_ifn hF h2
      refine g_aload_n (z := 0) C (tdec DX1_at 7 rfl) rfl rfl rfl ?_
      refine g_getf (C' := RX1) (T := TX1) (N := 1) (v := .ref f_1) C 0 0 (gIn iw_X1) rfl rfl (by decide) (gMem fl_X1_15) rfl rfl (tdec DX1_at 8 rfl) rfl ?_
      refine g_iload_n (z := 1) C (tdec DX1_at 9 rfl) rfl rfl rfl ?_
      obtain ⟨r3, y4, hF⟩ := o_bind hF
      refine g_iald C 1 1 rfl rfl y4 (tdec DX1_at 10 rfl) rfl ?_
      refine g_goto (pt := 23) C (tdec DX1_at 11 rfl) (by decide) ?_
      have hr9 := o_some hF
      subst hr9
      exact g_iretR C rfl (tdec DX1_at 13 rfl)
def FX2_at (n : Nat) (f0 : Nat → Int64) (p1 : Int32) : Option (Int64) :=
  if p1 < 0 then
    some 0
  else
    if (Int32.ofNat n) ≤ p1 then
      some 0
    else
      (ald n f0 p1).bind fun r3 =>
      some r3
def rX2_at : Room := { frames := 0, cells := 0, slots := 0, locals := 0 }
set_option maxHeartbeats 4000000 in
set_option maxRecDepth 100000 in
theorem c_X2_at (l : Launch) (D : va_G) (cB cI cJ cZ : ClassId) (f_0 f_1 : Nat) {n : Nat} {f0 : Nat → Int64} {p1 : Int32} {res : Int64} (hF : FX2_at n f0 p1 = some res) : gRl l yX2_at wsX2_at rX2_at D (gT cB cI cJ cZ) [.ref f_0, .int p1] (wLR cJ n f_0 f_1 f0) res := by
  refine g_enter (own := RX2) (free := (fun _ _ => False)) (Qc := (fun sz => gRQl res)) (fun _ _ => True) (fun sz => Or.inl rfl) rfl (by decide) rfl (Nat.le_of_ble_eq_true rfl) rfl ?_
  intro p e s m args below meth c C
  unfold FX2_at at hF
  refine g_iload_n (z := 1) C (tdec DX2_at 0 rfl) rfl rfl rfl ?_
  refine g_if_lt (pt := 22) C (tdec DX2_at 1 rfl) (by decide) rfl (fun h1 => ?_) (fun h1 => ?_)
  · have hF := o_ifp hF h1
    refine g_lconst (v := 0) C (tdec DX2_at 12 rfl) (by decide) rfl ?_
    have hr9 := o_some hF
    subst hr9
    exact g_lretR C rfl (tdec DX2_at 13 rfl)
  · have hF := o_ifn hF h1
    refine g_iload_n (z := 1) C (tdec DX2_at 2 rfl) rfl rfl rfl ?_
    refine g_aload_n (z := 0) C (tdec DX2_at 3 rfl) rfl rfl rfl ?_
    refine g_getf (C' := RX2) (T := TX2) (N := 1) (v := .ref f_1) C 0 0 (gIn iw_X2) rfl rfl (by decide) (gMem fl_X2_13) rfl rfl (tdec DX2_at 4 rfl) rfl ?_
    refine g_alen C 1 2 rfl rfl rfl (tdec DX2_at 5 rfl) rfl ?_
    refine g_icmp_ge (pt := 22) C (tdec DX2_at 6 rfl) (by decide) rfl (fun h2 => ?_) (fun h2 => ?_)
    · have hF := o_ifp hF h2
      refine g_lconst (v := 0) C (tdec DX2_at 12 rfl) (by decide) rfl ?_
      have hr9 := o_some hF
      subst hr9
      exact g_lretR C rfl (tdec DX2_at 13 rfl)
    · have hF := o_ifn hF h2
      refine g_aload_n (z := 0) C (tdec DX2_at 7 rfl) rfl rfl rfl ?_
      refine g_getf (C' := RX2) (T := TX2) (N := 1) (v := .ref f_1) C 0 0 (gIn iw_X2) rfl rfl (by decide) (gMem fl_X2_13) rfl rfl (tdec DX2_at 8 rfl) rfl ?_
      refine g_iload_n (z := 1) C (tdec DX2_at 9 rfl) rfl rfl rfl ?_
      obtain ⟨r3, y4, hF⟩ := o_bind hF
      refine g_lald C 1 2 rfl rfl y4 (tdec DX2_at 10 rfl) rfl ?_
      refine g_goto (pt := 23) C (tdec DX2_at 11 rfl) (by decide) ?_
      have hr9 := o_some hF
      subst hr9
      exact g_lretR C rfl (tdec DX2_at 13 rfl)
def FX2_put (n : Nat) (f0 : Nat → Int64) (p1 : Int32) (p2 : Int64) : Option ((Nat → Int64)) :=
  if p1 < 0 then
    some f0
  else
    if (Int32.ofNat n) ≤ p1 then
      some f0
    else
      (lst n f0 p1 p2).bind fun g3 =>
      some g3
def rX2_put : Room := { frames := 0, cells := 0, slots := 0, locals := 0 }
set_option maxHeartbeats 4000000 in
set_option maxRecDepth 100000 in
theorem c_X2_put (l : Launch) (D : va_G) (cB cI cJ cZ : ClassId) (f_0 f_1 : Nat) {n : Nat} {f0 : Nat → Int64} {p1 : Int32} {p2 : Int64} {res : (Nat → Int64)} (hF : FX2_put n f0 p1 p2 = some res) : gMv l yX2_put wsX2_put rX2_put D (gT cB cI cJ cZ) [.ref f_0, .int p1, .long p2] (wLR cJ n f_0 f_1 f0) (wLR cJ n f_0 f_1 res) := by
  refine g_enter (own := RX2) (free := (fun sz => va_A (wLR cJ n f_0 f_1 f0) sz)) (Qc := (fun sz => gQv D (wLR cJ n f_0 f_1 f0) sz (wLR cJ n f_0 f_1 res))) (fun sz => va_A (wLR cJ n f_0 f_1 f0) sz) (fun sz => Or.inr rfl) rfl (by decide) rfl (Nat.le_of_ble_eq_true rfl) rfl ?_
  intro p e s m args below meth c C
  unfold FX2_put at hF
  refine g_iload_n (z := 1) C (tdec DX2_put 0 rfl) rfl rfl rfl ?_
  refine g_if_lt (pt := 20) C (tdec DX2_put 1 rfl) (by decide) rfl (fun h1 => ?_) (fun h1 => ?_)
  · have hF := o_ifp hF h1
    have hr9 := o_some hF
    subst hr9
    exact g_vret C rfl (tdec DX2_put 12 rfl)
  · have hF := o_ifn hF h1
    refine g_iload_n (z := 1) C (tdec DX2_put 2 rfl) rfl rfl rfl ?_
    refine g_aload_n (z := 0) C (tdec DX2_put 3 rfl) rfl rfl rfl ?_
    refine g_getf (C' := RX2) (T := TX2) (N := 1) (v := .ref f_1) C 0 0 (gIn iw_X2) rfl rfl (by decide) (gMem fl_X2_13) rfl rfl (tdec DX2_put 4 rfl) rfl ?_
    refine g_alen C 1 2 rfl rfl rfl (tdec DX2_put 5 rfl) rfl ?_
    refine g_icmp_ge (pt := 20) C (tdec DX2_put 6 rfl) (by decide) rfl (fun h2 => ?_) (fun h2 => ?_)
    · have hF := o_ifp hF h2
      have hr9 := o_some hF
      subst hr9
      exact g_vret C rfl (tdec DX2_put 12 rfl)
    · have hF := o_ifn hF h2
      refine g_aload_n (z := 0) C (tdec DX2_put 7 rfl) rfl rfl rfl ?_
      refine g_getf (C' := RX2) (T := TX2) (N := 1) (v := .ref f_1) C 0 0 (gIn iw_X2) rfl rfl (by decide) (gMem fl_X2_13) rfl rfl (tdec DX2_put 8 rfl) rfl ?_
      refine g_iload_n (z := 1) C (tdec DX2_put 9 rfl) rfl rfl rfl ?_
      refine g_lload_n (z := 2) C (tdec DX2_put 10 rfl) rfl rfl rfl ?_
      obtain ⟨g3, y4, hF⟩ := o_bind hF
      refine g_last (ws' := wLR cJ n f_0 f_1 g3) C 1 2 rfl rfl y4 rfl (tdec DX2_put 11 rfl) rfl ?_
      have hr9 := o_some hF
      subst hr9
      exact g_vret C rfl (tdec DX2_put 12 rfl)
def FX1_put (n : Nat) (f0 : Nat → Int32) (p1 : Int32) (p2 : Int32) : Option ((Nat → Int32)) :=
  if p1 < 0 then
    some f0
  else
    if (Int32.ofNat n) ≤ p1 then
      some f0
    else
      (ast n f0 p1 p2).bind fun g3 =>
      some g3
def rX1_put : Room := { frames := 0, cells := 0, slots := 0, locals := 0 }
set_option maxHeartbeats 4000000 in
set_option maxRecDepth 100000 in
theorem c_X1_put (l : Launch) (D : va_G) (cB cI cJ cZ : ClassId) (f_0 f_1 : Nat) {n : Nat} {f0 : Nat → Int32} {p1 : Int32} {p2 : Int32} {res : (Nat → Int32)} (hF : FX1_put n f0 p1 p2 = some res) : gMv l yX1_put wsX1_put rX1_put D (gT cB cI cJ cZ) [.ref f_0, .int p1, .int p2] (wIR cI n f_0 f_1 f0) (wIR cI n f_0 f_1 res) := by
  refine g_enter (own := RX1) (free := (fun sz => va_A (wIR cI n f_0 f_1 f0) sz)) (Qc := (fun sz => gQv D (wIR cI n f_0 f_1 f0) sz (wIR cI n f_0 f_1 res))) (fun sz => va_A (wIR cI n f_0 f_1 f0) sz) (fun sz => Or.inr rfl) rfl (by decide) rfl (Nat.le_of_ble_eq_true rfl) rfl ?_
  intro p e s m args below meth c C
  unfold FX1_put at hF
  refine g_iload_n (z := 1) C (tdec DX1_put 0 rfl) rfl rfl rfl ?_
  refine g_if_lt (pt := 20) C (tdec DX1_put 1 rfl) (by decide) rfl (fun h1 => ?_) (fun h1 => ?_)
  · have hF := o_ifp hF h1
    have hr9 := o_some hF
    subst hr9
    exact g_vret C rfl (tdec DX1_put 12 rfl)
  · have hF := o_ifn hF h1
    refine g_iload_n (z := 1) C (tdec DX1_put 2 rfl) rfl rfl rfl ?_
    refine g_aload_n (z := 0) C (tdec DX1_put 3 rfl) rfl rfl rfl ?_
    refine g_getf (C' := RX1) (T := TX1) (N := 1) (v := .ref f_1) C 0 0 (gIn iw_X1) rfl rfl (by decide) (gMem fl_X1_15) rfl rfl (tdec DX1_put 4 rfl) rfl ?_
    refine g_alen C 1 1 rfl rfl rfl (tdec DX1_put 5 rfl) rfl ?_
    refine g_icmp_ge (pt := 20) C (tdec DX1_put 6 rfl) (by decide) rfl (fun h2 => ?_) (fun h2 => ?_)
    · have hF := o_ifp hF h2
      have hr9 := o_some hF
      subst hr9
      exact g_vret C rfl (tdec DX1_put 12 rfl)
    · have hF := o_ifn hF h2
      refine g_aload_n (z := 0) C (tdec DX1_put 7 rfl) rfl rfl rfl ?_
      refine g_getf (C' := RX1) (T := TX1) (N := 1) (v := .ref f_1) C 0 0 (gIn iw_X1) rfl rfl (by decide) (gMem fl_X1_15) rfl rfl (tdec DX1_put 8 rfl) rfl ?_
      refine g_iload_n (z := 1) C (tdec DX1_put 9 rfl) rfl rfl rfl ?_
      refine g_iload_n (z := 2) C (tdec DX1_put 10 rfl) rfl rfl rfl ?_
      obtain ⟨g3, y4, hF⟩ := o_bind hF
      refine g_iast (ws' := wIR cI n f_0 f_1 g3) C 1 1 rfl rfl y4 rfl (tdec DX1_put 11 rfl) rfl ?_
      have hr9 := o_some hF
      subst hr9
      exact g_vret C rfl (tdec DX1_put 12 rfl)
