/-! PART 21.X8: walks, printed by wip/whole/walk.py -/
def FX8_clears_L86 (v1 : Int32) (v2 : Int32) (v3 : Int32) (v4 : Int32) (k9 : MS → Int32 → Option (Int32 × MS)) : Nat → MS → Int32 → Option (Int32 × MS)
  | 0, _, _ => none
  | n9 + 1, x, v5 =>
    if v5 < 0 then
      k9 x v5
    else
      (ald 4 (MS_way x) v5).bind fun r27 =>
      (FX8_told x v1 r27).bind fun r29 =>
      (FX8_hasNothing x v1 r29).bind fun r31 =>
      if r31 = 0 then
        k9 x v5
      else
        (ald 4 (MS_way x) v5).bind fun r34 =>
        (ald 2 (MS_gen x) v1).bind fun r36 =>
        (FX8_point x v1 r34 (-1) r36).bind fun s38 =>
        FX8_clears_L86 v1 v2 v3 v4 k9 n9 s38 (v5 + (-1))
def FX8_clears (x0 : MS) (p1 : Int32) (p2 : Int32) (p3 : Int32) : Option (Int32 × MS) :=
  (FX8_ways x0 p1 p2 p3).bind fun (r1, s2) =>
  if r1 < 4 then
    some (0, s2)
  else
    (ald 4 (MS_way s2) 3).bind fun r5 =>
    (FX8_told s2 p1 r5).bind fun r7 =>
    if r7 = (-1) then
      some (0, s2)
    else
      (FX8_wanted s2 p1 4 3).bind fun r10 =>
      (FX8_freeMany s2 p1).bind fun r12 =>
      if r10 ≤ r12 then
        (FX8_renews s2 p1 p2 p3 3).bind fun s15 =>
        (FX8_ways s15 p1 p2 p3).bind fun (r17, s18) =>
        (ald 4 (MS_way s18) 3).bind fun r20 =>
        (ald 2 (MS_gen s18) p1).bind fun r22 =>
        (FX8_point s18 p1 r20 (-1) r22).bind fun s24 =>
        FX8_clears_L86 p1 p2 p3 r1 (fun xq40 w5_40 =>
          some (0, xq40)) 100000 s24 2
      else
        some (5, s2)
def rX8_clears : Room := { frames := 2, cells := 0, slots := 0, locals := 54 }
set_option maxHeartbeats 4000000 in
set_option maxRecDepth 100000 in
theorem c_FX8_clears_L86 {p : Program} {l : Launch} {e : Env} {s : State} {m : MethodId} {args : Array Value} {below : List Frame} {meth : Method} {c : Code} {D : va_G} {cB cI cJ cZ : ClassId} {x_0 x_1 x_2 x_3 x_4 x_5 x_6 x_7 x_8 x_9 x_10 x_11 x_12 x_13 x_14 x_15 x_16 x_17 x_18 x_19 : Nat} {x0 : MS} {res : Int32 × MS} (C : gC p s m args meth c cX8_clears 6 RX8 wsX8_clears D (gT cB cI cJ cZ) (some .int) (va_A (wM cB cI cJ cZ x_0 x_1 x_2 x_3 x_4 x_5 x_6 x_7 x_8 x_9 x_10 x_11 x_12 x_13 x_14 x_15 x_16 x_17 x_18 x_19 x0) s.heap.size)) {v1 : Int32} {v2 : Int32} {v3 : Int32} {v4 : Int32} {k9 : MS → Int32 → Option (Int32 × MS)} (hk9 : ∀ (x : MS) (v5 : Int32), k9 x v5 = some res → gG p l e (headSpec wsX8_clears rX8_clears).room s m args below meth c 0 0 D (va_A (wM cB cI cJ cZ x_0 x_1 x_2 x_3 x_4 x_5 x_6 x_7 x_8 x_9 x_10 x_11 x_12 x_13 x_14 x_15 x_16 x_17 x_18 x_19 x0) s.heap.size) (va_A (wM cB cI cJ cZ x_0 x_1 x_2 x_3 x_4 x_5 x_6 x_7 x_8 x_9 x_10 x_11 x_12 x_13 x_14 x_15 x_16 x_17 x_18 x_19 x0) s.heap.size) 6 (MQ below (gQi D (wM cB cI cJ cZ x_0 x_1 x_2 x_3 x_4 x_5 x_6 x_7 x_8 x_9 x_10 x_11 x_12 x_13 x_14 x_15 x_16 x_17 x_18 x_19 x0) s.heap.size res.1 (wM cB cI cJ cZ x_0 x_1 x_2 x_3 x_4 x_5 x_6 x_7 x_8 x_9 x_10 x_11 x_12 x_13 x_14 x_15 x_16 x_17 x_18 x_19 res.2)) args s 0 0 (va_A (wM cB cI cJ cZ x_0 x_1 x_2 x_3 x_4 x_5 x_6 x_7 x_8 x_9 x_10 x_11 x_12 x_13 x_14 x_15 x_16 x_17 x_18 x_19 x0) s.heap.size)) (wM cB cI cJ cZ x_0 x_1 x_2 x_3 x_4 x_5 x_6 x_7 x_8 x_9 x_10 x_11 x_12 x_13 x_14 x_15 x_16 x_17 x_18 x_19 x) 136 [(0, .ref x_0), (1, .int v1), (2, .int v2), (3, .int v3), (4, .int v4), (5, .int v5)] []) :
    ∀ (n9 : Nat) (x : MS) (v5 : Int32), FX8_clears_L86 v1 v2 v3 v4 k9 n9 x v5 = some res → gG p l e (headSpec wsX8_clears rX8_clears).room s m args below meth c 0 0 D (va_A (wM cB cI cJ cZ x_0 x_1 x_2 x_3 x_4 x_5 x_6 x_7 x_8 x_9 x_10 x_11 x_12 x_13 x_14 x_15 x_16 x_17 x_18 x_19 x0) s.heap.size) (va_A (wM cB cI cJ cZ x_0 x_1 x_2 x_3 x_4 x_5 x_6 x_7 x_8 x_9 x_10 x_11 x_12 x_13 x_14 x_15 x_16 x_17 x_18 x_19 x0) s.heap.size) 6 (MQ below (gQi D (wM cB cI cJ cZ x_0 x_1 x_2 x_3 x_4 x_5 x_6 x_7 x_8 x_9 x_10 x_11 x_12 x_13 x_14 x_15 x_16 x_17 x_18 x_19 x0) s.heap.size res.1 (wM cB cI cJ cZ x_0 x_1 x_2 x_3 x_4 x_5 x_6 x_7 x_8 x_9 x_10 x_11 x_12 x_13 x_14 x_15 x_16 x_17 x_18 x_19 res.2)) args s 0 0 (va_A (wM cB cI cJ cZ x_0 x_1 x_2 x_3 x_4 x_5 x_6 x_7 x_8 x_9 x_10 x_11 x_12 x_13 x_14 x_15 x_16 x_17 x_18 x_19 x0) s.heap.size)) (wM cB cI cJ cZ x_0 x_1 x_2 x_3 x_4 x_5 x_6 x_7 x_8 x_9 x_10 x_11 x_12 x_13 x_14 x_15 x_16 x_17 x_18 x_19 x) 86 [(0, .ref x_0), (1, .int v1), (2, .int v2), (3, .int v3), (4, .int v4), (5, .int v5)] [] := by
  intro n9
  induction n9 with
  | zero =>
    intro x v5 hF
    exact absurd hF (by simp [FX8_clears_L86])
  | succ n9 ih9 =>
    intro x v5 hF
    rw [FX8_clears_L86] at hF
    refine g_iload (z := 5) C (tdec DX8_clears 57 rfl) rfl rfl ?_
    refine g_if_lt (pt := 136) C (tdec DX8_clears 58 rfl) (by decide) rfl (fun h26 => ?_) (fun h26 => ?_)
    · have hF := o_ifp hF h26
      refine g_sub (L' := [(0, .ref x_0), (1, .int v1), (2, .int v2), (3, .int v3), (4, .int v4), (5, .int v5)]) [0, 1, 2, 3, 4, 5] rfl ?_
      exact hk9 _ _ hF
    · have hF := o_ifn hF h26
      refine g_aload_n (z := 0) C (tdec DX8_clears 59 rfl) rfl rfl rfl ?_
      refine g_iload_n (z := 1) C (tdec DX8_clears 60 rfl) rfl rfl rfl ?_
      refine g_aload_n (z := 0) C (tdec DX8_clears 61 rfl) rfl rfl rfl ?_
      refine g_iload_n (z := 1) C (tdec DX8_clears 62 rfl) rfl rfl rfl ?_
      refine g_aload_n (z := 0) C (tdec DX8_clears 63 rfl) rfl rfl rfl ?_
      refine g_getf (C' := RX8) (T := TX8) (N := 27) (v := .ref x_19) C 0 25 (gIn iw_X8) rfl rfl (by decide) (gMem fl_X8_71) rfl rfl (tdec DX8_clears 64 rfl) rfl ?_
      refine g_iload (z := 5) C (tdec DX8_clears 65 rfl) rfl rfl ?_
      obtain ⟨r27, y28, hF⟩ := o_bind hF
      refine g_iald C 19 1 rfl rfl y28 (tdec DX8_clears 66 rfl) rfl ?_
      obtain ⟨r29, y30, hF⟩ := o_bind hF
      refine g_callViRS (q0 := 0) (S := [wM cB cI cJ cZ x_0 x_1 x_2 x_3 x_4 x_5 x_6 x_7 x_8 x_9 x_10 x_11 x_12 x_13 x_14 x_15 x_16 x_17 x_18 x_19 x]) (S0 := [wM cB cI cJ cZ x_0 x_1 x_2 x_3 x_4 x_5 x_6 x_7 x_8 x_9 x_10 x_11 x_12 x_13 x_14 x_15 x_16 x_17 x_18 x_19 x]) C (c_X8_told l D cB cI cJ cZ x_0 x_1 x_2 x_3 x_4 x_5 x_6 x_7 x_8 x_9 x_10 x_11 x_12 x_13 x_14 x_15 x_16 x_17 x_18 x_19 y30) rfl rfl (gIV ml_X8_90 im_X8_told sl_X8_told in_X8 cd_X8_told) rfl eX8_told rfl ⟨rfl, rfl⟩ ⟨Nat.le_of_ble_eq_true rfl, Nat.le_of_ble_eq_true rfl⟩ rfl rfl rfl [0] rfl rfl rfl (Nat.le_of_ble_eq_true rfl) (tdec DX8_clears 67 rfl) rfl ?_
      obtain ⟨r31, y32, hF⟩ := o_bind hF
      refine g_callViRS (q0 := 0) (S := [wM cB cI cJ cZ x_0 x_1 x_2 x_3 x_4 x_5 x_6 x_7 x_8 x_9 x_10 x_11 x_12 x_13 x_14 x_15 x_16 x_17 x_18 x_19 x]) (S0 := [wM cB cI cJ cZ x_0 x_1 x_2 x_3 x_4 x_5 x_6 x_7 x_8 x_9 x_10 x_11 x_12 x_13 x_14 x_15 x_16 x_17 x_18 x_19 x]) C (c_X8_hasNothing l D cB cI cJ cZ x_0 x_1 x_2 x_3 x_4 x_5 x_6 x_7 x_8 x_9 x_10 x_11 x_12 x_13 x_14 x_15 x_16 x_17 x_18 x_19 y32) rfl rfl (gIV ml_X8_121 im_X8_hasNothing sl_X8_hasNothing in_X8 cd_X8_hasNothing) rfl eX8_hasNothing rfl ⟨rfl, rfl⟩ ⟨Nat.le_of_ble_eq_true rfl, Nat.le_of_ble_eq_true rfl⟩ rfl rfl rfl [0] rfl rfl rfl (Nat.le_of_ble_eq_true rfl) (tdec DX8_clears 68 rfl) rfl ?_
      refine g_if_eq (pt := 136) C (tdec DX8_clears 69 rfl) (by decide) rfl (fun h33 => ?_) (fun h33 => ?_)
      · have hF := o_ifp hF h33
        refine g_sub (L' := [(0, .ref x_0), (1, .int v1), (2, .int v2), (3, .int v3), (4, .int v4), (5, .int v5)]) [0, 1, 2, 3, 4, 5] rfl ?_
        exact hk9 _ _ hF
      · have hF := o_ifn hF h33
        refine g_aload_n (z := 0) C (tdec DX8_clears 70 rfl) rfl rfl rfl ?_
        refine g_iload_n (z := 1) C (tdec DX8_clears 71 rfl) rfl rfl rfl ?_
        refine g_aload_n (z := 0) C (tdec DX8_clears 72 rfl) rfl rfl rfl ?_
        refine g_getf (C' := RX8) (T := TX8) (N := 27) (v := .ref x_19) C 0 25 (gIn iw_X8) rfl rfl (by decide) (gMem fl_X8_71) rfl rfl (tdec DX8_clears 73 rfl) rfl ?_
        refine g_iload (z := 5) C (tdec DX8_clears 74 rfl) rfl rfl ?_
        obtain ⟨r34, y35, hF⟩ := o_bind hF
        refine g_iald C 19 1 rfl rfl y35 (tdec DX8_clears 75 rfl) rfl ?_
        refine g_iconst (v := (-1)) C (tdec DX8_clears 76 rfl) (by decide) rfl ?_
        refine g_aload_n (z := 0) C (tdec DX8_clears 77 rfl) rfl rfl rfl ?_
        refine g_getf (C' := RX8) (T := TX8) (N := 27) (v := .ref x_9) C 0 9 (gIn iw_X8) rfl rfl (by decide) (gMem fl_X8_36) rfl rfl (tdec DX8_clears 78 rfl) rfl ?_
        refine g_iload_n (z := 1) C (tdec DX8_clears 79 rfl) rfl rfl rfl ?_
        obtain ⟨r36, y37, hF⟩ := o_bind hF
        refine g_iald C 9 1 rfl rfl y37 (tdec DX8_clears 80 rfl) rfl ?_
        obtain ⟨s38, y39, hF⟩ := o_bind hF
        refine g_callVvMS (q0 := 0) (W' := wM cB cI cJ cZ x_0 x_1 x_2 x_3 x_4 x_5 x_6 x_7 x_8 x_9 x_10 x_11 x_12 x_13 x_14 x_15 x_16 x_17 x_18 x_19 s38) (S := [wM cB cI cJ cZ x_0 x_1 x_2 x_3 x_4 x_5 x_6 x_7 x_8 x_9 x_10 x_11 x_12 x_13 x_14 x_15 x_16 x_17 x_18 x_19 x]) (S0 := [wM cB cI cJ cZ x_0 x_1 x_2 x_3 x_4 x_5 x_6 x_7 x_8 x_9 x_10 x_11 x_12 x_13 x_14 x_15 x_16 x_17 x_18 x_19 x]) (S1 := [wM cB cI cJ cZ x_0 x_1 x_2 x_3 x_4 x_5 x_6 x_7 x_8 x_9 x_10 x_11 x_12 x_13 x_14 x_15 x_16 x_17 x_18 x_19 s38]) (S' := [wM cB cI cJ cZ x_0 x_1 x_2 x_3 x_4 x_5 x_6 x_7 x_8 x_9 x_10 x_11 x_12 x_13 x_14 x_15 x_16 x_17 x_18 x_19 s38]) C (c_X8_point l D cB cI cJ cZ x_0 x_1 x_2 x_3 x_4 x_5 x_6 x_7 x_8 x_9 x_10 x_11 x_12 x_13 x_14 x_15 x_16 x_17 x_18 x_19 y39) rfl rfl (gIV ml_X8_103 im_X8_point sl_X8_point in_X8 cd_X8_point) rfl eX8_point rfl ⟨rfl, rfl⟩ ⟨Nat.le_of_ble_eq_true rfl, Nat.le_of_ble_eq_true rfl⟩ rfl rfl rfl [0] rfl rfl rfl rfl (gA_cons aM gA_nil) rfl rfl (Nat.le_of_ble_eq_true rfl) (tdec DX8_clears 81 rfl) rfl ?_
        refine g_iinc (z := 5) (v := (v5 + (-1))) (L' := [(5, .int (v5 + (-1))), (0, .ref x_0), (1, .int v1), (2, .int v2), (3, .int v3), (4, .int v4)]) C (tdec DX8_clears 82 rfl) rfl rfl (by decide) rfl rfl ?_
        refine g_goto (pt := 86) C (tdec DX8_clears 83 rfl) (by decide) ?_
        refine g_sub (L' := [(0, .ref x_0), (1, .int v1), (2, .int v2), (3, .int v3), (4, .int v4), (5, .int (v5 + (-1)))]) [1, 2, 3, 4, 5, 0] rfl ?_
        exact ih9 _ _ hF
set_option maxHeartbeats 4000000 in
set_option maxRecDepth 100000 in
theorem c_X8_clears (l : Launch) (D : va_G) (cB cI cJ cZ : ClassId) (x_0 x_1 x_2 x_3 x_4 x_5 x_6 x_7 x_8 x_9 x_10 x_11 x_12 x_13 x_14 x_15 x_16 x_17 x_18 x_19 : Nat) {x0 : MS} {p1 : Int32} {p2 : Int32} {p3 : Int32} {res : Int32 × MS} (hF : FX8_clears x0 p1 p2 p3 = some res) : gMi l yX8_clears wsX8_clears rX8_clears D (gT cB cI cJ cZ) [.ref x_0, .int p1, .int p2, .int p3] (wM cB cI cJ cZ x_0 x_1 x_2 x_3 x_4 x_5 x_6 x_7 x_8 x_9 x_10 x_11 x_12 x_13 x_14 x_15 x_16 x_17 x_18 x_19 x0) res.1 (wM cB cI cJ cZ x_0 x_1 x_2 x_3 x_4 x_5 x_6 x_7 x_8 x_9 x_10 x_11 x_12 x_13 x_14 x_15 x_16 x_17 x_18 x_19 res.2) := by
  refine g_enter (own := RX8) (free := (fun sz => va_A (wM cB cI cJ cZ x_0 x_1 x_2 x_3 x_4 x_5 x_6 x_7 x_8 x_9 x_10 x_11 x_12 x_13 x_14 x_15 x_16 x_17 x_18 x_19 x0) sz)) (Qc := (fun sz => gQi D (wM cB cI cJ cZ x_0 x_1 x_2 x_3 x_4 x_5 x_6 x_7 x_8 x_9 x_10 x_11 x_12 x_13 x_14 x_15 x_16 x_17 x_18 x_19 x0) sz res.1 (wM cB cI cJ cZ x_0 x_1 x_2 x_3 x_4 x_5 x_6 x_7 x_8 x_9 x_10 x_11 x_12 x_13 x_14 x_15 x_16 x_17 x_18 x_19 res.2))) (fun sz => va_A (wM cB cI cJ cZ x_0 x_1 x_2 x_3 x_4 x_5 x_6 x_7 x_8 x_9 x_10 x_11 x_12 x_13 x_14 x_15 x_16 x_17 x_18 x_19 x0) sz) (fun sz => Or.inr rfl) rfl (by decide) rfl (Nat.le_of_ble_eq_true rfl) rfl ?_
  intro p e s m args below meth c C
  unfold FX8_clears at hF
  refine g_aload_n (z := 0) C (tdec DX8_clears 0 rfl) rfl rfl rfl ?_
  refine g_iload_n (z := 1) C (tdec DX8_clears 1 rfl) rfl rfl rfl ?_
  refine g_iload_n (z := 2) C (tdec DX8_clears 2 rfl) rfl rfl rfl ?_
  refine g_iload_n (z := 3) C (tdec DX8_clears 3 rfl) rfl rfl rfl ?_
  obtain ⟨⟨r1, s2⟩, y3, hF⟩ := o_bind hF
  refine g_callViMS (q0 := 0) (W' := wM cB cI cJ cZ x_0 x_1 x_2 x_3 x_4 x_5 x_6 x_7 x_8 x_9 x_10 x_11 x_12 x_13 x_14 x_15 x_16 x_17 x_18 x_19 s2) (S := [wM cB cI cJ cZ x_0 x_1 x_2 x_3 x_4 x_5 x_6 x_7 x_8 x_9 x_10 x_11 x_12 x_13 x_14 x_15 x_16 x_17 x_18 x_19 x0]) (S0 := [wM cB cI cJ cZ x_0 x_1 x_2 x_3 x_4 x_5 x_6 x_7 x_8 x_9 x_10 x_11 x_12 x_13 x_14 x_15 x_16 x_17 x_18 x_19 x0]) (S1 := [wM cB cI cJ cZ x_0 x_1 x_2 x_3 x_4 x_5 x_6 x_7 x_8 x_9 x_10 x_11 x_12 x_13 x_14 x_15 x_16 x_17 x_18 x_19 s2]) (S' := [wM cB cI cJ cZ x_0 x_1 x_2 x_3 x_4 x_5 x_6 x_7 x_8 x_9 x_10 x_11 x_12 x_13 x_14 x_15 x_16 x_17 x_18 x_19 s2]) C (c_X8_ways l D cB cI cJ cZ x_0 x_1 x_2 x_3 x_4 x_5 x_6 x_7 x_8 x_9 x_10 x_11 x_12 x_13 x_14 x_15 x_16 x_17 x_18 x_19 y3) rfl rfl (gIV ml_X8_107 im_X8_ways sl_X8_ways in_X8 cd_X8_ways) rfl eX8_ways rfl ⟨rfl, rfl⟩ ⟨Nat.le_of_ble_eq_true rfl, Nat.le_of_ble_eq_true rfl⟩ rfl rfl rfl [0] rfl rfl rfl rfl (gA_cons aM gA_nil) rfl rfl (Nat.le_of_ble_eq_true rfl) (tdec DX8_clears 4 rfl) rfl ?_
  refine g_istore (L' := [(4, .int r1), (0, .ref x_0), (1, .int p1), (2, .int p2), (3, .int p3)]) C (tdec DX8_clears 5 rfl) (by decide) rfl rfl ?_
  refine g_iload (z := 0) C (tdec DX8_clears 6 rfl) rfl rfl ?_
  refine g_iconst (v := 4) C (tdec DX8_clears 7 rfl) (by decide) rfl ?_
  refine g_icmp_lt (pt := 30) C (tdec DX8_clears 8 rfl) (by decide) rfl (fun h4 => ?_) (fun h4 => ?_)
  · have hF := o_ifp hF h4
    refine g_iconst (v := 0) C (tdec DX8_clears 18 rfl) (by decide) rfl ?_
    have hr9 := o_some hF
    subst hr9
    exact g_iret C rfl rfl (tdec DX8_clears 19 rfl)
  · have hF := o_ifn hF h4
    refine g_aload_n (z := 1) C (tdec DX8_clears 9 rfl) rfl rfl rfl ?_
    refine g_iload_n (z := 2) C (tdec DX8_clears 10 rfl) rfl rfl rfl ?_
    refine g_aload_n (z := 1) C (tdec DX8_clears 11 rfl) rfl rfl rfl ?_
    refine g_getf (C' := RX8) (T := TX8) (N := 27) (v := .ref x_19) C 0 25 (gIn iw_X8) rfl rfl (by decide) (gMem fl_X8_71) rfl rfl (tdec DX8_clears 12 rfl) rfl ?_
    refine g_iconst (v := 3) C (tdec DX8_clears 13 rfl) (by decide) rfl ?_
    obtain ⟨r5, y6, hF⟩ := o_bind hF
    refine g_iald C 19 1 rfl rfl y6 (tdec DX8_clears 14 rfl) rfl ?_
    obtain ⟨r7, y8, hF⟩ := o_bind hF
    refine g_callViRS (q0 := 0) (S := [wM cB cI cJ cZ x_0 x_1 x_2 x_3 x_4 x_5 x_6 x_7 x_8 x_9 x_10 x_11 x_12 x_13 x_14 x_15 x_16 x_17 x_18 x_19 s2]) (S0 := [wM cB cI cJ cZ x_0 x_1 x_2 x_3 x_4 x_5 x_6 x_7 x_8 x_9 x_10 x_11 x_12 x_13 x_14 x_15 x_16 x_17 x_18 x_19 s2]) C (c_X8_told l D cB cI cJ cZ x_0 x_1 x_2 x_3 x_4 x_5 x_6 x_7 x_8 x_9 x_10 x_11 x_12 x_13 x_14 x_15 x_16 x_17 x_18 x_19 y8) rfl rfl (gIV ml_X8_90 im_X8_told sl_X8_told in_X8 cd_X8_told) rfl eX8_told rfl ⟨rfl, rfl⟩ ⟨Nat.le_of_ble_eq_true rfl, Nat.le_of_ble_eq_true rfl⟩ rfl rfl rfl [0] rfl rfl rfl (Nat.le_of_ble_eq_true rfl) (tdec DX8_clears 15 rfl) rfl ?_
    refine g_iconst (v := (-1)) C (tdec DX8_clears 16 rfl) (by decide) rfl ?_
    refine g_icmp_ne (pt := 32) C (tdec DX8_clears 17 rfl) (by decide) rfl (fun h9 => ?_) (fun h9 => ?_)
    · have hF := o_ifn hF h9
      refine g_aload_n (z := 1) C (tdec DX8_clears 20 rfl) rfl rfl rfl ?_
      refine g_iload_n (z := 2) C (tdec DX8_clears 21 rfl) rfl rfl rfl ?_
      refine g_iconst (v := 4) C (tdec DX8_clears 22 rfl) (by decide) rfl ?_
      refine g_iconst (v := 3) C (tdec DX8_clears 23 rfl) (by decide) rfl ?_
      obtain ⟨r10, y11, hF⟩ := o_bind hF
      refine g_callViRS (q0 := 0) (S := [wM cB cI cJ cZ x_0 x_1 x_2 x_3 x_4 x_5 x_6 x_7 x_8 x_9 x_10 x_11 x_12 x_13 x_14 x_15 x_16 x_17 x_18 x_19 s2]) (S0 := [wM cB cI cJ cZ x_0 x_1 x_2 x_3 x_4 x_5 x_6 x_7 x_8 x_9 x_10 x_11 x_12 x_13 x_14 x_15 x_16 x_17 x_18 x_19 s2]) C (c_X8_wanted l D cB cI cJ cZ x_0 x_1 x_2 x_3 x_4 x_5 x_6 x_7 x_8 x_9 x_10 x_11 x_12 x_13 x_14 x_15 x_16 x_17 x_18 x_19 y11) rfl rfl (gIV ml_X8_111 im_X8_wanted sl_X8_wanted in_X8 cd_X8_wanted) rfl eX8_wanted rfl ⟨rfl, rfl⟩ ⟨Nat.le_of_ble_eq_true rfl, Nat.le_of_ble_eq_true rfl⟩ rfl rfl rfl [0] rfl rfl rfl (Nat.le_of_ble_eq_true rfl) (tdec DX8_clears 24 rfl) rfl ?_
      refine g_aload_n (z := 1) C (tdec DX8_clears 25 rfl) rfl rfl rfl ?_
      refine g_iload_n (z := 2) C (tdec DX8_clears 26 rfl) rfl rfl rfl ?_
      obtain ⟨r12, y13, hF⟩ := o_bind hF
      refine g_callViRS (q0 := 0) (S := [wM cB cI cJ cZ x_0 x_1 x_2 x_3 x_4 x_5 x_6 x_7 x_8 x_9 x_10 x_11 x_12 x_13 x_14 x_15 x_16 x_17 x_18 x_19 s2]) (S0 := [wM cB cI cJ cZ x_0 x_1 x_2 x_3 x_4 x_5 x_6 x_7 x_8 x_9 x_10 x_11 x_12 x_13 x_14 x_15 x_16 x_17 x_18 x_19 s2]) C (c_X8_freeMany l D cB cI cJ cZ x_0 x_1 x_2 x_3 x_4 x_5 x_6 x_7 x_8 x_9 x_10 x_11 x_12 x_13 x_14 x_15 x_16 x_17 x_18 x_19 y13) rfl rfl (gIV ml_X8_114 im_X8_freeMany sl_X8_freeMany in_X8 cd_X8_freeMany) rfl eX8_freeMany rfl ⟨rfl, rfl⟩ ⟨Nat.le_of_ble_eq_true rfl, Nat.le_of_ble_eq_true rfl⟩ rfl rfl rfl [0] rfl rfl rfl (Nat.le_of_ble_eq_true rfl) (tdec DX8_clears 27 rfl) rfl ?_
      refine g_icmp_le (pt := 49) C (tdec DX8_clears 28 rfl) (by decide) rfl (fun h14 => ?_) (fun h14 => ?_)
      · have hF := o_ifp hF h14
        refine g_aload_n (z := 1) C (tdec DX8_clears 31 rfl) rfl rfl rfl ?_
        refine g_iload_n (z := 2) C (tdec DX8_clears 32 rfl) rfl rfl rfl ?_
        refine g_iload_n (z := 3) C (tdec DX8_clears 33 rfl) rfl rfl rfl ?_
        refine g_iload_n (z := 4) C (tdec DX8_clears 34 rfl) rfl rfl rfl ?_
        refine g_iconst (v := 3) C (tdec DX8_clears 35 rfl) (by decide) rfl ?_
        obtain ⟨s15, y16, hF⟩ := o_bind hF
        refine g_callVvMS (q0 := 0) (W' := wM cB cI cJ cZ x_0 x_1 x_2 x_3 x_4 x_5 x_6 x_7 x_8 x_9 x_10 x_11 x_12 x_13 x_14 x_15 x_16 x_17 x_18 x_19 s15) (S := [wM cB cI cJ cZ x_0 x_1 x_2 x_3 x_4 x_5 x_6 x_7 x_8 x_9 x_10 x_11 x_12 x_13 x_14 x_15 x_16 x_17 x_18 x_19 s2]) (S0 := [wM cB cI cJ cZ x_0 x_1 x_2 x_3 x_4 x_5 x_6 x_7 x_8 x_9 x_10 x_11 x_12 x_13 x_14 x_15 x_16 x_17 x_18 x_19 s2]) (S1 := [wM cB cI cJ cZ x_0 x_1 x_2 x_3 x_4 x_5 x_6 x_7 x_8 x_9 x_10 x_11 x_12 x_13 x_14 x_15 x_16 x_17 x_18 x_19 s15]) (S' := [wM cB cI cJ cZ x_0 x_1 x_2 x_3 x_4 x_5 x_6 x_7 x_8 x_9 x_10 x_11 x_12 x_13 x_14 x_15 x_16 x_17 x_18 x_19 s15]) C (c_X8_renews l D cB cI cJ cZ x_0 x_1 x_2 x_3 x_4 x_5 x_6 x_7 x_8 x_9 x_10 x_11 x_12 x_13 x_14 x_15 x_16 x_17 x_18 x_19 y16) rfl rfl (gIV ml_X8_118 im_X8_renews sl_X8_renews in_X8 cd_X8_renews) rfl eX8_renews rfl ⟨rfl, rfl⟩ ⟨Nat.le_of_ble_eq_true rfl, Nat.le_of_ble_eq_true rfl⟩ rfl rfl rfl [0] rfl rfl rfl rfl (gA_cons aM gA_nil) rfl rfl (Nat.le_of_ble_eq_true rfl) (tdec DX8_clears 36 rfl) rfl ?_
        refine g_aload_n (z := 1) C (tdec DX8_clears 37 rfl) rfl rfl rfl ?_
        refine g_iload_n (z := 2) C (tdec DX8_clears 38 rfl) rfl rfl rfl ?_
        refine g_iload_n (z := 3) C (tdec DX8_clears 39 rfl) rfl rfl rfl ?_
        refine g_iload_n (z := 4) C (tdec DX8_clears 40 rfl) rfl rfl rfl ?_
        obtain ⟨⟨r17, s18⟩, y19, hF⟩ := o_bind hF
        refine g_callViMS (q0 := 0) (W' := wM cB cI cJ cZ x_0 x_1 x_2 x_3 x_4 x_5 x_6 x_7 x_8 x_9 x_10 x_11 x_12 x_13 x_14 x_15 x_16 x_17 x_18 x_19 s18) (S := [wM cB cI cJ cZ x_0 x_1 x_2 x_3 x_4 x_5 x_6 x_7 x_8 x_9 x_10 x_11 x_12 x_13 x_14 x_15 x_16 x_17 x_18 x_19 s15]) (S0 := [wM cB cI cJ cZ x_0 x_1 x_2 x_3 x_4 x_5 x_6 x_7 x_8 x_9 x_10 x_11 x_12 x_13 x_14 x_15 x_16 x_17 x_18 x_19 s15]) (S1 := [wM cB cI cJ cZ x_0 x_1 x_2 x_3 x_4 x_5 x_6 x_7 x_8 x_9 x_10 x_11 x_12 x_13 x_14 x_15 x_16 x_17 x_18 x_19 s18]) (S' := [wM cB cI cJ cZ x_0 x_1 x_2 x_3 x_4 x_5 x_6 x_7 x_8 x_9 x_10 x_11 x_12 x_13 x_14 x_15 x_16 x_17 x_18 x_19 s18]) C (c_X8_ways l D cB cI cJ cZ x_0 x_1 x_2 x_3 x_4 x_5 x_6 x_7 x_8 x_9 x_10 x_11 x_12 x_13 x_14 x_15 x_16 x_17 x_18 x_19 y19) rfl rfl (gIV ml_X8_107 im_X8_ways sl_X8_ways in_X8 cd_X8_ways) rfl eX8_ways rfl ⟨rfl, rfl⟩ ⟨Nat.le_of_ble_eq_true rfl, Nat.le_of_ble_eq_true rfl⟩ rfl rfl rfl [0] rfl rfl rfl rfl (gA_cons aM gA_nil) rfl rfl (Nat.le_of_ble_eq_true rfl) (tdec DX8_clears 41 rfl) rfl ?_
        refine g_pop C (tdec DX8_clears 42 rfl) rfl rfl ?_
        refine g_aload_n (z := 1) C (tdec DX8_clears 43 rfl) rfl rfl rfl ?_
        refine g_iload_n (z := 2) C (tdec DX8_clears 44 rfl) rfl rfl rfl ?_
        refine g_aload_n (z := 1) C (tdec DX8_clears 45 rfl) rfl rfl rfl ?_
        refine g_getf (C' := RX8) (T := TX8) (N := 27) (v := .ref x_19) C 0 25 (gIn iw_X8) rfl rfl (by decide) (gMem fl_X8_71) rfl rfl (tdec DX8_clears 46 rfl) rfl ?_
        refine g_iconst (v := 3) C (tdec DX8_clears 47 rfl) (by decide) rfl ?_
        obtain ⟨r20, y21, hF⟩ := o_bind hF
        refine g_iald C 19 1 rfl rfl y21 (tdec DX8_clears 48 rfl) rfl ?_
        refine g_iconst (v := (-1)) C (tdec DX8_clears 49 rfl) (by decide) rfl ?_
        refine g_aload_n (z := 1) C (tdec DX8_clears 50 rfl) rfl rfl rfl ?_
        refine g_getf (C' := RX8) (T := TX8) (N := 27) (v := .ref x_9) C 0 9 (gIn iw_X8) rfl rfl (by decide) (gMem fl_X8_36) rfl rfl (tdec DX8_clears 51 rfl) rfl ?_
        refine g_iload_n (z := 2) C (tdec DX8_clears 52 rfl) rfl rfl rfl ?_
        obtain ⟨r22, y23, hF⟩ := o_bind hF
        refine g_iald C 9 1 rfl rfl y23 (tdec DX8_clears 53 rfl) rfl ?_
        obtain ⟨s24, y25, hF⟩ := o_bind hF
        refine g_callVvMS (q0 := 0) (W' := wM cB cI cJ cZ x_0 x_1 x_2 x_3 x_4 x_5 x_6 x_7 x_8 x_9 x_10 x_11 x_12 x_13 x_14 x_15 x_16 x_17 x_18 x_19 s24) (S := [wM cB cI cJ cZ x_0 x_1 x_2 x_3 x_4 x_5 x_6 x_7 x_8 x_9 x_10 x_11 x_12 x_13 x_14 x_15 x_16 x_17 x_18 x_19 s18]) (S0 := [wM cB cI cJ cZ x_0 x_1 x_2 x_3 x_4 x_5 x_6 x_7 x_8 x_9 x_10 x_11 x_12 x_13 x_14 x_15 x_16 x_17 x_18 x_19 s18]) (S1 := [wM cB cI cJ cZ x_0 x_1 x_2 x_3 x_4 x_5 x_6 x_7 x_8 x_9 x_10 x_11 x_12 x_13 x_14 x_15 x_16 x_17 x_18 x_19 s24]) (S' := [wM cB cI cJ cZ x_0 x_1 x_2 x_3 x_4 x_5 x_6 x_7 x_8 x_9 x_10 x_11 x_12 x_13 x_14 x_15 x_16 x_17 x_18 x_19 s24]) C (c_X8_point l D cB cI cJ cZ x_0 x_1 x_2 x_3 x_4 x_5 x_6 x_7 x_8 x_9 x_10 x_11 x_12 x_13 x_14 x_15 x_16 x_17 x_18 x_19 y25) rfl rfl (gIV ml_X8_103 im_X8_point sl_X8_point in_X8 cd_X8_point) rfl eX8_point rfl ⟨rfl, rfl⟩ ⟨Nat.le_of_ble_eq_true rfl, Nat.le_of_ble_eq_true rfl⟩ rfl rfl rfl [0] rfl rfl rfl rfl (gA_cons aM gA_nil) rfl rfl (Nat.le_of_ble_eq_true rfl) (tdec DX8_clears 54 rfl) rfl ?_
        refine g_iconst (v := 2) C (tdec DX8_clears 55 rfl) (by decide) rfl ?_
        refine g_istore (L' := [(5, .int 2), (4, .int r1), (0, .ref x_0), (1, .int p1), (2, .int p2), (3, .int p3)]) C (tdec DX8_clears 56 rfl) (by decide) rfl rfl ?_
        refine g_sub (L' := [(0, .ref x_0), (1, .int p1), (2, .int p2), (3, .int p3), (4, .int r1), (5, .int 2)]) [2, 3, 4, 5, 1, 0] rfl ?_
        refine c_FX8_clears_L86 C (fun xq40 w5_40 hF => ?_) 100000 _ _ hF
        refine g_iconst (v := 0) C (tdec DX8_clears 84 rfl) (by decide) rfl ?_
        have hr9 := o_some hF
        subst hr9
        exact g_iret C rfl rfl (tdec DX8_clears 85 rfl)
      · have hF := o_ifn hF h14
        refine g_iconst (v := 5) C (tdec DX8_clears 29 rfl) (by decide) rfl ?_
        have hr9 := o_some hF
        subst hr9
        exact g_iret C rfl rfl (tdec DX8_clears 30 rfl)
    · have hF := o_ifp hF h9
      refine g_iconst (v := 0) C (tdec DX8_clears 18 rfl) (by decide) rfl ?_
      have hr9 := o_some hF
      subst hr9
      exact g_iret C rfl rfl (tdec DX8_clears 19 rfl)
def FX8_isPlace (p0 : Int32) : Option (Int32) :=
  if p0 < 0 then
    some 0
  else
    if 512 ≤ p0 then
      some 0
    else
      some 1
def rX8_isPlace : Room := { frames := 0, cells := 0, slots := 0, locals := 0 }
set_option maxHeartbeats 4000000 in
set_option maxRecDepth 100000 in
theorem c_X8_isPlace (l : Launch) (D : va_G) (cB cI cJ cZ : ClassId) {p0 : Int32} {res : Int32} (hF : FX8_isPlace p0 = some res) : gRi l yX8_isPlace wsX8_isPlace rX8_isPlace D (gT cB cI cJ cZ) [.int p0] ([]) res := by
  refine g_enter (own := RX8) (free := (fun _ _ => False)) (Qc := (fun sz => gRQi res)) (fun _ _ => True) (fun sz => Or.inl rfl) rfl (by decide) rfl (Nat.le_of_ble_eq_true rfl) rfl ?_
  intro p e s m args below meth c C
  unfold FX8_isPlace at hF
  refine g_iload_n (z := 0) C (tdec DX8_isPlace 0 rfl) rfl rfl rfl ?_
  refine g_if_lt (pt := 15) C (tdec DX8_isPlace 1 rfl) (by decide) rfl (fun h1 => ?_) (fun h1 => ?_)
  · have hF := o_ifp hF h1
    refine g_iconst (v := 0) C (tdec DX8_isPlace 7 rfl) (by decide) rfl ?_
    have hr9 := o_some hF
    subst hr9
    exact g_zretR C rfl rfl (tdec DX8_isPlace 8 rfl)
  · have hF := o_ifn hF h1
    refine g_iload_n (z := 0) C (tdec DX8_isPlace 2 rfl) rfl rfl rfl ?_
    refine g_sipush (v := 512) C (tdec DX8_isPlace 3 rfl) (by decide) rfl ?_
    refine g_icmp_ge (pt := 15) C (tdec DX8_isPlace 4 rfl) (by decide) rfl (fun h2 => ?_) (fun h2 => ?_)
    · have hF := o_ifp hF h2
      refine g_iconst (v := 0) C (tdec DX8_isPlace 7 rfl) (by decide) rfl ?_
      have hr9 := o_some hF
      subst hr9
      exact g_zretR C rfl rfl (tdec DX8_isPlace 8 rfl)
    · have hF := o_ifn hF h2
      refine g_iconst (v := 1) C (tdec DX8_isPlace 5 rfl) (by decide) rfl ?_
      refine g_goto (pt := 16) C (tdec DX8_isPlace 6 rfl) (by decide) ?_
      have hr9 := o_some hF
      subst hr9
      exact g_zretR C rfl rfl (tdec DX8_isPlace 8 rfl)
def FX8_write (x0 : MS) (p1 : Int32) (p2 : Int32) (p3 : Int64) : Option (Int32 × MS) :=
  (FX8_isVolume p1).bind fun r1 =>
  if r1 = 0 then
    if 1 ≤ 0 then
      (ald 2 (MS_busy x0) p1).bind fun r5 =>
      if r5 = 0 then
        (FX8_begins (MS_setthr x0 1) p1).bind fun s8 =>
        (FX8_writes s8 p1 0 p2 p3).bind fun (r10, s11) =>
        (FX8_sweeps s11 p1).bind fun s13 =>
        some (r10, s13)
      else
        some (6, (MS_setthr x0 1))
    else
      some (0, (MS_setthr x0 1))
  else
    (FX8_isPlace p2).bind fun r15 =>
    if r15 = 0 then
      if 1 ≤ 0 then
        (ald 2 (MS_busy x0) p1).bind fun r30 =>
        if r30 = 0 then
          (FX8_begins (MS_setthr x0 1) p1).bind fun s33 =>
          (FX8_writes s33 p1 0 p2 p3).bind fun (r35, s36) =>
          (FX8_sweeps s36 p1).bind fun s38 =>
          some (r35, s38)
        else
          some (6, (MS_setthr x0 1))
      else
        some (0, (MS_setthr x0 1))
    else
      if 0 ≤ 0 then
        (ald 2 (MS_busy x0) p1).bind fun r19 =>
        if r19 = 0 then
          (FX8_begins (MS_setthr x0 0) p1).bind fun s22 =>
          (FX8_writes s22 p1 0 p2 p3).bind fun (r24, s25) =>
          (FX8_sweeps s25 p1).bind fun s27 =>
          some (r24, s27)
        else
          some (6, (MS_setthr x0 0))
      else
        some (0, (MS_setthr x0 0))
def rX8_write : Room := { frames := 3, cells := 0, slots := 0, locals := 80 }
set_option maxHeartbeats 4000000 in
set_option maxRecDepth 100000 in
theorem c_X8_write (l : Launch) (D : va_G) (cB cI cJ cZ : ClassId) (x_0 x_1 x_2 x_3 x_4 x_5 x_6 x_7 x_8 x_9 x_10 x_11 x_12 x_13 x_14 x_15 x_16 x_17 x_18 x_19 : Nat) {x0 : MS} {p1 : Int32} {p2 : Int32} {p3 : Int64} {res : Int32 × MS} (hF : FX8_write x0 p1 p2 p3 = some res) : gMi l yX8_write wsX8_write rX8_write D (gT cB cI cJ cZ) [.ref x_0, .int p1, .int p2, .long p3] (wM cB cI cJ cZ x_0 x_1 x_2 x_3 x_4 x_5 x_6 x_7 x_8 x_9 x_10 x_11 x_12 x_13 x_14 x_15 x_16 x_17 x_18 x_19 x0) res.1 (wM cB cI cJ cZ x_0 x_1 x_2 x_3 x_4 x_5 x_6 x_7 x_8 x_9 x_10 x_11 x_12 x_13 x_14 x_15 x_16 x_17 x_18 x_19 res.2) := by
  refine g_enter (own := RX8) (free := (fun sz => va_A (wM cB cI cJ cZ x_0 x_1 x_2 x_3 x_4 x_5 x_6 x_7 x_8 x_9 x_10 x_11 x_12 x_13 x_14 x_15 x_16 x_17 x_18 x_19 x0) sz)) (Qc := (fun sz => gQi D (wM cB cI cJ cZ x_0 x_1 x_2 x_3 x_4 x_5 x_6 x_7 x_8 x_9 x_10 x_11 x_12 x_13 x_14 x_15 x_16 x_17 x_18 x_19 x0) sz res.1 (wM cB cI cJ cZ x_0 x_1 x_2 x_3 x_4 x_5 x_6 x_7 x_8 x_9 x_10 x_11 x_12 x_13 x_14 x_15 x_16 x_17 x_18 x_19 res.2))) (fun sz => va_A (wM cB cI cJ cZ x_0 x_1 x_2 x_3 x_4 x_5 x_6 x_7 x_8 x_9 x_10 x_11 x_12 x_13 x_14 x_15 x_16 x_17 x_18 x_19 x0) sz) (fun sz => Or.inr rfl) rfl (by decide) rfl (Nat.le_of_ble_eq_true rfl) rfl ?_
  intro p e s m args below meth c C
  unfold FX8_write at hF
  refine g_aload_n (z := 0) C (tdec DX8_write 0 rfl) rfl rfl rfl ?_
  refine g_iload_n (z := 1) C (tdec DX8_write 1 rfl) rfl rfl rfl ?_
  obtain ⟨r1, y2, hF⟩ := o_bind hF
  refine g_callSiR C (c_X8_isVolume l D cB cI cJ cZ y2) (gIS ml_X8_82 st_X8_isVolume in_X8 cd_X8_isVolume) eX8_isVolume rfl ⟨rfl, rfl⟩ ⟨Nat.le_of_ble_eq_true rfl, Nat.le_of_ble_eq_true rfl⟩ rfl [] rfl rfl rfl (Nat.le_of_ble_eq_true rfl) (tdec DX8_write 2 rfl) rfl ?_
  refine g_if_eq (pt := 15) C (tdec DX8_write 3 rfl) (by decide) rfl (fun h3 => ?_) (fun h3 => ?_)
  · have hF := o_ifp hF h3
    refine g_iconst (v := 1) C (tdec DX8_write 7 rfl) (by decide) rfl ?_
    refine g_goto (pt := 20) C (tdec DX8_write 8 rfl) (by decide) ?_
    refine g_putf (C' := RX8) (T := TX8) (N := 27) (v := .int 1) (ws' := wM cB cI cJ cZ x_0 x_1 x_2 x_3 x_4 x_5 x_6 x_7 x_8 x_9 x_10 x_11 x_12 x_13 x_14 x_15 x_16 x_17 x_18 x_19 (MS_setthr x0 1)) C 0 0 tyX8 tyX8_ok nmX8 (gIn iw_X8) rfl rfl (by decide) (gMem fl_X8_78) rfl rfl (tyX8_ok 0 (by decide)) rfl rfl (Nat.le_of_ble_eq_true rfl) rfl (tdec DX8_write 10 rfl) rfl ?_
    refine g_aload_n (z := 0) C (tdec DX8_write 11 rfl) rfl rfl rfl ?_
    refine g_getf (C' := RX8) (T := TX8) (N := 27) (v := .int 1) C 0 0 (gIn iw_X8) rfl rfl (by decide) (gMem fl_X8_78) rfl rfl (tdec DX8_write 12 rfl) rfl ?_
    refine g_if_le (pt := 32) C (tdec DX8_write 13 rfl) (by decide) rfl (fun h4 => ?_) (fun h4 => ?_)
    · have hF := o_ifp hF h4
      refine g_aload_n (z := 0) C (tdec DX8_write 16 rfl) rfl rfl rfl ?_
      refine g_getf (C' := RX8) (T := TX8) (N := 27) (v := .ref x_13) C 0 13 (gIn iw_X8) rfl rfl (by decide) (gMem fl_X8_48) rfl rfl (tdec DX8_write 17 rfl) rfl ?_
      refine g_iload_n (z := 1) C (tdec DX8_write 18 rfl) rfl rfl rfl ?_
      obtain ⟨r5, y6, hF⟩ := o_bind hF
      refine g_zald C 13 3 rfl rfl y6 (tdec DX8_write 19 rfl) rfl ?_
      refine g_if_eq (pt := 44) C (tdec DX8_write 20 rfl) (by decide) rfl (fun h7 => ?_) (fun h7 => ?_)
      · have hF := o_ifp hF h7
        refine g_aload_n (z := 0) C (tdec DX8_write 23 rfl) rfl rfl rfl ?_
        refine g_iload_n (z := 1) C (tdec DX8_write 24 rfl) rfl rfl rfl ?_
        obtain ⟨s8, y9, hF⟩ := o_bind hF
        refine g_callVvMS (q0 := 0) (W' := wM cB cI cJ cZ x_0 x_1 x_2 x_3 x_4 x_5 x_6 x_7 x_8 x_9 x_10 x_11 x_12 x_13 x_14 x_15 x_16 x_17 x_18 x_19 s8) (S := [wM cB cI cJ cZ x_0 x_1 x_2 x_3 x_4 x_5 x_6 x_7 x_8 x_9 x_10 x_11 x_12 x_13 x_14 x_15 x_16 x_17 x_18 x_19 (MS_setthr x0 1)]) (S0 := [wM cB cI cJ cZ x_0 x_1 x_2 x_3 x_4 x_5 x_6 x_7 x_8 x_9 x_10 x_11 x_12 x_13 x_14 x_15 x_16 x_17 x_18 x_19 (MS_setthr x0 1)]) (S1 := [wM cB cI cJ cZ x_0 x_1 x_2 x_3 x_4 x_5 x_6 x_7 x_8 x_9 x_10 x_11 x_12 x_13 x_14 x_15 x_16 x_17 x_18 x_19 s8]) (S' := [wM cB cI cJ cZ x_0 x_1 x_2 x_3 x_4 x_5 x_6 x_7 x_8 x_9 x_10 x_11 x_12 x_13 x_14 x_15 x_16 x_17 x_18 x_19 s8]) C (c_X8_begins l D cB cI cJ cZ x_0 x_1 x_2 x_3 x_4 x_5 x_6 x_7 x_8 x_9 x_10 x_11 x_12 x_13 x_14 x_15 x_16 x_17 x_18 x_19 y9) rfl rfl (gIV ml_X8_127 im_X8_begins sl_X8_begins in_X8 cd_X8_begins) rfl eX8_begins rfl ⟨rfl, rfl⟩ ⟨Nat.le_of_ble_eq_true rfl, Nat.le_of_ble_eq_true rfl⟩ rfl rfl rfl [0] rfl rfl rfl rfl (gA_cons aM gA_nil) rfl rfl (Nat.le_of_ble_eq_true rfl) (tdec DX8_write 25 rfl) rfl ?_
        refine g_aload_n (z := 0) C (tdec DX8_write 26 rfl) rfl rfl rfl ?_
        refine g_iload_n (z := 1) C (tdec DX8_write 27 rfl) rfl rfl rfl ?_
        refine g_iconst (v := 0) C (tdec DX8_write 28 rfl) (by decide) rfl ?_
        refine g_iload_n (z := 2) C (tdec DX8_write 29 rfl) rfl rfl rfl ?_
        refine g_lload_n (z := 3) C (tdec DX8_write 30 rfl) rfl rfl rfl ?_
        obtain ⟨⟨r10, s11⟩, y12, hF⟩ := o_bind hF
        refine g_callViMS (q0 := 0) (W' := wM cB cI cJ cZ x_0 x_1 x_2 x_3 x_4 x_5 x_6 x_7 x_8 x_9 x_10 x_11 x_12 x_13 x_14 x_15 x_16 x_17 x_18 x_19 s11) (S := [wM cB cI cJ cZ x_0 x_1 x_2 x_3 x_4 x_5 x_6 x_7 x_8 x_9 x_10 x_11 x_12 x_13 x_14 x_15 x_16 x_17 x_18 x_19 s8]) (S0 := [wM cB cI cJ cZ x_0 x_1 x_2 x_3 x_4 x_5 x_6 x_7 x_8 x_9 x_10 x_11 x_12 x_13 x_14 x_15 x_16 x_17 x_18 x_19 s8]) (S1 := [wM cB cI cJ cZ x_0 x_1 x_2 x_3 x_4 x_5 x_6 x_7 x_8 x_9 x_10 x_11 x_12 x_13 x_14 x_15 x_16 x_17 x_18 x_19 s11]) (S' := [wM cB cI cJ cZ x_0 x_1 x_2 x_3 x_4 x_5 x_6 x_7 x_8 x_9 x_10 x_11 x_12 x_13 x_14 x_15 x_16 x_17 x_18 x_19 s11]) C (c_X8_writes l D cB cI cJ cZ x_0 x_1 x_2 x_3 x_4 x_5 x_6 x_7 x_8 x_9 x_10 x_11 x_12 x_13 x_14 x_15 x_16 x_17 x_18 x_19 y12) rfl rfl (gIV ml_X8_131 im_X8_writes sl_X8_writes in_X8 cd_X8_writes) rfl eX8_writes rfl ⟨rfl, rfl⟩ ⟨Nat.le_of_ble_eq_true rfl, Nat.le_of_ble_eq_true rfl⟩ rfl rfl rfl [0] rfl rfl rfl rfl (gA_cons aM gA_nil) rfl rfl (Nat.le_of_ble_eq_true rfl) (tdec DX8_write 31 rfl) rfl ?_
        refine g_istore (L' := [(5, .int r10), (0, .ref x_0), (1, .int p1), (2, .int p2), (3, .long p3)]) C (tdec DX8_write 32 rfl) (by decide) rfl rfl ?_
        refine g_aload_n (z := 1) C (tdec DX8_write 33 rfl) rfl rfl rfl ?_
        refine g_iload_n (z := 2) C (tdec DX8_write 34 rfl) rfl rfl rfl ?_
        obtain ⟨s13, y14, hF⟩ := o_bind hF
        refine g_callVvMS (q0 := 0) (W' := wM cB cI cJ cZ x_0 x_1 x_2 x_3 x_4 x_5 x_6 x_7 x_8 x_9 x_10 x_11 x_12 x_13 x_14 x_15 x_16 x_17 x_18 x_19 s13) (S := [wM cB cI cJ cZ x_0 x_1 x_2 x_3 x_4 x_5 x_6 x_7 x_8 x_9 x_10 x_11 x_12 x_13 x_14 x_15 x_16 x_17 x_18 x_19 s11]) (S0 := [wM cB cI cJ cZ x_0 x_1 x_2 x_3 x_4 x_5 x_6 x_7 x_8 x_9 x_10 x_11 x_12 x_13 x_14 x_15 x_16 x_17 x_18 x_19 s11]) (S1 := [wM cB cI cJ cZ x_0 x_1 x_2 x_3 x_4 x_5 x_6 x_7 x_8 x_9 x_10 x_11 x_12 x_13 x_14 x_15 x_16 x_17 x_18 x_19 s13]) (S' := [wM cB cI cJ cZ x_0 x_1 x_2 x_3 x_4 x_5 x_6 x_7 x_8 x_9 x_10 x_11 x_12 x_13 x_14 x_15 x_16 x_17 x_18 x_19 s13]) C (c_X8_sweeps l D cB cI cJ cZ x_0 x_1 x_2 x_3 x_4 x_5 x_6 x_7 x_8 x_9 x_10 x_11 x_12 x_13 x_14 x_15 x_16 x_17 x_18 x_19 y14) rfl rfl (gIV ml_X8_135 im_X8_sweeps sl_X8_sweeps in_X8 cd_X8_sweeps) rfl eX8_sweeps rfl ⟨rfl, rfl⟩ ⟨Nat.le_of_ble_eq_true rfl, Nat.le_of_ble_eq_true rfl⟩ rfl rfl rfl [0] rfl rfl rfl rfl (gA_cons aM gA_nil) rfl rfl (Nat.le_of_ble_eq_true rfl) (tdec DX8_write 35 rfl) rfl ?_
        refine g_iload (z := 0) C (tdec DX8_write 36 rfl) rfl rfl ?_
        have hr9 := o_some hF
        subst hr9
        exact g_iret C rfl rfl (tdec DX8_write 37 rfl)
      · have hF := o_ifn hF h7
        refine g_bipush (v := 6) C (tdec DX8_write 21 rfl) (by decide) rfl ?_
        have hr9 := o_some hF
        subst hr9
        exact g_iret C rfl rfl (tdec DX8_write 22 rfl)
    · have hF := o_ifn hF h4
      refine g_iconst (v := 0) C (tdec DX8_write 14 rfl) (by decide) rfl ?_
      have hr9 := o_some hF
      subst hr9
      exact g_iret C rfl rfl (tdec DX8_write 15 rfl)
  · have hF := o_ifn hF h3
    refine g_iload_n (z := 2) C (tdec DX8_write 4 rfl) rfl rfl rfl ?_
    obtain ⟨r15, y16, hF⟩ := o_bind hF
    refine g_callSiR C (c_X8_isPlace l D cB cI cJ cZ y16) (gIS ml_X8_124 st_X8_isPlace in_X8 cd_X8_isPlace) eX8_isPlace rfl ⟨rfl, rfl⟩ ⟨Nat.le_of_ble_eq_true rfl, Nat.le_of_ble_eq_true rfl⟩ rfl [] rfl rfl rfl (Nat.le_of_ble_eq_true rfl) (tdec DX8_write 5 rfl) rfl ?_
    refine g_if_ne (pt := 19) C (tdec DX8_write 6 rfl) (by decide) rfl (fun h17 => ?_) (fun h17 => ?_)
    · have hF := o_ifn hF h17
      refine g_iconst (v := 0) C (tdec DX8_write 9 rfl) (by decide) rfl ?_
      refine g_putf (C' := RX8) (T := TX8) (N := 27) (v := .int 0) (ws' := wM cB cI cJ cZ x_0 x_1 x_2 x_3 x_4 x_5 x_6 x_7 x_8 x_9 x_10 x_11 x_12 x_13 x_14 x_15 x_16 x_17 x_18 x_19 (MS_setthr x0 0)) C 0 0 tyX8 tyX8_ok nmX8 (gIn iw_X8) rfl rfl (by decide) (gMem fl_X8_78) rfl rfl (tyX8_ok 0 (by decide)) rfl rfl (Nat.le_of_ble_eq_true rfl) rfl (tdec DX8_write 10 rfl) rfl ?_
      refine g_aload_n (z := 0) C (tdec DX8_write 11 rfl) rfl rfl rfl ?_
      refine g_getf (C' := RX8) (T := TX8) (N := 27) (v := .int 0) C 0 0 (gIn iw_X8) rfl rfl (by decide) (gMem fl_X8_78) rfl rfl (tdec DX8_write 12 rfl) rfl ?_
      refine g_if_le (pt := 32) C (tdec DX8_write 13 rfl) (by decide) rfl (fun h18 => ?_) (fun h18 => ?_)
      · have hF := o_ifp hF h18
        refine g_aload_n (z := 0) C (tdec DX8_write 16 rfl) rfl rfl rfl ?_
        refine g_getf (C' := RX8) (T := TX8) (N := 27) (v := .ref x_13) C 0 13 (gIn iw_X8) rfl rfl (by decide) (gMem fl_X8_48) rfl rfl (tdec DX8_write 17 rfl) rfl ?_
        refine g_iload_n (z := 1) C (tdec DX8_write 18 rfl) rfl rfl rfl ?_
        obtain ⟨r19, y20, hF⟩ := o_bind hF
        refine g_zald C 13 3 rfl rfl y20 (tdec DX8_write 19 rfl) rfl ?_
        refine g_if_eq (pt := 44) C (tdec DX8_write 20 rfl) (by decide) rfl (fun h21 => ?_) (fun h21 => ?_)
        · have hF := o_ifp hF h21
          refine g_aload_n (z := 0) C (tdec DX8_write 23 rfl) rfl rfl rfl ?_
          refine g_iload_n (z := 1) C (tdec DX8_write 24 rfl) rfl rfl rfl ?_
          obtain ⟨s22, y23, hF⟩ := o_bind hF
          refine g_callVvMS (q0 := 0) (W' := wM cB cI cJ cZ x_0 x_1 x_2 x_3 x_4 x_5 x_6 x_7 x_8 x_9 x_10 x_11 x_12 x_13 x_14 x_15 x_16 x_17 x_18 x_19 s22) (S := [wM cB cI cJ cZ x_0 x_1 x_2 x_3 x_4 x_5 x_6 x_7 x_8 x_9 x_10 x_11 x_12 x_13 x_14 x_15 x_16 x_17 x_18 x_19 (MS_setthr x0 0)]) (S0 := [wM cB cI cJ cZ x_0 x_1 x_2 x_3 x_4 x_5 x_6 x_7 x_8 x_9 x_10 x_11 x_12 x_13 x_14 x_15 x_16 x_17 x_18 x_19 (MS_setthr x0 0)]) (S1 := [wM cB cI cJ cZ x_0 x_1 x_2 x_3 x_4 x_5 x_6 x_7 x_8 x_9 x_10 x_11 x_12 x_13 x_14 x_15 x_16 x_17 x_18 x_19 s22]) (S' := [wM cB cI cJ cZ x_0 x_1 x_2 x_3 x_4 x_5 x_6 x_7 x_8 x_9 x_10 x_11 x_12 x_13 x_14 x_15 x_16 x_17 x_18 x_19 s22]) C (c_X8_begins l D cB cI cJ cZ x_0 x_1 x_2 x_3 x_4 x_5 x_6 x_7 x_8 x_9 x_10 x_11 x_12 x_13 x_14 x_15 x_16 x_17 x_18 x_19 y23) rfl rfl (gIV ml_X8_127 im_X8_begins sl_X8_begins in_X8 cd_X8_begins) rfl eX8_begins rfl ⟨rfl, rfl⟩ ⟨Nat.le_of_ble_eq_true rfl, Nat.le_of_ble_eq_true rfl⟩ rfl rfl rfl [0] rfl rfl rfl rfl (gA_cons aM gA_nil) rfl rfl (Nat.le_of_ble_eq_true rfl) (tdec DX8_write 25 rfl) rfl ?_
          refine g_aload_n (z := 0) C (tdec DX8_write 26 rfl) rfl rfl rfl ?_
          refine g_iload_n (z := 1) C (tdec DX8_write 27 rfl) rfl rfl rfl ?_
          refine g_iconst (v := 0) C (tdec DX8_write 28 rfl) (by decide) rfl ?_
          refine g_iload_n (z := 2) C (tdec DX8_write 29 rfl) rfl rfl rfl ?_
          refine g_lload_n (z := 3) C (tdec DX8_write 30 rfl) rfl rfl rfl ?_
          obtain ⟨⟨r24, s25⟩, y26, hF⟩ := o_bind hF
          refine g_callViMS (q0 := 0) (W' := wM cB cI cJ cZ x_0 x_1 x_2 x_3 x_4 x_5 x_6 x_7 x_8 x_9 x_10 x_11 x_12 x_13 x_14 x_15 x_16 x_17 x_18 x_19 s25) (S := [wM cB cI cJ cZ x_0 x_1 x_2 x_3 x_4 x_5 x_6 x_7 x_8 x_9 x_10 x_11 x_12 x_13 x_14 x_15 x_16 x_17 x_18 x_19 s22]) (S0 := [wM cB cI cJ cZ x_0 x_1 x_2 x_3 x_4 x_5 x_6 x_7 x_8 x_9 x_10 x_11 x_12 x_13 x_14 x_15 x_16 x_17 x_18 x_19 s22]) (S1 := [wM cB cI cJ cZ x_0 x_1 x_2 x_3 x_4 x_5 x_6 x_7 x_8 x_9 x_10 x_11 x_12 x_13 x_14 x_15 x_16 x_17 x_18 x_19 s25]) (S' := [wM cB cI cJ cZ x_0 x_1 x_2 x_3 x_4 x_5 x_6 x_7 x_8 x_9 x_10 x_11 x_12 x_13 x_14 x_15 x_16 x_17 x_18 x_19 s25]) C (c_X8_writes l D cB cI cJ cZ x_0 x_1 x_2 x_3 x_4 x_5 x_6 x_7 x_8 x_9 x_10 x_11 x_12 x_13 x_14 x_15 x_16 x_17 x_18 x_19 y26) rfl rfl (gIV ml_X8_131 im_X8_writes sl_X8_writes in_X8 cd_X8_writes) rfl eX8_writes rfl ⟨rfl, rfl⟩ ⟨Nat.le_of_ble_eq_true rfl, Nat.le_of_ble_eq_true rfl⟩ rfl rfl rfl [0] rfl rfl rfl rfl (gA_cons aM gA_nil) rfl rfl (Nat.le_of_ble_eq_true rfl) (tdec DX8_write 31 rfl) rfl ?_
          refine g_istore (L' := [(5, .int r24), (0, .ref x_0), (1, .int p1), (2, .int p2), (3, .long p3)]) C (tdec DX8_write 32 rfl) (by decide) rfl rfl ?_
          refine g_aload_n (z := 1) C (tdec DX8_write 33 rfl) rfl rfl rfl ?_
          refine g_iload_n (z := 2) C (tdec DX8_write 34 rfl) rfl rfl rfl ?_
          obtain ⟨s27, y28, hF⟩ := o_bind hF
          refine g_callVvMS (q0 := 0) (W' := wM cB cI cJ cZ x_0 x_1 x_2 x_3 x_4 x_5 x_6 x_7 x_8 x_9 x_10 x_11 x_12 x_13 x_14 x_15 x_16 x_17 x_18 x_19 s27) (S := [wM cB cI cJ cZ x_0 x_1 x_2 x_3 x_4 x_5 x_6 x_7 x_8 x_9 x_10 x_11 x_12 x_13 x_14 x_15 x_16 x_17 x_18 x_19 s25]) (S0 := [wM cB cI cJ cZ x_0 x_1 x_2 x_3 x_4 x_5 x_6 x_7 x_8 x_9 x_10 x_11 x_12 x_13 x_14 x_15 x_16 x_17 x_18 x_19 s25]) (S1 := [wM cB cI cJ cZ x_0 x_1 x_2 x_3 x_4 x_5 x_6 x_7 x_8 x_9 x_10 x_11 x_12 x_13 x_14 x_15 x_16 x_17 x_18 x_19 s27]) (S' := [wM cB cI cJ cZ x_0 x_1 x_2 x_3 x_4 x_5 x_6 x_7 x_8 x_9 x_10 x_11 x_12 x_13 x_14 x_15 x_16 x_17 x_18 x_19 s27]) C (c_X8_sweeps l D cB cI cJ cZ x_0 x_1 x_2 x_3 x_4 x_5 x_6 x_7 x_8 x_9 x_10 x_11 x_12 x_13 x_14 x_15 x_16 x_17 x_18 x_19 y28) rfl rfl (gIV ml_X8_135 im_X8_sweeps sl_X8_sweeps in_X8 cd_X8_sweeps) rfl eX8_sweeps rfl ⟨rfl, rfl⟩ ⟨Nat.le_of_ble_eq_true rfl, Nat.le_of_ble_eq_true rfl⟩ rfl rfl rfl [0] rfl rfl rfl rfl (gA_cons aM gA_nil) rfl rfl (Nat.le_of_ble_eq_true rfl) (tdec DX8_write 35 rfl) rfl ?_
          refine g_iload (z := 0) C (tdec DX8_write 36 rfl) rfl rfl ?_
          have hr9 := o_some hF
          subst hr9
          exact g_iret C rfl rfl (tdec DX8_write 37 rfl)
        · have hF := o_ifn hF h21
          refine g_bipush (v := 6) C (tdec DX8_write 21 rfl) (by decide) rfl ?_
          have hr9 := o_some hF
          subst hr9
          exact g_iret C rfl rfl (tdec DX8_write 22 rfl)
      · have hF := o_ifn hF h18
        refine g_iconst (v := 0) C (tdec DX8_write 14 rfl) (by decide) rfl ?_
        have hr9 := o_some hF
        subst hr9
        exact g_iret C rfl rfl (tdec DX8_write 15 rfl)
    · have hF := o_ifp hF h17
      refine g_iconst (v := 1) C (tdec DX8_write 7 rfl) (by decide) rfl ?_
      refine g_goto (pt := 20) C (tdec DX8_write 8 rfl) (by decide) ?_
      refine g_putf (C' := RX8) (T := TX8) (N := 27) (v := .int 1) (ws' := wM cB cI cJ cZ x_0 x_1 x_2 x_3 x_4 x_5 x_6 x_7 x_8 x_9 x_10 x_11 x_12 x_13 x_14 x_15 x_16 x_17 x_18 x_19 (MS_setthr x0 1)) C 0 0 tyX8 tyX8_ok nmX8 (gIn iw_X8) rfl rfl (by decide) (gMem fl_X8_78) rfl rfl (tyX8_ok 0 (by decide)) rfl rfl (Nat.le_of_ble_eq_true rfl) rfl (tdec DX8_write 10 rfl) rfl ?_
      refine g_aload_n (z := 0) C (tdec DX8_write 11 rfl) rfl rfl rfl ?_
      refine g_getf (C' := RX8) (T := TX8) (N := 27) (v := .int 1) C 0 0 (gIn iw_X8) rfl rfl (by decide) (gMem fl_X8_78) rfl rfl (tdec DX8_write 12 rfl) rfl ?_
      refine g_if_le (pt := 32) C (tdec DX8_write 13 rfl) (by decide) rfl (fun h29 => ?_) (fun h29 => ?_)
      · have hF := o_ifp hF h29
        refine g_aload_n (z := 0) C (tdec DX8_write 16 rfl) rfl rfl rfl ?_
        refine g_getf (C' := RX8) (T := TX8) (N := 27) (v := .ref x_13) C 0 13 (gIn iw_X8) rfl rfl (by decide) (gMem fl_X8_48) rfl rfl (tdec DX8_write 17 rfl) rfl ?_
        refine g_iload_n (z := 1) C (tdec DX8_write 18 rfl) rfl rfl rfl ?_
        obtain ⟨r30, y31, hF⟩ := o_bind hF
        refine g_zald C 13 3 rfl rfl y31 (tdec DX8_write 19 rfl) rfl ?_
        refine g_if_eq (pt := 44) C (tdec DX8_write 20 rfl) (by decide) rfl (fun h32 => ?_) (fun h32 => ?_)
        · have hF := o_ifp hF h32
          refine g_aload_n (z := 0) C (tdec DX8_write 23 rfl) rfl rfl rfl ?_
          refine g_iload_n (z := 1) C (tdec DX8_write 24 rfl) rfl rfl rfl ?_
          obtain ⟨s33, y34, hF⟩ := o_bind hF
          refine g_callVvMS (q0 := 0) (W' := wM cB cI cJ cZ x_0 x_1 x_2 x_3 x_4 x_5 x_6 x_7 x_8 x_9 x_10 x_11 x_12 x_13 x_14 x_15 x_16 x_17 x_18 x_19 s33) (S := [wM cB cI cJ cZ x_0 x_1 x_2 x_3 x_4 x_5 x_6 x_7 x_8 x_9 x_10 x_11 x_12 x_13 x_14 x_15 x_16 x_17 x_18 x_19 (MS_setthr x0 1)]) (S0 := [wM cB cI cJ cZ x_0 x_1 x_2 x_3 x_4 x_5 x_6 x_7 x_8 x_9 x_10 x_11 x_12 x_13 x_14 x_15 x_16 x_17 x_18 x_19 (MS_setthr x0 1)]) (S1 := [wM cB cI cJ cZ x_0 x_1 x_2 x_3 x_4 x_5 x_6 x_7 x_8 x_9 x_10 x_11 x_12 x_13 x_14 x_15 x_16 x_17 x_18 x_19 s33]) (S' := [wM cB cI cJ cZ x_0 x_1 x_2 x_3 x_4 x_5 x_6 x_7 x_8 x_9 x_10 x_11 x_12 x_13 x_14 x_15 x_16 x_17 x_18 x_19 s33]) C (c_X8_begins l D cB cI cJ cZ x_0 x_1 x_2 x_3 x_4 x_5 x_6 x_7 x_8 x_9 x_10 x_11 x_12 x_13 x_14 x_15 x_16 x_17 x_18 x_19 y34) rfl rfl (gIV ml_X8_127 im_X8_begins sl_X8_begins in_X8 cd_X8_begins) rfl eX8_begins rfl ⟨rfl, rfl⟩ ⟨Nat.le_of_ble_eq_true rfl, Nat.le_of_ble_eq_true rfl⟩ rfl rfl rfl [0] rfl rfl rfl rfl (gA_cons aM gA_nil) rfl rfl (Nat.le_of_ble_eq_true rfl) (tdec DX8_write 25 rfl) rfl ?_
          refine g_aload_n (z := 0) C (tdec DX8_write 26 rfl) rfl rfl rfl ?_
          refine g_iload_n (z := 1) C (tdec DX8_write 27 rfl) rfl rfl rfl ?_
          refine g_iconst (v := 0) C (tdec DX8_write 28 rfl) (by decide) rfl ?_
          refine g_iload_n (z := 2) C (tdec DX8_write 29 rfl) rfl rfl rfl ?_
          refine g_lload_n (z := 3) C (tdec DX8_write 30 rfl) rfl rfl rfl ?_
          obtain ⟨⟨r35, s36⟩, y37, hF⟩ := o_bind hF
          refine g_callViMS (q0 := 0) (W' := wM cB cI cJ cZ x_0 x_1 x_2 x_3 x_4 x_5 x_6 x_7 x_8 x_9 x_10 x_11 x_12 x_13 x_14 x_15 x_16 x_17 x_18 x_19 s36) (S := [wM cB cI cJ cZ x_0 x_1 x_2 x_3 x_4 x_5 x_6 x_7 x_8 x_9 x_10 x_11 x_12 x_13 x_14 x_15 x_16 x_17 x_18 x_19 s33]) (S0 := [wM cB cI cJ cZ x_0 x_1 x_2 x_3 x_4 x_5 x_6 x_7 x_8 x_9 x_10 x_11 x_12 x_13 x_14 x_15 x_16 x_17 x_18 x_19 s33]) (S1 := [wM cB cI cJ cZ x_0 x_1 x_2 x_3 x_4 x_5 x_6 x_7 x_8 x_9 x_10 x_11 x_12 x_13 x_14 x_15 x_16 x_17 x_18 x_19 s36]) (S' := [wM cB cI cJ cZ x_0 x_1 x_2 x_3 x_4 x_5 x_6 x_7 x_8 x_9 x_10 x_11 x_12 x_13 x_14 x_15 x_16 x_17 x_18 x_19 s36]) C (c_X8_writes l D cB cI cJ cZ x_0 x_1 x_2 x_3 x_4 x_5 x_6 x_7 x_8 x_9 x_10 x_11 x_12 x_13 x_14 x_15 x_16 x_17 x_18 x_19 y37) rfl rfl (gIV ml_X8_131 im_X8_writes sl_X8_writes in_X8 cd_X8_writes) rfl eX8_writes rfl ⟨rfl, rfl⟩ ⟨Nat.le_of_ble_eq_true rfl, Nat.le_of_ble_eq_true rfl⟩ rfl rfl rfl [0] rfl rfl rfl rfl (gA_cons aM gA_nil) rfl rfl (Nat.le_of_ble_eq_true rfl) (tdec DX8_write 31 rfl) rfl ?_
          refine g_istore (L' := [(5, .int r35), (0, .ref x_0), (1, .int p1), (2, .int p2), (3, .long p3)]) C (tdec DX8_write 32 rfl) (by decide) rfl rfl ?_
          refine g_aload_n (z := 1) C (tdec DX8_write 33 rfl) rfl rfl rfl ?_
          refine g_iload_n (z := 2) C (tdec DX8_write 34 rfl) rfl rfl rfl ?_
          obtain ⟨s38, y39, hF⟩ := o_bind hF
          refine g_callVvMS (q0 := 0) (W' := wM cB cI cJ cZ x_0 x_1 x_2 x_3 x_4 x_5 x_6 x_7 x_8 x_9 x_10 x_11 x_12 x_13 x_14 x_15 x_16 x_17 x_18 x_19 s38) (S := [wM cB cI cJ cZ x_0 x_1 x_2 x_3 x_4 x_5 x_6 x_7 x_8 x_9 x_10 x_11 x_12 x_13 x_14 x_15 x_16 x_17 x_18 x_19 s36]) (S0 := [wM cB cI cJ cZ x_0 x_1 x_2 x_3 x_4 x_5 x_6 x_7 x_8 x_9 x_10 x_11 x_12 x_13 x_14 x_15 x_16 x_17 x_18 x_19 s36]) (S1 := [wM cB cI cJ cZ x_0 x_1 x_2 x_3 x_4 x_5 x_6 x_7 x_8 x_9 x_10 x_11 x_12 x_13 x_14 x_15 x_16 x_17 x_18 x_19 s38]) (S' := [wM cB cI cJ cZ x_0 x_1 x_2 x_3 x_4 x_5 x_6 x_7 x_8 x_9 x_10 x_11 x_12 x_13 x_14 x_15 x_16 x_17 x_18 x_19 s38]) C (c_X8_sweeps l D cB cI cJ cZ x_0 x_1 x_2 x_3 x_4 x_5 x_6 x_7 x_8 x_9 x_10 x_11 x_12 x_13 x_14 x_15 x_16 x_17 x_18 x_19 y39) rfl rfl (gIV ml_X8_135 im_X8_sweeps sl_X8_sweeps in_X8 cd_X8_sweeps) rfl eX8_sweeps rfl ⟨rfl, rfl⟩ ⟨Nat.le_of_ble_eq_true rfl, Nat.le_of_ble_eq_true rfl⟩ rfl rfl rfl [0] rfl rfl rfl rfl (gA_cons aM gA_nil) rfl rfl (Nat.le_of_ble_eq_true rfl) (tdec DX8_write 35 rfl) rfl ?_
          refine g_iload (z := 0) C (tdec DX8_write 36 rfl) rfl rfl ?_
          have hr9 := o_some hF
          subst hr9
          exact g_iret C rfl rfl (tdec DX8_write 37 rfl)
        · have hF := o_ifn hF h32
          refine g_bipush (v := 6) C (tdec DX8_write 21 rfl) (by decide) rfl ?_
          have hr9 := o_some hF
          subst hr9
          exact g_iret C rfl rfl (tdec DX8_write 22 rfl)
      · have hF := o_ifn hF h29
        refine g_iconst (v := 0) C (tdec DX8_write 14 rfl) (by decide) rfl ?_
        have hr9 := o_some hF
        subst hr9
        exact g_iret C rfl rfl (tdec DX8_write 15 rfl)
def FX8_clear (x0 : MS) (p1 : Int32) (p2 : Int32) : Option (Int32 × MS) :=
  (FX8_isVolume p1).bind fun r1 =>
  if r1 = 0 then
    if 1 ≤ 0 then
      (ald 2 (MS_busy x0) p1).bind fun r5 =>
      if r5 = 0 then
        (FX8_begins (MS_setthr x0 1) p1).bind fun s8 =>
        (FX8_clears s8 p1 0 p2).bind fun (r10, s11) =>
        (FX8_sweeps s11 p1).bind fun s13 =>
        some (r10, s13)
      else
        some (6, (MS_setthr x0 1))
    else
      some (0, (MS_setthr x0 1))
  else
    (FX8_isPlace p2).bind fun r15 =>
    if r15 = 0 then
      if 1 ≤ 0 then
        (ald 2 (MS_busy x0) p1).bind fun r30 =>
        if r30 = 0 then
          (FX8_begins (MS_setthr x0 1) p1).bind fun s33 =>
          (FX8_clears s33 p1 0 p2).bind fun (r35, s36) =>
          (FX8_sweeps s36 p1).bind fun s38 =>
          some (r35, s38)
        else
          some (6, (MS_setthr x0 1))
      else
        some (0, (MS_setthr x0 1))
    else
      if 0 ≤ 0 then
        (ald 2 (MS_busy x0) p1).bind fun r19 =>
        if r19 = 0 then
          (FX8_begins (MS_setthr x0 0) p1).bind fun s22 =>
          (FX8_clears s22 p1 0 p2).bind fun (r24, s25) =>
          (FX8_sweeps s25 p1).bind fun s27 =>
          some (r24, s27)
        else
          some (6, (MS_setthr x0 0))
      else
        some (0, (MS_setthr x0 0))
def rX8_clear : Room := { frames := 3, cells := 0, slots := 0, locals := 79 }
set_option maxHeartbeats 4000000 in
set_option maxRecDepth 100000 in
theorem c_X8_clear (l : Launch) (D : va_G) (cB cI cJ cZ : ClassId) (x_0 x_1 x_2 x_3 x_4 x_5 x_6 x_7 x_8 x_9 x_10 x_11 x_12 x_13 x_14 x_15 x_16 x_17 x_18 x_19 : Nat) {x0 : MS} {p1 : Int32} {p2 : Int32} {res : Int32 × MS} (hF : FX8_clear x0 p1 p2 = some res) : gMi l yX8_clear wsX8_clear rX8_clear D (gT cB cI cJ cZ) [.ref x_0, .int p1, .int p2] (wM cB cI cJ cZ x_0 x_1 x_2 x_3 x_4 x_5 x_6 x_7 x_8 x_9 x_10 x_11 x_12 x_13 x_14 x_15 x_16 x_17 x_18 x_19 x0) res.1 (wM cB cI cJ cZ x_0 x_1 x_2 x_3 x_4 x_5 x_6 x_7 x_8 x_9 x_10 x_11 x_12 x_13 x_14 x_15 x_16 x_17 x_18 x_19 res.2) := by
  refine g_enter (own := RX8) (free := (fun sz => va_A (wM cB cI cJ cZ x_0 x_1 x_2 x_3 x_4 x_5 x_6 x_7 x_8 x_9 x_10 x_11 x_12 x_13 x_14 x_15 x_16 x_17 x_18 x_19 x0) sz)) (Qc := (fun sz => gQi D (wM cB cI cJ cZ x_0 x_1 x_2 x_3 x_4 x_5 x_6 x_7 x_8 x_9 x_10 x_11 x_12 x_13 x_14 x_15 x_16 x_17 x_18 x_19 x0) sz res.1 (wM cB cI cJ cZ x_0 x_1 x_2 x_3 x_4 x_5 x_6 x_7 x_8 x_9 x_10 x_11 x_12 x_13 x_14 x_15 x_16 x_17 x_18 x_19 res.2))) (fun sz => va_A (wM cB cI cJ cZ x_0 x_1 x_2 x_3 x_4 x_5 x_6 x_7 x_8 x_9 x_10 x_11 x_12 x_13 x_14 x_15 x_16 x_17 x_18 x_19 x0) sz) (fun sz => Or.inr rfl) rfl (by decide) rfl (Nat.le_of_ble_eq_true rfl) rfl ?_
  intro p e s m args below meth c C
  unfold FX8_clear at hF
  refine g_aload_n (z := 0) C (tdec DX8_clear 0 rfl) rfl rfl rfl ?_
  refine g_iload_n (z := 1) C (tdec DX8_clear 1 rfl) rfl rfl rfl ?_
  obtain ⟨r1, y2, hF⟩ := o_bind hF
  refine g_callSiR C (c_X8_isVolume l D cB cI cJ cZ y2) (gIS ml_X8_82 st_X8_isVolume in_X8 cd_X8_isVolume) eX8_isVolume rfl ⟨rfl, rfl⟩ ⟨Nat.le_of_ble_eq_true rfl, Nat.le_of_ble_eq_true rfl⟩ rfl [] rfl rfl rfl (Nat.le_of_ble_eq_true rfl) (tdec DX8_clear 2 rfl) rfl ?_
  refine g_if_eq (pt := 15) C (tdec DX8_clear 3 rfl) (by decide) rfl (fun h3 => ?_) (fun h3 => ?_)
  · have hF := o_ifp hF h3
    refine g_iconst (v := 1) C (tdec DX8_clear 7 rfl) (by decide) rfl ?_
    refine g_goto (pt := 20) C (tdec DX8_clear 8 rfl) (by decide) ?_
    refine g_putf (C' := RX8) (T := TX8) (N := 27) (v := .int 1) (ws' := wM cB cI cJ cZ x_0 x_1 x_2 x_3 x_4 x_5 x_6 x_7 x_8 x_9 x_10 x_11 x_12 x_13 x_14 x_15 x_16 x_17 x_18 x_19 (MS_setthr x0 1)) C 0 0 tyX8 tyX8_ok nmX8 (gIn iw_X8) rfl rfl (by decide) (gMem fl_X8_78) rfl rfl (tyX8_ok 0 (by decide)) rfl rfl (Nat.le_of_ble_eq_true rfl) rfl (tdec DX8_clear 10 rfl) rfl ?_
    refine g_aload_n (z := 0) C (tdec DX8_clear 11 rfl) rfl rfl rfl ?_
    refine g_getf (C' := RX8) (T := TX8) (N := 27) (v := .int 1) C 0 0 (gIn iw_X8) rfl rfl (by decide) (gMem fl_X8_78) rfl rfl (tdec DX8_clear 12 rfl) rfl ?_
    refine g_if_le (pt := 32) C (tdec DX8_clear 13 rfl) (by decide) rfl (fun h4 => ?_) (fun h4 => ?_)
    · have hF := o_ifp hF h4
      refine g_aload_n (z := 0) C (tdec DX8_clear 16 rfl) rfl rfl rfl ?_
      refine g_getf (C' := RX8) (T := TX8) (N := 27) (v := .ref x_13) C 0 13 (gIn iw_X8) rfl rfl (by decide) (gMem fl_X8_48) rfl rfl (tdec DX8_clear 17 rfl) rfl ?_
      refine g_iload_n (z := 1) C (tdec DX8_clear 18 rfl) rfl rfl rfl ?_
      obtain ⟨r5, y6, hF⟩ := o_bind hF
      refine g_zald C 13 3 rfl rfl y6 (tdec DX8_clear 19 rfl) rfl ?_
      refine g_if_eq (pt := 44) C (tdec DX8_clear 20 rfl) (by decide) rfl (fun h7 => ?_) (fun h7 => ?_)
      · have hF := o_ifp hF h7
        refine g_aload_n (z := 0) C (tdec DX8_clear 23 rfl) rfl rfl rfl ?_
        refine g_iload_n (z := 1) C (tdec DX8_clear 24 rfl) rfl rfl rfl ?_
        obtain ⟨s8, y9, hF⟩ := o_bind hF
        refine g_callVvMS (q0 := 0) (W' := wM cB cI cJ cZ x_0 x_1 x_2 x_3 x_4 x_5 x_6 x_7 x_8 x_9 x_10 x_11 x_12 x_13 x_14 x_15 x_16 x_17 x_18 x_19 s8) (S := [wM cB cI cJ cZ x_0 x_1 x_2 x_3 x_4 x_5 x_6 x_7 x_8 x_9 x_10 x_11 x_12 x_13 x_14 x_15 x_16 x_17 x_18 x_19 (MS_setthr x0 1)]) (S0 := [wM cB cI cJ cZ x_0 x_1 x_2 x_3 x_4 x_5 x_6 x_7 x_8 x_9 x_10 x_11 x_12 x_13 x_14 x_15 x_16 x_17 x_18 x_19 (MS_setthr x0 1)]) (S1 := [wM cB cI cJ cZ x_0 x_1 x_2 x_3 x_4 x_5 x_6 x_7 x_8 x_9 x_10 x_11 x_12 x_13 x_14 x_15 x_16 x_17 x_18 x_19 s8]) (S' := [wM cB cI cJ cZ x_0 x_1 x_2 x_3 x_4 x_5 x_6 x_7 x_8 x_9 x_10 x_11 x_12 x_13 x_14 x_15 x_16 x_17 x_18 x_19 s8]) C (c_X8_begins l D cB cI cJ cZ x_0 x_1 x_2 x_3 x_4 x_5 x_6 x_7 x_8 x_9 x_10 x_11 x_12 x_13 x_14 x_15 x_16 x_17 x_18 x_19 y9) rfl rfl (gIV ml_X8_127 im_X8_begins sl_X8_begins in_X8 cd_X8_begins) rfl eX8_begins rfl ⟨rfl, rfl⟩ ⟨Nat.le_of_ble_eq_true rfl, Nat.le_of_ble_eq_true rfl⟩ rfl rfl rfl [0] rfl rfl rfl rfl (gA_cons aM gA_nil) rfl rfl (Nat.le_of_ble_eq_true rfl) (tdec DX8_clear 25 rfl) rfl ?_
        refine g_aload_n (z := 0) C (tdec DX8_clear 26 rfl) rfl rfl rfl ?_
        refine g_iload_n (z := 1) C (tdec DX8_clear 27 rfl) rfl rfl rfl ?_
        refine g_iconst (v := 0) C (tdec DX8_clear 28 rfl) (by decide) rfl ?_
        refine g_iload_n (z := 2) C (tdec DX8_clear 29 rfl) rfl rfl rfl ?_
        obtain ⟨⟨r10, s11⟩, y12, hF⟩ := o_bind hF
        refine g_callViMS (q0 := 0) (W' := wM cB cI cJ cZ x_0 x_1 x_2 x_3 x_4 x_5 x_6 x_7 x_8 x_9 x_10 x_11 x_12 x_13 x_14 x_15 x_16 x_17 x_18 x_19 s11) (S := [wM cB cI cJ cZ x_0 x_1 x_2 x_3 x_4 x_5 x_6 x_7 x_8 x_9 x_10 x_11 x_12 x_13 x_14 x_15 x_16 x_17 x_18 x_19 s8]) (S0 := [wM cB cI cJ cZ x_0 x_1 x_2 x_3 x_4 x_5 x_6 x_7 x_8 x_9 x_10 x_11 x_12 x_13 x_14 x_15 x_16 x_17 x_18 x_19 s8]) (S1 := [wM cB cI cJ cZ x_0 x_1 x_2 x_3 x_4 x_5 x_6 x_7 x_8 x_9 x_10 x_11 x_12 x_13 x_14 x_15 x_16 x_17 x_18 x_19 s11]) (S' := [wM cB cI cJ cZ x_0 x_1 x_2 x_3 x_4 x_5 x_6 x_7 x_8 x_9 x_10 x_11 x_12 x_13 x_14 x_15 x_16 x_17 x_18 x_19 s11]) C (c_X8_clears l D cB cI cJ cZ x_0 x_1 x_2 x_3 x_4 x_5 x_6 x_7 x_8 x_9 x_10 x_11 x_12 x_13 x_14 x_15 x_16 x_17 x_18 x_19 y12) rfl rfl (gIV ml_X8_138 im_X8_clears sl_X8_clears in_X8 cd_X8_clears) rfl eX8_clears rfl ⟨rfl, rfl⟩ ⟨Nat.le_of_ble_eq_true rfl, Nat.le_of_ble_eq_true rfl⟩ rfl rfl rfl [0] rfl rfl rfl rfl (gA_cons aM gA_nil) rfl rfl (Nat.le_of_ble_eq_true rfl) (tdec DX8_clear 30 rfl) rfl ?_
        refine g_istore_n (L' := [(3, .int r10), (0, .ref x_0), (1, .int p1), (2, .int p2)]) C (tdec DX8_clear 31 rfl) rfl (by decide) rfl rfl ?_
        refine g_aload_n (z := 1) C (tdec DX8_clear 32 rfl) rfl rfl rfl ?_
        refine g_iload_n (z := 2) C (tdec DX8_clear 33 rfl) rfl rfl rfl ?_
        obtain ⟨s13, y14, hF⟩ := o_bind hF
        refine g_callVvMS (q0 := 0) (W' := wM cB cI cJ cZ x_0 x_1 x_2 x_3 x_4 x_5 x_6 x_7 x_8 x_9 x_10 x_11 x_12 x_13 x_14 x_15 x_16 x_17 x_18 x_19 s13) (S := [wM cB cI cJ cZ x_0 x_1 x_2 x_3 x_4 x_5 x_6 x_7 x_8 x_9 x_10 x_11 x_12 x_13 x_14 x_15 x_16 x_17 x_18 x_19 s11]) (S0 := [wM cB cI cJ cZ x_0 x_1 x_2 x_3 x_4 x_5 x_6 x_7 x_8 x_9 x_10 x_11 x_12 x_13 x_14 x_15 x_16 x_17 x_18 x_19 s11]) (S1 := [wM cB cI cJ cZ x_0 x_1 x_2 x_3 x_4 x_5 x_6 x_7 x_8 x_9 x_10 x_11 x_12 x_13 x_14 x_15 x_16 x_17 x_18 x_19 s13]) (S' := [wM cB cI cJ cZ x_0 x_1 x_2 x_3 x_4 x_5 x_6 x_7 x_8 x_9 x_10 x_11 x_12 x_13 x_14 x_15 x_16 x_17 x_18 x_19 s13]) C (c_X8_sweeps l D cB cI cJ cZ x_0 x_1 x_2 x_3 x_4 x_5 x_6 x_7 x_8 x_9 x_10 x_11 x_12 x_13 x_14 x_15 x_16 x_17 x_18 x_19 y14) rfl rfl (gIV ml_X8_135 im_X8_sweeps sl_X8_sweeps in_X8 cd_X8_sweeps) rfl eX8_sweeps rfl ⟨rfl, rfl⟩ ⟨Nat.le_of_ble_eq_true rfl, Nat.le_of_ble_eq_true rfl⟩ rfl rfl rfl [0] rfl rfl rfl rfl (gA_cons aM gA_nil) rfl rfl (Nat.le_of_ble_eq_true rfl) (tdec DX8_clear 34 rfl) rfl ?_
        refine g_iload_n (z := 0) C (tdec DX8_clear 35 rfl) rfl rfl rfl ?_
        have hr9 := o_some hF
        subst hr9
        exact g_iret C rfl rfl (tdec DX8_clear 36 rfl)
      · have hF := o_ifn hF h7
        refine g_bipush (v := 6) C (tdec DX8_clear 21 rfl) (by decide) rfl ?_
        have hr9 := o_some hF
        subst hr9
        exact g_iret C rfl rfl (tdec DX8_clear 22 rfl)
    · have hF := o_ifn hF h4
      refine g_iconst (v := 0) C (tdec DX8_clear 14 rfl) (by decide) rfl ?_
      have hr9 := o_some hF
      subst hr9
      exact g_iret C rfl rfl (tdec DX8_clear 15 rfl)
  · have hF := o_ifn hF h3
    refine g_iload_n (z := 2) C (tdec DX8_clear 4 rfl) rfl rfl rfl ?_
    obtain ⟨r15, y16, hF⟩ := o_bind hF
    refine g_callSiR C (c_X8_isPlace l D cB cI cJ cZ y16) (gIS ml_X8_124 st_X8_isPlace in_X8 cd_X8_isPlace) eX8_isPlace rfl ⟨rfl, rfl⟩ ⟨Nat.le_of_ble_eq_true rfl, Nat.le_of_ble_eq_true rfl⟩ rfl [] rfl rfl rfl (Nat.le_of_ble_eq_true rfl) (tdec DX8_clear 5 rfl) rfl ?_
    refine g_if_ne (pt := 19) C (tdec DX8_clear 6 rfl) (by decide) rfl (fun h17 => ?_) (fun h17 => ?_)
    · have hF := o_ifn hF h17
      refine g_iconst (v := 0) C (tdec DX8_clear 9 rfl) (by decide) rfl ?_
      refine g_putf (C' := RX8) (T := TX8) (N := 27) (v := .int 0) (ws' := wM cB cI cJ cZ x_0 x_1 x_2 x_3 x_4 x_5 x_6 x_7 x_8 x_9 x_10 x_11 x_12 x_13 x_14 x_15 x_16 x_17 x_18 x_19 (MS_setthr x0 0)) C 0 0 tyX8 tyX8_ok nmX8 (gIn iw_X8) rfl rfl (by decide) (gMem fl_X8_78) rfl rfl (tyX8_ok 0 (by decide)) rfl rfl (Nat.le_of_ble_eq_true rfl) rfl (tdec DX8_clear 10 rfl) rfl ?_
      refine g_aload_n (z := 0) C (tdec DX8_clear 11 rfl) rfl rfl rfl ?_
      refine g_getf (C' := RX8) (T := TX8) (N := 27) (v := .int 0) C 0 0 (gIn iw_X8) rfl rfl (by decide) (gMem fl_X8_78) rfl rfl (tdec DX8_clear 12 rfl) rfl ?_
      refine g_if_le (pt := 32) C (tdec DX8_clear 13 rfl) (by decide) rfl (fun h18 => ?_) (fun h18 => ?_)
      · have hF := o_ifp hF h18
        refine g_aload_n (z := 0) C (tdec DX8_clear 16 rfl) rfl rfl rfl ?_
        refine g_getf (C' := RX8) (T := TX8) (N := 27) (v := .ref x_13) C 0 13 (gIn iw_X8) rfl rfl (by decide) (gMem fl_X8_48) rfl rfl (tdec DX8_clear 17 rfl) rfl ?_
        refine g_iload_n (z := 1) C (tdec DX8_clear 18 rfl) rfl rfl rfl ?_
        obtain ⟨r19, y20, hF⟩ := o_bind hF
        refine g_zald C 13 3 rfl rfl y20 (tdec DX8_clear 19 rfl) rfl ?_
        refine g_if_eq (pt := 44) C (tdec DX8_clear 20 rfl) (by decide) rfl (fun h21 => ?_) (fun h21 => ?_)
        · have hF := o_ifp hF h21
          refine g_aload_n (z := 0) C (tdec DX8_clear 23 rfl) rfl rfl rfl ?_
          refine g_iload_n (z := 1) C (tdec DX8_clear 24 rfl) rfl rfl rfl ?_
          obtain ⟨s22, y23, hF⟩ := o_bind hF
          refine g_callVvMS (q0 := 0) (W' := wM cB cI cJ cZ x_0 x_1 x_2 x_3 x_4 x_5 x_6 x_7 x_8 x_9 x_10 x_11 x_12 x_13 x_14 x_15 x_16 x_17 x_18 x_19 s22) (S := [wM cB cI cJ cZ x_0 x_1 x_2 x_3 x_4 x_5 x_6 x_7 x_8 x_9 x_10 x_11 x_12 x_13 x_14 x_15 x_16 x_17 x_18 x_19 (MS_setthr x0 0)]) (S0 := [wM cB cI cJ cZ x_0 x_1 x_2 x_3 x_4 x_5 x_6 x_7 x_8 x_9 x_10 x_11 x_12 x_13 x_14 x_15 x_16 x_17 x_18 x_19 (MS_setthr x0 0)]) (S1 := [wM cB cI cJ cZ x_0 x_1 x_2 x_3 x_4 x_5 x_6 x_7 x_8 x_9 x_10 x_11 x_12 x_13 x_14 x_15 x_16 x_17 x_18 x_19 s22]) (S' := [wM cB cI cJ cZ x_0 x_1 x_2 x_3 x_4 x_5 x_6 x_7 x_8 x_9 x_10 x_11 x_12 x_13 x_14 x_15 x_16 x_17 x_18 x_19 s22]) C (c_X8_begins l D cB cI cJ cZ x_0 x_1 x_2 x_3 x_4 x_5 x_6 x_7 x_8 x_9 x_10 x_11 x_12 x_13 x_14 x_15 x_16 x_17 x_18 x_19 y23) rfl rfl (gIV ml_X8_127 im_X8_begins sl_X8_begins in_X8 cd_X8_begins) rfl eX8_begins rfl ⟨rfl, rfl⟩ ⟨Nat.le_of_ble_eq_true rfl, Nat.le_of_ble_eq_true rfl⟩ rfl rfl rfl [0] rfl rfl rfl rfl (gA_cons aM gA_nil) rfl rfl (Nat.le_of_ble_eq_true rfl) (tdec DX8_clear 25 rfl) rfl ?_
          refine g_aload_n (z := 0) C (tdec DX8_clear 26 rfl) rfl rfl rfl ?_
          refine g_iload_n (z := 1) C (tdec DX8_clear 27 rfl) rfl rfl rfl ?_
          refine g_iconst (v := 0) C (tdec DX8_clear 28 rfl) (by decide) rfl ?_
          refine g_iload_n (z := 2) C (tdec DX8_clear 29 rfl) rfl rfl rfl ?_
          obtain ⟨⟨r24, s25⟩, y26, hF⟩ := o_bind hF
          refine g_callViMS (q0 := 0) (W' := wM cB cI cJ cZ x_0 x_1 x_2 x_3 x_4 x_5 x_6 x_7 x_8 x_9 x_10 x_11 x_12 x_13 x_14 x_15 x_16 x_17 x_18 x_19 s25) (S := [wM cB cI cJ cZ x_0 x_1 x_2 x_3 x_4 x_5 x_6 x_7 x_8 x_9 x_10 x_11 x_12 x_13 x_14 x_15 x_16 x_17 x_18 x_19 s22]) (S0 := [wM cB cI cJ cZ x_0 x_1 x_2 x_3 x_4 x_5 x_6 x_7 x_8 x_9 x_10 x_11 x_12 x_13 x_14 x_15 x_16 x_17 x_18 x_19 s22]) (S1 := [wM cB cI cJ cZ x_0 x_1 x_2 x_3 x_4 x_5 x_6 x_7 x_8 x_9 x_10 x_11 x_12 x_13 x_14 x_15 x_16 x_17 x_18 x_19 s25]) (S' := [wM cB cI cJ cZ x_0 x_1 x_2 x_3 x_4 x_5 x_6 x_7 x_8 x_9 x_10 x_11 x_12 x_13 x_14 x_15 x_16 x_17 x_18 x_19 s25]) C (c_X8_clears l D cB cI cJ cZ x_0 x_1 x_2 x_3 x_4 x_5 x_6 x_7 x_8 x_9 x_10 x_11 x_12 x_13 x_14 x_15 x_16 x_17 x_18 x_19 y26) rfl rfl (gIV ml_X8_138 im_X8_clears sl_X8_clears in_X8 cd_X8_clears) rfl eX8_clears rfl ⟨rfl, rfl⟩ ⟨Nat.le_of_ble_eq_true rfl, Nat.le_of_ble_eq_true rfl⟩ rfl rfl rfl [0] rfl rfl rfl rfl (gA_cons aM gA_nil) rfl rfl (Nat.le_of_ble_eq_true rfl) (tdec DX8_clear 30 rfl) rfl ?_
          refine g_istore_n (L' := [(3, .int r24), (0, .ref x_0), (1, .int p1), (2, .int p2)]) C (tdec DX8_clear 31 rfl) rfl (by decide) rfl rfl ?_
          refine g_aload_n (z := 1) C (tdec DX8_clear 32 rfl) rfl rfl rfl ?_
          refine g_iload_n (z := 2) C (tdec DX8_clear 33 rfl) rfl rfl rfl ?_
          obtain ⟨s27, y28, hF⟩ := o_bind hF
          refine g_callVvMS (q0 := 0) (W' := wM cB cI cJ cZ x_0 x_1 x_2 x_3 x_4 x_5 x_6 x_7 x_8 x_9 x_10 x_11 x_12 x_13 x_14 x_15 x_16 x_17 x_18 x_19 s27) (S := [wM cB cI cJ cZ x_0 x_1 x_2 x_3 x_4 x_5 x_6 x_7 x_8 x_9 x_10 x_11 x_12 x_13 x_14 x_15 x_16 x_17 x_18 x_19 s25]) (S0 := [wM cB cI cJ cZ x_0 x_1 x_2 x_3 x_4 x_5 x_6 x_7 x_8 x_9 x_10 x_11 x_12 x_13 x_14 x_15 x_16 x_17 x_18 x_19 s25]) (S1 := [wM cB cI cJ cZ x_0 x_1 x_2 x_3 x_4 x_5 x_6 x_7 x_8 x_9 x_10 x_11 x_12 x_13 x_14 x_15 x_16 x_17 x_18 x_19 s27]) (S' := [wM cB cI cJ cZ x_0 x_1 x_2 x_3 x_4 x_5 x_6 x_7 x_8 x_9 x_10 x_11 x_12 x_13 x_14 x_15 x_16 x_17 x_18 x_19 s27]) C (c_X8_sweeps l D cB cI cJ cZ x_0 x_1 x_2 x_3 x_4 x_5 x_6 x_7 x_8 x_9 x_10 x_11 x_12 x_13 x_14 x_15 x_16 x_17 x_18 x_19 y28) rfl rfl (gIV ml_X8_135 im_X8_sweeps sl_X8_sweeps in_X8 cd_X8_sweeps) rfl eX8_sweeps rfl ⟨rfl, rfl⟩ ⟨Nat.le_of_ble_eq_true rfl, Nat.le_of_ble_eq_true rfl⟩ rfl rfl rfl [0] rfl rfl rfl rfl (gA_cons aM gA_nil) rfl rfl (Nat.le_of_ble_eq_true rfl) (tdec DX8_clear 34 rfl) rfl ?_
          refine g_iload_n (z := 0) C (tdec DX8_clear 35 rfl) rfl rfl rfl ?_
          have hr9 := o_some hF
          subst hr9
          exact g_iret C rfl rfl (tdec DX8_clear 36 rfl)
        · have hF := o_ifn hF h21
          refine g_bipush (v := 6) C (tdec DX8_clear 21 rfl) (by decide) rfl ?_
          have hr9 := o_some hF
          subst hr9
          exact g_iret C rfl rfl (tdec DX8_clear 22 rfl)
      · have hF := o_ifn hF h18
        refine g_iconst (v := 0) C (tdec DX8_clear 14 rfl) (by decide) rfl ?_
        have hr9 := o_some hF
        subst hr9
        exact g_iret C rfl rfl (tdec DX8_clear 15 rfl)
    · have hF := o_ifp hF h17
      refine g_iconst (v := 1) C (tdec DX8_clear 7 rfl) (by decide) rfl ?_
      refine g_goto (pt := 20) C (tdec DX8_clear 8 rfl) (by decide) ?_
      refine g_putf (C' := RX8) (T := TX8) (N := 27) (v := .int 1) (ws' := wM cB cI cJ cZ x_0 x_1 x_2 x_3 x_4 x_5 x_6 x_7 x_8 x_9 x_10 x_11 x_12 x_13 x_14 x_15 x_16 x_17 x_18 x_19 (MS_setthr x0 1)) C 0 0 tyX8 tyX8_ok nmX8 (gIn iw_X8) rfl rfl (by decide) (gMem fl_X8_78) rfl rfl (tyX8_ok 0 (by decide)) rfl rfl (Nat.le_of_ble_eq_true rfl) rfl (tdec DX8_clear 10 rfl) rfl ?_
      refine g_aload_n (z := 0) C (tdec DX8_clear 11 rfl) rfl rfl rfl ?_
      refine g_getf (C' := RX8) (T := TX8) (N := 27) (v := .int 1) C 0 0 (gIn iw_X8) rfl rfl (by decide) (gMem fl_X8_78) rfl rfl (tdec DX8_clear 12 rfl) rfl ?_
      refine g_if_le (pt := 32) C (tdec DX8_clear 13 rfl) (by decide) rfl (fun h29 => ?_) (fun h29 => ?_)
      · have hF := o_ifp hF h29
        refine g_aload_n (z := 0) C (tdec DX8_clear 16 rfl) rfl rfl rfl ?_
        refine g_getf (C' := RX8) (T := TX8) (N := 27) (v := .ref x_13) C 0 13 (gIn iw_X8) rfl rfl (by decide) (gMem fl_X8_48) rfl rfl (tdec DX8_clear 17 rfl) rfl ?_
        refine g_iload_n (z := 1) C (tdec DX8_clear 18 rfl) rfl rfl rfl ?_
        obtain ⟨r30, y31, hF⟩ := o_bind hF
        refine g_zald C 13 3 rfl rfl y31 (tdec DX8_clear 19 rfl) rfl ?_
        refine g_if_eq (pt := 44) C (tdec DX8_clear 20 rfl) (by decide) rfl (fun h32 => ?_) (fun h32 => ?_)
        · have hF := o_ifp hF h32
          refine g_aload_n (z := 0) C (tdec DX8_clear 23 rfl) rfl rfl rfl ?_
          refine g_iload_n (z := 1) C (tdec DX8_clear 24 rfl) rfl rfl rfl ?_
          obtain ⟨s33, y34, hF⟩ := o_bind hF
          refine g_callVvMS (q0 := 0) (W' := wM cB cI cJ cZ x_0 x_1 x_2 x_3 x_4 x_5 x_6 x_7 x_8 x_9 x_10 x_11 x_12 x_13 x_14 x_15 x_16 x_17 x_18 x_19 s33) (S := [wM cB cI cJ cZ x_0 x_1 x_2 x_3 x_4 x_5 x_6 x_7 x_8 x_9 x_10 x_11 x_12 x_13 x_14 x_15 x_16 x_17 x_18 x_19 (MS_setthr x0 1)]) (S0 := [wM cB cI cJ cZ x_0 x_1 x_2 x_3 x_4 x_5 x_6 x_7 x_8 x_9 x_10 x_11 x_12 x_13 x_14 x_15 x_16 x_17 x_18 x_19 (MS_setthr x0 1)]) (S1 := [wM cB cI cJ cZ x_0 x_1 x_2 x_3 x_4 x_5 x_6 x_7 x_8 x_9 x_10 x_11 x_12 x_13 x_14 x_15 x_16 x_17 x_18 x_19 s33]) (S' := [wM cB cI cJ cZ x_0 x_1 x_2 x_3 x_4 x_5 x_6 x_7 x_8 x_9 x_10 x_11 x_12 x_13 x_14 x_15 x_16 x_17 x_18 x_19 s33]) C (c_X8_begins l D cB cI cJ cZ x_0 x_1 x_2 x_3 x_4 x_5 x_6 x_7 x_8 x_9 x_10 x_11 x_12 x_13 x_14 x_15 x_16 x_17 x_18 x_19 y34) rfl rfl (gIV ml_X8_127 im_X8_begins sl_X8_begins in_X8 cd_X8_begins) rfl eX8_begins rfl ⟨rfl, rfl⟩ ⟨Nat.le_of_ble_eq_true rfl, Nat.le_of_ble_eq_true rfl⟩ rfl rfl rfl [0] rfl rfl rfl rfl (gA_cons aM gA_nil) rfl rfl (Nat.le_of_ble_eq_true rfl) (tdec DX8_clear 25 rfl) rfl ?_
          refine g_aload_n (z := 0) C (tdec DX8_clear 26 rfl) rfl rfl rfl ?_
          refine g_iload_n (z := 1) C (tdec DX8_clear 27 rfl) rfl rfl rfl ?_
          refine g_iconst (v := 0) C (tdec DX8_clear 28 rfl) (by decide) rfl ?_
          refine g_iload_n (z := 2) C (tdec DX8_clear 29 rfl) rfl rfl rfl ?_
          obtain ⟨⟨r35, s36⟩, y37, hF⟩ := o_bind hF
          refine g_callViMS (q0 := 0) (W' := wM cB cI cJ cZ x_0 x_1 x_2 x_3 x_4 x_5 x_6 x_7 x_8 x_9 x_10 x_11 x_12 x_13 x_14 x_15 x_16 x_17 x_18 x_19 s36) (S := [wM cB cI cJ cZ x_0 x_1 x_2 x_3 x_4 x_5 x_6 x_7 x_8 x_9 x_10 x_11 x_12 x_13 x_14 x_15 x_16 x_17 x_18 x_19 s33]) (S0 := [wM cB cI cJ cZ x_0 x_1 x_2 x_3 x_4 x_5 x_6 x_7 x_8 x_9 x_10 x_11 x_12 x_13 x_14 x_15 x_16 x_17 x_18 x_19 s33]) (S1 := [wM cB cI cJ cZ x_0 x_1 x_2 x_3 x_4 x_5 x_6 x_7 x_8 x_9 x_10 x_11 x_12 x_13 x_14 x_15 x_16 x_17 x_18 x_19 s36]) (S' := [wM cB cI cJ cZ x_0 x_1 x_2 x_3 x_4 x_5 x_6 x_7 x_8 x_9 x_10 x_11 x_12 x_13 x_14 x_15 x_16 x_17 x_18 x_19 s36]) C (c_X8_clears l D cB cI cJ cZ x_0 x_1 x_2 x_3 x_4 x_5 x_6 x_7 x_8 x_9 x_10 x_11 x_12 x_13 x_14 x_15 x_16 x_17 x_18 x_19 y37) rfl rfl (gIV ml_X8_138 im_X8_clears sl_X8_clears in_X8 cd_X8_clears) rfl eX8_clears rfl ⟨rfl, rfl⟩ ⟨Nat.le_of_ble_eq_true rfl, Nat.le_of_ble_eq_true rfl⟩ rfl rfl rfl [0] rfl rfl rfl rfl (gA_cons aM gA_nil) rfl rfl (Nat.le_of_ble_eq_true rfl) (tdec DX8_clear 30 rfl) rfl ?_
          refine g_istore_n (L' := [(3, .int r35), (0, .ref x_0), (1, .int p1), (2, .int p2)]) C (tdec DX8_clear 31 rfl) rfl (by decide) rfl rfl ?_
          refine g_aload_n (z := 1) C (tdec DX8_clear 32 rfl) rfl rfl rfl ?_
          refine g_iload_n (z := 2) C (tdec DX8_clear 33 rfl) rfl rfl rfl ?_
          obtain ⟨s38, y39, hF⟩ := o_bind hF
          refine g_callVvMS (q0 := 0) (W' := wM cB cI cJ cZ x_0 x_1 x_2 x_3 x_4 x_5 x_6 x_7 x_8 x_9 x_10 x_11 x_12 x_13 x_14 x_15 x_16 x_17 x_18 x_19 s38) (S := [wM cB cI cJ cZ x_0 x_1 x_2 x_3 x_4 x_5 x_6 x_7 x_8 x_9 x_10 x_11 x_12 x_13 x_14 x_15 x_16 x_17 x_18 x_19 s36]) (S0 := [wM cB cI cJ cZ x_0 x_1 x_2 x_3 x_4 x_5 x_6 x_7 x_8 x_9 x_10 x_11 x_12 x_13 x_14 x_15 x_16 x_17 x_18 x_19 s36]) (S1 := [wM cB cI cJ cZ x_0 x_1 x_2 x_3 x_4 x_5 x_6 x_7 x_8 x_9 x_10 x_11 x_12 x_13 x_14 x_15 x_16 x_17 x_18 x_19 s38]) (S' := [wM cB cI cJ cZ x_0 x_1 x_2 x_3 x_4 x_5 x_6 x_7 x_8 x_9 x_10 x_11 x_12 x_13 x_14 x_15 x_16 x_17 x_18 x_19 s38]) C (c_X8_sweeps l D cB cI cJ cZ x_0 x_1 x_2 x_3 x_4 x_5 x_6 x_7 x_8 x_9 x_10 x_11 x_12 x_13 x_14 x_15 x_16 x_17 x_18 x_19 y39) rfl rfl (gIV ml_X8_135 im_X8_sweeps sl_X8_sweeps in_X8 cd_X8_sweeps) rfl eX8_sweeps rfl ⟨rfl, rfl⟩ ⟨Nat.le_of_ble_eq_true rfl, Nat.le_of_ble_eq_true rfl⟩ rfl rfl rfl [0] rfl rfl rfl rfl (gA_cons aM gA_nil) rfl rfl (Nat.le_of_ble_eq_true rfl) (tdec DX8_clear 34 rfl) rfl ?_
          refine g_iload_n (z := 0) C (tdec DX8_clear 35 rfl) rfl rfl rfl ?_
          have hr9 := o_some hF
          subst hr9
          exact g_iret C rfl rfl (tdec DX8_clear 36 rfl)
        · have hF := o_ifn hF h32
          refine g_bipush (v := 6) C (tdec DX8_clear 21 rfl) (by decide) rfl ?_
          have hr9 := o_some hF
          subst hr9
          exact g_iret C rfl rfl (tdec DX8_clear 22 rfl)
      · have hF := o_ifn hF h29
        refine g_iconst (v := 0) C (tdec DX8_clear 14 rfl) (by decide) rfl ?_
        have hr9 := o_some hF
        subst hr9
        exact g_iret C rfl rfl (tdec DX8_clear 15 rfl)
def FX8_isSnap (x0 : MS) (p1 : Int32) (p2 : Int32) : Option (Int32) :=
  if p2 < 0 then
    some 0
  else
    (ald 2 (MS_snaps x0) p1).bind fun r2 =>
    if r2 ≤ p2 then
      some 0
    else
      some 1
def rX8_isSnap : Room := { frames := 0, cells := 0, slots := 0, locals := 0 }
set_option maxHeartbeats 4000000 in
set_option maxRecDepth 100000 in
theorem c_X8_isSnap (l : Launch) (D : va_G) (cB cI cJ cZ : ClassId) (x_0 x_1 x_2 x_3 x_4 x_5 x_6 x_7 x_8 x_9 x_10 x_11 x_12 x_13 x_14 x_15 x_16 x_17 x_18 x_19 : Nat) {x0 : MS} {p1 : Int32} {p2 : Int32} {res : Int32} (hF : FX8_isSnap x0 p1 p2 = some res) : gRi l yX8_isSnap wsX8_isSnap rX8_isSnap D (gT cB cI cJ cZ) [.ref x_0, .int p1, .int p2] (wM cB cI cJ cZ x_0 x_1 x_2 x_3 x_4 x_5 x_6 x_7 x_8 x_9 x_10 x_11 x_12 x_13 x_14 x_15 x_16 x_17 x_18 x_19 x0) res := by
  refine g_enter (own := RX8) (free := (fun _ _ => False)) (Qc := (fun sz => gRQi res)) (fun _ _ => True) (fun sz => Or.inl rfl) rfl (by decide) rfl (Nat.le_of_ble_eq_true rfl) rfl ?_
  intro p e s m args below meth c C
  unfold FX8_isSnap at hF
  refine g_iload_n (z := 2) C (tdec DX8_isSnap 0 rfl) rfl rfl rfl ?_
  refine g_if_lt (pt := 18) C (tdec DX8_isSnap 1 rfl) (by decide) rfl (fun h1 => ?_) (fun h1 => ?_)
  · have hF := o_ifp hF h1
    refine g_iconst (v := 0) C (tdec DX8_isSnap 10 rfl) (by decide) rfl ?_
    have hr9 := o_some hF
    subst hr9
    exact g_zretR C rfl rfl (tdec DX8_isSnap 11 rfl)
  · have hF := o_ifn hF h1
    refine g_iload_n (z := 2) C (tdec DX8_isSnap 2 rfl) rfl rfl rfl ?_
    refine g_aload_n (z := 0) C (tdec DX8_isSnap 3 rfl) rfl rfl rfl ?_
    refine g_getf (C' := RX8) (T := TX8) (N := 27) (v := .ref x_10) C 0 10 (gIn iw_X8) rfl rfl (by decide) (gMem fl_X8_39) rfl rfl (tdec DX8_isSnap 4 rfl) rfl ?_
    refine g_iload_n (z := 1) C (tdec DX8_isSnap 5 rfl) rfl rfl rfl ?_
    obtain ⟨r2, y3, hF⟩ := o_bind hF
    refine g_iald C 10 1 rfl rfl y3 (tdec DX8_isSnap 6 rfl) rfl ?_
    refine g_icmp_ge (pt := 18) C (tdec DX8_isSnap 7 rfl) (by decide) rfl (fun h4 => ?_) (fun h4 => ?_)
    · have hF := o_ifp hF h4
      refine g_iconst (v := 0) C (tdec DX8_isSnap 10 rfl) (by decide) rfl ?_
      have hr9 := o_some hF
      subst hr9
      exact g_zretR C rfl rfl (tdec DX8_isSnap 11 rfl)
    · have hF := o_ifn hF h4
      refine g_iconst (v := 1) C (tdec DX8_isSnap 8 rfl) (by decide) rfl ?_
      refine g_goto (pt := 19) C (tdec DX8_isSnap 9 rfl) (by decide) ?_
      have hr9 := o_some hF
      subst hr9
      exact g_zretR C rfl rfl (tdec DX8_isSnap 11 rfl)
def FX8_read (x0 : MS) (p1 : Int32) (p2 : Int32) (p3 : Int32) : Option (Int64 × MS) :=
  (FX8_isVolume p1).bind fun r1 =>
  if r1 = 0 then
    if 1 ≤ 0 then
      if p2 = (-1) then
        (FX8_ways (MS_setthr x0 1) p1 0 p3).bind fun (r21, s22) =>
        if r21 < 4 then
          some (0, s22)
        else
          (ald 4 (MS_way s22) 3).bind fun r25 =>
          (FX8_told s22 p1 r25).bind fun r27 =>
          if r27 = (-1) then
            some (0, s22)
          else
            (ald 4 (MS_way s22) 3).bind fun r30 =>
            (FX8_told s22 p1 r30).bind fun r32 =>
            (ald 1200 (MS_dat s22) ((600 * p1) + r32)).bind fun r34 =>
            some (r34, s22)
      else
        (FX8_ways (MS_setthr x0 1) p1 (2 + p2) p3).bind fun (r6, s7) =>
        if r6 < 4 then
          some (0, s7)
        else
          (ald 4 (MS_way s7) 3).bind fun r10 =>
          (FX8_told s7 p1 r10).bind fun r12 =>
          if r12 = (-1) then
            some (0, s7)
          else
            (ald 4 (MS_way s7) 3).bind fun r15 =>
            (FX8_told s7 p1 r15).bind fun r17 =>
            (ald 1200 (MS_dat s7) ((600 * p1) + r17)).bind fun r19 =>
            some (r19, s7)
    else
      some (0, (MS_setthr x0 1))
  else
    (FX8_isPlace p3).bind fun r36 =>
    if r36 = 0 then
      if 1 ≤ 0 then
        if p2 = (-1) then
          (FX8_ways (MS_setthr x0 1) p1 0 p3).bind fun (r108, s109) =>
          if r108 < 4 then
            some (0, s109)
          else
            (ald 4 (MS_way s109) 3).bind fun r112 =>
            (FX8_told s109 p1 r112).bind fun r114 =>
            if r114 = (-1) then
              some (0, s109)
            else
              (ald 4 (MS_way s109) 3).bind fun r117 =>
              (FX8_told s109 p1 r117).bind fun r119 =>
              (ald 1200 (MS_dat s109) ((600 * p1) + r119)).bind fun r121 =>
              some (r121, s109)
        else
          (FX8_ways (MS_setthr x0 1) p1 (2 + p2) p3).bind fun (r93, s94) =>
          if r93 < 4 then
            some (0, s94)
          else
            (ald 4 (MS_way s94) 3).bind fun r97 =>
            (FX8_told s94 p1 r97).bind fun r99 =>
            if r99 = (-1) then
              some (0, s94)
            else
              (ald 4 (MS_way s94) 3).bind fun r102 =>
              (FX8_told s94 p1 r102).bind fun r104 =>
              (ald 1200 (MS_dat s94) ((600 * p1) + r104)).bind fun r106 =>
              some (r106, s94)
      else
        some (0, (MS_setthr x0 1))
    else
      if p2 = (-1) then
        if 0 ≤ 0 then
          (FX8_ways (MS_setthr x0 0) p1 0 p3).bind fun (r41, s42) =>
          if r41 < 4 then
            some (0, s42)
          else
            (ald 4 (MS_way s42) 3).bind fun r45 =>
            (FX8_told s42 p1 r45).bind fun r47 =>
            if r47 = (-1) then
              some (0, s42)
            else
              (ald 4 (MS_way s42) 3).bind fun r50 =>
              (FX8_told s42 p1 r50).bind fun r52 =>
              (ald 1200 (MS_dat s42) ((600 * p1) + r52)).bind fun r54 =>
              some (r54, s42)
        else
          some (0, (MS_setthr x0 0))
      else
        (FX8_isSnap x0 p1 p2).bind fun r56 =>
        if r56 = 0 then
          if 2 ≤ 0 then
            (FX8_ways (MS_setthr x0 2) p1 (2 + p2) p3).bind fun (r76, s77) =>
            if r76 < 4 then
              some (0, s77)
            else
              (ald 4 (MS_way s77) 3).bind fun r80 =>
              (FX8_told s77 p1 r80).bind fun r82 =>
              if r82 = (-1) then
                some (0, s77)
              else
                (ald 4 (MS_way s77) 3).bind fun r85 =>
                (FX8_told s77 p1 r85).bind fun r87 =>
                (ald 1200 (MS_dat s77) ((600 * p1) + r87)).bind fun r89 =>
                some (r89, s77)
          else
            some (0, (MS_setthr x0 2))
        else
          if 0 ≤ 0 then
            (FX8_ways (MS_setthr x0 0) p1 (2 + p2) p3).bind fun (r60, s61) =>
            if r60 < 4 then
              some (0, s61)
            else
              (ald 4 (MS_way s61) 3).bind fun r64 =>
              (FX8_told s61 p1 r64).bind fun r66 =>
              if r66 = (-1) then
                some (0, s61)
              else
                (ald 4 (MS_way s61) 3).bind fun r69 =>
                (FX8_told s61 p1 r69).bind fun r71 =>
                (ald 1200 (MS_dat s61) ((600 * p1) + r71)).bind fun r73 =>
                some (r73, s61)
          else
            some (0, (MS_setthr x0 0))
def rX8_read : Room := { frames := 2, cells := 0, slots := 0, locals := 46 }
set_option maxHeartbeats 4000000 in
set_option maxRecDepth 100000 in
theorem c_X8_read (l : Launch) (D : va_G) (cB cI cJ cZ : ClassId) (x_0 x_1 x_2 x_3 x_4 x_5 x_6 x_7 x_8 x_9 x_10 x_11 x_12 x_13 x_14 x_15 x_16 x_17 x_18 x_19 : Nat) {x0 : MS} {p1 : Int32} {p2 : Int32} {p3 : Int32} {res : Int64 × MS} (hF : FX8_read x0 p1 p2 p3 = some res) : gMl l yX8_read wsX8_read rX8_read D (gT cB cI cJ cZ) [.ref x_0, .int p1, .int p2, .int p3] (wM cB cI cJ cZ x_0 x_1 x_2 x_3 x_4 x_5 x_6 x_7 x_8 x_9 x_10 x_11 x_12 x_13 x_14 x_15 x_16 x_17 x_18 x_19 x0) res.1 (wM cB cI cJ cZ x_0 x_1 x_2 x_3 x_4 x_5 x_6 x_7 x_8 x_9 x_10 x_11 x_12 x_13 x_14 x_15 x_16 x_17 x_18 x_19 res.2) := by
  refine g_enter (own := RX8) (free := (fun sz => va_A (wM cB cI cJ cZ x_0 x_1 x_2 x_3 x_4 x_5 x_6 x_7 x_8 x_9 x_10 x_11 x_12 x_13 x_14 x_15 x_16 x_17 x_18 x_19 x0) sz)) (Qc := (fun sz => gQl D (wM cB cI cJ cZ x_0 x_1 x_2 x_3 x_4 x_5 x_6 x_7 x_8 x_9 x_10 x_11 x_12 x_13 x_14 x_15 x_16 x_17 x_18 x_19 x0) sz res.1 (wM cB cI cJ cZ x_0 x_1 x_2 x_3 x_4 x_5 x_6 x_7 x_8 x_9 x_10 x_11 x_12 x_13 x_14 x_15 x_16 x_17 x_18 x_19 res.2))) (fun sz => va_A (wM cB cI cJ cZ x_0 x_1 x_2 x_3 x_4 x_5 x_6 x_7 x_8 x_9 x_10 x_11 x_12 x_13 x_14 x_15 x_16 x_17 x_18 x_19 x0) sz) (fun sz => Or.inr rfl) rfl (by decide) rfl (Nat.le_of_ble_eq_true rfl) rfl ?_
  intro p e s m args below meth c C
  unfold FX8_read at hF
  refine g_aload_n (z := 0) C (tdec DX8_read 0 rfl) rfl rfl rfl ?_
  refine g_iload_n (z := 1) C (tdec DX8_read 1 rfl) rfl rfl rfl ?_
  obtain ⟨r1, y2, hF⟩ := o_bind hF
  refine g_callSiR C (c_X8_isVolume l D cB cI cJ cZ y2) (gIS ml_X8_82 st_X8_isVolume in_X8 cd_X8_isVolume) eX8_isVolume rfl ⟨rfl, rfl⟩ ⟨Nat.le_of_ble_eq_true rfl, Nat.le_of_ble_eq_true rfl⟩ rfl [] rfl rfl rfl (Nat.le_of_ble_eq_true rfl) (tdec DX8_read 2 rfl) rfl ?_
  refine g_if_eq (pt := 15) C (tdec DX8_read 3 rfl) (by decide) rfl (fun h3 => ?_) (fun h3 => ?_)
  · have hF := o_ifp hF h3
    refine g_iconst (v := 1) C (tdec DX8_read 7 rfl) (by decide) rfl ?_
    refine g_goto (pt := 38) C (tdec DX8_read 8 rfl) (by decide) ?_
    refine g_putf (C' := RX8) (T := TX8) (N := 27) (v := .int 1) (ws' := wM cB cI cJ cZ x_0 x_1 x_2 x_3 x_4 x_5 x_6 x_7 x_8 x_9 x_10 x_11 x_12 x_13 x_14 x_15 x_16 x_17 x_18 x_19 (MS_setthr x0 1)) C 0 0 tyX8 tyX8_ok nmX8 (gIn iw_X8) rfl rfl (by decide) (gMem fl_X8_78) rfl rfl (tyX8_ok 0 (by decide)) rfl rfl (Nat.le_of_ble_eq_true rfl) rfl (tdec DX8_read 20 rfl) rfl ?_
    refine g_aload_n (z := 0) C (tdec DX8_read 21 rfl) rfl rfl rfl ?_
    refine g_getf (C' := RX8) (T := TX8) (N := 27) (v := .int 1) C 0 0 (gIn iw_X8) rfl rfl (by decide) (gMem fl_X8_78) rfl rfl (tdec DX8_read 22 rfl) rfl ?_
    refine g_if_le (pt := 50) C (tdec DX8_read 23 rfl) (by decide) rfl (fun h4 => ?_) (fun h4 => ?_)
    · have hF := o_ifp hF h4
      refine g_aload_n (z := 0) C (tdec DX8_read 26 rfl) rfl rfl rfl ?_
      refine g_iload_n (z := 1) C (tdec DX8_read 27 rfl) rfl rfl rfl ?_
      refine g_iload_n (z := 2) C (tdec DX8_read 28 rfl) rfl rfl rfl ?_
      refine g_iconst (v := (-1)) C (tdec DX8_read 29 rfl) (by decide) rfl ?_
      refine g_icmp_ne (pt := 61) C (tdec DX8_read 30 rfl) (by decide) rfl (fun h5 => ?_) (fun h5 => ?_)
      · have hF := o_ifn hF h5
        refine g_iconst (v := 2) C (tdec DX8_read 33 rfl) (by decide) rfl ?_
        refine g_iload_n (z := 2) C (tdec DX8_read 34 rfl) rfl rfl rfl ?_
        refine g_iadd C (tdec DX8_read 35 rfl) rfl ?_
        refine g_iload_n (z := 3) C (tdec DX8_read 36 rfl) rfl rfl rfl ?_
        obtain ⟨⟨r6, s7⟩, y8, hF⟩ := o_bind hF
        refine g_callViMS (q0 := 0) (W' := wM cB cI cJ cZ x_0 x_1 x_2 x_3 x_4 x_5 x_6 x_7 x_8 x_9 x_10 x_11 x_12 x_13 x_14 x_15 x_16 x_17 x_18 x_19 s7) (S := [wM cB cI cJ cZ x_0 x_1 x_2 x_3 x_4 x_5 x_6 x_7 x_8 x_9 x_10 x_11 x_12 x_13 x_14 x_15 x_16 x_17 x_18 x_19 (MS_setthr x0 1)]) (S0 := [wM cB cI cJ cZ x_0 x_1 x_2 x_3 x_4 x_5 x_6 x_7 x_8 x_9 x_10 x_11 x_12 x_13 x_14 x_15 x_16 x_17 x_18 x_19 (MS_setthr x0 1)]) (S1 := [wM cB cI cJ cZ x_0 x_1 x_2 x_3 x_4 x_5 x_6 x_7 x_8 x_9 x_10 x_11 x_12 x_13 x_14 x_15 x_16 x_17 x_18 x_19 s7]) (S' := [wM cB cI cJ cZ x_0 x_1 x_2 x_3 x_4 x_5 x_6 x_7 x_8 x_9 x_10 x_11 x_12 x_13 x_14 x_15 x_16 x_17 x_18 x_19 s7]) C (c_X8_ways l D cB cI cJ cZ x_0 x_1 x_2 x_3 x_4 x_5 x_6 x_7 x_8 x_9 x_10 x_11 x_12 x_13 x_14 x_15 x_16 x_17 x_18 x_19 y8) rfl rfl (gIV ml_X8_107 im_X8_ways sl_X8_ways in_X8 cd_X8_ways) rfl eX8_ways rfl ⟨rfl, rfl⟩ ⟨Nat.le_of_ble_eq_true rfl, Nat.le_of_ble_eq_true rfl⟩ rfl rfl rfl [0] rfl rfl rfl rfl (gA_cons aM gA_nil) rfl rfl (Nat.le_of_ble_eq_true rfl) (tdec DX8_read 37 rfl) rfl ?_
        refine g_istore (L' := [(4, .int r6), (0, .ref x_0), (1, .int p1), (2, .int p2), (3, .int p3)]) C (tdec DX8_read 38 rfl) (by decide) rfl rfl ?_
        refine g_iload (z := 0) C (tdec DX8_read 39 rfl) rfl rfl ?_
        refine g_iconst (v := 4) C (tdec DX8_read 40 rfl) (by decide) rfl ?_
        refine g_icmp_lt (pt := 91) C (tdec DX8_read 41 rfl) (by decide) rfl (fun h9 => ?_) (fun h9 => ?_)
        · have hF := o_ifp hF h9
          refine g_lconst (v := 0) C (tdec DX8_read 51 rfl) (by decide) rfl ?_
          refine g_goto (pt := 117) C (tdec DX8_read 52 rfl) (by decide) ?_
          have hr9 := o_some hF
          subst hr9
          exact g_lret C rfl rfl (tdec DX8_read 67 rfl)
        · have hF := o_ifn hF h9
          refine g_aload_n (z := 1) C (tdec DX8_read 42 rfl) rfl rfl rfl ?_
          refine g_iload_n (z := 2) C (tdec DX8_read 43 rfl) rfl rfl rfl ?_
          refine g_aload_n (z := 1) C (tdec DX8_read 44 rfl) rfl rfl rfl ?_
          refine g_getf (C' := RX8) (T := TX8) (N := 27) (v := .ref x_19) C 0 25 (gIn iw_X8) rfl rfl (by decide) (gMem fl_X8_71) rfl rfl (tdec DX8_read 45 rfl) rfl ?_
          refine g_iconst (v := 3) C (tdec DX8_read 46 rfl) (by decide) rfl ?_
          obtain ⟨r10, y11, hF⟩ := o_bind hF
          refine g_iald C 19 1 rfl rfl y11 (tdec DX8_read 47 rfl) rfl ?_
          obtain ⟨r12, y13, hF⟩ := o_bind hF
          refine g_callViRS (q0 := 0) (S := [wM cB cI cJ cZ x_0 x_1 x_2 x_3 x_4 x_5 x_6 x_7 x_8 x_9 x_10 x_11 x_12 x_13 x_14 x_15 x_16 x_17 x_18 x_19 s7]) (S0 := [wM cB cI cJ cZ x_0 x_1 x_2 x_3 x_4 x_5 x_6 x_7 x_8 x_9 x_10 x_11 x_12 x_13 x_14 x_15 x_16 x_17 x_18 x_19 s7]) C (c_X8_told l D cB cI cJ cZ x_0 x_1 x_2 x_3 x_4 x_5 x_6 x_7 x_8 x_9 x_10 x_11 x_12 x_13 x_14 x_15 x_16 x_17 x_18 x_19 y13) rfl rfl (gIV ml_X8_90 im_X8_told sl_X8_told in_X8 cd_X8_told) rfl eX8_told rfl ⟨rfl, rfl⟩ ⟨Nat.le_of_ble_eq_true rfl, Nat.le_of_ble_eq_true rfl⟩ rfl rfl rfl [0] rfl rfl rfl (Nat.le_of_ble_eq_true rfl) (tdec DX8_read 48 rfl) rfl ?_
          refine g_iconst (v := (-1)) C (tdec DX8_read 49 rfl) (by decide) rfl ?_
          refine g_icmp_ne (pt := 95) C (tdec DX8_read 50 rfl) (by decide) rfl (fun h14 => ?_) (fun h14 => ?_)
          · have hF := o_ifn hF h14
            refine g_aload_n (z := 1) C (tdec DX8_read 53 rfl) rfl rfl rfl ?_
            refine g_getf (C' := RX8) (T := TX8) (N := 27) (v := .ref x_5) C 0 5 (gIn iw_X8) rfl rfl (by decide) (gMem fl_X8_22) rfl rfl (tdec DX8_read 54 rfl) rfl ?_
            refine g_sipush (v := 600) C (tdec DX8_read 55 rfl) (by decide) rfl ?_
            refine g_iload_n (z := 2) C (tdec DX8_read 56 rfl) rfl rfl rfl ?_
            refine g_imul C (tdec DX8_read 57 rfl) rfl ?_
            refine g_aload_n (z := 1) C (tdec DX8_read 58 rfl) rfl rfl rfl ?_
            refine g_iload_n (z := 2) C (tdec DX8_read 59 rfl) rfl rfl rfl ?_
            refine g_aload_n (z := 1) C (tdec DX8_read 60 rfl) rfl rfl rfl ?_
            refine g_getf (C' := RX8) (T := TX8) (N := 27) (v := .ref x_19) C 0 25 (gIn iw_X8) rfl rfl (by decide) (gMem fl_X8_71) rfl rfl (tdec DX8_read 61 rfl) rfl ?_
            refine g_iconst (v := 3) C (tdec DX8_read 62 rfl) (by decide) rfl ?_
            obtain ⟨r15, y16, hF⟩ := o_bind hF
            refine g_iald C 19 1 rfl rfl y16 (tdec DX8_read 63 rfl) rfl ?_
            obtain ⟨r17, y18, hF⟩ := o_bind hF
            refine g_callViRS (q0 := 0) (S := [wM cB cI cJ cZ x_0 x_1 x_2 x_3 x_4 x_5 x_6 x_7 x_8 x_9 x_10 x_11 x_12 x_13 x_14 x_15 x_16 x_17 x_18 x_19 s7]) (S0 := [wM cB cI cJ cZ x_0 x_1 x_2 x_3 x_4 x_5 x_6 x_7 x_8 x_9 x_10 x_11 x_12 x_13 x_14 x_15 x_16 x_17 x_18 x_19 s7]) C (c_X8_told l D cB cI cJ cZ x_0 x_1 x_2 x_3 x_4 x_5 x_6 x_7 x_8 x_9 x_10 x_11 x_12 x_13 x_14 x_15 x_16 x_17 x_18 x_19 y18) rfl rfl (gIV ml_X8_90 im_X8_told sl_X8_told in_X8 cd_X8_told) rfl eX8_told rfl ⟨rfl, rfl⟩ ⟨Nat.le_of_ble_eq_true rfl, Nat.le_of_ble_eq_true rfl⟩ rfl rfl rfl [0] rfl rfl rfl (Nat.le_of_ble_eq_true rfl) (tdec DX8_read 64 rfl) rfl ?_
            refine g_iadd C (tdec DX8_read 65 rfl) rfl ?_
            obtain ⟨r19, y20, hF⟩ := o_bind hF
            refine g_lald C 5 2 rfl rfl y20 (tdec DX8_read 66 rfl) rfl ?_
            have hr9 := o_some hF
            subst hr9
            exact g_lret C rfl rfl (tdec DX8_read 67 rfl)
          · have hF := o_ifp hF h14
            refine g_lconst (v := 0) C (tdec DX8_read 51 rfl) (by decide) rfl ?_
            refine g_goto (pt := 117) C (tdec DX8_read 52 rfl) (by decide) ?_
            have hr9 := o_some hF
            subst hr9
            exact g_lret C rfl rfl (tdec DX8_read 67 rfl)
      · have hF := o_ifp hF h5
        refine g_iconst (v := 0) C (tdec DX8_read 31 rfl) (by decide) rfl ?_
        refine g_goto (pt := 64) C (tdec DX8_read 32 rfl) (by decide) ?_
        refine g_iload_n (z := 3) C (tdec DX8_read 36 rfl) rfl rfl rfl ?_
        obtain ⟨⟨r21, s22⟩, y23, hF⟩ := o_bind hF
        refine g_callViMS (q0 := 0) (W' := wM cB cI cJ cZ x_0 x_1 x_2 x_3 x_4 x_5 x_6 x_7 x_8 x_9 x_10 x_11 x_12 x_13 x_14 x_15 x_16 x_17 x_18 x_19 s22) (S := [wM cB cI cJ cZ x_0 x_1 x_2 x_3 x_4 x_5 x_6 x_7 x_8 x_9 x_10 x_11 x_12 x_13 x_14 x_15 x_16 x_17 x_18 x_19 (MS_setthr x0 1)]) (S0 := [wM cB cI cJ cZ x_0 x_1 x_2 x_3 x_4 x_5 x_6 x_7 x_8 x_9 x_10 x_11 x_12 x_13 x_14 x_15 x_16 x_17 x_18 x_19 (MS_setthr x0 1)]) (S1 := [wM cB cI cJ cZ x_0 x_1 x_2 x_3 x_4 x_5 x_6 x_7 x_8 x_9 x_10 x_11 x_12 x_13 x_14 x_15 x_16 x_17 x_18 x_19 s22]) (S' := [wM cB cI cJ cZ x_0 x_1 x_2 x_3 x_4 x_5 x_6 x_7 x_8 x_9 x_10 x_11 x_12 x_13 x_14 x_15 x_16 x_17 x_18 x_19 s22]) C (c_X8_ways l D cB cI cJ cZ x_0 x_1 x_2 x_3 x_4 x_5 x_6 x_7 x_8 x_9 x_10 x_11 x_12 x_13 x_14 x_15 x_16 x_17 x_18 x_19 y23) rfl rfl (gIV ml_X8_107 im_X8_ways sl_X8_ways in_X8 cd_X8_ways) rfl eX8_ways rfl ⟨rfl, rfl⟩ ⟨Nat.le_of_ble_eq_true rfl, Nat.le_of_ble_eq_true rfl⟩ rfl rfl rfl [0] rfl rfl rfl rfl (gA_cons aM gA_nil) rfl rfl (Nat.le_of_ble_eq_true rfl) (tdec DX8_read 37 rfl) rfl ?_
        refine g_istore (L' := [(4, .int r21), (0, .ref x_0), (1, .int p1), (2, .int p2), (3, .int p3)]) C (tdec DX8_read 38 rfl) (by decide) rfl rfl ?_
        refine g_iload (z := 0) C (tdec DX8_read 39 rfl) rfl rfl ?_
        refine g_iconst (v := 4) C (tdec DX8_read 40 rfl) (by decide) rfl ?_
        refine g_icmp_lt (pt := 91) C (tdec DX8_read 41 rfl) (by decide) rfl (fun h24 => ?_) (fun h24 => ?_)
        · have hF := o_ifp hF h24
          refine g_lconst (v := 0) C (tdec DX8_read 51 rfl) (by decide) rfl ?_
          refine g_goto (pt := 117) C (tdec DX8_read 52 rfl) (by decide) ?_
          have hr9 := o_some hF
          subst hr9
          exact g_lret C rfl rfl (tdec DX8_read 67 rfl)
        · have hF := o_ifn hF h24
          refine g_aload_n (z := 1) C (tdec DX8_read 42 rfl) rfl rfl rfl ?_
          refine g_iload_n (z := 2) C (tdec DX8_read 43 rfl) rfl rfl rfl ?_
          refine g_aload_n (z := 1) C (tdec DX8_read 44 rfl) rfl rfl rfl ?_
          refine g_getf (C' := RX8) (T := TX8) (N := 27) (v := .ref x_19) C 0 25 (gIn iw_X8) rfl rfl (by decide) (gMem fl_X8_71) rfl rfl (tdec DX8_read 45 rfl) rfl ?_
          refine g_iconst (v := 3) C (tdec DX8_read 46 rfl) (by decide) rfl ?_
          obtain ⟨r25, y26, hF⟩ := o_bind hF
          refine g_iald C 19 1 rfl rfl y26 (tdec DX8_read 47 rfl) rfl ?_
          obtain ⟨r27, y28, hF⟩ := o_bind hF
          refine g_callViRS (q0 := 0) (S := [wM cB cI cJ cZ x_0 x_1 x_2 x_3 x_4 x_5 x_6 x_7 x_8 x_9 x_10 x_11 x_12 x_13 x_14 x_15 x_16 x_17 x_18 x_19 s22]) (S0 := [wM cB cI cJ cZ x_0 x_1 x_2 x_3 x_4 x_5 x_6 x_7 x_8 x_9 x_10 x_11 x_12 x_13 x_14 x_15 x_16 x_17 x_18 x_19 s22]) C (c_X8_told l D cB cI cJ cZ x_0 x_1 x_2 x_3 x_4 x_5 x_6 x_7 x_8 x_9 x_10 x_11 x_12 x_13 x_14 x_15 x_16 x_17 x_18 x_19 y28) rfl rfl (gIV ml_X8_90 im_X8_told sl_X8_told in_X8 cd_X8_told) rfl eX8_told rfl ⟨rfl, rfl⟩ ⟨Nat.le_of_ble_eq_true rfl, Nat.le_of_ble_eq_true rfl⟩ rfl rfl rfl [0] rfl rfl rfl (Nat.le_of_ble_eq_true rfl) (tdec DX8_read 48 rfl) rfl ?_
          refine g_iconst (v := (-1)) C (tdec DX8_read 49 rfl) (by decide) rfl ?_
          refine g_icmp_ne (pt := 95) C (tdec DX8_read 50 rfl) (by decide) rfl (fun h29 => ?_) (fun h29 => ?_)
          · have hF := o_ifn hF h29
            refine g_aload_n (z := 1) C (tdec DX8_read 53 rfl) rfl rfl rfl ?_
            refine g_getf (C' := RX8) (T := TX8) (N := 27) (v := .ref x_5) C 0 5 (gIn iw_X8) rfl rfl (by decide) (gMem fl_X8_22) rfl rfl (tdec DX8_read 54 rfl) rfl ?_
            refine g_sipush (v := 600) C (tdec DX8_read 55 rfl) (by decide) rfl ?_
            refine g_iload_n (z := 2) C (tdec DX8_read 56 rfl) rfl rfl rfl ?_
            refine g_imul C (tdec DX8_read 57 rfl) rfl ?_
            refine g_aload_n (z := 1) C (tdec DX8_read 58 rfl) rfl rfl rfl ?_
            refine g_iload_n (z := 2) C (tdec DX8_read 59 rfl) rfl rfl rfl ?_
            refine g_aload_n (z := 1) C (tdec DX8_read 60 rfl) rfl rfl rfl ?_
            refine g_getf (C' := RX8) (T := TX8) (N := 27) (v := .ref x_19) C 0 25 (gIn iw_X8) rfl rfl (by decide) (gMem fl_X8_71) rfl rfl (tdec DX8_read 61 rfl) rfl ?_
            refine g_iconst (v := 3) C (tdec DX8_read 62 rfl) (by decide) rfl ?_
            obtain ⟨r30, y31, hF⟩ := o_bind hF
            refine g_iald C 19 1 rfl rfl y31 (tdec DX8_read 63 rfl) rfl ?_
            obtain ⟨r32, y33, hF⟩ := o_bind hF
            refine g_callViRS (q0 := 0) (S := [wM cB cI cJ cZ x_0 x_1 x_2 x_3 x_4 x_5 x_6 x_7 x_8 x_9 x_10 x_11 x_12 x_13 x_14 x_15 x_16 x_17 x_18 x_19 s22]) (S0 := [wM cB cI cJ cZ x_0 x_1 x_2 x_3 x_4 x_5 x_6 x_7 x_8 x_9 x_10 x_11 x_12 x_13 x_14 x_15 x_16 x_17 x_18 x_19 s22]) C (c_X8_told l D cB cI cJ cZ x_0 x_1 x_2 x_3 x_4 x_5 x_6 x_7 x_8 x_9 x_10 x_11 x_12 x_13 x_14 x_15 x_16 x_17 x_18 x_19 y33) rfl rfl (gIV ml_X8_90 im_X8_told sl_X8_told in_X8 cd_X8_told) rfl eX8_told rfl ⟨rfl, rfl⟩ ⟨Nat.le_of_ble_eq_true rfl, Nat.le_of_ble_eq_true rfl⟩ rfl rfl rfl [0] rfl rfl rfl (Nat.le_of_ble_eq_true rfl) (tdec DX8_read 64 rfl) rfl ?_
            refine g_iadd C (tdec DX8_read 65 rfl) rfl ?_
            obtain ⟨r34, y35, hF⟩ := o_bind hF
            refine g_lald C 5 2 rfl rfl y35 (tdec DX8_read 66 rfl) rfl ?_
            have hr9 := o_some hF
            subst hr9
            exact g_lret C rfl rfl (tdec DX8_read 67 rfl)
          · have hF := o_ifp hF h29
            refine g_lconst (v := 0) C (tdec DX8_read 51 rfl) (by decide) rfl ?_
            refine g_goto (pt := 117) C (tdec DX8_read 52 rfl) (by decide) ?_
            have hr9 := o_some hF
            subst hr9
            exact g_lret C rfl rfl (tdec DX8_read 67 rfl)
    · have hF := o_ifn hF h4
      refine g_lconst (v := 0) C (tdec DX8_read 24 rfl) (by decide) rfl ?_
      have hr9 := o_some hF
      subst hr9
      exact g_lret C rfl rfl (tdec DX8_read 25 rfl)
  · have hF := o_ifn hF h3
    refine g_iload_n (z := 3) C (tdec DX8_read 4 rfl) rfl rfl rfl ?_
    obtain ⟨r36, y37, hF⟩ := o_bind hF
    refine g_callSiR C (c_X8_isPlace l D cB cI cJ cZ y37) (gIS ml_X8_124 st_X8_isPlace in_X8 cd_X8_isPlace) eX8_isPlace rfl ⟨rfl, rfl⟩ ⟨Nat.le_of_ble_eq_true rfl, Nat.le_of_ble_eq_true rfl⟩ rfl [] rfl rfl rfl (Nat.le_of_ble_eq_true rfl) (tdec DX8_read 5 rfl) rfl ?_
    refine g_if_ne (pt := 19) C (tdec DX8_read 6 rfl) (by decide) rfl (fun h38 => ?_) (fun h38 => ?_)
    · have hF := o_ifn hF h38
      refine g_iload_n (z := 2) C (tdec DX8_read 9 rfl) rfl rfl rfl ?_
      refine g_iconst (v := (-1)) C (tdec DX8_read 10 rfl) (by decide) rfl ?_
      refine g_icmp_eq (pt := 37) C (tdec DX8_read 11 rfl) (by decide) rfl (fun h39 => ?_) (fun h39 => ?_)
      · have hF := o_ifp hF h39
        refine g_iconst (v := 0) C (tdec DX8_read 19 rfl) (by decide) rfl ?_
        refine g_putf (C' := RX8) (T := TX8) (N := 27) (v := .int 0) (ws' := wM cB cI cJ cZ x_0 x_1 x_2 x_3 x_4 x_5 x_6 x_7 x_8 x_9 x_10 x_11 x_12 x_13 x_14 x_15 x_16 x_17 x_18 x_19 (MS_setthr x0 0)) C 0 0 tyX8 tyX8_ok nmX8 (gIn iw_X8) rfl rfl (by decide) (gMem fl_X8_78) rfl rfl (tyX8_ok 0 (by decide)) rfl rfl (Nat.le_of_ble_eq_true rfl) rfl (tdec DX8_read 20 rfl) rfl ?_
        refine g_aload_n (z := 0) C (tdec DX8_read 21 rfl) rfl rfl rfl ?_
        refine g_getf (C' := RX8) (T := TX8) (N := 27) (v := .int 0) C 0 0 (gIn iw_X8) rfl rfl (by decide) (gMem fl_X8_78) rfl rfl (tdec DX8_read 22 rfl) rfl ?_
        refine g_if_le (pt := 50) C (tdec DX8_read 23 rfl) (by decide) rfl (fun h40 => ?_) (fun h40 => ?_)
        · have hF := o_ifp hF h40
          refine g_aload_n (z := 0) C (tdec DX8_read 26 rfl) rfl rfl rfl ?_
          refine g_iload_n (z := 1) C (tdec DX8_read 27 rfl) rfl rfl rfl ?_
          refine g_iload_n (z := 2) C (tdec DX8_read 28 rfl) rfl rfl rfl ?_
          refine g_iconst (v := (-1)) C (tdec DX8_read 29 rfl) (by decide) rfl ?_
          refine g_icmp_ne (pt := 61) C (tdec DX8_read 30 rfl) (by decide) rfl (fun h => absurd h39 h) (fun _ => ?_)
          refine g_iconst (v := 0) C (tdec DX8_read 31 rfl) (by decide) rfl ?_
          refine g_goto (pt := 64) C (tdec DX8_read 32 rfl) (by decide) ?_
          refine g_iload_n (z := 3) C (tdec DX8_read 36 rfl) rfl rfl rfl ?_
          obtain ⟨⟨r41, s42⟩, y43, hF⟩ := o_bind hF
          refine g_callViMS (q0 := 0) (W' := wM cB cI cJ cZ x_0 x_1 x_2 x_3 x_4 x_5 x_6 x_7 x_8 x_9 x_10 x_11 x_12 x_13 x_14 x_15 x_16 x_17 x_18 x_19 s42) (S := [wM cB cI cJ cZ x_0 x_1 x_2 x_3 x_4 x_5 x_6 x_7 x_8 x_9 x_10 x_11 x_12 x_13 x_14 x_15 x_16 x_17 x_18 x_19 (MS_setthr x0 0)]) (S0 := [wM cB cI cJ cZ x_0 x_1 x_2 x_3 x_4 x_5 x_6 x_7 x_8 x_9 x_10 x_11 x_12 x_13 x_14 x_15 x_16 x_17 x_18 x_19 (MS_setthr x0 0)]) (S1 := [wM cB cI cJ cZ x_0 x_1 x_2 x_3 x_4 x_5 x_6 x_7 x_8 x_9 x_10 x_11 x_12 x_13 x_14 x_15 x_16 x_17 x_18 x_19 s42]) (S' := [wM cB cI cJ cZ x_0 x_1 x_2 x_3 x_4 x_5 x_6 x_7 x_8 x_9 x_10 x_11 x_12 x_13 x_14 x_15 x_16 x_17 x_18 x_19 s42]) C (c_X8_ways l D cB cI cJ cZ x_0 x_1 x_2 x_3 x_4 x_5 x_6 x_7 x_8 x_9 x_10 x_11 x_12 x_13 x_14 x_15 x_16 x_17 x_18 x_19 y43) rfl rfl (gIV ml_X8_107 im_X8_ways sl_X8_ways in_X8 cd_X8_ways) rfl eX8_ways rfl ⟨rfl, rfl⟩ ⟨Nat.le_of_ble_eq_true rfl, Nat.le_of_ble_eq_true rfl⟩ rfl rfl rfl [0] rfl rfl rfl rfl (gA_cons aM gA_nil) rfl rfl (Nat.le_of_ble_eq_true rfl) (tdec DX8_read 37 rfl) rfl ?_
          refine g_istore (L' := [(4, .int r41), (0, .ref x_0), (1, .int p1), (2, .int p2), (3, .int p3)]) C (tdec DX8_read 38 rfl) (by decide) rfl rfl ?_
          refine g_iload (z := 0) C (tdec DX8_read 39 rfl) rfl rfl ?_
          refine g_iconst (v := 4) C (tdec DX8_read 40 rfl) (by decide) rfl ?_
          refine g_icmp_lt (pt := 91) C (tdec DX8_read 41 rfl) (by decide) rfl (fun h44 => ?_) (fun h44 => ?_)
          · have hF := o_ifp hF h44
            refine g_lconst (v := 0) C (tdec DX8_read 51 rfl) (by decide) rfl ?_
            refine g_goto (pt := 117) C (tdec DX8_read 52 rfl) (by decide) ?_
            have hr9 := o_some hF
            subst hr9
            exact g_lret C rfl rfl (tdec DX8_read 67 rfl)
          · have hF := o_ifn hF h44
            refine g_aload_n (z := 1) C (tdec DX8_read 42 rfl) rfl rfl rfl ?_
            refine g_iload_n (z := 2) C (tdec DX8_read 43 rfl) rfl rfl rfl ?_
            refine g_aload_n (z := 1) C (tdec DX8_read 44 rfl) rfl rfl rfl ?_
            refine g_getf (C' := RX8) (T := TX8) (N := 27) (v := .ref x_19) C 0 25 (gIn iw_X8) rfl rfl (by decide) (gMem fl_X8_71) rfl rfl (tdec DX8_read 45 rfl) rfl ?_
            refine g_iconst (v := 3) C (tdec DX8_read 46 rfl) (by decide) rfl ?_
            obtain ⟨r45, y46, hF⟩ := o_bind hF
            refine g_iald C 19 1 rfl rfl y46 (tdec DX8_read 47 rfl) rfl ?_
            obtain ⟨r47, y48, hF⟩ := o_bind hF
            refine g_callViRS (q0 := 0) (S := [wM cB cI cJ cZ x_0 x_1 x_2 x_3 x_4 x_5 x_6 x_7 x_8 x_9 x_10 x_11 x_12 x_13 x_14 x_15 x_16 x_17 x_18 x_19 s42]) (S0 := [wM cB cI cJ cZ x_0 x_1 x_2 x_3 x_4 x_5 x_6 x_7 x_8 x_9 x_10 x_11 x_12 x_13 x_14 x_15 x_16 x_17 x_18 x_19 s42]) C (c_X8_told l D cB cI cJ cZ x_0 x_1 x_2 x_3 x_4 x_5 x_6 x_7 x_8 x_9 x_10 x_11 x_12 x_13 x_14 x_15 x_16 x_17 x_18 x_19 y48) rfl rfl (gIV ml_X8_90 im_X8_told sl_X8_told in_X8 cd_X8_told) rfl eX8_told rfl ⟨rfl, rfl⟩ ⟨Nat.le_of_ble_eq_true rfl, Nat.le_of_ble_eq_true rfl⟩ rfl rfl rfl [0] rfl rfl rfl (Nat.le_of_ble_eq_true rfl) (tdec DX8_read 48 rfl) rfl ?_
            refine g_iconst (v := (-1)) C (tdec DX8_read 49 rfl) (by decide) rfl ?_
            refine g_icmp_ne (pt := 95) C (tdec DX8_read 50 rfl) (by decide) rfl (fun h49 => ?_) (fun h49 => ?_)
            · have hF := o_ifn hF h49
              refine g_aload_n (z := 1) C (tdec DX8_read 53 rfl) rfl rfl rfl ?_
              refine g_getf (C' := RX8) (T := TX8) (N := 27) (v := .ref x_5) C 0 5 (gIn iw_X8) rfl rfl (by decide) (gMem fl_X8_22) rfl rfl (tdec DX8_read 54 rfl) rfl ?_
              refine g_sipush (v := 600) C (tdec DX8_read 55 rfl) (by decide) rfl ?_
              refine g_iload_n (z := 2) C (tdec DX8_read 56 rfl) rfl rfl rfl ?_
              refine g_imul C (tdec DX8_read 57 rfl) rfl ?_
              refine g_aload_n (z := 1) C (tdec DX8_read 58 rfl) rfl rfl rfl ?_
              refine g_iload_n (z := 2) C (tdec DX8_read 59 rfl) rfl rfl rfl ?_
              refine g_aload_n (z := 1) C (tdec DX8_read 60 rfl) rfl rfl rfl ?_
              refine g_getf (C' := RX8) (T := TX8) (N := 27) (v := .ref x_19) C 0 25 (gIn iw_X8) rfl rfl (by decide) (gMem fl_X8_71) rfl rfl (tdec DX8_read 61 rfl) rfl ?_
              refine g_iconst (v := 3) C (tdec DX8_read 62 rfl) (by decide) rfl ?_
              obtain ⟨r50, y51, hF⟩ := o_bind hF
              refine g_iald C 19 1 rfl rfl y51 (tdec DX8_read 63 rfl) rfl ?_
              obtain ⟨r52, y53, hF⟩ := o_bind hF
              refine g_callViRS (q0 := 0) (S := [wM cB cI cJ cZ x_0 x_1 x_2 x_3 x_4 x_5 x_6 x_7 x_8 x_9 x_10 x_11 x_12 x_13 x_14 x_15 x_16 x_17 x_18 x_19 s42]) (S0 := [wM cB cI cJ cZ x_0 x_1 x_2 x_3 x_4 x_5 x_6 x_7 x_8 x_9 x_10 x_11 x_12 x_13 x_14 x_15 x_16 x_17 x_18 x_19 s42]) C (c_X8_told l D cB cI cJ cZ x_0 x_1 x_2 x_3 x_4 x_5 x_6 x_7 x_8 x_9 x_10 x_11 x_12 x_13 x_14 x_15 x_16 x_17 x_18 x_19 y53) rfl rfl (gIV ml_X8_90 im_X8_told sl_X8_told in_X8 cd_X8_told) rfl eX8_told rfl ⟨rfl, rfl⟩ ⟨Nat.le_of_ble_eq_true rfl, Nat.le_of_ble_eq_true rfl⟩ rfl rfl rfl [0] rfl rfl rfl (Nat.le_of_ble_eq_true rfl) (tdec DX8_read 64 rfl) rfl ?_
              refine g_iadd C (tdec DX8_read 65 rfl) rfl ?_
              obtain ⟨r54, y55, hF⟩ := o_bind hF
              refine g_lald C 5 2 rfl rfl y55 (tdec DX8_read 66 rfl) rfl ?_
              have hr9 := o_some hF
              subst hr9
              exact g_lret C rfl rfl (tdec DX8_read 67 rfl)
            · have hF := o_ifp hF h49
              refine g_lconst (v := 0) C (tdec DX8_read 51 rfl) (by decide) rfl ?_
              refine g_goto (pt := 117) C (tdec DX8_read 52 rfl) (by decide) ?_
              have hr9 := o_some hF
              subst hr9
              exact g_lret C rfl rfl (tdec DX8_read 67 rfl)
        · have hF := o_ifn hF h40
          refine g_lconst (v := 0) C (tdec DX8_read 24 rfl) (by decide) rfl ?_
          have hr9 := o_some hF
          subst hr9
          exact g_lret C rfl rfl (tdec DX8_read 25 rfl)
      · have hF := o_ifn hF h39
        refine g_aload_n (z := 0) C (tdec DX8_read 12 rfl) rfl rfl rfl ?_
        refine g_iload_n (z := 1) C (tdec DX8_read 13 rfl) rfl rfl rfl ?_
        refine g_iload_n (z := 2) C (tdec DX8_read 14 rfl) rfl rfl rfl ?_
        obtain ⟨r56, y57, hF⟩ := o_bind hF
        refine g_callViRS (q0 := 0) (S := [wM cB cI cJ cZ x_0 x_1 x_2 x_3 x_4 x_5 x_6 x_7 x_8 x_9 x_10 x_11 x_12 x_13 x_14 x_15 x_16 x_17 x_18 x_19 x0]) (S0 := [wM cB cI cJ cZ x_0 x_1 x_2 x_3 x_4 x_5 x_6 x_7 x_8 x_9 x_10 x_11 x_12 x_13 x_14 x_15 x_16 x_17 x_18 x_19 x0]) C (c_X8_isSnap l D cB cI cJ cZ x_0 x_1 x_2 x_3 x_4 x_5 x_6 x_7 x_8 x_9 x_10 x_11 x_12 x_13 x_14 x_15 x_16 x_17 x_18 x_19 y57) rfl rfl (gIV ml_X8_141 im_X8_isSnap sl_X8_isSnap in_X8 cd_X8_isSnap) rfl eX8_isSnap rfl ⟨rfl, rfl⟩ ⟨Nat.le_of_ble_eq_true rfl, Nat.le_of_ble_eq_true rfl⟩ rfl rfl rfl [0] rfl rfl rfl (Nat.le_of_ble_eq_true rfl) (tdec DX8_read 15 rfl) rfl ?_
        refine g_if_ne (pt := 37) C (tdec DX8_read 16 rfl) (by decide) rfl (fun h58 => ?_) (fun h58 => ?_)
        · have hF := o_ifn hF h58
          refine g_iconst (v := 0) C (tdec DX8_read 19 rfl) (by decide) rfl ?_
          refine g_putf (C' := RX8) (T := TX8) (N := 27) (v := .int 0) (ws' := wM cB cI cJ cZ x_0 x_1 x_2 x_3 x_4 x_5 x_6 x_7 x_8 x_9 x_10 x_11 x_12 x_13 x_14 x_15 x_16 x_17 x_18 x_19 (MS_setthr x0 0)) C 0 0 tyX8 tyX8_ok nmX8 (gIn iw_X8) rfl rfl (by decide) (gMem fl_X8_78) rfl rfl (tyX8_ok 0 (by decide)) rfl rfl (Nat.le_of_ble_eq_true rfl) rfl (tdec DX8_read 20 rfl) rfl ?_
          refine g_aload_n (z := 0) C (tdec DX8_read 21 rfl) rfl rfl rfl ?_
          refine g_getf (C' := RX8) (T := TX8) (N := 27) (v := .int 0) C 0 0 (gIn iw_X8) rfl rfl (by decide) (gMem fl_X8_78) rfl rfl (tdec DX8_read 22 rfl) rfl ?_
          refine g_if_le (pt := 50) C (tdec DX8_read 23 rfl) (by decide) rfl (fun h59 => ?_) (fun h59 => ?_)
          · have hF := o_ifp hF h59
            refine g_aload_n (z := 0) C (tdec DX8_read 26 rfl) rfl rfl rfl ?_
            refine g_iload_n (z := 1) C (tdec DX8_read 27 rfl) rfl rfl rfl ?_
            refine g_iload_n (z := 2) C (tdec DX8_read 28 rfl) rfl rfl rfl ?_
            refine g_iconst (v := (-1)) C (tdec DX8_read 29 rfl) (by decide) rfl ?_
            refine g_icmp_ne (pt := 61) C (tdec DX8_read 30 rfl) (by decide) rfl (fun _ => ?_) (fun h => absurd h h39)
            refine g_iconst (v := 2) C (tdec DX8_read 33 rfl) (by decide) rfl ?_
            refine g_iload_n (z := 2) C (tdec DX8_read 34 rfl) rfl rfl rfl ?_
            refine g_iadd C (tdec DX8_read 35 rfl) rfl ?_
            refine g_iload_n (z := 3) C (tdec DX8_read 36 rfl) rfl rfl rfl ?_
            obtain ⟨⟨r60, s61⟩, y62, hF⟩ := o_bind hF
            refine g_callViMS (q0 := 0) (W' := wM cB cI cJ cZ x_0 x_1 x_2 x_3 x_4 x_5 x_6 x_7 x_8 x_9 x_10 x_11 x_12 x_13 x_14 x_15 x_16 x_17 x_18 x_19 s61) (S := [wM cB cI cJ cZ x_0 x_1 x_2 x_3 x_4 x_5 x_6 x_7 x_8 x_9 x_10 x_11 x_12 x_13 x_14 x_15 x_16 x_17 x_18 x_19 (MS_setthr x0 0)]) (S0 := [wM cB cI cJ cZ x_0 x_1 x_2 x_3 x_4 x_5 x_6 x_7 x_8 x_9 x_10 x_11 x_12 x_13 x_14 x_15 x_16 x_17 x_18 x_19 (MS_setthr x0 0)]) (S1 := [wM cB cI cJ cZ x_0 x_1 x_2 x_3 x_4 x_5 x_6 x_7 x_8 x_9 x_10 x_11 x_12 x_13 x_14 x_15 x_16 x_17 x_18 x_19 s61]) (S' := [wM cB cI cJ cZ x_0 x_1 x_2 x_3 x_4 x_5 x_6 x_7 x_8 x_9 x_10 x_11 x_12 x_13 x_14 x_15 x_16 x_17 x_18 x_19 s61]) C (c_X8_ways l D cB cI cJ cZ x_0 x_1 x_2 x_3 x_4 x_5 x_6 x_7 x_8 x_9 x_10 x_11 x_12 x_13 x_14 x_15 x_16 x_17 x_18 x_19 y62) rfl rfl (gIV ml_X8_107 im_X8_ways sl_X8_ways in_X8 cd_X8_ways) rfl eX8_ways rfl ⟨rfl, rfl⟩ ⟨Nat.le_of_ble_eq_true rfl, Nat.le_of_ble_eq_true rfl⟩ rfl rfl rfl [0] rfl rfl rfl rfl (gA_cons aM gA_nil) rfl rfl (Nat.le_of_ble_eq_true rfl) (tdec DX8_read 37 rfl) rfl ?_
            refine g_istore (L' := [(4, .int r60), (0, .ref x_0), (1, .int p1), (2, .int p2), (3, .int p3)]) C (tdec DX8_read 38 rfl) (by decide) rfl rfl ?_
            refine g_iload (z := 0) C (tdec DX8_read 39 rfl) rfl rfl ?_
            refine g_iconst (v := 4) C (tdec DX8_read 40 rfl) (by decide) rfl ?_
            refine g_icmp_lt (pt := 91) C (tdec DX8_read 41 rfl) (by decide) rfl (fun h63 => ?_) (fun h63 => ?_)
            · have hF := o_ifp hF h63
              refine g_lconst (v := 0) C (tdec DX8_read 51 rfl) (by decide) rfl ?_
              refine g_goto (pt := 117) C (tdec DX8_read 52 rfl) (by decide) ?_
              have hr9 := o_some hF
              subst hr9
              exact g_lret C rfl rfl (tdec DX8_read 67 rfl)
            · have hF := o_ifn hF h63
              refine g_aload_n (z := 1) C (tdec DX8_read 42 rfl) rfl rfl rfl ?_
              refine g_iload_n (z := 2) C (tdec DX8_read 43 rfl) rfl rfl rfl ?_
              refine g_aload_n (z := 1) C (tdec DX8_read 44 rfl) rfl rfl rfl ?_
              refine g_getf (C' := RX8) (T := TX8) (N := 27) (v := .ref x_19) C 0 25 (gIn iw_X8) rfl rfl (by decide) (gMem fl_X8_71) rfl rfl (tdec DX8_read 45 rfl) rfl ?_
              refine g_iconst (v := 3) C (tdec DX8_read 46 rfl) (by decide) rfl ?_
              obtain ⟨r64, y65, hF⟩ := o_bind hF
              refine g_iald C 19 1 rfl rfl y65 (tdec DX8_read 47 rfl) rfl ?_
              obtain ⟨r66, y67, hF⟩ := o_bind hF
              refine g_callViRS (q0 := 0) (S := [wM cB cI cJ cZ x_0 x_1 x_2 x_3 x_4 x_5 x_6 x_7 x_8 x_9 x_10 x_11 x_12 x_13 x_14 x_15 x_16 x_17 x_18 x_19 s61]) (S0 := [wM cB cI cJ cZ x_0 x_1 x_2 x_3 x_4 x_5 x_6 x_7 x_8 x_9 x_10 x_11 x_12 x_13 x_14 x_15 x_16 x_17 x_18 x_19 s61]) C (c_X8_told l D cB cI cJ cZ x_0 x_1 x_2 x_3 x_4 x_5 x_6 x_7 x_8 x_9 x_10 x_11 x_12 x_13 x_14 x_15 x_16 x_17 x_18 x_19 y67) rfl rfl (gIV ml_X8_90 im_X8_told sl_X8_told in_X8 cd_X8_told) rfl eX8_told rfl ⟨rfl, rfl⟩ ⟨Nat.le_of_ble_eq_true rfl, Nat.le_of_ble_eq_true rfl⟩ rfl rfl rfl [0] rfl rfl rfl (Nat.le_of_ble_eq_true rfl) (tdec DX8_read 48 rfl) rfl ?_
              refine g_iconst (v := (-1)) C (tdec DX8_read 49 rfl) (by decide) rfl ?_
              refine g_icmp_ne (pt := 95) C (tdec DX8_read 50 rfl) (by decide) rfl (fun h68 => ?_) (fun h68 => ?_)
              · have hF := o_ifn hF h68
                refine g_aload_n (z := 1) C (tdec DX8_read 53 rfl) rfl rfl rfl ?_
                refine g_getf (C' := RX8) (T := TX8) (N := 27) (v := .ref x_5) C 0 5 (gIn iw_X8) rfl rfl (by decide) (gMem fl_X8_22) rfl rfl (tdec DX8_read 54 rfl) rfl ?_
                refine g_sipush (v := 600) C (tdec DX8_read 55 rfl) (by decide) rfl ?_
                refine g_iload_n (z := 2) C (tdec DX8_read 56 rfl) rfl rfl rfl ?_
                refine g_imul C (tdec DX8_read 57 rfl) rfl ?_
                refine g_aload_n (z := 1) C (tdec DX8_read 58 rfl) rfl rfl rfl ?_
                refine g_iload_n (z := 2) C (tdec DX8_read 59 rfl) rfl rfl rfl ?_
                refine g_aload_n (z := 1) C (tdec DX8_read 60 rfl) rfl rfl rfl ?_
                refine g_getf (C' := RX8) (T := TX8) (N := 27) (v := .ref x_19) C 0 25 (gIn iw_X8) rfl rfl (by decide) (gMem fl_X8_71) rfl rfl (tdec DX8_read 61 rfl) rfl ?_
                refine g_iconst (v := 3) C (tdec DX8_read 62 rfl) (by decide) rfl ?_
                obtain ⟨r69, y70, hF⟩ := o_bind hF
                refine g_iald C 19 1 rfl rfl y70 (tdec DX8_read 63 rfl) rfl ?_
                obtain ⟨r71, y72, hF⟩ := o_bind hF
                refine g_callViRS (q0 := 0) (S := [wM cB cI cJ cZ x_0 x_1 x_2 x_3 x_4 x_5 x_6 x_7 x_8 x_9 x_10 x_11 x_12 x_13 x_14 x_15 x_16 x_17 x_18 x_19 s61]) (S0 := [wM cB cI cJ cZ x_0 x_1 x_2 x_3 x_4 x_5 x_6 x_7 x_8 x_9 x_10 x_11 x_12 x_13 x_14 x_15 x_16 x_17 x_18 x_19 s61]) C (c_X8_told l D cB cI cJ cZ x_0 x_1 x_2 x_3 x_4 x_5 x_6 x_7 x_8 x_9 x_10 x_11 x_12 x_13 x_14 x_15 x_16 x_17 x_18 x_19 y72) rfl rfl (gIV ml_X8_90 im_X8_told sl_X8_told in_X8 cd_X8_told) rfl eX8_told rfl ⟨rfl, rfl⟩ ⟨Nat.le_of_ble_eq_true rfl, Nat.le_of_ble_eq_true rfl⟩ rfl rfl rfl [0] rfl rfl rfl (Nat.le_of_ble_eq_true rfl) (tdec DX8_read 64 rfl) rfl ?_
                refine g_iadd C (tdec DX8_read 65 rfl) rfl ?_
                obtain ⟨r73, y74, hF⟩ := o_bind hF
                refine g_lald C 5 2 rfl rfl y74 (tdec DX8_read 66 rfl) rfl ?_
                have hr9 := o_some hF
                subst hr9
                exact g_lret C rfl rfl (tdec DX8_read 67 rfl)
              · have hF := o_ifp hF h68
                refine g_lconst (v := 0) C (tdec DX8_read 51 rfl) (by decide) rfl ?_
                refine g_goto (pt := 117) C (tdec DX8_read 52 rfl) (by decide) ?_
                have hr9 := o_some hF
                subst hr9
                exact g_lret C rfl rfl (tdec DX8_read 67 rfl)
          · have hF := o_ifn hF h59
            refine g_lconst (v := 0) C (tdec DX8_read 24 rfl) (by decide) rfl ?_
            have hr9 := o_some hF
            subst hr9
            exact g_lret C rfl rfl (tdec DX8_read 25 rfl)
        · have hF := o_ifp hF h58
          refine g_iconst (v := 2) C (tdec DX8_read 17 rfl) (by decide) rfl ?_
          refine g_goto (pt := 38) C (tdec DX8_read 18 rfl) (by decide) ?_
          refine g_putf (C' := RX8) (T := TX8) (N := 27) (v := .int 2) (ws' := wM cB cI cJ cZ x_0 x_1 x_2 x_3 x_4 x_5 x_6 x_7 x_8 x_9 x_10 x_11 x_12 x_13 x_14 x_15 x_16 x_17 x_18 x_19 (MS_setthr x0 2)) C 0 0 tyX8 tyX8_ok nmX8 (gIn iw_X8) rfl rfl (by decide) (gMem fl_X8_78) rfl rfl (tyX8_ok 0 (by decide)) rfl rfl (Nat.le_of_ble_eq_true rfl) rfl (tdec DX8_read 20 rfl) rfl ?_
          refine g_aload_n (z := 0) C (tdec DX8_read 21 rfl) rfl rfl rfl ?_
          refine g_getf (C' := RX8) (T := TX8) (N := 27) (v := .int 2) C 0 0 (gIn iw_X8) rfl rfl (by decide) (gMem fl_X8_78) rfl rfl (tdec DX8_read 22 rfl) rfl ?_
          refine g_if_le (pt := 50) C (tdec DX8_read 23 rfl) (by decide) rfl (fun h75 => ?_) (fun h75 => ?_)
          · have hF := o_ifp hF h75
            refine g_aload_n (z := 0) C (tdec DX8_read 26 rfl) rfl rfl rfl ?_
            refine g_iload_n (z := 1) C (tdec DX8_read 27 rfl) rfl rfl rfl ?_
            refine g_iload_n (z := 2) C (tdec DX8_read 28 rfl) rfl rfl rfl ?_
            refine g_iconst (v := (-1)) C (tdec DX8_read 29 rfl) (by decide) rfl ?_
            refine g_icmp_ne (pt := 61) C (tdec DX8_read 30 rfl) (by decide) rfl (fun _ => ?_) (fun h => absurd h h39)
            refine g_iconst (v := 2) C (tdec DX8_read 33 rfl) (by decide) rfl ?_
            refine g_iload_n (z := 2) C (tdec DX8_read 34 rfl) rfl rfl rfl ?_
            refine g_iadd C (tdec DX8_read 35 rfl) rfl ?_
            refine g_iload_n (z := 3) C (tdec DX8_read 36 rfl) rfl rfl rfl ?_
            obtain ⟨⟨r76, s77⟩, y78, hF⟩ := o_bind hF
            refine g_callViMS (q0 := 0) (W' := wM cB cI cJ cZ x_0 x_1 x_2 x_3 x_4 x_5 x_6 x_7 x_8 x_9 x_10 x_11 x_12 x_13 x_14 x_15 x_16 x_17 x_18 x_19 s77) (S := [wM cB cI cJ cZ x_0 x_1 x_2 x_3 x_4 x_5 x_6 x_7 x_8 x_9 x_10 x_11 x_12 x_13 x_14 x_15 x_16 x_17 x_18 x_19 (MS_setthr x0 2)]) (S0 := [wM cB cI cJ cZ x_0 x_1 x_2 x_3 x_4 x_5 x_6 x_7 x_8 x_9 x_10 x_11 x_12 x_13 x_14 x_15 x_16 x_17 x_18 x_19 (MS_setthr x0 2)]) (S1 := [wM cB cI cJ cZ x_0 x_1 x_2 x_3 x_4 x_5 x_6 x_7 x_8 x_9 x_10 x_11 x_12 x_13 x_14 x_15 x_16 x_17 x_18 x_19 s77]) (S' := [wM cB cI cJ cZ x_0 x_1 x_2 x_3 x_4 x_5 x_6 x_7 x_8 x_9 x_10 x_11 x_12 x_13 x_14 x_15 x_16 x_17 x_18 x_19 s77]) C (c_X8_ways l D cB cI cJ cZ x_0 x_1 x_2 x_3 x_4 x_5 x_6 x_7 x_8 x_9 x_10 x_11 x_12 x_13 x_14 x_15 x_16 x_17 x_18 x_19 y78) rfl rfl (gIV ml_X8_107 im_X8_ways sl_X8_ways in_X8 cd_X8_ways) rfl eX8_ways rfl ⟨rfl, rfl⟩ ⟨Nat.le_of_ble_eq_true rfl, Nat.le_of_ble_eq_true rfl⟩ rfl rfl rfl [0] rfl rfl rfl rfl (gA_cons aM gA_nil) rfl rfl (Nat.le_of_ble_eq_true rfl) (tdec DX8_read 37 rfl) rfl ?_
            refine g_istore (L' := [(4, .int r76), (0, .ref x_0), (1, .int p1), (2, .int p2), (3, .int p3)]) C (tdec DX8_read 38 rfl) (by decide) rfl rfl ?_
            refine g_iload (z := 0) C (tdec DX8_read 39 rfl) rfl rfl ?_
            refine g_iconst (v := 4) C (tdec DX8_read 40 rfl) (by decide) rfl ?_
            refine g_icmp_lt (pt := 91) C (tdec DX8_read 41 rfl) (by decide) rfl (fun h79 => ?_) (fun h79 => ?_)
            · have hF := o_ifp hF h79
              refine g_lconst (v := 0) C (tdec DX8_read 51 rfl) (by decide) rfl ?_
              refine g_goto (pt := 117) C (tdec DX8_read 52 rfl) (by decide) ?_
              have hr9 := o_some hF
              subst hr9
              exact g_lret C rfl rfl (tdec DX8_read 67 rfl)
            · have hF := o_ifn hF h79
              refine g_aload_n (z := 1) C (tdec DX8_read 42 rfl) rfl rfl rfl ?_
              refine g_iload_n (z := 2) C (tdec DX8_read 43 rfl) rfl rfl rfl ?_
              refine g_aload_n (z := 1) C (tdec DX8_read 44 rfl) rfl rfl rfl ?_
              refine g_getf (C' := RX8) (T := TX8) (N := 27) (v := .ref x_19) C 0 25 (gIn iw_X8) rfl rfl (by decide) (gMem fl_X8_71) rfl rfl (tdec DX8_read 45 rfl) rfl ?_
              refine g_iconst (v := 3) C (tdec DX8_read 46 rfl) (by decide) rfl ?_
              obtain ⟨r80, y81, hF⟩ := o_bind hF
              refine g_iald C 19 1 rfl rfl y81 (tdec DX8_read 47 rfl) rfl ?_
              obtain ⟨r82, y83, hF⟩ := o_bind hF
              refine g_callViRS (q0 := 0) (S := [wM cB cI cJ cZ x_0 x_1 x_2 x_3 x_4 x_5 x_6 x_7 x_8 x_9 x_10 x_11 x_12 x_13 x_14 x_15 x_16 x_17 x_18 x_19 s77]) (S0 := [wM cB cI cJ cZ x_0 x_1 x_2 x_3 x_4 x_5 x_6 x_7 x_8 x_9 x_10 x_11 x_12 x_13 x_14 x_15 x_16 x_17 x_18 x_19 s77]) C (c_X8_told l D cB cI cJ cZ x_0 x_1 x_2 x_3 x_4 x_5 x_6 x_7 x_8 x_9 x_10 x_11 x_12 x_13 x_14 x_15 x_16 x_17 x_18 x_19 y83) rfl rfl (gIV ml_X8_90 im_X8_told sl_X8_told in_X8 cd_X8_told) rfl eX8_told rfl ⟨rfl, rfl⟩ ⟨Nat.le_of_ble_eq_true rfl, Nat.le_of_ble_eq_true rfl⟩ rfl rfl rfl [0] rfl rfl rfl (Nat.le_of_ble_eq_true rfl) (tdec DX8_read 48 rfl) rfl ?_
              refine g_iconst (v := (-1)) C (tdec DX8_read 49 rfl) (by decide) rfl ?_
              refine g_icmp_ne (pt := 95) C (tdec DX8_read 50 rfl) (by decide) rfl (fun h84 => ?_) (fun h84 => ?_)
              · have hF := o_ifn hF h84
                refine g_aload_n (z := 1) C (tdec DX8_read 53 rfl) rfl rfl rfl ?_
                refine g_getf (C' := RX8) (T := TX8) (N := 27) (v := .ref x_5) C 0 5 (gIn iw_X8) rfl rfl (by decide) (gMem fl_X8_22) rfl rfl (tdec DX8_read 54 rfl) rfl ?_
                refine g_sipush (v := 600) C (tdec DX8_read 55 rfl) (by decide) rfl ?_
                refine g_iload_n (z := 2) C (tdec DX8_read 56 rfl) rfl rfl rfl ?_
                refine g_imul C (tdec DX8_read 57 rfl) rfl ?_
                refine g_aload_n (z := 1) C (tdec DX8_read 58 rfl) rfl rfl rfl ?_
                refine g_iload_n (z := 2) C (tdec DX8_read 59 rfl) rfl rfl rfl ?_
                refine g_aload_n (z := 1) C (tdec DX8_read 60 rfl) rfl rfl rfl ?_
                refine g_getf (C' := RX8) (T := TX8) (N := 27) (v := .ref x_19) C 0 25 (gIn iw_X8) rfl rfl (by decide) (gMem fl_X8_71) rfl rfl (tdec DX8_read 61 rfl) rfl ?_
                refine g_iconst (v := 3) C (tdec DX8_read 62 rfl) (by decide) rfl ?_
                obtain ⟨r85, y86, hF⟩ := o_bind hF
                refine g_iald C 19 1 rfl rfl y86 (tdec DX8_read 63 rfl) rfl ?_
                obtain ⟨r87, y88, hF⟩ := o_bind hF
                refine g_callViRS (q0 := 0) (S := [wM cB cI cJ cZ x_0 x_1 x_2 x_3 x_4 x_5 x_6 x_7 x_8 x_9 x_10 x_11 x_12 x_13 x_14 x_15 x_16 x_17 x_18 x_19 s77]) (S0 := [wM cB cI cJ cZ x_0 x_1 x_2 x_3 x_4 x_5 x_6 x_7 x_8 x_9 x_10 x_11 x_12 x_13 x_14 x_15 x_16 x_17 x_18 x_19 s77]) C (c_X8_told l D cB cI cJ cZ x_0 x_1 x_2 x_3 x_4 x_5 x_6 x_7 x_8 x_9 x_10 x_11 x_12 x_13 x_14 x_15 x_16 x_17 x_18 x_19 y88) rfl rfl (gIV ml_X8_90 im_X8_told sl_X8_told in_X8 cd_X8_told) rfl eX8_told rfl ⟨rfl, rfl⟩ ⟨Nat.le_of_ble_eq_true rfl, Nat.le_of_ble_eq_true rfl⟩ rfl rfl rfl [0] rfl rfl rfl (Nat.le_of_ble_eq_true rfl) (tdec DX8_read 64 rfl) rfl ?_
                refine g_iadd C (tdec DX8_read 65 rfl) rfl ?_
                obtain ⟨r89, y90, hF⟩ := o_bind hF
                refine g_lald C 5 2 rfl rfl y90 (tdec DX8_read 66 rfl) rfl ?_
                have hr9 := o_some hF
                subst hr9
                exact g_lret C rfl rfl (tdec DX8_read 67 rfl)
              · have hF := o_ifp hF h84
                refine g_lconst (v := 0) C (tdec DX8_read 51 rfl) (by decide) rfl ?_
                refine g_goto (pt := 117) C (tdec DX8_read 52 rfl) (by decide) ?_
                have hr9 := o_some hF
                subst hr9
                exact g_lret C rfl rfl (tdec DX8_read 67 rfl)
          · have hF := o_ifn hF h75
            refine g_lconst (v := 0) C (tdec DX8_read 24 rfl) (by decide) rfl ?_
            have hr9 := o_some hF
            subst hr9
            exact g_lret C rfl rfl (tdec DX8_read 25 rfl)
    · have hF := o_ifp hF h38
      refine g_iconst (v := 1) C (tdec DX8_read 7 rfl) (by decide) rfl ?_
      refine g_goto (pt := 38) C (tdec DX8_read 8 rfl) (by decide) ?_
      refine g_putf (C' := RX8) (T := TX8) (N := 27) (v := .int 1) (ws' := wM cB cI cJ cZ x_0 x_1 x_2 x_3 x_4 x_5 x_6 x_7 x_8 x_9 x_10 x_11 x_12 x_13 x_14 x_15 x_16 x_17 x_18 x_19 (MS_setthr x0 1)) C 0 0 tyX8 tyX8_ok nmX8 (gIn iw_X8) rfl rfl (by decide) (gMem fl_X8_78) rfl rfl (tyX8_ok 0 (by decide)) rfl rfl (Nat.le_of_ble_eq_true rfl) rfl (tdec DX8_read 20 rfl) rfl ?_
      refine g_aload_n (z := 0) C (tdec DX8_read 21 rfl) rfl rfl rfl ?_
      refine g_getf (C' := RX8) (T := TX8) (N := 27) (v := .int 1) C 0 0 (gIn iw_X8) rfl rfl (by decide) (gMem fl_X8_78) rfl rfl (tdec DX8_read 22 rfl) rfl ?_
      refine g_if_le (pt := 50) C (tdec DX8_read 23 rfl) (by decide) rfl (fun h91 => ?_) (fun h91 => ?_)
      · have hF := o_ifp hF h91
        refine g_aload_n (z := 0) C (tdec DX8_read 26 rfl) rfl rfl rfl ?_
        refine g_iload_n (z := 1) C (tdec DX8_read 27 rfl) rfl rfl rfl ?_
        refine g_iload_n (z := 2) C (tdec DX8_read 28 rfl) rfl rfl rfl ?_
        refine g_iconst (v := (-1)) C (tdec DX8_read 29 rfl) (by decide) rfl ?_
        refine g_icmp_ne (pt := 61) C (tdec DX8_read 30 rfl) (by decide) rfl (fun h92 => ?_) (fun h92 => ?_)
        · have hF := o_ifn hF h92
          refine g_iconst (v := 2) C (tdec DX8_read 33 rfl) (by decide) rfl ?_
          refine g_iload_n (z := 2) C (tdec DX8_read 34 rfl) rfl rfl rfl ?_
          refine g_iadd C (tdec DX8_read 35 rfl) rfl ?_
          refine g_iload_n (z := 3) C (tdec DX8_read 36 rfl) rfl rfl rfl ?_
          obtain ⟨⟨r93, s94⟩, y95, hF⟩ := o_bind hF
          refine g_callViMS (q0 := 0) (W' := wM cB cI cJ cZ x_0 x_1 x_2 x_3 x_4 x_5 x_6 x_7 x_8 x_9 x_10 x_11 x_12 x_13 x_14 x_15 x_16 x_17 x_18 x_19 s94) (S := [wM cB cI cJ cZ x_0 x_1 x_2 x_3 x_4 x_5 x_6 x_7 x_8 x_9 x_10 x_11 x_12 x_13 x_14 x_15 x_16 x_17 x_18 x_19 (MS_setthr x0 1)]) (S0 := [wM cB cI cJ cZ x_0 x_1 x_2 x_3 x_4 x_5 x_6 x_7 x_8 x_9 x_10 x_11 x_12 x_13 x_14 x_15 x_16 x_17 x_18 x_19 (MS_setthr x0 1)]) (S1 := [wM cB cI cJ cZ x_0 x_1 x_2 x_3 x_4 x_5 x_6 x_7 x_8 x_9 x_10 x_11 x_12 x_13 x_14 x_15 x_16 x_17 x_18 x_19 s94]) (S' := [wM cB cI cJ cZ x_0 x_1 x_2 x_3 x_4 x_5 x_6 x_7 x_8 x_9 x_10 x_11 x_12 x_13 x_14 x_15 x_16 x_17 x_18 x_19 s94]) C (c_X8_ways l D cB cI cJ cZ x_0 x_1 x_2 x_3 x_4 x_5 x_6 x_7 x_8 x_9 x_10 x_11 x_12 x_13 x_14 x_15 x_16 x_17 x_18 x_19 y95) rfl rfl (gIV ml_X8_107 im_X8_ways sl_X8_ways in_X8 cd_X8_ways) rfl eX8_ways rfl ⟨rfl, rfl⟩ ⟨Nat.le_of_ble_eq_true rfl, Nat.le_of_ble_eq_true rfl⟩ rfl rfl rfl [0] rfl rfl rfl rfl (gA_cons aM gA_nil) rfl rfl (Nat.le_of_ble_eq_true rfl) (tdec DX8_read 37 rfl) rfl ?_
          refine g_istore (L' := [(4, .int r93), (0, .ref x_0), (1, .int p1), (2, .int p2), (3, .int p3)]) C (tdec DX8_read 38 rfl) (by decide) rfl rfl ?_
          refine g_iload (z := 0) C (tdec DX8_read 39 rfl) rfl rfl ?_
          refine g_iconst (v := 4) C (tdec DX8_read 40 rfl) (by decide) rfl ?_
          refine g_icmp_lt (pt := 91) C (tdec DX8_read 41 rfl) (by decide) rfl (fun h96 => ?_) (fun h96 => ?_)
          · have hF := o_ifp hF h96
            refine g_lconst (v := 0) C (tdec DX8_read 51 rfl) (by decide) rfl ?_
            refine g_goto (pt := 117) C (tdec DX8_read 52 rfl) (by decide) ?_
            have hr9 := o_some hF
            subst hr9
            exact g_lret C rfl rfl (tdec DX8_read 67 rfl)
          · have hF := o_ifn hF h96
            refine g_aload_n (z := 1) C (tdec DX8_read 42 rfl) rfl rfl rfl ?_
            refine g_iload_n (z := 2) C (tdec DX8_read 43 rfl) rfl rfl rfl ?_
            refine g_aload_n (z := 1) C (tdec DX8_read 44 rfl) rfl rfl rfl ?_
            refine g_getf (C' := RX8) (T := TX8) (N := 27) (v := .ref x_19) C 0 25 (gIn iw_X8) rfl rfl (by decide) (gMem fl_X8_71) rfl rfl (tdec DX8_read 45 rfl) rfl ?_
            refine g_iconst (v := 3) C (tdec DX8_read 46 rfl) (by decide) rfl ?_
            obtain ⟨r97, y98, hF⟩ := o_bind hF
            refine g_iald C 19 1 rfl rfl y98 (tdec DX8_read 47 rfl) rfl ?_
            obtain ⟨r99, y100, hF⟩ := o_bind hF
            refine g_callViRS (q0 := 0) (S := [wM cB cI cJ cZ x_0 x_1 x_2 x_3 x_4 x_5 x_6 x_7 x_8 x_9 x_10 x_11 x_12 x_13 x_14 x_15 x_16 x_17 x_18 x_19 s94]) (S0 := [wM cB cI cJ cZ x_0 x_1 x_2 x_3 x_4 x_5 x_6 x_7 x_8 x_9 x_10 x_11 x_12 x_13 x_14 x_15 x_16 x_17 x_18 x_19 s94]) C (c_X8_told l D cB cI cJ cZ x_0 x_1 x_2 x_3 x_4 x_5 x_6 x_7 x_8 x_9 x_10 x_11 x_12 x_13 x_14 x_15 x_16 x_17 x_18 x_19 y100) rfl rfl (gIV ml_X8_90 im_X8_told sl_X8_told in_X8 cd_X8_told) rfl eX8_told rfl ⟨rfl, rfl⟩ ⟨Nat.le_of_ble_eq_true rfl, Nat.le_of_ble_eq_true rfl⟩ rfl rfl rfl [0] rfl rfl rfl (Nat.le_of_ble_eq_true rfl) (tdec DX8_read 48 rfl) rfl ?_
            refine g_iconst (v := (-1)) C (tdec DX8_read 49 rfl) (by decide) rfl ?_
            refine g_icmp_ne (pt := 95) C (tdec DX8_read 50 rfl) (by decide) rfl (fun h101 => ?_) (fun h101 => ?_)
            · have hF := o_ifn hF h101
              refine g_aload_n (z := 1) C (tdec DX8_read 53 rfl) rfl rfl rfl ?_
              refine g_getf (C' := RX8) (T := TX8) (N := 27) (v := .ref x_5) C 0 5 (gIn iw_X8) rfl rfl (by decide) (gMem fl_X8_22) rfl rfl (tdec DX8_read 54 rfl) rfl ?_
              refine g_sipush (v := 600) C (tdec DX8_read 55 rfl) (by decide) rfl ?_
              refine g_iload_n (z := 2) C (tdec DX8_read 56 rfl) rfl rfl rfl ?_
              refine g_imul C (tdec DX8_read 57 rfl) rfl ?_
              refine g_aload_n (z := 1) C (tdec DX8_read 58 rfl) rfl rfl rfl ?_
              refine g_iload_n (z := 2) C (tdec DX8_read 59 rfl) rfl rfl rfl ?_
              refine g_aload_n (z := 1) C (tdec DX8_read 60 rfl) rfl rfl rfl ?_
              refine g_getf (C' := RX8) (T := TX8) (N := 27) (v := .ref x_19) C 0 25 (gIn iw_X8) rfl rfl (by decide) (gMem fl_X8_71) rfl rfl (tdec DX8_read 61 rfl) rfl ?_
              refine g_iconst (v := 3) C (tdec DX8_read 62 rfl) (by decide) rfl ?_
              obtain ⟨r102, y103, hF⟩ := o_bind hF
              refine g_iald C 19 1 rfl rfl y103 (tdec DX8_read 63 rfl) rfl ?_
              obtain ⟨r104, y105, hF⟩ := o_bind hF
              refine g_callViRS (q0 := 0) (S := [wM cB cI cJ cZ x_0 x_1 x_2 x_3 x_4 x_5 x_6 x_7 x_8 x_9 x_10 x_11 x_12 x_13 x_14 x_15 x_16 x_17 x_18 x_19 s94]) (S0 := [wM cB cI cJ cZ x_0 x_1 x_2 x_3 x_4 x_5 x_6 x_7 x_8 x_9 x_10 x_11 x_12 x_13 x_14 x_15 x_16 x_17 x_18 x_19 s94]) C (c_X8_told l D cB cI cJ cZ x_0 x_1 x_2 x_3 x_4 x_5 x_6 x_7 x_8 x_9 x_10 x_11 x_12 x_13 x_14 x_15 x_16 x_17 x_18 x_19 y105) rfl rfl (gIV ml_X8_90 im_X8_told sl_X8_told in_X8 cd_X8_told) rfl eX8_told rfl ⟨rfl, rfl⟩ ⟨Nat.le_of_ble_eq_true rfl, Nat.le_of_ble_eq_true rfl⟩ rfl rfl rfl [0] rfl rfl rfl (Nat.le_of_ble_eq_true rfl) (tdec DX8_read 64 rfl) rfl ?_
              refine g_iadd C (tdec DX8_read 65 rfl) rfl ?_
              obtain ⟨r106, y107, hF⟩ := o_bind hF
              refine g_lald C 5 2 rfl rfl y107 (tdec DX8_read 66 rfl) rfl ?_
              have hr9 := o_some hF
              subst hr9
              exact g_lret C rfl rfl (tdec DX8_read 67 rfl)
            · have hF := o_ifp hF h101
              refine g_lconst (v := 0) C (tdec DX8_read 51 rfl) (by decide) rfl ?_
              refine g_goto (pt := 117) C (tdec DX8_read 52 rfl) (by decide) ?_
              have hr9 := o_some hF
              subst hr9
              exact g_lret C rfl rfl (tdec DX8_read 67 rfl)
        · have hF := o_ifp hF h92
          refine g_iconst (v := 0) C (tdec DX8_read 31 rfl) (by decide) rfl ?_
          refine g_goto (pt := 64) C (tdec DX8_read 32 rfl) (by decide) ?_
          refine g_iload_n (z := 3) C (tdec DX8_read 36 rfl) rfl rfl rfl ?_
          obtain ⟨⟨r108, s109⟩, y110, hF⟩ := o_bind hF
          refine g_callViMS (q0 := 0) (W' := wM cB cI cJ cZ x_0 x_1 x_2 x_3 x_4 x_5 x_6 x_7 x_8 x_9 x_10 x_11 x_12 x_13 x_14 x_15 x_16 x_17 x_18 x_19 s109) (S := [wM cB cI cJ cZ x_0 x_1 x_2 x_3 x_4 x_5 x_6 x_7 x_8 x_9 x_10 x_11 x_12 x_13 x_14 x_15 x_16 x_17 x_18 x_19 (MS_setthr x0 1)]) (S0 := [wM cB cI cJ cZ x_0 x_1 x_2 x_3 x_4 x_5 x_6 x_7 x_8 x_9 x_10 x_11 x_12 x_13 x_14 x_15 x_16 x_17 x_18 x_19 (MS_setthr x0 1)]) (S1 := [wM cB cI cJ cZ x_0 x_1 x_2 x_3 x_4 x_5 x_6 x_7 x_8 x_9 x_10 x_11 x_12 x_13 x_14 x_15 x_16 x_17 x_18 x_19 s109]) (S' := [wM cB cI cJ cZ x_0 x_1 x_2 x_3 x_4 x_5 x_6 x_7 x_8 x_9 x_10 x_11 x_12 x_13 x_14 x_15 x_16 x_17 x_18 x_19 s109]) C (c_X8_ways l D cB cI cJ cZ x_0 x_1 x_2 x_3 x_4 x_5 x_6 x_7 x_8 x_9 x_10 x_11 x_12 x_13 x_14 x_15 x_16 x_17 x_18 x_19 y110) rfl rfl (gIV ml_X8_107 im_X8_ways sl_X8_ways in_X8 cd_X8_ways) rfl eX8_ways rfl ⟨rfl, rfl⟩ ⟨Nat.le_of_ble_eq_true rfl, Nat.le_of_ble_eq_true rfl⟩ rfl rfl rfl [0] rfl rfl rfl rfl (gA_cons aM gA_nil) rfl rfl (Nat.le_of_ble_eq_true rfl) (tdec DX8_read 37 rfl) rfl ?_
          refine g_istore (L' := [(4, .int r108), (0, .ref x_0), (1, .int p1), (2, .int p2), (3, .int p3)]) C (tdec DX8_read 38 rfl) (by decide) rfl rfl ?_
          refine g_iload (z := 0) C (tdec DX8_read 39 rfl) rfl rfl ?_
          refine g_iconst (v := 4) C (tdec DX8_read 40 rfl) (by decide) rfl ?_
          refine g_icmp_lt (pt := 91) C (tdec DX8_read 41 rfl) (by decide) rfl (fun h111 => ?_) (fun h111 => ?_)
          · have hF := o_ifp hF h111
            refine g_lconst (v := 0) C (tdec DX8_read 51 rfl) (by decide) rfl ?_
            refine g_goto (pt := 117) C (tdec DX8_read 52 rfl) (by decide) ?_
            have hr9 := o_some hF
            subst hr9
            exact g_lret C rfl rfl (tdec DX8_read 67 rfl)
          · have hF := o_ifn hF h111
            refine g_aload_n (z := 1) C (tdec DX8_read 42 rfl) rfl rfl rfl ?_
            refine g_iload_n (z := 2) C (tdec DX8_read 43 rfl) rfl rfl rfl ?_
            refine g_aload_n (z := 1) C (tdec DX8_read 44 rfl) rfl rfl rfl ?_
            refine g_getf (C' := RX8) (T := TX8) (N := 27) (v := .ref x_19) C 0 25 (gIn iw_X8) rfl rfl (by decide) (gMem fl_X8_71) rfl rfl (tdec DX8_read 45 rfl) rfl ?_
            refine g_iconst (v := 3) C (tdec DX8_read 46 rfl) (by decide) rfl ?_
            obtain ⟨r112, y113, hF⟩ := o_bind hF
            refine g_iald C 19 1 rfl rfl y113 (tdec DX8_read 47 rfl) rfl ?_
            obtain ⟨r114, y115, hF⟩ := o_bind hF
            refine g_callViRS (q0 := 0) (S := [wM cB cI cJ cZ x_0 x_1 x_2 x_3 x_4 x_5 x_6 x_7 x_8 x_9 x_10 x_11 x_12 x_13 x_14 x_15 x_16 x_17 x_18 x_19 s109]) (S0 := [wM cB cI cJ cZ x_0 x_1 x_2 x_3 x_4 x_5 x_6 x_7 x_8 x_9 x_10 x_11 x_12 x_13 x_14 x_15 x_16 x_17 x_18 x_19 s109]) C (c_X8_told l D cB cI cJ cZ x_0 x_1 x_2 x_3 x_4 x_5 x_6 x_7 x_8 x_9 x_10 x_11 x_12 x_13 x_14 x_15 x_16 x_17 x_18 x_19 y115) rfl rfl (gIV ml_X8_90 im_X8_told sl_X8_told in_X8 cd_X8_told) rfl eX8_told rfl ⟨rfl, rfl⟩ ⟨Nat.le_of_ble_eq_true rfl, Nat.le_of_ble_eq_true rfl⟩ rfl rfl rfl [0] rfl rfl rfl (Nat.le_of_ble_eq_true rfl) (tdec DX8_read 48 rfl) rfl ?_
            refine g_iconst (v := (-1)) C (tdec DX8_read 49 rfl) (by decide) rfl ?_
            refine g_icmp_ne (pt := 95) C (tdec DX8_read 50 rfl) (by decide) rfl (fun h116 => ?_) (fun h116 => ?_)
            · have hF := o_ifn hF h116
              refine g_aload_n (z := 1) C (tdec DX8_read 53 rfl) rfl rfl rfl ?_
              refine g_getf (C' := RX8) (T := TX8) (N := 27) (v := .ref x_5) C 0 5 (gIn iw_X8) rfl rfl (by decide) (gMem fl_X8_22) rfl rfl (tdec DX8_read 54 rfl) rfl ?_
              refine g_sipush (v := 600) C (tdec DX8_read 55 rfl) (by decide) rfl ?_
              refine g_iload_n (z := 2) C (tdec DX8_read 56 rfl) rfl rfl rfl ?_
              refine g_imul C (tdec DX8_read 57 rfl) rfl ?_
              refine g_aload_n (z := 1) C (tdec DX8_read 58 rfl) rfl rfl rfl ?_
              refine g_iload_n (z := 2) C (tdec DX8_read 59 rfl) rfl rfl rfl ?_
              refine g_aload_n (z := 1) C (tdec DX8_read 60 rfl) rfl rfl rfl ?_
              refine g_getf (C' := RX8) (T := TX8) (N := 27) (v := .ref x_19) C 0 25 (gIn iw_X8) rfl rfl (by decide) (gMem fl_X8_71) rfl rfl (tdec DX8_read 61 rfl) rfl ?_
              refine g_iconst (v := 3) C (tdec DX8_read 62 rfl) (by decide) rfl ?_
              obtain ⟨r117, y118, hF⟩ := o_bind hF
              refine g_iald C 19 1 rfl rfl y118 (tdec DX8_read 63 rfl) rfl ?_
              obtain ⟨r119, y120, hF⟩ := o_bind hF
              refine g_callViRS (q0 := 0) (S := [wM cB cI cJ cZ x_0 x_1 x_2 x_3 x_4 x_5 x_6 x_7 x_8 x_9 x_10 x_11 x_12 x_13 x_14 x_15 x_16 x_17 x_18 x_19 s109]) (S0 := [wM cB cI cJ cZ x_0 x_1 x_2 x_3 x_4 x_5 x_6 x_7 x_8 x_9 x_10 x_11 x_12 x_13 x_14 x_15 x_16 x_17 x_18 x_19 s109]) C (c_X8_told l D cB cI cJ cZ x_0 x_1 x_2 x_3 x_4 x_5 x_6 x_7 x_8 x_9 x_10 x_11 x_12 x_13 x_14 x_15 x_16 x_17 x_18 x_19 y120) rfl rfl (gIV ml_X8_90 im_X8_told sl_X8_told in_X8 cd_X8_told) rfl eX8_told rfl ⟨rfl, rfl⟩ ⟨Nat.le_of_ble_eq_true rfl, Nat.le_of_ble_eq_true rfl⟩ rfl rfl rfl [0] rfl rfl rfl (Nat.le_of_ble_eq_true rfl) (tdec DX8_read 64 rfl) rfl ?_
              refine g_iadd C (tdec DX8_read 65 rfl) rfl ?_
              obtain ⟨r121, y122, hF⟩ := o_bind hF
              refine g_lald C 5 2 rfl rfl y122 (tdec DX8_read 66 rfl) rfl ?_
              have hr9 := o_some hF
              subst hr9
              exact g_lret C rfl rfl (tdec DX8_read 67 rfl)
            · have hF := o_ifp hF h116
              refine g_lconst (v := 0) C (tdec DX8_read 51 rfl) (by decide) rfl ?_
              refine g_goto (pt := 117) C (tdec DX8_read 52 rfl) (by decide) ?_
              have hr9 := o_some hF
              subst hr9
              exact g_lret C rfl rfl (tdec DX8_read 67 rfl)
      · have hF := o_ifn hF h91
        refine g_lconst (v := 0) C (tdec DX8_read 24 rfl) (by decide) rfl ?_
        have hr9 := o_some hF
        subst hr9
        exact g_lret C rfl rfl (tdec DX8_read 25 rfl)
def FX8_snaps (x0 : MS) (p1 : Int32) (p2 : Int32) (p3 : Int64) : Option (MS) :=
  (ald 2 (MS_snaps x0) p1).bind fun r1 =>
  (ald 44 (MS_tt x0) ((22 * p1) + p2)).bind fun r3 =>
  (ast 44 (MS_tt x0) (((22 * p1) + 2) + r1) r3).bind fun g5 =>
  (ald 44 (MS_tb x0) ((22 * p1) + p2)).bind fun r7 =>
  (ast 44 (MS_tb x0) (((22 * p1) + 2) + r1) r7).bind fun g9 =>
  (ald 2 (MS_gen x0) p1).bind fun r11 =>
  (ast 40 (MS_sg x0) ((20 * p1) + r1) r11).bind fun g13 =>
  (lst 40 (MS_sm x0) ((20 * p1) + r1) p3).bind fun g15 =>
  (ald 2 (MS_snaps x0) p1).bind fun r17 =>
  (ast 2 (MS_snaps x0) p1 (r17 + 1)).bind fun g19 =>
  (ald 2 (MS_gen x0) p1).bind fun r21 =>
  (ast 2 (MS_gen x0) p1 (r21 + 1)).bind fun g23 =>
  some (MS_setgen (MS_setsnaps (MS_setsm (MS_setsg (MS_settb (MS_settt x0 g5) g9) g13) g15) g19) g23)
def rX8_snaps : Room := { frames := 0, cells := 0, slots := 0, locals := 0 }
set_option maxHeartbeats 4000000 in
set_option maxRecDepth 100000 in
theorem c_X8_snaps (l : Launch) (D : va_G) (cB cI cJ cZ : ClassId) (x_0 x_1 x_2 x_3 x_4 x_5 x_6 x_7 x_8 x_9 x_10 x_11 x_12 x_13 x_14 x_15 x_16 x_17 x_18 x_19 : Nat) {x0 : MS} {p1 : Int32} {p2 : Int32} {p3 : Int64} {res : MS} (hF : FX8_snaps x0 p1 p2 p3 = some res) : gMv l yX8_snaps wsX8_snaps rX8_snaps D (gT cB cI cJ cZ) [.ref x_0, .int p1, .int p2, .long p3] (wM cB cI cJ cZ x_0 x_1 x_2 x_3 x_4 x_5 x_6 x_7 x_8 x_9 x_10 x_11 x_12 x_13 x_14 x_15 x_16 x_17 x_18 x_19 x0) (wM cB cI cJ cZ x_0 x_1 x_2 x_3 x_4 x_5 x_6 x_7 x_8 x_9 x_10 x_11 x_12 x_13 x_14 x_15 x_16 x_17 x_18 x_19 res) := by
  refine g_enter (own := RX8) (free := (fun sz => va_A (wM cB cI cJ cZ x_0 x_1 x_2 x_3 x_4 x_5 x_6 x_7 x_8 x_9 x_10 x_11 x_12 x_13 x_14 x_15 x_16 x_17 x_18 x_19 x0) sz)) (Qc := (fun sz => gQv D (wM cB cI cJ cZ x_0 x_1 x_2 x_3 x_4 x_5 x_6 x_7 x_8 x_9 x_10 x_11 x_12 x_13 x_14 x_15 x_16 x_17 x_18 x_19 x0) sz (wM cB cI cJ cZ x_0 x_1 x_2 x_3 x_4 x_5 x_6 x_7 x_8 x_9 x_10 x_11 x_12 x_13 x_14 x_15 x_16 x_17 x_18 x_19 res))) (fun sz => va_A (wM cB cI cJ cZ x_0 x_1 x_2 x_3 x_4 x_5 x_6 x_7 x_8 x_9 x_10 x_11 x_12 x_13 x_14 x_15 x_16 x_17 x_18 x_19 x0) sz) (fun sz => Or.inr rfl) rfl (by decide) rfl (Nat.le_of_ble_eq_true rfl) rfl ?_
  intro p e s m args below meth c C
  unfold FX8_snaps at hF
  refine g_aload_n (z := 0) C (tdec DX8_snaps 0 rfl) rfl rfl rfl ?_
  refine g_getf (C' := RX8) (T := TX8) (N := 27) (v := .ref x_10) C 0 10 (gIn iw_X8) rfl rfl (by decide) (gMem fl_X8_39) rfl rfl (tdec DX8_snaps 1 rfl) rfl ?_
  refine g_iload_n (z := 1) C (tdec DX8_snaps 2 rfl) rfl rfl rfl ?_
  obtain ⟨r1, y2, hF⟩ := o_bind hF
  refine g_iald C 10 1 rfl rfl y2 (tdec DX8_snaps 3 rfl) rfl ?_
  refine g_istore (L' := [(5, .int r1), (0, .ref x_0), (1, .int p1), (2, .int p2), (3, .long p3)]) C (tdec DX8_snaps 4 rfl) (by decide) rfl rfl ?_
  refine g_aload_n (z := 1) C (tdec DX8_snaps 5 rfl) rfl rfl rfl ?_
  refine g_getf (C' := RX8) (T := TX8) (N := 27) (v := .ref x_7) C 0 7 (gIn iw_X8) rfl rfl (by decide) (gMem fl_X8_30) rfl rfl (tdec DX8_snaps 6 rfl) rfl ?_
  refine g_bipush (v := 22) C (tdec DX8_snaps 7 rfl) (by decide) rfl ?_
  refine g_iload_n (z := 2) C (tdec DX8_snaps 8 rfl) rfl rfl rfl ?_
  refine g_imul C (tdec DX8_snaps 9 rfl) rfl ?_
  refine g_iconst (v := 2) C (tdec DX8_snaps 10 rfl) (by decide) rfl ?_
  refine g_iadd C (tdec DX8_snaps 11 rfl) rfl ?_
  refine g_iload (z := 0) C (tdec DX8_snaps 12 rfl) rfl rfl ?_
  refine g_iadd C (tdec DX8_snaps 13 rfl) rfl ?_
  refine g_aload_n (z := 1) C (tdec DX8_snaps 14 rfl) rfl rfl rfl ?_
  refine g_getf (C' := RX8) (T := TX8) (N := 27) (v := .ref x_7) C 0 7 (gIn iw_X8) rfl rfl (by decide) (gMem fl_X8_30) rfl rfl (tdec DX8_snaps 15 rfl) rfl ?_
  refine g_bipush (v := 22) C (tdec DX8_snaps 16 rfl) (by decide) rfl ?_
  refine g_iload_n (z := 2) C (tdec DX8_snaps 17 rfl) rfl rfl rfl ?_
  refine g_imul C (tdec DX8_snaps 18 rfl) rfl ?_
  refine g_iload_n (z := 3) C (tdec DX8_snaps 19 rfl) rfl rfl rfl ?_
  refine g_iadd C (tdec DX8_snaps 20 rfl) rfl ?_
  obtain ⟨r3, y4, hF⟩ := o_bind hF
  refine g_iald C 7 1 rfl rfl y4 (tdec DX8_snaps 21 rfl) rfl ?_
  obtain ⟨g5, y6, hF⟩ := o_bind hF
  refine g_iast (ws' := wM cB cI cJ cZ x_0 x_1 x_2 x_3 x_4 x_5 x_6 x_7 x_8 x_9 x_10 x_11 x_12 x_13 x_14 x_15 x_16 x_17 x_18 x_19 (MS_settt x0 g5)) C 7 1 rfl rfl y6 rfl (tdec DX8_snaps 22 rfl) rfl ?_
  refine g_aload_n (z := 1) C (tdec DX8_snaps 23 rfl) rfl rfl rfl ?_
  refine g_getf (C' := RX8) (T := TX8) (N := 27) (v := .ref x_8) C 0 8 (gIn iw_X8) rfl rfl (by decide) (gMem fl_X8_33) rfl rfl (tdec DX8_snaps 24 rfl) rfl ?_
  refine g_bipush (v := 22) C (tdec DX8_snaps 25 rfl) (by decide) rfl ?_
  refine g_iload_n (z := 2) C (tdec DX8_snaps 26 rfl) rfl rfl rfl ?_
  refine g_imul C (tdec DX8_snaps 27 rfl) rfl ?_
  refine g_iconst (v := 2) C (tdec DX8_snaps 28 rfl) (by decide) rfl ?_
  refine g_iadd C (tdec DX8_snaps 29 rfl) rfl ?_
  refine g_iload (z := 0) C (tdec DX8_snaps 30 rfl) rfl rfl ?_
  refine g_iadd C (tdec DX8_snaps 31 rfl) rfl ?_
  refine g_aload_n (z := 1) C (tdec DX8_snaps 32 rfl) rfl rfl rfl ?_
  refine g_getf (C' := RX8) (T := TX8) (N := 27) (v := .ref x_8) C 0 8 (gIn iw_X8) rfl rfl (by decide) (gMem fl_X8_33) rfl rfl (tdec DX8_snaps 33 rfl) rfl ?_
  refine g_bipush (v := 22) C (tdec DX8_snaps 34 rfl) (by decide) rfl ?_
  refine g_iload_n (z := 2) C (tdec DX8_snaps 35 rfl) rfl rfl rfl ?_
  refine g_imul C (tdec DX8_snaps 36 rfl) rfl ?_
  refine g_iload_n (z := 3) C (tdec DX8_snaps 37 rfl) rfl rfl rfl ?_
  refine g_iadd C (tdec DX8_snaps 38 rfl) rfl ?_
  obtain ⟨r7, y8, hF⟩ := o_bind hF
  refine g_iald C 8 1 rfl rfl y8 (tdec DX8_snaps 39 rfl) rfl ?_
  obtain ⟨g9, y10, hF⟩ := o_bind hF
  refine g_iast (ws' := wM cB cI cJ cZ x_0 x_1 x_2 x_3 x_4 x_5 x_6 x_7 x_8 x_9 x_10 x_11 x_12 x_13 x_14 x_15 x_16 x_17 x_18 x_19 (MS_settb (MS_settt x0 g5) g9)) C 8 1 rfl rfl y10 rfl (tdec DX8_snaps 40 rfl) rfl ?_
  refine g_aload_n (z := 1) C (tdec DX8_snaps 41 rfl) rfl rfl rfl ?_
  refine g_getf (C' := RX8) (T := TX8) (N := 27) (v := .ref x_11) C 0 11 (gIn iw_X8) rfl rfl (by decide) (gMem fl_X8_42) rfl rfl (tdec DX8_snaps 42 rfl) rfl ?_
  refine g_bipush (v := 20) C (tdec DX8_snaps 43 rfl) (by decide) rfl ?_
  refine g_iload_n (z := 2) C (tdec DX8_snaps 44 rfl) rfl rfl rfl ?_
  refine g_imul C (tdec DX8_snaps 45 rfl) rfl ?_
  refine g_iload (z := 0) C (tdec DX8_snaps 46 rfl) rfl rfl ?_
  refine g_iadd C (tdec DX8_snaps 47 rfl) rfl ?_
  refine g_aload_n (z := 1) C (tdec DX8_snaps 48 rfl) rfl rfl rfl ?_
  refine g_getf (C' := RX8) (T := TX8) (N := 27) (v := .ref x_9) C 0 9 (gIn iw_X8) rfl rfl (by decide) (gMem fl_X8_36) rfl rfl (tdec DX8_snaps 49 rfl) rfl ?_
  refine g_iload_n (z := 2) C (tdec DX8_snaps 50 rfl) rfl rfl rfl ?_
  obtain ⟨r11, y12, hF⟩ := o_bind hF
  refine g_iald C 9 1 rfl rfl y12 (tdec DX8_snaps 51 rfl) rfl ?_
  obtain ⟨g13, y14, hF⟩ := o_bind hF
  refine g_iast (ws' := wM cB cI cJ cZ x_0 x_1 x_2 x_3 x_4 x_5 x_6 x_7 x_8 x_9 x_10 x_11 x_12 x_13 x_14 x_15 x_16 x_17 x_18 x_19 (MS_setsg (MS_settb (MS_settt x0 g5) g9) g13)) C 11 1 rfl rfl y14 rfl (tdec DX8_snaps 52 rfl) rfl ?_
  refine g_aload_n (z := 1) C (tdec DX8_snaps 53 rfl) rfl rfl rfl ?_
  refine g_getf (C' := RX8) (T := TX8) (N := 27) (v := .ref x_12) C 0 12 (gIn iw_X8) rfl rfl (by decide) (gMem fl_X8_45) rfl rfl (tdec DX8_snaps 54 rfl) rfl ?_
  refine g_bipush (v := 20) C (tdec DX8_snaps 55 rfl) (by decide) rfl ?_
  refine g_iload_n (z := 2) C (tdec DX8_snaps 56 rfl) rfl rfl rfl ?_
  refine g_imul C (tdec DX8_snaps 57 rfl) rfl ?_
  refine g_iload (z := 0) C (tdec DX8_snaps 58 rfl) rfl rfl ?_
  refine g_iadd C (tdec DX8_snaps 59 rfl) rfl ?_
  refine g_lload_n (z := 4) C (tdec DX8_snaps 60 rfl) rfl rfl rfl ?_
  obtain ⟨g15, y16, hF⟩ := o_bind hF
  refine g_last (ws' := wM cB cI cJ cZ x_0 x_1 x_2 x_3 x_4 x_5 x_6 x_7 x_8 x_9 x_10 x_11 x_12 x_13 x_14 x_15 x_16 x_17 x_18 x_19 (MS_setsm (MS_setsg (MS_settb (MS_settt x0 g5) g9) g13) g15)) C 12 2 rfl rfl y16 rfl (tdec DX8_snaps 61 rfl) rfl ?_
  refine g_aload_n (z := 1) C (tdec DX8_snaps 62 rfl) rfl rfl rfl ?_
  refine g_getf (C' := RX8) (T := TX8) (N := 27) (v := .ref x_10) C 0 10 (gIn iw_X8) rfl rfl (by decide) (gMem fl_X8_39) rfl rfl (tdec DX8_snaps 63 rfl) rfl ?_
  refine g_iload_n (z := 2) C (tdec DX8_snaps 64 rfl) rfl rfl rfl ?_
  refine g_dup2 C (tdec DX8_snaps 65 rfl) rfl rfl rfl ?_
  obtain ⟨r17, y18, hF⟩ := o_bind hF
  refine g_iald C 10 1 rfl rfl y18 (tdec DX8_snaps 66 rfl) rfl ?_
  refine g_iconst (v := 1) C (tdec DX8_snaps 67 rfl) (by decide) rfl ?_
  refine g_iadd C (tdec DX8_snaps 68 rfl) rfl ?_
  obtain ⟨g19, y20, hF⟩ := o_bind hF
  refine g_iast (ws' := wM cB cI cJ cZ x_0 x_1 x_2 x_3 x_4 x_5 x_6 x_7 x_8 x_9 x_10 x_11 x_12 x_13 x_14 x_15 x_16 x_17 x_18 x_19 (MS_setsnaps (MS_setsm (MS_setsg (MS_settb (MS_settt x0 g5) g9) g13) g15) g19)) C 10 1 rfl rfl y20 rfl (tdec DX8_snaps 69 rfl) rfl ?_
  refine g_aload_n (z := 1) C (tdec DX8_snaps 70 rfl) rfl rfl rfl ?_
  refine g_getf (C' := RX8) (T := TX8) (N := 27) (v := .ref x_9) C 0 9 (gIn iw_X8) rfl rfl (by decide) (gMem fl_X8_36) rfl rfl (tdec DX8_snaps 71 rfl) rfl ?_
  refine g_iload_n (z := 2) C (tdec DX8_snaps 72 rfl) rfl rfl rfl ?_
  refine g_dup2 C (tdec DX8_snaps 73 rfl) rfl rfl rfl ?_
  obtain ⟨r21, y22, hF⟩ := o_bind hF
  refine g_iald C 9 1 rfl rfl y22 (tdec DX8_snaps 74 rfl) rfl ?_
  refine g_iconst (v := 1) C (tdec DX8_snaps 75 rfl) (by decide) rfl ?_
  refine g_iadd C (tdec DX8_snaps 76 rfl) rfl ?_
  obtain ⟨g23, y24, hF⟩ := o_bind hF
  refine g_iast (ws' := wM cB cI cJ cZ x_0 x_1 x_2 x_3 x_4 x_5 x_6 x_7 x_8 x_9 x_10 x_11 x_12 x_13 x_14 x_15 x_16 x_17 x_18 x_19 (MS_setgen (MS_setsnaps (MS_setsm (MS_setsg (MS_settb (MS_settt x0 g5) g9) g13) g15) g19) g23)) C 9 1 rfl rfl y24 rfl (tdec DX8_snaps 77 rfl) rfl ?_
  have hr9 := o_some hF
  subst hr9
  exact g_vret C rfl (tdec DX8_snaps 78 rfl)
def FX8_snapshot (x0 : MS) (p1 : Int32) : Option (Int32 × MS) :=
  (FX8_isVolume p1).bind fun r1 =>
  if r1 = 0 then
    if 1 ≤ 0 then
      (FX8_snaps (MS_setthr x0 1) p1 0 (MS_nm x0)).bind fun s26 =>
      (ald 2 (MS_snaps s26) p1).bind fun r28 =>
      some ((r28 - 1), (MS_setnm s26 ((MS_nm s26) + 1)))
    else
      some (0, (MS_setthr x0 1))
  else
    (ald 2 (MS_busy x0) p1).bind fun r4 =>
    if r4 = 0 then
      (ald 2 (MS_snaps x0) p1).bind fun r7 =>
      if r7 = 20 then
        if 3 ≤ 0 then
          (FX8_snaps (MS_setthr x0 3) p1 0 (MS_nm x0)).bind fun s16 =>
          (ald 2 (MS_snaps s16) p1).bind fun r18 =>
          some ((r18 - 1), (MS_setnm s16 ((MS_nm s16) + 1)))
        else
          some (0, (MS_setthr x0 3))
      else
        if 0 ≤ 0 then
          (FX8_snaps (MS_setthr x0 0) p1 0 (MS_nm x0)).bind fun s11 =>
          (ald 2 (MS_snaps s11) p1).bind fun r13 =>
          some ((r13 - 1), (MS_setnm s11 ((MS_nm s11) + 1)))
        else
          some (0, (MS_setthr x0 0))
    else
      if 2 ≤ 0 then
        (FX8_snaps (MS_setthr x0 2) p1 0 (MS_nm x0)).bind fun s21 =>
        (ald 2 (MS_snaps s21) p1).bind fun r23 =>
        some ((r23 - 1), (MS_setnm s21 ((MS_nm s21) + 1)))
      else
        some (0, (MS_setthr x0 2))
def rX8_snapshot : Room := { frames := 1, cells := 0, slots := 0, locals := 25 }
set_option maxHeartbeats 4000000 in
set_option maxRecDepth 100000 in
theorem c_X8_snapshot (l : Launch) (D : va_G) (cB cI cJ cZ : ClassId) (x_0 x_1 x_2 x_3 x_4 x_5 x_6 x_7 x_8 x_9 x_10 x_11 x_12 x_13 x_14 x_15 x_16 x_17 x_18 x_19 : Nat) {x0 : MS} {p1 : Int32} {res : Int32 × MS} (hF : FX8_snapshot x0 p1 = some res) : gMi l yX8_snapshot wsX8_snapshot rX8_snapshot D (gT cB cI cJ cZ) [.ref x_0, .int p1] (wM cB cI cJ cZ x_0 x_1 x_2 x_3 x_4 x_5 x_6 x_7 x_8 x_9 x_10 x_11 x_12 x_13 x_14 x_15 x_16 x_17 x_18 x_19 x0) res.1 (wM cB cI cJ cZ x_0 x_1 x_2 x_3 x_4 x_5 x_6 x_7 x_8 x_9 x_10 x_11 x_12 x_13 x_14 x_15 x_16 x_17 x_18 x_19 res.2) := by
  refine g_enter (own := RX8) (free := (fun sz => va_A (wM cB cI cJ cZ x_0 x_1 x_2 x_3 x_4 x_5 x_6 x_7 x_8 x_9 x_10 x_11 x_12 x_13 x_14 x_15 x_16 x_17 x_18 x_19 x0) sz)) (Qc := (fun sz => gQi D (wM cB cI cJ cZ x_0 x_1 x_2 x_3 x_4 x_5 x_6 x_7 x_8 x_9 x_10 x_11 x_12 x_13 x_14 x_15 x_16 x_17 x_18 x_19 x0) sz res.1 (wM cB cI cJ cZ x_0 x_1 x_2 x_3 x_4 x_5 x_6 x_7 x_8 x_9 x_10 x_11 x_12 x_13 x_14 x_15 x_16 x_17 x_18 x_19 res.2))) (fun sz => va_A (wM cB cI cJ cZ x_0 x_1 x_2 x_3 x_4 x_5 x_6 x_7 x_8 x_9 x_10 x_11 x_12 x_13 x_14 x_15 x_16 x_17 x_18 x_19 x0) sz) (fun sz => Or.inr rfl) rfl (by decide) rfl (Nat.le_of_ble_eq_true rfl) rfl ?_
  intro p e s m args below meth c C
  unfold FX8_snapshot at hF
  refine g_aload_n (z := 0) C (tdec DX8_snapshot 0 rfl) rfl rfl rfl ?_
  refine g_iload_n (z := 1) C (tdec DX8_snapshot 1 rfl) rfl rfl rfl ?_
  obtain ⟨r1, y2, hF⟩ := o_bind hF
  refine g_callSiR C (c_X8_isVolume l D cB cI cJ cZ y2) (gIS ml_X8_82 st_X8_isVolume in_X8 cd_X8_isVolume) eX8_isVolume rfl ⟨rfl, rfl⟩ ⟨Nat.le_of_ble_eq_true rfl, Nat.le_of_ble_eq_true rfl⟩ rfl [] rfl rfl rfl (Nat.le_of_ble_eq_true rfl) (tdec DX8_snapshot 2 rfl) rfl ?_
  refine g_if_ne (pt := 12) C (tdec DX8_snapshot 3 rfl) (by decide) rfl (fun h3 => ?_) (fun h3 => ?_)
  · have hF := o_ifn hF h3
    refine g_aload_n (z := 0) C (tdec DX8_snapshot 6 rfl) rfl rfl rfl ?_
    refine g_getf (C' := RX8) (T := TX8) (N := 27) (v := .ref x_13) C 0 13 (gIn iw_X8) rfl rfl (by decide) (gMem fl_X8_48) rfl rfl (tdec DX8_snapshot 7 rfl) rfl ?_
    refine g_iload_n (z := 1) C (tdec DX8_snapshot 8 rfl) rfl rfl rfl ?_
    obtain ⟨r4, y5, hF⟩ := o_bind hF
    refine g_zald C 13 3 rfl rfl y5 (tdec DX8_snapshot 9 rfl) rfl ?_
    refine g_if_eq (pt := 25) C (tdec DX8_snapshot 10 rfl) (by decide) rfl (fun h6 => ?_) (fun h6 => ?_)
    · have hF := o_ifp hF h6
      refine g_aload_n (z := 0) C (tdec DX8_snapshot 13 rfl) rfl rfl rfl ?_
      refine g_getf (C' := RX8) (T := TX8) (N := 27) (v := .ref x_10) C 0 10 (gIn iw_X8) rfl rfl (by decide) (gMem fl_X8_39) rfl rfl (tdec DX8_snapshot 14 rfl) rfl ?_
      refine g_iload_n (z := 1) C (tdec DX8_snapshot 15 rfl) rfl rfl rfl ?_
      obtain ⟨r7, y8, hF⟩ := o_bind hF
      refine g_iald C 10 1 rfl rfl y8 (tdec DX8_snapshot 16 rfl) rfl ?_
      refine g_bipush (v := 20) C (tdec DX8_snapshot 17 rfl) (by decide) rfl ?_
      refine g_icmp_ne (pt := 40) C (tdec DX8_snapshot 18 rfl) (by decide) rfl (fun h9 => ?_) (fun h9 => ?_)
      · have hF := o_ifn hF h9
        refine g_iconst (v := 0) C (tdec DX8_snapshot 21 rfl) (by decide) rfl ?_
        refine g_putf (C' := RX8) (T := TX8) (N := 27) (v := .int 0) (ws' := wM cB cI cJ cZ x_0 x_1 x_2 x_3 x_4 x_5 x_6 x_7 x_8 x_9 x_10 x_11 x_12 x_13 x_14 x_15 x_16 x_17 x_18 x_19 (MS_setthr x0 0)) C 0 0 tyX8 tyX8_ok nmX8 (gIn iw_X8) rfl rfl (by decide) (gMem fl_X8_78) rfl rfl (tyX8_ok 0 (by decide)) rfl rfl (Nat.le_of_ble_eq_true rfl) rfl (tdec DX8_snapshot 22 rfl) rfl ?_
        refine g_aload_n (z := 0) C (tdec DX8_snapshot 23 rfl) rfl rfl rfl ?_
        refine g_getf (C' := RX8) (T := TX8) (N := 27) (v := .int 0) C 0 0 (gIn iw_X8) rfl rfl (by decide) (gMem fl_X8_78) rfl rfl (tdec DX8_snapshot 24 rfl) rfl ?_
        refine g_if_le (pt := 53) C (tdec DX8_snapshot 25 rfl) (by decide) rfl (fun h10 => ?_) (fun h10 => ?_)
        · have hF := o_ifp hF h10
          refine g_aload_n (z := 0) C (tdec DX8_snapshot 28 rfl) rfl rfl rfl ?_
          refine g_iload_n (z := 1) C (tdec DX8_snapshot 29 rfl) rfl rfl rfl ?_
          refine g_iconst (v := 0) C (tdec DX8_snapshot 30 rfl) (by decide) rfl ?_
          refine g_aload_n (z := 0) C (tdec DX8_snapshot 31 rfl) rfl rfl rfl ?_
          refine g_getf (C' := RX8) (T := TX8) (N := 27) (v := .long (MS_nm x0)) C 0 17 (gIn iw_X8) rfl rfl (by decide) (gMem fl_X8_60) rfl rfl (tdec DX8_snapshot 32 rfl) rfl ?_
          obtain ⟨s11, y12, hF⟩ := o_bind hF
          refine g_callVvMS (q0 := 0) (W' := wM cB cI cJ cZ x_0 x_1 x_2 x_3 x_4 x_5 x_6 x_7 x_8 x_9 x_10 x_11 x_12 x_13 x_14 x_15 x_16 x_17 x_18 x_19 s11) (S := [wM cB cI cJ cZ x_0 x_1 x_2 x_3 x_4 x_5 x_6 x_7 x_8 x_9 x_10 x_11 x_12 x_13 x_14 x_15 x_16 x_17 x_18 x_19 (MS_setthr x0 0)]) (S0 := [wM cB cI cJ cZ x_0 x_1 x_2 x_3 x_4 x_5 x_6 x_7 x_8 x_9 x_10 x_11 x_12 x_13 x_14 x_15 x_16 x_17 x_18 x_19 (MS_setthr x0 0)]) (S1 := [wM cB cI cJ cZ x_0 x_1 x_2 x_3 x_4 x_5 x_6 x_7 x_8 x_9 x_10 x_11 x_12 x_13 x_14 x_15 x_16 x_17 x_18 x_19 s11]) (S' := [wM cB cI cJ cZ x_0 x_1 x_2 x_3 x_4 x_5 x_6 x_7 x_8 x_9 x_10 x_11 x_12 x_13 x_14 x_15 x_16 x_17 x_18 x_19 s11]) C (c_X8_snaps l D cB cI cJ cZ x_0 x_1 x_2 x_3 x_4 x_5 x_6 x_7 x_8 x_9 x_10 x_11 x_12 x_13 x_14 x_15 x_16 x_17 x_18 x_19 y12) rfl rfl (gIV ml_X8_144 im_X8_snaps sl_X8_snaps in_X8 cd_X8_snaps) rfl eX8_snaps rfl ⟨rfl, rfl⟩ ⟨Nat.le_of_ble_eq_true rfl, Nat.le_of_ble_eq_true rfl⟩ rfl rfl rfl [0] rfl rfl rfl rfl (gA_cons aM gA_nil) rfl rfl (Nat.le_of_ble_eq_true rfl) (tdec DX8_snapshot 33 rfl) rfl ?_
          refine g_aload_n (z := 0) C (tdec DX8_snapshot 34 rfl) rfl rfl rfl ?_
          refine g_dup C (tdec DX8_snapshot 35 rfl) rfl rfl ?_
          refine g_getf (C' := RX8) (T := TX8) (N := 27) (v := .long (MS_nm s11)) C 0 17 (gIn iw_X8) rfl rfl (by decide) (gMem fl_X8_60) rfl rfl (tdec DX8_snapshot 36 rfl) rfl ?_
          refine g_lconst (v := 1) C (tdec DX8_snapshot 37 rfl) (by decide) rfl ?_
          refine g_ladd C (tdec DX8_snapshot 38 rfl) rfl ?_
          refine g_putf (C' := RX8) (T := TX8) (N := 27) (v := .long ((MS_nm s11) + 1)) (ws' := wM cB cI cJ cZ x_0 x_1 x_2 x_3 x_4 x_5 x_6 x_7 x_8 x_9 x_10 x_11 x_12 x_13 x_14 x_15 x_16 x_17 x_18 x_19 (MS_setnm s11 ((MS_nm s11) + 1))) C 0 17 tyX8 tyX8_ok nmX8 (gIn iw_X8) rfl rfl (by decide) (gMem fl_X8_60) rfl rfl (tyX8_ok 17 (by decide)) rfl rfl (Nat.le_of_ble_eq_true rfl) rfl (tdec DX8_snapshot 39 rfl) rfl ?_
          refine g_aload_n (z := 0) C (tdec DX8_snapshot 40 rfl) rfl rfl rfl ?_
          refine g_getf (C' := RX8) (T := TX8) (N := 27) (v := .ref x_10) C 0 10 (gIn iw_X8) rfl rfl (by decide) (gMem fl_X8_39) rfl rfl (tdec DX8_snapshot 41 rfl) rfl ?_
          refine g_iload_n (z := 1) C (tdec DX8_snapshot 42 rfl) rfl rfl rfl ?_
          obtain ⟨r13, y14, hF⟩ := o_bind hF
          refine g_iald C 10 1 rfl rfl y14 (tdec DX8_snapshot 43 rfl) rfl ?_
          refine g_iconst (v := 1) C (tdec DX8_snapshot 44 rfl) (by decide) rfl ?_
          refine g_isub C (tdec DX8_snapshot 45 rfl) rfl ?_
          have hr9 := o_some hF
          subst hr9
          exact g_iret C rfl rfl (tdec DX8_snapshot 46 rfl)
        · have hF := o_ifn hF h10
          refine g_iconst (v := 0) C (tdec DX8_snapshot 26 rfl) (by decide) rfl ?_
          have hr9 := o_some hF
          subst hr9
          exact g_iret C rfl rfl (tdec DX8_snapshot 27 rfl)
      · have hF := o_ifp hF h9
        refine g_iconst (v := 3) C (tdec DX8_snapshot 19 rfl) (by decide) rfl ?_
        refine g_goto (pt := 41) C (tdec DX8_snapshot 20 rfl) (by decide) ?_
        refine g_putf (C' := RX8) (T := TX8) (N := 27) (v := .int 3) (ws' := wM cB cI cJ cZ x_0 x_1 x_2 x_3 x_4 x_5 x_6 x_7 x_8 x_9 x_10 x_11 x_12 x_13 x_14 x_15 x_16 x_17 x_18 x_19 (MS_setthr x0 3)) C 0 0 tyX8 tyX8_ok nmX8 (gIn iw_X8) rfl rfl (by decide) (gMem fl_X8_78) rfl rfl (tyX8_ok 0 (by decide)) rfl rfl (Nat.le_of_ble_eq_true rfl) rfl (tdec DX8_snapshot 22 rfl) rfl ?_
        refine g_aload_n (z := 0) C (tdec DX8_snapshot 23 rfl) rfl rfl rfl ?_
        refine g_getf (C' := RX8) (T := TX8) (N := 27) (v := .int 3) C 0 0 (gIn iw_X8) rfl rfl (by decide) (gMem fl_X8_78) rfl rfl (tdec DX8_snapshot 24 rfl) rfl ?_
        refine g_if_le (pt := 53) C (tdec DX8_snapshot 25 rfl) (by decide) rfl (fun h15 => ?_) (fun h15 => ?_)
        · have hF := o_ifp hF h15
          refine g_aload_n (z := 0) C (tdec DX8_snapshot 28 rfl) rfl rfl rfl ?_
          refine g_iload_n (z := 1) C (tdec DX8_snapshot 29 rfl) rfl rfl rfl ?_
          refine g_iconst (v := 0) C (tdec DX8_snapshot 30 rfl) (by decide) rfl ?_
          refine g_aload_n (z := 0) C (tdec DX8_snapshot 31 rfl) rfl rfl rfl ?_
          refine g_getf (C' := RX8) (T := TX8) (N := 27) (v := .long (MS_nm x0)) C 0 17 (gIn iw_X8) rfl rfl (by decide) (gMem fl_X8_60) rfl rfl (tdec DX8_snapshot 32 rfl) rfl ?_
          obtain ⟨s16, y17, hF⟩ := o_bind hF
          refine g_callVvMS (q0 := 0) (W' := wM cB cI cJ cZ x_0 x_1 x_2 x_3 x_4 x_5 x_6 x_7 x_8 x_9 x_10 x_11 x_12 x_13 x_14 x_15 x_16 x_17 x_18 x_19 s16) (S := [wM cB cI cJ cZ x_0 x_1 x_2 x_3 x_4 x_5 x_6 x_7 x_8 x_9 x_10 x_11 x_12 x_13 x_14 x_15 x_16 x_17 x_18 x_19 (MS_setthr x0 3)]) (S0 := [wM cB cI cJ cZ x_0 x_1 x_2 x_3 x_4 x_5 x_6 x_7 x_8 x_9 x_10 x_11 x_12 x_13 x_14 x_15 x_16 x_17 x_18 x_19 (MS_setthr x0 3)]) (S1 := [wM cB cI cJ cZ x_0 x_1 x_2 x_3 x_4 x_5 x_6 x_7 x_8 x_9 x_10 x_11 x_12 x_13 x_14 x_15 x_16 x_17 x_18 x_19 s16]) (S' := [wM cB cI cJ cZ x_0 x_1 x_2 x_3 x_4 x_5 x_6 x_7 x_8 x_9 x_10 x_11 x_12 x_13 x_14 x_15 x_16 x_17 x_18 x_19 s16]) C (c_X8_snaps l D cB cI cJ cZ x_0 x_1 x_2 x_3 x_4 x_5 x_6 x_7 x_8 x_9 x_10 x_11 x_12 x_13 x_14 x_15 x_16 x_17 x_18 x_19 y17) rfl rfl (gIV ml_X8_144 im_X8_snaps sl_X8_snaps in_X8 cd_X8_snaps) rfl eX8_snaps rfl ⟨rfl, rfl⟩ ⟨Nat.le_of_ble_eq_true rfl, Nat.le_of_ble_eq_true rfl⟩ rfl rfl rfl [0] rfl rfl rfl rfl (gA_cons aM gA_nil) rfl rfl (Nat.le_of_ble_eq_true rfl) (tdec DX8_snapshot 33 rfl) rfl ?_
          refine g_aload_n (z := 0) C (tdec DX8_snapshot 34 rfl) rfl rfl rfl ?_
          refine g_dup C (tdec DX8_snapshot 35 rfl) rfl rfl ?_
          refine g_getf (C' := RX8) (T := TX8) (N := 27) (v := .long (MS_nm s16)) C 0 17 (gIn iw_X8) rfl rfl (by decide) (gMem fl_X8_60) rfl rfl (tdec DX8_snapshot 36 rfl) rfl ?_
          refine g_lconst (v := 1) C (tdec DX8_snapshot 37 rfl) (by decide) rfl ?_
          refine g_ladd C (tdec DX8_snapshot 38 rfl) rfl ?_
          refine g_putf (C' := RX8) (T := TX8) (N := 27) (v := .long ((MS_nm s16) + 1)) (ws' := wM cB cI cJ cZ x_0 x_1 x_2 x_3 x_4 x_5 x_6 x_7 x_8 x_9 x_10 x_11 x_12 x_13 x_14 x_15 x_16 x_17 x_18 x_19 (MS_setnm s16 ((MS_nm s16) + 1))) C 0 17 tyX8 tyX8_ok nmX8 (gIn iw_X8) rfl rfl (by decide) (gMem fl_X8_60) rfl rfl (tyX8_ok 17 (by decide)) rfl rfl (Nat.le_of_ble_eq_true rfl) rfl (tdec DX8_snapshot 39 rfl) rfl ?_
          refine g_aload_n (z := 0) C (tdec DX8_snapshot 40 rfl) rfl rfl rfl ?_
          refine g_getf (C' := RX8) (T := TX8) (N := 27) (v := .ref x_10) C 0 10 (gIn iw_X8) rfl rfl (by decide) (gMem fl_X8_39) rfl rfl (tdec DX8_snapshot 41 rfl) rfl ?_
          refine g_iload_n (z := 1) C (tdec DX8_snapshot 42 rfl) rfl rfl rfl ?_
          obtain ⟨r18, y19, hF⟩ := o_bind hF
          refine g_iald C 10 1 rfl rfl y19 (tdec DX8_snapshot 43 rfl) rfl ?_
          refine g_iconst (v := 1) C (tdec DX8_snapshot 44 rfl) (by decide) rfl ?_
          refine g_isub C (tdec DX8_snapshot 45 rfl) rfl ?_
          have hr9 := o_some hF
          subst hr9
          exact g_iret C rfl rfl (tdec DX8_snapshot 46 rfl)
        · have hF := o_ifn hF h15
          refine g_iconst (v := 0) C (tdec DX8_snapshot 26 rfl) (by decide) rfl ?_
          have hr9 := o_some hF
          subst hr9
          exact g_iret C rfl rfl (tdec DX8_snapshot 27 rfl)
    · have hF := o_ifn hF h6
      refine g_iconst (v := 2) C (tdec DX8_snapshot 11 rfl) (by decide) rfl ?_
      refine g_goto (pt := 41) C (tdec DX8_snapshot 12 rfl) (by decide) ?_
      refine g_putf (C' := RX8) (T := TX8) (N := 27) (v := .int 2) (ws' := wM cB cI cJ cZ x_0 x_1 x_2 x_3 x_4 x_5 x_6 x_7 x_8 x_9 x_10 x_11 x_12 x_13 x_14 x_15 x_16 x_17 x_18 x_19 (MS_setthr x0 2)) C 0 0 tyX8 tyX8_ok nmX8 (gIn iw_X8) rfl rfl (by decide) (gMem fl_X8_78) rfl rfl (tyX8_ok 0 (by decide)) rfl rfl (Nat.le_of_ble_eq_true rfl) rfl (tdec DX8_snapshot 22 rfl) rfl ?_
      refine g_aload_n (z := 0) C (tdec DX8_snapshot 23 rfl) rfl rfl rfl ?_
      refine g_getf (C' := RX8) (T := TX8) (N := 27) (v := .int 2) C 0 0 (gIn iw_X8) rfl rfl (by decide) (gMem fl_X8_78) rfl rfl (tdec DX8_snapshot 24 rfl) rfl ?_
      refine g_if_le (pt := 53) C (tdec DX8_snapshot 25 rfl) (by decide) rfl (fun h20 => ?_) (fun h20 => ?_)
      · have hF := o_ifp hF h20
        refine g_aload_n (z := 0) C (tdec DX8_snapshot 28 rfl) rfl rfl rfl ?_
        refine g_iload_n (z := 1) C (tdec DX8_snapshot 29 rfl) rfl rfl rfl ?_
        refine g_iconst (v := 0) C (tdec DX8_snapshot 30 rfl) (by decide) rfl ?_
        refine g_aload_n (z := 0) C (tdec DX8_snapshot 31 rfl) rfl rfl rfl ?_
        refine g_getf (C' := RX8) (T := TX8) (N := 27) (v := .long (MS_nm x0)) C 0 17 (gIn iw_X8) rfl rfl (by decide) (gMem fl_X8_60) rfl rfl (tdec DX8_snapshot 32 rfl) rfl ?_
        obtain ⟨s21, y22, hF⟩ := o_bind hF
        refine g_callVvMS (q0 := 0) (W' := wM cB cI cJ cZ x_0 x_1 x_2 x_3 x_4 x_5 x_6 x_7 x_8 x_9 x_10 x_11 x_12 x_13 x_14 x_15 x_16 x_17 x_18 x_19 s21) (S := [wM cB cI cJ cZ x_0 x_1 x_2 x_3 x_4 x_5 x_6 x_7 x_8 x_9 x_10 x_11 x_12 x_13 x_14 x_15 x_16 x_17 x_18 x_19 (MS_setthr x0 2)]) (S0 := [wM cB cI cJ cZ x_0 x_1 x_2 x_3 x_4 x_5 x_6 x_7 x_8 x_9 x_10 x_11 x_12 x_13 x_14 x_15 x_16 x_17 x_18 x_19 (MS_setthr x0 2)]) (S1 := [wM cB cI cJ cZ x_0 x_1 x_2 x_3 x_4 x_5 x_6 x_7 x_8 x_9 x_10 x_11 x_12 x_13 x_14 x_15 x_16 x_17 x_18 x_19 s21]) (S' := [wM cB cI cJ cZ x_0 x_1 x_2 x_3 x_4 x_5 x_6 x_7 x_8 x_9 x_10 x_11 x_12 x_13 x_14 x_15 x_16 x_17 x_18 x_19 s21]) C (c_X8_snaps l D cB cI cJ cZ x_0 x_1 x_2 x_3 x_4 x_5 x_6 x_7 x_8 x_9 x_10 x_11 x_12 x_13 x_14 x_15 x_16 x_17 x_18 x_19 y22) rfl rfl (gIV ml_X8_144 im_X8_snaps sl_X8_snaps in_X8 cd_X8_snaps) rfl eX8_snaps rfl ⟨rfl, rfl⟩ ⟨Nat.le_of_ble_eq_true rfl, Nat.le_of_ble_eq_true rfl⟩ rfl rfl rfl [0] rfl rfl rfl rfl (gA_cons aM gA_nil) rfl rfl (Nat.le_of_ble_eq_true rfl) (tdec DX8_snapshot 33 rfl) rfl ?_
        refine g_aload_n (z := 0) C (tdec DX8_snapshot 34 rfl) rfl rfl rfl ?_
        refine g_dup C (tdec DX8_snapshot 35 rfl) rfl rfl ?_
        refine g_getf (C' := RX8) (T := TX8) (N := 27) (v := .long (MS_nm s21)) C 0 17 (gIn iw_X8) rfl rfl (by decide) (gMem fl_X8_60) rfl rfl (tdec DX8_snapshot 36 rfl) rfl ?_
        refine g_lconst (v := 1) C (tdec DX8_snapshot 37 rfl) (by decide) rfl ?_
        refine g_ladd C (tdec DX8_snapshot 38 rfl) rfl ?_
        refine g_putf (C' := RX8) (T := TX8) (N := 27) (v := .long ((MS_nm s21) + 1)) (ws' := wM cB cI cJ cZ x_0 x_1 x_2 x_3 x_4 x_5 x_6 x_7 x_8 x_9 x_10 x_11 x_12 x_13 x_14 x_15 x_16 x_17 x_18 x_19 (MS_setnm s21 ((MS_nm s21) + 1))) C 0 17 tyX8 tyX8_ok nmX8 (gIn iw_X8) rfl rfl (by decide) (gMem fl_X8_60) rfl rfl (tyX8_ok 17 (by decide)) rfl rfl (Nat.le_of_ble_eq_true rfl) rfl (tdec DX8_snapshot 39 rfl) rfl ?_
        refine g_aload_n (z := 0) C (tdec DX8_snapshot 40 rfl) rfl rfl rfl ?_
        refine g_getf (C' := RX8) (T := TX8) (N := 27) (v := .ref x_10) C 0 10 (gIn iw_X8) rfl rfl (by decide) (gMem fl_X8_39) rfl rfl (tdec DX8_snapshot 41 rfl) rfl ?_
        refine g_iload_n (z := 1) C (tdec DX8_snapshot 42 rfl) rfl rfl rfl ?_
        obtain ⟨r23, y24, hF⟩ := o_bind hF
        refine g_iald C 10 1 rfl rfl y24 (tdec DX8_snapshot 43 rfl) rfl ?_
        refine g_iconst (v := 1) C (tdec DX8_snapshot 44 rfl) (by decide) rfl ?_
        refine g_isub C (tdec DX8_snapshot 45 rfl) rfl ?_
        have hr9 := o_some hF
        subst hr9
        exact g_iret C rfl rfl (tdec DX8_snapshot 46 rfl)
      · have hF := o_ifn hF h20
        refine g_iconst (v := 0) C (tdec DX8_snapshot 26 rfl) (by decide) rfl ?_
        have hr9 := o_some hF
        subst hr9
        exact g_iret C rfl rfl (tdec DX8_snapshot 27 rfl)
  · have hF := o_ifp hF h3
    refine g_iconst (v := 1) C (tdec DX8_snapshot 4 rfl) (by decide) rfl ?_
    refine g_goto (pt := 41) C (tdec DX8_snapshot 5 rfl) (by decide) ?_
    refine g_putf (C' := RX8) (T := TX8) (N := 27) (v := .int 1) (ws' := wM cB cI cJ cZ x_0 x_1 x_2 x_3 x_4 x_5 x_6 x_7 x_8 x_9 x_10 x_11 x_12 x_13 x_14 x_15 x_16 x_17 x_18 x_19 (MS_setthr x0 1)) C 0 0 tyX8 tyX8_ok nmX8 (gIn iw_X8) rfl rfl (by decide) (gMem fl_X8_78) rfl rfl (tyX8_ok 0 (by decide)) rfl rfl (Nat.le_of_ble_eq_true rfl) rfl (tdec DX8_snapshot 22 rfl) rfl ?_
    refine g_aload_n (z := 0) C (tdec DX8_snapshot 23 rfl) rfl rfl rfl ?_
    refine g_getf (C' := RX8) (T := TX8) (N := 27) (v := .int 1) C 0 0 (gIn iw_X8) rfl rfl (by decide) (gMem fl_X8_78) rfl rfl (tdec DX8_snapshot 24 rfl) rfl ?_
    refine g_if_le (pt := 53) C (tdec DX8_snapshot 25 rfl) (by decide) rfl (fun h25 => ?_) (fun h25 => ?_)
    · have hF := o_ifp hF h25
      refine g_aload_n (z := 0) C (tdec DX8_snapshot 28 rfl) rfl rfl rfl ?_
      refine g_iload_n (z := 1) C (tdec DX8_snapshot 29 rfl) rfl rfl rfl ?_
      refine g_iconst (v := 0) C (tdec DX8_snapshot 30 rfl) (by decide) rfl ?_
      refine g_aload_n (z := 0) C (tdec DX8_snapshot 31 rfl) rfl rfl rfl ?_
      refine g_getf (C' := RX8) (T := TX8) (N := 27) (v := .long (MS_nm x0)) C 0 17 (gIn iw_X8) rfl rfl (by decide) (gMem fl_X8_60) rfl rfl (tdec DX8_snapshot 32 rfl) rfl ?_
      obtain ⟨s26, y27, hF⟩ := o_bind hF
      refine g_callVvMS (q0 := 0) (W' := wM cB cI cJ cZ x_0 x_1 x_2 x_3 x_4 x_5 x_6 x_7 x_8 x_9 x_10 x_11 x_12 x_13 x_14 x_15 x_16 x_17 x_18 x_19 s26) (S := [wM cB cI cJ cZ x_0 x_1 x_2 x_3 x_4 x_5 x_6 x_7 x_8 x_9 x_10 x_11 x_12 x_13 x_14 x_15 x_16 x_17 x_18 x_19 (MS_setthr x0 1)]) (S0 := [wM cB cI cJ cZ x_0 x_1 x_2 x_3 x_4 x_5 x_6 x_7 x_8 x_9 x_10 x_11 x_12 x_13 x_14 x_15 x_16 x_17 x_18 x_19 (MS_setthr x0 1)]) (S1 := [wM cB cI cJ cZ x_0 x_1 x_2 x_3 x_4 x_5 x_6 x_7 x_8 x_9 x_10 x_11 x_12 x_13 x_14 x_15 x_16 x_17 x_18 x_19 s26]) (S' := [wM cB cI cJ cZ x_0 x_1 x_2 x_3 x_4 x_5 x_6 x_7 x_8 x_9 x_10 x_11 x_12 x_13 x_14 x_15 x_16 x_17 x_18 x_19 s26]) C (c_X8_snaps l D cB cI cJ cZ x_0 x_1 x_2 x_3 x_4 x_5 x_6 x_7 x_8 x_9 x_10 x_11 x_12 x_13 x_14 x_15 x_16 x_17 x_18 x_19 y27) rfl rfl (gIV ml_X8_144 im_X8_snaps sl_X8_snaps in_X8 cd_X8_snaps) rfl eX8_snaps rfl ⟨rfl, rfl⟩ ⟨Nat.le_of_ble_eq_true rfl, Nat.le_of_ble_eq_true rfl⟩ rfl rfl rfl [0] rfl rfl rfl rfl (gA_cons aM gA_nil) rfl rfl (Nat.le_of_ble_eq_true rfl) (tdec DX8_snapshot 33 rfl) rfl ?_
      refine g_aload_n (z := 0) C (tdec DX8_snapshot 34 rfl) rfl rfl rfl ?_
      refine g_dup C (tdec DX8_snapshot 35 rfl) rfl rfl ?_
      refine g_getf (C' := RX8) (T := TX8) (N := 27) (v := .long (MS_nm s26)) C 0 17 (gIn iw_X8) rfl rfl (by decide) (gMem fl_X8_60) rfl rfl (tdec DX8_snapshot 36 rfl) rfl ?_
      refine g_lconst (v := 1) C (tdec DX8_snapshot 37 rfl) (by decide) rfl ?_
      refine g_ladd C (tdec DX8_snapshot 38 rfl) rfl ?_
      refine g_putf (C' := RX8) (T := TX8) (N := 27) (v := .long ((MS_nm s26) + 1)) (ws' := wM cB cI cJ cZ x_0 x_1 x_2 x_3 x_4 x_5 x_6 x_7 x_8 x_9 x_10 x_11 x_12 x_13 x_14 x_15 x_16 x_17 x_18 x_19 (MS_setnm s26 ((MS_nm s26) + 1))) C 0 17 tyX8 tyX8_ok nmX8 (gIn iw_X8) rfl rfl (by decide) (gMem fl_X8_60) rfl rfl (tyX8_ok 17 (by decide)) rfl rfl (Nat.le_of_ble_eq_true rfl) rfl (tdec DX8_snapshot 39 rfl) rfl ?_
      refine g_aload_n (z := 0) C (tdec DX8_snapshot 40 rfl) rfl rfl rfl ?_
      refine g_getf (C' := RX8) (T := TX8) (N := 27) (v := .ref x_10) C 0 10 (gIn iw_X8) rfl rfl (by decide) (gMem fl_X8_39) rfl rfl (tdec DX8_snapshot 41 rfl) rfl ?_
      refine g_iload_n (z := 1) C (tdec DX8_snapshot 42 rfl) rfl rfl rfl ?_
      obtain ⟨r28, y29, hF⟩ := o_bind hF
      refine g_iald C 10 1 rfl rfl y29 (tdec DX8_snapshot 43 rfl) rfl ?_
      refine g_iconst (v := 1) C (tdec DX8_snapshot 44 rfl) (by decide) rfl ?_
      refine g_isub C (tdec DX8_snapshot 45 rfl) rfl ?_
      have hr9 := o_some hF
      subst hr9
      exact g_iret C rfl rfl (tdec DX8_snapshot 46 rfl)
    · have hF := o_ifn hF h25
      refine g_iconst (v := 0) C (tdec DX8_snapshot 26 rfl) (by decide) rfl ?_
      have hr9 := o_some hF
      subst hr9
      exact g_iret C rfl rfl (tdec DX8_snapshot 27 rfl)
def FX8_destroy_L63 (v1 : Int32) (v2 : Int32) (k9 : MS → Int32 → Option (Int32 × MS)) : Nat → MS → Int32 → Option (Int32 × MS)
  | 0, _, _ => none
  | n9 + 1, x, v3 =>
    (ald 2 (MS_snaps x) v1).bind fun r15 =>
    if r15 ≤ v3 then
      k9 x v3
    else
      (ald 44 (MS_tt x) ((((22 * v1) + 2) + v3) + 1)).bind fun r18 =>
      (ast 44 (MS_tt x) (((22 * v1) + 2) + v3) r18).bind fun g20 =>
      (ald 44 (MS_tb x) ((((22 * v1) + 2) + v3) + 1)).bind fun r22 =>
      (ast 44 (MS_tb x) (((22 * v1) + 2) + v3) r22).bind fun g24 =>
      (ald 40 (MS_sg x) (((20 * v1) + v3) + 1)).bind fun r26 =>
      (ast 40 (MS_sg x) ((20 * v1) + v3) r26).bind fun g28 =>
      (ald 40 (MS_sm x) (((20 * v1) + v3) + 1)).bind fun r30 =>
      (lst 40 (MS_sm x) ((20 * v1) + v3) r30).bind fun g32 =>
      FX8_destroy_L63 v1 v2 k9 n9 (MS_setsm (MS_setsg (MS_settb (MS_settt x g20) g24) g28) g32) (v3 + 1)
def FX8_destroy (x0 : MS) (p1 : Int32) (p2 : Int32) : Option (Int32 × MS) :=
  (FX8_isVolume p1).bind fun r1 =>
  if r1 = 0 then
    if 1 ≤ 0 then
      (ald 2 (MS_snaps x0) p1).bind fun r60 =>
      (ast 2 (MS_snaps x0) p1 (r60 - 1)).bind fun g62 =>
      FX8_destroy_L63 p1 p2 (fun xq64 w3_64 =>
        (FX8_sweeps xq64 p1).bind fun s65 =>
        (ald 2 (MS_snaps s65) p1).bind fun r67 =>
        some (r67, s65)) 100000 (MS_setsnaps (MS_setthr x0 1) g62) p2
    else
      some (0, (MS_setthr x0 1))
  else
    (ald 2 (MS_busy x0) p1).bind fun r4 =>
    if r4 = 0 then
      (FX8_isSnap x0 p1 p2).bind fun r7 =>
      if r7 = 0 then
        if 3 ≤ 0 then
          (ald 2 (MS_snaps x0) p1).bind fun r40 =>
          (ast 2 (MS_snaps x0) p1 (r40 - 1)).bind fun g42 =>
          FX8_destroy_L63 p1 p2 (fun xq44 w3_44 =>
            (FX8_sweeps xq44 p1).bind fun s45 =>
            (ald 2 (MS_snaps s45) p1).bind fun r47 =>
            some (r47, s45)) 100000 (MS_setsnaps (MS_setthr x0 3) g42) p2
        else
          some (0, (MS_setthr x0 3))
      else
        if 0 ≤ 0 then
          (ald 2 (MS_snaps x0) p1).bind fun r11 =>
          (ast 2 (MS_snaps x0) p1 (r11 - 1)).bind fun g13 =>
          FX8_destroy_L63 p1 p2 (fun xq34 w3_34 =>
            (FX8_sweeps xq34 p1).bind fun s35 =>
            (ald 2 (MS_snaps s35) p1).bind fun r37 =>
            some (r37, s35)) 100000 (MS_setsnaps (MS_setthr x0 0) g13) p2
        else
          some (0, (MS_setthr x0 0))
    else
      if 2 ≤ 0 then
        (ald 2 (MS_snaps x0) p1).bind fun r50 =>
        (ast 2 (MS_snaps x0) p1 (r50 - 1)).bind fun g52 =>
        FX8_destroy_L63 p1 p2 (fun xq54 w3_54 =>
          (FX8_sweeps xq54 p1).bind fun s55 =>
          (ald 2 (MS_snaps s55) p1).bind fun r57 =>
          some (r57, s55)) 100000 (MS_setsnaps (MS_setthr x0 2) g52) p2
      else
        some (0, (MS_setthr x0 2))
def rX8_destroy : Room := { frames := 2, cells := 0, slots := 0, locals := 46 }
set_option maxHeartbeats 4000000 in
set_option maxRecDepth 100000 in
theorem c_FX8_destroy_L63 {p : Program} {l : Launch} {e : Env} {s : State} {m : MethodId} {args : Array Value} {below : List Frame} {meth : Method} {c : Code} {D : va_G} {cB cI cJ cZ : ClassId} {x_0 x_1 x_2 x_3 x_4 x_5 x_6 x_7 x_8 x_9 x_10 x_11 x_12 x_13 x_14 x_15 x_16 x_17 x_18 x_19 : Nat} {x0 : MS} {res : Int32 × MS} (C : gC p s m args meth c cX8_destroy 4 RX8 wsX8_destroy D (gT cB cI cJ cZ) (some .int) (va_A (wM cB cI cJ cZ x_0 x_1 x_2 x_3 x_4 x_5 x_6 x_7 x_8 x_9 x_10 x_11 x_12 x_13 x_14 x_15 x_16 x_17 x_18 x_19 x0) s.heap.size)) {v1 : Int32} {v2 : Int32} {k9 : MS → Int32 → Option (Int32 × MS)} (hk9 : ∀ (x : MS) (v3 : Int32), k9 x v3 = some res → gG p l e (headSpec wsX8_destroy rX8_destroy).room s m args below meth c 0 0 D (va_A (wM cB cI cJ cZ x_0 x_1 x_2 x_3 x_4 x_5 x_6 x_7 x_8 x_9 x_10 x_11 x_12 x_13 x_14 x_15 x_16 x_17 x_18 x_19 x0) s.heap.size) (va_A (wM cB cI cJ cZ x_0 x_1 x_2 x_3 x_4 x_5 x_6 x_7 x_8 x_9 x_10 x_11 x_12 x_13 x_14 x_15 x_16 x_17 x_18 x_19 x0) s.heap.size) 4 (MQ below (gQi D (wM cB cI cJ cZ x_0 x_1 x_2 x_3 x_4 x_5 x_6 x_7 x_8 x_9 x_10 x_11 x_12 x_13 x_14 x_15 x_16 x_17 x_18 x_19 x0) s.heap.size res.1 (wM cB cI cJ cZ x_0 x_1 x_2 x_3 x_4 x_5 x_6 x_7 x_8 x_9 x_10 x_11 x_12 x_13 x_14 x_15 x_16 x_17 x_18 x_19 res.2)) args s 0 0 (va_A (wM cB cI cJ cZ x_0 x_1 x_2 x_3 x_4 x_5 x_6 x_7 x_8 x_9 x_10 x_11 x_12 x_13 x_14 x_15 x_16 x_17 x_18 x_19 x0) s.heap.size)) (wM cB cI cJ cZ x_0 x_1 x_2 x_3 x_4 x_5 x_6 x_7 x_8 x_9 x_10 x_11 x_12 x_13 x_14 x_15 x_16 x_17 x_18 x_19 x) 183 [(0, .ref x_0), (1, .int v1), (2, .int v2), (3, .int v3)] []) :
    ∀ (n9 : Nat) (x : MS) (v3 : Int32), FX8_destroy_L63 v1 v2 k9 n9 x v3 = some res → gG p l e (headSpec wsX8_destroy rX8_destroy).room s m args below meth c 0 0 D (va_A (wM cB cI cJ cZ x_0 x_1 x_2 x_3 x_4 x_5 x_6 x_7 x_8 x_9 x_10 x_11 x_12 x_13 x_14 x_15 x_16 x_17 x_18 x_19 x0) s.heap.size) (va_A (wM cB cI cJ cZ x_0 x_1 x_2 x_3 x_4 x_5 x_6 x_7 x_8 x_9 x_10 x_11 x_12 x_13 x_14 x_15 x_16 x_17 x_18 x_19 x0) s.heap.size) 4 (MQ below (gQi D (wM cB cI cJ cZ x_0 x_1 x_2 x_3 x_4 x_5 x_6 x_7 x_8 x_9 x_10 x_11 x_12 x_13 x_14 x_15 x_16 x_17 x_18 x_19 x0) s.heap.size res.1 (wM cB cI cJ cZ x_0 x_1 x_2 x_3 x_4 x_5 x_6 x_7 x_8 x_9 x_10 x_11 x_12 x_13 x_14 x_15 x_16 x_17 x_18 x_19 res.2)) args s 0 0 (va_A (wM cB cI cJ cZ x_0 x_1 x_2 x_3 x_4 x_5 x_6 x_7 x_8 x_9 x_10 x_11 x_12 x_13 x_14 x_15 x_16 x_17 x_18 x_19 x0) s.heap.size)) (wM cB cI cJ cZ x_0 x_1 x_2 x_3 x_4 x_5 x_6 x_7 x_8 x_9 x_10 x_11 x_12 x_13 x_14 x_15 x_16 x_17 x_18 x_19 x) 63 [(0, .ref x_0), (1, .int v1), (2, .int v2), (3, .int v3)] [] := by
  intro n9
  induction n9 with
  | zero =>
    intro x v3 hF
    exact absurd hF (by simp [FX8_destroy_L63])
  | succ n9 ih9 =>
    intro x v3 hF
    rw [FX8_destroy_L63] at hF
    refine g_iload_n (z := 3) C (tdec DX8_destroy 37 rfl) rfl rfl rfl ?_
    refine g_aload_n (z := 0) C (tdec DX8_destroy 38 rfl) rfl rfl rfl ?_
    refine g_getf (C' := RX8) (T := TX8) (N := 27) (v := .ref x_10) C 0 10 (gIn iw_X8) rfl rfl (by decide) (gMem fl_X8_39) rfl rfl (tdec DX8_destroy 39 rfl) rfl ?_
    refine g_iload_n (z := 1) C (tdec DX8_destroy 40 rfl) rfl rfl rfl ?_
    obtain ⟨r15, y16, hF⟩ := o_bind hF
    refine g_iald C 10 1 rfl rfl y16 (tdec DX8_destroy 41 rfl) rfl ?_
    refine g_icmp_ge (pt := 183) C (tdec DX8_destroy 42 rfl) (by decide) rfl (fun h17 => ?_) (fun h17 => ?_)
    · have hF := o_ifp hF h17
      refine g_sub (L' := [(0, .ref x_0), (1, .int v1), (2, .int v2), (3, .int v3)]) [0, 1, 2, 3] rfl ?_
      exact hk9 _ _ hF
    · have hF := o_ifn hF h17
      refine g_aload_n (z := 0) C (tdec DX8_destroy 43 rfl) rfl rfl rfl ?_
      refine g_getf (C' := RX8) (T := TX8) (N := 27) (v := .ref x_7) C 0 7 (gIn iw_X8) rfl rfl (by decide) (gMem fl_X8_30) rfl rfl (tdec DX8_destroy 44 rfl) rfl ?_
      refine g_bipush (v := 22) C (tdec DX8_destroy 45 rfl) (by decide) rfl ?_
      refine g_iload_n (z := 1) C (tdec DX8_destroy 46 rfl) rfl rfl rfl ?_
      refine g_imul C (tdec DX8_destroy 47 rfl) rfl ?_
      refine g_iconst (v := 2) C (tdec DX8_destroy 48 rfl) (by decide) rfl ?_
      refine g_iadd C (tdec DX8_destroy 49 rfl) rfl ?_
      refine g_iload_n (z := 3) C (tdec DX8_destroy 50 rfl) rfl rfl rfl ?_
      refine g_iadd C (tdec DX8_destroy 51 rfl) rfl ?_
      refine g_aload_n (z := 0) C (tdec DX8_destroy 52 rfl) rfl rfl rfl ?_
      refine g_getf (C' := RX8) (T := TX8) (N := 27) (v := .ref x_7) C 0 7 (gIn iw_X8) rfl rfl (by decide) (gMem fl_X8_30) rfl rfl (tdec DX8_destroy 53 rfl) rfl ?_
      refine g_bipush (v := 22) C (tdec DX8_destroy 54 rfl) (by decide) rfl ?_
      refine g_iload_n (z := 1) C (tdec DX8_destroy 55 rfl) rfl rfl rfl ?_
      refine g_imul C (tdec DX8_destroy 56 rfl) rfl ?_
      refine g_iconst (v := 2) C (tdec DX8_destroy 57 rfl) (by decide) rfl ?_
      refine g_iadd C (tdec DX8_destroy 58 rfl) rfl ?_
      refine g_iload_n (z := 3) C (tdec DX8_destroy 59 rfl) rfl rfl rfl ?_
      refine g_iadd C (tdec DX8_destroy 60 rfl) rfl ?_
      refine g_iconst (v := 1) C (tdec DX8_destroy 61 rfl) (by decide) rfl ?_
      refine g_iadd C (tdec DX8_destroy 62 rfl) rfl ?_
      obtain ⟨r18, y19, hF⟩ := o_bind hF
      refine g_iald C 7 1 rfl rfl y19 (tdec DX8_destroy 63 rfl) rfl ?_
      obtain ⟨g20, y21, hF⟩ := o_bind hF
      refine g_iast (ws' := wM cB cI cJ cZ x_0 x_1 x_2 x_3 x_4 x_5 x_6 x_7 x_8 x_9 x_10 x_11 x_12 x_13 x_14 x_15 x_16 x_17 x_18 x_19 (MS_settt x g20)) C 7 1 rfl rfl y21 rfl (tdec DX8_destroy 64 rfl) rfl ?_
      refine g_aload_n (z := 0) C (tdec DX8_destroy 65 rfl) rfl rfl rfl ?_
      refine g_getf (C' := RX8) (T := TX8) (N := 27) (v := .ref x_8) C 0 8 (gIn iw_X8) rfl rfl (by decide) (gMem fl_X8_33) rfl rfl (tdec DX8_destroy 66 rfl) rfl ?_
      refine g_bipush (v := 22) C (tdec DX8_destroy 67 rfl) (by decide) rfl ?_
      refine g_iload_n (z := 1) C (tdec DX8_destroy 68 rfl) rfl rfl rfl ?_
      refine g_imul C (tdec DX8_destroy 69 rfl) rfl ?_
      refine g_iconst (v := 2) C (tdec DX8_destroy 70 rfl) (by decide) rfl ?_
      refine g_iadd C (tdec DX8_destroy 71 rfl) rfl ?_
      refine g_iload_n (z := 3) C (tdec DX8_destroy 72 rfl) rfl rfl rfl ?_
      refine g_iadd C (tdec DX8_destroy 73 rfl) rfl ?_
      refine g_aload_n (z := 0) C (tdec DX8_destroy 74 rfl) rfl rfl rfl ?_
      refine g_getf (C' := RX8) (T := TX8) (N := 27) (v := .ref x_8) C 0 8 (gIn iw_X8) rfl rfl (by decide) (gMem fl_X8_33) rfl rfl (tdec DX8_destroy 75 rfl) rfl ?_
      refine g_bipush (v := 22) C (tdec DX8_destroy 76 rfl) (by decide) rfl ?_
      refine g_iload_n (z := 1) C (tdec DX8_destroy 77 rfl) rfl rfl rfl ?_
      refine g_imul C (tdec DX8_destroy 78 rfl) rfl ?_
      refine g_iconst (v := 2) C (tdec DX8_destroy 79 rfl) (by decide) rfl ?_
      refine g_iadd C (tdec DX8_destroy 80 rfl) rfl ?_
      refine g_iload_n (z := 3) C (tdec DX8_destroy 81 rfl) rfl rfl rfl ?_
      refine g_iadd C (tdec DX8_destroy 82 rfl) rfl ?_
      refine g_iconst (v := 1) C (tdec DX8_destroy 83 rfl) (by decide) rfl ?_
      refine g_iadd C (tdec DX8_destroy 84 rfl) rfl ?_
      obtain ⟨r22, y23, hF⟩ := o_bind hF
      refine g_iald C 8 1 rfl rfl y23 (tdec DX8_destroy 85 rfl) rfl ?_
      obtain ⟨g24, y25, hF⟩ := o_bind hF
      refine g_iast (ws' := wM cB cI cJ cZ x_0 x_1 x_2 x_3 x_4 x_5 x_6 x_7 x_8 x_9 x_10 x_11 x_12 x_13 x_14 x_15 x_16 x_17 x_18 x_19 (MS_settb (MS_settt x g20) g24)) C 8 1 rfl rfl y25 rfl (tdec DX8_destroy 86 rfl) rfl ?_
      refine g_aload_n (z := 0) C (tdec DX8_destroy 87 rfl) rfl rfl rfl ?_
      refine g_getf (C' := RX8) (T := TX8) (N := 27) (v := .ref x_11) C 0 11 (gIn iw_X8) rfl rfl (by decide) (gMem fl_X8_42) rfl rfl (tdec DX8_destroy 88 rfl) rfl ?_
      refine g_bipush (v := 20) C (tdec DX8_destroy 89 rfl) (by decide) rfl ?_
      refine g_iload_n (z := 1) C (tdec DX8_destroy 90 rfl) rfl rfl rfl ?_
      refine g_imul C (tdec DX8_destroy 91 rfl) rfl ?_
      refine g_iload_n (z := 3) C (tdec DX8_destroy 92 rfl) rfl rfl rfl ?_
      refine g_iadd C (tdec DX8_destroy 93 rfl) rfl ?_
      refine g_aload_n (z := 0) C (tdec DX8_destroy 94 rfl) rfl rfl rfl ?_
      refine g_getf (C' := RX8) (T := TX8) (N := 27) (v := .ref x_11) C 0 11 (gIn iw_X8) rfl rfl (by decide) (gMem fl_X8_42) rfl rfl (tdec DX8_destroy 95 rfl) rfl ?_
      refine g_bipush (v := 20) C (tdec DX8_destroy 96 rfl) (by decide) rfl ?_
      refine g_iload_n (z := 1) C (tdec DX8_destroy 97 rfl) rfl rfl rfl ?_
      refine g_imul C (tdec DX8_destroy 98 rfl) rfl ?_
      refine g_iload_n (z := 3) C (tdec DX8_destroy 99 rfl) rfl rfl rfl ?_
      refine g_iadd C (tdec DX8_destroy 100 rfl) rfl ?_
      refine g_iconst (v := 1) C (tdec DX8_destroy 101 rfl) (by decide) rfl ?_
      refine g_iadd C (tdec DX8_destroy 102 rfl) rfl ?_
      obtain ⟨r26, y27, hF⟩ := o_bind hF
      refine g_iald C 11 1 rfl rfl y27 (tdec DX8_destroy 103 rfl) rfl ?_
      obtain ⟨g28, y29, hF⟩ := o_bind hF
      refine g_iast (ws' := wM cB cI cJ cZ x_0 x_1 x_2 x_3 x_4 x_5 x_6 x_7 x_8 x_9 x_10 x_11 x_12 x_13 x_14 x_15 x_16 x_17 x_18 x_19 (MS_setsg (MS_settb (MS_settt x g20) g24) g28)) C 11 1 rfl rfl y29 rfl (tdec DX8_destroy 104 rfl) rfl ?_
      refine g_aload_n (z := 0) C (tdec DX8_destroy 105 rfl) rfl rfl rfl ?_
      refine g_getf (C' := RX8) (T := TX8) (N := 27) (v := .ref x_12) C 0 12 (gIn iw_X8) rfl rfl (by decide) (gMem fl_X8_45) rfl rfl (tdec DX8_destroy 106 rfl) rfl ?_
      refine g_bipush (v := 20) C (tdec DX8_destroy 107 rfl) (by decide) rfl ?_
      refine g_iload_n (z := 1) C (tdec DX8_destroy 108 rfl) rfl rfl rfl ?_
      refine g_imul C (tdec DX8_destroy 109 rfl) rfl ?_
      refine g_iload_n (z := 3) C (tdec DX8_destroy 110 rfl) rfl rfl rfl ?_
      refine g_iadd C (tdec DX8_destroy 111 rfl) rfl ?_
      refine g_aload_n (z := 0) C (tdec DX8_destroy 112 rfl) rfl rfl rfl ?_
      refine g_getf (C' := RX8) (T := TX8) (N := 27) (v := .ref x_12) C 0 12 (gIn iw_X8) rfl rfl (by decide) (gMem fl_X8_45) rfl rfl (tdec DX8_destroy 113 rfl) rfl ?_
      refine g_bipush (v := 20) C (tdec DX8_destroy 114 rfl) (by decide) rfl ?_
      refine g_iload_n (z := 1) C (tdec DX8_destroy 115 rfl) rfl rfl rfl ?_
      refine g_imul C (tdec DX8_destroy 116 rfl) rfl ?_
      refine g_iload_n (z := 3) C (tdec DX8_destroy 117 rfl) rfl rfl rfl ?_
      refine g_iadd C (tdec DX8_destroy 118 rfl) rfl ?_
      refine g_iconst (v := 1) C (tdec DX8_destroy 119 rfl) (by decide) rfl ?_
      refine g_iadd C (tdec DX8_destroy 120 rfl) rfl ?_
      obtain ⟨r30, y31, hF⟩ := o_bind hF
      refine g_lald C 12 2 rfl rfl y31 (tdec DX8_destroy 121 rfl) rfl ?_
      obtain ⟨g32, y33, hF⟩ := o_bind hF
      refine g_last (ws' := wM cB cI cJ cZ x_0 x_1 x_2 x_3 x_4 x_5 x_6 x_7 x_8 x_9 x_10 x_11 x_12 x_13 x_14 x_15 x_16 x_17 x_18 x_19 (MS_setsm (MS_setsg (MS_settb (MS_settt x g20) g24) g28) g32)) C 12 2 rfl rfl y33 rfl (tdec DX8_destroy 122 rfl) rfl ?_
      refine g_iinc (z := 3) (v := (v3 + 1)) (L' := [(3, .int (v3 + 1)), (0, .ref x_0), (1, .int v1), (2, .int v2)]) C (tdec DX8_destroy 123 rfl) rfl rfl (by decide) rfl rfl ?_
      refine g_goto (pt := 63) C (tdec DX8_destroy 124 rfl) (by decide) ?_
      refine g_sub (L' := [(0, .ref x_0), (1, .int v1), (2, .int v2), (3, .int (v3 + 1))]) [1, 2, 3, 0] rfl ?_
      exact ih9 _ _ hF
set_option maxHeartbeats 4000000 in
set_option maxRecDepth 100000 in
theorem c_X8_destroy (l : Launch) (D : va_G) (cB cI cJ cZ : ClassId) (x_0 x_1 x_2 x_3 x_4 x_5 x_6 x_7 x_8 x_9 x_10 x_11 x_12 x_13 x_14 x_15 x_16 x_17 x_18 x_19 : Nat) {x0 : MS} {p1 : Int32} {p2 : Int32} {res : Int32 × MS} (hF : FX8_destroy x0 p1 p2 = some res) : gMi l yX8_destroy wsX8_destroy rX8_destroy D (gT cB cI cJ cZ) [.ref x_0, .int p1, .int p2] (wM cB cI cJ cZ x_0 x_1 x_2 x_3 x_4 x_5 x_6 x_7 x_8 x_9 x_10 x_11 x_12 x_13 x_14 x_15 x_16 x_17 x_18 x_19 x0) res.1 (wM cB cI cJ cZ x_0 x_1 x_2 x_3 x_4 x_5 x_6 x_7 x_8 x_9 x_10 x_11 x_12 x_13 x_14 x_15 x_16 x_17 x_18 x_19 res.2) := by
  refine g_enter (own := RX8) (free := (fun sz => va_A (wM cB cI cJ cZ x_0 x_1 x_2 x_3 x_4 x_5 x_6 x_7 x_8 x_9 x_10 x_11 x_12 x_13 x_14 x_15 x_16 x_17 x_18 x_19 x0) sz)) (Qc := (fun sz => gQi D (wM cB cI cJ cZ x_0 x_1 x_2 x_3 x_4 x_5 x_6 x_7 x_8 x_9 x_10 x_11 x_12 x_13 x_14 x_15 x_16 x_17 x_18 x_19 x0) sz res.1 (wM cB cI cJ cZ x_0 x_1 x_2 x_3 x_4 x_5 x_6 x_7 x_8 x_9 x_10 x_11 x_12 x_13 x_14 x_15 x_16 x_17 x_18 x_19 res.2))) (fun sz => va_A (wM cB cI cJ cZ x_0 x_1 x_2 x_3 x_4 x_5 x_6 x_7 x_8 x_9 x_10 x_11 x_12 x_13 x_14 x_15 x_16 x_17 x_18 x_19 x0) sz) (fun sz => Or.inr rfl) rfl (by decide) rfl (Nat.le_of_ble_eq_true rfl) rfl ?_
  intro p e s m args below meth c C
  unfold FX8_destroy at hF
  refine g_aload_n (z := 0) C (tdec DX8_destroy 0 rfl) rfl rfl rfl ?_
  refine g_iload_n (z := 1) C (tdec DX8_destroy 1 rfl) rfl rfl rfl ?_
  obtain ⟨r1, y2, hF⟩ := o_bind hF
  refine g_callSiR C (c_X8_isVolume l D cB cI cJ cZ y2) (gIS ml_X8_82 st_X8_isVolume in_X8 cd_X8_isVolume) eX8_isVolume rfl ⟨rfl, rfl⟩ ⟨Nat.le_of_ble_eq_true rfl, Nat.le_of_ble_eq_true rfl⟩ rfl [] rfl rfl rfl (Nat.le_of_ble_eq_true rfl) (tdec DX8_destroy 2 rfl) rfl ?_
  refine g_if_ne (pt := 12) C (tdec DX8_destroy 3 rfl) (by decide) rfl (fun h3 => ?_) (fun h3 => ?_)
  · have hF := o_ifn hF h3
    refine g_aload_n (z := 0) C (tdec DX8_destroy 6 rfl) rfl rfl rfl ?_
    refine g_getf (C' := RX8) (T := TX8) (N := 27) (v := .ref x_13) C 0 13 (gIn iw_X8) rfl rfl (by decide) (gMem fl_X8_48) rfl rfl (tdec DX8_destroy 7 rfl) rfl ?_
    refine g_iload_n (z := 1) C (tdec DX8_destroy 8 rfl) rfl rfl rfl ?_
    obtain ⟨r4, y5, hF⟩ := o_bind hF
    refine g_zald C 13 3 rfl rfl y5 (tdec DX8_destroy 9 rfl) rfl ?_
    refine g_if_eq (pt := 25) C (tdec DX8_destroy 10 rfl) (by decide) rfl (fun h6 => ?_) (fun h6 => ?_)
    · have hF := o_ifp hF h6
      refine g_aload_n (z := 0) C (tdec DX8_destroy 13 rfl) rfl rfl rfl ?_
      refine g_iload_n (z := 1) C (tdec DX8_destroy 14 rfl) rfl rfl rfl ?_
      refine g_iload_n (z := 2) C (tdec DX8_destroy 15 rfl) rfl rfl rfl ?_
      obtain ⟨r7, y8, hF⟩ := o_bind hF
      refine g_callViRS (q0 := 0) (S := [wM cB cI cJ cZ x_0 x_1 x_2 x_3 x_4 x_5 x_6 x_7 x_8 x_9 x_10 x_11 x_12 x_13 x_14 x_15 x_16 x_17 x_18 x_19 x0]) (S0 := [wM cB cI cJ cZ x_0 x_1 x_2 x_3 x_4 x_5 x_6 x_7 x_8 x_9 x_10 x_11 x_12 x_13 x_14 x_15 x_16 x_17 x_18 x_19 x0]) C (c_X8_isSnap l D cB cI cJ cZ x_0 x_1 x_2 x_3 x_4 x_5 x_6 x_7 x_8 x_9 x_10 x_11 x_12 x_13 x_14 x_15 x_16 x_17 x_18 x_19 y8) rfl rfl (gIV ml_X8_141 im_X8_isSnap sl_X8_isSnap in_X8 cd_X8_isSnap) rfl eX8_isSnap rfl ⟨rfl, rfl⟩ ⟨Nat.le_of_ble_eq_true rfl, Nat.le_of_ble_eq_true rfl⟩ rfl rfl rfl [0] rfl rfl rfl (Nat.le_of_ble_eq_true rfl) (tdec DX8_destroy 16 rfl) rfl ?_
      refine g_if_ne (pt := 38) C (tdec DX8_destroy 17 rfl) (by decide) rfl (fun h9 => ?_) (fun h9 => ?_)
      · have hF := o_ifn hF h9
        refine g_iconst (v := 0) C (tdec DX8_destroy 20 rfl) (by decide) rfl ?_
        refine g_putf (C' := RX8) (T := TX8) (N := 27) (v := .int 0) (ws' := wM cB cI cJ cZ x_0 x_1 x_2 x_3 x_4 x_5 x_6 x_7 x_8 x_9 x_10 x_11 x_12 x_13 x_14 x_15 x_16 x_17 x_18 x_19 (MS_setthr x0 0)) C 0 0 tyX8 tyX8_ok nmX8 (gIn iw_X8) rfl rfl (by decide) (gMem fl_X8_78) rfl rfl (tyX8_ok 0 (by decide)) rfl rfl (Nat.le_of_ble_eq_true rfl) rfl (tdec DX8_destroy 21 rfl) rfl ?_
        refine g_aload_n (z := 0) C (tdec DX8_destroy 22 rfl) rfl rfl rfl ?_
        refine g_getf (C' := RX8) (T := TX8) (N := 27) (v := .int 0) C 0 0 (gIn iw_X8) rfl rfl (by decide) (gMem fl_X8_78) rfl rfl (tdec DX8_destroy 23 rfl) rfl ?_
        refine g_if_le (pt := 51) C (tdec DX8_destroy 24 rfl) (by decide) rfl (fun h10 => ?_) (fun h10 => ?_)
        · have hF := o_ifp hF h10
          refine g_aload_n (z := 0) C (tdec DX8_destroy 27 rfl) rfl rfl rfl ?_
          refine g_getf (C' := RX8) (T := TX8) (N := 27) (v := .ref x_10) C 0 10 (gIn iw_X8) rfl rfl (by decide) (gMem fl_X8_39) rfl rfl (tdec DX8_destroy 28 rfl) rfl ?_
          refine g_iload_n (z := 1) C (tdec DX8_destroy 29 rfl) rfl rfl rfl ?_
          refine g_dup2 C (tdec DX8_destroy 30 rfl) rfl rfl rfl ?_
          obtain ⟨r11, y12, hF⟩ := o_bind hF
          refine g_iald C 10 1 rfl rfl y12 (tdec DX8_destroy 31 rfl) rfl ?_
          refine g_iconst (v := 1) C (tdec DX8_destroy 32 rfl) (by decide) rfl ?_
          refine g_isub C (tdec DX8_destroy 33 rfl) rfl ?_
          obtain ⟨g13, y14, hF⟩ := o_bind hF
          refine g_iast (ws' := wM cB cI cJ cZ x_0 x_1 x_2 x_3 x_4 x_5 x_6 x_7 x_8 x_9 x_10 x_11 x_12 x_13 x_14 x_15 x_16 x_17 x_18 x_19 (MS_setsnaps (MS_setthr x0 0) g13)) C 10 1 rfl rfl y14 rfl (tdec DX8_destroy 34 rfl) rfl ?_
          refine g_iload_n (z := 2) C (tdec DX8_destroy 35 rfl) rfl rfl rfl ?_
          refine g_istore_n (L' := [(3, .int p2), (0, .ref x_0), (1, .int p1), (2, .int p2)]) C (tdec DX8_destroy 36 rfl) rfl (by decide) rfl rfl ?_
          refine g_sub (L' := [(0, .ref x_0), (1, .int p1), (2, .int p2), (3, .int p2)]) [1, 2, 3, 0] rfl ?_
          refine c_FX8_destroy_L63 C (fun xq34 w3_34 hF => ?_) 100000 _ _ hF
          refine g_aload_n (z := 0) C (tdec DX8_destroy 125 rfl) rfl rfl rfl ?_
          refine g_iload_n (z := 1) C (tdec DX8_destroy 126 rfl) rfl rfl rfl ?_
          obtain ⟨s35, y36, hF⟩ := o_bind hF
          refine g_callVvMS (q0 := 0) (W' := wM cB cI cJ cZ x_0 x_1 x_2 x_3 x_4 x_5 x_6 x_7 x_8 x_9 x_10 x_11 x_12 x_13 x_14 x_15 x_16 x_17 x_18 x_19 s35) (S := [wM cB cI cJ cZ x_0 x_1 x_2 x_3 x_4 x_5 x_6 x_7 x_8 x_9 x_10 x_11 x_12 x_13 x_14 x_15 x_16 x_17 x_18 x_19 xq34]) (S0 := [wM cB cI cJ cZ x_0 x_1 x_2 x_3 x_4 x_5 x_6 x_7 x_8 x_9 x_10 x_11 x_12 x_13 x_14 x_15 x_16 x_17 x_18 x_19 xq34]) (S1 := [wM cB cI cJ cZ x_0 x_1 x_2 x_3 x_4 x_5 x_6 x_7 x_8 x_9 x_10 x_11 x_12 x_13 x_14 x_15 x_16 x_17 x_18 x_19 s35]) (S' := [wM cB cI cJ cZ x_0 x_1 x_2 x_3 x_4 x_5 x_6 x_7 x_8 x_9 x_10 x_11 x_12 x_13 x_14 x_15 x_16 x_17 x_18 x_19 s35]) C (c_X8_sweeps l D cB cI cJ cZ x_0 x_1 x_2 x_3 x_4 x_5 x_6 x_7 x_8 x_9 x_10 x_11 x_12 x_13 x_14 x_15 x_16 x_17 x_18 x_19 y36) rfl rfl (gIV ml_X8_135 im_X8_sweeps sl_X8_sweeps in_X8 cd_X8_sweeps) rfl eX8_sweeps rfl ⟨rfl, rfl⟩ ⟨Nat.le_of_ble_eq_true rfl, Nat.le_of_ble_eq_true rfl⟩ rfl rfl rfl [0] rfl rfl rfl rfl (gA_cons aM gA_nil) rfl rfl (Nat.le_of_ble_eq_true rfl) (tdec DX8_destroy 127 rfl) rfl ?_
          refine g_aload_n (z := 0) C (tdec DX8_destroy 128 rfl) rfl rfl rfl ?_
          refine g_getf (C' := RX8) (T := TX8) (N := 27) (v := .ref x_10) C 0 10 (gIn iw_X8) rfl rfl (by decide) (gMem fl_X8_39) rfl rfl (tdec DX8_destroy 129 rfl) rfl ?_
          refine g_iload_n (z := 1) C (tdec DX8_destroy 130 rfl) rfl rfl rfl ?_
          obtain ⟨r37, y38, hF⟩ := o_bind hF
          refine g_iald C 10 1 rfl rfl y38 (tdec DX8_destroy 131 rfl) rfl ?_
          have hr9 := o_some hF
          subst hr9
          exact g_iret C rfl rfl (tdec DX8_destroy 132 rfl)
        · have hF := o_ifn hF h10
          refine g_iconst (v := 0) C (tdec DX8_destroy 25 rfl) (by decide) rfl ?_
          have hr9 := o_some hF
          subst hr9
          exact g_iret C rfl rfl (tdec DX8_destroy 26 rfl)
      · have hF := o_ifp hF h9
        refine g_iconst (v := 3) C (tdec DX8_destroy 18 rfl) (by decide) rfl ?_
        refine g_goto (pt := 39) C (tdec DX8_destroy 19 rfl) (by decide) ?_
        refine g_putf (C' := RX8) (T := TX8) (N := 27) (v := .int 3) (ws' := wM cB cI cJ cZ x_0 x_1 x_2 x_3 x_4 x_5 x_6 x_7 x_8 x_9 x_10 x_11 x_12 x_13 x_14 x_15 x_16 x_17 x_18 x_19 (MS_setthr x0 3)) C 0 0 tyX8 tyX8_ok nmX8 (gIn iw_X8) rfl rfl (by decide) (gMem fl_X8_78) rfl rfl (tyX8_ok 0 (by decide)) rfl rfl (Nat.le_of_ble_eq_true rfl) rfl (tdec DX8_destroy 21 rfl) rfl ?_
        refine g_aload_n (z := 0) C (tdec DX8_destroy 22 rfl) rfl rfl rfl ?_
        refine g_getf (C' := RX8) (T := TX8) (N := 27) (v := .int 3) C 0 0 (gIn iw_X8) rfl rfl (by decide) (gMem fl_X8_78) rfl rfl (tdec DX8_destroy 23 rfl) rfl ?_
        refine g_if_le (pt := 51) C (tdec DX8_destroy 24 rfl) (by decide) rfl (fun h39 => ?_) (fun h39 => ?_)
        · have hF := o_ifp hF h39
          refine g_aload_n (z := 0) C (tdec DX8_destroy 27 rfl) rfl rfl rfl ?_
          refine g_getf (C' := RX8) (T := TX8) (N := 27) (v := .ref x_10) C 0 10 (gIn iw_X8) rfl rfl (by decide) (gMem fl_X8_39) rfl rfl (tdec DX8_destroy 28 rfl) rfl ?_
          refine g_iload_n (z := 1) C (tdec DX8_destroy 29 rfl) rfl rfl rfl ?_
          refine g_dup2 C (tdec DX8_destroy 30 rfl) rfl rfl rfl ?_
          obtain ⟨r40, y41, hF⟩ := o_bind hF
          refine g_iald C 10 1 rfl rfl y41 (tdec DX8_destroy 31 rfl) rfl ?_
          refine g_iconst (v := 1) C (tdec DX8_destroy 32 rfl) (by decide) rfl ?_
          refine g_isub C (tdec DX8_destroy 33 rfl) rfl ?_
          obtain ⟨g42, y43, hF⟩ := o_bind hF
          refine g_iast (ws' := wM cB cI cJ cZ x_0 x_1 x_2 x_3 x_4 x_5 x_6 x_7 x_8 x_9 x_10 x_11 x_12 x_13 x_14 x_15 x_16 x_17 x_18 x_19 (MS_setsnaps (MS_setthr x0 3) g42)) C 10 1 rfl rfl y43 rfl (tdec DX8_destroy 34 rfl) rfl ?_
          refine g_iload_n (z := 2) C (tdec DX8_destroy 35 rfl) rfl rfl rfl ?_
          refine g_istore_n (L' := [(3, .int p2), (0, .ref x_0), (1, .int p1), (2, .int p2)]) C (tdec DX8_destroy 36 rfl) rfl (by decide) rfl rfl ?_
          refine g_sub (L' := [(0, .ref x_0), (1, .int p1), (2, .int p2), (3, .int p2)]) [1, 2, 3, 0] rfl ?_
          refine c_FX8_destroy_L63 C (fun xq44 w3_44 hF => ?_) 100000 _ _ hF
          refine g_aload_n (z := 0) C (tdec DX8_destroy 125 rfl) rfl rfl rfl ?_
          refine g_iload_n (z := 1) C (tdec DX8_destroy 126 rfl) rfl rfl rfl ?_
          obtain ⟨s45, y46, hF⟩ := o_bind hF
          refine g_callVvMS (q0 := 0) (W' := wM cB cI cJ cZ x_0 x_1 x_2 x_3 x_4 x_5 x_6 x_7 x_8 x_9 x_10 x_11 x_12 x_13 x_14 x_15 x_16 x_17 x_18 x_19 s45) (S := [wM cB cI cJ cZ x_0 x_1 x_2 x_3 x_4 x_5 x_6 x_7 x_8 x_9 x_10 x_11 x_12 x_13 x_14 x_15 x_16 x_17 x_18 x_19 xq44]) (S0 := [wM cB cI cJ cZ x_0 x_1 x_2 x_3 x_4 x_5 x_6 x_7 x_8 x_9 x_10 x_11 x_12 x_13 x_14 x_15 x_16 x_17 x_18 x_19 xq44]) (S1 := [wM cB cI cJ cZ x_0 x_1 x_2 x_3 x_4 x_5 x_6 x_7 x_8 x_9 x_10 x_11 x_12 x_13 x_14 x_15 x_16 x_17 x_18 x_19 s45]) (S' := [wM cB cI cJ cZ x_0 x_1 x_2 x_3 x_4 x_5 x_6 x_7 x_8 x_9 x_10 x_11 x_12 x_13 x_14 x_15 x_16 x_17 x_18 x_19 s45]) C (c_X8_sweeps l D cB cI cJ cZ x_0 x_1 x_2 x_3 x_4 x_5 x_6 x_7 x_8 x_9 x_10 x_11 x_12 x_13 x_14 x_15 x_16 x_17 x_18 x_19 y46) rfl rfl (gIV ml_X8_135 im_X8_sweeps sl_X8_sweeps in_X8 cd_X8_sweeps) rfl eX8_sweeps rfl ⟨rfl, rfl⟩ ⟨Nat.le_of_ble_eq_true rfl, Nat.le_of_ble_eq_true rfl⟩ rfl rfl rfl [0] rfl rfl rfl rfl (gA_cons aM gA_nil) rfl rfl (Nat.le_of_ble_eq_true rfl) (tdec DX8_destroy 127 rfl) rfl ?_
          refine g_aload_n (z := 0) C (tdec DX8_destroy 128 rfl) rfl rfl rfl ?_
          refine g_getf (C' := RX8) (T := TX8) (N := 27) (v := .ref x_10) C 0 10 (gIn iw_X8) rfl rfl (by decide) (gMem fl_X8_39) rfl rfl (tdec DX8_destroy 129 rfl) rfl ?_
          refine g_iload_n (z := 1) C (tdec DX8_destroy 130 rfl) rfl rfl rfl ?_
          obtain ⟨r47, y48, hF⟩ := o_bind hF
          refine g_iald C 10 1 rfl rfl y48 (tdec DX8_destroy 131 rfl) rfl ?_
          have hr9 := o_some hF
          subst hr9
          exact g_iret C rfl rfl (tdec DX8_destroy 132 rfl)
        · have hF := o_ifn hF h39
          refine g_iconst (v := 0) C (tdec DX8_destroy 25 rfl) (by decide) rfl ?_
          have hr9 := o_some hF
          subst hr9
          exact g_iret C rfl rfl (tdec DX8_destroy 26 rfl)
    · have hF := o_ifn hF h6
      refine g_iconst (v := 2) C (tdec DX8_destroy 11 rfl) (by decide) rfl ?_
      refine g_goto (pt := 39) C (tdec DX8_destroy 12 rfl) (by decide) ?_
      refine g_putf (C' := RX8) (T := TX8) (N := 27) (v := .int 2) (ws' := wM cB cI cJ cZ x_0 x_1 x_2 x_3 x_4 x_5 x_6 x_7 x_8 x_9 x_10 x_11 x_12 x_13 x_14 x_15 x_16 x_17 x_18 x_19 (MS_setthr x0 2)) C 0 0 tyX8 tyX8_ok nmX8 (gIn iw_X8) rfl rfl (by decide) (gMem fl_X8_78) rfl rfl (tyX8_ok 0 (by decide)) rfl rfl (Nat.le_of_ble_eq_true rfl) rfl (tdec DX8_destroy 21 rfl) rfl ?_
      refine g_aload_n (z := 0) C (tdec DX8_destroy 22 rfl) rfl rfl rfl ?_
      refine g_getf (C' := RX8) (T := TX8) (N := 27) (v := .int 2) C 0 0 (gIn iw_X8) rfl rfl (by decide) (gMem fl_X8_78) rfl rfl (tdec DX8_destroy 23 rfl) rfl ?_
      refine g_if_le (pt := 51) C (tdec DX8_destroy 24 rfl) (by decide) rfl (fun h49 => ?_) (fun h49 => ?_)
      · have hF := o_ifp hF h49
        refine g_aload_n (z := 0) C (tdec DX8_destroy 27 rfl) rfl rfl rfl ?_
        refine g_getf (C' := RX8) (T := TX8) (N := 27) (v := .ref x_10) C 0 10 (gIn iw_X8) rfl rfl (by decide) (gMem fl_X8_39) rfl rfl (tdec DX8_destroy 28 rfl) rfl ?_
        refine g_iload_n (z := 1) C (tdec DX8_destroy 29 rfl) rfl rfl rfl ?_
        refine g_dup2 C (tdec DX8_destroy 30 rfl) rfl rfl rfl ?_
        obtain ⟨r50, y51, hF⟩ := o_bind hF
        refine g_iald C 10 1 rfl rfl y51 (tdec DX8_destroy 31 rfl) rfl ?_
        refine g_iconst (v := 1) C (tdec DX8_destroy 32 rfl) (by decide) rfl ?_
        refine g_isub C (tdec DX8_destroy 33 rfl) rfl ?_
        obtain ⟨g52, y53, hF⟩ := o_bind hF
        refine g_iast (ws' := wM cB cI cJ cZ x_0 x_1 x_2 x_3 x_4 x_5 x_6 x_7 x_8 x_9 x_10 x_11 x_12 x_13 x_14 x_15 x_16 x_17 x_18 x_19 (MS_setsnaps (MS_setthr x0 2) g52)) C 10 1 rfl rfl y53 rfl (tdec DX8_destroy 34 rfl) rfl ?_
        refine g_iload_n (z := 2) C (tdec DX8_destroy 35 rfl) rfl rfl rfl ?_
        refine g_istore_n (L' := [(3, .int p2), (0, .ref x_0), (1, .int p1), (2, .int p2)]) C (tdec DX8_destroy 36 rfl) rfl (by decide) rfl rfl ?_
        refine g_sub (L' := [(0, .ref x_0), (1, .int p1), (2, .int p2), (3, .int p2)]) [1, 2, 3, 0] rfl ?_
        refine c_FX8_destroy_L63 C (fun xq54 w3_54 hF => ?_) 100000 _ _ hF
        refine g_aload_n (z := 0) C (tdec DX8_destroy 125 rfl) rfl rfl rfl ?_
        refine g_iload_n (z := 1) C (tdec DX8_destroy 126 rfl) rfl rfl rfl ?_
        obtain ⟨s55, y56, hF⟩ := o_bind hF
        refine g_callVvMS (q0 := 0) (W' := wM cB cI cJ cZ x_0 x_1 x_2 x_3 x_4 x_5 x_6 x_7 x_8 x_9 x_10 x_11 x_12 x_13 x_14 x_15 x_16 x_17 x_18 x_19 s55) (S := [wM cB cI cJ cZ x_0 x_1 x_2 x_3 x_4 x_5 x_6 x_7 x_8 x_9 x_10 x_11 x_12 x_13 x_14 x_15 x_16 x_17 x_18 x_19 xq54]) (S0 := [wM cB cI cJ cZ x_0 x_1 x_2 x_3 x_4 x_5 x_6 x_7 x_8 x_9 x_10 x_11 x_12 x_13 x_14 x_15 x_16 x_17 x_18 x_19 xq54]) (S1 := [wM cB cI cJ cZ x_0 x_1 x_2 x_3 x_4 x_5 x_6 x_7 x_8 x_9 x_10 x_11 x_12 x_13 x_14 x_15 x_16 x_17 x_18 x_19 s55]) (S' := [wM cB cI cJ cZ x_0 x_1 x_2 x_3 x_4 x_5 x_6 x_7 x_8 x_9 x_10 x_11 x_12 x_13 x_14 x_15 x_16 x_17 x_18 x_19 s55]) C (c_X8_sweeps l D cB cI cJ cZ x_0 x_1 x_2 x_3 x_4 x_5 x_6 x_7 x_8 x_9 x_10 x_11 x_12 x_13 x_14 x_15 x_16 x_17 x_18 x_19 y56) rfl rfl (gIV ml_X8_135 im_X8_sweeps sl_X8_sweeps in_X8 cd_X8_sweeps) rfl eX8_sweeps rfl ⟨rfl, rfl⟩ ⟨Nat.le_of_ble_eq_true rfl, Nat.le_of_ble_eq_true rfl⟩ rfl rfl rfl [0] rfl rfl rfl rfl (gA_cons aM gA_nil) rfl rfl (Nat.le_of_ble_eq_true rfl) (tdec DX8_destroy 127 rfl) rfl ?_
        refine g_aload_n (z := 0) C (tdec DX8_destroy 128 rfl) rfl rfl rfl ?_
        refine g_getf (C' := RX8) (T := TX8) (N := 27) (v := .ref x_10) C 0 10 (gIn iw_X8) rfl rfl (by decide) (gMem fl_X8_39) rfl rfl (tdec DX8_destroy 129 rfl) rfl ?_
        refine g_iload_n (z := 1) C (tdec DX8_destroy 130 rfl) rfl rfl rfl ?_
        obtain ⟨r57, y58, hF⟩ := o_bind hF
        refine g_iald C 10 1 rfl rfl y58 (tdec DX8_destroy 131 rfl) rfl ?_
        have hr9 := o_some hF
        subst hr9
        exact g_iret C rfl rfl (tdec DX8_destroy 132 rfl)
      · have hF := o_ifn hF h49
        refine g_iconst (v := 0) C (tdec DX8_destroy 25 rfl) (by decide) rfl ?_
        have hr9 := o_some hF
        subst hr9
        exact g_iret C rfl rfl (tdec DX8_destroy 26 rfl)
  · have hF := o_ifp hF h3
    refine g_iconst (v := 1) C (tdec DX8_destroy 4 rfl) (by decide) rfl ?_
    refine g_goto (pt := 39) C (tdec DX8_destroy 5 rfl) (by decide) ?_
    refine g_putf (C' := RX8) (T := TX8) (N := 27) (v := .int 1) (ws' := wM cB cI cJ cZ x_0 x_1 x_2 x_3 x_4 x_5 x_6 x_7 x_8 x_9 x_10 x_11 x_12 x_13 x_14 x_15 x_16 x_17 x_18 x_19 (MS_setthr x0 1)) C 0 0 tyX8 tyX8_ok nmX8 (gIn iw_X8) rfl rfl (by decide) (gMem fl_X8_78) rfl rfl (tyX8_ok 0 (by decide)) rfl rfl (Nat.le_of_ble_eq_true rfl) rfl (tdec DX8_destroy 21 rfl) rfl ?_
    refine g_aload_n (z := 0) C (tdec DX8_destroy 22 rfl) rfl rfl rfl ?_
    refine g_getf (C' := RX8) (T := TX8) (N := 27) (v := .int 1) C 0 0 (gIn iw_X8) rfl rfl (by decide) (gMem fl_X8_78) rfl rfl (tdec DX8_destroy 23 rfl) rfl ?_
    refine g_if_le (pt := 51) C (tdec DX8_destroy 24 rfl) (by decide) rfl (fun h59 => ?_) (fun h59 => ?_)
    · have hF := o_ifp hF h59
      refine g_aload_n (z := 0) C (tdec DX8_destroy 27 rfl) rfl rfl rfl ?_
      refine g_getf (C' := RX8) (T := TX8) (N := 27) (v := .ref x_10) C 0 10 (gIn iw_X8) rfl rfl (by decide) (gMem fl_X8_39) rfl rfl (tdec DX8_destroy 28 rfl) rfl ?_
      refine g_iload_n (z := 1) C (tdec DX8_destroy 29 rfl) rfl rfl rfl ?_
      refine g_dup2 C (tdec DX8_destroy 30 rfl) rfl rfl rfl ?_
      obtain ⟨r60, y61, hF⟩ := o_bind hF
      refine g_iald C 10 1 rfl rfl y61 (tdec DX8_destroy 31 rfl) rfl ?_
      refine g_iconst (v := 1) C (tdec DX8_destroy 32 rfl) (by decide) rfl ?_
      refine g_isub C (tdec DX8_destroy 33 rfl) rfl ?_
      obtain ⟨g62, y63, hF⟩ := o_bind hF
      refine g_iast (ws' := wM cB cI cJ cZ x_0 x_1 x_2 x_3 x_4 x_5 x_6 x_7 x_8 x_9 x_10 x_11 x_12 x_13 x_14 x_15 x_16 x_17 x_18 x_19 (MS_setsnaps (MS_setthr x0 1) g62)) C 10 1 rfl rfl y63 rfl (tdec DX8_destroy 34 rfl) rfl ?_
      refine g_iload_n (z := 2) C (tdec DX8_destroy 35 rfl) rfl rfl rfl ?_
      refine g_istore_n (L' := [(3, .int p2), (0, .ref x_0), (1, .int p1), (2, .int p2)]) C (tdec DX8_destroy 36 rfl) rfl (by decide) rfl rfl ?_
      refine g_sub (L' := [(0, .ref x_0), (1, .int p1), (2, .int p2), (3, .int p2)]) [1, 2, 3, 0] rfl ?_
      refine c_FX8_destroy_L63 C (fun xq64 w3_64 hF => ?_) 100000 _ _ hF
      refine g_aload_n (z := 0) C (tdec DX8_destroy 125 rfl) rfl rfl rfl ?_
      refine g_iload_n (z := 1) C (tdec DX8_destroy 126 rfl) rfl rfl rfl ?_
      obtain ⟨s65, y66, hF⟩ := o_bind hF
      refine g_callVvMS (q0 := 0) (W' := wM cB cI cJ cZ x_0 x_1 x_2 x_3 x_4 x_5 x_6 x_7 x_8 x_9 x_10 x_11 x_12 x_13 x_14 x_15 x_16 x_17 x_18 x_19 s65) (S := [wM cB cI cJ cZ x_0 x_1 x_2 x_3 x_4 x_5 x_6 x_7 x_8 x_9 x_10 x_11 x_12 x_13 x_14 x_15 x_16 x_17 x_18 x_19 xq64]) (S0 := [wM cB cI cJ cZ x_0 x_1 x_2 x_3 x_4 x_5 x_6 x_7 x_8 x_9 x_10 x_11 x_12 x_13 x_14 x_15 x_16 x_17 x_18 x_19 xq64]) (S1 := [wM cB cI cJ cZ x_0 x_1 x_2 x_3 x_4 x_5 x_6 x_7 x_8 x_9 x_10 x_11 x_12 x_13 x_14 x_15 x_16 x_17 x_18 x_19 s65]) (S' := [wM cB cI cJ cZ x_0 x_1 x_2 x_3 x_4 x_5 x_6 x_7 x_8 x_9 x_10 x_11 x_12 x_13 x_14 x_15 x_16 x_17 x_18 x_19 s65]) C (c_X8_sweeps l D cB cI cJ cZ x_0 x_1 x_2 x_3 x_4 x_5 x_6 x_7 x_8 x_9 x_10 x_11 x_12 x_13 x_14 x_15 x_16 x_17 x_18 x_19 y66) rfl rfl (gIV ml_X8_135 im_X8_sweeps sl_X8_sweeps in_X8 cd_X8_sweeps) rfl eX8_sweeps rfl ⟨rfl, rfl⟩ ⟨Nat.le_of_ble_eq_true rfl, Nat.le_of_ble_eq_true rfl⟩ rfl rfl rfl [0] rfl rfl rfl rfl (gA_cons aM gA_nil) rfl rfl (Nat.le_of_ble_eq_true rfl) (tdec DX8_destroy 127 rfl) rfl ?_
      refine g_aload_n (z := 0) C (tdec DX8_destroy 128 rfl) rfl rfl rfl ?_
      refine g_getf (C' := RX8) (T := TX8) (N := 27) (v := .ref x_10) C 0 10 (gIn iw_X8) rfl rfl (by decide) (gMem fl_X8_39) rfl rfl (tdec DX8_destroy 129 rfl) rfl ?_
      refine g_iload_n (z := 1) C (tdec DX8_destroy 130 rfl) rfl rfl rfl ?_
      obtain ⟨r67, y68, hF⟩ := o_bind hF
      refine g_iald C 10 1 rfl rfl y68 (tdec DX8_destroy 131 rfl) rfl ?_
      have hr9 := o_some hF
      subst hr9
      exact g_iret C rfl rfl (tdec DX8_destroy 132 rfl)
    · have hF := o_ifn hF h59
      refine g_iconst (v := 0) C (tdec DX8_destroy 25 rfl) (by decide) rfl ?_
      have hr9 := o_some hF
      subst hr9
      exact g_iret C rfl rfl (tdec DX8_destroy 26 rfl)
