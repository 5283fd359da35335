/-! PART 21.X8: walks, printed by wip/whole/walk.py -/
def FX8_clears_L86 (v1 : Int32) (v2 : Int32) (v3 : Int32) (v4 : Int32) (k9 : MS → Int32 → Option (Int32 × MS)) : Nat → MS → Int32 → Option (Int32 × MS)
  | 0, _, _ => none
  | n9 + 1, x, v5 =>
    if v5 < 0 then
      k9 x v5
    else
      (ald 4 (MS_way x) v5).bind fun r27 =>
      (FX8_told x v1 r27).bind fun r29 =>
      (FX8_hasNothing x v1 r29).bind fun r31 =>
      if r31 = 0 then
        k9 x v5
      else
        (ald 4 (MS_way x) v5).bind fun r34 =>
        (ald 2 (MS_gen x) v1).bind fun r36 =>
        (FX8_point x v1 r34 (-1) r36).bind fun s38 =>
        FX8_clears_L86 v1 v2 v3 v4 k9 n9 s38 (v5 + (-1))
def FX8_clears (x0 : MS) (p1 : Int32) (p2 : Int32) (p3 : Int32) : Option (Int32 × MS) :=
  (FX8_ways x0 p1 p2 p3).bind fun (r1, s2) =>
  if r1 < 4 then
    some (0, s2)
  else
    (ald 4 (MS_way s2) 3).bind fun r5 =>
    (FX8_told s2 p1 r5).bind fun r7 =>
    if r7 = (-1) then
      some (0, s2)
    else
      (FX8_wanted s2 p1 4 3).bind fun r10 =>
      (FX8_freeMany s2 p1).bind fun r12 =>
      if r10 ≤ r12 then
        (FX8_renews s2 p1 p2 p3 3).bind fun s15 =>
        (FX8_ways s15 p1 p2 p3).bind fun (r17, s18) =>
        (ald 4 (MS_way s18) 3).bind fun r20 =>
        (ald 2 (MS_gen s18) p1).bind fun r22 =>
        (FX8_point s18 p1 r20 (-1) r22).bind fun s24 =>
        FX8_clears_L86 p1 p2 p3 r1 (fun xq40 w5_40 =>
          some (0, xq40)) 100000 s24 2
      else
        some (5, s2)
def rX8_clears : Room := { frames := 2, cells := 0, slots := 0, locals := 54 }
set_option maxHeartbeats 4000000 in
set_option maxRecDepth 100000 in
theorem c_FX8_clears_L86 {p : Program} {l : Launch} {e : Env} {s : State} {m : MethodId} {args : Array Value} {below : List Frame} {meth : Method} {c : Code} {D : va_G} {cB cI cJ cZ : ClassId} {x_0 x_1 x_2 x_3 x_4 x_5 x_6 x_7 x_8 x_9 x_10 x_11 x_12 x_13 x_14 x_15 x_16 x_17 x_18 x_19 : Nat} {x0 : MS} {res : Int32 × MS} (C : gC p s m args meth c cX8_clears 6 RX8 wsX8_clears D (gT cB cI cJ cZ) (some .int) (va_A (wM cB cI cJ cZ x_0 x_1 x_2 x_3 x_4 x_5 x_6 x_7 x_8 x_9 x_10 x_11 x_12 x_13 x_14 x_15 x_16 x_17 x_18 x_19 x0) s.heap.size)) {v1 : Int32} {v2 : Int32} {v3 : Int32} {v4 : Int32} {k9 : MS → Int32 → Option (Int32 × MS)} (hk9 : ∀ (x : MS) (v5 : Int32), k9 x v5 = some res → gG p l e (headSpec wsX8_clears rX8_clears).room s m args below meth c 0 0 D (va_A (wM cB cI cJ cZ x_0 x_1 x_2 x_3 x_4 x_5 x_6 x_7 x_8 x_9 x_10 x_11 x_12 x_13 x_14 x_15 x_16 x_17 x_18 x_19 x0) s.heap.size) (va_A (wM cB cI cJ cZ x_0 x_1 x_2 x_3 x_4 x_5 x_6 x_7 x_8 x_9 x_10 x_11 x_12 x_13 x_14 x_15 x_16 x_17 x_18 x_19 x0) s.heap.size) 6 (MQ below (gQi D (wM cB cI cJ cZ x_0 x_1 x_2 x_3 x_4 x_5 x_6 x_7 x_8 x_9 x_10 x_11 x_12 x_13 x_14 x_15 x_16 x_17 x_18 x_19 x0) s.heap.size res.1 (wM cB cI cJ cZ x_0 x_1 x_2 x_3 x_4 x_5 x_6 x_7 x_8 x_9 x_10 x_11 x_12 x_13 x_14 x_15 x_16 x_17 x_18 x_19 res.2)) args s 0 0 (va_A (wM cB cI cJ cZ x_0 x_1 x_2 x_3 x_4 x_5 x_6 x_7 x_8 x_9 x_10 x_11 x_12 x_13 x_14 x_15 x_16 x_17 x_18 x_19 x0) s.heap.size)) (wM cB cI cJ cZ x_0 x_1 x_2 x_3 x_4 x_5 x_6 x_7 x_8 x_9 x_10 x_11 x_12 x_13 x_14 x_15 x_16 x_17 x_18 x_19 x) 136 [(0, .ref x_0), (1, .int v1), (2, .int v2), (3, .int v3), (4, .int v4), (5, .int v5)] []) :
    ∀ (n9 : Nat) (x : MS) (v5 : Int32), FX8_clears_L86 v1 v2 v3 v4 k9 n9 x v5 = some res → gG p l e (headSpec wsX8_clears rX8_clears).room s m args below meth c 0 0 D (va_A (wM cB cI cJ cZ x_0 x_1 x_2 x_3 x_4 x_5 x_6 x_7 x_8 x_9 x_10 x_11 x_12 x_13 x_14 x_15 x_16 x_17 x_18 x_19 x0) s.heap.size) (va_A (wM cB cI cJ cZ x_0 x_1 x_2 x_3 x_4 x_5 x_6 x_7 x_8 x_9 x_10 x_11 x_12 x_13 x_14 x_15 x_16 x_17 x_18 x_19 x0) s.heap.size) 6 (MQ below (gQi D (wM cB cI cJ cZ x_0 x_1 x_2 x_3 x_4 x_5 x_6 x_7 x_8 x_9 x_10 x_11 x_12 x_13 x_14 x_15 x_16 x_17 x_18 x_19 x0) s.heap.size res.1 (wM cB cI cJ cZ x_0 x_1 x_2 x_3 x_4 x_5 x_6 x_7 x_8 x_9 x_10 x_11 x_12 x_13 x_14 x_15 x_16 x_17 x_18 x_19 res.2)) args s 0 0 (va_A (wM cB cI cJ cZ x_0 x_1 x_2 x_3 x_4 x_5 x_6 x_7 x_8 x_9 x_10 x_11 x_12 x_13 x_14 x_15 x_16 x_17 x_18 x_19 x0) s.heap.size)) (wM cB cI cJ cZ x_0 x_1 x_2 x_3 x_4 x_5 x_6 x_7 x_8 x_9 x_10 x_11 x_12 x_13 x_14 x_15 x_16 x_17 x_18 x_19 x) 86 [(0, .ref x_0), (1, .int v1), (2, .int v2), (3, .int v3), (4, .int v4), (5, .int v5)] [] := by
  intro n9
  induction n9 with
  | zero =>
    intro x v5 hF
    exact absurd hF (by simp [FX8_clears_L86])
  | succ n9 ih9 =>
    intro x v5 hF
    rw [FX8_clears_L86] at hF
    refine g_iload (z := 5) C (tdec DX8_clears 57 rfl) rfl rfl ?_
    refine g_if_lt (pt := 136) C (tdec DX8_clears 58 rfl) (by decide) rfl (fun h26 => ?_) (fun h26 => ?_)
    · have hF := o_ifp hF h26
      refine g_sub (L' := [(0, .ref x_0), (1, .int v1), (2, .int v2), (3, .int v3), (4, .int v4), (5, .int v5)]) [0, 1, 2, 3, 4, 5] rfl ?_
      exact hk9 _ _ hF
    · have hF := o_ifn hF h26
      refine g_aload_n (z := 0) C (tdec DX8_clears 59 rfl) rfl rfl rfl ?_
      refine g_iload_n (z := 1) C (tdec DX8_clears 60 rfl) rfl rfl rfl ?_
      refine g_aload_n (z := 0) C (tdec DX8_clears 61 rfl) rfl rfl rfl ?_
      refine g_iload_n (z := 1) C (tdec DX8_clears 62 rfl) rfl rfl rfl ?_
      refine g_aload_n (z := 0) C (tdec DX8_clears 63 rfl) rfl rfl rfl ?_
      refine g_getf (C' := RX8) (T := TX8) (N := 27) (v := .ref x_19) C 0 25 (gIn iw_X8) rfl rfl (by decide) (gMem fl_X8_71) rfl rfl (tdec DX8_clears 64 rfl) rfl ?_
      refine g_iload (z := 5) C (tdec DX8_clears 65 rfl) rfl rfl ?_
      obtain ⟨r27, y28, hF⟩ := o_bind hF
      refine g_iald C 19 1 rfl rfl y28 (tdec DX8_clears 66 rfl) rfl ?_
      obtain ⟨r29, y30, hF⟩ := o_bind hF
      refine g_callViRS (q0 := 0) (S := [wM cB cI cJ cZ x_0 x_1 x_2 x_3 x_4 x_5 x_6 x_7 x_8 x_9 x_10 x_11 x_12 x_13 x_14 x_15 x_16 x_17 x_18 x_19 x]) (S0 := [wM cB cI cJ cZ x_0 x_1 x_2 x_3 x_4 x_5 x_6 x_7 x_8 x_9 x_10 x_11 x_12 x_13 x_14 x_15 x_16 x_17 x_18 x_19 x]) C (c_X8_told l D cB cI cJ cZ x_0 x_1 x_2 x_3 x_4 x_5 x_6 x_7 x_8 x_9 x_10 x_11 x_12 x_13 x_14 x_15 x_16 x_17 x_18 x_19 y30) rfl rfl (gIV ml_X8_90 im_X8_told sl_X8_told in_X8 cd_X8_told) rfl eX8_told rfl ⟨rfl, rfl⟩ ⟨Nat.le_of_ble_eq_true rfl, Nat.le_of_ble_eq_true rfl⟩ rfl rfl rfl [0] rfl rfl rfl (Nat.le_of_ble_eq_true rfl) (tdec DX8_clears 67 rfl) rfl ?_
      obtain ⟨r31, y32, hF⟩ := o_bind hF
      refine g_callViRS (q0 := 0) (S := [wM cB cI cJ cZ x_0 x_1 x_2 x_3 x_4 x_5 x_6 x_7 x_8 x_9 x_10 x_11 x_12 x_13 x_14 x_15 x_16 x_17 x_18 x_19 x]) (S0 := [wM cB cI cJ cZ x_0 x_1 x_2 x_3 x_4 x_5 x_6 x_7 x_8 x_9 x_10 x_11 x_12 x_13 x_14 x_15 x_16 x_17 x_18 x_19 x]) C (c_X8_hasNothing l D cB cI cJ cZ x_0 x_1 x_2 x_3 x_4 x_5 x_6 x_7 x_8 x_9 x_10 x_11 x_12 x_13 x_14 x_15 x_16 x_17 x_18 x_19 y32) rfl rfl (gIV ml_X8_121 im_X8_hasNothing sl_X8_hasNothing in_X8 cd_X8_hasNothing) rfl eX8_hasNothing rfl ⟨rfl, rfl⟩ ⟨Nat.le_of_ble_eq_true rfl, Nat.le_of_ble_eq_true rfl⟩ rfl rfl rfl [0] rfl rfl rfl (Nat.le_of_ble_eq_true rfl) (tdec DX8_clears 68 rfl) rfl ?_
      refine g_if_eq (pt := 136) C (tdec DX8_clears 69 rfl) (by decide) rfl (fun h33 => ?_) (fun h33 => ?_)
      · have hF := o_ifp hF h33
        refine g_sub (L' := [(0, .ref x_0), (1, .int v1), (2, .int v2), (3, .int v3), (4, .int v4), (5, .int v5)]) [0, 1, 2, 3, 4, 5] rfl ?_
        exact hk9 _ _ hF
      · have hF := o_ifn hF h33
        refine g_aload_n (z := 0) C (tdec DX8_clears 70 rfl) rfl rfl rfl ?_
        refine g_iload_n (z := 1) C (tdec DX8_clears 71 rfl) rfl rfl rfl ?_
        refine g_aload_n (z := 0) C (tdec DX8_clears 72 rfl) rfl rfl rfl ?_
        refine g_getf (C' := RX8) (T := TX8) (N := 27) (v := .ref x_19) C 0 25 (gIn iw_X8) rfl rfl (by decide) (gMem fl_X8_71) rfl rfl (tdec DX8_clears 73 rfl) rfl ?_
        refine g_iload (z := 5) C (tdec DX8_clears 74 rfl) rfl rfl ?_
        obtain ⟨r34, y35, hF⟩ := o_bind hF
        refine g_iald C 19 1 rfl rfl y35 (tdec DX8_clears 75 rfl) rfl ?_
        refine g_iconst (v := (-1)) C (tdec DX8_clears 76 rfl) (by decide) rfl ?_
        refine g_aload_n (z := 0) C (tdec DX8_clears 77 rfl) rfl rfl rfl ?_
        refine g_getf (C' := RX8) (T := TX8) (N := 27) (v := .ref x_9) C 0 9 (gIn iw_X8) rfl rfl (by decide) (gMem fl_X8_36) rfl rfl (tdec DX8_clears 78 rfl) rfl ?_
        refine g_iload_n (z := 1) C (tdec DX8_clears 79 rfl) rfl rfl rfl ?_
        obtain ⟨r36, y37, hF⟩ := o_bind hF
        refine g_iald C 9 1 rfl rfl y37 (tdec DX8_clears 80 rfl) rfl ?_
        obtain ⟨s38, y39, hF⟩ := o_bind hF
        refine g_callVvMS (q0 := 0) (W' := wM cB cI cJ cZ x_0 x_1 x_2 x_3 x_4 x_5 x_6 x_7 x_8 x_9 x_10 x_11 x_12 x_13 x_14 x_15 x_16 x_17 x_18 x_19 s38) (S := [wM cB cI cJ cZ x_0 x_1 x_2 x_3 x_4 x_5 x_6 x_7 x_8 x_9 x_10 x_11 x_12 x_13 x_14 x_15 x_16 x_17 x_18 x_19 x]) (S0 := [wM cB cI cJ cZ x_0 x_1 x_2 x_3 x_4 x_5 x_6 x_7 x_8 x_9 x_10 x_11 x_12 x_13 x_14 x_15 x_16 x_17 x_18 x_19 x]) (S1 := [wM cB cI cJ cZ x_0 x_1 x_2 x_3 x_4 x_5 x_6 x_7 x_8 x_9 x_10 x_11 x_12 x_13 x_14 x_15 x_16 x_17 x_18 x_19 s38]) (S' := [wM cB cI cJ cZ x_0 x_1 x_2 x_3 x_4 x_5 x_6 x_7 x_8 x_9 x_10 x_11 x_12 x_13 x_14 x_15 x_16 x_17 x_18 x_19 s38]) C (c_X8_point l D cB cI cJ cZ x_0 x_1 x_2 x_3 x_4 x_5 x_6 x_7 x_8 x_9 x_10 x_11 x_12 x_13 x_14 x_15 x_16 x_17 x_18 x_19 y39) rfl rfl (gIV ml_X8_103 im_X8_point sl_X8_point in_X8 cd_X8_point) rfl eX8_point rfl ⟨rfl, rfl⟩ ⟨Nat.le_of_ble_eq_true rfl, Nat.le_of_ble_eq_true rfl⟩ rfl rfl rfl [0] rfl rfl rfl rfl (gA_cons aM gA_nil) rfl rfl (Nat.le_of_ble_eq_true rfl) (tdec DX8_clears 81 rfl) rfl ?_
        refine g_iinc (z := 5) (v := (v5 + (-1))) (L' := [(5, .int (v5 + (-1))), (0, .ref x_0), (1, .int v1), (2, .int v2), (3, .int v3), (4, .int v4)]) C (tdec DX8_clears 82 rfl) rfl rfl (by decide) rfl rfl ?_
        refine g_goto (pt := 86) C (tdec DX8_clears 83 rfl) (by decide) ?_
        refine g_sub (L' := [(0, .ref x_0), (1, .int v1), (2, .int v2), (3, .int v3), (4, .int v4), (5, .int (v5 + (-1)))]) [1, 2, 3, 4, 5, 0] rfl ?_
        exact ih9 _ _ hF
set_option maxHeartbeats 4000000 in
set_option maxRecDepth 100000 in
theorem c_X8_clears (l : Launch) (D : va_G) (cB cI cJ cZ : ClassId) (x_0 x_1 x_2 x_3 x_4 x_5 x_6 x_7 x_8 x_9 x_10 x_11 x_12 x_13 x_14 x_15 x_16 x_17 x_18 x_19 : Nat) {x0 : MS} {p1 : Int32} {p2 : Int32} {p3 : Int32} {res : Int32 × MS} (hF : FX8_clears x0 p1 p2 p3 = some res) : gMi l yX8_clears wsX8_clears rX8_clears D (gT cB cI cJ cZ) [.ref x_0, .int p1, .int p2, .int p3] (wM cB cI cJ cZ x_0 x_1 x_2 x_3 x_4 x_5 x_6 x_7 x_8 x_9 x_10 x_11 x_12 x_13 x_14 x_15 x_16 x_17 x_18 x_19 x0) res.1 (wM cB cI cJ cZ x_0 x_1 x_2 x_3 x_4 x_5 x_6 x_7 x_8 x_9 x_10 x_11 x_12 x_13 x_14 x_15 x_16 x_17 x_18 x_19 res.2) := by
  refine g_enter (own := RX8) (free := (fun sz => va_A (wM cB cI cJ cZ x_0 x_1 x_2 x_3 x_4 x_5 x_6 x_7 x_8 x_9 x_10 x_11 x_12 x_13 x_14 x_15 x_16 x_17 x_18 x_19 x0) sz)) (Qc := (fun sz => gQi D (wM cB cI cJ cZ x_0 x_1 x_2 x_3 x_4 x_5 x_6 x_7 x_8 x_9 x_10 x_11 x_12 x_13 x_14 x_15 x_16 x_17 x_18 x_19 x0) sz res.1 (wM cB cI cJ cZ x_0 x_1 x_2 x_3 x_4 x_5 x_6 x_7 x_8 x_9 x_10 x_11 x_12 x_13 x_14 x_15 x_16 x_17 x_18 x_19 res.2))) (fun sz => va_A (wM cB cI cJ cZ x_0 x_1 x_2 x_3 x_4 x_5 x_6 x_7 x_8 x_9 x_10 x_11 x_12 x_13 x_14 x_15 x_16 x_17 x_18 x_19 x0) sz) (fun sz => Or.inr rfl) rfl (by decide) rfl (Nat.le_of_ble_eq_true rfl) rfl ?_
  intro p e s m args below meth c C
  unfold FX8_clears at hF
  refine g_aload_n (z := 0) C (tdec DX8_clears 0 rfl) rfl rfl rfl ?_
  refine g_iload_n (z := 1) C (tdec DX8_clears 1 rfl) rfl rfl rfl ?_
  refine g_iload_n (z := 2) C (tdec DX8_clears 2 rfl) rfl rfl rfl ?_
  refine g_iload_n (z := 3) C (tdec DX8_clears 3 rfl) rfl rfl rfl ?_
  obtain ⟨⟨r1, s2⟩, y3, hF⟩ := o_bind hF
  refine g_callViMS (q0 := 0) (W' := wM cB cI cJ cZ x_0 x_1 x_2 x_3 x_4 x_5 x_6 x_7 x_8 x_9 x_10 x_11 x_12 x_13 x_14 x_15 x_16 x_17 x_18 x_19 s2) (S := [wM cB cI cJ cZ x_0 x_1 x_2 x_3 x_4 x_5 x_6 x_7 x_8 x_9 x_10 x_11 x_12 x_13 x_14 x_15 x_16 x_17 x_18 x_19 x0]) (S0 := [wM cB cI cJ cZ x_0 x_1 x_2 x_3 x_4 x_5 x_6 x_7 x_8 x_9 x_10 x_11 x_12 x_13 x_14 x_15 x_16 x_17 x_18 x_19 x0]) (S1 := [wM cB cI cJ cZ x_0 x_1 x_2 x_3 x_4 x_5 x_6 x_7 x_8 x_9 x_10 x_11 x_12 x_13 x_14 x_15 x_16 x_17 x_18 x_19 s2]) (S' := [wM cB cI cJ cZ x_0 x_1 x_2 x_3 x_4 x_5 x_6 x_7 x_8 x_9 x_10 x_11 x_12 x_13 x_14 x_15 x_16 x_17 x_18 x_19 s2]) C (c_X8_ways l D cB cI cJ cZ x_0 x_1 x_2 x_3 x_4 x_5 x_6 x_7 x_8 x_9 x_10 x_11 x_12 x_13 x_14 x_15 x_16 x_17 x_18 x_19 y3) rfl rfl (gIV ml_X8_107 im_X8_ways sl_X8_ways in_X8 cd_X8_ways) rfl eX8_ways rfl ⟨rfl, rfl⟩ ⟨Nat.le_of_ble_eq_true rfl, Nat.le_of_ble_eq_true rfl⟩ rfl rfl rfl [0] rfl rfl rfl rfl (gA_cons aM gA_nil) rfl rfl (Nat.le_of_ble_eq_true rfl) (tdec DX8_clears 4 rfl) rfl ?_
  refine g_istore (L' := [(4, .int r1), (0, .ref x_0), (1, .int p1), (2, .int p2), (3, .int p3)]) C (tdec DX8_clears 5 rfl) (by decide) rfl rfl ?_
  refine g_iload (z := 0) C (tdec DX8_clears 6 rfl) rfl rfl ?_
  refine g_iconst (v := 4) C (tdec DX8_clears 7 rfl) (by decide) rfl ?_
  refine g_icmp_lt (pt := 30) C (tdec DX8_clears 8 rfl) (by decide) rfl (fun h4 => ?_) (fun h4 => ?_)
  · have hF := o_ifp hF h4
    refine g_iconst (v := 0) C (tdec DX8_clears 18 rfl) (by decide) rfl ?_
    have hr9 := o_some hF
    subst hr9
    exact g_iret C rfl rfl (tdec DX8_clears 19 rfl)
  · have hF := o_ifn hF h4
    refine g_aload_n (z := 1) C (tdec DX8_clears 9 rfl) rfl rfl rfl ?_
    refine g_iload_n (z := 2) C (tdec DX8_clears 10 rfl) rfl rfl rfl ?_
    refine g_aload_n (z := 1) C (tdec DX8_clears 11 rfl) rfl rfl rfl ?_
    refine g_getf (C' := RX8) (T := TX8) (N := 27) (v := .ref x_19) C 0 25 (gIn iw_X8) rfl rfl (by decide) (gMem fl_X8_71) rfl rfl (tdec DX8_clears 12 rfl) rfl ?_
    refine g_iconst (v := 3) C (tdec DX8_clears 13 rfl) (by decide) rfl ?_
    obtain ⟨r5, y6, hF⟩ := o_bind hF
    refine g_iald C 19 1 rfl rfl y6 (tdec DX8_clears 14 rfl) rfl ?_
    obtain ⟨r7, y8, hF⟩ := o_bind hF
    refine g_callViRS (q0 := 0) (S := [wM cB cI cJ cZ x_0 x_1 x_2 x_3 x_4 x_5 x_6 x_7 x_8 x_9 x_10 x_11 x_12 x_13 x_14 x_15 x_16 x_17 x_18 x_19 s2]) (S0 := [wM cB cI cJ cZ x_0 x_1 x_2 x_3 x_4 x_5 x_6 x_7 x_8 x_9 x_10 x_11 x_12 x_13 x_14 x_15 x_16 x_17 x_18 x_19 s2]) C (c_X8_told l D cB cI cJ cZ x_0 x_1 x_2 x_3 x_4 x_5 x_6 x_7 x_8 x_9 x_10 x_11 x_12 x_13 x_14 x_15 x_16 x_17 x_18 x_19 y8) rfl rfl (gIV ml_X8_90 im_X8_told sl_X8_told in_X8 cd_X8_told) rfl eX8_told rfl ⟨rfl, rfl⟩ ⟨Nat.le_of_ble_eq_true rfl, Nat.le_of_ble_eq_true rfl⟩ rfl rfl rfl [0] rfl rfl rfl (Nat.le_of_ble_eq_true rfl) (tdec DX8_clears 15 rfl) rfl ?_
    refine g_iconst (v := (-1)) C (tdec DX8_clears 16 rfl) (by decide) rfl ?_
    refine g_icmp_ne (pt := 32) C (tdec DX8_clears 17 rfl) (by decide) rfl (fun h9 => ?_) (fun h9 => ?_)
    · have hF := o_ifn hF h9
      refine g_aload_n (z := 1) C (tdec DX8_clears 20 rfl) rfl rfl rfl ?_
      refine g_iload_n (z := 2) C (tdec DX8_clears 21 rfl) rfl rfl rfl ?_
      refine g_iconst (v := 4) C (tdec DX8_clears 22 rfl) (by decide) rfl ?_
      refine g_iconst (v := 3) C (tdec DX8_clears 23 rfl) (by decide) rfl ?_
      obtain ⟨r10, y11, hF⟩ := o_bind hF
      refine g_callViRS (q0 := 0) (S := [wM cB cI cJ cZ x_0 x_1 x_2 x_3 x_4 x_5 x_6 x_7 x_8 x_9 x_10 x_11 x_12 x_13 x_14 x_15 x_16 x_17 x_18 x_19 s2]) (S0 := [wM cB cI cJ cZ x_0 x_1 x_2 x_3 x_4 x_5 x_6 x_7 x_8 x_9 x_10 x_11 x_12 x_13 x_14 x_15 x_16 x_17 x_18 x_19 s2]) C (c_X8_wanted l D cB cI cJ cZ x_0 x_1 x_2 x_3 x_4 x_5 x_6 x_7 x_8 x_9 x_10 x_11 x_12 x_13 x_14 x_15 x_16 x_17 x_18 x_19 y11) rfl rfl (gIV ml_X8_111 im_X8_wanted sl_X8_wanted in_X8 cd_X8_wanted) rfl eX8_wanted rfl ⟨rfl, rfl⟩ ⟨Nat.le_of_ble_eq_true rfl, Nat.le_of_ble_eq_true rfl⟩ rfl rfl rfl [0] rfl rfl rfl (Nat.le_of_ble_eq_true rfl) (tdec DX8_clears 24 rfl) rfl ?_
      refine g_aload_n (z := 1) C (tdec DX8_clears 25 rfl) rfl rfl rfl ?_
      refine g_iload_n (z := 2) C (tdec DX8_clears 26 rfl) rfl rfl rfl ?_
      obtain ⟨r12, y13, hF⟩ := o_bind hF
      refine g_callViRS (q0 := 0) (S := [wM cB cI cJ cZ x_0 x_1 x_2 x_3 x_4 x_5 x_6 x_7 x_8 x_9 x_10 x_11 x_12 x_13 x_14 x_15 x_16 x_17 x_18 x_19 s2]) (S0 := [wM cB cI cJ cZ x_0 x_1 x_2 x_3 x_4 x_5 x_6 x_7 x_8 x_9 x_10 x_11 x_12 x_13 x_14 x_15 x_16 x_17 x_18 x_19 s2]) C (c_X8_freeMany l D cB cI cJ cZ x_0 x_1 x_2 x_3 x_4 x_5 x_6 x_7 x_8 x_9 x_10 x_11 x_12 x_13 x_14 x_15 x_16 x_17 x_18 x_19 y13) rfl rfl (gIV ml_X8_114 im_X8_freeMany sl_X8_freeMany in_X8 cd_X8_freeMany) rfl eX8_freeMany rfl ⟨rfl, rfl⟩ ⟨Nat.le_of_ble_eq_true rfl, Nat.le_of_ble_eq_true rfl⟩ rfl rfl rfl [0] rfl rfl rfl (Nat.le_of_ble_eq_true rfl) (tdec DX8_clears 27 rfl) rfl ?_
      refine g_icmp_le (pt := 49) C (tdec DX8_clears 28 rfl) (by decide) rfl (fun h14 => ?_) (fun h14 => ?_)
      · have hF := o_ifp hF h14
        refine g_aload_n (z := 1) C (tdec DX8_clears 31 rfl) rfl rfl rfl ?_
        refine g_iload_n (z := 2) C (tdec DX8_clears 32 rfl) rfl rfl rfl ?_
        refine g_iload_n (z := 3) C (tdec DX8_clears 33 rfl) rfl rfl rfl ?_
        refine g_iload_n (z := 4) C (tdec DX8_clears 34 rfl) rfl rfl rfl ?_
        refine g_iconst (v := 3) C (tdec DX8_clears 35 rfl) (by decide) rfl ?_
        obtain ⟨s15, y16, hF⟩ := o_bind hF
        refine g_callVvMS (q0 := 0) (W' := wM cB cI cJ cZ x_0 x_1 x_2 x_3 x_4 x_5 x_6 x_7 x_8 x_9 x_10 x_11 x_12 x_13 x_14 x_15 x_16 x_17 x_18 x_19 s15) (S := [wM cB cI cJ cZ x_0 x_1 x_2 x_3 x_4 x_5 x_6 x_7 x_8 x_9 x_10 x_11 x_12 x_13 x_14 x_15 x_16 x_17 x_18 x_19 s2]) (S0 := [wM cB cI cJ cZ x_0 x_1 x_2 x_3 x_4 x_5 x_6 x_7 x_8 x_9 x_10 x_11 x_12 x_13 x_14 x_15 x_16 x_17 x_18 x_19 s2]) (S1 := [wM cB cI cJ cZ x_0 x_1 x_2 x_3 x_4 x_5 x_6 x_7 x_8 x_9 x_10 x_11 x_12 x_13 x_14 x_15 x_16 x_17 x_18 x_19 s15]) (S' := [wM cB cI cJ cZ x_0 x_1 x_2 x_3 x_4 x_5 x_6 x_7 x_8 x_9 x_10 x_11 x_12 x_13 x_14 x_15 x_16 x_17 x_18 x_19 s15]) C (c_X8_renews l D cB cI cJ cZ x_0 x_1 x_2 x_3 x_4 x_5 x_6 x_7 x_8 x_9 x_10 x_11 x_12 x_13 x_14 x_15 x_16 x_17 x_18 x_19 y16) rfl rfl (gIV ml_X8_118 im_X8_renews sl_X8_renews in_X8 cd_X8_renews) rfl eX8_renews rfl ⟨rfl, rfl⟩ ⟨Nat.le_of_ble_eq_true rfl, Nat.le_of_ble_eq_true rfl⟩ rfl rfl rfl [0] rfl rfl rfl rfl (gA_cons aM gA_nil) rfl rfl (Nat.le_of_ble_eq_true rfl) (tdec DX8_clears 36 rfl) rfl ?_
        refine g_aload_n (z := 1) C (tdec DX8_clears 37 rfl) rfl rfl rfl ?_
        refine g_iload_n (z := 2) C (tdec DX8_clears 38 rfl) rfl rfl rfl ?_
        refine g_iload_n (z := 3) C (tdec DX8_clears 39 rfl) rfl rfl rfl ?_
        refine g_iload_n (z := 4) C (tdec DX8_clears 40 rfl) rfl rfl rfl ?_
        obtain ⟨⟨r17, s18⟩, y19, hF⟩ := o_bind hF
        refine g_callViMS (q0 := 0) (W' := wM cB cI cJ cZ x_0 x_1 x_2 x_3 x_4 x_5 x_6 x_7 x_8 x_9 x_10 x_11 x_12 x_13 x_14 x_15 x_16 x_17 x_18 x_19 s18) (S := [wM cB cI cJ cZ x_0 x_1 x_2 x_3 x_4 x_5 x_6 x_7 x_8 x_9 x_10 x_11 x_12 x_13 x_14 x_15 x_16 x_17 x_18 x_19 s15]) (S0 := [wM cB cI cJ cZ x_0 x_1 x_2 x_3 x_4 x_5 x_6 x_7 x_8 x_9 x_10 x_11 x_12 x_13 x_14 x_15 x_16 x_17 x_18 x_19 s15]) (S1 := [wM cB cI cJ cZ x_0 x_1 x_2 x_3 x_4 x_5 x_6 x_7 x_8 x_9 x_10 x_11 x_12 x_13 x_14 x_15 x_16 x_17 x_18 x_19 s18]) (S' := [wM cB cI cJ cZ x_0 x_1 x_2 x_3 x_4 x_5 x_6 x_7 x_8 x_9 x_10 x_11 x_12 x_13 x_14 x_15 x_16 x_17 x_18 x_19 s18]) C (c_X8_ways l D cB cI cJ cZ x_0 x_1 x_2 x_3 x_4 x_5 x_6 x_7 x_8 x_9 x_10 x_11 x_12 x_13 x_14 x_15 x_16 x_17 x_18 x_19 y19) rfl rfl (gIV ml_X8_107 im_X8_ways sl_X8_ways in_X8 cd_X8_ways) rfl eX8_ways rfl ⟨rfl, rfl⟩ ⟨Nat.le_of_ble_eq_true rfl, Nat.le_of_ble_eq_true rfl⟩ rfl rfl rfl [0] rfl rfl rfl rfl (gA_cons aM gA_nil) rfl rfl (Nat.le_of_ble_eq_true rfl) (tdec DX8_clears 41 rfl) rfl ?_
        refine g_pop C (tdec DX8_clears 42 rfl) rfl rfl ?_
        refine g_aload_n (z := 1) C (tdec DX8_clears 43 rfl) rfl rfl rfl ?_
        refine g_iload_n (z := 2) C (tdec DX8_clears 44 rfl) rfl rfl rfl ?_
        refine g_aload_n (z := 1) C (tdec DX8_clears 45 rfl) rfl rfl rfl ?_
        refine g_getf (C' := RX8) (T := TX8) (N := 27) (v := .ref x_19) C 0 25 (gIn iw_X8) rfl rfl (by decide) (gMem fl_X8_71) rfl rfl (tdec DX8_clears 46 rfl) rfl ?_
        refine g_iconst (v := 3) C (tdec DX8_clears 47 rfl) (by decide) rfl ?_
        obtain ⟨r20, y21, hF⟩ := o_bind hF
        refine g_iald C 19 1 rfl rfl y21 (tdec DX8_clears 48 rfl) rfl ?_
        refine g_iconst (v := (-1)) C (tdec DX8_clears 49 rfl) (by decide) rfl ?_
        refine g_aload_n (z := 1) C (tdec DX8_clears 50 rfl) rfl rfl rfl ?_
        refine g_getf (C' := RX8) (T := TX8) (N := 27) (v := .ref x_9) C 0 9 (gIn iw_X8) rfl rfl (by decide) (gMem fl_X8_36) rfl rfl (tdec DX8_clears 51 rfl) rfl ?_
        refine g_iload_n (z := 2) C (tdec DX8_clears 52 rfl) rfl rfl rfl ?_
        obtain ⟨r22, y23, hF⟩ := o_bind hF
        refine g_iald C 9 1 rfl rfl y23 (tdec DX8_clears 53 rfl) rfl ?_
        obtain ⟨s24, y25, hF⟩ := o_bind hF
        refine g_callVvMS (q0 := 0) (W' := wM cB cI cJ cZ x_0 x_1 x_2 x_3 x_4 x_5 x_6 x_7 x_8 x_9 x_10 x_11 x_12 x_13 x_14 x_15 x_16 x_17 x_18 x_19 s24) (S := [wM cB cI cJ cZ x_0 x_1 x_2 x_3 x_4 x_5 x_6 x_7 x_8 x_9 x_10 x_11 x_12 x_13 x_14 x_15 x_16 x_17 x_18 x_19 s18]) (S0 := [wM cB cI cJ cZ x_0 x_1 x_2 x_3 x_4 x_5 x_6 x_7 x_8 x_9 x_10 x_11 x_12 x_13 x_14 x_15 x_16 x_17 x_18 x_19 s18]) (S1 := [wM cB cI cJ cZ x_0 x_1 x_2 x_3 x_4 x_5 x_6 x_7 x_8 x_9 x_10 x_11 x_12 x_13 x_14 x_15 x_16 x_17 x_18 x_19 s24]) (S' := [wM cB cI cJ cZ x_0 x_1 x_2 x_3 x_4 x_5 x_6 x_7 x_8 x_9 x_10 x_11 x_12 x_13 x_14 x_15 x_16 x_17 x_18 x_19 s24]) C (c_X8_point l D cB cI cJ cZ x_0 x_1 x_2 x_3 x_4 x_5 x_6 x_7 x_8 x_9 x_10 x_11 x_12 x_13 x_14 x_15 x_16 x_17 x_18 x_19 y25) rfl rfl (gIV ml_X8_103 im_X8_point sl_X8_point in_X8 cd_X8_point) rfl eX8_point rfl ⟨rfl, rfl⟩ ⟨Nat.le_of_ble_eq_true rfl, Nat.le_of_ble_eq_true rfl⟩ rfl rfl rfl [0] rfl rfl rfl rfl (gA_cons aM gA_nil) rfl rfl (Nat.le_of_ble_eq_true rfl) (tdec DX8_clears 54 rfl) rfl ?_
        refine g_iconst (v := 2) C (tdec DX8_clears 55 rfl) (by decide) rfl ?_
        refine g_istore (L' := [(5, .int 2), (4, .int r1), (0, .ref x_0), (1, .int p1), (2, .int p2), (3, .int p3)]) C (tdec DX8_clears 56 rfl) (by decide) rfl rfl ?_
        refine g_sub (L' := [(0, .ref x_0), (1, .int p1), (2, .int p2), (3, .int p3), (4, .int r1), (5, .int 2)]) [2, 3, 4, 5, 1, 0] rfl ?_
        refine c_FX8_clears_L86 C (fun xq40 w5_40 hF => ?_) 100000 _ _ hF
        refine g_iconst (v := 0) C (tdec DX8_clears 84 rfl) (by decide) rfl ?_
        have hr9 := o_some hF
        subst hr9
        exact g_iret C rfl rfl (tdec DX8_clears 85 rfl)
      · have hF := o_ifn hF h14
        refine g_iconst (v := 5) C (tdec DX8_clears 29 rfl) (by decide) rfl ?_
        have hr9 := o_some hF
        subst hr9
        exact g_iret C rfl rfl (tdec DX8_clears 30 rfl)
    · have hF := o_ifp hF h9
      refine g_iconst (v := 0) C (tdec DX8_clears 18 rfl) (by decide) rfl ?_
      have hr9 := o_some hF
      subst hr9
      exact g_iret C rfl rfl (tdec DX8_clears 19 rfl)
def FX8_isPlace (p0 : Int32) : Option (Int32) :=
  if p0 < 0 then
    some 0
  else
    if 512 ≤ p0 then
      some 0
    else
      some 1
def rX8_isPlace : Room := { frames := 0, cells := 0, slots := 0, locals := 0 }
set_option maxHeartbeats 4000000 in
set_option maxRecDepth 100000 in
theorem c_X8_isPlace (l : Launch) (D : va_G) (cB cI cJ cZ : ClassId) {p0 : Int32} {res : Int32} (hF : FX8_isPlace p0 = some res) : gRi l yX8_isPlace wsX8_isPlace rX8_isPlace D (gT cB cI cJ cZ) [.int p0] ([]) res := by
  refine g_enter (own := RX8) (free := (fun _ _ => False)) (Qc := (fun sz => gRQi res)) (fun _ _ => True) (fun sz => Or.inl rfl) rfl (by decide) rfl (Nat.le_of_ble_eq_true rfl) rfl ?_
  intro p e s m args below meth c C
  unfold FX8_isPlace at hF
  refine g_iload_n (z := 0) C (tdec DX8_isPlace 0 rfl) rfl rfl rfl ?_
  refine g_if_lt (pt := 15) C (tdec DX8_isPlace 1 rfl) (by decide) rfl (fun h1 => ?_) (fun h1 => ?_)
  · have hF := o_ifp hF h1
    refine g_iconst (v := 0) C (tdec DX8_isPlace 7 rfl) (by decide) rfl ?_
    have hr9 := o_some hF
    subst hr9
    exact g_zretR C rfl rfl (tdec DX8_isPlace 8 rfl)
  · have hF := o_ifn hF h1
    refine g_iload_n (z := 0) C (tdec DX8_isPlace 2 rfl) rfl rfl rfl ?_
    refine g_sipush (v := 512) C (tdec DX8_isPlace 3 rfl) (by decide) rfl ?_
    refine g_icmp_ge (pt := 15) C (tdec DX8_isPlace 4 rfl) (by decide) rfl (fun h2 => ?_) (fun h2 => ?_)
    · have hF := o_ifp hF h2
      refine g_iconst (v := 0) C (tdec DX8_isPlace 7 rfl) (by decide) rfl ?_
      have hr9 := o_some hF
      subst hr9
      exact g_zretR C rfl rfl (tdec DX8_isPlace 8 rfl)
    · have hF := o_ifn hF h2
      refine g_iconst (v := 1) C (tdec DX8_isPlace 5 rfl) (by decide) rfl ?_
      refine g_goto (pt := 16) C (tdec DX8_isPlace 6 rfl) (by decide) ?_
      have hr9 := o_some hF
      subst hr9
      exact g_zretR C rfl rfl (tdec DX8_isPlace 8 rfl)
def FX8_write (x0 : MS) (p1 : Int32) (p2 : Int32) (p3 : Int64) : Option (Int32 × MS) :=
  (FX8_isVolume p1).bind fun r1 =>
  if r1 = 0 then
    some (0, (MS_setthr x0 1))
  else
    (FX8_isPlace p2).bind fun r4 =>
    if r4 = 0 then
      some (0, (MS_setthr x0 1))
    else
      (ald 2 (MS_busy x0) p1).bind fun r7 =>
      if r7 = 0 then
        (FX8_begins (MS_setthr x0 0) p1).bind fun s10 =>
        (FX8_writes s10 p1 0 p2 p3).bind fun (r12, s13) =>
        (FX8_sweeps s13 p1).bind fun s15 =>
        some (r12, s15)
      else
        some (6, (MS_setthr x0 0))
def rX8_write : Room := { frames := 3, cells := 0, slots := 0, locals := 80 }
set_option maxHeartbeats 4000000 in
set_option maxRecDepth 100000 in
theorem c_X8_write (l : Launch) (D : va_G) (cB cI cJ cZ : ClassId) (x_0 x_1 x_2 x_3 x_4 x_5 x_6 x_7 x_8 x_9 x_10 x_11 x_12 x_13 x_14 x_15 x_16 x_17 x_18 x_19 : Nat) {x0 : MS} {p1 : Int32} {p2 : Int32} {p3 : Int64} {res : Int32 × MS} (hF : FX8_write x0 p1 p2 p3 = some res) : gMi l yX8_write wsX8_write rX8_write D (gT cB cI cJ cZ) [.ref x_0, .int p1, .int p2, .long p3] (wM cB cI cJ cZ x_0 x_1 x_2 x_3 x_4 x_5 x_6 x_7 x_8 x_9 x_10 x_11 x_12 x_13 x_14 x_15 x_16 x_17 x_18 x_19 x0) res.1 (wM cB cI cJ cZ x_0 x_1 x_2 x_3 x_4 x_5 x_6 x_7 x_8 x_9 x_10 x_11 x_12 x_13 x_14 x_15 x_16 x_17 x_18 x_19 res.2) := by
  refine g_enter (own := RX8) (free := (fun sz => va_A (wM cB cI cJ cZ x_0 x_1 x_2 x_3 x_4 x_5 x_6 x_7 x_8 x_9 x_10 x_11 x_12 x_13 x_14 x_15 x_16 x_17 x_18 x_19 x0) sz)) (Qc := (fun sz => gQi D (wM cB cI cJ cZ x_0 x_1 x_2 x_3 x_4 x_5 x_6 x_7 x_8 x_9 x_10 x_11 x_12 x_13 x_14 x_15 x_16 x_17 x_18 x_19 x0) sz res.1 (wM cB cI cJ cZ x_0 x_1 x_2 x_3 x_4 x_5 x_6 x_7 x_8 x_9 x_10 x_11 x_12 x_13 x_14 x_15 x_16 x_17 x_18 x_19 res.2))) (fun sz => va_A (wM cB cI cJ cZ x_0 x_1 x_2 x_3 x_4 x_5 x_6 x_7 x_8 x_9 x_10 x_11 x_12 x_13 x_14 x_15 x_16 x_17 x_18 x_19 x0) sz) (fun sz => Or.inr rfl) rfl (by decide) rfl (Nat.le_of_ble_eq_true rfl) rfl ?_
  intro p e s m args below meth c C
  unfold FX8_write at hF
  refine g_aload_n (z := 0) C (tdec DX8_write 0 rfl) rfl rfl rfl ?_
  refine g_iload_n (z := 1) C (tdec DX8_write 1 rfl) rfl rfl rfl ?_
  obtain ⟨r1, y2, hF⟩ := o_bind hF
  refine g_callSiR C (c_X8_isVolume l D cB cI cJ cZ y2) (gIS ml_X8_82 st_X8_isVolume in_X8 cd_X8_isVolume) eX8_isVolume rfl ⟨rfl, rfl⟩ ⟨Nat.le_of_ble_eq_true rfl, Nat.le_of_ble_eq_true rfl⟩ rfl [] rfl rfl rfl (Nat.le_of_ble_eq_true rfl) (tdec DX8_write 2 rfl) rfl ?_
  refine g_if_eq (pt := 15) C (tdec DX8_write 3 rfl) (by decide) rfl (fun h3 => ?_) (fun h3 => ?_)
  · have hF := o_ifp hF h3
    refine g_iconst (v := 1) C (tdec DX8_write 7 rfl) (by decide) rfl ?_
    refine g_goto (pt := 20) C (tdec DX8_write 8 rfl) (by decide) ?_
    refine g_putf (C' := RX8) (T := TX8) (N := 27) (v := .int 1) (ws' := wM cB cI cJ cZ x_0 x_1 x_2 x_3 x_4 x_5 x_6 x_7 x_8 x_9 x_10 x_11 x_12 x_13 x_14 x_15 x_16 x_17 x_18 x_19 (MS_setthr x0 1)) C 0 0 tyX8 tyX8_ok nmX8 (gIn iw_X8) rfl rfl (by decide) (gMem fl_X8_78) rfl rfl (tyX8_ok 0 (by decide)) rfl rfl (Nat.le_of_ble_eq_true rfl) rfl (tdec DX8_write 10 rfl) rfl ?_
    refine g_aload_n (z := 0) C (tdec DX8_write 11 rfl) rfl rfl rfl ?_
    refine g_getf (C' := RX8) (T := TX8) (N := 27) (v := .int 1) C 0 0 (gIn iw_X8) rfl rfl (by decide) (gMem fl_X8_78) rfl rfl (tdec DX8_write 12 rfl) rfl ?_
    refine g_if_le (pt := 32) C (tdec DX8_write 13 rfl) (by decide) rfl (fun h => absurd h (by decide)) (fun _ => ?_)
    refine g_iconst (v := 0) C (tdec DX8_write 14 rfl) (by decide) rfl ?_
    have hr9 := o_some hF
    subst hr9
    exact g_iret C rfl rfl (tdec DX8_write 15 rfl)
  · have hF := o_ifn hF h3
    refine g_iload_n (z := 2) C (tdec DX8_write 4 rfl) rfl rfl rfl ?_
    obtain ⟨r4, y5, hF⟩ := o_bind hF
    refine g_callSiR C (c_X8_isPlace l D cB cI cJ cZ y5) (gIS ml_X8_124 st_X8_isPlace in_X8 cd_X8_isPlace) eX8_isPlace rfl ⟨rfl, rfl⟩ ⟨Nat.le_of_ble_eq_true rfl, Nat.le_of_ble_eq_true rfl⟩ rfl [] rfl rfl rfl (Nat.le_of_ble_eq_true rfl) (tdec DX8_write 5 rfl) rfl ?_
    refine g_if_ne (pt := 19) C (tdec DX8_write 6 rfl) (by decide) rfl (fun h6 => ?_) (fun h6 => ?_)
    · have hF := o_ifn hF h6
      refine g_iconst (v := 0) C (tdec DX8_write 9 rfl) (by decide) rfl ?_
      refine g_putf (C' := RX8) (T := TX8) (N := 27) (v := .int 0) (ws' := wM cB cI cJ cZ x_0 x_1 x_2 x_3 x_4 x_5 x_6 x_7 x_8 x_9 x_10 x_11 x_12 x_13 x_14 x_15 x_16 x_17 x_18 x_19 (MS_setthr x0 0)) C 0 0 tyX8 tyX8_ok nmX8 (gIn iw_X8) rfl rfl (by decide) (gMem fl_X8_78) rfl rfl (tyX8_ok 0 (by decide)) rfl rfl (Nat.le_of_ble_eq_true rfl) rfl (tdec DX8_write 10 rfl) rfl ?_
      refine g_aload_n (z := 0) C (tdec DX8_write 11 rfl) rfl rfl rfl ?_
      refine g_getf (C' := RX8) (T := TX8) (N := 27) (v := .int 0) C 0 0 (gIn iw_X8) rfl rfl (by decide) (gMem fl_X8_78) rfl rfl (tdec DX8_write 12 rfl) rfl ?_
      refine g_if_le (pt := 32) C (tdec DX8_write 13 rfl) (by decide) rfl (fun _ => ?_) (fun h => absurd h (by decide))
      refine g_aload_n (z := 0) C (tdec DX8_write 16 rfl) rfl rfl rfl ?_
      refine g_getf (C' := RX8) (T := TX8) (N := 27) (v := .ref x_13) C 0 13 (gIn iw_X8) rfl rfl (by decide) (gMem fl_X8_48) rfl rfl (tdec DX8_write 17 rfl) rfl ?_
      refine g_iload_n (z := 1) C (tdec DX8_write 18 rfl) rfl rfl rfl ?_
      obtain ⟨r7, y8, hF⟩ := o_bind hF
      refine g_zald C 13 3 rfl rfl y8 (tdec DX8_write 19 rfl) rfl ?_
      refine g_if_eq (pt := 44) C (tdec DX8_write 20 rfl) (by decide) rfl (fun h9 => ?_) (fun h9 => ?_)
      · have hF := o_ifp hF h9
        refine g_aload_n (z := 0) C (tdec DX8_write 23 rfl) rfl rfl rfl ?_
        refine g_iload_n (z := 1) C (tdec DX8_write 24 rfl) rfl rfl rfl ?_
        obtain ⟨s10, y11, hF⟩ := o_bind hF
        refine g_callVvMS (q0 := 0) (W' := wM cB cI cJ cZ x_0 x_1 x_2 x_3 x_4 x_5 x_6 x_7 x_8 x_9 x_10 x_11 x_12 x_13 x_14 x_15 x_16 x_17 x_18 x_19 s10) (S := [wM cB cI cJ cZ x_0 x_1 x_2 x_3 x_4 x_5 x_6 x_7 x_8 x_9 x_10 x_11 x_12 x_13 x_14 x_15 x_16 x_17 x_18 x_19 (MS_setthr x0 0)]) (S0 := [wM cB cI cJ cZ x_0 x_1 x_2 x_3 x_4 x_5 x_6 x_7 x_8 x_9 x_10 x_11 x_12 x_13 x_14 x_15 x_16 x_17 x_18 x_19 (MS_setthr x0 0)]) (S1 := [wM cB cI cJ cZ x_0 x_1 x_2 x_3 x_4 x_5 x_6 x_7 x_8 x_9 x_10 x_11 x_12 x_13 x_14 x_15 x_16 x_17 x_18 x_19 s10]) (S' := [wM cB cI cJ cZ x_0 x_1 x_2 x_3 x_4 x_5 x_6 x_7 x_8 x_9 x_10 x_11 x_12 x_13 x_14 x_15 x_16 x_17 x_18 x_19 s10]) C (c_X8_begins l D cB cI cJ cZ x_0 x_1 x_2 x_3 x_4 x_5 x_6 x_7 x_8 x_9 x_10 x_11 x_12 x_13 x_14 x_15 x_16 x_17 x_18 x_19 y11) rfl rfl (gIV ml_X8_127 im_X8_begins sl_X8_begins in_X8 cd_X8_begins) rfl eX8_begins rfl ⟨rfl, rfl⟩ ⟨Nat.le_of_ble_eq_true rfl, Nat.le_of_ble_eq_true rfl⟩ rfl rfl rfl [0] rfl rfl rfl rfl (gA_cons aM gA_nil) rfl rfl (Nat.le_of_ble_eq_true rfl) (tdec DX8_write 25 rfl) rfl ?_
        refine g_aload_n (z := 0) C (tdec DX8_write 26 rfl) rfl rfl rfl ?_
        refine g_iload_n (z := 1) C (tdec DX8_write 27 rfl) rfl rfl rfl ?_
        refine g_iconst (v := 0) C (tdec DX8_write 28 rfl) (by decide) rfl ?_
        refine g_iload_n (z := 2) C (tdec DX8_write 29 rfl) rfl rfl rfl ?_
        refine g_lload_n (z := 3) C (tdec DX8_write 30 rfl) rfl rfl rfl ?_
        obtain ⟨⟨r12, s13⟩, y14, hF⟩ := o_bind hF
        refine g_callViMS (q0 := 0) (W' := wM cB cI cJ cZ x_0 x_1 x_2 x_3 x_4 x_5 x_6 x_7 x_8 x_9 x_10 x_11 x_12 x_13 x_14 x_15 x_16 x_17 x_18 x_19 s13) (S := [wM cB cI cJ cZ x_0 x_1 x_2 x_3 x_4 x_5 x_6 x_7 x_8 x_9 x_10 x_11 x_12 x_13 x_14 x_15 x_16 x_17 x_18 x_19 s10]) (S0 := [wM cB cI cJ cZ x_0 x_1 x_2 x_3 x_4 x_5 x_6 x_7 x_8 x_9 x_10 x_11 x_12 x_13 x_14 x_15 x_16 x_17 x_18 x_19 s10]) (S1 := [wM cB cI cJ cZ x_0 x_1 x_2 x_3 x_4 x_5 x_6 x_7 x_8 x_9 x_10 x_11 x_12 x_13 x_14 x_15 x_16 x_17 x_18 x_19 s13]) (S' := [wM cB cI cJ cZ x_0 x_1 x_2 x_3 x_4 x_5 x_6 x_7 x_8 x_9 x_10 x_11 x_12 x_13 x_14 x_15 x_16 x_17 x_18 x_19 s13]) C (c_X8_writes l D cB cI cJ cZ x_0 x_1 x_2 x_3 x_4 x_5 x_6 x_7 x_8 x_9 x_10 x_11 x_12 x_13 x_14 x_15 x_16 x_17 x_18 x_19 y14) rfl rfl (gIV ml_X8_131 im_X8_writes sl_X8_writes in_X8 cd_X8_writes) rfl eX8_writes rfl ⟨rfl, rfl⟩ ⟨Nat.le_of_ble_eq_true rfl, Nat.le_of_ble_eq_true rfl⟩ rfl rfl rfl [0] rfl rfl rfl rfl (gA_cons aM gA_nil) rfl rfl (Nat.le_of_ble_eq_true rfl) (tdec DX8_write 31 rfl) rfl ?_
        refine g_istore (L' := [(5, .int r12), (0, .ref x_0), (1, .int p1), (2, .int p2), (3, .long p3)]) C (tdec DX8_write 32 rfl) (by decide) rfl rfl ?_
        refine g_aload_n (z := 1) C (tdec DX8_write 33 rfl) rfl rfl rfl ?_
        refine g_iload_n (z := 2) C (tdec DX8_write 34 rfl) rfl rfl rfl ?_
        obtain ⟨s15, y16, hF⟩ := o_bind hF
        refine g_callVvMS (q0 := 0) (W' := wM cB cI cJ cZ x_0 x_1 x_2 x_3 x_4 x_5 x_6 x_7 x_8 x_9 x_10 x_11 x_12 x_13 x_14 x_15 x_16 x_17 x_18 x_19 s15) (S := [wM cB cI cJ cZ x_0 x_1 x_2 x_3 x_4 x_5 x_6 x_7 x_8 x_9 x_10 x_11 x_12 x_13 x_14 x_15 x_16 x_17 x_18 x_19 s13]) (S0 := [wM cB cI cJ cZ x_0 x_1 x_2 x_3 x_4 x_5 x_6 x_7 x_8 x_9 x_10 x_11 x_12 x_13 x_14 x_15 x_16 x_17 x_18 x_19 s13]) (S1 := [wM cB cI cJ cZ x_0 x_1 x_2 x_3 x_4 x_5 x_6 x_7 x_8 x_9 x_10 x_11 x_12 x_13 x_14 x_15 x_16 x_17 x_18 x_19 s15]) (S' := [wM cB cI cJ cZ x_0 x_1 x_2 x_3 x_4 x_5 x_6 x_7 x_8 x_9 x_10 x_11 x_12 x_13 x_14 x_15 x_16 x_17 x_18 x_19 s15]) C (c_X8_sweeps l D cB cI cJ cZ x_0 x_1 x_2 x_3 x_4 x_5 x_6 x_7 x_8 x_9 x_10 x_11 x_12 x_13 x_14 x_15 x_16 x_17 x_18 x_19 y16) rfl rfl (gIV ml_X8_135 im_X8_sweeps sl_X8_sweeps in_X8 cd_X8_sweeps) rfl eX8_sweeps rfl ⟨rfl, rfl⟩ ⟨Nat.le_of_ble_eq_true rfl, Nat.le_of_ble_eq_true rfl⟩ rfl rfl rfl [0] rfl rfl rfl rfl (gA_cons aM gA_nil) rfl rfl (Nat.le_of_ble_eq_true rfl) (tdec DX8_write 35 rfl) rfl ?_
        refine g_iload (z := 0) C (tdec DX8_write 36 rfl) rfl rfl ?_
        have hr9 := o_some hF
        subst hr9
        exact g_iret C rfl rfl (tdec DX8_write 37 rfl)
      · have hF := o_ifn hF h9
        refine g_bipush (v := 6) C (tdec DX8_write 21 rfl) (by decide) rfl ?_
        have hr9 := o_some hF
        subst hr9
        exact g_iret C rfl rfl (tdec DX8_write 22 rfl)
    · have hF := o_ifp hF h6
      refine g_iconst (v := 1) C (tdec DX8_write 7 rfl) (by decide) rfl ?_
      refine g_goto (pt := 20) C (tdec DX8_write 8 rfl) (by decide) ?_
      refine g_putf (C' := RX8) (T := TX8) (N := 27) (v := .int 1) (ws' := wM cB cI cJ cZ x_0 x_1 x_2 x_3 x_4 x_5 x_6 x_7 x_8 x_9 x_10 x_11 x_12 x_13 x_14 x_15 x_16 x_17 x_18 x_19 (MS_setthr x0 1)) C 0 0 tyX8 tyX8_ok nmX8 (gIn iw_X8) rfl rfl (by decide) (gMem fl_X8_78) rfl rfl (tyX8_ok 0 (by decide)) rfl rfl (Nat.le_of_ble_eq_true rfl) rfl (tdec DX8_write 10 rfl) rfl ?_
      refine g_aload_n (z := 0) C (tdec DX8_write 11 rfl) rfl rfl rfl ?_
      refine g_getf (C' := RX8) (T := TX8) (N := 27) (v := .int 1) C 0 0 (gIn iw_X8) rfl rfl (by decide) (gMem fl_X8_78) rfl rfl (tdec DX8_write 12 rfl) rfl ?_
      refine g_if_le (pt := 32) C (tdec DX8_write 13 rfl) (by decide) rfl (fun h => absurd h (by decide)) (fun _ => ?_)
      refine g_iconst (v := 0) C (tdec DX8_write 14 rfl) (by decide) rfl ?_
      have hr9 := o_some hF
      subst hr9
      exact g_iret C rfl rfl (tdec DX8_write 15 rfl)
def FX8_clear (x0 : MS) (p1 : Int32) (p2 : Int32) : Option (Int32 × MS) :=
  (FX8_isVolume p1).bind fun r1 =>
  if r1 = 0 then
    some (0, (MS_setthr x0 1))
  else
    (FX8_isPlace p2).bind fun r4 =>
    if r4 = 0 then
      some (0, (MS_setthr x0 1))
    else
      (ald 2 (MS_busy x0) p1).bind fun r7 =>
      if r7 = 0 then
        (FX8_begins (MS_setthr x0 0) p1).bind fun s10 =>
        (FX8_clears s10 p1 0 p2).bind fun (r12, s13) =>
        (FX8_sweeps s13 p1).bind fun s15 =>
        some (r12, s15)
      else
        some (6, (MS_setthr x0 0))
def rX8_clear : Room := { frames := 3, cells := 0, slots := 0, locals := 79 }
set_option maxHeartbeats 4000000 in
set_option maxRecDepth 100000 in
theorem c_X8_clear (l : Launch) (D : va_G) (cB cI cJ cZ : ClassId) (x_0 x_1 x_2 x_3 x_4 x_5 x_6 x_7 x_8 x_9 x_10 x_11 x_12 x_13 x_14 x_15 x_16 x_17 x_18 x_19 : Nat) {x0 : MS} {p1 : Int32} {p2 : Int32} {res : Int32 × MS} (hF : FX8_clear x0 p1 p2 = some res) : gMi l yX8_clear wsX8_clear rX8_clear D (gT cB cI cJ cZ) [.ref x_0, .int p1, .int p2] (wM cB cI cJ cZ x_0 x_1 x_2 x_3 x_4 x_5 x_6 x_7 x_8 x_9 x_10 x_11 x_12 x_13 x_14 x_15 x_16 x_17 x_18 x_19 x0) res.1 (wM cB cI cJ cZ x_0 x_1 x_2 x_3 x_4 x_5 x_6 x_7 x_8 x_9 x_10 x_11 x_12 x_13 x_14 x_15 x_16 x_17 x_18 x_19 res.2) := by
  refine g_enter (own := RX8) (free := (fun sz => va_A (wM cB cI cJ cZ x_0 x_1 x_2 x_3 x_4 x_5 x_6 x_7 x_8 x_9 x_10 x_11 x_12 x_13 x_14 x_15 x_16 x_17 x_18 x_19 x0) sz)) (Qc := (fun sz => gQi D (wM cB cI cJ cZ x_0 x_1 x_2 x_3 x_4 x_5 x_6 x_7 x_8 x_9 x_10 x_11 x_12 x_13 x_14 x_15 x_16 x_17 x_18 x_19 x0) sz res.1 (wM cB cI cJ cZ x_0 x_1 x_2 x_3 x_4 x_5 x_6 x_7 x_8 x_9 x_10 x_11 x_12 x_13 x_14 x_15 x_16 x_17 x_18 x_19 res.2))) (fun sz => va_A (wM cB cI cJ cZ x_0 x_1 x_2 x_3 x_4 x_5 x_6 x_7 x_8 x_9 x_10 x_11 x_12 x_13 x_14 x_15 x_16 x_17 x_18 x_19 x0) sz) (fun sz => Or.inr rfl) rfl (by decide) rfl (Nat.le_of_ble_eq_true rfl) rfl ?_
  intro p e s m args below meth c C
  unfold FX8_clear at hF
  refine g_aload_n (z := 0) C (tdec DX8_clear 0 rfl) rfl rfl rfl ?_
  refine g_iload_n (z := 1) C (tdec DX8_clear 1 rfl) rfl rfl rfl ?_
  obtain ⟨r1, y2, hF⟩ := o_bind hF
  refine g_callSiR C (c_X8_isVolume l D cB cI cJ cZ y2) (gIS ml_X8_82 st_X8_isVolume in_X8 cd_X8_isVolume) eX8_isVolume rfl ⟨rfl, rfl⟩ ⟨Nat.le_of_ble_eq_true rfl, Nat.le_of_ble_eq_true rfl⟩ rfl [] rfl rfl rfl (Nat.le_of_ble_eq_true rfl) (tdec DX8_clear 2 rfl) rfl ?_
  refine g_if_eq (pt := 15) C (tdec DX8_clear 3 rfl) (by decide) rfl (fun h3 => ?_) (fun h3 => ?_)
  · have hF := o_ifp hF h3
    refine g_iconst (v := 1) C (tdec DX8_clear 7 rfl) (by decide) rfl ?_
    refine g_goto (pt := 20) C (tdec DX8_clear 8 rfl) (by decide) ?_
    refine g_putf (C' := RX8) (T := TX8) (N := 27) (v := .int 1) (ws' := wM cB cI cJ cZ x_0 x_1 x_2 x_3 x_4 x_5 x_6 x_7 x_8 x_9 x_10 x_11 x_12 x_13 x_14 x_15 x_16 x_17 x_18 x_19 (MS_setthr x0 1)) C 0 0 tyX8 tyX8_ok nmX8 (gIn iw_X8) rfl rfl (by decide) (gMem fl_X8_78) rfl rfl (tyX8_ok 0 (by decide)) rfl rfl (Nat.le_of_ble_eq_true rfl) rfl (tdec DX8_clear 10 rfl) rfl ?_
    refine g_aload_n (z := 0) C (tdec DX8_clear 11 rfl) rfl rfl rfl ?_
    refine g_getf (C' := RX8) (T := TX8) (N := 27) (v := .int 1) C 0 0 (gIn iw_X8) rfl rfl (by decide) (gMem fl_X8_78) rfl rfl (tdec DX8_clear 12 rfl) rfl ?_
    refine g_if_le (pt := 32) C (tdec DX8_clear 13 rfl) (by decide) rfl (fun h => absurd h (by decide)) (fun _ => ?_)
    refine g_iconst (v := 0) C (tdec DX8_clear 14 rfl) (by decide) rfl ?_
    have hr9 := o_some hF
    subst hr9
    exact g_iret C rfl rfl (tdec DX8_clear 15 rfl)
  · have hF := o_ifn hF h3
    refine g_iload_n (z := 2) C (tdec DX8_clear 4 rfl) rfl rfl rfl ?_
    obtain ⟨r4, y5, hF⟩ := o_bind hF
    refine g_callSiR C (c_X8_isPlace l D cB cI cJ cZ y5) (gIS ml_X8_124 st_X8_isPlace in_X8 cd_X8_isPlace) eX8_isPlace rfl ⟨rfl, rfl⟩ ⟨Nat.le_of_ble_eq_true rfl, Nat.le_of_ble_eq_true rfl⟩ rfl [] rfl rfl rfl (Nat.le_of_ble_eq_true rfl) (tdec DX8_clear 5 rfl) rfl ?_
    refine g_if_ne (pt := 19) C (tdec DX8_clear 6 rfl) (by decide) rfl (fun h6 => ?_) (fun h6 => ?_)
    · have hF := o_ifn hF h6
      refine g_iconst (v := 0) C (tdec DX8_clear 9 rfl) (by decide) rfl ?_
      refine g_putf (C' := RX8) (T := TX8) (N := 27) (v := .int 0) (ws' := wM cB cI cJ cZ x_0 x_1 x_2 x_3 x_4 x_5 x_6 x_7 x_8 x_9 x_10 x_11 x_12 x_13 x_14 x_15 x_16 x_17 x_18 x_19 (MS_setthr x0 0)) C 0 0 tyX8 tyX8_ok nmX8 (gIn iw_X8) rfl rfl (by decide) (gMem fl_X8_78) rfl rfl (tyX8_ok 0 (by decide)) rfl rfl (Nat.le_of_ble_eq_true rfl) rfl (tdec DX8_clear 10 rfl) rfl ?_
      refine g_aload_n (z := 0) C (tdec DX8_clear 11 rfl) rfl rfl rfl ?_
      refine g_getf (C' := RX8) (T := TX8) (N := 27) (v := .int 0) C 0 0 (gIn iw_X8) rfl rfl (by decide) (gMem fl_X8_78) rfl rfl (tdec DX8_clear 12 rfl) rfl ?_
      refine g_if_le (pt := 32) C (tdec DX8_clear 13 rfl) (by decide) rfl (fun _ => ?_) (fun h => absurd h (by decide))
      refine g_aload_n (z := 0) C (tdec DX8_clear 16 rfl) rfl rfl rfl ?_
      refine g_getf (C' := RX8) (T := TX8) (N := 27) (v := .ref x_13) C 0 13 (gIn iw_X8) rfl rfl (by decide) (gMem fl_X8_48) rfl rfl (tdec DX8_clear 17 rfl) rfl ?_
      refine g_iload_n (z := 1) C (tdec DX8_clear 18 rfl) rfl rfl rfl ?_
      obtain ⟨r7, y8, hF⟩ := o_bind hF
      refine g_zald C 13 3 rfl rfl y8 (tdec DX8_clear 19 rfl) rfl ?_
      refine g_if_eq (pt := 44) C (tdec DX8_clear 20 rfl) (by decide) rfl (fun h9 => ?_) (fun h9 => ?_)
      · have hF := o_ifp hF h9
        refine g_aload_n (z := 0) C (tdec DX8_clear 23 rfl) rfl rfl rfl ?_
        refine g_iload_n (z := 1) C (tdec DX8_clear 24 rfl) rfl rfl rfl ?_
        obtain ⟨s10, y11, hF⟩ := o_bind hF
        refine g_callVvMS (q0 := 0) (W' := wM cB cI cJ cZ x_0 x_1 x_2 x_3 x_4 x_5 x_6 x_7 x_8 x_9 x_10 x_11 x_12 x_13 x_14 x_15 x_16 x_17 x_18 x_19 s10) (S := [wM cB cI cJ cZ x_0 x_1 x_2 x_3 x_4 x_5 x_6 x_7 x_8 x_9 x_10 x_11 x_12 x_13 x_14 x_15 x_16 x_17 x_18 x_19 (MS_setthr x0 0)]) (S0 := [wM cB cI cJ cZ x_0 x_1 x_2 x_3 x_4 x_5 x_6 x_7 x_8 x_9 x_10 x_11 x_12 x_13 x_14 x_15 x_16 x_17 x_18 x_19 (MS_setthr x0 0)]) (S1 := [wM cB cI cJ cZ x_0 x_1 x_2 x_3 x_4 x_5 x_6 x_7 x_8 x_9 x_10 x_11 x_12 x_13 x_14 x_15 x_16 x_17 x_18 x_19 s10]) (S' := [wM cB cI cJ cZ x_0 x_1 x_2 x_3 x_4 x_5 x_6 x_7 x_8 x_9 x_10 x_11 x_12 x_13 x_14 x_15 x_16 x_17 x_18 x_19 s10]) C (c_X8_begins l D cB cI cJ cZ x_0 x_1 x_2 x_3 x_4 x_5 x_6 x_7 x_8 x_9 x_10 x_11 x_12 x_13 x_14 x_15 x_16 x_17 x_18 x_19 y11) rfl rfl (gIV ml_X8_127 im_X8_begins sl_X8_begins in_X8 cd_X8_begins) rfl eX8_begins rfl ⟨rfl, rfl⟩ ⟨Nat.le_of_ble_eq_true rfl, Nat.le_of_ble_eq_true rfl⟩ rfl rfl rfl [0] rfl rfl rfl rfl (gA_cons aM gA_nil) rfl rfl (Nat.le_of_ble_eq_true rfl) (tdec DX8_clear 25 rfl) rfl ?_
        refine g_aload_n (z := 0) C (tdec DX8_clear 26 rfl) rfl rfl rfl ?_
        refine g_iload_n (z := 1) C (tdec DX8_clear 27 rfl) rfl rfl rfl ?_
        refine g_iconst (v := 0) C (tdec DX8_clear 28 rfl) (by decide) rfl ?_
        refine g_iload_n (z := 2) C (tdec DX8_clear 29 rfl) rfl rfl rfl ?_
        obtain ⟨⟨r12, s13⟩, y14, hF⟩ := o_bind hF
        refine g_callViMS (q0 := 0) (W' := wM cB cI cJ cZ x_0 x_1 x_2 x_3 x_4 x_5 x_6 x_7 x_8 x_9 x_10 x_11 x_12 x_13 x_14 x_15 x_16 x_17 x_18 x_19 s13) (S := [wM cB cI cJ cZ x_0 x_1 x_2 x_3 x_4 x_5 x_6 x_7 x_8 x_9 x_10 x_11 x_12 x_13 x_14 x_15 x_16 x_17 x_18 x_19 s10]) (S0 := [wM cB cI cJ cZ x_0 x_1 x_2 x_3 x_4 x_5 x_6 x_7 x_8 x_9 x_10 x_11 x_12 x_13 x_14 x_15 x_16 x_17 x_18 x_19 s10]) (S1 := [wM cB cI cJ cZ x_0 x_1 x_2 x_3 x_4 x_5 x_6 x_7 x_8 x_9 x_10 x_11 x_12 x_13 x_14 x_15 x_16 x_17 x_18 x_19 s13]) (S' := [wM cB cI cJ cZ x_0 x_1 x_2 x_3 x_4 x_5 x_6 x_7 x_8 x_9 x_10 x_11 x_12 x_13 x_14 x_15 x_16 x_17 x_18 x_19 s13]) C (c_X8_clears l D cB cI cJ cZ x_0 x_1 x_2 x_3 x_4 x_5 x_6 x_7 x_8 x_9 x_10 x_11 x_12 x_13 x_14 x_15 x_16 x_17 x_18 x_19 y14) rfl rfl (gIV ml_X8_138 im_X8_clears sl_X8_clears in_X8 cd_X8_clears) rfl eX8_clears rfl ⟨rfl, rfl⟩ ⟨Nat.le_of_ble_eq_true rfl, Nat.le_of_ble_eq_true rfl⟩ rfl rfl rfl [0] rfl rfl rfl rfl (gA_cons aM gA_nil) rfl rfl (Nat.le_of_ble_eq_true rfl) (tdec DX8_clear 30 rfl) rfl ?_
        refine g_istore_n (L' := [(3, .int r12), (0, .ref x_0), (1, .int p1), (2, .int p2)]) C (tdec DX8_clear 31 rfl) rfl (by decide) rfl rfl ?_
        refine g_aload_n (z := 1) C (tdec DX8_clear 32 rfl) rfl rfl rfl ?_
        refine g_iload_n (z := 2) C (tdec DX8_clear 33 rfl) rfl rfl rfl ?_
        obtain ⟨s15, y16, hF⟩ := o_bind hF
        refine g_callVvMS (q0 := 0) (W' := wM cB cI cJ cZ x_0 x_1 x_2 x_3 x_4 x_5 x_6 x_7 x_8 x_9 x_10 x_11 x_12 x_13 x_14 x_15 x_16 x_17 x_18 x_19 s15) (S := [wM cB cI cJ cZ x_0 x_1 x_2 x_3 x_4 x_5 x_6 x_7 x_8 x_9 x_10 x_11 x_12 x_13 x_14 x_15 x_16 x_17 x_18 x_19 s13]) (S0 := [wM cB cI cJ cZ x_0 x_1 x_2 x_3 x_4 x_5 x_6 x_7 x_8 x_9 x_10 x_11 x_12 x_13 x_14 x_15 x_16 x_17 x_18 x_19 s13]) (S1 := [wM cB cI cJ cZ x_0 x_1 x_2 x_3 x_4 x_5 x_6 x_7 x_8 x_9 x_10 x_11 x_12 x_13 x_14 x_15 x_16 x_17 x_18 x_19 s15]) (S' := [wM cB cI cJ cZ x_0 x_1 x_2 x_3 x_4 x_5 x_6 x_7 x_8 x_9 x_10 x_11 x_12 x_13 x_14 x_15 x_16 x_17 x_18 x_19 s15]) C (c_X8_sweeps l D cB cI cJ cZ x_0 x_1 x_2 x_3 x_4 x_5 x_6 x_7 x_8 x_9 x_10 x_11 x_12 x_13 x_14 x_15 x_16 x_17 x_18 x_19 y16) rfl rfl (gIV ml_X8_135 im_X8_sweeps sl_X8_sweeps in_X8 cd_X8_sweeps) rfl eX8_sweeps rfl ⟨rfl, rfl⟩ ⟨Nat.le_of_ble_eq_true rfl, Nat.le_of_ble_eq_true rfl⟩ rfl rfl rfl [0] rfl rfl rfl rfl (gA_cons aM gA_nil) rfl rfl (Nat.le_of_ble_eq_true rfl) (tdec DX8_clear 34 rfl) rfl ?_
        refine g_iload_n (z := 0) C (tdec DX8_clear 35 rfl) rfl rfl rfl ?_
        have hr9 := o_some hF
        subst hr9
        exact g_iret C rfl rfl (tdec DX8_clear 36 rfl)
      · have hF := o_ifn hF h9
        refine g_bipush (v := 6) C (tdec DX8_clear 21 rfl) (by decide) rfl ?_
        have hr9 := o_some hF
        subst hr9
        exact g_iret C rfl rfl (tdec DX8_clear 22 rfl)
    · have hF := o_ifp hF h6
      refine g_iconst (v := 1) C (tdec DX8_clear 7 rfl) (by decide) rfl ?_
      refine g_goto (pt := 20) C (tdec DX8_clear 8 rfl) (by decide) ?_
      refine g_putf (C' := RX8) (T := TX8) (N := 27) (v := .int 1) (ws' := wM cB cI cJ cZ x_0 x_1 x_2 x_3 x_4 x_5 x_6 x_7 x_8 x_9 x_10 x_11 x_12 x_13 x_14 x_15 x_16 x_17 x_18 x_19 (MS_setthr x0 1)) C 0 0 tyX8 tyX8_ok nmX8 (gIn iw_X8) rfl rfl (by decide) (gMem fl_X8_78) rfl rfl (tyX8_ok 0 (by decide)) rfl rfl (Nat.le_of_ble_eq_true rfl) rfl (tdec DX8_clear 10 rfl) rfl ?_
      refine g_aload_n (z := 0) C (tdec DX8_clear 11 rfl) rfl rfl rfl ?_
      refine g_getf (C' := RX8) (T := TX8) (N := 27) (v := .int 1) C 0 0 (gIn iw_X8) rfl rfl (by decide) (gMem fl_X8_78) rfl rfl (tdec DX8_clear 12 rfl) rfl ?_
      refine g_if_le (pt := 32) C (tdec DX8_clear 13 rfl) (by decide) rfl (fun h => absurd h (by decide)) (fun _ => ?_)
      refine g_iconst (v := 0) C (tdec DX8_clear 14 rfl) (by decide) rfl ?_
      have hr9 := o_some hF
      subst hr9
      exact g_iret C rfl rfl (tdec DX8_clear 15 rfl)
def FX8_isSnap (x0 : MS) (p1 : Int32) (p2 : Int32) : Option (Int32) :=
  if p2 < 0 then
    some 0
  else
    (ald 2 (MS_snaps x0) p1).bind fun r2 =>
    if r2 ≤ p2 then
      some 0
    else
      some 1
def rX8_isSnap : Room := { frames := 0, cells := 0, slots := 0, locals := 0 }
set_option maxHeartbeats 4000000 in
set_option maxRecDepth 100000 in
theorem c_X8_isSnap (l : Launch) (D : va_G) (cB cI cJ cZ : ClassId) (x_0 x_1 x_2 x_3 x_4 x_5 x_6 x_7 x_8 x_9 x_10 x_11 x_12 x_13 x_14 x_15 x_16 x_17 x_18 x_19 : Nat) {x0 : MS} {p1 : Int32} {p2 : Int32} {res : Int32} (hF : FX8_isSnap x0 p1 p2 = some res) : gRi l yX8_isSnap wsX8_isSnap rX8_isSnap D (gT cB cI cJ cZ) [.ref x_0, .int p1, .int p2] (wM cB cI cJ cZ x_0 x_1 x_2 x_3 x_4 x_5 x_6 x_7 x_8 x_9 x_10 x_11 x_12 x_13 x_14 x_15 x_16 x_17 x_18 x_19 x0) res := by
  refine g_enter (own := RX8) (free := (fun _ _ => False)) (Qc := (fun sz => gRQi res)) (fun _ _ => True) (fun sz => Or.inl rfl) rfl (by decide) rfl (Nat.le_of_ble_eq_true rfl) rfl ?_
  intro p e s m args below meth c C
  unfold FX8_isSnap at hF
  refine g_iload_n (z := 2) C (tdec DX8_isSnap 0 rfl) rfl rfl rfl ?_
  refine g_if_lt (pt := 18) C (tdec DX8_isSnap 1 rfl) (by decide) rfl (fun h1 => ?_) (fun h1 => ?_)
  · have hF := o_ifp hF h1
    refine g_iconst (v := 0) C (tdec DX8_isSnap 10 rfl) (by decide) rfl ?_
    have hr9 := o_some hF
    subst hr9
    exact g_zretR C rfl rfl (tdec DX8_isSnap 11 rfl)
  · have hF := o_ifn hF h1
    refine g_iload_n (z := 2) C (tdec DX8_isSnap 2 rfl) rfl rfl rfl ?_
    refine g_aload_n (z := 0) C (tdec DX8_isSnap 3 rfl) rfl rfl rfl ?_
    refine g_getf (C' := RX8) (T := TX8) (N := 27) (v := .ref x_10) C 0 10 (gIn iw_X8) rfl rfl (by decide) (gMem fl_X8_39) rfl rfl (tdec DX8_isSnap 4 rfl) rfl ?_
    refine g_iload_n (z := 1) C (tdec DX8_isSnap 5 rfl) rfl rfl rfl ?_
    obtain ⟨r2, y3, hF⟩ := o_bind hF
    refine g_iald C 10 1 rfl rfl y3 (tdec DX8_isSnap 6 rfl) rfl ?_
    refine g_icmp_ge (pt := 18) C (tdec DX8_isSnap 7 rfl) (by decide) rfl (fun h4 => ?_) (fun h4 => ?_)
    · have hF := o_ifp hF h4
      refine g_iconst (v := 0) C (tdec DX8_isSnap 10 rfl) (by decide) rfl ?_
      have hr9 := o_some hF
      subst hr9
      exact g_zretR C rfl rfl (tdec DX8_isSnap 11 rfl)
    · have hF := o_ifn hF h4
      refine g_iconst (v := 1) C (tdec DX8_isSnap 8 rfl) (by decide) rfl ?_
      refine g_goto (pt := 19) C (tdec DX8_isSnap 9 rfl) (by decide) ?_
      have hr9 := o_some hF
      subst hr9
      exact g_zretR C rfl rfl (tdec DX8_isSnap 11 rfl)
def FX8_read (x0 : MS) (p1 : Int32) (p2 : Int32) (p3 : Int32) : Option (Int64 × MS) :=
  (FX8_isVolume p1).bind fun r1 =>
  if r1 = 0 then
    some (0, (MS_setthr x0 1))
  else
    (FX8_isPlace p3).bind fun r4 =>
    if r4 = 0 then
      some (0, (MS_setthr x0 1))
    else
      if p2 = (-1) then
        (FX8_ways (MS_setthr x0 0) p1 0 p3).bind fun (r8, s9) =>
        if r8 < 4 then
          some (0, s9)
        else
          (ald 4 (MS_way s9) 3).bind fun r12 =>
          (FX8_told s9 p1 r12).bind fun r14 =>
          if r14 = (-1) then
            some (0, s9)
          else
            (ald 4 (MS_way s9) 3).bind fun r17 =>
            (FX8_told s9 p1 r17).bind fun r19 =>
            (ald 1200 (MS_dat s9) ((600 * p1) + r19)).bind fun r21 =>
            some (r21, s9)
      else
        (FX8_isSnap x0 p1 p2).bind fun r23 =>
        if r23 = 0 then
          some (0, (MS_setthr x0 2))
        else
          (FX8_ways (MS_setthr x0 0) p1 (2 + p2) p3).bind fun (r26, s27) =>
          if r26 < 4 then
            some (0, s27)
          else
            (ald 4 (MS_way s27) 3).bind fun r30 =>
            (FX8_told s27 p1 r30).bind fun r32 =>
            if r32 = (-1) then
              some (0, s27)
            else
              (ald 4 (MS_way s27) 3).bind fun r35 =>
              (FX8_told s27 p1 r35).bind fun r37 =>
              (ald 1200 (MS_dat s27) ((600 * p1) + r37)).bind fun r39 =>
              some (r39, s27)
def rX8_read : Room := { frames := 2, cells := 0, slots := 0, locals := 46 }
set_option maxHeartbeats 4000000 in
set_option maxRecDepth 100000 in
theorem c_X8_read (l : Launch) (D : va_G) (cB cI cJ cZ : ClassId) (x_0 x_1 x_2 x_3 x_4 x_5 x_6 x_7 x_8 x_9 x_10 x_11 x_12 x_13 x_14 x_15 x_16 x_17 x_18 x_19 : Nat) {x0 : MS} {p1 : Int32} {p2 : Int32} {p3 : Int32} {res : Int64 × MS} (hF : FX8_read x0 p1 p2 p3 = some res) : gMl l yX8_read wsX8_read rX8_read D (gT cB cI cJ cZ) [.ref x_0, .int p1, .int p2, .int p3] (wM cB cI cJ cZ x_0 x_1 x_2 x_3 x_4 x_5 x_6 x_7 x_8 x_9 x_10 x_11 x_12 x_13 x_14 x_15 x_16 x_17 x_18 x_19 x0) res.1 (wM cB cI cJ cZ x_0 x_1 x_2 x_3 x_4 x_5 x_6 x_7 x_8 x_9 x_10 x_11 x_12 x_13 x_14 x_15 x_16 x_17 x_18 x_19 res.2) := by
  refine g_enter (own := RX8) (free := (fun sz => va_A (wM cB cI cJ cZ x_0 x_1 x_2 x_3 x_4 x_5 x_6 x_7 x_8 x_9 x_10 x_11 x_12 x_13 x_14 x_15 x_16 x_17 x_18 x_19 x0) sz)) (Qc := (fun sz => gQl D (wM cB cI cJ cZ x_0 x_1 x_2 x_3 x_4 x_5 x_6 x_7 x_8 x_9 x_10 x_11 x_12 x_13 x_14 x_15 x_16 x_17 x_18 x_19 x0) sz res.1 (wM cB cI cJ cZ x_0 x_1 x_2 x_3 x_4 x_5 x_6 x_7 x_8 x_9 x_10 x_11 x_12 x_13 x_14 x_15 x_16 x_17 x_18 x_19 res.2))) (fun sz => va_A (wM cB cI cJ cZ x_0 x_1 x_2 x_3 x_4 x_5 x_6 x_7 x_8 x_9 x_10 x_11 x_12 x_13 x_14 x_15 x_16 x_17 x_18 x_19 x0) sz) (fun sz => Or.inr rfl) rfl (by decide) rfl (Nat.le_of_ble_eq_true rfl) rfl ?_
  intro p e s m args below meth c C
  unfold FX8_read at hF
  refine g_aload_n (z := 0) C (tdec DX8_read 0 rfl) rfl rfl rfl ?_
  refine g_iload_n (z := 1) C (tdec DX8_read 1 rfl) rfl rfl rfl ?_
  obtain ⟨r1, y2, hF⟩ := o_bind hF
  refine g_callSiR C (c_X8_isVolume l D cB cI cJ cZ y2) (gIS ml_X8_82 st_X8_isVolume in_X8 cd_X8_isVolume) eX8_isVolume rfl ⟨rfl, rfl⟩ ⟨Nat.le_of_ble_eq_true rfl, Nat.le_of_ble_eq_true rfl⟩ rfl [] rfl rfl rfl (Nat.le_of_ble_eq_true rfl) (tdec DX8_read 2 rfl) rfl ?_
  refine g_if_eq (pt := 15) C (tdec DX8_read 3 rfl) (by decide) rfl (fun h3 => ?_) (fun h3 => ?_)
  · have hF := o_ifp hF h3
    refine g_iconst (v := 1) C (tdec DX8_read 7 rfl) (by decide) rfl ?_
    refine g_goto (pt := 38) C (tdec DX8_read 8 rfl) (by decide) ?_
    refine g_putf (C' := RX8) (T := TX8) (N := 27) (v := .int 1) (ws' := wM cB cI cJ cZ x_0 x_1 x_2 x_3 x_4 x_5 x_6 x_7 x_8 x_9 x_10 x_11 x_12 x_13 x_14 x_15 x_16 x_17 x_18 x_19 (MS_setthr x0 1)) C 0 0 tyX8 tyX8_ok nmX8 (gIn iw_X8) rfl rfl (by decide) (gMem fl_X8_78) rfl rfl (tyX8_ok 0 (by decide)) rfl rfl (Nat.le_of_ble_eq_true rfl) rfl (tdec DX8_read 20 rfl) rfl ?_
    refine g_aload_n (z := 0) C (tdec DX8_read 21 rfl) rfl rfl rfl ?_
    refine g_getf (C' := RX8) (T := TX8) (N := 27) (v := .int 1) C 0 0 (gIn iw_X8) rfl rfl (by decide) (gMem fl_X8_78) rfl rfl (tdec DX8_read 22 rfl) rfl ?_
    refine g_if_le (pt := 50) C (tdec DX8_read 23 rfl) (by decide) rfl (fun h => absurd h (by decide)) (fun _ => ?_)
    refine g_lconst (v := 0) C (tdec DX8_read 24 rfl) (by decide) rfl ?_
    have hr9 := o_some hF
    subst hr9
    exact g_lret C rfl rfl (tdec DX8_read 25 rfl)
  · have hF := o_ifn hF h3
    refine g_iload_n (z := 3) C (tdec DX8_read 4 rfl) rfl rfl rfl ?_
    obtain ⟨r4, y5, hF⟩ := o_bind hF
    refine g_callSiR C (c_X8_isPlace l D cB cI cJ cZ y5) (gIS ml_X8_124 st_X8_isPlace in_X8 cd_X8_isPlace) eX8_isPlace rfl ⟨rfl, rfl⟩ ⟨Nat.le_of_ble_eq_true rfl, Nat.le_of_ble_eq_true rfl⟩ rfl [] rfl rfl rfl (Nat.le_of_ble_eq_true rfl) (tdec DX8_read 5 rfl) rfl ?_
    refine g_if_ne (pt := 19) C (tdec DX8_read 6 rfl) (by decide) rfl (fun h6 => ?_) (fun h6 => ?_)
    · have hF := o_ifn hF h6
      refine g_iload_n (z := 2) C (tdec DX8_read 9 rfl) rfl rfl rfl ?_
      refine g_iconst (v := (-1)) C (tdec DX8_read 10 rfl) (by decide) rfl ?_
      refine g_icmp_eq (pt := 37) C (tdec DX8_read 11 rfl) (by decide) rfl (fun h7 => ?_) (fun h7 => ?_)
      · have hF := o_ifp hF h7
        refine g_iconst (v := 0) C (tdec DX8_read 19 rfl) (by decide) rfl ?_
        refine g_putf (C' := RX8) (T := TX8) (N := 27) (v := .int 0) (ws' := wM cB cI cJ cZ x_0 x_1 x_2 x_3 x_4 x_5 x_6 x_7 x_8 x_9 x_10 x_11 x_12 x_13 x_14 x_15 x_16 x_17 x_18 x_19 (MS_setthr x0 0)) C 0 0 tyX8 tyX8_ok nmX8 (gIn iw_X8) rfl rfl (by decide) (gMem fl_X8_78) rfl rfl (tyX8_ok 0 (by decide)) rfl rfl (Nat.le_of_ble_eq_true rfl) rfl (tdec DX8_read 20 rfl) rfl ?_
        refine g_aload_n (z := 0) C (tdec DX8_read 21 rfl) rfl rfl rfl ?_
        refine g_getf (C' := RX8) (T := TX8) (N := 27) (v := .int 0) C 0 0 (gIn iw_X8) rfl rfl (by decide) (gMem fl_X8_78) rfl rfl (tdec DX8_read 22 rfl) rfl ?_
        refine g_if_le (pt := 50) C (tdec DX8_read 23 rfl) (by decide) rfl (fun _ => ?_) (fun h => absurd h (by decide))
        refine g_aload_n (z := 0) C (tdec DX8_read 26 rfl) rfl rfl rfl ?_
        refine g_iload_n (z := 1) C (tdec DX8_read 27 rfl) rfl rfl rfl ?_
        refine g_iload_n (z := 2) C (tdec DX8_read 28 rfl) rfl rfl rfl ?_
        refine g_iconst (v := (-1)) C (tdec DX8_read 29 rfl) (by decide) rfl ?_
        refine g_icmp_ne (pt := 61) C (tdec DX8_read 30 rfl) (by decide) rfl (fun h => absurd h7 h) (fun _ => ?_)
        refine g_iconst (v := 0) C (tdec DX8_read 31 rfl) (by decide) rfl ?_
        refine g_goto (pt := 64) C (tdec DX8_read 32 rfl) (by decide) ?_
        refine g_iload_n (z := 3) C (tdec DX8_read 36 rfl) rfl rfl rfl ?_
        obtain ⟨⟨r8, s9⟩, y10, hF⟩ := o_bind hF
        refine g_callViMS (q0 := 0) (W' := wM cB cI cJ cZ x_0 x_1 x_2 x_3 x_4 x_5 x_6 x_7 x_8 x_9 x_10 x_11 x_12 x_13 x_14 x_15 x_16 x_17 x_18 x_19 s9) (S := [wM cB cI cJ cZ x_0 x_1 x_2 x_3 x_4 x_5 x_6 x_7 x_8 x_9 x_10 x_11 x_12 x_13 x_14 x_15 x_16 x_17 x_18 x_19 (MS_setthr x0 0)]) (S0 := [wM cB cI cJ cZ x_0 x_1 x_2 x_3 x_4 x_5 x_6 x_7 x_8 x_9 x_10 x_11 x_12 x_13 x_14 x_15 x_16 x_17 x_18 x_19 (MS_setthr x0 0)]) (S1 := [wM cB cI cJ cZ x_0 x_1 x_2 x_3 x_4 x_5 x_6 x_7 x_8 x_9 x_10 x_11 x_12 x_13 x_14 x_15 x_16 x_17 x_18 x_19 s9]) (S' := [wM cB cI cJ cZ x_0 x_1 x_2 x_3 x_4 x_5 x_6 x_7 x_8 x_9 x_10 x_11 x_12 x_13 x_14 x_15 x_16 x_17 x_18 x_19 s9]) C (c_X8_ways l D cB cI cJ cZ x_0 x_1 x_2 x_3 x_4 x_5 x_6 x_7 x_8 x_9 x_10 x_11 x_12 x_13 x_14 x_15 x_16 x_17 x_18 x_19 y10) rfl rfl (gIV ml_X8_107 im_X8_ways sl_X8_ways in_X8 cd_X8_ways) rfl eX8_ways rfl ⟨rfl, rfl⟩ ⟨Nat.le_of_ble_eq_true rfl, Nat.le_of_ble_eq_true rfl⟩ rfl rfl rfl [0] rfl rfl rfl rfl (gA_cons aM gA_nil) rfl rfl (Nat.le_of_ble_eq_true rfl) (tdec DX8_read 37 rfl) rfl ?_
        refine g_istore (L' := [(4, .int r8), (0, .ref x_0), (1, .int p1), (2, .int p2), (3, .int p3)]) C (tdec DX8_read 38 rfl) (by decide) rfl rfl ?_
        refine g_iload (z := 0) C (tdec DX8_read 39 rfl) rfl rfl ?_
        refine g_iconst (v := 4) C (tdec DX8_read 40 rfl) (by decide) rfl ?_
        refine g_icmp_lt (pt := 91) C (tdec DX8_read 41 rfl) (by decide) rfl (fun h11 => ?_) (fun h11 => ?_)
        · have hF := o_ifp hF h11
          refine g_lconst (v := 0) C (tdec DX8_read 51 rfl) (by decide) rfl ?_
          refine g_goto (pt := 117) C (tdec DX8_read 52 rfl) (by decide) ?_
          have hr9 := o_some hF
          subst hr9
          exact g_lret C rfl rfl (tdec DX8_read 67 rfl)
        · have hF := o_ifn hF h11
          refine g_aload_n (z := 1) C (tdec DX8_read 42 rfl) rfl rfl rfl ?_
          refine g_iload_n (z := 2) C (tdec DX8_read 43 rfl) rfl rfl rfl ?_
          refine g_aload_n (z := 1) C (tdec DX8_read 44 rfl) rfl rfl rfl ?_
          refine g_getf (C' := RX8) (T := TX8) (N := 27) (v := .ref x_19) C 0 25 (gIn iw_X8) rfl rfl (by decide) (gMem fl_X8_71) rfl rfl (tdec DX8_read 45 rfl) rfl ?_
          refine g_iconst (v := 3) C (tdec DX8_read 46 rfl) (by decide) rfl ?_
          obtain ⟨r12, y13, hF⟩ := o_bind hF
          refine g_iald C 19 1 rfl rfl y13 (tdec DX8_read 47 rfl) rfl ?_
          obtain ⟨r14, y15, hF⟩ := o_bind hF
          refine g_callViRS (q0 := 0) (S := [wM cB cI cJ cZ x_0 x_1 x_2 x_3 x_4 x_5 x_6 x_7 x_8 x_9 x_10 x_11 x_12 x_13 x_14 x_15 x_16 x_17 x_18 x_19 s9]) (S0 := [wM cB cI cJ cZ x_0 x_1 x_2 x_3 x_4 x_5 x_6 x_7 x_8 x_9 x_10 x_11 x_12 x_13 x_14 x_15 x_16 x_17 x_18 x_19 s9]) C (c_X8_told l D cB cI cJ cZ x_0 x_1 x_2 x_3 x_4 x_5 x_6 x_7 x_8 x_9 x_10 x_11 x_12 x_13 x_14 x_15 x_16 x_17 x_18 x_19 y15) rfl rfl (gIV ml_X8_90 im_X8_told sl_X8_told in_X8 cd_X8_told) rfl eX8_told rfl ⟨rfl, rfl⟩ ⟨Nat.le_of_ble_eq_true rfl, Nat.le_of_ble_eq_true rfl⟩ rfl rfl rfl [0] rfl rfl rfl (Nat.le_of_ble_eq_true rfl) (tdec DX8_read 48 rfl) rfl ?_
          refine g_iconst (v := (-1)) C (tdec DX8_read 49 rfl) (by decide) rfl ?_
          refine g_icmp_ne (pt := 95) C (tdec DX8_read 50 rfl) (by decide) rfl (fun h16 => ?_) (fun h16 => ?_)
          · have hF := o_ifn hF h16
            refine g_aload_n (z := 1) C (tdec DX8_read 53 rfl) rfl rfl rfl ?_
            refine g_getf (C' := RX8) (T := TX8) (N := 27) (v := .ref x_5) C 0 5 (gIn iw_X8) rfl rfl (by decide) (gMem fl_X8_22) rfl rfl (tdec DX8_read 54 rfl) rfl ?_
            refine g_sipush (v := 600) C (tdec DX8_read 55 rfl) (by decide) rfl ?_
            refine g_iload_n (z := 2) C (tdec DX8_read 56 rfl) rfl rfl rfl ?_
            refine g_imul C (tdec DX8_read 57 rfl) rfl ?_
            refine g_aload_n (z := 1) C (tdec DX8_read 58 rfl) rfl rfl rfl ?_
            refine g_iload_n (z := 2) C (tdec DX8_read 59 rfl) rfl rfl rfl ?_
            refine g_aload_n (z := 1) C (tdec DX8_read 60 rfl) rfl rfl rfl ?_
            refine g_getf (C' := RX8) (T := TX8) (N := 27) (v := .ref x_19) C 0 25 (gIn iw_X8) rfl rfl (by decide) (gMem fl_X8_71) rfl rfl (tdec DX8_read 61 rfl) rfl ?_
            refine g_iconst (v := 3) C (tdec DX8_read 62 rfl) (by decide) rfl ?_
            obtain ⟨r17, y18, hF⟩ := o_bind hF
            refine g_iald C 19 1 rfl rfl y18 (tdec DX8_read 63 rfl) rfl ?_
            obtain ⟨r19, y20, hF⟩ := o_bind hF
            refine g_callViRS (q0 := 0) (S := [wM cB cI cJ cZ x_0 x_1 x_2 x_3 x_4 x_5 x_6 x_7 x_8 x_9 x_10 x_11 x_12 x_13 x_14 x_15 x_16 x_17 x_18 x_19 s9]) (S0 := [wM cB cI cJ cZ x_0 x_1 x_2 x_3 x_4 x_5 x_6 x_7 x_8 x_9 x_10 x_11 x_12 x_13 x_14 x_15 x_16 x_17 x_18 x_19 s9]) C (c_X8_told l D cB cI cJ cZ x_0 x_1 x_2 x_3 x_4 x_5 x_6 x_7 x_8 x_9 x_10 x_11 x_12 x_13 x_14 x_15 x_16 x_17 x_18 x_19 y20) rfl rfl (gIV ml_X8_90 im_X8_told sl_X8_told in_X8 cd_X8_told) rfl eX8_told rfl ⟨rfl, rfl⟩ ⟨Nat.le_of_ble_eq_true rfl, Nat.le_of_ble_eq_true rfl⟩ rfl rfl rfl [0] rfl rfl rfl (Nat.le_of_ble_eq_true rfl) (tdec DX8_read 64 rfl) rfl ?_
            refine g_iadd C (tdec DX8_read 65 rfl) rfl ?_
            obtain ⟨r21, y22, hF⟩ := o_bind hF
            refine g_lald C 5 2 rfl rfl y22 (tdec DX8_read 66 rfl) rfl ?_
            have hr9 := o_some hF
            subst hr9
            exact g_lret C rfl rfl (tdec DX8_read 67 rfl)
          · have hF := o_ifp hF h16
            refine g_lconst (v := 0) C (tdec DX8_read 51 rfl) (by decide) rfl ?_
            refine g_goto (pt := 117) C (tdec DX8_read 52 rfl) (by decide) ?_
            have hr9 := o_some hF
            subst hr9
            exact g_lret C rfl rfl (tdec DX8_read 67 rfl)
      · have hF := o_ifn hF h7
        refine g_aload_n (z := 0) C (tdec DX8_read 12 rfl) rfl rfl rfl ?_
        refine g_iload_n (z := 1) C (tdec DX8_read 13 rfl) rfl rfl rfl ?_
        refine g_iload_n (z := 2) C (tdec DX8_read 14 rfl) rfl rfl rfl ?_
        obtain ⟨r23, y24, hF⟩ := o_bind hF
        refine g_callViRS (q0 := 0) (S := [wM cB cI cJ cZ x_0 x_1 x_2 x_3 x_4 x_5 x_6 x_7 x_8 x_9 x_10 x_11 x_12 x_13 x_14 x_15 x_16 x_17 x_18 x_19 x0]) (S0 := [wM cB cI cJ cZ x_0 x_1 x_2 x_3 x_4 x_5 x_6 x_7 x_8 x_9 x_10 x_11 x_12 x_13 x_14 x_15 x_16 x_17 x_18 x_19 x0]) C (c_X8_isSnap l D cB cI cJ cZ x_0 x_1 x_2 x_3 x_4 x_5 x_6 x_7 x_8 x_9 x_10 x_11 x_12 x_13 x_14 x_15 x_16 x_17 x_18 x_19 y24) rfl rfl (gIV ml_X8_141 im_X8_isSnap sl_X8_isSnap in_X8 cd_X8_isSnap) rfl eX8_isSnap rfl ⟨rfl, rfl⟩ ⟨Nat.le_of_ble_eq_true rfl, Nat.le_of_ble_eq_true rfl⟩ rfl rfl rfl [0] rfl rfl rfl (Nat.le_of_ble_eq_true rfl) (tdec DX8_read 15 rfl) rfl ?_
        refine g_if_ne (pt := 37) C (tdec DX8_read 16 rfl) (by decide) rfl (fun h25 => ?_) (fun h25 => ?_)
        · have hF := o_ifn hF h25
          refine g_iconst (v := 0) C (tdec DX8_read 19 rfl) (by decide) rfl ?_
          refine g_putf (C' := RX8) (T := TX8) (N := 27) (v := .int 0) (ws' := wM cB cI cJ cZ x_0 x_1 x_2 x_3 x_4 x_5 x_6 x_7 x_8 x_9 x_10 x_11 x_12 x_13 x_14 x_15 x_16 x_17 x_18 x_19 (MS_setthr x0 0)) C 0 0 tyX8 tyX8_ok nmX8 (gIn iw_X8) rfl rfl (by decide) (gMem fl_X8_78) rfl rfl (tyX8_ok 0 (by decide)) rfl rfl (Nat.le_of_ble_eq_true rfl) rfl (tdec DX8_read 20 rfl) rfl ?_
          refine g_aload_n (z := 0) C (tdec DX8_read 21 rfl) rfl rfl rfl ?_
          refine g_getf (C' := RX8) (T := TX8) (N := 27) (v := .int 0) C 0 0 (gIn iw_X8) rfl rfl (by decide) (gMem fl_X8_78) rfl rfl (tdec DX8_read 22 rfl) rfl ?_
          refine g_if_le (pt := 50) C (tdec DX8_read 23 rfl) (by decide) rfl (fun _ => ?_) (fun h => absurd h (by decide))
          refine g_aload_n (z := 0) C (tdec DX8_read 26 rfl) rfl rfl rfl ?_
          refine g_iload_n (z := 1) C (tdec DX8_read 27 rfl) rfl rfl rfl ?_
          refine g_iload_n (z := 2) C (tdec DX8_read 28 rfl) rfl rfl rfl ?_
          refine g_iconst (v := (-1)) C (tdec DX8_read 29 rfl) (by decide) rfl ?_
          refine g_icmp_ne (pt := 61) C (tdec DX8_read 30 rfl) (by decide) rfl (fun _ => ?_) (fun h => absurd h h7)
          refine g_iconst (v := 2) C (tdec DX8_read 33 rfl) (by decide) rfl ?_
          refine g_iload_n (z := 2) C (tdec DX8_read 34 rfl) rfl rfl rfl ?_
          refine g_iadd C (tdec DX8_read 35 rfl) rfl ?_
          refine g_iload_n (z := 3) C (tdec DX8_read 36 rfl) rfl rfl rfl ?_
          obtain ⟨⟨r26, s27⟩, y28, hF⟩ := o_bind hF
          refine g_callViMS (q0 := 0) (W' := wM cB cI cJ cZ x_0 x_1 x_2 x_3 x_4 x_5 x_6 x_7 x_8 x_9 x_10 x_11 x_12 x_13 x_14 x_15 x_16 x_17 x_18 x_19 s27) (S := [wM cB cI cJ cZ x_0 x_1 x_2 x_3 x_4 x_5 x_6 x_7 x_8 x_9 x_10 x_11 x_12 x_13 x_14 x_15 x_16 x_17 x_18 x_19 (MS_setthr x0 0)]) (S0 := [wM cB cI cJ cZ x_0 x_1 x_2 x_3 x_4 x_5 x_6 x_7 x_8 x_9 x_10 x_11 x_12 x_13 x_14 x_15 x_16 x_17 x_18 x_19 (MS_setthr x0 0)]) (S1 := [wM cB cI cJ cZ x_0 x_1 x_2 x_3 x_4 x_5 x_6 x_7 x_8 x_9 x_10 x_11 x_12 x_13 x_14 x_15 x_16 x_17 x_18 x_19 s27]) (S' := [wM cB cI cJ cZ x_0 x_1 x_2 x_3 x_4 x_5 x_6 x_7 x_8 x_9 x_10 x_11 x_12 x_13 x_14 x_15 x_16 x_17 x_18 x_19 s27]) C (c_X8_ways l D cB cI cJ cZ x_0 x_1 x_2 x_3 x_4 x_5 x_6 x_7 x_8 x_9 x_10 x_11 x_12 x_13 x_14 x_15 x_16 x_17 x_18 x_19 y28) rfl rfl (gIV ml_X8_107 im_X8_ways sl_X8_ways in_X8 cd_X8_ways) rfl eX8_ways rfl ⟨rfl, rfl⟩ ⟨Nat.le_of_ble_eq_true rfl, Nat.le_of_ble_eq_true rfl⟩ rfl rfl rfl [0] rfl rfl rfl rfl (gA_cons aM gA_nil) rfl rfl (Nat.le_of_ble_eq_true rfl) (tdec DX8_read 37 rfl) rfl ?_
          refine g_istore (L' := [(4, .int r26), (0, .ref x_0), (1, .int p1), (2, .int p2), (3, .int p3)]) C (tdec DX8_read 38 rfl) (by decide) rfl rfl ?_
          refine g_iload (z := 0) C (tdec DX8_read 39 rfl) rfl rfl ?_
          refine g_iconst (v := 4) C (tdec DX8_read 40 rfl) (by decide) rfl ?_
          refine g_icmp_lt (pt := 91) C (tdec DX8_read 41 rfl) (by decide) rfl (fun h29 => ?_) (fun h29 => ?_)
          · have hF := o_ifp hF h29
            refine g_lconst (v := 0) C (tdec DX8_read 51 rfl) (by decide) rfl ?_
            refine g_goto (pt := 117) C (tdec DX8_read 52 rfl) (by decide) ?_
            have hr9 := o_some hF
            subst hr9
            exact g_lret C rfl rfl (tdec DX8_read 67 rfl)
          · have hF := o_ifn hF h29
            refine g_aload_n (z := 1) C (tdec DX8_read 42 rfl) rfl rfl rfl ?_
            refine g_iload_n (z := 2) C (tdec DX8_read 43 rfl) rfl rfl rfl ?_
            refine g_aload_n (z := 1) C (tdec DX8_read 44 rfl) rfl rfl rfl ?_
            refine g_getf (C' := RX8) (T := TX8) (N := 27) (v := .ref x_19) C 0 25 (gIn iw_X8) rfl rfl (by decide) (gMem fl_X8_71) rfl rfl (tdec DX8_read 45 rfl) rfl ?_
            refine g_iconst (v := 3) C (tdec DX8_read 46 rfl) (by decide) rfl ?_
            obtain ⟨r30, y31, hF⟩ := o_bind hF
            refine g_iald C 19 1 rfl rfl y31 (tdec DX8_read 47 rfl) rfl ?_
            obtain ⟨r32, y33, hF⟩ := o_bind hF
            refine g_callViRS (q0 := 0) (S := [wM cB cI cJ cZ x_0 x_1 x_2 x_3 x_4 x_5 x_6 x_7 x_8 x_9 x_10 x_11 x_12 x_13 x_14 x_15 x_16 x_17 x_18 x_19 s27]) (S0 := [wM cB cI cJ cZ x_0 x_1 x_2 x_3 x_4 x_5 x_6 x_7 x_8 x_9 x_10 x_11 x_12 x_13 x_14 x_15 x_16 x_17 x_18 x_19 s27]) C (c_X8_told l D cB cI cJ cZ x_0 x_1 x_2 x_3 x_4 x_5 x_6 x_7 x_8 x_9 x_10 x_11 x_12 x_13 x_14 x_15 x_16 x_17 x_18 x_19 y33) rfl rfl (gIV ml_X8_90 im_X8_told sl_X8_told in_X8 cd_X8_told) rfl eX8_told rfl ⟨rfl, rfl⟩ ⟨Nat.le_of_ble_eq_true rfl, Nat.le_of_ble_eq_true rfl⟩ rfl rfl rfl [0] rfl rfl rfl (Nat.le_of_ble_eq_true rfl) (tdec DX8_read 48 rfl) rfl ?_
            refine g_iconst (v := (-1)) C (tdec DX8_read 49 rfl) (by decide) rfl ?_
            refine g_icmp_ne (pt := 95) C (tdec DX8_read 50 rfl) (by decide) rfl (fun h34 => ?_) (fun h34 => ?_)
            · have hF := o_ifn hF h34
              refine g_aload_n (z := 1) C (tdec DX8_read 53 rfl) rfl rfl rfl ?_
              refine g_getf (C' := RX8) (T := TX8) (N := 27) (v := .ref x_5) C 0 5 (gIn iw_X8) rfl rfl (by decide) (gMem fl_X8_22) rfl rfl (tdec DX8_read 54 rfl) rfl ?_
              refine g_sipush (v := 600) C (tdec DX8_read 55 rfl) (by decide) rfl ?_
              refine g_iload_n (z := 2) C (tdec DX8_read 56 rfl) rfl rfl rfl ?_
              refine g_imul C (tdec DX8_read 57 rfl) rfl ?_
              refine g_aload_n (z := 1) C (tdec DX8_read 58 rfl) rfl rfl rfl ?_
              refine g_iload_n (z := 2) C (tdec DX8_read 59 rfl) rfl rfl rfl ?_
              refine g_aload_n (z := 1) C (tdec DX8_read 60 rfl) rfl rfl rfl ?_
              refine g_getf (C' := RX8) (T := TX8) (N := 27) (v := .ref x_19) C 0 25 (gIn iw_X8) rfl rfl (by decide) (gMem fl_X8_71) rfl rfl (tdec DX8_read 61 rfl) rfl ?_
              refine g_iconst (v := 3) C (tdec DX8_read 62 rfl) (by decide) rfl ?_
              obtain ⟨r35, y36, hF⟩ := o_bind hF
              refine g_iald C 19 1 rfl rfl y36 (tdec DX8_read 63 rfl) rfl ?_
              obtain ⟨r37, y38, hF⟩ := o_bind hF
              refine g_callViRS (q0 := 0) (S := [wM cB cI cJ cZ x_0 x_1 x_2 x_3 x_4 x_5 x_6 x_7 x_8 x_9 x_10 x_11 x_12 x_13 x_14 x_15 x_16 x_17 x_18 x_19 s27]) (S0 := [wM cB cI cJ cZ x_0 x_1 x_2 x_3 x_4 x_5 x_6 x_7 x_8 x_9 x_10 x_11 x_12 x_13 x_14 x_15 x_16 x_17 x_18 x_19 s27]) C (c_X8_told l D cB cI cJ cZ x_0 x_1 x_2 x_3 x_4 x_5 x_6 x_7 x_8 x_9 x_10 x_11 x_12 x_13 x_14 x_15 x_16 x_17 x_18 x_19 y38) rfl rfl (gIV ml_X8_90 im_X8_told sl_X8_told in_X8 cd_X8_told) rfl eX8_told rfl ⟨rfl, rfl⟩ ⟨Nat.le_of_ble_eq_true rfl, Nat.le_of_ble_eq_true rfl⟩ rfl rfl rfl [0] rfl rfl rfl (Nat.le_of_ble_eq_true rfl) (tdec DX8_read 64 rfl) rfl ?_
              refine g_iadd C (tdec DX8_read 65 rfl) rfl ?_
              obtain ⟨r39, y40, hF⟩ := o_bind hF
              refine g_lald C 5 2 rfl rfl y40 (tdec DX8_read 66 rfl) rfl ?_
              have hr9 := o_some hF
              subst hr9
              exact g_lret C rfl rfl (tdec DX8_read 67 rfl)
            · have hF := o_ifp hF h34
              refine g_lconst (v := 0) C (tdec DX8_read 51 rfl) (by decide) rfl ?_
              refine g_goto (pt := 117) C (tdec DX8_read 52 rfl) (by decide) ?_
              have hr9 := o_some hF
              subst hr9
              exact g_lret C rfl rfl (tdec DX8_read 67 rfl)
        · have hF := o_ifp hF h25
          refine g_iconst (v := 2) C (tdec DX8_read 17 rfl) (by decide) rfl ?_
          refine g_goto (pt := 38) C (tdec DX8_read 18 rfl) (by decide) ?_
          refine g_putf (C' := RX8) (T := TX8) (N := 27) (v := .int 2) (ws' := wM cB cI cJ cZ x_0 x_1 x_2 x_3 x_4 x_5 x_6 x_7 x_8 x_9 x_10 x_11 x_12 x_13 x_14 x_15 x_16 x_17 x_18 x_19 (MS_setthr x0 2)) C 0 0 tyX8 tyX8_ok nmX8 (gIn iw_X8) rfl rfl (by decide) (gMem fl_X8_78) rfl rfl (tyX8_ok 0 (by decide)) rfl rfl (Nat.le_of_ble_eq_true rfl) rfl (tdec DX8_read 20 rfl) rfl ?_
          refine g_aload_n (z := 0) C (tdec DX8_read 21 rfl) rfl rfl rfl ?_
          refine g_getf (C' := RX8) (T := TX8) (N := 27) (v := .int 2) C 0 0 (gIn iw_X8) rfl rfl (by decide) (gMem fl_X8_78) rfl rfl (tdec DX8_read 22 rfl) rfl ?_
          refine g_if_le (pt := 50) C (tdec DX8_read 23 rfl) (by decide) rfl (fun h => absurd h (by decide)) (fun _ => ?_)
          refine g_lconst (v := 0) C (tdec DX8_read 24 rfl) (by decide) rfl ?_
          have hr9 := o_some hF
          subst hr9
          exact g_lret C rfl rfl (tdec DX8_read 25 rfl)
    · have hF := o_ifp hF h6
      refine g_iconst (v := 1) C (tdec DX8_read 7 rfl) (by decide) rfl ?_
      refine g_goto (pt := 38) C (tdec DX8_read 8 rfl) (by decide) ?_
      refine g_putf (C' := RX8) (T := TX8) (N := 27) (v := .int 1) (ws' := wM cB cI cJ cZ x_0 x_1 x_2 x_3 x_4 x_5 x_6 x_7 x_8 x_9 x_10 x_11 x_12 x_13 x_14 x_15 x_16 x_17 x_18 x_19 (MS_setthr x0 1)) C 0 0 tyX8 tyX8_ok nmX8 (gIn iw_X8) rfl rfl (by decide) (gMem fl_X8_78) rfl rfl (tyX8_ok 0 (by decide)) rfl rfl (Nat.le_of_ble_eq_true rfl) rfl (tdec DX8_read 20 rfl) rfl ?_
      refine g_aload_n (z := 0) C (tdec DX8_read 21 rfl) rfl rfl rfl ?_
      refine g_getf (C' := RX8) (T := TX8) (N := 27) (v := .int 1) C 0 0 (gIn iw_X8) rfl rfl (by decide) (gMem fl_X8_78) rfl rfl (tdec DX8_read 22 rfl) rfl ?_
      refine g_if_le (pt := 50) C (tdec DX8_read 23 rfl) (by decide) rfl (fun h => absurd h (by decide)) (fun _ => ?_)
      refine g_lconst (v := 0) C (tdec DX8_read 24 rfl) (by decide) rfl ?_
      have hr9 := o_some hF
      subst hr9
      exact g_lret C rfl rfl (tdec DX8_read 25 rfl)
def FX8_snaps (x0 : MS) (p1 : Int32) (p2 : Int32) (p3 : Int64) : Option (MS) :=
  (ald 2 (MS_snaps x0) p1).bind fun r1 =>
  (ald 44 (MS_tt x0) ((22 * p1) + p2)).bind fun r3 =>
  (ast 44 (MS_tt x0) (((22 * p1) + 2) + r1) r3).bind fun g5 =>
  (ald 44 (MS_tb x0) ((22 * p1) + p2)).bind fun r7 =>
  (ast 44 (MS_tb x0) (((22 * p1) + 2) + r1) r7).bind fun g9 =>
  (ald 2 (MS_gen x0) p1).bind fun r11 =>
  (ast 40 (MS_sg x0) ((20 * p1) + r1) r11).bind fun g13 =>
  (lst 40 (MS_sm x0) ((20 * p1) + r1) p3).bind fun g15 =>
  (ald 2 (MS_snaps x0) p1).bind fun r17 =>
  (ast 2 (MS_snaps x0) p1 (r17 + 1)).bind fun g19 =>
  (ald 2 (MS_gen x0) p1).bind fun r21 =>
  (ast 2 (MS_gen x0) p1 (r21 + 1)).bind fun g23 =>
  some (MS_setgen (MS_setsnaps (MS_setsm (MS_setsg (MS_settb (MS_settt x0 g5) g9) g13) g15) g19) g23)
def rX8_snaps : Room := { frames := 0, cells := 0, slots := 0, locals := 0 }
set_option maxHeartbeats 4000000 in
set_option maxRecDepth 100000 in
theorem c_X8_snaps (l : Launch) (D : va_G) (cB cI cJ cZ : ClassId) (x_0 x_1 x_2 x_3 x_4 x_5 x_6 x_7 x_8 x_9 x_10 x_11 x_12 x_13 x_14 x_15 x_16 x_17 x_18 x_19 : Nat) {x0 : MS} {p1 : Int32} {p2 : Int32} {p3 : Int64} {res : MS} (hF : FX8_snaps x0 p1 p2 p3 = some res) : gMv l yX8_snaps wsX8_snaps rX8_snaps D (gT cB cI cJ cZ) [.ref x_0, .int p1, .int p2, .long p3] (wM cB cI cJ cZ x_0 x_1 x_2 x_3 x_4 x_5 x_6 x_7 x_8 x_9 x_10 x_11 x_12 x_13 x_14 x_15 x_16 x_17 x_18 x_19 x0) (wM cB cI cJ cZ x_0 x_1 x_2 x_3 x_4 x_5 x_6 x_7 x_8 x_9 x_10 x_11 x_12 x_13 x_14 x_15 x_16 x_17 x_18 x_19 res) := by
  refine g_enter (own := RX8) (free := (fun sz => va_A (wM cB cI cJ cZ x_0 x_1 x_2 x_3 x_4 x_5 x_6 x_7 x_8 x_9 x_10 x_11 x_12 x_13 x_14 x_15 x_16 x_17 x_18 x_19 x0) sz)) (Qc := (fun sz => gQv D (wM cB cI cJ cZ x_0 x_1 x_2 x_3 x_4 x_5 x_6 x_7 x_8 x_9 x_10 x_11 x_12 x_13 x_14 x_15 x_16 x_17 x_18 x_19 x0) sz (wM cB cI cJ cZ x_0 x_1 x_2 x_3 x_4 x_5 x_6 x_7 x_8 x_9 x_10 x_11 x_12 x_13 x_14 x_15 x_16 x_17 x_18 x_19 res))) (fun sz => va_A (wM cB cI cJ cZ x_0 x_1 x_2 x_3 x_4 x_5 x_6 x_7 x_8 x_9 x_10 x_11 x_12 x_13 x_14 x_15 x_16 x_17 x_18 x_19 x0) sz) (fun sz => Or.inr rfl) rfl (by decide) rfl (Nat.le_of_ble_eq_true rfl) rfl ?_
  intro p e s m args below meth c C
  unfold FX8_snaps at hF
  refine g_aload_n (z := 0) C (tdec DX8_snaps 0 rfl) rfl rfl rfl ?_
  refine g_getf (C' := RX8) (T := TX8) (N := 27) (v := .ref x_10) C 0 10 (gIn iw_X8) rfl rfl (by decide) (gMem fl_X8_39) rfl rfl (tdec DX8_snaps 1 rfl) rfl ?_
  refine g_iload_n (z := 1) C (tdec DX8_snaps 2 rfl) rfl rfl rfl ?_
  obtain ⟨r1, y2, hF⟩ := o_bind hF
  refine g_iald C 10 1 rfl rfl y2 (tdec DX8_snaps 3 rfl) rfl ?_
  refine g_istore (L' := [(5, .int r1), (0, .ref x_0), (1, .int p1), (2, .int p2), (3, .long p3)]) C (tdec DX8_snaps 4 rfl) (by decide) rfl rfl ?_
  refine g_aload_n (z := 1) C (tdec DX8_snaps 5 rfl) rfl rfl rfl ?_
  refine g_getf (C' := RX8) (T := TX8) (N := 27) (v := .ref x_7) C 0 7 (gIn iw_X8) rfl rfl (by decide) (gMem fl_X8_30) rfl rfl (tdec DX8_snaps 6 rfl) rfl ?_
  refine g_bipush (v := 22) C (tdec DX8_snaps 7 rfl) (by decide) rfl ?_
  refine g_iload_n (z := 2) C (tdec DX8_snaps 8 rfl) rfl rfl rfl ?_
  refine g_imul C (tdec DX8_snaps 9 rfl) rfl ?_
  refine g_iconst (v := 2) C (tdec DX8_snaps 10 rfl) (by decide) rfl ?_
  refine g_iadd C (tdec DX8_snaps 11 rfl) rfl ?_
  refine g_iload (z := 0) C (tdec DX8_snaps 12 rfl) rfl rfl ?_
  refine g_iadd C (tdec DX8_snaps 13 rfl) rfl ?_
  refine g_aload_n (z := 1) C (tdec DX8_snaps 14 rfl) rfl rfl rfl ?_
  refine g_getf (C' := RX8) (T := TX8) (N := 27) (v := .ref x_7) C 0 7 (gIn iw_X8) rfl rfl (by decide) (gMem fl_X8_30) rfl rfl (tdec DX8_snaps 15 rfl) rfl ?_
  refine g_bipush (v := 22) C (tdec DX8_snaps 16 rfl) (by decide) rfl ?_
  refine g_iload_n (z := 2) C (tdec DX8_snaps 17 rfl) rfl rfl rfl ?_
  refine g_imul C (tdec DX8_snaps 18 rfl) rfl ?_
  refine g_iload_n (z := 3) C (tdec DX8_snaps 19 rfl) rfl rfl rfl ?_
  refine g_iadd C (tdec DX8_snaps 20 rfl) rfl ?_
  obtain ⟨r3, y4, hF⟩ := o_bind hF
  refine g_iald C 7 1 rfl rfl y4 (tdec DX8_snaps 21 rfl) rfl ?_
  obtain ⟨g5, y6, hF⟩ := o_bind hF
  refine g_iast (ws' := wM cB cI cJ cZ x_0 x_1 x_2 x_3 x_4 x_5 x_6 x_7 x_8 x_9 x_10 x_11 x_12 x_13 x_14 x_15 x_16 x_17 x_18 x_19 (MS_settt x0 g5)) C 7 1 rfl rfl y6 rfl (tdec DX8_snaps 22 rfl) rfl ?_
  refine g_aload_n (z := 1) C (tdec DX8_snaps 23 rfl) rfl rfl rfl ?_
  refine g_getf (C' := RX8) (T := TX8) (N := 27) (v := .ref x_8) C 0 8 (gIn iw_X8) rfl rfl (by decide) (gMem fl_X8_33) rfl rfl (tdec DX8_snaps 24 rfl) rfl ?_
  refine g_bipush (v := 22) C (tdec DX8_snaps 25 rfl) (by decide) rfl ?_
  refine g_iload_n (z := 2) C (tdec DX8_snaps 26 rfl) rfl rfl rfl ?_
  refine g_imul C (tdec DX8_snaps 27 rfl) rfl ?_
  refine g_iconst (v := 2) C (tdec DX8_snaps 28 rfl) (by decide) rfl ?_
  refine g_iadd C (tdec DX8_snaps 29 rfl) rfl ?_
  refine g_iload (z := 0) C (tdec DX8_snaps 30 rfl) rfl rfl ?_
  refine g_iadd C (tdec DX8_snaps 31 rfl) rfl ?_
  refine g_aload_n (z := 1) C (tdec DX8_snaps 32 rfl) rfl rfl rfl ?_
  refine g_getf (C' := RX8) (T := TX8) (N := 27) (v := .ref x_8) C 0 8 (gIn iw_X8) rfl rfl (by decide) (gMem fl_X8_33) rfl rfl (tdec DX8_snaps 33 rfl) rfl ?_
  refine g_bipush (v := 22) C (tdec DX8_snaps 34 rfl) (by decide) rfl ?_
  refine g_iload_n (z := 2) C (tdec DX8_snaps 35 rfl) rfl rfl rfl ?_
  refine g_imul C (tdec DX8_snaps 36 rfl) rfl ?_
  refine g_iload_n (z := 3) C (tdec DX8_snaps 37 rfl) rfl rfl rfl ?_
  refine g_iadd C (tdec DX8_snaps 38 rfl) rfl ?_
  obtain ⟨r7, y8, hF⟩ := o_bind hF
  refine g_iald C 8 1 rfl rfl y8 (tdec DX8_snaps 39 rfl) rfl ?_
  obtain ⟨g9, y10, hF⟩ := o_bind hF
  refine g_iast (ws' := wM cB cI cJ cZ x_0 x_1 x_2 x_3 x_4 x_5 x_6 x_7 x_8 x_9 x_10 x_11 x_12 x_13 x_14 x_15 x_16 x_17 x_18 x_19 (MS_settb (MS_settt x0 g5) g9)) C 8 1 rfl rfl y10 rfl (tdec DX8_snaps 40 rfl) rfl ?_
  refine g_aload_n (z := 1) C (tdec DX8_snaps 41 rfl) rfl rfl rfl ?_
  refine g_getf (C' := RX8) (T := TX8) (N := 27) (v := .ref x_11) C 0 11 (gIn iw_X8) rfl rfl (by decide) (gMem fl_X8_42) rfl rfl (tdec DX8_snaps 42 rfl) rfl ?_
  refine g_bipush (v := 20) C (tdec DX8_snaps 43 rfl) (by decide) rfl ?_
  refine g_iload_n (z := 2) C (tdec DX8_snaps 44 rfl) rfl rfl rfl ?_
  refine g_imul C (tdec DX8_snaps 45 rfl) rfl ?_
  refine g_iload (z := 0) C (tdec DX8_snaps 46 rfl) rfl rfl ?_
  refine g_iadd C (tdec DX8_snaps 47 rfl) rfl ?_
  refine g_aload_n (z := 1) C (tdec DX8_snaps 48 rfl) rfl rfl rfl ?_
  refine g_getf (C' := RX8) (T := TX8) (N := 27) (v := .ref x_9) C 0 9 (gIn iw_X8) rfl rfl (by decide) (gMem fl_X8_36) rfl rfl (tdec DX8_snaps 49 rfl) rfl ?_
  refine g_iload_n (z := 2) C (tdec DX8_snaps 50 rfl) rfl rfl rfl ?_
  obtain ⟨r11, y12, hF⟩ := o_bind hF
  refine g_iald C 9 1 rfl rfl y12 (tdec DX8_snaps 51 rfl) rfl ?_
  obtain ⟨g13, y14, hF⟩ := o_bind hF
  refine g_iast (ws' := wM cB cI cJ cZ x_0 x_1 x_2 x_3 x_4 x_5 x_6 x_7 x_8 x_9 x_10 x_11 x_12 x_13 x_14 x_15 x_16 x_17 x_18 x_19 (MS_setsg (MS_settb (MS_settt x0 g5) g9) g13)) C 11 1 rfl rfl y14 rfl (tdec DX8_snaps 52 rfl) rfl ?_
  refine g_aload_n (z := 1) C (tdec DX8_snaps 53 rfl) rfl rfl rfl ?_
  refine g_getf (C' := RX8) (T := TX8) (N := 27) (v := .ref x_12) C 0 12 (gIn iw_X8) rfl rfl (by decide) (gMem fl_X8_45) rfl rfl (tdec DX8_snaps 54 rfl) rfl ?_
  refine g_bipush (v := 20) C (tdec DX8_snaps 55 rfl) (by decide) rfl ?_
  refine g_iload_n (z := 2) C (tdec DX8_snaps 56 rfl) rfl rfl rfl ?_
  refine g_imul C (tdec DX8_snaps 57 rfl) rfl ?_
  refine g_iload (z := 0) C (tdec DX8_snaps 58 rfl) rfl rfl ?_
  refine g_iadd C (tdec DX8_snaps 59 rfl) rfl ?_
  refine g_lload_n (z := 4) C (tdec DX8_snaps 60 rfl) rfl rfl rfl ?_
  obtain ⟨g15, y16, hF⟩ := o_bind hF
  refine g_last (ws' := wM cB cI cJ cZ x_0 x_1 x_2 x_3 x_4 x_5 x_6 x_7 x_8 x_9 x_10 x_11 x_12 x_13 x_14 x_15 x_16 x_17 x_18 x_19 (MS_setsm (MS_setsg (MS_settb (MS_settt x0 g5) g9) g13) g15)) C 12 2 rfl rfl y16 rfl (tdec DX8_snaps 61 rfl) rfl ?_
  refine g_aload_n (z := 1) C (tdec DX8_snaps 62 rfl) rfl rfl rfl ?_
  refine g_getf (C' := RX8) (T := TX8) (N := 27) (v := .ref x_10) C 0 10 (gIn iw_X8) rfl rfl (by decide) (gMem fl_X8_39) rfl rfl (tdec DX8_snaps 63 rfl) rfl ?_
  refine g_iload_n (z := 2) C (tdec DX8_snaps 64 rfl) rfl rfl rfl ?_
  refine g_dup2 C (tdec DX8_snaps 65 rfl) rfl rfl rfl ?_
  obtain ⟨r17, y18, hF⟩ := o_bind hF
  refine g_iald C 10 1 rfl rfl y18 (tdec DX8_snaps 66 rfl) rfl ?_
  refine g_iconst (v := 1) C (tdec DX8_snaps 67 rfl) (by decide) rfl ?_
  refine g_iadd C (tdec DX8_snaps 68 rfl) rfl ?_
  obtain ⟨g19, y20, hF⟩ := o_bind hF
  refine g_iast (ws' := wM cB cI cJ cZ x_0 x_1 x_2 x_3 x_4 x_5 x_6 x_7 x_8 x_9 x_10 x_11 x_12 x_13 x_14 x_15 x_16 x_17 x_18 x_19 (MS_setsnaps (MS_setsm (MS_setsg (MS_settb (MS_settt x0 g5) g9) g13) g15) g19)) C 10 1 rfl rfl y20 rfl (tdec DX8_snaps 69 rfl) rfl ?_
  refine g_aload_n (z := 1) C (tdec DX8_snaps 70 rfl) rfl rfl rfl ?_
  refine g_getf (C' := RX8) (T := TX8) (N := 27) (v := .ref x_9) C 0 9 (gIn iw_X8) rfl rfl (by decide) (gMem fl_X8_36) rfl rfl (tdec DX8_snaps 71 rfl) rfl ?_
  refine g_iload_n (z := 2) C (tdec DX8_snaps 72 rfl) rfl rfl rfl ?_
  refine g_dup2 C (tdec DX8_snaps 73 rfl) rfl rfl rfl ?_
  obtain ⟨r21, y22, hF⟩ := o_bind hF
  refine g_iald C 9 1 rfl rfl y22 (tdec DX8_snaps 74 rfl) rfl ?_
  refine g_iconst (v := 1) C (tdec DX8_snaps 75 rfl) (by decide) rfl ?_
  refine g_iadd C (tdec DX8_snaps 76 rfl) rfl ?_
  obtain ⟨g23, y24, hF⟩ := o_bind hF
  refine g_iast (ws' := wM cB cI cJ cZ x_0 x_1 x_2 x_3 x_4 x_5 x_6 x_7 x_8 x_9 x_10 x_11 x_12 x_13 x_14 x_15 x_16 x_17 x_18 x_19 (MS_setgen (MS_setsnaps (MS_setsm (MS_setsg (MS_settb (MS_settt x0 g5) g9) g13) g15) g19) g23)) C 9 1 rfl rfl y24 rfl (tdec DX8_snaps 77 rfl) rfl ?_
  have hr9 := o_some hF
  subst hr9
  exact g_vret C rfl (tdec DX8_snaps 78 rfl)
def FX8_snapshot (x0 : MS) (p1 : Int32) : Option (Int32 × MS) :=
  (FX8_isVolume p1).bind fun r1 =>
  if r1 = 0 then
    some (0, (MS_setthr x0 1))
  else
    (ald 2 (MS_busy x0) p1).bind fun r4 =>
    if r4 = 0 then
      (ald 2 (MS_snaps x0) p1).bind fun r7 =>
      if r7 = 20 then
        some (0, (MS_setthr x0 3))
      else
        (FX8_snaps (MS_setthr x0 0) p1 0 (MS_nm x0)).bind fun s10 =>
        (ald 2 (MS_snaps s10) p1).bind fun r12 =>
        some ((r12 - 1), (MS_setnm s10 ((MS_nm s10) + 1)))
    else
      some (0, (MS_setthr x0 2))
def rX8_snapshot : Room := { frames := 1, cells := 0, slots := 0, locals := 25 }
set_option maxHeartbeats 4000000 in
set_option maxRecDepth 100000 in
theorem c_X8_snapshot (l : Launch) (D : va_G) (cB cI cJ cZ : ClassId) (x_0 x_1 x_2 x_3 x_4 x_5 x_6 x_7 x_8 x_9 x_10 x_11 x_12 x_13 x_14 x_15 x_16 x_17 x_18 x_19 : Nat) {x0 : MS} {p1 : Int32} {res : Int32 × MS} (hF : FX8_snapshot x0 p1 = some res) : gMi l yX8_snapshot wsX8_snapshot rX8_snapshot D (gT cB cI cJ cZ) [.ref x_0, .int p1] (wM cB cI cJ cZ x_0 x_1 x_2 x_3 x_4 x_5 x_6 x_7 x_8 x_9 x_10 x_11 x_12 x_13 x_14 x_15 x_16 x_17 x_18 x_19 x0) res.1 (wM cB cI cJ cZ x_0 x_1 x_2 x_3 x_4 x_5 x_6 x_7 x_8 x_9 x_10 x_11 x_12 x_13 x_14 x_15 x_16 x_17 x_18 x_19 res.2) := by
  refine g_enter (own := RX8) (free := (fun sz => va_A (wM cB cI cJ cZ x_0 x_1 x_2 x_3 x_4 x_5 x_6 x_7 x_8 x_9 x_10 x_11 x_12 x_13 x_14 x_15 x_16 x_17 x_18 x_19 x0) sz)) (Qc := (fun sz => gQi D (wM cB cI cJ cZ x_0 x_1 x_2 x_3 x_4 x_5 x_6 x_7 x_8 x_9 x_10 x_11 x_12 x_13 x_14 x_15 x_16 x_17 x_18 x_19 x0) sz res.1 (wM cB cI cJ cZ x_0 x_1 x_2 x_3 x_4 x_5 x_6 x_7 x_8 x_9 x_10 x_11 x_12 x_13 x_14 x_15 x_16 x_17 x_18 x_19 res.2))) (fun sz => va_A (wM cB cI cJ cZ x_0 x_1 x_2 x_3 x_4 x_5 x_6 x_7 x_8 x_9 x_10 x_11 x_12 x_13 x_14 x_15 x_16 x_17 x_18 x_19 x0) sz) (fun sz => Or.inr rfl) rfl (by decide) rfl (Nat.le_of_ble_eq_true rfl) rfl ?_
  intro p e s m args below meth c C
  unfold FX8_snapshot at hF
  refine g_aload_n (z := 0) C (tdec DX8_snapshot 0 rfl) rfl rfl rfl ?_
  refine g_iload_n (z := 1) C (tdec DX8_snapshot 1 rfl) rfl rfl rfl ?_
  obtain ⟨r1, y2, hF⟩ := o_bind hF
  refine g_callSiR C (c_X8_isVolume l D cB cI cJ cZ y2) (gIS ml_X8_82 st_X8_isVolume in_X8 cd_X8_isVolume) eX8_isVolume rfl ⟨rfl, rfl⟩ ⟨Nat.le_of_ble_eq_true rfl, Nat.le_of_ble_eq_true rfl⟩ rfl [] rfl rfl rfl (Nat.le_of_ble_eq_true rfl) (tdec DX8_snapshot 2 rfl) rfl ?_
  refine g_if_ne (pt := 12) C (tdec DX8_snapshot 3 rfl) (by decide) rfl (fun h3 => ?_) (fun h3 => ?_)
  · have hF := o_ifn hF h3
    refine g_aload_n (z := 0) C (tdec DX8_snapshot 6 rfl) rfl rfl rfl ?_
    refine g_getf (C' := RX8) (T := TX8) (N := 27) (v := .ref x_13) C 0 13 (gIn iw_X8) rfl rfl (by decide) (gMem fl_X8_48) rfl rfl (tdec DX8_snapshot 7 rfl) rfl ?_
    refine g_iload_n (z := 1) C (tdec DX8_snapshot 8 rfl) rfl rfl rfl ?_
    obtain ⟨r4, y5, hF⟩ := o_bind hF
    refine g_zald C 13 3 rfl rfl y5 (tdec DX8_snapshot 9 rfl) rfl ?_
    refine g_if_eq (pt := 25) C (tdec DX8_snapshot 10 rfl) (by decide) rfl (fun h6 => ?_) (fun h6 => ?_)
    · have hF := o_ifp hF h6
      refine g_aload_n (z := 0) C (tdec DX8_snapshot 13 rfl) rfl rfl rfl ?_
      refine g_getf (C' := RX8) (T := TX8) (N := 27) (v := .ref x_10) C 0 10 (gIn iw_X8) rfl rfl (by decide) (gMem fl_X8_39) rfl rfl (tdec DX8_snapshot 14 rfl) rfl ?_
      refine g_iload_n (z := 1) C (tdec DX8_snapshot 15 rfl) rfl rfl rfl ?_
      obtain ⟨r7, y8, hF⟩ := o_bind hF
      refine g_iald C 10 1 rfl rfl y8 (tdec DX8_snapshot 16 rfl) rfl ?_
      refine g_bipush (v := 20) C (tdec DX8_snapshot 17 rfl) (by decide) rfl ?_
      refine g_icmp_ne (pt := 40) C (tdec DX8_snapshot 18 rfl) (by decide) rfl (fun h9 => ?_) (fun h9 => ?_)
      · have hF := o_ifn hF h9
        refine g_iconst (v := 0) C (tdec DX8_snapshot 21 rfl) (by decide) rfl ?_
        refine g_putf (C' := RX8) (T := TX8) (N := 27) (v := .int 0) (ws' := wM cB cI cJ cZ x_0 x_1 x_2 x_3 x_4 x_5 x_6 x_7 x_8 x_9 x_10 x_11 x_12 x_13 x_14 x_15 x_16 x_17 x_18 x_19 (MS_setthr x0 0)) C 0 0 tyX8 tyX8_ok nmX8 (gIn iw_X8) rfl rfl (by decide) (gMem fl_X8_78) rfl rfl (tyX8_ok 0 (by decide)) rfl rfl (Nat.le_of_ble_eq_true rfl) rfl (tdec DX8_snapshot 22 rfl) rfl ?_
        refine g_aload_n (z := 0) C (tdec DX8_snapshot 23 rfl) rfl rfl rfl ?_
        refine g_getf (C' := RX8) (T := TX8) (N := 27) (v := .int 0) C 0 0 (gIn iw_X8) rfl rfl (by decide) (gMem fl_X8_78) rfl rfl (tdec DX8_snapshot 24 rfl) rfl ?_
        refine g_if_le (pt := 53) C (tdec DX8_snapshot 25 rfl) (by decide) rfl (fun _ => ?_) (fun h => absurd h (by decide))
        refine g_aload_n (z := 0) C (tdec DX8_snapshot 28 rfl) rfl rfl rfl ?_
        refine g_iload_n (z := 1) C (tdec DX8_snapshot 29 rfl) rfl rfl rfl ?_
        refine g_iconst (v := 0) C (tdec DX8_snapshot 30 rfl) (by decide) rfl ?_
        refine g_aload_n (z := 0) C (tdec DX8_snapshot 31 rfl) rfl rfl rfl ?_
        refine g_getf (C' := RX8) (T := TX8) (N := 27) (v := .long (MS_nm x0)) C 0 17 (gIn iw_X8) rfl rfl (by decide) (gMem fl_X8_60) rfl rfl (tdec DX8_snapshot 32 rfl) rfl ?_
        obtain ⟨s10, y11, hF⟩ := o_bind hF
        refine g_callVvMS (q0 := 0) (W' := wM cB cI cJ cZ x_0 x_1 x_2 x_3 x_4 x_5 x_6 x_7 x_8 x_9 x_10 x_11 x_12 x_13 x_14 x_15 x_16 x_17 x_18 x_19 s10) (S := [wM cB cI cJ cZ x_0 x_1 x_2 x_3 x_4 x_5 x_6 x_7 x_8 x_9 x_10 x_11 x_12 x_13 x_14 x_15 x_16 x_17 x_18 x_19 (MS_setthr x0 0)]) (S0 := [wM cB cI cJ cZ x_0 x_1 x_2 x_3 x_4 x_5 x_6 x_7 x_8 x_9 x_10 x_11 x_12 x_13 x_14 x_15 x_16 x_17 x_18 x_19 (MS_setthr x0 0)]) (S1 := [wM cB cI cJ cZ x_0 x_1 x_2 x_3 x_4 x_5 x_6 x_7 x_8 x_9 x_10 x_11 x_12 x_13 x_14 x_15 x_16 x_17 x_18 x_19 s10]) (S' := [wM cB cI cJ cZ x_0 x_1 x_2 x_3 x_4 x_5 x_6 x_7 x_8 x_9 x_10 x_11 x_12 x_13 x_14 x_15 x_16 x_17 x_18 x_19 s10]) C (c_X8_snaps l D cB cI cJ cZ x_0 x_1 x_2 x_3 x_4 x_5 x_6 x_7 x_8 x_9 x_10 x_11 x_12 x_13 x_14 x_15 x_16 x_17 x_18 x_19 y11) rfl rfl (gIV ml_X8_144 im_X8_snaps sl_X8_snaps in_X8 cd_X8_snaps) rfl eX8_snaps rfl ⟨rfl, rfl⟩ ⟨Nat.le_of_ble_eq_true rfl, Nat.le_of_ble_eq_true rfl⟩ rfl rfl rfl [0] rfl rfl rfl rfl (gA_cons aM gA_nil) rfl rfl (Nat.le_of_ble_eq_true rfl) (tdec DX8_snapshot 33 rfl) rfl ?_
        refine g_aload_n (z := 0) C (tdec DX8_snapshot 34 rfl) rfl rfl rfl ?_
        refine g_dup C (tdec DX8_snapshot 35 rfl) rfl rfl ?_
        refine g_getf (C' := RX8) (T := TX8) (N := 27) (v := .long (MS_nm s10)) C 0 17 (gIn iw_X8) rfl rfl (by decide) (gMem fl_X8_60) rfl rfl (tdec DX8_snapshot 36 rfl) rfl ?_
        refine g_lconst (v := 1) C (tdec DX8_snapshot 37 rfl) (by decide) rfl ?_
        refine g_ladd C (tdec DX8_snapshot 38 rfl) rfl ?_
        refine g_putf (C' := RX8) (T := TX8) (N := 27) (v := .long ((MS_nm s10) + 1)) (ws' := wM cB cI cJ cZ x_0 x_1 x_2 x_3 x_4 x_5 x_6 x_7 x_8 x_9 x_10 x_11 x_12 x_13 x_14 x_15 x_16 x_17 x_18 x_19 (MS_setnm s10 ((MS_nm s10) + 1))) C 0 17 tyX8 tyX8_ok nmX8 (gIn iw_X8) rfl rfl (by decide) (gMem fl_X8_60) rfl rfl (tyX8_ok 17 (by decide)) rfl rfl (Nat.le_of_ble_eq_true rfl) rfl (tdec DX8_snapshot 39 rfl) rfl ?_
        refine g_aload_n (z := 0) C (tdec DX8_snapshot 40 rfl) rfl rfl rfl ?_
        refine g_getf (C' := RX8) (T := TX8) (N := 27) (v := .ref x_10) C 0 10 (gIn iw_X8) rfl rfl (by decide) (gMem fl_X8_39) rfl rfl (tdec DX8_snapshot 41 rfl) rfl ?_
        refine g_iload_n (z := 1) C (tdec DX8_snapshot 42 rfl) rfl rfl rfl ?_
        obtain ⟨r12, y13, hF⟩ := o_bind hF
        refine g_iald C 10 1 rfl rfl y13 (tdec DX8_snapshot 43 rfl) rfl ?_
        refine g_iconst (v := 1) C (tdec DX8_snapshot 44 rfl) (by decide) rfl ?_
        refine g_isub C (tdec DX8_snapshot 45 rfl) rfl ?_
        have hr9 := o_some hF
        subst hr9
        exact g_iret C rfl rfl (tdec DX8_snapshot 46 rfl)
      · have hF := o_ifp hF h9
        refine g_iconst (v := 3) C (tdec DX8_snapshot 19 rfl) (by decide) rfl ?_
        refine g_goto (pt := 41) C (tdec DX8_snapshot 20 rfl) (by decide) ?_
        refine g_putf (C' := RX8) (T := TX8) (N := 27) (v := .int 3) (ws' := wM cB cI cJ cZ x_0 x_1 x_2 x_3 x_4 x_5 x_6 x_7 x_8 x_9 x_10 x_11 x_12 x_13 x_14 x_15 x_16 x_17 x_18 x_19 (MS_setthr x0 3)) C 0 0 tyX8 tyX8_ok nmX8 (gIn iw_X8) rfl rfl (by decide) (gMem fl_X8_78) rfl rfl (tyX8_ok 0 (by decide)) rfl rfl (Nat.le_of_ble_eq_true rfl) rfl (tdec DX8_snapshot 22 rfl) rfl ?_
        refine g_aload_n (z := 0) C (tdec DX8_snapshot 23 rfl) rfl rfl rfl ?_
        refine g_getf (C' := RX8) (T := TX8) (N := 27) (v := .int 3) C 0 0 (gIn iw_X8) rfl rfl (by decide) (gMem fl_X8_78) rfl rfl (tdec DX8_snapshot 24 rfl) rfl ?_
        refine g_if_le (pt := 53) C (tdec DX8_snapshot 25 rfl) (by decide) rfl (fun h => absurd h (by decide)) (fun _ => ?_)
        refine g_iconst (v := 0) C (tdec DX8_snapshot 26 rfl) (by decide) rfl ?_
        have hr9 := o_some hF
        subst hr9
        exact g_iret C rfl rfl (tdec DX8_snapshot 27 rfl)
    · have hF := o_ifn hF h6
      refine g_iconst (v := 2) C (tdec DX8_snapshot 11 rfl) (by decide) rfl ?_
      refine g_goto (pt := 41) C (tdec DX8_snapshot 12 rfl) (by decide) ?_
      refine g_putf (C' := RX8) (T := TX8) (N := 27) (v := .int 2) (ws' := wM cB cI cJ cZ x_0 x_1 x_2 x_3 x_4 x_5 x_6 x_7 x_8 x_9 x_10 x_11 x_12 x_13 x_14 x_15 x_16 x_17 x_18 x_19 (MS_setthr x0 2)) C 0 0 tyX8 tyX8_ok nmX8 (gIn iw_X8) rfl rfl (by decide) (gMem fl_X8_78) rfl rfl (tyX8_ok 0 (by decide)) rfl rfl (Nat.le_of_ble_eq_true rfl) rfl (tdec DX8_snapshot 22 rfl) rfl ?_
      refine g_aload_n (z := 0) C (tdec DX8_snapshot 23 rfl) rfl rfl rfl ?_
      refine g_getf (C' := RX8) (T := TX8) (N := 27) (v := .int 2) C 0 0 (gIn iw_X8) rfl rfl (by decide) (gMem fl_X8_78) rfl rfl (tdec DX8_snapshot 24 rfl) rfl ?_
      refine g_if_le (pt := 53) C (tdec DX8_snapshot 25 rfl) (by decide) rfl (fun h => absurd h (by decide)) (fun _ => ?_)
      refine g_iconst (v := 0) C (tdec DX8_snapshot 26 rfl) (by decide) rfl ?_
      have hr9 := o_some hF
      subst hr9
      exact g_iret C rfl rfl (tdec DX8_snapshot 27 rfl)
  · have hF := o_ifp hF h3
    refine g_iconst (v := 1) C (tdec DX8_snapshot 4 rfl) (by decide) rfl ?_
    refine g_goto (pt := 41) C (tdec DX8_snapshot 5 rfl) (by decide) ?_
    refine g_putf (C' := RX8) (T := TX8) (N := 27) (v := .int 1) (ws' := wM cB cI cJ cZ x_0 x_1 x_2 x_3 x_4 x_5 x_6 x_7 x_8 x_9 x_10 x_11 x_12 x_13 x_14 x_15 x_16 x_17 x_18 x_19 (MS_setthr x0 1)) C 0 0 tyX8 tyX8_ok nmX8 (gIn iw_X8) rfl rfl (by decide) (gMem fl_X8_78) rfl rfl (tyX8_ok 0 (by decide)) rfl rfl (Nat.le_of_ble_eq_true rfl) rfl (tdec DX8_snapshot 22 rfl) rfl ?_
    refine g_aload_n (z := 0) C (tdec DX8_snapshot 23 rfl) rfl rfl rfl ?_
    refine g_getf (C' := RX8) (T := TX8) (N := 27) (v := .int 1) C 0 0 (gIn iw_X8) rfl rfl (by decide) (gMem fl_X8_78) rfl rfl (tdec DX8_snapshot 24 rfl) rfl ?_
    refine g_if_le (pt := 53) C (tdec DX8_snapshot 25 rfl) (by decide) rfl (fun h => absurd h (by decide)) (fun _ => ?_)
    refine g_iconst (v := 0) C (tdec DX8_snapshot 26 rfl) (by decide) rfl ?_
    have hr9 := o_some hF
    subst hr9
    exact g_iret C rfl rfl (tdec DX8_snapshot 27 rfl)
def FX8_destroy_L63 (v1 : Int32) (v2 : Int32) (k9 : MS → Int32 → Option (Int32 × MS)) : Nat → MS → Int32 → Option (Int32 × MS)
  | 0, _, _ => none
  | n9 + 1, x, v3 =>
    (ald 2 (MS_snaps x) v1).bind fun r14 =>
    if r14 ≤ v3 then
      k9 x v3
    else
      (ald 44 (MS_tt x) ((((22 * v1) + 2) + v3) + 1)).bind fun r17 =>
      (ast 44 (MS_tt x) (((22 * v1) + 2) + v3) r17).bind fun g19 =>
      (ald 44 (MS_tb x) ((((22 * v1) + 2) + v3) + 1)).bind fun r21 =>
      (ast 44 (MS_tb x) (((22 * v1) + 2) + v3) r21).bind fun g23 =>
      (ald 40 (MS_sg x) (((20 * v1) + v3) + 1)).bind fun r25 =>
      (ast 40 (MS_sg x) ((20 * v1) + v3) r25).bind fun g27 =>
      (ald 40 (MS_sm x) (((20 * v1) + v3) + 1)).bind fun r29 =>
      (lst 40 (MS_sm x) ((20 * v1) + v3) r29).bind fun g31 =>
      FX8_destroy_L63 v1 v2 k9 n9 (MS_setsm (MS_setsg (MS_settb (MS_settt x g19) g23) g27) g31) (v3 + 1)
def FX8_destroy (x0 : MS) (p1 : Int32) (p2 : Int32) : Option (Int32 × MS) :=
  (FX8_isVolume p1).bind fun r1 =>
  if r1 = 0 then
    some (0, (MS_setthr x0 1))
  else
    (ald 2 (MS_busy x0) p1).bind fun r4 =>
    if r4 = 0 then
      (FX8_isSnap x0 p1 p2).bind fun r7 =>
      if r7 = 0 then
        some (0, (MS_setthr x0 3))
      else
        (ald 2 (MS_snaps x0) p1).bind fun r10 =>
        (ast 2 (MS_snaps x0) p1 (r10 - 1)).bind fun g12 =>
        FX8_destroy_L63 p1 p2 (fun xq33 w3_33 =>
          (FX8_sweeps xq33 p1).bind fun s34 =>
          (ald 2 (MS_snaps s34) p1).bind fun r36 =>
          some (r36, s34)) 100000 (MS_setsnaps (MS_setthr x0 0) g12) p2
    else
      some (0, (MS_setthr x0 2))
def rX8_destroy : Room := { frames := 2, cells := 0, slots := 0, locals := 46 }
set_option maxHeartbeats 4000000 in
set_option maxRecDepth 100000 in
theorem c_FX8_destroy_L63 {p : Program} {l : Launch} {e : Env} {s : State} {m : MethodId} {args : Array Value} {below : List Frame} {meth : Method} {c : Code} {D : va_G} {cB cI cJ cZ : ClassId} {x_0 x_1 x_2 x_3 x_4 x_5 x_6 x_7 x_8 x_9 x_10 x_11 x_12 x_13 x_14 x_15 x_16 x_17 x_18 x_19 : Nat} {x0 : MS} {res : Int32 × MS} (C : gC p s m args meth c cX8_destroy 4 RX8 wsX8_destroy D (gT cB cI cJ cZ) (some .int) (va_A (wM cB cI cJ cZ x_0 x_1 x_2 x_3 x_4 x_5 x_6 x_7 x_8 x_9 x_10 x_11 x_12 x_13 x_14 x_15 x_16 x_17 x_18 x_19 x0) s.heap.size)) {v1 : Int32} {v2 : Int32} {k9 : MS → Int32 → Option (Int32 × MS)} (hk9 : ∀ (x : MS) (v3 : Int32), k9 x v3 = some res → gG p l e (headSpec wsX8_destroy rX8_destroy).room s m args below meth c 0 0 D (va_A (wM cB cI cJ cZ x_0 x_1 x_2 x_3 x_4 x_5 x_6 x_7 x_8 x_9 x_10 x_11 x_12 x_13 x_14 x_15 x_16 x_17 x_18 x_19 x0) s.heap.size) (va_A (wM cB cI cJ cZ x_0 x_1 x_2 x_3 x_4 x_5 x_6 x_7 x_8 x_9 x_10 x_11 x_12 x_13 x_14 x_15 x_16 x_17 x_18 x_19 x0) s.heap.size) 4 (MQ below (gQi D (wM cB cI cJ cZ x_0 x_1 x_2 x_3 x_4 x_5 x_6 x_7 x_8 x_9 x_10 x_11 x_12 x_13 x_14 x_15 x_16 x_17 x_18 x_19 x0) s.heap.size res.1 (wM cB cI cJ cZ x_0 x_1 x_2 x_3 x_4 x_5 x_6 x_7 x_8 x_9 x_10 x_11 x_12 x_13 x_14 x_15 x_16 x_17 x_18 x_19 res.2)) args s 0 0 (va_A (wM cB cI cJ cZ x_0 x_1 x_2 x_3 x_4 x_5 x_6 x_7 x_8 x_9 x_10 x_11 x_12 x_13 x_14 x_15 x_16 x_17 x_18 x_19 x0) s.heap.size)) (wM cB cI cJ cZ x_0 x_1 x_2 x_3 x_4 x_5 x_6 x_7 x_8 x_9 x_10 x_11 x_12 x_13 x_14 x_15 x_16 x_17 x_18 x_19 x) 183 [(0, .ref x_0), (1, .int v1), (2, .int v2), (3, .int v3)] []) :
    ∀ (n9 : Nat) (x : MS) (v3 : Int32), FX8_destroy_L63 v1 v2 k9 n9 x v3 = some res → gG p l e (headSpec wsX8_destroy rX8_destroy).room s m args below meth c 0 0 D (va_A (wM cB cI cJ cZ x_0 x_1 x_2 x_3 x_4 x_5 x_6 x_7 x_8 x_9 x_10 x_11 x_12 x_13 x_14 x_15 x_16 x_17 x_18 x_19 x0) s.heap.size) (va_A (wM cB cI cJ cZ x_0 x_1 x_2 x_3 x_4 x_5 x_6 x_7 x_8 x_9 x_10 x_11 x_12 x_13 x_14 x_15 x_16 x_17 x_18 x_19 x0) s.heap.size) 4 (MQ below (gQi D (wM cB cI cJ cZ x_0 x_1 x_2 x_3 x_4 x_5 x_6 x_7 x_8 x_9 x_10 x_11 x_12 x_13 x_14 x_15 x_16 x_17 x_18 x_19 x0) s.heap.size res.1 (wM cB cI cJ cZ x_0 x_1 x_2 x_3 x_4 x_5 x_6 x_7 x_8 x_9 x_10 x_11 x_12 x_13 x_14 x_15 x_16 x_17 x_18 x_19 res.2)) args s 0 0 (va_A (wM cB cI cJ cZ x_0 x_1 x_2 x_3 x_4 x_5 x_6 x_7 x_8 x_9 x_10 x_11 x_12 x_13 x_14 x_15 x_16 x_17 x_18 x_19 x0) s.heap.size)) (wM cB cI cJ cZ x_0 x_1 x_2 x_3 x_4 x_5 x_6 x_7 x_8 x_9 x_10 x_11 x_12 x_13 x_14 x_15 x_16 x_17 x_18 x_19 x) 63 [(0, .ref x_0), (1, .int v1), (2, .int v2), (3, .int v3)] [] := by
  intro n9
  induction n9 with
  | zero =>
    intro x v3 hF
    exact absurd hF (by simp [FX8_destroy_L63])
  | succ n9 ih9 =>
    intro x v3 hF
    rw [FX8_destroy_L63] at hF
    refine g_iload_n (z := 3) C (tdec DX8_destroy 37 rfl) rfl rfl rfl ?_
    refine g_aload_n (z := 0) C (tdec DX8_destroy 38 rfl) rfl rfl rfl ?_
    refine g_getf (C' := RX8) (T := TX8) (N := 27) (v := .ref x_10) C 0 10 (gIn iw_X8) rfl rfl (by decide) (gMem fl_X8_39) rfl rfl (tdec DX8_destroy 39 rfl) rfl ?_
    refine g_iload_n (z := 1) C (tdec DX8_destroy 40 rfl) rfl rfl rfl ?_
    obtain ⟨r14, y15, hF⟩ := o_bind hF
    refine g_iald C 10 1 rfl rfl y15 (tdec DX8_destroy 41 rfl) rfl ?_
    refine g_icmp_ge (pt := 183) C (tdec DX8_destroy 42 rfl) (by decide) rfl (fun h16 => ?_) (fun h16 => ?_)
    · have hF := o_ifp hF h16
      refine g_sub (L' := [(0, .ref x_0), (1, .int v1), (2, .int v2), (3, .int v3)]) [0, 1, 2, 3] rfl ?_
      exact hk9 _ _ hF
    · have hF := o_ifn hF h16
      refine g_aload_n (z := 0) C (tdec DX8_destroy 43 rfl) rfl rfl rfl ?_
      refine g_getf (C' := RX8) (T := TX8) (N := 27) (v := .ref x_7) C 0 7 (gIn iw_X8) rfl rfl (by decide) (gMem fl_X8_30) rfl rfl (tdec DX8_destroy 44 rfl) rfl ?_
      refine g_bipush (v := 22) C (tdec DX8_destroy 45 rfl) (by decide) rfl ?_
      refine g_iload_n (z := 1) C (tdec DX8_destroy 46 rfl) rfl rfl rfl ?_
      refine g_imul C (tdec DX8_destroy 47 rfl) rfl ?_
      refine g_iconst (v := 2) C (tdec DX8_destroy 48 rfl) (by decide) rfl ?_
      refine g_iadd C (tdec DX8_destroy 49 rfl) rfl ?_
      refine g_iload_n (z := 3) C (tdec DX8_destroy 50 rfl) rfl rfl rfl ?_
      refine g_iadd C (tdec DX8_destroy 51 rfl) rfl ?_
      refine g_aload_n (z := 0) C (tdec DX8_destroy 52 rfl) rfl rfl rfl ?_
      refine g_getf (C' := RX8) (T := TX8) (N := 27) (v := .ref x_7) C 0 7 (gIn iw_X8) rfl rfl (by decide) (gMem fl_X8_30) rfl rfl (tdec DX8_destroy 53 rfl) rfl ?_
      refine g_bipush (v := 22) C (tdec DX8_destroy 54 rfl) (by decide) rfl ?_
      refine g_iload_n (z := 1) C (tdec DX8_destroy 55 rfl) rfl rfl rfl ?_
      refine g_imul C (tdec DX8_destroy 56 rfl) rfl ?_
      refine g_iconst (v := 2) C (tdec DX8_destroy 57 rfl) (by decide) rfl ?_
      refine g_iadd C (tdec DX8_destroy 58 rfl) rfl ?_
      refine g_iload_n (z := 3) C (tdec DX8_destroy 59 rfl) rfl rfl rfl ?_
      refine g_iadd C (tdec DX8_destroy 60 rfl) rfl ?_
      refine g_iconst (v := 1) C (tdec DX8_destroy 61 rfl) (by decide) rfl ?_
      refine g_iadd C (tdec DX8_destroy 62 rfl) rfl ?_
      obtain ⟨r17, y18, hF⟩ := o_bind hF
      refine g_iald C 7 1 rfl rfl y18 (tdec DX8_destroy 63 rfl) rfl ?_
      obtain ⟨g19, y20, hF⟩ := o_bind hF
      refine g_iast (ws' := wM cB cI cJ cZ x_0 x_1 x_2 x_3 x_4 x_5 x_6 x_7 x_8 x_9 x_10 x_11 x_12 x_13 x_14 x_15 x_16 x_17 x_18 x_19 (MS_settt x g19)) C 7 1 rfl rfl y20 rfl (tdec DX8_destroy 64 rfl) rfl ?_
      refine g_aload_n (z := 0) C (tdec DX8_destroy 65 rfl) rfl rfl rfl ?_
      refine g_getf (C' := RX8) (T := TX8) (N := 27) (v := .ref x_8) C 0 8 (gIn iw_X8) rfl rfl (by decide) (gMem fl_X8_33) rfl rfl (tdec DX8_destroy 66 rfl) rfl ?_
      refine g_bipush (v := 22) C (tdec DX8_destroy 67 rfl) (by decide) rfl ?_
      refine g_iload_n (z := 1) C (tdec DX8_destroy 68 rfl) rfl rfl rfl ?_
      refine g_imul C (tdec DX8_destroy 69 rfl) rfl ?_
      refine g_iconst (v := 2) C (tdec DX8_destroy 70 rfl) (by decide) rfl ?_
      refine g_iadd C (tdec DX8_destroy 71 rfl) rfl ?_
      refine g_iload_n (z := 3) C (tdec DX8_destroy 72 rfl) rfl rfl rfl ?_
      refine g_iadd C (tdec DX8_destroy 73 rfl) rfl ?_
      refine g_aload_n (z := 0) C (tdec DX8_destroy 74 rfl) rfl rfl rfl ?_
      refine g_getf (C' := RX8) (T := TX8) (N := 27) (v := .ref x_8) C 0 8 (gIn iw_X8) rfl rfl (by decide) (gMem fl_X8_33) rfl rfl (tdec DX8_destroy 75 rfl) rfl ?_
      refine g_bipush (v := 22) C (tdec DX8_destroy 76 rfl) (by decide) rfl ?_
      refine g_iload_n (z := 1) C (tdec DX8_destroy 77 rfl) rfl rfl rfl ?_
      refine g_imul C (tdec DX8_destroy 78 rfl) rfl ?_
      refine g_iconst (v := 2) C (tdec DX8_destroy 79 rfl) (by decide) rfl ?_
      refine g_iadd C (tdec DX8_destroy 80 rfl) rfl ?_
      refine g_iload_n (z := 3) C (tdec DX8_destroy 81 rfl) rfl rfl rfl ?_
      refine g_iadd C (tdec DX8_destroy 82 rfl) rfl ?_
      refine g_iconst (v := 1) C (tdec DX8_destroy 83 rfl) (by decide) rfl ?_
      refine g_iadd C (tdec DX8_destroy 84 rfl) rfl ?_
      obtain ⟨r21, y22, hF⟩ := o_bind hF
      refine g_iald C 8 1 rfl rfl y22 (tdec DX8_destroy 85 rfl) rfl ?_
      obtain ⟨g23, y24, hF⟩ := o_bind hF
      refine g_iast (ws' := wM cB cI cJ cZ x_0 x_1 x_2 x_3 x_4 x_5 x_6 x_7 x_8 x_9 x_10 x_11 x_12 x_13 x_14 x_15 x_16 x_17 x_18 x_19 (MS_settb (MS_settt x g19) g23)) C 8 1 rfl rfl y24 rfl (tdec DX8_destroy 86 rfl) rfl ?_
      refine g_aload_n (z := 0) C (tdec DX8_destroy 87 rfl) rfl rfl rfl ?_
      refine g_getf (C' := RX8) (T := TX8) (N := 27) (v := .ref x_11) C 0 11 (gIn iw_X8) rfl rfl (by decide) (gMem fl_X8_42) rfl rfl (tdec DX8_destroy 88 rfl) rfl ?_
      refine g_bipush (v := 20) C (tdec DX8_destroy 89 rfl) (by decide) rfl ?_
      refine g_iload_n (z := 1) C (tdec DX8_destroy 90 rfl) rfl rfl rfl ?_
      refine g_imul C (tdec DX8_destroy 91 rfl) rfl ?_
      refine g_iload_n (z := 3) C (tdec DX8_destroy 92 rfl) rfl rfl rfl ?_
      refine g_iadd C (tdec DX8_destroy 93 rfl) rfl ?_
      refine g_aload_n (z := 0) C (tdec DX8_destroy 94 rfl) rfl rfl rfl ?_
      refine g_getf (C' := RX8) (T := TX8) (N := 27) (v := .ref x_11) C 0 11 (gIn iw_X8) rfl rfl (by decide) (gMem fl_X8_42) rfl rfl (tdec DX8_destroy 95 rfl) rfl ?_
      refine g_bipush (v := 20) C (tdec DX8_destroy 96 rfl) (by decide) rfl ?_
      refine g_iload_n (z := 1) C (tdec DX8_destroy 97 rfl) rfl rfl rfl ?_
      refine g_imul C (tdec DX8_destroy 98 rfl) rfl ?_
      refine g_iload_n (z := 3) C (tdec DX8_destroy 99 rfl) rfl rfl rfl ?_
      refine g_iadd C (tdec DX8_destroy 100 rfl) rfl ?_
      refine g_iconst (v := 1) C (tdec DX8_destroy 101 rfl) (by decide) rfl ?_
      refine g_iadd C (tdec DX8_destroy 102 rfl) rfl ?_
      obtain ⟨r25, y26, hF⟩ := o_bind hF
      refine g_iald C 11 1 rfl rfl y26 (tdec DX8_destroy 103 rfl) rfl ?_
      obtain ⟨g27, y28, hF⟩ := o_bind hF
      refine g_iast (ws' := wM cB cI cJ cZ x_0 x_1 x_2 x_3 x_4 x_5 x_6 x_7 x_8 x_9 x_10 x_11 x_12 x_13 x_14 x_15 x_16 x_17 x_18 x_19 (MS_setsg (MS_settb (MS_settt x g19) g23) g27)) C 11 1 rfl rfl y28 rfl (tdec DX8_destroy 104 rfl) rfl ?_
      refine g_aload_n (z := 0) C (tdec DX8_destroy 105 rfl) rfl rfl rfl ?_
      refine g_getf (C' := RX8) (T := TX8) (N := 27) (v := .ref x_12) C 0 12 (gIn iw_X8) rfl rfl (by decide) (gMem fl_X8_45) rfl rfl (tdec DX8_destroy 106 rfl) rfl ?_
      refine g_bipush (v := 20) C (tdec DX8_destroy 107 rfl) (by decide) rfl ?_
      refine g_iload_n (z := 1) C (tdec DX8_destroy 108 rfl) rfl rfl rfl ?_
      refine g_imul C (tdec DX8_destroy 109 rfl) rfl ?_
      refine g_iload_n (z := 3) C (tdec DX8_destroy 110 rfl) rfl rfl rfl ?_
      refine g_iadd C (tdec DX8_destroy 111 rfl) rfl ?_
      refine g_aload_n (z := 0) C (tdec DX8_destroy 112 rfl) rfl rfl rfl ?_
      refine g_getf (C' := RX8) (T := TX8) (N := 27) (v := .ref x_12) C 0 12 (gIn iw_X8) rfl rfl (by decide) (gMem fl_X8_45) rfl rfl (tdec DX8_destroy 113 rfl) rfl ?_
      refine g_bipush (v := 20) C (tdec DX8_destroy 114 rfl) (by decide) rfl ?_
      refine g_iload_n (z := 1) C (tdec DX8_destroy 115 rfl) rfl rfl rfl ?_
      refine g_imul C (tdec DX8_destroy 116 rfl) rfl ?_
      refine g_iload_n (z := 3) C (tdec DX8_destroy 117 rfl) rfl rfl rfl ?_
      refine g_iadd C (tdec DX8_destroy 118 rfl) rfl ?_
      refine g_iconst (v := 1) C (tdec DX8_destroy 119 rfl) (by decide) rfl ?_
      refine g_iadd C (tdec DX8_destroy 120 rfl) rfl ?_
      obtain ⟨r29, y30, hF⟩ := o_bind hF
      refine g_lald C 12 2 rfl rfl y30 (tdec DX8_destroy 121 rfl) rfl ?_
      obtain ⟨g31, y32, hF⟩ := o_bind hF
      refine g_last (ws' := wM cB cI cJ cZ x_0 x_1 x_2 x_3 x_4 x_5 x_6 x_7 x_8 x_9 x_10 x_11 x_12 x_13 x_14 x_15 x_16 x_17 x_18 x_19 (MS_setsm (MS_setsg (MS_settb (MS_settt x g19) g23) g27) g31)) C 12 2 rfl rfl y32 rfl (tdec DX8_destroy 122 rfl) rfl ?_
      refine g_iinc (z := 3) (v := (v3 + 1)) (L' := [(3, .int (v3 + 1)), (0, .ref x_0), (1, .int v1), (2, .int v2)]) C (tdec DX8_destroy 123 rfl) rfl rfl (by decide) rfl rfl ?_
      refine g_goto (pt := 63) C (tdec DX8_destroy 124 rfl) (by decide) ?_
      refine g_sub (L' := [(0, .ref x_0), (1, .int v1), (2, .int v2), (3, .int (v3 + 1))]) [1, 2, 3, 0] rfl ?_
      exact ih9 _ _ hF
set_option maxHeartbeats 4000000 in
set_option maxRecDepth 100000 in
theorem c_X8_destroy (l : Launch) (D : va_G) (cB cI cJ cZ : ClassId) (x_0 x_1 x_2 x_3 x_4 x_5 x_6 x_7 x_8 x_9 x_10 x_11 x_12 x_13 x_14 x_15 x_16 x_17 x_18 x_19 : Nat) {x0 : MS} {p1 : Int32} {p2 : Int32} {res : Int32 × MS} (hF : FX8_destroy x0 p1 p2 = some res) : gMi l yX8_destroy wsX8_destroy rX8_destroy D (gT cB cI cJ cZ) [.ref x_0, .int p1, .int p2] (wM cB cI cJ cZ x_0 x_1 x_2 x_3 x_4 x_5 x_6 x_7 x_8 x_9 x_10 x_11 x_12 x_13 x_14 x_15 x_16 x_17 x_18 x_19 x0) res.1 (wM cB cI cJ cZ x_0 x_1 x_2 x_3 x_4 x_5 x_6 x_7 x_8 x_9 x_10 x_11 x_12 x_13 x_14 x_15 x_16 x_17 x_18 x_19 res.2) := by
  refine g_enter (own := RX8) (free := (fun sz => va_A (wM cB cI cJ cZ x_0 x_1 x_2 x_3 x_4 x_5 x_6 x_7 x_8 x_9 x_10 x_11 x_12 x_13 x_14 x_15 x_16 x_17 x_18 x_19 x0) sz)) (Qc := (fun sz => gQi D (wM cB cI cJ cZ x_0 x_1 x_2 x_3 x_4 x_5 x_6 x_7 x_8 x_9 x_10 x_11 x_12 x_13 x_14 x_15 x_16 x_17 x_18 x_19 x0) sz res.1 (wM cB cI cJ cZ x_0 x_1 x_2 x_3 x_4 x_5 x_6 x_7 x_8 x_9 x_10 x_11 x_12 x_13 x_14 x_15 x_16 x_17 x_18 x_19 res.2))) (fun sz => va_A (wM cB cI cJ cZ x_0 x_1 x_2 x_3 x_4 x_5 x_6 x_7 x_8 x_9 x_10 x_11 x_12 x_13 x_14 x_15 x_16 x_17 x_18 x_19 x0) sz) (fun sz => Or.inr rfl) rfl (by decide) rfl (Nat.le_of_ble_eq_true rfl) rfl ?_
  intro p e s m args below meth c C
  unfold FX8_destroy at hF
  refine g_aload_n (z := 0) C (tdec DX8_destroy 0 rfl) rfl rfl rfl ?_
  refine g_iload_n (z := 1) C (tdec DX8_destroy 1 rfl) rfl rfl rfl ?_
  obtain ⟨r1, y2, hF⟩ := o_bind hF
  refine g_callSiR C (c_X8_isVolume l D cB cI cJ cZ y2) (gIS ml_X8_82 st_X8_isVolume in_X8 cd_X8_isVolume) eX8_isVolume rfl ⟨rfl, rfl⟩ ⟨Nat.le_of_ble_eq_true rfl, Nat.le_of_ble_eq_true rfl⟩ rfl [] rfl rfl rfl (Nat.le_of_ble_eq_true rfl) (tdec DX8_destroy 2 rfl) rfl ?_
  refine g_if_ne (pt := 12) C (tdec DX8_destroy 3 rfl) (by decide) rfl (fun h3 => ?_) (fun h3 => ?_)
  · have hF := o_ifn hF h3
    refine g_aload_n (z := 0) C (tdec DX8_destroy 6 rfl) rfl rfl rfl ?_
    refine g_getf (C' := RX8) (T := TX8) (N := 27) (v := .ref x_13) C 0 13 (gIn iw_X8) rfl rfl (by decide) (gMem fl_X8_48) rfl rfl (tdec DX8_destroy 7 rfl) rfl ?_
    refine g_iload_n (z := 1) C (tdec DX8_destroy 8 rfl) rfl rfl rfl ?_
    obtain ⟨r4, y5, hF⟩ := o_bind hF
    refine g_zald C 13 3 rfl rfl y5 (tdec DX8_destroy 9 rfl) rfl ?_
    refine g_if_eq (pt := 25) C (tdec DX8_destroy 10 rfl) (by decide) rfl (fun h6 => ?_) (fun h6 => ?_)
    · have hF := o_ifp hF h6
      refine g_aload_n (z := 0) C (tdec DX8_destroy 13 rfl) rfl rfl rfl ?_
      refine g_iload_n (z := 1) C (tdec DX8_destroy 14 rfl) rfl rfl rfl ?_
      refine g_iload_n (z := 2) C (tdec DX8_destroy 15 rfl) rfl rfl rfl ?_
      obtain ⟨r7, y8, hF⟩ := o_bind hF
      refine g_callViRS (q0 := 0) (S := [wM cB cI cJ cZ x_0 x_1 x_2 x_3 x_4 x_5 x_6 x_7 x_8 x_9 x_10 x_11 x_12 x_13 x_14 x_15 x_16 x_17 x_18 x_19 x0]) (S0 := [wM cB cI cJ cZ x_0 x_1 x_2 x_3 x_4 x_5 x_6 x_7 x_8 x_9 x_10 x_11 x_12 x_13 x_14 x_15 x_16 x_17 x_18 x_19 x0]) C (c_X8_isSnap l D cB cI cJ cZ x_0 x_1 x_2 x_3 x_4 x_5 x_6 x_7 x_8 x_9 x_10 x_11 x_12 x_13 x_14 x_15 x_16 x_17 x_18 x_19 y8) rfl rfl (gIV ml_X8_141 im_X8_isSnap sl_X8_isSnap in_X8 cd_X8_isSnap) rfl eX8_isSnap rfl ⟨rfl, rfl⟩ ⟨Nat.le_of_ble_eq_true rfl, Nat.le_of_ble_eq_true rfl⟩ rfl rfl rfl [0] rfl rfl rfl (Nat.le_of_ble_eq_true rfl) (tdec DX8_destroy 16 rfl) rfl ?_
      refine g_if_ne (pt := 38) C (tdec DX8_destroy 17 rfl) (by decide) rfl (fun h9 => ?_) (fun h9 => ?_)
      · have hF := o_ifn hF h9
        refine g_iconst (v := 0) C (tdec DX8_destroy 20 rfl) (by decide) rfl ?_
        refine g_putf (C' := RX8) (T := TX8) (N := 27) (v := .int 0) (ws' := wM cB cI cJ cZ x_0 x_1 x_2 x_3 x_4 x_5 x_6 x_7 x_8 x_9 x_10 x_11 x_12 x_13 x_14 x_15 x_16 x_17 x_18 x_19 (MS_setthr x0 0)) C 0 0 tyX8 tyX8_ok nmX8 (gIn iw_X8) rfl rfl (by decide) (gMem fl_X8_78) rfl rfl (tyX8_ok 0 (by decide)) rfl rfl (Nat.le_of_ble_eq_true rfl) rfl (tdec DX8_destroy 21 rfl) rfl ?_
        refine g_aload_n (z := 0) C (tdec DX8_destroy 22 rfl) rfl rfl rfl ?_
        refine g_getf (C' := RX8) (T := TX8) (N := 27) (v := .int 0) C 0 0 (gIn iw_X8) rfl rfl (by decide) (gMem fl_X8_78) rfl rfl (tdec DX8_destroy 23 rfl) rfl ?_
        refine g_if_le (pt := 51) C (tdec DX8_destroy 24 rfl) (by decide) rfl (fun _ => ?_) (fun h => absurd h (by decide))
        refine g_aload_n (z := 0) C (tdec DX8_destroy 27 rfl) rfl rfl rfl ?_
        refine g_getf (C' := RX8) (T := TX8) (N := 27) (v := .ref x_10) C 0 10 (gIn iw_X8) rfl rfl (by decide) (gMem fl_X8_39) rfl rfl (tdec DX8_destroy 28 rfl) rfl ?_
        refine g_iload_n (z := 1) C (tdec DX8_destroy 29 rfl) rfl rfl rfl ?_
        refine g_dup2 C (tdec DX8_destroy 30 rfl) rfl rfl rfl ?_
        obtain ⟨r10, y11, hF⟩ := o_bind hF
        refine g_iald C 10 1 rfl rfl y11 (tdec DX8_destroy 31 rfl) rfl ?_
        refine g_iconst (v := 1) C (tdec DX8_destroy 32 rfl) (by decide) rfl ?_
        refine g_isub C (tdec DX8_destroy 33 rfl) rfl ?_
        obtain ⟨g12, y13, hF⟩ := o_bind hF
        refine g_iast (ws' := wM cB cI cJ cZ x_0 x_1 x_2 x_3 x_4 x_5 x_6 x_7 x_8 x_9 x_10 x_11 x_12 x_13 x_14 x_15 x_16 x_17 x_18 x_19 (MS_setsnaps (MS_setthr x0 0) g12)) C 10 1 rfl rfl y13 rfl (tdec DX8_destroy 34 rfl) rfl ?_
        refine g_iload_n (z := 2) C (tdec DX8_destroy 35 rfl) rfl rfl rfl ?_
        refine g_istore_n (L' := [(3, .int p2), (0, .ref x_0), (1, .int p1), (2, .int p2)]) C (tdec DX8_destroy 36 rfl) rfl (by decide) rfl rfl ?_
        refine g_sub (L' := [(0, .ref x_0), (1, .int p1), (2, .int p2), (3, .int p2)]) [1, 2, 3, 0] rfl ?_
        refine c_FX8_destroy_L63 C (fun xq33 w3_33 hF => ?_) 100000 _ _ hF
        refine g_aload_n (z := 0) C (tdec DX8_destroy 125 rfl) rfl rfl rfl ?_
        refine g_iload_n (z := 1) C (tdec DX8_destroy 126 rfl) rfl rfl rfl ?_
        obtain ⟨s34, y35, hF⟩ := o_bind hF
        refine g_callVvMS (q0 := 0) (W' := wM cB cI cJ cZ x_0 x_1 x_2 x_3 x_4 x_5 x_6 x_7 x_8 x_9 x_10 x_11 x_12 x_13 x_14 x_15 x_16 x_17 x_18 x_19 s34) (S := [wM cB cI cJ cZ x_0 x_1 x_2 x_3 x_4 x_5 x_6 x_7 x_8 x_9 x_10 x_11 x_12 x_13 x_14 x_15 x_16 x_17 x_18 x_19 xq33]) (S0 := [wM cB cI cJ cZ x_0 x_1 x_2 x_3 x_4 x_5 x_6 x_7 x_8 x_9 x_10 x_11 x_12 x_13 x_14 x_15 x_16 x_17 x_18 x_19 xq33]) (S1 := [wM cB cI cJ cZ x_0 x_1 x_2 x_3 x_4 x_5 x_6 x_7 x_8 x_9 x_10 x_11 x_12 x_13 x_14 x_15 x_16 x_17 x_18 x_19 s34]) (S' := [wM cB cI cJ cZ x_0 x_1 x_2 x_3 x_4 x_5 x_6 x_7 x_8 x_9 x_10 x_11 x_12 x_13 x_14 x_15 x_16 x_17 x_18 x_19 s34]) C (c_X8_sweeps l D cB cI cJ cZ x_0 x_1 x_2 x_3 x_4 x_5 x_6 x_7 x_8 x_9 x_10 x_11 x_12 x_13 x_14 x_15 x_16 x_17 x_18 x_19 y35) rfl rfl (gIV ml_X8_135 im_X8_sweeps sl_X8_sweeps in_X8 cd_X8_sweeps) rfl eX8_sweeps rfl ⟨rfl, rfl⟩ ⟨Nat.le_of_ble_eq_true rfl, Nat.le_of_ble_eq_true rfl⟩ rfl rfl rfl [0] rfl rfl rfl rfl (gA_cons aM gA_nil) rfl rfl (Nat.le_of_ble_eq_true rfl) (tdec DX8_destroy 127 rfl) rfl ?_
        refine g_aload_n (z := 0) C (tdec DX8_destroy 128 rfl) rfl rfl rfl ?_
        refine g_getf (C' := RX8) (T := TX8) (N := 27) (v := .ref x_10) C 0 10 (gIn iw_X8) rfl rfl (by decide) (gMem fl_X8_39) rfl rfl (tdec DX8_destroy 129 rfl) rfl ?_
        refine g_iload_n (z := 1) C (tdec DX8_destroy 130 rfl) rfl rfl rfl ?_
        obtain ⟨r36, y37, hF⟩ := o_bind hF
        refine g_iald C 10 1 rfl rfl y37 (tdec DX8_destroy 131 rfl) rfl ?_
        have hr9 := o_some hF
        subst hr9
        exact g_iret C rfl rfl (tdec DX8_destroy 132 rfl)
      · have hF := o_ifp hF h9
        refine g_iconst (v := 3) C (tdec DX8_destroy 18 rfl) (by decide) rfl ?_
        refine g_goto (pt := 39) C (tdec DX8_destroy 19 rfl) (by decide) ?_
        refine g_putf (C' := RX8) (T := TX8) (N := 27) (v := .int 3) (ws' := wM cB cI cJ cZ x_0 x_1 x_2 x_3 x_4 x_5 x_6 x_7 x_8 x_9 x_10 x_11 x_12 x_13 x_14 x_15 x_16 x_17 x_18 x_19 (MS_setthr x0 3)) C 0 0 tyX8 tyX8_ok nmX8 (gIn iw_X8) rfl rfl (by decide) (gMem fl_X8_78) rfl rfl (tyX8_ok 0 (by decide)) rfl rfl (Nat.le_of_ble_eq_true rfl) rfl (tdec DX8_destroy 21 rfl) rfl ?_
        refine g_aload_n (z := 0) C (tdec DX8_destroy 22 rfl) rfl rfl rfl ?_
        refine g_getf (C' := RX8) (T := TX8) (N := 27) (v := .int 3) C 0 0 (gIn iw_X8) rfl rfl (by decide) (gMem fl_X8_78) rfl rfl (tdec DX8_destroy 23 rfl) rfl ?_
        refine g_if_le (pt := 51) C (tdec DX8_destroy 24 rfl) (by decide) rfl (fun h => absurd h (by decide)) (fun _ => ?_)
        refine g_iconst (v := 0) C (tdec DX8_destroy 25 rfl) (by decide) rfl ?_
        have hr9 := o_some hF
        subst hr9
        exact g_iret C rfl rfl (tdec DX8_destroy 26 rfl)
    · have hF := o_ifn hF h6
      refine g_iconst (v := 2) C (tdec DX8_destroy 11 rfl) (by decide) rfl ?_
      refine g_goto (pt := 39) C (tdec DX8_destroy 12 rfl) (by decide) ?_
      refine g_putf (C' := RX8) (T := TX8) (N := 27) (v := .int 2) (ws' := wM cB cI cJ cZ x_0 x_1 x_2 x_3 x_4 x_5 x_6 x_7 x_8 x_9 x_10 x_11 x_12 x_13 x_14 x_15 x_16 x_17 x_18 x_19 (MS_setthr x0 2)) C 0 0 tyX8 tyX8_ok nmX8 (gIn iw_X8) rfl rfl (by decide) (gMem fl_X8_78) rfl rfl (tyX8_ok 0 (by decide)) rfl rfl (Nat.le_of_ble_eq_true rfl) rfl (tdec DX8_destroy 21 rfl) rfl ?_
      refine g_aload_n (z := 0) C (tdec DX8_destroy 22 rfl) rfl rfl rfl ?_
      refine g_getf (C' := RX8) (T := TX8) (N := 27) (v := .int 2) C 0 0 (gIn iw_X8) rfl rfl (by decide) (gMem fl_X8_78) rfl rfl (tdec DX8_destroy 23 rfl) rfl ?_
      refine g_if_le (pt := 51) C (tdec DX8_destroy 24 rfl) (by decide) rfl (fun h => absurd h (by decide)) (fun _ => ?_)
      refine g_iconst (v := 0) C (tdec DX8_destroy 25 rfl) (by decide) rfl ?_
      have hr9 := o_some hF
      subst hr9
      exact g_iret C rfl rfl (tdec DX8_destroy 26 rfl)
  · have hF := o_ifp hF h3
    refine g_iconst (v := 1) C (tdec DX8_destroy 4 rfl) (by decide) rfl ?_
    refine g_goto (pt := 39) C (tdec DX8_destroy 5 rfl) (by decide) ?_
    refine g_putf (C' := RX8) (T := TX8) (N := 27) (v := .int 1) (ws' := wM cB cI cJ cZ x_0 x_1 x_2 x_3 x_4 x_5 x_6 x_7 x_8 x_9 x_10 x_11 x_12 x_13 x_14 x_15 x_16 x_17 x_18 x_19 (MS_setthr x0 1)) C 0 0 tyX8 tyX8_ok nmX8 (gIn iw_X8) rfl rfl (by decide) (gMem fl_X8_78) rfl rfl (tyX8_ok 0 (by decide)) rfl rfl (Nat.le_of_ble_eq_true rfl) rfl (tdec DX8_destroy 21 rfl) rfl ?_
    refine g_aload_n (z := 0) C (tdec DX8_destroy 22 rfl) rfl rfl rfl ?_
    refine g_getf (C' := RX8) (T := TX8) (N := 27) (v := .int 1) C 0 0 (gIn iw_X8) rfl rfl (by decide) (gMem fl_X8_78) rfl rfl (tdec DX8_destroy 23 rfl) rfl ?_
    refine g_if_le (pt := 51) C (tdec DX8_destroy 24 rfl) (by decide) rfl (fun h => absurd h (by decide)) (fun _ => ?_)
    refine g_iconst (v := 0) C (tdec DX8_destroy 25 rfl) (by decide) rfl ?_
    have hr9 := o_some hF
    subst hr9
    exact g_iret C rfl rfl (tdec DX8_destroy 26 rfl)
def FX8_rollback (x0 : MS) (p1 : Int32) : Option (Int32 × MS) :=
  (FX8_isVolume p1).bind fun r1 =>
  if r1 = 0 then
    some (0, (MS_setthr x0 1))
  else
    (ald 2 (MS_busy x0) p1).bind fun r4 =>
    if r4 = 0 then
      (ald 2 (MS_snaps x0) p1).bind fun r7 =>
      if r7 = 0 then
        some (0, (MS_setthr x0 3))
      else
        (ald 2 (MS_snaps x0) p1).bind fun r10 =>
        (ald 44 (MS_tt x0) (((22 * p1) + 2) + (r10 - 1))).bind fun r12 =>
        (ast 44 (MS_tt x0) ((22 * p1) + 0) r12).bind fun g14 =>
        (ald 44 (MS_tb x0) (((22 * p1) + 2) + (r10 - 1))).bind fun r16 =>
        (ast 44 (MS_tb x0) ((22 * p1) + 0) r16).bind fun g18 =>
        (FX8_sweeps (MS_settb (MS_settt (MS_setthr x0 0) g14) g18) p1).bind fun s20 =>
        some ((r10 - 1), s20)
    else
      some (0, (MS_setthr x0 2))
def rX8_rollback : Room := { frames := 2, cells := 0, slots := 0, locals := 46 }
set_option maxHeartbeats 4000000 in
set_option maxRecDepth 100000 in
theorem c_X8_rollback (l : Launch) (D : va_G) (cB cI cJ cZ : ClassId) (x_0 x_1 x_2 x_3 x_4 x_5 x_6 x_7 x_8 x_9 x_10 x_11 x_12 x_13 x_14 x_15 x_16 x_17 x_18 x_19 : Nat) {x0 : MS} {p1 : Int32} {res : Int32 × MS} (hF : FX8_rollback x0 p1 = some res) : gMi l yX8_rollback wsX8_rollback rX8_rollback D (gT cB cI cJ cZ) [.ref x_0, .int p1] (wM cB cI cJ cZ x_0 x_1 x_2 x_3 x_4 x_5 x_6 x_7 x_8 x_9 x_10 x_11 x_12 x_13 x_14 x_15 x_16 x_17 x_18 x_19 x0) res.1 (wM cB cI cJ cZ x_0 x_1 x_2 x_3 x_4 x_5 x_6 x_7 x_8 x_9 x_10 x_11 x_12 x_13 x_14 x_15 x_16 x_17 x_18 x_19 res.2) := by
  refine g_enter (own := RX8) (free := (fun sz => va_A (wM cB cI cJ cZ x_0 x_1 x_2 x_3 x_4 x_5 x_6 x_7 x_8 x_9 x_10 x_11 x_12 x_13 x_14 x_15 x_16 x_17 x_18 x_19 x0) sz)) (Qc := (fun sz => gQi D (wM cB cI cJ cZ x_0 x_1 x_2 x_3 x_4 x_5 x_6 x_7 x_8 x_9 x_10 x_11 x_12 x_13 x_14 x_15 x_16 x_17 x_18 x_19 x0) sz res.1 (wM cB cI cJ cZ x_0 x_1 x_2 x_3 x_4 x_5 x_6 x_7 x_8 x_9 x_10 x_11 x_12 x_13 x_14 x_15 x_16 x_17 x_18 x_19 res.2))) (fun sz => va_A (wM cB cI cJ cZ x_0 x_1 x_2 x_3 x_4 x_5 x_6 x_7 x_8 x_9 x_10 x_11 x_12 x_13 x_14 x_15 x_16 x_17 x_18 x_19 x0) sz) (fun sz => Or.inr rfl) rfl (by decide) rfl (Nat.le_of_ble_eq_true rfl) rfl ?_
  intro p e s m args below meth c C
  unfold FX8_rollback at hF
  refine g_aload_n (z := 0) C (tdec DX8_rollback 0 rfl) rfl rfl rfl ?_
  refine g_iload_n (z := 1) C (tdec DX8_rollback 1 rfl) rfl rfl rfl ?_
  obtain ⟨r1, y2, hF⟩ := o_bind hF
  refine g_callSiR C (c_X8_isVolume l D cB cI cJ cZ y2) (gIS ml_X8_82 st_X8_isVolume in_X8 cd_X8_isVolume) eX8_isVolume rfl ⟨rfl, rfl⟩ ⟨Nat.le_of_ble_eq_true rfl, Nat.le_of_ble_eq_true rfl⟩ rfl [] rfl rfl rfl (Nat.le_of_ble_eq_true rfl) (tdec DX8_rollback 2 rfl) rfl ?_
  refine g_if_ne (pt := 12) C (tdec DX8_rollback 3 rfl) (by decide) rfl (fun h3 => ?_) (fun h3 => ?_)
  · have hF := o_ifn hF h3
    refine g_aload_n (z := 0) C (tdec DX8_rollback 6 rfl) rfl rfl rfl ?_
    refine g_getf (C' := RX8) (T := TX8) (N := 27) (v := .ref x_13) C 0 13 (gIn iw_X8) rfl rfl (by decide) (gMem fl_X8_48) rfl rfl (tdec DX8_rollback 7 rfl) rfl ?_
    refine g_iload_n (z := 1) C (tdec DX8_rollback 8 rfl) rfl rfl rfl ?_
    obtain ⟨r4, y5, hF⟩ := o_bind hF
    refine g_zald C 13 3 rfl rfl y5 (tdec DX8_rollback 9 rfl) rfl ?_
    refine g_if_eq (pt := 25) C (tdec DX8_rollback 10 rfl) (by decide) rfl (fun h6 => ?_) (fun h6 => ?_)
    · have hF := o_ifp hF h6
      refine g_aload_n (z := 0) C (tdec DX8_rollback 13 rfl) rfl rfl rfl ?_
      refine g_getf (C' := RX8) (T := TX8) (N := 27) (v := .ref x_10) C 0 10 (gIn iw_X8) rfl rfl (by decide) (gMem fl_X8_39) rfl rfl (tdec DX8_rollback 14 rfl) rfl ?_
      refine g_iload_n (z := 1) C (tdec DX8_rollback 15 rfl) rfl rfl rfl ?_
      obtain ⟨r7, y8, hF⟩ := o_bind hF
      refine g_iald C 10 1 rfl rfl y8 (tdec DX8_rollback 16 rfl) rfl ?_
      refine g_if_ne (pt := 38) C (tdec DX8_rollback 17 rfl) (by decide) rfl (fun h9 => ?_) (fun h9 => ?_)
      · have hF := o_ifn hF h9
        refine g_iconst (v := 0) C (tdec DX8_rollback 20 rfl) (by decide) rfl ?_
        refine g_putf (C' := RX8) (T := TX8) (N := 27) (v := .int 0) (ws' := wM cB cI cJ cZ x_0 x_1 x_2 x_3 x_4 x_5 x_6 x_7 x_8 x_9 x_10 x_11 x_12 x_13 x_14 x_15 x_16 x_17 x_18 x_19 (MS_setthr x0 0)) C 0 0 tyX8 tyX8_ok nmX8 (gIn iw_X8) rfl rfl (by decide) (gMem fl_X8_78) rfl rfl (tyX8_ok 0 (by decide)) rfl rfl (Nat.le_of_ble_eq_true rfl) rfl (tdec DX8_rollback 21 rfl) rfl ?_
        refine g_aload_n (z := 0) C (tdec DX8_rollback 22 rfl) rfl rfl rfl ?_
        refine g_getf (C' := RX8) (T := TX8) (N := 27) (v := .int 0) C 0 0 (gIn iw_X8) rfl rfl (by decide) (gMem fl_X8_78) rfl rfl (tdec DX8_rollback 23 rfl) rfl ?_
        refine g_if_le (pt := 51) C (tdec DX8_rollback 24 rfl) (by decide) rfl (fun _ => ?_) (fun h => absurd h (by decide))
        refine g_aload_n (z := 0) C (tdec DX8_rollback 27 rfl) rfl rfl rfl ?_
        refine g_getf (C' := RX8) (T := TX8) (N := 27) (v := .ref x_10) C 0 10 (gIn iw_X8) rfl rfl (by decide) (gMem fl_X8_39) rfl rfl (tdec DX8_rollback 28 rfl) rfl ?_
        refine g_iload_n (z := 1) C (tdec DX8_rollback 29 rfl) rfl rfl rfl ?_
        obtain ⟨r10, y11, hF⟩ := o_bind hF
        refine g_iald C 10 1 rfl rfl y11 (tdec DX8_rollback 30 rfl) rfl ?_
        refine g_iconst (v := 1) C (tdec DX8_rollback 31 rfl) (by decide) rfl ?_
        refine g_isub C (tdec DX8_rollback 32 rfl) rfl ?_
        refine g_istore_n (L' := [(2, .int (r10 - 1)), (0, .ref x_0), (1, .int p1)]) C (tdec DX8_rollback 33 rfl) rfl (by decide) rfl rfl ?_
        refine g_aload_n (z := 1) C (tdec DX8_rollback 34 rfl) rfl rfl rfl ?_
        refine g_getf (C' := RX8) (T := TX8) (N := 27) (v := .ref x_7) C 0 7 (gIn iw_X8) rfl rfl (by decide) (gMem fl_X8_30) rfl rfl (tdec DX8_rollback 35 rfl) rfl ?_
        refine g_bipush (v := 22) C (tdec DX8_rollback 36 rfl) (by decide) rfl ?_
        refine g_iload_n (z := 2) C (tdec DX8_rollback 37 rfl) rfl rfl rfl ?_
        refine g_imul C (tdec DX8_rollback 38 rfl) rfl ?_
        refine g_iconst (v := 0) C (tdec DX8_rollback 39 rfl) (by decide) rfl ?_
        refine g_iadd C (tdec DX8_rollback 40 rfl) rfl ?_
        refine g_aload_n (z := 1) C (tdec DX8_rollback 41 rfl) rfl rfl rfl ?_
        refine g_getf (C' := RX8) (T := TX8) (N := 27) (v := .ref x_7) C 0 7 (gIn iw_X8) rfl rfl (by decide) (gMem fl_X8_30) rfl rfl (tdec DX8_rollback 42 rfl) rfl ?_
        refine g_bipush (v := 22) C (tdec DX8_rollback 43 rfl) (by decide) rfl ?_
        refine g_iload_n (z := 2) C (tdec DX8_rollback 44 rfl) rfl rfl rfl ?_
        refine g_imul C (tdec DX8_rollback 45 rfl) rfl ?_
        refine g_iconst (v := 2) C (tdec DX8_rollback 46 rfl) (by decide) rfl ?_
        refine g_iadd C (tdec DX8_rollback 47 rfl) rfl ?_
        refine g_iload_n (z := 0) C (tdec DX8_rollback 48 rfl) rfl rfl rfl ?_
        refine g_iadd C (tdec DX8_rollback 49 rfl) rfl ?_
        obtain ⟨r12, y13, hF⟩ := o_bind hF
        refine g_iald C 7 1 rfl rfl y13 (tdec DX8_rollback 50 rfl) rfl ?_
        obtain ⟨g14, y15, hF⟩ := o_bind hF
        refine g_iast (ws' := wM cB cI cJ cZ x_0 x_1 x_2 x_3 x_4 x_5 x_6 x_7 x_8 x_9 x_10 x_11 x_12 x_13 x_14 x_15 x_16 x_17 x_18 x_19 (MS_settt (MS_setthr x0 0) g14)) C 7 1 rfl rfl y15 rfl (tdec DX8_rollback 51 rfl) rfl ?_
        refine g_aload_n (z := 1) C (tdec DX8_rollback 52 rfl) rfl rfl rfl ?_
        refine g_getf (C' := RX8) (T := TX8) (N := 27) (v := .ref x_8) C 0 8 (gIn iw_X8) rfl rfl (by decide) (gMem fl_X8_33) rfl rfl (tdec DX8_rollback 53 rfl) rfl ?_
        refine g_bipush (v := 22) C (tdec DX8_rollback 54 rfl) (by decide) rfl ?_
        refine g_iload_n (z := 2) C (tdec DX8_rollback 55 rfl) rfl rfl rfl ?_
        refine g_imul C (tdec DX8_rollback 56 rfl) rfl ?_
        refine g_iconst (v := 0) C (tdec DX8_rollback 57 rfl) (by decide) rfl ?_
        refine g_iadd C (tdec DX8_rollback 58 rfl) rfl ?_
        refine g_aload_n (z := 1) C (tdec DX8_rollback 59 rfl) rfl rfl rfl ?_
        refine g_getf (C' := RX8) (T := TX8) (N := 27) (v := .ref x_8) C 0 8 (gIn iw_X8) rfl rfl (by decide) (gMem fl_X8_33) rfl rfl (tdec DX8_rollback 60 rfl) rfl ?_
        refine g_bipush (v := 22) C (tdec DX8_rollback 61 rfl) (by decide) rfl ?_
        refine g_iload_n (z := 2) C (tdec DX8_rollback 62 rfl) rfl rfl rfl ?_
        refine g_imul C (tdec DX8_rollback 63 rfl) rfl ?_
        refine g_iconst (v := 2) C (tdec DX8_rollback 64 rfl) (by decide) rfl ?_
        refine g_iadd C (tdec DX8_rollback 65 rfl) rfl ?_
        refine g_iload_n (z := 0) C (tdec DX8_rollback 66 rfl) rfl rfl rfl ?_
        refine g_iadd C (tdec DX8_rollback 67 rfl) rfl ?_
        obtain ⟨r16, y17, hF⟩ := o_bind hF
        refine g_iald C 8 1 rfl rfl y17 (tdec DX8_rollback 68 rfl) rfl ?_
        obtain ⟨g18, y19, hF⟩ := o_bind hF
        refine g_iast (ws' := wM cB cI cJ cZ x_0 x_1 x_2 x_3 x_4 x_5 x_6 x_7 x_8 x_9 x_10 x_11 x_12 x_13 x_14 x_15 x_16 x_17 x_18 x_19 (MS_settb (MS_settt (MS_setthr x0 0) g14) g18)) C 8 1 rfl rfl y19 rfl (tdec DX8_rollback 69 rfl) rfl ?_
        refine g_aload_n (z := 1) C (tdec DX8_rollback 70 rfl) rfl rfl rfl ?_
        refine g_iload_n (z := 2) C (tdec DX8_rollback 71 rfl) rfl rfl rfl ?_
        obtain ⟨s20, y21, hF⟩ := o_bind hF
        refine g_callVvMS (q0 := 0) (W' := wM cB cI cJ cZ x_0 x_1 x_2 x_3 x_4 x_5 x_6 x_7 x_8 x_9 x_10 x_11 x_12 x_13 x_14 x_15 x_16 x_17 x_18 x_19 s20) (S := [wM cB cI cJ cZ x_0 x_1 x_2 x_3 x_4 x_5 x_6 x_7 x_8 x_9 x_10 x_11 x_12 x_13 x_14 x_15 x_16 x_17 x_18 x_19 (MS_settb (MS_settt (MS_setthr x0 0) g14) g18)]) (S0 := [wM cB cI cJ cZ x_0 x_1 x_2 x_3 x_4 x_5 x_6 x_7 x_8 x_9 x_10 x_11 x_12 x_13 x_14 x_15 x_16 x_17 x_18 x_19 (MS_settb (MS_settt (MS_setthr x0 0) g14) g18)]) (S1 := [wM cB cI cJ cZ x_0 x_1 x_2 x_3 x_4 x_5 x_6 x_7 x_8 x_9 x_10 x_11 x_12 x_13 x_14 x_15 x_16 x_17 x_18 x_19 s20]) (S' := [wM cB cI cJ cZ x_0 x_1 x_2 x_3 x_4 x_5 x_6 x_7 x_8 x_9 x_10 x_11 x_12 x_13 x_14 x_15 x_16 x_17 x_18 x_19 s20]) C (c_X8_sweeps l D cB cI cJ cZ x_0 x_1 x_2 x_3 x_4 x_5 x_6 x_7 x_8 x_9 x_10 x_11 x_12 x_13 x_14 x_15 x_16 x_17 x_18 x_19 y21) rfl rfl (gIV ml_X8_135 im_X8_sweeps sl_X8_sweeps in_X8 cd_X8_sweeps) rfl eX8_sweeps rfl ⟨rfl, rfl⟩ ⟨Nat.le_of_ble_eq_true rfl, Nat.le_of_ble_eq_true rfl⟩ rfl rfl rfl [0] rfl rfl rfl rfl (gA_cons aM gA_nil) rfl rfl (Nat.le_of_ble_eq_true rfl) (tdec DX8_rollback 72 rfl) rfl ?_
        refine g_iload_n (z := 0) C (tdec DX8_rollback 73 rfl) rfl rfl rfl ?_
        have hr9 := o_some hF
        subst hr9
        exact g_iret C rfl rfl (tdec DX8_rollback 74 rfl)
      · have hF := o_ifp hF h9
        refine g_iconst (v := 3) C (tdec DX8_rollback 18 rfl) (by decide) rfl ?_
        refine g_goto (pt := 39) C (tdec DX8_rollback 19 rfl) (by decide) ?_
        refine g_putf (C' := RX8) (T := TX8) (N := 27) (v := .int 3) (ws' := wM cB cI cJ cZ x_0 x_1 x_2 x_3 x_4 x_5 x_6 x_7 x_8 x_9 x_10 x_11 x_12 x_13 x_14 x_15 x_16 x_17 x_18 x_19 (MS_setthr x0 3)) C 0 0 tyX8 tyX8_ok nmX8 (gIn iw_X8) rfl rfl (by decide) (gMem fl_X8_78) rfl rfl (tyX8_ok 0 (by decide)) rfl rfl (Nat.le_of_ble_eq_true rfl) rfl (tdec DX8_rollback 21 rfl) rfl ?_
        refine g_aload_n (z := 0) C (tdec DX8_rollback 22 rfl) rfl rfl rfl ?_
        refine g_getf (C' := RX8) (T := TX8) (N := 27) (v := .int 3) C 0 0 (gIn iw_X8) rfl rfl (by decide) (gMem fl_X8_78) rfl rfl (tdec DX8_rollback 23 rfl) rfl ?_
        refine g_if_le (pt := 51) C (tdec DX8_rollback 24 rfl) (by decide) rfl (fun h => absurd h (by decide)) (fun _ => ?_)
        refine g_iconst (v := 0) C (tdec DX8_rollback 25 rfl) (by decide) rfl ?_
        have hr9 := o_some hF
        subst hr9
        exact g_iret C rfl rfl (tdec DX8_rollback 26 rfl)
    · have hF := o_ifn hF h6
      refine g_iconst (v := 2) C (tdec DX8_rollback 11 rfl) (by decide) rfl ?_
      refine g_goto (pt := 39) C (tdec DX8_rollback 12 rfl) (by decide) ?_
      refine g_putf (C' := RX8) (T := TX8) (N := 27) (v := .int 2) (ws' := wM cB cI cJ cZ x_0 x_1 x_2 x_3 x_4 x_5 x_6 x_7 x_8 x_9 x_10 x_11 x_12 x_13 x_14 x_15 x_16 x_17 x_18 x_19 (MS_setthr x0 2)) C 0 0 tyX8 tyX8_ok nmX8 (gIn iw_X8) rfl rfl (by decide) (gMem fl_X8_78) rfl rfl (tyX8_ok 0 (by decide)) rfl rfl (Nat.le_of_ble_eq_true rfl) rfl (tdec DX8_rollback 21 rfl) rfl ?_
      refine g_aload_n (z := 0) C (tdec DX8_rollback 22 rfl) rfl rfl rfl ?_
      refine g_getf (C' := RX8) (T := TX8) (N := 27) (v := .int 2) C 0 0 (gIn iw_X8) rfl rfl (by decide) (gMem fl_X8_78) rfl rfl (tdec DX8_rollback 23 rfl) rfl ?_
      refine g_if_le (pt := 51) C (tdec DX8_rollback 24 rfl) (by decide) rfl (fun h => absurd h (by decide)) (fun _ => ?_)
      refine g_iconst (v := 0) C (tdec DX8_rollback 25 rfl) (by decide) rfl ?_
      have hr9 := o_some hF
      subst hr9
      exact g_iret C rfl rfl (tdec DX8_rollback 26 rfl)
  · have hF := o_ifp hF h3
    refine g_iconst (v := 1) C (tdec DX8_rollback 4 rfl) (by decide) rfl ?_
    refine g_goto (pt := 39) C (tdec DX8_rollback 5 rfl) (by decide) ?_
    refine g_putf (C' := RX8) (T := TX8) (N := 27) (v := .int 1) (ws' := wM cB cI cJ cZ x_0 x_1 x_2 x_3 x_4 x_5 x_6 x_7 x_8 x_9 x_10 x_11 x_12 x_13 x_14 x_15 x_16 x_17 x_18 x_19 (MS_setthr x0 1)) C 0 0 tyX8 tyX8_ok nmX8 (gIn iw_X8) rfl rfl (by decide) (gMem fl_X8_78) rfl rfl (tyX8_ok 0 (by decide)) rfl rfl (Nat.le_of_ble_eq_true rfl) rfl (tdec DX8_rollback 21 rfl) rfl ?_
    refine g_aload_n (z := 0) C (tdec DX8_rollback 22 rfl) rfl rfl rfl ?_
    refine g_getf (C' := RX8) (T := TX8) (N := 27) (v := .int 1) C 0 0 (gIn iw_X8) rfl rfl (by decide) (gMem fl_X8_78) rfl rfl (tdec DX8_rollback 23 rfl) rfl ?_
    refine g_if_le (pt := 51) C (tdec DX8_rollback 24 rfl) (by decide) rfl (fun h => absurd h (by decide)) (fun _ => ?_)
    refine g_iconst (v := 0) C (tdec DX8_rollback 25 rfl) (by decide) rfl ?_
    have hr9 := o_some hF
    subst hr9
    exact g_iret C rfl rfl (tdec DX8_rollback 26 rfl)
def FX8_put_L5 (v1 : Int64) (v3 : Int32) (k9 : MS → Int32 → Option (MS)) : Nat → MS → Int32 → Option (MS)
  | 0, _, _ => none
  | n9 + 1, x, v4 =>
    if v4 < 0 then
      k9 x v4
    else
      (ast 16000 (MS_str x) (MS_len x) (vp_nar .byte (((((v1 >>> (((8 * v4) : Int32).toInt64 &&& 63)) : Int64).toInt32) : Int32).toInt8.toInt32))).bind fun g2 =>
      FX8_put_L5 v1 v3 k9 n9 (MS_setlen (MS_setstr x g2) ((MS_len x) + 1)) (v4 + (-1))
def FX8_put (x0 : MS) (p1 : Int64) (p3 : Int32) : Option (MS) :=
  FX8_put_L5 p1 p3 (fun xq4 w4_4 =>
    some xq4) 100000 x0 (p3 - 1)
def rX8_put : Room := { frames := 0, cells := 0, slots := 0, locals := 0 }
set_option maxHeartbeats 4000000 in
set_option maxRecDepth 100000 in
theorem c_FX8_put_L5 {p : Program} {l : Launch} {e : Env} {s : State} {m : MethodId} {args : Array Value} {below : List Frame} {meth : Method} {c : Code} {D : va_G} {cB cI cJ cZ : ClassId} {x_0 x_1 x_2 x_3 x_4 x_5 x_6 x_7 x_8 x_9 x_10 x_11 x_12 x_13 x_14 x_15 x_16 x_17 x_18 x_19 : Nat} {x0 : MS} {res : MS} (C : gC p s m args meth c cX8_put 5 RX8 wsX8_put D (gT cB cI cJ cZ) none (va_A (wM cB cI cJ cZ x_0 x_1 x_2 x_3 x_4 x_5 x_6 x_7 x_8 x_9 x_10 x_11 x_12 x_13 x_14 x_15 x_16 x_17 x_18 x_19 x0) s.heap.size)) {v1 : Int64} {v3 : Int32} {k9 : MS → Int32 → Option (MS)} (hk9 : ∀ (x : MS) (v4 : Int32), k9 x v4 = some res → gG p l e (headSpec wsX8_put rX8_put).room s m args below meth c 0 0 D (va_A (wM cB cI cJ cZ x_0 x_1 x_2 x_3 x_4 x_5 x_6 x_7 x_8 x_9 x_10 x_11 x_12 x_13 x_14 x_15 x_16 x_17 x_18 x_19 x0) s.heap.size) (va_A (wM cB cI cJ cZ x_0 x_1 x_2 x_3 x_4 x_5 x_6 x_7 x_8 x_9 x_10 x_11 x_12 x_13 x_14 x_15 x_16 x_17 x_18 x_19 x0) s.heap.size) 5 (MQ below (gQv D (wM cB cI cJ cZ x_0 x_1 x_2 x_3 x_4 x_5 x_6 x_7 x_8 x_9 x_10 x_11 x_12 x_13 x_14 x_15 x_16 x_17 x_18 x_19 x0) s.heap.size (wM cB cI cJ cZ x_0 x_1 x_2 x_3 x_4 x_5 x_6 x_7 x_8 x_9 x_10 x_11 x_12 x_13 x_14 x_15 x_16 x_17 x_18 x_19 res)) args s 0 0 (va_A (wM cB cI cJ cZ x_0 x_1 x_2 x_3 x_4 x_5 x_6 x_7 x_8 x_9 x_10 x_11 x_12 x_13 x_14 x_15 x_16 x_17 x_18 x_19 x0) s.heap.size)) (wM cB cI cJ cZ x_0 x_1 x_2 x_3 x_4 x_5 x_6 x_7 x_8 x_9 x_10 x_11 x_12 x_13 x_14 x_15 x_16 x_17 x_18 x_19 x) 44 [(0, .ref x_0), (1, .long v1), (3, .int v3), (4, .int v4)] []) :
    ∀ (n9 : Nat) (x : MS) (v4 : Int32), FX8_put_L5 v1 v3 k9 n9 x v4 = some res → gG p l e (headSpec wsX8_put rX8_put).room s m args below meth c 0 0 D (va_A (wM cB cI cJ cZ x_0 x_1 x_2 x_3 x_4 x_5 x_6 x_7 x_8 x_9 x_10 x_11 x_12 x_13 x_14 x_15 x_16 x_17 x_18 x_19 x0) s.heap.size) (va_A (wM cB cI cJ cZ x_0 x_1 x_2 x_3 x_4 x_5 x_6 x_7 x_8 x_9 x_10 x_11 x_12 x_13 x_14 x_15 x_16 x_17 x_18 x_19 x0) s.heap.size) 5 (MQ below (gQv D (wM cB cI cJ cZ x_0 x_1 x_2 x_3 x_4 x_5 x_6 x_7 x_8 x_9 x_10 x_11 x_12 x_13 x_14 x_15 x_16 x_17 x_18 x_19 x0) s.heap.size (wM cB cI cJ cZ x_0 x_1 x_2 x_3 x_4 x_5 x_6 x_7 x_8 x_9 x_10 x_11 x_12 x_13 x_14 x_15 x_16 x_17 x_18 x_19 res)) args s 0 0 (va_A (wM cB cI cJ cZ x_0 x_1 x_2 x_3 x_4 x_5 x_6 x_7 x_8 x_9 x_10 x_11 x_12 x_13 x_14 x_15 x_16 x_17 x_18 x_19 x0) s.heap.size)) (wM cB cI cJ cZ x_0 x_1 x_2 x_3 x_4 x_5 x_6 x_7 x_8 x_9 x_10 x_11 x_12 x_13 x_14 x_15 x_16 x_17 x_18 x_19 x) 5 [(0, .ref x_0), (1, .long v1), (3, .int v3), (4, .int v4)] [] := by
  intro n9
  induction n9 with
  | zero =>
    intro x v4 hF
    exact absurd hF (by simp [FX8_put_L5])
  | succ n9 ih9 =>
    intro x v4 hF
    rw [FX8_put_L5] at hF
    refine g_iload (z := 3) C (tdec DX8_put 4 rfl) rfl rfl ?_
    refine g_if_lt (pt := 44) C (tdec DX8_put 5 rfl) (by decide) rfl (fun h1 => ?_) (fun h1 => ?_)
    · have hF := o_ifp hF h1
      refine g_sub (L' := [(0, .ref x_0), (1, .long v1), (3, .int v3), (4, .int v4)]) [0, 1, 2, 3] rfl ?_
      exact hk9 _ _ hF
    · have hF := o_ifn hF h1
      refine g_aload_n (z := 0) C (tdec DX8_put 6 rfl) rfl rfl rfl ?_
      refine g_getf (C' := RX8) (T := TX8) (N := 27) (v := .ref x_17) C 0 18 (gIn iw_X8) rfl rfl (by decide) (gMem fl_X8_64) rfl rfl (tdec DX8_put 7 rfl) rfl ?_
      refine g_aload_n (z := 0) C (tdec DX8_put 8 rfl) rfl rfl rfl ?_
      refine g_getf (C' := RX8) (T := TX8) (N := 27) (v := .int (MS_len x)) C 0 19 (gIn iw_X8) rfl rfl (by decide) (gMem fl_X8_147) rfl rfl (tdec DX8_put 9 rfl) rfl ?_
      refine g_lload_n (z := 1) C (tdec DX8_put 10 rfl) rfl rfl rfl ?_
      refine g_bipush (v := 8) C (tdec DX8_put 11 rfl) (by decide) rfl ?_
      refine g_iload (z := 3) C (tdec DX8_put 12 rfl) rfl rfl ?_
      refine g_imul C (tdec DX8_put 13 rfl) rfl ?_
      refine g_lshr C (tdec DX8_put 14 rfl) rfl ?_
      refine g_l2i C (tdec DX8_put 15 rfl) rfl ?_
      refine g_i2b C (tdec DX8_put 16 rfl) rfl ?_
      obtain ⟨g2, y3, hF⟩ := o_bind hF
      refine g_bast (ws' := wM cB cI cJ cZ x_0 x_1 x_2 x_3 x_4 x_5 x_6 x_7 x_8 x_9 x_10 x_11 x_12 x_13 x_14 x_15 x_16 x_17 x_18 x_19 (MS_setstr x g2)) C 17 0 rfl rfl y3 rfl (tdec DX8_put 17 rfl) rfl ?_
      refine g_aload_n (z := 0) C (tdec DX8_put 18 rfl) rfl rfl rfl ?_
      refine g_dup C (tdec DX8_put 19 rfl) rfl rfl ?_
      refine g_getf (C' := RX8) (T := TX8) (N := 27) (v := .int (MS_len x)) C 0 19 (gIn iw_X8) rfl rfl (by decide) (gMem fl_X8_147) rfl rfl (tdec DX8_put 20 rfl) rfl ?_
      refine g_iconst (v := 1) C (tdec DX8_put 21 rfl) (by decide) rfl ?_
      refine g_iadd C (tdec DX8_put 22 rfl) rfl ?_
      refine g_putf (C' := RX8) (T := TX8) (N := 27) (v := .int ((MS_len x) + 1)) (ws' := wM cB cI cJ cZ x_0 x_1 x_2 x_3 x_4 x_5 x_6 x_7 x_8 x_9 x_10 x_11 x_12 x_13 x_14 x_15 x_16 x_17 x_18 x_19 (MS_setlen (MS_setstr x g2) ((MS_len x) + 1))) C 0 19 tyX8 tyX8_ok nmX8 (gIn iw_X8) rfl rfl (by decide) (gMem fl_X8_147) rfl rfl (tyX8_ok 19 (by decide)) rfl rfl (Nat.le_of_ble_eq_true rfl) rfl (tdec DX8_put 23 rfl) rfl ?_
      refine g_iinc (z := 3) (v := (v4 + (-1))) (L' := [(4, .int (v4 + (-1))), (0, .ref x_0), (1, .long v1), (3, .int v3)]) C (tdec DX8_put 24 rfl) rfl rfl (by decide) rfl rfl ?_
      refine g_goto (pt := 5) C (tdec DX8_put 25 rfl) (by decide) ?_
      refine g_sub (L' := [(0, .ref x_0), (1, .long v1), (3, .int v3), (4, .int (v4 + (-1)))]) [1, 2, 3, 0] rfl ?_
      exact ih9 _ _ hF
set_option maxHeartbeats 4000000 in
set_option maxRecDepth 100000 in
theorem c_X8_put (l : Launch) (D : va_G) (cB cI cJ cZ : ClassId) (x_0 x_1 x_2 x_3 x_4 x_5 x_6 x_7 x_8 x_9 x_10 x_11 x_12 x_13 x_14 x_15 x_16 x_17 x_18 x_19 : Nat) {x0 : MS} {p1 : Int64} {p3 : Int32} {res : MS} (hF : FX8_put x0 p1 p3 = some res) : gMv l yX8_put wsX8_put rX8_put D (gT cB cI cJ cZ) [.ref x_0, .long p1, .int p3] (wM cB cI cJ cZ x_0 x_1 x_2 x_3 x_4 x_5 x_6 x_7 x_8 x_9 x_10 x_11 x_12 x_13 x_14 x_15 x_16 x_17 x_18 x_19 x0) (wM cB cI cJ cZ x_0 x_1 x_2 x_3 x_4 x_5 x_6 x_7 x_8 x_9 x_10 x_11 x_12 x_13 x_14 x_15 x_16 x_17 x_18 x_19 res) := by
  refine g_enter (own := RX8) (free := (fun sz => va_A (wM cB cI cJ cZ x_0 x_1 x_2 x_3 x_4 x_5 x_6 x_7 x_8 x_9 x_10 x_11 x_12 x_13 x_14 x_15 x_16 x_17 x_18 x_19 x0) sz)) (Qc := (fun sz => gQv D (wM cB cI cJ cZ x_0 x_1 x_2 x_3 x_4 x_5 x_6 x_7 x_8 x_9 x_10 x_11 x_12 x_13 x_14 x_15 x_16 x_17 x_18 x_19 x0) sz (wM cB cI cJ cZ x_0 x_1 x_2 x_3 x_4 x_5 x_6 x_7 x_8 x_9 x_10 x_11 x_12 x_13 x_14 x_15 x_16 x_17 x_18 x_19 res))) (fun sz => va_A (wM cB cI cJ cZ x_0 x_1 x_2 x_3 x_4 x_5 x_6 x_7 x_8 x_9 x_10 x_11 x_12 x_13 x_14 x_15 x_16 x_17 x_18 x_19 x0) sz) (fun sz => Or.inr rfl) rfl (by decide) rfl (Nat.le_of_ble_eq_true rfl) rfl ?_
  intro p e s m args below meth c C
  unfold FX8_put at hF
  refine g_iload_n (z := 2) C (tdec DX8_put 0 rfl) rfl rfl rfl ?_
  refine g_iconst (v := 1) C (tdec DX8_put 1 rfl) (by decide) rfl ?_
  refine g_isub C (tdec DX8_put 2 rfl) rfl ?_
  refine g_istore (L' := [(4, .int (p3 - 1)), (0, .ref x_0), (1, .long p1), (3, .int p3)]) C (tdec DX8_put 3 rfl) (by decide) rfl rfl ?_
  refine g_sub (L' := [(0, .ref x_0), (1, .long p1), (3, .int p3), (4, .int (p3 - 1))]) [1, 2, 3, 0] rfl ?_
  refine c_FX8_put_L5 C (fun xq4 w4_4 hF => ?_) 100000 _ _ hF
  have hr9 := o_some hF
  subst hr9
  exact g_vret C rfl (tdec DX8_put 26 rfl)
def FX8_sumOf_L8 (x0 : MS) (v1 : Int32) (v2 : Int32) (k9 : Int32 → Int32 → Int32 → Option (Int64)) : Nat → Int32 → Int32 → Int32 → Option (Int64)
  | 0, _, _, _ => none
  | n9 + 1, v3, v4, v5 =>
    if v2 ≤ v5 then
      k9 v3 v4 v5
    else
      (ald 16000 (MS_str x0) v5).bind fun r2 =>
      FX8_sumOf_L8 x0 v1 v2 k9 n9 (v3 + (r2 &&& 255)) (v4 + (v3 + (r2 &&& 255))) (v5 + 1)
def FX8_sumOf (x0 : MS) (p1 : Int32) (p2 : Int32) : Option (Int64) :=
  FX8_sumOf_L8 x0 p1 p2 (fun w3_4 w4_4 w5_4 =>
    some ((((w4_4 : Int32).toInt64) <<< ((32 : Int32).toInt64 &&& 63)) ||| (((w3_4 : Int32).toInt64) &&& 4294967295))) 100000 1 0 p1
def rX8_sumOf : Room := { frames := 0, cells := 0, slots := 0, locals := 0 }
set_option maxHeartbeats 4000000 in
set_option maxRecDepth 100000 in
theorem c_FX8_sumOf_L8 {p : Program} {l : Launch} {e : Env} {s : State} {m : MethodId} {args : Array Value} {below : List Frame} {meth : Method} {c : Code} {D : va_G} {cB cI cJ cZ : ClassId} {x_0 x_1 x_2 x_3 x_4 x_5 x_6 x_7 x_8 x_9 x_10 x_11 x_12 x_13 x_14 x_15 x_16 x_17 x_18 x_19 : Nat} {x0 : MS} {res : Int64} (C : gC p s m args meth c cX8_sumOf 6 RX8 wsX8_sumOf D (gT cB cI cJ cZ) (some .long) (fun _ => False)) {v1 : Int32} {v2 : Int32} {k9 : Int32 → Int32 → Int32 → Option (Int64)} (hk9 : ∀ (v3 : Int32) (v4 : Int32) (v5 : Int32), k9 v3 v4 v5 = some res → gG p l e (headSpec wsX8_sumOf rX8_sumOf).room s m args below meth c 0 0 D (fun _ => True) (fun _ => False) 6 (MQ below (gRQl res) args s 0 0 (fun _ => False)) (wM cB cI cJ cZ x_0 x_1 x_2 x_3 x_4 x_5 x_6 x_7 x_8 x_9 x_10 x_11 x_12 x_13 x_14 x_15 x_16 x_17 x_18 x_19 x0) 40 [(0, .ref x_0), (1, .int v1), (2, .int v2), (3, .int v3), (4, .int v4), (5, .int v5)] []) :
    ∀ (n9 : Nat) (v3 : Int32) (v4 : Int32) (v5 : Int32), FX8_sumOf_L8 x0 v1 v2 k9 n9 v3 v4 v5 = some res → gG p l e (headSpec wsX8_sumOf rX8_sumOf).room s m args below meth c 0 0 D (fun _ => True) (fun _ => False) 6 (MQ below (gRQl res) args s 0 0 (fun _ => False)) (wM cB cI cJ cZ x_0 x_1 x_2 x_3 x_4 x_5 x_6 x_7 x_8 x_9 x_10 x_11 x_12 x_13 x_14 x_15 x_16 x_17 x_18 x_19 x0) 8 [(0, .ref x_0), (1, .int v1), (2, .int v2), (3, .int v3), (4, .int v4), (5, .int v5)] [] := by
  intro n9
  induction n9 with
  | zero =>
    intro v3 v4 v5 hF
    exact absurd hF (by simp [FX8_sumOf_L8])
  | succ n9 ih9 =>
    intro v3 v4 v5 hF
    rw [FX8_sumOf_L8] at hF
    refine g_iload (z := 5) C (tdec DX8_sumOf 6 rfl) rfl rfl ?_
    refine g_iload_n (z := 2) C (tdec DX8_sumOf 7 rfl) rfl rfl rfl ?_
    refine g_icmp_ge (pt := 40) C (tdec DX8_sumOf 8 rfl) (by decide) rfl (fun h1 => ?_) (fun h1 => ?_)
    · have hF := o_ifp hF h1
      refine g_sub (L' := [(0, .ref x_0), (1, .int v1), (2, .int v2), (3, .int v3), (4, .int v4), (5, .int v5)]) [0, 1, 2, 3, 4, 5] rfl ?_
      exact hk9 _ _ _ hF
    · have hF := o_ifn hF h1
      refine g_iload_n (z := 3) C (tdec DX8_sumOf 9 rfl) rfl rfl rfl ?_
      refine g_aload_n (z := 0) C (tdec DX8_sumOf 10 rfl) rfl rfl rfl ?_
      refine g_getf (C' := RX8) (T := TX8) (N := 27) (v := .ref x_17) C 0 18 (gIn iw_X8) rfl rfl (by decide) (gMem fl_X8_64) rfl rfl (tdec DX8_sumOf 11 rfl) rfl ?_
      refine g_iload (z := 5) C (tdec DX8_sumOf 12 rfl) rfl rfl ?_
      obtain ⟨r2, y3, hF⟩ := o_bind hF
      refine g_bald C 17 0 rfl rfl y3 (tdec DX8_sumOf 13 rfl) rfl ?_
      refine g_sipush (v := 255) C (tdec DX8_sumOf 14 rfl) (by decide) rfl ?_
      refine g_iand C (tdec DX8_sumOf 15 rfl) rfl ?_
      refine g_iadd C (tdec DX8_sumOf 16 rfl) rfl ?_
      refine g_istore_n (L' := [(3, .int (v3 + (r2 &&& 255))), (0, .ref x_0), (1, .int v1), (2, .int v2), (4, .int v4), (5, .int v5)]) C (tdec DX8_sumOf 17 rfl) rfl (by decide) rfl rfl ?_
      refine g_iload (z := 4) C (tdec DX8_sumOf 18 rfl) rfl rfl ?_
      refine g_iload_n (z := 0) C (tdec DX8_sumOf 19 rfl) rfl rfl rfl ?_
      refine g_iadd C (tdec DX8_sumOf 20 rfl) rfl ?_
      refine g_istore (L' := [(4, .int (v4 + (v3 + (r2 &&& 255)))), (3, .int (v3 + (r2 &&& 255))), (0, .ref x_0), (1, .int v1), (2, .int v2), (5, .int v5)]) C (tdec DX8_sumOf 21 rfl) (by decide) rfl rfl ?_
      refine g_iinc (z := 5) (v := (v5 + 1)) (L' := [(5, .int (v5 + 1)), (4, .int (v4 + (v3 + (r2 &&& 255)))), (3, .int (v3 + (r2 &&& 255))), (0, .ref x_0), (1, .int v1), (2, .int v2)]) C (tdec DX8_sumOf 22 rfl) rfl rfl (by decide) rfl rfl ?_
      refine g_goto (pt := 8) C (tdec DX8_sumOf 23 rfl) (by decide) ?_
      refine g_sub (L' := [(0, .ref x_0), (1, .int v1), (2, .int v2), (3, .int (v3 + (r2 &&& 255))), (4, .int (v4 + (v3 + (r2 &&& 255)))), (5, .int (v5 + 1))]) [3, 4, 5, 2, 1, 0] rfl ?_
      exact ih9 _ _ _ hF
set_option maxHeartbeats 4000000 in
set_option maxRecDepth 100000 in
theorem c_X8_sumOf (l : Launch) (D : va_G) (cB cI cJ cZ : ClassId) (x_0 x_1 x_2 x_3 x_4 x_5 x_6 x_7 x_8 x_9 x_10 x_11 x_12 x_13 x_14 x_15 x_16 x_17 x_18 x_19 : Nat) {x0 : MS} {p1 : Int32} {p2 : Int32} {res : Int64} (hF : FX8_sumOf x0 p1 p2 = some res) : gRl l yX8_sumOf wsX8_sumOf rX8_sumOf D (gT cB cI cJ cZ) [.ref x_0, .int p1, .int p2] (wM cB cI cJ cZ x_0 x_1 x_2 x_3 x_4 x_5 x_6 x_7 x_8 x_9 x_10 x_11 x_12 x_13 x_14 x_15 x_16 x_17 x_18 x_19 x0) res := by
  refine g_enter (own := RX8) (free := (fun _ _ => False)) (Qc := (fun sz => gRQl res)) (fun _ _ => True) (fun sz => Or.inl rfl) rfl (by decide) rfl (Nat.le_of_ble_eq_true rfl) rfl ?_
  intro p e s m args below meth c C
  unfold FX8_sumOf at hF
  refine g_iconst (v := 1) C (tdec DX8_sumOf 0 rfl) (by decide) rfl ?_
  refine g_istore_n (L' := [(3, .int 1), (0, .ref x_0), (1, .int p1), (2, .int p2)]) C (tdec DX8_sumOf 1 rfl) rfl (by decide) rfl rfl ?_
  refine g_iconst (v := 0) C (tdec DX8_sumOf 2 rfl) (by decide) rfl ?_
  refine g_istore (L' := [(4, .int 0), (3, .int 1), (0, .ref x_0), (1, .int p1), (2, .int p2)]) C (tdec DX8_sumOf 3 rfl) (by decide) rfl rfl ?_
  refine g_iload_n (z := 3) C (tdec DX8_sumOf 4 rfl) rfl rfl rfl ?_
  refine g_istore (L' := [(5, .int p1), (4, .int 0), (3, .int 1), (0, .ref x_0), (1, .int p1), (2, .int p2)]) C (tdec DX8_sumOf 5 rfl) (by decide) rfl rfl ?_
  refine g_sub (L' := [(0, .ref x_0), (1, .int p1), (2, .int p2), (3, .int 1), (4, .int 0), (5, .int p1)]) [3, 4, 5, 2, 1, 0] rfl ?_
  refine c_FX8_sumOf_L8 C (fun w3_4 w4_4 w5_4 hF => ?_) 100000 _ _ _ hF
  refine g_iload (z := 4) C (tdec DX8_sumOf 24 rfl) rfl rfl ?_
  refine g_i2l C (tdec DX8_sumOf 25 rfl) rfl ?_
  refine g_bipush (v := 32) C (tdec DX8_sumOf 26 rfl) (by decide) rfl ?_
  refine g_lshl C (tdec DX8_sumOf 27 rfl) rfl ?_
  refine g_iload_n (z := 3) C (tdec DX8_sumOf 28 rfl) rfl rfl rfl ?_
  refine g_i2l C (tdec DX8_sumOf 29 rfl) rfl ?_
  refine g_ldc2 C (gMem kl_X8_150) (tdec DX8_sumOf 30 rfl) rfl ?_
  refine g_land C (tdec DX8_sumOf 31 rfl) rfl ?_
  refine g_lor C (tdec DX8_sumOf 32 rfl) rfl ?_
  have hr9 := o_some hF
  subst hr9
  exact g_lretR C rfl (tdec DX8_sumOf 33 rfl)
def FX8_ends (x0 : MS) : Option (MS) :=
  (FX8_sumOf x0 (MS_rf x0) (MS_len x0)).bind fun r1 =>
  (FX8_put x0 r1 8).bind fun s3 =>
  some (MS_setrecs (MS_setrf s3 (MS_len s3)) ((MS_recs s3) + 1))
def rX8_ends : Room := { frames := 1, cells := 0, slots := 0, locals := 25 }
set_option maxHeartbeats 4000000 in
set_option maxRecDepth 100000 in
theorem c_X8_ends (l : Launch) (D : va_G) (cB cI cJ cZ : ClassId) (x_0 x_1 x_2 x_3 x_4 x_5 x_6 x_7 x_8 x_9 x_10 x_11 x_12 x_13 x_14 x_15 x_16 x_17 x_18 x_19 : Nat) {x0 : MS} {res : MS} (hF : FX8_ends x0 = some res) : gMv l yX8_ends wsX8_ends rX8_ends D (gT cB cI cJ cZ) [.ref x_0] (wM cB cI cJ cZ x_0 x_1 x_2 x_3 x_4 x_5 x_6 x_7 x_8 x_9 x_10 x_11 x_12 x_13 x_14 x_15 x_16 x_17 x_18 x_19 x0) (wM cB cI cJ cZ x_0 x_1 x_2 x_3 x_4 x_5 x_6 x_7 x_8 x_9 x_10 x_11 x_12 x_13 x_14 x_15 x_16 x_17 x_18 x_19 res) := by
  refine g_enter (own := RX8) (free := (fun sz => va_A (wM cB cI cJ cZ x_0 x_1 x_2 x_3 x_4 x_5 x_6 x_7 x_8 x_9 x_10 x_11 x_12 x_13 x_14 x_15 x_16 x_17 x_18 x_19 x0) sz)) (Qc := (fun sz => gQv D (wM cB cI cJ cZ x_0 x_1 x_2 x_3 x_4 x_5 x_6 x_7 x_8 x_9 x_10 x_11 x_12 x_13 x_14 x_15 x_16 x_17 x_18 x_19 x0) sz (wM cB cI cJ cZ x_0 x_1 x_2 x_3 x_4 x_5 x_6 x_7 x_8 x_9 x_10 x_11 x_12 x_13 x_14 x_15 x_16 x_17 x_18 x_19 res))) (fun sz => va_A (wM cB cI cJ cZ x_0 x_1 x_2 x_3 x_4 x_5 x_6 x_7 x_8 x_9 x_10 x_11 x_12 x_13 x_14 x_15 x_16 x_17 x_18 x_19 x0) sz) (fun sz => Or.inr rfl) rfl (by decide) rfl (Nat.le_of_ble_eq_true rfl) rfl ?_
  intro p e s m args below meth c C
  unfold FX8_ends at hF
  refine g_aload_n (z := 0) C (tdec DX8_ends 0 rfl) rfl rfl rfl ?_
  refine g_aload_n (z := 0) C (tdec DX8_ends 1 rfl) rfl rfl rfl ?_
  refine g_aload_n (z := 0) C (tdec DX8_ends 2 rfl) rfl rfl rfl ?_
  refine g_getf (C' := RX8) (T := TX8) (N := 27) (v := .int (MS_rf x0)) C 0 26 (gIn iw_X8) rfl rfl (by decide) (gMem fl_X8_152) rfl rfl (tdec DX8_ends 3 rfl) rfl ?_
  refine g_aload_n (z := 0) C (tdec DX8_ends 4 rfl) rfl rfl rfl ?_
  refine g_getf (C' := RX8) (T := TX8) (N := 27) (v := .int (MS_len x0)) C 0 19 (gIn iw_X8) rfl rfl (by decide) (gMem fl_X8_147) rfl rfl (tdec DX8_ends 5 rfl) rfl ?_
  obtain ⟨r1, y2, hF⟩ := o_bind hF
  refine g_callVlRS (q0 := 0) (S := [wM cB cI cJ cZ x_0 x_1 x_2 x_3 x_4 x_5 x_6 x_7 x_8 x_9 x_10 x_11 x_12 x_13 x_14 x_15 x_16 x_17 x_18 x_19 x0]) (S0 := [wM cB cI cJ cZ x_0 x_1 x_2 x_3 x_4 x_5 x_6 x_7 x_8 x_9 x_10 x_11 x_12 x_13 x_14 x_15 x_16 x_17 x_18 x_19 x0]) C (c_X8_sumOf l D cB cI cJ cZ x_0 x_1 x_2 x_3 x_4 x_5 x_6 x_7 x_8 x_9 x_10 x_11 x_12 x_13 x_14 x_15 x_16 x_17 x_18 x_19 y2) rfl rfl (gIV ml_X8_155 im_X8_sumOf sl_X8_sumOf in_X8 cd_X8_sumOf) rfl eX8_sumOf rfl ⟨rfl, rfl⟩ ⟨Nat.le_of_ble_eq_true rfl, Nat.le_of_ble_eq_true rfl⟩ rfl rfl rfl [0] rfl rfl rfl (Nat.le_of_ble_eq_true rfl) (tdec DX8_ends 6 rfl) rfl ?_
  refine g_bipush (v := 8) C (tdec DX8_ends 7 rfl) (by decide) rfl ?_
  obtain ⟨s3, y4, hF⟩ := o_bind hF
  refine g_callVvMS (q0 := 0) (W' := wM cB cI cJ cZ x_0 x_1 x_2 x_3 x_4 x_5 x_6 x_7 x_8 x_9 x_10 x_11 x_12 x_13 x_14 x_15 x_16 x_17 x_18 x_19 s3) (S := [wM cB cI cJ cZ x_0 x_1 x_2 x_3 x_4 x_5 x_6 x_7 x_8 x_9 x_10 x_11 x_12 x_13 x_14 x_15 x_16 x_17 x_18 x_19 x0]) (S0 := [wM cB cI cJ cZ x_0 x_1 x_2 x_3 x_4 x_5 x_6 x_7 x_8 x_9 x_10 x_11 x_12 x_13 x_14 x_15 x_16 x_17 x_18 x_19 x0]) (S1 := [wM cB cI cJ cZ x_0 x_1 x_2 x_3 x_4 x_5 x_6 x_7 x_8 x_9 x_10 x_11 x_12 x_13 x_14 x_15 x_16 x_17 x_18 x_19 s3]) (S' := [wM cB cI cJ cZ x_0 x_1 x_2 x_3 x_4 x_5 x_6 x_7 x_8 x_9 x_10 x_11 x_12 x_13 x_14 x_15 x_16 x_17 x_18 x_19 s3]) C (c_X8_put l D cB cI cJ cZ x_0 x_1 x_2 x_3 x_4 x_5 x_6 x_7 x_8 x_9 x_10 x_11 x_12 x_13 x_14 x_15 x_16 x_17 x_18 x_19 y4) rfl rfl (gIV ml_X8_159 im_X8_put sl_X8_put in_X8 cd_X8_put) rfl eX8_put rfl ⟨rfl, rfl⟩ ⟨Nat.le_of_ble_eq_true rfl, Nat.le_of_ble_eq_true rfl⟩ rfl rfl rfl [0] rfl rfl rfl rfl (gA_cons aM gA_nil) rfl rfl (Nat.le_of_ble_eq_true rfl) (tdec DX8_ends 8 rfl) rfl ?_
  refine g_aload_n (z := 0) C (tdec DX8_ends 9 rfl) rfl rfl rfl ?_
  refine g_aload_n (z := 0) C (tdec DX8_ends 10 rfl) rfl rfl rfl ?_
  refine g_getf (C' := RX8) (T := TX8) (N := 27) (v := .int (MS_len s3)) C 0 19 (gIn iw_X8) rfl rfl (by decide) (gMem fl_X8_147) rfl rfl (tdec DX8_ends 11 rfl) rfl ?_
  refine g_putf (C' := RX8) (T := TX8) (N := 27) (v := .int (MS_len s3)) (ws' := wM cB cI cJ cZ x_0 x_1 x_2 x_3 x_4 x_5 x_6 x_7 x_8 x_9 x_10 x_11 x_12 x_13 x_14 x_15 x_16 x_17 x_18 x_19 (MS_setrf s3 (MS_len s3))) C 0 26 tyX8 tyX8_ok nmX8 (gIn iw_X8) rfl rfl (by decide) (gMem fl_X8_152) rfl rfl (tyX8_ok 26 (by decide)) rfl rfl (Nat.le_of_ble_eq_true rfl) rfl (tdec DX8_ends 12 rfl) rfl ?_
  refine g_aload_n (z := 0) C (tdec DX8_ends 13 rfl) rfl rfl rfl ?_
  refine g_dup C (tdec DX8_ends 14 rfl) rfl rfl ?_
  refine g_getf (C' := RX8) (T := TX8) (N := 27) (v := .int (MS_recs s3)) C 0 20 (gIn iw_X8) rfl rfl (by decide) (gMem fl_X8_163) rfl rfl (tdec DX8_ends 15 rfl) rfl ?_
  refine g_iconst (v := 1) C (tdec DX8_ends 16 rfl) (by decide) rfl ?_
  refine g_iadd C (tdec DX8_ends 17 rfl) rfl ?_
  refine g_putf (C' := RX8) (T := TX8) (N := 27) (v := .int ((MS_recs s3) + 1)) (ws' := wM cB cI cJ cZ x_0 x_1 x_2 x_3 x_4 x_5 x_6 x_7 x_8 x_9 x_10 x_11 x_12 x_13 x_14 x_15 x_16 x_17 x_18 x_19 (MS_setrecs (MS_setrf s3 (MS_len s3)) ((MS_recs s3) + 1))) C 0 20 tyX8 tyX8_ok nmX8 (gIn iw_X8) rfl rfl (by decide) (gMem fl_X8_163) rfl rfl (tyX8_ok 20 (by decide)) rfl rfl (Nat.le_of_ble_eq_true rfl) rfl (tdec DX8_ends 18 rfl) rfl ?_
  have hr9 := o_some hF
  subst hr9
  exact g_vret C rfl (tdec DX8_ends 19 rfl)
def FX8_brings (x0 : MS) (p1 : Int32) (p2 : Int32) (p3 : Int32) (p4 : Int32) (p5 : Int32) : Option (Int32 × MS) :=
  (FX8_born x0 p1 p2).bind fun r1 =>
  if p5 < r1 then
    (FX8_told x0 p1 p2).bind fun r4 =>
    if r4 = (-1) then
      (FX8_put x0 3 1).bind fun s18 =>
      (FX8_put s18 ((p3 : Int32).toInt64) 2).bind fun s20 =>
      (FX8_put s20 ((p4 : Int32).toInt64) 2).bind fun s22 =>
      (FX8_ends s22).bind fun s24 =>
      some (0, (MS_setcl s24 ((MS_cl s24) + 1)))
    else
      if p4 ≤ 1 then
        (FX8_put (MS_setsn x0 ((MS_sn x0) + 1)) 2 1).bind fun s8 =>
        (FX8_put s8 ((p3 : Int32).toInt64) 2).bind fun s10 =>
        (ald 1200 (MS_dat s10) ((600 * p1) + r4)).bind fun r12 =>
        (FX8_put s10 r12 8).bind fun s14 =>
        (FX8_ends s14).bind fun s16 =>
        some (0, (MS_setwr s16 ((MS_wr s16) + 1)))
      else
        some (1, (MS_setsn x0 ((MS_sn x0) + 1)))
  else
    some (0, x0)
def rX8_brings : Room := { frames := 2, cells := 0, slots := 0, locals := 45 }
set_option maxHeartbeats 4000000 in
set_option maxRecDepth 100000 in
theorem c_X8_brings (l : Launch) (D : va_G) (cB cI cJ cZ : ClassId) (x_0 x_1 x_2 x_3 x_4 x_5 x_6 x_7 x_8 x_9 x_10 x_11 x_12 x_13 x_14 x_15 x_16 x_17 x_18 x_19 : Nat) {x0 : MS} {p1 : Int32} {p2 : Int32} {p3 : Int32} {p4 : Int32} {p5 : Int32} {res : Int32 × MS} (hF : FX8_brings x0 p1 p2 p3 p4 p5 = some res) : gMi l yX8_brings wsX8_brings rX8_brings D (gT cB cI cJ cZ) [.ref x_0, .int p1, .int p2, .int p3, .int p4, .int p5] (wM cB cI cJ cZ x_0 x_1 x_2 x_3 x_4 x_5 x_6 x_7 x_8 x_9 x_10 x_11 x_12 x_13 x_14 x_15 x_16 x_17 x_18 x_19 x0) res.1 (wM cB cI cJ cZ x_0 x_1 x_2 x_3 x_4 x_5 x_6 x_7 x_8 x_9 x_10 x_11 x_12 x_13 x_14 x_15 x_16 x_17 x_18 x_19 res.2) := by
  refine g_enter (own := RX8) (free := (fun sz => va_A (wM cB cI cJ cZ x_0 x_1 x_2 x_3 x_4 x_5 x_6 x_7 x_8 x_9 x_10 x_11 x_12 x_13 x_14 x_15 x_16 x_17 x_18 x_19 x0) sz)) (Qc := (fun sz => gQi D (wM cB cI cJ cZ x_0 x_1 x_2 x_3 x_4 x_5 x_6 x_7 x_8 x_9 x_10 x_11 x_12 x_13 x_14 x_15 x_16 x_17 x_18 x_19 x0) sz res.1 (wM cB cI cJ cZ x_0 x_1 x_2 x_3 x_4 x_5 x_6 x_7 x_8 x_9 x_10 x_11 x_12 x_13 x_14 x_15 x_16 x_17 x_18 x_19 res.2))) (fun sz => va_A (wM cB cI cJ cZ x_0 x_1 x_2 x_3 x_4 x_5 x_6 x_7 x_8 x_9 x_10 x_11 x_12 x_13 x_14 x_15 x_16 x_17 x_18 x_19 x0) sz) (fun sz => Or.inr rfl) rfl (by decide) rfl (Nat.le_of_ble_eq_true rfl) rfl ?_
  intro p e s m args below meth c C
  unfold FX8_brings at hF
  refine g_aload_n (z := 0) C (tdec DX8_brings 0 rfl) rfl rfl rfl ?_
  refine g_iload_n (z := 1) C (tdec DX8_brings 1 rfl) rfl rfl rfl ?_
  refine g_iload_n (z := 2) C (tdec DX8_brings 2 rfl) rfl rfl rfl ?_
  obtain ⟨r1, y2, hF⟩ := o_bind hF
  refine g_callViRS (q0 := 0) (S := [wM cB cI cJ cZ x_0 x_1 x_2 x_3 x_4 x_5 x_6 x_7 x_8 x_9 x_10 x_11 x_12 x_13 x_14 x_15 x_16 x_17 x_18 x_19 x0]) (S0 := [wM cB cI cJ cZ x_0 x_1 x_2 x_3 x_4 x_5 x_6 x_7 x_8 x_9 x_10 x_11 x_12 x_13 x_14 x_15 x_16 x_17 x_18 x_19 x0]) C (c_X8_born l D cB cI cJ cZ x_0 x_1 x_2 x_3 x_4 x_5 x_6 x_7 x_8 x_9 x_10 x_11 x_12 x_13 x_14 x_15 x_16 x_17 x_18 x_19 y2) rfl rfl (gIV ml_X8_97 im_X8_born sl_X8_born in_X8 cd_X8_born) rfl eX8_born rfl ⟨rfl, rfl⟩ ⟨Nat.le_of_ble_eq_true rfl, Nat.le_of_ble_eq_true rfl⟩ rfl rfl rfl [0] rfl rfl rfl (Nat.le_of_ble_eq_true rfl) (tdec DX8_brings 3 rfl) rfl ?_
  refine g_iload (z := 5) C (tdec DX8_brings 4 rfl) rfl rfl ?_
  refine g_icmp_gt (pt := 13) C (tdec DX8_brings 5 rfl) (by decide) rfl (fun h3 => ?_) (fun h3 => ?_)
  · have hF := o_ifp hF h3
    refine g_aload_n (z := 0) C (tdec DX8_brings 8 rfl) rfl rfl rfl ?_
    refine g_iload_n (z := 1) C (tdec DX8_brings 9 rfl) rfl rfl rfl ?_
    refine g_iload_n (z := 2) C (tdec DX8_brings 10 rfl) rfl rfl rfl ?_
    obtain ⟨r4, y5, hF⟩ := o_bind hF
    refine g_callViRS (q0 := 0) (S := [wM cB cI cJ cZ x_0 x_1 x_2 x_3 x_4 x_5 x_6 x_7 x_8 x_9 x_10 x_11 x_12 x_13 x_14 x_15 x_16 x_17 x_18 x_19 x0]) (S0 := [wM cB cI cJ cZ x_0 x_1 x_2 x_3 x_4 x_5 x_6 x_7 x_8 x_9 x_10 x_11 x_12 x_13 x_14 x_15 x_16 x_17 x_18 x_19 x0]) C (c_X8_told l D cB cI cJ cZ x_0 x_1 x_2 x_3 x_4 x_5 x_6 x_7 x_8 x_9 x_10 x_11 x_12 x_13 x_14 x_15 x_16 x_17 x_18 x_19 y5) rfl rfl (gIV ml_X8_90 im_X8_told sl_X8_told in_X8 cd_X8_told) rfl eX8_told rfl ⟨rfl, rfl⟩ ⟨Nat.le_of_ble_eq_true rfl, Nat.le_of_ble_eq_true rfl⟩ rfl rfl rfl [0] rfl rfl rfl (Nat.le_of_ble_eq_true rfl) (tdec DX8_brings 11 rfl) rfl ?_
    refine g_istore (L' := [(6, .int r4), (0, .ref x_0), (1, .int p1), (2, .int p2), (3, .int p3), (4, .int p4), (5, .int p5)]) C (tdec DX8_brings 12 rfl) (by decide) rfl rfl ?_
    refine g_iload (z := 0) C (tdec DX8_brings 13 rfl) rfl rfl ?_
    refine g_iconst (v := (-1)) C (tdec DX8_brings 14 rfl) (by decide) rfl ?_
    refine g_icmp_ne (pt := 66) C (tdec DX8_brings 15 rfl) (by decide) rfl (fun h6 => ?_) (fun h6 => ?_)
    · have hF := o_ifn hF h6
      refine g_aload_n (z := 1) C (tdec DX8_brings 40 rfl) rfl rfl rfl ?_
      refine g_dup C (tdec DX8_brings 41 rfl) rfl rfl ?_
      refine g_getf (C' := RX8) (T := TX8) (N := 27) (v := .int (MS_sn x0)) C 0 23 (gIn iw_X8) rfl rfl (by decide) (gMem fl_X8_173) rfl rfl (tdec DX8_brings 42 rfl) rfl ?_
      refine g_iconst (v := 1) C (tdec DX8_brings 43 rfl) (by decide) rfl ?_
      refine g_iadd C (tdec DX8_brings 44 rfl) rfl ?_
      refine g_putf (C' := RX8) (T := TX8) (N := 27) (v := .int ((MS_sn x0) + 1)) (ws' := wM cB cI cJ cZ x_0 x_1 x_2 x_3 x_4 x_5 x_6 x_7 x_8 x_9 x_10 x_11 x_12 x_13 x_14 x_15 x_16 x_17 x_18 x_19 (MS_setsn x0 ((MS_sn x0) + 1))) C 0 23 tyX8 tyX8_ok nmX8 (gIn iw_X8) rfl rfl (by decide) (gMem fl_X8_173) rfl rfl (tyX8_ok 23 (by decide)) rfl rfl (Nat.le_of_ble_eq_true rfl) rfl (tdec DX8_brings 45 rfl) rfl ?_
      refine g_iload (z := 5) C (tdec DX8_brings 46 rfl) rfl rfl ?_
      refine g_iconst (v := 1) C (tdec DX8_brings 47 rfl) (by decide) rfl ?_
      refine g_icmp_le (pt := 84) C (tdec DX8_brings 48 rfl) (by decide) rfl (fun h7 => ?_) (fun h7 => ?_)
      · have hF := o_ifp hF h7
        refine g_aload_n (z := 1) C (tdec DX8_brings 51 rfl) rfl rfl rfl ?_
        refine g_ldc2 C (gMem kl_X8_176) (tdec DX8_brings 52 rfl) rfl ?_
        refine g_iconst (v := 1) C (tdec DX8_brings 53 rfl) (by decide) rfl ?_
        obtain ⟨s8, y9, hF⟩ := o_bind hF
        refine g_callVvMS (q0 := 0) (W' := wM cB cI cJ cZ x_0 x_1 x_2 x_3 x_4 x_5 x_6 x_7 x_8 x_9 x_10 x_11 x_12 x_13 x_14 x_15 x_16 x_17 x_18 x_19 s8) (S := [wM cB cI cJ cZ x_0 x_1 x_2 x_3 x_4 x_5 x_6 x_7 x_8 x_9 x_10 x_11 x_12 x_13 x_14 x_15 x_16 x_17 x_18 x_19 (MS_setsn x0 ((MS_sn x0) + 1))]) (S0 := [wM cB cI cJ cZ x_0 x_1 x_2 x_3 x_4 x_5 x_6 x_7 x_8 x_9 x_10 x_11 x_12 x_13 x_14 x_15 x_16 x_17 x_18 x_19 (MS_setsn x0 ((MS_sn x0) + 1))]) (S1 := [wM cB cI cJ cZ x_0 x_1 x_2 x_3 x_4 x_5 x_6 x_7 x_8 x_9 x_10 x_11 x_12 x_13 x_14 x_15 x_16 x_17 x_18 x_19 s8]) (S' := [wM cB cI cJ cZ x_0 x_1 x_2 x_3 x_4 x_5 x_6 x_7 x_8 x_9 x_10 x_11 x_12 x_13 x_14 x_15 x_16 x_17 x_18 x_19 s8]) C (c_X8_put l D cB cI cJ cZ x_0 x_1 x_2 x_3 x_4 x_5 x_6 x_7 x_8 x_9 x_10 x_11 x_12 x_13 x_14 x_15 x_16 x_17 x_18 x_19 y9) rfl rfl (gIV ml_X8_159 im_X8_put sl_X8_put in_X8 cd_X8_put) rfl eX8_put rfl ⟨rfl, rfl⟩ ⟨Nat.le_of_ble_eq_true rfl, Nat.le_of_ble_eq_true rfl⟩ rfl rfl rfl [0] rfl rfl rfl rfl (gA_cons aM gA_nil) rfl rfl (Nat.le_of_ble_eq_true rfl) (tdec DX8_brings 54 rfl) rfl ?_
        refine g_aload_n (z := 1) C (tdec DX8_brings 55 rfl) rfl rfl rfl ?_
        refine g_iload_n (z := 4) C (tdec DX8_brings 56 rfl) rfl rfl rfl ?_
        refine g_i2l C (tdec DX8_brings 57 rfl) rfl ?_
        refine g_iconst (v := 2) C (tdec DX8_brings 58 rfl) (by decide) rfl ?_
        obtain ⟨s10, y11, hF⟩ := o_bind hF
        refine g_callVvMS (q0 := 0) (W' := wM cB cI cJ cZ x_0 x_1 x_2 x_3 x_4 x_5 x_6 x_7 x_8 x_9 x_10 x_11 x_12 x_13 x_14 x_15 x_16 x_17 x_18 x_19 s10) (S := [wM cB cI cJ cZ x_0 x_1 x_2 x_3 x_4 x_5 x_6 x_7 x_8 x_9 x_10 x_11 x_12 x_13 x_14 x_15 x_16 x_17 x_18 x_19 s8]) (S0 := [wM cB cI cJ cZ x_0 x_1 x_2 x_3 x_4 x_5 x_6 x_7 x_8 x_9 x_10 x_11 x_12 x_13 x_14 x_15 x_16 x_17 x_18 x_19 s8]) (S1 := [wM cB cI cJ cZ x_0 x_1 x_2 x_3 x_4 x_5 x_6 x_7 x_8 x_9 x_10 x_11 x_12 x_13 x_14 x_15 x_16 x_17 x_18 x_19 s10]) (S' := [wM cB cI cJ cZ x_0 x_1 x_2 x_3 x_4 x_5 x_6 x_7 x_8 x_9 x_10 x_11 x_12 x_13 x_14 x_15 x_16 x_17 x_18 x_19 s10]) C (c_X8_put l D cB cI cJ cZ x_0 x_1 x_2 x_3 x_4 x_5 x_6 x_7 x_8 x_9 x_10 x_11 x_12 x_13 x_14 x_15 x_16 x_17 x_18 x_19 y11) rfl rfl (gIV ml_X8_159 im_X8_put sl_X8_put in_X8 cd_X8_put) rfl eX8_put rfl ⟨rfl, rfl⟩ ⟨Nat.le_of_ble_eq_true rfl, Nat.le_of_ble_eq_true rfl⟩ rfl rfl rfl [0] rfl rfl rfl rfl (gA_cons aM gA_nil) rfl rfl (Nat.le_of_ble_eq_true rfl) (tdec DX8_brings 59 rfl) rfl ?_
        refine g_aload_n (z := 1) C (tdec DX8_brings 60 rfl) rfl rfl rfl ?_
        refine g_aload_n (z := 1) C (tdec DX8_brings 61 rfl) rfl rfl rfl ?_
        refine g_getf (C' := RX8) (T := TX8) (N := 27) (v := .ref x_5) C 0 5 (gIn iw_X8) rfl rfl (by decide) (gMem fl_X8_22) rfl rfl (tdec DX8_brings 62 rfl) rfl ?_
        refine g_sipush (v := 600) C (tdec DX8_brings 63 rfl) (by decide) rfl ?_
        refine g_iload_n (z := 2) C (tdec DX8_brings 64 rfl) rfl rfl rfl ?_
        refine g_imul C (tdec DX8_brings 65 rfl) rfl ?_
        refine g_iload (z := 0) C (tdec DX8_brings 66 rfl) rfl rfl ?_
        refine g_iadd C (tdec DX8_brings 67 rfl) rfl ?_
        obtain ⟨r12, y13, hF⟩ := o_bind hF
        refine g_lald C 5 2 rfl rfl y13 (tdec DX8_brings 68 rfl) rfl ?_
        refine g_bipush (v := 8) C (tdec DX8_brings 69 rfl) (by decide) rfl ?_
        obtain ⟨s14, y15, hF⟩ := o_bind hF
        refine g_callVvMS (q0 := 0) (W' := wM cB cI cJ cZ x_0 x_1 x_2 x_3 x_4 x_5 x_6 x_7 x_8 x_9 x_10 x_11 x_12 x_13 x_14 x_15 x_16 x_17 x_18 x_19 s14) (S := [wM cB cI cJ cZ x_0 x_1 x_2 x_3 x_4 x_5 x_6 x_7 x_8 x_9 x_10 x_11 x_12 x_13 x_14 x_15 x_16 x_17 x_18 x_19 s10]) (S0 := [wM cB cI cJ cZ x_0 x_1 x_2 x_3 x_4 x_5 x_6 x_7 x_8 x_9 x_10 x_11 x_12 x_13 x_14 x_15 x_16 x_17 x_18 x_19 s10]) (S1 := [wM cB cI cJ cZ x_0 x_1 x_2 x_3 x_4 x_5 x_6 x_7 x_8 x_9 x_10 x_11 x_12 x_13 x_14 x_15 x_16 x_17 x_18 x_19 s14]) (S' := [wM cB cI cJ cZ x_0 x_1 x_2 x_3 x_4 x_5 x_6 x_7 x_8 x_9 x_10 x_11 x_12 x_13 x_14 x_15 x_16 x_17 x_18 x_19 s14]) C (c_X8_put l D cB cI cJ cZ x_0 x_1 x_2 x_3 x_4 x_5 x_6 x_7 x_8 x_9 x_10 x_11 x_12 x_13 x_14 x_15 x_16 x_17 x_18 x_19 y15) rfl rfl (gIV ml_X8_159 im_X8_put sl_X8_put in_X8 cd_X8_put) rfl eX8_put rfl ⟨rfl, rfl⟩ ⟨Nat.le_of_ble_eq_true rfl, Nat.le_of_ble_eq_true rfl⟩ rfl rfl rfl [0] rfl rfl rfl rfl (gA_cons aM gA_nil) rfl rfl (Nat.le_of_ble_eq_true rfl) (tdec DX8_brings 70 rfl) rfl ?_
        refine g_aload_n (z := 1) C (tdec DX8_brings 71 rfl) rfl rfl rfl ?_
        obtain ⟨s16, y17, hF⟩ := o_bind hF
        refine g_callVvMS (q0 := 0) (W' := wM cB cI cJ cZ x_0 x_1 x_2 x_3 x_4 x_5 x_6 x_7 x_8 x_9 x_10 x_11 x_12 x_13 x_14 x_15 x_16 x_17 x_18 x_19 s16) (S := [wM cB cI cJ cZ x_0 x_1 x_2 x_3 x_4 x_5 x_6 x_7 x_8 x_9 x_10 x_11 x_12 x_13 x_14 x_15 x_16 x_17 x_18 x_19 s14]) (S0 := [wM cB cI cJ cZ x_0 x_1 x_2 x_3 x_4 x_5 x_6 x_7 x_8 x_9 x_10 x_11 x_12 x_13 x_14 x_15 x_16 x_17 x_18 x_19 s14]) (S1 := [wM cB cI cJ cZ x_0 x_1 x_2 x_3 x_4 x_5 x_6 x_7 x_8 x_9 x_10 x_11 x_12 x_13 x_14 x_15 x_16 x_17 x_18 x_19 s16]) (S' := [wM cB cI cJ cZ x_0 x_1 x_2 x_3 x_4 x_5 x_6 x_7 x_8 x_9 x_10 x_11 x_12 x_13 x_14 x_15 x_16 x_17 x_18 x_19 s16]) C (c_X8_ends l D cB cI cJ cZ x_0 x_1 x_2 x_3 x_4 x_5 x_6 x_7 x_8 x_9 x_10 x_11 x_12 x_13 x_14 x_15 x_16 x_17 x_18 x_19 y17) rfl rfl (gIV ml_X8_168 im_X8_ends sl_X8_ends in_X8 cd_X8_ends) rfl eX8_ends rfl ⟨rfl, rfl⟩ ⟨Nat.le_of_ble_eq_true rfl, Nat.le_of_ble_eq_true rfl⟩ rfl rfl rfl [0] rfl rfl rfl rfl (gA_cons aM gA_nil) rfl rfl (Nat.le_of_ble_eq_true rfl) (tdec DX8_brings 72 rfl) rfl ?_
        refine g_aload_n (z := 1) C (tdec DX8_brings 73 rfl) rfl rfl rfl ?_
        refine g_dup C (tdec DX8_brings 74 rfl) rfl rfl ?_
        refine g_getf (C' := RX8) (T := TX8) (N := 27) (v := .int (MS_wr s16)) C 0 21 (gIn iw_X8) rfl rfl (by decide) (gMem fl_X8_178) rfl rfl (tdec DX8_brings 75 rfl) rfl ?_
        refine g_iconst (v := 1) C (tdec DX8_brings 76 rfl) (by decide) rfl ?_
        refine g_iadd C (tdec DX8_brings 77 rfl) rfl ?_
        refine g_putf (C' := RX8) (T := TX8) (N := 27) (v := .int ((MS_wr s16) + 1)) (ws' := wM cB cI cJ cZ x_0 x_1 x_2 x_3 x_4 x_5 x_6 x_7 x_8 x_9 x_10 x_11 x_12 x_13 x_14 x_15 x_16 x_17 x_18 x_19 (MS_setwr s16 ((MS_wr s16) + 1))) C 0 21 tyX8 tyX8_ok nmX8 (gIn iw_X8) rfl rfl (by decide) (gMem fl_X8_178) rfl rfl (tyX8_ok 21 (by decide)) rfl rfl (Nat.le_of_ble_eq_true rfl) rfl (tdec DX8_brings 78 rfl) rfl ?_
        refine g_iconst (v := 0) C (tdec DX8_brings 79 rfl) (by decide) rfl ?_
        have hr9 := o_some hF
        subst hr9
        exact g_zret C rfl rfl rfl (tdec DX8_brings 80 rfl)
      · have hF := o_ifn hF h7
        refine g_iconst (v := 1) C (tdec DX8_brings 49 rfl) (by decide) rfl ?_
        have hr9 := o_some hF
        subst hr9
        exact g_zret C rfl rfl rfl (tdec DX8_brings 50 rfl)
    · have hF := o_ifp hF h6
      refine g_aload_n (z := 1) C (tdec DX8_brings 16 rfl) rfl rfl rfl ?_
      refine g_ldc2 C (gMem kl_X8_166) (tdec DX8_brings 17 rfl) rfl ?_
      refine g_iconst (v := 1) C (tdec DX8_brings 18 rfl) (by decide) rfl ?_
      obtain ⟨s18, y19, hF⟩ := o_bind hF
      refine g_callVvMS (q0 := 0) (W' := wM cB cI cJ cZ x_0 x_1 x_2 x_3 x_4 x_5 x_6 x_7 x_8 x_9 x_10 x_11 x_12 x_13 x_14 x_15 x_16 x_17 x_18 x_19 s18) (S := [wM cB cI cJ cZ x_0 x_1 x_2 x_3 x_4 x_5 x_6 x_7 x_8 x_9 x_10 x_11 x_12 x_13 x_14 x_15 x_16 x_17 x_18 x_19 x0]) (S0 := [wM cB cI cJ cZ x_0 x_1 x_2 x_3 x_4 x_5 x_6 x_7 x_8 x_9 x_10 x_11 x_12 x_13 x_14 x_15 x_16 x_17 x_18 x_19 x0]) (S1 := [wM cB cI cJ cZ x_0 x_1 x_2 x_3 x_4 x_5 x_6 x_7 x_8 x_9 x_10 x_11 x_12 x_13 x_14 x_15 x_16 x_17 x_18 x_19 s18]) (S' := [wM cB cI cJ cZ x_0 x_1 x_2 x_3 x_4 x_5 x_6 x_7 x_8 x_9 x_10 x_11 x_12 x_13 x_14 x_15 x_16 x_17 x_18 x_19 s18]) C (c_X8_put l D cB cI cJ cZ x_0 x_1 x_2 x_3 x_4 x_5 x_6 x_7 x_8 x_9 x_10 x_11 x_12 x_13 x_14 x_15 x_16 x_17 x_18 x_19 y19) rfl rfl (gIV ml_X8_159 im_X8_put sl_X8_put in_X8 cd_X8_put) rfl eX8_put rfl ⟨rfl, rfl⟩ ⟨Nat.le_of_ble_eq_true rfl, Nat.le_of_ble_eq_true rfl⟩ rfl rfl rfl [0] rfl rfl rfl rfl (gA_cons aM gA_nil) rfl rfl (Nat.le_of_ble_eq_true rfl) (tdec DX8_brings 19 rfl) rfl ?_
      refine g_aload_n (z := 1) C (tdec DX8_brings 20 rfl) rfl rfl rfl ?_
      refine g_iload_n (z := 4) C (tdec DX8_brings 21 rfl) rfl rfl rfl ?_
      refine g_i2l C (tdec DX8_brings 22 rfl) rfl ?_
      refine g_iconst (v := 2) C (tdec DX8_brings 23 rfl) (by decide) rfl ?_
      obtain ⟨s20, y21, hF⟩ := o_bind hF
      refine g_callVvMS (q0 := 0) (W' := wM cB cI cJ cZ x_0 x_1 x_2 x_3 x_4 x_5 x_6 x_7 x_8 x_9 x_10 x_11 x_12 x_13 x_14 x_15 x_16 x_17 x_18 x_19 s20) (S := [wM cB cI cJ cZ x_0 x_1 x_2 x_3 x_4 x_5 x_6 x_7 x_8 x_9 x_10 x_11 x_12 x_13 x_14 x_15 x_16 x_17 x_18 x_19 s18]) (S0 := [wM cB cI cJ cZ x_0 x_1 x_2 x_3 x_4 x_5 x_6 x_7 x_8 x_9 x_10 x_11 x_12 x_13 x_14 x_15 x_16 x_17 x_18 x_19 s18]) (S1 := [wM cB cI cJ cZ x_0 x_1 x_2 x_3 x_4 x_5 x_6 x_7 x_8 x_9 x_10 x_11 x_12 x_13 x_14 x_15 x_16 x_17 x_18 x_19 s20]) (S' := [wM cB cI cJ cZ x_0 x_1 x_2 x_3 x_4 x_5 x_6 x_7 x_8 x_9 x_10 x_11 x_12 x_13 x_14 x_15 x_16 x_17 x_18 x_19 s20]) C (c_X8_put l D cB cI cJ cZ x_0 x_1 x_2 x_3 x_4 x_5 x_6 x_7 x_8 x_9 x_10 x_11 x_12 x_13 x_14 x_15 x_16 x_17 x_18 x_19 y21) rfl rfl (gIV ml_X8_159 im_X8_put sl_X8_put in_X8 cd_X8_put) rfl eX8_put rfl ⟨rfl, rfl⟩ ⟨Nat.le_of_ble_eq_true rfl, Nat.le_of_ble_eq_true rfl⟩ rfl rfl rfl [0] rfl rfl rfl rfl (gA_cons aM gA_nil) rfl rfl (Nat.le_of_ble_eq_true rfl) (tdec DX8_brings 24 rfl) rfl ?_
      refine g_aload_n (z := 1) C (tdec DX8_brings 25 rfl) rfl rfl rfl ?_
      refine g_iload (z := 5) C (tdec DX8_brings 26 rfl) rfl rfl ?_
      refine g_i2l C (tdec DX8_brings 27 rfl) rfl ?_
      refine g_iconst (v := 2) C (tdec DX8_brings 28 rfl) (by decide) rfl ?_
      obtain ⟨s22, y23, hF⟩ := o_bind hF
      refine g_callVvMS (q0 := 0) (W' := wM cB cI cJ cZ x_0 x_1 x_2 x_3 x_4 x_5 x_6 x_7 x_8 x_9 x_10 x_11 x_12 x_13 x_14 x_15 x_16 x_17 x_18 x_19 s22) (S := [wM cB cI cJ cZ x_0 x_1 x_2 x_3 x_4 x_5 x_6 x_7 x_8 x_9 x_10 x_11 x_12 x_13 x_14 x_15 x_16 x_17 x_18 x_19 s20]) (S0 := [wM cB cI cJ cZ x_0 x_1 x_2 x_3 x_4 x_5 x_6 x_7 x_8 x_9 x_10 x_11 x_12 x_13 x_14 x_15 x_16 x_17 x_18 x_19 s20]) (S1 := [wM cB cI cJ cZ x_0 x_1 x_2 x_3 x_4 x_5 x_6 x_7 x_8 x_9 x_10 x_11 x_12 x_13 x_14 x_15 x_16 x_17 x_18 x_19 s22]) (S' := [wM cB cI cJ cZ x_0 x_1 x_2 x_3 x_4 x_5 x_6 x_7 x_8 x_9 x_10 x_11 x_12 x_13 x_14 x_15 x_16 x_17 x_18 x_19 s22]) C (c_X8_put l D cB cI cJ cZ x_0 x_1 x_2 x_3 x_4 x_5 x_6 x_7 x_8 x_9 x_10 x_11 x_12 x_13 x_14 x_15 x_16 x_17 x_18 x_19 y23) rfl rfl (gIV ml_X8_159 im_X8_put sl_X8_put in_X8 cd_X8_put) rfl eX8_put rfl ⟨rfl, rfl⟩ ⟨Nat.le_of_ble_eq_true rfl, Nat.le_of_ble_eq_true rfl⟩ rfl rfl rfl [0] rfl rfl rfl rfl (gA_cons aM gA_nil) rfl rfl (Nat.le_of_ble_eq_true rfl) (tdec DX8_brings 29 rfl) rfl ?_
      refine g_aload_n (z := 1) C (tdec DX8_brings 30 rfl) rfl rfl rfl ?_
      obtain ⟨s24, y25, hF⟩ := o_bind hF
      refine g_callVvMS (q0 := 0) (W' := wM cB cI cJ cZ x_0 x_1 x_2 x_3 x_4 x_5 x_6 x_7 x_8 x_9 x_10 x_11 x_12 x_13 x_14 x_15 x_16 x_17 x_18 x_19 s24) (S := [wM cB cI cJ cZ x_0 x_1 x_2 x_3 x_4 x_5 x_6 x_7 x_8 x_9 x_10 x_11 x_12 x_13 x_14 x_15 x_16 x_17 x_18 x_19 s22]) (S0 := [wM cB cI cJ cZ x_0 x_1 x_2 x_3 x_4 x_5 x_6 x_7 x_8 x_9 x_10 x_11 x_12 x_13 x_14 x_15 x_16 x_17 x_18 x_19 s22]) (S1 := [wM cB cI cJ cZ x_0 x_1 x_2 x_3 x_4 x_5 x_6 x_7 x_8 x_9 x_10 x_11 x_12 x_13 x_14 x_15 x_16 x_17 x_18 x_19 s24]) (S' := [wM cB cI cJ cZ x_0 x_1 x_2 x_3 x_4 x_5 x_6 x_7 x_8 x_9 x_10 x_11 x_12 x_13 x_14 x_15 x_16 x_17 x_18 x_19 s24]) C (c_X8_ends l D cB cI cJ cZ x_0 x_1 x_2 x_3 x_4 x_5 x_6 x_7 x_8 x_9 x_10 x_11 x_12 x_13 x_14 x_15 x_16 x_17 x_18 x_19 y25) rfl rfl (gIV ml_X8_168 im_X8_ends sl_X8_ends in_X8 cd_X8_ends) rfl eX8_ends rfl ⟨rfl, rfl⟩ ⟨Nat.le_of_ble_eq_true rfl, Nat.le_of_ble_eq_true rfl⟩ rfl rfl rfl [0] rfl rfl rfl rfl (gA_cons aM gA_nil) rfl rfl (Nat.le_of_ble_eq_true rfl) (tdec DX8_brings 31 rfl) rfl ?_
      refine g_aload_n (z := 1) C (tdec DX8_brings 32 rfl) rfl rfl rfl ?_
      refine g_dup C (tdec DX8_brings 33 rfl) rfl rfl ?_
      refine g_getf (C' := RX8) (T := TX8) (N := 27) (v := .int (MS_cl s24)) C 0 22 (gIn iw_X8) rfl rfl (by decide) (gMem fl_X8_171) rfl rfl (tdec DX8_brings 34 rfl) rfl ?_
      refine g_iconst (v := 1) C (tdec DX8_brings 35 rfl) (by decide) rfl ?_
      refine g_iadd C (tdec DX8_brings 36 rfl) rfl ?_
      refine g_putf (C' := RX8) (T := TX8) (N := 27) (v := .int ((MS_cl s24) + 1)) (ws' := wM cB cI cJ cZ x_0 x_1 x_2 x_3 x_4 x_5 x_6 x_7 x_8 x_9 x_10 x_11 x_12 x_13 x_14 x_15 x_16 x_17 x_18 x_19 (MS_setcl s24 ((MS_cl s24) + 1))) C 0 22 tyX8 tyX8_ok nmX8 (gIn iw_X8) rfl rfl (by decide) (gMem fl_X8_171) rfl rfl (tyX8_ok 22 (by decide)) rfl rfl (Nat.le_of_ble_eq_true rfl) rfl (tdec DX8_brings 37 rfl) rfl ?_
      refine g_iconst (v := 0) C (tdec DX8_brings 38 rfl) (by decide) rfl ?_
      have hr9 := o_some hF
      subst hr9
      exact g_zret C rfl rfl rfl (tdec DX8_brings 39 rfl)
  · have hF := o_ifn hF h3
    refine g_iconst (v := 0) C (tdec DX8_brings 6 rfl) (by decide) rfl ?_
    have hr9 := o_some hF
    subst hr9
    exact g_zret C rfl rfl rfl (tdec DX8_brings 7 rfl)
