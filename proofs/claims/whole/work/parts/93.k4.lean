/-! PART 93: the law's loop, and the law from its entry; printed by wip/whole/gen_start.py -/
theorem cl_L_8 : Cond.classLink RL 8 RX7 ∈ gW := gWm 61 (by decide +kernel) rfl
theorem cl_L_65 : Cond.classLink RL 65 RX8 ∈ gW := gWm 813 (by decide +kernel) rfl
theorem gS_up {c : Nat} {nm : Int64} {sb : SB} {d : SD} {ve vo : VS} {re ro : RC} {x : MS} (h : gS c nm sb d ve vo re ro x) : gS (c + 1) nm sb d ve vo re ro x := ⟨vS_up h.1, vS_up h.2.1, h.2.2⟩
theorem sw_in20 {y : Int32} (h : ¬ (y.toInt < 0 ∨ 19 < y.toInt)) : ∃ j : Nat, j < 20 ∧ y = Int32.ofInt j := by
  refine ⟨y.toInt.toNat, by omega, ?_⟩
  have e : ((y.toInt.toNat : Nat) : Int) = y.toInt := by omega
  rw [e, Int32.ofInt_toInt]
set_option maxHeartbeats 4000000 in
theorem law_loop {p : Program} {l : Launch} {e : Env} {s : State} {m : MethodId} {below : List Frame} {meth : Method} {c : Code} {D : va_G} {cB cI cJ cZ : ClassId} {aa : Cond} {b L : Nat} {xs : Nat → Int32} (nm_0 sb_0 sb_1 d_0 ve_0 ve_1 ve_2 ve_3 ve_4 ve_5 ve_6 ve_7 ve_8 ve_9 ve_10 ve_11 ve_12 ve_13 ve_14 ve_15 ve_16 ve_17 ve_18 ve_19 vo_0 vo_1 vo_2 vo_3 vo_4 vo_5 vo_6 vo_7 vo_8 vo_9 vo_10 vo_11 vo_12 vo_13 vo_14 vo_15 vo_16 vo_17 vo_18 vo_19 re_0 ro_0 o_0 x_0 x_1 x_2 x_3 x_4 x_5 x_6 x_7 x_8 x_9 x_10 x_11 x_12 x_13 x_14 x_15 x_16 x_17 x_18 x_19 : Nat) (hfl : l.stackTraces = false) (C : gC p s m #[Value.ref b] meth c code 8 RL (aa :: gW) D (gT cB cI cJ cZ) ret (va_A [] s.heap.size)) (hX : gX s) (hZ : gZ (va_A [] s.heap.size) s s.heap) (hB : gB b L xs s) (hL : L ≤ 2560) : ∀ (n k cells slots c9 : Nat) (out : Nat → Int64) (t : TS) (x : MS), L + 1 ≤ 5 * k + n → 5 * k ≤ L → cells ≤ 67 + k → slots ≤ 74822 + 6 * k → c9 ≤ k + 2 → gT9 c9 t x → gG p l e room_1 s m #[Value.ref b] below meth c cells slots D (va_A [] s.heap.size) (va_A [] s.heap.size) 8 (lw_Z below #[Value.ref b] s) (wM cB cI cJ cZ x_0 x_1 x_2 x_3 x_4 x_5 x_6 x_7 x_8 x_9 x_10 x_11 x_12 x_13 x_14 x_15 x_16 x_17 x_18 x_19 x ++ (wO cJ o_0 out ++ wT cB cI cJ nm_0 sb_0 sb_1 d_0 ve_0 ve_1 ve_2 ve_3 ve_4 ve_5 ve_6 ve_7 ve_8 ve_9 ve_10 ve_11 ve_12 ve_13 ve_14 ve_15 ve_16 ve_17 ve_18 ve_19 vo_0 vo_1 vo_2 vo_3 vo_4 vo_5 vo_6 vo_7 vo_8 vo_9 vo_10 vo_11 vo_12 vo_13 vo_14 vo_15 vo_16 vo_17 vo_18 vo_19 re_0 ro_0 t)) 23 [(0, .ref b), (1, .ref nm_0), (2, .ref x_0), (3, .ref o_0), (4, .int (nI (5 * k)))] [] := by
  intro n
  induction n with
  | zero => intro k cells slots c9 out t x h1 h2; exact absurd h1 (by omega)
  | succ n ih =>
    intro k cells slots c9 out t x h1 h2 h3 h4 h5 hg
    obtain ⟨nm0, sb0, d0, ve0, vo0, re0, ro0⟩ := t
    have hg1 : gS c9 nm0 sb0 d0 ve0 vo0 re0 ro0 x := hg
    refine g_iload (z := 4) C (tdec DK_0 13 rfl) rfl rfl ?_
    refine g_aload_n (z := 0) C (tdec DK_0 14 rfl) rfl rfl rfl ?_
    refine g_slen C hB (tdec DK_0 15 rfl) rfl ?_
    refine g_iconst (v := nI 5) C (tdec DK_0 16 rfl) rfl rfl ?_
    refine g_isub C (tdec DK_0 17 rfl) rfl ?_
    refine g_icmp_gt (pt := 1281) C (tdec DK_0 18 rfl) (by decide) rfl (fun _ => ?_) (fun hng => ?_)
    · refine g_iconst (v := 1) C (tdec DK_16 3 rfl) (by decide) rfl ?_
      exact g_end C (by omega) (by omega) (tdec DK_16 4 rfl)
    · have hi : 5 * k + 5 ≤ L := by
        rcases Nat.lt_or_ge L (5 + 5 * k) with q | q
        · exact absurd ((sub_ltI (a := L) (b := 5) (c := 5 * k) (by omega) (by omega) (by omega)).mpr q) hng
        · omega
      refine g_aload_n (z := 0) C (tdec DK_0 19 rfl) rfl rfl rfl ?_
      refine g_iload (z := 4) C (tdec DK_0 20 rfl) rfl rfl ?_
      refine g_sld C hB (vp_in_nI (by omega) (by omega)) rfl (tdec DK_0 21 rfl) rfl ?_
      refine g_bipush (v := 31) C (tdec DK_0 22 rfl) rfl rfl ?_
      refine g_iand C (tdec DK_0 23 rfl) rfl ?_
      have hcs : cells + 1 ≤ 601024 ∧ slots + 6 ≤ 7293034 := by omega
      have hk : c9 ≤ 1000 := by omega
      have kk : ∀ (out' : Nat → Int64) (t : TS) (x' : MS), gT9 (c9 + 1) t x' → gG p l e room_1 s m #[Value.ref b] below meth c (cells + 1) (slots + 6) D (va_A [] s.heap.size) (va_A [] s.heap.size) 8 (lw_Z below #[Value.ref b] s) (wM cB cI cJ cZ x_0 x_1 x_2 x_3 x_4 x_5 x_6 x_7 x_8 x_9 x_10 x_11 x_12 x_13 x_14 x_15 x_16 x_17 x_18 x_19 x' ++ (wO cJ o_0 out' ++ wT cB cI cJ nm_0 sb_0 sb_1 d_0 ve_0 ve_1 ve_2 ve_3 ve_4 ve_5 ve_6 ve_7 ve_8 ve_9 ve_10 ve_11 ve_12 ve_13 ve_14 ve_15 ve_16 ve_17 ve_18 ve_19 vo_0 vo_1 vo_2 vo_3 vo_4 vo_5 vo_6 vo_7 vo_8 vo_9 vo_10 vo_11 vo_12 vo_13 vo_14 vo_15 vo_16 vo_17 vo_18 vo_19 re_0 ro_0 t)) 1275 [(0, .ref b), (1, .ref nm_0), (2, .ref x_0), (3, .ref o_0), (4, .int (nI (5 * k)))] [] := by
        intro out' t x' hg'
        refine g_iinc (z := 4) (v := nI (5 * (k + 1))) (L' := [(4, .int (nI (5 * (k + 1)))), (0, .ref b), (1, .ref nm_0), (2, .ref x_0), (3, .ref o_0)]) C (tdec DK_16 1 rfl) rfl (nI_add (5 * k) 5) (by decide) rfl rfl ?_
        refine g_goto (pt := 23) C (tdec DK_16 2 rfl) (by decide) ?_
        exact g_sub [1, 2, 3, 4, 0] rfl (ih (k + 1) (cells + 1) (slots + 6) (c9 + 1) out' t x' (by omega) (by omega) (by omega) (by omega) (by omega) hg')
      generalize xs (nI (5 * k)).toNatClampNeg &&& 31 = y
      by_cases hout : y.toInt < 0 ∨ 19 < y.toInt
      · refine g_switchOut (pt := 1275) C (tdec DK_0 24 rfl) hout (by decide) ?_
        exact g_wide (Nat.le_succ _) (Nat.le_add_right _ _) (kk out (nm0, sb0, d0, ve0, vo0, re0, ro0) x (gS_up hg1))
      · obtain ⟨j, hj, rfl⟩ := sw_in20 hout
        clear hout
        rcases (show j = 0 ∨ j = 1 ∨ j = 2 ∨ j = 3 ∨ j = 4 ∨ j = 5 ∨ j = 6 ∨ j = 7 ∨ j = 8 ∨ j = 9 ∨ j = 10 ∨ j = 11 ∨ j = 12 ∨ j = 13 ∨ j = 14 ∨ j = 15 ∨ j = 16 ∨ j = 17 ∨ j = 18 ∨ j = 19 by omega) with rfl | rfl | rfl | rfl | rfl | rfl | rfl | rfl | rfl | rfl | rfl | rfl | rfl | rfl | rfl | rfl | rfl | rfl | rfl | rfl
        · exact g_switchIn (v := 0) (pt := 132) C (tdec DK_0 24 rfl) rfl (by decide) (by decide) (by decide) rfl (by decide) (k_format nm_0 sb_0 sb_1 d_0 ve_0 ve_1 ve_2 ve_3 ve_4 ve_5 ve_6 ve_7 ve_8 ve_9 ve_10 ve_11 ve_12 ve_13 ve_14 ve_15 ve_16 ve_17 ve_18 ve_19 vo_0 vo_1 vo_2 vo_3 vo_4 vo_5 vo_6 vo_7 vo_8 vo_9 vo_10 vo_11 vo_12 vo_13 vo_14 vo_15 vo_16 vo_17 vo_18 vo_19 re_0 ro_0 o_0 x_0 x_1 x_2 x_3 x_4 x_5 x_6 x_7 x_8 x_9 x_10 x_11 x_12 x_13 x_14 x_15 x_16 x_17 x_18 x_19 hfl C hX hZ hB hi hL hk hcs hg1 kk)
        · exact g_switchIn (v := 1) (pt := 180) C (tdec DK_0 24 rfl) rfl (by decide) (by decide) (by decide) rfl (by decide) (k_write nm_0 sb_0 sb_1 d_0 ve_0 ve_1 ve_2 ve_3 ve_4 ve_5 ve_6 ve_7 ve_8 ve_9 ve_10 ve_11 ve_12 ve_13 ve_14 ve_15 ve_16 ve_17 ve_18 ve_19 vo_0 vo_1 vo_2 vo_3 vo_4 vo_5 vo_6 vo_7 vo_8 vo_9 vo_10 vo_11 vo_12 vo_13 vo_14 vo_15 vo_16 vo_17 vo_18 vo_19 re_0 ro_0 o_0 x_0 x_1 x_2 x_3 x_4 x_5 x_6 x_7 x_8 x_9 x_10 x_11 x_12 x_13 x_14 x_15 x_16 x_17 x_18 x_19 hfl C hX hZ hB hi hL hk hcs hg1 kk)
        · exact g_switchIn (v := 2) (pt := 292) C (tdec DK_0 24 rfl) rfl (by decide) (by decide) (by decide) rfl (by decide) (k_clear nm_0 sb_0 sb_1 d_0 ve_0 ve_1 ve_2 ve_3 ve_4 ve_5 ve_6 ve_7 ve_8 ve_9 ve_10 ve_11 ve_12 ve_13 ve_14 ve_15 ve_16 ve_17 ve_18 ve_19 vo_0 vo_1 vo_2 vo_3 vo_4 vo_5 vo_6 vo_7 vo_8 vo_9 vo_10 vo_11 vo_12 vo_13 vo_14 vo_15 vo_16 vo_17 vo_18 vo_19 re_0 ro_0 o_0 x_0 x_1 x_2 x_3 x_4 x_5 x_6 x_7 x_8 x_9 x_10 x_11 x_12 x_13 x_14 x_15 x_16 x_17 x_18 x_19 hfl C hX hZ hB hi hL hk hcs hg1 kk)
        · exact g_switchIn (v := 3) (pt := 360) C (tdec DK_0 24 rfl) rfl (by decide) (by decide) (by decide) rfl (by decide) (k_read nm_0 sb_0 sb_1 d_0 ve_0 ve_1 ve_2 ve_3 ve_4 ve_5 ve_6 ve_7 ve_8 ve_9 ve_10 ve_11 ve_12 ve_13 ve_14 ve_15 ve_16 ve_17 ve_18 ve_19 vo_0 vo_1 vo_2 vo_3 vo_4 vo_5 vo_6 vo_7 vo_8 vo_9 vo_10 vo_11 vo_12 vo_13 vo_14 vo_15 vo_16 vo_17 vo_18 vo_19 re_0 ro_0 o_0 x_0 x_1 x_2 x_3 x_4 x_5 x_6 x_7 x_8 x_9 x_10 x_11 x_12 x_13 x_14 x_15 x_16 x_17 x_18 x_19 hfl C hX hZ hB hi hL hk hcs hg1 kk)
        · exact g_switchIn (v := 4) (pt := 439) C (tdec DK_0 24 rfl) rfl (by decide) (by decide) (by decide) rfl (by decide) (k_snapshot nm_0 sb_0 sb_1 d_0 ve_0 ve_1 ve_2 ve_3 ve_4 ve_5 ve_6 ve_7 ve_8 ve_9 ve_10 ve_11 ve_12 ve_13 ve_14 ve_15 ve_16 ve_17 ve_18 ve_19 vo_0 vo_1 vo_2 vo_3 vo_4 vo_5 vo_6 vo_7 vo_8 vo_9 vo_10 vo_11 vo_12 vo_13 vo_14 vo_15 vo_16 vo_17 vo_18 vo_19 re_0 ro_0 o_0 x_0 x_1 x_2 x_3 x_4 x_5 x_6 x_7 x_8 x_9 x_10 x_11 x_12 x_13 x_14 x_15 x_16 x_17 x_18 x_19 hfl C hX hZ hB hi hL hk hcs hg1 kk)
        · exact g_switchIn (v := 5) (pt := 495) C (tdec DK_0 24 rfl) rfl (by decide) (by decide) (by decide) rfl (by decide) (k_destroy nm_0 sb_0 sb_1 d_0 ve_0 ve_1 ve_2 ve_3 ve_4 ve_5 ve_6 ve_7 ve_8 ve_9 ve_10 ve_11 ve_12 ve_13 ve_14 ve_15 ve_16 ve_17 ve_18 ve_19 vo_0 vo_1 vo_2 vo_3 vo_4 vo_5 vo_6 vo_7 vo_8 vo_9 vo_10 vo_11 vo_12 vo_13 vo_14 vo_15 vo_16 vo_17 vo_18 vo_19 re_0 ro_0 o_0 x_0 x_1 x_2 x_3 x_4 x_5 x_6 x_7 x_8 x_9 x_10 x_11 x_12 x_13 x_14 x_15 x_16 x_17 x_18 x_19 hfl C hX hZ hB hi hL hk hcs hg1 kk)
        · exact g_switchIn (v := 6) (pt := 563) C (tdec DK_0 24 rfl) rfl (by decide) (by decide) (by decide) rfl (by decide) (k_rollback nm_0 sb_0 sb_1 d_0 ve_0 ve_1 ve_2 ve_3 ve_4 ve_5 ve_6 ve_7 ve_8 ve_9 ve_10 ve_11 ve_12 ve_13 ve_14 ve_15 ve_16 ve_17 ve_18 ve_19 vo_0 vo_1 vo_2 vo_3 vo_4 vo_5 vo_6 vo_7 vo_8 vo_9 vo_10 vo_11 vo_12 vo_13 vo_14 vo_15 vo_16 vo_17 vo_18 vo_19 re_0 ro_0 o_0 x_0 x_1 x_2 x_3 x_4 x_5 x_6 x_7 x_8 x_9 x_10 x_11 x_12 x_13 x_14 x_15 x_16 x_17 x_18 x_19 hfl C hX hZ hB hi hL hk hcs hg1 kk)
        · exact g_switchIn (v := 7) (pt := 619) C (tdec DK_0 24 rfl) rfl (by decide) (by decide) (by decide) rfl (by decide) (k_send nm_0 sb_0 sb_1 d_0 ve_0 ve_1 ve_2 ve_3 ve_4 ve_5 ve_6 ve_7 ve_8 ve_9 ve_10 ve_11 ve_12 ve_13 ve_14 ve_15 ve_16 ve_17 ve_18 ve_19 vo_0 vo_1 vo_2 vo_3 vo_4 vo_5 vo_6 vo_7 vo_8 vo_9 vo_10 vo_11 vo_12 vo_13 vo_14 vo_15 vo_16 vo_17 vo_18 vo_19 re_0 ro_0 o_0 x_0 x_1 x_2 x_3 x_4 x_5 x_6 x_7 x_8 x_9 x_10 x_11 x_12 x_13 x_14 x_15 x_16 x_17 x_18 x_19 hfl C hX hZ hB hi hL hk hcs hg1 kk)
        · exact g_switchIn (v := 8) (pt := 699) C (tdec DK_0 24 rfl) rfl (by decide) (by decide) (by decide) rfl (by decide) (k_receive nm_0 sb_0 sb_1 d_0 ve_0 ve_1 ve_2 ve_3 ve_4 ve_5 ve_6 ve_7 ve_8 ve_9 ve_10 ve_11 ve_12 ve_13 ve_14 ve_15 ve_16 ve_17 ve_18 ve_19 vo_0 vo_1 vo_2 vo_3 vo_4 vo_5 vo_6 vo_7 vo_8 vo_9 vo_10 vo_11 vo_12 vo_13 vo_14 vo_15 vo_16 vo_17 vo_18 vo_19 re_0 ro_0 o_0 x_0 x_1 x_2 x_3 x_4 x_5 x_6 x_7 x_8 x_9 x_10 x_11 x_12 x_13 x_14 x_15 x_16 x_17 x_18 x_19 hfl C hX hZ hB hi hL hk hcs hg1 kk)
        · exact g_switchIn (v := 9) (pt := 755) C (tdec DK_0 24 rfl) rfl (by decide) (by decide) (by decide) rfl (by decide) (k_step nm_0 sb_0 sb_1 d_0 ve_0 ve_1 ve_2 ve_3 ve_4 ve_5 ve_6 ve_7 ve_8 ve_9 ve_10 ve_11 ve_12 ve_13 ve_14 ve_15 ve_16 ve_17 ve_18 ve_19 vo_0 vo_1 vo_2 vo_3 vo_4 vo_5 vo_6 vo_7 vo_8 vo_9 vo_10 vo_11 vo_12 vo_13 vo_14 vo_15 vo_16 vo_17 vo_18 vo_19 re_0 ro_0 o_0 x_0 x_1 x_2 x_3 x_4 x_5 x_6 x_7 x_8 x_9 x_10 x_11 x_12 x_13 x_14 x_15 x_16 x_17 x_18 x_19 hfl C hX hZ hB hi hL hk hcs hg1 kk)
        · exact g_switchIn (v := 10) (pt := 823) C (tdec DK_0 24 rfl) rfl (by decide) (by decide) (by decide) rfl (by decide) (k_crash nm_0 sb_0 sb_1 d_0 ve_0 ve_1 ve_2 ve_3 ve_4 ve_5 ve_6 ve_7 ve_8 ve_9 ve_10 ve_11 ve_12 ve_13 ve_14 ve_15 ve_16 ve_17 ve_18 ve_19 vo_0 vo_1 vo_2 vo_3 vo_4 vo_5 vo_6 vo_7 vo_8 vo_9 vo_10 vo_11 vo_12 vo_13 vo_14 vo_15 vo_16 vo_17 vo_18 vo_19 re_0 ro_0 o_0 x_0 x_1 x_2 x_3 x_4 x_5 x_6 x_7 x_8 x_9 x_10 x_11 x_12 x_13 x_14 x_15 x_16 x_17 x_18 x_19 hfl C hX hZ hB hi hL hk hcs hg1 kk)
        · exact g_switchIn (v := 11) (pt := 886) C (tdec DK_0 24 rfl) rfl (by decide) (by decide) (by decide) rfl (by decide) (k_stream nm_0 sb_0 sb_1 d_0 ve_0 ve_1 ve_2 ve_3 ve_4 ve_5 ve_6 ve_7 ve_8 ve_9 ve_10 ve_11 ve_12 ve_13 ve_14 ve_15 ve_16 ve_17 ve_18 ve_19 vo_0 vo_1 vo_2 vo_3 vo_4 vo_5 vo_6 vo_7 vo_8 vo_9 vo_10 vo_11 vo_12 vo_13 vo_14 vo_15 vo_16 vo_17 vo_18 vo_19 re_0 ro_0 o_0 x_0 x_1 x_2 x_3 x_4 x_5 x_6 x_7 x_8 x_9 x_10 x_11 x_12 x_13 x_14 x_15 x_16 x_17 x_18 x_19 hfl C hX hZ hB hi hL hk hcs hg1 kk)
        · exact g_switchIn (v := 12) (pt := 911) C (tdec DK_0 24 rfl) rfl (by decide) (by decide) (by decide) rfl (by decide) (k_patch nm_0 sb_0 sb_1 d_0 ve_0 ve_1 ve_2 ve_3 ve_4 ve_5 ve_6 ve_7 ve_8 ve_9 ve_10 ve_11 ve_12 ve_13 ve_14 ve_15 ve_16 ve_17 ve_18 ve_19 vo_0 vo_1 vo_2 vo_3 vo_4 vo_5 vo_6 vo_7 vo_8 vo_9 vo_10 vo_11 vo_12 vo_13 vo_14 vo_15 vo_16 vo_17 vo_18 vo_19 re_0 ro_0 o_0 x_0 x_1 x_2 x_3 x_4 x_5 x_6 x_7 x_8 x_9 x_10 x_11 x_12 x_13 x_14 x_15 x_16 x_17 x_18 x_19 hfl C hX hZ hB hi hL hk hcs hg1 kk)
        · exact g_switchIn (v := 13) (pt := 979) C (tdec DK_0 24 rfl) rfl (by decide) (by decide) (by decide) rfl (by decide) (k_cut nm_0 sb_0 sb_1 d_0 ve_0 ve_1 ve_2 ve_3 ve_4 ve_5 ve_6 ve_7 ve_8 ve_9 ve_10 ve_11 ve_12 ve_13 ve_14 ve_15 ve_16 ve_17 ve_18 ve_19 vo_0 vo_1 vo_2 vo_3 vo_4 vo_5 vo_6 vo_7 vo_8 vo_9 vo_10 vo_11 vo_12 vo_13 vo_14 vo_15 vo_16 vo_17 vo_18 vo_19 re_0 ro_0 o_0 x_0 x_1 x_2 x_3 x_4 x_5 x_6 x_7 x_8 x_9 x_10 x_11 x_12 x_13 x_14 x_15 x_16 x_17 x_18 x_19 hfl C hX hZ hB hi hL hk hcs hg1 kk)
        · exact g_switchIn (v := 14) (pt := 1015) C (tdec DK_0 24 rfl) rfl (by decide) (by decide) (by decide) rfl (by decide) (k_snap nm_0 sb_0 sb_1 d_0 ve_0 ve_1 ve_2 ve_3 ve_4 ve_5 ve_6 ve_7 ve_8 ve_9 ve_10 ve_11 ve_12 ve_13 ve_14 ve_15 ve_16 ve_17 ve_18 ve_19 vo_0 vo_1 vo_2 vo_3 vo_4 vo_5 vo_6 vo_7 vo_8 vo_9 vo_10 vo_11 vo_12 vo_13 vo_14 vo_15 vo_16 vo_17 vo_18 vo_19 re_0 ro_0 o_0 x_0 x_1 x_2 x_3 x_4 x_5 x_6 x_7 x_8 x_9 x_10 x_11 x_12 x_13 x_14 x_15 x_16 x_17 x_18 x_19 hfl C hX hZ hB hi hL hk hcs hg1 kk)
        · exact g_switchIn (v := 15) (pt := 1065) C (tdec DK_0 24 rfl) rfl (by decide) (by decide) (by decide) rfl (by decide) (k_block nm_0 sb_0 sb_1 d_0 ve_0 ve_1 ve_2 ve_3 ve_4 ve_5 ve_6 ve_7 ve_8 ve_9 ve_10 ve_11 ve_12 ve_13 ve_14 ve_15 ve_16 ve_17 ve_18 ve_19 vo_0 vo_1 vo_2 vo_3 vo_4 vo_5 vo_6 vo_7 vo_8 vo_9 vo_10 vo_11 vo_12 vo_13 vo_14 vo_15 vo_16 vo_17 vo_18 vo_19 re_0 ro_0 o_0 x_0 x_1 x_2 x_3 x_4 x_5 x_6 x_7 x_8 x_9 x_10 x_11 x_12 x_13 x_14 x_15 x_16 x_17 x_18 x_19 hfl C hX hZ hB hi hL hk hcs hg1 kk)
        · exact g_switchIn (v := 16) (pt := 1114) C (tdec DK_0 24 rfl) rfl (by decide) (by decide) (by decide) rfl (by decide) (k_pointer nm_0 sb_0 sb_1 d_0 ve_0 ve_1 ve_2 ve_3 ve_4 ve_5 ve_6 ve_7 ve_8 ve_9 ve_10 ve_11 ve_12 ve_13 ve_14 ve_15 ve_16 ve_17 ve_18 ve_19 vo_0 vo_1 vo_2 vo_3 vo_4 vo_5 vo_6 vo_7 vo_8 vo_9 vo_10 vo_11 vo_12 vo_13 vo_14 vo_15 vo_16 vo_17 vo_18 vo_19 re_0 ro_0 o_0 x_0 x_1 x_2 x_3 x_4 x_5 x_6 x_7 x_8 x_9 x_10 x_11 x_12 x_13 x_14 x_15 x_16 x_17 x_18 x_19 hfl C hX hZ hB hi hL hk hcs hg1 kk)
        · exact g_switchIn (v := 17) (pt := 1175) C (tdec DK_0 24 rfl) rfl (by decide) (by decide) (by decide) rfl (by decide) (k_data nm_0 sb_0 sb_1 d_0 ve_0 ve_1 ve_2 ve_3 ve_4 ve_5 ve_6 ve_7 ve_8 ve_9 ve_10 ve_11 ve_12 ve_13 ve_14 ve_15 ve_16 ve_17 ve_18 ve_19 vo_0 vo_1 vo_2 vo_3 vo_4 vo_5 vo_6 vo_7 vo_8 vo_9 vo_10 vo_11 vo_12 vo_13 vo_14 vo_15 vo_16 vo_17 vo_18 vo_19 re_0 ro_0 o_0 x_0 x_1 x_2 x_3 x_4 x_5 x_6 x_7 x_8 x_9 x_10 x_11 x_12 x_13 x_14 x_15 x_16 x_17 x_18 x_19 hfl C hX hZ hB hi hL hk hcs hg1 kk)
        · exact g_switchIn (v := 18) (pt := 1213) C (tdec DK_0 24 rfl) rfl (by decide) (by decide) (by decide) rfl (by decide) (k_look nm_0 sb_0 sb_1 d_0 ve_0 ve_1 ve_2 ve_3 ve_4 ve_5 ve_6 ve_7 ve_8 ve_9 ve_10 ve_11 ve_12 ve_13 ve_14 ve_15 ve_16 ve_17 ve_18 ve_19 vo_0 vo_1 vo_2 vo_3 vo_4 vo_5 vo_6 vo_7 vo_8 vo_9 vo_10 vo_11 vo_12 vo_13 vo_14 vo_15 vo_16 vo_17 vo_18 vo_19 re_0 ro_0 o_0 x_0 x_1 x_2 x_3 x_4 x_5 x_6 x_7 x_8 x_9 x_10 x_11 x_12 x_13 x_14 x_15 x_16 x_17 x_18 x_19 hfl C hX hZ hB hi hL hk hcs hg1 kk)
        · exact g_switchIn (v := 19) (pt := 1250) C (tdec DK_0 24 rfl) rfl (by decide) (by decide) (by decide) rfl (by decide) (k_sent nm_0 sb_0 sb_1 d_0 ve_0 ve_1 ve_2 ve_3 ve_4 ve_5 ve_6 ve_7 ve_8 ve_9 ve_10 ve_11 ve_12 ve_13 ve_14 ve_15 ve_16 ve_17 ve_18 ve_19 vo_0 vo_1 vo_2 vo_3 vo_4 vo_5 vo_6 vo_7 vo_8 vo_9 vo_10 vo_11 vo_12 vo_13 vo_14 vo_15 vo_16 vo_17 vo_18 vo_19 re_0 ro_0 o_0 x_0 x_1 x_2 x_3 x_4 x_5 x_6 x_7 x_8 x_9 x_10 x_11 x_12 x_13 x_14 x_15 x_16 x_17 x_18 x_19 hfl C hX hZ hB hi hL hk hcs hg1 kk)
theorem gS_start : ∃ (w : VS) (x1 x2 : MS), FX6_startAnew zVS 100 = some w ∧ FX8_fresh zMS 0 100 = some x1 ∧ FX8_fresh x1 1 100 = some x2 ∧ gS 2 1 zSB zSD w w zRC zRC x2 := by
  obtain ⟨w, x1, a1, a2, a3, a4⟩ := v_format (v := 0) (c := 0) (N := 100) zVS zRC zMS (by omega) (by omega)
  obtain ⟨w', x2, b1, b2, b3, b4⟩ := v_format (v := 1) (c := 1) (N := 100) zVS zRC x1 (by omega) (by omega)
  have e : w' = w := Option.some.inj (b1.symm.trans a1)
  subst e
  refine ⟨w', x1, x2, a1, a2, b2, ?_⟩
  have h0 : vS 0 2 w' zRC x2 := vS_same a4 (b3.1 0 (by omega) (by omega))
  obtain ⟨c1, c2, c3, c4, c5, c6, c7⟩ := a3.2
  obtain ⟨d1, d2, d3, d4, d5, d6, d7⟩ := b3.2
  refine ⟨h0, b4, ⟨0, ?_, ?_, by omega, fun i _ => ⟨?_, ?_⟩⟩, ?_, ?_, ?_, ?_⟩
  · rfl
  · rw [d3, c3]; rfl
  · rw [d2, c2]
  · rw [d2, c2]
    show (0 : Int32).toInt8.toInt32 = 0
    decide
  · rw [d4, c4]
  · rw [d5, c5]
  · rw [d6, c6]
  · rw [d1, c1]
theorem hfl9 {l : Launch} (h : l.flags = flags0) : l.stackTraces = false := by
  unfold Launch.stackTraces
  rw [h]
  decide +kernel
theorem law_nc {b : Nat} {s : State} (hgv : (Jvm.Cond.and given_1 narrow_1).before #[Value.ref b] s = true) (E T : String) (h : Cond.not (.castable E T) ∈ flatC (Jvm.Cond.and given_1 narrow_1)) : va_Nc E T s := va_Nc.of (flat_of_before _ hgv _ h)
theorem law_word {b : Nat} {s : State} {w : Cond} (i : Nat) (hts : ∀ w ∈ lw_tbl, w.before #[Value.ref b] s = true) (h : lw_tbl[i]? = some w) : w.before #[Value.ref b] s = true := hts w (List.mem_of_getElem? h)
theorem law_arr {A : Array Value} {s : State} {ty : FieldType} (h9 : ∀ c, s.vm.findClass ("[" ++ ty.toString) = some c → va_RA s c ty) (h : (Cond.arrayClass ty).before A s = true) : ∃ c, ArrOfT s c ty ∧ va_RA s c ty := by
  obtain ⟨c, k, comp, h1, h2, h3⟩ := Cond.arrayClass_spec h
  exact ⟨c, fun n z => ⟨fun k h => (by cases h), k, h2, comp, h3⟩, h9 c h1⟩
theorem law_X {b : Nat} {s : State} (hts : ∀ w ∈ lw_tbl, w.before #[Value.ref b] s = true) (hgv : (Jvm.Cond.and given_1 narrow_1).before #[Value.ref b] s = true) : gX s := by
  refine ⟨?_, ?_, ?_⟩
  · intro E hE
    simp only [List.mem_cons, List.not_mem_nil, or_false] at hE
    rcases hE with rfl | rfl | rfl | rfl
    · exact gCa.of (law_word 401 hts (by decide +kernel))
    · exact gCa.of (law_word 592 hts (by decide +kernel))
    · exact gCa.of (law_word 563 hts (by decide +kernel))
    · exact gCa.of (law_word 607 hts (by decide +kernel))
  · intro E hE T hT hn
    simp only [List.mem_cons, List.not_mem_nil, or_false] at hE hT
    rcases hE with rfl | rfl | rfl | rfl
    · rcases hT with rfl | rfl | rfl | rfl
      · exact absurd rfl hn
      · exact law_nc hgv xIA xIS (by decide +kernel)
      · exact law_nc hgv xIA xNS (by decide +kernel)
      · exact law_nc hgv xIA xUO (by decide +kernel)
    · rcases hT with rfl | rfl | rfl | rfl
      · exact law_nc hgv xIS xIA (by decide +kernel)
      · exact absurd rfl hn
      · exact law_nc hgv xIS xNS (by decide +kernel)
      · exact law_nc hgv xIS xUO (by decide +kernel)
    · rcases hT with rfl | rfl | rfl | rfl
      · exact law_nc hgv xNS xIA (by decide +kernel)
      · exact law_nc hgv xNS xIS (by decide +kernel)
      · exact absurd rfl hn
      · exact law_nc hgv xNS xUO (by decide +kernel)
    · rcases hT with rfl | rfl | rfl | rfl
      · exact law_nc hgv xUO xIA (by decide +kernel)
      · exact law_nc hgv xUO xIS (by decide +kernel)
      · exact law_nc hgv xUO xNS (by decide +kernel)
      · exact absurd rfl hn
  · intro w hw
    simp only [List.mem_cons, List.not_mem_nil, or_false] at hw
    rcases hw with rfl | rfl | rfl
    · exact va_tabs rfl rfl (law_word 402 hts (by decide +kernel))
    · exact va_tabs rfl rfl (law_word 404 hts (by decide +kernel))
    · exact va_tabs rfl rfl (law_word 406 hts (by decide +kernel))
theorem law_Z {b : Nat} {s : State} (hts : ∀ w ∈ lw_tbl, w.before #[Value.ref b] s = true) (hgv : (Jvm.Cond.and given_1 narrow_1).before #[Value.ref b] s = true) : gZ (va_A [] s.heap.size) s s.heap := by
  have hA : ∀ a : Nat, a < s.heap.size → ¬ va_A [] s.heap.size a := by
    rintro a ha (⟨k, e, h1⟩ | h1)
    · cases h1
    · exact absurd ha (Nat.not_lt.mpr h1)
  exact ⟨vx_Zqof (law_word 426 hts (by decide +kernel)) (law_word 54 hts (by decide +kernel)) (flat_of_before _ hgv _ (by decide +kernel)) hA, vx_Zqof (law_word 428 hts (by decide +kernel)) (law_word 54 hts (by decide +kernel)) (flat_of_before _ hgv _ (by decide +kernel)) hA⟩
theorem law_N {b : Nat} {s : State} (hts : ∀ w ∈ lw_tbl, w.before #[Value.ref b] s = true) : gN s :=
  ⟨va_tabs rfl rfl (law_word 767 hts (by decide +kernel)), va_tabs rfl rfl (law_word 113 hts (by decide +kernel)), va_tabs rfl rfl (law_word 71 hts (by decide +kernel))⟩
theorem law_K {b : Nat} {s : State} (hts : ∀ w ∈ lw_tbl, w.before #[Value.ref b] s = true) : ∃ (D : va_G) (cB cI cJ cZ : ClassId), va_K D vwCl (gT cB cI cJ cZ) s := by
  have hw : ∀ w ∈ gW, w.before #[Value.ref b] s = true := fun w h => hts w (List.mem_filter.mp h).1
  obtain ⟨c0, f0, u0⟩ := u_known (C := RX0) (T := TX0) (N := 10) (n := 10) hw iw_X0 (hw _ ib_X0)
  obtain ⟨c1, f1, u1⟩ := u_known (C := RX1) (T := TX1) (N := 1) (n := 1) hw iw_X1 (hw _ ib_X1)
  obtain ⟨c2, f2, u2⟩ := u_known (C := RX2) (T := TX2) (N := 1) (n := 1) hw iw_X2 (hw _ ib_X2)
  obtain ⟨c3, f3, u3⟩ := u_known (C := RX3) (T := TX3) (N := 5) (n := 5) hw iw_X3 (hw _ ib_X3)
  obtain ⟨c4, f4, u4⟩ := u_known (C := RX4) (T := TX4) (N := 5) (n := 5) hw iw_X4 (hw _ ib_X4)
  obtain ⟨c5, f5, u5⟩ := u_known (C := RX5) (T := TX5) (N := 2) (n := 2) hw iw_X5 (hw _ ib_X5)
  obtain ⟨c6, f6, u6⟩ := u_known (C := RX6) (T := TX6) (N := 6) (n := 6) hw iw_X6 (hw _ ib_X6)
  obtain ⟨c7, f7, u7⟩ := u_known (C := RX7) (T := TX7) (N := 7) (n := 7) hw iw_X7 (hw _ ib_X7)
  obtain ⟨c8, f8, u8⟩ := u_known (C := RX8) (T := TX8) (N := 27) (n := 27) hw iw_X8 (hw _ ib_X8)
  obtain ⟨cB, rB1, rB2⟩ := law_arr (ty := .byte) (fun _ h => h) (hw _ ar_B)
  obtain ⟨cI, rI1, rI2⟩ := law_arr (ty := .int) (fun _ h => h) (hw _ ar_I)
  obtain ⟨cJ, rJ1, rJ2⟩ := law_arr (ty := .long) (fun _ h => h) (hw _ ar_J)
  obtain ⟨cZ, rZ1, rZ2⟩ := law_arr (ty := .boolean) (fun _ h => h) (hw _ ar_Z)
  refine ⟨(fun k => match k with | 0 => c0 | 1 => c1 | 2 => c2 | 3 => c3 | 4 => c4 | 5 => c5 | 6 => c6 | 7 => c7 | _ => c8, fun k => match k with | 0 => f0 | 1 => f1 | 2 => f2 | 3 => f3 | 4 => f4 | 5 => f5 | 6 => f6 | 7 => f7 | _ => f8), cB, cI, cJ, cZ, ?_, ?_⟩
  · intro k q hq
    match k, hq with
    | 0, hq => cases hq; exact u0
    | 1, hq => cases hq; exact u1
    | 2, hq => cases hq; exact u2
    | 3, hq => cases hq; exact u3
    | 4, hq => cases hq; exact u4
    | 5, hq => cases hq; exact u5
    | 6, hq => cases hq; exact u6
    | 7, hq => cases hq; exact u7
    | 8, hq => cases hq; exact u8
    | k + 9, hq => simp at hq
  · intro k q hq
    match k, hq with
    | 0, hq => cases hq; exact ⟨rB1, rB2⟩
    | 1, hq => cases hq; exact ⟨rI1, rI2⟩
    | 2, hq => cases hq; exact ⟨rJ1, rJ2⟩
    | 3, hq => cases hq; exact ⟨rZ1, rZ2⟩
    | k + 4, hq => simp at hq
set_option maxHeartbeats 4000000 in
theorem whole_start {p : Program} {e : Env} {s : State} {m : MethodId} {below : List Frame} {meth : Method} {c : Code} (l : Launch) (hflags : l.flags = flags0) {b L : Nat} {xs : Nat → Int32} (hL : L ≤ 2560) (C0 : lw_At p s m meth c b L xs) : W p l e room_1 s m #[Value.ref b] below meth c s.heap [] 0 0 (lw_Z below #[Value.ref b] s) (entryFrame m ([Value.ref b] : List Value).toArray 8) := by
  obtain ⟨hx, hb, hr, hml, hown, hts, hXs, hbl, hlocks, hgv⟩ := C0
  have hfl : l.stackTraces = false := hfl9 hflags
  obtain ⟨D, cB, cI, cJ, cZ, hK⟩ := law_K hts
  obtain ⟨w, x1, x2, s1, s2, s3, hg⟩ := gS_start
  have C : gC p s m #[Value.ref b] meth c code 8 RL (Cond.initialized RL :: gW) D (gT cB cI cJ cZ) ret (va_A [] s.heap.size) := ⟨hx, hb, hml, hown, fun z hz => (List.mem_cons.mp hz).elim (fun h => hts z (List.mem_filter.mp (h ▸ in_L)).1) (fun h => hts z (List.mem_filter.mp h).1), hK, hr, hlocks, law_N hts⟩
  have hB : gB b L xs s := ⟨hXs, hbl⟩
  have hX := law_X hts hgv
  have hZ := law_Z hts hgv
  have main : gG p l e room_1 s m #[Value.ref b] below meth c 0 0 D (va_A [] s.heap.size) (va_A [] s.heap.size) 8 (lw_Z below #[Value.ref b] s) (([] : va_W)) 0 [(0, .ref b)] [] := by
    refine g_newo (C' := RX7) (T := TX7) (N := 7) (ci := 7) C (gIn iw_X7) tyX7 tyX7_ok (gMem cl_L_8) (gMem ib_X7) (gMem in_X7) rfl [.null, .null, .null, .null, .null, .null, .long 0] (fun j hj => by rcases (show j = 0 ∨ j = 1 ∨ j = 2 ∨ j = 3 ∨ j = 4 ∨ j = 5 ∨ j = 6 by omega) with rfl | rfl | rfl | rfl | rfl | rfl | rfl <;> rfl) (Nat.le_of_ble_eq_true rfl) (Nat.le_of_ble_eq_true rfl) (tdec DK_0 0 rfl) rfl (fun q1 => ?_)
    refine g_dup C (tdec DK_0 1 rfl) rfl rfl ?_
    refine g_ini (W1 := fun a : List Nat => wT cB cI cJ q1 (a.getD 0 0) (a.getD 1 0) (a.getD 2 0) (a.getD 3 0) (a.getD 4 0) (a.getD 5 0) (a.getD 6 0) (a.getD 7 0) (a.getD 8 0) (a.getD 9 0) (a.getD 10 0) (a.getD 11 0) (a.getD 12 0) (a.getD 13 0) (a.getD 14 0) (a.getD 15 0) (a.getD 16 0) (a.getD 17 0) (a.getD 18 0) (a.getD 19 0) (a.getD 20 0) (a.getD 21 0) (a.getD 22 0) (a.getD 23 0) (a.getD 24 0) (a.getD 25 0) (a.getD 26 0) (a.getD 27 0) (a.getD 28 0) (a.getD 29 0) (a.getD 30 0) (a.getD 31 0) (a.getD 32 0) (a.getD 33 0) (a.getD 34 0) (a.getD 35 0) (a.getD 36 0) (a.getD 37 0) (a.getD 38 0) (a.getD 39 0) (a.getD 40 0) (a.getD 41 0) (a.getD 42 0) (a.getD 43 0) (a.getD 44 0) (1, zSB, zSD, w, w, zRC, zRC)) (wr := ([] : va_W)) (As := []) C (c_X7_init l D cB cI cJ cZ q1 s1) (gGood (gSelf cd_X7_init)) (gMem ml_L_64) (gMem im_X7_init) (gMem in_X7) rfl eX7_init rfl ⟨rfl, rfl⟩ ⟨Nat.le_of_ble_eq_true rfl, Nat.le_of_ble_eq_true rfl⟩ rfl [0] [] rfl rfl rfl rfl (by decide) rfl (Nat.le_of_ble_eq_true rfl) (tdec DK_0 2 rfl) rfl ⟨Nat.le_of_ble_eq_true rfl, Nat.le_of_ble_eq_true rfl⟩ (fun a => ?_)
    refine g_ws (ws' := wT cB cI cJ q1 (a.getD 0 0) (a.getD 1 0) (a.getD 2 0) (a.getD 3 0) (a.getD 4 0) (a.getD 5 0) (a.getD 6 0) (a.getD 7 0) (a.getD 8 0) (a.getD 9 0) (a.getD 10 0) (a.getD 11 0) (a.getD 12 0) (a.getD 13 0) (a.getD 14 0) (a.getD 15 0) (a.getD 16 0) (a.getD 17 0) (a.getD 18 0) (a.getD 19 0) (a.getD 20 0) (a.getD 21 0) (a.getD 22 0) (a.getD 23 0) (a.getD 24 0) (a.getD 25 0) (a.getD 26 0) (a.getD 27 0) (a.getD 28 0) (a.getD 29 0) (a.getD 30 0) (a.getD 31 0) (a.getD 32 0) (a.getD 33 0) (a.getD 34 0) (a.getD 35 0) (a.getD 36 0) (a.getD 37 0) (a.getD 38 0) (a.getD 39 0) (a.getD 40 0) (a.getD 41 0) (a.getD 42 0) (a.getD 43 0) (a.getD 44 0) (1, zSB, zSD, w, w, zRC, zRC)) rfl ?_
    refine g_astore_n (L' := [(1, .ref q1), (0, .ref b)]) C (tdec DK_0 3 rfl) rfl (by decide) rfl rfl ?_
    refine g_newo (C' := RX8) (T := TX8) (N := 27) (ci := 8) C (gIn iw_X8) tyX8 tyX8_ok (gMem cl_L_65) (gMem ib_X8) (gMem in_X8) rfl [.int 0, .null, .null, .null, .null, .null, .null, .null, .null, .null, .null, .null, .null, .null, .null, .null, .null, .long 0, .null, .int 0, .int 0, .int 0, .int 0, .int 0, .null, .null, .int 0] (fun j hj => by rcases (show j = 0 ∨ j = 1 ∨ j = 2 ∨ j = 3 ∨ j = 4 ∨ j = 5 ∨ j = 6 ∨ j = 7 ∨ j = 8 ∨ j = 9 ∨ j = 10 ∨ j = 11 ∨ j = 12 ∨ j = 13 ∨ j = 14 ∨ j = 15 ∨ j = 16 ∨ j = 17 ∨ j = 18 ∨ j = 19 ∨ j = 20 ∨ j = 21 ∨ j = 22 ∨ j = 23 ∨ j = 24 ∨ j = 25 ∨ j = 26 by omega) with rfl | rfl | rfl | rfl | rfl | rfl | rfl | rfl | rfl | rfl | rfl | rfl | rfl | rfl | rfl | rfl | rfl | rfl | rfl | rfl | rfl | rfl | rfl | rfl | rfl | rfl | rfl <;> rfl) (Nat.le_of_ble_eq_true rfl) (Nat.le_of_ble_eq_true rfl) (tdec DK_0 4 rfl) rfl (fun q2 => ?_)
    refine g_dup C (tdec DK_0 5 rfl) rfl rfl ?_
    refine g_ini (W1 := fun a2 : List Nat => wM cB cI cJ cZ q2 (a2.getD 0 0) (a2.getD 1 0) (a2.getD 2 0) (a2.getD 3 0) (a2.getD 4 0) (a2.getD 5 0) (a2.getD 6 0) (a2.getD 7 0) (a2.getD 8 0) (a2.getD 9 0) (a2.getD 10 0) (a2.getD 11 0) (a2.getD 12 0) (a2.getD 13 0) (a2.getD 14 0) (a2.getD 15 0) (a2.getD 16 0) (a2.getD 17 0) (a2.getD 18 0) x2) (wr := wT cB cI cJ q1 (a.getD 0 0) (a.getD 1 0) (a.getD 2 0) (a.getD 3 0) (a.getD 4 0) (a.getD 5 0) (a.getD 6 0) (a.getD 7 0) (a.getD 8 0) (a.getD 9 0) (a.getD 10 0) (a.getD 11 0) (a.getD 12 0) (a.getD 13 0) (a.getD 14 0) (a.getD 15 0) (a.getD 16 0) (a.getD 17 0) (a.getD 18 0) (a.getD 19 0) (a.getD 20 0) (a.getD 21 0) (a.getD 22 0) (a.getD 23 0) (a.getD 24 0) (a.getD 25 0) (a.getD 26 0) (a.getD 27 0) (a.getD 28 0) (a.getD 29 0) (a.getD 30 0) (a.getD 31 0) (a.getD 32 0) (a.getD 33 0) (a.getD 34 0) (a.getD 35 0) (a.getD 36 0) (a.getD 37 0) (a.getD 38 0) (a.getD 39 0) (a.getD 40 0) (a.getD 41 0) (a.getD 42 0) (a.getD 43 0) (a.getD 44 0) (1, zSB, zSD, w, w, zRC, zRC)) (As := []) C (c_X8_init l D cB cI cJ cZ q2 s2 s3) (gGood (gSelf cd_X8_init)) (gMem ml_L_67) (gMem im_X8_init) (gMem in_X8) rfl eX8_init rfl ⟨rfl, rfl⟩ ⟨Nat.le_of_ble_eq_true rfl, Nat.le_of_ble_eq_true rfl⟩ rfl [46] [0, 1, 2, 3, 4, 5, 6, 7, 8, 9, 10, 11, 12, 13, 14, 15, 16, 17, 18, 19, 20, 21, 22, 23, 24, 25, 26, 27, 28, 29, 30, 31, 32, 33, 34, 35, 36, 37, 38, 39, 40, 41, 42, 43, 44, 45] rfl rfl rfl (by decide) (by decide) rfl (Nat.le_of_ble_eq_true rfl) (tdec DK_0 6 rfl) rfl ⟨Nat.le_of_ble_eq_true rfl, Nat.le_of_ble_eq_true rfl⟩ (fun a2 => ?_)
    refine g_astore_n (L' := [(2, .ref q2), (1, .ref q1), (0, .ref b)]) C (tdec DK_0 7 rfl) rfl (by decide) rfl rfl ?_
    refine g_iconst (v := 1) C (tdec DK_0 8 rfl) (by decide) rfl ?_
    refine g_newr (atype := .long) (ty := .long) (cA := cJ) (N' := 1) 2 (1, .inr (.inl z64)) C (gMem ar_J) rfl rfl uniJ (fun _ => rfl) (by decide) (by decide) (by decide) (Nat.le_of_ble_eq_true rfl) (Nat.le_of_ble_eq_true rfl) (tdec DK_0 9 rfl) rfl (fun q3 => ?_)
    refine g_perm (ws' := wM cB cI cJ cZ q2 (a2.getD 0 0) (a2.getD 1 0) (a2.getD 2 0) (a2.getD 3 0) (a2.getD 4 0) (a2.getD 5 0) (a2.getD 6 0) (a2.getD 7 0) (a2.getD 8 0) (a2.getD 9 0) (a2.getD 10 0) (a2.getD 11 0) (a2.getD 12 0) (a2.getD 13 0) (a2.getD 14 0) (a2.getD 15 0) (a2.getD 16 0) (a2.getD 17 0) (a2.getD 18 0) x2 ++ (wO cJ q3 z64 ++ wT cB cI cJ q1 (a.getD 0 0) (a.getD 1 0) (a.getD 2 0) (a.getD 3 0) (a.getD 4 0) (a.getD 5 0) (a.getD 6 0) (a.getD 7 0) (a.getD 8 0) (a.getD 9 0) (a.getD 10 0) (a.getD 11 0) (a.getD 12 0) (a.getD 13 0) (a.getD 14 0) (a.getD 15 0) (a.getD 16 0) (a.getD 17 0) (a.getD 18 0) (a.getD 19 0) (a.getD 20 0) (a.getD 21 0) (a.getD 22 0) (a.getD 23 0) (a.getD 24 0) (a.getD 25 0) (a.getD 26 0) (a.getD 27 0) (a.getD 28 0) (a.getD 29 0) (a.getD 30 0) (a.getD 31 0) (a.getD 32 0) (a.getD 33 0) (a.getD 34 0) (a.getD 35 0) (a.getD 36 0) (a.getD 37 0) (a.getD 38 0) (a.getD 39 0) (a.getD 40 0) (a.getD 41 0) (a.getD 42 0) (a.getD 43 0) (a.getD 44 0) (1, zSB, zSD, w, w, zRC, zRC))) [46, 47, 48, 49, 50, 51, 52, 53, 54, 55, 56, 57, 58, 59, 60, 61, 62, 63, 64, 65, 66, 0, 1, 2, 3, 4, 5, 6, 7, 8, 9, 10, 11, 12, 13, 14, 15, 16, 17, 18, 19, 20, 21, 22, 23, 24, 25, 26, 27, 28, 29, 30, 31, 32, 33, 34, 35, 36, 37, 38, 39, 40, 41, 42, 43, 44, 45] rfl rfl (by decide) ?_
    refine g_astore_n (L' := [(3, .ref q3), (2, .ref q2), (1, .ref q1), (0, .ref b)]) C (tdec DK_0 10 rfl) rfl (by decide) rfl rfl ?_
    refine g_iconst (v := nI (5 * 0)) C (tdec DK_0 11 rfl) rfl rfl ?_
    refine g_istore (L' := [(4, .int (nI (5 * 0))), (3, .ref q3), (2, .ref q2), (1, .ref q1), (0, .ref b)]) C (tdec DK_0 12 rfl) (by decide) rfl rfl ?_
    exact g_sub [4, 3, 2, 1, 0] rfl (law_loop q1 (a.getD 0 0) (a.getD 1 0) (a.getD 2 0) (a.getD 3 0) (a.getD 4 0) (a.getD 5 0) (a.getD 6 0) (a.getD 7 0) (a.getD 8 0) (a.getD 9 0) (a.getD 10 0) (a.getD 11 0) (a.getD 12 0) (a.getD 13 0) (a.getD 14 0) (a.getD 15 0) (a.getD 16 0) (a.getD 17 0) (a.getD 18 0) (a.getD 19 0) (a.getD 20 0) (a.getD 21 0) (a.getD 22 0) (a.getD 23 0) (a.getD 24 0) (a.getD 25 0) (a.getD 26 0) (a.getD 27 0) (a.getD 28 0) (a.getD 29 0) (a.getD 30 0) (a.getD 31 0) (a.getD 32 0) (a.getD 33 0) (a.getD 34 0) (a.getD 35 0) (a.getD 36 0) (a.getD 37 0) (a.getD 38 0) (a.getD 39 0) (a.getD 40 0) (a.getD 41 0) (a.getD 42 0) (a.getD 43 0) (a.getD 44 0) q3 q2 (a2.getD 0 0) (a2.getD 1 0) (a2.getD 2 0) (a2.getD 3 0) (a2.getD 4 0) (a2.getD 5 0) (a2.getD 6 0) (a2.getD 7 0) (a2.getD 8 0) (a2.getD 9 0) (a2.getD 10 0) (a2.getD 11 0) (a2.getD 12 0) (a2.getD 13 0) (a2.getD 14 0) (a2.getD 15 0) (a2.getD 16 0) (a2.getD 17 0) (a2.getD 18 0) hfl C hX hZ hB hL (L + 1) 0 _ _ 2 z64 (1, zSB, zSD, w, w, zRC, zRC) x2 (by omega) (by omega) (Nat.le_of_ble_eq_true rfl) (Nat.le_of_ble_eq_true rfl) (by omega) hg)
  have hl := lv_entry ([.ref b]) (n := 8) (Nat.le_of_ble_eq_true rfl)
  rw [lg_entry_eq]
  generalize (lg_sl ([.ref b]) ++ List.replicate (8 - (lg_sl ([.ref b])).length) Slot.unset).toArray = ls at hl ⊢
  have hl : lv_has ls 8 [(0, .ref b)] := hl
  exact main s.heap [] ls (fun k q h => (by cases h)) ⟨fun i j p q h => (by cases h), fun k q h => (by cases h)⟩ va_S.rf hl
