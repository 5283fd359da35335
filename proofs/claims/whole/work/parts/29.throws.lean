/-! PART 07: the words of the throws -/
theorem xl_X7_55 : Cond.classLink RX7 55 xIA ∈ gW := gWm 399 (by decide +kernel) rfl
theorem xg_X7_57 : ∀ w ∈ (vx_at0 RX7 57 xIA ["java/lang/RuntimeException", "java/lang/Exception"]).filter goodWord, w ∈ gW := by
  have h : ∀ w ∈ (vx_at0 RX7 57 xIA ["java/lang/RuntimeException", "java/lang/Exception"]).filter goodWord, w ∈ lw_tbl := by decide +kernel
  exact fun w hw => List.mem_filter.mpr ⟨h w hw, (List.mem_filter.mp hw).2⟩
theorem xb_X7_57 : ∀ w ∈ (vx_at0 RX7 57 xIA ["java/lang/RuntimeException", "java/lang/Exception"]).filter (fun w => !goodWord w), w ∈ Cond.castable xIA xIA :: xUp := by decide +kernel
theorem xo_X7_57 : ∀ w ∈ Cond.classLink RX7 55 xIA :: Cond.initialized xIA :: vx_at0 RX7 57 xIA ["java/lang/RuntimeException", "java/lang/Exception"], vx_ot w = true := by decide +kernel
theorem xl_X7_91 : Cond.classLink RX7 91 xNS ∈ gW := gWm 561 (by decide +kernel) rfl
theorem xg_X7_93 : ∀ w ∈ (vx_at0 RX7 93 xNS ["java/lang/RuntimeException", "java/lang/Exception"]).filter goodWord, w ∈ gW := by
  have h : ∀ w ∈ (vx_at0 RX7 93 xNS ["java/lang/RuntimeException", "java/lang/Exception"]).filter goodWord, w ∈ lw_tbl := by decide +kernel
  exact fun w hw => List.mem_filter.mpr ⟨h w hw, (List.mem_filter.mp hw).2⟩
theorem xb_X7_93 : ∀ w ∈ (vx_at0 RX7 93 xNS ["java/lang/RuntimeException", "java/lang/Exception"]).filter (fun w => !goodWord w), w ∈ Cond.castable xNS xNS :: xUp := by decide +kernel
theorem xo_X7_93 : ∀ w ∈ Cond.classLink RX7 91 xNS :: Cond.initialized xNS :: vx_at0 RX7 93 xNS ["java/lang/RuntimeException", "java/lang/Exception"], vx_ot w = true := by decide +kernel
theorem xl_X7_98 : Cond.classLink RX7 98 xIS ∈ gW := gWm 590 (by decide +kernel) rfl
theorem xg_X7_100 : ∀ w ∈ (vx_at0 RX7 100 xIS ["java/lang/RuntimeException", "java/lang/Exception"]).filter goodWord, w ∈ gW := by
  have h : ∀ w ∈ (vx_at0 RX7 100 xIS ["java/lang/RuntimeException", "java/lang/Exception"]).filter goodWord, w ∈ lw_tbl := by decide +kernel
  exact fun w hw => List.mem_filter.mpr ⟨h w hw, (List.mem_filter.mp hw).2⟩
theorem xb_X7_100 : ∀ w ∈ (vx_at0 RX7 100 xIS ["java/lang/RuntimeException", "java/lang/Exception"]).filter (fun w => !goodWord w), w ∈ Cond.castable xIS xIS :: xUp := by decide +kernel
theorem xo_X7_100 : ∀ w ∈ Cond.classLink RX7 98 xIS :: Cond.initialized xIS :: vx_at0 RX7 100 xIS ["java/lang/RuntimeException", "java/lang/Exception"], vx_ot w = true := by decide +kernel
theorem xl_X7_105 : Cond.classLink RX7 105 xUO ∈ gW := gWm 605 (by decide +kernel) rfl
theorem xg_X7_107 : ∀ w ∈ (vx_at0 RX7 107 xUO ["java/lang/RuntimeException", "java/lang/Exception"]).filter goodWord, w ∈ gW := by
  have h : ∀ w ∈ (vx_at0 RX7 107 xUO ["java/lang/RuntimeException", "java/lang/Exception"]).filter goodWord, w ∈ lw_tbl := by decide +kernel
  exact fun w hw => List.mem_filter.mpr ⟨h w hw, (List.mem_filter.mp hw).2⟩
theorem xb_X7_107 : ∀ w ∈ (vx_at0 RX7 107 xUO ["java/lang/RuntimeException", "java/lang/Exception"]).filter (fun w => !goodWord w), w ∈ Cond.castable xUO xUO :: xUp := by decide +kernel
theorem xo_X7_107 : ∀ w ∈ Cond.classLink RX7 105 xUO :: Cond.initialized xUO :: vx_at0 RX7 107 xUO ["java/lang/RuntimeException", "java/lang/Exception"], vx_ot w = true := by decide +kernel
theorem xn_xIA : Cond.initialized xIA ∈ gW := gWm 57 (by decide +kernel) rfl
theorem xn_xIS : Cond.initialized xIS ∈ gW := gWm 59 (by decide +kernel) rfl
theorem xn_xNS : Cond.initialized xNS ∈ gW := gWm 58 (by decide +kernel) rfl
theorem xn_xUO : Cond.initialized xUO ∈ gW := gWm 60 (by decide +kernel) rfl
