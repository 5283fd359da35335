/-! PART 57: how many new blocks the reference's way wants -/
theorem m8_wantN {x : MS} {n c : Nat} (v1 : Int32) (hc : c ≤ 4) (hn : n ≤ 4) : ∀ (r n9 i cnt : Nat), r < n9 → i + r = c → n ≤ i →
    FX8_wanted_L6 x v1 (nI n) (nI c) (fun w4_15 _ => some w4_15) n9 (nI cnt) (nI i) = some (nI (cnt + r)) := by
  intro r
  induction r with
  | zero =>
    intro n9 i cnt h1 h2 h3
    cases n9 with
    | zero => omega
    | succ n9 =>
      rw [FX8_wanted_L6, if_pos (nI_le (by omega) (by omega))]
      rfl
  | succ r ih =>
    intro n9 i cnt h1 h2 h3
    cases n9 with
    | zero => omega
    | succ n9 =>
      rw [FX8_wanted_L6, if_neg (nI_ge (by omega) (by omega)), if_pos (nI_le h3 (by omega)), nI_1, nI_1, ih n9 (i + 1) (cnt + 1) (by omega) (by omega) (by omega)]
      congr 2
      omega
