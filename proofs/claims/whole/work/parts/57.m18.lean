/-! PART 57: how many new blocks the reference's way wants -/
theorem m8_wantN {x : MS} {n c : Nat} (v1 : Int32) (hc : c ≤ 4) (hn : n ≤ 4) : ∀ (r n9 i cnt : Nat), r < n9 → i + r = c → n ≤ i →
    FX8_wanted_L6 x v1 (nI n) (nI c) (fun w4_15 _ => some w4_15) n9 (nI cnt) (nI i) = some (nI (cnt + r)) := by
  intro r
  induction r with
  | zero =>
    intro n9 i cnt h1 h2 h3
    cases n9 with
    | zero => omega
    | succ n9 =>
      rw [FX8_wanted_L6, if_pos (nI_le (by omega) (by omega))]
      rfl
  | succ r ih =>
    intro n9 i cnt h1 h2 h3
    cases n9 with
    | zero => omega
    | succ n9 =>
      rw [FX8_wanted_L6, if_neg (nI_ge (by omega) (by omega)), if_pos (nI_le h3 (by omega)), nI_1, nI_1, ih n9 (i + 1) (cnt + 1) (by omega) (by omega) (by omega)]
      congr 2
      omega
theorem m8_want {x : MS} {v bz sn s0 p g n c : Nat} {lev T : Nat → Option Nat} {B : Nat → Nat} (hv : v < 2) (hr : rRel x v bz sn lev T B) (hs : bStr lev T) (hk6 : ∀ k, lev k ≠ none → k < 600) (hB : ∀ s, s < 4822 → B s < 2 ^ 31) (hg : MS_gen x v = nI g) (hg2 : g < 2 ^ 31) (hc : c ≤ 4) (hn : n ≤ 4)
    (hW : wyOk lev T bz sn s0 p (MS_way x) n) (hN : n < 4 → wy T s0 p n = none) : ∀ (r n9 i cnt s : Nat), r < n9 → i + r = c → i < n → wy T s0 p i = some s →
    FX8_wanted_L6 x (nI v) (nI n) (nI c) (fun w4_15 _ => some w4_15) n9 (nI cnt) (nI i) = some (nI (cnt + wc T B g p r i (T s) (B s))) := by
  intro r
  induction r with
  | zero =>
    intro n9 i cnt s h1 h2 h3 h4
    cases n9 with
    | zero => omega
    | succ n9 =>
      rw [FX8_wanted_L6, if_pos (nI_le (by omega) (by omega))]
      rfl
  | succ r ih =>
    intro n9 i cnt s h1 h2 h3 h4
    cases n9 with
    | zero => omega
    | succ n9 =>
      obtain ⟨s', w1, w2, w3, w4, w5⟩ := hW i h3
      rw [h4] at w1
      cases w1
      obtain ⟨q1, q2⟩ := hr.2 s w2 w4
      have hn1 := wy_s T s0 p i h4
      rw [FX8_wanted_L6, if_neg (nI_ge (by omega) (by omega)), if_neg (nI_ge h3 (by omega)), m_ald _ (by omega) (by omega)]
      simp only [Option.bind_some]
      rw [w5, m8_told _ hv w2]
      simp only [Option.bind_some]
      rw [q1, wc_s]
      cases hT : T s with
      | none =>
        rw [hT] at hn1
        have hni : n = i + 1 := by
          rcases Nat.lt_or_ge (i + 1) n with z | z
          · obtain ⟨s2, u1, -⟩ := hW (i + 1) z
            rw [hn1] at u1
            cases u1
          · omega
        rw [if_pos (show eO none = -1 from rfl), if_pos (Or.inl rfl), nI_1, nI_1, m8_wantN (nI v) hc hn r n9 (i + 1) (cnt + 1) (by omega) (by omega) (by omega)]
        congr 2
        simp only
        omega
      | some k =>
        rw [hT] at hn1
        obtain ⟨y, t1, t2⟩ := hs s k w2 hT
        have hk := hk6 k (by rw [t1]; simp)
        rw [show eO (some k) = nI k from rfl, if_neg (nI_m1 (by omega)), m_ald _ (by omega) (by omega)]
        simp only [Option.bind_some]
        rw [m8_born _ hv w2]
        simp only [Option.bind_some]
        rw [q2, hg]
        have next : ∀ c2, FX8_wanted_L6 x (nI v) (nI n) (nI c) (fun w4_15 _ => some w4_15) n9 (nI c2) (nI (i + 1)) = some (nI (c2 + wc T B g p r (i + 1) (T (8 * k + dg p (i + 1))) (B (8 * k + dg p (i + 1))))) := by
          intro c2
          by_cases hz : i + 1 < n
          · exact ih n9 (i + 1) c2 _ (by omega) (by omega) hz hn1
          · by_cases hr0 : r = 0
            · subst hr0
              cases n9 with
              | zero => omega
              | succ n9 =>
                rw [FX8_wanted_L6, if_pos (nI_le (by omega) (by omega))]
                rfl
            · have hni : n = i + 1 := by omega
              have := hN (by omega)
              rw [hni, hn1] at this
              cases this
        by_cases hb : B s = g
        · rw [if_pos (by rw [hb]), if_neg (by simp [hb]), nI_1, Int32.add_zero, next cnt]
          congr 2
          omega
        · rw [if_neg (fun z => hb ((nI_eq (hB s w2) hg2).mp z)), if_pos (Or.inr hb), nI_1, nI_1, next (cnt + 1)]
          congr 2
          omega
