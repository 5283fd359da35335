/-! PART 55: the reference counts its free blocks; its way -/
theorem m8_freeL {x : MS} {v N : Nat} {lev : Nat → Option Nat} (hv : v < 2) (hN : MS_many x v = nI N) (hN2 : N ≤ 600) (hf : rFree x v N lev) : ∀ (m j : Nat), j ≤ N → N - j < m →
    FX8_freeMany_L4 x (nI v) (fun w2_7 _ => some w2_7) m (nI (frN j lev)) (nI j) = some (nI (frN N lev)) := by
  intro m
  induction m with
  | zero => intro j h1 h2; omega
  | succ m ih =>
    intro j h1 h2
    rw [FX8_freeMany_L4, m_ald _ hv (by omega)]
    simp only [Option.bind_some]
    rw [hN]
    by_cases hj : j = N
    · subst hj
      rw [if_pos (nI_le (Nat.le_refl _) (by omega))]
    · rw [if_neg (nI_ge (by omega) (by omega)), mix 600 v j 600 rfl, m_ald _ (by omega) (by omega)]
      simp only [Option.bind_some]
      rw [hf j (by omega)]
      have hs : frN (j + 1) lev = frN j lev + (if lev j = none then 1 else 0) := rfl
      have h := ih (j + 1) (by omega) (by omega)
      rw [hs] at h
      by_cases hl : lev j = none
      · rw [if_pos hl] at h
        rw [if_pos hl, if_neg (by decide), nI_1, nI_1]
        exact h
      · rw [if_neg hl] at h
        rw [if_neg hl, if_pos rfl, nI_1, Int32.add_zero]
        exact h
theorem m8_freeMany {x : MS} {v N : Nat} {lev : Nat → Option Nat} (hv : v < 2) (hN : MS_many x v = nI N) (hN2 : N ≤ 600) (hf : rFree x v N lev) : FX8_freeMany x (nI v) = some (nI (frN N lev)) := by
  unfold FX8_freeMany
  have h := m8_freeL hv hN hN2 hf 100000 0 (by omega) (by omega)
  have h0 : nI (frN 0 lev) = 0 := rfl
  rw [h0, nI_0] at h
  exact h
