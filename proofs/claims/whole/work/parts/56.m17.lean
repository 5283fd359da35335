/-! PART 56: the reference's way -/
def wyOk (lev T : Nat → Option Nat) (bz sn s0 p : Nat) (W : Nat → Int32) (n : Nat) : Prop := ∀ i, i < n → ∃ s, wy T s0 p i = some s ∧ s < 4822 ∧ slv lev s = some (4 - i) ∧ aS lev bz sn s ∧ W i = ep s
theorem wy_s (T : Nat → Option Nat) (s0 p j : Nat) {s : Nat} (h : wy T s0 p j = some s) : wy T s0 p (j + 1) = match T s with
    | none => none
    | some k => some (8 * k + dg p (j + 1)) := by
  rw [wy, h]
  rfl
theorem m8_waysL {x : MS} {v bz sn s0 p : Nat} {lev T : Nat → Option Nat} {B : Nat → Nat} (hv : v < 2) (hr : rRel x v bz sn lev T B) (hs : bStr lev T) (hk6 : ∀ k, lev k ≠ none → k < 600) (hp : p < 512) (v2 : Int32) :
    ∀ (m j : Nat) (W : Nat → Int32), 1 ≤ j → j ≤ 4 → 4 - j < m → wyOk lev T bz sn s0 p W j →
      ∃ n W', FX8_ways_L12 (nI v) v2 (nI p) (fun xq17 w4_17 => some (w4_17, xq17)) m (MS_setway x W) (nI j) = some (nI n, MS_setway x W') ∧ 1 ≤ n ∧ n ≤ 4 ∧ wyOk lev T bz sn s0 p W' n ∧ (n < 4 → wy T s0 p n = none) := by
  intro m
  induction m with
  | zero => intro j W h1 h2 h3; omega
  | succ m ih =>
    intro j W h1 h2 h3 hW
    have e4 : (4 : Int32) = nI 4 := rfl
    rw [FX8_ways_L12]
    by_cases hj : j = 4
    · subst hj
      exact ⟨4, W, by rw [if_pos (by rw [e4]; exact nI_le (Nat.le_refl _) (by omega))], by omega, by omega, hW, fun z => by omega⟩
    · obtain ⟨i, hi⟩ : ∃ i, j = i + 1 := ⟨j - 1, by omega⟩
      subst hi
      rw [if_neg (by rw [e4]; exact nI_ge (by omega) (by omega)), nI_pred, m_ald _ (by omega) (by omega)]
      simp only [Option.bind_some]
      obtain ⟨s, w1, w2, w3, w4, w5⟩ := hW i (by omega)
      rw [show MS_way (MS_setway x W) i = ep s from w5, m8_told _ hv w2]
      simp only [Option.bind_some]
      have ht : rT (MS_setway x W) v s = eO (T s) := (hr.2 s w2 w4).1
      rw [ht]
      have hn := wy_s T s0 p i w1
      cases hT : T s with
      | none =>
        rw [hT] at hn
        rw [if_pos (show eO none = -1 from rfl)]
        exact ⟨i + 1, W, rfl, by omega, by omega, hW, fun _ => hn⟩
      | some k =>
        rw [hT] at hn
        obtain ⟨y, q1, q2⟩ := hs s k w2 hT
        rw [w3] at q2
        have := Option.some.inj q2
        have hy : y = 3 - i := by omega
        subst hy
        have hk := hk6 k (by rw [q1]; simp)
        have hd := dg_lt (j := i + 1) hp
        have hlo : 8 * k + dg p (i + 1) < 4800 := by omega
        have hdiv : (8 * k + dg p (i + 1)) / 8 = k := by omega
        rw [show eO (some k) = nI k from rfl, if_neg (nI_m1 (by omega)), m8_turn hp (by omega) (by omega)]
        simp only [Option.bind_some]
        rw [kml8, ← ep_lo hlo, m_ast _ _ (by omega) (by omega)]
        simp only [Option.bind_some]
        rw [nI_1]
        refine ih (i + 1 + 1) (upd W (i + 1) (ep (8 * k + dg p (i + 1)))) (by omega) (by omega) (by omega) ?_
        intro a ha
        by_cases hai : a = i + 1
        · subst hai
          refine ⟨8 * k + dg p (i + 1), hn, by omega, ?_, (aS_lo hlo).mpr ⟨2 - i, ?_⟩, upd_self⟩
          · unfold slv
            rw [if_pos hlo, hdiv, q1]
            congr 1
            omega
          · rw [hdiv, q1]
            congr 1
            omega
        · rw [upd_ne hai]
          exact hW a (by omega)
theorem wyOk_0 {x : MS} {bz sn s0 p : Nat} {lev T : Nat → Option Nat} (h0 : ¬ s0 < 4800) (h1 : s0 < 4822) (hlt : liveT bz sn (s0 % 4800)) : wyOk lev T bz sn s0 p (upd (MS_way x) 0 ((-1) - nI (s0 % 4800))) 1 := by
  intro i hi
  have hi0 : i = 0 := by omega
  subst hi0
  refine ⟨s0, by rw [wy], h1, ?_, (aS_hi h0).mpr hlt, ?_⟩
  · unfold slv
    rw [if_neg h0]
  · rw [upd_self, ep_hi (by omega)]
theorem m8_waysG {x : MS} {v bz sn s0 p n9 : Nat} {lev T : Nat → Option Nat} {B : Nat → Nat} (hv : v < 2) (hr : rRel x v bz sn lev T B) (hs : bStr lev T) (hk6 : ∀ k, lev k ≠ none → k < 600) (hp : p < 512) (h0 : ¬ s0 < 4800) (h1 : s0 < 4822) (hlt : liveT bz sn (s0 % 4800)) (h9 : 3 < n9) :
    ∃ n W', FX8_ways_L12 (nI v) (nI (s0 % 4800)) (nI p) (fun xq17 w4_17 => some (w4_17, xq17)) n9 (MS_setway x (upd (MS_way x) 0 ((-1) - nI (s0 % 4800)))) (nI 1) = some (nI n, MS_setway x W') ∧ 1 ≤ n ∧ n ≤ 4 ∧ wyOk lev T bz sn s0 p W' n ∧ (n < 4 → wy T s0 p n = none) :=
  m8_waysL hv hr hs hk6 hp _ n9 1 _ (Nat.le_refl 1) (by omega) (by omega) (wyOk_0 h0 h1 hlt)
theorem m8_ways {x : MS} {v bz sn s0 p : Nat} {lev T : Nat → Option Nat} {B : Nat → Nat} (hv : v < 2) (hr : rRel x v bz sn lev T B) (hs : bStr lev T) (hk6 : ∀ k, lev k ≠ none → k < 600) (hp : p < 512) (h0 : ¬ s0 < 4800) (h1 : s0 < 4822) (hlt : liveT bz sn (s0 % 4800)) :
    ∃ n W', FX8_ways x (nI v) (nI (s0 % 4800)) (nI p) = some (nI n, MS_setway x W') ∧ 1 ≤ n ∧ n ≤ 4 ∧ wyOk lev T bz sn s0 p W' n ∧ (n < 4 → wy T s0 p n = none) := by
  obtain ⟨n, W', h, r⟩ := m8_waysG (n9 := 100000) hv hr hs hk6 hp h0 h1 hlt (by decide)
  have ha := m_ast (n := 4) (i := 0) (MS_way x) ((-1) - nI (s0 % 4800)) (by decide) (by decide)
  rw [nI_0] at ha
  have e1 : nI 1 = 1 := rfl
  rw [e1] at h
  refine ⟨n, W', ?_, r⟩
  unfold FX8_ways
  rw [ha, Option.bind_some]
  exact h
