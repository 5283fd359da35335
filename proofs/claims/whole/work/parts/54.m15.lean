/-! PART 54: how many new blocks a way wants -/
def wc (T : Nat → Option Nat) (B : Nat → Nat) (g p : Nat) : Nat → Nat → Option Nat → Nat → Nat
  | 0, _, _, _ => 0
  | m + 1, j, t, w => (if t = none ∨ w ≠ g then 1 else 0) + (match t with
    | none => m
    | some ob => wc T B g p m (j + 1) (T (8 * ob + dg p (j + 1))) (B (8 * ob + dg p (j + 1))))
theorem wc_s (T : Nat → Option Nat) (B : Nat → Nat) (g p m j : Nat) (t : Option Nat) (w : Nat) : wc T B g p (m + 1) j t w = (if t = none ∨ w ≠ g then 1 else 0) + (match t with
    | none => m
    | some ob => wc T B g p m (j + 1) (T (8 * ob + dg p (j + 1))) (B (8 * ob + dg p (j + 1)))) := rfl
theorem nI_dn (n : Nat) : nI (n + 1) + (-1) = nI n := by
  have h := nI_pred n
  rw [Int32.sub_eq_add_neg] at h
  exact h
theorem m_slotInE {b : BS} {k : Nat} (p : Int32) (hk : k < 600) : ∃ r, FX0_slotIn b (nI k) p = some r := by
  unfold FX0_slotIn
  rw [m_at _ hk (by omega)]
  simp only [Option.bind_some]
  by_cases h : 1 ≤ BS_lev b k
  · rw [if_pos h]; exact ⟨_, rfl⟩
  · rw [if_neg h]; exact ⟨_, rfl⟩
theorem lo_stop {lo : Nat} (h : lo < 2) : nI lo + (-1) < nI lo := by
  rcases (show lo = 0 ∨ lo = 1 by omega) with rfl | rfl <;> decide
theorem cls_wcN {v0 : VS} {lo : Nat} (hlo : lo < 2) (v1 v2 : Int32) : ∀ (m n9 cnt : Nat), m < n9 → lo + m ≤ 4 →
    FX6_newBlocksWanted_L9 v0 v1 v2 (nI lo) (fun w4_13 _ _ => some w4_13) n9 (nI cnt) (-1) (nI (lo + m) + (-1)) = some (nI (cnt + m)) := by
  intro m
  induction m with
  | zero =>
    intro n9 cnt h1 h2
    cases n9 with
    | zero => omega
    | succ n9 =>
      rw [FX6_newBlocksWanted_L9, if_pos (by exact lo_stop hlo)]
      rfl
  | succ m ih =>
    intro n9 cnt h1 h2
    cases n9 with
    | zero => omega
    | succ n9 =>
      have hw : FX0_wantsNewBlock (VS_b v0) (-1) (VS_gen v0) = some 1 := by
        unfold FX0_wantsNewBlock
        rw [m_atN]
        rfl
      have ht : FX0_told (VS_b v0) (-1) = some (-1) := by
        unfold FX0_told
        rw [m_atN]
        rfl
      rw [show lo + (m + 1) = (lo + m) + 1 from rfl, nI_dn, FX6_newBlocksWanted_L9, if_neg (nI_nlt (by omega) (by omega)), hw]
      simp only [Option.bind_some]
      rw [if_neg (by decide), ht]
      simp only [Option.bind_some]
      rw [m_slotInN]
      simp only [Option.bind_some]
      rw [nI_1, ih n9 (cnt + 1) (by omega) (by omega)]
      congr 2
      omega
theorem cls_wc {v0 : VS} {N g lo p : Nat} {lev T : Nat → Option Nat} {B : Nat → Nat} (h : bRel N (VS_b v0) lev T B none) (hs : bStr lev T) (hg : VS_gen v0 = nI g) (hg2 : g < 2 ^ 31) (hB : ∀ s, s < 4822 → B s < 2 ^ 31) (hlo : lo < 2) (hp : p < 512) (v1 : Int32) :
    ∀ (m n9 cnt j s : Nat), m < n9 → j + lo + m = 4 → s < 4822 → slv lev s = some (4 - j) →
    FX6_newBlocksWanted_L9 v0 v1 (nI p) (nI lo) (fun w4_13 _ _ => some w4_13) n9 (nI cnt) (nI s) (nI (lo + m) + (-1)) = some (nI (cnt + wc T B g p m j (T s) (B s))) := by
  intro m
  induction m with
  | zero =>
    intro n9 cnt j s h1 h2 h3 h4
    cases n9 with
    | zero => omega
    | succ n9 =>
      rw [FX6_newBlocksWanted_L9, if_pos (by exact lo_stop hlo)]
      rfl
  | succ m ih =>
    intro n9 cnt j s h1 h2 h3 h4
    cases n9 with
    | zero => omega
    | succ n9 =>
      have hN2 : N ≤ 600 := h.2.1
      have hT6 : ∀ k, T s = some k → k < 600 ∧ lev k = some (3 - j) := fun k e => by
        obtain ⟨y, q1, q2⟩ := hs s k h3 e
        rw [h4] at q2
        have := Option.some.inj q2
        have hy : y = 3 - j := by omega
        rw [hy] at q1
        have := (h.2.2.2.1 k _ q1).1
        exact ⟨by omega, q1⟩
      have hw := m_wants h3 (h.2.2.2.2.1 s h3) (h.2.2.2.2.2.2.1 s h3) (fun k e => (hT6 k e).1) (hB s h3) hg2
      have ht : FX0_told (VS_b v0) (nI s) = some (eO (T s)) := by
        unfold FX0_told
        rw [m_at _ h3 (by omega), h.2.2.2.2.1 s h3]
        rfl
      have next : ∀ (c2 : Nat), (FX0_slotIn (VS_b v0) (eO (T s)) (nI p)).bind (fun r => FX6_newBlocksWanted_L9 v0 v1 (nI p) (nI lo) (fun w4_13 _ _ => some w4_13) n9 (nI c2) r (nI (lo + m) + (-1))) =
          some (nI (c2 + (match T s with
            | none => m
            | some ob => wc T B g p m (j + 1) (T (8 * ob + dg p (j + 1))) (B (8 * ob + dg p (j + 1)))))) := by
        intro c2
        cases e : T s with
        | none =>
          rw [show eO none = -1 from rfl, m_slotInN]
          exact cls_wcN hlo v1 (nI p) m n9 c2 (by omega) (by omega)
        | some ob =>
          obtain ⟨o1, o2⟩ := hT6 ob e
          have e2 : eO (some ob) = nI ob := rfl
          rw [e2]
          by_cases hm : m = 0
          · subst hm
            obtain ⟨r, hr⟩ := m_slotInE (b := VS_b v0) (nI p) o1
            rw [hr]
            cases n9 with
            | zero => omega
            | succ n9 =>
              rw [Option.bind_some, FX6_newBlocksWanted_L9, if_pos (by exact lo_stop hlo)]
              rfl
          · rw [m_slotIn (j := j + 1) o1 hp (by omega) (by omega) (by rw [h.2.2.1 ob o1, o2, show 4 - (j + 1) = 3 - j by omega]; rfl)]
            have hd := dg_lt (j := j + 1) hp
            exact ih n9 c2 (j + 1) (8 * ob + dg p (j + 1)) (by omega) (by omega) (by omega) (by
              unfold slv
              rw [if_pos (by omega), show (8 * ob + dg p (j + 1)) / 8 = ob by omega, o2]
              congr 1
              omega)
      rw [show lo + (m + 1) = (lo + m) + 1 from rfl, nI_dn, FX6_newBlocksWanted_L9, if_neg (nI_nlt (by omega) (by omega)), hg, hw]
      simp only [Option.bind_some]
      rw [ht]
      simp only [Option.bind_some]
      rw [wc_s]
      by_cases hx : T s = none ∨ B s ≠ g
      · rw [if_pos hx, if_pos hx, if_neg (by decide), nI_1, next (cnt + 1)]
        congr 2
        omega
      · rw [if_neg hx, if_neg hx, if_pos rfl, next cnt]
        congr 2
        omega
