/-! PART 45: the reference's POINTERS by slots -/
theorem sub3 (a b : Int32) : (a - 1) - ((-1) - b) = a + b := by
  rw [Int32.sub_eq_add_neg (a - 1), Int32.neg_sub, Int32.sub_eq_add_neg a, Int32.sub_eq_add_neg b, Int32.neg_neg, Int32.add_assoc, Int32.add_comm b 1, ← Int32.add_assoc (-1) 1 b, Int32.add_left_neg, Int32.zero_add]
/-- the reference's name of a slot: a TREE's is negative -/
def ep (s : Nat) : Int32 := if s < 4800 then nI s else (-1) - nI (s % 4800)
theorem ep_lo {s : Nat} (h : s < 4800) : ep s = nI s := by unfold ep; rw [if_pos h]
theorem ep_hi {s : Nat} (h : 4800 ≤ s) : ep s = (-1) - nI (s % 4800) := by unfold ep; rw [if_neg (by omega)]
theorem ep_neg {s : Nat} (h : 4800 ≤ s) (h2 : s < 4822) : ¬ 0 ≤ ep s := by
  rw [ep_hi h]
  intro e
  have e1 := Int32.le_iff_toInt_le.mp e
  have e2 : ((-1 : Int32) - nI (s % 4800)).toInt = -1 - ((s % 4800 : Nat) : Int) := by
    rw [Int32.toInt_sub, nI_toInt (by omega), show (-1 : Int32).toInt = -1 by decide]
    simp only [Int.bmod]
    omega
  rw [e2] at e1
  have e3 : (0 : Int32).toInt = 0 := by decide
  omega
def rT (x : MS) (v s : Nat) : Int32 := if s < 4800 then MS_tel x (4800 * v + s) else MS_tt x (22 * v + (s % 4800))
def rB (x : MS) (v s : Nat) : Int32 := if s < 4800 then MS_bir x (4800 * v + s) else MS_tb x (22 * v + (s % 4800))
theorem mix (a v s : Nat) (c : Int32) (hc : c = nI a) : c * nI v + nI s = nI (a * v + s) := by rw [hc, nI_mul, nI_add]
theorem mixh (v s : Nat) (hs : 4800 ≤ s) : ((22 * nI v) - 1) - ep s = nI (22 * v + (s % 4800)) := by rw [ep_hi hs, sub3, mix 22 v _ 22 rfl]
theorem m8_told (x : MS) {v s : Nat} (hv : v < 2) (hs : s < 4822) : FX8_told x (nI v) (ep s) = some (rT x v s) := by
  unfold FX8_told rT
  by_cases h : s < 4800
  · rw [ep_lo h, if_pos (nI_pos' (by omega)), if_pos h, mix 4800 v s 4800 rfl, m_ald _ (by omega) (by omega)]
    rfl
  · rw [if_neg (ep_neg (by omega) hs), if_neg h, mixh v s (by omega), m_ald _ (by omega) (by omega)]
    rfl
theorem m8_born (x : MS) {v s : Nat} (hv : v < 2) (hs : s < 4822) : FX8_born x (nI v) (ep s) = some (rB x v s) := by
  unfold FX8_born rB
  by_cases h : s < 4800
  · rw [ep_lo h, if_pos (nI_pos' (by omega)), if_pos h, mix 4800 v s 4800 rfl, m_ald _ (by omega) (by omega)]
    rfl
  · rw [if_neg (ep_neg (by omega) hs), if_neg h, mixh v s (by omega), m_ald _ (by omega) (by omega)]
    rfl
def rPt (x : MS) (v s : Nat) (b w : Int32) : MS := if s < 4800 then MS_setbir (MS_settel x (upd (MS_tel x) (4800 * v + s) b)) (upd (MS_bir x) (4800 * v + s) w) else MS_settb (MS_settt x (upd (MS_tt x) (22 * v + (s % 4800)) b)) (upd (MS_tb x) (22 * v + (s % 4800)) w)
theorem m8_point (x : MS) {v s : Nat} (hv : v < 2) (hs : s < 4822) (b w : Int32) : FX8_point x (nI v) (ep s) b w = some (rPt x v s b w) := by
  unfold FX8_point rPt
  by_cases h : s < 4800
  · rw [ep_lo h, if_pos (nI_pos' (by omega)), if_pos h, mix 4800 v s 4800 rfl, m_ast _ _ (by omega) (by omega)]
    simp only [Option.bind_some]
    rw [m_ast _ _ (by omega) (by omega)]
    rfl
  · have hj : 22 * v + (s % 4800) < 44 := by omega
    rw [if_neg (ep_neg (by omega) hs), if_neg h, mixh v s (by omega)]
    generalize 22 * v + (s % 4800) = j at hj ⊢
    rw [m_ast _ _ hj (by omega)]
    simp only [Option.bind_some]
    rw [m_ast _ _ hj (by omega)]
    rfl
theorem rPt_T {x : MS} {v s : Nat} {b w : Int32} (hv : v < 2) (hs : s < 4822) (i : Nat) (hi : i < 4822) : rT (rPt x v s b w) v i = if i = s then b else rT x v i := by
  unfold rT rPt
  by_cases h : s < 4800
  · rw [if_pos h]
    by_cases h2 : i < 4800
    · rw [if_pos h2, if_pos h2]
      show upd (MS_tel x) (4800 * v + s) b (4800 * v + i) = _
      by_cases e : i = s
      · subst e; rw [upd_self, if_pos rfl]
      · rw [upd_ne (by omega), if_neg e]
    · rw [if_neg h2, if_neg h2, if_neg (by omega)]
  · rw [if_neg h]
    by_cases h2 : i < 4800
    · rw [if_pos h2, if_pos h2, if_neg (by omega)]
    · rw [if_neg h2, if_neg h2]
      have hji : 22 * v + (i % 4800) = 22 * v + (s % 4800) ↔ i = s := by omega
      generalize 22 * v + (i % 4800) = k at hji ⊢
      generalize 22 * v + (s % 4800) = j at hji ⊢
      show upd (MS_tt x) j b k = _
      by_cases e : i = s
      · rw [if_pos e, hji.mpr e, upd_self]
      · rw [if_neg e, upd_ne (fun z => e (hji.mp z))]
theorem rPt_B {x : MS} {v s : Nat} {b w : Int32} (hv : v < 2) (hs : s < 4822) (i : Nat) (hi : i < 4822) : rB (rPt x v s b w) v i = if i = s then w else rB x v i := by
  unfold rB rPt
  by_cases h : s < 4800
  · rw [if_pos h]
    by_cases h2 : i < 4800
    · rw [if_pos h2, if_pos h2]
      show upd (MS_bir x) (4800 * v + s) w (4800 * v + i) = _
      by_cases e : i = s
      · subst e; rw [upd_self, if_pos rfl]
      · rw [upd_ne (by omega), if_neg e]
    · rw [if_neg h2, if_neg h2, if_neg (by omega)]
  · rw [if_neg h]
    by_cases h2 : i < 4800
    · rw [if_pos h2, if_pos h2, if_neg (by omega)]
    · rw [if_neg h2, if_neg h2]
      have hji : 22 * v + (i % 4800) = 22 * v + (s % 4800) ↔ i = s := by omega
      generalize 22 * v + (i % 4800) = k at hji ⊢
      generalize 22 * v + (s % 4800) = j at hji ⊢
      show upd (MS_tb x) j w k = _
      by_cases e : i = s
      · rw [if_pos e, hji.mpr e, upd_self]
      · rw [if_neg e, upd_ne (fun z => e (hji.mp z))]
