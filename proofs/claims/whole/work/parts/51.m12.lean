/-! PART 51: the way to a PLACE -/
/-- the digit of the PLACE that leads on to the j-th step -/
def dg (p j : Nat) : Nat := if j = 1 then p / 64 else if j = 2 then p / 8 % 8 else p % 8
theorem dg_lt {p j : Nat} (hp : p < 512) : dg p j < 8 := by
  unfold dg
  split
  · omega
  · split <;> omega
theorem tv1 : ∀ p : Fin 512, FX8_turn (nI p.val) 1 = some (nI (dg p.val 1)) := by decide +kernel
theorem tv2 : ∀ p : Fin 512, FX8_turn (nI p.val) 2 = some (nI (dg p.val 2)) := by decide +kernel
theorem tv3 : ∀ p : Fin 512, FX8_turn (nI p.val) 3 = some (nI (dg p.val 3)) := by decide +kernel
theorem sh1 : ∀ p : Fin 512, (nI p.val >>> ((3 * ((3 : Int32) - 1)) &&& 31)) &&& 7 = nI (dg p.val 1) := by decide +kernel
theorem sh2 : ∀ p : Fin 512, (nI p.val >>> ((3 * ((2 : Int32) - 1)) &&& 31)) &&& 7 = nI (dg p.val 2) := by decide +kernel
theorem sh3 : ∀ p : Fin 512, (nI p.val >>> ((3 * ((1 : Int32) - 1)) &&& 31)) &&& 7 = nI (dg p.val 3) := by decide +kernel
theorem m8_turn {p j : Nat} (hp : p < 512) (h1 : 1 ≤ j) (h3 : j ≤ 3) : FX8_turn (nI p) (nI j) = some (nI (dg p j)) := by
  rcases (show j = 1 ∨ j = 2 ∨ j = 3 by omega) with rfl | rfl | rfl
  · exact tv1 ⟨p, hp⟩
  · exact tv2 ⟨p, hp⟩
  · exact tv3 ⟨p, hp⟩
theorem m_slotIn {b : BS} {k p j : Nat} (hk : k < 600) (hp : p < 512) (h1 : 1 ≤ j) (h3 : j ≤ 3) (hl : BS_lev b k = nI (4 - j)) : FX0_slotIn b (nI k) (nI p) = some (nI (8 * k + dg p j)) := by
  unfold FX0_slotIn
  rw [m_at _ hk (by omega)]
  simp only [Option.bind_some]
  rw [hl, show (1 : Int32) = nI 1 from rfl, if_pos (nI_le (by omega) (by omega))]
  have e : (nI p >>> ((3 * (nI (4 - j) - nI 1)) &&& 31)) &&& 7 = nI (dg p j) := by
    rcases (show j = 1 ∨ j = 2 ∨ j = 3 by omega) with rfl | rfl | rfl
    · exact sh1 ⟨p, hp⟩
    · exact sh2 ⟨p, hp⟩
    · exact sh3 ⟨p, hp⟩
  rw [e, nI8]
theorem m_slotInN {b : BS} (p : Int32) : FX0_slotIn b (-1) p = some (-1) := by
  unfold FX0_slotIn
  rw [m_atN]
  rfl
/-- the slot of the way's j-th step (0: the TREE), none below a HOLE -/
def wy (T : Nat → Option Nat) (s0 p : Nat) : Nat → Option Nat
  | 0 => some s0
  | j + 1 => match wy T s0 p j with
    | none => none
    | some s => match T s with
      | none => none
      | some k => some (8 * k + dg p (j + 1))
