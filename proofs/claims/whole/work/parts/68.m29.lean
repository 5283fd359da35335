/-! PART 68: THE STREAM's bytes -/
theorem nar_byte (x : Int32) : vp_nar .byte x = x.toInt8.toInt32 := rfl
theorem b_sh0 (n : Int64) (c : Nat) (hc : c < 57) (u : UInt64) (i : Int64) (hu : (u.toBitVec % 64).toNat = c) (hi : (i.toBitVec.smod 64).toNat = c) : ((n.toUInt64 >>> u).toInt64.toInt32).toInt8 = ((n >>> i).toInt32).toInt8 := by
  apply Int8.toBitVec_inj.mp
  apply BitVec.eq_of_getLsbD_eq
  intro j hj
  simp only [Int32.toBitVec_toInt8, Int64.toBitVec_toInt32, UInt64.toBitVec_toInt64, UInt64.toBitVec_shiftRight, Int64.toBitVec_toUInt64, Int64.toBitVec_shiftRight, BitVec.getLsbD_signExtend, BitVec.ushiftRight_eq', BitVec.getLsbD_ushiftRight, BitVec.sshiftRight_eq', BitVec.getLsbD_sshiftRight, hu, hi]
  rw [if_pos (show j < 32 by omega), if_pos (show j < 64 by omega), if_pos (show j < 32 by omega), if_pos (show j < 64 by omega), if_pos (show c + j < 64 by omega)]
  have : decide (64 ≤ j) = false := by simp; omega
  rw [this, Bool.not_false, Bool.true_and]
theorem b_sh (n : Int64) : ∀ k, k < 8 → ((((n.toUInt64 >>> (((8 * nI k) : Int32).toInt64.toUInt64 &&& Int64.toUInt64 63)).toInt64) : Int64).toInt32).toInt8 = ((((n >>> (((8 * nI k) : Int32).toInt64 &&& 63)) : Int64).toInt32) : Int32).toInt8 := by
  intro k hk
  have hc : k = 0 ∨ k = 1 ∨ k = 2 ∨ k = 3 ∨ k = 4 ∨ k = 5 ∨ k = 6 ∨ k = 7 := by omega
  rcases hc with rfl | rfl | rfl | rfl | rfl | rfl | rfl | rfl
  · exact b_sh0 n 0 (by omega) _ _ (by decide) (by decide)
  · exact b_sh0 n 8 (by omega) _ _ (by decide) (by decide)
  · exact b_sh0 n 16 (by omega) _ _ (by decide) (by decide)
  · exact b_sh0 n 24 (by omega) _ _ (by decide) (by decide)
  · exact b_sh0 n 32 (by omega) _ _ (by decide) (by decide)
  · exact b_sh0 n 40 (by omega) _ _ (by decide) (by decide)
  · exact b_sh0 n 48 (by omega) _ _ (by decide) (by decide)
  · exact b_sh0 n 56 (by omega) _ _ (by decide) (by decide)
theorem b_idem (x : Int32) : (x.toInt8.toInt32).toInt8 = x.toInt8 := by simp
/-- a byte -/
def bOk (c : Int32) : Prop := c.toInt8.toInt32 = c
theorem bOk_mk (x : Int32) : bOk x.toInt8.toInt32 := by unfold bOk; rw [b_idem]
theorem b_255f : ∀ b : Fin 256, ∀ r : Fin 5, ((Int8.ofNat b.val).toInt32 &&& 255 = nI r.val ↔ (Int8.ofNat b.val).toInt32 = nI r.val) := by decide +kernel
theorem i8_nat (x : Int8) : ∃ b : Fin 256, x = Int8.ofNat b.val := by
  refine ⟨⟨x.toBitVec.toNat, x.toBitVec.isLt⟩, ?_⟩
  apply Int8.toBitVec_inj.mp
  simp
theorem b_255 {c : Int32} (h : bOk c) {r : Nat} (hr : r < 5) : (c &&& 255 = nI r) ↔ c = nI r := by
  obtain ⟨b, hb⟩ := i8_nat c.toInt8
  have h' : c = (Int8.ofNat b.val).toInt32 := by rw [← hb]; exact h.symm
  rw [h']
  exact b_255f b ⟨r, hr⟩
/-- both hold the same STREAM of L bytes -/
def strR (sb : SB) (x : MS) (L : Nat) : Prop := SB_len sb = nI L ∧ MS_len x = nI L ∧ L ≤ 9766 ∧ ∀ i, i < 9766 → SB_cells sb i = MS_str x i ∧ bOk (MS_str x i)
theorem i9766 : Int32.ofNat 9766 = nI 9766 := rfl
theorem at_in {sb : SB} {x : MS} {L i : Nat} (h : strR sb x L) (hi : i < L) : FX5_at sb (nI i) = some (MS_str x i &&& 255) := by
  obtain ⟨h1, h2, h3, h4⟩ := h
  unfold FX5_at
  rw [if_neg (nlt_0 (by omega)), h1, if_neg (nI_ge hi (by omega)), i9766, if_neg (nI_ge (by omega) (by omega)), m_ald _ (by omega) (by omega), Option.bind_some, (h4 i (by omega)).1]
theorem at_out {sb : SB} {x : MS} {L i : Nat} (h : strR sb x L) (hi : L ≤ i) (hi2 : i < 2 ^ 31) : FX5_at sb (nI i) = some (-1) := by
  obtain ⟨h1, h2, h3, h4⟩ := h
  unfold FX5_at
  rw [if_neg (nlt_0 hi2), h1, if_pos (nI_le hi hi2)]
theorem sum_L {sb : SB} {x : MS} {L e : Nat} (h : strR sb x L) (he : e ≤ L) (v1 v1' : Int32) (k9 : Int32 → Int32 → Int32 → Option Int64) : ∀ (m n9 m9 i : Nat) (a b : Int32), i + m = e → m < n9 → m < m9 →
    ∃ a' b', FX5_sumOf_L8 sb v1 (nI e) k9 n9 a b (nI i) = k9 a' b' (nI e) ∧ FX8_sumOf_L8 x v1' (nI e) k9 m9 a b (nI i) = k9 a' b' (nI e) := by
  have h3 := h.2.2.1
  intro m
  induction m with
  | zero =>
    intro n9 m9 i a b h1 h2 h2'
    cases n9 with
    | zero => omega
    | succ n9 =>
      cases m9 with
      | zero => omega
      | succ m9 =>
        have hi : i = e := by omega
        subst hi
        refine ⟨a, b, ?_, ?_⟩
        · rw [FX5_sumOf_L8, if_pos (nI_le (Nat.le_refl _) (by omega))]
        · rw [FX8_sumOf_L8, if_pos (nI_le (Nat.le_refl _) (by omega))]
  | succ m ih =>
    intro n9 m9 i a b h1 h2 h2'
    cases n9 with
    | zero => omega
    | succ n9 =>
      cases m9 with
      | zero => omega
      | succ m9 =>
        obtain ⟨a', b', q1, q2⟩ := ih n9 m9 (i + 1) (a + (MS_str x i &&& 255)) (b + (a + (MS_str x i &&& 255))) (by omega) (by omega) (by omega)
        refine ⟨a', b', ?_, ?_⟩
        · rw [FX5_sumOf_L8, if_neg (nI_ge (by omega) (by omega)), at_in h (by omega), Option.bind_some, nI_1]
          exact q1
        · rw [FX8_sumOf_L8, if_neg (nI_ge (by omega) (by omega)), m_ald _ (by omega) (by omega), Option.bind_some, nI_1]
          exact q2
theorem both_sum {sb : SB} {x : MS} {L s e : Nat} (h : strR sb x L) (hs : s ≤ e) (he : e ≤ L) : ∃ z, FX5_sumOf sb (nI s) (nI e) = some z ∧ FX8_sumOf x (nI s) (nI e) = some z := by
  have h3 := h.2.2.1
  obtain ⟨a, b, q1, q2⟩ := sum_L h he (nI s) (nI s) (fun w3_4 w4_4 w5_4 =>
    some ((((w4_4 : Int32).toInt64) <<< ((32 : Int32).toInt64 &&& 63)) ||| (((w3_4 : Int32).toInt64) &&& 4294967295))) (e - s) 100000 100000 s 1 0 (by omega) (by omega) (by omega)
  exact ⟨_, q1, q2⟩
theorem num_L {sb : SB} {x : MS} {L s sz : Nat} (h : strR sb x L) (he : s + sz ≤ L) (k9 : Int64 → Int32 → Option Int64) (P : Nat → Int64 → Prop) (hP : ∀ i z c, P i z → P (i + 1) ((z <<< ((8 : Int32).toInt64 &&& 63)) ||| ((((c &&& 255) &&& 255) : Int32).toInt64))) : ∀ (m n9 m9 i : Nat) (a : Int64), i + m = sz → m < n9 → m < m9 → P i a →
    ∃ a', FX5_numberAt_L5 sb (nI s) (nI sz) k9 n9 a (nI i) = k9 a' (nI sz) ∧ FX8_number_L5 x (nI s) (nI sz) k9 m9 a (nI i) = k9 a' (nI sz) ∧ P sz a' := by
  have h3 := h.2.2.1
  intro m
  induction m with
  | zero =>
    intro n9 m9 i a h1 h2 h2' hp
    cases n9 with
    | zero => omega
    | succ n9 =>
      cases m9 with
      | zero => omega
      | succ m9 =>
        have hi : i = sz := by omega
        subst hi
        refine ⟨a, ?_, ?_, hp⟩
        · rw [FX5_numberAt_L5, if_pos (nI_le (Nat.le_refl _) (by omega))]
        · rw [FX8_number_L5, if_pos (nI_le (Nat.le_refl _) (by omega))]
  | succ m ih =>
    intro n9 m9 i a h1 h2 h2' hp
    cases n9 with
    | zero => omega
    | succ n9 =>
      cases m9 with
      | zero => omega
      | succ m9 =>
        have e255 : ∀ c : Int32, (c &&& 255) &&& 255 = c &&& 255 := fun c => by
          apply Int32.toBitVec_inj.mp
          simp only [Int32.toBitVec_and]
          rw [BitVec.and_assoc, BitVec.and_self]
        obtain ⟨a', q1, q2, q3⟩ := ih n9 m9 (i + 1) ((a <<< ((8 : Int32).toInt64 &&& 63)) ||| ((((MS_str x (s + i) &&& 255) &&& 255) : Int32).toInt64)) (by omega) (by omega) (by omega) (hP i a _ hp)
        refine ⟨a', ?_, ?_, q3⟩
        · rw [FX5_numberAt_L5, if_neg (nI_ge (by omega) (by omega)), nI_add, at_in h (by omega), Option.bind_some, nI_1]
          exact q1
        · rw [FX8_number_L5, if_neg (nI_ge (by omega) (by omega)), nI_add, m_ald _ (by omega) (by omega), Option.bind_some, nI_1]
          rw [e255] at q2
          exact q2
theorem both_num {sb : SB} {x : MS} {L s sz : Nat} (h : strR sb x L) (he : s + sz ≤ L) : ∃ z, FX5_numberAt sb (nI s) (nI sz) = some z ∧ FX8_number x (nI s) (nI sz) = some z := by
  have h3 := h.2.2.1
  obtain ⟨a, q1, q2, -⟩ := num_L h he (fun w3_4 w5_4 => some w3_4) (fun _ _ => True) (fun _ _ _ _ => trivial) sz 100000 100000 0 0 (by omega) (by omega) (by omega) trivial
  exact ⟨a, q1, q2⟩
theorem b_255lt (c : Int32) : (((c &&& 255) &&& 255 : Int32).toInt64).toBitVec.toNat < 256 := by
  have h1 : ((c &&& 255) &&& 255 : Int32).toBitVec.toNat < 256 := by
    simp only [Int32.toBitVec_and]
    rw [BitVec.toNat_and]
    exact Nat.lt_of_le_of_lt Nat.and_le_right (by decide)
  rw [Int32.toBitVec_toInt64, BitVec.signExtend_eq_setWidth_of_msb_false (by rw [BitVec.msb_eq_decide]; exact decide_eq_false (by omega)), BitVec.toNat_setWidth]
  exact Nat.lt_of_le_of_lt (Nat.mod_le _ _) h1
theorem num2_P (i : Nat) (z : Int64) (c : Int32) (h : i ≤ 1 → z.toBitVec.toNat < 256 ^ i) : i + 1 ≤ 2 → ((z <<< ((8 : Int32).toInt64 &&& 63)) ||| ((((c &&& 255) &&& 255) : Int32).toInt64)).toBitVec.toNat < 256 ^ (i + 1) := by
  intro hi
  have h1 := h (by omega)
  have h2 := b_255lt c
  rw [Int64.toBitVec_or, BitVec.toNat_or]
  have h3 : (z <<< ((8 : Int32).toInt64 &&& 63)).toBitVec.toNat < 256 ^ (i + 1) := by
    rw [Int64.toBitVec_shiftLeft, BitVec.shiftLeft_eq', BitVec.toNat_shiftLeft, show ((((8 : Int32).toInt64 &&& 63)).toBitVec.smod 64).toNat = 8 by decide]
    refine Nat.lt_of_le_of_lt (Nat.mod_le _ _) ?_
    rw [Nat.shiftLeft_eq, Nat.pow_succ]
    omega
  have e : 256 ^ (i + 1) = 2 ^ (8 * (i + 1)) := by rw [show (256 : Nat) = 2 ^ 8 from rfl, ← Nat.pow_mul]
  rw [e] at h3 ⊢
  refine Nat.or_lt_two_pow h3 (Nat.lt_of_lt_of_le h2 ?_)
  rw [← e, Nat.pow_succ]
  have : 0 < 256 ^ i := Nat.pow_pos (by omega)
  omega
/-- a number of two bytes -/
theorem both_num2 {sb : SB} {x : MS} {L s : Nat} (h : strR sb x L) (he : s + 2 ≤ L) : ∃ m, m < 65536 ∧ FX5_numberAt sb (nI s) 2 = some (Int64.ofNat m) ∧ FX8_number x (nI s) 2 = some (Int64.ofNat m) := by
  have h3 := h.2.2.1
  obtain ⟨a, q1, q2, q3⟩ := num_L (sz := 2) h he (fun w3_4 w5_4 => some w3_4) (fun i z => i ≤ 2 → z.toBitVec.toNat < 256 ^ i) (fun i z c hp => num2_P i z c (fun h1 => hp (by omega))) 2 100000 100000 0 0 (by omega) (by omega) (by omega) (fun _ => by decide)
  have e : a = Int64.ofNat a.toBitVec.toNat := by
    apply Int64.toBitVec_inj.mp
    simp
  refine ⟨a.toBitVec.toNat, q3 (by omega), ?_, ?_⟩
  · rw [← e]; exact q1
  · rw [← e]; exact q2
