/-! PART 82: looks at a volume, of both -/
theorem has_b {v N bz sn g : Nat} {w : VS} {x : MS} {lev T : Nat → Option Nat} {B : Nat → Nat} (hv : v < 2) (h : vol v N bz sn g w x lev T B) (b : Int32) :
    (FX0_has (VS_b w) b = some 0 ∧ FX8_isBlock x (nI v) b = some 0) ∨ (∃ k, k < N ∧ b = nI k ∧ FX0_has (VS_b w) b = some 1 ∧ FX8_isBlock x (nI v) b = some 1) := by
  have hN6 : N ≤ 600 := h.1.2.1
  by_cases h0 : b < 0
  · left
    unfold FX0_has FX8_isBlock
    rw [if_pos h0, isVol hv, Option.bind_some, if_neg (by decide), if_pos h0]
    exact ⟨rfl, rfl⟩
  · obtain ⟨k, h1, rfl⟩ := nI_of h0
    unfold FX0_has FX8_isBlock
    rw [if_neg h0, isVol hv, Option.bind_some, if_neg (show ¬ (1 : Int32) = 0 by decide), if_neg h0, m_ald _ hv (by omega), Option.bind_some, h.1.1, h.2.2.2.2.2.1]
    by_cases h5 : k < N
    · rw [if_neg (nI_ge h5 (by omega))]
      exact Or.inr ⟨k, h5, rfl, rfl, rfl⟩
    · rw [if_pos (nI_le (show N ≤ k by omega) h1)]
      exact Or.inl ⟨rfl, rfl⟩
theorem c_level {N k : Nat} {b : BS} {lev T : Nat → Option Nat} {B : Nat → Nat} (h : bRel N b lev T B none) (hk : k < 600) : FX0_level b (nI k) = some (eO (lev k)) := by
  unfold FX0_level
  rw [m_at _ hk (by omega), Option.bind_some, h.2.2.1 k hk]
theorem c_bob {N k : Nat} {b : BS} {lev T : Nat → Option Nat} {B : Nat → Nat} (h : bRel N b lev T B none) (hk : k < 600) : FX0_birthOfBlock b (nI k) = some (if lev k = none then -1 else BS_bob b k) := by
  unfold FX0_birthOfBlock
  rw [m_at _ hk (by omega), Option.bind_some, h.2.2.1 k hk, m_at _ hk (by omega), Option.bind_some]
  cases e : lev k with
  | none => rfl
  | some l =>
    have := (h.2.2.2.1 k l e).2
    rw [if_neg (show ¬ eO (some l) = -1 from nI_m1 (by omega)), if_neg (by simp)]
theorem c_tel {N k : Nat} {b : BS} {lev T : Nat → Option Nat} {B : Nat → Nat} (h : bRel N b lev T B none) (hk : k < 600) : FX0_tellers b (nI k) = some (BS_tel b k) ∧ (lev k = none → BS_tel b k = 0) := by
  unfold FX0_tellers
  rw [m_at _ hk (by omega), Option.bind_some]
  refine ⟨rfl, fun e => ?_⟩
  rw [h.2.2.2.2.2.2.2.1 k hk, cntT_zero 4822 (fun s hs e2 => h.2.2.2.2.2.1 s k hs e2 e)]
  rfl
/-- block: what the class tells of a block that is there -/
def clsBlock (b : BS) (k p3 : Int32) : Option Int32 :=
      if p3 = 0 then
        (FX0_level b k).bind fun r11 =>
        some r11
      else
        if p3 = 1 then
          (FX0_birthOfBlock b k).bind fun r16 =>
          some r16
        else
          if p3 = 2 then
            (FX0_tellers b k).bind fun r21 =>
            some r21
          else
            some (-1)
def refBlock (X : MS) (p1 p2 p3 : Int32) : Option (Int32 × MS) :=
    if p3 < 0 then
      some ((-1), X)
    else
      if p3 ≤ 2 then
        (ald 1200 (MS_lev X) ((600 * p1) + p2)).bind fun r6 =>
        if p3 = 0 then
          some (r6, X)
        else blkCnt X p1 p2 p3 r6
      else
        some ((-1), X)
theorem vol_block {v N bz sn g k : Nat} {w : VS} {x : MS} {lev T : Nat → Option Nat} {B : Nat → Nat} (hv : v < 2) (h : vol v N bz sn g w x lev T B) (hst : stl lev T) (hk : k < N) (p3 : Int32) : ∃ q, clsBlock (VS_b w) (nI k) p3 = some q ∧ refBlock x (nI v) (nI k) p3 = some (q, x) := by
  have hN6 : N ≤ 600 := h.1.2.1
  have e0 : ald 1200 (MS_lev x) ((600 * nI v) + nI k) = some (eO (lev k)) := by rw [mix 600 v k 600 rfl, m_ald _ (by omega) (by omega), h.2.1.1 k (by omega)]
  unfold clsBlock refBlock
  by_cases h0 : p3 = 0
  · subst h0
    rw [if_pos rfl, c_level h.1 (by omega), Option.bind_some, if_neg (by decide), if_pos (by decide), e0, Option.bind_some, if_pos rfl]
    exact ⟨_, rfl, rfl⟩
  · rw [if_neg h0]
    have hb := c_bob h.1 (show k < 600 by omega)
    obtain ⟨ht, ht0⟩ := c_tel h.1 (show k < 600 by omega)
    have key : ∀ p3 : Int32, p3 = 1 ∨ p3 = 2 → blkCnt x (nI v) (nI k) p3 (eO (lev k)) = some (if p3 = 1 then (if lev k = none then -1 else BS_bob (VS_b w) k) else BS_tel (VS_b w) k, x) := by
      intro p3 hp
      cases e : lev k with
      | none =>
        rw [show eO none = -1 from rfl, blk_none, m_ald _ hv (by omega), Option.bind_some]
        rcases hp with rfl | rfl
        · rfl
        · rw [if_neg (by decide), if_neg (by decide), ht0 e]
      | some l =>
        rw [show eO (some l) = nI l from rfl, blk_some hv h hst (by omega) e, if_neg (show ¬ (some l = none) by simp)]
    by_cases h1 : p3 = 1
    · subst h1
      have q := key 1 (Or.inl rfl)
      rw [if_pos rfl] at q
      rw [if_pos rfl, hb, Option.bind_some, if_neg (show ¬ (1 : Int32) < 0 by decide), if_pos (show (1 : Int32) ≤ 2 by decide), e0, Option.bind_some, if_neg (show ¬ (1 : Int32) = 0 by decide), q]
      exact ⟨_, rfl, rfl⟩
    · rw [if_neg h1]
      by_cases h2 : p3 = 2
      · subst h2
        have q := key 2 (Or.inr rfl)
        rw [if_neg (by decide)] at q
        rw [if_pos rfl, ht, Option.bind_some, if_neg (show ¬ (2 : Int32) < 0 by decide), if_pos (show (2 : Int32) ≤ 2 by decide), e0, Option.bind_some, if_neg (show ¬ (2 : Int32) = 0 by decide), q]
        exact ⟨_, rfl, rfl⟩
      · rw [if_neg h2]
        by_cases hn : p3 < 0
        · rw [if_pos hn]
          exact ⟨_, rfl, rfl⟩
        · obtain ⟨m, m1, rfl⟩ := nI_of hn
          have hm : ¬ m ≤ 2 := fun z => by
            have : m = 0 ∨ m = 1 ∨ m = 2 := by omega
            rcases this with rfl | rfl | rfl
            · exact h0 rfl
            · exact h1 rfl
            · exact h2 rfl
          rw [if_neg hn, if_neg (show ¬ nI m ≤ 2 by rw [show (2 : Int32) = nI 2 from rfl]; exact nI_ge (by omega) m1)]
          exact ⟨_, rfl, rfl⟩
/-- pointer -/
def clsPtr (b : BS) (p2 p3 p4 : Int32) : Option Int32 :=
      if p3 < 0 then
        some (-1)
      else
        if p3 < 8 then
          (FX0_level b p2).bind fun r12 =>
          if 1 ≤ r12 then
            if p4 = 0 then
              (FX0_told b ((p2 * 8) + p3)).bind fun r18 =>
              some r18
            else
              if p4 = 1 then
                (FX0_birth b ((p2 * 8) + p3)).bind fun r23 =>
                some r23
              else
                some (-1)
          else
            some (-1)
        else
          some (-1)
def refPtr (X : MS) (p1 p2 p3 p4 : Int32) : Option (Int32 × MS) :=
    (ald 1200 (MS_lev X) ((600 * p1) + p2)).bind fun r4 =>
    if r4 < 1 then
      some ((-1), X)
    else
      if p3 < 0 then
        some ((-1), X)
      else
        if p3 ≤ 7 then
          if p4 = 0 then
            (FX8_told X p1 ((8 * p2) + p3)).bind fun r13 =>
            some (r13, X)
          else
            if p4 = 1 then
              (FX8_born X p1 ((8 * p2) + p3)).bind fun r11 =>
              some (r11, X)
            else
              some ((-1), X)
        else
          some ((-1), X)
theorem vol_ptr {v N bz sn g k : Nat} {w : VS} {x : MS} {lev T : Nat → Option Nat} {B : Nat → Nat} (hv : v < 2) (h : vol v N bz sn g w x lev T B) (hk : k < N) (p3 p4 : Int32) : ∃ q, clsPtr (VS_b w) (nI k) p3 p4 = some q ∧ refPtr x (nI v) (nI k) p3 p4 = some (q, x) := by
  have hN6 : N ≤ 600 := h.1.2.1
  have e0 : ald 1200 (MS_lev x) ((600 * nI v) + nI k) = some (eO (lev k)) := by rw [mix 600 v k 600 rfl, m_ald _ (by omega) (by omega), h.2.1.1 k (by omega)]
  unfold clsPtr refPtr
  rw [e0, Option.bind_some, c_level h.1 (by omega), Option.bind_some]
  by_cases hl : ∃ y, lev k = some (y + 1)
  · obtain ⟨y, hy⟩ := hl
    have hy3 := (h.1.2.2.2.1 k _ hy).2
    have a1 : ¬ eO (lev k) < 1 := by rw [hy, show (1 : Int32) = nI 1 from rfl]; exact nI_nlt (by omega) (by omega)
    have a2 : 1 ≤ eO (lev k) := by rw [hy, show (1 : Int32) = nI 1 from rfl]; exact nI_le (by omega) (by omega)
    rw [if_neg a1, if_pos a2]
    by_cases hn : p3 < 0
    · rw [if_pos hn, if_pos hn]
      exact ⟨_, rfl, rfl⟩
    · obtain ⟨i, i1, rfl⟩ := nI_of hn
      rw [if_neg hn, if_neg hn]
      by_cases hi : i < 8
      · obtain ⟨q1, q2, q3, q4⟩ := kid (T := T) (bz := bz) (sn := sn) (i := i) (show k < 600 by omega) hy hi
        obtain ⟨t1, t2⟩ := c_told h.1 q1
        obtain ⟨r1, r2⟩ := h.2.1.2 _ q1 q3
        have t8 := m8_told x hv q1
        have b8 := m8_born x hv q1
        rw [q4] at t8 b8
        rw [if_pos (show nI i < 8 by rw [show (8 : Int32) = nI 8 from rfl]; exact nI_lt hi (by omega)), if_pos (show nI i ≤ 7 by rw [show (7 : Int32) = nI 7 from rfl]; exact nI_le (by omega) (by omega)), nI8, kid_ref, t1, t2, t8, b8, r1, r2, Option.bind_some, Option.bind_some, Option.bind_some, Option.bind_some]
        by_cases h0 : p4 = 0
        · rw [if_pos h0, if_pos h0]; exact ⟨_, rfl, rfl⟩
        · rw [if_neg h0, if_neg h0]
          by_cases h1 : p4 = 1
          · rw [if_pos h1, if_pos h1]; exact ⟨_, rfl, rfl⟩
          · rw [if_neg h1, if_neg h1]; exact ⟨_, rfl, rfl⟩
      · rw [if_neg (show ¬ nI i < 8 by rw [show (8 : Int32) = nI 8 from rfl]; exact nI_nlt (by omega) i1), if_neg (show ¬ nI i ≤ 7 by rw [show (7 : Int32) = nI 7 from rfl]; exact nI_ge (by omega) i1)]
        exact ⟨_, rfl, rfl⟩
  · have a1 : eO (lev k) < 1 ∧ ¬ 1 ≤ eO (lev k) := by
      cases e : lev k with
      | none => decide
      | some y =>
        cases y with
        | zero => decide
        | succ y => exact absurd ⟨y, e⟩ hl
    rw [if_pos a1.1, if_neg a1.2]
    refine ⟨-1, ?_, rfl⟩
    split
    · rfl
    · split <;> rfl
def clsData (b : BS) (p2 : Int32) : Option Int64 :=
      (FX0_level b p2).bind fun r10 =>
      if r10 = 0 then
        (FX0_number b p2).bind fun r15 =>
        some r15
      else
        some 0
def refData (X : MS) (p1 p2 : Int32) : Option (Int64 × MS) :=
    (ald 1200 (MS_lev X) ((600 * p1) + p2)).bind fun r4 =>
    if r4 = 0 then
      (ald 1200 (MS_dat X) ((600 * p1) + p2)).bind fun r7 =>
      some (r7, X)
    else
      some (0, X)
theorem vol_data {v N bz sn g k : Nat} {w : VS} {x : MS} {lev T : Nat → Option Nat} {B : Nat → Nat} (hv : v < 2) (h : vol v N bz sn g w x lev T B) (hk : k < N) : ∃ q, clsData (VS_b w) (nI k) = some q ∧ refData x (nI v) (nI k) = some (q, x) := by
  have hN6 : N ≤ 600 := h.1.2.1
  unfold clsData refData FX0_number
  rw [mix 600 v k 600 rfl, m_ald _ (by omega) (by omega), Option.bind_some, h.2.1.1 k (by omega), c_level h.1 (by omega), Option.bind_some]
  by_cases e : lev k = some 0
  · rw [e, if_pos (show eO (some 0) = 0 from rfl), if_pos (show eO (some 0) = 0 from rfl), m_lat _ (by omega) (by omega), Option.bind_some, Option.bind_some, m_ald _ (by omega) (by omega), Option.bind_some, h.2.2.2.2.2.2.2.2.1 k (by omega) e]
    exact ⟨_, rfl, rfl⟩
  · have : ¬ eO (lev k) = 0 := by
      cases e2 : lev k with
      | none => decide
      | some y =>
        have := (h.1.2.2.2.1 k y e2).2
        have : y ≠ 0 := fun z => e (by rw [e2, z])
        exact nI_ne0 (by omega) (by omega)
    rw [if_neg this, if_neg this]
    exact ⟨_, rfl, rfl⟩
/-- snap -/
theorem vol_snapk {v N bz sn g m : Nat} {w : VS} {x : MS} {lev T : Nat → Option Nat} {B : Nat → Nat} (hv : v < 2) (h : vol v N bz sn g w x lev T B) (hm : m < sn) :
    ∃ a1 a2 a3 a4, FX6_markOf w (nI m) = some a1 ∧ ald 40 (MS_sm x) ((20 * nI v) + nI m) = some a1 ∧ FX6_generationOf w (nI m) = some a2 ∧ ald 40 (MS_sg x) ((20 * nI v) + nI m) = some a2 ∧
      FX0_told (VS_b w) (4802 + nI m) = some a3 ∧ ald 44 (MS_tt x) (((22 * nI v) + 2) + nI m) = some a3 ∧ FX0_birth (VS_b w) (4802 + nI m) = some a4 ∧ ald 44 (MS_tb x) (((22 * nI v) + 2) + nI m) = some a4 := by
  have hsn := h.2.2.2.2.2.2.2.1.2.2
  obtain ⟨t1, t2⟩ := c_told h.1 (show 4802 + m < 4822 by omega)
  obtain ⟨c1, c2⟩ := tree_x h (by omega : 2 + m < 22) (Or.inr (Or.inr (by omega))) (4802 + m) (by omega)
  obtain ⟨d1, d2⟩ := h.2.2.2.2.2.2.2.2.2.2 m hm
  refine ⟨_, _, _, _, by unfold FX6_markOf; rw [m_lat _ (by omega) (by omega), Option.bind_some], by rw [mix 20 v m 20 rfl, m_ald _ (by omega) (by omega), d1], by unfold FX6_generationOf; rw [m_at _ (by omega) (by omega), Option.bind_some], by rw [mix 20 v m 20 rfl, m_ald _ (by omega) (by omega), d2], by rw [i4802, nI_add]; exact t1, by rw [p2', m_ald _ (by omega) (by omega), c1], by rw [i4802, nI_add]; exact t2, by rw [p2', m_ald _ (by omega) (by omega), c2]⟩
/-- look: LIVE, HIDDEN -/
theorem vol_lh {v N bz sn g : Nat} {w : VS} {x : MS} {lev T : Nat → Option Nat} {B : Nat → Nat} (hv : v < 2) (h : vol v N bz sn g w x lev T B) :
    ∃ a1 a2 a3, FX0_told (VS_b w) 4800 = some a1 ∧ ald 44 (MS_tt x) ((22 * nI v) + 0) = some a1 ∧ FX0_birth (VS_b w) 4800 = some a2 ∧ ald 44 (MS_tb x) ((22 * nI v) + 0) = some a2 ∧
      FX0_told (VS_b w) 4801 = some a3 ∧ (MS_busy x v = 0 → a3 = -1) ∧ (¬ MS_busy x v = 0 → ald 44 (MS_tt x) ((22 * nI v) + 1) = some a3) := by
  obtain ⟨t1, t2⟩ := c_told h.1 (show 4800 < 4822 by omega)
  obtain ⟨t3, -⟩ := c_told h.1 (show 4801 < 4822 by omega)
  obtain ⟨c1, c2⟩ := tree_x h (by omega : 0 < 22) (Or.inl rfl) 4800 rfl
  rw [Nat.add_zero] at c1 c2
  have b2 := h.2.2.2.2.2.2.1.2.1
  have b3 := h.2.2.2.2.2.2.1.2.2
  refine ⟨_, _, _, t1, by rw [p0 22 v 22 rfl, m_ald _ (by omega) (by omega), c1], t2, by rw [p0 22 v 22 rfl, m_ald _ (by omega) (by omega), c2], t3, fun e => ?_, fun e => ?_⟩
  · have hz : bz = 0 := by
      rw [b2] at e
      exact (nI_eq (b := 0) (by omega) (by omega)).mp e
    rw [h.2.2.2.2.2.2.2.2.2.1 1 (by omega) (fun q => by rcases q with q | q | q <;> omega)]
    rfl
  · have hz : bz = 1 := by
      have : bz ≠ 0 := fun z => e (by rw [b2, z]; rfl)
      omega
    obtain ⟨d1, -⟩ := tree_x h (by omega : 1 < 22) (Or.inr (Or.inl ⟨rfl, hz⟩)) 4801 rfl
    rw [p1' 22 v 22 rfl, m_ald _ (by omega) (by omega), d1]
