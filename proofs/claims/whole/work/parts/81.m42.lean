/-! PART 81: what a look tells of a volume -/
theorem nI_div8 {j : Nat} (h : j < 2 ^ 31) : nI j / 8 = nI (j / 8) := by
  apply Int32.toInt_inj.mp
  rw [lg_idiv_nonneg (by rw [nI_toInt h]; omega) (by decide), nI_toInt h, nI_toInt (by omega), show ((8 : Int32).toInt) = 8 by decide]
  omega
theorem cntT_split (T : Nat → Option Nat) (k a : Nat) : ∀ n, cntT (a + n) T k = cntT a T k + cntT n (fun t => T (a + t)) k := by
  intro n
  induction n with
  | zero => rfl
  | succ n ih =>
    show cntT (a + n) T k + (if T (a + n) = some k then 1 else 0) = cntT a T k + (cntT n (fun t => T (a + t)) k + (if T (a + n) = some k then 1 else 0))
    rw [ih, Nat.add_assoc]
theorem cntT_zero {T : Nat → Option Nat} {k : Nat} : ∀ n, (∀ s, s < n → T s ≠ some k) → cntT n T k = 0 := by
  intro n
  induction n with
  | zero => intro _; rfl
  | succ n ih =>
    intro h
    show cntT n T k + (if T n = some k then 1 else 0) = 0
    rw [ih (fun s hs => h s (by omega)), if_neg (h n (by omega))]
/-- what of the births is told: the one of all that tell -/
def whn (bob : Int32) (n : Nat) : Int32 := if n = 0 then -1 else bob
theorem blk_L55 {v N bz sn g b : Nat} {w : VS} {x : MS} {lev T : Nat → Option Nat} {B : Nat → Nat} (hv : v < 2) (h : vol v N bz sn g w x lev T B) (hb : b < 600) {l : Int32} (hl : ¬ l = -1) (v3 : Int32) (k9 : MS → Int32 → Int32 → Int32 → Option (Int32 × MS)) :
    ∀ (m j n9 : Nat), j + m = 22 → m < n9 → FX8_block_L55 (nI v) (nI b) v3 l k9 n9 x (nI (cntT j (fun t => T (4800 + t)) b)) (whn (BS_bob (VS_b w) b) (cntT j (fun t => T (4800 + t)) b)) (nI j) =
      k9 x (nI (cntT 22 (fun t => T (4800 + t)) b)) (whn (BS_bob (VS_b w) b) (cntT 22 (fun t => T (4800 + t)) b)) (nI 22) := by
  obtain ⟨hbR, hr, hs, hB, ⟨hg1, hg2, hg3⟩, hN, ⟨hz1, hz2, hz3⟩, ⟨hs1, hs2, hs3⟩, hd, hT0, hM⟩ := id h
  intro m
  induction m with
  | zero =>
    intro j n9 h1 h2
    cases n9 with
    | zero => omega
    | succ n9 =>
      have hj : j = 22 := by omega
      subst hj
      rw [FX8_block_L55, if_pos (by decide)]
  | succ m ih =>
    intro j n9 h1 h2
    cases n9 with
    | zero => omega
    | succ n9 =>
      obtain ⟨t1, t2⟩ := m8_isTree (t := j) hv hz2 hz3 hs2 hs3 (by omega)
      have next := ih (j + 1) n9 (by omega) (by omega)
      have hstep : cntT (j + 1) (fun t => T (4800 + t)) b = cntT j (fun t => T (4800 + t)) b + (if T (4800 + j) = some b then 1 else 0) := rfl
      rw [FX8_block_L55, if_neg (nge_lit (C := 22) (c := 22) (i := j) rfl (by omega) (by omega)), if_neg hl, nI_1]
      by_cases hlt : liveT bz sn j
      · obtain ⟨e1, e2⟩ := tree_x h (by omega : j < 22) hlt (4800 + j) rfl
        rw [t1 hlt, Option.bind_some, if_neg (by decide), mix 22 v j 22 rfl, m_ald _ (by omega) (by omega), Option.bind_some, e1]
        by_cases hk : T (4800 + j) = some b
        · have hbob : BS_bob (VS_b w) b = nI (B (4800 + j)) := hbR.2.2.2.2.2.2.2.2.1 (4800 + j) b (by omega) hk
          rw [if_pos (show eO (T (4800 + j)) = nI b by rw [hk]; rfl), m_ald _ (by omega) (by omega), Option.bind_some, e2, ← hbob]
          rw [hstep, if_pos hk] at next
          unfold whn at next ⊢
          rw [if_neg (by omega)] at next
          rw [nI_1]
          exact next
        · rw [if_neg (fun z => hk (by
            cases e : T (4800 + j) with
            | none => rw [e] at z; exact absurd z.symm (nI_m1 (by omega))
            | some k2 =>
              rw [e] at z
              have := (bRel_lev hbR (hbR.2.2.2.2.2.1 (4800 + j) k2 (by omega) e)).2
              have := (nI_eq (by omega) (by omega)).mp z
              rw [this]))]
          rw [hstep, if_neg hk, Nat.add_zero] at next
          exact next
      · rw [t2 hlt, Option.bind_some, if_pos rfl]
        have hnn : T (4800 + j) = none := hT0 j (by omega) hlt
        rw [hstep, hnn, if_neg (by simp), Nat.add_zero] at next
        exact next
theorem blk_L123 {v N bz sn g b c0 : Nat} {w : VS} {x : MS} {lev T : Nat → Option Nat} {B : Nat → Nat} (hv : v < 2) (h : vol v N bz sn g w x lev T B) (hb : b < 600) {l : Int32} (hl : ¬ l = -1) (v3 : Int32) (k9 : MS → Int32 → Int32 → Int32 → Option (Int32 × MS)) :
    ∀ (m j n9 : Nat), j + m = 8 * N → m < n9 → FX8_block_L123 (nI v) (nI b) v3 l k9 n9 x (nI (c0 + cntT j T b)) (whn (BS_bob (VS_b w) b) (c0 + cntT j T b)) (nI j) =
      k9 x (nI (c0 + cntT (8 * N) T b)) (whn (BS_bob (VS_b w) b) (c0 + cntT (8 * N) T b)) (nI (8 * N)) := by
  obtain ⟨hbR, hr, hs, hB, ⟨hg1, hg2, hg3⟩, hN, ⟨hz1, hz2, hz3⟩, ⟨hs1, hs2, hs3⟩, hd, hT0, hM⟩ := id h
  have hN6 : N ≤ 600 := hbR.2.1
  have e8 : (8 : Int32) * nI N = nI (8 * N) := by rw [show (8 : Int32) = nI 8 from rfl, nI_mul]
  intro m
  induction m with
  | zero =>
    intro j n9 h1 h2
    cases n9 with
    | zero => omega
    | succ n9 =>
      have hj : j = 8 * N := by omega
      subst hj
      rw [FX8_block_L123, m_ald _ hv (by omega), Option.bind_some, hN, e8, if_pos (nI_le (Nat.le_refl _) (by omega))]
  | succ m ih =>
    intro j n9 h1 h2
    cases n9 with
    | zero => omega
    | succ n9 =>
      have next := ih (j + 1) n9 (by omega) (by omega)
      have hstep : cntT (j + 1) T b = cntT j T b + (if T j = some b then 1 else 0) := rfl
      rw [FX8_block_L123, m_ald _ hv (by omega), Option.bind_some, hN, e8, if_neg (nI_ge (by omega) (by omega)), if_neg hl, nI_div8 (by omega), mix 600 v (j / 8) 600 rfl, m_ald _ (by omega) (by omega), Option.bind_some, hr.1 (j / 8) (by omega), nI_1]
      by_cases hlv : ∃ y, lev (j / 8) = some (y + 1)
      · obtain ⟨y, hy⟩ := hlv
        have hy3 := (hbR.2.2.2.1 _ _ hy).2
        obtain ⟨q1, q2⟩ := hr.2 j (by omega) ((aS_lo (by omega)).mpr ⟨y, hy⟩)
        have ht := m8_told x hv (show j < 4822 by omega)
        have hbn := m8_born x hv (show j < 4822 by omega)
        rw [ep_lo (by omega)] at ht hbn
        rw [if_neg (show ¬ eO (lev (j / 8)) < 1 by rw [hy, show (1 : Int32) = nI 1 from rfl]; exact nI_nlt (by omega) (by omega)), ht, Option.bind_some, q1]
        by_cases hk : T j = some b
        · have hbob : BS_bob (VS_b w) b = nI (B j) := hbR.2.2.2.2.2.2.2.2.1 j b (by omega) hk
          rw [if_pos (show eO (T j) = nI b by rw [hk]; rfl), hbn, Option.bind_some, q2, ← hbob]
          rw [hstep, if_pos hk] at next
          unfold whn at next ⊢
          rw [if_neg (by omega)] at next
          rw [nI_1]
          exact next
        · rw [if_neg (fun z => hk (by
            cases e : T j with
            | none => rw [e] at z; exact absurd z.symm (nI_m1 (by omega))
            | some k2 =>
              rw [e] at z
              have := (bRel_lev hbR (hbR.2.2.2.2.2.1 j k2 (by omega) e)).2
              have := (nI_eq (by omega) (by omega)).mp z
              rw [this]))]
          rw [hstep, if_neg hk, Nat.add_zero] at next
          exact next
      · have hlt : eO (lev (j / 8)) < 1 := by
          cases e : lev (j / 8) with
          | none => decide
          | some y =>
            cases y with
            | zero => decide
            | succ y => exact absurd ⟨y, e⟩ hlv
        rw [if_pos hlt]
        have hnn : T j ≠ some b := fun e => by
          obtain ⟨l2, u1, u2⟩ := hs j b (by omega) e
          unfold slv at u2
          rw [if_pos (by omega)] at u2
          exact hlv ⟨l2, u2⟩
        rw [hstep, if_neg hnn, Nat.add_zero] at next
        exact next
theorem cnt_all2 {v N bz sn g b : Nat} {w : VS} {x : MS} {lev T : Nat → Option Nat} {B : Nat → Nat} (h : vol v N bz sn g w x lev T B) : cntT 4822 T b = cntT 22 (fun t => T (4800 + t)) b + cntT (8 * N) T b := by
  have hN6 : N ≤ 600 := h.1.2.1
  have e1 := cntT_split T b 4800 22
  have e2 := cntT_split T b (8 * N) (4800 - 8 * N)
  have e3 : cntT (4800 - 8 * N) (fun t => T (8 * N + t)) b = 0 := by
    refine cntT_zero _ (fun s hs e => ?_)
    obtain ⟨l2, u1, u2⟩ := h.2.2.1 (8 * N + s) b (by omega) e
    unfold slv at u2
    rw [if_pos (by omega)] at u2
    have := (h.1.2.2.2.1 _ _ u2).1
    omega
  rw [show 8 * N + (4800 - 8 * N) = 4800 by omega, e3, Nat.add_zero] at e2
  rw [e2] at e1
  rw [show (4822 : Nat) = 4800 + 22 from rfl, e1, Nat.add_comm]
/-- the reference's two counts -/
def blkCnt (x : MS) (p1 p2 p3 r6 : Int32) : Option (Int32 × MS) :=
          FX8_block_L55 p1 p2 p3 r6 (fun xq19 w5_19 w6_19 w7_19 =>
            FX8_block_L123 p1 p2 p3 r6 (fun xq32 w5_32 w6_32 w7_32 =>
              if p3 = 1 then
                some (w6_32, xq32)
              else
                some (w5_32, xq32)) 100000 xq19 w5_19 w6_19 0) 100000 x 0 (-1) 0
theorem blk_some {v N bz sn g b l : Nat} {w : VS} {x : MS} {lev T : Nat → Option Nat} {B : Nat → Nat} (hv : v < 2) (h : vol v N bz sn g w x lev T B) (hst : stl lev T) (hb : b < 600) (hl : lev b = some l) (p3 : Int32) :
    blkCnt x (nI v) (nI b) p3 (nI l) = some (if p3 = 1 then BS_bob (VS_b w) b else BS_tel (VS_b w) b, x) := by
  have hN6 : N ≤ 600 := h.1.2.1
  have hl3 := (h.1.2.2.2.1 b l hl).2
  have hlm : ¬ nI l = -1 := nI_m1 (by omega)
  have q1 := blk_L55 hv h hb hlm p3 (fun xq19 w5_19 w6_19 _ =>
            FX8_block_L123 (nI v) (nI b) p3 (nI l) (fun xq32 w5_32 w6_32 w7_32 =>
              if p3 = 1 then
                some (w6_32, xq32)
              else
                some (w5_32, xq32)) 100000 xq19 w5_19 w6_19 0) 22 0 100000 (by omega) (by omega)
  have q2 := blk_L123 (c0 := cntT 22 (fun t => T (4800 + t)) b) hv h hb hlm p3 (fun xq32 w5_32 w6_32 _ =>
              if p3 = 1 then
                some (w6_32, xq32)
              else
                some (w5_32, xq32)) (8 * N) 0 100000 (by omega) (by omega)
  have hpos := hst b (by rw [hl]; simp)
  have hall := cnt_all2 (b := b) h
  have htel := h.1.2.2.2.2.2.2.2.1 b hb
  have q1' : blkCnt x (nI v) (nI b) p3 (nI l) = _ := q1
  rw [q1']
  refine Eq.trans q2 ?_
  rw [← hall, ← htel]
  unfold whn
  rw [if_neg (show ¬ cntT 4822 T b = 0 by omega)]
  by_cases e : p3 = 1
  · rw [if_pos e, if_pos e]
  · rw [if_neg e, if_neg e]
theorem blk_none {x : MS} {p1 p2 p3 : Int32} : blkCnt x p1 p2 p3 (-1) = (ald 2 (MS_many x) p1).bind (fun r20 => if p3 = 1 then some (-1, x) else some (0, x)) := by
  unfold blkCnt
  have e1 : ∀ n9 k9, FX8_block_L55 p1 p2 p3 (-1) k9 (n9 + 1) x 0 (-1) 0 = k9 x 0 (-1) 0 := by
    intro n9 k9
    rw [FX8_block_L55, if_neg (by decide), if_pos rfl]
  have e2 : ∀ n9, FX8_block_L123 p1 p2 p3 (-1) (fun xq32 w5_32 w6_32 _ => if p3 = 1 then some (w6_32, xq32) else some (w5_32, xq32)) (n9 + 1) x 0 (-1) 0 = (ald 2 (MS_many x) p1).bind (fun r20 => if p3 = 1 then some (-1, x) else some (0, x)) := by
    intro n9
    rw [FX8_block_L123]
    congr 1
    funext r20
    split
    · rfl
    · rw [if_pos rfl]
  refine (e1 99999 _).trans (e2 99999)
