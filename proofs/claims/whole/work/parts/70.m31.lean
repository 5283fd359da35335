/-! PART 70: both go over a TREE to send it -/
def gHead (d0 : SD) (sb0 : SB) (b0 : BS) (p2 p3 p4 : Int32) (lp : Int32 → SD → SB → Option (SD × SB)) : Option (SD × SB) :=
  if p3 < 0 then
    some (d0, sb0)
  else
    (FX0_birth b0 p2).bind fun r2 =>
    if (SD_since d0) < r2 then
      (FX0_told b0 p2).bind fun r5 =>
      if r5 = (-1) then
        (FX5_addClear sb0 p4 (1 <<< ((3 * p3) &&& 31))).bind fun s18 =>
        some ((SD_setcl d0 ((SD_cl d0) + 1)), s18)
      else
        if p3 = 0 then
          (FX0_number b0 r5).bind fun r14 =>
          (FX5_addWrite sb0 p4 r14).bind fun s16 =>
          some ((SD_setwr (SD_setsn d0 ((SD_sn d0) + 1)) ((SD_wr d0) + 1)), s16)
        else
          lp r5 (SD_setsn d0 ((SD_sn d0) + 1)) sb0
    else
      some (d0, sb0)
theorem n2_head (d0 : SD) (sb0 : SB) (b0 : BS) (p2 p3 p4 : Int32) : FX4_goOver_n2 d0 sb0 b0 p2 p3 p4 = gHead d0 sb0 b0 p2 p3 p4 (fun r5 d sb => FX4_goOver_n2_L98 b0 p2 p3 p4 r5 (fun dq13 sbq13 _ => some (dq13, sbq13)) 100000 d sb 0) := rfl
theorem n3_head (d0 : SD) (sb0 : SB) (b0 : BS) (p2 p3 p4 : Int32) : FX4_goOver_n3 d0 sb0 b0 p2 p3 p4 = gHead d0 sb0 b0 p2 p3 p4 (fun r5 d sb => FX4_goOver_n3_L98 b0 p2 p3 p4 r5 (fun dq13 sbq13 _ => some (dq13, sbq13)) 100000 d sb 0) := rfl
theorem n4_head (d0 : SD) (sb0 : SB) (b0 : BS) (p2 p3 p4 : Int32) : FX4_goOver_n4 d0 sb0 b0 p2 p3 p4 = gHead d0 sb0 b0 p2 p3 p4 (fun r5 d sb => FX4_goOver_n4_L98 b0 p2 p3 p4 r5 (fun dq13 sbq13 _ => some (dq13, sbq13)) 100000 d sb 0) := rfl
theorem n5_head (d0 : SD) (sb0 : SB) (b0 : BS) (p2 p3 p4 : Int32) : FX4_goOver_n5 d0 sb0 b0 p2 p3 p4 = gHead d0 sb0 b0 p2 p3 p4 (fun r5 d sb => FX4_goOver_n5_L98 b0 p2 p3 p4 r5 (fun dq13 sbq13 _ => some (dq13, sbq13)) 100000 d sb 0) := rfl
/-- what is sent: the volume, in both -/
def sendC (v N bz sn : Nat) (b : BS) (x0 : MS) (lev T : Nat → Option Nat) (B : Nat → Nat) : Prop :=
  v < 2 ∧ bRel N b lev T B none ∧ rRel x0 v bz sn lev T B ∧ bStr lev T ∧ ∀ k, k < 600 → lev k = some 0 → BS_num b k = MS_dat x0 (600 * v + k)
theorem fS_rT {x y : MS} (h : fS x y) (v s : Nat) : rT y v s = rT x v s ∧ rB y v s = rB x v s := by
  obtain ⟨a1, a2, a3, a4, a5, a6, a7, a8, a9, a10, a11, a12, a13, a14, a15, a16, a17⟩ := h
  unfold rT rB
  rw [a4, a5, a7, a8]
  exact ⟨rfl, rfl⟩
theorem pw8 : ∀ l : Fin 4, ((1 : Int32) <<< ((3 * nI l.val) &&& 31)) = nI (8 ^ l.val) := by decide
theorem go_head {v N bz sn l s pl L : Nat} {b : BS} {x0 : MS} {lev T : Nat → Option Nat} {B : Nat → Nat} {since : Int32} {d : SD} {sb : SB} {x : MS} (hC : sendC v N bz sn b x0 lev T B) (hl : l ≤ 3) (hs : s < 4822) (hsl : slv lev s = some (l + 1)) (ha : aS lev bz sn s) (h : sendS x0 since d sb x L) (hL : L + 19 ≤ 9766) :
    (∃ d' sb' x' L', (∀ lp, gHead d sb b (nI s) (nI l) (nI pl) lp = some (d', sb')) ∧ FX8_brings x (nI v) (ep s) (nI pl) (nI (8 ^ l)) since = some (0, x') ∧ sendS x0 since d' sb' x' L' ∧ L' ≤ L + 19) ∨
    (∃ k d' x', k < 600 ∧ T s = some k ∧ lev k = some l ∧ l ≠ 0 ∧ (∀ lp, gHead d sb b (nI s) (nI l) (nI pl) lp = lp (nI k) d' sb) ∧ FX8_brings x (nI v) (ep s) (nI pl) (nI (8 ^ l)) since = some (1, x') ∧ sendS x0 since d' sb x' L) := by
  obtain ⟨hv, hb, hr, hst, hd⟩ := hC
  obtain ⟨i1, i2, i3, i4, i5, i6, i7, i8⟩ := id h
  have hk6 : ∀ k, lev k ≠ none → k < 600 := fun k hk => (bRel_lev hb hk).2
  obtain ⟨t1, t2⟩ := c_told hb hs
  obtain ⟨f1, f2⟩ := fS_rT i8 v s
  obtain ⟨r1, r2⟩ := hr.2 s hs ha
  have hl0 : ¬ nI l < 0 := nlt_0 (by omega)
  by_cases hlt : since < nI (B s)
  · cases e : T s with
    | none =>
      obtain ⟨sb', y, c1, c2, c3, c4, c5, c6, c7, c8, c9⟩ := both_clear (nI pl) (nI (8 ^ l)) i1 i2 (by omega)
      refine Or.inl ⟨SD_setcl d (SD_cl d + 1), sb', MS_setcl y (MS_cl y + 1), L + 13, fun lp => ?_, ?_, ⟨⟨c3.1, c3.2.1, c3.2.2.1, c3.2.2.2⟩, c9, i3, ?_, ?_, ?_, ?_, fS_trans i8 (fS_trans c4 ⟨rfl, rfl, rfl, rfl, rfl, rfl, rfl, rfl, rfl, rfl, rfl, rfl, rfl, rfl, rfl, rfl, rfl⟩)⟩, by omega⟩
      · unfold gHead
        rw [if_neg hl0, t2, Option.bind_some, i3, if_pos hlt, t1, Option.bind_some, e, if_pos (show eO none = -1 from rfl), pw8 ⟨l, by omega⟩, c1, Option.bind_some]
      · unfold FX8_brings
        rw [m8_born x hv hs, Option.bind_some, f2, r2, if_pos hlt, m8_told x hv hs, Option.bind_some, f1, r1, e, if_pos (show eO none = -1 from rfl)]
        obtain ⟨y1, z1, z2⟩ := Option.bind_eq_some_iff.mp c2
        obtain ⟨y2, z3, z4⟩ := Option.bind_eq_some_iff.mp z2
        obtain ⟨y3, z5, z6⟩ := Option.bind_eq_some_iff.mp z4
        rw [z1, Option.bind_some, z3, Option.bind_some, z5, Option.bind_some, z6, Option.bind_some]
      · show SD_wr d = MS_wr y
        rw [c6]; exact i4
      · show SD_cl d + 1 = MS_cl y + 1
        rw [c7, i5]
      · show SD_sn d = MS_sn y
        rw [c8]; exact i6
      · show MS_recs y = (1 + MS_wr y) + (MS_cl y + 1)
        rw [c5, c6, c7, i7, Int32.add_assoc (1 + MS_wr x)]
    | some k =>
      obtain ⟨l2, u1, u2⟩ := hst s k hs e
      rw [hsl] at u2
      have hl2 : l2 = l := by have := Option.some.inj u2; omega
      rw [hl2] at u1
      have hk := hk6 k (by rw [u1]; simp)
      have hkm : ¬ eO (some k) = -1 := nI_m1 (by omega)
      by_cases hz : l = 0
      · subst hz
        obtain ⟨sb', y, c1, ⟨y2, c2, c2f, c2b⟩, c3, c4, c5, c6, c7, c8, c9⟩ := both_write1 (x := MS_setsn x (MS_sn x + 1)) (nI pl) (BS_num b k) ⟨i1.1, i1.2.1, i1.2.2.1, i1.2.2.2⟩ i2 (by omega)
        refine Or.inl ⟨SD_setwr (SD_setsn d (SD_sn d + 1)) (SD_wr d + 1), sb', MS_setwr y (MS_wr y + 1), L + 19, fun lp => ?_, ?_, ⟨⟨c3.1, c3.2.1, c3.2.2.1, c3.2.2.2⟩, c9, i3, ?_, ?_, ?_, ?_, fS_trans i8 (fS_trans ⟨rfl, rfl, rfl, rfl, rfl, rfl, rfl, rfl, rfl, rfl, rfl, rfl, rfl, rfl, rfl, rfl, rfl⟩ (fS_trans c4 ⟨rfl, rfl, rfl, rfl, rfl, rfl, rfl, rfl, rfl, rfl, rfl, rfl, rfl, rfl, rfl, rfl, rfl⟩))⟩, by omega⟩
        · unfold gHead FX0_number
          rw [if_neg hl0, t2, Option.bind_some, i3, if_pos hlt, t1, Option.bind_some, e, if_neg hkm, if_pos nI_0, show eO (some k) = nI k from rfl, m_lat _ hk (by omega), Option.bind_some, Option.bind_some, c1, Option.bind_some]
        · obtain ⟨y1, z1, z2⟩ := Option.bind_eq_some_iff.mp c2
          obtain ⟨y3, z3, z4⟩ := Option.bind_eq_some_iff.mp c2b
          have hdat : MS_dat y2 = MS_dat x0 := c2f.2.2.2.2.2.1.trans i8.2.2.2.2.2.1
          unfold FX8_brings
          rw [m8_born x hv hs, Option.bind_some, f2, r2, if_pos hlt, m8_told x hv hs, Option.bind_some, f1, r1, e, if_neg hkm, if_pos (by decide), z1, Option.bind_some, z2, Option.bind_some, show eO (some k) = nI k from rfl, mix 600 v k 600 rfl, hdat, m_ald _ (by omega) (by omega), Option.bind_some, ← hd k hk u1, z3, Option.bind_some, z4, Option.bind_some]
        · show SD_wr d + 1 = MS_wr y + 1
          rw [c6, i4]
        · show SD_cl d = MS_cl y
          rw [c7]; exact i5
        · show SD_sn d + 1 = MS_sn y
          rw [c8, i6]
        · show MS_recs y = (1 + (MS_wr y + 1)) + MS_cl y
          rw [c5, c6, c7]
          show MS_recs x + 1 = (1 + (MS_wr x + 1)) + MS_cl x
          rw [i7, ← Int32.add_assoc 1, Int32.add_assoc (1 + MS_wr x), Int32.add_comm (MS_cl x), ← Int32.add_assoc]
      · refine Or.inr ⟨k, SD_setsn d (SD_sn d + 1), MS_setsn x (MS_sn x + 1), hk, rfl, u1, hz, fun lp => ?_, ?_, ⟨⟨i1.1, i1.2.1, i1.2.2.1, i1.2.2.2⟩, i2, i3, i4, i5, ?_, i7, fS_trans i8 ⟨rfl, rfl, rfl, rfl, rfl, rfl, rfl, rfl, rfl, rfl, rfl, rfl, rfl, rfl, rfl, rfl, rfl⟩⟩⟩
        · unfold gHead
          rw [if_neg hl0, t2, Option.bind_some, i3, if_pos hlt, t1, Option.bind_some, e, if_neg hkm, if_neg (nI_ne0 (by omega) (by omega))]
          rfl
        · have hp : ¬ nI (8 ^ l) ≤ 1 := by
            have : l = 1 ∨ l = 2 ∨ l = 3 := by omega
            rcases this with q | q | q <;> subst q <;> decide
          unfold FX8_brings
          rw [m8_born x hv hs, Option.bind_some, f2, r2, if_pos hlt, m8_told x hv hs, Option.bind_some, f1, r1, e, if_neg hkm, if_neg hp]
        · show SD_sn d + 1 = MS_sn x + 1
          rw [i6]
  · refine Or.inl ⟨d, sb, x, L, fun lp => ?_, ?_, h, by omega⟩
    · unfold gHead
      rw [if_neg hl0, t2, Option.bind_some, i3, if_neg hlt]
    · unfold FX8_brings
      rw [m8_born x hv hs, Option.bind_some, f2, r2, if_neg hlt]
/-- a child's slot -/
theorem kid {lev T : Nat → Option Nat} {bz sn k l i : Nat} (hk : k < 600) (hl : lev k = some (l + 1)) (hi : i < 8) : 8 * k + i < 4822 ∧ slv lev (8 * k + i) = some (l + 1) ∧ aS lev bz sn (8 * k + i) ∧ ep (8 * k + i) = nI (8 * k + i) :=
  ⟨by omega, sl_in hk hi hl, (aS_lo (by omega)).mpr ⟨l, by rw [show (8 * k + i) / 8 = k by omega]; exact hl⟩, ep_lo (by omega)⟩
theorem pls : ∀ l : Fin 3, ∀ i : Fin 8, nI i.val <<< ((3 * (nI (l.val + 1) - 1)) &&& 31) = nI (i.val * 8 ^ l.val) := by decide
theorem go_0 {v N bz sn s pl L : Nat} {b : BS} {x0 : MS} {lev T : Nat → Option Nat} {B : Nat → Nat} {since : Int32} {d : SD} {sb : SB} {x : MS} (hC : sendC v N bz sn b x0 lev T B) (hs : s < 4822) (hsl : slv lev s = some 1) (ha : aS lev bz sn s) (h : sendS x0 since d sb x L) (hL : L ≤ 25 + 19 * pl) (hp : pl + 1 ≤ 512) :
    ∃ d' sb' r x' L', FX4_goOver_n2 d sb b (nI s) (nI 0) (nI pl) = some (d', sb') ∧ FX8_brings x (nI v) (ep s) (nI pl) 1 since = some (r, x') ∧ sendS x0 since d' sb' x' L' ∧ L' ≤ 25 + 19 * (pl + 1) := by
  rcases go_head (l := 0) (pl := pl) hC (by omega) hs hsl ha h (by omega) with ⟨d', sb', x', L', a1, a2, a3, a4⟩ | ⟨k, d', x', a0, a1, a2, a3, -⟩
  · exact ⟨d', sb', 0, x', L', by rw [n2_head]; exact a1 _, a2, a3, by omega⟩
  · exact absurd rfl a3
theorem told_x {v N bz sn s k L : Nat} {b : BS} {x0 : MS} {lev T : Nat → Option Nat} {B : Nat → Nat} {since : Int32} {d : SD} {sb : SB} {x : MS} (hC : sendC v N bz sn b x0 lev T B) (hs : s < 4822) (ha : aS lev bz sn s) (h : sendS x0 since d sb x L) (e : T s = some k) : FX8_told x (nI v) (ep s) = some (nI k) := by
  rw [m8_told x hC.1 hs, (fS_rT h.2.2.2.2.2.2.2 v s).1, (hC.2.2.1.2 s hs ha).1, e]
  rfl
theorem kid_ref (k i : Nat) : (8 : Int32) * nI k + nI i = nI (8 * k + i) := by rw [show (8 : Int32) = nI 8 from rfl, nI_mul, nI_add]
theorem go_1L {v N bz sn s k i0 j0 : Nat} {b : BS} {x0 : MS} {lev T : Nat → Option Nat} {B : Nat → Nat} {since : Int32} (hC : sendC v N bz sn b x0 lev T B) (hs : s < 4822) (ha : aS lev bz sn s) (hk : k < 600) (hT : T s = some k) (hlk : lev k = some 1) (hi0 : i0 < 8) (hj0 : j0 < 8) (v2 w2 w3 w5 w6 w8 : Int32) :
    ∀ (m i n9 m9 L : Nat) (d : SD) (sb : SB) (x : MS), i + m = 8 → m < n9 → m < m9 → sendS x0 since d sb x L → L ≤ 25 + 19 * (64 * i0 + 8 * j0 + i) →
      ∃ d' sb' x' L', (∀ k9 : SD → SB → Int32 → Option (SD × SB), FX4_goOver_n3_L98 b v2 (nI 1) (nI (64 * i0 + 8 * j0)) (nI k) k9 n9 d sb (nI i) = k9 d' sb' (nI 8)) ∧ (∀ k8 : MS → Int32 → Option (Int32 × MS), FX8_send_L286 (nI v) w2 w3 since w5 w6 (nI i0) w8 (nI j0) (ep s) k8 m9 x (nI i) = k8 x' (nI 8)) ∧ sendS x0 since d' sb' x' L' ∧ L' ≤ 25 + 19 * (64 * i0 + 8 * j0 + 8) := by
  intro m
  induction m with
  | zero =>
    intro i n9 m9 L d sb x h1 h2 h3 h hL
    cases n9 with
    | zero => omega
    | succ n9 =>
      cases m9 with
      | zero => omega
      | succ m9 =>
        have hi : i = 8 := by omega
        subst hi
        exact ⟨d, sb, x, L, fun k9 => by rw [FX4_goOver_n3_L98, if_pos (by decide)], fun k8 => by rw [FX8_send_L286, if_pos (by decide)], h, hL⟩
  | succ m ih =>
    intro i n9 m9 L d sb x h1 h2 h3 h hL
    cases n9 with
    | zero => omega
    | succ n9 =>
      cases m9 with
      | zero => omega
      | succ m9 =>
        obtain ⟨q1, q2, q3, q4⟩ := kid (T := T) (bz := bz) (sn := sn) (i := i) hk hlk (by omega)
        obtain ⟨d1, sb1, r, x1, L1, c1, c2, c3, c4⟩ := go_0 (pl := 64 * i0 + 8 * j0 + i) hC q1 q2 q3 h hL (by omega)
        obtain ⟨d', sb', x', L', e1, e2, e3, e4⟩ := ih (i + 1) n9 m9 L1 d1 sb1 x1 (by omega) (by omega) (by omega) c3 (by rw [show 64 * i0 + 8 * j0 + (i + 1) = 64 * i0 + 8 * j0 + i + 1 by omega]; exact c4)
        refine ⟨d', sb', x', L', ?_, ?_, e3, e4⟩
        · intro k9
          rw [FX4_goOver_n3_L98, if_neg (nge_lit (C := 8) (c := 8) (i := i) rfl (by omega) (by omega)), nI8, pls ⟨0, by omega⟩ ⟨i, by omega⟩, show nI 1 - 1 = nI 0 from by decide, show (i * 8 ^ 0) = i by omega, nI_add, c1, Option.bind_some, nI_1]
          exact e1 k9
        · intro k8
          rw [FX8_send_L286, if_neg (nge_lit (C := 8) (c := 8) (i := i) rfl (by omega) (by omega)), told_x hC hs ha h hT, Option.bind_some, kid_ref, mix 64 i0 (8 * j0) 64 rfl |> fun q => (by rw [show (8 : Int32) * nI j0 = nI (8 * j0) by rw [show (8 : Int32) = nI 8 from rfl, nI_mul]]; exact q : (64 : Int32) * nI i0 + 8 * nI j0 = nI (64 * i0 + 8 * j0)), nI_add, ← q4, c2, Option.bind_some, nI_1]
          exact e2 k8
